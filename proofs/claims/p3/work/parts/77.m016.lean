
def o_St_sendRound_at_gr_3 : or_T := (43, 13, [(0, (2, 0, 0, [10])), (1, (0, 0, 71, [])), (3, (0, 0, 71, [])), (4, (0, 0, 71, [])), (5, (0, 1, 72, [])), (7, (2, 0, 0, [123])), (8, (0, 0, 383, [])), (11, (2, 0, 0, [118])), (12, (0, -1, 383, []))], [(10, [12, 7, 3], []), (9, [7, 0], [7]), (9, [11, 0], [2]), (10, [8, 7, 3], []), (7, [4, 5], [2]), (9, [5, 0], [0]), (20, [0, 1, 3, 4], [60, 0, 2, 513, 2, 7]), (20, [0, 1], [60, 0, 2, 509, 2, 7])], [(12, (0, 0, 383, []))], [], [], [], [(4, 5, -4294967296, -1)])
theorem oo_St_sendRound_at_gr_3 {kA : Nat → ClassId} : or_ok PRD kA GG o_St_sendRound_at_gr_3 := by
  refine or_mk fun A ta ws vs hD hth hl => ?_
  intro t0 r0 t1 k1 t3 k3 t4 k4 t5 k5 t7 r7 t8 k8 t11 r11 t12 k12 d0 f0 f1 f2 f3 f4 f5 f6 f7
  replace f0 := shm_107 f0
  replace f1 := shm_198 f1
  replace f3 := shm_107 f3
  have ad_7 : v_ad (n_v vs 7) = w_ar ws (n_v vs 0) 7 := congrArg v_ad f1
  simp only [ad_7] at f0
  have h0 : v_iv (n_v vs 12) = w_ei ws (w_ar ws (n_v vs 0) 7) (v_iv (n_v vs 3)) := f0
  simp only [ad_7] at f3
  have h3 : v_iv (n_v vs 8) = w_ei ws (w_ar ws (n_v vs 0) 7) (v_iv (n_v vs 3)) := f3
  have hrf0 : 0 ≤ v_iv (n_v vs 12) ∧ v_iv (n_v vs 12) ≤ 383 := vc_St_sendRound_at_gr_3_r0 (v_iv (n_v vs 1)) (v_iv (n_v vs 3)) (v_iv (n_v vs 4)) (v_iv (n_v vs 8)) (v_iv (n_v vs 12)) (w_ei ws (w_ar ws (n_v vs 0) 7)) (w_ei ws (w_ar ws (n_v vs 0) 2)) k1 k3 k4 k8 k12 h0 h3 (shm_936 f6) (shm_928 f7)
  have rf12 : tv_ok ta (0, 0, 383, []) (n_v vs 12) := tv_in t12 (by first | omega | grind) (by first | omega | grind)
  refine ⟨List.forall_mem_cons.mpr ⟨rf12, (fun _ h => (by cases h))⟩, [], trivial, ?_, (fun _ h => (by cases h))⟩
  rw [List.append_nil]
  exact (fun _ h => (by cases h))
set_option maxHeartbeats 4000000 in
theorem vc_St_sendRound_at_gr_4_0 (x1 : Int) (x3 : Int) (x4 : Int) (x8 : Int) (x12 : Int) (x13 : Int) (x14 : Int) (from_0 : Int → Int) (by_0 : Int → Int) (k1 : 0 ≤ x1 ∧ x1 ≤ 71) (k3 : 0 ≤ x3 ∧ x3 ≤ 71) (k4 : 0 ≤ x4 ∧ x4 ≤ 71) (k8 : 0 ≤ x8 ∧ x8 ≤ 383) (k12 : 0 ≤ x12 ∧ x12 ≤ 383) (k13 : 0 ≤ x13 ∧ x13 ≤ 71) (k14 : 1 ≤ x14 ∧ x14 ≤ 72) (f0 : x14 = x4 + 1) (h2 : x13 = from_0 (x12)) (h3 : x12 = by_0 (x3)) (h6 : x8 = by_0 (x3)) (f9 : SR1 (from_0) (by_0) (x1) (x3) (x4)) : SR1 (from_0) (by_0) (x1) (x13) (x14) := by
  first
    | exact sr1_start (by omega) (by omega)
    | (skip; (first | subst h2 | skip); (first | subst h3 | skip); (first | subst h6 | skip); exact sr1_step ‹SR1 _ _ _ _ _› rfl (by omega))
  
def o_St_sendRound_at_gr_4 : or_T := (8, 15, [(1, (0, 0, 71, [])), (3, (0, 0, 71, [])), (4, (0, 0, 71, [])), (8, (0, 0, 383, [])), (12, (0, 0, 383, [])), (13, (0, 0, 71, [])), (14, (0, 1, 72, []))], [(6, [14, 4], [1]), (10, [13, 11, 12], []), (10, [12, 7, 3], []), (9, [7, 0], [7]), (9, [11, 0], [2]), (10, [8, 7, 3], []), (20, [0, 1, 3, 4], [60, 0, 2, 513, 2, 7])], [], [], [(20, [0, 1, 13, 14], [60, 0, 2, 513, 2, 7])], [], [])
theorem oo_St_sendRound_at_gr_4 {kA : Nat → ClassId} : or_ok PRD kA GG o_St_sendRound_at_gr_4 := by
  refine or_mk fun A ta ws vs hD hth hl => ?_
  intro t1 k1 t3 k3 t4 k4 t8 k8 t12 k12 t13 k13 t14 k14 f0 f2 f3 f4 f5 f6 f9
  replace f2 := shm_107 f2
  replace f3 := shm_107 f3
  replace f4 := shm_198 f4
  replace f5 := shm_120 f5
  replace f6 := shm_107 f6
  have ad_7 : v_ad (n_v vs 7) = w_ar ws (n_v vs 0) 7 := congrArg v_ad f4
  have ad_11 : v_ad (n_v vs 11) = w_ar ws (n_v vs 0) 2 := congrArg v_ad f5
  simp only [ad_11] at f2
  have h2 : v_iv (n_v vs 13) = w_ei ws (w_ar ws (n_v vs 0) 2) (v_iv (n_v vs 12)) := f2
  simp only [ad_7] at f3
  have h3 : v_iv (n_v vs 12) = w_ei ws (w_ar ws (n_v vs 0) 7) (v_iv (n_v vs 3)) := f3
  simp only [ad_7] at f6
  have h6 : v_iv (n_v vs 8) = w_ei ws (w_ar ws (n_v vs 0) 7) (v_iv (n_v vs 3)) := f6
  have nf0 : fc_1 PRD (20, [0, 1, 13, 14], [60, 0, 2, 513, 2, 7]) ws (vs) := ⟨nf_in hl rfl, sgq_936 (vc_St_sendRound_at_gr_4_0 (v_iv (n_v vs 1)) (v_iv (n_v vs 3)) (v_iv (n_v vs 4)) (v_iv (n_v vs 8)) (v_iv (n_v vs 12)) (v_iv (n_v vs 13)) (v_iv (n_v vs 14)) (w_ei ws (w_ar ws (n_v vs 0) 2)) (w_ei ws (w_ar ws (n_v vs 0) 7)) k1 k3 k4 k8 k12 k13 k14 (shm_4 f0) h2 h3 h6 (shm_936 f9))⟩
  refine ⟨(fun _ h => (by cases h)), [], trivial, ?_, (fun _ h => (by cases h))⟩
  rw [List.append_nil]
  exact List.forall_mem_cons.mpr ⟨⟨show (20 : Nat) < 100 from by decide, nf0⟩, (fun _ h => (by cases h))⟩
set_option maxHeartbeats 4000000 in
theorem vc_St_sendRound_at_gr_5_0 (x1 : Int) (x3 : Int) (x4 : Int) (x8 : Int) (x12 : Int) (x13 : Int) (from_0 : Int → Int) (by_0 : Int → Int) (k1 : 0 ≤ x1 ∧ x1 ≤ 71) (k3 : 0 ≤ x3 ∧ x3 ≤ 71) (k4 : 0 ≤ x4 ∧ x4 ≤ 71) (k8 : 0 ≤ x8 ∧ x8 ≤ 383) (k12 : 0 ≤ x12 ∧ x12 ≤ 383) (k13 : 0 ≤ x13 ∧ x13 ≤ 71) (h1 : x13 = from_0 (x12)) (h2 : x12 = by_0 (x3)) (h5 : x8 = by_0 (x3)) (f8 : SR1 (from_0) (by_0) (x1) (x3) (x4)) : SR2 (from_0) (by_0) (x1) (x13) := by
  first
    | exact sr2_of ‹SR1 _ _ _ _ _›
    | (skip; (first | subst h1 | skip); (first | subst h2 | skip); (first | subst h5 | skip); exact sr2_step (sr2_of ‹SR1 _ _ _ _ _›) rfl)
    | (skip; (first | subst h1 | skip); (first | subst h2 | skip); (first | subst h5 | skip); exact sr2_step ‹SR2 _ _ _ _› rfl)
  
def o_St_sendRound_at_gr_5 : or_T := (62, 15, [(1, (0, 0, 71, [])), (3, (0, 0, 71, [])), (4, (0, 0, 71, [])), (8, (0, 0, 383, [])), (12, (0, 0, 383, [])), (13, (0, 0, 71, []))], [(10, [13, 11, 12], []), (10, [12, 7, 3], []), (9, [7, 0], [7]), (9, [11, 0], [2]), (10, [8, 7, 3], []), (20, [0, 1, 3, 4], [60, 0, 2, 513, 2, 7])], [], [], [(20, [0, 1, 13], [60, 0, 2, 514, 2, 7])], [], [])
theorem oo_St_sendRound_at_gr_5 {kA : Nat → ClassId} : or_ok PRD kA GG o_St_sendRound_at_gr_5 := by
  refine or_mk fun A ta ws vs hD hth hl => ?_
  intro t1 k1 t3 k3 t4 k4 t8 k8 t12 k12 t13 k13 f1 f2 f3 f4 f5 f8
  replace f1 := shm_107 f1
  replace f2 := shm_107 f2
  replace f3 := shm_198 f3
  replace f4 := shm_120 f4
  replace f5 := shm_107 f5
  have ad_7 : v_ad (n_v vs 7) = w_ar ws (n_v vs 0) 7 := congrArg v_ad f3
  have ad_11 : v_ad (n_v vs 11) = w_ar ws (n_v vs 0) 2 := congrArg v_ad f4
  simp only [ad_11] at f1
  have h1 : v_iv (n_v vs 13) = w_ei ws (w_ar ws (n_v vs 0) 2) (v_iv (n_v vs 12)) := f1
  simp only [ad_7] at f2
  have h2 : v_iv (n_v vs 12) = w_ei ws (w_ar ws (n_v vs 0) 7) (v_iv (n_v vs 3)) := f2
  simp only [ad_7] at f5
  have h5 : v_iv (n_v vs 8) = w_ei ws (w_ar ws (n_v vs 0) 7) (v_iv (n_v vs 3)) := f5
  have nf0 : fc_1 PRD (20, [0, 1, 13], [60, 0, 2, 514, 2, 7]) ws (vs) := ⟨nf_in hl rfl, sgq_937 (vc_St_sendRound_at_gr_5_0 (v_iv (n_v vs 1)) (v_iv (n_v vs 3)) (v_iv (n_v vs 4)) (v_iv (n_v vs 8)) (v_iv (n_v vs 12)) (v_iv (n_v vs 13)) (w_ei ws (w_ar ws (n_v vs 0) 2)) (w_ei ws (w_ar ws (n_v vs 0) 7)) k1 k3 k4 k8 k12 k13 h1 h2 h5 (shm_936 f8))⟩
  refine ⟨(fun _ h => (by cases h)), [], trivial, ?_, (fun _ h => (by cases h))⟩
  rw [List.append_nil]
  exact List.forall_mem_cons.mpr ⟨⟨show (20 : Nat) < 100 from by decide, nf0⟩, (fun _ h => (by cases h))⟩
set_option maxHeartbeats 4000000 in
theorem vc_St_sendRound_at_gr_6_r0 (x1 : Int) (x3 : Int) (x8 : Int) (by_0 : Int → Int) (from_0 : Int → Int) (k1 : 0 ≤ x1 ∧ x1 ≤ 71) (k3 : 0 ≤ x3 ∧ x3 ≤ 71) (k8 : (-1) ≤ x8 ∧ x8 ≤ 383) (h0 : x8 = by_0 (x3)) (f2 : SR2 (from_0) (by_0) (x1) (x3)) (f3 : RNG (from_0) (by_0) (x1)) : 0 ≤ x8 ∧ x8 ≤ 383 := by
  first
    | (have q := sr1_by ‹SR1 _ _ _ _ _› ‹RNG _ _ _›; skip; (first | subst h0 | skip); omega)
    | (have q := sr2_by ‹SR2 _ _ _ _› ‹RNG _ _ _›; skip; (first | subst h0 | skip); omega)
    | (have q := sr2_by ‹SR2 _ _ _ _› ‹RNG _ _ _›; skip; (first | subst h0 | skip); have e := xor_one (x := x13) (by assumption) (by omega) (by omega) (by omega) (by omega) (by omega); split at e <;> omega)
  
def o_St_sendRound_at_gr_6 : or_T := (81, 9, [(0, (2, 0, 0, [10])), (1, (0, 0, 71, [])), (3, (0, 0, 71, [])), (7, (2, 0, 0, [123])), (8, (0, -1, 383, []))], [(10, [8, 7, 3], []), (9, [7, 0], [7]), (20, [0, 1, 3], [60, 0, 2, 514, 2, 7]), (20, [0, 1], [60, 0, 2, 509, 2, 7])], [(8, (0, 0, 383, []))], [], [], [], [])
theorem oo_St_sendRound_at_gr_6 {kA : Nat → ClassId} : or_ok PRD kA GG o_St_sendRound_at_gr_6 := by
  refine or_mk fun A ta ws vs hD hth hl => ?_
  intro t0 r0 t1 k1 t3 k3 t7 r7 t8 k8 f0 f1 f2 f3
  replace f0 := shm_107 f0
  replace f1 := shm_198 f1
  have ad_7 : v_ad (n_v vs 7) = w_ar ws (n_v vs 0) 7 := congrArg v_ad f1
  simp only [ad_7] at f0
  have h0 : v_iv (n_v vs 8) = w_ei ws (w_ar ws (n_v vs 0) 7) (v_iv (n_v vs 3)) := f0
  have hrf0 : 0 ≤ v_iv (n_v vs 8) ∧ v_iv (n_v vs 8) ≤ 383 := vc_St_sendRound_at_gr_6_r0 (v_iv (n_v vs 1)) (v_iv (n_v vs 3)) (v_iv (n_v vs 8)) (w_ei ws (w_ar ws (n_v vs 0) 7)) (w_ei ws (w_ar ws (n_v vs 0) 2)) k1 k3 k8 h0 (shm_937 f2) (shm_928 f3)
  have rf8 : tv_ok ta (0, 0, 383, []) (n_v vs 8) := tv_in t8 (by first | omega | grind) (by first | omega | grind)
  refine ⟨List.forall_mem_cons.mpr ⟨rf8, (fun _ h => (by cases h))⟩, [], trivial, ?_, (fun _ h => (by cases h))⟩
  rw [List.append_nil]
  exact (fun _ h => (by cases h))
set_option maxHeartbeats 4000000 in
theorem vc_St_sendRound_at_gr_7_r0 (x1 : Int) (x3 : Int) (x8 : Int) (x11 : Int) (x12 : Int) (x13 : Int) (by_0 : Int → Int) (from_0 : Int → Int) (by_1 : Int → Int) (from_1 : Int → Int) (k1 : 0 ≤ x1 ∧ x1 ≤ 71) (k3 : 0 ≤ x3 ∧ x3 ≤ 71) (k8 : 0 ≤ x8 ∧ x8 ≤ 383) (k11 : (-1) ≤ x11 ∧ x11 ≤ 383) (k12 : 1 ≤ x12 ∧ x12 ≤ 1) (k13 : (-2147483648) ≤ x13 ∧ x13 ≤ 2147483647) (f0 : bvp (x13) = bvp (x11) ^^^ bvp (x12)) (h1 : x11 = by_0 (x3)) (h7 : x8 = by_1 (x3)) (f8 : SR2 (from_1) (by_1) (x1) (x3)) (f9 : RNG (from_1) (by_1) (x1)) (hE_0_2_1 : ∀ j : Int, from_0 j = from_1 j) (hE_0_7_1 : ∀ j : Int, by_0 j = by_1 j) : 0 ≤ x13 ∧ x13 ≤ 383 := by
  have e_hE_0_2_1 := funext hE_0_2_1; subst e_hE_0_2_1
  have e_hE_0_7_1 := funext hE_0_7_1; subst e_hE_0_7_1
  first
    | (have q := sr1_by ‹SR1 _ _ _ _ _› ‹RNG _ _ _›; skip; (first | subst h1 | skip); (first | subst h7 | skip); omega)
    | (have q := sr2_by ‹SR2 _ _ _ _› ‹RNG _ _ _›; skip; (first | subst h1 | skip); (first | subst h7 | skip); omega)
    | (have q := sr2_by ‹SR2 _ _ _ _› ‹RNG _ _ _›; skip; (first | subst h1 | skip); (first | subst h7 | skip); have e := xor_one (x := x13) (by assumption) (by omega) (by omega) (by omega) (by omega) (by omega); split at e <;> omega)
  
def o_St_sendRound_at_gr_7 : or_T := (98, 14, [(0, (2, 0, 0, [10])), (1, (0, 0, 71, [])), (3, (0, 0, 71, [])), (6, (2, 0, 0, [120])), (7, (2, 0, 0, [123])), (8, (0, 0, 383, [])), (11, (0, -1, 383, [])), (12, (0, 1, 1, [])), (13, (0, -2147483648, 2147483647, []))], [(16, [13, 11, 12], [2]), (10, [11, 7, 3], []), (9, [7, 0], [7]), (9, [6, 0], [4]), (20, [0, 1, 3], [60, 0, 2, 514, 2, 7]), (20, [0, 1], [60, 0, 2, 509, 2, 7]), (100, [6, 8, 10], []), (10, [8, 7, 3], []), (20, [0, 1, 3], [60, 0, 2, 514, 2, 7]), (20, [0, 1], [60, 0, 2, 509, 2, 7])], [(13, (0, 0, 383, []))], [], [], [], [])
theorem oo_St_sendRound_at_gr_7 {kA : Nat → ClassId} : or_ok PRD kA GG o_St_sendRound_at_gr_7 := by
  refine or_mk fun A ta ws vs hD hth hl => ?_
  intro t0 r0 t1 k1 t3 k3 t6 r6 t7 r7 t8 k8 t11 k11 t12 k12 t13 k13 f0 f1 f2 f3 f4 f5 ta1 w1 le1 s1 f7 f8 f9
  replace f1 := shm_107 f1
  replace f2 := shm_198 f2
  have s1 : (∀ b j, w_el ws b j = if b = v_ad (n_v vs 6) ∧ j = (v_iv (n_v vs 8)).toNat then v_iv (n_v vs 10) else w_el w1 b j) ∧ ∀ b k, w_fd ws b k = w_fd w1 b k := s1.2
  replace f7 := shm_107 f7
  replace f8 := shm_937 f8
  replace f9 := shm_928 f9
  have ar_0_2_1 : w_ar w1 (n_v vs 0) 2 = w_ar ws (n_v vs 0) 2 := congrArg v_ad (s1.2 _ _).symm
  have cr_0_2 := fdq_108 hD hth r0
  have ar_0_7_1 : w_ar w1 (n_v vs 0) 7 = w_ar ws (n_v vs 0) 7 := congrArg v_ad (s1.2 _ _).symm
  have cr_0_7 := fdq_116 hD hth r0
  have ad_7 : v_ad (n_v vs 7) = w_ar ws (n_v vs 0) 7 := congrArg v_ad f2
  simp only [ad_7] at f1
  have h1 : v_iv (n_v vs 11) = w_ei ws (w_ar ws (n_v vs 0) 7) (v_iv (n_v vs 3)) := f1
  simp only [ad_7] at f7
  have h7 : v_iv (n_v vs 8) = w_ei w1 (w_ar ws (n_v vs 0) 7) (v_iv (n_v vs 3)) := f7
  simp only [ar_0_2_1, ar_0_7_1] at f8 f9
  have hE_0_2_1 : ∀ j : Int, w_ei ws (w_ar ws (n_v vs 0) 2) j = w_ei w1 (w_ar ws (n_v vs 0) 2) j := el_kp s1.1 r6 cr_0_2 (by decide)
  have hE_0_7_1 : ∀ j : Int, w_ei ws (w_ar ws (n_v vs 0) 7) j = w_ei w1 (w_ar ws (n_v vs 0) 7) j := el_kp s1.1 r6 cr_0_7 (by decide)
  have hrf0 : 0 ≤ v_iv (n_v vs 13) ∧ v_iv (n_v vs 13) ≤ 383 := vc_St_sendRound_at_gr_7_r0 (v_iv (n_v vs 1)) (v_iv (n_v vs 3)) (v_iv (n_v vs 8)) (v_iv (n_v vs 11)) (v_iv (n_v vs 12)) (v_iv (n_v vs 13)) (w_ei ws (w_ar ws (n_v vs 0) 7)) (w_ei ws (w_ar ws (n_v vs 0) 2)) (w_ei w1 (w_ar ws (n_v vs 0) 7)) (w_ei w1 (w_ar ws (n_v vs 0) 2)) k1 k3 k8 k11 k12 k13 (shm_33 f0) h1 h7 f8 f9 hE_0_2_1 hE_0_7_1
  have rf13 : tv_ok ta (0, 0, 383, []) (n_v vs 13) := tv_in t13 (by first | omega | grind) (by first | omega | grind)
  refine ⟨List.forall_mem_cons.mpr ⟨rf13, (fun _ h => (by cases h))⟩, [], trivial, ?_, (fun _ h => (by cases h))⟩
  rw [List.append_nil]
  exact (fun _ h => (by cases h))
set_option maxHeartbeats 4000000 in
theorem vc_St_sendRound_at_gr_8_r0 (x1 : Int) (x3 : Int) (x8 : Int) (x11 : Int) (x13 : Int) (x17 : Int) (by_0 : Int → Int) (from_0 : Int → Int) (by_1 : Int → Int) (from_1 : Int → Int) (by_2 : Int → Int) (from_2 : Int → Int) (k1 : 0 ≤ x1 ∧ x1 ≤ 71) (k3 : 0 ≤ x3 ∧ x3 ≤ 71) (k8 : 0 ≤ x8 ∧ x8 ≤ 383) (k11 : (-1) ≤ x11 ∧ x11 ≤ 383) (k17 : (-1) ≤ x17 ∧ x17 ≤ 383) (h0 : x17 = by_0 (x3)) (h7 : x11 = by_1 (x3)) (h12 : x8 = by_2 (x3)) (f13 : SR2 (from_2) (by_2) (x1) (x3)) (f14 : RNG (from_2) (by_2) (x1)) (hE_0_2_1 : ∀ j : Int, from_0 j = from_1 j) (hE_0_2_2 : ∀ j : Int, from_1 j = from_2 j) (hE_0_7_1 : ∀ j : Int, by_0 j = by_1 j) (hE_0_7_2 : ∀ j : Int, by_1 j = by_2 j) : 0 ≤ x17 ∧ x17 ≤ 383 := by
  have e_hE_0_2_1 := funext hE_0_2_1; subst e_hE_0_2_1
  have e_hE_0_2_2 := funext hE_0_2_2; subst e_hE_0_2_2
  have e_hE_0_7_1 := funext hE_0_7_1; subst e_hE_0_7_1
  have e_hE_0_7_2 := funext hE_0_7_2; subst e_hE_0_7_2
  first
    | (have q := sr1_by ‹SR1 _ _ _ _ _› ‹RNG _ _ _›; skip; (first | subst h0 | skip); (first | subst h7 | skip); (first | subst h12 | skip); omega)
    | (have q := sr2_by ‹SR2 _ _ _ _› ‹RNG _ _ _›; skip; (first | subst h0 | skip); (first | subst h7 | skip); (first | subst h12 | skip); omega)
    | (have q := sr2_by ‹SR2 _ _ _ _› ‹RNG _ _ _›; skip; (first | subst h0 | skip); (first | subst h7 | skip); (first | subst h12 | skip); have e := xor_one (x := x13) (by assumption) (by omega) (by omega) (by omega) (by omega) (by omega); split at e <;> omega)
  
def o_St_sendRound_at_gr_8 : or_T := (113, 18, [(0, (2, 0, 0, [10])), (1, (0, 0, 71, [])), (3, (0, 0, 71, [])), (6, (2, 0, 0, [120])), (7, (2, 0, 0, [123])), (8, (0, 0, 383, [])), (11, (0, -1, 383, [])), (12, (0, 1, 1, [])), (13, (0, 0, 383, [])), (16, (2, 0, 0, [118])), (17, (0, -1, 383, []))], [(10, [17, 7, 3], []), (9, [7, 0], [7]), (9, [16, 0], [2]), (20, [0, 1, 3], [60, 0, 2, 514, 2, 7]), (20, [0, 1], [60, 0, 2, 509, 2, 7]), (100, [6, 13, 15], []), (16, [13, 11, 12], [2]), (10, [11, 7, 3], []), (9, [6, 0], [4]), (20, [0, 1, 3], [60, 0, 2, 514, 2, 7]), (20, [0, 1], [60, 0, 2, 509, 2, 7]), (100, [6, 8, 10], []), (10, [8, 7, 3], []), (20, [0, 1, 3], [60, 0, 2, 514, 2, 7]), (20, [0, 1], [60, 0, 2, 509, 2, 7])], [(17, (0, 0, 383, []))], [], [], [], [])
theorem oo_St_sendRound_at_gr_8 {kA : Nat → ClassId} : or_ok PRD kA GG o_St_sendRound_at_gr_8 := by
  refine or_mk fun A ta ws vs hD hth hl => ?_
  intro t0 r0 t1 k1 t3 k3 t6 r6 t7 r7 t8 k8 t11 k11 t12 k12 t13 k13 t16 r16 t17 k17 f0 f1 f2 f3 f4 ta1 w1 le1 s1 f6 f7 f8 f9 f10 ta2 w2 le2 s2 f12 f13 f14
  replace f0 := shm_107 f0
  replace f1 := shm_198 f1
  have s1 : (∀ b j, w_el ws b j = if b = v_ad (n_v vs 6) ∧ j = (v_iv (n_v vs 13)).toNat then v_iv (n_v vs 15) else w_el w1 b j) ∧ ∀ b k, w_fd ws b k = w_fd w1 b k := s1.2
  replace f7 := shm_107 f7
  have s2 : (∀ b j, w_el w1 b j = if b = v_ad (n_v vs 6) ∧ j = (v_iv (n_v vs 8)).toNat then v_iv (n_v vs 10) else w_el w2 b j) ∧ ∀ b k, w_fd w1 b k = w_fd w2 b k := s2.2
  replace f12 := shm_107 f12
  replace f13 := shm_937 f13
  replace f14 := shm_928 f14
  have ar_0_2_1 : w_ar w1 (n_v vs 0) 2 = w_ar ws (n_v vs 0) 2 := congrArg v_ad (s1.2 _ _).symm
  have ar_0_2_2 : w_ar w2 (n_v vs 0) 2 = w_ar ws (n_v vs 0) 2 := by rw [← ar_0_2_1]; show v_ad (w_fd w2 _ _) = v_ad (w_fd w1 _ _); rw [s2.2]
  have cr_0_2 := fdq_108 hD hth r0
  have ar_0_7_1 : w_ar w1 (n_v vs 0) 7 = w_ar ws (n_v vs 0) 7 := congrArg v_ad (s1.2 _ _).symm
  have ar_0_7_2 : w_ar w2 (n_v vs 0) 7 = w_ar ws (n_v vs 0) 7 := by rw [← ar_0_7_1]; show v_ad (w_fd w2 _ _) = v_ad (w_fd w1 _ _); rw [s2.2]
  have cr_0_7 := fdq_116 hD hth r0
  have ad_7 : v_ad (n_v vs 7) = w_ar ws (n_v vs 0) 7 := congrArg v_ad f1
  simp only [ad_7] at f0
  have h0 : v_iv (n_v vs 17) = w_ei ws (w_ar ws (n_v vs 0) 7) (v_iv (n_v vs 3)) := f0
  simp only [ad_7] at f7
  have h7 : v_iv (n_v vs 11) = w_ei w1 (w_ar ws (n_v vs 0) 7) (v_iv (n_v vs 3)) := f7
  simp only [ar_0_2_1, ar_0_7_1, ad_7] at f12
  have h12 : v_iv (n_v vs 8) = w_ei w2 (w_ar ws (n_v vs 0) 7) (v_iv (n_v vs 3)) := f12
  simp only [ar_0_2_2, ar_0_7_2] at f13 f14
  have hE_0_2_1 : ∀ j : Int, w_ei ws (w_ar ws (n_v vs 0) 2) j = w_ei w1 (w_ar ws (n_v vs 0) 2) j := el_kp s1.1 r6 cr_0_2 (by decide)
  have hE_0_2_2 : ∀ j : Int, w_ei w1 (w_ar ws (n_v vs 0) 2) j = w_ei w2 (w_ar ws (n_v vs 0) 2) j := el_kp s2.1 r6 cr_0_2 (by decide)
  have hE_0_7_1 : ∀ j : Int, w_ei ws (w_ar ws (n_v vs 0) 7) j = w_ei w1 (w_ar ws (n_v vs 0) 7) j := el_kp s1.1 r6 cr_0_7 (by decide)
  have hE_0_7_2 : ∀ j : Int, w_ei w1 (w_ar ws (n_v vs 0) 7) j = w_ei w2 (w_ar ws (n_v vs 0) 7) j := el_kp s2.1 r6 cr_0_7 (by decide)
  have hrf0 : 0 ≤ v_iv (n_v vs 17) ∧ v_iv (n_v vs 17) ≤ 383 := vc_St_sendRound_at_gr_8_r0 (v_iv (n_v vs 1)) (v_iv (n_v vs 3)) (v_iv (n_v vs 8)) (v_iv (n_v vs 11)) (v_iv (n_v vs 13)) (v_iv (n_v vs 17)) (w_ei ws (w_ar ws (n_v vs 0) 7)) (w_ei ws (w_ar ws (n_v vs 0) 2)) (w_ei w1 (w_ar ws (n_v vs 0) 7)) (w_ei w1 (w_ar ws (n_v vs 0) 2)) (w_ei w2 (w_ar ws (n_v vs 0) 7)) (w_ei w2 (w_ar ws (n_v vs 0) 2)) k1 k3 k8 k11 k17 h0 h7 h12 f13 f14 hE_0_2_1 hE_0_2_2 hE_0_7_1 hE_0_7_2
  have rf17 : tv_ok ta (0, 0, 383, []) (n_v vs 17) := tv_in t17 (by first | omega | grind) (by first | omega | grind)
  refine ⟨List.forall_mem_cons.mpr ⟨rf17, (fun _ h => (by cases h))⟩, [], trivial, ?_, (fun _ h => (by cases h))⟩
  rw [List.append_nil]
  exact (fun _ h => (by cases h))
set_option maxHeartbeats 4000000 in
theorem vc_St_sendRound_at_gr_9_0 (x1 : Int) (x3 : Int) (x8 : Int) (x11 : Int) (x17 : Int) (x18 : Int) (from_0 : Int → Int) (by_0 : Int → Int) (by_1 : Int → Int) (from_1 : Int → Int) (by_2 : Int → Int) (from_2 : Int → Int) (k1 : 0 ≤ x1 ∧ x1 ≤ 71) (k3 : 0 ≤ x3 ∧ x3 ≤ 71) (k8 : 0 ≤ x8 ∧ x8 ≤ 383) (k11 : (-1) ≤ x11 ∧ x11 ≤ 383) (k17 : 0 ≤ x17 ∧ x17 ≤ 383) (k18 : 0 ≤ x18 ∧ x18 ≤ 71) (h1 : x18 = from_0 (x17)) (h2 : x17 = by_0 (x3)) (h9 : x11 = by_1 (x3)) (h14 : x8 = by_2 (x3)) (f15 : SR2 (from_2) (by_2) (x1) (x3)) (hE_0_2_1 : ∀ j : Int, from_0 j = from_1 j) (hE_0_2_2 : ∀ j : Int, from_1 j = from_2 j) (hE_0_7_1 : ∀ j : Int, by_0 j = by_1 j) (hE_0_7_2 : ∀ j : Int, by_1 j = by_2 j) : SR2 (from_0) (by_0) (x1) (x18) := by
  have e_hE_0_2_1 := funext hE_0_2_1; subst e_hE_0_2_1
  have e_hE_0_2_2 := funext hE_0_2_2; subst e_hE_0_2_2
  have e_hE_0_7_1 := funext hE_0_7_1; subst e_hE_0_7_1
  have e_hE_0_7_2 := funext hE_0_7_2; subst e_hE_0_7_2
  first
    | exact sr2_of ‹SR1 _ _ _ _ _›
    | (skip; (first | subst h1 | skip); (first | subst h2 | skip); (first | subst h9 | skip); (first | subst h14 | skip); exact sr2_step (sr2_of ‹SR1 _ _ _ _ _›) rfl)
    | (skip; (first | subst h1 | skip); (first | subst h2 | skip); (first | subst h9 | skip); (first | subst h14 | skip); exact sr2_step ‹SR2 _ _ _ _› rfl)
  
def o_St_sendRound_at_gr_9 : or_T := (62, 20, [(0, (2, 0, 0, [10])), (1, (0, 0, 71, [])), (3, (0, 0, 71, [])), (6, (2, 0, 0, [120])), (8, (0, 0, 383, [])), (11, (0, -1, 383, [])), (17, (0, 0, 383, [])), (18, (0, 0, 71, []))], [(10, [18, 16, 17], []), (10, [17, 7, 3], []), (9, [7, 0], [7]), (9, [16, 0], [2]), (100, [6, 13, 15], []), (10, [11, 7, 3], []), (100, [6, 8, 10], []), (10, [8, 7, 3], []), (20, [0, 1, 3], [60, 0, 2, 514, 2, 7])], [], [], [(20, [0, 1, 18], [60, 0, 2, 514, 2, 7])], [], [])
theorem oo_St_sendRound_at_gr_9 {kA : Nat → ClassId} : or_ok PRD kA GG o_St_sendRound_at_gr_9 := by
  refine or_mk fun A ta ws vs hD hth hl => ?_
  intro t0 r0 t1 k1 t3 k3 t6 r6 t8 k8 t11 k11 t17 k17 t18 k18 f1 f2 f3 f4 ta1 w1 le1 s1 f9 ta2 w2 le2 s2 f14 f15
  replace f1 := shm_107 f1
  replace f2 := shm_107 f2
  replace f3 := shm_198 f3
  replace f4 := shm_120 f4
  have s1 : (∀ b j, w_el ws b j = if b = v_ad (n_v vs 6) ∧ j = (v_iv (n_v vs 13)).toNat then v_iv (n_v vs 15) else w_el w1 b j) ∧ ∀ b k, w_fd ws b k = w_fd w1 b k := s1.2
  replace f9 := shm_107 f9
  have s2 : (∀ b j, w_el w1 b j = if b = v_ad (n_v vs 6) ∧ j = (v_iv (n_v vs 8)).toNat then v_iv (n_v vs 10) else w_el w2 b j) ∧ ∀ b k, w_fd w1 b k = w_fd w2 b k := s2.2
  replace f14 := shm_107 f14
  replace f15 := shm_937 f15
  have ar_0_2_1 : w_ar w1 (n_v vs 0) 2 = w_ar ws (n_v vs 0) 2 := congrArg v_ad (s1.2 _ _).symm
  have ar_0_2_2 : w_ar w2 (n_v vs 0) 2 = w_ar ws (n_v vs 0) 2 := by rw [← ar_0_2_1]; show v_ad (w_fd w2 _ _) = v_ad (w_fd w1 _ _); rw [s2.2]
  have cr_0_2 := fdq_108 hD hth r0
  have ar_0_7_1 : w_ar w1 (n_v vs 0) 7 = w_ar ws (n_v vs 0) 7 := congrArg v_ad (s1.2 _ _).symm
  have ar_0_7_2 : w_ar w2 (n_v vs 0) 7 = w_ar ws (n_v vs 0) 7 := by rw [← ar_0_7_1]; show v_ad (w_fd w2 _ _) = v_ad (w_fd w1 _ _); rw [s2.2]
  have cr_0_7 := fdq_116 hD hth r0
  have ad_7 : v_ad (n_v vs 7) = w_ar ws (n_v vs 0) 7 := congrArg v_ad f3
  have ad_16 : v_ad (n_v vs 16) = w_ar ws (n_v vs 0) 2 := congrArg v_ad f4
  simp only [ad_16] at f1
  have h1 : v_iv (n_v vs 18) = w_ei ws (w_ar ws (n_v vs 0) 2) (v_iv (n_v vs 17)) := f1
  simp only [ad_7] at f2
  have h2 : v_iv (n_v vs 17) = w_ei ws (w_ar ws (n_v vs 0) 7) (v_iv (n_v vs 3)) := f2
  simp only [ad_7] at f9
  have h9 : v_iv (n_v vs 11) = w_ei w1 (w_ar ws (n_v vs 0) 7) (v_iv (n_v vs 3)) := f9
  simp only [ar_0_2_1, ar_0_7_1, ad_7] at f14
  have h14 : v_iv (n_v vs 8) = w_ei w2 (w_ar ws (n_v vs 0) 7) (v_iv (n_v vs 3)) := f14
  simp only [ar_0_2_2, ar_0_7_2] at f15
  have hE_0_2_1 : ∀ j : Int, w_ei ws (w_ar ws (n_v vs 0) 2) j = w_ei w1 (w_ar ws (n_v vs 0) 2) j := el_kp s1.1 r6 cr_0_2 (by decide)
  have hE_0_2_2 : ∀ j : Int, w_ei w1 (w_ar ws (n_v vs 0) 2) j = w_ei w2 (w_ar ws (n_v vs 0) 2) j := el_kp s2.1 r6 cr_0_2 (by decide)
  have hE_0_7_1 : ∀ j : Int, w_ei ws (w_ar ws (n_v vs 0) 7) j = w_ei w1 (w_ar ws (n_v vs 0) 7) j := el_kp s1.1 r6 cr_0_7 (by decide)
  have hE_0_7_2 : ∀ j : Int, w_ei w1 (w_ar ws (n_v vs 0) 7) j = w_ei w2 (w_ar ws (n_v vs 0) 7) j := el_kp s2.1 r6 cr_0_7 (by decide)
  have nf0 : fc_1 PRD (20, [0, 1, 18], [60, 0, 2, 514, 2, 7]) ws (vs) := ⟨nf_in hl rfl, sgq_937 (vc_St_sendRound_at_gr_9_0 (v_iv (n_v vs 1)) (v_iv (n_v vs 3)) (v_iv (n_v vs 8)) (v_iv (n_v vs 11)) (v_iv (n_v vs 17)) (v_iv (n_v vs 18)) (w_ei ws (w_ar ws (n_v vs 0) 2)) (w_ei ws (w_ar ws (n_v vs 0) 7)) (w_ei w1 (w_ar ws (n_v vs 0) 7)) (w_ei w1 (w_ar ws (n_v vs 0) 2)) (w_ei w2 (w_ar ws (n_v vs 0) 7)) (w_ei w2 (w_ar ws (n_v vs 0) 2)) k1 k3 k8 k11 k17 k18 h1 h2 h9 h14 f15 hE_0_2_1 hE_0_2_2 hE_0_7_1 hE_0_7_2)⟩
  refine ⟨(fun _ h => (by cases h)), [], trivial, ?_, (fun _ h => (by cases h))⟩
  rw [List.append_nil]
  exact List.forall_mem_cons.mpr ⟨⟨show (20 : Nat) < 100 from by decide, nf0⟩, (fun _ h => (by cases h))⟩
def n_St_sendRound_at_gr_an : List an_T := [(8, [(0, (2, 0, 0, [10])), (1, (0, 0, 71, [])), (2, (0, (Int.negSucc 2147483647), 1000000000, [])), (3, (0, 0, 71, [])), (4, (0, 0, 72, []))], [], (0, 0), [(0, 0, 99992), (1, 4, 72), (0, 0, 100000)], [], [], [], 0, [], [(20, [0, 1, 3, 4], [60, 0, 2, 513, 2, 7]), (20, [0, 1], [60, 0, 2, 509, 2, 7])]), (62, [(0, (2, 0, 0, [10])), (1, (0, 0, 71, [])), (2, (0, (Int.negSucc 2147483647), 1000000000, [])), (3, (0, 0, 71, [])), (4, (0, 0, 72, []))], [], (0, 0), [(0, 0, 99938), (1, 4, 72), (0, 0, 100000)], [], [], [], 0, [], [(20, [0, 1, 3], [60, 0, 2, 514, 2, 7]), (20, [0, 1], [60, 0, 2, 509, 2, 7])])]
def t_St_sendRound_at_gr_ct : ct_L := [(90, 67, e_jMath_min1_v49), (90, 67, e_jMath_min1_v50)]
set_option maxRecDepth 100000 in
theorem c_St_sendRound_at_gr {l : Launch} {D : va_G} {kA : Nat → ClassId} : ct_ok PRD l D kA GG y_St_sendRound_at_gr z_St_sendRound_at_gr e_St_sendRound_at_gr := chk_all_ok (FT := [(9, 10, 0), (18, 10, 2), (25, 10, 4), (34, 10, 7)]) (PT := []) (CT := t_St_sendRound_at_gr_ct) (KT := [(0, 44, .int (1000000000), (0, 1000000000, 1000000000, []))]) (NT := []) (AN := n_St_sendRound_at_gr_an) (OT := [o_St_sendRound_at_gr_0, o_St_sendRound_at_gr_1, o_St_sendRound_at_gr_2, o_St_sendRound_at_gr_3, o_St_sendRound_at_gr_4, o_St_sendRound_at_gr_5, o_St_sendRound_at_gr_6, o_St_sendRound_at_gr_7, o_St_sendRound_at_gr_8, o_St_sendRound_at_gr_9]) 3 328 (List.forall_mem_cons.mpr ⟨oo_St_sendRound_at_gr_0, List.forall_mem_cons.mpr ⟨oo_St_sendRound_at_gr_1, List.forall_mem_cons.mpr ⟨oo_St_sendRound_at_gr_2, List.forall_mem_cons.mpr ⟨oo_St_sendRound_at_gr_3, List.forall_mem_cons.mpr ⟨oo_St_sendRound_at_gr_4, List.forall_mem_cons.mpr ⟨oo_St_sendRound_at_gr_5, List.forall_mem_cons.mpr ⟨oo_St_sendRound_at_gr_6, List.forall_mem_cons.mpr ⟨oo_St_sendRound_at_gr_7, List.forall_mem_cons.mpr ⟨oo_St_sendRound_at_gr_8, List.forall_mem_cons.mpr ⟨oo_St_sendRound_at_gr_9, List.forall_mem_nil _⟩⟩⟩⟩⟩⟩⟩⟩⟩⟩) (by decide +kernel) ⟨List.forall_mem_cons.mpr ⟨gf_St_9, List.forall_mem_cons.mpr ⟨gf_St_18, List.forall_mem_cons.mpr ⟨gf_St_25, List.forall_mem_cons.mpr ⟨gf_St_34, List.forall_mem_nil _⟩⟩⟩⟩, List.forall_mem_nil _, List.forall_mem_cons.mpr ⟨cl_static (y := y_jMath_min1) c_jMath_min1_v49 wm_658 wm_10 wm_1361 wm_657 ⟨by decide, by decide, by decide +kernel⟩ (by decide), List.forall_mem_cons.mpr ⟨cl_static (y := y_jMath_min1) c_jMath_min1_v50 wm_658 wm_10 wm_1361 wm_657 ⟨by decide, by decide, by decide +kernel⟩ (by decide), List.forall_mem_nil _⟩⟩, List.forall_mem_cons.mpr ⟨kx_St_0_44, List.forall_mem_nil _⟩, List.forall_mem_nil _, GG_pl⟩ (by decide +kernel)
set_option maxHeartbeats 4000000 in
theorem vc_Mo_apartNode_0_0 (x1 : Int) (pn_0 : Int) (k1 : 0 ≤ x1 ∧ x1 ≤ 0) (f1 : 1 ≤ pn_0) (kz_0_31 : 0 ≤ pn_0 ∧ pn_0 ≤ 25) : 1 * x1 + ((-1) * pn_0 + 0) ≤ (-1) := by
  omega
def o_Mo_apartNode_0 : or_T := (3, 3, [(0, (2, 0, 0, [165])), (1, (0, 0, 0, []))], [(20, [0], [50, 1, 0, 31, 0, 2, 0, 1, 2, 0, 31])], [], [], [(20, [1, 0], [30, -1, 1, 0, 0, -1, 1, 31])], [], [])
theorem oo_Mo_apartNode_0 {kA : Nat → ClassId} : or_ok PRD kA GG o_Mo_apartNode_0 := by
  refine or_mk fun A ta ws vs hD hth hl => ?_
  intro t0 r0 t1 k1 f1
  have kz_0_31 := fdq_145 hD hth r0
  have nf0 : fc_1 PRD (20, [1, 0], [30, -1, 1, 0, 0, -1, 1, 31]) ws (vs) := ⟨nf_in hl rfl, sgq_553 (vc_Mo_apartNode_0_0 (v_iv (n_v vs 1)) (w_fi ws (n_v vs 0) 31) k1 (shm_938 f1) kz_0_31)⟩
  refine ⟨(fun _ h => (by cases h)), [], trivial, ?_, (fun _ h => (by cases h))⟩
  rw [List.append_nil]
  exact List.forall_mem_cons.mpr ⟨⟨show (20 : Nat) < 100 from by decide, nf0⟩, (fun _ h => (by cases h))⟩
set_option maxHeartbeats 4000000 in
theorem vc_Mo_apartNode_1_0 (x1 : Int) (x2 : Int) (x3 : Int) (pn_0 : Int) (pt_0 : Int → Int) (ph_0 : Int → Int) (pm_0 : Int) (alive_0 : Int → Int) (seen_0 : Int → Int) (k1 : 0 ≤ x1 ∧ x1 ≤ 0) (k2 : (-1) ≤ x2 ∧ x2 ≤ (-1)) (k3 : 0 ≤ x3 ∧ x3 ≤ 0) (f3 : FLD (pn_0) (pm_0) (pt_0) (ph_0) (alive_0) (seen_0) (x1) (x2)) (kz_0_31 : 0 ≤ pn_0 ∧ pn_0 ≤ 25) (kz_0_32 : 0 ≤ pm_0 ∧ pm_0 ≤ 80) : AP1 (pn_0) (pm_0) (pt_0) (ph_0) (alive_0) (seen_0) (x3) := by
  first
    | exact ap1_next ‹AP1 _ _ _ _ _ _ _› (by omega) (by omega)
    | (refine ⟨?_, fun j a b => by exfalso; omega⟩
       have e1 : x1 = 0 := by omega
       have e2 : x2 = -1 := by omega
       rw [← e1, ← e2]; exact ‹FLD _ _ _ _ _ _ _ _›)
def o_Mo_apartNode_1 : or_T := (8, 4, [(0, (2, 0, 0, [165])), (1, (0, 0, 0, [])), (2, (0, -1, -1, [])), (3, (0, 0, 0, []))], [(20, [0, 1, 2], [60, 2, 4, 80, 31, 32, 33, 34, 35, 38])], [], [], [(20, [0, 3], [60, 2, 4, 269, 31, 32, 33, 34, 35, 38]), (24, [0, 0], [])], [], [])
theorem oo_Mo_apartNode_1 {kA : Nat → ClassId} : or_ok PRD kA GG o_Mo_apartNode_1 := by
  refine or_mk fun A ta ws vs hD hth hl => ?_
  intro t0 r0 t1 k1 t2 k2 t3 k3 f3
  have kz_0_31 := fdq_145 hD hth r0
  have kz_0_32 := fdq_140 hD hth r0
  have nf0 : fc_1 PRD (20, [0, 3], [60, 2, 4, 269, 31, 32, 33, 34, 35, 38]) ws (vs) := ⟨nf_in hl rfl, sgq_939 (vc_Mo_apartNode_1_0 (v_iv (n_v vs 1)) (v_iv (n_v vs 2)) (v_iv (n_v vs 3)) (w_fi ws (n_v vs 0) 31) (w_ei ws (w_ar ws (n_v vs 0) 33)) (w_ei ws (w_ar ws (n_v vs 0) 34)) (w_fi ws (n_v vs 0) 32) (w_ei ws (w_ar ws (n_v vs 0) 35)) (w_ei ws (w_ar ws (n_v vs 0) 38)) k1 k2 k3 (shm_582 f3) kz_0_31 kz_0_32)⟩
  have nf1 : fc_1 PRD (24, [0, 0], []) ws (vs) := by
    refine ⟨nf_in hl rfl, sgq_1 ?_⟩
    · show n_v vs 0 = n_v vs 0
      first | rfl | simp only [true_and]
  refine ⟨(fun _ h => (by cases h)), [], trivial, ?_, (fun _ h => (by cases h))⟩
  rw [List.append_nil]
  exact List.forall_mem_cons.mpr ⟨⟨show (20 : Nat) < 100 from by decide, nf0⟩, List.forall_mem_cons.mpr ⟨⟨show (24 : Nat) < 100 from by decide, nf1⟩, (fun _ h => (by cases h))⟩⟩
set_option maxHeartbeats 4000000 in
theorem vc_Mo_apartNode_2_0 (x2 : Int) (x3 : Int) (x4 : Int) (pn_0 : Int) (pt_0 : Int → Int) (ph_0 : Int → Int) (pm_0 : Int) (alive_0 : Int → Int) (seen_0 : Int → Int) (k2 : 0 ≤ x2 ∧ x2 ≤ 25) (k3 : 0 ≤ x3 ∧ x3 ≤ 25) (k4 : (-1) ≤ x4 ∧ x4 ≤ (-1)) (d0 : x3 + 0 ≤ x2 ∧ x2 ≤ x3 + 4294967296) (g1 : x3 = pn_0) (f2 : GOK (pn_0) (pm_0) (pt_0) (ph_0)) (f3 : AP1 (pn_0) (pm_0) (pt_0) (ph_0) (alive_0) (seen_0) (x2)) (kz_0_31 : 0 ≤ pn_0 ∧ pn_0 ≤ 25) (kz_0_32 : 0 ≤ pm_0 ∧ pm_0 ≤ 80) : APN (pn_0) (pm_0) (pt_0) (ph_0) (alive_0) (x4) := by
  exact apn_no ‹GOK _ _ _ _› ‹AP1 _ _ _ _ _ _ _› (by omega) (by omega)
def o_Mo_apartNode_2 : or_T := (34, 5, [(0, (2, 0, 0, [165])), (2, (0, 0, 25, [])), (3, (0, 0, 25, [])), (4, (0, -1, -1, []))], [(9, [3, 1], [31]), (20, [1], [60, 2, 2, 75, 31, 32, 33, 34]), (20, [1, 2], [60, 2, 4, 269, 31, 32, 33, 34, 35, 38]), (24, [0, 1], [])], [], [], [(20, [0, 4], [60, 2, 3, 265, 31, 32, 33, 34, 35])], [], [(2, 3, 0, 4294967296)])
theorem oo_Mo_apartNode_2 {kA : Nat → ClassId} : or_ok PRD kA GG o_Mo_apartNode_2 := by
  refine or_mk fun A ta ws vs hD hth hl => ?_
  intro t0 r0 t2 k2 t3 k3 t4 k4 d0 f1 f2 f3 f4
  replace f1 := shm_577 f1
  replace f2 := shm_575 f2
  replace f3 := shm_939 f3
  replace f4 := shm_5 f4
  have q1 : n_v vs 1 = n_v vs 0 := f4.symm
  simp only [q1] at f1 f2 f3
  have g1 : v_iv (n_v vs 3) = w_fi ws (n_v vs 0) 31 := congrArg v_iv f1
  have kz_0_31 := fdq_145 hD hth r0
  have kz_0_32 := fdq_140 hD hth r0
  have nf0 : fc_1 PRD (20, [0, 4], [60, 2, 3, 265, 31, 32, 33, 34, 35]) ws (vs) := ⟨nf_in hl rfl, sgq_940 (vc_Mo_apartNode_2_0 (v_iv (n_v vs 2)) (v_iv (n_v vs 3)) (v_iv (n_v vs 4)) (w_fi ws (n_v vs 0) 31) (w_ei ws (w_ar ws (n_v vs 0) 33)) (w_ei ws (w_ar ws (n_v vs 0) 34)) (w_fi ws (n_v vs 0) 32) (w_ei ws (w_ar ws (n_v vs 0) 35)) (w_ei ws (w_ar ws (n_v vs 0) 38)) k2 k3 k4 d0 g1 f2 f3 kz_0_31 kz_0_32)⟩
  refine ⟨(fun _ h => (by cases h)), [], trivial, ?_, (fun _ h => (by cases h))⟩
  rw [List.append_nil]
  exact List.forall_mem_cons.mpr ⟨⟨show (20 : Nat) < 100 from by decide, nf0⟩, (fun _ h => (by cases h))⟩
set_option maxHeartbeats 4000000 in
theorem vc_Mo_apartNode_3_0 (x2 : Int) (x5 : Int) (x6 : Int) (seen_0 : Int → Int) (pn_0 : Int) (pt_0 : Int → Int) (ph_0 : Int → Int) (pm_0 : Int) (alive_0 : Int → Int) (k2 : 0 ≤ x2 ∧ x2 ≤ 24) (k5 : 1 ≤ x5 ∧ x5 ≤ 1) (k6 : 1 ≤ x6 ∧ x6 ≤ 25) (f0 : x6 = x2 + 1) (h2 : x5 = seen_0 (x2)) (f7 : AP1 (pn_0) (pm_0) (pt_0) (ph_0) (alive_0) (seen_0) (x2)) (kz_0_31 : 0 ≤ pn_0 ∧ pn_0 ≤ 25) (kz_0_32 : 0 ≤ pm_0 ∧ pm_0 ≤ 80) : AP1 (pn_0) (pm_0) (pt_0) (ph_0) (alive_0) (seen_0) (x6) := by
  first
    | exact ap1_next ‹AP1 _ _ _ _ _ _ _› (by omega) (by omega)
    | (refine ⟨?_, fun j a b => by exfalso; omega⟩
       have e1 : x1 = 0 := by omega
       have e2 : x2 = -1 := by omega
       rw [← e1, ← e2]; exact ‹FLD _ _ _ _ _ _ _ _›)
def o_Mo_apartNode_3 : or_T := (8, 7, [(0, (2, 0, 0, [165])), (2, (0, 0, 24, [])), (5, (0, 1, 1, [])), (6, (0, 1, 25, []))], [(6, [6, 2], [1]), (10, [5, 4, 2], []), (9, [4, 1], [38]), (20, [1, 2], [60, 2, 4, 269, 31, 32, 33, 34, 35, 38]), (24, [0, 1], [])], [], [], [(20, [1, 6], [60, 2, 4, 269, 31, 32, 33, 34, 35, 38])], [], [])
theorem oo_Mo_apartNode_3 {kA : Nat → ClassId} : or_ok PRD kA GG o_Mo_apartNode_3 := by
  refine or_mk fun A ta ws vs hD hth hl => ?_
  intro t0 r0 t2 k2 t5 k5 t6 k6 f0 f2 f3 f7 f8
  replace f0 := shm_4 f0
  replace f2 := shm_107 f2
  replace f3 := shm_581 f3
  replace f7 := shm_939 f7
  replace f8 := shm_5 f8
  have q1 : n_v vs 1 = n_v vs 0 := f8.symm
  simp only [q1] at f3 f7
  have ad_4 : v_ad (n_v vs 4) = w_ar ws (n_v vs 0) 38 := congrArg v_ad f3
  simp only [ad_4] at f2
  have h2 : v_iv (n_v vs 5) = w_ei ws (w_ar ws (n_v vs 0) 38) (v_iv (n_v vs 2)) := f2
  have kz_0_31 := fdq_145 hD hth r0
  have kz_0_32 := fdq_140 hD hth r0
  have nf0 : fc_1 PRD (20, [1, 6], [60, 2, 4, 269, 31, 32, 33, 34, 35, 38]) ws (vs) := by
    refine ⟨nf_in hl rfl, sgq_939 ?_⟩
    · show AP1 (w_fi ws (n_v vs 1) 31) (w_fi ws (n_v vs 1) 32) (w_ei ws (w_ar ws (n_v vs 1) 33)) (w_ei ws (w_ar ws (n_v vs 1) 34)) (w_ei ws (w_ar ws (n_v vs 1) 35)) (w_ei ws (w_ar ws (n_v vs 1) 38)) (v_iv (n_v vs 6))
      rw [q1]
      exact vc_Mo_apartNode_3_0 (v_iv (n_v vs 2)) (v_iv (n_v vs 5)) (v_iv (n_v vs 6)) (w_ei ws (w_ar ws (n_v vs 0) 38)) (w_fi ws (n_v vs 0) 31) (w_ei ws (w_ar ws (n_v vs 0) 33)) (w_ei ws (w_ar ws (n_v vs 0) 34)) (w_fi ws (n_v vs 0) 32) (w_ei ws (w_ar ws (n_v vs 0) 35)) k2 k5 k6 f0 h2 f7 kz_0_31 kz_0_32
  refine ⟨(fun _ h => (by cases h)), [], trivial, ?_, (fun _ h => (by cases h))⟩
  rw [List.append_nil]
  exact List.forall_mem_cons.mpr ⟨⟨show (20 : Nat) < 100 from by decide, nf0⟩, (fun _ h => (by cases h))⟩
set_option maxHeartbeats 4000000 in
theorem vc_Mo_apartNode_4_0 (x2 : Int) (x3 : Int) (x5 : Int) (seen_0 : Int → Int) (pn_0 : Int) (pt_0 : Int → Int) (ph_0 : Int → Int) (pm_0 : Int) (alive_0 : Int → Int) (k2 : 0 ≤ x2 ∧ x2 ≤ 24) (k3 : 1 ≤ x3 ∧ x3 ≤ 25) (k5 : 0 ≤ x5 ∧ x5 ≤ 0) (d0 : x3 + (-4294967296) ≤ x2 ∧ x2 ≤ x3 + (-1)) (h1 : x5 = seen_0 (x2)) (g4 : x3 = pn_0) (f5 : GOK (pn_0) (pm_0) (pt_0) (ph_0)) (f6 : AP1 (pn_0) (pm_0) (pt_0) (ph_0) (alive_0) (seen_0) (x2)) (kz_0_31 : 0 ≤ pn_0 ∧ pn_0 ≤ 25) (kz_0_32 : 0 ≤ pm_0 ∧ pm_0 ≤ 80) : APN (pn_0) (pm_0) (pt_0) (ph_0) (alive_0) (x2) := by
  exact apn_yes ‹GOK _ _ _ _› ‹AP1 _ _ _ _ _ _ _› (by omega) (by omega) (by omega)
def o_Mo_apartNode_4 : or_T := (26, 6, [(0, (2, 0, 0, [165])), (2, (0, 0, 24, [])), (3, (0, 1, 25, [])), (5, (0, 0, 0, []))], [(10, [5, 4, 2], []), (9, [4, 1], [38]), (9, [3, 1], [31]), (20, [1], [60, 2, 2, 75, 31, 32, 33, 34]), (20, [1, 2], [60, 2, 4, 269, 31, 32, 33, 34, 35, 38]), (24, [0, 1], [])], [], [], [(20, [0, 2], [60, 2, 3, 265, 31, 32, 33, 34, 35])], [], [(2, 3, -4294967296, -1)])
theorem oo_Mo_apartNode_4 {kA : Nat → ClassId} : or_ok PRD kA GG o_Mo_apartNode_4 := by
  refine or_mk fun A ta ws vs hD hth hl => ?_
  intro t0 r0 t2 k2 t3 k3 t5 k5 d0 f1 f2 f4 f5 f6 f7
  replace f1 := shm_107 f1
  replace f2 := shm_581 f2
  replace f4 := shm_577 f4
  replace f5 := shm_575 f5
  replace f6 := shm_939 f6
  replace f7 := shm_5 f7
  have q1 : n_v vs 1 = n_v vs 0 := f7.symm
  simp only [q1] at f2 f4 f5 f6
  have ad_4 : v_ad (n_v vs 4) = w_ar ws (n_v vs 0) 38 := congrArg v_ad f2
  simp only [ad_4] at f1
  have h1 : v_iv (n_v vs 5) = w_ei ws (w_ar ws (n_v vs 0) 38) (v_iv (n_v vs 2)) := f1
  have g4 : v_iv (n_v vs 3) = w_fi ws (n_v vs 0) 31 := congrArg v_iv f4
  have kz_0_31 := fdq_145 hD hth r0
  have kz_0_32 := fdq_140 hD hth r0
  have nf0 : fc_1 PRD (20, [0, 2], [60, 2, 3, 265, 31, 32, 33, 34, 35]) ws (vs) := ⟨nf_in hl rfl, sgq_940 (vc_Mo_apartNode_4_0 (v_iv (n_v vs 2)) (v_iv (n_v vs 3)) (v_iv (n_v vs 5)) (w_ei ws (w_ar ws (n_v vs 0) 38)) (w_fi ws (n_v vs 0) 31) (w_ei ws (w_ar ws (n_v vs 0) 33)) (w_ei ws (w_ar ws (n_v vs 0) 34)) (w_fi ws (n_v vs 0) 32) (w_ei ws (w_ar ws (n_v vs 0) 35)) k2 k3 k5 d0 h1 g4 f5 f6 kz_0_31 kz_0_32)⟩
  refine ⟨(fun _ h => (by cases h)), [], trivial, ?_, (fun _ h => (by cases h))⟩
  rw [List.append_nil]
  exact List.forall_mem_cons.mpr ⟨⟨show (20 : Nat) < 100 from by decide, nf0⟩, (fun _ h => (by cases h))⟩
def n_Mo_apartNode_an : List an_T := [(8, [(0, (2, 0, 0, [165])), (1, (0, 0, 25, []))], [], (0, 0), [(0, 0, 99992), (1, 2, 25), (0, 0, 100000)], [], [], [(2, 0, 0, [165])], 0, [], [(20, [1], [60, 2, 2, 75, 31, 32, 33, 34]), (20, [1, 2], [60, 2, 4, 269, 31, 32, 33, 34, 35, 38]), (24, [0, 1], [])])]
def t_Mo_apartNode_ct : ct_L := [(1, 606, e_Mo_flood)]
set_option maxRecDepth 100000 in
theorem c_Mo_apartNode {l : Launch} {D : va_G} {kA : Nat → ClassId} (h_Mo_flood : ct_ok PRD l D kA GG y_Mo_flood z_Mo_flood e_Mo_flood) : ct_ok PRD l D kA GG y_Mo_apartNode z_Mo_apartNode e_Mo_apartNode := chk_all_ok (FT := [(72, 13, 38), (594, 13, 31)]) (PT := []) (CT := t_Mo_apartNode_ct) (KT := []) (NT := []) (AN := n_Mo_apartNode_an) (OT := [o_Mo_apartNode_0, o_Mo_apartNode_1, o_Mo_apartNode_2, o_Mo_apartNode_3, o_Mo_apartNode_4]) 3 200 (List.forall_mem_cons.mpr ⟨oo_Mo_apartNode_0, List.forall_mem_cons.mpr ⟨oo_Mo_apartNode_1, List.forall_mem_cons.mpr ⟨oo_Mo_apartNode_2, List.forall_mem_cons.mpr ⟨oo_Mo_apartNode_3, List.forall_mem_cons.mpr ⟨oo_Mo_apartNode_4, List.forall_mem_nil _⟩⟩⟩⟩⟩) (by decide +kernel) ⟨List.forall_mem_cons.mpr ⟨gf_Mo_72, List.forall_mem_cons.mpr ⟨gf_Mo_594, List.forall_mem_nil _⟩⟩, List.forall_mem_nil _, List.forall_mem_cons.mpr ⟨cl_virtual (y := y_Mo_flood) (ci := 13) rfl rfl ⟨_, _, rfl⟩ (by decide +kernel) h_Mo_flood wm_3167 wm_9 wm_3164 wm_3166 wv_15_1 ⟨by decide, by decide, by decide +kernel⟩ (by decide), List.forall_mem_nil _⟩, List.forall_mem_nil _, List.forall_mem_nil _, GG_pl⟩ (by decide +kernel)

set_option maxHeartbeats 4000000 in
theorem vc_Mo_augment_0_0 (x5 : Int) (cameBy_0 : Int → Int) (k5 : 0 ≤ x5 ∧ x5 ≤ 0) : AU0 (cameBy_0) (x5) := by
  first
    | (intro v a b; exfalso; omega)
    | exact au0_step ‹AU0 _ _› (by omega) (by assumption) (by omega) (by omega)
def o_Mo_augment_0 : or_T := (3, 6, [(5, (0, 0, 0, []))], [], [], [], [(20, [0, 5], [60, 0, 1, 391, 91]), (24, [0, 0], []), (24, [1, 1], []), (24, [2, 2], []), (24, [3, 3], [])], [], [])
theorem oo_Mo_augment_0 {kA : Nat → ClassId} : or_ok PRD kA GG o_Mo_augment_0 := by
  refine or_mk fun A ta ws vs hD hth hl => ?_
  intro t5 k5
  have nf0 : fc_1 PRD (20, [0, 5], [60, 0, 1, 391, 91]) ws (vs) := ⟨nf_in hl rfl, sgq_947 (vc_Mo_augment_0_0 (v_iv (n_v vs 5)) (w_ei ws (w_ar ws (n_v vs 0) 91)) k5)⟩
  have nf1 : fc_1 PRD (24, [0, 0], []) ws (vs) := by
    refine ⟨nf_in hl rfl, sgq_1 ?_⟩
    · show n_v vs 0 = n_v vs 0
      first | rfl | simp only [true_and]
  have nf2 : fc_1 PRD (24, [1, 1], []) ws (vs) := by
    refine ⟨nf_in hl rfl, sgq_1 ?_⟩
    · show n_v vs 1 = n_v vs 1
      first | rfl | simp only [true_and]
  have nf3 : fc_1 PRD (24, [2, 2], []) ws (vs) := by
    refine ⟨nf_in hl rfl, sgq_1 ?_⟩
    · show n_v vs 2 = n_v vs 2
      first | rfl | simp only [true_and]
  have nf4 : fc_1 PRD (24, [3, 3], []) ws (vs) := by
    refine ⟨nf_in hl rfl, sgq_1 ?_⟩
    · show n_v vs 3 = n_v vs 3
      first | rfl | simp only [true_and]
  refine ⟨(fun _ h => (by cases h)), [], trivial, ?_, (fun _ h => (by cases h))⟩
  rw [List.append_nil]
  exact List.forall_mem_cons.mpr ⟨⟨show (20 : Nat) < 100 from by decide, nf0⟩, List.forall_mem_cons.mpr ⟨⟨show (24 : Nat) < 100 from by decide, nf1⟩, List.forall_mem_cons.mpr ⟨⟨show (24 : Nat) < 100 from by decide, nf2⟩, List.forall_mem_cons.mpr ⟨⟨show (24 : Nat) < 100 from by decide, nf3⟩, List.forall_mem_cons.mpr ⟨⟨show (24 : Nat) < 100 from by decide, nf4⟩, (fun _ h => (by cases h))⟩⟩⟩⟩⟩
set_option maxHeartbeats 4000000 in
theorem vc_Mo_augment_1_0 (x1 : Int) (x2 : Int) (pointMany_0 : Int) (flow_0 : Int → Int) (spot_0 : Int → Int) (costA_0 : Int → Int) (costB_0 : Int → Int) (costW_0 : Int → Int) (costPlain_0 : Int → Int) (apartA_0 : Int → Int) (apartB_0 : Int → Int) (apart_0 : Int → Int) (costMany_0 : Int) (apartMany_0 : Int) (pointMany_1 : Int) (flow_1 : Int → Int) (spot_1 : Int → Int) (costA_1 : Int → Int) (costB_1 : Int → Int) (costW_1 : Int → Int) (costPlain_1 : Int → Int) (apartA_1 : Int → Int) (apartB_1 : Int → Int) (apart_1 : Int → Int) (costMany_1 : Int) (apartMany_1 : Int) (pointMany_2 : Int) (flow_2 : Int → Int) (spot_2 : Int → Int) (costA_2 : Int → Int) (costB_2 : Int → Int) (costW_2 : Int → Int) (costPlain_2 : Int → Int) (apartA_2 : Int → Int) (apartB_2 : Int → Int) (apart_2 : Int → Int) (costMany_2 : Int) (apartMany_2 : Int) (cameBy_0 : Int → Int) (cameBy_1 : Int → Int) (queue_1 : Int → Int) (queue_2 : Int → Int) (k1 : 2 ≤ x1 ∧ x1 ≤ 78) (k2 : 0 ≤ x2 ∧ x2 ≤ 76) (f25 : (x2 + 1) ≤ x1) (fe_0_79_1 : pointMany_0 = pointMany_1) (fe_0_80_1 : costMany_0 = costMany_1) (fe_0_81_1 : apartMany_0 = apartMany_1) (fe_0_79_2 : pointMany_1 = pointMany_2) (fe_0_80_2 : costMany_1 = costMany_2) (fe_0_81_2 : apartMany_1 = apartMany_2) (hE_0_82_1 : ∀ j : Int, spot_0 j = spot_1 j) (hE_0_82_2 : ∀ j : Int, spot_1 j = spot_2 j) (hE_0_83_1 : ∀ j : Int, costA_0 j = costA_1 j) (hE_0_83_2 : ∀ j : Int, costA_1 j = costA_2 j) (hE_0_84_1 : ∀ j : Int, costB_0 j = costB_1 j) (hE_0_84_2 : ∀ j : Int, costB_1 j = costB_2 j) (hE_0_85_1 : ∀ j : Int, costW_0 j = costW_1 j) (hE_0_85_2 : ∀ j : Int, costW_1 j = costW_2 j) (hE_0_86_1 : ∀ j : Int, costPlain_0 j = costPlain_1 j) (hE_0_86_2 : ∀ j : Int, costPlain_1 j = costPlain_2 j) (hE_0_87_1 : ∀ j : Int, apartA_0 j = apartA_1 j) (hE_0_87_2 : ∀ j : Int, apartA_1 j = apartA_2 j) (hE_0_88_1 : ∀ j : Int, apartB_0 j = apartB_1 j) (hE_0_88_2 : ∀ j : Int, apartB_1 j = apartB_2 j) (hE_0_89_1 : ∀ j : Int, apart_0 j = apart_1 j) (hE_0_89_2 : ∀ j : Int, apart_1 j = apart_2 j) (hE_0_90_1 : ∀ j : Int, flow_0 j = flow_1 j) (hE_0_90_2 : ∀ j : Int, flow_1 j = flow_2 j) (hE_0_91_1 : ∀ j : Int, cameBy_0 j = cameBy_1 j) (hE_0_92_2 : ∀ j : Int, queue_1 j = queue_2 j) (kz_0_79 : 0 ≤ pointMany_0 ∧ pointMany_0 ≤ 76) (kz_0_80 : 0 ≤ costMany_0 ∧ costMany_0 ≤ 200) (kz_0_81 : 0 ≤ apartMany_0 ∧ apartMany_0 ≤ 200) : (x2 + 1) ≤ x1 := by
  subst fe_0_79_1
  subst fe_0_80_1
  subst fe_0_81_1
  subst fe_0_79_2
  subst fe_0_80_2
  subst fe_0_81_2
  have e_hE_0_82_1 := funext hE_0_82_1; subst e_hE_0_82_1
  have e_hE_0_82_2 := funext hE_0_82_2; subst e_hE_0_82_2
  have e_hE_0_83_1 := funext hE_0_83_1; subst e_hE_0_83_1
  have e_hE_0_83_2 := funext hE_0_83_2; subst e_hE_0_83_2
  have e_hE_0_84_1 := funext hE_0_84_1; subst e_hE_0_84_1
  have e_hE_0_84_2 := funext hE_0_84_2; subst e_hE_0_84_2
  have e_hE_0_85_1 := funext hE_0_85_1; subst e_hE_0_85_1
  have e_hE_0_85_2 := funext hE_0_85_2; subst e_hE_0_85_2
  have e_hE_0_86_1 := funext hE_0_86_1; subst e_hE_0_86_1
  have e_hE_0_86_2 := funext hE_0_86_2; subst e_hE_0_86_2
  have e_hE_0_87_1 := funext hE_0_87_1; subst e_hE_0_87_1
  have e_hE_0_87_2 := funext hE_0_87_2; subst e_hE_0_87_2
  have e_hE_0_88_1 := funext hE_0_88_1; subst e_hE_0_88_1
  have e_hE_0_88_2 := funext hE_0_88_2; subst e_hE_0_88_2
  have e_hE_0_89_1 := funext hE_0_89_1; subst e_hE_0_89_1
  have e_hE_0_89_2 := funext hE_0_89_2; subst e_hE_0_89_2
  have e_hE_0_90_1 := funext hE_0_90_1; subst e_hE_0_90_1
  have e_hE_0_90_2 := funext hE_0_90_2; subst e_hE_0_90_2
  have e_hE_0_91_1 := funext hE_0_91_1; subst e_hE_0_91_1
  have e_hE_0_92_2 := funext hE_0_92_2; subst e_hE_0_92_2
  first
    | omega
    | (have h := au1_len ‹AU1 _ _ _ _ _›; omega)
set_option maxHeartbeats 4000000 in
theorem vc_Mo_augment_1_1 (x1 : Int) (x3 : Int) (pointMany_0 : Int) (flow_0 : Int → Int) (spot_0 : Int → Int) (costA_0 : Int → Int) (costB_0 : Int → Int) (costW_0 : Int → Int) (costPlain_0 : Int → Int) (apartA_0 : Int → Int) (apartB_0 : Int → Int) (apart_0 : Int → Int) (costMany_0 : Int) (apartMany_0 : Int) (pointMany_1 : Int) (flow_1 : Int → Int) (spot_1 : Int → Int) (costA_1 : Int → Int) (costB_1 : Int → Int) (costW_1 : Int → Int) (costPlain_1 : Int → Int) (apartA_1 : Int → Int) (apartB_1 : Int → Int) (apart_1 : Int → Int) (costMany_1 : Int) (apartMany_1 : Int) (pointMany_2 : Int) (flow_2 : Int → Int) (spot_2 : Int → Int) (costA_2 : Int → Int) (costB_2 : Int → Int) (costW_2 : Int → Int) (costPlain_2 : Int → Int) (apartA_2 : Int → Int) (apartB_2 : Int → Int) (apart_2 : Int → Int) (costMany_2 : Int) (apartMany_2 : Int) (cameBy_0 : Int → Int) (cameBy_1 : Int → Int) (queue_1 : Int → Int) (queue_2 : Int → Int) (k1 : 2 ≤ x1 ∧ x1 ≤ 78) (k3 : 1 ≤ x3 ∧ x3 ≤ 77) (f26 : (x3 + 1) ≤ x1) (fe_0_79_1 : pointMany_0 = pointMany_1) (fe_0_80_1 : costMany_0 = costMany_1) (fe_0_81_1 : apartMany_0 = apartMany_1) (fe_0_79_2 : pointMany_1 = pointMany_2) (fe_0_80_2 : costMany_1 = costMany_2) (fe_0_81_2 : apartMany_1 = apartMany_2) (hE_0_82_1 : ∀ j : Int, spot_0 j = spot_1 j) (hE_0_82_2 : ∀ j : Int, spot_1 j = spot_2 j) (hE_0_83_1 : ∀ j : Int, costA_0 j = costA_1 j) (hE_0_83_2 : ∀ j : Int, costA_1 j = costA_2 j) (hE_0_84_1 : ∀ j : Int, costB_0 j = costB_1 j) (hE_0_84_2 : ∀ j : Int, costB_1 j = costB_2 j) (hE_0_85_1 : ∀ j : Int, costW_0 j = costW_1 j) (hE_0_85_2 : ∀ j : Int, costW_1 j = costW_2 j) (hE_0_86_1 : ∀ j : Int, costPlain_0 j = costPlain_1 j) (hE_0_86_2 : ∀ j : Int, costPlain_1 j = costPlain_2 j) (hE_0_87_1 : ∀ j : Int, apartA_0 j = apartA_1 j) (hE_0_87_2 : ∀ j : Int, apartA_1 j = apartA_2 j) (hE_0_88_1 : ∀ j : Int, apartB_0 j = apartB_1 j) (hE_0_88_2 : ∀ j : Int, apartB_1 j = apartB_2 j) (hE_0_89_1 : ∀ j : Int, apart_0 j = apart_1 j) (hE_0_89_2 : ∀ j : Int, apart_1 j = apart_2 j) (hE_0_90_1 : ∀ j : Int, flow_0 j = flow_1 j) (hE_0_90_2 : ∀ j : Int, flow_1 j = flow_2 j) (hE_0_91_1 : ∀ j : Int, cameBy_0 j = cameBy_1 j) (hE_0_92_2 : ∀ j : Int, queue_1 j = queue_2 j) (kz_0_79 : 0 ≤ pointMany_0 ∧ pointMany_0 ≤ 76) (kz_0_80 : 0 ≤ costMany_0 ∧ costMany_0 ≤ 200) (kz_0_81 : 0 ≤ apartMany_0 ∧ apartMany_0 ≤ 200) : (x3 + 1) ≤ x1 := by
  subst fe_0_79_1
  subst fe_0_80_1
  subst fe_0_81_1
  subst fe_0_79_2
  subst fe_0_80_2
  subst fe_0_81_2
  have e_hE_0_82_1 := funext hE_0_82_1; subst e_hE_0_82_1
  have e_hE_0_82_2 := funext hE_0_82_2; subst e_hE_0_82_2
  have e_hE_0_83_1 := funext hE_0_83_1; subst e_hE_0_83_1
  have e_hE_0_83_2 := funext hE_0_83_2; subst e_hE_0_83_2
  have e_hE_0_84_1 := funext hE_0_84_1; subst e_hE_0_84_1
  have e_hE_0_84_2 := funext hE_0_84_2; subst e_hE_0_84_2
  have e_hE_0_85_1 := funext hE_0_85_1; subst e_hE_0_85_1
  have e_hE_0_85_2 := funext hE_0_85_2; subst e_hE_0_85_2
  have e_hE_0_86_1 := funext hE_0_86_1; subst e_hE_0_86_1
  have e_hE_0_86_2 := funext hE_0_86_2; subst e_hE_0_86_2
  have e_hE_0_87_1 := funext hE_0_87_1; subst e_hE_0_87_1
  have e_hE_0_87_2 := funext hE_0_87_2; subst e_hE_0_87_2
  have e_hE_0_88_1 := funext hE_0_88_1; subst e_hE_0_88_1
  have e_hE_0_88_2 := funext hE_0_88_2; subst e_hE_0_88_2
  have e_hE_0_89_1 := funext hE_0_89_1; subst e_hE_0_89_1
  have e_hE_0_89_2 := funext hE_0_89_2; subst e_hE_0_89_2
  have e_hE_0_90_1 := funext hE_0_90_1; subst e_hE_0_90_1
  have e_hE_0_90_2 := funext hE_0_90_2; subst e_hE_0_90_2
  have e_hE_0_91_1 := funext hE_0_91_1; subst e_hE_0_91_1
  have e_hE_0_92_2 := funext hE_0_92_2; subst e_hE_0_92_2
  first
    | omega
    | (have h := au1_len ‹AU1 _ _ _ _ _›; omega)
set_option maxHeartbeats 4000000 in
theorem vc_Mo_augment_1_2 (x1 : Int) (pointMany_0 : Int) (flow_0 : Int → Int) (spot_0 : Int → Int) (costA_0 : Int → Int) (costB_0 : Int → Int) (costW_0 : Int → Int) (costPlain_0 : Int → Int) (apartA_0 : Int → Int) (apartB_0 : Int → Int) (apart_0 : Int → Int) (costMany_0 : Int) (apartMany_0 : Int) (pointMany_1 : Int) (flow_1 : Int → Int) (spot_1 : Int → Int) (costA_1 : Int → Int) (costB_1 : Int → Int) (costW_1 : Int → Int) (costPlain_1 : Int → Int) (apartA_1 : Int → Int) (apartB_1 : Int → Int) (apart_1 : Int → Int) (costMany_1 : Int) (apartMany_1 : Int) (pointMany_2 : Int) (flow_2 : Int → Int) (spot_2 : Int → Int) (costA_2 : Int → Int) (costB_2 : Int → Int) (costW_2 : Int → Int) (costPlain_2 : Int → Int) (apartA_2 : Int → Int) (apartB_2 : Int → Int) (apart_2 : Int → Int) (costMany_2 : Int) (apartMany_2 : Int) (cameBy_0 : Int → Int) (cameBy_1 : Int → Int) (queue_1 : Int → Int) (queue_2 : Int → Int) (k1 : 2 ≤ x1 ∧ x1 ≤ 78) (f27 : x1 ≤ 78) (fe_0_79_1 : pointMany_0 = pointMany_1) (fe_0_80_1 : costMany_0 = costMany_1) (fe_0_81_1 : apartMany_0 = apartMany_1) (fe_0_79_2 : pointMany_1 = pointMany_2) (fe_0_80_2 : costMany_1 = costMany_2) (fe_0_81_2 : apartMany_1 = apartMany_2) (hE_0_82_1 : ∀ j : Int, spot_0 j = spot_1 j) (hE_0_82_2 : ∀ j : Int, spot_1 j = spot_2 j) (hE_0_83_1 : ∀ j : Int, costA_0 j = costA_1 j) (hE_0_83_2 : ∀ j : Int, costA_1 j = costA_2 j) (hE_0_84_1 : ∀ j : Int, costB_0 j = costB_1 j) (hE_0_84_2 : ∀ j : Int, costB_1 j = costB_2 j) (hE_0_85_1 : ∀ j : Int, costW_0 j = costW_1 j) (hE_0_85_2 : ∀ j : Int, costW_1 j = costW_2 j) (hE_0_86_1 : ∀ j : Int, costPlain_0 j = costPlain_1 j) (hE_0_86_2 : ∀ j : Int, costPlain_1 j = costPlain_2 j) (hE_0_87_1 : ∀ j : Int, apartA_0 j = apartA_1 j) (hE_0_87_2 : ∀ j : Int, apartA_1 j = apartA_2 j) (hE_0_88_1 : ∀ j : Int, apartB_0 j = apartB_1 j) (hE_0_88_2 : ∀ j : Int, apartB_1 j = apartB_2 j) (hE_0_89_1 : ∀ j : Int, apart_0 j = apart_1 j) (hE_0_89_2 : ∀ j : Int, apart_1 j = apart_2 j) (hE_0_90_1 : ∀ j : Int, flow_0 j = flow_1 j) (hE_0_90_2 : ∀ j : Int, flow_1 j = flow_2 j) (hE_0_91_1 : ∀ j : Int, cameBy_0 j = cameBy_1 j) (hE_0_92_2 : ∀ j : Int, queue_1 j = queue_2 j) (kz_0_79 : 0 ≤ pointMany_0 ∧ pointMany_0 ≤ 76) (kz_0_80 : 0 ≤ costMany_0 ∧ costMany_0 ≤ 200) (kz_0_81 : 0 ≤ apartMany_0 ∧ apartMany_0 ≤ 200) : x1 ≤ 78 := by
  subst fe_0_79_1
  subst fe_0_80_1
  subst fe_0_81_1
  subst fe_0_79_2
  subst fe_0_80_2
  subst fe_0_81_2
  have e_hE_0_82_1 := funext hE_0_82_1; subst e_hE_0_82_1
  have e_hE_0_82_2 := funext hE_0_82_2; subst e_hE_0_82_2
  have e_hE_0_83_1 := funext hE_0_83_1; subst e_hE_0_83_1
  have e_hE_0_83_2 := funext hE_0_83_2; subst e_hE_0_83_2
  have e_hE_0_84_1 := funext hE_0_84_1; subst e_hE_0_84_1
  have e_hE_0_84_2 := funext hE_0_84_2; subst e_hE_0_84_2
  have e_hE_0_85_1 := funext hE_0_85_1; subst e_hE_0_85_1
  have e_hE_0_85_2 := funext hE_0_85_2; subst e_hE_0_85_2
  have e_hE_0_86_1 := funext hE_0_86_1; subst e_hE_0_86_1
  have e_hE_0_86_2 := funext hE_0_86_2; subst e_hE_0_86_2
  have e_hE_0_87_1 := funext hE_0_87_1; subst e_hE_0_87_1
  have e_hE_0_87_2 := funext hE_0_87_2; subst e_hE_0_87_2
  have e_hE_0_88_1 := funext hE_0_88_1; subst e_hE_0_88_1
  have e_hE_0_88_2 := funext hE_0_88_2; subst e_hE_0_88_2
  have e_hE_0_89_1 := funext hE_0_89_1; subst e_hE_0_89_1
  have e_hE_0_89_2 := funext hE_0_89_2; subst e_hE_0_89_2
  have e_hE_0_90_1 := funext hE_0_90_1; subst e_hE_0_90_1
  have e_hE_0_90_2 := funext hE_0_90_2; subst e_hE_0_90_2
  have e_hE_0_91_1 := funext hE_0_91_1; subst e_hE_0_91_1
  have e_hE_0_92_2 := funext hE_0_92_2; subst e_hE_0_92_2
  first
    | omega
    | (have h := au1_len ‹AU1 _ _ _ _ _›; omega)
set_option maxHeartbeats 4000000 in
theorem vc_Mo_augment_1_3 (x1 : Int) (pointMany_0 : Int) (flow_0 : Int → Int) (spot_0 : Int → Int) (costA_0 : Int → Int) (costB_0 : Int → Int) (costW_0 : Int → Int) (costPlain_0 : Int → Int) (apartA_0 : Int → Int) (apartB_0 : Int → Int) (apart_0 : Int → Int) (costMany_0 : Int) (apartMany_0 : Int) (pointMany_1 : Int) (flow_1 : Int → Int) (spot_1 : Int → Int) (costA_1 : Int → Int) (costB_1 : Int → Int) (costW_1 : Int → Int) (costPlain_1 : Int → Int) (apartA_1 : Int → Int) (apartB_1 : Int → Int) (apart_1 : Int → Int) (costMany_1 : Int) (apartMany_1 : Int) (pointMany_2 : Int) (flow_2 : Int → Int) (spot_2 : Int → Int) (costA_2 : Int → Int) (costB_2 : Int → Int) (costW_2 : Int → Int) (costPlain_2 : Int → Int) (apartA_2 : Int → Int) (apartB_2 : Int → Int) (apart_2 : Int → Int) (costMany_2 : Int) (apartMany_2 : Int) (cameBy_0 : Int → Int) (cameBy_1 : Int → Int) (queue_1 : Int → Int) (queue_2 : Int → Int) (k1 : 2 ≤ x1 ∧ x1 ≤ 78) (f28 : x1 = (pointMany_2 + 2)) (fe_0_79_1 : pointMany_0 = pointMany_1) (fe_0_80_1 : costMany_0 = costMany_1) (fe_0_81_1 : apartMany_0 = apartMany_1) (fe_0_79_2 : pointMany_1 = pointMany_2) (fe_0_80_2 : costMany_1 = costMany_2) (fe_0_81_2 : apartMany_1 = apartMany_2) (hE_0_82_1 : ∀ j : Int, spot_0 j = spot_1 j) (hE_0_82_2 : ∀ j : Int, spot_1 j = spot_2 j) (hE_0_83_1 : ∀ j : Int, costA_0 j = costA_1 j) (hE_0_83_2 : ∀ j : Int, costA_1 j = costA_2 j) (hE_0_84_1 : ∀ j : Int, costB_0 j = costB_1 j) (hE_0_84_2 : ∀ j : Int, costB_1 j = costB_2 j) (hE_0_85_1 : ∀ j : Int, costW_0 j = costW_1 j) (hE_0_85_2 : ∀ j : Int, costW_1 j = costW_2 j) (hE_0_86_1 : ∀ j : Int, costPlain_0 j = costPlain_1 j) (hE_0_86_2 : ∀ j : Int, costPlain_1 j = costPlain_2 j) (hE_0_87_1 : ∀ j : Int, apartA_0 j = apartA_1 j) (hE_0_87_2 : ∀ j : Int, apartA_1 j = apartA_2 j) (hE_0_88_1 : ∀ j : Int, apartB_0 j = apartB_1 j) (hE_0_88_2 : ∀ j : Int, apartB_1 j = apartB_2 j) (hE_0_89_1 : ∀ j : Int, apart_0 j = apart_1 j) (hE_0_89_2 : ∀ j : Int, apart_1 j = apart_2 j) (hE_0_90_1 : ∀ j : Int, flow_0 j = flow_1 j) (hE_0_90_2 : ∀ j : Int, flow_1 j = flow_2 j) (hE_0_91_1 : ∀ j : Int, cameBy_0 j = cameBy_1 j) (hE_0_92_2 : ∀ j : Int, queue_1 j = queue_2 j) (kz_0_79 : 0 ≤ pointMany_0 ∧ pointMany_0 ≤ 76) (kz_0_80 : 0 ≤ costMany_0 ∧ costMany_0 ≤ 200) (kz_0_81 : 0 ≤ apartMany_0 ∧ apartMany_0 ≤ 200) : x1 = (pointMany_0 + 2) := by
  subst fe_0_79_1
  subst fe_0_80_1
  subst fe_0_81_1
  subst fe_0_79_2
  subst fe_0_80_2
  subst fe_0_81_2
  have e_hE_0_82_1 := funext hE_0_82_1; subst e_hE_0_82_1
  have e_hE_0_82_2 := funext hE_0_82_2; subst e_hE_0_82_2
  have e_hE_0_83_1 := funext hE_0_83_1; subst e_hE_0_83_1
  have e_hE_0_83_2 := funext hE_0_83_2; subst e_hE_0_83_2
  have e_hE_0_84_1 := funext hE_0_84_1; subst e_hE_0_84_1
  have e_hE_0_84_2 := funext hE_0_84_2; subst e_hE_0_84_2
  have e_hE_0_85_1 := funext hE_0_85_1; subst e_hE_0_85_1
  have e_hE_0_85_2 := funext hE_0_85_2; subst e_hE_0_85_2
  have e_hE_0_86_1 := funext hE_0_86_1; subst e_hE_0_86_1
  have e_hE_0_86_2 := funext hE_0_86_2; subst e_hE_0_86_2
  have e_hE_0_87_1 := funext hE_0_87_1; subst e_hE_0_87_1
  have e_hE_0_87_2 := funext hE_0_87_2; subst e_hE_0_87_2
  have e_hE_0_88_1 := funext hE_0_88_1; subst e_hE_0_88_1
  have e_hE_0_88_2 := funext hE_0_88_2; subst e_hE_0_88_2
  have e_hE_0_89_1 := funext hE_0_89_1; subst e_hE_0_89_1
  have e_hE_0_89_2 := funext hE_0_89_2; subst e_hE_0_89_2
  have e_hE_0_90_1 := funext hE_0_90_1; subst e_hE_0_90_1
  have e_hE_0_90_2 := funext hE_0_90_2; subst e_hE_0_90_2
  have e_hE_0_91_1 := funext hE_0_91_1; subst e_hE_0_91_1
  have e_hE_0_92_2 := funext hE_0_92_2; subst e_hE_0_92_2
  first
    | omega
    | (have h := au1_len ‹AU1 _ _ _ _ _›; omega)
set_option maxHeartbeats 4000000 in
theorem vc_Mo_augment_1_4 (x2 : Int) (pointMany_0 : Int) (flow_0 : Int → Int) (spot_0 : Int → Int) (costA_0 : Int → Int) (costB_0 : Int → Int) (costW_0 : Int → Int) (costPlain_0 : Int → Int) (apartA_0 : Int → Int) (apartB_0 : Int → Int) (apart_0 : Int → Int) (costMany_0 : Int) (apartMany_0 : Int) (pointMany_1 : Int) (flow_1 : Int → Int) (spot_1 : Int → Int) (costA_1 : Int → Int) (costB_1 : Int → Int) (costW_1 : Int → Int) (costPlain_1 : Int → Int) (apartA_1 : Int → Int) (apartB_1 : Int → Int) (apart_1 : Int → Int) (costMany_1 : Int) (apartMany_1 : Int) (pointMany_2 : Int) (flow_2 : Int → Int) (spot_2 : Int → Int) (costA_2 : Int → Int) (costB_2 : Int → Int) (costW_2 : Int → Int) (costPlain_2 : Int → Int) (apartA_2 : Int → Int) (apartB_2 : Int → Int) (apart_2 : Int → Int) (costMany_2 : Int) (apartMany_2 : Int) (cameBy_0 : Int → Int) (cameBy_1 : Int → Int) (queue_1 : Int → Int) (queue_2 : Int → Int) (k2 : 0 ≤ x2 ∧ x2 ≤ 76) (f29 : x2 = pointMany_2) (fe_0_79_1 : pointMany_0 = pointMany_1) (fe_0_80_1 : costMany_0 = costMany_1) (fe_0_81_1 : apartMany_0 = apartMany_1) (fe_0_79_2 : pointMany_1 = pointMany_2) (fe_0_80_2 : costMany_1 = costMany_2) (fe_0_81_2 : apartMany_1 = apartMany_2) (hE_0_82_1 : ∀ j : Int, spot_0 j = spot_1 j) (hE_0_82_2 : ∀ j : Int, spot_1 j = spot_2 j) (hE_0_83_1 : ∀ j : Int, costA_0 j = costA_1 j) (hE_0_83_2 : ∀ j : Int, costA_1 j = costA_2 j) (hE_0_84_1 : ∀ j : Int, costB_0 j = costB_1 j) (hE_0_84_2 : ∀ j : Int, costB_1 j = costB_2 j) (hE_0_85_1 : ∀ j : Int, costW_0 j = costW_1 j) (hE_0_85_2 : ∀ j : Int, costW_1 j = costW_2 j) (hE_0_86_1 : ∀ j : Int, costPlain_0 j = costPlain_1 j) (hE_0_86_2 : ∀ j : Int, costPlain_1 j = costPlain_2 j) (hE_0_87_1 : ∀ j : Int, apartA_0 j = apartA_1 j) (hE_0_87_2 : ∀ j : Int, apartA_1 j = apartA_2 j) (hE_0_88_1 : ∀ j : Int, apartB_0 j = apartB_1 j) (hE_0_88_2 : ∀ j : Int, apartB_1 j = apartB_2 j) (hE_0_89_1 : ∀ j : Int, apart_0 j = apart_1 j) (hE_0_89_2 : ∀ j : Int, apart_1 j = apart_2 j) (hE_0_90_1 : ∀ j : Int, flow_0 j = flow_1 j) (hE_0_90_2 : ∀ j : Int, flow_1 j = flow_2 j) (hE_0_91_1 : ∀ j : Int, cameBy_0 j = cameBy_1 j) (hE_0_92_2 : ∀ j : Int, queue_1 j = queue_2 j) (kz_0_79 : 0 ≤ pointMany_0 ∧ pointMany_0 ≤ 76) (kz_0_80 : 0 ≤ costMany_0 ∧ costMany_0 ≤ 200) (kz_0_81 : 0 ≤ apartMany_0 ∧ apartMany_0 ≤ 200) : x2 = pointMany_0 := by
  subst fe_0_79_1
  subst fe_0_80_1
  subst fe_0_81_1
  subst fe_0_79_2
  subst fe_0_80_2
  subst fe_0_81_2
  have e_hE_0_82_1 := funext hE_0_82_1; subst e_hE_0_82_1
  have e_hE_0_82_2 := funext hE_0_82_2; subst e_hE_0_82_2
  have e_hE_0_83_1 := funext hE_0_83_1; subst e_hE_0_83_1
  have e_hE_0_83_2 := funext hE_0_83_2; subst e_hE_0_83_2
  have e_hE_0_84_1 := funext hE_0_84_1; subst e_hE_0_84_1
  have e_hE_0_84_2 := funext hE_0_84_2; subst e_hE_0_84_2
  have e_hE_0_85_1 := funext hE_0_85_1; subst e_hE_0_85_1
  have e_hE_0_85_2 := funext hE_0_85_2; subst e_hE_0_85_2
  have e_hE_0_86_1 := funext hE_0_86_1; subst e_hE_0_86_1
  have e_hE_0_86_2 := funext hE_0_86_2; subst e_hE_0_86_2
  have e_hE_0_87_1 := funext hE_0_87_1; subst e_hE_0_87_1
  have e_hE_0_87_2 := funext hE_0_87_2; subst e_hE_0_87_2
  have e_hE_0_88_1 := funext hE_0_88_1; subst e_hE_0_88_1
  have e_hE_0_88_2 := funext hE_0_88_2; subst e_hE_0_88_2
  have e_hE_0_89_1 := funext hE_0_89_1; subst e_hE_0_89_1
  have e_hE_0_89_2 := funext hE_0_89_2; subst e_hE_0_89_2
  have e_hE_0_90_1 := funext hE_0_90_1; subst e_hE_0_90_1
  have e_hE_0_90_2 := funext hE_0_90_2; subst e_hE_0_90_2
  have e_hE_0_91_1 := funext hE_0_91_1; subst e_hE_0_91_1
  have e_hE_0_92_2 := funext hE_0_92_2; subst e_hE_0_92_2
  first
    | omega
    | (have h := au1_len ‹AU1 _ _ _ _ _›; omega)
set_option maxHeartbeats 4000000 in
theorem vc_Mo_augment_1_5 (x3 : Int) (pointMany_0 : Int) (flow_0 : Int → Int) (spot_0 : Int → Int) (costA_0 : Int → Int) (costB_0 : Int → Int) (costW_0 : Int → Int) (costPlain_0 : Int → Int) (apartA_0 : Int → Int) (apartB_0 : Int → Int) (apart_0 : Int → Int) (costMany_0 : Int) (apartMany_0 : Int) (pointMany_1 : Int) (flow_1 : Int → Int) (spot_1 : Int → Int) (costA_1 : Int → Int) (costB_1 : Int → Int) (costW_1 : Int → Int) (costPlain_1 : Int → Int) (apartA_1 : Int → Int) (apartB_1 : Int → Int) (apart_1 : Int → Int) (costMany_1 : Int) (apartMany_1 : Int) (pointMany_2 : Int) (flow_2 : Int → Int) (spot_2 : Int → Int) (costA_2 : Int → Int) (costB_2 : Int → Int) (costW_2 : Int → Int) (costPlain_2 : Int → Int) (apartA_2 : Int → Int) (apartB_2 : Int → Int) (apart_2 : Int → Int) (costMany_2 : Int) (apartMany_2 : Int) (cameBy_0 : Int → Int) (cameBy_1 : Int → Int) (queue_1 : Int → Int) (queue_2 : Int → Int) (k3 : 1 ≤ x3 ∧ x3 ≤ 77) (f30 : x3 = (pointMany_2 + 1)) (fe_0_79_1 : pointMany_0 = pointMany_1) (fe_0_80_1 : costMany_0 = costMany_1) (fe_0_81_1 : apartMany_0 = apartMany_1) (fe_0_79_2 : pointMany_1 = pointMany_2) (fe_0_80_2 : costMany_1 = costMany_2) (fe_0_81_2 : apartMany_1 = apartMany_2) (hE_0_82_1 : ∀ j : Int, spot_0 j = spot_1 j) (hE_0_82_2 : ∀ j : Int, spot_1 j = spot_2 j) (hE_0_83_1 : ∀ j : Int, costA_0 j = costA_1 j) (hE_0_83_2 : ∀ j : Int, costA_1 j = costA_2 j) (hE_0_84_1 : ∀ j : Int, costB_0 j = costB_1 j) (hE_0_84_2 : ∀ j : Int, costB_1 j = costB_2 j) (hE_0_85_1 : ∀ j : Int, costW_0 j = costW_1 j) (hE_0_85_2 : ∀ j : Int, costW_1 j = costW_2 j) (hE_0_86_1 : ∀ j : Int, costPlain_0 j = costPlain_1 j) (hE_0_86_2 : ∀ j : Int, costPlain_1 j = costPlain_2 j) (hE_0_87_1 : ∀ j : Int, apartA_0 j = apartA_1 j) (hE_0_87_2 : ∀ j : Int, apartA_1 j = apartA_2 j) (hE_0_88_1 : ∀ j : Int, apartB_0 j = apartB_1 j) (hE_0_88_2 : ∀ j : Int, apartB_1 j = apartB_2 j) (hE_0_89_1 : ∀ j : Int, apart_0 j = apart_1 j) (hE_0_89_2 : ∀ j : Int, apart_1 j = apart_2 j) (hE_0_90_1 : ∀ j : Int, flow_0 j = flow_1 j) (hE_0_90_2 : ∀ j : Int, flow_1 j = flow_2 j) (hE_0_91_1 : ∀ j : Int, cameBy_0 j = cameBy_1 j) (hE_0_92_2 : ∀ j : Int, queue_1 j = queue_2 j) (kz_0_79 : 0 ≤ pointMany_0 ∧ pointMany_0 ≤ 76) (kz_0_80 : 0 ≤ costMany_0 ∧ costMany_0 ≤ 200) (kz_0_81 : 0 ≤ apartMany_0 ∧ apartMany_0 ≤ 200) : x3 = (pointMany_0 + 1) := by
  subst fe_0_79_1
  subst fe_0_80_1
  subst fe_0_81_1
  subst fe_0_79_2
  subst fe_0_80_2
  subst fe_0_81_2
  have e_hE_0_82_1 := funext hE_0_82_1; subst e_hE_0_82_1
  have e_hE_0_82_2 := funext hE_0_82_2; subst e_hE_0_82_2
  have e_hE_0_83_1 := funext hE_0_83_1; subst e_hE_0_83_1
  have e_hE_0_83_2 := funext hE_0_83_2; subst e_hE_0_83_2
  have e_hE_0_84_1 := funext hE_0_84_1; subst e_hE_0_84_1
  have e_hE_0_84_2 := funext hE_0_84_2; subst e_hE_0_84_2
  have e_hE_0_85_1 := funext hE_0_85_1; subst e_hE_0_85_1
  have e_hE_0_85_2 := funext hE_0_85_2; subst e_hE_0_85_2
  have e_hE_0_86_1 := funext hE_0_86_1; subst e_hE_0_86_1
  have e_hE_0_86_2 := funext hE_0_86_2; subst e_hE_0_86_2
  have e_hE_0_87_1 := funext hE_0_87_1; subst e_hE_0_87_1
  have e_hE_0_87_2 := funext hE_0_87_2; subst e_hE_0_87_2
  have e_hE_0_88_1 := funext hE_0_88_1; subst e_hE_0_88_1
  have e_hE_0_88_2 := funext hE_0_88_2; subst e_hE_0_88_2
  have e_hE_0_89_1 := funext hE_0_89_1; subst e_hE_0_89_1
  have e_hE_0_89_2 := funext hE_0_89_2; subst e_hE_0_89_2
  have e_hE_0_90_1 := funext hE_0_90_1; subst e_hE_0_90_1
  have e_hE_0_90_2 := funext hE_0_90_2; subst e_hE_0_90_2
  have e_hE_0_91_1 := funext hE_0_91_1; subst e_hE_0_91_1
  have e_hE_0_92_2 := funext hE_0_92_2; subst e_hE_0_92_2
  first
    | omega
    | (have h := au1_len ‹AU1 _ _ _ _ _›; omega)
set_option maxHeartbeats 4000000 in
theorem vc_Mo_augment_1_6 (pointMany_0 : Int) (flow_0 : Int → Int) (spot_0 : Int → Int) (costA_0 : Int → Int) (costB_0 : Int → Int) (costW_0 : Int → Int) (costPlain_0 : Int → Int) (apartA_0 : Int → Int) (apartB_0 : Int → Int) (apart_0 : Int → Int) (costMany_0 : Int) (apartMany_0 : Int) (pointMany_1 : Int) (flow_1 : Int → Int) (spot_1 : Int → Int) (costA_1 : Int → Int) (costB_1 : Int → Int) (costW_1 : Int → Int) (costPlain_1 : Int → Int) (apartA_1 : Int → Int) (apartB_1 : Int → Int) (apart_1 : Int → Int) (costMany_1 : Int) (apartMany_1 : Int) (pointMany_2 : Int) (flow_2 : Int → Int) (spot_2 : Int → Int) (costA_2 : Int → Int) (costB_2 : Int → Int) (costW_2 : Int → Int) (costPlain_2 : Int → Int) (apartA_2 : Int → Int) (apartB_2 : Int → Int) (apart_2 : Int → Int) (costMany_2 : Int) (apartMany_2 : Int) (cameBy_0 : Int → Int) (cameBy_1 : Int → Int) (queue_1 : Int → Int) (queue_2 : Int → Int) (f31 : FLO (pointMany_2) (costMany_2) (apartMany_2) (flow_2) (spot_2) (costA_2) (costB_2) (costW_2) (costPlain_2) (apartA_2) (apartB_2) (apart_2)) (fe_0_79_1 : pointMany_0 = pointMany_1) (fe_0_80_1 : costMany_0 = costMany_1) (fe_0_81_1 : apartMany_0 = apartMany_1) (fe_0_79_2 : pointMany_1 = pointMany_2) (fe_0_80_2 : costMany_1 = costMany_2) (fe_0_81_2 : apartMany_1 = apartMany_2) (hE_0_82_1 : ∀ j : Int, spot_0 j = spot_1 j) (hE_0_82_2 : ∀ j : Int, spot_1 j = spot_2 j) (hE_0_83_1 : ∀ j : Int, costA_0 j = costA_1 j) (hE_0_83_2 : ∀ j : Int, costA_1 j = costA_2 j) (hE_0_84_1 : ∀ j : Int, costB_0 j = costB_1 j) (hE_0_84_2 : ∀ j : Int, costB_1 j = costB_2 j) (hE_0_85_1 : ∀ j : Int, costW_0 j = costW_1 j) (hE_0_85_2 : ∀ j : Int, costW_1 j = costW_2 j) (hE_0_86_1 : ∀ j : Int, costPlain_0 j = costPlain_1 j) (hE_0_86_2 : ∀ j : Int, costPlain_1 j = costPlain_2 j) (hE_0_87_1 : ∀ j : Int, apartA_0 j = apartA_1 j) (hE_0_87_2 : ∀ j : Int, apartA_1 j = apartA_2 j) (hE_0_88_1 : ∀ j : Int, apartB_0 j = apartB_1 j) (hE_0_88_2 : ∀ j : Int, apartB_1 j = apartB_2 j) (hE_0_89_1 : ∀ j : Int, apart_0 j = apart_1 j) (hE_0_89_2 : ∀ j : Int, apart_1 j = apart_2 j) (hE_0_90_1 : ∀ j : Int, flow_0 j = flow_1 j) (hE_0_90_2 : ∀ j : Int, flow_1 j = flow_2 j) (hE_0_91_1 : ∀ j : Int, cameBy_0 j = cameBy_1 j) (hE_0_92_2 : ∀ j : Int, queue_1 j = queue_2 j) (kz_0_79 : 0 ≤ pointMany_0 ∧ pointMany_0 ≤ 76) (kz_0_80 : 0 ≤ costMany_0 ∧ costMany_0 ≤ 200) (kz_0_81 : 0 ≤ apartMany_0 ∧ apartMany_0 ≤ 200) : FLO (pointMany_0) (costMany_0) (apartMany_0) (flow_0) (spot_0) (costA_0) (costB_0) (costW_0) (costPlain_0) (apartA_0) (apartB_0) (apart_0) := by
  subst fe_0_79_1
  subst fe_0_80_1
  subst fe_0_81_1
  subst fe_0_79_2
  subst fe_0_80_2
  subst fe_0_81_2
  have e_hE_0_82_1 := funext hE_0_82_1; subst e_hE_0_82_1
  have e_hE_0_82_2 := funext hE_0_82_2; subst e_hE_0_82_2
  have e_hE_0_83_1 := funext hE_0_83_1; subst e_hE_0_83_1
  have e_hE_0_83_2 := funext hE_0_83_2; subst e_hE_0_83_2
  have e_hE_0_84_1 := funext hE_0_84_1; subst e_hE_0_84_1
  have e_hE_0_84_2 := funext hE_0_84_2; subst e_hE_0_84_2
  have e_hE_0_85_1 := funext hE_0_85_1; subst e_hE_0_85_1
  have e_hE_0_85_2 := funext hE_0_85_2; subst e_hE_0_85_2
  have e_hE_0_86_1 := funext hE_0_86_1; subst e_hE_0_86_1
  have e_hE_0_86_2 := funext hE_0_86_2; subst e_hE_0_86_2
  have e_hE_0_87_1 := funext hE_0_87_1; subst e_hE_0_87_1
  have e_hE_0_87_2 := funext hE_0_87_2; subst e_hE_0_87_2
  have e_hE_0_88_1 := funext hE_0_88_1; subst e_hE_0_88_1
  have e_hE_0_88_2 := funext hE_0_88_2; subst e_hE_0_88_2
  have e_hE_0_89_1 := funext hE_0_89_1; subst e_hE_0_89_1
  have e_hE_0_89_2 := funext hE_0_89_2; subst e_hE_0_89_2
  have e_hE_0_90_1 := funext hE_0_90_1; subst e_hE_0_90_1
  have e_hE_0_90_2 := funext hE_0_90_2; subst e_hE_0_90_2
  have e_hE_0_91_1 := funext hE_0_91_1; subst e_hE_0_91_1
  have e_hE_0_92_2 := funext hE_0_92_2; subst e_hE_0_92_2
  first
    | assumption
    | exact (psh_end ‹PSH _ _ _ _ _ _ _ _ _ _ _ _ _ _ _ _› (by omega)).1
set_option maxHeartbeats 4000000 in
theorem vc_Mo_augment_1_7 (x4 : Int) (pointMany_0 : Int) (flow_0 : Int → Int) (spot_0 : Int → Int) (costA_0 : Int → Int) (costB_0 : Int → Int) (costW_0 : Int → Int) (costPlain_0 : Int → Int) (apartA_0 : Int → Int) (apartB_0 : Int → Int) (apart_0 : Int → Int) (costMany_0 : Int) (apartMany_0 : Int) (pointMany_1 : Int) (flow_1 : Int → Int) (spot_1 : Int → Int) (costA_1 : Int → Int) (costB_1 : Int → Int) (costW_1 : Int → Int) (costPlain_1 : Int → Int) (apartA_1 : Int → Int) (apartB_1 : Int → Int) (apart_1 : Int → Int) (costMany_1 : Int) (apartMany_1 : Int) (pointMany_2 : Int) (flow_2 : Int → Int) (spot_2 : Int → Int) (costA_2 : Int → Int) (costB_2 : Int → Int) (costW_2 : Int → Int) (costPlain_2 : Int → Int) (apartA_2 : Int → Int) (apartB_2 : Int → Int) (apart_2 : Int → Int) (costMany_2 : Int) (apartMany_2 : Int) (cameBy_0 : Int → Int) (cameBy_1 : Int → Int) (queue_1 : Int → Int) (queue_2 : Int → Int) (k4 : (-2) ≤ x4 ∧ x4 ≤ 180000001) (f32 : XLE (pointMany_2) (flow_2) (x4)) (fe_0_79_1 : pointMany_0 = pointMany_1) (fe_0_80_1 : costMany_0 = costMany_1) (fe_0_81_1 : apartMany_0 = apartMany_1) (fe_0_79_2 : pointMany_1 = pointMany_2) (fe_0_80_2 : costMany_1 = costMany_2) (fe_0_81_2 : apartMany_1 = apartMany_2) (hE_0_82_1 : ∀ j : Int, spot_0 j = spot_1 j) (hE_0_82_2 : ∀ j : Int, spot_1 j = spot_2 j) (hE_0_83_1 : ∀ j : Int, costA_0 j = costA_1 j) (hE_0_83_2 : ∀ j : Int, costA_1 j = costA_2 j) (hE_0_84_1 : ∀ j : Int, costB_0 j = costB_1 j) (hE_0_84_2 : ∀ j : Int, costB_1 j = costB_2 j) (hE_0_85_1 : ∀ j : Int, costW_0 j = costW_1 j) (hE_0_85_2 : ∀ j : Int, costW_1 j = costW_2 j) (hE_0_86_1 : ∀ j : Int, costPlain_0 j = costPlain_1 j) (hE_0_86_2 : ∀ j : Int, costPlain_1 j = costPlain_2 j) (hE_0_87_1 : ∀ j : Int, apartA_0 j = apartA_1 j) (hE_0_87_2 : ∀ j : Int, apartA_1 j = apartA_2 j) (hE_0_88_1 : ∀ j : Int, apartB_0 j = apartB_1 j) (hE_0_88_2 : ∀ j : Int, apartB_1 j = apartB_2 j) (hE_0_89_1 : ∀ j : Int, apart_0 j = apart_1 j) (hE_0_89_2 : ∀ j : Int, apart_1 j = apart_2 j) (hE_0_90_1 : ∀ j : Int, flow_0 j = flow_1 j) (hE_0_90_2 : ∀ j : Int, flow_1 j = flow_2 j) (hE_0_91_1 : ∀ j : Int, cameBy_0 j = cameBy_1 j) (hE_0_92_2 : ∀ j : Int, queue_1 j = queue_2 j) (kz_0_79 : 0 ≤ pointMany_0 ∧ pointMany_0 ≤ 76) (kz_0_80 : 0 ≤ costMany_0 ∧ costMany_0 ≤ 200) (kz_0_81 : 0 ≤ apartMany_0 ∧ apartMany_0 ≤ 200) : XLE (pointMany_0) (flow_0) (x4) := by
  subst fe_0_79_1
  subst fe_0_80_1
  subst fe_0_81_1
  subst fe_0_79_2
  subst fe_0_80_2
  subst fe_0_81_2
  have e_hE_0_82_1 := funext hE_0_82_1; subst e_hE_0_82_1
  have e_hE_0_82_2 := funext hE_0_82_2; subst e_hE_0_82_2
  have e_hE_0_83_1 := funext hE_0_83_1; subst e_hE_0_83_1
  have e_hE_0_83_2 := funext hE_0_83_2; subst e_hE_0_83_2
  have e_hE_0_84_1 := funext hE_0_84_1; subst e_hE_0_84_1
  have e_hE_0_84_2 := funext hE_0_84_2; subst e_hE_0_84_2
  have e_hE_0_85_1 := funext hE_0_85_1; subst e_hE_0_85_1
  have e_hE_0_85_2 := funext hE_0_85_2; subst e_hE_0_85_2
  have e_hE_0_86_1 := funext hE_0_86_1; subst e_hE_0_86_1
  have e_hE_0_86_2 := funext hE_0_86_2; subst e_hE_0_86_2
  have e_hE_0_87_1 := funext hE_0_87_1; subst e_hE_0_87_1
  have e_hE_0_87_2 := funext hE_0_87_2; subst e_hE_0_87_2
  have e_hE_0_88_1 := funext hE_0_88_1; subst e_hE_0_88_1
  have e_hE_0_88_2 := funext hE_0_88_2; subst e_hE_0_88_2
  have e_hE_0_89_1 := funext hE_0_89_1; subst e_hE_0_89_1
  have e_hE_0_89_2 := funext hE_0_89_2; subst e_hE_0_89_2
  have e_hE_0_90_1 := funext hE_0_90_1; subst e_hE_0_90_1
  have e_hE_0_90_2 := funext hE_0_90_2; subst e_hE_0_90_2
  have e_hE_0_91_1 := funext hE_0_91_1; subst e_hE_0_91_1
  have e_hE_0_92_2 := funext hE_0_92_2; subst e_hE_0_92_2
  assumption
set_option maxHeartbeats 4000000 in
theorem vc_Mo_augment_1_8 (x1 : Int) (x2 : Int) (x9 : Int) (pointMany_0 : Int) (flow_0 : Int → Int) (spot_0 : Int → Int) (costA_0 : Int → Int) (costB_0 : Int → Int) (costW_0 : Int → Int) (costPlain_0 : Int → Int) (apartA_0 : Int → Int) (apartB_0 : Int → Int) (apart_0 : Int → Int) (costMany_0 : Int) (apartMany_0 : Int) (pointMany_1 : Int) (flow_1 : Int → Int) (spot_1 : Int → Int) (costA_1 : Int → Int) (costB_1 : Int → Int) (costW_1 : Int → Int) (costPlain_1 : Int → Int) (apartA_1 : Int → Int) (apartB_1 : Int → Int) (apart_1 : Int → Int) (costMany_1 : Int) (apartMany_1 : Int) (pointMany_2 : Int) (flow_2 : Int → Int) (spot_2 : Int → Int) (costA_2 : Int → Int) (costB_2 : Int → Int) (costW_2 : Int → Int) (costPlain_2 : Int → Int) (apartA_2 : Int → Int) (apartB_2 : Int → Int) (apart_2 : Int → Int) (costMany_2 : Int) (apartMany_2 : Int) (cameBy_2 : Int → Int) (cameBy_0 : Int → Int) (cameBy_1 : Int → Int) (queue_1 : Int → Int) (queue_2 : Int → Int) (k1 : 2 ≤ x1 ∧ x1 ≤ 78) (k2 : 0 ≤ x2 ∧ x2 ≤ 76) (k9 : 2 ≤ x9 ∧ x9 ≤ 78) (f24 : x1 ≤ x9) (f33 : AU0 (cameBy_2) (x9)) (fe_0_79_1 : pointMany_0 = pointMany_1) (fe_0_80_1 : costMany_0 = costMany_1) (fe_0_81_1 : apartMany_0 = apartMany_1) (fe_0_79_2 : pointMany_1 = pointMany_2) (fe_0_80_2 : costMany_1 = costMany_2) (fe_0_81_2 : apartMany_1 = apartMany_2) (hE_0_82_1 : ∀ j : Int, spot_0 j = spot_1 j) (hE_0_82_2 : ∀ j : Int, spot_1 j = spot_2 j) (hE_0_83_1 : ∀ j : Int, costA_0 j = costA_1 j) (hE_0_83_2 : ∀ j : Int, costA_1 j = costA_2 j) (hE_0_84_1 : ∀ j : Int, costB_0 j = costB_1 j) (hE_0_84_2 : ∀ j : Int, costB_1 j = costB_2 j) (hE_0_85_1 : ∀ j : Int, costW_0 j = costW_1 j) (hE_0_85_2 : ∀ j : Int, costW_1 j = costW_2 j) (hE_0_86_1 : ∀ j : Int, costPlain_0 j = costPlain_1 j) (hE_0_86_2 : ∀ j : Int, costPlain_1 j = costPlain_2 j) (hE_0_87_1 : ∀ j : Int, apartA_0 j = apartA_1 j) (hE_0_87_2 : ∀ j : Int, apartA_1 j = apartA_2 j) (hE_0_88_1 : ∀ j : Int, apartB_0 j = apartB_1 j) (hE_0_88_2 : ∀ j : Int, apartB_1 j = apartB_2 j) (hE_0_89_1 : ∀ j : Int, apart_0 j = apart_1 j) (hE_0_89_2 : ∀ j : Int, apart_1 j = apart_2 j) (hE_0_90_1 : ∀ j : Int, flow_0 j = flow_1 j) (hE_0_90_2 : ∀ j : Int, flow_1 j = flow_2 j) (hE_0_91_1 : ∀ j : Int, cameBy_0 j = cameBy_1 j) (hE_0_91_2 : ∀ j : Int, 0 ≤ j → (j = x2 → cameBy_1 j = x2) ∧ (j ≠ x2 → cameBy_1 j = cameBy_2 j)) (hE_0_92_2 : ∀ j : Int, queue_1 j = queue_2 j) (kz_0_79 : 0 ≤ pointMany_0 ∧ pointMany_0 ≤ 76) (kz_0_80 : 0 ≤ costMany_0 ∧ costMany_0 ≤ 200) (kz_0_81 : 0 ≤ apartMany_0 ∧ apartMany_0 ≤ 200) : FPT (flow_0) (cameBy_0) (x1) (x2) := by
  subst fe_0_79_1
  subst fe_0_80_1
  subst fe_0_81_1
  subst fe_0_79_2
  subst fe_0_80_2
  subst fe_0_81_2
  have e_hE_0_82_1 := funext hE_0_82_1; subst e_hE_0_82_1
  have e_hE_0_82_2 := funext hE_0_82_2; subst e_hE_0_82_2
  have e_hE_0_83_1 := funext hE_0_83_1; subst e_hE_0_83_1
  have e_hE_0_83_2 := funext hE_0_83_2; subst e_hE_0_83_2
  have e_hE_0_84_1 := funext hE_0_84_1; subst e_hE_0_84_1
  have e_hE_0_84_2 := funext hE_0_84_2; subst e_hE_0_84_2
  have e_hE_0_85_1 := funext hE_0_85_1; subst e_hE_0_85_1
  have e_hE_0_85_2 := funext hE_0_85_2; subst e_hE_0_85_2
  have e_hE_0_86_1 := funext hE_0_86_1; subst e_hE_0_86_1
  have e_hE_0_86_2 := funext hE_0_86_2; subst e_hE_0_86_2
  have e_hE_0_87_1 := funext hE_0_87_1; subst e_hE_0_87_1
  have e_hE_0_87_2 := funext hE_0_87_2; subst e_hE_0_87_2
  have e_hE_0_88_1 := funext hE_0_88_1; subst e_hE_0_88_1
  have e_hE_0_88_2 := funext hE_0_88_2; subst e_hE_0_88_2
  have e_hE_0_89_1 := funext hE_0_89_1; subst e_hE_0_89_1
  have e_hE_0_89_2 := funext hE_0_89_2; subst e_hE_0_89_2
  have e_hE_0_90_1 := funext hE_0_90_1; subst e_hE_0_90_1
  have e_hE_0_90_2 := funext hE_0_90_2; subst e_hE_0_90_2
  have e_hE_0_91_1 := funext hE_0_91_1; subst e_hE_0_91_1
  have e_hE_0_92_2 := funext hE_0_92_2; subst e_hE_0_92_2
  first
    | assumption
    | exact fpt_start ‹AU0 _ _› (by omega) (by assumption) (by omega)
    | exact fpt_step2 ‹FPT _ _ _ _› (by assumption) rfl (by assumption) (by assumption) (by assumption) (by assumption) (by omega)
set_option maxHeartbeats 4000000 in
theorem vc_Mo_augment_1_9 (x1 : Int) (x2 : Int) (x3 : Int) (x6 : Int) (x7 : Int) (x8 : Int) (x9 : Int) (x12 : Int) (x14 : Int) (pointMany_0 : Int) (flow_0 : Int → Int) (spot_0 : Int → Int) (costA_0 : Int → Int) (costB_0 : Int → Int) (costW_0 : Int → Int) (costPlain_0 : Int → Int) (apartA_0 : Int → Int) (apartB_0 : Int → Int) (apart_0 : Int → Int) (costMany_0 : Int) (apartMany_0 : Int) (pointMany_1 : Int) (flow_1 : Int → Int) (spot_1 : Int → Int) (costA_1 : Int → Int) (costB_1 : Int → Int) (costW_1 : Int → Int) (costPlain_1 : Int → Int) (apartA_1 : Int → Int) (apartB_1 : Int → Int) (apart_1 : Int → Int) (costMany_1 : Int) (apartMany_1 : Int) (pointMany_2 : Int) (flow_2 : Int → Int) (spot_2 : Int → Int) (costA_2 : Int → Int) (costB_2 : Int → Int) (costW_2 : Int → Int) (costPlain_2 : Int → Int) (apartA_2 : Int → Int) (apartB_2 : Int → Int) (apart_2 : Int → Int) (costMany_2 : Int) (apartMany_2 : Int) (cameBy_2 : Int → Int) (cameBy_0 : Int → Int) (cameBy_1 : Int → Int) (queue_0 : Int → Int) (queue_1 : Int → Int) (queue_2 : Int → Int) (k1 : 2 ≤ x1 ∧ x1 ≤ 78) (k2 : 0 ≤ x2 ∧ x2 ≤ 76) (k3 : 1 ≤ x3 ∧ x3 ≤ 77) (k6 : 2 ≤ x6 ∧ x6 ≤ 78) (k7 : 0 ≤ x7 ∧ x7 ≤ 76) (k8 : 1 ≤ x8 ∧ x8 ≤ 77) (k9 : 2 ≤ x9 ∧ x9 ≤ 78) (k12 : 1 ≤ x12 ∧ x12 ≤ 1) (k14 : 0 ≤ x14 ∧ x14 ≤ 0) (d0 : x6 + 0 ≤ x9 ∧ x9 ≤ x6 + 4294967296) (d1 : x6 + (-4294967296) ≤ x1 ∧ x1 ≤ x6 + 0) (d2 : x7 + (-4294967296) ≤ x2 ∧ x2 ≤ x7 + 0) (d3 : x8 + (-4294967296) ≤ x3 ∧ x3 ≤ x8 + 0) (d4 : x1 + (-4294967296) ≤ x6 ∧ x6 ≤ x1 + 0) (d5 : x2 + (-4294967296) ≤ x7 ∧ x7 ≤ x2 + 0) (d6 : x3 + (-4294967296) ≤ x8 ∧ x8 ≤ x3 + 0) (d7 : x1 + (-4294967296) ≤ x9 ∧ x9 ≤ x1 + 0) (f3 : x1 = (pointMany_0 + 2)) (f4 : x2 = pointMany_0) (f5 : x3 = (pointMany_0 + 1)) (f24 : x1 ≤ x9) (f27 : x1 ≤ 78) (f33 : AU0 (cameBy_2) (x9)) (fe_0_79_1 : pointMany_0 = pointMany_1) (fe_0_80_1 : costMany_0 = costMany_1) (fe_0_81_1 : apartMany_0 = apartMany_1) (fe_0_79_2 : pointMany_1 = pointMany_2) (fe_0_80_2 : costMany_1 = costMany_2) (fe_0_81_2 : apartMany_1 = apartMany_2) (hE_0_82_1 : ∀ j : Int, spot_0 j = spot_1 j) (hE_0_82_2 : ∀ j : Int, spot_1 j = spot_2 j) (hE_0_83_1 : ∀ j : Int, costA_0 j = costA_1 j) (hE_0_83_2 : ∀ j : Int, costA_1 j = costA_2 j) (hE_0_84_1 : ∀ j : Int, costB_0 j = costB_1 j) (hE_0_84_2 : ∀ j : Int, costB_1 j = costB_2 j) (hE_0_85_1 : ∀ j : Int, costW_0 j = costW_1 j) (hE_0_85_2 : ∀ j : Int, costW_1 j = costW_2 j) (hE_0_86_1 : ∀ j : Int, costPlain_0 j = costPlain_1 j) (hE_0_86_2 : ∀ j : Int, costPlain_1 j = costPlain_2 j) (hE_0_87_1 : ∀ j : Int, apartA_0 j = apartA_1 j) (hE_0_87_2 : ∀ j : Int, apartA_1 j = apartA_2 j) (hE_0_88_1 : ∀ j : Int, apartB_0 j = apartB_1 j) (hE_0_88_2 : ∀ j : Int, apartB_1 j = apartB_2 j) (hE_0_89_1 : ∀ j : Int, apart_0 j = apart_1 j) (hE_0_89_2 : ∀ j : Int, apart_1 j = apart_2 j) (hE_0_90_1 : ∀ j : Int, flow_0 j = flow_1 j) (hE_0_90_2 : ∀ j : Int, flow_1 j = flow_2 j) (hE_0_91_1 : ∀ j : Int, cameBy_0 j = cameBy_1 j) (hE_0_91_2 : ∀ j : Int, 0 ≤ j → (j = x2 → cameBy_1 j = x2) ∧ (j ≠ x2 → cameBy_1 j = cameBy_2 j)) (hE_0_92_1 : ∀ j : Int, 0 ≤ j → (j = x14 → queue_0 j = x2) ∧ (j ≠ x14 → queue_0 j = queue_1 j)) (hE_0_92_2 : ∀ j : Int, queue_1 j = queue_2 j) (kz_0_79 : 0 ≤ pointMany_0 ∧ pointMany_0 ≤ 76) (kz_0_80 : 0 ≤ costMany_0 ∧ costMany_0 ≤ 200) (kz_0_81 : 0 ≤ apartMany_0 ∧ apartMany_0 ≤ 200) : AU1 (queue_0) (cameBy_0) (x1) (x2) (x12) := by
  subst fe_0_79_1
  subst fe_0_80_1
  subst fe_0_81_1
  subst fe_0_79_2
  subst fe_0_80_2
  subst fe_0_81_2
  have e_hE_0_82_1 := funext hE_0_82_1; subst e_hE_0_82_1
  have e_hE_0_82_2 := funext hE_0_82_2; subst e_hE_0_82_2
  have e_hE_0_83_1 := funext hE_0_83_1; subst e_hE_0_83_1
  have e_hE_0_83_2 := funext hE_0_83_2; subst e_hE_0_83_2
  have e_hE_0_84_1 := funext hE_0_84_1; subst e_hE_0_84_1
  have e_hE_0_84_2 := funext hE_0_84_2; subst e_hE_0_84_2
  have e_hE_0_85_1 := funext hE_0_85_1; subst e_hE_0_85_1
  have e_hE_0_85_2 := funext hE_0_85_2; subst e_hE_0_85_2
  have e_hE_0_86_1 := funext hE_0_86_1; subst e_hE_0_86_1
  have e_hE_0_86_2 := funext hE_0_86_2; subst e_hE_0_86_2
  have e_hE_0_87_1 := funext hE_0_87_1; subst e_hE_0_87_1
  have e_hE_0_87_2 := funext hE_0_87_2; subst e_hE_0_87_2
  have e_hE_0_88_1 := funext hE_0_88_1; subst e_hE_0_88_1
  have e_hE_0_88_2 := funext hE_0_88_2; subst e_hE_0_88_2
  have e_hE_0_89_1 := funext hE_0_89_1; subst e_hE_0_89_1
  have e_hE_0_89_2 := funext hE_0_89_2; subst e_hE_0_89_2
  have e_hE_0_90_1 := funext hE_0_90_1; subst e_hE_0_90_1
  have e_hE_0_90_2 := funext hE_0_90_2; subst e_hE_0_90_2
  have e_hE_0_91_1 := funext hE_0_91_1; subst e_hE_0_91_1
  have e_hE_0_92_2 := funext hE_0_92_2; subst e_hE_0_92_2
  first
    | assumption
    | exact au1_start ‹AU0 _ _› (by omega) (by omega) (by omega) (by omega) (by assumption) (by omega) (by omega) (by assumption) (by omega) (by omega) (by omega)
    | exact ‹AU2 _ _ _ _ _ _›.1
set_option maxHeartbeats 4000000 in
theorem vc_Mo_augment_1_10 (x11 : Int) (pointMany_0 : Int) (flow_0 : Int → Int) (spot_0 : Int → Int) (costA_0 : Int → Int) (costB_0 : Int → Int) (costW_0 : Int → Int) (costPlain_0 : Int → Int) (apartA_0 : Int → Int) (apartB_0 : Int → Int) (apart_0 : Int → Int) (costMany_0 : Int) (apartMany_0 : Int) (pointMany_1 : Int) (flow_1 : Int → Int) (spot_1 : Int → Int) (costA_1 : Int → Int) (costB_1 : Int → Int) (costW_1 : Int → Int) (costPlain_1 : Int → Int) (apartA_1 : Int → Int) (apartB_1 : Int → Int) (apart_1 : Int → Int) (costMany_1 : Int) (apartMany_1 : Int) (pointMany_2 : Int) (flow_2 : Int → Int) (spot_2 : Int → Int) (costA_2 : Int → Int) (costB_2 : Int → Int) (costW_2 : Int → Int) (costPlain_2 : Int → Int) (apartA_2 : Int → Int) (apartB_2 : Int → Int) (apart_2 : Int → Int) (costMany_2 : Int) (apartMany_2 : Int) (cameBy_0 : Int → Int) (cameBy_1 : Int → Int) (queue_1 : Int → Int) (queue_2 : Int → Int) (gx : Int) (k11 : 0 ≤ x11 ∧ x11 ≤ 0) (fe_0_79_1 : pointMany_0 = pointMany_1) (fe_0_80_1 : costMany_0 = costMany_1) (fe_0_81_1 : apartMany_0 = apartMany_1) (fe_0_79_2 : pointMany_1 = pointMany_2) (fe_0_80_2 : costMany_1 = costMany_2) (fe_0_81_2 : apartMany_1 = apartMany_2) (hE_0_82_1 : ∀ j : Int, spot_0 j = spot_1 j) (hE_0_82_2 : ∀ j : Int, spot_1 j = spot_2 j) (hE_0_83_1 : ∀ j : Int, costA_0 j = costA_1 j) (hE_0_83_2 : ∀ j : Int, costA_1 j = costA_2 j) (hE_0_84_1 : ∀ j : Int, costB_0 j = costB_1 j) (hE_0_84_2 : ∀ j : Int, costB_1 j = costB_2 j) (hE_0_85_1 : ∀ j : Int, costW_0 j = costW_1 j) (hE_0_85_2 : ∀ j : Int, costW_1 j = costW_2 j) (hE_0_86_1 : ∀ j : Int, costPlain_0 j = costPlain_1 j) (hE_0_86_2 : ∀ j : Int, costPlain_1 j = costPlain_2 j) (hE_0_87_1 : ∀ j : Int, apartA_0 j = apartA_1 j) (hE_0_87_2 : ∀ j : Int, apartA_1 j = apartA_2 j) (hE_0_88_1 : ∀ j : Int, apartB_0 j = apartB_1 j) (hE_0_88_2 : ∀ j : Int, apartB_1 j = apartB_2 j) (hE_0_89_1 : ∀ j : Int, apart_0 j = apart_1 j) (hE_0_89_2 : ∀ j : Int, apart_1 j = apart_2 j) (hE_0_90_1 : ∀ j : Int, flow_0 j = flow_1 j) (hE_0_90_2 : ∀ j : Int, flow_1 j = flow_2 j) (hE_0_91_1 : ∀ j : Int, cameBy_0 j = cameBy_1 j) (hE_0_92_2 : ∀ j : Int, queue_1 j = queue_2 j) (kz_0_79 : 0 ≤ pointMany_0 ∧ pointMany_0 ≤ 76) (kz_0_80 : 0 ≤ costMany_0 ∧ costMany_0 ≤ 200) (kz_0_81 : 0 ≤ apartMany_0 ∧ apartMany_0 ≤ 200) (ex2 : gx = 79) : (-1) * x11 + ((-1) * gx + 0) ≤ (-78) := by
  subst fe_0_79_1
  subst fe_0_80_1
  subst fe_0_81_1
  subst fe_0_79_2
  subst fe_0_80_2
  subst fe_0_81_2
  have e_hE_0_82_1 := funext hE_0_82_1; subst e_hE_0_82_1
  have e_hE_0_82_2 := funext hE_0_82_2; subst e_hE_0_82_2
  have e_hE_0_83_1 := funext hE_0_83_1; subst e_hE_0_83_1
  have e_hE_0_83_2 := funext hE_0_83_2; subst e_hE_0_83_2
  have e_hE_0_84_1 := funext hE_0_84_1; subst e_hE_0_84_1
  have e_hE_0_84_2 := funext hE_0_84_2; subst e_hE_0_84_2
  have e_hE_0_85_1 := funext hE_0_85_1; subst e_hE_0_85_1
  have e_hE_0_85_2 := funext hE_0_85_2; subst e_hE_0_85_2
  have e_hE_0_86_1 := funext hE_0_86_1; subst e_hE_0_86_1
  have e_hE_0_86_2 := funext hE_0_86_2; subst e_hE_0_86_2
  have e_hE_0_87_1 := funext hE_0_87_1; subst e_hE_0_87_1
  have e_hE_0_87_2 := funext hE_0_87_2; subst e_hE_0_87_2
  have e_hE_0_88_1 := funext hE_0_88_1; subst e_hE_0_88_1
  have e_hE_0_88_2 := funext hE_0_88_2; subst e_hE_0_88_2
  have e_hE_0_89_1 := funext hE_0_89_1; subst e_hE_0_89_1
  have e_hE_0_89_2 := funext hE_0_89_2; subst e_hE_0_89_2
  have e_hE_0_90_1 := funext hE_0_90_1; subst e_hE_0_90_1
  have e_hE_0_90_2 := funext hE_0_90_2; subst e_hE_0_90_2
  have e_hE_0_91_1 := funext hE_0_91_1; subst e_hE_0_91_1
  have e_hE_0_92_2 := funext hE_0_92_2; subst e_hE_0_92_2
  first
    | omega
    | (have h := au1_len ‹AU1 _ _ _ _ _›; omega)
set_option maxHeartbeats 4000000 in
theorem vc_Mo_augment_1_11 (x1 : Int) (x11 : Int) (pointMany_0 : Int) (flow_0 : Int → Int) (spot_0 : Int → Int) (costA_0 : Int → Int) (costB_0 : Int → Int) (costW_0 : Int → Int) (costPlain_0 : Int → Int) (apartA_0 : Int → Int) (apartB_0 : Int → Int) (apart_0 : Int → Int) (costMany_0 : Int) (apartMany_0 : Int) (pointMany_1 : Int) (flow_1 : Int → Int) (spot_1 : Int → Int) (costA_1 : Int → Int) (costB_1 : Int → Int) (costW_1 : Int → Int) (costPlain_1 : Int → Int) (apartA_1 : Int → Int) (apartB_1 : Int → Int) (apart_1 : Int → Int) (costMany_1 : Int) (apartMany_1 : Int) (pointMany_2 : Int) (flow_2 : Int → Int) (spot_2 : Int → Int) (costA_2 : Int → Int) (costB_2 : Int → Int) (costW_2 : Int → Int) (costPlain_2 : Int → Int) (apartA_2 : Int → Int) (apartB_2 : Int → Int) (apart_2 : Int → Int) (costMany_2 : Int) (apartMany_2 : Int) (cameBy_0 : Int → Int) (cameBy_1 : Int → Int) (queue_0 : Int → Int) (queue_1 : Int → Int) (queue_2 : Int → Int) (k1 : 2 ≤ x1 ∧ x1 ≤ 78) (k11 : 0 ≤ x11 ∧ x11 ≤ 0) (fe_0_79_1 : pointMany_0 = pointMany_1) (fe_0_80_1 : costMany_0 = costMany_1) (fe_0_81_1 : apartMany_0 = apartMany_1) (fe_0_79_2 : pointMany_1 = pointMany_2) (fe_0_80_2 : costMany_1 = costMany_2) (fe_0_81_2 : apartMany_1 = apartMany_2) (hE_0_82_1 : ∀ j : Int, spot_0 j = spot_1 j) (hE_0_82_2 : ∀ j : Int, spot_1 j = spot_2 j) (hE_0_83_1 : ∀ j : Int, costA_0 j = costA_1 j) (hE_0_83_2 : ∀ j : Int, costA_1 j = costA_2 j) (hE_0_84_1 : ∀ j : Int, costB_0 j = costB_1 j) (hE_0_84_2 : ∀ j : Int, costB_1 j = costB_2 j) (hE_0_85_1 : ∀ j : Int, costW_0 j = costW_1 j) (hE_0_85_2 : ∀ j : Int, costW_1 j = costW_2 j) (hE_0_86_1 : ∀ j : Int, costPlain_0 j = costPlain_1 j) (hE_0_86_2 : ∀ j : Int, costPlain_1 j = costPlain_2 j) (hE_0_87_1 : ∀ j : Int, apartA_0 j = apartA_1 j) (hE_0_87_2 : ∀ j : Int, apartA_1 j = apartA_2 j) (hE_0_88_1 : ∀ j : Int, apartB_0 j = apartB_1 j) (hE_0_88_2 : ∀ j : Int, apartB_1 j = apartB_2 j) (hE_0_89_1 : ∀ j : Int, apart_0 j = apart_1 j) (hE_0_89_2 : ∀ j : Int, apart_1 j = apart_2 j) (hE_0_90_1 : ∀ j : Int, flow_0 j = flow_1 j) (hE_0_90_2 : ∀ j : Int, flow_1 j = flow_2 j) (hE_0_91_1 : ∀ j : Int, cameBy_0 j = cameBy_1 j) (hE_0_92_2 : ∀ j : Int, queue_1 j = queue_2 j) (kz_0_79 : 0 ≤ pointMany_0 ∧ pointMany_0 ≤ 76) (kz_0_80 : 0 ≤ costMany_0 ∧ costMany_0 ≤ 200) (kz_0_81 : 0 ≤ apartMany_0 ∧ apartMany_0 ≤ 200) : BF1 (flow_0) (queue_0) (cameBy_0) (x1) (x11) := by
  subst fe_0_79_1
  subst fe_0_80_1
  subst fe_0_81_1
  subst fe_0_79_2
  subst fe_0_80_2
  subst fe_0_81_2
  have e_hE_0_82_1 := funext hE_0_82_1; subst e_hE_0_82_1
  have e_hE_0_82_2 := funext hE_0_82_2; subst e_hE_0_82_2
  have e_hE_0_83_1 := funext hE_0_83_1; subst e_hE_0_83_1
  have e_hE_0_83_2 := funext hE_0_83_2; subst e_hE_0_83_2
  have e_hE_0_84_1 := funext hE_0_84_1; subst e_hE_0_84_1
  have e_hE_0_84_2 := funext hE_0_84_2; subst e_hE_0_84_2
  have e_hE_0_85_1 := funext hE_0_85_1; subst e_hE_0_85_1
  have e_hE_0_85_2 := funext hE_0_85_2; subst e_hE_0_85_2
  have e_hE_0_86_1 := funext hE_0_86_1; subst e_hE_0_86_1
  have e_hE_0_86_2 := funext hE_0_86_2; subst e_hE_0_86_2
  have e_hE_0_87_1 := funext hE_0_87_1; subst e_hE_0_87_1
  have e_hE_0_87_2 := funext hE_0_87_2; subst e_hE_0_87_2
  have e_hE_0_88_1 := funext hE_0_88_1; subst e_hE_0_88_1
  have e_hE_0_88_2 := funext hE_0_88_2; subst e_hE_0_88_2
  have e_hE_0_89_1 := funext hE_0_89_1; subst e_hE_0_89_1
  have e_hE_0_89_2 := funext hE_0_89_2; subst e_hE_0_89_2
  have e_hE_0_90_1 := funext hE_0_90_1; subst e_hE_0_90_1
  have e_hE_0_90_2 := funext hE_0_90_2; subst e_hE_0_90_2
  have e_hE_0_91_1 := funext hE_0_91_1; subst e_hE_0_91_1
  have e_hE_0_92_2 := funext hE_0_92_2; subst e_hE_0_92_2
  first
    | assumption
    | exact bf1_zero (by omega)
def o_Mo_augment_1 : or_T := (43, 15, [(0, (2, 0, 0, [165])), (1, (0, 2, 78, [])), (2, (0, 0, 76, [])), (3, (0, 1, 77, [])), (4, (0, -2, 180000001, [])), (6, (0, 2, 78, [])), (7, (0, 0, 76, [])), (8, (0, 1, 77, [])), (9, (0, 2, 78, [])), (10, (2, 0, 0, [228])), (11, (0, 0, 0, [])), (12, (0, 1, 1, [])), (13, (2, 0, 0, [229])), (14, (0, 0, 0, []))], [(20, [6, 5], [50, 1, 0, 1079, 1, 2, 1, 0, 4, 3, 2, 1, 79, 0, 2]), (20, [7, 5], [50, 1, 0, 1079, 1, 2, 1, 0, 2, 1, 79]), (20, [8, 5], [50, 1, 0, 1079, 1, 2, 1, 0, 4, 3, 2, 1, 79, 0, 1]), (24, [0, 5], []), (24, [1, 6], []), (24, [2, 7], []), (24, [3, 8], []), (100, [13, 14, 7], []), (9, [13, 5], [92]), (100, [10, 7, 7], []), (9, [10, 5], [91]), (7, [9, 6], [3]), (20, [7, 6], [50, 0, 0, 0, 6, 4, 2, 1, 0, 0, 1, 1, 1]), (20, [8, 6], [50, 0, 0, 0, 6, 4, 2, 1, 0, 0, 1, 1, 1]), (20, [6], [50, 0, 0, 0, 2, 1, 0, 0, 78]), (20, [6, 5], [50, 1, 0, 1079, 1, 2, 1, 0, 4, 3, 2, 1, 79, 0, 2]), (20, [7, 5], [50, 1, 0, 1079, 1, 2, 1, 0, 2, 1, 79]), (20, [8, 5], [50, 1, 0, 1079, 1, 2, 1, 0, 4, 3, 2, 1, 79, 0, 1]), (20, [5], [60, 3, 9, 397, 79, 80, 81, 90, 82, 83, 84, 85, 86, 87, 88, 89]), (20, [5, 4], [60, 1, 1, 398, 79, 90]), (20, [5, 9], [60, 0, 1, 391, 91])], [], [(0, -2, 79, [])], [(20, [7, 6], [50, 0, 0, 0, 6, 4, 2, 1, 0, 0, 1, 1, 1]), (20, [8, 6], [50, 0, 0, 0, 6, 4, 2, 1, 0, 0, 1, 1, 1]), (20, [6], [50, 0, 0, 0, 2, 1, 0, 0, 78]), (20, [6, 5], [50, 1, 0, 1079, 1, 2, 1, 0, 4, 3, 2, 1, 79, 0, 2]), (20, [7, 5], [50, 1, 0, 1079, 1, 2, 1, 0, 2, 1, 79]), (20, [8, 5], [50, 1, 0, 1079, 1, 2, 1, 0, 4, 3, 2, 1, 79, 0, 1]), (20, [5], [60, 3, 9, 397, 79, 80, 81, 90, 82, 83, 84, 85, 86, 87, 88, 89]), (20, [5, 4], [60, 1, 1, 398, 79, 90]), (20, [5, 6, 7], [60, 0, 2, 401, 90, 91]), (20, [5, 6, 7, 12], [60, 0, 2, 392, 92, 91]), (23, [11, 15], [-78, -1, -1]), (20, [5, 6, 11], [60, 0, 3, 402, 90, 92, 91]), (24, [0, 5], []), (24, [1, 6], []), (24, [2, 7], []), (24, [3, 8], [])], [], [(9, 6, 0, 4294967296), (1, 6, -4294967296, 0), (2, 7, -4294967296, 0), (3, 8, -4294967296, 0), (6, 1, -4294967296, 0), (7, 2, -4294967296, 0), (8, 3, -4294967296, 0), (9, 1, -4294967296, 0)])
theorem oo_Mo_augment_1 {kA : Nat → ClassId} : or_ok PRD kA GG o_Mo_augment_1 := by
  refine or_mk fun A ta ws vs hD hth hl => ?_
  intro t0 r0 t1 k1 t2 k2 t3 k3 t4 k4 t6 k6 t7 k7 t8 k8 t9 k9 t10 r10 t11 k11 t12 k12 t13 r13 t14 k14 d0 d1 d2 d3 d4 d5 d6 d7 f3 f4 f5 f8 f9 f10 f11 ta1 w1 le1 s1 f13 ta2 w2 le2 s2 f23 f24 f25 f26 f27 f28 f29 f30 f31 f32 f33
  replace f3 := shm_942 f3
  replace f4 := shm_943 f4
  replace f5 := shm_944 f5
  replace f8 := shm_5 f8
  replace f9 := shm_5 f9
  replace f10 := shm_5 f10
  replace f11 := shm_5 f11
  have s1 : (∀ b j, w_el ws b j = if b = v_ad (n_v vs 13) ∧ j = (v_iv (n_v vs 14)).toNat then v_iv (n_v vs 7) else w_el w1 b j) ∧ ∀ b k, w_fd ws b k = w_fd w1 b k := s1.2
  replace f13 := shm_948 f13
  have s2 : (∀ b j, w_el w1 b j = if b = v_ad (n_v vs 10) ∧ j = (v_iv (n_v vs 7)).toNat then v_iv (n_v vs 7) else w_el w2 b j) ∧ ∀ b k, w_fd w1 b k = w_fd w2 b k := s2.2
  replace f23 := shm_949 f23
  replace f24 := shm_2 f24
  replace f25 := shm_396 f25
  replace f26 := shm_396 f26
  replace f27 := shm_941 f27
  replace f28 := shm_942 f28
  replace f29 := shm_943 f29
  replace f30 := shm_944 f30
  replace f31 := shm_945 f31
  replace f32 := shm_946 f32
  replace f33 := shm_947 f33
  have q5 : n_v vs 5 = n_v vs 0 := f8.symm
  have q6 : n_v vs 6 = n_v vs 1 := f9.symm
  have q7 : n_v vs 7 = n_v vs 2 := f10.symm
  have q8 : n_v vs 8 = n_v vs 3 := f11.symm
  simp only [q6, q7, q8, q5] at f3 f4 f5
  rw [q7] at s1
  simp only [q5] at f13
  rw [q7] at s2
  simp only [q5, q6, q7, q8] at f23 f24 f25 f26 f27 f28 f29 f30 f31 f32 f33
  have ar_0_82_1 : w_ar w1 (n_v vs 0) 82 = w_ar ws (n_v vs 0) 82 := congrArg v_ad (s1.2 _ _).symm
  have ar_0_82_2 : w_ar w2 (n_v vs 0) 82 = w_ar ws (n_v vs 0) 82 := by rw [← ar_0_82_1]; show v_ad (w_fd w2 _ _) = v_ad (w_fd w1 _ _); rw [s2.2]
  have cr_0_82 := fdq_230 hD hth r0
  have ar_0_83_1 : w_ar w1 (n_v vs 0) 83 = w_ar ws (n_v vs 0) 83 := congrArg v_ad (s1.2 _ _).symm
  have ar_0_83_2 : w_ar w2 (n_v vs 0) 83 = w_ar ws (n_v vs 0) 83 := by rw [← ar_0_83_1]; show v_ad (w_fd w2 _ _) = v_ad (w_fd w1 _ _); rw [s2.2]
  have cr_0_83 := fdq_126 hD hth r0
  have ar_0_84_1 : w_ar w1 (n_v vs 0) 84 = w_ar ws (n_v vs 0) 84 := congrArg v_ad (s1.2 _ _).symm
  have ar_0_84_2 : w_ar w2 (n_v vs 0) 84 = w_ar ws (n_v vs 0) 84 := by rw [← ar_0_84_1]; show v_ad (w_fd w2 _ _) = v_ad (w_fd w1 _ _); rw [s2.2]
  have cr_0_84 := fdq_127 hD hth r0
  have ar_0_85_1 : w_ar w1 (n_v vs 0) 85 = w_ar ws (n_v vs 0) 85 := congrArg v_ad (s1.2 _ _).symm
  have ar_0_85_2 : w_ar w2 (n_v vs 0) 85 = w_ar ws (n_v vs 0) 85 := by rw [← ar_0_85_1]; show v_ad (w_fd w2 _ _) = v_ad (w_fd w1 _ _); rw [s2.2]
  have cr_0_85 := fdq_128 hD hth r0
  have ar_0_86_1 : w_ar w1 (n_v vs 0) 86 = w_ar ws (n_v vs 0) 86 := congrArg v_ad (s1.2 _ _).symm
  have ar_0_86_2 : w_ar w2 (n_v vs 0) 86 = w_ar ws (n_v vs 0) 86 := by rw [← ar_0_86_1]; show v_ad (w_fd w2 _ _) = v_ad (w_fd w1 _ _); rw [s2.2]
  have cr_0_86 := fdq_129 hD hth r0
  have ar_0_87_1 : w_ar w1 (n_v vs 0) 87 = w_ar ws (n_v vs 0) 87 := congrArg v_ad (s1.2 _ _).symm
  have ar_0_87_2 : w_ar w2 (n_v vs 0) 87 = w_ar ws (n_v vs 0) 87 := by rw [← ar_0_87_1]; show v_ad (w_fd w2 _ _) = v_ad (w_fd w1 _ _); rw [s2.2]
  have cr_0_87 := fdq_119 hD hth r0
  have ar_0_88_1 : w_ar w1 (n_v vs 0) 88 = w_ar ws (n_v vs 0) 88 := congrArg v_ad (s1.2 _ _).symm
  have ar_0_88_2 : w_ar w2 (n_v vs 0) 88 = w_ar ws (n_v vs 0) 88 := by rw [← ar_0_88_1]; show v_ad (w_fd w2 _ _) = v_ad (w_fd w1 _ _); rw [s2.2]
  have cr_0_88 := fdq_120 hD hth r0
  have ar_0_89_1 : w_ar w1 (n_v vs 0) 89 = w_ar ws (n_v vs 0) 89 := congrArg v_ad (s1.2 _ _).symm
  have ar_0_89_2 : w_ar w2 (n_v vs 0) 89 = w_ar ws (n_v vs 0) 89 := by rw [← ar_0_89_1]; show v_ad (w_fd w2 _ _) = v_ad (w_fd w1 _ _); rw [s2.2]
  have cr_0_89 := fdq_121 hD hth r0
  have ar_0_90_1 : w_ar w1 (n_v vs 0) 90 = w_ar ws (n_v vs 0) 90 := congrArg v_ad (s1.2 _ _).symm
  have ar_0_90_2 : w_ar w2 (n_v vs 0) 90 = w_ar ws (n_v vs 0) 90 := by rw [← ar_0_90_1]; show v_ad (w_fd w2 _ _) = v_ad (w_fd w1 _ _); rw [s2.2]
  have cr_0_90 := fdq_231 hD hth r0
  have ar_0_91_1 : w_ar w1 (n_v vs 0) 91 = w_ar ws (n_v vs 0) 91 := congrArg v_ad (s1.2 _ _).symm
  have ar_0_91_2 : w_ar w2 (n_v vs 0) 91 = w_ar ws (n_v vs 0) 91 := by rw [← ar_0_91_1]; show v_ad (w_fd w2 _ _) = v_ad (w_fd w1 _ _); rw [s2.2]
  have cr_0_91 := fdq_232 hD hth r0
  have ar_0_92_1 : w_ar w1 (n_v vs 0) 92 = w_ar ws (n_v vs 0) 92 := congrArg v_ad (s1.2 _ _).symm
  have cr_0_92 := fdq_233 hD hth r0
  have ad_13 : v_ad (n_v vs 13) = w_ar ws (n_v vs 0) 92 := (congrArg v_ad f13).trans ar_0_92_1
  have ad_10 : v_ad (n_v vs 10) = w_ar ws (n_v vs 0) 91 := (congrArg v_ad f23).trans ar_0_91_2
  simp only [ar_0_82_1, ar_0_83_1, ar_0_84_1, ar_0_85_1, ar_0_86_1, ar_0_87_1, ar_0_88_1, ar_0_89_1, ar_0_90_1, ar_0_82_2, ar_0_83_2, ar_0_84_2, ar_0_85_2, ar_0_86_2, ar_0_87_2, ar_0_88_2, ar_0_89_2, ar_0_90_2, ar_0_91_2] at f31 f32 f33
  have fe_0_79_1 : w_fi ws (n_v vs 0) 79 = w_fi w1 (n_v vs 0) 79 := congrArg v_iv (s1.2 _ _)
  have fe_0_80_1 : w_fi ws (n_v vs 0) 80 = w_fi w1 (n_v vs 0) 80 := congrArg v_iv (s1.2 _ _)
  have fe_0_81_1 : w_fi ws (n_v vs 0) 81 = w_fi w1 (n_v vs 0) 81 := congrArg v_iv (s1.2 _ _)
  have fe_0_79_2 : w_fi w1 (n_v vs 0) 79 = w_fi w2 (n_v vs 0) 79 := congrArg v_iv (s2.2 _ _)
  have fe_0_80_2 : w_fi w1 (n_v vs 0) 80 = w_fi w2 (n_v vs 0) 80 := congrArg v_iv (s2.2 _ _)
  have fe_0_81_2 : w_fi w1 (n_v vs 0) 81 = w_fi w2 (n_v vs 0) 81 := congrArg v_iv (s2.2 _ _)
  have hE_0_82_1 : ∀ j : Int, w_ei ws (w_ar ws (n_v vs 0) 82) j = w_ei w1 (w_ar ws (n_v vs 0) 82) j := el_kp s1.1 r13 cr_0_82 (by decide)
  have hE_0_82_2 : ∀ j : Int, w_ei w1 (w_ar ws (n_v vs 0) 82) j = w_ei w2 (w_ar ws (n_v vs 0) 82) j := el_kp s2.1 r10 cr_0_82 (by decide)
  have hE_0_83_1 : ∀ j : Int, w_ei ws (w_ar ws (n_v vs 0) 83) j = w_ei w1 (w_ar ws (n_v vs 0) 83) j := el_kp s1.1 r13 cr_0_83 (by decide)
  have hE_0_83_2 : ∀ j : Int, w_ei w1 (w_ar ws (n_v vs 0) 83) j = w_ei w2 (w_ar ws (n_v vs 0) 83) j := el_kp s2.1 r10 cr_0_83 (by decide)
  have hE_0_84_1 : ∀ j : Int, w_ei ws (w_ar ws (n_v vs 0) 84) j = w_ei w1 (w_ar ws (n_v vs 0) 84) j := el_kp s1.1 r13 cr_0_84 (by decide)
  have hE_0_84_2 : ∀ j : Int, w_ei w1 (w_ar ws (n_v vs 0) 84) j = w_ei w2 (w_ar ws (n_v vs 0) 84) j := el_kp s2.1 r10 cr_0_84 (by decide)
  have hE_0_85_1 : ∀ j : Int, w_ei ws (w_ar ws (n_v vs 0) 85) j = w_ei w1 (w_ar ws (n_v vs 0) 85) j := el_kp s1.1 r13 cr_0_85 (by decide)
  have hE_0_85_2 : ∀ j : Int, w_ei w1 (w_ar ws (n_v vs 0) 85) j = w_ei w2 (w_ar ws (n_v vs 0) 85) j := el_kp s2.1 r10 cr_0_85 (by decide)
  have hE_0_86_1 : ∀ j : Int, w_ei ws (w_ar ws (n_v vs 0) 86) j = w_ei w1 (w_ar ws (n_v vs 0) 86) j := el_kp s1.1 r13 cr_0_86 (by decide)
  have hE_0_86_2 : ∀ j : Int, w_ei w1 (w_ar ws (n_v vs 0) 86) j = w_ei w2 (w_ar ws (n_v vs 0) 86) j := el_kp s2.1 r10 cr_0_86 (by decide)
  have hE_0_87_1 : ∀ j : Int, w_ei ws (w_ar ws (n_v vs 0) 87) j = w_ei w1 (w_ar ws (n_v vs 0) 87) j := el_kp s1.1 r13 cr_0_87 (by decide)
  have hE_0_87_2 : ∀ j : Int, w_ei w1 (w_ar ws (n_v vs 0) 87) j = w_ei w2 (w_ar ws (n_v vs 0) 87) j := el_kp s2.1 r10 cr_0_87 (by decide)
  have hE_0_88_1 : ∀ j : Int, w_ei ws (w_ar ws (n_v vs 0) 88) j = w_ei w1 (w_ar ws (n_v vs 0) 88) j := el_kp s1.1 r13 cr_0_88 (by decide)
  have hE_0_88_2 : ∀ j : Int, w_ei w1 (w_ar ws (n_v vs 0) 88) j = w_ei w2 (w_ar ws (n_v vs 0) 88) j := el_kp s2.1 r10 cr_0_88 (by decide)
  have hE_0_89_1 : ∀ j : Int, w_ei ws (w_ar ws (n_v vs 0) 89) j = w_ei w1 (w_ar ws (n_v vs 0) 89) j := el_kp s1.1 r13 cr_0_89 (by decide)
  have hE_0_89_2 : ∀ j : Int, w_ei w1 (w_ar ws (n_v vs 0) 89) j = w_ei w2 (w_ar ws (n_v vs 0) 89) j := el_kp s2.1 r10 cr_0_89 (by decide)
  have hE_0_90_1 : ∀ j : Int, w_ei ws (w_ar ws (n_v vs 0) 90) j = w_ei w1 (w_ar ws (n_v vs 0) 90) j := el_kp s1.1 r13 cr_0_90 (by decide)
  have hE_0_90_2 : ∀ j : Int, w_ei w1 (w_ar ws (n_v vs 0) 90) j = w_ei w2 (w_ar ws (n_v vs 0) 90) j := el_kp s2.1 r10 cr_0_90 (by decide)
  have hE_0_91_1 : ∀ j : Int, w_ei ws (w_ar ws (n_v vs 0) 91) j = w_ei w1 (w_ar ws (n_v vs 0) 91) j := el_kp s1.1 r13 cr_0_91 (by decide)
  have hE_0_91_2 : ∀ j : Int, 0 ≤ j → (j = v_iv (n_v vs 2) → w_ei w1 (w_ar ws (n_v vs 0) 91) j = v_iv (n_v vs 2)) ∧ (j ≠ v_iv (n_v vs 2) → w_ei w1 (w_ar ws (n_v vs 0) 91) j = w_ei w2 (w_ar ws (n_v vs 0) 91) j) := fun j hj => ⟨fun h => by unfold w_ei; rw [s2.1, if_pos ⟨ad_10.symm, by rw [h]⟩], fun h => by unfold w_ei; rw [s2.1, if_neg (fun e => h (by have := e.2; omega))]⟩
  have hE_0_92_1 : ∀ j : Int, 0 ≤ j → (j = v_iv (n_v vs 14) → w_ei ws (w_ar ws (n_v vs 0) 92) j = v_iv (n_v vs 2)) ∧ (j ≠ v_iv (n_v vs 14) → w_ei ws (w_ar ws (n_v vs 0) 92) j = w_ei w1 (w_ar ws (n_v vs 0) 92) j) := fun j hj => ⟨fun h => by unfold w_ei; rw [s1.1, if_pos ⟨ad_13.symm, by rw [h]⟩], fun h => by unfold w_ei; rw [s1.1, if_neg (fun e => h (by have := e.2; omega))]⟩
  have hE_0_92_2 : ∀ j : Int, w_ei w1 (w_ar ws (n_v vs 0) 92) j = w_ei w2 (w_ar ws (n_v vs 0) 92) j := el_kp s2.1 r10 cr_0_92 (by decide)
  have kz_0_79 := fdq_147 hD hth r0
  have kz_0_80 := fdq_131 hD hth r0
  have kz_0_81 := fdq_124 hD hth r0
  obtain ⟨x, ex, hx⟩ := iv_ex (ta := ta) (lo := (-2)) (hi := 79) (z := 79) (by omega) (by omega) (by omega) (by omega)
  have ex2 : v_iv (Value.int x) = 79 := ex
  have ex3 : (-2) ≤ v_iv (Value.int x) ∧ v_iv (Value.int x) ≤ 79 := tv_rng hx
  have e_0 : n_v (vs ++ [Value.int x]) 0 = n_v vs 0 := n_v_old (by rw [hl]; decide)
  have e_1 : n_v (vs ++ [Value.int x]) 1 = n_v vs 1 := n_v_old (by rw [hl]; decide)
  have e_2 : n_v (vs ++ [Value.int x]) 2 = n_v vs 2 := n_v_old (by rw [hl]; decide)
  have e_3 : n_v (vs ++ [Value.int x]) 3 = n_v vs 3 := n_v_old (by rw [hl]; decide)
  have e_4 : n_v (vs ++ [Value.int x]) 4 = n_v vs 4 := n_v_old (by rw [hl]; decide)
  have e_5 : n_v (vs ++ [Value.int x]) 5 = n_v vs 5 := n_v_old (by rw [hl]; decide)
  have e_6 : n_v (vs ++ [Value.int x]) 6 = n_v vs 6 := n_v_old (by rw [hl]; decide)
  have e_7 : n_v (vs ++ [Value.int x]) 7 = n_v vs 7 := n_v_old (by rw [hl]; decide)
  have e_8 : n_v (vs ++ [Value.int x]) 8 = n_v vs 8 := n_v_old (by rw [hl]; decide)
  have e_11 : n_v (vs ++ [Value.int x]) 11 = n_v vs 11 := n_v_old (by rw [hl]; decide)
  have e_12 : n_v (vs ++ [Value.int x]) 12 = n_v vs 12 := n_v_old (by rw [hl]; decide)
  have e_15 : n_v (vs ++ [Value.int x]) 15 = Value.int x := n_v_new hl
  have nf0 : fc_1 PRD (20, [7, 6], [50, 0, 0, 0, 6, 4, 2, 1, 0, 0, 1, 1, 1]) ws (vs ++ [Value.int x]) := by
    refine ⟨nf_inA hl rfl, sgq_396 ?_⟩
    · show (v_iv (n_v (vs ++ [Value.int x]) 7) + 1) ≤ v_iv (n_v (vs ++ [Value.int x]) 6)
      simp only [e_6, e_7, q6, q7]
      exact vc_Mo_augment_1_0 (v_iv (n_v vs 1)) (v_iv (n_v vs 2)) (w_fi ws (n_v vs 0) 79) (w_ei ws (w_ar ws (n_v vs 0) 90)) (w_ei ws (w_ar ws (n_v vs 0) 82)) (w_ei ws (w_ar ws (n_v vs 0) 83)) (w_ei ws (w_ar ws (n_v vs 0) 84)) (w_ei ws (w_ar ws (n_v vs 0) 85)) (w_ei ws (w_ar ws (n_v vs 0) 86)) (w_ei ws (w_ar ws (n_v vs 0) 87)) (w_ei ws (w_ar ws (n_v vs 0) 88)) (w_ei ws (w_ar ws (n_v vs 0) 89)) (w_fi ws (n_v vs 0) 80) (w_fi ws (n_v vs 0) 81) (w_fi w1 (n_v vs 0) 79) (w_ei w1 (w_ar ws (n_v vs 0) 90)) (w_ei w1 (w_ar ws (n_v vs 0) 82)) (w_ei w1 (w_ar ws (n_v vs 0) 83)) (w_ei w1 (w_ar ws (n_v vs 0) 84)) (w_ei w1 (w_ar ws (n_v vs 0) 85)) (w_ei w1 (w_ar ws (n_v vs 0) 86)) (w_ei w1 (w_ar ws (n_v vs 0) 87)) (w_ei w1 (w_ar ws (n_v vs 0) 88)) (w_ei w1 (w_ar ws (n_v vs 0) 89)) (w_fi w1 (n_v vs 0) 80) (w_fi w1 (n_v vs 0) 81) (w_fi w2 (n_v vs 0) 79) (w_ei w2 (w_ar ws (n_v vs 0) 90)) (w_ei w2 (w_ar ws (n_v vs 0) 82)) (w_ei w2 (w_ar ws (n_v vs 0) 83)) (w_ei w2 (w_ar ws (n_v vs 0) 84)) (w_ei w2 (w_ar ws (n_v vs 0) 85)) (w_ei w2 (w_ar ws (n_v vs 0) 86)) (w_ei w2 (w_ar ws (n_v vs 0) 87)) (w_ei w2 (w_ar ws (n_v vs 0) 88)) (w_ei w2 (w_ar ws (n_v vs 0) 89)) (w_fi w2 (n_v vs 0) 80) (w_fi w2 (n_v vs 0) 81) (w_ei ws (w_ar ws (n_v vs 0) 91)) (w_ei w1 (w_ar ws (n_v vs 0) 91)) (w_ei w1 (w_ar ws (n_v vs 0) 92)) (w_ei w2 (w_ar ws (n_v vs 0) 92)) k1 k2 f25 fe_0_79_1 fe_0_80_1 fe_0_81_1 fe_0_79_2 fe_0_80_2 fe_0_81_2 hE_0_82_1 hE_0_82_2 hE_0_83_1 hE_0_83_2 hE_0_84_1 hE_0_84_2 hE_0_85_1 hE_0_85_2 hE_0_86_1 hE_0_86_2 hE_0_87_1 hE_0_87_2 hE_0_88_1 hE_0_88_2 hE_0_89_1 hE_0_89_2 hE_0_90_1 hE_0_90_2 hE_0_91_1 hE_0_92_2 kz_0_79 kz_0_80 kz_0_81
  have nf1 : fc_1 PRD (20, [8, 6], [50, 0, 0, 0, 6, 4, 2, 1, 0, 0, 1, 1, 1]) ws (vs ++ [Value.int x]) := by
    refine ⟨nf_inA hl rfl, sgq_396 ?_⟩
    · show (v_iv (n_v (vs ++ [Value.int x]) 8) + 1) ≤ v_iv (n_v (vs ++ [Value.int x]) 6)
      simp only [e_6, e_8, q6, q8]
      exact vc_Mo_augment_1_1 (v_iv (n_v vs 1)) (v_iv (n_v vs 3)) (w_fi ws (n_v vs 0) 79) (w_ei ws (w_ar ws (n_v vs 0) 90)) (w_ei ws (w_ar ws (n_v vs 0) 82)) (w_ei ws (w_ar ws (n_v vs 0) 83)) (w_ei ws (w_ar ws (n_v vs 0) 84)) (w_ei ws (w_ar ws (n_v vs 0) 85)) (w_ei ws (w_ar ws (n_v vs 0) 86)) (w_ei ws (w_ar ws (n_v vs 0) 87)) (w_ei ws (w_ar ws (n_v vs 0) 88)) (w_ei ws (w_ar ws (n_v vs 0) 89)) (w_fi ws (n_v vs 0) 80) (w_fi ws (n_v vs 0) 81) (w_fi w1 (n_v vs 0) 79) (w_ei w1 (w_ar ws (n_v vs 0) 90)) (w_ei w1 (w_ar ws (n_v vs 0) 82)) (w_ei w1 (w_ar ws (n_v vs 0) 83)) (w_ei w1 (w_ar ws (n_v vs 0) 84)) (w_ei w1 (w_ar ws (n_v vs 0) 85)) (w_ei w1 (w_ar ws (n_v vs 0) 86)) (w_ei w1 (w_ar ws (n_v vs 0) 87)) (w_ei w1 (w_ar ws (n_v vs 0) 88)) (w_ei w1 (w_ar ws (n_v vs 0) 89)) (w_fi w1 (n_v vs 0) 80) (w_fi w1 (n_v vs 0) 81) (w_fi w2 (n_v vs 0) 79) (w_ei w2 (w_ar ws (n_v vs 0) 90)) (w_ei w2 (w_ar ws (n_v vs 0) 82)) (w_ei w2 (w_ar ws (n_v vs 0) 83)) (w_ei w2 (w_ar ws (n_v vs 0) 84)) (w_ei w2 (w_ar ws (n_v vs 0) 85)) (w_ei w2 (w_ar ws (n_v vs 0) 86)) (w_ei w2 (w_ar ws (n_v vs 0) 87)) (w_ei w2 (w_ar ws (n_v vs 0) 88)) (w_ei w2 (w_ar ws (n_v vs 0) 89)) (w_fi w2 (n_v vs 0) 80) (w_fi w2 (n_v vs 0) 81) (w_ei ws (w_ar ws (n_v vs 0) 91)) (w_ei w1 (w_ar ws (n_v vs 0) 91)) (w_ei w1 (w_ar ws (n_v vs 0) 92)) (w_ei w2 (w_ar ws (n_v vs 0) 92)) k1 k3 f26 fe_0_79_1 fe_0_80_1 fe_0_81_1 fe_0_79_2 fe_0_80_2 fe_0_81_2 hE_0_82_1 hE_0_82_2 hE_0_83_1 hE_0_83_2 hE_0_84_1 hE_0_84_2 hE_0_85_1 hE_0_85_2 hE_0_86_1 hE_0_86_2 hE_0_87_1 hE_0_87_2 hE_0_88_1 hE_0_88_2 hE_0_89_1 hE_0_89_2 hE_0_90_1 hE_0_90_2 hE_0_91_1 hE_0_92_2 kz_0_79 kz_0_80 kz_0_81
  have nf2 : fc_1 PRD (20, [6], [50, 0, 0, 0, 2, 1, 0, 0, 78]) ws (vs ++ [Value.int x]) := by
    refine ⟨nf_inA hl rfl, sgq_941 ?_⟩
    · show v_iv (n_v (vs ++ [Value.int x]) 6) ≤ 78
      simp only [e_6, q6]
      exact vc_Mo_augment_1_2 (v_iv (n_v vs 1)) (w_fi ws (n_v vs 0) 79) (w_ei ws (w_ar ws (n_v vs 0) 90)) (w_ei ws (w_ar ws (n_v vs 0) 82)) (w_ei ws (w_ar ws (n_v vs 0) 83)) (w_ei ws (w_ar ws (n_v vs 0) 84)) (w_ei ws (w_ar ws (n_v vs 0) 85)) (w_ei ws (w_ar ws (n_v vs 0) 86)) (w_ei ws (w_ar ws (n_v vs 0) 87)) (w_ei ws (w_ar ws (n_v vs 0) 88)) (w_ei ws (w_ar ws (n_v vs 0) 89)) (w_fi ws (n_v vs 0) 80) (w_fi ws (n_v vs 0) 81) (w_fi w1 (n_v vs 0) 79) (w_ei w1 (w_ar ws (n_v vs 0) 90)) (w_ei w1 (w_ar ws (n_v vs 0) 82)) (w_ei w1 (w_ar ws (n_v vs 0) 83)) (w_ei w1 (w_ar ws (n_v vs 0) 84)) (w_ei w1 (w_ar ws (n_v vs 0) 85)) (w_ei w1 (w_ar ws (n_v vs 0) 86)) (w_ei w1 (w_ar ws (n_v vs 0) 87)) (w_ei w1 (w_ar ws (n_v vs 0) 88)) (w_ei w1 (w_ar ws (n_v vs 0) 89)) (w_fi w1 (n_v vs 0) 80) (w_fi w1 (n_v vs 0) 81) (w_fi w2 (n_v vs 0) 79) (w_ei w2 (w_ar ws (n_v vs 0) 90)) (w_ei w2 (w_ar ws (n_v vs 0) 82)) (w_ei w2 (w_ar ws (n_v vs 0) 83)) (w_ei w2 (w_ar ws (n_v vs 0) 84)) (w_ei w2 (w_ar ws (n_v vs 0) 85)) (w_ei w2 (w_ar ws (n_v vs 0) 86)) (w_ei w2 (w_ar ws (n_v vs 0) 87)) (w_ei w2 (w_ar ws (n_v vs 0) 88)) (w_ei w2 (w_ar ws (n_v vs 0) 89)) (w_fi w2 (n_v vs 0) 80) (w_fi w2 (n_v vs 0) 81) (w_ei ws (w_ar ws (n_v vs 0) 91)) (w_ei w1 (w_ar ws (n_v vs 0) 91)) (w_ei w1 (w_ar ws (n_v vs 0) 92)) (w_ei w2 (w_ar ws (n_v vs 0) 92)) k1 f27 fe_0_79_1 fe_0_80_1 fe_0_81_1 fe_0_79_2 fe_0_80_2 fe_0_81_2 hE_0_82_1 hE_0_82_2 hE_0_83_1 hE_0_83_2 hE_0_84_1 hE_0_84_2 hE_0_85_1 hE_0_85_2 hE_0_86_1 hE_0_86_2 hE_0_87_1 hE_0_87_2 hE_0_88_1 hE_0_88_2 hE_0_89_1 hE_0_89_2 hE_0_90_1 hE_0_90_2 hE_0_91_1 hE_0_92_2 kz_0_79 kz_0_80 kz_0_81
  have nf3 : fc_1 PRD (20, [6, 5], [50, 1, 0, 1079, 1, 2, 1, 0, 4, 3, 2, 1, 79, 0, 2]) ws (vs ++ [Value.int x]) := by
    refine ⟨nf_inA hl rfl, sgq_942 ?_⟩
    · show v_iv (n_v (vs ++ [Value.int x]) 6) = (w_fi ws (n_v (vs ++ [Value.int x]) 5) 79 + 2)
      simp only [e_5, e_6, q5, q6]
      exact vc_Mo_augment_1_3 (v_iv (n_v vs 1)) (w_fi ws (n_v vs 0) 79) (w_ei ws (w_ar ws (n_v vs 0) 90)) (w_ei ws (w_ar ws (n_v vs 0) 82)) (w_ei ws (w_ar ws (n_v vs 0) 83)) (w_ei ws (w_ar ws (n_v vs 0) 84)) (w_ei ws (w_ar ws (n_v vs 0) 85)) (w_ei ws (w_ar ws (n_v vs 0) 86)) (w_ei ws (w_ar ws (n_v vs 0) 87)) (w_ei ws (w_ar ws (n_v vs 0) 88)) (w_ei ws (w_ar ws (n_v vs 0) 89)) (w_fi ws (n_v vs 0) 80) (w_fi ws (n_v vs 0) 81) (w_fi w1 (n_v vs 0) 79) (w_ei w1 (w_ar ws (n_v vs 0) 90)) (w_ei w1 (w_ar ws (n_v vs 0) 82)) (w_ei w1 (w_ar ws (n_v vs 0) 83)) (w_ei w1 (w_ar ws (n_v vs 0) 84)) (w_ei w1 (w_ar ws (n_v vs 0) 85)) (w_ei w1 (w_ar ws (n_v vs 0) 86)) (w_ei w1 (w_ar ws (n_v vs 0) 87)) (w_ei w1 (w_ar ws (n_v vs 0) 88)) (w_ei w1 (w_ar ws (n_v vs 0) 89)) (w_fi w1 (n_v vs 0) 80) (w_fi w1 (n_v vs 0) 81) (w_fi w2 (n_v vs 0) 79) (w_ei w2 (w_ar ws (n_v vs 0) 90)) (w_ei w2 (w_ar ws (n_v vs 0) 82)) (w_ei w2 (w_ar ws (n_v vs 0) 83)) (w_ei w2 (w_ar ws (n_v vs 0) 84)) (w_ei w2 (w_ar ws (n_v vs 0) 85)) (w_ei w2 (w_ar ws (n_v vs 0) 86)) (w_ei w2 (w_ar ws (n_v vs 0) 87)) (w_ei w2 (w_ar ws (n_v vs 0) 88)) (w_ei w2 (w_ar ws (n_v vs 0) 89)) (w_fi w2 (n_v vs 0) 80) (w_fi w2 (n_v vs 0) 81) (w_ei ws (w_ar ws (n_v vs 0) 91)) (w_ei w1 (w_ar ws (n_v vs 0) 91)) (w_ei w1 (w_ar ws (n_v vs 0) 92)) (w_ei w2 (w_ar ws (n_v vs 0) 92)) k1 f28 fe_0_79_1 fe_0_80_1 fe_0_81_1 fe_0_79_2 fe_0_80_2 fe_0_81_2 hE_0_82_1 hE_0_82_2 hE_0_83_1 hE_0_83_2 hE_0_84_1 hE_0_84_2 hE_0_85_1 hE_0_85_2 hE_0_86_1 hE_0_86_2 hE_0_87_1 hE_0_87_2 hE_0_88_1 hE_0_88_2 hE_0_89_1 hE_0_89_2 hE_0_90_1 hE_0_90_2 hE_0_91_1 hE_0_92_2 kz_0_79 kz_0_80 kz_0_81
  have nf4 : fc_1 PRD (20, [7, 5], [50, 1, 0, 1079, 1, 2, 1, 0, 2, 1, 79]) ws (vs ++ [Value.int x]) := by
    refine ⟨nf_inA hl rfl, sgq_943 ?_⟩
    · show v_iv (n_v (vs ++ [Value.int x]) 7) = w_fi ws (n_v (vs ++ [Value.int x]) 5) 79
      simp only [e_5, e_7, q5, q7]
      exact vc_Mo_augment_1_4 (v_iv (n_v vs 2)) (w_fi ws (n_v vs 0) 79) (w_ei ws (w_ar ws (n_v vs 0) 90)) (w_ei ws (w_ar ws (n_v vs 0) 82)) (w_ei ws (w_ar ws (n_v vs 0) 83)) (w_ei ws (w_ar ws (n_v vs 0) 84)) (w_ei ws (w_ar ws (n_v vs 0) 85)) (w_ei ws (w_ar ws (n_v vs 0) 86)) (w_ei ws (w_ar ws (n_v vs 0) 87)) (w_ei ws (w_ar ws (n_v vs 0) 88)) (w_ei ws (w_ar ws (n_v vs 0) 89)) (w_fi ws (n_v vs 0) 80) (w_fi ws (n_v vs 0) 81) (w_fi w1 (n_v vs 0) 79) (w_ei w1 (w_ar ws (n_v vs 0) 90)) (w_ei w1 (w_ar ws (n_v vs 0) 82)) (w_ei w1 (w_ar ws (n_v vs 0) 83)) (w_ei w1 (w_ar ws (n_v vs 0) 84)) (w_ei w1 (w_ar ws (n_v vs 0) 85)) (w_ei w1 (w_ar ws (n_v vs 0) 86)) (w_ei w1 (w_ar ws (n_v vs 0) 87)) (w_ei w1 (w_ar ws (n_v vs 0) 88)) (w_ei w1 (w_ar ws (n_v vs 0) 89)) (w_fi w1 (n_v vs 0) 80) (w_fi w1 (n_v vs 0) 81) (w_fi w2 (n_v vs 0) 79) (w_ei w2 (w_ar ws (n_v vs 0) 90)) (w_ei w2 (w_ar ws (n_v vs 0) 82)) (w_ei w2 (w_ar ws (n_v vs 0) 83)) (w_ei w2 (w_ar ws (n_v vs 0) 84)) (w_ei w2 (w_ar ws (n_v vs 0) 85)) (w_ei w2 (w_ar ws (n_v vs 0) 86)) (w_ei w2 (w_ar ws (n_v vs 0) 87)) (w_ei w2 (w_ar ws (n_v vs 0) 88)) (w_ei w2 (w_ar ws (n_v vs 0) 89)) (w_fi w2 (n_v vs 0) 80) (w_fi w2 (n_v vs 0) 81) (w_ei ws (w_ar ws (n_v vs 0) 91)) (w_ei w1 (w_ar ws (n_v vs 0) 91)) (w_ei w1 (w_ar ws (n_v vs 0) 92)) (w_ei w2 (w_ar ws (n_v vs 0) 92)) k2 f29 fe_0_79_1 fe_0_80_1 fe_0_81_1 fe_0_79_2 fe_0_80_2 fe_0_81_2 hE_0_82_1 hE_0_82_2 hE_0_83_1 hE_0_83_2 hE_0_84_1 hE_0_84_2 hE_0_85_1 hE_0_85_2 hE_0_86_1 hE_0_86_2 hE_0_87_1 hE_0_87_2 hE_0_88_1 hE_0_88_2 hE_0_89_1 hE_0_89_2 hE_0_90_1 hE_0_90_2 hE_0_91_1 hE_0_92_2 kz_0_79 kz_0_80 kz_0_81
  have nf5 : fc_1 PRD (20, [8, 5], [50, 1, 0, 1079, 1, 2, 1, 0, 4, 3, 2, 1, 79, 0, 1]) ws (vs ++ [Value.int x]) := by
    refine ⟨nf_inA hl rfl, sgq_944 ?_⟩
    · show v_iv (n_v (vs ++ [Value.int x]) 8) = (w_fi ws (n_v (vs ++ [Value.int x]) 5) 79 + 1)
      simp only [e_5, e_8, q5, q8]
      exact vc_Mo_augment_1_5 (v_iv (n_v vs 3)) (w_fi ws (n_v vs 0) 79) (w_ei ws (w_ar ws (n_v vs 0) 90)) (w_ei ws (w_ar ws (n_v vs 0) 82)) (w_ei ws (w_ar ws (n_v vs 0) 83)) (w_ei ws (w_ar ws (n_v vs 0) 84)) (w_ei ws (w_ar ws (n_v vs 0) 85)) (w_ei ws (w_ar ws (n_v vs 0) 86)) (w_ei ws (w_ar ws (n_v vs 0) 87)) (w_ei ws (w_ar ws (n_v vs 0) 88)) (w_ei ws (w_ar ws (n_v vs 0) 89)) (w_fi ws (n_v vs 0) 80) (w_fi ws (n_v vs 0) 81) (w_fi w1 (n_v vs 0) 79) (w_ei w1 (w_ar ws (n_v vs 0) 90)) (w_ei w1 (w_ar ws (n_v vs 0) 82)) (w_ei w1 (w_ar ws (n_v vs 0) 83)) (w_ei w1 (w_ar ws (n_v vs 0) 84)) (w_ei w1 (w_ar ws (n_v vs 0) 85)) (w_ei w1 (w_ar ws (n_v vs 0) 86)) (w_ei w1 (w_ar ws (n_v vs 0) 87)) (w_ei w1 (w_ar ws (n_v vs 0) 88)) (w_ei w1 (w_ar ws (n_v vs 0) 89)) (w_fi w1 (n_v vs 0) 80) (w_fi w1 (n_v vs 0) 81) (w_fi w2 (n_v vs 0) 79) (w_ei w2 (w_ar ws (n_v vs 0) 90)) (w_ei w2 (w_ar ws (n_v vs 0) 82)) (w_ei w2 (w_ar ws (n_v vs 0) 83)) (w_ei w2 (w_ar ws (n_v vs 0) 84)) (w_ei w2 (w_ar ws (n_v vs 0) 85)) (w_ei w2 (w_ar ws (n_v vs 0) 86)) (w_ei w2 (w_ar ws (n_v vs 0) 87)) (w_ei w2 (w_ar ws (n_v vs 0) 88)) (w_ei w2 (w_ar ws (n_v vs 0) 89)) (w_fi w2 (n_v vs 0) 80) (w_fi w2 (n_v vs 0) 81) (w_ei ws (w_ar ws (n_v vs 0) 91)) (w_ei w1 (w_ar ws (n_v vs 0) 91)) (w_ei w1 (w_ar ws (n_v vs 0) 92)) (w_ei w2 (w_ar ws (n_v vs 0) 92)) k3 f30 fe_0_79_1 fe_0_80_1 fe_0_81_1 fe_0_79_2 fe_0_80_2 fe_0_81_2 hE_0_82_1 hE_0_82_2 hE_0_83_1 hE_0_83_2 hE_0_84_1 hE_0_84_2 hE_0_85_1 hE_0_85_2 hE_0_86_1 hE_0_86_2 hE_0_87_1 hE_0_87_2 hE_0_88_1 hE_0_88_2 hE_0_89_1 hE_0_89_2 hE_0_90_1 hE_0_90_2 hE_0_91_1 hE_0_92_2 kz_0_79 kz_0_80 kz_0_81
  have nf6 : fc_1 PRD (20, [5], [60, 3, 9, 397, 79, 80, 81, 90, 82, 83, 84, 85, 86, 87, 88, 89]) ws (vs ++ [Value.int x]) := by
    refine ⟨nf_inA hl rfl, sgq_945 ?_⟩
    · show FLO (w_fi ws (n_v (vs ++ [Value.int x]) 5) 79) (w_fi ws (n_v (vs ++ [Value.int x]) 5) 80) (w_fi ws (n_v (vs ++ [Value.int x]) 5) 81) (w_ei ws (w_ar ws (n_v (vs ++ [Value.int x]) 5) 90)) (w_ei ws (w_ar ws (n_v (vs ++ [Value.int x]) 5) 82)) (w_ei ws (w_ar ws (n_v (vs ++ [Value.int x]) 5) 83)) (w_ei ws (w_ar ws (n_v (vs ++ [Value.int x]) 5) 84)) (w_ei ws (w_ar ws (n_v (vs ++ [Value.int x]) 5) 85)) (w_ei ws (w_ar ws (n_v (vs ++ [Value.int x]) 5) 86)) (w_ei ws (w_ar ws (n_v (vs ++ [Value.int x]) 5) 87)) (w_ei ws (w_ar ws (n_v (vs ++ [Value.int x]) 5) 88)) (w_ei ws (w_ar ws (n_v (vs ++ [Value.int x]) 5) 89))
      simp only [e_5, q5]
      exact vc_Mo_augment_1_6 (w_fi ws (n_v vs 0) 79) (w_ei ws (w_ar ws (n_v vs 0) 90)) (w_ei ws (w_ar ws (n_v vs 0) 82)) (w_ei ws (w_ar ws (n_v vs 0) 83)) (w_ei ws (w_ar ws (n_v vs 0) 84)) (w_ei ws (w_ar ws (n_v vs 0) 85)) (w_ei ws (w_ar ws (n_v vs 0) 86)) (w_ei ws (w_ar ws (n_v vs 0) 87)) (w_ei ws (w_ar ws (n_v vs 0) 88)) (w_ei ws (w_ar ws (n_v vs 0) 89)) (w_fi ws (n_v vs 0) 80) (w_fi ws (n_v vs 0) 81) (w_fi w1 (n_v vs 0) 79) (w_ei w1 (w_ar ws (n_v vs 0) 90)) (w_ei w1 (w_ar ws (n_v vs 0) 82)) (w_ei w1 (w_ar ws (n_v vs 0) 83)) (w_ei w1 (w_ar ws (n_v vs 0) 84)) (w_ei w1 (w_ar ws (n_v vs 0) 85)) (w_ei w1 (w_ar ws (n_v vs 0) 86)) (w_ei w1 (w_ar ws (n_v vs 0) 87)) (w_ei w1 (w_ar ws (n_v vs 0) 88)) (w_ei w1 (w_ar ws (n_v vs 0) 89)) (w_fi w1 (n_v vs 0) 80) (w_fi w1 (n_v vs 0) 81) (w_fi w2 (n_v vs 0) 79) (w_ei w2 (w_ar ws (n_v vs 0) 90)) (w_ei w2 (w_ar ws (n_v vs 0) 82)) (w_ei w2 (w_ar ws (n_v vs 0) 83)) (w_ei w2 (w_ar ws (n_v vs 0) 84)) (w_ei w2 (w_ar ws (n_v vs 0) 85)) (w_ei w2 (w_ar ws (n_v vs 0) 86)) (w_ei w2 (w_ar ws (n_v vs 0) 87)) (w_ei w2 (w_ar ws (n_v vs 0) 88)) (w_ei w2 (w_ar ws (n_v vs 0) 89)) (w_fi w2 (n_v vs 0) 80) (w_fi w2 (n_v vs 0) 81) (w_ei ws (w_ar ws (n_v vs 0) 91)) (w_ei w1 (w_ar ws (n_v vs 0) 91)) (w_ei w1 (w_ar ws (n_v vs 0) 92)) (w_ei w2 (w_ar ws (n_v vs 0) 92)) f31 fe_0_79_1 fe_0_80_1 fe_0_81_1 fe_0_79_2 fe_0_80_2 fe_0_81_2 hE_0_82_1 hE_0_82_2 hE_0_83_1 hE_0_83_2 hE_0_84_1 hE_0_84_2 hE_0_85_1 hE_0_85_2 hE_0_86_1 hE_0_86_2 hE_0_87_1 hE_0_87_2 hE_0_88_1 hE_0_88_2 hE_0_89_1 hE_0_89_2 hE_0_90_1 hE_0_90_2 hE_0_91_1 hE_0_92_2 kz_0_79 kz_0_80 kz_0_81
  have nf7 : fc_1 PRD (20, [5, 4], [60, 1, 1, 398, 79, 90]) ws (vs ++ [Value.int x]) := by
    refine ⟨nf_inA hl rfl, sgq_946 ?_⟩
    · show XLE (w_fi ws (n_v (vs ++ [Value.int x]) 5) 79) (w_ei ws (w_ar ws (n_v (vs ++ [Value.int x]) 5) 90)) (v_iv (n_v (vs ++ [Value.int x]) 4))
      simp only [e_4, e_5, q5]
      exact vc_Mo_augment_1_7 (v_iv (n_v vs 4)) (w_fi ws (n_v vs 0) 79) (w_ei ws (w_ar ws (n_v vs 0) 90)) (w_ei ws (w_ar ws (n_v vs 0) 82)) (w_ei ws (w_ar ws (n_v vs 0) 83)) (w_ei ws (w_ar ws (n_v vs 0) 84)) (w_ei ws (w_ar ws (n_v vs 0) 85)) (w_ei ws (w_ar ws (n_v vs 0) 86)) (w_ei ws (w_ar ws (n_v vs 0) 87)) (w_ei ws (w_ar ws (n_v vs 0) 88)) (w_ei ws (w_ar ws (n_v vs 0) 89)) (w_fi ws (n_v vs 0) 80) (w_fi ws (n_v vs 0) 81) (w_fi w1 (n_v vs 0) 79) (w_ei w1 (w_ar ws (n_v vs 0) 90)) (w_ei w1 (w_ar ws (n_v vs 0) 82)) (w_ei w1 (w_ar ws (n_v vs 0) 83)) (w_ei w1 (w_ar ws (n_v vs 0) 84)) (w_ei w1 (w_ar ws (n_v vs 0) 85)) (w_ei w1 (w_ar ws (n_v vs 0) 86)) (w_ei w1 (w_ar ws (n_v vs 0) 87)) (w_ei w1 (w_ar ws (n_v vs 0) 88)) (w_ei w1 (w_ar ws (n_v vs 0) 89)) (w_fi w1 (n_v vs 0) 80) (w_fi w1 (n_v vs 0) 81) (w_fi w2 (n_v vs 0) 79) (w_ei w2 (w_ar ws (n_v vs 0) 90)) (w_ei w2 (w_ar ws (n_v vs 0) 82)) (w_ei w2 (w_ar ws (n_v vs 0) 83)) (w_ei w2 (w_ar ws (n_v vs 0) 84)) (w_ei w2 (w_ar ws (n_v vs 0) 85)) (w_ei w2 (w_ar ws (n_v vs 0) 86)) (w_ei w2 (w_ar ws (n_v vs 0) 87)) (w_ei w2 (w_ar ws (n_v vs 0) 88)) (w_ei w2 (w_ar ws (n_v vs 0) 89)) (w_fi w2 (n_v vs 0) 80) (w_fi w2 (n_v vs 0) 81) (w_ei ws (w_ar ws (n_v vs 0) 91)) (w_ei w1 (w_ar ws (n_v vs 0) 91)) (w_ei w1 (w_ar ws (n_v vs 0) 92)) (w_ei w2 (w_ar ws (n_v vs 0) 92)) k4 f32 fe_0_79_1 fe_0_80_1 fe_0_81_1 fe_0_79_2 fe_0_80_2 fe_0_81_2 hE_0_82_1 hE_0_82_2 hE_0_83_1 hE_0_83_2 hE_0_84_1 hE_0_84_2 hE_0_85_1 hE_0_85_2 hE_0_86_1 hE_0_86_2 hE_0_87_1 hE_0_87_2 hE_0_88_1 hE_0_88_2 hE_0_89_1 hE_0_89_2 hE_0_90_1 hE_0_90_2 hE_0_91_1 hE_0_92_2 kz_0_79 kz_0_80 kz_0_81
  have nf8 : fc_1 PRD (20, [5, 6, 7], [60, 0, 2, 401, 90, 91]) ws (vs ++ [Value.int x]) := by
    refine ⟨nf_inA hl rfl, sgq_950 ?_⟩
    · show FPT (w_ei ws (w_ar ws (n_v (vs ++ [Value.int x]) 5) 90)) (w_ei ws (w_ar ws (n_v (vs ++ [Value.int x]) 5) 91)) (v_iv (n_v (vs ++ [Value.int x]) 6)) (v_iv (n_v (vs ++ [Value.int x]) 7))
      simp only [e_5, e_6, e_7, q5, q6, q7]
      exact vc_Mo_augment_1_8 (v_iv (n_v vs 1)) (v_iv (n_v vs 2)) (v_iv (n_v vs 9)) (w_fi ws (n_v vs 0) 79) (w_ei ws (w_ar ws (n_v vs 0) 90)) (w_ei ws (w_ar ws (n_v vs 0) 82)) (w_ei ws (w_ar ws (n_v vs 0) 83)) (w_ei ws (w_ar ws (n_v vs 0) 84)) (w_ei ws (w_ar ws (n_v vs 0) 85)) (w_ei ws (w_ar ws (n_v vs 0) 86)) (w_ei ws (w_ar ws (n_v vs 0) 87)) (w_ei ws (w_ar ws (n_v vs 0) 88)) (w_ei ws (w_ar ws (n_v vs 0) 89)) (w_fi ws (n_v vs 0) 80) (w_fi ws (n_v vs 0) 81) (w_fi w1 (n_v vs 0) 79) (w_ei w1 (w_ar ws (n_v vs 0) 90)) (w_ei w1 (w_ar ws (n_v vs 0) 82)) (w_ei w1 (w_ar ws (n_v vs 0) 83)) (w_ei w1 (w_ar ws (n_v vs 0) 84)) (w_ei w1 (w_ar ws (n_v vs 0) 85)) (w_ei w1 (w_ar ws (n_v vs 0) 86)) (w_ei w1 (w_ar ws (n_v vs 0) 87)) (w_ei w1 (w_ar ws (n_v vs 0) 88)) (w_ei w1 (w_ar ws (n_v vs 0) 89)) (w_fi w1 (n_v vs 0) 80) (w_fi w1 (n_v vs 0) 81) (w_fi w2 (n_v vs 0) 79) (w_ei w2 (w_ar ws (n_v vs 0) 90)) (w_ei w2 (w_ar ws (n_v vs 0) 82)) (w_ei w2 (w_ar ws (n_v vs 0) 83)) (w_ei w2 (w_ar ws (n_v vs 0) 84)) (w_ei w2 (w_ar ws (n_v vs 0) 85)) (w_ei w2 (w_ar ws (n_v vs 0) 86)) (w_ei w2 (w_ar ws (n_v vs 0) 87)) (w_ei w2 (w_ar ws (n_v vs 0) 88)) (w_ei w2 (w_ar ws (n_v vs 0) 89)) (w_fi w2 (n_v vs 0) 80) (w_fi w2 (n_v vs 0) 81) (w_ei w2 (w_ar ws (n_v vs 0) 91)) (w_ei ws (w_ar ws (n_v vs 0) 91)) (w_ei w1 (w_ar ws (n_v vs 0) 91)) (w_ei w1 (w_ar ws (n_v vs 0) 92)) (w_ei w2 (w_ar ws (n_v vs 0) 92)) k1 k2 k9 f24 f33 fe_0_79_1 fe_0_80_1 fe_0_81_1 fe_0_79_2 fe_0_80_2 fe_0_81_2 hE_0_82_1 hE_0_82_2 hE_0_83_1 hE_0_83_2 hE_0_84_1 hE_0_84_2 hE_0_85_1 hE_0_85_2 hE_0_86_1 hE_0_86_2 hE_0_87_1 hE_0_87_2 hE_0_88_1 hE_0_88_2 hE_0_89_1 hE_0_89_2 hE_0_90_1 hE_0_90_2 hE_0_91_1 hE_0_91_2 hE_0_92_2 kz_0_79 kz_0_80 kz_0_81
  have nf9 : fc_1 PRD (20, [5, 6, 7, 12], [60, 0, 2, 392, 92, 91]) ws (vs ++ [Value.int x]) := by
    refine ⟨nf_inA hl rfl, sgq_951 ?_⟩
    · show AU1 (w_ei ws (w_ar ws (n_v (vs ++ [Value.int x]) 5) 92)) (w_ei ws (w_ar ws (n_v (vs ++ [Value.int x]) 5) 91)) (v_iv (n_v (vs ++ [Value.int x]) 6)) (v_iv (n_v (vs ++ [Value.int x]) 7)) (v_iv (n_v (vs ++ [Value.int x]) 12))
      simp only [e_5, e_6, e_7, e_12, q5, q6, q7]
      exact vc_Mo_augment_1_9 (v_iv (n_v vs 1)) (v_iv (n_v vs 2)) (v_iv (n_v vs 3)) (v_iv (n_v vs 6)) (v_iv (n_v vs 7)) (v_iv (n_v vs 8)) (v_iv (n_v vs 9)) (v_iv (n_v vs 12)) (v_iv (n_v vs 14)) (w_fi ws (n_v vs 0) 79) (w_ei ws (w_ar ws (n_v vs 0) 90)) (w_ei ws (w_ar ws (n_v vs 0) 82)) (w_ei ws (w_ar ws (n_v vs 0) 83)) (w_ei ws (w_ar ws (n_v vs 0) 84)) (w_ei ws (w_ar ws (n_v vs 0) 85)) (w_ei ws (w_ar ws (n_v vs 0) 86)) (w_ei ws (w_ar ws (n_v vs 0) 87)) (w_ei ws (w_ar ws (n_v vs 0) 88)) (w_ei ws (w_ar ws (n_v vs 0) 89)) (w_fi ws (n_v vs 0) 80) (w_fi ws (n_v vs 0) 81) (w_fi w1 (n_v vs 0) 79) (w_ei w1 (w_ar ws (n_v vs 0) 90)) (w_ei w1 (w_ar ws (n_v vs 0) 82)) (w_ei w1 (w_ar ws (n_v vs 0) 83)) (w_ei w1 (w_ar ws (n_v vs 0) 84)) (w_ei w1 (w_ar ws (n_v vs 0) 85)) (w_ei w1 (w_ar ws (n_v vs 0) 86)) (w_ei w1 (w_ar ws (n_v vs 0) 87)) (w_ei w1 (w_ar ws (n_v vs 0) 88)) (w_ei w1 (w_ar ws (n_v vs 0) 89)) (w_fi w1 (n_v vs 0) 80) (w_fi w1 (n_v vs 0) 81) (w_fi w2 (n_v vs 0) 79) (w_ei w2 (w_ar ws (n_v vs 0) 90)) (w_ei w2 (w_ar ws (n_v vs 0) 82)) (w_ei w2 (w_ar ws (n_v vs 0) 83)) (w_ei w2 (w_ar ws (n_v vs 0) 84)) (w_ei w2 (w_ar ws (n_v vs 0) 85)) (w_ei w2 (w_ar ws (n_v vs 0) 86)) (w_ei w2 (w_ar ws (n_v vs 0) 87)) (w_ei w2 (w_ar ws (n_v vs 0) 88)) (w_ei w2 (w_ar ws (n_v vs 0) 89)) (w_fi w2 (n_v vs 0) 80) (w_fi w2 (n_v vs 0) 81) (w_ei w2 (w_ar ws (n_v vs 0) 91)) (w_ei ws (w_ar ws (n_v vs 0) 91)) (w_ei w1 (w_ar ws (n_v vs 0) 91)) (w_ei ws (w_ar ws (n_v vs 0) 92)) (w_ei w1 (w_ar ws (n_v vs 0) 92)) (w_ei w2 (w_ar ws (n_v vs 0) 92)) k1 k2 k3 k6 k7 k8 k9 k12 k14 d0 d1 d2 d3 d4 d5 d6 d7 f3 f4 f5 f24 f27 f33 fe_0_79_1 fe_0_80_1 fe_0_81_1 fe_0_79_2 fe_0_80_2 fe_0_81_2 hE_0_82_1 hE_0_82_2 hE_0_83_1 hE_0_83_2 hE_0_84_1 hE_0_84_2 hE_0_85_1 hE_0_85_2 hE_0_86_1 hE_0_86_2 hE_0_87_1 hE_0_87_2 hE_0_88_1 hE_0_88_2 hE_0_89_1 hE_0_89_2 hE_0_90_1 hE_0_90_2 hE_0_91_1 hE_0_91_2 hE_0_92_1 hE_0_92_2 kz_0_79 kz_0_80 kz_0_81
  have nf10 : fc_1 PRD (23, [11, 15], [-78, -1, -1]) ws (vs ++ [Value.int x]) := by
    refine ⟨nf_inA hl rfl, sgq_952 ?_⟩
    · show (-1) * v_iv (n_v (vs ++ [Value.int x]) 11) + ((-1) * v_iv (n_v (vs ++ [Value.int x]) 15) + 0) ≤ (-78)
      simp only [e_11, e_15]
      exact vc_Mo_augment_1_10 (v_iv (n_v vs 11)) (w_fi ws (n_v vs 0) 79) (w_ei ws (w_ar ws (n_v vs 0) 90)) (w_ei ws (w_ar ws (n_v vs 0) 82)) (w_ei ws (w_ar ws (n_v vs 0) 83)) (w_ei ws (w_ar ws (n_v vs 0) 84)) (w_ei ws (w_ar ws (n_v vs 0) 85)) (w_ei ws (w_ar ws (n_v vs 0) 86)) (w_ei ws (w_ar ws (n_v vs 0) 87)) (w_ei ws (w_ar ws (n_v vs 0) 88)) (w_ei ws (w_ar ws (n_v vs 0) 89)) (w_fi ws (n_v vs 0) 80) (w_fi ws (n_v vs 0) 81) (w_fi w1 (n_v vs 0) 79) (w_ei w1 (w_ar ws (n_v vs 0) 90)) (w_ei w1 (w_ar ws (n_v vs 0) 82)) (w_ei w1 (w_ar ws (n_v vs 0) 83)) (w_ei w1 (w_ar ws (n_v vs 0) 84)) (w_ei w1 (w_ar ws (n_v vs 0) 85)) (w_ei w1 (w_ar ws (n_v vs 0) 86)) (w_ei w1 (w_ar ws (n_v vs 0) 87)) (w_ei w1 (w_ar ws (n_v vs 0) 88)) (w_ei w1 (w_ar ws (n_v vs 0) 89)) (w_fi w1 (n_v vs 0) 80) (w_fi w1 (n_v vs 0) 81) (w_fi w2 (n_v vs 0) 79) (w_ei w2 (w_ar ws (n_v vs 0) 90)) (w_ei w2 (w_ar ws (n_v vs 0) 82)) (w_ei w2 (w_ar ws (n_v vs 0) 83)) (w_ei w2 (w_ar ws (n_v vs 0) 84)) (w_ei w2 (w_ar ws (n_v vs 0) 85)) (w_ei w2 (w_ar ws (n_v vs 0) 86)) (w_ei w2 (w_ar ws (n_v vs 0) 87)) (w_ei w2 (w_ar ws (n_v vs 0) 88)) (w_ei w2 (w_ar ws (n_v vs 0) 89)) (w_fi w2 (n_v vs 0) 80) (w_fi w2 (n_v vs 0) 81) (w_ei ws (w_ar ws (n_v vs 0) 91)) (w_ei w1 (w_ar ws (n_v vs 0) 91)) (w_ei w1 (w_ar ws (n_v vs 0) 92)) (w_ei w2 (w_ar ws (n_v vs 0) 92)) (v_iv (Value.int x)) k11 fe_0_79_1 fe_0_80_1 fe_0_81_1 fe_0_79_2 fe_0_80_2 fe_0_81_2 hE_0_82_1 hE_0_82_2 hE_0_83_1 hE_0_83_2 hE_0_84_1 hE_0_84_2 hE_0_85_1 hE_0_85_2 hE_0_86_1 hE_0_86_2 hE_0_87_1 hE_0_87_2 hE_0_88_1 hE_0_88_2 hE_0_89_1 hE_0_89_2 hE_0_90_1 hE_0_90_2 hE_0_91_1 hE_0_92_2 kz_0_79 kz_0_80 kz_0_81 ex2
  have nf11 : fc_1 PRD (20, [5, 6, 11], [60, 0, 3, 402, 90, 92, 91]) ws (vs ++ [Value.int x]) := by
    refine ⟨nf_inA hl rfl, sgq_953 ?_⟩
    · show BF1 (w_ei ws (w_ar ws (n_v (vs ++ [Value.int x]) 5) 90)) (w_ei ws (w_ar ws (n_v (vs ++ [Value.int x]) 5) 92)) (w_ei ws (w_ar ws (n_v (vs ++ [Value.int x]) 5) 91)) (v_iv (n_v (vs ++ [Value.int x]) 6)) (v_iv (n_v (vs ++ [Value.int x]) 11))
      simp only [e_5, e_6, e_11, q5, q6]
      exact vc_Mo_augment_1_11 (v_iv (n_v vs 1)) (v_iv (n_v vs 11)) (w_fi ws (n_v vs 0) 79) (w_ei ws (w_ar ws (n_v vs 0) 90)) (w_ei ws (w_ar ws (n_v vs 0) 82)) (w_ei ws (w_ar ws (n_v vs 0) 83)) (w_ei ws (w_ar ws (n_v vs 0) 84)) (w_ei ws (w_ar ws (n_v vs 0) 85)) (w_ei ws (w_ar ws (n_v vs 0) 86)) (w_ei ws (w_ar ws (n_v vs 0) 87)) (w_ei ws (w_ar ws (n_v vs 0) 88)) (w_ei ws (w_ar ws (n_v vs 0) 89)) (w_fi ws (n_v vs 0) 80) (w_fi ws (n_v vs 0) 81) (w_fi w1 (n_v vs 0) 79) (w_ei w1 (w_ar ws (n_v vs 0) 90)) (w_ei w1 (w_ar ws (n_v vs 0) 82)) (w_ei w1 (w_ar ws (n_v vs 0) 83)) (w_ei w1 (w_ar ws (n_v vs 0) 84)) (w_ei w1 (w_ar ws (n_v vs 0) 85)) (w_ei w1 (w_ar ws (n_v vs 0) 86)) (w_ei w1 (w_ar ws (n_v vs 0) 87)) (w_ei w1 (w_ar ws (n_v vs 0) 88)) (w_ei w1 (w_ar ws (n_v vs 0) 89)) (w_fi w1 (n_v vs 0) 80) (w_fi w1 (n_v vs 0) 81) (w_fi w2 (n_v vs 0) 79) (w_ei w2 (w_ar ws (n_v vs 0) 90)) (w_ei w2 (w_ar ws (n_v vs 0) 82)) (w_ei w2 (w_ar ws (n_v vs 0) 83)) (w_ei w2 (w_ar ws (n_v vs 0) 84)) (w_ei w2 (w_ar ws (n_v vs 0) 85)) (w_ei w2 (w_ar ws (n_v vs 0) 86)) (w_ei w2 (w_ar ws (n_v vs 0) 87)) (w_ei w2 (w_ar ws (n_v vs 0) 88)) (w_ei w2 (w_ar ws (n_v vs 0) 89)) (w_fi w2 (n_v vs 0) 80) (w_fi w2 (n_v vs 0) 81) (w_ei ws (w_ar ws (n_v vs 0) 91)) (w_ei w1 (w_ar ws (n_v vs 0) 91)) (w_ei ws (w_ar ws (n_v vs 0) 92)) (w_ei w1 (w_ar ws (n_v vs 0) 92)) (w_ei w2 (w_ar ws (n_v vs 0) 92)) k1 k11 fe_0_79_1 fe_0_80_1 fe_0_81_1 fe_0_79_2 fe_0_80_2 fe_0_81_2 hE_0_82_1 hE_0_82_2 hE_0_83_1 hE_0_83_2 hE_0_84_1 hE_0_84_2 hE_0_85_1 hE_0_85_2 hE_0_86_1 hE_0_86_2 hE_0_87_1 hE_0_87_2 hE_0_88_1 hE_0_88_2 hE_0_89_1 hE_0_89_2 hE_0_90_1 hE_0_90_2 hE_0_91_1 hE_0_92_2 kz_0_79 kz_0_80 kz_0_81
  have nf12 : fc_1 PRD (24, [0, 5], []) ws (vs ++ [Value.int x]) := by
    refine ⟨nf_inA hl rfl, sgq_5 ?_⟩
    · show n_v (vs ++ [Value.int x]) 0 = n_v (vs ++ [Value.int x]) 5
      first | rfl | simp only [e_0, e_5, q5, q6, q7, q8]
  have nf13 : fc_1 PRD (24, [1, 6], []) ws (vs ++ [Value.int x]) := by
    refine ⟨nf_inA hl rfl, sgq_5 ?_⟩
    · show n_v (vs ++ [Value.int x]) 1 = n_v (vs ++ [Value.int x]) 6
      first | rfl | simp only [e_1, e_6, q5, q6, q7, q8]
  have nf14 : fc_1 PRD (24, [2, 7], []) ws (vs ++ [Value.int x]) := by
    refine ⟨nf_inA hl rfl, sgq_5 ?_⟩
    · show n_v (vs ++ [Value.int x]) 2 = n_v (vs ++ [Value.int x]) 7
      first | rfl | simp only [e_2, e_7, q5, q6, q7, q8]
  have nf15 : fc_1 PRD (24, [3, 8], []) ws (vs ++ [Value.int x]) := by
    refine ⟨nf_inA hl rfl, sgq_5 ?_⟩
    · show n_v (vs ++ [Value.int x]) 3 = n_v (vs ++ [Value.int x]) 8
      first | rfl | simp only [e_3, e_8, q5, q6, q7, q8]
  exact ⟨(fun _ h => (by cases h)), [Value.int x], ag_one hx, List.forall_mem_cons.mpr ⟨⟨show (20 : Nat) < 100 from by decide, nf0⟩, List.forall_mem_cons.mpr ⟨⟨show (20 : Nat) < 100 from by decide, nf1⟩, List.forall_mem_cons.mpr ⟨⟨show (20 : Nat) < 100 from by decide, nf2⟩, List.forall_mem_cons.mpr ⟨⟨show (20 : Nat) < 100 from by decide, nf3⟩, List.forall_mem_cons.mpr ⟨⟨show (20 : Nat) < 100 from by decide, nf4⟩, List.forall_mem_cons.mpr ⟨⟨show (20 : Nat) < 100 from by decide, nf5⟩, List.forall_mem_cons.mpr ⟨⟨show (20 : Nat) < 100 from by decide, nf6⟩, List.forall_mem_cons.mpr ⟨⟨show (20 : Nat) < 100 from by decide, nf7⟩, List.forall_mem_cons.mpr ⟨⟨show (20 : Nat) < 100 from by decide, nf8⟩, List.forall_mem_cons.mpr ⟨⟨show (20 : Nat) < 100 from by decide, nf9⟩, List.forall_mem_cons.mpr ⟨⟨show (23 : Nat) < 100 from by decide, nf10⟩, List.forall_mem_cons.mpr ⟨⟨show (20 : Nat) < 100 from by decide, nf11⟩, List.forall_mem_cons.mpr ⟨⟨show (24 : Nat) < 100 from by decide, nf12⟩, List.forall_mem_cons.mpr ⟨⟨show (24 : Nat) < 100 from by decide, nf13⟩, List.forall_mem_cons.mpr ⟨⟨show (24 : Nat) < 100 from by decide, nf14⟩, List.forall_mem_cons.mpr ⟨⟨show (24 : Nat) < 100 from by decide, nf15⟩, (fun _ h => (by cases h))⟩⟩⟩⟩⟩⟩⟩⟩⟩⟩⟩⟩⟩⟩⟩⟩, (fun _ h => (by cases h))⟩
set_option maxHeartbeats 4000000 in
theorem vc_Mo_augment_2_0 (x9 : Int) (x11 : Int) (x12 : Int) (pointMany_0 : Int) (flow_0 : Int → Int) (spot_0 : Int → Int) (costA_0 : Int → Int) (costB_0 : Int → Int) (costW_0 : Int → Int) (costPlain_0 : Int → Int) (apartA_0 : Int → Int) (apartB_0 : Int → Int) (apart_0 : Int → Int) (costMany_0 : Int) (apartMany_0 : Int) (pointMany_1 : Int) (flow_1 : Int → Int) (spot_1 : Int → Int) (costA_1 : Int → Int) (costB_1 : Int → Int) (costW_1 : Int → Int) (costPlain_1 : Int → Int) (apartA_1 : Int → Int) (apartB_1 : Int → Int) (apart_1 : Int → Int) (costMany_1 : Int) (apartMany_1 : Int) (cameBy_1 : Int → Int) (cameBy_0 : Int → Int) (k9 : 0 ≤ x9 ∧ x9 ≤ 77) (k11 : (-1) ≤ x11 ∧ x11 ≤ (-1)) (k12 : 1 ≤ x12 ∧ x12 ≤ 78) (f0 : x12 = x9 + 1) (f24 : AU0 (cameBy_1) (x9)) (fe_0_79_1 : pointMany_0 = pointMany_1) (fe_0_80_1 : costMany_0 = costMany_1) (fe_0_81_1 : apartMany_0 = apartMany_1) (hE_0_82_1 : ∀ j : Int, spot_0 j = spot_1 j) (hE_0_83_1 : ∀ j : Int, costA_0 j = costA_1 j) (hE_0_84_1 : ∀ j : Int, costB_0 j = costB_1 j) (hE_0_85_1 : ∀ j : Int, costW_0 j = costW_1 j) (hE_0_86_1 : ∀ j : Int, costPlain_0 j = costPlain_1 j) (hE_0_87_1 : ∀ j : Int, apartA_0 j = apartA_1 j) (hE_0_88_1 : ∀ j : Int, apartB_0 j = apartB_1 j) (hE_0_89_1 : ∀ j : Int, apart_0 j = apart_1 j) (hE_0_90_1 : ∀ j : Int, flow_0 j = flow_1 j) (hE_0_91_1 : ∀ j : Int, 0 ≤ j → (j = x9 → cameBy_0 j = x11) ∧ (j ≠ x9 → cameBy_0 j = cameBy_1 j)) (kz_0_79 : 0 ≤ pointMany_0 ∧ pointMany_0 ≤ 76) (kz_0_80 : 0 ≤ costMany_0 ∧ costMany_0 ≤ 200) (kz_0_81 : 0 ≤ apartMany_0 ∧ apartMany_0 ≤ 200) : AU0 (cameBy_0) (x12) := by
  subst fe_0_79_1
  subst fe_0_80_1
  subst fe_0_81_1
  have e_hE_0_82_1 := funext hE_0_82_1; subst e_hE_0_82_1
  have e_hE_0_83_1 := funext hE_0_83_1; subst e_hE_0_83_1
  have e_hE_0_84_1 := funext hE_0_84_1; subst e_hE_0_84_1
  have e_hE_0_85_1 := funext hE_0_85_1; subst e_hE_0_85_1
  have e_hE_0_86_1 := funext hE_0_86_1; subst e_hE_0_86_1
  have e_hE_0_87_1 := funext hE_0_87_1; subst e_hE_0_87_1
  have e_hE_0_88_1 := funext hE_0_88_1; subst e_hE_0_88_1
  have e_hE_0_89_1 := funext hE_0_89_1; subst e_hE_0_89_1
  have e_hE_0_90_1 := funext hE_0_90_1; subst e_hE_0_90_1
  first
    | (intro v a b; exfalso; omega)
    | exact au0_step ‹AU0 _ _› (by omega) (by assumption) (by omega) (by omega)
def o_Mo_augment_2 : or_T := (3, 13, [(0, (2, 0, 0, [165])), (9, (0, 0, 77, [])), (10, (2, 0, 0, [228])), (11, (0, -1, -1, [])), (12, (0, 1, 78, []))], [(6, [12, 9], [1]), (24, [0, 5], []), (100, [10, 9, 11], []), (9, [10, 5], [91]), (20, [5, 9], [60, 0, 1, 391, 91])], [], [], [(20, [5, 12], [60, 0, 1, 391, 91])], [], [(12, 9, 1, 1), (9, 6, -4294967296, -1), (9, 1, -4294967296, 0), (9, 6, -4294967296, 0)])
theorem oo_Mo_augment_2 {kA : Nat → ClassId} : or_ok PRD kA GG o_Mo_augment_2 := by
  refine or_mk fun A ta ws vs hD hth hl => ?_
  intro t0 r0 t9 k9 t10 r10 t11 k11 t12 k12 d0 d4 d11 d12 f0 f9 ta1 w1 le1 s1 f14 f24
  replace f0 := shm_4 f0
  replace f9 := shm_5 f9
  have s1 : (∀ b j, w_el ws b j = if b = v_ad (n_v vs 10) ∧ j = (v_iv (n_v vs 9)).toNat then v_iv (n_v vs 11) else w_el w1 b j) ∧ ∀ b k, w_fd ws b k = w_fd w1 b k := s1.2
  replace f14 := shm_949 f14
  replace f24 := shm_947 f24
  have q5 : n_v vs 5 = n_v vs 0 := f9.symm
  simp only [q5] at f14 f24
  have ar_0_82_1 : w_ar w1 (n_v vs 0) 82 = w_ar ws (n_v vs 0) 82 := congrArg v_ad (s1.2 _ _).symm
  have cr_0_82 := fdq_230 hD hth r0
  have ar_0_83_1 : w_ar w1 (n_v vs 0) 83 = w_ar ws (n_v vs 0) 83 := congrArg v_ad (s1.2 _ _).symm
  have cr_0_83 := fdq_126 hD hth r0
  have ar_0_84_1 : w_ar w1 (n_v vs 0) 84 = w_ar ws (n_v vs 0) 84 := congrArg v_ad (s1.2 _ _).symm
  have cr_0_84 := fdq_127 hD hth r0
  have ar_0_85_1 : w_ar w1 (n_v vs 0) 85 = w_ar ws (n_v vs 0) 85 := congrArg v_ad (s1.2 _ _).symm
  have cr_0_85 := fdq_128 hD hth r0
  have ar_0_86_1 : w_ar w1 (n_v vs 0) 86 = w_ar ws (n_v vs 0) 86 := congrArg v_ad (s1.2 _ _).symm
  have cr_0_86 := fdq_129 hD hth r0
  have ar_0_87_1 : w_ar w1 (n_v vs 0) 87 = w_ar ws (n_v vs 0) 87 := congrArg v_ad (s1.2 _ _).symm
  have cr_0_87 := fdq_119 hD hth r0
  have ar_0_88_1 : w_ar w1 (n_v vs 0) 88 = w_ar ws (n_v vs 0) 88 := congrArg v_ad (s1.2 _ _).symm
  have cr_0_88 := fdq_120 hD hth r0
  have ar_0_89_1 : w_ar w1 (n_v vs 0) 89 = w_ar ws (n_v vs 0) 89 := congrArg v_ad (s1.2 _ _).symm
  have cr_0_89 := fdq_121 hD hth r0
  have ar_0_90_1 : w_ar w1 (n_v vs 0) 90 = w_ar ws (n_v vs 0) 90 := congrArg v_ad (s1.2 _ _).symm
  have cr_0_90 := fdq_231 hD hth r0
  have ar_0_91_1 : w_ar w1 (n_v vs 0) 91 = w_ar ws (n_v vs 0) 91 := congrArg v_ad (s1.2 _ _).symm
  have ad_10 : v_ad (n_v vs 10) = w_ar ws (n_v vs 0) 91 := (congrArg v_ad f14).trans ar_0_91_1
  simp only [ar_0_82_1, ar_0_83_1, ar_0_84_1, ar_0_85_1, ar_0_86_1, ar_0_87_1, ar_0_88_1, ar_0_89_1, ar_0_90_1, ar_0_91_1] at f24
  have fe_0_79_1 : w_fi ws (n_v vs 0) 79 = w_fi w1 (n_v vs 0) 79 := congrArg v_iv (s1.2 _ _)
  have fe_0_80_1 : w_fi ws (n_v vs 0) 80 = w_fi w1 (n_v vs 0) 80 := congrArg v_iv (s1.2 _ _)
  have fe_0_81_1 : w_fi ws (n_v vs 0) 81 = w_fi w1 (n_v vs 0) 81 := congrArg v_iv (s1.2 _ _)
  have hE_0_82_1 : ∀ j : Int, w_ei ws (w_ar ws (n_v vs 0) 82) j = w_ei w1 (w_ar ws (n_v vs 0) 82) j := el_kp s1.1 r10 cr_0_82 (by decide)
  have hE_0_83_1 : ∀ j : Int, w_ei ws (w_ar ws (n_v vs 0) 83) j = w_ei w1 (w_ar ws (n_v vs 0) 83) j := el_kp s1.1 r10 cr_0_83 (by decide)
  have hE_0_84_1 : ∀ j : Int, w_ei ws (w_ar ws (n_v vs 0) 84) j = w_ei w1 (w_ar ws (n_v vs 0) 84) j := el_kp s1.1 r10 cr_0_84 (by decide)
  have hE_0_85_1 : ∀ j : Int, w_ei ws (w_ar ws (n_v vs 0) 85) j = w_ei w1 (w_ar ws (n_v vs 0) 85) j := el_kp s1.1 r10 cr_0_85 (by decide)
  have hE_0_86_1 : ∀ j : Int, w_ei ws (w_ar ws (n_v vs 0) 86) j = w_ei w1 (w_ar ws (n_v vs 0) 86) j := el_kp s1.1 r10 cr_0_86 (by decide)
  have hE_0_87_1 : ∀ j : Int, w_ei ws (w_ar ws (n_v vs 0) 87) j = w_ei w1 (w_ar ws (n_v vs 0) 87) j := el_kp s1.1 r10 cr_0_87 (by decide)
  have hE_0_88_1 : ∀ j : Int, w_ei ws (w_ar ws (n_v vs 0) 88) j = w_ei w1 (w_ar ws (n_v vs 0) 88) j := el_kp s1.1 r10 cr_0_88 (by decide)
  have hE_0_89_1 : ∀ j : Int, w_ei ws (w_ar ws (n_v vs 0) 89) j = w_ei w1 (w_ar ws (n_v vs 0) 89) j := el_kp s1.1 r10 cr_0_89 (by decide)
  have hE_0_90_1 : ∀ j : Int, w_ei ws (w_ar ws (n_v vs 0) 90) j = w_ei w1 (w_ar ws (n_v vs 0) 90) j := el_kp s1.1 r10 cr_0_90 (by decide)
  have hE_0_91_1 : ∀ j : Int, 0 ≤ j → (j = v_iv (n_v vs 9) → w_ei ws (w_ar ws (n_v vs 0) 91) j = v_iv (n_v vs 11)) ∧ (j ≠ v_iv (n_v vs 9) → w_ei ws (w_ar ws (n_v vs 0) 91) j = w_ei w1 (w_ar ws (n_v vs 0) 91) j) := fun j hj => ⟨fun h => by unfold w_ei; rw [s1.1, if_pos ⟨ad_10.symm, by rw [h]⟩], fun h => by unfold w_ei; rw [s1.1, if_neg (fun e => h (by have := e.2; omega))]⟩
  have kz_0_79 := fdq_147 hD hth r0
  have kz_0_80 := fdq_131 hD hth r0
  have kz_0_81 := fdq_124 hD hth r0
  have nf0 : fc_1 PRD (20, [5, 12], [60, 0, 1, 391, 91]) ws (vs) := by
    refine ⟨nf_in hl rfl, sgq_947 ?_⟩
    · show AU0 (w_ei ws (w_ar ws (n_v vs 5) 91)) (v_iv (n_v vs 12))
      rw [q5]
      exact vc_Mo_augment_2_0 (v_iv (n_v vs 9)) (v_iv (n_v vs 11)) (v_iv (n_v vs 12)) (w_fi ws (n_v vs 0) 79) (w_ei ws (w_ar ws (n_v vs 0) 90)) (w_ei ws (w_ar ws (n_v vs 0) 82)) (w_ei ws (w_ar ws (n_v vs 0) 83)) (w_ei ws (w_ar ws (n_v vs 0) 84)) (w_ei ws (w_ar ws (n_v vs 0) 85)) (w_ei ws (w_ar ws (n_v vs 0) 86)) (w_ei ws (w_ar ws (n_v vs 0) 87)) (w_ei ws (w_ar ws (n_v vs 0) 88)) (w_ei ws (w_ar ws (n_v vs 0) 89)) (w_fi ws (n_v vs 0) 80) (w_fi ws (n_v vs 0) 81) (w_fi w1 (n_v vs 0) 79) (w_ei w1 (w_ar ws (n_v vs 0) 90)) (w_ei w1 (w_ar ws (n_v vs 0) 82)) (w_ei w1 (w_ar ws (n_v vs 0) 83)) (w_ei w1 (w_ar ws (n_v vs 0) 84)) (w_ei w1 (w_ar ws (n_v vs 0) 85)) (w_ei w1 (w_ar ws (n_v vs 0) 86)) (w_ei w1 (w_ar ws (n_v vs 0) 87)) (w_ei w1 (w_ar ws (n_v vs 0) 88)) (w_ei w1 (w_ar ws (n_v vs 0) 89)) (w_fi w1 (n_v vs 0) 80) (w_fi w1 (n_v vs 0) 81) (w_ei w1 (w_ar ws (n_v vs 0) 91)) (w_ei ws (w_ar ws (n_v vs 0) 91)) k9 k11 k12 f0 f24 fe_0_79_1 fe_0_80_1 fe_0_81_1 hE_0_82_1 hE_0_83_1 hE_0_84_1 hE_0_85_1 hE_0_86_1 hE_0_87_1 hE_0_88_1 hE_0_89_1 hE_0_90_1 hE_0_91_1 kz_0_79 kz_0_80 kz_0_81
  refine ⟨(fun _ h => (by cases h)), [], trivial, ?_, (fun _ h => (by cases h))⟩
  rw [List.append_nil]
  exact List.forall_mem_cons.mpr ⟨⟨show (20 : Nat) < 100 from by decide, nf0⟩, (fun _ h => (by cases h))⟩
set_option maxHeartbeats 4000000 in
theorem vc_Mo_augment_3_0 (x1 : Int) (x2 : Int) (k1 : 2 ≤ x1 ∧ x1 ≤ 78) (k2 : 0 ≤ x2 ∧ x2 ≤ 76) (f4 : (x2 + 1) ≤ x1) : (x2 + 1) ≤ x1 := by
  first
    | omega
    | (have h := au1_len ‹AU1 _ _ _ _ _›; omega)
set_option maxHeartbeats 4000000 in
theorem vc_Mo_augment_3_1 (x1 : Int) (x3 : Int) (k1 : 2 ≤ x1 ∧ x1 ≤ 78) (k3 : 1 ≤ x3 ∧ x3 ≤ 77) (f5 : (x3 + 1) ≤ x1) : (x3 + 1) ≤ x1 := by
  first
    | omega
    | (have h := au1_len ‹AU1 _ _ _ _ _›; omega)
set_option maxHeartbeats 4000000 in
theorem vc_Mo_augment_3_2 (x1 : Int) (k1 : 2 ≤ x1 ∧ x1 ≤ 78) (f6 : x1 ≤ 78) : x1 ≤ 78 := by
  first
    | omega
    | (have h := au1_len ‹AU1 _ _ _ _ _›; omega)
set_option maxHeartbeats 4000000 in
theorem vc_Mo_augment_3_3 (x1 : Int) (pointMany_0 : Int) (k1 : 2 ≤ x1 ∧ x1 ≤ 78) (f7 : x1 = (pointMany_0 + 2)) (kz_0_79 : 0 ≤ pointMany_0 ∧ pointMany_0 ≤ 76) : x1 = (pointMany_0 + 2) := by
  first
    | omega
    | (have h := au1_len ‹AU1 _ _ _ _ _›; omega)
set_option maxHeartbeats 4000000 in
theorem vc_Mo_augment_3_4 (x2 : Int) (pointMany_0 : Int) (k2 : 0 ≤ x2 ∧ x2 ≤ 76) (f8 : x2 = pointMany_0) (kz_0_79 : 0 ≤ pointMany_0 ∧ pointMany_0 ≤ 76) : x2 = pointMany_0 := by
  first
    | omega
    | (have h := au1_len ‹AU1 _ _ _ _ _›; omega)
set_option maxHeartbeats 4000000 in
theorem vc_Mo_augment_3_5 (x3 : Int) (pointMany_0 : Int) (k3 : 1 ≤ x3 ∧ x3 ≤ 77) (f9 : x3 = (pointMany_0 + 1)) (kz_0_79 : 0 ≤ pointMany_0 ∧ pointMany_0 ≤ 76) : x3 = (pointMany_0 + 1) := by
  first
    | omega
    | (have h := au1_len ‹AU1 _ _ _ _ _›; omega)
set_option maxHeartbeats 4000000 in
theorem vc_Mo_augment_3_6 (pointMany_0 : Int) (flow_0 : Int → Int) (spot_0 : Int → Int) (costA_0 : Int → Int) (costB_0 : Int → Int) (costW_0 : Int → Int) (costPlain_0 : Int → Int) (apartA_0 : Int → Int) (apartB_0 : Int → Int) (apart_0 : Int → Int) (costMany_0 : Int) (apartMany_0 : Int) (f10 : FLO (pointMany_0) (costMany_0) (apartMany_0) (flow_0) (spot_0) (costA_0) (costB_0) (costW_0) (costPlain_0) (apartA_0) (apartB_0) (apart_0)) (kz_0_79 : 0 ≤ pointMany_0 ∧ pointMany_0 ≤ 76) (kz_0_80 : 0 ≤ costMany_0 ∧ costMany_0 ≤ 200) (kz_0_81 : 0 ≤ apartMany_0 ∧ apartMany_0 ≤ 200) : FLO (pointMany_0) (costMany_0) (apartMany_0) (flow_0) (spot_0) (costA_0) (costB_0) (costW_0) (costPlain_0) (apartA_0) (apartB_0) (apart_0) := by
  first
    | assumption
    | exact (psh_end ‹PSH _ _ _ _ _ _ _ _ _ _ _ _ _ _ _ _› (by omega)).1
set_option maxHeartbeats 4000000 in
theorem vc_Mo_augment_3_7 (x4 : Int) (pointMany_0 : Int) (flow_0 : Int → Int) (k4 : (-2) ≤ x4 ∧ x4 ≤ 180000001) (f11 : XLE (pointMany_0) (flow_0) (x4)) (kz_0_79 : 0 ≤ pointMany_0 ∧ pointMany_0 ≤ 76) : XLE (pointMany_0) (flow_0) (x4) := by
  assumption
set_option maxHeartbeats 4000000 in
theorem vc_Mo_augment_3_8 (x1 : Int) (x2 : Int) (cameBy_0 : Int → Int) (flow_0 : Int → Int) (k1 : 2 ≤ x1 ∧ x1 ≤ 78) (k2 : 0 ≤ x2 ∧ x2 ≤ 76) (f12 : FPT (flow_0) (cameBy_0) (x1) (x2)) : FPT (flow_0) (cameBy_0) (x1) (x2) := by
  first
    | assumption
    | exact fpt_start ‹AU0 _ _› (by omega) (by assumption) (by omega)
    | exact fpt_step2 ‹FPT _ _ _ _› (by assumption) rfl (by assumption) (by assumption) (by assumption) (by assumption) (by omega)
set_option maxHeartbeats 4000000 in
theorem vc_Mo_augment_3_9 (x1 : Int) (x2 : Int) (x3 : Int) (x14 : Int) (cameBy_0 : Int → Int) (flow_0 : Int → Int) (k1 : 2 ≤ x1 ∧ x1 ≤ 78) (k2 : 0 ≤ x2 ∧ x2 ≤ 76) (k3 : 1 ≤ x3 ∧ x3 ≤ 77) (k14 : 1000000 ≤ x14 ∧ x14 ≤ 1000000) : MN1 (flow_0) (cameBy_0) (x1) (x2) (x3) (x3) (x14) := by
  first
    | assumption
    | exact mn1_start (by omega) (by omega)
set_option maxHeartbeats 4000000 in
theorem vc_Mo_augment_3_10 (x1 : Int) (x2 : Int) (x3 : Int) (x6 : Int) (x8 : Int) (x10 : Int) (x13 : Int) (cameBy_0 : Int → Int) (pointMany_0 : Int) (queue_0 : Int → Int) (gx : Int) (k1 : 2 ≤ x1 ∧ x1 ≤ 78) (k2 : 0 ≤ x2 ∧ x2 ≤ 76) (k3 : 1 ≤ x3 ∧ x3 ≤ 77) (k6 : 2 ≤ x6 ∧ x6 ≤ 78) (k8 : 1 ≤ x8 ∧ x8 ≤ 77) (k10 : 1 ≤ x10 ∧ x10 ≤ 78) (k13 : 0 ≤ x13 ∧ x13 ≤ 77) (d1 : x6 + (-4294967296) ≤ x1 ∧ x1 ≤ x6 + 0) (d3 : x8 + (-4294967296) ≤ x3 ∧ x3 ≤ x8 + 0) (d4 : x1 + (-4294967296) ≤ x6 ∧ x6 ≤ x1 + 0) (d6 : x3 + (-4294967296) ≤ x8 ∧ x8 ≤ x3 + 0) (h1 : x13 = cameBy_0 (x3)) (f7 : x1 = (pointMany_0 + 2)) (f9 : x3 = (pointMany_0 + 1)) (f13 : AU1 (queue_0) (cameBy_0) (x1) (x2) (x10)) (kz_0_79 : 0 ≤ pointMany_0 ∧ pointMany_0 ≤ 76) (ex2 : gx = 80) : AUW (queue_0) (cameBy_0) (x1) (x2) (x10) (x3) (gx) := by
  first
    | exact auw_start ‹AU1 _ _ _ _ _› (by omega) (by omega) (by omega) (by omega)
    | (rw [show gx = x13 - 1 by omega]; exact ‹AUX _ _ _ _ _ _ _›)
set_option maxHeartbeats 4000000 in
theorem vc_Mo_augment_3_11 (x1 : Int) (x2 : Int) (x3 : Int) (x6 : Int) (x8 : Int) (x10 : Int) (x13 : Int) (cameBy_0 : Int → Int) (pointMany_0 : Int) (queue_0 : Int → Int) (k1 : 2 ≤ x1 ∧ x1 ≤ 78) (k2 : 0 ≤ x2 ∧ x2 ≤ 76) (k3 : 1 ≤ x3 ∧ x3 ≤ 77) (k6 : 2 ≤ x6 ∧ x6 ≤ 78) (k8 : 1 ≤ x8 ∧ x8 ≤ 77) (k10 : 1 ≤ x10 ∧ x10 ≤ 78) (k13 : 0 ≤ x13 ∧ x13 ≤ 77) (d1 : x6 + (-4294967296) ≤ x1 ∧ x1 ≤ x6 + 0) (d3 : x8 + (-4294967296) ≤ x3 ∧ x3 ≤ x8 + 0) (d4 : x1 + (-4294967296) ≤ x6 ∧ x6 ≤ x1 + 0) (d6 : x3 + (-4294967296) ≤ x8 ∧ x8 ≤ x3 + 0) (h1 : x13 = cameBy_0 (x3)) (f7 : x1 = (pointMany_0 + 2)) (f9 : x3 = (pointMany_0 + 1)) (f13 : AU1 (queue_0) (cameBy_0) (x1) (x2) (x10)) (kz_0_79 : 0 ≤ pointMany_0 ∧ pointMany_0 ≤ 76) : AU2 (queue_0) (cameBy_0) (x1) (x2) (x10) (x3) := by
  first
    | assumption
    | exact au2_of ‹AU1 _ _ _ _ _› (by omega) (by omega) (by omega)
def o_Mo_augment_3 : or_T := (148, 15, [(0, (2, 0, 0, [165])), (1, (0, 2, 78, [])), (2, (0, 0, 76, [])), (3, (0, 1, 77, [])), (4, (0, -2, 180000001, [])), (6, (0, 2, 78, [])), (8, (0, 1, 77, [])), (10, (0, 1, 78, [])), (13, (0, 0, 77, [])), (14, (0, 1000000, 1000000, []))], [(10, [13, 12, 8], []), (9, [12, 5], [91]), (20, [7, 6], [50, 0, 0, 0, 6, 4, 2, 1, 0, 0, 1, 1, 1]), (20, [8, 6], [50, 0, 0, 0, 6, 4, 2, 1, 0, 0, 1, 1, 1]), (20, [6], [50, 0, 0, 0, 2, 1, 0, 0, 78]), (20, [6, 5], [50, 1, 0, 1079, 1, 2, 1, 0, 4, 3, 2, 1, 79, 0, 2]), (20, [7, 5], [50, 1, 0, 1079, 1, 2, 1, 0, 2, 1, 79]), (20, [8, 5], [50, 1, 0, 1079, 1, 2, 1, 0, 4, 3, 2, 1, 79, 0, 1]), (20, [5], [60, 3, 9, 397, 79, 80, 81, 90, 82, 83, 84, 85, 86, 87, 88, 89]), (20, [5, 4], [60, 1, 1, 398, 79, 90]), (20, [5, 6, 7], [60, 0, 2, 401, 90, 91]), (20, [5, 6, 7, 10], [60, 0, 2, 392, 92, 91]), (24, [0, 5], []), (24, [1, 6], []), (24, [2, 7], []), (24, [3, 8], [])], [], [(0, -2, 80, [])], [(20, [7, 6], [50, 0, 0, 0, 6, 4, 2, 1, 0, 0, 1, 1, 1]), (20, [8, 6], [50, 0, 0, 0, 6, 4, 2, 1, 0, 0, 1, 1, 1]), (20, [6], [50, 0, 0, 0, 2, 1, 0, 0, 78]), (20, [6, 5], [50, 1, 0, 1079, 1, 2, 1, 0, 4, 3, 2, 1, 79, 0, 2]), (20, [7, 5], [50, 1, 0, 1079, 1, 2, 1, 0, 2, 1, 79]), (20, [8, 5], [50, 1, 0, 1079, 1, 2, 1, 0, 4, 3, 2, 1, 79, 0, 1]), (20, [5], [60, 3, 9, 397, 79, 80, 81, 90, 82, 83, 84, 85, 86, 87, 88, 89]), (20, [5, 4], [60, 1, 1, 398, 79, 90]), (20, [5, 6, 7], [60, 0, 2, 401, 90, 91]), (20, [5, 6, 7, 8, 8, 14], [60, 0, 2, 407, 90, 91]), (20, [5, 6, 7, 10, 8, 15], [60, 0, 2, 394, 92, 91]), (20, [5, 6, 7, 10, 8], [60, 0, 2, 393, 92, 91]), (24, [0, 5], []), (24, [1, 6], []), (24, [2, 7], []), (24, [3, 8], [])], [], [(1, 6, -4294967296, 0), (3, 8, -4294967296, 0), (6, 1, -4294967296, 0), (8, 3, -4294967296, 0)])
theorem oo_Mo_augment_3 {kA : Nat → ClassId} : or_ok PRD kA GG o_Mo_augment_3 := by
  refine or_mk fun A ta ws vs hD hth hl => ?_
  intro t0 r0 t1 k1 t2 k2 t3 k3 t4 k4 t6 k6 t8 k8 t10 k10 t13 k13 t14 k14 d1 d3 d4 d6 f1 f2 f4 f5 f6 f7 f8 f9 f10 f11 f12 f13 f16 f17 f18 f19
  replace f1 := shm_107 f1
  replace f2 := shm_949 f2
  replace f4 := shm_396 f4
  replace f5 := shm_396 f5
  replace f6 := shm_941 f6
  replace f7 := shm_942 f7
  replace f8 := shm_943 f8
  replace f9 := shm_944 f9
  replace f10 := shm_945 f10
  replace f11 := shm_946 f11
  replace f12 := shm_950 f12
  replace f13 := shm_951 f13
  replace f16 := shm_5 f16
  replace f17 := shm_5 f17
  replace f18 := shm_5 f18
  replace f19 := shm_5 f19
  have q5 : n_v vs 5 = n_v vs 0 := f16.symm
  have q6 : n_v vs 6 = n_v vs 1 := f17.symm
  have q7 : n_v vs 7 = n_v vs 2 := f18.symm
  have q8 : n_v vs 8 = n_v vs 3 := f19.symm
  simp only [q8, q5, q6, q7] at f1 f2 f4 f5 f6 f7 f8 f9 f10 f11 f12 f13
  have ad_12 : v_ad (n_v vs 12) = w_ar ws (n_v vs 0) 91 := congrArg v_ad f2
  simp only [ad_12] at f1
  have h1 : v_iv (n_v vs 13) = w_ei ws (w_ar ws (n_v vs 0) 91) (v_iv (n_v vs 3)) := f1
  have kz_0_79 := fdq_147 hD hth r0
  have kz_0_80 := fdq_131 hD hth r0
  have kz_0_81 := fdq_124 hD hth r0
  obtain ⟨x, ex, hx⟩ := iv_ex (ta := ta) (lo := (-2)) (hi := 80) (z := 80) (by omega) (by omega) (by omega) (by omega)
  have ex2 : v_iv (Value.int x) = 80 := ex
  have ex3 : (-2) ≤ v_iv (Value.int x) ∧ v_iv (Value.int x) ≤ 80 := tv_rng hx
  have e_0 : n_v (vs ++ [Value.int x]) 0 = n_v vs 0 := n_v_old (by rw [hl]; decide)
  have e_1 : n_v (vs ++ [Value.int x]) 1 = n_v vs 1 := n_v_old (by rw [hl]; decide)
  have e_2 : n_v (vs ++ [Value.int x]) 2 = n_v vs 2 := n_v_old (by rw [hl]; decide)
  have e_3 : n_v (vs ++ [Value.int x]) 3 = n_v vs 3 := n_v_old (by rw [hl]; decide)
  have e_4 : n_v (vs ++ [Value.int x]) 4 = n_v vs 4 := n_v_old (by rw [hl]; decide)
  have e_5 : n_v (vs ++ [Value.int x]) 5 = n_v vs 5 := n_v_old (by rw [hl]; decide)
  have e_6 : n_v (vs ++ [Value.int x]) 6 = n_v vs 6 := n_v_old (by rw [hl]; decide)
  have e_7 : n_v (vs ++ [Value.int x]) 7 = n_v vs 7 := n_v_old (by rw [hl]; decide)
  have e_8 : n_v (vs ++ [Value.int x]) 8 = n_v vs 8 := n_v_old (by rw [hl]; decide)
  have e_10 : n_v (vs ++ [Value.int x]) 10 = n_v vs 10 := n_v_old (by rw [hl]; decide)
  have e_14 : n_v (vs ++ [Value.int x]) 14 = n_v vs 14 := n_v_old (by rw [hl]; decide)
  have e_15 : n_v (vs ++ [Value.int x]) 15 = Value.int x := n_v_new hl
  have nf0 : fc_1 PRD (20, [7, 6], [50, 0, 0, 0, 6, 4, 2, 1, 0, 0, 1, 1, 1]) ws (vs ++ [Value.int x]) := by
    refine ⟨nf_inA hl rfl, sgq_396 ?_⟩
    · show (v_iv (n_v (vs ++ [Value.int x]) 7) + 1) ≤ v_iv (n_v (vs ++ [Value.int x]) 6)
      simp only [e_6, e_7, q6, q7]
      exact vc_Mo_augment_3_0 (v_iv (n_v vs 1)) (v_iv (n_v vs 2)) k1 k2 f4
  have nf1 : fc_1 PRD (20, [8, 6], [50, 0, 0, 0, 6, 4, 2, 1, 0, 0, 1, 1, 1]) ws (vs ++ [Value.int x]) := by
    refine ⟨nf_inA hl rfl, sgq_396 ?_⟩
    · show (v_iv (n_v (vs ++ [Value.int x]) 8) + 1) ≤ v_iv (n_v (vs ++ [Value.int x]) 6)
      simp only [e_6, e_8, q6, q8]
      exact vc_Mo_augment_3_1 (v_iv (n_v vs 1)) (v_iv (n_v vs 3)) k1 k3 f5
  have nf2 : fc_1 PRD (20, [6], [50, 0, 0, 0, 2, 1, 0, 0, 78]) ws (vs ++ [Value.int x]) := by
    refine ⟨nf_inA hl rfl, sgq_941 ?_⟩
    · show v_iv (n_v (vs ++ [Value.int x]) 6) ≤ 78
      simp only [e_6, q6]
      exact vc_Mo_augment_3_2 (v_iv (n_v vs 1)) k1 f6
  have nf3 : fc_1 PRD (20, [6, 5], [50, 1, 0, 1079, 1, 2, 1, 0, 4, 3, 2, 1, 79, 0, 2]) ws (vs ++ [Value.int x]) := by
    refine ⟨nf_inA hl rfl, sgq_942 ?_⟩
    · show v_iv (n_v (vs ++ [Value.int x]) 6) = (w_fi ws (n_v (vs ++ [Value.int x]) 5) 79 + 2)
      simp only [e_5, e_6, q5, q6]
      exact vc_Mo_augment_3_3 (v_iv (n_v vs 1)) (w_fi ws (n_v vs 0) 79) k1 f7 kz_0_79
  have nf4 : fc_1 PRD (20, [7, 5], [50, 1, 0, 1079, 1, 2, 1, 0, 2, 1, 79]) ws (vs ++ [Value.int x]) := by
    refine ⟨nf_inA hl rfl, sgq_943 ?_⟩
    · show v_iv (n_v (vs ++ [Value.int x]) 7) = w_fi ws (n_v (vs ++ [Value.int x]) 5) 79
      simp only [e_5, e_7, q5, q7]
      exact vc_Mo_augment_3_4 (v_iv (n_v vs 2)) (w_fi ws (n_v vs 0) 79) k2 f8 kz_0_79
  have nf5 : fc_1 PRD (20, [8, 5], [50, 1, 0, 1079, 1, 2, 1, 0, 4, 3, 2, 1, 79, 0, 1]) ws (vs ++ [Value.int x]) := by
    refine ⟨nf_inA hl rfl, sgq_944 ?_⟩
    · show v_iv (n_v (vs ++ [Value.int x]) 8) = (w_fi ws (n_v (vs ++ [Value.int x]) 5) 79 + 1)
      simp only [e_5, e_8, q5, q8]
      exact vc_Mo_augment_3_5 (v_iv (n_v vs 3)) (w_fi ws (n_v vs 0) 79) k3 f9 kz_0_79
  have nf6 : fc_1 PRD (20, [5], [60, 3, 9, 397, 79, 80, 81, 90, 82, 83, 84, 85, 86, 87, 88, 89]) ws (vs ++ [Value.int x]) := by
    refine ⟨nf_inA hl rfl, sgq_945 ?_⟩
    · show FLO (w_fi ws (n_v (vs ++ [Value.int x]) 5) 79) (w_fi ws (n_v (vs ++ [Value.int x]) 5) 80) (w_fi ws (n_v (vs ++ [Value.int x]) 5) 81) (w_ei ws (w_ar ws (n_v (vs ++ [Value.int x]) 5) 90)) (w_ei ws (w_ar ws (n_v (vs ++ [Value.int x]) 5) 82)) (w_ei ws (w_ar ws (n_v (vs ++ [Value.int x]) 5) 83)) (w_ei ws (w_ar ws (n_v (vs ++ [Value.int x]) 5) 84)) (w_ei ws (w_ar ws (n_v (vs ++ [Value.int x]) 5) 85)) (w_ei ws (w_ar ws (n_v (vs ++ [Value.int x]) 5) 86)) (w_ei ws (w_ar ws (n_v (vs ++ [Value.int x]) 5) 87)) (w_ei ws (w_ar ws (n_v (vs ++ [Value.int x]) 5) 88)) (w_ei ws (w_ar ws (n_v (vs ++ [Value.int x]) 5) 89))
      simp only [e_5, q5]
      exact vc_Mo_augment_3_6 (w_fi ws (n_v vs 0) 79) (w_ei ws (w_ar ws (n_v vs 0) 90)) (w_ei ws (w_ar ws (n_v vs 0) 82)) (w_ei ws (w_ar ws (n_v vs 0) 83)) (w_ei ws (w_ar ws (n_v vs 0) 84)) (w_ei ws (w_ar ws (n_v vs 0) 85)) (w_ei ws (w_ar ws (n_v vs 0) 86)) (w_ei ws (w_ar ws (n_v vs 0) 87)) (w_ei ws (w_ar ws (n_v vs 0) 88)) (w_ei ws (w_ar ws (n_v vs 0) 89)) (w_fi ws (n_v vs 0) 80) (w_fi ws (n_v vs 0) 81) f10 kz_0_79 kz_0_80 kz_0_81
  have nf7 : fc_1 PRD (20, [5, 4], [60, 1, 1, 398, 79, 90]) ws (vs ++ [Value.int x]) := by
    refine ⟨nf_inA hl rfl, sgq_946 ?_⟩
    · show XLE (w_fi ws (n_v (vs ++ [Value.int x]) 5) 79) (w_ei ws (w_ar ws (n_v (vs ++ [Value.int x]) 5) 90)) (v_iv (n_v (vs ++ [Value.int x]) 4))
      simp only [e_4, e_5, q5]
      exact vc_Mo_augment_3_7 (v_iv (n_v vs 4)) (w_fi ws (n_v vs 0) 79) (w_ei ws (w_ar ws (n_v vs 0) 90)) k4 f11 kz_0_79
  have nf8 : fc_1 PRD (20, [5, 6, 7], [60, 0, 2, 401, 90, 91]) ws (vs ++ [Value.int x]) := by
    refine ⟨nf_inA hl rfl, sgq_950 ?_⟩
    · show FPT (w_ei ws (w_ar ws (n_v (vs ++ [Value.int x]) 5) 90)) (w_ei ws (w_ar ws (n_v (vs ++ [Value.int x]) 5) 91)) (v_iv (n_v (vs ++ [Value.int x]) 6)) (v_iv (n_v (vs ++ [Value.int x]) 7))
      simp only [e_5, e_6, e_7, q5, q6, q7]
      exact vc_Mo_augment_3_8 (v_iv (n_v vs 1)) (v_iv (n_v vs 2)) (w_ei ws (w_ar ws (n_v vs 0) 91)) (w_ei ws (w_ar ws (n_v vs 0) 90)) k1 k2 f12
  have nf9 : fc_1 PRD (20, [5, 6, 7, 8, 8, 14], [60, 0, 2, 407, 90, 91]) ws (vs ++ [Value.int x]) := by
    refine ⟨nf_inA hl rfl, sgq_954 ?_⟩
    · show MN1 (w_ei ws (w_ar ws (n_v (vs ++ [Value.int x]) 5) 90)) (w_ei ws (w_ar ws (n_v (vs ++ [Value.int x]) 5) 91)) (v_iv (n_v (vs ++ [Value.int x]) 6)) (v_iv (n_v (vs ++ [Value.int x]) 7)) (v_iv (n_v (vs ++ [Value.int x]) 8)) (v_iv (n_v (vs ++ [Value.int x]) 8)) (v_iv (n_v (vs ++ [Value.int x]) 14))
      simp only [e_5, e_6, e_7, e_8, e_14, q5, q6, q7, q8]
      exact vc_Mo_augment_3_9 (v_iv (n_v vs 1)) (v_iv (n_v vs 2)) (v_iv (n_v vs 3)) (v_iv (n_v vs 14)) (w_ei ws (w_ar ws (n_v vs 0) 91)) (w_ei ws (w_ar ws (n_v vs 0) 90)) k1 k2 k3 k14
  have nf10 : fc_1 PRD (20, [5, 6, 7, 10, 8, 15], [60, 0, 2, 394, 92, 91]) ws (vs ++ [Value.int x]) := by
    refine ⟨nf_inA hl rfl, sgq_955 ?_⟩
    · show AUW (w_ei ws (w_ar ws (n_v (vs ++ [Value.int x]) 5) 92)) (w_ei ws (w_ar ws (n_v (vs ++ [Value.int x]) 5) 91)) (v_iv (n_v (vs ++ [Value.int x]) 6)) (v_iv (n_v (vs ++ [Value.int x]) 7)) (v_iv (n_v (vs ++ [Value.int x]) 10)) (v_iv (n_v (vs ++ [Value.int x]) 8)) (v_iv (n_v (vs ++ [Value.int x]) 15))
      simp only [e_5, e_6, e_7, e_8, e_10, e_15, q5, q6, q7, q8]
      exact vc_Mo_augment_3_10 (v_iv (n_v vs 1)) (v_iv (n_v vs 2)) (v_iv (n_v vs 3)) (v_iv (n_v vs 6)) (v_iv (n_v vs 8)) (v_iv (n_v vs 10)) (v_iv (n_v vs 13)) (w_ei ws (w_ar ws (n_v vs 0) 91)) (w_fi ws (n_v vs 0) 79) (w_ei ws (w_ar ws (n_v vs 0) 92)) (v_iv (Value.int x)) k1 k2 k3 k6 k8 k10 k13 d1 d3 d4 d6 h1 f7 f9 f13 kz_0_79 ex2
  have nf11 : fc_1 PRD (20, [5, 6, 7, 10, 8], [60, 0, 2, 393, 92, 91]) ws (vs ++ [Value.int x]) := by
    refine ⟨nf_inA hl rfl, sgq_956 ?_⟩
    · show AU2 (w_ei ws (w_ar ws (n_v (vs ++ [Value.int x]) 5) 92)) (w_ei ws (w_ar ws (n_v (vs ++ [Value.int x]) 5) 91)) (v_iv (n_v (vs ++ [Value.int x]) 6)) (v_iv (n_v (vs ++ [Value.int x]) 7)) (v_iv (n_v (vs ++ [Value.int x]) 10)) (v_iv (n_v (vs ++ [Value.int x]) 8))
      simp only [e_5, e_6, e_7, e_8, e_10, q5, q6, q7, q8]
      exact vc_Mo_augment_3_11 (v_iv (n_v vs 1)) (v_iv (n_v vs 2)) (v_iv (n_v vs 3)) (v_iv (n_v vs 6)) (v_iv (n_v vs 8)) (v_iv (n_v vs 10)) (v_iv (n_v vs 13)) (w_ei ws (w_ar ws (n_v vs 0) 91)) (w_fi ws (n_v vs 0) 79) (w_ei ws (w_ar ws (n_v vs 0) 92)) k1 k2 k3 k6 k8 k10 k13 d1 d3 d4 d6 h1 f7 f9 f13 kz_0_79
  have nf12 : fc_1 PRD (24, [0, 5], []) ws (vs ++ [Value.int x]) := by
    refine ⟨nf_inA hl rfl, sgq_5 ?_⟩
    · show n_v (vs ++ [Value.int x]) 0 = n_v (vs ++ [Value.int x]) 5
      first | rfl | simp only [e_0, e_5, q5, q6, q7, q8]
  have nf13 : fc_1 PRD (24, [1, 6], []) ws (vs ++ [Value.int x]) := by
    refine ⟨nf_inA hl rfl, sgq_5 ?_⟩
    · show n_v (vs ++ [Value.int x]) 1 = n_v (vs ++ [Value.int x]) 6
      first | rfl | simp only [e_1, e_6, q5, q6, q7, q8]
  have nf14 : fc_1 PRD (24, [2, 7], []) ws (vs ++ [Value.int x]) := by
    refine ⟨nf_inA hl rfl, sgq_5 ?_⟩
    · show n_v (vs ++ [Value.int x]) 2 = n_v (vs ++ [Value.int x]) 7
      first | rfl | simp only [e_2, e_7, q5, q6, q7, q8]
  have nf15 : fc_1 PRD (24, [3, 8], []) ws (vs ++ [Value.int x]) := by
    refine ⟨nf_inA hl rfl, sgq_5 ?_⟩
    · show n_v (vs ++ [Value.int x]) 3 = n_v (vs ++ [Value.int x]) 8
      first | rfl | simp only [e_3, e_8, q5, q6, q7, q8]
  exact ⟨(fun _ h => (by cases h)), [Value.int x], ag_one hx, List.forall_mem_cons.mpr ⟨⟨show (20 : Nat) < 100 from by decide, nf0⟩, List.forall_mem_cons.mpr ⟨⟨show (20 : Nat) < 100 from by decide, nf1⟩, List.forall_mem_cons.mpr ⟨⟨show (20 : Nat) < 100 from by decide, nf2⟩, List.forall_mem_cons.mpr ⟨⟨show (20 : Nat) < 100 from by decide, nf3⟩, List.forall_mem_cons.mpr ⟨⟨show (20 : Nat) < 100 from by decide, nf4⟩, List.forall_mem_cons.mpr ⟨⟨show (20 : Nat) < 100 from by decide, nf5⟩, List.forall_mem_cons.mpr ⟨⟨show (20 : Nat) < 100 from by decide, nf6⟩, List.forall_mem_cons.mpr ⟨⟨show (20 : Nat) < 100 from by decide, nf7⟩, List.forall_mem_cons.mpr ⟨⟨show (20 : Nat) < 100 from by decide, nf8⟩, List.forall_mem_cons.mpr ⟨⟨show (20 : Nat) < 100 from by decide, nf9⟩, List.forall_mem_cons.mpr ⟨⟨show (20 : Nat) < 100 from by decide, nf10⟩, List.forall_mem_cons.mpr ⟨⟨show (20 : Nat) < 100 from by decide, nf11⟩, List.forall_mem_cons.mpr ⟨⟨show (24 : Nat) < 100 from by decide, nf12⟩, List.forall_mem_cons.mpr ⟨⟨show (24 : Nat) < 100 from by decide, nf13⟩, List.forall_mem_cons.mpr ⟨⟨show (24 : Nat) < 100 from by decide, nf14⟩, List.forall_mem_cons.mpr ⟨⟨show (24 : Nat) < 100 from by decide, nf15⟩, (fun _ h => (by cases h))⟩⟩⟩⟩⟩⟩⟩⟩⟩⟩⟩⟩⟩⟩⟩⟩, (fun _ h => (by cases h))⟩
set_option maxHeartbeats 4000000 in
theorem vc_Mo_augment_4_0 (pointMany_0 : Int) (flow_0 : Int → Int) (spot_0 : Int → Int) (costA_0 : Int → Int) (costB_0 : Int → Int) (costW_0 : Int → Int) (costPlain_0 : Int → Int) (apartA_0 : Int → Int) (apartB_0 : Int → Int) (apart_0 : Int → Int) (costMany_0 : Int) (apartMany_0 : Int) (f10 : FLO (pointMany_0) (costMany_0) (apartMany_0) (flow_0) (spot_0) (costA_0) (costB_0) (costW_0) (costPlain_0) (apartA_0) (apartB_0) (apart_0)) (kz_0_79 : 0 ≤ pointMany_0 ∧ pointMany_0 ≤ 76) (kz_0_80 : 0 ≤ costMany_0 ∧ costMany_0 ≤ 200) (kz_0_81 : 0 ≤ apartMany_0 ∧ apartMany_0 ≤ 200) : FLO (pointMany_0) (costMany_0) (apartMany_0) (flow_0) (spot_0) (costA_0) (costB_0) (costW_0) (costPlain_0) (apartA_0) (apartB_0) (apart_0) := by
  first
    | assumption
    | exact (psh_end ‹PSH _ _ _ _ _ _ _ _ _ _ _ _ _ _ _ _› (by omega)).1
set_option maxHeartbeats 4000000 in
theorem vc_Mo_augment_4_1 (x4 : Int) (x14 : Int) (pointMany_0 : Int) (flow_0 : Int → Int) (k4 : (-2) ≤ x4 ∧ x4 ≤ 180000001) (k14 : 0 ≤ x14 ∧ x14 ≤ 0) (kz_0_79 : 0 ≤ pointMany_0 ∧ pointMany_0 ≤ 76) : XLA (pointMany_0) (flow_0) (x14) (x4) := by
  first
    | (intro h; exfalso; omega)
    | (intro _; exact (psh_end ‹PSH _ _ _ _ _ _ _ _ _ _ _ _ _ _ _ _› (by omega)).2)
set_option maxHeartbeats 4000000 in
theorem vc_Mo_augment_4_2 (x1 : Int) (x2 : Int) (x3 : Int) (x9 : Int) (x10 : Int) (x13 : Int) (x14 : Int) (cameBy_0 : Int → Int) (flow_0 : Int → Int) (queue_0 : Int → Int) (k1 : 2 ≤ x1 ∧ x1 ≤ 78) (k2 : 0 ≤ x2 ∧ x2 ≤ 76) (k3 : 1 ≤ x3 ∧ x3 ≤ 77) (k9 : 1 ≤ x9 ∧ x9 ≤ 78) (k10 : 1 ≤ x10 ∧ x10 ≤ 78) (k13 : (-1) ≤ x13 ∧ x13 ≤ (-1)) (k14 : 0 ≤ x14 ∧ x14 ≤ 0) (h1 : x13 = cameBy_0 (x3)) (f3 : x10 ≤ x9) (f12 : FPT (flow_0) (cameBy_0) (x1) (x2)) (f13 : AU1 (queue_0) (cameBy_0) (x1) (x2) (x10)) (f15 : BF1 (flow_0) (queue_0) (cameBy_0) (x1) (x9)) : CTA (flow_0) (cameBy_0) (x1) (x2) (x3) (x14) := by
  first
    | (intro h; exfalso; omega)
    | (intro _; exact cut_of ‹AU1 _ _ _ _ _› ‹FPT _ _ _ _› ‹BF1 _ _ _ _ _› (by omega) (by omega))
def o_Mo_augment_4 : or_T := (139, 15, [(0, (2, 0, 0, [165])), (1, (0, 2, 78, [])), (2, (0, 0, 76, [])), (3, (0, 1, 77, [])), (4, (0, -2, 180000001, [])), (9, (0, 1, 78, [])), (10, (0, 1, 78, [])), (13, (0, -1, -1, [])), (14, (0, 0, 0, []))], [(10, [13, 12, 8], []), (9, [12, 5], [91]), (7, [9, 10], [3]), (20, [5], [60, 3, 9, 397, 79, 80, 81, 90, 82, 83, 84, 85, 86, 87, 88, 89]), (20, [5, 6, 7], [60, 0, 2, 401, 90, 91]), (20, [5, 6, 7, 10], [60, 0, 2, 392, 92, 91]), (20, [5, 6, 9], [60, 0, 3, 402, 90, 92, 91]), (24, [0, 5], []), (24, [1, 6], []), (24, [2, 7], []), (24, [3, 8], [])], [], [], [(20, [0], [60, 3, 9, 397, 79, 80, 81, 90, 82, 83, 84, 85, 86, 87, 88, 89]), (20, [0, 14, 4], [60, 1, 1, 400, 79, 90]), (20, [0, 1, 2, 3, 14], [60, 0, 2, 405, 90, 91])], [], [])
theorem oo_Mo_augment_4 {kA : Nat → ClassId} : or_ok PRD kA GG o_Mo_augment_4 := by
  refine or_mk fun A ta ws vs hD hth hl => ?_
  intro t0 r0 t1 k1 t2 k2 t3 k3 t4 k4 t9 k9 t10 k10 t13 k13 t14 k14 f1 f2 f3 f10 f12 f13 f15 f16 f17 f18 f19
  replace f1 := shm_107 f1
  replace f2 := shm_949 f2
  replace f10 := shm_945 f10
  replace f12 := shm_950 f12
  replace f13 := shm_951 f13
  replace f15 := shm_953 f15
  replace f16 := shm_5 f16
  replace f17 := shm_5 f17
  replace f18 := shm_5 f18
  replace f19 := shm_5 f19
  have q5 : n_v vs 5 = n_v vs 0 := f16.symm
  have q6 : n_v vs 6 = n_v vs 1 := f17.symm
  have q7 : n_v vs 7 = n_v vs 2 := f18.symm
  have q8 : n_v vs 8 = n_v vs 3 := f19.symm
  simp only [q8, q5, q6, q7] at f1 f2 f10 f12 f13 f15
  have ad_12 : v_ad (n_v vs 12) = w_ar ws (n_v vs 0) 91 := congrArg v_ad f2
  simp only [ad_12] at f1
  have h1 : v_iv (n_v vs 13) = w_ei ws (w_ar ws (n_v vs 0) 91) (v_iv (n_v vs 3)) := f1
  have kz_0_79 := fdq_147 hD hth r0
  have kz_0_80 := fdq_131 hD hth r0
  have kz_0_81 := fdq_124 hD hth r0
  have nf0 : fc_1 PRD (20, [0], [60, 3, 9, 397, 79, 80, 81, 90, 82, 83, 84, 85, 86, 87, 88, 89]) ws (vs) := ⟨nf_in hl rfl, sgq_945 (vc_Mo_augment_4_0 (w_fi ws (n_v vs 0) 79) (w_ei ws (w_ar ws (n_v vs 0) 90)) (w_ei ws (w_ar ws (n_v vs 0) 82)) (w_ei ws (w_ar ws (n_v vs 0) 83)) (w_ei ws (w_ar ws (n_v vs 0) 84)) (w_ei ws (w_ar ws (n_v vs 0) 85)) (w_ei ws (w_ar ws (n_v vs 0) 86)) (w_ei ws (w_ar ws (n_v vs 0) 87)) (w_ei ws (w_ar ws (n_v vs 0) 88)) (w_ei ws (w_ar ws (n_v vs 0) 89)) (w_fi ws (n_v vs 0) 80) (w_fi ws (n_v vs 0) 81) f10 kz_0_79 kz_0_80 kz_0_81)⟩
  have nf1 : fc_1 PRD (20, [0, 14, 4], [60, 1, 1, 400, 79, 90]) ws (vs) := ⟨nf_in hl rfl, sgq_957 (vc_Mo_augment_4_1 (v_iv (n_v vs 4)) (v_iv (n_v vs 14)) (w_fi ws (n_v vs 0) 79) (w_ei ws (w_ar ws (n_v vs 0) 90)) k4 k14 kz_0_79)⟩
  have nf2 : fc_1 PRD (20, [0, 1, 2, 3, 14], [60, 0, 2, 405, 90, 91]) ws (vs) := ⟨nf_in hl rfl, sgq_958 (vc_Mo_augment_4_2 (v_iv (n_v vs 1)) (v_iv (n_v vs 2)) (v_iv (n_v vs 3)) (v_iv (n_v vs 9)) (v_iv (n_v vs 10)) (v_iv (n_v vs 13)) (v_iv (n_v vs 14)) (w_ei ws (w_ar ws (n_v vs 0) 91)) (w_ei ws (w_ar ws (n_v vs 0) 90)) (w_ei ws (w_ar ws (n_v vs 0) 92)) k1 k2 k3 k9 k10 k13 k14 h1 (shm_2 f3) f12 f13 f15)⟩
  refine ⟨(fun _ h => (by cases h)), [], trivial, ?_, (fun _ h => (by cases h))⟩
  rw [List.append_nil]
  exact List.forall_mem_cons.mpr ⟨⟨show (20 : Nat) < 100 from by decide, nf0⟩, List.forall_mem_cons.mpr ⟨⟨show (20 : Nat) < 100 from by decide, nf1⟩, List.forall_mem_cons.mpr ⟨⟨show (20 : Nat) < 100 from by decide, nf2⟩, (fun _ h => (by cases h))⟩⟩⟩
set_option maxHeartbeats 4000000 in
theorem vc_Mo_augment_5_r0 (x1 : Int) (x2 : Int) (x6 : Int) (x9 : Int) (x10 : Int) (pointMany_0 : Int) (cameBy_0 : Int → Int) (queue_0 : Int → Int) (k1 : 2 ≤ x1 ∧ x1 ≤ 78) (k2 : 0 ≤ x2 ∧ x2 ≤ 76) (k6 : 2 ≤ x6 ∧ x6 ≤ 78) (k9 : 0 ≤ x9 ∧ x9 ≤ 78) (k10 : 1 ≤ x10 ∧ x10 ≤ 79) (d0 : x10 + (-4294967296) ≤ x9 ∧ x9 ≤ x10 + (-1)) (d1 : x6 + (-4294967296) ≤ x1 ∧ x1 ≤ x6 + 0) (d4 : x1 + (-4294967296) ≤ x6 ∧ x6 ≤ x1 + 0) (f5 : x1 = (pointMany_0 + 2)) (f11 : AU1 (queue_0) (cameBy_0) (x1) (x2) (x10)) (kz_0_79 : 0 ≤ pointMany_0 ∧ pointMany_0 ≤ 76) : 0 ≤ x9 ∧ x9 ≤ 77 := by
  have h := au1_len ‹AU1 _ _ _ _ _›
  omega
def o_Mo_augment_5 : or_T := (54, 13, [(0, (2, 0, 0, [165])), (1, (0, 2, 78, [])), (2, (0, 0, 76, [])), (3, (0, 1, 77, [])), (4, (0, -2, 180000001, [])), (5, (2, 0, 0, [165])), (6, (0, 2, 78, [])), (7, (0, 0, 76, [])), (8, (0, 1, 77, [])), (9, (0, 0, 78, [])), (10, (0, 1, 79, [])), (11, (0, -2, 79, [])), (12, (2, 0, 0, [229]))], [(9, [12, 5], [92]), (7, [9, 10], [2]), (20, [7, 6], [50, 0, 0, 0, 6, 4, 2, 1, 0, 0, 1, 1, 1]), (20, [8, 6], [50, 0, 0, 0, 6, 4, 2, 1, 0, 0, 1, 1, 1]), (20, [6], [50, 0, 0, 0, 2, 1, 0, 0, 78]), (20, [6, 5], [50, 1, 0, 1079, 1, 2, 1, 0, 4, 3, 2, 1, 79, 0, 2]), (20, [7, 5], [50, 1, 0, 1079, 1, 2, 1, 0, 2, 1, 79]), (20, [8, 5], [50, 1, 0, 1079, 1, 2, 1, 0, 4, 3, 2, 1, 79, 0, 1]), (20, [5], [60, 3, 9, 397, 79, 80, 81, 90, 82, 83, 84, 85, 86, 87, 88, 89]), (20, [5, 4], [60, 1, 1, 398, 79, 90]), (20, [5, 6, 7], [60, 0, 2, 401, 90, 91]), (20, [5, 6, 7, 10], [60, 0, 2, 392, 92, 91]), (23, [9, 11], [-78, -1, -1]), (20, [5, 6, 9], [60, 0, 3, 402, 90, 92, 91]), (24, [0, 5], []), (24, [1, 6], []), (24, [2, 7], []), (24, [3, 8], [])], [(9, (0, 0, 77, []))], [], [], [], [(9, 10, -4294967296, -1), (1, 6, -4294967296, 0), (2, 7, -4294967296, 0), (3, 8, -4294967296, 0), (6, 1, -4294967296, 0), (7, 2, -4294967296, 0), (8, 3, -4294967296, 0), (9, 10, -4294967296, 0)])
theorem oo_Mo_augment_5 {kA : Nat → ClassId} : or_ok PRD kA GG o_Mo_augment_5 := by
  refine or_mk fun A ta ws vs hD hth hl => ?_
  intro t0 r0 t1 k1 t2 k2 t3 k3 t4 k4 t5 r5 t6 k6 t7 k7 t8 k8 t9 k9 t10 k10 t11 k11 t12 r12 d0 d1 d2 d3 d4 d5 d6 d7 f0 f1 f2 f3 f4 f5 f6 f7 f8 f9 f10 f11 f12 f13 f14 f15 f16 f17
  replace f5 := shm_942 f5
  replace f11 := shm_951 f11
  replace f14 := shm_5 f14
  replace f15 := shm_5 f15
  replace f16 := shm_5 f16
  have q5 : n_v vs 5 = n_v vs 0 := f14.symm
  have q6 : n_v vs 6 = n_v vs 1 := f15.symm
  have q7 : n_v vs 7 = n_v vs 2 := f16.symm
  simp only [q5, q6, q7] at f5 f11
  have kz_0_79 := fdq_147 hD hth r0
  have hrf0 : 0 ≤ v_iv (n_v vs 9) ∧ v_iv (n_v vs 9) ≤ 77 := vc_Mo_augment_5_r0 (v_iv (n_v vs 1)) (v_iv (n_v vs 2)) (v_iv (n_v vs 6)) (v_iv (n_v vs 9)) (v_iv (n_v vs 10)) (w_fi ws (n_v vs 0) 79) (w_ei ws (w_ar ws (n_v vs 0) 91)) (w_ei ws (w_ar ws (n_v vs 0) 92)) k1 k2 k6 k9 k10 d0 d1 d4 f5 f11 kz_0_79
  have rf9 : tv_ok ta (0, 0, 77, []) (n_v vs 9) := tv_in t9 (by first | omega | grind) (by first | omega | grind)
  refine ⟨List.forall_mem_cons.mpr ⟨rf9, (fun _ h => (by cases h))⟩, [], trivial, ?_, (fun _ h => (by cases h))⟩
  rw [List.append_nil]
  exact (fun _ h => (by cases h))
set_option maxHeartbeats 4000000 in
theorem vc_Mo_augment_6_0 (x1 : Int) (x2 : Int) (x9 : Int) (k1 : 2 ≤ x1 ∧ x1 ≤ 78) (k2 : 0 ≤ x2 ∧ x2 ≤ 76) (f4 : (x2 + 1) ≤ x1) : (x2 + 1) ≤ x1 := by
  first
    | omega
    | (have h := ‹AU1 _ _ _ _ _›.2.2.1 x9 (by omega) (by omega); omega)
    | (have h := au1_len ‹AU1 _ _ _ _ _›; omega)
set_option maxHeartbeats 4000000 in
theorem vc_Mo_augment_6_1 (x1 : Int) (x3 : Int) (x9 : Int) (k1 : 2 ≤ x1 ∧ x1 ≤ 78) (k3 : 1 ≤ x3 ∧ x3 ≤ 77) (f5 : (x3 + 1) ≤ x1) : (x3 + 1) ≤ x1 := by
  first
    | omega
    | (have h := ‹AU1 _ _ _ _ _›.2.2.1 x9 (by omega) (by omega); omega)
    | (have h := au1_len ‹AU1 _ _ _ _ _›; omega)
set_option maxHeartbeats 4000000 in
theorem vc_Mo_augment_6_2 (x1 : Int) (x9 : Int) (k1 : 2 ≤ x1 ∧ x1 ≤ 78) (f6 : x1 ≤ 78) : x1 ≤ 78 := by
  first
    | omega
    | (have h := ‹AU1 _ _ _ _ _›.2.2.1 x9 (by omega) (by omega); omega)
    | (have h := au1_len ‹AU1 _ _ _ _ _›; omega)
set_option maxHeartbeats 4000000 in
theorem vc_Mo_augment_6_3 (x1 : Int) (x9 : Int) (pointMany_0 : Int) (k1 : 2 ≤ x1 ∧ x1 ≤ 78) (f7 : x1 = (pointMany_0 + 2)) (kz_0_79 : 0 ≤ pointMany_0 ∧ pointMany_0 ≤ 76) : x1 = (pointMany_0 + 2) := by
  first
    | omega
    | (have h := ‹AU1 _ _ _ _ _›.2.2.1 x9 (by omega) (by omega); omega)
    | (have h := au1_len ‹AU1 _ _ _ _ _›; omega)
set_option maxHeartbeats 4000000 in
theorem vc_Mo_augment_6_4 (x2 : Int) (x9 : Int) (pointMany_0 : Int) (k2 : 0 ≤ x2 ∧ x2 ≤ 76) (f8 : x2 = pointMany_0) (kz_0_79 : 0 ≤ pointMany_0 ∧ pointMany_0 ≤ 76) : x2 = pointMany_0 := by
  first
    | omega
    | (have h := ‹AU1 _ _ _ _ _›.2.2.1 x9 (by omega) (by omega); omega)
    | (have h := au1_len ‹AU1 _ _ _ _ _›; omega)
set_option maxHeartbeats 4000000 in
theorem vc_Mo_augment_6_5 (x3 : Int) (x9 : Int) (pointMany_0 : Int) (k3 : 1 ≤ x3 ∧ x3 ≤ 77) (f9 : x3 = (pointMany_0 + 1)) (kz_0_79 : 0 ≤ pointMany_0 ∧ pointMany_0 ≤ 76) : x3 = (pointMany_0 + 1) := by
  first
    | omega
    | (have h := ‹AU1 _ _ _ _ _›.2.2.1 x9 (by omega) (by omega); omega)
    | (have h := au1_len ‹AU1 _ _ _ _ _›; omega)
set_option maxHeartbeats 4000000 in
theorem vc_Mo_augment_6_6 (pointMany_0 : Int) (flow_0 : Int → Int) (spot_0 : Int → Int) (costA_0 : Int → Int) (costB_0 : Int → Int) (costW_0 : Int → Int) (costPlain_0 : Int → Int) (apartA_0 : Int → Int) (apartB_0 : Int → Int) (apart_0 : Int → Int) (costMany_0 : Int) (apartMany_0 : Int) (f10 : FLO (pointMany_0) (costMany_0) (apartMany_0) (flow_0) (spot_0) (costA_0) (costB_0) (costW_0) (costPlain_0) (apartA_0) (apartB_0) (apart_0)) (kz_0_79 : 0 ≤ pointMany_0 ∧ pointMany_0 ≤ 76) (kz_0_80 : 0 ≤ costMany_0 ∧ costMany_0 ≤ 200) (kz_0_81 : 0 ≤ apartMany_0 ∧ apartMany_0 ≤ 200) : FLO (pointMany_0) (costMany_0) (apartMany_0) (flow_0) (spot_0) (costA_0) (costB_0) (costW_0) (costPlain_0) (apartA_0) (apartB_0) (apart_0) := by
  first
    | assumption
    | exact (psh_end ‹PSH _ _ _ _ _ _ _ _ _ _ _ _ _ _ _ _› (by omega)).1
set_option maxHeartbeats 4000000 in
theorem vc_Mo_augment_6_7 (x4 : Int) (pointMany_0 : Int) (flow_0 : Int → Int) (k4 : (-2) ≤ x4 ∧ x4 ≤ 180000001) (f11 : XLE (pointMany_0) (flow_0) (x4)) (kz_0_79 : 0 ≤ pointMany_0 ∧ pointMany_0 ≤ 76) : XLE (pointMany_0) (flow_0) (x4) := by
  assumption
set_option maxHeartbeats 4000000 in
theorem vc_Mo_augment_6_8 (x1 : Int) (x2 : Int) (flow_0 : Int → Int) (cameBy_0 : Int → Int) (k1 : 2 ≤ x1 ∧ x1 ≤ 78) (k2 : 0 ≤ x2 ∧ x2 ≤ 76) (f12 : FPT (flow_0) (cameBy_0) (x1) (x2)) : FPT (flow_0) (cameBy_0) (x1) (x2) := by
  first
    | assumption
    | exact fpt_start ‹AU0 _ _› (by omega) (by assumption) (by omega)
    | exact fpt_step2 ‹FPT _ _ _ _› (by assumption) rfl (by assumption) (by assumption) (by assumption) (by assumption) (by omega)
set_option maxHeartbeats 4000000 in
theorem vc_Mo_augment_6_9 (x1 : Int) (x9 : Int) (x13 : Int) (x14 : Int) (queue_0 : Int → Int) (flow_0 : Int → Int) (cameBy_0 : Int → Int) (k1 : 2 ≤ x1 ∧ x1 ≤ 78) (k9 : 0 ≤ x9 ∧ x9 ≤ 77) (k13 : 0 ≤ x13 ∧ x13 ≤ 77) (k14 : 1 ≤ x14 ∧ x14 ≤ 78) (d0 : x9 + 1 ≤ x14 ∧ x14 ≤ x9 + 1) (f0 : x14 = x9 + 1) (h1 : x13 = queue_0 (x9)) (f15 : BF1 (flow_0) (queue_0) (cameBy_0) (x1) (x9)) : BG1 (flow_0) (queue_0) (cameBy_0) (x1) (x14) (x13) := by
  first
    | assumption
    | exact bg1_start ‹BF1 _ _ _ _ _› (by omega) (by assumption) (by assumption)
    | exact bg1_step ‹BG1 _ _ _ _ _ _› (by assumption) (by omega) (by assumption) (by omega)
set_option maxHeartbeats 4000000 in
theorem vc_Mo_augment_6_10 (x1 : Int) (x13 : Int) (x15 : Int) (flow_0 : Int → Int) (cameBy_0 : Int → Int) (k1 : 2 ≤ x1 ∧ x1 ≤ 78) (k13 : 0 ≤ x13 ∧ x13 ≤ 77) (k15 : 0 ≤ x15 ∧ x15 ≤ 0) : BF2 (flow_0) (cameBy_0) (x1) (x13) (x15) := by
  first
    | exact bf2_zero (by omega)
    | exact bf2_skip1 ‹BF2 _ _ _ _ _› (by assumption) (by assumption) (by omega)
    | exact bf2_skip2 ‹BF2 _ _ _ _ _› (by assumption) (by assumption) (by assumption) (by assumption) (by omega)
    | exact bf2_step ‹BF2 _ _ _ _ _› (by assumption) (by assumption) rfl (by omega)
set_option maxHeartbeats 4000000 in
theorem vc_Mo_augment_6_11 (x1 : Int) (x2 : Int) (x9 : Int) (x10 : Int) (x13 : Int) (x14 : Int) (queue_0 : Int → Int) (cameBy_0 : Int → Int) (k1 : 2 ≤ x1 ∧ x1 ≤ 78) (k2 : 0 ≤ x2 ∧ x2 ≤ 76) (k9 : 0 ≤ x9 ∧ x9 ≤ 77) (k10 : 1 ≤ x10 ∧ x10 ≤ 79) (k13 : 0 ≤ x13 ∧ x13 ≤ 77) (k14 : 1 ≤ x14 ∧ x14 ≤ 78) (d0 : x9 + 1 ≤ x14 ∧ x14 ≤ x9 + 1) (h1 : x13 = queue_0 (x9)) (f3 : x9 < x10) (f13 : AU1 (queue_0) (cameBy_0) (x1) (x2) (x10)) : AU2 (queue_0) (cameBy_0) (x1) (x2) (x10) (x13) := by
  first
    | assumption
    | exact au2_start (k := x9) ‹AU1 _ _ _ _ _› (by omega) (by omega) (by assumption)
    | exact au2_step (p := x12) ‹AU2 _ _ _ _ _ _› (by omega) (by omega) (by omega) (by omega) (by assumption) (by omega) (by assumption) (by omega) (by omega)
set_option maxHeartbeats 4000000 in
theorem vc_Mo_augment_6_12 (x1 : Int) (x2 : Int) (x6 : Int) (x9 : Int) (x10 : Int) (x13 : Int) (x14 : Int) (queue_0 : Int → Int) (pointMany_0 : Int) (cameBy_0 : Int → Int) (k1 : 2 ≤ x1 ∧ x1 ≤ 78) (k2 : 0 ≤ x2 ∧ x2 ≤ 76) (k6 : 2 ≤ x6 ∧ x6 ≤ 78) (k9 : 0 ≤ x9 ∧ x9 ≤ 77) (k10 : 1 ≤ x10 ∧ x10 ≤ 79) (k13 : 0 ≤ x13 ∧ x13 ≤ 77) (k14 : 1 ≤ x14 ∧ x14 ≤ 78) (d0 : x9 + 1 ≤ x14 ∧ x14 ≤ x9 + 1) (d4 : x6 + (-4294967296) ≤ x1 ∧ x1 ≤ x6 + 0) (d7 : x1 + (-4294967296) ≤ x6 ∧ x6 ≤ x1 + 0) (h1 : x13 = queue_0 (x9)) (f3 : x9 < x10) (f7 : x1 = (pointMany_0 + 2)) (f13 : AU1 (queue_0) (cameBy_0) (x1) (x2) (x10)) (kz_0_79 : 0 ≤ pointMany_0 ∧ pointMany_0 ≤ 76) : (x13 + 1) ≤ x1 := by
  first
    | omega
    | (have h := ‹AU1 _ _ _ _ _›.2.2.1 x9 (by omega) (by omega); omega)
    | (have h := au1_len ‹AU1 _ _ _ _ _›; omega)
set_option maxHeartbeats 4000000 in
theorem vc_Mo_augment_6_13 (x9 : Int) (x10 : Int) (x14 : Int) (k9 : 0 ≤ x9 ∧ x9 ≤ 77) (k10 : 1 ≤ x10 ∧ x10 ≤ 79) (k14 : 1 ≤ x14 ∧ x14 ≤ 78) (d0 : x9 + 1 ≤ x14 ∧ x14 ≤ x9 + 1) (d1 : x10 + (-4294967296) ≤ x14 ∧ x14 ≤ x10 + 0) (d3 : x10 + (-4294967296) ≤ x9 ∧ x9 ≤ x10 + (-1)) : x14 ≤ x10 := by
  first
    | omega
    | (have h := ‹AU1 _ _ _ _ _›.2.2.1 x9 (by omega) (by omega); omega)
    | (have h := au1_len ‹AU1 _ _ _ _ _›; omega)
set_option maxHeartbeats 4000000 in
theorem vc_Mo_augment_6_14 (x9 : Int) (x11 : Int) (x14 : Int) (gx : Int) (k9 : 0 ≤ x9 ∧ x9 ≤ 77) (k11 : (-2) ≤ x11 ∧ x11 ≤ 79) (k14 : 1 ≤ x14 ∧ x14 ≤ 78) (d0 : x9 + 1 ≤ x14 ∧ x14 ≤ x9 + 1) (f14 : (-1) * x9 + ((-1) * x11 + 0) ≤ (-78)) (ex2 : gx = 0 + (1 * x11 + 0)) : (-1) * x14 + ((-1) * gx + 0) ≤ (-79) := by
  first
    | omega
    | (have h := ‹AU1 _ _ _ _ _›.2.2.1 x9 (by omega) (by omega); omega)
    | (have h := au1_len ‹AU1 _ _ _ _ _›; omega)
set_option maxHeartbeats 4000000 in
theorem vc_Mo_augment_6_15 (x9 : Int) (x11 : Int) (x14 : Int) (gx : Int) (k9 : 0 ≤ x9 ∧ x9 ≤ 77) (k11 : (-2) ≤ x11 ∧ x11 ≤ 79) (k14 : 1 ≤ x14 ∧ x14 ≤ 78) (d0 : x9 + 1 ≤ x14 ∧ x14 ≤ x9 + 1) (f14 : (-1) * x9 + ((-1) * x11 + 0) ≤ (-78)) (ex2 : gx = 0 + (1 * x11 + 0)) : (-1) * gx + 0 ≤ (-1) := by
  first
    | omega
    | (have h := ‹AU1 _ _ _ _ _›.2.2.1 x9 (by omega) (by omega); omega)
    | (have h := au1_len ‹AU1 _ _ _ _ _›; omega)
def o_Mo_augment_6 : or_T := (65, 16, [(0, (2, 0, 0, [165])), (1, (0, 2, 78, [])), (2, (0, 0, 76, [])), (3, (0, 1, 77, [])), (4, (0, -2, 180000001, [])), (5, (2, 0, 0, [165])), (6, (0, 2, 78, [])), (7, (0, 0, 76, [])), (8, (0, 1, 77, [])), (9, (0, 0, 77, [])), (10, (0, 1, 79, [])), (11, (0, -2, 79, [])), (12, (2, 0, 0, [229])), (13, (0, 0, 77, [])), (14, (0, 1, 78, [])), (15, (0, 0, 0, []))], [(6, [14, 9], [1]), (10, [13, 12, 9], []), (9, [12, 5], [92]), (7, [9, 10], [2]), (20, [7, 6], [50, 0, 0, 0, 6, 4, 2, 1, 0, 0, 1, 1, 1]), (20, [8, 6], [50, 0, 0, 0, 6, 4, 2, 1, 0, 0, 1, 1, 1]), (20, [6], [50, 0, 0, 0, 2, 1, 0, 0, 78]), (20, [6, 5], [50, 1, 0, 1079, 1, 2, 1, 0, 4, 3, 2, 1, 79, 0, 2]), (20, [7, 5], [50, 1, 0, 1079, 1, 2, 1, 0, 2, 1, 79]), (20, [8, 5], [50, 1, 0, 1079, 1, 2, 1, 0, 4, 3, 2, 1, 79, 0, 1]), (20, [5], [60, 3, 9, 397, 79, 80, 81, 90, 82, 83, 84, 85, 86, 87, 88, 89]), (20, [5, 4], [60, 1, 1, 398, 79, 90]), (20, [5, 6, 7], [60, 0, 2, 401, 90, 91]), (20, [5, 6, 7, 10], [60, 0, 2, 392, 92, 91]), (23, [9, 11], [-78, -1, -1]), (20, [5, 6, 9], [60, 0, 3, 402, 90, 92, 91]), (24, [0, 5], []), (24, [1, 6], []), (24, [2, 7], []), (24, [3, 8], [])], [], [(0, -2, 79, [])], [(20, [7, 6], [50, 0, 0, 0, 6, 4, 2, 1, 0, 0, 1, 1, 1]), (20, [8, 6], [50, 0, 0, 0, 6, 4, 2, 1, 0, 0, 1, 1, 1]), (20, [6], [50, 0, 0, 0, 2, 1, 0, 0, 78]), (20, [6, 5], [50, 1, 0, 1079, 1, 2, 1, 0, 4, 3, 2, 1, 79, 0, 2]), (20, [7, 5], [50, 1, 0, 1079, 1, 2, 1, 0, 2, 1, 79]), (20, [8, 5], [50, 1, 0, 1079, 1, 2, 1, 0, 4, 3, 2, 1, 79, 0, 1]), (20, [5], [60, 3, 9, 397, 79, 80, 81, 90, 82, 83, 84, 85, 86, 87, 88, 89]), (20, [5, 4], [60, 1, 1, 398, 79, 90]), (20, [5, 6, 7], [60, 0, 2, 401, 90, 91]), (20, [5, 6, 14, 13], [60, 0, 3, 403, 90, 92, 91]), (20, [5, 6, 13, 15], [60, 0, 2, 404, 90, 91]), (20, [5, 6, 7, 10, 13], [60, 0, 2, 393, 92, 91]), (20, [13, 6], [50, 0, 0, 0, 6, 4, 2, 1, 0, 0, 1, 1, 1]), (20, [14, 10], [50, 0, 0, 0, 2, 1, 0, 1, 1]), (23, [14, 16], [-79, -1, -1]), (23, [16], [-1, -1]), (24, [0, 5], []), (24, [1, 6], []), (24, [2, 7], []), (24, [3, 8], [])], [(16, 11, 0, 0)], [(14, 9, 1, 1), (14, 10, -4294967296, 0), (14, 10, -4294967296, 1), (9, 10, -4294967296, -1), (1, 6, -4294967296, 0), (2, 7, -4294967296, 0), (3, 8, -4294967296, 0), (6, 1, -4294967296, 0), (7, 2, -4294967296, 0), (8, 3, -4294967296, 0), (9, 10, -4294967296, 0)])
theorem oo_Mo_augment_6 {kA : Nat → ClassId} : or_ok PRD kA GG o_Mo_augment_6 := by
  refine or_mk fun A ta ws vs hD hth hl => ?_
  intro t0 r0 t1 k1 t2 k2 t3 k3 t4 k4 t5 r5 t6 k6 t7 k7 t8 k8 t9 k9 t10 k10 t11 k11 t12 r12 t13 k13 t14 k14 t15 k15 d0 d1 d2 d3 d4 d5 d6 d7 d8 d9 d10 f0 f1 f2 f3 f4 f5 f6 f7 f8 f9 f10 f11 f12 f13 f14 f15 f16 f17 f18 f19
  replace f0 := shm_4 f0
  replace f1 := shm_107 f1
  replace f2 := shm_948 f2
  replace f3 := shm_6 f3
  replace f4 := shm_396 f4
  replace f5 := shm_396 f5
  replace f6 := shm_941 f6
  replace f7 := shm_942 f7
  replace f8 := shm_943 f8
  replace f9 := shm_944 f9
  replace f10 := shm_945 f10
  replace f11 := shm_946 f11
  replace f12 := shm_950 f12
  replace f13 := shm_951 f13
  replace f14 := shm_952 f14
  replace f15 := shm_953 f15
  replace f16 := shm_5 f16
  replace f17 := shm_5 f17
  replace f18 := shm_5 f18
  replace f19 := shm_5 f19
  have q5 : n_v vs 5 = n_v vs 0 := f16.symm
  have q6 : n_v vs 6 = n_v vs 1 := f17.symm
  have q7 : n_v vs 7 = n_v vs 2 := f18.symm
  have q8 : n_v vs 8 = n_v vs 3 := f19.symm
  simp only [q5, q6, q7, q8] at f2 f4 f5 f6 f7 f8 f9 f10 f11 f12 f13 f15
  have cr_0_82 := fdq_230 hD hth r0
  have cr_0_83 := fdq_126 hD hth r0
  have cr_0_84 := fdq_127 hD hth r0
  have cr_0_85 := fdq_128 hD hth r0
  have cr_0_86 := fdq_129 hD hth r0
  have cr_0_87 := fdq_119 hD hth r0
  have cr_0_88 := fdq_120 hD hth r0
  have cr_0_89 := fdq_121 hD hth r0
  have cr_0_90 := fdq_231 hD hth r0
  have cr_0_91 := fdq_232 hD hth r0
  have cr_0_92 := fdq_233 hD hth r0
  have ad_12 : v_ad (n_v vs 12) = w_ar ws (n_v vs 0) 92 := congrArg v_ad f2
  simp only [ad_12] at f1
  have h1 : v_iv (n_v vs 13) = w_ei ws (w_ar ws (n_v vs 0) 92) (v_iv (n_v vs 9)) := f1
  have hK_0_82 := elq_143 hD hth cr_0_82
  have hK_0_83 := elq_67 hD hth cr_0_83
  have hK_0_84 := elq_68 hD hth cr_0_84
  have hK_0_85 := elq_69 hD hth cr_0_85
  have hK_0_86 := elq_70 hD hth cr_0_86
  have hK_0_87 := elq_62 hD hth cr_0_87
  have hK_0_88 := elq_63 hD hth cr_0_88
  have hK_0_89 := elq_64 hD hth cr_0_89
  have hK_0_90 := elq_144 hD hth cr_0_90
  have hK_0_91 := elq_145 hD hth cr_0_91
  have hK_0_92 := elq_146 hD hth cr_0_92
  have kz_0_79 := fdq_147 hD hth r0
  have kz_0_80 := fdq_131 hD hth r0
  have kz_0_81 := fdq_124 hD hth r0
  obtain ⟨x, ex, hx⟩ := iv_ex (ta := ta) (lo := (-2)) (hi := 79) (z := 0 + (1 * v_iv (n_v vs 11) + 0)) (by omega) (by omega) (by omega) (by omega)
  have ex2 : v_iv (Value.int x) = 0 + (1 * v_iv (n_v vs 11) + 0) := ex
  have ex3 : (-2) ≤ v_iv (Value.int x) ∧ v_iv (Value.int x) ≤ 79 := tv_rng hx
  have e_0 : n_v (vs ++ [Value.int x]) 0 = n_v vs 0 := n_v_old (by rw [hl]; decide)
  have e_1 : n_v (vs ++ [Value.int x]) 1 = n_v vs 1 := n_v_old (by rw [hl]; decide)
  have e_2 : n_v (vs ++ [Value.int x]) 2 = n_v vs 2 := n_v_old (by rw [hl]; decide)
  have e_3 : n_v (vs ++ [Value.int x]) 3 = n_v vs 3 := n_v_old (by rw [hl]; decide)
  have e_4 : n_v (vs ++ [Value.int x]) 4 = n_v vs 4 := n_v_old (by rw [hl]; decide)
  have e_5 : n_v (vs ++ [Value.int x]) 5 = n_v vs 5 := n_v_old (by rw [hl]; decide)
  have e_6 : n_v (vs ++ [Value.int x]) 6 = n_v vs 6 := n_v_old (by rw [hl]; decide)
  have e_7 : n_v (vs ++ [Value.int x]) 7 = n_v vs 7 := n_v_old (by rw [hl]; decide)
  have e_8 : n_v (vs ++ [Value.int x]) 8 = n_v vs 8 := n_v_old (by rw [hl]; decide)
  have e_10 : n_v (vs ++ [Value.int x]) 10 = n_v vs 10 := n_v_old (by rw [hl]; decide)
  have e_13 : n_v (vs ++ [Value.int x]) 13 = n_v vs 13 := n_v_old (by rw [hl]; decide)
  have e_14 : n_v (vs ++ [Value.int x]) 14 = n_v vs 14 := n_v_old (by rw [hl]; decide)
  have e_15 : n_v (vs ++ [Value.int x]) 15 = n_v vs 15 := n_v_old (by rw [hl]; decide)
  have e_16 : n_v (vs ++ [Value.int x]) 16 = Value.int x := n_v_new hl
  have nf0 : fc_1 PRD (20, [7, 6], [50, 0, 0, 0, 6, 4, 2, 1, 0, 0, 1, 1, 1]) ws (vs ++ [Value.int x]) := by
    refine ⟨nf_inA hl rfl, sgq_396 ?_⟩
    · show (v_iv (n_v (vs ++ [Value.int x]) 7) + 1) ≤ v_iv (n_v (vs ++ [Value.int x]) 6)
      simp only [e_6, e_7, q6, q7]
      exact vc_Mo_augment_6_0 (v_iv (n_v vs 1)) (v_iv (n_v vs 2)) (v_iv (n_v vs 9)) k1 k2 f4
  have nf1 : fc_1 PRD (20, [8, 6], [50, 0, 0, 0, 6, 4, 2, 1, 0, 0, 1, 1, 1]) ws (vs ++ [Value.int x]) := by
    refine ⟨nf_inA hl rfl, sgq_396 ?_⟩
    · show (v_iv (n_v (vs ++ [Value.int x]) 8) + 1) ≤ v_iv (n_v (vs ++ [Value.int x]) 6)
      simp only [e_6, e_8, q6, q8]
      exact vc_Mo_augment_6_1 (v_iv (n_v vs 1)) (v_iv (n_v vs 3)) (v_iv (n_v vs 9)) k1 k3 f5
  have nf2 : fc_1 PRD (20, [6], [50, 0, 0, 0, 2, 1, 0, 0, 78]) ws (vs ++ [Value.int x]) := by
    refine ⟨nf_inA hl rfl, sgq_941 ?_⟩
    · show v_iv (n_v (vs ++ [Value.int x]) 6) ≤ 78
      simp only [e_6, q6]
      exact vc_Mo_augment_6_2 (v_iv (n_v vs 1)) (v_iv (n_v vs 9)) k1 f6
  have nf3 : fc_1 PRD (20, [6, 5], [50, 1, 0, 1079, 1, 2, 1, 0, 4, 3, 2, 1, 79, 0, 2]) ws (vs ++ [Value.int x]) := by
    refine ⟨nf_inA hl rfl, sgq_942 ?_⟩
    · show v_iv (n_v (vs ++ [Value.int x]) 6) = (w_fi ws (n_v (vs ++ [Value.int x]) 5) 79 + 2)
      simp only [e_5, e_6, q5, q6]
      exact vc_Mo_augment_6_3 (v_iv (n_v vs 1)) (v_iv (n_v vs 9)) (w_fi ws (n_v vs 0) 79) k1 f7 kz_0_79
  have nf4 : fc_1 PRD (20, [7, 5], [50, 1, 0, 1079, 1, 2, 1, 0, 2, 1, 79]) ws (vs ++ [Value.int x]) := by
    refine ⟨nf_inA hl rfl, sgq_943 ?_⟩
    · show v_iv (n_v (vs ++ [Value.int x]) 7) = w_fi ws (n_v (vs ++ [Value.int x]) 5) 79
      simp only [e_5, e_7, q5, q7]
      exact vc_Mo_augment_6_4 (v_iv (n_v vs 2)) (v_iv (n_v vs 9)) (w_fi ws (n_v vs 0) 79) k2 f8 kz_0_79
  have nf5 : fc_1 PRD (20, [8, 5], [50, 1, 0, 1079, 1, 2, 1, 0, 4, 3, 2, 1, 79, 0, 1]) ws (vs ++ [Value.int x]) := by
    refine ⟨nf_inA hl rfl, sgq_944 ?_⟩
    · show v_iv (n_v (vs ++ [Value.int x]) 8) = (w_fi ws (n_v (vs ++ [Value.int x]) 5) 79 + 1)
      simp only [e_5, e_8, q5, q8]
      exact vc_Mo_augment_6_5 (v_iv (n_v vs 3)) (v_iv (n_v vs 9)) (w_fi ws (n_v vs 0) 79) k3 f9 kz_0_79
  have nf6 : fc_1 PRD (20, [5], [60, 3, 9, 397, 79, 80, 81, 90, 82, 83, 84, 85, 86, 87, 88, 89]) ws (vs ++ [Value.int x]) := by
    refine ⟨nf_inA hl rfl, sgq_945 ?_⟩
    · show FLO (w_fi ws (n_v (vs ++ [Value.int x]) 5) 79) (w_fi ws (n_v (vs ++ [Value.int x]) 5) 80) (w_fi ws (n_v (vs ++ [Value.int x]) 5) 81) (w_ei ws (w_ar ws (n_v (vs ++ [Value.int x]) 5) 90)) (w_ei ws (w_ar ws (n_v (vs ++ [Value.int x]) 5) 82)) (w_ei ws (w_ar ws (n_v (vs ++ [Value.int x]) 5) 83)) (w_ei ws (w_ar ws (n_v (vs ++ [Value.int x]) 5) 84)) (w_ei ws (w_ar ws (n_v (vs ++ [Value.int x]) 5) 85)) (w_ei ws (w_ar ws (n_v (vs ++ [Value.int x]) 5) 86)) (w_ei ws (w_ar ws (n_v (vs ++ [Value.int x]) 5) 87)) (w_ei ws (w_ar ws (n_v (vs ++ [Value.int x]) 5) 88)) (w_ei ws (w_ar ws (n_v (vs ++ [Value.int x]) 5) 89))
      simp only [e_5, q5]
      exact vc_Mo_augment_6_6 (w_fi ws (n_v vs 0) 79) (w_ei ws (w_ar ws (n_v vs 0) 90)) (w_ei ws (w_ar ws (n_v vs 0) 82)) (w_ei ws (w_ar ws (n_v vs 0) 83)) (w_ei ws (w_ar ws (n_v vs 0) 84)) (w_ei ws (w_ar ws (n_v vs 0) 85)) (w_ei ws (w_ar ws (n_v vs 0) 86)) (w_ei ws (w_ar ws (n_v vs 0) 87)) (w_ei ws (w_ar ws (n_v vs 0) 88)) (w_ei ws (w_ar ws (n_v vs 0) 89)) (w_fi ws (n_v vs 0) 80) (w_fi ws (n_v vs 0) 81) f10 kz_0_79 kz_0_80 kz_0_81
  have nf7 : fc_1 PRD (20, [5, 4], [60, 1, 1, 398, 79, 90]) ws (vs ++ [Value.int x]) := by
    refine ⟨nf_inA hl rfl, sgq_946 ?_⟩
    · show XLE (w_fi ws (n_v (vs ++ [Value.int x]) 5) 79) (w_ei ws (w_ar ws (n_v (vs ++ [Value.int x]) 5) 90)) (v_iv (n_v (vs ++ [Value.int x]) 4))
      simp only [e_4, e_5, q5]
      exact vc_Mo_augment_6_7 (v_iv (n_v vs 4)) (w_fi ws (n_v vs 0) 79) (w_ei ws (w_ar ws (n_v vs 0) 90)) k4 f11 kz_0_79
  have nf8 : fc_1 PRD (20, [5, 6, 7], [60, 0, 2, 401, 90, 91]) ws (vs ++ [Value.int x]) := by
    refine ⟨nf_inA hl rfl, sgq_950 ?_⟩
    · show FPT (w_ei ws (w_ar ws (n_v (vs ++ [Value.int x]) 5) 90)) (w_ei ws (w_ar ws (n_v (vs ++ [Value.int x]) 5) 91)) (v_iv (n_v (vs ++ [Value.int x]) 6)) (v_iv (n_v (vs ++ [Value.int x]) 7))
      simp only [e_5, e_6, e_7, q5, q6, q7]
      exact vc_Mo_augment_6_8 (v_iv (n_v vs 1)) (v_iv (n_v vs 2)) (w_ei ws (w_ar ws (n_v vs 0) 90)) (w_ei ws (w_ar ws (n_v vs 0) 91)) k1 k2 f12
  have nf9 : fc_1 PRD (20, [5, 6, 14, 13], [60, 0, 3, 403, 90, 92, 91]) ws (vs ++ [Value.int x]) := by
    refine ⟨nf_inA hl rfl, sgq_959 ?_⟩
    · show BG1 (w_ei ws (w_ar ws (n_v (vs ++ [Value.int x]) 5) 90)) (w_ei ws (w_ar ws (n_v (vs ++ [Value.int x]) 5) 92)) (w_ei ws (w_ar ws (n_v (vs ++ [Value.int x]) 5) 91)) (v_iv (n_v (vs ++ [Value.int x]) 6)) (v_iv (n_v (vs ++ [Value.int x]) 14)) (v_iv (n_v (vs ++ [Value.int x]) 13))
      simp only [e_5, e_6, e_13, e_14, q5, q6]
      exact vc_Mo_augment_6_9 (v_iv (n_v vs 1)) (v_iv (n_v vs 9)) (v_iv (n_v vs 13)) (v_iv (n_v vs 14)) (w_ei ws (w_ar ws (n_v vs 0) 92)) (w_ei ws (w_ar ws (n_v vs 0) 90)) (w_ei ws (w_ar ws (n_v vs 0) 91)) k1 k9 k13 k14 d0 f0 h1 f15
  have nf10 : fc_1 PRD (20, [5, 6, 13, 15], [60, 0, 2, 404, 90, 91]) ws (vs ++ [Value.int x]) := by
    refine ⟨nf_inA hl rfl, sgq_960 ?_⟩
    · show BF2 (w_ei ws (w_ar ws (n_v (vs ++ [Value.int x]) 5) 90)) (w_ei ws (w_ar ws (n_v (vs ++ [Value.int x]) 5) 91)) (v_iv (n_v (vs ++ [Value.int x]) 6)) (v_iv (n_v (vs ++ [Value.int x]) 13)) (v_iv (n_v (vs ++ [Value.int x]) 15))
      simp only [e_5, e_6, e_13, e_15, q5, q6]
      exact vc_Mo_augment_6_10 (v_iv (n_v vs 1)) (v_iv (n_v vs 13)) (v_iv (n_v vs 15)) (w_ei ws (w_ar ws (n_v vs 0) 90)) (w_ei ws (w_ar ws (n_v vs 0) 91)) k1 k13 k15
  have nf11 : fc_1 PRD (20, [5, 6, 7, 10, 13], [60, 0, 2, 393, 92, 91]) ws (vs ++ [Value.int x]) := by
    refine ⟨nf_inA hl rfl, sgq_956 ?_⟩
    · show AU2 (w_ei ws (w_ar ws (n_v (vs ++ [Value.int x]) 5) 92)) (w_ei ws (w_ar ws (n_v (vs ++ [Value.int x]) 5) 91)) (v_iv (n_v (vs ++ [Value.int x]) 6)) (v_iv (n_v (vs ++ [Value.int x]) 7)) (v_iv (n_v (vs ++ [Value.int x]) 10)) (v_iv (n_v (vs ++ [Value.int x]) 13))
      simp only [e_5, e_6, e_7, e_10, e_13, q5, q6, q7]
      exact vc_Mo_augment_6_11 (v_iv (n_v vs 1)) (v_iv (n_v vs 2)) (v_iv (n_v vs 9)) (v_iv (n_v vs 10)) (v_iv (n_v vs 13)) (v_iv (n_v vs 14)) (w_ei ws (w_ar ws (n_v vs 0) 92)) (w_ei ws (w_ar ws (n_v vs 0) 91)) k1 k2 k9 k10 k13 k14 d0 h1 f3 f13
  have nf12 : fc_1 PRD (20, [13, 6], [50, 0, 0, 0, 6, 4, 2, 1, 0, 0, 1, 1, 1]) ws (vs ++ [Value.int x]) := by
    refine ⟨nf_inA hl rfl, sgq_396 ?_⟩
    · show (v_iv (n_v (vs ++ [Value.int x]) 13) + 1) ≤ v_iv (n_v (vs ++ [Value.int x]) 6)
      simp only [e_6, e_13, q6]
      exact vc_Mo_augment_6_12 (v_iv (n_v vs 1)) (v_iv (n_v vs 2)) (v_iv (n_v vs 6)) (v_iv (n_v vs 9)) (v_iv (n_v vs 10)) (v_iv (n_v vs 13)) (v_iv (n_v vs 14)) (w_ei ws (w_ar ws (n_v vs 0) 92)) (w_fi ws (n_v vs 0) 79) (w_ei ws (w_ar ws (n_v vs 0) 91)) k1 k2 k6 k9 k10 k13 k14 d0 d4 d7 h1 f3 f7 f13 kz_0_79
  have nf13 : fc_1 PRD (20, [14, 10], [50, 0, 0, 0, 2, 1, 0, 1, 1]) ws (vs ++ [Value.int x]) := by
    refine ⟨nf_inA hl rfl, sgq_360 ?_⟩
    · show v_iv (n_v (vs ++ [Value.int x]) 14) ≤ v_iv (n_v (vs ++ [Value.int x]) 10)
      simp only [e_10, e_14]
      exact vc_Mo_augment_6_13 (v_iv (n_v vs 9)) (v_iv (n_v vs 10)) (v_iv (n_v vs 14)) k9 k10 k14 d0 d1 d3
  have nf14 : fc_1 PRD (23, [14, 16], [-79, -1, -1]) ws (vs ++ [Value.int x]) := by
    refine ⟨nf_inA hl rfl, sgq_961 ?_⟩
    · show (-1) * v_iv (n_v (vs ++ [Value.int x]) 14) + ((-1) * v_iv (n_v (vs ++ [Value.int x]) 16) + 0) ≤ (-79)
      simp only [e_14, e_16]
      exact vc_Mo_augment_6_14 (v_iv (n_v vs 9)) (v_iv (n_v vs 11)) (v_iv (n_v vs 14)) (v_iv (Value.int x)) k9 k11 k14 d0 f14 ex2
  have nf15 : fc_1 PRD (23, [16], [-1, -1]) ws (vs ++ [Value.int x]) := by
    refine ⟨nf_inA hl rfl, sgq_626 ?_⟩
    · show (-1) * v_iv (n_v (vs ++ [Value.int x]) 16) + 0 ≤ (-1)
      rw [e_16]
      exact vc_Mo_augment_6_15 (v_iv (n_v vs 9)) (v_iv (n_v vs 11)) (v_iv (n_v vs 14)) (v_iv (Value.int x)) k9 k11 k14 d0 f14 ex2
  have nf16 : fc_1 PRD (24, [0, 5], []) ws (vs ++ [Value.int x]) := by
    refine ⟨nf_inA hl rfl, sgq_5 ?_⟩
    · show n_v (vs ++ [Value.int x]) 0 = n_v (vs ++ [Value.int x]) 5
      first | rfl | simp only [e_0, e_5, q5, q6, q7, q8]
  have nf17 : fc_1 PRD (24, [1, 6], []) ws (vs ++ [Value.int x]) := by
    refine ⟨nf_inA hl rfl, sgq_5 ?_⟩
    · show n_v (vs ++ [Value.int x]) 1 = n_v (vs ++ [Value.int x]) 6
      first | rfl | simp only [e_1, e_6, q5, q6, q7, q8]
  have nf18 : fc_1 PRD (24, [2, 7], []) ws (vs ++ [Value.int x]) := by
    refine ⟨nf_inA hl rfl, sgq_5 ?_⟩
    · show n_v (vs ++ [Value.int x]) 2 = n_v (vs ++ [Value.int x]) 7
      first | rfl | simp only [e_2, e_7, q5, q6, q7, q8]
  have nf19 : fc_1 PRD (24, [3, 8], []) ws (vs ++ [Value.int x]) := by
    refine ⟨nf_inA hl rfl, sgq_5 ?_⟩
    · show n_v (vs ++ [Value.int x]) 3 = n_v (vs ++ [Value.int x]) 8
      first | rfl | simp only [e_3, e_8, q5, q6, q7, q8]
  obtain ⟨x0, e0, _, _⟩ := tv_int t11 rfl
  have e1 : v_iv (n_v vs 11) = x0.toInt := by rw [e0]; rfl
  have ho : sy_ofs (vs ++ [Value.int x]) (16, 11, 0, 0) := by
    refine ⟨x, x0, by rw [List.getElem?_append_right (by rw [hl]; decide), hl]; rfl, ?_, ?_, ?_⟩
    · rw [List.getElem?_append_left (by rw [hl]; decide)]; exact n_v_some (by rw [hl]; decide) e0
    · show x0.toInt + 0 ≤ x.toInt; omega
    · show x.toInt ≤ x0.toInt + 0; omega
  exact ⟨(fun _ h => (by cases h)), [Value.int x], ag_one hx, List.forall_mem_cons.mpr ⟨⟨show (20 : Nat) < 100 from by decide, nf0⟩, List.forall_mem_cons.mpr ⟨⟨show (20 : Nat) < 100 from by decide, nf1⟩, List.forall_mem_cons.mpr ⟨⟨show (20 : Nat) < 100 from by decide, nf2⟩, List.forall_mem_cons.mpr ⟨⟨show (20 : Nat) < 100 from by decide, nf3⟩, List.forall_mem_cons.mpr ⟨⟨show (20 : Nat) < 100 from by decide, nf4⟩, List.forall_mem_cons.mpr ⟨⟨show (20 : Nat) < 100 from by decide, nf5⟩, List.forall_mem_cons.mpr ⟨⟨show (20 : Nat) < 100 from by decide, nf6⟩, List.forall_mem_cons.mpr ⟨⟨show (20 : Nat) < 100 from by decide, nf7⟩, List.forall_mem_cons.mpr ⟨⟨show (20 : Nat) < 100 from by decide, nf8⟩, List.forall_mem_cons.mpr ⟨⟨show (20 : Nat) < 100 from by decide, nf9⟩, List.forall_mem_cons.mpr ⟨⟨show (20 : Nat) < 100 from by decide, nf10⟩, List.forall_mem_cons.mpr ⟨⟨show (20 : Nat) < 100 from by decide, nf11⟩, List.forall_mem_cons.mpr ⟨⟨show (20 : Nat) < 100 from by decide, nf12⟩, List.forall_mem_cons.mpr ⟨⟨show (20 : Nat) < 100 from by decide, nf13⟩, List.forall_mem_cons.mpr ⟨⟨show (23 : Nat) < 100 from by decide, nf14⟩, List.forall_mem_cons.mpr ⟨⟨show (23 : Nat) < 100 from by decide, nf15⟩, List.forall_mem_cons.mpr ⟨⟨show (24 : Nat) < 100 from by decide, nf16⟩, List.forall_mem_cons.mpr ⟨⟨show (24 : Nat) < 100 from by decide, nf17⟩, List.forall_mem_cons.mpr ⟨⟨show (24 : Nat) < 100 from by decide, nf18⟩, List.forall_mem_cons.mpr ⟨⟨show (24 : Nat) < 100 from by decide, nf19⟩, (fun _ h => (by cases h))⟩⟩⟩⟩⟩⟩⟩⟩⟩⟩⟩⟩⟩⟩⟩⟩⟩⟩⟩⟩, List.forall_mem_cons.mpr ⟨ho, (fun _ h => (by cases h))⟩⟩
set_option maxHeartbeats 4000000 in
theorem vc_Mo_augment_7_0 (x1 : Int) (x2 : Int) (k1 : 2 ≤ x1 ∧ x1 ≤ 78) (k2 : 0 ≤ x2 ∧ x2 ≤ 76) (f1 : (x2 + 1) ≤ x1) : (x2 + 1) ≤ x1 := by
  first
    | omega
    | (have h := au1_len ‹AU1 _ _ _ _ _›; omega)
set_option maxHeartbeats 4000000 in
theorem vc_Mo_augment_7_1 (x1 : Int) (x3 : Int) (k1 : 2 ≤ x1 ∧ x1 ≤ 78) (k3 : 1 ≤ x3 ∧ x3 ≤ 77) (f2 : (x3 + 1) ≤ x1) : (x3 + 1) ≤ x1 := by
  first
    | omega
    | (have h := au1_len ‹AU1 _ _ _ _ _›; omega)
set_option maxHeartbeats 4000000 in
theorem vc_Mo_augment_7_2 (x1 : Int) (k1 : 2 ≤ x1 ∧ x1 ≤ 78) (f3 : x1 ≤ 78) : x1 ≤ 78 := by
  first
    | omega
    | (have h := au1_len ‹AU1 _ _ _ _ _›; omega)
set_option maxHeartbeats 4000000 in
theorem vc_Mo_augment_7_3 (x1 : Int) (pointMany_0 : Int) (k1 : 2 ≤ x1 ∧ x1 ≤ 78) (f4 : x1 = (pointMany_0 + 2)) (kz_0_79 : 0 ≤ pointMany_0 ∧ pointMany_0 ≤ 76) : x1 = (pointMany_0 + 2) := by
  first
    | omega
    | (have h := au1_len ‹AU1 _ _ _ _ _›; omega)
set_option maxHeartbeats 4000000 in
theorem vc_Mo_augment_7_4 (x2 : Int) (pointMany_0 : Int) (k2 : 0 ≤ x2 ∧ x2 ≤ 76) (f5 : x2 = pointMany_0) (kz_0_79 : 0 ≤ pointMany_0 ∧ pointMany_0 ≤ 76) : x2 = pointMany_0 := by
  first
    | omega
    | (have h := au1_len ‹AU1 _ _ _ _ _›; omega)
set_option maxHeartbeats 4000000 in
theorem vc_Mo_augment_7_5 (x3 : Int) (pointMany_0 : Int) (k3 : 1 ≤ x3 ∧ x3 ≤ 77) (f6 : x3 = (pointMany_0 + 1)) (kz_0_79 : 0 ≤ pointMany_0 ∧ pointMany_0 ≤ 76) : x3 = (pointMany_0 + 1) := by
  first
    | omega
    | (have h := au1_len ‹AU1 _ _ _ _ _›; omega)
set_option maxHeartbeats 4000000 in
theorem vc_Mo_augment_7_6 (pointMany_0 : Int) (flow_0 : Int → Int) (spot_0 : Int → Int) (costA_0 : Int → Int) (costB_0 : Int → Int) (costW_0 : Int → Int) (costPlain_0 : Int → Int) (apartA_0 : Int → Int) (apartB_0 : Int → Int) (apart_0 : Int → Int) (costMany_0 : Int) (apartMany_0 : Int) (f7 : FLO (pointMany_0) (costMany_0) (apartMany_0) (flow_0) (spot_0) (costA_0) (costB_0) (costW_0) (costPlain_0) (apartA_0) (apartB_0) (apart_0)) (kz_0_79 : 0 ≤ pointMany_0 ∧ pointMany_0 ≤ 76) (kz_0_80 : 0 ≤ costMany_0 ∧ costMany_0 ≤ 200) (kz_0_81 : 0 ≤ apartMany_0 ∧ apartMany_0 ≤ 200) : FLO (pointMany_0) (costMany_0) (apartMany_0) (flow_0) (spot_0) (costA_0) (costB_0) (costW_0) (costPlain_0) (apartA_0) (apartB_0) (apart_0) := by
  first
    | assumption
    | exact (psh_end ‹PSH _ _ _ _ _ _ _ _ _ _ _ _ _ _ _ _› (by omega)).1
set_option maxHeartbeats 4000000 in
theorem vc_Mo_augment_7_7 (x4 : Int) (pointMany_0 : Int) (flow_0 : Int → Int) (k4 : (-2) ≤ x4 ∧ x4 ≤ 180000001) (f8 : XLE (pointMany_0) (flow_0) (x4)) (kz_0_79 : 0 ≤ pointMany_0 ∧ pointMany_0 ≤ 76) : XLE (pointMany_0) (flow_0) (x4) := by
  assumption
set_option maxHeartbeats 4000000 in
theorem vc_Mo_augment_7_8 (x1 : Int) (x2 : Int) (flow_0 : Int → Int) (cameBy_0 : Int → Int) (k1 : 2 ≤ x1 ∧ x1 ≤ 78) (k2 : 0 ≤ x2 ∧ x2 ≤ 76) (f9 : FPT (flow_0) (cameBy_0) (x1) (x2)) : FPT (flow_0) (cameBy_0) (x1) (x2) := by
  first
    | assumption
    | exact fpt_start ‹AU0 _ _› (by omega) (by assumption) (by omega)
    | exact fpt_step2 ‹FPT _ _ _ _› (by assumption) rfl (by assumption) (by assumption) (by assumption) (by assumption) (by omega)
set_option maxHeartbeats 4000000 in
theorem vc_Mo_augment_7_9 (x1 : Int) (x2 : Int) (x10 : Int) (x11 : Int) (cameBy_0 : Int → Int) (queue_0 : Int → Int) (k1 : 2 ≤ x1 ∧ x1 ≤ 78) (k2 : 0 ≤ x2 ∧ x2 ≤ 76) (k10 : 1 ≤ x10 ∧ x10 ≤ 79) (k11 : 0 ≤ x11 ∧ x11 ≤ 77) (f12 : AU2 (queue_0) (cameBy_0) (x1) (x2) (x10) (x11)) : AU1 (queue_0) (cameBy_0) (x1) (x2) (x10) := by
  exact ‹AU2 _ _ _ _ _ _›.1
set_option maxHeartbeats 4000000 in
theorem vc_Mo_augment_7_10 (x1 : Int) (x9 : Int) (x11 : Int) (x12 : Int) (flow_0 : Int → Int) (cameBy_0 : Int → Int) (queue_0 : Int → Int) (k1 : 2 ≤ x1 ∧ x1 ≤ 78) (k9 : 1 ≤ x9 ∧ x9 ≤ 78) (k11 : 0 ≤ x11 ∧ x11 ≤ 77) (k12 : 2 ≤ x12 ∧ x12 ≤ 78) (f0 : x1 ≤ x12) (f10 : BG1 (flow_0) (queue_0) (cameBy_0) (x1) (x9) (x11)) (f11 : BF2 (flow_0) (cameBy_0) (x1) (x11) (x12)) : BF1 (flow_0) (queue_0) (cameBy_0) (x1) (x9) := by
  exact bf1_next ‹BG1 _ _ _ _ _ _›.1 ‹BF2 _ _ _ _ _› (by omega) ‹BG1 _ _ _ _ _ _›.2.1.symm (by omega)
set_option maxHeartbeats 4000000 in
theorem vc_Mo_augment_7_11 (x9 : Int) (x13 : Int) (gx : Int) (k9 : 1 ≤ x9 ∧ x9 ≤ 78) (k13 : (-2) ≤ x13 ∧ x13 ≤ 79) (f15 : (-1) * x9 + ((-1) * x13 + 0) ≤ (-79)) (ex2 : gx = 0 + (1 * x13 + 0)) : (-1) * x9 + ((-1) * gx + 0) ≤ (-79) := by
  first
    | omega
    | (have h := au1_len ‹AU1 _ _ _ _ _›; omega)
set_option maxHeartbeats 4000000 in
theorem vc_Mo_augment_7_12 (x13 : Int) (gx : Int) (k13 : (-2) ≤ x13 ∧ x13 ≤ 79) (f16 : (-1) * x13 + 0 ≤ (-1)) (ex2 : gx = 0 + (1 * x13 + 0)) : (-1) * gx + 0 ≤ (-1) := by
  first
    | omega
    | (have h := au1_len ‹AU1 _ _ _ _ _›; omega)
def o_Mo_augment_7 : or_T := (126, 14, [(0, (2, 0, 0, [165])), (1, (0, 2, 78, [])), (2, (0, 0, 76, [])), (3, (0, 1, 77, [])), (4, (0, -2, 180000001, [])), (5, (2, 0, 0, [165])), (6, (0, 2, 78, [])), (7, (0, 0, 76, [])), (8, (0, 1, 77, [])), (9, (0, 1, 78, [])), (10, (0, 1, 79, [])), (11, (0, 0, 77, [])), (12, (0, 2, 78, [])), (13, (0, -2, 79, []))], [(7, [12, 6], [3]), (20, [7, 6], [50, 0, 0, 0, 6, 4, 2, 1, 0, 0, 1, 1, 1]), (20, [8, 6], [50, 0, 0, 0, 6, 4, 2, 1, 0, 0, 1, 1, 1]), (20, [6], [50, 0, 0, 0, 2, 1, 0, 0, 78]), (20, [6, 5], [50, 1, 0, 1079, 1, 2, 1, 0, 4, 3, 2, 1, 79, 0, 2]), (20, [7, 5], [50, 1, 0, 1079, 1, 2, 1, 0, 2, 1, 79]), (20, [8, 5], [50, 1, 0, 1079, 1, 2, 1, 0, 4, 3, 2, 1, 79, 0, 1]), (20, [5], [60, 3, 9, 397, 79, 80, 81, 90, 82, 83, 84, 85, 86, 87, 88, 89]), (20, [5, 4], [60, 1, 1, 398, 79, 90]), (20, [5, 6, 7], [60, 0, 2, 401, 90, 91]), (20, [5, 6, 9, 11], [60, 0, 3, 403, 90, 92, 91]), (20, [5, 6, 11, 12], [60, 0, 2, 404, 90, 91]), (20, [5, 6, 7, 10, 11], [60, 0, 2, 393, 92, 91]), (20, [11, 6], [50, 0, 0, 0, 6, 4, 2, 1, 0, 0, 1, 1, 1]), (20, [9, 10], [50, 0, 0, 0, 2, 1, 0, 1, 1]), (23, [9, 13], [-79, -1, -1]), (23, [13], [-1, -1]), (24, [0, 5], []), (24, [1, 6], []), (24, [2, 7], []), (24, [3, 8], [])], [], [(0, -2, 79, [])], [(20, [7, 6], [50, 0, 0, 0, 6, 4, 2, 1, 0, 0, 1, 1, 1]), (20, [8, 6], [50, 0, 0, 0, 6, 4, 2, 1, 0, 0, 1, 1, 1]), (20, [6], [50, 0, 0, 0, 2, 1, 0, 0, 78]), (20, [6, 5], [50, 1, 0, 1079, 1, 2, 1, 0, 4, 3, 2, 1, 79, 0, 2]), (20, [7, 5], [50, 1, 0, 1079, 1, 2, 1, 0, 2, 1, 79]), (20, [8, 5], [50, 1, 0, 1079, 1, 2, 1, 0, 4, 3, 2, 1, 79, 0, 1]), (20, [5], [60, 3, 9, 397, 79, 80, 81, 90, 82, 83, 84, 85, 86, 87, 88, 89]), (20, [5, 4], [60, 1, 1, 398, 79, 90]), (20, [5, 6, 7], [60, 0, 2, 401, 90, 91]), (20, [5, 6, 7, 10], [60, 0, 2, 392, 92, 91]), (20, [5, 6, 9], [60, 0, 3, 402, 90, 92, 91]), (23, [9, 14], [-79, -1, -1]), (23, [14], [-1, -1]), (24, [0, 5], []), (24, [1, 6], []), (24, [2, 7], []), (24, [3, 8], [])], [(14, 13, 0, 0)], [(12, 6, 0, 4294967296), (1, 6, -4294967296, 0), (2, 7, -4294967296, 0), (3, 8, -4294967296, 0), (6, 1, -4294967296, 0), (7, 2, -4294967296, 0), (8, 3, -4294967296, 0), (9, 10, -4294967296, 0), (12, 1, -4294967296, 0), (12, 6, -4294967296, 0)])
theorem oo_Mo_augment_7 {kA : Nat → ClassId} : or_ok PRD kA GG o_Mo_augment_7 := by
  refine or_mk fun A ta ws vs hD hth hl => ?_
  intro t0 r0 t1 k1 t2 k2 t3 k3 t4 k4 t5 r5 t6 k6 t7 k7 t8 k8 t9 k9 t10 k10 t11 k11 t12 k12 t13 k13 d0 d1 d2 d3 d4 d5 d6 d7 d8 d9 f0 f1 f2 f3 f4 f5 f6 f7 f8 f9 f10 f11 f12 f13 f14 f15 f16 f17 f18 f19 f20
  replace f0 := shm_2 f0
  replace f1 := shm_396 f1
  replace f2 := shm_396 f2
  replace f3 := shm_941 f3
  replace f4 := shm_942 f4
  replace f5 := shm_943 f5
  replace f6 := shm_944 f6
  replace f7 := shm_945 f7
  replace f8 := shm_946 f8
  replace f9 := shm_950 f9
  replace f10 := shm_959 f10
  replace f11 := shm_960 f11
  replace f12 := shm_956 f12
  replace f13 := shm_396 f13
  replace f14 := shm_360 f14
  replace f15 := shm_961 f15
  replace f16 := shm_626 f16
  replace f17 := shm_5 f17
  replace f18 := shm_5 f18
  replace f19 := shm_5 f19
  replace f20 := shm_5 f20
  have q5 : n_v vs 5 = n_v vs 0 := f17.symm
  have q6 : n_v vs 6 = n_v vs 1 := f18.symm
  have q7 : n_v vs 7 = n_v vs 2 := f19.symm
  have q8 : n_v vs 8 = n_v vs 3 := f20.symm
  simp only [q6, q7, q8, q5] at f0 f1 f2 f3 f4 f5 f6 f7 f8 f9 f10 f11 f12 f13
  have cr_0_82 := fdq_230 hD hth r0
  have cr_0_83 := fdq_126 hD hth r0
  have cr_0_84 := fdq_127 hD hth r0
  have cr_0_85 := fdq_128 hD hth r0
  have cr_0_86 := fdq_129 hD hth r0
  have cr_0_87 := fdq_119 hD hth r0
  have cr_0_88 := fdq_120 hD hth r0
  have cr_0_89 := fdq_121 hD hth r0
  have cr_0_90 := fdq_231 hD hth r0
  have cr_0_91 := fdq_232 hD hth r0
  have cr_0_92 := fdq_233 hD hth r0
  have hK_0_82 := elq_143 hD hth cr_0_82
  have hK_0_83 := elq_67 hD hth cr_0_83
  have hK_0_84 := elq_68 hD hth cr_0_84
  have hK_0_85 := elq_69 hD hth cr_0_85
  have hK_0_86 := elq_70 hD hth cr_0_86
  have hK_0_87 := elq_62 hD hth cr_0_87
  have hK_0_88 := elq_63 hD hth cr_0_88
  have hK_0_89 := elq_64 hD hth cr_0_89
  have hK_0_90 := elq_144 hD hth cr_0_90
  have hK_0_91 := elq_145 hD hth cr_0_91
  have hK_0_92 := elq_146 hD hth cr_0_92
  have kz_0_79 := fdq_147 hD hth r0
  have kz_0_80 := fdq_131 hD hth r0
  have kz_0_81 := fdq_124 hD hth r0
  obtain ⟨x, ex, hx⟩ := iv_ex (ta := ta) (lo := (-2)) (hi := 79) (z := 0 + (1 * v_iv (n_v vs 13) + 0)) (by omega) (by omega) (by omega) (by omega)
  have ex2 : v_iv (Value.int x) = 0 + (1 * v_iv (n_v vs 13) + 0) := ex
  have ex3 : (-2) ≤ v_iv (Value.int x) ∧ v_iv (Value.int x) ≤ 79 := tv_rng hx
  have e_0 : n_v (vs ++ [Value.int x]) 0 = n_v vs 0 := n_v_old (by rw [hl]; decide)
  have e_1 : n_v (vs ++ [Value.int x]) 1 = n_v vs 1 := n_v_old (by rw [hl]; decide)
  have e_2 : n_v (vs ++ [Value.int x]) 2 = n_v vs 2 := n_v_old (by rw [hl]; decide)
  have e_3 : n_v (vs ++ [Value.int x]) 3 = n_v vs 3 := n_v_old (by rw [hl]; decide)
  have e_4 : n_v (vs ++ [Value.int x]) 4 = n_v vs 4 := n_v_old (by rw [hl]; decide)
  have e_5 : n_v (vs ++ [Value.int x]) 5 = n_v vs 5 := n_v_old (by rw [hl]; decide)
  have e_6 : n_v (vs ++ [Value.int x]) 6 = n_v vs 6 := n_v_old (by rw [hl]; decide)
  have e_7 : n_v (vs ++ [Value.int x]) 7 = n_v vs 7 := n_v_old (by rw [hl]; decide)
  have e_8 : n_v (vs ++ [Value.int x]) 8 = n_v vs 8 := n_v_old (by rw [hl]; decide)
  have e_9 : n_v (vs ++ [Value.int x]) 9 = n_v vs 9 := n_v_old (by rw [hl]; decide)
  have e_10 : n_v (vs ++ [Value.int x]) 10 = n_v vs 10 := n_v_old (by rw [hl]; decide)
  have e_14 : n_v (vs ++ [Value.int x]) 14 = Value.int x := n_v_new hl
  have nf0 : fc_1 PRD (20, [7, 6], [50, 0, 0, 0, 6, 4, 2, 1, 0, 0, 1, 1, 1]) ws (vs ++ [Value.int x]) := by
    refine ⟨nf_inA hl rfl, sgq_396 ?_⟩
    · show (v_iv (n_v (vs ++ [Value.int x]) 7) + 1) ≤ v_iv (n_v (vs ++ [Value.int x]) 6)
      simp only [e_6, e_7, q6, q7]
      exact vc_Mo_augment_7_0 (v_iv (n_v vs 1)) (v_iv (n_v vs 2)) k1 k2 f1
  have nf1 : fc_1 PRD (20, [8, 6], [50, 0, 0, 0, 6, 4, 2, 1, 0, 0, 1, 1, 1]) ws (vs ++ [Value.int x]) := by
    refine ⟨nf_inA hl rfl, sgq_396 ?_⟩
    · show (v_iv (n_v (vs ++ [Value.int x]) 8) + 1) ≤ v_iv (n_v (vs ++ [Value.int x]) 6)
      simp only [e_6, e_8, q6, q8]
      exact vc_Mo_augment_7_1 (v_iv (n_v vs 1)) (v_iv (n_v vs 3)) k1 k3 f2
  have nf2 : fc_1 PRD (20, [6], [50, 0, 0, 0, 2, 1, 0, 0, 78]) ws (vs ++ [Value.int x]) := by
    refine ⟨nf_inA hl rfl, sgq_941 ?_⟩
    · show v_iv (n_v (vs ++ [Value.int x]) 6) ≤ 78
      simp only [e_6, q6]
      exact vc_Mo_augment_7_2 (v_iv (n_v vs 1)) k1 f3
  have nf3 : fc_1 PRD (20, [6, 5], [50, 1, 0, 1079, 1, 2, 1, 0, 4, 3, 2, 1, 79, 0, 2]) ws (vs ++ [Value.int x]) := by
    refine ⟨nf_inA hl rfl, sgq_942 ?_⟩
    · show v_iv (n_v (vs ++ [Value.int x]) 6) = (w_fi ws (n_v (vs ++ [Value.int x]) 5) 79 + 2)
      simp only [e_5, e_6, q5, q6]
      exact vc_Mo_augment_7_3 (v_iv (n_v vs 1)) (w_fi ws (n_v vs 0) 79) k1 f4 kz_0_79
  have nf4 : fc_1 PRD (20, [7, 5], [50, 1, 0, 1079, 1, 2, 1, 0, 2, 1, 79]) ws (vs ++ [Value.int x]) := by
    refine ⟨nf_inA hl rfl, sgq_943 ?_⟩
    · show v_iv (n_v (vs ++ [Value.int x]) 7) = w_fi ws (n_v (vs ++ [Value.int x]) 5) 79
      simp only [e_5, e_7, q5, q7]
      exact vc_Mo_augment_7_4 (v_iv (n_v vs 2)) (w_fi ws (n_v vs 0) 79) k2 f5 kz_0_79
  have nf5 : fc_1 PRD (20, [8, 5], [50, 1, 0, 1079, 1, 2, 1, 0, 4, 3, 2, 1, 79, 0, 1]) ws (vs ++ [Value.int x]) := by
    refine ⟨nf_inA hl rfl, sgq_944 ?_⟩
    · show v_iv (n_v (vs ++ [Value.int x]) 8) = (w_fi ws (n_v (vs ++ [Value.int x]) 5) 79 + 1)
      simp only [e_5, e_8, q5, q8]
      exact vc_Mo_augment_7_5 (v_iv (n_v vs 3)) (w_fi ws (n_v vs 0) 79) k3 f6 kz_0_79
  have nf6 : fc_1 PRD (20, [5], [60, 3, 9, 397, 79, 80, 81, 90, 82, 83, 84, 85, 86, 87, 88, 89]) ws (vs ++ [Value.int x]) := by
    refine ⟨nf_inA hl rfl, sgq_945 ?_⟩
    · show FLO (w_fi ws (n_v (vs ++ [Value.int x]) 5) 79) (w_fi ws (n_v (vs ++ [Value.int x]) 5) 80) (w_fi ws (n_v (vs ++ [Value.int x]) 5) 81) (w_ei ws (w_ar ws (n_v (vs ++ [Value.int x]) 5) 90)) (w_ei ws (w_ar ws (n_v (vs ++ [Value.int x]) 5) 82)) (w_ei ws (w_ar ws (n_v (vs ++ [Value.int x]) 5) 83)) (w_ei ws (w_ar ws (n_v (vs ++ [Value.int x]) 5) 84)) (w_ei ws (w_ar ws (n_v (vs ++ [Value.int x]) 5) 85)) (w_ei ws (w_ar ws (n_v (vs ++ [Value.int x]) 5) 86)) (w_ei ws (w_ar ws (n_v (vs ++ [Value.int x]) 5) 87)) (w_ei ws (w_ar ws (n_v (vs ++ [Value.int x]) 5) 88)) (w_ei ws (w_ar ws (n_v (vs ++ [Value.int x]) 5) 89))
      simp only [e_5, q5]
      exact vc_Mo_augment_7_6 (w_fi ws (n_v vs 0) 79) (w_ei ws (w_ar ws (n_v vs 0) 90)) (w_ei ws (w_ar ws (n_v vs 0) 82)) (w_ei ws (w_ar ws (n_v vs 0) 83)) (w_ei ws (w_ar ws (n_v vs 0) 84)) (w_ei ws (w_ar ws (n_v vs 0) 85)) (w_ei ws (w_ar ws (n_v vs 0) 86)) (w_ei ws (w_ar ws (n_v vs 0) 87)) (w_ei ws (w_ar ws (n_v vs 0) 88)) (w_ei ws (w_ar ws (n_v vs 0) 89)) (w_fi ws (n_v vs 0) 80) (w_fi ws (n_v vs 0) 81) f7 kz_0_79 kz_0_80 kz_0_81
  have nf7 : fc_1 PRD (20, [5, 4], [60, 1, 1, 398, 79, 90]) ws (vs ++ [Value.int x]) := by
    refine ⟨nf_inA hl rfl, sgq_946 ?_⟩
    · show XLE (w_fi ws (n_v (vs ++ [Value.int x]) 5) 79) (w_ei ws (w_ar ws (n_v (vs ++ [Value.int x]) 5) 90)) (v_iv (n_v (vs ++ [Value.int x]) 4))
      simp only [e_4, e_5, q5]
      exact vc_Mo_augment_7_7 (v_iv (n_v vs 4)) (w_fi ws (n_v vs 0) 79) (w_ei ws (w_ar ws (n_v vs 0) 90)) k4 f8 kz_0_79
  have nf8 : fc_1 PRD (20, [5, 6, 7], [60, 0, 2, 401, 90, 91]) ws (vs ++ [Value.int x]) := by
    refine ⟨nf_inA hl rfl, sgq_950 ?_⟩
    · show FPT (w_ei ws (w_ar ws (n_v (vs ++ [Value.int x]) 5) 90)) (w_ei ws (w_ar ws (n_v (vs ++ [Value.int x]) 5) 91)) (v_iv (n_v (vs ++ [Value.int x]) 6)) (v_iv (n_v (vs ++ [Value.int x]) 7))
      simp only [e_5, e_6, e_7, q5, q6, q7]
      exact vc_Mo_augment_7_8 (v_iv (n_v vs 1)) (v_iv (n_v vs 2)) (w_ei ws (w_ar ws (n_v vs 0) 90)) (w_ei ws (w_ar ws (n_v vs 0) 91)) k1 k2 f9
  have nf9 : fc_1 PRD (20, [5, 6, 7, 10], [60, 0, 2, 392, 92, 91]) ws (vs ++ [Value.int x]) := by
    refine ⟨nf_inA hl rfl, sgq_951 ?_⟩
    · show AU1 (w_ei ws (w_ar ws (n_v (vs ++ [Value.int x]) 5) 92)) (w_ei ws (w_ar ws (n_v (vs ++ [Value.int x]) 5) 91)) (v_iv (n_v (vs ++ [Value.int x]) 6)) (v_iv (n_v (vs ++ [Value.int x]) 7)) (v_iv (n_v (vs ++ [Value.int x]) 10))
      simp only [e_5, e_6, e_7, e_10, q5, q6, q7]
      exact vc_Mo_augment_7_9 (v_iv (n_v vs 1)) (v_iv (n_v vs 2)) (v_iv (n_v vs 10)) (v_iv (n_v vs 11)) (w_ei ws (w_ar ws (n_v vs 0) 91)) (w_ei ws (w_ar ws (n_v vs 0) 92)) k1 k2 k10 k11 f12
  have nf10 : fc_1 PRD (20, [5, 6, 9], [60, 0, 3, 402, 90, 92, 91]) ws (vs ++ [Value.int x]) := by
    refine ⟨nf_inA hl rfl, sgq_953 ?_⟩
    · show BF1 (w_ei ws (w_ar ws (n_v (vs ++ [Value.int x]) 5) 90)) (w_ei ws (w_ar ws (n_v (vs ++ [Value.int x]) 5) 92)) (w_ei ws (w_ar ws (n_v (vs ++ [Value.int x]) 5) 91)) (v_iv (n_v (vs ++ [Value.int x]) 6)) (v_iv (n_v (vs ++ [Value.int x]) 9))
      simp only [e_5, e_6, e_9, q5, q6]
      exact vc_Mo_augment_7_10 (v_iv (n_v vs 1)) (v_iv (n_v vs 9)) (v_iv (n_v vs 11)) (v_iv (n_v vs 12)) (w_ei ws (w_ar ws (n_v vs 0) 90)) (w_ei ws (w_ar ws (n_v vs 0) 91)) (w_ei ws (w_ar ws (n_v vs 0) 92)) k1 k9 k11 k12 f0 f10 f11
  have nf11 : fc_1 PRD (23, [9, 14], [-79, -1, -1]) ws (vs ++ [Value.int x]) := by
    refine ⟨nf_inA hl rfl, sgq_961 ?_⟩
    · show (-1) * v_iv (n_v (vs ++ [Value.int x]) 9) + ((-1) * v_iv (n_v (vs ++ [Value.int x]) 14) + 0) ≤ (-79)
      simp only [e_9, e_14]
      exact vc_Mo_augment_7_11 (v_iv (n_v vs 9)) (v_iv (n_v vs 13)) (v_iv (Value.int x)) k9 k13 f15 ex2
  have nf12 : fc_1 PRD (23, [14], [-1, -1]) ws (vs ++ [Value.int x]) := by
    refine ⟨nf_inA hl rfl, sgq_626 ?_⟩
    · show (-1) * v_iv (n_v (vs ++ [Value.int x]) 14) + 0 ≤ (-1)
      rw [e_14]
      exact vc_Mo_augment_7_12 (v_iv (n_v vs 13)) (v_iv (Value.int x)) k13 f16 ex2
  have nf13 : fc_1 PRD (24, [0, 5], []) ws (vs ++ [Value.int x]) := by
    refine ⟨nf_inA hl rfl, sgq_5 ?_⟩
    · show n_v (vs ++ [Value.int x]) 0 = n_v (vs ++ [Value.int x]) 5
      first | rfl | simp only [e_0, e_5, q5, q6, q7, q8]
  have nf14 : fc_1 PRD (24, [1, 6], []) ws (vs ++ [Value.int x]) := by
    refine ⟨nf_inA hl rfl, sgq_5 ?_⟩
    · show n_v (vs ++ [Value.int x]) 1 = n_v (vs ++ [Value.int x]) 6
      first | rfl | simp only [e_1, e_6, q5, q6, q7, q8]
  have nf15 : fc_1 PRD (24, [2, 7], []) ws (vs ++ [Value.int x]) := by
    refine ⟨nf_inA hl rfl, sgq_5 ?_⟩
    · show n_v (vs ++ [Value.int x]) 2 = n_v (vs ++ [Value.int x]) 7
      first | rfl | simp only [e_2, e_7, q5, q6, q7, q8]
  have nf16 : fc_1 PRD (24, [3, 8], []) ws (vs ++ [Value.int x]) := by
    refine ⟨nf_inA hl rfl, sgq_5 ?_⟩
    · show n_v (vs ++ [Value.int x]) 3 = n_v (vs ++ [Value.int x]) 8
      first | rfl | simp only [e_3, e_8, q5, q6, q7, q8]
  obtain ⟨x0, e0, _, _⟩ := tv_int t13 rfl
  have e1 : v_iv (n_v vs 13) = x0.toInt := by rw [e0]; rfl
  have ho : sy_ofs (vs ++ [Value.int x]) (14, 13, 0, 0) := by
    refine ⟨x, x0, by rw [List.getElem?_append_right (by rw [hl]; decide), hl]; rfl, ?_, ?_, ?_⟩
    · rw [List.getElem?_append_left (by rw [hl]; decide)]; exact n_v_some (by rw [hl]; decide) e0
    · show x0.toInt + 0 ≤ x.toInt; omega
    · show x.toInt ≤ x0.toInt + 0; omega
  exact ⟨(fun _ h => (by cases h)), [Value.int x], ag_one hx, List.forall_mem_cons.mpr ⟨⟨show (20 : Nat) < 100 from by decide, nf0⟩, List.forall_mem_cons.mpr ⟨⟨show (20 : Nat) < 100 from by decide, nf1⟩, List.forall_mem_cons.mpr ⟨⟨show (20 : Nat) < 100 from by decide, nf2⟩, List.forall_mem_cons.mpr ⟨⟨show (20 : Nat) < 100 from by decide, nf3⟩, List.forall_mem_cons.mpr ⟨⟨show (20 : Nat) < 100 from by decide, nf4⟩, List.forall_mem_cons.mpr ⟨⟨show (20 : Nat) < 100 from by decide, nf5⟩, List.forall_mem_cons.mpr ⟨⟨show (20 : Nat) < 100 from by decide, nf6⟩, List.forall_mem_cons.mpr ⟨⟨show (20 : Nat) < 100 from by decide, nf7⟩, List.forall_mem_cons.mpr ⟨⟨show (20 : Nat) < 100 from by decide, nf8⟩, List.forall_mem_cons.mpr ⟨⟨show (20 : Nat) < 100 from by decide, nf9⟩, List.forall_mem_cons.mpr ⟨⟨show (20 : Nat) < 100 from by decide, nf10⟩, List.forall_mem_cons.mpr ⟨⟨show (23 : Nat) < 100 from by decide, nf11⟩, List.forall_mem_cons.mpr ⟨⟨show (23 : Nat) < 100 from by decide, nf12⟩, List.forall_mem_cons.mpr ⟨⟨show (24 : Nat) < 100 from by decide, nf13⟩, List.forall_mem_cons.mpr ⟨⟨show (24 : Nat) < 100 from by decide, nf14⟩, List.forall_mem_cons.mpr ⟨⟨show (24 : Nat) < 100 from by decide, nf15⟩, List.forall_mem_cons.mpr ⟨⟨show (24 : Nat) < 100 from by decide, nf16⟩, (fun _ h => (by cases h))⟩⟩⟩⟩⟩⟩⟩⟩⟩⟩⟩⟩⟩⟩⟩⟩⟩, List.forall_mem_cons.mpr ⟨ho, (fun _ h => (by cases h))⟩⟩
set_option maxHeartbeats 4000000 in
theorem vc_Mo_augment_8_0 (x1 : Int) (x11 : Int) (x12 : Int) (x15 : Int) (x16 : Int) (cameBy_0 : Int → Int) (flow_0 : Int → Int) (k1 : 2 ≤ x1 ∧ x1 ≤ 78) (k11 : 0 ≤ x11 ∧ x11 ≤ 77) (k12 : 0 ≤ x12 ∧ x12 ≤ 77) (k15 : 0 ≤ x15 ∧ x15 ≤ 77) (k16 : 1 ≤ x16 ∧ x16 ≤ 78) (f0 : x16 = x12 + 1) (f1 : 0 ≤ x15) (h2 : x15 = cameBy_0 (x12)) (f15 : BF2 (flow_0) (cameBy_0) (x1) (x11) (x12)) : BF2 (flow_0) (cameBy_0) (x1) (x11) (x16) := by
  first
    | exact bf2_zero (by omega)
    | exact bf2_skip1 ‹BF2 _ _ _ _ _› (by assumption) (by assumption) (by omega)
    | exact bf2_skip2 ‹BF2 _ _ _ _ _› (by assumption) (by assumption) (by assumption) (by assumption) (by omega)
    | exact bf2_step ‹BF2 _ _ _ _ _› (by assumption) (by assumption) rfl (by omega)
def o_Mo_augment_8 : or_T := (65, 17, [(1, (0, 2, 78, [])), (11, (0, 0, 77, [])), (12, (0, 0, 77, [])), (15, (0, 0, 77, [])), (16, (0, 1, 78, []))], [(6, [16, 12], [1]), (8, [15], [3]), (10, [15, 14, 12], []), (9, [14, 5], [91]), (20, [5, 6, 11, 12], [60, 0, 2, 404, 90, 91]), (24, [0, 5], []), (24, [1, 6], [])], [], [], [(20, [5, 6, 11, 16], [60, 0, 2, 404, 90, 91])], [], [])
theorem oo_Mo_augment_8 {kA : Nat → ClassId} : or_ok PRD kA GG o_Mo_augment_8 := by
  refine or_mk fun A ta ws vs hD hth hl => ?_
  intro t1 k1 t11 k11 t12 k12 t15 k15 t16 k16 f0 f1 f2 f3 f15 f21 f22
  replace f0 := shm_4 f0
  replace f1 := shm_32 f1
  replace f2 := shm_107 f2
  replace f3 := shm_949 f3
  replace f15 := shm_960 f15
  replace f21 := shm_5 f21
  replace f22 := shm_5 f22
  have q5 : n_v vs 5 = n_v vs 0 := f21.symm
  have q6 : n_v vs 6 = n_v vs 1 := f22.symm
  simp only [q5, q6] at f3 f15
  have ad_14 : v_ad (n_v vs 14) = w_ar ws (n_v vs 0) 91 := congrArg v_ad f3
  simp only [ad_14] at f2
  have h2 : v_iv (n_v vs 15) = w_ei ws (w_ar ws (n_v vs 0) 91) (v_iv (n_v vs 12)) := f2
  have nf0 : fc_1 PRD (20, [5, 6, 11, 16], [60, 0, 2, 404, 90, 91]) ws (vs) := by
    refine ⟨nf_in hl rfl, sgq_960 ?_⟩
    · show BF2 (w_ei ws (w_ar ws (n_v vs 5) 90)) (w_ei ws (w_ar ws (n_v vs 5) 91)) (v_iv (n_v vs 6)) (v_iv (n_v vs 11)) (v_iv (n_v vs 16))
      simp only [q5, q6]
      exact vc_Mo_augment_8_0 (v_iv (n_v vs 1)) (v_iv (n_v vs 11)) (v_iv (n_v vs 12)) (v_iv (n_v vs 15)) (v_iv (n_v vs 16)) (w_ei ws (w_ar ws (n_v vs 0) 91)) (w_ei ws (w_ar ws (n_v vs 0) 90)) k1 k11 k12 k15 k16 f0 f1 h2 f15
  refine ⟨(fun _ h => (by cases h)), [], trivial, ?_, (fun _ h => (by cases h))⟩
  rw [List.append_nil]
  exact List.forall_mem_cons.mpr ⟨⟨show (20 : Nat) < 100 from by decide, nf0⟩, (fun _ h => (by cases h))⟩
set_option maxHeartbeats 4000000 in
theorem vc_Mo_augment_9_r0 (x1 : Int) (x2 : Int) (x3 : Int) (x6 : Int) (x8 : Int) (x10 : Int) (x11 : Int) (x12 : Int) (x15 : Int) (x17 : Int) (x18 : Int) (cameBy_0 : Int → Int) (pointMany_0 : Int) (queue_0 : Int → Int) (k1 : 2 ≤ x1 ∧ x1 ≤ 78) (k2 : 0 ≤ x2 ∧ x2 ≤ 76) (k3 : 1 ≤ x3 ∧ x3 ≤ 77) (k6 : 2 ≤ x6 ∧ x6 ≤ 78) (k8 : 1 ≤ x8 ∧ x8 ≤ 77) (k10 : 1 ≤ x10 ∧ x10 ≤ 79) (k11 : 0 ≤ x11 ∧ x11 ≤ 77) (k12 : 0 ≤ x12 ∧ x12 ≤ 77) (k15 : (-1) ≤ x15 ∧ x15 ≤ (-1)) (k17 : 0 ≤ x17 ∧ x17 ≤ 6006) (k18 : 0 ≤ x18 ∧ x18 ≤ 6083) (d6 : x6 + (-4294967296) ≤ x1 ∧ x1 ≤ x6 + 0) (d8 : x8 + (-4294967296) ≤ x3 ∧ x3 ≤ x8 + 0) (d9 : x1 + (-4294967296) ≤ x6 ∧ x6 ≤ x1 + 0) (d11 : x3 + (-4294967296) ≤ x8 ∧ x8 ≤ x3 + 0) (f2 : x18 = x17 + x12) (f3 : x17 = x1 * x11) (h6 : x15 = cameBy_0 (x12)) (f8 : x12 < x1) (f12 : x1 = (pointMany_0 + 2)) (f14 : x3 = (pointMany_0 + 1)) (f20 : AU2 (queue_0) (cameBy_0) (x1) (x2) (x10) (x11)) (kz_0_79 : 0 ≤ pointMany_0 ∧ pointMany_0 ≤ 76) : 1 ≤ x10 ∧ x10 ≤ 77 := by
  have h := au1_len ‹AU2 _ _ _ _ _ _›.1
  have h2 := au1_room (v := x12) ‹AU2 _ _ _ _ _ _›.1 (by omega) (by omega) (by omega)
  omega
def o_Mo_augment_9 : or_T := (99, 20, [(0, (2, 0, 0, [165])), (1, (0, 2, 78, [])), (2, (0, 0, 76, [])), (3, (0, 1, 77, [])), (4, (0, -2, 180000001, [])), (5, (2, 0, 0, [165])), (6, (0, 2, 78, [])), (7, (0, 0, 76, [])), (8, (0, 1, 77, [])), (9, (0, 1, 78, [])), (10, (0, 1, 79, [])), (11, (0, 0, 77, [])), (12, (0, 0, 77, [])), (13, (0, -2, 79, [])), (14, (2, 0, 0, [228])), (15, (0, -1, -1, [])), (16, (2, 0, 0, [227])), (17, (0, 0, 6006, [])), (18, (0, 0, 6083, [])), (19, (0, 1, 410000000, []))], [(8, [19], [1]), (10, [19, 16, 18], []), (1, [18, 17, 12], []), (3, [17, 6, 11], []), (9, [16, 5], [90]), (8, [15], [2]), (10, [15, 14, 12], []), (9, [14, 5], [91]), (7, [12, 6], [2]), (20, [7, 6], [50, 0, 0, 0, 6, 4, 2, 1, 0, 0, 1, 1, 1]), (20, [8, 6], [50, 0, 0, 0, 6, 4, 2, 1, 0, 0, 1, 1, 1]), (20, [6], [50, 0, 0, 0, 2, 1, 0, 0, 78]), (20, [6, 5], [50, 1, 0, 1079, 1, 2, 1, 0, 4, 3, 2, 1, 79, 0, 2]), (20, [7, 5], [50, 1, 0, 1079, 1, 2, 1, 0, 2, 1, 79]), (20, [8, 5], [50, 1, 0, 1079, 1, 2, 1, 0, 4, 3, 2, 1, 79, 0, 1]), (20, [5], [60, 3, 9, 397, 79, 80, 81, 90, 82, 83, 84, 85, 86, 87, 88, 89]), (20, [5, 4], [60, 1, 1, 398, 79, 90]), (20, [5, 6, 7], [60, 0, 2, 401, 90, 91]), (20, [5, 6, 9, 11], [60, 0, 3, 403, 90, 92, 91]), (20, [5, 6, 11, 12], [60, 0, 2, 404, 90, 91]), (20, [5, 6, 7, 10, 11], [60, 0, 2, 393, 92, 91]), (20, [11, 6], [50, 0, 0, 0, 6, 4, 2, 1, 0, 0, 1, 1, 1]), (20, [9, 10], [50, 0, 0, 0, 2, 1, 0, 1, 1]), (23, [9, 13], [-79, -1, -1]), (23, [13], [-1, -1]), (24, [0, 5], []), (24, [1, 6], []), (24, [2, 7], []), (24, [3, 8], [])], [(10, (0, 1, 77, []))], [], [], [], [(18, 12, 0, 6006), (18, 6, -4294967296, 6005), (18, 1, -4294967296, 6006), (18, 6, -4294967296, 6006), (18, 17, 0, 77), (12, 6, -4294967296, -1), (1, 6, -4294967296, 0), (2, 7, -4294967296, 0), (3, 8, -4294967296, 0), (6, 1, -4294967296, 0), (7, 2, -4294967296, 0), (8, 3, -4294967296, 0), (9, 10, -4294967296, 0), (12, 1, -4294967296, 0), (12, 6, -4294967296, 0)])
theorem oo_Mo_augment_9 {kA : Nat → ClassId} : or_ok PRD kA GG o_Mo_augment_9 := by
  refine or_mk fun A ta ws vs hD hth hl => ?_
  intro t0 r0 t1 k1 t2 k2 t3 k3 t4 k4 t5 r5 t6 k6 t7 k7 t8 k8 t9 k9 t10 k10 t11 k11 t12 k12 t13 k13 t14 r14 t15 k15 t16 r16 t17 k17 t18 k18 t19 k19 d0 d1 d2 d3 d4 d5 d6 d7 d8 d9 d10 d11 d12 d13 d14 f0 f1 f2 f3 f4 f5 f6 f7 f8 f9 f10 f11 f12 f13 f14 f15 f16 f17 f18 f19 f20 f21 f22 f23 f24 f25 f26 f27 f28
  replace f3 := shm_38 f3
  replace f6 := shm_107 f6
  replace f7 := shm_949 f7
  replace f8 := shm_6 f8
  replace f12 := shm_942 f12
  replace f14 := shm_944 f14
  replace f20 := shm_956 f20
  replace f25 := shm_5 f25
  replace f26 := shm_5 f26
  replace f27 := shm_5 f27
  replace f28 := shm_5 f28
  have q5 : n_v vs 5 = n_v vs 0 := f25.symm
  have q6 : n_v vs 6 = n_v vs 1 := f26.symm
  have q7 : n_v vs 7 = n_v vs 2 := f27.symm
  have q8 : n_v vs 8 = n_v vs 3 := f28.symm
  simp only [q6, q5, q7, q8] at f3 f7 f8 f12 f14 f20
  have ad_14 : v_ad (n_v vs 14) = w_ar ws (n_v vs 0) 91 := congrArg v_ad f7
  simp only [ad_14] at f6
  have h6 : v_iv (n_v vs 15) = w_ei ws (w_ar ws (n_v vs 0) 91) (v_iv (n_v vs 12)) := f6
  have kz_0_79 := fdq_147 hD hth r0
  have hrf0 : 1 ≤ v_iv (n_v vs 10) ∧ v_iv (n_v vs 10) ≤ 77 := vc_Mo_augment_9_r0 (v_iv (n_v vs 1)) (v_iv (n_v vs 2)) (v_iv (n_v vs 3)) (v_iv (n_v vs 6)) (v_iv (n_v vs 8)) (v_iv (n_v vs 10)) (v_iv (n_v vs 11)) (v_iv (n_v vs 12)) (v_iv (n_v vs 15)) (v_iv (n_v vs 17)) (v_iv (n_v vs 18)) (w_ei ws (w_ar ws (n_v vs 0) 91)) (w_fi ws (n_v vs 0) 79) (w_ei ws (w_ar ws (n_v vs 0) 92)) k1 k2 k3 k6 k8 k10 k11 k12 k15 k17 k18 d6 d8 d9 d11 (shm_12 f2) f3 h6 f8 f12 f14 f20 kz_0_79
  have rf10 : tv_ok ta (0, 1, 77, []) (n_v vs 10) := tv_in t10 (by first | omega | grind) (by first | omega | grind)
  refine ⟨List.forall_mem_cons.mpr ⟨rf10, (fun _ h => (by cases h))⟩, [], trivial, ?_, (fun _ h => (by cases h))⟩
  rw [List.append_nil]
  exact (fun _ h => (by cases h))
set_option maxHeartbeats 4000000 in
theorem vc_Mo_augment_10_0 (x1 : Int) (x2 : Int) (x11 : Int) (x12 : Int) (x17 : Int) (x18 : Int) (x19 : Int) (x22 : Int) (pointMany_0 : Int) (flow_0 : Int → Int) (spot_0 : Int → Int) (costA_0 : Int → Int) (costB_0 : Int → Int) (costW_0 : Int → Int) (costPlain_0 : Int → Int) (apartA_0 : Int → Int) (apartB_0 : Int → Int) (apart_0 : Int → Int) (costMany_0 : Int) (apartMany_0 : Int) (pointMany_1 : Int) (flow_1 : Int → Int) (spot_1 : Int → Int) (costA_1 : Int → Int) (costB_1 : Int → Int) (costW_1 : Int → Int) (costPlain_1 : Int → Int) (apartA_1 : Int → Int) (apartB_1 : Int → Int) (apart_1 : Int → Int) (costMany_1 : Int) (apartMany_1 : Int) (flow_2 : Int → Int) (cameBy_2 : Int → Int) (pointMany_2 : Int) (spot_2 : Int → Int) (costA_2 : Int → Int) (costB_2 : Int → Int) (costW_2 : Int → Int) (costPlain_2 : Int → Int) (apartA_2 : Int → Int) (apartB_2 : Int → Int) (apart_2 : Int → Int) (costMany_2 : Int) (apartMany_2 : Int) (queue_2 : Int → Int) (cameBy_0 : Int → Int) (cameBy_1 : Int → Int) (queue_1 : Int → Int) (k1 : 2 ≤ x1 ∧ x1 ≤ 78) (k2 : 0 ≤ x2 ∧ x2 ≤ 76) (k11 : 0 ≤ x11 ∧ x11 ≤ 77) (k12 : 0 ≤ x12 ∧ x12 ≤ 77) (k17 : 0 ≤ x17 ∧ x17 ≤ 6006) (k18 : 0 ≤ x18 ∧ x18 ≤ 6083) (k19 : 1 ≤ x19 ∧ x19 ≤ 410000000) (k22 : 1 ≤ x22 ∧ x22 ≤ 78) (d0 : x12 + 1 ≤ x22 ∧ x22 ≤ x12 + 1) (f34 : x19 ≠ 0) (h35 : x19 = flow_2 (x18)) (f36 : x18 = x17 + x12) (f37 : x17 = x1 * x11) (f50 : FPT (flow_2) (cameBy_2) (x1) (x2)) (fe_0_79_1 : pointMany_0 = pointMany_1) (fe_0_80_1 : costMany_0 = costMany_1) (fe_0_81_1 : apartMany_0 = apartMany_1) (fe_0_79_2 : pointMany_1 = pointMany_2) (fe_0_80_2 : costMany_1 = costMany_2) (fe_0_81_2 : apartMany_1 = apartMany_2) (hE_0_82_1 : ∀ j : Int, spot_0 j = spot_1 j) (hE_0_82_2 : ∀ j : Int, spot_1 j = spot_2 j) (hE_0_83_1 : ∀ j : Int, costA_0 j = costA_1 j) (hE_0_83_2 : ∀ j : Int, costA_1 j = costA_2 j) (hE_0_84_1 : ∀ j : Int, costB_0 j = costB_1 j) (hE_0_84_2 : ∀ j : Int, costB_1 j = costB_2 j) (hE_0_85_1 : ∀ j : Int, costW_0 j = costW_1 j) (hE_0_85_2 : ∀ j : Int, costW_1 j = costW_2 j) (hE_0_86_1 : ∀ j : Int, costPlain_0 j = costPlain_1 j) (hE_0_86_2 : ∀ j : Int, costPlain_1 j = costPlain_2 j) (hE_0_87_1 : ∀ j : Int, apartA_0 j = apartA_1 j) (hE_0_87_2 : ∀ j : Int, apartA_1 j = apartA_2 j) (hE_0_88_1 : ∀ j : Int, apartB_0 j = apartB_1 j) (hE_0_88_2 : ∀ j : Int, apartB_1 j = apartB_2 j) (hE_0_89_1 : ∀ j : Int, apart_0 j = apart_1 j) (hE_0_89_2 : ∀ j : Int, apart_1 j = apart_2 j) (hE_0_90_1 : ∀ j : Int, flow_0 j = flow_1 j) (hE_0_90_2 : ∀ j : Int, flow_1 j = flow_2 j) (hE_0_91_1 : ∀ j : Int, cameBy_0 j = cameBy_1 j) (hE_0_91_2 : ∀ j : Int, 0 ≤ j → (j = x12 → cameBy_1 j = x11) ∧ (j ≠ x12 → cameBy_1 j = cameBy_2 j)) (hE_0_92_2 : ∀ j : Int, queue_1 j = queue_2 j) (kz_0_79 : 0 ≤ pointMany_0 ∧ pointMany_0 ≤ 76) (kz_0_80 : 0 ≤ costMany_0 ∧ costMany_0 ≤ 200) (kz_0_81 : 0 ≤ apartMany_0 ∧ apartMany_0 ≤ 200) : FPT (flow_0) (cameBy_0) (x1) (x2) := by
  subst fe_0_79_1
  subst fe_0_80_1
  subst fe_0_81_1
  subst fe_0_79_2
  subst fe_0_80_2
  subst fe_0_81_2
  have e_hE_0_82_1 := funext hE_0_82_1; subst e_hE_0_82_1
  have e_hE_0_82_2 := funext hE_0_82_2; subst e_hE_0_82_2
  have e_hE_0_83_1 := funext hE_0_83_1; subst e_hE_0_83_1
  have e_hE_0_83_2 := funext hE_0_83_2; subst e_hE_0_83_2
  have e_hE_0_84_1 := funext hE_0_84_1; subst e_hE_0_84_1
  have e_hE_0_84_2 := funext hE_0_84_2; subst e_hE_0_84_2
  have e_hE_0_85_1 := funext hE_0_85_1; subst e_hE_0_85_1
  have e_hE_0_85_2 := funext hE_0_85_2; subst e_hE_0_85_2
  have e_hE_0_86_1 := funext hE_0_86_1; subst e_hE_0_86_1
  have e_hE_0_86_2 := funext hE_0_86_2; subst e_hE_0_86_2
  have e_hE_0_87_1 := funext hE_0_87_1; subst e_hE_0_87_1
  have e_hE_0_87_2 := funext hE_0_87_2; subst e_hE_0_87_2
  have e_hE_0_88_1 := funext hE_0_88_1; subst e_hE_0_88_1
  have e_hE_0_88_2 := funext hE_0_88_2; subst e_hE_0_88_2
  have e_hE_0_89_1 := funext hE_0_89_1; subst e_hE_0_89_1
  have e_hE_0_89_2 := funext hE_0_89_2; subst e_hE_0_89_2
  have e_hE_0_90_1 := funext hE_0_90_1; subst e_hE_0_90_1
  have e_hE_0_90_2 := funext hE_0_90_2; subst e_hE_0_90_2
  have e_hE_0_91_1 := funext hE_0_91_1; subst e_hE_0_91_1
  have e_hE_0_92_2 := funext hE_0_92_2; subst e_hE_0_92_2
  first
    | assumption
    | exact fpt_start ‹AU0 _ _› (by omega) (by assumption) (by omega)
    | exact fpt_step2 ‹FPT _ _ _ _› (by assumption) rfl (by assumption) (by assumption) (by assumption) (by assumption) (by omega)
set_option maxHeartbeats 4000000 in
theorem vc_Mo_augment_10_1 (x1 : Int) (x9 : Int) (x10 : Int) (x11 : Int) (x12 : Int) (pointMany_0 : Int) (flow_0 : Int → Int) (spot_0 : Int → Int) (costA_0 : Int → Int) (costB_0 : Int → Int) (costW_0 : Int → Int) (costPlain_0 : Int → Int) (apartA_0 : Int → Int) (apartB_0 : Int → Int) (apart_0 : Int → Int) (costMany_0 : Int) (apartMany_0 : Int) (pointMany_1 : Int) (flow_1 : Int → Int) (spot_1 : Int → Int) (costA_1 : Int → Int) (costB_1 : Int → Int) (costW_1 : Int → Int) (costPlain_1 : Int → Int) (apartA_1 : Int → Int) (apartB_1 : Int → Int) (apart_1 : Int → Int) (costMany_1 : Int) (apartMany_1 : Int) (flow_2 : Int → Int) (cameBy_2 : Int → Int) (pointMany_2 : Int) (spot_2 : Int → Int) (costA_2 : Int → Int) (costB_2 : Int → Int) (costW_2 : Int → Int) (costPlain_2 : Int → Int) (apartA_2 : Int → Int) (apartB_2 : Int → Int) (apart_2 : Int → Int) (costMany_2 : Int) (apartMany_2 : Int) (queue_2 : Int → Int) (cameBy_0 : Int → Int) (cameBy_1 : Int → Int) (queue_0 : Int → Int) (queue_1 : Int → Int) (k1 : 2 ≤ x1 ∧ x1 ≤ 78) (k9 : 1 ≤ x9 ∧ x9 ≤ 78) (k10 : 1 ≤ x10 ∧ x10 ≤ 77) (k11 : 0 ≤ x11 ∧ x11 ≤ 77) (k12 : 0 ≤ x12 ∧ x12 ≤ 77) (f51 : BG1 (flow_2) (queue_2) (cameBy_2) (x1) (x9) (x11)) (f55 : x9 ≤ x10) (fe_0_79_1 : pointMany_0 = pointMany_1) (fe_0_80_1 : costMany_0 = costMany_1) (fe_0_81_1 : apartMany_0 = apartMany_1) (fe_0_79_2 : pointMany_1 = pointMany_2) (fe_0_80_2 : costMany_1 = costMany_2) (fe_0_81_2 : apartMany_1 = apartMany_2) (hE_0_82_1 : ∀ j : Int, spot_0 j = spot_1 j) (hE_0_82_2 : ∀ j : Int, spot_1 j = spot_2 j) (hE_0_83_1 : ∀ j : Int, costA_0 j = costA_1 j) (hE_0_83_2 : ∀ j : Int, costA_1 j = costA_2 j) (hE_0_84_1 : ∀ j : Int, costB_0 j = costB_1 j) (hE_0_84_2 : ∀ j : Int, costB_1 j = costB_2 j) (hE_0_85_1 : ∀ j : Int, costW_0 j = costW_1 j) (hE_0_85_2 : ∀ j : Int, costW_1 j = costW_2 j) (hE_0_86_1 : ∀ j : Int, costPlain_0 j = costPlain_1 j) (hE_0_86_2 : ∀ j : Int, costPlain_1 j = costPlain_2 j) (hE_0_87_1 : ∀ j : Int, apartA_0 j = apartA_1 j) (hE_0_87_2 : ∀ j : Int, apartA_1 j = apartA_2 j) (hE_0_88_1 : ∀ j : Int, apartB_0 j = apartB_1 j) (hE_0_88_2 : ∀ j : Int, apartB_1 j = apartB_2 j) (hE_0_89_1 : ∀ j : Int, apart_0 j = apart_1 j) (hE_0_89_2 : ∀ j : Int, apart_1 j = apart_2 j) (hE_0_90_1 : ∀ j : Int, flow_0 j = flow_1 j) (hE_0_90_2 : ∀ j : Int, flow_1 j = flow_2 j) (hE_0_91_1 : ∀ j : Int, cameBy_0 j = cameBy_1 j) (hE_0_91_2 : ∀ j : Int, 0 ≤ j → (j = x12 → cameBy_1 j = x11) ∧ (j ≠ x12 → cameBy_1 j = cameBy_2 j)) (hE_0_92_1 : ∀ j : Int, 0 ≤ j → (j = x10 → queue_0 j = x12) ∧ (j ≠ x10 → queue_0 j = queue_1 j)) (hE_0_92_2 : ∀ j : Int, queue_1 j = queue_2 j) (kz_0_79 : 0 ≤ pointMany_0 ∧ pointMany_0 ≤ 76) (kz_0_80 : 0 ≤ costMany_0 ∧ costMany_0 ≤ 200) (kz_0_81 : 0 ≤ apartMany_0 ∧ apartMany_0 ≤ 200) : BG1 (flow_0) (queue_0) (cameBy_0) (x1) (x9) (x11) := by
  subst fe_0_79_1
  subst fe_0_80_1
  subst fe_0_81_1
  subst fe_0_79_2
  subst fe_0_80_2
  subst fe_0_81_2
  have e_hE_0_82_1 := funext hE_0_82_1; subst e_hE_0_82_1
  have e_hE_0_82_2 := funext hE_0_82_2; subst e_hE_0_82_2
  have e_hE_0_83_1 := funext hE_0_83_1; subst e_hE_0_83_1
  have e_hE_0_83_2 := funext hE_0_83_2; subst e_hE_0_83_2
  have e_hE_0_84_1 := funext hE_0_84_1; subst e_hE_0_84_1
  have e_hE_0_84_2 := funext hE_0_84_2; subst e_hE_0_84_2
  have e_hE_0_85_1 := funext hE_0_85_1; subst e_hE_0_85_1
  have e_hE_0_85_2 := funext hE_0_85_2; subst e_hE_0_85_2
  have e_hE_0_86_1 := funext hE_0_86_1; subst e_hE_0_86_1
  have e_hE_0_86_2 := funext hE_0_86_2; subst e_hE_0_86_2
  have e_hE_0_87_1 := funext hE_0_87_1; subst e_hE_0_87_1
  have e_hE_0_87_2 := funext hE_0_87_2; subst e_hE_0_87_2
  have e_hE_0_88_1 := funext hE_0_88_1; subst e_hE_0_88_1
  have e_hE_0_88_2 := funext hE_0_88_2; subst e_hE_0_88_2
  have e_hE_0_89_1 := funext hE_0_89_1; subst e_hE_0_89_1
  have e_hE_0_89_2 := funext hE_0_89_2; subst e_hE_0_89_2
  have e_hE_0_90_1 := funext hE_0_90_1; subst e_hE_0_90_1
  have e_hE_0_90_2 := funext hE_0_90_2; subst e_hE_0_90_2
  have e_hE_0_91_1 := funext hE_0_91_1; subst e_hE_0_91_1
  have e_hE_0_92_2 := funext hE_0_92_2; subst e_hE_0_92_2
  first
    | assumption
    | exact bg1_start ‹BF1 _ _ _ _ _› (by omega) (by assumption) (by assumption)
    | exact bg1_step ‹BG1 _ _ _ _ _ _› (by assumption) (by omega) (by assumption) (by omega)
set_option maxHeartbeats 4000000 in
theorem vc_Mo_augment_10_2 (x1 : Int) (x11 : Int) (x12 : Int) (x22 : Int) (pointMany_0 : Int) (flow_0 : Int → Int) (spot_0 : Int → Int) (costA_0 : Int → Int) (costB_0 : Int → Int) (costW_0 : Int → Int) (costPlain_0 : Int → Int) (apartA_0 : Int → Int) (apartB_0 : Int → Int) (apart_0 : Int → Int) (costMany_0 : Int) (apartMany_0 : Int) (pointMany_1 : Int) (flow_1 : Int → Int) (spot_1 : Int → Int) (costA_1 : Int → Int) (costB_1 : Int → Int) (costW_1 : Int → Int) (costPlain_1 : Int → Int) (apartA_1 : Int → Int) (apartB_1 : Int → Int) (apart_1 : Int → Int) (costMany_1 : Int) (apartMany_1 : Int) (flow_2 : Int → Int) (cameBy_2 : Int → Int) (pointMany_2 : Int) (spot_2 : Int → Int) (costA_2 : Int → Int) (costB_2 : Int → Int) (costW_2 : Int → Int) (costPlain_2 : Int → Int) (apartA_2 : Int → Int) (apartB_2 : Int → Int) (apart_2 : Int → Int) (costMany_2 : Int) (apartMany_2 : Int) (queue_2 : Int → Int) (cameBy_0 : Int → Int) (cameBy_1 : Int → Int) (queue_1 : Int → Int) (k1 : 2 ≤ x1 ∧ x1 ≤ 78) (k11 : 0 ≤ x11 ∧ x11 ≤ 77) (k12 : 0 ≤ x12 ∧ x12 ≤ 77) (k22 : 1 ≤ x22 ∧ x22 ≤ 78) (f0 : x22 = x12 + 1) (f52 : BF2 (flow_2) (cameBy_2) (x1) (x11) (x12)) (fe_0_79_1 : pointMany_0 = pointMany_1) (fe_0_80_1 : costMany_0 = costMany_1) (fe_0_81_1 : apartMany_0 = apartMany_1) (fe_0_79_2 : pointMany_1 = pointMany_2) (fe_0_80_2 : costMany_1 = costMany_2) (fe_0_81_2 : apartMany_1 = apartMany_2) (hE_0_82_1 : ∀ j : Int, spot_0 j = spot_1 j) (hE_0_82_2 : ∀ j : Int, spot_1 j = spot_2 j) (hE_0_83_1 : ∀ j : Int, costA_0 j = costA_1 j) (hE_0_83_2 : ∀ j : Int, costA_1 j = costA_2 j) (hE_0_84_1 : ∀ j : Int, costB_0 j = costB_1 j) (hE_0_84_2 : ∀ j : Int, costB_1 j = costB_2 j) (hE_0_85_1 : ∀ j : Int, costW_0 j = costW_1 j) (hE_0_85_2 : ∀ j : Int, costW_1 j = costW_2 j) (hE_0_86_1 : ∀ j : Int, costPlain_0 j = costPlain_1 j) (hE_0_86_2 : ∀ j : Int, costPlain_1 j = costPlain_2 j) (hE_0_87_1 : ∀ j : Int, apartA_0 j = apartA_1 j) (hE_0_87_2 : ∀ j : Int, apartA_1 j = apartA_2 j) (hE_0_88_1 : ∀ j : Int, apartB_0 j = apartB_1 j) (hE_0_88_2 : ∀ j : Int, apartB_1 j = apartB_2 j) (hE_0_89_1 : ∀ j : Int, apart_0 j = apart_1 j) (hE_0_89_2 : ∀ j : Int, apart_1 j = apart_2 j) (hE_0_90_1 : ∀ j : Int, flow_0 j = flow_1 j) (hE_0_90_2 : ∀ j : Int, flow_1 j = flow_2 j) (hE_0_91_1 : ∀ j : Int, cameBy_0 j = cameBy_1 j) (hE_0_91_2 : ∀ j : Int, 0 ≤ j → (j = x12 → cameBy_1 j = x11) ∧ (j ≠ x12 → cameBy_1 j = cameBy_2 j)) (hE_0_92_2 : ∀ j : Int, queue_1 j = queue_2 j) (kz_0_79 : 0 ≤ pointMany_0 ∧ pointMany_0 ≤ 76) (kz_0_80 : 0 ≤ costMany_0 ∧ costMany_0 ≤ 200) (kz_0_81 : 0 ≤ apartMany_0 ∧ apartMany_0 ≤ 200) : BF2 (flow_0) (cameBy_0) (x1) (x11) (x22) := by
  subst fe_0_79_1
  subst fe_0_80_1
  subst fe_0_81_1
  subst fe_0_79_2
  subst fe_0_80_2
  subst fe_0_81_2
  have e_hE_0_82_1 := funext hE_0_82_1; subst e_hE_0_82_1
  have e_hE_0_82_2 := funext hE_0_82_2; subst e_hE_0_82_2
  have e_hE_0_83_1 := funext hE_0_83_1; subst e_hE_0_83_1
  have e_hE_0_83_2 := funext hE_0_83_2; subst e_hE_0_83_2
  have e_hE_0_84_1 := funext hE_0_84_1; subst e_hE_0_84_1
  have e_hE_0_84_2 := funext hE_0_84_2; subst e_hE_0_84_2
  have e_hE_0_85_1 := funext hE_0_85_1; subst e_hE_0_85_1
  have e_hE_0_85_2 := funext hE_0_85_2; subst e_hE_0_85_2
  have e_hE_0_86_1 := funext hE_0_86_1; subst e_hE_0_86_1
  have e_hE_0_86_2 := funext hE_0_86_2; subst e_hE_0_86_2
  have e_hE_0_87_1 := funext hE_0_87_1; subst e_hE_0_87_1
  have e_hE_0_87_2 := funext hE_0_87_2; subst e_hE_0_87_2
  have e_hE_0_88_1 := funext hE_0_88_1; subst e_hE_0_88_1
  have e_hE_0_88_2 := funext hE_0_88_2; subst e_hE_0_88_2
  have e_hE_0_89_1 := funext hE_0_89_1; subst e_hE_0_89_1
  have e_hE_0_89_2 := funext hE_0_89_2; subst e_hE_0_89_2
  have e_hE_0_90_1 := funext hE_0_90_1; subst e_hE_0_90_1
  have e_hE_0_90_2 := funext hE_0_90_2; subst e_hE_0_90_2
  have e_hE_0_91_1 := funext hE_0_91_1; subst e_hE_0_91_1
  have e_hE_0_92_2 := funext hE_0_92_2; subst e_hE_0_92_2
  first
    | exact bf2_zero (by omega)
    | exact bf2_skip1 ‹BF2 _ _ _ _ _› (by assumption) (by assumption) (by omega)
    | exact bf2_skip2 ‹BF2 _ _ _ _ _› (by assumption) (by assumption) (by assumption) (by assumption) (by omega)
    | exact bf2_step ‹BF2 _ _ _ _ _› (by assumption) (by assumption) rfl (by omega)
set_option maxHeartbeats 4000000 in
theorem vc_Mo_augment_10_3 (x1 : Int) (x2 : Int) (x9 : Int) (x10 : Int) (x11 : Int) (x12 : Int) (x15 : Int) (x21 : Int) (x22 : Int) (pointMany_0 : Int) (flow_0 : Int → Int) (spot_0 : Int → Int) (costA_0 : Int → Int) (costB_0 : Int → Int) (costW_0 : Int → Int) (costPlain_0 : Int → Int) (apartA_0 : Int → Int) (apartB_0 : Int → Int) (apart_0 : Int → Int) (costMany_0 : Int) (apartMany_0 : Int) (pointMany_1 : Int) (flow_1 : Int → Int) (spot_1 : Int → Int) (costA_1 : Int → Int) (costB_1 : Int → Int) (costW_1 : Int → Int) (costPlain_1 : Int → Int) (apartA_1 : Int → Int) (apartB_1 : Int → Int) (apart_1 : Int → Int) (costMany_1 : Int) (apartMany_1 : Int) (flow_2 : Int → Int) (cameBy_2 : Int → Int) (pointMany_2 : Int) (spot_2 : Int → Int) (costA_2 : Int → Int) (costB_2 : Int → Int) (costW_2 : Int → Int) (costPlain_2 : Int → Int) (apartA_2 : Int → Int) (apartB_2 : Int → Int) (apart_2 : Int → Int) (costMany_2 : Int) (apartMany_2 : Int) (queue_2 : Int → Int) (cameBy_0 : Int → Int) (cameBy_1 : Int → Int) (queue_0 : Int → Int) (queue_1 : Int → Int) (k1 : 2 ≤ x1 ∧ x1 ≤ 78) (k2 : 0 ≤ x2 ∧ x2 ≤ 76) (k10 : 1 ≤ x10 ∧ x10 ≤ 77) (k11 : 0 ≤ x11 ∧ x11 ≤ 77) (k12 : 0 ≤ x12 ∧ x12 ≤ 77) (k15 : (-1) ≤ x15 ∧ x15 ≤ (-1)) (k21 : 2 ≤ x21 ∧ x21 ≤ 78) (k22 : 1 ≤ x22 ∧ x22 ≤ 78) (d0 : x12 + 1 ≤ x22 ∧ x22 ≤ x12 + 1) (f1 : x21 = x10 + 1) (h40 : x15 = cameBy_2 (x12)) (f41 : x12 < x1) (f53 : AU2 (queue_2) (cameBy_2) (x1) (x2) (x10) (x11)) (fe_0_79_1 : pointMany_0 = pointMany_1) (fe_0_80_1 : costMany_0 = costMany_1) (fe_0_81_1 : apartMany_0 = apartMany_1) (fe_0_79_2 : pointMany_1 = pointMany_2) (fe_0_80_2 : costMany_1 = costMany_2) (fe_0_81_2 : apartMany_1 = apartMany_2) (hE_0_82_1 : ∀ j : Int, spot_0 j = spot_1 j) (hE_0_82_2 : ∀ j : Int, spot_1 j = spot_2 j) (hE_0_83_1 : ∀ j : Int, costA_0 j = costA_1 j) (hE_0_83_2 : ∀ j : Int, costA_1 j = costA_2 j) (hE_0_84_1 : ∀ j : Int, costB_0 j = costB_1 j) (hE_0_84_2 : ∀ j : Int, costB_1 j = costB_2 j) (hE_0_85_1 : ∀ j : Int, costW_0 j = costW_1 j) (hE_0_85_2 : ∀ j : Int, costW_1 j = costW_2 j) (hE_0_86_1 : ∀ j : Int, costPlain_0 j = costPlain_1 j) (hE_0_86_2 : ∀ j : Int, costPlain_1 j = costPlain_2 j) (hE_0_87_1 : ∀ j : Int, apartA_0 j = apartA_1 j) (hE_0_87_2 : ∀ j : Int, apartA_1 j = apartA_2 j) (hE_0_88_1 : ∀ j : Int, apartB_0 j = apartB_1 j) (hE_0_88_2 : ∀ j : Int, apartB_1 j = apartB_2 j) (hE_0_89_1 : ∀ j : Int, apart_0 j = apart_1 j) (hE_0_89_2 : ∀ j : Int, apart_1 j = apart_2 j) (hE_0_90_1 : ∀ j : Int, flow_0 j = flow_1 j) (hE_0_90_2 : ∀ j : Int, flow_1 j = flow_2 j) (hE_0_91_1 : ∀ j : Int, cameBy_0 j = cameBy_1 j) (hE_0_91_2 : ∀ j : Int, 0 ≤ j → (j = x12 → cameBy_1 j = x11) ∧ (j ≠ x12 → cameBy_1 j = cameBy_2 j)) (hE_0_92_1 : ∀ j : Int, 0 ≤ j → (j = x10 → queue_0 j = x12) ∧ (j ≠ x10 → queue_0 j = queue_1 j)) (hE_0_92_2 : ∀ j : Int, queue_1 j = queue_2 j) (kz_0_79 : 0 ≤ pointMany_0 ∧ pointMany_0 ≤ 76) (kz_0_80 : 0 ≤ costMany_0 ∧ costMany_0 ≤ 200) (kz_0_81 : 0 ≤ apartMany_0 ∧ apartMany_0 ≤ 200) : AU2 (queue_0) (cameBy_0) (x1) (x2) (x21) (x11) := by
  subst fe_0_79_1
  subst fe_0_80_1
  subst fe_0_81_1
  subst fe_0_79_2
  subst fe_0_80_2
  subst fe_0_81_2
  have e_hE_0_82_1 := funext hE_0_82_1; subst e_hE_0_82_1
  have e_hE_0_82_2 := funext hE_0_82_2; subst e_hE_0_82_2
  have e_hE_0_83_1 := funext hE_0_83_1; subst e_hE_0_83_1
  have e_hE_0_83_2 := funext hE_0_83_2; subst e_hE_0_83_2
  have e_hE_0_84_1 := funext hE_0_84_1; subst e_hE_0_84_1
  have e_hE_0_84_2 := funext hE_0_84_2; subst e_hE_0_84_2
  have e_hE_0_85_1 := funext hE_0_85_1; subst e_hE_0_85_1
  have e_hE_0_85_2 := funext hE_0_85_2; subst e_hE_0_85_2
  have e_hE_0_86_1 := funext hE_0_86_1; subst e_hE_0_86_1
  have e_hE_0_86_2 := funext hE_0_86_2; subst e_hE_0_86_2
  have e_hE_0_87_1 := funext hE_0_87_1; subst e_hE_0_87_1
  have e_hE_0_87_2 := funext hE_0_87_2; subst e_hE_0_87_2
  have e_hE_0_88_1 := funext hE_0_88_1; subst e_hE_0_88_1
  have e_hE_0_88_2 := funext hE_0_88_2; subst e_hE_0_88_2
  have e_hE_0_89_1 := funext hE_0_89_1; subst e_hE_0_89_1
  have e_hE_0_89_2 := funext hE_0_89_2; subst e_hE_0_89_2
  have e_hE_0_90_1 := funext hE_0_90_1; subst e_hE_0_90_1
  have e_hE_0_90_2 := funext hE_0_90_2; subst e_hE_0_90_2
  have e_hE_0_91_1 := funext hE_0_91_1; subst e_hE_0_91_1
  have e_hE_0_92_2 := funext hE_0_92_2; subst e_hE_0_92_2
  first
    | assumption
    | exact au2_start (k := x9) ‹AU1 _ _ _ _ _› (by omega) (by omega) (by assumption)
    | exact au2_step (p := x12) ‹AU2 _ _ _ _ _ _› (by omega) (by omega) (by omega) (by omega) (by assumption) (by omega) (by assumption) (by omega) (by omega)
set_option maxHeartbeats 4000000 in
theorem vc_Mo_augment_10_4 (x9 : Int) (x10 : Int) (x21 : Int) (pointMany_0 : Int) (flow_0 : Int → Int) (spot_0 : Int → Int) (costA_0 : Int → Int) (costB_0 : Int → Int) (costW_0 : Int → Int) (costPlain_0 : Int → Int) (apartA_0 : Int → Int) (apartB_0 : Int → Int) (apart_0 : Int → Int) (costMany_0 : Int) (apartMany_0 : Int) (pointMany_1 : Int) (flow_1 : Int → Int) (spot_1 : Int → Int) (costA_1 : Int → Int) (costB_1 : Int → Int) (costW_1 : Int → Int) (costPlain_1 : Int → Int) (apartA_1 : Int → Int) (apartB_1 : Int → Int) (apart_1 : Int → Int) (costMany_1 : Int) (apartMany_1 : Int) (flow_2 : Int → Int) (pointMany_2 : Int) (spot_2 : Int → Int) (costA_2 : Int → Int) (costB_2 : Int → Int) (costW_2 : Int → Int) (costPlain_2 : Int → Int) (apartA_2 : Int → Int) (apartB_2 : Int → Int) (apart_2 : Int → Int) (costMany_2 : Int) (apartMany_2 : Int) (queue_2 : Int → Int) (cameBy_0 : Int → Int) (cameBy_1 : Int → Int) (queue_1 : Int → Int) (k9 : 1 ≤ x9 ∧ x9 ≤ 78) (k10 : 1 ≤ x10 ∧ x10 ≤ 77) (k21 : 2 ≤ x21 ∧ x21 ≤ 78) (d4 : x10 + 1 ≤ x21 ∧ x21 ≤ x10 + 1) (d17 : x10 + (-4294967296) ≤ x9 ∧ x9 ≤ x10 + 0) (fe_0_79_1 : pointMany_0 = pointMany_1) (fe_0_80_1 : costMany_0 = costMany_1) (fe_0_81_1 : apartMany_0 = apartMany_1) (fe_0_79_2 : pointMany_1 = pointMany_2) (fe_0_80_2 : costMany_1 = costMany_2) (fe_0_81_2 : apartMany_1 = apartMany_2) (hE_0_82_1 : ∀ j : Int, spot_0 j = spot_1 j) (hE_0_82_2 : ∀ j : Int, spot_1 j = spot_2 j) (hE_0_83_1 : ∀ j : Int, costA_0 j = costA_1 j) (hE_0_83_2 : ∀ j : Int, costA_1 j = costA_2 j) (hE_0_84_1 : ∀ j : Int, costB_0 j = costB_1 j) (hE_0_84_2 : ∀ j : Int, costB_1 j = costB_2 j) (hE_0_85_1 : ∀ j : Int, costW_0 j = costW_1 j) (hE_0_85_2 : ∀ j : Int, costW_1 j = costW_2 j) (hE_0_86_1 : ∀ j : Int, costPlain_0 j = costPlain_1 j) (hE_0_86_2 : ∀ j : Int, costPlain_1 j = costPlain_2 j) (hE_0_87_1 : ∀ j : Int, apartA_0 j = apartA_1 j) (hE_0_87_2 : ∀ j : Int, apartA_1 j = apartA_2 j) (hE_0_88_1 : ∀ j : Int, apartB_0 j = apartB_1 j) (hE_0_88_2 : ∀ j : Int, apartB_1 j = apartB_2 j) (hE_0_89_1 : ∀ j : Int, apart_0 j = apart_1 j) (hE_0_89_2 : ∀ j : Int, apart_1 j = apart_2 j) (hE_0_90_1 : ∀ j : Int, flow_0 j = flow_1 j) (hE_0_90_2 : ∀ j : Int, flow_1 j = flow_2 j) (hE_0_91_1 : ∀ j : Int, cameBy_0 j = cameBy_1 j) (hE_0_92_2 : ∀ j : Int, queue_1 j = queue_2 j) (kz_0_79 : 0 ≤ pointMany_0 ∧ pointMany_0 ≤ 76) (kz_0_80 : 0 ≤ costMany_0 ∧ costMany_0 ≤ 200) (kz_0_81 : 0 ≤ apartMany_0 ∧ apartMany_0 ≤ 200) : x9 ≤ x21 := by
  subst fe_0_79_1
  subst fe_0_80_1
  subst fe_0_81_1
  subst fe_0_79_2
  subst fe_0_80_2
  subst fe_0_81_2
  have e_hE_0_82_1 := funext hE_0_82_1; subst e_hE_0_82_1
  have e_hE_0_82_2 := funext hE_0_82_2; subst e_hE_0_82_2
  have e_hE_0_83_1 := funext hE_0_83_1; subst e_hE_0_83_1
  have e_hE_0_83_2 := funext hE_0_83_2; subst e_hE_0_83_2
  have e_hE_0_84_1 := funext hE_0_84_1; subst e_hE_0_84_1
  have e_hE_0_84_2 := funext hE_0_84_2; subst e_hE_0_84_2
  have e_hE_0_85_1 := funext hE_0_85_1; subst e_hE_0_85_1
  have e_hE_0_85_2 := funext hE_0_85_2; subst e_hE_0_85_2
  have e_hE_0_86_1 := funext hE_0_86_1; subst e_hE_0_86_1
  have e_hE_0_86_2 := funext hE_0_86_2; subst e_hE_0_86_2
  have e_hE_0_87_1 := funext hE_0_87_1; subst e_hE_0_87_1
  have e_hE_0_87_2 := funext hE_0_87_2; subst e_hE_0_87_2
  have e_hE_0_88_1 := funext hE_0_88_1; subst e_hE_0_88_1
  have e_hE_0_88_2 := funext hE_0_88_2; subst e_hE_0_88_2
  have e_hE_0_89_1 := funext hE_0_89_1; subst e_hE_0_89_1
  have e_hE_0_89_2 := funext hE_0_89_2; subst e_hE_0_89_2
  have e_hE_0_90_1 := funext hE_0_90_1; subst e_hE_0_90_1
  have e_hE_0_90_2 := funext hE_0_90_2; subst e_hE_0_90_2
  have e_hE_0_91_1 := funext hE_0_91_1; subst e_hE_0_91_1
  have e_hE_0_92_2 := funext hE_0_92_2; subst e_hE_0_92_2
  first
    | omega
    | (have h := ‹AU1 _ _ _ _ _›.2.2.1 x9 (by omega) (by omega); omega)
    | (have h := au1_len ‹AU1 _ _ _ _ _›; omega)
def o_Mo_augment_10 : or_T := (65, 23, [(0, (2, 0, 0, [165])), (1, (0, 2, 78, [])), (2, (0, 0, 76, [])), (9, (0, 1, 78, [])), (10, (0, 1, 77, [])), (11, (0, 0, 77, [])), (12, (0, 0, 77, [])), (14, (2, 0, 0, [228])), (15, (0, -1, -1, [])), (17, (0, 0, 6006, [])), (18, (0, 0, 6083, [])), (19, (0, 1, 410000000, [])), (20, (2, 0, 0, [229])), (21, (0, 2, 78, [])), (22, (0, 1, 78, []))], [(6, [22, 12], [1]), (6, [21, 10], [1]), (24, [0, 5], []), (24, [1, 6], []), (24, [2, 7], []), (100, [20, 10, 12], []), (9, [20, 5], [92]), (100, [14, 12, 11], []), (9, [14, 5], [91]), (8, [19], [1]), (10, [19, 16, 18], []), (1, [18, 17, 12], []), (3, [17, 6, 11], []), (9, [16, 5], [90]), (10, [15, 14, 12], []), (7, [12, 6], [2]), (20, [5, 6, 7], [60, 0, 2, 401, 90, 91]), (20, [5, 6, 9, 11], [60, 0, 3, 403, 90, 92, 91]), (20, [5, 6, 11, 12], [60, 0, 2, 404, 90, 91]), (20, [5, 6, 7, 10, 11], [60, 0, 2, 393, 92, 91]), (20, [9, 10], [50, 0, 0, 0, 2, 1, 0, 1, 1])], [], [], [(20, [5, 6, 7], [60, 0, 2, 401, 90, 91]), (20, [5, 6, 9, 11], [60, 0, 3, 403, 90, 92, 91]), (20, [5, 6, 11, 22], [60, 0, 2, 404, 90, 91]), (20, [5, 6, 7, 21, 11], [60, 0, 2, 393, 92, 91]), (20, [9, 21], [50, 0, 0, 0, 2, 1, 0, 1, 1])], [], [(22, 12, 1, 1), (21, 10, 1, 1), (18, 12, 0, 6006), (12, 6, -4294967296, -1), (9, 10, -4294967296, 0), (12, 1, -4294967296, 0), (12, 6, -4294967296, 0)])
theorem oo_Mo_augment_10 {kA : Nat → ClassId} : or_ok PRD kA GG o_Mo_augment_10 := by
  refine or_mk fun A ta ws vs hD hth hl => ?_
  intro t0 r0 t1 k1 t2 k2 t9 k9 t10 k10 t11 k11 t12 k12 t14 r14 t15 k15 t17 k17 t18 k18 t19 k19 t20 r20 t21 k21 t22 k22 d0 d4 d5 d10 d17 d18 d19 f0 f1 f14 f15 f16 ta1 w1 le1 s1 f19 ta2 w2 le2 s2 f33 f34 f35 f36 f37 f38 f40 f41 f50 f51 f52 f53 f55
  replace f0 := shm_4 f0
  replace f1 := shm_4 f1
  replace f14 := shm_5 f14
  replace f15 := shm_5 f15
  replace f16 := shm_5 f16
  have s1 : (∀ b j, w_el ws b j = if b = v_ad (n_v vs 20) ∧ j = (v_iv (n_v vs 10)).toNat then v_iv (n_v vs 12) else w_el w1 b j) ∧ ∀ b k, w_fd ws b k = w_fd w1 b k := s1.2
  replace f19 := shm_948 f19
  have s2 : (∀ b j, w_el w1 b j = if b = v_ad (n_v vs 14) ∧ j = (v_iv (n_v vs 12)).toNat then v_iv (n_v vs 11) else w_el w2 b j) ∧ ∀ b k, w_fd w1 b k = w_fd w2 b k := s2.2
  replace f33 := shm_949 f33
  replace f34 := shm_142 f34
  replace f35 := shm_107 f35
  replace f36 := shm_12 f36
  replace f37 := shm_38 f37
  replace f38 := shm_962 f38
  replace f40 := shm_107 f40
  replace f41 := shm_6 f41
  replace f50 := shm_950 f50
  replace f51 := shm_959 f51
  replace f52 := shm_960 f52
  replace f53 := shm_956 f53
  replace f55 := shm_360 f55
  have q5 : n_v vs 5 = n_v vs 0 := f14.symm
  have q6 : n_v vs 6 = n_v vs 1 := f15.symm
  have q7 : n_v vs 7 = n_v vs 2 := f16.symm
  simp only [q6, q7, q5] at f19 f33 f37 f38 f41 f50 f51 f52 f53
  have ar_0_82_1 : w_ar w1 (n_v vs 0) 82 = w_ar ws (n_v vs 0) 82 := congrArg v_ad (s1.2 _ _).symm
  have ar_0_82_2 : w_ar w2 (n_v vs 0) 82 = w_ar ws (n_v vs 0) 82 := by rw [← ar_0_82_1]; show v_ad (w_fd w2 _ _) = v_ad (w_fd w1 _ _); rw [s2.2]
  have cr_0_82 := fdq_230 hD hth r0
  have ar_0_83_1 : w_ar w1 (n_v vs 0) 83 = w_ar ws (n_v vs 0) 83 := congrArg v_ad (s1.2 _ _).symm
  have ar_0_83_2 : w_ar w2 (n_v vs 0) 83 = w_ar ws (n_v vs 0) 83 := by rw [← ar_0_83_1]; show v_ad (w_fd w2 _ _) = v_ad (w_fd w1 _ _); rw [s2.2]
  have cr_0_83 := fdq_126 hD hth r0
  have ar_0_84_1 : w_ar w1 (n_v vs 0) 84 = w_ar ws (n_v vs 0) 84 := congrArg v_ad (s1.2 _ _).symm
  have ar_0_84_2 : w_ar w2 (n_v vs 0) 84 = w_ar ws (n_v vs 0) 84 := by rw [← ar_0_84_1]; show v_ad (w_fd w2 _ _) = v_ad (w_fd w1 _ _); rw [s2.2]
  have cr_0_84 := fdq_127 hD hth r0
  have ar_0_85_1 : w_ar w1 (n_v vs 0) 85 = w_ar ws (n_v vs 0) 85 := congrArg v_ad (s1.2 _ _).symm
  have ar_0_85_2 : w_ar w2 (n_v vs 0) 85 = w_ar ws (n_v vs 0) 85 := by rw [← ar_0_85_1]; show v_ad (w_fd w2 _ _) = v_ad (w_fd w1 _ _); rw [s2.2]
  have cr_0_85 := fdq_128 hD hth r0
  have ar_0_86_1 : w_ar w1 (n_v vs 0) 86 = w_ar ws (n_v vs 0) 86 := congrArg v_ad (s1.2 _ _).symm
  have ar_0_86_2 : w_ar w2 (n_v vs 0) 86 = w_ar ws (n_v vs 0) 86 := by rw [← ar_0_86_1]; show v_ad (w_fd w2 _ _) = v_ad (w_fd w1 _ _); rw [s2.2]
  have cr_0_86 := fdq_129 hD hth r0
  have ar_0_87_1 : w_ar w1 (n_v vs 0) 87 = w_ar ws (n_v vs 0) 87 := congrArg v_ad (s1.2 _ _).symm
  have ar_0_87_2 : w_ar w2 (n_v vs 0) 87 = w_ar ws (n_v vs 0) 87 := by rw [← ar_0_87_1]; show v_ad (w_fd w2 _ _) = v_ad (w_fd w1 _ _); rw [s2.2]
  have cr_0_87 := fdq_119 hD hth r0
  have ar_0_88_1 : w_ar w1 (n_v vs 0) 88 = w_ar ws (n_v vs 0) 88 := congrArg v_ad (s1.2 _ _).symm
  have ar_0_88_2 : w_ar w2 (n_v vs 0) 88 = w_ar ws (n_v vs 0) 88 := by rw [← ar_0_88_1]; show v_ad (w_fd w2 _ _) = v_ad (w_fd w1 _ _); rw [s2.2]
  have cr_0_88 := fdq_120 hD hth r0
  have ar_0_89_1 : w_ar w1 (n_v vs 0) 89 = w_ar ws (n_v vs 0) 89 := congrArg v_ad (s1.2 _ _).symm
  have ar_0_89_2 : w_ar w2 (n_v vs 0) 89 = w_ar ws (n_v vs 0) 89 := by rw [← ar_0_89_1]; show v_ad (w_fd w2 _ _) = v_ad (w_fd w1 _ _); rw [s2.2]
  have cr_0_89 := fdq_121 hD hth r0
  have ar_0_90_1 : w_ar w1 (n_v vs 0) 90 = w_ar ws (n_v vs 0) 90 := congrArg v_ad (s1.2 _ _).symm
  have ar_0_90_2 : w_ar w2 (n_v vs 0) 90 = w_ar ws (n_v vs 0) 90 := by rw [← ar_0_90_1]; show v_ad (w_fd w2 _ _) = v_ad (w_fd w1 _ _); rw [s2.2]
  have cr_0_90 := fdq_231 hD hth r0
  have ar_0_91_1 : w_ar w1 (n_v vs 0) 91 = w_ar ws (n_v vs 0) 91 := congrArg v_ad (s1.2 _ _).symm
  have ar_0_91_2 : w_ar w2 (n_v vs 0) 91 = w_ar ws (n_v vs 0) 91 := by rw [← ar_0_91_1]; show v_ad (w_fd w2 _ _) = v_ad (w_fd w1 _ _); rw [s2.2]
  have cr_0_91 := fdq_232 hD hth r0
  have ar_0_92_1 : w_ar w1 (n_v vs 0) 92 = w_ar ws (n_v vs 0) 92 := congrArg v_ad (s1.2 _ _).symm
  have ar_0_92_2 : w_ar w2 (n_v vs 0) 92 = w_ar ws (n_v vs 0) 92 := by rw [← ar_0_92_1]; show v_ad (w_fd w2 _ _) = v_ad (w_fd w1 _ _); rw [s2.2]
  have cr_0_92 := fdq_233 hD hth r0
  have ad_20 : v_ad (n_v vs 20) = w_ar ws (n_v vs 0) 92 := (congrArg v_ad f19).trans ar_0_92_1
  have ad_14 : v_ad (n_v vs 14) = w_ar ws (n_v vs 0) 91 := (congrArg v_ad f33).trans ar_0_91_2
  have ad_16 : v_ad (n_v vs 16) = w_ar ws (n_v vs 0) 90 := (congrArg v_ad f38).trans ar_0_90_2
  simp only [ar_0_82_1, ar_0_83_1, ar_0_84_1, ar_0_85_1, ar_0_86_1, ar_0_87_1, ar_0_88_1, ar_0_89_1, ar_0_90_1, ad_16] at f35
  have h35 : v_iv (n_v vs 19) = w_ei w2 (w_ar ws (n_v vs 0) 90) (v_iv (n_v vs 18)) := f35
  simp only [ad_14] at f40
  have h40 : v_iv (n_v vs 15) = w_ei w2 (w_ar ws (n_v vs 0) 91) (v_iv (n_v vs 12)) := f40
  simp only [ar_0_82_2, ar_0_83_2, ar_0_84_2, ar_0_85_2, ar_0_86_2, ar_0_87_2, ar_0_88_2, ar_0_89_2, ar_0_90_2, ar_0_91_2, ar_0_92_2] at f50 f51 f52 f53
  have fe_0_79_1 : w_fi ws (n_v vs 0) 79 = w_fi w1 (n_v vs 0) 79 := congrArg v_iv (s1.2 _ _)
  have fe_0_80_1 : w_fi ws (n_v vs 0) 80 = w_fi w1 (n_v vs 0) 80 := congrArg v_iv (s1.2 _ _)
  have fe_0_81_1 : w_fi ws (n_v vs 0) 81 = w_fi w1 (n_v vs 0) 81 := congrArg v_iv (s1.2 _ _)
  have fe_0_79_2 : w_fi w1 (n_v vs 0) 79 = w_fi w2 (n_v vs 0) 79 := congrArg v_iv (s2.2 _ _)
  have fe_0_80_2 : w_fi w1 (n_v vs 0) 80 = w_fi w2 (n_v vs 0) 80 := congrArg v_iv (s2.2 _ _)
  have fe_0_81_2 : w_fi w1 (n_v vs 0) 81 = w_fi w2 (n_v vs 0) 81 := congrArg v_iv (s2.2 _ _)
  have hE_0_82_1 : ∀ j : Int, w_ei ws (w_ar ws (n_v vs 0) 82) j = w_ei w1 (w_ar ws (n_v vs 0) 82) j := el_kp s1.1 r20 cr_0_82 (by decide)
  have hE_0_82_2 : ∀ j : Int, w_ei w1 (w_ar ws (n_v vs 0) 82) j = w_ei w2 (w_ar ws (n_v vs 0) 82) j := el_kp s2.1 r14 cr_0_82 (by decide)
  have hE_0_83_1 : ∀ j : Int, w_ei ws (w_ar ws (n_v vs 0) 83) j = w_ei w1 (w_ar ws (n_v vs 0) 83) j := el_kp s1.1 r20 cr_0_83 (by decide)
  have hE_0_83_2 : ∀ j : Int, w_ei w1 (w_ar ws (n_v vs 0) 83) j = w_ei w2 (w_ar ws (n_v vs 0) 83) j := el_kp s2.1 r14 cr_0_83 (by decide)
  have hE_0_84_1 : ∀ j : Int, w_ei ws (w_ar ws (n_v vs 0) 84) j = w_ei w1 (w_ar ws (n_v vs 0) 84) j := el_kp s1.1 r20 cr_0_84 (by decide)
  have hE_0_84_2 : ∀ j : Int, w_ei w1 (w_ar ws (n_v vs 0) 84) j = w_ei w2 (w_ar ws (n_v vs 0) 84) j := el_kp s2.1 r14 cr_0_84 (by decide)
  have hE_0_85_1 : ∀ j : Int, w_ei ws (w_ar ws (n_v vs 0) 85) j = w_ei w1 (w_ar ws (n_v vs 0) 85) j := el_kp s1.1 r20 cr_0_85 (by decide)
  have hE_0_85_2 : ∀ j : Int, w_ei w1 (w_ar ws (n_v vs 0) 85) j = w_ei w2 (w_ar ws (n_v vs 0) 85) j := el_kp s2.1 r14 cr_0_85 (by decide)
  have hE_0_86_1 : ∀ j : Int, w_ei ws (w_ar ws (n_v vs 0) 86) j = w_ei w1 (w_ar ws (n_v vs 0) 86) j := el_kp s1.1 r20 cr_0_86 (by decide)
  have hE_0_86_2 : ∀ j : Int, w_ei w1 (w_ar ws (n_v vs 0) 86) j = w_ei w2 (w_ar ws (n_v vs 0) 86) j := el_kp s2.1 r14 cr_0_86 (by decide)
  have hE_0_87_1 : ∀ j : Int, w_ei ws (w_ar ws (n_v vs 0) 87) j = w_ei w1 (w_ar ws (n_v vs 0) 87) j := el_kp s1.1 r20 cr_0_87 (by decide)
  have hE_0_87_2 : ∀ j : Int, w_ei w1 (w_ar ws (n_v vs 0) 87) j = w_ei w2 (w_ar ws (n_v vs 0) 87) j := el_kp s2.1 r14 cr_0_87 (by decide)
  have hE_0_88_1 : ∀ j : Int, w_ei ws (w_ar ws (n_v vs 0) 88) j = w_ei w1 (w_ar ws (n_v vs 0) 88) j := el_kp s1.1 r20 cr_0_88 (by decide)
  have hE_0_88_2 : ∀ j : Int, w_ei w1 (w_ar ws (n_v vs 0) 88) j = w_ei w2 (w_ar ws (n_v vs 0) 88) j := el_kp s2.1 r14 cr_0_88 (by decide)
  have hE_0_89_1 : ∀ j : Int, w_ei ws (w_ar ws (n_v vs 0) 89) j = w_ei w1 (w_ar ws (n_v vs 0) 89) j := el_kp s1.1 r20 cr_0_89 (by decide)
  have hE_0_89_2 : ∀ j : Int, w_ei w1 (w_ar ws (n_v vs 0) 89) j = w_ei w2 (w_ar ws (n_v vs 0) 89) j := el_kp s2.1 r14 cr_0_89 (by decide)
  have hE_0_90_1 : ∀ j : Int, w_ei ws (w_ar ws (n_v vs 0) 90) j = w_ei w1 (w_ar ws (n_v vs 0) 90) j := el_kp s1.1 r20 cr_0_90 (by decide)
  have hE_0_90_2 : ∀ j : Int, w_ei w1 (w_ar ws (n_v vs 0) 90) j = w_ei w2 (w_ar ws (n_v vs 0) 90) j := el_kp s2.1 r14 cr_0_90 (by decide)
  have hE_0_91_1 : ∀ j : Int, w_ei ws (w_ar ws (n_v vs 0) 91) j = w_ei w1 (w_ar ws (n_v vs 0) 91) j := el_kp s1.1 r20 cr_0_91 (by decide)
  have hE_0_91_2 : ∀ j : Int, 0 ≤ j → (j = v_iv (n_v vs 12) → w_ei w1 (w_ar ws (n_v vs 0) 91) j = v_iv (n_v vs 11)) ∧ (j ≠ v_iv (n_v vs 12) → w_ei w1 (w_ar ws (n_v vs 0) 91) j = w_ei w2 (w_ar ws (n_v vs 0) 91) j) := fun j hj => ⟨fun h => by unfold w_ei; rw [s2.1, if_pos ⟨ad_14.symm, by rw [h]⟩], fun h => by unfold w_ei; rw [s2.1, if_neg (fun e => h (by have := e.2; omega))]⟩
  have hE_0_92_1 : ∀ j : Int, 0 ≤ j → (j = v_iv (n_v vs 10) → w_ei ws (w_ar ws (n_v vs 0) 92) j = v_iv (n_v vs 12)) ∧ (j ≠ v_iv (n_v vs 10) → w_ei ws (w_ar ws (n_v vs 0) 92) j = w_ei w1 (w_ar ws (n_v vs 0) 92) j) := fun j hj => ⟨fun h => by unfold w_ei; rw [s1.1, if_pos ⟨ad_20.symm, by rw [h]⟩], fun h => by unfold w_ei; rw [s1.1, if_neg (fun e => h (by have := e.2; omega))]⟩
  have hE_0_92_2 : ∀ j : Int, w_ei w1 (w_ar ws (n_v vs 0) 92) j = w_ei w2 (w_ar ws (n_v vs 0) 92) j := el_kp s2.1 r14 cr_0_92 (by decide)
  have kz_0_79 := fdq_147 hD hth r0
  have kz_0_80 := fdq_131 hD hth r0
  have kz_0_81 := fdq_124 hD hth r0
  have nf0 : fc_1 PRD (20, [5, 6, 7], [60, 0, 2, 401, 90, 91]) ws (vs) := by
    refine ⟨nf_in hl rfl, sgq_950 ?_⟩
    · show FPT (w_ei ws (w_ar ws (n_v vs 5) 90)) (w_ei ws (w_ar ws (n_v vs 5) 91)) (v_iv (n_v vs 6)) (v_iv (n_v vs 7))
      simp only [q5, q6, q7]
      exact vc_Mo_augment_10_0 (v_iv (n_v vs 1)) (v_iv (n_v vs 2)) (v_iv (n_v vs 11)) (v_iv (n_v vs 12)) (v_iv (n_v vs 17)) (v_iv (n_v vs 18)) (v_iv (n_v vs 19)) (v_iv (n_v vs 22)) (w_fi ws (n_v vs 0) 79) (w_ei ws (w_ar ws (n_v vs 0) 90)) (w_ei ws (w_ar ws (n_v vs 0) 82)) (w_ei ws (w_ar ws (n_v vs 0) 83)) (w_ei ws (w_ar ws (n_v vs 0) 84)) (w_ei ws (w_ar ws (n_v vs 0) 85)) (w_ei ws (w_ar ws (n_v vs 0) 86)) (w_ei ws (w_ar ws (n_v vs 0) 87)) (w_ei ws (w_ar ws (n_v vs 0) 88)) (w_ei ws (w_ar ws (n_v vs 0) 89)) (w_fi ws (n_v vs 0) 80) (w_fi ws (n_v vs 0) 81) (w_fi w1 (n_v vs 0) 79) (w_ei w1 (w_ar ws (n_v vs 0) 90)) (w_ei w1 (w_ar ws (n_v vs 0) 82)) (w_ei w1 (w_ar ws (n_v vs 0) 83)) (w_ei w1 (w_ar ws (n_v vs 0) 84)) (w_ei w1 (w_ar ws (n_v vs 0) 85)) (w_ei w1 (w_ar ws (n_v vs 0) 86)) (w_ei w1 (w_ar ws (n_v vs 0) 87)) (w_ei w1 (w_ar ws (n_v vs 0) 88)) (w_ei w1 (w_ar ws (n_v vs 0) 89)) (w_fi w1 (n_v vs 0) 80) (w_fi w1 (n_v vs 0) 81) (w_ei w2 (w_ar ws (n_v vs 0) 90)) (w_ei w2 (w_ar ws (n_v vs 0) 91)) (w_fi w2 (n_v vs 0) 79) (w_ei w2 (w_ar ws (n_v vs 0) 82)) (w_ei w2 (w_ar ws (n_v vs 0) 83)) (w_ei w2 (w_ar ws (n_v vs 0) 84)) (w_ei w2 (w_ar ws (n_v vs 0) 85)) (w_ei w2 (w_ar ws (n_v vs 0) 86)) (w_ei w2 (w_ar ws (n_v vs 0) 87)) (w_ei w2 (w_ar ws (n_v vs 0) 88)) (w_ei w2 (w_ar ws (n_v vs 0) 89)) (w_fi w2 (n_v vs 0) 80) (w_fi w2 (n_v vs 0) 81) (w_ei w2 (w_ar ws (n_v vs 0) 92)) (w_ei ws (w_ar ws (n_v vs 0) 91)) (w_ei w1 (w_ar ws (n_v vs 0) 91)) (w_ei w1 (w_ar ws (n_v vs 0) 92)) k1 k2 k11 k12 k17 k18 k19 k22 d0 f34 h35 f36 f37 f50 fe_0_79_1 fe_0_80_1 fe_0_81_1 fe_0_79_2 fe_0_80_2 fe_0_81_2 hE_0_82_1 hE_0_82_2 hE_0_83_1 hE_0_83_2 hE_0_84_1 hE_0_84_2 hE_0_85_1 hE_0_85_2 hE_0_86_1 hE_0_86_2 hE_0_87_1 hE_0_87_2 hE_0_88_1 hE_0_88_2 hE_0_89_1 hE_0_89_2 hE_0_90_1 hE_0_90_2 hE_0_91_1 hE_0_91_2 hE_0_92_2 kz_0_79 kz_0_80 kz_0_81
  have nf1 : fc_1 PRD (20, [5, 6, 9, 11], [60, 0, 3, 403, 90, 92, 91]) ws (vs) := by
    refine ⟨nf_in hl rfl, sgq_959 ?_⟩
    · show BG1 (w_ei ws (w_ar ws (n_v vs 5) 90)) (w_ei ws (w_ar ws (n_v vs 5) 92)) (w_ei ws (w_ar ws (n_v vs 5) 91)) (v_iv (n_v vs 6)) (v_iv (n_v vs 9)) (v_iv (n_v vs 11))
      simp only [q5, q6]
      exact vc_Mo_augment_10_1 (v_iv (n_v vs 1)) (v_iv (n_v vs 9)) (v_iv (n_v vs 10)) (v_iv (n_v vs 11)) (v_iv (n_v vs 12)) (w_fi ws (n_v vs 0) 79) (w_ei ws (w_ar ws (n_v vs 0) 90)) (w_ei ws (w_ar ws (n_v vs 0) 82)) (w_ei ws (w_ar ws (n_v vs 0) 83)) (w_ei ws (w_ar ws (n_v vs 0) 84)) (w_ei ws (w_ar ws (n_v vs 0) 85)) (w_ei ws (w_ar ws (n_v vs 0) 86)) (w_ei ws (w_ar ws (n_v vs 0) 87)) (w_ei ws (w_ar ws (n_v vs 0) 88)) (w_ei ws (w_ar ws (n_v vs 0) 89)) (w_fi ws (n_v vs 0) 80) (w_fi ws (n_v vs 0) 81) (w_fi w1 (n_v vs 0) 79) (w_ei w1 (w_ar ws (n_v vs 0) 90)) (w_ei w1 (w_ar ws (n_v vs 0) 82)) (w_ei w1 (w_ar ws (n_v vs 0) 83)) (w_ei w1 (w_ar ws (n_v vs 0) 84)) (w_ei w1 (w_ar ws (n_v vs 0) 85)) (w_ei w1 (w_ar ws (n_v vs 0) 86)) (w_ei w1 (w_ar ws (n_v vs 0) 87)) (w_ei w1 (w_ar ws (n_v vs 0) 88)) (w_ei w1 (w_ar ws (n_v vs 0) 89)) (w_fi w1 (n_v vs 0) 80) (w_fi w1 (n_v vs 0) 81) (w_ei w2 (w_ar ws (n_v vs 0) 90)) (w_ei w2 (w_ar ws (n_v vs 0) 91)) (w_fi w2 (n_v vs 0) 79) (w_ei w2 (w_ar ws (n_v vs 0) 82)) (w_ei w2 (w_ar ws (n_v vs 0) 83)) (w_ei w2 (w_ar ws (n_v vs 0) 84)) (w_ei w2 (w_ar ws (n_v vs 0) 85)) (w_ei w2 (w_ar ws (n_v vs 0) 86)) (w_ei w2 (w_ar ws (n_v vs 0) 87)) (w_ei w2 (w_ar ws (n_v vs 0) 88)) (w_ei w2 (w_ar ws (n_v vs 0) 89)) (w_fi w2 (n_v vs 0) 80) (w_fi w2 (n_v vs 0) 81) (w_ei w2 (w_ar ws (n_v vs 0) 92)) (w_ei ws (w_ar ws (n_v vs 0) 91)) (w_ei w1 (w_ar ws (n_v vs 0) 91)) (w_ei ws (w_ar ws (n_v vs 0) 92)) (w_ei w1 (w_ar ws (n_v vs 0) 92)) k1 k9 k10 k11 k12 f51 f55 fe_0_79_1 fe_0_80_1 fe_0_81_1 fe_0_79_2 fe_0_80_2 fe_0_81_2 hE_0_82_1 hE_0_82_2 hE_0_83_1 hE_0_83_2 hE_0_84_1 hE_0_84_2 hE_0_85_1 hE_0_85_2 hE_0_86_1 hE_0_86_2 hE_0_87_1 hE_0_87_2 hE_0_88_1 hE_0_88_2 hE_0_89_1 hE_0_89_2 hE_0_90_1 hE_0_90_2 hE_0_91_1 hE_0_91_2 hE_0_92_1 hE_0_92_2 kz_0_79 kz_0_80 kz_0_81
  have nf2 : fc_1 PRD (20, [5, 6, 11, 22], [60, 0, 2, 404, 90, 91]) ws (vs) := by
    refine ⟨nf_in hl rfl, sgq_960 ?_⟩
    · show BF2 (w_ei ws (w_ar ws (n_v vs 5) 90)) (w_ei ws (w_ar ws (n_v vs 5) 91)) (v_iv (n_v vs 6)) (v_iv (n_v vs 11)) (v_iv (n_v vs 22))
      simp only [q5, q6]
      exact vc_Mo_augment_10_2 (v_iv (n_v vs 1)) (v_iv (n_v vs 11)) (v_iv (n_v vs 12)) (v_iv (n_v vs 22)) (w_fi ws (n_v vs 0) 79) (w_ei ws (w_ar ws (n_v vs 0) 90)) (w_ei ws (w_ar ws (n_v vs 0) 82)) (w_ei ws (w_ar ws (n_v vs 0) 83)) (w_ei ws (w_ar ws (n_v vs 0) 84)) (w_ei ws (w_ar ws (n_v vs 0) 85)) (w_ei ws (w_ar ws (n_v vs 0) 86)) (w_ei ws (w_ar ws (n_v vs 0) 87)) (w_ei ws (w_ar ws (n_v vs 0) 88)) (w_ei ws (w_ar ws (n_v vs 0) 89)) (w_fi ws (n_v vs 0) 80) (w_fi ws (n_v vs 0) 81) (w_fi w1 (n_v vs 0) 79) (w_ei w1 (w_ar ws (n_v vs 0) 90)) (w_ei w1 (w_ar ws (n_v vs 0) 82)) (w_ei w1 (w_ar ws (n_v vs 0) 83)) (w_ei w1 (w_ar ws (n_v vs 0) 84)) (w_ei w1 (w_ar ws (n_v vs 0) 85)) (w_ei w1 (w_ar ws (n_v vs 0) 86)) (w_ei w1 (w_ar ws (n_v vs 0) 87)) (w_ei w1 (w_ar ws (n_v vs 0) 88)) (w_ei w1 (w_ar ws (n_v vs 0) 89)) (w_fi w1 (n_v vs 0) 80) (w_fi w1 (n_v vs 0) 81) (w_ei w2 (w_ar ws (n_v vs 0) 90)) (w_ei w2 (w_ar ws (n_v vs 0) 91)) (w_fi w2 (n_v vs 0) 79) (w_ei w2 (w_ar ws (n_v vs 0) 82)) (w_ei w2 (w_ar ws (n_v vs 0) 83)) (w_ei w2 (w_ar ws (n_v vs 0) 84)) (w_ei w2 (w_ar ws (n_v vs 0) 85)) (w_ei w2 (w_ar ws (n_v vs 0) 86)) (w_ei w2 (w_ar ws (n_v vs 0) 87)) (w_ei w2 (w_ar ws (n_v vs 0) 88)) (w_ei w2 (w_ar ws (n_v vs 0) 89)) (w_fi w2 (n_v vs 0) 80) (w_fi w2 (n_v vs 0) 81) (w_ei w2 (w_ar ws (n_v vs 0) 92)) (w_ei ws (w_ar ws (n_v vs 0) 91)) (w_ei w1 (w_ar ws (n_v vs 0) 91)) (w_ei w1 (w_ar ws (n_v vs 0) 92)) k1 k11 k12 k22 f0 f52 fe_0_79_1 fe_0_80_1 fe_0_81_1 fe_0_79_2 fe_0_80_2 fe_0_81_2 hE_0_82_1 hE_0_82_2 hE_0_83_1 hE_0_83_2 hE_0_84_1 hE_0_84_2 hE_0_85_1 hE_0_85_2 hE_0_86_1 hE_0_86_2 hE_0_87_1 hE_0_87_2 hE_0_88_1 hE_0_88_2 hE_0_89_1 hE_0_89_2 hE_0_90_1 hE_0_90_2 hE_0_91_1 hE_0_91_2 hE_0_92_2 kz_0_79 kz_0_80 kz_0_81
  have nf3 : fc_1 PRD (20, [5, 6, 7, 21, 11], [60, 0, 2, 393, 92, 91]) ws (vs) := by
    refine ⟨nf_in hl rfl, sgq_956 ?_⟩
    · show AU2 (w_ei ws (w_ar ws (n_v vs 5) 92)) (w_ei ws (w_ar ws (n_v vs 5) 91)) (v_iv (n_v vs 6)) (v_iv (n_v vs 7)) (v_iv (n_v vs 21)) (v_iv (n_v vs 11))
      simp only [q5, q6, q7]
      exact vc_Mo_augment_10_3 (v_iv (n_v vs 1)) (v_iv (n_v vs 2)) (v_iv (n_v vs 9)) (v_iv (n_v vs 10)) (v_iv (n_v vs 11)) (v_iv (n_v vs 12)) (v_iv (n_v vs 15)) (v_iv (n_v vs 21)) (v_iv (n_v vs 22)) (w_fi ws (n_v vs 0) 79) (w_ei ws (w_ar ws (n_v vs 0) 90)) (w_ei ws (w_ar ws (n_v vs 0) 82)) (w_ei ws (w_ar ws (n_v vs 0) 83)) (w_ei ws (w_ar ws (n_v vs 0) 84)) (w_ei ws (w_ar ws (n_v vs 0) 85)) (w_ei ws (w_ar ws (n_v vs 0) 86)) (w_ei ws (w_ar ws (n_v vs 0) 87)) (w_ei ws (w_ar ws (n_v vs 0) 88)) (w_ei ws (w_ar ws (n_v vs 0) 89)) (w_fi ws (n_v vs 0) 80) (w_fi ws (n_v vs 0) 81) (w_fi w1 (n_v vs 0) 79) (w_ei w1 (w_ar ws (n_v vs 0) 90)) (w_ei w1 (w_ar ws (n_v vs 0) 82)) (w_ei w1 (w_ar ws (n_v vs 0) 83)) (w_ei w1 (w_ar ws (n_v vs 0) 84)) (w_ei w1 (w_ar ws (n_v vs 0) 85)) (w_ei w1 (w_ar ws (n_v vs 0) 86)) (w_ei w1 (w_ar ws (n_v vs 0) 87)) (w_ei w1 (w_ar ws (n_v vs 0) 88)) (w_ei w1 (w_ar ws (n_v vs 0) 89)) (w_fi w1 (n_v vs 0) 80) (w_fi w1 (n_v vs 0) 81) (w_ei w2 (w_ar ws (n_v vs 0) 90)) (w_ei w2 (w_ar ws (n_v vs 0) 91)) (w_fi w2 (n_v vs 0) 79) (w_ei w2 (w_ar ws (n_v vs 0) 82)) (w_ei w2 (w_ar ws (n_v vs 0) 83)) (w_ei w2 (w_ar ws (n_v vs 0) 84)) (w_ei w2 (w_ar ws (n_v vs 0) 85)) (w_ei w2 (w_ar ws (n_v vs 0) 86)) (w_ei w2 (w_ar ws (n_v vs 0) 87)) (w_ei w2 (w_ar ws (n_v vs 0) 88)) (w_ei w2 (w_ar ws (n_v vs 0) 89)) (w_fi w2 (n_v vs 0) 80) (w_fi w2 (n_v vs 0) 81) (w_ei w2 (w_ar ws (n_v vs 0) 92)) (w_ei ws (w_ar ws (n_v vs 0) 91)) (w_ei w1 (w_ar ws (n_v vs 0) 91)) (w_ei ws (w_ar ws (n_v vs 0) 92)) (w_ei w1 (w_ar ws (n_v vs 0) 92)) k1 k2 k10 k11 k12 k15 k21 k22 d0 f1 h40 f41 f53 fe_0_79_1 fe_0_80_1 fe_0_81_1 fe_0_79_2 fe_0_80_2 fe_0_81_2 hE_0_82_1 hE_0_82_2 hE_0_83_1 hE_0_83_2 hE_0_84_1 hE_0_84_2 hE_0_85_1 hE_0_85_2 hE_0_86_1 hE_0_86_2 hE_0_87_1 hE_0_87_2 hE_0_88_1 hE_0_88_2 hE_0_89_1 hE_0_89_2 hE_0_90_1 hE_0_90_2 hE_0_91_1 hE_0_91_2 hE_0_92_1 hE_0_92_2 kz_0_79 kz_0_80 kz_0_81
  have nf4 : fc_1 PRD (20, [9, 21], [50, 0, 0, 0, 2, 1, 0, 1, 1]) ws (vs) := ⟨nf_in hl rfl, sgq_360 (vc_Mo_augment_10_4 (v_iv (n_v vs 9)) (v_iv (n_v vs 10)) (v_iv (n_v vs 21)) (w_fi ws (n_v vs 0) 79) (w_ei ws (w_ar ws (n_v vs 0) 90)) (w_ei ws (w_ar ws (n_v vs 0) 82)) (w_ei ws (w_ar ws (n_v vs 0) 83)) (w_ei ws (w_ar ws (n_v vs 0) 84)) (w_ei ws (w_ar ws (n_v vs 0) 85)) (w_ei ws (w_ar ws (n_v vs 0) 86)) (w_ei ws (w_ar ws (n_v vs 0) 87)) (w_ei ws (w_ar ws (n_v vs 0) 88)) (w_ei ws (w_ar ws (n_v vs 0) 89)) (w_fi ws (n_v vs 0) 80) (w_fi ws (n_v vs 0) 81) (w_fi w1 (n_v vs 0) 79) (w_ei w1 (w_ar ws (n_v vs 0) 90)) (w_ei w1 (w_ar ws (n_v vs 0) 82)) (w_ei w1 (w_ar ws (n_v vs 0) 83)) (w_ei w1 (w_ar ws (n_v vs 0) 84)) (w_ei w1 (w_ar ws (n_v vs 0) 85)) (w_ei w1 (w_ar ws (n_v vs 0) 86)) (w_ei w1 (w_ar ws (n_v vs 0) 87)) (w_ei w1 (w_ar ws (n_v vs 0) 88)) (w_ei w1 (w_ar ws (n_v vs 0) 89)) (w_fi w1 (n_v vs 0) 80) (w_fi w1 (n_v vs 0) 81) (w_ei w2 (w_ar ws (n_v vs 0) 90)) (w_fi w2 (n_v vs 0) 79) (w_ei w2 (w_ar ws (n_v vs 0) 82)) (w_ei w2 (w_ar ws (n_v vs 0) 83)) (w_ei w2 (w_ar ws (n_v vs 0) 84)) (w_ei w2 (w_ar ws (n_v vs 0) 85)) (w_ei w2 (w_ar ws (n_v vs 0) 86)) (w_ei w2 (w_ar ws (n_v vs 0) 87)) (w_ei w2 (w_ar ws (n_v vs 0) 88)) (w_ei w2 (w_ar ws (n_v vs 0) 89)) (w_fi w2 (n_v vs 0) 80) (w_fi w2 (n_v vs 0) 81) (w_ei w2 (w_ar ws (n_v vs 0) 92)) (w_ei ws (w_ar ws (n_v vs 0) 91)) (w_ei w1 (w_ar ws (n_v vs 0) 91)) (w_ei w1 (w_ar ws (n_v vs 0) 92)) k9 k10 k21 d4 d17 fe_0_79_1 fe_0_80_1 fe_0_81_1 fe_0_79_2 fe_0_80_2 fe_0_81_2 hE_0_82_1 hE_0_82_2 hE_0_83_1 hE_0_83_2 hE_0_84_1 hE_0_84_2 hE_0_85_1 hE_0_85_2 hE_0_86_1 hE_0_86_2 hE_0_87_1 hE_0_87_2 hE_0_88_1 hE_0_88_2 hE_0_89_1 hE_0_89_2 hE_0_90_1 hE_0_90_2 hE_0_91_1 hE_0_92_2 kz_0_79 kz_0_80 kz_0_81)⟩
  refine ⟨(fun _ h => (by cases h)), [], trivial, ?_, (fun _ h => (by cases h))⟩
  rw [List.append_nil]
  exact List.forall_mem_cons.mpr ⟨⟨show (20 : Nat) < 100 from by decide, nf0⟩, List.forall_mem_cons.mpr ⟨⟨show (20 : Nat) < 100 from by decide, nf1⟩, List.forall_mem_cons.mpr ⟨⟨show (20 : Nat) < 100 from by decide, nf2⟩, List.forall_mem_cons.mpr ⟨⟨show (20 : Nat) < 100 from by decide, nf3⟩, List.forall_mem_cons.mpr ⟨⟨show (20 : Nat) < 100 from by decide, nf4⟩, (fun _ h => (by cases h))⟩⟩⟩⟩⟩
set_option maxHeartbeats 4000000 in
theorem vc_Mo_augment_11_0 (x1 : Int) (x11 : Int) (x12 : Int) (x17 : Int) (x18 : Int) (x19 : Int) (x20 : Int) (flow_0 : Int → Int) (cameBy_0 : Int → Int) (k1 : 2 ≤ x1 ∧ x1 ≤ 78) (k11 : 0 ≤ x11 ∧ x11 ≤ 77) (k12 : 0 ≤ x12 ∧ x12 ≤ 77) (k17 : 0 ≤ x17 ∧ x17 ≤ 6006) (k18 : 0 ≤ x18 ∧ x18 ≤ 6083) (k19 : 0 ≤ x19 ∧ x19 ≤ 0) (k20 : 1 ≤ x20 ∧ x20 ≤ 78) (f0 : x20 = x12 + 1) (f1 : x19 = 0) (h2 : x19 = flow_0 (x18)) (f3 : x18 = x17 + x12) (f4 : x17 = x1 * x11) (f20 : BF2 (flow_0) (cameBy_0) (x1) (x11) (x12)) : BF2 (flow_0) (cameBy_0) (x1) (x11) (x20) := by
  first
    | exact bf2_zero (by omega)
    | exact bf2_skip1 ‹BF2 _ _ _ _ _› (by assumption) (by assumption) (by omega)
    | exact bf2_skip2 ‹BF2 _ _ _ _ _› (by assumption) (by assumption) (by assumption) (by assumption) (by omega)
    | exact bf2_step ‹BF2 _ _ _ _ _› (by assumption) (by assumption) rfl (by omega)
def o_Mo_augment_11 : or_T := (65, 21, [(1, (0, 2, 78, [])), (11, (0, 0, 77, [])), (12, (0, 0, 77, [])), (17, (0, 0, 6006, [])), (18, (0, 0, 6083, [])), (19, (0, 0, 0, [])), (20, (0, 1, 78, []))], [(6, [20, 12], [1]), (8, [19], [0]), (10, [19, 16, 18], []), (1, [18, 17, 12], []), (3, [17, 6, 11], []), (9, [16, 5], [90]), (20, [5, 6, 11, 12], [60, 0, 2, 404, 90, 91]), (24, [0, 5], []), (24, [1, 6], [])], [], [], [(20, [5, 6, 11, 20], [60, 0, 2, 404, 90, 91])], [], [])
theorem oo_Mo_augment_11 {kA : Nat → ClassId} : or_ok PRD kA GG o_Mo_augment_11 := by
  refine or_mk fun A ta ws vs hD hth hl => ?_
  intro t1 k1 t11 k11 t12 k12 t17 k17 t18 k18 t19 k19 t20 k20 f0 f1 f2 f3 f4 f5 f20 f26 f27
  replace f0 := shm_4 f0
  replace f1 := shm_192 f1
  replace f2 := shm_107 f2
  replace f3 := shm_12 f3
  replace f4 := shm_38 f4
  replace f5 := shm_962 f5
  replace f20 := shm_960 f20
  replace f26 := shm_5 f26
  replace f27 := shm_5 f27
  have q5 : n_v vs 5 = n_v vs 0 := f26.symm
  have q6 : n_v vs 6 = n_v vs 1 := f27.symm
  simp only [q6, q5] at f4 f5 f20
  have ad_16 : v_ad (n_v vs 16) = w_ar ws (n_v vs 0) 90 := congrArg v_ad f5
  simp only [ad_16] at f2
  have h2 : v_iv (n_v vs 19) = w_ei ws (w_ar ws (n_v vs 0) 90) (v_iv (n_v vs 18)) := f2
  have nf0 : fc_1 PRD (20, [5, 6, 11, 20], [60, 0, 2, 404, 90, 91]) ws (vs) := by
    refine ⟨nf_in hl rfl, sgq_960 ?_⟩
    · show BF2 (w_ei ws (w_ar ws (n_v vs 5) 90)) (w_ei ws (w_ar ws (n_v vs 5) 91)) (v_iv (n_v vs 6)) (v_iv (n_v vs 11)) (v_iv (n_v vs 20))
      simp only [q5, q6]
      exact vc_Mo_augment_11_0 (v_iv (n_v vs 1)) (v_iv (n_v vs 11)) (v_iv (n_v vs 12)) (v_iv (n_v vs 17)) (v_iv (n_v vs 18)) (v_iv (n_v vs 19)) (v_iv (n_v vs 20)) (w_ei ws (w_ar ws (n_v vs 0) 90)) (w_ei ws (w_ar ws (n_v vs 0) 91)) k1 k11 k12 k17 k18 k19 k20 f0 f1 h2 f3 f4 f20
  refine ⟨(fun _ h => (by cases h)), [], trivial, ?_, (fun _ h => (by cases h))⟩
  rw [List.append_nil]
  exact List.forall_mem_cons.mpr ⟨⟨show (20 : Nat) < 100 from by decide, nf0⟩, (fun _ h => (by cases h))⟩

set_option maxHeartbeats 4000000 in
theorem vc_Mo_augment_12_0 (x1 : Int) (x2 : Int) (k1 : 2 ≤ x1 ∧ x1 ≤ 78) (k2 : 0 ≤ x2 ∧ x2 ≤ 76) (f0 : (x2 + 1) ≤ x1) : (x2 + 1) ≤ x1 := by
  first
    | omega
    | (have h := au1_len ‹AU1 _ _ _ _ _›; omega)
set_option maxHeartbeats 4000000 in
theorem vc_Mo_augment_12_1 (x1 : Int) (x3 : Int) (k1 : 2 ≤ x1 ∧ x1 ≤ 78) (k3 : 1 ≤ x3 ∧ x3 ≤ 77) (f1 : (x3 + 1) ≤ x1) : (x3 + 1) ≤ x1 := by
  first
    | omega
    | (have h := au1_len ‹AU1 _ _ _ _ _›; omega)
set_option maxHeartbeats 4000000 in
theorem vc_Mo_augment_12_2 (x1 : Int) (k1 : 2 ≤ x1 ∧ x1 ≤ 78) (f2 : x1 ≤ 78) : x1 ≤ 78 := by
  first
    | omega
    | (have h := au1_len ‹AU1 _ _ _ _ _›; omega)
set_option maxHeartbeats 4000000 in
theorem vc_Mo_augment_12_3 (x1 : Int) (pointMany_0 : Int) (k1 : 2 ≤ x1 ∧ x1 ≤ 78) (f3 : x1 = (pointMany_0 + 2)) (kz_0_79 : 0 ≤ pointMany_0 ∧ pointMany_0 ≤ 76) : x1 = (pointMany_0 + 2) := by
  first
    | omega
    | (have h := au1_len ‹AU1 _ _ _ _ _›; omega)
set_option maxHeartbeats 4000000 in
theorem vc_Mo_augment_12_4 (x2 : Int) (pointMany_0 : Int) (k2 : 0 ≤ x2 ∧ x2 ≤ 76) (f4 : x2 = pointMany_0) (kz_0_79 : 0 ≤ pointMany_0 ∧ pointMany_0 ≤ 76) : x2 = pointMany_0 := by
  first
    | omega
    | (have h := au1_len ‹AU1 _ _ _ _ _›; omega)
set_option maxHeartbeats 4000000 in
theorem vc_Mo_augment_12_5 (x3 : Int) (pointMany_0 : Int) (k3 : 1 ≤ x3 ∧ x3 ≤ 77) (f5 : x3 = (pointMany_0 + 1)) (kz_0_79 : 0 ≤ pointMany_0 ∧ pointMany_0 ≤ 76) : x3 = (pointMany_0 + 1) := by
  first
    | omega
    | (have h := au1_len ‹AU1 _ _ _ _ _›; omega)
set_option maxHeartbeats 4000000 in
theorem vc_Mo_augment_12_6 (pointMany_0 : Int) (flow_0 : Int → Int) (spot_0 : Int → Int) (costA_0 : Int → Int) (costB_0 : Int → Int) (costW_0 : Int → Int) (costPlain_0 : Int → Int) (apartA_0 : Int → Int) (apartB_0 : Int → Int) (apart_0 : Int → Int) (costMany_0 : Int) (apartMany_0 : Int) (f6 : FLO (pointMany_0) (costMany_0) (apartMany_0) (flow_0) (spot_0) (costA_0) (costB_0) (costW_0) (costPlain_0) (apartA_0) (apartB_0) (apart_0)) (kz_0_79 : 0 ≤ pointMany_0 ∧ pointMany_0 ≤ 76) (kz_0_80 : 0 ≤ costMany_0 ∧ costMany_0 ≤ 200) (kz_0_81 : 0 ≤ apartMany_0 ∧ apartMany_0 ≤ 200) : FLO (pointMany_0) (costMany_0) (apartMany_0) (flow_0) (spot_0) (costA_0) (costB_0) (costW_0) (costPlain_0) (apartA_0) (apartB_0) (apart_0) := by
  first
    | assumption
    | exact (psh_end ‹PSH _ _ _ _ _ _ _ _ _ _ _ _ _ _ _ _› (by omega)).1
set_option maxHeartbeats 4000000 in
theorem vc_Mo_augment_12_7 (x4 : Int) (pointMany_0 : Int) (flow_0 : Int → Int) (k4 : (-2) ≤ x4 ∧ x4 ≤ 180000001) (f7 : XLE (pointMany_0) (flow_0) (x4)) (kz_0_79 : 0 ≤ pointMany_0 ∧ pointMany_0 ≤ 76) : XLE (pointMany_0) (flow_0) (x4) := by
  assumption
set_option maxHeartbeats 4000000 in
theorem vc_Mo_augment_12_8 (x1 : Int) (x2 : Int) (flow_0 : Int → Int) (cameBy_0 : Int → Int) (k1 : 2 ≤ x1 ∧ x1 ≤ 78) (k2 : 0 ≤ x2 ∧ x2 ≤ 76) (f8 : FPT (flow_0) (cameBy_0) (x1) (x2)) : FPT (flow_0) (cameBy_0) (x1) (x2) := by
  first
    | assumption
    | exact fpt_start ‹AU0 _ _› (by omega) (by assumption) (by omega)
    | exact fpt_step2 ‹FPT _ _ _ _› (by assumption) rfl (by assumption) (by assumption) (by assumption) (by assumption) (by omega)
set_option maxHeartbeats 4000000 in
theorem vc_Mo_augment_12_9 (x1 : Int) (x2 : Int) (x10 : Int) (cameBy_0 : Int → Int) (queue_0 : Int → Int) (k1 : 2 ≤ x1 ∧ x1 ≤ 78) (k2 : 0 ≤ x2 ∧ x2 ≤ 76) (k10 : 1 ≤ x10 ∧ x10 ≤ 79) (f9 : AU1 (queue_0) (cameBy_0) (x1) (x2) (x10)) : AU1 (queue_0) (cameBy_0) (x1) (x2) (x10) := by
  first
    | assumption
    | exact au1_start ‹AU0 _ _› (by omega) (by omega) (by omega) (by omega) (by assumption) (by omega) (by omega) (by assumption) (by omega) (by omega) (by omega)
    | exact ‹AU2 _ _ _ _ _ _›.1
set_option maxHeartbeats 4000000 in
theorem vc_Mo_augment_12_10 (x9 : Int) (x13 : Int) (gx : Int) (k9 : 1 ≤ x9 ∧ x9 ≤ 78) (k13 : (-2) ≤ x13 ∧ x13 ≤ 79) (f11 : (-1) * x9 + ((-1) * x13 + 0) ≤ (-79)) (ex2 : gx = (-1) + (1 * x13 + 0)) : (-1) * x9 + ((-1) * gx + 0) ≤ (-78) := by
  first
    | omega
    | (have h := au1_len ‹AU1 _ _ _ _ _›; omega)
set_option maxHeartbeats 4000000 in
theorem vc_Mo_augment_12_11 (x1 : Int) (x9 : Int) (flow_0 : Int → Int) (cameBy_0 : Int → Int) (queue_0 : Int → Int) (k1 : 2 ≤ x1 ∧ x1 ≤ 78) (k9 : 1 ≤ x9 ∧ x9 ≤ 78) (f10 : BF1 (flow_0) (queue_0) (cameBy_0) (x1) (x9)) : BF1 (flow_0) (queue_0) (cameBy_0) (x1) (x9) := by
  first
    | assumption
    | exact bf1_zero (by omega)
def o_Mo_augment_12 : or_T := (43, 14, [(0, (2, 0, 0, [165])), (1, (0, 2, 78, [])), (2, (0, 0, 76, [])), (3, (0, 1, 77, [])), (4, (0, -2, 180000001, [])), (5, (2, 0, 0, [165])), (6, (0, 2, 78, [])), (7, (0, 0, 76, [])), (8, (0, 1, 77, [])), (9, (0, 1, 78, [])), (10, (0, 1, 79, [])), (13, (0, -2, 79, []))], [(20, [7, 6], [50, 0, 0, 0, 6, 4, 2, 1, 0, 0, 1, 1, 1]), (20, [8, 6], [50, 0, 0, 0, 6, 4, 2, 1, 0, 0, 1, 1, 1]), (20, [6], [50, 0, 0, 0, 2, 1, 0, 0, 78]), (20, [6, 5], [50, 1, 0, 1079, 1, 2, 1, 0, 4, 3, 2, 1, 79, 0, 2]), (20, [7, 5], [50, 1, 0, 1079, 1, 2, 1, 0, 2, 1, 79]), (20, [8, 5], [50, 1, 0, 1079, 1, 2, 1, 0, 4, 3, 2, 1, 79, 0, 1]), (20, [5], [60, 3, 9, 397, 79, 80, 81, 90, 82, 83, 84, 85, 86, 87, 88, 89]), (20, [5, 4], [60, 1, 1, 398, 79, 90]), (20, [5, 6, 7], [60, 0, 2, 401, 90, 91]), (20, [5, 6, 7, 10], [60, 0, 2, 392, 92, 91]), (20, [5, 6, 9], [60, 0, 3, 402, 90, 92, 91]), (23, [9, 13], [-79, -1, -1]), (23, [13], [-1, -1]), (24, [0, 5], []), (24, [1, 6], []), (24, [2, 7], []), (24, [3, 8], [])], [], [(0, -2, 79, [])], [(20, [7, 6], [50, 0, 0, 0, 6, 4, 2, 1, 0, 0, 1, 1, 1]), (20, [8, 6], [50, 0, 0, 0, 6, 4, 2, 1, 0, 0, 1, 1, 1]), (20, [6], [50, 0, 0, 0, 2, 1, 0, 0, 78]), (20, [6, 5], [50, 1, 0, 1079, 1, 2, 1, 0, 4, 3, 2, 1, 79, 0, 2]), (20, [7, 5], [50, 1, 0, 1079, 1, 2, 1, 0, 2, 1, 79]), (20, [8, 5], [50, 1, 0, 1079, 1, 2, 1, 0, 4, 3, 2, 1, 79, 0, 1]), (20, [5], [60, 3, 9, 397, 79, 80, 81, 90, 82, 83, 84, 85, 86, 87, 88, 89]), (20, [5, 4], [60, 1, 1, 398, 79, 90]), (20, [5, 6, 7], [60, 0, 2, 401, 90, 91]), (20, [5, 6, 7, 10], [60, 0, 2, 392, 92, 91]), (23, [9, 14], [-78, -1, -1]), (20, [5, 6, 9], [60, 0, 3, 402, 90, 92, 91]), (24, [0, 5], []), (24, [1, 6], []), (24, [2, 7], []), (24, [3, 8], [])], [(14, 13, -1000000000000, -1)], [(1, 6, -4294967296, 0), (2, 7, -4294967296, 0), (3, 8, -4294967296, 0), (6, 1, -4294967296, 0), (7, 2, -4294967296, 0), (8, 3, -4294967296, 0), (9, 10, -4294967296, 0)])
theorem oo_Mo_augment_12 {kA : Nat → ClassId} : or_ok PRD kA GG o_Mo_augment_12 := by
  refine or_mk fun A ta ws vs hD hth hl => ?_
  intro t0 r0 t1 k1 t2 k2 t3 k3 t4 k4 t5 r5 t6 k6 t7 k7 t8 k8 t9 k9 t10 k10 t13 k13 d0 d1 d2 d3 d4 d5 d6 f0 f1 f2 f3 f4 f5 f6 f7 f8 f9 f10 f11 f12 f13 f14 f15 f16
  replace f0 := shm_396 f0
  replace f1 := shm_396 f1
  replace f2 := shm_941 f2
  replace f3 := shm_942 f3
  replace f4 := shm_943 f4
  replace f5 := shm_944 f5
  replace f6 := shm_945 f6
  replace f7 := shm_946 f7
  replace f8 := shm_950 f8
  replace f9 := shm_951 f9
  replace f10 := shm_953 f10
  replace f11 := shm_961 f11
  replace f12 := shm_626 f12
  replace f13 := shm_5 f13
  replace f14 := shm_5 f14
  replace f15 := shm_5 f15
  replace f16 := shm_5 f16
  have q5 : n_v vs 5 = n_v vs 0 := f13.symm
  have q6 : n_v vs 6 = n_v vs 1 := f14.symm
  have q7 : n_v vs 7 = n_v vs 2 := f15.symm
  have q8 : n_v vs 8 = n_v vs 3 := f16.symm
  simp only [q6, q7, q8, q5] at f0 f1 f2 f3 f4 f5 f6 f7 f8 f9 f10
  have cr_0_82 := fdq_230 hD hth r0
  have cr_0_83 := fdq_126 hD hth r0
  have cr_0_84 := fdq_127 hD hth r0
  have cr_0_85 := fdq_128 hD hth r0
  have cr_0_86 := fdq_129 hD hth r0
  have cr_0_87 := fdq_119 hD hth r0
  have cr_0_88 := fdq_120 hD hth r0
  have cr_0_89 := fdq_121 hD hth r0
  have cr_0_90 := fdq_231 hD hth r0
  have cr_0_91 := fdq_232 hD hth r0
  have cr_0_92 := fdq_233 hD hth r0
  have hK_0_82 := elq_143 hD hth cr_0_82
  have hK_0_83 := elq_67 hD hth cr_0_83
  have hK_0_84 := elq_68 hD hth cr_0_84
  have hK_0_85 := elq_69 hD hth cr_0_85
  have hK_0_86 := elq_70 hD hth cr_0_86
  have hK_0_87 := elq_62 hD hth cr_0_87
  have hK_0_88 := elq_63 hD hth cr_0_88
  have hK_0_89 := elq_64 hD hth cr_0_89
  have hK_0_90 := elq_144 hD hth cr_0_90
  have hK_0_91 := elq_145 hD hth cr_0_91
  have hK_0_92 := elq_146 hD hth cr_0_92
  have kz_0_79 := fdq_147 hD hth r0
  have kz_0_80 := fdq_131 hD hth r0
  have kz_0_81 := fdq_124 hD hth r0
  obtain ⟨x, ex, hx⟩ := iv_ex (ta := ta) (lo := (-2)) (hi := 79) (z := (-1) + (1 * v_iv (n_v vs 13) + 0)) (by omega) (by omega) (by omega) (by omega)
  have ex2 : v_iv (Value.int x) = (-1) + (1 * v_iv (n_v vs 13) + 0) := ex
  have ex3 : (-2) ≤ v_iv (Value.int x) ∧ v_iv (Value.int x) ≤ 79 := tv_rng hx
  have e_0 : n_v (vs ++ [Value.int x]) 0 = n_v vs 0 := n_v_old (by rw [hl]; decide)
  have e_1 : n_v (vs ++ [Value.int x]) 1 = n_v vs 1 := n_v_old (by rw [hl]; decide)
  have e_2 : n_v (vs ++ [Value.int x]) 2 = n_v vs 2 := n_v_old (by rw [hl]; decide)
  have e_3 : n_v (vs ++ [Value.int x]) 3 = n_v vs 3 := n_v_old (by rw [hl]; decide)
  have e_4 : n_v (vs ++ [Value.int x]) 4 = n_v vs 4 := n_v_old (by rw [hl]; decide)
  have e_5 : n_v (vs ++ [Value.int x]) 5 = n_v vs 5 := n_v_old (by rw [hl]; decide)
  have e_6 : n_v (vs ++ [Value.int x]) 6 = n_v vs 6 := n_v_old (by rw [hl]; decide)
  have e_7 : n_v (vs ++ [Value.int x]) 7 = n_v vs 7 := n_v_old (by rw [hl]; decide)
  have e_8 : n_v (vs ++ [Value.int x]) 8 = n_v vs 8 := n_v_old (by rw [hl]; decide)
  have e_9 : n_v (vs ++ [Value.int x]) 9 = n_v vs 9 := n_v_old (by rw [hl]; decide)
  have e_10 : n_v (vs ++ [Value.int x]) 10 = n_v vs 10 := n_v_old (by rw [hl]; decide)
  have e_14 : n_v (vs ++ [Value.int x]) 14 = Value.int x := n_v_new hl
  have nf0 : fc_1 PRD (20, [7, 6], [50, 0, 0, 0, 6, 4, 2, 1, 0, 0, 1, 1, 1]) ws (vs ++ [Value.int x]) := by
    refine ⟨nf_inA hl rfl, sgq_396 ?_⟩
    · show (v_iv (n_v (vs ++ [Value.int x]) 7) + 1) ≤ v_iv (n_v (vs ++ [Value.int x]) 6)
      simp only [e_6, e_7, q6, q7]
      exact vc_Mo_augment_12_0 (v_iv (n_v vs 1)) (v_iv (n_v vs 2)) k1 k2 f0
  have nf1 : fc_1 PRD (20, [8, 6], [50, 0, 0, 0, 6, 4, 2, 1, 0, 0, 1, 1, 1]) ws (vs ++ [Value.int x]) := by
    refine ⟨nf_inA hl rfl, sgq_396 ?_⟩
    · show (v_iv (n_v (vs ++ [Value.int x]) 8) + 1) ≤ v_iv (n_v (vs ++ [Value.int x]) 6)
      simp only [e_6, e_8, q6, q8]
      exact vc_Mo_augment_12_1 (v_iv (n_v vs 1)) (v_iv (n_v vs 3)) k1 k3 f1
  have nf2 : fc_1 PRD (20, [6], [50, 0, 0, 0, 2, 1, 0, 0, 78]) ws (vs ++ [Value.int x]) := by
    refine ⟨nf_inA hl rfl, sgq_941 ?_⟩
    · show v_iv (n_v (vs ++ [Value.int x]) 6) ≤ 78
      simp only [e_6, q6]
      exact vc_Mo_augment_12_2 (v_iv (n_v vs 1)) k1 f2
  have nf3 : fc_1 PRD (20, [6, 5], [50, 1, 0, 1079, 1, 2, 1, 0, 4, 3, 2, 1, 79, 0, 2]) ws (vs ++ [Value.int x]) := by
    refine ⟨nf_inA hl rfl, sgq_942 ?_⟩
    · show v_iv (n_v (vs ++ [Value.int x]) 6) = (w_fi ws (n_v (vs ++ [Value.int x]) 5) 79 + 2)
      simp only [e_5, e_6, q5, q6]
      exact vc_Mo_augment_12_3 (v_iv (n_v vs 1)) (w_fi ws (n_v vs 0) 79) k1 f3 kz_0_79
  have nf4 : fc_1 PRD (20, [7, 5], [50, 1, 0, 1079, 1, 2, 1, 0, 2, 1, 79]) ws (vs ++ [Value.int x]) := by
    refine ⟨nf_inA hl rfl, sgq_943 ?_⟩
    · show v_iv (n_v (vs ++ [Value.int x]) 7) = w_fi ws (n_v (vs ++ [Value.int x]) 5) 79
      simp only [e_5, e_7, q5, q7]
      exact vc_Mo_augment_12_4 (v_iv (n_v vs 2)) (w_fi ws (n_v vs 0) 79) k2 f4 kz_0_79
  have nf5 : fc_1 PRD (20, [8, 5], [50, 1, 0, 1079, 1, 2, 1, 0, 4, 3, 2, 1, 79, 0, 1]) ws (vs ++ [Value.int x]) := by
    refine ⟨nf_inA hl rfl, sgq_944 ?_⟩
    · show v_iv (n_v (vs ++ [Value.int x]) 8) = (w_fi ws (n_v (vs ++ [Value.int x]) 5) 79 + 1)
      simp only [e_5, e_8, q5, q8]
      exact vc_Mo_augment_12_5 (v_iv (n_v vs 3)) (w_fi ws (n_v vs 0) 79) k3 f5 kz_0_79
  have nf6 : fc_1 PRD (20, [5], [60, 3, 9, 397, 79, 80, 81, 90, 82, 83, 84, 85, 86, 87, 88, 89]) ws (vs ++ [Value.int x]) := by
    refine ⟨nf_inA hl rfl, sgq_945 ?_⟩
    · show FLO (w_fi ws (n_v (vs ++ [Value.int x]) 5) 79) (w_fi ws (n_v (vs ++ [Value.int x]) 5) 80) (w_fi ws (n_v (vs ++ [Value.int x]) 5) 81) (w_ei ws (w_ar ws (n_v (vs ++ [Value.int x]) 5) 90)) (w_ei ws (w_ar ws (n_v (vs ++ [Value.int x]) 5) 82)) (w_ei ws (w_ar ws (n_v (vs ++ [Value.int x]) 5) 83)) (w_ei ws (w_ar ws (n_v (vs ++ [Value.int x]) 5) 84)) (w_ei ws (w_ar ws (n_v (vs ++ [Value.int x]) 5) 85)) (w_ei ws (w_ar ws (n_v (vs ++ [Value.int x]) 5) 86)) (w_ei ws (w_ar ws (n_v (vs ++ [Value.int x]) 5) 87)) (w_ei ws (w_ar ws (n_v (vs ++ [Value.int x]) 5) 88)) (w_ei ws (w_ar ws (n_v (vs ++ [Value.int x]) 5) 89))
      simp only [e_5, q5]
      exact vc_Mo_augment_12_6 (w_fi ws (n_v vs 0) 79) (w_ei ws (w_ar ws (n_v vs 0) 90)) (w_ei ws (w_ar ws (n_v vs 0) 82)) (w_ei ws (w_ar ws (n_v vs 0) 83)) (w_ei ws (w_ar ws (n_v vs 0) 84)) (w_ei ws (w_ar ws (n_v vs 0) 85)) (w_ei ws (w_ar ws (n_v vs 0) 86)) (w_ei ws (w_ar ws (n_v vs 0) 87)) (w_ei ws (w_ar ws (n_v vs 0) 88)) (w_ei ws (w_ar ws (n_v vs 0) 89)) (w_fi ws (n_v vs 0) 80) (w_fi ws (n_v vs 0) 81) f6 kz_0_79 kz_0_80 kz_0_81
  have nf7 : fc_1 PRD (20, [5, 4], [60, 1, 1, 398, 79, 90]) ws (vs ++ [Value.int x]) := by
    refine ⟨nf_inA hl rfl, sgq_946 ?_⟩
    · show XLE (w_fi ws (n_v (vs ++ [Value.int x]) 5) 79) (w_ei ws (w_ar ws (n_v (vs ++ [Value.int x]) 5) 90)) (v_iv (n_v (vs ++ [Value.int x]) 4))
      simp only [e_4, e_5, q5]
      exact vc_Mo_augment_12_7 (v_iv (n_v vs 4)) (w_fi ws (n_v vs 0) 79) (w_ei ws (w_ar ws (n_v vs 0) 90)) k4 f7 kz_0_79
  have nf8 : fc_1 PRD (20, [5, 6, 7], [60, 0, 2, 401, 90, 91]) ws (vs ++ [Value.int x]) := by
    refine ⟨nf_inA hl rfl, sgq_950 ?_⟩
    · show FPT (w_ei ws (w_ar ws (n_v (vs ++ [Value.int x]) 5) 90)) (w_ei ws (w_ar ws (n_v (vs ++ [Value.int x]) 5) 91)) (v_iv (n_v (vs ++ [Value.int x]) 6)) (v_iv (n_v (vs ++ [Value.int x]) 7))
      simp only [e_5, e_6, e_7, q5, q6, q7]
      exact vc_Mo_augment_12_8 (v_iv (n_v vs 1)) (v_iv (n_v vs 2)) (w_ei ws (w_ar ws (n_v vs 0) 90)) (w_ei ws (w_ar ws (n_v vs 0) 91)) k1 k2 f8
  have nf9 : fc_1 PRD (20, [5, 6, 7, 10], [60, 0, 2, 392, 92, 91]) ws (vs ++ [Value.int x]) := by
    refine ⟨nf_inA hl rfl, sgq_951 ?_⟩
    · show AU1 (w_ei ws (w_ar ws (n_v (vs ++ [Value.int x]) 5) 92)) (w_ei ws (w_ar ws (n_v (vs ++ [Value.int x]) 5) 91)) (v_iv (n_v (vs ++ [Value.int x]) 6)) (v_iv (n_v (vs ++ [Value.int x]) 7)) (v_iv (n_v (vs ++ [Value.int x]) 10))
      simp only [e_5, e_6, e_7, e_10, q5, q6, q7]
      exact vc_Mo_augment_12_9 (v_iv (n_v vs 1)) (v_iv (n_v vs 2)) (v_iv (n_v vs 10)) (w_ei ws (w_ar ws (n_v vs 0) 91)) (w_ei ws (w_ar ws (n_v vs 0) 92)) k1 k2 k10 f9
  have nf10 : fc_1 PRD (23, [9, 14], [-78, -1, -1]) ws (vs ++ [Value.int x]) := by
    refine ⟨nf_inA hl rfl, sgq_952 ?_⟩
    · show (-1) * v_iv (n_v (vs ++ [Value.int x]) 9) + ((-1) * v_iv (n_v (vs ++ [Value.int x]) 14) + 0) ≤ (-78)
      simp only [e_9, e_14]
      exact vc_Mo_augment_12_10 (v_iv (n_v vs 9)) (v_iv (n_v vs 13)) (v_iv (Value.int x)) k9 k13 f11 ex2
  have nf11 : fc_1 PRD (20, [5, 6, 9], [60, 0, 3, 402, 90, 92, 91]) ws (vs ++ [Value.int x]) := by
    refine ⟨nf_inA hl rfl, sgq_953 ?_⟩
    · show BF1 (w_ei ws (w_ar ws (n_v (vs ++ [Value.int x]) 5) 90)) (w_ei ws (w_ar ws (n_v (vs ++ [Value.int x]) 5) 92)) (w_ei ws (w_ar ws (n_v (vs ++ [Value.int x]) 5) 91)) (v_iv (n_v (vs ++ [Value.int x]) 6)) (v_iv (n_v (vs ++ [Value.int x]) 9))
      simp only [e_5, e_6, e_9, q5, q6]
      exact vc_Mo_augment_12_11 (v_iv (n_v vs 1)) (v_iv (n_v vs 9)) (w_ei ws (w_ar ws (n_v vs 0) 90)) (w_ei ws (w_ar ws (n_v vs 0) 91)) (w_ei ws (w_ar ws (n_v vs 0) 92)) k1 k9 f10
  have nf12 : fc_1 PRD (24, [0, 5], []) ws (vs ++ [Value.int x]) := by
    refine ⟨nf_inA hl rfl, sgq_5 ?_⟩
    · show n_v (vs ++ [Value.int x]) 0 = n_v (vs ++ [Value.int x]) 5
      first | rfl | simp only [e_0, e_5, q5, q6, q7, q8]
  have nf13 : fc_1 PRD (24, [1, 6], []) ws (vs ++ [Value.int x]) := by
    refine ⟨nf_inA hl rfl, sgq_5 ?_⟩
    · show n_v (vs ++ [Value.int x]) 1 = n_v (vs ++ [Value.int x]) 6
      first | rfl | simp only [e_1, e_6, q5, q6, q7, q8]
  have nf14 : fc_1 PRD (24, [2, 7], []) ws (vs ++ [Value.int x]) := by
    refine ⟨nf_inA hl rfl, sgq_5 ?_⟩
    · show n_v (vs ++ [Value.int x]) 2 = n_v (vs ++ [Value.int x]) 7
      first | rfl | simp only [e_2, e_7, q5, q6, q7, q8]
  have nf15 : fc_1 PRD (24, [3, 8], []) ws (vs ++ [Value.int x]) := by
    refine ⟨nf_inA hl rfl, sgq_5 ?_⟩
    · show n_v (vs ++ [Value.int x]) 3 = n_v (vs ++ [Value.int x]) 8
      first | rfl | simp only [e_3, e_8, q5, q6, q7, q8]
  obtain ⟨x0, e0, _, _⟩ := tv_int t13 rfl
  have e1 : v_iv (n_v vs 13) = x0.toInt := by rw [e0]; rfl
  have ho : sy_ofs (vs ++ [Value.int x]) (14, 13, -1000000000000, -1) := by
    refine ⟨x, x0, by rw [List.getElem?_append_right (by rw [hl]; decide), hl]; rfl, ?_, ?_, ?_⟩
    · rw [List.getElem?_append_left (by rw [hl]; decide)]; exact n_v_some (by rw [hl]; decide) e0
    · show x0.toInt + (-1000000000000) ≤ x.toInt; omega
    · show x.toInt ≤ x0.toInt + (-1); omega
  exact ⟨(fun _ h => (by cases h)), [Value.int x], ag_one hx, List.forall_mem_cons.mpr ⟨⟨show (20 : Nat) < 100 from by decide, nf0⟩, List.forall_mem_cons.mpr ⟨⟨show (20 : Nat) < 100 from by decide, nf1⟩, List.forall_mem_cons.mpr ⟨⟨show (20 : Nat) < 100 from by decide, nf2⟩, List.forall_mem_cons.mpr ⟨⟨show (20 : Nat) < 100 from by decide, nf3⟩, List.forall_mem_cons.mpr ⟨⟨show (20 : Nat) < 100 from by decide, nf4⟩, List.forall_mem_cons.mpr ⟨⟨show (20 : Nat) < 100 from by decide, nf5⟩, List.forall_mem_cons.mpr ⟨⟨show (20 : Nat) < 100 from by decide, nf6⟩, List.forall_mem_cons.mpr ⟨⟨show (20 : Nat) < 100 from by decide, nf7⟩, List.forall_mem_cons.mpr ⟨⟨show (20 : Nat) < 100 from by decide, nf8⟩, List.forall_mem_cons.mpr ⟨⟨show (20 : Nat) < 100 from by decide, nf9⟩, List.forall_mem_cons.mpr ⟨⟨show (23 : Nat) < 100 from by decide, nf10⟩, List.forall_mem_cons.mpr ⟨⟨show (20 : Nat) < 100 from by decide, nf11⟩, List.forall_mem_cons.mpr ⟨⟨show (24 : Nat) < 100 from by decide, nf12⟩, List.forall_mem_cons.mpr ⟨⟨show (24 : Nat) < 100 from by decide, nf13⟩, List.forall_mem_cons.mpr ⟨⟨show (24 : Nat) < 100 from by decide, nf14⟩, List.forall_mem_cons.mpr ⟨⟨show (24 : Nat) < 100 from by decide, nf15⟩, (fun _ h => (by cases h))⟩⟩⟩⟩⟩⟩⟩⟩⟩⟩⟩⟩⟩⟩⟩⟩, List.forall_mem_cons.mpr ⟨ho, (fun _ h => (by cases h))⟩⟩
set_option maxHeartbeats 4000000 in
theorem vc_Mo_augment_13_0 (x1 : Int) (x2 : Int) (k1 : 2 ≤ x1 ∧ x1 ≤ 78) (k2 : 0 ≤ x2 ∧ x2 ≤ 76) (f1 : (x2 + 1) ≤ x1) : (x2 + 1) ≤ x1 := by
  first
    | omega
    | (have h := au1_len ‹AU1 _ _ _ _ _›; omega)
set_option maxHeartbeats 4000000 in
theorem vc_Mo_augment_13_1 (x1 : Int) (x3 : Int) (k1 : 2 ≤ x1 ∧ x1 ≤ 78) (k3 : 1 ≤ x3 ∧ x3 ≤ 77) (f2 : (x3 + 1) ≤ x1) : (x3 + 1) ≤ x1 := by
  first
    | omega
    | (have h := au1_len ‹AU1 _ _ _ _ _›; omega)
set_option maxHeartbeats 4000000 in
theorem vc_Mo_augment_13_2 (x1 : Int) (k1 : 2 ≤ x1 ∧ x1 ≤ 78) (f3 : x1 ≤ 78) : x1 ≤ 78 := by
  first
    | omega
    | (have h := au1_len ‹AU1 _ _ _ _ _›; omega)
set_option maxHeartbeats 4000000 in
theorem vc_Mo_augment_13_3 (x1 : Int) (pointMany_0 : Int) (k1 : 2 ≤ x1 ∧ x1 ≤ 78) (f4 : x1 = (pointMany_0 + 2)) (kz_0_79 : 0 ≤ pointMany_0 ∧ pointMany_0 ≤ 76) : x1 = (pointMany_0 + 2) := by
  first
    | omega
    | (have h := au1_len ‹AU1 _ _ _ _ _›; omega)
set_option maxHeartbeats 4000000 in
theorem vc_Mo_augment_13_4 (x2 : Int) (pointMany_0 : Int) (k2 : 0 ≤ x2 ∧ x2 ≤ 76) (f5 : x2 = pointMany_0) (kz_0_79 : 0 ≤ pointMany_0 ∧ pointMany_0 ≤ 76) : x2 = pointMany_0 := by
  first
    | omega
    | (have h := au1_len ‹AU1 _ _ _ _ _›; omega)
set_option maxHeartbeats 4000000 in
theorem vc_Mo_augment_13_5 (x3 : Int) (pointMany_0 : Int) (k3 : 1 ≤ x3 ∧ x3 ≤ 77) (f6 : x3 = (pointMany_0 + 1)) (kz_0_79 : 0 ≤ pointMany_0 ∧ pointMany_0 ≤ 76) : x3 = (pointMany_0 + 1) := by
  first
    | omega
    | (have h := au1_len ‹AU1 _ _ _ _ _›; omega)
set_option maxHeartbeats 4000000 in
theorem vc_Mo_augment_13_6 (x1 : Int) (x2 : Int) (x3 : Int) (x4 : Int) (x11 : Int) (x12 : Int) (pointMany_0 : Int) (flow_0 : Int → Int) (spot_0 : Int → Int) (costA_0 : Int → Int) (costB_0 : Int → Int) (costW_0 : Int → Int) (costPlain_0 : Int → Int) (apartA_0 : Int → Int) (apartB_0 : Int → Int) (apart_0 : Int → Int) (costMany_0 : Int) (apartMany_0 : Int) (cameBy_0 : Int → Int) (k1 : 2 ≤ x1 ∧ x1 ≤ 78) (k2 : 0 ≤ x2 ∧ x2 ≤ 76) (k3 : 1 ≤ x3 ∧ x3 ≤ 77) (k4 : (-2) ≤ x4 ∧ x4 ≤ 180000001) (k11 : 0 ≤ x11 ∧ x11 ≤ 1000000) (k12 : 0 ≤ x12 ∧ x12 ≤ 76) (f0 : x12 = x2) (f4 : x1 = (pointMany_0 + 2)) (f5 : x2 = pointMany_0) (f6 : x3 = (pointMany_0 + 1)) (f7 : FLO (pointMany_0) (costMany_0) (apartMany_0) (flow_0) (spot_0) (costA_0) (costB_0) (costW_0) (costPlain_0) (apartA_0) (apartB_0) (apart_0)) (f8 : XLE (pointMany_0) (flow_0) (x4)) (f10 : MN1 (flow_0) (cameBy_0) (x1) (x2) (x3) (x12) (x11)) (kz_0_79 : 0 ≤ pointMany_0 ∧ pointMany_0 ≤ 76) (kz_0_80 : 0 ≤ costMany_0 ∧ costMany_0 ≤ 200) (kz_0_81 : 0 ≤ apartMany_0 ∧ apartMany_0 ≤ 200) : PSH (pointMany_0) (costMany_0) (apartMany_0) (flow_0) (cameBy_0) (spot_0) (costA_0) (costB_0) (costW_0) (costPlain_0) (apartA_0) (apartB_0) (apart_0) (x11) (x3) (x4) := by
  first
    | assumption
    | exact psh_start ‹FLO _ _ _ _ _ _ _ _ _ _ _ _› ‹MN1 _ _ _ _ _ _ _› (by omega) ‹XLE _ _ _› (by omega) (by omega) (by omega) (by omega)
set_option maxHeartbeats 4000000 in
theorem vc_Mo_augment_13_7 (x1 : Int) (x2 : Int) (x3 : Int) (x10 : Int) (x13 : Int) (cameBy_0 : Int → Int) (queue_0 : Int → Int) (gx : Int) (k1 : 2 ≤ x1 ∧ x1 ≤ 78) (k2 : 0 ≤ x2 ∧ x2 ≤ 76) (k3 : 1 ≤ x3 ∧ x3 ≤ 77) (k10 : 1 ≤ x10 ∧ x10 ≤ 79) (f12 : AU2 (queue_0) (cameBy_0) (x1) (x2) (x10) (x3)) (ex2 : gx = 80) : AUW (queue_0) (cameBy_0) (x1) (x2) (x10) (x3) (gx) := by
  first
    | exact auw_of ‹AU2 _ _ _ _ _ _› (by omega)
    | (rw [show gx = x13 - 1 by omega]; exact ‹AUX _ _ _ _ _ _ _›)
def o_Mo_augment_13 : or_T := (193, 14, [(0, (2, 0, 0, [165])), (1, (0, 2, 78, [])), (2, (0, 0, 76, [])), (3, (0, 1, 77, [])), (4, (0, -2, 180000001, [])), (5, (2, 0, 0, [165])), (6, (0, 2, 79, [])), (7, (0, 0, 76, [])), (8, (0, 1, 77, [])), (10, (0, 1, 79, [])), (11, (0, 0, 1000000, [])), (12, (0, 0, 76, [])), (13, (0, -2, 80, []))], [(7, [12, 7], [0]), (20, [7, 6], [50, 0, 0, 0, 6, 4, 2, 1, 0, 0, 1, 1, 1]), (20, [8, 6], [50, 0, 0, 0, 6, 4, 2, 1, 0, 0, 1, 1, 1]), (20, [6], [50, 0, 0, 0, 2, 1, 0, 0, 78]), (20, [6, 5], [50, 1, 0, 1079, 1, 2, 1, 0, 4, 3, 2, 1, 79, 0, 2]), (20, [7, 5], [50, 1, 0, 1079, 1, 2, 1, 0, 2, 1, 79]), (20, [8, 5], [50, 1, 0, 1079, 1, 2, 1, 0, 4, 3, 2, 1, 79, 0, 1]), (20, [5], [60, 3, 9, 397, 79, 80, 81, 90, 82, 83, 84, 85, 86, 87, 88, 89]), (20, [5, 4], [60, 1, 1, 398, 79, 90]), (20, [5, 6, 7], [60, 0, 2, 401, 90, 91]), (20, [5, 6, 7, 8, 12, 11], [60, 0, 2, 407, 90, 91]), (20, [5, 6, 7, 10, 12, 13], [60, 0, 2, 394, 92, 91]), (20, [5, 6, 7, 10, 8], [60, 0, 2, 393, 92, 91]), (24, [0, 5], []), (24, [1, 6], []), (24, [2, 7], []), (24, [3, 8], [])], [], [(0, -2, 80, [])], [(20, [7, 6], [50, 0, 0, 0, 6, 4, 2, 1, 0, 0, 1, 1, 1]), (20, [8, 6], [50, 0, 0, 0, 6, 4, 2, 1, 0, 0, 1, 1, 1]), (20, [6], [50, 0, 0, 0, 2, 1, 0, 0, 78]), (20, [6, 5], [50, 1, 0, 1079, 1, 2, 1, 0, 4, 3, 2, 1, 79, 0, 2]), (20, [7, 5], [50, 1, 0, 1079, 1, 2, 1, 0, 2, 1, 79]), (20, [8, 5], [50, 1, 0, 1079, 1, 2, 1, 0, 4, 3, 2, 1, 79, 0, 1]), (20, [5, 11, 8, 4], [60, 3, 10, 408, 79, 80, 81, 90, 91, 82, 83, 84, 85, 86, 87, 88, 89]), (20, [5, 6, 7, 10, 8, 14], [60, 0, 2, 394, 92, 91]), (24, [0, 5], []), (24, [1, 6], []), (24, [2, 7], []), (24, [3, 8], [])], [], [(12, 7, 0, 0), (1, 6, -4294967296, 0), (2, 7, -4294967296, 0), (3, 8, -4294967296, 0), (6, 1, -4294967296, 0), (7, 2, -4294967296, 0), (8, 3, -4294967296, 0)])
theorem oo_Mo_augment_13 {kA : Nat → ClassId} : or_ok PRD kA GG o_Mo_augment_13 := by
  refine or_mk fun A ta ws vs hD hth hl => ?_
  intro t0 r0 t1 k1 t2 k2 t3 k3 t4 k4 t5 r5 t6 k6 t7 k7 t8 k8 t10 k10 t11 k11 t12 k12 t13 k13 d0 d1 d2 d3 d4 d5 d6 f0 f1 f2 f3 f4 f5 f6 f7 f8 f9 f10 f11 f12 f13 f14 f15 f16
  replace f0 := shm_37 f0
  replace f1 := shm_396 f1
  replace f2 := shm_396 f2
  replace f3 := shm_941 f3
  replace f4 := shm_942 f4
  replace f5 := shm_943 f5
  replace f6 := shm_944 f6
  replace f7 := shm_945 f7
  replace f8 := shm_946 f8
  replace f10 := shm_963 f10
  replace f12 := shm_956 f12
  replace f13 := shm_5 f13
  replace f14 := shm_5 f14
  replace f15 := shm_5 f15
  replace f16 := shm_5 f16
  have q5 : n_v vs 5 = n_v vs 0 := f13.symm
  have q6 : n_v vs 6 = n_v vs 1 := f14.symm
  have q7 : n_v vs 7 = n_v vs 2 := f15.symm
  have q8 : n_v vs 8 = n_v vs 3 := f16.symm
  simp only [q7, q6, q8, q5] at f0 f1 f2 f3 f4 f5 f6 f7 f8 f10 f12
  have kz_0_79 := fdq_147 hD hth r0
  have kz_0_80 := fdq_131 hD hth r0
  have kz_0_81 := fdq_124 hD hth r0
  obtain ⟨x, ex, hx⟩ := iv_ex (ta := ta) (lo := (-2)) (hi := 80) (z := 80) (by omega) (by omega) (by omega) (by omega)
  have ex2 : v_iv (Value.int x) = 80 := ex
  have ex3 : (-2) ≤ v_iv (Value.int x) ∧ v_iv (Value.int x) ≤ 80 := tv_rng hx
  have e_0 : n_v (vs ++ [Value.int x]) 0 = n_v vs 0 := n_v_old (by rw [hl]; decide)
  have e_1 : n_v (vs ++ [Value.int x]) 1 = n_v vs 1 := n_v_old (by rw [hl]; decide)
  have e_2 : n_v (vs ++ [Value.int x]) 2 = n_v vs 2 := n_v_old (by rw [hl]; decide)
  have e_3 : n_v (vs ++ [Value.int x]) 3 = n_v vs 3 := n_v_old (by rw [hl]; decide)
  have e_4 : n_v (vs ++ [Value.int x]) 4 = n_v vs 4 := n_v_old (by rw [hl]; decide)
  have e_5 : n_v (vs ++ [Value.int x]) 5 = n_v vs 5 := n_v_old (by rw [hl]; decide)
  have e_6 : n_v (vs ++ [Value.int x]) 6 = n_v vs 6 := n_v_old (by rw [hl]; decide)
  have e_7 : n_v (vs ++ [Value.int x]) 7 = n_v vs 7 := n_v_old (by rw [hl]; decide)
  have e_8 : n_v (vs ++ [Value.int x]) 8 = n_v vs 8 := n_v_old (by rw [hl]; decide)
  have e_10 : n_v (vs ++ [Value.int x]) 10 = n_v vs 10 := n_v_old (by rw [hl]; decide)
  have e_11 : n_v (vs ++ [Value.int x]) 11 = n_v vs 11 := n_v_old (by rw [hl]; decide)
  have e_14 : n_v (vs ++ [Value.int x]) 14 = Value.int x := n_v_new hl
  have nf0 : fc_1 PRD (20, [7, 6], [50, 0, 0, 0, 6, 4, 2, 1, 0, 0, 1, 1, 1]) ws (vs ++ [Value.int x]) := by
    refine ⟨nf_inA hl rfl, sgq_396 ?_⟩
    · show (v_iv (n_v (vs ++ [Value.int x]) 7) + 1) ≤ v_iv (n_v (vs ++ [Value.int x]) 6)
      simp only [e_6, e_7, q6, q7]
      exact vc_Mo_augment_13_0 (v_iv (n_v vs 1)) (v_iv (n_v vs 2)) k1 k2 f1
  have nf1 : fc_1 PRD (20, [8, 6], [50, 0, 0, 0, 6, 4, 2, 1, 0, 0, 1, 1, 1]) ws (vs ++ [Value.int x]) := by
    refine ⟨nf_inA hl rfl, sgq_396 ?_⟩
    · show (v_iv (n_v (vs ++ [Value.int x]) 8) + 1) ≤ v_iv (n_v (vs ++ [Value.int x]) 6)
      simp only [e_6, e_8, q6, q8]
      exact vc_Mo_augment_13_1 (v_iv (n_v vs 1)) (v_iv (n_v vs 3)) k1 k3 f2
  have nf2 : fc_1 PRD (20, [6], [50, 0, 0, 0, 2, 1, 0, 0, 78]) ws (vs ++ [Value.int x]) := by
    refine ⟨nf_inA hl rfl, sgq_941 ?_⟩
    · show v_iv (n_v (vs ++ [Value.int x]) 6) ≤ 78
      simp only [e_6, q6]
      exact vc_Mo_augment_13_2 (v_iv (n_v vs 1)) k1 f3
  have nf3 : fc_1 PRD (20, [6, 5], [50, 1, 0, 1079, 1, 2, 1, 0, 4, 3, 2, 1, 79, 0, 2]) ws (vs ++ [Value.int x]) := by
    refine ⟨nf_inA hl rfl, sgq_942 ?_⟩
    · show v_iv (n_v (vs ++ [Value.int x]) 6) = (w_fi ws (n_v (vs ++ [Value.int x]) 5) 79 + 2)
      simp only [e_5, e_6, q5, q6]
      exact vc_Mo_augment_13_3 (v_iv (n_v vs 1)) (w_fi ws (n_v vs 0) 79) k1 f4 kz_0_79
  have nf4 : fc_1 PRD (20, [7, 5], [50, 1, 0, 1079, 1, 2, 1, 0, 2, 1, 79]) ws (vs ++ [Value.int x]) := by
    refine ⟨nf_inA hl rfl, sgq_943 ?_⟩
    · show v_iv (n_v (vs ++ [Value.int x]) 7) = w_fi ws (n_v (vs ++ [Value.int x]) 5) 79
      simp only [e_5, e_7, q5, q7]
      exact vc_Mo_augment_13_4 (v_iv (n_v vs 2)) (w_fi ws (n_v vs 0) 79) k2 f5 kz_0_79
  have nf5 : fc_1 PRD (20, [8, 5], [50, 1, 0, 1079, 1, 2, 1, 0, 4, 3, 2, 1, 79, 0, 1]) ws (vs ++ [Value.int x]) := by
    refine ⟨nf_inA hl rfl, sgq_944 ?_⟩
    · show v_iv (n_v (vs ++ [Value.int x]) 8) = (w_fi ws (n_v (vs ++ [Value.int x]) 5) 79 + 1)
      simp only [e_5, e_8, q5, q8]
      exact vc_Mo_augment_13_5 (v_iv (n_v vs 3)) (w_fi ws (n_v vs 0) 79) k3 f6 kz_0_79
  have nf6 : fc_1 PRD (20, [5, 11, 8, 4], [60, 3, 10, 408, 79, 80, 81, 90, 91, 82, 83, 84, 85, 86, 87, 88, 89]) ws (vs ++ [Value.int x]) := by
    refine ⟨nf_inA hl rfl, sgq_964 ?_⟩
    · show PSH (w_fi ws (n_v (vs ++ [Value.int x]) 5) 79) (w_fi ws (n_v (vs ++ [Value.int x]) 5) 80) (w_fi ws (n_v (vs ++ [Value.int x]) 5) 81) (w_ei ws (w_ar ws (n_v (vs ++ [Value.int x]) 5) 90)) (w_ei ws (w_ar ws (n_v (vs ++ [Value.int x]) 5) 91)) (w_ei ws (w_ar ws (n_v (vs ++ [Value.int x]) 5) 82)) (w_ei ws (w_ar ws (n_v (vs ++ [Value.int x]) 5) 83)) (w_ei ws (w_ar ws (n_v (vs ++ [Value.int x]) 5) 84)) (w_ei ws (w_ar ws (n_v (vs ++ [Value.int x]) 5) 85)) (w_ei ws (w_ar ws (n_v (vs ++ [Value.int x]) 5) 86)) (w_ei ws (w_ar ws (n_v (vs ++ [Value.int x]) 5) 87)) (w_ei ws (w_ar ws (n_v (vs ++ [Value.int x]) 5) 88)) (w_ei ws (w_ar ws (n_v (vs ++ [Value.int x]) 5) 89)) (v_iv (n_v (vs ++ [Value.int x]) 11)) (v_iv (n_v (vs ++ [Value.int x]) 8)) (v_iv (n_v (vs ++ [Value.int x]) 4))
      simp only [e_4, e_5, e_8, e_11, q5, q8]
      exact vc_Mo_augment_13_6 (v_iv (n_v vs 1)) (v_iv (n_v vs 2)) (v_iv (n_v vs 3)) (v_iv (n_v vs 4)) (v_iv (n_v vs 11)) (v_iv (n_v vs 12)) (w_fi ws (n_v vs 0) 79) (w_ei ws (w_ar ws (n_v vs 0) 90)) (w_ei ws (w_ar ws (n_v vs 0) 82)) (w_ei ws (w_ar ws (n_v vs 0) 83)) (w_ei ws (w_ar ws (n_v vs 0) 84)) (w_ei ws (w_ar ws (n_v vs 0) 85)) (w_ei ws (w_ar ws (n_v vs 0) 86)) (w_ei ws (w_ar ws (n_v vs 0) 87)) (w_ei ws (w_ar ws (n_v vs 0) 88)) (w_ei ws (w_ar ws (n_v vs 0) 89)) (w_fi ws (n_v vs 0) 80) (w_fi ws (n_v vs 0) 81) (w_ei ws (w_ar ws (n_v vs 0) 91)) k1 k2 k3 k4 k11 k12 f0 f4 f5 f6 f7 f8 f10 kz_0_79 kz_0_80 kz_0_81
  have nf7 : fc_1 PRD (20, [5, 6, 7, 10, 8, 14], [60, 0, 2, 394, 92, 91]) ws (vs ++ [Value.int x]) := by
    refine ⟨nf_inA hl rfl, sgq_955 ?_⟩
    · show AUW (w_ei ws (w_ar ws (n_v (vs ++ [Value.int x]) 5) 92)) (w_ei ws (w_ar ws (n_v (vs ++ [Value.int x]) 5) 91)) (v_iv (n_v (vs ++ [Value.int x]) 6)) (v_iv (n_v (vs ++ [Value.int x]) 7)) (v_iv (n_v (vs ++ [Value.int x]) 10)) (v_iv (n_v (vs ++ [Value.int x]) 8)) (v_iv (n_v (vs ++ [Value.int x]) 14))
      simp only [e_5, e_6, e_7, e_8, e_10, e_14, q5, q6, q7, q8]
      exact vc_Mo_augment_13_7 (v_iv (n_v vs 1)) (v_iv (n_v vs 2)) (v_iv (n_v vs 3)) (v_iv (n_v vs 10)) (v_iv (n_v vs 13)) (w_ei ws (w_ar ws (n_v vs 0) 91)) (w_ei ws (w_ar ws (n_v vs 0) 92)) (v_iv (Value.int x)) k1 k2 k3 k10 f12 ex2
  have nf8 : fc_1 PRD (24, [0, 5], []) ws (vs ++ [Value.int x]) := by
    refine ⟨nf_inA hl rfl, sgq_5 ?_⟩
    · show n_v (vs ++ [Value.int x]) 0 = n_v (vs ++ [Value.int x]) 5
      first | rfl | simp only [e_0, e_5, q5, q6, q7, q8]
  have nf9 : fc_1 PRD (24, [1, 6], []) ws (vs ++ [Value.int x]) := by
    refine ⟨nf_inA hl rfl, sgq_5 ?_⟩
    · show n_v (vs ++ [Value.int x]) 1 = n_v (vs ++ [Value.int x]) 6
      first | rfl | simp only [e_1, e_6, q5, q6, q7, q8]
  have nf10 : fc_1 PRD (24, [2, 7], []) ws (vs ++ [Value.int x]) := by
    refine ⟨nf_inA hl rfl, sgq_5 ?_⟩
    · show n_v (vs ++ [Value.int x]) 2 = n_v (vs ++ [Value.int x]) 7
      first | rfl | simp only [e_2, e_7, q5, q6, q7, q8]
  have nf11 : fc_1 PRD (24, [3, 8], []) ws (vs ++ [Value.int x]) := by
    refine ⟨nf_inA hl rfl, sgq_5 ?_⟩
    · show n_v (vs ++ [Value.int x]) 3 = n_v (vs ++ [Value.int x]) 8
      first | rfl | simp only [e_3, e_8, q5, q6, q7, q8]
  exact ⟨(fun _ h => (by cases h)), [Value.int x], ag_one hx, List.forall_mem_cons.mpr ⟨⟨show (20 : Nat) < 100 from by decide, nf0⟩, List.forall_mem_cons.mpr ⟨⟨show (20 : Nat) < 100 from by decide, nf1⟩, List.forall_mem_cons.mpr ⟨⟨show (20 : Nat) < 100 from by decide, nf2⟩, List.forall_mem_cons.mpr ⟨⟨show (20 : Nat) < 100 from by decide, nf3⟩, List.forall_mem_cons.mpr ⟨⟨show (20 : Nat) < 100 from by decide, nf4⟩, List.forall_mem_cons.mpr ⟨⟨show (20 : Nat) < 100 from by decide, nf5⟩, List.forall_mem_cons.mpr ⟨⟨show (20 : Nat) < 100 from by decide, nf6⟩, List.forall_mem_cons.mpr ⟨⟨show (20 : Nat) < 100 from by decide, nf7⟩, List.forall_mem_cons.mpr ⟨⟨show (24 : Nat) < 100 from by decide, nf8⟩, List.forall_mem_cons.mpr ⟨⟨show (24 : Nat) < 100 from by decide, nf9⟩, List.forall_mem_cons.mpr ⟨⟨show (24 : Nat) < 100 from by decide, nf10⟩, List.forall_mem_cons.mpr ⟨⟨show (24 : Nat) < 100 from by decide, nf11⟩, (fun _ h => (by cases h))⟩⟩⟩⟩⟩⟩⟩⟩⟩⟩⟩⟩, (fun _ h => (by cases h))⟩
set_option maxHeartbeats 4000000 in
theorem vc_Mo_augment_14_r0 (x1 : Int) (x2 : Int) (x10 : Int) (x12 : Int) (x13 : Int) (x16 : Int) (cameBy_0 : Int → Int) (queue_0 : Int → Int) (k1 : 2 ≤ x1 ∧ x1 ≤ 78) (k2 : 0 ≤ x2 ∧ x2 ≤ 76) (k10 : 1 ≤ x10 ∧ x10 ≤ 79) (k12 : 0 ≤ x12 ∧ x12 ≤ 77) (k13 : (-2) ≤ x13 ∧ x13 ≤ 80) (k16 : (-1) ≤ x16 ∧ x16 ≤ 77) (h0 : x16 = cameBy_0 (x12)) (f3 : x12 ≠ x2) (f14 : AUW (queue_0) (cameBy_0) (x1) (x2) (x10) (x12) (x13)) : 0 ≤ x16 ∧ x16 ≤ 77 := by
  have h := auw_step (g_zq := 80) ‹AUW _ _ _ _ _ _ _› (by omega) (by assumption) (by omega)
  omega
def o_Mo_augment_14 : or_T := (168, 17, [(0, (2, 0, 0, [165])), (1, (0, 2, 78, [])), (2, (0, 0, 76, [])), (3, (0, 1, 77, [])), (4, (0, -2, 180000001, [])), (5, (2, 0, 0, [165])), (6, (0, 2, 79, [])), (7, (0, 0, 76, [])), (8, (0, 1, 77, [])), (10, (0, 1, 79, [])), (11, (0, 0, 1000000, [])), (12, (0, 0, 77, [])), (13, (0, -2, 80, [])), (14, (2, 0, 0, [227])), (15, (2, 0, 0, [228])), (16, (0, -1, 77, []))], [(10, [16, 15, 12], []), (9, [15, 5], [91]), (9, [14, 5], [90]), (7, [12, 7], [1]), (20, [7, 6], [50, 0, 0, 0, 6, 4, 2, 1, 0, 0, 1, 1, 1]), (20, [8, 6], [50, 0, 0, 0, 6, 4, 2, 1, 0, 0, 1, 1, 1]), (20, [6], [50, 0, 0, 0, 2, 1, 0, 0, 78]), (20, [6, 5], [50, 1, 0, 1079, 1, 2, 1, 0, 4, 3, 2, 1, 79, 0, 2]), (20, [7, 5], [50, 1, 0, 1079, 1, 2, 1, 0, 2, 1, 79]), (20, [8, 5], [50, 1, 0, 1079, 1, 2, 1, 0, 4, 3, 2, 1, 79, 0, 1]), (20, [5], [60, 3, 9, 397, 79, 80, 81, 90, 82, 83, 84, 85, 86, 87, 88, 89]), (20, [5, 4], [60, 1, 1, 398, 79, 90]), (20, [5, 6, 7], [60, 0, 2, 401, 90, 91]), (20, [5, 6, 7, 8, 12, 11], [60, 0, 2, 407, 90, 91]), (20, [5, 6, 7, 10, 12, 13], [60, 0, 2, 394, 92, 91]), (20, [5, 6, 7, 10, 8], [60, 0, 2, 393, 92, 91]), (24, [0, 5], []), (24, [1, 6], []), (24, [2, 7], []), (24, [3, 8], [])], [(16, (0, 0, 77, []))], [], [], [], [(1, 6, -4294967296, 0), (2, 7, -4294967296, 0), (3, 8, -4294967296, 0), (6, 1, -4294967296, 0), (7, 2, -4294967296, 0), (8, 3, -4294967296, 0)])
theorem oo_Mo_augment_14 {kA : Nat → ClassId} : or_ok PRD kA GG o_Mo_augment_14 := by
  refine or_mk fun A ta ws vs hD hth hl => ?_
  intro t0 r0 t1 k1 t2 k2 t3 k3 t4 k4 t5 r5 t6 k6 t7 k7 t8 k8 t10 k10 t11 k11 t12 k12 t13 k13 t14 r14 t15 r15 t16 k16 d0 d1 d2 d3 d4 d5 f0 f1 f2 f3 f4 f5 f6 f7 f8 f9 f10 f11 f12 f13 f14 f15 f16 f17 f18 f19
  replace f0 := shm_107 f0
  replace f1 := shm_949 f1
  replace f3 := shm_40 f3
  replace f14 := shm_955 f14
  replace f16 := shm_5 f16
  replace f17 := shm_5 f17
  replace f18 := shm_5 f18
  have q5 : n_v vs 5 = n_v vs 0 := f16.symm
  have q6 : n_v vs 6 = n_v vs 1 := f17.symm
  have q7 : n_v vs 7 = n_v vs 2 := f18.symm
  simp only [q5, q7, q6] at f1 f3 f14
  have ad_15 : v_ad (n_v vs 15) = w_ar ws (n_v vs 0) 91 := congrArg v_ad f1
  simp only [ad_15] at f0
  have h0 : v_iv (n_v vs 16) = w_ei ws (w_ar ws (n_v vs 0) 91) (v_iv (n_v vs 12)) := f0
  have hrf0 : 0 ≤ v_iv (n_v vs 16) ∧ v_iv (n_v vs 16) ≤ 77 := vc_Mo_augment_14_r0 (v_iv (n_v vs 1)) (v_iv (n_v vs 2)) (v_iv (n_v vs 10)) (v_iv (n_v vs 12)) (v_iv (n_v vs 13)) (v_iv (n_v vs 16)) (w_ei ws (w_ar ws (n_v vs 0) 91)) (w_ei ws (w_ar ws (n_v vs 0) 92)) k1 k2 k10 k12 k13 k16 h0 f3 f14
  have rf16 : tv_ok ta (0, 0, 77, []) (n_v vs 16) := tv_in t16 (by first | omega | grind) (by first | omega | grind)
  refine ⟨List.forall_mem_cons.mpr ⟨rf16, (fun _ h => (by cases h))⟩, [], trivial, ?_, (fun _ h => (by cases h))⟩
  rw [List.append_nil]
  exact (fun _ h => (by cases h))
set_option maxHeartbeats 4000000 in
theorem vc_Mo_augment_15_r0 (x1 : Int) (x2 : Int) (x3 : Int) (x6 : Int) (x8 : Int) (x10 : Int) (x12 : Int) (x13 : Int) (x16 : Int) (x17 : Int) (x18 : Int) (cameBy_0 : Int → Int) (pointMany_0 : Int) (queue_0 : Int → Int) (k1 : 2 ≤ x1 ∧ x1 ≤ 78) (k2 : 0 ≤ x2 ∧ x2 ≤ 76) (k3 : 1 ≤ x3 ∧ x3 ≤ 77) (k6 : 2 ≤ x6 ∧ x6 ≤ 79) (k8 : 1 ≤ x8 ∧ x8 ≤ 77) (k10 : 1 ≤ x10 ∧ x10 ≤ 79) (k12 : 0 ≤ x12 ∧ x12 ≤ 77) (k13 : (-2) ≤ x13 ∧ x13 ≤ 80) (k16 : 0 ≤ x16 ∧ x16 ≤ 77) (k17 : 0 ≤ x17 ∧ x17 ≤ 6083) (k18 : 0 ≤ x18 ∧ x18 ≤ 6160) (d1 : x17 + 0 ≤ x18 ∧ x18 ≤ x17 + 77) (d2 : x6 + (-4294967296) ≤ x1 ∧ x1 ≤ x6 + 0) (d4 : x8 + (-4294967296) ≤ x3 ∧ x3 ≤ x8 + 0) (d5 : x1 + (-4294967296) ≤ x6 ∧ x6 ≤ x1 + 0) (d7 : x3 + (-4294967296) ≤ x8 ∧ x8 ≤ x3 + 0) (f0 : x18 = x17 + x12) (f1 : x17 = x1 * x16) (h2 : x16 = cameBy_0 (x12)) (f8 : x1 ≤ 78) (f9 : x1 = (pointMany_0 + 2)) (f11 : x3 = (pointMany_0 + 1)) (f16 : AUW (queue_0) (cameBy_0) (x1) (x2) (x10) (x12) (x13)) (kz_0_79 : 0 ≤ pointMany_0 ∧ pointMany_0 ≤ 76) : 0 ≤ x18 ∧ x18 ≤ 6083 := by
  have h := auw_bd ‹AUW _ _ _ _ _ _ _›
  refine au_idx (by assumption) (by assumption) ?_ ?_ ?_ ?_ ?_ ?_ <;> omega
def o_Mo_augment_15 : or_T := (172, 19, [(0, (2, 0, 0, [165])), (1, (0, 2, 78, [])), (2, (0, 0, 76, [])), (3, (0, 1, 77, [])), (4, (0, -2, 180000001, [])), (5, (2, 0, 0, [165])), (6, (0, 2, 79, [])), (7, (0, 0, 76, [])), (8, (0, 1, 77, [])), (10, (0, 1, 79, [])), (11, (0, 0, 1000000, [])), (12, (0, 0, 77, [])), (13, (0, -2, 80, [])), (14, (2, 0, 0, [227])), (15, (2, 0, 0, [228])), (16, (0, 0, 77, [])), (17, (0, 0, 6083, [])), (18, (0, 0, 6160, []))], [(1, [18, 17, 12], []), (3, [17, 6, 16], []), (10, [16, 15, 12], []), (9, [15, 5], [91]), (9, [14, 5], [90]), (7, [12, 7], [1]), (20, [7, 6], [50, 0, 0, 0, 6, 4, 2, 1, 0, 0, 1, 1, 1]), (20, [8, 6], [50, 0, 0, 0, 6, 4, 2, 1, 0, 0, 1, 1, 1]), (20, [6], [50, 0, 0, 0, 2, 1, 0, 0, 78]), (20, [6, 5], [50, 1, 0, 1079, 1, 2, 1, 0, 4, 3, 2, 1, 79, 0, 2]), (20, [7, 5], [50, 1, 0, 1079, 1, 2, 1, 0, 2, 1, 79]), (20, [8, 5], [50, 1, 0, 1079, 1, 2, 1, 0, 4, 3, 2, 1, 79, 0, 1]), (20, [5], [60, 3, 9, 397, 79, 80, 81, 90, 82, 83, 84, 85, 86, 87, 88, 89]), (20, [5, 4], [60, 1, 1, 398, 79, 90]), (20, [5, 6, 7], [60, 0, 2, 401, 90, 91]), (20, [5, 6, 7, 8, 12, 11], [60, 0, 2, 407, 90, 91]), (20, [5, 6, 7, 10, 12, 13], [60, 0, 2, 394, 92, 91]), (20, [5, 6, 7, 10, 8], [60, 0, 2, 393, 92, 91]), (24, [0, 5], []), (24, [1, 6], []), (24, [2, 7], []), (24, [3, 8], [])], [(18, (0, 0, 6083, []))], [], [], [], [(18, 12, 0, 6083), (18, 17, 0, 77), (1, 6, -4294967296, 0), (2, 7, -4294967296, 0), (3, 8, -4294967296, 0), (6, 1, -4294967296, 0), (7, 2, -4294967296, 0), (8, 3, -4294967296, 0)])
theorem oo_Mo_augment_15 {kA : Nat → ClassId} : or_ok PRD kA GG o_Mo_augment_15 := by
  refine or_mk fun A ta ws vs hD hth hl => ?_
  intro t0 r0 t1 k1 t2 k2 t3 k3 t4 k4 t5 r5 t6 k6 t7 k7 t8 k8 t10 k10 t11 k11 t12 k12 t13 k13 t14 r14 t15 r15 t16 k16 t17 k17 t18 k18 d0 d1 d2 d3 d4 d5 d6 d7 f0 f1 f2 f3 f4 f5 f6 f7 f8 f9 f10 f11 f12 f13 f14 f15 f16 f17 f18 f19 f20 f21
  replace f1 := shm_38 f1
  replace f2 := shm_107 f2
  replace f3 := shm_949 f3
  replace f8 := shm_941 f8
  replace f9 := shm_942 f9
  replace f11 := shm_944 f11
  replace f16 := shm_955 f16
  replace f18 := shm_5 f18
  replace f19 := shm_5 f19
  replace f20 := shm_5 f20
  replace f21 := shm_5 f21
  have q5 : n_v vs 5 = n_v vs 0 := f18.symm
  have q6 : n_v vs 6 = n_v vs 1 := f19.symm
  have q7 : n_v vs 7 = n_v vs 2 := f20.symm
  have q8 : n_v vs 8 = n_v vs 3 := f21.symm
  simp only [q6, q5, q7, q8] at f1 f3 f8 f9 f11 f16
  have ad_15 : v_ad (n_v vs 15) = w_ar ws (n_v vs 0) 91 := congrArg v_ad f3
  simp only [ad_15] at f2
  have h2 : v_iv (n_v vs 16) = w_ei ws (w_ar ws (n_v vs 0) 91) (v_iv (n_v vs 12)) := f2
  have kz_0_79 := fdq_147 hD hth r0
  have hrf0 : 0 ≤ v_iv (n_v vs 18) ∧ v_iv (n_v vs 18) ≤ 6083 := vc_Mo_augment_15_r0 (v_iv (n_v vs 1)) (v_iv (n_v vs 2)) (v_iv (n_v vs 3)) (v_iv (n_v vs 6)) (v_iv (n_v vs 8)) (v_iv (n_v vs 10)) (v_iv (n_v vs 12)) (v_iv (n_v vs 13)) (v_iv (n_v vs 16)) (v_iv (n_v vs 17)) (v_iv (n_v vs 18)) (w_ei ws (w_ar ws (n_v vs 0) 91)) (w_fi ws (n_v vs 0) 79) (w_ei ws (w_ar ws (n_v vs 0) 92)) k1 k2 k3 k6 k8 k10 k12 k13 k16 k17 k18 d1 d2 d4 d5 d7 (shm_12 f0) f1 h2 f8 f9 f11 f16 kz_0_79
  have rf18 : tv_ok ta (0, 0, 6083, []) (n_v vs 18) := tv_in t18 (by first | omega | grind) (by first | omega | grind)
  refine ⟨List.forall_mem_cons.mpr ⟨rf18, (fun _ h => (by cases h))⟩, [], trivial, ?_, (fun _ h => (by cases h))⟩
  rw [List.append_nil]
  exact (fun _ h => (by cases h))
set_option maxHeartbeats 4000000 in
theorem vc_Mo_augment_16_r0 (x1 : Int) (x2 : Int) (x10 : Int) (x12 : Int) (x13 : Int) (x16 : Int) (x20 : Int) (cameBy_0 : Int → Int) (queue_0 : Int → Int) (k1 : 2 ≤ x1 ∧ x1 ≤ 78) (k2 : 0 ≤ x2 ∧ x2 ≤ 76) (k10 : 1 ≤ x10 ∧ x10 ≤ 79) (k12 : 0 ≤ x12 ∧ x12 ≤ 77) (k13 : (-2) ≤ x13 ∧ x13 ≤ 80) (k16 : 0 ≤ x16 ∧ x16 ≤ 77) (k20 : (-1) ≤ x20 ∧ x20 ≤ 77) (h0 : x20 = cameBy_0 (x12)) (h7 : x16 = cameBy_0 (x12)) (f9 : x12 ≠ x2) (f20 : AUW (queue_0) (cameBy_0) (x1) (x2) (x10) (x12) (x13)) : 0 ≤ x20 ∧ x20 ≤ 77 := by
  have h := auw_step (g_zq := 80) ‹AUW _ _ _ _ _ _ _› (by omega) (by assumption) (by omega)
  omega
def o_Mo_augment_16 : or_T := (185, 21, [(0, (2, 0, 0, [165])), (1, (0, 2, 78, [])), (2, (0, 0, 76, [])), (3, (0, 1, 77, [])), (4, (0, -2, 180000001, [])), (5, (2, 0, 0, [165])), (6, (0, 2, 79, [])), (7, (0, 0, 76, [])), (8, (0, 1, 77, [])), (10, (0, 1, 79, [])), (11, (0, 0, 1000000, [])), (12, (0, 0, 77, [])), (13, (0, -2, 80, [])), (14, (2, 0, 0, [227])), (15, (2, 0, 0, [228])), (16, (0, 0, 77, [])), (17, (0, 0, 6083, [])), (18, (0, 0, 6083, [])), (19, (0, 0, 1000000, [])), (20, (0, -1, 77, []))], [(10, [20, 15, 12], []), (9, [15, 5], [91]), (7, [19, 11], [5]), (7, [19, 19], [5]), (10, [19, 14, 18], []), (1, [18, 17, 12], []), (3, [17, 6, 16], []), (10, [16, 15, 12], []), (9, [14, 5], [90]), (7, [12, 7], [1]), (20, [7, 6], [50, 0, 0, 0, 6, 4, 2, 1, 0, 0, 1, 1, 1]), (20, [8, 6], [50, 0, 0, 0, 6, 4, 2, 1, 0, 0, 1, 1, 1]), (20, [6], [50, 0, 0, 0, 2, 1, 0, 0, 78]), (20, [6, 5], [50, 1, 0, 1079, 1, 2, 1, 0, 4, 3, 2, 1, 79, 0, 2]), (20, [7, 5], [50, 1, 0, 1079, 1, 2, 1, 0, 2, 1, 79]), (20, [8, 5], [50, 1, 0, 1079, 1, 2, 1, 0, 4, 3, 2, 1, 79, 0, 1]), (20, [5], [60, 3, 9, 397, 79, 80, 81, 90, 82, 83, 84, 85, 86, 87, 88, 89]), (20, [5, 4], [60, 1, 1, 398, 79, 90]), (20, [5, 6, 7], [60, 0, 2, 401, 90, 91]), (20, [5, 6, 7, 8, 12, 11], [60, 0, 2, 407, 90, 91]), (20, [5, 6, 7, 10, 12, 13], [60, 0, 2, 394, 92, 91]), (20, [5, 6, 7, 10, 8], [60, 0, 2, 393, 92, 91]), (24, [0, 5], []), (24, [1, 6], []), (24, [2, 7], []), (24, [3, 8], [])], [(20, (0, 0, 77, []))], [], [], [], [(11, 19, 0, 4294967296), (18, 12, 0, 6083), (18, 17, 0, 77), (1, 6, -4294967296, 0), (2, 7, -4294967296, 0), (3, 8, -4294967296, 0), (6, 1, -4294967296, 0), (7, 2, -4294967296, 0), (8, 3, -4294967296, 0)])
theorem oo_Mo_augment_16 {kA : Nat → ClassId} : or_ok PRD kA GG o_Mo_augment_16 := by
  refine or_mk fun A ta ws vs hD hth hl => ?_
  intro t0 r0 t1 k1 t2 k2 t3 k3 t4 k4 t5 r5 t6 k6 t7 k7 t8 k8 t10 k10 t11 k11 t12 k12 t13 k13 t14 r14 t15 r15 t16 k16 t17 k17 t18 k18 t19 k19 t20 k20 d0 d1 d2 d3 d4 d5 d6 d7 d8 f0 f1 f2 f3 f4 f5 f6 f7 f8 f9 f10 f11 f12 f13 f14 f15 f16 f17 f18 f19 f20 f21 f22 f23 f24 f25
  replace f0 := shm_107 f0
  replace f1 := shm_949 f1
  replace f7 := shm_107 f7
  replace f9 := shm_40 f9
  replace f20 := shm_955 f20
  replace f22 := shm_5 f22
  replace f23 := shm_5 f23
  replace f24 := shm_5 f24
  have q5 : n_v vs 5 = n_v vs 0 := f22.symm
  have q6 : n_v vs 6 = n_v vs 1 := f23.symm
  have q7 : n_v vs 7 = n_v vs 2 := f24.symm
  simp only [q5, q6, q7] at f1 f9 f20
  have ad_15 : v_ad (n_v vs 15) = w_ar ws (n_v vs 0) 91 := congrArg v_ad f1
  simp only [ad_15] at f0
  have h0 : v_iv (n_v vs 20) = w_ei ws (w_ar ws (n_v vs 0) 91) (v_iv (n_v vs 12)) := f0
  simp only [ad_15] at f7
  have h7 : v_iv (n_v vs 16) = w_ei ws (w_ar ws (n_v vs 0) 91) (v_iv (n_v vs 12)) := f7
  have hrf0 : 0 ≤ v_iv (n_v vs 20) ∧ v_iv (n_v vs 20) ≤ 77 := vc_Mo_augment_16_r0 (v_iv (n_v vs 1)) (v_iv (n_v vs 2)) (v_iv (n_v vs 10)) (v_iv (n_v vs 12)) (v_iv (n_v vs 13)) (v_iv (n_v vs 16)) (v_iv (n_v vs 20)) (w_ei ws (w_ar ws (n_v vs 0) 91)) (w_ei ws (w_ar ws (n_v vs 0) 92)) k1 k2 k10 k12 k13 k16 k20 h0 h7 f9 f20
  have rf20 : tv_ok ta (0, 0, 77, []) (n_v vs 20) := tv_in t20 (by first | omega | grind) (by first | omega | grind)
  refine ⟨List.forall_mem_cons.mpr ⟨rf20, (fun _ h => (by cases h))⟩, [], trivial, ?_, (fun _ h => (by cases h))⟩
  rw [List.append_nil]
  exact (fun _ h => (by cases h))
set_option maxHeartbeats 4000000 in
theorem vc_Mo_augment_17_0 (x1 : Int) (x2 : Int) (k1 : 2 ≤ x1 ∧ x1 ≤ 78) (k2 : 0 ≤ x2 ∧ x2 ≤ 76) (f10 : (x2 + 1) ≤ x1) : (x2 + 1) ≤ x1 := by
  first
    | omega
    | (have h := auw_step (g_zq := 80) ‹AUW _ _ _ _ _ _ _› (by omega) (by assumption) (by omega); omega)
set_option maxHeartbeats 4000000 in
theorem vc_Mo_augment_17_1 (x1 : Int) (x3 : Int) (k1 : 2 ≤ x1 ∧ x1 ≤ 78) (k3 : 1 ≤ x3 ∧ x3 ≤ 77) (f11 : (x3 + 1) ≤ x1) : (x3 + 1) ≤ x1 := by
  first
    | omega
    | (have h := auw_step (g_zq := 80) ‹AUW _ _ _ _ _ _ _› (by omega) (by assumption) (by omega); omega)
set_option maxHeartbeats 4000000 in
theorem vc_Mo_augment_17_2 (x1 : Int) (k1 : 2 ≤ x1 ∧ x1 ≤ 78) (f12 : x1 ≤ 78) : x1 ≤ 78 := by
  first
    | omega
    | (have h := auw_step (g_zq := 80) ‹AUW _ _ _ _ _ _ _› (by omega) (by assumption) (by omega); omega)
set_option maxHeartbeats 4000000 in
theorem vc_Mo_augment_17_3 (x1 : Int) (pointMany_0 : Int) (k1 : 2 ≤ x1 ∧ x1 ≤ 78) (f13 : x1 = (pointMany_0 + 2)) (kz_0_79 : 0 ≤ pointMany_0 ∧ pointMany_0 ≤ 76) : x1 = (pointMany_0 + 2) := by
  first
    | omega
    | (have h := auw_step (g_zq := 80) ‹AUW _ _ _ _ _ _ _› (by omega) (by assumption) (by omega); omega)
set_option maxHeartbeats 4000000 in
theorem vc_Mo_augment_17_4 (x2 : Int) (pointMany_0 : Int) (k2 : 0 ≤ x2 ∧ x2 ≤ 76) (f14 : x2 = pointMany_0) (kz_0_79 : 0 ≤ pointMany_0 ∧ pointMany_0 ≤ 76) : x2 = pointMany_0 := by
  first
    | omega
    | (have h := auw_step (g_zq := 80) ‹AUW _ _ _ _ _ _ _› (by omega) (by assumption) (by omega); omega)
set_option maxHeartbeats 4000000 in
theorem vc_Mo_augment_17_5 (x3 : Int) (pointMany_0 : Int) (k3 : 1 ≤ x3 ∧ x3 ≤ 77) (f15 : x3 = (pointMany_0 + 1)) (kz_0_79 : 0 ≤ pointMany_0 ∧ pointMany_0 ≤ 76) : x3 = (pointMany_0 + 1) := by
  first
    | omega
    | (have h := auw_step (g_zq := 80) ‹AUW _ _ _ _ _ _ _› (by omega) (by assumption) (by omega); omega)
set_option maxHeartbeats 4000000 in
theorem vc_Mo_augment_17_6 (flow_0 : Int → Int) (pointMany_0 : Int) (spot_0 : Int → Int) (costA_0 : Int → Int) (costB_0 : Int → Int) (costW_0 : Int → Int) (costPlain_0 : Int → Int) (apartA_0 : Int → Int) (apartB_0 : Int → Int) (apart_0 : Int → Int) (costMany_0 : Int) (apartMany_0 : Int) (f16 : FLO (pointMany_0) (costMany_0) (apartMany_0) (flow_0) (spot_0) (costA_0) (costB_0) (costW_0) (costPlain_0) (apartA_0) (apartB_0) (apart_0)) (kz_0_79 : 0 ≤ pointMany_0 ∧ pointMany_0 ≤ 76) (kz_0_80 : 0 ≤ costMany_0 ∧ costMany_0 ≤ 200) (kz_0_81 : 0 ≤ apartMany_0 ∧ apartMany_0 ≤ 200) : FLO (pointMany_0) (costMany_0) (apartMany_0) (flow_0) (spot_0) (costA_0) (costB_0) (costW_0) (costPlain_0) (apartA_0) (apartB_0) (apart_0) := by
  first
    | assumption
    | exact (psh_end ‹PSH _ _ _ _ _ _ _ _ _ _ _ _ _ _ _ _› (by omega)).1
set_option maxHeartbeats 4000000 in
theorem vc_Mo_augment_17_7 (x4 : Int) (flow_0 : Int → Int) (pointMany_0 : Int) (k4 : (-2) ≤ x4 ∧ x4 ≤ 180000001) (f17 : XLE (pointMany_0) (flow_0) (x4)) (kz_0_79 : 0 ≤ pointMany_0 ∧ pointMany_0 ≤ 76) : XLE (pointMany_0) (flow_0) (x4) := by
  assumption
set_option maxHeartbeats 4000000 in
theorem vc_Mo_augment_17_8 (x1 : Int) (x2 : Int) (cameBy_0 : Int → Int) (flow_0 : Int → Int) (k1 : 2 ≤ x1 ∧ x1 ≤ 78) (k2 : 0 ≤ x2 ∧ x2 ≤ 76) (f18 : FPT (flow_0) (cameBy_0) (x1) (x2)) : FPT (flow_0) (cameBy_0) (x1) (x2) := by
  first
    | assumption
    | exact fpt_start ‹AU0 _ _› (by omega) (by assumption) (by omega)
    | exact fpt_step2 ‹FPT _ _ _ _› (by assumption) rfl (by assumption) (by assumption) (by assumption) (by assumption) (by omega)
set_option maxHeartbeats 4000000 in
theorem vc_Mo_augment_17_9 (x1 : Int) (x2 : Int) (x3 : Int) (x10 : Int) (x11 : Int) (x12 : Int) (x13 : Int) (x16 : Int) (x17 : Int) (x18 : Int) (x19 : Int) (x20 : Int) (cameBy_0 : Int → Int) (flow_0 : Int → Int) (pointMany_0 : Int) (spot_0 : Int → Int) (costA_0 : Int → Int) (costB_0 : Int → Int) (costW_0 : Int → Int) (costPlain_0 : Int → Int) (apartA_0 : Int → Int) (apartB_0 : Int → Int) (apart_0 : Int → Int) (costMany_0 : Int) (apartMany_0 : Int) (queue_0 : Int → Int) (k1 : 2 ≤ x1 ∧ x1 ≤ 78) (k2 : 0 ≤ x2 ∧ x2 ≤ 76) (k3 : 1 ≤ x3 ∧ x3 ≤ 77) (k10 : 1 ≤ x10 ∧ x10 ≤ 79) (k11 : 0 ≤ x11 ∧ x11 ≤ 1000000) (k12 : 0 ≤ x12 ∧ x12 ≤ 77) (k13 : (-2) ≤ x13 ∧ x13 ≤ 80) (k16 : 0 ≤ x16 ∧ x16 ≤ 77) (k17 : 0 ≤ x17 ∧ x17 ≤ 6083) (k18 : 0 ≤ x18 ∧ x18 ≤ 6083) (k19 : 0 ≤ x19 ∧ x19 ≤ 1000000) (k20 : 0 ≤ x20 ∧ x20 ≤ 77) (d0 : x19 + 0 ≤ x11 ∧ x11 ≤ x19 + 4294967296) (h0 : x20 = cameBy_0 (x12)) (h4 : x19 = flow_0 (x18)) (f5 : x18 = x17 + x12) (f6 : x17 = x1 * x16) (h7 : x16 = cameBy_0 (x12)) (f9 : x12 ≠ x2) (f13 : x1 = (pointMany_0 + 2)) (f16 : FLO (pointMany_0) (costMany_0) (apartMany_0) (flow_0) (spot_0) (costA_0) (costB_0) (costW_0) (costPlain_0) (apartA_0) (apartB_0) (apart_0)) (f18 : FPT (flow_0) (cameBy_0) (x1) (x2)) (f19 : MN1 (flow_0) (cameBy_0) (x1) (x2) (x3) (x12) (x11)) (f20 : AUW (queue_0) (cameBy_0) (x1) (x2) (x10) (x12) (x13)) (kz_0_79 : 0 ≤ pointMany_0 ∧ pointMany_0 ≤ 76) (kz_0_80 : 0 ≤ costMany_0 ∧ costMany_0 ≤ 200) (kz_0_81 : 0 ≤ apartMany_0 ∧ apartMany_0 ≤ 200) : MN1 (flow_0) (cameBy_0) (x1) (x2) (x3) (x20) (x19) := by
  exact mn1_step2 ‹FLO _ _ _ _ _ _ _ _ _ _ _ _› ‹FPT _ _ _ _› ‹AUW _ _ _ _ _ _ _› ‹MN1 _ _ _ _ _ _ _› (by omega) (by omega) (by assumption) (by assumption) (by assumption) (by assumption) (by assumption) (by omega)
set_option maxHeartbeats 4000000 in
theorem vc_Mo_augment_17_10 (x1 : Int) (x2 : Int) (x10 : Int) (x12 : Int) (x13 : Int) (x20 : Int) (cameBy_0 : Int → Int) (queue_0 : Int → Int) (gx : Int) (k1 : 2 ≤ x1 ∧ x1 ≤ 78) (k2 : 0 ≤ x2 ∧ x2 ≤ 76) (k10 : 1 ≤ x10 ∧ x10 ≤ 79) (k12 : 0 ≤ x12 ∧ x12 ≤ 77) (k13 : (-2) ≤ x13 ∧ x13 ≤ 80) (k20 : 0 ≤ x20 ∧ x20 ≤ 77) (h0 : x20 = cameBy_0 (x12)) (f9 : x12 ≠ x2) (f20 : AUW (queue_0) (cameBy_0) (x1) (x2) (x10) (x12) (x13)) (ex2 : gx = 0 + (1 * x13 + 0)) : AUX (queue_0) (cameBy_0) (x1) (x2) (x10) (x20) (gx) := by
  exact (auw_step ‹AUW _ _ _ _ _ _ _› (by omega) (by assumption) (by omega)).1
set_option maxHeartbeats 4000000 in
theorem vc_Mo_augment_17_11 (x1 : Int) (x2 : Int) (x3 : Int) (x10 : Int) (cameBy_0 : Int → Int) (queue_0 : Int → Int) (k1 : 2 ≤ x1 ∧ x1 ≤ 78) (k2 : 0 ≤ x2 ∧ x2 ≤ 76) (k3 : 1 ≤ x3 ∧ x3 ≤ 77) (k10 : 1 ≤ x10 ∧ x10 ≤ 79) (f21 : AU2 (queue_0) (cameBy_0) (x1) (x2) (x10) (x3)) : AU2 (queue_0) (cameBy_0) (x1) (x2) (x10) (x3) := by
  assumption
set_option maxHeartbeats 4000000 in
theorem vc_Mo_augment_17_12 (x1 : Int) (x2 : Int) (x10 : Int) (x12 : Int) (x13 : Int) (x16 : Int) (cameBy_0 : Int → Int) (queue_0 : Int → Int) (gx : Int) (k1 : 2 ≤ x1 ∧ x1 ≤ 78) (k2 : 0 ≤ x2 ∧ x2 ≤ 76) (k10 : 1 ≤ x10 ∧ x10 ≤ 79) (k12 : 0 ≤ x12 ∧ x12 ≤ 77) (k13 : (-2) ≤ x13 ∧ x13 ≤ 80) (k16 : 0 ≤ x16 ∧ x16 ≤ 77) (h7 : x16 = cameBy_0 (x12)) (f9 : x12 ≠ x2) (f20 : AUW (queue_0) (cameBy_0) (x1) (x2) (x10) (x12) (x13)) (ex2 : gx = 0 + (1 * x13 + 0)) : (-1) * gx + 0 ≤ (-1) := by
  first
    | omega
    | (have h := auw_step (g_zq := 80) ‹AUW _ _ _ _ _ _ _› (by omega) (by assumption) (by omega); omega)
def o_Mo_augment_17 : or_T := (187, 21, [(0, (2, 0, 0, [165])), (1, (0, 2, 78, [])), (2, (0, 0, 76, [])), (3, (0, 1, 77, [])), (4, (0, -2, 180000001, [])), (5, (2, 0, 0, [165])), (6, (0, 2, 79, [])), (7, (0, 0, 76, [])), (8, (0, 1, 77, [])), (10, (0, 1, 79, [])), (11, (0, 0, 1000000, [])), (12, (0, 0, 77, [])), (13, (0, -2, 80, [])), (14, (2, 0, 0, [227])), (15, (2, 0, 0, [228])), (16, (0, 0, 77, [])), (17, (0, 0, 6083, [])), (18, (0, 0, 6083, [])), (19, (0, 0, 1000000, [])), (20, (0, 0, 77, []))], [(10, [20, 15, 12], []), (9, [15, 5], [91]), (7, [19, 11], [5]), (7, [19, 19], [5]), (10, [19, 14, 18], []), (1, [18, 17, 12], []), (3, [17, 6, 16], []), (10, [16, 15, 12], []), (9, [14, 5], [90]), (7, [12, 7], [1]), (20, [7, 6], [50, 0, 0, 0, 6, 4, 2, 1, 0, 0, 1, 1, 1]), (20, [8, 6], [50, 0, 0, 0, 6, 4, 2, 1, 0, 0, 1, 1, 1]), (20, [6], [50, 0, 0, 0, 2, 1, 0, 0, 78]), (20, [6, 5], [50, 1, 0, 1079, 1, 2, 1, 0, 4, 3, 2, 1, 79, 0, 2]), (20, [7, 5], [50, 1, 0, 1079, 1, 2, 1, 0, 2, 1, 79]), (20, [8, 5], [50, 1, 0, 1079, 1, 2, 1, 0, 4, 3, 2, 1, 79, 0, 1]), (20, [5], [60, 3, 9, 397, 79, 80, 81, 90, 82, 83, 84, 85, 86, 87, 88, 89]), (20, [5, 4], [60, 1, 1, 398, 79, 90]), (20, [5, 6, 7], [60, 0, 2, 401, 90, 91]), (20, [5, 6, 7, 8, 12, 11], [60, 0, 2, 407, 90, 91]), (20, [5, 6, 7, 10, 12, 13], [60, 0, 2, 394, 92, 91]), (20, [5, 6, 7, 10, 8], [60, 0, 2, 393, 92, 91]), (24, [0, 5], []), (24, [1, 6], []), (24, [2, 7], []), (24, [3, 8], [])], [], [(0, -2, 80, [])], [(20, [7, 6], [50, 0, 0, 0, 6, 4, 2, 1, 0, 0, 1, 1, 1]), (20, [8, 6], [50, 0, 0, 0, 6, 4, 2, 1, 0, 0, 1, 1, 1]), (20, [6], [50, 0, 0, 0, 2, 1, 0, 0, 78]), (20, [6, 5], [50, 1, 0, 1079, 1, 2, 1, 0, 4, 3, 2, 1, 79, 0, 2]), (20, [7, 5], [50, 1, 0, 1079, 1, 2, 1, 0, 2, 1, 79]), (20, [8, 5], [50, 1, 0, 1079, 1, 2, 1, 0, 4, 3, 2, 1, 79, 0, 1]), (20, [5], [60, 3, 9, 397, 79, 80, 81, 90, 82, 83, 84, 85, 86, 87, 88, 89]), (20, [5, 4], [60, 1, 1, 398, 79, 90]), (20, [5, 6, 7], [60, 0, 2, 401, 90, 91]), (20, [5, 6, 7, 8, 20, 19], [60, 0, 2, 407, 90, 91]), (20, [5, 6, 7, 10, 20, 21], [60, 0, 2, 429, 92, 91]), (20, [5, 6, 7, 10, 8], [60, 0, 2, 393, 92, 91]), (23, [21], [-1, -1]), (24, [0, 5], []), (24, [1, 6], []), (24, [2, 7], []), (24, [3, 8], [])], [(21, 13, 0, 0)], [(11, 19, 0, 4294967296), (18, 12, 0, 6083), (18, 17, 0, 77), (1, 6, -4294967296, 0), (2, 7, -4294967296, 0), (3, 8, -4294967296, 0), (6, 1, -4294967296, 0), (7, 2, -4294967296, 0), (8, 3, -4294967296, 0)])
theorem oo_Mo_augment_17 {kA : Nat → ClassId} : or_ok PRD kA GG o_Mo_augment_17 := by
  refine or_mk fun A ta ws vs hD hth hl => ?_
  intro t0 r0 t1 k1 t2 k2 t3 k3 t4 k4 t5 r5 t6 k6 t7 k7 t8 k8 t10 k10 t11 k11 t12 k12 t13 k13 t14 r14 t15 r15 t16 k16 t17 k17 t18 k18 t19 k19 t20 k20 d0 d1 d2 d3 d4 d5 d6 d7 d8 f0 f1 f2 f3 f4 f5 f6 f7 f8 f9 f10 f11 f12 f13 f14 f15 f16 f17 f18 f19 f20 f21 f22 f23 f24 f25
  replace f0 := shm_107 f0
  replace f1 := shm_949 f1
  replace f2 := shm_24 f2
  replace f3 := shm_125 f3
  replace f4 := shm_107 f4
  replace f5 := shm_12 f5
  replace f6 := shm_38 f6
  replace f7 := shm_107 f7
  replace f8 := shm_962 f8
  replace f9 := shm_40 f9
  replace f10 := shm_396 f10
  replace f11 := shm_396 f11
  replace f12 := shm_941 f12
  replace f13 := shm_942 f13
  replace f14 := shm_943 f14
  replace f15 := shm_944 f15
  replace f16 := shm_945 f16
  replace f17 := shm_946 f17
  replace f18 := shm_950 f18
  replace f19 := shm_963 f19
  replace f20 := shm_955 f20
  replace f21 := shm_956 f21
  replace f22 := shm_5 f22
  replace f23 := shm_5 f23
  replace f24 := shm_5 f24
  replace f25 := shm_5 f25
  have q5 : n_v vs 5 = n_v vs 0 := f22.symm
  have q6 : n_v vs 6 = n_v vs 1 := f23.symm
  have q7 : n_v vs 7 = n_v vs 2 := f24.symm
  have q8 : n_v vs 8 = n_v vs 3 := f25.symm
  simp only [q5, q6, q7, q8] at f1 f6 f8 f9 f10 f11 f12 f13 f14 f15 f16 f17 f18 f19 f20 f21
  have cr_0_82 := fdq_230 hD hth r0
  have cr_0_83 := fdq_126 hD hth r0
  have cr_0_84 := fdq_127 hD hth r0
  have cr_0_85 := fdq_128 hD hth r0
  have cr_0_86 := fdq_129 hD hth r0
  have cr_0_87 := fdq_119 hD hth r0
  have cr_0_88 := fdq_120 hD hth r0
  have cr_0_89 := fdq_121 hD hth r0
  have cr_0_90 := fdq_231 hD hth r0
  have cr_0_91 := fdq_232 hD hth r0
  have cr_0_92 := fdq_233 hD hth r0
  have ad_15 : v_ad (n_v vs 15) = w_ar ws (n_v vs 0) 91 := congrArg v_ad f1
  have ad_14 : v_ad (n_v vs 14) = w_ar ws (n_v vs 0) 90 := congrArg v_ad f8
  simp only [ad_15] at f0
  have h0 : v_iv (n_v vs 20) = w_ei ws (w_ar ws (n_v vs 0) 91) (v_iv (n_v vs 12)) := f0
  simp only [ad_14] at f4
  have h4 : v_iv (n_v vs 19) = w_ei ws (w_ar ws (n_v vs 0) 90) (v_iv (n_v vs 18)) := f4
  simp only [ad_15] at f7
  have h7 : v_iv (n_v vs 16) = w_ei ws (w_ar ws (n_v vs 0) 91) (v_iv (n_v vs 12)) := f7
  have hK_0_82 := elq_143 hD hth cr_0_82
  have hK_0_83 := elq_67 hD hth cr_0_83
  have hK_0_84 := elq_68 hD hth cr_0_84
  have hK_0_85 := elq_69 hD hth cr_0_85
  have hK_0_86 := elq_70 hD hth cr_0_86
  have hK_0_87 := elq_62 hD hth cr_0_87
  have hK_0_88 := elq_63 hD hth cr_0_88
  have hK_0_89 := elq_64 hD hth cr_0_89
  have hK_0_90 := elq_144 hD hth cr_0_90
  have hK_0_91 := elq_145 hD hth cr_0_91
  have hK_0_92 := elq_146 hD hth cr_0_92
  have kz_0_79 := fdq_147 hD hth r0
  have kz_0_80 := fdq_131 hD hth r0
  have kz_0_81 := fdq_124 hD hth r0
  obtain ⟨x, ex, hx⟩ := iv_ex (ta := ta) (lo := (-2)) (hi := 80) (z := 0 + (1 * v_iv (n_v vs 13) + 0)) (by omega) (by omega) (by omega) (by omega)
  have ex2 : v_iv (Value.int x) = 0 + (1 * v_iv (n_v vs 13) + 0) := ex
  have ex3 : (-2) ≤ v_iv (Value.int x) ∧ v_iv (Value.int x) ≤ 80 := tv_rng hx
  have e_0 : n_v (vs ++ [Value.int x]) 0 = n_v vs 0 := n_v_old (by rw [hl]; decide)
  have e_1 : n_v (vs ++ [Value.int x]) 1 = n_v vs 1 := n_v_old (by rw [hl]; decide)
  have e_2 : n_v (vs ++ [Value.int x]) 2 = n_v vs 2 := n_v_old (by rw [hl]; decide)
  have e_3 : n_v (vs ++ [Value.int x]) 3 = n_v vs 3 := n_v_old (by rw [hl]; decide)
  have e_4 : n_v (vs ++ [Value.int x]) 4 = n_v vs 4 := n_v_old (by rw [hl]; decide)
  have e_5 : n_v (vs ++ [Value.int x]) 5 = n_v vs 5 := n_v_old (by rw [hl]; decide)
  have e_6 : n_v (vs ++ [Value.int x]) 6 = n_v vs 6 := n_v_old (by rw [hl]; decide)
  have e_7 : n_v (vs ++ [Value.int x]) 7 = n_v vs 7 := n_v_old (by rw [hl]; decide)
  have e_8 : n_v (vs ++ [Value.int x]) 8 = n_v vs 8 := n_v_old (by rw [hl]; decide)
  have e_10 : n_v (vs ++ [Value.int x]) 10 = n_v vs 10 := n_v_old (by rw [hl]; decide)
  have e_19 : n_v (vs ++ [Value.int x]) 19 = n_v vs 19 := n_v_old (by rw [hl]; decide)
  have e_20 : n_v (vs ++ [Value.int x]) 20 = n_v vs 20 := n_v_old (by rw [hl]; decide)
  have e_21 : n_v (vs ++ [Value.int x]) 21 = Value.int x := n_v_new hl
  have nf0 : fc_1 PRD (20, [7, 6], [50, 0, 0, 0, 6, 4, 2, 1, 0, 0, 1, 1, 1]) ws (vs ++ [Value.int x]) := by
    refine ⟨nf_inA hl rfl, sgq_396 ?_⟩
    · show (v_iv (n_v (vs ++ [Value.int x]) 7) + 1) ≤ v_iv (n_v (vs ++ [Value.int x]) 6)
      simp only [e_6, e_7, q6, q7]
      exact vc_Mo_augment_17_0 (v_iv (n_v vs 1)) (v_iv (n_v vs 2)) k1 k2 f10
  have nf1 : fc_1 PRD (20, [8, 6], [50, 0, 0, 0, 6, 4, 2, 1, 0, 0, 1, 1, 1]) ws (vs ++ [Value.int x]) := by
    refine ⟨nf_inA hl rfl, sgq_396 ?_⟩
    · show (v_iv (n_v (vs ++ [Value.int x]) 8) + 1) ≤ v_iv (n_v (vs ++ [Value.int x]) 6)
      simp only [e_6, e_8, q6, q8]
      exact vc_Mo_augment_17_1 (v_iv (n_v vs 1)) (v_iv (n_v vs 3)) k1 k3 f11
  have nf2 : fc_1 PRD (20, [6], [50, 0, 0, 0, 2, 1, 0, 0, 78]) ws (vs ++ [Value.int x]) := by
    refine ⟨nf_inA hl rfl, sgq_941 ?_⟩
    · show v_iv (n_v (vs ++ [Value.int x]) 6) ≤ 78
      simp only [e_6, q6]
      exact vc_Mo_augment_17_2 (v_iv (n_v vs 1)) k1 f12
  have nf3 : fc_1 PRD (20, [6, 5], [50, 1, 0, 1079, 1, 2, 1, 0, 4, 3, 2, 1, 79, 0, 2]) ws (vs ++ [Value.int x]) := by
    refine ⟨nf_inA hl rfl, sgq_942 ?_⟩
    · show v_iv (n_v (vs ++ [Value.int x]) 6) = (w_fi ws (n_v (vs ++ [Value.int x]) 5) 79 + 2)
      simp only [e_5, e_6, q5, q6]
      exact vc_Mo_augment_17_3 (v_iv (n_v vs 1)) (w_fi ws (n_v vs 0) 79) k1 f13 kz_0_79
  have nf4 : fc_1 PRD (20, [7, 5], [50, 1, 0, 1079, 1, 2, 1, 0, 2, 1, 79]) ws (vs ++ [Value.int x]) := by
    refine ⟨nf_inA hl rfl, sgq_943 ?_⟩
    · show v_iv (n_v (vs ++ [Value.int x]) 7) = w_fi ws (n_v (vs ++ [Value.int x]) 5) 79
      simp only [e_5, e_7, q5, q7]
      exact vc_Mo_augment_17_4 (v_iv (n_v vs 2)) (w_fi ws (n_v vs 0) 79) k2 f14 kz_0_79
  have nf5 : fc_1 PRD (20, [8, 5], [50, 1, 0, 1079, 1, 2, 1, 0, 4, 3, 2, 1, 79, 0, 1]) ws (vs ++ [Value.int x]) := by
    refine ⟨nf_inA hl rfl, sgq_944 ?_⟩
    · show v_iv (n_v (vs ++ [Value.int x]) 8) = (w_fi ws (n_v (vs ++ [Value.int x]) 5) 79 + 1)
      simp only [e_5, e_8, q5, q8]
      exact vc_Mo_augment_17_5 (v_iv (n_v vs 3)) (w_fi ws (n_v vs 0) 79) k3 f15 kz_0_79
  have nf6 : fc_1 PRD (20, [5], [60, 3, 9, 397, 79, 80, 81, 90, 82, 83, 84, 85, 86, 87, 88, 89]) ws (vs ++ [Value.int x]) := by
    refine ⟨nf_inA hl rfl, sgq_945 ?_⟩
    · show FLO (w_fi ws (n_v (vs ++ [Value.int x]) 5) 79) (w_fi ws (n_v (vs ++ [Value.int x]) 5) 80) (w_fi ws (n_v (vs ++ [Value.int x]) 5) 81) (w_ei ws (w_ar ws (n_v (vs ++ [Value.int x]) 5) 90)) (w_ei ws (w_ar ws (n_v (vs ++ [Value.int x]) 5) 82)) (w_ei ws (w_ar ws (n_v (vs ++ [Value.int x]) 5) 83)) (w_ei ws (w_ar ws (n_v (vs ++ [Value.int x]) 5) 84)) (w_ei ws (w_ar ws (n_v (vs ++ [Value.int x]) 5) 85)) (w_ei ws (w_ar ws (n_v (vs ++ [Value.int x]) 5) 86)) (w_ei ws (w_ar ws (n_v (vs ++ [Value.int x]) 5) 87)) (w_ei ws (w_ar ws (n_v (vs ++ [Value.int x]) 5) 88)) (w_ei ws (w_ar ws (n_v (vs ++ [Value.int x]) 5) 89))
      simp only [e_5, q5]
      exact vc_Mo_augment_17_6 (w_ei ws (w_ar ws (n_v vs 0) 90)) (w_fi ws (n_v vs 0) 79) (w_ei ws (w_ar ws (n_v vs 0) 82)) (w_ei ws (w_ar ws (n_v vs 0) 83)) (w_ei ws (w_ar ws (n_v vs 0) 84)) (w_ei ws (w_ar ws (n_v vs 0) 85)) (w_ei ws (w_ar ws (n_v vs 0) 86)) (w_ei ws (w_ar ws (n_v vs 0) 87)) (w_ei ws (w_ar ws (n_v vs 0) 88)) (w_ei ws (w_ar ws (n_v vs 0) 89)) (w_fi ws (n_v vs 0) 80) (w_fi ws (n_v vs 0) 81) f16 kz_0_79 kz_0_80 kz_0_81
  have nf7 : fc_1 PRD (20, [5, 4], [60, 1, 1, 398, 79, 90]) ws (vs ++ [Value.int x]) := by
    refine ⟨nf_inA hl rfl, sgq_946 ?_⟩
    · show XLE (w_fi ws (n_v (vs ++ [Value.int x]) 5) 79) (w_ei ws (w_ar ws (n_v (vs ++ [Value.int x]) 5) 90)) (v_iv (n_v (vs ++ [Value.int x]) 4))
      simp only [e_4, e_5, q5]
      exact vc_Mo_augment_17_7 (v_iv (n_v vs 4)) (w_ei ws (w_ar ws (n_v vs 0) 90)) (w_fi ws (n_v vs 0) 79) k4 f17 kz_0_79
  have nf8 : fc_1 PRD (20, [5, 6, 7], [60, 0, 2, 401, 90, 91]) ws (vs ++ [Value.int x]) := by
    refine ⟨nf_inA hl rfl, sgq_950 ?_⟩
    · show FPT (w_ei ws (w_ar ws (n_v (vs ++ [Value.int x]) 5) 90)) (w_ei ws (w_ar ws (n_v (vs ++ [Value.int x]) 5) 91)) (v_iv (n_v (vs ++ [Value.int x]) 6)) (v_iv (n_v (vs ++ [Value.int x]) 7))
      simp only [e_5, e_6, e_7, q5, q6, q7]
      exact vc_Mo_augment_17_8 (v_iv (n_v vs 1)) (v_iv (n_v vs 2)) (w_ei ws (w_ar ws (n_v vs 0) 91)) (w_ei ws (w_ar ws (n_v vs 0) 90)) k1 k2 f18
  have nf9 : fc_1 PRD (20, [5, 6, 7, 8, 20, 19], [60, 0, 2, 407, 90, 91]) ws (vs ++ [Value.int x]) := by
    refine ⟨nf_inA hl rfl, sgq_963 ?_⟩
    · show MN1 (w_ei ws (w_ar ws (n_v (vs ++ [Value.int x]) 5) 90)) (w_ei ws (w_ar ws (n_v (vs ++ [Value.int x]) 5) 91)) (v_iv (n_v (vs ++ [Value.int x]) 6)) (v_iv (n_v (vs ++ [Value.int x]) 7)) (v_iv (n_v (vs ++ [Value.int x]) 8)) (v_iv (n_v (vs ++ [Value.int x]) 20)) (v_iv (n_v (vs ++ [Value.int x]) 19))
      simp only [e_5, e_6, e_7, e_8, e_19, e_20, q5, q6, q7, q8]
      exact vc_Mo_augment_17_9 (v_iv (n_v vs 1)) (v_iv (n_v vs 2)) (v_iv (n_v vs 3)) (v_iv (n_v vs 10)) (v_iv (n_v vs 11)) (v_iv (n_v vs 12)) (v_iv (n_v vs 13)) (v_iv (n_v vs 16)) (v_iv (n_v vs 17)) (v_iv (n_v vs 18)) (v_iv (n_v vs 19)) (v_iv (n_v vs 20)) (w_ei ws (w_ar ws (n_v vs 0) 91)) (w_ei ws (w_ar ws (n_v vs 0) 90)) (w_fi ws (n_v vs 0) 79) (w_ei ws (w_ar ws (n_v vs 0) 82)) (w_ei ws (w_ar ws (n_v vs 0) 83)) (w_ei ws (w_ar ws (n_v vs 0) 84)) (w_ei ws (w_ar ws (n_v vs 0) 85)) (w_ei ws (w_ar ws (n_v vs 0) 86)) (w_ei ws (w_ar ws (n_v vs 0) 87)) (w_ei ws (w_ar ws (n_v vs 0) 88)) (w_ei ws (w_ar ws (n_v vs 0) 89)) (w_fi ws (n_v vs 0) 80) (w_fi ws (n_v vs 0) 81) (w_ei ws (w_ar ws (n_v vs 0) 92)) k1 k2 k3 k10 k11 k12 k13 k16 k17 k18 k19 k20 d0 h0 h4 f5 f6 h7 f9 f13 f16 f18 f19 f20 kz_0_79 kz_0_80 kz_0_81
  have nf10 : fc_1 PRD (20, [5, 6, 7, 10, 20, 21], [60, 0, 2, 429, 92, 91]) ws (vs ++ [Value.int x]) := by
    refine ⟨nf_inA hl rfl, sgq_965 ?_⟩
    · show AUX (w_ei ws (w_ar ws (n_v (vs ++ [Value.int x]) 5) 92)) (w_ei ws (w_ar ws (n_v (vs ++ [Value.int x]) 5) 91)) (v_iv (n_v (vs ++ [Value.int x]) 6)) (v_iv (n_v (vs ++ [Value.int x]) 7)) (v_iv (n_v (vs ++ [Value.int x]) 10)) (v_iv (n_v (vs ++ [Value.int x]) 20)) (v_iv (n_v (vs ++ [Value.int x]) 21))
      simp only [e_5, e_6, e_7, e_10, e_20, e_21, q5, q6, q7]
      exact vc_Mo_augment_17_10 (v_iv (n_v vs 1)) (v_iv (n_v vs 2)) (v_iv (n_v vs 10)) (v_iv (n_v vs 12)) (v_iv (n_v vs 13)) (v_iv (n_v vs 20)) (w_ei ws (w_ar ws (n_v vs 0) 91)) (w_ei ws (w_ar ws (n_v vs 0) 92)) (v_iv (Value.int x)) k1 k2 k10 k12 k13 k20 h0 f9 f20 ex2
  have nf11 : fc_1 PRD (20, [5, 6, 7, 10, 8], [60, 0, 2, 393, 92, 91]) ws (vs ++ [Value.int x]) := by
    refine ⟨nf_inA hl rfl, sgq_956 ?_⟩
    · show AU2 (w_ei ws (w_ar ws (n_v (vs ++ [Value.int x]) 5) 92)) (w_ei ws (w_ar ws (n_v (vs ++ [Value.int x]) 5) 91)) (v_iv (n_v (vs ++ [Value.int x]) 6)) (v_iv (n_v (vs ++ [Value.int x]) 7)) (v_iv (n_v (vs ++ [Value.int x]) 10)) (v_iv (n_v (vs ++ [Value.int x]) 8))
      simp only [e_5, e_6, e_7, e_8, e_10, q5, q6, q7, q8]
      exact vc_Mo_augment_17_11 (v_iv (n_v vs 1)) (v_iv (n_v vs 2)) (v_iv (n_v vs 3)) (v_iv (n_v vs 10)) (w_ei ws (w_ar ws (n_v vs 0) 91)) (w_ei ws (w_ar ws (n_v vs 0) 92)) k1 k2 k3 k10 f21
  have nf12 : fc_1 PRD (23, [21], [-1, -1]) ws (vs ++ [Value.int x]) := by
    refine ⟨nf_inA hl rfl, sgq_626 ?_⟩
    · show (-1) * v_iv (n_v (vs ++ [Value.int x]) 21) + 0 ≤ (-1)
      rw [e_21]
      exact vc_Mo_augment_17_12 (v_iv (n_v vs 1)) (v_iv (n_v vs 2)) (v_iv (n_v vs 10)) (v_iv (n_v vs 12)) (v_iv (n_v vs 13)) (v_iv (n_v vs 16)) (w_ei ws (w_ar ws (n_v vs 0) 91)) (w_ei ws (w_ar ws (n_v vs 0) 92)) (v_iv (Value.int x)) k1 k2 k10 k12 k13 k16 h7 f9 f20 ex2
  have nf13 : fc_1 PRD (24, [0, 5], []) ws (vs ++ [Value.int x]) := by
    refine ⟨nf_inA hl rfl, sgq_5 ?_⟩
    · show n_v (vs ++ [Value.int x]) 0 = n_v (vs ++ [Value.int x]) 5
      first | rfl | simp only [e_0, e_5, q5, q6, q7, q8]
  have nf14 : fc_1 PRD (24, [1, 6], []) ws (vs ++ [Value.int x]) := by
    refine ⟨nf_inA hl rfl, sgq_5 ?_⟩
    · show n_v (vs ++ [Value.int x]) 1 = n_v (vs ++ [Value.int x]) 6
      first | rfl | simp only [e_1, e_6, q5, q6, q7, q8]
  have nf15 : fc_1 PRD (24, [2, 7], []) ws (vs ++ [Value.int x]) := by
    refine ⟨nf_inA hl rfl, sgq_5 ?_⟩
    · show n_v (vs ++ [Value.int x]) 2 = n_v (vs ++ [Value.int x]) 7
      first | rfl | simp only [e_2, e_7, q5, q6, q7, q8]
  have nf16 : fc_1 PRD (24, [3, 8], []) ws (vs ++ [Value.int x]) := by
    refine ⟨nf_inA hl rfl, sgq_5 ?_⟩
    · show n_v (vs ++ [Value.int x]) 3 = n_v (vs ++ [Value.int x]) 8
      first | rfl | simp only [e_3, e_8, q5, q6, q7, q8]
  obtain ⟨x0, e0, _, _⟩ := tv_int t13 rfl
  have e1 : v_iv (n_v vs 13) = x0.toInt := by rw [e0]; rfl
  have ho : sy_ofs (vs ++ [Value.int x]) (21, 13, 0, 0) := by
    refine ⟨x, x0, by rw [List.getElem?_append_right (by rw [hl]; decide), hl]; rfl, ?_, ?_, ?_⟩
    · rw [List.getElem?_append_left (by rw [hl]; decide)]; exact n_v_some (by rw [hl]; decide) e0
    · show x0.toInt + 0 ≤ x.toInt; omega
    · show x.toInt ≤ x0.toInt + 0; omega
  exact ⟨(fun _ h => (by cases h)), [Value.int x], ag_one hx, List.forall_mem_cons.mpr ⟨⟨show (20 : Nat) < 100 from by decide, nf0⟩, List.forall_mem_cons.mpr ⟨⟨show (20 : Nat) < 100 from by decide, nf1⟩, List.forall_mem_cons.mpr ⟨⟨show (20 : Nat) < 100 from by decide, nf2⟩, List.forall_mem_cons.mpr ⟨⟨show (20 : Nat) < 100 from by decide, nf3⟩, List.forall_mem_cons.mpr ⟨⟨show (20 : Nat) < 100 from by decide, nf4⟩, List.forall_mem_cons.mpr ⟨⟨show (20 : Nat) < 100 from by decide, nf5⟩, List.forall_mem_cons.mpr ⟨⟨show (20 : Nat) < 100 from by decide, nf6⟩, List.forall_mem_cons.mpr ⟨⟨show (20 : Nat) < 100 from by decide, nf7⟩, List.forall_mem_cons.mpr ⟨⟨show (20 : Nat) < 100 from by decide, nf8⟩, List.forall_mem_cons.mpr ⟨⟨show (20 : Nat) < 100 from by decide, nf9⟩, List.forall_mem_cons.mpr ⟨⟨show (20 : Nat) < 100 from by decide, nf10⟩, List.forall_mem_cons.mpr ⟨⟨show (20 : Nat) < 100 from by decide, nf11⟩, List.forall_mem_cons.mpr ⟨⟨show (23 : Nat) < 100 from by decide, nf12⟩, List.forall_mem_cons.mpr ⟨⟨show (24 : Nat) < 100 from by decide, nf13⟩, List.forall_mem_cons.mpr ⟨⟨show (24 : Nat) < 100 from by decide, nf14⟩, List.forall_mem_cons.mpr ⟨⟨show (24 : Nat) < 100 from by decide, nf15⟩, List.forall_mem_cons.mpr ⟨⟨show (24 : Nat) < 100 from by decide, nf16⟩, (fun _ h => (by cases h))⟩⟩⟩⟩⟩⟩⟩⟩⟩⟩⟩⟩⟩⟩⟩⟩⟩, List.forall_mem_cons.mpr ⟨ho, (fun _ h => (by cases h))⟩⟩
set_option maxHeartbeats 4000000 in
theorem vc_Mo_augment_18_r0 (x1 : Int) (x2 : Int) (x10 : Int) (x12 : Int) (x13 : Int) (x16 : Int) (x20 : Int) (cameBy_0 : Int → Int) (queue_0 : Int → Int) (k1 : 2 ≤ x1 ∧ x1 ≤ 78) (k2 : 0 ≤ x2 ∧ x2 ≤ 76) (k10 : 1 ≤ x10 ∧ x10 ≤ 79) (k12 : 0 ≤ x12 ∧ x12 ≤ 77) (k13 : (-2) ≤ x13 ∧ x13 ≤ 80) (k16 : 0 ≤ x16 ∧ x16 ≤ 77) (k20 : (-1) ≤ x20 ∧ x20 ≤ 77) (h0 : x20 = cameBy_0 (x12)) (h7 : x16 = cameBy_0 (x12)) (f9 : x12 ≠ x2) (f20 : AUW (queue_0) (cameBy_0) (x1) (x2) (x10) (x12) (x13)) : 0 ≤ x20 ∧ x20 ≤ 77 := by
  have h := auw_step (g_zq := 80) ‹AUW _ _ _ _ _ _ _› (by omega) (by assumption) (by omega)
  omega
def o_Mo_augment_18 : or_T := (185, 21, [(0, (2, 0, 0, [165])), (1, (0, 2, 78, [])), (2, (0, 0, 76, [])), (3, (0, 1, 77, [])), (4, (0, -2, 180000001, [])), (5, (2, 0, 0, [165])), (6, (0, 2, 79, [])), (7, (0, 0, 76, [])), (8, (0, 1, 77, [])), (10, (0, 1, 79, [])), (11, (0, 0, 1000000, [])), (12, (0, 0, 77, [])), (13, (0, -2, 80, [])), (14, (2, 0, 0, [227])), (15, (2, 0, 0, [228])), (16, (0, 0, 77, [])), (17, (0, 0, 6083, [])), (18, (0, 0, 6083, [])), (19, (0, 1, 410000000, [])), (20, (0, -1, 77, []))], [(10, [20, 15, 12], []), (9, [15, 5], [91]), (7, [11, 11], [5]), (7, [11, 19], [5]), (10, [19, 14, 18], []), (1, [18, 17, 12], []), (3, [17, 6, 16], []), (10, [16, 15, 12], []), (9, [14, 5], [90]), (7, [12, 7], [1]), (20, [7, 6], [50, 0, 0, 0, 6, 4, 2, 1, 0, 0, 1, 1, 1]), (20, [8, 6], [50, 0, 0, 0, 6, 4, 2, 1, 0, 0, 1, 1, 1]), (20, [6], [50, 0, 0, 0, 2, 1, 0, 0, 78]), (20, [6, 5], [50, 1, 0, 1079, 1, 2, 1, 0, 4, 3, 2, 1, 79, 0, 2]), (20, [7, 5], [50, 1, 0, 1079, 1, 2, 1, 0, 2, 1, 79]), (20, [8, 5], [50, 1, 0, 1079, 1, 2, 1, 0, 4, 3, 2, 1, 79, 0, 1]), (20, [5], [60, 3, 9, 397, 79, 80, 81, 90, 82, 83, 84, 85, 86, 87, 88, 89]), (20, [5, 4], [60, 1, 1, 398, 79, 90]), (20, [5, 6, 7], [60, 0, 2, 401, 90, 91]), (20, [5, 6, 7, 8, 12, 11], [60, 0, 2, 407, 90, 91]), (20, [5, 6, 7, 10, 12, 13], [60, 0, 2, 394, 92, 91]), (20, [5, 6, 7, 10, 8], [60, 0, 2, 393, 92, 91]), (24, [0, 5], []), (24, [1, 6], []), (24, [2, 7], []), (24, [3, 8], [])], [(20, (0, 0, 77, []))], [], [], [], [(11, 19, -4294967296, -1), (18, 12, 0, 6083), (18, 17, 0, 77), (1, 6, -4294967296, 0), (2, 7, -4294967296, 0), (3, 8, -4294967296, 0), (6, 1, -4294967296, 0), (7, 2, -4294967296, 0), (8, 3, -4294967296, 0)])
theorem oo_Mo_augment_18 {kA : Nat → ClassId} : or_ok PRD kA GG o_Mo_augment_18 := by
  refine or_mk fun A ta ws vs hD hth hl => ?_
  intro t0 r0 t1 k1 t2 k2 t3 k3 t4 k4 t5 r5 t6 k6 t7 k7 t8 k8 t10 k10 t11 k11 t12 k12 t13 k13 t14 r14 t15 r15 t16 k16 t17 k17 t18 k18 t19 k19 t20 k20 d0 d1 d2 d3 d4 d5 d6 d7 d8 f0 f1 f2 f3 f4 f5 f6 f7 f8 f9 f10 f11 f12 f13 f14 f15 f16 f17 f18 f19 f20 f21 f22 f23 f24 f25
  replace f0 := shm_107 f0
  replace f1 := shm_949 f1
  replace f7 := shm_107 f7
  replace f9 := shm_40 f9
  replace f20 := shm_955 f20
  replace f22 := shm_5 f22
  replace f23 := shm_5 f23
  replace f24 := shm_5 f24
  have q5 : n_v vs 5 = n_v vs 0 := f22.symm
  have q6 : n_v vs 6 = n_v vs 1 := f23.symm
  have q7 : n_v vs 7 = n_v vs 2 := f24.symm
  simp only [q5, q6, q7] at f1 f9 f20
  have ad_15 : v_ad (n_v vs 15) = w_ar ws (n_v vs 0) 91 := congrArg v_ad f1
  simp only [ad_15] at f0
  have h0 : v_iv (n_v vs 20) = w_ei ws (w_ar ws (n_v vs 0) 91) (v_iv (n_v vs 12)) := f0
  simp only [ad_15] at f7
  have h7 : v_iv (n_v vs 16) = w_ei ws (w_ar ws (n_v vs 0) 91) (v_iv (n_v vs 12)) := f7
  have hrf0 : 0 ≤ v_iv (n_v vs 20) ∧ v_iv (n_v vs 20) ≤ 77 := vc_Mo_augment_18_r0 (v_iv (n_v vs 1)) (v_iv (n_v vs 2)) (v_iv (n_v vs 10)) (v_iv (n_v vs 12)) (v_iv (n_v vs 13)) (v_iv (n_v vs 16)) (v_iv (n_v vs 20)) (w_ei ws (w_ar ws (n_v vs 0) 91)) (w_ei ws (w_ar ws (n_v vs 0) 92)) k1 k2 k10 k12 k13 k16 k20 h0 h7 f9 f20
  have rf20 : tv_ok ta (0, 0, 77, []) (n_v vs 20) := tv_in t20 (by first | omega | grind) (by first | omega | grind)
  refine ⟨List.forall_mem_cons.mpr ⟨rf20, (fun _ h => (by cases h))⟩, [], trivial, ?_, (fun _ h => (by cases h))⟩
  rw [List.append_nil]
  exact (fun _ h => (by cases h))
set_option maxHeartbeats 4000000 in
theorem vc_Mo_augment_19_0 (x1 : Int) (x2 : Int) (k1 : 2 ≤ x1 ∧ x1 ≤ 78) (k2 : 0 ≤ x2 ∧ x2 ≤ 76) (f10 : (x2 + 1) ≤ x1) : (x2 + 1) ≤ x1 := by
  first
    | omega
    | (have h := auw_step (g_zq := 80) ‹AUW _ _ _ _ _ _ _› (by omega) (by assumption) (by omega); omega)
set_option maxHeartbeats 4000000 in
theorem vc_Mo_augment_19_1 (x1 : Int) (x3 : Int) (k1 : 2 ≤ x1 ∧ x1 ≤ 78) (k3 : 1 ≤ x3 ∧ x3 ≤ 77) (f11 : (x3 + 1) ≤ x1) : (x3 + 1) ≤ x1 := by
  first
    | omega
    | (have h := auw_step (g_zq := 80) ‹AUW _ _ _ _ _ _ _› (by omega) (by assumption) (by omega); omega)
set_option maxHeartbeats 4000000 in
theorem vc_Mo_augment_19_2 (x1 : Int) (k1 : 2 ≤ x1 ∧ x1 ≤ 78) (f12 : x1 ≤ 78) : x1 ≤ 78 := by
  first
    | omega
    | (have h := auw_step (g_zq := 80) ‹AUW _ _ _ _ _ _ _› (by omega) (by assumption) (by omega); omega)
set_option maxHeartbeats 4000000 in
theorem vc_Mo_augment_19_3 (x1 : Int) (pointMany_0 : Int) (k1 : 2 ≤ x1 ∧ x1 ≤ 78) (f13 : x1 = (pointMany_0 + 2)) (kz_0_79 : 0 ≤ pointMany_0 ∧ pointMany_0 ≤ 76) : x1 = (pointMany_0 + 2) := by
  first
    | omega
    | (have h := auw_step (g_zq := 80) ‹AUW _ _ _ _ _ _ _› (by omega) (by assumption) (by omega); omega)
set_option maxHeartbeats 4000000 in
theorem vc_Mo_augment_19_4 (x2 : Int) (pointMany_0 : Int) (k2 : 0 ≤ x2 ∧ x2 ≤ 76) (f14 : x2 = pointMany_0) (kz_0_79 : 0 ≤ pointMany_0 ∧ pointMany_0 ≤ 76) : x2 = pointMany_0 := by
  first
    | omega
    | (have h := auw_step (g_zq := 80) ‹AUW _ _ _ _ _ _ _› (by omega) (by assumption) (by omega); omega)
set_option maxHeartbeats 4000000 in
theorem vc_Mo_augment_19_5 (x3 : Int) (pointMany_0 : Int) (k3 : 1 ≤ x3 ∧ x3 ≤ 77) (f15 : x3 = (pointMany_0 + 1)) (kz_0_79 : 0 ≤ pointMany_0 ∧ pointMany_0 ≤ 76) : x3 = (pointMany_0 + 1) := by
  first
    | omega
    | (have h := auw_step (g_zq := 80) ‹AUW _ _ _ _ _ _ _› (by omega) (by assumption) (by omega); omega)
set_option maxHeartbeats 4000000 in
theorem vc_Mo_augment_19_6 (flow_0 : Int → Int) (pointMany_0 : Int) (spot_0 : Int → Int) (costA_0 : Int → Int) (costB_0 : Int → Int) (costW_0 : Int → Int) (costPlain_0 : Int → Int) (apartA_0 : Int → Int) (apartB_0 : Int → Int) (apart_0 : Int → Int) (costMany_0 : Int) (apartMany_0 : Int) (f16 : FLO (pointMany_0) (costMany_0) (apartMany_0) (flow_0) (spot_0) (costA_0) (costB_0) (costW_0) (costPlain_0) (apartA_0) (apartB_0) (apart_0)) (kz_0_79 : 0 ≤ pointMany_0 ∧ pointMany_0 ≤ 76) (kz_0_80 : 0 ≤ costMany_0 ∧ costMany_0 ≤ 200) (kz_0_81 : 0 ≤ apartMany_0 ∧ apartMany_0 ≤ 200) : FLO (pointMany_0) (costMany_0) (apartMany_0) (flow_0) (spot_0) (costA_0) (costB_0) (costW_0) (costPlain_0) (apartA_0) (apartB_0) (apart_0) := by
  first
    | assumption
    | exact (psh_end ‹PSH _ _ _ _ _ _ _ _ _ _ _ _ _ _ _ _› (by omega)).1
set_option maxHeartbeats 4000000 in
theorem vc_Mo_augment_19_7 (x4 : Int) (flow_0 : Int → Int) (pointMany_0 : Int) (k4 : (-2) ≤ x4 ∧ x4 ≤ 180000001) (f17 : XLE (pointMany_0) (flow_0) (x4)) (kz_0_79 : 0 ≤ pointMany_0 ∧ pointMany_0 ≤ 76) : XLE (pointMany_0) (flow_0) (x4) := by
  assumption
set_option maxHeartbeats 4000000 in
theorem vc_Mo_augment_19_8 (x1 : Int) (x2 : Int) (cameBy_0 : Int → Int) (flow_0 : Int → Int) (k1 : 2 ≤ x1 ∧ x1 ≤ 78) (k2 : 0 ≤ x2 ∧ x2 ≤ 76) (f18 : FPT (flow_0) (cameBy_0) (x1) (x2)) : FPT (flow_0) (cameBy_0) (x1) (x2) := by
  first
    | assumption
    | exact fpt_start ‹AU0 _ _› (by omega) (by assumption) (by omega)
    | exact fpt_step2 ‹FPT _ _ _ _› (by assumption) rfl (by assumption) (by assumption) (by assumption) (by assumption) (by omega)
set_option maxHeartbeats 4000000 in
theorem vc_Mo_augment_19_9 (x1 : Int) (x2 : Int) (x3 : Int) (x10 : Int) (x11 : Int) (x12 : Int) (x13 : Int) (x16 : Int) (x17 : Int) (x18 : Int) (x19 : Int) (x20 : Int) (cameBy_0 : Int → Int) (flow_0 : Int → Int) (pointMany_0 : Int) (spot_0 : Int → Int) (costA_0 : Int → Int) (costB_0 : Int → Int) (costW_0 : Int → Int) (costPlain_0 : Int → Int) (apartA_0 : Int → Int) (apartB_0 : Int → Int) (apart_0 : Int → Int) (costMany_0 : Int) (apartMany_0 : Int) (queue_0 : Int → Int) (k1 : 2 ≤ x1 ∧ x1 ≤ 78) (k2 : 0 ≤ x2 ∧ x2 ≤ 76) (k3 : 1 ≤ x3 ∧ x3 ≤ 77) (k10 : 1 ≤ x10 ∧ x10 ≤ 79) (k11 : 0 ≤ x11 ∧ x11 ≤ 1000000) (k12 : 0 ≤ x12 ∧ x12 ≤ 77) (k13 : (-2) ≤ x13 ∧ x13 ≤ 80) (k16 : 0 ≤ x16 ∧ x16 ≤ 77) (k17 : 0 ≤ x17 ∧ x17 ≤ 6083) (k18 : 0 ≤ x18 ∧ x18 ≤ 6083) (k19 : 1 ≤ x19 ∧ x19 ≤ 410000000) (k20 : 0 ≤ x20 ∧ x20 ≤ 77) (d0 : x19 + (-4294967296) ≤ x11 ∧ x11 ≤ x19 + (-1)) (h0 : x20 = cameBy_0 (x12)) (h4 : x19 = flow_0 (x18)) (f5 : x18 = x17 + x12) (f6 : x17 = x1 * x16) (h7 : x16 = cameBy_0 (x12)) (f9 : x12 ≠ x2) (f13 : x1 = (pointMany_0 + 2)) (f16 : FLO (pointMany_0) (costMany_0) (apartMany_0) (flow_0) (spot_0) (costA_0) (costB_0) (costW_0) (costPlain_0) (apartA_0) (apartB_0) (apart_0)) (f18 : FPT (flow_0) (cameBy_0) (x1) (x2)) (f19 : MN1 (flow_0) (cameBy_0) (x1) (x2) (x3) (x12) (x11)) (f20 : AUW (queue_0) (cameBy_0) (x1) (x2) (x10) (x12) (x13)) (kz_0_79 : 0 ≤ pointMany_0 ∧ pointMany_0 ≤ 76) (kz_0_80 : 0 ≤ costMany_0 ∧ costMany_0 ≤ 200) (kz_0_81 : 0 ≤ apartMany_0 ∧ apartMany_0 ≤ 200) : MN1 (flow_0) (cameBy_0) (x1) (x2) (x3) (x20) (x11) := by
  exact mn1_step2 ‹FLO _ _ _ _ _ _ _ _ _ _ _ _› ‹FPT _ _ _ _› ‹AUW _ _ _ _ _ _ _› ‹MN1 _ _ _ _ _ _ _› (by omega) (by omega) (by assumption) (by assumption) (by assumption) (by assumption) (by assumption) (by omega)
set_option maxHeartbeats 4000000 in
theorem vc_Mo_augment_19_10 (x1 : Int) (x2 : Int) (x10 : Int) (x12 : Int) (x13 : Int) (x20 : Int) (cameBy_0 : Int → Int) (queue_0 : Int → Int) (gx : Int) (k1 : 2 ≤ x1 ∧ x1 ≤ 78) (k2 : 0 ≤ x2 ∧ x2 ≤ 76) (k10 : 1 ≤ x10 ∧ x10 ≤ 79) (k12 : 0 ≤ x12 ∧ x12 ≤ 77) (k13 : (-2) ≤ x13 ∧ x13 ≤ 80) (k20 : 0 ≤ x20 ∧ x20 ≤ 77) (h0 : x20 = cameBy_0 (x12)) (f9 : x12 ≠ x2) (f20 : AUW (queue_0) (cameBy_0) (x1) (x2) (x10) (x12) (x13)) (ex2 : gx = 0 + (1 * x13 + 0)) : AUX (queue_0) (cameBy_0) (x1) (x2) (x10) (x20) (gx) := by
  exact (auw_step ‹AUW _ _ _ _ _ _ _› (by omega) (by assumption) (by omega)).1
set_option maxHeartbeats 4000000 in
theorem vc_Mo_augment_19_11 (x1 : Int) (x2 : Int) (x3 : Int) (x10 : Int) (cameBy_0 : Int → Int) (queue_0 : Int → Int) (k1 : 2 ≤ x1 ∧ x1 ≤ 78) (k2 : 0 ≤ x2 ∧ x2 ≤ 76) (k3 : 1 ≤ x3 ∧ x3 ≤ 77) (k10 : 1 ≤ x10 ∧ x10 ≤ 79) (f21 : AU2 (queue_0) (cameBy_0) (x1) (x2) (x10) (x3)) : AU2 (queue_0) (cameBy_0) (x1) (x2) (x10) (x3) := by
  assumption
set_option maxHeartbeats 4000000 in
theorem vc_Mo_augment_19_12 (x1 : Int) (x2 : Int) (x10 : Int) (x12 : Int) (x13 : Int) (x16 : Int) (cameBy_0 : Int → Int) (queue_0 : Int → Int) (gx : Int) (k1 : 2 ≤ x1 ∧ x1 ≤ 78) (k2 : 0 ≤ x2 ∧ x2 ≤ 76) (k10 : 1 ≤ x10 ∧ x10 ≤ 79) (k12 : 0 ≤ x12 ∧ x12 ≤ 77) (k13 : (-2) ≤ x13 ∧ x13 ≤ 80) (k16 : 0 ≤ x16 ∧ x16 ≤ 77) (h7 : x16 = cameBy_0 (x12)) (f9 : x12 ≠ x2) (f20 : AUW (queue_0) (cameBy_0) (x1) (x2) (x10) (x12) (x13)) (ex2 : gx = 0 + (1 * x13 + 0)) : (-1) * gx + 0 ≤ (-1) := by
  first
    | omega
    | (have h := auw_step (g_zq := 80) ‹AUW _ _ _ _ _ _ _› (by omega) (by assumption) (by omega); omega)
def o_Mo_augment_19 : or_T := (187, 21, [(0, (2, 0, 0, [165])), (1, (0, 2, 78, [])), (2, (0, 0, 76, [])), (3, (0, 1, 77, [])), (4, (0, -2, 180000001, [])), (5, (2, 0, 0, [165])), (6, (0, 2, 79, [])), (7, (0, 0, 76, [])), (8, (0, 1, 77, [])), (10, (0, 1, 79, [])), (11, (0, 0, 1000000, [])), (12, (0, 0, 77, [])), (13, (0, -2, 80, [])), (14, (2, 0, 0, [227])), (15, (2, 0, 0, [228])), (16, (0, 0, 77, [])), (17, (0, 0, 6083, [])), (18, (0, 0, 6083, [])), (19, (0, 1, 410000000, [])), (20, (0, 0, 77, []))], [(10, [20, 15, 12], []), (9, [15, 5], [91]), (7, [11, 11], [5]), (7, [11, 19], [5]), (10, [19, 14, 18], []), (1, [18, 17, 12], []), (3, [17, 6, 16], []), (10, [16, 15, 12], []), (9, [14, 5], [90]), (7, [12, 7], [1]), (20, [7, 6], [50, 0, 0, 0, 6, 4, 2, 1, 0, 0, 1, 1, 1]), (20, [8, 6], [50, 0, 0, 0, 6, 4, 2, 1, 0, 0, 1, 1, 1]), (20, [6], [50, 0, 0, 0, 2, 1, 0, 0, 78]), (20, [6, 5], [50, 1, 0, 1079, 1, 2, 1, 0, 4, 3, 2, 1, 79, 0, 2]), (20, [7, 5], [50, 1, 0, 1079, 1, 2, 1, 0, 2, 1, 79]), (20, [8, 5], [50, 1, 0, 1079, 1, 2, 1, 0, 4, 3, 2, 1, 79, 0, 1]), (20, [5], [60, 3, 9, 397, 79, 80, 81, 90, 82, 83, 84, 85, 86, 87, 88, 89]), (20, [5, 4], [60, 1, 1, 398, 79, 90]), (20, [5, 6, 7], [60, 0, 2, 401, 90, 91]), (20, [5, 6, 7, 8, 12, 11], [60, 0, 2, 407, 90, 91]), (20, [5, 6, 7, 10, 12, 13], [60, 0, 2, 394, 92, 91]), (20, [5, 6, 7, 10, 8], [60, 0, 2, 393, 92, 91]), (24, [0, 5], []), (24, [1, 6], []), (24, [2, 7], []), (24, [3, 8], [])], [], [(0, -2, 80, [])], [(20, [7, 6], [50, 0, 0, 0, 6, 4, 2, 1, 0, 0, 1, 1, 1]), (20, [8, 6], [50, 0, 0, 0, 6, 4, 2, 1, 0, 0, 1, 1, 1]), (20, [6], [50, 0, 0, 0, 2, 1, 0, 0, 78]), (20, [6, 5], [50, 1, 0, 1079, 1, 2, 1, 0, 4, 3, 2, 1, 79, 0, 2]), (20, [7, 5], [50, 1, 0, 1079, 1, 2, 1, 0, 2, 1, 79]), (20, [8, 5], [50, 1, 0, 1079, 1, 2, 1, 0, 4, 3, 2, 1, 79, 0, 1]), (20, [5], [60, 3, 9, 397, 79, 80, 81, 90, 82, 83, 84, 85, 86, 87, 88, 89]), (20, [5, 4], [60, 1, 1, 398, 79, 90]), (20, [5, 6, 7], [60, 0, 2, 401, 90, 91]), (20, [5, 6, 7, 8, 20, 11], [60, 0, 2, 407, 90, 91]), (20, [5, 6, 7, 10, 20, 21], [60, 0, 2, 429, 92, 91]), (20, [5, 6, 7, 10, 8], [60, 0, 2, 393, 92, 91]), (23, [21], [-1, -1]), (24, [0, 5], []), (24, [1, 6], []), (24, [2, 7], []), (24, [3, 8], [])], [(21, 13, 0, 0)], [(11, 19, -4294967296, -1), (18, 12, 0, 6083), (18, 17, 0, 77), (1, 6, -4294967296, 0), (2, 7, -4294967296, 0), (3, 8, -4294967296, 0), (6, 1, -4294967296, 0), (7, 2, -4294967296, 0), (8, 3, -4294967296, 0)])
theorem oo_Mo_augment_19 {kA : Nat → ClassId} : or_ok PRD kA GG o_Mo_augment_19 := by
  refine or_mk fun A ta ws vs hD hth hl => ?_
  intro t0 r0 t1 k1 t2 k2 t3 k3 t4 k4 t5 r5 t6 k6 t7 k7 t8 k8 t10 k10 t11 k11 t12 k12 t13 k13 t14 r14 t15 r15 t16 k16 t17 k17 t18 k18 t19 k19 t20 k20 d0 d1 d2 d3 d4 d5 d6 d7 d8 f0 f1 f2 f3 f4 f5 f6 f7 f8 f9 f10 f11 f12 f13 f14 f15 f16 f17 f18 f19 f20 f21 f22 f23 f24 f25
  replace f0 := shm_107 f0
  replace f1 := shm_949 f1
  replace f2 := shm_125 f2
  replace f3 := shm_24 f3
  replace f4 := shm_107 f4
  replace f5 := shm_12 f5
  replace f6 := shm_38 f6
  replace f7 := shm_107 f7
  replace f8 := shm_962 f8
  replace f9 := shm_40 f9
  replace f10 := shm_396 f10
  replace f11 := shm_396 f11
  replace f12 := shm_941 f12
  replace f13 := shm_942 f13
  replace f14 := shm_943 f14
  replace f15 := shm_944 f15
  replace f16 := shm_945 f16
  replace f17 := shm_946 f17
  replace f18 := shm_950 f18
  replace f19 := shm_963 f19
  replace f20 := shm_955 f20
  replace f21 := shm_956 f21
  replace f22 := shm_5 f22
  replace f23 := shm_5 f23
  replace f24 := shm_5 f24
  replace f25 := shm_5 f25
  have q5 : n_v vs 5 = n_v vs 0 := f22.symm
  have q6 : n_v vs 6 = n_v vs 1 := f23.symm
  have q7 : n_v vs 7 = n_v vs 2 := f24.symm
  have q8 : n_v vs 8 = n_v vs 3 := f25.symm
  simp only [q5, q6, q7, q8] at f1 f6 f8 f9 f10 f11 f12 f13 f14 f15 f16 f17 f18 f19 f20 f21
  have cr_0_82 := fdq_230 hD hth r0
  have cr_0_83 := fdq_126 hD hth r0
  have cr_0_84 := fdq_127 hD hth r0
  have cr_0_85 := fdq_128 hD hth r0
  have cr_0_86 := fdq_129 hD hth r0
  have cr_0_87 := fdq_119 hD hth r0
  have cr_0_88 := fdq_120 hD hth r0
  have cr_0_89 := fdq_121 hD hth r0
  have cr_0_90 := fdq_231 hD hth r0
  have cr_0_91 := fdq_232 hD hth r0
  have cr_0_92 := fdq_233 hD hth r0
  have ad_15 : v_ad (n_v vs 15) = w_ar ws (n_v vs 0) 91 := congrArg v_ad f1
  have ad_14 : v_ad (n_v vs 14) = w_ar ws (n_v vs 0) 90 := congrArg v_ad f8
  simp only [ad_15] at f0
  have h0 : v_iv (n_v vs 20) = w_ei ws (w_ar ws (n_v vs 0) 91) (v_iv (n_v vs 12)) := f0
  simp only [ad_14] at f4
  have h4 : v_iv (n_v vs 19) = w_ei ws (w_ar ws (n_v vs 0) 90) (v_iv (n_v vs 18)) := f4
  simp only [ad_15] at f7
  have h7 : v_iv (n_v vs 16) = w_ei ws (w_ar ws (n_v vs 0) 91) (v_iv (n_v vs 12)) := f7
  have hK_0_82 := elq_143 hD hth cr_0_82
  have hK_0_83 := elq_67 hD hth cr_0_83
  have hK_0_84 := elq_68 hD hth cr_0_84
  have hK_0_85 := elq_69 hD hth cr_0_85
  have hK_0_86 := elq_70 hD hth cr_0_86
  have hK_0_87 := elq_62 hD hth cr_0_87
  have hK_0_88 := elq_63 hD hth cr_0_88
  have hK_0_89 := elq_64 hD hth cr_0_89
  have hK_0_90 := elq_144 hD hth cr_0_90
  have hK_0_91 := elq_145 hD hth cr_0_91
  have hK_0_92 := elq_146 hD hth cr_0_92
  have kz_0_79 := fdq_147 hD hth r0
  have kz_0_80 := fdq_131 hD hth r0
  have kz_0_81 := fdq_124 hD hth r0
  obtain ⟨x, ex, hx⟩ := iv_ex (ta := ta) (lo := (-2)) (hi := 80) (z := 0 + (1 * v_iv (n_v vs 13) + 0)) (by omega) (by omega) (by omega) (by omega)
  have ex2 : v_iv (Value.int x) = 0 + (1 * v_iv (n_v vs 13) + 0) := ex
  have ex3 : (-2) ≤ v_iv (Value.int x) ∧ v_iv (Value.int x) ≤ 80 := tv_rng hx
  have e_0 : n_v (vs ++ [Value.int x]) 0 = n_v vs 0 := n_v_old (by rw [hl]; decide)
  have e_1 : n_v (vs ++ [Value.int x]) 1 = n_v vs 1 := n_v_old (by rw [hl]; decide)
  have e_2 : n_v (vs ++ [Value.int x]) 2 = n_v vs 2 := n_v_old (by rw [hl]; decide)
  have e_3 : n_v (vs ++ [Value.int x]) 3 = n_v vs 3 := n_v_old (by rw [hl]; decide)
  have e_4 : n_v (vs ++ [Value.int x]) 4 = n_v vs 4 := n_v_old (by rw [hl]; decide)
  have e_5 : n_v (vs ++ [Value.int x]) 5 = n_v vs 5 := n_v_old (by rw [hl]; decide)
  have e_6 : n_v (vs ++ [Value.int x]) 6 = n_v vs 6 := n_v_old (by rw [hl]; decide)
  have e_7 : n_v (vs ++ [Value.int x]) 7 = n_v vs 7 := n_v_old (by rw [hl]; decide)
  have e_8 : n_v (vs ++ [Value.int x]) 8 = n_v vs 8 := n_v_old (by rw [hl]; decide)
  have e_10 : n_v (vs ++ [Value.int x]) 10 = n_v vs 10 := n_v_old (by rw [hl]; decide)
  have e_11 : n_v (vs ++ [Value.int x]) 11 = n_v vs 11 := n_v_old (by rw [hl]; decide)
  have e_20 : n_v (vs ++ [Value.int x]) 20 = n_v vs 20 := n_v_old (by rw [hl]; decide)
  have e_21 : n_v (vs ++ [Value.int x]) 21 = Value.int x := n_v_new hl
  have nf0 : fc_1 PRD (20, [7, 6], [50, 0, 0, 0, 6, 4, 2, 1, 0, 0, 1, 1, 1]) ws (vs ++ [Value.int x]) := by
    refine ⟨nf_inA hl rfl, sgq_396 ?_⟩
    · show (v_iv (n_v (vs ++ [Value.int x]) 7) + 1) ≤ v_iv (n_v (vs ++ [Value.int x]) 6)
      simp only [e_6, e_7, q6, q7]
      exact vc_Mo_augment_19_0 (v_iv (n_v vs 1)) (v_iv (n_v vs 2)) k1 k2 f10
  have nf1 : fc_1 PRD (20, [8, 6], [50, 0, 0, 0, 6, 4, 2, 1, 0, 0, 1, 1, 1]) ws (vs ++ [Value.int x]) := by
    refine ⟨nf_inA hl rfl, sgq_396 ?_⟩
    · show (v_iv (n_v (vs ++ [Value.int x]) 8) + 1) ≤ v_iv (n_v (vs ++ [Value.int x]) 6)
      simp only [e_6, e_8, q6, q8]
      exact vc_Mo_augment_19_1 (v_iv (n_v vs 1)) (v_iv (n_v vs 3)) k1 k3 f11
  have nf2 : fc_1 PRD (20, [6], [50, 0, 0, 0, 2, 1, 0, 0, 78]) ws (vs ++ [Value.int x]) := by
    refine ⟨nf_inA hl rfl, sgq_941 ?_⟩
    · show v_iv (n_v (vs ++ [Value.int x]) 6) ≤ 78
      simp only [e_6, q6]
      exact vc_Mo_augment_19_2 (v_iv (n_v vs 1)) k1 f12
  have nf3 : fc_1 PRD (20, [6, 5], [50, 1, 0, 1079, 1, 2, 1, 0, 4, 3, 2, 1, 79, 0, 2]) ws (vs ++ [Value.int x]) := by
    refine ⟨nf_inA hl rfl, sgq_942 ?_⟩
    · show v_iv (n_v (vs ++ [Value.int x]) 6) = (w_fi ws (n_v (vs ++ [Value.int x]) 5) 79 + 2)
      simp only [e_5, e_6, q5, q6]
      exact vc_Mo_augment_19_3 (v_iv (n_v vs 1)) (w_fi ws (n_v vs 0) 79) k1 f13 kz_0_79
  have nf4 : fc_1 PRD (20, [7, 5], [50, 1, 0, 1079, 1, 2, 1, 0, 2, 1, 79]) ws (vs ++ [Value.int x]) := by
    refine ⟨nf_inA hl rfl, sgq_943 ?_⟩
    · show v_iv (n_v (vs ++ [Value.int x]) 7) = w_fi ws (n_v (vs ++ [Value.int x]) 5) 79
      simp only [e_5, e_7, q5, q7]
      exact vc_Mo_augment_19_4 (v_iv (n_v vs 2)) (w_fi ws (n_v vs 0) 79) k2 f14 kz_0_79
  have nf5 : fc_1 PRD (20, [8, 5], [50, 1, 0, 1079, 1, 2, 1, 0, 4, 3, 2, 1, 79, 0, 1]) ws (vs ++ [Value.int x]) := by
    refine ⟨nf_inA hl rfl, sgq_944 ?_⟩
    · show v_iv (n_v (vs ++ [Value.int x]) 8) = (w_fi ws (n_v (vs ++ [Value.int x]) 5) 79 + 1)
      simp only [e_5, e_8, q5, q8]
      exact vc_Mo_augment_19_5 (v_iv (n_v vs 3)) (w_fi ws (n_v vs 0) 79) k3 f15 kz_0_79
  have nf6 : fc_1 PRD (20, [5], [60, 3, 9, 397, 79, 80, 81, 90, 82, 83, 84, 85, 86, 87, 88, 89]) ws (vs ++ [Value.int x]) := by
    refine ⟨nf_inA hl rfl, sgq_945 ?_⟩
    · show FLO (w_fi ws (n_v (vs ++ [Value.int x]) 5) 79) (w_fi ws (n_v (vs ++ [Value.int x]) 5) 80) (w_fi ws (n_v (vs ++ [Value.int x]) 5) 81) (w_ei ws (w_ar ws (n_v (vs ++ [Value.int x]) 5) 90)) (w_ei ws (w_ar ws (n_v (vs ++ [Value.int x]) 5) 82)) (w_ei ws (w_ar ws (n_v (vs ++ [Value.int x]) 5) 83)) (w_ei ws (w_ar ws (n_v (vs ++ [Value.int x]) 5) 84)) (w_ei ws (w_ar ws (n_v (vs ++ [Value.int x]) 5) 85)) (w_ei ws (w_ar ws (n_v (vs ++ [Value.int x]) 5) 86)) (w_ei ws (w_ar ws (n_v (vs ++ [Value.int x]) 5) 87)) (w_ei ws (w_ar ws (n_v (vs ++ [Value.int x]) 5) 88)) (w_ei ws (w_ar ws (n_v (vs ++ [Value.int x]) 5) 89))
      simp only [e_5, q5]
      exact vc_Mo_augment_19_6 (w_ei ws (w_ar ws (n_v vs 0) 90)) (w_fi ws (n_v vs 0) 79) (w_ei ws (w_ar ws (n_v vs 0) 82)) (w_ei ws (w_ar ws (n_v vs 0) 83)) (w_ei ws (w_ar ws (n_v vs 0) 84)) (w_ei ws (w_ar ws (n_v vs 0) 85)) (w_ei ws (w_ar ws (n_v vs 0) 86)) (w_ei ws (w_ar ws (n_v vs 0) 87)) (w_ei ws (w_ar ws (n_v vs 0) 88)) (w_ei ws (w_ar ws (n_v vs 0) 89)) (w_fi ws (n_v vs 0) 80) (w_fi ws (n_v vs 0) 81) f16 kz_0_79 kz_0_80 kz_0_81
  have nf7 : fc_1 PRD (20, [5, 4], [60, 1, 1, 398, 79, 90]) ws (vs ++ [Value.int x]) := by
    refine ⟨nf_inA hl rfl, sgq_946 ?_⟩
    · show XLE (w_fi ws (n_v (vs ++ [Value.int x]) 5) 79) (w_ei ws (w_ar ws (n_v (vs ++ [Value.int x]) 5) 90)) (v_iv (n_v (vs ++ [Value.int x]) 4))
      simp only [e_4, e_5, q5]
      exact vc_Mo_augment_19_7 (v_iv (n_v vs 4)) (w_ei ws (w_ar ws (n_v vs 0) 90)) (w_fi ws (n_v vs 0) 79) k4 f17 kz_0_79
  have nf8 : fc_1 PRD (20, [5, 6, 7], [60, 0, 2, 401, 90, 91]) ws (vs ++ [Value.int x]) := by
    refine ⟨nf_inA hl rfl, sgq_950 ?_⟩
    · show FPT (w_ei ws (w_ar ws (n_v (vs ++ [Value.int x]) 5) 90)) (w_ei ws (w_ar ws (n_v (vs ++ [Value.int x]) 5) 91)) (v_iv (n_v (vs ++ [Value.int x]) 6)) (v_iv (n_v (vs ++ [Value.int x]) 7))
      simp only [e_5, e_6, e_7, q5, q6, q7]
      exact vc_Mo_augment_19_8 (v_iv (n_v vs 1)) (v_iv (n_v vs 2)) (w_ei ws (w_ar ws (n_v vs 0) 91)) (w_ei ws (w_ar ws (n_v vs 0) 90)) k1 k2 f18
  have nf9 : fc_1 PRD (20, [5, 6, 7, 8, 20, 11], [60, 0, 2, 407, 90, 91]) ws (vs ++ [Value.int x]) := by
    refine ⟨nf_inA hl rfl, sgq_963 ?_⟩
    · show MN1 (w_ei ws (w_ar ws (n_v (vs ++ [Value.int x]) 5) 90)) (w_ei ws (w_ar ws (n_v (vs ++ [Value.int x]) 5) 91)) (v_iv (n_v (vs ++ [Value.int x]) 6)) (v_iv (n_v (vs ++ [Value.int x]) 7)) (v_iv (n_v (vs ++ [Value.int x]) 8)) (v_iv (n_v (vs ++ [Value.int x]) 20)) (v_iv (n_v (vs ++ [Value.int x]) 11))
      simp only [e_5, e_6, e_7, e_8, e_11, e_20, q5, q6, q7, q8]
      exact vc_Mo_augment_19_9 (v_iv (n_v vs 1)) (v_iv (n_v vs 2)) (v_iv (n_v vs 3)) (v_iv (n_v vs 10)) (v_iv (n_v vs 11)) (v_iv (n_v vs 12)) (v_iv (n_v vs 13)) (v_iv (n_v vs 16)) (v_iv (n_v vs 17)) (v_iv (n_v vs 18)) (v_iv (n_v vs 19)) (v_iv (n_v vs 20)) (w_ei ws (w_ar ws (n_v vs 0) 91)) (w_ei ws (w_ar ws (n_v vs 0) 90)) (w_fi ws (n_v vs 0) 79) (w_ei ws (w_ar ws (n_v vs 0) 82)) (w_ei ws (w_ar ws (n_v vs 0) 83)) (w_ei ws (w_ar ws (n_v vs 0) 84)) (w_ei ws (w_ar ws (n_v vs 0) 85)) (w_ei ws (w_ar ws (n_v vs 0) 86)) (w_ei ws (w_ar ws (n_v vs 0) 87)) (w_ei ws (w_ar ws (n_v vs 0) 88)) (w_ei ws (w_ar ws (n_v vs 0) 89)) (w_fi ws (n_v vs 0) 80) (w_fi ws (n_v vs 0) 81) (w_ei ws (w_ar ws (n_v vs 0) 92)) k1 k2 k3 k10 k11 k12 k13 k16 k17 k18 k19 k20 d0 h0 h4 f5 f6 h7 f9 f13 f16 f18 f19 f20 kz_0_79 kz_0_80 kz_0_81
  have nf10 : fc_1 PRD (20, [5, 6, 7, 10, 20, 21], [60, 0, 2, 429, 92, 91]) ws (vs ++ [Value.int x]) := by
    refine ⟨nf_inA hl rfl, sgq_965 ?_⟩
    · show AUX (w_ei ws (w_ar ws (n_v (vs ++ [Value.int x]) 5) 92)) (w_ei ws (w_ar ws (n_v (vs ++ [Value.int x]) 5) 91)) (v_iv (n_v (vs ++ [Value.int x]) 6)) (v_iv (n_v (vs ++ [Value.int x]) 7)) (v_iv (n_v (vs ++ [Value.int x]) 10)) (v_iv (n_v (vs ++ [Value.int x]) 20)) (v_iv (n_v (vs ++ [Value.int x]) 21))
      simp only [e_5, e_6, e_7, e_10, e_20, e_21, q5, q6, q7]
      exact vc_Mo_augment_19_10 (v_iv (n_v vs 1)) (v_iv (n_v vs 2)) (v_iv (n_v vs 10)) (v_iv (n_v vs 12)) (v_iv (n_v vs 13)) (v_iv (n_v vs 20)) (w_ei ws (w_ar ws (n_v vs 0) 91)) (w_ei ws (w_ar ws (n_v vs 0) 92)) (v_iv (Value.int x)) k1 k2 k10 k12 k13 k20 h0 f9 f20 ex2
  have nf11 : fc_1 PRD (20, [5, 6, 7, 10, 8], [60, 0, 2, 393, 92, 91]) ws (vs ++ [Value.int x]) := by
    refine ⟨nf_inA hl rfl, sgq_956 ?_⟩
    · show AU2 (w_ei ws (w_ar ws (n_v (vs ++ [Value.int x]) 5) 92)) (w_ei ws (w_ar ws (n_v (vs ++ [Value.int x]) 5) 91)) (v_iv (n_v (vs ++ [Value.int x]) 6)) (v_iv (n_v (vs ++ [Value.int x]) 7)) (v_iv (n_v (vs ++ [Value.int x]) 10)) (v_iv (n_v (vs ++ [Value.int x]) 8))
      simp only [e_5, e_6, e_7, e_8, e_10, q5, q6, q7, q8]
      exact vc_Mo_augment_19_11 (v_iv (n_v vs 1)) (v_iv (n_v vs 2)) (v_iv (n_v vs 3)) (v_iv (n_v vs 10)) (w_ei ws (w_ar ws (n_v vs 0) 91)) (w_ei ws (w_ar ws (n_v vs 0) 92)) k1 k2 k3 k10 f21
  have nf12 : fc_1 PRD (23, [21], [-1, -1]) ws (vs ++ [Value.int x]) := by
    refine ⟨nf_inA hl rfl, sgq_626 ?_⟩
    · show (-1) * v_iv (n_v (vs ++ [Value.int x]) 21) + 0 ≤ (-1)
      rw [e_21]
      exact vc_Mo_augment_19_12 (v_iv (n_v vs 1)) (v_iv (n_v vs 2)) (v_iv (n_v vs 10)) (v_iv (n_v vs 12)) (v_iv (n_v vs 13)) (v_iv (n_v vs 16)) (w_ei ws (w_ar ws (n_v vs 0) 91)) (w_ei ws (w_ar ws (n_v vs 0) 92)) (v_iv (Value.int x)) k1 k2 k10 k12 k13 k16 h7 f9 f20 ex2
  have nf13 : fc_1 PRD (24, [0, 5], []) ws (vs ++ [Value.int x]) := by
    refine ⟨nf_inA hl rfl, sgq_5 ?_⟩
    · show n_v (vs ++ [Value.int x]) 0 = n_v (vs ++ [Value.int x]) 5
      first | rfl | simp only [e_0, e_5, q5, q6, q7, q8]
  have nf14 : fc_1 PRD (24, [1, 6], []) ws (vs ++ [Value.int x]) := by
    refine ⟨nf_inA hl rfl, sgq_5 ?_⟩
    · show n_v (vs ++ [Value.int x]) 1 = n_v (vs ++ [Value.int x]) 6
      first | rfl | simp only [e_1, e_6, q5, q6, q7, q8]
  have nf15 : fc_1 PRD (24, [2, 7], []) ws (vs ++ [Value.int x]) := by
    refine ⟨nf_inA hl rfl, sgq_5 ?_⟩
    · show n_v (vs ++ [Value.int x]) 2 = n_v (vs ++ [Value.int x]) 7
      first | rfl | simp only [e_2, e_7, q5, q6, q7, q8]
  have nf16 : fc_1 PRD (24, [3, 8], []) ws (vs ++ [Value.int x]) := by
    refine ⟨nf_inA hl rfl, sgq_5 ?_⟩
    · show n_v (vs ++ [Value.int x]) 3 = n_v (vs ++ [Value.int x]) 8
      first | rfl | simp only [e_3, e_8, q5, q6, q7, q8]
  obtain ⟨x0, e0, _, _⟩ := tv_int t13 rfl
  have e1 : v_iv (n_v vs 13) = x0.toInt := by rw [e0]; rfl
  have ho : sy_ofs (vs ++ [Value.int x]) (21, 13, 0, 0) := by
    refine ⟨x, x0, by rw [List.getElem?_append_right (by rw [hl]; decide), hl]; rfl, ?_, ?_, ?_⟩
    · rw [List.getElem?_append_left (by rw [hl]; decide)]; exact n_v_some (by rw [hl]; decide) e0
    · show x0.toInt + 0 ≤ x.toInt; omega
    · show x.toInt ≤ x0.toInt + 0; omega
  exact ⟨(fun _ h => (by cases h)), [Value.int x], ag_one hx, List.forall_mem_cons.mpr ⟨⟨show (20 : Nat) < 100 from by decide, nf0⟩, List.forall_mem_cons.mpr ⟨⟨show (20 : Nat) < 100 from by decide, nf1⟩, List.forall_mem_cons.mpr ⟨⟨show (20 : Nat) < 100 from by decide, nf2⟩, List.forall_mem_cons.mpr ⟨⟨show (20 : Nat) < 100 from by decide, nf3⟩, List.forall_mem_cons.mpr ⟨⟨show (20 : Nat) < 100 from by decide, nf4⟩, List.forall_mem_cons.mpr ⟨⟨show (20 : Nat) < 100 from by decide, nf5⟩, List.forall_mem_cons.mpr ⟨⟨show (20 : Nat) < 100 from by decide, nf6⟩, List.forall_mem_cons.mpr ⟨⟨show (20 : Nat) < 100 from by decide, nf7⟩, List.forall_mem_cons.mpr ⟨⟨show (20 : Nat) < 100 from by decide, nf8⟩, List.forall_mem_cons.mpr ⟨⟨show (20 : Nat) < 100 from by decide, nf9⟩, List.forall_mem_cons.mpr ⟨⟨show (20 : Nat) < 100 from by decide, nf10⟩, List.forall_mem_cons.mpr ⟨⟨show (20 : Nat) < 100 from by decide, nf11⟩, List.forall_mem_cons.mpr ⟨⟨show (23 : Nat) < 100 from by decide, nf12⟩, List.forall_mem_cons.mpr ⟨⟨show (24 : Nat) < 100 from by decide, nf13⟩, List.forall_mem_cons.mpr ⟨⟨show (24 : Nat) < 100 from by decide, nf14⟩, List.forall_mem_cons.mpr ⟨⟨show (24 : Nat) < 100 from by decide, nf15⟩, List.forall_mem_cons.mpr ⟨⟨show (24 : Nat) < 100 from by decide, nf16⟩, (fun _ h => (by cases h))⟩⟩⟩⟩⟩⟩⟩⟩⟩⟩⟩⟩⟩⟩⟩⟩⟩, List.forall_mem_cons.mpr ⟨ho, (fun _ h => (by cases h))⟩⟩
set_option maxHeartbeats 4000000 in
theorem vc_Mo_augment_20_0 (x1 : Int) (x2 : Int) (k1 : 2 ≤ x1 ∧ x1 ≤ 78) (k2 : 0 ≤ x2 ∧ x2 ≤ 76) (f0 : (x2 + 1) ≤ x1) : (x2 + 1) ≤ x1 := by
  first
    | omega
    | (have h := au1_len ‹AU1 _ _ _ _ _›; omega)
set_option maxHeartbeats 4000000 in
theorem vc_Mo_augment_20_1 (x1 : Int) (x3 : Int) (k1 : 2 ≤ x1 ∧ x1 ≤ 78) (k3 : 1 ≤ x3 ∧ x3 ≤ 77) (f1 : (x3 + 1) ≤ x1) : (x3 + 1) ≤ x1 := by
  first
    | omega
    | (have h := au1_len ‹AU1 _ _ _ _ _›; omega)
set_option maxHeartbeats 4000000 in
theorem vc_Mo_augment_20_2 (x1 : Int) (k1 : 2 ≤ x1 ∧ x1 ≤ 78) (f2 : x1 ≤ 78) : x1 ≤ 78 := by
  first
    | omega
    | (have h := au1_len ‹AU1 _ _ _ _ _›; omega)
set_option maxHeartbeats 4000000 in
theorem vc_Mo_augment_20_3 (x1 : Int) (pointMany_0 : Int) (k1 : 2 ≤ x1 ∧ x1 ≤ 78) (f3 : x1 = (pointMany_0 + 2)) (kz_0_79 : 0 ≤ pointMany_0 ∧ pointMany_0 ≤ 76) : x1 = (pointMany_0 + 2) := by
  first
    | omega
    | (have h := au1_len ‹AU1 _ _ _ _ _›; omega)
set_option maxHeartbeats 4000000 in
theorem vc_Mo_augment_20_4 (x2 : Int) (pointMany_0 : Int) (k2 : 0 ≤ x2 ∧ x2 ≤ 76) (f4 : x2 = pointMany_0) (kz_0_79 : 0 ≤ pointMany_0 ∧ pointMany_0 ≤ 76) : x2 = pointMany_0 := by
  first
    | omega
    | (have h := au1_len ‹AU1 _ _ _ _ _›; omega)
set_option maxHeartbeats 4000000 in
theorem vc_Mo_augment_20_5 (x3 : Int) (pointMany_0 : Int) (k3 : 1 ≤ x3 ∧ x3 ≤ 77) (f5 : x3 = (pointMany_0 + 1)) (kz_0_79 : 0 ≤ pointMany_0 ∧ pointMany_0 ≤ 76) : x3 = (pointMany_0 + 1) := by
  first
    | omega
    | (have h := au1_len ‹AU1 _ _ _ _ _›; omega)
set_option maxHeartbeats 4000000 in
theorem vc_Mo_augment_20_6 (pointMany_0 : Int) (flow_0 : Int → Int) (spot_0 : Int → Int) (costA_0 : Int → Int) (costB_0 : Int → Int) (costW_0 : Int → Int) (costPlain_0 : Int → Int) (apartA_0 : Int → Int) (apartB_0 : Int → Int) (apart_0 : Int → Int) (costMany_0 : Int) (apartMany_0 : Int) (f6 : FLO (pointMany_0) (costMany_0) (apartMany_0) (flow_0) (spot_0) (costA_0) (costB_0) (costW_0) (costPlain_0) (apartA_0) (apartB_0) (apart_0)) (kz_0_79 : 0 ≤ pointMany_0 ∧ pointMany_0 ≤ 76) (kz_0_80 : 0 ≤ costMany_0 ∧ costMany_0 ≤ 200) (kz_0_81 : 0 ≤ apartMany_0 ∧ apartMany_0 ≤ 200) : FLO (pointMany_0) (costMany_0) (apartMany_0) (flow_0) (spot_0) (costA_0) (costB_0) (costW_0) (costPlain_0) (apartA_0) (apartB_0) (apart_0) := by
  first
    | assumption
    | exact (psh_end ‹PSH _ _ _ _ _ _ _ _ _ _ _ _ _ _ _ _› (by omega)).1
set_option maxHeartbeats 4000000 in
theorem vc_Mo_augment_20_7 (x4 : Int) (pointMany_0 : Int) (flow_0 : Int → Int) (k4 : (-2) ≤ x4 ∧ x4 ≤ 180000001) (f7 : XLE (pointMany_0) (flow_0) (x4)) (kz_0_79 : 0 ≤ pointMany_0 ∧ pointMany_0 ≤ 76) : XLE (pointMany_0) (flow_0) (x4) := by
  assumption
set_option maxHeartbeats 4000000 in
theorem vc_Mo_augment_20_8 (x1 : Int) (x2 : Int) (flow_0 : Int → Int) (cameBy_0 : Int → Int) (k1 : 2 ≤ x1 ∧ x1 ≤ 78) (k2 : 0 ≤ x2 ∧ x2 ≤ 76) (f8 : FPT (flow_0) (cameBy_0) (x1) (x2)) : FPT (flow_0) (cameBy_0) (x1) (x2) := by
  first
    | assumption
    | exact fpt_start ‹AU0 _ _› (by omega) (by assumption) (by omega)
    | exact fpt_step2 ‹FPT _ _ _ _› (by assumption) rfl (by assumption) (by assumption) (by assumption) (by assumption) (by omega)
set_option maxHeartbeats 4000000 in
theorem vc_Mo_augment_20_9 (x1 : Int) (x2 : Int) (x3 : Int) (x11 : Int) (x12 : Int) (flow_0 : Int → Int) (cameBy_0 : Int → Int) (k1 : 2 ≤ x1 ∧ x1 ≤ 78) (k2 : 0 ≤ x2 ∧ x2 ≤ 76) (k3 : 1 ≤ x3 ∧ x3 ≤ 77) (k11 : 0 ≤ x11 ∧ x11 ≤ 1000000) (k12 : 0 ≤ x12 ∧ x12 ≤ 77) (f9 : MN1 (flow_0) (cameBy_0) (x1) (x2) (x3) (x12) (x11)) : MN1 (flow_0) (cameBy_0) (x1) (x2) (x3) (x12) (x11) := by
  first
    | assumption
    | exact mn1_start (by omega) (by omega)
set_option maxHeartbeats 4000000 in
theorem vc_Mo_augment_20_10 (x1 : Int) (x2 : Int) (x10 : Int) (x12 : Int) (x13 : Int) (cameBy_0 : Int → Int) (queue_0 : Int → Int) (gx : Int) (k1 : 2 ≤ x1 ∧ x1 ≤ 78) (k2 : 0 ≤ x2 ∧ x2 ≤ 76) (k10 : 1 ≤ x10 ∧ x10 ≤ 79) (k12 : 0 ≤ x12 ∧ x12 ≤ 77) (k13 : (-2) ≤ x13 ∧ x13 ≤ 80) (f10 : AUX (queue_0) (cameBy_0) (x1) (x2) (x10) (x12) (x13)) (ex2 : gx = (-1) + (1 * x13 + 0)) : AUW (queue_0) (cameBy_0) (x1) (x2) (x10) (x12) (gx) := by
  first
    | exact auw_start ‹AU1 _ _ _ _ _› (by omega) (by omega) (by omega) (by omega)
    | (rw [show gx = x13 - 1 by omega]; exact ‹AUX _ _ _ _ _ _ _›)
set_option maxHeartbeats 4000000 in
theorem vc_Mo_augment_20_11 (x1 : Int) (x2 : Int) (x3 : Int) (x10 : Int) (cameBy_0 : Int → Int) (queue_0 : Int → Int) (k1 : 2 ≤ x1 ∧ x1 ≤ 78) (k2 : 0 ≤ x2 ∧ x2 ≤ 76) (k3 : 1 ≤ x3 ∧ x3 ≤ 77) (k10 : 1 ≤ x10 ∧ x10 ≤ 79) (f11 : AU2 (queue_0) (cameBy_0) (x1) (x2) (x10) (x3)) : AU2 (queue_0) (cameBy_0) (x1) (x2) (x10) (x3) := by
  first
    | assumption
    | exact au2_of ‹AU1 _ _ _ _ _› (by omega) (by omega) (by omega)
def o_Mo_augment_20 : or_T := (148, 14, [(0, (2, 0, 0, [165])), (1, (0, 2, 78, [])), (2, (0, 0, 76, [])), (3, (0, 1, 77, [])), (4, (0, -2, 180000001, [])), (5, (2, 0, 0, [165])), (6, (0, 2, 79, [])), (7, (0, 0, 76, [])), (8, (0, 1, 77, [])), (10, (0, 1, 79, [])), (11, (0, 0, 1000000, [])), (12, (0, 0, 77, [])), (13, (0, -2, 80, []))], [(20, [7, 6], [50, 0, 0, 0, 6, 4, 2, 1, 0, 0, 1, 1, 1]), (20, [8, 6], [50, 0, 0, 0, 6, 4, 2, 1, 0, 0, 1, 1, 1]), (20, [6], [50, 0, 0, 0, 2, 1, 0, 0, 78]), (20, [6, 5], [50, 1, 0, 1079, 1, 2, 1, 0, 4, 3, 2, 1, 79, 0, 2]), (20, [7, 5], [50, 1, 0, 1079, 1, 2, 1, 0, 2, 1, 79]), (20, [8, 5], [50, 1, 0, 1079, 1, 2, 1, 0, 4, 3, 2, 1, 79, 0, 1]), (20, [5], [60, 3, 9, 397, 79, 80, 81, 90, 82, 83, 84, 85, 86, 87, 88, 89]), (20, [5, 4], [60, 1, 1, 398, 79, 90]), (20, [5, 6, 7], [60, 0, 2, 401, 90, 91]), (20, [5, 6, 7, 8, 12, 11], [60, 0, 2, 407, 90, 91]), (20, [5, 6, 7, 10, 12, 13], [60, 0, 2, 429, 92, 91]), (20, [5, 6, 7, 10, 8], [60, 0, 2, 393, 92, 91]), (23, [13], [-1, -1]), (24, [0, 5], []), (24, [1, 6], []), (24, [2, 7], []), (24, [3, 8], [])], [], [(0, -2, 80, [])], [(20, [7, 6], [50, 0, 0, 0, 6, 4, 2, 1, 0, 0, 1, 1, 1]), (20, [8, 6], [50, 0, 0, 0, 6, 4, 2, 1, 0, 0, 1, 1, 1]), (20, [6], [50, 0, 0, 0, 2, 1, 0, 0, 78]), (20, [6, 5], [50, 1, 0, 1079, 1, 2, 1, 0, 4, 3, 2, 1, 79, 0, 2]), (20, [7, 5], [50, 1, 0, 1079, 1, 2, 1, 0, 2, 1, 79]), (20, [8, 5], [50, 1, 0, 1079, 1, 2, 1, 0, 4, 3, 2, 1, 79, 0, 1]), (20, [5], [60, 3, 9, 397, 79, 80, 81, 90, 82, 83, 84, 85, 86, 87, 88, 89]), (20, [5, 4], [60, 1, 1, 398, 79, 90]), (20, [5, 6, 7], [60, 0, 2, 401, 90, 91]), (20, [5, 6, 7, 8, 12, 11], [60, 0, 2, 407, 90, 91]), (20, [5, 6, 7, 10, 12, 14], [60, 0, 2, 394, 92, 91]), (20, [5, 6, 7, 10, 8], [60, 0, 2, 393, 92, 91]), (24, [0, 5], []), (24, [1, 6], []), (24, [2, 7], []), (24, [3, 8], [])], [(14, 13, -1000000000000, -1)], [(1, 6, -4294967296, 0), (2, 7, -4294967296, 0), (3, 8, -4294967296, 0), (6, 1, -4294967296, 0), (7, 2, -4294967296, 0), (8, 3, -4294967296, 0)])
theorem oo_Mo_augment_20 {kA : Nat → ClassId} : or_ok PRD kA GG o_Mo_augment_20 := by
  refine or_mk fun A ta ws vs hD hth hl => ?_
  intro t0 r0 t1 k1 t2 k2 t3 k3 t4 k4 t5 r5 t6 k6 t7 k7 t8 k8 t10 k10 t11 k11 t12 k12 t13 k13 d0 d1 d2 d3 d4 d5 f0 f1 f2 f3 f4 f5 f6 f7 f8 f9 f10 f11 f12 f13 f14 f15 f16
  replace f0 := shm_396 f0
  replace f1 := shm_396 f1
  replace f2 := shm_941 f2
  replace f3 := shm_942 f3
  replace f4 := shm_943 f4
  replace f5 := shm_944 f5
  replace f6 := shm_945 f6
  replace f7 := shm_946 f7
  replace f8 := shm_950 f8
  replace f9 := shm_963 f9
  replace f10 := shm_965 f10
  replace f11 := shm_956 f11
  replace f12 := shm_626 f12
  replace f13 := shm_5 f13
  replace f14 := shm_5 f14
  replace f15 := shm_5 f15
  replace f16 := shm_5 f16
  have q5 : n_v vs 5 = n_v vs 0 := f13.symm
  have q6 : n_v vs 6 = n_v vs 1 := f14.symm
  have q7 : n_v vs 7 = n_v vs 2 := f15.symm
  have q8 : n_v vs 8 = n_v vs 3 := f16.symm
  simp only [q6, q7, q8, q5] at f0 f1 f2 f3 f4 f5 f6 f7 f8 f9 f10 f11
  have cr_0_82 := fdq_230 hD hth r0
  have cr_0_83 := fdq_126 hD hth r0
  have cr_0_84 := fdq_127 hD hth r0
  have cr_0_85 := fdq_128 hD hth r0
  have cr_0_86 := fdq_129 hD hth r0
  have cr_0_87 := fdq_119 hD hth r0
  have cr_0_88 := fdq_120 hD hth r0
  have cr_0_89 := fdq_121 hD hth r0
  have cr_0_90 := fdq_231 hD hth r0
  have cr_0_91 := fdq_232 hD hth r0
  have cr_0_92 := fdq_233 hD hth r0
  have hK_0_82 := elq_143 hD hth cr_0_82
  have hK_0_83 := elq_67 hD hth cr_0_83
  have hK_0_84 := elq_68 hD hth cr_0_84
  have hK_0_85 := elq_69 hD hth cr_0_85
  have hK_0_86 := elq_70 hD hth cr_0_86
  have hK_0_87 := elq_62 hD hth cr_0_87
  have hK_0_88 := elq_63 hD hth cr_0_88
  have hK_0_89 := elq_64 hD hth cr_0_89
  have hK_0_90 := elq_144 hD hth cr_0_90
  have hK_0_91 := elq_145 hD hth cr_0_91
  have hK_0_92 := elq_146 hD hth cr_0_92
  have kz_0_79 := fdq_147 hD hth r0
  have kz_0_80 := fdq_131 hD hth r0
  have kz_0_81 := fdq_124 hD hth r0
  obtain ⟨x, ex, hx⟩ := iv_ex (ta := ta) (lo := (-2)) (hi := 80) (z := (-1) + (1 * v_iv (n_v vs 13) + 0)) (by omega) (by omega) (by omega) (by omega)
  have ex2 : v_iv (Value.int x) = (-1) + (1 * v_iv (n_v vs 13) + 0) := ex
  have ex3 : (-2) ≤ v_iv (Value.int x) ∧ v_iv (Value.int x) ≤ 80 := tv_rng hx
  have e_0 : n_v (vs ++ [Value.int x]) 0 = n_v vs 0 := n_v_old (by rw [hl]; decide)
  have e_1 : n_v (vs ++ [Value.int x]) 1 = n_v vs 1 := n_v_old (by rw [hl]; decide)
  have e_2 : n_v (vs ++ [Value.int x]) 2 = n_v vs 2 := n_v_old (by rw [hl]; decide)
  have e_3 : n_v (vs ++ [Value.int x]) 3 = n_v vs 3 := n_v_old (by rw [hl]; decide)
  have e_4 : n_v (vs ++ [Value.int x]) 4 = n_v vs 4 := n_v_old (by rw [hl]; decide)
  have e_5 : n_v (vs ++ [Value.int x]) 5 = n_v vs 5 := n_v_old (by rw [hl]; decide)
  have e_6 : n_v (vs ++ [Value.int x]) 6 = n_v vs 6 := n_v_old (by rw [hl]; decide)
  have e_7 : n_v (vs ++ [Value.int x]) 7 = n_v vs 7 := n_v_old (by rw [hl]; decide)
  have e_8 : n_v (vs ++ [Value.int x]) 8 = n_v vs 8 := n_v_old (by rw [hl]; decide)
  have e_10 : n_v (vs ++ [Value.int x]) 10 = n_v vs 10 := n_v_old (by rw [hl]; decide)
  have e_11 : n_v (vs ++ [Value.int x]) 11 = n_v vs 11 := n_v_old (by rw [hl]; decide)
  have e_12 : n_v (vs ++ [Value.int x]) 12 = n_v vs 12 := n_v_old (by rw [hl]; decide)
  have e_14 : n_v (vs ++ [Value.int x]) 14 = Value.int x := n_v_new hl
  have nf0 : fc_1 PRD (20, [7, 6], [50, 0, 0, 0, 6, 4, 2, 1, 0, 0, 1, 1, 1]) ws (vs ++ [Value.int x]) := by
    refine ⟨nf_inA hl rfl, sgq_396 ?_⟩
    · show (v_iv (n_v (vs ++ [Value.int x]) 7) + 1) ≤ v_iv (n_v (vs ++ [Value.int x]) 6)
      simp only [e_6, e_7, q6, q7]
      exact vc_Mo_augment_20_0 (v_iv (n_v vs 1)) (v_iv (n_v vs 2)) k1 k2 f0
  have nf1 : fc_1 PRD (20, [8, 6], [50, 0, 0, 0, 6, 4, 2, 1, 0, 0, 1, 1, 1]) ws (vs ++ [Value.int x]) := by
    refine ⟨nf_inA hl rfl, sgq_396 ?_⟩
    · show (v_iv (n_v (vs ++ [Value.int x]) 8) + 1) ≤ v_iv (n_v (vs ++ [Value.int x]) 6)
      simp only [e_6, e_8, q6, q8]
      exact vc_Mo_augment_20_1 (v_iv (n_v vs 1)) (v_iv (n_v vs 3)) k1 k3 f1
  have nf2 : fc_1 PRD (20, [6], [50, 0, 0, 0, 2, 1, 0, 0, 78]) ws (vs ++ [Value.int x]) := by
    refine ⟨nf_inA hl rfl, sgq_941 ?_⟩
    · show v_iv (n_v (vs ++ [Value.int x]) 6) ≤ 78
      simp only [e_6, q6]
      exact vc_Mo_augment_20_2 (v_iv (n_v vs 1)) k1 f2
  have nf3 : fc_1 PRD (20, [6, 5], [50, 1, 0, 1079, 1, 2, 1, 0, 4, 3, 2, 1, 79, 0, 2]) ws (vs ++ [Value.int x]) := by
    refine ⟨nf_inA hl rfl, sgq_942 ?_⟩
    · show v_iv (n_v (vs ++ [Value.int x]) 6) = (w_fi ws (n_v (vs ++ [Value.int x]) 5) 79 + 2)
      simp only [e_5, e_6, q5, q6]
      exact vc_Mo_augment_20_3 (v_iv (n_v vs 1)) (w_fi ws (n_v vs 0) 79) k1 f3 kz_0_79
  have nf4 : fc_1 PRD (20, [7, 5], [50, 1, 0, 1079, 1, 2, 1, 0, 2, 1, 79]) ws (vs ++ [Value.int x]) := by
    refine ⟨nf_inA hl rfl, sgq_943 ?_⟩
    · show v_iv (n_v (vs ++ [Value.int x]) 7) = w_fi ws (n_v (vs ++ [Value.int x]) 5) 79
      simp only [e_5, e_7, q5, q7]
      exact vc_Mo_augment_20_4 (v_iv (n_v vs 2)) (w_fi ws (n_v vs 0) 79) k2 f4 kz_0_79
  have nf5 : fc_1 PRD (20, [8, 5], [50, 1, 0, 1079, 1, 2, 1, 0, 4, 3, 2, 1, 79, 0, 1]) ws (vs ++ [Value.int x]) := by
    refine ⟨nf_inA hl rfl, sgq_944 ?_⟩
    · show v_iv (n_v (vs ++ [Value.int x]) 8) = (w_fi ws (n_v (vs ++ [Value.int x]) 5) 79 + 1)
      simp only [e_5, e_8, q5, q8]
      exact vc_Mo_augment_20_5 (v_iv (n_v vs 3)) (w_fi ws (n_v vs 0) 79) k3 f5 kz_0_79
  have nf6 : fc_1 PRD (20, [5], [60, 3, 9, 397, 79, 80, 81, 90, 82, 83, 84, 85, 86, 87, 88, 89]) ws (vs ++ [Value.int x]) := by
    refine ⟨nf_inA hl rfl, sgq_945 ?_⟩
    · show FLO (w_fi ws (n_v (vs ++ [Value.int x]) 5) 79) (w_fi ws (n_v (vs ++ [Value.int x]) 5) 80) (w_fi ws (n_v (vs ++ [Value.int x]) 5) 81) (w_ei ws (w_ar ws (n_v (vs ++ [Value.int x]) 5) 90)) (w_ei ws (w_ar ws (n_v (vs ++ [Value.int x]) 5) 82)) (w_ei ws (w_ar ws (n_v (vs ++ [Value.int x]) 5) 83)) (w_ei ws (w_ar ws (n_v (vs ++ [Value.int x]) 5) 84)) (w_ei ws (w_ar ws (n_v (vs ++ [Value.int x]) 5) 85)) (w_ei ws (w_ar ws (n_v (vs ++ [Value.int x]) 5) 86)) (w_ei ws (w_ar ws (n_v (vs ++ [Value.int x]) 5) 87)) (w_ei ws (w_ar ws (n_v (vs ++ [Value.int x]) 5) 88)) (w_ei ws (w_ar ws (n_v (vs ++ [Value.int x]) 5) 89))
      simp only [e_5, q5]
      exact vc_Mo_augment_20_6 (w_fi ws (n_v vs 0) 79) (w_ei ws (w_ar ws (n_v vs 0) 90)) (w_ei ws (w_ar ws (n_v vs 0) 82)) (w_ei ws (w_ar ws (n_v vs 0) 83)) (w_ei ws (w_ar ws (n_v vs 0) 84)) (w_ei ws (w_ar ws (n_v vs 0) 85)) (w_ei ws (w_ar ws (n_v vs 0) 86)) (w_ei ws (w_ar ws (n_v vs 0) 87)) (w_ei ws (w_ar ws (n_v vs 0) 88)) (w_ei ws (w_ar ws (n_v vs 0) 89)) (w_fi ws (n_v vs 0) 80) (w_fi ws (n_v vs 0) 81) f6 kz_0_79 kz_0_80 kz_0_81
  have nf7 : fc_1 PRD (20, [5, 4], [60, 1, 1, 398, 79, 90]) ws (vs ++ [Value.int x]) := by
    refine ⟨nf_inA hl rfl, sgq_946 ?_⟩
    · show XLE (w_fi ws (n_v (vs ++ [Value.int x]) 5) 79) (w_ei ws (w_ar ws (n_v (vs ++ [Value.int x]) 5) 90)) (v_iv (n_v (vs ++ [Value.int x]) 4))
      simp only [e_4, e_5, q5]
      exact vc_Mo_augment_20_7 (v_iv (n_v vs 4)) (w_fi ws (n_v vs 0) 79) (w_ei ws (w_ar ws (n_v vs 0) 90)) k4 f7 kz_0_79
  have nf8 : fc_1 PRD (20, [5, 6, 7], [60, 0, 2, 401, 90, 91]) ws (vs ++ [Value.int x]) := by
    refine ⟨nf_inA hl rfl, sgq_950 ?_⟩
    · show FPT (w_ei ws (w_ar ws (n_v (vs ++ [Value.int x]) 5) 90)) (w_ei ws (w_ar ws (n_v (vs ++ [Value.int x]) 5) 91)) (v_iv (n_v (vs ++ [Value.int x]) 6)) (v_iv (n_v (vs ++ [Value.int x]) 7))
      simp only [e_5, e_6, e_7, q5, q6, q7]
      exact vc_Mo_augment_20_8 (v_iv (n_v vs 1)) (v_iv (n_v vs 2)) (w_ei ws (w_ar ws (n_v vs 0) 90)) (w_ei ws (w_ar ws (n_v vs 0) 91)) k1 k2 f8
  have nf9 : fc_1 PRD (20, [5, 6, 7, 8, 12, 11], [60, 0, 2, 407, 90, 91]) ws (vs ++ [Value.int x]) := by
    refine ⟨nf_inA hl rfl, sgq_963 ?_⟩
    · show MN1 (w_ei ws (w_ar ws (n_v (vs ++ [Value.int x]) 5) 90)) (w_ei ws (w_ar ws (n_v (vs ++ [Value.int x]) 5) 91)) (v_iv (n_v (vs ++ [Value.int x]) 6)) (v_iv (n_v (vs ++ [Value.int x]) 7)) (v_iv (n_v (vs ++ [Value.int x]) 8)) (v_iv (n_v (vs ++ [Value.int x]) 12)) (v_iv (n_v (vs ++ [Value.int x]) 11))
      simp only [e_5, e_6, e_7, e_8, e_11, e_12, q5, q6, q7, q8]
      exact vc_Mo_augment_20_9 (v_iv (n_v vs 1)) (v_iv (n_v vs 2)) (v_iv (n_v vs 3)) (v_iv (n_v vs 11)) (v_iv (n_v vs 12)) (w_ei ws (w_ar ws (n_v vs 0) 90)) (w_ei ws (w_ar ws (n_v vs 0) 91)) k1 k2 k3 k11 k12 f9
  have nf10 : fc_1 PRD (20, [5, 6, 7, 10, 12, 14], [60, 0, 2, 394, 92, 91]) ws (vs ++ [Value.int x]) := by
    refine ⟨nf_inA hl rfl, sgq_955 ?_⟩
    · show AUW (w_ei ws (w_ar ws (n_v (vs ++ [Value.int x]) 5) 92)) (w_ei ws (w_ar ws (n_v (vs ++ [Value.int x]) 5) 91)) (v_iv (n_v (vs ++ [Value.int x]) 6)) (v_iv (n_v (vs ++ [Value.int x]) 7)) (v_iv (n_v (vs ++ [Value.int x]) 10)) (v_iv (n_v (vs ++ [Value.int x]) 12)) (v_iv (n_v (vs ++ [Value.int x]) 14))
      simp only [e_5, e_6, e_7, e_10, e_12, e_14, q5, q6, q7]
      exact vc_Mo_augment_20_10 (v_iv (n_v vs 1)) (v_iv (n_v vs 2)) (v_iv (n_v vs 10)) (v_iv (n_v vs 12)) (v_iv (n_v vs 13)) (w_ei ws (w_ar ws (n_v vs 0) 91)) (w_ei ws (w_ar ws (n_v vs 0) 92)) (v_iv (Value.int x)) k1 k2 k10 k12 k13 f10 ex2
  have nf11 : fc_1 PRD (20, [5, 6, 7, 10, 8], [60, 0, 2, 393, 92, 91]) ws (vs ++ [Value.int x]) := by
    refine ⟨nf_inA hl rfl, sgq_956 ?_⟩
    · show AU2 (w_ei ws (w_ar ws (n_v (vs ++ [Value.int x]) 5) 92)) (w_ei ws (w_ar ws (n_v (vs ++ [Value.int x]) 5) 91)) (v_iv (n_v (vs ++ [Value.int x]) 6)) (v_iv (n_v (vs ++ [Value.int x]) 7)) (v_iv (n_v (vs ++ [Value.int x]) 10)) (v_iv (n_v (vs ++ [Value.int x]) 8))
      simp only [e_5, e_6, e_7, e_8, e_10, q5, q6, q7, q8]
      exact vc_Mo_augment_20_11 (v_iv (n_v vs 1)) (v_iv (n_v vs 2)) (v_iv (n_v vs 3)) (v_iv (n_v vs 10)) (w_ei ws (w_ar ws (n_v vs 0) 91)) (w_ei ws (w_ar ws (n_v vs 0) 92)) k1 k2 k3 k10 f11
  have nf12 : fc_1 PRD (24, [0, 5], []) ws (vs ++ [Value.int x]) := by
    refine ⟨nf_inA hl rfl, sgq_5 ?_⟩
    · show n_v (vs ++ [Value.int x]) 0 = n_v (vs ++ [Value.int x]) 5
      first | rfl | simp only [e_0, e_5, q5, q6, q7, q8]
  have nf13 : fc_1 PRD (24, [1, 6], []) ws (vs ++ [Value.int x]) := by
    refine ⟨nf_inA hl rfl, sgq_5 ?_⟩
    · show n_v (vs ++ [Value.int x]) 1 = n_v (vs ++ [Value.int x]) 6
      first | rfl | simp only [e_1, e_6, q5, q6, q7, q8]
  have nf14 : fc_1 PRD (24, [2, 7], []) ws (vs ++ [Value.int x]) := by
    refine ⟨nf_inA hl rfl, sgq_5 ?_⟩
    · show n_v (vs ++ [Value.int x]) 2 = n_v (vs ++ [Value.int x]) 7
      first | rfl | simp only [e_2, e_7, q5, q6, q7, q8]
  have nf15 : fc_1 PRD (24, [3, 8], []) ws (vs ++ [Value.int x]) := by
    refine ⟨nf_inA hl rfl, sgq_5 ?_⟩
    · show n_v (vs ++ [Value.int x]) 3 = n_v (vs ++ [Value.int x]) 8
      first | rfl | simp only [e_3, e_8, q5, q6, q7, q8]
  obtain ⟨x0, e0, _, _⟩ := tv_int t13 rfl
  have e1 : v_iv (n_v vs 13) = x0.toInt := by rw [e0]; rfl
  have ho : sy_ofs (vs ++ [Value.int x]) (14, 13, -1000000000000, -1) := by
    refine ⟨x, x0, by rw [List.getElem?_append_right (by rw [hl]; decide), hl]; rfl, ?_, ?_, ?_⟩
    · rw [List.getElem?_append_left (by rw [hl]; decide)]; exact n_v_some (by rw [hl]; decide) e0
    · show x0.toInt + (-1000000000000) ≤ x.toInt; omega
    · show x.toInt ≤ x0.toInt + (-1); omega
  exact ⟨(fun _ h => (by cases h)), [Value.int x], ag_one hx, List.forall_mem_cons.mpr ⟨⟨show (20 : Nat) < 100 from by decide, nf0⟩, List.forall_mem_cons.mpr ⟨⟨show (20 : Nat) < 100 from by decide, nf1⟩, List.forall_mem_cons.mpr ⟨⟨show (20 : Nat) < 100 from by decide, nf2⟩, List.forall_mem_cons.mpr ⟨⟨show (20 : Nat) < 100 from by decide, nf3⟩, List.forall_mem_cons.mpr ⟨⟨show (20 : Nat) < 100 from by decide, nf4⟩, List.forall_mem_cons.mpr ⟨⟨show (20 : Nat) < 100 from by decide, nf5⟩, List.forall_mem_cons.mpr ⟨⟨show (20 : Nat) < 100 from by decide, nf6⟩, List.forall_mem_cons.mpr ⟨⟨show (20 : Nat) < 100 from by decide, nf7⟩, List.forall_mem_cons.mpr ⟨⟨show (20 : Nat) < 100 from by decide, nf8⟩, List.forall_mem_cons.mpr ⟨⟨show (20 : Nat) < 100 from by decide, nf9⟩, List.forall_mem_cons.mpr ⟨⟨show (20 : Nat) < 100 from by decide, nf10⟩, List.forall_mem_cons.mpr ⟨⟨show (20 : Nat) < 100 from by decide, nf11⟩, List.forall_mem_cons.mpr ⟨⟨show (24 : Nat) < 100 from by decide, nf12⟩, List.forall_mem_cons.mpr ⟨⟨show (24 : Nat) < 100 from by decide, nf13⟩, List.forall_mem_cons.mpr ⟨⟨show (24 : Nat) < 100 from by decide, nf14⟩, List.forall_mem_cons.mpr ⟨⟨show (24 : Nat) < 100 from by decide, nf15⟩, (fun _ h => (by cases h))⟩⟩⟩⟩⟩⟩⟩⟩⟩⟩⟩⟩⟩⟩⟩⟩, List.forall_mem_cons.mpr ⟨ho, (fun _ h => (by cases h))⟩⟩
set_option maxHeartbeats 4000000 in
theorem vc_Mo_augment_21_0 (x2 : Int) (x4 : Int) (x7 : Int) (x11 : Int) (x12 : Int) (pointMany_0 : Int) (flow_0 : Int → Int) (cameBy_0 : Int → Int) (spot_0 : Int → Int) (costA_0 : Int → Int) (costB_0 : Int → Int) (costW_0 : Int → Int) (costPlain_0 : Int → Int) (apartA_0 : Int → Int) (apartB_0 : Int → Int) (apart_0 : Int → Int) (costMany_0 : Int) (apartMany_0 : Int) (k2 : 0 ≤ x2 ∧ x2 ≤ 76) (k4 : (-2) ≤ x4 ∧ x4 ≤ 180000001) (k7 : 0 ≤ x7 ∧ x7 ≤ 76) (k11 : 0 ≤ x11 ∧ x11 ≤ 1000000) (k12 : 0 ≤ x12 ∧ x12 ≤ 76) (d0 : x7 + 0 ≤ x12 ∧ x12 ≤ x7 + 0) (d2 : x7 + (-4294967296) ≤ x2 ∧ x2 ≤ x7 + 0) (d5 : x2 + (-4294967296) ≤ x7 ∧ x7 ≤ x2 + 0) (f5 : x2 = pointMany_0) (f7 : PSH (pointMany_0) (costMany_0) (apartMany_0) (flow_0) (cameBy_0) (spot_0) (costA_0) (costB_0) (costW_0) (costPlain_0) (apartA_0) (apartB_0) (apart_0) (x11) (x12) (x4)) (kz_0_79 : 0 ≤ pointMany_0 ∧ pointMany_0 ≤ 76) (kz_0_80 : 0 ≤ costMany_0 ∧ costMany_0 ≤ 200) (kz_0_81 : 0 ≤ apartMany_0 ∧ apartMany_0 ≤ 200) : FLO (pointMany_0) (costMany_0) (apartMany_0) (flow_0) (spot_0) (costA_0) (costB_0) (costW_0) (costPlain_0) (apartA_0) (apartB_0) (apart_0) := by
  first
    | assumption
    | exact (psh_end ‹PSH _ _ _ _ _ _ _ _ _ _ _ _ _ _ _ _› (by omega)).1
set_option maxHeartbeats 4000000 in
theorem vc_Mo_augment_21_1 (x2 : Int) (x4 : Int) (x7 : Int) (x11 : Int) (x12 : Int) (x14 : Int) (pointMany_0 : Int) (flow_0 : Int → Int) (cameBy_0 : Int → Int) (spot_0 : Int → Int) (costA_0 : Int → Int) (costB_0 : Int → Int) (costW_0 : Int → Int) (costPlain_0 : Int → Int) (apartA_0 : Int → Int) (apartB_0 : Int → Int) (apart_0 : Int → Int) (costMany_0 : Int) (apartMany_0 : Int) (k2 : 0 ≤ x2 ∧ x2 ≤ 76) (k4 : (-2) ≤ x4 ∧ x4 ≤ 180000001) (k7 : 0 ≤ x7 ∧ x7 ≤ 76) (k11 : 0 ≤ x11 ∧ x11 ≤ 1000000) (k12 : 0 ≤ x12 ∧ x12 ≤ 76) (k14 : 1 ≤ x14 ∧ x14 ≤ 1) (d0 : x7 + 0 ≤ x12 ∧ x12 ≤ x7 + 0) (d2 : x7 + (-4294967296) ≤ x2 ∧ x2 ≤ x7 + 0) (d5 : x2 + (-4294967296) ≤ x7 ∧ x7 ≤ x2 + 0) (f5 : x2 = pointMany_0) (f7 : PSH (pointMany_0) (costMany_0) (apartMany_0) (flow_0) (cameBy_0) (spot_0) (costA_0) (costB_0) (costW_0) (costPlain_0) (apartA_0) (apartB_0) (apart_0) (x11) (x12) (x4)) (kz_0_79 : 0 ≤ pointMany_0 ∧ pointMany_0 ≤ 76) (kz_0_80 : 0 ≤ costMany_0 ∧ costMany_0 ≤ 200) (kz_0_81 : 0 ≤ apartMany_0 ∧ apartMany_0 ≤ 200) : XLA (pointMany_0) (flow_0) (x14) (x4) := by
  first
    | (intro h; exfalso; omega)
    | (intro _; exact (psh_end ‹PSH _ _ _ _ _ _ _ _ _ _ _ _ _ _ _ _› (by omega)).2)
set_option maxHeartbeats 4000000 in
theorem vc_Mo_augment_21_2 (x1 : Int) (x2 : Int) (x3 : Int) (x14 : Int) (flow_0 : Int → Int) (cameBy_0 : Int → Int) (k1 : 2 ≤ x1 ∧ x1 ≤ 78) (k2 : 0 ≤ x2 ∧ x2 ≤ 76) (k3 : 1 ≤ x3 ∧ x3 ≤ 77) (k14 : 1 ≤ x14 ∧ x14 ≤ 1) : CTA (flow_0) (cameBy_0) (x1) (x2) (x3) (x14) := by
  first
    | (intro h; exfalso; omega)
    | (intro _; exact cut_of ‹AU1 _ _ _ _ _› ‹FPT _ _ _ _› ‹BF1 _ _ _ _ _› (by omega) (by omega))
def o_Mo_augment_21 : or_T := (256, 15, [(0, (2, 0, 0, [165])), (1, (0, 2, 78, [])), (2, (0, 0, 76, [])), (3, (0, 1, 77, [])), (4, (0, -2, 180000001, [])), (7, (0, 0, 76, [])), (11, (0, 0, 1000000, [])), (12, (0, 0, 76, [])), (14, (0, 1, 1, []))], [(20, [7, 5], [50, 1, 0, 1079, 1, 2, 1, 0, 2, 1, 79]), (20, [5, 11, 12, 4], [60, 3, 10, 408, 79, 80, 81, 90, 91, 82, 83, 84, 85, 86, 87, 88, 89]), (24, [0, 5], []), (24, [2, 7], [])], [], [], [(20, [0], [60, 3, 9, 397, 79, 80, 81, 90, 82, 83, 84, 85, 86, 87, 88, 89]), (20, [0, 14, 4], [60, 1, 1, 400, 79, 90]), (20, [0, 1, 2, 3, 14], [60, 0, 2, 405, 90, 91])], [], [(12, 7, 0, 0), (2, 7, -4294967296, 0), (7, 2, -4294967296, 0)])
theorem oo_Mo_augment_21 {kA : Nat → ClassId} : or_ok PRD kA GG o_Mo_augment_21 := by
  refine or_mk fun A ta ws vs hD hth hl => ?_
  intro t0 r0 t1 k1 t2 k2 t3 k3 t4 k4 t7 k7 t11 k11 t12 k12 t14 k14 d0 d2 d5 f5 f7 f9 f11
  replace f5 := shm_943 f5
  replace f7 := shm_964 f7
  replace f9 := shm_5 f9
  replace f11 := shm_5 f11
  have q5 : n_v vs 5 = n_v vs 0 := f9.symm
  have q7 : n_v vs 7 = n_v vs 2 := f11.symm
  simp only [q7, q5] at f5 f7
  have kz_0_79 := fdq_147 hD hth r0
  have kz_0_80 := fdq_131 hD hth r0
  have kz_0_81 := fdq_124 hD hth r0
  have nf0 : fc_1 PRD (20, [0], [60, 3, 9, 397, 79, 80, 81, 90, 82, 83, 84, 85, 86, 87, 88, 89]) ws (vs) := ⟨nf_in hl rfl, sgq_945 (vc_Mo_augment_21_0 (v_iv (n_v vs 2)) (v_iv (n_v vs 4)) (v_iv (n_v vs 7)) (v_iv (n_v vs 11)) (v_iv (n_v vs 12)) (w_fi ws (n_v vs 0) 79) (w_ei ws (w_ar ws (n_v vs 0) 90)) (w_ei ws (w_ar ws (n_v vs 0) 91)) (w_ei ws (w_ar ws (n_v vs 0) 82)) (w_ei ws (w_ar ws (n_v vs 0) 83)) (w_ei ws (w_ar ws (n_v vs 0) 84)) (w_ei ws (w_ar ws (n_v vs 0) 85)) (w_ei ws (w_ar ws (n_v vs 0) 86)) (w_ei ws (w_ar ws (n_v vs 0) 87)) (w_ei ws (w_ar ws (n_v vs 0) 88)) (w_ei ws (w_ar ws (n_v vs 0) 89)) (w_fi ws (n_v vs 0) 80) (w_fi ws (n_v vs 0) 81) k2 k4 k7 k11 k12 d0 d2 d5 f5 f7 kz_0_79 kz_0_80 kz_0_81)⟩
  have nf1 : fc_1 PRD (20, [0, 14, 4], [60, 1, 1, 400, 79, 90]) ws (vs) := ⟨nf_in hl rfl, sgq_957 (vc_Mo_augment_21_1 (v_iv (n_v vs 2)) (v_iv (n_v vs 4)) (v_iv (n_v vs 7)) (v_iv (n_v vs 11)) (v_iv (n_v vs 12)) (v_iv (n_v vs 14)) (w_fi ws (n_v vs 0) 79) (w_ei ws (w_ar ws (n_v vs 0) 90)) (w_ei ws (w_ar ws (n_v vs 0) 91)) (w_ei ws (w_ar ws (n_v vs 0) 82)) (w_ei ws (w_ar ws (n_v vs 0) 83)) (w_ei ws (w_ar ws (n_v vs 0) 84)) (w_ei ws (w_ar ws (n_v vs 0) 85)) (w_ei ws (w_ar ws (n_v vs 0) 86)) (w_ei ws (w_ar ws (n_v vs 0) 87)) (w_ei ws (w_ar ws (n_v vs 0) 88)) (w_ei ws (w_ar ws (n_v vs 0) 89)) (w_fi ws (n_v vs 0) 80) (w_fi ws (n_v vs 0) 81) k2 k4 k7 k11 k12 k14 d0 d2 d5 f5 f7 kz_0_79 kz_0_80 kz_0_81)⟩
  have nf2 : fc_1 PRD (20, [0, 1, 2, 3, 14], [60, 0, 2, 405, 90, 91]) ws (vs) := ⟨nf_in hl rfl, sgq_958 (vc_Mo_augment_21_2 (v_iv (n_v vs 1)) (v_iv (n_v vs 2)) (v_iv (n_v vs 3)) (v_iv (n_v vs 14)) (w_ei ws (w_ar ws (n_v vs 0) 90)) (w_ei ws (w_ar ws (n_v vs 0) 91)) k1 k2 k3 k14)⟩
  refine ⟨(fun _ h => (by cases h)), [], trivial, ?_, (fun _ h => (by cases h))⟩
  rw [List.append_nil]
  exact List.forall_mem_cons.mpr ⟨⟨show (20 : Nat) < 100 from by decide, nf0⟩, List.forall_mem_cons.mpr ⟨⟨show (20 : Nat) < 100 from by decide, nf1⟩, List.forall_mem_cons.mpr ⟨⟨show (20 : Nat) < 100 from by decide, nf2⟩, (fun _ h => (by cases h))⟩⟩⟩
set_option maxHeartbeats 4000000 in
theorem vc_Mo_augment_22_r0 (x1 : Int) (x2 : Int) (x10 : Int) (x12 : Int) (x13 : Int) (x16 : Int) (cameBy_0 : Int → Int) (queue_0 : Int → Int) (k1 : 2 ≤ x1 ∧ x1 ≤ 78) (k2 : 0 ≤ x2 ∧ x2 ≤ 76) (k10 : 1 ≤ x10 ∧ x10 ≤ 79) (k12 : 0 ≤ x12 ∧ x12 ≤ 77) (k13 : (-2) ≤ x13 ∧ x13 ≤ 80) (k16 : (-1) ≤ x16 ∧ x16 ≤ 77) (h0 : x16 = cameBy_0 (x12)) (f3 : x12 ≠ x2) (f11 : AUW (queue_0) (cameBy_0) (x1) (x2) (x10) (x12) (x13)) : 0 ≤ x16 ∧ x16 ≤ 77 := by
  have h := auw_step (g_zq := 80) ‹AUW _ _ _ _ _ _ _› (by omega) (by assumption) (by omega)
  omega
def o_Mo_augment_22 : or_T := (211, 17, [(0, (2, 0, 0, [165])), (1, (0, 2, 78, [])), (2, (0, 0, 76, [])), (3, (0, 1, 77, [])), (4, (0, -2, 180000001, [])), (5, (2, 0, 0, [165])), (6, (0, 2, 79, [])), (7, (0, 0, 76, [])), (8, (0, 1, 77, [])), (10, (0, 1, 79, [])), (11, (0, 0, 1000000, [])), (12, (0, 0, 77, [])), (13, (0, -2, 80, [])), (14, (2, 0, 0, [227])), (15, (2, 0, 0, [228])), (16, (0, -1, 77, []))], [(10, [16, 15, 12], []), (9, [15, 5], [91]), (9, [14, 5], [90]), (7, [12, 7], [1]), (20, [7, 6], [50, 0, 0, 0, 6, 4, 2, 1, 0, 0, 1, 1, 1]), (20, [8, 6], [50, 0, 0, 0, 6, 4, 2, 1, 0, 0, 1, 1, 1]), (20, [6], [50, 0, 0, 0, 2, 1, 0, 0, 78]), (20, [6, 5], [50, 1, 0, 1079, 1, 2, 1, 0, 4, 3, 2, 1, 79, 0, 2]), (20, [7, 5], [50, 1, 0, 1079, 1, 2, 1, 0, 2, 1, 79]), (20, [8, 5], [50, 1, 0, 1079, 1, 2, 1, 0, 4, 3, 2, 1, 79, 0, 1]), (20, [5, 11, 12, 4], [60, 3, 10, 408, 79, 80, 81, 90, 91, 82, 83, 84, 85, 86, 87, 88, 89]), (20, [5, 6, 7, 10, 12, 13], [60, 0, 2, 394, 92, 91]), (24, [0, 5], []), (24, [1, 6], []), (24, [2, 7], []), (24, [3, 8], [])], [(16, (0, 0, 77, []))], [], [], [], [(1, 6, -4294967296, 0), (2, 7, -4294967296, 0), (3, 8, -4294967296, 0), (6, 1, -4294967296, 0), (7, 2, -4294967296, 0), (8, 3, -4294967296, 0)])
theorem oo_Mo_augment_22 {kA : Nat → ClassId} : or_ok PRD kA GG o_Mo_augment_22 := by
  refine or_mk fun A ta ws vs hD hth hl => ?_
  intro t0 r0 t1 k1 t2 k2 t3 k3 t4 k4 t5 r5 t6 k6 t7 k7 t8 k8 t10 k10 t11 k11 t12 k12 t13 k13 t14 r14 t15 r15 t16 k16 d0 d1 d2 d3 d4 d5 f0 f1 f2 f3 f4 f5 f6 f7 f8 f9 f10 f11 f12 f13 f14 f15
  replace f0 := shm_107 f0
  replace f1 := shm_949 f1
  replace f3 := shm_40 f3
  replace f11 := shm_955 f11
  replace f12 := shm_5 f12
  replace f13 := shm_5 f13
  replace f14 := shm_5 f14
  have q5 : n_v vs 5 = n_v vs 0 := f12.symm
  have q6 : n_v vs 6 = n_v vs 1 := f13.symm
  have q7 : n_v vs 7 = n_v vs 2 := f14.symm
  simp only [q5, q7, q6] at f1 f3 f11
  have ad_15 : v_ad (n_v vs 15) = w_ar ws (n_v vs 0) 91 := congrArg v_ad f1
  simp only [ad_15] at f0
  have h0 : v_iv (n_v vs 16) = w_ei ws (w_ar ws (n_v vs 0) 91) (v_iv (n_v vs 12)) := f0
  have hrf0 : 0 ≤ v_iv (n_v vs 16) ∧ v_iv (n_v vs 16) ≤ 77 := vc_Mo_augment_22_r0 (v_iv (n_v vs 1)) (v_iv (n_v vs 2)) (v_iv (n_v vs 10)) (v_iv (n_v vs 12)) (v_iv (n_v vs 13)) (v_iv (n_v vs 16)) (w_ei ws (w_ar ws (n_v vs 0) 91)) (w_ei ws (w_ar ws (n_v vs 0) 92)) k1 k2 k10 k12 k13 k16 h0 f3 f11
  have rf16 : tv_ok ta (0, 0, 77, []) (n_v vs 16) := tv_in t16 (by first | omega | grind) (by first | omega | grind)
  refine ⟨List.forall_mem_cons.mpr ⟨rf16, (fun _ h => (by cases h))⟩, [], trivial, ?_, (fun _ h => (by cases h))⟩
  rw [List.append_nil]
  exact (fun _ h => (by cases h))
set_option maxHeartbeats 4000000 in
theorem vc_Mo_augment_23_r0 (x1 : Int) (x2 : Int) (x3 : Int) (x6 : Int) (x8 : Int) (x10 : Int) (x12 : Int) (x13 : Int) (x16 : Int) (x17 : Int) (x18 : Int) (cameBy_0 : Int → Int) (pointMany_0 : Int) (queue_0 : Int → Int) (k1 : 2 ≤ x1 ∧ x1 ≤ 78) (k2 : 0 ≤ x2 ∧ x2 ≤ 76) (k3 : 1 ≤ x3 ∧ x3 ≤ 77) (k6 : 2 ≤ x6 ∧ x6 ≤ 79) (k8 : 1 ≤ x8 ∧ x8 ≤ 77) (k10 : 1 ≤ x10 ∧ x10 ≤ 79) (k12 : 0 ≤ x12 ∧ x12 ≤ 77) (k13 : (-2) ≤ x13 ∧ x13 ≤ 80) (k16 : 0 ≤ x16 ∧ x16 ≤ 77) (k17 : 0 ≤ x17 ∧ x17 ≤ 6083) (k18 : 0 ≤ x18 ∧ x18 ≤ 6160) (d1 : x17 + 0 ≤ x18 ∧ x18 ≤ x17 + 77) (d2 : x6 + (-4294967296) ≤ x1 ∧ x1 ≤ x6 + 0) (d4 : x8 + (-4294967296) ≤ x3 ∧ x3 ≤ x8 + 0) (d5 : x1 + (-4294967296) ≤ x6 ∧ x6 ≤ x1 + 0) (d7 : x3 + (-4294967296) ≤ x8 ∧ x8 ≤ x3 + 0) (f0 : x18 = x17 + x12) (f1 : x17 = x1 * x16) (h2 : x16 = cameBy_0 (x12)) (f8 : x1 ≤ 78) (f9 : x1 = (pointMany_0 + 2)) (f11 : x3 = (pointMany_0 + 1)) (f13 : AUW (queue_0) (cameBy_0) (x1) (x2) (x10) (x12) (x13)) (kz_0_79 : 0 ≤ pointMany_0 ∧ pointMany_0 ≤ 76) : 0 ≤ x18 ∧ x18 ≤ 6083 := by
  have h := auw_bd ‹AUW _ _ _ _ _ _ _›
  refine au_idx (by assumption) (by assumption) ?_ ?_ ?_ ?_ ?_ ?_ <;> omega
def o_Mo_augment_23 : or_T := (215, 19, [(0, (2, 0, 0, [165])), (1, (0, 2, 78, [])), (2, (0, 0, 76, [])), (3, (0, 1, 77, [])), (4, (0, -2, 180000001, [])), (5, (2, 0, 0, [165])), (6, (0, 2, 79, [])), (7, (0, 0, 76, [])), (8, (0, 1, 77, [])), (10, (0, 1, 79, [])), (11, (0, 0, 1000000, [])), (12, (0, 0, 77, [])), (13, (0, -2, 80, [])), (14, (2, 0, 0, [227])), (15, (2, 0, 0, [228])), (16, (0, 0, 77, [])), (17, (0, 0, 6083, [])), (18, (0, 0, 6160, []))], [(1, [18, 17, 12], []), (3, [17, 6, 16], []), (10, [16, 15, 12], []), (9, [15, 5], [91]), (9, [14, 5], [90]), (7, [12, 7], [1]), (20, [7, 6], [50, 0, 0, 0, 6, 4, 2, 1, 0, 0, 1, 1, 1]), (20, [8, 6], [50, 0, 0, 0, 6, 4, 2, 1, 0, 0, 1, 1, 1]), (20, [6], [50, 0, 0, 0, 2, 1, 0, 0, 78]), (20, [6, 5], [50, 1, 0, 1079, 1, 2, 1, 0, 4, 3, 2, 1, 79, 0, 2]), (20, [7, 5], [50, 1, 0, 1079, 1, 2, 1, 0, 2, 1, 79]), (20, [8, 5], [50, 1, 0, 1079, 1, 2, 1, 0, 4, 3, 2, 1, 79, 0, 1]), (20, [5, 11, 12, 4], [60, 3, 10, 408, 79, 80, 81, 90, 91, 82, 83, 84, 85, 86, 87, 88, 89]), (20, [5, 6, 7, 10, 12, 13], [60, 0, 2, 394, 92, 91]), (24, [0, 5], []), (24, [1, 6], []), (24, [2, 7], []), (24, [3, 8], [])], [(18, (0, 0, 6083, []))], [], [], [], [(18, 12, 0, 6083), (18, 17, 0, 77), (1, 6, -4294967296, 0), (2, 7, -4294967296, 0), (3, 8, -4294967296, 0), (6, 1, -4294967296, 0), (7, 2, -4294967296, 0), (8, 3, -4294967296, 0)])
theorem oo_Mo_augment_23 {kA : Nat → ClassId} : or_ok PRD kA GG o_Mo_augment_23 := by
  refine or_mk fun A ta ws vs hD hth hl => ?_
  intro t0 r0 t1 k1 t2 k2 t3 k3 t4 k4 t5 r5 t6 k6 t7 k7 t8 k8 t10 k10 t11 k11 t12 k12 t13 k13 t14 r14 t15 r15 t16 k16 t17 k17 t18 k18 d0 d1 d2 d3 d4 d5 d6 d7 f0 f1 f2 f3 f4 f5 f6 f7 f8 f9 f10 f11 f12 f13 f14 f15 f16 f17
  replace f1 := shm_38 f1
  replace f2 := shm_107 f2
  replace f3 := shm_949 f3
  replace f8 := shm_941 f8
  replace f9 := shm_942 f9
  replace f11 := shm_944 f11
  replace f13 := shm_955 f13
  replace f14 := shm_5 f14
  replace f15 := shm_5 f15
  replace f16 := shm_5 f16
  replace f17 := shm_5 f17
  have q5 : n_v vs 5 = n_v vs 0 := f14.symm
  have q6 : n_v vs 6 = n_v vs 1 := f15.symm
  have q7 : n_v vs 7 = n_v vs 2 := f16.symm
  have q8 : n_v vs 8 = n_v vs 3 := f17.symm
  simp only [q6, q5, q7, q8] at f1 f3 f8 f9 f11 f13
  have ad_15 : v_ad (n_v vs 15) = w_ar ws (n_v vs 0) 91 := congrArg v_ad f3
  simp only [ad_15] at f2
  have h2 : v_iv (n_v vs 16) = w_ei ws (w_ar ws (n_v vs 0) 91) (v_iv (n_v vs 12)) := f2
  have kz_0_79 := fdq_147 hD hth r0
  have hrf0 : 0 ≤ v_iv (n_v vs 18) ∧ v_iv (n_v vs 18) ≤ 6083 := vc_Mo_augment_23_r0 (v_iv (n_v vs 1)) (v_iv (n_v vs 2)) (v_iv (n_v vs 3)) (v_iv (n_v vs 6)) (v_iv (n_v vs 8)) (v_iv (n_v vs 10)) (v_iv (n_v vs 12)) (v_iv (n_v vs 13)) (v_iv (n_v vs 16)) (v_iv (n_v vs 17)) (v_iv (n_v vs 18)) (w_ei ws (w_ar ws (n_v vs 0) 91)) (w_fi ws (n_v vs 0) 79) (w_ei ws (w_ar ws (n_v vs 0) 92)) k1 k2 k3 k6 k8 k10 k12 k13 k16 k17 k18 d1 d2 d4 d5 d7 (shm_12 f0) f1 h2 f8 f9 f11 f13 kz_0_79
  have rf18 : tv_ok ta (0, 0, 6083, []) (n_v vs 18) := tv_in t18 (by first | omega | grind) (by first | omega | grind)
  refine ⟨List.forall_mem_cons.mpr ⟨rf18, (fun _ h => (by cases h))⟩, [], trivial, ?_, (fun _ h => (by cases h))⟩
  rw [List.append_nil]
  exact (fun _ h => (by cases h))
set_option maxHeartbeats 4000000 in
theorem vc_Mo_augment_24_r0 (x1 : Int) (x2 : Int) (x4 : Int) (x10 : Int) (x11 : Int) (x12 : Int) (x13 : Int) (x16 : Int) (x17 : Int) (x18 : Int) (x19 : Int) (x20 : Int) (flow_0 : Int → Int) (cameBy_0 : Int → Int) (pointMany_0 : Int) (spot_0 : Int → Int) (costA_0 : Int → Int) (costB_0 : Int → Int) (costW_0 : Int → Int) (costPlain_0 : Int → Int) (apartA_0 : Int → Int) (apartB_0 : Int → Int) (apart_0 : Int → Int) (costMany_0 : Int) (apartMany_0 : Int) (queue_0 : Int → Int) (k1 : 2 ≤ x1 ∧ x1 ≤ 78) (k2 : 0 ≤ x2 ∧ x2 ≤ 76) (k4 : (-2) ≤ x4 ∧ x4 ≤ 180000001) (k10 : 1 ≤ x10 ∧ x10 ≤ 79) (k11 : 0 ≤ x11 ∧ x11 ≤ 1000000) (k12 : 0 ≤ x12 ∧ x12 ≤ 77) (k13 : (-2) ≤ x13 ∧ x13 ≤ 80) (k16 : 0 ≤ x16 ∧ x16 ≤ 77) (k17 : 0 ≤ x17 ∧ x17 ≤ 6083) (k18 : 0 ≤ x18 ∧ x18 ≤ 6083) (k19 : 0 ≤ x19 ∧ x19 ≤ 410000000) (k20 : (-1000000) ≤ x20 ∧ x20 ≤ 410000000) (f0 : x20 = x19 - x11) (h1 : x19 = flow_0 (x18)) (f2 : x18 = x17 + x12) (f3 : x17 = x1 * x16) (h4 : x16 = cameBy_0 (x12)) (f7 : x12 ≠ x2) (f11 : x1 = (pointMany_0 + 2)) (f12 : x2 = pointMany_0) (f14 : PSH (pointMany_0) (costMany_0) (apartMany_0) (flow_0) (cameBy_0) (spot_0) (costA_0) (costB_0) (costW_0) (costPlain_0) (apartA_0) (apartB_0) (apart_0) (x11) (x12) (x4)) (f15 : AUW (queue_0) (cameBy_0) (x1) (x2) (x10) (x12) (x13)) (kz_0_79 : 0 ≤ pointMany_0 ∧ pointMany_0 ≤ 76) (kz_0_80 : 0 ≤ costMany_0 ∧ costMany_0 ≤ 200) (kz_0_81 : 0 ≤ apartMany_0 ∧ apartMany_0 ≤ 200) : 0 ≤ x20 ∧ x20 ≤ 410000000 := by
  exact psh_bdA ‹PSH _ _ _ _ _ _ _ _ _ _ _ _ _ _ _ _› ‹AUW _ _ _ _ _ _ _› (by omega) (by omega) (by assumption) (by omega) (by assumption) (by assumption) (by assumption) (by assumption)
def o_Mo_augment_24 : or_T := (220, 21, [(0, (2, 0, 0, [165])), (1, (0, 2, 78, [])), (2, (0, 0, 76, [])), (3, (0, 1, 77, [])), (4, (0, -2, 180000001, [])), (5, (2, 0, 0, [165])), (6, (0, 2, 79, [])), (7, (0, 0, 76, [])), (8, (0, 1, 77, [])), (10, (0, 1, 79, [])), (11, (0, 0, 1000000, [])), (12, (0, 0, 77, [])), (13, (0, -2, 80, [])), (14, (2, 0, 0, [227])), (15, (2, 0, 0, [228])), (16, (0, 0, 77, [])), (17, (0, 0, 6083, [])), (18, (0, 0, 6083, [])), (19, (0, 0, 410000000, [])), (20, (0, -1000000, 410000000, []))], [(2, [20, 19, 11], []), (10, [19, 14, 18], []), (1, [18, 17, 12], []), (3, [17, 6, 16], []), (10, [16, 15, 12], []), (9, [15, 5], [91]), (9, [14, 5], [90]), (7, [12, 7], [1]), (20, [7, 6], [50, 0, 0, 0, 6, 4, 2, 1, 0, 0, 1, 1, 1]), (20, [8, 6], [50, 0, 0, 0, 6, 4, 2, 1, 0, 0, 1, 1, 1]), (20, [6], [50, 0, 0, 0, 2, 1, 0, 0, 78]), (20, [6, 5], [50, 1, 0, 1079, 1, 2, 1, 0, 4, 3, 2, 1, 79, 0, 2]), (20, [7, 5], [50, 1, 0, 1079, 1, 2, 1, 0, 2, 1, 79]), (20, [8, 5], [50, 1, 0, 1079, 1, 2, 1, 0, 4, 3, 2, 1, 79, 0, 1]), (20, [5, 11, 12, 4], [60, 3, 10, 408, 79, 80, 81, 90, 91, 82, 83, 84, 85, 86, 87, 88, 89]), (20, [5, 6, 7, 10, 12, 13], [60, 0, 2, 394, 92, 91]), (24, [0, 5], []), (24, [1, 6], []), (24, [2, 7], []), (24, [3, 8], [])], [(20, (0, 0, 410000000, []))], [], [], [], [(20, 19, -1000000, 0), (18, 12, 0, 6083), (18, 17, 0, 77), (1, 6, -4294967296, 0), (2, 7, -4294967296, 0), (3, 8, -4294967296, 0), (6, 1, -4294967296, 0), (7, 2, -4294967296, 0), (8, 3, -4294967296, 0)])
theorem oo_Mo_augment_24 {kA : Nat → ClassId} : or_ok PRD kA GG o_Mo_augment_24 := by
  refine or_mk fun A ta ws vs hD hth hl => ?_
  intro t0 r0 t1 k1 t2 k2 t3 k3 t4 k4 t5 r5 t6 k6 t7 k7 t8 k8 t10 k10 t11 k11 t12 k12 t13 k13 t14 r14 t15 r15 t16 k16 t17 k17 t18 k18 t19 k19 t20 k20 d0 d1 d2 d3 d4 d5 d6 d7 d8 f0 f1 f2 f3 f4 f5 f6 f7 f8 f9 f10 f11 f12 f13 f14 f15 f16 f17 f18 f19
  replace f1 := shm_107 f1
  replace f3 := shm_38 f3
  replace f4 := shm_107 f4
  replace f5 := shm_949 f5
  replace f6 := shm_962 f6
  replace f7 := shm_40 f7
  replace f11 := shm_942 f11
  replace f12 := shm_943 f12
  replace f14 := shm_964 f14
  replace f15 := shm_955 f15
  replace f16 := shm_5 f16
  replace f17 := shm_5 f17
  replace f18 := shm_5 f18
  have q5 : n_v vs 5 = n_v vs 0 := f16.symm
  have q6 : n_v vs 6 = n_v vs 1 := f17.symm
  have q7 : n_v vs 7 = n_v vs 2 := f18.symm
  simp only [q6, q5, q7] at f3 f5 f6 f7 f11 f12 f14 f15
  have ad_15 : v_ad (n_v vs 15) = w_ar ws (n_v vs 0) 91 := congrArg v_ad f5
  have ad_14 : v_ad (n_v vs 14) = w_ar ws (n_v vs 0) 90 := congrArg v_ad f6
  simp only [ad_14] at f1
  have h1 : v_iv (n_v vs 19) = w_ei ws (w_ar ws (n_v vs 0) 90) (v_iv (n_v vs 18)) := f1
  simp only [ad_15] at f4
  have h4 : v_iv (n_v vs 16) = w_ei ws (w_ar ws (n_v vs 0) 91) (v_iv (n_v vs 12)) := f4
  have kz_0_79 := fdq_147 hD hth r0
  have kz_0_80 := fdq_131 hD hth r0
  have kz_0_81 := fdq_124 hD hth r0
  have hrf0 : 0 ≤ v_iv (n_v vs 20) ∧ v_iv (n_v vs 20) ≤ 410000000 := vc_Mo_augment_24_r0 (v_iv (n_v vs 1)) (v_iv (n_v vs 2)) (v_iv (n_v vs 4)) (v_iv (n_v vs 10)) (v_iv (n_v vs 11)) (v_iv (n_v vs 12)) (v_iv (n_v vs 13)) (v_iv (n_v vs 16)) (v_iv (n_v vs 17)) (v_iv (n_v vs 18)) (v_iv (n_v vs 19)) (v_iv (n_v vs 20)) (w_ei ws (w_ar ws (n_v vs 0) 90)) (w_ei ws (w_ar ws (n_v vs 0) 91)) (w_fi ws (n_v vs 0) 79) (w_ei ws (w_ar ws (n_v vs 0) 82)) (w_ei ws (w_ar ws (n_v vs 0) 83)) (w_ei ws (w_ar ws (n_v vs 0) 84)) (w_ei ws (w_ar ws (n_v vs 0) 85)) (w_ei ws (w_ar ws (n_v vs 0) 86)) (w_ei ws (w_ar ws (n_v vs 0) 87)) (w_ei ws (w_ar ws (n_v vs 0) 88)) (w_ei ws (w_ar ws (n_v vs 0) 89)) (w_fi ws (n_v vs 0) 80) (w_fi ws (n_v vs 0) 81) (w_ei ws (w_ar ws (n_v vs 0) 92)) k1 k2 k4 k10 k11 k12 k13 k16 k17 k18 k19 k20 (shm_14 f0) h1 (shm_12 f2) f3 h4 f7 f11 f12 f14 f15 kz_0_79 kz_0_80 kz_0_81
  have rf20 : tv_ok ta (0, 0, 410000000, []) (n_v vs 20) := tv_in t20 (by first | omega | grind) (by first | omega | grind)
  refine ⟨List.forall_mem_cons.mpr ⟨rf20, (fun _ h => (by cases h))⟩, [], trivial, ?_, (fun _ h => (by cases h))⟩
  rw [List.append_nil]
  exact (fun _ h => (by cases h))
set_option maxHeartbeats 4000000 in
theorem vc_Mo_augment_25_r0 (x1 : Int) (x2 : Int) (x10 : Int) (x12 : Int) (x13 : Int) (x16 : Int) (x22 : Int) (cameBy_0 : Int → Int) (pointMany_0 : Int) (queue_0 : Int → Int) (cameBy_1 : Int → Int) (pointMany_1 : Int) (spot_1 : Int → Int) (costA_1 : Int → Int) (costB_1 : Int → Int) (costW_1 : Int → Int) (costPlain_1 : Int → Int) (apartA_1 : Int → Int) (apartB_1 : Int → Int) (apart_1 : Int → Int) (costMany_1 : Int) (apartMany_1 : Int) (queue_1 : Int → Int) (costMany_0 : Int) (apartMany_0 : Int) (spot_0 : Int → Int) (costA_0 : Int → Int) (costB_0 : Int → Int) (costW_0 : Int → Int) (costPlain_0 : Int → Int) (apartA_0 : Int → Int) (apartB_0 : Int → Int) (apart_0 : Int → Int) (k1 : 2 ≤ x1 ∧ x1 ≤ 78) (k2 : 0 ≤ x2 ∧ x2 ≤ 76) (k10 : 1 ≤ x10 ∧ x10 ≤ 79) (k12 : 0 ≤ x12 ∧ x12 ≤ 77) (k13 : (-2) ≤ x13 ∧ x13 ≤ 80) (k16 : 0 ≤ x16 ∧ x16 ≤ 77) (k22 : (-1) ≤ x22 ∧ x22 ≤ 77) (h0 : x22 = cameBy_0 (x12)) (h20 : x16 = cameBy_1 (x12)) (f21 : x12 ≠ x2) (f29 : AUW (queue_1) (cameBy_1) (x1) (x2) (x10) (x12) (x13)) (fe_0_79_1 : pointMany_0 = pointMany_1) (fe_0_80_1 : costMany_0 = costMany_1) (fe_0_81_1 : apartMany_0 = apartMany_1) (hE_0_82_1 : ∀ j : Int, spot_0 j = spot_1 j) (hE_0_83_1 : ∀ j : Int, costA_0 j = costA_1 j) (hE_0_84_1 : ∀ j : Int, costB_0 j = costB_1 j) (hE_0_85_1 : ∀ j : Int, costW_0 j = costW_1 j) (hE_0_86_1 : ∀ j : Int, costPlain_0 j = costPlain_1 j) (hE_0_87_1 : ∀ j : Int, apartA_0 j = apartA_1 j) (hE_0_88_1 : ∀ j : Int, apartB_0 j = apartB_1 j) (hE_0_89_1 : ∀ j : Int, apart_0 j = apart_1 j) (hE_0_91_1 : ∀ j : Int, cameBy_0 j = cameBy_1 j) (hE_0_92_1 : ∀ j : Int, queue_0 j = queue_1 j) (kz_0_79 : 0 ≤ pointMany_0 ∧ pointMany_0 ≤ 76) (kz_0_80 : 0 ≤ costMany_0 ∧ costMany_0 ≤ 200) (kz_0_81 : 0 ≤ apartMany_0 ∧ apartMany_0 ≤ 200) : 0 ≤ x22 ∧ x22 ≤ 77 := by
  subst fe_0_79_1
  subst fe_0_80_1
  subst fe_0_81_1
  have e_hE_0_82_1 := funext hE_0_82_1; subst e_hE_0_82_1
  have e_hE_0_83_1 := funext hE_0_83_1; subst e_hE_0_83_1
  have e_hE_0_84_1 := funext hE_0_84_1; subst e_hE_0_84_1
  have e_hE_0_85_1 := funext hE_0_85_1; subst e_hE_0_85_1
  have e_hE_0_86_1 := funext hE_0_86_1; subst e_hE_0_86_1
  have e_hE_0_87_1 := funext hE_0_87_1; subst e_hE_0_87_1
  have e_hE_0_88_1 := funext hE_0_88_1; subst e_hE_0_88_1
  have e_hE_0_89_1 := funext hE_0_89_1; subst e_hE_0_89_1
  have e_hE_0_91_1 := funext hE_0_91_1; subst e_hE_0_91_1
  have e_hE_0_92_1 := funext hE_0_92_1; subst e_hE_0_92_1
  have h := auw_step (g_zq := 80) ‹AUW _ _ _ _ _ _ _› (by omega) (by assumption) (by omega)
  omega
def o_Mo_augment_25 : or_T := (236, 23, [(0, (2, 0, 0, [165])), (1, (0, 2, 78, [])), (2, (0, 0, 76, [])), (3, (0, 1, 77, [])), (4, (0, -2, 180000001, [])), (5, (2, 0, 0, [165])), (6, (0, 2, 79, [])), (7, (0, 0, 76, [])), (8, (0, 1, 77, [])), (10, (0, 1, 79, [])), (11, (0, 0, 1000000, [])), (12, (0, 0, 77, [])), (13, (0, -2, 80, [])), (14, (2, 0, 0, [227])), (15, (2, 0, 0, [228])), (16, (0, 0, 77, [])), (17, (0, 0, 6083, [])), (18, (0, 0, 6083, [])), (19, (0, 0, 410000000, [])), (20, (0, 0, 410000000, [])), (21, (0, 0, 6083, [])), (22, (0, -1, 77, []))], [(10, [22, 15, 12], []), (9, [15, 5], [91]), (3, [21, 6, 12], []), (9, [14, 5], [90]), (20, [7, 6], [50, 0, 0, 0, 6, 4, 2, 1, 0, 0, 1, 1, 1]), (20, [8, 6], [50, 0, 0, 0, 6, 4, 2, 1, 0, 0, 1, 1, 1]), (20, [6], [50, 0, 0, 0, 2, 1, 0, 0, 78]), (20, [6, 5], [50, 1, 0, 1079, 1, 2, 1, 0, 4, 3, 2, 1, 79, 0, 2]), (20, [7, 5], [50, 1, 0, 1079, 1, 2, 1, 0, 2, 1, 79]), (20, [8, 5], [50, 1, 0, 1079, 1, 2, 1, 0, 4, 3, 2, 1, 79, 0, 1]), (20, [5, 6, 7, 10, 12, 13], [60, 0, 2, 394, 92, 91]), (24, [0, 5], []), (24, [1, 6], []), (24, [2, 7], []), (24, [3, 8], []), (100, [14, 18, 20], []), (2, [20, 19, 11], []), (10, [19, 14, 18], []), (1, [18, 17, 12], []), (3, [17, 6, 16], []), (10, [16, 15, 12], []), (7, [12, 7], [1]), (20, [7, 6], [50, 0, 0, 0, 6, 4, 2, 1, 0, 0, 1, 1, 1]), (20, [8, 6], [50, 0, 0, 0, 6, 4, 2, 1, 0, 0, 1, 1, 1]), (20, [6], [50, 0, 0, 0, 2, 1, 0, 0, 78]), (20, [6, 5], [50, 1, 0, 1079, 1, 2, 1, 0, 4, 3, 2, 1, 79, 0, 2]), (20, [7, 5], [50, 1, 0, 1079, 1, 2, 1, 0, 2, 1, 79]), (20, [8, 5], [50, 1, 0, 1079, 1, 2, 1, 0, 4, 3, 2, 1, 79, 0, 1]), (20, [5, 11, 12, 4], [60, 3, 10, 408, 79, 80, 81, 90, 91, 82, 83, 84, 85, 86, 87, 88, 89]), (20, [5, 6, 7, 10, 12, 13], [60, 0, 2, 394, 92, 91])], [(22, (0, 0, 77, []))], [], [], [], [(20, 19, -1000000, 0), (18, 12, 0, 6083), (18, 17, 0, 77), (1, 6, -4294967296, 0), (2, 7, -4294967296, 0), (3, 8, -4294967296, 0), (6, 1, -4294967296, 0), (7, 2, -4294967296, 0), (8, 3, -4294967296, 0)])
theorem oo_Mo_augment_25 {kA : Nat → ClassId} : or_ok PRD kA GG o_Mo_augment_25 := by
  refine or_mk fun A ta ws vs hD hth hl => ?_
  intro t0 r0 t1 k1 t2 k2 t3 k3 t4 k4 t5 r5 t6 k6 t7 k7 t8 k8 t10 k10 t11 k11 t12 k12 t13 k13 t14 r14 t15 r15 t16 k16 t17 k17 t18 k18 t19 k19 t20 k20 t21 k21 t22 k22 d0 d1 d2 d3 d4 d5 d6 d7 d8 f0 f1 f2 f3 f4 f5 f6 f7 f8 f9 f10 f11 f12 f13 f14 ta1 w1 le1 s1 f16 f17 f18 f19 f20 f21 f22 f23 f24 f25 f26 f27 f28 f29
  replace f0 := shm_107 f0
  replace f1 := shm_949 f1
  replace f11 := shm_5 f11
  replace f12 := shm_5 f12
  replace f13 := shm_5 f13
  have s1 : (∀ b j, w_el ws b j = if b = v_ad (n_v vs 14) ∧ j = (v_iv (n_v vs 18)).toNat then v_iv (n_v vs 20) else w_el w1 b j) ∧ ∀ b k, w_fd ws b k = w_fd w1 b k := s1.2
  replace f20 := shm_107 f20
  replace f21 := shm_40 f21
  replace f29 := shm_955 f29
  have q5 : n_v vs 5 = n_v vs 0 := f11.symm
  have q6 : n_v vs 6 = n_v vs 1 := f12.symm
  have q7 : n_v vs 7 = n_v vs 2 := f13.symm
  simp only [q5, q6, q7] at f1 f21 f29
  have ar_0_82_1 : w_ar w1 (n_v vs 0) 82 = w_ar ws (n_v vs 0) 82 := congrArg v_ad (s1.2 _ _).symm
  have cr_0_82 := fdq_230 hD hth r0
  have ar_0_83_1 : w_ar w1 (n_v vs 0) 83 = w_ar ws (n_v vs 0) 83 := congrArg v_ad (s1.2 _ _).symm
  have cr_0_83 := fdq_126 hD hth r0
  have ar_0_84_1 : w_ar w1 (n_v vs 0) 84 = w_ar ws (n_v vs 0) 84 := congrArg v_ad (s1.2 _ _).symm
  have cr_0_84 := fdq_127 hD hth r0
  have ar_0_85_1 : w_ar w1 (n_v vs 0) 85 = w_ar ws (n_v vs 0) 85 := congrArg v_ad (s1.2 _ _).symm
  have cr_0_85 := fdq_128 hD hth r0
  have ar_0_86_1 : w_ar w1 (n_v vs 0) 86 = w_ar ws (n_v vs 0) 86 := congrArg v_ad (s1.2 _ _).symm
  have cr_0_86 := fdq_129 hD hth r0
  have ar_0_87_1 : w_ar w1 (n_v vs 0) 87 = w_ar ws (n_v vs 0) 87 := congrArg v_ad (s1.2 _ _).symm
  have cr_0_87 := fdq_119 hD hth r0
  have ar_0_88_1 : w_ar w1 (n_v vs 0) 88 = w_ar ws (n_v vs 0) 88 := congrArg v_ad (s1.2 _ _).symm
  have cr_0_88 := fdq_120 hD hth r0
  have ar_0_89_1 : w_ar w1 (n_v vs 0) 89 = w_ar ws (n_v vs 0) 89 := congrArg v_ad (s1.2 _ _).symm
  have cr_0_89 := fdq_121 hD hth r0
  have ar_0_90_1 : w_ar w1 (n_v vs 0) 90 = w_ar ws (n_v vs 0) 90 := congrArg v_ad (s1.2 _ _).symm
  have ar_0_91_1 : w_ar w1 (n_v vs 0) 91 = w_ar ws (n_v vs 0) 91 := congrArg v_ad (s1.2 _ _).symm
  have cr_0_91 := fdq_232 hD hth r0
  have ar_0_92_1 : w_ar w1 (n_v vs 0) 92 = w_ar ws (n_v vs 0) 92 := congrArg v_ad (s1.2 _ _).symm
  have cr_0_92 := fdq_233 hD hth r0
  have ad_15 : v_ad (n_v vs 15) = w_ar ws (n_v vs 0) 91 := congrArg v_ad f1
  simp only [ad_15] at f0
  have h0 : v_iv (n_v vs 22) = w_ei ws (w_ar ws (n_v vs 0) 91) (v_iv (n_v vs 12)) := f0
  simp only [ad_15] at f20
  have h20 : v_iv (n_v vs 16) = w_ei w1 (w_ar ws (n_v vs 0) 91) (v_iv (n_v vs 12)) := f20
  simp only [ar_0_82_1, ar_0_83_1, ar_0_84_1, ar_0_85_1, ar_0_86_1, ar_0_87_1, ar_0_88_1, ar_0_89_1, ar_0_90_1, ar_0_91_1, ar_0_92_1] at f29
  have fe_0_79_1 : w_fi ws (n_v vs 0) 79 = w_fi w1 (n_v vs 0) 79 := congrArg v_iv (s1.2 _ _)
  have fe_0_80_1 : w_fi ws (n_v vs 0) 80 = w_fi w1 (n_v vs 0) 80 := congrArg v_iv (s1.2 _ _)
  have fe_0_81_1 : w_fi ws (n_v vs 0) 81 = w_fi w1 (n_v vs 0) 81 := congrArg v_iv (s1.2 _ _)
  have hE_0_82_1 : ∀ j : Int, w_ei ws (w_ar ws (n_v vs 0) 82) j = w_ei w1 (w_ar ws (n_v vs 0) 82) j := el_kp s1.1 r14 cr_0_82 (by decide)
  have hE_0_83_1 : ∀ j : Int, w_ei ws (w_ar ws (n_v vs 0) 83) j = w_ei w1 (w_ar ws (n_v vs 0) 83) j := el_kp s1.1 r14 cr_0_83 (by decide)
  have hE_0_84_1 : ∀ j : Int, w_ei ws (w_ar ws (n_v vs 0) 84) j = w_ei w1 (w_ar ws (n_v vs 0) 84) j := el_kp s1.1 r14 cr_0_84 (by decide)
  have hE_0_85_1 : ∀ j : Int, w_ei ws (w_ar ws (n_v vs 0) 85) j = w_ei w1 (w_ar ws (n_v vs 0) 85) j := el_kp s1.1 r14 cr_0_85 (by decide)
  have hE_0_86_1 : ∀ j : Int, w_ei ws (w_ar ws (n_v vs 0) 86) j = w_ei w1 (w_ar ws (n_v vs 0) 86) j := el_kp s1.1 r14 cr_0_86 (by decide)
  have hE_0_87_1 : ∀ j : Int, w_ei ws (w_ar ws (n_v vs 0) 87) j = w_ei w1 (w_ar ws (n_v vs 0) 87) j := el_kp s1.1 r14 cr_0_87 (by decide)
  have hE_0_88_1 : ∀ j : Int, w_ei ws (w_ar ws (n_v vs 0) 88) j = w_ei w1 (w_ar ws (n_v vs 0) 88) j := el_kp s1.1 r14 cr_0_88 (by decide)
  have hE_0_89_1 : ∀ j : Int, w_ei ws (w_ar ws (n_v vs 0) 89) j = w_ei w1 (w_ar ws (n_v vs 0) 89) j := el_kp s1.1 r14 cr_0_89 (by decide)
  have hE_0_91_1 : ∀ j : Int, w_ei ws (w_ar ws (n_v vs 0) 91) j = w_ei w1 (w_ar ws (n_v vs 0) 91) j := el_kp s1.1 r14 cr_0_91 (by decide)
  have hE_0_92_1 : ∀ j : Int, w_ei ws (w_ar ws (n_v vs 0) 92) j = w_ei w1 (w_ar ws (n_v vs 0) 92) j := el_kp s1.1 r14 cr_0_92 (by decide)
  have kz_0_79 := fdq_147 hD hth r0
  have kz_0_80 := fdq_131 hD hth r0
  have kz_0_81 := fdq_124 hD hth r0
  have hrf0 : 0 ≤ v_iv (n_v vs 22) ∧ v_iv (n_v vs 22) ≤ 77 := vc_Mo_augment_25_r0 (v_iv (n_v vs 1)) (v_iv (n_v vs 2)) (v_iv (n_v vs 10)) (v_iv (n_v vs 12)) (v_iv (n_v vs 13)) (v_iv (n_v vs 16)) (v_iv (n_v vs 22)) (w_ei ws (w_ar ws (n_v vs 0) 91)) (w_fi ws (n_v vs 0) 79) (w_ei ws (w_ar ws (n_v vs 0) 92)) (w_ei w1 (w_ar ws (n_v vs 0) 91)) (w_fi w1 (n_v vs 0) 79) (w_ei w1 (w_ar ws (n_v vs 0) 82)) (w_ei w1 (w_ar ws (n_v vs 0) 83)) (w_ei w1 (w_ar ws (n_v vs 0) 84)) (w_ei w1 (w_ar ws (n_v vs 0) 85)) (w_ei w1 (w_ar ws (n_v vs 0) 86)) (w_ei w1 (w_ar ws (n_v vs 0) 87)) (w_ei w1 (w_ar ws (n_v vs 0) 88)) (w_ei w1 (w_ar ws (n_v vs 0) 89)) (w_fi w1 (n_v vs 0) 80) (w_fi w1 (n_v vs 0) 81) (w_ei w1 (w_ar ws (n_v vs 0) 92)) (w_fi ws (n_v vs 0) 80) (w_fi ws (n_v vs 0) 81) (w_ei ws (w_ar ws (n_v vs 0) 82)) (w_ei ws (w_ar ws (n_v vs 0) 83)) (w_ei ws (w_ar ws (n_v vs 0) 84)) (w_ei ws (w_ar ws (n_v vs 0) 85)) (w_ei ws (w_ar ws (n_v vs 0) 86)) (w_ei ws (w_ar ws (n_v vs 0) 87)) (w_ei ws (w_ar ws (n_v vs 0) 88)) (w_ei ws (w_ar ws (n_v vs 0) 89)) k1 k2 k10 k12 k13 k16 k22 h0 h20 f21 f29 fe_0_79_1 fe_0_80_1 fe_0_81_1 hE_0_82_1 hE_0_83_1 hE_0_84_1 hE_0_85_1 hE_0_86_1 hE_0_87_1 hE_0_88_1 hE_0_89_1 hE_0_91_1 hE_0_92_1 kz_0_79 kz_0_80 kz_0_81
  have rf22 : tv_ok ta (0, 0, 77, []) (n_v vs 22) := tv_in t22 (by first | omega | grind) (by first | omega | grind)
  refine ⟨List.forall_mem_cons.mpr ⟨rf22, (fun _ h => (by cases h))⟩, [], trivial, ?_, (fun _ h => (by cases h))⟩
  rw [List.append_nil]
  exact (fun _ h => (by cases h))
set_option maxHeartbeats 4000000 in
theorem vc_Mo_augment_26_r0 (x1 : Int) (x2 : Int) (x3 : Int) (x6 : Int) (x8 : Int) (x10 : Int) (x12 : Int) (x13 : Int) (x16 : Int) (x17 : Int) (x18 : Int) (x21 : Int) (x22 : Int) (x23 : Int) (cameBy_0 : Int → Int) (pointMany_0 : Int) (queue_0 : Int → Int) (cameBy_1 : Int → Int) (pointMany_1 : Int) (spot_1 : Int → Int) (costA_1 : Int → Int) (costB_1 : Int → Int) (costW_1 : Int → Int) (costPlain_1 : Int → Int) (apartA_1 : Int → Int) (apartB_1 : Int → Int) (apart_1 : Int → Int) (costMany_1 : Int) (apartMany_1 : Int) (queue_1 : Int → Int) (costMany_0 : Int) (apartMany_0 : Int) (spot_0 : Int → Int) (costA_0 : Int → Int) (costB_0 : Int → Int) (costW_0 : Int → Int) (costPlain_0 : Int → Int) (apartA_0 : Int → Int) (apartB_0 : Int → Int) (apart_0 : Int → Int) (k1 : 2 ≤ x1 ∧ x1 ≤ 78) (k2 : 0 ≤ x2 ∧ x2 ≤ 76) (k3 : 1 ≤ x3 ∧ x3 ≤ 77) (k6 : 2 ≤ x6 ∧ x6 ≤ 79) (k8 : 1 ≤ x8 ∧ x8 ≤ 77) (k10 : 1 ≤ x10 ∧ x10 ≤ 79) (k12 : 0 ≤ x12 ∧ x12 ≤ 77) (k13 : (-2) ≤ x13 ∧ x13 ≤ 80) (k16 : 0 ≤ x16 ∧ x16 ≤ 77) (k17 : 0 ≤ x17 ∧ x17 ≤ 6083) (k18 : 0 ≤ x18 ∧ x18 ≤ 6083) (k21 : 0 ≤ x21 ∧ x21 ≤ 6083) (k22 : 0 ≤ x22 ∧ x22 ≤ 77) (k23 : 0 ≤ x23 ∧ x23 ≤ 6160) (d4 : x17 + 0 ≤ x18 ∧ x18 ≤ x17 + 77) (d5 : x6 + (-4294967296) ≤ x1 ∧ x1 ≤ x6 + 0) (d7 : x8 + (-4294967296) ≤ x3 ∧ x3 ≤ x8 + 0) (d8 : x1 + (-4294967296) ≤ x6 ∧ x6 ≤ x1 + 0) (d10 : x3 + (-4294967296) ≤ x8 ∧ x8 ≤ x3 + 0) (f0 : x23 = x21 + x22) (h1 : x22 = cameBy_0 (x12)) (f3 : x21 = x1 * x12) (f8 : x1 = (pointMany_0 + 2)) (f10 : x3 = (pointMany_0 + 1)) (f19 : x18 = x17 + x12) (f20 : x17 = x1 * x16) (h21 : x16 = cameBy_1 (x12)) (f25 : x1 ≤ 78) (f30 : AUW (queue_1) (cameBy_1) (x1) (x2) (x10) (x12) (x13)) (fe_0_79_1 : pointMany_0 = pointMany_1) (fe_0_80_1 : costMany_0 = costMany_1) (fe_0_81_1 : apartMany_0 = apartMany_1) (hE_0_82_1 : ∀ j : Int, spot_0 j = spot_1 j) (hE_0_83_1 : ∀ j : Int, costA_0 j = costA_1 j) (hE_0_84_1 : ∀ j : Int, costB_0 j = costB_1 j) (hE_0_85_1 : ∀ j : Int, costW_0 j = costW_1 j) (hE_0_86_1 : ∀ j : Int, costPlain_0 j = costPlain_1 j) (hE_0_87_1 : ∀ j : Int, apartA_0 j = apartA_1 j) (hE_0_88_1 : ∀ j : Int, apartB_0 j = apartB_1 j) (hE_0_89_1 : ∀ j : Int, apart_0 j = apart_1 j) (hE_0_91_1 : ∀ j : Int, cameBy_0 j = cameBy_1 j) (hE_0_92_1 : ∀ j : Int, queue_0 j = queue_1 j) (kz_0_79 : 0 ≤ pointMany_0 ∧ pointMany_0 ≤ 76) (kz_0_80 : 0 ≤ costMany_0 ∧ costMany_0 ≤ 200) (kz_0_81 : 0 ≤ apartMany_0 ∧ apartMany_0 ≤ 200) : 0 ≤ x23 ∧ x23 ≤ 6083 := by
  subst fe_0_79_1
  subst fe_0_80_1
  subst fe_0_81_1
  have e_hE_0_82_1 := funext hE_0_82_1; subst e_hE_0_82_1
  have e_hE_0_83_1 := funext hE_0_83_1; subst e_hE_0_83_1
  have e_hE_0_84_1 := funext hE_0_84_1; subst e_hE_0_84_1
  have e_hE_0_85_1 := funext hE_0_85_1; subst e_hE_0_85_1
  have e_hE_0_86_1 := funext hE_0_86_1; subst e_hE_0_86_1
  have e_hE_0_87_1 := funext hE_0_87_1; subst e_hE_0_87_1
  have e_hE_0_88_1 := funext hE_0_88_1; subst e_hE_0_88_1
  have e_hE_0_89_1 := funext hE_0_89_1; subst e_hE_0_89_1
  have e_hE_0_91_1 := funext hE_0_91_1; subst e_hE_0_91_1
  have e_hE_0_92_1 := funext hE_0_92_1; subst e_hE_0_92_1
  have h := auw_bd ‹AUW _ _ _ _ _ _ _›
  refine au_idx (by assumption) (by assumption) ?_ ?_ ?_ ?_ ?_ ?_ <;> omega
def o_Mo_augment_26 : or_T := (237, 24, [(0, (2, 0, 0, [165])), (1, (0, 2, 78, [])), (2, (0, 0, 76, [])), (3, (0, 1, 77, [])), (4, (0, -2, 180000001, [])), (5, (2, 0, 0, [165])), (6, (0, 2, 79, [])), (7, (0, 0, 76, [])), (8, (0, 1, 77, [])), (10, (0, 1, 79, [])), (11, (0, 0, 1000000, [])), (12, (0, 0, 77, [])), (13, (0, -2, 80, [])), (14, (2, 0, 0, [227])), (15, (2, 0, 0, [228])), (16, (0, 0, 77, [])), (17, (0, 0, 6083, [])), (18, (0, 0, 6083, [])), (19, (0, 0, 410000000, [])), (20, (0, 0, 410000000, [])), (21, (0, 0, 6083, [])), (22, (0, 0, 77, [])), (23, (0, 0, 6160, []))], [(1, [23, 21, 22], []), (10, [22, 15, 12], []), (9, [15, 5], [91]), (3, [21, 6, 12], []), (9, [14, 5], [90]), (20, [7, 6], [50, 0, 0, 0, 6, 4, 2, 1, 0, 0, 1, 1, 1]), (20, [8, 6], [50, 0, 0, 0, 6, 4, 2, 1, 0, 0, 1, 1, 1]), (20, [6], [50, 0, 0, 0, 2, 1, 0, 0, 78]), (20, [6, 5], [50, 1, 0, 1079, 1, 2, 1, 0, 4, 3, 2, 1, 79, 0, 2]), (20, [7, 5], [50, 1, 0, 1079, 1, 2, 1, 0, 2, 1, 79]), (20, [8, 5], [50, 1, 0, 1079, 1, 2, 1, 0, 4, 3, 2, 1, 79, 0, 1]), (20, [5, 6, 7, 10, 12, 13], [60, 0, 2, 394, 92, 91]), (24, [0, 5], []), (24, [1, 6], []), (24, [2, 7], []), (24, [3, 8], []), (100, [14, 18, 20], []), (2, [20, 19, 11], []), (10, [19, 14, 18], []), (1, [18, 17, 12], []), (3, [17, 6, 16], []), (10, [16, 15, 12], []), (7, [12, 7], [1]), (20, [7, 6], [50, 0, 0, 0, 6, 4, 2, 1, 0, 0, 1, 1, 1]), (20, [8, 6], [50, 0, 0, 0, 6, 4, 2, 1, 0, 0, 1, 1, 1]), (20, [6], [50, 0, 0, 0, 2, 1, 0, 0, 78]), (20, [6, 5], [50, 1, 0, 1079, 1, 2, 1, 0, 4, 3, 2, 1, 79, 0, 2]), (20, [7, 5], [50, 1, 0, 1079, 1, 2, 1, 0, 2, 1, 79]), (20, [8, 5], [50, 1, 0, 1079, 1, 2, 1, 0, 4, 3, 2, 1, 79, 0, 1]), (20, [5, 11, 12, 4], [60, 3, 10, 408, 79, 80, 81, 90, 91, 82, 83, 84, 85, 86, 87, 88, 89]), (20, [5, 6, 7, 10, 12, 13], [60, 0, 2, 394, 92, 91])], [(23, (0, 0, 6083, []))], [], [], [], [(23, 22, 0, 6083), (23, 21, 0, 77), (20, 19, -1000000, 0), (18, 12, 0, 6083), (18, 17, 0, 77), (1, 6, -4294967296, 0), (2, 7, -4294967296, 0), (3, 8, -4294967296, 0), (6, 1, -4294967296, 0), (7, 2, -4294967296, 0), (8, 3, -4294967296, 0)])
theorem oo_Mo_augment_26 {kA : Nat → ClassId} : or_ok PRD kA GG o_Mo_augment_26 := by
  refine or_mk fun A ta ws vs hD hth hl => ?_
  intro t0 r0 t1 k1 t2 k2 t3 k3 t4 k4 t5 r5 t6 k6 t7 k7 t8 k8 t10 k10 t11 k11 t12 k12 t13 k13 t14 r14 t15 r15 t16 k16 t17 k17 t18 k18 t19 k19 t20 k20 t21 k21 t22 k22 t23 k23 d0 d1 d2 d3 d4 d5 d6 d7 d8 d9 d10 f0 f1 f2 f3 f4 f5 f6 f7 f8 f9 f10 f11 f12 f13 f14 f15 ta1 w1 le1 s1 f17 f18 f19 f20 f21 f22 f23 f24 f25 f26 f27 f28 f29 f30
  replace f1 := shm_107 f1
  replace f2 := shm_949 f2
  replace f3 := shm_38 f3
  replace f8 := shm_942 f8
  replace f10 := shm_944 f10
  replace f12 := shm_5 f12
  replace f13 := shm_5 f13
  replace f14 := shm_5 f14
  replace f15 := shm_5 f15
  have s1 : (∀ b j, w_el ws b j = if b = v_ad (n_v vs 14) ∧ j = (v_iv (n_v vs 18)).toNat then v_iv (n_v vs 20) else w_el w1 b j) ∧ ∀ b k, w_fd ws b k = w_fd w1 b k := s1.2
  replace f20 := shm_38 f20
  replace f21 := shm_107 f21
  replace f25 := shm_941 f25
  replace f30 := shm_955 f30
  have q5 : n_v vs 5 = n_v vs 0 := f12.symm
  have q6 : n_v vs 6 = n_v vs 1 := f13.symm
  have q7 : n_v vs 7 = n_v vs 2 := f14.symm
  have q8 : n_v vs 8 = n_v vs 3 := f15.symm
  simp only [q5, q6, q7, q8] at f2 f3 f8 f10 f20 f25 f30
  have ar_0_82_1 : w_ar w1 (n_v vs 0) 82 = w_ar ws (n_v vs 0) 82 := congrArg v_ad (s1.2 _ _).symm
  have cr_0_82 := fdq_230 hD hth r0
  have ar_0_83_1 : w_ar w1 (n_v vs 0) 83 = w_ar ws (n_v vs 0) 83 := congrArg v_ad (s1.2 _ _).symm
  have cr_0_83 := fdq_126 hD hth r0
  have ar_0_84_1 : w_ar w1 (n_v vs 0) 84 = w_ar ws (n_v vs 0) 84 := congrArg v_ad (s1.2 _ _).symm
  have cr_0_84 := fdq_127 hD hth r0
  have ar_0_85_1 : w_ar w1 (n_v vs 0) 85 = w_ar ws (n_v vs 0) 85 := congrArg v_ad (s1.2 _ _).symm
  have cr_0_85 := fdq_128 hD hth r0
  have ar_0_86_1 : w_ar w1 (n_v vs 0) 86 = w_ar ws (n_v vs 0) 86 := congrArg v_ad (s1.2 _ _).symm
  have cr_0_86 := fdq_129 hD hth r0
  have ar_0_87_1 : w_ar w1 (n_v vs 0) 87 = w_ar ws (n_v vs 0) 87 := congrArg v_ad (s1.2 _ _).symm
  have cr_0_87 := fdq_119 hD hth r0
  have ar_0_88_1 : w_ar w1 (n_v vs 0) 88 = w_ar ws (n_v vs 0) 88 := congrArg v_ad (s1.2 _ _).symm
  have cr_0_88 := fdq_120 hD hth r0
  have ar_0_89_1 : w_ar w1 (n_v vs 0) 89 = w_ar ws (n_v vs 0) 89 := congrArg v_ad (s1.2 _ _).symm
  have cr_0_89 := fdq_121 hD hth r0
  have ar_0_90_1 : w_ar w1 (n_v vs 0) 90 = w_ar ws (n_v vs 0) 90 := congrArg v_ad (s1.2 _ _).symm
  have ar_0_91_1 : w_ar w1 (n_v vs 0) 91 = w_ar ws (n_v vs 0) 91 := congrArg v_ad (s1.2 _ _).symm
  have cr_0_91 := fdq_232 hD hth r0
  have ar_0_92_1 : w_ar w1 (n_v vs 0) 92 = w_ar ws (n_v vs 0) 92 := congrArg v_ad (s1.2 _ _).symm
  have cr_0_92 := fdq_233 hD hth r0
  have ad_15 : v_ad (n_v vs 15) = w_ar ws (n_v vs 0) 91 := congrArg v_ad f2
  simp only [ad_15] at f1
  have h1 : v_iv (n_v vs 22) = w_ei ws (w_ar ws (n_v vs 0) 91) (v_iv (n_v vs 12)) := f1
  simp only [ad_15] at f21
  have h21 : v_iv (n_v vs 16) = w_ei w1 (w_ar ws (n_v vs 0) 91) (v_iv (n_v vs 12)) := f21
  simp only [ar_0_82_1, ar_0_83_1, ar_0_84_1, ar_0_85_1, ar_0_86_1, ar_0_87_1, ar_0_88_1, ar_0_89_1, ar_0_90_1, ar_0_91_1, ar_0_92_1] at f30
  have fe_0_79_1 : w_fi ws (n_v vs 0) 79 = w_fi w1 (n_v vs 0) 79 := congrArg v_iv (s1.2 _ _)
  have fe_0_80_1 : w_fi ws (n_v vs 0) 80 = w_fi w1 (n_v vs 0) 80 := congrArg v_iv (s1.2 _ _)
  have fe_0_81_1 : w_fi ws (n_v vs 0) 81 = w_fi w1 (n_v vs 0) 81 := congrArg v_iv (s1.2 _ _)
  have hE_0_82_1 : ∀ j : Int, w_ei ws (w_ar ws (n_v vs 0) 82) j = w_ei w1 (w_ar ws (n_v vs 0) 82) j := el_kp s1.1 r14 cr_0_82 (by decide)
  have hE_0_83_1 : ∀ j : Int, w_ei ws (w_ar ws (n_v vs 0) 83) j = w_ei w1 (w_ar ws (n_v vs 0) 83) j := el_kp s1.1 r14 cr_0_83 (by decide)
  have hE_0_84_1 : ∀ j : Int, w_ei ws (w_ar ws (n_v vs 0) 84) j = w_ei w1 (w_ar ws (n_v vs 0) 84) j := el_kp s1.1 r14 cr_0_84 (by decide)
  have hE_0_85_1 : ∀ j : Int, w_ei ws (w_ar ws (n_v vs 0) 85) j = w_ei w1 (w_ar ws (n_v vs 0) 85) j := el_kp s1.1 r14 cr_0_85 (by decide)
  have hE_0_86_1 : ∀ j : Int, w_ei ws (w_ar ws (n_v vs 0) 86) j = w_ei w1 (w_ar ws (n_v vs 0) 86) j := el_kp s1.1 r14 cr_0_86 (by decide)
  have hE_0_87_1 : ∀ j : Int, w_ei ws (w_ar ws (n_v vs 0) 87) j = w_ei w1 (w_ar ws (n_v vs 0) 87) j := el_kp s1.1 r14 cr_0_87 (by decide)
  have hE_0_88_1 : ∀ j : Int, w_ei ws (w_ar ws (n_v vs 0) 88) j = w_ei w1 (w_ar ws (n_v vs 0) 88) j := el_kp s1.1 r14 cr_0_88 (by decide)
  have hE_0_89_1 : ∀ j : Int, w_ei ws (w_ar ws (n_v vs 0) 89) j = w_ei w1 (w_ar ws (n_v vs 0) 89) j := el_kp s1.1 r14 cr_0_89 (by decide)
  have hE_0_91_1 : ∀ j : Int, w_ei ws (w_ar ws (n_v vs 0) 91) j = w_ei w1 (w_ar ws (n_v vs 0) 91) j := el_kp s1.1 r14 cr_0_91 (by decide)
  have hE_0_92_1 : ∀ j : Int, w_ei ws (w_ar ws (n_v vs 0) 92) j = w_ei w1 (w_ar ws (n_v vs 0) 92) j := el_kp s1.1 r14 cr_0_92 (by decide)
  have kz_0_79 := fdq_147 hD hth r0
  have kz_0_80 := fdq_131 hD hth r0
  have kz_0_81 := fdq_124 hD hth r0
  have hrf0 : 0 ≤ v_iv (n_v vs 23) ∧ v_iv (n_v vs 23) ≤ 6083 := vc_Mo_augment_26_r0 (v_iv (n_v vs 1)) (v_iv (n_v vs 2)) (v_iv (n_v vs 3)) (v_iv (n_v vs 6)) (v_iv (n_v vs 8)) (v_iv (n_v vs 10)) (v_iv (n_v vs 12)) (v_iv (n_v vs 13)) (v_iv (n_v vs 16)) (v_iv (n_v vs 17)) (v_iv (n_v vs 18)) (v_iv (n_v vs 21)) (v_iv (n_v vs 22)) (v_iv (n_v vs 23)) (w_ei ws (w_ar ws (n_v vs 0) 91)) (w_fi ws (n_v vs 0) 79) (w_ei ws (w_ar ws (n_v vs 0) 92)) (w_ei w1 (w_ar ws (n_v vs 0) 91)) (w_fi w1 (n_v vs 0) 79) (w_ei w1 (w_ar ws (n_v vs 0) 82)) (w_ei w1 (w_ar ws (n_v vs 0) 83)) (w_ei w1 (w_ar ws (n_v vs 0) 84)) (w_ei w1 (w_ar ws (n_v vs 0) 85)) (w_ei w1 (w_ar ws (n_v vs 0) 86)) (w_ei w1 (w_ar ws (n_v vs 0) 87)) (w_ei w1 (w_ar ws (n_v vs 0) 88)) (w_ei w1 (w_ar ws (n_v vs 0) 89)) (w_fi w1 (n_v vs 0) 80) (w_fi w1 (n_v vs 0) 81) (w_ei w1 (w_ar ws (n_v vs 0) 92)) (w_fi ws (n_v vs 0) 80) (w_fi ws (n_v vs 0) 81) (w_ei ws (w_ar ws (n_v vs 0) 82)) (w_ei ws (w_ar ws (n_v vs 0) 83)) (w_ei ws (w_ar ws (n_v vs 0) 84)) (w_ei ws (w_ar ws (n_v vs 0) 85)) (w_ei ws (w_ar ws (n_v vs 0) 86)) (w_ei ws (w_ar ws (n_v vs 0) 87)) (w_ei ws (w_ar ws (n_v vs 0) 88)) (w_ei ws (w_ar ws (n_v vs 0) 89)) k1 k2 k3 k6 k8 k10 k12 k13 k16 k17 k18 k21 k22 k23 d4 d5 d7 d8 d10 (shm_12 f0) h1 f3 f8 f10 (shm_12 f19) f20 h21 f25 f30 fe_0_79_1 fe_0_80_1 fe_0_81_1 hE_0_82_1 hE_0_83_1 hE_0_84_1 hE_0_85_1 hE_0_86_1 hE_0_87_1 hE_0_88_1 hE_0_89_1 hE_0_91_1 hE_0_92_1 kz_0_79 kz_0_80 kz_0_81
  have rf23 : tv_ok ta (0, 0, 6083, []) (n_v vs 23) := tv_in t23 (by first | omega | grind) (by first | omega | grind)
  refine ⟨List.forall_mem_cons.mpr ⟨rf23, (fun _ h => (by cases h))⟩, [], trivial, ?_, (fun _ h => (by cases h))⟩
  rw [List.append_nil]
  exact (fun _ h => (by cases h))

set_option maxHeartbeats 4000000 in
theorem vc_Mo_augment_27_r0 (x1 : Int) (x2 : Int) (x4 : Int) (x10 : Int) (x11 : Int) (x12 : Int) (x13 : Int) (x16 : Int) (x17 : Int) (x18 : Int) (x19 : Int) (x20 : Int) (x21 : Int) (x22 : Int) (x23 : Int) (x24 : Int) (x25 : Int) (flow_0 : Int → Int) (cameBy_0 : Int → Int) (pointMany_0 : Int) (queue_0 : Int → Int) (flow_1 : Int → Int) (cameBy_1 : Int → Int) (pointMany_1 : Int) (spot_1 : Int → Int) (costA_1 : Int → Int) (costB_1 : Int → Int) (costW_1 : Int → Int) (costPlain_1 : Int → Int) (apartA_1 : Int → Int) (apartB_1 : Int → Int) (apart_1 : Int → Int) (costMany_1 : Int) (apartMany_1 : Int) (queue_1 : Int → Int) (costMany_0 : Int) (apartMany_0 : Int) (spot_0 : Int → Int) (costA_0 : Int → Int) (costB_0 : Int → Int) (costW_0 : Int → Int) (costPlain_0 : Int → Int) (apartA_0 : Int → Int) (apartB_0 : Int → Int) (apart_0 : Int → Int) (k1 : 2 ≤ x1 ∧ x1 ≤ 78) (k2 : 0 ≤ x2 ∧ x2 ≤ 76) (k4 : (-2) ≤ x4 ∧ x4 ≤ 180000001) (k10 : 1 ≤ x10 ∧ x10 ≤ 79) (k11 : 0 ≤ x11 ∧ x11 ≤ 1000000) (k12 : 0 ≤ x12 ∧ x12 ≤ 77) (k13 : (-2) ≤ x13 ∧ x13 ≤ 80) (k16 : 0 ≤ x16 ∧ x16 ≤ 77) (k17 : 0 ≤ x17 ∧ x17 ≤ 6083) (k18 : 0 ≤ x18 ∧ x18 ≤ 6083) (k19 : 0 ≤ x19 ∧ x19 ≤ 410000000) (k20 : 0 ≤ x20 ∧ x20 ≤ 410000000) (k21 : 0 ≤ x21 ∧ x21 ≤ 6083) (k22 : 0 ≤ x22 ∧ x22 ≤ 77) (k23 : 0 ≤ x23 ∧ x23 ≤ 6083) (k24 : 0 ≤ x24 ∧ x24 ≤ 410000000) (k25 : 0 ≤ x25 ∧ x25 ≤ 411000000) (f0 : x25 = x24 + x11) (h1 : x24 = flow_0 (x23)) (f2 : x23 = x21 + x22) (h3 : x22 = cameBy_0 (x12)) (f5 : x21 = x1 * x12) (f19 : x20 = x19 - x11) (h20 : x19 = flow_1 (x18)) (f21 : x18 = x17 + x12) (f22 : x17 = x1 * x16) (h23 : x16 = cameBy_1 (x12)) (f24 : x12 ≠ x2) (f28 : x1 = (pointMany_1 + 2)) (f29 : x2 = pointMany_1) (f31 : PSH (pointMany_1) (costMany_1) (apartMany_1) (flow_1) (cameBy_1) (spot_1) (costA_1) (costB_1) (costW_1) (costPlain_1) (apartA_1) (apartB_1) (apart_1) (x11) (x12) (x4)) (f32 : AUW (queue_1) (cameBy_1) (x1) (x2) (x10) (x12) (x13)) (fe_0_79_1 : pointMany_0 = pointMany_1) (fe_0_80_1 : costMany_0 = costMany_1) (fe_0_81_1 : apartMany_0 = apartMany_1) (hE_0_82_1 : ∀ j : Int, spot_0 j = spot_1 j) (hE_0_83_1 : ∀ j : Int, costA_0 j = costA_1 j) (hE_0_84_1 : ∀ j : Int, costB_0 j = costB_1 j) (hE_0_85_1 : ∀ j : Int, costW_0 j = costW_1 j) (hE_0_86_1 : ∀ j : Int, costPlain_0 j = costPlain_1 j) (hE_0_87_1 : ∀ j : Int, apartA_0 j = apartA_1 j) (hE_0_88_1 : ∀ j : Int, apartB_0 j = apartB_1 j) (hE_0_89_1 : ∀ j : Int, apart_0 j = apart_1 j) (hE_0_90_1 : ∀ j : Int, 0 ≤ j → (j = x18 → flow_0 j = x20) ∧ (j ≠ x18 → flow_0 j = flow_1 j)) (hE_0_91_1 : ∀ j : Int, cameBy_0 j = cameBy_1 j) (hE_0_92_1 : ∀ j : Int, queue_0 j = queue_1 j) (kz_0_79 : 0 ≤ pointMany_0 ∧ pointMany_0 ≤ 76) (kz_0_80 : 0 ≤ costMany_0 ∧ costMany_0 ≤ 200) (kz_0_81 : 0 ≤ apartMany_0 ∧ apartMany_0 ≤ 200) : 0 ≤ x25 ∧ x25 ≤ 410000000 := by
  subst fe_0_79_1
  subst fe_0_80_1
  subst fe_0_81_1
  have e_hE_0_82_1 := funext hE_0_82_1; subst e_hE_0_82_1
  have e_hE_0_83_1 := funext hE_0_83_1; subst e_hE_0_83_1
  have e_hE_0_84_1 := funext hE_0_84_1; subst e_hE_0_84_1
  have e_hE_0_85_1 := funext hE_0_85_1; subst e_hE_0_85_1
  have e_hE_0_86_1 := funext hE_0_86_1; subst e_hE_0_86_1
  have e_hE_0_87_1 := funext hE_0_87_1; subst e_hE_0_87_1
  have e_hE_0_88_1 := funext hE_0_88_1; subst e_hE_0_88_1
  have e_hE_0_89_1 := funext hE_0_89_1; subst e_hE_0_89_1
  have e_hE_0_91_1 := funext hE_0_91_1; subst e_hE_0_91_1
  have e_hE_0_92_1 := funext hE_0_92_1; subst e_hE_0_92_1
  exact psh_bdB (z := x16) (z2 := x22) ‹PSH _ _ _ _ _ _ _ _ _ _ _ _ _ _ _ _› ‹AUW _ _ _ _ _ _ _› (by omega) (by omega) (by assumption) (by assumption) (by omega) (by assumption) (by assumption) (by assumption) (by assumption) (by assumption) (by assumption) (by assumption) (by assumption) (by assumption)
def o_Mo_augment_27 : or_T := (242, 26, [(0, (2, 0, 0, [165])), (1, (0, 2, 78, [])), (2, (0, 0, 76, [])), (3, (0, 1, 77, [])), (4, (0, -2, 180000001, [])), (5, (2, 0, 0, [165])), (6, (0, 2, 79, [])), (7, (0, 0, 76, [])), (8, (0, 1, 77, [])), (10, (0, 1, 79, [])), (11, (0, 0, 1000000, [])), (12, (0, 0, 77, [])), (13, (0, -2, 80, [])), (14, (2, 0, 0, [227])), (15, (2, 0, 0, [228])), (16, (0, 0, 77, [])), (17, (0, 0, 6083, [])), (18, (0, 0, 6083, [])), (19, (0, 0, 410000000, [])), (20, (0, 0, 410000000, [])), (21, (0, 0, 6083, [])), (22, (0, 0, 77, [])), (23, (0, 0, 6083, [])), (24, (0, 0, 410000000, [])), (25, (0, 0, 411000000, []))], [(1, [25, 24, 11], []), (10, [24, 14, 23], []), (1, [23, 21, 22], []), (10, [22, 15, 12], []), (9, [15, 5], [91]), (3, [21, 6, 12], []), (9, [14, 5], [90]), (20, [7, 6], [50, 0, 0, 0, 6, 4, 2, 1, 0, 0, 1, 1, 1]), (20, [8, 6], [50, 0, 0, 0, 6, 4, 2, 1, 0, 0, 1, 1, 1]), (20, [6], [50, 0, 0, 0, 2, 1, 0, 0, 78]), (20, [6, 5], [50, 1, 0, 1079, 1, 2, 1, 0, 4, 3, 2, 1, 79, 0, 2]), (20, [7, 5], [50, 1, 0, 1079, 1, 2, 1, 0, 2, 1, 79]), (20, [8, 5], [50, 1, 0, 1079, 1, 2, 1, 0, 4, 3, 2, 1, 79, 0, 1]), (20, [5, 6, 7, 10, 12, 13], [60, 0, 2, 394, 92, 91]), (24, [0, 5], []), (24, [1, 6], []), (24, [2, 7], []), (24, [3, 8], []), (100, [14, 18, 20], []), (2, [20, 19, 11], []), (10, [19, 14, 18], []), (1, [18, 17, 12], []), (3, [17, 6, 16], []), (10, [16, 15, 12], []), (7, [12, 7], [1]), (20, [7, 6], [50, 0, 0, 0, 6, 4, 2, 1, 0, 0, 1, 1, 1]), (20, [8, 6], [50, 0, 0, 0, 6, 4, 2, 1, 0, 0, 1, 1, 1]), (20, [6], [50, 0, 0, 0, 2, 1, 0, 0, 78]), (20, [6, 5], [50, 1, 0, 1079, 1, 2, 1, 0, 4, 3, 2, 1, 79, 0, 2]), (20, [7, 5], [50, 1, 0, 1079, 1, 2, 1, 0, 2, 1, 79]), (20, [8, 5], [50, 1, 0, 1079, 1, 2, 1, 0, 4, 3, 2, 1, 79, 0, 1]), (20, [5, 11, 12, 4], [60, 3, 10, 408, 79, 80, 81, 90, 91, 82, 83, 84, 85, 86, 87, 88, 89]), (20, [5, 6, 7, 10, 12, 13], [60, 0, 2, 394, 92, 91])], [(25, (0, 0, 410000000, []))], [], [], [], [(25, 11, 0, 410000000), (25, 24, 0, 1000000), (23, 22, 0, 6083), (23, 21, 0, 77), (20, 19, -1000000, 0), (18, 12, 0, 6083), (18, 17, 0, 77), (1, 6, -4294967296, 0), (2, 7, -4294967296, 0), (3, 8, -4294967296, 0), (6, 1, -4294967296, 0), (7, 2, -4294967296, 0), (8, 3, -4294967296, 0)])
theorem oo_Mo_augment_27 {kA : Nat → ClassId} : or_ok PRD kA GG o_Mo_augment_27 := by
  refine or_mk fun A ta ws vs hD hth hl => ?_
  intro t0 r0 t1 k1 t2 k2 t3 k3 t4 k4 t5 r5 t6 k6 t7 k7 t8 k8 t10 k10 t11 k11 t12 k12 t13 k13 t14 r14 t15 r15 t16 k16 t17 k17 t18 k18 t19 k19 t20 k20 t21 k21 t22 k22 t23 k23 t24 k24 t25 k25 d0 d1 d2 d3 d4 d5 d6 d7 d8 d9 d10 d11 d12 f0 f1 f2 f3 f4 f5 f6 f7 f8 f9 f10 f11 f12 f13 f14 f15 f16 f17 ta1 w1 le1 s1 f19 f20 f21 f22 f23 f24 f25 f26 f27 f28 f29 f30 f31 f32
  replace f1 := shm_107 f1
  replace f3 := shm_107 f3
  replace f4 := shm_949 f4
  replace f5 := shm_38 f5
  replace f6 := shm_962 f6
  replace f14 := shm_5 f14
  replace f15 := shm_5 f15
  replace f16 := shm_5 f16
  have s1 : (∀ b j, w_el ws b j = if b = v_ad (n_v vs 14) ∧ j = (v_iv (n_v vs 18)).toNat then v_iv (n_v vs 20) else w_el w1 b j) ∧ ∀ b k, w_fd ws b k = w_fd w1 b k := s1.2
  replace f20 := shm_107 f20
  replace f22 := shm_38 f22
  replace f23 := shm_107 f23
  replace f24 := shm_40 f24
  replace f28 := shm_942 f28
  replace f29 := shm_943 f29
  replace f31 := shm_964 f31
  replace f32 := shm_955 f32
  have q5 : n_v vs 5 = n_v vs 0 := f14.symm
  have q6 : n_v vs 6 = n_v vs 1 := f15.symm
  have q7 : n_v vs 7 = n_v vs 2 := f16.symm
  simp only [q5, q6, q7] at f4 f5 f6 f22 f24 f28 f29 f31 f32
  have ar_0_82_1 : w_ar w1 (n_v vs 0) 82 = w_ar ws (n_v vs 0) 82 := congrArg v_ad (s1.2 _ _).symm
  have cr_0_82 := fdq_230 hD hth r0
  have ar_0_83_1 : w_ar w1 (n_v vs 0) 83 = w_ar ws (n_v vs 0) 83 := congrArg v_ad (s1.2 _ _).symm
  have cr_0_83 := fdq_126 hD hth r0
  have ar_0_84_1 : w_ar w1 (n_v vs 0) 84 = w_ar ws (n_v vs 0) 84 := congrArg v_ad (s1.2 _ _).symm
  have cr_0_84 := fdq_127 hD hth r0
  have ar_0_85_1 : w_ar w1 (n_v vs 0) 85 = w_ar ws (n_v vs 0) 85 := congrArg v_ad (s1.2 _ _).symm
  have cr_0_85 := fdq_128 hD hth r0
  have ar_0_86_1 : w_ar w1 (n_v vs 0) 86 = w_ar ws (n_v vs 0) 86 := congrArg v_ad (s1.2 _ _).symm
  have cr_0_86 := fdq_129 hD hth r0
  have ar_0_87_1 : w_ar w1 (n_v vs 0) 87 = w_ar ws (n_v vs 0) 87 := congrArg v_ad (s1.2 _ _).symm
  have cr_0_87 := fdq_119 hD hth r0
  have ar_0_88_1 : w_ar w1 (n_v vs 0) 88 = w_ar ws (n_v vs 0) 88 := congrArg v_ad (s1.2 _ _).symm
  have cr_0_88 := fdq_120 hD hth r0
  have ar_0_89_1 : w_ar w1 (n_v vs 0) 89 = w_ar ws (n_v vs 0) 89 := congrArg v_ad (s1.2 _ _).symm
  have cr_0_89 := fdq_121 hD hth r0
  have ar_0_90_1 : w_ar w1 (n_v vs 0) 90 = w_ar ws (n_v vs 0) 90 := congrArg v_ad (s1.2 _ _).symm
  have ar_0_91_1 : w_ar w1 (n_v vs 0) 91 = w_ar ws (n_v vs 0) 91 := congrArg v_ad (s1.2 _ _).symm
  have cr_0_91 := fdq_232 hD hth r0
  have ar_0_92_1 : w_ar w1 (n_v vs 0) 92 = w_ar ws (n_v vs 0) 92 := congrArg v_ad (s1.2 _ _).symm
  have cr_0_92 := fdq_233 hD hth r0
  have ad_15 : v_ad (n_v vs 15) = w_ar ws (n_v vs 0) 91 := congrArg v_ad f4
  have ad_14 : v_ad (n_v vs 14) = w_ar ws (n_v vs 0) 90 := congrArg v_ad f6
  simp only [ad_14] at f1
  have h1 : v_iv (n_v vs 24) = w_ei ws (w_ar ws (n_v vs 0) 90) (v_iv (n_v vs 23)) := f1
  simp only [ad_15] at f3
  have h3 : v_iv (n_v vs 22) = w_ei ws (w_ar ws (n_v vs 0) 91) (v_iv (n_v vs 12)) := f3
  simp only [ad_14] at f20
  have h20 : v_iv (n_v vs 19) = w_ei w1 (w_ar ws (n_v vs 0) 90) (v_iv (n_v vs 18)) := f20
  simp only [ad_15] at f23
  have h23 : v_iv (n_v vs 16) = w_ei w1 (w_ar ws (n_v vs 0) 91) (v_iv (n_v vs 12)) := f23
  simp only [ar_0_82_1, ar_0_83_1, ar_0_84_1, ar_0_85_1, ar_0_86_1, ar_0_87_1, ar_0_88_1, ar_0_89_1, ar_0_90_1, ar_0_91_1, ar_0_92_1] at f31 f32
  have fe_0_79_1 : w_fi ws (n_v vs 0) 79 = w_fi w1 (n_v vs 0) 79 := congrArg v_iv (s1.2 _ _)
  have fe_0_80_1 : w_fi ws (n_v vs 0) 80 = w_fi w1 (n_v vs 0) 80 := congrArg v_iv (s1.2 _ _)
  have fe_0_81_1 : w_fi ws (n_v vs 0) 81 = w_fi w1 (n_v vs 0) 81 := congrArg v_iv (s1.2 _ _)
  have hE_0_82_1 : ∀ j : Int, w_ei ws (w_ar ws (n_v vs 0) 82) j = w_ei w1 (w_ar ws (n_v vs 0) 82) j := el_kp s1.1 r14 cr_0_82 (by decide)
  have hE_0_83_1 : ∀ j : Int, w_ei ws (w_ar ws (n_v vs 0) 83) j = w_ei w1 (w_ar ws (n_v vs 0) 83) j := el_kp s1.1 r14 cr_0_83 (by decide)
  have hE_0_84_1 : ∀ j : Int, w_ei ws (w_ar ws (n_v vs 0) 84) j = w_ei w1 (w_ar ws (n_v vs 0) 84) j := el_kp s1.1 r14 cr_0_84 (by decide)
  have hE_0_85_1 : ∀ j : Int, w_ei ws (w_ar ws (n_v vs 0) 85) j = w_ei w1 (w_ar ws (n_v vs 0) 85) j := el_kp s1.1 r14 cr_0_85 (by decide)
  have hE_0_86_1 : ∀ j : Int, w_ei ws (w_ar ws (n_v vs 0) 86) j = w_ei w1 (w_ar ws (n_v vs 0) 86) j := el_kp s1.1 r14 cr_0_86 (by decide)
  have hE_0_87_1 : ∀ j : Int, w_ei ws (w_ar ws (n_v vs 0) 87) j = w_ei w1 (w_ar ws (n_v vs 0) 87) j := el_kp s1.1 r14 cr_0_87 (by decide)
  have hE_0_88_1 : ∀ j : Int, w_ei ws (w_ar ws (n_v vs 0) 88) j = w_ei w1 (w_ar ws (n_v vs 0) 88) j := el_kp s1.1 r14 cr_0_88 (by decide)
  have hE_0_89_1 : ∀ j : Int, w_ei ws (w_ar ws (n_v vs 0) 89) j = w_ei w1 (w_ar ws (n_v vs 0) 89) j := el_kp s1.1 r14 cr_0_89 (by decide)
  have hE_0_90_1 : ∀ j : Int, 0 ≤ j → (j = v_iv (n_v vs 18) → w_ei ws (w_ar ws (n_v vs 0) 90) j = v_iv (n_v vs 20)) ∧ (j ≠ v_iv (n_v vs 18) → w_ei ws (w_ar ws (n_v vs 0) 90) j = w_ei w1 (w_ar ws (n_v vs 0) 90) j) := fun j hj => ⟨fun h => by unfold w_ei; rw [s1.1, if_pos ⟨ad_14.symm, by rw [h]⟩], fun h => by unfold w_ei; rw [s1.1, if_neg (fun e => h (by have := e.2; omega))]⟩
  have hE_0_91_1 : ∀ j : Int, w_ei ws (w_ar ws (n_v vs 0) 91) j = w_ei w1 (w_ar ws (n_v vs 0) 91) j := el_kp s1.1 r14 cr_0_91 (by decide)
  have hE_0_92_1 : ∀ j : Int, w_ei ws (w_ar ws (n_v vs 0) 92) j = w_ei w1 (w_ar ws (n_v vs 0) 92) j := el_kp s1.1 r14 cr_0_92 (by decide)
  have kz_0_79 := fdq_147 hD hth r0
  have kz_0_80 := fdq_131 hD hth r0
  have kz_0_81 := fdq_124 hD hth r0
  have hrf0 : 0 ≤ v_iv (n_v vs 25) ∧ v_iv (n_v vs 25) ≤ 410000000 := vc_Mo_augment_27_r0 (v_iv (n_v vs 1)) (v_iv (n_v vs 2)) (v_iv (n_v vs 4)) (v_iv (n_v vs 10)) (v_iv (n_v vs 11)) (v_iv (n_v vs 12)) (v_iv (n_v vs 13)) (v_iv (n_v vs 16)) (v_iv (n_v vs 17)) (v_iv (n_v vs 18)) (v_iv (n_v vs 19)) (v_iv (n_v vs 20)) (v_iv (n_v vs 21)) (v_iv (n_v vs 22)) (v_iv (n_v vs 23)) (v_iv (n_v vs 24)) (v_iv (n_v vs 25)) (w_ei ws (w_ar ws (n_v vs 0) 90)) (w_ei ws (w_ar ws (n_v vs 0) 91)) (w_fi ws (n_v vs 0) 79) (w_ei ws (w_ar ws (n_v vs 0) 92)) (w_ei w1 (w_ar ws (n_v vs 0) 90)) (w_ei w1 (w_ar ws (n_v vs 0) 91)) (w_fi w1 (n_v vs 0) 79) (w_ei w1 (w_ar ws (n_v vs 0) 82)) (w_ei w1 (w_ar ws (n_v vs 0) 83)) (w_ei w1 (w_ar ws (n_v vs 0) 84)) (w_ei w1 (w_ar ws (n_v vs 0) 85)) (w_ei w1 (w_ar ws (n_v vs 0) 86)) (w_ei w1 (w_ar ws (n_v vs 0) 87)) (w_ei w1 (w_ar ws (n_v vs 0) 88)) (w_ei w1 (w_ar ws (n_v vs 0) 89)) (w_fi w1 (n_v vs 0) 80) (w_fi w1 (n_v vs 0) 81) (w_ei w1 (w_ar ws (n_v vs 0) 92)) (w_fi ws (n_v vs 0) 80) (w_fi ws (n_v vs 0) 81) (w_ei ws (w_ar ws (n_v vs 0) 82)) (w_ei ws (w_ar ws (n_v vs 0) 83)) (w_ei ws (w_ar ws (n_v vs 0) 84)) (w_ei ws (w_ar ws (n_v vs 0) 85)) (w_ei ws (w_ar ws (n_v vs 0) 86)) (w_ei ws (w_ar ws (n_v vs 0) 87)) (w_ei ws (w_ar ws (n_v vs 0) 88)) (w_ei ws (w_ar ws (n_v vs 0) 89)) k1 k2 k4 k10 k11 k12 k13 k16 k17 k18 k19 k20 k21 k22 k23 k24 k25 (shm_12 f0) h1 (shm_12 f2) h3 f5 (shm_14 f19) h20 (shm_12 f21) f22 h23 f24 f28 f29 f31 f32 fe_0_79_1 fe_0_80_1 fe_0_81_1 hE_0_82_1 hE_0_83_1 hE_0_84_1 hE_0_85_1 hE_0_86_1 hE_0_87_1 hE_0_88_1 hE_0_89_1 hE_0_90_1 hE_0_91_1 hE_0_92_1 kz_0_79 kz_0_80 kz_0_81
  have rf25 : tv_ok ta (0, 0, 410000000, []) (n_v vs 25) := tv_in t25 (by first | omega | grind) (by first | omega | grind)
  refine ⟨List.forall_mem_cons.mpr ⟨rf25, (fun _ h => (by cases h))⟩, [], trivial, ?_, (fun _ h => (by cases h))⟩
  rw [List.append_nil]
  exact (fun _ h => (by cases h))
set_option maxHeartbeats 4000000 in
theorem vc_Mo_augment_28_r0 (x1 : Int) (x2 : Int) (x10 : Int) (x12 : Int) (x13 : Int) (x16 : Int) (x26 : Int) (cameBy_0 : Int → Int) (pointMany_0 : Int) (queue_0 : Int → Int) (cameBy_1 : Int → Int) (pointMany_1 : Int) (queue_1 : Int → Int) (cameBy_2 : Int → Int) (pointMany_2 : Int) (spot_2 : Int → Int) (costA_2 : Int → Int) (costB_2 : Int → Int) (costW_2 : Int → Int) (costPlain_2 : Int → Int) (apartA_2 : Int → Int) (apartB_2 : Int → Int) (apart_2 : Int → Int) (costMany_2 : Int) (apartMany_2 : Int) (queue_2 : Int → Int) (costMany_0 : Int) (costMany_1 : Int) (apartMany_0 : Int) (apartMany_1 : Int) (spot_0 : Int → Int) (spot_1 : Int → Int) (costA_0 : Int → Int) (costA_1 : Int → Int) (costB_0 : Int → Int) (costB_1 : Int → Int) (costW_0 : Int → Int) (costW_1 : Int → Int) (costPlain_0 : Int → Int) (costPlain_1 : Int → Int) (apartA_0 : Int → Int) (apartA_1 : Int → Int) (apartB_0 : Int → Int) (apartB_1 : Int → Int) (apart_0 : Int → Int) (apart_1 : Int → Int) (k1 : 2 ≤ x1 ∧ x1 ≤ 78) (k2 : 0 ≤ x2 ∧ x2 ≤ 76) (k10 : 1 ≤ x10 ∧ x10 ≤ 79) (k12 : 0 ≤ x12 ∧ x12 ≤ 77) (k13 : (-2) ≤ x13 ∧ x13 ≤ 80) (k16 : 0 ≤ x16 ∧ x16 ≤ 77) (k26 : (-1) ≤ x26 ∧ x26 ≤ 77) (h0 : x26 = cameBy_0 (x12)) (h32 : x16 = cameBy_2 (x12)) (f33 : x12 ≠ x2) (f41 : AUW (queue_2) (cameBy_2) (x1) (x2) (x10) (x12) (x13)) (fe_0_79_1 : pointMany_0 = pointMany_1) (fe_0_80_1 : costMany_0 = costMany_1) (fe_0_81_1 : apartMany_0 = apartMany_1) (fe_0_79_2 : pointMany_1 = pointMany_2) (fe_0_80_2 : costMany_1 = costMany_2) (fe_0_81_2 : apartMany_1 = apartMany_2) (hE_0_82_1 : ∀ j : Int, spot_0 j = spot_1 j) (hE_0_82_2 : ∀ j : Int, spot_1 j = spot_2 j) (hE_0_83_1 : ∀ j : Int, costA_0 j = costA_1 j) (hE_0_83_2 : ∀ j : Int, costA_1 j = costA_2 j) (hE_0_84_1 : ∀ j : Int, costB_0 j = costB_1 j) (hE_0_84_2 : ∀ j : Int, costB_1 j = costB_2 j) (hE_0_85_1 : ∀ j : Int, costW_0 j = costW_1 j) (hE_0_85_2 : ∀ j : Int, costW_1 j = costW_2 j) (hE_0_86_1 : ∀ j : Int, costPlain_0 j = costPlain_1 j) (hE_0_86_2 : ∀ j : Int, costPlain_1 j = costPlain_2 j) (hE_0_87_1 : ∀ j : Int, apartA_0 j = apartA_1 j) (hE_0_87_2 : ∀ j : Int, apartA_1 j = apartA_2 j) (hE_0_88_1 : ∀ j : Int, apartB_0 j = apartB_1 j) (hE_0_88_2 : ∀ j : Int, apartB_1 j = apartB_2 j) (hE_0_89_1 : ∀ j : Int, apart_0 j = apart_1 j) (hE_0_89_2 : ∀ j : Int, apart_1 j = apart_2 j) (hE_0_91_1 : ∀ j : Int, cameBy_0 j = cameBy_1 j) (hE_0_91_2 : ∀ j : Int, cameBy_1 j = cameBy_2 j) (hE_0_92_1 : ∀ j : Int, queue_0 j = queue_1 j) (hE_0_92_2 : ∀ j : Int, queue_1 j = queue_2 j) (kz_0_79 : 0 ≤ pointMany_0 ∧ pointMany_0 ≤ 76) (kz_0_80 : 0 ≤ costMany_0 ∧ costMany_0 ≤ 200) (kz_0_81 : 0 ≤ apartMany_0 ∧ apartMany_0 ≤ 200) : 0 ≤ x26 ∧ x26 ≤ 77 := by
  subst fe_0_79_1
  subst fe_0_80_1
  subst fe_0_81_1
  subst fe_0_79_2
  subst fe_0_80_2
  subst fe_0_81_2
  have e_hE_0_82_1 := funext hE_0_82_1; subst e_hE_0_82_1
  have e_hE_0_82_2 := funext hE_0_82_2; subst e_hE_0_82_2
  have e_hE_0_83_1 := funext hE_0_83_1; subst e_hE_0_83_1
  have e_hE_0_83_2 := funext hE_0_83_2; subst e_hE_0_83_2
  have e_hE_0_84_1 := funext hE_0_84_1; subst e_hE_0_84_1
  have e_hE_0_84_2 := funext hE_0_84_2; subst e_hE_0_84_2
  have e_hE_0_85_1 := funext hE_0_85_1; subst e_hE_0_85_1
  have e_hE_0_85_2 := funext hE_0_85_2; subst e_hE_0_85_2
  have e_hE_0_86_1 := funext hE_0_86_1; subst e_hE_0_86_1
  have e_hE_0_86_2 := funext hE_0_86_2; subst e_hE_0_86_2
  have e_hE_0_87_1 := funext hE_0_87_1; subst e_hE_0_87_1
  have e_hE_0_87_2 := funext hE_0_87_2; subst e_hE_0_87_2
  have e_hE_0_88_1 := funext hE_0_88_1; subst e_hE_0_88_1
  have e_hE_0_88_2 := funext hE_0_88_2; subst e_hE_0_88_2
  have e_hE_0_89_1 := funext hE_0_89_1; subst e_hE_0_89_1
  have e_hE_0_89_2 := funext hE_0_89_2; subst e_hE_0_89_2
  have e_hE_0_91_1 := funext hE_0_91_1; subst e_hE_0_91_1
  have e_hE_0_91_2 := funext hE_0_91_2; subst e_hE_0_91_2
  have e_hE_0_92_1 := funext hE_0_92_1; subst e_hE_0_92_1
  have e_hE_0_92_2 := funext hE_0_92_2; subst e_hE_0_92_2
  have h := auw_step (g_zq := 80) ‹AUW _ _ _ _ _ _ _› (by omega) (by assumption) (by omega)
  omega
def o_Mo_augment_28 : or_T := (250, 27, [(0, (2, 0, 0, [165])), (1, (0, 2, 78, [])), (2, (0, 0, 76, [])), (3, (0, 1, 77, [])), (4, (0, -2, 180000001, [])), (5, (2, 0, 0, [165])), (6, (0, 2, 79, [])), (7, (0, 0, 76, [])), (8, (0, 1, 77, [])), (10, (0, 1, 79, [])), (11, (0, 0, 1000000, [])), (12, (0, 0, 77, [])), (13, (0, -2, 80, [])), (14, (2, 0, 0, [227])), (15, (2, 0, 0, [228])), (16, (0, 0, 77, [])), (17, (0, 0, 6083, [])), (18, (0, 0, 6083, [])), (19, (0, 0, 410000000, [])), (20, (0, 0, 410000000, [])), (21, (0, 0, 6083, [])), (22, (0, 0, 77, [])), (23, (0, 0, 6083, [])), (24, (0, 0, 410000000, [])), (25, (0, 0, 410000000, [])), (26, (0, -1, 77, []))], [(10, [26, 15, 12], []), (9, [15, 5], [91]), (20, [7, 6], [50, 0, 0, 0, 6, 4, 2, 1, 0, 0, 1, 1, 1]), (20, [8, 6], [50, 0, 0, 0, 6, 4, 2, 1, 0, 0, 1, 1, 1]), (20, [6], [50, 0, 0, 0, 2, 1, 0, 0, 78]), (20, [6, 5], [50, 1, 0, 1079, 1, 2, 1, 0, 4, 3, 2, 1, 79, 0, 2]), (20, [7, 5], [50, 1, 0, 1079, 1, 2, 1, 0, 2, 1, 79]), (20, [8, 5], [50, 1, 0, 1079, 1, 2, 1, 0, 4, 3, 2, 1, 79, 0, 1]), (20, [5, 6, 7, 10, 12, 13], [60, 0, 2, 394, 92, 91]), (24, [0, 5], []), (24, [1, 6], []), (24, [2, 7], []), (24, [3, 8], []), (100, [14, 23, 25], []), (1, [25, 24, 11], []), (10, [24, 14, 23], []), (1, [23, 21, 22], []), (10, [22, 15, 12], []), (3, [21, 6, 12], []), (9, [14, 5], [90]), (20, [7, 6], [50, 0, 0, 0, 6, 4, 2, 1, 0, 0, 1, 1, 1]), (20, [8, 6], [50, 0, 0, 0, 6, 4, 2, 1, 0, 0, 1, 1, 1]), (20, [6], [50, 0, 0, 0, 2, 1, 0, 0, 78]), (20, [6, 5], [50, 1, 0, 1079, 1, 2, 1, 0, 4, 3, 2, 1, 79, 0, 2]), (20, [7, 5], [50, 1, 0, 1079, 1, 2, 1, 0, 2, 1, 79]), (20, [8, 5], [50, 1, 0, 1079, 1, 2, 1, 0, 4, 3, 2, 1, 79, 0, 1]), (20, [5, 6, 7, 10, 12, 13], [60, 0, 2, 394, 92, 91]), (100, [14, 18, 20], []), (2, [20, 19, 11], []), (10, [19, 14, 18], []), (1, [18, 17, 12], []), (3, [17, 6, 16], []), (10, [16, 15, 12], []), (7, [12, 7], [1]), (20, [7, 6], [50, 0, 0, 0, 6, 4, 2, 1, 0, 0, 1, 1, 1]), (20, [8, 6], [50, 0, 0, 0, 6, 4, 2, 1, 0, 0, 1, 1, 1]), (20, [6], [50, 0, 0, 0, 2, 1, 0, 0, 78]), (20, [6, 5], [50, 1, 0, 1079, 1, 2, 1, 0, 4, 3, 2, 1, 79, 0, 2]), (20, [7, 5], [50, 1, 0, 1079, 1, 2, 1, 0, 2, 1, 79]), (20, [8, 5], [50, 1, 0, 1079, 1, 2, 1, 0, 4, 3, 2, 1, 79, 0, 1]), (20, [5, 11, 12, 4], [60, 3, 10, 408, 79, 80, 81, 90, 91, 82, 83, 84, 85, 86, 87, 88, 89]), (20, [5, 6, 7, 10, 12, 13], [60, 0, 2, 394, 92, 91])], [(26, (0, 0, 77, []))], [], [], [], [(25, 11, 0, 410000000), (25, 24, 0, 1000000), (23, 22, 0, 6083), (23, 21, 0, 77), (20, 19, -1000000, 0), (18, 12, 0, 6083), (18, 17, 0, 77), (1, 6, -4294967296, 0), (2, 7, -4294967296, 0), (3, 8, -4294967296, 0), (6, 1, -4294967296, 0), (7, 2, -4294967296, 0), (8, 3, -4294967296, 0)])
theorem oo_Mo_augment_28 {kA : Nat → ClassId} : or_ok PRD kA GG o_Mo_augment_28 := by
  refine or_mk fun A ta ws vs hD hth hl => ?_
  intro t0 r0 t1 k1 t2 k2 t3 k3 t4 k4 t5 r5 t6 k6 t7 k7 t8 k8 t10 k10 t11 k11 t12 k12 t13 k13 t14 r14 t15 r15 t16 k16 t17 k17 t18 k18 t19 k19 t20 k20 t21 k21 t22 k22 t23 k23 t24 k24 t25 k25 t26 k26 d0 d1 d2 d3 d4 d5 d6 d7 d8 d9 d10 d11 d12 f0 f1 f2 f3 f4 f5 f6 f7 f8 f9 f10 f11 f12 ta1 w1 le1 s1 f14 f15 f16 f17 f18 f19 f20 f21 f22 f23 f24 f25 f26 ta2 w2 le2 s2 f28 f29 f30 f31 f32 f33 f34 f35 f36 f37 f38 f39 f40 f41
  replace f0 := shm_107 f0
  replace f1 := shm_949 f1
  replace f9 := shm_5 f9
  replace f10 := shm_5 f10
  replace f11 := shm_5 f11
  have s1 : (∀ b j, w_el ws b j = if b = v_ad (n_v vs 14) ∧ j = (v_iv (n_v vs 23)).toNat then v_iv (n_v vs 25) else w_el w1 b j) ∧ ∀ b k, w_fd ws b k = w_fd w1 b k := s1.2
  have s2 : (∀ b j, w_el w1 b j = if b = v_ad (n_v vs 14) ∧ j = (v_iv (n_v vs 18)).toNat then v_iv (n_v vs 20) else w_el w2 b j) ∧ ∀ b k, w_fd w1 b k = w_fd w2 b k := s2.2
  replace f32 := shm_107 f32
  replace f33 := shm_40 f33
  replace f41 := shm_955 f41
  have q5 : n_v vs 5 = n_v vs 0 := f9.symm
  have q6 : n_v vs 6 = n_v vs 1 := f10.symm
  have q7 : n_v vs 7 = n_v vs 2 := f11.symm
  simp only [q5, q6, q7] at f1 f33 f41
  have ar_0_82_1 : w_ar w1 (n_v vs 0) 82 = w_ar ws (n_v vs 0) 82 := congrArg v_ad (s1.2 _ _).symm
  have ar_0_82_2 : w_ar w2 (n_v vs 0) 82 = w_ar ws (n_v vs 0) 82 := by rw [← ar_0_82_1]; show v_ad (w_fd w2 _ _) = v_ad (w_fd w1 _ _); rw [s2.2]
  have cr_0_82 := fdq_230 hD hth r0
  have ar_0_83_1 : w_ar w1 (n_v vs 0) 83 = w_ar ws (n_v vs 0) 83 := congrArg v_ad (s1.2 _ _).symm
  have ar_0_83_2 : w_ar w2 (n_v vs 0) 83 = w_ar ws (n_v vs 0) 83 := by rw [← ar_0_83_1]; show v_ad (w_fd w2 _ _) = v_ad (w_fd w1 _ _); rw [s2.2]
  have cr_0_83 := fdq_126 hD hth r0
  have ar_0_84_1 : w_ar w1 (n_v vs 0) 84 = w_ar ws (n_v vs 0) 84 := congrArg v_ad (s1.2 _ _).symm
  have ar_0_84_2 : w_ar w2 (n_v vs 0) 84 = w_ar ws (n_v vs 0) 84 := by rw [← ar_0_84_1]; show v_ad (w_fd w2 _ _) = v_ad (w_fd w1 _ _); rw [s2.2]
  have cr_0_84 := fdq_127 hD hth r0
  have ar_0_85_1 : w_ar w1 (n_v vs 0) 85 = w_ar ws (n_v vs 0) 85 := congrArg v_ad (s1.2 _ _).symm
  have ar_0_85_2 : w_ar w2 (n_v vs 0) 85 = w_ar ws (n_v vs 0) 85 := by rw [← ar_0_85_1]; show v_ad (w_fd w2 _ _) = v_ad (w_fd w1 _ _); rw [s2.2]
  have cr_0_85 := fdq_128 hD hth r0
  have ar_0_86_1 : w_ar w1 (n_v vs 0) 86 = w_ar ws (n_v vs 0) 86 := congrArg v_ad (s1.2 _ _).symm
  have ar_0_86_2 : w_ar w2 (n_v vs 0) 86 = w_ar ws (n_v vs 0) 86 := by rw [← ar_0_86_1]; show v_ad (w_fd w2 _ _) = v_ad (w_fd w1 _ _); rw [s2.2]
  have cr_0_86 := fdq_129 hD hth r0
  have ar_0_87_1 : w_ar w1 (n_v vs 0) 87 = w_ar ws (n_v vs 0) 87 := congrArg v_ad (s1.2 _ _).symm
  have ar_0_87_2 : w_ar w2 (n_v vs 0) 87 = w_ar ws (n_v vs 0) 87 := by rw [← ar_0_87_1]; show v_ad (w_fd w2 _ _) = v_ad (w_fd w1 _ _); rw [s2.2]
  have cr_0_87 := fdq_119 hD hth r0
  have ar_0_88_1 : w_ar w1 (n_v vs 0) 88 = w_ar ws (n_v vs 0) 88 := congrArg v_ad (s1.2 _ _).symm
  have ar_0_88_2 : w_ar w2 (n_v vs 0) 88 = w_ar ws (n_v vs 0) 88 := by rw [← ar_0_88_1]; show v_ad (w_fd w2 _ _) = v_ad (w_fd w1 _ _); rw [s2.2]
  have cr_0_88 := fdq_120 hD hth r0
  have ar_0_89_1 : w_ar w1 (n_v vs 0) 89 = w_ar ws (n_v vs 0) 89 := congrArg v_ad (s1.2 _ _).symm
  have ar_0_89_2 : w_ar w2 (n_v vs 0) 89 = w_ar ws (n_v vs 0) 89 := by rw [← ar_0_89_1]; show v_ad (w_fd w2 _ _) = v_ad (w_fd w1 _ _); rw [s2.2]
  have cr_0_89 := fdq_121 hD hth r0
  have ar_0_90_1 : w_ar w1 (n_v vs 0) 90 = w_ar ws (n_v vs 0) 90 := congrArg v_ad (s1.2 _ _).symm
  have ar_0_90_2 : w_ar w2 (n_v vs 0) 90 = w_ar ws (n_v vs 0) 90 := by rw [← ar_0_90_1]; show v_ad (w_fd w2 _ _) = v_ad (w_fd w1 _ _); rw [s2.2]
  have ar_0_91_1 : w_ar w1 (n_v vs 0) 91 = w_ar ws (n_v vs 0) 91 := congrArg v_ad (s1.2 _ _).symm
  have ar_0_91_2 : w_ar w2 (n_v vs 0) 91 = w_ar ws (n_v vs 0) 91 := by rw [← ar_0_91_1]; show v_ad (w_fd w2 _ _) = v_ad (w_fd w1 _ _); rw [s2.2]
  have cr_0_91 := fdq_232 hD hth r0
  have ar_0_92_1 : w_ar w1 (n_v vs 0) 92 = w_ar ws (n_v vs 0) 92 := congrArg v_ad (s1.2 _ _).symm
  have ar_0_92_2 : w_ar w2 (n_v vs 0) 92 = w_ar ws (n_v vs 0) 92 := by rw [← ar_0_92_1]; show v_ad (w_fd w2 _ _) = v_ad (w_fd w1 _ _); rw [s2.2]
  have cr_0_92 := fdq_233 hD hth r0
  have ad_15 : v_ad (n_v vs 15) = w_ar ws (n_v vs 0) 91 := congrArg v_ad f1
  simp only [ad_15] at f0
  have h0 : v_iv (n_v vs 26) = w_ei ws (w_ar ws (n_v vs 0) 91) (v_iv (n_v vs 12)) := f0
  simp only [ad_15] at f32
  have h32 : v_iv (n_v vs 16) = w_ei w2 (w_ar ws (n_v vs 0) 91) (v_iv (n_v vs 12)) := f32
  simp only [ar_0_82_2, ar_0_83_2, ar_0_84_2, ar_0_85_2, ar_0_86_2, ar_0_87_2, ar_0_88_2, ar_0_89_2, ar_0_90_2, ar_0_91_2, ar_0_92_2] at f41
  have fe_0_79_1 : w_fi ws (n_v vs 0) 79 = w_fi w1 (n_v vs 0) 79 := congrArg v_iv (s1.2 _ _)
  have fe_0_80_1 : w_fi ws (n_v vs 0) 80 = w_fi w1 (n_v vs 0) 80 := congrArg v_iv (s1.2 _ _)
  have fe_0_81_1 : w_fi ws (n_v vs 0) 81 = w_fi w1 (n_v vs 0) 81 := congrArg v_iv (s1.2 _ _)
  have fe_0_79_2 : w_fi w1 (n_v vs 0) 79 = w_fi w2 (n_v vs 0) 79 := congrArg v_iv (s2.2 _ _)
  have fe_0_80_2 : w_fi w1 (n_v vs 0) 80 = w_fi w2 (n_v vs 0) 80 := congrArg v_iv (s2.2 _ _)
  have fe_0_81_2 : w_fi w1 (n_v vs 0) 81 = w_fi w2 (n_v vs 0) 81 := congrArg v_iv (s2.2 _ _)
  have hE_0_82_1 : ∀ j : Int, w_ei ws (w_ar ws (n_v vs 0) 82) j = w_ei w1 (w_ar ws (n_v vs 0) 82) j := el_kp s1.1 r14 cr_0_82 (by decide)
  have hE_0_82_2 : ∀ j : Int, w_ei w1 (w_ar ws (n_v vs 0) 82) j = w_ei w2 (w_ar ws (n_v vs 0) 82) j := el_kp s2.1 r14 cr_0_82 (by decide)
  have hE_0_83_1 : ∀ j : Int, w_ei ws (w_ar ws (n_v vs 0) 83) j = w_ei w1 (w_ar ws (n_v vs 0) 83) j := el_kp s1.1 r14 cr_0_83 (by decide)
  have hE_0_83_2 : ∀ j : Int, w_ei w1 (w_ar ws (n_v vs 0) 83) j = w_ei w2 (w_ar ws (n_v vs 0) 83) j := el_kp s2.1 r14 cr_0_83 (by decide)
  have hE_0_84_1 : ∀ j : Int, w_ei ws (w_ar ws (n_v vs 0) 84) j = w_ei w1 (w_ar ws (n_v vs 0) 84) j := el_kp s1.1 r14 cr_0_84 (by decide)
  have hE_0_84_2 : ∀ j : Int, w_ei w1 (w_ar ws (n_v vs 0) 84) j = w_ei w2 (w_ar ws (n_v vs 0) 84) j := el_kp s2.1 r14 cr_0_84 (by decide)
  have hE_0_85_1 : ∀ j : Int, w_ei ws (w_ar ws (n_v vs 0) 85) j = w_ei w1 (w_ar ws (n_v vs 0) 85) j := el_kp s1.1 r14 cr_0_85 (by decide)
  have hE_0_85_2 : ∀ j : Int, w_ei w1 (w_ar ws (n_v vs 0) 85) j = w_ei w2 (w_ar ws (n_v vs 0) 85) j := el_kp s2.1 r14 cr_0_85 (by decide)
  have hE_0_86_1 : ∀ j : Int, w_ei ws (w_ar ws (n_v vs 0) 86) j = w_ei w1 (w_ar ws (n_v vs 0) 86) j := el_kp s1.1 r14 cr_0_86 (by decide)
  have hE_0_86_2 : ∀ j : Int, w_ei w1 (w_ar ws (n_v vs 0) 86) j = w_ei w2 (w_ar ws (n_v vs 0) 86) j := el_kp s2.1 r14 cr_0_86 (by decide)
  have hE_0_87_1 : ∀ j : Int, w_ei ws (w_ar ws (n_v vs 0) 87) j = w_ei w1 (w_ar ws (n_v vs 0) 87) j := el_kp s1.1 r14 cr_0_87 (by decide)
  have hE_0_87_2 : ∀ j : Int, w_ei w1 (w_ar ws (n_v vs 0) 87) j = w_ei w2 (w_ar ws (n_v vs 0) 87) j := el_kp s2.1 r14 cr_0_87 (by decide)
  have hE_0_88_1 : ∀ j : Int, w_ei ws (w_ar ws (n_v vs 0) 88) j = w_ei w1 (w_ar ws (n_v vs 0) 88) j := el_kp s1.1 r14 cr_0_88 (by decide)
  have hE_0_88_2 : ∀ j : Int, w_ei w1 (w_ar ws (n_v vs 0) 88) j = w_ei w2 (w_ar ws (n_v vs 0) 88) j := el_kp s2.1 r14 cr_0_88 (by decide)
  have hE_0_89_1 : ∀ j : Int, w_ei ws (w_ar ws (n_v vs 0) 89) j = w_ei w1 (w_ar ws (n_v vs 0) 89) j := el_kp s1.1 r14 cr_0_89 (by decide)
  have hE_0_89_2 : ∀ j : Int, w_ei w1 (w_ar ws (n_v vs 0) 89) j = w_ei w2 (w_ar ws (n_v vs 0) 89) j := el_kp s2.1 r14 cr_0_89 (by decide)
  have hE_0_91_1 : ∀ j : Int, w_ei ws (w_ar ws (n_v vs 0) 91) j = w_ei w1 (w_ar ws (n_v vs 0) 91) j := el_kp s1.1 r14 cr_0_91 (by decide)
  have hE_0_91_2 : ∀ j : Int, w_ei w1 (w_ar ws (n_v vs 0) 91) j = w_ei w2 (w_ar ws (n_v vs 0) 91) j := el_kp s2.1 r14 cr_0_91 (by decide)
  have hE_0_92_1 : ∀ j : Int, w_ei ws (w_ar ws (n_v vs 0) 92) j = w_ei w1 (w_ar ws (n_v vs 0) 92) j := el_kp s1.1 r14 cr_0_92 (by decide)
  have hE_0_92_2 : ∀ j : Int, w_ei w1 (w_ar ws (n_v vs 0) 92) j = w_ei w2 (w_ar ws (n_v vs 0) 92) j := el_kp s2.1 r14 cr_0_92 (by decide)
  have kz_0_79 := fdq_147 hD hth r0
  have kz_0_80 := fdq_131 hD hth r0
  have kz_0_81 := fdq_124 hD hth r0
  have hrf0 : 0 ≤ v_iv (n_v vs 26) ∧ v_iv (n_v vs 26) ≤ 77 := vc_Mo_augment_28_r0 (v_iv (n_v vs 1)) (v_iv (n_v vs 2)) (v_iv (n_v vs 10)) (v_iv (n_v vs 12)) (v_iv (n_v vs 13)) (v_iv (n_v vs 16)) (v_iv (n_v vs 26)) (w_ei ws (w_ar ws (n_v vs 0) 91)) (w_fi ws (n_v vs 0) 79) (w_ei ws (w_ar ws (n_v vs 0) 92)) (w_ei w1 (w_ar ws (n_v vs 0) 91)) (w_fi w1 (n_v vs 0) 79) (w_ei w1 (w_ar ws (n_v vs 0) 92)) (w_ei w2 (w_ar ws (n_v vs 0) 91)) (w_fi w2 (n_v vs 0) 79) (w_ei w2 (w_ar ws (n_v vs 0) 82)) (w_ei w2 (w_ar ws (n_v vs 0) 83)) (w_ei w2 (w_ar ws (n_v vs 0) 84)) (w_ei w2 (w_ar ws (n_v vs 0) 85)) (w_ei w2 (w_ar ws (n_v vs 0) 86)) (w_ei w2 (w_ar ws (n_v vs 0) 87)) (w_ei w2 (w_ar ws (n_v vs 0) 88)) (w_ei w2 (w_ar ws (n_v vs 0) 89)) (w_fi w2 (n_v vs 0) 80) (w_fi w2 (n_v vs 0) 81) (w_ei w2 (w_ar ws (n_v vs 0) 92)) (w_fi ws (n_v vs 0) 80) (w_fi w1 (n_v vs 0) 80) (w_fi ws (n_v vs 0) 81) (w_fi w1 (n_v vs 0) 81) (w_ei ws (w_ar ws (n_v vs 0) 82)) (w_ei w1 (w_ar ws (n_v vs 0) 82)) (w_ei ws (w_ar ws (n_v vs 0) 83)) (w_ei w1 (w_ar ws (n_v vs 0) 83)) (w_ei ws (w_ar ws (n_v vs 0) 84)) (w_ei w1 (w_ar ws (n_v vs 0) 84)) (w_ei ws (w_ar ws (n_v vs 0) 85)) (w_ei w1 (w_ar ws (n_v vs 0) 85)) (w_ei ws (w_ar ws (n_v vs 0) 86)) (w_ei w1 (w_ar ws (n_v vs 0) 86)) (w_ei ws (w_ar ws (n_v vs 0) 87)) (w_ei w1 (w_ar ws (n_v vs 0) 87)) (w_ei ws (w_ar ws (n_v vs 0) 88)) (w_ei w1 (w_ar ws (n_v vs 0) 88)) (w_ei ws (w_ar ws (n_v vs 0) 89)) (w_ei w1 (w_ar ws (n_v vs 0) 89)) k1 k2 k10 k12 k13 k16 k26 h0 h32 f33 f41 fe_0_79_1 fe_0_80_1 fe_0_81_1 fe_0_79_2 fe_0_80_2 fe_0_81_2 hE_0_82_1 hE_0_82_2 hE_0_83_1 hE_0_83_2 hE_0_84_1 hE_0_84_2 hE_0_85_1 hE_0_85_2 hE_0_86_1 hE_0_86_2 hE_0_87_1 hE_0_87_2 hE_0_88_1 hE_0_88_2 hE_0_89_1 hE_0_89_2 hE_0_91_1 hE_0_91_2 hE_0_92_1 hE_0_92_2 kz_0_79 kz_0_80 kz_0_81
  have rf26 : tv_ok ta (0, 0, 77, []) (n_v vs 26) := tv_in t26 (by first | omega | grind) (by first | omega | grind)
  refine ⟨List.forall_mem_cons.mpr ⟨rf26, (fun _ h => (by cases h))⟩, [], trivial, ?_, (fun _ h => (by cases h))⟩
  rw [List.append_nil]
  exact (fun _ h => (by cases h))
set_option maxHeartbeats 4000000 in
theorem vc_Mo_augment_29_0 (x1 : Int) (x2 : Int) (cameBy_0 : Int → Int) (pointMany_0 : Int) (queue_0 : Int → Int) (cameBy_1 : Int → Int) (pointMany_1 : Int) (queue_1 : Int → Int) (cameBy_2 : Int → Int) (pointMany_2 : Int) (spot_2 : Int → Int) (costA_2 : Int → Int) (costB_2 : Int → Int) (costW_2 : Int → Int) (costPlain_2 : Int → Int) (apartA_2 : Int → Int) (apartB_2 : Int → Int) (apart_2 : Int → Int) (costMany_2 : Int) (apartMany_2 : Int) (queue_2 : Int → Int) (costMany_0 : Int) (costMany_1 : Int) (apartMany_0 : Int) (apartMany_1 : Int) (spot_0 : Int → Int) (spot_1 : Int → Int) (costA_0 : Int → Int) (costA_1 : Int → Int) (costB_0 : Int → Int) (costB_1 : Int → Int) (costW_0 : Int → Int) (costW_1 : Int → Int) (costPlain_0 : Int → Int) (costPlain_1 : Int → Int) (apartA_0 : Int → Int) (apartA_1 : Int → Int) (apartB_0 : Int → Int) (apartB_1 : Int → Int) (apart_0 : Int → Int) (apart_1 : Int → Int) (k1 : 2 ≤ x1 ∧ x1 ≤ 78) (k2 : 0 ≤ x2 ∧ x2 ≤ 76) (f34 : (x2 + 1) ≤ x1) (fe_0_79_1 : pointMany_0 = pointMany_1) (fe_0_80_1 : costMany_0 = costMany_1) (fe_0_81_1 : apartMany_0 = apartMany_1) (fe_0_79_2 : pointMany_1 = pointMany_2) (fe_0_80_2 : costMany_1 = costMany_2) (fe_0_81_2 : apartMany_1 = apartMany_2) (hE_0_82_1 : ∀ j : Int, spot_0 j = spot_1 j) (hE_0_82_2 : ∀ j : Int, spot_1 j = spot_2 j) (hE_0_83_1 : ∀ j : Int, costA_0 j = costA_1 j) (hE_0_83_2 : ∀ j : Int, costA_1 j = costA_2 j) (hE_0_84_1 : ∀ j : Int, costB_0 j = costB_1 j) (hE_0_84_2 : ∀ j : Int, costB_1 j = costB_2 j) (hE_0_85_1 : ∀ j : Int, costW_0 j = costW_1 j) (hE_0_85_2 : ∀ j : Int, costW_1 j = costW_2 j) (hE_0_86_1 : ∀ j : Int, costPlain_0 j = costPlain_1 j) (hE_0_86_2 : ∀ j : Int, costPlain_1 j = costPlain_2 j) (hE_0_87_1 : ∀ j : Int, apartA_0 j = apartA_1 j) (hE_0_87_2 : ∀ j : Int, apartA_1 j = apartA_2 j) (hE_0_88_1 : ∀ j : Int, apartB_0 j = apartB_1 j) (hE_0_88_2 : ∀ j : Int, apartB_1 j = apartB_2 j) (hE_0_89_1 : ∀ j : Int, apart_0 j = apart_1 j) (hE_0_89_2 : ∀ j : Int, apart_1 j = apart_2 j) (hE_0_91_1 : ∀ j : Int, cameBy_0 j = cameBy_1 j) (hE_0_91_2 : ∀ j : Int, cameBy_1 j = cameBy_2 j) (hE_0_92_1 : ∀ j : Int, queue_0 j = queue_1 j) (hE_0_92_2 : ∀ j : Int, queue_1 j = queue_2 j) (kz_0_79 : 0 ≤ pointMany_0 ∧ pointMany_0 ≤ 76) (kz_0_80 : 0 ≤ costMany_0 ∧ costMany_0 ≤ 200) (kz_0_81 : 0 ≤ apartMany_0 ∧ apartMany_0 ≤ 200) : (x2 + 1) ≤ x1 := by
  subst fe_0_79_1
  subst fe_0_80_1
  subst fe_0_81_1
  subst fe_0_79_2
  subst fe_0_80_2
  subst fe_0_81_2
  have e_hE_0_82_1 := funext hE_0_82_1; subst e_hE_0_82_1
  have e_hE_0_82_2 := funext hE_0_82_2; subst e_hE_0_82_2
  have e_hE_0_83_1 := funext hE_0_83_1; subst e_hE_0_83_1
  have e_hE_0_83_2 := funext hE_0_83_2; subst e_hE_0_83_2
  have e_hE_0_84_1 := funext hE_0_84_1; subst e_hE_0_84_1
  have e_hE_0_84_2 := funext hE_0_84_2; subst e_hE_0_84_2
  have e_hE_0_85_1 := funext hE_0_85_1; subst e_hE_0_85_1
  have e_hE_0_85_2 := funext hE_0_85_2; subst e_hE_0_85_2
  have e_hE_0_86_1 := funext hE_0_86_1; subst e_hE_0_86_1
  have e_hE_0_86_2 := funext hE_0_86_2; subst e_hE_0_86_2
  have e_hE_0_87_1 := funext hE_0_87_1; subst e_hE_0_87_1
  have e_hE_0_87_2 := funext hE_0_87_2; subst e_hE_0_87_2
  have e_hE_0_88_1 := funext hE_0_88_1; subst e_hE_0_88_1
  have e_hE_0_88_2 := funext hE_0_88_2; subst e_hE_0_88_2
  have e_hE_0_89_1 := funext hE_0_89_1; subst e_hE_0_89_1
  have e_hE_0_89_2 := funext hE_0_89_2; subst e_hE_0_89_2
  have e_hE_0_91_1 := funext hE_0_91_1; subst e_hE_0_91_1
  have e_hE_0_91_2 := funext hE_0_91_2; subst e_hE_0_91_2
  have e_hE_0_92_1 := funext hE_0_92_1; subst e_hE_0_92_1
  have e_hE_0_92_2 := funext hE_0_92_2; subst e_hE_0_92_2
  first
    | omega
    | (have h := auw_step (g_zq := 80) ‹AUW _ _ _ _ _ _ _› (by omega) (by assumption) (by omega); omega)
set_option maxHeartbeats 4000000 in
theorem vc_Mo_augment_29_1 (x1 : Int) (x3 : Int) (cameBy_0 : Int → Int) (pointMany_0 : Int) (queue_0 : Int → Int) (cameBy_1 : Int → Int) (pointMany_1 : Int) (queue_1 : Int → Int) (cameBy_2 : Int → Int) (pointMany_2 : Int) (spot_2 : Int → Int) (costA_2 : Int → Int) (costB_2 : Int → Int) (costW_2 : Int → Int) (costPlain_2 : Int → Int) (apartA_2 : Int → Int) (apartB_2 : Int → Int) (apart_2 : Int → Int) (costMany_2 : Int) (apartMany_2 : Int) (queue_2 : Int → Int) (costMany_0 : Int) (costMany_1 : Int) (apartMany_0 : Int) (apartMany_1 : Int) (spot_0 : Int → Int) (spot_1 : Int → Int) (costA_0 : Int → Int) (costA_1 : Int → Int) (costB_0 : Int → Int) (costB_1 : Int → Int) (costW_0 : Int → Int) (costW_1 : Int → Int) (costPlain_0 : Int → Int) (costPlain_1 : Int → Int) (apartA_0 : Int → Int) (apartA_1 : Int → Int) (apartB_0 : Int → Int) (apartB_1 : Int → Int) (apart_0 : Int → Int) (apart_1 : Int → Int) (k1 : 2 ≤ x1 ∧ x1 ≤ 78) (k3 : 1 ≤ x3 ∧ x3 ≤ 77) (f35 : (x3 + 1) ≤ x1) (fe_0_79_1 : pointMany_0 = pointMany_1) (fe_0_80_1 : costMany_0 = costMany_1) (fe_0_81_1 : apartMany_0 = apartMany_1) (fe_0_79_2 : pointMany_1 = pointMany_2) (fe_0_80_2 : costMany_1 = costMany_2) (fe_0_81_2 : apartMany_1 = apartMany_2) (hE_0_82_1 : ∀ j : Int, spot_0 j = spot_1 j) (hE_0_82_2 : ∀ j : Int, spot_1 j = spot_2 j) (hE_0_83_1 : ∀ j : Int, costA_0 j = costA_1 j) (hE_0_83_2 : ∀ j : Int, costA_1 j = costA_2 j) (hE_0_84_1 : ∀ j : Int, costB_0 j = costB_1 j) (hE_0_84_2 : ∀ j : Int, costB_1 j = costB_2 j) (hE_0_85_1 : ∀ j : Int, costW_0 j = costW_1 j) (hE_0_85_2 : ∀ j : Int, costW_1 j = costW_2 j) (hE_0_86_1 : ∀ j : Int, costPlain_0 j = costPlain_1 j) (hE_0_86_2 : ∀ j : Int, costPlain_1 j = costPlain_2 j) (hE_0_87_1 : ∀ j : Int, apartA_0 j = apartA_1 j) (hE_0_87_2 : ∀ j : Int, apartA_1 j = apartA_2 j) (hE_0_88_1 : ∀ j : Int, apartB_0 j = apartB_1 j) (hE_0_88_2 : ∀ j : Int, apartB_1 j = apartB_2 j) (hE_0_89_1 : ∀ j : Int, apart_0 j = apart_1 j) (hE_0_89_2 : ∀ j : Int, apart_1 j = apart_2 j) (hE_0_91_1 : ∀ j : Int, cameBy_0 j = cameBy_1 j) (hE_0_91_2 : ∀ j : Int, cameBy_1 j = cameBy_2 j) (hE_0_92_1 : ∀ j : Int, queue_0 j = queue_1 j) (hE_0_92_2 : ∀ j : Int, queue_1 j = queue_2 j) (kz_0_79 : 0 ≤ pointMany_0 ∧ pointMany_0 ≤ 76) (kz_0_80 : 0 ≤ costMany_0 ∧ costMany_0 ≤ 200) (kz_0_81 : 0 ≤ apartMany_0 ∧ apartMany_0 ≤ 200) : (x3 + 1) ≤ x1 := by
  subst fe_0_79_1
  subst fe_0_80_1
  subst fe_0_81_1
  subst fe_0_79_2
  subst fe_0_80_2
  subst fe_0_81_2
  have e_hE_0_82_1 := funext hE_0_82_1; subst e_hE_0_82_1
  have e_hE_0_82_2 := funext hE_0_82_2; subst e_hE_0_82_2
  have e_hE_0_83_1 := funext hE_0_83_1; subst e_hE_0_83_1
  have e_hE_0_83_2 := funext hE_0_83_2; subst e_hE_0_83_2
  have e_hE_0_84_1 := funext hE_0_84_1; subst e_hE_0_84_1
  have e_hE_0_84_2 := funext hE_0_84_2; subst e_hE_0_84_2
  have e_hE_0_85_1 := funext hE_0_85_1; subst e_hE_0_85_1
  have e_hE_0_85_2 := funext hE_0_85_2; subst e_hE_0_85_2
  have e_hE_0_86_1 := funext hE_0_86_1; subst e_hE_0_86_1
  have e_hE_0_86_2 := funext hE_0_86_2; subst e_hE_0_86_2
  have e_hE_0_87_1 := funext hE_0_87_1; subst e_hE_0_87_1
  have e_hE_0_87_2 := funext hE_0_87_2; subst e_hE_0_87_2
  have e_hE_0_88_1 := funext hE_0_88_1; subst e_hE_0_88_1
  have e_hE_0_88_2 := funext hE_0_88_2; subst e_hE_0_88_2
  have e_hE_0_89_1 := funext hE_0_89_1; subst e_hE_0_89_1
  have e_hE_0_89_2 := funext hE_0_89_2; subst e_hE_0_89_2
  have e_hE_0_91_1 := funext hE_0_91_1; subst e_hE_0_91_1
  have e_hE_0_91_2 := funext hE_0_91_2; subst e_hE_0_91_2
  have e_hE_0_92_1 := funext hE_0_92_1; subst e_hE_0_92_1
  have e_hE_0_92_2 := funext hE_0_92_2; subst e_hE_0_92_2
  first
    | omega
    | (have h := auw_step (g_zq := 80) ‹AUW _ _ _ _ _ _ _› (by omega) (by assumption) (by omega); omega)
set_option maxHeartbeats 4000000 in
theorem vc_Mo_augment_29_2 (x1 : Int) (cameBy_0 : Int → Int) (pointMany_0 : Int) (queue_0 : Int → Int) (cameBy_1 : Int → Int) (pointMany_1 : Int) (queue_1 : Int → Int) (cameBy_2 : Int → Int) (pointMany_2 : Int) (spot_2 : Int → Int) (costA_2 : Int → Int) (costB_2 : Int → Int) (costW_2 : Int → Int) (costPlain_2 : Int → Int) (apartA_2 : Int → Int) (apartB_2 : Int → Int) (apart_2 : Int → Int) (costMany_2 : Int) (apartMany_2 : Int) (queue_2 : Int → Int) (costMany_0 : Int) (costMany_1 : Int) (apartMany_0 : Int) (apartMany_1 : Int) (spot_0 : Int → Int) (spot_1 : Int → Int) (costA_0 : Int → Int) (costA_1 : Int → Int) (costB_0 : Int → Int) (costB_1 : Int → Int) (costW_0 : Int → Int) (costW_1 : Int → Int) (costPlain_0 : Int → Int) (costPlain_1 : Int → Int) (apartA_0 : Int → Int) (apartA_1 : Int → Int) (apartB_0 : Int → Int) (apartB_1 : Int → Int) (apart_0 : Int → Int) (apart_1 : Int → Int) (k1 : 2 ≤ x1 ∧ x1 ≤ 78) (f36 : x1 ≤ 78) (fe_0_79_1 : pointMany_0 = pointMany_1) (fe_0_80_1 : costMany_0 = costMany_1) (fe_0_81_1 : apartMany_0 = apartMany_1) (fe_0_79_2 : pointMany_1 = pointMany_2) (fe_0_80_2 : costMany_1 = costMany_2) (fe_0_81_2 : apartMany_1 = apartMany_2) (hE_0_82_1 : ∀ j : Int, spot_0 j = spot_1 j) (hE_0_82_2 : ∀ j : Int, spot_1 j = spot_2 j) (hE_0_83_1 : ∀ j : Int, costA_0 j = costA_1 j) (hE_0_83_2 : ∀ j : Int, costA_1 j = costA_2 j) (hE_0_84_1 : ∀ j : Int, costB_0 j = costB_1 j) (hE_0_84_2 : ∀ j : Int, costB_1 j = costB_2 j) (hE_0_85_1 : ∀ j : Int, costW_0 j = costW_1 j) (hE_0_85_2 : ∀ j : Int, costW_1 j = costW_2 j) (hE_0_86_1 : ∀ j : Int, costPlain_0 j = costPlain_1 j) (hE_0_86_2 : ∀ j : Int, costPlain_1 j = costPlain_2 j) (hE_0_87_1 : ∀ j : Int, apartA_0 j = apartA_1 j) (hE_0_87_2 : ∀ j : Int, apartA_1 j = apartA_2 j) (hE_0_88_1 : ∀ j : Int, apartB_0 j = apartB_1 j) (hE_0_88_2 : ∀ j : Int, apartB_1 j = apartB_2 j) (hE_0_89_1 : ∀ j : Int, apart_0 j = apart_1 j) (hE_0_89_2 : ∀ j : Int, apart_1 j = apart_2 j) (hE_0_91_1 : ∀ j : Int, cameBy_0 j = cameBy_1 j) (hE_0_91_2 : ∀ j : Int, cameBy_1 j = cameBy_2 j) (hE_0_92_1 : ∀ j : Int, queue_0 j = queue_1 j) (hE_0_92_2 : ∀ j : Int, queue_1 j = queue_2 j) (kz_0_79 : 0 ≤ pointMany_0 ∧ pointMany_0 ≤ 76) (kz_0_80 : 0 ≤ costMany_0 ∧ costMany_0 ≤ 200) (kz_0_81 : 0 ≤ apartMany_0 ∧ apartMany_0 ≤ 200) : x1 ≤ 78 := by
  subst fe_0_79_1
  subst fe_0_80_1
  subst fe_0_81_1
  subst fe_0_79_2
  subst fe_0_80_2
  subst fe_0_81_2
  have e_hE_0_82_1 := funext hE_0_82_1; subst e_hE_0_82_1
  have e_hE_0_82_2 := funext hE_0_82_2; subst e_hE_0_82_2
  have e_hE_0_83_1 := funext hE_0_83_1; subst e_hE_0_83_1
  have e_hE_0_83_2 := funext hE_0_83_2; subst e_hE_0_83_2
  have e_hE_0_84_1 := funext hE_0_84_1; subst e_hE_0_84_1
  have e_hE_0_84_2 := funext hE_0_84_2; subst e_hE_0_84_2
  have e_hE_0_85_1 := funext hE_0_85_1; subst e_hE_0_85_1
  have e_hE_0_85_2 := funext hE_0_85_2; subst e_hE_0_85_2
  have e_hE_0_86_1 := funext hE_0_86_1; subst e_hE_0_86_1
  have e_hE_0_86_2 := funext hE_0_86_2; subst e_hE_0_86_2
  have e_hE_0_87_1 := funext hE_0_87_1; subst e_hE_0_87_1
  have e_hE_0_87_2 := funext hE_0_87_2; subst e_hE_0_87_2
  have e_hE_0_88_1 := funext hE_0_88_1; subst e_hE_0_88_1
  have e_hE_0_88_2 := funext hE_0_88_2; subst e_hE_0_88_2
  have e_hE_0_89_1 := funext hE_0_89_1; subst e_hE_0_89_1
  have e_hE_0_89_2 := funext hE_0_89_2; subst e_hE_0_89_2
  have e_hE_0_91_1 := funext hE_0_91_1; subst e_hE_0_91_1
  have e_hE_0_91_2 := funext hE_0_91_2; subst e_hE_0_91_2
  have e_hE_0_92_1 := funext hE_0_92_1; subst e_hE_0_92_1
  have e_hE_0_92_2 := funext hE_0_92_2; subst e_hE_0_92_2
  first
    | omega
    | (have h := auw_step (g_zq := 80) ‹AUW _ _ _ _ _ _ _› (by omega) (by assumption) (by omega); omega)
set_option maxHeartbeats 4000000 in
theorem vc_Mo_augment_29_3 (x1 : Int) (cameBy_0 : Int → Int) (pointMany_0 : Int) (queue_0 : Int → Int) (cameBy_1 : Int → Int) (pointMany_1 : Int) (queue_1 : Int → Int) (cameBy_2 : Int → Int) (pointMany_2 : Int) (spot_2 : Int → Int) (costA_2 : Int → Int) (costB_2 : Int → Int) (costW_2 : Int → Int) (costPlain_2 : Int → Int) (apartA_2 : Int → Int) (apartB_2 : Int → Int) (apart_2 : Int → Int) (costMany_2 : Int) (apartMany_2 : Int) (queue_2 : Int → Int) (costMany_0 : Int) (costMany_1 : Int) (apartMany_0 : Int) (apartMany_1 : Int) (spot_0 : Int → Int) (spot_1 : Int → Int) (costA_0 : Int → Int) (costA_1 : Int → Int) (costB_0 : Int → Int) (costB_1 : Int → Int) (costW_0 : Int → Int) (costW_1 : Int → Int) (costPlain_0 : Int → Int) (costPlain_1 : Int → Int) (apartA_0 : Int → Int) (apartA_1 : Int → Int) (apartB_0 : Int → Int) (apartB_1 : Int → Int) (apart_0 : Int → Int) (apart_1 : Int → Int) (k1 : 2 ≤ x1 ∧ x1 ≤ 78) (f37 : x1 = (pointMany_2 + 2)) (fe_0_79_1 : pointMany_0 = pointMany_1) (fe_0_80_1 : costMany_0 = costMany_1) (fe_0_81_1 : apartMany_0 = apartMany_1) (fe_0_79_2 : pointMany_1 = pointMany_2) (fe_0_80_2 : costMany_1 = costMany_2) (fe_0_81_2 : apartMany_1 = apartMany_2) (hE_0_82_1 : ∀ j : Int, spot_0 j = spot_1 j) (hE_0_82_2 : ∀ j : Int, spot_1 j = spot_2 j) (hE_0_83_1 : ∀ j : Int, costA_0 j = costA_1 j) (hE_0_83_2 : ∀ j : Int, costA_1 j = costA_2 j) (hE_0_84_1 : ∀ j : Int, costB_0 j = costB_1 j) (hE_0_84_2 : ∀ j : Int, costB_1 j = costB_2 j) (hE_0_85_1 : ∀ j : Int, costW_0 j = costW_1 j) (hE_0_85_2 : ∀ j : Int, costW_1 j = costW_2 j) (hE_0_86_1 : ∀ j : Int, costPlain_0 j = costPlain_1 j) (hE_0_86_2 : ∀ j : Int, costPlain_1 j = costPlain_2 j) (hE_0_87_1 : ∀ j : Int, apartA_0 j = apartA_1 j) (hE_0_87_2 : ∀ j : Int, apartA_1 j = apartA_2 j) (hE_0_88_1 : ∀ j : Int, apartB_0 j = apartB_1 j) (hE_0_88_2 : ∀ j : Int, apartB_1 j = apartB_2 j) (hE_0_89_1 : ∀ j : Int, apart_0 j = apart_1 j) (hE_0_89_2 : ∀ j : Int, apart_1 j = apart_2 j) (hE_0_91_1 : ∀ j : Int, cameBy_0 j = cameBy_1 j) (hE_0_91_2 : ∀ j : Int, cameBy_1 j = cameBy_2 j) (hE_0_92_1 : ∀ j : Int, queue_0 j = queue_1 j) (hE_0_92_2 : ∀ j : Int, queue_1 j = queue_2 j) (kz_0_79 : 0 ≤ pointMany_0 ∧ pointMany_0 ≤ 76) (kz_0_80 : 0 ≤ costMany_0 ∧ costMany_0 ≤ 200) (kz_0_81 : 0 ≤ apartMany_0 ∧ apartMany_0 ≤ 200) : x1 = (pointMany_0 + 2) := by
  subst fe_0_79_1
  subst fe_0_80_1
  subst fe_0_81_1
  subst fe_0_79_2
  subst fe_0_80_2
  subst fe_0_81_2
  have e_hE_0_82_1 := funext hE_0_82_1; subst e_hE_0_82_1
  have e_hE_0_82_2 := funext hE_0_82_2; subst e_hE_0_82_2
  have e_hE_0_83_1 := funext hE_0_83_1; subst e_hE_0_83_1
  have e_hE_0_83_2 := funext hE_0_83_2; subst e_hE_0_83_2
  have e_hE_0_84_1 := funext hE_0_84_1; subst e_hE_0_84_1
  have e_hE_0_84_2 := funext hE_0_84_2; subst e_hE_0_84_2
  have e_hE_0_85_1 := funext hE_0_85_1; subst e_hE_0_85_1
  have e_hE_0_85_2 := funext hE_0_85_2; subst e_hE_0_85_2
  have e_hE_0_86_1 := funext hE_0_86_1; subst e_hE_0_86_1
  have e_hE_0_86_2 := funext hE_0_86_2; subst e_hE_0_86_2
  have e_hE_0_87_1 := funext hE_0_87_1; subst e_hE_0_87_1
  have e_hE_0_87_2 := funext hE_0_87_2; subst e_hE_0_87_2
  have e_hE_0_88_1 := funext hE_0_88_1; subst e_hE_0_88_1
  have e_hE_0_88_2 := funext hE_0_88_2; subst e_hE_0_88_2
  have e_hE_0_89_1 := funext hE_0_89_1; subst e_hE_0_89_1
  have e_hE_0_89_2 := funext hE_0_89_2; subst e_hE_0_89_2
  have e_hE_0_91_1 := funext hE_0_91_1; subst e_hE_0_91_1
  have e_hE_0_91_2 := funext hE_0_91_2; subst e_hE_0_91_2
  have e_hE_0_92_1 := funext hE_0_92_1; subst e_hE_0_92_1
  have e_hE_0_92_2 := funext hE_0_92_2; subst e_hE_0_92_2
  first
    | omega
    | (have h := auw_step (g_zq := 80) ‹AUW _ _ _ _ _ _ _› (by omega) (by assumption) (by omega); omega)
set_option maxHeartbeats 4000000 in
theorem vc_Mo_augment_29_4 (x2 : Int) (cameBy_0 : Int → Int) (pointMany_0 : Int) (queue_0 : Int → Int) (cameBy_1 : Int → Int) (pointMany_1 : Int) (queue_1 : Int → Int) (cameBy_2 : Int → Int) (pointMany_2 : Int) (spot_2 : Int → Int) (costA_2 : Int → Int) (costB_2 : Int → Int) (costW_2 : Int → Int) (costPlain_2 : Int → Int) (apartA_2 : Int → Int) (apartB_2 : Int → Int) (apart_2 : Int → Int) (costMany_2 : Int) (apartMany_2 : Int) (queue_2 : Int → Int) (costMany_0 : Int) (costMany_1 : Int) (apartMany_0 : Int) (apartMany_1 : Int) (spot_0 : Int → Int) (spot_1 : Int → Int) (costA_0 : Int → Int) (costA_1 : Int → Int) (costB_0 : Int → Int) (costB_1 : Int → Int) (costW_0 : Int → Int) (costW_1 : Int → Int) (costPlain_0 : Int → Int) (costPlain_1 : Int → Int) (apartA_0 : Int → Int) (apartA_1 : Int → Int) (apartB_0 : Int → Int) (apartB_1 : Int → Int) (apart_0 : Int → Int) (apart_1 : Int → Int) (k2 : 0 ≤ x2 ∧ x2 ≤ 76) (f38 : x2 = pointMany_2) (fe_0_79_1 : pointMany_0 = pointMany_1) (fe_0_80_1 : costMany_0 = costMany_1) (fe_0_81_1 : apartMany_0 = apartMany_1) (fe_0_79_2 : pointMany_1 = pointMany_2) (fe_0_80_2 : costMany_1 = costMany_2) (fe_0_81_2 : apartMany_1 = apartMany_2) (hE_0_82_1 : ∀ j : Int, spot_0 j = spot_1 j) (hE_0_82_2 : ∀ j : Int, spot_1 j = spot_2 j) (hE_0_83_1 : ∀ j : Int, costA_0 j = costA_1 j) (hE_0_83_2 : ∀ j : Int, costA_1 j = costA_2 j) (hE_0_84_1 : ∀ j : Int, costB_0 j = costB_1 j) (hE_0_84_2 : ∀ j : Int, costB_1 j = costB_2 j) (hE_0_85_1 : ∀ j : Int, costW_0 j = costW_1 j) (hE_0_85_2 : ∀ j : Int, costW_1 j = costW_2 j) (hE_0_86_1 : ∀ j : Int, costPlain_0 j = costPlain_1 j) (hE_0_86_2 : ∀ j : Int, costPlain_1 j = costPlain_2 j) (hE_0_87_1 : ∀ j : Int, apartA_0 j = apartA_1 j) (hE_0_87_2 : ∀ j : Int, apartA_1 j = apartA_2 j) (hE_0_88_1 : ∀ j : Int, apartB_0 j = apartB_1 j) (hE_0_88_2 : ∀ j : Int, apartB_1 j = apartB_2 j) (hE_0_89_1 : ∀ j : Int, apart_0 j = apart_1 j) (hE_0_89_2 : ∀ j : Int, apart_1 j = apart_2 j) (hE_0_91_1 : ∀ j : Int, cameBy_0 j = cameBy_1 j) (hE_0_91_2 : ∀ j : Int, cameBy_1 j = cameBy_2 j) (hE_0_92_1 : ∀ j : Int, queue_0 j = queue_1 j) (hE_0_92_2 : ∀ j : Int, queue_1 j = queue_2 j) (kz_0_79 : 0 ≤ pointMany_0 ∧ pointMany_0 ≤ 76) (kz_0_80 : 0 ≤ costMany_0 ∧ costMany_0 ≤ 200) (kz_0_81 : 0 ≤ apartMany_0 ∧ apartMany_0 ≤ 200) : x2 = pointMany_0 := by
  subst fe_0_79_1
  subst fe_0_80_1
  subst fe_0_81_1
  subst fe_0_79_2
  subst fe_0_80_2
  subst fe_0_81_2
  have e_hE_0_82_1 := funext hE_0_82_1; subst e_hE_0_82_1
  have e_hE_0_82_2 := funext hE_0_82_2; subst e_hE_0_82_2
  have e_hE_0_83_1 := funext hE_0_83_1; subst e_hE_0_83_1
  have e_hE_0_83_2 := funext hE_0_83_2; subst e_hE_0_83_2
  have e_hE_0_84_1 := funext hE_0_84_1; subst e_hE_0_84_1
  have e_hE_0_84_2 := funext hE_0_84_2; subst e_hE_0_84_2
  have e_hE_0_85_1 := funext hE_0_85_1; subst e_hE_0_85_1
  have e_hE_0_85_2 := funext hE_0_85_2; subst e_hE_0_85_2
  have e_hE_0_86_1 := funext hE_0_86_1; subst e_hE_0_86_1
  have e_hE_0_86_2 := funext hE_0_86_2; subst e_hE_0_86_2
  have e_hE_0_87_1 := funext hE_0_87_1; subst e_hE_0_87_1
  have e_hE_0_87_2 := funext hE_0_87_2; subst e_hE_0_87_2
  have e_hE_0_88_1 := funext hE_0_88_1; subst e_hE_0_88_1
  have e_hE_0_88_2 := funext hE_0_88_2; subst e_hE_0_88_2
  have e_hE_0_89_1 := funext hE_0_89_1; subst e_hE_0_89_1
  have e_hE_0_89_2 := funext hE_0_89_2; subst e_hE_0_89_2
  have e_hE_0_91_1 := funext hE_0_91_1; subst e_hE_0_91_1
  have e_hE_0_91_2 := funext hE_0_91_2; subst e_hE_0_91_2
  have e_hE_0_92_1 := funext hE_0_92_1; subst e_hE_0_92_1
  have e_hE_0_92_2 := funext hE_0_92_2; subst e_hE_0_92_2
  first
    | omega
    | (have h := auw_step (g_zq := 80) ‹AUW _ _ _ _ _ _ _› (by omega) (by assumption) (by omega); omega)
set_option maxHeartbeats 4000000 in
theorem vc_Mo_augment_29_5 (x3 : Int) (cameBy_0 : Int → Int) (pointMany_0 : Int) (queue_0 : Int → Int) (cameBy_1 : Int → Int) (pointMany_1 : Int) (queue_1 : Int → Int) (cameBy_2 : Int → Int) (pointMany_2 : Int) (spot_2 : Int → Int) (costA_2 : Int → Int) (costB_2 : Int → Int) (costW_2 : Int → Int) (costPlain_2 : Int → Int) (apartA_2 : Int → Int) (apartB_2 : Int → Int) (apart_2 : Int → Int) (costMany_2 : Int) (apartMany_2 : Int) (queue_2 : Int → Int) (costMany_0 : Int) (costMany_1 : Int) (apartMany_0 : Int) (apartMany_1 : Int) (spot_0 : Int → Int) (spot_1 : Int → Int) (costA_0 : Int → Int) (costA_1 : Int → Int) (costB_0 : Int → Int) (costB_1 : Int → Int) (costW_0 : Int → Int) (costW_1 : Int → Int) (costPlain_0 : Int → Int) (costPlain_1 : Int → Int) (apartA_0 : Int → Int) (apartA_1 : Int → Int) (apartB_0 : Int → Int) (apartB_1 : Int → Int) (apart_0 : Int → Int) (apart_1 : Int → Int) (k3 : 1 ≤ x3 ∧ x3 ≤ 77) (f39 : x3 = (pointMany_2 + 1)) (fe_0_79_1 : pointMany_0 = pointMany_1) (fe_0_80_1 : costMany_0 = costMany_1) (fe_0_81_1 : apartMany_0 = apartMany_1) (fe_0_79_2 : pointMany_1 = pointMany_2) (fe_0_80_2 : costMany_1 = costMany_2) (fe_0_81_2 : apartMany_1 = apartMany_2) (hE_0_82_1 : ∀ j : Int, spot_0 j = spot_1 j) (hE_0_82_2 : ∀ j : Int, spot_1 j = spot_2 j) (hE_0_83_1 : ∀ j : Int, costA_0 j = costA_1 j) (hE_0_83_2 : ∀ j : Int, costA_1 j = costA_2 j) (hE_0_84_1 : ∀ j : Int, costB_0 j = costB_1 j) (hE_0_84_2 : ∀ j : Int, costB_1 j = costB_2 j) (hE_0_85_1 : ∀ j : Int, costW_0 j = costW_1 j) (hE_0_85_2 : ∀ j : Int, costW_1 j = costW_2 j) (hE_0_86_1 : ∀ j : Int, costPlain_0 j = costPlain_1 j) (hE_0_86_2 : ∀ j : Int, costPlain_1 j = costPlain_2 j) (hE_0_87_1 : ∀ j : Int, apartA_0 j = apartA_1 j) (hE_0_87_2 : ∀ j : Int, apartA_1 j = apartA_2 j) (hE_0_88_1 : ∀ j : Int, apartB_0 j = apartB_1 j) (hE_0_88_2 : ∀ j : Int, apartB_1 j = apartB_2 j) (hE_0_89_1 : ∀ j : Int, apart_0 j = apart_1 j) (hE_0_89_2 : ∀ j : Int, apart_1 j = apart_2 j) (hE_0_91_1 : ∀ j : Int, cameBy_0 j = cameBy_1 j) (hE_0_91_2 : ∀ j : Int, cameBy_1 j = cameBy_2 j) (hE_0_92_1 : ∀ j : Int, queue_0 j = queue_1 j) (hE_0_92_2 : ∀ j : Int, queue_1 j = queue_2 j) (kz_0_79 : 0 ≤ pointMany_0 ∧ pointMany_0 ≤ 76) (kz_0_80 : 0 ≤ costMany_0 ∧ costMany_0 ≤ 200) (kz_0_81 : 0 ≤ apartMany_0 ∧ apartMany_0 ≤ 200) : x3 = (pointMany_0 + 1) := by
  subst fe_0_79_1
  subst fe_0_80_1
  subst fe_0_81_1
  subst fe_0_79_2
  subst fe_0_80_2
  subst fe_0_81_2
  have e_hE_0_82_1 := funext hE_0_82_1; subst e_hE_0_82_1
  have e_hE_0_82_2 := funext hE_0_82_2; subst e_hE_0_82_2
  have e_hE_0_83_1 := funext hE_0_83_1; subst e_hE_0_83_1
  have e_hE_0_83_2 := funext hE_0_83_2; subst e_hE_0_83_2
  have e_hE_0_84_1 := funext hE_0_84_1; subst e_hE_0_84_1
  have e_hE_0_84_2 := funext hE_0_84_2; subst e_hE_0_84_2
  have e_hE_0_85_1 := funext hE_0_85_1; subst e_hE_0_85_1
  have e_hE_0_85_2 := funext hE_0_85_2; subst e_hE_0_85_2
  have e_hE_0_86_1 := funext hE_0_86_1; subst e_hE_0_86_1
  have e_hE_0_86_2 := funext hE_0_86_2; subst e_hE_0_86_2
  have e_hE_0_87_1 := funext hE_0_87_1; subst e_hE_0_87_1
  have e_hE_0_87_2 := funext hE_0_87_2; subst e_hE_0_87_2
  have e_hE_0_88_1 := funext hE_0_88_1; subst e_hE_0_88_1
  have e_hE_0_88_2 := funext hE_0_88_2; subst e_hE_0_88_2
  have e_hE_0_89_1 := funext hE_0_89_1; subst e_hE_0_89_1
  have e_hE_0_89_2 := funext hE_0_89_2; subst e_hE_0_89_2
  have e_hE_0_91_1 := funext hE_0_91_1; subst e_hE_0_91_1
  have e_hE_0_91_2 := funext hE_0_91_2; subst e_hE_0_91_2
  have e_hE_0_92_1 := funext hE_0_92_1; subst e_hE_0_92_1
  have e_hE_0_92_2 := funext hE_0_92_2; subst e_hE_0_92_2
  first
    | omega
    | (have h := auw_step (g_zq := 80) ‹AUW _ _ _ _ _ _ _› (by omega) (by assumption) (by omega); omega)
set_option maxHeartbeats 4000000 in
theorem vc_Mo_augment_29_6 (x1 : Int) (x2 : Int) (x4 : Int) (x10 : Int) (x11 : Int) (x12 : Int) (x13 : Int) (x16 : Int) (x17 : Int) (x18 : Int) (x19 : Int) (x20 : Int) (x21 : Int) (x22 : Int) (x23 : Int) (x24 : Int) (x25 : Int) (x26 : Int) (cameBy_0 : Int → Int) (pointMany_0 : Int) (queue_0 : Int → Int) (flow_1 : Int → Int) (cameBy_1 : Int → Int) (pointMany_1 : Int) (queue_1 : Int → Int) (flow_2 : Int → Int) (cameBy_2 : Int → Int) (pointMany_2 : Int) (spot_2 : Int → Int) (costA_2 : Int → Int) (costB_2 : Int → Int) (costW_2 : Int → Int) (costPlain_2 : Int → Int) (apartA_2 : Int → Int) (apartB_2 : Int → Int) (apart_2 : Int → Int) (costMany_2 : Int) (apartMany_2 : Int) (queue_2 : Int → Int) (costMany_0 : Int) (costMany_1 : Int) (apartMany_0 : Int) (apartMany_1 : Int) (spot_0 : Int → Int) (spot_1 : Int → Int) (costA_0 : Int → Int) (costA_1 : Int → Int) (costB_0 : Int → Int) (costB_1 : Int → Int) (costW_0 : Int → Int) (costW_1 : Int → Int) (costPlain_0 : Int → Int) (costPlain_1 : Int → Int) (apartA_0 : Int → Int) (apartA_1 : Int → Int) (apartB_0 : Int → Int) (apartB_1 : Int → Int) (apart_0 : Int → Int) (apart_1 : Int → Int) (flow_0 : Int → Int) (k1 : 2 ≤ x1 ∧ x1 ≤ 78) (k2 : 0 ≤ x2 ∧ x2 ≤ 76) (k4 : (-2) ≤ x4 ∧ x4 ≤ 180000001) (k10 : 1 ≤ x10 ∧ x10 ≤ 79) (k11 : 0 ≤ x11 ∧ x11 ≤ 1000000) (k12 : 0 ≤ x12 ∧ x12 ≤ 77) (k13 : (-2) ≤ x13 ∧ x13 ≤ 80) (k16 : 0 ≤ x16 ∧ x16 ≤ 77) (k17 : 0 ≤ x17 ∧ x17 ≤ 6083) (k18 : 0 ≤ x18 ∧ x18 ≤ 6083) (k19 : 0 ≤ x19 ∧ x19 ≤ 410000000) (k20 : 0 ≤ x20 ∧ x20 ≤ 410000000) (k21 : 0 ≤ x21 ∧ x21 ≤ 6083) (k22 : 0 ≤ x22 ∧ x22 ≤ 77) (k23 : 0 ≤ x23 ∧ x23 ≤ 6083) (k24 : 0 ≤ x24 ∧ x24 ≤ 410000000) (k25 : 0 ≤ x25 ∧ x25 ≤ 410000000) (k26 : 0 ≤ x26 ∧ x26 ≤ 77) (h0 : x26 = cameBy_0 (x12)) (f14 : x25 = x24 + x11) (h15 : x24 = flow_1 (x23)) (f16 : x23 = x21 + x22) (h17 : x22 = cameBy_1 (x12)) (f18 : x21 = x1 * x12) (f28 : x20 = x19 - x11) (h29 : x19 = flow_2 (x18)) (f30 : x18 = x17 + x12) (f31 : x17 = x1 * x16) (h32 : x16 = cameBy_2 (x12)) (f33 : x12 ≠ x2) (f37 : x1 = (pointMany_2 + 2)) (f38 : x2 = pointMany_2) (f40 : PSH (pointMany_2) (costMany_2) (apartMany_2) (flow_2) (cameBy_2) (spot_2) (costA_2) (costB_2) (costW_2) (costPlain_2) (apartA_2) (apartB_2) (apart_2) (x11) (x12) (x4)) (f41 : AUW (queue_2) (cameBy_2) (x1) (x2) (x10) (x12) (x13)) (fe_0_79_1 : pointMany_0 = pointMany_1) (fe_0_80_1 : costMany_0 = costMany_1) (fe_0_81_1 : apartMany_0 = apartMany_1) (fe_0_79_2 : pointMany_1 = pointMany_2) (fe_0_80_2 : costMany_1 = costMany_2) (fe_0_81_2 : apartMany_1 = apartMany_2) (hE_0_82_1 : ∀ j : Int, spot_0 j = spot_1 j) (hE_0_82_2 : ∀ j : Int, spot_1 j = spot_2 j) (hE_0_83_1 : ∀ j : Int, costA_0 j = costA_1 j) (hE_0_83_2 : ∀ j : Int, costA_1 j = costA_2 j) (hE_0_84_1 : ∀ j : Int, costB_0 j = costB_1 j) (hE_0_84_2 : ∀ j : Int, costB_1 j = costB_2 j) (hE_0_85_1 : ∀ j : Int, costW_0 j = costW_1 j) (hE_0_85_2 : ∀ j : Int, costW_1 j = costW_2 j) (hE_0_86_1 : ∀ j : Int, costPlain_0 j = costPlain_1 j) (hE_0_86_2 : ∀ j : Int, costPlain_1 j = costPlain_2 j) (hE_0_87_1 : ∀ j : Int, apartA_0 j = apartA_1 j) (hE_0_87_2 : ∀ j : Int, apartA_1 j = apartA_2 j) (hE_0_88_1 : ∀ j : Int, apartB_0 j = apartB_1 j) (hE_0_88_2 : ∀ j : Int, apartB_1 j = apartB_2 j) (hE_0_89_1 : ∀ j : Int, apart_0 j = apart_1 j) (hE_0_89_2 : ∀ j : Int, apart_1 j = apart_2 j) (hE_0_90_1 : ∀ j : Int, 0 ≤ j → (j = x23 → flow_0 j = x25) ∧ (j ≠ x23 → flow_0 j = flow_1 j)) (hE_0_90_2 : ∀ j : Int, 0 ≤ j → (j = x18 → flow_1 j = x20) ∧ (j ≠ x18 → flow_1 j = flow_2 j)) (hE_0_91_1 : ∀ j : Int, cameBy_0 j = cameBy_1 j) (hE_0_91_2 : ∀ j : Int, cameBy_1 j = cameBy_2 j) (hE_0_92_1 : ∀ j : Int, queue_0 j = queue_1 j) (hE_0_92_2 : ∀ j : Int, queue_1 j = queue_2 j) (kz_0_79 : 0 ≤ pointMany_0 ∧ pointMany_0 ≤ 76) (kz_0_80 : 0 ≤ costMany_0 ∧ costMany_0 ≤ 200) (kz_0_81 : 0 ≤ apartMany_0 ∧ apartMany_0 ≤ 200) : PSH (pointMany_0) (costMany_0) (apartMany_0) (flow_0) (cameBy_0) (spot_0) (costA_0) (costB_0) (costW_0) (costPlain_0) (apartA_0) (apartB_0) (apart_0) (x11) (x26) (x4) := by
  subst fe_0_79_1
  subst fe_0_80_1
  subst fe_0_81_1
  subst fe_0_79_2
  subst fe_0_80_2
  subst fe_0_81_2
  have e_hE_0_82_1 := funext hE_0_82_1; subst e_hE_0_82_1
  have e_hE_0_82_2 := funext hE_0_82_2; subst e_hE_0_82_2
  have e_hE_0_83_1 := funext hE_0_83_1; subst e_hE_0_83_1
  have e_hE_0_83_2 := funext hE_0_83_2; subst e_hE_0_83_2
  have e_hE_0_84_1 := funext hE_0_84_1; subst e_hE_0_84_1
  have e_hE_0_84_2 := funext hE_0_84_2; subst e_hE_0_84_2
  have e_hE_0_85_1 := funext hE_0_85_1; subst e_hE_0_85_1
  have e_hE_0_85_2 := funext hE_0_85_2; subst e_hE_0_85_2
  have e_hE_0_86_1 := funext hE_0_86_1; subst e_hE_0_86_1
  have e_hE_0_86_2 := funext hE_0_86_2; subst e_hE_0_86_2
  have e_hE_0_87_1 := funext hE_0_87_1; subst e_hE_0_87_1
  have e_hE_0_87_2 := funext hE_0_87_2; subst e_hE_0_87_2
  have e_hE_0_88_1 := funext hE_0_88_1; subst e_hE_0_88_1
  have e_hE_0_88_2 := funext hE_0_88_2; subst e_hE_0_88_2
  have e_hE_0_89_1 := funext hE_0_89_1; subst e_hE_0_89_1
  have e_hE_0_89_2 := funext hE_0_89_2; subst e_hE_0_89_2
  have e_hE_0_91_1 := funext hE_0_91_1; subst e_hE_0_91_1
  have e_hE_0_91_2 := funext hE_0_91_2; subst e_hE_0_91_2
  have e_hE_0_92_1 := funext hE_0_92_1; subst e_hE_0_92_1
  have e_hE_0_92_2 := funext hE_0_92_2; subst e_hE_0_92_2
  exact psh_stepA (z := x16) (z2 := x22) ‹PSH _ _ _ _ _ _ _ _ _ _ _ _ _ _ _ _› ‹AUW _ _ _ _ _ _ _› (by omega) (by omega) (by assumption) (by assumption) (by assumption) (by omega) (by assumption) (by assumption) (by assumption) (by assumption) (by assumption) (by assumption) (by assumption) (by assumption) (by assumption) (by assumption)
set_option maxHeartbeats 4000000 in
theorem vc_Mo_augment_29_7 (x1 : Int) (x2 : Int) (x10 : Int) (x12 : Int) (x13 : Int) (x26 : Int) (cameBy_0 : Int → Int) (pointMany_0 : Int) (queue_0 : Int → Int) (cameBy_1 : Int → Int) (pointMany_1 : Int) (queue_1 : Int → Int) (cameBy_2 : Int → Int) (pointMany_2 : Int) (spot_2 : Int → Int) (costA_2 : Int → Int) (costB_2 : Int → Int) (costW_2 : Int → Int) (costPlain_2 : Int → Int) (apartA_2 : Int → Int) (apartB_2 : Int → Int) (apart_2 : Int → Int) (costMany_2 : Int) (apartMany_2 : Int) (queue_2 : Int → Int) (costMany_0 : Int) (costMany_1 : Int) (apartMany_0 : Int) (apartMany_1 : Int) (spot_0 : Int → Int) (spot_1 : Int → Int) (costA_0 : Int → Int) (costA_1 : Int → Int) (costB_0 : Int → Int) (costB_1 : Int → Int) (costW_0 : Int → Int) (costW_1 : Int → Int) (costPlain_0 : Int → Int) (costPlain_1 : Int → Int) (apartA_0 : Int → Int) (apartA_1 : Int → Int) (apartB_0 : Int → Int) (apartB_1 : Int → Int) (apart_0 : Int → Int) (apart_1 : Int → Int) (gx : Int) (k1 : 2 ≤ x1 ∧ x1 ≤ 78) (k2 : 0 ≤ x2 ∧ x2 ≤ 76) (k10 : 1 ≤ x10 ∧ x10 ≤ 79) (k12 : 0 ≤ x12 ∧ x12 ≤ 77) (k13 : (-2) ≤ x13 ∧ x13 ≤ 80) (k26 : 0 ≤ x26 ∧ x26 ≤ 77) (h0 : x26 = cameBy_0 (x12)) (f33 : x12 ≠ x2) (f41 : AUW (queue_2) (cameBy_2) (x1) (x2) (x10) (x12) (x13)) (fe_0_79_1 : pointMany_0 = pointMany_1) (fe_0_80_1 : costMany_0 = costMany_1) (fe_0_81_1 : apartMany_0 = apartMany_1) (fe_0_79_2 : pointMany_1 = pointMany_2) (fe_0_80_2 : costMany_1 = costMany_2) (fe_0_81_2 : apartMany_1 = apartMany_2) (hE_0_82_1 : ∀ j : Int, spot_0 j = spot_1 j) (hE_0_82_2 : ∀ j : Int, spot_1 j = spot_2 j) (hE_0_83_1 : ∀ j : Int, costA_0 j = costA_1 j) (hE_0_83_2 : ∀ j : Int, costA_1 j = costA_2 j) (hE_0_84_1 : ∀ j : Int, costB_0 j = costB_1 j) (hE_0_84_2 : ∀ j : Int, costB_1 j = costB_2 j) (hE_0_85_1 : ∀ j : Int, costW_0 j = costW_1 j) (hE_0_85_2 : ∀ j : Int, costW_1 j = costW_2 j) (hE_0_86_1 : ∀ j : Int, costPlain_0 j = costPlain_1 j) (hE_0_86_2 : ∀ j : Int, costPlain_1 j = costPlain_2 j) (hE_0_87_1 : ∀ j : Int, apartA_0 j = apartA_1 j) (hE_0_87_2 : ∀ j : Int, apartA_1 j = apartA_2 j) (hE_0_88_1 : ∀ j : Int, apartB_0 j = apartB_1 j) (hE_0_88_2 : ∀ j : Int, apartB_1 j = apartB_2 j) (hE_0_89_1 : ∀ j : Int, apart_0 j = apart_1 j) (hE_0_89_2 : ∀ j : Int, apart_1 j = apart_2 j) (hE_0_91_1 : ∀ j : Int, cameBy_0 j = cameBy_1 j) (hE_0_91_2 : ∀ j : Int, cameBy_1 j = cameBy_2 j) (hE_0_92_1 : ∀ j : Int, queue_0 j = queue_1 j) (hE_0_92_2 : ∀ j : Int, queue_1 j = queue_2 j) (kz_0_79 : 0 ≤ pointMany_0 ∧ pointMany_0 ≤ 76) (kz_0_80 : 0 ≤ costMany_0 ∧ costMany_0 ≤ 200) (kz_0_81 : 0 ≤ apartMany_0 ∧ apartMany_0 ≤ 200) (ex2 : gx = 0 + (1 * x13 + 0)) : AUX (queue_0) (cameBy_0) (x1) (x2) (x10) (x26) (gx) := by
  subst fe_0_79_1
  subst fe_0_80_1
  subst fe_0_81_1
  subst fe_0_79_2
  subst fe_0_80_2
  subst fe_0_81_2
  have e_hE_0_82_1 := funext hE_0_82_1; subst e_hE_0_82_1
  have e_hE_0_82_2 := funext hE_0_82_2; subst e_hE_0_82_2
  have e_hE_0_83_1 := funext hE_0_83_1; subst e_hE_0_83_1
  have e_hE_0_83_2 := funext hE_0_83_2; subst e_hE_0_83_2
  have e_hE_0_84_1 := funext hE_0_84_1; subst e_hE_0_84_1
  have e_hE_0_84_2 := funext hE_0_84_2; subst e_hE_0_84_2
  have e_hE_0_85_1 := funext hE_0_85_1; subst e_hE_0_85_1
  have e_hE_0_85_2 := funext hE_0_85_2; subst e_hE_0_85_2
  have e_hE_0_86_1 := funext hE_0_86_1; subst e_hE_0_86_1
  have e_hE_0_86_2 := funext hE_0_86_2; subst e_hE_0_86_2
  have e_hE_0_87_1 := funext hE_0_87_1; subst e_hE_0_87_1
  have e_hE_0_87_2 := funext hE_0_87_2; subst e_hE_0_87_2
  have e_hE_0_88_1 := funext hE_0_88_1; subst e_hE_0_88_1
  have e_hE_0_88_2 := funext hE_0_88_2; subst e_hE_0_88_2
  have e_hE_0_89_1 := funext hE_0_89_1; subst e_hE_0_89_1
  have e_hE_0_89_2 := funext hE_0_89_2; subst e_hE_0_89_2
  have e_hE_0_91_1 := funext hE_0_91_1; subst e_hE_0_91_1
  have e_hE_0_91_2 := funext hE_0_91_2; subst e_hE_0_91_2
  have e_hE_0_92_1 := funext hE_0_92_1; subst e_hE_0_92_1
  have e_hE_0_92_2 := funext hE_0_92_2; subst e_hE_0_92_2
  exact (auw_step ‹AUW _ _ _ _ _ _ _› (by omega) (by assumption) (by omega)).1
set_option maxHeartbeats 4000000 in
theorem vc_Mo_augment_29_8 (x1 : Int) (x2 : Int) (x10 : Int) (x12 : Int) (x13 : Int) (x16 : Int) (cameBy_0 : Int → Int) (pointMany_0 : Int) (queue_0 : Int → Int) (cameBy_1 : Int → Int) (pointMany_1 : Int) (queue_1 : Int → Int) (cameBy_2 : Int → Int) (pointMany_2 : Int) (spot_2 : Int → Int) (costA_2 : Int → Int) (costB_2 : Int → Int) (costW_2 : Int → Int) (costPlain_2 : Int → Int) (apartA_2 : Int → Int) (apartB_2 : Int → Int) (apart_2 : Int → Int) (costMany_2 : Int) (apartMany_2 : Int) (queue_2 : Int → Int) (costMany_0 : Int) (costMany_1 : Int) (apartMany_0 : Int) (apartMany_1 : Int) (spot_0 : Int → Int) (spot_1 : Int → Int) (costA_0 : Int → Int) (costA_1 : Int → Int) (costB_0 : Int → Int) (costB_1 : Int → Int) (costW_0 : Int → Int) (costW_1 : Int → Int) (costPlain_0 : Int → Int) (costPlain_1 : Int → Int) (apartA_0 : Int → Int) (apartA_1 : Int → Int) (apartB_0 : Int → Int) (apartB_1 : Int → Int) (apart_0 : Int → Int) (apart_1 : Int → Int) (gx : Int) (k1 : 2 ≤ x1 ∧ x1 ≤ 78) (k2 : 0 ≤ x2 ∧ x2 ≤ 76) (k10 : 1 ≤ x10 ∧ x10 ≤ 79) (k12 : 0 ≤ x12 ∧ x12 ≤ 77) (k13 : (-2) ≤ x13 ∧ x13 ≤ 80) (k16 : 0 ≤ x16 ∧ x16 ≤ 77) (h32 : x16 = cameBy_2 (x12)) (f33 : x12 ≠ x2) (f41 : AUW (queue_2) (cameBy_2) (x1) (x2) (x10) (x12) (x13)) (fe_0_79_1 : pointMany_0 = pointMany_1) (fe_0_80_1 : costMany_0 = costMany_1) (fe_0_81_1 : apartMany_0 = apartMany_1) (fe_0_79_2 : pointMany_1 = pointMany_2) (fe_0_80_2 : costMany_1 = costMany_2) (fe_0_81_2 : apartMany_1 = apartMany_2) (hE_0_82_1 : ∀ j : Int, spot_0 j = spot_1 j) (hE_0_82_2 : ∀ j : Int, spot_1 j = spot_2 j) (hE_0_83_1 : ∀ j : Int, costA_0 j = costA_1 j) (hE_0_83_2 : ∀ j : Int, costA_1 j = costA_2 j) (hE_0_84_1 : ∀ j : Int, costB_0 j = costB_1 j) (hE_0_84_2 : ∀ j : Int, costB_1 j = costB_2 j) (hE_0_85_1 : ∀ j : Int, costW_0 j = costW_1 j) (hE_0_85_2 : ∀ j : Int, costW_1 j = costW_2 j) (hE_0_86_1 : ∀ j : Int, costPlain_0 j = costPlain_1 j) (hE_0_86_2 : ∀ j : Int, costPlain_1 j = costPlain_2 j) (hE_0_87_1 : ∀ j : Int, apartA_0 j = apartA_1 j) (hE_0_87_2 : ∀ j : Int, apartA_1 j = apartA_2 j) (hE_0_88_1 : ∀ j : Int, apartB_0 j = apartB_1 j) (hE_0_88_2 : ∀ j : Int, apartB_1 j = apartB_2 j) (hE_0_89_1 : ∀ j : Int, apart_0 j = apart_1 j) (hE_0_89_2 : ∀ j : Int, apart_1 j = apart_2 j) (hE_0_91_1 : ∀ j : Int, cameBy_0 j = cameBy_1 j) (hE_0_91_2 : ∀ j : Int, cameBy_1 j = cameBy_2 j) (hE_0_92_1 : ∀ j : Int, queue_0 j = queue_1 j) (hE_0_92_2 : ∀ j : Int, queue_1 j = queue_2 j) (kz_0_79 : 0 ≤ pointMany_0 ∧ pointMany_0 ≤ 76) (kz_0_80 : 0 ≤ costMany_0 ∧ costMany_0 ≤ 200) (kz_0_81 : 0 ≤ apartMany_0 ∧ apartMany_0 ≤ 200) (ex2 : gx = 0 + (1 * x13 + 0)) : (-1) * gx + 0 ≤ (-1) := by
  subst fe_0_79_1
  subst fe_0_80_1
  subst fe_0_81_1
  subst fe_0_79_2
  subst fe_0_80_2
  subst fe_0_81_2
  have e_hE_0_82_1 := funext hE_0_82_1; subst e_hE_0_82_1
  have e_hE_0_82_2 := funext hE_0_82_2; subst e_hE_0_82_2
  have e_hE_0_83_1 := funext hE_0_83_1; subst e_hE_0_83_1
  have e_hE_0_83_2 := funext hE_0_83_2; subst e_hE_0_83_2
  have e_hE_0_84_1 := funext hE_0_84_1; subst e_hE_0_84_1
  have e_hE_0_84_2 := funext hE_0_84_2; subst e_hE_0_84_2
  have e_hE_0_85_1 := funext hE_0_85_1; subst e_hE_0_85_1
  have e_hE_0_85_2 := funext hE_0_85_2; subst e_hE_0_85_2
  have e_hE_0_86_1 := funext hE_0_86_1; subst e_hE_0_86_1
  have e_hE_0_86_2 := funext hE_0_86_2; subst e_hE_0_86_2
  have e_hE_0_87_1 := funext hE_0_87_1; subst e_hE_0_87_1
  have e_hE_0_87_2 := funext hE_0_87_2; subst e_hE_0_87_2
  have e_hE_0_88_1 := funext hE_0_88_1; subst e_hE_0_88_1
  have e_hE_0_88_2 := funext hE_0_88_2; subst e_hE_0_88_2
  have e_hE_0_89_1 := funext hE_0_89_1; subst e_hE_0_89_1
  have e_hE_0_89_2 := funext hE_0_89_2; subst e_hE_0_89_2
  have e_hE_0_91_1 := funext hE_0_91_1; subst e_hE_0_91_1
  have e_hE_0_91_2 := funext hE_0_91_2; subst e_hE_0_91_2
  have e_hE_0_92_1 := funext hE_0_92_1; subst e_hE_0_92_1
  have e_hE_0_92_2 := funext hE_0_92_2; subst e_hE_0_92_2
  first
    | omega
    | (have h := auw_step (g_zq := 80) ‹AUW _ _ _ _ _ _ _› (by omega) (by assumption) (by omega); omega)
def o_Mo_augment_29 : or_T := (252, 27, [(0, (2, 0, 0, [165])), (1, (0, 2, 78, [])), (2, (0, 0, 76, [])), (3, (0, 1, 77, [])), (4, (0, -2, 180000001, [])), (5, (2, 0, 0, [165])), (6, (0, 2, 79, [])), (7, (0, 0, 76, [])), (8, (0, 1, 77, [])), (10, (0, 1, 79, [])), (11, (0, 0, 1000000, [])), (12, (0, 0, 77, [])), (13, (0, -2, 80, [])), (14, (2, 0, 0, [227])), (15, (2, 0, 0, [228])), (16, (0, 0, 77, [])), (17, (0, 0, 6083, [])), (18, (0, 0, 6083, [])), (19, (0, 0, 410000000, [])), (20, (0, 0, 410000000, [])), (21, (0, 0, 6083, [])), (22, (0, 0, 77, [])), (23, (0, 0, 6083, [])), (24, (0, 0, 410000000, [])), (25, (0, 0, 410000000, [])), (26, (0, 0, 77, []))], [(10, [26, 15, 12], []), (9, [15, 5], [91]), (20, [7, 6], [50, 0, 0, 0, 6, 4, 2, 1, 0, 0, 1, 1, 1]), (20, [8, 6], [50, 0, 0, 0, 6, 4, 2, 1, 0, 0, 1, 1, 1]), (20, [6], [50, 0, 0, 0, 2, 1, 0, 0, 78]), (20, [6, 5], [50, 1, 0, 1079, 1, 2, 1, 0, 4, 3, 2, 1, 79, 0, 2]), (20, [7, 5], [50, 1, 0, 1079, 1, 2, 1, 0, 2, 1, 79]), (20, [8, 5], [50, 1, 0, 1079, 1, 2, 1, 0, 4, 3, 2, 1, 79, 0, 1]), (20, [5, 6, 7, 10, 12, 13], [60, 0, 2, 394, 92, 91]), (24, [0, 5], []), (24, [1, 6], []), (24, [2, 7], []), (24, [3, 8], []), (100, [14, 23, 25], []), (1, [25, 24, 11], []), (10, [24, 14, 23], []), (1, [23, 21, 22], []), (10, [22, 15, 12], []), (3, [21, 6, 12], []), (9, [14, 5], [90]), (20, [7, 6], [50, 0, 0, 0, 6, 4, 2, 1, 0, 0, 1, 1, 1]), (20, [8, 6], [50, 0, 0, 0, 6, 4, 2, 1, 0, 0, 1, 1, 1]), (20, [6], [50, 0, 0, 0, 2, 1, 0, 0, 78]), (20, [6, 5], [50, 1, 0, 1079, 1, 2, 1, 0, 4, 3, 2, 1, 79, 0, 2]), (20, [7, 5], [50, 1, 0, 1079, 1, 2, 1, 0, 2, 1, 79]), (20, [8, 5], [50, 1, 0, 1079, 1, 2, 1, 0, 4, 3, 2, 1, 79, 0, 1]), (20, [5, 6, 7, 10, 12, 13], [60, 0, 2, 394, 92, 91]), (100, [14, 18, 20], []), (2, [20, 19, 11], []), (10, [19, 14, 18], []), (1, [18, 17, 12], []), (3, [17, 6, 16], []), (10, [16, 15, 12], []), (7, [12, 7], [1]), (20, [7, 6], [50, 0, 0, 0, 6, 4, 2, 1, 0, 0, 1, 1, 1]), (20, [8, 6], [50, 0, 0, 0, 6, 4, 2, 1, 0, 0, 1, 1, 1]), (20, [6], [50, 0, 0, 0, 2, 1, 0, 0, 78]), (20, [6, 5], [50, 1, 0, 1079, 1, 2, 1, 0, 4, 3, 2, 1, 79, 0, 2]), (20, [7, 5], [50, 1, 0, 1079, 1, 2, 1, 0, 2, 1, 79]), (20, [8, 5], [50, 1, 0, 1079, 1, 2, 1, 0, 4, 3, 2, 1, 79, 0, 1]), (20, [5, 11, 12, 4], [60, 3, 10, 408, 79, 80, 81, 90, 91, 82, 83, 84, 85, 86, 87, 88, 89]), (20, [5, 6, 7, 10, 12, 13], [60, 0, 2, 394, 92, 91])], [], [(0, -2, 80, [])], [(20, [7, 6], [50, 0, 0, 0, 6, 4, 2, 1, 0, 0, 1, 1, 1]), (20, [8, 6], [50, 0, 0, 0, 6, 4, 2, 1, 0, 0, 1, 1, 1]), (20, [6], [50, 0, 0, 0, 2, 1, 0, 0, 78]), (20, [6, 5], [50, 1, 0, 1079, 1, 2, 1, 0, 4, 3, 2, 1, 79, 0, 2]), (20, [7, 5], [50, 1, 0, 1079, 1, 2, 1, 0, 2, 1, 79]), (20, [8, 5], [50, 1, 0, 1079, 1, 2, 1, 0, 4, 3, 2, 1, 79, 0, 1]), (20, [5, 11, 26, 4], [60, 3, 10, 408, 79, 80, 81, 90, 91, 82, 83, 84, 85, 86, 87, 88, 89]), (20, [5, 6, 7, 10, 26, 27], [60, 0, 2, 429, 92, 91]), (23, [27], [-1, -1]), (24, [0, 5], []), (24, [1, 6], []), (24, [2, 7], []), (24, [3, 8], [])], [(27, 13, 0, 0)], [(25, 11, 0, 410000000), (25, 24, 0, 1000000), (23, 22, 0, 6083), (23, 21, 0, 77), (20, 19, -1000000, 0), (18, 12, 0, 6083), (18, 17, 0, 77), (1, 6, -4294967296, 0), (2, 7, -4294967296, 0), (3, 8, -4294967296, 0), (6, 1, -4294967296, 0), (7, 2, -4294967296, 0), (8, 3, -4294967296, 0)])
theorem oo_Mo_augment_29 {kA : Nat → ClassId} : or_ok PRD kA GG o_Mo_augment_29 := by
  refine or_mk fun A ta ws vs hD hth hl => ?_
  intro t0 r0 t1 k1 t2 k2 t3 k3 t4 k4 t5 r5 t6 k6 t7 k7 t8 k8 t10 k10 t11 k11 t12 k12 t13 k13 t14 r14 t15 r15 t16 k16 t17 k17 t18 k18 t19 k19 t20 k20 t21 k21 t22 k22 t23 k23 t24 k24 t25 k25 t26 k26 d0 d1 d2 d3 d4 d5 d6 d7 d8 d9 d10 d11 d12 f0 f1 f2 f3 f4 f5 f6 f7 f8 f9 f10 f11 f12 ta1 w1 le1 s1 f14 f15 f16 f17 f18 f19 f20 f21 f22 f23 f24 f25 f26 ta2 w2 le2 s2 f28 f29 f30 f31 f32 f33 f34 f35 f36 f37 f38 f39 f40 f41
  replace f0 := shm_107 f0
  replace f1 := shm_949 f1
  replace f2 := shm_396 f2
  replace f3 := shm_396 f3
  replace f4 := shm_941 f4
  replace f5 := shm_942 f5
  replace f6 := shm_943 f6
  replace f7 := shm_944 f7
  replace f8 := shm_955 f8
  replace f9 := shm_5 f9
  replace f10 := shm_5 f10
  replace f11 := shm_5 f11
  replace f12 := shm_5 f12
  have s1 : (∀ b j, w_el ws b j = if b = v_ad (n_v vs 14) ∧ j = (v_iv (n_v vs 23)).toNat then v_iv (n_v vs 25) else w_el w1 b j) ∧ ∀ b k, w_fd ws b k = w_fd w1 b k := s1.2
  replace f14 := shm_12 f14
  replace f15 := shm_107 f15
  replace f16 := shm_12 f16
  replace f17 := shm_107 f17
  replace f18 := shm_38 f18
  replace f19 := shm_962 f19
  replace f20 := shm_396 f20
  replace f21 := shm_396 f21
  replace f22 := shm_941 f22
  replace f23 := shm_942 f23
  replace f24 := shm_943 f24
  replace f25 := shm_944 f25
  replace f26 := shm_955 f26
  have s2 : (∀ b j, w_el w1 b j = if b = v_ad (n_v vs 14) ∧ j = (v_iv (n_v vs 18)).toNat then v_iv (n_v vs 20) else w_el w2 b j) ∧ ∀ b k, w_fd w1 b k = w_fd w2 b k := s2.2
  replace f28 := shm_14 f28
  replace f29 := shm_107 f29
  replace f30 := shm_12 f30
  replace f31 := shm_38 f31
  replace f32 := shm_107 f32
  replace f33 := shm_40 f33
  replace f34 := shm_396 f34
  replace f35 := shm_396 f35
  replace f36 := shm_941 f36
  replace f37 := shm_942 f37
  replace f38 := shm_943 f38
  replace f39 := shm_944 f39
  replace f40 := shm_964 f40
  replace f41 := shm_955 f41
  have q5 : n_v vs 5 = n_v vs 0 := f9.symm
  have q6 : n_v vs 6 = n_v vs 1 := f10.symm
  have q7 : n_v vs 7 = n_v vs 2 := f11.symm
  have q8 : n_v vs 8 = n_v vs 3 := f12.symm
  simp only [q5, q6, q7, q8] at f1 f2 f3 f4 f5 f6 f7 f8 f18 f19 f20 f21 f22 f23 f24 f25 f26 f31 f33 f34 f35 f36 f37 f38 f39 f40 f41
  have ar_0_82_1 : w_ar w1 (n_v vs 0) 82 = w_ar ws (n_v vs 0) 82 := congrArg v_ad (s1.2 _ _).symm
  have ar_0_82_2 : w_ar w2 (n_v vs 0) 82 = w_ar ws (n_v vs 0) 82 := by rw [← ar_0_82_1]; show v_ad (w_fd w2 _ _) = v_ad (w_fd w1 _ _); rw [s2.2]
  have cr_0_82 := fdq_230 hD hth r0
  have ar_0_83_1 : w_ar w1 (n_v vs 0) 83 = w_ar ws (n_v vs 0) 83 := congrArg v_ad (s1.2 _ _).symm
  have ar_0_83_2 : w_ar w2 (n_v vs 0) 83 = w_ar ws (n_v vs 0) 83 := by rw [← ar_0_83_1]; show v_ad (w_fd w2 _ _) = v_ad (w_fd w1 _ _); rw [s2.2]
  have cr_0_83 := fdq_126 hD hth r0
  have ar_0_84_1 : w_ar w1 (n_v vs 0) 84 = w_ar ws (n_v vs 0) 84 := congrArg v_ad (s1.2 _ _).symm
  have ar_0_84_2 : w_ar w2 (n_v vs 0) 84 = w_ar ws (n_v vs 0) 84 := by rw [← ar_0_84_1]; show v_ad (w_fd w2 _ _) = v_ad (w_fd w1 _ _); rw [s2.2]
  have cr_0_84 := fdq_127 hD hth r0
  have ar_0_85_1 : w_ar w1 (n_v vs 0) 85 = w_ar ws (n_v vs 0) 85 := congrArg v_ad (s1.2 _ _).symm
  have ar_0_85_2 : w_ar w2 (n_v vs 0) 85 = w_ar ws (n_v vs 0) 85 := by rw [← ar_0_85_1]; show v_ad (w_fd w2 _ _) = v_ad (w_fd w1 _ _); rw [s2.2]
  have cr_0_85 := fdq_128 hD hth r0
  have ar_0_86_1 : w_ar w1 (n_v vs 0) 86 = w_ar ws (n_v vs 0) 86 := congrArg v_ad (s1.2 _ _).symm
  have ar_0_86_2 : w_ar w2 (n_v vs 0) 86 = w_ar ws (n_v vs 0) 86 := by rw [← ar_0_86_1]; show v_ad (w_fd w2 _ _) = v_ad (w_fd w1 _ _); rw [s2.2]
  have cr_0_86 := fdq_129 hD hth r0
  have ar_0_87_1 : w_ar w1 (n_v vs 0) 87 = w_ar ws (n_v vs 0) 87 := congrArg v_ad (s1.2 _ _).symm
  have ar_0_87_2 : w_ar w2 (n_v vs 0) 87 = w_ar ws (n_v vs 0) 87 := by rw [← ar_0_87_1]; show v_ad (w_fd w2 _ _) = v_ad (w_fd w1 _ _); rw [s2.2]
  have cr_0_87 := fdq_119 hD hth r0
  have ar_0_88_1 : w_ar w1 (n_v vs 0) 88 = w_ar ws (n_v vs 0) 88 := congrArg v_ad (s1.2 _ _).symm
  have ar_0_88_2 : w_ar w2 (n_v vs 0) 88 = w_ar ws (n_v vs 0) 88 := by rw [← ar_0_88_1]; show v_ad (w_fd w2 _ _) = v_ad (w_fd w1 _ _); rw [s2.2]
  have cr_0_88 := fdq_120 hD hth r0
  have ar_0_89_1 : w_ar w1 (n_v vs 0) 89 = w_ar ws (n_v vs 0) 89 := congrArg v_ad (s1.2 _ _).symm
  have ar_0_89_2 : w_ar w2 (n_v vs 0) 89 = w_ar ws (n_v vs 0) 89 := by rw [← ar_0_89_1]; show v_ad (w_fd w2 _ _) = v_ad (w_fd w1 _ _); rw [s2.2]
  have cr_0_89 := fdq_121 hD hth r0
  have ar_0_90_1 : w_ar w1 (n_v vs 0) 90 = w_ar ws (n_v vs 0) 90 := congrArg v_ad (s1.2 _ _).symm
  have ar_0_90_2 : w_ar w2 (n_v vs 0) 90 = w_ar ws (n_v vs 0) 90 := by rw [← ar_0_90_1]; show v_ad (w_fd w2 _ _) = v_ad (w_fd w1 _ _); rw [s2.2]
  have cr_0_90 := fdq_231 hD hth r0
  have ar_0_91_1 : w_ar w1 (n_v vs 0) 91 = w_ar ws (n_v vs 0) 91 := congrArg v_ad (s1.2 _ _).symm
  have ar_0_91_2 : w_ar w2 (n_v vs 0) 91 = w_ar ws (n_v vs 0) 91 := by rw [← ar_0_91_1]; show v_ad (w_fd w2 _ _) = v_ad (w_fd w1 _ _); rw [s2.2]
  have cr_0_91 := fdq_232 hD hth r0
  have ar_0_92_1 : w_ar w1 (n_v vs 0) 92 = w_ar ws (n_v vs 0) 92 := congrArg v_ad (s1.2 _ _).symm
  have ar_0_92_2 : w_ar w2 (n_v vs 0) 92 = w_ar ws (n_v vs 0) 92 := by rw [← ar_0_92_1]; show v_ad (w_fd w2 _ _) = v_ad (w_fd w1 _ _); rw [s2.2]
  have cr_0_92 := fdq_233 hD hth r0
  have ad_15 : v_ad (n_v vs 15) = w_ar ws (n_v vs 0) 91 := congrArg v_ad f1
  have ad_14 : v_ad (n_v vs 14) = w_ar ws (n_v vs 0) 90 := (congrArg v_ad f19).trans ar_0_90_1
  simp only [ad_15] at f0
  have h0 : v_iv (n_v vs 26) = w_ei ws (w_ar ws (n_v vs 0) 91) (v_iv (n_v vs 12)) := f0
  simp only [ad_14] at f15
  have h15 : v_iv (n_v vs 24) = w_ei w1 (w_ar ws (n_v vs 0) 90) (v_iv (n_v vs 23)) := f15
  simp only [ad_15] at f17
  have h17 : v_iv (n_v vs 22) = w_ei w1 (w_ar ws (n_v vs 0) 91) (v_iv (n_v vs 12)) := f17
  simp only [ar_0_91_1, ar_0_92_1, ad_14] at f26 f29
  have h29 : v_iv (n_v vs 19) = w_ei w2 (w_ar ws (n_v vs 0) 90) (v_iv (n_v vs 18)) := f29
  simp only [ad_15] at f32
  have h32 : v_iv (n_v vs 16) = w_ei w2 (w_ar ws (n_v vs 0) 91) (v_iv (n_v vs 12)) := f32
  simp only [ar_0_82_2, ar_0_83_2, ar_0_84_2, ar_0_85_2, ar_0_86_2, ar_0_87_2, ar_0_88_2, ar_0_89_2, ar_0_90_2, ar_0_91_2, ar_0_92_2] at f40 f41
  have fe_0_79_1 : w_fi ws (n_v vs 0) 79 = w_fi w1 (n_v vs 0) 79 := congrArg v_iv (s1.2 _ _)
  have fe_0_80_1 : w_fi ws (n_v vs 0) 80 = w_fi w1 (n_v vs 0) 80 := congrArg v_iv (s1.2 _ _)
  have fe_0_81_1 : w_fi ws (n_v vs 0) 81 = w_fi w1 (n_v vs 0) 81 := congrArg v_iv (s1.2 _ _)
  have fe_0_79_2 : w_fi w1 (n_v vs 0) 79 = w_fi w2 (n_v vs 0) 79 := congrArg v_iv (s2.2 _ _)
  have fe_0_80_2 : w_fi w1 (n_v vs 0) 80 = w_fi w2 (n_v vs 0) 80 := congrArg v_iv (s2.2 _ _)
  have fe_0_81_2 : w_fi w1 (n_v vs 0) 81 = w_fi w2 (n_v vs 0) 81 := congrArg v_iv (s2.2 _ _)
  have hE_0_82_1 : ∀ j : Int, w_ei ws (w_ar ws (n_v vs 0) 82) j = w_ei w1 (w_ar ws (n_v vs 0) 82) j := el_kp s1.1 r14 cr_0_82 (by decide)
  have hE_0_82_2 : ∀ j : Int, w_ei w1 (w_ar ws (n_v vs 0) 82) j = w_ei w2 (w_ar ws (n_v vs 0) 82) j := el_kp s2.1 r14 cr_0_82 (by decide)
  have hK_0_82 := elq_143 hD hth cr_0_82
  have hE_0_83_1 : ∀ j : Int, w_ei ws (w_ar ws (n_v vs 0) 83) j = w_ei w1 (w_ar ws (n_v vs 0) 83) j := el_kp s1.1 r14 cr_0_83 (by decide)
  have hE_0_83_2 : ∀ j : Int, w_ei w1 (w_ar ws (n_v vs 0) 83) j = w_ei w2 (w_ar ws (n_v vs 0) 83) j := el_kp s2.1 r14 cr_0_83 (by decide)
  have hK_0_83 := elq_67 hD hth cr_0_83
  have hE_0_84_1 : ∀ j : Int, w_ei ws (w_ar ws (n_v vs 0) 84) j = w_ei w1 (w_ar ws (n_v vs 0) 84) j := el_kp s1.1 r14 cr_0_84 (by decide)
  have hE_0_84_2 : ∀ j : Int, w_ei w1 (w_ar ws (n_v vs 0) 84) j = w_ei w2 (w_ar ws (n_v vs 0) 84) j := el_kp s2.1 r14 cr_0_84 (by decide)
  have hK_0_84 := elq_68 hD hth cr_0_84
  have hE_0_85_1 : ∀ j : Int, w_ei ws (w_ar ws (n_v vs 0) 85) j = w_ei w1 (w_ar ws (n_v vs 0) 85) j := el_kp s1.1 r14 cr_0_85 (by decide)
  have hE_0_85_2 : ∀ j : Int, w_ei w1 (w_ar ws (n_v vs 0) 85) j = w_ei w2 (w_ar ws (n_v vs 0) 85) j := el_kp s2.1 r14 cr_0_85 (by decide)
  have hK_0_85 := elq_69 hD hth cr_0_85
  have hE_0_86_1 : ∀ j : Int, w_ei ws (w_ar ws (n_v vs 0) 86) j = w_ei w1 (w_ar ws (n_v vs 0) 86) j := el_kp s1.1 r14 cr_0_86 (by decide)
  have hE_0_86_2 : ∀ j : Int, w_ei w1 (w_ar ws (n_v vs 0) 86) j = w_ei w2 (w_ar ws (n_v vs 0) 86) j := el_kp s2.1 r14 cr_0_86 (by decide)
  have hK_0_86 := elq_70 hD hth cr_0_86
  have hE_0_87_1 : ∀ j : Int, w_ei ws (w_ar ws (n_v vs 0) 87) j = w_ei w1 (w_ar ws (n_v vs 0) 87) j := el_kp s1.1 r14 cr_0_87 (by decide)
  have hE_0_87_2 : ∀ j : Int, w_ei w1 (w_ar ws (n_v vs 0) 87) j = w_ei w2 (w_ar ws (n_v vs 0) 87) j := el_kp s2.1 r14 cr_0_87 (by decide)
  have hK_0_87 := elq_62 hD hth cr_0_87
  have hE_0_88_1 : ∀ j : Int, w_ei ws (w_ar ws (n_v vs 0) 88) j = w_ei w1 (w_ar ws (n_v vs 0) 88) j := el_kp s1.1 r14 cr_0_88 (by decide)
  have hE_0_88_2 : ∀ j : Int, w_ei w1 (w_ar ws (n_v vs 0) 88) j = w_ei w2 (w_ar ws (n_v vs 0) 88) j := el_kp s2.1 r14 cr_0_88 (by decide)
  have hK_0_88 := elq_63 hD hth cr_0_88
  have hE_0_89_1 : ∀ j : Int, w_ei ws (w_ar ws (n_v vs 0) 89) j = w_ei w1 (w_ar ws (n_v vs 0) 89) j := el_kp s1.1 r14 cr_0_89 (by decide)
  have hE_0_89_2 : ∀ j : Int, w_ei w1 (w_ar ws (n_v vs 0) 89) j = w_ei w2 (w_ar ws (n_v vs 0) 89) j := el_kp s2.1 r14 cr_0_89 (by decide)
  have hK_0_89 := elq_64 hD hth cr_0_89
  have hE_0_90_1 : ∀ j : Int, 0 ≤ j → (j = v_iv (n_v vs 23) → w_ei ws (w_ar ws (n_v vs 0) 90) j = v_iv (n_v vs 25)) ∧ (j ≠ v_iv (n_v vs 23) → w_ei ws (w_ar ws (n_v vs 0) 90) j = w_ei w1 (w_ar ws (n_v vs 0) 90) j) := fun j hj => ⟨fun h => by unfold w_ei; rw [s1.1, if_pos ⟨ad_14.symm, by rw [h]⟩], fun h => by unfold w_ei; rw [s1.1, if_neg (fun e => h (by have := e.2; omega))]⟩
  have hE_0_90_2 : ∀ j : Int, 0 ≤ j → (j = v_iv (n_v vs 18) → w_ei w1 (w_ar ws (n_v vs 0) 90) j = v_iv (n_v vs 20)) ∧ (j ≠ v_iv (n_v vs 18) → w_ei w1 (w_ar ws (n_v vs 0) 90) j = w_ei w2 (w_ar ws (n_v vs 0) 90) j) := fun j hj => ⟨fun h => by unfold w_ei; rw [s2.1, if_pos ⟨ad_14.symm, by rw [h]⟩], fun h => by unfold w_ei; rw [s2.1, if_neg (fun e => h (by have := e.2; omega))]⟩
  have hK_0_90 := elq_144 hD hth cr_0_90
  have hE_0_91_1 : ∀ j : Int, w_ei ws (w_ar ws (n_v vs 0) 91) j = w_ei w1 (w_ar ws (n_v vs 0) 91) j := el_kp s1.1 r14 cr_0_91 (by decide)
  have hE_0_91_2 : ∀ j : Int, w_ei w1 (w_ar ws (n_v vs 0) 91) j = w_ei w2 (w_ar ws (n_v vs 0) 91) j := el_kp s2.1 r14 cr_0_91 (by decide)
  have hK_0_91 := elq_145 hD hth cr_0_91
  have hE_0_92_1 : ∀ j : Int, w_ei ws (w_ar ws (n_v vs 0) 92) j = w_ei w1 (w_ar ws (n_v vs 0) 92) j := el_kp s1.1 r14 cr_0_92 (by decide)
  have hE_0_92_2 : ∀ j : Int, w_ei w1 (w_ar ws (n_v vs 0) 92) j = w_ei w2 (w_ar ws (n_v vs 0) 92) j := el_kp s2.1 r14 cr_0_92 (by decide)
  have hK_0_92 := elq_146 hD hth cr_0_92
  have kz_0_79 := fdq_147 hD hth r0
  have kz_0_80 := fdq_131 hD hth r0
  have kz_0_81 := fdq_124 hD hth r0
  obtain ⟨x, ex, hx⟩ := iv_ex (ta := ta) (lo := (-2)) (hi := 80) (z := 0 + (1 * v_iv (n_v vs 13) + 0)) (by omega) (by omega) (by omega) (by omega)
  have ex2 : v_iv (Value.int x) = 0 + (1 * v_iv (n_v vs 13) + 0) := ex
  have ex3 : (-2) ≤ v_iv (Value.int x) ∧ v_iv (Value.int x) ≤ 80 := tv_rng hx
  have e_0 : n_v (vs ++ [Value.int x]) 0 = n_v vs 0 := n_v_old (by rw [hl]; decide)
  have e_1 : n_v (vs ++ [Value.int x]) 1 = n_v vs 1 := n_v_old (by rw [hl]; decide)
  have e_2 : n_v (vs ++ [Value.int x]) 2 = n_v vs 2 := n_v_old (by rw [hl]; decide)
  have e_3 : n_v (vs ++ [Value.int x]) 3 = n_v vs 3 := n_v_old (by rw [hl]; decide)
  have e_4 : n_v (vs ++ [Value.int x]) 4 = n_v vs 4 := n_v_old (by rw [hl]; decide)
  have e_5 : n_v (vs ++ [Value.int x]) 5 = n_v vs 5 := n_v_old (by rw [hl]; decide)
  have e_6 : n_v (vs ++ [Value.int x]) 6 = n_v vs 6 := n_v_old (by rw [hl]; decide)
  have e_7 : n_v (vs ++ [Value.int x]) 7 = n_v vs 7 := n_v_old (by rw [hl]; decide)
  have e_8 : n_v (vs ++ [Value.int x]) 8 = n_v vs 8 := n_v_old (by rw [hl]; decide)
  have e_10 : n_v (vs ++ [Value.int x]) 10 = n_v vs 10 := n_v_old (by rw [hl]; decide)
  have e_11 : n_v (vs ++ [Value.int x]) 11 = n_v vs 11 := n_v_old (by rw [hl]; decide)
  have e_26 : n_v (vs ++ [Value.int x]) 26 = n_v vs 26 := n_v_old (by rw [hl]; decide)
  have e_27 : n_v (vs ++ [Value.int x]) 27 = Value.int x := n_v_new hl
  have nf0 : fc_1 PRD (20, [7, 6], [50, 0, 0, 0, 6, 4, 2, 1, 0, 0, 1, 1, 1]) ws (vs ++ [Value.int x]) := by
    refine ⟨nf_inA hl rfl, sgq_396 ?_⟩
    · show (v_iv (n_v (vs ++ [Value.int x]) 7) + 1) ≤ v_iv (n_v (vs ++ [Value.int x]) 6)
      simp only [e_6, e_7, q6, q7]
      exact vc_Mo_augment_29_0 (v_iv (n_v vs 1)) (v_iv (n_v vs 2)) (w_ei ws (w_ar ws (n_v vs 0) 91)) (w_fi ws (n_v vs 0) 79) (w_ei ws (w_ar ws (n_v vs 0) 92)) (w_ei w1 (w_ar ws (n_v vs 0) 91)) (w_fi w1 (n_v vs 0) 79) (w_ei w1 (w_ar ws (n_v vs 0) 92)) (w_ei w2 (w_ar ws (n_v vs 0) 91)) (w_fi w2 (n_v vs 0) 79) (w_ei w2 (w_ar ws (n_v vs 0) 82)) (w_ei w2 (w_ar ws (n_v vs 0) 83)) (w_ei w2 (w_ar ws (n_v vs 0) 84)) (w_ei w2 (w_ar ws (n_v vs 0) 85)) (w_ei w2 (w_ar ws (n_v vs 0) 86)) (w_ei w2 (w_ar ws (n_v vs 0) 87)) (w_ei w2 (w_ar ws (n_v vs 0) 88)) (w_ei w2 (w_ar ws (n_v vs 0) 89)) (w_fi w2 (n_v vs 0) 80) (w_fi w2 (n_v vs 0) 81) (w_ei w2 (w_ar ws (n_v vs 0) 92)) (w_fi ws (n_v vs 0) 80) (w_fi w1 (n_v vs 0) 80) (w_fi ws (n_v vs 0) 81) (w_fi w1 (n_v vs 0) 81) (w_ei ws (w_ar ws (n_v vs 0) 82)) (w_ei w1 (w_ar ws (n_v vs 0) 82)) (w_ei ws (w_ar ws (n_v vs 0) 83)) (w_ei w1 (w_ar ws (n_v vs 0) 83)) (w_ei ws (w_ar ws (n_v vs 0) 84)) (w_ei w1 (w_ar ws (n_v vs 0) 84)) (w_ei ws (w_ar ws (n_v vs 0) 85)) (w_ei w1 (w_ar ws (n_v vs 0) 85)) (w_ei ws (w_ar ws (n_v vs 0) 86)) (w_ei w1 (w_ar ws (n_v vs 0) 86)) (w_ei ws (w_ar ws (n_v vs 0) 87)) (w_ei w1 (w_ar ws (n_v vs 0) 87)) (w_ei ws (w_ar ws (n_v vs 0) 88)) (w_ei w1 (w_ar ws (n_v vs 0) 88)) (w_ei ws (w_ar ws (n_v vs 0) 89)) (w_ei w1 (w_ar ws (n_v vs 0) 89)) k1 k2 f34 fe_0_79_1 fe_0_80_1 fe_0_81_1 fe_0_79_2 fe_0_80_2 fe_0_81_2 hE_0_82_1 hE_0_82_2 hE_0_83_1 hE_0_83_2 hE_0_84_1 hE_0_84_2 hE_0_85_1 hE_0_85_2 hE_0_86_1 hE_0_86_2 hE_0_87_1 hE_0_87_2 hE_0_88_1 hE_0_88_2 hE_0_89_1 hE_0_89_2 hE_0_91_1 hE_0_91_2 hE_0_92_1 hE_0_92_2 kz_0_79 kz_0_80 kz_0_81
  have nf1 : fc_1 PRD (20, [8, 6], [50, 0, 0, 0, 6, 4, 2, 1, 0, 0, 1, 1, 1]) ws (vs ++ [Value.int x]) := by
    refine ⟨nf_inA hl rfl, sgq_396 ?_⟩
    · show (v_iv (n_v (vs ++ [Value.int x]) 8) + 1) ≤ v_iv (n_v (vs ++ [Value.int x]) 6)
      simp only [e_6, e_8, q6, q8]
      exact vc_Mo_augment_29_1 (v_iv (n_v vs 1)) (v_iv (n_v vs 3)) (w_ei ws (w_ar ws (n_v vs 0) 91)) (w_fi ws (n_v vs 0) 79) (w_ei ws (w_ar ws (n_v vs 0) 92)) (w_ei w1 (w_ar ws (n_v vs 0) 91)) (w_fi w1 (n_v vs 0) 79) (w_ei w1 (w_ar ws (n_v vs 0) 92)) (w_ei w2 (w_ar ws (n_v vs 0) 91)) (w_fi w2 (n_v vs 0) 79) (w_ei w2 (w_ar ws (n_v vs 0) 82)) (w_ei w2 (w_ar ws (n_v vs 0) 83)) (w_ei w2 (w_ar ws (n_v vs 0) 84)) (w_ei w2 (w_ar ws (n_v vs 0) 85)) (w_ei w2 (w_ar ws (n_v vs 0) 86)) (w_ei w2 (w_ar ws (n_v vs 0) 87)) (w_ei w2 (w_ar ws (n_v vs 0) 88)) (w_ei w2 (w_ar ws (n_v vs 0) 89)) (w_fi w2 (n_v vs 0) 80) (w_fi w2 (n_v vs 0) 81) (w_ei w2 (w_ar ws (n_v vs 0) 92)) (w_fi ws (n_v vs 0) 80) (w_fi w1 (n_v vs 0) 80) (w_fi ws (n_v vs 0) 81) (w_fi w1 (n_v vs 0) 81) (w_ei ws (w_ar ws (n_v vs 0) 82)) (w_ei w1 (w_ar ws (n_v vs 0) 82)) (w_ei ws (w_ar ws (n_v vs 0) 83)) (w_ei w1 (w_ar ws (n_v vs 0) 83)) (w_ei ws (w_ar ws (n_v vs 0) 84)) (w_ei w1 (w_ar ws (n_v vs 0) 84)) (w_ei ws (w_ar ws (n_v vs 0) 85)) (w_ei w1 (w_ar ws (n_v vs 0) 85)) (w_ei ws (w_ar ws (n_v vs 0) 86)) (w_ei w1 (w_ar ws (n_v vs 0) 86)) (w_ei ws (w_ar ws (n_v vs 0) 87)) (w_ei w1 (w_ar ws (n_v vs 0) 87)) (w_ei ws (w_ar ws (n_v vs 0) 88)) (w_ei w1 (w_ar ws (n_v vs 0) 88)) (w_ei ws (w_ar ws (n_v vs 0) 89)) (w_ei w1 (w_ar ws (n_v vs 0) 89)) k1 k3 f35 fe_0_79_1 fe_0_80_1 fe_0_81_1 fe_0_79_2 fe_0_80_2 fe_0_81_2 hE_0_82_1 hE_0_82_2 hE_0_83_1 hE_0_83_2 hE_0_84_1 hE_0_84_2 hE_0_85_1 hE_0_85_2 hE_0_86_1 hE_0_86_2 hE_0_87_1 hE_0_87_2 hE_0_88_1 hE_0_88_2 hE_0_89_1 hE_0_89_2 hE_0_91_1 hE_0_91_2 hE_0_92_1 hE_0_92_2 kz_0_79 kz_0_80 kz_0_81
  have nf2 : fc_1 PRD (20, [6], [50, 0, 0, 0, 2, 1, 0, 0, 78]) ws (vs ++ [Value.int x]) := by
    refine ⟨nf_inA hl rfl, sgq_941 ?_⟩
    · show v_iv (n_v (vs ++ [Value.int x]) 6) ≤ 78
      simp only [e_6, q6]
      exact vc_Mo_augment_29_2 (v_iv (n_v vs 1)) (w_ei ws (w_ar ws (n_v vs 0) 91)) (w_fi ws (n_v vs 0) 79) (w_ei ws (w_ar ws (n_v vs 0) 92)) (w_ei w1 (w_ar ws (n_v vs 0) 91)) (w_fi w1 (n_v vs 0) 79) (w_ei w1 (w_ar ws (n_v vs 0) 92)) (w_ei w2 (w_ar ws (n_v vs 0) 91)) (w_fi w2 (n_v vs 0) 79) (w_ei w2 (w_ar ws (n_v vs 0) 82)) (w_ei w2 (w_ar ws (n_v vs 0) 83)) (w_ei w2 (w_ar ws (n_v vs 0) 84)) (w_ei w2 (w_ar ws (n_v vs 0) 85)) (w_ei w2 (w_ar ws (n_v vs 0) 86)) (w_ei w2 (w_ar ws (n_v vs 0) 87)) (w_ei w2 (w_ar ws (n_v vs 0) 88)) (w_ei w2 (w_ar ws (n_v vs 0) 89)) (w_fi w2 (n_v vs 0) 80) (w_fi w2 (n_v vs 0) 81) (w_ei w2 (w_ar ws (n_v vs 0) 92)) (w_fi ws (n_v vs 0) 80) (w_fi w1 (n_v vs 0) 80) (w_fi ws (n_v vs 0) 81) (w_fi w1 (n_v vs 0) 81) (w_ei ws (w_ar ws (n_v vs 0) 82)) (w_ei w1 (w_ar ws (n_v vs 0) 82)) (w_ei ws (w_ar ws (n_v vs 0) 83)) (w_ei w1 (w_ar ws (n_v vs 0) 83)) (w_ei ws (w_ar ws (n_v vs 0) 84)) (w_ei w1 (w_ar ws (n_v vs 0) 84)) (w_ei ws (w_ar ws (n_v vs 0) 85)) (w_ei w1 (w_ar ws (n_v vs 0) 85)) (w_ei ws (w_ar ws (n_v vs 0) 86)) (w_ei w1 (w_ar ws (n_v vs 0) 86)) (w_ei ws (w_ar ws (n_v vs 0) 87)) (w_ei w1 (w_ar ws (n_v vs 0) 87)) (w_ei ws (w_ar ws (n_v vs 0) 88)) (w_ei w1 (w_ar ws (n_v vs 0) 88)) (w_ei ws (w_ar ws (n_v vs 0) 89)) (w_ei w1 (w_ar ws (n_v vs 0) 89)) k1 f36 fe_0_79_1 fe_0_80_1 fe_0_81_1 fe_0_79_2 fe_0_80_2 fe_0_81_2 hE_0_82_1 hE_0_82_2 hE_0_83_1 hE_0_83_2 hE_0_84_1 hE_0_84_2 hE_0_85_1 hE_0_85_2 hE_0_86_1 hE_0_86_2 hE_0_87_1 hE_0_87_2 hE_0_88_1 hE_0_88_2 hE_0_89_1 hE_0_89_2 hE_0_91_1 hE_0_91_2 hE_0_92_1 hE_0_92_2 kz_0_79 kz_0_80 kz_0_81
  have nf3 : fc_1 PRD (20, [6, 5], [50, 1, 0, 1079, 1, 2, 1, 0, 4, 3, 2, 1, 79, 0, 2]) ws (vs ++ [Value.int x]) := by
    refine ⟨nf_inA hl rfl, sgq_942 ?_⟩
    · show v_iv (n_v (vs ++ [Value.int x]) 6) = (w_fi ws (n_v (vs ++ [Value.int x]) 5) 79 + 2)
      simp only [e_5, e_6, q5, q6]
      exact vc_Mo_augment_29_3 (v_iv (n_v vs 1)) (w_ei ws (w_ar ws (n_v vs 0) 91)) (w_fi ws (n_v vs 0) 79) (w_ei ws (w_ar ws (n_v vs 0) 92)) (w_ei w1 (w_ar ws (n_v vs 0) 91)) (w_fi w1 (n_v vs 0) 79) (w_ei w1 (w_ar ws (n_v vs 0) 92)) (w_ei w2 (w_ar ws (n_v vs 0) 91)) (w_fi w2 (n_v vs 0) 79) (w_ei w2 (w_ar ws (n_v vs 0) 82)) (w_ei w2 (w_ar ws (n_v vs 0) 83)) (w_ei w2 (w_ar ws (n_v vs 0) 84)) (w_ei w2 (w_ar ws (n_v vs 0) 85)) (w_ei w2 (w_ar ws (n_v vs 0) 86)) (w_ei w2 (w_ar ws (n_v vs 0) 87)) (w_ei w2 (w_ar ws (n_v vs 0) 88)) (w_ei w2 (w_ar ws (n_v vs 0) 89)) (w_fi w2 (n_v vs 0) 80) (w_fi w2 (n_v vs 0) 81) (w_ei w2 (w_ar ws (n_v vs 0) 92)) (w_fi ws (n_v vs 0) 80) (w_fi w1 (n_v vs 0) 80) (w_fi ws (n_v vs 0) 81) (w_fi w1 (n_v vs 0) 81) (w_ei ws (w_ar ws (n_v vs 0) 82)) (w_ei w1 (w_ar ws (n_v vs 0) 82)) (w_ei ws (w_ar ws (n_v vs 0) 83)) (w_ei w1 (w_ar ws (n_v vs 0) 83)) (w_ei ws (w_ar ws (n_v vs 0) 84)) (w_ei w1 (w_ar ws (n_v vs 0) 84)) (w_ei ws (w_ar ws (n_v vs 0) 85)) (w_ei w1 (w_ar ws (n_v vs 0) 85)) (w_ei ws (w_ar ws (n_v vs 0) 86)) (w_ei w1 (w_ar ws (n_v vs 0) 86)) (w_ei ws (w_ar ws (n_v vs 0) 87)) (w_ei w1 (w_ar ws (n_v vs 0) 87)) (w_ei ws (w_ar ws (n_v vs 0) 88)) (w_ei w1 (w_ar ws (n_v vs 0) 88)) (w_ei ws (w_ar ws (n_v vs 0) 89)) (w_ei w1 (w_ar ws (n_v vs 0) 89)) k1 f37 fe_0_79_1 fe_0_80_1 fe_0_81_1 fe_0_79_2 fe_0_80_2 fe_0_81_2 hE_0_82_1 hE_0_82_2 hE_0_83_1 hE_0_83_2 hE_0_84_1 hE_0_84_2 hE_0_85_1 hE_0_85_2 hE_0_86_1 hE_0_86_2 hE_0_87_1 hE_0_87_2 hE_0_88_1 hE_0_88_2 hE_0_89_1 hE_0_89_2 hE_0_91_1 hE_0_91_2 hE_0_92_1 hE_0_92_2 kz_0_79 kz_0_80 kz_0_81
  have nf4 : fc_1 PRD (20, [7, 5], [50, 1, 0, 1079, 1, 2, 1, 0, 2, 1, 79]) ws (vs ++ [Value.int x]) := by
    refine ⟨nf_inA hl rfl, sgq_943 ?_⟩
    · show v_iv (n_v (vs ++ [Value.int x]) 7) = w_fi ws (n_v (vs ++ [Value.int x]) 5) 79
      simp only [e_5, e_7, q5, q7]
      exact vc_Mo_augment_29_4 (v_iv (n_v vs 2)) (w_ei ws (w_ar ws (n_v vs 0) 91)) (w_fi ws (n_v vs 0) 79) (w_ei ws (w_ar ws (n_v vs 0) 92)) (w_ei w1 (w_ar ws (n_v vs 0) 91)) (w_fi w1 (n_v vs 0) 79) (w_ei w1 (w_ar ws (n_v vs 0) 92)) (w_ei w2 (w_ar ws (n_v vs 0) 91)) (w_fi w2 (n_v vs 0) 79) (w_ei w2 (w_ar ws (n_v vs 0) 82)) (w_ei w2 (w_ar ws (n_v vs 0) 83)) (w_ei w2 (w_ar ws (n_v vs 0) 84)) (w_ei w2 (w_ar ws (n_v vs 0) 85)) (w_ei w2 (w_ar ws (n_v vs 0) 86)) (w_ei w2 (w_ar ws (n_v vs 0) 87)) (w_ei w2 (w_ar ws (n_v vs 0) 88)) (w_ei w2 (w_ar ws (n_v vs 0) 89)) (w_fi w2 (n_v vs 0) 80) (w_fi w2 (n_v vs 0) 81) (w_ei w2 (w_ar ws (n_v vs 0) 92)) (w_fi ws (n_v vs 0) 80) (w_fi w1 (n_v vs 0) 80) (w_fi ws (n_v vs 0) 81) (w_fi w1 (n_v vs 0) 81) (w_ei ws (w_ar ws (n_v vs 0) 82)) (w_ei w1 (w_ar ws (n_v vs 0) 82)) (w_ei ws (w_ar ws (n_v vs 0) 83)) (w_ei w1 (w_ar ws (n_v vs 0) 83)) (w_ei ws (w_ar ws (n_v vs 0) 84)) (w_ei w1 (w_ar ws (n_v vs 0) 84)) (w_ei ws (w_ar ws (n_v vs 0) 85)) (w_ei w1 (w_ar ws (n_v vs 0) 85)) (w_ei ws (w_ar ws (n_v vs 0) 86)) (w_ei w1 (w_ar ws (n_v vs 0) 86)) (w_ei ws (w_ar ws (n_v vs 0) 87)) (w_ei w1 (w_ar ws (n_v vs 0) 87)) (w_ei ws (w_ar ws (n_v vs 0) 88)) (w_ei w1 (w_ar ws (n_v vs 0) 88)) (w_ei ws (w_ar ws (n_v vs 0) 89)) (w_ei w1 (w_ar ws (n_v vs 0) 89)) k2 f38 fe_0_79_1 fe_0_80_1 fe_0_81_1 fe_0_79_2 fe_0_80_2 fe_0_81_2 hE_0_82_1 hE_0_82_2 hE_0_83_1 hE_0_83_2 hE_0_84_1 hE_0_84_2 hE_0_85_1 hE_0_85_2 hE_0_86_1 hE_0_86_2 hE_0_87_1 hE_0_87_2 hE_0_88_1 hE_0_88_2 hE_0_89_1 hE_0_89_2 hE_0_91_1 hE_0_91_2 hE_0_92_1 hE_0_92_2 kz_0_79 kz_0_80 kz_0_81
  have nf5 : fc_1 PRD (20, [8, 5], [50, 1, 0, 1079, 1, 2, 1, 0, 4, 3, 2, 1, 79, 0, 1]) ws (vs ++ [Value.int x]) := by
    refine ⟨nf_inA hl rfl, sgq_944 ?_⟩
    · show v_iv (n_v (vs ++ [Value.int x]) 8) = (w_fi ws (n_v (vs ++ [Value.int x]) 5) 79 + 1)
      simp only [e_5, e_8, q5, q8]
      exact vc_Mo_augment_29_5 (v_iv (n_v vs 3)) (w_ei ws (w_ar ws (n_v vs 0) 91)) (w_fi ws (n_v vs 0) 79) (w_ei ws (w_ar ws (n_v vs 0) 92)) (w_ei w1 (w_ar ws (n_v vs 0) 91)) (w_fi w1 (n_v vs 0) 79) (w_ei w1 (w_ar ws (n_v vs 0) 92)) (w_ei w2 (w_ar ws (n_v vs 0) 91)) (w_fi w2 (n_v vs 0) 79) (w_ei w2 (w_ar ws (n_v vs 0) 82)) (w_ei w2 (w_ar ws (n_v vs 0) 83)) (w_ei w2 (w_ar ws (n_v vs 0) 84)) (w_ei w2 (w_ar ws (n_v vs 0) 85)) (w_ei w2 (w_ar ws (n_v vs 0) 86)) (w_ei w2 (w_ar ws (n_v vs 0) 87)) (w_ei w2 (w_ar ws (n_v vs 0) 88)) (w_ei w2 (w_ar ws (n_v vs 0) 89)) (w_fi w2 (n_v vs 0) 80) (w_fi w2 (n_v vs 0) 81) (w_ei w2 (w_ar ws (n_v vs 0) 92)) (w_fi ws (n_v vs 0) 80) (w_fi w1 (n_v vs 0) 80) (w_fi ws (n_v vs 0) 81) (w_fi w1 (n_v vs 0) 81) (w_ei ws (w_ar ws (n_v vs 0) 82)) (w_ei w1 (w_ar ws (n_v vs 0) 82)) (w_ei ws (w_ar ws (n_v vs 0) 83)) (w_ei w1 (w_ar ws (n_v vs 0) 83)) (w_ei ws (w_ar ws (n_v vs 0) 84)) (w_ei w1 (w_ar ws (n_v vs 0) 84)) (w_ei ws (w_ar ws (n_v vs 0) 85)) (w_ei w1 (w_ar ws (n_v vs 0) 85)) (w_ei ws (w_ar ws (n_v vs 0) 86)) (w_ei w1 (w_ar ws (n_v vs 0) 86)) (w_ei ws (w_ar ws (n_v vs 0) 87)) (w_ei w1 (w_ar ws (n_v vs 0) 87)) (w_ei ws (w_ar ws (n_v vs 0) 88)) (w_ei w1 (w_ar ws (n_v vs 0) 88)) (w_ei ws (w_ar ws (n_v vs 0) 89)) (w_ei w1 (w_ar ws (n_v vs 0) 89)) k3 f39 fe_0_79_1 fe_0_80_1 fe_0_81_1 fe_0_79_2 fe_0_80_2 fe_0_81_2 hE_0_82_1 hE_0_82_2 hE_0_83_1 hE_0_83_2 hE_0_84_1 hE_0_84_2 hE_0_85_1 hE_0_85_2 hE_0_86_1 hE_0_86_2 hE_0_87_1 hE_0_87_2 hE_0_88_1 hE_0_88_2 hE_0_89_1 hE_0_89_2 hE_0_91_1 hE_0_91_2 hE_0_92_1 hE_0_92_2 kz_0_79 kz_0_80 kz_0_81
  have nf6 : fc_1 PRD (20, [5, 11, 26, 4], [60, 3, 10, 408, 79, 80, 81, 90, 91, 82, 83, 84, 85, 86, 87, 88, 89]) ws (vs ++ [Value.int x]) := by
    refine ⟨nf_inA hl rfl, sgq_964 ?_⟩
    · show PSH (w_fi ws (n_v (vs ++ [Value.int x]) 5) 79) (w_fi ws (n_v (vs ++ [Value.int x]) 5) 80) (w_fi ws (n_v (vs ++ [Value.int x]) 5) 81) (w_ei ws (w_ar ws (n_v (vs ++ [Value.int x]) 5) 90)) (w_ei ws (w_ar ws (n_v (vs ++ [Value.int x]) 5) 91)) (w_ei ws (w_ar ws (n_v (vs ++ [Value.int x]) 5) 82)) (w_ei ws (w_ar ws (n_v (vs ++ [Value.int x]) 5) 83)) (w_ei ws (w_ar ws (n_v (vs ++ [Value.int x]) 5) 84)) (w_ei ws (w_ar ws (n_v (vs ++ [Value.int x]) 5) 85)) (w_ei ws (w_ar ws (n_v (vs ++ [Value.int x]) 5) 86)) (w_ei ws (w_ar ws (n_v (vs ++ [Value.int x]) 5) 87)) (w_ei ws (w_ar ws (n_v (vs ++ [Value.int x]) 5) 88)) (w_ei ws (w_ar ws (n_v (vs ++ [Value.int x]) 5) 89)) (v_iv (n_v (vs ++ [Value.int x]) 11)) (v_iv (n_v (vs ++ [Value.int x]) 26)) (v_iv (n_v (vs ++ [Value.int x]) 4))
      simp only [e_4, e_5, e_11, e_26, q5]
      exact vc_Mo_augment_29_6 (v_iv (n_v vs 1)) (v_iv (n_v vs 2)) (v_iv (n_v vs 4)) (v_iv (n_v vs 10)) (v_iv (n_v vs 11)) (v_iv (n_v vs 12)) (v_iv (n_v vs 13)) (v_iv (n_v vs 16)) (v_iv (n_v vs 17)) (v_iv (n_v vs 18)) (v_iv (n_v vs 19)) (v_iv (n_v vs 20)) (v_iv (n_v vs 21)) (v_iv (n_v vs 22)) (v_iv (n_v vs 23)) (v_iv (n_v vs 24)) (v_iv (n_v vs 25)) (v_iv (n_v vs 26)) (w_ei ws (w_ar ws (n_v vs 0) 91)) (w_fi ws (n_v vs 0) 79) (w_ei ws (w_ar ws (n_v vs 0) 92)) (w_ei w1 (w_ar ws (n_v vs 0) 90)) (w_ei w1 (w_ar ws (n_v vs 0) 91)) (w_fi w1 (n_v vs 0) 79) (w_ei w1 (w_ar ws (n_v vs 0) 92)) (w_ei w2 (w_ar ws (n_v vs 0) 90)) (w_ei w2 (w_ar ws (n_v vs 0) 91)) (w_fi w2 (n_v vs 0) 79) (w_ei w2 (w_ar ws (n_v vs 0) 82)) (w_ei w2 (w_ar ws (n_v vs 0) 83)) (w_ei w2 (w_ar ws (n_v vs 0) 84)) (w_ei w2 (w_ar ws (n_v vs 0) 85)) (w_ei w2 (w_ar ws (n_v vs 0) 86)) (w_ei w2 (w_ar ws (n_v vs 0) 87)) (w_ei w2 (w_ar ws (n_v vs 0) 88)) (w_ei w2 (w_ar ws (n_v vs 0) 89)) (w_fi w2 (n_v vs 0) 80) (w_fi w2 (n_v vs 0) 81) (w_ei w2 (w_ar ws (n_v vs 0) 92)) (w_fi ws (n_v vs 0) 80) (w_fi w1 (n_v vs 0) 80) (w_fi ws (n_v vs 0) 81) (w_fi w1 (n_v vs 0) 81) (w_ei ws (w_ar ws (n_v vs 0) 82)) (w_ei w1 (w_ar ws (n_v vs 0) 82)) (w_ei ws (w_ar ws (n_v vs 0) 83)) (w_ei w1 (w_ar ws (n_v vs 0) 83)) (w_ei ws (w_ar ws (n_v vs 0) 84)) (w_ei w1 (w_ar ws (n_v vs 0) 84)) (w_ei ws (w_ar ws (n_v vs 0) 85)) (w_ei w1 (w_ar ws (n_v vs 0) 85)) (w_ei ws (w_ar ws (n_v vs 0) 86)) (w_ei w1 (w_ar ws (n_v vs 0) 86)) (w_ei ws (w_ar ws (n_v vs 0) 87)) (w_ei w1 (w_ar ws (n_v vs 0) 87)) (w_ei ws (w_ar ws (n_v vs 0) 88)) (w_ei w1 (w_ar ws (n_v vs 0) 88)) (w_ei ws (w_ar ws (n_v vs 0) 89)) (w_ei w1 (w_ar ws (n_v vs 0) 89)) (w_ei ws (w_ar ws (n_v vs 0) 90)) k1 k2 k4 k10 k11 k12 k13 k16 k17 k18 k19 k20 k21 k22 k23 k24 k25 k26 h0 f14 h15 f16 h17 f18 f28 h29 f30 f31 h32 f33 f37 f38 f40 f41 fe_0_79_1 fe_0_80_1 fe_0_81_1 fe_0_79_2 fe_0_80_2 fe_0_81_2 hE_0_82_1 hE_0_82_2 hE_0_83_1 hE_0_83_2 hE_0_84_1 hE_0_84_2 hE_0_85_1 hE_0_85_2 hE_0_86_1 hE_0_86_2 hE_0_87_1 hE_0_87_2 hE_0_88_1 hE_0_88_2 hE_0_89_1 hE_0_89_2 hE_0_90_1 hE_0_90_2 hE_0_91_1 hE_0_91_2 hE_0_92_1 hE_0_92_2 kz_0_79 kz_0_80 kz_0_81
  have nf7 : fc_1 PRD (20, [5, 6, 7, 10, 26, 27], [60, 0, 2, 429, 92, 91]) ws (vs ++ [Value.int x]) := by
    refine ⟨nf_inA hl rfl, sgq_965 ?_⟩
    · show AUX (w_ei ws (w_ar ws (n_v (vs ++ [Value.int x]) 5) 92)) (w_ei ws (w_ar ws (n_v (vs ++ [Value.int x]) 5) 91)) (v_iv (n_v (vs ++ [Value.int x]) 6)) (v_iv (n_v (vs ++ [Value.int x]) 7)) (v_iv (n_v (vs ++ [Value.int x]) 10)) (v_iv (n_v (vs ++ [Value.int x]) 26)) (v_iv (n_v (vs ++ [Value.int x]) 27))
      simp only [e_5, e_6, e_7, e_10, e_26, e_27, q5, q6, q7]
      exact vc_Mo_augment_29_7 (v_iv (n_v vs 1)) (v_iv (n_v vs 2)) (v_iv (n_v vs 10)) (v_iv (n_v vs 12)) (v_iv (n_v vs 13)) (v_iv (n_v vs 26)) (w_ei ws (w_ar ws (n_v vs 0) 91)) (w_fi ws (n_v vs 0) 79) (w_ei ws (w_ar ws (n_v vs 0) 92)) (w_ei w1 (w_ar ws (n_v vs 0) 91)) (w_fi w1 (n_v vs 0) 79) (w_ei w1 (w_ar ws (n_v vs 0) 92)) (w_ei w2 (w_ar ws (n_v vs 0) 91)) (w_fi w2 (n_v vs 0) 79) (w_ei w2 (w_ar ws (n_v vs 0) 82)) (w_ei w2 (w_ar ws (n_v vs 0) 83)) (w_ei w2 (w_ar ws (n_v vs 0) 84)) (w_ei w2 (w_ar ws (n_v vs 0) 85)) (w_ei w2 (w_ar ws (n_v vs 0) 86)) (w_ei w2 (w_ar ws (n_v vs 0) 87)) (w_ei w2 (w_ar ws (n_v vs 0) 88)) (w_ei w2 (w_ar ws (n_v vs 0) 89)) (w_fi w2 (n_v vs 0) 80) (w_fi w2 (n_v vs 0) 81) (w_ei w2 (w_ar ws (n_v vs 0) 92)) (w_fi ws (n_v vs 0) 80) (w_fi w1 (n_v vs 0) 80) (w_fi ws (n_v vs 0) 81) (w_fi w1 (n_v vs 0) 81) (w_ei ws (w_ar ws (n_v vs 0) 82)) (w_ei w1 (w_ar ws (n_v vs 0) 82)) (w_ei ws (w_ar ws (n_v vs 0) 83)) (w_ei w1 (w_ar ws (n_v vs 0) 83)) (w_ei ws (w_ar ws (n_v vs 0) 84)) (w_ei w1 (w_ar ws (n_v vs 0) 84)) (w_ei ws (w_ar ws (n_v vs 0) 85)) (w_ei w1 (w_ar ws (n_v vs 0) 85)) (w_ei ws (w_ar ws (n_v vs 0) 86)) (w_ei w1 (w_ar ws (n_v vs 0) 86)) (w_ei ws (w_ar ws (n_v vs 0) 87)) (w_ei w1 (w_ar ws (n_v vs 0) 87)) (w_ei ws (w_ar ws (n_v vs 0) 88)) (w_ei w1 (w_ar ws (n_v vs 0) 88)) (w_ei ws (w_ar ws (n_v vs 0) 89)) (w_ei w1 (w_ar ws (n_v vs 0) 89)) (v_iv (Value.int x)) k1 k2 k10 k12 k13 k26 h0 f33 f41 fe_0_79_1 fe_0_80_1 fe_0_81_1 fe_0_79_2 fe_0_80_2 fe_0_81_2 hE_0_82_1 hE_0_82_2 hE_0_83_1 hE_0_83_2 hE_0_84_1 hE_0_84_2 hE_0_85_1 hE_0_85_2 hE_0_86_1 hE_0_86_2 hE_0_87_1 hE_0_87_2 hE_0_88_1 hE_0_88_2 hE_0_89_1 hE_0_89_2 hE_0_91_1 hE_0_91_2 hE_0_92_1 hE_0_92_2 kz_0_79 kz_0_80 kz_0_81 ex2
  have nf8 : fc_1 PRD (23, [27], [-1, -1]) ws (vs ++ [Value.int x]) := by
    refine ⟨nf_inA hl rfl, sgq_626 ?_⟩
    · show (-1) * v_iv (n_v (vs ++ [Value.int x]) 27) + 0 ≤ (-1)
      rw [e_27]
      exact vc_Mo_augment_29_8 (v_iv (n_v vs 1)) (v_iv (n_v vs 2)) (v_iv (n_v vs 10)) (v_iv (n_v vs 12)) (v_iv (n_v vs 13)) (v_iv (n_v vs 16)) (w_ei ws (w_ar ws (n_v vs 0) 91)) (w_fi ws (n_v vs 0) 79) (w_ei ws (w_ar ws (n_v vs 0) 92)) (w_ei w1 (w_ar ws (n_v vs 0) 91)) (w_fi w1 (n_v vs 0) 79) (w_ei w1 (w_ar ws (n_v vs 0) 92)) (w_ei w2 (w_ar ws (n_v vs 0) 91)) (w_fi w2 (n_v vs 0) 79) (w_ei w2 (w_ar ws (n_v vs 0) 82)) (w_ei w2 (w_ar ws (n_v vs 0) 83)) (w_ei w2 (w_ar ws (n_v vs 0) 84)) (w_ei w2 (w_ar ws (n_v vs 0) 85)) (w_ei w2 (w_ar ws (n_v vs 0) 86)) (w_ei w2 (w_ar ws (n_v vs 0) 87)) (w_ei w2 (w_ar ws (n_v vs 0) 88)) (w_ei w2 (w_ar ws (n_v vs 0) 89)) (w_fi w2 (n_v vs 0) 80) (w_fi w2 (n_v vs 0) 81) (w_ei w2 (w_ar ws (n_v vs 0) 92)) (w_fi ws (n_v vs 0) 80) (w_fi w1 (n_v vs 0) 80) (w_fi ws (n_v vs 0) 81) (w_fi w1 (n_v vs 0) 81) (w_ei ws (w_ar ws (n_v vs 0) 82)) (w_ei w1 (w_ar ws (n_v vs 0) 82)) (w_ei ws (w_ar ws (n_v vs 0) 83)) (w_ei w1 (w_ar ws (n_v vs 0) 83)) (w_ei ws (w_ar ws (n_v vs 0) 84)) (w_ei w1 (w_ar ws (n_v vs 0) 84)) (w_ei ws (w_ar ws (n_v vs 0) 85)) (w_ei w1 (w_ar ws (n_v vs 0) 85)) (w_ei ws (w_ar ws (n_v vs 0) 86)) (w_ei w1 (w_ar ws (n_v vs 0) 86)) (w_ei ws (w_ar ws (n_v vs 0) 87)) (w_ei w1 (w_ar ws (n_v vs 0) 87)) (w_ei ws (w_ar ws (n_v vs 0) 88)) (w_ei w1 (w_ar ws (n_v vs 0) 88)) (w_ei ws (w_ar ws (n_v vs 0) 89)) (w_ei w1 (w_ar ws (n_v vs 0) 89)) (v_iv (Value.int x)) k1 k2 k10 k12 k13 k16 h32 f33 f41 fe_0_79_1 fe_0_80_1 fe_0_81_1 fe_0_79_2 fe_0_80_2 fe_0_81_2 hE_0_82_1 hE_0_82_2 hE_0_83_1 hE_0_83_2 hE_0_84_1 hE_0_84_2 hE_0_85_1 hE_0_85_2 hE_0_86_1 hE_0_86_2 hE_0_87_1 hE_0_87_2 hE_0_88_1 hE_0_88_2 hE_0_89_1 hE_0_89_2 hE_0_91_1 hE_0_91_2 hE_0_92_1 hE_0_92_2 kz_0_79 kz_0_80 kz_0_81 ex2
  have nf9 : fc_1 PRD (24, [0, 5], []) ws (vs ++ [Value.int x]) := by
    refine ⟨nf_inA hl rfl, sgq_5 ?_⟩
    · show n_v (vs ++ [Value.int x]) 0 = n_v (vs ++ [Value.int x]) 5
      first | rfl | simp only [e_0, e_5, q5, q6, q7, q8]
  have nf10 : fc_1 PRD (24, [1, 6], []) ws (vs ++ [Value.int x]) := by
    refine ⟨nf_inA hl rfl, sgq_5 ?_⟩
    · show n_v (vs ++ [Value.int x]) 1 = n_v (vs ++ [Value.int x]) 6
      first | rfl | simp only [e_1, e_6, q5, q6, q7, q8]
  have nf11 : fc_1 PRD (24, [2, 7], []) ws (vs ++ [Value.int x]) := by
    refine ⟨nf_inA hl rfl, sgq_5 ?_⟩
    · show n_v (vs ++ [Value.int x]) 2 = n_v (vs ++ [Value.int x]) 7
      first | rfl | simp only [e_2, e_7, q5, q6, q7, q8]
  have nf12 : fc_1 PRD (24, [3, 8], []) ws (vs ++ [Value.int x]) := by
    refine ⟨nf_inA hl rfl, sgq_5 ?_⟩
    · show n_v (vs ++ [Value.int x]) 3 = n_v (vs ++ [Value.int x]) 8
      first | rfl | simp only [e_3, e_8, q5, q6, q7, q8]
  obtain ⟨x0, e0, _, _⟩ := tv_int t13 rfl
  have e1 : v_iv (n_v vs 13) = x0.toInt := by rw [e0]; rfl
  have ho : sy_ofs (vs ++ [Value.int x]) (27, 13, 0, 0) := by
    refine ⟨x, x0, by rw [List.getElem?_append_right (by rw [hl]; decide), hl]; rfl, ?_, ?_, ?_⟩
    · rw [List.getElem?_append_left (by rw [hl]; decide)]; exact n_v_some (by rw [hl]; decide) e0
    · show x0.toInt + 0 ≤ x.toInt; omega
    · show x.toInt ≤ x0.toInt + 0; omega
  exact ⟨(fun _ h => (by cases h)), [Value.int x], ag_one hx, List.forall_mem_cons.mpr ⟨⟨show (20 : Nat) < 100 from by decide, nf0⟩, List.forall_mem_cons.mpr ⟨⟨show (20 : Nat) < 100 from by decide, nf1⟩, List.forall_mem_cons.mpr ⟨⟨show (20 : Nat) < 100 from by decide, nf2⟩, List.forall_mem_cons.mpr ⟨⟨show (20 : Nat) < 100 from by decide, nf3⟩, List.forall_mem_cons.mpr ⟨⟨show (20 : Nat) < 100 from by decide, nf4⟩, List.forall_mem_cons.mpr ⟨⟨show (20 : Nat) < 100 from by decide, nf5⟩, List.forall_mem_cons.mpr ⟨⟨show (20 : Nat) < 100 from by decide, nf6⟩, List.forall_mem_cons.mpr ⟨⟨show (20 : Nat) < 100 from by decide, nf7⟩, List.forall_mem_cons.mpr ⟨⟨show (23 : Nat) < 100 from by decide, nf8⟩, List.forall_mem_cons.mpr ⟨⟨show (24 : Nat) < 100 from by decide, nf9⟩, List.forall_mem_cons.mpr ⟨⟨show (24 : Nat) < 100 from by decide, nf10⟩, List.forall_mem_cons.mpr ⟨⟨show (24 : Nat) < 100 from by decide, nf11⟩, List.forall_mem_cons.mpr ⟨⟨show (24 : Nat) < 100 from by decide, nf12⟩, (fun _ h => (by cases h))⟩⟩⟩⟩⟩⟩⟩⟩⟩⟩⟩⟩⟩, List.forall_mem_cons.mpr ⟨ho, (fun _ h => (by cases h))⟩⟩
set_option maxHeartbeats 4000000 in
theorem vc_Mo_augment_30_0 (x1 : Int) (x2 : Int) (k1 : 2 ≤ x1 ∧ x1 ≤ 78) (k2 : 0 ≤ x2 ∧ x2 ≤ 76) (f0 : (x2 + 1) ≤ x1) : (x2 + 1) ≤ x1 := by
  first
    | omega
    | (have h := au1_len ‹AU1 _ _ _ _ _›; omega)
set_option maxHeartbeats 4000000 in
theorem vc_Mo_augment_30_1 (x1 : Int) (x3 : Int) (k1 : 2 ≤ x1 ∧ x1 ≤ 78) (k3 : 1 ≤ x3 ∧ x3 ≤ 77) (f1 : (x3 + 1) ≤ x1) : (x3 + 1) ≤ x1 := by
  first
    | omega
    | (have h := au1_len ‹AU1 _ _ _ _ _›; omega)
set_option maxHeartbeats 4000000 in
theorem vc_Mo_augment_30_2 (x1 : Int) (k1 : 2 ≤ x1 ∧ x1 ≤ 78) (f2 : x1 ≤ 78) : x1 ≤ 78 := by
  first
    | omega
    | (have h := au1_len ‹AU1 _ _ _ _ _›; omega)
set_option maxHeartbeats 4000000 in
theorem vc_Mo_augment_30_3 (x1 : Int) (pointMany_0 : Int) (k1 : 2 ≤ x1 ∧ x1 ≤ 78) (f3 : x1 = (pointMany_0 + 2)) (kz_0_79 : 0 ≤ pointMany_0 ∧ pointMany_0 ≤ 76) : x1 = (pointMany_0 + 2) := by
  first
    | omega
    | (have h := au1_len ‹AU1 _ _ _ _ _›; omega)
set_option maxHeartbeats 4000000 in
theorem vc_Mo_augment_30_4 (x2 : Int) (pointMany_0 : Int) (k2 : 0 ≤ x2 ∧ x2 ≤ 76) (f4 : x2 = pointMany_0) (kz_0_79 : 0 ≤ pointMany_0 ∧ pointMany_0 ≤ 76) : x2 = pointMany_0 := by
  first
    | omega
    | (have h := au1_len ‹AU1 _ _ _ _ _›; omega)
set_option maxHeartbeats 4000000 in
theorem vc_Mo_augment_30_5 (x3 : Int) (pointMany_0 : Int) (k3 : 1 ≤ x3 ∧ x3 ≤ 77) (f5 : x3 = (pointMany_0 + 1)) (kz_0_79 : 0 ≤ pointMany_0 ∧ pointMany_0 ≤ 76) : x3 = (pointMany_0 + 1) := by
  first
    | omega
    | (have h := au1_len ‹AU1 _ _ _ _ _›; omega)
set_option maxHeartbeats 4000000 in
theorem vc_Mo_augment_30_6 (x4 : Int) (x11 : Int) (x12 : Int) (pointMany_0 : Int) (flow_0 : Int → Int) (cameBy_0 : Int → Int) (spot_0 : Int → Int) (costA_0 : Int → Int) (costB_0 : Int → Int) (costW_0 : Int → Int) (costPlain_0 : Int → Int) (apartA_0 : Int → Int) (apartB_0 : Int → Int) (apart_0 : Int → Int) (costMany_0 : Int) (apartMany_0 : Int) (k4 : (-2) ≤ x4 ∧ x4 ≤ 180000001) (k11 : 0 ≤ x11 ∧ x11 ≤ 1000000) (k12 : 0 ≤ x12 ∧ x12 ≤ 77) (f6 : PSH (pointMany_0) (costMany_0) (apartMany_0) (flow_0) (cameBy_0) (spot_0) (costA_0) (costB_0) (costW_0) (costPlain_0) (apartA_0) (apartB_0) (apart_0) (x11) (x12) (x4)) (kz_0_79 : 0 ≤ pointMany_0 ∧ pointMany_0 ≤ 76) (kz_0_80 : 0 ≤ costMany_0 ∧ costMany_0 ≤ 200) (kz_0_81 : 0 ≤ apartMany_0 ∧ apartMany_0 ≤ 200) : PSH (pointMany_0) (costMany_0) (apartMany_0) (flow_0) (cameBy_0) (spot_0) (costA_0) (costB_0) (costW_0) (costPlain_0) (apartA_0) (apartB_0) (apart_0) (x11) (x12) (x4) := by
  first
    | assumption
    | exact psh_start ‹FLO _ _ _ _ _ _ _ _ _ _ _ _› ‹MN1 _ _ _ _ _ _ _› (by omega) ‹XLE _ _ _› (by omega) (by omega) (by omega) (by omega)
set_option maxHeartbeats 4000000 in
theorem vc_Mo_augment_30_7 (x1 : Int) (x2 : Int) (x10 : Int) (x12 : Int) (x13 : Int) (cameBy_0 : Int → Int) (queue_0 : Int → Int) (gx : Int) (k1 : 2 ≤ x1 ∧ x1 ≤ 78) (k2 : 0 ≤ x2 ∧ x2 ≤ 76) (k10 : 1 ≤ x10 ∧ x10 ≤ 79) (k12 : 0 ≤ x12 ∧ x12 ≤ 77) (k13 : (-2) ≤ x13 ∧ x13 ≤ 80) (f7 : AUX (queue_0) (cameBy_0) (x1) (x2) (x10) (x12) (x13)) (ex2 : gx = (-1) + (1 * x13 + 0)) : AUW (queue_0) (cameBy_0) (x1) (x2) (x10) (x12) (gx) := by
  first
    | exact auw_of ‹AU2 _ _ _ _ _ _› (by omega)
    | (rw [show gx = x13 - 1 by omega]; exact ‹AUX _ _ _ _ _ _ _›)
def o_Mo_augment_30 : or_T := (193, 14, [(0, (2, 0, 0, [165])), (1, (0, 2, 78, [])), (2, (0, 0, 76, [])), (3, (0, 1, 77, [])), (4, (0, -2, 180000001, [])), (5, (2, 0, 0, [165])), (6, (0, 2, 79, [])), (7, (0, 0, 76, [])), (8, (0, 1, 77, [])), (10, (0, 1, 79, [])), (11, (0, 0, 1000000, [])), (12, (0, 0, 77, [])), (13, (0, -2, 80, []))], [(20, [7, 6], [50, 0, 0, 0, 6, 4, 2, 1, 0, 0, 1, 1, 1]), (20, [8, 6], [50, 0, 0, 0, 6, 4, 2, 1, 0, 0, 1, 1, 1]), (20, [6], [50, 0, 0, 0, 2, 1, 0, 0, 78]), (20, [6, 5], [50, 1, 0, 1079, 1, 2, 1, 0, 4, 3, 2, 1, 79, 0, 2]), (20, [7, 5], [50, 1, 0, 1079, 1, 2, 1, 0, 2, 1, 79]), (20, [8, 5], [50, 1, 0, 1079, 1, 2, 1, 0, 4, 3, 2, 1, 79, 0, 1]), (20, [5, 11, 12, 4], [60, 3, 10, 408, 79, 80, 81, 90, 91, 82, 83, 84, 85, 86, 87, 88, 89]), (20, [5, 6, 7, 10, 12, 13], [60, 0, 2, 429, 92, 91]), (23, [13], [-1, -1]), (24, [0, 5], []), (24, [1, 6], []), (24, [2, 7], []), (24, [3, 8], [])], [], [(0, -2, 80, [])], [(20, [7, 6], [50, 0, 0, 0, 6, 4, 2, 1, 0, 0, 1, 1, 1]), (20, [8, 6], [50, 0, 0, 0, 6, 4, 2, 1, 0, 0, 1, 1, 1]), (20, [6], [50, 0, 0, 0, 2, 1, 0, 0, 78]), (20, [6, 5], [50, 1, 0, 1079, 1, 2, 1, 0, 4, 3, 2, 1, 79, 0, 2]), (20, [7, 5], [50, 1, 0, 1079, 1, 2, 1, 0, 2, 1, 79]), (20, [8, 5], [50, 1, 0, 1079, 1, 2, 1, 0, 4, 3, 2, 1, 79, 0, 1]), (20, [5, 11, 12, 4], [60, 3, 10, 408, 79, 80, 81, 90, 91, 82, 83, 84, 85, 86, 87, 88, 89]), (20, [5, 6, 7, 10, 12, 14], [60, 0, 2, 394, 92, 91]), (24, [0, 5], []), (24, [1, 6], []), (24, [2, 7], []), (24, [3, 8], [])], [(14, 13, -1000000000000, -1)], [(1, 6, -4294967296, 0), (2, 7, -4294967296, 0), (3, 8, -4294967296, 0), (6, 1, -4294967296, 0), (7, 2, -4294967296, 0), (8, 3, -4294967296, 0)])
theorem oo_Mo_augment_30 {kA : Nat → ClassId} : or_ok PRD kA GG o_Mo_augment_30 := by
  refine or_mk fun A ta ws vs hD hth hl => ?_
  intro t0 r0 t1 k1 t2 k2 t3 k3 t4 k4 t5 r5 t6 k6 t7 k7 t8 k8 t10 k10 t11 k11 t12 k12 t13 k13 d0 d1 d2 d3 d4 d5 f0 f1 f2 f3 f4 f5 f6 f7 f8 f9 f10 f11 f12
  replace f0 := shm_396 f0
  replace f1 := shm_396 f1
  replace f2 := shm_941 f2
  replace f3 := shm_942 f3
  replace f4 := shm_943 f4
  replace f5 := shm_944 f5
  replace f6 := shm_964 f6
  replace f7 := shm_965 f7
  replace f8 := shm_626 f8
  replace f9 := shm_5 f9
  replace f10 := shm_5 f10
  replace f11 := shm_5 f11
  replace f12 := shm_5 f12
  have q5 : n_v vs 5 = n_v vs 0 := f9.symm
  have q6 : n_v vs 6 = n_v vs 1 := f10.symm
  have q7 : n_v vs 7 = n_v vs 2 := f11.symm
  have q8 : n_v vs 8 = n_v vs 3 := f12.symm
  simp only [q6, q7, q8, q5] at f0 f1 f2 f3 f4 f5 f6 f7
  have cr_0_82 := fdq_230 hD hth r0
  have cr_0_83 := fdq_126 hD hth r0
  have cr_0_84 := fdq_127 hD hth r0
  have cr_0_85 := fdq_128 hD hth r0
  have cr_0_86 := fdq_129 hD hth r0
  have cr_0_87 := fdq_119 hD hth r0
  have cr_0_88 := fdq_120 hD hth r0
  have cr_0_89 := fdq_121 hD hth r0
  have cr_0_90 := fdq_231 hD hth r0
  have cr_0_91 := fdq_232 hD hth r0
  have cr_0_92 := fdq_233 hD hth r0
  have hK_0_82 := elq_143 hD hth cr_0_82
  have hK_0_83 := elq_67 hD hth cr_0_83
  have hK_0_84 := elq_68 hD hth cr_0_84
  have hK_0_85 := elq_69 hD hth cr_0_85
  have hK_0_86 := elq_70 hD hth cr_0_86
  have hK_0_87 := elq_62 hD hth cr_0_87
  have hK_0_88 := elq_63 hD hth cr_0_88
  have hK_0_89 := elq_64 hD hth cr_0_89
  have hK_0_90 := elq_144 hD hth cr_0_90
  have hK_0_91 := elq_145 hD hth cr_0_91
  have hK_0_92 := elq_146 hD hth cr_0_92
  have kz_0_79 := fdq_147 hD hth r0
  have kz_0_80 := fdq_131 hD hth r0
  have kz_0_81 := fdq_124 hD hth r0
  obtain ⟨x, ex, hx⟩ := iv_ex (ta := ta) (lo := (-2)) (hi := 80) (z := (-1) + (1 * v_iv (n_v vs 13) + 0)) (by omega) (by omega) (by omega) (by omega)
  have ex2 : v_iv (Value.int x) = (-1) + (1 * v_iv (n_v vs 13) + 0) := ex
  have ex3 : (-2) ≤ v_iv (Value.int x) ∧ v_iv (Value.int x) ≤ 80 := tv_rng hx
  have e_0 : n_v (vs ++ [Value.int x]) 0 = n_v vs 0 := n_v_old (by rw [hl]; decide)
  have e_1 : n_v (vs ++ [Value.int x]) 1 = n_v vs 1 := n_v_old (by rw [hl]; decide)
  have e_2 : n_v (vs ++ [Value.int x]) 2 = n_v vs 2 := n_v_old (by rw [hl]; decide)
  have e_3 : n_v (vs ++ [Value.int x]) 3 = n_v vs 3 := n_v_old (by rw [hl]; decide)
  have e_4 : n_v (vs ++ [Value.int x]) 4 = n_v vs 4 := n_v_old (by rw [hl]; decide)
  have e_5 : n_v (vs ++ [Value.int x]) 5 = n_v vs 5 := n_v_old (by rw [hl]; decide)
  have e_6 : n_v (vs ++ [Value.int x]) 6 = n_v vs 6 := n_v_old (by rw [hl]; decide)
  have e_7 : n_v (vs ++ [Value.int x]) 7 = n_v vs 7 := n_v_old (by rw [hl]; decide)
  have e_8 : n_v (vs ++ [Value.int x]) 8 = n_v vs 8 := n_v_old (by rw [hl]; decide)
  have e_10 : n_v (vs ++ [Value.int x]) 10 = n_v vs 10 := n_v_old (by rw [hl]; decide)
  have e_11 : n_v (vs ++ [Value.int x]) 11 = n_v vs 11 := n_v_old (by rw [hl]; decide)
  have e_12 : n_v (vs ++ [Value.int x]) 12 = n_v vs 12 := n_v_old (by rw [hl]; decide)
  have e_14 : n_v (vs ++ [Value.int x]) 14 = Value.int x := n_v_new hl
  have nf0 : fc_1 PRD (20, [7, 6], [50, 0, 0, 0, 6, 4, 2, 1, 0, 0, 1, 1, 1]) ws (vs ++ [Value.int x]) := by
    refine ⟨nf_inA hl rfl, sgq_396 ?_⟩
    · show (v_iv (n_v (vs ++ [Value.int x]) 7) + 1) ≤ v_iv (n_v (vs ++ [Value.int x]) 6)
      simp only [e_6, e_7, q6, q7]
      exact vc_Mo_augment_30_0 (v_iv (n_v vs 1)) (v_iv (n_v vs 2)) k1 k2 f0
  have nf1 : fc_1 PRD (20, [8, 6], [50, 0, 0, 0, 6, 4, 2, 1, 0, 0, 1, 1, 1]) ws (vs ++ [Value.int x]) := by
    refine ⟨nf_inA hl rfl, sgq_396 ?_⟩
    · show (v_iv (n_v (vs ++ [Value.int x]) 8) + 1) ≤ v_iv (n_v (vs ++ [Value.int x]) 6)
      simp only [e_6, e_8, q6, q8]
      exact vc_Mo_augment_30_1 (v_iv (n_v vs 1)) (v_iv (n_v vs 3)) k1 k3 f1
  have nf2 : fc_1 PRD (20, [6], [50, 0, 0, 0, 2, 1, 0, 0, 78]) ws (vs ++ [Value.int x]) := by
    refine ⟨nf_inA hl rfl, sgq_941 ?_⟩
    · show v_iv (n_v (vs ++ [Value.int x]) 6) ≤ 78
      simp only [e_6, q6]
      exact vc_Mo_augment_30_2 (v_iv (n_v vs 1)) k1 f2
  have nf3 : fc_1 PRD (20, [6, 5], [50, 1, 0, 1079, 1, 2, 1, 0, 4, 3, 2, 1, 79, 0, 2]) ws (vs ++ [Value.int x]) := by
    refine ⟨nf_inA hl rfl, sgq_942 ?_⟩
    · show v_iv (n_v (vs ++ [Value.int x]) 6) = (w_fi ws (n_v (vs ++ [Value.int x]) 5) 79 + 2)
      simp only [e_5, e_6, q5, q6]
      exact vc_Mo_augment_30_3 (v_iv (n_v vs 1)) (w_fi ws (n_v vs 0) 79) k1 f3 kz_0_79
  have nf4 : fc_1 PRD (20, [7, 5], [50, 1, 0, 1079, 1, 2, 1, 0, 2, 1, 79]) ws (vs ++ [Value.int x]) := by
    refine ⟨nf_inA hl rfl, sgq_943 ?_⟩
    · show v_iv (n_v (vs ++ [Value.int x]) 7) = w_fi ws (n_v (vs ++ [Value.int x]) 5) 79
      simp only [e_5, e_7, q5, q7]
      exact vc_Mo_augment_30_4 (v_iv (n_v vs 2)) (w_fi ws (n_v vs 0) 79) k2 f4 kz_0_79
  have nf5 : fc_1 PRD (20, [8, 5], [50, 1, 0, 1079, 1, 2, 1, 0, 4, 3, 2, 1, 79, 0, 1]) ws (vs ++ [Value.int x]) := by
    refine ⟨nf_inA hl rfl, sgq_944 ?_⟩
    · show v_iv (n_v (vs ++ [Value.int x]) 8) = (w_fi ws (n_v (vs ++ [Value.int x]) 5) 79 + 1)
      simp only [e_5, e_8, q5, q8]
      exact vc_Mo_augment_30_5 (v_iv (n_v vs 3)) (w_fi ws (n_v vs 0) 79) k3 f5 kz_0_79
  have nf6 : fc_1 PRD (20, [5, 11, 12, 4], [60, 3, 10, 408, 79, 80, 81, 90, 91, 82, 83, 84, 85, 86, 87, 88, 89]) ws (vs ++ [Value.int x]) := by
    refine ⟨nf_inA hl rfl, sgq_964 ?_⟩
    · show PSH (w_fi ws (n_v (vs ++ [Value.int x]) 5) 79) (w_fi ws (n_v (vs ++ [Value.int x]) 5) 80) (w_fi ws (n_v (vs ++ [Value.int x]) 5) 81) (w_ei ws (w_ar ws (n_v (vs ++ [Value.int x]) 5) 90)) (w_ei ws (w_ar ws (n_v (vs ++ [Value.int x]) 5) 91)) (w_ei ws (w_ar ws (n_v (vs ++ [Value.int x]) 5) 82)) (w_ei ws (w_ar ws (n_v (vs ++ [Value.int x]) 5) 83)) (w_ei ws (w_ar ws (n_v (vs ++ [Value.int x]) 5) 84)) (w_ei ws (w_ar ws (n_v (vs ++ [Value.int x]) 5) 85)) (w_ei ws (w_ar ws (n_v (vs ++ [Value.int x]) 5) 86)) (w_ei ws (w_ar ws (n_v (vs ++ [Value.int x]) 5) 87)) (w_ei ws (w_ar ws (n_v (vs ++ [Value.int x]) 5) 88)) (w_ei ws (w_ar ws (n_v (vs ++ [Value.int x]) 5) 89)) (v_iv (n_v (vs ++ [Value.int x]) 11)) (v_iv (n_v (vs ++ [Value.int x]) 12)) (v_iv (n_v (vs ++ [Value.int x]) 4))
      simp only [e_4, e_5, e_11, e_12, q5]
      exact vc_Mo_augment_30_6 (v_iv (n_v vs 4)) (v_iv (n_v vs 11)) (v_iv (n_v vs 12)) (w_fi ws (n_v vs 0) 79) (w_ei ws (w_ar ws (n_v vs 0) 90)) (w_ei ws (w_ar ws (n_v vs 0) 91)) (w_ei ws (w_ar ws (n_v vs 0) 82)) (w_ei ws (w_ar ws (n_v vs 0) 83)) (w_ei ws (w_ar ws (n_v vs 0) 84)) (w_ei ws (w_ar ws (n_v vs 0) 85)) (w_ei ws (w_ar ws (n_v vs 0) 86)) (w_ei ws (w_ar ws (n_v vs 0) 87)) (w_ei ws (w_ar ws (n_v vs 0) 88)) (w_ei ws (w_ar ws (n_v vs 0) 89)) (w_fi ws (n_v vs 0) 80) (w_fi ws (n_v vs 0) 81) k4 k11 k12 f6 kz_0_79 kz_0_80 kz_0_81
  have nf7 : fc_1 PRD (20, [5, 6, 7, 10, 12, 14], [60, 0, 2, 394, 92, 91]) ws (vs ++ [Value.int x]) := by
    refine ⟨nf_inA hl rfl, sgq_955 ?_⟩
    · show AUW (w_ei ws (w_ar ws (n_v (vs ++ [Value.int x]) 5) 92)) (w_ei ws (w_ar ws (n_v (vs ++ [Value.int x]) 5) 91)) (v_iv (n_v (vs ++ [Value.int x]) 6)) (v_iv (n_v (vs ++ [Value.int x]) 7)) (v_iv (n_v (vs ++ [Value.int x]) 10)) (v_iv (n_v (vs ++ [Value.int x]) 12)) (v_iv (n_v (vs ++ [Value.int x]) 14))
      simp only [e_5, e_6, e_7, e_10, e_12, e_14, q5, q6, q7]
      exact vc_Mo_augment_30_7 (v_iv (n_v vs 1)) (v_iv (n_v vs 2)) (v_iv (n_v vs 10)) (v_iv (n_v vs 12)) (v_iv (n_v vs 13)) (w_ei ws (w_ar ws (n_v vs 0) 91)) (w_ei ws (w_ar ws (n_v vs 0) 92)) (v_iv (Value.int x)) k1 k2 k10 k12 k13 f7 ex2
  have nf8 : fc_1 PRD (24, [0, 5], []) ws (vs ++ [Value.int x]) := by
    refine ⟨nf_inA hl rfl, sgq_5 ?_⟩
    · show n_v (vs ++ [Value.int x]) 0 = n_v (vs ++ [Value.int x]) 5
      first | rfl | simp only [e_0, e_5, q5, q6, q7, q8]
  have nf9 : fc_1 PRD (24, [1, 6], []) ws (vs ++ [Value.int x]) := by
    refine ⟨nf_inA hl rfl, sgq_5 ?_⟩
    · show n_v (vs ++ [Value.int x]) 1 = n_v (vs ++ [Value.int x]) 6
      first | rfl | simp only [e_1, e_6, q5, q6, q7, q8]
  have nf10 : fc_1 PRD (24, [2, 7], []) ws (vs ++ [Value.int x]) := by
    refine ⟨nf_inA hl rfl, sgq_5 ?_⟩
    · show n_v (vs ++ [Value.int x]) 2 = n_v (vs ++ [Value.int x]) 7
      first | rfl | simp only [e_2, e_7, q5, q6, q7, q8]
  have nf11 : fc_1 PRD (24, [3, 8], []) ws (vs ++ [Value.int x]) := by
    refine ⟨nf_inA hl rfl, sgq_5 ?_⟩
    · show n_v (vs ++ [Value.int x]) 3 = n_v (vs ++ [Value.int x]) 8
      first | rfl | simp only [e_3, e_8, q5, q6, q7, q8]
  obtain ⟨x0, e0, _, _⟩ := tv_int t13 rfl
  have e1 : v_iv (n_v vs 13) = x0.toInt := by rw [e0]; rfl
  have ho : sy_ofs (vs ++ [Value.int x]) (14, 13, -1000000000000, -1) := by
    refine ⟨x, x0, by rw [List.getElem?_append_right (by rw [hl]; decide), hl]; rfl, ?_, ?_, ?_⟩
    · rw [List.getElem?_append_left (by rw [hl]; decide)]; exact n_v_some (by rw [hl]; decide) e0
    · show x0.toInt + (-1000000000000) ≤ x.toInt; omega
    · show x.toInt ≤ x0.toInt + (-1); omega
  exact ⟨(fun _ h => (by cases h)), [Value.int x], ag_one hx, List.forall_mem_cons.mpr ⟨⟨show (20 : Nat) < 100 from by decide, nf0⟩, List.forall_mem_cons.mpr ⟨⟨show (20 : Nat) < 100 from by decide, nf1⟩, List.forall_mem_cons.mpr ⟨⟨show (20 : Nat) < 100 from by decide, nf2⟩, List.forall_mem_cons.mpr ⟨⟨show (20 : Nat) < 100 from by decide, nf3⟩, List.forall_mem_cons.mpr ⟨⟨show (20 : Nat) < 100 from by decide, nf4⟩, List.forall_mem_cons.mpr ⟨⟨show (20 : Nat) < 100 from by decide, nf5⟩, List.forall_mem_cons.mpr ⟨⟨show (20 : Nat) < 100 from by decide, nf6⟩, List.forall_mem_cons.mpr ⟨⟨show (20 : Nat) < 100 from by decide, nf7⟩, List.forall_mem_cons.mpr ⟨⟨show (24 : Nat) < 100 from by decide, nf8⟩, List.forall_mem_cons.mpr ⟨⟨show (24 : Nat) < 100 from by decide, nf9⟩, List.forall_mem_cons.mpr ⟨⟨show (24 : Nat) < 100 from by decide, nf10⟩, List.forall_mem_cons.mpr ⟨⟨show (24 : Nat) < 100 from by decide, nf11⟩, (fun _ h => (by cases h))⟩⟩⟩⟩⟩⟩⟩⟩⟩⟩⟩⟩, List.forall_mem_cons.mpr ⟨ho, (fun _ h => (by cases h))⟩⟩
def n_Mo_augment_an : List an_T := [(3, [(0, (2, 0, 0, [165])), (1, (0, 2, 78, [])), (2, (0, 0, 76, [])), (3, (0, 1, 77, [])), (4, (0, 0, 78, []))], [], (0, 0), [(0, 0, 99997), (1, 9, 78), (0, 0, 100000), (0, 0, 0), (0, 0, 0)], [(1, 6, (Int.negSucc 999999999999), 0), (2, 7, (Int.negSucc 999999999999), 0), (3, 8, (Int.negSucc 999999999999), 0), (6, 1, (Int.negSucc 999999999999), 0), (7, 2, (Int.negSucc 999999999999), 0), (8, 3, (Int.negSucc 999999999999), 0), (9, 1, (Int.negSucc 999999999999), 0), (9, 6, (Int.negSucc 999999999999), 0)], [], [(2, 0, 0, [165]), (0, 2, 78, []), (0, 0, 76, []), (0, 1, 77, []), (0, (Int.negSucc 1), 180000001, [])], 0, [], [(20, [7, 6], [50, 0, 0, 0, 6, 4, 2, 1, 0, 0, 1, 1, 1]), (20, [8, 6], [50, 0, 0, 0, 6, 4, 2, 1, 0, 0, 1, 1, 1]), (20, [6], [50, 0, 0, 0, 2, 1, 0, 0, 78]), (20, [6, 5], [50, 1, 0, 1079, 1, 2, 1, 0, 4, 3, 2, 1, 79, 0, 2]), (20, [7, 5], [50, 1, 0, 1079, 1, 2, 1, 0, 2, 1, 79]), (20, [8, 5], [50, 1, 0, 1079, 1, 2, 1, 0, 4, 3, 2, 1, 79, 0, 1]), (20, [5], [60, 3, 9, 397, 79, 80, 81, 90, 82, 83, 84, 85, 86, 87, 88, 89]), (20, [5, 4], [60, 1, 1, 398, 79, 90]), (20, [5, 9], [60, 0, 1, 391, 91]), (24, [0, 5], []), (24, [1, 6], []), (24, [2, 7], []), (24, [3, 8], [])]), (43, [(0, (2, 0, 0, [165])), (1, (0, 2, 78, [])), (2, (0, 0, 76, [])), (3, (0, 1, 77, [])), (4, (0, 0, 78, [])), (5, (0, 1, 79, []))], [], (0, 0), [(0, 0, 99957), (2, 11, (Int.negSucc 1)), (0, 0, 100000), (0, 0, 0), (0, 0, 0)], [(1, 6, (Int.negSucc 999999999999), 0), (2, 7, (Int.negSucc 999999999999), 0), (3, 8, (Int.negSucc 999999999999), 0), (6, 1, (Int.negSucc 999999999999), 0), (7, 2, (Int.negSucc 999999999999), 0), (8, 3, (Int.negSucc 999999999999), 0), (9, 10, (Int.negSucc 999999999999), 0)], [], [(2, 0, 0, [165]), (0, 2, 78, []), (0, 0, 76, []), (0, 1, 77, []), (0, (Int.negSucc 1), 180000001, [])], 0, [(0, (Int.negSucc 1), 79, [])], [(20, [7, 6], [50, 0, 0, 0, 6, 4, 2, 1, 0, 0, 1, 1, 1]), (20, [8, 6], [50, 0, 0, 0, 6, 4, 2, 1, 0, 0, 1, 1, 1]), (20, [6], [50, 0, 0, 0, 2, 1, 0, 0, 78]), (20, [6, 5], [50, 1, 0, 1079, 1, 2, 1, 0, 4, 3, 2, 1, 79, 0, 2]), (20, [7, 5], [50, 1, 0, 1079, 1, 2, 1, 0, 2, 1, 79]), (20, [8, 5], [50, 1, 0, 1079, 1, 2, 1, 0, 4, 3, 2, 1, 79, 0, 1]), (20, [5], [60, 3, 9, 397, 79, 80, 81, 90, 82, 83, 84, 85, 86, 87, 88, 89]), (20, [5, 4], [60, 1, 1, 398, 79, 90]), (20, [5, 6, 7], [60, 0, 2, 401, 90, 91]), (20, [5, 6, 7, 10], [60, 0, 2, 392, 92, 91]), (23, [9, 11], [(Int.negSucc 77), (Int.negSucc 0), (Int.negSucc 0)]), (20, [5, 6, 9], [60, 0, 3, 402, 90, 92, 91]), (24, [0, 5], []), (24, [1, 6], []), (24, [2, 7], []), (24, [3, 8], [])]), (65, [(0, (2, 0, 0, [165])), (1, (0, 2, 78, [])), (2, (0, 0, 76, [])), (3, (0, 1, 77, [])), (4, (0, 1, 78, [])), (5, (0, 1, 79, [])), (6, (0, 0, 77, [])), (7, (0, 0, 78, []))], [], (0, 0), [(0, 0, 99957), (2, 13, (Int.negSucc 1)), (0, 0, 99935), (1, 12, 78), (0, 0, 100000)], [(1, 6, (Int.negSucc 999999999999), 0), (2, 7, (Int.negSucc 999999999999), 0), (3, 8, (Int.negSucc 999999999999), 0), (6, 1, (Int.negSucc 999999999999), 0), (7, 2, (Int.negSucc 999999999999), 0), (8, 3, (Int.negSucc 999999999999), 0), (9, 10, (Int.negSucc 999999999999), 0), (12, 1, (Int.negSucc 999999999999), 0), (12, 6, (Int.negSucc 999999999999), 0)], [], [(2, 0, 0, [165]), (0, 2, 78, []), (0, 0, 76, []), (0, 1, 77, []), (0, (Int.negSucc 1), 180000001, [])], 0, [(0, (Int.negSucc 1), 79, [])], [(20, [7, 6], [50, 0, 0, 0, 6, 4, 2, 1, 0, 0, 1, 1, 1]), (20, [8, 6], [50, 0, 0, 0, 6, 4, 2, 1, 0, 0, 1, 1, 1]), (20, [6], [50, 0, 0, 0, 2, 1, 0, 0, 78]), (20, [6, 5], [50, 1, 0, 1079, 1, 2, 1, 0, 4, 3, 2, 1, 79, 0, 2]), (20, [7, 5], [50, 1, 0, 1079, 1, 2, 1, 0, 2, 1, 79]), (20, [8, 5], [50, 1, 0, 1079, 1, 2, 1, 0, 4, 3, 2, 1, 79, 0, 1]), (20, [5], [60, 3, 9, 397, 79, 80, 81, 90, 82, 83, 84, 85, 86, 87, 88, 89]), (20, [5, 4], [60, 1, 1, 398, 79, 90]), (20, [5, 6, 7], [60, 0, 2, 401, 90, 91]), (20, [5, 6, 9, 11], [60, 0, 3, 403, 90, 92, 91]), (20, [5, 6, 11, 12], [60, 0, 2, 404, 90, 91]), (20, [5, 6, 7, 10, 11], [60, 0, 2, 393, 92, 91]), (20, [11, 6], [50, 0, 0, 0, 6, 4, 2, 1, 0, 0, 1, 1, 1]), (20, [9, 10], [50, 0, 0, 0, 2, 1, 0, 1, 1]), (23, [9, 13], [(Int.negSucc 78), (Int.negSucc 0), (Int.negSucc 0)]), (23, [13], [(Int.negSucc 0), (Int.negSucc 0)]), (24, [0, 5], []), (24, [1, 6], []), (24, [2, 7], []), (24, [3, 8], [])]), (126, [(0, (2, 0, 0, [165])), (1, (0, 2, 78, [])), (2, (0, 0, 76, [])), (3, (0, 1, 77, [])), (4, (0, 1, 78, [])), (5, (0, 1, 79, [])), (6, (0, 0, 77, [])), (7, (0, 2, 78, []))], [], (0, 0), [(0, 0, 99957), (2, 13, (Int.negSucc 1)), (0, 0, 99874), (0, 0, 0), (0, 0, 0)], [(1, 6, (Int.negSucc 999999999999), 0), (1, 12, (Int.negSucc 999999999999), 0), (2, 7, (Int.negSucc 999999999999), 0), (3, 8, (Int.negSucc 999999999999), 0), (6, 1, (Int.negSucc 999999999999), 0), (6, 12, (Int.negSucc 999999999999), 0), (7, 2, (Int.negSucc 999999999999), 0), (8, 3, (Int.negSucc 999999999999), 0), (9, 10, (Int.negSucc 999999999999), 0), (12, 1, (Int.negSucc 999999999999), 0), (12, 6, (Int.negSucc 999999999999), 0)], [], [(2, 0, 0, [165]), (0, 2, 78, []), (0, 0, 76, []), (0, 1, 77, []), (0, (Int.negSucc 1), 180000001, [])], 0, [(0, (Int.negSucc 1), 79, [])], [(20, [7, 6], [50, 0, 0, 0, 6, 4, 2, 1, 0, 0, 1, 1, 1]), (20, [8, 6], [50, 0, 0, 0, 6, 4, 2, 1, 0, 0, 1, 1, 1]), (20, [6], [50, 0, 0, 0, 2, 1, 0, 0, 78]), (20, [6, 5], [50, 1, 0, 1079, 1, 2, 1, 0, 4, 3, 2, 1, 79, 0, 2]), (20, [7, 5], [50, 1, 0, 1079, 1, 2, 1, 0, 2, 1, 79]), (20, [8, 5], [50, 1, 0, 1079, 1, 2, 1, 0, 4, 3, 2, 1, 79, 0, 1]), (20, [5], [60, 3, 9, 397, 79, 80, 81, 90, 82, 83, 84, 85, 86, 87, 88, 89]), (20, [5, 4], [60, 1, 1, 398, 79, 90]), (20, [5, 6, 7], [60, 0, 2, 401, 90, 91]), (20, [5, 6, 7, 10], [60, 0, 2, 392, 92, 91]), (20, [5, 6, 9], [60, 0, 3, 402, 90, 92, 91]), (23, [9, 13], [(Int.negSucc 78), (Int.negSucc 0), (Int.negSucc 0)]), (23, [13], [(Int.negSucc 0), (Int.negSucc 0)]), (24, [0, 5], []), (24, [1, 6], []), (24, [2, 7], []), (24, [3, 8], [])]), (148, [(0, (2, 0, 0, [165])), (1, (0, 2, 79, [])), (2, (0, 0, 76, [])), (3, (0, 1, 77, [])), (4, (0, 1, 79, [])), (5, (0, 1, 79, [])), (6, (0, 0, 1000000, [])), (7, (0, 0, 77, []))], [], (0, 0), [(0, 0, 99852), (2, 13, (Int.negSucc 1)), (0, 0, 100000), (0, 0, 0), (0, 0, 0)], [(1, 6, (Int.negSucc 999999999999), 0), (2, 7, (Int.negSucc 999999999999), 0), (3, 8, (Int.negSucc 999999999999), 0), (6, 1, (Int.negSucc 999999999999), 0), (7, 2, (Int.negSucc 999999999999), 0), (8, 3, (Int.negSucc 999999999999), 0), (9, 10, (Int.negSucc 999999999999), 0), (10, 9, (Int.negSucc 999999999999), 0)], [], [(2, 0, 0, [165]), (0, 2, 78, []), (0, 0, 76, []), (0, 1, 77, []), (0, (Int.negSucc 1), 180000001, [])], 0, [(0, (Int.negSucc 1), 80, [])], [(20, [7, 6], [50, 0, 0, 0, 6, 4, 2, 1, 0, 0, 1, 1, 1]), (20, [8, 6], [50, 0, 0, 0, 6, 4, 2, 1, 0, 0, 1, 1, 1]), (20, [6], [50, 0, 0, 0, 2, 1, 0, 0, 78]), (20, [6, 5], [50, 1, 0, 1079, 1, 2, 1, 0, 4, 3, 2, 1, 79, 0, 2]), (20, [7, 5], [50, 1, 0, 1079, 1, 2, 1, 0, 2, 1, 79]), (20, [8, 5], [50, 1, 0, 1079, 1, 2, 1, 0, 4, 3, 2, 1, 79, 0, 1]), (20, [5], [60, 3, 9, 397, 79, 80, 81, 90, 82, 83, 84, 85, 86, 87, 88, 89]), (20, [5, 4], [60, 1, 1, 398, 79, 90]), (20, [5, 6, 7], [60, 0, 2, 401, 90, 91]), (20, [5, 6, 7, 8, 12, 11], [60, 0, 2, 407, 90, 91]), (20, [5, 6, 7, 10, 12, 13], [60, 0, 2, 394, 92, 91]), (20, [5, 6, 7, 10, 8], [60, 0, 2, 393, 92, 91]), (24, [0, 5], []), (24, [1, 6], []), (24, [2, 7], []), (24, [3, 8], [])]), (187, [(0, (2, 0, 0, [165])), (1, (0, 2, 79, [])), (2, (0, 0, 76, [])), (3, (0, 1, 77, [])), (4, (0, 1, 79, [])), (5, (0, 1, 79, [])), (6, (0, 0, 1000000, [])), (7, (0, 0, 77, []))], [], (0, 0), [(0, 0, 99852), (2, 13, (Int.negSucc 1)), (0, 0, 99813), (0, 0, 0), (0, 0, 0)], [(1, 6, (Int.negSucc 999999999999), 0), (2, 7, (Int.negSucc 999999999999), 0), (3, 8, (Int.negSucc 999999999999), 0), (6, 1, (Int.negSucc 999999999999), 0), (7, 2, (Int.negSucc 999999999999), 0), (8, 3, (Int.negSucc 999999999999), 0), (9, 10, (Int.negSucc 999999999999), 0), (10, 9, (Int.negSucc 999999999999), 0)], [], [(2, 0, 0, [165]), (0, 2, 78, []), (0, 0, 76, []), (0, 1, 77, []), (0, (Int.negSucc 1), 180000001, [])], 0, [(0, (Int.negSucc 1), 80, [])], [(20, [7, 6], [50, 0, 0, 0, 6, 4, 2, 1, 0, 0, 1, 1, 1]), (20, [8, 6], [50, 0, 0, 0, 6, 4, 2, 1, 0, 0, 1, 1, 1]), (20, [6], [50, 0, 0, 0, 2, 1, 0, 0, 78]), (20, [6, 5], [50, 1, 0, 1079, 1, 2, 1, 0, 4, 3, 2, 1, 79, 0, 2]), (20, [7, 5], [50, 1, 0, 1079, 1, 2, 1, 0, 2, 1, 79]), (20, [8, 5], [50, 1, 0, 1079, 1, 2, 1, 0, 4, 3, 2, 1, 79, 0, 1]), (20, [5], [60, 3, 9, 397, 79, 80, 81, 90, 82, 83, 84, 85, 86, 87, 88, 89]), (20, [5, 4], [60, 1, 1, 398, 79, 90]), (20, [5, 6, 7], [60, 0, 2, 401, 90, 91]), (20, [5, 6, 7, 8, 12, 11], [60, 0, 2, 407, 90, 91]), (20, [5, 6, 7, 10, 12, 13], [60, 0, 2, 429, 92, 91]), (20, [5, 6, 7, 10, 8], [60, 0, 2, 393, 92, 91]), (23, [13], [(Int.negSucc 0), (Int.negSucc 0)]), (24, [0, 5], []), (24, [1, 6], []), (24, [2, 7], []), (24, [3, 8], [])]), (193, [(0, (2, 0, 0, [165])), (1, (0, 2, 79, [])), (2, (0, 0, 76, [])), (3, (0, 1, 77, [])), (4, (0, 1, 79, [])), (5, (0, 1, 79, [])), (6, (0, 0, 1000000, [])), (7, (0, 0, 77, []))], [], (0, 0), [(0, 0, 99807), (2, 13, (Int.negSucc 1)), (0, 0, 100000), (0, 0, 0), (0, 0, 0)], [(1, 6, (Int.negSucc 999999999999), 0), (2, 7, (Int.negSucc 999999999999), 0), (3, 8, (Int.negSucc 999999999999), 0), (6, 1, (Int.negSucc 999999999999), 0), (7, 2, (Int.negSucc 999999999999), 0), (8, 3, (Int.negSucc 999999999999), 0), (9, 10, (Int.negSucc 999999999999), 0), (10, 9, (Int.negSucc 999999999999), 0)], [], [(2, 0, 0, [165]), (0, 2, 78, []), (0, 0, 76, []), (0, 1, 77, []), (0, (Int.negSucc 1), 180000001, [])], 0, [(0, (Int.negSucc 1), 80, [])], [(20, [7, 6], [50, 0, 0, 0, 6, 4, 2, 1, 0, 0, 1, 1, 1]), (20, [8, 6], [50, 0, 0, 0, 6, 4, 2, 1, 0, 0, 1, 1, 1]), (20, [6], [50, 0, 0, 0, 2, 1, 0, 0, 78]), (20, [6, 5], [50, 1, 0, 1079, 1, 2, 1, 0, 4, 3, 2, 1, 79, 0, 2]), (20, [7, 5], [50, 1, 0, 1079, 1, 2, 1, 0, 2, 1, 79]), (20, [8, 5], [50, 1, 0, 1079, 1, 2, 1, 0, 4, 3, 2, 1, 79, 0, 1]), (20, [5, 11, 12, 4], [60, 3, 10, 408, 79, 80, 81, 90, 91, 82, 83, 84, 85, 86, 87, 88, 89]), (20, [5, 6, 7, 10, 12, 13], [60, 0, 2, 394, 92, 91]), (24, [0, 5], []), (24, [1, 6], []), (24, [2, 7], []), (24, [3, 8], [])]), (252, [(0, (2, 0, 0, [165])), (1, (0, 2, 79, [])), (2, (0, 0, 76, [])), (3, (0, 1, 77, [])), (4, (0, 1, 79, [])), (5, (0, 1, 79, [])), (6, (0, 0, 1000000, [])), (7, (0, 0, 77, []))], [], (0, 0), [(0, 0, 99807), (2, 13, (Int.negSucc 1)), (0, 0, 99748), (0, 0, 0), (0, 0, 0)], [(1, 6, (Int.negSucc 999999999999), 0), (2, 7, (Int.negSucc 999999999999), 0), (3, 8, (Int.negSucc 999999999999), 0), (6, 1, (Int.negSucc 999999999999), 0), (7, 2, (Int.negSucc 999999999999), 0), (8, 3, (Int.negSucc 999999999999), 0), (9, 10, (Int.negSucc 999999999999), 0), (10, 9, (Int.negSucc 999999999999), 0)], [], [(2, 0, 0, [165]), (0, 2, 78, []), (0, 0, 76, []), (0, 1, 77, []), (0, (Int.negSucc 1), 180000001, [])], 0, [(0, (Int.negSucc 1), 80, [])], [(20, [7, 6], [50, 0, 0, 0, 6, 4, 2, 1, 0, 0, 1, 1, 1]), (20, [8, 6], [50, 0, 0, 0, 6, 4, 2, 1, 0, 0, 1, 1, 1]), (20, [6], [50, 0, 0, 0, 2, 1, 0, 0, 78]), (20, [6, 5], [50, 1, 0, 1079, 1, 2, 1, 0, 4, 3, 2, 1, 79, 0, 2]), (20, [7, 5], [50, 1, 0, 1079, 1, 2, 1, 0, 2, 1, 79]), (20, [8, 5], [50, 1, 0, 1079, 1, 2, 1, 0, 4, 3, 2, 1, 79, 0, 1]), (20, [5, 11, 12, 4], [60, 3, 10, 408, 79, 80, 81, 90, 91, 82, 83, 84, 85, 86, 87, 88, 89]), (20, [5, 6, 7, 10, 12, 13], [60, 0, 2, 429, 92, 91]), (23, [13], [(Int.negSucc 0), (Int.negSucc 0)]), (24, [0, 5], []), (24, [1, 6], []), (24, [2, 7], []), (24, [3, 8], [])])]
def t_Mo_augment_ct : ct_L := [(0, 547, e_Mo_min)]
set_option maxRecDepth 100000 in
theorem c_Mo_augment {l : Launch} {D : va_G} {kA : Nat → ClassId} (h_Mo_min : ct_ok PRD l D kA GG y_Mo_min z_Mo_min e_Mo_min) : ct_ok PRD l D kA GG y_Mo_augment z_Mo_augment e_Mo_augment := chk_all_ok (FT := [(198, 13, 90), (201, 13, 91), (204, 13, 92)]) (PT := []) (CT := t_Mo_augment_ct) (KT := [(1, 546, .int (1000000), (0, 1000000, 1000000, []))]) (NT := []) (AN := n_Mo_augment_an) (OT := [o_Mo_augment_0, o_Mo_augment_1, o_Mo_augment_2, o_Mo_augment_3, o_Mo_augment_4, o_Mo_augment_5, o_Mo_augment_6, o_Mo_augment_7, o_Mo_augment_8, o_Mo_augment_9, o_Mo_augment_10, o_Mo_augment_11, o_Mo_augment_12, o_Mo_augment_13, o_Mo_augment_14, o_Mo_augment_15, o_Mo_augment_16, o_Mo_augment_17, o_Mo_augment_18, o_Mo_augment_19, o_Mo_augment_20, o_Mo_augment_21, o_Mo_augment_22, o_Mo_augment_23, o_Mo_augment_24, o_Mo_augment_25, o_Mo_augment_26, o_Mo_augment_27, o_Mo_augment_28, o_Mo_augment_29, o_Mo_augment_30]) 5 624 (List.forall_mem_cons.mpr ⟨oo_Mo_augment_0, List.forall_mem_cons.mpr ⟨oo_Mo_augment_1, List.forall_mem_cons.mpr ⟨oo_Mo_augment_2, List.forall_mem_cons.mpr ⟨oo_Mo_augment_3, List.forall_mem_cons.mpr ⟨oo_Mo_augment_4, List.forall_mem_cons.mpr ⟨oo_Mo_augment_5, List.forall_mem_cons.mpr ⟨oo_Mo_augment_6, List.forall_mem_cons.mpr ⟨oo_Mo_augment_7, List.forall_mem_cons.mpr ⟨oo_Mo_augment_8, List.forall_mem_cons.mpr ⟨oo_Mo_augment_9, List.forall_mem_cons.mpr ⟨oo_Mo_augment_10, List.forall_mem_cons.mpr ⟨oo_Mo_augment_11, List.forall_mem_cons.mpr ⟨oo_Mo_augment_12, List.forall_mem_cons.mpr ⟨oo_Mo_augment_13, List.forall_mem_cons.mpr ⟨oo_Mo_augment_14, List.forall_mem_cons.mpr ⟨oo_Mo_augment_15, List.forall_mem_cons.mpr ⟨oo_Mo_augment_16, List.forall_mem_cons.mpr ⟨oo_Mo_augment_17, List.forall_mem_cons.mpr ⟨oo_Mo_augment_18, List.forall_mem_cons.mpr ⟨oo_Mo_augment_19, List.forall_mem_cons.mpr ⟨oo_Mo_augment_20, List.forall_mem_cons.mpr ⟨oo_Mo_augment_21, List.forall_mem_cons.mpr ⟨oo_Mo_augment_22, List.forall_mem_cons.mpr ⟨oo_Mo_augment_23, List.forall_mem_cons.mpr ⟨oo_Mo_augment_24, List.forall_mem_cons.mpr ⟨oo_Mo_augment_25, List.forall_mem_cons.mpr ⟨oo_Mo_augment_26, List.forall_mem_cons.mpr ⟨oo_Mo_augment_27, List.forall_mem_cons.mpr ⟨oo_Mo_augment_28, List.forall_mem_cons.mpr ⟨oo_Mo_augment_29, List.forall_mem_cons.mpr ⟨oo_Mo_augment_30, List.forall_mem_nil _⟩⟩⟩⟩⟩⟩⟩⟩⟩⟩⟩⟩⟩⟩⟩⟩⟩⟩⟩⟩⟩⟩⟩⟩⟩⟩⟩⟩⟩⟩⟩) (by decide +kernel) ⟨List.forall_mem_cons.mpr ⟨gf_Mo_198, List.forall_mem_cons.mpr ⟨gf_Mo_201, List.forall_mem_cons.mpr ⟨gf_Mo_204, List.forall_mem_nil _⟩⟩⟩, List.forall_mem_nil _, List.forall_mem_cons.mpr ⟨cl_static (y := y_Mo_min) h_Mo_min wm_3174 wm_9 wm_3172 wm_3173 ⟨by decide, by decide, by decide +kernel⟩ (by decide), List.forall_mem_nil _⟩, List.forall_mem_cons.mpr ⟨kx_Mo_1_546, List.forall_mem_nil _⟩, List.forall_mem_nil _, GG_pl⟩ (by decide +kernel)

set_option maxHeartbeats 4000000 in
theorem vc_Mo_byMeans_0_0 (x1 : Int) (x4 : Int) (layerSize_0 : Int → Int) (k1 : 0 ≤ x1 ∧ x1 ≤ 75) (k4 : 0 ≤ x4 ∧ x4 ≤ 76) (h0 : x4 = layerSize_0 (x1)) : x4 = layerSize_0 (x1) := by
  first
    | omega
    | exact lsa_la (p := x11) ‹LSA _ _ _ _ _ _ _ _ _ _› (by omega) (by omega) (by assumption)
    | exact lsa_lb (p := x11) ‹LSA _ _ _ _ _ _ _ _ _ _› (by omega) (by omega) (by assumption)
    | (have h := lsb_sz (l := x1) (n := x4) ‹LSB _ _ _ _ _› (by omega) (by omega) (by assumption); omega)
    | (rw [← (by omega : x11 = 76 * x4 + x7)]; assumption)
set_option maxHeartbeats 4000000 in
theorem vc_Mo_byMeans_0_1 (x1 : Int) (x4 : Int) (layerSize_0 : Int → Int) (itemLayer_0 : Int → Int) (items_0 : Int) (layerMany_0 : Int) (layerItem_0 : Int → Int) (k1 : 0 ≤ x1 ∧ x1 ≤ 75) (k4 : 0 ≤ x4 ∧ x4 ≤ 76) (h0 : x4 = layerSize_0 (x1)) (f3 : LSB (items_0) (layerMany_0) (itemLayer_0) (layerSize_0) (layerItem_0)) (f4 : (0 ≤ x1) ∧ ((x1 + 1) ≤ layerMany_0)) (kz_0_100 : 0 ≤ items_0 ∧ items_0 ≤ 76) (kz_0_101 : 0 ≤ layerMany_0 ∧ layerMany_0 ≤ 76) : x4 ≤ 72 := by
  first
    | omega
    | exact lsa_la (p := x11) ‹LSA _ _ _ _ _ _ _ _ _ _› (by omega) (by omega) (by assumption)
    | exact lsa_lb (p := x11) ‹LSA _ _ _ _ _ _ _ _ _ _› (by omega) (by omega) (by assumption)
    | (have h := lsb_sz (l := x1) (n := x4) ‹LSB _ _ _ _ _› (by omega) (by omega) (by assumption); omega)
    | (rw [← (by omega : x11 = 76 * x4 + x7)]; assumption)
set_option maxHeartbeats 4000000 in
theorem vc_Mo_byMeans_0_2 (x1 : Int) (x5 : Int) (layerItem_0 : Int → Int) (row_0 : Int → Int) (k1 : 0 ≤ x1 ∧ x1 ≤ 75) (k5 : 0 ≤ x5 ∧ x5 ≤ 0) : BM1 (layerItem_0) (row_0) (x1) (x5) := by
  first
    | (intro j a b; exfalso; omega)
    | exact bm1_next ‹BM1 _ _ _ _› (by assumption) (by assumption) (by assumption)
def o_Mo_byMeans_0 : or_T := (10, 6, [(0, (2, 0, 0, [165])), (1, (0, 0, 75, [])), (4, (0, 0, 76, [])), (5, (0, 0, 0, []))], [(10, [4, 3, 1], []), (9, [3, 0], [105]), (20, [0], [60, 2, 3, 448, 100, 101, 102, 105, 106]), (20, [1, 0], [50, 1, 0, 1101, 2, 6, 0, 2, 0, 0, 1, 0, 0, 6, 4, 2, 1, 0, 0, 1, 2, 1, 101])], [], [], [(20, [4, 0, 1], [50, 0, 1, 1105, 1, 2, 1, 0, 3, 1, 105, 1, 2]), (20, [4], [50, 0, 0, 0, 2, 1, 0, 0, 72]), (20, [0, 1, 5], [60, 0, 2, 451, 106, 117]), (24, [0, 0], [])], [], [])
theorem oo_Mo_byMeans_0 {kA : Nat → ClassId} : or_ok PRD kA GG o_Mo_byMeans_0 := by
  refine or_mk fun A ta ws vs hD hth hl => ?_
  intro t0 r0 t1 k1 t4 k4 t5 k5 f0 f1 f3 f4
  replace f0 := shm_107 f0
  replace f1 := shm_619 f1
  have ad_3 : v_ad (n_v vs 3) = w_ar ws (n_v vs 0) 105 := congrArg v_ad f1
  simp only [ad_3] at f0
  have h0 : v_iv (n_v vs 4) = w_ei ws (w_ar ws (n_v vs 0) 105) (v_iv (n_v vs 1)) := f0
  have kz_0_100 := fdq_162 hD hth r0
  have kz_0_101 := fdq_125 hD hth r0
  have nf0 : fc_1 PRD (20, [4, 0, 1], [50, 0, 1, 1105, 1, 2, 1, 0, 3, 1, 105, 1, 2]) ws (vs) := ⟨nf_in hl rfl, sgq_724 (vc_Mo_byMeans_0_0 (v_iv (n_v vs 1)) (v_iv (n_v vs 4)) (w_ei ws (w_ar ws (n_v vs 0) 105)) k1 k4 h0)⟩
  have nf1 : fc_1 PRD (20, [4], [50, 0, 0, 0, 2, 1, 0, 0, 72]) ws (vs) := ⟨nf_in hl rfl, sgq_966 (vc_Mo_byMeans_0_1 (v_iv (n_v vs 1)) (v_iv (n_v vs 4)) (w_ei ws (w_ar ws (n_v vs 0) 105)) (w_ei ws (w_ar ws (n_v vs 0) 102)) (w_fi ws (n_v vs 0) 100) (w_fi ws (n_v vs 0) 101) (w_ei ws (w_ar ws (n_v vs 0) 106)) k1 k4 h0 (shm_675 f3) (shm_721 f4) kz_0_100 kz_0_101)⟩
  have nf2 : fc_1 PRD (20, [0, 1, 5], [60, 0, 2, 451, 106, 117]) ws (vs) := ⟨nf_in hl rfl, sgq_967 (vc_Mo_byMeans_0_2 (v_iv (n_v vs 1)) (v_iv (n_v vs 5)) (w_ei ws (w_ar ws (n_v vs 0) 106)) (w_ei ws (w_ar ws (n_v vs 0) 117)) k1 k5)⟩
  have nf3 : fc_1 PRD (24, [0, 0], []) ws (vs) := by
    refine ⟨nf_in hl rfl, sgq_1 ?_⟩
    · show n_v vs 0 = n_v vs 0
      first | rfl | simp only [true_and]
  refine ⟨(fun _ h => (by cases h)), [], trivial, ?_, (fun _ h => (by cases h))⟩
  rw [List.append_nil]
  exact List.forall_mem_cons.mpr ⟨⟨show (20 : Nat) < 100 from by decide, nf0⟩, List.forall_mem_cons.mpr ⟨⟨show (20 : Nat) < 100 from by decide, nf1⟩, List.forall_mem_cons.mpr ⟨⟨show (20 : Nat) < 100 from by decide, nf2⟩, List.forall_mem_cons.mpr ⟨⟨show (24 : Nat) < 100 from by decide, nf3⟩, (fun _ h => (by cases h))⟩⟩⟩⟩
set_option maxHeartbeats 4000000 in
theorem vc_Mo_byMeans_1_0 (x4 : Int) (x6 : Int) (x7 : Int) (itemLayer_0 : Int → Int) (items_0 : Int) (layerMany_0 : Int) (layerSize_0 : Int → Int) (layerItem_0 : Int → Int) (row_0 : Int → Int) (k4 : 0 ≤ x4 ∧ x4 ≤ 75) (k6 : 0 ≤ x6 ∧ x6 ≤ 76) (k7 : 0 ≤ x7 ∧ x7 ≤ 76) (f0 : x6 ≤ x7) (f2 : LSB (items_0) (layerMany_0) (itemLayer_0) (layerSize_0) (layerItem_0)) (f3 : x6 = layerSize_0 (x4)) (f4 : (0 ≤ x4) ∧ ((x4 + 1) ≤ layerMany_0)) (f6 : BM1 (layerItem_0) (row_0) (x4) (x7)) (kz_0_100 : 0 ≤ items_0 ∧ items_0 ≤ 76) (kz_0_101 : 0 ≤ layerMany_0 ∧ layerMany_0 ≤ 76) : BMR (items_0) (itemLayer_0) (row_0) (x6) (x4) := by
  first
    | assumption
    | exact bmr_start ‹LSB _ _ _ _ _› ‹BM1 _ _ _ _› (by omega) (by omega) (by omega) (by omega)
def o_Mo_byMeans_1 : or_T := (180, 9, [(0, (2, 0, 0, [165])), (4, (0, 0, 75, [])), (6, (0, 0, 76, [])), (7, (0, 0, 76, []))], [(7, [7, 6], [3]), (20, [3], [60, 2, 3, 448, 100, 101, 102, 105, 106]), (20, [6, 3, 4], [50, 0, 1, 1105, 1, 2, 1, 0, 3, 1, 105, 1, 2]), (20, [4, 3], [50, 1, 0, 1101, 2, 6, 0, 2, 0, 0, 1, 0, 0, 6, 4, 2, 1, 0, 0, 1, 2, 1, 101]), (20, [3, 4, 7], [60, 0, 2, 451, 106, 117]), (24, [0, 3], [])], [], [], [(20, [3, 6, 4], [60, 1, 2, 452, 100, 102, 117])], [], [])
theorem oo_Mo_byMeans_1 {kA : Nat → ClassId} : or_ok PRD kA GG o_Mo_byMeans_1 := by
  refine or_mk fun A ta ws vs hD hth hl => ?_
  intro t0 r0 t4 k4 t6 k6 t7 k7 f0 f2 f3 f4 f6 f7
  replace f0 := shm_2 f0
  replace f2 := shm_675 f2
  replace f3 := shm_724 f3
  replace f4 := shm_721 f4
  replace f6 := shm_967 f6
  replace f7 := shm_5 f7
  have q3 : n_v vs 3 = n_v vs 0 := f7.symm
  simp only [q3] at f2 f3 f4 f6
  have kz_0_100 := fdq_162 hD hth r0
  have kz_0_101 := fdq_125 hD hth r0
  have nf0 : fc_1 PRD (20, [3, 6, 4], [60, 1, 2, 452, 100, 102, 117]) ws (vs) := by
    refine ⟨nf_in hl rfl, sgq_968 ?_⟩
    · show BMR (w_fi ws (n_v vs 3) 100) (w_ei ws (w_ar ws (n_v vs 3) 102)) (w_ei ws (w_ar ws (n_v vs 3) 117)) (v_iv (n_v vs 6)) (v_iv (n_v vs 4))
      rw [q3]
      exact vc_Mo_byMeans_1_0 (v_iv (n_v vs 4)) (v_iv (n_v vs 6)) (v_iv (n_v vs 7)) (w_ei ws (w_ar ws (n_v vs 0) 102)) (w_fi ws (n_v vs 0) 100) (w_fi ws (n_v vs 0) 101) (w_ei ws (w_ar ws (n_v vs 0) 105)) (w_ei ws (w_ar ws (n_v vs 0) 106)) (w_ei ws (w_ar ws (n_v vs 0) 117)) k4 k6 k7 f0 f2 f3 f4 f6 kz_0_100 kz_0_101
  refine ⟨(fun _ h => (by cases h)), [], trivial, ?_, (fun _ h => (by cases h))⟩
  rw [List.append_nil]
  exact List.forall_mem_cons.mpr ⟨⟨show (20 : Nat) < 100 from by decide, nf0⟩, (fun _ h => (by cases h))⟩
set_option maxHeartbeats 4000000 in
theorem vc_Mo_byMeans_2_0 (x4 : Int) (x6 : Int) (x7 : Int) (x10 : Int) (x11 : Int) (layerSize_0 : Int → Int) (k4 : 0 ≤ x4 ∧ x4 ≤ 75) (k6 : 1 ≤ x6 ∧ x6 ≤ 76) (k7 : 0 ≤ x7 ∧ x7 ≤ 75) (k10 : 0 ≤ x10 ∧ x10 ≤ 5700) (k11 : 0 ≤ x11 ∧ x11 ≤ 5775) (d4 : x6 + (-4294967296) ≤ x7 ∧ x7 ≤ x6 + (-1)) (f1 : x11 = x10 + x7) (f2 : x10 = 76 * x4) (f7 : x6 = layerSize_0 (x4)) : (x7 + 1) ≤ x6 := by
  first
    | omega
    | exact lsa_la (p := x11) ‹LSA _ _ _ _ _ _ _ _ _ _› (by omega) (by omega) (by assumption)
    | exact lsa_lb (p := x11) ‹LSA _ _ _ _ _ _ _ _ _ _› (by omega) (by omega) (by assumption)
    | (have h := lsb_sz (l := x1) (n := x4) ‹LSB _ _ _ _ _› (by omega) (by omega) (by assumption); omega)
    | (rw [← (by omega : x11 = 76 * x4 + x7)]; assumption)
set_option maxHeartbeats 4000000 in
theorem vc_Mo_byMeans_2_1 (x4 : Int) (x7 : Int) (x10 : Int) (x11 : Int) (x12 : Int) (layerItem_0 : Int → Int) (k4 : 0 ≤ x4 ∧ x4 ≤ 75) (k7 : 0 ≤ x7 ∧ x7 ≤ 75) (k10 : 0 ≤ x10 ∧ x10 ≤ 5700) (k11 : 0 ≤ x11 ∧ x11 ≤ 5775) (k12 : 0 ≤ x12 ∧ x12 ≤ 75) (h0 : x12 = layerItem_0 (x11)) (f1 : x11 = x10 + x7) (f2 : x10 = 76 * x4) : x12 = layerItem_0 (((76 * x4) + x7)) := by
  first
    | omega
    | exact lsa_la (p := x11) ‹LSA _ _ _ _ _ _ _ _ _ _› (by omega) (by omega) (by assumption)
    | exact lsa_lb (p := x11) ‹LSA _ _ _ _ _ _ _ _ _ _› (by omega) (by omega) (by assumption)
    | (have h := lsb_sz (l := x1) (n := x4) ‹LSB _ _ _ _ _› (by omega) (by omega) (by assumption); omega)
    | (rw [← (by omega : x11 = 76 * x4 + x7)]; assumption)
def o_Mo_byMeans_2 : or_T := (39, 16, [(4, (0, 0, 75, [])), (6, (0, 1, 76, [])), (7, (0, 0, 75, [])), (9, (0, 76, 76, [])), (10, (0, 0, 5700, [])), (11, (0, 0, 5775, [])), (12, (0, 0, 75, []))], [(10, [12, 8, 11], []), (1, [11, 10, 7], []), (3, [10, 9, 4], []), (9, [8, 3], [106]), (20, [6, 3, 4], [50, 0, 1, 1105, 1, 2, 1, 0, 3, 1, 105, 1, 2]), (24, [0, 3], [])], [], [], [(20, [7, 6], [50, 0, 0, 0, 6, 4, 2, 1, 0, 0, 1, 1, 1]), (20, [12, 3, 4, 7], [50, 0, 1, 1106, 1, 2, 1, 0, 3, 1, 106, 4, 6, 6, 2, 0, 76, 1, 2, 1, 3])], [], [(7, 6, -4294967296, -1)])
theorem oo_Mo_byMeans_2 {kA : Nat → ClassId} : or_ok PRD kA GG o_Mo_byMeans_2 := by
  refine or_mk fun A ta ws vs hD hth hl => ?_
  intro t4 k4 t6 k6 t7 k7 t9 k9 t10 k10 t11 k11 t12 k12 d4 f0 f1 f2 f3 f7 f11
  replace f0 := shm_107 f0
  replace f1 := shm_12 f1
  replace f2 := shm_38 f2
  rw [show v_iv (n_v vs 9) = 76 from by omega] at f2
  replace f3 := shm_679 f3
  replace f7 := shm_724 f7
  replace f11 := shm_5 f11
  have q3 : n_v vs 3 = n_v vs 0 := f11.symm
  simp only [q3] at f3 f7
  have ad_8 : v_ad (n_v vs 8) = w_ar ws (n_v vs 0) 106 := congrArg v_ad f3
  simp only [ad_8] at f0
  have h0 : v_iv (n_v vs 12) = w_ei ws (w_ar ws (n_v vs 0) 106) (v_iv (n_v vs 11)) := f0
  have nf0 : fc_1 PRD (20, [7, 6], [50, 0, 0, 0, 6, 4, 2, 1, 0, 0, 1, 1, 1]) ws (vs) := ⟨nf_in hl rfl, sgq_396 (vc_Mo_byMeans_2_0 (v_iv (n_v vs 4)) (v_iv (n_v vs 6)) (v_iv (n_v vs 7)) (v_iv (n_v vs 10)) (v_iv (n_v vs 11)) (w_ei ws (w_ar ws (n_v vs 0) 105)) k4 k6 k7 k10 k11 d4 f1 f2 f7)⟩
  have nf1 : fc_1 PRD (20, [12, 3, 4, 7], [50, 0, 1, 1106, 1, 2, 1, 0, 3, 1, 106, 4, 6, 6, 2, 0, 76, 1, 2, 1, 3]) ws (vs) := by
    refine ⟨nf_in hl rfl, sgq_969 ?_⟩
    · show v_iv (n_v vs 12) = w_ei ws (w_ar ws (n_v vs 3) 106) (((76 * v_iv (n_v vs 4)) + v_iv (n_v vs 7)))
      rw [q3]
      exact vc_Mo_byMeans_2_1 (v_iv (n_v vs 4)) (v_iv (n_v vs 7)) (v_iv (n_v vs 10)) (v_iv (n_v vs 11)) (v_iv (n_v vs 12)) (w_ei ws (w_ar ws (n_v vs 0) 106)) k4 k7 k10 k11 k12 h0 f1 f2
  refine ⟨(fun _ h => (by cases h)), [], trivial, ?_, (fun _ h => (by cases h))⟩
  rw [List.append_nil]
  exact List.forall_mem_cons.mpr ⟨⟨show (20 : Nat) < 100 from by decide, nf0⟩, List.forall_mem_cons.mpr ⟨⟨show (20 : Nat) < 100 from by decide, nf1⟩, (fun _ h => (by cases h))⟩⟩
set_option maxHeartbeats 4000000 in
theorem vc_Mo_byMeans_3_0 (x4 : Int) (x7 : Int) (x8 : Int) (x18 : Int) (all_0 : Int → Int) (turned_0 : Int → Int) (itemLayer_0 : Int → Int) (firstJoint_0 : Int → Int) (lineA_0 : Int → Int) (lineB_0 : Int → Int) (r_0 : Int) (items_0 : Int) (layerMany_0 : Int) (lines_0 : Int) (layerSize_0 : Int → Int) (layerItem_0 : Int → Int) (all_1 : Int → Int) (turned_1 : Int → Int) (itemLayer_1 : Int → Int) (firstJoint_1 : Int → Int) (lineA_1 : Int → Int) (lineB_1 : Int → Int) (r_1 : Int) (items_1 : Int) (layerMany_1 : Int) (lines_1 : Int) (layerSize_1 : Int → Int) (layerItem_1 : Int → Int) (row_1 : Int → Int) (all_2 : Int → Int) (turned_2 : Int → Int) (itemLayer_2 : Int → Int) (firstJoint_2 : Int → Int) (lineA_2 : Int → Int) (lineB_2 : Int → Int) (r_2 : Int) (items_2 : Int) (layerMany_2 : Int) (lines_2 : Int) (layerSize_2 : Int → Int) (layerItem_2 : Int → Int) (row_2 : Int → Int) (lines_3 : Int) (all_3 : Int → Int) (turned_3 : Int → Int) (itemLayer_3 : Int → Int) (firstJoint_3 : Int → Int) (lineA_3 : Int → Int) (lineB_3 : Int → Int) (r_3 : Int) (items_3 : Int) (layerMany_3 : Int) (layerSize_3 : Int → Int) (layerItem_3 : Int → Int) (row_3 : Int → Int) (row_0 : Int → Int) (meanA_0 : Int → Int) (meanA_1 : Int → Int) (meanA_2 : Int → Int) (meanB_0 : Int → Int) (meanB_1 : Int → Int) (meanB_2 : Int → Int) (meanB_3 : Int → Int) (k4 : 0 ≤ x4 ∧ x4 ≤ 75) (k7 : 0 ≤ x7 ∧ x7 ≤ 75) (k8 : 0 ≤ x8 ∧ x8 ≤ 75) (k18 : 1 ≤ x18 ∧ x18 ≤ 76) (f0 : x18 = x7 + 1) (f38 : BM1 (layerItem_3) (row_3) (x4) (x7)) (f40 : x8 = layerItem_3 (((76 * x4) + x7))) (fe_0_5_1 : r_0 = r_1) (fe_0_100_1 : items_0 = items_1) (fe_0_101_1 : layerMany_0 = layerMany_1) (fe_0_107_1 : lines_0 = lines_1) (fe_0_5_2 : r_1 = r_2) (fe_0_100_2 : items_1 = items_2) (fe_0_101_2 : layerMany_1 = layerMany_2) (fe_0_107_2 : lines_1 = lines_2) (fe_0_5_3 : r_2 = r_3) (fe_0_100_3 : items_2 = items_3) (fe_0_101_3 : layerMany_2 = layerMany_3) (fe_0_107_3 : lines_2 = lines_3) (hE_0_2_1 : ∀ j : Int, all_0 j = all_1 j) (hE_0_2_2 : ∀ j : Int, all_1 j = all_2 j) (hE_0_2_3 : ∀ j : Int, all_2 j = all_3 j) (hE_0_95_1 : ∀ j : Int, turned_0 j = turned_1 j) (hE_0_95_2 : ∀ j : Int, turned_1 j = turned_2 j) (hE_0_95_3 : ∀ j : Int, turned_2 j = turned_3 j) (hE_0_102_1 : ∀ j : Int, itemLayer_0 j = itemLayer_1 j) (hE_0_102_2 : ∀ j : Int, itemLayer_1 j = itemLayer_2 j) (hE_0_102_3 : ∀ j : Int, itemLayer_2 j = itemLayer_3 j) (hE_0_104_1 : ∀ j : Int, firstJoint_0 j = firstJoint_1 j) (hE_0_104_2 : ∀ j : Int, firstJoint_1 j = firstJoint_2 j) (hE_0_104_3 : ∀ j : Int, firstJoint_2 j = firstJoint_3 j) (hE_0_105_1 : ∀ j : Int, layerSize_0 j = layerSize_1 j) (hE_0_105_2 : ∀ j : Int, layerSize_1 j = layerSize_2 j) (hE_0_105_3 : ∀ j : Int, layerSize_2 j = layerSize_3 j) (hE_0_106_1 : ∀ j : Int, layerItem_0 j = layerItem_1 j) (hE_0_106_2 : ∀ j : Int, layerItem_1 j = layerItem_2 j) (hE_0_106_3 : ∀ j : Int, layerItem_2 j = layerItem_3 j) (hE_0_108_1 : ∀ j : Int, lineA_0 j = lineA_1 j) (hE_0_108_2 : ∀ j : Int, lineA_1 j = lineA_2 j) (hE_0_108_3 : ∀ j : Int, lineA_2 j = lineA_3 j) (hE_0_109_1 : ∀ j : Int, lineB_0 j = lineB_1 j) (hE_0_109_2 : ∀ j : Int, lineB_1 j = lineB_2 j) (hE_0_109_3 : ∀ j : Int, lineB_2 j = lineB_3 j) (hE_0_117_1 : ∀ j : Int, 0 ≤ j → (j = x7 → row_0 j = x8) ∧ (j ≠ x7 → row_0 j = row_1 j)) (hE_0_117_2 : ∀ j : Int, row_1 j = row_2 j) (hE_0_117_3 : ∀ j : Int, row_2 j = row_3 j) (hE_0_119_1 : ∀ j : Int, meanA_0 j = meanA_1 j) (hE_0_119_2 : ∀ j : Int, meanA_1 j = meanA_2 j) (hE_0_120_1 : ∀ j : Int, meanB_0 j = meanB_1 j) (hE_0_120_3 : ∀ j : Int, meanB_2 j = meanB_3 j) (kz_0_100 : 0 ≤ items_0 ∧ items_0 ≤ 76) (kz_0_101 : 0 ≤ layerMany_0 ∧ layerMany_0 ≤ 76) (kz_0_107 : 0 ≤ lines_0 ∧ lines_0 ≤ 130) : BM1 (layerItem_0) (row_0) (x4) (x18) := by
  subst fe_0_5_1
  subst fe_0_100_1
  subst fe_0_101_1
  subst fe_0_107_1
  subst fe_0_5_2
  subst fe_0_100_2
  subst fe_0_101_2
  subst fe_0_107_2
  subst fe_0_5_3
  subst fe_0_100_3
  subst fe_0_101_3
  subst fe_0_107_3
  have e_hE_0_2_1 := funext hE_0_2_1; subst e_hE_0_2_1
  have e_hE_0_2_2 := funext hE_0_2_2; subst e_hE_0_2_2
  have e_hE_0_2_3 := funext hE_0_2_3; subst e_hE_0_2_3
  have e_hE_0_95_1 := funext hE_0_95_1; subst e_hE_0_95_1
  have e_hE_0_95_2 := funext hE_0_95_2; subst e_hE_0_95_2
  have e_hE_0_95_3 := funext hE_0_95_3; subst e_hE_0_95_3
  have e_hE_0_102_1 := funext hE_0_102_1; subst e_hE_0_102_1
  have e_hE_0_102_2 := funext hE_0_102_2; subst e_hE_0_102_2
  have e_hE_0_102_3 := funext hE_0_102_3; subst e_hE_0_102_3
  have e_hE_0_104_1 := funext hE_0_104_1; subst e_hE_0_104_1
  have e_hE_0_104_2 := funext hE_0_104_2; subst e_hE_0_104_2
  have e_hE_0_104_3 := funext hE_0_104_3; subst e_hE_0_104_3
  have e_hE_0_105_1 := funext hE_0_105_1; subst e_hE_0_105_1
  have e_hE_0_105_2 := funext hE_0_105_2; subst e_hE_0_105_2
  have e_hE_0_105_3 := funext hE_0_105_3; subst e_hE_0_105_3
  have e_hE_0_106_1 := funext hE_0_106_1; subst e_hE_0_106_1
  have e_hE_0_106_2 := funext hE_0_106_2; subst e_hE_0_106_2
  have e_hE_0_106_3 := funext hE_0_106_3; subst e_hE_0_106_3
  have e_hE_0_108_1 := funext hE_0_108_1; subst e_hE_0_108_1
  have e_hE_0_108_2 := funext hE_0_108_2; subst e_hE_0_108_2
  have e_hE_0_108_3 := funext hE_0_108_3; subst e_hE_0_108_3
  have e_hE_0_109_1 := funext hE_0_109_1; subst e_hE_0_109_1
  have e_hE_0_109_2 := funext hE_0_109_2; subst e_hE_0_109_2
  have e_hE_0_109_3 := funext hE_0_109_3; subst e_hE_0_109_3
  have e_hE_0_117_2 := funext hE_0_117_2; subst e_hE_0_117_2
  have e_hE_0_117_3 := funext hE_0_117_3; subst e_hE_0_117_3
  have e_hE_0_119_1 := funext hE_0_119_1; subst e_hE_0_119_1
  have e_hE_0_119_2 := funext hE_0_119_2; subst e_hE_0_119_2
  have e_hE_0_120_1 := funext hE_0_120_1; subst e_hE_0_120_1
  have e_hE_0_120_3 := funext hE_0_120_3; subst e_hE_0_120_3
  first
    | (intro j a b; exfalso; omega)
    | exact bm1_next ‹BM1 _ _ _ _› (by assumption) (by assumption) (by assumption)
def o_Mo_byMeans_3 : or_T := (10, 19, [(0, (2, 0, 0, [165])), (4, (0, 0, 75, [])), (7, (0, 0, 75, [])), (8, (0, 0, 75, [])), (13, (2, 0, 0, [251])), (15, (2, 0, 0, [252])), (17, (2, 0, 0, [249])), (18, (0, 1, 76, []))], [(6, [18, 7], [1]), (24, [0, 3], []), (100, [17, 7, 8], []), (9, [17, 3], [117]), (100, [15, 7, 10], []), (100, [13, 7, 9], []), (20, [3, 4, 7], [60, 0, 2, 451, 106, 117]), (20, [8, 3, 4, 7], [50, 0, 1, 1106, 1, 2, 1, 0, 3, 1, 106, 4, 6, 6, 2, 0, 76, 1, 2, 1, 3])], [], [], [(20, [3, 4, 18], [60, 0, 2, 451, 106, 117])], [], [(18, 7, 1, 1), (7, 6, -4294967296, -1)])
theorem oo_Mo_byMeans_3 {kA : Nat → ClassId} : or_ok PRD kA GG o_Mo_byMeans_3 := by
  refine or_mk fun A ta ws vs hD hth hl => ?_
  intro t0 r0 t4 k4 t7 k7 t8 k8 t13 r13 t15 r15 t17 r17 t18 k18 d0 d3 f0 f8 ta1 w1 le1 s1 f10 ta2 w2 le2 s2 ta3 w3 le3 s3 f38 f40
  replace f0 := shm_4 f0
  replace f8 := shm_5 f8
  have s1 : (∀ b j, w_el ws b j = if b = v_ad (n_v vs 17) ∧ j = (v_iv (n_v vs 7)).toNat then v_iv (n_v vs 8) else w_el w1 b j) ∧ ∀ b k, w_fd ws b k = w_fd w1 b k := s1.2
  replace f10 := shm_713 f10
  have s2 : (∀ b j, w_el w1 b j = if b = v_ad (n_v vs 15) ∧ j = (v_iv (n_v vs 7)).toNat then v_iv (n_v vs 10) else w_el w2 b j) ∧ ∀ b k, w_fd w1 b k = w_fd w2 b k := s2.2
  have s3 : (∀ b j, w_el w2 b j = if b = v_ad (n_v vs 13) ∧ j = (v_iv (n_v vs 7)).toNat then v_iv (n_v vs 9) else w_el w3 b j) ∧ ∀ b k, w_fd w2 b k = w_fd w3 b k := s3.2
  replace f38 := shm_967 f38
  replace f40 := shm_969 f40
  have q3 : n_v vs 3 = n_v vs 0 := f8.symm
  simp only [q3] at f10 f38 f40
  have ar_0_2_1 : w_ar w1 (n_v vs 0) 2 = w_ar ws (n_v vs 0) 2 := congrArg v_ad (s1.2 _ _).symm
  have ar_0_2_2 : w_ar w2 (n_v vs 0) 2 = w_ar ws (n_v vs 0) 2 := by rw [← ar_0_2_1]; show v_ad (w_fd w2 _ _) = v_ad (w_fd w1 _ _); rw [s2.2]
  have ar_0_2_3 : w_ar w3 (n_v vs 0) 2 = w_ar ws (n_v vs 0) 2 := by rw [← ar_0_2_2]; show v_ad (w_fd w3 _ _) = v_ad (w_fd w2 _ _); rw [s3.2]
  have cr_0_2 := fdq_10 hD hth r0
  have ar_0_95_1 : w_ar w1 (n_v vs 0) 95 = w_ar ws (n_v vs 0) 95 := congrArg v_ad (s1.2 _ _).symm
  have ar_0_95_2 : w_ar w2 (n_v vs 0) 95 = w_ar ws (n_v vs 0) 95 := by rw [← ar_0_95_1]; show v_ad (w_fd w2 _ _) = v_ad (w_fd w1 _ _); rw [s2.2]
  have ar_0_95_3 : w_ar w3 (n_v vs 0) 95 = w_ar ws (n_v vs 0) 95 := by rw [← ar_0_95_2]; show v_ad (w_fd w3 _ _) = v_ad (w_fd w2 _ _); rw [s3.2]
  have cr_0_95 := fdq_130 hD hth r0
  have ar_0_102_1 : w_ar w1 (n_v vs 0) 102 = w_ar ws (n_v vs 0) 102 := congrArg v_ad (s1.2 _ _).symm
  have ar_0_102_2 : w_ar w2 (n_v vs 0) 102 = w_ar ws (n_v vs 0) 102 := by rw [← ar_0_102_1]; show v_ad (w_fd w2 _ _) = v_ad (w_fd w1 _ _); rw [s2.2]
  have ar_0_102_3 : w_ar w3 (n_v vs 0) 102 = w_ar ws (n_v vs 0) 102 := by rw [← ar_0_102_2]; show v_ad (w_fd w3 _ _) = v_ad (w_fd w2 _ _); rw [s3.2]
  have cr_0_102 := fdq_159 hD hth r0
  have ar_0_104_1 : w_ar w1 (n_v vs 0) 104 = w_ar ws (n_v vs 0) 104 := congrArg v_ad (s1.2 _ _).symm
  have ar_0_104_2 : w_ar w2 (n_v vs 0) 104 = w_ar ws (n_v vs 0) 104 := by rw [← ar_0_104_1]; show v_ad (w_fd w2 _ _) = v_ad (w_fd w1 _ _); rw [s2.2]
  have ar_0_104_3 : w_ar w3 (n_v vs 0) 104 = w_ar ws (n_v vs 0) 104 := by rw [← ar_0_104_2]; show v_ad (w_fd w3 _ _) = v_ad (w_fd w2 _ _); rw [s3.2]
  have cr_0_104 := fdq_170 hD hth r0
  have ar_0_105_1 : w_ar w1 (n_v vs 0) 105 = w_ar ws (n_v vs 0) 105 := congrArg v_ad (s1.2 _ _).symm
  have ar_0_105_2 : w_ar w2 (n_v vs 0) 105 = w_ar ws (n_v vs 0) 105 := by rw [← ar_0_105_1]; show v_ad (w_fd w2 _ _) = v_ad (w_fd w1 _ _); rw [s2.2]
  have ar_0_105_3 : w_ar w3 (n_v vs 0) 105 = w_ar ws (n_v vs 0) 105 := by rw [← ar_0_105_2]; show v_ad (w_fd w3 _ _) = v_ad (w_fd w2 _ _); rw [s3.2]
  have cr_0_105 := fdq_122 hD hth r0
  have ar_0_106_1 : w_ar w1 (n_v vs 0) 106 = w_ar ws (n_v vs 0) 106 := congrArg v_ad (s1.2 _ _).symm
  have ar_0_106_2 : w_ar w2 (n_v vs 0) 106 = w_ar ws (n_v vs 0) 106 := by rw [← ar_0_106_1]; show v_ad (w_fd w2 _ _) = v_ad (w_fd w1 _ _); rw [s2.2]
  have ar_0_106_3 : w_ar w3 (n_v vs 0) 106 = w_ar ws (n_v vs 0) 106 := by rw [← ar_0_106_2]; show v_ad (w_fd w3 _ _) = v_ad (w_fd w2 _ _); rw [s3.2]
  have cr_0_106 := fdq_123 hD hth r0
  have ar_0_108_1 : w_ar w1 (n_v vs 0) 108 = w_ar ws (n_v vs 0) 108 := congrArg v_ad (s1.2 _ _).symm
  have ar_0_108_2 : w_ar w2 (n_v vs 0) 108 = w_ar ws (n_v vs 0) 108 := by rw [← ar_0_108_1]; show v_ad (w_fd w2 _ _) = v_ad (w_fd w1 _ _); rw [s2.2]
  have ar_0_108_3 : w_ar w3 (n_v vs 0) 108 = w_ar ws (n_v vs 0) 108 := by rw [← ar_0_108_2]; show v_ad (w_fd w3 _ _) = v_ad (w_fd w2 _ _); rw [s3.2]
  have cr_0_108 := fdq_160 hD hth r0
  have ar_0_109_1 : w_ar w1 (n_v vs 0) 109 = w_ar ws (n_v vs 0) 109 := congrArg v_ad (s1.2 _ _).symm
  have ar_0_109_2 : w_ar w2 (n_v vs 0) 109 = w_ar ws (n_v vs 0) 109 := by rw [← ar_0_109_1]; show v_ad (w_fd w2 _ _) = v_ad (w_fd w1 _ _); rw [s2.2]
  have ar_0_109_3 : w_ar w3 (n_v vs 0) 109 = w_ar ws (n_v vs 0) 109 := by rw [← ar_0_109_2]; show v_ad (w_fd w3 _ _) = v_ad (w_fd w2 _ _); rw [s3.2]
  have cr_0_109 := fdq_161 hD hth r0
  have ar_0_117_1 : w_ar w1 (n_v vs 0) 117 = w_ar ws (n_v vs 0) 117 := congrArg v_ad (s1.2 _ _).symm
  have ar_0_117_2 : w_ar w2 (n_v vs 0) 117 = w_ar ws (n_v vs 0) 117 := by rw [← ar_0_117_1]; show v_ad (w_fd w2 _ _) = v_ad (w_fd w1 _ _); rw [s2.2]
  have ar_0_117_3 : w_ar w3 (n_v vs 0) 117 = w_ar ws (n_v vs 0) 117 := by rw [← ar_0_117_2]; show v_ad (w_fd w3 _ _) = v_ad (w_fd w2 _ _); rw [s3.2]
  have cr_0_117 := fdq_181 hD hth r0
  have cr_0_119 := fdq_234 hD hth r0
  have cr_0_120 := fdq_235 hD hth r0
  have ad_17 : v_ad (n_v vs 17) = w_ar ws (n_v vs 0) 117 := (congrArg v_ad f10).trans ar_0_117_1
  simp only [ar_0_2_3, ar_0_95_3, ar_0_102_3, ar_0_104_3, ar_0_108_3, ar_0_109_3, ar_0_105_3, ar_0_106_3, ar_0_117_3] at f38 f40
  have fe_0_5_1 : w_fi ws (n_v vs 0) 5 = w_fi w1 (n_v vs 0) 5 := congrArg v_iv (s1.2 _ _)
  have fe_0_100_1 : w_fi ws (n_v vs 0) 100 = w_fi w1 (n_v vs 0) 100 := congrArg v_iv (s1.2 _ _)
  have fe_0_101_1 : w_fi ws (n_v vs 0) 101 = w_fi w1 (n_v vs 0) 101 := congrArg v_iv (s1.2 _ _)
  have fe_0_107_1 : w_fi ws (n_v vs 0) 107 = w_fi w1 (n_v vs 0) 107 := congrArg v_iv (s1.2 _ _)
  have fe_0_5_2 : w_fi w1 (n_v vs 0) 5 = w_fi w2 (n_v vs 0) 5 := congrArg v_iv (s2.2 _ _)
  have fe_0_100_2 : w_fi w1 (n_v vs 0) 100 = w_fi w2 (n_v vs 0) 100 := congrArg v_iv (s2.2 _ _)
  have fe_0_101_2 : w_fi w1 (n_v vs 0) 101 = w_fi w2 (n_v vs 0) 101 := congrArg v_iv (s2.2 _ _)
  have fe_0_107_2 : w_fi w1 (n_v vs 0) 107 = w_fi w2 (n_v vs 0) 107 := congrArg v_iv (s2.2 _ _)
  have fe_0_5_3 : w_fi w2 (n_v vs 0) 5 = w_fi w3 (n_v vs 0) 5 := congrArg v_iv (s3.2 _ _)
  have fe_0_100_3 : w_fi w2 (n_v vs 0) 100 = w_fi w3 (n_v vs 0) 100 := congrArg v_iv (s3.2 _ _)
  have fe_0_101_3 : w_fi w2 (n_v vs 0) 101 = w_fi w3 (n_v vs 0) 101 := congrArg v_iv (s3.2 _ _)
  have fe_0_107_3 : w_fi w2 (n_v vs 0) 107 = w_fi w3 (n_v vs 0) 107 := congrArg v_iv (s3.2 _ _)
  have hE_0_2_1 : ∀ j : Int, w_ei ws (w_ar ws (n_v vs 0) 2) j = w_ei w1 (w_ar ws (n_v vs 0) 2) j := el_kp s1.1 r17 cr_0_2 (by decide)
  have hE_0_2_2 : ∀ j : Int, w_ei w1 (w_ar ws (n_v vs 0) 2) j = w_ei w2 (w_ar ws (n_v vs 0) 2) j := el_kp s2.1 r15 cr_0_2 (by decide)
  have hE_0_2_3 : ∀ j : Int, w_ei w2 (w_ar ws (n_v vs 0) 2) j = w_ei w3 (w_ar ws (n_v vs 0) 2) j := el_kp s3.1 r13 cr_0_2 (by decide)
  have hE_0_95_1 : ∀ j : Int, w_ei ws (w_ar ws (n_v vs 0) 95) j = w_ei w1 (w_ar ws (n_v vs 0) 95) j := el_kp s1.1 r17 cr_0_95 (by decide)
  have hE_0_95_2 : ∀ j : Int, w_ei w1 (w_ar ws (n_v vs 0) 95) j = w_ei w2 (w_ar ws (n_v vs 0) 95) j := el_kp s2.1 r15 cr_0_95 (by decide)
  have hE_0_95_3 : ∀ j : Int, w_ei w2 (w_ar ws (n_v vs 0) 95) j = w_ei w3 (w_ar ws (n_v vs 0) 95) j := el_kp s3.1 r13 cr_0_95 (by decide)
  have hE_0_102_1 : ∀ j : Int, w_ei ws (w_ar ws (n_v vs 0) 102) j = w_ei w1 (w_ar ws (n_v vs 0) 102) j := el_kp s1.1 r17 cr_0_102 (by decide)
  have hE_0_102_2 : ∀ j : Int, w_ei w1 (w_ar ws (n_v vs 0) 102) j = w_ei w2 (w_ar ws (n_v vs 0) 102) j := el_kp s2.1 r15 cr_0_102 (by decide)
  have hE_0_102_3 : ∀ j : Int, w_ei w2 (w_ar ws (n_v vs 0) 102) j = w_ei w3 (w_ar ws (n_v vs 0) 102) j := el_kp s3.1 r13 cr_0_102 (by decide)
  have hE_0_104_1 : ∀ j : Int, w_ei ws (w_ar ws (n_v vs 0) 104) j = w_ei w1 (w_ar ws (n_v vs 0) 104) j := el_kp s1.1 r17 cr_0_104 (by decide)
  have hE_0_104_2 : ∀ j : Int, w_ei w1 (w_ar ws (n_v vs 0) 104) j = w_ei w2 (w_ar ws (n_v vs 0) 104) j := el_kp s2.1 r15 cr_0_104 (by decide)
  have hE_0_104_3 : ∀ j : Int, w_ei w2 (w_ar ws (n_v vs 0) 104) j = w_ei w3 (w_ar ws (n_v vs 0) 104) j := el_kp s3.1 r13 cr_0_104 (by decide)
  have hE_0_105_1 : ∀ j : Int, w_ei ws (w_ar ws (n_v vs 0) 105) j = w_ei w1 (w_ar ws (n_v vs 0) 105) j := el_kp s1.1 r17 cr_0_105 (by decide)
  have hE_0_105_2 : ∀ j : Int, w_ei w1 (w_ar ws (n_v vs 0) 105) j = w_ei w2 (w_ar ws (n_v vs 0) 105) j := el_kp s2.1 r15 cr_0_105 (by decide)
  have hE_0_105_3 : ∀ j : Int, w_ei w2 (w_ar ws (n_v vs 0) 105) j = w_ei w3 (w_ar ws (n_v vs 0) 105) j := el_kp s3.1 r13 cr_0_105 (by decide)
  have hE_0_106_1 : ∀ j : Int, w_ei ws (w_ar ws (n_v vs 0) 106) j = w_ei w1 (w_ar ws (n_v vs 0) 106) j := el_kp s1.1 r17 cr_0_106 (by decide)
  have hE_0_106_2 : ∀ j : Int, w_ei w1 (w_ar ws (n_v vs 0) 106) j = w_ei w2 (w_ar ws (n_v vs 0) 106) j := el_kp s2.1 r15 cr_0_106 (by decide)
  have hE_0_106_3 : ∀ j : Int, w_ei w2 (w_ar ws (n_v vs 0) 106) j = w_ei w3 (w_ar ws (n_v vs 0) 106) j := el_kp s3.1 r13 cr_0_106 (by decide)
  have hE_0_108_1 : ∀ j : Int, w_ei ws (w_ar ws (n_v vs 0) 108) j = w_ei w1 (w_ar ws (n_v vs 0) 108) j := el_kp s1.1 r17 cr_0_108 (by decide)
  have hE_0_108_2 : ∀ j : Int, w_ei w1 (w_ar ws (n_v vs 0) 108) j = w_ei w2 (w_ar ws (n_v vs 0) 108) j := el_kp s2.1 r15 cr_0_108 (by decide)
  have hE_0_108_3 : ∀ j : Int, w_ei w2 (w_ar ws (n_v vs 0) 108) j = w_ei w3 (w_ar ws (n_v vs 0) 108) j := el_kp s3.1 r13 cr_0_108 (by decide)
  have hE_0_109_1 : ∀ j : Int, w_ei ws (w_ar ws (n_v vs 0) 109) j = w_ei w1 (w_ar ws (n_v vs 0) 109) j := el_kp s1.1 r17 cr_0_109 (by decide)
  have hE_0_109_2 : ∀ j : Int, w_ei w1 (w_ar ws (n_v vs 0) 109) j = w_ei w2 (w_ar ws (n_v vs 0) 109) j := el_kp s2.1 r15 cr_0_109 (by decide)
  have hE_0_109_3 : ∀ j : Int, w_ei w2 (w_ar ws (n_v vs 0) 109) j = w_ei w3 (w_ar ws (n_v vs 0) 109) j := el_kp s3.1 r13 cr_0_109 (by decide)
  have hE_0_117_1 : ∀ j : Int, 0 ≤ j → (j = v_iv (n_v vs 7) → w_ei ws (w_ar ws (n_v vs 0) 117) j = v_iv (n_v vs 8)) ∧ (j ≠ v_iv (n_v vs 7) → w_ei ws (w_ar ws (n_v vs 0) 117) j = w_ei w1 (w_ar ws (n_v vs 0) 117) j) := fun j hj => ⟨fun h => by unfold w_ei; rw [s1.1, if_pos ⟨ad_17.symm, by rw [h]⟩], fun h => by unfold w_ei; rw [s1.1, if_neg (fun e => h (by have := e.2; omega))]⟩
  have hE_0_117_2 : ∀ j : Int, w_ei w1 (w_ar ws (n_v vs 0) 117) j = w_ei w2 (w_ar ws (n_v vs 0) 117) j := el_kp s2.1 r15 cr_0_117 (by decide)
  have hE_0_117_3 : ∀ j : Int, w_ei w2 (w_ar ws (n_v vs 0) 117) j = w_ei w3 (w_ar ws (n_v vs 0) 117) j := el_kp s3.1 r13 cr_0_117 (by decide)
  have hE_0_119_1 : ∀ j : Int, w_ei ws (w_ar ws (n_v vs 0) 119) j = w_ei w1 (w_ar ws (n_v vs 0) 119) j := el_kp s1.1 r17 cr_0_119 (by decide)
  have hE_0_119_2 : ∀ j : Int, w_ei w1 (w_ar ws (n_v vs 0) 119) j = w_ei w2 (w_ar ws (n_v vs 0) 119) j := el_kp s2.1 r15 cr_0_119 (by decide)
  have hE_0_120_1 : ∀ j : Int, w_ei ws (w_ar ws (n_v vs 0) 120) j = w_ei w1 (w_ar ws (n_v vs 0) 120) j := el_kp s1.1 r17 cr_0_120 (by decide)
  have hE_0_120_3 : ∀ j : Int, w_ei w2 (w_ar ws (n_v vs 0) 120) j = w_ei w3 (w_ar ws (n_v vs 0) 120) j := el_kp s3.1 r13 cr_0_120 (by decide)
  have kz_0_100 := fdq_162 hD hth r0
  have kz_0_101 := fdq_125 hD hth r0
  have kz_0_107 := fdq_163 hD hth r0
  have nf0 : fc_1 PRD (20, [3, 4, 18], [60, 0, 2, 451, 106, 117]) ws (vs) := by
    refine ⟨nf_in hl rfl, sgq_967 ?_⟩
    · show BM1 (w_ei ws (w_ar ws (n_v vs 3) 106)) (w_ei ws (w_ar ws (n_v vs 3) 117)) (v_iv (n_v vs 4)) (v_iv (n_v vs 18))
      rw [q3]
      exact vc_Mo_byMeans_3_0 (v_iv (n_v vs 4)) (v_iv (n_v vs 7)) (v_iv (n_v vs 8)) (v_iv (n_v vs 18)) (w_ei ws (w_ar ws (n_v vs 0) 2)) (w_ei ws (w_ar ws (n_v vs 0) 95)) (w_ei ws (w_ar ws (n_v vs 0) 102)) (w_ei ws (w_ar ws (n_v vs 0) 104)) (w_ei ws (w_ar ws (n_v vs 0) 108)) (w_ei ws (w_ar ws (n_v vs 0) 109)) (w_fi ws (n_v vs 0) 5) (w_fi ws (n_v vs 0) 100) (w_fi ws (n_v vs 0) 101) (w_fi ws (n_v vs 0) 107) (w_ei ws (w_ar ws (n_v vs 0) 105)) (w_ei ws (w_ar ws (n_v vs 0) 106)) (w_ei w1 (w_ar ws (n_v vs 0) 2)) (w_ei w1 (w_ar ws (n_v vs 0) 95)) (w_ei w1 (w_ar ws (n_v vs 0) 102)) (w_ei w1 (w_ar ws (n_v vs 0) 104)) (w_ei w1 (w_ar ws (n_v vs 0) 108)) (w_ei w1 (w_ar ws (n_v vs 0) 109)) (w_fi w1 (n_v vs 0) 5) (w_fi w1 (n_v vs 0) 100) (w_fi w1 (n_v vs 0) 101) (w_fi w1 (n_v vs 0) 107) (w_ei w1 (w_ar ws (n_v vs 0) 105)) (w_ei w1 (w_ar ws (n_v vs 0) 106)) (w_ei w1 (w_ar ws (n_v vs 0) 117)) (w_ei w2 (w_ar ws (n_v vs 0) 2)) (w_ei w2 (w_ar ws (n_v vs 0) 95)) (w_ei w2 (w_ar ws (n_v vs 0) 102)) (w_ei w2 (w_ar ws (n_v vs 0) 104)) (w_ei w2 (w_ar ws (n_v vs 0) 108)) (w_ei w2 (w_ar ws (n_v vs 0) 109)) (w_fi w2 (n_v vs 0) 5) (w_fi w2 (n_v vs 0) 100) (w_fi w2 (n_v vs 0) 101) (w_fi w2 (n_v vs 0) 107) (w_ei w2 (w_ar ws (n_v vs 0) 105)) (w_ei w2 (w_ar ws (n_v vs 0) 106)) (w_ei w2 (w_ar ws (n_v vs 0) 117)) (w_fi w3 (n_v vs 0) 107) (w_ei w3 (w_ar ws (n_v vs 0) 2)) (w_ei w3 (w_ar ws (n_v vs 0) 95)) (w_ei w3 (w_ar ws (n_v vs 0) 102)) (w_ei w3 (w_ar ws (n_v vs 0) 104)) (w_ei w3 (w_ar ws (n_v vs 0) 108)) (w_ei w3 (w_ar ws (n_v vs 0) 109)) (w_fi w3 (n_v vs 0) 5) (w_fi w3 (n_v vs 0) 100) (w_fi w3 (n_v vs 0) 101) (w_ei w3 (w_ar ws (n_v vs 0) 105)) (w_ei w3 (w_ar ws (n_v vs 0) 106)) (w_ei w3 (w_ar ws (n_v vs 0) 117)) (w_ei ws (w_ar ws (n_v vs 0) 117)) (w_ei ws (w_ar ws (n_v vs 0) 119)) (w_ei w1 (w_ar ws (n_v vs 0) 119)) (w_ei w2 (w_ar ws (n_v vs 0) 119)) (w_ei ws (w_ar ws (n_v vs 0) 120)) (w_ei w1 (w_ar ws (n_v vs 0) 120)) (w_ei w2 (w_ar ws (n_v vs 0) 120)) (w_ei w3 (w_ar ws (n_v vs 0) 120)) k4 k7 k8 k18 f0 f38 f40 fe_0_5_1 fe_0_100_1 fe_0_101_1 fe_0_107_1 fe_0_5_2 fe_0_100_2 fe_0_101_2 fe_0_107_2 fe_0_5_3 fe_0_100_3 fe_0_101_3 fe_0_107_3 hE_0_2_1 hE_0_2_2 hE_0_2_3 hE_0_95_1 hE_0_95_2 hE_0_95_3 hE_0_102_1 hE_0_102_2 hE_0_102_3 hE_0_104_1 hE_0_104_2 hE_0_104_3 hE_0_105_1 hE_0_105_2 hE_0_105_3 hE_0_106_1 hE_0_106_2 hE_0_106_3 hE_0_108_1 hE_0_108_2 hE_0_108_3 hE_0_109_1 hE_0_109_2 hE_0_109_3 hE_0_117_1 hE_0_117_2 hE_0_117_3 hE_0_119_1 hE_0_119_2 hE_0_120_1 hE_0_120_3 kz_0_100 kz_0_101 kz_0_107
  refine ⟨(fun _ h => (by cases h)), [], trivial, ?_, (fun _ h => (by cases h))⟩
  rw [List.append_nil]
  exact List.forall_mem_cons.mpr ⟨⟨show (20 : Nat) < 100 from by decide, nf0⟩, (fun _ h => (by cases h))⟩
set_option maxHeartbeats 4000000 in
theorem vc_Mo_byMeans_4_0 (x4 : Int) (x7 : Int) (x8 : Int) (x19 : Int) (all_0 : Int → Int) (turned_0 : Int → Int) (itemLayer_0 : Int → Int) (firstJoint_0 : Int → Int) (lineA_0 : Int → Int) (lineB_0 : Int → Int) (r_0 : Int) (items_0 : Int) (layerMany_0 : Int) (lines_0 : Int) (layerSize_0 : Int → Int) (layerItem_0 : Int → Int) (all_1 : Int → Int) (turned_1 : Int → Int) (itemLayer_1 : Int → Int) (firstJoint_1 : Int → Int) (lineA_1 : Int → Int) (lineB_1 : Int → Int) (r_1 : Int) (items_1 : Int) (layerMany_1 : Int) (lines_1 : Int) (layerSize_1 : Int → Int) (layerItem_1 : Int → Int) (row_1 : Int → Int) (all_2 : Int → Int) (turned_2 : Int → Int) (itemLayer_2 : Int → Int) (firstJoint_2 : Int → Int) (lineA_2 : Int → Int) (lineB_2 : Int → Int) (r_2 : Int) (items_2 : Int) (layerMany_2 : Int) (lines_2 : Int) (layerSize_2 : Int → Int) (layerItem_2 : Int → Int) (row_2 : Int → Int) (lines_3 : Int) (all_3 : Int → Int) (turned_3 : Int → Int) (itemLayer_3 : Int → Int) (firstJoint_3 : Int → Int) (lineA_3 : Int → Int) (lineB_3 : Int → Int) (r_3 : Int) (items_3 : Int) (layerMany_3 : Int) (layerSize_3 : Int → Int) (layerItem_3 : Int → Int) (row_3 : Int → Int) (row_0 : Int → Int) (meanA_0 : Int → Int) (meanA_1 : Int → Int) (meanA_2 : Int → Int) (meanB_0 : Int → Int) (meanB_1 : Int → Int) (meanB_2 : Int → Int) (meanB_3 : Int → Int) (k4 : 0 ≤ x4 ∧ x4 ≤ 75) (k7 : 0 ≤ x7 ∧ x7 ≤ 75) (k8 : 0 ≤ x8 ∧ x8 ≤ 75) (k19 : 1 ≤ x19 ∧ x19 ≤ 76) (f0 : x19 = x7 + 1) (f38 : BM1 (layerItem_3) (row_3) (x4) (x7)) (f40 : x8 = layerItem_3 (((76 * x4) + x7))) (fe_0_5_1 : r_0 = r_1) (fe_0_100_1 : items_0 = items_1) (fe_0_101_1 : layerMany_0 = layerMany_1) (fe_0_107_1 : lines_0 = lines_1) (fe_0_5_2 : r_1 = r_2) (fe_0_100_2 : items_1 = items_2) (fe_0_101_2 : layerMany_1 = layerMany_2) (fe_0_107_2 : lines_1 = lines_2) (fe_0_5_3 : r_2 = r_3) (fe_0_100_3 : items_2 = items_3) (fe_0_101_3 : layerMany_2 = layerMany_3) (fe_0_107_3 : lines_2 = lines_3) (hE_0_2_1 : ∀ j : Int, all_0 j = all_1 j) (hE_0_2_2 : ∀ j : Int, all_1 j = all_2 j) (hE_0_2_3 : ∀ j : Int, all_2 j = all_3 j) (hE_0_95_1 : ∀ j : Int, turned_0 j = turned_1 j) (hE_0_95_2 : ∀ j : Int, turned_1 j = turned_2 j) (hE_0_95_3 : ∀ j : Int, turned_2 j = turned_3 j) (hE_0_102_1 : ∀ j : Int, itemLayer_0 j = itemLayer_1 j) (hE_0_102_2 : ∀ j : Int, itemLayer_1 j = itemLayer_2 j) (hE_0_102_3 : ∀ j : Int, itemLayer_2 j = itemLayer_3 j) (hE_0_104_1 : ∀ j : Int, firstJoint_0 j = firstJoint_1 j) (hE_0_104_2 : ∀ j : Int, firstJoint_1 j = firstJoint_2 j) (hE_0_104_3 : ∀ j : Int, firstJoint_2 j = firstJoint_3 j) (hE_0_105_1 : ∀ j : Int, layerSize_0 j = layerSize_1 j) (hE_0_105_2 : ∀ j : Int, layerSize_1 j = layerSize_2 j) (hE_0_105_3 : ∀ j : Int, layerSize_2 j = layerSize_3 j) (hE_0_106_1 : ∀ j : Int, layerItem_0 j = layerItem_1 j) (hE_0_106_2 : ∀ j : Int, layerItem_1 j = layerItem_2 j) (hE_0_106_3 : ∀ j : Int, layerItem_2 j = layerItem_3 j) (hE_0_108_1 : ∀ j : Int, lineA_0 j = lineA_1 j) (hE_0_108_2 : ∀ j : Int, lineA_1 j = lineA_2 j) (hE_0_108_3 : ∀ j : Int, lineA_2 j = lineA_3 j) (hE_0_109_1 : ∀ j : Int, lineB_0 j = lineB_1 j) (hE_0_109_2 : ∀ j : Int, lineB_1 j = lineB_2 j) (hE_0_109_3 : ∀ j : Int, lineB_2 j = lineB_3 j) (hE_0_117_1 : ∀ j : Int, 0 ≤ j → (j = x7 → row_0 j = x8) ∧ (j ≠ x7 → row_0 j = row_1 j)) (hE_0_117_2 : ∀ j : Int, row_1 j = row_2 j) (hE_0_117_3 : ∀ j : Int, row_2 j = row_3 j) (hE_0_119_1 : ∀ j : Int, meanA_0 j = meanA_1 j) (hE_0_119_2 : ∀ j : Int, meanA_1 j = meanA_2 j) (hE_0_120_1 : ∀ j : Int, meanB_0 j = meanB_1 j) (hE_0_120_3 : ∀ j : Int, meanB_2 j = meanB_3 j) (kz_0_100 : 0 ≤ items_0 ∧ items_0 ≤ 76) (kz_0_101 : 0 ≤ layerMany_0 ∧ layerMany_0 ≤ 76) (kz_0_107 : 0 ≤ lines_0 ∧ lines_0 ≤ 130) : BM1 (layerItem_0) (row_0) (x4) (x19) := by
  subst fe_0_5_1
  subst fe_0_100_1
  subst fe_0_101_1
  subst fe_0_107_1
  subst fe_0_5_2
  subst fe_0_100_2
  subst fe_0_101_2
  subst fe_0_107_2
  subst fe_0_5_3
  subst fe_0_100_3
  subst fe_0_101_3
  subst fe_0_107_3
  have e_hE_0_2_1 := funext hE_0_2_1; subst e_hE_0_2_1
  have e_hE_0_2_2 := funext hE_0_2_2; subst e_hE_0_2_2
  have e_hE_0_2_3 := funext hE_0_2_3; subst e_hE_0_2_3
  have e_hE_0_95_1 := funext hE_0_95_1; subst e_hE_0_95_1
  have e_hE_0_95_2 := funext hE_0_95_2; subst e_hE_0_95_2
  have e_hE_0_95_3 := funext hE_0_95_3; subst e_hE_0_95_3
  have e_hE_0_102_1 := funext hE_0_102_1; subst e_hE_0_102_1
  have e_hE_0_102_2 := funext hE_0_102_2; subst e_hE_0_102_2
  have e_hE_0_102_3 := funext hE_0_102_3; subst e_hE_0_102_3
  have e_hE_0_104_1 := funext hE_0_104_1; subst e_hE_0_104_1
  have e_hE_0_104_2 := funext hE_0_104_2; subst e_hE_0_104_2
  have e_hE_0_104_3 := funext hE_0_104_3; subst e_hE_0_104_3
  have e_hE_0_105_1 := funext hE_0_105_1; subst e_hE_0_105_1
  have e_hE_0_105_2 := funext hE_0_105_2; subst e_hE_0_105_2
  have e_hE_0_105_3 := funext hE_0_105_3; subst e_hE_0_105_3
  have e_hE_0_106_1 := funext hE_0_106_1; subst e_hE_0_106_1
  have e_hE_0_106_2 := funext hE_0_106_2; subst e_hE_0_106_2
  have e_hE_0_106_3 := funext hE_0_106_3; subst e_hE_0_106_3
  have e_hE_0_108_1 := funext hE_0_108_1; subst e_hE_0_108_1
  have e_hE_0_108_2 := funext hE_0_108_2; subst e_hE_0_108_2
  have e_hE_0_108_3 := funext hE_0_108_3; subst e_hE_0_108_3
  have e_hE_0_109_1 := funext hE_0_109_1; subst e_hE_0_109_1
  have e_hE_0_109_2 := funext hE_0_109_2; subst e_hE_0_109_2
  have e_hE_0_109_3 := funext hE_0_109_3; subst e_hE_0_109_3
  have e_hE_0_117_2 := funext hE_0_117_2; subst e_hE_0_117_2
  have e_hE_0_117_3 := funext hE_0_117_3; subst e_hE_0_117_3
  have e_hE_0_119_1 := funext hE_0_119_1; subst e_hE_0_119_1
  have e_hE_0_119_2 := funext hE_0_119_2; subst e_hE_0_119_2
  have e_hE_0_120_1 := funext hE_0_120_1; subst e_hE_0_120_1
  have e_hE_0_120_3 := funext hE_0_120_3; subst e_hE_0_120_3
  first
    | (intro j a b; exfalso; omega)
    | exact bm1_next ‹BM1 _ _ _ _› (by assumption) (by assumption) (by assumption)
def o_Mo_byMeans_4 : or_T := (10, 20, [(0, (2, 0, 0, [165])), (4, (0, 0, 75, [])), (7, (0, 0, 75, [])), (8, (0, 0, 75, [])), (13, (2, 0, 0, [251])), (15, (2, 0, 0, [252])), (18, (2, 0, 0, [249])), (19, (0, 1, 76, []))], [(6, [19, 7], [1]), (24, [0, 3], []), (100, [18, 7, 8], []), (9, [18, 3], [117]), (100, [15, 7, 17], []), (100, [13, 7, 9], []), (20, [3, 4, 7], [60, 0, 2, 451, 106, 117]), (20, [8, 3, 4, 7], [50, 0, 1, 1106, 1, 2, 1, 0, 3, 1, 106, 4, 6, 6, 2, 0, 76, 1, 2, 1, 3])], [], [], [(20, [3, 4, 19], [60, 0, 2, 451, 106, 117])], [], [(19, 7, 1, 1), (7, 6, -4294967296, -1)])
theorem oo_Mo_byMeans_4 {kA : Nat → ClassId} : or_ok PRD kA GG o_Mo_byMeans_4 := by
  refine or_mk fun A ta ws vs hD hth hl => ?_
  intro t0 r0 t4 k4 t7 k7 t8 k8 t13 r13 t15 r15 t18 r18 t19 k19 d0 d3 f0 f8 ta1 w1 le1 s1 f10 ta2 w2 le2 s2 ta3 w3 le3 s3 f38 f40
  replace f0 := shm_4 f0
  replace f8 := shm_5 f8
  have s1 : (∀ b j, w_el ws b j = if b = v_ad (n_v vs 18) ∧ j = (v_iv (n_v vs 7)).toNat then v_iv (n_v vs 8) else w_el w1 b j) ∧ ∀ b k, w_fd ws b k = w_fd w1 b k := s1.2
  replace f10 := shm_713 f10
  have s2 : (∀ b j, w_el w1 b j = if b = v_ad (n_v vs 15) ∧ j = (v_iv (n_v vs 7)).toNat then v_iv (n_v vs 17) else w_el w2 b j) ∧ ∀ b k, w_fd w1 b k = w_fd w2 b k := s2.2
  have s3 : (∀ b j, w_el w2 b j = if b = v_ad (n_v vs 13) ∧ j = (v_iv (n_v vs 7)).toNat then v_iv (n_v vs 9) else w_el w3 b j) ∧ ∀ b k, w_fd w2 b k = w_fd w3 b k := s3.2
  replace f38 := shm_967 f38
  replace f40 := shm_969 f40
  have q3 : n_v vs 3 = n_v vs 0 := f8.symm
  simp only [q3] at f10 f38 f40
  have ar_0_2_1 : w_ar w1 (n_v vs 0) 2 = w_ar ws (n_v vs 0) 2 := congrArg v_ad (s1.2 _ _).symm
  have ar_0_2_2 : w_ar w2 (n_v vs 0) 2 = w_ar ws (n_v vs 0) 2 := by rw [← ar_0_2_1]; show v_ad (w_fd w2 _ _) = v_ad (w_fd w1 _ _); rw [s2.2]
  have ar_0_2_3 : w_ar w3 (n_v vs 0) 2 = w_ar ws (n_v vs 0) 2 := by rw [← ar_0_2_2]; show v_ad (w_fd w3 _ _) = v_ad (w_fd w2 _ _); rw [s3.2]
  have cr_0_2 := fdq_10 hD hth r0
  have ar_0_95_1 : w_ar w1 (n_v vs 0) 95 = w_ar ws (n_v vs 0) 95 := congrArg v_ad (s1.2 _ _).symm
  have ar_0_95_2 : w_ar w2 (n_v vs 0) 95 = w_ar ws (n_v vs 0) 95 := by rw [← ar_0_95_1]; show v_ad (w_fd w2 _ _) = v_ad (w_fd w1 _ _); rw [s2.2]
  have ar_0_95_3 : w_ar w3 (n_v vs 0) 95 = w_ar ws (n_v vs 0) 95 := by rw [← ar_0_95_2]; show v_ad (w_fd w3 _ _) = v_ad (w_fd w2 _ _); rw [s3.2]
  have cr_0_95 := fdq_130 hD hth r0
  have ar_0_102_1 : w_ar w1 (n_v vs 0) 102 = w_ar ws (n_v vs 0) 102 := congrArg v_ad (s1.2 _ _).symm
  have ar_0_102_2 : w_ar w2 (n_v vs 0) 102 = w_ar ws (n_v vs 0) 102 := by rw [← ar_0_102_1]; show v_ad (w_fd w2 _ _) = v_ad (w_fd w1 _ _); rw [s2.2]
  have ar_0_102_3 : w_ar w3 (n_v vs 0) 102 = w_ar ws (n_v vs 0) 102 := by rw [← ar_0_102_2]; show v_ad (w_fd w3 _ _) = v_ad (w_fd w2 _ _); rw [s3.2]
  have cr_0_102 := fdq_159 hD hth r0
  have ar_0_104_1 : w_ar w1 (n_v vs 0) 104 = w_ar ws (n_v vs 0) 104 := congrArg v_ad (s1.2 _ _).symm
  have ar_0_104_2 : w_ar w2 (n_v vs 0) 104 = w_ar ws (n_v vs 0) 104 := by rw [← ar_0_104_1]; show v_ad (w_fd w2 _ _) = v_ad (w_fd w1 _ _); rw [s2.2]
  have ar_0_104_3 : w_ar w3 (n_v vs 0) 104 = w_ar ws (n_v vs 0) 104 := by rw [← ar_0_104_2]; show v_ad (w_fd w3 _ _) = v_ad (w_fd w2 _ _); rw [s3.2]
  have cr_0_104 := fdq_170 hD hth r0
  have ar_0_105_1 : w_ar w1 (n_v vs 0) 105 = w_ar ws (n_v vs 0) 105 := congrArg v_ad (s1.2 _ _).symm
  have ar_0_105_2 : w_ar w2 (n_v vs 0) 105 = w_ar ws (n_v vs 0) 105 := by rw [← ar_0_105_1]; show v_ad (w_fd w2 _ _) = v_ad (w_fd w1 _ _); rw [s2.2]
  have ar_0_105_3 : w_ar w3 (n_v vs 0) 105 = w_ar ws (n_v vs 0) 105 := by rw [← ar_0_105_2]; show v_ad (w_fd w3 _ _) = v_ad (w_fd w2 _ _); rw [s3.2]
  have cr_0_105 := fdq_122 hD hth r0
  have ar_0_106_1 : w_ar w1 (n_v vs 0) 106 = w_ar ws (n_v vs 0) 106 := congrArg v_ad (s1.2 _ _).symm
  have ar_0_106_2 : w_ar w2 (n_v vs 0) 106 = w_ar ws (n_v vs 0) 106 := by rw [← ar_0_106_1]; show v_ad (w_fd w2 _ _) = v_ad (w_fd w1 _ _); rw [s2.2]
  have ar_0_106_3 : w_ar w3 (n_v vs 0) 106 = w_ar ws (n_v vs 0) 106 := by rw [← ar_0_106_2]; show v_ad (w_fd w3 _ _) = v_ad (w_fd w2 _ _); rw [s3.2]
  have cr_0_106 := fdq_123 hD hth r0
  have ar_0_108_1 : w_ar w1 (n_v vs 0) 108 = w_ar ws (n_v vs 0) 108 := congrArg v_ad (s1.2 _ _).symm
  have ar_0_108_2 : w_ar w2 (n_v vs 0) 108 = w_ar ws (n_v vs 0) 108 := by rw [← ar_0_108_1]; show v_ad (w_fd w2 _ _) = v_ad (w_fd w1 _ _); rw [s2.2]
  have ar_0_108_3 : w_ar w3 (n_v vs 0) 108 = w_ar ws (n_v vs 0) 108 := by rw [← ar_0_108_2]; show v_ad (w_fd w3 _ _) = v_ad (w_fd w2 _ _); rw [s3.2]
  have cr_0_108 := fdq_160 hD hth r0
  have ar_0_109_1 : w_ar w1 (n_v vs 0) 109 = w_ar ws (n_v vs 0) 109 := congrArg v_ad (s1.2 _ _).symm
  have ar_0_109_2 : w_ar w2 (n_v vs 0) 109 = w_ar ws (n_v vs 0) 109 := by rw [← ar_0_109_1]; show v_ad (w_fd w2 _ _) = v_ad (w_fd w1 _ _); rw [s2.2]
  have ar_0_109_3 : w_ar w3 (n_v vs 0) 109 = w_ar ws (n_v vs 0) 109 := by rw [← ar_0_109_2]; show v_ad (w_fd w3 _ _) = v_ad (w_fd w2 _ _); rw [s3.2]
  have cr_0_109 := fdq_161 hD hth r0
  have ar_0_117_1 : w_ar w1 (n_v vs 0) 117 = w_ar ws (n_v vs 0) 117 := congrArg v_ad (s1.2 _ _).symm
  have ar_0_117_2 : w_ar w2 (n_v vs 0) 117 = w_ar ws (n_v vs 0) 117 := by rw [← ar_0_117_1]; show v_ad (w_fd w2 _ _) = v_ad (w_fd w1 _ _); rw [s2.2]
  have ar_0_117_3 : w_ar w3 (n_v vs 0) 117 = w_ar ws (n_v vs 0) 117 := by rw [← ar_0_117_2]; show v_ad (w_fd w3 _ _) = v_ad (w_fd w2 _ _); rw [s3.2]
  have cr_0_117 := fdq_181 hD hth r0
  have cr_0_119 := fdq_234 hD hth r0
  have cr_0_120 := fdq_235 hD hth r0
  have ad_18 : v_ad (n_v vs 18) = w_ar ws (n_v vs 0) 117 := (congrArg v_ad f10).trans ar_0_117_1
  simp only [ar_0_2_3, ar_0_95_3, ar_0_102_3, ar_0_104_3, ar_0_108_3, ar_0_109_3, ar_0_105_3, ar_0_106_3, ar_0_117_3] at f38 f40
  have fe_0_5_1 : w_fi ws (n_v vs 0) 5 = w_fi w1 (n_v vs 0) 5 := congrArg v_iv (s1.2 _ _)
  have fe_0_100_1 : w_fi ws (n_v vs 0) 100 = w_fi w1 (n_v vs 0) 100 := congrArg v_iv (s1.2 _ _)
  have fe_0_101_1 : w_fi ws (n_v vs 0) 101 = w_fi w1 (n_v vs 0) 101 := congrArg v_iv (s1.2 _ _)
  have fe_0_107_1 : w_fi ws (n_v vs 0) 107 = w_fi w1 (n_v vs 0) 107 := congrArg v_iv (s1.2 _ _)
  have fe_0_5_2 : w_fi w1 (n_v vs 0) 5 = w_fi w2 (n_v vs 0) 5 := congrArg v_iv (s2.2 _ _)
  have fe_0_100_2 : w_fi w1 (n_v vs 0) 100 = w_fi w2 (n_v vs 0) 100 := congrArg v_iv (s2.2 _ _)
  have fe_0_101_2 : w_fi w1 (n_v vs 0) 101 = w_fi w2 (n_v vs 0) 101 := congrArg v_iv (s2.2 _ _)
  have fe_0_107_2 : w_fi w1 (n_v vs 0) 107 = w_fi w2 (n_v vs 0) 107 := congrArg v_iv (s2.2 _ _)
  have fe_0_5_3 : w_fi w2 (n_v vs 0) 5 = w_fi w3 (n_v vs 0) 5 := congrArg v_iv (s3.2 _ _)
  have fe_0_100_3 : w_fi w2 (n_v vs 0) 100 = w_fi w3 (n_v vs 0) 100 := congrArg v_iv (s3.2 _ _)
  have fe_0_101_3 : w_fi w2 (n_v vs 0) 101 = w_fi w3 (n_v vs 0) 101 := congrArg v_iv (s3.2 _ _)
  have fe_0_107_3 : w_fi w2 (n_v vs 0) 107 = w_fi w3 (n_v vs 0) 107 := congrArg v_iv (s3.2 _ _)
  have hE_0_2_1 : ∀ j : Int, w_ei ws (w_ar ws (n_v vs 0) 2) j = w_ei w1 (w_ar ws (n_v vs 0) 2) j := el_kp s1.1 r18 cr_0_2 (by decide)
  have hE_0_2_2 : ∀ j : Int, w_ei w1 (w_ar ws (n_v vs 0) 2) j = w_ei w2 (w_ar ws (n_v vs 0) 2) j := el_kp s2.1 r15 cr_0_2 (by decide)
  have hE_0_2_3 : ∀ j : Int, w_ei w2 (w_ar ws (n_v vs 0) 2) j = w_ei w3 (w_ar ws (n_v vs 0) 2) j := el_kp s3.1 r13 cr_0_2 (by decide)
  have hE_0_95_1 : ∀ j : Int, w_ei ws (w_ar ws (n_v vs 0) 95) j = w_ei w1 (w_ar ws (n_v vs 0) 95) j := el_kp s1.1 r18 cr_0_95 (by decide)
  have hE_0_95_2 : ∀ j : Int, w_ei w1 (w_ar ws (n_v vs 0) 95) j = w_ei w2 (w_ar ws (n_v vs 0) 95) j := el_kp s2.1 r15 cr_0_95 (by decide)
  have hE_0_95_3 : ∀ j : Int, w_ei w2 (w_ar ws (n_v vs 0) 95) j = w_ei w3 (w_ar ws (n_v vs 0) 95) j := el_kp s3.1 r13 cr_0_95 (by decide)
  have hE_0_102_1 : ∀ j : Int, w_ei ws (w_ar ws (n_v vs 0) 102) j = w_ei w1 (w_ar ws (n_v vs 0) 102) j := el_kp s1.1 r18 cr_0_102 (by decide)
  have hE_0_102_2 : ∀ j : Int, w_ei w1 (w_ar ws (n_v vs 0) 102) j = w_ei w2 (w_ar ws (n_v vs 0) 102) j := el_kp s2.1 r15 cr_0_102 (by decide)
  have hE_0_102_3 : ∀ j : Int, w_ei w2 (w_ar ws (n_v vs 0) 102) j = w_ei w3 (w_ar ws (n_v vs 0) 102) j := el_kp s3.1 r13 cr_0_102 (by decide)
  have hE_0_104_1 : ∀ j : Int, w_ei ws (w_ar ws (n_v vs 0) 104) j = w_ei w1 (w_ar ws (n_v vs 0) 104) j := el_kp s1.1 r18 cr_0_104 (by decide)
  have hE_0_104_2 : ∀ j : Int, w_ei w1 (w_ar ws (n_v vs 0) 104) j = w_ei w2 (w_ar ws (n_v vs 0) 104) j := el_kp s2.1 r15 cr_0_104 (by decide)
  have hE_0_104_3 : ∀ j : Int, w_ei w2 (w_ar ws (n_v vs 0) 104) j = w_ei w3 (w_ar ws (n_v vs 0) 104) j := el_kp s3.1 r13 cr_0_104 (by decide)
  have hE_0_105_1 : ∀ j : Int, w_ei ws (w_ar ws (n_v vs 0) 105) j = w_ei w1 (w_ar ws (n_v vs 0) 105) j := el_kp s1.1 r18 cr_0_105 (by decide)
  have hE_0_105_2 : ∀ j : Int, w_ei w1 (w_ar ws (n_v vs 0) 105) j = w_ei w2 (w_ar ws (n_v vs 0) 105) j := el_kp s2.1 r15 cr_0_105 (by decide)
  have hE_0_105_3 : ∀ j : Int, w_ei w2 (w_ar ws (n_v vs 0) 105) j = w_ei w3 (w_ar ws (n_v vs 0) 105) j := el_kp s3.1 r13 cr_0_105 (by decide)
  have hE_0_106_1 : ∀ j : Int, w_ei ws (w_ar ws (n_v vs 0) 106) j = w_ei w1 (w_ar ws (n_v vs 0) 106) j := el_kp s1.1 r18 cr_0_106 (by decide)
  have hE_0_106_2 : ∀ j : Int, w_ei w1 (w_ar ws (n_v vs 0) 106) j = w_ei w2 (w_ar ws (n_v vs 0) 106) j := el_kp s2.1 r15 cr_0_106 (by decide)
  have hE_0_106_3 : ∀ j : Int, w_ei w2 (w_ar ws (n_v vs 0) 106) j = w_ei w3 (w_ar ws (n_v vs 0) 106) j := el_kp s3.1 r13 cr_0_106 (by decide)
  have hE_0_108_1 : ∀ j : Int, w_ei ws (w_ar ws (n_v vs 0) 108) j = w_ei w1 (w_ar ws (n_v vs 0) 108) j := el_kp s1.1 r18 cr_0_108 (by decide)
  have hE_0_108_2 : ∀ j : Int, w_ei w1 (w_ar ws (n_v vs 0) 108) j = w_ei w2 (w_ar ws (n_v vs 0) 108) j := el_kp s2.1 r15 cr_0_108 (by decide)
  have hE_0_108_3 : ∀ j : Int, w_ei w2 (w_ar ws (n_v vs 0) 108) j = w_ei w3 (w_ar ws (n_v vs 0) 108) j := el_kp s3.1 r13 cr_0_108 (by decide)
  have hE_0_109_1 : ∀ j : Int, w_ei ws (w_ar ws (n_v vs 0) 109) j = w_ei w1 (w_ar ws (n_v vs 0) 109) j := el_kp s1.1 r18 cr_0_109 (by decide)
  have hE_0_109_2 : ∀ j : Int, w_ei w1 (w_ar ws (n_v vs 0) 109) j = w_ei w2 (w_ar ws (n_v vs 0) 109) j := el_kp s2.1 r15 cr_0_109 (by decide)
  have hE_0_109_3 : ∀ j : Int, w_ei w2 (w_ar ws (n_v vs 0) 109) j = w_ei w3 (w_ar ws (n_v vs 0) 109) j := el_kp s3.1 r13 cr_0_109 (by decide)
  have hE_0_117_1 : ∀ j : Int, 0 ≤ j → (j = v_iv (n_v vs 7) → w_ei ws (w_ar ws (n_v vs 0) 117) j = v_iv (n_v vs 8)) ∧ (j ≠ v_iv (n_v vs 7) → w_ei ws (w_ar ws (n_v vs 0) 117) j = w_ei w1 (w_ar ws (n_v vs 0) 117) j) := fun j hj => ⟨fun h => by unfold w_ei; rw [s1.1, if_pos ⟨ad_18.symm, by rw [h]⟩], fun h => by unfold w_ei; rw [s1.1, if_neg (fun e => h (by have := e.2; omega))]⟩
  have hE_0_117_2 : ∀ j : Int, w_ei w1 (w_ar ws (n_v vs 0) 117) j = w_ei w2 (w_ar ws (n_v vs 0) 117) j := el_kp s2.1 r15 cr_0_117 (by decide)
  have hE_0_117_3 : ∀ j : Int, w_ei w2 (w_ar ws (n_v vs 0) 117) j = w_ei w3 (w_ar ws (n_v vs 0) 117) j := el_kp s3.1 r13 cr_0_117 (by decide)
  have hE_0_119_1 : ∀ j : Int, w_ei ws (w_ar ws (n_v vs 0) 119) j = w_ei w1 (w_ar ws (n_v vs 0) 119) j := el_kp s1.1 r18 cr_0_119 (by decide)
  have hE_0_119_2 : ∀ j : Int, w_ei w1 (w_ar ws (n_v vs 0) 119) j = w_ei w2 (w_ar ws (n_v vs 0) 119) j := el_kp s2.1 r15 cr_0_119 (by decide)
  have hE_0_120_1 : ∀ j : Int, w_ei ws (w_ar ws (n_v vs 0) 120) j = w_ei w1 (w_ar ws (n_v vs 0) 120) j := el_kp s1.1 r18 cr_0_120 (by decide)
  have hE_0_120_3 : ∀ j : Int, w_ei w2 (w_ar ws (n_v vs 0) 120) j = w_ei w3 (w_ar ws (n_v vs 0) 120) j := el_kp s3.1 r13 cr_0_120 (by decide)
  have kz_0_100 := fdq_162 hD hth r0
  have kz_0_101 := fdq_125 hD hth r0
  have kz_0_107 := fdq_163 hD hth r0
  have nf0 : fc_1 PRD (20, [3, 4, 19], [60, 0, 2, 451, 106, 117]) ws (vs) := by
    refine ⟨nf_in hl rfl, sgq_967 ?_⟩
    · show BM1 (w_ei ws (w_ar ws (n_v vs 3) 106)) (w_ei ws (w_ar ws (n_v vs 3) 117)) (v_iv (n_v vs 4)) (v_iv (n_v vs 19))
      rw [q3]
      exact vc_Mo_byMeans_4_0 (v_iv (n_v vs 4)) (v_iv (n_v vs 7)) (v_iv (n_v vs 8)) (v_iv (n_v vs 19)) (w_ei ws (w_ar ws (n_v vs 0) 2)) (w_ei ws (w_ar ws (n_v vs 0) 95)) (w_ei ws (w_ar ws (n_v vs 0) 102)) (w_ei ws (w_ar ws (n_v vs 0) 104)) (w_ei ws (w_ar ws (n_v vs 0) 108)) (w_ei ws (w_ar ws (n_v vs 0) 109)) (w_fi ws (n_v vs 0) 5) (w_fi ws (n_v vs 0) 100) (w_fi ws (n_v vs 0) 101) (w_fi ws (n_v vs 0) 107) (w_ei ws (w_ar ws (n_v vs 0) 105)) (w_ei ws (w_ar ws (n_v vs 0) 106)) (w_ei w1 (w_ar ws (n_v vs 0) 2)) (w_ei w1 (w_ar ws (n_v vs 0) 95)) (w_ei w1 (w_ar ws (n_v vs 0) 102)) (w_ei w1 (w_ar ws (n_v vs 0) 104)) (w_ei w1 (w_ar ws (n_v vs 0) 108)) (w_ei w1 (w_ar ws (n_v vs 0) 109)) (w_fi w1 (n_v vs 0) 5) (w_fi w1 (n_v vs 0) 100) (w_fi w1 (n_v vs 0) 101) (w_fi w1 (n_v vs 0) 107) (w_ei w1 (w_ar ws (n_v vs 0) 105)) (w_ei w1 (w_ar ws (n_v vs 0) 106)) (w_ei w1 (w_ar ws (n_v vs 0) 117)) (w_ei w2 (w_ar ws (n_v vs 0) 2)) (w_ei w2 (w_ar ws (n_v vs 0) 95)) (w_ei w2 (w_ar ws (n_v vs 0) 102)) (w_ei w2 (w_ar ws (n_v vs 0) 104)) (w_ei w2 (w_ar ws (n_v vs 0) 108)) (w_ei w2 (w_ar ws (n_v vs 0) 109)) (w_fi w2 (n_v vs 0) 5) (w_fi w2 (n_v vs 0) 100) (w_fi w2 (n_v vs 0) 101) (w_fi w2 (n_v vs 0) 107) (w_ei w2 (w_ar ws (n_v vs 0) 105)) (w_ei w2 (w_ar ws (n_v vs 0) 106)) (w_ei w2 (w_ar ws (n_v vs 0) 117)) (w_fi w3 (n_v vs 0) 107) (w_ei w3 (w_ar ws (n_v vs 0) 2)) (w_ei w3 (w_ar ws (n_v vs 0) 95)) (w_ei w3 (w_ar ws (n_v vs 0) 102)) (w_ei w3 (w_ar ws (n_v vs 0) 104)) (w_ei w3 (w_ar ws (n_v vs 0) 108)) (w_ei w3 (w_ar ws (n_v vs 0) 109)) (w_fi w3 (n_v vs 0) 5) (w_fi w3 (n_v vs 0) 100) (w_fi w3 (n_v vs 0) 101) (w_ei w3 (w_ar ws (n_v vs 0) 105)) (w_ei w3 (w_ar ws (n_v vs 0) 106)) (w_ei w3 (w_ar ws (n_v vs 0) 117)) (w_ei ws (w_ar ws (n_v vs 0) 117)) (w_ei ws (w_ar ws (n_v vs 0) 119)) (w_ei w1 (w_ar ws (n_v vs 0) 119)) (w_ei w2 (w_ar ws (n_v vs 0) 119)) (w_ei ws (w_ar ws (n_v vs 0) 120)) (w_ei w1 (w_ar ws (n_v vs 0) 120)) (w_ei w2 (w_ar ws (n_v vs 0) 120)) (w_ei w3 (w_ar ws (n_v vs 0) 120)) k4 k7 k8 k19 f0 f38 f40 fe_0_5_1 fe_0_100_1 fe_0_101_1 fe_0_107_1 fe_0_5_2 fe_0_100_2 fe_0_101_2 fe_0_107_2 fe_0_5_3 fe_0_100_3 fe_0_101_3 fe_0_107_3 hE_0_2_1 hE_0_2_2 hE_0_2_3 hE_0_95_1 hE_0_95_2 hE_0_95_3 hE_0_102_1 hE_0_102_2 hE_0_102_3 hE_0_104_1 hE_0_104_2 hE_0_104_3 hE_0_105_1 hE_0_105_2 hE_0_105_3 hE_0_106_1 hE_0_106_2 hE_0_106_3 hE_0_108_1 hE_0_108_2 hE_0_108_3 hE_0_109_1 hE_0_109_2 hE_0_109_3 hE_0_117_1 hE_0_117_2 hE_0_117_3 hE_0_119_1 hE_0_119_2 hE_0_120_1 hE_0_120_3 kz_0_100 kz_0_101 kz_0_107
  refine ⟨(fun _ h => (by cases h)), [], trivial, ?_, (fun _ h => (by cases h))⟩
  rw [List.append_nil]
  exact List.forall_mem_cons.mpr ⟨⟨show (20 : Nat) < 100 from by decide, nf0⟩, (fun _ h => (by cases h))⟩
set_option maxHeartbeats 4000000 in
theorem vc_Mo_byMeans_5_0 (x4 : Int) (x7 : Int) (x8 : Int) (x20 : Int) (all_0 : Int → Int) (turned_0 : Int → Int) (itemLayer_0 : Int → Int) (firstJoint_0 : Int → Int) (lineA_0 : Int → Int) (lineB_0 : Int → Int) (r_0 : Int) (items_0 : Int) (layerMany_0 : Int) (lines_0 : Int) (layerSize_0 : Int → Int) (layerItem_0 : Int → Int) (all_1 : Int → Int) (turned_1 : Int → Int) (itemLayer_1 : Int → Int) (firstJoint_1 : Int → Int) (lineA_1 : Int → Int) (lineB_1 : Int → Int) (r_1 : Int) (items_1 : Int) (layerMany_1 : Int) (lines_1 : Int) (layerSize_1 : Int → Int) (layerItem_1 : Int → Int) (row_1 : Int → Int) (all_2 : Int → Int) (turned_2 : Int → Int) (itemLayer_2 : Int → Int) (firstJoint_2 : Int → Int) (lineA_2 : Int → Int) (lineB_2 : Int → Int) (r_2 : Int) (items_2 : Int) (layerMany_2 : Int) (lines_2 : Int) (layerSize_2 : Int → Int) (layerItem_2 : Int → Int) (row_2 : Int → Int) (lines_3 : Int) (all_3 : Int → Int) (turned_3 : Int → Int) (itemLayer_3 : Int → Int) (firstJoint_3 : Int → Int) (lineA_3 : Int → Int) (lineB_3 : Int → Int) (r_3 : Int) (items_3 : Int) (layerMany_3 : Int) (layerSize_3 : Int → Int) (layerItem_3 : Int → Int) (row_3 : Int → Int) (row_0 : Int → Int) (meanA_0 : Int → Int) (meanA_1 : Int → Int) (meanA_2 : Int → Int) (meanB_0 : Int → Int) (meanB_1 : Int → Int) (meanB_2 : Int → Int) (meanB_3 : Int → Int) (k4 : 0 ≤ x4 ∧ x4 ≤ 75) (k7 : 0 ≤ x7 ∧ x7 ≤ 75) (k8 : 0 ≤ x8 ∧ x8 ≤ 75) (k20 : 1 ≤ x20 ∧ x20 ≤ 76) (f0 : x20 = x7 + 1) (f42 : BM1 (layerItem_3) (row_3) (x4) (x7)) (f44 : x8 = layerItem_3 (((76 * x4) + x7))) (fe_0_5_1 : r_0 = r_1) (fe_0_100_1 : items_0 = items_1) (fe_0_101_1 : layerMany_0 = layerMany_1) (fe_0_107_1 : lines_0 = lines_1) (fe_0_5_2 : r_1 = r_2) (fe_0_100_2 : items_1 = items_2) (fe_0_101_2 : layerMany_1 = layerMany_2) (fe_0_107_2 : lines_1 = lines_2) (fe_0_5_3 : r_2 = r_3) (fe_0_100_3 : items_2 = items_3) (fe_0_101_3 : layerMany_2 = layerMany_3) (fe_0_107_3 : lines_2 = lines_3) (hE_0_2_1 : ∀ j : Int, all_0 j = all_1 j) (hE_0_2_2 : ∀ j : Int, all_1 j = all_2 j) (hE_0_2_3 : ∀ j : Int, all_2 j = all_3 j) (hE_0_95_1 : ∀ j : Int, turned_0 j = turned_1 j) (hE_0_95_2 : ∀ j : Int, turned_1 j = turned_2 j) (hE_0_95_3 : ∀ j : Int, turned_2 j = turned_3 j) (hE_0_102_1 : ∀ j : Int, itemLayer_0 j = itemLayer_1 j) (hE_0_102_2 : ∀ j : Int, itemLayer_1 j = itemLayer_2 j) (hE_0_102_3 : ∀ j : Int, itemLayer_2 j = itemLayer_3 j) (hE_0_104_1 : ∀ j : Int, firstJoint_0 j = firstJoint_1 j) (hE_0_104_2 : ∀ j : Int, firstJoint_1 j = firstJoint_2 j) (hE_0_104_3 : ∀ j : Int, firstJoint_2 j = firstJoint_3 j) (hE_0_105_1 : ∀ j : Int, layerSize_0 j = layerSize_1 j) (hE_0_105_2 : ∀ j : Int, layerSize_1 j = layerSize_2 j) (hE_0_105_3 : ∀ j : Int, layerSize_2 j = layerSize_3 j) (hE_0_106_1 : ∀ j : Int, layerItem_0 j = layerItem_1 j) (hE_0_106_2 : ∀ j : Int, layerItem_1 j = layerItem_2 j) (hE_0_106_3 : ∀ j : Int, layerItem_2 j = layerItem_3 j) (hE_0_108_1 : ∀ j : Int, lineA_0 j = lineA_1 j) (hE_0_108_2 : ∀ j : Int, lineA_1 j = lineA_2 j) (hE_0_108_3 : ∀ j : Int, lineA_2 j = lineA_3 j) (hE_0_109_1 : ∀ j : Int, lineB_0 j = lineB_1 j) (hE_0_109_2 : ∀ j : Int, lineB_1 j = lineB_2 j) (hE_0_109_3 : ∀ j : Int, lineB_2 j = lineB_3 j) (hE_0_117_1 : ∀ j : Int, 0 ≤ j → (j = x7 → row_0 j = x8) ∧ (j ≠ x7 → row_0 j = row_1 j)) (hE_0_117_2 : ∀ j : Int, row_1 j = row_2 j) (hE_0_117_3 : ∀ j : Int, row_2 j = row_3 j) (hE_0_119_1 : ∀ j : Int, meanA_0 j = meanA_1 j) (hE_0_119_2 : ∀ j : Int, meanA_1 j = meanA_2 j) (hE_0_120_1 : ∀ j : Int, meanB_0 j = meanB_1 j) (hE_0_120_3 : ∀ j : Int, meanB_2 j = meanB_3 j) (kz_0_100 : 0 ≤ items_0 ∧ items_0 ≤ 76) (kz_0_101 : 0 ≤ layerMany_0 ∧ layerMany_0 ≤ 76) (kz_0_107 : 0 ≤ lines_0 ∧ lines_0 ≤ 130) : BM1 (layerItem_0) (row_0) (x4) (x20) := by
  subst fe_0_5_1
  subst fe_0_100_1
  subst fe_0_101_1
  subst fe_0_107_1
  subst fe_0_5_2
  subst fe_0_100_2
  subst fe_0_101_2
  subst fe_0_107_2
  subst fe_0_5_3
  subst fe_0_100_3
  subst fe_0_101_3
  subst fe_0_107_3
  have e_hE_0_2_1 := funext hE_0_2_1; subst e_hE_0_2_1
  have e_hE_0_2_2 := funext hE_0_2_2; subst e_hE_0_2_2
  have e_hE_0_2_3 := funext hE_0_2_3; subst e_hE_0_2_3
  have e_hE_0_95_1 := funext hE_0_95_1; subst e_hE_0_95_1
  have e_hE_0_95_2 := funext hE_0_95_2; subst e_hE_0_95_2
  have e_hE_0_95_3 := funext hE_0_95_3; subst e_hE_0_95_3
  have e_hE_0_102_1 := funext hE_0_102_1; subst e_hE_0_102_1
  have e_hE_0_102_2 := funext hE_0_102_2; subst e_hE_0_102_2
  have e_hE_0_102_3 := funext hE_0_102_3; subst e_hE_0_102_3
  have e_hE_0_104_1 := funext hE_0_104_1; subst e_hE_0_104_1
  have e_hE_0_104_2 := funext hE_0_104_2; subst e_hE_0_104_2
  have e_hE_0_104_3 := funext hE_0_104_3; subst e_hE_0_104_3
  have e_hE_0_105_1 := funext hE_0_105_1; subst e_hE_0_105_1
  have e_hE_0_105_2 := funext hE_0_105_2; subst e_hE_0_105_2
  have e_hE_0_105_3 := funext hE_0_105_3; subst e_hE_0_105_3
  have e_hE_0_106_1 := funext hE_0_106_1; subst e_hE_0_106_1
  have e_hE_0_106_2 := funext hE_0_106_2; subst e_hE_0_106_2
  have e_hE_0_106_3 := funext hE_0_106_3; subst e_hE_0_106_3
  have e_hE_0_108_1 := funext hE_0_108_1; subst e_hE_0_108_1
  have e_hE_0_108_2 := funext hE_0_108_2; subst e_hE_0_108_2
  have e_hE_0_108_3 := funext hE_0_108_3; subst e_hE_0_108_3
  have e_hE_0_109_1 := funext hE_0_109_1; subst e_hE_0_109_1
  have e_hE_0_109_2 := funext hE_0_109_2; subst e_hE_0_109_2
  have e_hE_0_109_3 := funext hE_0_109_3; subst e_hE_0_109_3
  have e_hE_0_117_2 := funext hE_0_117_2; subst e_hE_0_117_2
  have e_hE_0_117_3 := funext hE_0_117_3; subst e_hE_0_117_3
  have e_hE_0_119_1 := funext hE_0_119_1; subst e_hE_0_119_1
  have e_hE_0_119_2 := funext hE_0_119_2; subst e_hE_0_119_2
  have e_hE_0_120_1 := funext hE_0_120_1; subst e_hE_0_120_1
  have e_hE_0_120_3 := funext hE_0_120_3; subst e_hE_0_120_3
  first
    | (intro j a b; exfalso; omega)
    | exact bm1_next ‹BM1 _ _ _ _› (by assumption) (by assumption) (by assumption)
def o_Mo_byMeans_5 : or_T := (10, 21, [(0, (2, 0, 0, [165])), (4, (0, 0, 75, [])), (7, (0, 0, 75, [])), (8, (0, 0, 75, [])), (13, (2, 0, 0, [251])), (16, (2, 0, 0, [252])), (19, (2, 0, 0, [249])), (20, (0, 1, 76, []))], [(6, [20, 7], [1]), (24, [0, 3], []), (100, [19, 7, 8], []), (9, [19, 3], [117]), (100, [16, 7, 18], []), (100, [13, 7, 15], []), (20, [3, 4, 7], [60, 0, 2, 451, 106, 117]), (20, [8, 3, 4, 7], [50, 0, 1, 1106, 1, 2, 1, 0, 3, 1, 106, 4, 6, 6, 2, 0, 76, 1, 2, 1, 3])], [], [], [(20, [3, 4, 20], [60, 0, 2, 451, 106, 117])], [], [(20, 7, 1, 1), (7, 6, -4294967296, -1)])
theorem oo_Mo_byMeans_5 {kA : Nat → ClassId} : or_ok PRD kA GG o_Mo_byMeans_5 := by
  refine or_mk fun A ta ws vs hD hth hl => ?_
  intro t0 r0 t4 k4 t7 k7 t8 k8 t13 r13 t16 r16 t19 r19 t20 k20 d0 d3 f0 f9 ta1 w1 le1 s1 f11 ta2 w2 le2 s2 ta3 w3 le3 s3 f42 f44
  replace f0 := shm_4 f0
  replace f9 := shm_5 f9
  have s1 : (∀ b j, w_el ws b j = if b = v_ad (n_v vs 19) ∧ j = (v_iv (n_v vs 7)).toNat then v_iv (n_v vs 8) else w_el w1 b j) ∧ ∀ b k, w_fd ws b k = w_fd w1 b k := s1.2
  replace f11 := shm_713 f11
  have s2 : (∀ b j, w_el w1 b j = if b = v_ad (n_v vs 16) ∧ j = (v_iv (n_v vs 7)).toNat then v_iv (n_v vs 18) else w_el w2 b j) ∧ ∀ b k, w_fd w1 b k = w_fd w2 b k := s2.2
  have s3 : (∀ b j, w_el w2 b j = if b = v_ad (n_v vs 13) ∧ j = (v_iv (n_v vs 7)).toNat then v_iv (n_v vs 15) else w_el w3 b j) ∧ ∀ b k, w_fd w2 b k = w_fd w3 b k := s3.2
  replace f42 := shm_967 f42
  replace f44 := shm_969 f44
  have q3 : n_v vs 3 = n_v vs 0 := f9.symm
  simp only [q3] at f11 f42 f44
  have ar_0_2_1 : w_ar w1 (n_v vs 0) 2 = w_ar ws (n_v vs 0) 2 := congrArg v_ad (s1.2 _ _).symm
  have ar_0_2_2 : w_ar w2 (n_v vs 0) 2 = w_ar ws (n_v vs 0) 2 := by rw [← ar_0_2_1]; show v_ad (w_fd w2 _ _) = v_ad (w_fd w1 _ _); rw [s2.2]
  have ar_0_2_3 : w_ar w3 (n_v vs 0) 2 = w_ar ws (n_v vs 0) 2 := by rw [← ar_0_2_2]; show v_ad (w_fd w3 _ _) = v_ad (w_fd w2 _ _); rw [s3.2]
  have cr_0_2 := fdq_10 hD hth r0
  have ar_0_95_1 : w_ar w1 (n_v vs 0) 95 = w_ar ws (n_v vs 0) 95 := congrArg v_ad (s1.2 _ _).symm
  have ar_0_95_2 : w_ar w2 (n_v vs 0) 95 = w_ar ws (n_v vs 0) 95 := by rw [← ar_0_95_1]; show v_ad (w_fd w2 _ _) = v_ad (w_fd w1 _ _); rw [s2.2]
  have ar_0_95_3 : w_ar w3 (n_v vs 0) 95 = w_ar ws (n_v vs 0) 95 := by rw [← ar_0_95_2]; show v_ad (w_fd w3 _ _) = v_ad (w_fd w2 _ _); rw [s3.2]
  have cr_0_95 := fdq_130 hD hth r0
  have ar_0_102_1 : w_ar w1 (n_v vs 0) 102 = w_ar ws (n_v vs 0) 102 := congrArg v_ad (s1.2 _ _).symm
  have ar_0_102_2 : w_ar w2 (n_v vs 0) 102 = w_ar ws (n_v vs 0) 102 := by rw [← ar_0_102_1]; show v_ad (w_fd w2 _ _) = v_ad (w_fd w1 _ _); rw [s2.2]
  have ar_0_102_3 : w_ar w3 (n_v vs 0) 102 = w_ar ws (n_v vs 0) 102 := by rw [← ar_0_102_2]; show v_ad (w_fd w3 _ _) = v_ad (w_fd w2 _ _); rw [s3.2]
  have cr_0_102 := fdq_159 hD hth r0
  have ar_0_104_1 : w_ar w1 (n_v vs 0) 104 = w_ar ws (n_v vs 0) 104 := congrArg v_ad (s1.2 _ _).symm
  have ar_0_104_2 : w_ar w2 (n_v vs 0) 104 = w_ar ws (n_v vs 0) 104 := by rw [← ar_0_104_1]; show v_ad (w_fd w2 _ _) = v_ad (w_fd w1 _ _); rw [s2.2]
  have ar_0_104_3 : w_ar w3 (n_v vs 0) 104 = w_ar ws (n_v vs 0) 104 := by rw [← ar_0_104_2]; show v_ad (w_fd w3 _ _) = v_ad (w_fd w2 _ _); rw [s3.2]
  have cr_0_104 := fdq_170 hD hth r0
  have ar_0_105_1 : w_ar w1 (n_v vs 0) 105 = w_ar ws (n_v vs 0) 105 := congrArg v_ad (s1.2 _ _).symm
  have ar_0_105_2 : w_ar w2 (n_v vs 0) 105 = w_ar ws (n_v vs 0) 105 := by rw [← ar_0_105_1]; show v_ad (w_fd w2 _ _) = v_ad (w_fd w1 _ _); rw [s2.2]
  have ar_0_105_3 : w_ar w3 (n_v vs 0) 105 = w_ar ws (n_v vs 0) 105 := by rw [← ar_0_105_2]; show v_ad (w_fd w3 _ _) = v_ad (w_fd w2 _ _); rw [s3.2]
  have cr_0_105 := fdq_122 hD hth r0
  have ar_0_106_1 : w_ar w1 (n_v vs 0) 106 = w_ar ws (n_v vs 0) 106 := congrArg v_ad (s1.2 _ _).symm
  have ar_0_106_2 : w_ar w2 (n_v vs 0) 106 = w_ar ws (n_v vs 0) 106 := by rw [← ar_0_106_1]; show v_ad (w_fd w2 _ _) = v_ad (w_fd w1 _ _); rw [s2.2]
  have ar_0_106_3 : w_ar w3 (n_v vs 0) 106 = w_ar ws (n_v vs 0) 106 := by rw [← ar_0_106_2]; show v_ad (w_fd w3 _ _) = v_ad (w_fd w2 _ _); rw [s3.2]
  have cr_0_106 := fdq_123 hD hth r0
  have ar_0_108_1 : w_ar w1 (n_v vs 0) 108 = w_ar ws (n_v vs 0) 108 := congrArg v_ad (s1.2 _ _).symm
  have ar_0_108_2 : w_ar w2 (n_v vs 0) 108 = w_ar ws (n_v vs 0) 108 := by rw [← ar_0_108_1]; show v_ad (w_fd w2 _ _) = v_ad (w_fd w1 _ _); rw [s2.2]
  have ar_0_108_3 : w_ar w3 (n_v vs 0) 108 = w_ar ws (n_v vs 0) 108 := by rw [← ar_0_108_2]; show v_ad (w_fd w3 _ _) = v_ad (w_fd w2 _ _); rw [s3.2]
  have cr_0_108 := fdq_160 hD hth r0
  have ar_0_109_1 : w_ar w1 (n_v vs 0) 109 = w_ar ws (n_v vs 0) 109 := congrArg v_ad (s1.2 _ _).symm
  have ar_0_109_2 : w_ar w2 (n_v vs 0) 109 = w_ar ws (n_v vs 0) 109 := by rw [← ar_0_109_1]; show v_ad (w_fd w2 _ _) = v_ad (w_fd w1 _ _); rw [s2.2]
  have ar_0_109_3 : w_ar w3 (n_v vs 0) 109 = w_ar ws (n_v vs 0) 109 := by rw [← ar_0_109_2]; show v_ad (w_fd w3 _ _) = v_ad (w_fd w2 _ _); rw [s3.2]
  have cr_0_109 := fdq_161 hD hth r0
  have ar_0_117_1 : w_ar w1 (n_v vs 0) 117 = w_ar ws (n_v vs 0) 117 := congrArg v_ad (s1.2 _ _).symm
  have ar_0_117_2 : w_ar w2 (n_v vs 0) 117 = w_ar ws (n_v vs 0) 117 := by rw [← ar_0_117_1]; show v_ad (w_fd w2 _ _) = v_ad (w_fd w1 _ _); rw [s2.2]
  have ar_0_117_3 : w_ar w3 (n_v vs 0) 117 = w_ar ws (n_v vs 0) 117 := by rw [← ar_0_117_2]; show v_ad (w_fd w3 _ _) = v_ad (w_fd w2 _ _); rw [s3.2]
  have cr_0_117 := fdq_181 hD hth r0
  have cr_0_119 := fdq_234 hD hth r0
  have cr_0_120 := fdq_235 hD hth r0
  have ad_19 : v_ad (n_v vs 19) = w_ar ws (n_v vs 0) 117 := (congrArg v_ad f11).trans ar_0_117_1
  simp only [ar_0_2_3, ar_0_95_3, ar_0_102_3, ar_0_104_3, ar_0_108_3, ar_0_109_3, ar_0_105_3, ar_0_106_3, ar_0_117_3] at f42 f44
  have fe_0_5_1 : w_fi ws (n_v vs 0) 5 = w_fi w1 (n_v vs 0) 5 := congrArg v_iv (s1.2 _ _)
  have fe_0_100_1 : w_fi ws (n_v vs 0) 100 = w_fi w1 (n_v vs 0) 100 := congrArg v_iv (s1.2 _ _)
  have fe_0_101_1 : w_fi ws (n_v vs 0) 101 = w_fi w1 (n_v vs 0) 101 := congrArg v_iv (s1.2 _ _)
  have fe_0_107_1 : w_fi ws (n_v vs 0) 107 = w_fi w1 (n_v vs 0) 107 := congrArg v_iv (s1.2 _ _)
  have fe_0_5_2 : w_fi w1 (n_v vs 0) 5 = w_fi w2 (n_v vs 0) 5 := congrArg v_iv (s2.2 _ _)
  have fe_0_100_2 : w_fi w1 (n_v vs 0) 100 = w_fi w2 (n_v vs 0) 100 := congrArg v_iv (s2.2 _ _)
  have fe_0_101_2 : w_fi w1 (n_v vs 0) 101 = w_fi w2 (n_v vs 0) 101 := congrArg v_iv (s2.2 _ _)
  have fe_0_107_2 : w_fi w1 (n_v vs 0) 107 = w_fi w2 (n_v vs 0) 107 := congrArg v_iv (s2.2 _ _)
  have fe_0_5_3 : w_fi w2 (n_v vs 0) 5 = w_fi w3 (n_v vs 0) 5 := congrArg v_iv (s3.2 _ _)
  have fe_0_100_3 : w_fi w2 (n_v vs 0) 100 = w_fi w3 (n_v vs 0) 100 := congrArg v_iv (s3.2 _ _)
  have fe_0_101_3 : w_fi w2 (n_v vs 0) 101 = w_fi w3 (n_v vs 0) 101 := congrArg v_iv (s3.2 _ _)
  have fe_0_107_3 : w_fi w2 (n_v vs 0) 107 = w_fi w3 (n_v vs 0) 107 := congrArg v_iv (s3.2 _ _)
  have hE_0_2_1 : ∀ j : Int, w_ei ws (w_ar ws (n_v vs 0) 2) j = w_ei w1 (w_ar ws (n_v vs 0) 2) j := el_kp s1.1 r19 cr_0_2 (by decide)
  have hE_0_2_2 : ∀ j : Int, w_ei w1 (w_ar ws (n_v vs 0) 2) j = w_ei w2 (w_ar ws (n_v vs 0) 2) j := el_kp s2.1 r16 cr_0_2 (by decide)
  have hE_0_2_3 : ∀ j : Int, w_ei w2 (w_ar ws (n_v vs 0) 2) j = w_ei w3 (w_ar ws (n_v vs 0) 2) j := el_kp s3.1 r13 cr_0_2 (by decide)
  have hE_0_95_1 : ∀ j : Int, w_ei ws (w_ar ws (n_v vs 0) 95) j = w_ei w1 (w_ar ws (n_v vs 0) 95) j := el_kp s1.1 r19 cr_0_95 (by decide)
  have hE_0_95_2 : ∀ j : Int, w_ei w1 (w_ar ws (n_v vs 0) 95) j = w_ei w2 (w_ar ws (n_v vs 0) 95) j := el_kp s2.1 r16 cr_0_95 (by decide)
  have hE_0_95_3 : ∀ j : Int, w_ei w2 (w_ar ws (n_v vs 0) 95) j = w_ei w3 (w_ar ws (n_v vs 0) 95) j := el_kp s3.1 r13 cr_0_95 (by decide)
  have hE_0_102_1 : ∀ j : Int, w_ei ws (w_ar ws (n_v vs 0) 102) j = w_ei w1 (w_ar ws (n_v vs 0) 102) j := el_kp s1.1 r19 cr_0_102 (by decide)
  have hE_0_102_2 : ∀ j : Int, w_ei w1 (w_ar ws (n_v vs 0) 102) j = w_ei w2 (w_ar ws (n_v vs 0) 102) j := el_kp s2.1 r16 cr_0_102 (by decide)
  have hE_0_102_3 : ∀ j : Int, w_ei w2 (w_ar ws (n_v vs 0) 102) j = w_ei w3 (w_ar ws (n_v vs 0) 102) j := el_kp s3.1 r13 cr_0_102 (by decide)
  have hE_0_104_1 : ∀ j : Int, w_ei ws (w_ar ws (n_v vs 0) 104) j = w_ei w1 (w_ar ws (n_v vs 0) 104) j := el_kp s1.1 r19 cr_0_104 (by decide)
  have hE_0_104_2 : ∀ j : Int, w_ei w1 (w_ar ws (n_v vs 0) 104) j = w_ei w2 (w_ar ws (n_v vs 0) 104) j := el_kp s2.1 r16 cr_0_104 (by decide)
  have hE_0_104_3 : ∀ j : Int, w_ei w2 (w_ar ws (n_v vs 0) 104) j = w_ei w3 (w_ar ws (n_v vs 0) 104) j := el_kp s3.1 r13 cr_0_104 (by decide)
  have hE_0_105_1 : ∀ j : Int, w_ei ws (w_ar ws (n_v vs 0) 105) j = w_ei w1 (w_ar ws (n_v vs 0) 105) j := el_kp s1.1 r19 cr_0_105 (by decide)
  have hE_0_105_2 : ∀ j : Int, w_ei w1 (w_ar ws (n_v vs 0) 105) j = w_ei w2 (w_ar ws (n_v vs 0) 105) j := el_kp s2.1 r16 cr_0_105 (by decide)
  have hE_0_105_3 : ∀ j : Int, w_ei w2 (w_ar ws (n_v vs 0) 105) j = w_ei w3 (w_ar ws (n_v vs 0) 105) j := el_kp s3.1 r13 cr_0_105 (by decide)
  have hE_0_106_1 : ∀ j : Int, w_ei ws (w_ar ws (n_v vs 0) 106) j = w_ei w1 (w_ar ws (n_v vs 0) 106) j := el_kp s1.1 r19 cr_0_106 (by decide)
  have hE_0_106_2 : ∀ j : Int, w_ei w1 (w_ar ws (n_v vs 0) 106) j = w_ei w2 (w_ar ws (n_v vs 0) 106) j := el_kp s2.1 r16 cr_0_106 (by decide)
  have hE_0_106_3 : ∀ j : Int, w_ei w2 (w_ar ws (n_v vs 0) 106) j = w_ei w3 (w_ar ws (n_v vs 0) 106) j := el_kp s3.1 r13 cr_0_106 (by decide)
  have hE_0_108_1 : ∀ j : Int, w_ei ws (w_ar ws (n_v vs 0) 108) j = w_ei w1 (w_ar ws (n_v vs 0) 108) j := el_kp s1.1 r19 cr_0_108 (by decide)
  have hE_0_108_2 : ∀ j : Int, w_ei w1 (w_ar ws (n_v vs 0) 108) j = w_ei w2 (w_ar ws (n_v vs 0) 108) j := el_kp s2.1 r16 cr_0_108 (by decide)
  have hE_0_108_3 : ∀ j : Int, w_ei w2 (w_ar ws (n_v vs 0) 108) j = w_ei w3 (w_ar ws (n_v vs 0) 108) j := el_kp s3.1 r13 cr_0_108 (by decide)
  have hE_0_109_1 : ∀ j : Int, w_ei ws (w_ar ws (n_v vs 0) 109) j = w_ei w1 (w_ar ws (n_v vs 0) 109) j := el_kp s1.1 r19 cr_0_109 (by decide)
  have hE_0_109_2 : ∀ j : Int, w_ei w1 (w_ar ws (n_v vs 0) 109) j = w_ei w2 (w_ar ws (n_v vs 0) 109) j := el_kp s2.1 r16 cr_0_109 (by decide)
  have hE_0_109_3 : ∀ j : Int, w_ei w2 (w_ar ws (n_v vs 0) 109) j = w_ei w3 (w_ar ws (n_v vs 0) 109) j := el_kp s3.1 r13 cr_0_109 (by decide)
  have hE_0_117_1 : ∀ j : Int, 0 ≤ j → (j = v_iv (n_v vs 7) → w_ei ws (w_ar ws (n_v vs 0) 117) j = v_iv (n_v vs 8)) ∧ (j ≠ v_iv (n_v vs 7) → w_ei ws (w_ar ws (n_v vs 0) 117) j = w_ei w1 (w_ar ws (n_v vs 0) 117) j) := fun j hj => ⟨fun h => by unfold w_ei; rw [s1.1, if_pos ⟨ad_19.symm, by rw [h]⟩], fun h => by unfold w_ei; rw [s1.1, if_neg (fun e => h (by have := e.2; omega))]⟩
  have hE_0_117_2 : ∀ j : Int, w_ei w1 (w_ar ws (n_v vs 0) 117) j = w_ei w2 (w_ar ws (n_v vs 0) 117) j := el_kp s2.1 r16 cr_0_117 (by decide)
  have hE_0_117_3 : ∀ j : Int, w_ei w2 (w_ar ws (n_v vs 0) 117) j = w_ei w3 (w_ar ws (n_v vs 0) 117) j := el_kp s3.1 r13 cr_0_117 (by decide)
  have hE_0_119_1 : ∀ j : Int, w_ei ws (w_ar ws (n_v vs 0) 119) j = w_ei w1 (w_ar ws (n_v vs 0) 119) j := el_kp s1.1 r19 cr_0_119 (by decide)
  have hE_0_119_2 : ∀ j : Int, w_ei w1 (w_ar ws (n_v vs 0) 119) j = w_ei w2 (w_ar ws (n_v vs 0) 119) j := el_kp s2.1 r16 cr_0_119 (by decide)
  have hE_0_120_1 : ∀ j : Int, w_ei ws (w_ar ws (n_v vs 0) 120) j = w_ei w1 (w_ar ws (n_v vs 0) 120) j := el_kp s1.1 r19 cr_0_120 (by decide)
  have hE_0_120_3 : ∀ j : Int, w_ei w2 (w_ar ws (n_v vs 0) 120) j = w_ei w3 (w_ar ws (n_v vs 0) 120) j := el_kp s3.1 r13 cr_0_120 (by decide)
  have kz_0_100 := fdq_162 hD hth r0
  have kz_0_101 := fdq_125 hD hth r0
  have kz_0_107 := fdq_163 hD hth r0
  have nf0 : fc_1 PRD (20, [3, 4, 20], [60, 0, 2, 451, 106, 117]) ws (vs) := by
    refine ⟨nf_in hl rfl, sgq_967 ?_⟩
    · show BM1 (w_ei ws (w_ar ws (n_v vs 3) 106)) (w_ei ws (w_ar ws (n_v vs 3) 117)) (v_iv (n_v vs 4)) (v_iv (n_v vs 20))
      rw [q3]
      exact vc_Mo_byMeans_5_0 (v_iv (n_v vs 4)) (v_iv (n_v vs 7)) (v_iv (n_v vs 8)) (v_iv (n_v vs 20)) (w_ei ws (w_ar ws (n_v vs 0) 2)) (w_ei ws (w_ar ws (n_v vs 0) 95)) (w_ei ws (w_ar ws (n_v vs 0) 102)) (w_ei ws (w_ar ws (n_v vs 0) 104)) (w_ei ws (w_ar ws (n_v vs 0) 108)) (w_ei ws (w_ar ws (n_v vs 0) 109)) (w_fi ws (n_v vs 0) 5) (w_fi ws (n_v vs 0) 100) (w_fi ws (n_v vs 0) 101) (w_fi ws (n_v vs 0) 107) (w_ei ws (w_ar ws (n_v vs 0) 105)) (w_ei ws (w_ar ws (n_v vs 0) 106)) (w_ei w1 (w_ar ws (n_v vs 0) 2)) (w_ei w1 (w_ar ws (n_v vs 0) 95)) (w_ei w1 (w_ar ws (n_v vs 0) 102)) (w_ei w1 (w_ar ws (n_v vs 0) 104)) (w_ei w1 (w_ar ws (n_v vs 0) 108)) (w_ei w1 (w_ar ws (n_v vs 0) 109)) (w_fi w1 (n_v vs 0) 5) (w_fi w1 (n_v vs 0) 100) (w_fi w1 (n_v vs 0) 101) (w_fi w1 (n_v vs 0) 107) (w_ei w1 (w_ar ws (n_v vs 0) 105)) (w_ei w1 (w_ar ws (n_v vs 0) 106)) (w_ei w1 (w_ar ws (n_v vs 0) 117)) (w_ei w2 (w_ar ws (n_v vs 0) 2)) (w_ei w2 (w_ar ws (n_v vs 0) 95)) (w_ei w2 (w_ar ws (n_v vs 0) 102)) (w_ei w2 (w_ar ws (n_v vs 0) 104)) (w_ei w2 (w_ar ws (n_v vs 0) 108)) (w_ei w2 (w_ar ws (n_v vs 0) 109)) (w_fi w2 (n_v vs 0) 5) (w_fi w2 (n_v vs 0) 100) (w_fi w2 (n_v vs 0) 101) (w_fi w2 (n_v vs 0) 107) (w_ei w2 (w_ar ws (n_v vs 0) 105)) (w_ei w2 (w_ar ws (n_v vs 0) 106)) (w_ei w2 (w_ar ws (n_v vs 0) 117)) (w_fi w3 (n_v vs 0) 107) (w_ei w3 (w_ar ws (n_v vs 0) 2)) (w_ei w3 (w_ar ws (n_v vs 0) 95)) (w_ei w3 (w_ar ws (n_v vs 0) 102)) (w_ei w3 (w_ar ws (n_v vs 0) 104)) (w_ei w3 (w_ar ws (n_v vs 0) 108)) (w_ei w3 (w_ar ws (n_v vs 0) 109)) (w_fi w3 (n_v vs 0) 5) (w_fi w3 (n_v vs 0) 100) (w_fi w3 (n_v vs 0) 101) (w_ei w3 (w_ar ws (n_v vs 0) 105)) (w_ei w3 (w_ar ws (n_v vs 0) 106)) (w_ei w3 (w_ar ws (n_v vs 0) 117)) (w_ei ws (w_ar ws (n_v vs 0) 117)) (w_ei ws (w_ar ws (n_v vs 0) 119)) (w_ei w1 (w_ar ws (n_v vs 0) 119)) (w_ei w2 (w_ar ws (n_v vs 0) 119)) (w_ei ws (w_ar ws (n_v vs 0) 120)) (w_ei w1 (w_ar ws (n_v vs 0) 120)) (w_ei w2 (w_ar ws (n_v vs 0) 120)) (w_ei w3 (w_ar ws (n_v vs 0) 120)) k4 k7 k8 k20 f0 f42 f44 fe_0_5_1 fe_0_100_1 fe_0_101_1 fe_0_107_1 fe_0_5_2 fe_0_100_2 fe_0_101_2 fe_0_107_2 fe_0_5_3 fe_0_100_3 fe_0_101_3 fe_0_107_3 hE_0_2_1 hE_0_2_2 hE_0_2_3 hE_0_95_1 hE_0_95_2 hE_0_95_3 hE_0_102_1 hE_0_102_2 hE_0_102_3 hE_0_104_1 hE_0_104_2 hE_0_104_3 hE_0_105_1 hE_0_105_2 hE_0_105_3 hE_0_106_1 hE_0_106_2 hE_0_106_3 hE_0_108_1 hE_0_108_2 hE_0_108_3 hE_0_109_1 hE_0_109_2 hE_0_109_3 hE_0_117_1 hE_0_117_2 hE_0_117_3 hE_0_119_1 hE_0_119_2 hE_0_120_1 hE_0_120_3 kz_0_100 kz_0_101 kz_0_107
  refine ⟨(fun _ h => (by cases h)), [], trivial, ?_, (fun _ h => (by cases h))⟩
  rw [List.append_nil]
  exact List.forall_mem_cons.mpr ⟨⟨show (20 : Nat) < 100 from by decide, nf0⟩, (fun _ h => (by cases h))⟩
set_option maxHeartbeats 4000000 in
theorem vc_Mo_byMeans_6_0 (x4 : Int) (x7 : Int) (x11 : Int) (x12 : Int) (x16 : Int) (lineB_0 : Int → Int) (lineA_0 : Int → Int) (lines_0 : Int) (all_0 : Int → Int) (turned_0 : Int → Int) (itemLayer_0 : Int → Int) (firstJoint_0 : Int → Int) (r_0 : Int) (items_0 : Int) (layerMany_0 : Int) (k11 : 0 ≤ x11 ∧ x11 ≤ 129) (k12 : 1 ≤ x12 ∧ x12 ≤ 130) (k16 : 0 ≤ x16 ∧ x16 ≤ 75) (d1 : x12 + (-4294967296) ≤ x11 ∧ x11 ≤ x12 + (-1)) (h0 : x16 = lineB_0 (x11)) (g6 : x12 = lines_0) (f7 : LSA (r_0) (items_0) (layerMany_0) (lines_0) (all_0) (turned_0) (itemLayer_0) (firstJoint_0) (lineA_0) (lineB_0)) (kz_0_100 : 0 ≤ items_0 ∧ items_0 ≤ 76) (kz_0_101 : 0 ≤ layerMany_0 ∧ layerMany_0 ≤ 76) (kz_0_107 : 0 ≤ lines_0 ∧ lines_0 ≤ 130) : (0 ≤ x16) ∧ ((x16 + 1) ≤ items_0) := by
  first
    | omega
    | exact lsa_la (p := x11) ‹LSA _ _ _ _ _ _ _ _ _ _› (by omega) (by omega) (by assumption)
    | exact lsa_lb (p := x11) ‹LSA _ _ _ _ _ _ _ _ _ _› (by omega) (by omega) (by assumption)
    | (have h := lsb_sz (l := x1) (n := x4) ‹LSB _ _ _ _ _› (by omega) (by omega) (by assumption); omega)
    | (rw [← (by omega : x11 = 76 * x4 + x7)]; assumption)
def o_Mo_byMeans_6 : or_T := (101, 17, [(0, (2, 0, 0, [165])), (3, (2, 0, 0, [165])), (4, (0, 0, 75, [])), (6, (0, 1, 76, [])), (7, (0, 0, 75, [])), (8, (0, 0, 75, [])), (11, (0, 0, 129, [])), (12, (0, 1, 130, [])), (13, (2, 0, 0, [240])), (14, (0, 0, 75, [])), (15, (2, 0, 0, [241])), (16, (0, 0, 75, []))], [(10, [16, 15, 11], []), (9, [15, 3], [109]), (7, [14, 8], [0]), (10, [14, 13, 11], []), (9, [13, 3], [108]), (7, [11, 12], [2]), (9, [12, 3], [107]), (20, [3], [60, 4, 6, 445, 5, 100, 101, 107, 2, 95, 102, 104, 108, 109]), (20, [3], [60, 2, 3, 448, 100, 101, 102, 105, 106]), (20, [6, 3, 4], [50, 0, 1, 1105, 1, 2, 1, 0, 3, 1, 105, 1, 2]), (20, [4, 3], [50, 1, 0, 1101, 2, 6, 0, 2, 0, 0, 1, 0, 0, 6, 4, 2, 1, 0, 0, 1, 2, 1, 101]), (20, [6], [50, 0, 0, 0, 2, 1, 0, 0, 72]), (20, [3, 4, 7], [60, 0, 2, 451, 106, 117]), (20, [7, 6], [50, 0, 0, 0, 6, 4, 2, 1, 0, 0, 1, 1, 1]), (20, [8, 3, 4, 7], [50, 0, 1, 1106, 1, 2, 1, 0, 3, 1, 106, 4, 6, 6, 2, 0, 76, 1, 2, 1, 3]), (24, [0, 3], [])], [], [], [(20, [16, 3], [50, 1, 0, 1100, 2, 6, 0, 2, 0, 0, 1, 0, 0, 6, 4, 2, 1, 0, 0, 1, 2, 1, 100])], [], [(14, 8, 0, 0), (11, 12, -4294967296, -1), (7, 6, -4294967296, -1)])
theorem oo_Mo_byMeans_6 {kA : Nat → ClassId} : or_ok PRD kA GG o_Mo_byMeans_6 := by
  refine or_mk fun A ta ws vs hD hth hl => ?_
  intro t0 r0 t3 r3 t4 k4 t6 k6 t7 k7 t8 k8 t11 k11 t12 k12 t13 r13 t14 k14 t15 r15 t16 k16 d0 d1 d2 f0 f1 f2 f3 f4 f5 f6 f7 f8 f9 f10 f11 f12 f13 f14 f15
  replace f0 := shm_107 f0
  replace f1 := shm_632 f1
  replace f6 := shm_627 f6
  replace f7 := shm_674 f7
  replace f15 := shm_5 f15
  have q3 : n_v vs 3 = n_v vs 0 := f15.symm
  simp only [q3] at f1 f6 f7
  have ad_15 : v_ad (n_v vs 15) = w_ar ws (n_v vs 0) 109 := congrArg v_ad f1
  simp only [ad_15] at f0
  have h0 : v_iv (n_v vs 16) = w_ei ws (w_ar ws (n_v vs 0) 109) (v_iv (n_v vs 11)) := f0
  have g6 : v_iv (n_v vs 12) = w_fi ws (n_v vs 0) 107 := congrArg v_iv f6
  have kz_0_100 := fdq_162 hD hth r0
  have kz_0_101 := fdq_125 hD hth r0
  have kz_0_107 := fdq_163 hD hth r0
  have nf0 : fc_1 PRD (20, [16, 3], [50, 1, 0, 1100, 2, 6, 0, 2, 0, 0, 1, 0, 0, 6, 4, 2, 1, 0, 0, 1, 2, 1, 100]) ws (vs) := by
    refine ⟨nf_in hl rfl, sgq_676 ?_⟩
    · show (0 ≤ v_iv (n_v vs 16)) ∧ ((v_iv (n_v vs 16) + 1) ≤ w_fi ws (n_v vs 3) 100)
      rw [q3]
      exact vc_Mo_byMeans_6_0 (v_iv (n_v vs 4)) (v_iv (n_v vs 7)) (v_iv (n_v vs 11)) (v_iv (n_v vs 12)) (v_iv (n_v vs 16)) (w_ei ws (w_ar ws (n_v vs 0) 109)) (w_ei ws (w_ar ws (n_v vs 0) 108)) (w_fi ws (n_v vs 0) 107) (w_ei ws (w_ar ws (n_v vs 0) 2)) (w_ei ws (w_ar ws (n_v vs 0) 95)) (w_ei ws (w_ar ws (n_v vs 0) 102)) (w_ei ws (w_ar ws (n_v vs 0) 104)) (w_fi ws (n_v vs 0) 5) (w_fi ws (n_v vs 0) 100) (w_fi ws (n_v vs 0) 101) k11 k12 k16 d1 h0 g6 f7 kz_0_100 kz_0_101 kz_0_107
  refine ⟨(fun _ h => (by cases h)), [], trivial, ?_, (fun _ h => (by cases h))⟩
  rw [List.append_nil]
  exact List.forall_mem_cons.mpr ⟨⟨show (20 : Nat) < 100 from by decide, nf0⟩, (fun _ h => (by cases h))⟩
set_option maxHeartbeats 4000000 in
theorem vc_Mo_byMeans_7_0 (x4 : Int) (x7 : Int) (x11 : Int) (x12 : Int) (x16 : Int) (lineA_0 : Int → Int) (lineB_0 : Int → Int) (lines_0 : Int) (all_0 : Int → Int) (turned_0 : Int → Int) (itemLayer_0 : Int → Int) (firstJoint_0 : Int → Int) (r_0 : Int) (items_0 : Int) (layerMany_0 : Int) (k11 : 0 ≤ x11 ∧ x11 ≤ 129) (k12 : 1 ≤ x12 ∧ x12 ≤ 130) (k16 : 0 ≤ x16 ∧ x16 ≤ 75) (d1 : x12 + (-4294967296) ≤ x11 ∧ x11 ≤ x12 + (-1)) (h0 : x16 = lineA_0 (x11)) (g6 : x12 = lines_0) (f7 : LSA (r_0) (items_0) (layerMany_0) (lines_0) (all_0) (turned_0) (itemLayer_0) (firstJoint_0) (lineA_0) (lineB_0)) (kz_0_100 : 0 ≤ items_0 ∧ items_0 ≤ 76) (kz_0_101 : 0 ≤ layerMany_0 ∧ layerMany_0 ≤ 76) (kz_0_107 : 0 ≤ lines_0 ∧ lines_0 ≤ 130) : (0 ≤ x16) ∧ ((x16 + 1) ≤ items_0) := by
  first
    | omega
    | exact lsa_la (p := x11) ‹LSA _ _ _ _ _ _ _ _ _ _› (by omega) (by omega) (by assumption)
    | exact lsa_lb (p := x11) ‹LSA _ _ _ _ _ _ _ _ _ _› (by omega) (by omega) (by assumption)
    | (have h := lsb_sz (l := x1) (n := x4) ‹LSB _ _ _ _ _› (by omega) (by omega) (by assumption); omega)
    | (rw [← (by omega : x11 = 76 * x4 + x7)]; assumption)
def o_Mo_byMeans_7 : or_T := (101, 17, [(0, (2, 0, 0, [165])), (3, (2, 0, 0, [165])), (4, (0, 0, 75, [])), (6, (0, 1, 76, [])), (7, (0, 0, 75, [])), (8, (0, 0, 75, [])), (11, (0, 0, 129, [])), (12, (0, 1, 130, [])), (13, (2, 0, 0, [241])), (14, (0, 0, 75, [])), (15, (2, 0, 0, [240])), (16, (0, 0, 75, []))], [(10, [16, 15, 11], []), (9, [15, 3], [108]), (7, [14, 8], [0]), (10, [14, 13, 11], []), (9, [13, 3], [109]), (7, [11, 12], [2]), (9, [12, 3], [107]), (20, [3], [60, 4, 6, 445, 5, 100, 101, 107, 2, 95, 102, 104, 108, 109]), (20, [3], [60, 2, 3, 448, 100, 101, 102, 105, 106]), (20, [6, 3, 4], [50, 0, 1, 1105, 1, 2, 1, 0, 3, 1, 105, 1, 2]), (20, [4, 3], [50, 1, 0, 1101, 2, 6, 0, 2, 0, 0, 1, 0, 0, 6, 4, 2, 1, 0, 0, 1, 2, 1, 101]), (20, [6], [50, 0, 0, 0, 2, 1, 0, 0, 72]), (20, [3, 4, 7], [60, 0, 2, 451, 106, 117]), (20, [7, 6], [50, 0, 0, 0, 6, 4, 2, 1, 0, 0, 1, 1, 1]), (20, [8, 3, 4, 7], [50, 0, 1, 1106, 1, 2, 1, 0, 3, 1, 106, 4, 6, 6, 2, 0, 76, 1, 2, 1, 3]), (24, [0, 3], [])], [], [], [(20, [16, 3], [50, 1, 0, 1100, 2, 6, 0, 2, 0, 0, 1, 0, 0, 6, 4, 2, 1, 0, 0, 1, 2, 1, 100])], [], [(14, 8, 0, 0), (11, 12, -4294967296, -1), (7, 6, -4294967296, -1)])
theorem oo_Mo_byMeans_7 {kA : Nat → ClassId} : or_ok PRD kA GG o_Mo_byMeans_7 := by
  refine or_mk fun A ta ws vs hD hth hl => ?_
  intro t0 r0 t3 r3 t4 k4 t6 k6 t7 k7 t8 k8 t11 k11 t12 k12 t13 r13 t14 k14 t15 r15 t16 k16 d0 d1 d2 f0 f1 f2 f3 f4 f5 f6 f7 f8 f9 f10 f11 f12 f13 f14 f15
  replace f0 := shm_107 f0
  replace f1 := shm_628 f1
  replace f6 := shm_627 f6
  replace f7 := shm_674 f7
  replace f15 := shm_5 f15
  have q3 : n_v vs 3 = n_v vs 0 := f15.symm
  simp only [q3] at f1 f6 f7
  have ad_15 : v_ad (n_v vs 15) = w_ar ws (n_v vs 0) 108 := congrArg v_ad f1
  simp only [ad_15] at f0
  have h0 : v_iv (n_v vs 16) = w_ei ws (w_ar ws (n_v vs 0) 108) (v_iv (n_v vs 11)) := f0
  have g6 : v_iv (n_v vs 12) = w_fi ws (n_v vs 0) 107 := congrArg v_iv f6
  have kz_0_100 := fdq_162 hD hth r0
  have kz_0_101 := fdq_125 hD hth r0
  have kz_0_107 := fdq_163 hD hth r0
  have nf0 : fc_1 PRD (20, [16, 3], [50, 1, 0, 1100, 2, 6, 0, 2, 0, 0, 1, 0, 0, 6, 4, 2, 1, 0, 0, 1, 2, 1, 100]) ws (vs) := by
    refine ⟨nf_in hl rfl, sgq_676 ?_⟩
    · show (0 ≤ v_iv (n_v vs 16)) ∧ ((v_iv (n_v vs 16) + 1) ≤ w_fi ws (n_v vs 3) 100)
      rw [q3]
      exact vc_Mo_byMeans_7_0 (v_iv (n_v vs 4)) (v_iv (n_v vs 7)) (v_iv (n_v vs 11)) (v_iv (n_v vs 12)) (v_iv (n_v vs 16)) (w_ei ws (w_ar ws (n_v vs 0) 108)) (w_ei ws (w_ar ws (n_v vs 0) 109)) (w_fi ws (n_v vs 0) 107) (w_ei ws (w_ar ws (n_v vs 0) 2)) (w_ei ws (w_ar ws (n_v vs 0) 95)) (w_ei ws (w_ar ws (n_v vs 0) 102)) (w_ei ws (w_ar ws (n_v vs 0) 104)) (w_fi ws (n_v vs 0) 5) (w_fi ws (n_v vs 0) 100) (w_fi ws (n_v vs 0) 101) k11 k12 k16 d1 h0 g6 f7 kz_0_100 kz_0_101 kz_0_107
  refine ⟨(fun _ h => (by cases h)), [], trivial, ?_, (fun _ h => (by cases h))⟩
  rw [List.append_nil]
  exact List.forall_mem_cons.mpr ⟨⟨show (20 : Nat) < 100 from by decide, nf0⟩, (fun _ h => (by cases h))⟩
set_option maxHeartbeats 4000000 in
theorem vc_Mo_byMeans_8_0 (x4 : Int) (x6 : Int) (x8 : Int) (itemLayer_0 : Int → Int) (items_0 : Int) (layerMany_0 : Int) (layerSize_0 : Int → Int) (layerItem_0 : Int → Int) (row_0 : Int → Int) (k4 : 0 ≤ x4 ∧ x4 ≤ 75) (k6 : 0 ≤ x6 ∧ x6 ≤ 79) (k8 : 0 ≤ x8 ∧ x8 ≤ 0) (f2 : LSB (items_0) (layerMany_0) (itemLayer_0) (layerSize_0) (layerItem_0)) (f3 : x6 = layerSize_0 (x4)) (f4 : (0 ≤ x4) ∧ ((x4 + 1) ≤ layerMany_0)) (f6 : BMR (items_0) (itemLayer_0) (row_0) (x6) (x4)) (kz_0_100 : 0 ≤ items_0 ∧ items_0 ≤ 76) (kz_0_101 : 0 ≤ layerMany_0 ∧ layerMany_0 ≤ 76) : BMW (items_0) (layerMany_0) (itemLayer_0) (layerSize_0) (layerItem_0) (row_0) (x6) (x4) (x8) := by
  first
    | exact bmw_start ‹LSB _ _ _ _ _› ‹BMR _ _ _ _ _› (by omega) (by omega) (by omega) (by omega)
    | exact bmw_step ‹BMW _ _ _ _ _ _ _ _ _› (by assumption) (by assumption) (by omega) (by assumption)
set_option maxHeartbeats 4000000 in
theorem vc_Mo_byMeans_8_1 (x4 : Int) (x6 : Int) (x7 : Int) (x8 : Int) (layerSize_0 : Int → Int) (k4 : 0 ≤ x4 ∧ x4 ≤ 75) (k6 : 0 ≤ x6 ∧ x6 ≤ 79) (k8 : 0 ≤ x8 ∧ x8 ≤ 0) (f3 : x6 = layerSize_0 (x4)) (f5 : x6 ≤ 72) : x8 ≤ x6 := by
  first
    | omega
    | exact lsa_la (p := x11) ‹LSA _ _ _ _ _ _ _ _ _ _› (by omega) (by omega) (by assumption)
    | exact lsa_lb (p := x11) ‹LSA _ _ _ _ _ _ _ _ _ _› (by omega) (by omega) (by assumption)
    | (have h := lsb_sz (l := x1) (n := x4) ‹LSB _ _ _ _ _› (by omega) (by omega) (by assumption); omega)
    | (rw [← (by omega : x11 = 76 * x4 + x7)]; assumption)
def o_Mo_byMeans_8 : or_T := (356, 9, [(0, (2, 0, 0, [165])), (4, (0, 0, 75, [])), (6, (0, 0, 79, [])), (8, (0, 0, 0, []))], [(20, [3], [60, 2, 3, 448, 100, 101, 102, 105, 106]), (20, [6, 3, 4], [50, 0, 1, 1105, 1, 2, 1, 0, 3, 1, 105, 1, 2]), (20, [4, 3], [50, 1, 0, 1101, 2, 6, 0, 2, 0, 0, 1, 0, 0, 6, 4, 2, 1, 0, 0, 1, 2, 1, 101]), (20, [6], [50, 0, 0, 0, 2, 1, 0, 0, 72]), (20, [3, 6, 4], [60, 1, 2, 452, 100, 102, 117]), (24, [0, 3], [])], [], [], [(20, [3, 6, 4, 8], [60, 2, 4, 453, 100, 101, 102, 105, 106, 117]), (20, [8, 6], [50, 0, 0, 0, 2, 1, 0, 1, 1])], [], [])
theorem oo_Mo_byMeans_8 {kA : Nat → ClassId} : or_ok PRD kA GG o_Mo_byMeans_8 := by
  refine or_mk fun A ta ws vs hD hth hl => ?_
  intro t0 r0 t4 k4 t6 k6 t8 k8 f2 f3 f4 f5 f6 f7
  replace f2 := shm_675 f2
  replace f3 := shm_724 f3
  replace f4 := shm_721 f4
  replace f5 := shm_966 f5
  replace f6 := shm_968 f6
  replace f7 := shm_5 f7
  have q3 : n_v vs 3 = n_v vs 0 := f7.symm
  simp only [q3] at f2 f3 f4 f6
  have kz_0_100 := fdq_162 hD hth r0
  have kz_0_101 := fdq_125 hD hth r0
  have nf0 : fc_1 PRD (20, [3, 6, 4, 8], [60, 2, 4, 453, 100, 101, 102, 105, 106, 117]) ws (vs) := by
    refine ⟨nf_in hl rfl, sgq_726 ?_⟩
    · show BMW (w_fi ws (n_v vs 3) 100) (w_fi ws (n_v vs 3) 101) (w_ei ws (w_ar ws (n_v vs 3) 102)) (w_ei ws (w_ar ws (n_v vs 3) 105)) (w_ei ws (w_ar ws (n_v vs 3) 106)) (w_ei ws (w_ar ws (n_v vs 3) 117)) (v_iv (n_v vs 6)) (v_iv (n_v vs 4)) (v_iv (n_v vs 8))
      rw [q3]
      exact vc_Mo_byMeans_8_0 (v_iv (n_v vs 4)) (v_iv (n_v vs 6)) (v_iv (n_v vs 8)) (w_ei ws (w_ar ws (n_v vs 0) 102)) (w_fi ws (n_v vs 0) 100) (w_fi ws (n_v vs 0) 101) (w_ei ws (w_ar ws (n_v vs 0) 105)) (w_ei ws (w_ar ws (n_v vs 0) 106)) (w_ei ws (w_ar ws (n_v vs 0) 117)) k4 k6 k8 f2 f3 f4 f6 kz_0_100 kz_0_101
  have nf1 : fc_1 PRD (20, [8, 6], [50, 0, 0, 0, 2, 1, 0, 1, 1]) ws (vs) := ⟨nf_in hl rfl, sgq_360 (vc_Mo_byMeans_8_1 (v_iv (n_v vs 4)) (v_iv (n_v vs 6)) (v_iv (n_v vs 7)) (v_iv (n_v vs 8)) (w_ei ws (w_ar ws (n_v vs 0) 105)) k4 k6 k8 f3 f5)⟩
  refine ⟨(fun _ h => (by cases h)), [], trivial, ?_, (fun _ h => (by cases h))⟩
  rw [List.append_nil]
  exact List.forall_mem_cons.mpr ⟨⟨show (20 : Nat) < 100 from by decide, nf0⟩, List.forall_mem_cons.mpr ⟨⟨show (20 : Nat) < 100 from by decide, nf1⟩, (fun _ h => (by cases h))⟩⟩
set_option maxHeartbeats 4000000 in
theorem vc_Mo_byMeans_9_0 (x4 : Int) (x7 : Int) (k7 : 1 ≤ x7 ∧ x7 ≤ 78) : x7 ≤ x7 := by
  first
    | omega
    | exact lsa_la (p := x11) ‹LSA _ _ _ _ _ _ _ _ _ _› (by omega) (by omega) (by assumption)
    | exact lsa_lb (p := x11) ‹LSA _ _ _ _ _ _ _ _ _ _› (by omega) (by omega) (by assumption)
    | (have h := lsb_sz (l := x1) (n := x4) ‹LSB _ _ _ _ _› (by omega) (by omega) (by assumption); omega)
    | (rw [← (by omega : x11 = 76 * x4 + x7)]; assumption)
set_option maxHeartbeats 4000000 in
theorem vc_Mo_byMeans_9_1 (x4 : Int) (x6 : Int) (x7 : Int) (layerSize_0 : Int → Int) (k4 : 0 ≤ x4 ∧ x4 ≤ 75) (k6 : 2 ≤ x6 ∧ x6 ≤ 79) (k7 : 1 ≤ x7 ∧ x7 ≤ 78) (d0 : x6 + (-4294967296) ≤ x7 ∧ x7 ≤ x6 + (-1)) (f3 : x6 = layerSize_0 (x4)) : (x7 + 1) ≤ x6 := by
  first
    | omega
    | exact lsa_la (p := x11) ‹LSA _ _ _ _ _ _ _ _ _ _› (by omega) (by omega) (by assumption)
    | exact lsa_lb (p := x11) ‹LSA _ _ _ _ _ _ _ _ _ _› (by omega) (by omega) (by assumption)
    | (have h := lsb_sz (l := x1) (n := x4) ‹LSB _ _ _ _ _› (by omega) (by omega) (by assumption); omega)
    | (rw [← (by omega : x11 = 76 * x4 + x7)]; assumption)
set_option maxHeartbeats 4000000 in
theorem vc_Mo_byMeans_9_2 (x4 : Int) (x7 : Int) (k7 : 1 ≤ x7 ∧ x7 ≤ 78) : 0 ≤ x7 := by
  first
    | omega
    | exact lsa_la (p := x11) ‹LSA _ _ _ _ _ _ _ _ _ _› (by omega) (by omega) (by assumption)
    | exact lsa_lb (p := x11) ‹LSA _ _ _ _ _ _ _ _ _ _› (by omega) (by omega) (by assumption)
    | (have h := lsb_sz (l := x1) (n := x4) ‹LSB _ _ _ _ _› (by omega) (by omega) (by assumption); omega)
    | (rw [← (by omega : x11 = 76 * x4 + x7)]; assumption)
def o_Mo_byMeans_9 : or_T := (190, 8, [(4, (0, 0, 75, [])), (6, (0, 2, 79, [])), (7, (0, 1, 78, []))], [(20, [6, 3, 4], [50, 0, 1, 1105, 1, 2, 1, 0, 3, 1, 105, 1, 2]), (24, [0, 3], [])], [], [], [(20, [7, 7], [50, 0, 0, 0, 2, 1, 0, 1, 1]), (20, [7, 6], [50, 0, 0, 0, 6, 4, 2, 1, 0, 0, 1, 1, 1]), (20, [7], [50, 0, 0, 0, 2, 0, 0, 1, 0])], [], [(7, 6, -4294967296, -1)])
theorem oo_Mo_byMeans_9 {kA : Nat → ClassId} : or_ok PRD kA GG o_Mo_byMeans_9 := by
  refine or_mk fun A ta ws vs hD hth hl => ?_
  intro t4 k4 t6 k6 t7 k7 d0 f3 f7
  replace f3 := shm_724 f3
  replace f7 := shm_5 f7
  have q3 : n_v vs 3 = n_v vs 0 := f7.symm
  simp only [q3] at f3
  have nf0 : fc_1 PRD (20, [7, 7], [50, 0, 0, 0, 2, 1, 0, 1, 1]) ws (vs) := ⟨nf_in hl rfl, sgq_972 (vc_Mo_byMeans_9_0 (v_iv (n_v vs 4)) (v_iv (n_v vs 7)) k7)⟩
  have nf1 : fc_1 PRD (20, [7, 6], [50, 0, 0, 0, 6, 4, 2, 1, 0, 0, 1, 1, 1]) ws (vs) := ⟨nf_in hl rfl, sgq_396 (vc_Mo_byMeans_9_1 (v_iv (n_v vs 4)) (v_iv (n_v vs 6)) (v_iv (n_v vs 7)) (w_ei ws (w_ar ws (n_v vs 0) 105)) k4 k6 k7 d0 f3)⟩
  have nf2 : fc_1 PRD (20, [7], [50, 0, 0, 0, 2, 0, 0, 1, 0]) ws (vs) := ⟨nf_in hl rfl, sgq_722 (vc_Mo_byMeans_9_2 (v_iv (n_v vs 4)) (v_iv (n_v vs 7)) k7)⟩
  refine ⟨(fun _ h => (by cases h)), [], trivial, ?_, (fun _ h => (by cases h))⟩
  rw [List.append_nil]
  exact List.forall_mem_cons.mpr ⟨⟨show (20 : Nat) < 100 from by decide, nf0⟩, List.forall_mem_cons.mpr ⟨⟨show (20 : Nat) < 100 from by decide, nf1⟩, List.forall_mem_cons.mpr ⟨⟨show (20 : Nat) < 100 from by decide, nf2⟩, (fun _ h => (by cases h))⟩⟩⟩
set_option maxHeartbeats 4000000 in
theorem vc_Mo_byMeans_10_r0 (x4 : Int) (x6 : Int) (x7 : Int) (x8 : Int) (x11 : Int) (layerSize_0 : Int → Int) (k4 : 0 ≤ x4 ∧ x4 ≤ 75) (k6 : 2 ≤ x6 ∧ x6 ≤ 79) (k8 : 1 ≤ x8 ∧ x8 ≤ 78) (k11 : 0 ≤ x11 ∧ x11 ≤ 77) (d0 : x8 + (-1) ≤ x11 ∧ x11 ≤ x8 + (-1)) (d1 : x6 + (-4294967296) ≤ x11 ∧ x11 ≤ x6 + (-2)) (f4 : x6 = layerSize_0 (x4)) (f6 : x6 ≤ 72) : 0 ≤ x11 ∧ x11 ≤ 75 := by
  first
    | omega
    | exact lsa_la (p := x11) ‹LSA _ _ _ _ _ _ _ _ _ _› (by omega) (by omega) (by assumption)
    | exact lsa_lb (p := x11) ‹LSA _ _ _ _ _ _ _ _ _ _› (by omega) (by omega) (by assumption)
    | (have h := lsb_sz (l := x1) (n := x4) ‹LSB _ _ _ _ _› (by omega) (by omega) (by assumption); omega)
    | (rw [← (by omega : x11 = 76 * x4 + x7)]; assumption)
def o_Mo_byMeans_10 : or_T := (203, 12, [(0, (2, 0, 0, [165])), (3, (2, 0, 0, [165])), (4, (0, 0, 75, [])), (6, (0, 2, 79, [])), (7, (0, 1, 79, [])), (8, (0, 1, 78, [])), (10, (0, 1, 1, [])), (11, (0, 0, 77, []))], [(2, [11, 8, 10], []), (8, [8], [4]), (20, [3], [60, 4, 6, 445, 5, 100, 101, 107, 2, 95, 102, 104, 108, 109]), (20, [3], [60, 2, 3, 448, 100, 101, 102, 105, 106]), (20, [6, 3, 4], [50, 0, 1, 1105, 1, 2, 1, 0, 3, 1, 105, 1, 2]), (20, [4, 3], [50, 1, 0, 1101, 2, 6, 0, 2, 0, 0, 1, 0, 0, 6, 4, 2, 1, 0, 0, 1, 2, 1, 101]), (20, [6], [50, 0, 0, 0, 2, 1, 0, 0, 72]), (20, [3, 6, 4], [60, 1, 2, 452, 100, 102, 117]), (20, [8, 7], [50, 0, 0, 0, 2, 1, 0, 1, 1]), (20, [7, 6], [50, 0, 0, 0, 6, 4, 2, 1, 0, 0, 1, 1, 1]), (20, [8], [50, 0, 0, 0, 2, 0, 0, 1, 0]), (24, [0, 3], [])], [(11, (0, 0, 75, []))], [], [], [], [(11, 8, -1, -1), (11, 6, -4294967296, -2), (11, 7, -4294967296, -1), (7, 6, -4294967296, -1), (8, 6, -4294967296, -1), (8, 7, -4294967296, 0)])
theorem oo_Mo_byMeans_10 {kA : Nat → ClassId} : or_ok PRD kA GG o_Mo_byMeans_10 := by
  refine or_mk fun A ta ws vs hD hth hl => ?_
  intro t0 r0 t3 r3 t4 k4 t6 k6 t7 k7 t8 k8 t10 k10 t11 k11 d0 d1 d2 d3 d4 d5 f0 f1 f2 f3 f4 f5 f6 f7 f8 f9 f10 f11
  replace f4 := shm_724 f4
  replace f11 := shm_5 f11
  have q3 : n_v vs 3 = n_v vs 0 := f11.symm
  simp only [q3] at f4
  have hrf0 : 0 ≤ v_iv (n_v vs 11) ∧ v_iv (n_v vs 11) ≤ 75 := vc_Mo_byMeans_10_r0 (v_iv (n_v vs 4)) (v_iv (n_v vs 6)) (v_iv (n_v vs 7)) (v_iv (n_v vs 8)) (v_iv (n_v vs 11)) (w_ei ws (w_ar ws (n_v vs 0) 105)) k4 k6 k8 k11 d0 d1 f4 (shm_966 f6)
  have rf11 : tv_ok ta (0, 0, 75, []) (n_v vs 11) := tv_in t11 (by first | omega | grind) (by first | omega | grind)
  refine ⟨List.forall_mem_cons.mpr ⟨rf11, (fun _ h => (by cases h))⟩, [], trivial, ?_, (fun _ h => (by cases h))⟩
  rw [List.append_nil]
  exact (fun _ h => (by cases h))
set_option maxHeartbeats 4000000 in
theorem vc_Mo_byMeans_11_r0 (x4 : Int) (x6 : Int) (x7 : Int) (x8 : Int) (x11 : Int) (layerSize_0 : Int → Int) (k4 : 0 ≤ x4 ∧ x4 ≤ 75) (k6 : 2 ≤ x6 ∧ x6 ≤ 79) (k8 : 1 ≤ x8 ∧ x8 ≤ 78) (k11 : 0 ≤ x11 ∧ x11 ≤ 75) (d0 : x8 + (-1) ≤ x11 ∧ x11 ≤ x8 + (-1)) (d1 : x6 + (-4294967296) ≤ x11 ∧ x11 ≤ x6 + (-2)) (f4 : x6 = layerSize_0 (x4)) (f6 : x6 ≤ 72) : 1 ≤ x8 ∧ x8 ≤ 75 := by
  first
    | omega
    | exact lsa_la (p := x11) ‹LSA _ _ _ _ _ _ _ _ _ _› (by omega) (by omega) (by assumption)
    | exact lsa_lb (p := x11) ‹LSA _ _ _ _ _ _ _ _ _ _› (by omega) (by omega) (by assumption)
    | (have h := lsb_sz (l := x1) (n := x4) ‹LSB _ _ _ _ _› (by omega) (by omega) (by assumption); omega)
    | (rw [← (by omega : x11 = 76 * x4 + x7)]; assumption)
def o_Mo_byMeans_11 : or_T := (210, 14, [(0, (2, 0, 0, [165])), (3, (2, 0, 0, [165])), (4, (0, 0, 75, [])), (6, (0, 2, 79, [])), (7, (0, 1, 79, [])), (8, (0, 1, 78, [])), (10, (0, 1, 1, [])), (11, (0, 0, 75, []))], [(2, [11, 8, 10], []), (8, [8], [4]), (20, [3], [60, 4, 6, 445, 5, 100, 101, 107, 2, 95, 102, 104, 108, 109]), (20, [3], [60, 2, 3, 448, 100, 101, 102, 105, 106]), (20, [6, 3, 4], [50, 0, 1, 1105, 1, 2, 1, 0, 3, 1, 105, 1, 2]), (20, [4, 3], [50, 1, 0, 1101, 2, 6, 0, 2, 0, 0, 1, 0, 0, 6, 4, 2, 1, 0, 0, 1, 2, 1, 101]), (20, [6], [50, 0, 0, 0, 2, 1, 0, 0, 72]), (20, [3, 6, 4], [60, 1, 2, 452, 100, 102, 117]), (20, [8, 7], [50, 0, 0, 0, 2, 1, 0, 1, 1]), (20, [7, 6], [50, 0, 0, 0, 6, 4, 2, 1, 0, 0, 1, 1, 1]), (20, [8], [50, 0, 0, 0, 2, 0, 0, 1, 0]), (24, [0, 3], [])], [(8, (0, 1, 75, []))], [], [], [], [(11, 8, -1, -1), (11, 6, -4294967296, -2), (11, 7, -4294967296, -1), (7, 6, -4294967296, -1), (8, 6, -4294967296, -1), (8, 7, -4294967296, 0)])
theorem oo_Mo_byMeans_11 {kA : Nat → ClassId} : or_ok PRD kA GG o_Mo_byMeans_11 := by
  refine or_mk fun A ta ws vs hD hth hl => ?_
  intro t0 r0 t3 r3 t4 k4 t6 k6 t7 k7 t8 k8 t10 k10 t11 k11 d0 d1 d2 d3 d4 d5 f0 f1 f2 f3 f4 f5 f6 f7 f8 f9 f10 f11
  replace f4 := shm_724 f4
  replace f11 := shm_5 f11
  have q3 : n_v vs 3 = n_v vs 0 := f11.symm
  simp only [q3] at f4
  have hrf0 : 1 ≤ v_iv (n_v vs 8) ∧ v_iv (n_v vs 8) ≤ 75 := vc_Mo_byMeans_11_r0 (v_iv (n_v vs 4)) (v_iv (n_v vs 6)) (v_iv (n_v vs 7)) (v_iv (n_v vs 8)) (v_iv (n_v vs 11)) (w_ei ws (w_ar ws (n_v vs 0) 105)) k4 k6 k8 k11 d0 d1 f4 (shm_966 f6)
  have rf8 : tv_ok ta (0, 1, 75, []) (n_v vs 8) := tv_in t8 (by first | omega | grind) (by first | omega | grind)
  refine ⟨List.forall_mem_cons.mpr ⟨rf8, (fun _ h => (by cases h))⟩, [], trivial, ?_, (fun _ h => (by cases h))⟩
  rw [List.append_nil]
  exact (fun _ h => (by cases h))
set_option maxHeartbeats 4000000 in
theorem vc_Mo_byMeans_12_0 (x4 : Int) (x7 : Int) (x8 : Int) (x11 : Int) (x18 : Int) (x32 : Int) (all_0 : Int → Int) (turned_0 : Int → Int) (itemLayer_0 : Int → Int) (firstJoint_0 : Int → Int) (lineA_0 : Int → Int) (lineB_0 : Int → Int) (r_0 : Int) (items_0 : Int) (layerMany_0 : Int) (lines_0 : Int) (layerSize_0 : Int → Int) (layerItem_0 : Int → Int) (row_0 : Int → Int) (all_1 : Int → Int) (turned_1 : Int → Int) (itemLayer_1 : Int → Int) (firstJoint_1 : Int → Int) (lineA_1 : Int → Int) (lineB_1 : Int → Int) (r_1 : Int) (items_1 : Int) (layerMany_1 : Int) (lines_1 : Int) (layerSize_1 : Int → Int) (layerItem_1 : Int → Int) (row_1 : Int → Int) (all_2 : Int → Int) (turned_2 : Int → Int) (itemLayer_2 : Int → Int) (firstJoint_2 : Int → Int) (lineA_2 : Int → Int) (lineB_2 : Int → Int) (r_2 : Int) (items_2 : Int) (layerMany_2 : Int) (lines_2 : Int) (layerSize_2 : Int → Int) (layerItem_2 : Int → Int) (row_2 : Int → Int) (all_3 : Int → Int) (turned_3 : Int → Int) (itemLayer_3 : Int → Int) (firstJoint_3 : Int → Int) (lineA_3 : Int → Int) (lineB_3 : Int → Int) (r_3 : Int) (items_3 : Int) (layerMany_3 : Int) (lines_3 : Int) (layerSize_3 : Int → Int) (layerItem_3 : Int → Int) (row_3 : Int → Int) (all_4 : Int → Int) (turned_4 : Int → Int) (itemLayer_4 : Int → Int) (firstJoint_4 : Int → Int) (lineA_4 : Int → Int) (lineB_4 : Int → Int) (r_4 : Int) (items_4 : Int) (layerMany_4 : Int) (lines_4 : Int) (layerSize_4 : Int → Int) (layerItem_4 : Int → Int) (row_4 : Int → Int) (meanA_0 : Int → Int) (meanA_1 : Int → Int) (meanA_2 : Int → Int) (meanB_2 : Int → Int) (meanB_3 : Int → Int) (meanB_4 : Int → Int) (k8 : 1 ≤ x8 ∧ x8 ≤ 75) (k18 : 0 ≤ x18 ∧ x18 ≤ 74) (k32 : 0 ≤ x32 ∧ x32 ≤ 74) (d0 : x8 + (-1) ≤ x32 ∧ x32 ≤ x8 + (-1)) (d12 : x8 + (-1) ≤ x18 ∧ x18 ≤ x8 + (-1)) (fe_0_5_1 : r_0 = r_1) (fe_0_100_1 : items_0 = items_1) (fe_0_101_1 : layerMany_0 = layerMany_1) (fe_0_107_1 : lines_0 = lines_1) (fe_0_5_2 : r_1 = r_2) (fe_0_100_2 : items_1 = items_2) (fe_0_101_2 : layerMany_1 = layerMany_2) (fe_0_107_2 : lines_1 = lines_2) (fe_0_5_3 : r_2 = r_3) (fe_0_100_3 : items_2 = items_3) (fe_0_101_3 : layerMany_2 = layerMany_3) (fe_0_107_3 : lines_2 = lines_3) (fe_0_5_4 : r_3 = r_4) (fe_0_100_4 : items_3 = items_4) (fe_0_101_4 : layerMany_3 = layerMany_4) (fe_0_107_4 : lines_3 = lines_4) (hE_0_2_1 : ∀ j : Int, all_0 j = all_1 j) (hE_0_2_2 : ∀ j : Int, all_1 j = all_2 j) (hE_0_2_3 : ∀ j : Int, all_2 j = all_3 j) (hE_0_2_4 : ∀ j : Int, all_3 j = all_4 j) (hE_0_95_1 : ∀ j : Int, turned_0 j = turned_1 j) (hE_0_95_2 : ∀ j : Int, turned_1 j = turned_2 j) (hE_0_95_3 : ∀ j : Int, turned_2 j = turned_3 j) (hE_0_95_4 : ∀ j : Int, turned_3 j = turned_4 j) (hE_0_102_1 : ∀ j : Int, itemLayer_0 j = itemLayer_1 j) (hE_0_102_2 : ∀ j : Int, itemLayer_1 j = itemLayer_2 j) (hE_0_102_3 : ∀ j : Int, itemLayer_2 j = itemLayer_3 j) (hE_0_102_4 : ∀ j : Int, itemLayer_3 j = itemLayer_4 j) (hE_0_104_1 : ∀ j : Int, firstJoint_0 j = firstJoint_1 j) (hE_0_104_2 : ∀ j : Int, firstJoint_1 j = firstJoint_2 j) (hE_0_104_3 : ∀ j : Int, firstJoint_2 j = firstJoint_3 j) (hE_0_104_4 : ∀ j : Int, firstJoint_3 j = firstJoint_4 j) (hE_0_105_1 : ∀ j : Int, layerSize_0 j = layerSize_1 j) (hE_0_105_2 : ∀ j : Int, layerSize_1 j = layerSize_2 j) (hE_0_105_3 : ∀ j : Int, layerSize_2 j = layerSize_3 j) (hE_0_105_4 : ∀ j : Int, layerSize_3 j = layerSize_4 j) (hE_0_106_1 : ∀ j : Int, layerItem_0 j = layerItem_1 j) (hE_0_106_2 : ∀ j : Int, layerItem_1 j = layerItem_2 j) (hE_0_106_3 : ∀ j : Int, layerItem_2 j = layerItem_3 j) (hE_0_106_4 : ∀ j : Int, layerItem_3 j = layerItem_4 j) (hE_0_108_1 : ∀ j : Int, lineA_0 j = lineA_1 j) (hE_0_108_2 : ∀ j : Int, lineA_1 j = lineA_2 j) (hE_0_108_3 : ∀ j : Int, lineA_2 j = lineA_3 j) (hE_0_108_4 : ∀ j : Int, lineA_3 j = lineA_4 j) (hE_0_109_1 : ∀ j : Int, lineB_0 j = lineB_1 j) (hE_0_109_2 : ∀ j : Int, lineB_1 j = lineB_2 j) (hE_0_109_3 : ∀ j : Int, lineB_2 j = lineB_3 j) (hE_0_109_4 : ∀ j : Int, lineB_3 j = lineB_4 j) (hE_0_117_1 : ∀ j : Int, row_0 j = row_1 j) (hE_0_117_2 : ∀ j : Int, row_1 j = row_2 j) (hE_0_117_3 : ∀ j : Int, row_2 j = row_3 j) (hE_0_117_4 : ∀ j : Int, row_3 j = row_4 j) (hE_0_119_1 : ∀ j : Int, meanA_0 j = meanA_1 j) (hE_0_119_2 : ∀ j : Int, meanA_1 j = meanA_2 j) (hE_0_120_3 : ∀ j : Int, meanB_2 j = meanB_3 j) (hE_0_120_4 : ∀ j : Int, meanB_3 j = meanB_4 j) (kz_0_100 : 0 ≤ items_0 ∧ items_0 ≤ 76) (kz_0_101 : 0 ≤ layerMany_0 ∧ layerMany_0 ≤ 76) (kz_0_107 : 0 ≤ lines_0 ∧ lines_0 ≤ 130) : 1 ≤ x8 := by
  subst fe_0_5_1
  subst fe_0_100_1
  subst fe_0_101_1
  subst fe_0_107_1
  subst fe_0_5_2
  subst fe_0_100_2
  subst fe_0_101_2
  subst fe_0_107_2
  subst fe_0_5_3
  subst fe_0_100_3
  subst fe_0_101_3
  subst fe_0_107_3
  subst fe_0_5_4
  subst fe_0_100_4
  subst fe_0_101_4
  subst fe_0_107_4
  have e_hE_0_2_1 := funext hE_0_2_1; subst e_hE_0_2_1
  have e_hE_0_2_2 := funext hE_0_2_2; subst e_hE_0_2_2
  have e_hE_0_2_3 := funext hE_0_2_3; subst e_hE_0_2_3
  have e_hE_0_2_4 := funext hE_0_2_4; subst e_hE_0_2_4
  have e_hE_0_95_1 := funext hE_0_95_1; subst e_hE_0_95_1
  have e_hE_0_95_2 := funext hE_0_95_2; subst e_hE_0_95_2
  have e_hE_0_95_3 := funext hE_0_95_3; subst e_hE_0_95_3
  have e_hE_0_95_4 := funext hE_0_95_4; subst e_hE_0_95_4
  have e_hE_0_102_1 := funext hE_0_102_1; subst e_hE_0_102_1
  have e_hE_0_102_2 := funext hE_0_102_2; subst e_hE_0_102_2
  have e_hE_0_102_3 := funext hE_0_102_3; subst e_hE_0_102_3
  have e_hE_0_102_4 := funext hE_0_102_4; subst e_hE_0_102_4
  have e_hE_0_104_1 := funext hE_0_104_1; subst e_hE_0_104_1
  have e_hE_0_104_2 := funext hE_0_104_2; subst e_hE_0_104_2
  have e_hE_0_104_3 := funext hE_0_104_3; subst e_hE_0_104_3
  have e_hE_0_104_4 := funext hE_0_104_4; subst e_hE_0_104_4
  have e_hE_0_105_1 := funext hE_0_105_1; subst e_hE_0_105_1
  have e_hE_0_105_2 := funext hE_0_105_2; subst e_hE_0_105_2
  have e_hE_0_105_3 := funext hE_0_105_3; subst e_hE_0_105_3
  have e_hE_0_105_4 := funext hE_0_105_4; subst e_hE_0_105_4
  have e_hE_0_106_1 := funext hE_0_106_1; subst e_hE_0_106_1
  have e_hE_0_106_2 := funext hE_0_106_2; subst e_hE_0_106_2
  have e_hE_0_106_3 := funext hE_0_106_3; subst e_hE_0_106_3
  have e_hE_0_106_4 := funext hE_0_106_4; subst e_hE_0_106_4
  have e_hE_0_108_1 := funext hE_0_108_1; subst e_hE_0_108_1
  have e_hE_0_108_2 := funext hE_0_108_2; subst e_hE_0_108_2
  have e_hE_0_108_3 := funext hE_0_108_3; subst e_hE_0_108_3
  have e_hE_0_108_4 := funext hE_0_108_4; subst e_hE_0_108_4
  have e_hE_0_109_1 := funext hE_0_109_1; subst e_hE_0_109_1
  have e_hE_0_109_2 := funext hE_0_109_2; subst e_hE_0_109_2
  have e_hE_0_109_3 := funext hE_0_109_3; subst e_hE_0_109_3
  have e_hE_0_109_4 := funext hE_0_109_4; subst e_hE_0_109_4
  have e_hE_0_117_1 := funext hE_0_117_1; subst e_hE_0_117_1
  have e_hE_0_117_2 := funext hE_0_117_2; subst e_hE_0_117_2
  have e_hE_0_117_3 := funext hE_0_117_3; subst e_hE_0_117_3
  have e_hE_0_117_4 := funext hE_0_117_4; subst e_hE_0_117_4
  have e_hE_0_119_1 := funext hE_0_119_1; subst e_hE_0_119_1
  have e_hE_0_119_2 := funext hE_0_119_2; subst e_hE_0_119_2
  have e_hE_0_120_3 := funext hE_0_120_3; subst e_hE_0_120_3
  have e_hE_0_120_4 := funext hE_0_120_4; subst e_hE_0_120_4
  first
    | omega
    | exact lsa_la (p := x11) ‹LSA _ _ _ _ _ _ _ _ _ _› (by omega) (by omega) (by assumption)
    | exact lsa_lb (p := x11) ‹LSA _ _ _ _ _ _ _ _ _ _› (by omega) (by omega) (by assumption)
    | (have h := lsb_sz (l := x1) (n := x4) ‹LSB _ _ _ _ _› (by omega) (by omega) (by assumption); omega)
    | (rw [← (by omega : x11 = 76 * x4 + x7)]; assumption)
def o_Mo_byMeans_12 : or_T := (305, 33, [(0, (2, 0, 0, [165])), (8, (0, 1, 75, [])), (9, (2, 0, 0, [251])), (13, (2, 0, 0, [252])), (18, (0, 0, 74, [])), (32, (0, 0, 74, []))], [(100, [13, 32, 27], []), (100, [13, 8, 30], []), (100, [9, 26, 21], []), (100, [9, 8, 24], [])], [], [], [(20, [8], [50, 0, 0, 0, 2, 0, 1, 1, 0])], [], [(32, 8, -1, -1), (18, 8, -1, -1)])
set_option maxRecDepth 100000 in
theorem oo_Mo_byMeans_12 {kA : Nat → ClassId} : or_ok PRD kA GG o_Mo_byMeans_12 := by
  refine or_mk fun A ta ws vs hD hth hl => ?_
  intro t0 r0 t8 k8 t9 r9 t13 r13 t18 k18 t32 k32 d0 d12 ta1 w1 le1 s1 ta2 w2 le2 s2 ta3 w3 le3 s3 ta4 w4 le4 s4
  have s1 : (∀ b j, w_el ws b j = if b = v_ad (n_v vs 13) ∧ j = (v_iv (n_v vs 32)).toNat then v_iv (n_v vs 27) else w_el w1 b j) ∧ ∀ b k, w_fd ws b k = w_fd w1 b k := s1.2
  have s2 : (∀ b j, w_el w1 b j = if b = v_ad (n_v vs 13) ∧ j = (v_iv (n_v vs 8)).toNat then v_iv (n_v vs 30) else w_el w2 b j) ∧ ∀ b k, w_fd w1 b k = w_fd w2 b k := s2.2
  have s3 : (∀ b j, w_el w2 b j = if b = v_ad (n_v vs 9) ∧ j = (v_iv (n_v vs 26)).toNat then v_iv (n_v vs 21) else w_el w3 b j) ∧ ∀ b k, w_fd w2 b k = w_fd w3 b k := s3.2
  have s4 : (∀ b j, w_el w3 b j = if b = v_ad (n_v vs 9) ∧ j = (v_iv (n_v vs 8)).toNat then v_iv (n_v vs 24) else w_el w4 b j) ∧ ∀ b k, w_fd w3 b k = w_fd w4 b k := s4.2
  have cr_0_2 := fdq_10 hD hth r0
  have cr_0_95 := fdq_130 hD hth r0
  have cr_0_102 := fdq_159 hD hth r0
  have cr_0_104 := fdq_170 hD hth r0
  have cr_0_105 := fdq_122 hD hth r0
  have cr_0_106 := fdq_123 hD hth r0
  have cr_0_108 := fdq_160 hD hth r0
  have cr_0_109 := fdq_161 hD hth r0
  have cr_0_117 := fdq_181 hD hth r0
  have cr_0_119 := fdq_234 hD hth r0
  have cr_0_120 := fdq_235 hD hth r0
  have fe_0_5_1 : w_fi ws (n_v vs 0) 5 = w_fi w1 (n_v vs 0) 5 := congrArg v_iv (s1.2 _ _)
  have fe_0_100_1 : w_fi ws (n_v vs 0) 100 = w_fi w1 (n_v vs 0) 100 := congrArg v_iv (s1.2 _ _)
  have fe_0_101_1 : w_fi ws (n_v vs 0) 101 = w_fi w1 (n_v vs 0) 101 := congrArg v_iv (s1.2 _ _)
  have fe_0_107_1 : w_fi ws (n_v vs 0) 107 = w_fi w1 (n_v vs 0) 107 := congrArg v_iv (s1.2 _ _)
  have fe_0_5_2 : w_fi w1 (n_v vs 0) 5 = w_fi w2 (n_v vs 0) 5 := congrArg v_iv (s2.2 _ _)
  have fe_0_100_2 : w_fi w1 (n_v vs 0) 100 = w_fi w2 (n_v vs 0) 100 := congrArg v_iv (s2.2 _ _)
  have fe_0_101_2 : w_fi w1 (n_v vs 0) 101 = w_fi w2 (n_v vs 0) 101 := congrArg v_iv (s2.2 _ _)
  have fe_0_107_2 : w_fi w1 (n_v vs 0) 107 = w_fi w2 (n_v vs 0) 107 := congrArg v_iv (s2.2 _ _)
  have fe_0_5_3 : w_fi w2 (n_v vs 0) 5 = w_fi w3 (n_v vs 0) 5 := congrArg v_iv (s3.2 _ _)
  have fe_0_100_3 : w_fi w2 (n_v vs 0) 100 = w_fi w3 (n_v vs 0) 100 := congrArg v_iv (s3.2 _ _)
  have fe_0_101_3 : w_fi w2 (n_v vs 0) 101 = w_fi w3 (n_v vs 0) 101 := congrArg v_iv (s3.2 _ _)
  have fe_0_107_3 : w_fi w2 (n_v vs 0) 107 = w_fi w3 (n_v vs 0) 107 := congrArg v_iv (s3.2 _ _)
  have fe_0_5_4 : w_fi w3 (n_v vs 0) 5 = w_fi w4 (n_v vs 0) 5 := congrArg v_iv (s4.2 _ _)
  have fe_0_100_4 : w_fi w3 (n_v vs 0) 100 = w_fi w4 (n_v vs 0) 100 := congrArg v_iv (s4.2 _ _)
  have fe_0_101_4 : w_fi w3 (n_v vs 0) 101 = w_fi w4 (n_v vs 0) 101 := congrArg v_iv (s4.2 _ _)
  have fe_0_107_4 : w_fi w3 (n_v vs 0) 107 = w_fi w4 (n_v vs 0) 107 := congrArg v_iv (s4.2 _ _)
  have hE_0_2_1 : ∀ j : Int, w_ei ws (w_ar ws (n_v vs 0) 2) j = w_ei w1 (w_ar ws (n_v vs 0) 2) j := el_kp s1.1 r13 cr_0_2 (by decide)
  have hE_0_2_2 : ∀ j : Int, w_ei w1 (w_ar ws (n_v vs 0) 2) j = w_ei w2 (w_ar ws (n_v vs 0) 2) j := el_kp s2.1 r13 cr_0_2 (by decide)
  have hE_0_2_3 : ∀ j : Int, w_ei w2 (w_ar ws (n_v vs 0) 2) j = w_ei w3 (w_ar ws (n_v vs 0) 2) j := el_kp s3.1 r9 cr_0_2 (by decide)
  have hE_0_2_4 : ∀ j : Int, w_ei w3 (w_ar ws (n_v vs 0) 2) j = w_ei w4 (w_ar ws (n_v vs 0) 2) j := el_kp s4.1 r9 cr_0_2 (by decide)
  have hE_0_95_1 : ∀ j : Int, w_ei ws (w_ar ws (n_v vs 0) 95) j = w_ei w1 (w_ar ws (n_v vs 0) 95) j := el_kp s1.1 r13 cr_0_95 (by decide)
  have hE_0_95_2 : ∀ j : Int, w_ei w1 (w_ar ws (n_v vs 0) 95) j = w_ei w2 (w_ar ws (n_v vs 0) 95) j := el_kp s2.1 r13 cr_0_95 (by decide)
  have hE_0_95_3 : ∀ j : Int, w_ei w2 (w_ar ws (n_v vs 0) 95) j = w_ei w3 (w_ar ws (n_v vs 0) 95) j := el_kp s3.1 r9 cr_0_95 (by decide)
  have hE_0_95_4 : ∀ j : Int, w_ei w3 (w_ar ws (n_v vs 0) 95) j = w_ei w4 (w_ar ws (n_v vs 0) 95) j := el_kp s4.1 r9 cr_0_95 (by decide)
  have hE_0_102_1 : ∀ j : Int, w_ei ws (w_ar ws (n_v vs 0) 102) j = w_ei w1 (w_ar ws (n_v vs 0) 102) j := el_kp s1.1 r13 cr_0_102 (by decide)
  have hE_0_102_2 : ∀ j : Int, w_ei w1 (w_ar ws (n_v vs 0) 102) j = w_ei w2 (w_ar ws (n_v vs 0) 102) j := el_kp s2.1 r13 cr_0_102 (by decide)
  have hE_0_102_3 : ∀ j : Int, w_ei w2 (w_ar ws (n_v vs 0) 102) j = w_ei w3 (w_ar ws (n_v vs 0) 102) j := el_kp s3.1 r9 cr_0_102 (by decide)
  have hE_0_102_4 : ∀ j : Int, w_ei w3 (w_ar ws (n_v vs 0) 102) j = w_ei w4 (w_ar ws (n_v vs 0) 102) j := el_kp s4.1 r9 cr_0_102 (by decide)
  have hE_0_104_1 : ∀ j : Int, w_ei ws (w_ar ws (n_v vs 0) 104) j = w_ei w1 (w_ar ws (n_v vs 0) 104) j := el_kp s1.1 r13 cr_0_104 (by decide)
  have hE_0_104_2 : ∀ j : Int, w_ei w1 (w_ar ws (n_v vs 0) 104) j = w_ei w2 (w_ar ws (n_v vs 0) 104) j := el_kp s2.1 r13 cr_0_104 (by decide)
  have hE_0_104_3 : ∀ j : Int, w_ei w2 (w_ar ws (n_v vs 0) 104) j = w_ei w3 (w_ar ws (n_v vs 0) 104) j := el_kp s3.1 r9 cr_0_104 (by decide)
  have hE_0_104_4 : ∀ j : Int, w_ei w3 (w_ar ws (n_v vs 0) 104) j = w_ei w4 (w_ar ws (n_v vs 0) 104) j := el_kp s4.1 r9 cr_0_104 (by decide)
  have hE_0_105_1 : ∀ j : Int, w_ei ws (w_ar ws (n_v vs 0) 105) j = w_ei w1 (w_ar ws (n_v vs 0) 105) j := el_kp s1.1 r13 cr_0_105 (by decide)
  have hE_0_105_2 : ∀ j : Int, w_ei w1 (w_ar ws (n_v vs 0) 105) j = w_ei w2 (w_ar ws (n_v vs 0) 105) j := el_kp s2.1 r13 cr_0_105 (by decide)
  have hE_0_105_3 : ∀ j : Int, w_ei w2 (w_ar ws (n_v vs 0) 105) j = w_ei w3 (w_ar ws (n_v vs 0) 105) j := el_kp s3.1 r9 cr_0_105 (by decide)
  have hE_0_105_4 : ∀ j : Int, w_ei w3 (w_ar ws (n_v vs 0) 105) j = w_ei w4 (w_ar ws (n_v vs 0) 105) j := el_kp s4.1 r9 cr_0_105 (by decide)
  have hE_0_106_1 : ∀ j : Int, w_ei ws (w_ar ws (n_v vs 0) 106) j = w_ei w1 (w_ar ws (n_v vs 0) 106) j := el_kp s1.1 r13 cr_0_106 (by decide)
  have hE_0_106_2 : ∀ j : Int, w_ei w1 (w_ar ws (n_v vs 0) 106) j = w_ei w2 (w_ar ws (n_v vs 0) 106) j := el_kp s2.1 r13 cr_0_106 (by decide)
  have hE_0_106_3 : ∀ j : Int, w_ei w2 (w_ar ws (n_v vs 0) 106) j = w_ei w3 (w_ar ws (n_v vs 0) 106) j := el_kp s3.1 r9 cr_0_106 (by decide)
  have hE_0_106_4 : ∀ j : Int, w_ei w3 (w_ar ws (n_v vs 0) 106) j = w_ei w4 (w_ar ws (n_v vs 0) 106) j := el_kp s4.1 r9 cr_0_106 (by decide)
  have hE_0_108_1 : ∀ j : Int, w_ei ws (w_ar ws (n_v vs 0) 108) j = w_ei w1 (w_ar ws (n_v vs 0) 108) j := el_kp s1.1 r13 cr_0_108 (by decide)
  have hE_0_108_2 : ∀ j : Int, w_ei w1 (w_ar ws (n_v vs 0) 108) j = w_ei w2 (w_ar ws (n_v vs 0) 108) j := el_kp s2.1 r13 cr_0_108 (by decide)
  have hE_0_108_3 : ∀ j : Int, w_ei w2 (w_ar ws (n_v vs 0) 108) j = w_ei w3 (w_ar ws (n_v vs 0) 108) j := el_kp s3.1 r9 cr_0_108 (by decide)
  have hE_0_108_4 : ∀ j : Int, w_ei w3 (w_ar ws (n_v vs 0) 108) j = w_ei w4 (w_ar ws (n_v vs 0) 108) j := el_kp s4.1 r9 cr_0_108 (by decide)
  have hE_0_109_1 : ∀ j : Int, w_ei ws (w_ar ws (n_v vs 0) 109) j = w_ei w1 (w_ar ws (n_v vs 0) 109) j := el_kp s1.1 r13 cr_0_109 (by decide)
  have hE_0_109_2 : ∀ j : Int, w_ei w1 (w_ar ws (n_v vs 0) 109) j = w_ei w2 (w_ar ws (n_v vs 0) 109) j := el_kp s2.1 r13 cr_0_109 (by decide)
  have hE_0_109_3 : ∀ j : Int, w_ei w2 (w_ar ws (n_v vs 0) 109) j = w_ei w3 (w_ar ws (n_v vs 0) 109) j := el_kp s3.1 r9 cr_0_109 (by decide)
  have hE_0_109_4 : ∀ j : Int, w_ei w3 (w_ar ws (n_v vs 0) 109) j = w_ei w4 (w_ar ws (n_v vs 0) 109) j := el_kp s4.1 r9 cr_0_109 (by decide)
  have hE_0_117_1 : ∀ j : Int, w_ei ws (w_ar ws (n_v vs 0) 117) j = w_ei w1 (w_ar ws (n_v vs 0) 117) j := el_kp s1.1 r13 cr_0_117 (by decide)
  have hE_0_117_2 : ∀ j : Int, w_ei w1 (w_ar ws (n_v vs 0) 117) j = w_ei w2 (w_ar ws (n_v vs 0) 117) j := el_kp s2.1 r13 cr_0_117 (by decide)
  have hE_0_117_3 : ∀ j : Int, w_ei w2 (w_ar ws (n_v vs 0) 117) j = w_ei w3 (w_ar ws (n_v vs 0) 117) j := el_kp s3.1 r9 cr_0_117 (by decide)
  have hE_0_117_4 : ∀ j : Int, w_ei w3 (w_ar ws (n_v vs 0) 117) j = w_ei w4 (w_ar ws (n_v vs 0) 117) j := el_kp s4.1 r9 cr_0_117 (by decide)
  have hE_0_119_1 : ∀ j : Int, w_ei ws (w_ar ws (n_v vs 0) 119) j = w_ei w1 (w_ar ws (n_v vs 0) 119) j := el_kp s1.1 r13 cr_0_119 (by decide)
  have hE_0_119_2 : ∀ j : Int, w_ei w1 (w_ar ws (n_v vs 0) 119) j = w_ei w2 (w_ar ws (n_v vs 0) 119) j := el_kp s2.1 r13 cr_0_119 (by decide)
  have hE_0_120_3 : ∀ j : Int, w_ei w2 (w_ar ws (n_v vs 0) 120) j = w_ei w3 (w_ar ws (n_v vs 0) 120) j := el_kp s3.1 r9 cr_0_120 (by decide)
  have hE_0_120_4 : ∀ j : Int, w_ei w3 (w_ar ws (n_v vs 0) 120) j = w_ei w4 (w_ar ws (n_v vs 0) 120) j := el_kp s4.1 r9 cr_0_120 (by decide)
  have kz_0_100 := fdq_162 hD hth r0
  have kz_0_101 := fdq_125 hD hth r0
  have kz_0_107 := fdq_163 hD hth r0
  have nf0 : fc_1 PRD (20, [8], [50, 0, 0, 0, 2, 0, 1, 1, 0]) ws (vs) := ⟨nf_in hl rfl, sgq_710 (vc_Mo_byMeans_12_0 (v_iv (n_v vs 4)) (v_iv (n_v vs 7)) (v_iv (n_v vs 8)) (v_iv (n_v vs 11)) (v_iv (n_v vs 18)) (v_iv (n_v vs 32)) (w_ei ws (w_ar ws (n_v vs 0) 2)) (w_ei ws (w_ar ws (n_v vs 0) 95)) (w_ei ws (w_ar ws (n_v vs 0) 102)) (w_ei ws (w_ar ws (n_v vs 0) 104)) (w_ei ws (w_ar ws (n_v vs 0) 108)) (w_ei ws (w_ar ws (n_v vs 0) 109)) (w_fi ws (n_v vs 0) 5) (w_fi ws (n_v vs 0) 100) (w_fi ws (n_v vs 0) 101) (w_fi ws (n_v vs 0) 107) (w_ei ws (w_ar ws (n_v vs 0) 105)) (w_ei ws (w_ar ws (n_v vs 0) 106)) (w_ei ws (w_ar ws (n_v vs 0) 117)) (w_ei w1 (w_ar ws (n_v vs 0) 2)) (w_ei w1 (w_ar ws (n_v vs 0) 95)) (w_ei w1 (w_ar ws (n_v vs 0) 102)) (w_ei w1 (w_ar ws (n_v vs 0) 104)) (w_ei w1 (w_ar ws (n_v vs 0) 108)) (w_ei w1 (w_ar ws (n_v vs 0) 109)) (w_fi w1 (n_v vs 0) 5) (w_fi w1 (n_v vs 0) 100) (w_fi w1 (n_v vs 0) 101) (w_fi w1 (n_v vs 0) 107) (w_ei w1 (w_ar ws (n_v vs 0) 105)) (w_ei w1 (w_ar ws (n_v vs 0) 106)) (w_ei w1 (w_ar ws (n_v vs 0) 117)) (w_ei w2 (w_ar ws (n_v vs 0) 2)) (w_ei w2 (w_ar ws (n_v vs 0) 95)) (w_ei w2 (w_ar ws (n_v vs 0) 102)) (w_ei w2 (w_ar ws (n_v vs 0) 104)) (w_ei w2 (w_ar ws (n_v vs 0) 108)) (w_ei w2 (w_ar ws (n_v vs 0) 109)) (w_fi w2 (n_v vs 0) 5) (w_fi w2 (n_v vs 0) 100) (w_fi w2 (n_v vs 0) 101) (w_fi w2 (n_v vs 0) 107) (w_ei w2 (w_ar ws (n_v vs 0) 105)) (w_ei w2 (w_ar ws (n_v vs 0) 106)) (w_ei w2 (w_ar ws (n_v vs 0) 117)) (w_ei w3 (w_ar ws (n_v vs 0) 2)) (w_ei w3 (w_ar ws (n_v vs 0) 95)) (w_ei w3 (w_ar ws (n_v vs 0) 102)) (w_ei w3 (w_ar ws (n_v vs 0) 104)) (w_ei w3 (w_ar ws (n_v vs 0) 108)) (w_ei w3 (w_ar ws (n_v vs 0) 109)) (w_fi w3 (n_v vs 0) 5) (w_fi w3 (n_v vs 0) 100) (w_fi w3 (n_v vs 0) 101) (w_fi w3 (n_v vs 0) 107) (w_ei w3 (w_ar ws (n_v vs 0) 105)) (w_ei w3 (w_ar ws (n_v vs 0) 106)) (w_ei w3 (w_ar ws (n_v vs 0) 117)) (w_ei w4 (w_ar ws (n_v vs 0) 2)) (w_ei w4 (w_ar ws (n_v vs 0) 95)) (w_ei w4 (w_ar ws (n_v vs 0) 102)) (w_ei w4 (w_ar ws (n_v vs 0) 104)) (w_ei w4 (w_ar ws (n_v vs 0) 108)) (w_ei w4 (w_ar ws (n_v vs 0) 109)) (w_fi w4 (n_v vs 0) 5) (w_fi w4 (n_v vs 0) 100) (w_fi w4 (n_v vs 0) 101) (w_fi w4 (n_v vs 0) 107) (w_ei w4 (w_ar ws (n_v vs 0) 105)) (w_ei w4 (w_ar ws (n_v vs 0) 106)) (w_ei w4 (w_ar ws (n_v vs 0) 117)) (w_ei ws (w_ar ws (n_v vs 0) 119)) (w_ei w1 (w_ar ws (n_v vs 0) 119)) (w_ei w2 (w_ar ws (n_v vs 0) 119)) (w_ei w2 (w_ar ws (n_v vs 0) 120)) (w_ei w3 (w_ar ws (n_v vs 0) 120)) (w_ei w4 (w_ar ws (n_v vs 0) 120)) k8 k18 k32 d0 d12 fe_0_5_1 fe_0_100_1 fe_0_101_1 fe_0_107_1 fe_0_5_2 fe_0_100_2 fe_0_101_2 fe_0_107_2 fe_0_5_3 fe_0_100_3 fe_0_101_3 fe_0_107_3 fe_0_5_4 fe_0_100_4 fe_0_101_4 fe_0_107_4 hE_0_2_1 hE_0_2_2 hE_0_2_3 hE_0_2_4 hE_0_95_1 hE_0_95_2 hE_0_95_3 hE_0_95_4 hE_0_102_1 hE_0_102_2 hE_0_102_3 hE_0_102_4 hE_0_104_1 hE_0_104_2 hE_0_104_3 hE_0_104_4 hE_0_105_1 hE_0_105_2 hE_0_105_3 hE_0_105_4 hE_0_106_1 hE_0_106_2 hE_0_106_3 hE_0_106_4 hE_0_108_1 hE_0_108_2 hE_0_108_3 hE_0_108_4 hE_0_109_1 hE_0_109_2 hE_0_109_3 hE_0_109_4 hE_0_117_1 hE_0_117_2 hE_0_117_3 hE_0_117_4 hE_0_119_1 hE_0_119_2 hE_0_120_3 hE_0_120_4 kz_0_100 kz_0_101 kz_0_107)⟩
  refine ⟨(fun _ h => (by cases h)), [], trivial, ?_, (fun _ h => (by cases h))⟩
  rw [List.append_nil]
  exact List.forall_mem_cons.mpr ⟨⟨show (20 : Nat) < 100 from by decide, nf0⟩, (fun _ h => (by cases h))⟩
set_option maxHeartbeats 4000000 in
theorem vc_Mo_byMeans_13_0 (x4 : Int) (x6 : Int) (x8 : Int) (x11 : Int) (x13 : Int) (x14 : Int) (x16 : Int) (x17 : Int) (all_0 : Int → Int) (turned_0 : Int → Int) (itemLayer_0 : Int → Int) (firstJoint_0 : Int → Int) (lineA_0 : Int → Int) (lineB_0 : Int → Int) (r_0 : Int) (items_0 : Int) (layerMany_0 : Int) (lines_0 : Int) (layerSize_0 : Int → Int) (layerItem_0 : Int → Int) (all_1 : Int → Int) (turned_1 : Int → Int) (itemLayer_1 : Int → Int) (firstJoint_1 : Int → Int) (lineA_1 : Int → Int) (lineB_1 : Int → Int) (r_1 : Int) (items_1 : Int) (layerMany_1 : Int) (lines_1 : Int) (layerSize_1 : Int → Int) (layerItem_1 : Int → Int) (row_2 : Int → Int) (all_2 : Int → Int) (turned_2 : Int → Int) (itemLayer_2 : Int → Int) (firstJoint_2 : Int → Int) (lineA_2 : Int → Int) (lineB_2 : Int → Int) (r_2 : Int) (items_2 : Int) (layerMany_2 : Int) (lines_2 : Int) (layerSize_2 : Int → Int) (layerItem_2 : Int → Int) (row_0 : Int → Int) (row_1 : Int → Int) (k4 : 0 ≤ x4 ∧ x4 ≤ 75) (k6 : 2 ≤ x6 ∧ x6 ≤ 79) (k8 : 1 ≤ x8 ∧ x8 ≤ 75) (k11 : 0 ≤ x11 ∧ x11 ≤ 75) (k13 : 0 ≤ x13 ∧ x13 ≤ 74) (k14 : 0 ≤ x14 ∧ x14 ≤ 75) (k16 : 0 ≤ x16 ∧ x16 ≤ 74) (k17 : 0 ≤ x17 ∧ x17 ≤ 74) (d0 : x8 + (-1) ≤ x17 ∧ x17 ≤ x8 + (-1)) (d1 : x6 + (-4294967296) ≤ x17 ∧ x17 ≤ x6 + (-2)) (d3 : x8 + (-1) ≤ x16 ∧ x16 ≤ x8 + (-1)) (d6 : x8 + (-1) ≤ x13 ∧ x13 ≤ x8 + (-1)) (f3 : x6 = layerSize_0 (x4)) (h24 : x14 = row_2 (x13)) (h26 : x11 = row_2 (x8)) (f32 : BMR (items_2) (itemLayer_2) (row_2) (x6) (x4)) (f35 : 0 ≤ x8) (fe_0_5_1 : r_0 = r_1) (fe_0_100_1 : items_0 = items_1) (fe_0_101_1 : layerMany_0 = layerMany_1) (fe_0_107_1 : lines_0 = lines_1) (fe_0_5_2 : r_1 = r_2) (fe_0_100_2 : items_1 = items_2) (fe_0_101_2 : layerMany_1 = layerMany_2) (fe_0_107_2 : lines_1 = lines_2) (hE_0_2_1 : ∀ j : Int, all_0 j = all_1 j) (hE_0_2_2 : ∀ j : Int, all_1 j = all_2 j) (hE_0_95_1 : ∀ j : Int, turned_0 j = turned_1 j) (hE_0_95_2 : ∀ j : Int, turned_1 j = turned_2 j) (hE_0_102_1 : ∀ j : Int, itemLayer_0 j = itemLayer_1 j) (hE_0_102_2 : ∀ j : Int, itemLayer_1 j = itemLayer_2 j) (hE_0_104_1 : ∀ j : Int, firstJoint_0 j = firstJoint_1 j) (hE_0_104_2 : ∀ j : Int, firstJoint_1 j = firstJoint_2 j) (hE_0_105_1 : ∀ j : Int, layerSize_0 j = layerSize_1 j) (hE_0_105_2 : ∀ j : Int, layerSize_1 j = layerSize_2 j) (hE_0_106_1 : ∀ j : Int, layerItem_0 j = layerItem_1 j) (hE_0_106_2 : ∀ j : Int, layerItem_1 j = layerItem_2 j) (hE_0_108_1 : ∀ j : Int, lineA_0 j = lineA_1 j) (hE_0_108_2 : ∀ j : Int, lineA_1 j = lineA_2 j) (hE_0_109_1 : ∀ j : Int, lineB_0 j = lineB_1 j) (hE_0_109_2 : ∀ j : Int, lineB_1 j = lineB_2 j) (hE_0_117_1 : ∀ j : Int, 0 ≤ j → (j = x16 → row_0 j = x11) ∧ (j ≠ x16 → row_0 j = row_1 j)) (hE_0_117_2 : ∀ j : Int, 0 ≤ j → (j = x8 → row_1 j = x14) ∧ (j ≠ x8 → row_1 j = row_2 j)) (kz_0_100 : 0 ≤ items_0 ∧ items_0 ≤ 76) (kz_0_101 : 0 ≤ layerMany_0 ∧ layerMany_0 ≤ 76) (kz_0_107 : 0 ≤ lines_0 ∧ lines_0 ≤ 130) : BMR (items_0) (itemLayer_0) (row_0) (x6) (x4) := by
  subst fe_0_5_1
  subst fe_0_100_1
  subst fe_0_101_1
  subst fe_0_107_1
  subst fe_0_5_2
  subst fe_0_100_2
  subst fe_0_101_2
  subst fe_0_107_2
  have e_hE_0_2_1 := funext hE_0_2_1; subst e_hE_0_2_1
  have e_hE_0_2_2 := funext hE_0_2_2; subst e_hE_0_2_2
  have e_hE_0_95_1 := funext hE_0_95_1; subst e_hE_0_95_1
  have e_hE_0_95_2 := funext hE_0_95_2; subst e_hE_0_95_2
  have e_hE_0_102_1 := funext hE_0_102_1; subst e_hE_0_102_1
  have e_hE_0_102_2 := funext hE_0_102_2; subst e_hE_0_102_2
  have e_hE_0_104_1 := funext hE_0_104_1; subst e_hE_0_104_1
  have e_hE_0_104_2 := funext hE_0_104_2; subst e_hE_0_104_2
  have e_hE_0_105_1 := funext hE_0_105_1; subst e_hE_0_105_1
  have e_hE_0_105_2 := funext hE_0_105_2; subst e_hE_0_105_2
  have e_hE_0_106_1 := funext hE_0_106_1; subst e_hE_0_106_1
  have e_hE_0_106_2 := funext hE_0_106_2; subst e_hE_0_106_2
  have e_hE_0_108_1 := funext hE_0_108_1; subst e_hE_0_108_1
  have e_hE_0_108_2 := funext hE_0_108_2; subst e_hE_0_108_2
  have e_hE_0_109_1 := funext hE_0_109_1; subst e_hE_0_109_1
  have e_hE_0_109_2 := funext hE_0_109_2; subst e_hE_0_109_2
  first
    | assumption
    | exact bmr_swp (a := x8) (b := x8 - 1) ‹BMR _ _ _ _ _› (by omega) (by omega) (by omega) (by omega) (by omega) (swp_st (p := x8) (v := x14) (q := x16) (w := x11) (by omega) (by omega) (by omega) (by assumption) rfl (by rw [← (by omega : x13 = x8 - 1)]; assumption) (by assumption) (by omega) (by assumption))
set_option maxHeartbeats 4000000 in
theorem vc_Mo_byMeans_13_1 (x4 : Int) (x7 : Int) (x11 : Int) (x17 : Int) (all_0 : Int → Int) (turned_0 : Int → Int) (itemLayer_0 : Int → Int) (firstJoint_0 : Int → Int) (lineA_0 : Int → Int) (lineB_0 : Int → Int) (r_0 : Int) (items_0 : Int) (layerMany_0 : Int) (lines_0 : Int) (layerSize_0 : Int → Int) (layerItem_0 : Int → Int) (all_1 : Int → Int) (turned_1 : Int → Int) (itemLayer_1 : Int → Int) (firstJoint_1 : Int → Int) (lineA_1 : Int → Int) (lineB_1 : Int → Int) (r_1 : Int) (items_1 : Int) (layerMany_1 : Int) (lines_1 : Int) (layerSize_1 : Int → Int) (layerItem_1 : Int → Int) (all_2 : Int → Int) (turned_2 : Int → Int) (itemLayer_2 : Int → Int) (firstJoint_2 : Int → Int) (lineA_2 : Int → Int) (lineB_2 : Int → Int) (r_2 : Int) (items_2 : Int) (layerMany_2 : Int) (lines_2 : Int) (layerSize_2 : Int → Int) (layerItem_2 : Int → Int) (k7 : 1 ≤ x7 ∧ x7 ≤ 79) (k17 : 0 ≤ x17 ∧ x17 ≤ 74) (d2 : x7 + (-4294967296) ≤ x17 ∧ x17 ≤ x7 + (-1)) (fe_0_5_1 : r_0 = r_1) (fe_0_100_1 : items_0 = items_1) (fe_0_101_1 : layerMany_0 = layerMany_1) (fe_0_107_1 : lines_0 = lines_1) (fe_0_5_2 : r_1 = r_2) (fe_0_100_2 : items_1 = items_2) (fe_0_101_2 : layerMany_1 = layerMany_2) (fe_0_107_2 : lines_1 = lines_2) (hE_0_2_1 : ∀ j : Int, all_0 j = all_1 j) (hE_0_2_2 : ∀ j : Int, all_1 j = all_2 j) (hE_0_95_1 : ∀ j : Int, turned_0 j = turned_1 j) (hE_0_95_2 : ∀ j : Int, turned_1 j = turned_2 j) (hE_0_102_1 : ∀ j : Int, itemLayer_0 j = itemLayer_1 j) (hE_0_102_2 : ∀ j : Int, itemLayer_1 j = itemLayer_2 j) (hE_0_104_1 : ∀ j : Int, firstJoint_0 j = firstJoint_1 j) (hE_0_104_2 : ∀ j : Int, firstJoint_1 j = firstJoint_2 j) (hE_0_105_1 : ∀ j : Int, layerSize_0 j = layerSize_1 j) (hE_0_105_2 : ∀ j : Int, layerSize_1 j = layerSize_2 j) (hE_0_106_1 : ∀ j : Int, layerItem_0 j = layerItem_1 j) (hE_0_106_2 : ∀ j : Int, layerItem_1 j = layerItem_2 j) (hE_0_108_1 : ∀ j : Int, lineA_0 j = lineA_1 j) (hE_0_108_2 : ∀ j : Int, lineA_1 j = lineA_2 j) (hE_0_109_1 : ∀ j : Int, lineB_0 j = lineB_1 j) (hE_0_109_2 : ∀ j : Int, lineB_1 j = lineB_2 j) (kz_0_100 : 0 ≤ items_0 ∧ items_0 ≤ 76) (kz_0_101 : 0 ≤ layerMany_0 ∧ layerMany_0 ≤ 76) (kz_0_107 : 0 ≤ lines_0 ∧ lines_0 ≤ 130) : x17 ≤ x7 := by
  subst fe_0_5_1
  subst fe_0_100_1
  subst fe_0_101_1
  subst fe_0_107_1
  subst fe_0_5_2
  subst fe_0_100_2
  subst fe_0_101_2
  subst fe_0_107_2
  have e_hE_0_2_1 := funext hE_0_2_1; subst e_hE_0_2_1
  have e_hE_0_2_2 := funext hE_0_2_2; subst e_hE_0_2_2
  have e_hE_0_95_1 := funext hE_0_95_1; subst e_hE_0_95_1
  have e_hE_0_95_2 := funext hE_0_95_2; subst e_hE_0_95_2
  have e_hE_0_102_1 := funext hE_0_102_1; subst e_hE_0_102_1
  have e_hE_0_102_2 := funext hE_0_102_2; subst e_hE_0_102_2
  have e_hE_0_104_1 := funext hE_0_104_1; subst e_hE_0_104_1
  have e_hE_0_104_2 := funext hE_0_104_2; subst e_hE_0_104_2
  have e_hE_0_105_1 := funext hE_0_105_1; subst e_hE_0_105_1
  have e_hE_0_105_2 := funext hE_0_105_2; subst e_hE_0_105_2
  have e_hE_0_106_1 := funext hE_0_106_1; subst e_hE_0_106_1
  have e_hE_0_106_2 := funext hE_0_106_2; subst e_hE_0_106_2
  have e_hE_0_108_1 := funext hE_0_108_1; subst e_hE_0_108_1
  have e_hE_0_108_2 := funext hE_0_108_2; subst e_hE_0_108_2
  have e_hE_0_109_1 := funext hE_0_109_1; subst e_hE_0_109_1
  have e_hE_0_109_2 := funext hE_0_109_2; subst e_hE_0_109_2
  first
    | omega
    | exact lsa_la (p := x11) ‹LSA _ _ _ _ _ _ _ _ _ _› (by omega) (by omega) (by assumption)
    | exact lsa_lb (p := x11) ‹LSA _ _ _ _ _ _ _ _ _ _› (by omega) (by omega) (by assumption)
    | (have h := lsb_sz (l := x1) (n := x4) ‹LSB _ _ _ _ _› (by omega) (by omega) (by assumption); omega)
    | (rw [← (by omega : x11 = 76 * x4 + x7)]; assumption)
set_option maxHeartbeats 4000000 in
theorem vc_Mo_byMeans_13_2 (x4 : Int) (x7 : Int) (x11 : Int) (x17 : Int) (all_0 : Int → Int) (turned_0 : Int → Int) (itemLayer_0 : Int → Int) (firstJoint_0 : Int → Int) (lineA_0 : Int → Int) (lineB_0 : Int → Int) (r_0 : Int) (items_0 : Int) (layerMany_0 : Int) (lines_0 : Int) (layerSize_0 : Int → Int) (layerItem_0 : Int → Int) (all_1 : Int → Int) (turned_1 : Int → Int) (itemLayer_1 : Int → Int) (firstJoint_1 : Int → Int) (lineA_1 : Int → Int) (lineB_1 : Int → Int) (r_1 : Int) (items_1 : Int) (layerMany_1 : Int) (lines_1 : Int) (layerSize_1 : Int → Int) (layerItem_1 : Int → Int) (all_2 : Int → Int) (turned_2 : Int → Int) (itemLayer_2 : Int → Int) (firstJoint_2 : Int → Int) (lineA_2 : Int → Int) (lineB_2 : Int → Int) (r_2 : Int) (items_2 : Int) (layerMany_2 : Int) (lines_2 : Int) (layerSize_2 : Int → Int) (layerItem_2 : Int → Int) (k17 : 0 ≤ x17 ∧ x17 ≤ 74) (fe_0_5_1 : r_0 = r_1) (fe_0_100_1 : items_0 = items_1) (fe_0_101_1 : layerMany_0 = layerMany_1) (fe_0_107_1 : lines_0 = lines_1) (fe_0_5_2 : r_1 = r_2) (fe_0_100_2 : items_1 = items_2) (fe_0_101_2 : layerMany_1 = layerMany_2) (fe_0_107_2 : lines_1 = lines_2) (hE_0_2_1 : ∀ j : Int, all_0 j = all_1 j) (hE_0_2_2 : ∀ j : Int, all_1 j = all_2 j) (hE_0_95_1 : ∀ j : Int, turned_0 j = turned_1 j) (hE_0_95_2 : ∀ j : Int, turned_1 j = turned_2 j) (hE_0_102_1 : ∀ j : Int, itemLayer_0 j = itemLayer_1 j) (hE_0_102_2 : ∀ j : Int, itemLayer_1 j = itemLayer_2 j) (hE_0_104_1 : ∀ j : Int, firstJoint_0 j = firstJoint_1 j) (hE_0_104_2 : ∀ j : Int, firstJoint_1 j = firstJoint_2 j) (hE_0_105_1 : ∀ j : Int, layerSize_0 j = layerSize_1 j) (hE_0_105_2 : ∀ j : Int, layerSize_1 j = layerSize_2 j) (hE_0_106_1 : ∀ j : Int, layerItem_0 j = layerItem_1 j) (hE_0_106_2 : ∀ j : Int, layerItem_1 j = layerItem_2 j) (hE_0_108_1 : ∀ j : Int, lineA_0 j = lineA_1 j) (hE_0_108_2 : ∀ j : Int, lineA_1 j = lineA_2 j) (hE_0_109_1 : ∀ j : Int, lineB_0 j = lineB_1 j) (hE_0_109_2 : ∀ j : Int, lineB_1 j = lineB_2 j) (kz_0_100 : 0 ≤ items_0 ∧ items_0 ≤ 76) (kz_0_101 : 0 ≤ layerMany_0 ∧ layerMany_0 ≤ 76) (kz_0_107 : 0 ≤ lines_0 ∧ lines_0 ≤ 130) : 0 ≤ x17 := by
  subst fe_0_5_1
  subst fe_0_100_1
  subst fe_0_101_1
  subst fe_0_107_1
  subst fe_0_5_2
  subst fe_0_100_2
  subst fe_0_101_2
  subst fe_0_107_2
  have e_hE_0_2_1 := funext hE_0_2_1; subst e_hE_0_2_1
  have e_hE_0_2_2 := funext hE_0_2_2; subst e_hE_0_2_2
  have e_hE_0_95_1 := funext hE_0_95_1; subst e_hE_0_95_1
  have e_hE_0_95_2 := funext hE_0_95_2; subst e_hE_0_95_2
  have e_hE_0_102_1 := funext hE_0_102_1; subst e_hE_0_102_1
  have e_hE_0_102_2 := funext hE_0_102_2; subst e_hE_0_102_2
  have e_hE_0_104_1 := funext hE_0_104_1; subst e_hE_0_104_1
  have e_hE_0_104_2 := funext hE_0_104_2; subst e_hE_0_104_2
  have e_hE_0_105_1 := funext hE_0_105_1; subst e_hE_0_105_1
  have e_hE_0_105_2 := funext hE_0_105_2; subst e_hE_0_105_2
  have e_hE_0_106_1 := funext hE_0_106_1; subst e_hE_0_106_1
  have e_hE_0_106_2 := funext hE_0_106_2; subst e_hE_0_106_2
  have e_hE_0_108_1 := funext hE_0_108_1; subst e_hE_0_108_1
  have e_hE_0_108_2 := funext hE_0_108_2; subst e_hE_0_108_2
  have e_hE_0_109_1 := funext hE_0_109_1; subst e_hE_0_109_1
  have e_hE_0_109_2 := funext hE_0_109_2; subst e_hE_0_109_2
  first
    | omega
    | exact lsa_la (p := x11) ‹LSA _ _ _ _ _ _ _ _ _ _› (by omega) (by omega) (by assumption)
    | exact lsa_lb (p := x11) ‹LSA _ _ _ _ _ _ _ _ _ _› (by omega) (by omega) (by assumption)
    | (have h := lsb_sz (l := x1) (n := x4) ‹LSB _ _ _ _ _› (by omega) (by omega) (by assumption); omega)
    | (rw [← (by omega : x11 = 76 * x4 + x7)]; assumption)
def o_Mo_byMeans_13 : or_T := (190, 18, [(0, (2, 0, 0, [165])), (4, (0, 0, 75, [])), (6, (0, 2, 79, [])), (7, (0, 1, 79, [])), (8, (0, 1, 75, [])), (10, (2, 0, 0, [249])), (11, (0, 0, 75, [])), (13, (0, 0, 74, [])), (14, (0, 0, 75, [])), (16, (0, 0, 74, [])), (17, (0, 0, 74, []))], [(20, [6, 3, 4], [50, 0, 1, 1105, 1, 2, 1, 0, 3, 1, 105, 1, 2]), (24, [0, 3], []), (100, [10, 16, 11], []), (9, [10, 3], [117]), (100, [10, 8, 14], []), (10, [14, 10, 13], []), (10, [11, 10, 8], []), (20, [3, 6, 4], [60, 1, 2, 452, 100, 102, 117]), (20, [8], [50, 0, 0, 0, 2, 0, 0, 1, 0])], [], [], [(20, [3, 6, 4], [60, 1, 2, 452, 100, 102, 117]), (20, [17, 7], [50, 0, 0, 0, 2, 1, 0, 1, 1]), (20, [17], [50, 0, 0, 0, 2, 0, 0, 1, 0])], [], [(17, 8, -1, -1), (17, 6, -4294967296, -2), (17, 7, -4294967296, -1), (16, 8, -1, -1), (16, 6, -4294967296, -2), (16, 7, -4294967296, -1), (13, 8, -1, -1), (8, 6, -4294967296, -1), (8, 7, -4294967296, 0)])
theorem oo_Mo_byMeans_13 {kA : Nat → ClassId} : or_ok PRD kA GG o_Mo_byMeans_13 := by
  refine or_mk fun A ta ws vs hD hth hl => ?_
  intro t0 r0 t4 k4 t6 k6 t7 k7 t8 k8 t10 r10 t11 k11 t13 k13 t14 k14 t16 k16 t17 k17 d0 d1 d2 d3 d4 d5 d6 d10 d11 f3 f10 ta1 w1 le1 s1 f13 ta2 w2 le2 s2 f24 f26 f32 f35
  replace f3 := shm_724 f3
  replace f10 := shm_5 f10
  have s1 : (∀ b j, w_el ws b j = if b = v_ad (n_v vs 10) ∧ j = (v_iv (n_v vs 16)).toNat then v_iv (n_v vs 11) else w_el w1 b j) ∧ ∀ b k, w_fd ws b k = w_fd w1 b k := s1.2
  replace f13 := shm_713 f13
  have s2 : (∀ b j, w_el w1 b j = if b = v_ad (n_v vs 10) ∧ j = (v_iv (n_v vs 8)).toNat then v_iv (n_v vs 14) else w_el w2 b j) ∧ ∀ b k, w_fd w1 b k = w_fd w2 b k := s2.2
  replace f24 := shm_107 f24
  replace f26 := shm_107 f26
  replace f32 := shm_968 f32
  replace f35 := shm_722 f35
  have q3 : n_v vs 3 = n_v vs 0 := f10.symm
  simp only [q3] at f3 f13 f32
  have ar_0_2_1 : w_ar w1 (n_v vs 0) 2 = w_ar ws (n_v vs 0) 2 := congrArg v_ad (s1.2 _ _).symm
  have ar_0_2_2 : w_ar w2 (n_v vs 0) 2 = w_ar ws (n_v vs 0) 2 := by rw [← ar_0_2_1]; show v_ad (w_fd w2 _ _) = v_ad (w_fd w1 _ _); rw [s2.2]
  have cr_0_2 := fdq_10 hD hth r0
  have ar_0_95_1 : w_ar w1 (n_v vs 0) 95 = w_ar ws (n_v vs 0) 95 := congrArg v_ad (s1.2 _ _).symm
  have ar_0_95_2 : w_ar w2 (n_v vs 0) 95 = w_ar ws (n_v vs 0) 95 := by rw [← ar_0_95_1]; show v_ad (w_fd w2 _ _) = v_ad (w_fd w1 _ _); rw [s2.2]
  have cr_0_95 := fdq_130 hD hth r0
  have ar_0_102_1 : w_ar w1 (n_v vs 0) 102 = w_ar ws (n_v vs 0) 102 := congrArg v_ad (s1.2 _ _).symm
  have ar_0_102_2 : w_ar w2 (n_v vs 0) 102 = w_ar ws (n_v vs 0) 102 := by rw [← ar_0_102_1]; show v_ad (w_fd w2 _ _) = v_ad (w_fd w1 _ _); rw [s2.2]
  have cr_0_102 := fdq_159 hD hth r0
  have ar_0_104_1 : w_ar w1 (n_v vs 0) 104 = w_ar ws (n_v vs 0) 104 := congrArg v_ad (s1.2 _ _).symm
  have ar_0_104_2 : w_ar w2 (n_v vs 0) 104 = w_ar ws (n_v vs 0) 104 := by rw [← ar_0_104_1]; show v_ad (w_fd w2 _ _) = v_ad (w_fd w1 _ _); rw [s2.2]
  have cr_0_104 := fdq_170 hD hth r0
  have ar_0_105_1 : w_ar w1 (n_v vs 0) 105 = w_ar ws (n_v vs 0) 105 := congrArg v_ad (s1.2 _ _).symm
  have ar_0_105_2 : w_ar w2 (n_v vs 0) 105 = w_ar ws (n_v vs 0) 105 := by rw [← ar_0_105_1]; show v_ad (w_fd w2 _ _) = v_ad (w_fd w1 _ _); rw [s2.2]
  have cr_0_105 := fdq_122 hD hth r0
  have ar_0_106_1 : w_ar w1 (n_v vs 0) 106 = w_ar ws (n_v vs 0) 106 := congrArg v_ad (s1.2 _ _).symm
  have ar_0_106_2 : w_ar w2 (n_v vs 0) 106 = w_ar ws (n_v vs 0) 106 := by rw [← ar_0_106_1]; show v_ad (w_fd w2 _ _) = v_ad (w_fd w1 _ _); rw [s2.2]
  have cr_0_106 := fdq_123 hD hth r0
  have ar_0_108_1 : w_ar w1 (n_v vs 0) 108 = w_ar ws (n_v vs 0) 108 := congrArg v_ad (s1.2 _ _).symm
  have ar_0_108_2 : w_ar w2 (n_v vs 0) 108 = w_ar ws (n_v vs 0) 108 := by rw [← ar_0_108_1]; show v_ad (w_fd w2 _ _) = v_ad (w_fd w1 _ _); rw [s2.2]
  have cr_0_108 := fdq_160 hD hth r0
  have ar_0_109_1 : w_ar w1 (n_v vs 0) 109 = w_ar ws (n_v vs 0) 109 := congrArg v_ad (s1.2 _ _).symm
  have ar_0_109_2 : w_ar w2 (n_v vs 0) 109 = w_ar ws (n_v vs 0) 109 := by rw [← ar_0_109_1]; show v_ad (w_fd w2 _ _) = v_ad (w_fd w1 _ _); rw [s2.2]
  have cr_0_109 := fdq_161 hD hth r0
  have ar_0_117_1 : w_ar w1 (n_v vs 0) 117 = w_ar ws (n_v vs 0) 117 := congrArg v_ad (s1.2 _ _).symm
  have ar_0_117_2 : w_ar w2 (n_v vs 0) 117 = w_ar ws (n_v vs 0) 117 := by rw [← ar_0_117_1]; show v_ad (w_fd w2 _ _) = v_ad (w_fd w1 _ _); rw [s2.2]
  have ad_10 : v_ad (n_v vs 10) = w_ar ws (n_v vs 0) 117 := (congrArg v_ad f13).trans ar_0_117_1
  simp only [ar_0_2_1, ar_0_95_1, ar_0_102_1, ar_0_104_1, ar_0_108_1, ar_0_109_1, ar_0_105_1, ar_0_106_1, ad_10] at f24
  have h24 : v_iv (n_v vs 14) = w_ei w2 (w_ar ws (n_v vs 0) 117) (v_iv (n_v vs 13)) := f24
  simp only [ad_10] at f26
  have h26 : v_iv (n_v vs 11) = w_ei w2 (w_ar ws (n_v vs 0) 117) (v_iv (n_v vs 8)) := f26
  simp only [ar_0_2_2, ar_0_95_2, ar_0_102_2, ar_0_104_2, ar_0_108_2, ar_0_109_2, ar_0_105_2, ar_0_106_2, ar_0_117_2] at f32
  have fe_0_5_1 : w_fi ws (n_v vs 0) 5 = w_fi w1 (n_v vs 0) 5 := congrArg v_iv (s1.2 _ _)
  have fe_0_100_1 : w_fi ws (n_v vs 0) 100 = w_fi w1 (n_v vs 0) 100 := congrArg v_iv (s1.2 _ _)
  have fe_0_101_1 : w_fi ws (n_v vs 0) 101 = w_fi w1 (n_v vs 0) 101 := congrArg v_iv (s1.2 _ _)
  have fe_0_107_1 : w_fi ws (n_v vs 0) 107 = w_fi w1 (n_v vs 0) 107 := congrArg v_iv (s1.2 _ _)
  have fe_0_5_2 : w_fi w1 (n_v vs 0) 5 = w_fi w2 (n_v vs 0) 5 := congrArg v_iv (s2.2 _ _)
  have fe_0_100_2 : w_fi w1 (n_v vs 0) 100 = w_fi w2 (n_v vs 0) 100 := congrArg v_iv (s2.2 _ _)
  have fe_0_101_2 : w_fi w1 (n_v vs 0) 101 = w_fi w2 (n_v vs 0) 101 := congrArg v_iv (s2.2 _ _)
  have fe_0_107_2 : w_fi w1 (n_v vs 0) 107 = w_fi w2 (n_v vs 0) 107 := congrArg v_iv (s2.2 _ _)
  have hE_0_2_1 : ∀ j : Int, w_ei ws (w_ar ws (n_v vs 0) 2) j = w_ei w1 (w_ar ws (n_v vs 0) 2) j := el_kp s1.1 r10 cr_0_2 (by decide)
  have hE_0_2_2 : ∀ j : Int, w_ei w1 (w_ar ws (n_v vs 0) 2) j = w_ei w2 (w_ar ws (n_v vs 0) 2) j := el_kp s2.1 r10 cr_0_2 (by decide)
  have hE_0_95_1 : ∀ j : Int, w_ei ws (w_ar ws (n_v vs 0) 95) j = w_ei w1 (w_ar ws (n_v vs 0) 95) j := el_kp s1.1 r10 cr_0_95 (by decide)
  have hE_0_95_2 : ∀ j : Int, w_ei w1 (w_ar ws (n_v vs 0) 95) j = w_ei w2 (w_ar ws (n_v vs 0) 95) j := el_kp s2.1 r10 cr_0_95 (by decide)
  have hE_0_102_1 : ∀ j : Int, w_ei ws (w_ar ws (n_v vs 0) 102) j = w_ei w1 (w_ar ws (n_v vs 0) 102) j := el_kp s1.1 r10 cr_0_102 (by decide)
  have hE_0_102_2 : ∀ j : Int, w_ei w1 (w_ar ws (n_v vs 0) 102) j = w_ei w2 (w_ar ws (n_v vs 0) 102) j := el_kp s2.1 r10 cr_0_102 (by decide)
  have hE_0_104_1 : ∀ j : Int, w_ei ws (w_ar ws (n_v vs 0) 104) j = w_ei w1 (w_ar ws (n_v vs 0) 104) j := el_kp s1.1 r10 cr_0_104 (by decide)
  have hE_0_104_2 : ∀ j : Int, w_ei w1 (w_ar ws (n_v vs 0) 104) j = w_ei w2 (w_ar ws (n_v vs 0) 104) j := el_kp s2.1 r10 cr_0_104 (by decide)
  have hE_0_105_1 : ∀ j : Int, w_ei ws (w_ar ws (n_v vs 0) 105) j = w_ei w1 (w_ar ws (n_v vs 0) 105) j := el_kp s1.1 r10 cr_0_105 (by decide)
  have hE_0_105_2 : ∀ j : Int, w_ei w1 (w_ar ws (n_v vs 0) 105) j = w_ei w2 (w_ar ws (n_v vs 0) 105) j := el_kp s2.1 r10 cr_0_105 (by decide)
  have hE_0_106_1 : ∀ j : Int, w_ei ws (w_ar ws (n_v vs 0) 106) j = w_ei w1 (w_ar ws (n_v vs 0) 106) j := el_kp s1.1 r10 cr_0_106 (by decide)
  have hE_0_106_2 : ∀ j : Int, w_ei w1 (w_ar ws (n_v vs 0) 106) j = w_ei w2 (w_ar ws (n_v vs 0) 106) j := el_kp s2.1 r10 cr_0_106 (by decide)
  have hE_0_108_1 : ∀ j : Int, w_ei ws (w_ar ws (n_v vs 0) 108) j = w_ei w1 (w_ar ws (n_v vs 0) 108) j := el_kp s1.1 r10 cr_0_108 (by decide)
  have hE_0_108_2 : ∀ j : Int, w_ei w1 (w_ar ws (n_v vs 0) 108) j = w_ei w2 (w_ar ws (n_v vs 0) 108) j := el_kp s2.1 r10 cr_0_108 (by decide)
  have hE_0_109_1 : ∀ j : Int, w_ei ws (w_ar ws (n_v vs 0) 109) j = w_ei w1 (w_ar ws (n_v vs 0) 109) j := el_kp s1.1 r10 cr_0_109 (by decide)
  have hE_0_109_2 : ∀ j : Int, w_ei w1 (w_ar ws (n_v vs 0) 109) j = w_ei w2 (w_ar ws (n_v vs 0) 109) j := el_kp s2.1 r10 cr_0_109 (by decide)
  have hE_0_117_1 : ∀ j : Int, 0 ≤ j → (j = v_iv (n_v vs 16) → w_ei ws (w_ar ws (n_v vs 0) 117) j = v_iv (n_v vs 11)) ∧ (j ≠ v_iv (n_v vs 16) → w_ei ws (w_ar ws (n_v vs 0) 117) j = w_ei w1 (w_ar ws (n_v vs 0) 117) j) := fun j hj => ⟨fun h => by unfold w_ei; rw [s1.1, if_pos ⟨ad_10.symm, by rw [h]⟩], fun h => by unfold w_ei; rw [s1.1, if_neg (fun e => h (by have := e.2; omega))]⟩
  have hE_0_117_2 : ∀ j : Int, 0 ≤ j → (j = v_iv (n_v vs 8) → w_ei w1 (w_ar ws (n_v vs 0) 117) j = v_iv (n_v vs 14)) ∧ (j ≠ v_iv (n_v vs 8) → w_ei w1 (w_ar ws (n_v vs 0) 117) j = w_ei w2 (w_ar ws (n_v vs 0) 117) j) := fun j hj => ⟨fun h => by unfold w_ei; rw [s2.1, if_pos ⟨ad_10.symm, by rw [h]⟩], fun h => by unfold w_ei; rw [s2.1, if_neg (fun e => h (by have := e.2; omega))]⟩
  have kz_0_100 := fdq_162 hD hth r0
  have kz_0_101 := fdq_125 hD hth r0
  have kz_0_107 := fdq_163 hD hth r0
  have nf0 : fc_1 PRD (20, [3, 6, 4], [60, 1, 2, 452, 100, 102, 117]) ws (vs) := by
    refine ⟨nf_in hl rfl, sgq_968 ?_⟩
    · show BMR (w_fi ws (n_v vs 3) 100) (w_ei ws (w_ar ws (n_v vs 3) 102)) (w_ei ws (w_ar ws (n_v vs 3) 117)) (v_iv (n_v vs 6)) (v_iv (n_v vs 4))
      rw [q3]
      exact vc_Mo_byMeans_13_0 (v_iv (n_v vs 4)) (v_iv (n_v vs 6)) (v_iv (n_v vs 8)) (v_iv (n_v vs 11)) (v_iv (n_v vs 13)) (v_iv (n_v vs 14)) (v_iv (n_v vs 16)) (v_iv (n_v vs 17)) (w_ei ws (w_ar ws (n_v vs 0) 2)) (w_ei ws (w_ar ws (n_v vs 0) 95)) (w_ei ws (w_ar ws (n_v vs 0) 102)) (w_ei ws (w_ar ws (n_v vs 0) 104)) (w_ei ws (w_ar ws (n_v vs 0) 108)) (w_ei ws (w_ar ws (n_v vs 0) 109)) (w_fi ws (n_v vs 0) 5) (w_fi ws (n_v vs 0) 100) (w_fi ws (n_v vs 0) 101) (w_fi ws (n_v vs 0) 107) (w_ei ws (w_ar ws (n_v vs 0) 105)) (w_ei ws (w_ar ws (n_v vs 0) 106)) (w_ei w1 (w_ar ws (n_v vs 0) 2)) (w_ei w1 (w_ar ws (n_v vs 0) 95)) (w_ei w1 (w_ar ws (n_v vs 0) 102)) (w_ei w1 (w_ar ws (n_v vs 0) 104)) (w_ei w1 (w_ar ws (n_v vs 0) 108)) (w_ei w1 (w_ar ws (n_v vs 0) 109)) (w_fi w1 (n_v vs 0) 5) (w_fi w1 (n_v vs 0) 100) (w_fi w1 (n_v vs 0) 101) (w_fi w1 (n_v vs 0) 107) (w_ei w1 (w_ar ws (n_v vs 0) 105)) (w_ei w1 (w_ar ws (n_v vs 0) 106)) (w_ei w2 (w_ar ws (n_v vs 0) 117)) (w_ei w2 (w_ar ws (n_v vs 0) 2)) (w_ei w2 (w_ar ws (n_v vs 0) 95)) (w_ei w2 (w_ar ws (n_v vs 0) 102)) (w_ei w2 (w_ar ws (n_v vs 0) 104)) (w_ei w2 (w_ar ws (n_v vs 0) 108)) (w_ei w2 (w_ar ws (n_v vs 0) 109)) (w_fi w2 (n_v vs 0) 5) (w_fi w2 (n_v vs 0) 100) (w_fi w2 (n_v vs 0) 101) (w_fi w2 (n_v vs 0) 107) (w_ei w2 (w_ar ws (n_v vs 0) 105)) (w_ei w2 (w_ar ws (n_v vs 0) 106)) (w_ei ws (w_ar ws (n_v vs 0) 117)) (w_ei w1 (w_ar ws (n_v vs 0) 117)) k4 k6 k8 k11 k13 k14 k16 k17 d0 d1 d3 d6 f3 h24 h26 f32 f35 fe_0_5_1 fe_0_100_1 fe_0_101_1 fe_0_107_1 fe_0_5_2 fe_0_100_2 fe_0_101_2 fe_0_107_2 hE_0_2_1 hE_0_2_2 hE_0_95_1 hE_0_95_2 hE_0_102_1 hE_0_102_2 hE_0_104_1 hE_0_104_2 hE_0_105_1 hE_0_105_2 hE_0_106_1 hE_0_106_2 hE_0_108_1 hE_0_108_2 hE_0_109_1 hE_0_109_2 hE_0_117_1 hE_0_117_2 kz_0_100 kz_0_101 kz_0_107
  have nf1 : fc_1 PRD (20, [17, 7], [50, 0, 0, 0, 2, 1, 0, 1, 1]) ws (vs) := ⟨nf_in hl rfl, sgq_360 (vc_Mo_byMeans_13_1 (v_iv (n_v vs 4)) (v_iv (n_v vs 7)) (v_iv (n_v vs 11)) (v_iv (n_v vs 17)) (w_ei ws (w_ar ws (n_v vs 0) 2)) (w_ei ws (w_ar ws (n_v vs 0) 95)) (w_ei ws (w_ar ws (n_v vs 0) 102)) (w_ei ws (w_ar ws (n_v vs 0) 104)) (w_ei ws (w_ar ws (n_v vs 0) 108)) (w_ei ws (w_ar ws (n_v vs 0) 109)) (w_fi ws (n_v vs 0) 5) (w_fi ws (n_v vs 0) 100) (w_fi ws (n_v vs 0) 101) (w_fi ws (n_v vs 0) 107) (w_ei ws (w_ar ws (n_v vs 0) 105)) (w_ei ws (w_ar ws (n_v vs 0) 106)) (w_ei w1 (w_ar ws (n_v vs 0) 2)) (w_ei w1 (w_ar ws (n_v vs 0) 95)) (w_ei w1 (w_ar ws (n_v vs 0) 102)) (w_ei w1 (w_ar ws (n_v vs 0) 104)) (w_ei w1 (w_ar ws (n_v vs 0) 108)) (w_ei w1 (w_ar ws (n_v vs 0) 109)) (w_fi w1 (n_v vs 0) 5) (w_fi w1 (n_v vs 0) 100) (w_fi w1 (n_v vs 0) 101) (w_fi w1 (n_v vs 0) 107) (w_ei w1 (w_ar ws (n_v vs 0) 105)) (w_ei w1 (w_ar ws (n_v vs 0) 106)) (w_ei w2 (w_ar ws (n_v vs 0) 2)) (w_ei w2 (w_ar ws (n_v vs 0) 95)) (w_ei w2 (w_ar ws (n_v vs 0) 102)) (w_ei w2 (w_ar ws (n_v vs 0) 104)) (w_ei w2 (w_ar ws (n_v vs 0) 108)) (w_ei w2 (w_ar ws (n_v vs 0) 109)) (w_fi w2 (n_v vs 0) 5) (w_fi w2 (n_v vs 0) 100) (w_fi w2 (n_v vs 0) 101) (w_fi w2 (n_v vs 0) 107) (w_ei w2 (w_ar ws (n_v vs 0) 105)) (w_ei w2 (w_ar ws (n_v vs 0) 106)) k7 k17 d2 fe_0_5_1 fe_0_100_1 fe_0_101_1 fe_0_107_1 fe_0_5_2 fe_0_100_2 fe_0_101_2 fe_0_107_2 hE_0_2_1 hE_0_2_2 hE_0_95_1 hE_0_95_2 hE_0_102_1 hE_0_102_2 hE_0_104_1 hE_0_104_2 hE_0_105_1 hE_0_105_2 hE_0_106_1 hE_0_106_2 hE_0_108_1 hE_0_108_2 hE_0_109_1 hE_0_109_2 kz_0_100 kz_0_101 kz_0_107)⟩
  have nf2 : fc_1 PRD (20, [17], [50, 0, 0, 0, 2, 0, 0, 1, 0]) ws (vs) := ⟨nf_in hl rfl, sgq_722 (vc_Mo_byMeans_13_2 (v_iv (n_v vs 4)) (v_iv (n_v vs 7)) (v_iv (n_v vs 11)) (v_iv (n_v vs 17)) (w_ei ws (w_ar ws (n_v vs 0) 2)) (w_ei ws (w_ar ws (n_v vs 0) 95)) (w_ei ws (w_ar ws (n_v vs 0) 102)) (w_ei ws (w_ar ws (n_v vs 0) 104)) (w_ei ws (w_ar ws (n_v vs 0) 108)) (w_ei ws (w_ar ws (n_v vs 0) 109)) (w_fi ws (n_v vs 0) 5) (w_fi ws (n_v vs 0) 100) (w_fi ws (n_v vs 0) 101) (w_fi ws (n_v vs 0) 107) (w_ei ws (w_ar ws (n_v vs 0) 105)) (w_ei ws (w_ar ws (n_v vs 0) 106)) (w_ei w1 (w_ar ws (n_v vs 0) 2)) (w_ei w1 (w_ar ws (n_v vs 0) 95)) (w_ei w1 (w_ar ws (n_v vs 0) 102)) (w_ei w1 (w_ar ws (n_v vs 0) 104)) (w_ei w1 (w_ar ws (n_v vs 0) 108)) (w_ei w1 (w_ar ws (n_v vs 0) 109)) (w_fi w1 (n_v vs 0) 5) (w_fi w1 (n_v vs 0) 100) (w_fi w1 (n_v vs 0) 101) (w_fi w1 (n_v vs 0) 107) (w_ei w1 (w_ar ws (n_v vs 0) 105)) (w_ei w1 (w_ar ws (n_v vs 0) 106)) (w_ei w2 (w_ar ws (n_v vs 0) 2)) (w_ei w2 (w_ar ws (n_v vs 0) 95)) (w_ei w2 (w_ar ws (n_v vs 0) 102)) (w_ei w2 (w_ar ws (n_v vs 0) 104)) (w_ei w2 (w_ar ws (n_v vs 0) 108)) (w_ei w2 (w_ar ws (n_v vs 0) 109)) (w_fi w2 (n_v vs 0) 5) (w_fi w2 (n_v vs 0) 100) (w_fi w2 (n_v vs 0) 101) (w_fi w2 (n_v vs 0) 107) (w_ei w2 (w_ar ws (n_v vs 0) 105)) (w_ei w2 (w_ar ws (n_v vs 0) 106)) k17 fe_0_5_1 fe_0_100_1 fe_0_101_1 fe_0_107_1 fe_0_5_2 fe_0_100_2 fe_0_101_2 fe_0_107_2 hE_0_2_1 hE_0_2_2 hE_0_95_1 hE_0_95_2 hE_0_102_1 hE_0_102_2 hE_0_104_1 hE_0_104_2 hE_0_105_1 hE_0_105_2 hE_0_106_1 hE_0_106_2 hE_0_108_1 hE_0_108_2 hE_0_109_1 hE_0_109_2 kz_0_100 kz_0_101 kz_0_107)⟩
  refine ⟨(fun _ h => (by cases h)), [], trivial, ?_, (fun _ h => (by cases h))⟩
  rw [List.append_nil]
  exact List.forall_mem_cons.mpr ⟨⟨show (20 : Nat) < 100 from by decide, nf0⟩, List.forall_mem_cons.mpr ⟨⟨show (20 : Nat) < 100 from by decide, nf1⟩, List.forall_mem_cons.mpr ⟨⟨show (20 : Nat) < 100 from by decide, nf2⟩, (fun _ h => (by cases h))⟩⟩⟩
set_option maxHeartbeats 4000000 in
theorem vc_Mo_byMeans_14_0 (x4 : Int) (x6 : Int) (x7 : Int) (layerSize_0 : Int → Int) (layerMany_0 : Int) (itemLayer_0 : Int → Int) (layerItem_0 : Int → Int) (row_0 : Int → Int) (items_0 : Int) (k4 : 0 ≤ x4 ∧ x4 ≤ 75) (k6 : 0 ≤ x6 ∧ x6 ≤ 79) (k7 : 0 ≤ x7 ∧ x7 ≤ 79) (d0 : x6 + 0 ≤ x7 ∧ x7 ≤ x6 + 4294967296) (d1 : x6 + (-4294967296) ≤ x7 ∧ x7 ≤ x6 + 0) (f4 : BMW (items_0) (layerMany_0) (itemLayer_0) (layerSize_0) (layerItem_0) (row_0) (x6) (x4) (x7)) (kz_0_100 : 0 ≤ items_0 ∧ items_0 ≤ 76) (kz_0_101 : 0 ≤ layerMany_0 ∧ layerMany_0 ≤ 76) : LSB (items_0) (layerMany_0) (itemLayer_0) (layerSize_0) (layerItem_0) := by
  first
    | assumption
    | exact bmw_end ‹BMW _ _ _ _ _ _ _ _ _› (by omega)
def o_Mo_byMeans_14 : or_T := (387, 8, [(0, (2, 0, 0, [165])), (4, (0, 0, 75, [])), (6, (0, 0, 79, [])), (7, (0, 0, 79, []))], [(20, [3, 6, 4, 7], [60, 2, 4, 453, 100, 101, 102, 105, 106, 117]), (24, [0, 3], [])], [], [], [(20, [0], [60, 2, 3, 448, 100, 101, 102, 105, 106])], [], [(7, 6, 0, 4294967296), (7, 6, -4294967296, 0)])
theorem oo_Mo_byMeans_14 {kA : Nat → ClassId} : or_ok PRD kA GG o_Mo_byMeans_14 := by
  refine or_mk fun A ta ws vs hD hth hl => ?_
  intro t0 r0 t4 k4 t6 k6 t7 k7 d0 d1 f4 f6
  replace f4 := shm_726 f4
  replace f6 := shm_5 f6
  have q3 : n_v vs 3 = n_v vs 0 := f6.symm
  simp only [q3] at f4
  have kz_0_100 := fdq_162 hD hth r0
  have kz_0_101 := fdq_125 hD hth r0
  have nf0 : fc_1 PRD (20, [0], [60, 2, 3, 448, 100, 101, 102, 105, 106]) ws (vs) := ⟨nf_in hl rfl, sgq_675 (vc_Mo_byMeans_14_0 (v_iv (n_v vs 4)) (v_iv (n_v vs 6)) (v_iv (n_v vs 7)) (w_ei ws (w_ar ws (n_v vs 0) 105)) (w_fi ws (n_v vs 0) 101) (w_ei ws (w_ar ws (n_v vs 0) 102)) (w_ei ws (w_ar ws (n_v vs 0) 106)) (w_ei ws (w_ar ws (n_v vs 0) 117)) (w_fi ws (n_v vs 0) 100) k4 k6 k7 d0 d1 f4 kz_0_100 kz_0_101)⟩
  refine ⟨(fun _ h => (by cases h)), [], trivial, ?_, (fun _ h => (by cases h))⟩
  rw [List.append_nil]
  exact List.forall_mem_cons.mpr ⟨⟨show (20 : Nat) < 100 from by decide, nf0⟩, (fun _ h => (by cases h))⟩
set_option maxHeartbeats 4000000 in
theorem vc_Mo_byMeans_15_r0 (x4 : Int) (x6 : Int) (x7 : Int) (x11 : Int) (layerSize_0 : Int → Int) (k4 : 0 ≤ x4 ∧ x4 ≤ 75) (k6 : 1 ≤ x6 ∧ x6 ≤ 79) (k11 : 0 ≤ x11 ∧ x11 ≤ 5778) (d1 : x6 + (-4294967296) ≤ x11 ∧ x11 ≤ x6 + 5699) (f4 : x6 = layerSize_0 (x4)) (f6 : x6 ≤ 72) : 0 ≤ x11 ∧ x11 ≤ 5775 := by
  first
    | omega
    | exact lsa_la (p := x11) ‹LSA _ _ _ _ _ _ _ _ _ _› (by omega) (by omega) (by assumption)
    | exact lsa_lb (p := x11) ‹LSA _ _ _ _ _ _ _ _ _ _› (by omega) (by omega) (by assumption)
    | (have h := lsb_sz (l := x1) (n := x4) ‹LSB _ _ _ _ _› (by omega) (by omega) (by assumption); omega)
    | (rw [← (by omega : x11 = 76 * x4 + x7)]; assumption)
def o_Mo_byMeans_15 : or_T := (373, 12, [(0, (2, 0, 0, [165])), (3, (2, 0, 0, [165])), (4, (0, 0, 75, [])), (6, (0, 1, 79, [])), (7, (0, 0, 78, [])), (8, (2, 0, 0, [239])), (9, (0, 76, 76, [])), (10, (0, 0, 5700, [])), (11, (0, 0, 5778, []))], [(1, [11, 10, 7], []), (3, [10, 9, 4], []), (9, [8, 3], [106]), (7, [7, 6], [2]), (20, [6, 3, 4], [50, 0, 1, 1105, 1, 2, 1, 0, 3, 1, 105, 1, 2]), (20, [4, 3], [50, 1, 0, 1101, 2, 6, 0, 2, 0, 0, 1, 0, 0, 6, 4, 2, 1, 0, 0, 1, 2, 1, 101]), (20, [6], [50, 0, 0, 0, 2, 1, 0, 0, 72]), (20, [3, 6, 4, 7], [60, 2, 4, 453, 100, 101, 102, 105, 106, 117]), (20, [7, 6], [50, 0, 0, 0, 2, 1, 0, 1, 1]), (24, [0, 3], [])], [(11, (0, 0, 5775, []))], [], [], [], [(11, 7, 0, 5700), (11, 6, -4294967296, 5699), (11, 6, -4294967296, 5700), (11, 10, 0, 78), (7, 6, -4294967296, -1), (7, 6, -4294967296, 0)])
theorem oo_Mo_byMeans_15 {kA : Nat → ClassId} : or_ok PRD kA GG o_Mo_byMeans_15 := by
  refine or_mk fun A ta ws vs hD hth hl => ?_
  intro t0 r0 t3 r3 t4 k4 t6 k6 t7 k7 t8 r8 t9 k9 t10 k10 t11 k11 d0 d1 d2 d3 d4 d5 f0 f1 f2 f3 f4 f5 f6 f7 f8 f9
  replace f4 := shm_724 f4
  replace f9 := shm_5 f9
  have q3 : n_v vs 3 = n_v vs 0 := f9.symm
  simp only [q3] at f4
  have hrf0 : 0 ≤ v_iv (n_v vs 11) ∧ v_iv (n_v vs 11) ≤ 5775 := vc_Mo_byMeans_15_r0 (v_iv (n_v vs 4)) (v_iv (n_v vs 6)) (v_iv (n_v vs 7)) (v_iv (n_v vs 11)) (w_ei ws (w_ar ws (n_v vs 0) 105)) k4 k6 k11 d1 f4 (shm_966 f6)
  have rf11 : tv_ok ta (0, 0, 5775, []) (n_v vs 11) := tv_in t11 (by first | omega | grind) (by first | omega | grind)
  refine ⟨List.forall_mem_cons.mpr ⟨rf11, (fun _ h => (by cases h))⟩, [], trivial, ?_, (fun _ h => (by cases h))⟩
  rw [List.append_nil]
  exact (fun _ h => (by cases h))
set_option maxHeartbeats 4000000 in
theorem vc_Mo_byMeans_16_0 (x4 : Int) (x6 : Int) (x7 : Int) (x10 : Int) (x11 : Int) (x13 : Int) (x14 : Int) (layerSize_0 : Int → Int) (layerMany_0 : Int) (row_1 : Int → Int) (layerSize_1 : Int → Int) (layerMany_1 : Int) (itemLayer_1 : Int → Int) (layerItem_1 : Int → Int) (items_1 : Int) (items_0 : Int) (itemLayer_0 : Int → Int) (layerItem_0 : Int → Int) (row_0 : Int → Int) (k4 : 0 ≤ x4 ∧ x4 ≤ 75) (k6 : 1 ≤ x6 ∧ x6 ≤ 79) (k7 : 0 ≤ x7 ∧ x7 ≤ 78) (k10 : 0 ≤ x10 ∧ x10 ≤ 5700) (k11 : 0 ≤ x11 ∧ x11 ≤ 5775) (k13 : 0 ≤ x13 ∧ x13 ≤ 75) (k14 : 1 ≤ x14 ∧ x14 ≤ 79) (d0 : x7 + 1 ≤ x14 ∧ x14 ≤ x7 + 1) (f0 : x14 = x7 + 1) (h7 : x13 = row_1 (x7)) (f9 : x11 = x10 + x7) (f10 : x10 = 76 * x4) (f16 : BMW (items_1) (layerMany_1) (itemLayer_1) (layerSize_1) (layerItem_1) (row_1) (x6) (x4) (x7)) (fe_0_100_1 : items_0 = items_1) (fe_0_101_1 : layerMany_0 = layerMany_1) (hE_0_102_1 : ∀ j : Int, itemLayer_0 j = itemLayer_1 j) (hE_0_105_1 : ∀ j : Int, layerSize_0 j = layerSize_1 j) (hE_0_106_1 : ∀ j : Int, 0 ≤ j → (j = x11 → layerItem_0 j = x13) ∧ (j ≠ x11 → layerItem_0 j = layerItem_1 j)) (hE_0_117_1 : ∀ j : Int, row_0 j = row_1 j) (kz_0_100 : 0 ≤ items_0 ∧ items_0 ≤ 76) (kz_0_101 : 0 ≤ layerMany_0 ∧ layerMany_0 ≤ 76) : BMW (items_0) (layerMany_0) (itemLayer_0) (layerSize_0) (layerItem_0) (row_0) (x6) (x4) (x14) := by
  subst fe_0_100_1
  subst fe_0_101_1
  have e_hE_0_102_1 := funext hE_0_102_1; subst e_hE_0_102_1
  have e_hE_0_105_1 := funext hE_0_105_1; subst e_hE_0_105_1
  have e_hE_0_117_1 := funext hE_0_117_1; subst e_hE_0_117_1
  first
    | exact bmw_start ‹LSB _ _ _ _ _› ‹BMR _ _ _ _ _› (by omega) (by omega) (by omega) (by omega)
    | exact bmw_step ‹BMW _ _ _ _ _ _ _ _ _› (by assumption) (by assumption) (by omega) (by assumption)
set_option maxHeartbeats 4000000 in
theorem vc_Mo_byMeans_16_1 (x4 : Int) (x6 : Int) (x7 : Int) (x11 : Int) (x14 : Int) (layerSize_0 : Int → Int) (layerMany_0 : Int) (row_1 : Int → Int) (layerSize_1 : Int → Int) (layerMany_1 : Int) (itemLayer_1 : Int → Int) (items_1 : Int) (items_0 : Int) (itemLayer_0 : Int → Int) (row_0 : Int → Int) (k4 : 0 ≤ x4 ∧ x4 ≤ 75) (k6 : 1 ≤ x6 ∧ x6 ≤ 79) (k7 : 0 ≤ x7 ∧ x7 ≤ 78) (k14 : 1 ≤ x14 ∧ x14 ≤ 79) (d0 : x7 + 1 ≤ x14 ∧ x14 ≤ x7 + 1) (d1 : x6 + (-4294967296) ≤ x14 ∧ x14 ≤ x6 + 0) (d7 : x6 + (-4294967296) ≤ x7 ∧ x7 ≤ x6 + (-1)) (f1 : x6 = layerSize_0 (x4)) (fe_0_100_1 : items_0 = items_1) (fe_0_101_1 : layerMany_0 = layerMany_1) (hE_0_102_1 : ∀ j : Int, itemLayer_0 j = itemLayer_1 j) (hE_0_105_1 : ∀ j : Int, layerSize_0 j = layerSize_1 j) (hE_0_117_1 : ∀ j : Int, row_0 j = row_1 j) (kz_0_100 : 0 ≤ items_0 ∧ items_0 ≤ 76) (kz_0_101 : 0 ≤ layerMany_0 ∧ layerMany_0 ≤ 76) : x14 ≤ x6 := by
  subst fe_0_100_1
  subst fe_0_101_1
  have e_hE_0_102_1 := funext hE_0_102_1; subst e_hE_0_102_1
  have e_hE_0_105_1 := funext hE_0_105_1; subst e_hE_0_105_1
  have e_hE_0_117_1 := funext hE_0_117_1; subst e_hE_0_117_1
  first
    | omega
    | exact lsa_la (p := x11) ‹LSA _ _ _ _ _ _ _ _ _ _› (by omega) (by omega) (by assumption)
    | exact lsa_lb (p := x11) ‹LSA _ _ _ _ _ _ _ _ _ _› (by omega) (by omega) (by assumption)
    | (have h := lsb_sz (l := x1) (n := x4) ‹LSB _ _ _ _ _› (by omega) (by omega) (by assumption); omega)
    | (rw [← (by omega : x11 = 76 * x4 + x7)]; assumption)
def o_Mo_byMeans_16 : or_T := (356, 15, [(0, (2, 0, 0, [165])), (4, (0, 0, 75, [])), (6, (0, 1, 79, [])), (7, (0, 0, 78, [])), (8, (2, 0, 0, [239])), (9, (0, 76, 76, [])), (10, (0, 0, 5700, [])), (11, (0, 0, 5775, [])), (13, (0, 0, 75, [])), (14, (0, 1, 79, []))], [(6, [14, 7], [1]), (20, [6, 3, 4], [50, 0, 1, 1105, 1, 2, 1, 0, 3, 1, 105, 1, 2]), (24, [0, 3], []), (100, [8, 11, 13], []), (10, [13, 12, 7], []), (9, [12, 3], [117]), (1, [11, 10, 7], []), (3, [10, 9, 4], []), (9, [8, 3], [106]), (20, [3, 6, 4, 7], [60, 2, 4, 453, 100, 101, 102, 105, 106, 117])], [], [], [(20, [3, 6, 4, 14], [60, 2, 4, 453, 100, 101, 102, 105, 106, 117]), (20, [14, 6], [50, 0, 0, 0, 2, 1, 0, 1, 1])], [], [(14, 7, 1, 1), (14, 6, -4294967296, 0), (11, 7, 0, 5700), (11, 6, -4294967296, 5699), (11, 6, -4294967296, 5700), (11, 10, 0, 78), (7, 6, -4294967296, -1)])
theorem oo_Mo_byMeans_16 {kA : Nat → ClassId} : or_ok PRD kA GG o_Mo_byMeans_16 := by
  refine or_mk fun A ta ws vs hD hth hl => ?_
  intro t0 r0 t4 k4 t6 k6 t7 k7 t8 r8 t9 k9 t10 k10 t11 k11 t13 k13 t14 k14 d0 d1 d3 d4 d5 d6 d7 f0 f1 f5 ta1 w1 le1 s1 f7 f8 f9 f10 f11 f16
  replace f0 := shm_4 f0
  replace f1 := shm_724 f1
  replace f5 := shm_5 f5
  have s1 : (∀ b j, w_el ws b j = if b = v_ad (n_v vs 8) ∧ j = (v_iv (n_v vs 11)).toNat then v_iv (n_v vs 13) else w_el w1 b j) ∧ ∀ b k, w_fd ws b k = w_fd w1 b k := s1.2
  replace f7 := shm_107 f7
  replace f8 := shm_713 f8
  replace f9 := shm_12 f9
  replace f10 := shm_38 f10
  rw [show v_iv (n_v vs 9) = 76 from by omega] at f10
  replace f11 := shm_679 f11
  replace f16 := shm_726 f16
  have q3 : n_v vs 3 = n_v vs 0 := f5.symm
  simp only [q3] at f1 f8 f11 f16
  have ar_0_102_1 : w_ar w1 (n_v vs 0) 102 = w_ar ws (n_v vs 0) 102 := congrArg v_ad (s1.2 _ _).symm
  have cr_0_102 := fdq_159 hD hth r0
  have ar_0_105_1 : w_ar w1 (n_v vs 0) 105 = w_ar ws (n_v vs 0) 105 := congrArg v_ad (s1.2 _ _).symm
  have cr_0_105 := fdq_122 hD hth r0
  have ar_0_106_1 : w_ar w1 (n_v vs 0) 106 = w_ar ws (n_v vs 0) 106 := congrArg v_ad (s1.2 _ _).symm
  have ar_0_117_1 : w_ar w1 (n_v vs 0) 117 = w_ar ws (n_v vs 0) 117 := congrArg v_ad (s1.2 _ _).symm
  have cr_0_117 := fdq_181 hD hth r0
  have ad_12 : v_ad (n_v vs 12) = w_ar ws (n_v vs 0) 117 := (congrArg v_ad f8).trans ar_0_117_1
  have ad_8 : v_ad (n_v vs 8) = w_ar ws (n_v vs 0) 106 := (congrArg v_ad f11).trans ar_0_106_1
  simp only [ad_12] at f7
  have h7 : v_iv (n_v vs 13) = w_ei w1 (w_ar ws (n_v vs 0) 117) (v_iv (n_v vs 7)) := f7
  simp only [ar_0_105_1, ar_0_102_1, ar_0_106_1, ar_0_117_1] at f16
  have fe_0_100_1 : w_fi ws (n_v vs 0) 100 = w_fi w1 (n_v vs 0) 100 := congrArg v_iv (s1.2 _ _)
  have fe_0_101_1 : w_fi ws (n_v vs 0) 101 = w_fi w1 (n_v vs 0) 101 := congrArg v_iv (s1.2 _ _)
  have hE_0_102_1 : ∀ j : Int, w_ei ws (w_ar ws (n_v vs 0) 102) j = w_ei w1 (w_ar ws (n_v vs 0) 102) j := el_kp s1.1 r8 cr_0_102 (by decide)
  have hE_0_105_1 : ∀ j : Int, w_ei ws (w_ar ws (n_v vs 0) 105) j = w_ei w1 (w_ar ws (n_v vs 0) 105) j := el_kp s1.1 r8 cr_0_105 (by decide)
  have hE_0_106_1 : ∀ j : Int, 0 ≤ j → (j = v_iv (n_v vs 11) → w_ei ws (w_ar ws (n_v vs 0) 106) j = v_iv (n_v vs 13)) ∧ (j ≠ v_iv (n_v vs 11) → w_ei ws (w_ar ws (n_v vs 0) 106) j = w_ei w1 (w_ar ws (n_v vs 0) 106) j) := fun j hj => ⟨fun h => by unfold w_ei; rw [s1.1, if_pos ⟨ad_8.symm, by rw [h]⟩], fun h => by unfold w_ei; rw [s1.1, if_neg (fun e => h (by have := e.2; omega))]⟩
  have hE_0_117_1 : ∀ j : Int, w_ei ws (w_ar ws (n_v vs 0) 117) j = w_ei w1 (w_ar ws (n_v vs 0) 117) j := el_kp s1.1 r8 cr_0_117 (by decide)
  have kz_0_100 := fdq_162 hD hth r0
  have kz_0_101 := fdq_125 hD hth r0
  have nf0 : fc_1 PRD (20, [3, 6, 4, 14], [60, 2, 4, 453, 100, 101, 102, 105, 106, 117]) ws (vs) := by
    refine ⟨nf_in hl rfl, sgq_726 ?_⟩
    · show BMW (w_fi ws (n_v vs 3) 100) (w_fi ws (n_v vs 3) 101) (w_ei ws (w_ar ws (n_v vs 3) 102)) (w_ei ws (w_ar ws (n_v vs 3) 105)) (w_ei ws (w_ar ws (n_v vs 3) 106)) (w_ei ws (w_ar ws (n_v vs 3) 117)) (v_iv (n_v vs 6)) (v_iv (n_v vs 4)) (v_iv (n_v vs 14))
      rw [q3]
      exact vc_Mo_byMeans_16_0 (v_iv (n_v vs 4)) (v_iv (n_v vs 6)) (v_iv (n_v vs 7)) (v_iv (n_v vs 10)) (v_iv (n_v vs 11)) (v_iv (n_v vs 13)) (v_iv (n_v vs 14)) (w_ei ws (w_ar ws (n_v vs 0) 105)) (w_fi ws (n_v vs 0) 101) (w_ei w1 (w_ar ws (n_v vs 0) 117)) (w_ei w1 (w_ar ws (n_v vs 0) 105)) (w_fi w1 (n_v vs 0) 101) (w_ei w1 (w_ar ws (n_v vs 0) 102)) (w_ei w1 (w_ar ws (n_v vs 0) 106)) (w_fi w1 (n_v vs 0) 100) (w_fi ws (n_v vs 0) 100) (w_ei ws (w_ar ws (n_v vs 0) 102)) (w_ei ws (w_ar ws (n_v vs 0) 106)) (w_ei ws (w_ar ws (n_v vs 0) 117)) k4 k6 k7 k10 k11 k13 k14 d0 f0 h7 f9 f10 f16 fe_0_100_1 fe_0_101_1 hE_0_102_1 hE_0_105_1 hE_0_106_1 hE_0_117_1 kz_0_100 kz_0_101
  have nf1 : fc_1 PRD (20, [14, 6], [50, 0, 0, 0, 2, 1, 0, 1, 1]) ws (vs) := ⟨nf_in hl rfl, sgq_360 (vc_Mo_byMeans_16_1 (v_iv (n_v vs 4)) (v_iv (n_v vs 6)) (v_iv (n_v vs 7)) (v_iv (n_v vs 11)) (v_iv (n_v vs 14)) (w_ei ws (w_ar ws (n_v vs 0) 105)) (w_fi ws (n_v vs 0) 101) (w_ei w1 (w_ar ws (n_v vs 0) 117)) (w_ei w1 (w_ar ws (n_v vs 0) 105)) (w_fi w1 (n_v vs 0) 101) (w_ei w1 (w_ar ws (n_v vs 0) 102)) (w_fi w1 (n_v vs 0) 100) (w_fi ws (n_v vs 0) 100) (w_ei ws (w_ar ws (n_v vs 0) 102)) (w_ei ws (w_ar ws (n_v vs 0) 117)) k4 k6 k7 k14 d0 d1 d7 f1 fe_0_100_1 fe_0_101_1 hE_0_102_1 hE_0_105_1 hE_0_117_1 kz_0_100 kz_0_101)⟩
  refine ⟨(fun _ h => (by cases h)), [], trivial, ?_, (fun _ h => (by cases h))⟩
  rw [List.append_nil]
  exact List.forall_mem_cons.mpr ⟨⟨show (20 : Nat) < 100 from by decide, nf0⟩, List.forall_mem_cons.mpr ⟨⟨show (20 : Nat) < 100 from by decide, nf1⟩, (fun _ h => (by cases h))⟩⟩
def n_Mo_byMeans_an : List an_T := [(10, [(0, (2, 0, 0, [165])), (1, (0, 0, 75, [])), (2, (0, 0, 1, [])), (3, (0, 0, 76, [])), (4, (0, 0, 76, []))], [], (0, 0), [(0, 0, 99990), (1, 7, 76), (0, 0, 100000), (0, 0, 0), (0, 0, 0)], [(1, 4, (Int.negSucc 999999999999), 0), (2, 5, (Int.negSucc 999999999999), 0), (4, 1, (Int.negSucc 999999999999), 0), (5, 2, (Int.negSucc 999999999999), 0), (7, 6, (Int.negSucc 999999999999), 0)], [], [(2, 0, 0, [165]), (0, 0, 75, []), (0, 0, 1, [])], 0, [], [(20, [3], [60, 4, 6, 445, 5, 100, 101, 107, 2, 95, 102, 104, 108, 109]), (20, [3], [60, 2, 3, 448, 100, 101, 102, 105, 106]), (20, [6, 3, 4], [50, 0, 1, 1105, 1, 2, 1, 0, 3, 1, 105, 1, 2]), (20, [4, 3], [50, 1, 0, 1101, 2, 6, 0, 2, 0, 0, 1, 0, 0, 6, 4, 2, 1, 0, 0, 1, 2, 1, 101]), (20, [6], [50, 0, 0, 0, 2, 1, 0, 0, 72]), (20, [3, 4, 7], [60, 0, 2, 451, 106, 117]), (24, [0, 3], [])]), (39, [(0, (2, 0, 0, [165])), (1, (0, 0, 75, [])), (2, (0, 0, 1, [])), (3, (0, 1, 76, [])), (4, (0, 0, 75, [])), (5, (0, 0, 75, [])), (6, (1, (Int.negSucc 9223372036854775807), 9223372036854775807, [])), (8, (1, (Int.negSucc 9223372036854775807), 9223372036854775807, [])), (10, (0, 0, 130, []))], [], (0, 0), [(0, 0, 99990), (1, 7, 76), (0, 0, 99961), (1, 11, 130), (0, 0, 100000)], [(1, 4, (Int.negSucc 999999999999), 0), (2, 5, (Int.negSucc 999999999999), 0), (4, 1, (Int.negSucc 999999999999), 0), (5, 2, (Int.negSucc 999999999999), 0), (7, 6, (Int.negSucc 999999999999), (Int.negSucc 0))], [], [(2, 0, 0, [165]), (0, 0, 75, []), (0, 0, 1, [])], 0, [], [(20, [3], [60, 4, 6, 445, 5, 100, 101, 107, 2, 95, 102, 104, 108, 109]), (20, [3], [60, 2, 3, 448, 100, 101, 102, 105, 106]), (20, [6, 3, 4], [50, 0, 1, 1105, 1, 2, 1, 0, 3, 1, 105, 1, 2]), (20, [4, 3], [50, 1, 0, 1101, 2, 6, 0, 2, 0, 0, 1, 0, 0, 6, 4, 2, 1, 0, 0, 1, 2, 1, 101]), (20, [6], [50, 0, 0, 0, 2, 1, 0, 0, 72]), (20, [3, 4, 7], [60, 0, 2, 451, 106, 117]), (20, [7, 6], [50, 0, 0, 0, 6, 4, 2, 1, 0, 0, 1, 1, 1]), (20, [8, 3, 4, 7], [50, 0, 1, 1106, 1, 2, 1, 0, 3, 1, 106, 4, 6, 6, 2, 0, 76, 1, 2, 1, 3]), (24, [0, 3], [])]), (180, [(0, (2, 0, 0, [165])), (1, (0, 0, 75, [])), (2, (0, 0, 1, [])), (3, (0, 0, 79, [])), (4, (0, 1, 80, []))], [], (0, 0), [(0, 0, 99820), (1, 7, 80), (0, 0, 100000), (0, 0, 0), (0, 0, 0)], [(1, 4, (Int.negSucc 999999999999), 0), (2, 5, (Int.negSucc 999999999999), 0), (4, 1, (Int.negSucc 999999999999), 0), (5, 2, (Int.negSucc 999999999999), 0), (7, 6, (Int.negSucc 999999999999), 1)], [], [(2, 0, 0, [165]), (0, 0, 75, []), (0, 0, 1, [])], 0, [], [(20, [3], [60, 4, 6, 445, 5, 100, 101, 107, 2, 95, 102, 104, 108, 109]), (20, [3], [60, 2, 3, 448, 100, 101, 102, 105, 106]), (20, [6, 3, 4], [50, 0, 1, 1105, 1, 2, 1, 0, 3, 1, 105, 1, 2]), (20, [4, 3], [50, 1, 0, 1101, 2, 6, 0, 2, 0, 0, 1, 0, 0, 6, 4, 2, 1, 0, 0, 1, 2, 1, 101]), (20, [6], [50, 0, 0, 0, 2, 1, 0, 0, 72]), (20, [3, 6, 4], [60, 1, 2, 452, 100, 102, 117]), (24, [0, 3], [])]), (190, [(0, (2, 0, 0, [165])), (1, (0, 0, 75, [])), (2, (0, 0, 1, [])), (3, (0, 2, 79, [])), (4, (0, 1, 79, [])), (5, (0, 0, 78, []))], [], (0, 0), [(0, 0, 99820), (1, 7, 80), (0, 0, 99810), (2, 8, 0), (0, 0, 100000)], [(1, 4, (Int.negSucc 999999999999), 0), (2, 5, (Int.negSucc 999999999999), 0), (4, 1, (Int.negSucc 999999999999), 0), (5, 2, (Int.negSucc 999999999999), 0), (7, 6, (Int.negSucc 999999999999), (Int.negSucc 0)), (8, 6, (Int.negSucc 999999999999), (Int.negSucc 0)), (8, 7, (Int.negSucc 999999999999), 0)], [], [(2, 0, 0, [165]), (0, 0, 75, []), (0, 0, 1, [])], 0, [], [(20, [3], [60, 4, 6, 445, 5, 100, 101, 107, 2, 95, 102, 104, 108, 109]), (20, [3], [60, 2, 3, 448, 100, 101, 102, 105, 106]), (20, [6, 3, 4], [50, 0, 1, 1105, 1, 2, 1, 0, 3, 1, 105, 1, 2]), (20, [4, 3], [50, 1, 0, 1101, 2, 6, 0, 2, 0, 0, 1, 0, 0, 6, 4, 2, 1, 0, 0, 1, 2, 1, 101]), (20, [6], [50, 0, 0, 0, 2, 1, 0, 0, 72]), (20, [3, 6, 4], [60, 1, 2, 452, 100, 102, 117]), (20, [8, 7], [50, 0, 0, 0, 2, 1, 0, 1, 1]), (20, [7, 6], [50, 0, 0, 0, 6, 4, 2, 1, 0, 0, 1, 1, 1]), (20, [8], [50, 0, 0, 0, 2, 0, 0, 1, 0]), (24, [0, 3], [])]), (305, [(0, (2, 0, 0, [165])), (1, (0, 0, 75, [])), (2, (0, 0, 1, [])), (3, (0, 2, 79, [])), (4, (0, 1, 79, [])), (5, (0, 1, 75, [])), (6, (1, (Int.negSucc 9223372036854775807), 9223372036854775807, []))], [], (0, 0), [(0, 0, 99820), (1, 7, 80), (0, 0, 99810), (2, 8, 0), (0, 0, 99695)], [(1, 4, (Int.negSucc 999999999999), 0), (2, 5, (Int.negSucc 999999999999), 0), (4, 1, (Int.negSucc 999999999999), 0), (5, 2, (Int.negSucc 999999999999), 0), (7, 6, (Int.negSucc 999999999999), (Int.negSucc 0)), (8, 6, (Int.negSucc 999999999999), (Int.negSucc 0)), (8, 7, (Int.negSucc 999999999999), 0)], [], [(2, 0, 0, [165]), (0, 0, 75, []), (0, 0, 1, [])], 0, [], [(20, [3], [60, 4, 6, 445, 5, 100, 101, 107, 2, 95, 102, 104, 108, 109]), (20, [3], [60, 2, 3, 448, 100, 101, 102, 105, 106]), (20, [6, 3, 4], [50, 0, 1, 1105, 1, 2, 1, 0, 3, 1, 105, 1, 2]), (20, [4, 3], [50, 1, 0, 1101, 2, 6, 0, 2, 0, 0, 1, 0, 0, 6, 4, 2, 1, 0, 0, 1, 2, 1, 101]), (20, [6], [50, 0, 0, 0, 2, 1, 0, 0, 72]), (20, [3, 6, 4], [60, 1, 2, 452, 100, 102, 117]), (20, [8, 7], [50, 0, 0, 0, 2, 1, 0, 1, 1]), (20, [7, 6], [50, 0, 0, 0, 6, 4, 2, 1, 0, 0, 1, 1, 1]), (20, [8], [50, 0, 0, 0, 2, 0, 0, 1, 0]), (20, [8], [50, 0, 0, 0, 2, 0, 1, 1, 0]), (24, [0, 3], [])]), (356, [(0, (2, 0, 0, [165])), (1, (0, 0, 75, [])), (2, (0, 0, 1, [])), (3, (0, 0, 79, [])), (4, (0, 0, 79, []))], [], (0, 0), [(0, 0, 99644), (1, 7, 79), (0, 0, 100000), (0, 0, 0), (0, 0, 0)], [(1, 4, (Int.negSucc 999999999999), 0), (2, 5, (Int.negSucc 999999999999), 0), (4, 1, (Int.negSucc 999999999999), 0), (5, 2, (Int.negSucc 999999999999), 0), (7, 6, (Int.negSucc 999999999999), 0)], [], [(2, 0, 0, [165]), (0, 0, 75, []), (0, 0, 1, [])], 0, [], [(20, [6, 3, 4], [50, 0, 1, 1105, 1, 2, 1, 0, 3, 1, 105, 1, 2]), (20, [4, 3], [50, 1, 0, 1101, 2, 6, 0, 2, 0, 0, 1, 0, 0, 6, 4, 2, 1, 0, 0, 1, 2, 1, 101]), (20, [6], [50, 0, 0, 0, 2, 1, 0, 0, 72]), (20, [3, 6, 4, 7], [60, 2, 4, 453, 100, 101, 102, 105, 106, 117]), (20, [7, 6], [50, 0, 0, 0, 2, 1, 0, 1, 1]), (24, [0, 3], [])])]
def t_Mo_byMeans_ct : ct_L := [(1, 858, e_Mo_placeOf)]
set_option maxRecDepth 100000 in
theorem c_Mo_byMeans {l : Launch} {D : va_G} {kA : Nat → ClassId} (h_Mo_placeOf : ct_ok PRD l D kA GG y_Mo_placeOf z_Mo_placeOf e_Mo_placeOf) : ct_ok PRD l D kA GG y_Mo_byMeans z_Mo_byMeans e_Mo_byMeans := chk_all_ok (FT := [(231, 13, 105), (234, 13, 106), (237, 13, 108), (240, 13, 109), (265, 13, 117), (271, 13, 119), (275, 13, 120), (847, 13, 107)]) (PT := []) (CT := t_Mo_byMeans_ct) (KT := []) (NT := []) (AN := n_Mo_byMeans_an) (OT := [o_Mo_byMeans_0, o_Mo_byMeans_1, o_Mo_byMeans_2, o_Mo_byMeans_3, o_Mo_byMeans_4, o_Mo_byMeans_5, o_Mo_byMeans_6, o_Mo_byMeans_7, o_Mo_byMeans_8, o_Mo_byMeans_9, o_Mo_byMeans_10, o_Mo_byMeans_11, o_Mo_byMeans_12, o_Mo_byMeans_13, o_Mo_byMeans_14, o_Mo_byMeans_15, o_Mo_byMeans_16]) 5 1056 (List.forall_mem_cons.mpr ⟨oo_Mo_byMeans_0, List.forall_mem_cons.mpr ⟨oo_Mo_byMeans_1, List.forall_mem_cons.mpr ⟨oo_Mo_byMeans_2, List.forall_mem_cons.mpr ⟨oo_Mo_byMeans_3, List.forall_mem_cons.mpr ⟨oo_Mo_byMeans_4, List.forall_mem_cons.mpr ⟨oo_Mo_byMeans_5, List.forall_mem_cons.mpr ⟨oo_Mo_byMeans_6, List.forall_mem_cons.mpr ⟨oo_Mo_byMeans_7, List.forall_mem_cons.mpr ⟨oo_Mo_byMeans_8, List.forall_mem_cons.mpr ⟨oo_Mo_byMeans_9, List.forall_mem_cons.mpr ⟨oo_Mo_byMeans_10, List.forall_mem_cons.mpr ⟨oo_Mo_byMeans_11, List.forall_mem_cons.mpr ⟨oo_Mo_byMeans_12, List.forall_mem_cons.mpr ⟨oo_Mo_byMeans_13, List.forall_mem_cons.mpr ⟨oo_Mo_byMeans_14, List.forall_mem_cons.mpr ⟨oo_Mo_byMeans_15, List.forall_mem_cons.mpr ⟨oo_Mo_byMeans_16, List.forall_mem_nil _⟩⟩⟩⟩⟩⟩⟩⟩⟩⟩⟩⟩⟩⟩⟩⟩⟩) (by decide +kernel) ⟨List.forall_mem_cons.mpr ⟨gf_Mo_231, List.forall_mem_cons.mpr ⟨gf_Mo_234, List.forall_mem_cons.mpr ⟨gf_Mo_237, List.forall_mem_cons.mpr ⟨gf_Mo_240, List.forall_mem_cons.mpr ⟨gf_Mo_265, List.forall_mem_cons.mpr ⟨gf_Mo_271, List.forall_mem_cons.mpr ⟨gf_Mo_275, List.forall_mem_cons.mpr ⟨gf_Mo_847, List.forall_mem_nil _⟩⟩⟩⟩⟩⟩⟩⟩, List.forall_mem_nil _, List.forall_mem_cons.mpr ⟨cl_virtual (y := y_Mo_placeOf) (ci := 13) rfl rfl ⟨_, _, rfl⟩ (by decide +kernel) h_Mo_placeOf wm_3442 wm_9 wm_3439 wm_3441 wv_18_12 ⟨by decide, by decide, by decide +kernel⟩ (by decide), List.forall_mem_nil _⟩, List.forall_mem_nil _, List.forall_mem_nil _, GG_pl⟩ (by decide +kernel)

set_option maxHeartbeats 4000000 in
theorem vc_Mo_choose_0_0 (x1 : Int) (pieceOf_0 : Int → Int) (ends_0 : Int → Int) (faceNodes_0 : Int → Int) (pm_0 : Int) (faces_0 : Int) (k1 : (-1) ≤ x1 ∧ x1 ≤ (-1)) (kz_0_32 : 0 ≤ pm_0 ∧ pm_0 ≤ 80) (kz_0_39 : 0 ≤ faces_0 ∧ faces_0 ≤ 120) : CH1 (pm_0) (faces_0) (pieceOf_0) (ends_0) (faceNodes_0) (x1) := by
  first
    | assumption
    | exact Or.inl (by omega)
    | (have h := ‹CH2 _ _ _ _ _ _›
       rcases h.2.2 with z | ⟨g, a, b, c⟩
       · exfalso; omega
       · exact Or.inr ⟨by omega, by omega, h.1, g, a, by omega, c⟩)
def o_Mo_choose_0 : or_T := (8, 4, [(0, (2, 0, 0, [165])), (1, (0, -1, -1, []))], [], [], [], [(20, [0, 1], [60, 2, 3, 118, 32, 39, 44, 50, 51]), (24, [0, 0], [])], [], [])
theorem oo_Mo_choose_0 {kA : Nat → ClassId} : or_ok PRD kA GG o_Mo_choose_0 := by
  refine or_mk fun A ta ws vs hD hth hl => ?_
  intro t0 r0 t1 k1
  have kz_0_32 := fdq_140 hD hth r0
  have kz_0_39 := fdq_135 hD hth r0
  have nf0 : fc_1 PRD (20, [0, 1], [60, 2, 3, 118, 32, 39, 44, 50, 51]) ws (vs) := ⟨nf_in hl rfl, sgq_973 (vc_Mo_choose_0_0 (v_iv (n_v vs 1)) (w_ei ws (w_ar ws (n_v vs 0) 44)) (w_ei ws (w_ar ws (n_v vs 0) 50)) (w_ei ws (w_ar ws (n_v vs 0) 51)) (w_fi ws (n_v vs 0) 32) (w_fi ws (n_v vs 0) 39) k1 kz_0_32 kz_0_39)⟩
  have nf1 : fc_1 PRD (24, [0, 0], []) ws (vs) := by
    refine ⟨nf_in hl rfl, sgq_1 ?_⟩
    · show n_v vs 0 = n_v vs 0
      first | rfl | simp only [true_and]
  refine ⟨(fun _ h => (by cases h)), [], trivial, ?_, (fun _ h => (by cases h))⟩
  rw [List.append_nil]
  exact List.forall_mem_cons.mpr ⟨⟨show (20 : Nat) < 100 from by decide, nf0⟩, List.forall_mem_cons.mpr ⟨⟨show (24 : Nat) < 100 from by decide, nf1⟩, (fun _ h => (by cases h))⟩⟩
set_option maxHeartbeats 4000000 in
theorem vc_Mo_choose_1_0 (x2 : Int) (pm_0 : Int) (pieceOf_0 : Int → Int) (ends_0 : Int → Int) (faceNodes_0 : Int → Int) (faces_0 : Int) (k2 : (-1) ≤ x2 ∧ x2 ≤ 79) (f2 : CH1 (pm_0) (faces_0) (pieceOf_0) (ends_0) (faceNodes_0) (x2)) (kz_0_32 : 0 ≤ pm_0 ∧ pm_0 ≤ 80) (kz_0_39 : 0 ≤ faces_0 ∧ faces_0 ≤ 120) : CH1 (pm_0) (faces_0) (pieceOf_0) (ends_0) (faceNodes_0) (x2) := by
  assumption
def o_Mo_choose_1 : or_T := (95, 6, [(0, (2, 0, 0, [165])), (2, (0, -1, 79, []))], [(20, [1, 2], [60, 2, 3, 118, 32, 39, 44, 50, 51]), (24, [0, 1], [])], [], [], [(20, [0, 2], [60, 2, 3, 118, 32, 39, 44, 50, 51])], [], [])
theorem oo_Mo_choose_1 {kA : Nat → ClassId} : or_ok PRD kA GG o_Mo_choose_1 := by
  refine or_mk fun A ta ws vs hD hth hl => ?_
  intro t0 r0 t2 k2 f2 f3
  replace f2 := shm_973 f2
  replace f3 := shm_5 f3
  have q1 : n_v vs 1 = n_v vs 0 := f3.symm
  simp only [q1] at f2
  have kz_0_32 := fdq_140 hD hth r0
  have kz_0_39 := fdq_135 hD hth r0
  have nf0 : fc_1 PRD (20, [0, 2], [60, 2, 3, 118, 32, 39, 44, 50, 51]) ws (vs) := ⟨nf_in hl rfl, sgq_973 (vc_Mo_choose_1_0 (v_iv (n_v vs 2)) (w_fi ws (n_v vs 0) 32) (w_ei ws (w_ar ws (n_v vs 0) 44)) (w_ei ws (w_ar ws (n_v vs 0) 50)) (w_ei ws (w_ar ws (n_v vs 0) 51)) (w_fi ws (n_v vs 0) 39) k2 f2 kz_0_32 kz_0_39)⟩
  refine ⟨(fun _ h => (by cases h)), [], trivial, ?_, (fun _ h => (by cases h))⟩
  rw [List.append_nil]
  exact List.forall_mem_cons.mpr ⟨⟨show (20 : Nat) < 100 from by decide, nf0⟩, (fun _ h => (by cases h))⟩
set_option maxHeartbeats 4000000 in
theorem vc_Mo_choose_2_0 (x4 : Int) (x7 : Int) (x8 : Int) (x9 : Int) (pieceOf_0 : Int → Int) (ends_0 : Int → Int) (faceNodes_0 : Int → Int) (k4 : 0 ≤ x4 ∧ x4 ≤ 79) (k7 : 0 ≤ x7 ∧ x7 ≤ 79) (k8 : 0 ≤ x8 ∧ x8 ≤ 0) (k9 : 0 ≤ x9 ∧ x9 ≤ 0) (d0 : x4 + 0 ≤ x7 ∧ x7 ≤ x4 + 0) (h1 : x7 = pieceOf_0 (x4)) : CH2 (pieceOf_0) (ends_0) (faceNodes_0) (x4) (x9) (x8) := by
  first
    | exact ⟨by omega, by omega, Or.inl (by omega)⟩
    | (have h := ‹CH2 _ _ _ _ _ _›
       refine ⟨h.1, by have := h.2.1; omega, ?_⟩
       first
         | exact Or.inr ⟨x6, by omega, by omega, ‹FIT _ _ _ _ _›.mp (by omega)⟩
         | (rcases h.2.2 with z | ⟨g, a, b, c⟩
            · exact Or.inl (by omega)
            · exact Or.inr ⟨g, a, by omega, c⟩))
set_option maxHeartbeats 4000000 in
theorem vc_Mo_choose_2_1 (x4 : Int) (x5 : Int) (x7 : Int) (pieceOf_0 : Int → Int) (pm_0 : Int) (k4 : 0 ≤ x4 ∧ x4 ≤ 79) (k5 : 1 ≤ x5 ∧ x5 ≤ 80) (k7 : 0 ≤ x7 ∧ x7 ≤ 79) (d0 : x4 + 0 ≤ x7 ∧ x7 ≤ x4 + 0) (d1 : x5 + (-4294967296) ≤ x4 ∧ x4 ≤ x5 + (-1)) (h1 : x7 = pieceOf_0 (x4)) (g4 : x5 = pm_0) (kz_0_32 : 0 ≤ pm_0 ∧ pm_0 ≤ 80) : 1 * x4 + ((-1) * pm_0 + 0) ≤ (-1) := by
  first | omega
set_option maxHeartbeats 4000000 in
theorem vc_Mo_choose_2_2 (x9 : Int) (faces_0 : Int) (k9 : 0 ≤ x9 ∧ x9 ≤ 0) (kz_0_39 : 0 ≤ faces_0 ∧ faces_0 ≤ 120) : 1 * x9 + ((-1) * faces_0 + 0) ≤ 0 := by
  first | omega
def o_Mo_choose_2 : or_T := (35, 10, [(0, (2, 0, 0, [165])), (4, (0, 0, 79, [])), (5, (0, 1, 80, [])), (7, (0, 0, 79, [])), (8, (0, 0, 0, [])), (9, (0, 0, 0, []))], [(10, [7, 6, 4], []), (9, [6, 1], [44]), (9, [5, 1], [32]), (24, [0, 1], [])], [], [], [(20, [1, 4, 9, 8], [60, 0, 3, 119, 44, 50, 51]), (20, [4, 1], [30, -1, 1, 0, 0, -1, 1, 32]), (20, [9, 1], [30, 0, 1, 0, 0, -1, 1, 39])], [], [(7, 4, 0, 0), (4, 5, -4294967296, -1)])
theorem oo_Mo_choose_2 {kA : Nat → ClassId} : or_ok PRD kA GG o_Mo_choose_2 := by
  refine or_mk fun A ta ws vs hD hth hl => ?_
  intro t0 r0 t4 k4 t5 k5 t7 k7 t8 k8 t9 k9 d0 d1 f1 f2 f4 f6
  replace f1 := shm_107 f1
  replace f2 := shm_533 f2
  replace f4 := shm_525 f4
  replace f6 := shm_5 f6
  have q1 : n_v vs 1 = n_v vs 0 := f6.symm
  simp only [q1] at f2 f4
  have ad_6 : v_ad (n_v vs 6) = w_ar ws (n_v vs 0) 44 := congrArg v_ad f2
  simp only [ad_6] at f1
  have h1 : v_iv (n_v vs 7) = w_ei ws (w_ar ws (n_v vs 0) 44) (v_iv (n_v vs 4)) := f1
  have g4 : v_iv (n_v vs 5) = w_fi ws (n_v vs 0) 32 := congrArg v_iv f4
  have kz_0_32 := fdq_140 hD hth r0
  have kz_0_39 := fdq_135 hD hth r0
  have nf0 : fc_1 PRD (20, [1, 4, 9, 8], [60, 0, 3, 119, 44, 50, 51]) ws (vs) := by
    refine ⟨nf_in hl rfl, sgq_974 ?_⟩
    · show CH2 (w_ei ws (w_ar ws (n_v vs 1) 44)) (w_ei ws (w_ar ws (n_v vs 1) 50)) (w_ei ws (w_ar ws (n_v vs 1) 51)) (v_iv (n_v vs 4)) (v_iv (n_v vs 9)) (v_iv (n_v vs 8))
      rw [q1]
      exact vc_Mo_choose_2_0 (v_iv (n_v vs 4)) (v_iv (n_v vs 7)) (v_iv (n_v vs 8)) (v_iv (n_v vs 9)) (w_ei ws (w_ar ws (n_v vs 0) 44)) (w_ei ws (w_ar ws (n_v vs 0) 50)) (w_ei ws (w_ar ws (n_v vs 0) 51)) k4 k7 k8 k9 d0 h1
  have nf1 : fc_1 PRD (20, [4, 1], [30, -1, 1, 0, 0, -1, 1, 32]) ws (vs) := by
    refine ⟨nf_in hl rfl, sgq_975 ?_⟩
    · show 1 * v_iv (n_v vs 4) + ((-1) * w_fi ws (n_v vs 1) 32 + 0) ≤ (-1)
      rw [q1]
      exact vc_Mo_choose_2_1 (v_iv (n_v vs 4)) (v_iv (n_v vs 5)) (v_iv (n_v vs 7)) (w_ei ws (w_ar ws (n_v vs 0) 44)) (w_fi ws (n_v vs 0) 32) k4 k5 k7 d0 d1 h1 g4 kz_0_32
  have nf2 : fc_1 PRD (20, [9, 1], [30, 0, 1, 0, 0, -1, 1, 39]) ws (vs) := by
    refine ⟨nf_in hl rfl, sgq_976 ?_⟩
    · show 1 * v_iv (n_v vs 9) + ((-1) * w_fi ws (n_v vs 1) 39 + 0) ≤ 0
      rw [q1]
      exact vc_Mo_choose_2_2 (v_iv (n_v vs 9)) (w_fi ws (n_v vs 0) 39) k9 kz_0_39
  refine ⟨(fun _ h => (by cases h)), [], trivial, ?_, (fun _ h => (by cases h))⟩
  rw [List.append_nil]
  exact List.forall_mem_cons.mpr ⟨⟨show (20 : Nat) < 100 from by decide, nf0⟩, List.forall_mem_cons.mpr ⟨⟨show (20 : Nat) < 100 from by decide, nf1⟩, List.forall_mem_cons.mpr ⟨⟨show (20 : Nat) < 100 from by decide, nf2⟩, (fun _ h => (by cases h))⟩⟩⟩
set_option maxHeartbeats 4000000 in
theorem vc_Mo_choose_3_0 (x4 : Int) (x5 : Int) (x6 : Int) (x7 : Int) (x8 : Int) (faces_0 : Int) (pieceOf_0 : Int → Int) (ends_0 : Int → Int) (faceNodes_0 : Int → Int) (pm_0 : Int) (k4 : 0 ≤ x4 ∧ x4 ≤ 79) (k5 : 1 ≤ x5 ∧ x5 ≤ 120) (k6 : 1 ≤ x6 ∧ x6 ≤ 120) (k7 : 0 ≤ x7 ∧ x7 ≤ 120) (k8 : 1 ≤ x8 ∧ x8 ≤ 80) (d0 : x4 + 1 ≤ x8 ∧ x8 ≤ x4 + 1) (d2 : x7 + 0 ≤ x6 ∧ x6 ≤ x7 + 4294967296) (g4 : x7 = faces_0) (f6 : CH2 (pieceOf_0) (ends_0) (faceNodes_0) (x4) (x6) (x5)) (f7 : 1 * x4 + ((-1) * pm_0 + 0) ≤ (-1)) (f8 : 1 * x6 + ((-1) * faces_0 + 0) ≤ 0) (kz_0_32 : 0 ≤ pm_0 ∧ pm_0 ≤ 80) (kz_0_39 : 0 ≤ faces_0 ∧ faces_0 ≤ 120) : CH1 (pm_0) (faces_0) (pieceOf_0) (ends_0) (faceNodes_0) (x4) := by
  first
    | assumption
    | exact Or.inl (by omega)
    | (have h := ‹CH2 _ _ _ _ _ _›
       rcases h.2.2 with z | ⟨g, a, b, c⟩
       · exfalso; omega
       · exact Or.inr ⟨by omega, by omega, h.1, g, a, by omega, c⟩)
def o_Mo_choose_3 : or_T := (8, 9, [(0, (2, 0, 0, [165])), (4, (0, 0, 79, [])), (5, (0, 1, 120, [])), (6, (0, 1, 120, [])), (7, (0, 0, 120, [])), (8, (0, 1, 80, []))], [(9, [7, 1], [39]), (20, [1, 4, 6, 5], [60, 0, 3, 119, 44, 50, 51]), (20, [4, 1], [30, -1, 1, 0, 0, -1, 1, 32]), (20, [6, 1], [30, 0, 1, 0, 0, -1, 1, 39]), (24, [0, 1], [])], [], [], [(20, [1, 4], [60, 2, 3, 118, 32, 39, 44, 50, 51])], [], [(8, 4, 1, 1), (6, 7, 0, 4294967296)])
theorem oo_Mo_choose_3 {kA : Nat → ClassId} : or_ok PRD kA GG o_Mo_choose_3 := by
  refine or_mk fun A ta ws vs hD hth hl => ?_
  intro t0 r0 t4 k4 t5 k5 t6 k6 t7 k7 t8 k8 d0 d2 f4 f6 f7 f8 f9
  replace f4 := shm_516 f4
  replace f6 := shm_974 f6
  replace f7 := shm_975 f7
  replace f8 := shm_976 f8
  replace f9 := shm_5 f9
  have q1 : n_v vs 1 = n_v vs 0 := f9.symm
  simp only [q1] at f4 f6 f7 f8
  have g4 : v_iv (n_v vs 7) = w_fi ws (n_v vs 0) 39 := congrArg v_iv f4
  have kz_0_32 := fdq_140 hD hth r0
  have kz_0_39 := fdq_135 hD hth r0
  have nf0 : fc_1 PRD (20, [1, 4], [60, 2, 3, 118, 32, 39, 44, 50, 51]) ws (vs) := by
    refine ⟨nf_in hl rfl, sgq_973 ?_⟩
    · show CH1 (w_fi ws (n_v vs 1) 32) (w_fi ws (n_v vs 1) 39) (w_ei ws (w_ar ws (n_v vs 1) 44)) (w_ei ws (w_ar ws (n_v vs 1) 50)) (w_ei ws (w_ar ws (n_v vs 1) 51)) (v_iv (n_v vs 4))
      rw [q1]
      exact vc_Mo_choose_3_0 (v_iv (n_v vs 4)) (v_iv (n_v vs 5)) (v_iv (n_v vs 6)) (v_iv (n_v vs 7)) (v_iv (n_v vs 8)) (w_fi ws (n_v vs 0) 39) (w_ei ws (w_ar ws (n_v vs 0) 44)) (w_ei ws (w_ar ws (n_v vs 0) 50)) (w_ei ws (w_ar ws (n_v vs 0) 51)) (w_fi ws (n_v vs 0) 32) k4 k5 k6 k7 k8 d0 d2 g4 f6 f7 f8 kz_0_32 kz_0_39
  refine ⟨(fun _ h => (by cases h)), [], trivial, ?_, (fun _ h => (by cases h))⟩
  rw [List.append_nil]
  exact List.forall_mem_cons.mpr ⟨⟨show (20 : Nat) < 100 from by decide, nf0⟩, (fun _ h => (by cases h))⟩
set_option maxHeartbeats 4000000 in
theorem vc_Mo_choose_4_0 (x8 : Int) (faces_0 : Int) (pieceOf_0 : Int → Int) (ends_0 : Int → Int) (faceNodes_0 : Int → Int) (pm_0 : Int) (k8 : (-1) ≤ x8 ∧ x8 ≤ (-1)) (kz_0_32 : 0 ≤ pm_0 ∧ pm_0 ≤ 80) (kz_0_39 : 0 ≤ faces_0 ∧ faces_0 ≤ 120) : CH1 (pm_0) (faces_0) (pieceOf_0) (ends_0) (faceNodes_0) (x8) := by
  exact Or.inl (by omega)
def o_Mo_choose_4 : or_T := (76, 9, [(0, (2, 0, 0, [165])), (8, (0, -1, -1, []))], [], [], [], [(20, [0, 8], [60, 2, 3, 118, 32, 39, 44, 50, 51])], [], [])
theorem oo_Mo_choose_4 {kA : Nat → ClassId} : or_ok PRD kA GG o_Mo_choose_4 := by
  refine or_mk fun A ta ws vs hD hth hl => ?_
  intro t0 r0 t8 k8
  have kz_0_32 := fdq_140 hD hth r0
  have kz_0_39 := fdq_135 hD hth r0
  have nf0 : fc_1 PRD (20, [0, 8], [60, 2, 3, 118, 32, 39, 44, 50, 51]) ws (vs) := ⟨nf_in hl rfl, sgq_973 (vc_Mo_choose_4_0 (v_iv (n_v vs 8)) (w_fi ws (n_v vs 0) 39) (w_ei ws (w_ar ws (n_v vs 0) 44)) (w_ei ws (w_ar ws (n_v vs 0) 50)) (w_ei ws (w_ar ws (n_v vs 0) 51)) (w_fi ws (n_v vs 0) 32) k8 kz_0_32 kz_0_39)⟩
  refine ⟨(fun _ h => (by cases h)), [], trivial, ?_, (fun _ h => (by cases h))⟩
  rw [List.append_nil]
  exact List.forall_mem_cons.mpr ⟨⟨show (20 : Nat) < 100 from by decide, nf0⟩, (fun _ h => (by cases h))⟩
set_option maxHeartbeats 4000000 in
theorem vc_Mo_choose_5_0 (x4 : Int) (x5 : Int) (x6 : Int) (x10 : Int) (x11 : Int) (ends_0 : Int → Int) (faceNodes_0 : Int → Int) (pieceOf_0 : Int → Int) (k4 : 0 ≤ x4 ∧ x4 ≤ 79) (k5 : 0 ≤ x5 ∧ x5 ≤ 119) (k6 : 0 ≤ x6 ∧ x6 ≤ 119) (k10 : 0 ≤ x10 ∧ x10 ≤ 119) (k11 : 1 ≤ x11 ∧ x11 ≤ 120) (d0 : x6 + 1 ≤ x11 ∧ x11 ≤ x6 + 1) (d2 : x5 + 0 ≤ x10 ∧ x10 ≤ x5 + 0) (f7 : CH2 (pieceOf_0) (ends_0) (faceNodes_0) (x4) (x6) (x5)) : CH2 (pieceOf_0) (ends_0) (faceNodes_0) (x4) (x11) (x10) := by
  first
    | exact ⟨by omega, by omega, Or.inl (by omega)⟩
    | (have h := ‹CH2 _ _ _ _ _ _›
       refine ⟨h.1, by have := h.2.1; omega, ?_⟩
       first
         | exact Or.inr ⟨x6, by omega, by omega, ‹FIT _ _ _ _ _›.mp (by omega)⟩
         | (rcases h.2.2 with z | ⟨g, a, b, c⟩
            · exact Or.inl (by omega)
            · exact Or.inr ⟨g, a, by omega, c⟩))
set_option maxHeartbeats 4000000 in
theorem vc_Mo_choose_5_1 (x6 : Int) (x7 : Int) (x11 : Int) (faces_0 : Int) (k6 : 0 ≤ x6 ∧ x6 ≤ 119) (k7 : 1 ≤ x7 ∧ x7 ≤ 120) (k11 : 1 ≤ x11 ∧ x11 ≤ 120) (d0 : x6 + 1 ≤ x11 ∧ x11 ≤ x6 + 1) (d1 : x7 + (-4294967296) ≤ x11 ∧ x11 ≤ x7 + 0) (d4 : x7 + (-4294967296) ≤ x6 ∧ x6 ≤ x7 + (-1)) (g5 : x7 = faces_0) (kz_0_39 : 0 ≤ faces_0 ∧ faces_0 ≤ 120) : 1 * x11 + ((-1) * faces_0 + 0) ≤ 0 := by
  first | omega
def o_Mo_choose_5 : or_T := (35, 12, [(0, (2, 0, 0, [165])), (1, (2, 0, 0, [165])), (2, (0, -1, 78, [])), (4, (0, 0, 79, [])), (5, (0, 0, 119, [])), (6, (0, 0, 119, [])), (7, (0, 1, 120, [])), (8, (0, 0, 0, [])), (9, (0, 0, 0, [])), (10, (0, 0, 119, [])), (11, (0, 1, 120, []))], [(6, [11, 6], [1]), (1, [10, 5, 9], []), (8, [8], [0]), (20, [1, 4, 6, 8], [60, 0, 2, 115, 50, 51]), (7, [6, 7], [2]), (9, [7, 1], [39]), (20, [1, 2], [60, 2, 3, 118, 32, 39, 44, 50, 51]), (20, [1, 4, 6, 5], [60, 0, 3, 119, 44, 50, 51]), (20, [4, 1], [30, -1, 1, 0, 0, -1, 1, 32]), (20, [6, 1], [30, 0, 1, 0, 0, -1, 1, 39]), (24, [0, 1], [])], [], [], [(20, [1, 4, 11, 10], [60, 0, 3, 119, 44, 50, 51]), (20, [11, 1], [30, 0, 1, 0, 0, -1, 1, 39])], [], [(11, 6, 1, 1), (11, 7, -4294967296, 0), (10, 5, 0, 0), (10, 6, -4294967296, 0), (6, 7, -4294967296, -1), (2, 4, -4294967296, -1), (5, 6, -4294967296, 0)])
theorem oo_Mo_choose_5 {kA : Nat → ClassId} : or_ok PRD kA GG o_Mo_choose_5 := by
  refine or_mk fun A ta ws vs hD hth hl => ?_
  intro t0 r0 t1 r1 t2 k2 t4 k4 t5 k5 t6 k6 t7 k7 t8 k8 t9 k9 t10 k10 t11 k11 d0 d1 d2 d3 d4 d5 d6 f0 f1 f2 f3 f4 f5 f6 f7 f8 f9 f10
  replace f5 := shm_516 f5
  replace f7 := shm_974 f7
  replace f10 := shm_5 f10
  have q1 : n_v vs 1 = n_v vs 0 := f10.symm
  simp only [q1] at f5 f7
  have g5 : v_iv (n_v vs 7) = w_fi ws (n_v vs 0) 39 := congrArg v_iv f5
  have kz_0_39 := fdq_135 hD hth r0
  have nf0 : fc_1 PRD (20, [1, 4, 11, 10], [60, 0, 3, 119, 44, 50, 51]) ws (vs) := by
    refine ⟨nf_in hl rfl, sgq_974 ?_⟩
    · show CH2 (w_ei ws (w_ar ws (n_v vs 1) 44)) (w_ei ws (w_ar ws (n_v vs 1) 50)) (w_ei ws (w_ar ws (n_v vs 1) 51)) (v_iv (n_v vs 4)) (v_iv (n_v vs 11)) (v_iv (n_v vs 10))
      rw [q1]
      exact vc_Mo_choose_5_0 (v_iv (n_v vs 4)) (v_iv (n_v vs 5)) (v_iv (n_v vs 6)) (v_iv (n_v vs 10)) (v_iv (n_v vs 11)) (w_ei ws (w_ar ws (n_v vs 0) 50)) (w_ei ws (w_ar ws (n_v vs 0) 51)) (w_ei ws (w_ar ws (n_v vs 0) 44)) k4 k5 k6 k10 k11 d0 d2 f7
  have nf1 : fc_1 PRD (20, [11, 1], [30, 0, 1, 0, 0, -1, 1, 39]) ws (vs) := by
    refine ⟨nf_in hl rfl, sgq_976 ?_⟩
    · show 1 * v_iv (n_v vs 11) + ((-1) * w_fi ws (n_v vs 1) 39 + 0) ≤ 0
      rw [q1]
      exact vc_Mo_choose_5_1 (v_iv (n_v vs 6)) (v_iv (n_v vs 7)) (v_iv (n_v vs 11)) (w_fi ws (n_v vs 0) 39) k6 k7 k11 d0 d1 d4 g5 kz_0_39
  refine ⟨(fun _ h => (by cases h)), [], trivial, ?_, (fun _ h => (by cases h))⟩
  rw [List.append_nil]
  exact List.forall_mem_cons.mpr ⟨⟨show (20 : Nat) < 100 from by decide, nf0⟩, List.forall_mem_cons.mpr ⟨⟨show (20 : Nat) < 100 from by decide, nf1⟩, (fun _ h => (by cases h))⟩⟩
set_option maxHeartbeats 4000000 in
theorem vc_Mo_choose_6_0 (x4 : Int) (x5 : Int) (x6 : Int) (x8 : Int) (x10 : Int) (x11 : Int) (ends_0 : Int → Int) (faceNodes_0 : Int → Int) (pieceOf_0 : Int → Int) (k4 : 0 ≤ x4 ∧ x4 ≤ 79) (k5 : 0 ≤ x5 ∧ x5 ≤ 119) (k6 : 0 ≤ x6 ∧ x6 ≤ 119) (k8 : 1 ≤ x8 ∧ x8 ≤ 1) (k10 : 1 ≤ x10 ∧ x10 ≤ 120) (k11 : 1 ≤ x11 ∧ x11 ≤ 120) (d0 : x6 + 1 ≤ x11 ∧ x11 ≤ x6 + 1) (f2 : x8 ≠ 0) (f3 : FIT (ends_0) (faceNodes_0) (x4) (x6) (x8)) (f7 : CH2 (pieceOf_0) (ends_0) (faceNodes_0) (x4) (x6) (x5)) : CH2 (pieceOf_0) (ends_0) (faceNodes_0) (x4) (x11) (x10) := by
  first
    | exact ⟨by omega, by omega, Or.inl (by omega)⟩
    | (have h := ‹CH2 _ _ _ _ _ _›
       refine ⟨h.1, by have := h.2.1; omega, ?_⟩
       first
         | exact Or.inr ⟨x6, by omega, by omega, ‹FIT _ _ _ _ _›.mp (by omega)⟩
         | (rcases h.2.2 with z | ⟨g, a, b, c⟩
            · exact Or.inl (by omega)
            · exact Or.inr ⟨g, a, by omega, c⟩))
set_option maxHeartbeats 4000000 in
theorem vc_Mo_choose_6_1 (x6 : Int) (x7 : Int) (x11 : Int) (faces_0 : Int) (k6 : 0 ≤ x6 ∧ x6 ≤ 119) (k7 : 1 ≤ x7 ∧ x7 ≤ 120) (k11 : 1 ≤ x11 ∧ x11 ≤ 120) (d0 : x6 + 1 ≤ x11 ∧ x11 ≤ x6 + 1) (d1 : x7 + (-4294967296) ≤ x11 ∧ x11 ≤ x7 + 0) (d4 : x7 + (-4294967296) ≤ x6 ∧ x6 ≤ x7 + (-1)) (g5 : x7 = faces_0) (kz_0_39 : 0 ≤ faces_0 ∧ faces_0 ≤ 120) : 1 * x11 + ((-1) * faces_0 + 0) ≤ 0 := by
  first | omega
def o_Mo_choose_6 : or_T := (35, 12, [(0, (2, 0, 0, [165])), (1, (2, 0, 0, [165])), (2, (0, -1, 78, [])), (4, (0, 0, 79, [])), (5, (0, 0, 119, [])), (6, (0, 0, 119, [])), (7, (0, 1, 120, [])), (8, (0, 1, 1, [])), (9, (0, 1, 1, [])), (10, (0, 1, 120, [])), (11, (0, 1, 120, []))], [(6, [11, 6], [1]), (1, [10, 5, 9], []), (8, [8], [1]), (20, [1, 4, 6, 8], [60, 0, 2, 115, 50, 51]), (7, [6, 7], [2]), (9, [7, 1], [39]), (20, [1, 2], [60, 2, 3, 118, 32, 39, 44, 50, 51]), (20, [1, 4, 6, 5], [60, 0, 3, 119, 44, 50, 51]), (20, [4, 1], [30, -1, 1, 0, 0, -1, 1, 32]), (20, [6, 1], [30, 0, 1, 0, 0, -1, 1, 39]), (24, [0, 1], [])], [], [], [(20, [1, 4, 11, 10], [60, 0, 3, 119, 44, 50, 51]), (20, [11, 1], [30, 0, 1, 0, 0, -1, 1, 39])], [], [(11, 6, 1, 1), (11, 7, -4294967296, 0), (10, 5, 1, 1), (10, 6, -4294967296, 1), (6, 7, -4294967296, -1), (2, 4, -4294967296, -1), (5, 6, -4294967296, 0)])
theorem oo_Mo_choose_6 {kA : Nat → ClassId} : or_ok PRD kA GG o_Mo_choose_6 := by
  refine or_mk fun A ta ws vs hD hth hl => ?_
  intro t0 r0 t1 r1 t2 k2 t4 k4 t5 k5 t6 k6 t7 k7 t8 k8 t9 k9 t10 k10 t11 k11 d0 d1 d2 d3 d4 d5 d6 f0 f1 f2 f3 f4 f5 f6 f7 f8 f9 f10
  replace f2 := shm_142 f2
  replace f3 := shm_574 f3
  replace f5 := shm_516 f5
  replace f7 := shm_974 f7
  replace f10 := shm_5 f10
  have q1 : n_v vs 1 = n_v vs 0 := f10.symm
  simp only [q1] at f3 f5 f7
  have g5 : v_iv (n_v vs 7) = w_fi ws (n_v vs 0) 39 := congrArg v_iv f5
  have kz_0_39 := fdq_135 hD hth r0
  have nf0 : fc_1 PRD (20, [1, 4, 11, 10], [60, 0, 3, 119, 44, 50, 51]) ws (vs) := by
    refine ⟨nf_in hl rfl, sgq_974 ?_⟩
    · show CH2 (w_ei ws (w_ar ws (n_v vs 1) 44)) (w_ei ws (w_ar ws (n_v vs 1) 50)) (w_ei ws (w_ar ws (n_v vs 1) 51)) (v_iv (n_v vs 4)) (v_iv (n_v vs 11)) (v_iv (n_v vs 10))
      rw [q1]
      exact vc_Mo_choose_6_0 (v_iv (n_v vs 4)) (v_iv (n_v vs 5)) (v_iv (n_v vs 6)) (v_iv (n_v vs 8)) (v_iv (n_v vs 10)) (v_iv (n_v vs 11)) (w_ei ws (w_ar ws (n_v vs 0) 50)) (w_ei ws (w_ar ws (n_v vs 0) 51)) (w_ei ws (w_ar ws (n_v vs 0) 44)) k4 k5 k6 k8 k10 k11 d0 f2 f3 f7
  have nf1 : fc_1 PRD (20, [11, 1], [30, 0, 1, 0, 0, -1, 1, 39]) ws (vs) := by
    refine ⟨nf_in hl rfl, sgq_976 ?_⟩
    · show 1 * v_iv (n_v vs 11) + ((-1) * w_fi ws (n_v vs 1) 39 + 0) ≤ 0
      rw [q1]
      exact vc_Mo_choose_6_1 (v_iv (n_v vs 6)) (v_iv (n_v vs 7)) (v_iv (n_v vs 11)) (w_fi ws (n_v vs 0) 39) k6 k7 k11 d0 d1 d4 g5 kz_0_39
  refine ⟨(fun _ h => (by cases h)), [], trivial, ?_, (fun _ h => (by cases h))⟩
  rw [List.append_nil]
  exact List.forall_mem_cons.mpr ⟨⟨show (20 : Nat) < 100 from by decide, nf0⟩, List.forall_mem_cons.mpr ⟨⟨show (20 : Nat) < 100 from by decide, nf1⟩, (fun _ h => (by cases h))⟩⟩
def n_Mo_choose_an : List an_T := [(8, [(0, (2, 0, 0, [165])), (1, (0, (Int.negSucc 0), 79, [])), (2, (0, 1, 1000000, [])), (3, (0, 0, 80, []))], [], (0, 0), [(0, 0, 99992), (1, 4, 80), (0, 0, 100000), (0, 0, 0), (0, 0, 0)], [(2, 4, (Int.negSucc 999999999999), (Int.negSucc 0))], [], [(2, 0, 0, [165])], 0, [], [(20, [1, 2], [60, 2, 3, 118, 32, 39, 44, 50, 51]), (24, [0, 1], [])]), (35, [(0, (2, 0, 0, [165])), (1, (0, (Int.negSucc 0), 78, [])), (2, (0, 1, 1000000, [])), (3, (0, 0, 79, [])), (4, (0, 0, 120, [])), (5, (0, 0, 120, []))], [], (0, 0), [(0, 0, 99992), (1, 4, 80), (0, 0, 99965), (1, 6, 120), (0, 0, 100000)], [(2, 4, (Int.negSucc 999999999999), (Int.negSucc 0)), (5, 6, (Int.negSucc 999999999999), 0)], [], [(2, 0, 0, [165])], 0, [], [(20, [1, 2], [60, 2, 3, 118, 32, 39, 44, 50, 51]), (20, [1, 4, 6, 5], [60, 0, 3, 119, 44, 50, 51]), (20, [4, 1], [30, (Int.negSucc 0), 1, 0, 0, (Int.negSucc 0), 1, 32]), (20, [6, 1], [30, 0, 1, 0, 0, (Int.negSucc 0), 1, 39]), (24, [0, 1], [])])]
def t_Mo_choose_ct : ct_L := [(1, 662, e_Mo_fitsFace)]
set_option maxRecDepth 100000 in
theorem c_Mo_choose {l : Launch} {D : va_G} {kA : Nat → ClassId} (h_Mo_fitsFace : ct_ok PRD l D kA GG y_Mo_fitsFace z_Mo_fitsFace e_Mo_fitsFace) : ct_ok PRD l D kA GG y_Mo_choose z_Mo_choose e_Mo_choose := chk_all_ok (FT := [(87, 13, 44), (597, 13, 32), (612, 13, 39)]) (PT := []) (CT := t_Mo_choose_ct) (KT := [(1, 546, .int (1000000), (0, 1000000, 1000000, []))]) (NT := []) (AN := n_Mo_choose_an) (OT := [o_Mo_choose_0, o_Mo_choose_1, o_Mo_choose_2, o_Mo_choose_3, o_Mo_choose_4, o_Mo_choose_5, o_Mo_choose_6]) 5 248 (List.forall_mem_cons.mpr ⟨oo_Mo_choose_0, List.forall_mem_cons.mpr ⟨oo_Mo_choose_1, List.forall_mem_cons.mpr ⟨oo_Mo_choose_2, List.forall_mem_cons.mpr ⟨oo_Mo_choose_3, List.forall_mem_cons.mpr ⟨oo_Mo_choose_4, List.forall_mem_cons.mpr ⟨oo_Mo_choose_5, List.forall_mem_cons.mpr ⟨oo_Mo_choose_6, List.forall_mem_nil _⟩⟩⟩⟩⟩⟩⟩) (by decide +kernel) ⟨List.forall_mem_cons.mpr ⟨gf_Mo_87, List.forall_mem_cons.mpr ⟨gf_Mo_597, List.forall_mem_cons.mpr ⟨gf_Mo_612, List.forall_mem_nil _⟩⟩⟩, List.forall_mem_nil _, List.forall_mem_cons.mpr ⟨cl_virtual (y := y_Mo_fitsFace) (ci := 13) rfl rfl ⟨_, _, rfl⟩ (by decide +kernel) h_Mo_fitsFace wm_3223 wm_9 wm_3220 wm_3222 wv_15_14 ⟨by decide, by decide, by decide +kernel⟩ (by decide), List.forall_mem_nil _⟩, List.forall_mem_cons.mpr ⟨kx_Mo_1_546, List.forall_mem_nil _⟩, List.forall_mem_nil _, GG_pl⟩ (by decide +kernel)
set_option maxHeartbeats 4000000 in
theorem vc_Mo_comma_0_0 (x1 : Int) (x2 : Int) (tokenKind_0 : Int → Int) (cur_0 : Int) (tokens_0 : Int) (fault_0 : Int) (gx : Int) (k1 : 0 ≤ x1 ∧ x1 ≤ 2009) (k2 : 0 ≤ x2 ∧ x2 ≤ 5) (f0 : ((cur_0 + 1) ≤ tokens_0) ∧ ((tokens_0 ≤ 2010) ∧ ((tokenKind_0 ((tokens_0 - 1)) = 0) ∨ (tokenKind_0 ((tokens_0 - 1)) = 4)))) (f1 : 1 * cur_0 + ((-1) * x1 + 0) ≤ 0) (f2 : (-1) * cur_0 + (1 * x1 + 0) ≤ 0) (f3 : fault_0 = x2) (hK_0_160 : ∀ j : Int, 0 ≤ j → j < 2010 → 0 ≤ tokenKind_0 j ∧ tokenKind_0 j ≤ 4) (kz_0_8 : 0 ≤ fault_0 ∧ fault_0 ≤ 5) (kz_0_157 : 0 ≤ tokens_0 ∧ tokens_0 ≤ 2010) (kz_0_158 : 0 ≤ cur_0 ∧ cur_0 ≤ 2009) (ex2 : gx = fault_0) (ex3 : 0 ≤ gx ∧ gx ≤ 5) : fault_0 = gx := by
  first | assumption | (clear f0 hK_0_160; omega) | (clear hK_0_160; grind) | omega | grind
def o_Mo_comma_0 : or_T := (3, 4, [(0, (2, 0, 0, [165])), (1, (0, 0, 2009, [])), (2, (0, 0, 5, []))], [(20, [0], [50, 2, 1, 158, 157, 160, 2, 12, 0, 7, 4, 3, 2, 0, 158, 0, 1, 2, 0, 157, 2, 7, 0, 3, 2, 0, 157, 0, 2010, 3, 14, 1, 10, 3, 0, 160, 5, 3, 2, 0, 157, 0, 1, 0, 0, 1, 10, 3, 0, 160, 5, 3, 2, 0, 157, 0, 1, 0, 4]), (20, [0, 1], [30, 0, 1, 1, 158, -1, 0, 0]), (20, [0, 1], [30, 0, -1, 1, 158, 1, 0, 0]), (20, [0, 2], [50, 1, 0, 8, 1, 3, 2, 0, 8, 1, 1])], [], [(0, 0, 5, [])], [(20, [0, 4], [50, 1, 0, 8, 1, 3, 2, 0, 8, 1, 1])], [], [])
theorem oo_Mo_comma_0 {kA : Nat → ClassId} : or_ok PRD kA GG o_Mo_comma_0 := by
  refine or_mk fun A ta ws vs hD hth hl => ?_
  intro t0 r0 t1 k1 t2 k2 f0 f1 f2 f3
  replace f0 := shm_271 f0
  replace f1 := shm_272 f1
  replace f2 := shm_273 f2
  replace f3 := shm_277 f3
  have cr_0_160 := fdq_33 hD hth r0
  have hK_0_160 := elq_6 hD hth cr_0_160
  have kz_0_8 := fdq_34 hD hth r0
  have kz_0_157 := fdq_35 hD hth r0
  have kz_0_158 := fdq_36 hD hth r0
  obtain ⟨x, ex, hx⟩ := iv_ex (ta := ta) (lo := 0) (hi := 5) (z := w_fi ws (n_v vs 0) 8) (by omega) (by omega) (by omega) (by omega)
  have ex2 : v_iv (Value.int x) = w_fi ws (n_v vs 0) 8 := ex
  have ex3 : 0 ≤ v_iv (Value.int x) ∧ v_iv (Value.int x) ≤ 5 := tv_rng hx
  have e_0 : n_v (vs ++ [Value.int x]) 0 = n_v vs 0 := n_v_old (by rw [hl]; decide)
  have e_4 : n_v (vs ++ [Value.int x]) 4 = Value.int x := n_v_new hl
  have nf0 : fc_1 PRD (20, [0, 4], [50, 1, 0, 8, 1, 3, 2, 0, 8, 1, 1]) ws (vs ++ [Value.int x]) := by
    refine ⟨nf_inA hl rfl, sgq_277 ?_⟩
    · show w_fi ws (n_v (vs ++ [Value.int x]) 0) 8 = v_iv (n_v (vs ++ [Value.int x]) 4)
      simp only [e_0, e_4]
      exact vc_Mo_comma_0_0 (v_iv (n_v vs 1)) (v_iv (n_v vs 2)) (w_ei ws (w_ar ws (n_v vs 0) 160)) (w_fi ws (n_v vs 0) 158) (w_fi ws (n_v vs 0) 157) (w_fi ws (n_v vs 0) 8) (v_iv (Value.int x)) k1 k2 f0 f1 f2 f3 hK_0_160 kz_0_8 kz_0_157 kz_0_158 ex2 ex3
  exact ⟨(fun _ h => (by cases h)), [Value.int x], ag_one hx, List.forall_mem_cons.mpr ⟨⟨show (20 : Nat) < 100 from by decide, nf0⟩, (fun _ h => (by cases h))⟩, (fun _ h => (by cases h))⟩
set_option maxHeartbeats 4000000 in
theorem vc_Mo_comma_1_0 (x1 : Int) (x2 : Int) (x3 : Int) (x4 : Int) (x5 : Int) (x6 : Int) (tokenKind_0 : Int → Int) (cur_0 : Int) (tokenValue_0 : Int → Int) (fault_0 : Int) (tokens_0 : Int) (k1 : 0 ≤ x1 ∧ x1 ≤ 2009) (k2 : 0 ≤ x2 ∧ x2 ≤ 5) (k3 : 44 ≤ x3 ∧ x3 ≤ 44) (k4 : 0 ≤ x4 ∧ x4 ≤ 5) (k5 : 0 ≤ x5 ∧ x5 ≤ 0) (k6 : 0 ≤ x6 ∧ x6 ≤ 0) (f0 : x5 = 0) (f1 : (x5 = 1) → (tokenKind_0 (cur_0) = 3)) (f2 : SGN (cur_0) (tokenKind_0) (tokenValue_0) (x3) (x5) (x4)) (f3 : fault_0 = x4) (f4 : ((cur_0 + 1) ≤ tokens_0) ∧ ((tokens_0 ≤ 2010) ∧ ((tokenKind_0 ((tokens_0 - 1)) = 0) ∨ (tokenKind_0 ((tokens_0 - 1)) = 4)))) (f5 : 1 * cur_0 + ((-1) * x1 + 0) ≤ 0) (f6 : (-1) * cur_0 + (1 * x1 + 0) ≤ 0) (f7 : fault_0 = x2) (hK_0_160 : ∀ j : Int, 0 ≤ j → j < 2010 → 0 ≤ tokenKind_0 j ∧ tokenKind_0 j ≤ 4) (kz_0_8 : 0 ≤ fault_0 ∧ fault_0 ≤ 5) (kz_0_157 : 0 ≤ tokens_0 ∧ tokens_0 ≤ 2010) (kz_0_158 : 0 ≤ cur_0 ∧ cur_0 ≤ 2009) : 1 * x1 + (1 * x6 + ((-1) * cur_0 + 0)) ≤ 0 := by
  first | assumption | (clear f1 f4 hK_0_160; omega) | (clear hK_0_160; grind) | omega | grind
set_option maxHeartbeats 4000000 in
theorem vc_Mo_comma_1_1 (x1 : Int) (x2 : Int) (x3 : Int) (x4 : Int) (x5 : Int) (x6 : Int) (tokenKind_0 : Int → Int) (cur_0 : Int) (tokenValue_0 : Int → Int) (fault_0 : Int) (k1 : 0 ≤ x1 ∧ x1 ≤ 2009) (k2 : 0 ≤ x2 ∧ x2 ≤ 5) (k3 : 44 ≤ x3 ∧ x3 ≤ 44) (k4 : 0 ≤ x4 ∧ x4 ≤ 5) (k5 : 0 ≤ x5 ∧ x5 ≤ 0) (k6 : 0 ≤ x6 ∧ x6 ≤ 0) (f2 : SGN (cur_0) (tokenKind_0) (tokenValue_0) (x3) (x5) (x4)) (f3 : fault_0 = x4) (f5 : 1 * cur_0 + ((-1) * x1 + 0) ≤ 0) (f6 : (-1) * cur_0 + (1 * x1 + 0) ≤ 0) (f7 : fault_0 = x2) (kz_0_8 : 0 ≤ fault_0 ∧ fault_0 ≤ 5) (kz_0_158 : 0 ≤ cur_0 ∧ cur_0 ≤ 2009) : CMA (cur_0) (tokenKind_0) (tokenValue_0) (x6) (x1) (x2) := by
  first
    | exact cma_of (‹SGN _ _ _ _ _ _›) (by omega) (by omega) (by omega) (by omega) (by omega)
  
def o_Mo_comma_1 : or_T := (10, 7, [(0, (2, 0, 0, [165])), (1, (0, 0, 2009, [])), (2, (0, 0, 5, [])), (3, (0, 44, 44, [])), (4, (0, 0, 5, [])), (5, (0, 0, 0, [])), (6, (0, 0, 0, []))], [(8, [5], [0]), (20, [5, 0], [50, 1, 1, 1158, 1160, 4, 6, 1, 2, 1, 0, 0, 1, 1, 6, 3, 1, 160, 2, 1, 158, 0, 3]), (20, [0, 3, 5, 4], [60, 1, 2, 14, 158, 160, 161]), (20, [0, 4], [50, 1, 0, 8, 1, 3, 2, 0, 8, 1, 1]), (20, [0], [50, 2, 1, 158, 157, 160, 2, 12, 0, 7, 4, 3, 2, 0, 158, 0, 1, 2, 0, 157, 2, 7, 0, 3, 2, 0, 157, 0, 2010, 3, 14, 1, 10, 3, 0, 160, 5, 3, 2, 0, 157, 0, 1, 0, 0, 1, 10, 3, 0, 160, 5, 3, 2, 0, 157, 0, 1, 0, 4]), (20, [0, 1], [30, 0, 1, 1, 158, -1, 0, 0]), (20, [0, 1], [30, 0, -1, 1, 158, 1, 0, 0]), (20, [0, 2], [50, 1, 0, 8, 1, 3, 2, 0, 8, 1, 1])], [], [], [(20, [1, 6, 0], [30, 0, 1, 0, 0, 1, 0, 0, -1, 1, 158]), (20, [0, 6, 1, 2], [60, 1, 2, 69, 158, 160, 161])], [], [])
theorem oo_Mo_comma_1 {kA : Nat → ClassId} : or_ok PRD kA GG o_Mo_comma_1 := by
  refine or_mk fun A ta ws vs hD hth hl => ?_
  intro t0 r0 t1 k1 t2 k2 t3 k3 t4 k4 t5 k5 t6 k6 f0 f1 f2 f3 f4 f5 f6 f7
  have cr_0_160 := fdq_33 hD hth r0
  have hK_0_160 := elq_6 hD hth cr_0_160
  have kz_0_8 := fdq_34 hD hth r0
  have kz_0_157 := fdq_35 hD hth r0
  have kz_0_158 := fdq_36 hD hth r0
  have nf0 : fc_1 PRD (20, [1, 6, 0], [30, 0, 1, 0, 0, 1, 0, 0, -1, 1, 158]) ws (vs) := ⟨nf_in hl rfl, sgq_977 (vc_Mo_comma_1_0 (v_iv (n_v vs 1)) (v_iv (n_v vs 2)) (v_iv (n_v vs 3)) (v_iv (n_v vs 4)) (v_iv (n_v vs 5)) (v_iv (n_v vs 6)) (w_ei ws (w_ar ws (n_v vs 0) 160)) (w_fi ws (n_v vs 0) 158) (w_ei ws (w_ar ws (n_v vs 0) 161)) (w_fi ws (n_v vs 0) 8) (w_fi ws (n_v vs 0) 157) k1 k2 k3 k4 k5 k6 (shm_192 f0) (shm_296 f1) (shm_297 f2) (shm_277 f3) (shm_271 f4) (shm_272 f5) (shm_273 f6) (shm_277 f7) hK_0_160 kz_0_8 kz_0_157 kz_0_158)⟩
  have nf1 : fc_1 PRD (20, [0, 6, 1, 2], [60, 1, 2, 69, 158, 160, 161]) ws (vs) := ⟨nf_in hl rfl, sgq_978 (vc_Mo_comma_1_1 (v_iv (n_v vs 1)) (v_iv (n_v vs 2)) (v_iv (n_v vs 3)) (v_iv (n_v vs 4)) (v_iv (n_v vs 5)) (v_iv (n_v vs 6)) (w_ei ws (w_ar ws (n_v vs 0) 160)) (w_fi ws (n_v vs 0) 158) (w_ei ws (w_ar ws (n_v vs 0) 161)) (w_fi ws (n_v vs 0) 8) k1 k2 k3 k4 k5 k6 (shm_297 f2) (shm_277 f3) (shm_272 f5) (shm_273 f6) (shm_277 f7) kz_0_8 kz_0_158)⟩
  refine ⟨(fun _ h => (by cases h)), [], trivial, ?_, (fun _ h => (by cases h))⟩
  rw [List.append_nil]
  exact List.forall_mem_cons.mpr ⟨⟨show (20 : Nat) < 100 from by decide, nf0⟩, List.forall_mem_cons.mpr ⟨⟨show (20 : Nat) < 100 from by decide, nf1⟩, (fun _ h => (by cases h))⟩⟩
set_option maxHeartbeats 4000000 in
theorem vc_Mo_comma_2_r0 (x1 : Int) (x2 : Int) (x3 : Int) (x4 : Int) (x5 : Int) (x6 : Int) (x7 : Int) (x8 : Int) (cur_0 : Int) (tokenKind_0 : Int → Int) (tokenValue_0 : Int → Int) (fault_0 : Int) (tokens_0 : Int) (k1 : 0 ≤ x1 ∧ x1 ≤ 2009) (k2 : 0 ≤ x2 ∧ x2 ≤ 5) (k3 : 44 ≤ x3 ∧ x3 ≤ 44) (k4 : 0 ≤ x4 ∧ x4 ≤ 5) (k5 : 1 ≤ x5 ∧ x5 ≤ 1) (k6 : 0 ≤ x6 ∧ x6 ≤ 2009) (k7 : 1 ≤ x7 ∧ x7 ≤ 1) (k8 : 1 ≤ x8 ∧ x8 ≤ 2010) (d0 : x6 + 1 ≤ x8 ∧ x8 ≤ x6 + 1) (f0 : x8 = x6 + x7) (g1 : x6 = cur_0) (f2 : x5 ≠ 0) (f3 : (x5 = 1) → (tokenKind_0 (cur_0) = 3)) (f4 : SGN (cur_0) (tokenKind_0) (tokenValue_0) (x3) (x5) (x4)) (f5 : fault_0 = x4) (f6 : ((cur_0 + 1) ≤ tokens_0) ∧ ((tokens_0 ≤ 2010) ∧ ((tokenKind_0 ((tokens_0 - 1)) = 0) ∨ (tokenKind_0 ((tokens_0 - 1)) = 4)))) (f7 : 1 * cur_0 + ((-1) * x1 + 0) ≤ 0) (f8 : (-1) * cur_0 + (1 * x1 + 0) ≤ 0) (f9 : fault_0 = x2) (hK_0_160 : ∀ j : Int, 0 ≤ j → j < 2010 → 0 ≤ tokenKind_0 j ∧ tokenKind_0 j ≤ 4) (kz_0_8 : 0 ≤ fault_0 ∧ fault_0 ≤ 5) (kz_0_157 : 0 ≤ tokens_0 ∧ tokens_0 ≤ 2010) (kz_0_158 : 0 ≤ cur_0 ∧ cur_0 ≤ 2009) : 1 ≤ x8 ∧ x8 ≤ 2009 := by
  first | assumption | (clear f3 f6 hK_0_160; omega) | (clear hK_0_160; grind) | omega | grind
def o_Mo_comma_2 : or_T := (18, 9, [(0, (2, 0, 0, [165])), (1, (0, 0, 2009, [])), (2, (0, 0, 5, [])), (3, (0, 44, 44, [])), (4, (0, 0, 5, [])), (5, (0, 1, 1, [])), (6, (0, 0, 2009, [])), (7, (0, 1, 1, [])), (8, (0, 1, 2010, []))], [(1, [8, 6, 7], []), (9, [6, 0], [158]), (8, [5], [1]), (20, [5, 0], [50, 1, 1, 1158, 1160, 4, 6, 1, 2, 1, 0, 0, 1, 1, 6, 3, 1, 160, 2, 1, 158, 0, 3]), (20, [0, 3, 5, 4], [60, 1, 2, 14, 158, 160, 161]), (20, [0, 4], [50, 1, 0, 8, 1, 3, 2, 0, 8, 1, 1]), (20, [0], [50, 2, 1, 158, 157, 160, 2, 12, 0, 7, 4, 3, 2, 0, 158, 0, 1, 2, 0, 157, 2, 7, 0, 3, 2, 0, 157, 0, 2010, 3, 14, 1, 10, 3, 0, 160, 5, 3, 2, 0, 157, 0, 1, 0, 0, 1, 10, 3, 0, 160, 5, 3, 2, 0, 157, 0, 1, 0, 4]), (20, [0, 1], [30, 0, 1, 1, 158, -1, 0, 0]), (20, [0, 1], [30, 0, -1, 1, 158, 1, 0, 0]), (20, [0, 2], [50, 1, 0, 8, 1, 3, 2, 0, 8, 1, 1])], [(8, (0, 1, 2009, []))], [], [], [], [(8, 6, 1, 1)])
theorem oo_Mo_comma_2 {kA : Nat → ClassId} : or_ok PRD kA GG o_Mo_comma_2 := by
  refine or_mk fun A ta ws vs hD hth hl => ?_
  intro t0 r0 t1 k1 t2 k2 t3 k3 t4 k4 t5 k5 t6 k6 t7 k7 t8 k8 d0 f0 f1 f2 f3 f4 f5 f6 f7 f8 f9
  replace f1 := shm_286 f1
  have cr_0_160 := fdq_33 hD hth r0
  have g1 : v_iv (n_v vs 6) = w_fi ws (n_v vs 0) 158 := congrArg v_iv f1
  have hK_0_160 := elq_6 hD hth cr_0_160
  have kz_0_8 := fdq_34 hD hth r0
  have kz_0_157 := fdq_35 hD hth r0
  have kz_0_158 := fdq_36 hD hth r0
  have hrf0 : 1 ≤ v_iv (n_v vs 8) ∧ v_iv (n_v vs 8) ≤ 2009 := vc_Mo_comma_2_r0 (v_iv (n_v vs 1)) (v_iv (n_v vs 2)) (v_iv (n_v vs 3)) (v_iv (n_v vs 4)) (v_iv (n_v vs 5)) (v_iv (n_v vs 6)) (v_iv (n_v vs 7)) (v_iv (n_v vs 8)) (w_fi ws (n_v vs 0) 158) (w_ei ws (w_ar ws (n_v vs 0) 160)) (w_ei ws (w_ar ws (n_v vs 0) 161)) (w_fi ws (n_v vs 0) 8) (w_fi ws (n_v vs 0) 157) k1 k2 k3 k4 k5 k6 k7 k8 d0 (shm_12 f0) g1 (shm_142 f2) (shm_296 f3) (shm_297 f4) (shm_277 f5) (shm_271 f6) (shm_272 f7) (shm_273 f8) (shm_277 f9) hK_0_160 kz_0_8 kz_0_157 kz_0_158
  have rf8 : tv_ok ta (0, 1, 2009, []) (n_v vs 8) := tv_in t8 (by first | omega | grind) (by first | omega | grind)
  refine ⟨List.forall_mem_cons.mpr ⟨rf8, (fun _ h => (by cases h))⟩, [], trivial, ?_, (fun _ h => (by cases h))⟩
  rw [List.append_nil]
  exact (fun _ h => (by cases h))
set_option maxHeartbeats 4000000 in
theorem vc_Mo_comma_3_0 (x1 : Int) (x2 : Int) (x3 : Int) (x4 : Int) (x5 : Int) (x6 : Int) (x7 : Int) (x8 : Int) (x9 : Int) (cur_0 : Int) (fault_0 : Int) (cur_1 : Int) (tokenKind_1 : Int → Int) (tokenValue_1 : Int → Int) (fault_1 : Int) (tokens_1 : Int) (tokens_0 : Int) (tokenKind_0 : Int → Int) (tokenValue_0 : Int → Int) (k1 : 0 ≤ x1 ∧ x1 ≤ 2009) (k2 : 0 ≤ x2 ∧ x2 ≤ 5) (k3 : 44 ≤ x3 ∧ x3 ≤ 44) (k4 : 0 ≤ x4 ∧ x4 ≤ 5) (k5 : 1 ≤ x5 ∧ x5 ≤ 1) (k6 : 0 ≤ x6 ∧ x6 ≤ 2009) (k7 : 1 ≤ x7 ∧ x7 ≤ 1) (k8 : 1 ≤ x8 ∧ x8 ≤ 2009) (k9 : 1 ≤ x9 ∧ x9 ≤ 1) (d0 : x6 + 1 ≤ x8 ∧ x8 ≤ x6 + 1) (g0 : x8 = cur_0) (f1 : fault_0 = x4) (f2 : fault_0 = x2) (f4 : x8 = x6 + x7) (g5 : x6 = cur_1) (f6 : x5 ≠ 0) (f7 : (x5 = 1) → (tokenKind_1 (cur_1) = 3)) (f8 : SGN (cur_1) (tokenKind_1) (tokenValue_1) (x3) (x5) (x4)) (f9 : fault_1 = x4) (f10 : ((cur_1 + 1) ≤ tokens_1) ∧ ((tokens_1 ≤ 2010) ∧ ((tokenKind_1 ((tokens_1 - 1)) = 0) ∨ (tokenKind_1 ((tokens_1 - 1)) = 4)))) (f11 : 1 * cur_1 + ((-1) * x1 + 0) ≤ 0) (f12 : (-1) * cur_1 + (1 * x1 + 0) ≤ 0) (f13 : fault_1 = x2) (fe_0_8_1 : fault_0 = fault_1) (fe_0_157_1 : tokens_0 = tokens_1) (fe_0_158_1 : cur_0 = x8) (hE_0_160_1 : ∀ j : Int, tokenKind_0 j = tokenKind_1 j) (hK_0_160 : ∀ j : Int, 0 ≤ j → j < 2010 → 0 ≤ tokenKind_0 j ∧ tokenKind_0 j ≤ 4) (hE_0_161_1 : ∀ j : Int, tokenValue_0 j = tokenValue_1 j) (kz_0_8 : 0 ≤ fault_0 ∧ fault_0 ≤ 5) (kz_0_157 : 0 ≤ tokens_0 ∧ tokens_0 ≤ 2010) (kz_0_158 : 0 ≤ cur_0 ∧ cur_0 ≤ 2009) : ((cur_0 + 1) ≤ tokens_0) ∧ ((tokens_0 ≤ 2010) ∧ ((tokenKind_0 ((tokens_0 - 1)) = 0) ∨ (tokenKind_0 ((tokens_0 - 1)) = 4))) := by
  subst fe_0_8_1
  subst fe_0_157_1
  have e_hE_0_160_1 := funext hE_0_160_1; subst e_hE_0_160_1
  have e_hE_0_161_1 := funext hE_0_161_1; subst e_hE_0_161_1
  first | assumption | (clear f7 f10 hE_0_160_1 hK_0_160 hE_0_161_1; omega) | (clear hE_0_160_1 hK_0_160 hE_0_161_1; grind) | omega | grind
set_option maxHeartbeats 4000000 in
theorem vc_Mo_comma_3_1 (x1 : Int) (x2 : Int) (x3 : Int) (x4 : Int) (x5 : Int) (x6 : Int) (x7 : Int) (x8 : Int) (x9 : Int) (cur_0 : Int) (fault_0 : Int) (cur_1 : Int) (tokenKind_1 : Int → Int) (tokenValue_1 : Int → Int) (fault_1 : Int) (tokens_1 : Int) (tokens_0 : Int) (tokenKind_0 : Int → Int) (tokenValue_0 : Int → Int) (k1 : 0 ≤ x1 ∧ x1 ≤ 2009) (k2 : 0 ≤ x2 ∧ x2 ≤ 5) (k3 : 44 ≤ x3 ∧ x3 ≤ 44) (k4 : 0 ≤ x4 ∧ x4 ≤ 5) (k5 : 1 ≤ x5 ∧ x5 ≤ 1) (k6 : 0 ≤ x6 ∧ x6 ≤ 2009) (k7 : 1 ≤ x7 ∧ x7 ≤ 1) (k8 : 1 ≤ x8 ∧ x8 ≤ 2009) (k9 : 1 ≤ x9 ∧ x9 ≤ 1) (d0 : x6 + 1 ≤ x8 ∧ x8 ≤ x6 + 1) (g0 : x8 = cur_0) (f1 : fault_0 = x4) (f2 : fault_0 = x2) (f4 : x8 = x6 + x7) (g5 : x6 = cur_1) (f6 : x5 ≠ 0) (f7 : (x5 = 1) → (tokenKind_1 (cur_1) = 3)) (f8 : SGN (cur_1) (tokenKind_1) (tokenValue_1) (x3) (x5) (x4)) (f9 : fault_1 = x4) (f10 : ((cur_1 + 1) ≤ tokens_1) ∧ ((tokens_1 ≤ 2010) ∧ ((tokenKind_1 ((tokens_1 - 1)) = 0) ∨ (tokenKind_1 ((tokens_1 - 1)) = 4)))) (f11 : 1 * cur_1 + ((-1) * x1 + 0) ≤ 0) (f12 : (-1) * cur_1 + (1 * x1 + 0) ≤ 0) (f13 : fault_1 = x2) (fe_0_8_1 : fault_0 = fault_1) (fe_0_157_1 : tokens_0 = tokens_1) (fe_0_158_1 : cur_0 = x8) (hE_0_160_1 : ∀ j : Int, tokenKind_0 j = tokenKind_1 j) (hK_0_160 : ∀ j : Int, 0 ≤ j → j < 2010 → 0 ≤ tokenKind_0 j ∧ tokenKind_0 j ≤ 4) (hE_0_161_1 : ∀ j : Int, tokenValue_0 j = tokenValue_1 j) (kz_0_8 : 0 ≤ fault_0 ∧ fault_0 ≤ 5) (kz_0_157 : 0 ≤ tokens_0 ∧ tokens_0 ≤ 2010) (kz_0_158 : 0 ≤ cur_0 ∧ cur_0 ≤ 2009) : 1 * x1 + (1 * x9 + ((-1) * cur_0 + 0)) ≤ 0 := by
  subst fe_0_8_1
  subst fe_0_157_1
  have e_hE_0_160_1 := funext hE_0_160_1; subst e_hE_0_160_1
  have e_hE_0_161_1 := funext hE_0_161_1; subst e_hE_0_161_1
  first | assumption | (clear f7 f10 hE_0_160_1 hK_0_160 hE_0_161_1; omega) | (clear hE_0_160_1 hK_0_160 hE_0_161_1; grind) | omega | grind
set_option maxHeartbeats 4000000 in
theorem vc_Mo_comma_3_2 (x1 : Int) (x2 : Int) (x3 : Int) (x4 : Int) (x5 : Int) (x6 : Int) (x8 : Int) (x9 : Int) (cur_0 : Int) (fault_0 : Int) (cur_1 : Int) (tokenKind_1 : Int → Int) (tokenValue_1 : Int → Int) (fault_1 : Int) (tokens_1 : Int) (tokens_0 : Int) (tokenKind_0 : Int → Int) (tokenValue_0 : Int → Int) (k1 : 0 ≤ x1 ∧ x1 ≤ 2009) (k2 : 0 ≤ x2 ∧ x2 ≤ 5) (k3 : 44 ≤ x3 ∧ x3 ≤ 44) (k4 : 0 ≤ x4 ∧ x4 ≤ 5) (k5 : 1 ≤ x5 ∧ x5 ≤ 1) (k6 : 0 ≤ x6 ∧ x6 ≤ 2009) (k8 : 1 ≤ x8 ∧ x8 ≤ 2009) (k9 : 1 ≤ x9 ∧ x9 ≤ 1) (d0 : x6 + 1 ≤ x8 ∧ x8 ≤ x6 + 1) (g0 : x8 = cur_0) (f1 : fault_0 = x4) (f2 : fault_0 = x2) (g5 : x6 = cur_1) (f8 : SGN (cur_1) (tokenKind_1) (tokenValue_1) (x3) (x5) (x4)) (f11 : 1 * cur_1 + ((-1) * x1 + 0) ≤ 0) (f12 : (-1) * cur_1 + (1 * x1 + 0) ≤ 0) (fe_0_8_1 : fault_0 = fault_1) (fe_0_157_1 : tokens_0 = tokens_1) (hE_0_160_1 : ∀ j : Int, tokenKind_0 j = tokenKind_1 j) (hE_0_161_1 : ∀ j : Int, tokenValue_0 j = tokenValue_1 j) (kz_0_8 : 0 ≤ fault_0 ∧ fault_0 ≤ 5) (kz_0_157 : 0 ≤ tokens_0 ∧ tokens_0 ≤ 2010) (kz_0_158 : 0 ≤ cur_0 ∧ cur_0 ≤ 2009) : CMA (cur_0) (tokenKind_0) (tokenValue_0) (x9) (x1) (x2) := by
  subst fe_0_8_1
  subst fe_0_157_1
  have e_hE_0_160_1 := funext hE_0_160_1; subst e_hE_0_160_1
  have e_hE_0_161_1 := funext hE_0_161_1; subst e_hE_0_161_1
  first
    | exact cma_of (‹SGN _ _ _ _ _ _›) (by omega) (by omega) (by omega) (by omega) (by omega)
  
def o_Mo_comma_3 : or_T := (22, 10, [(0, (2, 0, 0, [165])), (1, (0, 0, 2009, [])), (2, (0, 0, 5, [])), (3, (0, 44, 44, [])), (4, (0, 0, 5, [])), (5, (0, 1, 1, [])), (6, (0, 0, 2009, [])), (7, (0, 1, 1, [])), (8, (0, 1, 2009, [])), (9, (0, 1, 1, []))], [(9, [8, 0], [158]), (20, [0, 4], [50, 1, 0, 8, 1, 3, 2, 0, 8, 1, 1]), (20, [0, 2], [50, 1, 0, 8, 1, 3, 2, 0, 8, 1, 1]), (101, [0, 8], [158]), (1, [8, 6, 7], []), (9, [6, 0], [158]), (8, [5], [1]), (20, [5, 0], [50, 1, 1, 1158, 1160, 4, 6, 1, 2, 1, 0, 0, 1, 1, 6, 3, 1, 160, 2, 1, 158, 0, 3]), (20, [0, 3, 5, 4], [60, 1, 2, 14, 158, 160, 161]), (20, [0, 4], [50, 1, 0, 8, 1, 3, 2, 0, 8, 1, 1]), (20, [0], [50, 2, 1, 158, 157, 160, 2, 12, 0, 7, 4, 3, 2, 0, 158, 0, 1, 2, 0, 157, 2, 7, 0, 3, 2, 0, 157, 0, 2010, 3, 14, 1, 10, 3, 0, 160, 5, 3, 2, 0, 157, 0, 1, 0, 0, 1, 10, 3, 0, 160, 5, 3, 2, 0, 157, 0, 1, 0, 4]), (20, [0, 1], [30, 0, 1, 1, 158, -1, 0, 0]), (20, [0, 1], [30, 0, -1, 1, 158, 1, 0, 0]), (20, [0, 2], [50, 1, 0, 8, 1, 3, 2, 0, 8, 1, 1])], [], [], [(20, [0], [50, 2, 1, 158, 157, 160, 2, 12, 0, 7, 4, 3, 2, 0, 158, 0, 1, 2, 0, 157, 2, 7, 0, 3, 2, 0, 157, 0, 2010, 3, 14, 1, 10, 3, 0, 160, 5, 3, 2, 0, 157, 0, 1, 0, 0, 1, 10, 3, 0, 160, 5, 3, 2, 0, 157, 0, 1, 0, 4]), (20, [1, 9, 0], [30, 0, 1, 0, 0, 1, 0, 0, -1, 1, 158]), (20, [0, 9, 1, 2], [60, 1, 2, 69, 158, 160, 161])], [], [(8, 6, 1, 1)])
theorem oo_Mo_comma_3 {kA : Nat → ClassId} : or_ok PRD kA GG o_Mo_comma_3 := by
  refine or_mk fun A ta ws vs hD hth hl => ?_
  intro t0 r0 t1 k1 t2 k2 t3 k3 t4 k4 t5 k5 t6 k6 t7 k7 t8 k8 t9 k9 d0 f0 f1 f2 ta1 w1 le1 s1 f4 f5 f6 f7 f8 f9 f10 f11 f12 f13
  replace f0 := shm_286 f0
  have s1 : (∀ b j, w_el ws b j = w_el w1 b j) ∧ ∀ b j, w_fd ws b j = if b = v_ad (n_v vs 0) ∧ j = 158 then n_v vs 8 else w_fd w1 b j := s1.2
  replace f5 := shm_286 f5
  replace f7 := shm_296 f7
  replace f8 := shm_297 f8
  replace f10 := shm_271 f10
  have ar_0_160_1 : w_ar w1 (n_v vs 0) 160 = w_ar ws (n_v vs 0) 160 := by show v_ad (w_fd w1 _ _) = v_ad (w_fd ws _ _); rw [s1.2, if_neg (fun e => absurd e.2 (by decide))]
  have cr_0_160 := fdq_33 hD hth r0
  have ar_0_161_1 : w_ar w1 (n_v vs 0) 161 = w_ar ws (n_v vs 0) 161 := by show v_ad (w_fd w1 _ _) = v_ad (w_fd ws _ _); rw [s1.2, if_neg (fun e => absurd e.2 (by decide))]
  have g0 : v_iv (n_v vs 8) = w_fi ws (n_v vs 0) 158 := congrArg v_iv f0
  have g5 : v_iv (n_v vs 6) = w_fi w1 (n_v vs 0) 158 := congrArg v_iv f5
  simp only [ar_0_160_1, ar_0_161_1] at f7 f8 f10
  have fe_0_8_1 : w_fi ws (n_v vs 0) 8 = w_fi w1 (n_v vs 0) 8 := by show v_iv (w_fd _ _ _) = v_iv (w_fd _ _ _); rw [s1.2, if_neg (fun e => absurd e.2 (by decide))]
  have fe_0_157_1 : w_fi ws (n_v vs 0) 157 = w_fi w1 (n_v vs 0) 157 := by show v_iv (w_fd _ _ _) = v_iv (w_fd _ _ _); rw [s1.2, if_neg (fun e => absurd e.2 (by decide))]
  have fe_0_158_1 : w_fi ws (n_v vs 0) 158 = v_iv (n_v vs 8) := by show v_iv (w_fd _ _ _) = _; rw [s1.2, if_pos ⟨rfl, rfl⟩]
  have hE_0_160_1 : ∀ j : Int, w_ei ws (w_ar ws (n_v vs 0) 160) j = w_ei w1 (w_ar ws (n_v vs 0) 160) j := fun j => s1.1 _ _
  have hK_0_160 := elq_6 hD hth cr_0_160
  have hE_0_161_1 : ∀ j : Int, w_ei ws (w_ar ws (n_v vs 0) 161) j = w_ei w1 (w_ar ws (n_v vs 0) 161) j := fun j => s1.1 _ _
  have kz_0_8 := fdq_34 hD hth r0
  have kz_0_157 := fdq_35 hD hth r0
  have kz_0_158 := fdq_36 hD hth r0
  have nf0 : fc_1 PRD (20, [0], [50, 2, 1, 158, 157, 160, 2, 12, 0, 7, 4, 3, 2, 0, 158, 0, 1, 2, 0, 157, 2, 7, 0, 3, 2, 0, 157, 0, 2010, 3, 14, 1, 10, 3, 0, 160, 5, 3, 2, 0, 157, 0, 1, 0, 0, 1, 10, 3, 0, 160, 5, 3, 2, 0, 157, 0, 1, 0, 4]) ws (vs) := ⟨nf_in hl rfl, sgq_271 (vc_Mo_comma_3_0 (v_iv (n_v vs 1)) (v_iv (n_v vs 2)) (v_iv (n_v vs 3)) (v_iv (n_v vs 4)) (v_iv (n_v vs 5)) (v_iv (n_v vs 6)) (v_iv (n_v vs 7)) (v_iv (n_v vs 8)) (v_iv (n_v vs 9)) (w_fi ws (n_v vs 0) 158) (w_fi ws (n_v vs 0) 8) (w_fi w1 (n_v vs 0) 158) (w_ei w1 (w_ar ws (n_v vs 0) 160)) (w_ei w1 (w_ar ws (n_v vs 0) 161)) (w_fi w1 (n_v vs 0) 8) (w_fi w1 (n_v vs 0) 157) (w_fi ws (n_v vs 0) 157) (w_ei ws (w_ar ws (n_v vs 0) 160)) (w_ei ws (w_ar ws (n_v vs 0) 161)) k1 k2 k3 k4 k5 k6 k7 k8 k9 d0 g0 (shm_277 f1) (shm_277 f2) (shm_12 f4) g5 (shm_142 f6) f7 f8 (shm_277 f9) f10 (shm_272 f11) (shm_273 f12) (shm_277 f13) fe_0_8_1 fe_0_157_1 fe_0_158_1 hE_0_160_1 hK_0_160 hE_0_161_1 kz_0_8 kz_0_157 kz_0_158)⟩
  have nf1 : fc_1 PRD (20, [1, 9, 0], [30, 0, 1, 0, 0, 1, 0, 0, -1, 1, 158]) ws (vs) := ⟨nf_in hl rfl, sgq_977 (vc_Mo_comma_3_1 (v_iv (n_v vs 1)) (v_iv (n_v vs 2)) (v_iv (n_v vs 3)) (v_iv (n_v vs 4)) (v_iv (n_v vs 5)) (v_iv (n_v vs 6)) (v_iv (n_v vs 7)) (v_iv (n_v vs 8)) (v_iv (n_v vs 9)) (w_fi ws (n_v vs 0) 158) (w_fi ws (n_v vs 0) 8) (w_fi w1 (n_v vs 0) 158) (w_ei w1 (w_ar ws (n_v vs 0) 160)) (w_ei w1 (w_ar ws (n_v vs 0) 161)) (w_fi w1 (n_v vs 0) 8) (w_fi w1 (n_v vs 0) 157) (w_fi ws (n_v vs 0) 157) (w_ei ws (w_ar ws (n_v vs 0) 160)) (w_ei ws (w_ar ws (n_v vs 0) 161)) k1 k2 k3 k4 k5 k6 k7 k8 k9 d0 g0 (shm_277 f1) (shm_277 f2) (shm_12 f4) g5 (shm_142 f6) f7 f8 (shm_277 f9) f10 (shm_272 f11) (shm_273 f12) (shm_277 f13) fe_0_8_1 fe_0_157_1 fe_0_158_1 hE_0_160_1 hK_0_160 hE_0_161_1 kz_0_8 kz_0_157 kz_0_158)⟩
  have nf2 : fc_1 PRD (20, [0, 9, 1, 2], [60, 1, 2, 69, 158, 160, 161]) ws (vs) := ⟨nf_in hl rfl, sgq_978 (vc_Mo_comma_3_2 (v_iv (n_v vs 1)) (v_iv (n_v vs 2)) (v_iv (n_v vs 3)) (v_iv (n_v vs 4)) (v_iv (n_v vs 5)) (v_iv (n_v vs 6)) (v_iv (n_v vs 8)) (v_iv (n_v vs 9)) (w_fi ws (n_v vs 0) 158) (w_fi ws (n_v vs 0) 8) (w_fi w1 (n_v vs 0) 158) (w_ei w1 (w_ar ws (n_v vs 0) 160)) (w_ei w1 (w_ar ws (n_v vs 0) 161)) (w_fi w1 (n_v vs 0) 8) (w_fi w1 (n_v vs 0) 157) (w_fi ws (n_v vs 0) 157) (w_ei ws (w_ar ws (n_v vs 0) 160)) (w_ei ws (w_ar ws (n_v vs 0) 161)) k1 k2 k3 k4 k5 k6 k8 k9 d0 g0 (shm_277 f1) (shm_277 f2) g5 f8 (shm_272 f11) (shm_273 f12) fe_0_8_1 fe_0_157_1 hE_0_160_1 hE_0_161_1 kz_0_8 kz_0_157 kz_0_158)⟩
  refine ⟨(fun _ h => (by cases h)), [], trivial, ?_, (fun _ h => (by cases h))⟩
  rw [List.append_nil]
  exact List.forall_mem_cons.mpr ⟨⟨show (20 : Nat) < 100 from by decide, nf0⟩, List.forall_mem_cons.mpr ⟨⟨show (20 : Nat) < 100 from by decide, nf1⟩, List.forall_mem_cons.mpr ⟨⟨show (20 : Nat) < 100 from by decide, nf2⟩, (fun _ h => (by cases h))⟩⟩⟩
def n_Mo_comma_an : List an_T := []
def t_Mo_comma_ct : ct_L := [(1, 1172, e_Mo_styleSign)]
set_option maxRecDepth 100000 in
theorem c_Mo_comma {l : Launch} {D : va_G} {kA : Nat → ClassId} (h_Mo_styleSign : ct_ok PRD l D kA GG y_Mo_styleSign z_Mo_styleSign e_Mo_styleSign) : ct_ok PRD l D kA GG y_Mo_comma z_Mo_comma e_Mo_comma := chk_all_ok (FT := [(1169, 13, 158)]) (PT := [(1169, 13, 158, .int)]) (CT := t_Mo_comma_ct) (KT := []) (NT := []) (AN := n_Mo_comma_an) (OT := [o_Mo_comma_0, o_Mo_comma_1, o_Mo_comma_2, o_Mo_comma_3]) 0 200 (List.forall_mem_cons.mpr ⟨oo_Mo_comma_0, List.forall_mem_cons.mpr ⟨oo_Mo_comma_1, List.forall_mem_cons.mpr ⟨oo_Mo_comma_2, List.forall_mem_cons.mpr ⟨oo_Mo_comma_3, List.forall_mem_nil _⟩⟩⟩⟩) (by decide +kernel) ⟨List.forall_mem_cons.mpr ⟨gf_Mo_1169, List.forall_mem_nil _⟩, List.forall_mem_cons.mpr ⟨pf_Mo_1169, List.forall_mem_nil _⟩, List.forall_mem_cons.mpr ⟨cl_virtual (y := y_Mo_styleSign) (ci := 13) rfl rfl ⟨_, _, rfl⟩ (by decide +kernel) h_Mo_styleSign wm_3832 wm_9 wm_3829 wm_3831 wv_23_11 ⟨by decide, by decide, by decide +kernel⟩ (by decide), List.forall_mem_nil _⟩, List.forall_mem_nil _, List.forall_mem_nil _, GG_pl⟩ (by decide +kernel)
set_option maxHeartbeats 4000000 in
theorem vc_Mo_crossings_0_0 (x2 : Int) (x3 : Int) (lines_0 : Int) (k2 : 0 ≤ x2 ∧ x2 ≤ 129) (k3 : 1 ≤ x3 ∧ x3 ≤ 130) (d0 : x3 + (-4294967296) ≤ x2 ∧ x2 ≤ x3 + (-1)) (g1 : x3 = lines_0) (kz_0_107 : 0 ≤ lines_0 ∧ lines_0 ≤ 130) : (x2 + 1) ≤ lines_0 := by
  first
    | omega
    | exact lsa_la (p := x2) ‹LSA _ _ _ _ _ _ _ _ _ _› (by omega) (by omega) (by assumption)
    | exact lsa_la (p := x3) ‹LSA _ _ _ _ _ _ _ _ _ _› (by omega) (by omega) (by assumption)
    | exact lsa_lb (p := x2) ‹LSA _ _ _ _ _ _ _ _ _ _› (by omega) (by omega) (by assumption)
    | exact lsa_lb (p := x3) ‹LSA _ _ _ _ _ _ _ _ _ _› (by omega) (by omega) (by assumption)
def o_Mo_crossings_0 : or_T := (14, 5, [(0, (2, 0, 0, [165])), (2, (0, 0, 129, [])), (3, (0, 1, 130, []))], [(9, [3, 0], [107])], [], [], [(20, [2, 0], [50, 1, 0, 1107, 0, 6, 4, 2, 1, 0, 0, 1, 2, 1, 107])], [], [(2, 3, -4294967296, -1)])
theorem oo_Mo_crossings_0 {kA : Nat → ClassId} : or_ok PRD kA GG o_Mo_crossings_0 := by
  refine or_mk fun A ta ws vs hD hth hl => ?_
  intro t0 r0 t2 k2 t3 k3 d0 f1
  replace f1 := shm_627 f1
  have g1 : v_iv (n_v vs 3) = w_fi ws (n_v vs 0) 107 := congrArg v_iv f1
  have kz_0_107 := fdq_163 hD hth r0
  have nf0 : fc_1 PRD (20, [2, 0], [50, 1, 0, 1107, 0, 6, 4, 2, 1, 0, 0, 1, 2, 1, 107]) ws (vs) := ⟨nf_in hl rfl, sgq_762 (vc_Mo_crossings_0_0 (v_iv (n_v vs 2)) (v_iv (n_v vs 3)) (w_fi ws (n_v vs 0) 107) k2 k3 d0 g1 kz_0_107)⟩
  refine ⟨(fun _ h => (by cases h)), [], trivial, ?_, (fun _ h => (by cases h))⟩
  rw [List.append_nil]
  exact List.forall_mem_cons.mpr ⟨⟨show (20 : Nat) < 100 from by decide, nf0⟩, (fun _ h => (by cases h))⟩
set_option maxHeartbeats 4000000 in
theorem vc_Mo_crossings_1_0 (x2 : Int) (x3 : Int) (x10 : Int) (lineA_0 : Int → Int) (itemLayer_0 : Int → Int) (all_0 : Int → Int) (turned_0 : Int → Int) (firstJoint_0 : Int → Int) (lineB_0 : Int → Int) (r_0 : Int) (items_0 : Int) (layerMany_0 : Int) (lines_0 : Int) (k2 : 1 ≤ x2 ∧ x2 ≤ 129) (k10 : 0 ≤ x10 ∧ x10 ≤ 75) (h0 : x10 = lineA_0 (x2)) (f9 : LSA (r_0) (items_0) (layerMany_0) (lines_0) (all_0) (turned_0) (itemLayer_0) (firstJoint_0) (lineA_0) (lineB_0)) (f11 : (x2 + 1) ≤ lines_0) (kz_0_100 : 0 ≤ items_0 ∧ items_0 ≤ 76) (kz_0_101 : 0 ≤ layerMany_0 ∧ layerMany_0 ≤ 76) (kz_0_107 : 0 ≤ lines_0 ∧ lines_0 ≤ 130) : (0 ≤ x10) ∧ ((x10 + 1) ≤ items_0) := by
  first
    | omega
    | exact lsa_la (p := x2) ‹LSA _ _ _ _ _ _ _ _ _ _› (by omega) (by omega) (by assumption)
    | exact lsa_la (p := x3) ‹LSA _ _ _ _ _ _ _ _ _ _› (by omega) (by omega) (by assumption)
    | exact lsa_lb (p := x2) ‹LSA _ _ _ _ _ _ _ _ _ _› (by omega) (by omega) (by assumption)
    | exact lsa_lb (p := x3) ‹LSA _ _ _ _ _ _ _ _ _ _› (by omega) (by omega) (by assumption)
def o_Mo_crossings_1 : or_T := (54, 11, [(0, (2, 0, 0, [165])), (2, (0, 1, 129, [])), (10, (0, 0, 75, []))], [(10, [10, 5, 2], []), (9, [5, 0], [108]), (20, [0], [60, 4, 6, 445, 5, 100, 101, 107, 2, 95, 102, 104, 108, 109]), (20, [2, 0], [50, 1, 0, 1107, 0, 6, 4, 2, 1, 0, 0, 1, 2, 1, 107])], [], [], [(20, [10, 0], [50, 1, 0, 1100, 2, 6, 0, 2, 0, 0, 1, 0, 0, 6, 4, 2, 1, 0, 0, 1, 2, 1, 100])], [], [])
theorem oo_Mo_crossings_1 {kA : Nat → ClassId} : or_ok PRD kA GG o_Mo_crossings_1 := by
  refine or_mk fun A ta ws vs hD hth hl => ?_
  intro t0 r0 t2 k2 t10 k10 f0 f1 f9 f11
  replace f0 := shm_107 f0
  replace f1 := shm_628 f1
  have ad_5 : v_ad (n_v vs 5) = w_ar ws (n_v vs 0) 108 := congrArg v_ad f1
  simp only [ad_5] at f0
  have h0 : v_iv (n_v vs 10) = w_ei ws (w_ar ws (n_v vs 0) 108) (v_iv (n_v vs 2)) := f0
  have kz_0_100 := fdq_162 hD hth r0
  have kz_0_101 := fdq_125 hD hth r0
  have kz_0_107 := fdq_163 hD hth r0
  have nf0 : fc_1 PRD (20, [10, 0], [50, 1, 0, 1100, 2, 6, 0, 2, 0, 0, 1, 0, 0, 6, 4, 2, 1, 0, 0, 1, 2, 1, 100]) ws (vs) := ⟨nf_in hl rfl, sgq_676 (vc_Mo_crossings_1_0 (v_iv (n_v vs 2)) (v_iv (n_v vs 3)) (v_iv (n_v vs 10)) (w_ei ws (w_ar ws (n_v vs 0) 108)) (w_ei ws (w_ar ws (n_v vs 0) 102)) (w_ei ws (w_ar ws (n_v vs 0) 2)) (w_ei ws (w_ar ws (n_v vs 0) 95)) (w_ei ws (w_ar ws (n_v vs 0) 104)) (w_ei ws (w_ar ws (n_v vs 0) 109)) (w_fi ws (n_v vs 0) 5) (w_fi ws (n_v vs 0) 100) (w_fi ws (n_v vs 0) 101) (w_fi ws (n_v vs 0) 107) k2 k10 h0 (shm_674 f9) (shm_762 f11) kz_0_100 kz_0_101 kz_0_107)⟩
  refine ⟨(fun _ h => (by cases h)), [], trivial, ?_, (fun _ h => (by cases h))⟩
  rw [List.append_nil]
  exact List.forall_mem_cons.mpr ⟨⟨show (20 : Nat) < 100 from by decide, nf0⟩, (fun _ h => (by cases h))⟩
set_option maxHeartbeats 4000000 in
theorem vc_Mo_crossings_2_0 (x2 : Int) (x3 : Int) (x12 : Int) (lineA_0 : Int → Int) (itemLayer_0 : Int → Int) (items_0 : Int) (all_0 : Int → Int) (turned_0 : Int → Int) (firstJoint_0 : Int → Int) (lineB_0 : Int → Int) (r_0 : Int) (layerMany_0 : Int) (lines_0 : Int) (k2 : 1 ≤ x2 ∧ x2 ≤ 129) (k3 : 0 ≤ x3 ∧ x3 ≤ 128) (k12 : 0 ≤ x12 ∧ x12 ≤ 75) (d1 : x2 + (-4294967296) ≤ x3 ∧ x3 ≤ x2 + (-1)) (h0 : x12 = lineA_0 (x3)) (f12 : LSA (r_0) (items_0) (layerMany_0) (lines_0) (all_0) (turned_0) (itemLayer_0) (firstJoint_0) (lineA_0) (lineB_0)) (f14 : (x2 + 1) ≤ lines_0) (kz_0_100 : 0 ≤ items_0 ∧ items_0 ≤ 76) (kz_0_101 : 0 ≤ layerMany_0 ∧ layerMany_0 ≤ 76) (kz_0_107 : 0 ≤ lines_0 ∧ lines_0 ≤ 130) : (0 ≤ x12) ∧ ((x12 + 1) ≤ items_0) := by
  first
    | omega
    | exact lsa_la (p := x2) ‹LSA _ _ _ _ _ _ _ _ _ _› (by omega) (by omega) (by assumption)
    | exact lsa_la (p := x3) ‹LSA _ _ _ _ _ _ _ _ _ _› (by omega) (by omega) (by assumption)
    | exact lsa_lb (p := x2) ‹LSA _ _ _ _ _ _ _ _ _ _› (by omega) (by omega) (by assumption)
    | exact lsa_lb (p := x3) ‹LSA _ _ _ _ _ _ _ _ _ _› (by omega) (by omega) (by assumption)
def o_Mo_crossings_2 : or_T := (64, 13, [(0, (2, 0, 0, [165])), (2, (0, 1, 129, [])), (3, (0, 0, 128, [])), (12, (0, 0, 75, []))], [(10, [12, 5, 3], []), (9, [5, 0], [108]), (20, [0], [60, 4, 6, 445, 5, 100, 101, 107, 2, 95, 102, 104, 108, 109]), (20, [2, 0], [50, 1, 0, 1107, 0, 6, 4, 2, 1, 0, 0, 1, 2, 1, 107])], [], [], [(20, [12, 0], [50, 1, 0, 1100, 2, 6, 0, 2, 0, 0, 1, 0, 0, 6, 4, 2, 1, 0, 0, 1, 2, 1, 100])], [], [(3, 2, -4294967296, -1)])
theorem oo_Mo_crossings_2 {kA : Nat → ClassId} : or_ok PRD kA GG o_Mo_crossings_2 := by
  refine or_mk fun A ta ws vs hD hth hl => ?_
  intro t0 r0 t2 k2 t3 k3 t12 k12 d1 f0 f1 f12 f14
  replace f0 := shm_107 f0
  replace f1 := shm_628 f1
  have ad_5 : v_ad (n_v vs 5) = w_ar ws (n_v vs 0) 108 := congrArg v_ad f1
  simp only [ad_5] at f0
  have h0 : v_iv (n_v vs 12) = w_ei ws (w_ar ws (n_v vs 0) 108) (v_iv (n_v vs 3)) := f0
  have kz_0_100 := fdq_162 hD hth r0
  have kz_0_101 := fdq_125 hD hth r0
  have kz_0_107 := fdq_163 hD hth r0
  have nf0 : fc_1 PRD (20, [12, 0], [50, 1, 0, 1100, 2, 6, 0, 2, 0, 0, 1, 0, 0, 6, 4, 2, 1, 0, 0, 1, 2, 1, 100]) ws (vs) := ⟨nf_in hl rfl, sgq_676 (vc_Mo_crossings_2_0 (v_iv (n_v vs 2)) (v_iv (n_v vs 3)) (v_iv (n_v vs 12)) (w_ei ws (w_ar ws (n_v vs 0) 108)) (w_ei ws (w_ar ws (n_v vs 0) 102)) (w_fi ws (n_v vs 0) 100) (w_ei ws (w_ar ws (n_v vs 0) 2)) (w_ei ws (w_ar ws (n_v vs 0) 95)) (w_ei ws (w_ar ws (n_v vs 0) 104)) (w_ei ws (w_ar ws (n_v vs 0) 109)) (w_fi ws (n_v vs 0) 5) (w_fi ws (n_v vs 0) 101) (w_fi ws (n_v vs 0) 107) k2 k3 k12 d1 h0 (shm_674 f12) (shm_762 f14) kz_0_100 kz_0_101 kz_0_107)⟩
  refine ⟨(fun _ h => (by cases h)), [], trivial, ?_, (fun _ h => (by cases h))⟩
  rw [List.append_nil]
  exact List.forall_mem_cons.mpr ⟨⟨show (20 : Nat) < 100 from by decide, nf0⟩, (fun _ h => (by cases h))⟩
set_option maxHeartbeats 4000000 in
theorem vc_Mo_crossings_3_0 (x2 : Int) (x3 : Int) (x16 : Int) (lineB_0 : Int → Int) (itemLayer_0 : Int → Int) (items_0 : Int) (lineA_0 : Int → Int) (all_0 : Int → Int) (turned_0 : Int → Int) (firstJoint_0 : Int → Int) (r_0 : Int) (layerMany_0 : Int) (lines_0 : Int) (k2 : 1 ≤ x2 ∧ x2 ≤ 129) (k16 : 0 ≤ x16 ∧ x16 ≤ 75) (h0 : x16 = lineB_0 (x2)) (f17 : LSA (r_0) (items_0) (layerMany_0) (lines_0) (all_0) (turned_0) (itemLayer_0) (firstJoint_0) (lineA_0) (lineB_0)) (f19 : (x2 + 1) ≤ lines_0) (kz_0_100 : 0 ≤ items_0 ∧ items_0 ≤ 76) (kz_0_101 : 0 ≤ layerMany_0 ∧ layerMany_0 ≤ 76) (kz_0_107 : 0 ≤ lines_0 ∧ lines_0 ≤ 130) : (0 ≤ x16) ∧ ((x16 + 1) ≤ items_0) := by
  first
    | omega
    | exact lsa_la (p := x2) ‹LSA _ _ _ _ _ _ _ _ _ _› (by omega) (by omega) (by assumption)
    | exact lsa_la (p := x3) ‹LSA _ _ _ _ _ _ _ _ _ _› (by omega) (by omega) (by assumption)
    | exact lsa_lb (p := x2) ‹LSA _ _ _ _ _ _ _ _ _ _› (by omega) (by omega) (by assumption)
    | exact lsa_lb (p := x3) ‹LSA _ _ _ _ _ _ _ _ _ _› (by omega) (by omega) (by assumption)
def o_Mo_crossings_3 : or_T := (77, 17, [(0, (2, 0, 0, [165])), (2, (0, 1, 129, [])), (16, (0, 0, 75, []))], [(10, [16, 15, 2], []), (9, [15, 0], [109]), (20, [0], [60, 4, 6, 445, 5, 100, 101, 107, 2, 95, 102, 104, 108, 109]), (20, [2, 0], [50, 1, 0, 1107, 0, 6, 4, 2, 1, 0, 0, 1, 2, 1, 107])], [], [], [(20, [16, 0], [50, 1, 0, 1100, 2, 6, 0, 2, 0, 0, 1, 0, 0, 6, 4, 2, 1, 0, 0, 1, 2, 1, 100])], [], [])
theorem oo_Mo_crossings_3 {kA : Nat → ClassId} : or_ok PRD kA GG o_Mo_crossings_3 := by
  refine or_mk fun A ta ws vs hD hth hl => ?_
  intro t0 r0 t2 k2 t16 k16 f0 f1 f17 f19
  replace f0 := shm_107 f0
  replace f1 := shm_632 f1
  have ad_15 : v_ad (n_v vs 15) = w_ar ws (n_v vs 0) 109 := congrArg v_ad f1
  simp only [ad_15] at f0
  have h0 : v_iv (n_v vs 16) = w_ei ws (w_ar ws (n_v vs 0) 109) (v_iv (n_v vs 2)) := f0
  have kz_0_100 := fdq_162 hD hth r0
  have kz_0_101 := fdq_125 hD hth r0
  have kz_0_107 := fdq_163 hD hth r0
  have nf0 : fc_1 PRD (20, [16, 0], [50, 1, 0, 1100, 2, 6, 0, 2, 0, 0, 1, 0, 0, 6, 4, 2, 1, 0, 0, 1, 2, 1, 100]) ws (vs) := ⟨nf_in hl rfl, sgq_676 (vc_Mo_crossings_3_0 (v_iv (n_v vs 2)) (v_iv (n_v vs 3)) (v_iv (n_v vs 16)) (w_ei ws (w_ar ws (n_v vs 0) 109)) (w_ei ws (w_ar ws (n_v vs 0) 102)) (w_fi ws (n_v vs 0) 100) (w_ei ws (w_ar ws (n_v vs 0) 108)) (w_ei ws (w_ar ws (n_v vs 0) 2)) (w_ei ws (w_ar ws (n_v vs 0) 95)) (w_ei ws (w_ar ws (n_v vs 0) 104)) (w_fi ws (n_v vs 0) 5) (w_fi ws (n_v vs 0) 101) (w_fi ws (n_v vs 0) 107) k2 k16 h0 (shm_674 f17) (shm_762 f19) kz_0_100 kz_0_101 kz_0_107)⟩
  refine ⟨(fun _ h => (by cases h)), [], trivial, ?_, (fun _ h => (by cases h))⟩
  rw [List.append_nil]
  exact List.forall_mem_cons.mpr ⟨⟨show (20 : Nat) < 100 from by decide, nf0⟩, (fun _ h => (by cases h))⟩
set_option maxHeartbeats 4000000 in
theorem vc_Mo_crossings_4_0 (x2 : Int) (x3 : Int) (x18 : Int) (lineB_0 : Int → Int) (itemLayer_0 : Int → Int) (items_0 : Int) (lineA_0 : Int → Int) (all_0 : Int → Int) (turned_0 : Int → Int) (firstJoint_0 : Int → Int) (r_0 : Int) (layerMany_0 : Int) (lines_0 : Int) (k2 : 1 ≤ x2 ∧ x2 ≤ 129) (k3 : 0 ≤ x3 ∧ x3 ≤ 128) (k18 : 0 ≤ x18 ∧ x18 ≤ 75) (d2 : x2 + (-4294967296) ≤ x3 ∧ x3 ≤ x2 + (-1)) (h0 : x18 = lineB_0 (x3)) (f20 : LSA (r_0) (items_0) (layerMany_0) (lines_0) (all_0) (turned_0) (itemLayer_0) (firstJoint_0) (lineA_0) (lineB_0)) (f22 : (x2 + 1) ≤ lines_0) (kz_0_100 : 0 ≤ items_0 ∧ items_0 ≤ 76) (kz_0_101 : 0 ≤ layerMany_0 ∧ layerMany_0 ≤ 76) (kz_0_107 : 0 ≤ lines_0 ∧ lines_0 ≤ 130) : (0 ≤ x18) ∧ ((x18 + 1) ≤ items_0) := by
  first
    | omega
    | exact lsa_la (p := x2) ‹LSA _ _ _ _ _ _ _ _ _ _› (by omega) (by omega) (by assumption)
    | exact lsa_la (p := x3) ‹LSA _ _ _ _ _ _ _ _ _ _› (by omega) (by omega) (by assumption)
    | exact lsa_lb (p := x2) ‹LSA _ _ _ _ _ _ _ _ _ _› (by omega) (by omega) (by assumption)
    | exact lsa_lb (p := x3) ‹LSA _ _ _ _ _ _ _ _ _ _› (by omega) (by omega) (by assumption)
def o_Mo_crossings_4 : or_T := (87, 19, [(0, (2, 0, 0, [165])), (2, (0, 1, 129, [])), (3, (0, 0, 128, [])), (18, (0, 0, 75, []))], [(10, [18, 15, 3], []), (9, [15, 0], [109]), (20, [0], [60, 4, 6, 445, 5, 100, 101, 107, 2, 95, 102, 104, 108, 109]), (20, [2, 0], [50, 1, 0, 1107, 0, 6, 4, 2, 1, 0, 0, 1, 2, 1, 107])], [], [], [(20, [18, 0], [50, 1, 0, 1100, 2, 6, 0, 2, 0, 0, 1, 0, 0, 6, 4, 2, 1, 0, 0, 1, 2, 1, 100])], [], [(3, 2, -4294967296, -1)])
theorem oo_Mo_crossings_4 {kA : Nat → ClassId} : or_ok PRD kA GG o_Mo_crossings_4 := by
  refine or_mk fun A ta ws vs hD hth hl => ?_
  intro t0 r0 t2 k2 t3 k3 t18 k18 d2 f0 f1 f20 f22
  replace f0 := shm_107 f0
  replace f1 := shm_632 f1
  have ad_15 : v_ad (n_v vs 15) = w_ar ws (n_v vs 0) 109 := congrArg v_ad f1
  simp only [ad_15] at f0
  have h0 : v_iv (n_v vs 18) = w_ei ws (w_ar ws (n_v vs 0) 109) (v_iv (n_v vs 3)) := f0
  have kz_0_100 := fdq_162 hD hth r0
  have kz_0_101 := fdq_125 hD hth r0
  have kz_0_107 := fdq_163 hD hth r0
  have nf0 : fc_1 PRD (20, [18, 0], [50, 1, 0, 1100, 2, 6, 0, 2, 0, 0, 1, 0, 0, 6, 4, 2, 1, 0, 0, 1, 2, 1, 100]) ws (vs) := ⟨nf_in hl rfl, sgq_676 (vc_Mo_crossings_4_0 (v_iv (n_v vs 2)) (v_iv (n_v vs 3)) (v_iv (n_v vs 18)) (w_ei ws (w_ar ws (n_v vs 0) 109)) (w_ei ws (w_ar ws (n_v vs 0) 102)) (w_fi ws (n_v vs 0) 100) (w_ei ws (w_ar ws (n_v vs 0) 108)) (w_ei ws (w_ar ws (n_v vs 0) 2)) (w_ei ws (w_ar ws (n_v vs 0) 95)) (w_ei ws (w_ar ws (n_v vs 0) 104)) (w_fi ws (n_v vs 0) 5) (w_fi ws (n_v vs 0) 101) (w_fi ws (n_v vs 0) 107) k2 k3 k18 d2 h0 (shm_674 f20) (shm_762 f22) kz_0_100 kz_0_101 kz_0_107)⟩
  refine ⟨(fun _ h => (by cases h)), [], trivial, ?_, (fun _ h => (by cases h))⟩
  rw [List.append_nil]
  exact List.forall_mem_cons.mpr ⟨⟨show (20 : Nat) < 100 from by decide, nf0⟩, (fun _ h => (by cases h))⟩
def n_Mo_crossings_an : List an_T := [(4, [(0, (2, 0, 0, [165])), (1, (0, (Int.negSucc 2147483647), 2147483647, [])), (2, (0, 0, 130, []))], [], (0, 0), [(0, 0, 99996), (1, 2, 130), (0, 0, 100000), (0, 0, 0), (0, 0, 0)], [], [], [], 0, [], [(20, [0], [60, 4, 6, 445, 5, 100, 101, 107, 2, 95, 102, 104, 108, 109]), (20, [0], [60, 2, 3, 448, 100, 101, 102, 105, 106])]), (14, [(0, (2, 0, 0, [165])), (1, (0, (Int.negSucc 2147483647), 2147483647, [])), (2, (0, 0, 129, [])), (3, (0, 0, 129, []))], [], (0, 0), [(0, 0, 99996), (1, 2, 130), (0, 0, 99986), (1, 3, 129), (0, 0, 100000)], [(3, 2, (Int.negSucc 999999999999), 0)], [], [], 0, [], [(20, [0], [60, 4, 6, 445, 5, 100, 101, 107, 2, 95, 102, 104, 108, 109]), (20, [0], [60, 2, 3, 448, 100, 101, 102, 105, 106]), (20, [2, 0], [50, 1, 0, 1107, 0, 6, 4, 2, 1, 0, 0, 1, 2, 1, 107])])]
def t_Mo_crossings_ct : ct_L := [(1, 858, e_Mo_placeOf)]
set_option maxRecDepth 100000 in
theorem c_Mo_crossings {l : Launch} {D : va_G} {kA : Nat → ClassId} (h_Mo_placeOf : ct_ok PRD l D kA GG y_Mo_placeOf z_Mo_placeOf e_Mo_placeOf) : ct_ok PRD l D kA GG y_Mo_crossings z_Mo_crossings e_Mo_crossings := chk_all_ok (FT := [(222, 13, 102), (237, 13, 108), (240, 13, 109), (847, 13, 107)]) (PT := []) (CT := t_Mo_crossings_ct) (KT := []) (NT := []) (AN := n_Mo_crossings_an) (OT := [o_Mo_crossings_0, o_Mo_crossings_1, o_Mo_crossings_2, o_Mo_crossings_3, o_Mo_crossings_4]) 5 404 (List.forall_mem_cons.mpr ⟨oo_Mo_crossings_0, List.forall_mem_cons.mpr ⟨oo_Mo_crossings_1, List.forall_mem_cons.mpr ⟨oo_Mo_crossings_2, List.forall_mem_cons.mpr ⟨oo_Mo_crossings_3, List.forall_mem_cons.mpr ⟨oo_Mo_crossings_4, List.forall_mem_nil _⟩⟩⟩⟩⟩) (by decide +kernel) ⟨List.forall_mem_cons.mpr ⟨gf_Mo_222, List.forall_mem_cons.mpr ⟨gf_Mo_237, List.forall_mem_cons.mpr ⟨gf_Mo_240, List.forall_mem_cons.mpr ⟨gf_Mo_847, List.forall_mem_nil _⟩⟩⟩⟩, List.forall_mem_nil _, List.forall_mem_cons.mpr ⟨cl_virtual (y := y_Mo_placeOf) (ci := 13) rfl rfl ⟨_, _, rfl⟩ (by decide +kernel) h_Mo_placeOf wm_3442 wm_9 wm_3439 wm_3441 wv_18_12 ⟨by decide, by decide, by decide +kernel⟩ (by decide), List.forall_mem_nil _⟩, List.forall_mem_nil _, List.forall_mem_nil _, GG_pl⟩ (by decide +kernel)
set_option maxHeartbeats 4000000 in
theorem vc_Mo_dropEdge_at_g0_0_0 (x1 : Int) (x2 : Int) (all_0 : Int → Int) (r_0 : Int) (now_0 : Int → Int) (latest_0 : Int → Int) (k1 : 0 ≤ x1 ∧ x1 ≤ 47) (k2 : 0 ≤ x2 ∧ x2 ≤ 23) (f1 : RWS (r_0) (all_0) (now_0) (latest_0)) (f2 : EDA (r_0) (all_0) (x1)) (f4 : NOI (r_0) (all_0) (x1) (x2)) : DE2 (r_0) (all_0) (now_0) (latest_0) (x1) (x1) (x2) := by
  first
    | exact de2_start ‹RWS _ _ _ _› ‹EDA _ _ _› ‹NOI _ _ _ _› (by omega)
    | exact (de2_step ‹DE2 _ _ _ _ _ _ _› (by omega) (by omega) (by assumption) (by assumption) (by assumption) (by assumption) (by omega) (by assumption) (by omega) (by omega) (by assumption) (by omega) (by omega) (by omega)).1
def o_Mo_dropEdge_at_g0_0 : or_T := (2, 3, [(1, (0, 0, 47, [])), (2, (0, 0, 23, []))], [(20, [0], [60, 1, 3, 199, 5, 2, 3, 4]), (20, [0, 1], [60, 1, 1, 209, 5, 2]), (20, [0, 1, 2], [60, 1, 1, 210, 5, 2])], [], [], [(20, [0, 1, 1, 2], [60, 1, 3, 212, 5, 2, 3, 4]), (24, [0, 0], []), (24, [1, 1], [])], [], [])
theorem oo_Mo_dropEdge_at_g0_0 {kA : Nat → ClassId} : or_ok PRD kA GG o_Mo_dropEdge_at_g0_0 := by
  refine or_mk fun A ta ws vs hD hth hl => ?_
  intro t1 k1 t2 k2 f1 f2 f4
  have nf0 : fc_1 PRD (20, [0, 1, 1, 2], [60, 1, 3, 212, 5, 2, 3, 4]) ws (vs) := ⟨nf_in hl rfl, sgq_984 (vc_Mo_dropEdge_at_g0_0_0 (v_iv (n_v vs 1)) (v_iv (n_v vs 2)) (w_ei ws (w_ar ws (n_v vs 0) 2)) (w_fi ws (n_v vs 0) 5) (w_ei ws (w_ar ws (n_v vs 0) 3)) (w_ei ws (w_ar ws (n_v vs 0) 4)) k1 k2 (shm_980 f1) (shm_981 f2) (shm_982 f4))⟩
  have nf1 : fc_1 PRD (24, [0, 0], []) ws (vs) := by
    refine ⟨nf_in hl rfl, sgq_1 ?_⟩
    · show n_v vs 0 = n_v vs 0
      first | rfl | simp only [true_and]
  have nf2 : fc_1 PRD (24, [1, 1], []) ws (vs) := by
    refine ⟨nf_in hl rfl, sgq_1 ?_⟩
    · show n_v vs 1 = n_v vs 1
      first | rfl | simp only [true_and]
  refine ⟨(fun _ h => (by cases h)), [], trivial, ?_, (fun _ h => (by cases h))⟩
  rw [List.append_nil]
  exact List.forall_mem_cons.mpr ⟨⟨show (20 : Nat) < 100 from by decide, nf0⟩, List.forall_mem_cons.mpr ⟨⟨show (24 : Nat) < 100 from by decide, nf1⟩, List.forall_mem_cons.mpr ⟨⟨show (24 : Nat) < 100 from by decide, nf2⟩, (fun _ h => (by cases h))⟩⟩⟩
def o_Mo_dropEdge_at_g0_1 : or_T := (158, 14, [(0, (2, 0, 0, [165])), (1, (0, 0, 47, [])), (2, (0, 0, 23, [])), (3, (2, 0, 0, [165])), (4, (0, 0, 47, [])), (5, (0, 0, 47, [])), (6, (0, 1, 1, [])), (7, (0, 1, 48, [])), (8, (0, 0, 48, [])), (9, (2, 0, 0, [167])), (10, (0, 0, 66297, [])), (11, (0, 1, 1, [])), (12, (0, 1, 66298, [])), (13, (0, 0, 48, []))], [(10, [13, 9, 12], []), (1, [12, 10, 11], []), (9, [10, 3], [5]), (9, [9, 3], [2]), (7, [7, 8], [3]), (20, [8, 3], [30, 0, 1, 0, 0, -1, 3, 2005001]), (20, [8, 3], [30, 0, -1, 0, 0, 1, 3, 2005001]), (1, [7, 5, 6], []), (20, [4, 3], [30, -1, 1, 0, 0, -1, 3, 2005001]), (20, [2, 3], [30, -1, 1, 0, 0, -1, 3, 2005000]), (20, [3, 4, 5, 2], [60, 1, 3, 212, 5, 2, 3, 4]), (20, [3, 2], [60, 1, 1, 208, 5, 2]), (24, [0, 3], []), (24, [1, 4], [])], [(13, (0, 1, 48, []))], [], [], [], [(12, 10, 1, 1), (7, 8, 0, 4294967296), (7, 5, 1, 1), (1, 4, -4294967296, 0), (1, 5, -4294967296, 0), (4, 1, -4294967296, 0), (4, 5, -4294967296, 0)])
theorem oo_Mo_dropEdge_at_g0_1 {kA : Nat → ClassId} : or_ok PRD kA GG o_Mo_dropEdge_at_g0_1 := by
  refine or_mk fun A ta ws vs hD hth hl => ?_
  intro t0 r0 t1 k1 t2 k2 t3 r3 t4 k4 t5 k5 t6 k6 t7 k7 t8 k8 t9 r9 t10 k10 t11 k11 t12 k12 t13 k13 d0 d1 d2 d3 d4 d5 d6 f0 f1 f2 f3 f4 f5 f6 f7 f8 f9 f10 f11 f12 f13
  replace f0 := shm_107 f0
  replace f1 := shm_12 f1
  replace f2 := shm_110 f2
  replace f3 := shm_120 f3
  replace f4 := shm_2 f4
  replace f5 := shm_121 f5
  replace f6 := shm_122 f6
  replace f7 := shm_12 f7
  replace f8 := shm_979 f8
  replace f9 := shm_269 f9
  replace f10 := shm_985 f10
  replace f11 := shm_983 f11
  replace f12 := shm_5 f12
  replace f13 := shm_5 f13
  have q3 : n_v vs 3 = n_v vs 0 := f12.symm
  have q4 : n_v vs 4 = n_v vs 1 := f13.symm
  simp only [q3, q4] at f2 f3 f5 f6 f8 f9 f10 f11
  have cr_0_2 := fdq_10 hD hth r0
  have cr_0_3 := fdq_142 hD hth r0
  have cr_0_4 := fdq_143 hD hth r0
  have ad_9 : v_ad (n_v vs 9) = w_ar ws (n_v vs 0) 2 := congrArg v_ad f3
  simp only [ad_9] at f0
  have h0 : v_iv (n_v vs 13) = w_ei ws (w_ar ws (n_v vs 0) 2) (v_iv (n_v vs 12)) := f0
  have g2 : v_iv (n_v vs 10) = w_fi ws (n_v vs 0) 5 := congrArg v_iv f2
  have cg0_F5_1 : v_iv (n_v vs 12) = w_fi ws (n_v vs 0) 5 + 1 → w_el ws (w_ar ws (n_v vs 0) 2) (v_iv (n_v vs 12)).toNat = w_el ws (w_ar ws (n_v vs 0) 2) (w_fi ws (n_v vs 0) 5 + 1).toNat := fun h => by rw [h]
  have cg0_F5_0 : v_iv (n_v vs 12) = w_fi ws (n_v vs 0) 5 + 0 → w_el ws (w_ar ws (n_v vs 0) 2) (v_iv (n_v vs 12)).toNat = w_el ws (w_ar ws (n_v vs 0) 2) (w_fi ws (n_v vs 0) 5 + 0).toNat := fun h => by rw [h]
  have br_0_2_F5_0_0 : w_ei ws (w_ar ws (n_v vs 0) 2) (w_fi ws (n_v vs 0) 5 + 0) = w_el ws (w_ar ws (n_v vs 0) 2) (w_fi ws (n_v vs 0) 5 + 0).toNat := rfl
  have br_0_2_F5_1_0 : w_ei ws (w_ar ws (n_v vs 0) 2) (w_fi ws (n_v vs 0) 5 + 1) = w_el ws (w_ar ws (n_v vs 0) 2) (w_fi ws (n_v vs 0) 5 + 1).toNat := rfl
  have br_0_2_12_0 : w_ei ws (w_ar ws (n_v vs 0) 2) (v_iv (n_v vs 12)) = w_el ws (w_ar ws (n_v vs 0) 2) (v_iv (n_v vs 12)).toNat := rfl
  have hK_0_3 := elq_80 hD hth cr_0_3
  have hK_0_4 := elq_81 hD hth cr_0_4
  have rf13 : tv_ok ta (0, 1, 48, []) (n_v vs 13) := tv_in t13 (by first | omega | grind) (by first | omega | grind)
  refine ⟨List.forall_mem_cons.mpr ⟨rf13, (fun _ h => (by cases h))⟩, [], trivial, ?_, (fun _ h => (by cases h))⟩
  rw [List.append_nil]
  exact (fun _ h => (by cases h))
set_option maxHeartbeats 4000000 in
theorem vc_Mo_dropEdge_at_g0_2_0 (x1 : Int) (x4 : Int) (x10 : Int) (x11 : Int) (x12 : Int) (x13 : Int) (x15 : Int) (all_1 : Int → Int) (r_1 : Int) (r_0 : Int) (now_1 : Int → Int) (latest_1 : Int → Int) (all_0 : Int → Int) (now_0 : Int → Int) (latest_0 : Int → Int) (k1 : 0 ≤ x1 ∧ x1 ≤ 47) (k4 : 0 ≤ x4 ∧ x4 ≤ 47) (k10 : 0 ≤ x10 ∧ x10 ≤ 66297) (k12 : 1 ≤ x12 ∧ x12 ≤ 66298) (k13 : 1 ≤ x13 ∧ x13 ≤ 48) (k15 : 0 ≤ x15 ∧ x15 ≤ 47) (d0 : x13 + (-1) ≤ x15 ∧ x15 ≤ x13 + (-1)) (d1 : x10 + 1 ≤ x12 ∧ x12 ≤ x10 + 1) (d4 : x4 + (-4294967296) ≤ x1 ∧ x1 ≤ x4 + 0) (d6 : x1 + (-4294967296) ≤ x4 ∧ x4 ≤ x1 + 0) (h4 : x13 = all_1 (x12)) (g6 : x10 = r_1) (f12 : 1 * x1 + ((-1) * all_1 (r_0 + 1) + 0) ≤ (-1)) (fe_0_5_1 : r_0 = r_1) (hE_0_2_1 : ∀ j : Int, 0 ≤ j → (j = x12 → all_0 j = x15) ∧ (j ≠ x12 → all_0 j = all_1 j)) (hE_0_3_1 : ∀ j : Int, now_0 j = now_1 j) (hE_0_4_1 : ∀ j : Int, latest_0 j = latest_1 j) : 1 * x1 + ((-1) * all_0 (r_0 + 1) + 0) ≤ 0 := by
  subst fe_0_5_1
  have e_hE_0_3_1 := funext hE_0_3_1; subst e_hE_0_3_1
  have e_hE_0_4_1 := funext hE_0_4_1; subst e_hE_0_4_1
  first
    | (have q := hE_0_2_1 (r_0 + 0) (by omega); skip; (first | subst h4 | skip); omega)
    | (have e12 : x12 = r_0 + 1 := by omega
       subst e12
       have q := hE_0_2_1 (r_0 + 1) (by omega)
       skip; (first | subst h4 | skip)
       omega)
    | (have e12 : x11 = r_0 + 1 := by omega
       subst e12
       have q := hE_0_2_1 (r_0 + 1) (by omega)
       skip; (first | subst h4 | skip)
       omega)
set_option maxHeartbeats 4000000 in
theorem vc_Mo_dropEdge_at_g0_2_1 (x1 : Int) (x2 : Int) (x5 : Int) (x7 : Int) (x8 : Int) (x10 : Int) (x12 : Int) (x13 : Int) (x15 : Int) (all_1 : Int → Int) (r_1 : Int) (r_0 : Int) (now_1 : Int → Int) (latest_1 : Int → Int) (all_0 : Int → Int) (now_0 : Int → Int) (latest_0 : Int → Int) (k1 : 0 ≤ x1 ∧ x1 ≤ 47) (k2 : 0 ≤ x2 ∧ x2 ≤ 23) (k5 : 0 ≤ x5 ∧ x5 ≤ 47) (k7 : 1 ≤ x7 ∧ x7 ≤ 48) (k8 : 0 ≤ x8 ∧ x8 ≤ 48) (k10 : 0 ≤ x10 ∧ x10 ≤ 66297) (k12 : 1 ≤ x12 ∧ x12 ≤ 66298) (k13 : 1 ≤ x13 ∧ x13 ≤ 48) (k15 : 0 ≤ x15 ∧ x15 ≤ 47) (d0 : x13 + (-1) ≤ x15 ∧ x15 ≤ x13 + (-1)) (d1 : x10 + 1 ≤ x12 ∧ x12 ≤ x10 + 1) (d2 : x8 + 0 ≤ x7 ∧ x7 ≤ x8 + 4294967296) (d3 : x5 + 1 ≤ x7 ∧ x7 ≤ x5 + 1) (h4 : x13 = all_1 (x12)) (g6 : x10 = r_1) (f9 : 1 * x8 + ((-1) * all_1 (r_0 + 1) + 0) ≤ 0) (f10 : (-1) * x8 + (1 * all_1 (r_0 + 1) + 0) ≤ 0) (f14 : DE2 (r_1) (all_1) (now_1) (latest_1) (x1) (x5) (x2)) (fe_0_5_1 : r_0 = r_1) (hE_0_2_1 : ∀ j : Int, 0 ≤ j → (j = x12 → all_0 j = x15) ∧ (j ≠ x12 → all_0 j = all_1 j)) (hE_0_3_1 : ∀ j : Int, now_0 j = now_1 j) (hE_0_4_1 : ∀ j : Int, latest_0 j = latest_1 j) : RWS (r_0) (all_0) (now_0) (latest_0) := by
  subst fe_0_5_1
  have e_hE_0_3_1 := funext hE_0_3_1; subst e_hE_0_3_1
  have e_hE_0_4_1 := funext hE_0_4_1; subst e_hE_0_4_1
  first
    | exact (de2_end ‹DE2 _ _ _ _ _ _ _› (by omega) (by assumption) (by omega) (by omega)).1
    | exact (de2_end ‹DX2 _ _ _ _ _ _› (by omega) (by assumption) (by omega) (by omega)).1
set_option maxHeartbeats 4000000 in
theorem vc_Mo_dropEdge_at_g0_2_2 (x2 : Int) (x10 : Int) (x11 : Int) (x12 : Int) (x13 : Int) (x15 : Int) (all_1 : Int → Int) (r_1 : Int) (r_0 : Int) (now_1 : Int → Int) (latest_1 : Int → Int) (all_0 : Int → Int) (now_0 : Int → Int) (latest_0 : Int → Int) (k2 : 0 ≤ x2 ∧ x2 ≤ 23) (k10 : 0 ≤ x10 ∧ x10 ≤ 66297) (k12 : 1 ≤ x12 ∧ x12 ≤ 66298) (k13 : 1 ≤ x13 ∧ x13 ≤ 48) (k15 : 0 ≤ x15 ∧ x15 ≤ 47) (d1 : x10 + 1 ≤ x12 ∧ x12 ≤ x10 + 1) (h4 : x13 = all_1 (x12)) (g6 : x10 = r_1) (f13 : 1 * x2 + ((-1) * all_1 (r_0 + 0) + 0) ≤ (-1)) (fe_0_5_1 : r_0 = r_1) (hE_0_2_1 : ∀ j : Int, 0 ≤ j → (j = x12 → all_0 j = x15) ∧ (j ≠ x12 → all_0 j = all_1 j)) (hE_0_3_1 : ∀ j : Int, now_0 j = now_1 j) (hE_0_4_1 : ∀ j : Int, latest_0 j = latest_1 j) : 1 * x2 + ((-1) * all_0 (r_0 + 0) + 0) ≤ (-1) := by
  subst fe_0_5_1
  have e_hE_0_3_1 := funext hE_0_3_1; subst e_hE_0_3_1
  have e_hE_0_4_1 := funext hE_0_4_1; subst e_hE_0_4_1
  first
    | (have q := hE_0_2_1 (r_0 + 0) (by omega); skip; (first | subst h4 | skip); omega)
    | (have e12 : x12 = r_0 + 1 := by omega
       subst e12
       have q := hE_0_2_1 (r_0 + 1) (by omega)
       skip; (first | subst h4 | skip)
       omega)
    | (have e12 : x11 = r_0 + 1 := by omega
       subst e12
       have q := hE_0_2_1 (r_0 + 1) (by omega)
       skip; (first | subst h4 | skip)
       omega)
set_option maxHeartbeats 4000000 in
theorem vc_Mo_dropEdge_at_g0_2_3 (x1 : Int) (x2 : Int) (x5 : Int) (x7 : Int) (x8 : Int) (x10 : Int) (x12 : Int) (x13 : Int) (x15 : Int) (all_1 : Int → Int) (r_1 : Int) (r_0 : Int) (now_1 : Int → Int) (latest_1 : Int → Int) (all_0 : Int → Int) (now_0 : Int → Int) (latest_0 : Int → Int) (k1 : 0 ≤ x1 ∧ x1 ≤ 47) (k2 : 0 ≤ x2 ∧ x2 ≤ 23) (k5 : 0 ≤ x5 ∧ x5 ≤ 47) (k7 : 1 ≤ x7 ∧ x7 ≤ 48) (k8 : 0 ≤ x8 ∧ x8 ≤ 48) (k10 : 0 ≤ x10 ∧ x10 ≤ 66297) (k12 : 1 ≤ x12 ∧ x12 ≤ 66298) (k13 : 1 ≤ x13 ∧ x13 ≤ 48) (k15 : 0 ≤ x15 ∧ x15 ≤ 47) (d0 : x13 + (-1) ≤ x15 ∧ x15 ≤ x13 + (-1)) (d1 : x10 + 1 ≤ x12 ∧ x12 ≤ x10 + 1) (d2 : x8 + 0 ≤ x7 ∧ x7 ≤ x8 + 4294967296) (d3 : x5 + 1 ≤ x7 ∧ x7 ≤ x5 + 1) (h4 : x13 = all_1 (x12)) (g6 : x10 = r_1) (f9 : 1 * x8 + ((-1) * all_1 (r_0 + 1) + 0) ≤ 0) (f10 : (-1) * x8 + (1 * all_1 (r_0 + 1) + 0) ≤ 0) (f14 : DE2 (r_1) (all_1) (now_1) (latest_1) (x1) (x5) (x2)) (fe_0_5_1 : r_0 = r_1) (hE_0_2_1 : ∀ j : Int, 0 ≤ j → (j = x12 → all_0 j = x15) ∧ (j ≠ x12 → all_0 j = all_1 j)) (hE_0_3_1 : ∀ j : Int, now_0 j = now_1 j) (hE_0_4_1 : ∀ j : Int, latest_0 j = latest_1 j) : NOJ (r_0) (all_0) (x1) (x2) := by
  subst fe_0_5_1
  have e_hE_0_3_1 := funext hE_0_3_1; subst e_hE_0_3_1
  have e_hE_0_4_1 := funext hE_0_4_1; subst e_hE_0_4_1
  exact (de2_end ‹DE2 _ _ _ _ _ _ _› (by omega) (by assumption) (by omega) (by omega)).2.1
set_option maxHeartbeats 4000000 in
theorem vc_Mo_dropEdge_at_g0_2_4 (x1 : Int) (x2 : Int) (x5 : Int) (x7 : Int) (x8 : Int) (x10 : Int) (x12 : Int) (x13 : Int) (x15 : Int) (all_1 : Int → Int) (r_1 : Int) (r_0 : Int) (now_1 : Int → Int) (latest_1 : Int → Int) (all_0 : Int → Int) (now_0 : Int → Int) (latest_0 : Int → Int) (k1 : 0 ≤ x1 ∧ x1 ≤ 47) (k2 : 0 ≤ x2 ∧ x2 ≤ 23) (k5 : 0 ≤ x5 ∧ x5 ≤ 47) (k7 : 1 ≤ x7 ∧ x7 ≤ 48) (k8 : 0 ≤ x8 ∧ x8 ≤ 48) (k10 : 0 ≤ x10 ∧ x10 ≤ 66297) (k12 : 1 ≤ x12 ∧ x12 ≤ 66298) (k13 : 1 ≤ x13 ∧ x13 ≤ 48) (k15 : 0 ≤ x15 ∧ x15 ≤ 47) (d0 : x13 + (-1) ≤ x15 ∧ x15 ≤ x13 + (-1)) (d1 : x10 + 1 ≤ x12 ∧ x12 ≤ x10 + 1) (d2 : x8 + 0 ≤ x7 ∧ x7 ≤ x8 + 4294967296) (d3 : x5 + 1 ≤ x7 ∧ x7 ≤ x5 + 1) (h4 : x13 = all_1 (x12)) (g6 : x10 = r_1) (f9 : 1 * x8 + ((-1) * all_1 (r_0 + 1) + 0) ≤ 0) (f10 : (-1) * x8 + (1 * all_1 (r_0 + 1) + 0) ≤ 0) (f14 : DE2 (r_1) (all_1) (now_1) (latest_1) (x1) (x5) (x2)) (f15 : NDA (r_1) (all_1) (x2)) (fe_0_5_1 : r_0 = r_1) (hE_0_2_1 : ∀ j : Int, 0 ≤ j → (j = x12 → all_0 j = x15) ∧ (j ≠ x12 → all_0 j = all_1 j)) (hE_0_3_1 : ∀ j : Int, now_0 j = now_1 j) (hE_0_4_1 : ∀ j : Int, latest_0 j = latest_1 j) : NDA (r_0) (all_0) (x2) := by
  subst fe_0_5_1
  have e_hE_0_3_1 := funext hE_0_3_1; subst e_hE_0_3_1
  have e_hE_0_4_1 := funext hE_0_4_1; subst e_hE_0_4_1
  exact nda_eq ‹NDA _ _ _› (de2_end ‹DE2 _ _ _ _ _ _ _› (by omega) (by assumption) (by omega) (by omega)).2.2.1
def o_Mo_dropEdge_at_g0_2 : or_T := (161, 16, [(0, (2, 0, 0, [165])), (1, (0, 0, 47, [])), (2, (0, 0, 23, [])), (4, (0, 0, 47, [])), (5, (0, 0, 47, [])), (7, (0, 1, 48, [])), (8, (0, 0, 48, [])), (9, (2, 0, 0, [167])), (10, (0, 0, 66297, [])), (12, (0, 1, 66298, [])), (13, (0, 1, 48, [])), (15, (0, 0, 47, []))], [(24, [0, 3], []), (24, [1, 4], []), (100, [9, 12, 15], []), (10, [13, 9, 12], []), (9, [10, 3], [5]), (9, [9, 3], [2]), (20, [8, 3], [30, 0, 1, 0, 0, -1, 3, 2005001]), (20, [8, 3], [30, 0, -1, 0, 0, 1, 3, 2005001]), (20, [4, 3], [30, -1, 1, 0, 0, -1, 3, 2005001]), (20, [2, 3], [30, -1, 1, 0, 0, -1, 3, 2005000]), (20, [3, 4, 5, 2], [60, 1, 3, 212, 5, 2, 3, 4]), (20, [3, 2], [60, 1, 1, 208, 5, 2])], [], [], [(20, [1, 0], [30, 0, 1, 0, 0, -1, 3, 2005001]), (20, [0], [60, 1, 3, 199, 5, 2, 3, 4]), (20, [2, 0], [30, -1, 1, 0, 0, -1, 3, 2005000]), (20, [0, 1, 2], [60, 1, 1, 211, 5, 2]), (20, [0, 2], [60, 1, 1, 208, 5, 2])], [], [(15, 13, -1, -1), (12, 10, 1, 1), (7, 8, 0, 4294967296), (7, 5, 1, 1), (1, 4, -4294967296, 0), (4, 1, -4294967296, 0)])
theorem oo_Mo_dropEdge_at_g0_2 {kA : Nat → ClassId} : or_ok PRD kA GG o_Mo_dropEdge_at_g0_2 := by
  refine or_mk fun A ta ws vs hD hth hl => ?_
  intro t0 r0 t1 k1 t2 k2 t4 k4 t5 k5 t7 k7 t8 k8 t9 r9 t10 k10 t12 k12 t13 k13 t15 k15 d0 d1 d2 d3 d4 d6 f0 f1 ta1 w1 le1 s1 f4 f6 f7 f9 f10 f12 f13 f14 f15
  replace f0 := shm_5 f0
  replace f1 := shm_5 f1
  have s1 : (∀ b j, w_el ws b j = if b = v_ad (n_v vs 9) ∧ j = (v_iv (n_v vs 12)).toNat then v_iv (n_v vs 15) else w_el w1 b j) ∧ ∀ b k, w_fd ws b k = w_fd w1 b k := s1.2
  replace f4 := shm_107 f4
  replace f6 := shm_110 f6
  replace f7 := shm_120 f7
  replace f9 := shm_121 f9
  replace f10 := shm_122 f10
  replace f12 := shm_979 f12
  replace f13 := shm_269 f13
  replace f14 := shm_985 f14
  replace f15 := shm_983 f15
  have q3 : n_v vs 3 = n_v vs 0 := f0.symm
  have q4 : n_v vs 4 = n_v vs 1 := f1.symm
  simp only [q3, q4] at f6 f7 f9 f10 f12 f13 f14 f15
  have ar_0_2_1 : w_ar w1 (n_v vs 0) 2 = w_ar ws (n_v vs 0) 2 := congrArg v_ad (s1.2 _ _).symm
  have ar_0_3_1 : w_ar w1 (n_v vs 0) 3 = w_ar ws (n_v vs 0) 3 := congrArg v_ad (s1.2 _ _).symm
  have cr_0_3 := fdq_142 hD hth r0
  have ar_0_4_1 : w_ar w1 (n_v vs 0) 4 = w_ar ws (n_v vs 0) 4 := congrArg v_ad (s1.2 _ _).symm
  have cr_0_4 := fdq_143 hD hth r0
  have fi_0_5_1 : w_fi w1 (n_v vs 0) 5 = w_fi ws (n_v vs 0) 5 := by show v_iv (w_fd w1 _ _) = v_iv (w_fd ws _ _); rw [s1.2]
  have ad_9 : v_ad (n_v vs 9) = w_ar ws (n_v vs 0) 2 := (congrArg v_ad f7).trans ar_0_2_1
  simp only [ad_9] at f4
  have h4 : v_iv (n_v vs 13) = w_ei w1 (w_ar ws (n_v vs 0) 2) (v_iv (n_v vs 12)) := f4
  have g6 : v_iv (n_v vs 10) = w_fi w1 (n_v vs 0) 5 := congrArg v_iv f6
  simp only [ar_0_2_1, ar_0_3_1, ar_0_4_1] at f9 f10 f12 f13 f14 f15
  simp only [fi_0_5_1] at f9 f10 f12 f13
  have fe_0_5_1 : w_fi ws (n_v vs 0) 5 = w_fi w1 (n_v vs 0) 5 := congrArg v_iv (s1.2 _ _)
  have hE_0_2_1 : ∀ j : Int, 0 ≤ j → (j = v_iv (n_v vs 12) → w_ei ws (w_ar ws (n_v vs 0) 2) j = v_iv (n_v vs 15)) ∧ (j ≠ v_iv (n_v vs 12) → w_ei ws (w_ar ws (n_v vs 0) 2) j = w_ei w1 (w_ar ws (n_v vs 0) 2) j) := fun j hj => ⟨fun h => by unfold w_ei; rw [s1.1, if_pos ⟨ad_9.symm, by rw [h]⟩], fun h => by unfold w_ei; rw [s1.1, if_neg (fun e => h (by have := e.2; omega))]⟩
  have hE_0_3_1 : ∀ j : Int, w_ei ws (w_ar ws (n_v vs 0) 3) j = w_ei w1 (w_ar ws (n_v vs 0) 3) j := el_kp s1.1 r9 cr_0_3 (by decide)
  have hE_0_4_1 : ∀ j : Int, w_ei ws (w_ar ws (n_v vs 0) 4) j = w_ei w1 (w_ar ws (n_v vs 0) 4) j := el_kp s1.1 r9 cr_0_4 (by decide)
  have nf0 : fc_1 PRD (20, [1, 0], [30, 0, 1, 0, 0, -1, 3, 2005001]) ws (vs) := ⟨nf_in hl rfl, sgq_121 (vc_Mo_dropEdge_at_g0_2_0 (v_iv (n_v vs 1)) (v_iv (n_v vs 4)) (v_iv (n_v vs 10)) (v_iv (n_v vs 11)) (v_iv (n_v vs 12)) (v_iv (n_v vs 13)) (v_iv (n_v vs 15)) (w_ei w1 (w_ar ws (n_v vs 0) 2)) (w_fi w1 (n_v vs 0) 5) (w_fi ws (n_v vs 0) 5) (w_ei w1 (w_ar ws (n_v vs 0) 3)) (w_ei w1 (w_ar ws (n_v vs 0) 4)) (w_ei ws (w_ar ws (n_v vs 0) 2)) (w_ei ws (w_ar ws (n_v vs 0) 3)) (w_ei ws (w_ar ws (n_v vs 0) 4)) k1 k4 k10 k12 k13 k15 d0 d1 d4 d6 h4 g6 f12 fe_0_5_1 hE_0_2_1 hE_0_3_1 hE_0_4_1)⟩
  have nf1 : fc_1 PRD (20, [0], [60, 1, 3, 199, 5, 2, 3, 4]) ws (vs) := ⟨nf_in hl rfl, sgq_980 (vc_Mo_dropEdge_at_g0_2_1 (v_iv (n_v vs 1)) (v_iv (n_v vs 2)) (v_iv (n_v vs 5)) (v_iv (n_v vs 7)) (v_iv (n_v vs 8)) (v_iv (n_v vs 10)) (v_iv (n_v vs 12)) (v_iv (n_v vs 13)) (v_iv (n_v vs 15)) (w_ei w1 (w_ar ws (n_v vs 0) 2)) (w_fi w1 (n_v vs 0) 5) (w_fi ws (n_v vs 0) 5) (w_ei w1 (w_ar ws (n_v vs 0) 3)) (w_ei w1 (w_ar ws (n_v vs 0) 4)) (w_ei ws (w_ar ws (n_v vs 0) 2)) (w_ei ws (w_ar ws (n_v vs 0) 3)) (w_ei ws (w_ar ws (n_v vs 0) 4)) k1 k2 k5 k7 k8 k10 k12 k13 k15 d0 d1 d2 d3 h4 g6 f9 f10 f14 fe_0_5_1 hE_0_2_1 hE_0_3_1 hE_0_4_1)⟩
  have nf2 : fc_1 PRD (20, [2, 0], [30, -1, 1, 0, 0, -1, 3, 2005000]) ws (vs) := ⟨nf_in hl rfl, sgq_269 (vc_Mo_dropEdge_at_g0_2_2 (v_iv (n_v vs 2)) (v_iv (n_v vs 10)) (v_iv (n_v vs 11)) (v_iv (n_v vs 12)) (v_iv (n_v vs 13)) (v_iv (n_v vs 15)) (w_ei w1 (w_ar ws (n_v vs 0) 2)) (w_fi w1 (n_v vs 0) 5) (w_fi ws (n_v vs 0) 5) (w_ei w1 (w_ar ws (n_v vs 0) 3)) (w_ei w1 (w_ar ws (n_v vs 0) 4)) (w_ei ws (w_ar ws (n_v vs 0) 2)) (w_ei ws (w_ar ws (n_v vs 0) 3)) (w_ei ws (w_ar ws (n_v vs 0) 4)) k2 k10 k12 k13 k15 d1 h4 g6 f13 fe_0_5_1 hE_0_2_1 hE_0_3_1 hE_0_4_1)⟩
  have nf3 : fc_1 PRD (20, [0, 1, 2], [60, 1, 1, 211, 5, 2]) ws (vs) := ⟨nf_in hl rfl, sgq_986 (vc_Mo_dropEdge_at_g0_2_3 (v_iv (n_v vs 1)) (v_iv (n_v vs 2)) (v_iv (n_v vs 5)) (v_iv (n_v vs 7)) (v_iv (n_v vs 8)) (v_iv (n_v vs 10)) (v_iv (n_v vs 12)) (v_iv (n_v vs 13)) (v_iv (n_v vs 15)) (w_ei w1 (w_ar ws (n_v vs 0) 2)) (w_fi w1 (n_v vs 0) 5) (w_fi ws (n_v vs 0) 5) (w_ei w1 (w_ar ws (n_v vs 0) 3)) (w_ei w1 (w_ar ws (n_v vs 0) 4)) (w_ei ws (w_ar ws (n_v vs 0) 2)) (w_ei ws (w_ar ws (n_v vs 0) 3)) (w_ei ws (w_ar ws (n_v vs 0) 4)) k1 k2 k5 k7 k8 k10 k12 k13 k15 d0 d1 d2 d3 h4 g6 f9 f10 f14 fe_0_5_1 hE_0_2_1 hE_0_3_1 hE_0_4_1)⟩
  have nf4 : fc_1 PRD (20, [0, 2], [60, 1, 1, 208, 5, 2]) ws (vs) := ⟨nf_in hl rfl, sgq_983 (vc_Mo_dropEdge_at_g0_2_4 (v_iv (n_v vs 1)) (v_iv (n_v vs 2)) (v_iv (n_v vs 5)) (v_iv (n_v vs 7)) (v_iv (n_v vs 8)) (v_iv (n_v vs 10)) (v_iv (n_v vs 12)) (v_iv (n_v vs 13)) (v_iv (n_v vs 15)) (w_ei w1 (w_ar ws (n_v vs 0) 2)) (w_fi w1 (n_v vs 0) 5) (w_fi ws (n_v vs 0) 5) (w_ei w1 (w_ar ws (n_v vs 0) 3)) (w_ei w1 (w_ar ws (n_v vs 0) 4)) (w_ei ws (w_ar ws (n_v vs 0) 2)) (w_ei ws (w_ar ws (n_v vs 0) 3)) (w_ei ws (w_ar ws (n_v vs 0) 4)) k1 k2 k5 k7 k8 k10 k12 k13 k15 d0 d1 d2 d3 h4 g6 f9 f10 f14 f15 fe_0_5_1 hE_0_2_1 hE_0_3_1 hE_0_4_1)⟩
  refine ⟨(fun _ h => (by cases h)), [], trivial, ?_, (fun _ h => (by cases h))⟩
  rw [List.append_nil]
  exact List.forall_mem_cons.mpr ⟨⟨show (20 : Nat) < 100 from by decide, nf0⟩, List.forall_mem_cons.mpr ⟨⟨show (20 : Nat) < 100 from by decide, nf1⟩, List.forall_mem_cons.mpr ⟨⟨show (20 : Nat) < 100 from by decide, nf2⟩, List.forall_mem_cons.mpr ⟨⟨show (20 : Nat) < 100 from by decide, nf3⟩, List.forall_mem_cons.mpr ⟨⟨show (20 : Nat) < 100 from by decide, nf4⟩, (fun _ h => (by cases h))⟩⟩⟩⟩⟩
set_option maxHeartbeats 4000000 in
theorem vc_Mo_dropEdge_at_g0_3_0 (x1 : Int) (x2 : Int) (x4 : Int) (x5 : Int) (x6 : Int) (x7 : Int) (x8 : Int) (x10 : Int) (x11 : Int) (x12 : Int) (x13 : Int) (x14 : Int) (x15 : Int) (x16 : Int) (x17 : Int) (x18 : Int) (x19 : Int) (x20 : Int) (x21 : Int) (x22 : Int) (x23 : Int) (x24 : Int) (x25 : Int) (x26 : Int) (x27 : Int) (x28 : Int) (x29 : Int) (x30 : Int) (x31 : Int) (x32 : Int) (x33 : Int) (x34 : Int) (x35 : Int) (x36 : Int) (x37 : Int) (x38 : Int) (x39 : Int) (x40 : Int) (x41 : Int) (x42 : Int) (x43 : Int) (x44 : Int) (x45 : Int) (x46 : Int) (x47 : Int) (all_1 : Int → Int) (r_1 : Int) (all_2 : Int → Int) (all_3 : Int → Int) (all_4 : Int → Int) (r_0 : Int) (now_4 : Int → Int) (latest_4 : Int → Int) (r_4 : Int) (r_2 : Int) (r_3 : Int) (all_0 : Int → Int) (now_0 : Int → Int) (now_1 : Int → Int) (now_2 : Int → Int) (now_3 : Int → Int) (latest_0 : Int → Int) (latest_1 : Int → Int) (latest_2 : Int → Int) (latest_3 : Int → Int) (k1 : 0 ≤ x1 ∧ x1 ≤ 47) (k2 : 0 ≤ x2 ∧ x2 ≤ 23) (k4 : 0 ≤ x4 ∧ x4 ≤ 47) (k5 : 0 ≤ x5 ∧ x5 ≤ 46) (k6 : 1 ≤ x6 ∧ x6 ≤ 1) (k7 : 1 ≤ x7 ∧ x7 ≤ 47) (k8 : 2 ≤ x8 ∧ x8 ≤ 48) (k10 : 0 ≤ x10 ∧ x10 ≤ 66297) (k11 : 267 ≤ x11 ∧ x11 ≤ 267) (k12 : 267 ≤ x12 ∧ x12 ≤ 66564) (k13 : 267 ≤ x13 ∧ x13 ≤ 66610) (k14 : 267 ≤ x14 ∧ x14 ≤ 267) (k15 : 267 ≤ x15 ∧ x15 ≤ 66564) (k16 : 267 ≤ x16 ∧ x16 ≤ 66610) (k17 : 1 ≤ x17 ∧ x17 ≤ 1) (k18 : 268 ≤ x18 ∧ x18 ≤ 66611) (k19 : 0 ≤ x19 ∧ x19 ≤ 23) (k20 : 315 ≤ x20 ∧ x20 ≤ 315) (k21 : 315 ≤ x21 ∧ x21 ≤ 66612) (k22 : 315 ≤ x22 ∧ x22 ≤ 66658) (k23 : 315 ≤ x23 ∧ x23 ≤ 315) (k24 : 315 ≤ x24 ∧ x24 ≤ 66612) (k25 : 315 ≤ x25 ∧ x25 ≤ 66658) (k26 : 1 ≤ x26 ∧ x26 ≤ 1) (k27 : 316 ≤ x27 ∧ x27 ≤ 66659) (k28 : 0 ≤ x28 ∧ x28 ≤ 23) (k29 : 363 ≤ x29 ∧ x29 ≤ 363) (k30 : 363 ≤ x30 ∧ x30 ≤ 66660) (k31 : 363 ≤ x31 ∧ x31 ≤ 66706) (k32 : 363 ≤ x32 ∧ x32 ≤ 363) (k33 : 363 ≤ x33 ∧ x33 ≤ 66660) (k34 : 363 ≤ x34 ∧ x34 ≤ 66706) (k35 : 1 ≤ x35 ∧ x35 ≤ 1) (k36 : 364 ≤ x36 ∧ x36 ≤ 66707) (k37 : 0 ≤ x37 ∧ x37 ≤ 9) (k38 : 411 ≤ x38 ∧ x38 ≤ 411) (k39 : 411 ≤ x39 ∧ x39 ≤ 66708) (k40 : 411 ≤ x40 ∧ x40 ≤ 66754) (k41 : 411 ≤ x41 ∧ x41 ≤ 411) (k42 : 411 ≤ x42 ∧ x42 ≤ 66708) (k43 : 411 ≤ x43 ∧ x43 ≤ 66754) (k44 : 1 ≤ x44 ∧ x44 ≤ 1) (k45 : 412 ≤ x45 ∧ x45 ≤ 66755) (k46 : 0 ≤ x46 ∧ x46 ≤ 1) (k47 : 1 ≤ x47 ∧ x47 ≤ 47) (d0 : x5 + 1 ≤ x47 ∧ x47 ≤ x5 + 1) (d1 : x43 + 1 ≤ x45 ∧ x45 ≤ x43 + 1) (d2 : x5 + 412 ≤ x45 ∧ x45 ≤ x5 + 66709) (d3 : x42 + 1 ≤ x45 ∧ x45 ≤ x42 + 47) (d4 : x10 + 412 ≤ x45 ∧ x45 ≤ x10 + 458) (d5 : x5 + 411 ≤ x43 ∧ x43 ≤ x5 + 66708) (d6 : x42 + 0 ≤ x43 ∧ x43 ≤ x42 + 46) (d7 : x10 + 411 ≤ x43 ∧ x43 ≤ x10 + 457) (d8 : x10 + 411 ≤ x42 ∧ x42 ≤ x10 + 411) (d9 : x5 + 411 ≤ x40 ∧ x40 ≤ x5 + 66708) (d10 : x39 + 0 ≤ x40 ∧ x40 ≤ x39 + 46) (d11 : x10 + 411 ≤ x40 ∧ x40 ≤ x10 + 457) (d12 : x10 + 411 ≤ x39 ∧ x39 ≤ x10 + 411) (d13 : x34 + 1 ≤ x36 ∧ x36 ≤ x34 + 1) (d14 : x5 + 364 ≤ x36 ∧ x36 ≤ x5 + 66661) (d15 : x33 + 1 ≤ x36 ∧ x36 ≤ x33 + 47) (d16 : x10 + 364 ≤ x36 ∧ x36 ≤ x10 + 410) (d17 : x5 + 363 ≤ x34 ∧ x34 ≤ x5 + 66660) (d18 : x33 + 0 ≤ x34 ∧ x34 ≤ x33 + 46) (d19 : x10 + 363 ≤ x34 ∧ x34 ≤ x10 + 409) (d20 : x10 + 363 ≤ x33 ∧ x33 ≤ x10 + 363) (d21 : x5 + 363 ≤ x31 ∧ x31 ≤ x5 + 66660) (d22 : x30 + 0 ≤ x31 ∧ x31 ≤ x30 + 46) (d23 : x10 + 363 ≤ x31 ∧ x31 ≤ x10 + 409) (d24 : x10 + 363 ≤ x30 ∧ x30 ≤ x10 + 363) (d25 : x25 + 1 ≤ x27 ∧ x27 ≤ x25 + 1) (d26 : x5 + 316 ≤ x27 ∧ x27 ≤ x5 + 66613) (d27 : x24 + 1 ≤ x27 ∧ x27 ≤ x24 + 47) (d28 : x10 + 316 ≤ x27 ∧ x27 ≤ x10 + 362) (d29 : x5 + 315 ≤ x25 ∧ x25 ≤ x5 + 66612) (d30 : x24 + 0 ≤ x25 ∧ x25 ≤ x24 + 46) (d31 : x10 + 315 ≤ x25 ∧ x25 ≤ x10 + 361) (d32 : x10 + 315 ≤ x24 ∧ x24 ≤ x10 + 315) (d33 : x5 + 315 ≤ x22 ∧ x22 ≤ x5 + 66612) (d34 : x21 + 0 ≤ x22 ∧ x22 ≤ x21 + 46) (d35 : x10 + 315 ≤ x22 ∧ x22 ≤ x10 + 361) (d36 : x10 + 315 ≤ x21 ∧ x21 ≤ x10 + 315) (d37 : x16 + 1 ≤ x18 ∧ x18 ≤ x16 + 1) (d38 : x5 + 268 ≤ x18 ∧ x18 ≤ x5 + 66565) (d39 : x15 + 1 ≤ x18 ∧ x18 ≤ x15 + 47) (d40 : x10 + 268 ≤ x18 ∧ x18 ≤ x10 + 314) (d41 : x5 + 267 ≤ x16 ∧ x16 ≤ x5 + 66564) (d42 : x15 + 0 ≤ x16 ∧ x16 ≤ x15 + 46) (d43 : x10 + 267 ≤ x16 ∧ x16 ≤ x10 + 313) (d44 : x10 + 267 ≤ x15 ∧ x15 ≤ x10 + 267) (d45 : x5 + 267 ≤ x13 ∧ x13 ≤ x5 + 66564) (d46 : x12 + 0 ≤ x13 ∧ x13 ≤ x12 + 46) (d47 : x10 + 267 ≤ x13 ∧ x13 ≤ x10 + 313) (d48 : x10 + 267 ≤ x12 ∧ x12 ≤ x10 + 267) (d49 : x8 + (-4294967296) ≤ x7 ∧ x7 ≤ x8 + (-1)) (d50 : x5 + 1 ≤ x7 ∧ x7 ≤ x5 + 1) (d51 : x4 + (-4294967296) ≤ x1 ∧ x1 ≤ x4 + 0) (d52 : x5 + (-4294967296) ≤ x1 ∧ x1 ≤ x5 + 0) (d53 : x1 + (-4294967296) ≤ x4 ∧ x4 ≤ x1 + 0) (d54 : x5 + (-4294967296) ≤ x4 ∧ x4 ≤ x5 + 0) (f0 : x47 = x5 + 1) (h4 : x46 = all_1 (x45)) (f5 : x45 = x43 + x44) (f6 : x43 = x42 + x5) (f7 : x42 = x10 + x41) (g8 : x10 = r_1) (f10 : x40 = x39 + x5) (f11 : x39 = x10 + x38) (h13 : x37 = all_2 (x36)) (f14 : x36 = x34 + x35) (f15 : x34 = x33 + x5) (f16 : x33 = x10 + x32) (f17 : x31 = x30 + x5) (f18 : x30 = x10 + x29) (h20 : x28 = all_3 (x27)) (f21 : x27 = x25 + x26) (f22 : x25 = x24 + x5) (f23 : x24 = x10 + x23) (f24 : x22 = x21 + x5) (f25 : x21 = x10 + x20) (h27 : x19 = all_4 (x18)) (f28 : x18 = x16 + x17) (f29 : x16 = x15 + x5) (f30 : x15 = x10 + x14) (f31 : x13 = x12 + x5) (f32 : x12 = x10 + x11) (f33 : x7 < x8) (f34 : 1 * x8 + ((-1) * all_4 (r_0 + 1) + 0) ≤ 0) (f35 : (-1) * x8 + (1 * all_4 (r_0 + 1) + 0) ≤ 0) (f36 : x7 = x5 + x6) (f37 : 1 * x1 + ((-1) * all_4 (r_0 + 1) + 0) ≤ (-1)) (f38 : 1 * x2 + ((-1) * all_4 (r_0 + 0) + 0) ≤ (-1)) (f39 : DE2 (r_4) (all_4) (now_4) (latest_4) (x1) (x5) (x2)) (f40 : NDA (r_4) (all_4) (x2)) (fe_0_5_1 : r_0 = r_1) (fe_0_5_2 : r_1 = r_2) (fe_0_5_3 : r_2 = r_3) (fe_0_5_4 : r_3 = r_4) (hE_0_2_1 : ∀ j : Int, 0 ≤ j → (j = x40 → all_0 j = x46) ∧ (j ≠ x40 → all_0 j = all_1 j)) (hE_0_2_2 : ∀ j : Int, 0 ≤ j → (j = x31 → all_1 j = x37) ∧ (j ≠ x31 → all_1 j = all_2 j)) (hE_0_2_3 : ∀ j : Int, 0 ≤ j → (j = x22 → all_2 j = x28) ∧ (j ≠ x22 → all_2 j = all_3 j)) (hE_0_2_4 : ∀ j : Int, 0 ≤ j → (j = x13 → all_3 j = x19) ∧ (j ≠ x13 → all_3 j = all_4 j)) (hE_0_3_1 : ∀ j : Int, now_0 j = now_1 j) (hE_0_3_2 : ∀ j : Int, now_1 j = now_2 j) (hE_0_3_3 : ∀ j : Int, now_2 j = now_3 j) (hE_0_3_4 : ∀ j : Int, now_3 j = now_4 j) (hK_0_3 : ∀ j : Int, 0 ≤ j → j < 4 → 0 ≤ now_0 j ∧ now_0 j ≤ 30) (hE_0_4_1 : ∀ j : Int, latest_0 j = latest_1 j) (hE_0_4_2 : ∀ j : Int, latest_1 j = latest_2 j) (hE_0_4_3 : ∀ j : Int, latest_2 j = latest_3 j) (hE_0_4_4 : ∀ j : Int, latest_3 j = latest_4 j) (hK_0_4 : ∀ j : Int, 0 ≤ j → j < 4 → 0 ≤ latest_0 j ∧ latest_0 j ≤ 30) : 1 * x1 + ((-1) * all_0 (r_0 + 1) + 0) ≤ (-1) := by
  subst fe_0_5_1
  subst fe_0_5_2
  subst fe_0_5_3
  subst fe_0_5_4
  have e_hE_0_3_1 := funext hE_0_3_1; subst e_hE_0_3_1
  have e_hE_0_3_2 := funext hE_0_3_2; subst e_hE_0_3_2
  have e_hE_0_3_3 := funext hE_0_3_3; subst e_hE_0_3_3
  have e_hE_0_3_4 := funext hE_0_3_4; subst e_hE_0_3_4
  have e_hE_0_4_1 := funext hE_0_4_1; subst e_hE_0_4_1
  have e_hE_0_4_2 := funext hE_0_4_2; subst e_hE_0_4_2
  have e_hE_0_4_3 := funext hE_0_4_3; subst e_hE_0_4_3
  have e_hE_0_4_4 := funext hE_0_4_4; subst e_hE_0_4_4
  first
    | omega
    | (have q1 := (hE_0_2_1 (r_0 + 1) (by omega)).2 (by omega)
       have q2 := (hE_0_2_2 (r_0 + 1) (by omega)).2 (by omega)
       have q3 := (hE_0_2_3 (r_0 + 1) (by omega)).2 (by omega)
       have q4 := (hE_0_2_4 (r_0 + 1) (by omega)).2 (by omega)
       omega)
    | (have q1 := (hE_0_2_1 (r_0 + 0) (by omega)).2 (by omega)
       have q2 := (hE_0_2_2 (r_0 + 0) (by omega)).2 (by omega)
       have q3 := (hE_0_2_3 (r_0 + 0) (by omega)).2 (by omega)
       have q4 := (hE_0_2_4 (r_0 + 0) (by omega)).2 (by omega)
       omega)
set_option maxHeartbeats 4000000 in
theorem vc_Mo_dropEdge_at_g0_3_1 (x1 : Int) (x2 : Int) (x4 : Int) (x5 : Int) (x6 : Int) (x7 : Int) (x8 : Int) (x10 : Int) (x11 : Int) (x12 : Int) (x13 : Int) (x14 : Int) (x15 : Int) (x16 : Int) (x17 : Int) (x18 : Int) (x19 : Int) (x20 : Int) (x21 : Int) (x22 : Int) (x23 : Int) (x24 : Int) (x25 : Int) (x26 : Int) (x27 : Int) (x28 : Int) (x29 : Int) (x30 : Int) (x31 : Int) (x32 : Int) (x33 : Int) (x34 : Int) (x35 : Int) (x36 : Int) (x37 : Int) (x38 : Int) (x39 : Int) (x40 : Int) (x41 : Int) (x42 : Int) (x43 : Int) (x44 : Int) (x45 : Int) (x46 : Int) (x47 : Int) (all_1 : Int → Int) (r_1 : Int) (all_2 : Int → Int) (all_3 : Int → Int) (all_4 : Int → Int) (r_0 : Int) (now_4 : Int → Int) (latest_4 : Int → Int) (r_4 : Int) (r_2 : Int) (r_3 : Int) (all_0 : Int → Int) (now_0 : Int → Int) (now_1 : Int → Int) (now_2 : Int → Int) (now_3 : Int → Int) (latest_0 : Int → Int) (latest_1 : Int → Int) (latest_2 : Int → Int) (latest_3 : Int → Int) (k1 : 0 ≤ x1 ∧ x1 ≤ 47) (k2 : 0 ≤ x2 ∧ x2 ≤ 23) (k4 : 0 ≤ x4 ∧ x4 ≤ 47) (k5 : 0 ≤ x5 ∧ x5 ≤ 46) (k6 : 1 ≤ x6 ∧ x6 ≤ 1) (k7 : 1 ≤ x7 ∧ x7 ≤ 47) (k8 : 2 ≤ x8 ∧ x8 ≤ 48) (k10 : 0 ≤ x10 ∧ x10 ≤ 66297) (k11 : 267 ≤ x11 ∧ x11 ≤ 267) (k12 : 267 ≤ x12 ∧ x12 ≤ 66564) (k13 : 267 ≤ x13 ∧ x13 ≤ 66610) (k14 : 267 ≤ x14 ∧ x14 ≤ 267) (k15 : 267 ≤ x15 ∧ x15 ≤ 66564) (k16 : 267 ≤ x16 ∧ x16 ≤ 66610) (k17 : 1 ≤ x17 ∧ x17 ≤ 1) (k18 : 268 ≤ x18 ∧ x18 ≤ 66611) (k19 : 0 ≤ x19 ∧ x19 ≤ 23) (k20 : 315 ≤ x20 ∧ x20 ≤ 315) (k21 : 315 ≤ x21 ∧ x21 ≤ 66612) (k22 : 315 ≤ x22 ∧ x22 ≤ 66658) (k23 : 315 ≤ x23 ∧ x23 ≤ 315) (k24 : 315 ≤ x24 ∧ x24 ≤ 66612) (k25 : 315 ≤ x25 ∧ x25 ≤ 66658) (k26 : 1 ≤ x26 ∧ x26 ≤ 1) (k27 : 316 ≤ x27 ∧ x27 ≤ 66659) (k28 : 0 ≤ x28 ∧ x28 ≤ 23) (k29 : 363 ≤ x29 ∧ x29 ≤ 363) (k30 : 363 ≤ x30 ∧ x30 ≤ 66660) (k31 : 363 ≤ x31 ∧ x31 ≤ 66706) (k32 : 363 ≤ x32 ∧ x32 ≤ 363) (k33 : 363 ≤ x33 ∧ x33 ≤ 66660) (k34 : 363 ≤ x34 ∧ x34 ≤ 66706) (k35 : 1 ≤ x35 ∧ x35 ≤ 1) (k36 : 364 ≤ x36 ∧ x36 ≤ 66707) (k37 : 0 ≤ x37 ∧ x37 ≤ 9) (k38 : 411 ≤ x38 ∧ x38 ≤ 411) (k39 : 411 ≤ x39 ∧ x39 ≤ 66708) (k40 : 411 ≤ x40 ∧ x40 ≤ 66754) (k41 : 411 ≤ x41 ∧ x41 ≤ 411) (k42 : 411 ≤ x42 ∧ x42 ≤ 66708) (k43 : 411 ≤ x43 ∧ x43 ≤ 66754) (k44 : 1 ≤ x44 ∧ x44 ≤ 1) (k45 : 412 ≤ x45 ∧ x45 ≤ 66755) (k46 : 0 ≤ x46 ∧ x46 ≤ 1) (k47 : 1 ≤ x47 ∧ x47 ≤ 47) (d0 : x5 + 1 ≤ x47 ∧ x47 ≤ x5 + 1) (d1 : x43 + 1 ≤ x45 ∧ x45 ≤ x43 + 1) (d2 : x5 + 412 ≤ x45 ∧ x45 ≤ x5 + 66709) (d3 : x42 + 1 ≤ x45 ∧ x45 ≤ x42 + 47) (d4 : x10 + 412 ≤ x45 ∧ x45 ≤ x10 + 458) (d5 : x5 + 411 ≤ x43 ∧ x43 ≤ x5 + 66708) (d6 : x42 + 0 ≤ x43 ∧ x43 ≤ x42 + 46) (d7 : x10 + 411 ≤ x43 ∧ x43 ≤ x10 + 457) (d8 : x10 + 411 ≤ x42 ∧ x42 ≤ x10 + 411) (d9 : x5 + 411 ≤ x40 ∧ x40 ≤ x5 + 66708) (d10 : x39 + 0 ≤ x40 ∧ x40 ≤ x39 + 46) (d11 : x10 + 411 ≤ x40 ∧ x40 ≤ x10 + 457) (d12 : x10 + 411 ≤ x39 ∧ x39 ≤ x10 + 411) (d13 : x34 + 1 ≤ x36 ∧ x36 ≤ x34 + 1) (d14 : x5 + 364 ≤ x36 ∧ x36 ≤ x5 + 66661) (d15 : x33 + 1 ≤ x36 ∧ x36 ≤ x33 + 47) (d16 : x10 + 364 ≤ x36 ∧ x36 ≤ x10 + 410) (d17 : x5 + 363 ≤ x34 ∧ x34 ≤ x5 + 66660) (d18 : x33 + 0 ≤ x34 ∧ x34 ≤ x33 + 46) (d19 : x10 + 363 ≤ x34 ∧ x34 ≤ x10 + 409) (d20 : x10 + 363 ≤ x33 ∧ x33 ≤ x10 + 363) (d21 : x5 + 363 ≤ x31 ∧ x31 ≤ x5 + 66660) (d22 : x30 + 0 ≤ x31 ∧ x31 ≤ x30 + 46) (d23 : x10 + 363 ≤ x31 ∧ x31 ≤ x10 + 409) (d24 : x10 + 363 ≤ x30 ∧ x30 ≤ x10 + 363) (d25 : x25 + 1 ≤ x27 ∧ x27 ≤ x25 + 1) (d26 : x5 + 316 ≤ x27 ∧ x27 ≤ x5 + 66613) (d27 : x24 + 1 ≤ x27 ∧ x27 ≤ x24 + 47) (d28 : x10 + 316 ≤ x27 ∧ x27 ≤ x10 + 362) (d29 : x5 + 315 ≤ x25 ∧ x25 ≤ x5 + 66612) (d30 : x24 + 0 ≤ x25 ∧ x25 ≤ x24 + 46) (d31 : x10 + 315 ≤ x25 ∧ x25 ≤ x10 + 361) (d32 : x10 + 315 ≤ x24 ∧ x24 ≤ x10 + 315) (d33 : x5 + 315 ≤ x22 ∧ x22 ≤ x5 + 66612) (d34 : x21 + 0 ≤ x22 ∧ x22 ≤ x21 + 46) (d35 : x10 + 315 ≤ x22 ∧ x22 ≤ x10 + 361) (d36 : x10 + 315 ≤ x21 ∧ x21 ≤ x10 + 315) (d37 : x16 + 1 ≤ x18 ∧ x18 ≤ x16 + 1) (d38 : x5 + 268 ≤ x18 ∧ x18 ≤ x5 + 66565) (d39 : x15 + 1 ≤ x18 ∧ x18 ≤ x15 + 47) (d40 : x10 + 268 ≤ x18 ∧ x18 ≤ x10 + 314) (d41 : x5 + 267 ≤ x16 ∧ x16 ≤ x5 + 66564) (d42 : x15 + 0 ≤ x16 ∧ x16 ≤ x15 + 46) (d43 : x10 + 267 ≤ x16 ∧ x16 ≤ x10 + 313) (d44 : x10 + 267 ≤ x15 ∧ x15 ≤ x10 + 267) (d45 : x5 + 267 ≤ x13 ∧ x13 ≤ x5 + 66564) (d46 : x12 + 0 ≤ x13 ∧ x13 ≤ x12 + 46) (d47 : x10 + 267 ≤ x13 ∧ x13 ≤ x10 + 313) (d48 : x10 + 267 ≤ x12 ∧ x12 ≤ x10 + 267) (d49 : x8 + (-4294967296) ≤ x7 ∧ x7 ≤ x8 + (-1)) (d50 : x5 + 1 ≤ x7 ∧ x7 ≤ x5 + 1) (d51 : x4 + (-4294967296) ≤ x1 ∧ x1 ≤ x4 + 0) (d52 : x5 + (-4294967296) ≤ x1 ∧ x1 ≤ x5 + 0) (d53 : x1 + (-4294967296) ≤ x4 ∧ x4 ≤ x1 + 0) (d54 : x5 + (-4294967296) ≤ x4 ∧ x4 ≤ x5 + 0) (f0 : x47 = x5 + 1) (h4 : x46 = all_1 (x45)) (f5 : x45 = x43 + x44) (f6 : x43 = x42 + x5) (f7 : x42 = x10 + x41) (g8 : x10 = r_1) (f10 : x40 = x39 + x5) (f11 : x39 = x10 + x38) (h13 : x37 = all_2 (x36)) (f14 : x36 = x34 + x35) (f15 : x34 = x33 + x5) (f16 : x33 = x10 + x32) (f17 : x31 = x30 + x5) (f18 : x30 = x10 + x29) (h20 : x28 = all_3 (x27)) (f21 : x27 = x25 + x26) (f22 : x25 = x24 + x5) (f23 : x24 = x10 + x23) (f24 : x22 = x21 + x5) (f25 : x21 = x10 + x20) (h27 : x19 = all_4 (x18)) (f28 : x18 = x16 + x17) (f29 : x16 = x15 + x5) (f30 : x15 = x10 + x14) (f31 : x13 = x12 + x5) (f32 : x12 = x10 + x11) (f33 : x7 < x8) (f34 : 1 * x8 + ((-1) * all_4 (r_0 + 1) + 0) ≤ 0) (f35 : (-1) * x8 + (1 * all_4 (r_0 + 1) + 0) ≤ 0) (f36 : x7 = x5 + x6) (f37 : 1 * x1 + ((-1) * all_4 (r_0 + 1) + 0) ≤ (-1)) (f38 : 1 * x2 + ((-1) * all_4 (r_0 + 0) + 0) ≤ (-1)) (f39 : DE2 (r_4) (all_4) (now_4) (latest_4) (x1) (x5) (x2)) (f40 : NDA (r_4) (all_4) (x2)) (fe_0_5_1 : r_0 = r_1) (fe_0_5_2 : r_1 = r_2) (fe_0_5_3 : r_2 = r_3) (fe_0_5_4 : r_3 = r_4) (hE_0_2_1 : ∀ j : Int, 0 ≤ j → (j = x40 → all_0 j = x46) ∧ (j ≠ x40 → all_0 j = all_1 j)) (hE_0_2_2 : ∀ j : Int, 0 ≤ j → (j = x31 → all_1 j = x37) ∧ (j ≠ x31 → all_1 j = all_2 j)) (hE_0_2_3 : ∀ j : Int, 0 ≤ j → (j = x22 → all_2 j = x28) ∧ (j ≠ x22 → all_2 j = all_3 j)) (hE_0_2_4 : ∀ j : Int, 0 ≤ j → (j = x13 → all_3 j = x19) ∧ (j ≠ x13 → all_3 j = all_4 j)) (hE_0_3_1 : ∀ j : Int, now_0 j = now_1 j) (hE_0_3_2 : ∀ j : Int, now_1 j = now_2 j) (hE_0_3_3 : ∀ j : Int, now_2 j = now_3 j) (hE_0_3_4 : ∀ j : Int, now_3 j = now_4 j) (hK_0_3 : ∀ j : Int, 0 ≤ j → j < 4 → 0 ≤ now_0 j ∧ now_0 j ≤ 30) (hE_0_4_1 : ∀ j : Int, latest_0 j = latest_1 j) (hE_0_4_2 : ∀ j : Int, latest_1 j = latest_2 j) (hE_0_4_3 : ∀ j : Int, latest_2 j = latest_3 j) (hE_0_4_4 : ∀ j : Int, latest_3 j = latest_4 j) (hK_0_4 : ∀ j : Int, 0 ≤ j → j < 4 → 0 ≤ latest_0 j ∧ latest_0 j ≤ 30) : 1 * x2 + ((-1) * all_0 (r_0 + 0) + 0) ≤ (-1) := by
  subst fe_0_5_1
  subst fe_0_5_2
  subst fe_0_5_3
  subst fe_0_5_4
  have e_hE_0_3_1 := funext hE_0_3_1; subst e_hE_0_3_1
  have e_hE_0_3_2 := funext hE_0_3_2; subst e_hE_0_3_2
  have e_hE_0_3_3 := funext hE_0_3_3; subst e_hE_0_3_3
  have e_hE_0_3_4 := funext hE_0_3_4; subst e_hE_0_3_4
  have e_hE_0_4_1 := funext hE_0_4_1; subst e_hE_0_4_1
  have e_hE_0_4_2 := funext hE_0_4_2; subst e_hE_0_4_2
  have e_hE_0_4_3 := funext hE_0_4_3; subst e_hE_0_4_3
  have e_hE_0_4_4 := funext hE_0_4_4; subst e_hE_0_4_4
  first
    | omega
    | (have q1 := (hE_0_2_1 (r_0 + 1) (by omega)).2 (by omega)
       have q2 := (hE_0_2_2 (r_0 + 1) (by omega)).2 (by omega)
       have q3 := (hE_0_2_3 (r_0 + 1) (by omega)).2 (by omega)
       have q4 := (hE_0_2_4 (r_0 + 1) (by omega)).2 (by omega)
       omega)
    | (have q1 := (hE_0_2_1 (r_0 + 0) (by omega)).2 (by omega)
       have q2 := (hE_0_2_2 (r_0 + 0) (by omega)).2 (by omega)
       have q3 := (hE_0_2_3 (r_0 + 0) (by omega)).2 (by omega)
       have q4 := (hE_0_2_4 (r_0 + 0) (by omega)).2 (by omega)
       omega)
set_option maxHeartbeats 4000000 in
theorem vc_Mo_dropEdge_at_g0_3_2 (x1 : Int) (x2 : Int) (x4 : Int) (x5 : Int) (x6 : Int) (x7 : Int) (x8 : Int) (x10 : Int) (x11 : Int) (x12 : Int) (x13 : Int) (x14 : Int) (x15 : Int) (x16 : Int) (x17 : Int) (x18 : Int) (x19 : Int) (x20 : Int) (x21 : Int) (x22 : Int) (x23 : Int) (x24 : Int) (x25 : Int) (x26 : Int) (x27 : Int) (x28 : Int) (x29 : Int) (x30 : Int) (x31 : Int) (x32 : Int) (x33 : Int) (x34 : Int) (x35 : Int) (x36 : Int) (x37 : Int) (x38 : Int) (x39 : Int) (x40 : Int) (x41 : Int) (x42 : Int) (x43 : Int) (x44 : Int) (x45 : Int) (x46 : Int) (x47 : Int) (all_1 : Int → Int) (r_1 : Int) (all_2 : Int → Int) (all_3 : Int → Int) (all_4 : Int → Int) (r_0 : Int) (now_4 : Int → Int) (latest_4 : Int → Int) (r_4 : Int) (r_2 : Int) (r_3 : Int) (all_0 : Int → Int) (now_0 : Int → Int) (now_1 : Int → Int) (now_2 : Int → Int) (now_3 : Int → Int) (latest_0 : Int → Int) (latest_1 : Int → Int) (latest_2 : Int → Int) (latest_3 : Int → Int) (k1 : 0 ≤ x1 ∧ x1 ≤ 47) (k2 : 0 ≤ x2 ∧ x2 ≤ 23) (k4 : 0 ≤ x4 ∧ x4 ≤ 47) (k5 : 0 ≤ x5 ∧ x5 ≤ 46) (k6 : 1 ≤ x6 ∧ x6 ≤ 1) (k7 : 1 ≤ x7 ∧ x7 ≤ 47) (k8 : 2 ≤ x8 ∧ x8 ≤ 48) (k10 : 0 ≤ x10 ∧ x10 ≤ 66297) (k11 : 267 ≤ x11 ∧ x11 ≤ 267) (k12 : 267 ≤ x12 ∧ x12 ≤ 66564) (k13 : 267 ≤ x13 ∧ x13 ≤ 66610) (k14 : 267 ≤ x14 ∧ x14 ≤ 267) (k15 : 267 ≤ x15 ∧ x15 ≤ 66564) (k16 : 267 ≤ x16 ∧ x16 ≤ 66610) (k17 : 1 ≤ x17 ∧ x17 ≤ 1) (k18 : 268 ≤ x18 ∧ x18 ≤ 66611) (k19 : 0 ≤ x19 ∧ x19 ≤ 23) (k20 : 315 ≤ x20 ∧ x20 ≤ 315) (k21 : 315 ≤ x21 ∧ x21 ≤ 66612) (k22 : 315 ≤ x22 ∧ x22 ≤ 66658) (k23 : 315 ≤ x23 ∧ x23 ≤ 315) (k24 : 315 ≤ x24 ∧ x24 ≤ 66612) (k25 : 315 ≤ x25 ∧ x25 ≤ 66658) (k26 : 1 ≤ x26 ∧ x26 ≤ 1) (k27 : 316 ≤ x27 ∧ x27 ≤ 66659) (k28 : 0 ≤ x28 ∧ x28 ≤ 23) (k29 : 363 ≤ x29 ∧ x29 ≤ 363) (k30 : 363 ≤ x30 ∧ x30 ≤ 66660) (k31 : 363 ≤ x31 ∧ x31 ≤ 66706) (k32 : 363 ≤ x32 ∧ x32 ≤ 363) (k33 : 363 ≤ x33 ∧ x33 ≤ 66660) (k34 : 363 ≤ x34 ∧ x34 ≤ 66706) (k35 : 1 ≤ x35 ∧ x35 ≤ 1) (k36 : 364 ≤ x36 ∧ x36 ≤ 66707) (k37 : 0 ≤ x37 ∧ x37 ≤ 9) (k38 : 411 ≤ x38 ∧ x38 ≤ 411) (k39 : 411 ≤ x39 ∧ x39 ≤ 66708) (k40 : 411 ≤ x40 ∧ x40 ≤ 66754) (k41 : 411 ≤ x41 ∧ x41 ≤ 411) (k42 : 411 ≤ x42 ∧ x42 ≤ 66708) (k43 : 411 ≤ x43 ∧ x43 ≤ 66754) (k44 : 1 ≤ x44 ∧ x44 ≤ 1) (k45 : 412 ≤ x45 ∧ x45 ≤ 66755) (k46 : 0 ≤ x46 ∧ x46 ≤ 1) (k47 : 1 ≤ x47 ∧ x47 ≤ 47) (d0 : x5 + 1 ≤ x47 ∧ x47 ≤ x5 + 1) (d1 : x43 + 1 ≤ x45 ∧ x45 ≤ x43 + 1) (d2 : x5 + 412 ≤ x45 ∧ x45 ≤ x5 + 66709) (d3 : x42 + 1 ≤ x45 ∧ x45 ≤ x42 + 47) (d4 : x10 + 412 ≤ x45 ∧ x45 ≤ x10 + 458) (d5 : x5 + 411 ≤ x43 ∧ x43 ≤ x5 + 66708) (d6 : x42 + 0 ≤ x43 ∧ x43 ≤ x42 + 46) (d7 : x10 + 411 ≤ x43 ∧ x43 ≤ x10 + 457) (d8 : x10 + 411 ≤ x42 ∧ x42 ≤ x10 + 411) (d9 : x5 + 411 ≤ x40 ∧ x40 ≤ x5 + 66708) (d10 : x39 + 0 ≤ x40 ∧ x40 ≤ x39 + 46) (d11 : x10 + 411 ≤ x40 ∧ x40 ≤ x10 + 457) (d12 : x10 + 411 ≤ x39 ∧ x39 ≤ x10 + 411) (d13 : x34 + 1 ≤ x36 ∧ x36 ≤ x34 + 1) (d14 : x5 + 364 ≤ x36 ∧ x36 ≤ x5 + 66661) (d15 : x33 + 1 ≤ x36 ∧ x36 ≤ x33 + 47) (d16 : x10 + 364 ≤ x36 ∧ x36 ≤ x10 + 410) (d17 : x5 + 363 ≤ x34 ∧ x34 ≤ x5 + 66660) (d18 : x33 + 0 ≤ x34 ∧ x34 ≤ x33 + 46) (d19 : x10 + 363 ≤ x34 ∧ x34 ≤ x10 + 409) (d20 : x10 + 363 ≤ x33 ∧ x33 ≤ x10 + 363) (d21 : x5 + 363 ≤ x31 ∧ x31 ≤ x5 + 66660) (d22 : x30 + 0 ≤ x31 ∧ x31 ≤ x30 + 46) (d23 : x10 + 363 ≤ x31 ∧ x31 ≤ x10 + 409) (d24 : x10 + 363 ≤ x30 ∧ x30 ≤ x10 + 363) (d25 : x25 + 1 ≤ x27 ∧ x27 ≤ x25 + 1) (d26 : x5 + 316 ≤ x27 ∧ x27 ≤ x5 + 66613) (d27 : x24 + 1 ≤ x27 ∧ x27 ≤ x24 + 47) (d28 : x10 + 316 ≤ x27 ∧ x27 ≤ x10 + 362) (d29 : x5 + 315 ≤ x25 ∧ x25 ≤ x5 + 66612) (d30 : x24 + 0 ≤ x25 ∧ x25 ≤ x24 + 46) (d31 : x10 + 315 ≤ x25 ∧ x25 ≤ x10 + 361) (d32 : x10 + 315 ≤ x24 ∧ x24 ≤ x10 + 315) (d33 : x5 + 315 ≤ x22 ∧ x22 ≤ x5 + 66612) (d34 : x21 + 0 ≤ x22 ∧ x22 ≤ x21 + 46) (d35 : x10 + 315 ≤ x22 ∧ x22 ≤ x10 + 361) (d36 : x10 + 315 ≤ x21 ∧ x21 ≤ x10 + 315) (d37 : x16 + 1 ≤ x18 ∧ x18 ≤ x16 + 1) (d38 : x5 + 268 ≤ x18 ∧ x18 ≤ x5 + 66565) (d39 : x15 + 1 ≤ x18 ∧ x18 ≤ x15 + 47) (d40 : x10 + 268 ≤ x18 ∧ x18 ≤ x10 + 314) (d41 : x5 + 267 ≤ x16 ∧ x16 ≤ x5 + 66564) (d42 : x15 + 0 ≤ x16 ∧ x16 ≤ x15 + 46) (d43 : x10 + 267 ≤ x16 ∧ x16 ≤ x10 + 313) (d44 : x10 + 267 ≤ x15 ∧ x15 ≤ x10 + 267) (d45 : x5 + 267 ≤ x13 ∧ x13 ≤ x5 + 66564) (d46 : x12 + 0 ≤ x13 ∧ x13 ≤ x12 + 46) (d47 : x10 + 267 ≤ x13 ∧ x13 ≤ x10 + 313) (d48 : x10 + 267 ≤ x12 ∧ x12 ≤ x10 + 267) (d49 : x8 + (-4294967296) ≤ x7 ∧ x7 ≤ x8 + (-1)) (d50 : x5 + 1 ≤ x7 ∧ x7 ≤ x5 + 1) (d51 : x4 + (-4294967296) ≤ x1 ∧ x1 ≤ x4 + 0) (d52 : x5 + (-4294967296) ≤ x1 ∧ x1 ≤ x5 + 0) (d53 : x1 + (-4294967296) ≤ x4 ∧ x4 ≤ x1 + 0) (d54 : x5 + (-4294967296) ≤ x4 ∧ x4 ≤ x5 + 0) (f0 : x47 = x5 + 1) (h4 : x46 = all_1 (x45)) (f5 : x45 = x43 + x44) (f6 : x43 = x42 + x5) (f7 : x42 = x10 + x41) (g8 : x10 = r_1) (f10 : x40 = x39 + x5) (f11 : x39 = x10 + x38) (h13 : x37 = all_2 (x36)) (f14 : x36 = x34 + x35) (f15 : x34 = x33 + x5) (f16 : x33 = x10 + x32) (f17 : x31 = x30 + x5) (f18 : x30 = x10 + x29) (h20 : x28 = all_3 (x27)) (f21 : x27 = x25 + x26) (f22 : x25 = x24 + x5) (f23 : x24 = x10 + x23) (f24 : x22 = x21 + x5) (f25 : x21 = x10 + x20) (h27 : x19 = all_4 (x18)) (f28 : x18 = x16 + x17) (f29 : x16 = x15 + x5) (f30 : x15 = x10 + x14) (f31 : x13 = x12 + x5) (f32 : x12 = x10 + x11) (f33 : x7 < x8) (f34 : 1 * x8 + ((-1) * all_4 (r_0 + 1) + 0) ≤ 0) (f35 : (-1) * x8 + (1 * all_4 (r_0 + 1) + 0) ≤ 0) (f36 : x7 = x5 + x6) (f37 : 1 * x1 + ((-1) * all_4 (r_0 + 1) + 0) ≤ (-1)) (f38 : 1 * x2 + ((-1) * all_4 (r_0 + 0) + 0) ≤ (-1)) (f39 : DE2 (r_4) (all_4) (now_4) (latest_4) (x1) (x5) (x2)) (f40 : NDA (r_4) (all_4) (x2)) (fe_0_5_1 : r_0 = r_1) (fe_0_5_2 : r_1 = r_2) (fe_0_5_3 : r_2 = r_3) (fe_0_5_4 : r_3 = r_4) (hE_0_2_1 : ∀ j : Int, 0 ≤ j → (j = x40 → all_0 j = x46) ∧ (j ≠ x40 → all_0 j = all_1 j)) (hE_0_2_2 : ∀ j : Int, 0 ≤ j → (j = x31 → all_1 j = x37) ∧ (j ≠ x31 → all_1 j = all_2 j)) (hE_0_2_3 : ∀ j : Int, 0 ≤ j → (j = x22 → all_2 j = x28) ∧ (j ≠ x22 → all_2 j = all_3 j)) (hE_0_2_4 : ∀ j : Int, 0 ≤ j → (j = x13 → all_3 j = x19) ∧ (j ≠ x13 → all_3 j = all_4 j)) (hE_0_3_1 : ∀ j : Int, now_0 j = now_1 j) (hE_0_3_2 : ∀ j : Int, now_1 j = now_2 j) (hE_0_3_3 : ∀ j : Int, now_2 j = now_3 j) (hE_0_3_4 : ∀ j : Int, now_3 j = now_4 j) (hK_0_3 : ∀ j : Int, 0 ≤ j → j < 4 → 0 ≤ now_0 j ∧ now_0 j ≤ 30) (hE_0_4_1 : ∀ j : Int, latest_0 j = latest_1 j) (hE_0_4_2 : ∀ j : Int, latest_1 j = latest_2 j) (hE_0_4_3 : ∀ j : Int, latest_2 j = latest_3 j) (hE_0_4_4 : ∀ j : Int, latest_3 j = latest_4 j) (hK_0_4 : ∀ j : Int, 0 ≤ j → j < 4 → 0 ≤ latest_0 j ∧ latest_0 j ≤ 30) : DE2 (r_0) (all_0) (now_0) (latest_0) (x1) (x47) (x2) := by
  subst fe_0_5_1
  subst fe_0_5_2
  subst fe_0_5_3
  subst fe_0_5_4
  have e_hE_0_3_1 := funext hE_0_3_1; subst e_hE_0_3_1
  have e_hE_0_3_2 := funext hE_0_3_2; subst e_hE_0_3_2
  have e_hE_0_3_3 := funext hE_0_3_3; subst e_hE_0_3_3
  have e_hE_0_3_4 := funext hE_0_3_4; subst e_hE_0_3_4
  have e_hE_0_4_1 := funext hE_0_4_1; subst e_hE_0_4_1
  have e_hE_0_4_2 := funext hE_0_4_2; subst e_hE_0_4_2
  have e_hE_0_4_3 := funext hE_0_4_3; subst e_hE_0_4_3
  have e_hE_0_4_4 := funext hE_0_4_4; subst e_hE_0_4_4
  first
    | exact de2_start ‹RWS _ _ _ _› ‹EDA _ _ _› ‹NOI _ _ _ _› (by omega)
    | exact (de2_step ‹DE2 _ _ _ _ _ _ _› (by omega) (by omega) (by assumption) (by assumption) (by assumption) (by assumption) (by omega) (by assumption) (by omega) (by omega) (by assumption) (by omega) (by omega) (by omega)).1
set_option maxHeartbeats 4000000 in
theorem vc_Mo_dropEdge_at_g0_3_3 (x1 : Int) (x2 : Int) (x4 : Int) (x5 : Int) (x6 : Int) (x7 : Int) (x8 : Int) (x10 : Int) (x11 : Int) (x12 : Int) (x13 : Int) (x14 : Int) (x15 : Int) (x16 : Int) (x17 : Int) (x18 : Int) (x19 : Int) (x20 : Int) (x21 : Int) (x22 : Int) (x23 : Int) (x24 : Int) (x25 : Int) (x26 : Int) (x27 : Int) (x28 : Int) (x29 : Int) (x30 : Int) (x31 : Int) (x32 : Int) (x33 : Int) (x34 : Int) (x35 : Int) (x36 : Int) (x37 : Int) (x38 : Int) (x39 : Int) (x40 : Int) (x41 : Int) (x42 : Int) (x43 : Int) (x44 : Int) (x45 : Int) (x46 : Int) (x47 : Int) (all_1 : Int → Int) (r_1 : Int) (all_2 : Int → Int) (all_3 : Int → Int) (all_4 : Int → Int) (r_0 : Int) (now_4 : Int → Int) (latest_4 : Int → Int) (r_4 : Int) (r_2 : Int) (r_3 : Int) (all_0 : Int → Int) (now_0 : Int → Int) (now_1 : Int → Int) (now_2 : Int → Int) (now_3 : Int → Int) (latest_0 : Int → Int) (latest_1 : Int → Int) (latest_2 : Int → Int) (latest_3 : Int → Int) (k1 : 0 ≤ x1 ∧ x1 ≤ 47) (k2 : 0 ≤ x2 ∧ x2 ≤ 23) (k4 : 0 ≤ x4 ∧ x4 ≤ 47) (k5 : 0 ≤ x5 ∧ x5 ≤ 46) (k6 : 1 ≤ x6 ∧ x6 ≤ 1) (k7 : 1 ≤ x7 ∧ x7 ≤ 47) (k8 : 2 ≤ x8 ∧ x8 ≤ 48) (k10 : 0 ≤ x10 ∧ x10 ≤ 66297) (k11 : 267 ≤ x11 ∧ x11 ≤ 267) (k12 : 267 ≤ x12 ∧ x12 ≤ 66564) (k13 : 267 ≤ x13 ∧ x13 ≤ 66610) (k14 : 267 ≤ x14 ∧ x14 ≤ 267) (k15 : 267 ≤ x15 ∧ x15 ≤ 66564) (k16 : 267 ≤ x16 ∧ x16 ≤ 66610) (k17 : 1 ≤ x17 ∧ x17 ≤ 1) (k18 : 268 ≤ x18 ∧ x18 ≤ 66611) (k19 : 0 ≤ x19 ∧ x19 ≤ 23) (k20 : 315 ≤ x20 ∧ x20 ≤ 315) (k21 : 315 ≤ x21 ∧ x21 ≤ 66612) (k22 : 315 ≤ x22 ∧ x22 ≤ 66658) (k23 : 315 ≤ x23 ∧ x23 ≤ 315) (k24 : 315 ≤ x24 ∧ x24 ≤ 66612) (k25 : 315 ≤ x25 ∧ x25 ≤ 66658) (k26 : 1 ≤ x26 ∧ x26 ≤ 1) (k27 : 316 ≤ x27 ∧ x27 ≤ 66659) (k28 : 0 ≤ x28 ∧ x28 ≤ 23) (k29 : 363 ≤ x29 ∧ x29 ≤ 363) (k30 : 363 ≤ x30 ∧ x30 ≤ 66660) (k31 : 363 ≤ x31 ∧ x31 ≤ 66706) (k32 : 363 ≤ x32 ∧ x32 ≤ 363) (k33 : 363 ≤ x33 ∧ x33 ≤ 66660) (k34 : 363 ≤ x34 ∧ x34 ≤ 66706) (k35 : 1 ≤ x35 ∧ x35 ≤ 1) (k36 : 364 ≤ x36 ∧ x36 ≤ 66707) (k37 : 0 ≤ x37 ∧ x37 ≤ 9) (k38 : 411 ≤ x38 ∧ x38 ≤ 411) (k39 : 411 ≤ x39 ∧ x39 ≤ 66708) (k40 : 411 ≤ x40 ∧ x40 ≤ 66754) (k41 : 411 ≤ x41 ∧ x41 ≤ 411) (k42 : 411 ≤ x42 ∧ x42 ≤ 66708) (k43 : 411 ≤ x43 ∧ x43 ≤ 66754) (k44 : 1 ≤ x44 ∧ x44 ≤ 1) (k45 : 412 ≤ x45 ∧ x45 ≤ 66755) (k46 : 0 ≤ x46 ∧ x46 ≤ 1) (k47 : 1 ≤ x47 ∧ x47 ≤ 47) (d0 : x5 + 1 ≤ x47 ∧ x47 ≤ x5 + 1) (d1 : x43 + 1 ≤ x45 ∧ x45 ≤ x43 + 1) (d2 : x5 + 412 ≤ x45 ∧ x45 ≤ x5 + 66709) (d3 : x42 + 1 ≤ x45 ∧ x45 ≤ x42 + 47) (d4 : x10 + 412 ≤ x45 ∧ x45 ≤ x10 + 458) (d5 : x5 + 411 ≤ x43 ∧ x43 ≤ x5 + 66708) (d6 : x42 + 0 ≤ x43 ∧ x43 ≤ x42 + 46) (d7 : x10 + 411 ≤ x43 ∧ x43 ≤ x10 + 457) (d8 : x10 + 411 ≤ x42 ∧ x42 ≤ x10 + 411) (d9 : x5 + 411 ≤ x40 ∧ x40 ≤ x5 + 66708) (d10 : x39 + 0 ≤ x40 ∧ x40 ≤ x39 + 46) (d11 : x10 + 411 ≤ x40 ∧ x40 ≤ x10 + 457) (d12 : x10 + 411 ≤ x39 ∧ x39 ≤ x10 + 411) (d13 : x34 + 1 ≤ x36 ∧ x36 ≤ x34 + 1) (d14 : x5 + 364 ≤ x36 ∧ x36 ≤ x5 + 66661) (d15 : x33 + 1 ≤ x36 ∧ x36 ≤ x33 + 47) (d16 : x10 + 364 ≤ x36 ∧ x36 ≤ x10 + 410) (d17 : x5 + 363 ≤ x34 ∧ x34 ≤ x5 + 66660) (d18 : x33 + 0 ≤ x34 ∧ x34 ≤ x33 + 46) (d19 : x10 + 363 ≤ x34 ∧ x34 ≤ x10 + 409) (d20 : x10 + 363 ≤ x33 ∧ x33 ≤ x10 + 363) (d21 : x5 + 363 ≤ x31 ∧ x31 ≤ x5 + 66660) (d22 : x30 + 0 ≤ x31 ∧ x31 ≤ x30 + 46) (d23 : x10 + 363 ≤ x31 ∧ x31 ≤ x10 + 409) (d24 : x10 + 363 ≤ x30 ∧ x30 ≤ x10 + 363) (d25 : x25 + 1 ≤ x27 ∧ x27 ≤ x25 + 1) (d26 : x5 + 316 ≤ x27 ∧ x27 ≤ x5 + 66613) (d27 : x24 + 1 ≤ x27 ∧ x27 ≤ x24 + 47) (d28 : x10 + 316 ≤ x27 ∧ x27 ≤ x10 + 362) (d29 : x5 + 315 ≤ x25 ∧ x25 ≤ x5 + 66612) (d30 : x24 + 0 ≤ x25 ∧ x25 ≤ x24 + 46) (d31 : x10 + 315 ≤ x25 ∧ x25 ≤ x10 + 361) (d32 : x10 + 315 ≤ x24 ∧ x24 ≤ x10 + 315) (d33 : x5 + 315 ≤ x22 ∧ x22 ≤ x5 + 66612) (d34 : x21 + 0 ≤ x22 ∧ x22 ≤ x21 + 46) (d35 : x10 + 315 ≤ x22 ∧ x22 ≤ x10 + 361) (d36 : x10 + 315 ≤ x21 ∧ x21 ≤ x10 + 315) (d37 : x16 + 1 ≤ x18 ∧ x18 ≤ x16 + 1) (d38 : x5 + 268 ≤ x18 ∧ x18 ≤ x5 + 66565) (d39 : x15 + 1 ≤ x18 ∧ x18 ≤ x15 + 47) (d40 : x10 + 268 ≤ x18 ∧ x18 ≤ x10 + 314) (d41 : x5 + 267 ≤ x16 ∧ x16 ≤ x5 + 66564) (d42 : x15 + 0 ≤ x16 ∧ x16 ≤ x15 + 46) (d43 : x10 + 267 ≤ x16 ∧ x16 ≤ x10 + 313) (d44 : x10 + 267 ≤ x15 ∧ x15 ≤ x10 + 267) (d45 : x5 + 267 ≤ x13 ∧ x13 ≤ x5 + 66564) (d46 : x12 + 0 ≤ x13 ∧ x13 ≤ x12 + 46) (d47 : x10 + 267 ≤ x13 ∧ x13 ≤ x10 + 313) (d48 : x10 + 267 ≤ x12 ∧ x12 ≤ x10 + 267) (d49 : x8 + (-4294967296) ≤ x7 ∧ x7 ≤ x8 + (-1)) (d50 : x5 + 1 ≤ x7 ∧ x7 ≤ x5 + 1) (d51 : x4 + (-4294967296) ≤ x1 ∧ x1 ≤ x4 + 0) (d52 : x5 + (-4294967296) ≤ x1 ∧ x1 ≤ x5 + 0) (d53 : x1 + (-4294967296) ≤ x4 ∧ x4 ≤ x1 + 0) (d54 : x5 + (-4294967296) ≤ x4 ∧ x4 ≤ x5 + 0) (f0 : x47 = x5 + 1) (h4 : x46 = all_1 (x45)) (f5 : x45 = x43 + x44) (f6 : x43 = x42 + x5) (f7 : x42 = x10 + x41) (g8 : x10 = r_1) (f10 : x40 = x39 + x5) (f11 : x39 = x10 + x38) (h13 : x37 = all_2 (x36)) (f14 : x36 = x34 + x35) (f15 : x34 = x33 + x5) (f16 : x33 = x10 + x32) (f17 : x31 = x30 + x5) (f18 : x30 = x10 + x29) (h20 : x28 = all_3 (x27)) (f21 : x27 = x25 + x26) (f22 : x25 = x24 + x5) (f23 : x24 = x10 + x23) (f24 : x22 = x21 + x5) (f25 : x21 = x10 + x20) (h27 : x19 = all_4 (x18)) (f28 : x18 = x16 + x17) (f29 : x16 = x15 + x5) (f30 : x15 = x10 + x14) (f31 : x13 = x12 + x5) (f32 : x12 = x10 + x11) (f33 : x7 < x8) (f34 : 1 * x8 + ((-1) * all_4 (r_0 + 1) + 0) ≤ 0) (f35 : (-1) * x8 + (1 * all_4 (r_0 + 1) + 0) ≤ 0) (f36 : x7 = x5 + x6) (f37 : 1 * x1 + ((-1) * all_4 (r_0 + 1) + 0) ≤ (-1)) (f38 : 1 * x2 + ((-1) * all_4 (r_0 + 0) + 0) ≤ (-1)) (f39 : DE2 (r_4) (all_4) (now_4) (latest_4) (x1) (x5) (x2)) (f40 : NDA (r_4) (all_4) (x2)) (fe_0_5_1 : r_0 = r_1) (fe_0_5_2 : r_1 = r_2) (fe_0_5_3 : r_2 = r_3) (fe_0_5_4 : r_3 = r_4) (hE_0_2_1 : ∀ j : Int, 0 ≤ j → (j = x40 → all_0 j = x46) ∧ (j ≠ x40 → all_0 j = all_1 j)) (hE_0_2_2 : ∀ j : Int, 0 ≤ j → (j = x31 → all_1 j = x37) ∧ (j ≠ x31 → all_1 j = all_2 j)) (hE_0_2_3 : ∀ j : Int, 0 ≤ j → (j = x22 → all_2 j = x28) ∧ (j ≠ x22 → all_2 j = all_3 j)) (hE_0_2_4 : ∀ j : Int, 0 ≤ j → (j = x13 → all_3 j = x19) ∧ (j ≠ x13 → all_3 j = all_4 j)) (hE_0_3_1 : ∀ j : Int, now_0 j = now_1 j) (hE_0_3_2 : ∀ j : Int, now_1 j = now_2 j) (hE_0_3_3 : ∀ j : Int, now_2 j = now_3 j) (hE_0_3_4 : ∀ j : Int, now_3 j = now_4 j) (hK_0_3 : ∀ j : Int, 0 ≤ j → j < 4 → 0 ≤ now_0 j ∧ now_0 j ≤ 30) (hE_0_4_1 : ∀ j : Int, latest_0 j = latest_1 j) (hE_0_4_2 : ∀ j : Int, latest_1 j = latest_2 j) (hE_0_4_3 : ∀ j : Int, latest_2 j = latest_3 j) (hE_0_4_4 : ∀ j : Int, latest_3 j = latest_4 j) (hK_0_4 : ∀ j : Int, 0 ≤ j → j < 4 → 0 ≤ latest_0 j ∧ latest_0 j ≤ 30) : NDA (r_0) (all_0) (x2) := by
  subst fe_0_5_1
  subst fe_0_5_2
  subst fe_0_5_3
  subst fe_0_5_4
  have e_hE_0_3_1 := funext hE_0_3_1; subst e_hE_0_3_1
  have e_hE_0_3_2 := funext hE_0_3_2; subst e_hE_0_3_2
  have e_hE_0_3_3 := funext hE_0_3_3; subst e_hE_0_3_3
  have e_hE_0_3_4 := funext hE_0_3_4; subst e_hE_0_3_4
  have e_hE_0_4_1 := funext hE_0_4_1; subst e_hE_0_4_1
  have e_hE_0_4_2 := funext hE_0_4_2; subst e_hE_0_4_2
  have e_hE_0_4_3 := funext hE_0_4_3; subst e_hE_0_4_3
  have e_hE_0_4_4 := funext hE_0_4_4; subst e_hE_0_4_4
  exact nda_eq ‹NDA _ _ _› (de2_step ‹DE2 _ _ _ _ _ _ _› (by omega) (by omega) (by assumption) (by assumption) (by assumption) (by assumption) (by omega) (by assumption) (by omega) (by omega) (by assumption) (by omega) (by omega) (by omega)).2
def o_Mo_dropEdge_at_g0_3 : or_T := (2, 48, [(0, (2, 0, 0, [165])), (1, (0, 0, 47, [])), (2, (0, 0, 23, [])), (4, (0, 0, 47, [])), (5, (0, 0, 46, [])), (6, (0, 1, 1, [])), (7, (0, 1, 47, [])), (8, (0, 2, 48, [])), (9, (2, 0, 0, [167])), (10, (0, 0, 66297, [])), (11, (0, 267, 267, [])), (12, (0, 267, 66564, [])), (13, (0, 267, 66610, [])), (14, (0, 267, 267, [])), (15, (0, 267, 66564, [])), (16, (0, 267, 66610, [])), (17, (0, 1, 1, [])), (18, (0, 268, 66611, [])), (19, (0, 0, 23, [])), (20, (0, 315, 315, [])), (21, (0, 315, 66612, [])), (22, (0, 315, 66658, [])), (23, (0, 315, 315, [])), (24, (0, 315, 66612, [])), (25, (0, 315, 66658, [])), (26, (0, 1, 1, [])), (27, (0, 316, 66659, [])), (28, (0, 0, 23, [])), (29, (0, 363, 363, [])), (30, (0, 363, 66660, [])), (31, (0, 363, 66706, [])), (32, (0, 363, 363, [])), (33, (0, 363, 66660, [])), (34, (0, 363, 66706, [])), (35, (0, 1, 1, [])), (36, (0, 364, 66707, [])), (37, (0, 0, 9, [])), (38, (0, 411, 411, [])), (39, (0, 411, 66708, [])), (40, (0, 411, 66754, [])), (41, (0, 411, 411, [])), (42, (0, 411, 66708, [])), (43, (0, 411, 66754, [])), (44, (0, 1, 1, [])), (45, (0, 412, 66755, [])), (46, (0, 0, 1, [])), (47, (0, 1, 47, []))], [(6, [47, 5], [1]), (24, [0, 3], []), (24, [1, 4], []), (100, [9, 40, 46], []), (10, [46, 9, 45], []), (1, [45, 43, 44], []), (1, [43, 42, 5], []), (1, [42, 10, 41], []), (9, [10, 3], [5]), (9, [9, 3], [2]), (1, [40, 39, 5], []), (1, [39, 10, 38], []), (100, [9, 31, 37], []), (10, [37, 9, 36], []), (1, [36, 34, 35], []), (1, [34, 33, 5], []), (1, [33, 10, 32], []), (1, [31, 30, 5], []), (1, [30, 10, 29], []), (100, [9, 22, 28], []), (10, [28, 9, 27], []), (1, [27, 25, 26], []), (1, [25, 24, 5], []), (1, [24, 10, 23], []), (1, [22, 21, 5], []), (1, [21, 10, 20], []), (100, [9, 13, 19], []), (10, [19, 9, 18], []), (1, [18, 16, 17], []), (1, [16, 15, 5], []), (1, [15, 10, 14], []), (1, [13, 12, 5], []), (1, [12, 10, 11], []), (7, [7, 8], [2]), (20, [8, 3], [30, 0, 1, 0, 0, -1, 3, 2005001]), (20, [8, 3], [30, 0, -1, 0, 0, 1, 3, 2005001]), (1, [7, 5, 6], []), (20, [4, 3], [30, -1, 1, 0, 0, -1, 3, 2005001]), (20, [2, 3], [30, -1, 1, 0, 0, -1, 3, 2005000]), (20, [3, 4, 5, 2], [60, 1, 3, 212, 5, 2, 3, 4]), (20, [3, 2], [60, 1, 1, 208, 5, 2])], [], [], [(20, [4, 3], [30, -1, 1, 0, 0, -1, 3, 2005001]), (20, [2, 3], [30, -1, 1, 0, 0, -1, 3, 2005000]), (20, [3, 4, 47, 2], [60, 1, 3, 212, 5, 2, 3, 4]), (20, [3, 2], [60, 1, 1, 208, 5, 2])], [], [(47, 5, 1, 1), (45, 43, 1, 1), (45, 5, 412, 66709), (45, 42, 1, 47), (45, 10, 412, 458), (43, 5, 411, 66708), (43, 42, 0, 46), (43, 10, 411, 457), (42, 10, 411, 411), (40, 5, 411, 66708), (40, 39, 0, 46), (40, 10, 411, 457), (39, 10, 411, 411), (36, 34, 1, 1), (36, 5, 364, 66661), (36, 33, 1, 47), (36, 10, 364, 410), (34, 5, 363, 66660), (34, 33, 0, 46), (34, 10, 363, 409), (33, 10, 363, 363), (31, 5, 363, 66660), (31, 30, 0, 46), (31, 10, 363, 409), (30, 10, 363, 363), (27, 25, 1, 1), (27, 5, 316, 66613), (27, 24, 1, 47), (27, 10, 316, 362), (25, 5, 315, 66612), (25, 24, 0, 46), (25, 10, 315, 361), (24, 10, 315, 315), (22, 5, 315, 66612), (22, 21, 0, 46), (22, 10, 315, 361), (21, 10, 315, 315), (18, 16, 1, 1), (18, 5, 268, 66565), (18, 15, 1, 47), (18, 10, 268, 314), (16, 5, 267, 66564), (16, 15, 0, 46), (16, 10, 267, 313), (15, 10, 267, 267), (13, 5, 267, 66564), (13, 12, 0, 46), (13, 10, 267, 313), (12, 10, 267, 267), (7, 8, -4294967296, -1), (7, 5, 1, 1), (1, 4, -4294967296, 0), (1, 5, -4294967296, 0), (4, 1, -4294967296, 0), (4, 5, -4294967296, 0)])
theorem oo_Mo_dropEdge_at_g0_3 {kA : Nat → ClassId} : or_ok PRD kA GG o_Mo_dropEdge_at_g0_3 := by
  refine or_mk fun A ta ws vs hD hth hl => ?_
  intro t0 r0 t1 k1 t2 k2 t4 k4 t5 k5 t6 k6 t7 k7 t8 k8 t9 r9 t10 k10 t11 k11 t12 k12 t13 k13 t14 k14 t15 k15 t16 k16 t17 k17 t18 k18 t19 k19 t20 k20 t21 k21 t22 k22 t23 k23 t24 k24 t25 k25 t26 k26 t27 k27 t28 k28 t29 k29 t30 k30 t31 k31 t32 k32 t33 k33 t34 k34 t35 k35 t36 k36 t37 k37 t38 k38 t39 k39 t40 k40 t41 k41 t42 k42 t43 k43 t44 k44 t45 k45 t46 k46 t47 k47 d0 d1 d2 d3 d4 d5 d6 d7 d8 d9 d10 d11 d12 d13 d14 d15 d16 d17 d18 d19 d20 d21 d22 d23 d24 d25 d26 d27 d28 d29 d30 d31 d32 d33 d34 d35 d36 d37 d38 d39 d40 d41 d42 d43 d44 d45 d46 d47 d48 d49 d50 d51 d52 d53 d54 f0 f1 f2 ta1 w1 le1 s1 f4 f5 f6 f7 f8 f9 f10 f11 ta2 w2 le2 s2 f13 f14 f15 f16 f17 f18 ta3 w3 le3 s3 f20 f21 f22 f23 f24 f25 ta4 w4 le4 s4 f27 f28 f29 f30 f31 f32 f33 f34 f35 f36 f37 f38 f39 f40
  replace f0 := shm_4 f0
  replace f1 := shm_5 f1
  replace f2 := shm_5 f2
  have s1 : (∀ b j, w_el ws b j = if b = v_ad (n_v vs 9) ∧ j = (v_iv (n_v vs 40)).toNat then v_iv (n_v vs 46) else w_el w1 b j) ∧ ∀ b k, w_fd ws b k = w_fd w1 b k := s1.2
  replace f4 := shm_107 f4
  replace f5 := shm_12 f5
  replace f6 := shm_12 f6
  replace f7 := shm_12 f7
  replace f8 := shm_110 f8
  replace f9 := shm_120 f9
  replace f10 := shm_12 f10
  replace f11 := shm_12 f11
  have s2 : (∀ b j, w_el w1 b j = if b = v_ad (n_v vs 9) ∧ j = (v_iv (n_v vs 31)).toNat then v_iv (n_v vs 37) else w_el w2 b j) ∧ ∀ b k, w_fd w1 b k = w_fd w2 b k := s2.2
  replace f13 := shm_107 f13
  replace f14 := shm_12 f14
  replace f15 := shm_12 f15
  replace f16 := shm_12 f16
  replace f17 := shm_12 f17
  replace f18 := shm_12 f18
  have s3 : (∀ b j, w_el w2 b j = if b = v_ad (n_v vs 9) ∧ j = (v_iv (n_v vs 22)).toNat then v_iv (n_v vs 28) else w_el w3 b j) ∧ ∀ b k, w_fd w2 b k = w_fd w3 b k := s3.2
  replace f20 := shm_107 f20
  replace f21 := shm_12 f21
  replace f22 := shm_12 f22
  replace f23 := shm_12 f23
  replace f24 := shm_12 f24
  replace f25 := shm_12 f25
  have s4 : (∀ b j, w_el w3 b j = if b = v_ad (n_v vs 9) ∧ j = (v_iv (n_v vs 13)).toNat then v_iv (n_v vs 19) else w_el w4 b j) ∧ ∀ b k, w_fd w3 b k = w_fd w4 b k := s4.2
  replace f27 := shm_107 f27
  replace f28 := shm_12 f28
  replace f29 := shm_12 f29
  replace f30 := shm_12 f30
  replace f31 := shm_12 f31
  replace f32 := shm_12 f32
  replace f33 := shm_6 f33
  replace f34 := shm_121 f34
  replace f35 := shm_122 f35
  replace f36 := shm_12 f36
  replace f37 := shm_979 f37
  replace f38 := shm_269 f38
  replace f39 := shm_985 f39
  replace f40 := shm_983 f40
  have q3 : n_v vs 3 = n_v vs 0 := f1.symm
  have q4 : n_v vs 4 = n_v vs 1 := f2.symm
  simp only [q3, q4] at f8 f9 f34 f35 f37 f38 f39 f40
  have ar_0_2_1 : w_ar w1 (n_v vs 0) 2 = w_ar ws (n_v vs 0) 2 := congrArg v_ad (s1.2 _ _).symm
  have ar_0_2_2 : w_ar w2 (n_v vs 0) 2 = w_ar ws (n_v vs 0) 2 := by rw [← ar_0_2_1]; show v_ad (w_fd w2 _ _) = v_ad (w_fd w1 _ _); rw [s2.2]
  have ar_0_2_3 : w_ar w3 (n_v vs 0) 2 = w_ar ws (n_v vs 0) 2 := by rw [← ar_0_2_2]; show v_ad (w_fd w3 _ _) = v_ad (w_fd w2 _ _); rw [s3.2]
  have ar_0_2_4 : w_ar w4 (n_v vs 0) 2 = w_ar ws (n_v vs 0) 2 := by rw [← ar_0_2_3]; show v_ad (w_fd w4 _ _) = v_ad (w_fd w3 _ _); rw [s4.2]
  have ar_0_3_1 : w_ar w1 (n_v vs 0) 3 = w_ar ws (n_v vs 0) 3 := congrArg v_ad (s1.2 _ _).symm
  have ar_0_3_2 : w_ar w2 (n_v vs 0) 3 = w_ar ws (n_v vs 0) 3 := by rw [← ar_0_3_1]; show v_ad (w_fd w2 _ _) = v_ad (w_fd w1 _ _); rw [s2.2]
  have ar_0_3_3 : w_ar w3 (n_v vs 0) 3 = w_ar ws (n_v vs 0) 3 := by rw [← ar_0_3_2]; show v_ad (w_fd w3 _ _) = v_ad (w_fd w2 _ _); rw [s3.2]
  have ar_0_3_4 : w_ar w4 (n_v vs 0) 3 = w_ar ws (n_v vs 0) 3 := by rw [← ar_0_3_3]; show v_ad (w_fd w4 _ _) = v_ad (w_fd w3 _ _); rw [s4.2]
  have cr_0_3 := fdq_142 hD hth r0
  have ar_0_4_1 : w_ar w1 (n_v vs 0) 4 = w_ar ws (n_v vs 0) 4 := congrArg v_ad (s1.2 _ _).symm
  have ar_0_4_2 : w_ar w2 (n_v vs 0) 4 = w_ar ws (n_v vs 0) 4 := by rw [← ar_0_4_1]; show v_ad (w_fd w2 _ _) = v_ad (w_fd w1 _ _); rw [s2.2]
  have ar_0_4_3 : w_ar w3 (n_v vs 0) 4 = w_ar ws (n_v vs 0) 4 := by rw [← ar_0_4_2]; show v_ad (w_fd w3 _ _) = v_ad (w_fd w2 _ _); rw [s3.2]
  have ar_0_4_4 : w_ar w4 (n_v vs 0) 4 = w_ar ws (n_v vs 0) 4 := by rw [← ar_0_4_3]; show v_ad (w_fd w4 _ _) = v_ad (w_fd w3 _ _); rw [s4.2]
  have cr_0_4 := fdq_143 hD hth r0
  have fi_0_5_1 : w_fi w1 (n_v vs 0) 5 = w_fi ws (n_v vs 0) 5 := by show v_iv (w_fd w1 _ _) = v_iv (w_fd ws _ _); rw [s1.2]
  have fi_0_5_2 : w_fi w2 (n_v vs 0) 5 = w_fi ws (n_v vs 0) 5 := by rw [← fi_0_5_1]; show v_iv (w_fd w2 _ _) = v_iv (w_fd w1 _ _); rw [s2.2]
  have fi_0_5_3 : w_fi w3 (n_v vs 0) 5 = w_fi ws (n_v vs 0) 5 := by rw [← fi_0_5_2]; show v_iv (w_fd w3 _ _) = v_iv (w_fd w2 _ _); rw [s3.2]
  have fi_0_5_4 : w_fi w4 (n_v vs 0) 5 = w_fi ws (n_v vs 0) 5 := by rw [← fi_0_5_3]; show v_iv (w_fd w4 _ _) = v_iv (w_fd w3 _ _); rw [s4.2]
  have ad_9 : v_ad (n_v vs 9) = w_ar ws (n_v vs 0) 2 := (congrArg v_ad f9).trans ar_0_2_1
  simp only [ad_9] at f4
  have h4 : v_iv (n_v vs 46) = w_ei w1 (w_ar ws (n_v vs 0) 2) (v_iv (n_v vs 45)) := f4
  have g8 : v_iv (n_v vs 10) = w_fi w1 (n_v vs 0) 5 := congrArg v_iv f8
  simp only [ad_9] at f13
  have h13 : v_iv (n_v vs 37) = w_ei w2 (w_ar ws (n_v vs 0) 2) (v_iv (n_v vs 36)) := f13
  simp only [ad_9] at f20
  have h20 : v_iv (n_v vs 28) = w_ei w3 (w_ar ws (n_v vs 0) 2) (v_iv (n_v vs 27)) := f20
  simp only [ad_9] at f27
  have h27 : v_iv (n_v vs 19) = w_ei w4 (w_ar ws (n_v vs 0) 2) (v_iv (n_v vs 18)) := f27
  simp only [ar_0_2_4, ar_0_3_4, ar_0_4_4] at f34 f35 f37 f38 f39 f40
  simp only [fi_0_5_4] at f34 f35 f37 f38
  have fe_0_5_1 : w_fi ws (n_v vs 0) 5 = w_fi w1 (n_v vs 0) 5 := congrArg v_iv (s1.2 _ _)
  have fe_0_5_2 : w_fi w1 (n_v vs 0) 5 = w_fi w2 (n_v vs 0) 5 := congrArg v_iv (s2.2 _ _)
  have fe_0_5_3 : w_fi w2 (n_v vs 0) 5 = w_fi w3 (n_v vs 0) 5 := congrArg v_iv (s3.2 _ _)
  have fe_0_5_4 : w_fi w3 (n_v vs 0) 5 = w_fi w4 (n_v vs 0) 5 := congrArg v_iv (s4.2 _ _)
  have hE_0_2_1 : ∀ j : Int, 0 ≤ j → (j = v_iv (n_v vs 40) → w_ei ws (w_ar ws (n_v vs 0) 2) j = v_iv (n_v vs 46)) ∧ (j ≠ v_iv (n_v vs 40) → w_ei ws (w_ar ws (n_v vs 0) 2) j = w_ei w1 (w_ar ws (n_v vs 0) 2) j) := fun j hj => ⟨fun h => by unfold w_ei; rw [s1.1, if_pos ⟨ad_9.symm, by rw [h]⟩], fun h => by unfold w_ei; rw [s1.1, if_neg (fun e => h (by have := e.2; omega))]⟩
  have hE_0_2_2 : ∀ j : Int, 0 ≤ j → (j = v_iv (n_v vs 31) → w_ei w1 (w_ar ws (n_v vs 0) 2) j = v_iv (n_v vs 37)) ∧ (j ≠ v_iv (n_v vs 31) → w_ei w1 (w_ar ws (n_v vs 0) 2) j = w_ei w2 (w_ar ws (n_v vs 0) 2) j) := fun j hj => ⟨fun h => by unfold w_ei; rw [s2.1, if_pos ⟨ad_9.symm, by rw [h]⟩], fun h => by unfold w_ei; rw [s2.1, if_neg (fun e => h (by have := e.2; omega))]⟩
  have hE_0_2_3 : ∀ j : Int, 0 ≤ j → (j = v_iv (n_v vs 22) → w_ei w2 (w_ar ws (n_v vs 0) 2) j = v_iv (n_v vs 28)) ∧ (j ≠ v_iv (n_v vs 22) → w_ei w2 (w_ar ws (n_v vs 0) 2) j = w_ei w3 (w_ar ws (n_v vs 0) 2) j) := fun j hj => ⟨fun h => by unfold w_ei; rw [s3.1, if_pos ⟨ad_9.symm, by rw [h]⟩], fun h => by unfold w_ei; rw [s3.1, if_neg (fun e => h (by have := e.2; omega))]⟩
  have hE_0_2_4 : ∀ j : Int, 0 ≤ j → (j = v_iv (n_v vs 13) → w_ei w3 (w_ar ws (n_v vs 0) 2) j = v_iv (n_v vs 19)) ∧ (j ≠ v_iv (n_v vs 13) → w_ei w3 (w_ar ws (n_v vs 0) 2) j = w_ei w4 (w_ar ws (n_v vs 0) 2) j) := fun j hj => ⟨fun h => by unfold w_ei; rw [s4.1, if_pos ⟨ad_9.symm, by rw [h]⟩], fun h => by unfold w_ei; rw [s4.1, if_neg (fun e => h (by have := e.2; omega))]⟩
  have hE_0_3_1 : ∀ j : Int, w_ei ws (w_ar ws (n_v vs 0) 3) j = w_ei w1 (w_ar ws (n_v vs 0) 3) j := el_kp s1.1 r9 cr_0_3 (by decide)
  have hE_0_3_2 : ∀ j : Int, w_ei w1 (w_ar ws (n_v vs 0) 3) j = w_ei w2 (w_ar ws (n_v vs 0) 3) j := el_kp s2.1 r9 cr_0_3 (by decide)
  have hE_0_3_3 : ∀ j : Int, w_ei w2 (w_ar ws (n_v vs 0) 3) j = w_ei w3 (w_ar ws (n_v vs 0) 3) j := el_kp s3.1 r9 cr_0_3 (by decide)
  have hE_0_3_4 : ∀ j : Int, w_ei w3 (w_ar ws (n_v vs 0) 3) j = w_ei w4 (w_ar ws (n_v vs 0) 3) j := el_kp s4.1 r9 cr_0_3 (by decide)
  have hK_0_3 := elq_80 hD hth cr_0_3
  have hE_0_4_1 : ∀ j : Int, w_ei ws (w_ar ws (n_v vs 0) 4) j = w_ei w1 (w_ar ws (n_v vs 0) 4) j := el_kp s1.1 r9 cr_0_4 (by decide)
  have hE_0_4_2 : ∀ j : Int, w_ei w1 (w_ar ws (n_v vs 0) 4) j = w_ei w2 (w_ar ws (n_v vs 0) 4) j := el_kp s2.1 r9 cr_0_4 (by decide)
  have hE_0_4_3 : ∀ j : Int, w_ei w2 (w_ar ws (n_v vs 0) 4) j = w_ei w3 (w_ar ws (n_v vs 0) 4) j := el_kp s3.1 r9 cr_0_4 (by decide)
  have hE_0_4_4 : ∀ j : Int, w_ei w3 (w_ar ws (n_v vs 0) 4) j = w_ei w4 (w_ar ws (n_v vs 0) 4) j := el_kp s4.1 r9 cr_0_4 (by decide)
  have hK_0_4 := elq_81 hD hth cr_0_4
  have nf0 : fc_1 PRD (20, [4, 3], [30, -1, 1, 0, 0, -1, 3, 2005001]) ws (vs) := by
    refine ⟨nf_in hl rfl, sgq_979 ?_⟩
    · show 1 * v_iv (n_v vs 4) + ((-1) * w_el ws (w_ar ws (n_v vs 3) 2) (w_fi ws (n_v vs 3) 5 + 1).toNat + 0) ≤ (-1)
      simp only [q3, q4]
      exact vc_Mo_dropEdge_at_g0_3_0 (v_iv (n_v vs 1)) (v_iv (n_v vs 2)) (v_iv (n_v vs 4)) (v_iv (n_v vs 5)) (v_iv (n_v vs 6)) (v_iv (n_v vs 7)) (v_iv (n_v vs 8)) (v_iv (n_v vs 10)) (v_iv (n_v vs 11)) (v_iv (n_v vs 12)) (v_iv (n_v vs 13)) (v_iv (n_v vs 14)) (v_iv (n_v vs 15)) (v_iv (n_v vs 16)) (v_iv (n_v vs 17)) (v_iv (n_v vs 18)) (v_iv (n_v vs 19)) (v_iv (n_v vs 20)) (v_iv (n_v vs 21)) (v_iv (n_v vs 22)) (v_iv (n_v vs 23)) (v_iv (n_v vs 24)) (v_iv (n_v vs 25)) (v_iv (n_v vs 26)) (v_iv (n_v vs 27)) (v_iv (n_v vs 28)) (v_iv (n_v vs 29)) (v_iv (n_v vs 30)) (v_iv (n_v vs 31)) (v_iv (n_v vs 32)) (v_iv (n_v vs 33)) (v_iv (n_v vs 34)) (v_iv (n_v vs 35)) (v_iv (n_v vs 36)) (v_iv (n_v vs 37)) (v_iv (n_v vs 38)) (v_iv (n_v vs 39)) (v_iv (n_v vs 40)) (v_iv (n_v vs 41)) (v_iv (n_v vs 42)) (v_iv (n_v vs 43)) (v_iv (n_v vs 44)) (v_iv (n_v vs 45)) (v_iv (n_v vs 46)) (v_iv (n_v vs 47)) (w_ei w1 (w_ar ws (n_v vs 0) 2)) (w_fi w1 (n_v vs 0) 5) (w_ei w2 (w_ar ws (n_v vs 0) 2)) (w_ei w3 (w_ar ws (n_v vs 0) 2)) (w_ei w4 (w_ar ws (n_v vs 0) 2)) (w_fi ws (n_v vs 0) 5) (w_ei w4 (w_ar ws (n_v vs 0) 3)) (w_ei w4 (w_ar ws (n_v vs 0) 4)) (w_fi w4 (n_v vs 0) 5) (w_fi w2 (n_v vs 0) 5) (w_fi w3 (n_v vs 0) 5) (w_ei ws (w_ar ws (n_v vs 0) 2)) (w_ei ws (w_ar ws (n_v vs 0) 3)) (w_ei w1 (w_ar ws (n_v vs 0) 3)) (w_ei w2 (w_ar ws (n_v vs 0) 3)) (w_ei w3 (w_ar ws (n_v vs 0) 3)) (w_ei ws (w_ar ws (n_v vs 0) 4)) (w_ei w1 (w_ar ws (n_v vs 0) 4)) (w_ei w2 (w_ar ws (n_v vs 0) 4)) (w_ei w3 (w_ar ws (n_v vs 0) 4)) k1 k2 k4 k5 k6 k7 k8 k10 k11 k12 k13 k14 k15 k16 k17 k18 k19 k20 k21 k22 k23 k24 k25 k26 k27 k28 k29 k30 k31 k32 k33 k34 k35 k36 k37 k38 k39 k40 k41 k42 k43 k44 k45 k46 k47 d0 d1 d2 d3 d4 d5 d6 d7 d8 d9 d10 d11 d12 d13 d14 d15 d16 d17 d18 d19 d20 d21 d22 d23 d24 d25 d26 d27 d28 d29 d30 d31 d32 d33 d34 d35 d36 d37 d38 d39 d40 d41 d42 d43 d44 d45 d46 d47 d48 d49 d50 d51 d52 d53 d54 f0 h4 f5 f6 f7 g8 f10 f11 h13 f14 f15 f16 f17 f18 h20 f21 f22 f23 f24 f25 h27 f28 f29 f30 f31 f32 f33 f34 f35 f36 f37 f38 f39 f40 fe_0_5_1 fe_0_5_2 fe_0_5_3 fe_0_5_4 hE_0_2_1 hE_0_2_2 hE_0_2_3 hE_0_2_4 hE_0_3_1 hE_0_3_2 hE_0_3_3 hE_0_3_4 hK_0_3 hE_0_4_1 hE_0_4_2 hE_0_4_3 hE_0_4_4 hK_0_4
  have nf1 : fc_1 PRD (20, [2, 3], [30, -1, 1, 0, 0, -1, 3, 2005000]) ws (vs) := by
    refine ⟨nf_in hl rfl, sgq_269 ?_⟩
    · show 1 * v_iv (n_v vs 2) + ((-1) * w_el ws (w_ar ws (n_v vs 3) 2) (w_fi ws (n_v vs 3) 5 + 0).toNat + 0) ≤ (-1)
      rw [q3]
      exact vc_Mo_dropEdge_at_g0_3_1 (v_iv (n_v vs 1)) (v_iv (n_v vs 2)) (v_iv (n_v vs 4)) (v_iv (n_v vs 5)) (v_iv (n_v vs 6)) (v_iv (n_v vs 7)) (v_iv (n_v vs 8)) (v_iv (n_v vs 10)) (v_iv (n_v vs 11)) (v_iv (n_v vs 12)) (v_iv (n_v vs 13)) (v_iv (n_v vs 14)) (v_iv (n_v vs 15)) (v_iv (n_v vs 16)) (v_iv (n_v vs 17)) (v_iv (n_v vs 18)) (v_iv (n_v vs 19)) (v_iv (n_v vs 20)) (v_iv (n_v vs 21)) (v_iv (n_v vs 22)) (v_iv (n_v vs 23)) (v_iv (n_v vs 24)) (v_iv (n_v vs 25)) (v_iv (n_v vs 26)) (v_iv (n_v vs 27)) (v_iv (n_v vs 28)) (v_iv (n_v vs 29)) (v_iv (n_v vs 30)) (v_iv (n_v vs 31)) (v_iv (n_v vs 32)) (v_iv (n_v vs 33)) (v_iv (n_v vs 34)) (v_iv (n_v vs 35)) (v_iv (n_v vs 36)) (v_iv (n_v vs 37)) (v_iv (n_v vs 38)) (v_iv (n_v vs 39)) (v_iv (n_v vs 40)) (v_iv (n_v vs 41)) (v_iv (n_v vs 42)) (v_iv (n_v vs 43)) (v_iv (n_v vs 44)) (v_iv (n_v vs 45)) (v_iv (n_v vs 46)) (v_iv (n_v vs 47)) (w_ei w1 (w_ar ws (n_v vs 0) 2)) (w_fi w1 (n_v vs 0) 5) (w_ei w2 (w_ar ws (n_v vs 0) 2)) (w_ei w3 (w_ar ws (n_v vs 0) 2)) (w_ei w4 (w_ar ws (n_v vs 0) 2)) (w_fi ws (n_v vs 0) 5) (w_ei w4 (w_ar ws (n_v vs 0) 3)) (w_ei w4 (w_ar ws (n_v vs 0) 4)) (w_fi w4 (n_v vs 0) 5) (w_fi w2 (n_v vs 0) 5) (w_fi w3 (n_v vs 0) 5) (w_ei ws (w_ar ws (n_v vs 0) 2)) (w_ei ws (w_ar ws (n_v vs 0) 3)) (w_ei w1 (w_ar ws (n_v vs 0) 3)) (w_ei w2 (w_ar ws (n_v vs 0) 3)) (w_ei w3 (w_ar ws (n_v vs 0) 3)) (w_ei ws (w_ar ws (n_v vs 0) 4)) (w_ei w1 (w_ar ws (n_v vs 0) 4)) (w_ei w2 (w_ar ws (n_v vs 0) 4)) (w_ei w3 (w_ar ws (n_v vs 0) 4)) k1 k2 k4 k5 k6 k7 k8 k10 k11 k12 k13 k14 k15 k16 k17 k18 k19 k20 k21 k22 k23 k24 k25 k26 k27 k28 k29 k30 k31 k32 k33 k34 k35 k36 k37 k38 k39 k40 k41 k42 k43 k44 k45 k46 k47 d0 d1 d2 d3 d4 d5 d6 d7 d8 d9 d10 d11 d12 d13 d14 d15 d16 d17 d18 d19 d20 d21 d22 d23 d24 d25 d26 d27 d28 d29 d30 d31 d32 d33 d34 d35 d36 d37 d38 d39 d40 d41 d42 d43 d44 d45 d46 d47 d48 d49 d50 d51 d52 d53 d54 f0 h4 f5 f6 f7 g8 f10 f11 h13 f14 f15 f16 f17 f18 h20 f21 f22 f23 f24 f25 h27 f28 f29 f30 f31 f32 f33 f34 f35 f36 f37 f38 f39 f40 fe_0_5_1 fe_0_5_2 fe_0_5_3 fe_0_5_4 hE_0_2_1 hE_0_2_2 hE_0_2_3 hE_0_2_4 hE_0_3_1 hE_0_3_2 hE_0_3_3 hE_0_3_4 hK_0_3 hE_0_4_1 hE_0_4_2 hE_0_4_3 hE_0_4_4 hK_0_4
  have nf2 : fc_1 PRD (20, [3, 4, 47, 2], [60, 1, 3, 212, 5, 2, 3, 4]) ws (vs) := by
    refine ⟨nf_in hl rfl, sgq_985 ?_⟩
    · show DE2 (w_fi ws (n_v vs 3) 5) (w_ei ws (w_ar ws (n_v vs 3) 2)) (w_ei ws (w_ar ws (n_v vs 3) 3)) (w_ei ws (w_ar ws (n_v vs 3) 4)) (v_iv (n_v vs 4)) (v_iv (n_v vs 47)) (v_iv (n_v vs 2))
      simp only [q3, q4]
      exact vc_Mo_dropEdge_at_g0_3_2 (v_iv (n_v vs 1)) (v_iv (n_v vs 2)) (v_iv (n_v vs 4)) (v_iv (n_v vs 5)) (v_iv (n_v vs 6)) (v_iv (n_v vs 7)) (v_iv (n_v vs 8)) (v_iv (n_v vs 10)) (v_iv (n_v vs 11)) (v_iv (n_v vs 12)) (v_iv (n_v vs 13)) (v_iv (n_v vs 14)) (v_iv (n_v vs 15)) (v_iv (n_v vs 16)) (v_iv (n_v vs 17)) (v_iv (n_v vs 18)) (v_iv (n_v vs 19)) (v_iv (n_v vs 20)) (v_iv (n_v vs 21)) (v_iv (n_v vs 22)) (v_iv (n_v vs 23)) (v_iv (n_v vs 24)) (v_iv (n_v vs 25)) (v_iv (n_v vs 26)) (v_iv (n_v vs 27)) (v_iv (n_v vs 28)) (v_iv (n_v vs 29)) (v_iv (n_v vs 30)) (v_iv (n_v vs 31)) (v_iv (n_v vs 32)) (v_iv (n_v vs 33)) (v_iv (n_v vs 34)) (v_iv (n_v vs 35)) (v_iv (n_v vs 36)) (v_iv (n_v vs 37)) (v_iv (n_v vs 38)) (v_iv (n_v vs 39)) (v_iv (n_v vs 40)) (v_iv (n_v vs 41)) (v_iv (n_v vs 42)) (v_iv (n_v vs 43)) (v_iv (n_v vs 44)) (v_iv (n_v vs 45)) (v_iv (n_v vs 46)) (v_iv (n_v vs 47)) (w_ei w1 (w_ar ws (n_v vs 0) 2)) (w_fi w1 (n_v vs 0) 5) (w_ei w2 (w_ar ws (n_v vs 0) 2)) (w_ei w3 (w_ar ws (n_v vs 0) 2)) (w_ei w4 (w_ar ws (n_v vs 0) 2)) (w_fi ws (n_v vs 0) 5) (w_ei w4 (w_ar ws (n_v vs 0) 3)) (w_ei w4 (w_ar ws (n_v vs 0) 4)) (w_fi w4 (n_v vs 0) 5) (w_fi w2 (n_v vs 0) 5) (w_fi w3 (n_v vs 0) 5) (w_ei ws (w_ar ws (n_v vs 0) 2)) (w_ei ws (w_ar ws (n_v vs 0) 3)) (w_ei w1 (w_ar ws (n_v vs 0) 3)) (w_ei w2 (w_ar ws (n_v vs 0) 3)) (w_ei w3 (w_ar ws (n_v vs 0) 3)) (w_ei ws (w_ar ws (n_v vs 0) 4)) (w_ei w1 (w_ar ws (n_v vs 0) 4)) (w_ei w2 (w_ar ws (n_v vs 0) 4)) (w_ei w3 (w_ar ws (n_v vs 0) 4)) k1 k2 k4 k5 k6 k7 k8 k10 k11 k12 k13 k14 k15 k16 k17 k18 k19 k20 k21 k22 k23 k24 k25 k26 k27 k28 k29 k30 k31 k32 k33 k34 k35 k36 k37 k38 k39 k40 k41 k42 k43 k44 k45 k46 k47 d0 d1 d2 d3 d4 d5 d6 d7 d8 d9 d10 d11 d12 d13 d14 d15 d16 d17 d18 d19 d20 d21 d22 d23 d24 d25 d26 d27 d28 d29 d30 d31 d32 d33 d34 d35 d36 d37 d38 d39 d40 d41 d42 d43 d44 d45 d46 d47 d48 d49 d50 d51 d52 d53 d54 f0 h4 f5 f6 f7 g8 f10 f11 h13 f14 f15 f16 f17 f18 h20 f21 f22 f23 f24 f25 h27 f28 f29 f30 f31 f32 f33 f34 f35 f36 f37 f38 f39 f40 fe_0_5_1 fe_0_5_2 fe_0_5_3 fe_0_5_4 hE_0_2_1 hE_0_2_2 hE_0_2_3 hE_0_2_4 hE_0_3_1 hE_0_3_2 hE_0_3_3 hE_0_3_4 hK_0_3 hE_0_4_1 hE_0_4_2 hE_0_4_3 hE_0_4_4 hK_0_4
  have nf3 : fc_1 PRD (20, [3, 2], [60, 1, 1, 208, 5, 2]) ws (vs) := by
    refine ⟨nf_in hl rfl, sgq_983 ?_⟩
    · show NDA (w_fi ws (n_v vs 3) 5) (w_ei ws (w_ar ws (n_v vs 3) 2)) (v_iv (n_v vs 2))
      rw [q3]
      exact vc_Mo_dropEdge_at_g0_3_3 (v_iv (n_v vs 1)) (v_iv (n_v vs 2)) (v_iv (n_v vs 4)) (v_iv (n_v vs 5)) (v_iv (n_v vs 6)) (v_iv (n_v vs 7)) (v_iv (n_v vs 8)) (v_iv (n_v vs 10)) (v_iv (n_v vs 11)) (v_iv (n_v vs 12)) (v_iv (n_v vs 13)) (v_iv (n_v vs 14)) (v_iv (n_v vs 15)) (v_iv (n_v vs 16)) (v_iv (n_v vs 17)) (v_iv (n_v vs 18)) (v_iv (n_v vs 19)) (v_iv (n_v vs 20)) (v_iv (n_v vs 21)) (v_iv (n_v vs 22)) (v_iv (n_v vs 23)) (v_iv (n_v vs 24)) (v_iv (n_v vs 25)) (v_iv (n_v vs 26)) (v_iv (n_v vs 27)) (v_iv (n_v vs 28)) (v_iv (n_v vs 29)) (v_iv (n_v vs 30)) (v_iv (n_v vs 31)) (v_iv (n_v vs 32)) (v_iv (n_v vs 33)) (v_iv (n_v vs 34)) (v_iv (n_v vs 35)) (v_iv (n_v vs 36)) (v_iv (n_v vs 37)) (v_iv (n_v vs 38)) (v_iv (n_v vs 39)) (v_iv (n_v vs 40)) (v_iv (n_v vs 41)) (v_iv (n_v vs 42)) (v_iv (n_v vs 43)) (v_iv (n_v vs 44)) (v_iv (n_v vs 45)) (v_iv (n_v vs 46)) (v_iv (n_v vs 47)) (w_ei w1 (w_ar ws (n_v vs 0) 2)) (w_fi w1 (n_v vs 0) 5) (w_ei w2 (w_ar ws (n_v vs 0) 2)) (w_ei w3 (w_ar ws (n_v vs 0) 2)) (w_ei w4 (w_ar ws (n_v vs 0) 2)) (w_fi ws (n_v vs 0) 5) (w_ei w4 (w_ar ws (n_v vs 0) 3)) (w_ei w4 (w_ar ws (n_v vs 0) 4)) (w_fi w4 (n_v vs 0) 5) (w_fi w2 (n_v vs 0) 5) (w_fi w3 (n_v vs 0) 5) (w_ei ws (w_ar ws (n_v vs 0) 2)) (w_ei ws (w_ar ws (n_v vs 0) 3)) (w_ei w1 (w_ar ws (n_v vs 0) 3)) (w_ei w2 (w_ar ws (n_v vs 0) 3)) (w_ei w3 (w_ar ws (n_v vs 0) 3)) (w_ei ws (w_ar ws (n_v vs 0) 4)) (w_ei w1 (w_ar ws (n_v vs 0) 4)) (w_ei w2 (w_ar ws (n_v vs 0) 4)) (w_ei w3 (w_ar ws (n_v vs 0) 4)) k1 k2 k4 k5 k6 k7 k8 k10 k11 k12 k13 k14 k15 k16 k17 k18 k19 k20 k21 k22 k23 k24 k25 k26 k27 k28 k29 k30 k31 k32 k33 k34 k35 k36 k37 k38 k39 k40 k41 k42 k43 k44 k45 k46 k47 d0 d1 d2 d3 d4 d5 d6 d7 d8 d9 d10 d11 d12 d13 d14 d15 d16 d17 d18 d19 d20 d21 d22 d23 d24 d25 d26 d27 d28 d29 d30 d31 d32 d33 d34 d35 d36 d37 d38 d39 d40 d41 d42 d43 d44 d45 d46 d47 d48 d49 d50 d51 d52 d53 d54 f0 h4 f5 f6 f7 g8 f10 f11 h13 f14 f15 f16 f17 f18 h20 f21 f22 f23 f24 f25 h27 f28 f29 f30 f31 f32 f33 f34 f35 f36 f37 f38 f39 f40 fe_0_5_1 fe_0_5_2 fe_0_5_3 fe_0_5_4 hE_0_2_1 hE_0_2_2 hE_0_2_3 hE_0_2_4 hE_0_3_1 hE_0_3_2 hE_0_3_3 hE_0_3_4 hK_0_3 hE_0_4_1 hE_0_4_2 hE_0_4_3 hE_0_4_4 hK_0_4
  refine ⟨(fun _ h => (by cases h)), [], trivial, ?_, (fun _ h => (by cases h))⟩
  rw [List.append_nil]
  exact List.forall_mem_cons.mpr ⟨⟨show (20 : Nat) < 100 from by decide, nf0⟩, List.forall_mem_cons.mpr ⟨⟨show (20 : Nat) < 100 from by decide, nf1⟩, List.forall_mem_cons.mpr ⟨⟨show (20 : Nat) < 100 from by decide, nf2⟩, List.forall_mem_cons.mpr ⟨⟨show (20 : Nat) < 100 from by decide, nf3⟩, (fun _ h => (by cases h))⟩⟩⟩⟩
def n_Mo_dropEdge_at_g0_an : List an_T := [(2, [(0, (2, 0, 0, [165])), (1, (0, 0, 47, [])), (2, (0, 0, 47, []))], [], (0, 0), [(0, 0, 99998), (1, 5, 47), (0, 0, 100000)], [(1, 4, (Int.negSucc 999999999999), 0), (1, 5, (Int.negSucc 999999999999), 0), (4, 1, (Int.negSucc 999999999999), 0), (4, 5, (Int.negSucc 999999999999), 0)], [], [(2, 0, 0, [165]), (0, 0, 47, []), (0, 0, 23, [])], 0, [], [(20, [4, 3], [30, (Int.negSucc 0), 1, 0, 0, (Int.negSucc 0), 3, 2005001]), (20, [2, 3], [30, (Int.negSucc 0), 1, 0, 0, (Int.negSucc 0), 3, 2005000]), (20, [3, 4, 5, 2], [60, 1, 3, 212, 5, 2, 3, 4]), (20, [3, 2], [60, 1, 1, 208, 5, 2]), (24, [0, 3], []), (24, [1, 4], [])])]
def t_Mo_dropEdge_at_g0_ct : ct_L := [(1, 401, e_Mo_edges)]
set_option maxRecDepth 100000 in
theorem c_Mo_dropEdge_at_g0 {l : Launch} {D : va_G} {kA : Nat → ClassId} (h_Mo_edges : ct_ok PRD l D kA GG y_Mo_edges z_Mo_edges e_Mo_edges) : ct_ok PRD l D kA GG y_Mo_dropEdge_at_g0 z_Mo_dropEdge_at_g0 e_Mo_dropEdge_at_g0 := chk_all_ok (FT := [(16, 13, 2), (391, 13, 5)]) (PT := []) (CT := t_Mo_dropEdge_at_g0_ct) (KT := []) (NT := []) (AN := n_Mo_dropEdge_at_g0_an) (OT := [o_Mo_dropEdge_at_g0_0, o_Mo_dropEdge_at_g0_1, o_Mo_dropEdge_at_g0_2, o_Mo_dropEdge_at_g0_3]) 3 408 (List.forall_mem_cons.mpr ⟨oo_Mo_dropEdge_at_g0_0, List.forall_mem_cons.mpr ⟨oo_Mo_dropEdge_at_g0_1, List.forall_mem_cons.mpr ⟨oo_Mo_dropEdge_at_g0_2, List.forall_mem_cons.mpr ⟨oo_Mo_dropEdge_at_g0_3, List.forall_mem_nil _⟩⟩⟩⟩) (by decide +kernel) ⟨List.forall_mem_cons.mpr ⟨gf_Mo_16, List.forall_mem_cons.mpr ⟨gf_Mo_391, List.forall_mem_nil _⟩⟩, List.forall_mem_nil _, List.forall_mem_cons.mpr ⟨cl_virtual (y := y_Mo_edges) (ci := 13) rfl rfl ⟨_, _, rfl⟩ (by decide +kernel) h_Mo_edges wm_3037 wm_9 wm_3034 wm_3036 wv_13_6 ⟨by decide, by decide, by decide +kernel⟩ (by decide), List.forall_mem_nil _⟩, List.forall_mem_nil _, List.forall_mem_nil _, GG_pl⟩ (by decide +kernel)
set_option maxHeartbeats 4000000 in
theorem vc_Mo_dropEdge_at_gx_0_0 (x1 : Int) (all_0 : Int → Int) (r_0 : Int) (now_0 : Int → Int) (latest_0 : Int → Int) (k1 : 0 ≤ x1 ∧ x1 ≤ 47) (f1 : RWS (r_0) (all_0) (now_0) (latest_0)) (f2 : EDA (r_0) (all_0) (x1)) : DX2 (r_0) (all_0) (now_0) (latest_0) (x1) (x1) := by
  first
    | exact de2_start ‹RWS _ _ _ _› ‹EDA _ _ _› (noi_m1 ‹RWS _ _ _ _› (by omega)) (by omega)
    | exact (de2_step ‹DX2 _ _ _ _ _ _› (by omega) (by omega) (by assumption) (by assumption) (by assumption) (by assumption) (by omega) (by assumption) (by omega) (by omega) (by assumption) (by omega) (by omega) (by omega)).1
def o_Mo_dropEdge_at_gx_0 : or_T := (2, 2, [(1, (0, 0, 47, []))], [(20, [0], [60, 1, 3, 199, 5, 2, 3, 4]), (20, [0, 1], [60, 1, 1, 209, 5, 2])], [], [], [(20, [0, 1, 1], [60, 1, 3, 213, 5, 2, 3, 4]), (24, [0, 0], []), (24, [1, 1], [])], [], [])
theorem oo_Mo_dropEdge_at_gx_0 {kA : Nat → ClassId} : or_ok PRD kA GG o_Mo_dropEdge_at_gx_0 := by
  refine or_mk fun A ta ws vs hD hth hl => ?_
  intro t1 k1 f1 f2
  have nf0 : fc_1 PRD (20, [0, 1, 1], [60, 1, 3, 213, 5, 2, 3, 4]) ws (vs) := ⟨nf_in hl rfl, sgq_987 (vc_Mo_dropEdge_at_gx_0_0 (v_iv (n_v vs 1)) (w_ei ws (w_ar ws (n_v vs 0) 2)) (w_fi ws (n_v vs 0) 5) (w_ei ws (w_ar ws (n_v vs 0) 3)) (w_ei ws (w_ar ws (n_v vs 0) 4)) k1 (shm_980 f1) (shm_981 f2))⟩
  have nf1 : fc_1 PRD (24, [0, 0], []) ws (vs) := by
    refine ⟨nf_in hl rfl, sgq_1 ?_⟩
    · show n_v vs 0 = n_v vs 0
      first | rfl | simp only [true_and]
  have nf2 : fc_1 PRD (24, [1, 1], []) ws (vs) := by
    refine ⟨nf_in hl rfl, sgq_1 ?_⟩
    · show n_v vs 1 = n_v vs 1
      first | rfl | simp only [true_and]
  refine ⟨(fun _ h => (by cases h)), [], trivial, ?_, (fun _ h => (by cases h))⟩
  rw [List.append_nil]
  exact List.forall_mem_cons.mpr ⟨⟨show (20 : Nat) < 100 from by decide, nf0⟩, List.forall_mem_cons.mpr ⟨⟨show (24 : Nat) < 100 from by decide, nf1⟩, List.forall_mem_cons.mpr ⟨⟨show (24 : Nat) < 100 from by decide, nf2⟩, (fun _ h => (by cases h))⟩⟩⟩
