def o_Sy_advance_0 : or_T := (0, 2, [], [], [], [], [(24, [0, 0], [])], [], [])
theorem oo_Sy_advance_0 {kA : Nat → ClassId} : or_ok PRD kA GG o_Sy_advance_0 := by
  refine or_mk fun A ta ws vs hD hth hl => ?_
  have nf0 : fc_1 PRD (24, [0, 0], []) ws (vs) := by
    refine ⟨nf_in hl rfl, sgq_1 ?_⟩
    · show n_v vs 0 = n_v vs 0
      first | rfl | simp only [true_and]
  refine ⟨(fun _ h => (by cases h)), [], trivial, ?_, (fun _ h => (by cases h))⟩
  rw [List.append_nil]
  exact List.forall_mem_cons.mpr ⟨⟨show (24 : Nat) < 100 from by decide, nf0⟩, (fun _ h => (by cases h))⟩
set_option maxHeartbeats 4000000 in
theorem vc_Sy_advance_1_0 (x11 : Int) (kind_0 : Int) (number_0 : Int) (k11 : 1 ≤ x11 ∧ x11 ≤ 1) (g0 : x11 = kind_0) (kz_0_6 : 0 ≤ kind_0 ∧ kind_0 ≤ 127) (kz_0_8 : 0 ≤ number_0 ∧ number_0 ≤ 1000000) : (kind_0 ≠ 3) ∨ (number_0 ≤ 9999) := by
  first
    | omega
  
def o_Sy_advance_1 : or_T := (297, 12, [(0, (2, 0, 0, [11])), (2, (2, 0, 0, [11])), (11, (0, 1, 1, []))], [(9, [11, 2], [6]), (24, [0, 2], []), (101, [2, 11], [6])], [], [], [(20, [0], [50, 2, 0, 6, 8, 3, 7, 7, 3, 2, 0, 6, 0, 3, 0, 3, 2, 0, 8, 0, 9999])], [], [])
theorem oo_Sy_advance_1 {kA : Nat → ClassId} : or_ok PRD kA GG o_Sy_advance_1 := by
  refine or_mk fun A ta ws vs hD hth hl => ?_
  intro t0 r0 t2 r2 t11 k11 f0 f1 ta1 w1 le1 s1
  replace f0 := shm_110 f0
  replace f1 := shm_5 f1
  have q2 : n_v vs 2 = n_v vs 0 := f1.symm
  simp only [q2] at f0
  have g0 : v_iv (n_v vs 11) = w_fi ws (n_v vs 0) 6 := congrArg v_iv f0
  have kz_0_6 := fdq_304 hD hth r0
  have kz_0_8 := fdq_305 hD hth r0
  have nf0 : fc_1 PRD (20, [0], [50, 2, 0, 6, 8, 3, 7, 7, 3, 2, 0, 6, 0, 3, 0, 3, 2, 0, 8, 0, 9999]) ws (vs) := ⟨nf_in hl rfl, sgq_1747 (vc_Sy_advance_1_0 (v_iv (n_v vs 11)) (w_fi ws (n_v vs 0) 6) (w_fi ws (n_v vs 0) 8) k11 g0 kz_0_6 kz_0_8)⟩
  refine ⟨(fun _ h => (by cases h)), [], trivial, ?_, (fun _ h => (by cases h))⟩
  rw [List.append_nil]
  exact List.forall_mem_cons.mpr ⟨⟨show (20 : Nat) < 100 from by decide, nf0⟩, (fun _ h => (by cases h))⟩
set_option maxHeartbeats 4000000 in
theorem vc_Sy_advance_2_r0 (x5 : Int) (x10 : Int) (x12 : Int) (begin_0 : Int) (end_0 : Int) (bytes_1 : Int → Int) (end_1 : Int) (begin_1 : Int) (bytes_0 : Int → Int) (bytes_2 : Int → Int) (k5 : 1 ≤ x5 ∧ x5 ≤ 1999) (k10 : 2 ≤ x10 ∧ x10 ≤ 2000) (k12 : 0 ≤ x12 ∧ x12 ≤ 65535) (d1 : x5 + (-4294967296) ≤ x10 ∧ x10 ≤ x5 + 0) (d2 : x5 + 1 ≤ x10 ∧ x10 ≤ x5 + 4294967296) (fe_0_4_1 : end_0 = end_1) (fe_0_7_1 : begin_0 = begin_1) (hE_0_3_1 : ∀ j : Int, bytes_0 j = bytes_1 j) (hE_0_3_2 : ∀ j : Int, bytes_1 j = bytes_2 j) (kz_0_4 : 0 ≤ end_0 ∧ end_0 ≤ 2000) (kz_0_7 : 0 ≤ begin_0 ∧ begin_0 ≤ 2000) : 0 ≤ x12 ∧ x12 ≤ 127 := by
  subst fe_0_4_1
  subst fe_0_7_1
  have e_hE_0_3_1 := funext hE_0_3_1; subst e_hE_0_3_1
  have e_hE_0_3_2 := funext hE_0_3_2; subst e_hE_0_3_2
  first
    | omega
  
def o_Sy_advance_2 : or_T := (283, 13, [(0, (2, 0, 0, [11])), (2, (2, 0, 0, [11])), (3, (0, 1, 1999, [])), (4, (2, 0, 0, [109])), (5, (0, 1, 1999, [])), (6, (0, 1, 47, [])), (9, (0, 1, 1, [])), (10, (0, 2, 2000, [])), (12, (0, 0, 65535, []))], [(9, [10, 2], [5]), (9, [3, 2], [7]), (9, [5, 2], [4]), (9, [4, 2], [3]), (22, [12, 6], []), (8, [6], [4]), (24, [0, 2], []), (101, [2, 10], [5]), (1, [10, 3, 9], []), (9, [3, 2], [5]), (10, [6, 4, 3], []), (7, [3, 5], [2]), (101, [2, 3], [7]), (7, [3, 5], [3])], [(12, (0, 0, 127, []))], [], [], [], [(10, 3, 1, 1), (10, 5, -4294967296, 0), (10, 5, 1, 4294967296), (3, 5, -4294967296, -1), (3, 5, 0, 4294967296)])
theorem oo_Sy_advance_2 {kA : Nat → ClassId} : or_ok PRD kA GG o_Sy_advance_2 := by
  refine or_mk fun A ta ws vs hD hth hl => ?_
  intro t0 r0 t2 r2 t3 k3 t4 r4 t5 k5 t6 k6 t9 k9 t10 k10 t12 k12 d0 d1 d2 d3 d4 f0 f1 f2 f3 f4 f5 f6 ta1 w1 le1 s1 f8 f9 f10 f11 ta2 w2 le2 s2 f13
  replace f6 := shm_5 f6
  have s1 : (∀ b j, w_el ws b j = w_el w1 b j) ∧ ∀ b j, w_fd ws b j = if b = v_ad (n_v vs 2) ∧ j = 5 then n_v vs 10 else w_fd w1 b j := s1.2
  have s2 : (∀ b j, w_el w1 b j = w_el w2 b j) ∧ ∀ b j, w_fd w1 b j = if b = v_ad (n_v vs 2) ∧ j = 7 then n_v vs 3 else w_fd w2 b j := s2.2
  have q2 : n_v vs 2 = n_v vs 0 := f6.symm
  rw [q2] at s1
  rw [q2] at s2
  have fe_0_4_1 : w_fi ws (n_v vs 0) 4 = w_fi w1 (n_v vs 0) 4 := by show v_iv (w_fd _ _ _) = v_iv (w_fd _ _ _); rw [s1.2, if_neg (fun e => absurd e.2 (by decide))]
  have fe_0_7_1 : w_fi ws (n_v vs 0) 7 = w_fi w1 (n_v vs 0) 7 := by show v_iv (w_fd _ _ _) = v_iv (w_fd _ _ _); rw [s1.2, if_neg (fun e => absurd e.2 (by decide))]
  have hE_0_3_1 : ∀ j : Int, w_ei ws (w_ar ws (n_v vs 0) 3) j = w_ei w1 (w_ar ws (n_v vs 0) 3) j := fun j => s1.1 _ _
  have hE_0_3_2 : ∀ j : Int, w_ei w1 (w_ar ws (n_v vs 0) 3) j = w_ei w2 (w_ar ws (n_v vs 0) 3) j := fun j => s2.1 _ _
  have kz_0_4 := fdq_306 hD hth r0
  have kz_0_7 := fdq_37 hD hth r0
  have hrf0 : 0 ≤ v_iv (n_v vs 12) ∧ v_iv (n_v vs 12) ≤ 127 := vc_Sy_advance_2_r0 (v_iv (n_v vs 5)) (v_iv (n_v vs 10)) (v_iv (n_v vs 12)) (w_fi ws (n_v vs 0) 7) (w_fi ws (n_v vs 0) 4) (w_ei w1 (w_ar ws (n_v vs 0) 3)) (w_fi w1 (n_v vs 0) 4) (w_fi w1 (n_v vs 0) 7) (w_ei ws (w_ar ws (n_v vs 0) 3)) (w_ei w2 (w_ar ws (n_v vs 0) 3)) k5 k10 k12 d1 d2 fe_0_4_1 fe_0_7_1 hE_0_3_1 hE_0_3_2 kz_0_4 kz_0_7
  have rf12 : tv_ok ta (0, 0, 127, []) (n_v vs 12) := tv_in t12 (by omega) (by omega)
  refine ⟨List.forall_mem_cons.mpr ⟨rf12, (fun _ h => (by cases h))⟩, [], trivial, ?_, (fun _ h => (by cases h))⟩
  rw [List.append_nil]
  exact (fun _ h => (by cases h))
set_option maxHeartbeats 4000000 in
theorem vc_Sy_advance_3_0 (x5 : Int) (x10 : Int) (kind_0 : Int) (next_0 : Int) (begin_0 : Int) (end_0 : Int) (bytes_2 : Int → Int) (end_1 : Int) (next_1 : Int) (begin_1 : Int) (number_0 : Int) (number_1 : Int) (end_2 : Int) (kind_1 : Int) (kind_2 : Int) (begin_2 : Int) (number_2 : Int) (bytes_0 : Int → Int) (bytes_1 : Int → Int) (bytes_3 : Int → Int) (k5 : 1 ≤ x5 ∧ x5 ≤ 1999) (k10 : 2 ≤ x10 ∧ x10 ≤ 2000) (d1 : x5 + (-4294967296) ≤ x10 ∧ x10 ≤ x5 + 0) (d2 : x5 + 1 ≤ x10 ∧ x10 ≤ x5 + 4294967296) (fe_0_4_1 : end_0 = end_1) (fe_0_5_1 : next_0 = next_1) (fe_0_7_1 : begin_0 = begin_1) (fe_0_8_1 : number_0 = number_1) (fe_0_4_2 : end_1 = end_2) (fe_0_6_2 : kind_1 = kind_2) (fe_0_7_2 : begin_1 = begin_2) (fe_0_8_2 : number_1 = number_2) (hE_0_3_1 : ∀ j : Int, bytes_0 j = bytes_1 j) (hE_0_3_2 : ∀ j : Int, bytes_1 j = bytes_2 j) (hE_0_3_3 : ∀ j : Int, bytes_2 j = bytes_3 j) (kz_0_4 : 0 ≤ end_0 ∧ end_0 ≤ 2000) (kz_0_5 : 0 ≤ next_0 ∧ next_0 ≤ 2000) (kz_0_6 : 0 ≤ kind_0 ∧ kind_0 ≤ 127) (kz_0_7 : 0 ≤ begin_0 ∧ begin_0 ≤ 2000) (kz_0_8 : 0 ≤ number_0 ∧ number_0 ≤ 1000000) : (kind_0 ≠ 3) ∨ (number_0 ≤ 9999) := by
  subst fe_0_4_1
  subst fe_0_5_1
  subst fe_0_7_1
  subst fe_0_8_1
  subst fe_0_4_2
  subst fe_0_6_2
  subst fe_0_7_2
  subst fe_0_8_2
  have e_hE_0_3_1 := funext hE_0_3_1; subst e_hE_0_3_1
  have e_hE_0_3_2 := funext hE_0_3_2; subst e_hE_0_3_2
  have e_hE_0_3_3 := funext hE_0_3_3; subst e_hE_0_3_3
  first
    | omega
  
def o_Sy_advance_3 : or_T := (297, 15, [(0, (2, 0, 0, [11])), (2, (2, 0, 0, [11])), (3, (0, 1, 1999, [])), (4, (2, 0, 0, [109])), (5, (0, 1, 1999, [])), (6, (0, 1, 47, [])), (9, (0, 1, 1, [])), (10, (0, 2, 2000, [])), (12, (0, 0, 127, [])), (13, (0, -1, -1, [])), (14, (0, 1, 1, []))], [(9, [14, 2], [6]), (9, [10, 2], [5]), (9, [3, 2], [7]), (9, [5, 2], [4]), (9, [4, 2], [3]), (20, [13, 12], [50, 0, 0, 3, 6, 0, 2, 1, 0, 0, -1, 0, 2, 0, 33, 1, 1]), (22, [12, 6], []), (24, [0, 2], []), (101, [2, 14], [6]), (8, [13], [2]), (20, [13, 12], [50, 0, 0, 3, 6, 0, 2, 1, 0, 0, -1, 0, 2, 0, 33, 1, 1]), (22, [12, 6], []), (8, [6], [4]), (101, [2, 10], [5]), (1, [10, 3, 9], []), (9, [3, 2], [5]), (10, [6, 4, 3], []), (7, [3, 5], [2]), (101, [2, 3], [7]), (7, [3, 5], [3])], [], [], [(20, [0], [50, 2, 0, 6, 8, 3, 7, 7, 3, 2, 0, 6, 0, 3, 0, 3, 2, 0, 8, 0, 9999])], [], [(10, 3, 1, 1), (10, 5, -4294967296, 0), (10, 5, 1, 4294967296), (3, 5, -4294967296, -1), (3, 5, 0, 4294967296)])
theorem oo_Sy_advance_3 {kA : Nat → ClassId} : or_ok PRD kA GG o_Sy_advance_3 := by
  refine or_mk fun A ta ws vs hD hth hl => ?_
  intro t0 r0 t2 r2 t3 k3 t4 r4 t5 k5 t6 k6 t9 k9 t10 k10 t12 k12 t13 k13 t14 k14 d0 d1 d2 d3 d4 f0 f1 f2 f3 f4 f5 f6 f7 ta1 w1 le1 s1 f9 f10 f11 f12 ta2 w2 le2 s2 f14 f15 f16 f17 ta3 w3 le3 s3 f19
  replace f7 := shm_5 f7
  have s1 : (∀ b j, w_el ws b j = w_el w1 b j) ∧ ∀ b j, w_fd ws b j = if b = v_ad (n_v vs 2) ∧ j = 6 then n_v vs 14 else w_fd w1 b j := s1.2
  have s2 : (∀ b j, w_el w1 b j = w_el w2 b j) ∧ ∀ b j, w_fd w1 b j = if b = v_ad (n_v vs 2) ∧ j = 5 then n_v vs 10 else w_fd w2 b j := s2.2
  have s3 : (∀ b j, w_el w2 b j = w_el w3 b j) ∧ ∀ b j, w_fd w2 b j = if b = v_ad (n_v vs 2) ∧ j = 7 then n_v vs 3 else w_fd w3 b j := s3.2
  have q2 : n_v vs 2 = n_v vs 0 := f7.symm
  rw [q2] at s1
  rw [q2] at s2
  rw [q2] at s3
  have fe_0_4_1 : w_fi ws (n_v vs 0) 4 = w_fi w1 (n_v vs 0) 4 := by show v_iv (w_fd _ _ _) = v_iv (w_fd _ _ _); rw [s1.2, if_neg (fun e => absurd e.2 (by decide))]
  have fe_0_5_1 : w_fi ws (n_v vs 0) 5 = w_fi w1 (n_v vs 0) 5 := by show v_iv (w_fd _ _ _) = v_iv (w_fd _ _ _); rw [s1.2, if_neg (fun e => absurd e.2 (by decide))]
  have fe_0_7_1 : w_fi ws (n_v vs 0) 7 = w_fi w1 (n_v vs 0) 7 := by show v_iv (w_fd _ _ _) = v_iv (w_fd _ _ _); rw [s1.2, if_neg (fun e => absurd e.2 (by decide))]
  have fe_0_8_1 : w_fi ws (n_v vs 0) 8 = w_fi w1 (n_v vs 0) 8 := by show v_iv (w_fd _ _ _) = v_iv (w_fd _ _ _); rw [s1.2, if_neg (fun e => absurd e.2 (by decide))]
  have fe_0_4_2 : w_fi w1 (n_v vs 0) 4 = w_fi w2 (n_v vs 0) 4 := by show v_iv (w_fd _ _ _) = v_iv (w_fd _ _ _); rw [s2.2, if_neg (fun e => absurd e.2 (by decide))]
  have fe_0_6_2 : w_fi w1 (n_v vs 0) 6 = w_fi w2 (n_v vs 0) 6 := by show v_iv (w_fd _ _ _) = v_iv (w_fd _ _ _); rw [s2.2, if_neg (fun e => absurd e.2 (by decide))]
  have fe_0_7_2 : w_fi w1 (n_v vs 0) 7 = w_fi w2 (n_v vs 0) 7 := by show v_iv (w_fd _ _ _) = v_iv (w_fd _ _ _); rw [s2.2, if_neg (fun e => absurd e.2 (by decide))]
  have fe_0_8_2 : w_fi w1 (n_v vs 0) 8 = w_fi w2 (n_v vs 0) 8 := by show v_iv (w_fd _ _ _) = v_iv (w_fd _ _ _); rw [s2.2, if_neg (fun e => absurd e.2 (by decide))]
  have hE_0_3_1 : ∀ j : Int, w_ei ws (w_ar ws (n_v vs 0) 3) j = w_ei w1 (w_ar ws (n_v vs 0) 3) j := fun j => s1.1 _ _
  have hE_0_3_2 : ∀ j : Int, w_ei w1 (w_ar ws (n_v vs 0) 3) j = w_ei w2 (w_ar ws (n_v vs 0) 3) j := fun j => s2.1 _ _
  have hE_0_3_3 : ∀ j : Int, w_ei w2 (w_ar ws (n_v vs 0) 3) j = w_ei w3 (w_ar ws (n_v vs 0) 3) j := fun j => s3.1 _ _
  have kz_0_4 := fdq_306 hD hth r0
  have kz_0_5 := fdq_36 hD hth r0
  have kz_0_6 := fdq_304 hD hth r0
  have kz_0_7 := fdq_37 hD hth r0
  have kz_0_8 := fdq_305 hD hth r0
  have nf0 : fc_1 PRD (20, [0], [50, 2, 0, 6, 8, 3, 7, 7, 3, 2, 0, 6, 0, 3, 0, 3, 2, 0, 8, 0, 9999]) ws (vs) := ⟨nf_in hl rfl, sgq_1747 (vc_Sy_advance_3_0 (v_iv (n_v vs 5)) (v_iv (n_v vs 10)) (w_fi ws (n_v vs 0) 6) (w_fi ws (n_v vs 0) 5) (w_fi ws (n_v vs 0) 7) (w_fi ws (n_v vs 0) 4) (w_ei w2 (w_ar ws (n_v vs 0) 3)) (w_fi w1 (n_v vs 0) 4) (w_fi w1 (n_v vs 0) 5) (w_fi w1 (n_v vs 0) 7) (w_fi ws (n_v vs 0) 8) (w_fi w1 (n_v vs 0) 8) (w_fi w2 (n_v vs 0) 4) (w_fi w1 (n_v vs 0) 6) (w_fi w2 (n_v vs 0) 6) (w_fi w2 (n_v vs 0) 7) (w_fi w2 (n_v vs 0) 8) (w_ei ws (w_ar ws (n_v vs 0) 3)) (w_ei w1 (w_ar ws (n_v vs 0) 3)) (w_ei w3 (w_ar ws (n_v vs 0) 3)) k5 k10 d1 d2 fe_0_4_1 fe_0_5_1 fe_0_7_1 fe_0_8_1 fe_0_4_2 fe_0_6_2 fe_0_7_2 fe_0_8_2 hE_0_3_1 hE_0_3_2 hE_0_3_3 kz_0_4 kz_0_5 kz_0_6 kz_0_7 kz_0_8)⟩
  refine ⟨(fun _ h => (by cases h)), [], trivial, ?_, (fun _ h => (by cases h))⟩
  rw [List.append_nil]
  exact List.forall_mem_cons.mpr ⟨⟨show (20 : Nat) < 100 from by decide, nf0⟩, (fun _ h => (by cases h))⟩
set_option maxHeartbeats 4000000 in
theorem vc_Sy_advance_4_0 (x5 : Int) (x10 : Int) (kind_0 : Int) (next_0 : Int) (begin_0 : Int) (end_0 : Int) (bytes_2 : Int → Int) (end_1 : Int) (next_1 : Int) (begin_1 : Int) (number_0 : Int) (number_1 : Int) (end_2 : Int) (kind_1 : Int) (kind_2 : Int) (begin_2 : Int) (number_2 : Int) (bytes_0 : Int → Int) (bytes_1 : Int → Int) (bytes_3 : Int → Int) (k5 : 1 ≤ x5 ∧ x5 ≤ 1999) (k10 : 2 ≤ x10 ∧ x10 ≤ 2000) (d1 : x5 + (-4294967296) ≤ x10 ∧ x10 ≤ x5 + 0) (d2 : x5 + 1 ≤ x10 ∧ x10 ≤ x5 + 4294967296) (fe_0_4_1 : end_0 = end_1) (fe_0_5_1 : next_0 = next_1) (fe_0_7_1 : begin_0 = begin_1) (fe_0_8_1 : number_0 = number_1) (fe_0_4_2 : end_1 = end_2) (fe_0_6_2 : kind_1 = kind_2) (fe_0_7_2 : begin_1 = begin_2) (fe_0_8_2 : number_1 = number_2) (hE_0_3_1 : ∀ j : Int, bytes_0 j = bytes_1 j) (hE_0_3_2 : ∀ j : Int, bytes_1 j = bytes_2 j) (hE_0_3_3 : ∀ j : Int, bytes_2 j = bytes_3 j) (kz_0_4 : 0 ≤ end_0 ∧ end_0 ≤ 2000) (kz_0_5 : 0 ≤ next_0 ∧ next_0 ≤ 2000) (kz_0_6 : 0 ≤ kind_0 ∧ kind_0 ≤ 127) (kz_0_7 : 0 ≤ begin_0 ∧ begin_0 ≤ 2000) (kz_0_8 : 0 ≤ number_0 ∧ number_0 ≤ 1000000) : (kind_0 ≠ 3) ∨ (number_0 ≤ 9999) := by
  subst fe_0_4_1
  subst fe_0_5_1
  subst fe_0_7_1
  subst fe_0_8_1
  subst fe_0_4_2
  subst fe_0_6_2
  subst fe_0_7_2
  subst fe_0_8_2
  have e_hE_0_3_1 := funext hE_0_3_1; subst e_hE_0_3_1
  have e_hE_0_3_2 := funext hE_0_3_2; subst e_hE_0_3_2
  have e_hE_0_3_3 := funext hE_0_3_3; subst e_hE_0_3_3
  first
    | omega
  
def o_Sy_advance_4 : or_T := (297, 14, [(0, (2, 0, 0, [11])), (2, (2, 0, 0, [11])), (3, (0, 1, 1999, [])), (4, (2, 0, 0, [109])), (5, (0, 1, 1999, [])), (6, (0, 1, 47, [])), (9, (0, 1, 1, [])), (10, (0, 2, 2000, [])), (12, (0, 0, 127, [])), (13, (0, 0, 13, []))], [(9, [6, 2], [6]), (9, [10, 2], [5]), (9, [3, 2], [7]), (9, [5, 2], [4]), (9, [4, 2], [3]), (20, [13, 12], [50, 0, 0, 3, 6, 0, 2, 1, 0, 0, -1, 0, 2, 0, 33, 1, 1]), (22, [12, 6], []), (24, [0, 2], []), (101, [2, 6], [6]), (8, [13], [3]), (20, [13, 12], [50, 0, 0, 3, 6, 0, 2, 1, 0, 0, -1, 0, 2, 0, 33, 1, 1]), (22, [12, 6], []), (8, [6], [4]), (101, [2, 10], [5]), (1, [10, 3, 9], []), (9, [3, 2], [5]), (10, [6, 4, 3], []), (7, [3, 5], [2]), (101, [2, 3], [7]), (7, [3, 5], [3])], [], [], [(20, [0], [50, 2, 0, 6, 8, 3, 7, 7, 3, 2, 0, 6, 0, 3, 0, 3, 2, 0, 8, 0, 9999])], [], [(10, 3, 1, 1), (10, 5, -4294967296, 0), (10, 5, 1, 4294967296), (3, 5, -4294967296, -1), (3, 5, 0, 4294967296)])
theorem oo_Sy_advance_4 {kA : Nat → ClassId} : or_ok PRD kA GG o_Sy_advance_4 := by
  refine or_mk fun A ta ws vs hD hth hl => ?_
  intro t0 r0 t2 r2 t3 k3 t4 r4 t5 k5 t6 k6 t9 k9 t10 k10 t12 k12 t13 k13 d0 d1 d2 d3 d4 f0 f1 f2 f3 f4 f5 f6 f7 ta1 w1 le1 s1 f9 f10 f11 f12 ta2 w2 le2 s2 f14 f15 f16 f17 ta3 w3 le3 s3 f19
  replace f7 := shm_5 f7
  have s1 : (∀ b j, w_el ws b j = w_el w1 b j) ∧ ∀ b j, w_fd ws b j = if b = v_ad (n_v vs 2) ∧ j = 6 then n_v vs 6 else w_fd w1 b j := s1.2
  have s2 : (∀ b j, w_el w1 b j = w_el w2 b j) ∧ ∀ b j, w_fd w1 b j = if b = v_ad (n_v vs 2) ∧ j = 5 then n_v vs 10 else w_fd w2 b j := s2.2
  have s3 : (∀ b j, w_el w2 b j = w_el w3 b j) ∧ ∀ b j, w_fd w2 b j = if b = v_ad (n_v vs 2) ∧ j = 7 then n_v vs 3 else w_fd w3 b j := s3.2
  have q2 : n_v vs 2 = n_v vs 0 := f7.symm
  rw [q2] at s1
  rw [q2] at s2
  rw [q2] at s3
  have fe_0_4_1 : w_fi ws (n_v vs 0) 4 = w_fi w1 (n_v vs 0) 4 := by show v_iv (w_fd _ _ _) = v_iv (w_fd _ _ _); rw [s1.2, if_neg (fun e => absurd e.2 (by decide))]
  have fe_0_5_1 : w_fi ws (n_v vs 0) 5 = w_fi w1 (n_v vs 0) 5 := by show v_iv (w_fd _ _ _) = v_iv (w_fd _ _ _); rw [s1.2, if_neg (fun e => absurd e.2 (by decide))]
  have fe_0_7_1 : w_fi ws (n_v vs 0) 7 = w_fi w1 (n_v vs 0) 7 := by show v_iv (w_fd _ _ _) = v_iv (w_fd _ _ _); rw [s1.2, if_neg (fun e => absurd e.2 (by decide))]
  have fe_0_8_1 : w_fi ws (n_v vs 0) 8 = w_fi w1 (n_v vs 0) 8 := by show v_iv (w_fd _ _ _) = v_iv (w_fd _ _ _); rw [s1.2, if_neg (fun e => absurd e.2 (by decide))]
  have fe_0_4_2 : w_fi w1 (n_v vs 0) 4 = w_fi w2 (n_v vs 0) 4 := by show v_iv (w_fd _ _ _) = v_iv (w_fd _ _ _); rw [s2.2, if_neg (fun e => absurd e.2 (by decide))]
  have fe_0_6_2 : w_fi w1 (n_v vs 0) 6 = w_fi w2 (n_v vs 0) 6 := by show v_iv (w_fd _ _ _) = v_iv (w_fd _ _ _); rw [s2.2, if_neg (fun e => absurd e.2 (by decide))]
  have fe_0_7_2 : w_fi w1 (n_v vs 0) 7 = w_fi w2 (n_v vs 0) 7 := by show v_iv (w_fd _ _ _) = v_iv (w_fd _ _ _); rw [s2.2, if_neg (fun e => absurd e.2 (by decide))]
  have fe_0_8_2 : w_fi w1 (n_v vs 0) 8 = w_fi w2 (n_v vs 0) 8 := by show v_iv (w_fd _ _ _) = v_iv (w_fd _ _ _); rw [s2.2, if_neg (fun e => absurd e.2 (by decide))]
  have hE_0_3_1 : ∀ j : Int, w_ei ws (w_ar ws (n_v vs 0) 3) j = w_ei w1 (w_ar ws (n_v vs 0) 3) j := fun j => s1.1 _ _
  have hE_0_3_2 : ∀ j : Int, w_ei w1 (w_ar ws (n_v vs 0) 3) j = w_ei w2 (w_ar ws (n_v vs 0) 3) j := fun j => s2.1 _ _
  have hE_0_3_3 : ∀ j : Int, w_ei w2 (w_ar ws (n_v vs 0) 3) j = w_ei w3 (w_ar ws (n_v vs 0) 3) j := fun j => s3.1 _ _
  have kz_0_4 := fdq_306 hD hth r0
  have kz_0_5 := fdq_36 hD hth r0
  have kz_0_6 := fdq_304 hD hth r0
  have kz_0_7 := fdq_37 hD hth r0
  have kz_0_8 := fdq_305 hD hth r0
  have nf0 : fc_1 PRD (20, [0], [50, 2, 0, 6, 8, 3, 7, 7, 3, 2, 0, 6, 0, 3, 0, 3, 2, 0, 8, 0, 9999]) ws (vs) := ⟨nf_in hl rfl, sgq_1747 (vc_Sy_advance_4_0 (v_iv (n_v vs 5)) (v_iv (n_v vs 10)) (w_fi ws (n_v vs 0) 6) (w_fi ws (n_v vs 0) 5) (w_fi ws (n_v vs 0) 7) (w_fi ws (n_v vs 0) 4) (w_ei w2 (w_ar ws (n_v vs 0) 3)) (w_fi w1 (n_v vs 0) 4) (w_fi w1 (n_v vs 0) 5) (w_fi w1 (n_v vs 0) 7) (w_fi ws (n_v vs 0) 8) (w_fi w1 (n_v vs 0) 8) (w_fi w2 (n_v vs 0) 4) (w_fi w1 (n_v vs 0) 6) (w_fi w2 (n_v vs 0) 6) (w_fi w2 (n_v vs 0) 7) (w_fi w2 (n_v vs 0) 8) (w_ei ws (w_ar ws (n_v vs 0) 3)) (w_ei w1 (w_ar ws (n_v vs 0) 3)) (w_ei w3 (w_ar ws (n_v vs 0) 3)) k5 k10 d1 d2 fe_0_4_1 fe_0_5_1 fe_0_7_1 fe_0_8_1 fe_0_4_2 fe_0_6_2 fe_0_7_2 fe_0_8_2 hE_0_3_1 hE_0_3_2 hE_0_3_3 kz_0_4 kz_0_5 kz_0_6 kz_0_7 kz_0_8)⟩
  refine ⟨(fun _ h => (by cases h)), [], trivial, ?_, (fun _ h => (by cases h))⟩
  rw [List.append_nil]
  exact List.forall_mem_cons.mpr ⟨⟨show (20 : Nat) < 100 from by decide, nf0⟩, (fun _ h => (by cases h))⟩
set_option maxHeartbeats 4000000 in
theorem vc_Sy_advance_5_r0 (x5 : Int) (x10 : Int) (x12 : Int) (begin_0 : Int) (end_0 : Int) (bytes_1 : Int → Int) (end_1 : Int) (begin_1 : Int) (bytes_0 : Int → Int) (bytes_2 : Int → Int) (k5 : 1 ≤ x5 ∧ x5 ≤ 1999) (k10 : 2 ≤ x10 ∧ x10 ≤ 2000) (k12 : 0 ≤ x12 ∧ x12 ≤ 65535) (d1 : x5 + (-4294967296) ≤ x10 ∧ x10 ≤ x5 + 0) (d2 : x5 + 1 ≤ x10 ∧ x10 ≤ x5 + 4294967296) (fe_0_4_1 : end_0 = end_1) (fe_0_7_1 : begin_0 = begin_1) (hE_0_3_1 : ∀ j : Int, bytes_0 j = bytes_1 j) (hE_0_3_2 : ∀ j : Int, bytes_1 j = bytes_2 j) (kz_0_4 : 0 ≤ end_0 ∧ end_0 ≤ 2000) (kz_0_7 : 0 ≤ begin_0 ∧ begin_0 ≤ 2000) : 0 ≤ x12 ∧ x12 ≤ 127 := by
  subst fe_0_4_1
  subst fe_0_7_1
  have e_hE_0_3_1 := funext hE_0_3_1; subst e_hE_0_3_1
  have e_hE_0_3_2 := funext hE_0_3_2; subst e_hE_0_3_2
  first
    | omega
  
def o_Sy_advance_5 : or_T := (283, 13, [(0, (2, 0, 0, [11])), (2, (2, 0, 0, [11])), (3, (0, 1, 1999, [])), (4, (2, 0, 0, [109])), (5, (0, 1, 1999, [])), (6, (0, 58, 96, [])), (9, (0, 1, 1, [])), (10, (0, 2, 2000, [])), (12, (0, 0, 65535, []))], [(9, [10, 2], [5]), (9, [3, 2], [7]), (9, [5, 2], [4]), (9, [4, 2], [3]), (22, [12, 6], []), (8, [6], [4]), (24, [0, 2], []), (101, [2, 10], [5]), (1, [10, 3, 9], []), (9, [3, 2], [5]), (10, [6, 4, 3], []), (7, [3, 5], [2]), (101, [2, 3], [7]), (7, [3, 5], [3])], [(12, (0, 0, 127, []))], [], [], [], [(10, 3, 1, 1), (10, 5, -4294967296, 0), (10, 5, 1, 4294967296), (3, 5, -4294967296, -1), (3, 5, 0, 4294967296)])
theorem oo_Sy_advance_5 {kA : Nat → ClassId} : or_ok PRD kA GG o_Sy_advance_5 := by
  refine or_mk fun A ta ws vs hD hth hl => ?_
  intro t0 r0 t2 r2 t3 k3 t4 r4 t5 k5 t6 k6 t9 k9 t10 k10 t12 k12 d0 d1 d2 d3 d4 f0 f1 f2 f3 f4 f5 f6 ta1 w1 le1 s1 f8 f9 f10 f11 ta2 w2 le2 s2 f13
  replace f6 := shm_5 f6
  have s1 : (∀ b j, w_el ws b j = w_el w1 b j) ∧ ∀ b j, w_fd ws b j = if b = v_ad (n_v vs 2) ∧ j = 5 then n_v vs 10 else w_fd w1 b j := s1.2
  have s2 : (∀ b j, w_el w1 b j = w_el w2 b j) ∧ ∀ b j, w_fd w1 b j = if b = v_ad (n_v vs 2) ∧ j = 7 then n_v vs 3 else w_fd w2 b j := s2.2
  have q2 : n_v vs 2 = n_v vs 0 := f6.symm
  rw [q2] at s1
  rw [q2] at s2
  have fe_0_4_1 : w_fi ws (n_v vs 0) 4 = w_fi w1 (n_v vs 0) 4 := by show v_iv (w_fd _ _ _) = v_iv (w_fd _ _ _); rw [s1.2, if_neg (fun e => absurd e.2 (by decide))]
  have fe_0_7_1 : w_fi ws (n_v vs 0) 7 = w_fi w1 (n_v vs 0) 7 := by show v_iv (w_fd _ _ _) = v_iv (w_fd _ _ _); rw [s1.2, if_neg (fun e => absurd e.2 (by decide))]
  have hE_0_3_1 : ∀ j : Int, w_ei ws (w_ar ws (n_v vs 0) 3) j = w_ei w1 (w_ar ws (n_v vs 0) 3) j := fun j => s1.1 _ _
  have hE_0_3_2 : ∀ j : Int, w_ei w1 (w_ar ws (n_v vs 0) 3) j = w_ei w2 (w_ar ws (n_v vs 0) 3) j := fun j => s2.1 _ _
  have kz_0_4 := fdq_306 hD hth r0
  have kz_0_7 := fdq_37 hD hth r0
  have hrf0 : 0 ≤ v_iv (n_v vs 12) ∧ v_iv (n_v vs 12) ≤ 127 := vc_Sy_advance_5_r0 (v_iv (n_v vs 5)) (v_iv (n_v vs 10)) (v_iv (n_v vs 12)) (w_fi ws (n_v vs 0) 7) (w_fi ws (n_v vs 0) 4) (w_ei w1 (w_ar ws (n_v vs 0) 3)) (w_fi w1 (n_v vs 0) 4) (w_fi w1 (n_v vs 0) 7) (w_ei ws (w_ar ws (n_v vs 0) 3)) (w_ei w2 (w_ar ws (n_v vs 0) 3)) k5 k10 k12 d1 d2 fe_0_4_1 fe_0_7_1 hE_0_3_1 hE_0_3_2 kz_0_4 kz_0_7
  have rf12 : tv_ok ta (0, 0, 127, []) (n_v vs 12) := tv_in t12 (by omega) (by omega)
  refine ⟨List.forall_mem_cons.mpr ⟨rf12, (fun _ h => (by cases h))⟩, [], trivial, ?_, (fun _ h => (by cases h))⟩
  rw [List.append_nil]
  exact (fun _ h => (by cases h))
set_option maxHeartbeats 4000000 in
theorem vc_Sy_advance_6_0 (x5 : Int) (x10 : Int) (kind_0 : Int) (next_0 : Int) (begin_0 : Int) (end_0 : Int) (bytes_2 : Int → Int) (end_1 : Int) (next_1 : Int) (begin_1 : Int) (number_0 : Int) (number_1 : Int) (end_2 : Int) (kind_1 : Int) (kind_2 : Int) (begin_2 : Int) (number_2 : Int) (bytes_0 : Int → Int) (bytes_1 : Int → Int) (bytes_3 : Int → Int) (k5 : 1 ≤ x5 ∧ x5 ≤ 1999) (k10 : 2 ≤ x10 ∧ x10 ≤ 2000) (d1 : x5 + (-4294967296) ≤ x10 ∧ x10 ≤ x5 + 0) (d2 : x5 + 1 ≤ x10 ∧ x10 ≤ x5 + 4294967296) (fe_0_4_1 : end_0 = end_1) (fe_0_5_1 : next_0 = next_1) (fe_0_7_1 : begin_0 = begin_1) (fe_0_8_1 : number_0 = number_1) (fe_0_4_2 : end_1 = end_2) (fe_0_6_2 : kind_1 = kind_2) (fe_0_7_2 : begin_1 = begin_2) (fe_0_8_2 : number_1 = number_2) (hE_0_3_1 : ∀ j : Int, bytes_0 j = bytes_1 j) (hE_0_3_2 : ∀ j : Int, bytes_1 j = bytes_2 j) (hE_0_3_3 : ∀ j : Int, bytes_2 j = bytes_3 j) (kz_0_4 : 0 ≤ end_0 ∧ end_0 ≤ 2000) (kz_0_5 : 0 ≤ next_0 ∧ next_0 ≤ 2000) (kz_0_6 : 0 ≤ kind_0 ∧ kind_0 ≤ 127) (kz_0_7 : 0 ≤ begin_0 ∧ begin_0 ≤ 2000) (kz_0_8 : 0 ≤ number_0 ∧ number_0 ≤ 1000000) : (kind_0 ≠ 3) ∨ (number_0 ≤ 9999) := by
  subst fe_0_4_1
  subst fe_0_5_1
  subst fe_0_7_1
  subst fe_0_8_1
  subst fe_0_4_2
  subst fe_0_6_2
  subst fe_0_7_2
  subst fe_0_8_2
  have e_hE_0_3_1 := funext hE_0_3_1; subst e_hE_0_3_1
  have e_hE_0_3_2 := funext hE_0_3_2; subst e_hE_0_3_2
  have e_hE_0_3_3 := funext hE_0_3_3; subst e_hE_0_3_3
  first
    | omega
  
def o_Sy_advance_6 : or_T := (297, 15, [(0, (2, 0, 0, [11])), (2, (2, 0, 0, [11])), (3, (0, 1, 1999, [])), (4, (2, 0, 0, [109])), (5, (0, 1, 1999, [])), (6, (0, 58, 96, [])), (9, (0, 1, 1, [])), (10, (0, 2, 2000, [])), (12, (0, 0, 127, [])), (13, (0, -1, -1, [])), (14, (0, 1, 1, []))], [(9, [14, 2], [6]), (9, [10, 2], [5]), (9, [3, 2], [7]), (9, [5, 2], [4]), (9, [4, 2], [3]), (20, [13, 12], [50, 0, 0, 3, 6, 0, 2, 1, 0, 0, -1, 0, 2, 0, 33, 1, 1]), (22, [12, 6], []), (24, [0, 2], []), (101, [2, 14], [6]), (8, [13], [2]), (20, [13, 12], [50, 0, 0, 3, 6, 0, 2, 1, 0, 0, -1, 0, 2, 0, 33, 1, 1]), (22, [12, 6], []), (8, [6], [4]), (101, [2, 10], [5]), (1, [10, 3, 9], []), (9, [3, 2], [5]), (10, [6, 4, 3], []), (7, [3, 5], [2]), (101, [2, 3], [7]), (7, [3, 5], [3])], [], [], [(20, [0], [50, 2, 0, 6, 8, 3, 7, 7, 3, 2, 0, 6, 0, 3, 0, 3, 2, 0, 8, 0, 9999])], [], [(10, 3, 1, 1), (10, 5, -4294967296, 0), (10, 5, 1, 4294967296), (3, 5, -4294967296, -1), (3, 5, 0, 4294967296)])
theorem oo_Sy_advance_6 {kA : Nat → ClassId} : or_ok PRD kA GG o_Sy_advance_6 := by
  refine or_mk fun A ta ws vs hD hth hl => ?_
  intro t0 r0 t2 r2 t3 k3 t4 r4 t5 k5 t6 k6 t9 k9 t10 k10 t12 k12 t13 k13 t14 k14 d0 d1 d2 d3 d4 f0 f1 f2 f3 f4 f5 f6 f7 ta1 w1 le1 s1 f9 f10 f11 f12 ta2 w2 le2 s2 f14 f15 f16 f17 ta3 w3 le3 s3 f19
  replace f7 := shm_5 f7
  have s1 : (∀ b j, w_el ws b j = w_el w1 b j) ∧ ∀ b j, w_fd ws b j = if b = v_ad (n_v vs 2) ∧ j = 6 then n_v vs 14 else w_fd w1 b j := s1.2
  have s2 : (∀ b j, w_el w1 b j = w_el w2 b j) ∧ ∀ b j, w_fd w1 b j = if b = v_ad (n_v vs 2) ∧ j = 5 then n_v vs 10 else w_fd w2 b j := s2.2
  have s3 : (∀ b j, w_el w2 b j = w_el w3 b j) ∧ ∀ b j, w_fd w2 b j = if b = v_ad (n_v vs 2) ∧ j = 7 then n_v vs 3 else w_fd w3 b j := s3.2
  have q2 : n_v vs 2 = n_v vs 0 := f7.symm
  rw [q2] at s1
  rw [q2] at s2
  rw [q2] at s3
  have fe_0_4_1 : w_fi ws (n_v vs 0) 4 = w_fi w1 (n_v vs 0) 4 := by show v_iv (w_fd _ _ _) = v_iv (w_fd _ _ _); rw [s1.2, if_neg (fun e => absurd e.2 (by decide))]
  have fe_0_5_1 : w_fi ws (n_v vs 0) 5 = w_fi w1 (n_v vs 0) 5 := by show v_iv (w_fd _ _ _) = v_iv (w_fd _ _ _); rw [s1.2, if_neg (fun e => absurd e.2 (by decide))]
  have fe_0_7_1 : w_fi ws (n_v vs 0) 7 = w_fi w1 (n_v vs 0) 7 := by show v_iv (w_fd _ _ _) = v_iv (w_fd _ _ _); rw [s1.2, if_neg (fun e => absurd e.2 (by decide))]
  have fe_0_8_1 : w_fi ws (n_v vs 0) 8 = w_fi w1 (n_v vs 0) 8 := by show v_iv (w_fd _ _ _) = v_iv (w_fd _ _ _); rw [s1.2, if_neg (fun e => absurd e.2 (by decide))]
  have fe_0_4_2 : w_fi w1 (n_v vs 0) 4 = w_fi w2 (n_v vs 0) 4 := by show v_iv (w_fd _ _ _) = v_iv (w_fd _ _ _); rw [s2.2, if_neg (fun e => absurd e.2 (by decide))]
  have fe_0_6_2 : w_fi w1 (n_v vs 0) 6 = w_fi w2 (n_v vs 0) 6 := by show v_iv (w_fd _ _ _) = v_iv (w_fd _ _ _); rw [s2.2, if_neg (fun e => absurd e.2 (by decide))]
  have fe_0_7_2 : w_fi w1 (n_v vs 0) 7 = w_fi w2 (n_v vs 0) 7 := by show v_iv (w_fd _ _ _) = v_iv (w_fd _ _ _); rw [s2.2, if_neg (fun e => absurd e.2 (by decide))]
  have fe_0_8_2 : w_fi w1 (n_v vs 0) 8 = w_fi w2 (n_v vs 0) 8 := by show v_iv (w_fd _ _ _) = v_iv (w_fd _ _ _); rw [s2.2, if_neg (fun e => absurd e.2 (by decide))]
  have hE_0_3_1 : ∀ j : Int, w_ei ws (w_ar ws (n_v vs 0) 3) j = w_ei w1 (w_ar ws (n_v vs 0) 3) j := fun j => s1.1 _ _
  have hE_0_3_2 : ∀ j : Int, w_ei w1 (w_ar ws (n_v vs 0) 3) j = w_ei w2 (w_ar ws (n_v vs 0) 3) j := fun j => s2.1 _ _
  have hE_0_3_3 : ∀ j : Int, w_ei w2 (w_ar ws (n_v vs 0) 3) j = w_ei w3 (w_ar ws (n_v vs 0) 3) j := fun j => s3.1 _ _
  have kz_0_4 := fdq_306 hD hth r0
  have kz_0_5 := fdq_36 hD hth r0
  have kz_0_6 := fdq_304 hD hth r0
  have kz_0_7 := fdq_37 hD hth r0
  have kz_0_8 := fdq_305 hD hth r0
  have nf0 : fc_1 PRD (20, [0], [50, 2, 0, 6, 8, 3, 7, 7, 3, 2, 0, 6, 0, 3, 0, 3, 2, 0, 8, 0, 9999]) ws (vs) := ⟨nf_in hl rfl, sgq_1747 (vc_Sy_advance_6_0 (v_iv (n_v vs 5)) (v_iv (n_v vs 10)) (w_fi ws (n_v vs 0) 6) (w_fi ws (n_v vs 0) 5) (w_fi ws (n_v vs 0) 7) (w_fi ws (n_v vs 0) 4) (w_ei w2 (w_ar ws (n_v vs 0) 3)) (w_fi w1 (n_v vs 0) 4) (w_fi w1 (n_v vs 0) 5) (w_fi w1 (n_v vs 0) 7) (w_fi ws (n_v vs 0) 8) (w_fi w1 (n_v vs 0) 8) (w_fi w2 (n_v vs 0) 4) (w_fi w1 (n_v vs 0) 6) (w_fi w2 (n_v vs 0) 6) (w_fi w2 (n_v vs 0) 7) (w_fi w2 (n_v vs 0) 8) (w_ei ws (w_ar ws (n_v vs 0) 3)) (w_ei w1 (w_ar ws (n_v vs 0) 3)) (w_ei w3 (w_ar ws (n_v vs 0) 3)) k5 k10 d1 d2 fe_0_4_1 fe_0_5_1 fe_0_7_1 fe_0_8_1 fe_0_4_2 fe_0_6_2 fe_0_7_2 fe_0_8_2 hE_0_3_1 hE_0_3_2 hE_0_3_3 kz_0_4 kz_0_5 kz_0_6 kz_0_7 kz_0_8)⟩
  refine ⟨(fun _ h => (by cases h)), [], trivial, ?_, (fun _ h => (by cases h))⟩
  rw [List.append_nil]
  exact List.forall_mem_cons.mpr ⟨⟨show (20 : Nat) < 100 from by decide, nf0⟩, (fun _ h => (by cases h))⟩
set_option maxHeartbeats 4000000 in
theorem vc_Sy_advance_7_0 (x5 : Int) (x10 : Int) (kind_0 : Int) (next_0 : Int) (begin_0 : Int) (end_0 : Int) (bytes_2 : Int → Int) (end_1 : Int) (next_1 : Int) (begin_1 : Int) (number_0 : Int) (number_1 : Int) (end_2 : Int) (kind_1 : Int) (kind_2 : Int) (begin_2 : Int) (number_2 : Int) (bytes_0 : Int → Int) (bytes_1 : Int → Int) (bytes_3 : Int → Int) (k5 : 1 ≤ x5 ∧ x5 ≤ 1999) (k10 : 2 ≤ x10 ∧ x10 ≤ 2000) (d1 : x5 + (-4294967296) ≤ x10 ∧ x10 ≤ x5 + 0) (d2 : x5 + 1 ≤ x10 ∧ x10 ≤ x5 + 4294967296) (fe_0_4_1 : end_0 = end_1) (fe_0_5_1 : next_0 = next_1) (fe_0_7_1 : begin_0 = begin_1) (fe_0_8_1 : number_0 = number_1) (fe_0_4_2 : end_1 = end_2) (fe_0_6_2 : kind_1 = kind_2) (fe_0_7_2 : begin_1 = begin_2) (fe_0_8_2 : number_1 = number_2) (hE_0_3_1 : ∀ j : Int, bytes_0 j = bytes_1 j) (hE_0_3_2 : ∀ j : Int, bytes_1 j = bytes_2 j) (hE_0_3_3 : ∀ j : Int, bytes_2 j = bytes_3 j) (kz_0_4 : 0 ≤ end_0 ∧ end_0 ≤ 2000) (kz_0_5 : 0 ≤ next_0 ∧ next_0 ≤ 2000) (kz_0_6 : 0 ≤ kind_0 ∧ kind_0 ≤ 127) (kz_0_7 : 0 ≤ begin_0 ∧ begin_0 ≤ 2000) (kz_0_8 : 0 ≤ number_0 ∧ number_0 ≤ 1000000) : (kind_0 ≠ 3) ∨ (number_0 ≤ 9999) := by
  subst fe_0_4_1
  subst fe_0_5_1
  subst fe_0_7_1
  subst fe_0_8_1
  subst fe_0_4_2
  subst fe_0_6_2
  subst fe_0_7_2
  subst fe_0_8_2
  have e_hE_0_3_1 := funext hE_0_3_1; subst e_hE_0_3_1
  have e_hE_0_3_2 := funext hE_0_3_2; subst e_hE_0_3_2
  have e_hE_0_3_3 := funext hE_0_3_3; subst e_hE_0_3_3
  first
    | omega
  
def o_Sy_advance_7 : or_T := (297, 14, [(0, (2, 0, 0, [11])), (2, (2, 0, 0, [11])), (3, (0, 1, 1999, [])), (4, (2, 0, 0, [109])), (5, (0, 1, 1999, [])), (6, (0, 58, 96, [])), (9, (0, 1, 1, [])), (10, (0, 2, 2000, [])), (12, (0, 0, 127, [])), (13, (0, 0, 13, []))], [(9, [6, 2], [6]), (9, [10, 2], [5]), (9, [3, 2], [7]), (9, [5, 2], [4]), (9, [4, 2], [3]), (20, [13, 12], [50, 0, 0, 3, 6, 0, 2, 1, 0, 0, -1, 0, 2, 0, 33, 1, 1]), (22, [12, 6], []), (24, [0, 2], []), (101, [2, 6], [6]), (8, [13], [3]), (20, [13, 12], [50, 0, 0, 3, 6, 0, 2, 1, 0, 0, -1, 0, 2, 0, 33, 1, 1]), (22, [12, 6], []), (8, [6], [4]), (101, [2, 10], [5]), (1, [10, 3, 9], []), (9, [3, 2], [5]), (10, [6, 4, 3], []), (7, [3, 5], [2]), (101, [2, 3], [7]), (7, [3, 5], [3])], [], [], [(20, [0], [50, 2, 0, 6, 8, 3, 7, 7, 3, 2, 0, 6, 0, 3, 0, 3, 2, 0, 8, 0, 9999])], [], [(10, 3, 1, 1), (10, 5, -4294967296, 0), (10, 5, 1, 4294967296), (3, 5, -4294967296, -1), (3, 5, 0, 4294967296)])
theorem oo_Sy_advance_7 {kA : Nat → ClassId} : or_ok PRD kA GG o_Sy_advance_7 := by
  refine or_mk fun A ta ws vs hD hth hl => ?_
  intro t0 r0 t2 r2 t3 k3 t4 r4 t5 k5 t6 k6 t9 k9 t10 k10 t12 k12 t13 k13 d0 d1 d2 d3 d4 f0 f1 f2 f3 f4 f5 f6 f7 ta1 w1 le1 s1 f9 f10 f11 f12 ta2 w2 le2 s2 f14 f15 f16 f17 ta3 w3 le3 s3 f19
  replace f7 := shm_5 f7
  have s1 : (∀ b j, w_el ws b j = w_el w1 b j) ∧ ∀ b j, w_fd ws b j = if b = v_ad (n_v vs 2) ∧ j = 6 then n_v vs 6 else w_fd w1 b j := s1.2
  have s2 : (∀ b j, w_el w1 b j = w_el w2 b j) ∧ ∀ b j, w_fd w1 b j = if b = v_ad (n_v vs 2) ∧ j = 5 then n_v vs 10 else w_fd w2 b j := s2.2
  have s3 : (∀ b j, w_el w2 b j = w_el w3 b j) ∧ ∀ b j, w_fd w2 b j = if b = v_ad (n_v vs 2) ∧ j = 7 then n_v vs 3 else w_fd w3 b j := s3.2
  have q2 : n_v vs 2 = n_v vs 0 := f7.symm
  rw [q2] at s1
  rw [q2] at s2
  rw [q2] at s3
  have fe_0_4_1 : w_fi ws (n_v vs 0) 4 = w_fi w1 (n_v vs 0) 4 := by show v_iv (w_fd _ _ _) = v_iv (w_fd _ _ _); rw [s1.2, if_neg (fun e => absurd e.2 (by decide))]
  have fe_0_5_1 : w_fi ws (n_v vs 0) 5 = w_fi w1 (n_v vs 0) 5 := by show v_iv (w_fd _ _ _) = v_iv (w_fd _ _ _); rw [s1.2, if_neg (fun e => absurd e.2 (by decide))]
  have fe_0_7_1 : w_fi ws (n_v vs 0) 7 = w_fi w1 (n_v vs 0) 7 := by show v_iv (w_fd _ _ _) = v_iv (w_fd _ _ _); rw [s1.2, if_neg (fun e => absurd e.2 (by decide))]
  have fe_0_8_1 : w_fi ws (n_v vs 0) 8 = w_fi w1 (n_v vs 0) 8 := by show v_iv (w_fd _ _ _) = v_iv (w_fd _ _ _); rw [s1.2, if_neg (fun e => absurd e.2 (by decide))]
  have fe_0_4_2 : w_fi w1 (n_v vs 0) 4 = w_fi w2 (n_v vs 0) 4 := by show v_iv (w_fd _ _ _) = v_iv (w_fd _ _ _); rw [s2.2, if_neg (fun e => absurd e.2 (by decide))]
  have fe_0_6_2 : w_fi w1 (n_v vs 0) 6 = w_fi w2 (n_v vs 0) 6 := by show v_iv (w_fd _ _ _) = v_iv (w_fd _ _ _); rw [s2.2, if_neg (fun e => absurd e.2 (by decide))]
  have fe_0_7_2 : w_fi w1 (n_v vs 0) 7 = w_fi w2 (n_v vs 0) 7 := by show v_iv (w_fd _ _ _) = v_iv (w_fd _ _ _); rw [s2.2, if_neg (fun e => absurd e.2 (by decide))]
  have fe_0_8_2 : w_fi w1 (n_v vs 0) 8 = w_fi w2 (n_v vs 0) 8 := by show v_iv (w_fd _ _ _) = v_iv (w_fd _ _ _); rw [s2.2, if_neg (fun e => absurd e.2 (by decide))]
  have hE_0_3_1 : ∀ j : Int, w_ei ws (w_ar ws (n_v vs 0) 3) j = w_ei w1 (w_ar ws (n_v vs 0) 3) j := fun j => s1.1 _ _
  have hE_0_3_2 : ∀ j : Int, w_ei w1 (w_ar ws (n_v vs 0) 3) j = w_ei w2 (w_ar ws (n_v vs 0) 3) j := fun j => s2.1 _ _
  have hE_0_3_3 : ∀ j : Int, w_ei w2 (w_ar ws (n_v vs 0) 3) j = w_ei w3 (w_ar ws (n_v vs 0) 3) j := fun j => s3.1 _ _
  have kz_0_4 := fdq_306 hD hth r0
  have kz_0_5 := fdq_36 hD hth r0
  have kz_0_6 := fdq_304 hD hth r0
  have kz_0_7 := fdq_37 hD hth r0
  have kz_0_8 := fdq_305 hD hth r0
  have nf0 : fc_1 PRD (20, [0], [50, 2, 0, 6, 8, 3, 7, 7, 3, 2, 0, 6, 0, 3, 0, 3, 2, 0, 8, 0, 9999]) ws (vs) := ⟨nf_in hl rfl, sgq_1747 (vc_Sy_advance_7_0 (v_iv (n_v vs 5)) (v_iv (n_v vs 10)) (w_fi ws (n_v vs 0) 6) (w_fi ws (n_v vs 0) 5) (w_fi ws (n_v vs 0) 7) (w_fi ws (n_v vs 0) 4) (w_ei w2 (w_ar ws (n_v vs 0) 3)) (w_fi w1 (n_v vs 0) 4) (w_fi w1 (n_v vs 0) 5) (w_fi w1 (n_v vs 0) 7) (w_fi ws (n_v vs 0) 8) (w_fi w1 (n_v vs 0) 8) (w_fi w2 (n_v vs 0) 4) (w_fi w1 (n_v vs 0) 6) (w_fi w2 (n_v vs 0) 6) (w_fi w2 (n_v vs 0) 7) (w_fi w2 (n_v vs 0) 8) (w_ei ws (w_ar ws (n_v vs 0) 3)) (w_ei w1 (w_ar ws (n_v vs 0) 3)) (w_ei w3 (w_ar ws (n_v vs 0) 3)) k5 k10 d1 d2 fe_0_4_1 fe_0_5_1 fe_0_7_1 fe_0_8_1 fe_0_4_2 fe_0_6_2 fe_0_7_2 fe_0_8_2 hE_0_3_1 hE_0_3_2 hE_0_3_3 kz_0_4 kz_0_5 kz_0_6 kz_0_7 kz_0_8)⟩
  refine ⟨(fun _ h => (by cases h)), [], trivial, ?_, (fun _ h => (by cases h))⟩
  rw [List.append_nil]
  exact List.forall_mem_cons.mpr ⟨⟨show (20 : Nat) < 100 from by decide, nf0⟩, (fun _ h => (by cases h))⟩
set_option maxHeartbeats 4000000 in
theorem vc_Sy_advance_8_0 (x3 : Int) (x5 : Int) (number_0 : Int) (begin_0 : Int) (end_0 : Int) (next_0 : Int) (end_1 : Int) (next_1 : Int) (begin_1 : Int) (k3 : 1 ≤ x3 ∧ x3 ≤ 1999) (k5 : 1 ≤ x5 ∧ x5 ≤ 1999) (d0 : x5 + (-4294967296) ≤ x3 ∧ x3 ≤ x5 + (-1)) (d1 : x5 + 0 ≤ x3 ∧ x3 ≤ x5 + 4294967296) (fe_0_4_1 : end_0 = end_1) (fe_0_5_1 : next_0 = next_1) (fe_0_7_1 : begin_0 = begin_1) (kz_0_4 : 0 ≤ end_0 ∧ end_0 ≤ 2000) (kz_0_5 : 0 ≤ next_0 ∧ next_0 ≤ 2000) (kz_0_7 : 0 ≤ begin_0 ∧ begin_0 ≤ 2000) (kz_0_8 : 0 ≤ number_0 ∧ number_0 ≤ 1000000) : (0 ≤ number_0) ∧ ((begin_0 ≤ next_0) ∧ ((((next_0 - begin_0) ≤ 0) → (number_0 ≤ 0)) ∧ ((((next_0 - begin_0) ≤ 1) → (number_0 ≤ 9)) ∧ ((((next_0 - begin_0) ≤ 2) → (number_0 ≤ 99)) ∧ ((((next_0 - begin_0) ≤ 3) → (number_0 ≤ 999)) ∧ (((next_0 - begin_0) ≤ 4) → (number_0 ≤ 9999))))))) := by
  subst fe_0_4_1
  subst fe_0_5_1
  subst fe_0_7_1
  first
    | omega
  
def o_Sy_advance_8 : or_T := (171, 10, [(0, (2, 0, 0, [11])), (3, (0, 1, 1999, [])), (5, (0, 1, 1999, []))], [(24, [0, 2], []), (101, [2, 9], [8])], [], [], [(20, [2], [50, 3, 0, 8, 7, 5, 2, 7, 0, 2, 0, 0, 2, 0, 8, 2, 8, 0, 3, 2, 0, 7, 2, 0, 5, 2, 21, 4, 12, 0, 8, 5, 3, 2, 0, 5, 2, 0, 7, 0, 0, 0, 3, 2, 0, 8, 0, 0, 2, 21, 4, 12, 0, 8, 5, 3, 2, 0, 5, 2, 0, 7, 0, 1, 0, 3, 2, 0, 8, 0, 9, 2, 21, 4, 12, 0, 8, 5, 3, 2, 0, 5, 2, 0, 7, 0, 2, 0, 3, 2, 0, 8, 0, 99, 2, 21, 4, 12, 0, 8, 5, 3, 2, 0, 5, 2, 0, 7, 0, 3, 0, 3, 2, 0, 8, 0, 999, 4, 12, 0, 8, 5, 3, 2, 0, 5, 2, 0, 7, 0, 4, 0, 3, 2, 0, 8, 0, 9999])], [], [(3, 5, -4294967296, -1), (3, 5, 0, 4294967296)])
theorem oo_Sy_advance_8 {kA : Nat → ClassId} : or_ok PRD kA GG o_Sy_advance_8 := by
  refine or_mk fun A ta ws vs hD hth hl => ?_
  intro t0 r0 t3 k3 t5 k5 d0 d1 f4 ta1 w1 le1 s1
  replace f4 := shm_5 f4
  have s1 : (∀ b j, w_el ws b j = w_el w1 b j) ∧ ∀ b j, w_fd ws b j = if b = v_ad (n_v vs 2) ∧ j = 8 then n_v vs 9 else w_fd w1 b j := s1.2
  have q2 : n_v vs 2 = n_v vs 0 := f4.symm
  rw [q2] at s1
  have fe_0_4_1 : w_fi ws (n_v vs 0) 4 = w_fi w1 (n_v vs 0) 4 := by show v_iv (w_fd _ _ _) = v_iv (w_fd _ _ _); rw [s1.2, if_neg (fun e => absurd e.2 (by decide))]
  have fe_0_5_1 : w_fi ws (n_v vs 0) 5 = w_fi w1 (n_v vs 0) 5 := by show v_iv (w_fd _ _ _) = v_iv (w_fd _ _ _); rw [s1.2, if_neg (fun e => absurd e.2 (by decide))]
  have fe_0_7_1 : w_fi ws (n_v vs 0) 7 = w_fi w1 (n_v vs 0) 7 := by show v_iv (w_fd _ _ _) = v_iv (w_fd _ _ _); rw [s1.2, if_neg (fun e => absurd e.2 (by decide))]
  have kz_0_4 := fdq_306 hD hth r0
  have kz_0_5 := fdq_36 hD hth r0
  have kz_0_7 := fdq_37 hD hth r0
  have kz_0_8 := fdq_305 hD hth r0
  have nf0 : fc_1 PRD (20, [2], [50, 3, 0, 8, 7, 5, 2, 7, 0, 2, 0, 0, 2, 0, 8, 2, 8, 0, 3, 2, 0, 7, 2, 0, 5, 2, 21, 4, 12, 0, 8, 5, 3, 2, 0, 5, 2, 0, 7, 0, 0, 0, 3, 2, 0, 8, 0, 0, 2, 21, 4, 12, 0, 8, 5, 3, 2, 0, 5, 2, 0, 7, 0, 1, 0, 3, 2, 0, 8, 0, 9, 2, 21, 4, 12, 0, 8, 5, 3, 2, 0, 5, 2, 0, 7, 0, 2, 0, 3, 2, 0, 8, 0, 99, 2, 21, 4, 12, 0, 8, 5, 3, 2, 0, 5, 2, 0, 7, 0, 3, 0, 3, 2, 0, 8, 0, 999, 4, 12, 0, 8, 5, 3, 2, 0, 5, 2, 0, 7, 0, 4, 0, 3, 2, 0, 8, 0, 9999]) ws (vs) := by
    refine ⟨nf_in hl rfl, sgq_1748 ?_⟩
    · show (0 ≤ w_fi ws (n_v vs 2) 8) ∧ ((w_fi ws (n_v vs 2) 7 ≤ w_fi ws (n_v vs 2) 5) ∧ ((((w_fi ws (n_v vs 2) 5 - w_fi ws (n_v vs 2) 7) ≤ 0) → (w_fi ws (n_v vs 2) 8 ≤ 0)) ∧ ((((w_fi ws (n_v vs 2) 5 - w_fi ws (n_v vs 2) 7) ≤ 1) → (w_fi ws (n_v vs 2) 8 ≤ 9)) ∧ ((((w_fi ws (n_v vs 2) 5 - w_fi ws (n_v vs 2) 7) ≤ 2) → (w_fi ws (n_v vs 2) 8 ≤ 99)) ∧ ((((w_fi ws (n_v vs 2) 5 - w_fi ws (n_v vs 2) 7) ≤ 3) → (w_fi ws (n_v vs 2) 8 ≤ 999)) ∧ (((w_fi ws (n_v vs 2) 5 - w_fi ws (n_v vs 2) 7) ≤ 4) → (w_fi ws (n_v vs 2) 8 ≤ 9999)))))))
      rw [q2]
      exact vc_Sy_advance_8_0 (v_iv (n_v vs 3)) (v_iv (n_v vs 5)) (w_fi ws (n_v vs 0) 8) (w_fi ws (n_v vs 0) 7) (w_fi ws (n_v vs 0) 4) (w_fi ws (n_v vs 0) 5) (w_fi w1 (n_v vs 0) 4) (w_fi w1 (n_v vs 0) 5) (w_fi w1 (n_v vs 0) 7) k3 k5 d0 d1 fe_0_4_1 fe_0_5_1 fe_0_7_1 kz_0_4 kz_0_5 kz_0_7 kz_0_8
  refine ⟨(fun _ h => (by cases h)), [], trivial, ?_, (fun _ h => (by cases h))⟩
  rw [List.append_nil]
  exact List.forall_mem_cons.mpr ⟨⟨show (20 : Nat) < 100 from by decide, nf0⟩, (fun _ h => (by cases h))⟩
set_option maxHeartbeats 4000000 in
theorem vc_Sy_advance_9_r0 (x5 : Int) (x10 : Int) (x12 : Int) (begin_0 : Int) (end_0 : Int) (bytes_1 : Int → Int) (end_1 : Int) (begin_1 : Int) (bytes_0 : Int → Int) (bytes_2 : Int → Int) (k5 : 1 ≤ x5 ∧ x5 ≤ 1999) (k10 : 2 ≤ x10 ∧ x10 ≤ 2000) (k12 : 0 ≤ x12 ∧ x12 ≤ 65535) (d1 : x5 + (-4294967296) ≤ x10 ∧ x10 ≤ x5 + 0) (d2 : x5 + 1 ≤ x10 ∧ x10 ≤ x5 + 4294967296) (fe_0_4_1 : end_0 = end_1) (fe_0_7_1 : begin_0 = begin_1) (hE_0_3_1 : ∀ j : Int, bytes_0 j = bytes_1 j) (hE_0_3_2 : ∀ j : Int, bytes_1 j = bytes_2 j) (kz_0_4 : 0 ≤ end_0 ∧ end_0 ≤ 2000) (kz_0_7 : 0 ≤ begin_0 ∧ begin_0 ≤ 2000) : 0 ≤ x12 ∧ x12 ≤ 127 := by
  subst fe_0_4_1
  subst fe_0_7_1
  have e_hE_0_3_1 := funext hE_0_3_1; subst e_hE_0_3_1
  have e_hE_0_3_2 := funext hE_0_3_2; subst e_hE_0_3_2
  first
    | omega
  
def o_Sy_advance_9 : or_T := (283, 13, [(0, (2, 0, 0, [11])), (2, (2, 0, 0, [11])), (3, (0, 1, 1999, [])), (4, (2, 0, 0, [109])), (5, (0, 1, 1999, [])), (6, (0, 123, 127, [])), (9, (0, 1, 1, [])), (10, (0, 2, 2000, [])), (12, (0, 0, 65535, []))], [(9, [10, 2], [5]), (9, [3, 2], [7]), (9, [5, 2], [4]), (9, [4, 2], [3]), (22, [12, 6], []), (8, [6], [4]), (24, [0, 2], []), (101, [2, 10], [5]), (1, [10, 3, 9], []), (9, [3, 2], [5]), (10, [6, 4, 3], []), (7, [3, 5], [2]), (101, [2, 3], [7]), (7, [3, 5], [3])], [(12, (0, 0, 127, []))], [], [], [], [(10, 3, 1, 1), (10, 5, -4294967296, 0), (10, 5, 1, 4294967296), (3, 5, -4294967296, -1), (3, 5, 0, 4294967296)])
theorem oo_Sy_advance_9 {kA : Nat → ClassId} : or_ok PRD kA GG o_Sy_advance_9 := by
  refine or_mk fun A ta ws vs hD hth hl => ?_
  intro t0 r0 t2 r2 t3 k3 t4 r4 t5 k5 t6 k6 t9 k9 t10 k10 t12 k12 d0 d1 d2 d3 d4 f0 f1 f2 f3 f4 f5 f6 ta1 w1 le1 s1 f8 f9 f10 f11 ta2 w2 le2 s2 f13
  replace f6 := shm_5 f6
  have s1 : (∀ b j, w_el ws b j = w_el w1 b j) ∧ ∀ b j, w_fd ws b j = if b = v_ad (n_v vs 2) ∧ j = 5 then n_v vs 10 else w_fd w1 b j := s1.2
  have s2 : (∀ b j, w_el w1 b j = w_el w2 b j) ∧ ∀ b j, w_fd w1 b j = if b = v_ad (n_v vs 2) ∧ j = 7 then n_v vs 3 else w_fd w2 b j := s2.2
  have q2 : n_v vs 2 = n_v vs 0 := f6.symm
  rw [q2] at s1
  rw [q2] at s2
  have fe_0_4_1 : w_fi ws (n_v vs 0) 4 = w_fi w1 (n_v vs 0) 4 := by show v_iv (w_fd _ _ _) = v_iv (w_fd _ _ _); rw [s1.2, if_neg (fun e => absurd e.2 (by decide))]
  have fe_0_7_1 : w_fi ws (n_v vs 0) 7 = w_fi w1 (n_v vs 0) 7 := by show v_iv (w_fd _ _ _) = v_iv (w_fd _ _ _); rw [s1.2, if_neg (fun e => absurd e.2 (by decide))]
  have hE_0_3_1 : ∀ j : Int, w_ei ws (w_ar ws (n_v vs 0) 3) j = w_ei w1 (w_ar ws (n_v vs 0) 3) j := fun j => s1.1 _ _
  have hE_0_3_2 : ∀ j : Int, w_ei w1 (w_ar ws (n_v vs 0) 3) j = w_ei w2 (w_ar ws (n_v vs 0) 3) j := fun j => s2.1 _ _
  have kz_0_4 := fdq_306 hD hth r0
  have kz_0_7 := fdq_37 hD hth r0
  have hrf0 : 0 ≤ v_iv (n_v vs 12) ∧ v_iv (n_v vs 12) ≤ 127 := vc_Sy_advance_9_r0 (v_iv (n_v vs 5)) (v_iv (n_v vs 10)) (v_iv (n_v vs 12)) (w_fi ws (n_v vs 0) 7) (w_fi ws (n_v vs 0) 4) (w_ei w1 (w_ar ws (n_v vs 0) 3)) (w_fi w1 (n_v vs 0) 4) (w_fi w1 (n_v vs 0) 7) (w_ei ws (w_ar ws (n_v vs 0) 3)) (w_ei w2 (w_ar ws (n_v vs 0) 3)) k5 k10 k12 d1 d2 fe_0_4_1 fe_0_7_1 hE_0_3_1 hE_0_3_2 kz_0_4 kz_0_7
  have rf12 : tv_ok ta (0, 0, 127, []) (n_v vs 12) := tv_in t12 (by omega) (by omega)
  refine ⟨List.forall_mem_cons.mpr ⟨rf12, (fun _ h => (by cases h))⟩, [], trivial, ?_, (fun _ h => (by cases h))⟩
  rw [List.append_nil]
  exact (fun _ h => (by cases h))
set_option maxHeartbeats 4000000 in
theorem vc_Sy_advance_10_0 (x5 : Int) (x10 : Int) (kind_0 : Int) (next_0 : Int) (begin_0 : Int) (end_0 : Int) (bytes_2 : Int → Int) (end_1 : Int) (next_1 : Int) (begin_1 : Int) (number_0 : Int) (number_1 : Int) (end_2 : Int) (kind_1 : Int) (kind_2 : Int) (begin_2 : Int) (number_2 : Int) (bytes_0 : Int → Int) (bytes_1 : Int → Int) (bytes_3 : Int → Int) (k5 : 1 ≤ x5 ∧ x5 ≤ 1999) (k10 : 2 ≤ x10 ∧ x10 ≤ 2000) (d1 : x5 + (-4294967296) ≤ x10 ∧ x10 ≤ x5 + 0) (d2 : x5 + 1 ≤ x10 ∧ x10 ≤ x5 + 4294967296) (fe_0_4_1 : end_0 = end_1) (fe_0_5_1 : next_0 = next_1) (fe_0_7_1 : begin_0 = begin_1) (fe_0_8_1 : number_0 = number_1) (fe_0_4_2 : end_1 = end_2) (fe_0_6_2 : kind_1 = kind_2) (fe_0_7_2 : begin_1 = begin_2) (fe_0_8_2 : number_1 = number_2) (hE_0_3_1 : ∀ j : Int, bytes_0 j = bytes_1 j) (hE_0_3_2 : ∀ j : Int, bytes_1 j = bytes_2 j) (hE_0_3_3 : ∀ j : Int, bytes_2 j = bytes_3 j) (kz_0_4 : 0 ≤ end_0 ∧ end_0 ≤ 2000) (kz_0_5 : 0 ≤ next_0 ∧ next_0 ≤ 2000) (kz_0_6 : 0 ≤ kind_0 ∧ kind_0 ≤ 127) (kz_0_7 : 0 ≤ begin_0 ∧ begin_0 ≤ 2000) (kz_0_8 : 0 ≤ number_0 ∧ number_0 ≤ 1000000) : (kind_0 ≠ 3) ∨ (number_0 ≤ 9999) := by
  subst fe_0_4_1
  subst fe_0_5_1
  subst fe_0_7_1
  subst fe_0_8_1
  subst fe_0_4_2
  subst fe_0_6_2
  subst fe_0_7_2
  subst fe_0_8_2
  have e_hE_0_3_1 := funext hE_0_3_1; subst e_hE_0_3_1
  have e_hE_0_3_2 := funext hE_0_3_2; subst e_hE_0_3_2
  have e_hE_0_3_3 := funext hE_0_3_3; subst e_hE_0_3_3
  first
    | omega
  
def o_Sy_advance_10 : or_T := (297, 15, [(0, (2, 0, 0, [11])), (2, (2, 0, 0, [11])), (3, (0, 1, 1999, [])), (4, (2, 0, 0, [109])), (5, (0, 1, 1999, [])), (6, (0, 123, 127, [])), (9, (0, 1, 1, [])), (10, (0, 2, 2000, [])), (12, (0, 0, 127, [])), (13, (0, -1, -1, [])), (14, (0, 1, 1, []))], [(9, [14, 2], [6]), (9, [10, 2], [5]), (9, [3, 2], [7]), (9, [5, 2], [4]), (9, [4, 2], [3]), (20, [13, 12], [50, 0, 0, 3, 6, 0, 2, 1, 0, 0, -1, 0, 2, 0, 33, 1, 1]), (22, [12, 6], []), (24, [0, 2], []), (101, [2, 14], [6]), (8, [13], [2]), (20, [13, 12], [50, 0, 0, 3, 6, 0, 2, 1, 0, 0, -1, 0, 2, 0, 33, 1, 1]), (22, [12, 6], []), (8, [6], [4]), (101, [2, 10], [5]), (1, [10, 3, 9], []), (9, [3, 2], [5]), (10, [6, 4, 3], []), (7, [3, 5], [2]), (101, [2, 3], [7]), (7, [3, 5], [3])], [], [], [(20, [0], [50, 2, 0, 6, 8, 3, 7, 7, 3, 2, 0, 6, 0, 3, 0, 3, 2, 0, 8, 0, 9999])], [], [(10, 3, 1, 1), (10, 5, -4294967296, 0), (10, 5, 1, 4294967296), (3, 5, -4294967296, -1), (3, 5, 0, 4294967296)])
theorem oo_Sy_advance_10 {kA : Nat → ClassId} : or_ok PRD kA GG o_Sy_advance_10 := by
  refine or_mk fun A ta ws vs hD hth hl => ?_
  intro t0 r0 t2 r2 t3 k3 t4 r4 t5 k5 t6 k6 t9 k9 t10 k10 t12 k12 t13 k13 t14 k14 d0 d1 d2 d3 d4 f0 f1 f2 f3 f4 f5 f6 f7 ta1 w1 le1 s1 f9 f10 f11 f12 ta2 w2 le2 s2 f14 f15 f16 f17 ta3 w3 le3 s3 f19
  replace f7 := shm_5 f7
  have s1 : (∀ b j, w_el ws b j = w_el w1 b j) ∧ ∀ b j, w_fd ws b j = if b = v_ad (n_v vs 2) ∧ j = 6 then n_v vs 14 else w_fd w1 b j := s1.2
  have s2 : (∀ b j, w_el w1 b j = w_el w2 b j) ∧ ∀ b j, w_fd w1 b j = if b = v_ad (n_v vs 2) ∧ j = 5 then n_v vs 10 else w_fd w2 b j := s2.2
  have s3 : (∀ b j, w_el w2 b j = w_el w3 b j) ∧ ∀ b j, w_fd w2 b j = if b = v_ad (n_v vs 2) ∧ j = 7 then n_v vs 3 else w_fd w3 b j := s3.2
  have q2 : n_v vs 2 = n_v vs 0 := f7.symm
  rw [q2] at s1
  rw [q2] at s2
  rw [q2] at s3
  have fe_0_4_1 : w_fi ws (n_v vs 0) 4 = w_fi w1 (n_v vs 0) 4 := by show v_iv (w_fd _ _ _) = v_iv (w_fd _ _ _); rw [s1.2, if_neg (fun e => absurd e.2 (by decide))]
  have fe_0_5_1 : w_fi ws (n_v vs 0) 5 = w_fi w1 (n_v vs 0) 5 := by show v_iv (w_fd _ _ _) = v_iv (w_fd _ _ _); rw [s1.2, if_neg (fun e => absurd e.2 (by decide))]
  have fe_0_7_1 : w_fi ws (n_v vs 0) 7 = w_fi w1 (n_v vs 0) 7 := by show v_iv (w_fd _ _ _) = v_iv (w_fd _ _ _); rw [s1.2, if_neg (fun e => absurd e.2 (by decide))]
  have fe_0_8_1 : w_fi ws (n_v vs 0) 8 = w_fi w1 (n_v vs 0) 8 := by show v_iv (w_fd _ _ _) = v_iv (w_fd _ _ _); rw [s1.2, if_neg (fun e => absurd e.2 (by decide))]
  have fe_0_4_2 : w_fi w1 (n_v vs 0) 4 = w_fi w2 (n_v vs 0) 4 := by show v_iv (w_fd _ _ _) = v_iv (w_fd _ _ _); rw [s2.2, if_neg (fun e => absurd e.2 (by decide))]
  have fe_0_6_2 : w_fi w1 (n_v vs 0) 6 = w_fi w2 (n_v vs 0) 6 := by show v_iv (w_fd _ _ _) = v_iv (w_fd _ _ _); rw [s2.2, if_neg (fun e => absurd e.2 (by decide))]
  have fe_0_7_2 : w_fi w1 (n_v vs 0) 7 = w_fi w2 (n_v vs 0) 7 := by show v_iv (w_fd _ _ _) = v_iv (w_fd _ _ _); rw [s2.2, if_neg (fun e => absurd e.2 (by decide))]
  have fe_0_8_2 : w_fi w1 (n_v vs 0) 8 = w_fi w2 (n_v vs 0) 8 := by show v_iv (w_fd _ _ _) = v_iv (w_fd _ _ _); rw [s2.2, if_neg (fun e => absurd e.2 (by decide))]
  have hE_0_3_1 : ∀ j : Int, w_ei ws (w_ar ws (n_v vs 0) 3) j = w_ei w1 (w_ar ws (n_v vs 0) 3) j := fun j => s1.1 _ _
  have hE_0_3_2 : ∀ j : Int, w_ei w1 (w_ar ws (n_v vs 0) 3) j = w_ei w2 (w_ar ws (n_v vs 0) 3) j := fun j => s2.1 _ _
  have hE_0_3_3 : ∀ j : Int, w_ei w2 (w_ar ws (n_v vs 0) 3) j = w_ei w3 (w_ar ws (n_v vs 0) 3) j := fun j => s3.1 _ _
  have kz_0_4 := fdq_306 hD hth r0
  have kz_0_5 := fdq_36 hD hth r0
  have kz_0_6 := fdq_304 hD hth r0
  have kz_0_7 := fdq_37 hD hth r0
  have kz_0_8 := fdq_305 hD hth r0
  have nf0 : fc_1 PRD (20, [0], [50, 2, 0, 6, 8, 3, 7, 7, 3, 2, 0, 6, 0, 3, 0, 3, 2, 0, 8, 0, 9999]) ws (vs) := ⟨nf_in hl rfl, sgq_1747 (vc_Sy_advance_10_0 (v_iv (n_v vs 5)) (v_iv (n_v vs 10)) (w_fi ws (n_v vs 0) 6) (w_fi ws (n_v vs 0) 5) (w_fi ws (n_v vs 0) 7) (w_fi ws (n_v vs 0) 4) (w_ei w2 (w_ar ws (n_v vs 0) 3)) (w_fi w1 (n_v vs 0) 4) (w_fi w1 (n_v vs 0) 5) (w_fi w1 (n_v vs 0) 7) (w_fi ws (n_v vs 0) 8) (w_fi w1 (n_v vs 0) 8) (w_fi w2 (n_v vs 0) 4) (w_fi w1 (n_v vs 0) 6) (w_fi w2 (n_v vs 0) 6) (w_fi w2 (n_v vs 0) 7) (w_fi w2 (n_v vs 0) 8) (w_ei ws (w_ar ws (n_v vs 0) 3)) (w_ei w1 (w_ar ws (n_v vs 0) 3)) (w_ei w3 (w_ar ws (n_v vs 0) 3)) k5 k10 d1 d2 fe_0_4_1 fe_0_5_1 fe_0_7_1 fe_0_8_1 fe_0_4_2 fe_0_6_2 fe_0_7_2 fe_0_8_2 hE_0_3_1 hE_0_3_2 hE_0_3_3 kz_0_4 kz_0_5 kz_0_6 kz_0_7 kz_0_8)⟩
  refine ⟨(fun _ h => (by cases h)), [], trivial, ?_, (fun _ h => (by cases h))⟩
  rw [List.append_nil]
  exact List.forall_mem_cons.mpr ⟨⟨show (20 : Nat) < 100 from by decide, nf0⟩, (fun _ h => (by cases h))⟩
set_option maxHeartbeats 4000000 in
theorem vc_Sy_advance_11_0 (x5 : Int) (x10 : Int) (kind_0 : Int) (next_0 : Int) (begin_0 : Int) (end_0 : Int) (bytes_2 : Int → Int) (end_1 : Int) (next_1 : Int) (begin_1 : Int) (number_0 : Int) (number_1 : Int) (end_2 : Int) (kind_1 : Int) (kind_2 : Int) (begin_2 : Int) (number_2 : Int) (bytes_0 : Int → Int) (bytes_1 : Int → Int) (bytes_3 : Int → Int) (k5 : 1 ≤ x5 ∧ x5 ≤ 1999) (k10 : 2 ≤ x10 ∧ x10 ≤ 2000) (d1 : x5 + (-4294967296) ≤ x10 ∧ x10 ≤ x5 + 0) (d2 : x5 + 1 ≤ x10 ∧ x10 ≤ x5 + 4294967296) (fe_0_4_1 : end_0 = end_1) (fe_0_5_1 : next_0 = next_1) (fe_0_7_1 : begin_0 = begin_1) (fe_0_8_1 : number_0 = number_1) (fe_0_4_2 : end_1 = end_2) (fe_0_6_2 : kind_1 = kind_2) (fe_0_7_2 : begin_1 = begin_2) (fe_0_8_2 : number_1 = number_2) (hE_0_3_1 : ∀ j : Int, bytes_0 j = bytes_1 j) (hE_0_3_2 : ∀ j : Int, bytes_1 j = bytes_2 j) (hE_0_3_3 : ∀ j : Int, bytes_2 j = bytes_3 j) (kz_0_4 : 0 ≤ end_0 ∧ end_0 ≤ 2000) (kz_0_5 : 0 ≤ next_0 ∧ next_0 ≤ 2000) (kz_0_6 : 0 ≤ kind_0 ∧ kind_0 ≤ 127) (kz_0_7 : 0 ≤ begin_0 ∧ begin_0 ≤ 2000) (kz_0_8 : 0 ≤ number_0 ∧ number_0 ≤ 1000000) : (kind_0 ≠ 3) ∨ (number_0 ≤ 9999) := by
  subst fe_0_4_1
  subst fe_0_5_1
  subst fe_0_7_1
  subst fe_0_8_1
  subst fe_0_4_2
  subst fe_0_6_2
  subst fe_0_7_2
  subst fe_0_8_2
  have e_hE_0_3_1 := funext hE_0_3_1; subst e_hE_0_3_1
  have e_hE_0_3_2 := funext hE_0_3_2; subst e_hE_0_3_2
  have e_hE_0_3_3 := funext hE_0_3_3; subst e_hE_0_3_3
  first
    | omega
  
def o_Sy_advance_11 : or_T := (297, 14, [(0, (2, 0, 0, [11])), (2, (2, 0, 0, [11])), (3, (0, 1, 1999, [])), (4, (2, 0, 0, [109])), (5, (0, 1, 1999, [])), (6, (0, 123, 127, [])), (9, (0, 1, 1, [])), (10, (0, 2, 2000, [])), (12, (0, 0, 127, [])), (13, (0, 0, 13, []))], [(9, [6, 2], [6]), (9, [10, 2], [5]), (9, [3, 2], [7]), (9, [5, 2], [4]), (9, [4, 2], [3]), (20, [13, 12], [50, 0, 0, 3, 6, 0, 2, 1, 0, 0, -1, 0, 2, 0, 33, 1, 1]), (22, [12, 6], []), (24, [0, 2], []), (101, [2, 6], [6]), (8, [13], [3]), (20, [13, 12], [50, 0, 0, 3, 6, 0, 2, 1, 0, 0, -1, 0, 2, 0, 33, 1, 1]), (22, [12, 6], []), (8, [6], [4]), (101, [2, 10], [5]), (1, [10, 3, 9], []), (9, [3, 2], [5]), (10, [6, 4, 3], []), (7, [3, 5], [2]), (101, [2, 3], [7]), (7, [3, 5], [3])], [], [], [(20, [0], [50, 2, 0, 6, 8, 3, 7, 7, 3, 2, 0, 6, 0, 3, 0, 3, 2, 0, 8, 0, 9999])], [], [(10, 3, 1, 1), (10, 5, -4294967296, 0), (10, 5, 1, 4294967296), (3, 5, -4294967296, -1), (3, 5, 0, 4294967296)])
theorem oo_Sy_advance_11 {kA : Nat → ClassId} : or_ok PRD kA GG o_Sy_advance_11 := by
  refine or_mk fun A ta ws vs hD hth hl => ?_
  intro t0 r0 t2 r2 t3 k3 t4 r4 t5 k5 t6 k6 t9 k9 t10 k10 t12 k12 t13 k13 d0 d1 d2 d3 d4 f0 f1 f2 f3 f4 f5 f6 f7 ta1 w1 le1 s1 f9 f10 f11 f12 ta2 w2 le2 s2 f14 f15 f16 f17 ta3 w3 le3 s3 f19
  replace f7 := shm_5 f7
  have s1 : (∀ b j, w_el ws b j = w_el w1 b j) ∧ ∀ b j, w_fd ws b j = if b = v_ad (n_v vs 2) ∧ j = 6 then n_v vs 6 else w_fd w1 b j := s1.2
  have s2 : (∀ b j, w_el w1 b j = w_el w2 b j) ∧ ∀ b j, w_fd w1 b j = if b = v_ad (n_v vs 2) ∧ j = 5 then n_v vs 10 else w_fd w2 b j := s2.2
  have s3 : (∀ b j, w_el w2 b j = w_el w3 b j) ∧ ∀ b j, w_fd w2 b j = if b = v_ad (n_v vs 2) ∧ j = 7 then n_v vs 3 else w_fd w3 b j := s3.2
  have q2 : n_v vs 2 = n_v vs 0 := f7.symm
  rw [q2] at s1
  rw [q2] at s2
  rw [q2] at s3
  have fe_0_4_1 : w_fi ws (n_v vs 0) 4 = w_fi w1 (n_v vs 0) 4 := by show v_iv (w_fd _ _ _) = v_iv (w_fd _ _ _); rw [s1.2, if_neg (fun e => absurd e.2 (by decide))]
  have fe_0_5_1 : w_fi ws (n_v vs 0) 5 = w_fi w1 (n_v vs 0) 5 := by show v_iv (w_fd _ _ _) = v_iv (w_fd _ _ _); rw [s1.2, if_neg (fun e => absurd e.2 (by decide))]
  have fe_0_7_1 : w_fi ws (n_v vs 0) 7 = w_fi w1 (n_v vs 0) 7 := by show v_iv (w_fd _ _ _) = v_iv (w_fd _ _ _); rw [s1.2, if_neg (fun e => absurd e.2 (by decide))]
  have fe_0_8_1 : w_fi ws (n_v vs 0) 8 = w_fi w1 (n_v vs 0) 8 := by show v_iv (w_fd _ _ _) = v_iv (w_fd _ _ _); rw [s1.2, if_neg (fun e => absurd e.2 (by decide))]
  have fe_0_4_2 : w_fi w1 (n_v vs 0) 4 = w_fi w2 (n_v vs 0) 4 := by show v_iv (w_fd _ _ _) = v_iv (w_fd _ _ _); rw [s2.2, if_neg (fun e => absurd e.2 (by decide))]
  have fe_0_6_2 : w_fi w1 (n_v vs 0) 6 = w_fi w2 (n_v vs 0) 6 := by show v_iv (w_fd _ _ _) = v_iv (w_fd _ _ _); rw [s2.2, if_neg (fun e => absurd e.2 (by decide))]
  have fe_0_7_2 : w_fi w1 (n_v vs 0) 7 = w_fi w2 (n_v vs 0) 7 := by show v_iv (w_fd _ _ _) = v_iv (w_fd _ _ _); rw [s2.2, if_neg (fun e => absurd e.2 (by decide))]
  have fe_0_8_2 : w_fi w1 (n_v vs 0) 8 = w_fi w2 (n_v vs 0) 8 := by show v_iv (w_fd _ _ _) = v_iv (w_fd _ _ _); rw [s2.2, if_neg (fun e => absurd e.2 (by decide))]
  have hE_0_3_1 : ∀ j : Int, w_ei ws (w_ar ws (n_v vs 0) 3) j = w_ei w1 (w_ar ws (n_v vs 0) 3) j := fun j => s1.1 _ _
  have hE_0_3_2 : ∀ j : Int, w_ei w1 (w_ar ws (n_v vs 0) 3) j = w_ei w2 (w_ar ws (n_v vs 0) 3) j := fun j => s2.1 _ _
  have hE_0_3_3 : ∀ j : Int, w_ei w2 (w_ar ws (n_v vs 0) 3) j = w_ei w3 (w_ar ws (n_v vs 0) 3) j := fun j => s3.1 _ _
  have kz_0_4 := fdq_306 hD hth r0
  have kz_0_5 := fdq_36 hD hth r0
  have kz_0_6 := fdq_304 hD hth r0
  have kz_0_7 := fdq_37 hD hth r0
  have kz_0_8 := fdq_305 hD hth r0
  have nf0 : fc_1 PRD (20, [0], [50, 2, 0, 6, 8, 3, 7, 7, 3, 2, 0, 6, 0, 3, 0, 3, 2, 0, 8, 0, 9999]) ws (vs) := ⟨nf_in hl rfl, sgq_1747 (vc_Sy_advance_11_0 (v_iv (n_v vs 5)) (v_iv (n_v vs 10)) (w_fi ws (n_v vs 0) 6) (w_fi ws (n_v vs 0) 5) (w_fi ws (n_v vs 0) 7) (w_fi ws (n_v vs 0) 4) (w_ei w2 (w_ar ws (n_v vs 0) 3)) (w_fi w1 (n_v vs 0) 4) (w_fi w1 (n_v vs 0) 5) (w_fi w1 (n_v vs 0) 7) (w_fi ws (n_v vs 0) 8) (w_fi w1 (n_v vs 0) 8) (w_fi w2 (n_v vs 0) 4) (w_fi w1 (n_v vs 0) 6) (w_fi w2 (n_v vs 0) 6) (w_fi w2 (n_v vs 0) 7) (w_fi w2 (n_v vs 0) 8) (w_ei ws (w_ar ws (n_v vs 0) 3)) (w_ei w1 (w_ar ws (n_v vs 0) 3)) (w_ei w3 (w_ar ws (n_v vs 0) 3)) k5 k10 d1 d2 fe_0_4_1 fe_0_5_1 fe_0_7_1 fe_0_8_1 fe_0_4_2 fe_0_6_2 fe_0_7_2 fe_0_8_2 hE_0_3_1 hE_0_3_2 hE_0_3_3 kz_0_4 kz_0_5 kz_0_6 kz_0_7 kz_0_8)⟩
  refine ⟨(fun _ h => (by cases h)), [], trivial, ?_, (fun _ h => (by cases h))⟩
  rw [List.append_nil]
  exact List.forall_mem_cons.mpr ⟨⟨show (20 : Nat) < 100 from by decide, nf0⟩, (fun _ h => (by cases h))⟩
set_option maxHeartbeats 4000000 in
theorem vc_Sy_advance_12_0 (x6 : Int) (kind_0 : Int) (number_0 : Int) (k6 : 0 ≤ x6 ∧ x6 ≤ 0) (g0 : x6 = kind_0) (kz_0_6 : 0 ≤ kind_0 ∧ kind_0 ≤ 127) (kz_0_8 : 0 ≤ number_0 ∧ number_0 ≤ 1000000) : (kind_0 ≠ 3) ∨ (number_0 ≤ 9999) := by
  first
    | omega
  
def o_Sy_advance_12 : or_T := (76, 7, [(0, (2, 0, 0, [11])), (6, (0, 0, 0, []))], [(9, [6, 2], [6]), (24, [0, 2], [])], [], [], [(20, [0], [50, 2, 0, 6, 8, 3, 7, 7, 3, 2, 0, 6, 0, 3, 0, 3, 2, 0, 8, 0, 9999])], [], [])
theorem oo_Sy_advance_12 {kA : Nat → ClassId} : or_ok PRD kA GG o_Sy_advance_12 := by
  refine or_mk fun A ta ws vs hD hth hl => ?_
  intro t0 r0 t6 k6 f0 f1
  replace f0 := shm_110 f0
  replace f1 := shm_5 f1
  have q2 : n_v vs 2 = n_v vs 0 := f1.symm
  simp only [q2] at f0
  have g0 : v_iv (n_v vs 6) = w_fi ws (n_v vs 0) 6 := congrArg v_iv f0
  have kz_0_6 := fdq_304 hD hth r0
  have kz_0_8 := fdq_305 hD hth r0
  have nf0 : fc_1 PRD (20, [0], [50, 2, 0, 6, 8, 3, 7, 7, 3, 2, 0, 6, 0, 3, 0, 3, 2, 0, 8, 0, 9999]) ws (vs) := ⟨nf_in hl rfl, sgq_1747 (vc_Sy_advance_12_0 (v_iv (n_v vs 6)) (w_fi ws (n_v vs 0) 6) (w_fi ws (n_v vs 0) 8) k6 g0 kz_0_6 kz_0_8)⟩
  refine ⟨(fun _ h => (by cases h)), [], trivial, ?_, (fun _ h => (by cases h))⟩
  rw [List.append_nil]
  exact List.forall_mem_cons.mpr ⟨⟨show (20 : Nat) < 100 from by decide, nf0⟩, (fun _ h => (by cases h))⟩
set_option maxHeartbeats 4000000 in
theorem vc_Sy_advance_13_0 (x15 : Int) (kind_0 : Int) (number_0 : Int) (k15 : 1 ≤ x15 ∧ x15 ≤ 1) (g0 : x15 = kind_0) (kz_0_6 : 0 ≤ kind_0 ∧ kind_0 ≤ 127) (kz_0_8 : 0 ≤ number_0 ∧ number_0 ≤ 1000000) : (kind_0 ≠ 3) ∨ (number_0 ≤ 9999) := by
  first
    | omega
  
def o_Sy_advance_13 : or_T := (297, 16, [(0, (2, 0, 0, [11])), (15, (0, 1, 1, []))], [(9, [15, 2], [6]), (24, [0, 2], [])], [], [], [(20, [0], [50, 2, 0, 6, 8, 3, 7, 7, 3, 2, 0, 6, 0, 3, 0, 3, 2, 0, 8, 0, 9999])], [], [])
theorem oo_Sy_advance_13 {kA : Nat → ClassId} : or_ok PRD kA GG o_Sy_advance_13 := by
  refine or_mk fun A ta ws vs hD hth hl => ?_
  intro t0 r0 t15 k15 f0 f1
  replace f0 := shm_110 f0
  replace f1 := shm_5 f1
  have q2 : n_v vs 2 = n_v vs 0 := f1.symm
  simp only [q2] at f0
  have g0 : v_iv (n_v vs 15) = w_fi ws (n_v vs 0) 6 := congrArg v_iv f0
  have kz_0_6 := fdq_304 hD hth r0
  have kz_0_8 := fdq_305 hD hth r0
  have nf0 : fc_1 PRD (20, [0], [50, 2, 0, 6, 8, 3, 7, 7, 3, 2, 0, 6, 0, 3, 0, 3, 2, 0, 8, 0, 9999]) ws (vs) := ⟨nf_in hl rfl, sgq_1747 (vc_Sy_advance_13_0 (v_iv (n_v vs 15)) (w_fi ws (n_v vs 0) 6) (w_fi ws (n_v vs 0) 8) k15 g0 kz_0_6 kz_0_8)⟩
  refine ⟨(fun _ h => (by cases h)), [], trivial, ?_, (fun _ h => (by cases h))⟩
  rw [List.append_nil]
  exact List.forall_mem_cons.mpr ⟨⟨show (20 : Nat) < 100 from by decide, nf0⟩, (fun _ h => (by cases h))⟩
set_option maxHeartbeats 4000000 in
theorem vc_Sy_advance_14_r0 (x3 : Int) (x10 : Int) (x16 : Int) (begin_0 : Int) (end_0 : Int) (bytes_1 : Int → Int) (bytes_2 : Int → Int) (end_1 : Int) (begin_1 : Int) (bytes_0 : Int → Int) (k3 : 0 ≤ x3 ∧ x3 ≤ 1999) (k10 : 1 ≤ x10 ∧ x10 ≤ 47) (k16 : 0 ≤ x16 ∧ x16 ≤ 65535) (f4 : x16 = x10) (h10 : x10 = bytes_1 (x3)) (fe_0_4_1 : end_0 = end_1) (fe_0_7_1 : begin_0 = begin_1) (hE_0_3_1 : ∀ j : Int, bytes_0 j = bytes_1 j) (hE_0_3_2 : ∀ j : Int, bytes_1 j = bytes_2 j) (kz_0_4 : 0 ≤ end_0 ∧ end_0 ≤ 2000) (kz_0_7 : 0 ≤ begin_0 ∧ begin_0 ≤ 2000) : 0 ≤ x16 ∧ x16 ≤ 127 := by
  subst fe_0_4_1
  subst fe_0_7_1
  have e_hE_0_3_1 := funext hE_0_3_1; subst e_hE_0_3_1
  have e_hE_0_3_2 := funext hE_0_3_2; subst e_hE_0_3_2
  first
    | omega
  
def o_Sy_advance_14 : or_T := (283, 17, [(0, (2, 0, 0, [11])), (2, (2, 0, 0, [11])), (3, (0, 0, 1999, [])), (4, (2, 0, 0, [109])), (5, (0, 1, 2000, [])), (6, (0, -128, 127, [])), (7, (0, 32, 32, [])), (8, (0, -128, 127, [])), (9, (0, 10, 10, [])), (10, (0, 1, 47, [])), (13, (0, 1, 1, [])), (14, (0, 1, 2000, [])), (16, (0, 0, 65535, []))], [(9, [14, 2], [5]), (9, [3, 2], [7]), (9, [5, 2], [4]), (9, [4, 2], [3]), (22, [16, 10], []), (8, [10], [4]), (24, [0, 2], []), (101, [2, 14], [5]), (1, [14, 3, 13], []), (9, [3, 2], [5]), (10, [10, 4, 3], []), (7, [3, 5], [2]), (101, [2, 3], [7]), (7, [8, 9], [1]), (10, [8, 4, 3], []), (7, [6, 7], [1]), (10, [6, 4, 3], []), (7, [3, 5], [2])], [(16, (0, 0, 127, []))], [], [], [], [(14, 3, 1, 1), (14, 5, -4294967296, 0), (3, 5, -4294967296, -1)])
theorem oo_Sy_advance_14 {kA : Nat → ClassId} : or_ok PRD kA GG o_Sy_advance_14 := by
  refine or_mk fun A ta ws vs hD hth hl => ?_
  intro t0 r0 t2 r2 t3 k3 t4 r4 t5 k5 t6 k6 t7 k7 t8 k8 t9 k9 t10 k10 t13 k13 t14 k14 t16 k16 d0 d1 d2 f0 f1 f2 f3 f4 f5 f6 ta1 w1 le1 s1 f8 f9 f10 f11 ta2 w2 le2 s2 f13 f14 f15 f16 f17
  replace f3 := shm_149 f3
  replace f6 := shm_5 f6
  have s1 : (∀ b j, w_el ws b j = w_el w1 b j) ∧ ∀ b j, w_fd ws b j = if b = v_ad (n_v vs 2) ∧ j = 5 then n_v vs 14 else w_fd w1 b j := s1.2
  replace f10 := shm_106 f10
  have s2 : (∀ b j, w_el w1 b j = w_el w2 b j) ∧ ∀ b j, w_fd w1 b j = if b = v_ad (n_v vs 2) ∧ j = 7 then n_v vs 3 else w_fd w2 b j := s2.2
  have q2 : n_v vs 2 = n_v vs 0 := f6.symm
  simp only [q2] at f3
  rw [q2] at s1
  rw [q2] at s2
  have ad_4 : v_ad (n_v vs 4) = w_ar ws (n_v vs 0) 3 := congrArg v_ad f3
  simp only [ad_4] at f10
  have h10 : v_iv (n_v vs 10) = w_ei w1 (w_ar ws (n_v vs 0) 3) (v_iv (n_v vs 3)) := f10
  have fe_0_4_1 : w_fi ws (n_v vs 0) 4 = w_fi w1 (n_v vs 0) 4 := by show v_iv (w_fd _ _ _) = v_iv (w_fd _ _ _); rw [s1.2, if_neg (fun e => absurd e.2 (by decide))]
  have fe_0_7_1 : w_fi ws (n_v vs 0) 7 = w_fi w1 (n_v vs 0) 7 := by show v_iv (w_fd _ _ _) = v_iv (w_fd _ _ _); rw [s1.2, if_neg (fun e => absurd e.2 (by decide))]
  have hE_0_3_1 : ∀ j : Int, w_ei ws (w_ar ws (n_v vs 0) 3) j = w_ei w1 (w_ar ws (n_v vs 0) 3) j := fun j => s1.1 _ _
  have hE_0_3_2 : ∀ j : Int, w_ei w1 (w_ar ws (n_v vs 0) 3) j = w_ei w2 (w_ar ws (n_v vs 0) 3) j := fun j => s2.1 _ _
  have kz_0_4 := fdq_306 hD hth r0
  have kz_0_7 := fdq_37 hD hth r0
  have hrf0 : 0 ≤ v_iv (n_v vs 16) ∧ v_iv (n_v vs 16) ≤ 127 := vc_Sy_advance_14_r0 (v_iv (n_v vs 3)) (v_iv (n_v vs 10)) (v_iv (n_v vs 16)) (w_fi ws (n_v vs 0) 7) (w_fi ws (n_v vs 0) 4) (w_ei w1 (w_ar ws (n_v vs 0) 3)) (w_ei w2 (w_ar ws (n_v vs 0) 3)) (w_fi w1 (n_v vs 0) 4) (w_fi w1 (n_v vs 0) 7) (w_ei ws (w_ar ws (n_v vs 0) 3)) k3 k10 k16 (shm_47 f4) h10 fe_0_4_1 fe_0_7_1 hE_0_3_1 hE_0_3_2 kz_0_4 kz_0_7
  have rf16 : tv_ok ta (0, 0, 127, []) (n_v vs 16) := tv_in t16 (by omega) (by omega)
  refine ⟨List.forall_mem_cons.mpr ⟨rf16, (fun _ h => (by cases h))⟩, [], trivial, ?_, (fun _ h => (by cases h))⟩
  rw [List.append_nil]
  exact (fun _ h => (by cases h))
set_option maxHeartbeats 4000000 in
theorem vc_Sy_advance_15_0 (x18 : Int) (kind_0 : Int) (next_0 : Int) (begin_0 : Int) (end_0 : Int) (bytes_2 : Int → Int) (bytes_3 : Int → Int) (end_1 : Int) (next_1 : Int) (begin_1 : Int) (number_0 : Int) (number_1 : Int) (end_2 : Int) (kind_1 : Int) (kind_2 : Int) (begin_2 : Int) (number_2 : Int) (bytes_0 : Int → Int) (bytes_1 : Int → Int) (k18 : 1 ≤ x18 ∧ x18 ≤ 1) (g0 : x18 = kind_0) (fe_0_4_1 : end_0 = end_1) (fe_0_5_1 : next_0 = next_1) (fe_0_7_1 : begin_0 = begin_1) (fe_0_8_1 : number_0 = number_1) (fe_0_4_2 : end_1 = end_2) (fe_0_6_2 : kind_1 = kind_2) (fe_0_7_2 : begin_1 = begin_2) (fe_0_8_2 : number_1 = number_2) (hE_0_3_1 : ∀ j : Int, bytes_0 j = bytes_1 j) (hE_0_3_2 : ∀ j : Int, bytes_1 j = bytes_2 j) (hE_0_3_3 : ∀ j : Int, bytes_2 j = bytes_3 j) (kz_0_4 : 0 ≤ end_0 ∧ end_0 ≤ 2000) (kz_0_5 : 0 ≤ next_0 ∧ next_0 ≤ 2000) (kz_0_6 : 0 ≤ kind_0 ∧ kind_0 ≤ 127) (kz_0_7 : 0 ≤ begin_0 ∧ begin_0 ≤ 2000) (kz_0_8 : 0 ≤ number_0 ∧ number_0 ≤ 1000000) : (kind_0 ≠ 3) ∨ (number_0 ≤ 9999) := by
  subst fe_0_4_1
  subst fe_0_5_1
  subst fe_0_7_1
  subst fe_0_8_1
  subst fe_0_4_2
  subst fe_0_6_2
  subst fe_0_7_2
  subst fe_0_8_2
  have e_hE_0_3_1 := funext hE_0_3_1; subst e_hE_0_3_1
  have e_hE_0_3_2 := funext hE_0_3_2; subst e_hE_0_3_2
  have e_hE_0_3_3 := funext hE_0_3_3; subst e_hE_0_3_3
  first
    | omega
  
def o_Sy_advance_15 : or_T := (297, 19, [(0, (2, 0, 0, [11])), (2, (2, 0, 0, [11])), (3, (0, 0, 1999, [])), (4, (2, 0, 0, [109])), (5, (0, 1, 2000, [])), (6, (0, -128, 127, [])), (7, (0, 32, 32, [])), (8, (0, -128, 127, [])), (9, (0, 10, 10, [])), (10, (0, 1, 47, [])), (13, (0, 1, 1, [])), (14, (0, 1, 2000, [])), (16, (0, 0, 127, [])), (17, (0, -1, -1, [])), (18, (0, 1, 1, []))], [(9, [18, 2], [6]), (9, [14, 2], [5]), (9, [3, 2], [7]), (9, [5, 2], [4]), (9, [4, 2], [3]), (20, [17, 16], [50, 0, 0, 3, 6, 0, 2, 1, 0, 0, -1, 0, 2, 0, 33, 1, 1]), (22, [16, 10], []), (24, [0, 2], []), (101, [2, 18], [6]), (8, [17], [2]), (20, [17, 16], [50, 0, 0, 3, 6, 0, 2, 1, 0, 0, -1, 0, 2, 0, 33, 1, 1]), (22, [16, 10], []), (8, [10], [4]), (101, [2, 14], [5]), (1, [14, 3, 13], []), (9, [3, 2], [5]), (10, [10, 4, 3], []), (7, [3, 5], [2]), (101, [2, 3], [7]), (7, [8, 9], [1]), (10, [8, 4, 3], []), (7, [6, 7], [1]), (10, [6, 4, 3], []), (7, [3, 5], [2])], [], [], [(20, [0], [50, 2, 0, 6, 8, 3, 7, 7, 3, 2, 0, 6, 0, 3, 0, 3, 2, 0, 8, 0, 9999])], [], [(14, 3, 1, 1), (14, 5, -4294967296, 0), (3, 5, -4294967296, -1)])
theorem oo_Sy_advance_15 {kA : Nat → ClassId} : or_ok PRD kA GG o_Sy_advance_15 := by
  refine or_mk fun A ta ws vs hD hth hl => ?_
  intro t0 r0 t2 r2 t3 k3 t4 r4 t5 k5 t6 k6 t7 k7 t8 k8 t9 k9 t10 k10 t13 k13 t14 k14 t16 k16 t17 k17 t18 k18 d0 d1 d2 f0 f1 f2 f3 f4 f5 f6 f7 ta1 w1 le1 s1 f9 f10 f11 f12 ta2 w2 le2 s2 f14 f15 f16 f17 ta3 w3 le3 s3 f19 f20 f21 f22 f23
  replace f0 := shm_110 f0
  replace f7 := shm_5 f7
  have s1 : (∀ b j, w_el ws b j = w_el w1 b j) ∧ ∀ b j, w_fd ws b j = if b = v_ad (n_v vs 2) ∧ j = 6 then n_v vs 18 else w_fd w1 b j := s1.2
  have s2 : (∀ b j, w_el w1 b j = w_el w2 b j) ∧ ∀ b j, w_fd w1 b j = if b = v_ad (n_v vs 2) ∧ j = 5 then n_v vs 14 else w_fd w2 b j := s2.2
  have s3 : (∀ b j, w_el w2 b j = w_el w3 b j) ∧ ∀ b j, w_fd w2 b j = if b = v_ad (n_v vs 2) ∧ j = 7 then n_v vs 3 else w_fd w3 b j := s3.2
  have q2 : n_v vs 2 = n_v vs 0 := f7.symm
  simp only [q2] at f0
  rw [q2] at s1
  rw [q2] at s2
  rw [q2] at s3
  have g0 : v_iv (n_v vs 18) = w_fi ws (n_v vs 0) 6 := congrArg v_iv f0
  have fe_0_4_1 : w_fi ws (n_v vs 0) 4 = w_fi w1 (n_v vs 0) 4 := by show v_iv (w_fd _ _ _) = v_iv (w_fd _ _ _); rw [s1.2, if_neg (fun e => absurd e.2 (by decide))]
  have fe_0_5_1 : w_fi ws (n_v vs 0) 5 = w_fi w1 (n_v vs 0) 5 := by show v_iv (w_fd _ _ _) = v_iv (w_fd _ _ _); rw [s1.2, if_neg (fun e => absurd e.2 (by decide))]
  have fe_0_7_1 : w_fi ws (n_v vs 0) 7 = w_fi w1 (n_v vs 0) 7 := by show v_iv (w_fd _ _ _) = v_iv (w_fd _ _ _); rw [s1.2, if_neg (fun e => absurd e.2 (by decide))]
  have fe_0_8_1 : w_fi ws (n_v vs 0) 8 = w_fi w1 (n_v vs 0) 8 := by show v_iv (w_fd _ _ _) = v_iv (w_fd _ _ _); rw [s1.2, if_neg (fun e => absurd e.2 (by decide))]
  have fe_0_4_2 : w_fi w1 (n_v vs 0) 4 = w_fi w2 (n_v vs 0) 4 := by show v_iv (w_fd _ _ _) = v_iv (w_fd _ _ _); rw [s2.2, if_neg (fun e => absurd e.2 (by decide))]
  have fe_0_6_2 : w_fi w1 (n_v vs 0) 6 = w_fi w2 (n_v vs 0) 6 := by show v_iv (w_fd _ _ _) = v_iv (w_fd _ _ _); rw [s2.2, if_neg (fun e => absurd e.2 (by decide))]
  have fe_0_7_2 : w_fi w1 (n_v vs 0) 7 = w_fi w2 (n_v vs 0) 7 := by show v_iv (w_fd _ _ _) = v_iv (w_fd _ _ _); rw [s2.2, if_neg (fun e => absurd e.2 (by decide))]
  have fe_0_8_2 : w_fi w1 (n_v vs 0) 8 = w_fi w2 (n_v vs 0) 8 := by show v_iv (w_fd _ _ _) = v_iv (w_fd _ _ _); rw [s2.2, if_neg (fun e => absurd e.2 (by decide))]
  have hE_0_3_1 : ∀ j : Int, w_ei ws (w_ar ws (n_v vs 0) 3) j = w_ei w1 (w_ar ws (n_v vs 0) 3) j := fun j => s1.1 _ _
  have hE_0_3_2 : ∀ j : Int, w_ei w1 (w_ar ws (n_v vs 0) 3) j = w_ei w2 (w_ar ws (n_v vs 0) 3) j := fun j => s2.1 _ _
  have hE_0_3_3 : ∀ j : Int, w_ei w2 (w_ar ws (n_v vs 0) 3) j = w_ei w3 (w_ar ws (n_v vs 0) 3) j := fun j => s3.1 _ _
  have kz_0_4 := fdq_306 hD hth r0
  have kz_0_5 := fdq_36 hD hth r0
  have kz_0_6 := fdq_304 hD hth r0
  have kz_0_7 := fdq_37 hD hth r0
  have kz_0_8 := fdq_305 hD hth r0
  have nf0 : fc_1 PRD (20, [0], [50, 2, 0, 6, 8, 3, 7, 7, 3, 2, 0, 6, 0, 3, 0, 3, 2, 0, 8, 0, 9999]) ws (vs) := ⟨nf_in hl rfl, sgq_1747 (vc_Sy_advance_15_0 (v_iv (n_v vs 18)) (w_fi ws (n_v vs 0) 6) (w_fi ws (n_v vs 0) 5) (w_fi ws (n_v vs 0) 7) (w_fi ws (n_v vs 0) 4) (w_ei w2 (w_ar ws (n_v vs 0) 3)) (w_ei w3 (w_ar ws (n_v vs 0) 3)) (w_fi w1 (n_v vs 0) 4) (w_fi w1 (n_v vs 0) 5) (w_fi w1 (n_v vs 0) 7) (w_fi ws (n_v vs 0) 8) (w_fi w1 (n_v vs 0) 8) (w_fi w2 (n_v vs 0) 4) (w_fi w1 (n_v vs 0) 6) (w_fi w2 (n_v vs 0) 6) (w_fi w2 (n_v vs 0) 7) (w_fi w2 (n_v vs 0) 8) (w_ei ws (w_ar ws (n_v vs 0) 3)) (w_ei w1 (w_ar ws (n_v vs 0) 3)) k18 g0 fe_0_4_1 fe_0_5_1 fe_0_7_1 fe_0_8_1 fe_0_4_2 fe_0_6_2 fe_0_7_2 fe_0_8_2 hE_0_3_1 hE_0_3_2 hE_0_3_3 kz_0_4 kz_0_5 kz_0_6 kz_0_7 kz_0_8)⟩
  refine ⟨(fun _ h => (by cases h)), [], trivial, ?_, (fun _ h => (by cases h))⟩
  rw [List.append_nil]
  exact List.forall_mem_cons.mpr ⟨⟨show (20 : Nat) < 100 from by decide, nf0⟩, (fun _ h => (by cases h))⟩
set_option maxHeartbeats 4000000 in
theorem vc_Sy_advance_16_0 (x3 : Int) (x6 : Int) (x7 : Int) (x8 : Int) (x9 : Int) (x10 : Int) (x16 : Int) (x17 : Int) (kind_0 : Int) (next_0 : Int) (begin_0 : Int) (end_0 : Int) (bytes_2 : Int → Int) (bytes_3 : Int → Int) (end_1 : Int) (next_1 : Int) (begin_1 : Int) (number_0 : Int) (number_1 : Int) (end_2 : Int) (kind_1 : Int) (kind_2 : Int) (begin_2 : Int) (number_2 : Int) (bytes_0 : Int → Int) (bytes_1 : Int → Int) (k3 : 0 ≤ x3 ∧ x3 ≤ 1999) (k6 : (-128) ≤ x6 ∧ x6 ≤ 127) (k7 : 32 ≤ x7 ∧ x7 ≤ 32) (k8 : (-128) ≤ x8 ∧ x8 ≤ 127) (k9 : 10 ≤ x9 ∧ x9 ≤ 10) (k10 : 1 ≤ x10 ∧ x10 ≤ 47) (k16 : 0 ≤ x16 ∧ x16 ≤ 127) (k17 : 0 ≤ x17 ∧ x17 ≤ 13) (g0 : x10 = kind_0) (f6 : x16 = x10) (f10 : (x17 ≤ (-1)) ∨ (33 ≤ x16)) (h16 : x10 = bytes_2 (x3)) (f19 : x8 ≠ x9) (h20 : x8 = bytes_3 (x3)) (f21 : x6 ≠ x7) (h22 : x6 = bytes_3 (x3)) (fe_0_4_1 : end_0 = end_1) (fe_0_5_1 : next_0 = next_1) (fe_0_7_1 : begin_0 = begin_1) (fe_0_8_1 : number_0 = number_1) (fe_0_4_2 : end_1 = end_2) (fe_0_6_2 : kind_1 = kind_2) (fe_0_7_2 : begin_1 = begin_2) (fe_0_8_2 : number_1 = number_2) (hE_0_3_1 : ∀ j : Int, bytes_0 j = bytes_1 j) (hE_0_3_2 : ∀ j : Int, bytes_1 j = bytes_2 j) (hE_0_3_3 : ∀ j : Int, bytes_2 j = bytes_3 j) (kz_0_4 : 0 ≤ end_0 ∧ end_0 ≤ 2000) (kz_0_5 : 0 ≤ next_0 ∧ next_0 ≤ 2000) (kz_0_6 : 0 ≤ kind_0 ∧ kind_0 ≤ 127) (kz_0_7 : 0 ≤ begin_0 ∧ begin_0 ≤ 2000) (kz_0_8 : 0 ≤ number_0 ∧ number_0 ≤ 1000000) : (kind_0 ≠ 3) ∨ (number_0 ≤ 9999) := by
  subst fe_0_4_1
  subst fe_0_5_1
  subst fe_0_7_1
  subst fe_0_8_1
  subst fe_0_4_2
  subst fe_0_6_2
  subst fe_0_7_2
  subst fe_0_8_2
  have e_hE_0_3_1 := funext hE_0_3_1; subst e_hE_0_3_1
  have e_hE_0_3_2 := funext hE_0_3_2; subst e_hE_0_3_2
  have e_hE_0_3_3 := funext hE_0_3_3; subst e_hE_0_3_3
  first
    | omega
  
def o_Sy_advance_16 : or_T := (297, 18, [(0, (2, 0, 0, [11])), (2, (2, 0, 0, [11])), (3, (0, 0, 1999, [])), (4, (2, 0, 0, [109])), (5, (0, 1, 2000, [])), (6, (0, -128, 127, [])), (7, (0, 32, 32, [])), (8, (0, -128, 127, [])), (9, (0, 10, 10, [])), (10, (0, 1, 47, [])), (13, (0, 1, 1, [])), (14, (0, 1, 2000, [])), (16, (0, 0, 127, [])), (17, (0, 0, 13, []))], [(9, [10, 2], [6]), (9, [14, 2], [5]), (9, [3, 2], [7]), (9, [5, 2], [4]), (9, [4, 2], [3]), (20, [17, 16], [50, 0, 0, 3, 6, 0, 2, 1, 0, 0, -1, 0, 2, 0, 33, 1, 1]), (22, [16, 10], []), (24, [0, 2], []), (101, [2, 10], [6]), (8, [17], [3]), (20, [17, 16], [50, 0, 0, 3, 6, 0, 2, 1, 0, 0, -1, 0, 2, 0, 33, 1, 1]), (22, [16, 10], []), (8, [10], [4]), (101, [2, 14], [5]), (1, [14, 3, 13], []), (9, [3, 2], [5]), (10, [10, 4, 3], []), (7, [3, 5], [2]), (101, [2, 3], [7]), (7, [8, 9], [1]), (10, [8, 4, 3], []), (7, [6, 7], [1]), (10, [6, 4, 3], []), (7, [3, 5], [2])], [], [], [(20, [0], [50, 2, 0, 6, 8, 3, 7, 7, 3, 2, 0, 6, 0, 3, 0, 3, 2, 0, 8, 0, 9999])], [], [(14, 3, 1, 1), (14, 5, -4294967296, 0), (3, 5, -4294967296, -1)])
theorem oo_Sy_advance_16 {kA : Nat → ClassId} : or_ok PRD kA GG o_Sy_advance_16 := by
  refine or_mk fun A ta ws vs hD hth hl => ?_
  intro t0 r0 t2 r2 t3 k3 t4 r4 t5 k5 t6 k6 t7 k7 t8 k8 t9 k9 t10 k10 t13 k13 t14 k14 t16 k16 t17 k17 d0 d1 d2 f0 f1 f2 f3 f4 f5 f6 f7 ta1 w1 le1 s1 f9 f10 f11 f12 ta2 w2 le2 s2 f14 f15 f16 f17 ta3 w3 le3 s3 f19 f20 f21 f22 f23
  replace f0 := shm_110 f0
  replace f4 := shm_149 f4
  replace f7 := shm_5 f7
  have s1 : (∀ b j, w_el ws b j = w_el w1 b j) ∧ ∀ b j, w_fd ws b j = if b = v_ad (n_v vs 2) ∧ j = 6 then n_v vs 10 else w_fd w1 b j := s1.2
  have s2 : (∀ b j, w_el w1 b j = w_el w2 b j) ∧ ∀ b j, w_fd w1 b j = if b = v_ad (n_v vs 2) ∧ j = 5 then n_v vs 14 else w_fd w2 b j := s2.2
  replace f16 := shm_106 f16
  have s3 : (∀ b j, w_el w2 b j = w_el w3 b j) ∧ ∀ b j, w_fd w2 b j = if b = v_ad (n_v vs 2) ∧ j = 7 then n_v vs 3 else w_fd w3 b j := s3.2
  replace f20 := shm_106 f20
  replace f22 := shm_106 f22
  have q2 : n_v vs 2 = n_v vs 0 := f7.symm
  simp only [q2] at f0 f4
  rw [q2] at s1
  rw [q2] at s2
  rw [q2] at s3
  have ad_4 : v_ad (n_v vs 4) = w_ar ws (n_v vs 0) 3 := congrArg v_ad f4
  have g0 : v_iv (n_v vs 10) = w_fi ws (n_v vs 0) 6 := congrArg v_iv f0
  simp only [ad_4] at f16
  have h16 : v_iv (n_v vs 10) = w_ei w2 (w_ar ws (n_v vs 0) 3) (v_iv (n_v vs 3)) := f16
  simp only [ad_4] at f20
  have h20 : v_iv (n_v vs 8) = w_ei w3 (w_ar ws (n_v vs 0) 3) (v_iv (n_v vs 3)) := f20
  simp only [ad_4] at f22
  have h22 : v_iv (n_v vs 6) = w_ei w3 (w_ar ws (n_v vs 0) 3) (v_iv (n_v vs 3)) := f22
  have fe_0_4_1 : w_fi ws (n_v vs 0) 4 = w_fi w1 (n_v vs 0) 4 := by show v_iv (w_fd _ _ _) = v_iv (w_fd _ _ _); rw [s1.2, if_neg (fun e => absurd e.2 (by decide))]
  have fe_0_5_1 : w_fi ws (n_v vs 0) 5 = w_fi w1 (n_v vs 0) 5 := by show v_iv (w_fd _ _ _) = v_iv (w_fd _ _ _); rw [s1.2, if_neg (fun e => absurd e.2 (by decide))]
  have fe_0_7_1 : w_fi ws (n_v vs 0) 7 = w_fi w1 (n_v vs 0) 7 := by show v_iv (w_fd _ _ _) = v_iv (w_fd _ _ _); rw [s1.2, if_neg (fun e => absurd e.2 (by decide))]
  have fe_0_8_1 : w_fi ws (n_v vs 0) 8 = w_fi w1 (n_v vs 0) 8 := by show v_iv (w_fd _ _ _) = v_iv (w_fd _ _ _); rw [s1.2, if_neg (fun e => absurd e.2 (by decide))]
  have fe_0_4_2 : w_fi w1 (n_v vs 0) 4 = w_fi w2 (n_v vs 0) 4 := by show v_iv (w_fd _ _ _) = v_iv (w_fd _ _ _); rw [s2.2, if_neg (fun e => absurd e.2 (by decide))]
  have fe_0_6_2 : w_fi w1 (n_v vs 0) 6 = w_fi w2 (n_v vs 0) 6 := by show v_iv (w_fd _ _ _) = v_iv (w_fd _ _ _); rw [s2.2, if_neg (fun e => absurd e.2 (by decide))]
  have fe_0_7_2 : w_fi w1 (n_v vs 0) 7 = w_fi w2 (n_v vs 0) 7 := by show v_iv (w_fd _ _ _) = v_iv (w_fd _ _ _); rw [s2.2, if_neg (fun e => absurd e.2 (by decide))]
  have fe_0_8_2 : w_fi w1 (n_v vs 0) 8 = w_fi w2 (n_v vs 0) 8 := by show v_iv (w_fd _ _ _) = v_iv (w_fd _ _ _); rw [s2.2, if_neg (fun e => absurd e.2 (by decide))]
  have hE_0_3_1 : ∀ j : Int, w_ei ws (w_ar ws (n_v vs 0) 3) j = w_ei w1 (w_ar ws (n_v vs 0) 3) j := fun j => s1.1 _ _
  have hE_0_3_2 : ∀ j : Int, w_ei w1 (w_ar ws (n_v vs 0) 3) j = w_ei w2 (w_ar ws (n_v vs 0) 3) j := fun j => s2.1 _ _
  have hE_0_3_3 : ∀ j : Int, w_ei w2 (w_ar ws (n_v vs 0) 3) j = w_ei w3 (w_ar ws (n_v vs 0) 3) j := fun j => s3.1 _ _
  have kz_0_4 := fdq_306 hD hth r0
  have kz_0_5 := fdq_36 hD hth r0
  have kz_0_6 := fdq_304 hD hth r0
  have kz_0_7 := fdq_37 hD hth r0
  have kz_0_8 := fdq_305 hD hth r0
  have nf0 : fc_1 PRD (20, [0], [50, 2, 0, 6, 8, 3, 7, 7, 3, 2, 0, 6, 0, 3, 0, 3, 2, 0, 8, 0, 9999]) ws (vs) := ⟨nf_in hl rfl, sgq_1747 (vc_Sy_advance_16_0 (v_iv (n_v vs 3)) (v_iv (n_v vs 6)) (v_iv (n_v vs 7)) (v_iv (n_v vs 8)) (v_iv (n_v vs 9)) (v_iv (n_v vs 10)) (v_iv (n_v vs 16)) (v_iv (n_v vs 17)) (w_fi ws (n_v vs 0) 6) (w_fi ws (n_v vs 0) 5) (w_fi ws (n_v vs 0) 7) (w_fi ws (n_v vs 0) 4) (w_ei w2 (w_ar ws (n_v vs 0) 3)) (w_ei w3 (w_ar ws (n_v vs 0) 3)) (w_fi w1 (n_v vs 0) 4) (w_fi w1 (n_v vs 0) 5) (w_fi w1 (n_v vs 0) 7) (w_fi ws (n_v vs 0) 8) (w_fi w1 (n_v vs 0) 8) (w_fi w2 (n_v vs 0) 4) (w_fi w1 (n_v vs 0) 6) (w_fi w2 (n_v vs 0) 6) (w_fi w2 (n_v vs 0) 7) (w_fi w2 (n_v vs 0) 8) (w_ei ws (w_ar ws (n_v vs 0) 3)) (w_ei w1 (w_ar ws (n_v vs 0) 3)) k3 k6 k7 k8 k9 k10 k16 k17 g0 (shm_47 f6) (shm_49 f10) h16 (shm_40 f19) h20 (shm_40 f21) h22 fe_0_4_1 fe_0_5_1 fe_0_7_1 fe_0_8_1 fe_0_4_2 fe_0_6_2 fe_0_7_2 fe_0_8_2 hE_0_3_1 hE_0_3_2 hE_0_3_3 kz_0_4 kz_0_5 kz_0_6 kz_0_7 kz_0_8)⟩
  refine ⟨(fun _ h => (by cases h)), [], trivial, ?_, (fun _ h => (by cases h))⟩
  rw [List.append_nil]
  exact List.forall_mem_cons.mpr ⟨⟨show (20 : Nat) < 100 from by decide, nf0⟩, (fun _ h => (by cases h))⟩
set_option maxHeartbeats 4000000 in
theorem vc_Sy_advance_17_r0 (x3 : Int) (x10 : Int) (x16 : Int) (begin_0 : Int) (end_0 : Int) (bytes_1 : Int → Int) (bytes_2 : Int → Int) (end_1 : Int) (begin_1 : Int) (bytes_0 : Int → Int) (k3 : 0 ≤ x3 ∧ x3 ≤ 1999) (k10 : 58 ≤ x10 ∧ x10 ≤ 96) (k16 : 0 ≤ x16 ∧ x16 ≤ 65535) (f4 : x16 = x10) (h10 : x10 = bytes_1 (x3)) (fe_0_4_1 : end_0 = end_1) (fe_0_7_1 : begin_0 = begin_1) (hE_0_3_1 : ∀ j : Int, bytes_0 j = bytes_1 j) (hE_0_3_2 : ∀ j : Int, bytes_1 j = bytes_2 j) (kz_0_4 : 0 ≤ end_0 ∧ end_0 ≤ 2000) (kz_0_7 : 0 ≤ begin_0 ∧ begin_0 ≤ 2000) : 0 ≤ x16 ∧ x16 ≤ 127 := by
  subst fe_0_4_1
  subst fe_0_7_1
  have e_hE_0_3_1 := funext hE_0_3_1; subst e_hE_0_3_1
  have e_hE_0_3_2 := funext hE_0_3_2; subst e_hE_0_3_2
  first
    | omega
  
def o_Sy_advance_17 : or_T := (283, 17, [(0, (2, 0, 0, [11])), (2, (2, 0, 0, [11])), (3, (0, 0, 1999, [])), (4, (2, 0, 0, [109])), (5, (0, 1, 2000, [])), (6, (0, -128, 127, [])), (7, (0, 32, 32, [])), (8, (0, -128, 127, [])), (9, (0, 10, 10, [])), (10, (0, 58, 96, [])), (13, (0, 1, 1, [])), (14, (0, 1, 2000, [])), (16, (0, 0, 65535, []))], [(9, [14, 2], [5]), (9, [3, 2], [7]), (9, [5, 2], [4]), (9, [4, 2], [3]), (22, [16, 10], []), (8, [10], [4]), (24, [0, 2], []), (101, [2, 14], [5]), (1, [14, 3, 13], []), (9, [3, 2], [5]), (10, [10, 4, 3], []), (7, [3, 5], [2]), (101, [2, 3], [7]), (7, [8, 9], [1]), (10, [8, 4, 3], []), (7, [6, 7], [1]), (10, [6, 4, 3], []), (7, [3, 5], [2])], [(16, (0, 0, 127, []))], [], [], [], [(14, 3, 1, 1), (14, 5, -4294967296, 0), (3, 5, -4294967296, -1)])
theorem oo_Sy_advance_17 {kA : Nat → ClassId} : or_ok PRD kA GG o_Sy_advance_17 := by
  refine or_mk fun A ta ws vs hD hth hl => ?_
  intro t0 r0 t2 r2 t3 k3 t4 r4 t5 k5 t6 k6 t7 k7 t8 k8 t9 k9 t10 k10 t13 k13 t14 k14 t16 k16 d0 d1 d2 f0 f1 f2 f3 f4 f5 f6 ta1 w1 le1 s1 f8 f9 f10 f11 ta2 w2 le2 s2 f13 f14 f15 f16 f17
  replace f3 := shm_149 f3
  replace f6 := shm_5 f6
  have s1 : (∀ b j, w_el ws b j = w_el w1 b j) ∧ ∀ b j, w_fd ws b j = if b = v_ad (n_v vs 2) ∧ j = 5 then n_v vs 14 else w_fd w1 b j := s1.2
  replace f10 := shm_106 f10
  have s2 : (∀ b j, w_el w1 b j = w_el w2 b j) ∧ ∀ b j, w_fd w1 b j = if b = v_ad (n_v vs 2) ∧ j = 7 then n_v vs 3 else w_fd w2 b j := s2.2
  have q2 : n_v vs 2 = n_v vs 0 := f6.symm
  simp only [q2] at f3
  rw [q2] at s1
  rw [q2] at s2
  have ad_4 : v_ad (n_v vs 4) = w_ar ws (n_v vs 0) 3 := congrArg v_ad f3
  simp only [ad_4] at f10
  have h10 : v_iv (n_v vs 10) = w_ei w1 (w_ar ws (n_v vs 0) 3) (v_iv (n_v vs 3)) := f10
  have fe_0_4_1 : w_fi ws (n_v vs 0) 4 = w_fi w1 (n_v vs 0) 4 := by show v_iv (w_fd _ _ _) = v_iv (w_fd _ _ _); rw [s1.2, if_neg (fun e => absurd e.2 (by decide))]
  have fe_0_7_1 : w_fi ws (n_v vs 0) 7 = w_fi w1 (n_v vs 0) 7 := by show v_iv (w_fd _ _ _) = v_iv (w_fd _ _ _); rw [s1.2, if_neg (fun e => absurd e.2 (by decide))]
  have hE_0_3_1 : ∀ j : Int, w_ei ws (w_ar ws (n_v vs 0) 3) j = w_ei w1 (w_ar ws (n_v vs 0) 3) j := fun j => s1.1 _ _
  have hE_0_3_2 : ∀ j : Int, w_ei w1 (w_ar ws (n_v vs 0) 3) j = w_ei w2 (w_ar ws (n_v vs 0) 3) j := fun j => s2.1 _ _
  have kz_0_4 := fdq_306 hD hth r0
  have kz_0_7 := fdq_37 hD hth r0
  have hrf0 : 0 ≤ v_iv (n_v vs 16) ∧ v_iv (n_v vs 16) ≤ 127 := vc_Sy_advance_17_r0 (v_iv (n_v vs 3)) (v_iv (n_v vs 10)) (v_iv (n_v vs 16)) (w_fi ws (n_v vs 0) 7) (w_fi ws (n_v vs 0) 4) (w_ei w1 (w_ar ws (n_v vs 0) 3)) (w_ei w2 (w_ar ws (n_v vs 0) 3)) (w_fi w1 (n_v vs 0) 4) (w_fi w1 (n_v vs 0) 7) (w_ei ws (w_ar ws (n_v vs 0) 3)) k3 k10 k16 (shm_47 f4) h10 fe_0_4_1 fe_0_7_1 hE_0_3_1 hE_0_3_2 kz_0_4 kz_0_7
  have rf16 : tv_ok ta (0, 0, 127, []) (n_v vs 16) := tv_in t16 (by omega) (by omega)
  refine ⟨List.forall_mem_cons.mpr ⟨rf16, (fun _ h => (by cases h))⟩, [], trivial, ?_, (fun _ h => (by cases h))⟩
  rw [List.append_nil]
  exact (fun _ h => (by cases h))
set_option maxHeartbeats 4000000 in
theorem vc_Sy_advance_18_0 (x18 : Int) (kind_0 : Int) (next_0 : Int) (begin_0 : Int) (end_0 : Int) (bytes_2 : Int → Int) (bytes_3 : Int → Int) (end_1 : Int) (next_1 : Int) (begin_1 : Int) (number_0 : Int) (number_1 : Int) (end_2 : Int) (kind_1 : Int) (kind_2 : Int) (begin_2 : Int) (number_2 : Int) (bytes_0 : Int → Int) (bytes_1 : Int → Int) (k18 : 1 ≤ x18 ∧ x18 ≤ 1) (g0 : x18 = kind_0) (fe_0_4_1 : end_0 = end_1) (fe_0_5_1 : next_0 = next_1) (fe_0_7_1 : begin_0 = begin_1) (fe_0_8_1 : number_0 = number_1) (fe_0_4_2 : end_1 = end_2) (fe_0_6_2 : kind_1 = kind_2) (fe_0_7_2 : begin_1 = begin_2) (fe_0_8_2 : number_1 = number_2) (hE_0_3_1 : ∀ j : Int, bytes_0 j = bytes_1 j) (hE_0_3_2 : ∀ j : Int, bytes_1 j = bytes_2 j) (hE_0_3_3 : ∀ j : Int, bytes_2 j = bytes_3 j) (kz_0_4 : 0 ≤ end_0 ∧ end_0 ≤ 2000) (kz_0_5 : 0 ≤ next_0 ∧ next_0 ≤ 2000) (kz_0_6 : 0 ≤ kind_0 ∧ kind_0 ≤ 127) (kz_0_7 : 0 ≤ begin_0 ∧ begin_0 ≤ 2000) (kz_0_8 : 0 ≤ number_0 ∧ number_0 ≤ 1000000) : (kind_0 ≠ 3) ∨ (number_0 ≤ 9999) := by
  subst fe_0_4_1
  subst fe_0_5_1
  subst fe_0_7_1
  subst fe_0_8_1
  subst fe_0_4_2
  subst fe_0_6_2
  subst fe_0_7_2
  subst fe_0_8_2
  have e_hE_0_3_1 := funext hE_0_3_1; subst e_hE_0_3_1
  have e_hE_0_3_2 := funext hE_0_3_2; subst e_hE_0_3_2
  have e_hE_0_3_3 := funext hE_0_3_3; subst e_hE_0_3_3
  first
    | omega
  
def o_Sy_advance_18 : or_T := (297, 19, [(0, (2, 0, 0, [11])), (2, (2, 0, 0, [11])), (3, (0, 0, 1999, [])), (4, (2, 0, 0, [109])), (5, (0, 1, 2000, [])), (6, (0, -128, 127, [])), (7, (0, 32, 32, [])), (8, (0, -128, 127, [])), (9, (0, 10, 10, [])), (10, (0, 58, 96, [])), (13, (0, 1, 1, [])), (14, (0, 1, 2000, [])), (16, (0, 0, 127, [])), (17, (0, -1, -1, [])), (18, (0, 1, 1, []))], [(9, [18, 2], [6]), (9, [14, 2], [5]), (9, [3, 2], [7]), (9, [5, 2], [4]), (9, [4, 2], [3]), (20, [17, 16], [50, 0, 0, 3, 6, 0, 2, 1, 0, 0, -1, 0, 2, 0, 33, 1, 1]), (22, [16, 10], []), (24, [0, 2], []), (101, [2, 18], [6]), (8, [17], [2]), (20, [17, 16], [50, 0, 0, 3, 6, 0, 2, 1, 0, 0, -1, 0, 2, 0, 33, 1, 1]), (22, [16, 10], []), (8, [10], [4]), (101, [2, 14], [5]), (1, [14, 3, 13], []), (9, [3, 2], [5]), (10, [10, 4, 3], []), (7, [3, 5], [2]), (101, [2, 3], [7]), (7, [8, 9], [1]), (10, [8, 4, 3], []), (7, [6, 7], [1]), (10, [6, 4, 3], []), (7, [3, 5], [2])], [], [], [(20, [0], [50, 2, 0, 6, 8, 3, 7, 7, 3, 2, 0, 6, 0, 3, 0, 3, 2, 0, 8, 0, 9999])], [], [(14, 3, 1, 1), (14, 5, -4294967296, 0), (3, 5, -4294967296, -1)])
theorem oo_Sy_advance_18 {kA : Nat → ClassId} : or_ok PRD kA GG o_Sy_advance_18 := by
  refine or_mk fun A ta ws vs hD hth hl => ?_
  intro t0 r0 t2 r2 t3 k3 t4 r4 t5 k5 t6 k6 t7 k7 t8 k8 t9 k9 t10 k10 t13 k13 t14 k14 t16 k16 t17 k17 t18 k18 d0 d1 d2 f0 f1 f2 f3 f4 f5 f6 f7 ta1 w1 le1 s1 f9 f10 f11 f12 ta2 w2 le2 s2 f14 f15 f16 f17 ta3 w3 le3 s3 f19 f20 f21 f22 f23
  replace f0 := shm_110 f0
  replace f7 := shm_5 f7
  have s1 : (∀ b j, w_el ws b j = w_el w1 b j) ∧ ∀ b j, w_fd ws b j = if b = v_ad (n_v vs 2) ∧ j = 6 then n_v vs 18 else w_fd w1 b j := s1.2
  have s2 : (∀ b j, w_el w1 b j = w_el w2 b j) ∧ ∀ b j, w_fd w1 b j = if b = v_ad (n_v vs 2) ∧ j = 5 then n_v vs 14 else w_fd w2 b j := s2.2
  have s3 : (∀ b j, w_el w2 b j = w_el w3 b j) ∧ ∀ b j, w_fd w2 b j = if b = v_ad (n_v vs 2) ∧ j = 7 then n_v vs 3 else w_fd w3 b j := s3.2
  have q2 : n_v vs 2 = n_v vs 0 := f7.symm
  simp only [q2] at f0
  rw [q2] at s1
  rw [q2] at s2
  rw [q2] at s3
  have g0 : v_iv (n_v vs 18) = w_fi ws (n_v vs 0) 6 := congrArg v_iv f0
  have fe_0_4_1 : w_fi ws (n_v vs 0) 4 = w_fi w1 (n_v vs 0) 4 := by show v_iv (w_fd _ _ _) = v_iv (w_fd _ _ _); rw [s1.2, if_neg (fun e => absurd e.2 (by decide))]
  have fe_0_5_1 : w_fi ws (n_v vs 0) 5 = w_fi w1 (n_v vs 0) 5 := by show v_iv (w_fd _ _ _) = v_iv (w_fd _ _ _); rw [s1.2, if_neg (fun e => absurd e.2 (by decide))]
  have fe_0_7_1 : w_fi ws (n_v vs 0) 7 = w_fi w1 (n_v vs 0) 7 := by show v_iv (w_fd _ _ _) = v_iv (w_fd _ _ _); rw [s1.2, if_neg (fun e => absurd e.2 (by decide))]
  have fe_0_8_1 : w_fi ws (n_v vs 0) 8 = w_fi w1 (n_v vs 0) 8 := by show v_iv (w_fd _ _ _) = v_iv (w_fd _ _ _); rw [s1.2, if_neg (fun e => absurd e.2 (by decide))]
  have fe_0_4_2 : w_fi w1 (n_v vs 0) 4 = w_fi w2 (n_v vs 0) 4 := by show v_iv (w_fd _ _ _) = v_iv (w_fd _ _ _); rw [s2.2, if_neg (fun e => absurd e.2 (by decide))]
  have fe_0_6_2 : w_fi w1 (n_v vs 0) 6 = w_fi w2 (n_v vs 0) 6 := by show v_iv (w_fd _ _ _) = v_iv (w_fd _ _ _); rw [s2.2, if_neg (fun e => absurd e.2 (by decide))]
  have fe_0_7_2 : w_fi w1 (n_v vs 0) 7 = w_fi w2 (n_v vs 0) 7 := by show v_iv (w_fd _ _ _) = v_iv (w_fd _ _ _); rw [s2.2, if_neg (fun e => absurd e.2 (by decide))]
  have fe_0_8_2 : w_fi w1 (n_v vs 0) 8 = w_fi w2 (n_v vs 0) 8 := by show v_iv (w_fd _ _ _) = v_iv (w_fd _ _ _); rw [s2.2, if_neg (fun e => absurd e.2 (by decide))]
  have hE_0_3_1 : ∀ j : Int, w_ei ws (w_ar ws (n_v vs 0) 3) j = w_ei w1 (w_ar ws (n_v vs 0) 3) j := fun j => s1.1 _ _
  have hE_0_3_2 : ∀ j : Int, w_ei w1 (w_ar ws (n_v vs 0) 3) j = w_ei w2 (w_ar ws (n_v vs 0) 3) j := fun j => s2.1 _ _
  have hE_0_3_3 : ∀ j : Int, w_ei w2 (w_ar ws (n_v vs 0) 3) j = w_ei w3 (w_ar ws (n_v vs 0) 3) j := fun j => s3.1 _ _
  have kz_0_4 := fdq_306 hD hth r0
  have kz_0_5 := fdq_36 hD hth r0
  have kz_0_6 := fdq_304 hD hth r0
  have kz_0_7 := fdq_37 hD hth r0
  have kz_0_8 := fdq_305 hD hth r0
  have nf0 : fc_1 PRD (20, [0], [50, 2, 0, 6, 8, 3, 7, 7, 3, 2, 0, 6, 0, 3, 0, 3, 2, 0, 8, 0, 9999]) ws (vs) := ⟨nf_in hl rfl, sgq_1747 (vc_Sy_advance_18_0 (v_iv (n_v vs 18)) (w_fi ws (n_v vs 0) 6) (w_fi ws (n_v vs 0) 5) (w_fi ws (n_v vs 0) 7) (w_fi ws (n_v vs 0) 4) (w_ei w2 (w_ar ws (n_v vs 0) 3)) (w_ei w3 (w_ar ws (n_v vs 0) 3)) (w_fi w1 (n_v vs 0) 4) (w_fi w1 (n_v vs 0) 5) (w_fi w1 (n_v vs 0) 7) (w_fi ws (n_v vs 0) 8) (w_fi w1 (n_v vs 0) 8) (w_fi w2 (n_v vs 0) 4) (w_fi w1 (n_v vs 0) 6) (w_fi w2 (n_v vs 0) 6) (w_fi w2 (n_v vs 0) 7) (w_fi w2 (n_v vs 0) 8) (w_ei ws (w_ar ws (n_v vs 0) 3)) (w_ei w1 (w_ar ws (n_v vs 0) 3)) k18 g0 fe_0_4_1 fe_0_5_1 fe_0_7_1 fe_0_8_1 fe_0_4_2 fe_0_6_2 fe_0_7_2 fe_0_8_2 hE_0_3_1 hE_0_3_2 hE_0_3_3 kz_0_4 kz_0_5 kz_0_6 kz_0_7 kz_0_8)⟩
  refine ⟨(fun _ h => (by cases h)), [], trivial, ?_, (fun _ h => (by cases h))⟩
  rw [List.append_nil]
  exact List.forall_mem_cons.mpr ⟨⟨show (20 : Nat) < 100 from by decide, nf0⟩, (fun _ h => (by cases h))⟩
set_option maxHeartbeats 4000000 in
theorem vc_Sy_advance_19_0 (x3 : Int) (x10 : Int) (kind_0 : Int) (next_0 : Int) (begin_0 : Int) (end_0 : Int) (bytes_2 : Int → Int) (bytes_3 : Int → Int) (end_1 : Int) (next_1 : Int) (begin_1 : Int) (number_0 : Int) (number_1 : Int) (end_2 : Int) (kind_1 : Int) (kind_2 : Int) (begin_2 : Int) (number_2 : Int) (bytes_0 : Int → Int) (bytes_1 : Int → Int) (k3 : 0 ≤ x3 ∧ x3 ≤ 1999) (k10 : 58 ≤ x10 ∧ x10 ≤ 96) (g0 : x10 = kind_0) (h16 : x10 = bytes_2 (x3)) (fe_0_4_1 : end_0 = end_1) (fe_0_5_1 : next_0 = next_1) (fe_0_7_1 : begin_0 = begin_1) (fe_0_8_1 : number_0 = number_1) (fe_0_4_2 : end_1 = end_2) (fe_0_6_2 : kind_1 = kind_2) (fe_0_7_2 : begin_1 = begin_2) (fe_0_8_2 : number_1 = number_2) (hE_0_3_1 : ∀ j : Int, bytes_0 j = bytes_1 j) (hE_0_3_2 : ∀ j : Int, bytes_1 j = bytes_2 j) (hE_0_3_3 : ∀ j : Int, bytes_2 j = bytes_3 j) (kz_0_4 : 0 ≤ end_0 ∧ end_0 ≤ 2000) (kz_0_5 : 0 ≤ next_0 ∧ next_0 ≤ 2000) (kz_0_6 : 0 ≤ kind_0 ∧ kind_0 ≤ 127) (kz_0_7 : 0 ≤ begin_0 ∧ begin_0 ≤ 2000) (kz_0_8 : 0 ≤ number_0 ∧ number_0 ≤ 1000000) : (kind_0 ≠ 3) ∨ (number_0 ≤ 9999) := by
  subst fe_0_4_1
  subst fe_0_5_1
  subst fe_0_7_1
  subst fe_0_8_1
  subst fe_0_4_2
  subst fe_0_6_2
  subst fe_0_7_2
  subst fe_0_8_2
  have e_hE_0_3_1 := funext hE_0_3_1; subst e_hE_0_3_1
  have e_hE_0_3_2 := funext hE_0_3_2; subst e_hE_0_3_2
  have e_hE_0_3_3 := funext hE_0_3_3; subst e_hE_0_3_3
  first
    | omega
  
def o_Sy_advance_19 : or_T := (297, 18, [(0, (2, 0, 0, [11])), (2, (2, 0, 0, [11])), (3, (0, 0, 1999, [])), (4, (2, 0, 0, [109])), (5, (0, 1, 2000, [])), (6, (0, -128, 127, [])), (7, (0, 32, 32, [])), (8, (0, -128, 127, [])), (9, (0, 10, 10, [])), (10, (0, 58, 96, [])), (13, (0, 1, 1, [])), (14, (0, 1, 2000, [])), (16, (0, 0, 127, [])), (17, (0, 0, 13, []))], [(9, [10, 2], [6]), (9, [14, 2], [5]), (9, [3, 2], [7]), (9, [5, 2], [4]), (9, [4, 2], [3]), (20, [17, 16], [50, 0, 0, 3, 6, 0, 2, 1, 0, 0, -1, 0, 2, 0, 33, 1, 1]), (22, [16, 10], []), (24, [0, 2], []), (101, [2, 10], [6]), (8, [17], [3]), (20, [17, 16], [50, 0, 0, 3, 6, 0, 2, 1, 0, 0, -1, 0, 2, 0, 33, 1, 1]), (22, [16, 10], []), (8, [10], [4]), (101, [2, 14], [5]), (1, [14, 3, 13], []), (9, [3, 2], [5]), (10, [10, 4, 3], []), (7, [3, 5], [2]), (101, [2, 3], [7]), (7, [8, 9], [1]), (10, [8, 4, 3], []), (7, [6, 7], [1]), (10, [6, 4, 3], []), (7, [3, 5], [2])], [], [], [(20, [0], [50, 2, 0, 6, 8, 3, 7, 7, 3, 2, 0, 6, 0, 3, 0, 3, 2, 0, 8, 0, 9999])], [], [(14, 3, 1, 1), (14, 5, -4294967296, 0), (3, 5, -4294967296, -1)])
theorem oo_Sy_advance_19 {kA : Nat → ClassId} : or_ok PRD kA GG o_Sy_advance_19 := by
  refine or_mk fun A ta ws vs hD hth hl => ?_
  intro t0 r0 t2 r2 t3 k3 t4 r4 t5 k5 t6 k6 t7 k7 t8 k8 t9 k9 t10 k10 t13 k13 t14 k14 t16 k16 t17 k17 d0 d1 d2 f0 f1 f2 f3 f4 f5 f6 f7 ta1 w1 le1 s1 f9 f10 f11 f12 ta2 w2 le2 s2 f14 f15 f16 f17 ta3 w3 le3 s3 f19 f20 f21 f22 f23
  replace f0 := shm_110 f0
  replace f4 := shm_149 f4
  replace f7 := shm_5 f7
  have s1 : (∀ b j, w_el ws b j = w_el w1 b j) ∧ ∀ b j, w_fd ws b j = if b = v_ad (n_v vs 2) ∧ j = 6 then n_v vs 10 else w_fd w1 b j := s1.2
  have s2 : (∀ b j, w_el w1 b j = w_el w2 b j) ∧ ∀ b j, w_fd w1 b j = if b = v_ad (n_v vs 2) ∧ j = 5 then n_v vs 14 else w_fd w2 b j := s2.2
  replace f16 := shm_106 f16
  have s3 : (∀ b j, w_el w2 b j = w_el w3 b j) ∧ ∀ b j, w_fd w2 b j = if b = v_ad (n_v vs 2) ∧ j = 7 then n_v vs 3 else w_fd w3 b j := s3.2
  have q2 : n_v vs 2 = n_v vs 0 := f7.symm
  simp only [q2] at f0 f4
  rw [q2] at s1
  rw [q2] at s2
  rw [q2] at s3
  have ad_4 : v_ad (n_v vs 4) = w_ar ws (n_v vs 0) 3 := congrArg v_ad f4
  have g0 : v_iv (n_v vs 10) = w_fi ws (n_v vs 0) 6 := congrArg v_iv f0
  simp only [ad_4] at f16
  have h16 : v_iv (n_v vs 10) = w_ei w2 (w_ar ws (n_v vs 0) 3) (v_iv (n_v vs 3)) := f16
  have fe_0_4_1 : w_fi ws (n_v vs 0) 4 = w_fi w1 (n_v vs 0) 4 := by show v_iv (w_fd _ _ _) = v_iv (w_fd _ _ _); rw [s1.2, if_neg (fun e => absurd e.2 (by decide))]
  have fe_0_5_1 : w_fi ws (n_v vs 0) 5 = w_fi w1 (n_v vs 0) 5 := by show v_iv (w_fd _ _ _) = v_iv (w_fd _ _ _); rw [s1.2, if_neg (fun e => absurd e.2 (by decide))]
  have fe_0_7_1 : w_fi ws (n_v vs 0) 7 = w_fi w1 (n_v vs 0) 7 := by show v_iv (w_fd _ _ _) = v_iv (w_fd _ _ _); rw [s1.2, if_neg (fun e => absurd e.2 (by decide))]
  have fe_0_8_1 : w_fi ws (n_v vs 0) 8 = w_fi w1 (n_v vs 0) 8 := by show v_iv (w_fd _ _ _) = v_iv (w_fd _ _ _); rw [s1.2, if_neg (fun e => absurd e.2 (by decide))]
  have fe_0_4_2 : w_fi w1 (n_v vs 0) 4 = w_fi w2 (n_v vs 0) 4 := by show v_iv (w_fd _ _ _) = v_iv (w_fd _ _ _); rw [s2.2, if_neg (fun e => absurd e.2 (by decide))]
  have fe_0_6_2 : w_fi w1 (n_v vs 0) 6 = w_fi w2 (n_v vs 0) 6 := by show v_iv (w_fd _ _ _) = v_iv (w_fd _ _ _); rw [s2.2, if_neg (fun e => absurd e.2 (by decide))]
  have fe_0_7_2 : w_fi w1 (n_v vs 0) 7 = w_fi w2 (n_v vs 0) 7 := by show v_iv (w_fd _ _ _) = v_iv (w_fd _ _ _); rw [s2.2, if_neg (fun e => absurd e.2 (by decide))]
  have fe_0_8_2 : w_fi w1 (n_v vs 0) 8 = w_fi w2 (n_v vs 0) 8 := by show v_iv (w_fd _ _ _) = v_iv (w_fd _ _ _); rw [s2.2, if_neg (fun e => absurd e.2 (by decide))]
  have hE_0_3_1 : ∀ j : Int, w_ei ws (w_ar ws (n_v vs 0) 3) j = w_ei w1 (w_ar ws (n_v vs 0) 3) j := fun j => s1.1 _ _
  have hE_0_3_2 : ∀ j : Int, w_ei w1 (w_ar ws (n_v vs 0) 3) j = w_ei w2 (w_ar ws (n_v vs 0) 3) j := fun j => s2.1 _ _
  have hE_0_3_3 : ∀ j : Int, w_ei w2 (w_ar ws (n_v vs 0) 3) j = w_ei w3 (w_ar ws (n_v vs 0) 3) j := fun j => s3.1 _ _
  have kz_0_4 := fdq_306 hD hth r0
  have kz_0_5 := fdq_36 hD hth r0
  have kz_0_6 := fdq_304 hD hth r0
  have kz_0_7 := fdq_37 hD hth r0
  have kz_0_8 := fdq_305 hD hth r0
  have nf0 : fc_1 PRD (20, [0], [50, 2, 0, 6, 8, 3, 7, 7, 3, 2, 0, 6, 0, 3, 0, 3, 2, 0, 8, 0, 9999]) ws (vs) := ⟨nf_in hl rfl, sgq_1747 (vc_Sy_advance_19_0 (v_iv (n_v vs 3)) (v_iv (n_v vs 10)) (w_fi ws (n_v vs 0) 6) (w_fi ws (n_v vs 0) 5) (w_fi ws (n_v vs 0) 7) (w_fi ws (n_v vs 0) 4) (w_ei w2 (w_ar ws (n_v vs 0) 3)) (w_ei w3 (w_ar ws (n_v vs 0) 3)) (w_fi w1 (n_v vs 0) 4) (w_fi w1 (n_v vs 0) 5) (w_fi w1 (n_v vs 0) 7) (w_fi ws (n_v vs 0) 8) (w_fi w1 (n_v vs 0) 8) (w_fi w2 (n_v vs 0) 4) (w_fi w1 (n_v vs 0) 6) (w_fi w2 (n_v vs 0) 6) (w_fi w2 (n_v vs 0) 7) (w_fi w2 (n_v vs 0) 8) (w_ei ws (w_ar ws (n_v vs 0) 3)) (w_ei w1 (w_ar ws (n_v vs 0) 3)) k3 k10 g0 h16 fe_0_4_1 fe_0_5_1 fe_0_7_1 fe_0_8_1 fe_0_4_2 fe_0_6_2 fe_0_7_2 fe_0_8_2 hE_0_3_1 hE_0_3_2 hE_0_3_3 kz_0_4 kz_0_5 kz_0_6 kz_0_7 kz_0_8)⟩
  refine ⟨(fun _ h => (by cases h)), [], trivial, ?_, (fun _ h => (by cases h))⟩
  rw [List.append_nil]
  exact List.forall_mem_cons.mpr ⟨⟨show (20 : Nat) < 100 from by decide, nf0⟩, (fun _ h => (by cases h))⟩
set_option maxHeartbeats 4000000 in
theorem vc_Sy_advance_20_0 (x3 : Int) (x13 : Int) (number_0 : Int) (begin_0 : Int) (end_0 : Int) (next_0 : Int) (end_1 : Int) (next_1 : Int) (begin_1 : Int) (k3 : 0 ≤ x3 ∧ x3 ≤ 1999) (k13 : 0 ≤ x13 ∧ x13 ≤ 0) (g0 : x13 = number_0) (g1 : x3 = begin_0) (g3 : x3 = next_0) (fe_0_4_1 : end_0 = end_1) (fe_0_5_1 : next_0 = next_1) (fe_0_7_1 : begin_0 = begin_1) (kz_0_4 : 0 ≤ end_0 ∧ end_0 ≤ 2000) (kz_0_5 : 0 ≤ next_0 ∧ next_0 ≤ 2000) (kz_0_7 : 0 ≤ begin_0 ∧ begin_0 ≤ 2000) (kz_0_8 : 0 ≤ number_0 ∧ number_0 ≤ 1000000) : (0 ≤ number_0) ∧ ((begin_0 ≤ next_0) ∧ ((((next_0 - begin_0) ≤ 0) → (number_0 ≤ 0)) ∧ ((((next_0 - begin_0) ≤ 1) → (number_0 ≤ 9)) ∧ ((((next_0 - begin_0) ≤ 2) → (number_0 ≤ 99)) ∧ ((((next_0 - begin_0) ≤ 3) → (number_0 ≤ 999)) ∧ (((next_0 - begin_0) ≤ 4) → (number_0 ≤ 9999))))))) := by
  subst fe_0_4_1
  subst fe_0_5_1
  subst fe_0_7_1
  first
    | omega
  
def o_Sy_advance_20 : or_T := (171, 14, [(0, (2, 0, 0, [11])), (3, (0, 0, 1999, [])), (13, (0, 0, 0, []))], [(9, [13, 2], [8]), (9, [3, 2], [7]), (9, [3, 2], [5]), (24, [0, 2], []), (101, [2, 13], [8])], [], [], [(20, [2], [50, 3, 0, 8, 7, 5, 2, 7, 0, 2, 0, 0, 2, 0, 8, 2, 8, 0, 3, 2, 0, 7, 2, 0, 5, 2, 21, 4, 12, 0, 8, 5, 3, 2, 0, 5, 2, 0, 7, 0, 0, 0, 3, 2, 0, 8, 0, 0, 2, 21, 4, 12, 0, 8, 5, 3, 2, 0, 5, 2, 0, 7, 0, 1, 0, 3, 2, 0, 8, 0, 9, 2, 21, 4, 12, 0, 8, 5, 3, 2, 0, 5, 2, 0, 7, 0, 2, 0, 3, 2, 0, 8, 0, 99, 2, 21, 4, 12, 0, 8, 5, 3, 2, 0, 5, 2, 0, 7, 0, 3, 0, 3, 2, 0, 8, 0, 999, 4, 12, 0, 8, 5, 3, 2, 0, 5, 2, 0, 7, 0, 4, 0, 3, 2, 0, 8, 0, 9999])], [], [])
theorem oo_Sy_advance_20 {kA : Nat → ClassId} : or_ok PRD kA GG o_Sy_advance_20 := by
  refine or_mk fun A ta ws vs hD hth hl => ?_
  intro t0 r0 t3 k3 t13 k13 f0 f1 f3 f4 ta1 w1 le1 s1
  replace f0 := shm_143 f0
  replace f1 := shm_216 f1
  replace f3 := shm_109 f3
  replace f4 := shm_5 f4
  have s1 : (∀ b j, w_el ws b j = w_el w1 b j) ∧ ∀ b j, w_fd ws b j = if b = v_ad (n_v vs 2) ∧ j = 8 then n_v vs 13 else w_fd w1 b j := s1.2
  have q2 : n_v vs 2 = n_v vs 0 := f4.symm
  simp only [q2] at f0 f1 f3
  rw [q2] at s1
  have g0 : v_iv (n_v vs 13) = w_fi ws (n_v vs 0) 8 := congrArg v_iv f0
  have g1 : v_iv (n_v vs 3) = w_fi ws (n_v vs 0) 7 := congrArg v_iv f1
  have g3 : v_iv (n_v vs 3) = w_fi ws (n_v vs 0) 5 := congrArg v_iv f3
  have fe_0_4_1 : w_fi ws (n_v vs 0) 4 = w_fi w1 (n_v vs 0) 4 := by show v_iv (w_fd _ _ _) = v_iv (w_fd _ _ _); rw [s1.2, if_neg (fun e => absurd e.2 (by decide))]
  have fe_0_5_1 : w_fi ws (n_v vs 0) 5 = w_fi w1 (n_v vs 0) 5 := by show v_iv (w_fd _ _ _) = v_iv (w_fd _ _ _); rw [s1.2, if_neg (fun e => absurd e.2 (by decide))]
  have fe_0_7_1 : w_fi ws (n_v vs 0) 7 = w_fi w1 (n_v vs 0) 7 := by show v_iv (w_fd _ _ _) = v_iv (w_fd _ _ _); rw [s1.2, if_neg (fun e => absurd e.2 (by decide))]
  have kz_0_4 := fdq_306 hD hth r0
  have kz_0_5 := fdq_36 hD hth r0
  have kz_0_7 := fdq_37 hD hth r0
  have kz_0_8 := fdq_305 hD hth r0
  have nf0 : fc_1 PRD (20, [2], [50, 3, 0, 8, 7, 5, 2, 7, 0, 2, 0, 0, 2, 0, 8, 2, 8, 0, 3, 2, 0, 7, 2, 0, 5, 2, 21, 4, 12, 0, 8, 5, 3, 2, 0, 5, 2, 0, 7, 0, 0, 0, 3, 2, 0, 8, 0, 0, 2, 21, 4, 12, 0, 8, 5, 3, 2, 0, 5, 2, 0, 7, 0, 1, 0, 3, 2, 0, 8, 0, 9, 2, 21, 4, 12, 0, 8, 5, 3, 2, 0, 5, 2, 0, 7, 0, 2, 0, 3, 2, 0, 8, 0, 99, 2, 21, 4, 12, 0, 8, 5, 3, 2, 0, 5, 2, 0, 7, 0, 3, 0, 3, 2, 0, 8, 0, 999, 4, 12, 0, 8, 5, 3, 2, 0, 5, 2, 0, 7, 0, 4, 0, 3, 2, 0, 8, 0, 9999]) ws (vs) := by
    refine ⟨nf_in hl rfl, sgq_1748 ?_⟩
    · show (0 ≤ w_fi ws (n_v vs 2) 8) ∧ ((w_fi ws (n_v vs 2) 7 ≤ w_fi ws (n_v vs 2) 5) ∧ ((((w_fi ws (n_v vs 2) 5 - w_fi ws (n_v vs 2) 7) ≤ 0) → (w_fi ws (n_v vs 2) 8 ≤ 0)) ∧ ((((w_fi ws (n_v vs 2) 5 - w_fi ws (n_v vs 2) 7) ≤ 1) → (w_fi ws (n_v vs 2) 8 ≤ 9)) ∧ ((((w_fi ws (n_v vs 2) 5 - w_fi ws (n_v vs 2) 7) ≤ 2) → (w_fi ws (n_v vs 2) 8 ≤ 99)) ∧ ((((w_fi ws (n_v vs 2) 5 - w_fi ws (n_v vs 2) 7) ≤ 3) → (w_fi ws (n_v vs 2) 8 ≤ 999)) ∧ (((w_fi ws (n_v vs 2) 5 - w_fi ws (n_v vs 2) 7) ≤ 4) → (w_fi ws (n_v vs 2) 8 ≤ 9999)))))))
      rw [q2]
      exact vc_Sy_advance_20_0 (v_iv (n_v vs 3)) (v_iv (n_v vs 13)) (w_fi ws (n_v vs 0) 8) (w_fi ws (n_v vs 0) 7) (w_fi ws (n_v vs 0) 4) (w_fi ws (n_v vs 0) 5) (w_fi w1 (n_v vs 0) 4) (w_fi w1 (n_v vs 0) 5) (w_fi w1 (n_v vs 0) 7) k3 k13 g0 g1 g3 fe_0_4_1 fe_0_5_1 fe_0_7_1 kz_0_4 kz_0_5 kz_0_7 kz_0_8
  refine ⟨(fun _ h => (by cases h)), [], trivial, ?_, (fun _ h => (by cases h))⟩
  rw [List.append_nil]
  exact List.forall_mem_cons.mpr ⟨⟨show (20 : Nat) < 100 from by decide, nf0⟩, (fun _ h => (by cases h))⟩
set_option maxHeartbeats 4000000 in
theorem vc_Sy_advance_21_r0 (x3 : Int) (x10 : Int) (x16 : Int) (begin_0 : Int) (end_0 : Int) (bytes_1 : Int → Int) (bytes_2 : Int → Int) (end_1 : Int) (begin_1 : Int) (bytes_0 : Int → Int) (k3 : 0 ≤ x3 ∧ x3 ≤ 1999) (k10 : 123 ≤ x10 ∧ x10 ≤ 127) (k16 : 0 ≤ x16 ∧ x16 ≤ 65535) (f4 : x16 = x10) (h10 : x10 = bytes_1 (x3)) (fe_0_4_1 : end_0 = end_1) (fe_0_7_1 : begin_0 = begin_1) (hE_0_3_1 : ∀ j : Int, bytes_0 j = bytes_1 j) (hE_0_3_2 : ∀ j : Int, bytes_1 j = bytes_2 j) (kz_0_4 : 0 ≤ end_0 ∧ end_0 ≤ 2000) (kz_0_7 : 0 ≤ begin_0 ∧ begin_0 ≤ 2000) : 0 ≤ x16 ∧ x16 ≤ 127 := by
  subst fe_0_4_1
  subst fe_0_7_1
  have e_hE_0_3_1 := funext hE_0_3_1; subst e_hE_0_3_1
  have e_hE_0_3_2 := funext hE_0_3_2; subst e_hE_0_3_2
  first
    | omega
  
def o_Sy_advance_21 : or_T := (283, 17, [(0, (2, 0, 0, [11])), (2, (2, 0, 0, [11])), (3, (0, 0, 1999, [])), (4, (2, 0, 0, [109])), (5, (0, 1, 2000, [])), (6, (0, -128, 127, [])), (7, (0, 32, 32, [])), (8, (0, -128, 127, [])), (9, (0, 10, 10, [])), (10, (0, 123, 127, [])), (13, (0, 1, 1, [])), (14, (0, 1, 2000, [])), (16, (0, 0, 65535, []))], [(9, [14, 2], [5]), (9, [3, 2], [7]), (9, [5, 2], [4]), (9, [4, 2], [3]), (22, [16, 10], []), (8, [10], [4]), (24, [0, 2], []), (101, [2, 14], [5]), (1, [14, 3, 13], []), (9, [3, 2], [5]), (10, [10, 4, 3], []), (7, [3, 5], [2]), (101, [2, 3], [7]), (7, [8, 9], [1]), (10, [8, 4, 3], []), (7, [6, 7], [1]), (10, [6, 4, 3], []), (7, [3, 5], [2])], [(16, (0, 0, 127, []))], [], [], [], [(14, 3, 1, 1), (14, 5, -4294967296, 0), (3, 5, -4294967296, -1)])
theorem oo_Sy_advance_21 {kA : Nat → ClassId} : or_ok PRD kA GG o_Sy_advance_21 := by
  refine or_mk fun A ta ws vs hD hth hl => ?_
  intro t0 r0 t2 r2 t3 k3 t4 r4 t5 k5 t6 k6 t7 k7 t8 k8 t9 k9 t10 k10 t13 k13 t14 k14 t16 k16 d0 d1 d2 f0 f1 f2 f3 f4 f5 f6 ta1 w1 le1 s1 f8 f9 f10 f11 ta2 w2 le2 s2 f13 f14 f15 f16 f17
  replace f3 := shm_149 f3
  replace f6 := shm_5 f6
  have s1 : (∀ b j, w_el ws b j = w_el w1 b j) ∧ ∀ b j, w_fd ws b j = if b = v_ad (n_v vs 2) ∧ j = 5 then n_v vs 14 else w_fd w1 b j := s1.2
  replace f10 := shm_106 f10
  have s2 : (∀ b j, w_el w1 b j = w_el w2 b j) ∧ ∀ b j, w_fd w1 b j = if b = v_ad (n_v vs 2) ∧ j = 7 then n_v vs 3 else w_fd w2 b j := s2.2
  have q2 : n_v vs 2 = n_v vs 0 := f6.symm
  simp only [q2] at f3
  rw [q2] at s1
  rw [q2] at s2
  have ad_4 : v_ad (n_v vs 4) = w_ar ws (n_v vs 0) 3 := congrArg v_ad f3
  simp only [ad_4] at f10
  have h10 : v_iv (n_v vs 10) = w_ei w1 (w_ar ws (n_v vs 0) 3) (v_iv (n_v vs 3)) := f10
  have fe_0_4_1 : w_fi ws (n_v vs 0) 4 = w_fi w1 (n_v vs 0) 4 := by show v_iv (w_fd _ _ _) = v_iv (w_fd _ _ _); rw [s1.2, if_neg (fun e => absurd e.2 (by decide))]
  have fe_0_7_1 : w_fi ws (n_v vs 0) 7 = w_fi w1 (n_v vs 0) 7 := by show v_iv (w_fd _ _ _) = v_iv (w_fd _ _ _); rw [s1.2, if_neg (fun e => absurd e.2 (by decide))]
  have hE_0_3_1 : ∀ j : Int, w_ei ws (w_ar ws (n_v vs 0) 3) j = w_ei w1 (w_ar ws (n_v vs 0) 3) j := fun j => s1.1 _ _
  have hE_0_3_2 : ∀ j : Int, w_ei w1 (w_ar ws (n_v vs 0) 3) j = w_ei w2 (w_ar ws (n_v vs 0) 3) j := fun j => s2.1 _ _
  have kz_0_4 := fdq_306 hD hth r0
  have kz_0_7 := fdq_37 hD hth r0
  have hrf0 : 0 ≤ v_iv (n_v vs 16) ∧ v_iv (n_v vs 16) ≤ 127 := vc_Sy_advance_21_r0 (v_iv (n_v vs 3)) (v_iv (n_v vs 10)) (v_iv (n_v vs 16)) (w_fi ws (n_v vs 0) 7) (w_fi ws (n_v vs 0) 4) (w_ei w1 (w_ar ws (n_v vs 0) 3)) (w_ei w2 (w_ar ws (n_v vs 0) 3)) (w_fi w1 (n_v vs 0) 4) (w_fi w1 (n_v vs 0) 7) (w_ei ws (w_ar ws (n_v vs 0) 3)) k3 k10 k16 (shm_47 f4) h10 fe_0_4_1 fe_0_7_1 hE_0_3_1 hE_0_3_2 kz_0_4 kz_0_7
  have rf16 : tv_ok ta (0, 0, 127, []) (n_v vs 16) := tv_in t16 (by omega) (by omega)
  refine ⟨List.forall_mem_cons.mpr ⟨rf16, (fun _ h => (by cases h))⟩, [], trivial, ?_, (fun _ h => (by cases h))⟩
  rw [List.append_nil]
  exact (fun _ h => (by cases h))
set_option maxHeartbeats 4000000 in
theorem vc_Sy_advance_22_0 (x18 : Int) (kind_0 : Int) (next_0 : Int) (begin_0 : Int) (end_0 : Int) (bytes_2 : Int → Int) (bytes_3 : Int → Int) (end_1 : Int) (next_1 : Int) (begin_1 : Int) (number_0 : Int) (number_1 : Int) (end_2 : Int) (kind_1 : Int) (kind_2 : Int) (begin_2 : Int) (number_2 : Int) (bytes_0 : Int → Int) (bytes_1 : Int → Int) (k18 : 1 ≤ x18 ∧ x18 ≤ 1) (g0 : x18 = kind_0) (fe_0_4_1 : end_0 = end_1) (fe_0_5_1 : next_0 = next_1) (fe_0_7_1 : begin_0 = begin_1) (fe_0_8_1 : number_0 = number_1) (fe_0_4_2 : end_1 = end_2) (fe_0_6_2 : kind_1 = kind_2) (fe_0_7_2 : begin_1 = begin_2) (fe_0_8_2 : number_1 = number_2) (hE_0_3_1 : ∀ j : Int, bytes_0 j = bytes_1 j) (hE_0_3_2 : ∀ j : Int, bytes_1 j = bytes_2 j) (hE_0_3_3 : ∀ j : Int, bytes_2 j = bytes_3 j) (kz_0_4 : 0 ≤ end_0 ∧ end_0 ≤ 2000) (kz_0_5 : 0 ≤ next_0 ∧ next_0 ≤ 2000) (kz_0_6 : 0 ≤ kind_0 ∧ kind_0 ≤ 127) (kz_0_7 : 0 ≤ begin_0 ∧ begin_0 ≤ 2000) (kz_0_8 : 0 ≤ number_0 ∧ number_0 ≤ 1000000) : (kind_0 ≠ 3) ∨ (number_0 ≤ 9999) := by
  subst fe_0_4_1
  subst fe_0_5_1
  subst fe_0_7_1
  subst fe_0_8_1
  subst fe_0_4_2
  subst fe_0_6_2
  subst fe_0_7_2
  subst fe_0_8_2
  have e_hE_0_3_1 := funext hE_0_3_1; subst e_hE_0_3_1
  have e_hE_0_3_2 := funext hE_0_3_2; subst e_hE_0_3_2
  have e_hE_0_3_3 := funext hE_0_3_3; subst e_hE_0_3_3
  first
    | omega
  
def o_Sy_advance_22 : or_T := (297, 19, [(0, (2, 0, 0, [11])), (2, (2, 0, 0, [11])), (3, (0, 0, 1999, [])), (4, (2, 0, 0, [109])), (5, (0, 1, 2000, [])), (6, (0, -128, 127, [])), (7, (0, 32, 32, [])), (8, (0, -128, 127, [])), (9, (0, 10, 10, [])), (10, (0, 123, 127, [])), (13, (0, 1, 1, [])), (14, (0, 1, 2000, [])), (16, (0, 0, 127, [])), (17, (0, -1, -1, [])), (18, (0, 1, 1, []))], [(9, [18, 2], [6]), (9, [14, 2], [5]), (9, [3, 2], [7]), (9, [5, 2], [4]), (9, [4, 2], [3]), (20, [17, 16], [50, 0, 0, 3, 6, 0, 2, 1, 0, 0, -1, 0, 2, 0, 33, 1, 1]), (22, [16, 10], []), (24, [0, 2], []), (101, [2, 18], [6]), (8, [17], [2]), (20, [17, 16], [50, 0, 0, 3, 6, 0, 2, 1, 0, 0, -1, 0, 2, 0, 33, 1, 1]), (22, [16, 10], []), (8, [10], [4]), (101, [2, 14], [5]), (1, [14, 3, 13], []), (9, [3, 2], [5]), (10, [10, 4, 3], []), (7, [3, 5], [2]), (101, [2, 3], [7]), (7, [8, 9], [1]), (10, [8, 4, 3], []), (7, [6, 7], [1]), (10, [6, 4, 3], []), (7, [3, 5], [2])], [], [], [(20, [0], [50, 2, 0, 6, 8, 3, 7, 7, 3, 2, 0, 6, 0, 3, 0, 3, 2, 0, 8, 0, 9999])], [], [(14, 3, 1, 1), (14, 5, -4294967296, 0), (3, 5, -4294967296, -1)])
theorem oo_Sy_advance_22 {kA : Nat → ClassId} : or_ok PRD kA GG o_Sy_advance_22 := by
  refine or_mk fun A ta ws vs hD hth hl => ?_
  intro t0 r0 t2 r2 t3 k3 t4 r4 t5 k5 t6 k6 t7 k7 t8 k8 t9 k9 t10 k10 t13 k13 t14 k14 t16 k16 t17 k17 t18 k18 d0 d1 d2 f0 f1 f2 f3 f4 f5 f6 f7 ta1 w1 le1 s1 f9 f10 f11 f12 ta2 w2 le2 s2 f14 f15 f16 f17 ta3 w3 le3 s3 f19 f20 f21 f22 f23
  replace f0 := shm_110 f0
  replace f7 := shm_5 f7
  have s1 : (∀ b j, w_el ws b j = w_el w1 b j) ∧ ∀ b j, w_fd ws b j = if b = v_ad (n_v vs 2) ∧ j = 6 then n_v vs 18 else w_fd w1 b j := s1.2
  have s2 : (∀ b j, w_el w1 b j = w_el w2 b j) ∧ ∀ b j, w_fd w1 b j = if b = v_ad (n_v vs 2) ∧ j = 5 then n_v vs 14 else w_fd w2 b j := s2.2
  have s3 : (∀ b j, w_el w2 b j = w_el w3 b j) ∧ ∀ b j, w_fd w2 b j = if b = v_ad (n_v vs 2) ∧ j = 7 then n_v vs 3 else w_fd w3 b j := s3.2
  have q2 : n_v vs 2 = n_v vs 0 := f7.symm
  simp only [q2] at f0
  rw [q2] at s1
  rw [q2] at s2
  rw [q2] at s3
  have g0 : v_iv (n_v vs 18) = w_fi ws (n_v vs 0) 6 := congrArg v_iv f0
  have fe_0_4_1 : w_fi ws (n_v vs 0) 4 = w_fi w1 (n_v vs 0) 4 := by show v_iv (w_fd _ _ _) = v_iv (w_fd _ _ _); rw [s1.2, if_neg (fun e => absurd e.2 (by decide))]
  have fe_0_5_1 : w_fi ws (n_v vs 0) 5 = w_fi w1 (n_v vs 0) 5 := by show v_iv (w_fd _ _ _) = v_iv (w_fd _ _ _); rw [s1.2, if_neg (fun e => absurd e.2 (by decide))]
  have fe_0_7_1 : w_fi ws (n_v vs 0) 7 = w_fi w1 (n_v vs 0) 7 := by show v_iv (w_fd _ _ _) = v_iv (w_fd _ _ _); rw [s1.2, if_neg (fun e => absurd e.2 (by decide))]
  have fe_0_8_1 : w_fi ws (n_v vs 0) 8 = w_fi w1 (n_v vs 0) 8 := by show v_iv (w_fd _ _ _) = v_iv (w_fd _ _ _); rw [s1.2, if_neg (fun e => absurd e.2 (by decide))]
  have fe_0_4_2 : w_fi w1 (n_v vs 0) 4 = w_fi w2 (n_v vs 0) 4 := by show v_iv (w_fd _ _ _) = v_iv (w_fd _ _ _); rw [s2.2, if_neg (fun e => absurd e.2 (by decide))]
  have fe_0_6_2 : w_fi w1 (n_v vs 0) 6 = w_fi w2 (n_v vs 0) 6 := by show v_iv (w_fd _ _ _) = v_iv (w_fd _ _ _); rw [s2.2, if_neg (fun e => absurd e.2 (by decide))]
  have fe_0_7_2 : w_fi w1 (n_v vs 0) 7 = w_fi w2 (n_v vs 0) 7 := by show v_iv (w_fd _ _ _) = v_iv (w_fd _ _ _); rw [s2.2, if_neg (fun e => absurd e.2 (by decide))]
  have fe_0_8_2 : w_fi w1 (n_v vs 0) 8 = w_fi w2 (n_v vs 0) 8 := by show v_iv (w_fd _ _ _) = v_iv (w_fd _ _ _); rw [s2.2, if_neg (fun e => absurd e.2 (by decide))]
  have hE_0_3_1 : ∀ j : Int, w_ei ws (w_ar ws (n_v vs 0) 3) j = w_ei w1 (w_ar ws (n_v vs 0) 3) j := fun j => s1.1 _ _
  have hE_0_3_2 : ∀ j : Int, w_ei w1 (w_ar ws (n_v vs 0) 3) j = w_ei w2 (w_ar ws (n_v vs 0) 3) j := fun j => s2.1 _ _
  have hE_0_3_3 : ∀ j : Int, w_ei w2 (w_ar ws (n_v vs 0) 3) j = w_ei w3 (w_ar ws (n_v vs 0) 3) j := fun j => s3.1 _ _
  have kz_0_4 := fdq_306 hD hth r0
  have kz_0_5 := fdq_36 hD hth r0
  have kz_0_6 := fdq_304 hD hth r0
  have kz_0_7 := fdq_37 hD hth r0
  have kz_0_8 := fdq_305 hD hth r0
  have nf0 : fc_1 PRD (20, [0], [50, 2, 0, 6, 8, 3, 7, 7, 3, 2, 0, 6, 0, 3, 0, 3, 2, 0, 8, 0, 9999]) ws (vs) := ⟨nf_in hl rfl, sgq_1747 (vc_Sy_advance_22_0 (v_iv (n_v vs 18)) (w_fi ws (n_v vs 0) 6) (w_fi ws (n_v vs 0) 5) (w_fi ws (n_v vs 0) 7) (w_fi ws (n_v vs 0) 4) (w_ei w2 (w_ar ws (n_v vs 0) 3)) (w_ei w3 (w_ar ws (n_v vs 0) 3)) (w_fi w1 (n_v vs 0) 4) (w_fi w1 (n_v vs 0) 5) (w_fi w1 (n_v vs 0) 7) (w_fi ws (n_v vs 0) 8) (w_fi w1 (n_v vs 0) 8) (w_fi w2 (n_v vs 0) 4) (w_fi w1 (n_v vs 0) 6) (w_fi w2 (n_v vs 0) 6) (w_fi w2 (n_v vs 0) 7) (w_fi w2 (n_v vs 0) 8) (w_ei ws (w_ar ws (n_v vs 0) 3)) (w_ei w1 (w_ar ws (n_v vs 0) 3)) k18 g0 fe_0_4_1 fe_0_5_1 fe_0_7_1 fe_0_8_1 fe_0_4_2 fe_0_6_2 fe_0_7_2 fe_0_8_2 hE_0_3_1 hE_0_3_2 hE_0_3_3 kz_0_4 kz_0_5 kz_0_6 kz_0_7 kz_0_8)⟩
  refine ⟨(fun _ h => (by cases h)), [], trivial, ?_, (fun _ h => (by cases h))⟩
  rw [List.append_nil]
  exact List.forall_mem_cons.mpr ⟨⟨show (20 : Nat) < 100 from by decide, nf0⟩, (fun _ h => (by cases h))⟩
set_option maxHeartbeats 4000000 in
theorem vc_Sy_advance_23_0 (x3 : Int) (x10 : Int) (kind_0 : Int) (next_0 : Int) (begin_0 : Int) (end_0 : Int) (bytes_2 : Int → Int) (bytes_3 : Int → Int) (end_1 : Int) (next_1 : Int) (begin_1 : Int) (number_0 : Int) (number_1 : Int) (end_2 : Int) (kind_1 : Int) (kind_2 : Int) (begin_2 : Int) (number_2 : Int) (bytes_0 : Int → Int) (bytes_1 : Int → Int) (k3 : 0 ≤ x3 ∧ x3 ≤ 1999) (k10 : 123 ≤ x10 ∧ x10 ≤ 127) (g0 : x10 = kind_0) (h16 : x10 = bytes_2 (x3)) (fe_0_4_1 : end_0 = end_1) (fe_0_5_1 : next_0 = next_1) (fe_0_7_1 : begin_0 = begin_1) (fe_0_8_1 : number_0 = number_1) (fe_0_4_2 : end_1 = end_2) (fe_0_6_2 : kind_1 = kind_2) (fe_0_7_2 : begin_1 = begin_2) (fe_0_8_2 : number_1 = number_2) (hE_0_3_1 : ∀ j : Int, bytes_0 j = bytes_1 j) (hE_0_3_2 : ∀ j : Int, bytes_1 j = bytes_2 j) (hE_0_3_3 : ∀ j : Int, bytes_2 j = bytes_3 j) (kz_0_4 : 0 ≤ end_0 ∧ end_0 ≤ 2000) (kz_0_5 : 0 ≤ next_0 ∧ next_0 ≤ 2000) (kz_0_6 : 0 ≤ kind_0 ∧ kind_0 ≤ 127) (kz_0_7 : 0 ≤ begin_0 ∧ begin_0 ≤ 2000) (kz_0_8 : 0 ≤ number_0 ∧ number_0 ≤ 1000000) : (kind_0 ≠ 3) ∨ (number_0 ≤ 9999) := by
  subst fe_0_4_1
  subst fe_0_5_1
  subst fe_0_7_1
  subst fe_0_8_1
  subst fe_0_4_2
  subst fe_0_6_2
  subst fe_0_7_2
  subst fe_0_8_2
  have e_hE_0_3_1 := funext hE_0_3_1; subst e_hE_0_3_1
  have e_hE_0_3_2 := funext hE_0_3_2; subst e_hE_0_3_2
  have e_hE_0_3_3 := funext hE_0_3_3; subst e_hE_0_3_3
  first
    | omega
  
def o_Sy_advance_23 : or_T := (297, 18, [(0, (2, 0, 0, [11])), (2, (2, 0, 0, [11])), (3, (0, 0, 1999, [])), (4, (2, 0, 0, [109])), (5, (0, 1, 2000, [])), (6, (0, -128, 127, [])), (7, (0, 32, 32, [])), (8, (0, -128, 127, [])), (9, (0, 10, 10, [])), (10, (0, 123, 127, [])), (13, (0, 1, 1, [])), (14, (0, 1, 2000, [])), (16, (0, 0, 127, [])), (17, (0, 0, 13, []))], [(9, [10, 2], [6]), (9, [14, 2], [5]), (9, [3, 2], [7]), (9, [5, 2], [4]), (9, [4, 2], [3]), (20, [17, 16], [50, 0, 0, 3, 6, 0, 2, 1, 0, 0, -1, 0, 2, 0, 33, 1, 1]), (22, [16, 10], []), (24, [0, 2], []), (101, [2, 10], [6]), (8, [17], [3]), (20, [17, 16], [50, 0, 0, 3, 6, 0, 2, 1, 0, 0, -1, 0, 2, 0, 33, 1, 1]), (22, [16, 10], []), (8, [10], [4]), (101, [2, 14], [5]), (1, [14, 3, 13], []), (9, [3, 2], [5]), (10, [10, 4, 3], []), (7, [3, 5], [2]), (101, [2, 3], [7]), (7, [8, 9], [1]), (10, [8, 4, 3], []), (7, [6, 7], [1]), (10, [6, 4, 3], []), (7, [3, 5], [2])], [], [], [(20, [0], [50, 2, 0, 6, 8, 3, 7, 7, 3, 2, 0, 6, 0, 3, 0, 3, 2, 0, 8, 0, 9999])], [], [(14, 3, 1, 1), (14, 5, -4294967296, 0), (3, 5, -4294967296, -1)])
theorem oo_Sy_advance_23 {kA : Nat → ClassId} : or_ok PRD kA GG o_Sy_advance_23 := by
  refine or_mk fun A ta ws vs hD hth hl => ?_
  intro t0 r0 t2 r2 t3 k3 t4 r4 t5 k5 t6 k6 t7 k7 t8 k8 t9 k9 t10 k10 t13 k13 t14 k14 t16 k16 t17 k17 d0 d1 d2 f0 f1 f2 f3 f4 f5 f6 f7 ta1 w1 le1 s1 f9 f10 f11 f12 ta2 w2 le2 s2 f14 f15 f16 f17 ta3 w3 le3 s3 f19 f20 f21 f22 f23
  replace f0 := shm_110 f0
  replace f4 := shm_149 f4
  replace f7 := shm_5 f7
  have s1 : (∀ b j, w_el ws b j = w_el w1 b j) ∧ ∀ b j, w_fd ws b j = if b = v_ad (n_v vs 2) ∧ j = 6 then n_v vs 10 else w_fd w1 b j := s1.2
  have s2 : (∀ b j, w_el w1 b j = w_el w2 b j) ∧ ∀ b j, w_fd w1 b j = if b = v_ad (n_v vs 2) ∧ j = 5 then n_v vs 14 else w_fd w2 b j := s2.2
  replace f16 := shm_106 f16
  have s3 : (∀ b j, w_el w2 b j = w_el w3 b j) ∧ ∀ b j, w_fd w2 b j = if b = v_ad (n_v vs 2) ∧ j = 7 then n_v vs 3 else w_fd w3 b j := s3.2
  have q2 : n_v vs 2 = n_v vs 0 := f7.symm
  simp only [q2] at f0 f4
  rw [q2] at s1
  rw [q2] at s2
  rw [q2] at s3
  have ad_4 : v_ad (n_v vs 4) = w_ar ws (n_v vs 0) 3 := congrArg v_ad f4
  have g0 : v_iv (n_v vs 10) = w_fi ws (n_v vs 0) 6 := congrArg v_iv f0
  simp only [ad_4] at f16
  have h16 : v_iv (n_v vs 10) = w_ei w2 (w_ar ws (n_v vs 0) 3) (v_iv (n_v vs 3)) := f16
  have fe_0_4_1 : w_fi ws (n_v vs 0) 4 = w_fi w1 (n_v vs 0) 4 := by show v_iv (w_fd _ _ _) = v_iv (w_fd _ _ _); rw [s1.2, if_neg (fun e => absurd e.2 (by decide))]
  have fe_0_5_1 : w_fi ws (n_v vs 0) 5 = w_fi w1 (n_v vs 0) 5 := by show v_iv (w_fd _ _ _) = v_iv (w_fd _ _ _); rw [s1.2, if_neg (fun e => absurd e.2 (by decide))]
  have fe_0_7_1 : w_fi ws (n_v vs 0) 7 = w_fi w1 (n_v vs 0) 7 := by show v_iv (w_fd _ _ _) = v_iv (w_fd _ _ _); rw [s1.2, if_neg (fun e => absurd e.2 (by decide))]
  have fe_0_8_1 : w_fi ws (n_v vs 0) 8 = w_fi w1 (n_v vs 0) 8 := by show v_iv (w_fd _ _ _) = v_iv (w_fd _ _ _); rw [s1.2, if_neg (fun e => absurd e.2 (by decide))]
  have fe_0_4_2 : w_fi w1 (n_v vs 0) 4 = w_fi w2 (n_v vs 0) 4 := by show v_iv (w_fd _ _ _) = v_iv (w_fd _ _ _); rw [s2.2, if_neg (fun e => absurd e.2 (by decide))]
  have fe_0_6_2 : w_fi w1 (n_v vs 0) 6 = w_fi w2 (n_v vs 0) 6 := by show v_iv (w_fd _ _ _) = v_iv (w_fd _ _ _); rw [s2.2, if_neg (fun e => absurd e.2 (by decide))]
  have fe_0_7_2 : w_fi w1 (n_v vs 0) 7 = w_fi w2 (n_v vs 0) 7 := by show v_iv (w_fd _ _ _) = v_iv (w_fd _ _ _); rw [s2.2, if_neg (fun e => absurd e.2 (by decide))]
  have fe_0_8_2 : w_fi w1 (n_v vs 0) 8 = w_fi w2 (n_v vs 0) 8 := by show v_iv (w_fd _ _ _) = v_iv (w_fd _ _ _); rw [s2.2, if_neg (fun e => absurd e.2 (by decide))]
  have hE_0_3_1 : ∀ j : Int, w_ei ws (w_ar ws (n_v vs 0) 3) j = w_ei w1 (w_ar ws (n_v vs 0) 3) j := fun j => s1.1 _ _
  have hE_0_3_2 : ∀ j : Int, w_ei w1 (w_ar ws (n_v vs 0) 3) j = w_ei w2 (w_ar ws (n_v vs 0) 3) j := fun j => s2.1 _ _
  have hE_0_3_3 : ∀ j : Int, w_ei w2 (w_ar ws (n_v vs 0) 3) j = w_ei w3 (w_ar ws (n_v vs 0) 3) j := fun j => s3.1 _ _
  have kz_0_4 := fdq_306 hD hth r0
  have kz_0_5 := fdq_36 hD hth r0
  have kz_0_6 := fdq_304 hD hth r0
  have kz_0_7 := fdq_37 hD hth r0
  have kz_0_8 := fdq_305 hD hth r0
  have nf0 : fc_1 PRD (20, [0], [50, 2, 0, 6, 8, 3, 7, 7, 3, 2, 0, 6, 0, 3, 0, 3, 2, 0, 8, 0, 9999]) ws (vs) := ⟨nf_in hl rfl, sgq_1747 (vc_Sy_advance_23_0 (v_iv (n_v vs 3)) (v_iv (n_v vs 10)) (w_fi ws (n_v vs 0) 6) (w_fi ws (n_v vs 0) 5) (w_fi ws (n_v vs 0) 7) (w_fi ws (n_v vs 0) 4) (w_ei w2 (w_ar ws (n_v vs 0) 3)) (w_ei w3 (w_ar ws (n_v vs 0) 3)) (w_fi w1 (n_v vs 0) 4) (w_fi w1 (n_v vs 0) 5) (w_fi w1 (n_v vs 0) 7) (w_fi ws (n_v vs 0) 8) (w_fi w1 (n_v vs 0) 8) (w_fi w2 (n_v vs 0) 4) (w_fi w1 (n_v vs 0) 6) (w_fi w2 (n_v vs 0) 6) (w_fi w2 (n_v vs 0) 7) (w_fi w2 (n_v vs 0) 8) (w_ei ws (w_ar ws (n_v vs 0) 3)) (w_ei w1 (w_ar ws (n_v vs 0) 3)) k3 k10 g0 h16 fe_0_4_1 fe_0_5_1 fe_0_7_1 fe_0_8_1 fe_0_4_2 fe_0_6_2 fe_0_7_2 fe_0_8_2 hE_0_3_1 hE_0_3_2 hE_0_3_3 kz_0_4 kz_0_5 kz_0_6 kz_0_7 kz_0_8)⟩
  refine ⟨(fun _ h => (by cases h)), [], trivial, ?_, (fun _ h => (by cases h))⟩
  rw [List.append_nil]
  exact List.forall_mem_cons.mpr ⟨⟨show (20 : Nat) < 100 from by decide, nf0⟩, (fun _ h => (by cases h))⟩
set_option maxHeartbeats 4000000 in
theorem vc_Sy_advance_24_0 (x10 : Int) (kind_0 : Int) (number_0 : Int) (k10 : 0 ≤ x10 ∧ x10 ≤ 0) (g0 : x10 = kind_0) (kz_0_6 : 0 ≤ kind_0 ∧ kind_0 ≤ 127) (kz_0_8 : 0 ≤ number_0 ∧ number_0 ≤ 1000000) : (kind_0 ≠ 3) ∨ (number_0 ≤ 9999) := by
  first
    | omega
  
def o_Sy_advance_24 : or_T := (76, 11, [(0, (2, 0, 0, [11])), (10, (0, 0, 0, []))], [(9, [10, 2], [6]), (24, [0, 2], [])], [], [], [(20, [0], [50, 2, 0, 6, 8, 3, 7, 7, 3, 2, 0, 6, 0, 3, 0, 3, 2, 0, 8, 0, 9999])], [], [])
theorem oo_Sy_advance_24 {kA : Nat → ClassId} : or_ok PRD kA GG o_Sy_advance_24 := by
  refine or_mk fun A ta ws vs hD hth hl => ?_
  intro t0 r0 t10 k10 f0 f1
  replace f0 := shm_110 f0
  replace f1 := shm_5 f1
  have q2 : n_v vs 2 = n_v vs 0 := f1.symm
  simp only [q2] at f0
  have g0 : v_iv (n_v vs 10) = w_fi ws (n_v vs 0) 6 := congrArg v_iv f0
  have kz_0_6 := fdq_304 hD hth r0
  have kz_0_8 := fdq_305 hD hth r0
  have nf0 : fc_1 PRD (20, [0], [50, 2, 0, 6, 8, 3, 7, 7, 3, 2, 0, 6, 0, 3, 0, 3, 2, 0, 8, 0, 9999]) ws (vs) := ⟨nf_in hl rfl, sgq_1747 (vc_Sy_advance_24_0 (v_iv (n_v vs 10)) (w_fi ws (n_v vs 0) 6) (w_fi ws (n_v vs 0) 8) k10 g0 kz_0_6 kz_0_8)⟩
  refine ⟨(fun _ h => (by cases h)), [], trivial, ?_, (fun _ h => (by cases h))⟩
  rw [List.append_nil]
  exact List.forall_mem_cons.mpr ⟨⟨show (20 : Nat) < 100 from by decide, nf0⟩, (fun _ h => (by cases h))⟩
set_option maxHeartbeats 4000000 in
theorem vc_Sy_advance_25_0 (x10 : Int) (kind_0 : Int) (number_0 : Int) (k10 : 1 ≤ x10 ∧ x10 ≤ 1) (g0 : x10 = kind_0) (kz_0_6 : 0 ≤ kind_0 ∧ kind_0 ≤ 127) (kz_0_8 : 0 ≤ number_0 ∧ number_0 ≤ 1000000) : (kind_0 ≠ 3) ∨ (number_0 ≤ 9999) := by
  first
    | omega
  
def o_Sy_advance_25 : or_T := (297, 11, [(0, (2, 0, 0, [11])), (2, (2, 0, 0, [11])), (10, (0, 1, 1, []))], [(9, [10, 2], [6]), (24, [0, 2], []), (101, [2, 10], [6])], [], [], [(20, [0], [50, 2, 0, 6, 8, 3, 7, 7, 3, 2, 0, 6, 0, 3, 0, 3, 2, 0, 8, 0, 9999])], [], [])
theorem oo_Sy_advance_25 {kA : Nat → ClassId} : or_ok PRD kA GG o_Sy_advance_25 := by
  refine or_mk fun A ta ws vs hD hth hl => ?_
  intro t0 r0 t2 r2 t10 k10 f0 f1 ta1 w1 le1 s1
  replace f0 := shm_110 f0
  replace f1 := shm_5 f1
  have q2 : n_v vs 2 = n_v vs 0 := f1.symm
  simp only [q2] at f0
  have g0 : v_iv (n_v vs 10) = w_fi ws (n_v vs 0) 6 := congrArg v_iv f0
  have kz_0_6 := fdq_304 hD hth r0
  have kz_0_8 := fdq_305 hD hth r0
  have nf0 : fc_1 PRD (20, [0], [50, 2, 0, 6, 8, 3, 7, 7, 3, 2, 0, 6, 0, 3, 0, 3, 2, 0, 8, 0, 9999]) ws (vs) := ⟨nf_in hl rfl, sgq_1747 (vc_Sy_advance_25_0 (v_iv (n_v vs 10)) (w_fi ws (n_v vs 0) 6) (w_fi ws (n_v vs 0) 8) k10 g0 kz_0_6 kz_0_8)⟩
  refine ⟨(fun _ h => (by cases h)), [], trivial, ?_, (fun _ h => (by cases h))⟩
  rw [List.append_nil]
  exact List.forall_mem_cons.mpr ⟨⟨show (20 : Nat) < 100 from by decide, nf0⟩, (fun _ h => (by cases h))⟩
set_option maxHeartbeats 4000000 in
theorem vc_Sy_advance_26_0 (x10 : Int) (kind_0 : Int) (number_0 : Int) (k10 : 2 ≤ x10 ∧ x10 ≤ 2) (g0 : x10 = kind_0) (kz_0_6 : 0 ≤ kind_0 ∧ kind_0 ≤ 127) (kz_0_8 : 0 ≤ number_0 ∧ number_0 ≤ 1000000) : (kind_0 ≠ 3) ∨ (number_0 ≤ 9999) := by
  first
    | omega
  
def o_Sy_advance_26 : or_T := (297, 11, [(0, (2, 0, 0, [11])), (2, (2, 0, 0, [11])), (10, (0, 2, 2, []))], [(9, [10, 2], [6]), (24, [0, 2], []), (101, [2, 10], [6])], [], [], [(20, [0], [50, 2, 0, 6, 8, 3, 7, 7, 3, 2, 0, 6, 0, 3, 0, 3, 2, 0, 8, 0, 9999])], [], [])
theorem oo_Sy_advance_26 {kA : Nat → ClassId} : or_ok PRD kA GG o_Sy_advance_26 := by
  refine or_mk fun A ta ws vs hD hth hl => ?_
  intro t0 r0 t2 r2 t10 k10 f0 f1 ta1 w1 le1 s1
  replace f0 := shm_110 f0
  replace f1 := shm_5 f1
  have q2 : n_v vs 2 = n_v vs 0 := f1.symm
  simp only [q2] at f0
  have g0 : v_iv (n_v vs 10) = w_fi ws (n_v vs 0) 6 := congrArg v_iv f0
  have kz_0_6 := fdq_304 hD hth r0
  have kz_0_8 := fdq_305 hD hth r0
  have nf0 : fc_1 PRD (20, [0], [50, 2, 0, 6, 8, 3, 7, 7, 3, 2, 0, 6, 0, 3, 0, 3, 2, 0, 8, 0, 9999]) ws (vs) := ⟨nf_in hl rfl, sgq_1747 (vc_Sy_advance_26_0 (v_iv (n_v vs 10)) (w_fi ws (n_v vs 0) 6) (w_fi ws (n_v vs 0) 8) k10 g0 kz_0_6 kz_0_8)⟩
  refine ⟨(fun _ h => (by cases h)), [], trivial, ?_, (fun _ h => (by cases h))⟩
  rw [List.append_nil]
  exact List.forall_mem_cons.mpr ⟨⟨show (20 : Nat) < 100 from by decide, nf0⟩, (fun _ h => (by cases h))⟩
set_option maxHeartbeats 4000000 in
theorem vc_Sy_advance_27_0 (x12 : Int) (kind_0 : Int) (number_0 : Int) (k12 : 1 ≤ x12 ∧ x12 ≤ 1) (g0 : x12 = kind_0) (kz_0_6 : 0 ≤ kind_0 ∧ kind_0 ≤ 127) (kz_0_8 : 0 ≤ number_0 ∧ number_0 ≤ 1000000) : (kind_0 ≠ 3) ∨ (number_0 ≤ 9999) := by
  first
    | omega
  
def o_Sy_advance_27 : or_T := (297, 13, [(0, (2, 0, 0, [11])), (2, (2, 0, 0, [11])), (12, (0, 1, 1, []))], [(9, [12, 2], [6]), (24, [0, 2], []), (101, [2, 12], [6])], [], [], [(20, [0], [50, 2, 0, 6, 8, 3, 7, 7, 3, 2, 0, 6, 0, 3, 0, 3, 2, 0, 8, 0, 9999])], [], [])
theorem oo_Sy_advance_27 {kA : Nat → ClassId} : or_ok PRD kA GG o_Sy_advance_27 := by
  refine or_mk fun A ta ws vs hD hth hl => ?_
  intro t0 r0 t2 r2 t12 k12 f0 f1 ta1 w1 le1 s1
  replace f0 := shm_110 f0
  replace f1 := shm_5 f1
  have q2 : n_v vs 2 = n_v vs 0 := f1.symm
  simp only [q2] at f0
  have g0 : v_iv (n_v vs 12) = w_fi ws (n_v vs 0) 6 := congrArg v_iv f0
  have kz_0_6 := fdq_304 hD hth r0
  have kz_0_8 := fdq_305 hD hth r0
  have nf0 : fc_1 PRD (20, [0], [50, 2, 0, 6, 8, 3, 7, 7, 3, 2, 0, 6, 0, 3, 0, 3, 2, 0, 8, 0, 9999]) ws (vs) := ⟨nf_in hl rfl, sgq_1747 (vc_Sy_advance_27_0 (v_iv (n_v vs 12)) (w_fi ws (n_v vs 0) 6) (w_fi ws (n_v vs 0) 8) k12 g0 kz_0_6 kz_0_8)⟩
  refine ⟨(fun _ h => (by cases h)), [], trivial, ?_, (fun _ h => (by cases h))⟩
  rw [List.append_nil]
  exact List.forall_mem_cons.mpr ⟨⟨show (20 : Nat) < 100 from by decide, nf0⟩, (fun _ h => (by cases h))⟩
set_option maxHeartbeats 4000000 in
theorem vc_Sy_advance_28_0 (x12 : Int) (kind_0 : Int) (number_0 : Int) (k12 : 2 ≤ x12 ∧ x12 ≤ 2) (g0 : x12 = kind_0) (kz_0_6 : 0 ≤ kind_0 ∧ kind_0 ≤ 127) (kz_0_8 : 0 ≤ number_0 ∧ number_0 ≤ 1000000) : (kind_0 ≠ 3) ∨ (number_0 ≤ 9999) := by
  first
    | omega
  
def o_Sy_advance_28 : or_T := (297, 13, [(0, (2, 0, 0, [11])), (2, (2, 0, 0, [11])), (12, (0, 2, 2, []))], [(9, [12, 2], [6]), (24, [0, 2], []), (101, [2, 12], [6])], [], [], [(20, [0], [50, 2, 0, 6, 8, 3, 7, 7, 3, 2, 0, 6, 0, 3, 0, 3, 2, 0, 8, 0, 9999])], [], [])
theorem oo_Sy_advance_28 {kA : Nat → ClassId} : or_ok PRD kA GG o_Sy_advance_28 := by
  refine or_mk fun A ta ws vs hD hth hl => ?_
  intro t0 r0 t2 r2 t12 k12 f0 f1 ta1 w1 le1 s1
  replace f0 := shm_110 f0
  replace f1 := shm_5 f1
  have q2 : n_v vs 2 = n_v vs 0 := f1.symm
  simp only [q2] at f0
  have g0 : v_iv (n_v vs 12) = w_fi ws (n_v vs 0) 6 := congrArg v_iv f0
  have kz_0_6 := fdq_304 hD hth r0
  have kz_0_8 := fdq_305 hD hth r0
  have nf0 : fc_1 PRD (20, [0], [50, 2, 0, 6, 8, 3, 7, 7, 3, 2, 0, 6, 0, 3, 0, 3, 2, 0, 8, 0, 9999]) ws (vs) := ⟨nf_in hl rfl, sgq_1747 (vc_Sy_advance_28_0 (v_iv (n_v vs 12)) (w_fi ws (n_v vs 0) 6) (w_fi ws (n_v vs 0) 8) k12 g0 kz_0_6 kz_0_8)⟩
  refine ⟨(fun _ h => (by cases h)), [], trivial, ?_, (fun _ h => (by cases h))⟩
  rw [List.append_nil]
  exact List.forall_mem_cons.mpr ⟨⟨show (20 : Nat) < 100 from by decide, nf0⟩, (fun _ h => (by cases h))⟩
set_option maxHeartbeats 4000000 in
theorem vc_Sy_advance_29_0 (x11 : Int) (kind_0 : Int) (begin_0 : Int) (number_0 : Int) (next_0 : Int) (number_1 : Int) (begin_1 : Int) (next_1 : Int) (k11 : 1 ≤ x11 ∧ x11 ≤ 1) (g0 : x11 = kind_0) (fe_0_5_1 : next_0 = next_1) (fe_0_7_1 : begin_0 = begin_1) (fe_0_8_1 : number_0 = number_1) (kz_0_5 : 0 ≤ next_0 ∧ next_0 ≤ 2000) (kz_0_6 : 0 ≤ kind_0 ∧ kind_0 ≤ 127) (kz_0_7 : 0 ≤ begin_0 ∧ begin_0 ≤ 2000) (kz_0_8 : 0 ≤ number_0 ∧ number_0 ≤ 1000000) : (kind_0 ≠ 3) ∨ (number_0 ≤ 9999) := by
  subst fe_0_5_1
  subst fe_0_7_1
  subst fe_0_8_1
  first
    | omega
  
def o_Sy_advance_29 : or_T := (297, 12, [(0, (2, 0, 0, [11])), (2, (2, 0, 0, [11])), (4, (0, 0, 1000000, [])), (5, (0, 5, 2000, [])), (7, (0, 0, 2000, [])), (8, (0, 0, 2000, [])), (9, (0, 5, 2000, [])), (10, (0, 4, 4, [])), (11, (0, 1, 1, []))], [(9, [11, 2], [6]), (9, [8, 2], [7]), (9, [7, 2], [4]), (9, [4, 2], [8]), (9, [5, 2], [5]), (20, [2], [50, 3, 0, 8, 7, 5, 2, 7, 0, 2, 0, 0, 2, 0, 8, 2, 8, 0, 3, 2, 0, 7, 2, 0, 5, 2, 21, 4, 12, 0, 8, 5, 3, 2, 0, 5, 2, 0, 7, 0, 0, 0, 3, 2, 0, 8, 0, 0, 2, 21, 4, 12, 0, 8, 5, 3, 2, 0, 5, 2, 0, 7, 0, 1, 0, 3, 2, 0, 8, 0, 9, 2, 21, 4, 12, 0, 8, 5, 3, 2, 0, 5, 2, 0, 7, 0, 2, 0, 3, 2, 0, 8, 0, 99, 2, 21, 4, 12, 0, 8, 5, 3, 2, 0, 5, 2, 0, 7, 0, 3, 0, 3, 2, 0, 8, 0, 999, 4, 12, 0, 8, 5, 3, 2, 0, 5, 2, 0, 7, 0, 4, 0, 3, 2, 0, 8, 0, 9999]), (24, [0, 2], []), (101, [2, 11], [6]), (7, [9, 10], [4]), (2, [9, 5, 8], []), (7, [5, 7], [3]), (20, [2], [50, 3, 0, 8, 7, 5, 2, 7, 0, 2, 0, 0, 2, 0, 8, 2, 8, 0, 3, 2, 0, 7, 2, 0, 5, 2, 21, 4, 12, 0, 8, 5, 3, 2, 0, 5, 2, 0, 7, 0, 0, 0, 3, 2, 0, 8, 0, 0, 2, 21, 4, 12, 0, 8, 5, 3, 2, 0, 5, 2, 0, 7, 0, 1, 0, 3, 2, 0, 8, 0, 9, 2, 21, 4, 12, 0, 8, 5, 3, 2, 0, 5, 2, 0, 7, 0, 2, 0, 3, 2, 0, 8, 0, 99, 2, 21, 4, 12, 0, 8, 5, 3, 2, 0, 5, 2, 0, 7, 0, 3, 0, 3, 2, 0, 8, 0, 999, 4, 12, 0, 8, 5, 3, 2, 0, 5, 2, 0, 7, 0, 4, 0, 3, 2, 0, 8, 0, 9999])], [], [], [(20, [0], [50, 2, 0, 6, 8, 3, 7, 7, 3, 2, 0, 6, 0, 3, 0, 3, 2, 0, 8, 0, 9999])], [], [(9, 5, -2000, 0), (5, 7, 0, 4294967296)])
theorem oo_Sy_advance_29 {kA : Nat → ClassId} : or_ok PRD kA GG o_Sy_advance_29 := by
  refine or_mk fun A ta ws vs hD hth hl => ?_
  intro t0 r0 t2 r2 t4 k4 t5 k5 t7 k7 t8 k8 t9 k9 t10 k10 t11 k11 d0 d1 f0 f1 f2 f3 f4 f5 f6 ta1 w1 le1 s1 f8 f9 f10 f11
  replace f0 := shm_110 f0
  replace f6 := shm_5 f6
  have s1 : (∀ b j, w_el ws b j = w_el w1 b j) ∧ ∀ b j, w_fd ws b j = if b = v_ad (n_v vs 2) ∧ j = 6 then n_v vs 11 else w_fd w1 b j := s1.2
  have q2 : n_v vs 2 = n_v vs 0 := f6.symm
  simp only [q2] at f0
  rw [q2] at s1
  have g0 : v_iv (n_v vs 11) = w_fi ws (n_v vs 0) 6 := congrArg v_iv f0
  have fe_0_5_1 : w_fi ws (n_v vs 0) 5 = w_fi w1 (n_v vs 0) 5 := by show v_iv (w_fd _ _ _) = v_iv (w_fd _ _ _); rw [s1.2, if_neg (fun e => absurd e.2 (by decide))]
  have fe_0_7_1 : w_fi ws (n_v vs 0) 7 = w_fi w1 (n_v vs 0) 7 := by show v_iv (w_fd _ _ _) = v_iv (w_fd _ _ _); rw [s1.2, if_neg (fun e => absurd e.2 (by decide))]
  have fe_0_8_1 : w_fi ws (n_v vs 0) 8 = w_fi w1 (n_v vs 0) 8 := by show v_iv (w_fd _ _ _) = v_iv (w_fd _ _ _); rw [s1.2, if_neg (fun e => absurd e.2 (by decide))]
  have kz_0_5 := fdq_36 hD hth r0
  have kz_0_6 := fdq_304 hD hth r0
  have kz_0_7 := fdq_37 hD hth r0
  have kz_0_8 := fdq_305 hD hth r0
  have nf0 : fc_1 PRD (20, [0], [50, 2, 0, 6, 8, 3, 7, 7, 3, 2, 0, 6, 0, 3, 0, 3, 2, 0, 8, 0, 9999]) ws (vs) := ⟨nf_in hl rfl, sgq_1747 (vc_Sy_advance_29_0 (v_iv (n_v vs 11)) (w_fi ws (n_v vs 0) 6) (w_fi ws (n_v vs 0) 7) (w_fi ws (n_v vs 0) 8) (w_fi ws (n_v vs 0) 5) (w_fi w1 (n_v vs 0) 8) (w_fi w1 (n_v vs 0) 7) (w_fi w1 (n_v vs 0) 5) k11 g0 fe_0_5_1 fe_0_7_1 fe_0_8_1 kz_0_5 kz_0_6 kz_0_7 kz_0_8)⟩
  refine ⟨(fun _ h => (by cases h)), [], trivial, ?_, (fun _ h => (by cases h))⟩
  rw [List.append_nil]
  exact List.forall_mem_cons.mpr ⟨⟨show (20 : Nat) < 100 from by decide, nf0⟩, (fun _ h => (by cases h))⟩
set_option maxHeartbeats 4000000 in
theorem vc_Sy_advance_30_0 (x4 : Int) (x5 : Int) (x8 : Int) (x9 : Int) (kind_0 : Int) (begin_0 : Int) (number_0 : Int) (next_0 : Int) (number_1 : Int) (begin_1 : Int) (next_1 : Int) (k4 : 0 ≤ x4 ∧ x4 ≤ 1000000) (k5 : 0 ≤ x5 ∧ x5 ≤ 2000) (k8 : 0 ≤ x8 ∧ x8 ≤ 2000) (k9 : (-2000) ≤ x9 ∧ x9 ≤ 4) (g1 : x8 = begin_0) (g3 : x4 = number_0) (g4 : x5 = next_0) (f5 : (0 ≤ number_0) ∧ ((begin_0 ≤ next_0) ∧ ((((next_0 - begin_0) ≤ 0) → (number_0 ≤ 0)) ∧ ((((next_0 - begin_0) ≤ 1) → (number_0 ≤ 9)) ∧ ((((next_0 - begin_0) ≤ 2) → (number_0 ≤ 99)) ∧ ((((next_0 - begin_0) ≤ 3) → (number_0 ≤ 999)) ∧ (((next_0 - begin_0) ≤ 4) → (number_0 ≤ 9999)))))))) (f9 : x9 = x5 - x8) (f11 : (0 ≤ number_1) ∧ ((begin_1 ≤ next_1) ∧ ((((next_1 - begin_1) ≤ 0) → (number_1 ≤ 0)) ∧ ((((next_1 - begin_1) ≤ 1) → (number_1 ≤ 9)) ∧ ((((next_1 - begin_1) ≤ 2) → (number_1 ≤ 99)) ∧ ((((next_1 - begin_1) ≤ 3) → (number_1 ≤ 999)) ∧ (((next_1 - begin_1) ≤ 4) → (number_1 ≤ 9999)))))))) (fe_0_5_1 : next_0 = next_1) (fe_0_7_1 : begin_0 = begin_1) (fe_0_8_1 : number_0 = number_1) (kz_0_5 : 0 ≤ next_0 ∧ next_0 ≤ 2000) (kz_0_6 : 0 ≤ kind_0 ∧ kind_0 ≤ 127) (kz_0_7 : 0 ≤ begin_0 ∧ begin_0 ≤ 2000) (kz_0_8 : 0 ≤ number_0 ∧ number_0 ≤ 1000000) : (kind_0 ≠ 3) ∨ (number_0 ≤ 9999) := by
  subst fe_0_5_1
  subst fe_0_7_1
  subst fe_0_8_1
  first
    | omega
  
def o_Sy_advance_30 : or_T := (297, 12, [(0, (2, 0, 0, [11])), (2, (2, 0, 0, [11])), (4, (0, 0, 1000000, [])), (5, (0, 0, 2000, [])), (7, (0, 0, 2000, [])), (8, (0, 0, 2000, [])), (9, (0, -2000, 4, [])), (10, (0, 4, 4, [])), (11, (0, 3, 3, []))], [(9, [11, 2], [6]), (9, [8, 2], [7]), (9, [7, 2], [4]), (9, [4, 2], [8]), (9, [5, 2], [5]), (20, [2], [50, 3, 0, 8, 7, 5, 2, 7, 0, 2, 0, 0, 2, 0, 8, 2, 8, 0, 3, 2, 0, 7, 2, 0, 5, 2, 21, 4, 12, 0, 8, 5, 3, 2, 0, 5, 2, 0, 7, 0, 0, 0, 3, 2, 0, 8, 0, 0, 2, 21, 4, 12, 0, 8, 5, 3, 2, 0, 5, 2, 0, 7, 0, 1, 0, 3, 2, 0, 8, 0, 9, 2, 21, 4, 12, 0, 8, 5, 3, 2, 0, 5, 2, 0, 7, 0, 2, 0, 3, 2, 0, 8, 0, 99, 2, 21, 4, 12, 0, 8, 5, 3, 2, 0, 5, 2, 0, 7, 0, 3, 0, 3, 2, 0, 8, 0, 999, 4, 12, 0, 8, 5, 3, 2, 0, 5, 2, 0, 7, 0, 4, 0, 3, 2, 0, 8, 0, 9999]), (24, [0, 2], []), (101, [2, 11], [6]), (7, [9, 10], [5]), (2, [9, 5, 8], []), (7, [5, 7], [3]), (20, [2], [50, 3, 0, 8, 7, 5, 2, 7, 0, 2, 0, 0, 2, 0, 8, 2, 8, 0, 3, 2, 0, 7, 2, 0, 5, 2, 21, 4, 12, 0, 8, 5, 3, 2, 0, 5, 2, 0, 7, 0, 0, 0, 3, 2, 0, 8, 0, 0, 2, 21, 4, 12, 0, 8, 5, 3, 2, 0, 5, 2, 0, 7, 0, 1, 0, 3, 2, 0, 8, 0, 9, 2, 21, 4, 12, 0, 8, 5, 3, 2, 0, 5, 2, 0, 7, 0, 2, 0, 3, 2, 0, 8, 0, 99, 2, 21, 4, 12, 0, 8, 5, 3, 2, 0, 5, 2, 0, 7, 0, 3, 0, 3, 2, 0, 8, 0, 999, 4, 12, 0, 8, 5, 3, 2, 0, 5, 2, 0, 7, 0, 4, 0, 3, 2, 0, 8, 0, 9999])], [], [], [(20, [0], [50, 2, 0, 6, 8, 3, 7, 7, 3, 2, 0, 6, 0, 3, 0, 3, 2, 0, 8, 0, 9999])], [], [(9, 5, -2000, 0), (9, 7, -2000, 4294967296), (5, 7, 0, 4294967296)])
theorem oo_Sy_advance_30 {kA : Nat → ClassId} : or_ok PRD kA GG o_Sy_advance_30 := by
  refine or_mk fun A ta ws vs hD hth hl => ?_
  intro t0 r0 t2 r2 t4 k4 t5 k5 t7 k7 t8 k8 t9 k9 t10 k10 t11 k11 d0 d1 d2 f0 f1 f2 f3 f4 f5 f6 ta1 w1 le1 s1 f8 f9 f10 f11
  replace f1 := shm_216 f1
  replace f3 := shm_143 f3
  replace f4 := shm_109 f4
  replace f5 := shm_1748 f5
  replace f6 := shm_5 f6
  have s1 : (∀ b j, w_el ws b j = w_el w1 b j) ∧ ∀ b j, w_fd ws b j = if b = v_ad (n_v vs 2) ∧ j = 6 then n_v vs 11 else w_fd w1 b j := s1.2
  replace f11 := shm_1748 f11
  have q2 : n_v vs 2 = n_v vs 0 := f6.symm
  simp only [q2] at f1 f3 f4 f5
  rw [q2] at s1
  simp only [q2] at f11
  have g1 : v_iv (n_v vs 8) = w_fi ws (n_v vs 0) 7 := congrArg v_iv f1
  have g3 : v_iv (n_v vs 4) = w_fi ws (n_v vs 0) 8 := congrArg v_iv f3
  have g4 : v_iv (n_v vs 5) = w_fi ws (n_v vs 0) 5 := congrArg v_iv f4
  have fe_0_5_1 : w_fi ws (n_v vs 0) 5 = w_fi w1 (n_v vs 0) 5 := by show v_iv (w_fd _ _ _) = v_iv (w_fd _ _ _); rw [s1.2, if_neg (fun e => absurd e.2 (by decide))]
  have fe_0_7_1 : w_fi ws (n_v vs 0) 7 = w_fi w1 (n_v vs 0) 7 := by show v_iv (w_fd _ _ _) = v_iv (w_fd _ _ _); rw [s1.2, if_neg (fun e => absurd e.2 (by decide))]
  have fe_0_8_1 : w_fi ws (n_v vs 0) 8 = w_fi w1 (n_v vs 0) 8 := by show v_iv (w_fd _ _ _) = v_iv (w_fd _ _ _); rw [s1.2, if_neg (fun e => absurd e.2 (by decide))]
  have kz_0_5 := fdq_36 hD hth r0
  have kz_0_6 := fdq_304 hD hth r0
  have kz_0_7 := fdq_37 hD hth r0
  have kz_0_8 := fdq_305 hD hth r0
  have nf0 : fc_1 PRD (20, [0], [50, 2, 0, 6, 8, 3, 7, 7, 3, 2, 0, 6, 0, 3, 0, 3, 2, 0, 8, 0, 9999]) ws (vs) := ⟨nf_in hl rfl, sgq_1747 (vc_Sy_advance_30_0 (v_iv (n_v vs 4)) (v_iv (n_v vs 5)) (v_iv (n_v vs 8)) (v_iv (n_v vs 9)) (w_fi ws (n_v vs 0) 6) (w_fi ws (n_v vs 0) 7) (w_fi ws (n_v vs 0) 8) (w_fi ws (n_v vs 0) 5) (w_fi w1 (n_v vs 0) 8) (w_fi w1 (n_v vs 0) 7) (w_fi w1 (n_v vs 0) 5) k4 k5 k8 k9 g1 g3 g4 f5 (shm_14 f9) f11 fe_0_5_1 fe_0_7_1 fe_0_8_1 kz_0_5 kz_0_6 kz_0_7 kz_0_8)⟩
  refine ⟨(fun _ h => (by cases h)), [], trivial, ?_, (fun _ h => (by cases h))⟩
  rw [List.append_nil]
  exact List.forall_mem_cons.mpr ⟨⟨show (20 : Nat) < 100 from by decide, nf0⟩, (fun _ h => (by cases h))⟩
set_option maxHeartbeats 4000000 in
theorem vc_Sy_advance_31_0 (x13 : Int) (kind_0 : Int) (begin_0 : Int) (number_0 : Int) (next_0 : Int) (number_1 : Int) (begin_1 : Int) (next_1 : Int) (k13 : 1 ≤ x13 ∧ x13 ≤ 1) (g0 : x13 = kind_0) (fe_0_5_1 : next_0 = next_1) (fe_0_7_1 : begin_0 = begin_1) (fe_0_8_1 : number_0 = number_1) (kz_0_5 : 0 ≤ next_0 ∧ next_0 ≤ 2000) (kz_0_6 : 0 ≤ kind_0 ∧ kind_0 ≤ 127) (kz_0_7 : 0 ≤ begin_0 ∧ begin_0 ≤ 2000) (kz_0_8 : 0 ≤ number_0 ∧ number_0 ≤ 1000000) : (kind_0 ≠ 3) ∨ (number_0 ≤ 9999) := by
  subst fe_0_5_1
  subst fe_0_7_1
  subst fe_0_8_1
  first
    | omega
  
def o_Sy_advance_31 : or_T := (297, 14, [(0, (2, 0, 0, [11])), (2, (2, 0, 0, [11])), (4, (0, 0, 1000000, [])), (5, (0, 5, 1999, [])), (7, (0, 6, 2000, [])), (10, (0, 0, 2000, [])), (11, (0, 5, 1999, [])), (12, (0, 4, 4, [])), (13, (0, 1, 1, []))], [(9, [13, 2], [6]), (9, [10, 2], [7]), (9, [7, 2], [4]), (9, [4, 2], [8]), (9, [5, 2], [5]), (20, [2], [50, 3, 0, 8, 7, 5, 2, 7, 0, 2, 0, 0, 2, 0, 8, 2, 8, 0, 3, 2, 0, 7, 2, 0, 5, 2, 21, 4, 12, 0, 8, 5, 3, 2, 0, 5, 2, 0, 7, 0, 0, 0, 3, 2, 0, 8, 0, 0, 2, 21, 4, 12, 0, 8, 5, 3, 2, 0, 5, 2, 0, 7, 0, 1, 0, 3, 2, 0, 8, 0, 9, 2, 21, 4, 12, 0, 8, 5, 3, 2, 0, 5, 2, 0, 7, 0, 2, 0, 3, 2, 0, 8, 0, 99, 2, 21, 4, 12, 0, 8, 5, 3, 2, 0, 5, 2, 0, 7, 0, 3, 0, 3, 2, 0, 8, 0, 999, 4, 12, 0, 8, 5, 3, 2, 0, 5, 2, 0, 7, 0, 4, 0, 3, 2, 0, 8, 0, 9999]), (24, [0, 2], []), (101, [2, 13], [6]), (7, [11, 12], [4]), (2, [11, 5, 10], []), (7, [5, 7], [2]), (20, [2], [50, 3, 0, 8, 7, 5, 2, 7, 0, 2, 0, 0, 2, 0, 8, 2, 8, 0, 3, 2, 0, 7, 2, 0, 5, 2, 21, 4, 12, 0, 8, 5, 3, 2, 0, 5, 2, 0, 7, 0, 0, 0, 3, 2, 0, 8, 0, 0, 2, 21, 4, 12, 0, 8, 5, 3, 2, 0, 5, 2, 0, 7, 0, 1, 0, 3, 2, 0, 8, 0, 9, 2, 21, 4, 12, 0, 8, 5, 3, 2, 0, 5, 2, 0, 7, 0, 2, 0, 3, 2, 0, 8, 0, 99, 2, 21, 4, 12, 0, 8, 5, 3, 2, 0, 5, 2, 0, 7, 0, 3, 0, 3, 2, 0, 8, 0, 999, 4, 12, 0, 8, 5, 3, 2, 0, 5, 2, 0, 7, 0, 4, 0, 3, 2, 0, 8, 0, 9999])], [], [], [(20, [0], [50, 2, 0, 6, 8, 3, 7, 7, 3, 2, 0, 6, 0, 3, 0, 3, 2, 0, 8, 0, 9999])], [], [(11, 5, -2000, 0), (11, 7, -4294967296, -1), (5, 7, -4294967296, -1)])
theorem oo_Sy_advance_31 {kA : Nat → ClassId} : or_ok PRD kA GG o_Sy_advance_31 := by
  refine or_mk fun A ta ws vs hD hth hl => ?_
  intro t0 r0 t2 r2 t4 k4 t5 k5 t7 k7 t10 k10 t11 k11 t12 k12 t13 k13 d0 d1 d2 f0 f1 f2 f3 f4 f5 f6 ta1 w1 le1 s1 f8 f9 f10 f11
  replace f0 := shm_110 f0
  replace f6 := shm_5 f6
  have s1 : (∀ b j, w_el ws b j = w_el w1 b j) ∧ ∀ b j, w_fd ws b j = if b = v_ad (n_v vs 2) ∧ j = 6 then n_v vs 13 else w_fd w1 b j := s1.2
  have q2 : n_v vs 2 = n_v vs 0 := f6.symm
  simp only [q2] at f0
  rw [q2] at s1
  have g0 : v_iv (n_v vs 13) = w_fi ws (n_v vs 0) 6 := congrArg v_iv f0
  have fe_0_5_1 : w_fi ws (n_v vs 0) 5 = w_fi w1 (n_v vs 0) 5 := by show v_iv (w_fd _ _ _) = v_iv (w_fd _ _ _); rw [s1.2, if_neg (fun e => absurd e.2 (by decide))]
  have fe_0_7_1 : w_fi ws (n_v vs 0) 7 = w_fi w1 (n_v vs 0) 7 := by show v_iv (w_fd _ _ _) = v_iv (w_fd _ _ _); rw [s1.2, if_neg (fun e => absurd e.2 (by decide))]
  have fe_0_8_1 : w_fi ws (n_v vs 0) 8 = w_fi w1 (n_v vs 0) 8 := by show v_iv (w_fd _ _ _) = v_iv (w_fd _ _ _); rw [s1.2, if_neg (fun e => absurd e.2 (by decide))]
  have kz_0_5 := fdq_36 hD hth r0
  have kz_0_6 := fdq_304 hD hth r0
  have kz_0_7 := fdq_37 hD hth r0
  have kz_0_8 := fdq_305 hD hth r0
  have nf0 : fc_1 PRD (20, [0], [50, 2, 0, 6, 8, 3, 7, 7, 3, 2, 0, 6, 0, 3, 0, 3, 2, 0, 8, 0, 9999]) ws (vs) := ⟨nf_in hl rfl, sgq_1747 (vc_Sy_advance_31_0 (v_iv (n_v vs 13)) (w_fi ws (n_v vs 0) 6) (w_fi ws (n_v vs 0) 7) (w_fi ws (n_v vs 0) 8) (w_fi ws (n_v vs 0) 5) (w_fi w1 (n_v vs 0) 8) (w_fi w1 (n_v vs 0) 7) (w_fi w1 (n_v vs 0) 5) k13 g0 fe_0_5_1 fe_0_7_1 fe_0_8_1 kz_0_5 kz_0_6 kz_0_7 kz_0_8)⟩
  refine ⟨(fun _ h => (by cases h)), [], trivial, ?_, (fun _ h => (by cases h))⟩
  rw [List.append_nil]
  exact List.forall_mem_cons.mpr ⟨⟨show (20 : Nat) < 100 from by decide, nf0⟩, (fun _ h => (by cases h))⟩
set_option maxHeartbeats 4000000 in
theorem vc_Sy_advance_32_0 (x4 : Int) (x5 : Int) (x10 : Int) (x11 : Int) (kind_0 : Int) (begin_0 : Int) (number_0 : Int) (next_0 : Int) (number_1 : Int) (begin_1 : Int) (next_1 : Int) (k4 : 0 ≤ x4 ∧ x4 ≤ 1000000) (k5 : 0 ≤ x5 ∧ x5 ≤ 1999) (k10 : 0 ≤ x10 ∧ x10 ≤ 2000) (k11 : (-2000) ≤ x11 ∧ x11 ≤ 4) (g1 : x10 = begin_0) (g3 : x4 = number_0) (g4 : x5 = next_0) (f5 : (0 ≤ number_0) ∧ ((begin_0 ≤ next_0) ∧ ((((next_0 - begin_0) ≤ 0) → (number_0 ≤ 0)) ∧ ((((next_0 - begin_0) ≤ 1) → (number_0 ≤ 9)) ∧ ((((next_0 - begin_0) ≤ 2) → (number_0 ≤ 99)) ∧ ((((next_0 - begin_0) ≤ 3) → (number_0 ≤ 999)) ∧ (((next_0 - begin_0) ≤ 4) → (number_0 ≤ 9999)))))))) (f9 : x11 = x5 - x10) (f11 : (0 ≤ number_1) ∧ ((begin_1 ≤ next_1) ∧ ((((next_1 - begin_1) ≤ 0) → (number_1 ≤ 0)) ∧ ((((next_1 - begin_1) ≤ 1) → (number_1 ≤ 9)) ∧ ((((next_1 - begin_1) ≤ 2) → (number_1 ≤ 99)) ∧ ((((next_1 - begin_1) ≤ 3) → (number_1 ≤ 999)) ∧ (((next_1 - begin_1) ≤ 4) → (number_1 ≤ 9999)))))))) (fe_0_5_1 : next_0 = next_1) (fe_0_7_1 : begin_0 = begin_1) (fe_0_8_1 : number_0 = number_1) (kz_0_5 : 0 ≤ next_0 ∧ next_0 ≤ 2000) (kz_0_6 : 0 ≤ kind_0 ∧ kind_0 ≤ 127) (kz_0_7 : 0 ≤ begin_0 ∧ begin_0 ≤ 2000) (kz_0_8 : 0 ≤ number_0 ∧ number_0 ≤ 1000000) : (kind_0 ≠ 3) ∨ (number_0 ≤ 9999) := by
  subst fe_0_5_1
  subst fe_0_7_1
  subst fe_0_8_1
  first
    | omega
  
def o_Sy_advance_32 : or_T := (297, 14, [(0, (2, 0, 0, [11])), (2, (2, 0, 0, [11])), (4, (0, 0, 1000000, [])), (5, (0, 0, 1999, [])), (7, (0, 1, 2000, [])), (10, (0, 0, 2000, [])), (11, (0, -2000, 4, [])), (12, (0, 4, 4, [])), (13, (0, 3, 3, []))], [(9, [13, 2], [6]), (9, [10, 2], [7]), (9, [7, 2], [4]), (9, [4, 2], [8]), (9, [5, 2], [5]), (20, [2], [50, 3, 0, 8, 7, 5, 2, 7, 0, 2, 0, 0, 2, 0, 8, 2, 8, 0, 3, 2, 0, 7, 2, 0, 5, 2, 21, 4, 12, 0, 8, 5, 3, 2, 0, 5, 2, 0, 7, 0, 0, 0, 3, 2, 0, 8, 0, 0, 2, 21, 4, 12, 0, 8, 5, 3, 2, 0, 5, 2, 0, 7, 0, 1, 0, 3, 2, 0, 8, 0, 9, 2, 21, 4, 12, 0, 8, 5, 3, 2, 0, 5, 2, 0, 7, 0, 2, 0, 3, 2, 0, 8, 0, 99, 2, 21, 4, 12, 0, 8, 5, 3, 2, 0, 5, 2, 0, 7, 0, 3, 0, 3, 2, 0, 8, 0, 999, 4, 12, 0, 8, 5, 3, 2, 0, 5, 2, 0, 7, 0, 4, 0, 3, 2, 0, 8, 0, 9999]), (24, [0, 2], []), (101, [2, 13], [6]), (7, [11, 12], [5]), (2, [11, 5, 10], []), (7, [5, 7], [2]), (20, [2], [50, 3, 0, 8, 7, 5, 2, 7, 0, 2, 0, 0, 2, 0, 8, 2, 8, 0, 3, 2, 0, 7, 2, 0, 5, 2, 21, 4, 12, 0, 8, 5, 3, 2, 0, 5, 2, 0, 7, 0, 0, 0, 3, 2, 0, 8, 0, 0, 2, 21, 4, 12, 0, 8, 5, 3, 2, 0, 5, 2, 0, 7, 0, 1, 0, 3, 2, 0, 8, 0, 9, 2, 21, 4, 12, 0, 8, 5, 3, 2, 0, 5, 2, 0, 7, 0, 2, 0, 3, 2, 0, 8, 0, 99, 2, 21, 4, 12, 0, 8, 5, 3, 2, 0, 5, 2, 0, 7, 0, 3, 0, 3, 2, 0, 8, 0, 999, 4, 12, 0, 8, 5, 3, 2, 0, 5, 2, 0, 7, 0, 4, 0, 3, 2, 0, 8, 0, 9999])], [], [], [(20, [0], [50, 2, 0, 6, 8, 3, 7, 7, 3, 2, 0, 6, 0, 3, 0, 3, 2, 0, 8, 0, 9999])], [], [(11, 5, -2000, 0), (11, 7, -4294967296, -1), (5, 7, -4294967296, -1)])
theorem oo_Sy_advance_32 {kA : Nat → ClassId} : or_ok PRD kA GG o_Sy_advance_32 := by
  refine or_mk fun A ta ws vs hD hth hl => ?_
  intro t0 r0 t2 r2 t4 k4 t5 k5 t7 k7 t10 k10 t11 k11 t12 k12 t13 k13 d0 d1 d2 f0 f1 f2 f3 f4 f5 f6 ta1 w1 le1 s1 f8 f9 f10 f11
  replace f1 := shm_216 f1
  replace f3 := shm_143 f3
  replace f4 := shm_109 f4
  replace f5 := shm_1748 f5
  replace f6 := shm_5 f6
  have s1 : (∀ b j, w_el ws b j = w_el w1 b j) ∧ ∀ b j, w_fd ws b j = if b = v_ad (n_v vs 2) ∧ j = 6 then n_v vs 13 else w_fd w1 b j := s1.2
  replace f11 := shm_1748 f11
  have q2 : n_v vs 2 = n_v vs 0 := f6.symm
  simp only [q2] at f1 f3 f4 f5
  rw [q2] at s1
  simp only [q2] at f11
  have g1 : v_iv (n_v vs 10) = w_fi ws (n_v vs 0) 7 := congrArg v_iv f1
  have g3 : v_iv (n_v vs 4) = w_fi ws (n_v vs 0) 8 := congrArg v_iv f3
  have g4 : v_iv (n_v vs 5) = w_fi ws (n_v vs 0) 5 := congrArg v_iv f4
  have fe_0_5_1 : w_fi ws (n_v vs 0) 5 = w_fi w1 (n_v vs 0) 5 := by show v_iv (w_fd _ _ _) = v_iv (w_fd _ _ _); rw [s1.2, if_neg (fun e => absurd e.2 (by decide))]
  have fe_0_7_1 : w_fi ws (n_v vs 0) 7 = w_fi w1 (n_v vs 0) 7 := by show v_iv (w_fd _ _ _) = v_iv (w_fd _ _ _); rw [s1.2, if_neg (fun e => absurd e.2 (by decide))]
  have fe_0_8_1 : w_fi ws (n_v vs 0) 8 = w_fi w1 (n_v vs 0) 8 := by show v_iv (w_fd _ _ _) = v_iv (w_fd _ _ _); rw [s1.2, if_neg (fun e => absurd e.2 (by decide))]
  have kz_0_5 := fdq_36 hD hth r0
  have kz_0_6 := fdq_304 hD hth r0
  have kz_0_7 := fdq_37 hD hth r0
  have kz_0_8 := fdq_305 hD hth r0
  have nf0 : fc_1 PRD (20, [0], [50, 2, 0, 6, 8, 3, 7, 7, 3, 2, 0, 6, 0, 3, 0, 3, 2, 0, 8, 0, 9999]) ws (vs) := ⟨nf_in hl rfl, sgq_1747 (vc_Sy_advance_32_0 (v_iv (n_v vs 4)) (v_iv (n_v vs 5)) (v_iv (n_v vs 10)) (v_iv (n_v vs 11)) (w_fi ws (n_v vs 0) 6) (w_fi ws (n_v vs 0) 7) (w_fi ws (n_v vs 0) 8) (w_fi ws (n_v vs 0) 5) (w_fi w1 (n_v vs 0) 8) (w_fi w1 (n_v vs 0) 7) (w_fi w1 (n_v vs 0) 5) k4 k5 k10 k11 g1 g3 g4 f5 (shm_14 f9) f11 fe_0_5_1 fe_0_7_1 fe_0_8_1 kz_0_5 kz_0_6 kz_0_7 kz_0_8)⟩
  refine ⟨(fun _ h => (by cases h)), [], trivial, ?_, (fun _ h => (by cases h))⟩
  rw [List.append_nil]
  exact List.forall_mem_cons.mpr ⟨⟨show (20 : Nat) < 100 from by decide, nf0⟩, (fun _ h => (by cases h))⟩
set_option maxHeartbeats 4000000 in
theorem vc_Sy_advance_33_r0 (x4 : Int) (x5 : Int) (x8 : Int) (x11 : Int) (x12 : Int) (x13 : Int) (x15 : Int) (bytes_0 : Int → Int) (number_0 : Int) (k4 : 0 ≤ x4 ∧ x4 ≤ 1000000) (k5 : 0 ≤ x5 ∧ x5 ≤ 1999) (k8 : 48 ≤ x8 ∧ x8 ≤ 57) (k11 : 0 ≤ x11 ∧ x11 ≤ 10000000) (k12 : (-128) ≤ x12 ∧ x12 ≤ 127) (k13 : (-128) ≤ x13 ∧ x13 ≤ 10000127) (k15 : (-176) ≤ x15 ∧ x15 ≤ 10000079) (d0 : x13 + (-48) ≤ x15 ∧ x15 ≤ x13 + (-48)) (d1 : x12 + (-48) ≤ x15 ∧ x15 ≤ x12 + 9999952) (f1 : x13 = x11 + x12) (h2 : x12 = bytes_0 (x5)) (f5 : x11 = x4 * 10) (g6 : x4 = number_0) (h7 : x8 = bytes_0 (x5)) (kz_0_8 : 0 ≤ number_0 ∧ number_0 ≤ 1000000) : 0 ≤ x15 ∧ x15 ≤ 10000009 := by
  first
    | omega
  
def o_Sy_advance_33 : or_T := (220, 17, [(0, (2, 0, 0, [11])), (2, (2, 0, 0, [11])), (4, (0, 0, 1000000, [])), (5, (0, 0, 1999, [])), (6, (2, 0, 0, [109])), (7, (0, 1, 2000, [])), (8, (0, 48, 57, [])), (10, (0, 10, 10, [])), (11, (0, 0, 10000000, [])), (12, (0, -128, 127, [])), (13, (0, -128, 10000127, [])), (14, (0, 48, 48, [])), (15, (0, -176, 10000079, []))], [(2, [15, 13, 14], []), (1, [13, 11, 12], []), (10, [12, 6, 5], []), (9, [5, 2], [5]), (9, [6, 2], [3]), (3, [11, 4, 10], []), (9, [4, 2], [8]), (10, [8, 6, 5], []), (7, [5, 7], [2]), (9, [7, 2], [4]), (20, [2], [50, 3, 0, 8, 7, 5, 2, 7, 0, 2, 0, 0, 2, 0, 8, 2, 8, 0, 3, 2, 0, 7, 2, 0, 5, 2, 21, 4, 12, 0, 8, 5, 3, 2, 0, 5, 2, 0, 7, 0, 0, 0, 3, 2, 0, 8, 0, 0, 2, 21, 4, 12, 0, 8, 5, 3, 2, 0, 5, 2, 0, 7, 0, 1, 0, 3, 2, 0, 8, 0, 9, 2, 21, 4, 12, 0, 8, 5, 3, 2, 0, 5, 2, 0, 7, 0, 2, 0, 3, 2, 0, 8, 0, 99, 2, 21, 4, 12, 0, 8, 5, 3, 2, 0, 5, 2, 0, 7, 0, 3, 0, 3, 2, 0, 8, 0, 999, 4, 12, 0, 8, 5, 3, 2, 0, 5, 2, 0, 7, 0, 4, 0, 3, 2, 0, 8, 0, 9999]), (24, [0, 2], [])], [(15, (0, 0, 10000009, []))], [], [], [], [(15, 13, -48, -48), (15, 12, -48, 9999952), (15, 11, -176, 79), (13, 12, 0, 10000000), (13, 11, -128, 127), (5, 7, -4294967296, -1)])
theorem oo_Sy_advance_33 {kA : Nat → ClassId} : or_ok PRD kA GG o_Sy_advance_33 := by
  refine or_mk fun A ta ws vs hD hth hl => ?_
  intro t0 r0 t2 r2 t4 k4 t5 k5 t6 r6 t7 k7 t8 k8 t10 k10 t11 k11 t12 k12 t13 k13 t14 k14 t15 k15 d0 d1 d2 d3 d4 d5 f0 f1 f2 f3 f4 f5 f6 f7 f8 f9 f10 f11
  replace f2 := shm_106 f2
  replace f4 := shm_149 f4
  replace f5 := shm_38 f5
  rw [show v_iv (n_v vs 10) = 10 from by omega] at f5
  replace f6 := shm_143 f6
  replace f7 := shm_106 f7
  replace f11 := shm_5 f11
  have q2 : n_v vs 2 = n_v vs 0 := f11.symm
  simp only [q2] at f4 f6
  have ad_6 : v_ad (n_v vs 6) = w_ar ws (n_v vs 0) 3 := congrArg v_ad f4
  simp only [ad_6] at f2
  have h2 : v_iv (n_v vs 12) = w_ei ws (w_ar ws (n_v vs 0) 3) (v_iv (n_v vs 5)) := f2
  have g6 : v_iv (n_v vs 4) = w_fi ws (n_v vs 0) 8 := congrArg v_iv f6
  simp only [ad_6] at f7
  have h7 : v_iv (n_v vs 8) = w_ei ws (w_ar ws (n_v vs 0) 3) (v_iv (n_v vs 5)) := f7
  have kz_0_8 := fdq_305 hD hth r0
  have hrf0 : 0 ≤ v_iv (n_v vs 15) ∧ v_iv (n_v vs 15) ≤ 10000009 := vc_Sy_advance_33_r0 (v_iv (n_v vs 4)) (v_iv (n_v vs 5)) (v_iv (n_v vs 8)) (v_iv (n_v vs 11)) (v_iv (n_v vs 12)) (v_iv (n_v vs 13)) (v_iv (n_v vs 15)) (w_ei ws (w_ar ws (n_v vs 0) 3)) (w_fi ws (n_v vs 0) 8) k4 k5 k8 k11 k12 k13 k15 d0 d1 (shm_12 f1) h2 f5 g6 h7 kz_0_8
  have rf15 : tv_ok ta (0, 0, 10000009, []) (n_v vs 15) := tv_in t15 (by first | omega | grind) (by first | omega | grind)
  refine ⟨List.forall_mem_cons.mpr ⟨rf15, (fun _ h => (by cases h))⟩, [], trivial, ?_, (fun _ h => (by cases h))⟩
  rw [List.append_nil]
  exact (fun _ h => (by cases h))
set_option maxHeartbeats 4000000 in
theorem vc_Sy_advance_34_0 (x4 : Int) (x5 : Int) (x8 : Int) (x11 : Int) (x12 : Int) (x13 : Int) (x15 : Int) (x17 : Int) (x19 : Int) (next_0 : Int) (number_0 : Int) (end_0 : Int) (next_1 : Int) (bytes_2 : Int → Int) (number_2 : Int) (begin_2 : Int) (next_2 : Int) (end_1 : Int) (begin_0 : Int) (begin_1 : Int) (number_1 : Int) (bytes_0 : Int → Int) (bytes_1 : Int → Int) (k4 : 0 ≤ x4 ∧ x4 ≤ 1000000) (k5 : 0 ≤ x5 ∧ x5 ≤ 1999) (k8 : 48 ≤ x8 ∧ x8 ≤ 57) (k11 : 0 ≤ x11 ∧ x11 ≤ 10000000) (k12 : (-128) ≤ x12 ∧ x12 ≤ 127) (k13 : (-128) ≤ x13 ∧ x13 ≤ 10000127) (k15 : 0 ≤ x15 ∧ x15 ≤ 10000009) (k17 : 0 ≤ x17 ∧ x17 ≤ 1000000) (k19 : 1 ≤ x19 ∧ x19 ≤ 2000) (d0 : x5 + 1 ≤ x19 ∧ x19 ≤ x5 + 1) (d2 : x13 + (-48) ≤ x15 ∧ x15 ≤ x13 + (-48)) (g0 : x19 = next_0) (g1 : x17 = number_0) (f4 : (-1) * x15 + (1 * x17 + 0) ≤ 0) (g9 : x5 = next_1) (f16 : x13 = x11 + x12) (h17 : x12 = bytes_2 (x5)) (f18 : x11 = x4 * 10) (g19 : x4 = number_2) (h20 : x8 = bytes_2 (x5)) (f22 : (0 ≤ number_2) ∧ ((begin_2 ≤ next_2) ∧ ((((next_2 - begin_2) ≤ 0) → (number_2 ≤ 0)) ∧ ((((next_2 - begin_2) ≤ 1) → (number_2 ≤ 9)) ∧ ((((next_2 - begin_2) ≤ 2) → (number_2 ≤ 99)) ∧ ((((next_2 - begin_2) ≤ 3) → (number_2 ≤ 999)) ∧ (((next_2 - begin_2) ≤ 4) → (number_2 ≤ 9999)))))))) (fe_0_4_1 : end_0 = end_1) (fe_0_7_1 : begin_0 = begin_1) (fe_0_8_1 : number_0 = number_1) (fe_0_5_2 : next_1 = next_2) (fe_0_7_2 : begin_1 = begin_2) (hE_0_3_1 : ∀ j : Int, bytes_0 j = bytes_1 j) (hE_0_3_2 : ∀ j : Int, bytes_1 j = bytes_2 j) (kz_0_4 : 0 ≤ end_0 ∧ end_0 ≤ 2000) (kz_0_5 : 0 ≤ next_0 ∧ next_0 ≤ 2000) (kz_0_7 : 0 ≤ begin_0 ∧ begin_0 ≤ 2000) (kz_0_8 : 0 ≤ number_0 ∧ number_0 ≤ 1000000) : (0 ≤ number_0) ∧ ((begin_0 ≤ next_0) ∧ ((((next_0 - begin_0) ≤ 0) → (number_0 ≤ 0)) ∧ ((((next_0 - begin_0) ≤ 1) → (number_0 ≤ 9)) ∧ ((((next_0 - begin_0) ≤ 2) → (number_0 ≤ 99)) ∧ ((((next_0 - begin_0) ≤ 3) → (number_0 ≤ 999)) ∧ (((next_0 - begin_0) ≤ 4) → (number_0 ≤ 9999))))))) := by
  subst fe_0_4_1
  subst fe_0_7_1
  subst fe_0_8_1
  subst fe_0_5_2
  subst fe_0_7_2
  have e_hE_0_3_1 := funext hE_0_3_1; subst e_hE_0_3_1
  have e_hE_0_3_2 := funext hE_0_3_2; subst e_hE_0_3_2
  first
    | omega
  
def o_Sy_advance_34 : or_T := (171, 20, [(0, (2, 0, 0, [11])), (4, (0, 0, 1000000, [])), (5, (0, 0, 1999, [])), (8, (0, 48, 57, [])), (10, (0, 10, 10, [])), (11, (0, 0, 10000000, [])), (12, (0, -128, 127, [])), (13, (0, -128, 10000127, [])), (15, (0, 0, 10000009, [])), (17, (0, 0, 1000000, [])), (19, (0, 1, 2000, []))], [(9, [19, 2], [5]), (9, [17, 2], [8]), (9, [6, 2], [3]), (23, [15, 17], [0, -1, 1]), (24, [0, 2], []), (101, [2, 19], [5]), (9, [5, 2], [5]), (101, [2, 17], [8]), (1, [13, 11, 12], []), (10, [12, 6, 5], []), (3, [11, 4, 10], []), (9, [4, 2], [8]), (10, [8, 6, 5], []), (20, [2], [50, 3, 0, 8, 7, 5, 2, 7, 0, 2, 0, 0, 2, 0, 8, 2, 8, 0, 3, 2, 0, 7, 2, 0, 5, 2, 21, 4, 12, 0, 8, 5, 3, 2, 0, 5, 2, 0, 7, 0, 0, 0, 3, 2, 0, 8, 0, 0, 2, 21, 4, 12, 0, 8, 5, 3, 2, 0, 5, 2, 0, 7, 0, 1, 0, 3, 2, 0, 8, 0, 9, 2, 21, 4, 12, 0, 8, 5, 3, 2, 0, 5, 2, 0, 7, 0, 2, 0, 3, 2, 0, 8, 0, 99, 2, 21, 4, 12, 0, 8, 5, 3, 2, 0, 5, 2, 0, 7, 0, 3, 0, 3, 2, 0, 8, 0, 999, 4, 12, 0, 8, 5, 3, 2, 0, 5, 2, 0, 7, 0, 4, 0, 3, 2, 0, 8, 0, 9999])], [], [], [(20, [2], [50, 3, 0, 8, 7, 5, 2, 7, 0, 2, 0, 0, 2, 0, 8, 2, 8, 0, 3, 2, 0, 7, 2, 0, 5, 2, 21, 4, 12, 0, 8, 5, 3, 2, 0, 5, 2, 0, 7, 0, 0, 0, 3, 2, 0, 8, 0, 0, 2, 21, 4, 12, 0, 8, 5, 3, 2, 0, 5, 2, 0, 7, 0, 1, 0, 3, 2, 0, 8, 0, 9, 2, 21, 4, 12, 0, 8, 5, 3, 2, 0, 5, 2, 0, 7, 0, 2, 0, 3, 2, 0, 8, 0, 99, 2, 21, 4, 12, 0, 8, 5, 3, 2, 0, 5, 2, 0, 7, 0, 3, 0, 3, 2, 0, 8, 0, 999, 4, 12, 0, 8, 5, 3, 2, 0, 5, 2, 0, 7, 0, 4, 0, 3, 2, 0, 8, 0, 9999])], [], [(19, 5, 1, 1), (15, 13, -48, -48)])
theorem oo_Sy_advance_34 {kA : Nat → ClassId} : or_ok PRD kA GG o_Sy_advance_34 := by
  refine or_mk fun A ta ws vs hD hth hl => ?_
  intro t0 r0 t4 k4 t5 k5 t8 k8 t10 k10 t11 k11 t12 k12 t13 k13 t15 k15 t17 k17 t19 k19 d0 d2 f0 f1 f3 f4 f6 ta1 w1 le1 s1 f9 ta2 w2 le2 s2 f16 f17 f18 f19 f20 f22
  replace f0 := shm_109 f0
  replace f1 := shm_143 f1
  replace f3 := shm_149 f3
  replace f4 := shm_22 f4
  replace f6 := shm_5 f6
  have s1 : (∀ b j, w_el ws b j = w_el w1 b j) ∧ ∀ b j, w_fd ws b j = if b = v_ad (n_v vs 2) ∧ j = 5 then n_v vs 19 else w_fd w1 b j := s1.2
  replace f9 := shm_109 f9
  have s2 : (∀ b j, w_el w1 b j = w_el w2 b j) ∧ ∀ b j, w_fd w1 b j = if b = v_ad (n_v vs 2) ∧ j = 8 then n_v vs 17 else w_fd w2 b j := s2.2
  replace f16 := shm_12 f16
  replace f17 := shm_106 f17
  replace f18 := shm_38 f18
  rw [show v_iv (n_v vs 10) = 10 from by omega] at f18
  replace f19 := shm_143 f19
  replace f20 := shm_106 f20
  replace f22 := shm_1748 f22
  have q2 : n_v vs 2 = n_v vs 0 := f6.symm
  simp only [q2] at f0 f1 f3
  rw [q2] at s1
  simp only [q2] at f9
  rw [q2] at s2
  simp only [q2] at f19 f22
  have ad_6 : v_ad (n_v vs 6) = w_ar ws (n_v vs 0) 3 := congrArg v_ad f3
  have g0 : v_iv (n_v vs 19) = w_fi ws (n_v vs 0) 5 := congrArg v_iv f0
  have g1 : v_iv (n_v vs 17) = w_fi ws (n_v vs 0) 8 := congrArg v_iv f1
  have g9 : v_iv (n_v vs 5) = w_fi w1 (n_v vs 0) 5 := congrArg v_iv f9
  simp only [ad_6] at f17
  have h17 : v_iv (n_v vs 12) = w_ei w2 (w_ar ws (n_v vs 0) 3) (v_iv (n_v vs 5)) := f17
  have g19 : v_iv (n_v vs 4) = w_fi w2 (n_v vs 0) 8 := congrArg v_iv f19
  simp only [ad_6] at f20
  have h20 : v_iv (n_v vs 8) = w_ei w2 (w_ar ws (n_v vs 0) 3) (v_iv (n_v vs 5)) := f20
  have fe_0_4_1 : w_fi ws (n_v vs 0) 4 = w_fi w1 (n_v vs 0) 4 := by show v_iv (w_fd _ _ _) = v_iv (w_fd _ _ _); rw [s1.2, if_neg (fun e => absurd e.2 (by decide))]
  have fe_0_7_1 : w_fi ws (n_v vs 0) 7 = w_fi w1 (n_v vs 0) 7 := by show v_iv (w_fd _ _ _) = v_iv (w_fd _ _ _); rw [s1.2, if_neg (fun e => absurd e.2 (by decide))]
  have fe_0_8_1 : w_fi ws (n_v vs 0) 8 = w_fi w1 (n_v vs 0) 8 := by show v_iv (w_fd _ _ _) = v_iv (w_fd _ _ _); rw [s1.2, if_neg (fun e => absurd e.2 (by decide))]
  have fe_0_5_2 : w_fi w1 (n_v vs 0) 5 = w_fi w2 (n_v vs 0) 5 := by show v_iv (w_fd _ _ _) = v_iv (w_fd _ _ _); rw [s2.2, if_neg (fun e => absurd e.2 (by decide))]
  have fe_0_7_2 : w_fi w1 (n_v vs 0) 7 = w_fi w2 (n_v vs 0) 7 := by show v_iv (w_fd _ _ _) = v_iv (w_fd _ _ _); rw [s2.2, if_neg (fun e => absurd e.2 (by decide))]
  have hE_0_3_1 : ∀ j : Int, w_ei ws (w_ar ws (n_v vs 0) 3) j = w_ei w1 (w_ar ws (n_v vs 0) 3) j := fun j => s1.1 _ _
  have hE_0_3_2 : ∀ j : Int, w_ei w1 (w_ar ws (n_v vs 0) 3) j = w_ei w2 (w_ar ws (n_v vs 0) 3) j := fun j => s2.1 _ _
  have kz_0_4 := fdq_306 hD hth r0
  have kz_0_5 := fdq_36 hD hth r0
  have kz_0_7 := fdq_37 hD hth r0
  have kz_0_8 := fdq_305 hD hth r0
  have nf0 : fc_1 PRD (20, [2], [50, 3, 0, 8, 7, 5, 2, 7, 0, 2, 0, 0, 2, 0, 8, 2, 8, 0, 3, 2, 0, 7, 2, 0, 5, 2, 21, 4, 12, 0, 8, 5, 3, 2, 0, 5, 2, 0, 7, 0, 0, 0, 3, 2, 0, 8, 0, 0, 2, 21, 4, 12, 0, 8, 5, 3, 2, 0, 5, 2, 0, 7, 0, 1, 0, 3, 2, 0, 8, 0, 9, 2, 21, 4, 12, 0, 8, 5, 3, 2, 0, 5, 2, 0, 7, 0, 2, 0, 3, 2, 0, 8, 0, 99, 2, 21, 4, 12, 0, 8, 5, 3, 2, 0, 5, 2, 0, 7, 0, 3, 0, 3, 2, 0, 8, 0, 999, 4, 12, 0, 8, 5, 3, 2, 0, 5, 2, 0, 7, 0, 4, 0, 3, 2, 0, 8, 0, 9999]) ws (vs) := by
    refine ⟨nf_in hl rfl, sgq_1748 ?_⟩
    · show (0 ≤ w_fi ws (n_v vs 2) 8) ∧ ((w_fi ws (n_v vs 2) 7 ≤ w_fi ws (n_v vs 2) 5) ∧ ((((w_fi ws (n_v vs 2) 5 - w_fi ws (n_v vs 2) 7) ≤ 0) → (w_fi ws (n_v vs 2) 8 ≤ 0)) ∧ ((((w_fi ws (n_v vs 2) 5 - w_fi ws (n_v vs 2) 7) ≤ 1) → (w_fi ws (n_v vs 2) 8 ≤ 9)) ∧ ((((w_fi ws (n_v vs 2) 5 - w_fi ws (n_v vs 2) 7) ≤ 2) → (w_fi ws (n_v vs 2) 8 ≤ 99)) ∧ ((((w_fi ws (n_v vs 2) 5 - w_fi ws (n_v vs 2) 7) ≤ 3) → (w_fi ws (n_v vs 2) 8 ≤ 999)) ∧ (((w_fi ws (n_v vs 2) 5 - w_fi ws (n_v vs 2) 7) ≤ 4) → (w_fi ws (n_v vs 2) 8 ≤ 9999)))))))
      rw [q2]
      exact vc_Sy_advance_34_0 (v_iv (n_v vs 4)) (v_iv (n_v vs 5)) (v_iv (n_v vs 8)) (v_iv (n_v vs 11)) (v_iv (n_v vs 12)) (v_iv (n_v vs 13)) (v_iv (n_v vs 15)) (v_iv (n_v vs 17)) (v_iv (n_v vs 19)) (w_fi ws (n_v vs 0) 5) (w_fi ws (n_v vs 0) 8) (w_fi ws (n_v vs 0) 4) (w_fi w1 (n_v vs 0) 5) (w_ei w2 (w_ar ws (n_v vs 0) 3)) (w_fi w2 (n_v vs 0) 8) (w_fi w2 (n_v vs 0) 7) (w_fi w2 (n_v vs 0) 5) (w_fi w1 (n_v vs 0) 4) (w_fi ws (n_v vs 0) 7) (w_fi w1 (n_v vs 0) 7) (w_fi w1 (n_v vs 0) 8) (w_ei ws (w_ar ws (n_v vs 0) 3)) (w_ei w1 (w_ar ws (n_v vs 0) 3)) k4 k5 k8 k11 k12 k13 k15 k17 k19 d0 d2 g0 g1 f4 g9 f16 h17 f18 g19 h20 f22 fe_0_4_1 fe_0_7_1 fe_0_8_1 fe_0_5_2 fe_0_7_2 hE_0_3_1 hE_0_3_2 kz_0_4 kz_0_5 kz_0_7 kz_0_8
  refine ⟨(fun _ h => (by cases h)), [], trivial, ?_, (fun _ h => (by cases h))⟩
  rw [List.append_nil]
  exact List.forall_mem_cons.mpr ⟨⟨show (20 : Nat) < 100 from by decide, nf0⟩, (fun _ h => (by cases h))⟩

def n_Sy_advance_an : List an_T := [(0, [(0, (2, 0, 0, [11]))], [], (0, 0), [(0, 0, 100000), (1, 3, 2000), (0, 0, 100000)], [], [((0, 5), (0, 0, 2000, [])), ((0, 3), (2, 0, 0, [109]))], [(2, 0, 0, [11]), (2, 0, 0, [109])], 0, [], [(24, [0, 2], [])]), (94, [(0, (2, 0, 0, [11])), (1, (0, 97, 122, []))], [], (0, 0), [(0, 0, 99906), (1, 4, 2000), (0, 0, 100000)], [], [((0, 5), (0, 0, 2000, [])), ((0, 3), (2, 0, 0, [109]))], [(2, 0, 0, [11]), (2, 0, 0, [109])], 0, [], [(24, [0, 2], [])]), (171, [(0, (2, 0, 0, [11])), (1, (0, 48, 57, []))], [], (0, 0), [(0, 0, 99829), (1, 5, 2000), (0, 0, 100000)], [], [((0, 8), (0, 0, 1000000, [])), ((0, 5), (0, 0, 2000, [])), ((0, 3), (2, 0, 0, [109]))], [(2, 0, 0, [11]), (2, 0, 0, [109])], 0, [], [(20, [2], [50, 3, 0, 8, 7, 5, 2, 7, 0, 2, 0, 0, 2, 0, 8, 2, 8, 0, 3, 2, 0, 7, 2, 0, 5, 2, 21, 4, 12, 0, 8, 5, 3, 2, 0, 5, 2, 0, 7, 0, 0, 0, 3, 2, 0, 8, 0, 0, 2, 21, 4, 12, 0, 8, 5, 3, 2, 0, 5, 2, 0, 7, 0, 1, 0, 3, 2, 0, 8, 0, 9, 2, 21, 4, 12, 0, 8, 5, 3, 2, 0, 5, 2, 0, 7, 0, 2, 0, 3, 2, 0, 8, 0, 99, 2, 21, 4, 12, 0, 8, 5, 3, 2, 0, 5, 2, 0, 7, 0, 3, 0, 3, 2, 0, 8, 0, 999, 4, 12, 0, 8, 5, 3, 2, 0, 5, 2, 0, 7, 0, 4, 0, 3, 2, 0, 8, 0, 9999]), (24, [0, 2], [])])]
def t_Sy_advance_ct : ct_L := [(0, 76, e_Sy_isSmall), (0, 80, e_Re_isDigit), (663, 86, e_jMath_min1_v344), (663, 86, e_jMath_min1_v345), (663, 86, e_jMath_min1_v346), (663, 86, e_jMath_min1_v347), (663, 86, e_jMath_min1_v348), (663, 86, e_jMath_min1_v349), (853, 94, e_jStr_indexOf1_v337), (1000000, 92, en_ro [] (2, 0, 0, [5005]))]
