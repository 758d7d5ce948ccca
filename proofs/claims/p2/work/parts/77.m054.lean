set_option maxHeartbeats 4000000 in
theorem vc_Mo_embed_0_0 (x1 : Int) (pt_0 : Int → Int) (ph_0 : Int → Int) (pn_0 : Int) (pm_0 : Int) (pt_1 : Int → Int) (ph_1 : Int → Int) (pn_1 : Int) (pm_1 : Int) (onlyPiece_0 : Int) (k1 : (-1) ≤ x1 ∧ x1 ≤ (-1)) (fe_0_31_1 : pn_0 = pn_1) (fe_0_32_1 : pm_0 = pm_1) (fe_0_49_1 : onlyPiece_0 = x1) (hE_0_33_1 : ∀ j : Int, pt_0 j = pt_1 j) (hE_0_34_1 : ∀ j : Int, ph_0 j = ph_1 j) (kz_0_31 : 0 ≤ pn_0 ∧ pn_0 ≤ 25) (kz_0_32 : 0 ≤ pm_0 ∧ pm_0 ≤ 80) (kz_0_49 : (-1) ≤ onlyPiece_0 ∧ onlyPiece_0 ≤ 79) : onlyPiece_0 = (-1) := by
  subst fe_0_31_1
  subst fe_0_32_1
  have e_hE_0_33_1 := funext hE_0_33_1; subst e_hE_0_33_1
  have e_hE_0_34_1 := funext hE_0_34_1; subst e_hE_0_34_1
  first | omega
def o_Mo_embed_0 : or_T := (6, 2, [(0, (2, 0, 0, [165])), (1, (0, -1, -1, []))], [(101, [0, 1], [49])], [], [], [(20, [0], [50, 1, 0, 49, 1, 3, 2, 0, 49, 0, -1])], [], [])
theorem oo_Mo_embed_0 {kA : Nat → ClassId} : or_ok PRD kA GG o_Mo_embed_0 := by
  refine or_mk fun A ta ws vs hD hth hl => ?_
  intro t0 r0 t1 k1 ta1 w1 le1 s1
  have s1 : (∀ b j, w_el ws b j = w_el w1 b j) ∧ ∀ b j, w_fd ws b j = if b = v_ad (n_v vs 0) ∧ j = 49 then n_v vs 1 else w_fd w1 b j := s1.2
  have fe_0_31_1 : w_fi ws (n_v vs 0) 31 = w_fi w1 (n_v vs 0) 31 := by show v_iv (w_fd _ _ _) = v_iv (w_fd _ _ _); rw [s1.2, if_neg (fun e => absurd e.2 (by decide))]
  have fe_0_32_1 : w_fi ws (n_v vs 0) 32 = w_fi w1 (n_v vs 0) 32 := by show v_iv (w_fd _ _ _) = v_iv (w_fd _ _ _); rw [s1.2, if_neg (fun e => absurd e.2 (by decide))]
  have fe_0_49_1 : w_fi ws (n_v vs 0) 49 = v_iv (n_v vs 1) := by show v_iv (w_fd _ _ _) = _; rw [s1.2, if_pos ⟨rfl, rfl⟩]
  have hE_0_33_1 : ∀ j : Int, w_ei ws (w_ar ws (n_v vs 0) 33) j = w_ei w1 (w_ar ws (n_v vs 0) 33) j := fun j => s1.1 _ _
  have hE_0_34_1 : ∀ j : Int, w_ei ws (w_ar ws (n_v vs 0) 34) j = w_ei w1 (w_ar ws (n_v vs 0) 34) j := fun j => s1.1 _ _
  have kz_0_31 := fdq_144 hD hth r0
  have kz_0_32 := fdq_139 hD hth r0
  have kz_0_49 := fdq_145 hD hth r0
  have nf0 : fc_1 PRD (20, [0], [50, 1, 0, 49, 1, 3, 2, 0, 49, 0, -1]) ws (vs) := ⟨nf_in hl rfl, sgq_1612 (vc_Mo_embed_0_0 (v_iv (n_v vs 1)) (w_ei ws (w_ar ws (n_v vs 0) 33)) (w_ei ws (w_ar ws (n_v vs 0) 34)) (w_fi ws (n_v vs 0) 31) (w_fi ws (n_v vs 0) 32) (w_ei w1 (w_ar ws (n_v vs 0) 33)) (w_ei w1 (w_ar ws (n_v vs 0) 34)) (w_fi w1 (n_v vs 0) 31) (w_fi w1 (n_v vs 0) 32) (w_fi ws (n_v vs 0) 49) k1 fe_0_31_1 fe_0_32_1 fe_0_49_1 hE_0_33_1 hE_0_34_1 kz_0_31 kz_0_32 kz_0_49)⟩
  refine ⟨(fun _ h => (by cases h)), [], trivial, ?_, (fun _ h => (by cases h))⟩
  rw [List.append_nil]
  exact List.forall_mem_cons.mpr ⟨⟨show (20 : Nat) < 100 from by decide, nf0⟩, (fun _ h => (by cases h))⟩
set_option maxHeartbeats 4000000 in
theorem vc_Mo_embed_1_0 (x3 : Int) (rotMany_0 : Int → Int) (k3 : 0 ≤ x3 ∧ x3 ≤ 0) : E0 (rotMany_0) (x3) := by
  first
    | (intro j a b; exfalso; omega)
    | (have h := ‹E0 _ _›
       intro j a b
       by_cases q : j = x3
       · have v := (hE_0_36_1 j a).1 q; omega
       · rw [(hE_0_36_1 j a).2 q]; exact h j a (by omega))
def o_Mo_embed_1 : or_T := (12, 4, [(3, (0, 0, 0, []))], [], [], [], [(20, [0, 3], [60, 0, 1, 183, 36]), (24, [0, 0], [])], [], [])
theorem oo_Mo_embed_1 {kA : Nat → ClassId} : or_ok PRD kA GG o_Mo_embed_1 := by
  refine or_mk fun A ta ws vs hD hth hl => ?_
  intro t3 k3
  have nf0 : fc_1 PRD (20, [0, 3], [60, 0, 1, 183, 36]) ws (vs) := ⟨nf_in hl rfl, sgq_1964 (vc_Mo_embed_1_0 (v_iv (n_v vs 3)) (w_ei ws (w_ar ws (n_v vs 0) 36)) k3)⟩
  have nf1 : fc_1 PRD (24, [0, 0], []) ws (vs) := by
    refine ⟨nf_in hl rfl, sgq_1 ?_⟩
    · show n_v vs 0 = n_v vs 0
      first | rfl | simp only [true_and]
  refine ⟨(fun _ h => (by cases h)), [], trivial, ?_, (fun _ h => (by cases h))⟩
  rw [List.append_nil]
  exact List.forall_mem_cons.mpr ⟨⟨show (20 : Nat) < 100 from by decide, nf0⟩, List.forall_mem_cons.mpr ⟨⟨show (24 : Nat) < 100 from by decide, nf1⟩, (fun _ h => (by cases h))⟩⟩
set_option maxHeartbeats 4000000 in
theorem vc_Mo_embed_2_0 (x2 : Int) (x3 : Int) (x4 : Int) (x5 : Int) (pn_0 : Int) (pt_0 : Int → Int) (ph_0 : Int → Int) (pm_0 : Int) (alive_0 : Int → Int) (blockOf_0 : Int → Int) (rotMany_0 : Int → Int) (rot_0 : Int → Int) (k2 : 0 ≤ x2 ∧ x2 ≤ 80) (k3 : 0 ≤ x3 ∧ x3 ≤ 25) (k4 : 0 ≤ x4 ∧ x4 ≤ 25) (k5 : 0 ≤ x5 ∧ x5 ≤ 0) (d0 : x4 + 0 ≤ x3 ∧ x3 ≤ x4 + 4294967296) (g1 : x4 = pn_0) (f3 : BK (pm_0) (pt_0) (ph_0) (alive_0) (blockOf_0) (x2)) (f5 : E0 (rotMany_0) (x3)) (kz_0_31 : 0 ≤ pn_0 ∧ pn_0 ≤ 25) (kz_0_32 : 0 ≤ pm_0 ∧ pm_0 ≤ 80) : EMI (pn_0) (pm_0) (pt_0) (ph_0) (alive_0) (blockOf_0) (rotMany_0) (rot_0) (x5) := by
  first
    | exact emi_0 ‹BK _ _ _ _ _ _› ‹E0 _ _› (by omega) (by omega)
    | exact emi_nx ‹GOK _ _ _ _› ‹BK _ _ _ _ _ _› ‹DRB _ _ _ _ _ _ _ _ _› ‹MID _ _ _ _ _ _ _ _ _ _ _ _ _› (by omega) (by omega)
def o_Mo_embed_2 : or_T := (35, 6, [(0, (2, 0, 0, [165])), (2, (0, 0, 80, [])), (3, (0, 0, 25, [])), (4, (0, 0, 25, [])), (5, (0, 0, 0, []))], [(9, [4, 1], [31]), (20, [1, 2], [60, 1, 4, 97, 32, 33, 34, 35, 17]), (20, [1, 3], [60, 0, 1, 183, 36]), (24, [0, 1], [])], [], [], [(20, [1, 5], [60, 2, 6, 182, 31, 32, 33, 34, 35, 17, 36, 37])], [], [(3, 4, 0, 4294967296)])
theorem oo_Mo_embed_2 {kA : Nat → ClassId} : or_ok PRD kA GG o_Mo_embed_2 := by
  refine or_mk fun A ta ws vs hD hth hl => ?_
  intro t0 r0 t2 k2 t3 k3 t4 k4 t5 k5 d0 f1 f3 f5 f6
  replace f1 := shm_565 f1
  replace f3 := shm_1481 f3
  replace f5 := shm_1964 f5
  replace f6 := shm_5 f6
  have q1 : n_v vs 1 = n_v vs 0 := f6.symm
  simp only [q1] at f1 f3 f5
  have g1 : v_iv (n_v vs 4) = w_fi ws (n_v vs 0) 31 := congrArg v_iv f1
  have kz_0_31 := fdq_144 hD hth r0
  have kz_0_32 := fdq_139 hD hth r0
  have nf0 : fc_1 PRD (20, [1, 5], [60, 2, 6, 182, 31, 32, 33, 34, 35, 17, 36, 37]) ws (vs) := by
    refine ⟨nf_in hl rfl, sgq_1965 ?_⟩
    · show EMI (w_fi ws (n_v vs 1) 31) (w_fi ws (n_v vs 1) 32) (w_ei ws (w_ar ws (n_v vs 1) 33)) (w_ei ws (w_ar ws (n_v vs 1) 34)) (w_ei ws (w_ar ws (n_v vs 1) 35)) (w_ei ws (w_ar ws (n_v vs 1) 17)) (w_ei ws (w_ar ws (n_v vs 1) 36)) (w_ei ws (w_ar ws (n_v vs 1) 37)) (v_iv (n_v vs 5))
      rw [q1]
      exact vc_Mo_embed_2_0 (v_iv (n_v vs 2)) (v_iv (n_v vs 3)) (v_iv (n_v vs 4)) (v_iv (n_v vs 5)) (w_fi ws (n_v vs 0) 31) (w_ei ws (w_ar ws (n_v vs 0) 33)) (w_ei ws (w_ar ws (n_v vs 0) 34)) (w_fi ws (n_v vs 0) 32) (w_ei ws (w_ar ws (n_v vs 0) 35)) (w_ei ws (w_ar ws (n_v vs 0) 17)) (w_ei ws (w_ar ws (n_v vs 0) 36)) (w_ei ws (w_ar ws (n_v vs 0) 37)) k2 k3 k4 k5 d0 g1 f3 f5 kz_0_31 kz_0_32
  refine ⟨(fun _ h => (by cases h)), [], trivial, ?_, (fun _ h => (by cases h))⟩
  rw [List.append_nil]
  exact List.forall_mem_cons.mpr ⟨⟨show (20 : Nat) < 100 from by decide, nf0⟩, (fun _ h => (by cases h))⟩
set_option maxHeartbeats 4000000 in
theorem vc_Mo_embed_3_0 (x3 : Int) (x6 : Int) (x7 : Int) (pt_0 : Int → Int) (ph_0 : Int → Int) (pn_0 : Int) (pm_0 : Int) (alive_0 : Int → Int) (blockOf_0 : Int → Int) (onlyPiece_0 : Int) (pn_1 : Int) (pt_1 : Int → Int) (ph_1 : Int → Int) (pm_1 : Int) (alive_1 : Int → Int) (blockOf_1 : Int → Int) (onlyPiece_1 : Int) (rotMany_1 : Int → Int) (rotMany_0 : Int → Int) (k3 : 0 ≤ x3 ∧ x3 ≤ 24) (k6 : 0 ≤ x6 ∧ x6 ≤ 0) (k7 : 1 ≤ x7 ∧ x7 ≤ 25) (d0 : x3 + 1 ≤ x7 ∧ x7 ≤ x3 + 1) (f12 : E0 (rotMany_1) (x3)) (fe_0_31_1 : pn_0 = pn_1) (fe_0_32_1 : pm_0 = pm_1) (fe_0_49_1 : onlyPiece_0 = onlyPiece_1) (hE_0_17_1 : ∀ j : Int, blockOf_0 j = blockOf_1 j) (hE_0_33_1 : ∀ j : Int, pt_0 j = pt_1 j) (hE_0_34_1 : ∀ j : Int, ph_0 j = ph_1 j) (hE_0_35_1 : ∀ j : Int, alive_0 j = alive_1 j) (hE_0_36_1 : ∀ j : Int, 0 ≤ j → (j = x3 → rotMany_0 j = x6) ∧ (j ≠ x3 → rotMany_0 j = rotMany_1 j)) (kz_0_31 : 0 ≤ pn_0 ∧ pn_0 ≤ 25) (kz_0_32 : 0 ≤ pm_0 ∧ pm_0 ≤ 80) (kz_0_49 : (-1) ≤ onlyPiece_0 ∧ onlyPiece_0 ≤ 79) : E0 (rotMany_0) (x7) := by
  subst fe_0_31_1
  subst fe_0_32_1
  subst fe_0_49_1
  have e_hE_0_17_1 := funext hE_0_17_1; subst e_hE_0_17_1
  have e_hE_0_33_1 := funext hE_0_33_1; subst e_hE_0_33_1
  have e_hE_0_34_1 := funext hE_0_34_1; subst e_hE_0_34_1
  have e_hE_0_35_1 := funext hE_0_35_1; subst e_hE_0_35_1
  first
    | (intro j a b; exfalso; omega)
    | (have h := ‹E0 _ _›
       intro j a b
       by_cases q : j = x3
       · have v := (hE_0_36_1 j a).1 q; omega
       · rw [(hE_0_36_1 j a).2 q]; exact h j a (by omega))
def o_Mo_embed_3 : or_T := (12, 8, [(0, (2, 0, 0, [165])), (3, (0, 0, 24, [])), (5, (2, 0, 0, [183])), (6, (0, 0, 0, [])), (7, (0, 1, 25, []))], [(24, [0, 1], []), (100, [5, 3, 6], []), (9, [5, 1], [36]), (20, [1, 3], [60, 0, 1, 183, 36])], [], [], [(20, [1, 7], [60, 0, 1, 183, 36])], [], [(7, 3, 1, 1), (3, 4, -4294967296, -1)])
theorem oo_Mo_embed_3 {kA : Nat → ClassId} : or_ok PRD kA GG o_Mo_embed_3 := by
  refine or_mk fun A ta ws vs hD hth hl => ?_
  intro t0 r0 t3 k3 t5 r5 t6 k6 t7 k7 d0 d2 f4 ta1 w1 le1 s1 f6 f12
  replace f4 := shm_5 f4
  have s1 : (∀ b j, w_el ws b j = if b = v_ad (n_v vs 5) ∧ j = (v_iv (n_v vs 3)).toNat then v_iv (n_v vs 6) else w_el w1 b j) ∧ ∀ b k, w_fd ws b k = w_fd w1 b k := s1.2
  replace f6 := shm_671 f6
  replace f12 := shm_1964 f12
  have q1 : n_v vs 1 = n_v vs 0 := f4.symm
  simp only [q1] at f6 f12
  have ar_0_17_1 : w_ar w1 (n_v vs 0) 17 = w_ar ws (n_v vs 0) 17 := congrArg v_ad (s1.2 _ _).symm
  have cr_0_17 := fdq_187 hD hth r0
  have ar_0_33_1 : w_ar w1 (n_v vs 0) 33 = w_ar ws (n_v vs 0) 33 := congrArg v_ad (s1.2 _ _).symm
  have cr_0_33 := fdq_116 hD hth r0
  have ar_0_34_1 : w_ar w1 (n_v vs 0) 34 = w_ar ws (n_v vs 0) 34 := congrArg v_ad (s1.2 _ _).symm
  have cr_0_34 := fdq_117 hD hth r0
  have ar_0_35_1 : w_ar w1 (n_v vs 0) 35 = w_ar ws (n_v vs 0) 35 := congrArg v_ad (s1.2 _ _).symm
  have cr_0_35 := fdq_131 hD hth r0
  have ar_0_36_1 : w_ar w1 (n_v vs 0) 36 = w_ar ws (n_v vs 0) 36 := congrArg v_ad (s1.2 _ _).symm
  have ad_5 : v_ad (n_v vs 5) = w_ar ws (n_v vs 0) 36 := (congrArg v_ad f6).trans ar_0_36_1
  simp only [ar_0_33_1, ar_0_34_1, ar_0_17_1, ar_0_35_1, ar_0_36_1] at f12
  have fe_0_31_1 : w_fi ws (n_v vs 0) 31 = w_fi w1 (n_v vs 0) 31 := congrArg v_iv (s1.2 _ _)
  have fe_0_32_1 : w_fi ws (n_v vs 0) 32 = w_fi w1 (n_v vs 0) 32 := congrArg v_iv (s1.2 _ _)
  have fe_0_49_1 : w_fi ws (n_v vs 0) 49 = w_fi w1 (n_v vs 0) 49 := congrArg v_iv (s1.2 _ _)
  have hE_0_17_1 : ∀ j : Int, w_ei ws (w_ar ws (n_v vs 0) 17) j = w_ei w1 (w_ar ws (n_v vs 0) 17) j := el_kp s1.1 r5 cr_0_17 (by decide)
  have hE_0_33_1 : ∀ j : Int, w_ei ws (w_ar ws (n_v vs 0) 33) j = w_ei w1 (w_ar ws (n_v vs 0) 33) j := el_kp s1.1 r5 cr_0_33 (by decide)
  have hE_0_34_1 : ∀ j : Int, w_ei ws (w_ar ws (n_v vs 0) 34) j = w_ei w1 (w_ar ws (n_v vs 0) 34) j := el_kp s1.1 r5 cr_0_34 (by decide)
  have hE_0_35_1 : ∀ j : Int, w_ei ws (w_ar ws (n_v vs 0) 35) j = w_ei w1 (w_ar ws (n_v vs 0) 35) j := el_kp s1.1 r5 cr_0_35 (by decide)
  have hE_0_36_1 : ∀ j : Int, 0 ≤ j → (j = v_iv (n_v vs 3) → w_ei ws (w_ar ws (n_v vs 0) 36) j = v_iv (n_v vs 6)) ∧ (j ≠ v_iv (n_v vs 3) → w_ei ws (w_ar ws (n_v vs 0) 36) j = w_ei w1 (w_ar ws (n_v vs 0) 36) j) := fun j hj => ⟨fun h => by unfold w_ei; rw [s1.1, if_pos ⟨ad_5.symm, by rw [h]⟩], fun h => by unfold w_ei; rw [s1.1, if_neg (fun e => h (by have := e.2; omega))]⟩
  have kz_0_31 := fdq_144 hD hth r0
  have kz_0_32 := fdq_139 hD hth r0
  have kz_0_49 := fdq_145 hD hth r0
  have nf0 : fc_1 PRD (20, [1, 7], [60, 0, 1, 183, 36]) ws (vs) := by
    refine ⟨nf_in hl rfl, sgq_1964 ?_⟩
    · show E0 (w_ei ws (w_ar ws (n_v vs 1) 36)) (v_iv (n_v vs 7))
      rw [q1]
      exact vc_Mo_embed_3_0 (v_iv (n_v vs 3)) (v_iv (n_v vs 6)) (v_iv (n_v vs 7)) (w_ei ws (w_ar ws (n_v vs 0) 33)) (w_ei ws (w_ar ws (n_v vs 0) 34)) (w_fi ws (n_v vs 0) 31) (w_fi ws (n_v vs 0) 32) (w_ei ws (w_ar ws (n_v vs 0) 35)) (w_ei ws (w_ar ws (n_v vs 0) 17)) (w_fi ws (n_v vs 0) 49) (w_fi w1 (n_v vs 0) 31) (w_ei w1 (w_ar ws (n_v vs 0) 33)) (w_ei w1 (w_ar ws (n_v vs 0) 34)) (w_fi w1 (n_v vs 0) 32) (w_ei w1 (w_ar ws (n_v vs 0) 35)) (w_ei w1 (w_ar ws (n_v vs 0) 17)) (w_fi w1 (n_v vs 0) 49) (w_ei w1 (w_ar ws (n_v vs 0) 36)) (w_ei ws (w_ar ws (n_v vs 0) 36)) k3 k6 k7 d0 f12 fe_0_31_1 fe_0_32_1 fe_0_49_1 hE_0_17_1 hE_0_33_1 hE_0_34_1 hE_0_35_1 hE_0_36_1 kz_0_31 kz_0_32 kz_0_49
  refine ⟨(fun _ h => (by cases h)), [], trivial, ?_, (fun _ h => (by cases h))⟩
  rw [List.append_nil]
  exact List.forall_mem_cons.mpr ⟨⟨show (20 : Nat) < 100 from by decide, nf0⟩, (fun _ h => (by cases h))⟩
set_option maxHeartbeats 4000000 in
theorem vc_Mo_embed_4_0 (x2 : Int) (x3 : Int) (x4 : Int) (pt_0 : Int → Int) (ph_0 : Int → Int) (pn_0 : Int) (pm_0 : Int) (alive_0 : Int → Int) (blockOf_0 : Int → Int) (rotMany_0 : Int → Int) (rot_0 : Int → Int) (k2 : 0 ≤ x2 ∧ x2 ≤ 80) (k3 : 0 ≤ x3 ∧ x3 ≤ 80) (k4 : 1 ≤ x4 ∧ x4 ≤ 1) (f0 : x2 ≤ x3) (f2 : BK (pm_0) (pt_0) (ph_0) (alive_0) (blockOf_0) (x2)) (f4 : EMI (pn_0) (pm_0) (pt_0) (ph_0) (alive_0) (blockOf_0) (rotMany_0) (rot_0) (x3)) (kz_0_31 : 0 ≤ pn_0 ∧ pn_0 ≤ 25) (kz_0_32 : 0 ≤ pm_0 ∧ pm_0 ≤ 80) : EMQ (pn_0) (pm_0) (pt_0) (ph_0) (alive_0) (blockOf_0) (rotMany_0) (rot_0) (x4) := by
  intro _
  exact ⟨_, _, ‹BK _ _ _ _ _ _›, by omega, ‹EMI _ _ _ _ _ _ _ _ _›⟩
def o_Mo_embed_4 : or_T := (79, 5, [(0, (2, 0, 0, [165])), (2, (0, 0, 80, [])), (3, (0, 0, 80, [])), (4, (0, 1, 1, []))], [(7, [3, 2], [3]), (20, [1, 2], [60, 1, 4, 97, 32, 33, 34, 35, 17]), (20, [1, 3], [60, 2, 6, 182, 31, 32, 33, 34, 35, 17, 36, 37]), (24, [0, 1], [])], [], [], [(20, [0, 4], [60, 2, 6, 184, 31, 32, 33, 34, 35, 17, 36, 37])], [], [])
theorem oo_Mo_embed_4 {kA : Nat → ClassId} : or_ok PRD kA GG o_Mo_embed_4 := by
  refine or_mk fun A ta ws vs hD hth hl => ?_
  intro t0 r0 t2 k2 t3 k3 t4 k4 f0 f2 f4 f5
  replace f2 := shm_1481 f2
  replace f4 := shm_1965 f4
  replace f5 := shm_5 f5
  have q1 : n_v vs 1 = n_v vs 0 := f5.symm
  simp only [q1] at f2 f4
  have kz_0_31 := fdq_144 hD hth r0
  have kz_0_32 := fdq_139 hD hth r0
  have nf0 : fc_1 PRD (20, [0, 4], [60, 2, 6, 184, 31, 32, 33, 34, 35, 17, 36, 37]) ws (vs) := ⟨nf_in hl rfl, sgq_1966 (vc_Mo_embed_4_0 (v_iv (n_v vs 2)) (v_iv (n_v vs 3)) (v_iv (n_v vs 4)) (w_ei ws (w_ar ws (n_v vs 0) 33)) (w_ei ws (w_ar ws (n_v vs 0) 34)) (w_fi ws (n_v vs 0) 31) (w_fi ws (n_v vs 0) 32) (w_ei ws (w_ar ws (n_v vs 0) 35)) (w_ei ws (w_ar ws (n_v vs 0) 17)) (w_ei ws (w_ar ws (n_v vs 0) 36)) (w_ei ws (w_ar ws (n_v vs 0) 37)) k2 k3 k4 (shm_2 f0) f2 f4 kz_0_31 kz_0_32)⟩
  refine ⟨(fun _ h => (by cases h)), [], trivial, ?_, (fun _ h => (by cases h))⟩
  rw [List.append_nil]
  exact List.forall_mem_cons.mpr ⟨⟨show (20 : Nat) < 100 from by decide, nf0⟩, (fun _ h => (by cases h))⟩
set_option maxHeartbeats 4000000 in
theorem vc_Mo_embed_5_0 (x2 : Int) (gx : Int) (k2 : 1 ≤ x2 ∧ x2 ≤ 80) (ex2 : gx = x2) : 1 * gx + ((-1) * x2 + 0) ≤ 0 := by
  first | omega
set_option maxHeartbeats 4000000 in
theorem vc_Mo_embed_5_1 (x2 : Int) (gx : Int) (k2 : 1 ≤ x2 ∧ x2 ≤ 80) (ex2 : gx = x2) : (-1) * gx + (1 * x2 + 0) ≤ 0 := by
  first | omega
set_option maxHeartbeats 4000000 in
theorem vc_Mo_embed_5_2 (pt_0 : Int → Int) (ph_0 : Int → Int) (pn_0 : Int) (pm_0 : Int) (f1 : GOK (pn_0) (pm_0) (pt_0) (ph_0)) (kz_0_31 : 0 ≤ pn_0 ∧ pn_0 ≤ 25) (kz_0_32 : 0 ≤ pm_0 ∧ pm_0 ≤ 80) : GOK (pn_0) (pm_0) (pt_0) (ph_0) := by
  first | assumption
set_option maxHeartbeats 4000000 in
theorem vc_Mo_embed_5_3 (x2 : Int) (pt_0 : Int → Int) (ph_0 : Int → Int) (pm_0 : Int) (alive_0 : Int → Int) (blockOf_0 : Int → Int) (gx : Int) (k2 : 1 ≤ x2 ∧ x2 ≤ 80) (f2 : BK (pm_0) (pt_0) (ph_0) (alive_0) (blockOf_0) (x2)) (kz_0_32 : 0 ≤ pm_0 ∧ pm_0 ≤ 80) (ex2 : gx = x2) : BK (pm_0) (pt_0) (ph_0) (alive_0) (blockOf_0) (gx) := by
  rw [ex2]; assumption
set_option maxHeartbeats 4000000 in
theorem vc_Mo_embed_5_4 (x2 : Int) (x3 : Int) (gx : Int) (k2 : 1 ≤ x2 ∧ x2 ≤ 80) (k3 : 0 ≤ x3 ∧ x3 ≤ 79) (d0 : x2 + (-4294967296) ≤ x3 ∧ x3 ≤ x2 + (-1)) (ex2 : gx = x2) : 1 * x3 + ((-1) * gx + 0) ≤ (-1) := by
  first | omega
set_option maxHeartbeats 4000000 in
theorem vc_Mo_embed_5_5 (onlyPiece_0 : Int) (f3 : onlyPiece_0 = (-1)) (kz_0_49 : (-1) ≤ onlyPiece_0 ∧ onlyPiece_0 ≤ 79) : onlyPiece_0 = (-1) := by
  first | omega
def o_Mo_embed_5 : or_T := (42, 4, [(0, (2, 0, 0, [165])), (2, (0, 1, 80, [])), (3, (0, 0, 79, []))], [(20, [1], [60, 2, 2, 75, 31, 32, 33, 34]), (20, [1, 2], [60, 1, 4, 97, 32, 33, 34, 35, 17]), (20, [1], [50, 1, 0, 49, 1, 3, 2, 0, 49, 0, -1]), (24, [0, 1], [])], [], [(0, 0, 80, [])], [(23, [4, 2], [0, 1, -1]), (23, [4, 2], [0, -1, 1]), (20, [1], [60, 2, 2, 75, 31, 32, 33, 34]), (20, [1, 4], [60, 1, 4, 97, 32, 33, 34, 35, 17]), (23, [3, 4], [-1, 1, -1]), (20, [1], [50, 1, 0, 49, 1, 3, 2, 0, 49, 0, -1])], [], [(3, 2, -4294967296, -1), (3, 2, -4294967296, 0)])
theorem oo_Mo_embed_5 {kA : Nat → ClassId} : or_ok PRD kA GG o_Mo_embed_5 := by
  refine or_mk fun A ta ws vs hD hth hl => ?_
  intro t0 r0 t2 k2 t3 k3 d0 d1 f1 f2 f3 f5
  replace f1 := shm_563 f1
  replace f2 := shm_1481 f2
  replace f3 := shm_1612 f3
  replace f5 := shm_5 f5
  have q1 : n_v vs 1 = n_v vs 0 := f5.symm
  simp only [q1] at f1 f2 f3
  have kz_0_31 := fdq_144 hD hth r0
  have kz_0_32 := fdq_139 hD hth r0
  have kz_0_49 := fdq_145 hD hth r0
  obtain ⟨x, ex, hx⟩ := iv_ex (ta := ta) (lo := 0) (hi := 80) (z := v_iv (n_v vs 2)) (by omega) (by omega) (by omega) (by omega)
  have ex2 : v_iv (Value.int x) = v_iv (n_v vs 2) := ex
  have ex3 : 0 ≤ v_iv (Value.int x) ∧ v_iv (Value.int x) ≤ 80 := tv_rng hx
  have e_1 : n_v (vs ++ [Value.int x]) 1 = n_v vs 1 := n_v_old (by rw [hl]; decide)
  have e_2 : n_v (vs ++ [Value.int x]) 2 = n_v vs 2 := n_v_old (by rw [hl]; decide)
  have e_3 : n_v (vs ++ [Value.int x]) 3 = n_v vs 3 := n_v_old (by rw [hl]; decide)
  have e_4 : n_v (vs ++ [Value.int x]) 4 = Value.int x := n_v_new hl
  have nf0 : fc_1 PRD (23, [4, 2], [0, 1, -1]) ws (vs ++ [Value.int x]) := by
    refine ⟨nf_inA hl rfl, sgq_7 ?_⟩
    · show 1 * v_iv (n_v (vs ++ [Value.int x]) 4) + ((-1) * v_iv (n_v (vs ++ [Value.int x]) 2) + 0) ≤ 0
      simp only [e_2, e_4]
      exact vc_Mo_embed_5_0 (v_iv (n_v vs 2)) (v_iv (Value.int x)) k2 ex2
  have nf1 : fc_1 PRD (23, [4, 2], [0, -1, 1]) ws (vs ++ [Value.int x]) := by
    refine ⟨nf_inA hl rfl, sgq_22 ?_⟩
    · show (-1) * v_iv (n_v (vs ++ [Value.int x]) 4) + (1 * v_iv (n_v (vs ++ [Value.int x]) 2) + 0) ≤ 0
      simp only [e_2, e_4]
      exact vc_Mo_embed_5_1 (v_iv (n_v vs 2)) (v_iv (Value.int x)) k2 ex2
  have nf2 : fc_1 PRD (20, [1], [60, 2, 2, 75, 31, 32, 33, 34]) ws (vs ++ [Value.int x]) := by
    refine ⟨nf_inA hl rfl, sgq_563 ?_⟩
    · show GOK (w_fi ws (n_v (vs ++ [Value.int x]) 1) 31) (w_fi ws (n_v (vs ++ [Value.int x]) 1) 32) (w_ei ws (w_ar ws (n_v (vs ++ [Value.int x]) 1) 33)) (w_ei ws (w_ar ws (n_v (vs ++ [Value.int x]) 1) 34))
      simp only [e_1, q1]
      exact vc_Mo_embed_5_2 (w_ei ws (w_ar ws (n_v vs 0) 33)) (w_ei ws (w_ar ws (n_v vs 0) 34)) (w_fi ws (n_v vs 0) 31) (w_fi ws (n_v vs 0) 32) f1 kz_0_31 kz_0_32
  have nf3 : fc_1 PRD (20, [1, 4], [60, 1, 4, 97, 32, 33, 34, 35, 17]) ws (vs ++ [Value.int x]) := by
    refine ⟨nf_inA hl rfl, sgq_1481 ?_⟩
    · show BK (w_fi ws (n_v (vs ++ [Value.int x]) 1) 32) (w_ei ws (w_ar ws (n_v (vs ++ [Value.int x]) 1) 33)) (w_ei ws (w_ar ws (n_v (vs ++ [Value.int x]) 1) 34)) (w_ei ws (w_ar ws (n_v (vs ++ [Value.int x]) 1) 35)) (w_ei ws (w_ar ws (n_v (vs ++ [Value.int x]) 1) 17)) (v_iv (n_v (vs ++ [Value.int x]) 4))
      simp only [e_1, e_4, q1]
      exact vc_Mo_embed_5_3 (v_iv (n_v vs 2)) (w_ei ws (w_ar ws (n_v vs 0) 33)) (w_ei ws (w_ar ws (n_v vs 0) 34)) (w_fi ws (n_v vs 0) 32) (w_ei ws (w_ar ws (n_v vs 0) 35)) (w_ei ws (w_ar ws (n_v vs 0) 17)) (v_iv (Value.int x)) k2 f2 kz_0_32 ex2
  have nf4 : fc_1 PRD (23, [3, 4], [-1, 1, -1]) ws (vs ++ [Value.int x]) := by
    refine ⟨nf_inA hl rfl, sgq_211 ?_⟩
    · show 1 * v_iv (n_v (vs ++ [Value.int x]) 3) + ((-1) * v_iv (n_v (vs ++ [Value.int x]) 4) + 0) ≤ (-1)
      simp only [e_3, e_4]
      exact vc_Mo_embed_5_4 (v_iv (n_v vs 2)) (v_iv (n_v vs 3)) (v_iv (Value.int x)) k2 k3 d0 ex2
  have nf5 : fc_1 PRD (20, [1], [50, 1, 0, 49, 1, 3, 2, 0, 49, 0, -1]) ws (vs ++ [Value.int x]) := by
    refine ⟨nf_inA hl rfl, sgq_1612 ?_⟩
    · show w_fi ws (n_v (vs ++ [Value.int x]) 1) 49 = (-1)
      simp only [e_1, q1]
      exact vc_Mo_embed_5_5 (w_fi ws (n_v vs 0) 49) f3 kz_0_49
  exact ⟨(fun _ h => (by cases h)), [Value.int x], ag_one hx, List.forall_mem_cons.mpr ⟨⟨show (23 : Nat) < 100 from by decide, nf0⟩, List.forall_mem_cons.mpr ⟨⟨show (23 : Nat) < 100 from by decide, nf1⟩, List.forall_mem_cons.mpr ⟨⟨show (20 : Nat) < 100 from by decide, nf2⟩, List.forall_mem_cons.mpr ⟨⟨show (20 : Nat) < 100 from by decide, nf3⟩, List.forall_mem_cons.mpr ⟨⟨show (23 : Nat) < 100 from by decide, nf4⟩, List.forall_mem_cons.mpr ⟨⟨show (20 : Nat) < 100 from by decide, nf5⟩, (fun _ h => (by cases h))⟩⟩⟩⟩⟩⟩, (fun _ h => (by cases h))⟩
set_option maxHeartbeats 4000000 in
theorem vc_Mo_embed_6_0 (x3 : Int) (x5 : Int) (pt_0 : Int → Int) (ph_0 : Int → Int) (pm_0 : Int) (alive_0 : Int → Int) (blockOf_0 : Int → Int) (faceMany_0 : Int → Int) (face_0 : Int → Int) (faces_0 : Int) (k3 : 0 ≤ x3 ∧ x3 ≤ 79) (k5 : 1 ≤ x5 ∧ x5 ≤ 1) (f0 : x5 ≠ 0) (f10 : DRQ (pm_0) (faces_0) (pt_0) (ph_0) (alive_0) (blockOf_0) (faceMany_0) (face_0) (x3) (x5)) (kz_0_32 : 0 ≤ pm_0 ∧ pm_0 ≤ 80) (kz_0_39 : 0 ≤ faces_0 ∧ faces_0 ≤ 120) : DRB (pm_0) (faces_0) (pt_0) (ph_0) (alive_0) (blockOf_0) (faceMany_0) (face_0) (x3) := by
  first
    | assumption
    | exact drb_of ‹DRQ _ _ _ _ _ _ _ _ _ _› (by omega)
set_option maxHeartbeats 4000000 in
theorem vc_Mo_embed_6_1 (x3 : Int) (x5 : Int) (pt_0 : Int → Int) (ph_0 : Int → Int) (pn_0 : Int) (pm_0 : Int) (alive_0 : Int → Int) (blockOf_0 : Int → Int) (faceMany_0 : Int → Int) (face_0 : Int → Int) (faces_0 : Int) (k3 : 0 ≤ x3 ∧ x3 ≤ 79) (k5 : 1 ≤ x5 ∧ x5 ≤ 1) (f0 : x5 ≠ 0) (f6 : GOK (pn_0) (pm_0) (pt_0) (ph_0)) (f10 : DRQ (pm_0) (faces_0) (pt_0) (ph_0) (alive_0) (blockOf_0) (faceMany_0) (face_0) (x3) (x5)) (kz_0_31 : 0 ≤ pn_0 ∧ pn_0 ≤ 25) (kz_0_32 : 0 ≤ pm_0 ∧ pm_0 ≤ 80) (kz_0_39 : 0 ≤ faces_0 ∧ faces_0 ≤ 120) : FMB (faces_0) (faceMany_0) := by
  first
    | assumption
    | exact fmb_of ‹GOK _ _ _ _› (by omega) (drb_of ‹DRQ _ _ _ _ _ _ _ _ _ _› (by omega))
set_option maxHeartbeats 4000000 in
theorem vc_Mo_embed_6_2 (x3 : Int) (x6 : Int) (pt_0 : Int → Int) (ph_0 : Int → Int) (pn_0 : Int) (pm_0 : Int) (alive_0 : Int → Int) (blockOf_0 : Int → Int) (rotMany_0 : Int → Int) (rot_0 : Int → Int) (faceMany_0 : Int → Int) (face_0 : Int → Int) (faces_0 : Int) (k3 : 0 ≤ x3 ∧ x3 ≤ 79) (k6 : 0 ≤ x6 ∧ x6 ≤ 0) (f8 : EMI (pn_0) (pm_0) (pt_0) (ph_0) (alive_0) (blockOf_0) (rotMany_0) (rot_0) (x3)) (kz_0_31 : 0 ≤ pn_0 ∧ pn_0 ≤ 25) (kz_0_32 : 0 ≤ pm_0 ∧ pm_0 ≤ 80) (kz_0_39 : 0 ≤ faces_0 ∧ faces_0 ≤ 120) : MID (pn_0) (pm_0) (faces_0) (pt_0) (ph_0) (alive_0) (blockOf_0) (faceMany_0) (face_0) (rotMany_0) (rot_0) (x3) (x6) := by
  first
    | exact mid_0 ‹EMI _ _ _ _ _ _ _ _ _› (by omega)
    | exact mie_mid ‹MIE _ _ _ _ _ _ _ _ _ _ _ _ _› (by omega)
def o_Mo_embed_6 : or_T := (52, 7, [(0, (2, 0, 0, [165])), (1, (2, 0, 0, [165])), (2, (0, 1, 80, [])), (3, (0, 0, 79, [])), (4, (0, 0, 80, [])), (5, (0, 1, 1, [])), (6, (0, 0, 0, []))], [(8, [5], [1]), (23, [4, 2], [0, 1, -1]), (23, [4, 2], [0, -1, 1]), (20, [1], [60, 2, 2, 75, 31, 32, 33, 34]), (20, [1, 4], [60, 1, 4, 97, 32, 33, 34, 35, 17]), (23, [3, 4], [-1, 1, -1]), (20, [1], [60, 2, 2, 75, 31, 32, 33, 34]), (20, [1, 2], [60, 1, 4, 97, 32, 33, 34, 35, 17]), (20, [1, 3], [60, 2, 6, 182, 31, 32, 33, 34, 35, 17, 36, 37]), (24, [0, 1], []), (20, [1, 3, 5], [60, 2, 6, 169, 32, 39, 33, 34, 35, 17, 40, 41]), (20, [1], [50, 1, 0, 49, 1, 3, 2, 0, 49, 0, -1]), (102, [4], [100335595942057127393464520259929641317048075893202369904640, 165039, 165045, 165049]), (23, [4, 2], [0, 1, -1]), (23, [4, 2], [0, -1, 1]), (23, [3, 4], [-1, 1, -1]), (7, [3, 2], [2])], [], [], [(20, [1, 3], [60, 2, 6, 175, 32, 39, 33, 34, 35, 17, 40, 41]), (20, [1], [60, 1, 1, 170, 39, 40]), (20, [1, 3, 6], [60, 3, 8, 176, 31, 32, 39, 33, 34, 35, 17, 40, 41, 36, 37])], [], [(3, 2, -4294967296, -1), (3, 2, -4294967296, 0)])
theorem oo_Mo_embed_6 {kA : Nat → ClassId} : or_ok PRD kA GG o_Mo_embed_6 := by
  refine or_mk fun A ta ws vs hD hth hl => ?_
  intro t0 r0 t1 r1 t2 k2 t3 k3 t4 k4 t5 k5 t6 k6 d0 d1 f0 f1 f2 f3 f4 f5 f6 f7 f8 f9 f10 f11 ta1 w1 le1 s1 f13 f14 f15 f16
  replace f0 := shm_154 f0
  replace f6 := shm_563 f6
  replace f8 := shm_1965 f8
  replace f9 := shm_5 f9
  replace f10 := shm_1877 f10
  have q1 : n_v vs 1 = n_v vs 0 := f9.symm
  simp only [q1] at f6 f8 f10
  have kz_0_31 := fdq_144 hD hth r0
  have kz_0_32 := fdq_139 hD hth r0
  have kz_0_39 := fdq_134 hD hth r0
  have nf0 : fc_1 PRD (20, [1, 3], [60, 2, 6, 175, 32, 39, 33, 34, 35, 17, 40, 41]) ws (vs) := by
    refine ⟨nf_in hl rfl, sgq_1425 ?_⟩
    · show DRB (w_fi ws (n_v vs 1) 32) (w_fi ws (n_v vs 1) 39) (w_ei ws (w_ar ws (n_v vs 1) 33)) (w_ei ws (w_ar ws (n_v vs 1) 34)) (w_ei ws (w_ar ws (n_v vs 1) 35)) (w_ei ws (w_ar ws (n_v vs 1) 17)) (w_ei ws (w_ar ws (n_v vs 1) 40)) (w_ei ws (w_ar ws (n_v vs 1) 41)) (v_iv (n_v vs 3))
      rw [q1]
      exact vc_Mo_embed_6_0 (v_iv (n_v vs 3)) (v_iv (n_v vs 5)) (w_ei ws (w_ar ws (n_v vs 0) 33)) (w_ei ws (w_ar ws (n_v vs 0) 34)) (w_fi ws (n_v vs 0) 32) (w_ei ws (w_ar ws (n_v vs 0) 35)) (w_ei ws (w_ar ws (n_v vs 0) 17)) (w_ei ws (w_ar ws (n_v vs 0) 40)) (w_ei ws (w_ar ws (n_v vs 0) 41)) (w_fi ws (n_v vs 0) 39) k3 k5 f0 f10 kz_0_32 kz_0_39
  have nf1 : fc_1 PRD (20, [1], [60, 1, 1, 170, 39, 40]) ws (vs) := by
    refine ⟨nf_in hl rfl, sgq_507 ?_⟩
    · show FMB (w_fi ws (n_v vs 1) 39) (w_ei ws (w_ar ws (n_v vs 1) 40))
      rw [q1]
      exact vc_Mo_embed_6_1 (v_iv (n_v vs 3)) (v_iv (n_v vs 5)) (w_ei ws (w_ar ws (n_v vs 0) 33)) (w_ei ws (w_ar ws (n_v vs 0) 34)) (w_fi ws (n_v vs 0) 31) (w_fi ws (n_v vs 0) 32) (w_ei ws (w_ar ws (n_v vs 0) 35)) (w_ei ws (w_ar ws (n_v vs 0) 17)) (w_ei ws (w_ar ws (n_v vs 0) 40)) (w_ei ws (w_ar ws (n_v vs 0) 41)) (w_fi ws (n_v vs 0) 39) k3 k5 f0 f6 f10 kz_0_31 kz_0_32 kz_0_39
  have nf2 : fc_1 PRD (20, [1, 3, 6], [60, 3, 8, 176, 31, 32, 39, 33, 34, 35, 17, 40, 41, 36, 37]) ws (vs) := by
    refine ⟨nf_in hl rfl, sgq_1426 ?_⟩
    · show MID (w_fi ws (n_v vs 1) 31) (w_fi ws (n_v vs 1) 32) (w_fi ws (n_v vs 1) 39) (w_ei ws (w_ar ws (n_v vs 1) 33)) (w_ei ws (w_ar ws (n_v vs 1) 34)) (w_ei ws (w_ar ws (n_v vs 1) 35)) (w_ei ws (w_ar ws (n_v vs 1) 17)) (w_ei ws (w_ar ws (n_v vs 1) 40)) (w_ei ws (w_ar ws (n_v vs 1) 41)) (w_ei ws (w_ar ws (n_v vs 1) 36)) (w_ei ws (w_ar ws (n_v vs 1) 37)) (v_iv (n_v vs 3)) (v_iv (n_v vs 6))
      rw [q1]
      exact vc_Mo_embed_6_2 (v_iv (n_v vs 3)) (v_iv (n_v vs 6)) (w_ei ws (w_ar ws (n_v vs 0) 33)) (w_ei ws (w_ar ws (n_v vs 0) 34)) (w_fi ws (n_v vs 0) 31) (w_fi ws (n_v vs 0) 32) (w_ei ws (w_ar ws (n_v vs 0) 35)) (w_ei ws (w_ar ws (n_v vs 0) 17)) (w_ei ws (w_ar ws (n_v vs 0) 36)) (w_ei ws (w_ar ws (n_v vs 0) 37)) (w_ei ws (w_ar ws (n_v vs 0) 40)) (w_ei ws (w_ar ws (n_v vs 0) 41)) (w_fi ws (n_v vs 0) 39) k3 k6 f8 kz_0_31 kz_0_32 kz_0_39
  refine ⟨(fun _ h => (by cases h)), [], trivial, ?_, (fun _ h => (by cases h))⟩
  rw [List.append_nil]
  exact List.forall_mem_cons.mpr ⟨⟨show (20 : Nat) < 100 from by decide, nf0⟩, List.forall_mem_cons.mpr ⟨⟨show (20 : Nat) < 100 from by decide, nf1⟩, List.forall_mem_cons.mpr ⟨⟨show (20 : Nat) < 100 from by decide, nf2⟩, (fun _ h => (by cases h))⟩⟩⟩
set_option maxHeartbeats 4000000 in
theorem vc_Mo_embed_7_0 (x6 : Int) (pt_0 : Int → Int) (ph_0 : Int → Int) (pn_0 : Int) (pm_0 : Int) (alive_0 : Int → Int) (blockOf_0 : Int → Int) (rotMany_0 : Int → Int) (rot_0 : Int → Int) (k6 : 0 ≤ x6 ∧ x6 ≤ 0) (kz_0_31 : 0 ≤ pn_0 ∧ pn_0 ≤ 25) (kz_0_32 : 0 ≤ pm_0 ∧ pm_0 ≤ 80) : EMQ (pn_0) (pm_0) (pt_0) (ph_0) (alive_0) (blockOf_0) (rotMany_0) (rot_0) (x6) := by
  intro z; exfalso; omega
def o_Mo_embed_7 : or_T := (49, 7, [(0, (2, 0, 0, [165])), (6, (0, 0, 0, []))], [], [], [], [(20, [0, 6], [60, 2, 6, 184, 31, 32, 33, 34, 35, 17, 36, 37])], [], [])
theorem oo_Mo_embed_7 {kA : Nat → ClassId} : or_ok PRD kA GG o_Mo_embed_7 := by
  refine or_mk fun A ta ws vs hD hth hl => ?_
  intro t0 r0 t6 k6
  have kz_0_31 := fdq_144 hD hth r0
  have kz_0_32 := fdq_139 hD hth r0
  have nf0 : fc_1 PRD (20, [0, 6], [60, 2, 6, 184, 31, 32, 33, 34, 35, 17, 36, 37]) ws (vs) := ⟨nf_in hl rfl, sgq_1966 (vc_Mo_embed_7_0 (v_iv (n_v vs 6)) (w_ei ws (w_ar ws (n_v vs 0) 33)) (w_ei ws (w_ar ws (n_v vs 0) 34)) (w_fi ws (n_v vs 0) 31) (w_fi ws (n_v vs 0) 32) (w_ei ws (w_ar ws (n_v vs 0) 35)) (w_ei ws (w_ar ws (n_v vs 0) 17)) (w_ei ws (w_ar ws (n_v vs 0) 36)) (w_ei ws (w_ar ws (n_v vs 0) 37)) k6 kz_0_31 kz_0_32)⟩
  refine ⟨(fun _ h => (by cases h)), [], trivial, ?_, (fun _ h => (by cases h))⟩
  rw [List.append_nil]
  exact List.forall_mem_cons.mpr ⟨⟨show (20 : Nat) < 100 from by decide, nf0⟩, (fun _ h => (by cases h))⟩
set_option maxHeartbeats 4000000 in
theorem vc_Mo_embed_8_0 (x2 : Int) (x3 : Int) (x4 : Int) (x5 : Int) (x6 : Int) (pn_0 : Int) (pt_0 : Int → Int) (ph_0 : Int → Int) (pm_0 : Int) (alive_0 : Int → Int) (blockOf_0 : Int → Int) (faceMany_0 : Int → Int) (face_0 : Int → Int) (faces_0 : Int) (rotMany_0 : Int → Int) (rot_0 : Int → Int) (k2 : 1 ≤ x2 ∧ x2 ≤ 80) (k3 : 0 ≤ x3 ∧ x3 ≤ 79) (k4 : 0 ≤ x4 ∧ x4 ≤ 25) (k5 : 0 ≤ x5 ∧ x5 ≤ 25) (k6 : 1 ≤ x6 ∧ x6 ≤ 80) (d2 : x5 + 0 ≤ x4 ∧ x4 ≤ x5 + 4294967296) (f0 : x6 = x3 + 1) (g2 : x5 = pn_0) (f3 : GOK (pn_0) (pm_0) (pt_0) (ph_0)) (f4 : BK (pm_0) (pt_0) (ph_0) (alive_0) (blockOf_0) (x2)) (f6 : DRB (pm_0) (faces_0) (pt_0) (ph_0) (alive_0) (blockOf_0) (faceMany_0) (face_0) (x3)) (f8 : MID (pn_0) (pm_0) (faces_0) (pt_0) (ph_0) (alive_0) (blockOf_0) (faceMany_0) (face_0) (rotMany_0) (rot_0) (x3) (x4)) (kz_0_31 : 0 ≤ pn_0 ∧ pn_0 ≤ 25) (kz_0_32 : 0 ≤ pm_0 ∧ pm_0 ≤ 80) (kz_0_39 : 0 ≤ faces_0 ∧ faces_0 ≤ 120) : EMI (pn_0) (pm_0) (pt_0) (ph_0) (alive_0) (blockOf_0) (rotMany_0) (rot_0) (x6) := by
  first
    | exact emi_0 ‹BK _ _ _ _ _ _› ‹E0 _ _› (by omega) (by omega)
    | exact emi_nx ‹GOK _ _ _ _› ‹BK _ _ _ _ _ _› ‹DRB _ _ _ _ _ _ _ _ _› ‹MID _ _ _ _ _ _ _ _ _ _ _ _ _› (by omega) (by omega)
def o_Mo_embed_8 : or_T := (35, 7, [(0, (2, 0, 0, [165])), (2, (0, 1, 80, [])), (3, (0, 0, 79, [])), (4, (0, 0, 25, [])), (5, (0, 0, 25, [])), (6, (0, 1, 80, []))], [(6, [6, 3], [1]), (9, [5, 1], [31]), (20, [1], [60, 2, 2, 75, 31, 32, 33, 34]), (20, [1, 2], [60, 1, 4, 97, 32, 33, 34, 35, 17]), (20, [1, 3], [60, 2, 6, 175, 32, 39, 33, 34, 35, 17, 40, 41]), (20, [1, 3, 4], [60, 3, 8, 176, 31, 32, 39, 33, 34, 35, 17, 40, 41, 36, 37]), (24, [0, 1], [])], [], [], [(20, [1, 6], [60, 2, 6, 182, 31, 32, 33, 34, 35, 17, 36, 37])], [], [(4, 5, 0, 4294967296)])
theorem oo_Mo_embed_8 {kA : Nat → ClassId} : or_ok PRD kA GG o_Mo_embed_8 := by
  refine or_mk fun A ta ws vs hD hth hl => ?_
  intro t0 r0 t2 k2 t3 k3 t4 k4 t5 k5 t6 k6 d2 f0 f2 f3 f4 f6 f8 f9
  replace f0 := shm_4 f0
  replace f2 := shm_565 f2
  replace f3 := shm_563 f3
  replace f4 := shm_1481 f4
  replace f6 := shm_1425 f6
  replace f8 := shm_1426 f8
  replace f9 := shm_5 f9
  have q1 : n_v vs 1 = n_v vs 0 := f9.symm
  simp only [q1] at f2 f3 f4 f6 f8
  have g2 : v_iv (n_v vs 5) = w_fi ws (n_v vs 0) 31 := congrArg v_iv f2
  have kz_0_31 := fdq_144 hD hth r0
  have kz_0_32 := fdq_139 hD hth r0
  have kz_0_39 := fdq_134 hD hth r0
  have nf0 : fc_1 PRD (20, [1, 6], [60, 2, 6, 182, 31, 32, 33, 34, 35, 17, 36, 37]) ws (vs) := by
    refine ⟨nf_in hl rfl, sgq_1965 ?_⟩
    · show EMI (w_fi ws (n_v vs 1) 31) (w_fi ws (n_v vs 1) 32) (w_ei ws (w_ar ws (n_v vs 1) 33)) (w_ei ws (w_ar ws (n_v vs 1) 34)) (w_ei ws (w_ar ws (n_v vs 1) 35)) (w_ei ws (w_ar ws (n_v vs 1) 17)) (w_ei ws (w_ar ws (n_v vs 1) 36)) (w_ei ws (w_ar ws (n_v vs 1) 37)) (v_iv (n_v vs 6))
      rw [q1]
      exact vc_Mo_embed_8_0 (v_iv (n_v vs 2)) (v_iv (n_v vs 3)) (v_iv (n_v vs 4)) (v_iv (n_v vs 5)) (v_iv (n_v vs 6)) (w_fi ws (n_v vs 0) 31) (w_ei ws (w_ar ws (n_v vs 0) 33)) (w_ei ws (w_ar ws (n_v vs 0) 34)) (w_fi ws (n_v vs 0) 32) (w_ei ws (w_ar ws (n_v vs 0) 35)) (w_ei ws (w_ar ws (n_v vs 0) 17)) (w_ei ws (w_ar ws (n_v vs 0) 40)) (w_ei ws (w_ar ws (n_v vs 0) 41)) (w_fi ws (n_v vs 0) 39) (w_ei ws (w_ar ws (n_v vs 0) 36)) (w_ei ws (w_ar ws (n_v vs 0) 37)) k2 k3 k4 k5 k6 d2 f0 g2 f3 f4 f6 f8 kz_0_31 kz_0_32 kz_0_39
  refine ⟨(fun _ h => (by cases h)), [], trivial, ?_, (fun _ h => (by cases h))⟩
  rw [List.append_nil]
  exact List.forall_mem_cons.mpr ⟨⟨show (20 : Nat) < 100 from by decide, nf0⟩, (fun _ h => (by cases h))⟩
set_option maxHeartbeats 4000000 in
theorem vc_Mo_embed_9_0 (x4 : Int) (x5 : Int) (pn_0 : Int) (k4 : 0 ≤ x4 ∧ x4 ≤ 24) (k5 : 1 ≤ x5 ∧ x5 ≤ 25) (d0 : x5 + (-4294967296) ≤ x4 ∧ x4 ≤ x5 + (-1)) (g1 : x5 = pn_0) (kz_0_31 : 0 ≤ pn_0 ∧ pn_0 ≤ 25) : 1 * x4 + ((-1) * pn_0 + 0) ≤ (-1) := by
  first | omega
def o_Mo_embed_9 : or_T := (63, 6, [(0, (2, 0, 0, [165])), (4, (0, 0, 24, [])), (5, (0, 1, 25, []))], [(9, [5, 1], [31]), (24, [0, 1], [])], [], [], [(20, [4, 1], [30, -1, 1, 0, 0, -1, 1, 31])], [], [(4, 5, -4294967296, -1)])
theorem oo_Mo_embed_9 {kA : Nat → ClassId} : or_ok PRD kA GG o_Mo_embed_9 := by
  refine or_mk fun A ta ws vs hD hth hl => ?_
  intro t0 r0 t4 k4 t5 k5 d0 f1 f8
  replace f1 := shm_565 f1
  replace f8 := shm_5 f8
  have q1 : n_v vs 1 = n_v vs 0 := f8.symm
  simp only [q1] at f1
  have g1 : v_iv (n_v vs 5) = w_fi ws (n_v vs 0) 31 := congrArg v_iv f1
  have kz_0_31 := fdq_144 hD hth r0
  have nf0 : fc_1 PRD (20, [4, 1], [30, -1, 1, 0, 0, -1, 1, 31]) ws (vs) := by
    refine ⟨nf_in hl rfl, sgq_545 ?_⟩
    · show 1 * v_iv (n_v vs 4) + ((-1) * w_fi ws (n_v vs 1) 31 + 0) ≤ (-1)
      rw [q1]
      exact vc_Mo_embed_9_0 (v_iv (n_v vs 4)) (v_iv (n_v vs 5)) (w_fi ws (n_v vs 0) 31) k4 k5 d0 g1 kz_0_31
  refine ⟨(fun _ h => (by cases h)), [], trivial, ?_, (fun _ h => (by cases h))⟩
  rw [List.append_nil]
  exact List.forall_mem_cons.mpr ⟨⟨show (20 : Nat) < 100 from by decide, nf0⟩, (fun _ h => (by cases h))⟩
set_option maxHeartbeats 4000000 in
theorem vc_Mo_embed_10_0 (x3 : Int) (x4 : Int) (x6 : Int) (pn_0 : Int) (pt_0 : Int → Int) (ph_0 : Int → Int) (pm_0 : Int) (alive_0 : Int → Int) (blockOf_0 : Int → Int) (faceMany_0 : Int → Int) (face_0 : Int → Int) (faces_0 : Int) (rotMany_0 : Int → Int) (rot_0 : Int → Int) (k3 : 0 ≤ x3 ∧ x3 ≤ 79) (k4 : 0 ≤ x4 ∧ x4 ≤ 24) (k6 : 1 ≤ x6 ∧ x6 ≤ 25) (f0 : x6 = x4 + 1) (f8 : MIE (pn_0) (pm_0) (faces_0) (pt_0) (ph_0) (alive_0) (blockOf_0) (faceMany_0) (face_0) (rotMany_0) (rot_0) (x3) (x4)) (kz_0_31 : 0 ≤ pn_0 ∧ pn_0 ≤ 25) (kz_0_32 : 0 ≤ pm_0 ∧ pm_0 ≤ 80) (kz_0_39 : 0 ≤ faces_0 ∧ faces_0 ≤ 120) : MID (pn_0) (pm_0) (faces_0) (pt_0) (ph_0) (alive_0) (blockOf_0) (faceMany_0) (face_0) (rotMany_0) (rot_0) (x3) (x6) := by
  first
    | exact mid_0 ‹EMI _ _ _ _ _ _ _ _ _› (by omega)
    | exact mie_mid ‹MIE _ _ _ _ _ _ _ _ _ _ _ _ _› (by omega)
def o_Mo_embed_10 : or_T := (52, 7, [(0, (2, 0, 0, [165])), (1, (2, 0, 0, [165])), (2, (0, 1, 80, [])), (3, (0, 0, 79, [])), (4, (0, 0, 24, [])), (5, (0, 1, 25, [])), (6, (0, 1, 25, []))], [(6, [6, 4], [1]), (20, [4, 1], [30, -1, 1, 0, 0, -1, 1, 31]), (20, [1], [60, 2, 2, 75, 31, 32, 33, 34]), (20, [1, 2], [60, 1, 4, 97, 32, 33, 34, 35, 17]), (20, [1], [50, 1, 0, 49, 1, 3, 2, 0, 49, 0, -1]), (20, [1, 3], [60, 2, 6, 175, 32, 39, 33, 34, 35, 17, 40, 41]), (20, [1], [60, 1, 1, 170, 39, 40]), (24, [0, 1], []), (20, [1, 3, 4], [60, 3, 8, 177, 31, 32, 39, 33, 34, 35, 17, 40, 41, 36, 37]), (102, [5], [36779892980781332600600328651607420406849738932406452224]), (7, [4, 5], [2])], [], [], [(20, [1, 3, 6], [60, 3, 8, 176, 31, 32, 39, 33, 34, 35, 17, 40, 41, 36, 37])], [], [(6, 4, 1, 1), (6, 5, -4294967296, 0), (4, 5, -4294967296, -1), (3, 2, -4294967296, -1)])
theorem oo_Mo_embed_10 {kA : Nat → ClassId} : or_ok PRD kA GG o_Mo_embed_10 := by
  refine or_mk fun A ta ws vs hD hth hl => ?_
  intro t0 r0 t1 r1 t2 k2 t3 k3 t4 k4 t5 k5 t6 k6 d0 d1 d2 d3 f0 f1 f2 f3 f4 f5 f6 f7 f8 ta1 w1 le1 s1 f10
  replace f0 := shm_4 f0
  replace f7 := shm_5 f7
  replace f8 := shm_1430 f8
  have q1 : n_v vs 1 = n_v vs 0 := f7.symm
  simp only [q1] at f8
  have kz_0_31 := fdq_144 hD hth r0
  have kz_0_32 := fdq_139 hD hth r0
  have kz_0_39 := fdq_134 hD hth r0
  have nf0 : fc_1 PRD (20, [1, 3, 6], [60, 3, 8, 176, 31, 32, 39, 33, 34, 35, 17, 40, 41, 36, 37]) ws (vs) := by
    refine ⟨nf_in hl rfl, sgq_1426 ?_⟩
    · show MID (w_fi ws (n_v vs 1) 31) (w_fi ws (n_v vs 1) 32) (w_fi ws (n_v vs 1) 39) (w_ei ws (w_ar ws (n_v vs 1) 33)) (w_ei ws (w_ar ws (n_v vs 1) 34)) (w_ei ws (w_ar ws (n_v vs 1) 35)) (w_ei ws (w_ar ws (n_v vs 1) 17)) (w_ei ws (w_ar ws (n_v vs 1) 40)) (w_ei ws (w_ar ws (n_v vs 1) 41)) (w_ei ws (w_ar ws (n_v vs 1) 36)) (w_ei ws (w_ar ws (n_v vs 1) 37)) (v_iv (n_v vs 3)) (v_iv (n_v vs 6))
      rw [q1]
      exact vc_Mo_embed_10_0 (v_iv (n_v vs 3)) (v_iv (n_v vs 4)) (v_iv (n_v vs 6)) (w_fi ws (n_v vs 0) 31) (w_ei ws (w_ar ws (n_v vs 0) 33)) (w_ei ws (w_ar ws (n_v vs 0) 34)) (w_fi ws (n_v vs 0) 32) (w_ei ws (w_ar ws (n_v vs 0) 35)) (w_ei ws (w_ar ws (n_v vs 0) 17)) (w_ei ws (w_ar ws (n_v vs 0) 40)) (w_ei ws (w_ar ws (n_v vs 0) 41)) (w_fi ws (n_v vs 0) 39) (w_ei ws (w_ar ws (n_v vs 0) 36)) (w_ei ws (w_ar ws (n_v vs 0) 37)) k3 k4 k6 f0 f8 kz_0_31 kz_0_32 kz_0_39
  refine ⟨(fun _ h => (by cases h)), [], trivial, ?_, (fun _ h => (by cases h))⟩
  rw [List.append_nil]
  exact List.forall_mem_cons.mpr ⟨⟨show (20 : Nat) < 100 from by decide, nf0⟩, (fun _ h => (by cases h))⟩
def n_Mo_embed_an : List an_T := [(12, [(0, (2, 0, 0, [165])), (1, (0, 0, 80, [])), (2, (0, 0, 25, []))], [], (0, 0), [(0, 0, 99988), (1, 3, 25), (0, 0, 100000), (0, 0, 0), (0, 0, 0)], [], [], [(2, 0, 0, [165])], 0, [], [(20, [1], [60, 2, 2, 75, 31, 32, 33, 34]), (20, [1, 2], [60, 1, 4, 97, 32, 33, 34, 35, 17]), (20, [1], [50, 1, 0, 49, 1, 3, 2, 0, 49, 0, (Int.negSucc 0)]), (20, [1, 3], [60, 0, 1, 183, 36]), (24, [0, 1], [])]), (35, [(0, (2, 0, 0, [165])), (1, (0, 0, 80, [])), (2, (0, 0, 80, []))], [], (0, 0), [(0, 0, 99965), (1, 3, 80), (0, 0, 100000), (0, 0, 0), (0, 0, 0)], [(3, 2, (Int.negSucc 999999999999), 0)], [], [(2, 0, 0, [165])], 0, [], [(20, [1], [60, 2, 2, 75, 31, 32, 33, 34]), (20, [1, 2], [60, 1, 4, 97, 32, 33, 34, 35, 17]), (20, [1], [50, 1, 0, 49, 1, 3, 2, 0, 49, 0, (Int.negSucc 0)]), (20, [1, 3], [60, 2, 6, 182, 31, 32, 33, 34, 35, 17, 36, 37]), (24, [0, 1], [])]), (52, [(0, (2, 0, 0, [165])), (1, (0, 1, 80, [])), (2, (0, 0, 79, [])), (3, (0, 0, 25, []))], [], (0, 0), [(0, 0, 99965), (1, 3, 80), (0, 0, 99948), (1, 4, 25), (0, 0, 100000)], [(3, 2, (Int.negSucc 999999999999), (Int.negSucc 0))], [], [(2, 0, 0, [165])], 0, [], [(20, [1], [60, 2, 2, 75, 31, 32, 33, 34]), (20, [1, 2], [60, 1, 4, 97, 32, 33, 34, 35, 17]), (20, [1], [50, 1, 0, 49, 1, 3, 2, 0, 49, 0, (Int.negSucc 0)]), (20, [1, 3], [60, 2, 6, 175, 32, 39, 33, 34, 35, 17, 40, 41]), (20, [1], [60, 1, 1, 170, 39, 40]), (20, [1, 3, 4], [60, 3, 8, 176, 31, 32, 39, 33, 34, 35, 17, 40, 41, 36, 37]), (24, [0, 1], [])])]
def t_Mo_embed_ct : ct_L := [(1, 668, e_Mo_blocks), (1, 671, e_Mo_draws), (1, 674, e_Mo_turnRound)]
set_option maxRecDepth 100000 in
theorem c_Mo_embed {l : Launch} {D : va_G} {kA : Nat → ClassId} (h_Mo_blocks : ct_ok PRD l D kA GG y_Mo_blocks z_Mo_blocks e_Mo_blocks) (h_Mo_draws : ct_ok PRD l D kA GG y_Mo_draws z_Mo_draws e_Mo_draws) (h_Mo_turnRound : ct_ok PRD l D kA GG y_Mo_turnRound z_Mo_turnRound e_Mo_turnRound) : ct_ok PRD l D kA GG y_Mo_embed z_Mo_embed e_Mo_embed := chk_all_ok (FT := [(66, 13, 36), (594, 13, 31)]) (PT := [(649, 13, 49, .int)]) (CT := t_Mo_embed_ct) (KT := []) (NT := []) (AN := n_Mo_embed_an) (OT := [o_Mo_embed_0, o_Mo_embed_1, o_Mo_embed_2, o_Mo_embed_3, o_Mo_embed_4, o_Mo_embed_5, o_Mo_embed_6, o_Mo_embed_7, o_Mo_embed_8, o_Mo_embed_9, o_Mo_embed_10]) 5 200 (List.forall_mem_cons.mpr ⟨oo_Mo_embed_0, List.forall_mem_cons.mpr ⟨oo_Mo_embed_1, List.forall_mem_cons.mpr ⟨oo_Mo_embed_2, List.forall_mem_cons.mpr ⟨oo_Mo_embed_3, List.forall_mem_cons.mpr ⟨oo_Mo_embed_4, List.forall_mem_cons.mpr ⟨oo_Mo_embed_5, List.forall_mem_cons.mpr ⟨oo_Mo_embed_6, List.forall_mem_cons.mpr ⟨oo_Mo_embed_7, List.forall_mem_cons.mpr ⟨oo_Mo_embed_8, List.forall_mem_cons.mpr ⟨oo_Mo_embed_9, List.forall_mem_cons.mpr ⟨oo_Mo_embed_10, List.forall_mem_nil _⟩⟩⟩⟩⟩⟩⟩⟩⟩⟩⟩) (by decide +kernel) ⟨List.forall_mem_cons.mpr ⟨gf_Mo_66, List.forall_mem_cons.mpr ⟨gf_Mo_594, List.forall_mem_nil _⟩⟩, List.forall_mem_cons.mpr ⟨pf_Mo_649, List.forall_mem_nil _⟩, List.forall_mem_cons.mpr ⟨cl_virtual (y := y_Mo_blocks) (ci := 13) rfl rfl ⟨_, _, rfl⟩ (by decide +kernel) h_Mo_blocks wm_3155 wm_9 wm_3152 wm_3154 wv_14_14 ⟨by decide, by decide, by decide +kernel⟩ (by decide), List.forall_mem_cons.mpr ⟨cl_virtual (y := y_Mo_draws) (ci := 13) rfl rfl ⟨_, _, rfl⟩ (by decide +kernel) h_Mo_draws wm_3178 wm_9 wm_3175 wm_3177 wv_15_3 ⟨by decide, by decide, by decide +kernel⟩ (by decide), List.forall_mem_cons.mpr ⟨cl_virtual (y := y_Mo_turnRound) (ci := 13) rfl rfl ⟨_, _, rfl⟩ (by decide +kernel) h_Mo_turnRound wm_3243 wm_9 wm_3240 wm_3242 wv_16_3 ⟨by decide, by decide, by decide +kernel⟩ (by decide), List.forall_mem_nil _⟩⟩⟩, List.forall_mem_nil _, List.forall_mem_nil _, GG_pl⟩ (by decide +kernel)

set_option maxHeartbeats 4000000 in
theorem vc_Mo_route_0_0 (x1 : Int) (x3 : Int) (all_0 : Int → Int) (now_0 : Int → Int) (latest_0 : Int → Int) (r_0 : Int) (k1 : (-2147483648) ≤ x1 ∧ x1 ≤ 2147483647) (k3 : 1 ≤ x3 ∧ x3 ≤ 1) (f1 : ROWS (all_0) (now_0) (latest_0)) (f2 : (x3 = 1) → ((0 ≤ x1) ∧ ((x1 ≤ 3) ∧ (r_0 = ((16709 * x1) + (539 * now_0 (x1))))))) : SGR (r_0) (all_0) := by
  first
    | assumption
    | exact rows_at (g := x1) ‹ROWS _ _ _› (by omega) (by omega) (by omega)
  
def o_Mo_route_0 : or_T := (11, 5, [(1, (0, -2147483648, 2147483647, [])), (3, (0, 1, 1, []))], [(20, [0], [60, 0, 3, 198, 2, 3, 4]), (20, [3, 1, 0], [50, 1, 1, 2005, 2003, 4, 6, 1, 2, 1, 0, 0, 1, 2, 6, 0, 2, 0, 0, 1, 1, 2, 6, 0, 2, 1, 1, 0, 3, 1, 3, 2, 2, 5, 4, 6, 6, 2, 0, 16709, 1, 1, 6, 2, 0, 539, 3, 2, 3, 1, 1])], [], [], [(20, [0], [60, 1, 1, 197, 5, 2])], [], [])
theorem oo_Mo_route_0 {kA : Nat → ClassId} : or_ok PRD kA GG o_Mo_route_0 := by
  refine or_mk fun A ta ws vs hD hth hl => ?_
  intro t1 k1 t3 k3 f1 f2
  have nf0 : fc_1 PRD (20, [0], [60, 1, 1, 197, 5, 2]) ws (vs) := ⟨nf_in hl rfl, sgq_1403 (vc_Mo_route_0_0 (v_iv (n_v vs 1)) (v_iv (n_v vs 3)) (w_ei ws (w_ar ws (n_v vs 0) 2)) (w_ei ws (w_ar ws (n_v vs 0) 3)) (w_ei ws (w_ar ws (n_v vs 0) 4)) (w_fi ws (n_v vs 0) 5) k1 k3 (shm_1199 f1) (shm_1394 f2))⟩
  refine ⟨(fun _ h => (by cases h)), [], trivial, ?_, (fun _ h => (by cases h))⟩
  rw [List.append_nil]
  exact List.forall_mem_cons.mpr ⟨⟨show (20 : Nat) < 100 from by decide, nf0⟩, (fun _ h => (by cases h))⟩
set_option maxHeartbeats 4000000 in
theorem vc_Mo_route_1_0 (x2 : Int) (x5 : Int) (x7 : Int) (all_0 : Int → Int) (r_0 : Int) (now_0 : Int → Int) (latest_0 : Int → Int) (all_1 : Int → Int) (r_1 : Int) (now_1 : Int → Int) (latest_1 : Int → Int) (all_2 : Int → Int) (r_2 : Int) (now_2 : Int → Int) (latest_2 : Int → Int) (g0_0 : Int) (g0_1 : Int) (left0_0 : Int) (left0_1 : Int) (nodeX_0 : Int → Int) (nodeX_1 : Int → Int) (nodeX_2 : Int → Int) (nodeY_0 : Int → Int) (nodeY_1 : Int → Int) (nodeY_2 : Int → Int) (k2 : 0 ≤ x2 ∧ x2 ≤ 47) (k5 : 0 ≤ x5 ∧ x5 ≤ 48) (k7 : (-1) ≤ x7 ∧ x7 ≤ 47) (d0 : x7 + (-4294967296) ≤ x2 ∧ x2 ≤ x7 + 0) (d1 : x5 + (-1) ≤ x7 ∧ x7 ≤ x5 + (-1)) (f0 : 1 * x5 + ((-1) * all_0 (r_0 + 1) + 0) ≤ 0) (f1 : (-1) * x5 + (1 * all_0 (r_0 + 1) + 0) ≤ 0) (fe_0_5_1 : r_0 = r_1) (fe_0_139_1 : g0_0 = g0_1) (fe_0_144_1 : left0_0 = left0_1) (fe_0_5_2 : r_1 = r_2) (hE_0_2_1 : ∀ j : Int, all_0 j = all_1 j) (hE_0_2_2 : ∀ j : Int, all_1 j = all_2 j) (hE_0_3_1 : ∀ j : Int, now_0 j = now_1 j) (hE_0_3_2 : ∀ j : Int, now_1 j = now_2 j) (hE_0_4_1 : ∀ j : Int, latest_0 j = latest_1 j) (hE_0_4_2 : ∀ j : Int, latest_1 j = latest_2 j) (hE_0_62_1 : ∀ j : Int, nodeX_0 j = nodeX_1 j) (hE_0_62_2 : ∀ j : Int, nodeX_1 j = nodeX_2 j) (hE_0_63_1 : ∀ j : Int, nodeY_0 j = nodeY_1 j) (hE_0_63_2 : ∀ j : Int, nodeY_1 j = nodeY_2 j) (kz_0_139 : 0 ≤ g0_0 ∧ g0_0 ≤ 3) (kz_0_144 : (-300000011) ≤ left0_0 ∧ left0_0 ≤ 2000000) : (x2 + 1) ≤ all_0 ((r_0 + 1)) := by
  subst fe_0_5_1
  subst fe_0_139_1
  subst fe_0_144_1
  subst fe_0_5_2
  have e_hE_0_2_1 := funext hE_0_2_1; subst e_hE_0_2_1
  have e_hE_0_2_2 := funext hE_0_2_2; subst e_hE_0_2_2
  have e_hE_0_3_1 := funext hE_0_3_1; subst e_hE_0_3_1
  have e_hE_0_3_2 := funext hE_0_3_2; subst e_hE_0_3_2
  have e_hE_0_4_1 := funext hE_0_4_1; subst e_hE_0_4_1
  have e_hE_0_4_2 := funext hE_0_4_2; subst e_hE_0_4_2
  have e_hE_0_62_1 := funext hE_0_62_1; subst e_hE_0_62_1
  have e_hE_0_62_2 := funext hE_0_62_2; subst e_hE_0_62_2
  have e_hE_0_63_1 := funext hE_0_63_1; subst e_hE_0_63_1
  have e_hE_0_63_2 := funext hE_0_63_2; subst e_hE_0_63_2
  first
    | omega
    | assumption
  
set_option maxHeartbeats 4000000 in
theorem vc_Mo_route_1_1 (x5 : Int) (x9 : Int) (x10 : Int) (x11 : Int) (x13 : Int) (all_0 : Int → Int) (r_0 : Int) (now_0 : Int → Int) (latest_0 : Int → Int) (all_1 : Int → Int) (r_1 : Int) (now_1 : Int → Int) (latest_1 : Int → Int) (all_2 : Int → Int) (r_2 : Int) (now_2 : Int → Int) (latest_2 : Int → Int) (g0_0 : Int) (g0_1 : Int) (left0_0 : Int) (left0_1 : Int) (top0_0 : Int) (nodeX_0 : Int → Int) (nodeX_1 : Int → Int) (nodeX_2 : Int → Int) (nodeY_0 : Int → Int) (nodeY_1 : Int → Int) (nodeY_2 : Int → Int) (k9 : (-2000000) ≤ x9 ∧ x9 ≤ (-2000000)) (k10 : (-2000000) ≤ x10 ∧ x10 ≤ (-2000000)) (k13 : 0 ≤ x13 ∧ x13 ≤ 0) (fe_0_5_1 : r_0 = r_1) (fe_0_139_1 : g0_0 = g0_1) (fe_0_144_1 : left0_0 = left0_1) (fe_0_5_2 : r_1 = r_2) (hE_0_2_1 : ∀ j : Int, all_0 j = all_1 j) (hE_0_2_2 : ∀ j : Int, all_1 j = all_2 j) (hE_0_3_1 : ∀ j : Int, now_0 j = now_1 j) (hE_0_3_2 : ∀ j : Int, now_1 j = now_2 j) (hE_0_4_1 : ∀ j : Int, latest_0 j = latest_1 j) (hE_0_4_2 : ∀ j : Int, latest_1 j = latest_2 j) (hE_0_62_1 : ∀ j : Int, nodeX_0 j = nodeX_1 j) (hE_0_62_2 : ∀ j : Int, nodeX_1 j = nodeX_2 j) (hE_0_63_1 : ∀ j : Int, nodeY_0 j = nodeY_1 j) (hE_0_63_2 : ∀ j : Int, nodeY_1 j = nodeY_2 j) (kz_0_139 : 0 ≤ g0_0 ∧ g0_0 ≤ 3) (kz_0_144 : (-300000011) ≤ left0_0 ∧ left0_0 ≤ 2000000) (kz_0_145 : (-300000003) ≤ top0_0 ∧ top0_0 ≤ 2000000) : RTB (left0_0) (top0_0) (g0_0) (nodeX_0) (nodeY_0) (x9) (x10) (x13) := by
  subst fe_0_5_1
  subst fe_0_139_1
  subst fe_0_144_1
  subst fe_0_5_2
  have e_hE_0_2_1 := funext hE_0_2_1; subst e_hE_0_2_1
  have e_hE_0_2_2 := funext hE_0_2_2; subst e_hE_0_2_2
  have e_hE_0_3_1 := funext hE_0_3_1; subst e_hE_0_3_1
  have e_hE_0_3_2 := funext hE_0_3_2; subst e_hE_0_3_2
  have e_hE_0_4_1 := funext hE_0_4_1; subst e_hE_0_4_1
  have e_hE_0_4_2 := funext hE_0_4_2; subst e_hE_0_4_2
  have e_hE_0_62_1 := funext hE_0_62_1; subst e_hE_0_62_1
  have e_hE_0_62_2 := funext hE_0_62_2; subst e_hE_0_62_2
  have e_hE_0_63_1 := funext hE_0_63_1; subst e_hE_0_63_1
  have e_hE_0_63_2 := funext hE_0_63_2; subst e_hE_0_63_2
  first
    | (intro v a b; exfalso; omega)
    | exact rtb_step (w := x11) (x := nodeX_0 (24 * g0_0 + x5)) (y := nodeY_0 (24 * g0_0 + x5)) ‹RTB _ _ _ _ _ _ _ _› (by omega) (by omega) rfl rfl (by omega) (by omega) (by omega) (by omega) (by omega) (by omega) (by omega) (by omega)
  
def o_Mo_route_1 : or_T := (50, 14, [(0, (2, 0, 0, [165])), (2, (0, 0, 47, [])), (5, (0, 0, 48, [])), (7, (0, -1, 47, [])), (9, (0, -2000000, -2000000, [])), (10, (0, -2000000, -2000000, [])), (13, (0, 0, 0, []))], [(20, [5, 0], [30, 0, 1, 0, 0, -1, 3, 2005001]), (20, [5, 0], [30, 0, -1, 0, 0, 1, 3, 2005001]), (101, [0, 12], [145]), (101, [0, 11], [144])], [], [], [(20, [2, 0], [50, 1, 1, 1005, 1002, 0, 6, 4, 2, 1, 0, 0, 1, 3, 1, 2, 4, 3, 2, 1, 5, 0, 1]), (20, [0, 9, 10, 13], [60, 3, 2, 389, 144, 145, 139, 62, 63])], [], [(2, 7, -4294967296, 0), (7, 5, -1, -1)])
theorem oo_Mo_route_1 {kA : Nat → ClassId} : or_ok PRD kA GG o_Mo_route_1 := by
  refine or_mk fun A ta ws vs hD hth hl => ?_
  intro t0 r0 t2 k2 t5 k5 t7 k7 t9 k9 t10 k10 t13 k13 d0 d1 f0 f1 ta1 w1 le1 s1 ta2 w2 le2 s2
  have s1 : (∀ b j, w_el ws b j = w_el w1 b j) ∧ ∀ b j, w_fd ws b j = if b = v_ad (n_v vs 0) ∧ j = 145 then n_v vs 12 else w_fd w1 b j := s1.2
  have s2 : (∀ b j, w_el w1 b j = w_el w2 b j) ∧ ∀ b j, w_fd w1 b j = if b = v_ad (n_v vs 0) ∧ j = 144 then n_v vs 11 else w_fd w2 b j := s2.2
  have fe_0_5_1 : w_fi ws (n_v vs 0) 5 = w_fi w1 (n_v vs 0) 5 := by show v_iv (w_fd _ _ _) = v_iv (w_fd _ _ _); rw [s1.2, if_neg (fun e => absurd e.2 (by decide))]
  have fe_0_139_1 : w_fi ws (n_v vs 0) 139 = w_fi w1 (n_v vs 0) 139 := by show v_iv (w_fd _ _ _) = v_iv (w_fd _ _ _); rw [s1.2, if_neg (fun e => absurd e.2 (by decide))]
  have fe_0_144_1 : w_fi ws (n_v vs 0) 144 = w_fi w1 (n_v vs 0) 144 := by show v_iv (w_fd _ _ _) = v_iv (w_fd _ _ _); rw [s1.2, if_neg (fun e => absurd e.2 (by decide))]
  have fe_0_5_2 : w_fi w1 (n_v vs 0) 5 = w_fi w2 (n_v vs 0) 5 := by show v_iv (w_fd _ _ _) = v_iv (w_fd _ _ _); rw [s2.2, if_neg (fun e => absurd e.2 (by decide))]
  have hE_0_2_1 : ∀ j : Int, w_ei ws (w_ar ws (n_v vs 0) 2) j = w_ei w1 (w_ar ws (n_v vs 0) 2) j := fun j => s1.1 _ _
  have hE_0_2_2 : ∀ j : Int, w_ei w1 (w_ar ws (n_v vs 0) 2) j = w_ei w2 (w_ar ws (n_v vs 0) 2) j := fun j => s2.1 _ _
  have hE_0_3_1 : ∀ j : Int, w_ei ws (w_ar ws (n_v vs 0) 3) j = w_ei w1 (w_ar ws (n_v vs 0) 3) j := fun j => s1.1 _ _
  have hE_0_3_2 : ∀ j : Int, w_ei w1 (w_ar ws (n_v vs 0) 3) j = w_ei w2 (w_ar ws (n_v vs 0) 3) j := fun j => s2.1 _ _
  have hE_0_4_1 : ∀ j : Int, w_ei ws (w_ar ws (n_v vs 0) 4) j = w_ei w1 (w_ar ws (n_v vs 0) 4) j := fun j => s1.1 _ _
  have hE_0_4_2 : ∀ j : Int, w_ei w1 (w_ar ws (n_v vs 0) 4) j = w_ei w2 (w_ar ws (n_v vs 0) 4) j := fun j => s2.1 _ _
  have hE_0_62_1 : ∀ j : Int, w_ei ws (w_ar ws (n_v vs 0) 62) j = w_ei w1 (w_ar ws (n_v vs 0) 62) j := fun j => s1.1 _ _
  have hE_0_62_2 : ∀ j : Int, w_ei w1 (w_ar ws (n_v vs 0) 62) j = w_ei w2 (w_ar ws (n_v vs 0) 62) j := fun j => s2.1 _ _
  have hE_0_63_1 : ∀ j : Int, w_ei ws (w_ar ws (n_v vs 0) 63) j = w_ei w1 (w_ar ws (n_v vs 0) 63) j := fun j => s1.1 _ _
  have hE_0_63_2 : ∀ j : Int, w_ei w1 (w_ar ws (n_v vs 0) 63) j = w_ei w2 (w_ar ws (n_v vs 0) 63) j := fun j => s2.1 _ _
  have kz_0_139 := fdq_171 hD hth r0
  have kz_0_144 := fdq_316 hD hth r0
  have kz_0_145 := fdq_317 hD hth r0
  have nf0 : fc_1 PRD (20, [2, 0], [50, 1, 1, 1005, 1002, 0, 6, 4, 2, 1, 0, 0, 1, 3, 1, 2, 4, 3, 2, 1, 5, 0, 1]) ws (vs) := ⟨nf_in hl rfl, sgq_1651 (vc_Mo_route_1_0 (v_iv (n_v vs 2)) (v_iv (n_v vs 5)) (v_iv (n_v vs 7)) (w_ei ws (w_ar ws (n_v vs 0) 2)) (w_fi ws (n_v vs 0) 5) (w_ei ws (w_ar ws (n_v vs 0) 3)) (w_ei ws (w_ar ws (n_v vs 0) 4)) (w_ei w1 (w_ar ws (n_v vs 0) 2)) (w_fi w1 (n_v vs 0) 5) (w_ei w1 (w_ar ws (n_v vs 0) 3)) (w_ei w1 (w_ar ws (n_v vs 0) 4)) (w_ei w2 (w_ar ws (n_v vs 0) 2)) (w_fi w2 (n_v vs 0) 5) (w_ei w2 (w_ar ws (n_v vs 0) 3)) (w_ei w2 (w_ar ws (n_v vs 0) 4)) (w_fi ws (n_v vs 0) 139) (w_fi w1 (n_v vs 0) 139) (w_fi ws (n_v vs 0) 144) (w_fi w1 (n_v vs 0) 144) (w_ei ws (w_ar ws (n_v vs 0) 62)) (w_ei w1 (w_ar ws (n_v vs 0) 62)) (w_ei w2 (w_ar ws (n_v vs 0) 62)) (w_ei ws (w_ar ws (n_v vs 0) 63)) (w_ei w1 (w_ar ws (n_v vs 0) 63)) (w_ei w2 (w_ar ws (n_v vs 0) 63)) k2 k5 k7 d0 d1 (shm_130 f0) (shm_131 f1) fe_0_5_1 fe_0_139_1 fe_0_144_1 fe_0_5_2 hE_0_2_1 hE_0_2_2 hE_0_3_1 hE_0_3_2 hE_0_4_1 hE_0_4_2 hE_0_62_1 hE_0_62_2 hE_0_63_1 hE_0_63_2 kz_0_139 kz_0_144)⟩
  have nf1 : fc_1 PRD (20, [0, 9, 10, 13], [60, 3, 2, 389, 144, 145, 139, 62, 63]) ws (vs) := ⟨nf_in hl rfl, sgq_1967 (vc_Mo_route_1_1 (v_iv (n_v vs 5)) (v_iv (n_v vs 9)) (v_iv (n_v vs 10)) (v_iv (n_v vs 11)) (v_iv (n_v vs 13)) (w_ei ws (w_ar ws (n_v vs 0) 2)) (w_fi ws (n_v vs 0) 5) (w_ei ws (w_ar ws (n_v vs 0) 3)) (w_ei ws (w_ar ws (n_v vs 0) 4)) (w_ei w1 (w_ar ws (n_v vs 0) 2)) (w_fi w1 (n_v vs 0) 5) (w_ei w1 (w_ar ws (n_v vs 0) 3)) (w_ei w1 (w_ar ws (n_v vs 0) 4)) (w_ei w2 (w_ar ws (n_v vs 0) 2)) (w_fi w2 (n_v vs 0) 5) (w_ei w2 (w_ar ws (n_v vs 0) 3)) (w_ei w2 (w_ar ws (n_v vs 0) 4)) (w_fi ws (n_v vs 0) 139) (w_fi w1 (n_v vs 0) 139) (w_fi ws (n_v vs 0) 144) (w_fi w1 (n_v vs 0) 144) (w_fi ws (n_v vs 0) 145) (w_ei ws (w_ar ws (n_v vs 0) 62)) (w_ei w1 (w_ar ws (n_v vs 0) 62)) (w_ei w2 (w_ar ws (n_v vs 0) 62)) (w_ei ws (w_ar ws (n_v vs 0) 63)) (w_ei w1 (w_ar ws (n_v vs 0) 63)) (w_ei w2 (w_ar ws (n_v vs 0) 63)) k9 k10 k13 fe_0_5_1 fe_0_139_1 fe_0_144_1 fe_0_5_2 hE_0_2_1 hE_0_2_2 hE_0_3_1 hE_0_3_2 hE_0_4_1 hE_0_4_2 hE_0_62_1 hE_0_62_2 hE_0_63_1 hE_0_63_2 kz_0_139 kz_0_144 kz_0_145)⟩
  refine ⟨(fun _ h => (by cases h)), [], trivial, ?_, (fun _ h => (by cases h))⟩
  rw [List.append_nil]
  exact List.forall_mem_cons.mpr ⟨⟨show (20 : Nat) < 100 from by decide, nf0⟩, List.forall_mem_cons.mpr ⟨⟨show (20 : Nat) < 100 from by decide, nf1⟩, (fun _ h => (by cases h))⟩⟩
set_option maxHeartbeats 4000000 in
theorem vc_Mo_route_2_0 (x2 : Int) (x3 : Int) (x4 : Int) (x5 : Int) (x6 : Int) (x7 : Int) (x8 : Int) (x9 : Int) (x11 : Int) (x12 : Int) (x14 : Int) (x15 : Int) (x16 : Int) (x17 : Int) (tall_0 : Int) (wide_0 : Int) (all_0 : Int → Int) (r_0 : Int) (nodeX_0 : Int → Int) (nodeY_0 : Int → Int) (left0_0 : Int) (top0_0 : Int) (g0_0 : Int) (top0_1 : Int) (all_1 : Int → Int) (r_1 : Int) (nodeX_1 : Int → Int) (nodeY_1 : Int → Int) (left0_1 : Int) (g0_1 : Int) (left0_2 : Int) (all_2 : Int → Int) (r_2 : Int) (nodeX_2 : Int → Int) (nodeY_2 : Int → Int) (top0_2 : Int) (g0_2 : Int) (wide_1 : Int) (k2 : 0 ≤ x2 ∧ x2 ≤ 47) (k3 : (-2000000) ≤ x3 ∧ x3 ≤ 300000011) (k4 : (-2000000) ≤ x4 ∧ x4 ≤ 300000003) (k5 : 0 ≤ x5 ∧ x5 ≤ 24) (k6 : (-300000011) ≤ x6 ∧ x6 ≤ 2000000) (k7 : (-300000003) ≤ x7 ∧ x7 ≤ 2000000) (k8 : 0 ≤ x8 ∧ x8 ≤ 24) (k9 : (-4000000) ≤ x9 ∧ x9 ≤ 600000022) (k11 : (-3999999) ≤ x11 ∧ x11 ≤ 600000023) (k12 : (-4000000) ≤ x12 ∧ x12 ≤ 600000006) (k14 : (-3999999) ≤ x14 ∧ x14 ≤ 600000007) (k15 : (-3999999) ≤ x15 ∧ x15 ≤ 600000023) (k16 : (-3999999) ≤ x16 ∧ x16 ≤ 600000007) (k17 : (-2399999491999977) ≤ x17 ∧ x17 ≤ 6000) (d0 : x12 + 1 ≤ x14 ∧ x14 ≤ x12 + 1) (d5 : x9 + 1 ≤ x11 ∧ x11 ≤ x9 + 1) (d10 : x8 + 0 ≤ x5 ∧ x5 ≤ x8 + 4294967296) (f1 : x17 = x15 * x16) (f2 : x16 = x14) (g3 : x14 = tall_0) (f4 : x15 = x11) (g5 : x11 = wide_0) (f6 : 1 * x8 + ((-1) * all_0 (r_0 + 0) + 0) ≤ 0) (f7 : (-1) * x8 + (1 * all_0 (r_0 + 0) + 0) ≤ 0) (f9 : (x2 + 1) ≤ all_0 ((r_0 + 1))) (f13 : x12 = x4 - x7) (g14 : x7 = top0_1) (f22 : x9 = x3 - x6) (g23 : x6 = left0_2) (f24 : x8 ≤ x5) (f27 : SGR (r_2) (all_2)) (f29 : RTB (left0_2) (top0_2) (g0_2) (nodeX_2) (nodeY_2) (x3) (x4) (x5)) (fe_0_5_1 : r_0 = r_1) (fe_0_139_1 : g0_0 = g0_1) (fe_0_144_1 : left0_0 = left0_1) (fe_0_145_1 : top0_0 = top0_1) (fe_0_146_1 : wide_0 = wide_1) (fe_0_5_2 : r_1 = r_2) (fe_0_139_2 : g0_1 = g0_2) (fe_0_144_2 : left0_1 = left0_2) (fe_0_145_2 : top0_1 = top0_2) (hE_0_2_1 : ∀ j : Int, all_0 j = all_1 j) (hE_0_2_2 : ∀ j : Int, all_1 j = all_2 j) (hE_0_62_1 : ∀ j : Int, nodeX_0 j = nodeX_1 j) (hE_0_62_2 : ∀ j : Int, nodeX_1 j = nodeX_2 j) (hE_0_63_1 : ∀ j : Int, nodeY_0 j = nodeY_1 j) (hE_0_63_2 : ∀ j : Int, nodeY_1 j = nodeY_2 j) (kz_0_139 : 0 ≤ g0_0 ∧ g0_0 ≤ 3) (kz_0_144 : (-300000011) ≤ left0_0 ∧ left0_0 ≤ 2000000) (kz_0_145 : (-300000003) ≤ top0_0 ∧ top0_0 ≤ 2000000) (kz_0_146 : (-3999999) ≤ wide_0 ∧ wide_0 ≤ 600000023) (kz_0_147 : (-3999999) ≤ tall_0 ∧ tall_0 ≤ 600000007) : RTW (r_0) (left0_0) (top0_0) (g0_0) (wide_0) (tall_0) (all_0) (nodeX_0) (nodeY_0) := by
  subst fe_0_5_1
  subst fe_0_139_1
  subst fe_0_144_1
  subst fe_0_145_1
  subst fe_0_146_1
  subst fe_0_5_2
  subst fe_0_139_2
  subst fe_0_144_2
  subst fe_0_145_2
  have e_hE_0_2_1 := funext hE_0_2_1; subst e_hE_0_2_1
  have e_hE_0_2_2 := funext hE_0_2_2; subst e_hE_0_2_2
  have e_hE_0_62_1 := funext hE_0_62_1; subst e_hE_0_62_1
  have e_hE_0_62_2 := funext hE_0_62_2; subst e_hE_0_62_2
  have e_hE_0_63_1 := funext hE_0_63_1; subst e_hE_0_63_1
  have e_hE_0_63_2 := funext hE_0_63_2; subst e_hE_0_63_2
  try simp only [Int.add_zero] at *
  first
    | assumption
    | exact rtw_start (p := x17) (x := x15) (y := x16) ‹RTB _ _ _ _ _ _ _ _› (by omega) ‹SGR _ _› (by omega) (by omega) (by omega) (by omega) (by omega) (by assumption) (by omega)
  
set_option maxHeartbeats 4000000 in
theorem vc_Mo_route_2_1 (x2 : Int) (x3 : Int) (x4 : Int) (x5 : Int) (x6 : Int) (x7 : Int) (x8 : Int) (x9 : Int) (x11 : Int) (x12 : Int) (x14 : Int) (x15 : Int) (x16 : Int) (x17 : Int) (tall_0 : Int) (wide_0 : Int) (all_0 : Int → Int) (r_0 : Int) (nodeX_0 : Int → Int) (nodeY_0 : Int → Int) (left0_0 : Int) (top0_0 : Int) (g0_0 : Int) (top0_1 : Int) (all_1 : Int → Int) (r_1 : Int) (nodeX_1 : Int → Int) (nodeY_1 : Int → Int) (left0_1 : Int) (g0_1 : Int) (left0_2 : Int) (all_2 : Int → Int) (r_2 : Int) (nodeX_2 : Int → Int) (nodeY_2 : Int → Int) (top0_2 : Int) (g0_2 : Int) (wide_1 : Int) (k2 : 0 ≤ x2 ∧ x2 ≤ 47) (k3 : (-2000000) ≤ x3 ∧ x3 ≤ 300000011) (k4 : (-2000000) ≤ x4 ∧ x4 ≤ 300000003) (k5 : 0 ≤ x5 ∧ x5 ≤ 24) (k6 : (-300000011) ≤ x6 ∧ x6 ≤ 2000000) (k7 : (-300000003) ≤ x7 ∧ x7 ≤ 2000000) (k8 : 0 ≤ x8 ∧ x8 ≤ 24) (k9 : (-4000000) ≤ x9 ∧ x9 ≤ 600000022) (k11 : (-3999999) ≤ x11 ∧ x11 ≤ 600000023) (k12 : (-4000000) ≤ x12 ∧ x12 ≤ 600000006) (k14 : (-3999999) ≤ x14 ∧ x14 ≤ 600000007) (k15 : (-3999999) ≤ x15 ∧ x15 ≤ 600000023) (k16 : (-3999999) ≤ x16 ∧ x16 ≤ 600000007) (k17 : (-2399999491999977) ≤ x17 ∧ x17 ≤ 6000) (d0 : x12 + 1 ≤ x14 ∧ x14 ≤ x12 + 1) (d5 : x9 + 1 ≤ x11 ∧ x11 ≤ x9 + 1) (d10 : x8 + 0 ≤ x5 ∧ x5 ≤ x8 + 4294967296) (f1 : x17 = x15 * x16) (f2 : x16 = x14) (g3 : x14 = tall_0) (f4 : x15 = x11) (g5 : x11 = wide_0) (f6 : 1 * x8 + ((-1) * all_0 (r_0 + 0) + 0) ≤ 0) (f7 : (-1) * x8 + (1 * all_0 (r_0 + 0) + 0) ≤ 0) (f9 : (x2 + 1) ≤ all_0 ((r_0 + 1))) (f13 : x12 = x4 - x7) (g14 : x7 = top0_1) (f22 : x9 = x3 - x6) (g23 : x6 = left0_2) (f24 : x8 ≤ x5) (f27 : SGR (r_2) (all_2)) (f29 : RTB (left0_2) (top0_2) (g0_2) (nodeX_2) (nodeY_2) (x3) (x4) (x5)) (fe_0_5_1 : r_0 = r_1) (fe_0_139_1 : g0_0 = g0_1) (fe_0_144_1 : left0_0 = left0_1) (fe_0_145_1 : top0_0 = top0_1) (fe_0_146_1 : wide_0 = wide_1) (fe_0_5_2 : r_1 = r_2) (fe_0_139_2 : g0_1 = g0_2) (fe_0_144_2 : left0_1 = left0_2) (fe_0_145_2 : top0_1 = top0_2) (hE_0_2_1 : ∀ j : Int, all_0 j = all_1 j) (hE_0_2_2 : ∀ j : Int, all_1 j = all_2 j) (hE_0_62_1 : ∀ j : Int, nodeX_0 j = nodeX_1 j) (hE_0_62_2 : ∀ j : Int, nodeX_1 j = nodeX_2 j) (hE_0_63_1 : ∀ j : Int, nodeY_0 j = nodeY_1 j) (hE_0_63_2 : ∀ j : Int, nodeY_1 j = nodeY_2 j) (kz_0_139 : 0 ≤ g0_0 ∧ g0_0 ≤ 3) (kz_0_144 : (-300000011) ≤ left0_0 ∧ left0_0 ≤ 2000000) (kz_0_145 : (-300000003) ≤ top0_0 ∧ top0_0 ≤ 2000000) (kz_0_146 : (-3999999) ≤ wide_0 ∧ wide_0 ≤ 600000023) (kz_0_147 : (-3999999) ≤ tall_0 ∧ tall_0 ≤ 600000007) : (1 ≤ wide_0) ∧ ((1 ≤ tall_0) ∧ ((wide_0 * tall_0) ≤ 6000)) := by
  subst fe_0_5_1
  subst fe_0_139_1
  subst fe_0_144_1
  subst fe_0_145_1
  subst fe_0_146_1
  subst fe_0_5_2
  subst fe_0_139_2
  subst fe_0_144_2
  subst fe_0_145_2
  have e_hE_0_2_1 := funext hE_0_2_1; subst e_hE_0_2_1
  have e_hE_0_2_2 := funext hE_0_2_2; subst e_hE_0_2_2
  have e_hE_0_62_1 := funext hE_0_62_1; subst e_hE_0_62_1
  have e_hE_0_62_2 := funext hE_0_62_2; subst e_hE_0_62_2
  have e_hE_0_63_1 := funext hE_0_63_1; subst e_hE_0_63_1
  have e_hE_0_63_2 := funext hE_0_63_2; subst e_hE_0_63_2
  try simp only [Int.add_zero] at *
  first
    | omega
    | assumption
    | exact (rtw_start (A := all_0) (r := r_0) (w := wide_0) (h := tall_0) (p := x17) (x := x15) (y := x16) ‹RTB _ _ _ _ _ _ _ _› (by omega) ‹SGR _ _› (by omega) (by omega) (by omega) (by omega) (by omega) (by assumption) (by omega)).1
def o_Mo_route_2 : or_T := (192, 20, [(0, (2, 0, 0, [165])), (2, (0, 0, 47, [])), (3, (0, -2000000, 300000011, [])), (4, (0, -2000000, 300000003, [])), (5, (0, 0, 24, [])), (6, (0, -300000011, 2000000, [])), (7, (0, -300000003, 2000000, [])), (8, (0, 0, 24, [])), (9, (0, -4000000, 600000022, [])), (11, (0, -3999999, 600000023, [])), (12, (0, -4000000, 600000006, [])), (14, (0, -3999999, 600000007, [])), (15, (1, -3999999, 600000023, [])), (16, (1, -3999999, 600000007, [])), (17, (1, -2399999491999977, 6000, []))], [(3, [17, 15, 16], []), (22, [16, 14], []), (9, [14, 0], [147]), (22, [15, 11], []), (9, [11, 0], [146]), (20, [8, 0], [30, 0, 1, 0, 0, -1, 3, 2005000]), (20, [8, 0], [30, 0, -1, 0, 0, 1, 3, 2005000]), (20, [2, 0], [50, 1, 1, 1005, 1002, 0, 6, 4, 2, 1, 0, 0, 1, 3, 1, 2, 4, 3, 2, 1, 5, 0, 1]), (101, [0, 14], [147]), (2, [12, 4, 7], []), (9, [7, 0], [145]), (101, [0, 11], [146]), (2, [9, 3, 6], []), (9, [6, 0], [144]), (7, [5, 8], [3]), (20, [0], [60, 1, 1, 197, 5, 2]), (20, [0, 3, 4, 5], [60, 3, 2, 389, 144, 145, 139, 62, 63])], [], [], [(20, [0], [60, 6, 3, 390, 5, 144, 145, 139, 146, 147, 2, 62, 63]), (20, [0], [50, 2, 0, 146, 147, 2, 7, 0, 2, 0, 1, 2, 0, 146, 2, 7, 0, 2, 0, 1, 2, 0, 147, 0, 8, 6, 3, 2, 0, 146, 2, 0, 147, 0, 6000])], [], [(14, 12, 1, 1), (11, 9, 1, 1), (5, 8, 0, 4294967296)])
theorem oo_Mo_route_2 {kA : Nat → ClassId} : or_ok PRD kA GG o_Mo_route_2 := by
  refine or_mk fun A ta ws vs hD hth hl => ?_
  intro t0 r0 t2 k2 t3 k3 t4 k4 t5 k5 t6 k6 t7 k7 t8 k8 t9 k9 t11 k11 t12 k12 t14 k14 t15 k15 t16 k16 t17 k17 d0 d5 d10 f1 f2 f3 f4 f5 f6 f7 f9 ta1 w1 le1 s1 f13 f14 ta2 w2 le2 s2 f22 f23 f24 f27 f29
  replace f3 := shm_1259 f3
  replace f5 := shm_1254 f5
  have s1 : (∀ b j, w_el ws b j = w_el w1 b j) ∧ ∀ b j, w_fd ws b j = if b = v_ad (n_v vs 0) ∧ j = 147 then n_v vs 14 else w_fd w1 b j := s1.2
  replace f14 := shm_1968 f14
  have s2 : (∀ b j, w_el w1 b j = w_el w2 b j) ∧ ∀ b j, w_fd w1 b j = if b = v_ad (n_v vs 0) ∧ j = 146 then n_v vs 11 else w_fd w2 b j := s2.2
  replace f23 := shm_1969 f23
  replace f27 := shm_1403 f27
  replace f29 := shm_1967 f29
  have ar_0_2_1 : w_ar w1 (n_v vs 0) 2 = w_ar ws (n_v vs 0) 2 := by show v_ad (w_fd w1 _ _) = v_ad (w_fd ws _ _); rw [s1.2, if_neg (fun e => absurd e.2 (by decide))]
  have ar_0_2_2 : w_ar w2 (n_v vs 0) 2 = w_ar ws (n_v vs 0) 2 := by rw [← ar_0_2_1]; show v_ad (w_fd w2 _ _) = v_ad (w_fd w1 _ _); rw [s2.2, if_neg (fun e => absurd e.2 (by decide))]
  have ar_0_62_1 : w_ar w1 (n_v vs 0) 62 = w_ar ws (n_v vs 0) 62 := by show v_ad (w_fd w1 _ _) = v_ad (w_fd ws _ _); rw [s1.2, if_neg (fun e => absurd e.2 (by decide))]
  have ar_0_62_2 : w_ar w2 (n_v vs 0) 62 = w_ar ws (n_v vs 0) 62 := by rw [← ar_0_62_1]; show v_ad (w_fd w2 _ _) = v_ad (w_fd w1 _ _); rw [s2.2, if_neg (fun e => absurd e.2 (by decide))]
  have ar_0_63_1 : w_ar w1 (n_v vs 0) 63 = w_ar ws (n_v vs 0) 63 := by show v_ad (w_fd w1 _ _) = v_ad (w_fd ws _ _); rw [s1.2, if_neg (fun e => absurd e.2 (by decide))]
  have ar_0_63_2 : w_ar w2 (n_v vs 0) 63 = w_ar ws (n_v vs 0) 63 := by rw [← ar_0_63_1]; show v_ad (w_fd w2 _ _) = v_ad (w_fd w1 _ _); rw [s2.2, if_neg (fun e => absurd e.2 (by decide))]
  have g3 : v_iv (n_v vs 14) = w_fi ws (n_v vs 0) 147 := congrArg v_iv f3
  have g5 : v_iv (n_v vs 11) = w_fi ws (n_v vs 0) 146 := congrArg v_iv f5
  have g14 : v_iv (n_v vs 7) = w_fi w1 (n_v vs 0) 145 := congrArg v_iv f14
  have g23 : v_iv (n_v vs 6) = w_fi w2 (n_v vs 0) 144 := congrArg v_iv f23
  simp only [ar_0_2_2, ar_0_62_2, ar_0_63_2] at f27 f29
  have fe_0_5_1 : w_fi ws (n_v vs 0) 5 = w_fi w1 (n_v vs 0) 5 := by show v_iv (w_fd _ _ _) = v_iv (w_fd _ _ _); rw [s1.2, if_neg (fun e => absurd e.2 (by decide))]
  have fe_0_139_1 : w_fi ws (n_v vs 0) 139 = w_fi w1 (n_v vs 0) 139 := by show v_iv (w_fd _ _ _) = v_iv (w_fd _ _ _); rw [s1.2, if_neg (fun e => absurd e.2 (by decide))]
  have fe_0_144_1 : w_fi ws (n_v vs 0) 144 = w_fi w1 (n_v vs 0) 144 := by show v_iv (w_fd _ _ _) = v_iv (w_fd _ _ _); rw [s1.2, if_neg (fun e => absurd e.2 (by decide))]
  have fe_0_145_1 : w_fi ws (n_v vs 0) 145 = w_fi w1 (n_v vs 0) 145 := by show v_iv (w_fd _ _ _) = v_iv (w_fd _ _ _); rw [s1.2, if_neg (fun e => absurd e.2 (by decide))]
  have fe_0_146_1 : w_fi ws (n_v vs 0) 146 = w_fi w1 (n_v vs 0) 146 := by show v_iv (w_fd _ _ _) = v_iv (w_fd _ _ _); rw [s1.2, if_neg (fun e => absurd e.2 (by decide))]
  have fe_0_5_2 : w_fi w1 (n_v vs 0) 5 = w_fi w2 (n_v vs 0) 5 := by show v_iv (w_fd _ _ _) = v_iv (w_fd _ _ _); rw [s2.2, if_neg (fun e => absurd e.2 (by decide))]
  have fe_0_139_2 : w_fi w1 (n_v vs 0) 139 = w_fi w2 (n_v vs 0) 139 := by show v_iv (w_fd _ _ _) = v_iv (w_fd _ _ _); rw [s2.2, if_neg (fun e => absurd e.2 (by decide))]
  have fe_0_144_2 : w_fi w1 (n_v vs 0) 144 = w_fi w2 (n_v vs 0) 144 := by show v_iv (w_fd _ _ _) = v_iv (w_fd _ _ _); rw [s2.2, if_neg (fun e => absurd e.2 (by decide))]
  have fe_0_145_2 : w_fi w1 (n_v vs 0) 145 = w_fi w2 (n_v vs 0) 145 := by show v_iv (w_fd _ _ _) = v_iv (w_fd _ _ _); rw [s2.2, if_neg (fun e => absurd e.2 (by decide))]
  have hE_0_2_1 : ∀ j : Int, w_ei ws (w_ar ws (n_v vs 0) 2) j = w_ei w1 (w_ar ws (n_v vs 0) 2) j := fun j => s1.1 _ _
  have hE_0_2_2 : ∀ j : Int, w_ei w1 (w_ar ws (n_v vs 0) 2) j = w_ei w2 (w_ar ws (n_v vs 0) 2) j := fun j => s2.1 _ _
  have hE_0_62_1 : ∀ j : Int, w_ei ws (w_ar ws (n_v vs 0) 62) j = w_ei w1 (w_ar ws (n_v vs 0) 62) j := fun j => s1.1 _ _
  have hE_0_62_2 : ∀ j : Int, w_ei w1 (w_ar ws (n_v vs 0) 62) j = w_ei w2 (w_ar ws (n_v vs 0) 62) j := fun j => s2.1 _ _
  have hE_0_63_1 : ∀ j : Int, w_ei ws (w_ar ws (n_v vs 0) 63) j = w_ei w1 (w_ar ws (n_v vs 0) 63) j := fun j => s1.1 _ _
  have hE_0_63_2 : ∀ j : Int, w_ei w1 (w_ar ws (n_v vs 0) 63) j = w_ei w2 (w_ar ws (n_v vs 0) 63) j := fun j => s2.1 _ _
  have kz_0_139 := fdq_171 hD hth r0
  have kz_0_144 := fdq_316 hD hth r0
  have kz_0_145 := fdq_317 hD hth r0
  have kz_0_146 := fdq_178 hD hth r0
  have kz_0_147 := fdq_179 hD hth r0
  have nf0 : fc_1 PRD (20, [0], [60, 6, 3, 390, 5, 144, 145, 139, 146, 147, 2, 62, 63]) ws (vs) := ⟨nf_in hl rfl, sgq_1970 (vc_Mo_route_2_0 (v_iv (n_v vs 2)) (v_iv (n_v vs 3)) (v_iv (n_v vs 4)) (v_iv (n_v vs 5)) (v_iv (n_v vs 6)) (v_iv (n_v vs 7)) (v_iv (n_v vs 8)) (v_iv (n_v vs 9)) (v_iv (n_v vs 11)) (v_iv (n_v vs 12)) (v_iv (n_v vs 14)) (v_iv (n_v vs 15)) (v_iv (n_v vs 16)) (v_iv (n_v vs 17)) (w_fi ws (n_v vs 0) 147) (w_fi ws (n_v vs 0) 146) (w_ei ws (w_ar ws (n_v vs 0) 2)) (w_fi ws (n_v vs 0) 5) (w_ei ws (w_ar ws (n_v vs 0) 62)) (w_ei ws (w_ar ws (n_v vs 0) 63)) (w_fi ws (n_v vs 0) 144) (w_fi ws (n_v vs 0) 145) (w_fi ws (n_v vs 0) 139) (w_fi w1 (n_v vs 0) 145) (w_ei w1 (w_ar ws (n_v vs 0) 2)) (w_fi w1 (n_v vs 0) 5) (w_ei w1 (w_ar ws (n_v vs 0) 62)) (w_ei w1 (w_ar ws (n_v vs 0) 63)) (w_fi w1 (n_v vs 0) 144) (w_fi w1 (n_v vs 0) 139) (w_fi w2 (n_v vs 0) 144) (w_ei w2 (w_ar ws (n_v vs 0) 2)) (w_fi w2 (n_v vs 0) 5) (w_ei w2 (w_ar ws (n_v vs 0) 62)) (w_ei w2 (w_ar ws (n_v vs 0) 63)) (w_fi w2 (n_v vs 0) 145) (w_fi w2 (n_v vs 0) 139) (w_fi w1 (n_v vs 0) 146) k2 k3 k4 k5 k6 k7 k8 k9 k11 k12 k14 k15 k16 k17 d0 d5 d10 (shm_38 f1) (shm_47 f2) g3 (shm_47 f4) g5 (shm_135 f6) (shm_136 f7) (shm_1651 f9) (shm_14 f13) g14 (shm_14 f22) g23 (shm_2 f24) f27 f29 fe_0_5_1 fe_0_139_1 fe_0_144_1 fe_0_145_1 fe_0_146_1 fe_0_5_2 fe_0_139_2 fe_0_144_2 fe_0_145_2 hE_0_2_1 hE_0_2_2 hE_0_62_1 hE_0_62_2 hE_0_63_1 hE_0_63_2 kz_0_139 kz_0_144 kz_0_145 kz_0_146 kz_0_147)⟩
  have nf1 : fc_1 PRD (20, [0], [50, 2, 0, 146, 147, 2, 7, 0, 2, 0, 1, 2, 0, 146, 2, 7, 0, 2, 0, 1, 2, 0, 147, 0, 8, 6, 3, 2, 0, 146, 2, 0, 147, 0, 6000]) ws (vs) := ⟨nf_in hl rfl, sgq_1971 (vc_Mo_route_2_1 (v_iv (n_v vs 2)) (v_iv (n_v vs 3)) (v_iv (n_v vs 4)) (v_iv (n_v vs 5)) (v_iv (n_v vs 6)) (v_iv (n_v vs 7)) (v_iv (n_v vs 8)) (v_iv (n_v vs 9)) (v_iv (n_v vs 11)) (v_iv (n_v vs 12)) (v_iv (n_v vs 14)) (v_iv (n_v vs 15)) (v_iv (n_v vs 16)) (v_iv (n_v vs 17)) (w_fi ws (n_v vs 0) 147) (w_fi ws (n_v vs 0) 146) (w_ei ws (w_ar ws (n_v vs 0) 2)) (w_fi ws (n_v vs 0) 5) (w_ei ws (w_ar ws (n_v vs 0) 62)) (w_ei ws (w_ar ws (n_v vs 0) 63)) (w_fi ws (n_v vs 0) 144) (w_fi ws (n_v vs 0) 145) (w_fi ws (n_v vs 0) 139) (w_fi w1 (n_v vs 0) 145) (w_ei w1 (w_ar ws (n_v vs 0) 2)) (w_fi w1 (n_v vs 0) 5) (w_ei w1 (w_ar ws (n_v vs 0) 62)) (w_ei w1 (w_ar ws (n_v vs 0) 63)) (w_fi w1 (n_v vs 0) 144) (w_fi w1 (n_v vs 0) 139) (w_fi w2 (n_v vs 0) 144) (w_ei w2 (w_ar ws (n_v vs 0) 2)) (w_fi w2 (n_v vs 0) 5) (w_ei w2 (w_ar ws (n_v vs 0) 62)) (w_ei w2 (w_ar ws (n_v vs 0) 63)) (w_fi w2 (n_v vs 0) 145) (w_fi w2 (n_v vs 0) 139) (w_fi w1 (n_v vs 0) 146) k2 k3 k4 k5 k6 k7 k8 k9 k11 k12 k14 k15 k16 k17 d0 d5 d10 (shm_38 f1) (shm_47 f2) g3 (shm_47 f4) g5 (shm_135 f6) (shm_136 f7) (shm_1651 f9) (shm_14 f13) g14 (shm_14 f22) g23 (shm_2 f24) f27 f29 fe_0_5_1 fe_0_139_1 fe_0_144_1 fe_0_145_1 fe_0_146_1 fe_0_5_2 fe_0_139_2 fe_0_144_2 fe_0_145_2 hE_0_2_1 hE_0_2_2 hE_0_62_1 hE_0_62_2 hE_0_63_1 hE_0_63_2 kz_0_139 kz_0_144 kz_0_145 kz_0_146 kz_0_147)⟩
  refine ⟨(fun _ h => (by cases h)), [], trivial, ?_, (fun _ h => (by cases h))⟩
  rw [List.append_nil]
  exact List.forall_mem_cons.mpr ⟨⟨show (20 : Nat) < 100 from by decide, nf0⟩, List.forall_mem_cons.mpr ⟨⟨show (20 : Nat) < 100 from by decide, nf1⟩, (fun _ h => (by cases h))⟩⟩
set_option maxHeartbeats 4000000 in
theorem vc_Mo_route_3_0 (x3 : Int) (x4 : Int) (x5 : Int) (x6 : Int) (x7 : Int) (x11 : Int) (x12 : Int) (x13 : Int) (x14 : Int) (x15 : Int) (x16 : Int) (x18 : Int) (x19 : Int) (x21 : Int) (x22 : Int) (nodeY_0 : Int → Int) (g0_0 : Int) (nodeX_0 : Int → Int) (all_0 : Int → Int) (r_0 : Int) (nodeY_1 : Int → Int) (g0_1 : Int) (top0_1 : Int) (nodeX_1 : Int → Int) (all_1 : Int → Int) (r_1 : Int) (nodeX_2 : Int → Int) (g0_2 : Int) (left0_2 : Int) (all_2 : Int → Int) (r_2 : Int) (nodeY_2 : Int → Int) (top0_2 : Int) (left0_0 : Int) (left0_1 : Int) (top0_0 : Int) (k3 : (-2000000) ≤ x3 ∧ x3 ≤ 300000011) (k4 : (-2000000) ≤ x4 ∧ x4 ≤ 300000003) (k5 : 0 ≤ x5 ∧ x5 ≤ 23) (k6 : (-300000011) ≤ x6 ∧ x6 ≤ 2000000) (k7 : (-300000003) ≤ x7 ∧ x7 ≤ 2000000) (k11 : 3 ≤ x11 ∧ x11 ≤ 11) (k12 : (-300000000) ≤ x12 ∧ x12 ≤ 300000000) (k13 : (-300000011) ≤ x13 ∧ x13 ≤ 2000000) (k14 : (-300000000) ≤ x14 ∧ x14 ≤ 300000000) (k15 : (-2000000) ≤ x15 ∧ x15 ≤ 300000011) (k16 : (-300000000) ≤ x16 ∧ x16 ≤ 300000000) (k18 : (-300000003) ≤ x18 ∧ x18 ≤ 2000000) (k19 : (-300000000) ≤ x19 ∧ x19 ≤ 300000000) (k21 : (-2000000) ≤ x21 ∧ x21 ≤ 300000003) (k22 : 1 ≤ x22 ∧ x22 ≤ 24) (d3 : x19 + 3 ≤ x21 ∧ x21 ≤ x19 + 3) (d4 : x18 + 0 ≤ x7 ∧ x7 ≤ x18 + 4294967296) (d5 : x16 + (-3) ≤ x18 ∧ x18 ≤ x16 + (-3)) (d9 : x14 + 3 ≤ x15 ∧ x15 ≤ x14 + 11) (d10 : x13 + 0 ≤ x6 ∧ x6 ≤ x13 + 4294967296) (f0 : x22 = x5 + 1) (f1 : x4 ≤ x21) (f4 : x19 = nodeY_0 (((24 * g0_0) + x5))) (f5 : x16 = nodeY_0 (((24 * g0_0) + x5))) (f6 : x14 = nodeX_0 (((24 * g0_0) + x5))) (f7 : x12 = nodeX_0 (((24 * g0_0) + x5))) (g17 : x7 = top0_1) (f18 : x3 ≤ x15) (f20 : x15 = x14 + x11) (f30 : x13 = x12 - x11) (g32 : x6 = left0_2) (f39 : RTB (left0_2) (top0_2) (g0_2) (nodeX_2) (nodeY_2) (x3) (x4) (x5)) (fe_0_5_1 : r_0 = r_1) (fe_0_139_1 : g0_0 = g0_1) (fe_0_144_1 : left0_0 = left0_1) (fe_0_145_1 : top0_0 = x18) (fe_0_5_2 : r_1 = r_2) (fe_0_139_2 : g0_1 = g0_2) (fe_0_144_2 : left0_1 = x13) (fe_0_145_2 : top0_1 = top0_2) (hE_0_2_1 : ∀ j : Int, all_0 j = all_1 j) (hE_0_2_2 : ∀ j : Int, all_1 j = all_2 j) (hE_0_62_1 : ∀ j : Int, nodeX_0 j = nodeX_1 j) (hE_0_62_2 : ∀ j : Int, nodeX_1 j = nodeX_2 j) (hE_0_63_1 : ∀ j : Int, nodeY_0 j = nodeY_1 j) (hE_0_63_2 : ∀ j : Int, nodeY_1 j = nodeY_2 j) (kz_0_139 : 0 ≤ g0_0 ∧ g0_0 ≤ 3) (kz_0_144 : (-300000011) ≤ left0_0 ∧ left0_0 ≤ 2000000) (kz_0_145 : (-300000003) ≤ top0_0 ∧ top0_0 ≤ 2000000) : RTB (left0_0) (top0_0) (g0_0) (nodeX_0) (nodeY_0) (x15) (x21) (x22) := by
  subst fe_0_5_1
  subst fe_0_139_1
  subst fe_0_144_1
  subst fe_0_5_2
  subst fe_0_139_2
  subst fe_0_145_2
  have e_hE_0_2_1 := funext hE_0_2_1; subst e_hE_0_2_1
  have e_hE_0_2_2 := funext hE_0_2_2; subst e_hE_0_2_2
  have e_hE_0_62_1 := funext hE_0_62_1; subst e_hE_0_62_1
  have e_hE_0_62_2 := funext hE_0_62_2; subst e_hE_0_62_2
  have e_hE_0_63_1 := funext hE_0_63_1; subst e_hE_0_63_1
  have e_hE_0_63_2 := funext hE_0_63_2; subst e_hE_0_63_2
  first
    | (intro v a b; exfalso; omega)
    | exact rtb_step (w := x11) (x := nodeX_0 (24 * g0_0 + x5)) (y := nodeY_0 (24 * g0_0 + x5)) ‹RTB _ _ _ _ _ _ _ _› (by omega) (by omega) rfl rfl (by omega) (by omega) (by omega) (by omega) (by omega) (by omega) (by omega) (by omega)
  
def o_Mo_route_3 : or_T := (50, 23, [(0, (2, 0, 0, [165])), (2, (0, 0, 47, [])), (3, (0, -2000000, 300000011, [])), (4, (0, -2000000, 300000003, [])), (5, (0, 0, 23, [])), (6, (0, -300000011, 2000000, [])), (7, (0, -300000003, 2000000, [])), (8, (0, 1, 24, [])), (9, (0, 0, 8, [])), (10, (0, 3, 3, [])), (11, (0, 3, 11, [])), (12, (0, -300000000, 300000000, [])), (13, (0, -300000011, 2000000, [])), (14, (0, -300000000, 300000000, [])), (15, (0, -2000000, 300000011, [])), (16, (0, -300000000, 300000000, [])), (17, (0, 3, 3, [])), (18, (0, -300000003, 2000000, [])), (19, (0, -300000000, 300000000, [])), (20, (0, 3, 3, [])), (21, (0, -2000000, 300000003, [])), (22, (0, 1, 24, []))], [(6, [22, 5], [1]), (7, [4, 21], [5]), (7, [21, 21], [5]), (1, [21, 19, 20], []), (20, [19, 0, 5], [50, 1, 1, 1139, 1063, 1, 2, 1, 0, 3, 1, 63, 4, 7, 6, 2, 0, 24, 2, 1, 139, 1, 2]), (20, [16, 0, 5], [50, 1, 1, 1139, 1063, 1, 2, 1, 0, 3, 1, 63, 4, 7, 6, 2, 0, 24, 2, 1, 139, 1, 2]), (20, [14, 0, 5], [50, 1, 1, 1139, 1062, 1, 2, 1, 0, 3, 1, 62, 4, 7, 6, 2, 0, 24, 2, 1, 139, 1, 2]), (20, [12, 0, 5], [50, 1, 1, 1139, 1062, 1, 2, 1, 0, 3, 1, 62, 4, 7, 6, 2, 0, 24, 2, 1, 139, 1, 2]), (20, [8, 0], [30, 0, 1, 0, 0, -1, 3, 2005000]), (20, [8, 0], [30, 0, -1, 0, 0, 1, 3, 2005000]), (20, [0], [60, 1, 1, 197, 5, 2]), (20, [2, 0], [50, 1, 1, 1005, 1002, 0, 6, 4, 2, 1, 0, 0, 1, 3, 1, 2, 4, 3, 2, 1, 5, 0, 1]), (101, [0, 18], [145]), (7, [18, 7], [5]), (7, [18, 18], [5]), (2, [18, 16, 17], []), (20, [16, 0, 5], [50, 1, 1, 1139, 1063, 1, 2, 1, 0, 3, 1, 63, 4, 7, 6, 2, 0, 24, 2, 1, 139, 1, 2]), (9, [7, 0], [145]), (7, [3, 15], [5]), (7, [15, 15], [5]), (1, [15, 14, 11], []), (20, [14, 0, 5], [50, 1, 1, 1139, 1062, 1, 2, 1, 0, 3, 1, 62, 4, 7, 6, 2, 0, 24, 2, 1, 139, 1, 2]), (20, [12, 0, 5], [50, 1, 1, 1139, 1062, 1, 2, 1, 0, 3, 1, 62, 4, 7, 6, 2, 0, 24, 2, 1, 139, 1, 2]), (20, [8, 0], [30, 0, 1, 0, 0, -1, 3, 2005000]), (20, [8, 0], [30, 0, -1, 0, 0, 1, 3, 2005000]), (20, [0], [60, 1, 1, 197, 5, 2]), (20, [2, 0], [50, 1, 1, 1005, 1002, 0, 6, 4, 2, 1, 0, 0, 1, 3, 1, 2, 4, 3, 2, 1, 5, 0, 1]), (101, [0, 13], [144]), (7, [13, 6], [5]), (7, [13, 13], [5]), (2, [13, 12, 11], []), (20, [12, 0, 5], [50, 1, 1, 1139, 1062, 1, 2, 1, 0, 3, 1, 62, 4, 7, 6, 2, 0, 24, 2, 1, 139, 1, 2]), (9, [6, 0], [144]), (1, [11, 9, 10], []), (7, [5, 8], [2]), (20, [8, 0], [30, 0, 1, 0, 0, -1, 3, 2005000]), (20, [8, 0], [30, 0, -1, 0, 0, 1, 3, 2005000]), (20, [0], [60, 1, 1, 197, 5, 2]), (20, [2, 0], [50, 1, 1, 1005, 1002, 0, 6, 4, 2, 1, 0, 0, 1, 3, 1, 2, 4, 3, 2, 1, 5, 0, 1]), (20, [0, 3, 4, 5], [60, 3, 2, 389, 144, 145, 139, 62, 63])], [], [], [(20, [0, 15, 21, 22], [60, 3, 2, 389, 144, 145, 139, 62, 63])], [], [(22, 5, 1, 1), (22, 8, -4294967296, 0), (4, 21, -4294967296, 0), (21, 19, 3, 3), (7, 18, 0, 4294967296), (18, 16, -3, -3), (3, 15, -4294967296, 0), (15, 11, -300000000, 300000000), (15, 9, -299999997, 300000003), (15, 14, 3, 11), (6, 13, 0, 4294967296), (13, 12, -11, -3), (11, 9, 3, 3), (5, 8, -4294967296, -1), (3, 5, -4294967296, 300000010), (4, 5, -4294967296, 300000002)])
theorem oo_Mo_route_3 {kA : Nat → ClassId} : or_ok PRD kA GG o_Mo_route_3 := by
  refine or_mk fun A ta ws vs hD hth hl => ?_
  intro t0 r0 t2 k2 t3 k3 t4 k4 t5 k5 t6 k6 t7 k7 t8 k8 t9 k9 t10 k10 t11 k11 t12 k12 t13 k13 t14 k14 t15 k15 t16 k16 t17 k17 t18 k18 t19 k19 t20 k20 t21 k21 t22 k22 d0 d1 d2 d3 d4 d5 d6 d7 d8 d9 d10 d11 d12 d13 d14 d15 f0 f1 f2 f3 f4 f5 f6 f7 f8 f9 f10 f11 ta1 w1 le1 s1 f13 f14 f15 f16 f17 f18 f19 f20 f21 f22 f23 f24 f25 f26 ta2 w2 le2 s2 f28 f29 f30 f31 f32 f33 f34 f35 f36 f37 f38 f39
  have s1 : (∀ b j, w_el ws b j = w_el w1 b j) ∧ ∀ b j, w_fd ws b j = if b = v_ad (n_v vs 0) ∧ j = 145 then n_v vs 18 else w_fd w1 b j := s1.2
  replace f17 := shm_1968 f17
  have s2 : (∀ b j, w_el w1 b j = w_el w2 b j) ∧ ∀ b j, w_fd w1 b j = if b = v_ad (n_v vs 0) ∧ j = 144 then n_v vs 13 else w_fd w2 b j := s2.2
  replace f32 := shm_1969 f32
  replace f39 := shm_1967 f39
  have ar_0_2_1 : w_ar w1 (n_v vs 0) 2 = w_ar ws (n_v vs 0) 2 := by show v_ad (w_fd w1 _ _) = v_ad (w_fd ws _ _); rw [s1.2, if_neg (fun e => absurd e.2 (by decide))]
  have ar_0_2_2 : w_ar w2 (n_v vs 0) 2 = w_ar ws (n_v vs 0) 2 := by rw [← ar_0_2_1]; show v_ad (w_fd w2 _ _) = v_ad (w_fd w1 _ _); rw [s2.2, if_neg (fun e => absurd e.2 (by decide))]
  have ar_0_62_1 : w_ar w1 (n_v vs 0) 62 = w_ar ws (n_v vs 0) 62 := by show v_ad (w_fd w1 _ _) = v_ad (w_fd ws _ _); rw [s1.2, if_neg (fun e => absurd e.2 (by decide))]
  have ar_0_62_2 : w_ar w2 (n_v vs 0) 62 = w_ar ws (n_v vs 0) 62 := by rw [← ar_0_62_1]; show v_ad (w_fd w2 _ _) = v_ad (w_fd w1 _ _); rw [s2.2, if_neg (fun e => absurd e.2 (by decide))]
  have ar_0_63_1 : w_ar w1 (n_v vs 0) 63 = w_ar ws (n_v vs 0) 63 := by show v_ad (w_fd w1 _ _) = v_ad (w_fd ws _ _); rw [s1.2, if_neg (fun e => absurd e.2 (by decide))]
  have ar_0_63_2 : w_ar w2 (n_v vs 0) 63 = w_ar ws (n_v vs 0) 63 := by rw [← ar_0_63_1]; show v_ad (w_fd w2 _ _) = v_ad (w_fd w1 _ _); rw [s2.2, if_neg (fun e => absurd e.2 (by decide))]
  have g17 : v_iv (n_v vs 7) = w_fi w1 (n_v vs 0) 145 := congrArg v_iv f17
  have g32 : v_iv (n_v vs 6) = w_fi w2 (n_v vs 0) 144 := congrArg v_iv f32
  simp only [ar_0_2_2, ar_0_62_2, ar_0_63_2] at f39
  have fe_0_5_1 : w_fi ws (n_v vs 0) 5 = w_fi w1 (n_v vs 0) 5 := by show v_iv (w_fd _ _ _) = v_iv (w_fd _ _ _); rw [s1.2, if_neg (fun e => absurd e.2 (by decide))]
  have fe_0_139_1 : w_fi ws (n_v vs 0) 139 = w_fi w1 (n_v vs 0) 139 := by show v_iv (w_fd _ _ _) = v_iv (w_fd _ _ _); rw [s1.2, if_neg (fun e => absurd e.2 (by decide))]
  have fe_0_144_1 : w_fi ws (n_v vs 0) 144 = w_fi w1 (n_v vs 0) 144 := by show v_iv (w_fd _ _ _) = v_iv (w_fd _ _ _); rw [s1.2, if_neg (fun e => absurd e.2 (by decide))]
  have fe_0_145_1 : w_fi ws (n_v vs 0) 145 = v_iv (n_v vs 18) := by show v_iv (w_fd _ _ _) = _; rw [s1.2, if_pos ⟨rfl, rfl⟩]
  have fe_0_5_2 : w_fi w1 (n_v vs 0) 5 = w_fi w2 (n_v vs 0) 5 := by show v_iv (w_fd _ _ _) = v_iv (w_fd _ _ _); rw [s2.2, if_neg (fun e => absurd e.2 (by decide))]
  have fe_0_139_2 : w_fi w1 (n_v vs 0) 139 = w_fi w2 (n_v vs 0) 139 := by show v_iv (w_fd _ _ _) = v_iv (w_fd _ _ _); rw [s2.2, if_neg (fun e => absurd e.2 (by decide))]
  have fe_0_144_2 : w_fi w1 (n_v vs 0) 144 = v_iv (n_v vs 13) := by show v_iv (w_fd _ _ _) = _; rw [s2.2, if_pos ⟨rfl, rfl⟩]
  have fe_0_145_2 : w_fi w1 (n_v vs 0) 145 = w_fi w2 (n_v vs 0) 145 := by show v_iv (w_fd _ _ _) = v_iv (w_fd _ _ _); rw [s2.2, if_neg (fun e => absurd e.2 (by decide))]
  have hE_0_2_1 : ∀ j : Int, w_ei ws (w_ar ws (n_v vs 0) 2) j = w_ei w1 (w_ar ws (n_v vs 0) 2) j := fun j => s1.1 _ _
  have hE_0_2_2 : ∀ j : Int, w_ei w1 (w_ar ws (n_v vs 0) 2) j = w_ei w2 (w_ar ws (n_v vs 0) 2) j := fun j => s2.1 _ _
  have hE_0_62_1 : ∀ j : Int, w_ei ws (w_ar ws (n_v vs 0) 62) j = w_ei w1 (w_ar ws (n_v vs 0) 62) j := fun j => s1.1 _ _
  have hE_0_62_2 : ∀ j : Int, w_ei w1 (w_ar ws (n_v vs 0) 62) j = w_ei w2 (w_ar ws (n_v vs 0) 62) j := fun j => s2.1 _ _
  have hE_0_63_1 : ∀ j : Int, w_ei ws (w_ar ws (n_v vs 0) 63) j = w_ei w1 (w_ar ws (n_v vs 0) 63) j := fun j => s1.1 _ _
  have hE_0_63_2 : ∀ j : Int, w_ei w1 (w_ar ws (n_v vs 0) 63) j = w_ei w2 (w_ar ws (n_v vs 0) 63) j := fun j => s2.1 _ _
  have kz_0_139 := fdq_171 hD hth r0
  have kz_0_144 := fdq_316 hD hth r0
  have kz_0_145 := fdq_317 hD hth r0
  have nf0 : fc_1 PRD (20, [0, 15, 21, 22], [60, 3, 2, 389, 144, 145, 139, 62, 63]) ws (vs) := ⟨nf_in hl rfl, sgq_1967 (vc_Mo_route_3_0 (v_iv (n_v vs 3)) (v_iv (n_v vs 4)) (v_iv (n_v vs 5)) (v_iv (n_v vs 6)) (v_iv (n_v vs 7)) (v_iv (n_v vs 11)) (v_iv (n_v vs 12)) (v_iv (n_v vs 13)) (v_iv (n_v vs 14)) (v_iv (n_v vs 15)) (v_iv (n_v vs 16)) (v_iv (n_v vs 18)) (v_iv (n_v vs 19)) (v_iv (n_v vs 21)) (v_iv (n_v vs 22)) (w_ei ws (w_ar ws (n_v vs 0) 63)) (w_fi ws (n_v vs 0) 139) (w_ei ws (w_ar ws (n_v vs 0) 62)) (w_ei ws (w_ar ws (n_v vs 0) 2)) (w_fi ws (n_v vs 0) 5) (w_ei w1 (w_ar ws (n_v vs 0) 63)) (w_fi w1 (n_v vs 0) 139) (w_fi w1 (n_v vs 0) 145) (w_ei w1 (w_ar ws (n_v vs 0) 62)) (w_ei w1 (w_ar ws (n_v vs 0) 2)) (w_fi w1 (n_v vs 0) 5) (w_ei w2 (w_ar ws (n_v vs 0) 62)) (w_fi w2 (n_v vs 0) 139) (w_fi w2 (n_v vs 0) 144) (w_ei w2 (w_ar ws (n_v vs 0) 2)) (w_fi w2 (n_v vs 0) 5) (w_ei w2 (w_ar ws (n_v vs 0) 63)) (w_fi w2 (n_v vs 0) 145) (w_fi ws (n_v vs 0) 144) (w_fi w1 (n_v vs 0) 144) (w_fi ws (n_v vs 0) 145) k3 k4 k5 k6 k7 k11 k12 k13 k14 k15 k16 k18 k19 k21 k22 d3 d4 d5 d9 d10 (shm_4 f0) (shm_24 f1) (shm_687 f4) (shm_687 f5) (shm_685 f6) (shm_685 f7) g17 (shm_24 f18) (shm_12 f20) (shm_14 f30) g32 f39 fe_0_5_1 fe_0_139_1 fe_0_144_1 fe_0_145_1 fe_0_5_2 fe_0_139_2 fe_0_144_2 fe_0_145_2 hE_0_2_1 hE_0_2_2 hE_0_62_1 hE_0_62_2 hE_0_63_1 hE_0_63_2 kz_0_139 kz_0_144 kz_0_145)⟩
  refine ⟨(fun _ h => (by cases h)), [], trivial, ?_, (fun _ h => (by cases h))⟩
  rw [List.append_nil]
  exact List.forall_mem_cons.mpr ⟨⟨show (20 : Nat) < 100 from by decide, nf0⟩, (fun _ h => (by cases h))⟩
set_option maxHeartbeats 4000000 in
theorem vc_Mo_route_4_0 (x3 : Int) (x4 : Int) (x5 : Int) (x6 : Int) (x7 : Int) (x11 : Int) (x12 : Int) (x13 : Int) (x14 : Int) (x15 : Int) (x16 : Int) (x18 : Int) (x19 : Int) (x21 : Int) (x22 : Int) (nodeY_0 : Int → Int) (g0_0 : Int) (nodeX_0 : Int → Int) (all_0 : Int → Int) (r_0 : Int) (nodeY_1 : Int → Int) (g0_1 : Int) (top0_1 : Int) (nodeX_1 : Int → Int) (all_1 : Int → Int) (r_1 : Int) (nodeX_2 : Int → Int) (g0_2 : Int) (left0_2 : Int) (all_2 : Int → Int) (r_2 : Int) (nodeY_2 : Int → Int) (top0_2 : Int) (left0_0 : Int) (left0_1 : Int) (top0_0 : Int) (k3 : (-2000000) ≤ x3 ∧ x3 ≤ 300000011) (k4 : (-2000000) ≤ x4 ∧ x4 ≤ 300000003) (k5 : 0 ≤ x5 ∧ x5 ≤ 23) (k6 : (-300000011) ≤ x6 ∧ x6 ≤ 2000000) (k7 : (-300000003) ≤ x7 ∧ x7 ≤ 2000000) (k11 : 3 ≤ x11 ∧ x11 ≤ 11) (k12 : (-300000000) ≤ x12 ∧ x12 ≤ 300000000) (k13 : (-300000011) ≤ x13 ∧ x13 ≤ 2000000) (k14 : (-300000000) ≤ x14 ∧ x14 ≤ 300000000) (k15 : (-2000000) ≤ x15 ∧ x15 ≤ 300000011) (k16 : (-300000000) ≤ x16 ∧ x16 ≤ 300000000) (k18 : (-300000003) ≤ x18 ∧ x18 ≤ 2000000) (k19 : (-300000000) ≤ x19 ∧ x19 ≤ 300000000) (k21 : (-299999997) ≤ x21 ∧ x21 ≤ 300000002) (k22 : 1 ≤ x22 ∧ x22 ≤ 24) (d2 : x21 + 1 ≤ x4 ∧ x4 ≤ x21 + 4294967296) (d3 : x19 + 3 ≤ x21 ∧ x21 ≤ x19 + 3) (d4 : x18 + 0 ≤ x7 ∧ x7 ≤ x18 + 4294967296) (d5 : x16 + (-3) ≤ x18 ∧ x18 ≤ x16 + (-3)) (d9 : x14 + 3 ≤ x15 ∧ x15 ≤ x14 + 11) (d10 : x13 + 0 ≤ x6 ∧ x6 ≤ x13 + 4294967296) (f0 : x22 = x5 + 1) (f1 : x4 ≤ x4) (f4 : x19 = nodeY_0 (((24 * g0_0) + x5))) (f5 : x16 = nodeY_0 (((24 * g0_0) + x5))) (f6 : x14 = nodeX_0 (((24 * g0_0) + x5))) (f7 : x12 = nodeX_0 (((24 * g0_0) + x5))) (g17 : x7 = top0_1) (f18 : x3 ≤ x15) (f20 : x15 = x14 + x11) (f30 : x13 = x12 - x11) (g32 : x6 = left0_2) (f39 : RTB (left0_2) (top0_2) (g0_2) (nodeX_2) (nodeY_2) (x3) (x4) (x5)) (fe_0_5_1 : r_0 = r_1) (fe_0_139_1 : g0_0 = g0_1) (fe_0_144_1 : left0_0 = left0_1) (fe_0_145_1 : top0_0 = x18) (fe_0_5_2 : r_1 = r_2) (fe_0_139_2 : g0_1 = g0_2) (fe_0_144_2 : left0_1 = x13) (fe_0_145_2 : top0_1 = top0_2) (hE_0_2_1 : ∀ j : Int, all_0 j = all_1 j) (hE_0_2_2 : ∀ j : Int, all_1 j = all_2 j) (hE_0_62_1 : ∀ j : Int, nodeX_0 j = nodeX_1 j) (hE_0_62_2 : ∀ j : Int, nodeX_1 j = nodeX_2 j) (hE_0_63_1 : ∀ j : Int, nodeY_0 j = nodeY_1 j) (hE_0_63_2 : ∀ j : Int, nodeY_1 j = nodeY_2 j) (kz_0_139 : 0 ≤ g0_0 ∧ g0_0 ≤ 3) (kz_0_144 : (-300000011) ≤ left0_0 ∧ left0_0 ≤ 2000000) (kz_0_145 : (-300000003) ≤ top0_0 ∧ top0_0 ≤ 2000000) : RTB (left0_0) (top0_0) (g0_0) (nodeX_0) (nodeY_0) (x15) (x4) (x22) := by
  subst fe_0_5_1
  subst fe_0_139_1
  subst fe_0_144_1
  subst fe_0_5_2
  subst fe_0_139_2
  subst fe_0_145_2
  have e_hE_0_2_1 := funext hE_0_2_1; subst e_hE_0_2_1
  have e_hE_0_2_2 := funext hE_0_2_2; subst e_hE_0_2_2
  have e_hE_0_62_1 := funext hE_0_62_1; subst e_hE_0_62_1
  have e_hE_0_62_2 := funext hE_0_62_2; subst e_hE_0_62_2
  have e_hE_0_63_1 := funext hE_0_63_1; subst e_hE_0_63_1
  have e_hE_0_63_2 := funext hE_0_63_2; subst e_hE_0_63_2
  first
    | (intro v a b; exfalso; omega)
    | exact rtb_step (w := x11) (x := nodeX_0 (24 * g0_0 + x5)) (y := nodeY_0 (24 * g0_0 + x5)) ‹RTB _ _ _ _ _ _ _ _› (by omega) (by omega) rfl rfl (by omega) (by omega) (by omega) (by omega) (by omega) (by omega) (by omega) (by omega)
  
def o_Mo_route_4 : or_T := (50, 23, [(0, (2, 0, 0, [165])), (2, (0, 0, 47, [])), (3, (0, -2000000, 300000011, [])), (4, (0, -2000000, 300000003, [])), (5, (0, 0, 23, [])), (6, (0, -300000011, 2000000, [])), (7, (0, -300000003, 2000000, [])), (8, (0, 1, 24, [])), (9, (0, 0, 8, [])), (10, (0, 3, 3, [])), (11, (0, 3, 11, [])), (12, (0, -300000000, 300000000, [])), (13, (0, -300000011, 2000000, [])), (14, (0, -300000000, 300000000, [])), (15, (0, -2000000, 300000011, [])), (16, (0, -300000000, 300000000, [])), (17, (0, 3, 3, [])), (18, (0, -300000003, 2000000, [])), (19, (0, -300000000, 300000000, [])), (20, (0, 3, 3, [])), (21, (0, -299999997, 300000002, [])), (22, (0, 1, 24, []))], [(6, [22, 5], [1]), (7, [4, 4], [5]), (7, [21, 4], [5]), (1, [21, 19, 20], []), (20, [19, 0, 5], [50, 1, 1, 1139, 1063, 1, 2, 1, 0, 3, 1, 63, 4, 7, 6, 2, 0, 24, 2, 1, 139, 1, 2]), (20, [16, 0, 5], [50, 1, 1, 1139, 1063, 1, 2, 1, 0, 3, 1, 63, 4, 7, 6, 2, 0, 24, 2, 1, 139, 1, 2]), (20, [14, 0, 5], [50, 1, 1, 1139, 1062, 1, 2, 1, 0, 3, 1, 62, 4, 7, 6, 2, 0, 24, 2, 1, 139, 1, 2]), (20, [12, 0, 5], [50, 1, 1, 1139, 1062, 1, 2, 1, 0, 3, 1, 62, 4, 7, 6, 2, 0, 24, 2, 1, 139, 1, 2]), (20, [8, 0], [30, 0, 1, 0, 0, -1, 3, 2005000]), (20, [8, 0], [30, 0, -1, 0, 0, 1, 3, 2005000]), (20, [0], [60, 1, 1, 197, 5, 2]), (20, [2, 0], [50, 1, 1, 1005, 1002, 0, 6, 4, 2, 1, 0, 0, 1, 3, 1, 2, 4, 3, 2, 1, 5, 0, 1]), (101, [0, 18], [145]), (7, [18, 7], [5]), (7, [18, 18], [5]), (2, [18, 16, 17], []), (20, [16, 0, 5], [50, 1, 1, 1139, 1063, 1, 2, 1, 0, 3, 1, 63, 4, 7, 6, 2, 0, 24, 2, 1, 139, 1, 2]), (9, [7, 0], [145]), (7, [3, 15], [5]), (7, [15, 15], [5]), (1, [15, 14, 11], []), (20, [14, 0, 5], [50, 1, 1, 1139, 1062, 1, 2, 1, 0, 3, 1, 62, 4, 7, 6, 2, 0, 24, 2, 1, 139, 1, 2]), (20, [12, 0, 5], [50, 1, 1, 1139, 1062, 1, 2, 1, 0, 3, 1, 62, 4, 7, 6, 2, 0, 24, 2, 1, 139, 1, 2]), (20, [8, 0], [30, 0, 1, 0, 0, -1, 3, 2005000]), (20, [8, 0], [30, 0, -1, 0, 0, 1, 3, 2005000]), (20, [0], [60, 1, 1, 197, 5, 2]), (20, [2, 0], [50, 1, 1, 1005, 1002, 0, 6, 4, 2, 1, 0, 0, 1, 3, 1, 2, 4, 3, 2, 1, 5, 0, 1]), (101, [0, 13], [144]), (7, [13, 6], [5]), (7, [13, 13], [5]), (2, [13, 12, 11], []), (20, [12, 0, 5], [50, 1, 1, 1139, 1062, 1, 2, 1, 0, 3, 1, 62, 4, 7, 6, 2, 0, 24, 2, 1, 139, 1, 2]), (9, [6, 0], [144]), (1, [11, 9, 10], []), (7, [5, 8], [2]), (20, [8, 0], [30, 0, 1, 0, 0, -1, 3, 2005000]), (20, [8, 0], [30, 0, -1, 0, 0, 1, 3, 2005000]), (20, [0], [60, 1, 1, 197, 5, 2]), (20, [2, 0], [50, 1, 1, 1005, 1002, 0, 6, 4, 2, 1, 0, 0, 1, 3, 1, 2, 4, 3, 2, 1, 5, 0, 1]), (20, [0, 3, 4, 5], [60, 3, 2, 389, 144, 145, 139, 62, 63])], [], [], [(20, [0, 15, 4, 22], [60, 3, 2, 389, 144, 145, 139, 62, 63])], [], [(22, 5, 1, 1), (22, 8, -4294967296, 0), (4, 21, 1, 4294967296), (21, 19, 3, 3), (7, 18, 0, 4294967296), (18, 16, -3, -3), (3, 15, -4294967296, 0), (15, 11, -300000000, 300000000), (15, 9, -299999997, 300000003), (15, 14, 3, 11), (6, 13, 0, 4294967296), (13, 12, -11, -3), (11, 9, 3, 3), (5, 8, -4294967296, -1), (3, 5, -4294967296, 300000010), (4, 5, -4294967296, 300000002)])
theorem oo_Mo_route_4 {kA : Nat → ClassId} : or_ok PRD kA GG o_Mo_route_4 := by
  refine or_mk fun A ta ws vs hD hth hl => ?_
  intro t0 r0 t2 k2 t3 k3 t4 k4 t5 k5 t6 k6 t7 k7 t8 k8 t9 k9 t10 k10 t11 k11 t12 k12 t13 k13 t14 k14 t15 k15 t16 k16 t17 k17 t18 k18 t19 k19 t20 k20 t21 k21 t22 k22 d0 d1 d2 d3 d4 d5 d6 d7 d8 d9 d10 d11 d12 d13 d14 d15 f0 f1 f2 f3 f4 f5 f6 f7 f8 f9 f10 f11 ta1 w1 le1 s1 f13 f14 f15 f16 f17 f18 f19 f20 f21 f22 f23 f24 f25 f26 ta2 w2 le2 s2 f28 f29 f30 f31 f32 f33 f34 f35 f36 f37 f38 f39
  have s1 : (∀ b j, w_el ws b j = w_el w1 b j) ∧ ∀ b j, w_fd ws b j = if b = v_ad (n_v vs 0) ∧ j = 145 then n_v vs 18 else w_fd w1 b j := s1.2
  replace f17 := shm_1968 f17
  have s2 : (∀ b j, w_el w1 b j = w_el w2 b j) ∧ ∀ b j, w_fd w1 b j = if b = v_ad (n_v vs 0) ∧ j = 144 then n_v vs 13 else w_fd w2 b j := s2.2
  replace f32 := shm_1969 f32
  replace f39 := shm_1967 f39
  have ar_0_2_1 : w_ar w1 (n_v vs 0) 2 = w_ar ws (n_v vs 0) 2 := by show v_ad (w_fd w1 _ _) = v_ad (w_fd ws _ _); rw [s1.2, if_neg (fun e => absurd e.2 (by decide))]
  have ar_0_2_2 : w_ar w2 (n_v vs 0) 2 = w_ar ws (n_v vs 0) 2 := by rw [← ar_0_2_1]; show v_ad (w_fd w2 _ _) = v_ad (w_fd w1 _ _); rw [s2.2, if_neg (fun e => absurd e.2 (by decide))]
  have ar_0_62_1 : w_ar w1 (n_v vs 0) 62 = w_ar ws (n_v vs 0) 62 := by show v_ad (w_fd w1 _ _) = v_ad (w_fd ws _ _); rw [s1.2, if_neg (fun e => absurd e.2 (by decide))]
  have ar_0_62_2 : w_ar w2 (n_v vs 0) 62 = w_ar ws (n_v vs 0) 62 := by rw [← ar_0_62_1]; show v_ad (w_fd w2 _ _) = v_ad (w_fd w1 _ _); rw [s2.2, if_neg (fun e => absurd e.2 (by decide))]
  have ar_0_63_1 : w_ar w1 (n_v vs 0) 63 = w_ar ws (n_v vs 0) 63 := by show v_ad (w_fd w1 _ _) = v_ad (w_fd ws _ _); rw [s1.2, if_neg (fun e => absurd e.2 (by decide))]
  have ar_0_63_2 : w_ar w2 (n_v vs 0) 63 = w_ar ws (n_v vs 0) 63 := by rw [← ar_0_63_1]; show v_ad (w_fd w2 _ _) = v_ad (w_fd w1 _ _); rw [s2.2, if_neg (fun e => absurd e.2 (by decide))]
  have g17 : v_iv (n_v vs 7) = w_fi w1 (n_v vs 0) 145 := congrArg v_iv f17
  have g32 : v_iv (n_v vs 6) = w_fi w2 (n_v vs 0) 144 := congrArg v_iv f32
  simp only [ar_0_2_2, ar_0_62_2, ar_0_63_2] at f39
  have fe_0_5_1 : w_fi ws (n_v vs 0) 5 = w_fi w1 (n_v vs 0) 5 := by show v_iv (w_fd _ _ _) = v_iv (w_fd _ _ _); rw [s1.2, if_neg (fun e => absurd e.2 (by decide))]
  have fe_0_139_1 : w_fi ws (n_v vs 0) 139 = w_fi w1 (n_v vs 0) 139 := by show v_iv (w_fd _ _ _) = v_iv (w_fd _ _ _); rw [s1.2, if_neg (fun e => absurd e.2 (by decide))]
  have fe_0_144_1 : w_fi ws (n_v vs 0) 144 = w_fi w1 (n_v vs 0) 144 := by show v_iv (w_fd _ _ _) = v_iv (w_fd _ _ _); rw [s1.2, if_neg (fun e => absurd e.2 (by decide))]
  have fe_0_145_1 : w_fi ws (n_v vs 0) 145 = v_iv (n_v vs 18) := by show v_iv (w_fd _ _ _) = _; rw [s1.2, if_pos ⟨rfl, rfl⟩]
  have fe_0_5_2 : w_fi w1 (n_v vs 0) 5 = w_fi w2 (n_v vs 0) 5 := by show v_iv (w_fd _ _ _) = v_iv (w_fd _ _ _); rw [s2.2, if_neg (fun e => absurd e.2 (by decide))]
  have fe_0_139_2 : w_fi w1 (n_v vs 0) 139 = w_fi w2 (n_v vs 0) 139 := by show v_iv (w_fd _ _ _) = v_iv (w_fd _ _ _); rw [s2.2, if_neg (fun e => absurd e.2 (by decide))]
  have fe_0_144_2 : w_fi w1 (n_v vs 0) 144 = v_iv (n_v vs 13) := by show v_iv (w_fd _ _ _) = _; rw [s2.2, if_pos ⟨rfl, rfl⟩]
  have fe_0_145_2 : w_fi w1 (n_v vs 0) 145 = w_fi w2 (n_v vs 0) 145 := by show v_iv (w_fd _ _ _) = v_iv (w_fd _ _ _); rw [s2.2, if_neg (fun e => absurd e.2 (by decide))]
  have hE_0_2_1 : ∀ j : Int, w_ei ws (w_ar ws (n_v vs 0) 2) j = w_ei w1 (w_ar ws (n_v vs 0) 2) j := fun j => s1.1 _ _
  have hE_0_2_2 : ∀ j : Int, w_ei w1 (w_ar ws (n_v vs 0) 2) j = w_ei w2 (w_ar ws (n_v vs 0) 2) j := fun j => s2.1 _ _
  have hE_0_62_1 : ∀ j : Int, w_ei ws (w_ar ws (n_v vs 0) 62) j = w_ei w1 (w_ar ws (n_v vs 0) 62) j := fun j => s1.1 _ _
  have hE_0_62_2 : ∀ j : Int, w_ei w1 (w_ar ws (n_v vs 0) 62) j = w_ei w2 (w_ar ws (n_v vs 0) 62) j := fun j => s2.1 _ _
  have hE_0_63_1 : ∀ j : Int, w_ei ws (w_ar ws (n_v vs 0) 63) j = w_ei w1 (w_ar ws (n_v vs 0) 63) j := fun j => s1.1 _ _
  have hE_0_63_2 : ∀ j : Int, w_ei w1 (w_ar ws (n_v vs 0) 63) j = w_ei w2 (w_ar ws (n_v vs 0) 63) j := fun j => s2.1 _ _
  have kz_0_139 := fdq_171 hD hth r0
  have kz_0_144 := fdq_316 hD hth r0
  have kz_0_145 := fdq_317 hD hth r0
  have nf0 : fc_1 PRD (20, [0, 15, 4, 22], [60, 3, 2, 389, 144, 145, 139, 62, 63]) ws (vs) := ⟨nf_in hl rfl, sgq_1967 (vc_Mo_route_4_0 (v_iv (n_v vs 3)) (v_iv (n_v vs 4)) (v_iv (n_v vs 5)) (v_iv (n_v vs 6)) (v_iv (n_v vs 7)) (v_iv (n_v vs 11)) (v_iv (n_v vs 12)) (v_iv (n_v vs 13)) (v_iv (n_v vs 14)) (v_iv (n_v vs 15)) (v_iv (n_v vs 16)) (v_iv (n_v vs 18)) (v_iv (n_v vs 19)) (v_iv (n_v vs 21)) (v_iv (n_v vs 22)) (w_ei ws (w_ar ws (n_v vs 0) 63)) (w_fi ws (n_v vs 0) 139) (w_ei ws (w_ar ws (n_v vs 0) 62)) (w_ei ws (w_ar ws (n_v vs 0) 2)) (w_fi ws (n_v vs 0) 5) (w_ei w1 (w_ar ws (n_v vs 0) 63)) (w_fi w1 (n_v vs 0) 139) (w_fi w1 (n_v vs 0) 145) (w_ei w1 (w_ar ws (n_v vs 0) 62)) (w_ei w1 (w_ar ws (n_v vs 0) 2)) (w_fi w1 (n_v vs 0) 5) (w_ei w2 (w_ar ws (n_v vs 0) 62)) (w_fi w2 (n_v vs 0) 139) (w_fi w2 (n_v vs 0) 144) (w_ei w2 (w_ar ws (n_v vs 0) 2)) (w_fi w2 (n_v vs 0) 5) (w_ei w2 (w_ar ws (n_v vs 0) 63)) (w_fi w2 (n_v vs 0) 145) (w_fi ws (n_v vs 0) 144) (w_fi w1 (n_v vs 0) 144) (w_fi ws (n_v vs 0) 145) k3 k4 k5 k6 k7 k11 k12 k13 k14 k15 k16 k18 k19 k21 k22 d2 d3 d4 d5 d9 d10 (shm_4 f0) (shm_134 f1) (shm_687 f4) (shm_687 f5) (shm_685 f6) (shm_685 f7) g17 (shm_24 f18) (shm_12 f20) (shm_14 f30) g32 f39 fe_0_5_1 fe_0_139_1 fe_0_144_1 fe_0_145_1 fe_0_5_2 fe_0_139_2 fe_0_144_2 fe_0_145_2 hE_0_2_1 hE_0_2_2 hE_0_62_1 hE_0_62_2 hE_0_63_1 hE_0_63_2 kz_0_139 kz_0_144 kz_0_145)⟩
  refine ⟨(fun _ h => (by cases h)), [], trivial, ?_, (fun _ h => (by cases h))⟩
  rw [List.append_nil]
  exact List.forall_mem_cons.mpr ⟨⟨show (20 : Nat) < 100 from by decide, nf0⟩, (fun _ h => (by cases h))⟩
set_option maxHeartbeats 4000000 in
theorem vc_Mo_route_5_0 (x3 : Int) (x4 : Int) (x5 : Int) (x6 : Int) (x7 : Int) (x11 : Int) (x12 : Int) (x13 : Int) (x14 : Int) (x15 : Int) (x16 : Int) (x18 : Int) (x19 : Int) (x21 : Int) (x22 : Int) (nodeY_0 : Int → Int) (g0_0 : Int) (nodeX_0 : Int → Int) (all_0 : Int → Int) (r_0 : Int) (nodeY_1 : Int → Int) (g0_1 : Int) (top0_1 : Int) (nodeX_1 : Int → Int) (all_1 : Int → Int) (r_1 : Int) (nodeX_2 : Int → Int) (g0_2 : Int) (left0_2 : Int) (all_2 : Int → Int) (r_2 : Int) (nodeY_2 : Int → Int) (top0_2 : Int) (left0_0 : Int) (left0_1 : Int) (top0_0 : Int) (k3 : (-2000000) ≤ x3 ∧ x3 ≤ 300000011) (k4 : (-2000000) ≤ x4 ∧ x4 ≤ 300000003) (k5 : 0 ≤ x5 ∧ x5 ≤ 23) (k6 : (-300000011) ≤ x6 ∧ x6 ≤ 2000000) (k7 : (-300000003) ≤ x7 ∧ x7 ≤ 2000000) (k11 : 3 ≤ x11 ∧ x11 ≤ 11) (k12 : (-300000000) ≤ x12 ∧ x12 ≤ 300000000) (k13 : (-300000011) ≤ x13 ∧ x13 ≤ 2000000) (k14 : (-300000000) ≤ x14 ∧ x14 ≤ 300000000) (k15 : (-2000000) ≤ x15 ∧ x15 ≤ 300000011) (k16 : (-300000000) ≤ x16 ∧ x16 ≤ 300000000) (k18 : (-300000002) ≤ x18 ∧ x18 ≤ 299999997) (k19 : (-300000000) ≤ x19 ∧ x19 ≤ 300000000) (k21 : (-2000000) ≤ x21 ∧ x21 ≤ 300000003) (k22 : 1 ≤ x22 ∧ x22 ≤ 24) (d3 : x19 + 3 ≤ x21 ∧ x21 ≤ x19 + 3) (d4 : x18 + (-4294967296) ≤ x7 ∧ x7 ≤ x18 + (-1)) (d5 : x16 + (-3) ≤ x18 ∧ x18 ≤ x16 + (-3)) (d9 : x14 + 3 ≤ x15 ∧ x15 ≤ x14 + 11) (d10 : x13 + 0 ≤ x6 ∧ x6 ≤ x13 + 4294967296) (f0 : x22 = x5 + 1) (f1 : x4 ≤ x21) (f4 : x19 = nodeY_0 (((24 * g0_0) + x5))) (f5 : x16 = nodeY_0 (((24 * g0_0) + x5))) (f6 : x14 = nodeX_0 (((24 * g0_0) + x5))) (f7 : x12 = nodeX_0 (((24 * g0_0) + x5))) (g17 : x7 = top0_1) (f18 : x3 ≤ x15) (f20 : x15 = x14 + x11) (f30 : x13 = x12 - x11) (g32 : x6 = left0_2) (f39 : RTB (left0_2) (top0_2) (g0_2) (nodeX_2) (nodeY_2) (x3) (x4) (x5)) (fe_0_5_1 : r_0 = r_1) (fe_0_139_1 : g0_0 = g0_1) (fe_0_144_1 : left0_0 = left0_1) (fe_0_145_1 : top0_0 = x7) (fe_0_5_2 : r_1 = r_2) (fe_0_139_2 : g0_1 = g0_2) (fe_0_144_2 : left0_1 = x13) (fe_0_145_2 : top0_1 = top0_2) (hE_0_2_1 : ∀ j : Int, all_0 j = all_1 j) (hE_0_2_2 : ∀ j : Int, all_1 j = all_2 j) (hE_0_62_1 : ∀ j : Int, nodeX_0 j = nodeX_1 j) (hE_0_62_2 : ∀ j : Int, nodeX_1 j = nodeX_2 j) (hE_0_63_1 : ∀ j : Int, nodeY_0 j = nodeY_1 j) (hE_0_63_2 : ∀ j : Int, nodeY_1 j = nodeY_2 j) (kz_0_139 : 0 ≤ g0_0 ∧ g0_0 ≤ 3) (kz_0_144 : (-300000011) ≤ left0_0 ∧ left0_0 ≤ 2000000) (kz_0_145 : (-300000003) ≤ top0_0 ∧ top0_0 ≤ 2000000) : RTB (left0_0) (top0_0) (g0_0) (nodeX_0) (nodeY_0) (x15) (x21) (x22) := by
  subst fe_0_5_1
  subst fe_0_139_1
  subst fe_0_144_1
  subst fe_0_5_2
  subst fe_0_139_2
  subst fe_0_145_2
  have e_hE_0_2_1 := funext hE_0_2_1; subst e_hE_0_2_1
  have e_hE_0_2_2 := funext hE_0_2_2; subst e_hE_0_2_2
  have e_hE_0_62_1 := funext hE_0_62_1; subst e_hE_0_62_1
  have e_hE_0_62_2 := funext hE_0_62_2; subst e_hE_0_62_2
  have e_hE_0_63_1 := funext hE_0_63_1; subst e_hE_0_63_1
  have e_hE_0_63_2 := funext hE_0_63_2; subst e_hE_0_63_2
  first
    | (intro v a b; exfalso; omega)
    | exact rtb_step (w := x11) (x := nodeX_0 (24 * g0_0 + x5)) (y := nodeY_0 (24 * g0_0 + x5)) ‹RTB _ _ _ _ _ _ _ _› (by omega) (by omega) rfl rfl (by omega) (by omega) (by omega) (by omega) (by omega) (by omega) (by omega) (by omega)
  
def o_Mo_route_5 : or_T := (50, 23, [(0, (2, 0, 0, [165])), (2, (0, 0, 47, [])), (3, (0, -2000000, 300000011, [])), (4, (0, -2000000, 300000003, [])), (5, (0, 0, 23, [])), (6, (0, -300000011, 2000000, [])), (7, (0, -300000003, 2000000, [])), (8, (0, 1, 24, [])), (9, (0, 0, 8, [])), (10, (0, 3, 3, [])), (11, (0, 3, 11, [])), (12, (0, -300000000, 300000000, [])), (13, (0, -300000011, 2000000, [])), (14, (0, -300000000, 300000000, [])), (15, (0, -2000000, 300000011, [])), (16, (0, -300000000, 300000000, [])), (17, (0, 3, 3, [])), (18, (0, -300000002, 299999997, [])), (19, (0, -300000000, 300000000, [])), (20, (0, 3, 3, [])), (21, (0, -2000000, 300000003, [])), (22, (0, 1, 24, []))], [(6, [22, 5], [1]), (7, [4, 21], [5]), (7, [21, 21], [5]), (1, [21, 19, 20], []), (20, [19, 0, 5], [50, 1, 1, 1139, 1063, 1, 2, 1, 0, 3, 1, 63, 4, 7, 6, 2, 0, 24, 2, 1, 139, 1, 2]), (20, [16, 0, 5], [50, 1, 1, 1139, 1063, 1, 2, 1, 0, 3, 1, 63, 4, 7, 6, 2, 0, 24, 2, 1, 139, 1, 2]), (20, [14, 0, 5], [50, 1, 1, 1139, 1062, 1, 2, 1, 0, 3, 1, 62, 4, 7, 6, 2, 0, 24, 2, 1, 139, 1, 2]), (20, [12, 0, 5], [50, 1, 1, 1139, 1062, 1, 2, 1, 0, 3, 1, 62, 4, 7, 6, 2, 0, 24, 2, 1, 139, 1, 2]), (20, [8, 0], [30, 0, 1, 0, 0, -1, 3, 2005000]), (20, [8, 0], [30, 0, -1, 0, 0, 1, 3, 2005000]), (20, [0], [60, 1, 1, 197, 5, 2]), (20, [2, 0], [50, 1, 1, 1005, 1002, 0, 6, 4, 2, 1, 0, 0, 1, 3, 1, 2, 4, 3, 2, 1, 5, 0, 1]), (101, [0, 7], [145]), (7, [7, 7], [5]), (7, [7, 18], [5]), (2, [18, 16, 17], []), (20, [16, 0, 5], [50, 1, 1, 1139, 1063, 1, 2, 1, 0, 3, 1, 63, 4, 7, 6, 2, 0, 24, 2, 1, 139, 1, 2]), (9, [7, 0], [145]), (7, [3, 15], [5]), (7, [15, 15], [5]), (1, [15, 14, 11], []), (20, [14, 0, 5], [50, 1, 1, 1139, 1062, 1, 2, 1, 0, 3, 1, 62, 4, 7, 6, 2, 0, 24, 2, 1, 139, 1, 2]), (20, [12, 0, 5], [50, 1, 1, 1139, 1062, 1, 2, 1, 0, 3, 1, 62, 4, 7, 6, 2, 0, 24, 2, 1, 139, 1, 2]), (20, [8, 0], [30, 0, 1, 0, 0, -1, 3, 2005000]), (20, [8, 0], [30, 0, -1, 0, 0, 1, 3, 2005000]), (20, [0], [60, 1, 1, 197, 5, 2]), (20, [2, 0], [50, 1, 1, 1005, 1002, 0, 6, 4, 2, 1, 0, 0, 1, 3, 1, 2, 4, 3, 2, 1, 5, 0, 1]), (101, [0, 13], [144]), (7, [13, 6], [5]), (7, [13, 13], [5]), (2, [13, 12, 11], []), (20, [12, 0, 5], [50, 1, 1, 1139, 1062, 1, 2, 1, 0, 3, 1, 62, 4, 7, 6, 2, 0, 24, 2, 1, 139, 1, 2]), (9, [6, 0], [144]), (1, [11, 9, 10], []), (7, [5, 8], [2]), (20, [8, 0], [30, 0, 1, 0, 0, -1, 3, 2005000]), (20, [8, 0], [30, 0, -1, 0, 0, 1, 3, 2005000]), (20, [0], [60, 1, 1, 197, 5, 2]), (20, [2, 0], [50, 1, 1, 1005, 1002, 0, 6, 4, 2, 1, 0, 0, 1, 3, 1, 2, 4, 3, 2, 1, 5, 0, 1]), (20, [0, 3, 4, 5], [60, 3, 2, 389, 144, 145, 139, 62, 63])], [], [], [(20, [0, 15, 21, 22], [60, 3, 2, 389, 144, 145, 139, 62, 63])], [], [(22, 5, 1, 1), (22, 8, -4294967296, 0), (4, 21, -4294967296, 0), (21, 19, 3, 3), (7, 18, -4294967296, -1), (18, 16, -3, -3), (3, 15, -4294967296, 0), (15, 11, -300000000, 300000000), (15, 9, -299999997, 300000003), (15, 14, 3, 11), (6, 13, 0, 4294967296), (13, 12, -11, -3), (11, 9, 3, 3), (5, 8, -4294967296, -1), (3, 5, -4294967296, 300000010), (4, 5, -4294967296, 300000002)])
theorem oo_Mo_route_5 {kA : Nat → ClassId} : or_ok PRD kA GG o_Mo_route_5 := by
  refine or_mk fun A ta ws vs hD hth hl => ?_
  intro t0 r0 t2 k2 t3 k3 t4 k4 t5 k5 t6 k6 t7 k7 t8 k8 t9 k9 t10 k10 t11 k11 t12 k12 t13 k13 t14 k14 t15 k15 t16 k16 t17 k17 t18 k18 t19 k19 t20 k20 t21 k21 t22 k22 d0 d1 d2 d3 d4 d5 d6 d7 d8 d9 d10 d11 d12 d13 d14 d15 f0 f1 f2 f3 f4 f5 f6 f7 f8 f9 f10 f11 ta1 w1 le1 s1 f13 f14 f15 f16 f17 f18 f19 f20 f21 f22 f23 f24 f25 f26 ta2 w2 le2 s2 f28 f29 f30 f31 f32 f33 f34 f35 f36 f37 f38 f39
  have s1 : (∀ b j, w_el ws b j = w_el w1 b j) ∧ ∀ b j, w_fd ws b j = if b = v_ad (n_v vs 0) ∧ j = 145 then n_v vs 7 else w_fd w1 b j := s1.2
  replace f17 := shm_1968 f17
  have s2 : (∀ b j, w_el w1 b j = w_el w2 b j) ∧ ∀ b j, w_fd w1 b j = if b = v_ad (n_v vs 0) ∧ j = 144 then n_v vs 13 else w_fd w2 b j := s2.2
  replace f32 := shm_1969 f32
  replace f39 := shm_1967 f39
  have ar_0_2_1 : w_ar w1 (n_v vs 0) 2 = w_ar ws (n_v vs 0) 2 := by show v_ad (w_fd w1 _ _) = v_ad (w_fd ws _ _); rw [s1.2, if_neg (fun e => absurd e.2 (by decide))]
  have ar_0_2_2 : w_ar w2 (n_v vs 0) 2 = w_ar ws (n_v vs 0) 2 := by rw [← ar_0_2_1]; show v_ad (w_fd w2 _ _) = v_ad (w_fd w1 _ _); rw [s2.2, if_neg (fun e => absurd e.2 (by decide))]
  have ar_0_62_1 : w_ar w1 (n_v vs 0) 62 = w_ar ws (n_v vs 0) 62 := by show v_ad (w_fd w1 _ _) = v_ad (w_fd ws _ _); rw [s1.2, if_neg (fun e => absurd e.2 (by decide))]
  have ar_0_62_2 : w_ar w2 (n_v vs 0) 62 = w_ar ws (n_v vs 0) 62 := by rw [← ar_0_62_1]; show v_ad (w_fd w2 _ _) = v_ad (w_fd w1 _ _); rw [s2.2, if_neg (fun e => absurd e.2 (by decide))]
  have ar_0_63_1 : w_ar w1 (n_v vs 0) 63 = w_ar ws (n_v vs 0) 63 := by show v_ad (w_fd w1 _ _) = v_ad (w_fd ws _ _); rw [s1.2, if_neg (fun e => absurd e.2 (by decide))]
  have ar_0_63_2 : w_ar w2 (n_v vs 0) 63 = w_ar ws (n_v vs 0) 63 := by rw [← ar_0_63_1]; show v_ad (w_fd w2 _ _) = v_ad (w_fd w1 _ _); rw [s2.2, if_neg (fun e => absurd e.2 (by decide))]
  have g17 : v_iv (n_v vs 7) = w_fi w1 (n_v vs 0) 145 := congrArg v_iv f17
  have g32 : v_iv (n_v vs 6) = w_fi w2 (n_v vs 0) 144 := congrArg v_iv f32
  simp only [ar_0_2_2, ar_0_62_2, ar_0_63_2] at f39
  have fe_0_5_1 : w_fi ws (n_v vs 0) 5 = w_fi w1 (n_v vs 0) 5 := by show v_iv (w_fd _ _ _) = v_iv (w_fd _ _ _); rw [s1.2, if_neg (fun e => absurd e.2 (by decide))]
  have fe_0_139_1 : w_fi ws (n_v vs 0) 139 = w_fi w1 (n_v vs 0) 139 := by show v_iv (w_fd _ _ _) = v_iv (w_fd _ _ _); rw [s1.2, if_neg (fun e => absurd e.2 (by decide))]
  have fe_0_144_1 : w_fi ws (n_v vs 0) 144 = w_fi w1 (n_v vs 0) 144 := by show v_iv (w_fd _ _ _) = v_iv (w_fd _ _ _); rw [s1.2, if_neg (fun e => absurd e.2 (by decide))]
  have fe_0_145_1 : w_fi ws (n_v vs 0) 145 = v_iv (n_v vs 7) := by show v_iv (w_fd _ _ _) = _; rw [s1.2, if_pos ⟨rfl, rfl⟩]
  have fe_0_5_2 : w_fi w1 (n_v vs 0) 5 = w_fi w2 (n_v vs 0) 5 := by show v_iv (w_fd _ _ _) = v_iv (w_fd _ _ _); rw [s2.2, if_neg (fun e => absurd e.2 (by decide))]
  have fe_0_139_2 : w_fi w1 (n_v vs 0) 139 = w_fi w2 (n_v vs 0) 139 := by show v_iv (w_fd _ _ _) = v_iv (w_fd _ _ _); rw [s2.2, if_neg (fun e => absurd e.2 (by decide))]
  have fe_0_144_2 : w_fi w1 (n_v vs 0) 144 = v_iv (n_v vs 13) := by show v_iv (w_fd _ _ _) = _; rw [s2.2, if_pos ⟨rfl, rfl⟩]
  have fe_0_145_2 : w_fi w1 (n_v vs 0) 145 = w_fi w2 (n_v vs 0) 145 := by show v_iv (w_fd _ _ _) = v_iv (w_fd _ _ _); rw [s2.2, if_neg (fun e => absurd e.2 (by decide))]
  have hE_0_2_1 : ∀ j : Int, w_ei ws (w_ar ws (n_v vs 0) 2) j = w_ei w1 (w_ar ws (n_v vs 0) 2) j := fun j => s1.1 _ _
  have hE_0_2_2 : ∀ j : Int, w_ei w1 (w_ar ws (n_v vs 0) 2) j = w_ei w2 (w_ar ws (n_v vs 0) 2) j := fun j => s2.1 _ _
  have hE_0_62_1 : ∀ j : Int, w_ei ws (w_ar ws (n_v vs 0) 62) j = w_ei w1 (w_ar ws (n_v vs 0) 62) j := fun j => s1.1 _ _
  have hE_0_62_2 : ∀ j : Int, w_ei w1 (w_ar ws (n_v vs 0) 62) j = w_ei w2 (w_ar ws (n_v vs 0) 62) j := fun j => s2.1 _ _
  have hE_0_63_1 : ∀ j : Int, w_ei ws (w_ar ws (n_v vs 0) 63) j = w_ei w1 (w_ar ws (n_v vs 0) 63) j := fun j => s1.1 _ _
  have hE_0_63_2 : ∀ j : Int, w_ei w1 (w_ar ws (n_v vs 0) 63) j = w_ei w2 (w_ar ws (n_v vs 0) 63) j := fun j => s2.1 _ _
  have kz_0_139 := fdq_171 hD hth r0
  have kz_0_144 := fdq_316 hD hth r0
  have kz_0_145 := fdq_317 hD hth r0
  have nf0 : fc_1 PRD (20, [0, 15, 21, 22], [60, 3, 2, 389, 144, 145, 139, 62, 63]) ws (vs) := ⟨nf_in hl rfl, sgq_1967 (vc_Mo_route_5_0 (v_iv (n_v vs 3)) (v_iv (n_v vs 4)) (v_iv (n_v vs 5)) (v_iv (n_v vs 6)) (v_iv (n_v vs 7)) (v_iv (n_v vs 11)) (v_iv (n_v vs 12)) (v_iv (n_v vs 13)) (v_iv (n_v vs 14)) (v_iv (n_v vs 15)) (v_iv (n_v vs 16)) (v_iv (n_v vs 18)) (v_iv (n_v vs 19)) (v_iv (n_v vs 21)) (v_iv (n_v vs 22)) (w_ei ws (w_ar ws (n_v vs 0) 63)) (w_fi ws (n_v vs 0) 139) (w_ei ws (w_ar ws (n_v vs 0) 62)) (w_ei ws (w_ar ws (n_v vs 0) 2)) (w_fi ws (n_v vs 0) 5) (w_ei w1 (w_ar ws (n_v vs 0) 63)) (w_fi w1 (n_v vs 0) 139) (w_fi w1 (n_v vs 0) 145) (w_ei w1 (w_ar ws (n_v vs 0) 62)) (w_ei w1 (w_ar ws (n_v vs 0) 2)) (w_fi w1 (n_v vs 0) 5) (w_ei w2 (w_ar ws (n_v vs 0) 62)) (w_fi w2 (n_v vs 0) 139) (w_fi w2 (n_v vs 0) 144) (w_ei w2 (w_ar ws (n_v vs 0) 2)) (w_fi w2 (n_v vs 0) 5) (w_ei w2 (w_ar ws (n_v vs 0) 63)) (w_fi w2 (n_v vs 0) 145) (w_fi ws (n_v vs 0) 144) (w_fi w1 (n_v vs 0) 144) (w_fi ws (n_v vs 0) 145) k3 k4 k5 k6 k7 k11 k12 k13 k14 k15 k16 k18 k19 k21 k22 d3 d4 d5 d9 d10 (shm_4 f0) (shm_24 f1) (shm_687 f4) (shm_687 f5) (shm_685 f6) (shm_685 f7) g17 (shm_24 f18) (shm_12 f20) (shm_14 f30) g32 f39 fe_0_5_1 fe_0_139_1 fe_0_144_1 fe_0_145_1 fe_0_5_2 fe_0_139_2 fe_0_144_2 fe_0_145_2 hE_0_2_1 hE_0_2_2 hE_0_62_1 hE_0_62_2 hE_0_63_1 hE_0_63_2 kz_0_139 kz_0_144 kz_0_145)⟩
  refine ⟨(fun _ h => (by cases h)), [], trivial, ?_, (fun _ h => (by cases h))⟩
  rw [List.append_nil]
  exact List.forall_mem_cons.mpr ⟨⟨show (20 : Nat) < 100 from by decide, nf0⟩, (fun _ h => (by cases h))⟩
set_option maxHeartbeats 4000000 in
theorem vc_Mo_route_6_0 (x3 : Int) (x4 : Int) (x5 : Int) (x6 : Int) (x7 : Int) (x11 : Int) (x12 : Int) (x13 : Int) (x14 : Int) (x15 : Int) (x16 : Int) (x18 : Int) (x19 : Int) (x21 : Int) (x22 : Int) (nodeY_0 : Int → Int) (g0_0 : Int) (nodeX_0 : Int → Int) (all_0 : Int → Int) (r_0 : Int) (nodeY_1 : Int → Int) (g0_1 : Int) (top0_1 : Int) (nodeX_1 : Int → Int) (all_1 : Int → Int) (r_1 : Int) (nodeX_2 : Int → Int) (g0_2 : Int) (left0_2 : Int) (all_2 : Int → Int) (r_2 : Int) (nodeY_2 : Int → Int) (top0_2 : Int) (left0_0 : Int) (left0_1 : Int) (top0_0 : Int) (k3 : (-2000000) ≤ x3 ∧ x3 ≤ 300000011) (k4 : (-2000000) ≤ x4 ∧ x4 ≤ 300000003) (k5 : 0 ≤ x5 ∧ x5 ≤ 23) (k6 : (-300000011) ≤ x6 ∧ x6 ≤ 2000000) (k7 : (-300000003) ≤ x7 ∧ x7 ≤ 2000000) (k11 : 3 ≤ x11 ∧ x11 ≤ 11) (k12 : (-300000000) ≤ x12 ∧ x12 ≤ 300000000) (k13 : (-300000011) ≤ x13 ∧ x13 ≤ 2000000) (k14 : (-300000000) ≤ x14 ∧ x14 ≤ 300000000) (k15 : (-2000000) ≤ x15 ∧ x15 ≤ 300000011) (k16 : (-300000000) ≤ x16 ∧ x16 ≤ 300000000) (k18 : (-300000002) ≤ x18 ∧ x18 ≤ 299999997) (k19 : (-300000000) ≤ x19 ∧ x19 ≤ 300000000) (k21 : (-299999997) ≤ x21 ∧ x21 ≤ 300000002) (k22 : 1 ≤ x22 ∧ x22 ≤ 24) (d2 : x21 + 1 ≤ x4 ∧ x4 ≤ x21 + 4294967296) (d3 : x19 + 3 ≤ x21 ∧ x21 ≤ x19 + 3) (d4 : x18 + (-4294967296) ≤ x7 ∧ x7 ≤ x18 + (-1)) (d5 : x16 + (-3) ≤ x18 ∧ x18 ≤ x16 + (-3)) (d9 : x14 + 3 ≤ x15 ∧ x15 ≤ x14 + 11) (d10 : x13 + 0 ≤ x6 ∧ x6 ≤ x13 + 4294967296) (f0 : x22 = x5 + 1) (f1 : x4 ≤ x4) (f4 : x19 = nodeY_0 (((24 * g0_0) + x5))) (f5 : x16 = nodeY_0 (((24 * g0_0) + x5))) (f6 : x14 = nodeX_0 (((24 * g0_0) + x5))) (f7 : x12 = nodeX_0 (((24 * g0_0) + x5))) (g17 : x7 = top0_1) (f18 : x3 ≤ x15) (f20 : x15 = x14 + x11) (f30 : x13 = x12 - x11) (g32 : x6 = left0_2) (f39 : RTB (left0_2) (top0_2) (g0_2) (nodeX_2) (nodeY_2) (x3) (x4) (x5)) (fe_0_5_1 : r_0 = r_1) (fe_0_139_1 : g0_0 = g0_1) (fe_0_144_1 : left0_0 = left0_1) (fe_0_145_1 : top0_0 = x7) (fe_0_5_2 : r_1 = r_2) (fe_0_139_2 : g0_1 = g0_2) (fe_0_144_2 : left0_1 = x13) (fe_0_145_2 : top0_1 = top0_2) (hE_0_2_1 : ∀ j : Int, all_0 j = all_1 j) (hE_0_2_2 : ∀ j : Int, all_1 j = all_2 j) (hE_0_62_1 : ∀ j : Int, nodeX_0 j = nodeX_1 j) (hE_0_62_2 : ∀ j : Int, nodeX_1 j = nodeX_2 j) (hE_0_63_1 : ∀ j : Int, nodeY_0 j = nodeY_1 j) (hE_0_63_2 : ∀ j : Int, nodeY_1 j = nodeY_2 j) (kz_0_139 : 0 ≤ g0_0 ∧ g0_0 ≤ 3) (kz_0_144 : (-300000011) ≤ left0_0 ∧ left0_0 ≤ 2000000) (kz_0_145 : (-300000003) ≤ top0_0 ∧ top0_0 ≤ 2000000) : RTB (left0_0) (top0_0) (g0_0) (nodeX_0) (nodeY_0) (x15) (x4) (x22) := by
  subst fe_0_5_1
  subst fe_0_139_1
  subst fe_0_144_1
  subst fe_0_5_2
  subst fe_0_139_2
  subst fe_0_145_2
  have e_hE_0_2_1 := funext hE_0_2_1; subst e_hE_0_2_1
  have e_hE_0_2_2 := funext hE_0_2_2; subst e_hE_0_2_2
  have e_hE_0_62_1 := funext hE_0_62_1; subst e_hE_0_62_1
  have e_hE_0_62_2 := funext hE_0_62_2; subst e_hE_0_62_2
  have e_hE_0_63_1 := funext hE_0_63_1; subst e_hE_0_63_1
  have e_hE_0_63_2 := funext hE_0_63_2; subst e_hE_0_63_2
  first
    | (intro v a b; exfalso; omega)
    | exact rtb_step (w := x11) (x := nodeX_0 (24 * g0_0 + x5)) (y := nodeY_0 (24 * g0_0 + x5)) ‹RTB _ _ _ _ _ _ _ _› (by omega) (by omega) rfl rfl (by omega) (by omega) (by omega) (by omega) (by omega) (by omega) (by omega) (by omega)
  
def o_Mo_route_6 : or_T := (50, 23, [(0, (2, 0, 0, [165])), (2, (0, 0, 47, [])), (3, (0, -2000000, 300000011, [])), (4, (0, -2000000, 300000003, [])), (5, (0, 0, 23, [])), (6, (0, -300000011, 2000000, [])), (7, (0, -300000003, 2000000, [])), (8, (0, 1, 24, [])), (9, (0, 0, 8, [])), (10, (0, 3, 3, [])), (11, (0, 3, 11, [])), (12, (0, -300000000, 300000000, [])), (13, (0, -300000011, 2000000, [])), (14, (0, -300000000, 300000000, [])), (15, (0, -2000000, 300000011, [])), (16, (0, -300000000, 300000000, [])), (17, (0, 3, 3, [])), (18, (0, -300000002, 299999997, [])), (19, (0, -300000000, 300000000, [])), (20, (0, 3, 3, [])), (21, (0, -299999997, 300000002, [])), (22, (0, 1, 24, []))], [(6, [22, 5], [1]), (7, [4, 4], [5]), (7, [21, 4], [5]), (1, [21, 19, 20], []), (20, [19, 0, 5], [50, 1, 1, 1139, 1063, 1, 2, 1, 0, 3, 1, 63, 4, 7, 6, 2, 0, 24, 2, 1, 139, 1, 2]), (20, [16, 0, 5], [50, 1, 1, 1139, 1063, 1, 2, 1, 0, 3, 1, 63, 4, 7, 6, 2, 0, 24, 2, 1, 139, 1, 2]), (20, [14, 0, 5], [50, 1, 1, 1139, 1062, 1, 2, 1, 0, 3, 1, 62, 4, 7, 6, 2, 0, 24, 2, 1, 139, 1, 2]), (20, [12, 0, 5], [50, 1, 1, 1139, 1062, 1, 2, 1, 0, 3, 1, 62, 4, 7, 6, 2, 0, 24, 2, 1, 139, 1, 2]), (20, [8, 0], [30, 0, 1, 0, 0, -1, 3, 2005000]), (20, [8, 0], [30, 0, -1, 0, 0, 1, 3, 2005000]), (20, [0], [60, 1, 1, 197, 5, 2]), (20, [2, 0], [50, 1, 1, 1005, 1002, 0, 6, 4, 2, 1, 0, 0, 1, 3, 1, 2, 4, 3, 2, 1, 5, 0, 1]), (101, [0, 7], [145]), (7, [7, 7], [5]), (7, [7, 18], [5]), (2, [18, 16, 17], []), (20, [16, 0, 5], [50, 1, 1, 1139, 1063, 1, 2, 1, 0, 3, 1, 63, 4, 7, 6, 2, 0, 24, 2, 1, 139, 1, 2]), (9, [7, 0], [145]), (7, [3, 15], [5]), (7, [15, 15], [5]), (1, [15, 14, 11], []), (20, [14, 0, 5], [50, 1, 1, 1139, 1062, 1, 2, 1, 0, 3, 1, 62, 4, 7, 6, 2, 0, 24, 2, 1, 139, 1, 2]), (20, [12, 0, 5], [50, 1, 1, 1139, 1062, 1, 2, 1, 0, 3, 1, 62, 4, 7, 6, 2, 0, 24, 2, 1, 139, 1, 2]), (20, [8, 0], [30, 0, 1, 0, 0, -1, 3, 2005000]), (20, [8, 0], [30, 0, -1, 0, 0, 1, 3, 2005000]), (20, [0], [60, 1, 1, 197, 5, 2]), (20, [2, 0], [50, 1, 1, 1005, 1002, 0, 6, 4, 2, 1, 0, 0, 1, 3, 1, 2, 4, 3, 2, 1, 5, 0, 1]), (101, [0, 13], [144]), (7, [13, 6], [5]), (7, [13, 13], [5]), (2, [13, 12, 11], []), (20, [12, 0, 5], [50, 1, 1, 1139, 1062, 1, 2, 1, 0, 3, 1, 62, 4, 7, 6, 2, 0, 24, 2, 1, 139, 1, 2]), (9, [6, 0], [144]), (1, [11, 9, 10], []), (7, [5, 8], [2]), (20, [8, 0], [30, 0, 1, 0, 0, -1, 3, 2005000]), (20, [8, 0], [30, 0, -1, 0, 0, 1, 3, 2005000]), (20, [0], [60, 1, 1, 197, 5, 2]), (20, [2, 0], [50, 1, 1, 1005, 1002, 0, 6, 4, 2, 1, 0, 0, 1, 3, 1, 2, 4, 3, 2, 1, 5, 0, 1]), (20, [0, 3, 4, 5], [60, 3, 2, 389, 144, 145, 139, 62, 63])], [], [], [(20, [0, 15, 4, 22], [60, 3, 2, 389, 144, 145, 139, 62, 63])], [], [(22, 5, 1, 1), (22, 8, -4294967296, 0), (4, 21, 1, 4294967296), (21, 19, 3, 3), (7, 18, -4294967296, -1), (18, 16, -3, -3), (3, 15, -4294967296, 0), (15, 11, -300000000, 300000000), (15, 9, -299999997, 300000003), (15, 14, 3, 11), (6, 13, 0, 4294967296), (13, 12, -11, -3), (11, 9, 3, 3), (5, 8, -4294967296, -1), (3, 5, -4294967296, 300000010), (4, 5, -4294967296, 300000002)])
theorem oo_Mo_route_6 {kA : Nat → ClassId} : or_ok PRD kA GG o_Mo_route_6 := by
  refine or_mk fun A ta ws vs hD hth hl => ?_
  intro t0 r0 t2 k2 t3 k3 t4 k4 t5 k5 t6 k6 t7 k7 t8 k8 t9 k9 t10 k10 t11 k11 t12 k12 t13 k13 t14 k14 t15 k15 t16 k16 t17 k17 t18 k18 t19 k19 t20 k20 t21 k21 t22 k22 d0 d1 d2 d3 d4 d5 d6 d7 d8 d9 d10 d11 d12 d13 d14 d15 f0 f1 f2 f3 f4 f5 f6 f7 f8 f9 f10 f11 ta1 w1 le1 s1 f13 f14 f15 f16 f17 f18 f19 f20 f21 f22 f23 f24 f25 f26 ta2 w2 le2 s2 f28 f29 f30 f31 f32 f33 f34 f35 f36 f37 f38 f39
  have s1 : (∀ b j, w_el ws b j = w_el w1 b j) ∧ ∀ b j, w_fd ws b j = if b = v_ad (n_v vs 0) ∧ j = 145 then n_v vs 7 else w_fd w1 b j := s1.2
  replace f17 := shm_1968 f17
  have s2 : (∀ b j, w_el w1 b j = w_el w2 b j) ∧ ∀ b j, w_fd w1 b j = if b = v_ad (n_v vs 0) ∧ j = 144 then n_v vs 13 else w_fd w2 b j := s2.2
  replace f32 := shm_1969 f32
  replace f39 := shm_1967 f39
  have ar_0_2_1 : w_ar w1 (n_v vs 0) 2 = w_ar ws (n_v vs 0) 2 := by show v_ad (w_fd w1 _ _) = v_ad (w_fd ws _ _); rw [s1.2, if_neg (fun e => absurd e.2 (by decide))]
  have ar_0_2_2 : w_ar w2 (n_v vs 0) 2 = w_ar ws (n_v vs 0) 2 := by rw [← ar_0_2_1]; show v_ad (w_fd w2 _ _) = v_ad (w_fd w1 _ _); rw [s2.2, if_neg (fun e => absurd e.2 (by decide))]
  have ar_0_62_1 : w_ar w1 (n_v vs 0) 62 = w_ar ws (n_v vs 0) 62 := by show v_ad (w_fd w1 _ _) = v_ad (w_fd ws _ _); rw [s1.2, if_neg (fun e => absurd e.2 (by decide))]
  have ar_0_62_2 : w_ar w2 (n_v vs 0) 62 = w_ar ws (n_v vs 0) 62 := by rw [← ar_0_62_1]; show v_ad (w_fd w2 _ _) = v_ad (w_fd w1 _ _); rw [s2.2, if_neg (fun e => absurd e.2 (by decide))]
  have ar_0_63_1 : w_ar w1 (n_v vs 0) 63 = w_ar ws (n_v vs 0) 63 := by show v_ad (w_fd w1 _ _) = v_ad (w_fd ws _ _); rw [s1.2, if_neg (fun e => absurd e.2 (by decide))]
  have ar_0_63_2 : w_ar w2 (n_v vs 0) 63 = w_ar ws (n_v vs 0) 63 := by rw [← ar_0_63_1]; show v_ad (w_fd w2 _ _) = v_ad (w_fd w1 _ _); rw [s2.2, if_neg (fun e => absurd e.2 (by decide))]
  have g17 : v_iv (n_v vs 7) = w_fi w1 (n_v vs 0) 145 := congrArg v_iv f17
  have g32 : v_iv (n_v vs 6) = w_fi w2 (n_v vs 0) 144 := congrArg v_iv f32
  simp only [ar_0_2_2, ar_0_62_2, ar_0_63_2] at f39
  have fe_0_5_1 : w_fi ws (n_v vs 0) 5 = w_fi w1 (n_v vs 0) 5 := by show v_iv (w_fd _ _ _) = v_iv (w_fd _ _ _); rw [s1.2, if_neg (fun e => absurd e.2 (by decide))]
  have fe_0_139_1 : w_fi ws (n_v vs 0) 139 = w_fi w1 (n_v vs 0) 139 := by show v_iv (w_fd _ _ _) = v_iv (w_fd _ _ _); rw [s1.2, if_neg (fun e => absurd e.2 (by decide))]
  have fe_0_144_1 : w_fi ws (n_v vs 0) 144 = w_fi w1 (n_v vs 0) 144 := by show v_iv (w_fd _ _ _) = v_iv (w_fd _ _ _); rw [s1.2, if_neg (fun e => absurd e.2 (by decide))]
  have fe_0_145_1 : w_fi ws (n_v vs 0) 145 = v_iv (n_v vs 7) := by show v_iv (w_fd _ _ _) = _; rw [s1.2, if_pos ⟨rfl, rfl⟩]
  have fe_0_5_2 : w_fi w1 (n_v vs 0) 5 = w_fi w2 (n_v vs 0) 5 := by show v_iv (w_fd _ _ _) = v_iv (w_fd _ _ _); rw [s2.2, if_neg (fun e => absurd e.2 (by decide))]
  have fe_0_139_2 : w_fi w1 (n_v vs 0) 139 = w_fi w2 (n_v vs 0) 139 := by show v_iv (w_fd _ _ _) = v_iv (w_fd _ _ _); rw [s2.2, if_neg (fun e => absurd e.2 (by decide))]
  have fe_0_144_2 : w_fi w1 (n_v vs 0) 144 = v_iv (n_v vs 13) := by show v_iv (w_fd _ _ _) = _; rw [s2.2, if_pos ⟨rfl, rfl⟩]
  have fe_0_145_2 : w_fi w1 (n_v vs 0) 145 = w_fi w2 (n_v vs 0) 145 := by show v_iv (w_fd _ _ _) = v_iv (w_fd _ _ _); rw [s2.2, if_neg (fun e => absurd e.2 (by decide))]
  have hE_0_2_1 : ∀ j : Int, w_ei ws (w_ar ws (n_v vs 0) 2) j = w_ei w1 (w_ar ws (n_v vs 0) 2) j := fun j => s1.1 _ _
  have hE_0_2_2 : ∀ j : Int, w_ei w1 (w_ar ws (n_v vs 0) 2) j = w_ei w2 (w_ar ws (n_v vs 0) 2) j := fun j => s2.1 _ _
  have hE_0_62_1 : ∀ j : Int, w_ei ws (w_ar ws (n_v vs 0) 62) j = w_ei w1 (w_ar ws (n_v vs 0) 62) j := fun j => s1.1 _ _
  have hE_0_62_2 : ∀ j : Int, w_ei w1 (w_ar ws (n_v vs 0) 62) j = w_ei w2 (w_ar ws (n_v vs 0) 62) j := fun j => s2.1 _ _
  have hE_0_63_1 : ∀ j : Int, w_ei ws (w_ar ws (n_v vs 0) 63) j = w_ei w1 (w_ar ws (n_v vs 0) 63) j := fun j => s1.1 _ _
  have hE_0_63_2 : ∀ j : Int, w_ei w1 (w_ar ws (n_v vs 0) 63) j = w_ei w2 (w_ar ws (n_v vs 0) 63) j := fun j => s2.1 _ _
  have kz_0_139 := fdq_171 hD hth r0
  have kz_0_144 := fdq_316 hD hth r0
  have kz_0_145 := fdq_317 hD hth r0
  have nf0 : fc_1 PRD (20, [0, 15, 4, 22], [60, 3, 2, 389, 144, 145, 139, 62, 63]) ws (vs) := ⟨nf_in hl rfl, sgq_1967 (vc_Mo_route_6_0 (v_iv (n_v vs 3)) (v_iv (n_v vs 4)) (v_iv (n_v vs 5)) (v_iv (n_v vs 6)) (v_iv (n_v vs 7)) (v_iv (n_v vs 11)) (v_iv (n_v vs 12)) (v_iv (n_v vs 13)) (v_iv (n_v vs 14)) (v_iv (n_v vs 15)) (v_iv (n_v vs 16)) (v_iv (n_v vs 18)) (v_iv (n_v vs 19)) (v_iv (n_v vs 21)) (v_iv (n_v vs 22)) (w_ei ws (w_ar ws (n_v vs 0) 63)) (w_fi ws (n_v vs 0) 139) (w_ei ws (w_ar ws (n_v vs 0) 62)) (w_ei ws (w_ar ws (n_v vs 0) 2)) (w_fi ws (n_v vs 0) 5) (w_ei w1 (w_ar ws (n_v vs 0) 63)) (w_fi w1 (n_v vs 0) 139) (w_fi w1 (n_v vs 0) 145) (w_ei w1 (w_ar ws (n_v vs 0) 62)) (w_ei w1 (w_ar ws (n_v vs 0) 2)) (w_fi w1 (n_v vs 0) 5) (w_ei w2 (w_ar ws (n_v vs 0) 62)) (w_fi w2 (n_v vs 0) 139) (w_fi w2 (n_v vs 0) 144) (w_ei w2 (w_ar ws (n_v vs 0) 2)) (w_fi w2 (n_v vs 0) 5) (w_ei w2 (w_ar ws (n_v vs 0) 63)) (w_fi w2 (n_v vs 0) 145) (w_fi ws (n_v vs 0) 144) (w_fi w1 (n_v vs 0) 144) (w_fi ws (n_v vs 0) 145) k3 k4 k5 k6 k7 k11 k12 k13 k14 k15 k16 k18 k19 k21 k22 d2 d3 d4 d5 d9 d10 (shm_4 f0) (shm_134 f1) (shm_687 f4) (shm_687 f5) (shm_685 f6) (shm_685 f7) g17 (shm_24 f18) (shm_12 f20) (shm_14 f30) g32 f39 fe_0_5_1 fe_0_139_1 fe_0_144_1 fe_0_145_1 fe_0_5_2 fe_0_139_2 fe_0_144_2 fe_0_145_2 hE_0_2_1 hE_0_2_2 hE_0_62_1 hE_0_62_2 hE_0_63_1 hE_0_63_2 kz_0_139 kz_0_144 kz_0_145)⟩
  refine ⟨(fun _ h => (by cases h)), [], trivial, ?_, (fun _ h => (by cases h))⟩
  rw [List.append_nil]
  exact List.forall_mem_cons.mpr ⟨⟨show (20 : Nat) < 100 from by decide, nf0⟩, (fun _ h => (by cases h))⟩
set_option maxHeartbeats 4000000 in
theorem vc_Mo_route_7_0 (x3 : Int) (x4 : Int) (x5 : Int) (x6 : Int) (x7 : Int) (x11 : Int) (x12 : Int) (x13 : Int) (x14 : Int) (x15 : Int) (x16 : Int) (x18 : Int) (x19 : Int) (x21 : Int) (x22 : Int) (nodeY_0 : Int → Int) (g0_0 : Int) (nodeX_0 : Int → Int) (all_0 : Int → Int) (r_0 : Int) (nodeY_1 : Int → Int) (g0_1 : Int) (top0_1 : Int) (nodeX_1 : Int → Int) (all_1 : Int → Int) (r_1 : Int) (nodeX_2 : Int → Int) (g0_2 : Int) (left0_2 : Int) (all_2 : Int → Int) (r_2 : Int) (nodeY_2 : Int → Int) (top0_2 : Int) (left0_0 : Int) (left0_1 : Int) (top0_0 : Int) (k3 : (-2000000) ≤ x3 ∧ x3 ≤ 300000011) (k4 : (-2000000) ≤ x4 ∧ x4 ≤ 300000003) (k5 : 0 ≤ x5 ∧ x5 ≤ 23) (k6 : (-300000011) ≤ x6 ∧ x6 ≤ 2000000) (k7 : (-300000003) ≤ x7 ∧ x7 ≤ 2000000) (k11 : 3 ≤ x11 ∧ x11 ≤ 11) (k12 : (-300000000) ≤ x12 ∧ x12 ≤ 300000000) (k13 : (-300000011) ≤ x13 ∧ x13 ≤ 2000000) (k14 : (-300000000) ≤ x14 ∧ x14 ≤ 300000000) (k15 : (-299999997) ≤ x15 ∧ x15 ≤ 300000010) (k16 : (-300000000) ≤ x16 ∧ x16 ≤ 300000000) (k18 : (-300000003) ≤ x18 ∧ x18 ≤ 2000000) (k19 : (-300000000) ≤ x19 ∧ x19 ≤ 300000000) (k21 : (-2000000) ≤ x21 ∧ x21 ≤ 300000003) (k22 : 1 ≤ x22 ∧ x22 ≤ 24) (d3 : x19 + 3 ≤ x21 ∧ x21 ≤ x19 + 3) (d4 : x18 + 0 ≤ x7 ∧ x7 ≤ x18 + 4294967296) (d5 : x16 + (-3) ≤ x18 ∧ x18 ≤ x16 + (-3)) (d6 : x15 + 1 ≤ x3 ∧ x3 ≤ x15 + 4294967296) (d9 : x14 + 3 ≤ x15 ∧ x15 ≤ x14 + 11) (d10 : x13 + 0 ≤ x6 ∧ x6 ≤ x13 + 4294967296) (f0 : x22 = x5 + 1) (f1 : x4 ≤ x21) (f4 : x19 = nodeY_0 (((24 * g0_0) + x5))) (f5 : x16 = nodeY_0 (((24 * g0_0) + x5))) (f6 : x14 = nodeX_0 (((24 * g0_0) + x5))) (f7 : x12 = nodeX_0 (((24 * g0_0) + x5))) (g17 : x7 = top0_1) (f18 : x3 ≤ x3) (f20 : x15 = x14 + x11) (f30 : x13 = x12 - x11) (g32 : x6 = left0_2) (f39 : RTB (left0_2) (top0_2) (g0_2) (nodeX_2) (nodeY_2) (x3) (x4) (x5)) (fe_0_5_1 : r_0 = r_1) (fe_0_139_1 : g0_0 = g0_1) (fe_0_144_1 : left0_0 = left0_1) (fe_0_145_1 : top0_0 = x18) (fe_0_5_2 : r_1 = r_2) (fe_0_139_2 : g0_1 = g0_2) (fe_0_144_2 : left0_1 = x13) (fe_0_145_2 : top0_1 = top0_2) (hE_0_2_1 : ∀ j : Int, all_0 j = all_1 j) (hE_0_2_2 : ∀ j : Int, all_1 j = all_2 j) (hE_0_62_1 : ∀ j : Int, nodeX_0 j = nodeX_1 j) (hE_0_62_2 : ∀ j : Int, nodeX_1 j = nodeX_2 j) (hE_0_63_1 : ∀ j : Int, nodeY_0 j = nodeY_1 j) (hE_0_63_2 : ∀ j : Int, nodeY_1 j = nodeY_2 j) (kz_0_139 : 0 ≤ g0_0 ∧ g0_0 ≤ 3) (kz_0_144 : (-300000011) ≤ left0_0 ∧ left0_0 ≤ 2000000) (kz_0_145 : (-300000003) ≤ top0_0 ∧ top0_0 ≤ 2000000) : RTB (left0_0) (top0_0) (g0_0) (nodeX_0) (nodeY_0) (x3) (x21) (x22) := by
  subst fe_0_5_1
  subst fe_0_139_1
  subst fe_0_144_1
  subst fe_0_5_2
  subst fe_0_139_2
  subst fe_0_145_2
  have e_hE_0_2_1 := funext hE_0_2_1; subst e_hE_0_2_1
  have e_hE_0_2_2 := funext hE_0_2_2; subst e_hE_0_2_2
  have e_hE_0_62_1 := funext hE_0_62_1; subst e_hE_0_62_1
  have e_hE_0_62_2 := funext hE_0_62_2; subst e_hE_0_62_2
  have e_hE_0_63_1 := funext hE_0_63_1; subst e_hE_0_63_1
  have e_hE_0_63_2 := funext hE_0_63_2; subst e_hE_0_63_2
  first
    | (intro v a b; exfalso; omega)
    | exact rtb_step (w := x11) (x := nodeX_0 (24 * g0_0 + x5)) (y := nodeY_0 (24 * g0_0 + x5)) ‹RTB _ _ _ _ _ _ _ _› (by omega) (by omega) rfl rfl (by omega) (by omega) (by omega) (by omega) (by omega) (by omega) (by omega) (by omega)
  
def o_Mo_route_7 : or_T := (50, 23, [(0, (2, 0, 0, [165])), (2, (0, 0, 47, [])), (3, (0, -2000000, 300000011, [])), (4, (0, -2000000, 300000003, [])), (5, (0, 0, 23, [])), (6, (0, -300000011, 2000000, [])), (7, (0, -300000003, 2000000, [])), (8, (0, 1, 24, [])), (9, (0, 0, 8, [])), (10, (0, 3, 3, [])), (11, (0, 3, 11, [])), (12, (0, -300000000, 300000000, [])), (13, (0, -300000011, 2000000, [])), (14, (0, -300000000, 300000000, [])), (15, (0, -299999997, 300000010, [])), (16, (0, -300000000, 300000000, [])), (17, (0, 3, 3, [])), (18, (0, -300000003, 2000000, [])), (19, (0, -300000000, 300000000, [])), (20, (0, 3, 3, [])), (21, (0, -2000000, 300000003, [])), (22, (0, 1, 24, []))], [(6, [22, 5], [1]), (7, [4, 21], [5]), (7, [21, 21], [5]), (1, [21, 19, 20], []), (20, [19, 0, 5], [50, 1, 1, 1139, 1063, 1, 2, 1, 0, 3, 1, 63, 4, 7, 6, 2, 0, 24, 2, 1, 139, 1, 2]), (20, [16, 0, 5], [50, 1, 1, 1139, 1063, 1, 2, 1, 0, 3, 1, 63, 4, 7, 6, 2, 0, 24, 2, 1, 139, 1, 2]), (20, [14, 0, 5], [50, 1, 1, 1139, 1062, 1, 2, 1, 0, 3, 1, 62, 4, 7, 6, 2, 0, 24, 2, 1, 139, 1, 2]), (20, [12, 0, 5], [50, 1, 1, 1139, 1062, 1, 2, 1, 0, 3, 1, 62, 4, 7, 6, 2, 0, 24, 2, 1, 139, 1, 2]), (20, [8, 0], [30, 0, 1, 0, 0, -1, 3, 2005000]), (20, [8, 0], [30, 0, -1, 0, 0, 1, 3, 2005000]), (20, [0], [60, 1, 1, 197, 5, 2]), (20, [2, 0], [50, 1, 1, 1005, 1002, 0, 6, 4, 2, 1, 0, 0, 1, 3, 1, 2, 4, 3, 2, 1, 5, 0, 1]), (101, [0, 18], [145]), (7, [18, 7], [5]), (7, [18, 18], [5]), (2, [18, 16, 17], []), (20, [16, 0, 5], [50, 1, 1, 1139, 1063, 1, 2, 1, 0, 3, 1, 63, 4, 7, 6, 2, 0, 24, 2, 1, 139, 1, 2]), (9, [7, 0], [145]), (7, [3, 3], [5]), (7, [15, 3], [5]), (1, [15, 14, 11], []), (20, [14, 0, 5], [50, 1, 1, 1139, 1062, 1, 2, 1, 0, 3, 1, 62, 4, 7, 6, 2, 0, 24, 2, 1, 139, 1, 2]), (20, [12, 0, 5], [50, 1, 1, 1139, 1062, 1, 2, 1, 0, 3, 1, 62, 4, 7, 6, 2, 0, 24, 2, 1, 139, 1, 2]), (20, [8, 0], [30, 0, 1, 0, 0, -1, 3, 2005000]), (20, [8, 0], [30, 0, -1, 0, 0, 1, 3, 2005000]), (20, [0], [60, 1, 1, 197, 5, 2]), (20, [2, 0], [50, 1, 1, 1005, 1002, 0, 6, 4, 2, 1, 0, 0, 1, 3, 1, 2, 4, 3, 2, 1, 5, 0, 1]), (101, [0, 13], [144]), (7, [13, 6], [5]), (7, [13, 13], [5]), (2, [13, 12, 11], []), (20, [12, 0, 5], [50, 1, 1, 1139, 1062, 1, 2, 1, 0, 3, 1, 62, 4, 7, 6, 2, 0, 24, 2, 1, 139, 1, 2]), (9, [6, 0], [144]), (1, [11, 9, 10], []), (7, [5, 8], [2]), (20, [8, 0], [30, 0, 1, 0, 0, -1, 3, 2005000]), (20, [8, 0], [30, 0, -1, 0, 0, 1, 3, 2005000]), (20, [0], [60, 1, 1, 197, 5, 2]), (20, [2, 0], [50, 1, 1, 1005, 1002, 0, 6, 4, 2, 1, 0, 0, 1, 3, 1, 2, 4, 3, 2, 1, 5, 0, 1]), (20, [0, 3, 4, 5], [60, 3, 2, 389, 144, 145, 139, 62, 63])], [], [], [(20, [0, 3, 21, 22], [60, 3, 2, 389, 144, 145, 139, 62, 63])], [], [(22, 5, 1, 1), (22, 8, -4294967296, 0), (4, 21, -4294967296, 0), (21, 19, 3, 3), (7, 18, 0, 4294967296), (18, 16, -3, -3), (3, 15, 1, 4294967296), (15, 11, -300000000, 300000000), (15, 9, -299999997, 300000003), (15, 14, 3, 11), (6, 13, 0, 4294967296), (13, 12, -11, -3), (11, 9, 3, 3), (5, 8, -4294967296, -1), (3, 5, -4294967296, 300000010), (4, 5, -4294967296, 300000002)])
theorem oo_Mo_route_7 {kA : Nat → ClassId} : or_ok PRD kA GG o_Mo_route_7 := by
  refine or_mk fun A ta ws vs hD hth hl => ?_
  intro t0 r0 t2 k2 t3 k3 t4 k4 t5 k5 t6 k6 t7 k7 t8 k8 t9 k9 t10 k10 t11 k11 t12 k12 t13 k13 t14 k14 t15 k15 t16 k16 t17 k17 t18 k18 t19 k19 t20 k20 t21 k21 t22 k22 d0 d1 d2 d3 d4 d5 d6 d7 d8 d9 d10 d11 d12 d13 d14 d15 f0 f1 f2 f3 f4 f5 f6 f7 f8 f9 f10 f11 ta1 w1 le1 s1 f13 f14 f15 f16 f17 f18 f19 f20 f21 f22 f23 f24 f25 f26 ta2 w2 le2 s2 f28 f29 f30 f31 f32 f33 f34 f35 f36 f37 f38 f39
  have s1 : (∀ b j, w_el ws b j = w_el w1 b j) ∧ ∀ b j, w_fd ws b j = if b = v_ad (n_v vs 0) ∧ j = 145 then n_v vs 18 else w_fd w1 b j := s1.2
  replace f17 := shm_1968 f17
  have s2 : (∀ b j, w_el w1 b j = w_el w2 b j) ∧ ∀ b j, w_fd w1 b j = if b = v_ad (n_v vs 0) ∧ j = 144 then n_v vs 13 else w_fd w2 b j := s2.2
  replace f32 := shm_1969 f32
  replace f39 := shm_1967 f39
  have ar_0_2_1 : w_ar w1 (n_v vs 0) 2 = w_ar ws (n_v vs 0) 2 := by show v_ad (w_fd w1 _ _) = v_ad (w_fd ws _ _); rw [s1.2, if_neg (fun e => absurd e.2 (by decide))]
  have ar_0_2_2 : w_ar w2 (n_v vs 0) 2 = w_ar ws (n_v vs 0) 2 := by rw [← ar_0_2_1]; show v_ad (w_fd w2 _ _) = v_ad (w_fd w1 _ _); rw [s2.2, if_neg (fun e => absurd e.2 (by decide))]
  have ar_0_62_1 : w_ar w1 (n_v vs 0) 62 = w_ar ws (n_v vs 0) 62 := by show v_ad (w_fd w1 _ _) = v_ad (w_fd ws _ _); rw [s1.2, if_neg (fun e => absurd e.2 (by decide))]
  have ar_0_62_2 : w_ar w2 (n_v vs 0) 62 = w_ar ws (n_v vs 0) 62 := by rw [← ar_0_62_1]; show v_ad (w_fd w2 _ _) = v_ad (w_fd w1 _ _); rw [s2.2, if_neg (fun e => absurd e.2 (by decide))]
  have ar_0_63_1 : w_ar w1 (n_v vs 0) 63 = w_ar ws (n_v vs 0) 63 := by show v_ad (w_fd w1 _ _) = v_ad (w_fd ws _ _); rw [s1.2, if_neg (fun e => absurd e.2 (by decide))]
  have ar_0_63_2 : w_ar w2 (n_v vs 0) 63 = w_ar ws (n_v vs 0) 63 := by rw [← ar_0_63_1]; show v_ad (w_fd w2 _ _) = v_ad (w_fd w1 _ _); rw [s2.2, if_neg (fun e => absurd e.2 (by decide))]
  have g17 : v_iv (n_v vs 7) = w_fi w1 (n_v vs 0) 145 := congrArg v_iv f17
  have g32 : v_iv (n_v vs 6) = w_fi w2 (n_v vs 0) 144 := congrArg v_iv f32
  simp only [ar_0_2_2, ar_0_62_2, ar_0_63_2] at f39
  have fe_0_5_1 : w_fi ws (n_v vs 0) 5 = w_fi w1 (n_v vs 0) 5 := by show v_iv (w_fd _ _ _) = v_iv (w_fd _ _ _); rw [s1.2, if_neg (fun e => absurd e.2 (by decide))]
  have fe_0_139_1 : w_fi ws (n_v vs 0) 139 = w_fi w1 (n_v vs 0) 139 := by show v_iv (w_fd _ _ _) = v_iv (w_fd _ _ _); rw [s1.2, if_neg (fun e => absurd e.2 (by decide))]
  have fe_0_144_1 : w_fi ws (n_v vs 0) 144 = w_fi w1 (n_v vs 0) 144 := by show v_iv (w_fd _ _ _) = v_iv (w_fd _ _ _); rw [s1.2, if_neg (fun e => absurd e.2 (by decide))]
  have fe_0_145_1 : w_fi ws (n_v vs 0) 145 = v_iv (n_v vs 18) := by show v_iv (w_fd _ _ _) = _; rw [s1.2, if_pos ⟨rfl, rfl⟩]
  have fe_0_5_2 : w_fi w1 (n_v vs 0) 5 = w_fi w2 (n_v vs 0) 5 := by show v_iv (w_fd _ _ _) = v_iv (w_fd _ _ _); rw [s2.2, if_neg (fun e => absurd e.2 (by decide))]
  have fe_0_139_2 : w_fi w1 (n_v vs 0) 139 = w_fi w2 (n_v vs 0) 139 := by show v_iv (w_fd _ _ _) = v_iv (w_fd _ _ _); rw [s2.2, if_neg (fun e => absurd e.2 (by decide))]
  have fe_0_144_2 : w_fi w1 (n_v vs 0) 144 = v_iv (n_v vs 13) := by show v_iv (w_fd _ _ _) = _; rw [s2.2, if_pos ⟨rfl, rfl⟩]
  have fe_0_145_2 : w_fi w1 (n_v vs 0) 145 = w_fi w2 (n_v vs 0) 145 := by show v_iv (w_fd _ _ _) = v_iv (w_fd _ _ _); rw [s2.2, if_neg (fun e => absurd e.2 (by decide))]
  have hE_0_2_1 : ∀ j : Int, w_ei ws (w_ar ws (n_v vs 0) 2) j = w_ei w1 (w_ar ws (n_v vs 0) 2) j := fun j => s1.1 _ _
  have hE_0_2_2 : ∀ j : Int, w_ei w1 (w_ar ws (n_v vs 0) 2) j = w_ei w2 (w_ar ws (n_v vs 0) 2) j := fun j => s2.1 _ _
  have hE_0_62_1 : ∀ j : Int, w_ei ws (w_ar ws (n_v vs 0) 62) j = w_ei w1 (w_ar ws (n_v vs 0) 62) j := fun j => s1.1 _ _
  have hE_0_62_2 : ∀ j : Int, w_ei w1 (w_ar ws (n_v vs 0) 62) j = w_ei w2 (w_ar ws (n_v vs 0) 62) j := fun j => s2.1 _ _
  have hE_0_63_1 : ∀ j : Int, w_ei ws (w_ar ws (n_v vs 0) 63) j = w_ei w1 (w_ar ws (n_v vs 0) 63) j := fun j => s1.1 _ _
  have hE_0_63_2 : ∀ j : Int, w_ei w1 (w_ar ws (n_v vs 0) 63) j = w_ei w2 (w_ar ws (n_v vs 0) 63) j := fun j => s2.1 _ _
  have kz_0_139 := fdq_171 hD hth r0
  have kz_0_144 := fdq_316 hD hth r0
  have kz_0_145 := fdq_317 hD hth r0
  have nf0 : fc_1 PRD (20, [0, 3, 21, 22], [60, 3, 2, 389, 144, 145, 139, 62, 63]) ws (vs) := ⟨nf_in hl rfl, sgq_1967 (vc_Mo_route_7_0 (v_iv (n_v vs 3)) (v_iv (n_v vs 4)) (v_iv (n_v vs 5)) (v_iv (n_v vs 6)) (v_iv (n_v vs 7)) (v_iv (n_v vs 11)) (v_iv (n_v vs 12)) (v_iv (n_v vs 13)) (v_iv (n_v vs 14)) (v_iv (n_v vs 15)) (v_iv (n_v vs 16)) (v_iv (n_v vs 18)) (v_iv (n_v vs 19)) (v_iv (n_v vs 21)) (v_iv (n_v vs 22)) (w_ei ws (w_ar ws (n_v vs 0) 63)) (w_fi ws (n_v vs 0) 139) (w_ei ws (w_ar ws (n_v vs 0) 62)) (w_ei ws (w_ar ws (n_v vs 0) 2)) (w_fi ws (n_v vs 0) 5) (w_ei w1 (w_ar ws (n_v vs 0) 63)) (w_fi w1 (n_v vs 0) 139) (w_fi w1 (n_v vs 0) 145) (w_ei w1 (w_ar ws (n_v vs 0) 62)) (w_ei w1 (w_ar ws (n_v vs 0) 2)) (w_fi w1 (n_v vs 0) 5) (w_ei w2 (w_ar ws (n_v vs 0) 62)) (w_fi w2 (n_v vs 0) 139) (w_fi w2 (n_v vs 0) 144) (w_ei w2 (w_ar ws (n_v vs 0) 2)) (w_fi w2 (n_v vs 0) 5) (w_ei w2 (w_ar ws (n_v vs 0) 63)) (w_fi w2 (n_v vs 0) 145) (w_fi ws (n_v vs 0) 144) (w_fi w1 (n_v vs 0) 144) (w_fi ws (n_v vs 0) 145) k3 k4 k5 k6 k7 k11 k12 k13 k14 k15 k16 k18 k19 k21 k22 d3 d4 d5 d6 d9 d10 (shm_4 f0) (shm_24 f1) (shm_687 f4) (shm_687 f5) (shm_685 f6) (shm_685 f7) g17 (shm_134 f18) (shm_12 f20) (shm_14 f30) g32 f39 fe_0_5_1 fe_0_139_1 fe_0_144_1 fe_0_145_1 fe_0_5_2 fe_0_139_2 fe_0_144_2 fe_0_145_2 hE_0_2_1 hE_0_2_2 hE_0_62_1 hE_0_62_2 hE_0_63_1 hE_0_63_2 kz_0_139 kz_0_144 kz_0_145)⟩
  refine ⟨(fun _ h => (by cases h)), [], trivial, ?_, (fun _ h => (by cases h))⟩
  rw [List.append_nil]
  exact List.forall_mem_cons.mpr ⟨⟨show (20 : Nat) < 100 from by decide, nf0⟩, (fun _ h => (by cases h))⟩
set_option maxHeartbeats 4000000 in
theorem vc_Mo_route_8_0 (x3 : Int) (x4 : Int) (x5 : Int) (x6 : Int) (x7 : Int) (x11 : Int) (x12 : Int) (x13 : Int) (x14 : Int) (x15 : Int) (x16 : Int) (x18 : Int) (x19 : Int) (x21 : Int) (x22 : Int) (nodeY_0 : Int → Int) (g0_0 : Int) (nodeX_0 : Int → Int) (all_0 : Int → Int) (r_0 : Int) (nodeY_1 : Int → Int) (g0_1 : Int) (top0_1 : Int) (nodeX_1 : Int → Int) (all_1 : Int → Int) (r_1 : Int) (nodeX_2 : Int → Int) (g0_2 : Int) (left0_2 : Int) (all_2 : Int → Int) (r_2 : Int) (nodeY_2 : Int → Int) (top0_2 : Int) (left0_0 : Int) (left0_1 : Int) (top0_0 : Int) (k3 : (-2000000) ≤ x3 ∧ x3 ≤ 300000011) (k4 : (-2000000) ≤ x4 ∧ x4 ≤ 300000003) (k5 : 0 ≤ x5 ∧ x5 ≤ 23) (k6 : (-300000011) ≤ x6 ∧ x6 ≤ 2000000) (k7 : (-300000003) ≤ x7 ∧ x7 ≤ 2000000) (k11 : 3 ≤ x11 ∧ x11 ≤ 11) (k12 : (-300000000) ≤ x12 ∧ x12 ≤ 300000000) (k13 : (-300000011) ≤ x13 ∧ x13 ≤ 2000000) (k14 : (-300000000) ≤ x14 ∧ x14 ≤ 300000000) (k15 : (-299999997) ≤ x15 ∧ x15 ≤ 300000010) (k16 : (-300000000) ≤ x16 ∧ x16 ≤ 300000000) (k18 : (-300000003) ≤ x18 ∧ x18 ≤ 2000000) (k19 : (-300000000) ≤ x19 ∧ x19 ≤ 300000000) (k21 : (-299999997) ≤ x21 ∧ x21 ≤ 300000002) (k22 : 1 ≤ x22 ∧ x22 ≤ 24) (d2 : x21 + 1 ≤ x4 ∧ x4 ≤ x21 + 4294967296) (d3 : x19 + 3 ≤ x21 ∧ x21 ≤ x19 + 3) (d4 : x18 + 0 ≤ x7 ∧ x7 ≤ x18 + 4294967296) (d5 : x16 + (-3) ≤ x18 ∧ x18 ≤ x16 + (-3)) (d6 : x15 + 1 ≤ x3 ∧ x3 ≤ x15 + 4294967296) (d9 : x14 + 3 ≤ x15 ∧ x15 ≤ x14 + 11) (d10 : x13 + 0 ≤ x6 ∧ x6 ≤ x13 + 4294967296) (f0 : x22 = x5 + 1) (f1 : x4 ≤ x4) (f4 : x19 = nodeY_0 (((24 * g0_0) + x5))) (f5 : x16 = nodeY_0 (((24 * g0_0) + x5))) (f6 : x14 = nodeX_0 (((24 * g0_0) + x5))) (f7 : x12 = nodeX_0 (((24 * g0_0) + x5))) (g17 : x7 = top0_1) (f18 : x3 ≤ x3) (f20 : x15 = x14 + x11) (f30 : x13 = x12 - x11) (g32 : x6 = left0_2) (f39 : RTB (left0_2) (top0_2) (g0_2) (nodeX_2) (nodeY_2) (x3) (x4) (x5)) (fe_0_5_1 : r_0 = r_1) (fe_0_139_1 : g0_0 = g0_1) (fe_0_144_1 : left0_0 = left0_1) (fe_0_145_1 : top0_0 = x18) (fe_0_5_2 : r_1 = r_2) (fe_0_139_2 : g0_1 = g0_2) (fe_0_144_2 : left0_1 = x13) (fe_0_145_2 : top0_1 = top0_2) (hE_0_2_1 : ∀ j : Int, all_0 j = all_1 j) (hE_0_2_2 : ∀ j : Int, all_1 j = all_2 j) (hE_0_62_1 : ∀ j : Int, nodeX_0 j = nodeX_1 j) (hE_0_62_2 : ∀ j : Int, nodeX_1 j = nodeX_2 j) (hE_0_63_1 : ∀ j : Int, nodeY_0 j = nodeY_1 j) (hE_0_63_2 : ∀ j : Int, nodeY_1 j = nodeY_2 j) (kz_0_139 : 0 ≤ g0_0 ∧ g0_0 ≤ 3) (kz_0_144 : (-300000011) ≤ left0_0 ∧ left0_0 ≤ 2000000) (kz_0_145 : (-300000003) ≤ top0_0 ∧ top0_0 ≤ 2000000) : RTB (left0_0) (top0_0) (g0_0) (nodeX_0) (nodeY_0) (x3) (x4) (x22) := by
  subst fe_0_5_1
  subst fe_0_139_1
  subst fe_0_144_1
  subst fe_0_5_2
  subst fe_0_139_2
  subst fe_0_145_2
  have e_hE_0_2_1 := funext hE_0_2_1; subst e_hE_0_2_1
  have e_hE_0_2_2 := funext hE_0_2_2; subst e_hE_0_2_2
  have e_hE_0_62_1 := funext hE_0_62_1; subst e_hE_0_62_1
  have e_hE_0_62_2 := funext hE_0_62_2; subst e_hE_0_62_2
  have e_hE_0_63_1 := funext hE_0_63_1; subst e_hE_0_63_1
  have e_hE_0_63_2 := funext hE_0_63_2; subst e_hE_0_63_2
  first
    | (intro v a b; exfalso; omega)
    | exact rtb_step (w := x11) (x := nodeX_0 (24 * g0_0 + x5)) (y := nodeY_0 (24 * g0_0 + x5)) ‹RTB _ _ _ _ _ _ _ _› (by omega) (by omega) rfl rfl (by omega) (by omega) (by omega) (by omega) (by omega) (by omega) (by omega) (by omega)
  
def o_Mo_route_8 : or_T := (50, 23, [(0, (2, 0, 0, [165])), (2, (0, 0, 47, [])), (3, (0, -2000000, 300000011, [])), (4, (0, -2000000, 300000003, [])), (5, (0, 0, 23, [])), (6, (0, -300000011, 2000000, [])), (7, (0, -300000003, 2000000, [])), (8, (0, 1, 24, [])), (9, (0, 0, 8, [])), (10, (0, 3, 3, [])), (11, (0, 3, 11, [])), (12, (0, -300000000, 300000000, [])), (13, (0, -300000011, 2000000, [])), (14, (0, -300000000, 300000000, [])), (15, (0, -299999997, 300000010, [])), (16, (0, -300000000, 300000000, [])), (17, (0, 3, 3, [])), (18, (0, -300000003, 2000000, [])), (19, (0, -300000000, 300000000, [])), (20, (0, 3, 3, [])), (21, (0, -299999997, 300000002, [])), (22, (0, 1, 24, []))], [(6, [22, 5], [1]), (7, [4, 4], [5]), (7, [21, 4], [5]), (1, [21, 19, 20], []), (20, [19, 0, 5], [50, 1, 1, 1139, 1063, 1, 2, 1, 0, 3, 1, 63, 4, 7, 6, 2, 0, 24, 2, 1, 139, 1, 2]), (20, [16, 0, 5], [50, 1, 1, 1139, 1063, 1, 2, 1, 0, 3, 1, 63, 4, 7, 6, 2, 0, 24, 2, 1, 139, 1, 2]), (20, [14, 0, 5], [50, 1, 1, 1139, 1062, 1, 2, 1, 0, 3, 1, 62, 4, 7, 6, 2, 0, 24, 2, 1, 139, 1, 2]), (20, [12, 0, 5], [50, 1, 1, 1139, 1062, 1, 2, 1, 0, 3, 1, 62, 4, 7, 6, 2, 0, 24, 2, 1, 139, 1, 2]), (20, [8, 0], [30, 0, 1, 0, 0, -1, 3, 2005000]), (20, [8, 0], [30, 0, -1, 0, 0, 1, 3, 2005000]), (20, [0], [60, 1, 1, 197, 5, 2]), (20, [2, 0], [50, 1, 1, 1005, 1002, 0, 6, 4, 2, 1, 0, 0, 1, 3, 1, 2, 4, 3, 2, 1, 5, 0, 1]), (101, [0, 18], [145]), (7, [18, 7], [5]), (7, [18, 18], [5]), (2, [18, 16, 17], []), (20, [16, 0, 5], [50, 1, 1, 1139, 1063, 1, 2, 1, 0, 3, 1, 63, 4, 7, 6, 2, 0, 24, 2, 1, 139, 1, 2]), (9, [7, 0], [145]), (7, [3, 3], [5]), (7, [15, 3], [5]), (1, [15, 14, 11], []), (20, [14, 0, 5], [50, 1, 1, 1139, 1062, 1, 2, 1, 0, 3, 1, 62, 4, 7, 6, 2, 0, 24, 2, 1, 139, 1, 2]), (20, [12, 0, 5], [50, 1, 1, 1139, 1062, 1, 2, 1, 0, 3, 1, 62, 4, 7, 6, 2, 0, 24, 2, 1, 139, 1, 2]), (20, [8, 0], [30, 0, 1, 0, 0, -1, 3, 2005000]), (20, [8, 0], [30, 0, -1, 0, 0, 1, 3, 2005000]), (20, [0], [60, 1, 1, 197, 5, 2]), (20, [2, 0], [50, 1, 1, 1005, 1002, 0, 6, 4, 2, 1, 0, 0, 1, 3, 1, 2, 4, 3, 2, 1, 5, 0, 1]), (101, [0, 13], [144]), (7, [13, 6], [5]), (7, [13, 13], [5]), (2, [13, 12, 11], []), (20, [12, 0, 5], [50, 1, 1, 1139, 1062, 1, 2, 1, 0, 3, 1, 62, 4, 7, 6, 2, 0, 24, 2, 1, 139, 1, 2]), (9, [6, 0], [144]), (1, [11, 9, 10], []), (7, [5, 8], [2]), (20, [8, 0], [30, 0, 1, 0, 0, -1, 3, 2005000]), (20, [8, 0], [30, 0, -1, 0, 0, 1, 3, 2005000]), (20, [0], [60, 1, 1, 197, 5, 2]), (20, [2, 0], [50, 1, 1, 1005, 1002, 0, 6, 4, 2, 1, 0, 0, 1, 3, 1, 2, 4, 3, 2, 1, 5, 0, 1]), (20, [0, 3, 4, 5], [60, 3, 2, 389, 144, 145, 139, 62, 63])], [], [], [(20, [0, 3, 4, 22], [60, 3, 2, 389, 144, 145, 139, 62, 63])], [], [(22, 5, 1, 1), (22, 8, -4294967296, 0), (4, 21, 1, 4294967296), (21, 19, 3, 3), (7, 18, 0, 4294967296), (18, 16, -3, -3), (3, 15, 1, 4294967296), (15, 11, -300000000, 300000000), (15, 9, -299999997, 300000003), (15, 14, 3, 11), (6, 13, 0, 4294967296), (13, 12, -11, -3), (11, 9, 3, 3), (5, 8, -4294967296, -1), (3, 5, -4294967296, 300000010), (4, 5, -4294967296, 300000002)])
theorem oo_Mo_route_8 {kA : Nat → ClassId} : or_ok PRD kA GG o_Mo_route_8 := by
  refine or_mk fun A ta ws vs hD hth hl => ?_
  intro t0 r0 t2 k2 t3 k3 t4 k4 t5 k5 t6 k6 t7 k7 t8 k8 t9 k9 t10 k10 t11 k11 t12 k12 t13 k13 t14 k14 t15 k15 t16 k16 t17 k17 t18 k18 t19 k19 t20 k20 t21 k21 t22 k22 d0 d1 d2 d3 d4 d5 d6 d7 d8 d9 d10 d11 d12 d13 d14 d15 f0 f1 f2 f3 f4 f5 f6 f7 f8 f9 f10 f11 ta1 w1 le1 s1 f13 f14 f15 f16 f17 f18 f19 f20 f21 f22 f23 f24 f25 f26 ta2 w2 le2 s2 f28 f29 f30 f31 f32 f33 f34 f35 f36 f37 f38 f39
  have s1 : (∀ b j, w_el ws b j = w_el w1 b j) ∧ ∀ b j, w_fd ws b j = if b = v_ad (n_v vs 0) ∧ j = 145 then n_v vs 18 else w_fd w1 b j := s1.2
  replace f17 := shm_1968 f17
  have s2 : (∀ b j, w_el w1 b j = w_el w2 b j) ∧ ∀ b j, w_fd w1 b j = if b = v_ad (n_v vs 0) ∧ j = 144 then n_v vs 13 else w_fd w2 b j := s2.2
  replace f32 := shm_1969 f32
  replace f39 := shm_1967 f39
  have ar_0_2_1 : w_ar w1 (n_v vs 0) 2 = w_ar ws (n_v vs 0) 2 := by show v_ad (w_fd w1 _ _) = v_ad (w_fd ws _ _); rw [s1.2, if_neg (fun e => absurd e.2 (by decide))]
  have ar_0_2_2 : w_ar w2 (n_v vs 0) 2 = w_ar ws (n_v vs 0) 2 := by rw [← ar_0_2_1]; show v_ad (w_fd w2 _ _) = v_ad (w_fd w1 _ _); rw [s2.2, if_neg (fun e => absurd e.2 (by decide))]
  have ar_0_62_1 : w_ar w1 (n_v vs 0) 62 = w_ar ws (n_v vs 0) 62 := by show v_ad (w_fd w1 _ _) = v_ad (w_fd ws _ _); rw [s1.2, if_neg (fun e => absurd e.2 (by decide))]
  have ar_0_62_2 : w_ar w2 (n_v vs 0) 62 = w_ar ws (n_v vs 0) 62 := by rw [← ar_0_62_1]; show v_ad (w_fd w2 _ _) = v_ad (w_fd w1 _ _); rw [s2.2, if_neg (fun e => absurd e.2 (by decide))]
  have ar_0_63_1 : w_ar w1 (n_v vs 0) 63 = w_ar ws (n_v vs 0) 63 := by show v_ad (w_fd w1 _ _) = v_ad (w_fd ws _ _); rw [s1.2, if_neg (fun e => absurd e.2 (by decide))]
  have ar_0_63_2 : w_ar w2 (n_v vs 0) 63 = w_ar ws (n_v vs 0) 63 := by rw [← ar_0_63_1]; show v_ad (w_fd w2 _ _) = v_ad (w_fd w1 _ _); rw [s2.2, if_neg (fun e => absurd e.2 (by decide))]
  have g17 : v_iv (n_v vs 7) = w_fi w1 (n_v vs 0) 145 := congrArg v_iv f17
  have g32 : v_iv (n_v vs 6) = w_fi w2 (n_v vs 0) 144 := congrArg v_iv f32
  simp only [ar_0_2_2, ar_0_62_2, ar_0_63_2] at f39
  have fe_0_5_1 : w_fi ws (n_v vs 0) 5 = w_fi w1 (n_v vs 0) 5 := by show v_iv (w_fd _ _ _) = v_iv (w_fd _ _ _); rw [s1.2, if_neg (fun e => absurd e.2 (by decide))]
  have fe_0_139_1 : w_fi ws (n_v vs 0) 139 = w_fi w1 (n_v vs 0) 139 := by show v_iv (w_fd _ _ _) = v_iv (w_fd _ _ _); rw [s1.2, if_neg (fun e => absurd e.2 (by decide))]
  have fe_0_144_1 : w_fi ws (n_v vs 0) 144 = w_fi w1 (n_v vs 0) 144 := by show v_iv (w_fd _ _ _) = v_iv (w_fd _ _ _); rw [s1.2, if_neg (fun e => absurd e.2 (by decide))]
  have fe_0_145_1 : w_fi ws (n_v vs 0) 145 = v_iv (n_v vs 18) := by show v_iv (w_fd _ _ _) = _; rw [s1.2, if_pos ⟨rfl, rfl⟩]
  have fe_0_5_2 : w_fi w1 (n_v vs 0) 5 = w_fi w2 (n_v vs 0) 5 := by show v_iv (w_fd _ _ _) = v_iv (w_fd _ _ _); rw [s2.2, if_neg (fun e => absurd e.2 (by decide))]
  have fe_0_139_2 : w_fi w1 (n_v vs 0) 139 = w_fi w2 (n_v vs 0) 139 := by show v_iv (w_fd _ _ _) = v_iv (w_fd _ _ _); rw [s2.2, if_neg (fun e => absurd e.2 (by decide))]
  have fe_0_144_2 : w_fi w1 (n_v vs 0) 144 = v_iv (n_v vs 13) := by show v_iv (w_fd _ _ _) = _; rw [s2.2, if_pos ⟨rfl, rfl⟩]
  have fe_0_145_2 : w_fi w1 (n_v vs 0) 145 = w_fi w2 (n_v vs 0) 145 := by show v_iv (w_fd _ _ _) = v_iv (w_fd _ _ _); rw [s2.2, if_neg (fun e => absurd e.2 (by decide))]
  have hE_0_2_1 : ∀ j : Int, w_ei ws (w_ar ws (n_v vs 0) 2) j = w_ei w1 (w_ar ws (n_v vs 0) 2) j := fun j => s1.1 _ _
  have hE_0_2_2 : ∀ j : Int, w_ei w1 (w_ar ws (n_v vs 0) 2) j = w_ei w2 (w_ar ws (n_v vs 0) 2) j := fun j => s2.1 _ _
  have hE_0_62_1 : ∀ j : Int, w_ei ws (w_ar ws (n_v vs 0) 62) j = w_ei w1 (w_ar ws (n_v vs 0) 62) j := fun j => s1.1 _ _
  have hE_0_62_2 : ∀ j : Int, w_ei w1 (w_ar ws (n_v vs 0) 62) j = w_ei w2 (w_ar ws (n_v vs 0) 62) j := fun j => s2.1 _ _
  have hE_0_63_1 : ∀ j : Int, w_ei ws (w_ar ws (n_v vs 0) 63) j = w_ei w1 (w_ar ws (n_v vs 0) 63) j := fun j => s1.1 _ _
  have hE_0_63_2 : ∀ j : Int, w_ei w1 (w_ar ws (n_v vs 0) 63) j = w_ei w2 (w_ar ws (n_v vs 0) 63) j := fun j => s2.1 _ _
  have kz_0_139 := fdq_171 hD hth r0
  have kz_0_144 := fdq_316 hD hth r0
  have kz_0_145 := fdq_317 hD hth r0
  have nf0 : fc_1 PRD (20, [0, 3, 4, 22], [60, 3, 2, 389, 144, 145, 139, 62, 63]) ws (vs) := ⟨nf_in hl rfl, sgq_1967 (vc_Mo_route_8_0 (v_iv (n_v vs 3)) (v_iv (n_v vs 4)) (v_iv (n_v vs 5)) (v_iv (n_v vs 6)) (v_iv (n_v vs 7)) (v_iv (n_v vs 11)) (v_iv (n_v vs 12)) (v_iv (n_v vs 13)) (v_iv (n_v vs 14)) (v_iv (n_v vs 15)) (v_iv (n_v vs 16)) (v_iv (n_v vs 18)) (v_iv (n_v vs 19)) (v_iv (n_v vs 21)) (v_iv (n_v vs 22)) (w_ei ws (w_ar ws (n_v vs 0) 63)) (w_fi ws (n_v vs 0) 139) (w_ei ws (w_ar ws (n_v vs 0) 62)) (w_ei ws (w_ar ws (n_v vs 0) 2)) (w_fi ws (n_v vs 0) 5) (w_ei w1 (w_ar ws (n_v vs 0) 63)) (w_fi w1 (n_v vs 0) 139) (w_fi w1 (n_v vs 0) 145) (w_ei w1 (w_ar ws (n_v vs 0) 62)) (w_ei w1 (w_ar ws (n_v vs 0) 2)) (w_fi w1 (n_v vs 0) 5) (w_ei w2 (w_ar ws (n_v vs 0) 62)) (w_fi w2 (n_v vs 0) 139) (w_fi w2 (n_v vs 0) 144) (w_ei w2 (w_ar ws (n_v vs 0) 2)) (w_fi w2 (n_v vs 0) 5) (w_ei w2 (w_ar ws (n_v vs 0) 63)) (w_fi w2 (n_v vs 0) 145) (w_fi ws (n_v vs 0) 144) (w_fi w1 (n_v vs 0) 144) (w_fi ws (n_v vs 0) 145) k3 k4 k5 k6 k7 k11 k12 k13 k14 k15 k16 k18 k19 k21 k22 d2 d3 d4 d5 d6 d9 d10 (shm_4 f0) (shm_134 f1) (shm_687 f4) (shm_687 f5) (shm_685 f6) (shm_685 f7) g17 (shm_134 f18) (shm_12 f20) (shm_14 f30) g32 f39 fe_0_5_1 fe_0_139_1 fe_0_144_1 fe_0_145_1 fe_0_5_2 fe_0_139_2 fe_0_144_2 fe_0_145_2 hE_0_2_1 hE_0_2_2 hE_0_62_1 hE_0_62_2 hE_0_63_1 hE_0_63_2 kz_0_139 kz_0_144 kz_0_145)⟩
  refine ⟨(fun _ h => (by cases h)), [], trivial, ?_, (fun _ h => (by cases h))⟩
  rw [List.append_nil]
  exact List.forall_mem_cons.mpr ⟨⟨show (20 : Nat) < 100 from by decide, nf0⟩, (fun _ h => (by cases h))⟩
set_option maxHeartbeats 4000000 in
theorem vc_Mo_route_9_0 (x3 : Int) (x4 : Int) (x5 : Int) (x6 : Int) (x7 : Int) (x11 : Int) (x12 : Int) (x13 : Int) (x14 : Int) (x15 : Int) (x16 : Int) (x18 : Int) (x19 : Int) (x21 : Int) (x22 : Int) (nodeY_0 : Int → Int) (g0_0 : Int) (nodeX_0 : Int → Int) (all_0 : Int → Int) (r_0 : Int) (nodeY_1 : Int → Int) (g0_1 : Int) (top0_1 : Int) (nodeX_1 : Int → Int) (all_1 : Int → Int) (r_1 : Int) (nodeX_2 : Int → Int) (g0_2 : Int) (left0_2 : Int) (all_2 : Int → Int) (r_2 : Int) (nodeY_2 : Int → Int) (top0_2 : Int) (left0_0 : Int) (left0_1 : Int) (top0_0 : Int) (k3 : (-2000000) ≤ x3 ∧ x3 ≤ 300000011) (k4 : (-2000000) ≤ x4 ∧ x4 ≤ 300000003) (k5 : 0 ≤ x5 ∧ x5 ≤ 23) (k6 : (-300000011) ≤ x6 ∧ x6 ≤ 2000000) (k7 : (-300000003) ≤ x7 ∧ x7 ≤ 2000000) (k11 : 3 ≤ x11 ∧ x11 ≤ 11) (k12 : (-300000000) ≤ x12 ∧ x12 ≤ 300000000) (k13 : (-300000011) ≤ x13 ∧ x13 ≤ 2000000) (k14 : (-300000000) ≤ x14 ∧ x14 ≤ 300000000) (k15 : (-299999997) ≤ x15 ∧ x15 ≤ 300000010) (k16 : (-300000000) ≤ x16 ∧ x16 ≤ 300000000) (k18 : (-300000002) ≤ x18 ∧ x18 ≤ 299999997) (k19 : (-300000000) ≤ x19 ∧ x19 ≤ 300000000) (k21 : (-2000000) ≤ x21 ∧ x21 ≤ 300000003) (k22 : 1 ≤ x22 ∧ x22 ≤ 24) (d3 : x19 + 3 ≤ x21 ∧ x21 ≤ x19 + 3) (d4 : x18 + (-4294967296) ≤ x7 ∧ x7 ≤ x18 + (-1)) (d5 : x16 + (-3) ≤ x18 ∧ x18 ≤ x16 + (-3)) (d6 : x15 + 1 ≤ x3 ∧ x3 ≤ x15 + 4294967296) (d9 : x14 + 3 ≤ x15 ∧ x15 ≤ x14 + 11) (d10 : x13 + 0 ≤ x6 ∧ x6 ≤ x13 + 4294967296) (f0 : x22 = x5 + 1) (f1 : x4 ≤ x21) (f4 : x19 = nodeY_0 (((24 * g0_0) + x5))) (f5 : x16 = nodeY_0 (((24 * g0_0) + x5))) (f6 : x14 = nodeX_0 (((24 * g0_0) + x5))) (f7 : x12 = nodeX_0 (((24 * g0_0) + x5))) (g17 : x7 = top0_1) (f18 : x3 ≤ x3) (f20 : x15 = x14 + x11) (f30 : x13 = x12 - x11) (g32 : x6 = left0_2) (f39 : RTB (left0_2) (top0_2) (g0_2) (nodeX_2) (nodeY_2) (x3) (x4) (x5)) (fe_0_5_1 : r_0 = r_1) (fe_0_139_1 : g0_0 = g0_1) (fe_0_144_1 : left0_0 = left0_1) (fe_0_145_1 : top0_0 = x7) (fe_0_5_2 : r_1 = r_2) (fe_0_139_2 : g0_1 = g0_2) (fe_0_144_2 : left0_1 = x13) (fe_0_145_2 : top0_1 = top0_2) (hE_0_2_1 : ∀ j : Int, all_0 j = all_1 j) (hE_0_2_2 : ∀ j : Int, all_1 j = all_2 j) (hE_0_62_1 : ∀ j : Int, nodeX_0 j = nodeX_1 j) (hE_0_62_2 : ∀ j : Int, nodeX_1 j = nodeX_2 j) (hE_0_63_1 : ∀ j : Int, nodeY_0 j = nodeY_1 j) (hE_0_63_2 : ∀ j : Int, nodeY_1 j = nodeY_2 j) (kz_0_139 : 0 ≤ g0_0 ∧ g0_0 ≤ 3) (kz_0_144 : (-300000011) ≤ left0_0 ∧ left0_0 ≤ 2000000) (kz_0_145 : (-300000003) ≤ top0_0 ∧ top0_0 ≤ 2000000) : RTB (left0_0) (top0_0) (g0_0) (nodeX_0) (nodeY_0) (x3) (x21) (x22) := by
  subst fe_0_5_1
  subst fe_0_139_1
  subst fe_0_144_1
  subst fe_0_5_2
  subst fe_0_139_2
  subst fe_0_145_2
  have e_hE_0_2_1 := funext hE_0_2_1; subst e_hE_0_2_1
  have e_hE_0_2_2 := funext hE_0_2_2; subst e_hE_0_2_2
  have e_hE_0_62_1 := funext hE_0_62_1; subst e_hE_0_62_1
  have e_hE_0_62_2 := funext hE_0_62_2; subst e_hE_0_62_2
  have e_hE_0_63_1 := funext hE_0_63_1; subst e_hE_0_63_1
  have e_hE_0_63_2 := funext hE_0_63_2; subst e_hE_0_63_2
  first
    | (intro v a b; exfalso; omega)
    | exact rtb_step (w := x11) (x := nodeX_0 (24 * g0_0 + x5)) (y := nodeY_0 (24 * g0_0 + x5)) ‹RTB _ _ _ _ _ _ _ _› (by omega) (by omega) rfl rfl (by omega) (by omega) (by omega) (by omega) (by omega) (by omega) (by omega) (by omega)
  
def o_Mo_route_9 : or_T := (50, 23, [(0, (2, 0, 0, [165])), (2, (0, 0, 47, [])), (3, (0, -2000000, 300000011, [])), (4, (0, -2000000, 300000003, [])), (5, (0, 0, 23, [])), (6, (0, -300000011, 2000000, [])), (7, (0, -300000003, 2000000, [])), (8, (0, 1, 24, [])), (9, (0, 0, 8, [])), (10, (0, 3, 3, [])), (11, (0, 3, 11, [])), (12, (0, -300000000, 300000000, [])), (13, (0, -300000011, 2000000, [])), (14, (0, -300000000, 300000000, [])), (15, (0, -299999997, 300000010, [])), (16, (0, -300000000, 300000000, [])), (17, (0, 3, 3, [])), (18, (0, -300000002, 299999997, [])), (19, (0, -300000000, 300000000, [])), (20, (0, 3, 3, [])), (21, (0, -2000000, 300000003, [])), (22, (0, 1, 24, []))], [(6, [22, 5], [1]), (7, [4, 21], [5]), (7, [21, 21], [5]), (1, [21, 19, 20], []), (20, [19, 0, 5], [50, 1, 1, 1139, 1063, 1, 2, 1, 0, 3, 1, 63, 4, 7, 6, 2, 0, 24, 2, 1, 139, 1, 2]), (20, [16, 0, 5], [50, 1, 1, 1139, 1063, 1, 2, 1, 0, 3, 1, 63, 4, 7, 6, 2, 0, 24, 2, 1, 139, 1, 2]), (20, [14, 0, 5], [50, 1, 1, 1139, 1062, 1, 2, 1, 0, 3, 1, 62, 4, 7, 6, 2, 0, 24, 2, 1, 139, 1, 2]), (20, [12, 0, 5], [50, 1, 1, 1139, 1062, 1, 2, 1, 0, 3, 1, 62, 4, 7, 6, 2, 0, 24, 2, 1, 139, 1, 2]), (20, [8, 0], [30, 0, 1, 0, 0, -1, 3, 2005000]), (20, [8, 0], [30, 0, -1, 0, 0, 1, 3, 2005000]), (20, [0], [60, 1, 1, 197, 5, 2]), (20, [2, 0], [50, 1, 1, 1005, 1002, 0, 6, 4, 2, 1, 0, 0, 1, 3, 1, 2, 4, 3, 2, 1, 5, 0, 1]), (101, [0, 7], [145]), (7, [7, 7], [5]), (7, [7, 18], [5]), (2, [18, 16, 17], []), (20, [16, 0, 5], [50, 1, 1, 1139, 1063, 1, 2, 1, 0, 3, 1, 63, 4, 7, 6, 2, 0, 24, 2, 1, 139, 1, 2]), (9, [7, 0], [145]), (7, [3, 3], [5]), (7, [15, 3], [5]), (1, [15, 14, 11], []), (20, [14, 0, 5], [50, 1, 1, 1139, 1062, 1, 2, 1, 0, 3, 1, 62, 4, 7, 6, 2, 0, 24, 2, 1, 139, 1, 2]), (20, [12, 0, 5], [50, 1, 1, 1139, 1062, 1, 2, 1, 0, 3, 1, 62, 4, 7, 6, 2, 0, 24, 2, 1, 139, 1, 2]), (20, [8, 0], [30, 0, 1, 0, 0, -1, 3, 2005000]), (20, [8, 0], [30, 0, -1, 0, 0, 1, 3, 2005000]), (20, [0], [60, 1, 1, 197, 5, 2]), (20, [2, 0], [50, 1, 1, 1005, 1002, 0, 6, 4, 2, 1, 0, 0, 1, 3, 1, 2, 4, 3, 2, 1, 5, 0, 1]), (101, [0, 13], [144]), (7, [13, 6], [5]), (7, [13, 13], [5]), (2, [13, 12, 11], []), (20, [12, 0, 5], [50, 1, 1, 1139, 1062, 1, 2, 1, 0, 3, 1, 62, 4, 7, 6, 2, 0, 24, 2, 1, 139, 1, 2]), (9, [6, 0], [144]), (1, [11, 9, 10], []), (7, [5, 8], [2]), (20, [8, 0], [30, 0, 1, 0, 0, -1, 3, 2005000]), (20, [8, 0], [30, 0, -1, 0, 0, 1, 3, 2005000]), (20, [0], [60, 1, 1, 197, 5, 2]), (20, [2, 0], [50, 1, 1, 1005, 1002, 0, 6, 4, 2, 1, 0, 0, 1, 3, 1, 2, 4, 3, 2, 1, 5, 0, 1]), (20, [0, 3, 4, 5], [60, 3, 2, 389, 144, 145, 139, 62, 63])], [], [], [(20, [0, 3, 21, 22], [60, 3, 2, 389, 144, 145, 139, 62, 63])], [], [(22, 5, 1, 1), (22, 8, -4294967296, 0), (4, 21, -4294967296, 0), (21, 19, 3, 3), (7, 18, -4294967296, -1), (18, 16, -3, -3), (3, 15, 1, 4294967296), (15, 11, -300000000, 300000000), (15, 9, -299999997, 300000003), (15, 14, 3, 11), (6, 13, 0, 4294967296), (13, 12, -11, -3), (11, 9, 3, 3), (5, 8, -4294967296, -1), (3, 5, -4294967296, 300000010), (4, 5, -4294967296, 300000002)])
theorem oo_Mo_route_9 {kA : Nat → ClassId} : or_ok PRD kA GG o_Mo_route_9 := by
  refine or_mk fun A ta ws vs hD hth hl => ?_
  intro t0 r0 t2 k2 t3 k3 t4 k4 t5 k5 t6 k6 t7 k7 t8 k8 t9 k9 t10 k10 t11 k11 t12 k12 t13 k13 t14 k14 t15 k15 t16 k16 t17 k17 t18 k18 t19 k19 t20 k20 t21 k21 t22 k22 d0 d1 d2 d3 d4 d5 d6 d7 d8 d9 d10 d11 d12 d13 d14 d15 f0 f1 f2 f3 f4 f5 f6 f7 f8 f9 f10 f11 ta1 w1 le1 s1 f13 f14 f15 f16 f17 f18 f19 f20 f21 f22 f23 f24 f25 f26 ta2 w2 le2 s2 f28 f29 f30 f31 f32 f33 f34 f35 f36 f37 f38 f39
  have s1 : (∀ b j, w_el ws b j = w_el w1 b j) ∧ ∀ b j, w_fd ws b j = if b = v_ad (n_v vs 0) ∧ j = 145 then n_v vs 7 else w_fd w1 b j := s1.2
  replace f17 := shm_1968 f17
  have s2 : (∀ b j, w_el w1 b j = w_el w2 b j) ∧ ∀ b j, w_fd w1 b j = if b = v_ad (n_v vs 0) ∧ j = 144 then n_v vs 13 else w_fd w2 b j := s2.2
  replace f32 := shm_1969 f32
  replace f39 := shm_1967 f39
  have ar_0_2_1 : w_ar w1 (n_v vs 0) 2 = w_ar ws (n_v vs 0) 2 := by show v_ad (w_fd w1 _ _) = v_ad (w_fd ws _ _); rw [s1.2, if_neg (fun e => absurd e.2 (by decide))]
  have ar_0_2_2 : w_ar w2 (n_v vs 0) 2 = w_ar ws (n_v vs 0) 2 := by rw [← ar_0_2_1]; show v_ad (w_fd w2 _ _) = v_ad (w_fd w1 _ _); rw [s2.2, if_neg (fun e => absurd e.2 (by decide))]
  have ar_0_62_1 : w_ar w1 (n_v vs 0) 62 = w_ar ws (n_v vs 0) 62 := by show v_ad (w_fd w1 _ _) = v_ad (w_fd ws _ _); rw [s1.2, if_neg (fun e => absurd e.2 (by decide))]
  have ar_0_62_2 : w_ar w2 (n_v vs 0) 62 = w_ar ws (n_v vs 0) 62 := by rw [← ar_0_62_1]; show v_ad (w_fd w2 _ _) = v_ad (w_fd w1 _ _); rw [s2.2, if_neg (fun e => absurd e.2 (by decide))]
  have ar_0_63_1 : w_ar w1 (n_v vs 0) 63 = w_ar ws (n_v vs 0) 63 := by show v_ad (w_fd w1 _ _) = v_ad (w_fd ws _ _); rw [s1.2, if_neg (fun e => absurd e.2 (by decide))]
  have ar_0_63_2 : w_ar w2 (n_v vs 0) 63 = w_ar ws (n_v vs 0) 63 := by rw [← ar_0_63_1]; show v_ad (w_fd w2 _ _) = v_ad (w_fd w1 _ _); rw [s2.2, if_neg (fun e => absurd e.2 (by decide))]
  have g17 : v_iv (n_v vs 7) = w_fi w1 (n_v vs 0) 145 := congrArg v_iv f17
  have g32 : v_iv (n_v vs 6) = w_fi w2 (n_v vs 0) 144 := congrArg v_iv f32
  simp only [ar_0_2_2, ar_0_62_2, ar_0_63_2] at f39
  have fe_0_5_1 : w_fi ws (n_v vs 0) 5 = w_fi w1 (n_v vs 0) 5 := by show v_iv (w_fd _ _ _) = v_iv (w_fd _ _ _); rw [s1.2, if_neg (fun e => absurd e.2 (by decide))]
  have fe_0_139_1 : w_fi ws (n_v vs 0) 139 = w_fi w1 (n_v vs 0) 139 := by show v_iv (w_fd _ _ _) = v_iv (w_fd _ _ _); rw [s1.2, if_neg (fun e => absurd e.2 (by decide))]
  have fe_0_144_1 : w_fi ws (n_v vs 0) 144 = w_fi w1 (n_v vs 0) 144 := by show v_iv (w_fd _ _ _) = v_iv (w_fd _ _ _); rw [s1.2, if_neg (fun e => absurd e.2 (by decide))]
  have fe_0_145_1 : w_fi ws (n_v vs 0) 145 = v_iv (n_v vs 7) := by show v_iv (w_fd _ _ _) = _; rw [s1.2, if_pos ⟨rfl, rfl⟩]
  have fe_0_5_2 : w_fi w1 (n_v vs 0) 5 = w_fi w2 (n_v vs 0) 5 := by show v_iv (w_fd _ _ _) = v_iv (w_fd _ _ _); rw [s2.2, if_neg (fun e => absurd e.2 (by decide))]
  have fe_0_139_2 : w_fi w1 (n_v vs 0) 139 = w_fi w2 (n_v vs 0) 139 := by show v_iv (w_fd _ _ _) = v_iv (w_fd _ _ _); rw [s2.2, if_neg (fun e => absurd e.2 (by decide))]
  have fe_0_144_2 : w_fi w1 (n_v vs 0) 144 = v_iv (n_v vs 13) := by show v_iv (w_fd _ _ _) = _; rw [s2.2, if_pos ⟨rfl, rfl⟩]
  have fe_0_145_2 : w_fi w1 (n_v vs 0) 145 = w_fi w2 (n_v vs 0) 145 := by show v_iv (w_fd _ _ _) = v_iv (w_fd _ _ _); rw [s2.2, if_neg (fun e => absurd e.2 (by decide))]
  have hE_0_2_1 : ∀ j : Int, w_ei ws (w_ar ws (n_v vs 0) 2) j = w_ei w1 (w_ar ws (n_v vs 0) 2) j := fun j => s1.1 _ _
  have hE_0_2_2 : ∀ j : Int, w_ei w1 (w_ar ws (n_v vs 0) 2) j = w_ei w2 (w_ar ws (n_v vs 0) 2) j := fun j => s2.1 _ _
  have hE_0_62_1 : ∀ j : Int, w_ei ws (w_ar ws (n_v vs 0) 62) j = w_ei w1 (w_ar ws (n_v vs 0) 62) j := fun j => s1.1 _ _
  have hE_0_62_2 : ∀ j : Int, w_ei w1 (w_ar ws (n_v vs 0) 62) j = w_ei w2 (w_ar ws (n_v vs 0) 62) j := fun j => s2.1 _ _
  have hE_0_63_1 : ∀ j : Int, w_ei ws (w_ar ws (n_v vs 0) 63) j = w_ei w1 (w_ar ws (n_v vs 0) 63) j := fun j => s1.1 _ _
  have hE_0_63_2 : ∀ j : Int, w_ei w1 (w_ar ws (n_v vs 0) 63) j = w_ei w2 (w_ar ws (n_v vs 0) 63) j := fun j => s2.1 _ _
  have kz_0_139 := fdq_171 hD hth r0
  have kz_0_144 := fdq_316 hD hth r0
  have kz_0_145 := fdq_317 hD hth r0
  have nf0 : fc_1 PRD (20, [0, 3, 21, 22], [60, 3, 2, 389, 144, 145, 139, 62, 63]) ws (vs) := ⟨nf_in hl rfl, sgq_1967 (vc_Mo_route_9_0 (v_iv (n_v vs 3)) (v_iv (n_v vs 4)) (v_iv (n_v vs 5)) (v_iv (n_v vs 6)) (v_iv (n_v vs 7)) (v_iv (n_v vs 11)) (v_iv (n_v vs 12)) (v_iv (n_v vs 13)) (v_iv (n_v vs 14)) (v_iv (n_v vs 15)) (v_iv (n_v vs 16)) (v_iv (n_v vs 18)) (v_iv (n_v vs 19)) (v_iv (n_v vs 21)) (v_iv (n_v vs 22)) (w_ei ws (w_ar ws (n_v vs 0) 63)) (w_fi ws (n_v vs 0) 139) (w_ei ws (w_ar ws (n_v vs 0) 62)) (w_ei ws (w_ar ws (n_v vs 0) 2)) (w_fi ws (n_v vs 0) 5) (w_ei w1 (w_ar ws (n_v vs 0) 63)) (w_fi w1 (n_v vs 0) 139) (w_fi w1 (n_v vs 0) 145) (w_ei w1 (w_ar ws (n_v vs 0) 62)) (w_ei w1 (w_ar ws (n_v vs 0) 2)) (w_fi w1 (n_v vs 0) 5) (w_ei w2 (w_ar ws (n_v vs 0) 62)) (w_fi w2 (n_v vs 0) 139) (w_fi w2 (n_v vs 0) 144) (w_ei w2 (w_ar ws (n_v vs 0) 2)) (w_fi w2 (n_v vs 0) 5) (w_ei w2 (w_ar ws (n_v vs 0) 63)) (w_fi w2 (n_v vs 0) 145) (w_fi ws (n_v vs 0) 144) (w_fi w1 (n_v vs 0) 144) (w_fi ws (n_v vs 0) 145) k3 k4 k5 k6 k7 k11 k12 k13 k14 k15 k16 k18 k19 k21 k22 d3 d4 d5 d6 d9 d10 (shm_4 f0) (shm_24 f1) (shm_687 f4) (shm_687 f5) (shm_685 f6) (shm_685 f7) g17 (shm_134 f18) (shm_12 f20) (shm_14 f30) g32 f39 fe_0_5_1 fe_0_139_1 fe_0_144_1 fe_0_145_1 fe_0_5_2 fe_0_139_2 fe_0_144_2 fe_0_145_2 hE_0_2_1 hE_0_2_2 hE_0_62_1 hE_0_62_2 hE_0_63_1 hE_0_63_2 kz_0_139 kz_0_144 kz_0_145)⟩
  refine ⟨(fun _ h => (by cases h)), [], trivial, ?_, (fun _ h => (by cases h))⟩
  rw [List.append_nil]
  exact List.forall_mem_cons.mpr ⟨⟨show (20 : Nat) < 100 from by decide, nf0⟩, (fun _ h => (by cases h))⟩
set_option maxHeartbeats 4000000 in
theorem vc_Mo_route_10_0 (x3 : Int) (x4 : Int) (x5 : Int) (x6 : Int) (x7 : Int) (x11 : Int) (x12 : Int) (x13 : Int) (x14 : Int) (x15 : Int) (x16 : Int) (x18 : Int) (x19 : Int) (x21 : Int) (x22 : Int) (nodeY_0 : Int → Int) (g0_0 : Int) (nodeX_0 : Int → Int) (all_0 : Int → Int) (r_0 : Int) (nodeY_1 : Int → Int) (g0_1 : Int) (top0_1 : Int) (nodeX_1 : Int → Int) (all_1 : Int → Int) (r_1 : Int) (nodeX_2 : Int → Int) (g0_2 : Int) (left0_2 : Int) (all_2 : Int → Int) (r_2 : Int) (nodeY_2 : Int → Int) (top0_2 : Int) (left0_0 : Int) (left0_1 : Int) (top0_0 : Int) (k3 : (-2000000) ≤ x3 ∧ x3 ≤ 300000011) (k4 : (-2000000) ≤ x4 ∧ x4 ≤ 300000003) (k5 : 0 ≤ x5 ∧ x5 ≤ 23) (k6 : (-300000011) ≤ x6 ∧ x6 ≤ 2000000) (k7 : (-300000003) ≤ x7 ∧ x7 ≤ 2000000) (k11 : 3 ≤ x11 ∧ x11 ≤ 11) (k12 : (-300000000) ≤ x12 ∧ x12 ≤ 300000000) (k13 : (-300000011) ≤ x13 ∧ x13 ≤ 2000000) (k14 : (-300000000) ≤ x14 ∧ x14 ≤ 300000000) (k15 : (-299999997) ≤ x15 ∧ x15 ≤ 300000010) (k16 : (-300000000) ≤ x16 ∧ x16 ≤ 300000000) (k18 : (-300000002) ≤ x18 ∧ x18 ≤ 299999997) (k19 : (-300000000) ≤ x19 ∧ x19 ≤ 300000000) (k21 : (-299999997) ≤ x21 ∧ x21 ≤ 300000002) (k22 : 1 ≤ x22 ∧ x22 ≤ 24) (d2 : x21 + 1 ≤ x4 ∧ x4 ≤ x21 + 4294967296) (d3 : x19 + 3 ≤ x21 ∧ x21 ≤ x19 + 3) (d4 : x18 + (-4294967296) ≤ x7 ∧ x7 ≤ x18 + (-1)) (d5 : x16 + (-3) ≤ x18 ∧ x18 ≤ x16 + (-3)) (d6 : x15 + 1 ≤ x3 ∧ x3 ≤ x15 + 4294967296) (d9 : x14 + 3 ≤ x15 ∧ x15 ≤ x14 + 11) (d10 : x13 + 0 ≤ x6 ∧ x6 ≤ x13 + 4294967296) (f0 : x22 = x5 + 1) (f1 : x4 ≤ x4) (f4 : x19 = nodeY_0 (((24 * g0_0) + x5))) (f5 : x16 = nodeY_0 (((24 * g0_0) + x5))) (f6 : x14 = nodeX_0 (((24 * g0_0) + x5))) (f7 : x12 = nodeX_0 (((24 * g0_0) + x5))) (g17 : x7 = top0_1) (f18 : x3 ≤ x3) (f20 : x15 = x14 + x11) (f30 : x13 = x12 - x11) (g32 : x6 = left0_2) (f39 : RTB (left0_2) (top0_2) (g0_2) (nodeX_2) (nodeY_2) (x3) (x4) (x5)) (fe_0_5_1 : r_0 = r_1) (fe_0_139_1 : g0_0 = g0_1) (fe_0_144_1 : left0_0 = left0_1) (fe_0_145_1 : top0_0 = x7) (fe_0_5_2 : r_1 = r_2) (fe_0_139_2 : g0_1 = g0_2) (fe_0_144_2 : left0_1 = x13) (fe_0_145_2 : top0_1 = top0_2) (hE_0_2_1 : ∀ j : Int, all_0 j = all_1 j) (hE_0_2_2 : ∀ j : Int, all_1 j = all_2 j) (hE_0_62_1 : ∀ j : Int, nodeX_0 j = nodeX_1 j) (hE_0_62_2 : ∀ j : Int, nodeX_1 j = nodeX_2 j) (hE_0_63_1 : ∀ j : Int, nodeY_0 j = nodeY_1 j) (hE_0_63_2 : ∀ j : Int, nodeY_1 j = nodeY_2 j) (kz_0_139 : 0 ≤ g0_0 ∧ g0_0 ≤ 3) (kz_0_144 : (-300000011) ≤ left0_0 ∧ left0_0 ≤ 2000000) (kz_0_145 : (-300000003) ≤ top0_0 ∧ top0_0 ≤ 2000000) : RTB (left0_0) (top0_0) (g0_0) (nodeX_0) (nodeY_0) (x3) (x4) (x22) := by
  subst fe_0_5_1
  subst fe_0_139_1
  subst fe_0_144_1
  subst fe_0_5_2
  subst fe_0_139_2
  subst fe_0_145_2
  have e_hE_0_2_1 := funext hE_0_2_1; subst e_hE_0_2_1
  have e_hE_0_2_2 := funext hE_0_2_2; subst e_hE_0_2_2
  have e_hE_0_62_1 := funext hE_0_62_1; subst e_hE_0_62_1
  have e_hE_0_62_2 := funext hE_0_62_2; subst e_hE_0_62_2
  have e_hE_0_63_1 := funext hE_0_63_1; subst e_hE_0_63_1
  have e_hE_0_63_2 := funext hE_0_63_2; subst e_hE_0_63_2
  first
    | (intro v a b; exfalso; omega)
    | exact rtb_step (w := x11) (x := nodeX_0 (24 * g0_0 + x5)) (y := nodeY_0 (24 * g0_0 + x5)) ‹RTB _ _ _ _ _ _ _ _› (by omega) (by omega) rfl rfl (by omega) (by omega) (by omega) (by omega) (by omega) (by omega) (by omega) (by omega)
  
def o_Mo_route_10 : or_T := (50, 23, [(0, (2, 0, 0, [165])), (2, (0, 0, 47, [])), (3, (0, -2000000, 300000011, [])), (4, (0, -2000000, 300000003, [])), (5, (0, 0, 23, [])), (6, (0, -300000011, 2000000, [])), (7, (0, -300000003, 2000000, [])), (8, (0, 1, 24, [])), (9, (0, 0, 8, [])), (10, (0, 3, 3, [])), (11, (0, 3, 11, [])), (12, (0, -300000000, 300000000, [])), (13, (0, -300000011, 2000000, [])), (14, (0, -300000000, 300000000, [])), (15, (0, -299999997, 300000010, [])), (16, (0, -300000000, 300000000, [])), (17, (0, 3, 3, [])), (18, (0, -300000002, 299999997, [])), (19, (0, -300000000, 300000000, [])), (20, (0, 3, 3, [])), (21, (0, -299999997, 300000002, [])), (22, (0, 1, 24, []))], [(6, [22, 5], [1]), (7, [4, 4], [5]), (7, [21, 4], [5]), (1, [21, 19, 20], []), (20, [19, 0, 5], [50, 1, 1, 1139, 1063, 1, 2, 1, 0, 3, 1, 63, 4, 7, 6, 2, 0, 24, 2, 1, 139, 1, 2]), (20, [16, 0, 5], [50, 1, 1, 1139, 1063, 1, 2, 1, 0, 3, 1, 63, 4, 7, 6, 2, 0, 24, 2, 1, 139, 1, 2]), (20, [14, 0, 5], [50, 1, 1, 1139, 1062, 1, 2, 1, 0, 3, 1, 62, 4, 7, 6, 2, 0, 24, 2, 1, 139, 1, 2]), (20, [12, 0, 5], [50, 1, 1, 1139, 1062, 1, 2, 1, 0, 3, 1, 62, 4, 7, 6, 2, 0, 24, 2, 1, 139, 1, 2]), (20, [8, 0], [30, 0, 1, 0, 0, -1, 3, 2005000]), (20, [8, 0], [30, 0, -1, 0, 0, 1, 3, 2005000]), (20, [0], [60, 1, 1, 197, 5, 2]), (20, [2, 0], [50, 1, 1, 1005, 1002, 0, 6, 4, 2, 1, 0, 0, 1, 3, 1, 2, 4, 3, 2, 1, 5, 0, 1]), (101, [0, 7], [145]), (7, [7, 7], [5]), (7, [7, 18], [5]), (2, [18, 16, 17], []), (20, [16, 0, 5], [50, 1, 1, 1139, 1063, 1, 2, 1, 0, 3, 1, 63, 4, 7, 6, 2, 0, 24, 2, 1, 139, 1, 2]), (9, [7, 0], [145]), (7, [3, 3], [5]), (7, [15, 3], [5]), (1, [15, 14, 11], []), (20, [14, 0, 5], [50, 1, 1, 1139, 1062, 1, 2, 1, 0, 3, 1, 62, 4, 7, 6, 2, 0, 24, 2, 1, 139, 1, 2]), (20, [12, 0, 5], [50, 1, 1, 1139, 1062, 1, 2, 1, 0, 3, 1, 62, 4, 7, 6, 2, 0, 24, 2, 1, 139, 1, 2]), (20, [8, 0], [30, 0, 1, 0, 0, -1, 3, 2005000]), (20, [8, 0], [30, 0, -1, 0, 0, 1, 3, 2005000]), (20, [0], [60, 1, 1, 197, 5, 2]), (20, [2, 0], [50, 1, 1, 1005, 1002, 0, 6, 4, 2, 1, 0, 0, 1, 3, 1, 2, 4, 3, 2, 1, 5, 0, 1]), (101, [0, 13], [144]), (7, [13, 6], [5]), (7, [13, 13], [5]), (2, [13, 12, 11], []), (20, [12, 0, 5], [50, 1, 1, 1139, 1062, 1, 2, 1, 0, 3, 1, 62, 4, 7, 6, 2, 0, 24, 2, 1, 139, 1, 2]), (9, [6, 0], [144]), (1, [11, 9, 10], []), (7, [5, 8], [2]), (20, [8, 0], [30, 0, 1, 0, 0, -1, 3, 2005000]), (20, [8, 0], [30, 0, -1, 0, 0, 1, 3, 2005000]), (20, [0], [60, 1, 1, 197, 5, 2]), (20, [2, 0], [50, 1, 1, 1005, 1002, 0, 6, 4, 2, 1, 0, 0, 1, 3, 1, 2, 4, 3, 2, 1, 5, 0, 1]), (20, [0, 3, 4, 5], [60, 3, 2, 389, 144, 145, 139, 62, 63])], [], [], [(20, [0, 3, 4, 22], [60, 3, 2, 389, 144, 145, 139, 62, 63])], [], [(22, 5, 1, 1), (22, 8, -4294967296, 0), (4, 21, 1, 4294967296), (21, 19, 3, 3), (7, 18, -4294967296, -1), (18, 16, -3, -3), (3, 15, 1, 4294967296), (15, 11, -300000000, 300000000), (15, 9, -299999997, 300000003), (15, 14, 3, 11), (6, 13, 0, 4294967296), (13, 12, -11, -3), (11, 9, 3, 3), (5, 8, -4294967296, -1), (3, 5, -4294967296, 300000010), (4, 5, -4294967296, 300000002)])
theorem oo_Mo_route_10 {kA : Nat → ClassId} : or_ok PRD kA GG o_Mo_route_10 := by
  refine or_mk fun A ta ws vs hD hth hl => ?_
  intro t0 r0 t2 k2 t3 k3 t4 k4 t5 k5 t6 k6 t7 k7 t8 k8 t9 k9 t10 k10 t11 k11 t12 k12 t13 k13 t14 k14 t15 k15 t16 k16 t17 k17 t18 k18 t19 k19 t20 k20 t21 k21 t22 k22 d0 d1 d2 d3 d4 d5 d6 d7 d8 d9 d10 d11 d12 d13 d14 d15 f0 f1 f2 f3 f4 f5 f6 f7 f8 f9 f10 f11 ta1 w1 le1 s1 f13 f14 f15 f16 f17 f18 f19 f20 f21 f22 f23 f24 f25 f26 ta2 w2 le2 s2 f28 f29 f30 f31 f32 f33 f34 f35 f36 f37 f38 f39
  have s1 : (∀ b j, w_el ws b j = w_el w1 b j) ∧ ∀ b j, w_fd ws b j = if b = v_ad (n_v vs 0) ∧ j = 145 then n_v vs 7 else w_fd w1 b j := s1.2
  replace f17 := shm_1968 f17
  have s2 : (∀ b j, w_el w1 b j = w_el w2 b j) ∧ ∀ b j, w_fd w1 b j = if b = v_ad (n_v vs 0) ∧ j = 144 then n_v vs 13 else w_fd w2 b j := s2.2
  replace f32 := shm_1969 f32
  replace f39 := shm_1967 f39
  have ar_0_2_1 : w_ar w1 (n_v vs 0) 2 = w_ar ws (n_v vs 0) 2 := by show v_ad (w_fd w1 _ _) = v_ad (w_fd ws _ _); rw [s1.2, if_neg (fun e => absurd e.2 (by decide))]
  have ar_0_2_2 : w_ar w2 (n_v vs 0) 2 = w_ar ws (n_v vs 0) 2 := by rw [← ar_0_2_1]; show v_ad (w_fd w2 _ _) = v_ad (w_fd w1 _ _); rw [s2.2, if_neg (fun e => absurd e.2 (by decide))]
  have ar_0_62_1 : w_ar w1 (n_v vs 0) 62 = w_ar ws (n_v vs 0) 62 := by show v_ad (w_fd w1 _ _) = v_ad (w_fd ws _ _); rw [s1.2, if_neg (fun e => absurd e.2 (by decide))]
  have ar_0_62_2 : w_ar w2 (n_v vs 0) 62 = w_ar ws (n_v vs 0) 62 := by rw [← ar_0_62_1]; show v_ad (w_fd w2 _ _) = v_ad (w_fd w1 _ _); rw [s2.2, if_neg (fun e => absurd e.2 (by decide))]
  have ar_0_63_1 : w_ar w1 (n_v vs 0) 63 = w_ar ws (n_v vs 0) 63 := by show v_ad (w_fd w1 _ _) = v_ad (w_fd ws _ _); rw [s1.2, if_neg (fun e => absurd e.2 (by decide))]
  have ar_0_63_2 : w_ar w2 (n_v vs 0) 63 = w_ar ws (n_v vs 0) 63 := by rw [← ar_0_63_1]; show v_ad (w_fd w2 _ _) = v_ad (w_fd w1 _ _); rw [s2.2, if_neg (fun e => absurd e.2 (by decide))]
  have g17 : v_iv (n_v vs 7) = w_fi w1 (n_v vs 0) 145 := congrArg v_iv f17
  have g32 : v_iv (n_v vs 6) = w_fi w2 (n_v vs 0) 144 := congrArg v_iv f32
  simp only [ar_0_2_2, ar_0_62_2, ar_0_63_2] at f39
  have fe_0_5_1 : w_fi ws (n_v vs 0) 5 = w_fi w1 (n_v vs 0) 5 := by show v_iv (w_fd _ _ _) = v_iv (w_fd _ _ _); rw [s1.2, if_neg (fun e => absurd e.2 (by decide))]
  have fe_0_139_1 : w_fi ws (n_v vs 0) 139 = w_fi w1 (n_v vs 0) 139 := by show v_iv (w_fd _ _ _) = v_iv (w_fd _ _ _); rw [s1.2, if_neg (fun e => absurd e.2 (by decide))]
  have fe_0_144_1 : w_fi ws (n_v vs 0) 144 = w_fi w1 (n_v vs 0) 144 := by show v_iv (w_fd _ _ _) = v_iv (w_fd _ _ _); rw [s1.2, if_neg (fun e => absurd e.2 (by decide))]
  have fe_0_145_1 : w_fi ws (n_v vs 0) 145 = v_iv (n_v vs 7) := by show v_iv (w_fd _ _ _) = _; rw [s1.2, if_pos ⟨rfl, rfl⟩]
  have fe_0_5_2 : w_fi w1 (n_v vs 0) 5 = w_fi w2 (n_v vs 0) 5 := by show v_iv (w_fd _ _ _) = v_iv (w_fd _ _ _); rw [s2.2, if_neg (fun e => absurd e.2 (by decide))]
  have fe_0_139_2 : w_fi w1 (n_v vs 0) 139 = w_fi w2 (n_v vs 0) 139 := by show v_iv (w_fd _ _ _) = v_iv (w_fd _ _ _); rw [s2.2, if_neg (fun e => absurd e.2 (by decide))]
  have fe_0_144_2 : w_fi w1 (n_v vs 0) 144 = v_iv (n_v vs 13) := by show v_iv (w_fd _ _ _) = _; rw [s2.2, if_pos ⟨rfl, rfl⟩]
  have fe_0_145_2 : w_fi w1 (n_v vs 0) 145 = w_fi w2 (n_v vs 0) 145 := by show v_iv (w_fd _ _ _) = v_iv (w_fd _ _ _); rw [s2.2, if_neg (fun e => absurd e.2 (by decide))]
  have hE_0_2_1 : ∀ j : Int, w_ei ws (w_ar ws (n_v vs 0) 2) j = w_ei w1 (w_ar ws (n_v vs 0) 2) j := fun j => s1.1 _ _
  have hE_0_2_2 : ∀ j : Int, w_ei w1 (w_ar ws (n_v vs 0) 2) j = w_ei w2 (w_ar ws (n_v vs 0) 2) j := fun j => s2.1 _ _
  have hE_0_62_1 : ∀ j : Int, w_ei ws (w_ar ws (n_v vs 0) 62) j = w_ei w1 (w_ar ws (n_v vs 0) 62) j := fun j => s1.1 _ _
  have hE_0_62_2 : ∀ j : Int, w_ei w1 (w_ar ws (n_v vs 0) 62) j = w_ei w2 (w_ar ws (n_v vs 0) 62) j := fun j => s2.1 _ _
  have hE_0_63_1 : ∀ j : Int, w_ei ws (w_ar ws (n_v vs 0) 63) j = w_ei w1 (w_ar ws (n_v vs 0) 63) j := fun j => s1.1 _ _
  have hE_0_63_2 : ∀ j : Int, w_ei w1 (w_ar ws (n_v vs 0) 63) j = w_ei w2 (w_ar ws (n_v vs 0) 63) j := fun j => s2.1 _ _
  have kz_0_139 := fdq_171 hD hth r0
  have kz_0_144 := fdq_316 hD hth r0
  have kz_0_145 := fdq_317 hD hth r0
  have nf0 : fc_1 PRD (20, [0, 3, 4, 22], [60, 3, 2, 389, 144, 145, 139, 62, 63]) ws (vs) := ⟨nf_in hl rfl, sgq_1967 (vc_Mo_route_10_0 (v_iv (n_v vs 3)) (v_iv (n_v vs 4)) (v_iv (n_v vs 5)) (v_iv (n_v vs 6)) (v_iv (n_v vs 7)) (v_iv (n_v vs 11)) (v_iv (n_v vs 12)) (v_iv (n_v vs 13)) (v_iv (n_v vs 14)) (v_iv (n_v vs 15)) (v_iv (n_v vs 16)) (v_iv (n_v vs 18)) (v_iv (n_v vs 19)) (v_iv (n_v vs 21)) (v_iv (n_v vs 22)) (w_ei ws (w_ar ws (n_v vs 0) 63)) (w_fi ws (n_v vs 0) 139) (w_ei ws (w_ar ws (n_v vs 0) 62)) (w_ei ws (w_ar ws (n_v vs 0) 2)) (w_fi ws (n_v vs 0) 5) (w_ei w1 (w_ar ws (n_v vs 0) 63)) (w_fi w1 (n_v vs 0) 139) (w_fi w1 (n_v vs 0) 145) (w_ei w1 (w_ar ws (n_v vs 0) 62)) (w_ei w1 (w_ar ws (n_v vs 0) 2)) (w_fi w1 (n_v vs 0) 5) (w_ei w2 (w_ar ws (n_v vs 0) 62)) (w_fi w2 (n_v vs 0) 139) (w_fi w2 (n_v vs 0) 144) (w_ei w2 (w_ar ws (n_v vs 0) 2)) (w_fi w2 (n_v vs 0) 5) (w_ei w2 (w_ar ws (n_v vs 0) 63)) (w_fi w2 (n_v vs 0) 145) (w_fi ws (n_v vs 0) 144) (w_fi w1 (n_v vs 0) 144) (w_fi ws (n_v vs 0) 145) k3 k4 k5 k6 k7 k11 k12 k13 k14 k15 k16 k18 k19 k21 k22 d2 d3 d4 d5 d6 d9 d10 (shm_4 f0) (shm_134 f1) (shm_687 f4) (shm_687 f5) (shm_685 f6) (shm_685 f7) g17 (shm_134 f18) (shm_12 f20) (shm_14 f30) g32 f39 fe_0_5_1 fe_0_139_1 fe_0_144_1 fe_0_145_1 fe_0_5_2 fe_0_139_2 fe_0_144_2 fe_0_145_2 hE_0_2_1 hE_0_2_2 hE_0_62_1 hE_0_62_2 hE_0_63_1 hE_0_63_2 kz_0_139 kz_0_144 kz_0_145)⟩
  refine ⟨(fun _ h => (by cases h)), [], trivial, ?_, (fun _ h => (by cases h))⟩
  rw [List.append_nil]
  exact List.forall_mem_cons.mpr ⟨⟨show (20 : Nat) < 100 from by decide, nf0⟩, (fun _ h => (by cases h))⟩
set_option maxHeartbeats 4000000 in
theorem vc_Mo_route_11_0 (x3 : Int) (x4 : Int) (x5 : Int) (x6 : Int) (x7 : Int) (x11 : Int) (x12 : Int) (x13 : Int) (x14 : Int) (x15 : Int) (x16 : Int) (x18 : Int) (x19 : Int) (x21 : Int) (x22 : Int) (nodeY_0 : Int → Int) (g0_0 : Int) (nodeX_0 : Int → Int) (all_0 : Int → Int) (r_0 : Int) (nodeY_1 : Int → Int) (g0_1 : Int) (top0_1 : Int) (nodeX_1 : Int → Int) (all_1 : Int → Int) (r_1 : Int) (nodeX_2 : Int → Int) (g0_2 : Int) (left0_2 : Int) (all_2 : Int → Int) (r_2 : Int) (nodeY_2 : Int → Int) (top0_2 : Int) (left0_0 : Int) (left0_1 : Int) (top0_0 : Int) (k3 : (-2000000) ≤ x3 ∧ x3 ≤ 300000011) (k4 : (-2000000) ≤ x4 ∧ x4 ≤ 300000003) (k5 : 0 ≤ x5 ∧ x5 ≤ 23) (k6 : (-300000011) ≤ x6 ∧ x6 ≤ 2000000) (k7 : (-300000003) ≤ x7 ∧ x7 ≤ 2000000) (k11 : 3 ≤ x11 ∧ x11 ≤ 11) (k12 : (-300000000) ≤ x12 ∧ x12 ≤ 300000000) (k13 : (-300000010) ≤ x13 ∧ x13 ≤ 299999997) (k14 : (-300000000) ≤ x14 ∧ x14 ≤ 300000000) (k15 : (-2000000) ≤ x15 ∧ x15 ≤ 300000011) (k16 : (-300000000) ≤ x16 ∧ x16 ≤ 300000000) (k18 : (-300000003) ≤ x18 ∧ x18 ≤ 2000000) (k19 : (-300000000) ≤ x19 ∧ x19 ≤ 300000000) (k21 : (-2000000) ≤ x21 ∧ x21 ≤ 300000003) (k22 : 1 ≤ x22 ∧ x22 ≤ 24) (d3 : x19 + 3 ≤ x21 ∧ x21 ≤ x19 + 3) (d4 : x18 + 0 ≤ x7 ∧ x7 ≤ x18 + 4294967296) (d5 : x16 + (-3) ≤ x18 ∧ x18 ≤ x16 + (-3)) (d9 : x14 + 3 ≤ x15 ∧ x15 ≤ x14 + 11) (d10 : x13 + (-4294967296) ≤ x6 ∧ x6 ≤ x13 + (-1)) (f0 : x22 = x5 + 1) (f1 : x4 ≤ x21) (f4 : x19 = nodeY_0 (((24 * g0_0) + x5))) (f5 : x16 = nodeY_0 (((24 * g0_0) + x5))) (f6 : x14 = nodeX_0 (((24 * g0_0) + x5))) (f7 : x12 = nodeX_0 (((24 * g0_0) + x5))) (g17 : x7 = top0_1) (f18 : x3 ≤ x15) (f20 : x15 = x14 + x11) (f30 : x13 = x12 - x11) (g32 : x6 = left0_2) (f39 : RTB (left0_2) (top0_2) (g0_2) (nodeX_2) (nodeY_2) (x3) (x4) (x5)) (fe_0_5_1 : r_0 = r_1) (fe_0_139_1 : g0_0 = g0_1) (fe_0_144_1 : left0_0 = left0_1) (fe_0_145_1 : top0_0 = x18) (fe_0_5_2 : r_1 = r_2) (fe_0_139_2 : g0_1 = g0_2) (fe_0_144_2 : left0_1 = x6) (fe_0_145_2 : top0_1 = top0_2) (hE_0_2_1 : ∀ j : Int, all_0 j = all_1 j) (hE_0_2_2 : ∀ j : Int, all_1 j = all_2 j) (hE_0_62_1 : ∀ j : Int, nodeX_0 j = nodeX_1 j) (hE_0_62_2 : ∀ j : Int, nodeX_1 j = nodeX_2 j) (hE_0_63_1 : ∀ j : Int, nodeY_0 j = nodeY_1 j) (hE_0_63_2 : ∀ j : Int, nodeY_1 j = nodeY_2 j) (kz_0_139 : 0 ≤ g0_0 ∧ g0_0 ≤ 3) (kz_0_144 : (-300000011) ≤ left0_0 ∧ left0_0 ≤ 2000000) (kz_0_145 : (-300000003) ≤ top0_0 ∧ top0_0 ≤ 2000000) : RTB (left0_0) (top0_0) (g0_0) (nodeX_0) (nodeY_0) (x15) (x21) (x22) := by
  subst fe_0_5_1
  subst fe_0_139_1
  subst fe_0_144_1
  subst fe_0_5_2
  subst fe_0_139_2
  subst fe_0_145_2
  have e_hE_0_2_1 := funext hE_0_2_1; subst e_hE_0_2_1
  have e_hE_0_2_2 := funext hE_0_2_2; subst e_hE_0_2_2
  have e_hE_0_62_1 := funext hE_0_62_1; subst e_hE_0_62_1
  have e_hE_0_62_2 := funext hE_0_62_2; subst e_hE_0_62_2
  have e_hE_0_63_1 := funext hE_0_63_1; subst e_hE_0_63_1
  have e_hE_0_63_2 := funext hE_0_63_2; subst e_hE_0_63_2
  first
    | (intro v a b; exfalso; omega)
    | exact rtb_step (w := x11) (x := nodeX_0 (24 * g0_0 + x5)) (y := nodeY_0 (24 * g0_0 + x5)) ‹RTB _ _ _ _ _ _ _ _› (by omega) (by omega) rfl rfl (by omega) (by omega) (by omega) (by omega) (by omega) (by omega) (by omega) (by omega)
  
def o_Mo_route_11 : or_T := (50, 23, [(0, (2, 0, 0, [165])), (2, (0, 0, 47, [])), (3, (0, -2000000, 300000011, [])), (4, (0, -2000000, 300000003, [])), (5, (0, 0, 23, [])), (6, (0, -300000011, 2000000, [])), (7, (0, -300000003, 2000000, [])), (8, (0, 1, 24, [])), (9, (0, 0, 8, [])), (10, (0, 3, 3, [])), (11, (0, 3, 11, [])), (12, (0, -300000000, 300000000, [])), (13, (0, -300000010, 299999997, [])), (14, (0, -300000000, 300000000, [])), (15, (0, -2000000, 300000011, [])), (16, (0, -300000000, 300000000, [])), (17, (0, 3, 3, [])), (18, (0, -300000003, 2000000, [])), (19, (0, -300000000, 300000000, [])), (20, (0, 3, 3, [])), (21, (0, -2000000, 300000003, [])), (22, (0, 1, 24, []))], [(6, [22, 5], [1]), (7, [4, 21], [5]), (7, [21, 21], [5]), (1, [21, 19, 20], []), (20, [19, 0, 5], [50, 1, 1, 1139, 1063, 1, 2, 1, 0, 3, 1, 63, 4, 7, 6, 2, 0, 24, 2, 1, 139, 1, 2]), (20, [16, 0, 5], [50, 1, 1, 1139, 1063, 1, 2, 1, 0, 3, 1, 63, 4, 7, 6, 2, 0, 24, 2, 1, 139, 1, 2]), (20, [14, 0, 5], [50, 1, 1, 1139, 1062, 1, 2, 1, 0, 3, 1, 62, 4, 7, 6, 2, 0, 24, 2, 1, 139, 1, 2]), (20, [12, 0, 5], [50, 1, 1, 1139, 1062, 1, 2, 1, 0, 3, 1, 62, 4, 7, 6, 2, 0, 24, 2, 1, 139, 1, 2]), (20, [8, 0], [30, 0, 1, 0, 0, -1, 3, 2005000]), (20, [8, 0], [30, 0, -1, 0, 0, 1, 3, 2005000]), (20, [0], [60, 1, 1, 197, 5, 2]), (20, [2, 0], [50, 1, 1, 1005, 1002, 0, 6, 4, 2, 1, 0, 0, 1, 3, 1, 2, 4, 3, 2, 1, 5, 0, 1]), (101, [0, 18], [145]), (7, [18, 7], [5]), (7, [18, 18], [5]), (2, [18, 16, 17], []), (20, [16, 0, 5], [50, 1, 1, 1139, 1063, 1, 2, 1, 0, 3, 1, 63, 4, 7, 6, 2, 0, 24, 2, 1, 139, 1, 2]), (9, [7, 0], [145]), (7, [3, 15], [5]), (7, [15, 15], [5]), (1, [15, 14, 11], []), (20, [14, 0, 5], [50, 1, 1, 1139, 1062, 1, 2, 1, 0, 3, 1, 62, 4, 7, 6, 2, 0, 24, 2, 1, 139, 1, 2]), (20, [12, 0, 5], [50, 1, 1, 1139, 1062, 1, 2, 1, 0, 3, 1, 62, 4, 7, 6, 2, 0, 24, 2, 1, 139, 1, 2]), (20, [8, 0], [30, 0, 1, 0, 0, -1, 3, 2005000]), (20, [8, 0], [30, 0, -1, 0, 0, 1, 3, 2005000]), (20, [0], [60, 1, 1, 197, 5, 2]), (20, [2, 0], [50, 1, 1, 1005, 1002, 0, 6, 4, 2, 1, 0, 0, 1, 3, 1, 2, 4, 3, 2, 1, 5, 0, 1]), (101, [0, 6], [144]), (7, [6, 6], [5]), (7, [6, 13], [5]), (2, [13, 12, 11], []), (20, [12, 0, 5], [50, 1, 1, 1139, 1062, 1, 2, 1, 0, 3, 1, 62, 4, 7, 6, 2, 0, 24, 2, 1, 139, 1, 2]), (9, [6, 0], [144]), (1, [11, 9, 10], []), (7, [5, 8], [2]), (20, [8, 0], [30, 0, 1, 0, 0, -1, 3, 2005000]), (20, [8, 0], [30, 0, -1, 0, 0, 1, 3, 2005000]), (20, [0], [60, 1, 1, 197, 5, 2]), (20, [2, 0], [50, 1, 1, 1005, 1002, 0, 6, 4, 2, 1, 0, 0, 1, 3, 1, 2, 4, 3, 2, 1, 5, 0, 1]), (20, [0, 3, 4, 5], [60, 3, 2, 389, 144, 145, 139, 62, 63])], [], [], [(20, [0, 15, 21, 22], [60, 3, 2, 389, 144, 145, 139, 62, 63])], [], [(22, 5, 1, 1), (22, 8, -4294967296, 0), (4, 21, -4294967296, 0), (21, 19, 3, 3), (7, 18, 0, 4294967296), (18, 16, -3, -3), (3, 15, -4294967296, 0), (15, 11, -300000000, 300000000), (15, 9, -299999997, 300000003), (15, 14, 3, 11), (6, 13, -4294967296, -1), (13, 12, -11, -3), (11, 9, 3, 3), (5, 8, -4294967296, -1), (3, 5, -4294967296, 300000010), (4, 5, -4294967296, 300000002)])
theorem oo_Mo_route_11 {kA : Nat → ClassId} : or_ok PRD kA GG o_Mo_route_11 := by
  refine or_mk fun A ta ws vs hD hth hl => ?_
  intro t0 r0 t2 k2 t3 k3 t4 k4 t5 k5 t6 k6 t7 k7 t8 k8 t9 k9 t10 k10 t11 k11 t12 k12 t13 k13 t14 k14 t15 k15 t16 k16 t17 k17 t18 k18 t19 k19 t20 k20 t21 k21 t22 k22 d0 d1 d2 d3 d4 d5 d6 d7 d8 d9 d10 d11 d12 d13 d14 d15 f0 f1 f2 f3 f4 f5 f6 f7 f8 f9 f10 f11 ta1 w1 le1 s1 f13 f14 f15 f16 f17 f18 f19 f20 f21 f22 f23 f24 f25 f26 ta2 w2 le2 s2 f28 f29 f30 f31 f32 f33 f34 f35 f36 f37 f38 f39
  have s1 : (∀ b j, w_el ws b j = w_el w1 b j) ∧ ∀ b j, w_fd ws b j = if b = v_ad (n_v vs 0) ∧ j = 145 then n_v vs 18 else w_fd w1 b j := s1.2
  replace f17 := shm_1968 f17
  have s2 : (∀ b j, w_el w1 b j = w_el w2 b j) ∧ ∀ b j, w_fd w1 b j = if b = v_ad (n_v vs 0) ∧ j = 144 then n_v vs 6 else w_fd w2 b j := s2.2
  replace f32 := shm_1969 f32
  replace f39 := shm_1967 f39
  have ar_0_2_1 : w_ar w1 (n_v vs 0) 2 = w_ar ws (n_v vs 0) 2 := by show v_ad (w_fd w1 _ _) = v_ad (w_fd ws _ _); rw [s1.2, if_neg (fun e => absurd e.2 (by decide))]
  have ar_0_2_2 : w_ar w2 (n_v vs 0) 2 = w_ar ws (n_v vs 0) 2 := by rw [← ar_0_2_1]; show v_ad (w_fd w2 _ _) = v_ad (w_fd w1 _ _); rw [s2.2, if_neg (fun e => absurd e.2 (by decide))]
  have ar_0_62_1 : w_ar w1 (n_v vs 0) 62 = w_ar ws (n_v vs 0) 62 := by show v_ad (w_fd w1 _ _) = v_ad (w_fd ws _ _); rw [s1.2, if_neg (fun e => absurd e.2 (by decide))]
  have ar_0_62_2 : w_ar w2 (n_v vs 0) 62 = w_ar ws (n_v vs 0) 62 := by rw [← ar_0_62_1]; show v_ad (w_fd w2 _ _) = v_ad (w_fd w1 _ _); rw [s2.2, if_neg (fun e => absurd e.2 (by decide))]
  have ar_0_63_1 : w_ar w1 (n_v vs 0) 63 = w_ar ws (n_v vs 0) 63 := by show v_ad (w_fd w1 _ _) = v_ad (w_fd ws _ _); rw [s1.2, if_neg (fun e => absurd e.2 (by decide))]
  have ar_0_63_2 : w_ar w2 (n_v vs 0) 63 = w_ar ws (n_v vs 0) 63 := by rw [← ar_0_63_1]; show v_ad (w_fd w2 _ _) = v_ad (w_fd w1 _ _); rw [s2.2, if_neg (fun e => absurd e.2 (by decide))]
  have g17 : v_iv (n_v vs 7) = w_fi w1 (n_v vs 0) 145 := congrArg v_iv f17
  have g32 : v_iv (n_v vs 6) = w_fi w2 (n_v vs 0) 144 := congrArg v_iv f32
  simp only [ar_0_2_2, ar_0_62_2, ar_0_63_2] at f39
  have fe_0_5_1 : w_fi ws (n_v vs 0) 5 = w_fi w1 (n_v vs 0) 5 := by show v_iv (w_fd _ _ _) = v_iv (w_fd _ _ _); rw [s1.2, if_neg (fun e => absurd e.2 (by decide))]
  have fe_0_139_1 : w_fi ws (n_v vs 0) 139 = w_fi w1 (n_v vs 0) 139 := by show v_iv (w_fd _ _ _) = v_iv (w_fd _ _ _); rw [s1.2, if_neg (fun e => absurd e.2 (by decide))]
  have fe_0_144_1 : w_fi ws (n_v vs 0) 144 = w_fi w1 (n_v vs 0) 144 := by show v_iv (w_fd _ _ _) = v_iv (w_fd _ _ _); rw [s1.2, if_neg (fun e => absurd e.2 (by decide))]
  have fe_0_145_1 : w_fi ws (n_v vs 0) 145 = v_iv (n_v vs 18) := by show v_iv (w_fd _ _ _) = _; rw [s1.2, if_pos ⟨rfl, rfl⟩]
  have fe_0_5_2 : w_fi w1 (n_v vs 0) 5 = w_fi w2 (n_v vs 0) 5 := by show v_iv (w_fd _ _ _) = v_iv (w_fd _ _ _); rw [s2.2, if_neg (fun e => absurd e.2 (by decide))]
  have fe_0_139_2 : w_fi w1 (n_v vs 0) 139 = w_fi w2 (n_v vs 0) 139 := by show v_iv (w_fd _ _ _) = v_iv (w_fd _ _ _); rw [s2.2, if_neg (fun e => absurd e.2 (by decide))]
  have fe_0_144_2 : w_fi w1 (n_v vs 0) 144 = v_iv (n_v vs 6) := by show v_iv (w_fd _ _ _) = _; rw [s2.2, if_pos ⟨rfl, rfl⟩]
  have fe_0_145_2 : w_fi w1 (n_v vs 0) 145 = w_fi w2 (n_v vs 0) 145 := by show v_iv (w_fd _ _ _) = v_iv (w_fd _ _ _); rw [s2.2, if_neg (fun e => absurd e.2 (by decide))]
  have hE_0_2_1 : ∀ j : Int, w_ei ws (w_ar ws (n_v vs 0) 2) j = w_ei w1 (w_ar ws (n_v vs 0) 2) j := fun j => s1.1 _ _
  have hE_0_2_2 : ∀ j : Int, w_ei w1 (w_ar ws (n_v vs 0) 2) j = w_ei w2 (w_ar ws (n_v vs 0) 2) j := fun j => s2.1 _ _
  have hE_0_62_1 : ∀ j : Int, w_ei ws (w_ar ws (n_v vs 0) 62) j = w_ei w1 (w_ar ws (n_v vs 0) 62) j := fun j => s1.1 _ _
  have hE_0_62_2 : ∀ j : Int, w_ei w1 (w_ar ws (n_v vs 0) 62) j = w_ei w2 (w_ar ws (n_v vs 0) 62) j := fun j => s2.1 _ _
  have hE_0_63_1 : ∀ j : Int, w_ei ws (w_ar ws (n_v vs 0) 63) j = w_ei w1 (w_ar ws (n_v vs 0) 63) j := fun j => s1.1 _ _
  have hE_0_63_2 : ∀ j : Int, w_ei w1 (w_ar ws (n_v vs 0) 63) j = w_ei w2 (w_ar ws (n_v vs 0) 63) j := fun j => s2.1 _ _
  have kz_0_139 := fdq_171 hD hth r0
  have kz_0_144 := fdq_316 hD hth r0
  have kz_0_145 := fdq_317 hD hth r0
  have nf0 : fc_1 PRD (20, [0, 15, 21, 22], [60, 3, 2, 389, 144, 145, 139, 62, 63]) ws (vs) := ⟨nf_in hl rfl, sgq_1967 (vc_Mo_route_11_0 (v_iv (n_v vs 3)) (v_iv (n_v vs 4)) (v_iv (n_v vs 5)) (v_iv (n_v vs 6)) (v_iv (n_v vs 7)) (v_iv (n_v vs 11)) (v_iv (n_v vs 12)) (v_iv (n_v vs 13)) (v_iv (n_v vs 14)) (v_iv (n_v vs 15)) (v_iv (n_v vs 16)) (v_iv (n_v vs 18)) (v_iv (n_v vs 19)) (v_iv (n_v vs 21)) (v_iv (n_v vs 22)) (w_ei ws (w_ar ws (n_v vs 0) 63)) (w_fi ws (n_v vs 0) 139) (w_ei ws (w_ar ws (n_v vs 0) 62)) (w_ei ws (w_ar ws (n_v vs 0) 2)) (w_fi ws (n_v vs 0) 5) (w_ei w1 (w_ar ws (n_v vs 0) 63)) (w_fi w1 (n_v vs 0) 139) (w_fi w1 (n_v vs 0) 145) (w_ei w1 (w_ar ws (n_v vs 0) 62)) (w_ei w1 (w_ar ws (n_v vs 0) 2)) (w_fi w1 (n_v vs 0) 5) (w_ei w2 (w_ar ws (n_v vs 0) 62)) (w_fi w2 (n_v vs 0) 139) (w_fi w2 (n_v vs 0) 144) (w_ei w2 (w_ar ws (n_v vs 0) 2)) (w_fi w2 (n_v vs 0) 5) (w_ei w2 (w_ar ws (n_v vs 0) 63)) (w_fi w2 (n_v vs 0) 145) (w_fi ws (n_v vs 0) 144) (w_fi w1 (n_v vs 0) 144) (w_fi ws (n_v vs 0) 145) k3 k4 k5 k6 k7 k11 k12 k13 k14 k15 k16 k18 k19 k21 k22 d3 d4 d5 d9 d10 (shm_4 f0) (shm_24 f1) (shm_687 f4) (shm_687 f5) (shm_685 f6) (shm_685 f7) g17 (shm_24 f18) (shm_12 f20) (shm_14 f30) g32 f39 fe_0_5_1 fe_0_139_1 fe_0_144_1 fe_0_145_1 fe_0_5_2 fe_0_139_2 fe_0_144_2 fe_0_145_2 hE_0_2_1 hE_0_2_2 hE_0_62_1 hE_0_62_2 hE_0_63_1 hE_0_63_2 kz_0_139 kz_0_144 kz_0_145)⟩
  refine ⟨(fun _ h => (by cases h)), [], trivial, ?_, (fun _ h => (by cases h))⟩
  rw [List.append_nil]
  exact List.forall_mem_cons.mpr ⟨⟨show (20 : Nat) < 100 from by decide, nf0⟩, (fun _ h => (by cases h))⟩
set_option maxHeartbeats 4000000 in
theorem vc_Mo_route_12_0 (x3 : Int) (x4 : Int) (x5 : Int) (x6 : Int) (x7 : Int) (x11 : Int) (x12 : Int) (x13 : Int) (x14 : Int) (x15 : Int) (x16 : Int) (x18 : Int) (x19 : Int) (x21 : Int) (x22 : Int) (nodeY_0 : Int → Int) (g0_0 : Int) (nodeX_0 : Int → Int) (all_0 : Int → Int) (r_0 : Int) (nodeY_1 : Int → Int) (g0_1 : Int) (top0_1 : Int) (nodeX_1 : Int → Int) (all_1 : Int → Int) (r_1 : Int) (nodeX_2 : Int → Int) (g0_2 : Int) (left0_2 : Int) (all_2 : Int → Int) (r_2 : Int) (nodeY_2 : Int → Int) (top0_2 : Int) (left0_0 : Int) (left0_1 : Int) (top0_0 : Int) (k3 : (-2000000) ≤ x3 ∧ x3 ≤ 300000011) (k4 : (-2000000) ≤ x4 ∧ x4 ≤ 300000003) (k5 : 0 ≤ x5 ∧ x5 ≤ 23) (k6 : (-300000011) ≤ x6 ∧ x6 ≤ 2000000) (k7 : (-300000003) ≤ x7 ∧ x7 ≤ 2000000) (k11 : 3 ≤ x11 ∧ x11 ≤ 11) (k12 : (-300000000) ≤ x12 ∧ x12 ≤ 300000000) (k13 : (-300000010) ≤ x13 ∧ x13 ≤ 299999997) (k14 : (-300000000) ≤ x14 ∧ x14 ≤ 300000000) (k15 : (-2000000) ≤ x15 ∧ x15 ≤ 300000011) (k16 : (-300000000) ≤ x16 ∧ x16 ≤ 300000000) (k18 : (-300000003) ≤ x18 ∧ x18 ≤ 2000000) (k19 : (-300000000) ≤ x19 ∧ x19 ≤ 300000000) (k21 : (-299999997) ≤ x21 ∧ x21 ≤ 300000002) (k22 : 1 ≤ x22 ∧ x22 ≤ 24) (d2 : x21 + 1 ≤ x4 ∧ x4 ≤ x21 + 4294967296) (d3 : x19 + 3 ≤ x21 ∧ x21 ≤ x19 + 3) (d4 : x18 + 0 ≤ x7 ∧ x7 ≤ x18 + 4294967296) (d5 : x16 + (-3) ≤ x18 ∧ x18 ≤ x16 + (-3)) (d9 : x14 + 3 ≤ x15 ∧ x15 ≤ x14 + 11) (d10 : x13 + (-4294967296) ≤ x6 ∧ x6 ≤ x13 + (-1)) (f0 : x22 = x5 + 1) (f1 : x4 ≤ x4) (f4 : x19 = nodeY_0 (((24 * g0_0) + x5))) (f5 : x16 = nodeY_0 (((24 * g0_0) + x5))) (f6 : x14 = nodeX_0 (((24 * g0_0) + x5))) (f7 : x12 = nodeX_0 (((24 * g0_0) + x5))) (g17 : x7 = top0_1) (f18 : x3 ≤ x15) (f20 : x15 = x14 + x11) (f30 : x13 = x12 - x11) (g32 : x6 = left0_2) (f39 : RTB (left0_2) (top0_2) (g0_2) (nodeX_2) (nodeY_2) (x3) (x4) (x5)) (fe_0_5_1 : r_0 = r_1) (fe_0_139_1 : g0_0 = g0_1) (fe_0_144_1 : left0_0 = left0_1) (fe_0_145_1 : top0_0 = x18) (fe_0_5_2 : r_1 = r_2) (fe_0_139_2 : g0_1 = g0_2) (fe_0_144_2 : left0_1 = x6) (fe_0_145_2 : top0_1 = top0_2) (hE_0_2_1 : ∀ j : Int, all_0 j = all_1 j) (hE_0_2_2 : ∀ j : Int, all_1 j = all_2 j) (hE_0_62_1 : ∀ j : Int, nodeX_0 j = nodeX_1 j) (hE_0_62_2 : ∀ j : Int, nodeX_1 j = nodeX_2 j) (hE_0_63_1 : ∀ j : Int, nodeY_0 j = nodeY_1 j) (hE_0_63_2 : ∀ j : Int, nodeY_1 j = nodeY_2 j) (kz_0_139 : 0 ≤ g0_0 ∧ g0_0 ≤ 3) (kz_0_144 : (-300000011) ≤ left0_0 ∧ left0_0 ≤ 2000000) (kz_0_145 : (-300000003) ≤ top0_0 ∧ top0_0 ≤ 2000000) : RTB (left0_0) (top0_0) (g0_0) (nodeX_0) (nodeY_0) (x15) (x4) (x22) := by
  subst fe_0_5_1
  subst fe_0_139_1
  subst fe_0_144_1
  subst fe_0_5_2
  subst fe_0_139_2
  subst fe_0_145_2
  have e_hE_0_2_1 := funext hE_0_2_1; subst e_hE_0_2_1
  have e_hE_0_2_2 := funext hE_0_2_2; subst e_hE_0_2_2
  have e_hE_0_62_1 := funext hE_0_62_1; subst e_hE_0_62_1
  have e_hE_0_62_2 := funext hE_0_62_2; subst e_hE_0_62_2
  have e_hE_0_63_1 := funext hE_0_63_1; subst e_hE_0_63_1
  have e_hE_0_63_2 := funext hE_0_63_2; subst e_hE_0_63_2
  first
    | (intro v a b; exfalso; omega)
    | exact rtb_step (w := x11) (x := nodeX_0 (24 * g0_0 + x5)) (y := nodeY_0 (24 * g0_0 + x5)) ‹RTB _ _ _ _ _ _ _ _› (by omega) (by omega) rfl rfl (by omega) (by omega) (by omega) (by omega) (by omega) (by omega) (by omega) (by omega)
  
def o_Mo_route_12 : or_T := (50, 23, [(0, (2, 0, 0, [165])), (2, (0, 0, 47, [])), (3, (0, -2000000, 300000011, [])), (4, (0, -2000000, 300000003, [])), (5, (0, 0, 23, [])), (6, (0, -300000011, 2000000, [])), (7, (0, -300000003, 2000000, [])), (8, (0, 1, 24, [])), (9, (0, 0, 8, [])), (10, (0, 3, 3, [])), (11, (0, 3, 11, [])), (12, (0, -300000000, 300000000, [])), (13, (0, -300000010, 299999997, [])), (14, (0, -300000000, 300000000, [])), (15, (0, -2000000, 300000011, [])), (16, (0, -300000000, 300000000, [])), (17, (0, 3, 3, [])), (18, (0, -300000003, 2000000, [])), (19, (0, -300000000, 300000000, [])), (20, (0, 3, 3, [])), (21, (0, -299999997, 300000002, [])), (22, (0, 1, 24, []))], [(6, [22, 5], [1]), (7, [4, 4], [5]), (7, [21, 4], [5]), (1, [21, 19, 20], []), (20, [19, 0, 5], [50, 1, 1, 1139, 1063, 1, 2, 1, 0, 3, 1, 63, 4, 7, 6, 2, 0, 24, 2, 1, 139, 1, 2]), (20, [16, 0, 5], [50, 1, 1, 1139, 1063, 1, 2, 1, 0, 3, 1, 63, 4, 7, 6, 2, 0, 24, 2, 1, 139, 1, 2]), (20, [14, 0, 5], [50, 1, 1, 1139, 1062, 1, 2, 1, 0, 3, 1, 62, 4, 7, 6, 2, 0, 24, 2, 1, 139, 1, 2]), (20, [12, 0, 5], [50, 1, 1, 1139, 1062, 1, 2, 1, 0, 3, 1, 62, 4, 7, 6, 2, 0, 24, 2, 1, 139, 1, 2]), (20, [8, 0], [30, 0, 1, 0, 0, -1, 3, 2005000]), (20, [8, 0], [30, 0, -1, 0, 0, 1, 3, 2005000]), (20, [0], [60, 1, 1, 197, 5, 2]), (20, [2, 0], [50, 1, 1, 1005, 1002, 0, 6, 4, 2, 1, 0, 0, 1, 3, 1, 2, 4, 3, 2, 1, 5, 0, 1]), (101, [0, 18], [145]), (7, [18, 7], [5]), (7, [18, 18], [5]), (2, [18, 16, 17], []), (20, [16, 0, 5], [50, 1, 1, 1139, 1063, 1, 2, 1, 0, 3, 1, 63, 4, 7, 6, 2, 0, 24, 2, 1, 139, 1, 2]), (9, [7, 0], [145]), (7, [3, 15], [5]), (7, [15, 15], [5]), (1, [15, 14, 11], []), (20, [14, 0, 5], [50, 1, 1, 1139, 1062, 1, 2, 1, 0, 3, 1, 62, 4, 7, 6, 2, 0, 24, 2, 1, 139, 1, 2]), (20, [12, 0, 5], [50, 1, 1, 1139, 1062, 1, 2, 1, 0, 3, 1, 62, 4, 7, 6, 2, 0, 24, 2, 1, 139, 1, 2]), (20, [8, 0], [30, 0, 1, 0, 0, -1, 3, 2005000]), (20, [8, 0], [30, 0, -1, 0, 0, 1, 3, 2005000]), (20, [0], [60, 1, 1, 197, 5, 2]), (20, [2, 0], [50, 1, 1, 1005, 1002, 0, 6, 4, 2, 1, 0, 0, 1, 3, 1, 2, 4, 3, 2, 1, 5, 0, 1]), (101, [0, 6], [144]), (7, [6, 6], [5]), (7, [6, 13], [5]), (2, [13, 12, 11], []), (20, [12, 0, 5], [50, 1, 1, 1139, 1062, 1, 2, 1, 0, 3, 1, 62, 4, 7, 6, 2, 0, 24, 2, 1, 139, 1, 2]), (9, [6, 0], [144]), (1, [11, 9, 10], []), (7, [5, 8], [2]), (20, [8, 0], [30, 0, 1, 0, 0, -1, 3, 2005000]), (20, [8, 0], [30, 0, -1, 0, 0, 1, 3, 2005000]), (20, [0], [60, 1, 1, 197, 5, 2]), (20, [2, 0], [50, 1, 1, 1005, 1002, 0, 6, 4, 2, 1, 0, 0, 1, 3, 1, 2, 4, 3, 2, 1, 5, 0, 1]), (20, [0, 3, 4, 5], [60, 3, 2, 389, 144, 145, 139, 62, 63])], [], [], [(20, [0, 15, 4, 22], [60, 3, 2, 389, 144, 145, 139, 62, 63])], [], [(22, 5, 1, 1), (22, 8, -4294967296, 0), (4, 21, 1, 4294967296), (21, 19, 3, 3), (7, 18, 0, 4294967296), (18, 16, -3, -3), (3, 15, -4294967296, 0), (15, 11, -300000000, 300000000), (15, 9, -299999997, 300000003), (15, 14, 3, 11), (6, 13, -4294967296, -1), (13, 12, -11, -3), (11, 9, 3, 3), (5, 8, -4294967296, -1), (3, 5, -4294967296, 300000010), (4, 5, -4294967296, 300000002)])
theorem oo_Mo_route_12 {kA : Nat → ClassId} : or_ok PRD kA GG o_Mo_route_12 := by
  refine or_mk fun A ta ws vs hD hth hl => ?_
  intro t0 r0 t2 k2 t3 k3 t4 k4 t5 k5 t6 k6 t7 k7 t8 k8 t9 k9 t10 k10 t11 k11 t12 k12 t13 k13 t14 k14 t15 k15 t16 k16 t17 k17 t18 k18 t19 k19 t20 k20 t21 k21 t22 k22 d0 d1 d2 d3 d4 d5 d6 d7 d8 d9 d10 d11 d12 d13 d14 d15 f0 f1 f2 f3 f4 f5 f6 f7 f8 f9 f10 f11 ta1 w1 le1 s1 f13 f14 f15 f16 f17 f18 f19 f20 f21 f22 f23 f24 f25 f26 ta2 w2 le2 s2 f28 f29 f30 f31 f32 f33 f34 f35 f36 f37 f38 f39
  have s1 : (∀ b j, w_el ws b j = w_el w1 b j) ∧ ∀ b j, w_fd ws b j = if b = v_ad (n_v vs 0) ∧ j = 145 then n_v vs 18 else w_fd w1 b j := s1.2
  replace f17 := shm_1968 f17
  have s2 : (∀ b j, w_el w1 b j = w_el w2 b j) ∧ ∀ b j, w_fd w1 b j = if b = v_ad (n_v vs 0) ∧ j = 144 then n_v vs 6 else w_fd w2 b j := s2.2
  replace f32 := shm_1969 f32
  replace f39 := shm_1967 f39
  have ar_0_2_1 : w_ar w1 (n_v vs 0) 2 = w_ar ws (n_v vs 0) 2 := by show v_ad (w_fd w1 _ _) = v_ad (w_fd ws _ _); rw [s1.2, if_neg (fun e => absurd e.2 (by decide))]
  have ar_0_2_2 : w_ar w2 (n_v vs 0) 2 = w_ar ws (n_v vs 0) 2 := by rw [← ar_0_2_1]; show v_ad (w_fd w2 _ _) = v_ad (w_fd w1 _ _); rw [s2.2, if_neg (fun e => absurd e.2 (by decide))]
  have ar_0_62_1 : w_ar w1 (n_v vs 0) 62 = w_ar ws (n_v vs 0) 62 := by show v_ad (w_fd w1 _ _) = v_ad (w_fd ws _ _); rw [s1.2, if_neg (fun e => absurd e.2 (by decide))]
  have ar_0_62_2 : w_ar w2 (n_v vs 0) 62 = w_ar ws (n_v vs 0) 62 := by rw [← ar_0_62_1]; show v_ad (w_fd w2 _ _) = v_ad (w_fd w1 _ _); rw [s2.2, if_neg (fun e => absurd e.2 (by decide))]
  have ar_0_63_1 : w_ar w1 (n_v vs 0) 63 = w_ar ws (n_v vs 0) 63 := by show v_ad (w_fd w1 _ _) = v_ad (w_fd ws _ _); rw [s1.2, if_neg (fun e => absurd e.2 (by decide))]
  have ar_0_63_2 : w_ar w2 (n_v vs 0) 63 = w_ar ws (n_v vs 0) 63 := by rw [← ar_0_63_1]; show v_ad (w_fd w2 _ _) = v_ad (w_fd w1 _ _); rw [s2.2, if_neg (fun e => absurd e.2 (by decide))]
  have g17 : v_iv (n_v vs 7) = w_fi w1 (n_v vs 0) 145 := congrArg v_iv f17
  have g32 : v_iv (n_v vs 6) = w_fi w2 (n_v vs 0) 144 := congrArg v_iv f32
  simp only [ar_0_2_2, ar_0_62_2, ar_0_63_2] at f39
  have fe_0_5_1 : w_fi ws (n_v vs 0) 5 = w_fi w1 (n_v vs 0) 5 := by show v_iv (w_fd _ _ _) = v_iv (w_fd _ _ _); rw [s1.2, if_neg (fun e => absurd e.2 (by decide))]
  have fe_0_139_1 : w_fi ws (n_v vs 0) 139 = w_fi w1 (n_v vs 0) 139 := by show v_iv (w_fd _ _ _) = v_iv (w_fd _ _ _); rw [s1.2, if_neg (fun e => absurd e.2 (by decide))]
  have fe_0_144_1 : w_fi ws (n_v vs 0) 144 = w_fi w1 (n_v vs 0) 144 := by show v_iv (w_fd _ _ _) = v_iv (w_fd _ _ _); rw [s1.2, if_neg (fun e => absurd e.2 (by decide))]
  have fe_0_145_1 : w_fi ws (n_v vs 0) 145 = v_iv (n_v vs 18) := by show v_iv (w_fd _ _ _) = _; rw [s1.2, if_pos ⟨rfl, rfl⟩]
  have fe_0_5_2 : w_fi w1 (n_v vs 0) 5 = w_fi w2 (n_v vs 0) 5 := by show v_iv (w_fd _ _ _) = v_iv (w_fd _ _ _); rw [s2.2, if_neg (fun e => absurd e.2 (by decide))]
  have fe_0_139_2 : w_fi w1 (n_v vs 0) 139 = w_fi w2 (n_v vs 0) 139 := by show v_iv (w_fd _ _ _) = v_iv (w_fd _ _ _); rw [s2.2, if_neg (fun e => absurd e.2 (by decide))]
  have fe_0_144_2 : w_fi w1 (n_v vs 0) 144 = v_iv (n_v vs 6) := by show v_iv (w_fd _ _ _) = _; rw [s2.2, if_pos ⟨rfl, rfl⟩]
  have fe_0_145_2 : w_fi w1 (n_v vs 0) 145 = w_fi w2 (n_v vs 0) 145 := by show v_iv (w_fd _ _ _) = v_iv (w_fd _ _ _); rw [s2.2, if_neg (fun e => absurd e.2 (by decide))]
  have hE_0_2_1 : ∀ j : Int, w_ei ws (w_ar ws (n_v vs 0) 2) j = w_ei w1 (w_ar ws (n_v vs 0) 2) j := fun j => s1.1 _ _
  have hE_0_2_2 : ∀ j : Int, w_ei w1 (w_ar ws (n_v vs 0) 2) j = w_ei w2 (w_ar ws (n_v vs 0) 2) j := fun j => s2.1 _ _
  have hE_0_62_1 : ∀ j : Int, w_ei ws (w_ar ws (n_v vs 0) 62) j = w_ei w1 (w_ar ws (n_v vs 0) 62) j := fun j => s1.1 _ _
  have hE_0_62_2 : ∀ j : Int, w_ei w1 (w_ar ws (n_v vs 0) 62) j = w_ei w2 (w_ar ws (n_v vs 0) 62) j := fun j => s2.1 _ _
  have hE_0_63_1 : ∀ j : Int, w_ei ws (w_ar ws (n_v vs 0) 63) j = w_ei w1 (w_ar ws (n_v vs 0) 63) j := fun j => s1.1 _ _
  have hE_0_63_2 : ∀ j : Int, w_ei w1 (w_ar ws (n_v vs 0) 63) j = w_ei w2 (w_ar ws (n_v vs 0) 63) j := fun j => s2.1 _ _
  have kz_0_139 := fdq_171 hD hth r0
  have kz_0_144 := fdq_316 hD hth r0
  have kz_0_145 := fdq_317 hD hth r0
  have nf0 : fc_1 PRD (20, [0, 15, 4, 22], [60, 3, 2, 389, 144, 145, 139, 62, 63]) ws (vs) := ⟨nf_in hl rfl, sgq_1967 (vc_Mo_route_12_0 (v_iv (n_v vs 3)) (v_iv (n_v vs 4)) (v_iv (n_v vs 5)) (v_iv (n_v vs 6)) (v_iv (n_v vs 7)) (v_iv (n_v vs 11)) (v_iv (n_v vs 12)) (v_iv (n_v vs 13)) (v_iv (n_v vs 14)) (v_iv (n_v vs 15)) (v_iv (n_v vs 16)) (v_iv (n_v vs 18)) (v_iv (n_v vs 19)) (v_iv (n_v vs 21)) (v_iv (n_v vs 22)) (w_ei ws (w_ar ws (n_v vs 0) 63)) (w_fi ws (n_v vs 0) 139) (w_ei ws (w_ar ws (n_v vs 0) 62)) (w_ei ws (w_ar ws (n_v vs 0) 2)) (w_fi ws (n_v vs 0) 5) (w_ei w1 (w_ar ws (n_v vs 0) 63)) (w_fi w1 (n_v vs 0) 139) (w_fi w1 (n_v vs 0) 145) (w_ei w1 (w_ar ws (n_v vs 0) 62)) (w_ei w1 (w_ar ws (n_v vs 0) 2)) (w_fi w1 (n_v vs 0) 5) (w_ei w2 (w_ar ws (n_v vs 0) 62)) (w_fi w2 (n_v vs 0) 139) (w_fi w2 (n_v vs 0) 144) (w_ei w2 (w_ar ws (n_v vs 0) 2)) (w_fi w2 (n_v vs 0) 5) (w_ei w2 (w_ar ws (n_v vs 0) 63)) (w_fi w2 (n_v vs 0) 145) (w_fi ws (n_v vs 0) 144) (w_fi w1 (n_v vs 0) 144) (w_fi ws (n_v vs 0) 145) k3 k4 k5 k6 k7 k11 k12 k13 k14 k15 k16 k18 k19 k21 k22 d2 d3 d4 d5 d9 d10 (shm_4 f0) (shm_134 f1) (shm_687 f4) (shm_687 f5) (shm_685 f6) (shm_685 f7) g17 (shm_24 f18) (shm_12 f20) (shm_14 f30) g32 f39 fe_0_5_1 fe_0_139_1 fe_0_144_1 fe_0_145_1 fe_0_5_2 fe_0_139_2 fe_0_144_2 fe_0_145_2 hE_0_2_1 hE_0_2_2 hE_0_62_1 hE_0_62_2 hE_0_63_1 hE_0_63_2 kz_0_139 kz_0_144 kz_0_145)⟩
  refine ⟨(fun _ h => (by cases h)), [], trivial, ?_, (fun _ h => (by cases h))⟩
  rw [List.append_nil]
  exact List.forall_mem_cons.mpr ⟨⟨show (20 : Nat) < 100 from by decide, nf0⟩, (fun _ h => (by cases h))⟩
set_option maxHeartbeats 4000000 in
theorem vc_Mo_route_13_0 (x3 : Int) (x4 : Int) (x5 : Int) (x6 : Int) (x7 : Int) (x11 : Int) (x12 : Int) (x13 : Int) (x14 : Int) (x15 : Int) (x16 : Int) (x18 : Int) (x19 : Int) (x21 : Int) (x22 : Int) (nodeY_0 : Int → Int) (g0_0 : Int) (nodeX_0 : Int → Int) (all_0 : Int → Int) (r_0 : Int) (nodeY_1 : Int → Int) (g0_1 : Int) (top0_1 : Int) (nodeX_1 : Int → Int) (all_1 : Int → Int) (r_1 : Int) (nodeX_2 : Int → Int) (g0_2 : Int) (left0_2 : Int) (all_2 : Int → Int) (r_2 : Int) (nodeY_2 : Int → Int) (top0_2 : Int) (left0_0 : Int) (left0_1 : Int) (top0_0 : Int) (k3 : (-2000000) ≤ x3 ∧ x3 ≤ 300000011) (k4 : (-2000000) ≤ x4 ∧ x4 ≤ 300000003) (k5 : 0 ≤ x5 ∧ x5 ≤ 23) (k6 : (-300000011) ≤ x6 ∧ x6 ≤ 2000000) (k7 : (-300000003) ≤ x7 ∧ x7 ≤ 2000000) (k11 : 3 ≤ x11 ∧ x11 ≤ 11) (k12 : (-300000000) ≤ x12 ∧ x12 ≤ 300000000) (k13 : (-300000010) ≤ x13 ∧ x13 ≤ 299999997) (k14 : (-300000000) ≤ x14 ∧ x14 ≤ 300000000) (k15 : (-2000000) ≤ x15 ∧ x15 ≤ 300000011) (k16 : (-300000000) ≤ x16 ∧ x16 ≤ 300000000) (k18 : (-300000002) ≤ x18 ∧ x18 ≤ 299999997) (k19 : (-300000000) ≤ x19 ∧ x19 ≤ 300000000) (k21 : (-2000000) ≤ x21 ∧ x21 ≤ 300000003) (k22 : 1 ≤ x22 ∧ x22 ≤ 24) (d3 : x19 + 3 ≤ x21 ∧ x21 ≤ x19 + 3) (d4 : x18 + (-4294967296) ≤ x7 ∧ x7 ≤ x18 + (-1)) (d5 : x16 + (-3) ≤ x18 ∧ x18 ≤ x16 + (-3)) (d9 : x14 + 3 ≤ x15 ∧ x15 ≤ x14 + 11) (d10 : x13 + (-4294967296) ≤ x6 ∧ x6 ≤ x13 + (-1)) (f0 : x22 = x5 + 1) (f1 : x4 ≤ x21) (f4 : x19 = nodeY_0 (((24 * g0_0) + x5))) (f5 : x16 = nodeY_0 (((24 * g0_0) + x5))) (f6 : x14 = nodeX_0 (((24 * g0_0) + x5))) (f7 : x12 = nodeX_0 (((24 * g0_0) + x5))) (g17 : x7 = top0_1) (f18 : x3 ≤ x15) (f20 : x15 = x14 + x11) (f30 : x13 = x12 - x11) (g32 : x6 = left0_2) (f39 : RTB (left0_2) (top0_2) (g0_2) (nodeX_2) (nodeY_2) (x3) (x4) (x5)) (fe_0_5_1 : r_0 = r_1) (fe_0_139_1 : g0_0 = g0_1) (fe_0_144_1 : left0_0 = left0_1) (fe_0_145_1 : top0_0 = x7) (fe_0_5_2 : r_1 = r_2) (fe_0_139_2 : g0_1 = g0_2) (fe_0_144_2 : left0_1 = x6) (fe_0_145_2 : top0_1 = top0_2) (hE_0_2_1 : ∀ j : Int, all_0 j = all_1 j) (hE_0_2_2 : ∀ j : Int, all_1 j = all_2 j) (hE_0_62_1 : ∀ j : Int, nodeX_0 j = nodeX_1 j) (hE_0_62_2 : ∀ j : Int, nodeX_1 j = nodeX_2 j) (hE_0_63_1 : ∀ j : Int, nodeY_0 j = nodeY_1 j) (hE_0_63_2 : ∀ j : Int, nodeY_1 j = nodeY_2 j) (kz_0_139 : 0 ≤ g0_0 ∧ g0_0 ≤ 3) (kz_0_144 : (-300000011) ≤ left0_0 ∧ left0_0 ≤ 2000000) (kz_0_145 : (-300000003) ≤ top0_0 ∧ top0_0 ≤ 2000000) : RTB (left0_0) (top0_0) (g0_0) (nodeX_0) (nodeY_0) (x15) (x21) (x22) := by
  subst fe_0_5_1
  subst fe_0_139_1
  subst fe_0_144_1
  subst fe_0_5_2
  subst fe_0_139_2
  subst fe_0_145_2
  have e_hE_0_2_1 := funext hE_0_2_1; subst e_hE_0_2_1
  have e_hE_0_2_2 := funext hE_0_2_2; subst e_hE_0_2_2
  have e_hE_0_62_1 := funext hE_0_62_1; subst e_hE_0_62_1
  have e_hE_0_62_2 := funext hE_0_62_2; subst e_hE_0_62_2
  have e_hE_0_63_1 := funext hE_0_63_1; subst e_hE_0_63_1
  have e_hE_0_63_2 := funext hE_0_63_2; subst e_hE_0_63_2
  first
    | (intro v a b; exfalso; omega)
    | exact rtb_step (w := x11) (x := nodeX_0 (24 * g0_0 + x5)) (y := nodeY_0 (24 * g0_0 + x5)) ‹RTB _ _ _ _ _ _ _ _› (by omega) (by omega) rfl rfl (by omega) (by omega) (by omega) (by omega) (by omega) (by omega) (by omega) (by omega)
  
def o_Mo_route_13 : or_T := (50, 23, [(0, (2, 0, 0, [165])), (2, (0, 0, 47, [])), (3, (0, -2000000, 300000011, [])), (4, (0, -2000000, 300000003, [])), (5, (0, 0, 23, [])), (6, (0, -300000011, 2000000, [])), (7, (0, -300000003, 2000000, [])), (8, (0, 1, 24, [])), (9, (0, 0, 8, [])), (10, (0, 3, 3, [])), (11, (0, 3, 11, [])), (12, (0, -300000000, 300000000, [])), (13, (0, -300000010, 299999997, [])), (14, (0, -300000000, 300000000, [])), (15, (0, -2000000, 300000011, [])), (16, (0, -300000000, 300000000, [])), (17, (0, 3, 3, [])), (18, (0, -300000002, 299999997, [])), (19, (0, -300000000, 300000000, [])), (20, (0, 3, 3, [])), (21, (0, -2000000, 300000003, [])), (22, (0, 1, 24, []))], [(6, [22, 5], [1]), (7, [4, 21], [5]), (7, [21, 21], [5]), (1, [21, 19, 20], []), (20, [19, 0, 5], [50, 1, 1, 1139, 1063, 1, 2, 1, 0, 3, 1, 63, 4, 7, 6, 2, 0, 24, 2, 1, 139, 1, 2]), (20, [16, 0, 5], [50, 1, 1, 1139, 1063, 1, 2, 1, 0, 3, 1, 63, 4, 7, 6, 2, 0, 24, 2, 1, 139, 1, 2]), (20, [14, 0, 5], [50, 1, 1, 1139, 1062, 1, 2, 1, 0, 3, 1, 62, 4, 7, 6, 2, 0, 24, 2, 1, 139, 1, 2]), (20, [12, 0, 5], [50, 1, 1, 1139, 1062, 1, 2, 1, 0, 3, 1, 62, 4, 7, 6, 2, 0, 24, 2, 1, 139, 1, 2]), (20, [8, 0], [30, 0, 1, 0, 0, -1, 3, 2005000]), (20, [8, 0], [30, 0, -1, 0, 0, 1, 3, 2005000]), (20, [0], [60, 1, 1, 197, 5, 2]), (20, [2, 0], [50, 1, 1, 1005, 1002, 0, 6, 4, 2, 1, 0, 0, 1, 3, 1, 2, 4, 3, 2, 1, 5, 0, 1]), (101, [0, 7], [145]), (7, [7, 7], [5]), (7, [7, 18], [5]), (2, [18, 16, 17], []), (20, [16, 0, 5], [50, 1, 1, 1139, 1063, 1, 2, 1, 0, 3, 1, 63, 4, 7, 6, 2, 0, 24, 2, 1, 139, 1, 2]), (9, [7, 0], [145]), (7, [3, 15], [5]), (7, [15, 15], [5]), (1, [15, 14, 11], []), (20, [14, 0, 5], [50, 1, 1, 1139, 1062, 1, 2, 1, 0, 3, 1, 62, 4, 7, 6, 2, 0, 24, 2, 1, 139, 1, 2]), (20, [12, 0, 5], [50, 1, 1, 1139, 1062, 1, 2, 1, 0, 3, 1, 62, 4, 7, 6, 2, 0, 24, 2, 1, 139, 1, 2]), (20, [8, 0], [30, 0, 1, 0, 0, -1, 3, 2005000]), (20, [8, 0], [30, 0, -1, 0, 0, 1, 3, 2005000]), (20, [0], [60, 1, 1, 197, 5, 2]), (20, [2, 0], [50, 1, 1, 1005, 1002, 0, 6, 4, 2, 1, 0, 0, 1, 3, 1, 2, 4, 3, 2, 1, 5, 0, 1]), (101, [0, 6], [144]), (7, [6, 6], [5]), (7, [6, 13], [5]), (2, [13, 12, 11], []), (20, [12, 0, 5], [50, 1, 1, 1139, 1062, 1, 2, 1, 0, 3, 1, 62, 4, 7, 6, 2, 0, 24, 2, 1, 139, 1, 2]), (9, [6, 0], [144]), (1, [11, 9, 10], []), (7, [5, 8], [2]), (20, [8, 0], [30, 0, 1, 0, 0, -1, 3, 2005000]), (20, [8, 0], [30, 0, -1, 0, 0, 1, 3, 2005000]), (20, [0], [60, 1, 1, 197, 5, 2]), (20, [2, 0], [50, 1, 1, 1005, 1002, 0, 6, 4, 2, 1, 0, 0, 1, 3, 1, 2, 4, 3, 2, 1, 5, 0, 1]), (20, [0, 3, 4, 5], [60, 3, 2, 389, 144, 145, 139, 62, 63])], [], [], [(20, [0, 15, 21, 22], [60, 3, 2, 389, 144, 145, 139, 62, 63])], [], [(22, 5, 1, 1), (22, 8, -4294967296, 0), (4, 21, -4294967296, 0), (21, 19, 3, 3), (7, 18, -4294967296, -1), (18, 16, -3, -3), (3, 15, -4294967296, 0), (15, 11, -300000000, 300000000), (15, 9, -299999997, 300000003), (15, 14, 3, 11), (6, 13, -4294967296, -1), (13, 12, -11, -3), (11, 9, 3, 3), (5, 8, -4294967296, -1), (3, 5, -4294967296, 300000010), (4, 5, -4294967296, 300000002)])
theorem oo_Mo_route_13 {kA : Nat → ClassId} : or_ok PRD kA GG o_Mo_route_13 := by
  refine or_mk fun A ta ws vs hD hth hl => ?_
  intro t0 r0 t2 k2 t3 k3 t4 k4 t5 k5 t6 k6 t7 k7 t8 k8 t9 k9 t10 k10 t11 k11 t12 k12 t13 k13 t14 k14 t15 k15 t16 k16 t17 k17 t18 k18 t19 k19 t20 k20 t21 k21 t22 k22 d0 d1 d2 d3 d4 d5 d6 d7 d8 d9 d10 d11 d12 d13 d14 d15 f0 f1 f2 f3 f4 f5 f6 f7 f8 f9 f10 f11 ta1 w1 le1 s1 f13 f14 f15 f16 f17 f18 f19 f20 f21 f22 f23 f24 f25 f26 ta2 w2 le2 s2 f28 f29 f30 f31 f32 f33 f34 f35 f36 f37 f38 f39
  have s1 : (∀ b j, w_el ws b j = w_el w1 b j) ∧ ∀ b j, w_fd ws b j = if b = v_ad (n_v vs 0) ∧ j = 145 then n_v vs 7 else w_fd w1 b j := s1.2
  replace f17 := shm_1968 f17
  have s2 : (∀ b j, w_el w1 b j = w_el w2 b j) ∧ ∀ b j, w_fd w1 b j = if b = v_ad (n_v vs 0) ∧ j = 144 then n_v vs 6 else w_fd w2 b j := s2.2
  replace f32 := shm_1969 f32
  replace f39 := shm_1967 f39
  have ar_0_2_1 : w_ar w1 (n_v vs 0) 2 = w_ar ws (n_v vs 0) 2 := by show v_ad (w_fd w1 _ _) = v_ad (w_fd ws _ _); rw [s1.2, if_neg (fun e => absurd e.2 (by decide))]
  have ar_0_2_2 : w_ar w2 (n_v vs 0) 2 = w_ar ws (n_v vs 0) 2 := by rw [← ar_0_2_1]; show v_ad (w_fd w2 _ _) = v_ad (w_fd w1 _ _); rw [s2.2, if_neg (fun e => absurd e.2 (by decide))]
  have ar_0_62_1 : w_ar w1 (n_v vs 0) 62 = w_ar ws (n_v vs 0) 62 := by show v_ad (w_fd w1 _ _) = v_ad (w_fd ws _ _); rw [s1.2, if_neg (fun e => absurd e.2 (by decide))]
  have ar_0_62_2 : w_ar w2 (n_v vs 0) 62 = w_ar ws (n_v vs 0) 62 := by rw [← ar_0_62_1]; show v_ad (w_fd w2 _ _) = v_ad (w_fd w1 _ _); rw [s2.2, if_neg (fun e => absurd e.2 (by decide))]
  have ar_0_63_1 : w_ar w1 (n_v vs 0) 63 = w_ar ws (n_v vs 0) 63 := by show v_ad (w_fd w1 _ _) = v_ad (w_fd ws _ _); rw [s1.2, if_neg (fun e => absurd e.2 (by decide))]
  have ar_0_63_2 : w_ar w2 (n_v vs 0) 63 = w_ar ws (n_v vs 0) 63 := by rw [← ar_0_63_1]; show v_ad (w_fd w2 _ _) = v_ad (w_fd w1 _ _); rw [s2.2, if_neg (fun e => absurd e.2 (by decide))]
  have g17 : v_iv (n_v vs 7) = w_fi w1 (n_v vs 0) 145 := congrArg v_iv f17
  have g32 : v_iv (n_v vs 6) = w_fi w2 (n_v vs 0) 144 := congrArg v_iv f32
  simp only [ar_0_2_2, ar_0_62_2, ar_0_63_2] at f39
  have fe_0_5_1 : w_fi ws (n_v vs 0) 5 = w_fi w1 (n_v vs 0) 5 := by show v_iv (w_fd _ _ _) = v_iv (w_fd _ _ _); rw [s1.2, if_neg (fun e => absurd e.2 (by decide))]
  have fe_0_139_1 : w_fi ws (n_v vs 0) 139 = w_fi w1 (n_v vs 0) 139 := by show v_iv (w_fd _ _ _) = v_iv (w_fd _ _ _); rw [s1.2, if_neg (fun e => absurd e.2 (by decide))]
  have fe_0_144_1 : w_fi ws (n_v vs 0) 144 = w_fi w1 (n_v vs 0) 144 := by show v_iv (w_fd _ _ _) = v_iv (w_fd _ _ _); rw [s1.2, if_neg (fun e => absurd e.2 (by decide))]
  have fe_0_145_1 : w_fi ws (n_v vs 0) 145 = v_iv (n_v vs 7) := by show v_iv (w_fd _ _ _) = _; rw [s1.2, if_pos ⟨rfl, rfl⟩]
  have fe_0_5_2 : w_fi w1 (n_v vs 0) 5 = w_fi w2 (n_v vs 0) 5 := by show v_iv (w_fd _ _ _) = v_iv (w_fd _ _ _); rw [s2.2, if_neg (fun e => absurd e.2 (by decide))]
  have fe_0_139_2 : w_fi w1 (n_v vs 0) 139 = w_fi w2 (n_v vs 0) 139 := by show v_iv (w_fd _ _ _) = v_iv (w_fd _ _ _); rw [s2.2, if_neg (fun e => absurd e.2 (by decide))]
  have fe_0_144_2 : w_fi w1 (n_v vs 0) 144 = v_iv (n_v vs 6) := by show v_iv (w_fd _ _ _) = _; rw [s2.2, if_pos ⟨rfl, rfl⟩]
  have fe_0_145_2 : w_fi w1 (n_v vs 0) 145 = w_fi w2 (n_v vs 0) 145 := by show v_iv (w_fd _ _ _) = v_iv (w_fd _ _ _); rw [s2.2, if_neg (fun e => absurd e.2 (by decide))]
  have hE_0_2_1 : ∀ j : Int, w_ei ws (w_ar ws (n_v vs 0) 2) j = w_ei w1 (w_ar ws (n_v vs 0) 2) j := fun j => s1.1 _ _
  have hE_0_2_2 : ∀ j : Int, w_ei w1 (w_ar ws (n_v vs 0) 2) j = w_ei w2 (w_ar ws (n_v vs 0) 2) j := fun j => s2.1 _ _
  have hE_0_62_1 : ∀ j : Int, w_ei ws (w_ar ws (n_v vs 0) 62) j = w_ei w1 (w_ar ws (n_v vs 0) 62) j := fun j => s1.1 _ _
  have hE_0_62_2 : ∀ j : Int, w_ei w1 (w_ar ws (n_v vs 0) 62) j = w_ei w2 (w_ar ws (n_v vs 0) 62) j := fun j => s2.1 _ _
  have hE_0_63_1 : ∀ j : Int, w_ei ws (w_ar ws (n_v vs 0) 63) j = w_ei w1 (w_ar ws (n_v vs 0) 63) j := fun j => s1.1 _ _
  have hE_0_63_2 : ∀ j : Int, w_ei w1 (w_ar ws (n_v vs 0) 63) j = w_ei w2 (w_ar ws (n_v vs 0) 63) j := fun j => s2.1 _ _
  have kz_0_139 := fdq_171 hD hth r0
  have kz_0_144 := fdq_316 hD hth r0
  have kz_0_145 := fdq_317 hD hth r0
  have nf0 : fc_1 PRD (20, [0, 15, 21, 22], [60, 3, 2, 389, 144, 145, 139, 62, 63]) ws (vs) := ⟨nf_in hl rfl, sgq_1967 (vc_Mo_route_13_0 (v_iv (n_v vs 3)) (v_iv (n_v vs 4)) (v_iv (n_v vs 5)) (v_iv (n_v vs 6)) (v_iv (n_v vs 7)) (v_iv (n_v vs 11)) (v_iv (n_v vs 12)) (v_iv (n_v vs 13)) (v_iv (n_v vs 14)) (v_iv (n_v vs 15)) (v_iv (n_v vs 16)) (v_iv (n_v vs 18)) (v_iv (n_v vs 19)) (v_iv (n_v vs 21)) (v_iv (n_v vs 22)) (w_ei ws (w_ar ws (n_v vs 0) 63)) (w_fi ws (n_v vs 0) 139) (w_ei ws (w_ar ws (n_v vs 0) 62)) (w_ei ws (w_ar ws (n_v vs 0) 2)) (w_fi ws (n_v vs 0) 5) (w_ei w1 (w_ar ws (n_v vs 0) 63)) (w_fi w1 (n_v vs 0) 139) (w_fi w1 (n_v vs 0) 145) (w_ei w1 (w_ar ws (n_v vs 0) 62)) (w_ei w1 (w_ar ws (n_v vs 0) 2)) (w_fi w1 (n_v vs 0) 5) (w_ei w2 (w_ar ws (n_v vs 0) 62)) (w_fi w2 (n_v vs 0) 139) (w_fi w2 (n_v vs 0) 144) (w_ei w2 (w_ar ws (n_v vs 0) 2)) (w_fi w2 (n_v vs 0) 5) (w_ei w2 (w_ar ws (n_v vs 0) 63)) (w_fi w2 (n_v vs 0) 145) (w_fi ws (n_v vs 0) 144) (w_fi w1 (n_v vs 0) 144) (w_fi ws (n_v vs 0) 145) k3 k4 k5 k6 k7 k11 k12 k13 k14 k15 k16 k18 k19 k21 k22 d3 d4 d5 d9 d10 (shm_4 f0) (shm_24 f1) (shm_687 f4) (shm_687 f5) (shm_685 f6) (shm_685 f7) g17 (shm_24 f18) (shm_12 f20) (shm_14 f30) g32 f39 fe_0_5_1 fe_0_139_1 fe_0_144_1 fe_0_145_1 fe_0_5_2 fe_0_139_2 fe_0_144_2 fe_0_145_2 hE_0_2_1 hE_0_2_2 hE_0_62_1 hE_0_62_2 hE_0_63_1 hE_0_63_2 kz_0_139 kz_0_144 kz_0_145)⟩
  refine ⟨(fun _ h => (by cases h)), [], trivial, ?_, (fun _ h => (by cases h))⟩
  rw [List.append_nil]
  exact List.forall_mem_cons.mpr ⟨⟨show (20 : Nat) < 100 from by decide, nf0⟩, (fun _ h => (by cases h))⟩
set_option maxHeartbeats 4000000 in
theorem vc_Mo_route_14_0 (x3 : Int) (x4 : Int) (x5 : Int) (x6 : Int) (x7 : Int) (x11 : Int) (x12 : Int) (x13 : Int) (x14 : Int) (x15 : Int) (x16 : Int) (x18 : Int) (x19 : Int) (x21 : Int) (x22 : Int) (nodeY_0 : Int → Int) (g0_0 : Int) (nodeX_0 : Int → Int) (all_0 : Int → Int) (r_0 : Int) (nodeY_1 : Int → Int) (g0_1 : Int) (top0_1 : Int) (nodeX_1 : Int → Int) (all_1 : Int → Int) (r_1 : Int) (nodeX_2 : Int → Int) (g0_2 : Int) (left0_2 : Int) (all_2 : Int → Int) (r_2 : Int) (nodeY_2 : Int → Int) (top0_2 : Int) (left0_0 : Int) (left0_1 : Int) (top0_0 : Int) (k3 : (-2000000) ≤ x3 ∧ x3 ≤ 300000011) (k4 : (-2000000) ≤ x4 ∧ x4 ≤ 300000003) (k5 : 0 ≤ x5 ∧ x5 ≤ 23) (k6 : (-300000011) ≤ x6 ∧ x6 ≤ 2000000) (k7 : (-300000003) ≤ x7 ∧ x7 ≤ 2000000) (k11 : 3 ≤ x11 ∧ x11 ≤ 11) (k12 : (-300000000) ≤ x12 ∧ x12 ≤ 300000000) (k13 : (-300000010) ≤ x13 ∧ x13 ≤ 299999997) (k14 : (-300000000) ≤ x14 ∧ x14 ≤ 300000000) (k15 : (-2000000) ≤ x15 ∧ x15 ≤ 300000011) (k16 : (-300000000) ≤ x16 ∧ x16 ≤ 300000000) (k18 : (-300000002) ≤ x18 ∧ x18 ≤ 299999997) (k19 : (-300000000) ≤ x19 ∧ x19 ≤ 300000000) (k21 : (-299999997) ≤ x21 ∧ x21 ≤ 300000002) (k22 : 1 ≤ x22 ∧ x22 ≤ 24) (d2 : x21 + 1 ≤ x4 ∧ x4 ≤ x21 + 4294967296) (d3 : x19 + 3 ≤ x21 ∧ x21 ≤ x19 + 3) (d4 : x18 + (-4294967296) ≤ x7 ∧ x7 ≤ x18 + (-1)) (d5 : x16 + (-3) ≤ x18 ∧ x18 ≤ x16 + (-3)) (d9 : x14 + 3 ≤ x15 ∧ x15 ≤ x14 + 11) (d10 : x13 + (-4294967296) ≤ x6 ∧ x6 ≤ x13 + (-1)) (f0 : x22 = x5 + 1) (f1 : x4 ≤ x4) (f4 : x19 = nodeY_0 (((24 * g0_0) + x5))) (f5 : x16 = nodeY_0 (((24 * g0_0) + x5))) (f6 : x14 = nodeX_0 (((24 * g0_0) + x5))) (f7 : x12 = nodeX_0 (((24 * g0_0) + x5))) (g17 : x7 = top0_1) (f18 : x3 ≤ x15) (f20 : x15 = x14 + x11) (f30 : x13 = x12 - x11) (g32 : x6 = left0_2) (f39 : RTB (left0_2) (top0_2) (g0_2) (nodeX_2) (nodeY_2) (x3) (x4) (x5)) (fe_0_5_1 : r_0 = r_1) (fe_0_139_1 : g0_0 = g0_1) (fe_0_144_1 : left0_0 = left0_1) (fe_0_145_1 : top0_0 = x7) (fe_0_5_2 : r_1 = r_2) (fe_0_139_2 : g0_1 = g0_2) (fe_0_144_2 : left0_1 = x6) (fe_0_145_2 : top0_1 = top0_2) (hE_0_2_1 : ∀ j : Int, all_0 j = all_1 j) (hE_0_2_2 : ∀ j : Int, all_1 j = all_2 j) (hE_0_62_1 : ∀ j : Int, nodeX_0 j = nodeX_1 j) (hE_0_62_2 : ∀ j : Int, nodeX_1 j = nodeX_2 j) (hE_0_63_1 : ∀ j : Int, nodeY_0 j = nodeY_1 j) (hE_0_63_2 : ∀ j : Int, nodeY_1 j = nodeY_2 j) (kz_0_139 : 0 ≤ g0_0 ∧ g0_0 ≤ 3) (kz_0_144 : (-300000011) ≤ left0_0 ∧ left0_0 ≤ 2000000) (kz_0_145 : (-300000003) ≤ top0_0 ∧ top0_0 ≤ 2000000) : RTB (left0_0) (top0_0) (g0_0) (nodeX_0) (nodeY_0) (x15) (x4) (x22) := by
  subst fe_0_5_1
  subst fe_0_139_1
  subst fe_0_144_1
  subst fe_0_5_2
  subst fe_0_139_2
  subst fe_0_145_2
  have e_hE_0_2_1 := funext hE_0_2_1; subst e_hE_0_2_1
  have e_hE_0_2_2 := funext hE_0_2_2; subst e_hE_0_2_2
  have e_hE_0_62_1 := funext hE_0_62_1; subst e_hE_0_62_1
  have e_hE_0_62_2 := funext hE_0_62_2; subst e_hE_0_62_2
  have e_hE_0_63_1 := funext hE_0_63_1; subst e_hE_0_63_1
  have e_hE_0_63_2 := funext hE_0_63_2; subst e_hE_0_63_2
  first
    | (intro v a b; exfalso; omega)
    | exact rtb_step (w := x11) (x := nodeX_0 (24 * g0_0 + x5)) (y := nodeY_0 (24 * g0_0 + x5)) ‹RTB _ _ _ _ _ _ _ _› (by omega) (by omega) rfl rfl (by omega) (by omega) (by omega) (by omega) (by omega) (by omega) (by omega) (by omega)
  
def o_Mo_route_14 : or_T := (50, 23, [(0, (2, 0, 0, [165])), (2, (0, 0, 47, [])), (3, (0, -2000000, 300000011, [])), (4, (0, -2000000, 300000003, [])), (5, (0, 0, 23, [])), (6, (0, -300000011, 2000000, [])), (7, (0, -300000003, 2000000, [])), (8, (0, 1, 24, [])), (9, (0, 0, 8, [])), (10, (0, 3, 3, [])), (11, (0, 3, 11, [])), (12, (0, -300000000, 300000000, [])), (13, (0, -300000010, 299999997, [])), (14, (0, -300000000, 300000000, [])), (15, (0, -2000000, 300000011, [])), (16, (0, -300000000, 300000000, [])), (17, (0, 3, 3, [])), (18, (0, -300000002, 299999997, [])), (19, (0, -300000000, 300000000, [])), (20, (0, 3, 3, [])), (21, (0, -299999997, 300000002, [])), (22, (0, 1, 24, []))], [(6, [22, 5], [1]), (7, [4, 4], [5]), (7, [21, 4], [5]), (1, [21, 19, 20], []), (20, [19, 0, 5], [50, 1, 1, 1139, 1063, 1, 2, 1, 0, 3, 1, 63, 4, 7, 6, 2, 0, 24, 2, 1, 139, 1, 2]), (20, [16, 0, 5], [50, 1, 1, 1139, 1063, 1, 2, 1, 0, 3, 1, 63, 4, 7, 6, 2, 0, 24, 2, 1, 139, 1, 2]), (20, [14, 0, 5], [50, 1, 1, 1139, 1062, 1, 2, 1, 0, 3, 1, 62, 4, 7, 6, 2, 0, 24, 2, 1, 139, 1, 2]), (20, [12, 0, 5], [50, 1, 1, 1139, 1062, 1, 2, 1, 0, 3, 1, 62, 4, 7, 6, 2, 0, 24, 2, 1, 139, 1, 2]), (20, [8, 0], [30, 0, 1, 0, 0, -1, 3, 2005000]), (20, [8, 0], [30, 0, -1, 0, 0, 1, 3, 2005000]), (20, [0], [60, 1, 1, 197, 5, 2]), (20, [2, 0], [50, 1, 1, 1005, 1002, 0, 6, 4, 2, 1, 0, 0, 1, 3, 1, 2, 4, 3, 2, 1, 5, 0, 1]), (101, [0, 7], [145]), (7, [7, 7], [5]), (7, [7, 18], [5]), (2, [18, 16, 17], []), (20, [16, 0, 5], [50, 1, 1, 1139, 1063, 1, 2, 1, 0, 3, 1, 63, 4, 7, 6, 2, 0, 24, 2, 1, 139, 1, 2]), (9, [7, 0], [145]), (7, [3, 15], [5]), (7, [15, 15], [5]), (1, [15, 14, 11], []), (20, [14, 0, 5], [50, 1, 1, 1139, 1062, 1, 2, 1, 0, 3, 1, 62, 4, 7, 6, 2, 0, 24, 2, 1, 139, 1, 2]), (20, [12, 0, 5], [50, 1, 1, 1139, 1062, 1, 2, 1, 0, 3, 1, 62, 4, 7, 6, 2, 0, 24, 2, 1, 139, 1, 2]), (20, [8, 0], [30, 0, 1, 0, 0, -1, 3, 2005000]), (20, [8, 0], [30, 0, -1, 0, 0, 1, 3, 2005000]), (20, [0], [60, 1, 1, 197, 5, 2]), (20, [2, 0], [50, 1, 1, 1005, 1002, 0, 6, 4, 2, 1, 0, 0, 1, 3, 1, 2, 4, 3, 2, 1, 5, 0, 1]), (101, [0, 6], [144]), (7, [6, 6], [5]), (7, [6, 13], [5]), (2, [13, 12, 11], []), (20, [12, 0, 5], [50, 1, 1, 1139, 1062, 1, 2, 1, 0, 3, 1, 62, 4, 7, 6, 2, 0, 24, 2, 1, 139, 1, 2]), (9, [6, 0], [144]), (1, [11, 9, 10], []), (7, [5, 8], [2]), (20, [8, 0], [30, 0, 1, 0, 0, -1, 3, 2005000]), (20, [8, 0], [30, 0, -1, 0, 0, 1, 3, 2005000]), (20, [0], [60, 1, 1, 197, 5, 2]), (20, [2, 0], [50, 1, 1, 1005, 1002, 0, 6, 4, 2, 1, 0, 0, 1, 3, 1, 2, 4, 3, 2, 1, 5, 0, 1]), (20, [0, 3, 4, 5], [60, 3, 2, 389, 144, 145, 139, 62, 63])], [], [], [(20, [0, 15, 4, 22], [60, 3, 2, 389, 144, 145, 139, 62, 63])], [], [(22, 5, 1, 1), (22, 8, -4294967296, 0), (4, 21, 1, 4294967296), (21, 19, 3, 3), (7, 18, -4294967296, -1), (18, 16, -3, -3), (3, 15, -4294967296, 0), (15, 11, -300000000, 300000000), (15, 9, -299999997, 300000003), (15, 14, 3, 11), (6, 13, -4294967296, -1), (13, 12, -11, -3), (11, 9, 3, 3), (5, 8, -4294967296, -1), (3, 5, -4294967296, 300000010), (4, 5, -4294967296, 300000002)])
theorem oo_Mo_route_14 {kA : Nat → ClassId} : or_ok PRD kA GG o_Mo_route_14 := by
  refine or_mk fun A ta ws vs hD hth hl => ?_
  intro t0 r0 t2 k2 t3 k3 t4 k4 t5 k5 t6 k6 t7 k7 t8 k8 t9 k9 t10 k10 t11 k11 t12 k12 t13 k13 t14 k14 t15 k15 t16 k16 t17 k17 t18 k18 t19 k19 t20 k20 t21 k21 t22 k22 d0 d1 d2 d3 d4 d5 d6 d7 d8 d9 d10 d11 d12 d13 d14 d15 f0 f1 f2 f3 f4 f5 f6 f7 f8 f9 f10 f11 ta1 w1 le1 s1 f13 f14 f15 f16 f17 f18 f19 f20 f21 f22 f23 f24 f25 f26 ta2 w2 le2 s2 f28 f29 f30 f31 f32 f33 f34 f35 f36 f37 f38 f39
  have s1 : (∀ b j, w_el ws b j = w_el w1 b j) ∧ ∀ b j, w_fd ws b j = if b = v_ad (n_v vs 0) ∧ j = 145 then n_v vs 7 else w_fd w1 b j := s1.2
  replace f17 := shm_1968 f17
  have s2 : (∀ b j, w_el w1 b j = w_el w2 b j) ∧ ∀ b j, w_fd w1 b j = if b = v_ad (n_v vs 0) ∧ j = 144 then n_v vs 6 else w_fd w2 b j := s2.2
  replace f32 := shm_1969 f32
  replace f39 := shm_1967 f39
  have ar_0_2_1 : w_ar w1 (n_v vs 0) 2 = w_ar ws (n_v vs 0) 2 := by show v_ad (w_fd w1 _ _) = v_ad (w_fd ws _ _); rw [s1.2, if_neg (fun e => absurd e.2 (by decide))]
  have ar_0_2_2 : w_ar w2 (n_v vs 0) 2 = w_ar ws (n_v vs 0) 2 := by rw [← ar_0_2_1]; show v_ad (w_fd w2 _ _) = v_ad (w_fd w1 _ _); rw [s2.2, if_neg (fun e => absurd e.2 (by decide))]
  have ar_0_62_1 : w_ar w1 (n_v vs 0) 62 = w_ar ws (n_v vs 0) 62 := by show v_ad (w_fd w1 _ _) = v_ad (w_fd ws _ _); rw [s1.2, if_neg (fun e => absurd e.2 (by decide))]
  have ar_0_62_2 : w_ar w2 (n_v vs 0) 62 = w_ar ws (n_v vs 0) 62 := by rw [← ar_0_62_1]; show v_ad (w_fd w2 _ _) = v_ad (w_fd w1 _ _); rw [s2.2, if_neg (fun e => absurd e.2 (by decide))]
  have ar_0_63_1 : w_ar w1 (n_v vs 0) 63 = w_ar ws (n_v vs 0) 63 := by show v_ad (w_fd w1 _ _) = v_ad (w_fd ws _ _); rw [s1.2, if_neg (fun e => absurd e.2 (by decide))]
  have ar_0_63_2 : w_ar w2 (n_v vs 0) 63 = w_ar ws (n_v vs 0) 63 := by rw [← ar_0_63_1]; show v_ad (w_fd w2 _ _) = v_ad (w_fd w1 _ _); rw [s2.2, if_neg (fun e => absurd e.2 (by decide))]
  have g17 : v_iv (n_v vs 7) = w_fi w1 (n_v vs 0) 145 := congrArg v_iv f17
  have g32 : v_iv (n_v vs 6) = w_fi w2 (n_v vs 0) 144 := congrArg v_iv f32
  simp only [ar_0_2_2, ar_0_62_2, ar_0_63_2] at f39
  have fe_0_5_1 : w_fi ws (n_v vs 0) 5 = w_fi w1 (n_v vs 0) 5 := by show v_iv (w_fd _ _ _) = v_iv (w_fd _ _ _); rw [s1.2, if_neg (fun e => absurd e.2 (by decide))]
  have fe_0_139_1 : w_fi ws (n_v vs 0) 139 = w_fi w1 (n_v vs 0) 139 := by show v_iv (w_fd _ _ _) = v_iv (w_fd _ _ _); rw [s1.2, if_neg (fun e => absurd e.2 (by decide))]
  have fe_0_144_1 : w_fi ws (n_v vs 0) 144 = w_fi w1 (n_v vs 0) 144 := by show v_iv (w_fd _ _ _) = v_iv (w_fd _ _ _); rw [s1.2, if_neg (fun e => absurd e.2 (by decide))]
  have fe_0_145_1 : w_fi ws (n_v vs 0) 145 = v_iv (n_v vs 7) := by show v_iv (w_fd _ _ _) = _; rw [s1.2, if_pos ⟨rfl, rfl⟩]
  have fe_0_5_2 : w_fi w1 (n_v vs 0) 5 = w_fi w2 (n_v vs 0) 5 := by show v_iv (w_fd _ _ _) = v_iv (w_fd _ _ _); rw [s2.2, if_neg (fun e => absurd e.2 (by decide))]
  have fe_0_139_2 : w_fi w1 (n_v vs 0) 139 = w_fi w2 (n_v vs 0) 139 := by show v_iv (w_fd _ _ _) = v_iv (w_fd _ _ _); rw [s2.2, if_neg (fun e => absurd e.2 (by decide))]
  have fe_0_144_2 : w_fi w1 (n_v vs 0) 144 = v_iv (n_v vs 6) := by show v_iv (w_fd _ _ _) = _; rw [s2.2, if_pos ⟨rfl, rfl⟩]
  have fe_0_145_2 : w_fi w1 (n_v vs 0) 145 = w_fi w2 (n_v vs 0) 145 := by show v_iv (w_fd _ _ _) = v_iv (w_fd _ _ _); rw [s2.2, if_neg (fun e => absurd e.2 (by decide))]
  have hE_0_2_1 : ∀ j : Int, w_ei ws (w_ar ws (n_v vs 0) 2) j = w_ei w1 (w_ar ws (n_v vs 0) 2) j := fun j => s1.1 _ _
  have hE_0_2_2 : ∀ j : Int, w_ei w1 (w_ar ws (n_v vs 0) 2) j = w_ei w2 (w_ar ws (n_v vs 0) 2) j := fun j => s2.1 _ _
  have hE_0_62_1 : ∀ j : Int, w_ei ws (w_ar ws (n_v vs 0) 62) j = w_ei w1 (w_ar ws (n_v vs 0) 62) j := fun j => s1.1 _ _
  have hE_0_62_2 : ∀ j : Int, w_ei w1 (w_ar ws (n_v vs 0) 62) j = w_ei w2 (w_ar ws (n_v vs 0) 62) j := fun j => s2.1 _ _
  have hE_0_63_1 : ∀ j : Int, w_ei ws (w_ar ws (n_v vs 0) 63) j = w_ei w1 (w_ar ws (n_v vs 0) 63) j := fun j => s1.1 _ _
  have hE_0_63_2 : ∀ j : Int, w_ei w1 (w_ar ws (n_v vs 0) 63) j = w_ei w2 (w_ar ws (n_v vs 0) 63) j := fun j => s2.1 _ _
  have kz_0_139 := fdq_171 hD hth r0
  have kz_0_144 := fdq_316 hD hth r0
  have kz_0_145 := fdq_317 hD hth r0
  have nf0 : fc_1 PRD (20, [0, 15, 4, 22], [60, 3, 2, 389, 144, 145, 139, 62, 63]) ws (vs) := ⟨nf_in hl rfl, sgq_1967 (vc_Mo_route_14_0 (v_iv (n_v vs 3)) (v_iv (n_v vs 4)) (v_iv (n_v vs 5)) (v_iv (n_v vs 6)) (v_iv (n_v vs 7)) (v_iv (n_v vs 11)) (v_iv (n_v vs 12)) (v_iv (n_v vs 13)) (v_iv (n_v vs 14)) (v_iv (n_v vs 15)) (v_iv (n_v vs 16)) (v_iv (n_v vs 18)) (v_iv (n_v vs 19)) (v_iv (n_v vs 21)) (v_iv (n_v vs 22)) (w_ei ws (w_ar ws (n_v vs 0) 63)) (w_fi ws (n_v vs 0) 139) (w_ei ws (w_ar ws (n_v vs 0) 62)) (w_ei ws (w_ar ws (n_v vs 0) 2)) (w_fi ws (n_v vs 0) 5) (w_ei w1 (w_ar ws (n_v vs 0) 63)) (w_fi w1 (n_v vs 0) 139) (w_fi w1 (n_v vs 0) 145) (w_ei w1 (w_ar ws (n_v vs 0) 62)) (w_ei w1 (w_ar ws (n_v vs 0) 2)) (w_fi w1 (n_v vs 0) 5) (w_ei w2 (w_ar ws (n_v vs 0) 62)) (w_fi w2 (n_v vs 0) 139) (w_fi w2 (n_v vs 0) 144) (w_ei w2 (w_ar ws (n_v vs 0) 2)) (w_fi w2 (n_v vs 0) 5) (w_ei w2 (w_ar ws (n_v vs 0) 63)) (w_fi w2 (n_v vs 0) 145) (w_fi ws (n_v vs 0) 144) (w_fi w1 (n_v vs 0) 144) (w_fi ws (n_v vs 0) 145) k3 k4 k5 k6 k7 k11 k12 k13 k14 k15 k16 k18 k19 k21 k22 d2 d3 d4 d5 d9 d10 (shm_4 f0) (shm_134 f1) (shm_687 f4) (shm_687 f5) (shm_685 f6) (shm_685 f7) g17 (shm_24 f18) (shm_12 f20) (shm_14 f30) g32 f39 fe_0_5_1 fe_0_139_1 fe_0_144_1 fe_0_145_1 fe_0_5_2 fe_0_139_2 fe_0_144_2 fe_0_145_2 hE_0_2_1 hE_0_2_2 hE_0_62_1 hE_0_62_2 hE_0_63_1 hE_0_63_2 kz_0_139 kz_0_144 kz_0_145)⟩
  refine ⟨(fun _ h => (by cases h)), [], trivial, ?_, (fun _ h => (by cases h))⟩
  rw [List.append_nil]
  exact List.forall_mem_cons.mpr ⟨⟨show (20 : Nat) < 100 from by decide, nf0⟩, (fun _ h => (by cases h))⟩
set_option maxHeartbeats 4000000 in
theorem vc_Mo_route_15_0 (x3 : Int) (x4 : Int) (x5 : Int) (x6 : Int) (x7 : Int) (x11 : Int) (x12 : Int) (x13 : Int) (x14 : Int) (x15 : Int) (x16 : Int) (x18 : Int) (x19 : Int) (x21 : Int) (x22 : Int) (nodeY_0 : Int → Int) (g0_0 : Int) (nodeX_0 : Int → Int) (all_0 : Int → Int) (r_0 : Int) (nodeY_1 : Int → Int) (g0_1 : Int) (top0_1 : Int) (nodeX_1 : Int → Int) (all_1 : Int → Int) (r_1 : Int) (nodeX_2 : Int → Int) (g0_2 : Int) (left0_2 : Int) (all_2 : Int → Int) (r_2 : Int) (nodeY_2 : Int → Int) (top0_2 : Int) (left0_0 : Int) (left0_1 : Int) (top0_0 : Int) (k3 : (-2000000) ≤ x3 ∧ x3 ≤ 300000011) (k4 : (-2000000) ≤ x4 ∧ x4 ≤ 300000003) (k5 : 0 ≤ x5 ∧ x5 ≤ 23) (k6 : (-300000011) ≤ x6 ∧ x6 ≤ 2000000) (k7 : (-300000003) ≤ x7 ∧ x7 ≤ 2000000) (k11 : 3 ≤ x11 ∧ x11 ≤ 11) (k12 : (-300000000) ≤ x12 ∧ x12 ≤ 300000000) (k13 : (-300000010) ≤ x13 ∧ x13 ≤ 299999997) (k14 : (-300000000) ≤ x14 ∧ x14 ≤ 300000000) (k15 : (-299999997) ≤ x15 ∧ x15 ≤ 300000010) (k16 : (-300000000) ≤ x16 ∧ x16 ≤ 300000000) (k18 : (-300000003) ≤ x18 ∧ x18 ≤ 2000000) (k19 : (-300000000) ≤ x19 ∧ x19 ≤ 300000000) (k21 : (-2000000) ≤ x21 ∧ x21 ≤ 300000003) (k22 : 1 ≤ x22 ∧ x22 ≤ 24) (d3 : x19 + 3 ≤ x21 ∧ x21 ≤ x19 + 3) (d4 : x18 + 0 ≤ x7 ∧ x7 ≤ x18 + 4294967296) (d5 : x16 + (-3) ≤ x18 ∧ x18 ≤ x16 + (-3)) (d6 : x15 + 1 ≤ x3 ∧ x3 ≤ x15 + 4294967296) (d9 : x14 + 3 ≤ x15 ∧ x15 ≤ x14 + 11) (d10 : x13 + (-4294967296) ≤ x6 ∧ x6 ≤ x13 + (-1)) (f0 : x22 = x5 + 1) (f1 : x4 ≤ x21) (f4 : x19 = nodeY_0 (((24 * g0_0) + x5))) (f5 : x16 = nodeY_0 (((24 * g0_0) + x5))) (f6 : x14 = nodeX_0 (((24 * g0_0) + x5))) (f7 : x12 = nodeX_0 (((24 * g0_0) + x5))) (g17 : x7 = top0_1) (f18 : x3 ≤ x3) (f20 : x15 = x14 + x11) (f30 : x13 = x12 - x11) (g32 : x6 = left0_2) (f39 : RTB (left0_2) (top0_2) (g0_2) (nodeX_2) (nodeY_2) (x3) (x4) (x5)) (fe_0_5_1 : r_0 = r_1) (fe_0_139_1 : g0_0 = g0_1) (fe_0_144_1 : left0_0 = left0_1) (fe_0_145_1 : top0_0 = x18) (fe_0_5_2 : r_1 = r_2) (fe_0_139_2 : g0_1 = g0_2) (fe_0_144_2 : left0_1 = x6) (fe_0_145_2 : top0_1 = top0_2) (hE_0_2_1 : ∀ j : Int, all_0 j = all_1 j) (hE_0_2_2 : ∀ j : Int, all_1 j = all_2 j) (hE_0_62_1 : ∀ j : Int, nodeX_0 j = nodeX_1 j) (hE_0_62_2 : ∀ j : Int, nodeX_1 j = nodeX_2 j) (hE_0_63_1 : ∀ j : Int, nodeY_0 j = nodeY_1 j) (hE_0_63_2 : ∀ j : Int, nodeY_1 j = nodeY_2 j) (kz_0_139 : 0 ≤ g0_0 ∧ g0_0 ≤ 3) (kz_0_144 : (-300000011) ≤ left0_0 ∧ left0_0 ≤ 2000000) (kz_0_145 : (-300000003) ≤ top0_0 ∧ top0_0 ≤ 2000000) : RTB (left0_0) (top0_0) (g0_0) (nodeX_0) (nodeY_0) (x3) (x21) (x22) := by
  subst fe_0_5_1
  subst fe_0_139_1
  subst fe_0_144_1
  subst fe_0_5_2
  subst fe_0_139_2
  subst fe_0_145_2
  have e_hE_0_2_1 := funext hE_0_2_1; subst e_hE_0_2_1
  have e_hE_0_2_2 := funext hE_0_2_2; subst e_hE_0_2_2
  have e_hE_0_62_1 := funext hE_0_62_1; subst e_hE_0_62_1
  have e_hE_0_62_2 := funext hE_0_62_2; subst e_hE_0_62_2
  have e_hE_0_63_1 := funext hE_0_63_1; subst e_hE_0_63_1
  have e_hE_0_63_2 := funext hE_0_63_2; subst e_hE_0_63_2
  first
    | (intro v a b; exfalso; omega)
    | exact rtb_step (w := x11) (x := nodeX_0 (24 * g0_0 + x5)) (y := nodeY_0 (24 * g0_0 + x5)) ‹RTB _ _ _ _ _ _ _ _› (by omega) (by omega) rfl rfl (by omega) (by omega) (by omega) (by omega) (by omega) (by omega) (by omega) (by omega)
  
def o_Mo_route_15 : or_T := (50, 23, [(0, (2, 0, 0, [165])), (2, (0, 0, 47, [])), (3, (0, -2000000, 300000011, [])), (4, (0, -2000000, 300000003, [])), (5, (0, 0, 23, [])), (6, (0, -300000011, 2000000, [])), (7, (0, -300000003, 2000000, [])), (8, (0, 1, 24, [])), (9, (0, 0, 8, [])), (10, (0, 3, 3, [])), (11, (0, 3, 11, [])), (12, (0, -300000000, 300000000, [])), (13, (0, -300000010, 299999997, [])), (14, (0, -300000000, 300000000, [])), (15, (0, -299999997, 300000010, [])), (16, (0, -300000000, 300000000, [])), (17, (0, 3, 3, [])), (18, (0, -300000003, 2000000, [])), (19, (0, -300000000, 300000000, [])), (20, (0, 3, 3, [])), (21, (0, -2000000, 300000003, [])), (22, (0, 1, 24, []))], [(6, [22, 5], [1]), (7, [4, 21], [5]), (7, [21, 21], [5]), (1, [21, 19, 20], []), (20, [19, 0, 5], [50, 1, 1, 1139, 1063, 1, 2, 1, 0, 3, 1, 63, 4, 7, 6, 2, 0, 24, 2, 1, 139, 1, 2]), (20, [16, 0, 5], [50, 1, 1, 1139, 1063, 1, 2, 1, 0, 3, 1, 63, 4, 7, 6, 2, 0, 24, 2, 1, 139, 1, 2]), (20, [14, 0, 5], [50, 1, 1, 1139, 1062, 1, 2, 1, 0, 3, 1, 62, 4, 7, 6, 2, 0, 24, 2, 1, 139, 1, 2]), (20, [12, 0, 5], [50, 1, 1, 1139, 1062, 1, 2, 1, 0, 3, 1, 62, 4, 7, 6, 2, 0, 24, 2, 1, 139, 1, 2]), (20, [8, 0], [30, 0, 1, 0, 0, -1, 3, 2005000]), (20, [8, 0], [30, 0, -1, 0, 0, 1, 3, 2005000]), (20, [0], [60, 1, 1, 197, 5, 2]), (20, [2, 0], [50, 1, 1, 1005, 1002, 0, 6, 4, 2, 1, 0, 0, 1, 3, 1, 2, 4, 3, 2, 1, 5, 0, 1]), (101, [0, 18], [145]), (7, [18, 7], [5]), (7, [18, 18], [5]), (2, [18, 16, 17], []), (20, [16, 0, 5], [50, 1, 1, 1139, 1063, 1, 2, 1, 0, 3, 1, 63, 4, 7, 6, 2, 0, 24, 2, 1, 139, 1, 2]), (9, [7, 0], [145]), (7, [3, 3], [5]), (7, [15, 3], [5]), (1, [15, 14, 11], []), (20, [14, 0, 5], [50, 1, 1, 1139, 1062, 1, 2, 1, 0, 3, 1, 62, 4, 7, 6, 2, 0, 24, 2, 1, 139, 1, 2]), (20, [12, 0, 5], [50, 1, 1, 1139, 1062, 1, 2, 1, 0, 3, 1, 62, 4, 7, 6, 2, 0, 24, 2, 1, 139, 1, 2]), (20, [8, 0], [30, 0, 1, 0, 0, -1, 3, 2005000]), (20, [8, 0], [30, 0, -1, 0, 0, 1, 3, 2005000]), (20, [0], [60, 1, 1, 197, 5, 2]), (20, [2, 0], [50, 1, 1, 1005, 1002, 0, 6, 4, 2, 1, 0, 0, 1, 3, 1, 2, 4, 3, 2, 1, 5, 0, 1]), (101, [0, 6], [144]), (7, [6, 6], [5]), (7, [6, 13], [5]), (2, [13, 12, 11], []), (20, [12, 0, 5], [50, 1, 1, 1139, 1062, 1, 2, 1, 0, 3, 1, 62, 4, 7, 6, 2, 0, 24, 2, 1, 139, 1, 2]), (9, [6, 0], [144]), (1, [11, 9, 10], []), (7, [5, 8], [2]), (20, [8, 0], [30, 0, 1, 0, 0, -1, 3, 2005000]), (20, [8, 0], [30, 0, -1, 0, 0, 1, 3, 2005000]), (20, [0], [60, 1, 1, 197, 5, 2]), (20, [2, 0], [50, 1, 1, 1005, 1002, 0, 6, 4, 2, 1, 0, 0, 1, 3, 1, 2, 4, 3, 2, 1, 5, 0, 1]), (20, [0, 3, 4, 5], [60, 3, 2, 389, 144, 145, 139, 62, 63])], [], [], [(20, [0, 3, 21, 22], [60, 3, 2, 389, 144, 145, 139, 62, 63])], [], [(22, 5, 1, 1), (22, 8, -4294967296, 0), (4, 21, -4294967296, 0), (21, 19, 3, 3), (7, 18, 0, 4294967296), (18, 16, -3, -3), (3, 15, 1, 4294967296), (15, 11, -300000000, 300000000), (15, 9, -299999997, 300000003), (15, 14, 3, 11), (6, 13, -4294967296, -1), (13, 12, -11, -3), (11, 9, 3, 3), (5, 8, -4294967296, -1), (3, 5, -4294967296, 300000010), (4, 5, -4294967296, 300000002)])
theorem oo_Mo_route_15 {kA : Nat → ClassId} : or_ok PRD kA GG o_Mo_route_15 := by
  refine or_mk fun A ta ws vs hD hth hl => ?_
  intro t0 r0 t2 k2 t3 k3 t4 k4 t5 k5 t6 k6 t7 k7 t8 k8 t9 k9 t10 k10 t11 k11 t12 k12 t13 k13 t14 k14 t15 k15 t16 k16 t17 k17 t18 k18 t19 k19 t20 k20 t21 k21 t22 k22 d0 d1 d2 d3 d4 d5 d6 d7 d8 d9 d10 d11 d12 d13 d14 d15 f0 f1 f2 f3 f4 f5 f6 f7 f8 f9 f10 f11 ta1 w1 le1 s1 f13 f14 f15 f16 f17 f18 f19 f20 f21 f22 f23 f24 f25 f26 ta2 w2 le2 s2 f28 f29 f30 f31 f32 f33 f34 f35 f36 f37 f38 f39
  have s1 : (∀ b j, w_el ws b j = w_el w1 b j) ∧ ∀ b j, w_fd ws b j = if b = v_ad (n_v vs 0) ∧ j = 145 then n_v vs 18 else w_fd w1 b j := s1.2
  replace f17 := shm_1968 f17
  have s2 : (∀ b j, w_el w1 b j = w_el w2 b j) ∧ ∀ b j, w_fd w1 b j = if b = v_ad (n_v vs 0) ∧ j = 144 then n_v vs 6 else w_fd w2 b j := s2.2
  replace f32 := shm_1969 f32
  replace f39 := shm_1967 f39
  have ar_0_2_1 : w_ar w1 (n_v vs 0) 2 = w_ar ws (n_v vs 0) 2 := by show v_ad (w_fd w1 _ _) = v_ad (w_fd ws _ _); rw [s1.2, if_neg (fun e => absurd e.2 (by decide))]
  have ar_0_2_2 : w_ar w2 (n_v vs 0) 2 = w_ar ws (n_v vs 0) 2 := by rw [← ar_0_2_1]; show v_ad (w_fd w2 _ _) = v_ad (w_fd w1 _ _); rw [s2.2, if_neg (fun e => absurd e.2 (by decide))]
  have ar_0_62_1 : w_ar w1 (n_v vs 0) 62 = w_ar ws (n_v vs 0) 62 := by show v_ad (w_fd w1 _ _) = v_ad (w_fd ws _ _); rw [s1.2, if_neg (fun e => absurd e.2 (by decide))]
  have ar_0_62_2 : w_ar w2 (n_v vs 0) 62 = w_ar ws (n_v vs 0) 62 := by rw [← ar_0_62_1]; show v_ad (w_fd w2 _ _) = v_ad (w_fd w1 _ _); rw [s2.2, if_neg (fun e => absurd e.2 (by decide))]
  have ar_0_63_1 : w_ar w1 (n_v vs 0) 63 = w_ar ws (n_v vs 0) 63 := by show v_ad (w_fd w1 _ _) = v_ad (w_fd ws _ _); rw [s1.2, if_neg (fun e => absurd e.2 (by decide))]
  have ar_0_63_2 : w_ar w2 (n_v vs 0) 63 = w_ar ws (n_v vs 0) 63 := by rw [← ar_0_63_1]; show v_ad (w_fd w2 _ _) = v_ad (w_fd w1 _ _); rw [s2.2, if_neg (fun e => absurd e.2 (by decide))]
  have g17 : v_iv (n_v vs 7) = w_fi w1 (n_v vs 0) 145 := congrArg v_iv f17
  have g32 : v_iv (n_v vs 6) = w_fi w2 (n_v vs 0) 144 := congrArg v_iv f32
  simp only [ar_0_2_2, ar_0_62_2, ar_0_63_2] at f39
  have fe_0_5_1 : w_fi ws (n_v vs 0) 5 = w_fi w1 (n_v vs 0) 5 := by show v_iv (w_fd _ _ _) = v_iv (w_fd _ _ _); rw [s1.2, if_neg (fun e => absurd e.2 (by decide))]
  have fe_0_139_1 : w_fi ws (n_v vs 0) 139 = w_fi w1 (n_v vs 0) 139 := by show v_iv (w_fd _ _ _) = v_iv (w_fd _ _ _); rw [s1.2, if_neg (fun e => absurd e.2 (by decide))]
  have fe_0_144_1 : w_fi ws (n_v vs 0) 144 = w_fi w1 (n_v vs 0) 144 := by show v_iv (w_fd _ _ _) = v_iv (w_fd _ _ _); rw [s1.2, if_neg (fun e => absurd e.2 (by decide))]
  have fe_0_145_1 : w_fi ws (n_v vs 0) 145 = v_iv (n_v vs 18) := by show v_iv (w_fd _ _ _) = _; rw [s1.2, if_pos ⟨rfl, rfl⟩]
  have fe_0_5_2 : w_fi w1 (n_v vs 0) 5 = w_fi w2 (n_v vs 0) 5 := by show v_iv (w_fd _ _ _) = v_iv (w_fd _ _ _); rw [s2.2, if_neg (fun e => absurd e.2 (by decide))]
  have fe_0_139_2 : w_fi w1 (n_v vs 0) 139 = w_fi w2 (n_v vs 0) 139 := by show v_iv (w_fd _ _ _) = v_iv (w_fd _ _ _); rw [s2.2, if_neg (fun e => absurd e.2 (by decide))]
  have fe_0_144_2 : w_fi w1 (n_v vs 0) 144 = v_iv (n_v vs 6) := by show v_iv (w_fd _ _ _) = _; rw [s2.2, if_pos ⟨rfl, rfl⟩]
  have fe_0_145_2 : w_fi w1 (n_v vs 0) 145 = w_fi w2 (n_v vs 0) 145 := by show v_iv (w_fd _ _ _) = v_iv (w_fd _ _ _); rw [s2.2, if_neg (fun e => absurd e.2 (by decide))]
  have hE_0_2_1 : ∀ j : Int, w_ei ws (w_ar ws (n_v vs 0) 2) j = w_ei w1 (w_ar ws (n_v vs 0) 2) j := fun j => s1.1 _ _
  have hE_0_2_2 : ∀ j : Int, w_ei w1 (w_ar ws (n_v vs 0) 2) j = w_ei w2 (w_ar ws (n_v vs 0) 2) j := fun j => s2.1 _ _
  have hE_0_62_1 : ∀ j : Int, w_ei ws (w_ar ws (n_v vs 0) 62) j = w_ei w1 (w_ar ws (n_v vs 0) 62) j := fun j => s1.1 _ _
  have hE_0_62_2 : ∀ j : Int, w_ei w1 (w_ar ws (n_v vs 0) 62) j = w_ei w2 (w_ar ws (n_v vs 0) 62) j := fun j => s2.1 _ _
  have hE_0_63_1 : ∀ j : Int, w_ei ws (w_ar ws (n_v vs 0) 63) j = w_ei w1 (w_ar ws (n_v vs 0) 63) j := fun j => s1.1 _ _
  have hE_0_63_2 : ∀ j : Int, w_ei w1 (w_ar ws (n_v vs 0) 63) j = w_ei w2 (w_ar ws (n_v vs 0) 63) j := fun j => s2.1 _ _
  have kz_0_139 := fdq_171 hD hth r0
  have kz_0_144 := fdq_316 hD hth r0
  have kz_0_145 := fdq_317 hD hth r0
  have nf0 : fc_1 PRD (20, [0, 3, 21, 22], [60, 3, 2, 389, 144, 145, 139, 62, 63]) ws (vs) := ⟨nf_in hl rfl, sgq_1967 (vc_Mo_route_15_0 (v_iv (n_v vs 3)) (v_iv (n_v vs 4)) (v_iv (n_v vs 5)) (v_iv (n_v vs 6)) (v_iv (n_v vs 7)) (v_iv (n_v vs 11)) (v_iv (n_v vs 12)) (v_iv (n_v vs 13)) (v_iv (n_v vs 14)) (v_iv (n_v vs 15)) (v_iv (n_v vs 16)) (v_iv (n_v vs 18)) (v_iv (n_v vs 19)) (v_iv (n_v vs 21)) (v_iv (n_v vs 22)) (w_ei ws (w_ar ws (n_v vs 0) 63)) (w_fi ws (n_v vs 0) 139) (w_ei ws (w_ar ws (n_v vs 0) 62)) (w_ei ws (w_ar ws (n_v vs 0) 2)) (w_fi ws (n_v vs 0) 5) (w_ei w1 (w_ar ws (n_v vs 0) 63)) (w_fi w1 (n_v vs 0) 139) (w_fi w1 (n_v vs 0) 145) (w_ei w1 (w_ar ws (n_v vs 0) 62)) (w_ei w1 (w_ar ws (n_v vs 0) 2)) (w_fi w1 (n_v vs 0) 5) (w_ei w2 (w_ar ws (n_v vs 0) 62)) (w_fi w2 (n_v vs 0) 139) (w_fi w2 (n_v vs 0) 144) (w_ei w2 (w_ar ws (n_v vs 0) 2)) (w_fi w2 (n_v vs 0) 5) (w_ei w2 (w_ar ws (n_v vs 0) 63)) (w_fi w2 (n_v vs 0) 145) (w_fi ws (n_v vs 0) 144) (w_fi w1 (n_v vs 0) 144) (w_fi ws (n_v vs 0) 145) k3 k4 k5 k6 k7 k11 k12 k13 k14 k15 k16 k18 k19 k21 k22 d3 d4 d5 d6 d9 d10 (shm_4 f0) (shm_24 f1) (shm_687 f4) (shm_687 f5) (shm_685 f6) (shm_685 f7) g17 (shm_134 f18) (shm_12 f20) (shm_14 f30) g32 f39 fe_0_5_1 fe_0_139_1 fe_0_144_1 fe_0_145_1 fe_0_5_2 fe_0_139_2 fe_0_144_2 fe_0_145_2 hE_0_2_1 hE_0_2_2 hE_0_62_1 hE_0_62_2 hE_0_63_1 hE_0_63_2 kz_0_139 kz_0_144 kz_0_145)⟩
  refine ⟨(fun _ h => (by cases h)), [], trivial, ?_, (fun _ h => (by cases h))⟩
  rw [List.append_nil]
  exact List.forall_mem_cons.mpr ⟨⟨show (20 : Nat) < 100 from by decide, nf0⟩, (fun _ h => (by cases h))⟩
set_option maxHeartbeats 4000000 in
theorem vc_Mo_route_16_0 (x3 : Int) (x4 : Int) (x5 : Int) (x6 : Int) (x7 : Int) (x11 : Int) (x12 : Int) (x13 : Int) (x14 : Int) (x15 : Int) (x16 : Int) (x18 : Int) (x19 : Int) (x21 : Int) (x22 : Int) (nodeY_0 : Int → Int) (g0_0 : Int) (nodeX_0 : Int → Int) (all_0 : Int → Int) (r_0 : Int) (nodeY_1 : Int → Int) (g0_1 : Int) (top0_1 : Int) (nodeX_1 : Int → Int) (all_1 : Int → Int) (r_1 : Int) (nodeX_2 : Int → Int) (g0_2 : Int) (left0_2 : Int) (all_2 : Int → Int) (r_2 : Int) (nodeY_2 : Int → Int) (top0_2 : Int) (left0_0 : Int) (left0_1 : Int) (top0_0 : Int) (k3 : (-2000000) ≤ x3 ∧ x3 ≤ 300000011) (k4 : (-2000000) ≤ x4 ∧ x4 ≤ 300000003) (k5 : 0 ≤ x5 ∧ x5 ≤ 23) (k6 : (-300000011) ≤ x6 ∧ x6 ≤ 2000000) (k7 : (-300000003) ≤ x7 ∧ x7 ≤ 2000000) (k11 : 3 ≤ x11 ∧ x11 ≤ 11) (k12 : (-300000000) ≤ x12 ∧ x12 ≤ 300000000) (k13 : (-300000010) ≤ x13 ∧ x13 ≤ 299999997) (k14 : (-300000000) ≤ x14 ∧ x14 ≤ 300000000) (k15 : (-299999997) ≤ x15 ∧ x15 ≤ 300000010) (k16 : (-300000000) ≤ x16 ∧ x16 ≤ 300000000) (k18 : (-300000003) ≤ x18 ∧ x18 ≤ 2000000) (k19 : (-300000000) ≤ x19 ∧ x19 ≤ 300000000) (k21 : (-299999997) ≤ x21 ∧ x21 ≤ 300000002) (k22 : 1 ≤ x22 ∧ x22 ≤ 24) (d2 : x21 + 1 ≤ x4 ∧ x4 ≤ x21 + 4294967296) (d3 : x19 + 3 ≤ x21 ∧ x21 ≤ x19 + 3) (d4 : x18 + 0 ≤ x7 ∧ x7 ≤ x18 + 4294967296) (d5 : x16 + (-3) ≤ x18 ∧ x18 ≤ x16 + (-3)) (d6 : x15 + 1 ≤ x3 ∧ x3 ≤ x15 + 4294967296) (d9 : x14 + 3 ≤ x15 ∧ x15 ≤ x14 + 11) (d10 : x13 + (-4294967296) ≤ x6 ∧ x6 ≤ x13 + (-1)) (f0 : x22 = x5 + 1) (f1 : x4 ≤ x4) (f4 : x19 = nodeY_0 (((24 * g0_0) + x5))) (f5 : x16 = nodeY_0 (((24 * g0_0) + x5))) (f6 : x14 = nodeX_0 (((24 * g0_0) + x5))) (f7 : x12 = nodeX_0 (((24 * g0_0) + x5))) (g17 : x7 = top0_1) (f18 : x3 ≤ x3) (f20 : x15 = x14 + x11) (f30 : x13 = x12 - x11) (g32 : x6 = left0_2) (f39 : RTB (left0_2) (top0_2) (g0_2) (nodeX_2) (nodeY_2) (x3) (x4) (x5)) (fe_0_5_1 : r_0 = r_1) (fe_0_139_1 : g0_0 = g0_1) (fe_0_144_1 : left0_0 = left0_1) (fe_0_145_1 : top0_0 = x18) (fe_0_5_2 : r_1 = r_2) (fe_0_139_2 : g0_1 = g0_2) (fe_0_144_2 : left0_1 = x6) (fe_0_145_2 : top0_1 = top0_2) (hE_0_2_1 : ∀ j : Int, all_0 j = all_1 j) (hE_0_2_2 : ∀ j : Int, all_1 j = all_2 j) (hE_0_62_1 : ∀ j : Int, nodeX_0 j = nodeX_1 j) (hE_0_62_2 : ∀ j : Int, nodeX_1 j = nodeX_2 j) (hE_0_63_1 : ∀ j : Int, nodeY_0 j = nodeY_1 j) (hE_0_63_2 : ∀ j : Int, nodeY_1 j = nodeY_2 j) (kz_0_139 : 0 ≤ g0_0 ∧ g0_0 ≤ 3) (kz_0_144 : (-300000011) ≤ left0_0 ∧ left0_0 ≤ 2000000) (kz_0_145 : (-300000003) ≤ top0_0 ∧ top0_0 ≤ 2000000) : RTB (left0_0) (top0_0) (g0_0) (nodeX_0) (nodeY_0) (x3) (x4) (x22) := by
  subst fe_0_5_1
  subst fe_0_139_1
  subst fe_0_144_1
  subst fe_0_5_2
  subst fe_0_139_2
  subst fe_0_145_2
  have e_hE_0_2_1 := funext hE_0_2_1; subst e_hE_0_2_1
  have e_hE_0_2_2 := funext hE_0_2_2; subst e_hE_0_2_2
  have e_hE_0_62_1 := funext hE_0_62_1; subst e_hE_0_62_1
  have e_hE_0_62_2 := funext hE_0_62_2; subst e_hE_0_62_2
  have e_hE_0_63_1 := funext hE_0_63_1; subst e_hE_0_63_1
  have e_hE_0_63_2 := funext hE_0_63_2; subst e_hE_0_63_2
  first
    | (intro v a b; exfalso; omega)
    | exact rtb_step (w := x11) (x := nodeX_0 (24 * g0_0 + x5)) (y := nodeY_0 (24 * g0_0 + x5)) ‹RTB _ _ _ _ _ _ _ _› (by omega) (by omega) rfl rfl (by omega) (by omega) (by omega) (by omega) (by omega) (by omega) (by omega) (by omega)
  
def o_Mo_route_16 : or_T := (50, 23, [(0, (2, 0, 0, [165])), (2, (0, 0, 47, [])), (3, (0, -2000000, 300000011, [])), (4, (0, -2000000, 300000003, [])), (5, (0, 0, 23, [])), (6, (0, -300000011, 2000000, [])), (7, (0, -300000003, 2000000, [])), (8, (0, 1, 24, [])), (9, (0, 0, 8, [])), (10, (0, 3, 3, [])), (11, (0, 3, 11, [])), (12, (0, -300000000, 300000000, [])), (13, (0, -300000010, 299999997, [])), (14, (0, -300000000, 300000000, [])), (15, (0, -299999997, 300000010, [])), (16, (0, -300000000, 300000000, [])), (17, (0, 3, 3, [])), (18, (0, -300000003, 2000000, [])), (19, (0, -300000000, 300000000, [])), (20, (0, 3, 3, [])), (21, (0, -299999997, 300000002, [])), (22, (0, 1, 24, []))], [(6, [22, 5], [1]), (7, [4, 4], [5]), (7, [21, 4], [5]), (1, [21, 19, 20], []), (20, [19, 0, 5], [50, 1, 1, 1139, 1063, 1, 2, 1, 0, 3, 1, 63, 4, 7, 6, 2, 0, 24, 2, 1, 139, 1, 2]), (20, [16, 0, 5], [50, 1, 1, 1139, 1063, 1, 2, 1, 0, 3, 1, 63, 4, 7, 6, 2, 0, 24, 2, 1, 139, 1, 2]), (20, [14, 0, 5], [50, 1, 1, 1139, 1062, 1, 2, 1, 0, 3, 1, 62, 4, 7, 6, 2, 0, 24, 2, 1, 139, 1, 2]), (20, [12, 0, 5], [50, 1, 1, 1139, 1062, 1, 2, 1, 0, 3, 1, 62, 4, 7, 6, 2, 0, 24, 2, 1, 139, 1, 2]), (20, [8, 0], [30, 0, 1, 0, 0, -1, 3, 2005000]), (20, [8, 0], [30, 0, -1, 0, 0, 1, 3, 2005000]), (20, [0], [60, 1, 1, 197, 5, 2]), (20, [2, 0], [50, 1, 1, 1005, 1002, 0, 6, 4, 2, 1, 0, 0, 1, 3, 1, 2, 4, 3, 2, 1, 5, 0, 1]), (101, [0, 18], [145]), (7, [18, 7], [5]), (7, [18, 18], [5]), (2, [18, 16, 17], []), (20, [16, 0, 5], [50, 1, 1, 1139, 1063, 1, 2, 1, 0, 3, 1, 63, 4, 7, 6, 2, 0, 24, 2, 1, 139, 1, 2]), (9, [7, 0], [145]), (7, [3, 3], [5]), (7, [15, 3], [5]), (1, [15, 14, 11], []), (20, [14, 0, 5], [50, 1, 1, 1139, 1062, 1, 2, 1, 0, 3, 1, 62, 4, 7, 6, 2, 0, 24, 2, 1, 139, 1, 2]), (20, [12, 0, 5], [50, 1, 1, 1139, 1062, 1, 2, 1, 0, 3, 1, 62, 4, 7, 6, 2, 0, 24, 2, 1, 139, 1, 2]), (20, [8, 0], [30, 0, 1, 0, 0, -1, 3, 2005000]), (20, [8, 0], [30, 0, -1, 0, 0, 1, 3, 2005000]), (20, [0], [60, 1, 1, 197, 5, 2]), (20, [2, 0], [50, 1, 1, 1005, 1002, 0, 6, 4, 2, 1, 0, 0, 1, 3, 1, 2, 4, 3, 2, 1, 5, 0, 1]), (101, [0, 6], [144]), (7, [6, 6], [5]), (7, [6, 13], [5]), (2, [13, 12, 11], []), (20, [12, 0, 5], [50, 1, 1, 1139, 1062, 1, 2, 1, 0, 3, 1, 62, 4, 7, 6, 2, 0, 24, 2, 1, 139, 1, 2]), (9, [6, 0], [144]), (1, [11, 9, 10], []), (7, [5, 8], [2]), (20, [8, 0], [30, 0, 1, 0, 0, -1, 3, 2005000]), (20, [8, 0], [30, 0, -1, 0, 0, 1, 3, 2005000]), (20, [0], [60, 1, 1, 197, 5, 2]), (20, [2, 0], [50, 1, 1, 1005, 1002, 0, 6, 4, 2, 1, 0, 0, 1, 3, 1, 2, 4, 3, 2, 1, 5, 0, 1]), (20, [0, 3, 4, 5], [60, 3, 2, 389, 144, 145, 139, 62, 63])], [], [], [(20, [0, 3, 4, 22], [60, 3, 2, 389, 144, 145, 139, 62, 63])], [], [(22, 5, 1, 1), (22, 8, -4294967296, 0), (4, 21, 1, 4294967296), (21, 19, 3, 3), (7, 18, 0, 4294967296), (18, 16, -3, -3), (3, 15, 1, 4294967296), (15, 11, -300000000, 300000000), (15, 9, -299999997, 300000003), (15, 14, 3, 11), (6, 13, -4294967296, -1), (13, 12, -11, -3), (11, 9, 3, 3), (5, 8, -4294967296, -1), (3, 5, -4294967296, 300000010), (4, 5, -4294967296, 300000002)])
theorem oo_Mo_route_16 {kA : Nat → ClassId} : or_ok PRD kA GG o_Mo_route_16 := by
  refine or_mk fun A ta ws vs hD hth hl => ?_
  intro t0 r0 t2 k2 t3 k3 t4 k4 t5 k5 t6 k6 t7 k7 t8 k8 t9 k9 t10 k10 t11 k11 t12 k12 t13 k13 t14 k14 t15 k15 t16 k16 t17 k17 t18 k18 t19 k19 t20 k20 t21 k21 t22 k22 d0 d1 d2 d3 d4 d5 d6 d7 d8 d9 d10 d11 d12 d13 d14 d15 f0 f1 f2 f3 f4 f5 f6 f7 f8 f9 f10 f11 ta1 w1 le1 s1 f13 f14 f15 f16 f17 f18 f19 f20 f21 f22 f23 f24 f25 f26 ta2 w2 le2 s2 f28 f29 f30 f31 f32 f33 f34 f35 f36 f37 f38 f39
  have s1 : (∀ b j, w_el ws b j = w_el w1 b j) ∧ ∀ b j, w_fd ws b j = if b = v_ad (n_v vs 0) ∧ j = 145 then n_v vs 18 else w_fd w1 b j := s1.2
  replace f17 := shm_1968 f17
  have s2 : (∀ b j, w_el w1 b j = w_el w2 b j) ∧ ∀ b j, w_fd w1 b j = if b = v_ad (n_v vs 0) ∧ j = 144 then n_v vs 6 else w_fd w2 b j := s2.2
  replace f32 := shm_1969 f32
  replace f39 := shm_1967 f39
  have ar_0_2_1 : w_ar w1 (n_v vs 0) 2 = w_ar ws (n_v vs 0) 2 := by show v_ad (w_fd w1 _ _) = v_ad (w_fd ws _ _); rw [s1.2, if_neg (fun e => absurd e.2 (by decide))]
  have ar_0_2_2 : w_ar w2 (n_v vs 0) 2 = w_ar ws (n_v vs 0) 2 := by rw [← ar_0_2_1]; show v_ad (w_fd w2 _ _) = v_ad (w_fd w1 _ _); rw [s2.2, if_neg (fun e => absurd e.2 (by decide))]
  have ar_0_62_1 : w_ar w1 (n_v vs 0) 62 = w_ar ws (n_v vs 0) 62 := by show v_ad (w_fd w1 _ _) = v_ad (w_fd ws _ _); rw [s1.2, if_neg (fun e => absurd e.2 (by decide))]
  have ar_0_62_2 : w_ar w2 (n_v vs 0) 62 = w_ar ws (n_v vs 0) 62 := by rw [← ar_0_62_1]; show v_ad (w_fd w2 _ _) = v_ad (w_fd w1 _ _); rw [s2.2, if_neg (fun e => absurd e.2 (by decide))]
  have ar_0_63_1 : w_ar w1 (n_v vs 0) 63 = w_ar ws (n_v vs 0) 63 := by show v_ad (w_fd w1 _ _) = v_ad (w_fd ws _ _); rw [s1.2, if_neg (fun e => absurd e.2 (by decide))]
  have ar_0_63_2 : w_ar w2 (n_v vs 0) 63 = w_ar ws (n_v vs 0) 63 := by rw [← ar_0_63_1]; show v_ad (w_fd w2 _ _) = v_ad (w_fd w1 _ _); rw [s2.2, if_neg (fun e => absurd e.2 (by decide))]
  have g17 : v_iv (n_v vs 7) = w_fi w1 (n_v vs 0) 145 := congrArg v_iv f17
  have g32 : v_iv (n_v vs 6) = w_fi w2 (n_v vs 0) 144 := congrArg v_iv f32
  simp only [ar_0_2_2, ar_0_62_2, ar_0_63_2] at f39
  have fe_0_5_1 : w_fi ws (n_v vs 0) 5 = w_fi w1 (n_v vs 0) 5 := by show v_iv (w_fd _ _ _) = v_iv (w_fd _ _ _); rw [s1.2, if_neg (fun e => absurd e.2 (by decide))]
  have fe_0_139_1 : w_fi ws (n_v vs 0) 139 = w_fi w1 (n_v vs 0) 139 := by show v_iv (w_fd _ _ _) = v_iv (w_fd _ _ _); rw [s1.2, if_neg (fun e => absurd e.2 (by decide))]
  have fe_0_144_1 : w_fi ws (n_v vs 0) 144 = w_fi w1 (n_v vs 0) 144 := by show v_iv (w_fd _ _ _) = v_iv (w_fd _ _ _); rw [s1.2, if_neg (fun e => absurd e.2 (by decide))]
  have fe_0_145_1 : w_fi ws (n_v vs 0) 145 = v_iv (n_v vs 18) := by show v_iv (w_fd _ _ _) = _; rw [s1.2, if_pos ⟨rfl, rfl⟩]
  have fe_0_5_2 : w_fi w1 (n_v vs 0) 5 = w_fi w2 (n_v vs 0) 5 := by show v_iv (w_fd _ _ _) = v_iv (w_fd _ _ _); rw [s2.2, if_neg (fun e => absurd e.2 (by decide))]
  have fe_0_139_2 : w_fi w1 (n_v vs 0) 139 = w_fi w2 (n_v vs 0) 139 := by show v_iv (w_fd _ _ _) = v_iv (w_fd _ _ _); rw [s2.2, if_neg (fun e => absurd e.2 (by decide))]
  have fe_0_144_2 : w_fi w1 (n_v vs 0) 144 = v_iv (n_v vs 6) := by show v_iv (w_fd _ _ _) = _; rw [s2.2, if_pos ⟨rfl, rfl⟩]
  have fe_0_145_2 : w_fi w1 (n_v vs 0) 145 = w_fi w2 (n_v vs 0) 145 := by show v_iv (w_fd _ _ _) = v_iv (w_fd _ _ _); rw [s2.2, if_neg (fun e => absurd e.2 (by decide))]
  have hE_0_2_1 : ∀ j : Int, w_ei ws (w_ar ws (n_v vs 0) 2) j = w_ei w1 (w_ar ws (n_v vs 0) 2) j := fun j => s1.1 _ _
  have hE_0_2_2 : ∀ j : Int, w_ei w1 (w_ar ws (n_v vs 0) 2) j = w_ei w2 (w_ar ws (n_v vs 0) 2) j := fun j => s2.1 _ _
  have hE_0_62_1 : ∀ j : Int, w_ei ws (w_ar ws (n_v vs 0) 62) j = w_ei w1 (w_ar ws (n_v vs 0) 62) j := fun j => s1.1 _ _
  have hE_0_62_2 : ∀ j : Int, w_ei w1 (w_ar ws (n_v vs 0) 62) j = w_ei w2 (w_ar ws (n_v vs 0) 62) j := fun j => s2.1 _ _
  have hE_0_63_1 : ∀ j : Int, w_ei ws (w_ar ws (n_v vs 0) 63) j = w_ei w1 (w_ar ws (n_v vs 0) 63) j := fun j => s1.1 _ _
  have hE_0_63_2 : ∀ j : Int, w_ei w1 (w_ar ws (n_v vs 0) 63) j = w_ei w2 (w_ar ws (n_v vs 0) 63) j := fun j => s2.1 _ _
  have kz_0_139 := fdq_171 hD hth r0
  have kz_0_144 := fdq_316 hD hth r0
  have kz_0_145 := fdq_317 hD hth r0
  have nf0 : fc_1 PRD (20, [0, 3, 4, 22], [60, 3, 2, 389, 144, 145, 139, 62, 63]) ws (vs) := ⟨nf_in hl rfl, sgq_1967 (vc_Mo_route_16_0 (v_iv (n_v vs 3)) (v_iv (n_v vs 4)) (v_iv (n_v vs 5)) (v_iv (n_v vs 6)) (v_iv (n_v vs 7)) (v_iv (n_v vs 11)) (v_iv (n_v vs 12)) (v_iv (n_v vs 13)) (v_iv (n_v vs 14)) (v_iv (n_v vs 15)) (v_iv (n_v vs 16)) (v_iv (n_v vs 18)) (v_iv (n_v vs 19)) (v_iv (n_v vs 21)) (v_iv (n_v vs 22)) (w_ei ws (w_ar ws (n_v vs 0) 63)) (w_fi ws (n_v vs 0) 139) (w_ei ws (w_ar ws (n_v vs 0) 62)) (w_ei ws (w_ar ws (n_v vs 0) 2)) (w_fi ws (n_v vs 0) 5) (w_ei w1 (w_ar ws (n_v vs 0) 63)) (w_fi w1 (n_v vs 0) 139) (w_fi w1 (n_v vs 0) 145) (w_ei w1 (w_ar ws (n_v vs 0) 62)) (w_ei w1 (w_ar ws (n_v vs 0) 2)) (w_fi w1 (n_v vs 0) 5) (w_ei w2 (w_ar ws (n_v vs 0) 62)) (w_fi w2 (n_v vs 0) 139) (w_fi w2 (n_v vs 0) 144) (w_ei w2 (w_ar ws (n_v vs 0) 2)) (w_fi w2 (n_v vs 0) 5) (w_ei w2 (w_ar ws (n_v vs 0) 63)) (w_fi w2 (n_v vs 0) 145) (w_fi ws (n_v vs 0) 144) (w_fi w1 (n_v vs 0) 144) (w_fi ws (n_v vs 0) 145) k3 k4 k5 k6 k7 k11 k12 k13 k14 k15 k16 k18 k19 k21 k22 d2 d3 d4 d5 d6 d9 d10 (shm_4 f0) (shm_134 f1) (shm_687 f4) (shm_687 f5) (shm_685 f6) (shm_685 f7) g17 (shm_134 f18) (shm_12 f20) (shm_14 f30) g32 f39 fe_0_5_1 fe_0_139_1 fe_0_144_1 fe_0_145_1 fe_0_5_2 fe_0_139_2 fe_0_144_2 fe_0_145_2 hE_0_2_1 hE_0_2_2 hE_0_62_1 hE_0_62_2 hE_0_63_1 hE_0_63_2 kz_0_139 kz_0_144 kz_0_145)⟩
  refine ⟨(fun _ h => (by cases h)), [], trivial, ?_, (fun _ h => (by cases h))⟩
  rw [List.append_nil]
  exact List.forall_mem_cons.mpr ⟨⟨show (20 : Nat) < 100 from by decide, nf0⟩, (fun _ h => (by cases h))⟩

set_option maxHeartbeats 4000000 in
theorem vc_Mo_route_17_0 (x3 : Int) (x4 : Int) (x5 : Int) (x6 : Int) (x7 : Int) (x11 : Int) (x12 : Int) (x13 : Int) (x14 : Int) (x15 : Int) (x16 : Int) (x18 : Int) (x19 : Int) (x21 : Int) (x22 : Int) (nodeY_0 : Int → Int) (g0_0 : Int) (nodeX_0 : Int → Int) (all_0 : Int → Int) (r_0 : Int) (nodeY_1 : Int → Int) (g0_1 : Int) (top0_1 : Int) (nodeX_1 : Int → Int) (all_1 : Int → Int) (r_1 : Int) (nodeX_2 : Int → Int) (g0_2 : Int) (left0_2 : Int) (all_2 : Int → Int) (r_2 : Int) (nodeY_2 : Int → Int) (top0_2 : Int) (left0_0 : Int) (left0_1 : Int) (top0_0 : Int) (k3 : (-2000000) ≤ x3 ∧ x3 ≤ 300000011) (k4 : (-2000000) ≤ x4 ∧ x4 ≤ 300000003) (k5 : 0 ≤ x5 ∧ x5 ≤ 23) (k6 : (-300000011) ≤ x6 ∧ x6 ≤ 2000000) (k7 : (-300000003) ≤ x7 ∧ x7 ≤ 2000000) (k11 : 3 ≤ x11 ∧ x11 ≤ 11) (k12 : (-300000000) ≤ x12 ∧ x12 ≤ 300000000) (k13 : (-300000010) ≤ x13 ∧ x13 ≤ 299999997) (k14 : (-300000000) ≤ x14 ∧ x14 ≤ 300000000) (k15 : (-299999997) ≤ x15 ∧ x15 ≤ 300000010) (k16 : (-300000000) ≤ x16 ∧ x16 ≤ 300000000) (k18 : (-300000002) ≤ x18 ∧ x18 ≤ 299999997) (k19 : (-300000000) ≤ x19 ∧ x19 ≤ 300000000) (k21 : (-2000000) ≤ x21 ∧ x21 ≤ 300000003) (k22 : 1 ≤ x22 ∧ x22 ≤ 24) (d3 : x19 + 3 ≤ x21 ∧ x21 ≤ x19 + 3) (d4 : x18 + (-4294967296) ≤ x7 ∧ x7 ≤ x18 + (-1)) (d5 : x16 + (-3) ≤ x18 ∧ x18 ≤ x16 + (-3)) (d6 : x15 + 1 ≤ x3 ∧ x3 ≤ x15 + 4294967296) (d9 : x14 + 3 ≤ x15 ∧ x15 ≤ x14 + 11) (d10 : x13 + (-4294967296) ≤ x6 ∧ x6 ≤ x13 + (-1)) (f0 : x22 = x5 + 1) (f1 : x4 ≤ x21) (f4 : x19 = nodeY_0 (((24 * g0_0) + x5))) (f5 : x16 = nodeY_0 (((24 * g0_0) + x5))) (f6 : x14 = nodeX_0 (((24 * g0_0) + x5))) (f7 : x12 = nodeX_0 (((24 * g0_0) + x5))) (g17 : x7 = top0_1) (f18 : x3 ≤ x3) (f20 : x15 = x14 + x11) (f30 : x13 = x12 - x11) (g32 : x6 = left0_2) (f39 : RTB (left0_2) (top0_2) (g0_2) (nodeX_2) (nodeY_2) (x3) (x4) (x5)) (fe_0_5_1 : r_0 = r_1) (fe_0_139_1 : g0_0 = g0_1) (fe_0_144_1 : left0_0 = left0_1) (fe_0_145_1 : top0_0 = x7) (fe_0_5_2 : r_1 = r_2) (fe_0_139_2 : g0_1 = g0_2) (fe_0_144_2 : left0_1 = x6) (fe_0_145_2 : top0_1 = top0_2) (hE_0_2_1 : ∀ j : Int, all_0 j = all_1 j) (hE_0_2_2 : ∀ j : Int, all_1 j = all_2 j) (hE_0_62_1 : ∀ j : Int, nodeX_0 j = nodeX_1 j) (hE_0_62_2 : ∀ j : Int, nodeX_1 j = nodeX_2 j) (hE_0_63_1 : ∀ j : Int, nodeY_0 j = nodeY_1 j) (hE_0_63_2 : ∀ j : Int, nodeY_1 j = nodeY_2 j) (kz_0_139 : 0 ≤ g0_0 ∧ g0_0 ≤ 3) (kz_0_144 : (-300000011) ≤ left0_0 ∧ left0_0 ≤ 2000000) (kz_0_145 : (-300000003) ≤ top0_0 ∧ top0_0 ≤ 2000000) : RTB (left0_0) (top0_0) (g0_0) (nodeX_0) (nodeY_0) (x3) (x21) (x22) := by
  subst fe_0_5_1
  subst fe_0_139_1
  subst fe_0_144_1
  subst fe_0_5_2
  subst fe_0_139_2
  subst fe_0_145_2
  have e_hE_0_2_1 := funext hE_0_2_1; subst e_hE_0_2_1
  have e_hE_0_2_2 := funext hE_0_2_2; subst e_hE_0_2_2
  have e_hE_0_62_1 := funext hE_0_62_1; subst e_hE_0_62_1
  have e_hE_0_62_2 := funext hE_0_62_2; subst e_hE_0_62_2
  have e_hE_0_63_1 := funext hE_0_63_1; subst e_hE_0_63_1
  have e_hE_0_63_2 := funext hE_0_63_2; subst e_hE_0_63_2
  first
    | (intro v a b; exfalso; omega)
    | exact rtb_step (w := x11) (x := nodeX_0 (24 * g0_0 + x5)) (y := nodeY_0 (24 * g0_0 + x5)) ‹RTB _ _ _ _ _ _ _ _› (by omega) (by omega) rfl rfl (by omega) (by omega) (by omega) (by omega) (by omega) (by omega) (by omega) (by omega)
  
def o_Mo_route_17 : or_T := (50, 23, [(0, (2, 0, 0, [165])), (2, (0, 0, 47, [])), (3, (0, -2000000, 300000011, [])), (4, (0, -2000000, 300000003, [])), (5, (0, 0, 23, [])), (6, (0, -300000011, 2000000, [])), (7, (0, -300000003, 2000000, [])), (8, (0, 1, 24, [])), (9, (0, 0, 8, [])), (10, (0, 3, 3, [])), (11, (0, 3, 11, [])), (12, (0, -300000000, 300000000, [])), (13, (0, -300000010, 299999997, [])), (14, (0, -300000000, 300000000, [])), (15, (0, -299999997, 300000010, [])), (16, (0, -300000000, 300000000, [])), (17, (0, 3, 3, [])), (18, (0, -300000002, 299999997, [])), (19, (0, -300000000, 300000000, [])), (20, (0, 3, 3, [])), (21, (0, -2000000, 300000003, [])), (22, (0, 1, 24, []))], [(6, [22, 5], [1]), (7, [4, 21], [5]), (7, [21, 21], [5]), (1, [21, 19, 20], []), (20, [19, 0, 5], [50, 1, 1, 1139, 1063, 1, 2, 1, 0, 3, 1, 63, 4, 7, 6, 2, 0, 24, 2, 1, 139, 1, 2]), (20, [16, 0, 5], [50, 1, 1, 1139, 1063, 1, 2, 1, 0, 3, 1, 63, 4, 7, 6, 2, 0, 24, 2, 1, 139, 1, 2]), (20, [14, 0, 5], [50, 1, 1, 1139, 1062, 1, 2, 1, 0, 3, 1, 62, 4, 7, 6, 2, 0, 24, 2, 1, 139, 1, 2]), (20, [12, 0, 5], [50, 1, 1, 1139, 1062, 1, 2, 1, 0, 3, 1, 62, 4, 7, 6, 2, 0, 24, 2, 1, 139, 1, 2]), (20, [8, 0], [30, 0, 1, 0, 0, -1, 3, 2005000]), (20, [8, 0], [30, 0, -1, 0, 0, 1, 3, 2005000]), (20, [0], [60, 1, 1, 197, 5, 2]), (20, [2, 0], [50, 1, 1, 1005, 1002, 0, 6, 4, 2, 1, 0, 0, 1, 3, 1, 2, 4, 3, 2, 1, 5, 0, 1]), (101, [0, 7], [145]), (7, [7, 7], [5]), (7, [7, 18], [5]), (2, [18, 16, 17], []), (20, [16, 0, 5], [50, 1, 1, 1139, 1063, 1, 2, 1, 0, 3, 1, 63, 4, 7, 6, 2, 0, 24, 2, 1, 139, 1, 2]), (9, [7, 0], [145]), (7, [3, 3], [5]), (7, [15, 3], [5]), (1, [15, 14, 11], []), (20, [14, 0, 5], [50, 1, 1, 1139, 1062, 1, 2, 1, 0, 3, 1, 62, 4, 7, 6, 2, 0, 24, 2, 1, 139, 1, 2]), (20, [12, 0, 5], [50, 1, 1, 1139, 1062, 1, 2, 1, 0, 3, 1, 62, 4, 7, 6, 2, 0, 24, 2, 1, 139, 1, 2]), (20, [8, 0], [30, 0, 1, 0, 0, -1, 3, 2005000]), (20, [8, 0], [30, 0, -1, 0, 0, 1, 3, 2005000]), (20, [0], [60, 1, 1, 197, 5, 2]), (20, [2, 0], [50, 1, 1, 1005, 1002, 0, 6, 4, 2, 1, 0, 0, 1, 3, 1, 2, 4, 3, 2, 1, 5, 0, 1]), (101, [0, 6], [144]), (7, [6, 6], [5]), (7, [6, 13], [5]), (2, [13, 12, 11], []), (20, [12, 0, 5], [50, 1, 1, 1139, 1062, 1, 2, 1, 0, 3, 1, 62, 4, 7, 6, 2, 0, 24, 2, 1, 139, 1, 2]), (9, [6, 0], [144]), (1, [11, 9, 10], []), (7, [5, 8], [2]), (20, [8, 0], [30, 0, 1, 0, 0, -1, 3, 2005000]), (20, [8, 0], [30, 0, -1, 0, 0, 1, 3, 2005000]), (20, [0], [60, 1, 1, 197, 5, 2]), (20, [2, 0], [50, 1, 1, 1005, 1002, 0, 6, 4, 2, 1, 0, 0, 1, 3, 1, 2, 4, 3, 2, 1, 5, 0, 1]), (20, [0, 3, 4, 5], [60, 3, 2, 389, 144, 145, 139, 62, 63])], [], [], [(20, [0, 3, 21, 22], [60, 3, 2, 389, 144, 145, 139, 62, 63])], [], [(22, 5, 1, 1), (22, 8, -4294967296, 0), (4, 21, -4294967296, 0), (21, 19, 3, 3), (7, 18, -4294967296, -1), (18, 16, -3, -3), (3, 15, 1, 4294967296), (15, 11, -300000000, 300000000), (15, 9, -299999997, 300000003), (15, 14, 3, 11), (6, 13, -4294967296, -1), (13, 12, -11, -3), (11, 9, 3, 3), (5, 8, -4294967296, -1), (3, 5, -4294967296, 300000010), (4, 5, -4294967296, 300000002)])
theorem oo_Mo_route_17 {kA : Nat → ClassId} : or_ok PRD kA GG o_Mo_route_17 := by
  refine or_mk fun A ta ws vs hD hth hl => ?_
  intro t0 r0 t2 k2 t3 k3 t4 k4 t5 k5 t6 k6 t7 k7 t8 k8 t9 k9 t10 k10 t11 k11 t12 k12 t13 k13 t14 k14 t15 k15 t16 k16 t17 k17 t18 k18 t19 k19 t20 k20 t21 k21 t22 k22 d0 d1 d2 d3 d4 d5 d6 d7 d8 d9 d10 d11 d12 d13 d14 d15 f0 f1 f2 f3 f4 f5 f6 f7 f8 f9 f10 f11 ta1 w1 le1 s1 f13 f14 f15 f16 f17 f18 f19 f20 f21 f22 f23 f24 f25 f26 ta2 w2 le2 s2 f28 f29 f30 f31 f32 f33 f34 f35 f36 f37 f38 f39
  have s1 : (∀ b j, w_el ws b j = w_el w1 b j) ∧ ∀ b j, w_fd ws b j = if b = v_ad (n_v vs 0) ∧ j = 145 then n_v vs 7 else w_fd w1 b j := s1.2
  replace f17 := shm_1968 f17
  have s2 : (∀ b j, w_el w1 b j = w_el w2 b j) ∧ ∀ b j, w_fd w1 b j = if b = v_ad (n_v vs 0) ∧ j = 144 then n_v vs 6 else w_fd w2 b j := s2.2
  replace f32 := shm_1969 f32
  replace f39 := shm_1967 f39
  have ar_0_2_1 : w_ar w1 (n_v vs 0) 2 = w_ar ws (n_v vs 0) 2 := by show v_ad (w_fd w1 _ _) = v_ad (w_fd ws _ _); rw [s1.2, if_neg (fun e => absurd e.2 (by decide))]
  have ar_0_2_2 : w_ar w2 (n_v vs 0) 2 = w_ar ws (n_v vs 0) 2 := by rw [← ar_0_2_1]; show v_ad (w_fd w2 _ _) = v_ad (w_fd w1 _ _); rw [s2.2, if_neg (fun e => absurd e.2 (by decide))]
  have ar_0_62_1 : w_ar w1 (n_v vs 0) 62 = w_ar ws (n_v vs 0) 62 := by show v_ad (w_fd w1 _ _) = v_ad (w_fd ws _ _); rw [s1.2, if_neg (fun e => absurd e.2 (by decide))]
  have ar_0_62_2 : w_ar w2 (n_v vs 0) 62 = w_ar ws (n_v vs 0) 62 := by rw [← ar_0_62_1]; show v_ad (w_fd w2 _ _) = v_ad (w_fd w1 _ _); rw [s2.2, if_neg (fun e => absurd e.2 (by decide))]
  have ar_0_63_1 : w_ar w1 (n_v vs 0) 63 = w_ar ws (n_v vs 0) 63 := by show v_ad (w_fd w1 _ _) = v_ad (w_fd ws _ _); rw [s1.2, if_neg (fun e => absurd e.2 (by decide))]
  have ar_0_63_2 : w_ar w2 (n_v vs 0) 63 = w_ar ws (n_v vs 0) 63 := by rw [← ar_0_63_1]; show v_ad (w_fd w2 _ _) = v_ad (w_fd w1 _ _); rw [s2.2, if_neg (fun e => absurd e.2 (by decide))]
  have g17 : v_iv (n_v vs 7) = w_fi w1 (n_v vs 0) 145 := congrArg v_iv f17
  have g32 : v_iv (n_v vs 6) = w_fi w2 (n_v vs 0) 144 := congrArg v_iv f32
  simp only [ar_0_2_2, ar_0_62_2, ar_0_63_2] at f39
  have fe_0_5_1 : w_fi ws (n_v vs 0) 5 = w_fi w1 (n_v vs 0) 5 := by show v_iv (w_fd _ _ _) = v_iv (w_fd _ _ _); rw [s1.2, if_neg (fun e => absurd e.2 (by decide))]
  have fe_0_139_1 : w_fi ws (n_v vs 0) 139 = w_fi w1 (n_v vs 0) 139 := by show v_iv (w_fd _ _ _) = v_iv (w_fd _ _ _); rw [s1.2, if_neg (fun e => absurd e.2 (by decide))]
  have fe_0_144_1 : w_fi ws (n_v vs 0) 144 = w_fi w1 (n_v vs 0) 144 := by show v_iv (w_fd _ _ _) = v_iv (w_fd _ _ _); rw [s1.2, if_neg (fun e => absurd e.2 (by decide))]
  have fe_0_145_1 : w_fi ws (n_v vs 0) 145 = v_iv (n_v vs 7) := by show v_iv (w_fd _ _ _) = _; rw [s1.2, if_pos ⟨rfl, rfl⟩]
  have fe_0_5_2 : w_fi w1 (n_v vs 0) 5 = w_fi w2 (n_v vs 0) 5 := by show v_iv (w_fd _ _ _) = v_iv (w_fd _ _ _); rw [s2.2, if_neg (fun e => absurd e.2 (by decide))]
  have fe_0_139_2 : w_fi w1 (n_v vs 0) 139 = w_fi w2 (n_v vs 0) 139 := by show v_iv (w_fd _ _ _) = v_iv (w_fd _ _ _); rw [s2.2, if_neg (fun e => absurd e.2 (by decide))]
  have fe_0_144_2 : w_fi w1 (n_v vs 0) 144 = v_iv (n_v vs 6) := by show v_iv (w_fd _ _ _) = _; rw [s2.2, if_pos ⟨rfl, rfl⟩]
  have fe_0_145_2 : w_fi w1 (n_v vs 0) 145 = w_fi w2 (n_v vs 0) 145 := by show v_iv (w_fd _ _ _) = v_iv (w_fd _ _ _); rw [s2.2, if_neg (fun e => absurd e.2 (by decide))]
  have hE_0_2_1 : ∀ j : Int, w_ei ws (w_ar ws (n_v vs 0) 2) j = w_ei w1 (w_ar ws (n_v vs 0) 2) j := fun j => s1.1 _ _
  have hE_0_2_2 : ∀ j : Int, w_ei w1 (w_ar ws (n_v vs 0) 2) j = w_ei w2 (w_ar ws (n_v vs 0) 2) j := fun j => s2.1 _ _
  have hE_0_62_1 : ∀ j : Int, w_ei ws (w_ar ws (n_v vs 0) 62) j = w_ei w1 (w_ar ws (n_v vs 0) 62) j := fun j => s1.1 _ _
  have hE_0_62_2 : ∀ j : Int, w_ei w1 (w_ar ws (n_v vs 0) 62) j = w_ei w2 (w_ar ws (n_v vs 0) 62) j := fun j => s2.1 _ _
  have hE_0_63_1 : ∀ j : Int, w_ei ws (w_ar ws (n_v vs 0) 63) j = w_ei w1 (w_ar ws (n_v vs 0) 63) j := fun j => s1.1 _ _
  have hE_0_63_2 : ∀ j : Int, w_ei w1 (w_ar ws (n_v vs 0) 63) j = w_ei w2 (w_ar ws (n_v vs 0) 63) j := fun j => s2.1 _ _
  have kz_0_139 := fdq_171 hD hth r0
  have kz_0_144 := fdq_316 hD hth r0
  have kz_0_145 := fdq_317 hD hth r0
  have nf0 : fc_1 PRD (20, [0, 3, 21, 22], [60, 3, 2, 389, 144, 145, 139, 62, 63]) ws (vs) := ⟨nf_in hl rfl, sgq_1967 (vc_Mo_route_17_0 (v_iv (n_v vs 3)) (v_iv (n_v vs 4)) (v_iv (n_v vs 5)) (v_iv (n_v vs 6)) (v_iv (n_v vs 7)) (v_iv (n_v vs 11)) (v_iv (n_v vs 12)) (v_iv (n_v vs 13)) (v_iv (n_v vs 14)) (v_iv (n_v vs 15)) (v_iv (n_v vs 16)) (v_iv (n_v vs 18)) (v_iv (n_v vs 19)) (v_iv (n_v vs 21)) (v_iv (n_v vs 22)) (w_ei ws (w_ar ws (n_v vs 0) 63)) (w_fi ws (n_v vs 0) 139) (w_ei ws (w_ar ws (n_v vs 0) 62)) (w_ei ws (w_ar ws (n_v vs 0) 2)) (w_fi ws (n_v vs 0) 5) (w_ei w1 (w_ar ws (n_v vs 0) 63)) (w_fi w1 (n_v vs 0) 139) (w_fi w1 (n_v vs 0) 145) (w_ei w1 (w_ar ws (n_v vs 0) 62)) (w_ei w1 (w_ar ws (n_v vs 0) 2)) (w_fi w1 (n_v vs 0) 5) (w_ei w2 (w_ar ws (n_v vs 0) 62)) (w_fi w2 (n_v vs 0) 139) (w_fi w2 (n_v vs 0) 144) (w_ei w2 (w_ar ws (n_v vs 0) 2)) (w_fi w2 (n_v vs 0) 5) (w_ei w2 (w_ar ws (n_v vs 0) 63)) (w_fi w2 (n_v vs 0) 145) (w_fi ws (n_v vs 0) 144) (w_fi w1 (n_v vs 0) 144) (w_fi ws (n_v vs 0) 145) k3 k4 k5 k6 k7 k11 k12 k13 k14 k15 k16 k18 k19 k21 k22 d3 d4 d5 d6 d9 d10 (shm_4 f0) (shm_24 f1) (shm_687 f4) (shm_687 f5) (shm_685 f6) (shm_685 f7) g17 (shm_134 f18) (shm_12 f20) (shm_14 f30) g32 f39 fe_0_5_1 fe_0_139_1 fe_0_144_1 fe_0_145_1 fe_0_5_2 fe_0_139_2 fe_0_144_2 fe_0_145_2 hE_0_2_1 hE_0_2_2 hE_0_62_1 hE_0_62_2 hE_0_63_1 hE_0_63_2 kz_0_139 kz_0_144 kz_0_145)⟩
  refine ⟨(fun _ h => (by cases h)), [], trivial, ?_, (fun _ h => (by cases h))⟩
  rw [List.append_nil]
  exact List.forall_mem_cons.mpr ⟨⟨show (20 : Nat) < 100 from by decide, nf0⟩, (fun _ h => (by cases h))⟩
set_option maxHeartbeats 4000000 in
theorem vc_Mo_route_18_0 (x3 : Int) (x4 : Int) (x5 : Int) (x6 : Int) (x7 : Int) (x11 : Int) (x12 : Int) (x13 : Int) (x14 : Int) (x15 : Int) (x16 : Int) (x18 : Int) (x19 : Int) (x21 : Int) (x22 : Int) (nodeY_0 : Int → Int) (g0_0 : Int) (nodeX_0 : Int → Int) (all_0 : Int → Int) (r_0 : Int) (nodeY_1 : Int → Int) (g0_1 : Int) (top0_1 : Int) (nodeX_1 : Int → Int) (all_1 : Int → Int) (r_1 : Int) (nodeX_2 : Int → Int) (g0_2 : Int) (left0_2 : Int) (all_2 : Int → Int) (r_2 : Int) (nodeY_2 : Int → Int) (top0_2 : Int) (left0_0 : Int) (left0_1 : Int) (top0_0 : Int) (k3 : (-2000000) ≤ x3 ∧ x3 ≤ 300000011) (k4 : (-2000000) ≤ x4 ∧ x4 ≤ 300000003) (k5 : 0 ≤ x5 ∧ x5 ≤ 23) (k6 : (-300000011) ≤ x6 ∧ x6 ≤ 2000000) (k7 : (-300000003) ≤ x7 ∧ x7 ≤ 2000000) (k11 : 3 ≤ x11 ∧ x11 ≤ 11) (k12 : (-300000000) ≤ x12 ∧ x12 ≤ 300000000) (k13 : (-300000010) ≤ x13 ∧ x13 ≤ 299999997) (k14 : (-300000000) ≤ x14 ∧ x14 ≤ 300000000) (k15 : (-299999997) ≤ x15 ∧ x15 ≤ 300000010) (k16 : (-300000000) ≤ x16 ∧ x16 ≤ 300000000) (k18 : (-300000002) ≤ x18 ∧ x18 ≤ 299999997) (k19 : (-300000000) ≤ x19 ∧ x19 ≤ 300000000) (k21 : (-299999997) ≤ x21 ∧ x21 ≤ 300000002) (k22 : 1 ≤ x22 ∧ x22 ≤ 24) (d2 : x21 + 1 ≤ x4 ∧ x4 ≤ x21 + 4294967296) (d3 : x19 + 3 ≤ x21 ∧ x21 ≤ x19 + 3) (d4 : x18 + (-4294967296) ≤ x7 ∧ x7 ≤ x18 + (-1)) (d5 : x16 + (-3) ≤ x18 ∧ x18 ≤ x16 + (-3)) (d6 : x15 + 1 ≤ x3 ∧ x3 ≤ x15 + 4294967296) (d9 : x14 + 3 ≤ x15 ∧ x15 ≤ x14 + 11) (d10 : x13 + (-4294967296) ≤ x6 ∧ x6 ≤ x13 + (-1)) (f0 : x22 = x5 + 1) (f1 : x4 ≤ x4) (f4 : x19 = nodeY_0 (((24 * g0_0) + x5))) (f5 : x16 = nodeY_0 (((24 * g0_0) + x5))) (f6 : x14 = nodeX_0 (((24 * g0_0) + x5))) (f7 : x12 = nodeX_0 (((24 * g0_0) + x5))) (g17 : x7 = top0_1) (f18 : x3 ≤ x3) (f20 : x15 = x14 + x11) (f30 : x13 = x12 - x11) (g32 : x6 = left0_2) (f39 : RTB (left0_2) (top0_2) (g0_2) (nodeX_2) (nodeY_2) (x3) (x4) (x5)) (fe_0_5_1 : r_0 = r_1) (fe_0_139_1 : g0_0 = g0_1) (fe_0_144_1 : left0_0 = left0_1) (fe_0_145_1 : top0_0 = x7) (fe_0_5_2 : r_1 = r_2) (fe_0_139_2 : g0_1 = g0_2) (fe_0_144_2 : left0_1 = x6) (fe_0_145_2 : top0_1 = top0_2) (hE_0_2_1 : ∀ j : Int, all_0 j = all_1 j) (hE_0_2_2 : ∀ j : Int, all_1 j = all_2 j) (hE_0_62_1 : ∀ j : Int, nodeX_0 j = nodeX_1 j) (hE_0_62_2 : ∀ j : Int, nodeX_1 j = nodeX_2 j) (hE_0_63_1 : ∀ j : Int, nodeY_0 j = nodeY_1 j) (hE_0_63_2 : ∀ j : Int, nodeY_1 j = nodeY_2 j) (kz_0_139 : 0 ≤ g0_0 ∧ g0_0 ≤ 3) (kz_0_144 : (-300000011) ≤ left0_0 ∧ left0_0 ≤ 2000000) (kz_0_145 : (-300000003) ≤ top0_0 ∧ top0_0 ≤ 2000000) : RTB (left0_0) (top0_0) (g0_0) (nodeX_0) (nodeY_0) (x3) (x4) (x22) := by
  subst fe_0_5_1
  subst fe_0_139_1
  subst fe_0_144_1
  subst fe_0_5_2
  subst fe_0_139_2
  subst fe_0_145_2
  have e_hE_0_2_1 := funext hE_0_2_1; subst e_hE_0_2_1
  have e_hE_0_2_2 := funext hE_0_2_2; subst e_hE_0_2_2
  have e_hE_0_62_1 := funext hE_0_62_1; subst e_hE_0_62_1
  have e_hE_0_62_2 := funext hE_0_62_2; subst e_hE_0_62_2
  have e_hE_0_63_1 := funext hE_0_63_1; subst e_hE_0_63_1
  have e_hE_0_63_2 := funext hE_0_63_2; subst e_hE_0_63_2
  first
    | (intro v a b; exfalso; omega)
    | exact rtb_step (w := x11) (x := nodeX_0 (24 * g0_0 + x5)) (y := nodeY_0 (24 * g0_0 + x5)) ‹RTB _ _ _ _ _ _ _ _› (by omega) (by omega) rfl rfl (by omega) (by omega) (by omega) (by omega) (by omega) (by omega) (by omega) (by omega)
  
def o_Mo_route_18 : or_T := (50, 23, [(0, (2, 0, 0, [165])), (2, (0, 0, 47, [])), (3, (0, -2000000, 300000011, [])), (4, (0, -2000000, 300000003, [])), (5, (0, 0, 23, [])), (6, (0, -300000011, 2000000, [])), (7, (0, -300000003, 2000000, [])), (8, (0, 1, 24, [])), (9, (0, 0, 8, [])), (10, (0, 3, 3, [])), (11, (0, 3, 11, [])), (12, (0, -300000000, 300000000, [])), (13, (0, -300000010, 299999997, [])), (14, (0, -300000000, 300000000, [])), (15, (0, -299999997, 300000010, [])), (16, (0, -300000000, 300000000, [])), (17, (0, 3, 3, [])), (18, (0, -300000002, 299999997, [])), (19, (0, -300000000, 300000000, [])), (20, (0, 3, 3, [])), (21, (0, -299999997, 300000002, [])), (22, (0, 1, 24, []))], [(6, [22, 5], [1]), (7, [4, 4], [5]), (7, [21, 4], [5]), (1, [21, 19, 20], []), (20, [19, 0, 5], [50, 1, 1, 1139, 1063, 1, 2, 1, 0, 3, 1, 63, 4, 7, 6, 2, 0, 24, 2, 1, 139, 1, 2]), (20, [16, 0, 5], [50, 1, 1, 1139, 1063, 1, 2, 1, 0, 3, 1, 63, 4, 7, 6, 2, 0, 24, 2, 1, 139, 1, 2]), (20, [14, 0, 5], [50, 1, 1, 1139, 1062, 1, 2, 1, 0, 3, 1, 62, 4, 7, 6, 2, 0, 24, 2, 1, 139, 1, 2]), (20, [12, 0, 5], [50, 1, 1, 1139, 1062, 1, 2, 1, 0, 3, 1, 62, 4, 7, 6, 2, 0, 24, 2, 1, 139, 1, 2]), (20, [8, 0], [30, 0, 1, 0, 0, -1, 3, 2005000]), (20, [8, 0], [30, 0, -1, 0, 0, 1, 3, 2005000]), (20, [0], [60, 1, 1, 197, 5, 2]), (20, [2, 0], [50, 1, 1, 1005, 1002, 0, 6, 4, 2, 1, 0, 0, 1, 3, 1, 2, 4, 3, 2, 1, 5, 0, 1]), (101, [0, 7], [145]), (7, [7, 7], [5]), (7, [7, 18], [5]), (2, [18, 16, 17], []), (20, [16, 0, 5], [50, 1, 1, 1139, 1063, 1, 2, 1, 0, 3, 1, 63, 4, 7, 6, 2, 0, 24, 2, 1, 139, 1, 2]), (9, [7, 0], [145]), (7, [3, 3], [5]), (7, [15, 3], [5]), (1, [15, 14, 11], []), (20, [14, 0, 5], [50, 1, 1, 1139, 1062, 1, 2, 1, 0, 3, 1, 62, 4, 7, 6, 2, 0, 24, 2, 1, 139, 1, 2]), (20, [12, 0, 5], [50, 1, 1, 1139, 1062, 1, 2, 1, 0, 3, 1, 62, 4, 7, 6, 2, 0, 24, 2, 1, 139, 1, 2]), (20, [8, 0], [30, 0, 1, 0, 0, -1, 3, 2005000]), (20, [8, 0], [30, 0, -1, 0, 0, 1, 3, 2005000]), (20, [0], [60, 1, 1, 197, 5, 2]), (20, [2, 0], [50, 1, 1, 1005, 1002, 0, 6, 4, 2, 1, 0, 0, 1, 3, 1, 2, 4, 3, 2, 1, 5, 0, 1]), (101, [0, 6], [144]), (7, [6, 6], [5]), (7, [6, 13], [5]), (2, [13, 12, 11], []), (20, [12, 0, 5], [50, 1, 1, 1139, 1062, 1, 2, 1, 0, 3, 1, 62, 4, 7, 6, 2, 0, 24, 2, 1, 139, 1, 2]), (9, [6, 0], [144]), (1, [11, 9, 10], []), (7, [5, 8], [2]), (20, [8, 0], [30, 0, 1, 0, 0, -1, 3, 2005000]), (20, [8, 0], [30, 0, -1, 0, 0, 1, 3, 2005000]), (20, [0], [60, 1, 1, 197, 5, 2]), (20, [2, 0], [50, 1, 1, 1005, 1002, 0, 6, 4, 2, 1, 0, 0, 1, 3, 1, 2, 4, 3, 2, 1, 5, 0, 1]), (20, [0, 3, 4, 5], [60, 3, 2, 389, 144, 145, 139, 62, 63])], [], [], [(20, [0, 3, 4, 22], [60, 3, 2, 389, 144, 145, 139, 62, 63])], [], [(22, 5, 1, 1), (22, 8, -4294967296, 0), (4, 21, 1, 4294967296), (21, 19, 3, 3), (7, 18, -4294967296, -1), (18, 16, -3, -3), (3, 15, 1, 4294967296), (15, 11, -300000000, 300000000), (15, 9, -299999997, 300000003), (15, 14, 3, 11), (6, 13, -4294967296, -1), (13, 12, -11, -3), (11, 9, 3, 3), (5, 8, -4294967296, -1), (3, 5, -4294967296, 300000010), (4, 5, -4294967296, 300000002)])
theorem oo_Mo_route_18 {kA : Nat → ClassId} : or_ok PRD kA GG o_Mo_route_18 := by
  refine or_mk fun A ta ws vs hD hth hl => ?_
  intro t0 r0 t2 k2 t3 k3 t4 k4 t5 k5 t6 k6 t7 k7 t8 k8 t9 k9 t10 k10 t11 k11 t12 k12 t13 k13 t14 k14 t15 k15 t16 k16 t17 k17 t18 k18 t19 k19 t20 k20 t21 k21 t22 k22 d0 d1 d2 d3 d4 d5 d6 d7 d8 d9 d10 d11 d12 d13 d14 d15 f0 f1 f2 f3 f4 f5 f6 f7 f8 f9 f10 f11 ta1 w1 le1 s1 f13 f14 f15 f16 f17 f18 f19 f20 f21 f22 f23 f24 f25 f26 ta2 w2 le2 s2 f28 f29 f30 f31 f32 f33 f34 f35 f36 f37 f38 f39
  have s1 : (∀ b j, w_el ws b j = w_el w1 b j) ∧ ∀ b j, w_fd ws b j = if b = v_ad (n_v vs 0) ∧ j = 145 then n_v vs 7 else w_fd w1 b j := s1.2
  replace f17 := shm_1968 f17
  have s2 : (∀ b j, w_el w1 b j = w_el w2 b j) ∧ ∀ b j, w_fd w1 b j = if b = v_ad (n_v vs 0) ∧ j = 144 then n_v vs 6 else w_fd w2 b j := s2.2
  replace f32 := shm_1969 f32
  replace f39 := shm_1967 f39
  have ar_0_2_1 : w_ar w1 (n_v vs 0) 2 = w_ar ws (n_v vs 0) 2 := by show v_ad (w_fd w1 _ _) = v_ad (w_fd ws _ _); rw [s1.2, if_neg (fun e => absurd e.2 (by decide))]
  have ar_0_2_2 : w_ar w2 (n_v vs 0) 2 = w_ar ws (n_v vs 0) 2 := by rw [← ar_0_2_1]; show v_ad (w_fd w2 _ _) = v_ad (w_fd w1 _ _); rw [s2.2, if_neg (fun e => absurd e.2 (by decide))]
  have ar_0_62_1 : w_ar w1 (n_v vs 0) 62 = w_ar ws (n_v vs 0) 62 := by show v_ad (w_fd w1 _ _) = v_ad (w_fd ws _ _); rw [s1.2, if_neg (fun e => absurd e.2 (by decide))]
  have ar_0_62_2 : w_ar w2 (n_v vs 0) 62 = w_ar ws (n_v vs 0) 62 := by rw [← ar_0_62_1]; show v_ad (w_fd w2 _ _) = v_ad (w_fd w1 _ _); rw [s2.2, if_neg (fun e => absurd e.2 (by decide))]
  have ar_0_63_1 : w_ar w1 (n_v vs 0) 63 = w_ar ws (n_v vs 0) 63 := by show v_ad (w_fd w1 _ _) = v_ad (w_fd ws _ _); rw [s1.2, if_neg (fun e => absurd e.2 (by decide))]
  have ar_0_63_2 : w_ar w2 (n_v vs 0) 63 = w_ar ws (n_v vs 0) 63 := by rw [← ar_0_63_1]; show v_ad (w_fd w2 _ _) = v_ad (w_fd w1 _ _); rw [s2.2, if_neg (fun e => absurd e.2 (by decide))]
  have g17 : v_iv (n_v vs 7) = w_fi w1 (n_v vs 0) 145 := congrArg v_iv f17
  have g32 : v_iv (n_v vs 6) = w_fi w2 (n_v vs 0) 144 := congrArg v_iv f32
  simp only [ar_0_2_2, ar_0_62_2, ar_0_63_2] at f39
  have fe_0_5_1 : w_fi ws (n_v vs 0) 5 = w_fi w1 (n_v vs 0) 5 := by show v_iv (w_fd _ _ _) = v_iv (w_fd _ _ _); rw [s1.2, if_neg (fun e => absurd e.2 (by decide))]
  have fe_0_139_1 : w_fi ws (n_v vs 0) 139 = w_fi w1 (n_v vs 0) 139 := by show v_iv (w_fd _ _ _) = v_iv (w_fd _ _ _); rw [s1.2, if_neg (fun e => absurd e.2 (by decide))]
  have fe_0_144_1 : w_fi ws (n_v vs 0) 144 = w_fi w1 (n_v vs 0) 144 := by show v_iv (w_fd _ _ _) = v_iv (w_fd _ _ _); rw [s1.2, if_neg (fun e => absurd e.2 (by decide))]
  have fe_0_145_1 : w_fi ws (n_v vs 0) 145 = v_iv (n_v vs 7) := by show v_iv (w_fd _ _ _) = _; rw [s1.2, if_pos ⟨rfl, rfl⟩]
  have fe_0_5_2 : w_fi w1 (n_v vs 0) 5 = w_fi w2 (n_v vs 0) 5 := by show v_iv (w_fd _ _ _) = v_iv (w_fd _ _ _); rw [s2.2, if_neg (fun e => absurd e.2 (by decide))]
  have fe_0_139_2 : w_fi w1 (n_v vs 0) 139 = w_fi w2 (n_v vs 0) 139 := by show v_iv (w_fd _ _ _) = v_iv (w_fd _ _ _); rw [s2.2, if_neg (fun e => absurd e.2 (by decide))]
  have fe_0_144_2 : w_fi w1 (n_v vs 0) 144 = v_iv (n_v vs 6) := by show v_iv (w_fd _ _ _) = _; rw [s2.2, if_pos ⟨rfl, rfl⟩]
  have fe_0_145_2 : w_fi w1 (n_v vs 0) 145 = w_fi w2 (n_v vs 0) 145 := by show v_iv (w_fd _ _ _) = v_iv (w_fd _ _ _); rw [s2.2, if_neg (fun e => absurd e.2 (by decide))]
  have hE_0_2_1 : ∀ j : Int, w_ei ws (w_ar ws (n_v vs 0) 2) j = w_ei w1 (w_ar ws (n_v vs 0) 2) j := fun j => s1.1 _ _
  have hE_0_2_2 : ∀ j : Int, w_ei w1 (w_ar ws (n_v vs 0) 2) j = w_ei w2 (w_ar ws (n_v vs 0) 2) j := fun j => s2.1 _ _
  have hE_0_62_1 : ∀ j : Int, w_ei ws (w_ar ws (n_v vs 0) 62) j = w_ei w1 (w_ar ws (n_v vs 0) 62) j := fun j => s1.1 _ _
  have hE_0_62_2 : ∀ j : Int, w_ei w1 (w_ar ws (n_v vs 0) 62) j = w_ei w2 (w_ar ws (n_v vs 0) 62) j := fun j => s2.1 _ _
  have hE_0_63_1 : ∀ j : Int, w_ei ws (w_ar ws (n_v vs 0) 63) j = w_ei w1 (w_ar ws (n_v vs 0) 63) j := fun j => s1.1 _ _
  have hE_0_63_2 : ∀ j : Int, w_ei w1 (w_ar ws (n_v vs 0) 63) j = w_ei w2 (w_ar ws (n_v vs 0) 63) j := fun j => s2.1 _ _
  have kz_0_139 := fdq_171 hD hth r0
  have kz_0_144 := fdq_316 hD hth r0
  have kz_0_145 := fdq_317 hD hth r0
  have nf0 : fc_1 PRD (20, [0, 3, 4, 22], [60, 3, 2, 389, 144, 145, 139, 62, 63]) ws (vs) := ⟨nf_in hl rfl, sgq_1967 (vc_Mo_route_18_0 (v_iv (n_v vs 3)) (v_iv (n_v vs 4)) (v_iv (n_v vs 5)) (v_iv (n_v vs 6)) (v_iv (n_v vs 7)) (v_iv (n_v vs 11)) (v_iv (n_v vs 12)) (v_iv (n_v vs 13)) (v_iv (n_v vs 14)) (v_iv (n_v vs 15)) (v_iv (n_v vs 16)) (v_iv (n_v vs 18)) (v_iv (n_v vs 19)) (v_iv (n_v vs 21)) (v_iv (n_v vs 22)) (w_ei ws (w_ar ws (n_v vs 0) 63)) (w_fi ws (n_v vs 0) 139) (w_ei ws (w_ar ws (n_v vs 0) 62)) (w_ei ws (w_ar ws (n_v vs 0) 2)) (w_fi ws (n_v vs 0) 5) (w_ei w1 (w_ar ws (n_v vs 0) 63)) (w_fi w1 (n_v vs 0) 139) (w_fi w1 (n_v vs 0) 145) (w_ei w1 (w_ar ws (n_v vs 0) 62)) (w_ei w1 (w_ar ws (n_v vs 0) 2)) (w_fi w1 (n_v vs 0) 5) (w_ei w2 (w_ar ws (n_v vs 0) 62)) (w_fi w2 (n_v vs 0) 139) (w_fi w2 (n_v vs 0) 144) (w_ei w2 (w_ar ws (n_v vs 0) 2)) (w_fi w2 (n_v vs 0) 5) (w_ei w2 (w_ar ws (n_v vs 0) 63)) (w_fi w2 (n_v vs 0) 145) (w_fi ws (n_v vs 0) 144) (w_fi w1 (n_v vs 0) 144) (w_fi ws (n_v vs 0) 145) k3 k4 k5 k6 k7 k11 k12 k13 k14 k15 k16 k18 k19 k21 k22 d2 d3 d4 d5 d6 d9 d10 (shm_4 f0) (shm_134 f1) (shm_687 f4) (shm_687 f5) (shm_685 f6) (shm_685 f7) g17 (shm_134 f18) (shm_12 f20) (shm_14 f30) g32 f39 fe_0_5_1 fe_0_139_1 fe_0_144_1 fe_0_145_1 fe_0_5_2 fe_0_139_2 fe_0_144_2 fe_0_145_2 hE_0_2_1 hE_0_2_2 hE_0_62_1 hE_0_62_2 hE_0_63_1 hE_0_63_2 kz_0_139 kz_0_144 kz_0_145)⟩
  refine ⟨(fun _ h => (by cases h)), [], trivial, ?_, (fun _ h => (by cases h))⟩
  rw [List.append_nil]
  exact List.forall_mem_cons.mpr ⟨⟨show (20 : Nat) < 100 from by decide, nf0⟩, (fun _ h => (by cases h))⟩
set_option maxHeartbeats 4000000 in
theorem vc_Mo_route_19_r0 (x6 : Int) (x7 : Int) (tall_0 : Int) (wide_0 : Int) (k6 : (-3999999) ≤ x6 ∧ x6 ≤ 600000023) (k7 : (-3999999) ≤ x7 ∧ x7 ≤ 600000007) (g0 : x7 = tall_0) (g1 : x6 = wide_0) (f3 : (1 ≤ wide_0) ∧ ((1 ≤ tall_0) ∧ ((wide_0 * tall_0) ≤ 6000))) (kz_0_146 : (-3999999) ≤ wide_0 ∧ wide_0 ≤ 600000023) (kz_0_147 : (-3999999) ≤ tall_0 ∧ tall_0 ≤ 600000007) : 1 ≤ x7 ∧ x7 ≤ 6000 := by
  have g := grid_b4 (w := wide_0) (h := tall_0) (by omega) (by omega) (by omega)
  omega
set_option maxHeartbeats 4000000 in
theorem vc_Mo_route_19_r1 (x6 : Int) (x7 : Int) (tall_0 : Int) (wide_0 : Int) (k6 : (-3999999) ≤ x6 ∧ x6 ≤ 600000023) (k7 : (-3999999) ≤ x7 ∧ x7 ≤ 600000007) (g0 : x7 = tall_0) (g1 : x6 = wide_0) (f3 : (1 ≤ wide_0) ∧ ((1 ≤ tall_0) ∧ ((wide_0 * tall_0) ≤ 6000))) (kz_0_146 : (-3999999) ≤ wide_0 ∧ wide_0 ≤ 600000023) (kz_0_147 : (-3999999) ≤ tall_0 ∧ tall_0 ≤ 600000007) : 1 ≤ x6 ∧ x6 ≤ 6000 := by
  have g := grid_b4 (w := wide_0) (h := tall_0) (by omega) (by omega) (by omega)
  omega
def o_Mo_route_19 : or_T := (202, 8, [(0, (2, 0, 0, [165])), (2, (0, 0, 47, [])), (6, (0, -3999999, 600000023, [])), (7, (0, -3999999, 600000007, []))], [(9, [7, 0], [147]), (9, [6, 0], [146]), (20, [0], [60, 6, 3, 390, 5, 144, 145, 139, 146, 147, 2, 62, 63]), (20, [0], [50, 2, 0, 146, 147, 2, 7, 0, 2, 0, 1, 2, 0, 146, 2, 7, 0, 2, 0, 1, 2, 0, 147, 0, 8, 6, 3, 2, 0, 146, 2, 0, 147, 0, 6000]), (20, [2, 0], [50, 1, 1, 1005, 1002, 0, 6, 4, 2, 1, 0, 0, 1, 3, 1, 2, 4, 3, 2, 1, 5, 0, 1]), (20, [0], [60, 1, 1, 197, 5, 2])], [(7, (0, 1, 6000, [])), (6, (0, 1, 6000, []))], [], [], [], [])
theorem oo_Mo_route_19 {kA : Nat → ClassId} : or_ok PRD kA GG o_Mo_route_19 := by
  refine or_mk fun A ta ws vs hD hth hl => ?_
  intro t0 r0 t2 k2 t6 k6 t7 k7 f0 f1 f2 f3 f4 f5
  replace f0 := shm_1259 f0
  replace f1 := shm_1254 f1
  have g0 : v_iv (n_v vs 7) = w_fi ws (n_v vs 0) 147 := congrArg v_iv f0
  have g1 : v_iv (n_v vs 6) = w_fi ws (n_v vs 0) 146 := congrArg v_iv f1
  have kz_0_146 := fdq_178 hD hth r0
  have kz_0_147 := fdq_179 hD hth r0
  have hrf0 : 1 ≤ v_iv (n_v vs 7) ∧ v_iv (n_v vs 7) ≤ 6000 := vc_Mo_route_19_r0 (v_iv (n_v vs 6)) (v_iv (n_v vs 7)) (w_fi ws (n_v vs 0) 147) (w_fi ws (n_v vs 0) 146) k6 k7 g0 g1 (shm_1971 f3) kz_0_146 kz_0_147
  have hrf1 : 1 ≤ v_iv (n_v vs 6) ∧ v_iv (n_v vs 6) ≤ 6000 := vc_Mo_route_19_r1 (v_iv (n_v vs 6)) (v_iv (n_v vs 7)) (w_fi ws (n_v vs 0) 147) (w_fi ws (n_v vs 0) 146) k6 k7 g0 g1 (shm_1971 f3) kz_0_146 kz_0_147
  have rf7 : tv_ok ta (0, 1, 6000, []) (n_v vs 7) := tv_in t7 (by first | omega | grind) (by first | omega | grind)
  have rf6 : tv_ok ta (0, 1, 6000, []) (n_v vs 6) := tv_in t6 (by first | omega | grind) (by first | omega | grind)
  refine ⟨List.forall_mem_cons.mpr ⟨rf7, List.forall_mem_cons.mpr ⟨rf6, (fun _ h => (by cases h))⟩⟩, [], trivial, ?_, (fun _ h => (by cases h))⟩
  rw [List.append_nil]
  exact (fun _ h => (by cases h))
set_option maxHeartbeats 4000000 in
theorem vc_Mo_route_20_r0 (x2 : Int) (x6 : Int) (x7 : Int) (x9 : Int) (x10 : Int) (x11 : Int) (x12 : Int) (wide_0 : Int) (top0_0 : Int) (nodeY_0 : Int → Int) (g0_0 : Int) (all_0 : Int → Int) (r_0 : Int) (tall_0 : Int) (nodeX_0 : Int → Int) (left0_0 : Int) (k2 : 0 ≤ x2 ∧ x2 ≤ 47) (k6 : 1 ≤ x6 ∧ x6 ≤ 6000) (k7 : 1 ≤ x7 ∧ x7 ≤ 6000) (k9 : 0 ≤ x9 ∧ x9 ≤ 23) (k10 : (-300000000) ≤ x10 ∧ x10 ≤ 300000000) (k11 : (-300000003) ≤ x11 ∧ x11 ≤ 2000000) (k12 : (-302000000) ≤ x12 ∧ x12 ≤ 600000003) (g0 : x6 = wide_0) (f1 : x12 = x10 - x11) (g2 : x11 = top0_0) (f3 : x10 = nodeY_0 (((24 * g0_0) + x9))) (f4 : x9 = all_0 (((r_0 + 267) + x2))) (g7 : x7 = tall_0) (f8 : RTW (r_0) (left0_0) (top0_0) (g0_0) (wide_0) (tall_0) (all_0) (nodeX_0) (nodeY_0)) (f9 : (1 ≤ wide_0) ∧ ((1 ≤ tall_0) ∧ ((wide_0 * tall_0) ≤ 6000))) (f10 : (x2 + 1) ≤ all_0 ((r_0 + 1))) (f11 : SGR (r_0) (all_0)) (kz_0_139 : 0 ≤ g0_0 ∧ g0_0 ≤ 3) (kz_0_144 : (-300000011) ≤ left0_0 ∧ left0_0 ≤ 2000000) (kz_0_145 : (-300000003) ≤ top0_0 ∧ top0_0 ≤ 2000000) (kz_0_146 : (-3999999) ≤ wide_0 ∧ wide_0 ≤ 600000023) (kz_0_147 : (-3999999) ≤ tall_0 ∧ tall_0 ≤ 600000007) : 0 ≤ x12 ∧ x12 ≤ 5999 := by
  have g := grid_b4 (w := wide_0) (h := tall_0) (by omega) (by omega) (by omega)
  have r := sg_end4 (a := all_0 (r_0 + 267 + x2)) (b := all_0 (r_0 + 315 + x2)) ‹SGR _ _› (by omega) (by omega) rfl rfl rfl rfl
  have q := ‹RTW _ _ _ _ _ _ _ _ _›.2 x9 (by omega) (by omega)
  omega
def o_Mo_route_20 : or_T := (266, 13, [(0, (2, 0, 0, [165])), (2, (0, 0, 47, [])), (5, (0, 1, 6000, [])), (6, (0, 1, 6000, [])), (7, (0, 1, 6000, [])), (8, (0, 1, 6000, [])), (9, (0, 0, 23, [])), (10, (0, -300000000, 300000000, [])), (11, (0, -300000003, 2000000, [])), (12, (0, -302000000, 600000003, []))], [(9, [6, 0], [146]), (2, [12, 10, 11], []), (9, [11, 0], [145]), (20, [10, 0, 9], [50, 1, 1, 1139, 1063, 1, 2, 1, 0, 3, 1, 63, 4, 7, 6, 2, 0, 24, 2, 1, 139, 1, 2]), (20, [9, 0, 2], [50, 1, 1, 1005, 1002, 1, 2, 1, 0, 3, 1, 2, 4, 7, 4, 3, 2, 1, 5, 0, 267, 1, 2]), (7, [5, 8], [3]), (3, [8, 6, 7], []), (9, [7, 0], [147]), (20, [0], [60, 6, 3, 390, 5, 144, 145, 139, 146, 147, 2, 62, 63]), (20, [0], [50, 2, 0, 146, 147, 2, 7, 0, 2, 0, 1, 2, 0, 146, 2, 7, 0, 2, 0, 1, 2, 0, 147, 0, 8, 6, 3, 2, 0, 146, 2, 0, 147, 0, 6000]), (20, [2, 0], [50, 1, 1, 1005, 1002, 0, 6, 4, 2, 1, 0, 0, 1, 3, 1, 2, 4, 3, 2, 1, 5, 0, 1]), (20, [0], [60, 1, 1, 197, 5, 2])], [(12, (0, 0, 5999, []))], [], [], [], [(12, 10, -2000000, 300000003), (5, 8, 0, 4294967296)])
theorem oo_Mo_route_20 {kA : Nat → ClassId} : or_ok PRD kA GG o_Mo_route_20 := by
  refine or_mk fun A ta ws vs hD hth hl => ?_
  intro t0 r0 t2 k2 t5 k5 t6 k6 t7 k7 t8 k8 t9 k9 t10 k10 t11 k11 t12 k12 d0 d1 f0 f1 f2 f3 f4 f5 f6 f7 f8 f9 f10 f11
  replace f0 := shm_1254 f0
  replace f2 := shm_1968 f2
  replace f7 := shm_1259 f7
  have g0 : v_iv (n_v vs 6) = w_fi ws (n_v vs 0) 146 := congrArg v_iv f0
  have g2 : v_iv (n_v vs 11) = w_fi ws (n_v vs 0) 145 := congrArg v_iv f2
  have g7 : v_iv (n_v vs 7) = w_fi ws (n_v vs 0) 147 := congrArg v_iv f7
  have kz_0_139 := fdq_171 hD hth r0
  have kz_0_144 := fdq_316 hD hth r0
  have kz_0_145 := fdq_317 hD hth r0
  have kz_0_146 := fdq_178 hD hth r0
  have kz_0_147 := fdq_179 hD hth r0
  have hrf0 : 0 ≤ v_iv (n_v vs 12) ∧ v_iv (n_v vs 12) ≤ 5999 := vc_Mo_route_20_r0 (v_iv (n_v vs 2)) (v_iv (n_v vs 6)) (v_iv (n_v vs 7)) (v_iv (n_v vs 9)) (v_iv (n_v vs 10)) (v_iv (n_v vs 11)) (v_iv (n_v vs 12)) (w_fi ws (n_v vs 0) 146) (w_fi ws (n_v vs 0) 145) (w_ei ws (w_ar ws (n_v vs 0) 63)) (w_fi ws (n_v vs 0) 139) (w_ei ws (w_ar ws (n_v vs 0) 2)) (w_fi ws (n_v vs 0) 5) (w_fi ws (n_v vs 0) 147) (w_ei ws (w_ar ws (n_v vs 0) 62)) (w_fi ws (n_v vs 0) 144) k2 k6 k7 k9 k10 k11 k12 g0 (shm_14 f1) g2 (shm_687 f3) (shm_735 f4) g7 (shm_1970 f8) (shm_1971 f9) (shm_1651 f10) (shm_1403 f11) kz_0_139 kz_0_144 kz_0_145 kz_0_146 kz_0_147
  have rf12 : tv_ok ta (0, 0, 5999, []) (n_v vs 12) := tv_in t12 (by first | omega | grind) (by first | omega | grind)
  refine ⟨List.forall_mem_cons.mpr ⟨rf12, (fun _ h => (by cases h))⟩, [], trivial, ?_, (fun _ h => (by cases h))⟩
  rw [List.append_nil]
  exact (fun _ h => (by cases h))
set_option maxHeartbeats 4000000 in
theorem vc_Mo_route_21_r0 (x2 : Int) (x6 : Int) (x9 : Int) (x10 : Int) (x11 : Int) (x12 : Int) (x13 : Int) (x14 : Int) (x15 : Int) (x16 : Int) (x17 : Int) (x18 : Int) (left0_0 : Int) (nodeX_0 : Int → Int) (g0_0 : Int) (all_0 : Int → Int) (r_0 : Int) (wide_0 : Int) (top0_0 : Int) (nodeY_0 : Int → Int) (tall_0 : Int) (k2 : 0 ≤ x2 ∧ x2 ≤ 47) (k6 : 1 ≤ x6 ∧ x6 ≤ 6000) (k9 : 0 ≤ x9 ∧ x9 ≤ 23) (k10 : (-300000000) ≤ x10 ∧ x10 ≤ 300000000) (k11 : (-300000003) ≤ x11 ∧ x11 ≤ 2000000) (k12 : 0 ≤ x12 ∧ x12 ≤ 5999) (k13 : 0 ≤ x13 ∧ x13 ≤ 35994000) (k14 : 0 ≤ x14 ∧ x14 ≤ 23) (k15 : (-300000000) ≤ x15 ∧ x15 ≤ 300000000) (k16 : (-300000000) ≤ x16 ∧ x16 ≤ 335994000) (k17 : (-300000011) ≤ x17 ∧ x17 ≤ 2000000) (k18 : (-302000000) ≤ x18 ∧ x18 ≤ 635994011) (f0 : x18 = x16 - x17) (g1 : x17 = left0_0) (f2 : x16 = x13 + x15) (f3 : x15 = nodeX_0 (((24 * g0_0) + x14))) (f4 : x14 = all_0 (((r_0 + 267) + x2))) (f5 : x13 = x12 * x6) (g6 : x6 = wide_0) (f7 : x12 = x10 - x11) (g8 : x11 = top0_0) (f9 : x10 = nodeY_0 (((24 * g0_0) + x9))) (f10 : x9 = all_0 (((r_0 + 267) + x2))) (f14 : RTW (r_0) (left0_0) (top0_0) (g0_0) (wide_0) (tall_0) (all_0) (nodeX_0) (nodeY_0)) (f16 : (x2 + 1) ≤ all_0 ((r_0 + 1))) (f17 : SGR (r_0) (all_0)) (kz_0_139 : 0 ≤ g0_0 ∧ g0_0 ≤ 3) (kz_0_144 : (-300000011) ≤ left0_0 ∧ left0_0 ≤ 2000000) (kz_0_145 : (-300000003) ≤ top0_0 ∧ top0_0 ≤ 2000000) (kz_0_146 : (-3999999) ≤ wide_0 ∧ wide_0 ≤ 600000023) (kz_0_147 : (-3999999) ≤ tall_0 ∧ tall_0 ≤ 600000007) : 0 ≤ x18 ∧ x18 ≤ 5999 := by
  have r := sg_end4 (a := all_0 (r_0 + 267 + x2)) (b := all_0 (r_0 + 315 + x2)) ‹SGR _ _› (by omega) (by omega) rfl rfl rfl rfl
  exact rtw_cell (v := x9) (x := x15) (y := x10) (d := x12) (e := x6) (p := x13) (s := x16) (q := 0) ‹RTW _ _ _ _ _ _ _ _ _› (by omega) (by omega) (by rw [show x9 = x14 by omega]; assumption) (by assumption) (by omega) (by omega) (by assumption) (by omega) (by omega)
def o_Mo_route_21 : or_T := (282, 19, [(0, (2, 0, 0, [165])), (2, (0, 0, 47, [])), (5, (0, 1, 6000, [])), (6, (0, 1, 6000, [])), (7, (0, 1, 6000, [])), (8, (0, 1, 6000, [])), (9, (0, 0, 23, [])), (10, (0, -300000000, 300000000, [])), (11, (0, -300000003, 2000000, [])), (12, (0, 0, 5999, [])), (13, (0, 0, 35994000, [])), (14, (0, 0, 23, [])), (15, (0, -300000000, 300000000, [])), (16, (0, -300000000, 335994000, [])), (17, (0, -300000011, 2000000, [])), (18, (0, -302000000, 635994011, []))], [(2, [18, 16, 17], []), (9, [17, 0], [144]), (1, [16, 13, 15], []), (20, [15, 0, 14], [50, 1, 1, 1139, 1062, 1, 2, 1, 0, 3, 1, 62, 4, 7, 6, 2, 0, 24, 2, 1, 139, 1, 2]), (20, [14, 0, 2], [50, 1, 1, 1005, 1002, 1, 2, 1, 0, 3, 1, 2, 4, 7, 4, 3, 2, 1, 5, 0, 267, 1, 2]), (3, [13, 12, 6], []), (9, [6, 0], [146]), (2, [12, 10, 11], []), (9, [11, 0], [145]), (20, [10, 0, 9], [50, 1, 1, 1139, 1063, 1, 2, 1, 0, 3, 1, 63, 4, 7, 6, 2, 0, 24, 2, 1, 139, 1, 2]), (20, [9, 0, 2], [50, 1, 1, 1005, 1002, 1, 2, 1, 0, 3, 1, 2, 4, 7, 4, 3, 2, 1, 5, 0, 267, 1, 2]), (7, [5, 8], [3]), (3, [8, 6, 7], []), (9, [7, 0], [147]), (20, [0], [60, 6, 3, 390, 5, 144, 145, 139, 146, 147, 2, 62, 63]), (20, [0], [50, 2, 0, 146, 147, 2, 7, 0, 2, 0, 1, 2, 0, 146, 2, 7, 0, 2, 0, 1, 2, 0, 147, 0, 8, 6, 3, 2, 0, 146, 2, 0, 147, 0, 6000]), (20, [2, 0], [50, 1, 1, 1005, 1002, 0, 6, 4, 2, 1, 0, 0, 1, 3, 1, 2, 4, 3, 2, 1, 5, 0, 1]), (20, [0], [60, 1, 1, 197, 5, 2])], [(18, (0, 0, 5999, []))], [], [], [], [(18, 16, -2000000, 300000011), (18, 15, -2000000, 335994011), (18, 13, -302000000, 600000011), (16, 15, 0, 35994000), (16, 13, -300000000, 300000000), (12, 10, -2000000, 300000003), (5, 8, 0, 4294967296)])
theorem oo_Mo_route_21 {kA : Nat → ClassId} : or_ok PRD kA GG o_Mo_route_21 := by
  refine or_mk fun A ta ws vs hD hth hl => ?_
  intro t0 r0 t2 k2 t5 k5 t6 k6 t7 k7 t8 k8 t9 k9 t10 k10 t11 k11 t12 k12 t13 k13 t14 k14 t15 k15 t16 k16 t17 k17 t18 k18 d0 d1 d2 d3 d4 d5 d6 f0 f1 f2 f3 f4 f5 f6 f7 f8 f9 f10 f11 f12 f13 f14 f15 f16 f17
  replace f1 := shm_1969 f1
  replace f6 := shm_1254 f6
  replace f8 := shm_1968 f8
  have g1 : v_iv (n_v vs 17) = w_fi ws (n_v vs 0) 144 := congrArg v_iv f1
  have g6 : v_iv (n_v vs 6) = w_fi ws (n_v vs 0) 146 := congrArg v_iv f6
  have g8 : v_iv (n_v vs 11) = w_fi ws (n_v vs 0) 145 := congrArg v_iv f8
  have kz_0_139 := fdq_171 hD hth r0
  have kz_0_144 := fdq_316 hD hth r0
  have kz_0_145 := fdq_317 hD hth r0
  have kz_0_146 := fdq_178 hD hth r0
  have kz_0_147 := fdq_179 hD hth r0
  have hrf0 : 0 ≤ v_iv (n_v vs 18) ∧ v_iv (n_v vs 18) ≤ 5999 := vc_Mo_route_21_r0 (v_iv (n_v vs 2)) (v_iv (n_v vs 6)) (v_iv (n_v vs 9)) (v_iv (n_v vs 10)) (v_iv (n_v vs 11)) (v_iv (n_v vs 12)) (v_iv (n_v vs 13)) (v_iv (n_v vs 14)) (v_iv (n_v vs 15)) (v_iv (n_v vs 16)) (v_iv (n_v vs 17)) (v_iv (n_v vs 18)) (w_fi ws (n_v vs 0) 144) (w_ei ws (w_ar ws (n_v vs 0) 62)) (w_fi ws (n_v vs 0) 139) (w_ei ws (w_ar ws (n_v vs 0) 2)) (w_fi ws (n_v vs 0) 5) (w_fi ws (n_v vs 0) 146) (w_fi ws (n_v vs 0) 145) (w_ei ws (w_ar ws (n_v vs 0) 63)) (w_fi ws (n_v vs 0) 147) k2 k6 k9 k10 k11 k12 k13 k14 k15 k16 k17 k18 (shm_14 f0) g1 (shm_12 f2) (shm_685 f3) (shm_735 f4) (shm_38 f5) g6 (shm_14 f7) g8 (shm_687 f9) (shm_735 f10) (shm_1970 f14) (shm_1651 f16) (shm_1403 f17) kz_0_139 kz_0_144 kz_0_145 kz_0_146 kz_0_147
  have rf18 : tv_ok ta (0, 0, 5999, []) (n_v vs 18) := tv_in t18 (by first | omega | grind) (by first | omega | grind)
  refine ⟨List.forall_mem_cons.mpr ⟨rf18, (fun _ h => (by cases h))⟩, [], trivial, ?_, (fun _ h => (by cases h))⟩
  rw [List.append_nil]
  exact (fun _ h => (by cases h))
set_option maxHeartbeats 4000000 in
theorem vc_Mo_route_22_r0 (x2 : Int) (x6 : Int) (x7 : Int) (x11 : Int) (x19 : Int) (x20 : Int) (x21 : Int) (wide_0 : Int) (top0_0 : Int) (nodeY_0 : Int → Int) (g0_0 : Int) (all_0 : Int → Int) (r_0 : Int) (left0_0 : Int) (nodeX_0 : Int → Int) (tall_0 : Int) (k2 : 0 ≤ x2 ∧ x2 ≤ 47) (k6 : 1 ≤ x6 ∧ x6 ≤ 6000) (k7 : 1 ≤ x7 ∧ x7 ≤ 6000) (k11 : (-300000003) ≤ x11 ∧ x11 ≤ 2000000) (k19 : 0 ≤ x19 ∧ x19 ≤ 23) (k20 : (-300000000) ≤ x20 ∧ x20 ≤ 300000000) (k21 : (-302000000) ≤ x21 ∧ x21 ≤ 600000003) (g0 : x6 = wide_0) (f1 : x21 = x20 - x11) (g2 : x11 = top0_0) (f3 : x20 = nodeY_0 (((24 * g0_0) + x19))) (f4 : x19 = all_0 (((r_0 + 315) + x2))) (g15 : x7 = tall_0) (f16 : RTW (r_0) (left0_0) (top0_0) (g0_0) (wide_0) (tall_0) (all_0) (nodeX_0) (nodeY_0)) (f17 : (1 ≤ wide_0) ∧ ((1 ≤ tall_0) ∧ ((wide_0 * tall_0) ≤ 6000))) (f18 : (x2 + 1) ≤ all_0 ((r_0 + 1))) (f19 : SGR (r_0) (all_0)) (kz_0_139 : 0 ≤ g0_0 ∧ g0_0 ≤ 3) (kz_0_144 : (-300000011) ≤ left0_0 ∧ left0_0 ≤ 2000000) (kz_0_145 : (-300000003) ≤ top0_0 ∧ top0_0 ≤ 2000000) (kz_0_146 : (-3999999) ≤ wide_0 ∧ wide_0 ≤ 600000023) (kz_0_147 : (-3999999) ≤ tall_0 ∧ tall_0 ≤ 600000007) : 0 ≤ x21 ∧ x21 ≤ 5999 := by
  have g := grid_b4 (w := wide_0) (h := tall_0) (by omega) (by omega) (by omega)
  have r := sg_end4 (a := all_0 (r_0 + 267 + x2)) (b := all_0 (r_0 + 315 + x2)) ‹SGR _ _› (by omega) (by omega) rfl rfl rfl rfl
  have q := ‹RTW _ _ _ _ _ _ _ _ _›.2 x19 (by omega) (by omega)
  omega
def o_Mo_route_22 : or_T := (302, 22, [(0, (2, 0, 0, [165])), (2, (0, 0, 47, [])), (5, (0, 1, 6000, [])), (6, (0, 1, 6000, [])), (7, (0, 1, 6000, [])), (8, (0, 1, 6000, [])), (9, (0, 0, 23, [])), (10, (0, -300000000, 300000000, [])), (11, (0, -300000003, 2000000, [])), (12, (0, 0, 5999, [])), (13, (0, 0, 35994000, [])), (14, (0, 0, 23, [])), (15, (0, -300000000, 300000000, [])), (16, (0, -300000000, 335994000, [])), (17, (0, -300000011, 2000000, [])), (19, (0, 0, 23, [])), (20, (0, -300000000, 300000000, [])), (21, (0, -302000000, 600000003, []))], [(9, [6, 0], [146]), (2, [21, 20, 11], []), (9, [11, 0], [145]), (20, [20, 0, 19], [50, 1, 1, 1139, 1063, 1, 2, 1, 0, 3, 1, 63, 4, 7, 6, 2, 0, 24, 2, 1, 139, 1, 2]), (20, [19, 0, 2], [50, 1, 1, 1005, 1002, 1, 2, 1, 0, 3, 1, 2, 4, 7, 4, 3, 2, 1, 5, 0, 315, 1, 2]), (9, [17, 0], [144]), (1, [16, 13, 15], []), (20, [15, 0, 14], [50, 1, 1, 1139, 1062, 1, 2, 1, 0, 3, 1, 62, 4, 7, 6, 2, 0, 24, 2, 1, 139, 1, 2]), (20, [14, 0, 2], [50, 1, 1, 1005, 1002, 1, 2, 1, 0, 3, 1, 2, 4, 7, 4, 3, 2, 1, 5, 0, 267, 1, 2]), (3, [13, 12, 6], []), (2, [12, 10, 11], []), (20, [10, 0, 9], [50, 1, 1, 1139, 1063, 1, 2, 1, 0, 3, 1, 63, 4, 7, 6, 2, 0, 24, 2, 1, 139, 1, 2]), (20, [9, 0, 2], [50, 1, 1, 1005, 1002, 1, 2, 1, 0, 3, 1, 2, 4, 7, 4, 3, 2, 1, 5, 0, 267, 1, 2]), (7, [5, 8], [3]), (3, [8, 6, 7], []), (9, [7, 0], [147]), (20, [0], [60, 6, 3, 390, 5, 144, 145, 139, 146, 147, 2, 62, 63]), (20, [0], [50, 2, 0, 146, 147, 2, 7, 0, 2, 0, 1, 2, 0, 146, 2, 7, 0, 2, 0, 1, 2, 0, 147, 0, 8, 6, 3, 2, 0, 146, 2, 0, 147, 0, 6000]), (20, [2, 0], [50, 1, 1, 1005, 1002, 0, 6, 4, 2, 1, 0, 0, 1, 3, 1, 2, 4, 3, 2, 1, 5, 0, 1]), (20, [0], [60, 1, 1, 197, 5, 2])], [(21, (0, 0, 5999, []))], [], [], [], [(21, 20, -2000000, 300000003), (16, 15, 0, 35994000), (16, 13, -300000000, 300000000), (12, 10, -2000000, 300000003), (5, 8, 0, 4294967296)])
theorem oo_Mo_route_22 {kA : Nat → ClassId} : or_ok PRD kA GG o_Mo_route_22 := by
  refine or_mk fun A ta ws vs hD hth hl => ?_
  intro t0 r0 t2 k2 t5 k5 t6 k6 t7 k7 t8 k8 t9 k9 t10 k10 t11 k11 t12 k12 t13 k13 t14 k14 t15 k15 t16 k16 t17 k17 t19 k19 t20 k20 t21 k21 d0 d1 d2 d3 d4 f0 f1 f2 f3 f4 f5 f6 f7 f8 f9 f10 f11 f12 f13 f14 f15 f16 f17 f18 f19
  replace f0 := shm_1254 f0
  replace f2 := shm_1968 f2
  replace f15 := shm_1259 f15
  have g0 : v_iv (n_v vs 6) = w_fi ws (n_v vs 0) 146 := congrArg v_iv f0
  have g2 : v_iv (n_v vs 11) = w_fi ws (n_v vs 0) 145 := congrArg v_iv f2
  have g15 : v_iv (n_v vs 7) = w_fi ws (n_v vs 0) 147 := congrArg v_iv f15
  have kz_0_139 := fdq_171 hD hth r0
  have kz_0_144 := fdq_316 hD hth r0
  have kz_0_145 := fdq_317 hD hth r0
  have kz_0_146 := fdq_178 hD hth r0
  have kz_0_147 := fdq_179 hD hth r0
  have hrf0 : 0 ≤ v_iv (n_v vs 21) ∧ v_iv (n_v vs 21) ≤ 5999 := vc_Mo_route_22_r0 (v_iv (n_v vs 2)) (v_iv (n_v vs 6)) (v_iv (n_v vs 7)) (v_iv (n_v vs 11)) (v_iv (n_v vs 19)) (v_iv (n_v vs 20)) (v_iv (n_v vs 21)) (w_fi ws (n_v vs 0) 146) (w_fi ws (n_v vs 0) 145) (w_ei ws (w_ar ws (n_v vs 0) 63)) (w_fi ws (n_v vs 0) 139) (w_ei ws (w_ar ws (n_v vs 0) 2)) (w_fi ws (n_v vs 0) 5) (w_fi ws (n_v vs 0) 144) (w_ei ws (w_ar ws (n_v vs 0) 62)) (w_fi ws (n_v vs 0) 147) k2 k6 k7 k11 k19 k20 k21 g0 (shm_14 f1) g2 (shm_687 f3) (shm_591 f4) g15 (shm_1970 f16) (shm_1971 f17) (shm_1651 f18) (shm_1403 f19) kz_0_139 kz_0_144 kz_0_145 kz_0_146 kz_0_147
  have rf21 : tv_ok ta (0, 0, 5999, []) (n_v vs 21) := tv_in t21 (by first | omega | grind) (by first | omega | grind)
  refine ⟨List.forall_mem_cons.mpr ⟨rf21, (fun _ h => (by cases h))⟩, [], trivial, ?_, (fun _ h => (by cases h))⟩
  rw [List.append_nil]
  exact (fun _ h => (by cases h))
set_option maxHeartbeats 4000000 in
theorem vc_Mo_route_23_r0 (x2 : Int) (x6 : Int) (x11 : Int) (x17 : Int) (x19 : Int) (x20 : Int) (x21 : Int) (x22 : Int) (x23 : Int) (x24 : Int) (x25 : Int) (x26 : Int) (left0_0 : Int) (nodeX_0 : Int → Int) (g0_0 : Int) (all_0 : Int → Int) (r_0 : Int) (wide_0 : Int) (top0_0 : Int) (nodeY_0 : Int → Int) (tall_0 : Int) (k2 : 0 ≤ x2 ∧ x2 ≤ 47) (k6 : 1 ≤ x6 ∧ x6 ≤ 6000) (k11 : (-300000003) ≤ x11 ∧ x11 ≤ 2000000) (k17 : (-300000011) ≤ x17 ∧ x17 ≤ 2000000) (k19 : 0 ≤ x19 ∧ x19 ≤ 23) (k20 : (-300000000) ≤ x20 ∧ x20 ≤ 300000000) (k21 : 0 ≤ x21 ∧ x21 ≤ 5999) (k22 : 0 ≤ x22 ∧ x22 ≤ 35994000) (k23 : 0 ≤ x23 ∧ x23 ≤ 23) (k24 : (-300000000) ≤ x24 ∧ x24 ≤ 300000000) (k25 : (-300000000) ≤ x25 ∧ x25 ≤ 335994000) (k26 : (-302000000) ≤ x26 ∧ x26 ≤ 635994011) (f0 : x26 = x25 - x17) (g1 : x17 = left0_0) (f2 : x25 = x22 + x24) (f3 : x24 = nodeX_0 (((24 * g0_0) + x23))) (f4 : x23 = all_0 (((r_0 + 315) + x2))) (f5 : x22 = x21 * x6) (g6 : x6 = wide_0) (f7 : x21 = x20 - x11) (g8 : x11 = top0_0) (f9 : x20 = nodeY_0 (((24 * g0_0) + x19))) (f10 : x19 = all_0 (((r_0 + 315) + x2))) (f21 : RTW (r_0) (left0_0) (top0_0) (g0_0) (wide_0) (tall_0) (all_0) (nodeX_0) (nodeY_0)) (f23 : (x2 + 1) ≤ all_0 ((r_0 + 1))) (f24 : SGR (r_0) (all_0)) (kz_0_139 : 0 ≤ g0_0 ∧ g0_0 ≤ 3) (kz_0_144 : (-300000011) ≤ left0_0 ∧ left0_0 ≤ 2000000) (kz_0_145 : (-300000003) ≤ top0_0 ∧ top0_0 ≤ 2000000) (kz_0_146 : (-3999999) ≤ wide_0 ∧ wide_0 ≤ 600000023) (kz_0_147 : (-3999999) ≤ tall_0 ∧ tall_0 ≤ 600000007) : 0 ≤ x26 ∧ x26 ≤ 5999 := by
  have r := sg_end4 (a := all_0 (r_0 + 267 + x2)) (b := all_0 (r_0 + 315 + x2)) ‹SGR _ _› (by omega) (by omega) rfl rfl rfl rfl
  exact rtw_cell (v := x19) (x := x24) (y := x20) (d := x21) (e := x6) (p := x22) (s := x25) (q := 0) ‹RTW _ _ _ _ _ _ _ _ _› (by omega) (by omega) (by rw [show x19 = x23 by omega]; assumption) (by assumption) (by omega) (by omega) (by assumption) (by omega) (by omega)
def o_Mo_route_23 : or_T := (318, 27, [(0, (2, 0, 0, [165])), (2, (0, 0, 47, [])), (5, (0, 1, 6000, [])), (6, (0, 1, 6000, [])), (7, (0, 1, 6000, [])), (8, (0, 1, 6000, [])), (9, (0, 0, 23, [])), (10, (0, -300000000, 300000000, [])), (11, (0, -300000003, 2000000, [])), (12, (0, 0, 5999, [])), (13, (0, 0, 35994000, [])), (14, (0, 0, 23, [])), (15, (0, -300000000, 300000000, [])), (16, (0, -300000000, 335994000, [])), (17, (0, -300000011, 2000000, [])), (19, (0, 0, 23, [])), (20, (0, -300000000, 300000000, [])), (21, (0, 0, 5999, [])), (22, (0, 0, 35994000, [])), (23, (0, 0, 23, [])), (24, (0, -300000000, 300000000, [])), (25, (0, -300000000, 335994000, [])), (26, (0, -302000000, 635994011, []))], [(2, [26, 25, 17], []), (9, [17, 0], [144]), (1, [25, 22, 24], []), (20, [24, 0, 23], [50, 1, 1, 1139, 1062, 1, 2, 1, 0, 3, 1, 62, 4, 7, 6, 2, 0, 24, 2, 1, 139, 1, 2]), (20, [23, 0, 2], [50, 1, 1, 1005, 1002, 1, 2, 1, 0, 3, 1, 2, 4, 7, 4, 3, 2, 1, 5, 0, 315, 1, 2]), (3, [22, 21, 6], []), (9, [6, 0], [146]), (2, [21, 20, 11], []), (9, [11, 0], [145]), (20, [20, 0, 19], [50, 1, 1, 1139, 1063, 1, 2, 1, 0, 3, 1, 63, 4, 7, 6, 2, 0, 24, 2, 1, 139, 1, 2]), (20, [19, 0, 2], [50, 1, 1, 1005, 1002, 1, 2, 1, 0, 3, 1, 2, 4, 7, 4, 3, 2, 1, 5, 0, 315, 1, 2]), (1, [16, 13, 15], []), (20, [15, 0, 14], [50, 1, 1, 1139, 1062, 1, 2, 1, 0, 3, 1, 62, 4, 7, 6, 2, 0, 24, 2, 1, 139, 1, 2]), (20, [14, 0, 2], [50, 1, 1, 1005, 1002, 1, 2, 1, 0, 3, 1, 2, 4, 7, 4, 3, 2, 1, 5, 0, 267, 1, 2]), (3, [13, 12, 6], []), (2, [12, 10, 11], []), (20, [10, 0, 9], [50, 1, 1, 1139, 1063, 1, 2, 1, 0, 3, 1, 63, 4, 7, 6, 2, 0, 24, 2, 1, 139, 1, 2]), (20, [9, 0, 2], [50, 1, 1, 1005, 1002, 1, 2, 1, 0, 3, 1, 2, 4, 7, 4, 3, 2, 1, 5, 0, 267, 1, 2]), (7, [5, 8], [3]), (3, [8, 6, 7], []), (9, [7, 0], [147]), (20, [0], [60, 6, 3, 390, 5, 144, 145, 139, 146, 147, 2, 62, 63]), (20, [0], [50, 2, 0, 146, 147, 2, 7, 0, 2, 0, 1, 2, 0, 146, 2, 7, 0, 2, 0, 1, 2, 0, 147, 0, 8, 6, 3, 2, 0, 146, 2, 0, 147, 0, 6000]), (20, [2, 0], [50, 1, 1, 1005, 1002, 0, 6, 4, 2, 1, 0, 0, 1, 3, 1, 2, 4, 3, 2, 1, 5, 0, 1]), (20, [0], [60, 1, 1, 197, 5, 2])], [(26, (0, 0, 5999, []))], [], [], [], [(26, 25, -2000000, 300000011), (26, 24, -2000000, 335994011), (26, 22, -302000000, 600000011), (25, 24, 0, 35994000), (25, 22, -300000000, 300000000), (21, 20, -2000000, 300000003), (16, 15, 0, 35994000), (16, 13, -300000000, 300000000), (12, 10, -2000000, 300000003), (5, 8, 0, 4294967296)])
theorem oo_Mo_route_23 {kA : Nat → ClassId} : or_ok PRD kA GG o_Mo_route_23 := by
  refine or_mk fun A ta ws vs hD hth hl => ?_
  intro t0 r0 t2 k2 t5 k5 t6 k6 t7 k7 t8 k8 t9 k9 t10 k10 t11 k11 t12 k12 t13 k13 t14 k14 t15 k15 t16 k16 t17 k17 t19 k19 t20 k20 t21 k21 t22 k22 t23 k23 t24 k24 t25 k25 t26 k26 d0 d1 d2 d3 d4 d5 d6 d7 d8 d9 f0 f1 f2 f3 f4 f5 f6 f7 f8 f9 f10 f11 f12 f13 f14 f15 f16 f17 f18 f19 f20 f21 f22 f23 f24
  replace f1 := shm_1969 f1
  replace f6 := shm_1254 f6
  replace f8 := shm_1968 f8
  have g1 : v_iv (n_v vs 17) = w_fi ws (n_v vs 0) 144 := congrArg v_iv f1
  have g6 : v_iv (n_v vs 6) = w_fi ws (n_v vs 0) 146 := congrArg v_iv f6
  have g8 : v_iv (n_v vs 11) = w_fi ws (n_v vs 0) 145 := congrArg v_iv f8
  have kz_0_139 := fdq_171 hD hth r0
  have kz_0_144 := fdq_316 hD hth r0
  have kz_0_145 := fdq_317 hD hth r0
  have kz_0_146 := fdq_178 hD hth r0
  have kz_0_147 := fdq_179 hD hth r0
  have hrf0 : 0 ≤ v_iv (n_v vs 26) ∧ v_iv (n_v vs 26) ≤ 5999 := vc_Mo_route_23_r0 (v_iv (n_v vs 2)) (v_iv (n_v vs 6)) (v_iv (n_v vs 11)) (v_iv (n_v vs 17)) (v_iv (n_v vs 19)) (v_iv (n_v vs 20)) (v_iv (n_v vs 21)) (v_iv (n_v vs 22)) (v_iv (n_v vs 23)) (v_iv (n_v vs 24)) (v_iv (n_v vs 25)) (v_iv (n_v vs 26)) (w_fi ws (n_v vs 0) 144) (w_ei ws (w_ar ws (n_v vs 0) 62)) (w_fi ws (n_v vs 0) 139) (w_ei ws (w_ar ws (n_v vs 0) 2)) (w_fi ws (n_v vs 0) 5) (w_fi ws (n_v vs 0) 146) (w_fi ws (n_v vs 0) 145) (w_ei ws (w_ar ws (n_v vs 0) 63)) (w_fi ws (n_v vs 0) 147) k2 k6 k11 k17 k19 k20 k21 k22 k23 k24 k25 k26 (shm_14 f0) g1 (shm_12 f2) (shm_685 f3) (shm_591 f4) (shm_38 f5) g6 (shm_14 f7) g8 (shm_687 f9) (shm_591 f10) (shm_1970 f21) (shm_1651 f23) (shm_1403 f24) kz_0_139 kz_0_144 kz_0_145 kz_0_146 kz_0_147
  have rf26 : tv_ok ta (0, 0, 5999, []) (n_v vs 26) := tv_in t26 (by first | omega | grind) (by first | omega | grind)
  refine ⟨List.forall_mem_cons.mpr ⟨rf26, (fun _ h => (by cases h))⟩, [], trivial, ?_, (fun _ h => (by cases h))⟩
  rw [List.append_nil]
  exact (fun _ h => (by cases h))
set_option maxHeartbeats 4000000 in
theorem vc_Mo_route_24_0 (x2 : Int) (x6 : Int) (x9 : Int) (x10 : Int) (x11 : Int) (x12 : Int) (x13 : Int) (x14 : Int) (x15 : Int) (x16 : Int) (x17 : Int) (x18 : Int) (x20 : Int) (x21 : Int) (left0_0 : Int) (nodeX_0 : Int → Int) (g0_0 : Int) (all_0 : Int → Int) (r_0 : Int) (wide_0 : Int) (top0_0 : Int) (nodeY_0 : Int → Int) (tall_0 : Int) (k2 : 0 ≤ x2 ∧ x2 ≤ 47) (k6 : 1 ≤ x6 ∧ x6 ≤ 6000) (k9 : 0 ≤ x9 ∧ x9 ≤ 23) (k10 : (-300000000) ≤ x10 ∧ x10 ≤ 300000000) (k11 : (-300000003) ≤ x11 ∧ x11 ≤ 2000000) (k12 : 0 ≤ x12 ∧ x12 ≤ 5999) (k13 : 0 ≤ x13 ∧ x13 ≤ 35994000) (k14 : 0 ≤ x14 ∧ x14 ≤ 23) (k15 : (-300000000) ≤ x15 ∧ x15 ≤ 300000000) (k16 : (-300000000) ≤ x16 ∧ x16 ≤ 335994000) (k17 : (-300000011) ≤ x17 ∧ x17 ≤ 2000000) (k18 : 0 ≤ x18 ∧ x18 ≤ 5999) (k20 : (-300000000) ≤ x20 ∧ x20 ≤ 300000000) (k21 : 0 ≤ x21 ∧ x21 ≤ 5999) (g0 : x17 = left0_0) (g4 : x6 = wide_0) (f5 : x21 = x20 - x11) (g6 : x11 = top0_0) (f9 : x18 = x16 - x17) (f10 : x16 = x13 + x15) (f11 : x15 = nodeX_0 (((24 * g0_0) + x14))) (f12 : x14 = all_0 (((r_0 + 267) + x2))) (f13 : x13 = x12 * x6) (f14 : x12 = x10 - x11) (f15 : x10 = nodeY_0 (((24 * g0_0) + x9))) (f16 : x9 = all_0 (((r_0 + 267) + x2))) (f20 : RTW (r_0) (left0_0) (top0_0) (g0_0) (wide_0) (tall_0) (all_0) (nodeX_0) (nodeY_0)) (f22 : (x2 + 1) ≤ all_0 ((r_0 + 1))) (f23 : SGR (r_0) (all_0)) (kz_0_139 : 0 ≤ g0_0 ∧ g0_0 ≤ 3) (kz_0_144 : (-300000011) ≤ left0_0 ∧ left0_0 ≤ 2000000) (kz_0_145 : (-300000003) ≤ top0_0 ∧ top0_0 ≤ 2000000) (kz_0_146 : (-3999999) ≤ wide_0 ∧ wide_0 ≤ 600000023) (kz_0_147 : (-3999999) ≤ tall_0 ∧ tall_0 ≤ 600000007) : (0 ≤ x18) ∧ ((x18 + 1) ≤ (wide_0 * tall_0)) := by
  have r := sg_end4 (a := all_0 (r_0 + 267 + x2)) (b := all_0 (r_0 + 315 + x2)) ‹SGR _ _› (by omega) (by omega) rfl rfl rfl rfl
  first
    | omega
    | exact rtw_cell2 (v := x9) (x := x15) (y := x10) (d := x12) (e := x6) (p := x13) (s := x16) ‹RTW _ _ _ _ _ _ _ _ _› (by omega) (by omega) (by rw [show x9 = x14 by omega]; assumption) (by assumption) (by omega) (by omega) (by assumption) (by omega) (by omega)
  
def o_Mo_route_24 : or_T := (320, 27, [(0, (2, 0, 0, [165])), (2, (0, 0, 47, [])), (6, (0, 1, 6000, [])), (9, (0, 0, 23, [])), (10, (0, -300000000, 300000000, [])), (11, (0, -300000003, 2000000, [])), (12, (0, 0, 5999, [])), (13, (0, 0, 35994000, [])), (14, (0, 0, 23, [])), (15, (0, -300000000, 300000000, [])), (16, (0, -300000000, 335994000, [])), (17, (0, -300000011, 2000000, [])), (18, (0, 0, 5999, [])), (20, (0, -300000000, 300000000, [])), (21, (0, 0, 5999, []))], [(9, [17, 0], [144]), (9, [6, 0], [146]), (2, [21, 20, 11], []), (9, [11, 0], [145]), (2, [18, 16, 17], []), (1, [16, 13, 15], []), (20, [15, 0, 14], [50, 1, 1, 1139, 1062, 1, 2, 1, 0, 3, 1, 62, 4, 7, 6, 2, 0, 24, 2, 1, 139, 1, 2]), (20, [14, 0, 2], [50, 1, 1, 1005, 1002, 1, 2, 1, 0, 3, 1, 2, 4, 7, 4, 3, 2, 1, 5, 0, 267, 1, 2]), (3, [13, 12, 6], []), (2, [12, 10, 11], []), (20, [10, 0, 9], [50, 1, 1, 1139, 1063, 1, 2, 1, 0, 3, 1, 63, 4, 7, 6, 2, 0, 24, 2, 1, 139, 1, 2]), (20, [9, 0, 2], [50, 1, 1, 1005, 1002, 1, 2, 1, 0, 3, 1, 2, 4, 7, 4, 3, 2, 1, 5, 0, 267, 1, 2]), (20, [0], [60, 6, 3, 390, 5, 144, 145, 139, 146, 147, 2, 62, 63]), (20, [2, 0], [50, 1, 1, 1005, 1002, 0, 6, 4, 2, 1, 0, 0, 1, 3, 1, 2, 4, 3, 2, 1, 5, 0, 1]), (20, [0], [60, 1, 1, 197, 5, 2])], [], [], [(20, [18, 0], [50, 2, 0, 1146, 1147, 2, 6, 0, 2, 0, 0, 1, 0, 0, 6, 4, 2, 1, 0, 0, 1, 6, 3, 2, 1, 146, 2, 1, 147])], [], [])
theorem oo_Mo_route_24 {kA : Nat → ClassId} : or_ok PRD kA GG o_Mo_route_24 := by
  refine or_mk fun A ta ws vs hD hth hl => ?_
  intro t0 r0 t2 k2 t6 k6 t9 k9 t10 k10 t11 k11 t12 k12 t13 k13 t14 k14 t15 k15 t16 k16 t17 k17 t18 k18 t20 k20 t21 k21 f0 f4 f5 f6 f9 f10 f11 f12 f13 f14 f15 f16 f20 f22 f23
  replace f0 := shm_1969 f0
  replace f4 := shm_1254 f4
  replace f6 := shm_1968 f6
  have g0 : v_iv (n_v vs 17) = w_fi ws (n_v vs 0) 144 := congrArg v_iv f0
  have g4 : v_iv (n_v vs 6) = w_fi ws (n_v vs 0) 146 := congrArg v_iv f4
  have g6 : v_iv (n_v vs 11) = w_fi ws (n_v vs 0) 145 := congrArg v_iv f6
  have kz_0_139 := fdq_171 hD hth r0
  have kz_0_144 := fdq_316 hD hth r0
  have kz_0_145 := fdq_317 hD hth r0
  have kz_0_146 := fdq_178 hD hth r0
  have kz_0_147 := fdq_179 hD hth r0
  have nf0 : fc_1 PRD (20, [18, 0], [50, 2, 0, 1146, 1147, 2, 6, 0, 2, 0, 0, 1, 0, 0, 6, 4, 2, 1, 0, 0, 1, 6, 3, 2, 1, 146, 2, 1, 147]) ws (vs) := ⟨nf_in hl rfl, sgq_1256 (vc_Mo_route_24_0 (v_iv (n_v vs 2)) (v_iv (n_v vs 6)) (v_iv (n_v vs 9)) (v_iv (n_v vs 10)) (v_iv (n_v vs 11)) (v_iv (n_v vs 12)) (v_iv (n_v vs 13)) (v_iv (n_v vs 14)) (v_iv (n_v vs 15)) (v_iv (n_v vs 16)) (v_iv (n_v vs 17)) (v_iv (n_v vs 18)) (v_iv (n_v vs 20)) (v_iv (n_v vs 21)) (w_fi ws (n_v vs 0) 144) (w_ei ws (w_ar ws (n_v vs 0) 62)) (w_fi ws (n_v vs 0) 139) (w_ei ws (w_ar ws (n_v vs 0) 2)) (w_fi ws (n_v vs 0) 5) (w_fi ws (n_v vs 0) 146) (w_fi ws (n_v vs 0) 145) (w_ei ws (w_ar ws (n_v vs 0) 63)) (w_fi ws (n_v vs 0) 147) k2 k6 k9 k10 k11 k12 k13 k14 k15 k16 k17 k18 k20 k21 g0 g4 (shm_14 f5) g6 (shm_14 f9) (shm_12 f10) (shm_685 f11) (shm_735 f12) (shm_38 f13) (shm_14 f14) (shm_687 f15) (shm_735 f16) (shm_1970 f20) (shm_1651 f22) (shm_1403 f23) kz_0_139 kz_0_144 kz_0_145 kz_0_146 kz_0_147)⟩
  refine ⟨(fun _ h => (by cases h)), [], trivial, ?_, (fun _ h => (by cases h))⟩
  rw [List.append_nil]
  exact List.forall_mem_cons.mpr ⟨⟨show (20 : Nat) < 100 from by decide, nf0⟩, (fun _ h => (by cases h))⟩
set_option maxHeartbeats 4000000 in
theorem vc_Mo_route_25_0 (wide_0 : Int) (tall_0 : Int) (f24 : (1 ≤ wide_0) ∧ ((1 ≤ tall_0) ∧ ((wide_0 * tall_0) ≤ 6000))) (kz_0_146 : (-3999999) ≤ wide_0 ∧ wide_0 ≤ 600000023) (kz_0_147 : (-3999999) ≤ tall_0 ∧ tall_0 ≤ 600000007) : GRX (wide_0) (tall_0) := by
  first | assumption
set_option maxHeartbeats 4000000 in
theorem vc_Mo_route_25_1 (x2 : Int) (x6 : Int) (x11 : Int) (x17 : Int) (x19 : Int) (x20 : Int) (x21 : Int) (x22 : Int) (x23 : Int) (x24 : Int) (x25 : Int) (x26 : Int) (wide_0 : Int) (tall_0 : Int) (left0_0 : Int) (nodeX_0 : Int → Int) (g0_0 : Int) (all_0 : Int → Int) (r_0 : Int) (top0_0 : Int) (nodeY_0 : Int → Int) (k2 : 0 ≤ x2 ∧ x2 ≤ 47) (k6 : 1 ≤ x6 ∧ x6 ≤ 6000) (k11 : (-300000003) ≤ x11 ∧ x11 ≤ 2000000) (k17 : (-300000011) ≤ x17 ∧ x17 ≤ 2000000) (k19 : 0 ≤ x19 ∧ x19 ≤ 23) (k20 : (-300000000) ≤ x20 ∧ x20 ≤ 300000000) (k21 : 0 ≤ x21 ∧ x21 ≤ 5999) (k22 : 0 ≤ x22 ∧ x22 ≤ 35994000) (k23 : 0 ≤ x23 ∧ x23 ≤ 23) (k24 : (-300000000) ≤ x24 ∧ x24 ≤ 300000000) (k25 : (-300000000) ≤ x25 ∧ x25 ≤ 335994000) (k26 : 0 ≤ x26 ∧ x26 ≤ 5999) (f1 : x26 = x25 - x17) (g2 : x17 = left0_0) (f3 : x25 = x22 + x24) (f4 : x24 = nodeX_0 (((24 * g0_0) + x23))) (f5 : x23 = all_0 (((r_0 + 315) + x2))) (f6 : x22 = x21 * x6) (g7 : x6 = wide_0) (f8 : x21 = x20 - x11) (g9 : x11 = top0_0) (f10 : x20 = nodeY_0 (((24 * g0_0) + x19))) (f11 : x19 = all_0 (((r_0 + 315) + x2))) (f23 : RTW (r_0) (left0_0) (top0_0) (g0_0) (wide_0) (tall_0) (all_0) (nodeX_0) (nodeY_0)) (f25 : (x2 + 1) ≤ all_0 ((r_0 + 1))) (f26 : SGR (r_0) (all_0)) (kz_0_139 : 0 ≤ g0_0 ∧ g0_0 ≤ 3) (kz_0_144 : (-300000011) ≤ left0_0 ∧ left0_0 ≤ 2000000) (kz_0_145 : (-300000003) ≤ top0_0 ∧ top0_0 ≤ 2000000) (kz_0_146 : (-3999999) ≤ wide_0 ∧ wide_0 ≤ 600000023) (kz_0_147 : (-3999999) ≤ tall_0 ∧ tall_0 ≤ 600000007) : (0 ≤ x26) ∧ ((x26 + 1) ≤ (wide_0 * tall_0)) := by
  have r := sg_end4 (a := all_0 (r_0 + 267 + x2)) (b := all_0 (r_0 + 315 + x2)) ‹SGR _ _› (by omega) (by omega) rfl rfl rfl rfl
  first
    | omega
    | exact rtw_cell2 (v := x19) (x := x24) (y := x20) (d := x21) (e := x6) (p := x22) (s := x25) ‹RTW _ _ _ _ _ _ _ _ _› (by omega) (by omega) (by rw [show x19 = x23 by omega]; assumption) (by assumption) (by omega) (by omega) (by assumption) (by omega) (by omega)
  
def o_Mo_route_25 : or_T := (323, 27, [(0, (2, 0, 0, [165])), (2, (0, 0, 47, [])), (6, (0, 1, 6000, [])), (11, (0, -300000003, 2000000, [])), (17, (0, -300000011, 2000000, [])), (19, (0, 0, 23, [])), (20, (0, -300000000, 300000000, [])), (21, (0, 0, 5999, [])), (22, (0, 0, 35994000, [])), (23, (0, 0, 23, [])), (24, (0, -300000000, 300000000, [])), (25, (0, -300000000, 335994000, [])), (26, (0, 0, 5999, []))], [(2, [26, 25, 17], []), (9, [17, 0], [144]), (1, [25, 22, 24], []), (20, [24, 0, 23], [50, 1, 1, 1139, 1062, 1, 2, 1, 0, 3, 1, 62, 4, 7, 6, 2, 0, 24, 2, 1, 139, 1, 2]), (20, [23, 0, 2], [50, 1, 1, 1005, 1002, 1, 2, 1, 0, 3, 1, 2, 4, 7, 4, 3, 2, 1, 5, 0, 315, 1, 2]), (3, [22, 21, 6], []), (9, [6, 0], [146]), (2, [21, 20, 11], []), (9, [11, 0], [145]), (20, [20, 0, 19], [50, 1, 1, 1139, 1063, 1, 2, 1, 0, 3, 1, 63, 4, 7, 6, 2, 0, 24, 2, 1, 139, 1, 2]), (20, [19, 0, 2], [50, 1, 1, 1005, 1002, 1, 2, 1, 0, 3, 1, 2, 4, 7, 4, 3, 2, 1, 5, 0, 315, 1, 2]), (20, [0], [60, 6, 3, 390, 5, 144, 145, 139, 146, 147, 2, 62, 63]), (20, [0], [50, 2, 0, 146, 147, 2, 7, 0, 2, 0, 1, 2, 0, 146, 2, 7, 0, 2, 0, 1, 2, 0, 147, 0, 8, 6, 3, 2, 0, 146, 2, 0, 147, 0, 6000]), (20, [2, 0], [50, 1, 1, 1005, 1002, 0, 6, 4, 2, 1, 0, 0, 1, 3, 1, 2, 4, 3, 2, 1, 5, 0, 1]), (20, [0], [60, 1, 1, 197, 5, 2])], [], [], [(20, [0], [60, 2, 0, 494, 146, 147]), (20, [26, 0], [50, 2, 0, 1146, 1147, 2, 6, 0, 2, 0, 0, 1, 0, 0, 6, 4, 2, 1, 0, 0, 1, 6, 3, 2, 1, 146, 2, 1, 147])], [], [])
theorem oo_Mo_route_25 {kA : Nat → ClassId} : or_ok PRD kA GG o_Mo_route_25 := by
  refine or_mk fun A ta ws vs hD hth hl => ?_
  intro t0 r0 t2 k2 t6 k6 t11 k11 t17 k17 t19 k19 t20 k20 t21 k21 t22 k22 t23 k23 t24 k24 t25 k25 t26 k26 f1 f2 f3 f4 f5 f6 f7 f8 f9 f10 f11 f23 f24 f25 f26
  replace f2 := shm_1969 f2
  replace f7 := shm_1254 f7
  replace f9 := shm_1968 f9
  have g2 : v_iv (n_v vs 17) = w_fi ws (n_v vs 0) 144 := congrArg v_iv f2
  have g7 : v_iv (n_v vs 6) = w_fi ws (n_v vs 0) 146 := congrArg v_iv f7
  have g9 : v_iv (n_v vs 11) = w_fi ws (n_v vs 0) 145 := congrArg v_iv f9
  have kz_0_139 := fdq_171 hD hth r0
  have kz_0_144 := fdq_316 hD hth r0
  have kz_0_145 := fdq_317 hD hth r0
  have kz_0_146 := fdq_178 hD hth r0
  have kz_0_147 := fdq_179 hD hth r0
  have nf0 : fc_1 PRD (20, [0], [60, 2, 0, 494, 146, 147]) ws (vs) := ⟨nf_in hl rfl, sgq_1255 (vc_Mo_route_25_0 (w_fi ws (n_v vs 0) 146) (w_fi ws (n_v vs 0) 147) (shm_1971 f24) kz_0_146 kz_0_147)⟩
  have nf1 : fc_1 PRD (20, [26, 0], [50, 2, 0, 1146, 1147, 2, 6, 0, 2, 0, 0, 1, 0, 0, 6, 4, 2, 1, 0, 0, 1, 6, 3, 2, 1, 146, 2, 1, 147]) ws (vs) := ⟨nf_in hl rfl, sgq_1256 (vc_Mo_route_25_1 (v_iv (n_v vs 2)) (v_iv (n_v vs 6)) (v_iv (n_v vs 11)) (v_iv (n_v vs 17)) (v_iv (n_v vs 19)) (v_iv (n_v vs 20)) (v_iv (n_v vs 21)) (v_iv (n_v vs 22)) (v_iv (n_v vs 23)) (v_iv (n_v vs 24)) (v_iv (n_v vs 25)) (v_iv (n_v vs 26)) (w_fi ws (n_v vs 0) 146) (w_fi ws (n_v vs 0) 147) (w_fi ws (n_v vs 0) 144) (w_ei ws (w_ar ws (n_v vs 0) 62)) (w_fi ws (n_v vs 0) 139) (w_ei ws (w_ar ws (n_v vs 0) 2)) (w_fi ws (n_v vs 0) 5) (w_fi ws (n_v vs 0) 145) (w_ei ws (w_ar ws (n_v vs 0) 63)) k2 k6 k11 k17 k19 k20 k21 k22 k23 k24 k25 k26 (shm_14 f1) g2 (shm_12 f3) (shm_685 f4) (shm_591 f5) (shm_38 f6) g7 (shm_14 f8) g9 (shm_687 f10) (shm_591 f11) (shm_1970 f23) (shm_1651 f25) (shm_1403 f26) kz_0_139 kz_0_144 kz_0_145 kz_0_146 kz_0_147)⟩
  refine ⟨(fun _ h => (by cases h)), [], trivial, ?_, (fun _ h => (by cases h))⟩
  rw [List.append_nil]
  exact List.forall_mem_cons.mpr ⟨⟨show (20 : Nat) < 100 from by decide, nf0⟩, List.forall_mem_cons.mpr ⟨⟨show (20 : Nat) < 100 from by decide, nf1⟩, (fun _ h => (by cases h))⟩⟩
set_option maxHeartbeats 4000000 in
theorem vc_Mo_route_26_r0 (x5 : Int) (x6 : Int) (x7 : Int) (x8 : Int) (tall_0 : Int) (wide_0 : Int) (k5 : 0 ≤ x5 ∧ x5 ≤ 6000) (k6 : 1 ≤ x6 ∧ x6 ≤ 6000) (k7 : 1 ≤ x7 ∧ x7 ≤ 6000) (k8 : 1 ≤ x8 ∧ x8 ≤ 36000000) (d0 : x8 + (-4294967296) ≤ x5 ∧ x5 ≤ x8 + (-1)) (f1 : x8 = x6 * x7) (g2 : x7 = tall_0) (g3 : x6 = wide_0) (f5 : (1 ≤ wide_0) ∧ ((1 ≤ tall_0) ∧ ((wide_0 * tall_0) ≤ 6000))) (kz_0_146 : (-3999999) ≤ wide_0 ∧ wide_0 ≤ 600000023) (kz_0_147 : (-3999999) ≤ tall_0 ∧ tall_0 ≤ 600000007) : 0 ≤ x5 ∧ x5 ≤ 5999 := by
  have e : x8 = wide_0 * tall_0 := by rw [← ‹x6 = wide_0›, ← ‹x7 = tall_0›]; assumption
  omega
def o_Mo_route_26 : or_T := (206, 9, [(0, (2, 0, 0, [165])), (2, (0, 0, 47, [])), (5, (0, 0, 6000, [])), (6, (0, 1, 6000, [])), (7, (0, 1, 6000, [])), (8, (0, 1, 36000000, []))], [(7, [5, 8], [2]), (3, [8, 6, 7], []), (9, [7, 0], [147]), (9, [6, 0], [146]), (20, [0], [60, 6, 3, 390, 5, 144, 145, 139, 146, 147, 2, 62, 63]), (20, [0], [50, 2, 0, 146, 147, 2, 7, 0, 2, 0, 1, 2, 0, 146, 2, 7, 0, 2, 0, 1, 2, 0, 147, 0, 8, 6, 3, 2, 0, 146, 2, 0, 147, 0, 6000]), (20, [2, 0], [50, 1, 1, 1005, 1002, 0, 6, 4, 2, 1, 0, 0, 1, 3, 1, 2, 4, 3, 2, 1, 5, 0, 1]), (20, [0], [60, 1, 1, 197, 5, 2])], [(5, (0, 0, 5999, []))], [], [], [], [(5, 8, -4294967296, -1)])
theorem oo_Mo_route_26 {kA : Nat → ClassId} : or_ok PRD kA GG o_Mo_route_26 := by
  refine or_mk fun A ta ws vs hD hth hl => ?_
  intro t0 r0 t2 k2 t5 k5 t6 k6 t7 k7 t8 k8 d0 f0 f1 f2 f3 f4 f5 f6 f7
  replace f2 := shm_1259 f2
  replace f3 := shm_1254 f3
  have g2 : v_iv (n_v vs 7) = w_fi ws (n_v vs 0) 147 := congrArg v_iv f2
  have g3 : v_iv (n_v vs 6) = w_fi ws (n_v vs 0) 146 := congrArg v_iv f3
  have kz_0_146 := fdq_178 hD hth r0
  have kz_0_147 := fdq_179 hD hth r0
  have hrf0 : 0 ≤ v_iv (n_v vs 5) ∧ v_iv (n_v vs 5) ≤ 5999 := vc_Mo_route_26_r0 (v_iv (n_v vs 5)) (v_iv (n_v vs 6)) (v_iv (n_v vs 7)) (v_iv (n_v vs 8)) (w_fi ws (n_v vs 0) 147) (w_fi ws (n_v vs 0) 146) k5 k6 k7 k8 d0 (shm_38 f1) g2 g3 (shm_1971 f5) kz_0_146 kz_0_147
  have rf5 : tv_ok ta (0, 0, 5999, []) (n_v vs 5) := tv_in t5 (by first | omega | grind) (by first | omega | grind)
  refine ⟨List.forall_mem_cons.mpr ⟨rf5, (fun _ h => (by cases h))⟩, [], trivial, ?_, (fun _ h => (by cases h))⟩
  rw [List.append_nil]
  exact (fun _ h => (by cases h))
def t_Mo_route_ct : ct_L := [(0, 387, e_Mo_in), (0, 547, e_Mo_min), (0, 855, e_Mo_max), (1, 394, e_Mo_tail), (1, 398, e_Mo_head), (1, 401, e_Mo_edges), (1, 475, e_Mo_nodes), (1, 478, e_Mo_longOf), (1, 1023, e_Mo_px), (1, 1029, e_Mo_py), (1, 1032, e_Mo_isDrawn), (1, 1051, e_Mo_isBarred), (1, 1054, e_Mo_spread), (1, 1057, e_Mo_bendsBecome)]
def n_Mo_route_a0 : an_T := (50, [(0, (2, 0, 0, [165])), (1, (0, (Int.negSucc 2147483647), 2147483647, [])), (2, (0, 0, 47, [])), (3, (0, (Int.negSucc 1999999), 300000011, [])), (4, (0, (Int.negSucc 1999999), 300000003, [])), (5, (0, 0, 24, []))], [], (0, 0), [(0, 0, 99950), (1, 5, 24), (0, 0, 100000)], [(3, 5, (Int.negSucc 999999999999), 300000010), (4, 5, (Int.negSucc 999999999999), 300000002)], [((0, 144), (0, (Int.negSucc 300000010), 2000000, [])), ((0, 145), (0, (Int.negSucc 300000002), 2000000, []))], [], 0, [], [(20, [0], [60, 1, 1, 197, 5, 2]), (20, [2, 0], [50, 1, 1, 1005, 1002, 0, 6, 4, 2, 1, 0, 0, 1, 3, 1, 2, 4, 3, 2, 1, 5, 0, 1]), (20, [0, 3, 4, 5], [60, 3, 2, 389, 144, 145, 139, 62, 63])])
def n_Mo_route_a1 : an_T := (192, [(0, (2, 0, 0, [165])), (1, (0, (Int.negSucc 2147483647), 2147483647, [])), (2, (0, 0, 47, [])), (3, (0, (Int.negSucc 1999999), 300000011, [])), (4, (0, (Int.negSucc 1999999), 300000003, [])), (5, (0, 0, 6000, []))], [], (0, 0), [(0, 0, 99808), (1, 5, 6000), (0, 0, 100000)], [], [], [], 0, [], [(20, [0], [60, 6, 3, 390, 5, 144, 145, 139, 146, 147, 2, 62, 63]), (20, [0], [50, 2, 0, 146, 147, 2, 7, 0, 2, 0, 1, 2, 0, 146, 2, 7, 0, 2, 0, 1, 2, 0, 147, 0, 8, 6, 3, 2, 0, 146, 2, 0, 147, 0, 6000]), (20, [2, 0], [50, 1, 1, 1005, 1002, 0, 6, 4, 2, 1, 0, 0, 1, 3, 1, 2, 4, 3, 2, 1, 5, 0, 1]), (20, [0], [60, 1, 1, 197, 5, 2])])
def n_Mo_route_an : List an_T := [n_Mo_route_a0, n_Mo_route_a1]
def x_Mo_route_ft : ft_L := [(327, 13, 143), (1037, 13, 144), (1040, 13, 145), (1043, 13, 146), (1046, 13, 147)]
def x_Mo_route_pt : pt_L := [(1037, 13, 144, .int), (1040, 13, 145, .int), (1043, 13, 146, .int), (1046, 13, 147, .int)]
def x_Mo_route_kt : kt_L := [(1, 1035, .int (Int32.ofInt (-2000000)), (0, -2000000, -2000000, [])), (1, 1036, .int (2000000), (0, 2000000, 2000000, [])), (2, 1049, .long (6000), (1, 6000, 6000, []))]
def x_Mo_route_nt : nt_L := []
def x_Mo_route_ot : List or_T := [o_Mo_route_0, o_Mo_route_1, o_Mo_route_2, o_Mo_route_3, o_Mo_route_4, o_Mo_route_5, o_Mo_route_6, o_Mo_route_7, o_Mo_route_8, o_Mo_route_9, o_Mo_route_10, o_Mo_route_11, o_Mo_route_12, o_Mo_route_13, o_Mo_route_14, o_Mo_route_15, o_Mo_route_16, o_Mo_route_17, o_Mo_route_18, o_Mo_route_19, o_Mo_route_20, o_Mo_route_21, o_Mo_route_22, o_Mo_route_23, o_Mo_route_24, o_Mo_route_25, o_Mo_route_26]
set_option maxRecDepth 100000 in
theorem g_Mo_route_0 : chk_an b_Mo_route 7 (some .int) e_Mo_route GG x_Mo_route_ft x_Mo_route_pt t_Mo_route_ct x_Mo_route_kt x_Mo_route_nt n_Mo_route_an x_Mo_route_ot 3 1364 n_Mo_route_a0 = true := by decide +kernel
set_option maxRecDepth 100000 in
theorem g_Mo_route_1 : chk_an b_Mo_route 7 (some .int) e_Mo_route GG x_Mo_route_ft x_Mo_route_pt t_Mo_route_ct x_Mo_route_kt x_Mo_route_nt n_Mo_route_an x_Mo_route_ot 3 1364 n_Mo_route_a1 = true := by decide +kernel
set_option maxRecDepth 100000 in
theorem g_Mo_route_s : chk b_Mo_route 7 (some .int) e_Mo_route GG x_Mo_route_ft x_Mo_route_pt t_Mo_route_ct x_Mo_route_kt x_Mo_route_nt n_Mo_route_an x_Mo_route_ot 100000 (List.replicate 3 me_0) 1364 true (0, en_y e_Mo_route, 0, 0, an_fs x_Mo_route_ot e_Mo_route.2.2.2.2.2.2.2.2.2.2.1) = true := by decide +kernel
set_option maxRecDepth 100000 in
theorem c_Mo_route {l : Launch} {D : va_G} {kA : Nat → ClassId} (h_Mo_bendsBecome : ct_ok PRD l D kA GG y_Mo_bendsBecome z_Mo_bendsBecome e_Mo_bendsBecome) (h_Mo_edges : ct_ok PRD l D kA GG y_Mo_edges z_Mo_edges e_Mo_edges) (h_Mo_head : ct_ok PRD l D kA GG y_Mo_head z_Mo_head e_Mo_head) (h_Mo_in : ct_ok PRD l D kA GG y_Mo_in z_Mo_in e_Mo_in) (h_Mo_isBarred : ct_ok PRD l D kA GG y_Mo_isBarred z_Mo_isBarred e_Mo_isBarred) (h_Mo_isDrawn : ct_ok PRD l D kA GG y_Mo_isDrawn z_Mo_isDrawn e_Mo_isDrawn) (h_Mo_longOf : ct_ok PRD l D kA GG y_Mo_longOf z_Mo_longOf e_Mo_longOf) (h_Mo_max : ct_ok PRD l D kA GG y_Mo_max z_Mo_max e_Mo_max) (h_Mo_min : ct_ok PRD l D kA GG y_Mo_min z_Mo_min e_Mo_min) (h_Mo_nodes : ct_ok PRD l D kA GG y_Mo_nodes z_Mo_nodes e_Mo_nodes) (h_Mo_px : ct_ok PRD l D kA GG y_Mo_px z_Mo_px e_Mo_px) (h_Mo_py : ct_ok PRD l D kA GG y_Mo_py z_Mo_py e_Mo_py) (h_Mo_spread : ct_ok PRD l D kA GG y_Mo_spread z_Mo_spread e_Mo_spread) (h_Mo_tail : ct_ok PRD l D kA GG y_Mo_tail z_Mo_tail e_Mo_tail) : ct_ok PRD l D kA GG y_Mo_route z_Mo_route e_Mo_route := chk_all_ok (FT := [(327, 13, 143), (1037, 13, 144), (1040, 13, 145), (1043, 13, 146), (1046, 13, 147)]) (PT := [(1037, 13, 144, .int), (1040, 13, 145, .int), (1043, 13, 146, .int), (1046, 13, 147, .int)]) (CT := t_Mo_route_ct) (KT := [(1, 1035, .int (Int32.ofInt (-2000000)), (0, -2000000, -2000000, [])), (1, 1036, .int (2000000), (0, 2000000, 2000000, [])), (2, 1049, .long (6000), (1, 6000, 6000, []))]) (NT := []) (AN := n_Mo_route_an) (OT := [o_Mo_route_0, o_Mo_route_1, o_Mo_route_2, o_Mo_route_3, o_Mo_route_4, o_Mo_route_5, o_Mo_route_6, o_Mo_route_7, o_Mo_route_8, o_Mo_route_9, o_Mo_route_10, o_Mo_route_11, o_Mo_route_12, o_Mo_route_13, o_Mo_route_14, o_Mo_route_15, o_Mo_route_16, o_Mo_route_17, o_Mo_route_18, o_Mo_route_19, o_Mo_route_20, o_Mo_route_21, o_Mo_route_22, o_Mo_route_23, o_Mo_route_24, o_Mo_route_25, o_Mo_route_26]) 3 1364 (List.forall_mem_cons.mpr ⟨oo_Mo_route_0, List.forall_mem_cons.mpr ⟨oo_Mo_route_1, List.forall_mem_cons.mpr ⟨oo_Mo_route_2, List.forall_mem_cons.mpr ⟨oo_Mo_route_3, List.forall_mem_cons.mpr ⟨oo_Mo_route_4, List.forall_mem_cons.mpr ⟨oo_Mo_route_5, List.forall_mem_cons.mpr ⟨oo_Mo_route_6, List.forall_mem_cons.mpr ⟨oo_Mo_route_7, List.forall_mem_cons.mpr ⟨oo_Mo_route_8, List.forall_mem_cons.mpr ⟨oo_Mo_route_9, List.forall_mem_cons.mpr ⟨oo_Mo_route_10, List.forall_mem_cons.mpr ⟨oo_Mo_route_11, List.forall_mem_cons.mpr ⟨oo_Mo_route_12, List.forall_mem_cons.mpr ⟨oo_Mo_route_13, List.forall_mem_cons.mpr ⟨oo_Mo_route_14, List.forall_mem_cons.mpr ⟨oo_Mo_route_15, List.forall_mem_cons.mpr ⟨oo_Mo_route_16, List.forall_mem_cons.mpr ⟨oo_Mo_route_17, List.forall_mem_cons.mpr ⟨oo_Mo_route_18, List.forall_mem_cons.mpr ⟨oo_Mo_route_19, List.forall_mem_cons.mpr ⟨oo_Mo_route_20, List.forall_mem_cons.mpr ⟨oo_Mo_route_21, List.forall_mem_cons.mpr ⟨oo_Mo_route_22, List.forall_mem_cons.mpr ⟨oo_Mo_route_23, List.forall_mem_cons.mpr ⟨oo_Mo_route_24, List.forall_mem_cons.mpr ⟨oo_Mo_route_25, List.forall_mem_cons.mpr ⟨oo_Mo_route_26, List.forall_mem_nil _⟩⟩⟩⟩⟩⟩⟩⟩⟩⟩⟩⟩⟩⟩⟩⟩⟩⟩⟩⟩⟩⟩⟩⟩⟩⟩⟩) (by decide +kernel) ⟨List.forall_mem_cons.mpr ⟨gf_Mo_327, List.forall_mem_cons.mpr ⟨gf_Mo_1037, List.forall_mem_cons.mpr ⟨gf_Mo_1040, List.forall_mem_cons.mpr ⟨gf_Mo_1043, List.forall_mem_cons.mpr ⟨gf_Mo_1046, List.forall_mem_nil _⟩⟩⟩⟩⟩, List.forall_mem_cons.mpr ⟨pf_Mo_1037, List.forall_mem_cons.mpr ⟨pf_Mo_1040, List.forall_mem_cons.mpr ⟨pf_Mo_1043, List.forall_mem_cons.mpr ⟨pf_Mo_1046, List.forall_mem_nil _⟩⟩⟩⟩, List.forall_mem_cons.mpr ⟨cl_static (y := y_Mo_in) h_Mo_in wm_2971 wm_9 wm_2969 wm_2970 ⟨by decide, by decide, by decide +kernel⟩ (by decide), List.forall_mem_cons.mpr ⟨cl_static (y := y_Mo_min) h_Mo_min wm_3174 wm_9 wm_3172 wm_3173 ⟨by decide, by decide, by decide +kernel⟩ (by decide), List.forall_mem_cons.mpr ⟨cl_static (y := y_Mo_max) h_Mo_max wm_3430 wm_9 wm_3428 wm_3429 ⟨by decide, by decide, by decide +kernel⟩ (by decide), List.forall_mem_cons.mpr ⟨cl_virtual (y := y_Mo_tail) (ci := 13) rfl rfl ⟨_, _, rfl⟩ (by decide +kernel) h_Mo_tail wm_3045 wm_9 wm_3042 wm_3044 wv_13_8 ⟨by decide, by decide, by decide +kernel⟩ (by decide), List.forall_mem_cons.mpr ⟨cl_virtual (y := y_Mo_head) (ci := 13) rfl rfl ⟨_, _, rfl⟩ (by decide +kernel) h_Mo_head wm_3049 wm_9 wm_3046 wm_3048 wv_13_9 ⟨by decide, by decide, by decide +kernel⟩ (by decide), List.forall_mem_cons.mpr ⟨cl_virtual (y := y_Mo_edges) (ci := 13) rfl rfl ⟨_, _, rfl⟩ (by decide +kernel) h_Mo_edges wm_3037 wm_9 wm_3034 wm_3036 wv_13_6 ⟨by decide, by decide, by decide +kernel⟩ (by decide), List.forall_mem_cons.mpr ⟨cl_virtual (y := y_Mo_nodes) (ci := 13) rfl rfl ⟨_, _, rfl⟩ (by decide +kernel) h_Mo_nodes wm_3025 wm_9 wm_3022 wm_3024 wv_13_3 ⟨by decide, by decide, by decide +kernel⟩ (by decide), List.forall_mem_cons.mpr ⟨cl_virtual (y := y_Mo_longOf) (ci := 13) rfl rfl ⟨_, _, rfl⟩ (by decide +kernel) h_Mo_longOf wm_3029 wm_9 wm_3026 wm_3028 wv_13_4 ⟨by decide, by decide, by decide +kernel⟩ (by decide), List.forall_mem_cons.mpr ⟨cl_virtual (y := y_Mo_px) (ci := 13) rfl rfl ⟨_, _, rfl⟩ (by decide +kernel) h_Mo_px wm_3675 wm_9 wm_3672 wm_3674 wv_21_14 ⟨by decide, by decide, by decide +kernel⟩ (by decide), List.forall_mem_cons.mpr ⟨cl_virtual (y := y_Mo_py) (ci := 13) rfl rfl ⟨_, _, rfl⟩ (by decide +kernel) h_Mo_py wm_3679 wm_9 wm_3676 wm_3678 wv_21_15 ⟨by decide, by decide, by decide +kernel⟩ (by decide), List.forall_mem_cons.mpr ⟨cl_virtual (y := y_Mo_isDrawn) (ci := 13) rfl rfl ⟨_, _, rfl⟩ (by decide +kernel) h_Mo_isDrawn wm_3669 wm_9 wm_3666 wm_3668 wv_21_13 ⟨by decide, by decide, by decide +kernel⟩ (by decide), List.forall_mem_cons.mpr ⟨cl_virtual (y := y_Mo_isBarred) (ci := 13) rfl rfl ⟨_, _, rfl⟩ (by decide +kernel) h_Mo_isBarred wm_3684 wm_9 wm_3681 wm_3683 wv_22_0 ⟨by decide, by decide, by decide +kernel⟩ (by decide), List.forall_mem_cons.mpr ⟨cl_virtual (y := y_Mo_spread) (ci := 13) rfl rfl ⟨_, _, rfl⟩ (by decide +kernel) h_Mo_spread wm_3692 wm_9 wm_3689 wm_3691 wv_22_2 ⟨by decide, by decide, by decide +kernel⟩ (by decide), List.forall_mem_cons.mpr ⟨cl_virtual (y := y_Mo_bendsBecome) (ci := 13) rfl rfl ⟨_, _, rfl⟩ (by decide +kernel) h_Mo_bendsBecome wm_3710 wm_9 wm_3707 wm_3709 wv_22_5 ⟨by decide, by decide, by decide +kernel⟩ (by decide), List.forall_mem_nil _⟩⟩⟩⟩⟩⟩⟩⟩⟩⟩⟩⟩⟩⟩, List.forall_mem_cons.mpr ⟨kx_Mo_1_1035, List.forall_mem_cons.mpr ⟨kx_Mo_1_1036, List.forall_mem_cons.mpr ⟨⟨kt_mk2 wm_3680, fun _ => Or.inr (Or.inl ⟨rfl, _, rfl, by decide, by decide⟩)⟩, List.forall_mem_nil _⟩⟩⟩, List.forall_mem_nil _, GG_pl⟩ (chk_mk (by decide +kernel) (List.forall_mem_cons.mpr ⟨g_Mo_route_0, List.forall_mem_cons.mpr ⟨g_Mo_route_1, List.forall_mem_nil _⟩⟩) g_Mo_route_s)
def o_Ho_change_0 : or_T := (31, 10, [(1, (0, 0, 3, [])), (6, (2, 0, 0, [131])), (7, (2, 0, 0, [3])), (9, (2, 0, 0, [3]))], [(14, [9, 6, 1], []), (102, [7], [381944245562716141175333566576758405197150323812363046994276334253946493705625632409387008]), (14, [7, 6, 1], [])], [], [], [(24, [7, 9], [])], [], [])
theorem oo_Ho_change_0 {kA : Nat → ClassId} : or_ok PRD kA GG o_Ho_change_0 := by
  refine or_mk fun A ta ws vs hD hth hl => ?_
  intro t1 k1 t6 r6 t7 r7 t9 r9 f0 ta1 w1 le1 s1 f2
  replace f0 := shm_779 f0
  replace s1 := s1.2
  replace f2 := shm_779 f2
  have nf0 : fc_1 PRD (24, [7, 9], []) ws (vs) := by
    refine ⟨nf_in hl rfl, sgq_5 ?_⟩
    · show n_v vs 7 = n_v vs 9
      obtain ⟨a7, _, e7, _⟩ := tv_ref t7 rfl
      obtain ⟨a9, _, e9, _⟩ := tv_ref t9 rfl
      obtain ⟨a6, _, e6, _⟩ := tv_ref t6 rfl
      obtain ⟨r1, hr1⟩ := Option.isSome_iff_exists.mp (s1.2.2.1 7 List.mem_cons_self 6 (by decide) a6 e6)
      have h6 : ta a6 = some 131 := by have z := r6; rw [e6] at z; exact z
      have er : r1 = 131 := by have z := le1 a6 r1 hr1; rw [h6] at z; exact (Option.some.inj z).symm
      subst er
      have hz := s1.1 a6 131 hr1 (by decide) (v_iv (n_v vs 1)).toNat
      have z9 := f0; have z7 := f2
      rw [e9, e6] at z9; rw [e7, e6] at z7
      have z9 : ((a9 : Nat) : Int) = w_el ws a6 (v_iv (n_v vs 1)).toNat := z9
      have z7 : ((a7 : Nat) : Int) = w_el w1 a6 (v_iv (n_v vs 1)).toNat := z7
      rw [hz, ← z7] at z9
      rw [e7, e9, show a7 = a9 from by omega]
  refine ⟨(fun _ h => (by cases h)), [], trivial, ?_, (fun _ h => (by cases h))⟩
  rw [List.append_nil]
  exact List.forall_mem_cons.mpr ⟨⟨show (24 : Nat) < 100 from by decide, nf0⟩, (fun _ h => (by cases h))⟩
set_option maxHeartbeats 4000000 in
theorem vc_Ho_change_1_1 (x1 : Int) (x2 : Int) (x3 : Int) (x4 : Int) (x8 : Int) (groups_0o7 : Int) (nodes_0o7 : Int) (edges_0o7 : Int) (gy : Int) (k1 : 0 ≤ x1 ∧ x1 ≤ 3) (k2 : (-2147483648) ≤ x2 ∧ x2 ≤ 2147483647) (k3 : (-2147483648) ≤ x3 ∧ x3 ≤ 2147483647) (k4 : (-2147483648) ≤ x4 ∧ x4 ≤ 2147483647) (k8 : 1 ≤ x8 ∧ x8 ≤ 1) (f5 : (x8 = 1) → (((x2 = 0) ∧ ((0 ≤ x3) ∧ (((x3 + 1) ≤ groups_0o7) ∧ (nodes_0o7 ≤ 23)))) ∨ (((x2 = 1) ∧ ((0 ≤ x3) ∧ (((x3 + 1) ≤ nodes_0o7) ∧ ((0 ≤ x4) ∧ (((x4 + 1) ≤ nodes_0o7) ∧ ((edges_0o7 ≤ 47) ∧ (((x3 + 1) ≤ x4) ∨ ((x4 + 1) ≤ x3)))))))) ∨ (((x2 = 2) ∧ ((0 ≤ x3) ∧ ((x3 + 1) ≤ edges_0o7))) ∨ (((x2 = 3) ∧ ((0 ≤ x3) ∧ ((x3 + 1) ≤ nodes_0o7))) ∨ (((x2 = 4) ∧ ((0 ≤ x3) ∧ (((x3 + 1) ≤ nodes_0o7) ∧ ((1 ≤ x4) ∧ (x4 ≤ 99))))) ∨ (((x2 = 5) ∧ ((0 ≤ x3) ∧ (((x3 + 1) ≤ edges_0o7) ∧ ((1 ≤ x4) ∧ (x4 ≤ 9))))) ∨ (((x2 = 6) ∧ ((0 ≤ x3) ∧ (((x3 + 1) ≤ nodes_0o7) ∧ ((0 ≤ x4) ∧ ((x4 + 1) ≤ groups_0o7))))) ∨ ((x2 = 7) ∧ ((0 ≤ x3) ∧ (((x3 + 1) ≤ edges_0o7) ∧ ((0 ≤ x4) ∧ (x4 ≤ 1))))))))))))) (kz_7_0 : 0 ≤ nodes_0o7 ∧ nodes_0o7 ≤ 24) (kz_7_1 : 0 ≤ edges_0o7 ∧ edges_0o7 ≤ 48) (kz_7_2 : 0 ≤ groups_0o7 ∧ groups_0o7 ≤ 8) (ey2 : gy = x1) : 1 * gy + ((-1) * x1 + 0) ≤ 0 := by
  first
    | (clear f5; omega)
    | exact f5 (by clear f5; omega)
    | (clear f4; omega)
    | exact f4 (by clear f4; omega)
    | (clear f6; omega)
    | exact f6 (by clear f6; omega)
set_option maxHeartbeats 4000000 in
theorem vc_Ho_change_1_2 (x1 : Int) (x2 : Int) (x3 : Int) (x4 : Int) (x8 : Int) (groups_0o7 : Int) (nodes_0o7 : Int) (edges_0o7 : Int) (gy : Int) (k1 : 0 ≤ x1 ∧ x1 ≤ 3) (k2 : (-2147483648) ≤ x2 ∧ x2 ≤ 2147483647) (k3 : (-2147483648) ≤ x3 ∧ x3 ≤ 2147483647) (k4 : (-2147483648) ≤ x4 ∧ x4 ≤ 2147483647) (k8 : 1 ≤ x8 ∧ x8 ≤ 1) (f5 : (x8 = 1) → (((x2 = 0) ∧ ((0 ≤ x3) ∧ (((x3 + 1) ≤ groups_0o7) ∧ (nodes_0o7 ≤ 23)))) ∨ (((x2 = 1) ∧ ((0 ≤ x3) ∧ (((x3 + 1) ≤ nodes_0o7) ∧ ((0 ≤ x4) ∧ (((x4 + 1) ≤ nodes_0o7) ∧ ((edges_0o7 ≤ 47) ∧ (((x3 + 1) ≤ x4) ∨ ((x4 + 1) ≤ x3)))))))) ∨ (((x2 = 2) ∧ ((0 ≤ x3) ∧ ((x3 + 1) ≤ edges_0o7))) ∨ (((x2 = 3) ∧ ((0 ≤ x3) ∧ ((x3 + 1) ≤ nodes_0o7))) ∨ (((x2 = 4) ∧ ((0 ≤ x3) ∧ (((x3 + 1) ≤ nodes_0o7) ∧ ((1 ≤ x4) ∧ (x4 ≤ 99))))) ∨ (((x2 = 5) ∧ ((0 ≤ x3) ∧ (((x3 + 1) ≤ edges_0o7) ∧ ((1 ≤ x4) ∧ (x4 ≤ 9))))) ∨ (((x2 = 6) ∧ ((0 ≤ x3) ∧ (((x3 + 1) ≤ nodes_0o7) ∧ ((0 ≤ x4) ∧ ((x4 + 1) ≤ groups_0o7))))) ∨ ((x2 = 7) ∧ ((0 ≤ x3) ∧ (((x3 + 1) ≤ edges_0o7) ∧ ((0 ≤ x4) ∧ (x4 ≤ 1))))))))))))) (kz_7_0 : 0 ≤ nodes_0o7 ∧ nodes_0o7 ≤ 24) (kz_7_1 : 0 ≤ edges_0o7 ∧ edges_0o7 ≤ 48) (kz_7_2 : 0 ≤ groups_0o7 ∧ groups_0o7 ≤ 8) (ey2 : gy = x1) : (-1) * gy + (1 * x1 + 0) ≤ 0 := by
  first
    | (clear f5; omega)
    | exact f5 (by clear f5; omega)
    | (clear f4; omega)
    | exact f4 (by clear f4; omega)
    | (clear f6; omega)
    | exact f6 (by clear f6; omega)
set_option maxHeartbeats 4000000 in
theorem vc_Ho_change_1_4 (x2 : Int) (x3 : Int) (x4 : Int) (x8 : Int) (groups_0o7 : Int) (nodes_0o7 : Int) (edges_0o7 : Int) (k2 : (-2147483648) ≤ x2 ∧ x2 ≤ 2147483647) (k3 : (-2147483648) ≤ x3 ∧ x3 ≤ 2147483647) (k4 : (-2147483648) ≤ x4 ∧ x4 ≤ 2147483647) (k8 : 1 ≤ x8 ∧ x8 ≤ 1) (f5 : (x8 = 1) → (((x2 = 0) ∧ ((0 ≤ x3) ∧ (((x3 + 1) ≤ groups_0o7) ∧ (nodes_0o7 ≤ 23)))) ∨ (((x2 = 1) ∧ ((0 ≤ x3) ∧ (((x3 + 1) ≤ nodes_0o7) ∧ ((0 ≤ x4) ∧ (((x4 + 1) ≤ nodes_0o7) ∧ ((edges_0o7 ≤ 47) ∧ (((x3 + 1) ≤ x4) ∨ ((x4 + 1) ≤ x3)))))))) ∨ (((x2 = 2) ∧ ((0 ≤ x3) ∧ ((x3 + 1) ≤ edges_0o7))) ∨ (((x2 = 3) ∧ ((0 ≤ x3) ∧ ((x3 + 1) ≤ nodes_0o7))) ∨ (((x2 = 4) ∧ ((0 ≤ x3) ∧ (((x3 + 1) ≤ nodes_0o7) ∧ ((1 ≤ x4) ∧ (x4 ≤ 99))))) ∨ (((x2 = 5) ∧ ((0 ≤ x3) ∧ (((x3 + 1) ≤ edges_0o7) ∧ ((1 ≤ x4) ∧ (x4 ≤ 9))))) ∨ (((x2 = 6) ∧ ((0 ≤ x3) ∧ (((x3 + 1) ≤ nodes_0o7) ∧ ((0 ≤ x4) ∧ ((x4 + 1) ≤ groups_0o7))))) ∨ ((x2 = 7) ∧ ((0 ≤ x3) ∧ (((x3 + 1) ≤ edges_0o7) ∧ ((0 ≤ x4) ∧ (x4 ≤ 1))))))))))))) (kz_7_0 : 0 ≤ nodes_0o7 ∧ nodes_0o7 ≤ 24) (kz_7_1 : 0 ≤ edges_0o7 ∧ edges_0o7 ≤ 48) (kz_7_2 : 0 ≤ groups_0o7 ∧ groups_0o7 ≤ 8) : ((x2 = 0) ∧ ((0 ≤ x3) ∧ (((x3 + 1) ≤ groups_0o7) ∧ (nodes_0o7 ≤ 23)))) ∨ (((x2 = 1) ∧ ((0 ≤ x3) ∧ (((x3 + 1) ≤ nodes_0o7) ∧ ((0 ≤ x4) ∧ (((x4 + 1) ≤ nodes_0o7) ∧ ((edges_0o7 ≤ 47) ∧ (((x3 + 1) ≤ x4) ∨ ((x4 + 1) ≤ x3)))))))) ∨ (((x2 = 2) ∧ ((0 ≤ x3) ∧ ((x3 + 1) ≤ edges_0o7))) ∨ (((x2 = 3) ∧ ((0 ≤ x3) ∧ ((x3 + 1) ≤ nodes_0o7))) ∨ (((x2 = 4) ∧ ((0 ≤ x3) ∧ (((x3 + 1) ≤ nodes_0o7) ∧ ((1 ≤ x4) ∧ (x4 ≤ 99))))) ∨ (((x2 = 5) ∧ ((0 ≤ x3) ∧ (((x3 + 1) ≤ edges_0o7) ∧ ((1 ≤ x4) ∧ (x4 ≤ 9))))) ∨ (((x2 = 6) ∧ ((0 ≤ x3) ∧ (((x3 + 1) ≤ nodes_0o7) ∧ ((0 ≤ x4) ∧ ((x4 + 1) ≤ groups_0o7))))) ∨ ((x2 = 7) ∧ ((0 ≤ x3) ∧ (((x3 + 1) ≤ edges_0o7) ∧ ((0 ≤ x4) ∧ (x4 ≤ 1))))))))))) := by
  first
    | (clear f5; omega)
    | exact f5 (by clear f5; omega)
    | (clear f4; omega)
    | exact f4 (by clear f4; omega)
    | (clear f6; omega)
    | exact f6 (by clear f6; omega)
def o_Ho_change_1 : or_T := (35, 10, [(0, (2, 0, 0, [12])), (1, (0, 0, 3, [])), (2, (0, -2147483648, 2147483647, [])), (3, (0, -2147483648, 2147483647, [])), (4, (0, -2147483648, 2147483647, [])), (6, (2, 0, 0, [131])), (7, (2, 0, 0, [3])), (8, (0, 1, 1, [])), (9, (2, 0, 0, [3]))], [(24, [7, 9], []), (14, [9, 6, 1], []), (9, [6, 0], [0]), (8, [8], [1]), (20, [0], [62, 0]), (20, [8, 2, 3, 7, 4], [50, 3, 0, 3002, 3000, 3001, 4, 6, 1, 2, 1, 0, 0, 1, 3, 36, 2, 6, 1, 2, 1, 1, 0, 0, 2, 6, 0, 2, 0, 0, 1, 2, 2, 11, 0, 6, 4, 2, 1, 2, 0, 1, 2, 3, 2, 0, 3, 2, 3, 0, 0, 23, 3, 81, 2, 6, 1, 2, 1, 1, 0, 1, 2, 6, 0, 2, 0, 0, 1, 2, 2, 11, 0, 6, 4, 2, 1, 2, 0, 1, 2, 3, 0, 2, 6, 0, 2, 0, 0, 1, 4, 2, 11, 0, 6, 4, 2, 1, 4, 0, 1, 2, 3, 0, 2, 7, 0, 3, 2, 3, 1, 0, 47, 3, 10, 0, 6, 4, 2, 1, 2, 0, 1, 1, 4, 0, 6, 4, 2, 1, 4, 0, 1, 1, 2, 3, 27, 2, 6, 1, 2, 1, 1, 0, 2, 2, 6, 0, 2, 0, 0, 1, 2, 0, 6, 4, 2, 1, 2, 0, 1, 2, 3, 1, 3, 27, 2, 6, 1, 2, 1, 1, 0, 3, 2, 6, 0, 2, 0, 0, 1, 2, 0, 6, 4, 2, 1, 2, 0, 1, 2, 3, 0, 3, 43, 2, 6, 1, 2, 1, 1, 0, 4, 2, 6, 0, 2, 0, 0, 1, 2, 2, 11, 0, 6, 4, 2, 1, 2, 0, 1, 2, 3, 0, 2, 6, 0, 2, 0, 1, 1, 4, 0, 2, 1, 4, 0, 99, 3, 43, 2, 6, 1, 2, 1, 1, 0, 5, 2, 6, 0, 2, 0, 0, 1, 2, 2, 11, 0, 6, 4, 2, 1, 2, 0, 1, 2, 3, 1, 2, 6, 0, 2, 0, 1, 1, 4, 0, 2, 1, 4, 0, 9, 3, 48, 2, 6, 1, 2, 1, 1, 0, 6, 2, 6, 0, 2, 0, 0, 1, 2, 2, 11, 0, 6, 4, 2, 1, 2, 0, 1, 2, 3, 0, 2, 6, 0, 2, 0, 0, 1, 4, 0, 6, 4, 2, 1, 4, 0, 1, 2, 3, 2, 2, 6, 1, 2, 1, 1, 0, 7, 2, 6, 0, 2, 0, 0, 1, 2, 2, 11, 0, 6, 4, 2, 1, 2, 0, 1, 2, 3, 1, 2, 6, 0, 2, 0, 0, 1, 4, 0, 2, 1, 4, 0, 1])], [], [(2, 0, 0, [12]), (0, 0, 3, [])], [(24, [0, 10], []), (23, [11, 1], [0, 1, -1]), (23, [11, 1], [0, -1, 1]), (20, [10, 11, 9], [62, 71]), (20, [2, 3, 9, 4], [50, 3, 0, 2002, 2000, 2001, 3, 36, 2, 6, 1, 2, 1, 0, 0, 0, 2, 6, 0, 2, 0, 0, 1, 1, 2, 11, 0, 6, 4, 2, 1, 1, 0, 1, 2, 2, 2, 0, 3, 2, 2, 0, 0, 23, 3, 81, 2, 6, 1, 2, 1, 0, 0, 1, 2, 6, 0, 2, 0, 0, 1, 1, 2, 11, 0, 6, 4, 2, 1, 1, 0, 1, 2, 2, 0, 2, 6, 0, 2, 0, 0, 1, 3, 2, 11, 0, 6, 4, 2, 1, 3, 0, 1, 2, 2, 0, 2, 7, 0, 3, 2, 2, 1, 0, 47, 3, 10, 0, 6, 4, 2, 1, 1, 0, 1, 1, 3, 0, 6, 4, 2, 1, 3, 0, 1, 1, 1, 3, 27, 2, 6, 1, 2, 1, 0, 0, 2, 2, 6, 0, 2, 0, 0, 1, 1, 0, 6, 4, 2, 1, 1, 0, 1, 2, 2, 1, 3, 27, 2, 6, 1, 2, 1, 0, 0, 3, 2, 6, 0, 2, 0, 0, 1, 1, 0, 6, 4, 2, 1, 1, 0, 1, 2, 2, 0, 3, 43, 2, 6, 1, 2, 1, 0, 0, 4, 2, 6, 0, 2, 0, 0, 1, 1, 2, 11, 0, 6, 4, 2, 1, 1, 0, 1, 2, 2, 0, 2, 6, 0, 2, 0, 1, 1, 3, 0, 2, 1, 3, 0, 99, 3, 43, 2, 6, 1, 2, 1, 0, 0, 5, 2, 6, 0, 2, 0, 0, 1, 1, 2, 11, 0, 6, 4, 2, 1, 1, 0, 1, 2, 2, 1, 2, 6, 0, 2, 0, 1, 1, 3, 0, 2, 1, 3, 0, 9, 3, 48, 2, 6, 1, 2, 1, 0, 0, 6, 2, 6, 0, 2, 0, 0, 1, 1, 2, 11, 0, 6, 4, 2, 1, 1, 0, 1, 2, 2, 0, 2, 6, 0, 2, 0, 0, 1, 3, 0, 6, 4, 2, 1, 3, 0, 1, 2, 2, 2, 2, 6, 1, 2, 1, 0, 0, 7, 2, 6, 0, 2, 0, 0, 1, 1, 2, 11, 0, 6, 4, 2, 1, 1, 0, 1, 2, 2, 1, 2, 6, 0, 2, 0, 0, 1, 3, 0, 2, 1, 3, 0, 1])], [], [])
theorem oo_Ho_change_1 {kA : Nat → ClassId} : or_ok PRD kA GG o_Ho_change_1 := by
  refine or_mk fun A ta ws vs hD hth hl => ?_
  intro t0 r0 t1 k1 t2 k2 t3 k3 t4 k4 t6 r6 t7 r7 t8 k8 t9 r9 f0 f1 f2 f3 f4 f5
  replace f0 := shm_5 f0
  replace f1 := shm_779 f1
  replace f2 := shm_175 f2
  replace f3 := shm_154 f3
  replace f4 := shm_1145 f4
  replace f5 := shm_1693 f5
  have q9 : n_v vs 9 = n_v vs 7 := f0.symm
  simp only [q9] at f1
  have cr_0_0 := fdq_303 hD hth r0
  have ad_6 : v_ad (n_v vs 6) = w_ar ws (n_v vs 0) 0 := congrArg v_ad f2
  have kz_7_0 := fdq_23 hD hth r7
  have kz_7_1 := fdq_38 hD hth r7
  have kz_7_2 := fdq_22 hD hth r7
  obtain ⟨y, ey, hy⟩ := iv_ex (ta := ta) (lo := 0) (hi := 3) (z := v_iv (n_v vs 1)) (by omega) (by omega) (by omega) (by omega)
  have ey2 : v_iv (Value.int y) = v_iv (n_v vs 1) := ey
  have ey3 : 0 ≤ v_iv (Value.int y) ∧ v_iv (Value.int y) ≤ 3 := tv_rng hy
  have e_0 : n_v (vs ++ [n_v vs 0, Value.int y]) 0 = n_v vs 0 := n_v_old (by rw [hl]; decide)
  have e_1 : n_v (vs ++ [n_v vs 0, Value.int y]) 1 = n_v vs 1 := n_v_old (by rw [hl]; decide)
  have e_2 : n_v (vs ++ [n_v vs 0, Value.int y]) 2 = n_v vs 2 := n_v_old (by rw [hl]; decide)
  have e_3 : n_v (vs ++ [n_v vs 0, Value.int y]) 3 = n_v vs 3 := n_v_old (by rw [hl]; decide)
  have e_4 : n_v (vs ++ [n_v vs 0, Value.int y]) 4 = n_v vs 4 := n_v_old (by rw [hl]; decide)
  have e_9 : n_v (vs ++ [n_v vs 0, Value.int y]) 9 = n_v vs 9 := n_v_old (by rw [hl]; decide)
  have e_10 : n_v (vs ++ [n_v vs 0, Value.int y]) 10 = n_v vs 0 := n_v_new0 hl
  have e_11 : n_v (vs ++ [n_v vs 0, Value.int y]) 11 = Value.int y := n_v_new1 hl
  have nf0 : fc_1 PRD (24, [0, 10], []) ws (vs ++ [n_v vs 0, Value.int y]) := by
    refine ⟨nf_inA hl rfl, sgq_5 ?_⟩
    · show n_v (vs ++ [n_v vs 0, Value.int y]) 0 = n_v (vs ++ [n_v vs 0, Value.int y]) 10
      first | rfl | simp only [e_0, e_10, q9]
  have nf1 : fc_1 PRD (23, [11, 1], [0, 1, -1]) ws (vs ++ [n_v vs 0, Value.int y]) := by
    refine ⟨nf_inA hl rfl, sgq_7 ?_⟩
    · show 1 * v_iv (n_v (vs ++ [n_v vs 0, Value.int y]) 11) + ((-1) * v_iv (n_v (vs ++ [n_v vs 0, Value.int y]) 1) + 0) ≤ 0
      simp only [e_1, e_11]
      exact vc_Ho_change_1_1 (v_iv (n_v vs 1)) (v_iv (n_v vs 2)) (v_iv (n_v vs 3)) (v_iv (n_v vs 4)) (v_iv (n_v vs 8)) (w_fi ws (n_v vs 7) 2) (w_fi ws (n_v vs 7) 0) (w_fi ws (n_v vs 7) 1) (v_iv (Value.int y)) k1 k2 k3 k4 k8 f5 kz_7_0 kz_7_1 kz_7_2 ey2
  have nf2 : fc_1 PRD (23, [11, 1], [0, -1, 1]) ws (vs ++ [n_v vs 0, Value.int y]) := by
    refine ⟨nf_inA hl rfl, sgq_22 ?_⟩
    · show (-1) * v_iv (n_v (vs ++ [n_v vs 0, Value.int y]) 11) + (1 * v_iv (n_v (vs ++ [n_v vs 0, Value.int y]) 1) + 0) ≤ 0
      simp only [e_1, e_11]
      exact vc_Ho_change_1_2 (v_iv (n_v vs 1)) (v_iv (n_v vs 2)) (v_iv (n_v vs 3)) (v_iv (n_v vs 4)) (v_iv (n_v vs 8)) (w_fi ws (n_v vs 7) 2) (w_fi ws (n_v vs 7) 0) (w_fi ws (n_v vs 7) 1) (v_iv (Value.int y)) k1 k2 k3 k4 k8 f5 kz_7_0 kz_7_1 kz_7_2 ey2
  have nf3 : fc_1 PRD (20, [10, 11, 9], [62, 71]) ws (vs ++ [n_v vs 0, Value.int y]) := by
    refine ⟨nf_inA hl rfl, sgq_1734 ?_⟩
    · show WQF 71 [n_v (vs ++ [n_v vs 0, Value.int y]) 10, n_v (vs ++ [n_v vs 0, Value.int y]) 11, n_v (vs ++ [n_v vs 0, Value.int y]) 9] ws
      simp only [e_9, e_10, e_11]
      first | rw [q9] | skip
      have zw := f4
      exact WQF_int (wq_in (zw) (by omega) (by omega) ⟨rfl, rfl⟩ ⟨Or.inr (pO_of f2 f1), trivial⟩) ey2
  have nf4 : fc_1 PRD (20, [2, 3, 9, 4], [50, 3, 0, 2002, 2000, 2001, 3, 36, 2, 6, 1, 2, 1, 0, 0, 0, 2, 6, 0, 2, 0, 0, 1, 1, 2, 11, 0, 6, 4, 2, 1, 1, 0, 1, 2, 2, 2, 0, 3, 2, 2, 0, 0, 23, 3, 81, 2, 6, 1, 2, 1, 0, 0, 1, 2, 6, 0, 2, 0, 0, 1, 1, 2, 11, 0, 6, 4, 2, 1, 1, 0, 1, 2, 2, 0, 2, 6, 0, 2, 0, 0, 1, 3, 2, 11, 0, 6, 4, 2, 1, 3, 0, 1, 2, 2, 0, 2, 7, 0, 3, 2, 2, 1, 0, 47, 3, 10, 0, 6, 4, 2, 1, 1, 0, 1, 1, 3, 0, 6, 4, 2, 1, 3, 0, 1, 1, 1, 3, 27, 2, 6, 1, 2, 1, 0, 0, 2, 2, 6, 0, 2, 0, 0, 1, 1, 0, 6, 4, 2, 1, 1, 0, 1, 2, 2, 1, 3, 27, 2, 6, 1, 2, 1, 0, 0, 3, 2, 6, 0, 2, 0, 0, 1, 1, 0, 6, 4, 2, 1, 1, 0, 1, 2, 2, 0, 3, 43, 2, 6, 1, 2, 1, 0, 0, 4, 2, 6, 0, 2, 0, 0, 1, 1, 2, 11, 0, 6, 4, 2, 1, 1, 0, 1, 2, 2, 0, 2, 6, 0, 2, 0, 1, 1, 3, 0, 2, 1, 3, 0, 99, 3, 43, 2, 6, 1, 2, 1, 0, 0, 5, 2, 6, 0, 2, 0, 0, 1, 1, 2, 11, 0, 6, 4, 2, 1, 1, 0, 1, 2, 2, 1, 2, 6, 0, 2, 0, 1, 1, 3, 0, 2, 1, 3, 0, 9, 3, 48, 2, 6, 1, 2, 1, 0, 0, 6, 2, 6, 0, 2, 0, 0, 1, 1, 2, 11, 0, 6, 4, 2, 1, 1, 0, 1, 2, 2, 0, 2, 6, 0, 2, 0, 0, 1, 3, 0, 6, 4, 2, 1, 3, 0, 1, 2, 2, 2, 2, 6, 1, 2, 1, 0, 0, 7, 2, 6, 0, 2, 0, 0, 1, 1, 2, 11, 0, 6, 4, 2, 1, 1, 0, 1, 2, 2, 1, 2, 6, 0, 2, 0, 0, 1, 3, 0, 2, 1, 3, 0, 1]) ws (vs ++ [n_v vs 0, Value.int y]) := by
    refine ⟨nf_inA hl rfl, sgq_1723 ?_⟩
    · show ((v_iv (n_v (vs ++ [n_v vs 0, Value.int y]) 2) = 0) ∧ ((0 ≤ v_iv (n_v (vs ++ [n_v vs 0, Value.int y]) 3)) ∧ (((v_iv (n_v (vs ++ [n_v vs 0, Value.int y]) 3) + 1) ≤ w_fi ws (n_v (vs ++ [n_v vs 0, Value.int y]) 9) 2) ∧ (w_fi ws (n_v (vs ++ [n_v vs 0, Value.int y]) 9) 0 ≤ 23)))) ∨ (((v_iv (n_v (vs ++ [n_v vs 0, Value.int y]) 2) = 1) ∧ ((0 ≤ v_iv (n_v (vs ++ [n_v vs 0, Value.int y]) 3)) ∧ (((v_iv (n_v (vs ++ [n_v vs 0, Value.int y]) 3) + 1) ≤ w_fi ws (n_v (vs ++ [n_v vs 0, Value.int y]) 9) 0) ∧ ((0 ≤ v_iv (n_v (vs ++ [n_v vs 0, Value.int y]) 4)) ∧ (((v_iv (n_v (vs ++ [n_v vs 0, Value.int y]) 4) + 1) ≤ w_fi ws (n_v (vs ++ [n_v vs 0, Value.int y]) 9) 0) ∧ ((w_fi ws (n_v (vs ++ [n_v vs 0, Value.int y]) 9) 1 ≤ 47) ∧ (((v_iv (n_v (vs ++ [n_v vs 0, Value.int y]) 3) + 1) ≤ v_iv (n_v (vs ++ [n_v vs 0, Value.int y]) 4)) ∨ ((v_iv (n_v (vs ++ [n_v vs 0, Value.int y]) 4) + 1) ≤ v_iv (n_v (vs ++ [n_v vs 0, Value.int y]) 3))))))))) ∨ (((v_iv (n_v (vs ++ [n_v vs 0, Value.int y]) 2) = 2) ∧ ((0 ≤ v_iv (n_v (vs ++ [n_v vs 0, Value.int y]) 3)) ∧ ((v_iv (n_v (vs ++ [n_v vs 0, Value.int y]) 3) + 1) ≤ w_fi ws (n_v (vs ++ [n_v vs 0, Value.int y]) 9) 1))) ∨ (((v_iv (n_v (vs ++ [n_v vs 0, Value.int y]) 2) = 3) ∧ ((0 ≤ v_iv (n_v (vs ++ [n_v vs 0, Value.int y]) 3)) ∧ ((v_iv (n_v (vs ++ [n_v vs 0, Value.int y]) 3) + 1) ≤ w_fi ws (n_v (vs ++ [n_v vs 0, Value.int y]) 9) 0))) ∨ (((v_iv (n_v (vs ++ [n_v vs 0, Value.int y]) 2) = 4) ∧ ((0 ≤ v_iv (n_v (vs ++ [n_v vs 0, Value.int y]) 3)) ∧ (((v_iv (n_v (vs ++ [n_v vs 0, Value.int y]) 3) + 1) ≤ w_fi ws (n_v (vs ++ [n_v vs 0, Value.int y]) 9) 0) ∧ ((1 ≤ v_iv (n_v (vs ++ [n_v vs 0, Value.int y]) 4)) ∧ (v_iv (n_v (vs ++ [n_v vs 0, Value.int y]) 4) ≤ 99))))) ∨ (((v_iv (n_v (vs ++ [n_v vs 0, Value.int y]) 2) = 5) ∧ ((0 ≤ v_iv (n_v (vs ++ [n_v vs 0, Value.int y]) 3)) ∧ (((v_iv (n_v (vs ++ [n_v vs 0, Value.int y]) 3) + 1) ≤ w_fi ws (n_v (vs ++ [n_v vs 0, Value.int y]) 9) 1) ∧ ((1 ≤ v_iv (n_v (vs ++ [n_v vs 0, Value.int y]) 4)) ∧ (v_iv (n_v (vs ++ [n_v vs 0, Value.int y]) 4) ≤ 9))))) ∨ (((v_iv (n_v (vs ++ [n_v vs 0, Value.int y]) 2) = 6) ∧ ((0 ≤ v_iv (n_v (vs ++ [n_v vs 0, Value.int y]) 3)) ∧ (((v_iv (n_v (vs ++ [n_v vs 0, Value.int y]) 3) + 1) ≤ w_fi ws (n_v (vs ++ [n_v vs 0, Value.int y]) 9) 0) ∧ ((0 ≤ v_iv (n_v (vs ++ [n_v vs 0, Value.int y]) 4)) ∧ ((v_iv (n_v (vs ++ [n_v vs 0, Value.int y]) 4) + 1) ≤ w_fi ws (n_v (vs ++ [n_v vs 0, Value.int y]) 9) 2))))) ∨ ((v_iv (n_v (vs ++ [n_v vs 0, Value.int y]) 2) = 7) ∧ ((0 ≤ v_iv (n_v (vs ++ [n_v vs 0, Value.int y]) 3)) ∧ (((v_iv (n_v (vs ++ [n_v vs 0, Value.int y]) 3) + 1) ≤ w_fi ws (n_v (vs ++ [n_v vs 0, Value.int y]) 9) 1) ∧ ((0 ≤ v_iv (n_v (vs ++ [n_v vs 0, Value.int y]) 4)) ∧ (v_iv (n_v (vs ++ [n_v vs 0, Value.int y]) 4) ≤ 1)))))))))))
      simp only [e_2, e_3, e_4, e_9, q9]
      exact vc_Ho_change_1_4 (v_iv (n_v vs 2)) (v_iv (n_v vs 3)) (v_iv (n_v vs 4)) (v_iv (n_v vs 8)) (w_fi ws (n_v vs 7) 2) (w_fi ws (n_v vs 7) 0) (w_fi ws (n_v vs 7) 1) k2 k3 k4 k8 f5 kz_7_0 kz_7_1 kz_7_2
  exact ⟨(fun _ h => (by cases h)), [n_v vs 0, Value.int y], ag_two t0 hy, List.forall_mem_cons.mpr ⟨⟨show (24 : Nat) < 100 from by decide, nf0⟩, List.forall_mem_cons.mpr ⟨⟨show (23 : Nat) < 100 from by decide, nf1⟩, List.forall_mem_cons.mpr ⟨⟨show (23 : Nat) < 100 from by decide, nf2⟩, List.forall_mem_cons.mpr ⟨⟨show (20 : Nat) < 100 from by decide, nf3⟩, List.forall_mem_cons.mpr ⟨⟨show (20 : Nat) < 100 from by decide, nf4⟩, (fun _ h => (by cases h))⟩⟩⟩⟩⟩, (fun _ h => (by cases h))⟩
set_option maxHeartbeats 4000000 in
theorem vc_Ho_change_2_1 (x1 : Int) (x11 : Int) (k1 : 0 ≤ x1 ∧ x1 ≤ 3) (k11 : 0 ≤ x11 ∧ x11 ≤ 3) (f6 : 1 * x11 + ((-1) * x1 + 0) ≤ 0) : (0 ≤ x1) ∧ (x1 ≤ 3) := by
  first
    | (clear f5; omega)
    | exact f5 (by clear f5; omega)
    | (clear f4; omega)
    | exact f4 (by clear f4; omega)
    | (clear f6; omega)
    | exact f6 (by clear f6; omega)
def o_Ho_change_2 : or_T := (42, 18, [(0, (2, 0, 0, [12])), (1, (0, 0, 3, [])), (7, (2, 0, 0, [3])), (9, (2, 0, 0, [3])), (10, (2, 0, 0, [12])), (11, (0, 0, 3, []))], [(24, [0, 10], []), (23, [11, 1], [0, 1, -1]), (23, [11, 1], [0, -1, 1]), (24, [7, 9], []), (20, [10, 11], [62, 1]), (102, [11], [381944245562716141175333566576758405197150323812363046994276334253946497812627017594568704, 3000, 3001, 3016, 3017, 3018]), (23, [11, 1], [0, 1, -1]), (23, [11, 1], [0, -1, 1])], [], [], [(20, [0, 1], [62, 1]), (20, [1], [50, 0, 0, 2, 6, 0, 2, 0, 0, 1, 0, 0, 2, 1, 0, 0, 3])], [], [])
theorem oo_Ho_change_2 {kA : Nat → ClassId} : or_ok PRD kA GG o_Ho_change_2 := by
  refine or_mk fun A ta ws vs hD hth hl => ?_
  intro t0 r0 t1 k1 t7 r7 t9 r9 t10 r10 t11 k11 f0 f1 f2 f3 f4 ta1 w1 le1 s1 f6 f7
  replace f0 := shm_5 f0
  replace f1 := shm_7 f1
  replace f2 := shm_22 f2
  replace f3 := shm_5 f3
  replace f4 := shm_1141 f4
  replace f6 := shm_7 f6
  replace f7 := shm_22 f7
  have q10 : n_v vs 10 = n_v vs 0 := f0.symm
  have q9 : n_v vs 9 = n_v vs 7 := f3.symm
  simp only [q10] at f4
  have nf0 : fc_1 PRD (20, [0, 1], [62, 1]) ws (vs) := by
    refine ⟨nf_in hl rfl, sgq_1141 ?_⟩
    · show WQF 1 [n_v vs 0, n_v vs 1] ws
      have zw := f4
      first | rw [show n_v vs 10 = n_v vs 0 from (by first | exact f0 | exact f0.symm)] at zw | skip
      exact WQF_int zw (show v_iv (n_v vs 1) = v_iv (n_v vs 11) by omega)
  have nf1 : fc_1 PRD (20, [1], [50, 0, 0, 2, 6, 0, 2, 0, 0, 1, 0, 0, 2, 1, 0, 0, 3]) ws (vs) := ⟨nf_in hl rfl, sgq_1143 (vc_Ho_change_2_1 (v_iv (n_v vs 1)) (v_iv (n_v vs 11)) k1 k11 f6)⟩
  refine ⟨(fun _ h => (by cases h)), [], trivial, ?_, (fun _ h => (by cases h))⟩
  rw [List.append_nil]
  exact List.forall_mem_cons.mpr ⟨⟨show (20 : Nat) < 100 from by decide, nf0⟩, List.forall_mem_cons.mpr ⟨⟨show (20 : Nat) < 100 from by decide, nf1⟩, (fun _ h => (by cases h))⟩⟩
def n_Ho_change_an : List an_T := []
def t_Ho_change_ct : ct_L := [(0, 115, e_Ho_isPlace), (1, 129, e_Ho_forget), (1, 236, e_Gr_mayAlter), (109, 240, e_Gr_alter_at_kx_f)]
set_option maxRecDepth 100000 in
theorem c_Ho_change {l : Launch} {D : va_G} {kA : Nat → ClassId} (h_Gr_alter_at_kx : ct_ok PRD l D kA GG y_Gr_alter_at_kx z_Gr_alter_at_kx e_Gr_alter_at_kx) (h_Gr_mayAlter : ct_ok PRD l D kA GG y_Gr_mayAlter z_Gr_mayAlter e_Gr_mayAlter) (h_Ho_forget : ct_ok PRD l D kA GG y_Ho_forget z_Ho_forget e_Ho_forget) (h_Ho_isPlace : ct_ok PRD l D kA GG y_Ho_isPlace z_Ho_isPlace e_Ho_isPlace) : ct_ok PRD l D kA GG y_Ho_change z_Ho_change e_Ho_change := chk_all_ok (FT := [(13, 12, 0)]) (PT := []) (CT := t_Ho_change_ct) (KT := []) (NT := []) (AN := n_Ho_change_an) (OT := [o_Ho_change_0, o_Ho_change_1, o_Ho_change_2]) 0 200 (List.forall_mem_cons.mpr ⟨oo_Ho_change_0, List.forall_mem_cons.mpr ⟨oo_Ho_change_1, List.forall_mem_cons.mpr ⟨oo_Ho_change_2, List.forall_mem_nil _⟩⟩⟩) (by decide +kernel) ⟨List.forall_mem_cons.mpr ⟨gf_Ho_13, List.forall_mem_nil _⟩, List.forall_mem_nil _, List.forall_mem_cons.mpr ⟨cl_static (y := y_Ho_isPlace) h_Ho_isPlace wm_633 wm_1 wm_631 wm_632 ⟨by decide, by decide, by decide +kernel⟩ (by decide), List.forall_mem_cons.mpr ⟨cl_virtual (y := y_Ho_forget) (ci := 12) rfl rfl ⟨_, _, rfl⟩ (by decide +kernel) h_Ho_forget wm_789 wm_1 wm_786 wm_788 wv_1_13 ⟨by decide, by decide, by decide +kernel⟩ (by decide), List.forall_mem_cons.mpr ⟨cl_virtual (y := y_Gr_mayAlter) (ci := 3) rfl rfl ⟨_, _, rfl⟩ (by decide +kernel) h_Gr_mayAlter wm_958 wm_3 wm_955 wm_956 wm_957 ⟨by decide, by decide, by decide +kernel⟩ (by decide), List.forall_mem_cons.mpr ⟨cl_virtual (y := y_Gr_alter_at_kx) (ci := 3) rfl rfl ⟨_, _, rfl⟩ (by decide +kernel) (cf_Gr_alter_at_kx h_Gr_alter_at_kx) wm_975 wm_3 wm_972 wm_973 wm_974 ⟨by decide, by decide, by decide +kernel⟩ (by decide), List.forall_mem_nil _⟩⟩⟩⟩, List.forall_mem_nil _, List.forall_mem_nil _, GG_pl⟩ (by decide +kernel)
set_option maxHeartbeats 4000000 in
theorem vc_Ho_text_0_0 (x6 : Int) (spareLength_0 : Int) (gx : Int) (k6 : 0 ≤ x6 ∧ x6 ≤ 0) (fe_0_12_1 : spareLength_0 = x6) (kz_0_12 : 0 ≤ spareLength_0 ∧ spareLength_0 ≤ 100000000) (ex2 : gx = spareLength_0) : 1 * spareLength_0 + ((-1) * gx + 0) ≤ 0 := by
  first | assumption | omega | grind
set_option maxHeartbeats 4000000 in
theorem vc_Ho_text_0_1 (x6 : Int) (spareLength_0 : Int) (gx : Int) (k6 : 0 ≤ x6 ∧ x6 ≤ 0) (fe_0_12_1 : spareLength_0 = x6) (kz_0_12 : 0 ≤ spareLength_0 ∧ spareLength_0 ≤ 100000000) (ex2 : gx = spareLength_0) : 1 * gx + 0 ≤ 0 := by
  first | assumption | omega | grind
def o_Ho_text_0 : or_T := (49, 11, [(0, (2, 0, 0, [12])), (6, (0, 0, 0, []))], [(101, [0, 6], [12])], [], [(0, 0, 71426432, [])], [(20, [0, 11], [30, 0, 1, 1, 12, -1, 0, 0]), (23, [11], [0, 1])], [], [])
theorem oo_Ho_text_0 {kA : Nat → ClassId} : or_ok PRD kA GG o_Ho_text_0 := by
  refine or_mk fun A ta ws vs hD hth hl => ?_
  intro t0 r0 t6 k6 ta1 w1 le1 s1
  have s1 : (∀ b j, w_el ws b j = w_el w1 b j) ∧ ∀ b j, w_fd ws b j = if b = v_ad (n_v vs 0) ∧ j = 12 then n_v vs 6 else w_fd w1 b j := s1.2
  have fe_0_12_1 : w_fi ws (n_v vs 0) 12 = v_iv (n_v vs 6) := by show v_iv (w_fd _ _ _) = _; rw [s1.2, if_pos ⟨rfl, rfl⟩]
  have kz_0_12 := fdq_0 hD hth r0
  have kv0 := fdq_0 hD hth r0
  obtain ⟨x, ex, hx⟩ := iv_ex (ta := ta) (lo := 0) (hi := 71426432) (z := w_fi ws (n_v vs 0) 12) (by omega) (by omega) (by omega) (by omega)
  have ex2 : v_iv (Value.int x) = w_fi ws (n_v vs 0) 12 := ex
  have ex3 : 0 ≤ v_iv (Value.int x) ∧ v_iv (Value.int x) ≤ 71426432 := tv_rng hx
  have e_0 : n_v (vs ++ [Value.int x]) 0 = n_v vs 0 := n_v_old (by rw [hl]; decide)
  have e_11 : n_v (vs ++ [Value.int x]) 11 = Value.int x := n_v_new hl
  have nf0 : fc_1 PRD (20, [0, 11], [30, 0, 1, 1, 12, -1, 0, 0]) ws (vs ++ [Value.int x]) := by
    refine ⟨nf_inA hl rfl, sgq_104 ?_⟩
    · show 1 * w_fi ws (n_v (vs ++ [Value.int x]) 0) 12 + ((-1) * v_iv (n_v (vs ++ [Value.int x]) 11) + 0) ≤ 0
      simp only [e_0, e_11]
      exact vc_Ho_text_0_0 (v_iv (n_v vs 6)) (w_fi ws (n_v vs 0) 12) (v_iv (Value.int x)) k6 fe_0_12_1 kz_0_12 ex2
  have nf1 : fc_1 PRD (23, [11], [0, 1]) ws (vs ++ [Value.int x]) := by
    refine ⟨nf_inA hl rfl, sgq_1477 ?_⟩
    · show 1 * v_iv (n_v (vs ++ [Value.int x]) 11) + 0 ≤ 0
      rw [e_11]
      exact vc_Ho_text_0_1 (v_iv (n_v vs 6)) (w_fi ws (n_v vs 0) 12) (v_iv (Value.int x)) k6 fe_0_12_1 kz_0_12 ex2
  exact ⟨(fun _ h => (by cases h)), [Value.int x], ag_one hx, List.forall_mem_cons.mpr ⟨⟨show (20 : Nat) < 100 from by decide, nf0⟩, List.forall_mem_cons.mpr ⟨⟨show (23 : Nat) < 100 from by decide, nf1⟩, (fun _ h => (by cases h))⟩⟩, (fun _ h => (by cases h))⟩
set_option maxHeartbeats 4000000 in
theorem vc_Ho_text_1_0 (spareLength_0 : Int) (gx : Int) (kz_0_12 : 0 ≤ spareLength_0 ∧ spareLength_0 ≤ 100000000) (ex2 : gx = spareLength_0) : 1 * spareLength_0 + ((-1) * gx + 0) ≤ 0 := by
  first | assumption | omega | grind
set_option maxHeartbeats 4000000 in
theorem vc_Ho_text_1_1 (x11 : Int) (spareLength_0 : Int) (gx : Int) (k11 : 0 ≤ x11 ∧ x11 ≤ 71426432) (f0 : 1 * x11 + 0 ≤ 0) (f1 : 1 * spareLength_0 + ((-1) * x11 + 0) ≤ 28573568) (kz_0_12 : 0 ≤ spareLength_0 ∧ spareLength_0 ≤ 100000000) (ex2 : gx = spareLength_0) : 1 * gx + 0 ≤ 28573568 := by
  first | assumption | omega | grind
def o_Ho_text_1 : or_T := (59, 13, [(0, (2, 0, 0, [12])), (6, (0, 0, 0, [])), (11, (0, 0, 71426432, []))], [(23, [11], [0, 1]), (20, [0, 11], [30, 28573568, 1, 1, 12, -1, 0, 0]), (102, [11], [261336857795280739939871698507597986398208, 12012]), (23, [11], [0, 1]), (101, [0, 6], [12])], [], [(0, 0, 99998128, [])], [(20, [0, 13], [30, 0, 1, 1, 12, -1, 0, 0]), (23, [13], [28573568, 1])], [], [])
theorem oo_Ho_text_1 {kA : Nat → ClassId} : or_ok PRD kA GG o_Ho_text_1 := by
  refine or_mk fun A ta ws vs hD hth hl => ?_
  intro t0 r0 t6 k6 t11 k11 f0 f1 ta1 w1 le1 s1 f3 ta2 w2 le2 s2
  replace f0 := shm_1477 f0
  replace f1 := shm_255 f1
  replace f3 := shm_1477 f3
  have s2 : (∀ b j, w_el w1 b j = w_el w2 b j) ∧ ∀ b j, w_fd w1 b j = if b = v_ad (n_v vs 0) ∧ j = 12 then n_v vs 6 else w_fd w2 b j := s2.2
  have kz_0_12 := fdq_0 hD hth r0
  have kv0 := fdq_0 hD hth r0
  obtain ⟨x, ex, hx⟩ := iv_ex (ta := ta) (lo := 0) (hi := 99998128) (z := w_fi ws (n_v vs 0) 12) (by omega) (by omega) (by omega) (by omega)
  have ex2 : v_iv (Value.int x) = w_fi ws (n_v vs 0) 12 := ex
  have ex3 : 0 ≤ v_iv (Value.int x) ∧ v_iv (Value.int x) ≤ 99998128 := tv_rng hx
  have e_0 : n_v (vs ++ [Value.int x]) 0 = n_v vs 0 := n_v_old (by rw [hl]; decide)
  have e_13 : n_v (vs ++ [Value.int x]) 13 = Value.int x := n_v_new hl
  have nf0 : fc_1 PRD (20, [0, 13], [30, 0, 1, 1, 12, -1, 0, 0]) ws (vs ++ [Value.int x]) := by
    refine ⟨nf_inA hl rfl, sgq_104 ?_⟩
    · show 1 * w_fi ws (n_v (vs ++ [Value.int x]) 0) 12 + ((-1) * v_iv (n_v (vs ++ [Value.int x]) 13) + 0) ≤ 0
      simp only [e_0, e_13]
      exact vc_Ho_text_1_0 (w_fi ws (n_v vs 0) 12) (v_iv (Value.int x)) kz_0_12 ex2
  have nf1 : fc_1 PRD (23, [13], [28573568, 1]) ws (vs ++ [Value.int x]) := by
    refine ⟨nf_inA hl rfl, sgq_1972 ?_⟩
    · show 1 * v_iv (n_v (vs ++ [Value.int x]) 13) + 0 ≤ 28573568
      rw [e_13]
      exact vc_Ho_text_1_1 (v_iv (n_v vs 11)) (w_fi ws (n_v vs 0) 12) (v_iv (Value.int x)) k11 f0 f1 kz_0_12 ex2
  exact ⟨(fun _ h => (by cases h)), [Value.int x], ag_one hx, List.forall_mem_cons.mpr ⟨⟨show (20 : Nat) < 100 from by decide, nf0⟩, List.forall_mem_cons.mpr ⟨⟨show (23 : Nat) < 100 from by decide, nf1⟩, (fun _ h => (by cases h))⟩⟩, (fun _ h => (by cases h))⟩
set_option maxHeartbeats 4000000 in
theorem vc_Ho_text_2_0 (x7 : Int) (spareLength_0 : Int) (gx : Int) (k7 : 0 ≤ x7 ∧ x7 ≤ 0) (fe_0_12_1 : spareLength_0 = x7) (kz_0_12 : 0 ≤ spareLength_0 ∧ spareLength_0 ≤ 100000000) (ex2 : gx = spareLength_0) : 1 * spareLength_0 + ((-1) * gx + 0) ≤ 0 := by
  first | assumption | omega | grind
set_option maxHeartbeats 4000000 in
theorem vc_Ho_text_2_1 (x7 : Int) (spareLength_0 : Int) (gx : Int) (k7 : 0 ≤ x7 ∧ x7 ≤ 0) (fe_0_12_1 : spareLength_0 = x7) (kz_0_12 : 0 ≤ spareLength_0 ∧ spareLength_0 ≤ 100000000) (ex2 : gx = spareLength_0) : 1 * gx + 0 ≤ 0 := by
  first | assumption | omega | grind
def o_Ho_text_2 : or_T := (78, 12, [(0, (2, 0, 0, [12])), (1, (0, 0, 3, [])), (6, (0, 1, 1, [])), (7, (0, 0, 0, []))], [(20, [6, 1, 0], [51, 0, 0, 1, 4001002003, 4, 6, 1, 2, 1, 0, 0, 1, 2, 6, 0, 2, 0, 0, 1, 1, 2, 6, 0, 2, 1, 1, 0, 3, 7, 6, 14, 2, 3, 4001, 1, 1, 0, -1]), (20, [6, 1, 0], [51, 0, 0, 1, 4001002003, 4, 6, 1, 2, 1, 0, 0, 0, 3, 6, 0, 2, 1, 1, 0, -1, 3, 6, 0, 2, 0, 4, 1, 1, 1, 6, 14, 2, 3, 4001, 1, 1, 0, -1]), (101, [0, 7], [12]), (8, [6], [1]), (20, [6, 1, 0], [51, 0, 0, 1, 4001002003, 4, 6, 1, 2, 1, 0, 0, 1, 2, 6, 0, 2, 0, 0, 1, 1, 2, 6, 0, 2, 1, 1, 0, 3, 7, 6, 14, 2, 3, 4001, 1, 1, 0, -1]), (20, [6, 1, 0], [51, 0, 0, 1, 4001002003, 4, 6, 1, 2, 1, 0, 0, 0, 3, 6, 0, 2, 1, 1, 0, -1, 3, 6, 0, 2, 0, 4, 1, 1, 1, 6, 14, 2, 3, 4001, 1, 1, 0, -1])], [], [(0, 0, 99977752, [])], [(20, [0, 12], [30, 0, 1, 1, 12, -1, 0, 0]), (23, [12], [0, 1])], [], [])
theorem oo_Ho_text_2 {kA : Nat → ClassId} : or_ok PRD kA GG o_Ho_text_2 := by
  refine or_mk fun A ta ws vs hD hth hl => ?_
  intro t0 r0 t1 k1 t6 k6 t7 k7 f0 f1 ta1 w1 le1 s1 f3 f4 f5
  replace f0 := shm_777 f0
  replace f1 := shm_778 f1
  have s1 : (∀ b j, w_el ws b j = w_el w1 b j) ∧ ∀ b j, w_fd ws b j = if b = v_ad (n_v vs 0) ∧ j = 12 then n_v vs 7 else w_fd w1 b j := s1.2
  replace f3 := shm_154 f3
  replace f4 := shm_777 f4
  replace f5 := shm_778 f5
  have fe_0_12_1 : w_fi ws (n_v vs 0) 12 = v_iv (n_v vs 7) := by show v_iv (w_fd _ _ _) = _; rw [s1.2, if_pos ⟨rfl, rfl⟩]
  have kz_0_12 := fdq_0 hD hth r0
  have kv0 := fdq_0 hD hth r0
  obtain ⟨x, ex, hx⟩ := iv_ex (ta := ta) (lo := 0) (hi := 99977752) (z := w_fi ws (n_v vs 0) 12) (by omega) (by omega) (by omega) (by omega)
  have ex2 : v_iv (Value.int x) = w_fi ws (n_v vs 0) 12 := ex
  have ex3 : 0 ≤ v_iv (Value.int x) ∧ v_iv (Value.int x) ≤ 99977752 := tv_rng hx
  have e_0 : n_v (vs ++ [Value.int x]) 0 = n_v vs 0 := n_v_old (by rw [hl]; decide)
  have e_12 : n_v (vs ++ [Value.int x]) 12 = Value.int x := n_v_new hl
  have nf0 : fc_1 PRD (20, [0, 12], [30, 0, 1, 1, 12, -1, 0, 0]) ws (vs ++ [Value.int x]) := by
    refine ⟨nf_inA hl rfl, sgq_104 ?_⟩
    · show 1 * w_fi ws (n_v (vs ++ [Value.int x]) 0) 12 + ((-1) * v_iv (n_v (vs ++ [Value.int x]) 12) + 0) ≤ 0
      simp only [e_0, e_12]
      exact vc_Ho_text_2_0 (v_iv (n_v vs 7)) (w_fi ws (n_v vs 0) 12) (v_iv (Value.int x)) k7 fe_0_12_1 kz_0_12 ex2
  have nf1 : fc_1 PRD (23, [12], [0, 1]) ws (vs ++ [Value.int x]) := by
    refine ⟨nf_inA hl rfl, sgq_1477 ?_⟩
    · show 1 * v_iv (n_v (vs ++ [Value.int x]) 12) + 0 ≤ 0
      rw [e_12]
      exact vc_Ho_text_2_1 (v_iv (n_v vs 7)) (w_fi ws (n_v vs 0) 12) (v_iv (Value.int x)) k7 fe_0_12_1 kz_0_12 ex2
  exact ⟨(fun _ h => (by cases h)), [Value.int x], ag_one hx, List.forall_mem_cons.mpr ⟨⟨show (20 : Nat) < 100 from by decide, nf0⟩, List.forall_mem_cons.mpr ⟨⟨show (23 : Nat) < 100 from by decide, nf1⟩, (fun _ h => (by cases h))⟩⟩, (fun _ h => (by cases h))⟩
def n_Ho_text_an : List an_T := []
def t_Ho_text_ct : ct_L := [(0, 115, e_Ho_isPlace), (1, 323, e_Ho_hasDrawing), (1, 368, e_Ho_writeEdges), (1, 371, e_Ho_writeDrawing), (151, 364, e_Ho_writeGroup_at_k0)]
set_option maxRecDepth 100000 in
theorem c_Ho_text {l : Launch} {D : va_G} {kA : Nat → ClassId} (h_Ho_hasDrawing : ct_ok PRD l D kA GG y_Ho_hasDrawing z_Ho_hasDrawing e_Ho_hasDrawing) (h_Ho_isPlace : ct_ok PRD l D kA GG y_Ho_isPlace z_Ho_isPlace e_Ho_isPlace) (h_Ho_writeDrawing : ct_ok PRD l D kA GG y_Ho_writeDrawing z_Ho_writeDrawing e_Ho_writeDrawing) (h_Ho_writeEdges : ct_ok PRD l D kA GG y_Ho_writeEdges z_Ho_writeEdges e_Ho_writeEdges) (h_Ho_writeGroup_at_k0 : ct_ok PRD l D kA GG y_Ho_writeGroup_at_k0 z_Ho_writeGroup_at_k0 e_Ho_writeGroup_at_k0) : ct_ok PRD l D kA GG y_Ho_text z_Ho_text e_Ho_text := chk_all_ok (FT := [(13, 12, 0), (31, 12, 3), (60, 12, 9), (64, 12, 10), (67, 12, 11), (70, 12, 12)]) (PT := [(60, 12, 9, .array .byte), (64, 12, 10, .array .byte), (67, 12, 11, .int), (70, 12, 12, .int)]) (CT := t_Ho_text_ct) (KT := []) (NT := []) (AN := n_Ho_text_an) (OT := [o_Ho_text_0, o_Ho_text_1, o_Ho_text_2]) 0 436 (List.forall_mem_cons.mpr ⟨oo_Ho_text_0, List.forall_mem_cons.mpr ⟨oo_Ho_text_1, List.forall_mem_cons.mpr ⟨oo_Ho_text_2, List.forall_mem_nil _⟩⟩⟩) (by decide +kernel) ⟨List.forall_mem_cons.mpr ⟨gf_Ho_13, List.forall_mem_cons.mpr ⟨gf_Ho_31, List.forall_mem_cons.mpr ⟨gf_Ho_60, List.forall_mem_cons.mpr ⟨gf_Ho_64, List.forall_mem_cons.mpr ⟨gf_Ho_67, List.forall_mem_cons.mpr ⟨gf_Ho_70, List.forall_mem_nil _⟩⟩⟩⟩⟩⟩, List.forall_mem_cons.mpr ⟨pf_Ho_60, List.forall_mem_cons.mpr ⟨pf_Ho_64, List.forall_mem_cons.mpr ⟨pf_Ho_67, List.forall_mem_cons.mpr ⟨pf_Ho_70, List.forall_mem_nil _⟩⟩⟩⟩, List.forall_mem_cons.mpr ⟨cl_static (y := y_Ho_isPlace) h_Ho_isPlace wm_633 wm_1 wm_631 wm_632 ⟨by decide, by decide, by decide +kernel⟩ (by decide), List.forall_mem_cons.mpr ⟨cl_virtual (y := y_Ho_hasDrawing) (ci := 12) rfl rfl ⟨_, _, rfl⟩ (by decide +kernel) h_Ho_hasDrawing wm_1859 wm_1 wm_1856 wm_1858 wv_8_15 ⟨by decide, by decide, by decide +kernel⟩ (by decide), List.forall_mem_cons.mpr ⟨cl_virtual (y := y_Ho_writeEdges) (ci := 12) rfl rfl ⟨_, _, rfl⟩ (by decide +kernel) h_Ho_writeEdges wm_2365 wm_1 wm_2362 wm_2364 wv_12_3 ⟨by decide, by decide, by decide +kernel⟩ (by decide), List.forall_mem_cons.mpr ⟨cl_virtual (y := y_Ho_writeDrawing) (ci := 12) rfl rfl ⟨_, _, rfl⟩ (by decide +kernel) h_Ho_writeDrawing wm_2372 wm_1 wm_2369 wm_2371 wv_12_4 ⟨by decide, by decide, by decide +kernel⟩ (by decide), List.forall_mem_cons.mpr ⟨cl_virtual (y := y_Ho_writeGroup_at_k0) (ci := 12) rfl rfl ⟨_, _, rfl⟩ (by decide +kernel) h_Ho_writeGroup_at_k0 wm_2334 wm_1 wm_2331 wm_2333 wv_11_14 ⟨by decide, by decide, by decide +kernel⟩ (by decide), List.forall_mem_nil _⟩⟩⟩⟩⟩, List.forall_mem_nil _, List.forall_mem_nil _, GG_pl⟩ (by decide +kernel)
set_option maxHeartbeats 4000000 in
theorem vc_Pn_layGrid_0_1 (x5 : Int) (gy : Int) (k5 : 0 ≤ x5 ∧ x5 ≤ 3066) (ey2 : gy = x5) : 1 * gy + ((-1) * x5 + 0) ≤ 0 := by
  first
    | omega
    | (have h := (‹DYG _ _ _ _›).1 x11 (by omega) (by omega); omega)
    | (have h := ‹DYI _ _ _ _› x11 (by omega) (by omega) (by omega) (by omega); omega)
  
set_option maxHeartbeats 4000000 in
theorem vc_Pn_layGrid_0_2 (x5 : Int) (gy : Int) (k5 : 0 ≤ x5 ∧ x5 ≤ 3066) (ey2 : gy = x5) : (-1) * gy + (1 * x5 + 0) ≤ 0 := by
  first
    | omega
    | (have h := (‹DYG _ _ _ _›).1 x11 (by omega) (by omega); omega)
    | (have h := ‹DYI _ _ _ _› x11 (by omega) (by omega) (by omega) (by omega); omega)
  
def o_Pn_layGrid_0 : or_T := (23, 7, [(3, (2, 0, 0, [0])), (4, (2, 0, 0, [12])), (5, (0, 0, 3066, []))], [(20, [4, 5, 3], [62, 2000000])], [], [(2, 0, 0, [12]), (0, 0, 3072, [])], [(24, [4, 7], []), (23, [8, 5], [0, 1, -1]), (23, [8, 5], [0, -1, 1]), (20, [7, 8, 3], [62, 2000000])], [], [])
theorem oo_Pn_layGrid_0 {kA : Nat → ClassId} : or_ok PRD kA GG o_Pn_layGrid_0 := by
  refine or_mk fun A ta ws vs hD hth hl => ?_
  intro t3 r3 t4 r4 t5 k5 f0
  replace f0 := shm_1368 f0
  obtain ⟨y, ey, hy⟩ := iv_ex (ta := ta) (lo := 0) (hi := 3072) (z := v_iv (n_v vs 5)) (by omega) (by omega) (by omega) (by omega)
  have ey2 : v_iv (Value.int y) = v_iv (n_v vs 5) := ey
  have ey3 : 0 ≤ v_iv (Value.int y) ∧ v_iv (Value.int y) ≤ 3072 := tv_rng hy
  have e_3 : n_v (vs ++ [n_v vs 4, Value.int y]) 3 = n_v vs 3 := n_v_old (by rw [hl]; decide)
  have e_4 : n_v (vs ++ [n_v vs 4, Value.int y]) 4 = n_v vs 4 := n_v_old (by rw [hl]; decide)
  have e_5 : n_v (vs ++ [n_v vs 4, Value.int y]) 5 = n_v vs 5 := n_v_old (by rw [hl]; decide)
  have e_7 : n_v (vs ++ [n_v vs 4, Value.int y]) 7 = n_v vs 4 := n_v_new0 hl
  have e_8 : n_v (vs ++ [n_v vs 4, Value.int y]) 8 = Value.int y := n_v_new1 hl
  have nf0 : fc_1 PRD (24, [4, 7], []) ws (vs ++ [n_v vs 4, Value.int y]) := by
    refine ⟨nf_inA hl rfl, sgq_5 ?_⟩
    · show n_v (vs ++ [n_v vs 4, Value.int y]) 4 = n_v (vs ++ [n_v vs 4, Value.int y]) 7
      first | rfl | simp only [e_4, e_7]
  have nf1 : fc_1 PRD (23, [8, 5], [0, 1, -1]) ws (vs ++ [n_v vs 4, Value.int y]) := by
    refine ⟨nf_inA hl rfl, sgq_7 ?_⟩
    · show 1 * v_iv (n_v (vs ++ [n_v vs 4, Value.int y]) 8) + ((-1) * v_iv (n_v (vs ++ [n_v vs 4, Value.int y]) 5) + 0) ≤ 0
      simp only [e_5, e_8]
      exact vc_Pn_layGrid_0_1 (v_iv (n_v vs 5)) (v_iv (Value.int y)) k5 ey2
  have nf2 : fc_1 PRD (23, [8, 5], [0, -1, 1]) ws (vs ++ [n_v vs 4, Value.int y]) := by
    refine ⟨nf_inA hl rfl, sgq_22 ?_⟩
    · show (-1) * v_iv (n_v (vs ++ [n_v vs 4, Value.int y]) 8) + (1 * v_iv (n_v (vs ++ [n_v vs 4, Value.int y]) 5) + 0) ≤ 0
      simp only [e_5, e_8]
      exact vc_Pn_layGrid_0_2 (v_iv (n_v vs 5)) (v_iv (Value.int y)) k5 ey2
  have nf3 : fc_1 PRD (20, [7, 8, 3], [62, 2000000]) ws (vs ++ [n_v vs 4, Value.int y]) := by
    refine ⟨nf_inA hl rfl, sgq_1368 ?_⟩
    · show HY ws (n_v (vs ++ [n_v vs 4, Value.int y]) 7) (v_iv (n_v (vs ++ [n_v vs 4, Value.int y]) 8) + (((2000000 : Nat) : Int) - 2000000)) ∧ HYD ws (n_v (vs ++ [n_v vs 4, Value.int y]) 7) (n_v (vs ++ [n_v vs 4, Value.int y]) 3)
      simp only [e_3, e_7, e_8]
      exact ⟨hy_le f0.1 (by omega), f0.2⟩
  exact ⟨(fun _ h => (by cases h)), [n_v vs 4, Value.int y], ag_two t4 hy, List.forall_mem_cons.mpr ⟨⟨show (24 : Nat) < 100 from by decide, nf0⟩, List.forall_mem_cons.mpr ⟨⟨show (23 : Nat) < 100 from by decide, nf1⟩, List.forall_mem_cons.mpr ⟨⟨show (23 : Nat) < 100 from by decide, nf2⟩, List.forall_mem_cons.mpr ⟨⟨show (20 : Nat) < 100 from by decide, nf3⟩, (fun _ h => (by cases h))⟩⟩⟩⟩, (fun _ h => (by cases h))⟩
def o_Pn_layGrid_1 : or_T := (26, 9, [(3, (2, 0, 0, [0])), (4, (2, 0, 0, [12])), (5, (0, 0, 3066, [])), (7, (2, 0, 0, [12])), (8, (0, 0, 3072, []))], [(24, [4, 7], []), (23, [8, 5], [0, 1, -1]), (23, [8, 5], [0, -1, 1]), (20, [7, 8, 3], [62, 2000000]), (102, [8], [111553252820084187331709882122240, 7003]), (23, [8, 5], [0, 1, -1]), (23, [8, 5], [0, -1, 1])], [], [], [(20, [4, 5, 3], [62, 2000000])], [], [])
theorem oo_Pn_layGrid_1 {kA : Nat → ClassId} : or_ok PRD kA GG o_Pn_layGrid_1 := by
  refine or_mk fun A ta ws vs hD hth hl => ?_
  intro t3 r3 t4 r4 t5 k5 t7 r7 t8 k8 f0 f1 f2 f3 ta1 w1 le1 s1 f5 f6
  replace f0 := shm_5 f0
  replace f1 := shm_7 f1
  replace f2 := shm_22 f2
  replace f3 := shm_1368 f3
  replace f5 := shm_7 f5
  replace f6 := shm_22 f6
  have q7 : n_v vs 7 = n_v vs 4 := f0.symm
  simp only [q7] at f3
  have nf0 : fc_1 PRD (20, [4, 5, 3], [62, 2000000]) ws (vs) := by
    refine ⟨nf_in hl rfl, sgq_1368 ?_⟩
    · show HY ws (n_v vs 4) (v_iv (n_v vs 5) + (((2000000 : Nat) : Int) - 2000000)) ∧ HYD ws (n_v vs 4) (n_v vs 3)
      exact ⟨hy_le f3.1 (by omega), f3.2⟩
  refine ⟨(fun _ h => (by cases h)), [], trivial, ?_, (fun _ h => (by cases h))⟩
  rw [List.append_nil]
  exact List.forall_mem_cons.mpr ⟨⟨show (20 : Nat) < 100 from by decide, nf0⟩, (fun _ h => (by cases h))⟩
def o_Pn_layGrid_2 : or_T := (27, 10, [(3, (2, 0, 0, [0]))], [(20, [4, 5, 3], [62, 2000000])], [], [], [(20, [3, 5], [60, 0, 1, 880, 3])], [], [])
theorem oo_Pn_layGrid_2 {kA : Nat → ClassId} : or_ok PRD kA GG o_Pn_layGrid_2 := by
  refine or_mk fun A ta ws vs hD hth hl => ?_
  intro t3 r3 f0
  replace f0 := shm_1368 f0
  have nf0 : fc_1 PRD (20, [3, 5], [60, 0, 1, 880, 3]) ws (vs) := by
    refine ⟨nf_in hl rfl, sgq_1973 ?_⟩
    · show DYB (w_ei ws (w_ar ws (n_v vs 3) 3)) (v_iv (n_v vs 5))
      obtain ⟨cy, _, ey, _⟩ := tv_ref (th_fd hD hth r3 (g := GG_0) rfl (k := 3) (t := (2, 0, 0, [15])) rfl rfl) rfl
      exact (by have z := hy_use f0.1 f0.2 ⟨cy, ey⟩; rw [show (((2000000 : Nat) : Int) - 2000000) = 0 by decide, Int.add_zero] at z; exact z)
  refine ⟨(fun _ h => (by cases h)), [], trivial, ?_, (fun _ h => (by cases h))⟩
  rw [List.append_nil]
  exact List.forall_mem_cons.mpr ⟨⟨show (20 : Nat) < 100 from by decide, nf0⟩, (fun _ h => (by cases h))⟩
set_option maxHeartbeats 4000000 in
theorem vc_Pn_layGrid_3_0 (x5 : Int) (x9 : Int) (x10 : Int) (y_0o3 : Int → Int) (k5 : 0 ≤ x5 ∧ x5 ≤ 3066) (k9 : 0 ≤ x9 ∧ x9 ≤ 0) (k10 : 0 ≤ x10 ∧ x10 ≤ 0) (f0 : DYB (y_0o3) (x5)) : DYG (y_0o3) (x5) (x9) (x10) := by
  first
    | exact ⟨‹DYB _ _›, fun v a b => by exfalso; omega⟩
    | exact dyg_step ‹DYG _ _ _ _› (by omega) (by assumption) (by omega) (by omega)
  
set_option maxHeartbeats 4000000 in
theorem vc_Pn_layGrid_3_1 (x5 : Int) (x8 : Int) (x9 : Int) (k5 : 0 ≤ x5 ∧ x5 ≤ 3066) (k8 : 0 ≤ x8 ∧ x8 ≤ 3072) (k9 : 0 ≤ x9 ∧ x9 ≤ 0) (f2 : 1 * x8 + ((-1) * x5 + 0) ≤ 0) (f3 : (-1) * x8 + (1 * x5 + 0) ≤ 0) : 1 * x9 + ((-200000) * x5 + 0) ≤ 70000000 := by
  first
    | omega
    | (have h := (‹DYG _ _ _ _›).1 x11 (by omega) (by omega); omega)
    | (have h := ‹DYI _ _ _ _› x11 (by omega) (by omega) (by omega) (by omega); omega)
  
set_option maxHeartbeats 4000000 in
theorem vc_Pn_layGrid_3_2 (x9 : Int) (k9 : 0 ≤ x9 ∧ x9 ≤ 0) : (-1) * x9 + 0 ≤ 0 := by
  first
    | omega
    | (have h := (‹DYG _ _ _ _›).1 x11 (by omega) (by omega); omega)
    | (have h := ‹DYI _ _ _ _› x11 (by omega) (by omega) (by omega) (by omega); omega)
  
def o_Pn_layGrid_3 : or_T := (32, 11, [(5, (0, 0, 3066, [])), (8, (0, 0, 3072, [])), (9, (0, 0, 0, [])), (10, (0, 0, 0, []))], [(20, [3, 5], [60, 0, 1, 880, 3]), (24, [4, 7], []), (23, [8, 5], [0, 1, -1]), (23, [8, 5], [0, -1, 1])], [], [], [(20, [3, 5, 9, 10], [60, 0, 1, 881, 3]), (23, [9, 5], [70000000, 1, -200000]), (23, [9], [0, -1]), (24, [0, 0], [])], [], [])
theorem oo_Pn_layGrid_3 {kA : Nat → ClassId} : or_ok PRD kA GG o_Pn_layGrid_3 := by
  refine or_mk fun A ta ws vs hD hth hl => ?_
  intro t5 k5 t8 k8 t9 k9 t10 k10 f0 f1 f2 f3
  replace f1 := shm_5 f1
  have q7 : n_v vs 7 = n_v vs 4 := f1.symm
  have nf0 : fc_1 PRD (20, [3, 5, 9, 10], [60, 0, 1, 881, 3]) ws (vs) := ⟨nf_in hl rfl, sgq_1974 (vc_Pn_layGrid_3_0 (v_iv (n_v vs 5)) (v_iv (n_v vs 9)) (v_iv (n_v vs 10)) (w_ei ws (w_ar ws (n_v vs 3) 3)) k5 k9 k10 (shm_1973 f0))⟩
  have nf1 : fc_1 PRD (23, [9, 5], [70000000, 1, -200000]) ws (vs) := ⟨nf_in hl rfl, sgq_1975 (vc_Pn_layGrid_3_1 (v_iv (n_v vs 5)) (v_iv (n_v vs 8)) (v_iv (n_v vs 9)) k5 k8 k9 (shm_7 f2) (shm_22 f3))⟩
  have nf2 : fc_1 PRD (23, [9], [0, -1]) ws (vs) := ⟨nf_in hl rfl, sgq_1013 (vc_Pn_layGrid_3_2 (v_iv (n_v vs 9)) k9)⟩
  have nf3 : fc_1 PRD (24, [0, 0], []) ws (vs) := by
    refine ⟨nf_in hl rfl, sgq_1 ?_⟩
    · show n_v vs 0 = n_v vs 0
      first | rfl | simp only [q7]
  refine ⟨(fun _ h => (by cases h)), [], trivial, ?_, (fun _ h => (by cases h))⟩
  rw [List.append_nil]
  exact List.forall_mem_cons.mpr ⟨⟨show (20 : Nat) < 100 from by decide, nf0⟩, List.forall_mem_cons.mpr ⟨⟨show (23 : Nat) < 100 from by decide, nf1⟩, List.forall_mem_cons.mpr ⟨⟨show (23 : Nat) < 100 from by decide, nf2⟩, List.forall_mem_cons.mpr ⟨⟨show (24 : Nat) < 100 from by decide, nf3⟩, (fun _ h => (by cases h))⟩⟩⟩⟩
def o_Pn_layGrid_4 : or_T := (67, 15, [(4, (2, 0, 0, [12])), (5, (0, 0, 3066, [])), (9, (2, 0, 0, [0]))], [(20, [4, 5, 9], [62, 2000000])], [], [], [(20, [4, 5], [62, 2000006])], [], [])
theorem oo_Pn_layGrid_4 {kA : Nat → ClassId} : or_ok PRD kA GG o_Pn_layGrid_4 := by
  refine or_mk fun A ta ws vs hD hth hl => ?_
  intro t4 r4 t5 k5 t9 r9 f0
  replace f0 := shm_1368 f0
  have nf0 : fc_1 PRD (20, [4, 5], [62, 2000006]) ws (vs) := by
    refine ⟨nf_in hl rfl, sgq_295 ?_⟩
    · show HY ws (n_v vs 4) (v_iv (n_v vs 5) + (((2000006 : Nat) : Int) - 2000000))
      exact hy_le f0.1 (by omega)
  refine ⟨(fun _ h => (by cases h)), [], trivial, ?_, (fun _ h => (by cases h))⟩
  rw [List.append_nil]
  exact List.forall_mem_cons.mpr ⟨⟨show (20 : Nat) < 100 from by decide, nf0⟩, (fun _ h => (by cases h))⟩
set_option maxHeartbeats 4000000 in
theorem vc_Pn_layGrid_5_0 (x5 : Int) (x10 : Int) (x11 : Int) (x13 : Int) (x14 : Int) (nodes_0o12 : Int) (y_0o9 : Int → Int) (k5 : 0 ≤ x5 ∧ x5 ≤ 3066) (k10 : 0 ≤ x10 ∧ x10 ≤ 690000000) (k11 : 0 ≤ x11 ∧ x11 ≤ 24) (k13 : 0 ≤ x13 ∧ x13 ≤ 24) (k14 : 0 ≤ x14 ∧ x14 ≤ 0) (d0 : x13 + 0 ≤ x11 ∧ x11 ≤ x13 + 4294967296) (g1 : x13 = nodes_0o12) (f2 : DYG (y_0o9) (x5) (x10) (x11)) (kz_12_5 : 0 ≤ nodes_0o12 ∧ nodes_0o12 ≤ 24) : DYI (nodes_0o12) (y_0o9) (x10) (x14) := by
  first
    | exact dyi_of ‹DYG _ _ _ _› (by omega)
    | exact dyi_step ‹DYI _ _ _ _› (by omega) (by assumption) (by omega)
  
def o_Pn_layGrid_5 : or_T := (67, 15, [(0, (2, 0, 0, [7])), (5, (0, 0, 3066, [])), (6, (2, 0, 0, [7])), (9, (2, 0, 0, [0])), (10, (0, 0, 690000000, [])), (11, (0, 0, 24, [])), (12, (2, 0, 0, [294])), (13, (0, 0, 24, [])), (14, (0, 0, 0, []))], [(7, [11, 13], [3]), (9, [13, 12], [5]), (20, [9, 5, 10, 11], [60, 0, 1, 881, 3]), (23, [10, 5], [70000000, 1, -200000]), (23, [10], [0, -1]), (24, [0, 6], [])], [], [], [(20, [9, 12, 10, 14], [60, 1, 1, 882, 1005, 3])], [], [(11, 13, 0, 4294967296), (10, 11, -4294967296, 689999999)])
theorem oo_Pn_layGrid_5 {kA : Nat → ClassId} : or_ok PRD kA GG o_Pn_layGrid_5 := by
  refine or_mk fun A ta ws vs hD hth hl => ?_
  intro t0 r0 t5 k5 t6 r6 t9 r9 t10 k10 t11 k11 t12 r12 t13 k13 t14 k14 d0 d1 f0 f1 f2 f3 f4 f5
  replace f1 := shm_109 f1
  have g1 : v_iv (n_v vs 13) = w_fi ws (n_v vs 12) 5 := congrArg v_iv f1
  have kz_12_5 := fdq_98 hD hth r12
  have nf0 : fc_1 PRD (20, [9, 12, 10, 14], [60, 1, 1, 882, 1005, 3]) ws (vs) := ⟨nf_in hl rfl, sgq_1976 (vc_Pn_layGrid_5_0 (v_iv (n_v vs 5)) (v_iv (n_v vs 10)) (v_iv (n_v vs 11)) (v_iv (n_v vs 13)) (v_iv (n_v vs 14)) (w_fi ws (n_v vs 12) 5) (w_ei ws (w_ar ws (n_v vs 9) 3)) k5 k10 k11 k13 k14 d0 g1 (shm_1974 f2) kz_12_5)⟩
  refine ⟨(fun _ h => (by cases h)), [], trivial, ?_, (fun _ h => (by cases h))⟩
  rw [List.append_nil]
  exact List.forall_mem_cons.mpr ⟨⟨show (20 : Nat) < 100 from by decide, nf0⟩, (fun _ h => (by cases h))⟩
set_option maxHeartbeats 4000000 in
theorem vc_Pn_layGrid_6_0 (x5 : Int) (x10 : Int) (x11 : Int) (x15 : Int) (x16 : Int) (x17 : Int) (y_0o9 : Int → Int) (k5 : 0 ≤ x5 ∧ x5 ≤ 3066) (k10 : 0 ≤ x10 ∧ x10 ≤ 690000000) (k11 : 0 ≤ x11 ∧ x11 ≤ 23) (k15 : (-40000000) ≤ x15 ∧ x15 ≤ 690000000) (k16 : 0 ≤ x16 ∧ x16 ≤ 690000000) (k17 : 1 ≤ x17 ∧ x17 ≤ 24) (f0 : x17 = x11 + 1) (f1 : 1 * x10 + ((-1) * x16 + 0) ≤ 0) (f2 : 1 * x15 + ((-1) * x16 + 0) ≤ 0) (h4 : x15 = y_0o9 (x11)) (f8 : DYG (y_0o9) (x5) (x10) (x11)) : DYG (y_0o9) (x5) (x16) (x17) := by
  first
    | exact ⟨‹DYB _ _›, fun v a b => by exfalso; omega⟩
    | exact dyg_step ‹DYG _ _ _ _› (by omega) (by assumption) (by omega) (by omega)
  
set_option maxHeartbeats 4000000 in
theorem vc_Pn_layGrid_6_1 (x5 : Int) (x10 : Int) (x11 : Int) (x15 : Int) (x16 : Int) (x17 : Int) (y_0o9 : Int → Int) (k5 : 0 ≤ x5 ∧ x5 ≤ 3066) (k10 : 0 ≤ x10 ∧ x10 ≤ 690000000) (k11 : 0 ≤ x11 ∧ x11 ≤ 23) (k15 : (-40000000) ≤ x15 ∧ x15 ≤ 690000000) (k16 : 0 ≤ x16 ∧ x16 ≤ 690000000) (k17 : 1 ≤ x17 ∧ x17 ≤ 24) (d0 : x11 + 1 ≤ x17 ∧ x17 ≤ x11 + 1) (f3 : (x16 = x10) ∨ (x16 = x15)) (h4 : x15 = y_0o9 (x11)) (f8 : DYG (y_0o9) (x5) (x10) (x11)) (f9 : 1 * x10 + ((-200000) * x5 + 0) ≤ 70000000) : 1 * x16 + ((-200000) * x5 + 0) ≤ 70000000 := by
  first
    | omega
    | (have h := (‹DYG _ _ _ _›).1 x11 (by omega) (by omega); omega)
    | (have h := ‹DYI _ _ _ _› x11 (by omega) (by omega) (by omega) (by omega); omega)
  
set_option maxHeartbeats 4000000 in
theorem vc_Pn_layGrid_6_2 (x11 : Int) (x16 : Int) (k16 : 0 ≤ x16 ∧ x16 ≤ 690000000) : (-1) * x16 + 0 ≤ 0 := by
  first
    | omega
    | (have h := (‹DYG _ _ _ _›).1 x11 (by omega) (by omega); omega)
    | (have h := ‹DYI _ _ _ _› x11 (by omega) (by omega) (by omega) (by omega); omega)
  
def o_Pn_layGrid_6 : or_T := (32, 18, [(5, (0, 0, 3066, [])), (10, (0, 0, 690000000, [])), (11, (0, 0, 23, [])), (15, (0, -40000000, 690000000, [])), (16, (0, 0, 690000000, [])), (17, (0, 1, 24, []))], [(6, [17, 11], [1]), (23, [10, 16], [0, 1, -1]), (23, [15, 16], [0, 1, -1]), (20, [16, 10, 15], [50, 0, 0, 3, 6, 1, 2, 1, 0, 1, 1, 1, 2, 1, 0, 1, 2]), (10, [15, 14, 11], []), (9, [14, 9], [3]), (20, [9, 5, 10, 11], [60, 0, 1, 881, 3]), (23, [10, 5], [70000000, 1, -200000])], [], [], [(20, [9, 5, 16, 17], [60, 0, 1, 881, 3]), (23, [16, 5], [70000000, 1, -200000]), (23, [16], [0, -1])], [], [(17, 11, 1, 1)])
theorem oo_Pn_layGrid_6 {kA : Nat → ClassId} : or_ok PRD kA GG o_Pn_layGrid_6 := by
  refine or_mk fun A ta ws vs hD hth hl => ?_
  intro t5 k5 t10 k10 t11 k11 t15 k15 t16 k16 t17 k17 d0 f0 f1 f2 f3 f4 f5 f8 f9
  replace f4 := shm_106 f4
  replace f5 := shm_149 f5
  have ad_14 : v_ad (n_v vs 14) = w_ar ws (n_v vs 9) 3 := congrArg v_ad f5
  simp only [ad_14] at f4
  have h4 : v_iv (n_v vs 15) = w_ei ws (w_ar ws (n_v vs 9) 3) (v_iv (n_v vs 11)) := f4
  have nf0 : fc_1 PRD (20, [9, 5, 16, 17], [60, 0, 1, 881, 3]) ws (vs) := ⟨nf_in hl rfl, sgq_1974 (vc_Pn_layGrid_6_0 (v_iv (n_v vs 5)) (v_iv (n_v vs 10)) (v_iv (n_v vs 11)) (v_iv (n_v vs 15)) (v_iv (n_v vs 16)) (v_iv (n_v vs 17)) (w_ei ws (w_ar ws (n_v vs 9) 3)) k5 k10 k11 k15 k16 k17 (shm_4 f0) (shm_7 f1) (shm_7 f2) h4 (shm_1974 f8))⟩
  have nf1 : fc_1 PRD (23, [16, 5], [70000000, 1, -200000]) ws (vs) := ⟨nf_in hl rfl, sgq_1975 (vc_Pn_layGrid_6_1 (v_iv (n_v vs 5)) (v_iv (n_v vs 10)) (v_iv (n_v vs 11)) (v_iv (n_v vs 15)) (v_iv (n_v vs 16)) (v_iv (n_v vs 17)) (w_ei ws (w_ar ws (n_v vs 9) 3)) k5 k10 k11 k15 k16 k17 d0 (shm_870 f3) h4 (shm_1974 f8) (shm_1975 f9))⟩
  have nf2 : fc_1 PRD (23, [16], [0, -1]) ws (vs) := ⟨nf_in hl rfl, sgq_1013 (vc_Pn_layGrid_6_2 (v_iv (n_v vs 11)) (v_iv (n_v vs 16)) k16)⟩
  refine ⟨(fun _ h => (by cases h)), [], trivial, ?_, (fun _ h => (by cases h))⟩
  rw [List.append_nil]
  exact List.forall_mem_cons.mpr ⟨⟨show (20 : Nat) < 100 from by decide, nf0⟩, List.forall_mem_cons.mpr ⟨⟨show (23 : Nat) < 100 from by decide, nf1⟩, List.forall_mem_cons.mpr ⟨⟨show (23 : Nat) < 100 from by decide, nf2⟩, (fun _ h => (by cases h))⟩⟩⟩
set_option maxHeartbeats 4000000 in
theorem vc_Pn_layGrid_7_r0 (x5 : Int) (x10 : Int) (x11 : Int) (x13 : Int) (x15 : Int) (x16 : Int) (y_0o9 : Int → Int) (nodes_0o12 : Int) (k5 : 0 ≤ x5 ∧ x5 ≤ 3066) (k10 : 0 ≤ x10 ∧ x10 ≤ 690000000) (k11 : 0 ≤ x11 ∧ x11 ≤ 23) (k13 : 1 ≤ x13 ∧ x13 ≤ 24) (k15 : (-40000000) ≤ x15 ∧ x15 ≤ 690000000) (k16 : (-690000000) ≤ x16 ∧ x16 ≤ 730000000) (d1 : x13 + (-4294967296) ≤ x11 ∧ x11 ≤ x13 + (-1)) (f0 : x16 = x10 - x15) (h1 : x15 = y_0o9 (x11)) (g4 : x13 = nodes_0o12) (f5 : DYI (nodes_0o12) (y_0o9) (x10) (x11)) (f6 : 1 * x10 + ((-200000) * x5 + 0) ≤ 70000000) (kz_12_5 : 0 ≤ nodes_0o12 ∧ nodes_0o12 ≤ 24) : 0 ≤ x16 ∧ x16 ≤ 690000000 := by
  first
    | omega
    | (have h := (‹DYG _ _ _ _›).1 x11 (by omega) (by omega); omega)
    | (have h := ‹DYI _ _ _ _› x11 (by omega) (by omega) (by omega) (by omega); omega)
  
set_option maxHeartbeats 4000000 in
theorem vc_Pn_layGrid_7_0 (x5 : Int) (x10 : Int) (x11 : Int) (x13 : Int) (x15 : Int) (x16 : Int) (y_0o9 : Int → Int) (nodes_0o12 : Int) (k5 : 0 ≤ x5 ∧ x5 ≤ 3066) (k10 : 0 ≤ x10 ∧ x10 ≤ 690000000) (k11 : 0 ≤ x11 ∧ x11 ≤ 23) (k13 : 1 ≤ x13 ∧ x13 ≤ 24) (k15 : (-40000000) ≤ x15 ∧ x15 ≤ 690000000) (k16 : (-690000000) ≤ x16 ∧ x16 ≤ 730000000) (d1 : x13 + (-4294967296) ≤ x11 ∧ x11 ≤ x13 + (-1)) (f0 : x16 = x10 - x15) (h1 : x15 = y_0o9 (x11)) (g4 : x13 = nodes_0o12) (f5 : DYI (nodes_0o12) (y_0o9) (x10) (x11)) (f6 : 1 * x10 + ((-200000) * x5 + 0) ≤ 70000000) (kz_12_5 : 0 ≤ nodes_0o12 ∧ nodes_0o12 ≤ 24) : 1 * x16 + ((-200000) * x5 + 0) ≤ 71000000 := by
  first
    | omega
    | (have h := (‹DYG _ _ _ _›).1 x11 (by omega) (by omega); omega)
    | (have h := ‹DYI _ _ _ _› x11 (by omega) (by omega) (by omega) (by omega); omega)
  
def o_Pn_layGrid_7 : or_T := (95, 17, [(0, (2, 0, 0, [7])), (5, (0, 0, 3066, [])), (6, (2, 0, 0, [7])), (9, (2, 0, 0, [0])), (10, (0, 0, 690000000, [])), (11, (0, 0, 23, [])), (12, (2, 0, 0, [294])), (13, (0, 1, 24, [])), (14, (2, 0, 0, [15])), (15, (0, -40000000, 690000000, [])), (16, (0, -690000000, 730000000, []))], [(2, [16, 10, 15], []), (10, [15, 14, 11], []), (9, [14, 9], [3]), (7, [11, 13], [2]), (9, [13, 12], [5]), (20, [9, 12, 10, 11], [60, 1, 1, 882, 1005, 3]), (23, [10, 5], [70000000, 1, -200000]), (23, [10], [0, -1]), (24, [0, 6], [])], [(16, (0, 0, 690000000, []))], [], [(23, [16, 5], [71000000, 1, -200000])], [], [(16, 10, -690000000, 40000000), (11, 13, -4294967296, -1)])
theorem oo_Pn_layGrid_7 {kA : Nat → ClassId} : or_ok PRD kA GG o_Pn_layGrid_7 := by
  refine or_mk fun A ta ws vs hD hth hl => ?_
  intro t0 r0 t5 k5 t6 r6 t9 r9 t10 k10 t11 k11 t12 r12 t13 k13 t14 r14 t15 k15 t16 k16 d0 d1 f0 f1 f2 f3 f4 f5 f6 f7 f8
  replace f1 := shm_106 f1
  replace f2 := shm_149 f2
  replace f4 := shm_109 f4
  have ad_14 : v_ad (n_v vs 14) = w_ar ws (n_v vs 9) 3 := congrArg v_ad f2
  simp only [ad_14] at f1
  have h1 : v_iv (n_v vs 15) = w_ei ws (w_ar ws (n_v vs 9) 3) (v_iv (n_v vs 11)) := f1
  have g4 : v_iv (n_v vs 13) = w_fi ws (n_v vs 12) 5 := congrArg v_iv f4
  have kz_12_5 := fdq_98 hD hth r12
  have hrf0 : 0 ≤ v_iv (n_v vs 16) ∧ v_iv (n_v vs 16) ≤ 690000000 := vc_Pn_layGrid_7_r0 (v_iv (n_v vs 5)) (v_iv (n_v vs 10)) (v_iv (n_v vs 11)) (v_iv (n_v vs 13)) (v_iv (n_v vs 15)) (v_iv (n_v vs 16)) (w_ei ws (w_ar ws (n_v vs 9) 3)) (w_fi ws (n_v vs 12) 5) k5 k10 k11 k13 k15 k16 d1 (shm_14 f0) h1 g4 (shm_1976 f5) (shm_1975 f6) kz_12_5
  have nf0 : fc_1 PRD (23, [16, 5], [71000000, 1, -200000]) ws (vs) := ⟨nf_in hl rfl, sgq_1977 (vc_Pn_layGrid_7_0 (v_iv (n_v vs 5)) (v_iv (n_v vs 10)) (v_iv (n_v vs 11)) (v_iv (n_v vs 13)) (v_iv (n_v vs 15)) (v_iv (n_v vs 16)) (w_ei ws (w_ar ws (n_v vs 9) 3)) (w_fi ws (n_v vs 12) 5) k5 k10 k11 k13 k15 k16 d1 (shm_14 f0) h1 g4 (shm_1976 f5) (shm_1975 f6) kz_12_5)⟩
  have rf16 : tv_ok ta (0, 0, 690000000, []) (n_v vs 16) := tv_in t16 (by first | omega | grind) (by first | omega | grind)
  refine ⟨List.forall_mem_cons.mpr ⟨rf16, (fun _ h => (by cases h))⟩, [], trivial, ?_, (fun _ h => (by cases h))⟩
  rw [List.append_nil]
  exact List.forall_mem_cons.mpr ⟨⟨show (23 : Nat) < 100 from by decide, nf0⟩, (fun _ h => (by cases h))⟩
def o_Pn_layGrid_8 : or_T := (96, 17, [(4, (2, 0, 0, [12])), (5, (0, 0, 3066, [])), (11, (0, 0, 23, [])), (14, (2, 0, 0, [15])), (16, (0, 0, 690000000, []))], [(100, [14, 11, 16], []), (23, [16, 5], [71000000, 1, -200000]), (20, [4, 5], [62, 2000006])], [], [], [(20, [4, 5], [62, 2000006])], [], [])
theorem oo_Pn_layGrid_8 {kA : Nat → ClassId} : or_ok PRD kA GG o_Pn_layGrid_8 := by
  refine or_mk fun A ta ws vs hD hth hl => ?_
  intro t4 r4 t5 k5 t11 k11 t14 r14 t16 k16 ta1 w1 le1 s1 f1 f2
  have s1 : (∀ b j, w_el ws b j = if b = v_ad (n_v vs 14) ∧ j = (v_iv (n_v vs 11)).toNat then v_iv (n_v vs 16) else w_el w1 b j) ∧ ∀ b k, w_fd ws b k = w_fd w1 b k := s1.2
  replace f1 := shm_1977 f1
  replace f2 := shm_295 f2
  have nf0 : fc_1 PRD (20, [4, 5], [62, 2000006]) ws (vs) := by
    refine ⟨nf_in hl rfl, sgq_295 ?_⟩
    · show HY ws (n_v vs 4) (v_iv (n_v vs 5) + (((2000006 : Nat) : Int) - 2000000))
      have hn := hy_ne (k := 3) (g := GG_12) hD hth r4 rfl (by decide) rfl rfl r14 (by decide) s1.2
      have hn0 := hy_ne (k := 0) (g := GG_12) hD hth r4 rfl (by decide) rfl rfl r14 (by decide) s1.2
      exact hy_st (hy_le f2 (by omega)) s1 hn hn0 (by omega) (by omega)
  refine ⟨(fun _ h => (by cases h)), [], trivial, ?_, (fun _ h => (by cases h))⟩
  rw [List.append_nil]
  exact List.forall_mem_cons.mpr ⟨⟨show (20 : Nat) < 100 from by decide, nf0⟩, (fun _ h => (by cases h))⟩
set_option maxHeartbeats 4000000 in
theorem vc_Pn_layGrid_9_0 (x10 : Int) (x11 : Int) (x16 : Int) (x17 : Int) (nodes_0o12 : Int) (y_1o9 : Int → Int) (nodes_1o12 : Int) (y_0o9 : Int → Int) (k10 : 0 ≤ x10 ∧ x10 ≤ 690000000) (k11 : 0 ≤ x11 ∧ x11 ≤ 23) (k16 : 0 ≤ x16 ∧ x16 ≤ 690000000) (k17 : 1 ≤ x17 ∧ x17 ≤ 24) (f2 : x17 = x11 + 1) (f12 : DYI (nodes_1o12) (y_1o9) (x10) (x11)) (fe_12_5_1 : nodes_0o12 = nodes_1o12) (hE_9_3_1 : ∀ j : Int, 0 ≤ j → (j = x11 → y_0o9 j = x16) ∧ (j ≠ x11 → y_0o9 j = y_1o9 j)) (kz_12_5 : 0 ≤ nodes_0o12 ∧ nodes_0o12 ≤ 24) : DYI (nodes_0o12) (y_0o9) (x10) (x17) := by
  subst fe_12_5_1
  first
    | exact dyi_of ‹DYG _ _ _ _› (by omega)
    | exact dyi_step ‹DYI _ _ _ _› (by omega) (by assumption) (by omega)
  
def o_Pn_layGrid_9 : or_T := (67, 18, [(9, (2, 0, 0, [0])), (10, (0, 0, 690000000, [])), (11, (0, 0, 23, [])), (12, (2, 0, 0, [294])), (16, (0, 0, 690000000, [])), (17, (0, 1, 24, []))], [(9, [14, 9], [3]), (6, [17, 11], [1]), (100, [14, 11, 16], []), (20, [9, 12, 10, 11], [60, 1, 1, 882, 1005, 3])], [], [], [(20, [9, 12, 10, 17], [60, 1, 1, 882, 1005, 3])], [], [(17, 11, 1, 1), (16, 10, -690000000, 40000000), (11, 13, -4294967296, -1)])
theorem oo_Pn_layGrid_9 {kA : Nat → ClassId} : or_ok PRD kA GG o_Pn_layGrid_9 := by
  refine or_mk fun A ta ws vs hD hth hl => ?_
  intro t9 r9 t10 k10 t11 k11 t12 r12 t16 k16 t17 k17 d0 d2 d3 f0 f2 ta1 w1 le1 s1 f12
  replace f0 := shm_149 f0
  have s1 : (∀ b j, w_el ws b j = if b = v_ad (n_v vs 14) ∧ j = (v_iv (n_v vs 11)).toNat then v_iv (n_v vs 16) else w_el w1 b j) ∧ ∀ b k, w_fd ws b k = w_fd w1 b k := s1.2
  replace f12 := shm_1976 f12
  have ar_9_3_1 : w_ar w1 (n_v vs 9) 3 = w_ar ws (n_v vs 9) 3 := congrArg v_ad (s1.2 _ _).symm
  have ad_14 : v_ad (n_v vs 14) = w_ar ws (n_v vs 9) 3 := congrArg v_ad f0
  simp only [ar_9_3_1] at f12
  have fe_12_5_1 : w_fi ws (n_v vs 12) 5 = w_fi w1 (n_v vs 12) 5 := congrArg v_iv (s1.2 _ _)
  have hE_9_3_1 : ∀ j : Int, 0 ≤ j → (j = v_iv (n_v vs 11) → w_ei ws (w_ar ws (n_v vs 9) 3) j = v_iv (n_v vs 16)) ∧ (j ≠ v_iv (n_v vs 11) → w_ei ws (w_ar ws (n_v vs 9) 3) j = w_ei w1 (w_ar ws (n_v vs 9) 3) j) := fun j hj => ⟨fun h => by unfold w_ei; rw [s1.1, if_pos ⟨ad_14.symm, by rw [h]⟩], fun h => by unfold w_ei; rw [s1.1, if_neg (fun e => h (by have := e.2; omega))]⟩
  have kz_12_5 := fdq_98 hD hth r12
  have nf0 : fc_1 PRD (20, [9, 12, 10, 17], [60, 1, 1, 882, 1005, 3]) ws (vs) := ⟨nf_in hl rfl, sgq_1976 (vc_Pn_layGrid_9_0 (v_iv (n_v vs 10)) (v_iv (n_v vs 11)) (v_iv (n_v vs 16)) (v_iv (n_v vs 17)) (w_fi ws (n_v vs 12) 5) (w_ei w1 (w_ar ws (n_v vs 9) 3)) (w_fi w1 (n_v vs 12) 5) (w_ei ws (w_ar ws (n_v vs 9) 3)) k10 k11 k16 k17 (shm_4 f2) f12 fe_12_5_1 hE_9_3_1 kz_12_5)⟩
  refine ⟨(fun _ h => (by cases h)), [], trivial, ?_, (fun _ h => (by cases h))⟩
  rw [List.append_nil]
  exact List.forall_mem_cons.mpr ⟨⟨show (20 : Nat) < 100 from by decide, nf0⟩, (fun _ h => (by cases h))⟩
def n_Pn_layGrid_an : List an_T := [(32, [(0, (2, 0, 0, [7])), (1, (2, 0, 0, [2])), (2, (2, 0, 0, [5])), (3, (2, 0, 0, [0])), (4, (0, 0, 690000000, [])), (5, (0, 0, 24, []))], [], (0, 0), [(0, 0, 99968), (1, 11, 24), (0, 0, 100000)], [(10, 11, (Int.negSucc 999999999999), 689999999)], [], [(2, 0, 0, [7]), (2, 0, 0, [2]), (2, 0, 0, [5]), (2, 0, 0, [0]), (2, 0, 0, [12]), (0, 0, 3066, [])], 0, [], [(20, [4, 5, 9], [62, 2000000]), (20, [9, 5, 10, 11], [60, 0, 1, 881, 3]), (23, [10, 5], [70000000, 1, (Int.negSucc 199999)]), (23, [10], [0, (Int.negSucc 0)]), (24, [0, 6], [])]), (67, [(0, (2, 0, 0, [7])), (1, (2, 0, 0, [2])), (2, (2, 0, 0, [5])), (3, (2, 0, 0, [0])), (4, (0, 0, 690000000, [])), (5, (0, 0, 24, []))], [], (0, 0), [(0, 0, 99933), (1, 11, 24), (0, 0, 100000)], [], [((0, 0), (2, 0, 0, [294]))], [(2, 0, 0, [7]), (2, 0, 0, [2]), (2, 0, 0, [5]), (2, 0, 0, [0]), (2, 0, 0, [12]), (0, 0, 3066, [])], 0, [], [(20, [4, 5], [62, 2000006]), (20, [9, 12, 10, 11], [60, 1, 1, 882, 1005, 3]), (23, [10, 5], [70000000, 1, (Int.negSucc 199999)]), (23, [10], [0, (Int.negSucc 0)]), (24, [0, 6], [])])]
def t_Pn_layGrid_ct : ct_L := [(1, 68, e_Ne_copyFrom), (1, 72, e_Pn_joinParts), (1, 76, e_Pn_fillFaces), (1, 79, e_Pn_findOrder), (1, 82, e_Pn_placeByOrder), (1, 98, e_Dr_dropBends), (162, 92, e_jMath_max1_v770), (162, 92, e_jMath_max1_v771)]
set_option maxRecDepth 100000 in
theorem c_Pn_layGrid {l : Launch} {D : va_G} {kA : Nat → ClassId} (h_Dr_dropBends : ct_ok PRD l D kA GG y_Dr_dropBends z_Dr_dropBends e_Dr_dropBends) (h_Ne_copyFrom : ct_ok PRD l D kA GG y_Ne_copyFrom z_Ne_copyFrom e_Ne_copyFrom) (h_Pn_fillFaces : ct_ok PRD l D kA GG y_Pn_fillFaces z_Pn_fillFaces e_Pn_fillFaces) (h_Pn_findOrder : ct_ok PRD l D kA GG y_Pn_findOrder z_Pn_findOrder e_Pn_findOrder) (h_Pn_joinParts : ct_ok PRD l D kA GG y_Pn_joinParts z_Pn_joinParts e_Pn_joinParts) (h_Pn_placeByOrder : ct_ok PRD l D kA GG y_Pn_placeByOrder z_Pn_placeByOrder e_Pn_placeByOrder) : ct_ok PRD l D kA GG y_Pn_layGrid z_Pn_layGrid e_Pn_layGrid := chk_all_ok (FT := [(12, 7, 0), (86, 5, 5), (87, 0, 3)]) (PT := []) (CT := t_Pn_layGrid_ct) (KT := []) (NT := []) (AN := n_Pn_layGrid_an) (OT := [o_Pn_layGrid_0, o_Pn_layGrid_1, o_Pn_layGrid_2, o_Pn_layGrid_3, o_Pn_layGrid_4, o_Pn_layGrid_5, o_Pn_layGrid_6, o_Pn_layGrid_7, o_Pn_layGrid_8, o_Pn_layGrid_9]) 3 216 (List.forall_mem_cons.mpr ⟨oo_Pn_layGrid_0, List.forall_mem_cons.mpr ⟨oo_Pn_layGrid_1, List.forall_mem_cons.mpr ⟨oo_Pn_layGrid_2, List.forall_mem_cons.mpr ⟨oo_Pn_layGrid_3, List.forall_mem_cons.mpr ⟨oo_Pn_layGrid_4, List.forall_mem_cons.mpr ⟨oo_Pn_layGrid_5, List.forall_mem_cons.mpr ⟨oo_Pn_layGrid_6, List.forall_mem_cons.mpr ⟨oo_Pn_layGrid_7, List.forall_mem_cons.mpr ⟨oo_Pn_layGrid_8, List.forall_mem_cons.mpr ⟨oo_Pn_layGrid_9, List.forall_mem_nil _⟩⟩⟩⟩⟩⟩⟩⟩⟩⟩) (by decide +kernel) ⟨List.forall_mem_cons.mpr ⟨gf_Pn_12, List.forall_mem_cons.mpr ⟨gf_Pn_86, List.forall_mem_cons.mpr ⟨gf_Pn_87, List.forall_mem_nil _⟩⟩⟩, List.forall_mem_nil _, List.forall_mem_cons.mpr ⟨cl_virtual (y := y_Ne_copyFrom) (ci := 5) rfl rfl ⟨_, _, rfl⟩ (by decide +kernel) h_Ne_copyFrom wm_1512 wm_6 wm_1509 wm_1510 wm_1511 ⟨by decide, by decide, by decide +kernel⟩ (by decide), List.forall_mem_cons.mpr ⟨cl_virtual (y := y_Pn_joinParts) (ci := 7) rfl rfl ⟨_, _, rfl⟩ (by decide +kernel) h_Pn_joinParts wm_1517 wm_20 wm_1514 wm_1516 wv_6_5 ⟨by decide, by decide, by decide +kernel⟩ (by decide), List.forall_mem_cons.mpr ⟨cl_virtual (y := y_Pn_fillFaces) (ci := 7) rfl rfl ⟨_, _, rfl⟩ (by decide +kernel) h_Pn_fillFaces wm_1535 wm_20 wm_1532 wm_1534 wv_6_6 ⟨by decide, by decide, by decide +kernel⟩ (by decide), List.forall_mem_cons.mpr ⟨cl_virtual (y := y_Pn_findOrder) (ci := 7) rfl rfl ⟨_, _, rfl⟩ (by decide +kernel) h_Pn_findOrder wm_1550 wm_20 wm_1547 wm_1549 wv_6_9 ⟨by decide, by decide, by decide +kernel⟩ (by decide), List.forall_mem_cons.mpr ⟨cl_virtual (y := y_Pn_placeByOrder) (ci := 7) rfl rfl ⟨_, _, rfl⟩ (by decide +kernel) h_Pn_placeByOrder wm_1569 wm_20 wm_1566 wm_1568 wv_6_13 ⟨by decide, by decide, by decide +kernel⟩ (by decide), List.forall_mem_cons.mpr ⟨cl_virtual (y := y_Dr_dropBends) (ci := 0) rfl rfl ⟨_, _, rfl⟩ (by decide +kernel) h_Dr_dropBends wm_1460 wm_8 wm_1579 wm_1458 wm_1459 ⟨by decide, by decide, by decide +kernel⟩ (by decide), List.forall_mem_cons.mpr ⟨cl_static (y := y_jMath_max1) c_jMath_max1_v770 wm_836 wm_10 wm_1574 wm_835 ⟨by decide, by decide, by decide +kernel⟩ (by decide), List.forall_mem_cons.mpr ⟨cl_static (y := y_jMath_max1) c_jMath_max1_v771 wm_836 wm_10 wm_1574 wm_835 ⟨by decide, by decide, by decide +kernel⟩ (by decide), List.forall_mem_nil _⟩⟩⟩⟩⟩⟩⟩⟩, List.forall_mem_nil _, List.forall_mem_nil _, GG_pl⟩ (by decide +kernel)
set_option maxHeartbeats 4000000 in
theorem vc_Re_readNode_0_0 (number_0 : Int) (gx : Int) (kz_0_9 : (-2147483648) ≤ number_0 ∧ number_0 ≤ 1000000) (ex2 : gx = number_0) : 1 * number_0 + ((-1) * gx + 0) ≤ 0 := by
  first
    | omega
  
set_option maxHeartbeats 4000000 in
theorem vc_Re_readNode_0_1 (number_0 : Int) (gx : Int) (kz_0_9 : (-2147483648) ≤ number_0 ∧ number_0 ≤ 1000000) (ex2 : gx = number_0) : (-1) * number_0 + (1 * gx + 0) ≤ 0 := by
  first
    | omega
  
def o_Re_readNode_0 : or_T := (1, 2, [(0, (2, 0, 0, [8]))], [], [], [(0, -2147483648, 1000000, [])], [(20, [0, 2], [30, 0, 1, 1, 9, -1, 0, 0]), (20, [0, 2], [30, 0, -1, 1, 9, 1, 0, 0])], [], [])
theorem oo_Re_readNode_0 {kA : Nat → ClassId} : or_ok PRD kA GG o_Re_readNode_0 := by
  refine or_mk fun A ta ws vs hD hth hl => ?_
  intro t0 r0
  have kz_0_9 := fdq_27 hD hth r0
  obtain ⟨x, ex, hx⟩ := iv_ex (ta := ta) (lo := (-2147483648)) (hi := 1000000) (z := w_fi ws (n_v vs 0) 9) (by omega) (by omega) (by omega) (by omega)
  have ex2 : v_iv (Value.int x) = w_fi ws (n_v vs 0) 9 := ex
  have ex3 : (-2147483648) ≤ v_iv (Value.int x) ∧ v_iv (Value.int x) ≤ 1000000 := tv_rng hx
  have e_0 : n_v (vs ++ [Value.int x]) 0 = n_v vs 0 := n_v_old (by rw [hl]; decide)
  have e_2 : n_v (vs ++ [Value.int x]) 2 = Value.int x := n_v_new hl
  have nf0 : fc_1 PRD (20, [0, 2], [30, 0, 1, 1, 9, -1, 0, 0]) ws (vs ++ [Value.int x]) := by
    refine ⟨nf_inA hl rfl, sgq_199 ?_⟩
    · show 1 * w_fi ws (n_v (vs ++ [Value.int x]) 0) 9 + ((-1) * v_iv (n_v (vs ++ [Value.int x]) 2) + 0) ≤ 0
      simp only [e_0, e_2]
      exact vc_Re_readNode_0_0 (w_fi ws (n_v vs 0) 9) (v_iv (Value.int x)) kz_0_9 ex2
  have nf1 : fc_1 PRD (20, [0, 2], [30, 0, -1, 1, 9, 1, 0, 0]) ws (vs ++ [Value.int x]) := by
    refine ⟨nf_inA hl rfl, sgq_200 ?_⟩
    · show (-1) * w_fi ws (n_v (vs ++ [Value.int x]) 0) 9 + (1 * v_iv (n_v (vs ++ [Value.int x]) 2) + 0) ≤ 0
      simp only [e_0, e_2]
      exact vc_Re_readNode_0_1 (w_fi ws (n_v vs 0) 9) (v_iv (Value.int x)) kz_0_9 ex2
  exact ⟨(fun _ h => (by cases h)), [Value.int x], ag_one hx, List.forall_mem_cons.mpr ⟨⟨show (20 : Nat) < 100 from by decide, nf0⟩, List.forall_mem_cons.mpr ⟨⟨show (20 : Nat) < 100 from by decide, nf1⟩, (fun _ h => (by cases h))⟩⟩, (fun _ h => (by cases h))⟩
set_option maxHeartbeats 4000000 in
theorem vc_Re_readNode_1_0 (x3 : Int) (next_0 : Int) (begin_0 : Int) (k3 : 1 ≤ x3 ∧ x3 ≤ 1) (f6 : 1 * begin_0 + ((-1) * next_0 + 0) ≤ 0) (f7 : 1 * next_0 + ((-1) * begin_0 + (2000 * x3 + 0)) ≤ 2008) (kz_0_6 : 0 ≤ next_0 ∧ next_0 ≤ 2000) (kz_0_8 : 0 ≤ begin_0 ∧ begin_0 ≤ 2000) : 1 * next_0 + ((-1) * begin_0 + 0) ≤ 8 := by
  first
    | omega
  
set_option maxHeartbeats 4000000 in
theorem vc_Re_readNode_1_1 (x3 : Int) (next_0 : Int) (begin_0 : Int) (k3 : 1 ≤ x3 ∧ x3 ≤ 1) (f6 : 1 * begin_0 + ((-1) * next_0 + 0) ≤ 0) (f7 : 1 * next_0 + ((-1) * begin_0 + (2000 * x3 + 0)) ≤ 2008) (kz_0_6 : 0 ≤ next_0 ∧ next_0 ≤ 2000) (kz_0_8 : 0 ≤ begin_0 ∧ begin_0 ≤ 2000) : (-1) * next_0 + (1 * begin_0 + 0) ≤ 0 := by
  first
    | omega
  
def o_Re_readNode_1 : or_T := (18, 4, [(0, (2, 0, 0, [8])), (3, (0, 1, 1, []))], [(20, [0, 0], [30, 0, 1, 1, 8, -1, 1, 6]), (20, [0, 0, 3], [30, 2008, 1, 1, 6, -1, 1, 8, 2000, 0, 0])], [], [], [(20, [0, 0], [30, 8, 1, 1, 6, -1, 1, 8]), (20, [0, 0], [30, 0, -1, 1, 6, 1, 1, 8])], [], [])
theorem oo_Re_readNode_1 {kA : Nat → ClassId} : or_ok PRD kA GG o_Re_readNode_1 := by
  refine or_mk fun A ta ws vs hD hth hl => ?_
  intro t0 r0 t3 k3 f6 f7
  have kz_0_6 := fdq_29 hD hth r0
  have kz_0_8 := fdq_31 hD hth r0
  have nf0 : fc_1 PRD (20, [0, 0], [30, 8, 1, 1, 6, -1, 1, 8]) ws (vs) := ⟨nf_in hl rfl, sgq_1370 (vc_Re_readNode_1_0 (v_iv (n_v vs 3)) (w_fi ws (n_v vs 0) 6) (w_fi ws (n_v vs 0) 8) k3 (shm_204 f6) (shm_229 f7) kz_0_6 kz_0_8)⟩
  have nf1 : fc_1 PRD (20, [0, 0], [30, 0, -1, 1, 6, 1, 1, 8]) ws (vs) := ⟨nf_in hl rfl, sgq_1371 (vc_Re_readNode_1_1 (v_iv (n_v vs 3)) (w_fi ws (n_v vs 0) 6) (w_fi ws (n_v vs 0) 8) k3 (shm_204 f6) (shm_229 f7) kz_0_6 kz_0_8)⟩
  refine ⟨(fun _ h => (by cases h)), [], trivial, ?_, (fun _ h => (by cases h))⟩
  rw [List.append_nil]
  exact List.forall_mem_cons.mpr ⟨⟨show (20 : Nat) < 100 from by decide, nf0⟩, List.forall_mem_cons.mpr ⟨⟨show (20 : Nat) < 100 from by decide, nf1⟩, (fun _ h => (by cases h))⟩⟩
set_option maxHeartbeats 4000000 in
theorem vc_Re_readNode_2_0 (number_0 : Int) (gx : Int) (kz_0_9 : (-2147483648) ≤ number_0 ∧ number_0 ≤ 1000000) (ex2 : gx = number_0) : 1 * number_0 + ((-1) * gx + 0) ≤ 0 := by
  first
    | omega
  
set_option maxHeartbeats 4000000 in
theorem vc_Re_readNode_2_1 (number_0 : Int) (gx : Int) (kz_0_9 : (-2147483648) ≤ number_0 ∧ number_0 ≤ 1000000) (ex2 : gx = number_0) : (-1) * number_0 + (1 * gx + 0) ≤ 0 := by
  first
    | omega
  
def o_Re_readNode_2 : or_T := (34, 6, [(0, (2, 0, 0, [8]))], [], [], [(0, -2147483648, 1000000, [])], [(20, [0, 6], [30, 0, 1, 1, 9, -1, 0, 0]), (20, [0, 6], [30, 0, -1, 1, 9, 1, 0, 0])], [], [])
theorem oo_Re_readNode_2 {kA : Nat → ClassId} : or_ok PRD kA GG o_Re_readNode_2 := by
  refine or_mk fun A ta ws vs hD hth hl => ?_
  intro t0 r0
  have kz_0_9 := fdq_27 hD hth r0
  obtain ⟨x, ex, hx⟩ := iv_ex (ta := ta) (lo := (-2147483648)) (hi := 1000000) (z := w_fi ws (n_v vs 0) 9) (by omega) (by omega) (by omega) (by omega)
  have ex2 : v_iv (Value.int x) = w_fi ws (n_v vs 0) 9 := ex
  have ex3 : (-2147483648) ≤ v_iv (Value.int x) ∧ v_iv (Value.int x) ≤ 1000000 := tv_rng hx
  have e_0 : n_v (vs ++ [Value.int x]) 0 = n_v vs 0 := n_v_old (by rw [hl]; decide)
  have e_6 : n_v (vs ++ [Value.int x]) 6 = Value.int x := n_v_new hl
  have nf0 : fc_1 PRD (20, [0, 6], [30, 0, 1, 1, 9, -1, 0, 0]) ws (vs ++ [Value.int x]) := by
    refine ⟨nf_inA hl rfl, sgq_199 ?_⟩
    · show 1 * w_fi ws (n_v (vs ++ [Value.int x]) 0) 9 + ((-1) * v_iv (n_v (vs ++ [Value.int x]) 6) + 0) ≤ 0
      simp only [e_0, e_6]
      exact vc_Re_readNode_2_0 (w_fi ws (n_v vs 0) 9) (v_iv (Value.int x)) kz_0_9 ex2
  have nf1 : fc_1 PRD (20, [0, 6], [30, 0, -1, 1, 9, 1, 0, 0]) ws (vs ++ [Value.int x]) := by
    refine ⟨nf_inA hl rfl, sgq_200 ?_⟩
    · show (-1) * w_fi ws (n_v (vs ++ [Value.int x]) 0) 9 + (1 * v_iv (n_v (vs ++ [Value.int x]) 6) + 0) ≤ 0
      simp only [e_0, e_6]
      exact vc_Re_readNode_2_1 (w_fi ws (n_v vs 0) 9) (v_iv (Value.int x)) kz_0_9 ex2
  exact ⟨(fun _ h => (by cases h)), [Value.int x], ag_one hx, List.forall_mem_cons.mpr ⟨⟨show (20 : Nat) < 100 from by decide, nf0⟩, List.forall_mem_cons.mpr ⟨⟨show (20 : Nat) < 100 from by decide, nf1⟩, (fun _ h => (by cases h))⟩⟩, (fun _ h => (by cases h))⟩
set_option maxHeartbeats 4000000 in
theorem vc_Re_readNode_3_r0 (x4 : Int) (x5 : Int) (x10 : Int) (x11 : Int) (x13 : Int) (number_0 : Int) (k4 : 0 ≤ x4 ∧ x4 ≤ 23) (k5 : (-1) ≤ x5 ∧ x5 ≤ (-1)) (k10 : 99 ≤ x10 ∧ x10 ≤ 99) (k11 : 1 ≤ x11 ∧ x11 ≤ 1) (k13 : (-2147483648) ≤ x13 ∧ x13 ≤ 1000000) (g0 : x13 = number_0) (f5 : (1 * x11 + 0 ≤ 0) ∨ (1 * number_0 + ((-1) * x10 + 0) ≤ 0)) (f6 : (1 * x11 + 0 ≤ 0) ∨ ((-1) * number_0 + 0 ≤ (-1))) (f9 : x4 ≠ x5) (kz_0_9 : (-2147483648) ≤ number_0 ∧ number_0 ≤ 1000000) : 0 ≤ x13 ∧ x13 ≤ 99 := by
  first
    | omega
  
def o_Re_readNode_3 : or_T := (71, 14, [(0, (2, 0, 0, [8])), (1, (2, 0, 0, [164])), (4, (0, 0, 23, [])), (5, (0, -1, -1, [])), (10, (0, 99, 99, [])), (11, (0, 1, 1, [])), (13, (0, -2147483648, 1000000, []))], [(9, [13, 0], [9]), (8, [11], [1]), (20, [1], [60, 2, 3, 670, 0, 1, 14, 7, 8]), (20, [1], [60, 2, 2, 596, 0, 1, 7, 8]), (20, [4, 1], [50, 1, 0, 1000, 3, 6, 1, 2, 1, 0, 0, -1, 2, 6, 0, 2, 0, 0, 1, 0, 0, 6, 4, 2, 1, 0, 0, 1, 2, 1, 0]), (20, [11, 0, 10], [31, 1, 0, 1, 0, 0, 0, 1, 1, 9, -1, 0, 0]), (20, [11, 0], [31, 1, 0, 1, 0, 0, -1, -1, 1, 9]), (102, [10], [0, 8002, 8003, 8006, 8007, 8008, 8009]), (102, [6], [0, 8006, 8007, 8008, 8009]), (7, [4, 5], [1])], [(13, (0, 0, 99, []))], [], [], [], [])
theorem oo_Re_readNode_3 {kA : Nat → ClassId} : or_ok PRD kA GG o_Re_readNode_3 := by
  refine or_mk fun A ta ws vs hD hth hl => ?_
  intro t0 r0 t1 r1 t4 k4 t5 k5 t10 k10 t11 k11 t13 k13 f0 f1 f2 f3 f4 f5 f6 ta1 w1 le1 s1 ta2 w2 le2 s2 f9
  replace f0 := shm_120 f0
  have g0 : v_iv (n_v vs 13) = w_fi ws (n_v vs 0) 9 := congrArg v_iv f0
  have kz_0_9 := fdq_27 hD hth r0
  have hrf0 : 0 ≤ v_iv (n_v vs 13) ∧ v_iv (n_v vs 13) ≤ 99 := vc_Re_readNode_3_r0 (v_iv (n_v vs 4)) (v_iv (n_v vs 5)) (v_iv (n_v vs 10)) (v_iv (n_v vs 11)) (v_iv (n_v vs 13)) (w_fi ws (n_v vs 0) 9) k4 k5 k10 k11 k13 g0 (shm_291 f5) (shm_292 f6) (shm_40 f9) kz_0_9
  have rf13 : tv_ok ta (0, 0, 99, []) (n_v vs 13) := tv_in t13 (by first | omega | grind) (by first | omega | grind)
  refine ⟨List.forall_mem_cons.mpr ⟨rf13, (fun _ h => (by cases h))⟩, [], trivial, ?_, (fun _ h => (by cases h))⟩
  rw [List.append_nil]
  exact (fun _ h => (by cases h))
set_option maxHeartbeats 4000000 in
theorem vc_Re_readNode_4_0 (number_0 : Int) (near_0o1 : Int → Int) (tail_0o1 : Int → Int) (head_0o1 : Int → Int) (nodes_0o1 : Int) (edges_0o1 : Int) (near_1o1 : Int → Int) (tail_1o1 : Int → Int) (head_1o1 : Int → Int) (nodes_1o1 : Int) (edges_1o1 : Int) (number_1 : Int) (gx : Int) (fe_0_9_1 : number_0 = number_1) (fe_1_0_1 : nodes_0o1 = nodes_1o1) (fe_1_1_1 : edges_0o1 = edges_1o1) (hE_1_7_1 : ∀ j : Int, tail_0o1 j = tail_1o1 j) (hE_1_8_1 : ∀ j : Int, head_0o1 j = head_1o1 j) (hE_1_14_1 : ∀ j : Int, near_0o1 j = near_1o1 j) (kz_0_9 : (-2147483648) ≤ number_0 ∧ number_0 ≤ 1000000) (kz_1_0 : 0 ≤ nodes_0o1 ∧ nodes_0o1 ≤ 24) (kz_1_1 : 0 ≤ edges_0o1 ∧ edges_0o1 ≤ 48) (ex2 : gx = number_0) : 1 * number_0 + ((-1) * gx + 0) ≤ 0 := by
  subst fe_0_9_1
  subst fe_1_0_1
  subst fe_1_1_1
  have e_hE_1_7_1 := funext hE_1_7_1; subst e_hE_1_7_1
  have e_hE_1_8_1 := funext hE_1_8_1; subst e_hE_1_8_1
  have e_hE_1_14_1 := funext hE_1_14_1; subst e_hE_1_14_1
  first
    | omega
  
set_option maxHeartbeats 4000000 in
theorem vc_Re_readNode_4_1 (number_0 : Int) (near_0o1 : Int → Int) (tail_0o1 : Int → Int) (head_0o1 : Int → Int) (nodes_0o1 : Int) (edges_0o1 : Int) (near_1o1 : Int → Int) (tail_1o1 : Int → Int) (head_1o1 : Int → Int) (nodes_1o1 : Int) (edges_1o1 : Int) (number_1 : Int) (gx : Int) (fe_0_9_1 : number_0 = number_1) (fe_1_0_1 : nodes_0o1 = nodes_1o1) (fe_1_1_1 : edges_0o1 = edges_1o1) (hE_1_7_1 : ∀ j : Int, tail_0o1 j = tail_1o1 j) (hE_1_8_1 : ∀ j : Int, head_0o1 j = head_1o1 j) (hE_1_14_1 : ∀ j : Int, near_0o1 j = near_1o1 j) (kz_0_9 : (-2147483648) ≤ number_0 ∧ number_0 ≤ 1000000) (kz_1_0 : 0 ≤ nodes_0o1 ∧ nodes_0o1 ≤ 24) (kz_1_1 : 0 ≤ edges_0o1 ∧ edges_0o1 ≤ 48) (ex2 : gx = number_0) : (-1) * number_0 + (1 * gx + 0) ≤ 0 := by
  subst fe_0_9_1
  subst fe_1_0_1
  subst fe_1_1_1
  have e_hE_1_7_1 := funext hE_1_7_1; subst e_hE_1_7_1
  have e_hE_1_8_1 := funext hE_1_8_1; subst e_hE_1_8_1
  have e_hE_1_14_1 := funext hE_1_14_1; subst e_hE_1_14_1
  first
    | omega
  
def o_Re_readNode_4 : or_T := (73, 14, [(0, (2, 0, 0, [8])), (1, (2, 0, 0, [164])), (12, (2, 0, 0, [152]))], [(100, [12, 4, 13], [])], [], [(0, -2147483648, 1000000, [])], [(20, [0, 14], [30, 0, 1, 1, 9, -1, 0, 0]), (20, [0, 14], [30, 0, -1, 1, 9, 1, 0, 0])], [], [])
theorem oo_Re_readNode_4 {kA : Nat → ClassId} : or_ok PRD kA GG o_Re_readNode_4 := by
  refine or_mk fun A ta ws vs hD hth hl => ?_
  intro t0 r0 t1 r1 t12 r12 ta1 w1 le1 s1
  have s1 : (∀ b j, w_el ws b j = if b = v_ad (n_v vs 12) ∧ j = (v_iv (n_v vs 4)).toNat then v_iv (n_v vs 13) else w_el w1 b j) ∧ ∀ b k, w_fd ws b k = w_fd w1 b k := s1.2
  have cr_1_7 := fdq_74 hD hth r1
  have cr_1_8 := fdq_75 hD hth r1
  have cr_1_14 := fdq_76 hD hth r1
  have fe_0_9_1 : w_fi ws (n_v vs 0) 9 = w_fi w1 (n_v vs 0) 9 := congrArg v_iv (s1.2 _ _)
  have fe_1_0_1 : w_fi ws (n_v vs 1) 0 = w_fi w1 (n_v vs 1) 0 := congrArg v_iv (s1.2 _ _)
  have fe_1_1_1 : w_fi ws (n_v vs 1) 1 = w_fi w1 (n_v vs 1) 1 := congrArg v_iv (s1.2 _ _)
  have hE_1_7_1 : ∀ j : Int, w_ei ws (w_ar ws (n_v vs 1) 7) j = w_ei w1 (w_ar ws (n_v vs 1) 7) j := el_kp s1.1 r12 cr_1_7 (by decide)
  have hE_1_8_1 : ∀ j : Int, w_ei ws (w_ar ws (n_v vs 1) 8) j = w_ei w1 (w_ar ws (n_v vs 1) 8) j := el_kp s1.1 r12 cr_1_8 (by decide)
  have hE_1_14_1 : ∀ j : Int, w_ei ws (w_ar ws (n_v vs 1) 14) j = w_ei w1 (w_ar ws (n_v vs 1) 14) j := el_kp s1.1 r12 cr_1_14 (by decide)
  have kz_0_9 := fdq_27 hD hth r0
  have kz_1_0 := fdq_77 hD hth r1
  have kz_1_1 := fdq_78 hD hth r1
  obtain ⟨x, ex, hx⟩ := iv_ex (ta := ta) (lo := (-2147483648)) (hi := 1000000) (z := w_fi ws (n_v vs 0) 9) (by omega) (by omega) (by omega) (by omega)
  have ex2 : v_iv (Value.int x) = w_fi ws (n_v vs 0) 9 := ex
  have ex3 : (-2147483648) ≤ v_iv (Value.int x) ∧ v_iv (Value.int x) ≤ 1000000 := tv_rng hx
  have e_0 : n_v (vs ++ [Value.int x]) 0 = n_v vs 0 := n_v_old (by rw [hl]; decide)
  have e_14 : n_v (vs ++ [Value.int x]) 14 = Value.int x := n_v_new hl
  have nf0 : fc_1 PRD (20, [0, 14], [30, 0, 1, 1, 9, -1, 0, 0]) ws (vs ++ [Value.int x]) := by
    refine ⟨nf_inA hl rfl, sgq_199 ?_⟩
    · show 1 * w_fi ws (n_v (vs ++ [Value.int x]) 0) 9 + ((-1) * v_iv (n_v (vs ++ [Value.int x]) 14) + 0) ≤ 0
      simp only [e_0, e_14]
      exact vc_Re_readNode_4_0 (w_fi ws (n_v vs 0) 9) (w_ei ws (w_ar ws (n_v vs 1) 14)) (w_ei ws (w_ar ws (n_v vs 1) 7)) (w_ei ws (w_ar ws (n_v vs 1) 8)) (w_fi ws (n_v vs 1) 0) (w_fi ws (n_v vs 1) 1) (w_ei w1 (w_ar ws (n_v vs 1) 14)) (w_ei w1 (w_ar ws (n_v vs 1) 7)) (w_ei w1 (w_ar ws (n_v vs 1) 8)) (w_fi w1 (n_v vs 1) 0) (w_fi w1 (n_v vs 1) 1) (w_fi w1 (n_v vs 0) 9) (v_iv (Value.int x)) fe_0_9_1 fe_1_0_1 fe_1_1_1 hE_1_7_1 hE_1_8_1 hE_1_14_1 kz_0_9 kz_1_0 kz_1_1 ex2
  have nf1 : fc_1 PRD (20, [0, 14], [30, 0, -1, 1, 9, 1, 0, 0]) ws (vs ++ [Value.int x]) := by
    refine ⟨nf_inA hl rfl, sgq_200 ?_⟩
    · show (-1) * w_fi ws (n_v (vs ++ [Value.int x]) 0) 9 + (1 * v_iv (n_v (vs ++ [Value.int x]) 14) + 0) ≤ 0
      simp only [e_0, e_14]
      exact vc_Re_readNode_4_1 (w_fi ws (n_v vs 0) 9) (w_ei ws (w_ar ws (n_v vs 1) 14)) (w_ei ws (w_ar ws (n_v vs 1) 7)) (w_ei ws (w_ar ws (n_v vs 1) 8)) (w_fi ws (n_v vs 1) 0) (w_fi ws (n_v vs 1) 1) (w_ei w1 (w_ar ws (n_v vs 1) 14)) (w_ei w1 (w_ar ws (n_v vs 1) 7)) (w_ei w1 (w_ar ws (n_v vs 1) 8)) (w_fi w1 (n_v vs 1) 0) (w_fi w1 (n_v vs 1) 1) (w_fi w1 (n_v vs 0) 9) (v_iv (Value.int x)) fe_0_9_1 fe_1_0_1 fe_1_1_1 hE_1_7_1 hE_1_8_1 hE_1_14_1 kz_0_9 kz_1_0 kz_1_1 ex2
  exact ⟨(fun _ h => (by cases h)), [Value.int x], ag_one hx, List.forall_mem_cons.mpr ⟨⟨show (20 : Nat) < 100 from by decide, nf0⟩, List.forall_mem_cons.mpr ⟨⟨show (20 : Nat) < 100 from by decide, nf1⟩, (fun _ h => (by cases h))⟩⟩, (fun _ h => (by cases h))⟩
def n_Re_readNode_an : List an_T := []
def t_Re_readNode_ct : ct_L := [(1, 57, e_Re_advance), (1, 107, e_Re_isName), (1, 113, e_Re_fail), (58, 127, e_Re_meetNode_at_gx), (157, 132, e_Re_readValue_at_s5002), (1000000, 130, en_ro [] (2, 0, 0, [5002]))]
set_option maxRecDepth 100000 in
theorem c_Re_readNode {l : Launch} {D : va_G} {kA : Nat → ClassId} (h_Re_advance : ct_ok PRD l D kA GG y_Re_advance z_Re_advance e_Re_advance) (h_Re_fail : ct_ok PRD l D kA GG y_Re_fail z_Re_fail e_Re_fail) (h_Re_isName : ct_ok PRD l D kA GG y_Re_isName z_Re_isName e_Re_isName) (h_Re_meetNode_at_gx : ct_ok PRD l D kA GG y_Re_meetNode_at_gx z_Re_meetNode_at_gx e_Re_meetNode_at_gx) (h_Re_readValue_at_s5002 : ct_ok PRD l D kA GG y_Re_readValue_at_s5002 z_Re_readValue_at_s5002 e_Re_readValue_at_s5002) : ct_ok PRD l D kA GG y_Re_readNode z_Re_readNode e_Re_readNode := chk_all_ok (FT := [(28, 8, 4), (38, 8, 7), (44, 8, 9), (136, 3, 5)]) (PT := []) (CT := t_Re_readNode_ct) (KT := []) (NT := []) (AN := n_Re_readNode_an) (OT := [o_Re_readNode_0, o_Re_readNode_1, o_Re_readNode_2, o_Re_readNode_3, o_Re_readNode_4]) 0 284 (List.forall_mem_cons.mpr ⟨oo_Re_readNode_0, List.forall_mem_cons.mpr ⟨oo_Re_readNode_1, List.forall_mem_cons.mpr ⟨oo_Re_readNode_2, List.forall_mem_cons.mpr ⟨oo_Re_readNode_3, List.forall_mem_cons.mpr ⟨oo_Re_readNode_4, List.forall_mem_nil _⟩⟩⟩⟩⟩) (by decide +kernel) ⟨List.forall_mem_cons.mpr ⟨gf_Re_28, List.forall_mem_cons.mpr ⟨gf_Re_38, List.forall_mem_cons.mpr ⟨gf_Re_44, List.forall_mem_cons.mpr ⟨gf_Re_136, List.forall_mem_nil _⟩⟩⟩⟩, List.forall_mem_nil _, List.forall_mem_cons.mpr ⟨cl_virtual (y := y_Re_advance) (ci := 8) rfl rfl ⟨_, _, rfl⟩ (by decide +kernel) h_Re_advance wm_645 wm_2 wm_642 wm_644 wv_1_0 ⟨by decide, by decide, by decide +kernel⟩ (by decide), List.forall_mem_cons.mpr ⟨cl_virtual (y := y_Re_isName) (ci := 8) rfl rfl ⟨_, _, rfl⟩ (by decide +kernel) h_Re_isName wm_726 wm_2 wm_723 wm_725 wv_1_4 ⟨by decide, by decide, by decide +kernel⟩ (by decide), List.forall_mem_cons.mpr ⟨cl_virtual (y := y_Re_fail) (ci := 8) rfl rfl ⟨_, _, rfl⟩ (by decide +kernel) h_Re_fail wm_731 wm_2 wm_728 wm_730 wv_1_5 ⟨by decide, by decide, by decide +kernel⟩ (by decide), List.forall_mem_cons.mpr ⟨cl_virtual (y := y_Re_meetNode_at_gx) (ci := 8) rfl rfl ⟨_, _, rfl⟩ (by decide +kernel) h_Re_meetNode_at_gx wm_735 wm_2 wm_732 wm_734 wv_1_6 ⟨by decide, by decide, by decide +kernel⟩ (by decide), List.forall_mem_cons.mpr ⟨cl_virtual (y := y_Re_readValue_at_s5002) (ci := 8) rfl rfl ⟨_, _, rfl⟩ (by decide +kernel) h_Re_readValue_at_s5002 wm_755 wm_2 wm_752 wm_754 wv_1_8 ⟨by decide, by decide, by decide +kernel⟩ (by decide), List.forall_mem_cons.mpr ⟨cl_ldc (own := "DrawingHouse$Reader") (idx := 130) (i := 2) (tx := "size") (by decide +kernel) (by decide +kernel) (by decide +kernel), List.forall_mem_nil _⟩⟩⟩⟩⟩⟩, List.forall_mem_nil _, List.forall_mem_nil _, GG_pl⟩ (by decide +kernel)

set_option maxHeartbeats 4000000 in
theorem vc_Mo_met_0_r0 (x13 : Int) (x14 : Int) (r_0 : Int) (fault_0 : Int) (k13 : 0 ≤ x13 ∧ x13 ≤ 0) (k14 : 0 ≤ x14 ∧ x14 ≤ 24) (g4 : x13 = fault_0) (f16 : (-1) * fault_0 + 0 ≤ (-1)) (kz_0_8 : 0 ≤ fault_0 ∧ fault_0 ≤ 5) : 0 ≤ x14 ∧ x14 ≤ 23 := by
  first
    | omega
    | (have q1 := (hE_0_2_1 (r_0 + 2) (by omega)).2 (by omega)
       have q2 := (hE_0_2_2 (r_0 + 2) (by omega)).2 (by omega)
       omega)
    | (have q1 := (hE_0_2_1 (r_0 + 1) (by omega)).2 (by omega)
       have q2 := (hE_0_2_2 (r_0 + 1) (by omega)).2 (by omega)
       omega)
    | (have q1 := (hE_0_2_1 (r_0 + 2) (by omega)).2 (by omega)
       omega)
    | (have q1 := (hE_0_2_1 (r_0 + 1) (by omega)).2 (by omega)
       omega)
    | (have q1 := (hE_0_2_1 (r_0 + 2) (by omega)).2 (by omega)
       have q2 := (hE_0_2_2 (r_0 + 2) (by omega)).2 (by omega)
       have q3 := (hE_0_2_3 (r_0 + 2) (by omega)).1 (by omega)
       omega)
    | (have q1 := (hE_0_2_1 (r_0 + 2) (by omega)).2 (by omega)
       have q2 := (hE_0_2_2 (r_0 + 2) (by omega)).2 (by omega)
       have q3 := (hE_0_2_3 (r_0 + 2) (by omega)).2 (by omega)
       omega)
def o_Mo_met_0 : or_T := (130, 15, [(0, (2, 0, 0, [165])), (1, (0, 0, 7, [])), (2, (0, -1, 23, [])), (3, (0, 0, 2000, [])), (4, (0, 0, 2000, [])), (6, (0, 1, 1, [])), (7, (0, -1, -1, [])), (9, (0, 24, 24, [])), (10, (0, 24, 24, [])), (13, (0, 0, 0, [])), (14, (0, 0, 24, []))], [(20, [14, 0], [30, 0, 1, 0, 0, -1, 3, 2005000]), (20, [14, 0], [30, 0, -1, 0, 0, 1, 3, 2005000]), (8, [7], [2]), (8, [13], [5]), (9, [13, 0], [8]), (20, [9, 0], [30, 0, 1, 0, 0, -1, 3, 2005000]), (20, [9, 0], [30, 0, -1, 0, 0, 1, 3, 2005000]), (20, [0, 7], [60, 1, 1, 207, 5, 2]), (20, [0, 0], [30, 0, 1, 1, 15, -1, 1, 11]), (20, [0], [50, 3, 0, 12, 11, 15, 2, 21, 4, 7, 1, 3, 2, 0, 12, 0, 1, 0, 3, 2, 0, 11, 4, 3, 2, 0, 15, 0, 8, 3, 7, 1, 3, 2, 0, 12, 0, 0, 0, 7, 4, 3, 2, 0, 15, 0, 1, 2, 0, 11]), (20, [3, 0], [30, 0, 1, 0, 0, -1, 1, 11]), (20, [0, 4], [50, 2, 0, 12, 11, 3, 7, 1, 3, 2, 0, 12, 0, 0, 0, 6, 4, 2, 1, 1, 0, 1, 2, 0, 11]), (20, [1, 0], [50, 1, 1, 1005, 1002, 0, 6, 4, 2, 1, 0, 0, 1, 3, 1, 2, 4, 3, 2, 1, 5, 0, 2]), (20, [0], [60, 1, 3, 199, 5, 2, 3, 4]), (20, [0, 2], [60, 1, 1, 241, 5, 2]), (20, [6, 0], [50, 1, 0, 1012, 4, 6, 1, 2, 1, 0, 0, 1, 1, 3, 2, 1, 12, 0, 1]), (20, [0], [30, -1, -1, 1, 8]), (102, [12], [0, 165008, 165009]), (7, [9, 10], [0]), (8, [7], [2]), (8, [7], [2]), (8, [6], [1])], [(14, (0, 0, 23, []))], [], [], [], [])
theorem oo_Mo_met_0 {kA : Nat → ClassId} : or_ok PRD kA GG o_Mo_met_0 := by
  refine or_mk fun A ta ws vs hD hth hl => ?_
  intro t0 r0 t1 k1 t2 k2 t3 k3 t4 k4 t6 k6 t7 k7 t9 k9 t10 k10 t13 k13 t14 k14 f0 f1 f2 f3 f4 f5 f6 f7 f8 f9 f10 f11 f12 f13 f14 f15 f16 ta1 w1 le1 s1 f18 f19 f20 f21
  replace f4 := shm_143 f4
  have g4 : v_iv (n_v vs 13) = w_fi ws (n_v vs 0) 8 := congrArg v_iv f4
  have kz_0_8 := fdq_14 hD hth r0
  have hrf0 : 0 ≤ v_iv (n_v vs 14) ∧ v_iv (n_v vs 14) ≤ 23 := vc_Mo_met_0_r0 (v_iv (n_v vs 13)) (v_iv (n_v vs 14)) (w_fi ws (n_v vs 0) 5) (w_fi ws (n_v vs 0) 8) k13 k14 g4 (shm_144 f16) kz_0_8
  have rf14 : tv_ok ta (0, 0, 23, []) (n_v vs 14) := tv_in t14 (by first | omega | grind) (by first | omega | grind)
  refine ⟨List.forall_mem_cons.mpr ⟨rf14, (fun _ h => (by cases h))⟩, [], trivial, ?_, (fun _ h => (by cases h))⟩
  rw [List.append_nil]
  exact (fun _ h => (by cases h))
set_option maxHeartbeats 4000000 in
theorem vc_Mo_met_1_r0 (x9 : Int) (x13 : Int) (x14 : Int) (x16 : Int) (x17 : Int) (x19 : Int) (all_0 : Int → Int) (r_0 : Int) (k9 : 24 ≤ x9 ∧ x9 ≤ 24) (k14 : 0 ≤ x14 ∧ x14 ≤ 23) (k16 : 0 ≤ x16 ∧ x16 ≤ 66297) (k17 : 0 ≤ x17 ∧ x17 ≤ 24) (k19 : 1 ≤ x19 ∧ x19 ≤ 25) (h1 : x17 = all_0 (x16)) (f4 : 1 * x14 + ((-1) * all_0 (r_0 + 0) + 0) ≤ 0) (f5 : (-1) * x14 + (1 * all_0 (r_0 + 0) + 0) ≤ 0) (f9 : 1 * x9 + ((-1) * all_0 (r_0 + 0) + 0) ≤ 0) : 1 ≤ x19 ∧ x19 ≤ 24 := by
  first
    | omega
    | (have hb := (rws_sg ‹RWS _ _ _ _›).1
       have e : x13 = r_0 := by omega
       rw [e] at h1
       simp only [Int.add_zero] at *
       omega)
    | (have hb := (rws_sg ‹RWS _ _ _ _›).1
       have e : x15 = r_0 := by omega
       rw [e] at h1
       simp only [Int.add_zero] at *
       omega)
def o_Mo_met_1 : or_T := (143, 20, [(0, (2, 0, 0, [165])), (1, (0, 0, 7, [])), (2, (0, -1, 23, [])), (3, (0, 0, 2000, [])), (4, (0, 0, 2000, [])), (6, (0, 1, 1, [])), (7, (0, -1, -1, [])), (9, (0, 24, 24, [])), (10, (0, 24, 24, [])), (13, (0, 0, 0, [])), (14, (0, 0, 23, [])), (15, (2, 0, 0, [167])), (16, (0, 0, 66297, [])), (17, (0, 0, 24, [])), (18, (0, 1, 1, [])), (19, (0, 1, 25, []))], [(1, [19, 17, 18], []), (10, [17, 15, 16], []), (9, [16, 0], [5]), (9, [15, 0], [2]), (20, [14, 0], [30, 0, 1, 0, 0, -1, 3, 2005000]), (20, [14, 0], [30, 0, -1, 0, 0, 1, 3, 2005000]), (8, [7], [2]), (8, [13], [5]), (9, [13, 0], [8]), (20, [9, 0], [30, 0, 1, 0, 0, -1, 3, 2005000]), (20, [9, 0], [30, 0, -1, 0, 0, 1, 3, 2005000]), (20, [0, 7], [60, 1, 1, 207, 5, 2]), (20, [0, 0], [30, 0, 1, 1, 15, -1, 1, 11]), (20, [0], [50, 3, 0, 12, 11, 15, 2, 21, 4, 7, 1, 3, 2, 0, 12, 0, 1, 0, 3, 2, 0, 11, 4, 3, 2, 0, 15, 0, 8, 3, 7, 1, 3, 2, 0, 12, 0, 0, 0, 7, 4, 3, 2, 0, 15, 0, 1, 2, 0, 11]), (20, [3, 0], [30, 0, 1, 0, 0, -1, 1, 11]), (20, [0, 4], [50, 2, 0, 12, 11, 3, 7, 1, 3, 2, 0, 12, 0, 0, 0, 6, 4, 2, 1, 1, 0, 1, 2, 0, 11]), (20, [1, 0], [50, 1, 1, 1005, 1002, 0, 6, 4, 2, 1, 0, 0, 1, 3, 1, 2, 4, 3, 2, 1, 5, 0, 2]), (20, [0], [60, 1, 3, 199, 5, 2, 3, 4]), (20, [0, 2], [60, 1, 1, 241, 5, 2]), (20, [6, 0], [50, 1, 0, 1012, 4, 6, 1, 2, 1, 0, 0, 1, 1, 3, 2, 1, 12, 0, 1]), (20, [0], [30, -1, -1, 1, 8]), (102, [12], [0, 165008, 165009]), (7, [9, 10], [0]), (8, [7], [2]), (8, [7], [2]), (8, [6], [1])], [(19, (0, 1, 24, []))], [], [], [], [(19, 17, 1, 1)])
theorem oo_Mo_met_1 {kA : Nat → ClassId} : or_ok PRD kA GG o_Mo_met_1 := by
  refine or_mk fun A ta ws vs hD hth hl => ?_
  intro t0 r0 t1 k1 t2 k2 t3 k3 t4 k4 t6 k6 t7 k7 t9 k9 t10 k10 t13 k13 t14 k14 t15 r15 t16 k16 t17 k17 t18 k18 t19 k19 d0 f0 f1 f2 f3 f4 f5 f6 f7 f8 f9 f10 f11 f12 f13 f14 f15 f16 f17 f18 f19 f20 ta1 w1 le1 s1 f22 f23 f24 f25
  replace f1 := shm_106 f1
  replace f3 := shm_129 f3
  have ad_15 : v_ad (n_v vs 15) = w_ar ws (n_v vs 0) 2 := congrArg v_ad f3
  simp only [ad_15] at f1
  have h1 : v_iv (n_v vs 17) = w_ei ws (w_ar ws (n_v vs 0) 2) (v_iv (n_v vs 16)) := f1
  have hrf0 : 1 ≤ v_iv (n_v vs 19) ∧ v_iv (n_v vs 19) ≤ 24 := vc_Mo_met_1_r0 (v_iv (n_v vs 9)) (v_iv (n_v vs 13)) (v_iv (n_v vs 14)) (v_iv (n_v vs 16)) (v_iv (n_v vs 17)) (v_iv (n_v vs 19)) (w_ei ws (w_ar ws (n_v vs 0) 2)) (w_fi ws (n_v vs 0) 5) k9 k14 k16 k17 k19 h1 (shm_135 f4) (shm_136 f5) (shm_135 f9)
  have rf19 : tv_ok ta (0, 1, 24, []) (n_v vs 19) := tv_in t19 (by first | omega | grind) (by first | omega | grind)
  refine ⟨List.forall_mem_cons.mpr ⟨rf19, (fun _ h => (by cases h))⟩, [], trivial, ?_, (fun _ h => (by cases h))⟩
  rw [List.append_nil]
  exact (fun _ h => (by cases h))
set_option maxHeartbeats 4000000 in
theorem vc_Mo_met_2_r0 (x9 : Int) (x14 : Int) (x16 : Int) (x19 : Int) (x21 : Int) (x22 : Int) (x25 : Int) (from_0 : Int) (pos_0 : Int) (r_0 : Int) (kind_0 : Int) (fault_0 : Int) (all_1 : Int → Int) (fault_1 : Int) (r_1 : Int) (from_1 : Int) (pos_1 : Int) (kind_1 : Int) (now_1 : Int → Int) (latest_1 : Int → Int) (all_0 : Int → Int) (now_0 : Int → Int) (latest_0 : Int → Int) (k9 : 24 ≤ x9 ∧ x9 ≤ 24) (k14 : 0 ≤ x14 ∧ x14 ≤ 23) (k16 : 0 ≤ x16 ∧ x16 ≤ 66297) (k19 : 1 ≤ x19 ∧ x19 ≤ 24) (k21 : 195 ≤ x21 ∧ x21 ≤ 66492) (k22 : 195 ≤ x22 ∧ x22 ≤ 66515) (k25 : (-2000) ≤ x25 ∧ x25 ≤ 2000) (d4 : x16 + 195 ≤ x21 ∧ x21 ≤ x16 + 195) (f3 : x22 = x21 + x14) (g5 : x16 = r_0) (f16 : 1 * x14 + ((-1) * all_1 (r_0 + 0) + 0) ≤ 0) (f17 : (-1) * x14 + (1 * all_1 (r_0 + 0) + 0) ≤ 0) (f21 : 1 * x9 + ((-1) * all_1 (r_0 + 0) + 0) ≤ 0) (fe_0_5_1 : r_0 = r_1) (fe_0_8_1 : fault_0 = fault_1) (fe_0_11_1 : pos_0 = pos_1) (fe_0_12_1 : kind_0 = kind_1) (fe_0_15_1 : from_0 = from_1) (hE_0_2_1 : ∀ j : Int, 0 ≤ j → (j = x16 → all_0 j = x19) ∧ (j ≠ x16 → all_0 j = all_1 j)) (hE_0_3_1 : ∀ j : Int, now_0 j = now_1 j) (hE_0_4_1 : ∀ j : Int, latest_0 j = latest_1 j) (kz_0_8 : 0 ≤ fault_0 ∧ fault_0 ≤ 5) (kz_0_11 : 0 ≤ pos_0 ∧ pos_0 ≤ 2000) (kz_0_12 : 0 ≤ kind_0 ∧ kind_0 ≤ 4) (kz_0_15 : 0 ≤ from_0 ∧ from_0 ≤ 2000) : 0 ≤ x25 ∧ x25 ≤ 8 := by
  subst fe_0_5_1
  subst fe_0_8_1
  subst fe_0_11_1
  subst fe_0_12_1
  subst fe_0_15_1
  have e_hE_0_3_1 := funext hE_0_3_1; subst e_hE_0_3_1
  have e_hE_0_4_1 := funext hE_0_4_1; subst e_hE_0_4_1
  first
    | omega
    | (have q1 := (hE_0_2_1 (r_0 + 2) (by omega)).2 (by omega)
       have q2 := (hE_0_2_2 (r_0 + 2) (by omega)).2 (by omega)
       omega)
    | (have q1 := (hE_0_2_1 (r_0 + 1) (by omega)).2 (by omega)
       have q2 := (hE_0_2_2 (r_0 + 1) (by omega)).2 (by omega)
       omega)
    | (have q1 := (hE_0_2_1 (r_0 + 2) (by omega)).2 (by omega)
       omega)
    | (have q1 := (hE_0_2_1 (r_0 + 1) (by omega)).2 (by omega)
       omega)
    | (have q1 := (hE_0_2_1 (r_0 + 2) (by omega)).2 (by omega)
       have q2 := (hE_0_2_2 (r_0 + 2) (by omega)).2 (by omega)
       have q3 := (hE_0_2_3 (r_0 + 2) (by omega)).1 (by omega)
       omega)
    | (have q1 := (hE_0_2_1 (r_0 + 2) (by omega)).2 (by omega)
       have q2 := (hE_0_2_2 (r_0 + 2) (by omega)).2 (by omega)
       have q3 := (hE_0_2_3 (r_0 + 2) (by omega)).2 (by omega)
       omega)
def o_Mo_met_2 : or_T := (167, 26, [(0, (2, 0, 0, [165])), (1, (0, 0, 7, [])), (2, (0, -1, 23, [])), (3, (0, 0, 2000, [])), (4, (0, 0, 2000, [])), (6, (0, 1, 1, [])), (7, (0, -1, -1, [])), (9, (0, 24, 24, [])), (10, (0, 24, 24, [])), (13, (0, 0, 0, [])), (14, (0, 0, 23, [])), (15, (2, 0, 0, [167])), (16, (0, 0, 66297, [])), (17, (0, 0, 24, [])), (18, (0, 1, 1, [])), (19, (0, 1, 24, [])), (20, (0, 195, 195, [])), (21, (0, 195, 66492, [])), (22, (0, 195, 66515, [])), (23, (0, 0, 2000, [])), (24, (0, 0, 2000, [])), (25, (0, -2000, 2000, []))], [(2, [25, 23, 24], []), (9, [24, 0], [15]), (9, [23, 0], [11]), (1, [22, 21, 14], []), (1, [21, 16, 20], []), (9, [16, 0], [5]), (9, [15, 0], [2]), (20, [0, 0], [30, 0, 1, 1, 15, -1, 1, 11]), (20, [0], [50, 3, 0, 12, 11, 15, 2, 21, 4, 7, 1, 3, 2, 0, 12, 0, 1, 0, 3, 2, 0, 11, 4, 3, 2, 0, 15, 0, 8, 3, 7, 1, 3, 2, 0, 12, 0, 0, 0, 7, 4, 3, 2, 0, 15, 0, 1, 2, 0, 11]), (20, [3, 0], [30, 0, 1, 0, 0, -1, 1, 11]), (20, [0, 4], [50, 2, 0, 12, 11, 3, 7, 1, 3, 2, 0, 12, 0, 0, 0, 6, 4, 2, 1, 1, 0, 1, 2, 0, 11]), (20, [6, 0], [50, 1, 0, 1012, 4, 6, 1, 2, 1, 0, 0, 1, 1, 3, 2, 1, 12, 0, 1]), (20, [0], [30, -1, -1, 1, 8]), (100, [15, 16, 19], []), (1, [19, 17, 18], []), (10, [17, 15, 16], []), (20, [14, 0], [30, 0, 1, 0, 0, -1, 3, 2005000]), (20, [14, 0], [30, 0, -1, 0, 0, 1, 3, 2005000]), (8, [7], [2]), (8, [13], [5]), (9, [13, 0], [8]), (20, [9, 0], [30, 0, 1, 0, 0, -1, 3, 2005000]), (20, [9, 0], [30, 0, -1, 0, 0, 1, 3, 2005000]), (20, [0, 7], [60, 1, 1, 207, 5, 2]), (20, [0, 0], [30, 0, 1, 1, 15, -1, 1, 11]), (20, [0], [50, 3, 0, 12, 11, 15, 2, 21, 4, 7, 1, 3, 2, 0, 12, 0, 1, 0, 3, 2, 0, 11, 4, 3, 2, 0, 15, 0, 8, 3, 7, 1, 3, 2, 0, 12, 0, 0, 0, 7, 4, 3, 2, 0, 15, 0, 1, 2, 0, 11]), (20, [3, 0], [30, 0, 1, 0, 0, -1, 1, 11]), (20, [0, 4], [50, 2, 0, 12, 11, 3, 7, 1, 3, 2, 0, 12, 0, 0, 0, 6, 4, 2, 1, 1, 0, 1, 2, 0, 11]), (20, [1, 0], [50, 1, 1, 1005, 1002, 0, 6, 4, 2, 1, 0, 0, 1, 3, 1, 2, 4, 3, 2, 1, 5, 0, 2]), (20, [0], [60, 1, 3, 199, 5, 2, 3, 4]), (20, [0, 2], [60, 1, 1, 241, 5, 2]), (20, [6, 0], [50, 1, 0, 1012, 4, 6, 1, 2, 1, 0, 0, 1, 1, 3, 2, 1, 12, 0, 1]), (20, [0], [30, -1, -1, 1, 8]), (102, [12], [0, 165008, 165009]), (7, [9, 10], [0]), (8, [7], [2]), (8, [7], [2]), (8, [6], [1])], [(25, (0, 0, 8, []))], [], [], [], [(25, 23, -2000, 0), (22, 14, 195, 66492), (22, 21, 0, 23), (22, 16, 195, 218), (21, 16, 195, 195), (19, 17, 1, 1)])
theorem oo_Mo_met_2 {kA : Nat → ClassId} : or_ok PRD kA GG o_Mo_met_2 := by
  refine or_mk fun A ta ws vs hD hth hl => ?_
  intro t0 r0 t1 k1 t2 k2 t3 k3 t4 k4 t6 k6 t7 k7 t9 k9 t10 k10 t13 k13 t14 k14 t15 r15 t16 k16 t17 k17 t18 k18 t19 k19 t20 k20 t21 k21 t22 k22 t23 k23 t24 k24 t25 k25 d0 d1 d2 d3 d4 d5 f0 f1 f2 f3 f4 f5 f6 f7 f8 f9 f10 f11 f12 ta1 w1 le1 s1 f14 f15 f16 f17 f18 f19 f20 f21 f22 f23 f24 f25 f26 f27 f28 f29 f30 f31 f32 ta2 w2 le2 s2 f34 f35 f36 f37
  replace f0 := shm_14 f0
  replace f1 := shm_189 f1
  replace f2 := shm_117 f2
  replace f3 := shm_12 f3
  replace f4 := shm_12 f4
  replace f5 := shm_109 f5
  replace f6 := shm_129 f6
  replace f7 := shm_1397 f7
  replace f8 := shm_1398 f8
  replace f9 := shm_1395 f9
  replace f10 := shm_1978 f10
  replace f11 := shm_1762 f11
  replace f12 := shm_144 f12
  have s1 : (∀ b j, w_el ws b j = if b = v_ad (n_v vs 15) ∧ j = (v_iv (n_v vs 16)).toNat then v_iv (n_v vs 19) else w_el w1 b j) ∧ ∀ b k, w_fd ws b k = w_fd w1 b k := s1.2
  replace f14 := shm_12 f14
  replace f15 := shm_106 f15
  replace f16 := shm_135 f16
  replace f17 := shm_136 f17
  replace f18 := shm_39 f18
  replace f19 := shm_142 f19
  replace f20 := shm_143 f20
  replace f21 := shm_135 f21
  replace f22 := shm_136 f22
  replace f23 := shm_1200 f23
  replace f24 := shm_1397 f24
  replace f25 := shm_1398 f25
  replace f26 := shm_1395 f26
  replace f27 := shm_1978 f27
  replace f28 := shm_981 f28
  replace f29 := shm_952 f29
  replace f30 := shm_1979 f30
  replace f31 := shm_1762 f31
  replace f32 := shm_144 f32
  replace f34 := shm_37 f34
  replace f35 := shm_39 f35
  replace f36 := shm_39 f36
  replace f37 := shm_154 f37
  have ar_0_2_1 : w_ar w1 (n_v vs 0) 2 = w_ar ws (n_v vs 0) 2 := congrArg v_ad (s1.2 _ _).symm
  have cr_0_2 := fdq_12 hD hth r0
  have ar_0_3_1 : w_ar w1 (n_v vs 0) 3 = w_ar ws (n_v vs 0) 3 := congrArg v_ad (s1.2 _ _).symm
  have cr_0_3 := fdq_141 hD hth r0
  have ar_0_4_1 : w_ar w1 (n_v vs 0) 4 = w_ar ws (n_v vs 0) 4 := congrArg v_ad (s1.2 _ _).symm
  have cr_0_4 := fdq_142 hD hth r0
  have fi_0_5_1 : w_fi w1 (n_v vs 0) 5 = w_fi ws (n_v vs 0) 5 := by show v_iv (w_fd w1 _ _) = v_iv (w_fd ws _ _); rw [s1.2]
  have ad_15 : v_ad (n_v vs 15) = w_ar ws (n_v vs 0) 2 := congrArg v_ad f6
  have g1 : v_iv (n_v vs 24) = w_fi ws (n_v vs 0) 15 := congrArg v_iv f1
  have g2 : v_iv (n_v vs 23) = w_fi ws (n_v vs 0) 11 := congrArg v_iv f2
  have g5 : v_iv (n_v vs 16) = w_fi ws (n_v vs 0) 5 := congrArg v_iv f5
  simp only [ad_15] at f15
  have h15 : v_iv (n_v vs 17) = w_ei w1 (w_ar ws (n_v vs 0) 2) (v_iv (n_v vs 16)) := f15
  simp only [ar_0_2_1] at f16 f17
  simp only [fi_0_5_1] at f16 f17
  have g20 : v_iv (n_v vs 13) = w_fi w1 (n_v vs 0) 8 := congrArg v_iv f20
  simp only [ar_0_2_1, ar_0_3_1, ar_0_4_1] at f21 f22 f23 f28 f29 f30
  simp only [fi_0_5_1] at f21 f22
  have fe_0_5_1 : w_fi ws (n_v vs 0) 5 = w_fi w1 (n_v vs 0) 5 := congrArg v_iv (s1.2 _ _)
  have fe_0_8_1 : w_fi ws (n_v vs 0) 8 = w_fi w1 (n_v vs 0) 8 := congrArg v_iv (s1.2 _ _)
  have fe_0_11_1 : w_fi ws (n_v vs 0) 11 = w_fi w1 (n_v vs 0) 11 := congrArg v_iv (s1.2 _ _)
  have fe_0_12_1 : w_fi ws (n_v vs 0) 12 = w_fi w1 (n_v vs 0) 12 := congrArg v_iv (s1.2 _ _)
  have fe_0_15_1 : w_fi ws (n_v vs 0) 15 = w_fi w1 (n_v vs 0) 15 := congrArg v_iv (s1.2 _ _)
  have hE_0_2_1 : ∀ j : Int, 0 ≤ j → (j = v_iv (n_v vs 16) → w_ei ws (w_ar ws (n_v vs 0) 2) j = v_iv (n_v vs 19)) ∧ (j ≠ v_iv (n_v vs 16) → w_ei ws (w_ar ws (n_v vs 0) 2) j = w_ei w1 (w_ar ws (n_v vs 0) 2) j) := fun j hj => ⟨fun h => by unfold w_ei; rw [s1.1, if_pos ⟨ad_15.symm, by rw [h]⟩], fun h => by unfold w_ei; rw [s1.1, if_neg (fun e => h (by have := e.2; omega))]⟩
  have hE_0_3_1 : ∀ j : Int, w_ei ws (w_ar ws (n_v vs 0) 3) j = w_ei w1 (w_ar ws (n_v vs 0) 3) j := el_kp s1.1 r15 cr_0_3 (by decide)
  have hK_0_3 := elq_77 hD hth cr_0_3
  have hE_0_4_1 : ∀ j : Int, w_ei ws (w_ar ws (n_v vs 0) 4) j = w_ei w1 (w_ar ws (n_v vs 0) 4) j := el_kp s1.1 r15 cr_0_4 (by decide)
  have hK_0_4 := elq_78 hD hth cr_0_4
  have kz_0_8 := fdq_14 hD hth r0
  have kz_0_11 := fdq_273 hD hth r0
  have kz_0_12 := fdq_186 hD hth r0
  have kz_0_15 := fdq_274 hD hth r0
  first | have hJ0 : w_ei w1 (w_ar ws (n_v vs 0) 2) ((w_fi w1 (n_v vs 0) 5 + 2)) = w_ei w1 (w_ar ws (n_v vs 0) 2) ((w_fi ws (n_v vs 0) 5 + 2)) := congrArg _ (show ((w_fi w1 (n_v vs 0) 5 + 2) : Int) = (w_fi ws (n_v vs 0) 5 + 2) from by omega) | skip
  first | have hI1 := (hE_0_2_1 ((w_fi ws (n_v vs 0) 5 + 2)) (by omega)).2 (by omega) | have hI1 := (hE_0_2_1 ((w_fi ws (n_v vs 0) 5 + 2)) (by omega)).1 (by omega) | skip
  have hrf0 : 0 ≤ v_iv (n_v vs 25) ∧ v_iv (n_v vs 25) ≤ 8 := vc_Mo_met_2_r0 (v_iv (n_v vs 9)) (v_iv (n_v vs 14)) (v_iv (n_v vs 16)) (v_iv (n_v vs 19)) (v_iv (n_v vs 21)) (v_iv (n_v vs 22)) (v_iv (n_v vs 25)) (w_fi ws (n_v vs 0) 15) (w_fi ws (n_v vs 0) 11) (w_fi ws (n_v vs 0) 5) (w_fi ws (n_v vs 0) 12) (w_fi ws (n_v vs 0) 8) (w_ei w1 (w_ar ws (n_v vs 0) 2)) (w_fi w1 (n_v vs 0) 8) (w_fi w1 (n_v vs 0) 5) (w_fi w1 (n_v vs 0) 15) (w_fi w1 (n_v vs 0) 11) (w_fi w1 (n_v vs 0) 12) (w_ei w1 (w_ar ws (n_v vs 0) 3)) (w_ei w1 (w_ar ws (n_v vs 0) 4)) (w_ei ws (w_ar ws (n_v vs 0) 2)) (w_ei ws (w_ar ws (n_v vs 0) 3)) (w_ei ws (w_ar ws (n_v vs 0) 4)) k9 k14 k16 k19 k21 k22 k25 d4 f3 g5 f16 f17 f21 fe_0_5_1 fe_0_8_1 fe_0_11_1 fe_0_12_1 fe_0_15_1 hE_0_2_1 hE_0_3_1 hE_0_4_1 kz_0_8 kz_0_11 kz_0_12 kz_0_15
  have rf25 : tv_ok ta (0, 0, 8, []) (n_v vs 25) := tv_in t25 (by first | omega | grind) (by first | omega | grind)
  refine ⟨List.forall_mem_cons.mpr ⟨rf25, (fun _ h => (by cases h))⟩, [], trivial, ?_, (fun _ h => (by cases h))⟩
  rw [List.append_nil]
  exact (fun _ h => (by cases h))
set_option maxHeartbeats 4000000 in
theorem vc_Mo_met_3_0 (x4 : Int) (x9 : Int) (x14 : Int) (x16 : Int) (x19 : Int) (x21 : Int) (x22 : Int) (x25 : Int) (from_0 : Int) (pos_0 : Int) (kind_0 : Int) (fault_0 : Int) (from_1 : Int) (pos_1 : Int) (r_1 : Int) (kind_1 : Int) (fault_1 : Int) (all_2 : Int → Int) (r_0 : Int) (fault_2 : Int) (r_2 : Int) (from_2 : Int) (pos_2 : Int) (kind_2 : Int) (now_2 : Int → Int) (latest_2 : Int → Int) (all_0 : Int → Int) (all_1 : Int → Int) (now_0 : Int → Int) (now_1 : Int → Int) (latest_0 : Int → Int) (latest_1 : Int → Int) (k4 : 0 ≤ x4 ∧ x4 ≤ 2000) (k9 : 24 ≤ x9 ∧ x9 ≤ 24) (k14 : 0 ≤ x14 ∧ x14 ≤ 23) (k16 : 0 ≤ x16 ∧ x16 ≤ 66297) (k19 : 1 ≤ x19 ∧ x19 ≤ 24) (k21 : 195 ≤ x21 ∧ x21 ≤ 66492) (k22 : 195 ≤ x22 ∧ x22 ≤ 66515) (k25 : 0 ≤ x25 ∧ x25 ≤ 8) (f10 : x22 = x21 + x14) (f23 : 1 * x14 + ((-1) * all_2 (r_0 + 0) + 0) ≤ 0) (f24 : (-1) * x14 + (1 * all_2 (r_0 + 0) + 0) ≤ 0) (f28 : 1 * x9 + ((-1) * all_2 (r_0 + 0) + 0) ≤ 0) (fe_0_5_1 : r_0 = r_1) (fe_0_8_1 : fault_0 = fault_1) (fe_0_11_1 : pos_0 = pos_1) (fe_0_12_1 : kind_0 = kind_1) (fe_0_15_1 : from_0 = from_1) (fe_0_5_2 : r_1 = r_2) (fe_0_8_2 : fault_1 = fault_2) (fe_0_11_2 : pos_1 = pos_2) (fe_0_12_2 : kind_1 = kind_2) (fe_0_15_2 : from_1 = from_2) (hE_0_2_1 : ∀ j : Int, 0 ≤ j → (j = x22 → all_0 j = x25) ∧ (j ≠ x22 → all_0 j = all_1 j)) (hE_0_2_2 : ∀ j : Int, 0 ≤ j → (j = x16 → all_1 j = x19) ∧ (j ≠ x16 → all_1 j = all_2 j)) (hE_0_3_1 : ∀ j : Int, now_0 j = now_1 j) (hE_0_3_2 : ∀ j : Int, now_1 j = now_2 j) (hE_0_4_1 : ∀ j : Int, latest_0 j = latest_1 j) (hE_0_4_2 : ∀ j : Int, latest_1 j = latest_2 j) (kz_0_8 : 0 ≤ fault_0 ∧ fault_0 ≤ 5) (kz_0_11 : 0 ≤ pos_0 ∧ pos_0 ≤ 2000) (kz_0_12 : 0 ≤ kind_0 ∧ kind_0 ≤ 4) (kz_0_15 : 0 ≤ from_0 ∧ from_0 ≤ 2000) : 1 * x4 + ((-1) * pos_0 + 0) ≤ (-1) := by
  subst fe_0_5_1
  subst fe_0_8_1
  subst fe_0_11_1
  subst fe_0_12_1
  subst fe_0_15_1
  subst fe_0_5_2
  subst fe_0_8_2
  subst fe_0_11_2
  subst fe_0_12_2
  subst fe_0_15_2
  have e_hE_0_3_1 := funext hE_0_3_1; subst e_hE_0_3_1
  have e_hE_0_3_2 := funext hE_0_3_2; subst e_hE_0_3_2
  have e_hE_0_4_1 := funext hE_0_4_1; subst e_hE_0_4_1
  have e_hE_0_4_2 := funext hE_0_4_2; subst e_hE_0_4_2
  first
    | omega
    | (have q1 := (hE_0_2_1 (r_0 + 2) (by omega)).2 (by omega)
       have q2 := (hE_0_2_2 (r_0 + 2) (by omega)).2 (by omega)
       omega)
    | (have q1 := (hE_0_2_1 (r_0 + 1) (by omega)).2 (by omega)
       have q2 := (hE_0_2_2 (r_0 + 1) (by omega)).2 (by omega)
       omega)
    | (have q1 := (hE_0_2_1 (r_0 + 2) (by omega)).2 (by omega)
       omega)
    | (have q1 := (hE_0_2_1 (r_0 + 1) (by omega)).2 (by omega)
       omega)
    | (have q1 := (hE_0_2_1 (r_0 + 2) (by omega)).2 (by omega)
       have q2 := (hE_0_2_2 (r_0 + 2) (by omega)).2 (by omega)
       have q3 := (hE_0_2_3 (r_0 + 2) (by omega)).1 (by omega)
       omega)
    | (have q1 := (hE_0_2_1 (r_0 + 2) (by omega)).2 (by omega)
       have q2 := (hE_0_2_2 (r_0 + 2) (by omega)).2 (by omega)
       have q3 := (hE_0_2_3 (r_0 + 2) (by omega)).2 (by omega)
       omega)
set_option maxHeartbeats 4000000 in
theorem vc_Mo_met_3_1 (x9 : Int) (x14 : Int) (x16 : Int) (x19 : Int) (x21 : Int) (x22 : Int) (x25 : Int) (from_0 : Int) (pos_0 : Int) (kind_0 : Int) (fault_0 : Int) (from_1 : Int) (pos_1 : Int) (r_1 : Int) (kind_1 : Int) (fault_1 : Int) (all_2 : Int → Int) (r_0 : Int) (fault_2 : Int) (r_2 : Int) (from_2 : Int) (pos_2 : Int) (kind_2 : Int) (now_2 : Int → Int) (latest_2 : Int → Int) (all_0 : Int → Int) (all_1 : Int → Int) (now_0 : Int → Int) (now_1 : Int → Int) (latest_0 : Int → Int) (latest_1 : Int → Int) (k9 : 24 ≤ x9 ∧ x9 ≤ 24) (k14 : 0 ≤ x14 ∧ x14 ≤ 23) (k16 : 0 ≤ x16 ∧ x16 ≤ 66297) (k19 : 1 ≤ x19 ∧ x19 ≤ 24) (k21 : 195 ≤ x21 ∧ x21 ≤ 66492) (k22 : 195 ≤ x22 ∧ x22 ≤ 66515) (k25 : 0 ≤ x25 ∧ x25 ≤ 8) (f10 : x22 = x21 + x14) (f23 : 1 * x14 + ((-1) * all_2 (r_0 + 0) + 0) ≤ 0) (f24 : (-1) * x14 + (1 * all_2 (r_0 + 0) + 0) ≤ 0) (f28 : 1 * x9 + ((-1) * all_2 (r_0 + 0) + 0) ≤ 0) (fe_0_5_1 : r_0 = r_1) (fe_0_8_1 : fault_0 = fault_1) (fe_0_11_1 : pos_0 = pos_1) (fe_0_12_1 : kind_0 = kind_1) (fe_0_15_1 : from_0 = from_1) (fe_0_5_2 : r_1 = r_2) (fe_0_8_2 : fault_1 = fault_2) (fe_0_11_2 : pos_1 = pos_2) (fe_0_12_2 : kind_1 = kind_2) (fe_0_15_2 : from_1 = from_2) (hE_0_2_1 : ∀ j : Int, 0 ≤ j → (j = x22 → all_0 j = x25) ∧ (j ≠ x22 → all_0 j = all_1 j)) (hE_0_2_2 : ∀ j : Int, 0 ≤ j → (j = x16 → all_1 j = x19) ∧ (j ≠ x16 → all_1 j = all_2 j)) (hE_0_3_1 : ∀ j : Int, now_0 j = now_1 j) (hE_0_3_2 : ∀ j : Int, now_1 j = now_2 j) (hE_0_4_1 : ∀ j : Int, latest_0 j = latest_1 j) (hE_0_4_2 : ∀ j : Int, latest_1 j = latest_2 j) (kz_0_8 : 0 ≤ fault_0 ∧ fault_0 ≤ 5) (kz_0_11 : 0 ≤ pos_0 ∧ pos_0 ≤ 2000) (kz_0_12 : 0 ≤ kind_0 ∧ kind_0 ≤ 4) (kz_0_15 : 0 ≤ from_0 ∧ from_0 ≤ 2000) : kind_0 = 1 := by
  subst fe_0_5_1
  subst fe_0_8_1
  subst fe_0_11_1
  subst fe_0_12_1
  subst fe_0_15_1
  subst fe_0_5_2
  subst fe_0_8_2
  subst fe_0_11_2
  subst fe_0_12_2
  subst fe_0_15_2
  have e_hE_0_3_1 := funext hE_0_3_1; subst e_hE_0_3_1
  have e_hE_0_3_2 := funext hE_0_3_2; subst e_hE_0_3_2
  have e_hE_0_4_1 := funext hE_0_4_1; subst e_hE_0_4_1
  have e_hE_0_4_2 := funext hE_0_4_2; subst e_hE_0_4_2
  first
    | omega
    | (have q1 := (hE_0_2_1 (r_0 + 2) (by omega)).2 (by omega)
       have q2 := (hE_0_2_2 (r_0 + 2) (by omega)).2 (by omega)
       omega)
    | (have q1 := (hE_0_2_1 (r_0 + 1) (by omega)).2 (by omega)
       have q2 := (hE_0_2_2 (r_0 + 1) (by omega)).2 (by omega)
       omega)
    | (have q1 := (hE_0_2_1 (r_0 + 2) (by omega)).2 (by omega)
       omega)
    | (have q1 := (hE_0_2_1 (r_0 + 1) (by omega)).2 (by omega)
       omega)
    | (have q1 := (hE_0_2_1 (r_0 + 2) (by omega)).2 (by omega)
       have q2 := (hE_0_2_2 (r_0 + 2) (by omega)).2 (by omega)
       have q3 := (hE_0_2_3 (r_0 + 2) (by omega)).1 (by omega)
       omega)
    | (have q1 := (hE_0_2_1 (r_0 + 2) (by omega)).2 (by omega)
       have q2 := (hE_0_2_2 (r_0 + 2) (by omega)).2 (by omega)
       have q3 := (hE_0_2_3 (r_0 + 2) (by omega)).2 (by omega)
       omega)
set_option maxHeartbeats 4000000 in
theorem vc_Mo_met_3_2 (x2 : Int) (x9 : Int) (x14 : Int) (x16 : Int) (x19 : Int) (x21 : Int) (x22 : Int) (x25 : Int) (from_0 : Int) (pos_0 : Int) (kind_0 : Int) (fault_0 : Int) (from_1 : Int) (pos_1 : Int) (r_1 : Int) (kind_1 : Int) (fault_1 : Int) (all_2 : Int → Int) (r_0 : Int) (fault_2 : Int) (r_2 : Int) (from_2 : Int) (pos_2 : Int) (kind_2 : Int) (now_2 : Int → Int) (latest_2 : Int → Int) (all_0 : Int → Int) (all_1 : Int → Int) (now_0 : Int → Int) (now_1 : Int → Int) (latest_0 : Int → Int) (latest_1 : Int → Int) (k2 : (-1) ≤ x2 ∧ x2 ≤ 23) (k9 : 24 ≤ x9 ∧ x9 ≤ 24) (k14 : 0 ≤ x14 ∧ x14 ≤ 23) (k16 : 0 ≤ x16 ∧ x16 ≤ 66297) (k19 : 1 ≤ x19 ∧ x19 ≤ 24) (k21 : 195 ≤ x21 ∧ x21 ≤ 66492) (k22 : 195 ≤ x22 ∧ x22 ≤ 66515) (k25 : 0 ≤ x25 ∧ x25 ≤ 8) (f10 : x22 = x21 + x14) (f23 : 1 * x14 + ((-1) * all_2 (r_0 + 0) + 0) ≤ 0) (f24 : (-1) * x14 + (1 * all_2 (r_0 + 0) + 0) ≤ 0) (f28 : 1 * x9 + ((-1) * all_2 (r_0 + 0) + 0) ≤ 0) (fe_0_5_1 : r_0 = r_1) (fe_0_8_1 : fault_0 = fault_1) (fe_0_11_1 : pos_0 = pos_1) (fe_0_12_1 : kind_0 = kind_1) (fe_0_15_1 : from_0 = from_1) (fe_0_5_2 : r_1 = r_2) (fe_0_8_2 : fault_1 = fault_2) (fe_0_11_2 : pos_1 = pos_2) (fe_0_12_2 : kind_1 = kind_2) (fe_0_15_2 : from_1 = from_2) (hE_0_2_1 : ∀ j : Int, 0 ≤ j → (j = x22 → all_0 j = x25) ∧ (j ≠ x22 → all_0 j = all_1 j)) (hE_0_2_2 : ∀ j : Int, 0 ≤ j → (j = x16 → all_1 j = x19) ∧ (j ≠ x16 → all_1 j = all_2 j)) (hE_0_3_1 : ∀ j : Int, now_0 j = now_1 j) (hE_0_3_2 : ∀ j : Int, now_1 j = now_2 j) (hE_0_4_1 : ∀ j : Int, latest_0 j = latest_1 j) (hE_0_4_2 : ∀ j : Int, latest_1 j = latest_2 j) (kz_0_8 : 0 ≤ fault_0 ∧ fault_0 ≤ 5) (kz_0_11 : 0 ≤ pos_0 ∧ pos_0 ≤ 2000) (kz_0_12 : 0 ≤ kind_0 ∧ kind_0 ≤ 4) (kz_0_15 : 0 ≤ from_0 ∧ from_0 ≤ 2000) : (x2 ≤ (-1)) ∨ (all_0 ((r_0 + 1)) ≤ 47) := by
  subst fe_0_5_1
  subst fe_0_8_1
  subst fe_0_11_1
  subst fe_0_12_1
  subst fe_0_15_1
  subst fe_0_5_2
  subst fe_0_8_2
  subst fe_0_11_2
  subst fe_0_12_2
  subst fe_0_15_2
  have e_hE_0_3_1 := funext hE_0_3_1; subst e_hE_0_3_1
  have e_hE_0_3_2 := funext hE_0_3_2; subst e_hE_0_3_2
  have e_hE_0_4_1 := funext hE_0_4_1; subst e_hE_0_4_1
  have e_hE_0_4_2 := funext hE_0_4_2; subst e_hE_0_4_2
  first
    | omega
    | (have q1 := (hE_0_2_1 (r_0 + 2) (by omega)).2 (by omega)
       have q2 := (hE_0_2_2 (r_0 + 2) (by omega)).2 (by omega)
       omega)
    | (have q1 := (hE_0_2_1 (r_0 + 1) (by omega)).2 (by omega)
       have q2 := (hE_0_2_2 (r_0 + 1) (by omega)).2 (by omega)
       omega)
    | (have q1 := (hE_0_2_1 (r_0 + 2) (by omega)).2 (by omega)
       omega)
    | (have q1 := (hE_0_2_1 (r_0 + 1) (by omega)).2 (by omega)
       omega)
    | (have q1 := (hE_0_2_1 (r_0 + 2) (by omega)).2 (by omega)
       have q2 := (hE_0_2_2 (r_0 + 2) (by omega)).2 (by omega)
       have q3 := (hE_0_2_3 (r_0 + 2) (by omega)).1 (by omega)
       omega)
    | (have q1 := (hE_0_2_1 (r_0 + 2) (by omega)).2 (by omega)
       have q2 := (hE_0_2_2 (r_0 + 2) (by omega)).2 (by omega)
       have q3 := (hE_0_2_3 (r_0 + 2) (by omega)).2 (by omega)
       omega)
set_option maxHeartbeats 4000000 in
theorem vc_Mo_met_3_3 (x1 : Int) (x9 : Int) (x14 : Int) (x16 : Int) (x19 : Int) (x21 : Int) (x22 : Int) (x25 : Int) (from_0 : Int) (pos_0 : Int) (kind_0 : Int) (fault_0 : Int) (from_1 : Int) (pos_1 : Int) (r_1 : Int) (kind_1 : Int) (fault_1 : Int) (all_2 : Int → Int) (r_0 : Int) (fault_2 : Int) (r_2 : Int) (from_2 : Int) (pos_2 : Int) (kind_2 : Int) (now_2 : Int → Int) (latest_2 : Int → Int) (all_0 : Int → Int) (all_1 : Int → Int) (now_0 : Int → Int) (now_1 : Int → Int) (latest_0 : Int → Int) (latest_1 : Int → Int) (k1 : 0 ≤ x1 ∧ x1 ≤ 7) (k9 : 24 ≤ x9 ∧ x9 ≤ 24) (k14 : 0 ≤ x14 ∧ x14 ≤ 23) (k16 : 0 ≤ x16 ∧ x16 ≤ 66297) (k19 : 1 ≤ x19 ∧ x19 ≤ 24) (k21 : 195 ≤ x21 ∧ x21 ≤ 66492) (k22 : 195 ≤ x22 ∧ x22 ≤ 66515) (k25 : 0 ≤ x25 ∧ x25 ≤ 8) (f10 : x22 = x21 + x14) (f23 : 1 * x14 + ((-1) * all_2 (r_0 + 0) + 0) ≤ 0) (f24 : (-1) * x14 + (1 * all_2 (r_0 + 0) + 0) ≤ 0) (f28 : 1 * x9 + ((-1) * all_2 (r_0 + 0) + 0) ≤ 0) (fe_0_5_1 : r_0 = r_1) (fe_0_8_1 : fault_0 = fault_1) (fe_0_11_1 : pos_0 = pos_1) (fe_0_12_1 : kind_0 = kind_1) (fe_0_15_1 : from_0 = from_1) (fe_0_5_2 : r_1 = r_2) (fe_0_8_2 : fault_1 = fault_2) (fe_0_11_2 : pos_1 = pos_2) (fe_0_12_2 : kind_1 = kind_2) (fe_0_15_2 : from_1 = from_2) (hE_0_2_1 : ∀ j : Int, 0 ≤ j → (j = x22 → all_0 j = x25) ∧ (j ≠ x22 → all_0 j = all_1 j)) (hE_0_2_2 : ∀ j : Int, 0 ≤ j → (j = x16 → all_1 j = x19) ∧ (j ≠ x16 → all_1 j = all_2 j)) (hE_0_3_1 : ∀ j : Int, now_0 j = now_1 j) (hE_0_3_2 : ∀ j : Int, now_1 j = now_2 j) (hE_0_4_1 : ∀ j : Int, latest_0 j = latest_1 j) (hE_0_4_2 : ∀ j : Int, latest_1 j = latest_2 j) (kz_0_8 : 0 ≤ fault_0 ∧ fault_0 ≤ 5) (kz_0_11 : 0 ≤ pos_0 ∧ pos_0 ≤ 2000) (kz_0_12 : 0 ≤ kind_0 ∧ kind_0 ≤ 4) (kz_0_15 : 0 ≤ from_0 ∧ from_0 ≤ 2000) : (x1 + 1) ≤ all_0 ((r_0 + 2)) := by
  subst fe_0_5_1
  subst fe_0_8_1
  subst fe_0_11_1
  subst fe_0_12_1
  subst fe_0_15_1
  subst fe_0_5_2
  subst fe_0_8_2
  subst fe_0_11_2
  subst fe_0_12_2
  subst fe_0_15_2
  have e_hE_0_3_1 := funext hE_0_3_1; subst e_hE_0_3_1
  have e_hE_0_3_2 := funext hE_0_3_2; subst e_hE_0_3_2
  have e_hE_0_4_1 := funext hE_0_4_1; subst e_hE_0_4_1
  have e_hE_0_4_2 := funext hE_0_4_2; subst e_hE_0_4_2
  first
    | omega
    | (have q1 := (hE_0_2_1 (r_0 + 2) (by omega)).2 (by omega)
       have q2 := (hE_0_2_2 (r_0 + 2) (by omega)).2 (by omega)
       omega)
    | (have q1 := (hE_0_2_1 (r_0 + 1) (by omega)).2 (by omega)
       have q2 := (hE_0_2_2 (r_0 + 1) (by omega)).2 (by omega)
       omega)
    | (have q1 := (hE_0_2_1 (r_0 + 2) (by omega)).2 (by omega)
       omega)
    | (have q1 := (hE_0_2_1 (r_0 + 1) (by omega)).2 (by omega)
       omega)
    | (have q1 := (hE_0_2_1 (r_0 + 2) (by omega)).2 (by omega)
       have q2 := (hE_0_2_2 (r_0 + 2) (by omega)).2 (by omega)
       have q3 := (hE_0_2_3 (r_0 + 2) (by omega)).1 (by omega)
       omega)
    | (have q1 := (hE_0_2_1 (r_0 + 2) (by omega)).2 (by omega)
       have q2 := (hE_0_2_2 (r_0 + 2) (by omega)).2 (by omega)
       have q3 := (hE_0_2_3 (r_0 + 2) (by omega)).2 (by omega)
       omega)
set_option maxHeartbeats 4000000 in
theorem vc_Mo_met_3_4 (x13 : Int) (x14 : Int) (from_0 : Int) (pos_0 : Int) (kind_0 : Int) (fault_0 : Int) (from_1 : Int) (pos_1 : Int) (r_1 : Int) (kind_1 : Int) (fault_1 : Int) (r_0 : Int) (fault_2 : Int) (r_2 : Int) (from_2 : Int) (pos_2 : Int) (kind_2 : Int) (now_2 : Int → Int) (latest_2 : Int → Int) (all_0 : Int → Int) (now_0 : Int → Int) (now_1 : Int → Int) (latest_0 : Int → Int) (latest_1 : Int → Int) (k13 : 0 ≤ x13 ∧ x13 ≤ 0) (k14 : 0 ≤ x14 ∧ x14 ≤ 23) (f5 : (-1) * fault_0 + 0 ≤ (-1)) (g27 : x13 = fault_2) (fe_0_5_1 : r_0 = r_1) (fe_0_8_1 : fault_0 = fault_1) (fe_0_11_1 : pos_0 = pos_1) (fe_0_12_1 : kind_0 = kind_1) (fe_0_15_1 : from_0 = from_1) (fe_0_5_2 : r_1 = r_2) (fe_0_8_2 : fault_1 = fault_2) (fe_0_11_2 : pos_1 = pos_2) (fe_0_12_2 : kind_1 = kind_2) (fe_0_15_2 : from_1 = from_2) (hE_0_3_1 : ∀ j : Int, now_0 j = now_1 j) (hE_0_3_2 : ∀ j : Int, now_1 j = now_2 j) (hE_0_4_1 : ∀ j : Int, latest_0 j = latest_1 j) (hE_0_4_2 : ∀ j : Int, latest_1 j = latest_2 j) (kz_0_8 : 0 ≤ fault_0 ∧ fault_0 ≤ 5) (kz_0_11 : 0 ≤ pos_0 ∧ pos_0 ≤ 2000) (kz_0_12 : 0 ≤ kind_0 ∧ kind_0 ≤ 4) (kz_0_15 : 0 ≤ from_0 ∧ from_0 ≤ 2000) : RWN (r_0) (all_0) (now_0) (latest_0) (x14) := by
  subst fe_0_5_1
  subst fe_0_8_1
  subst fe_0_11_1
  subst fe_0_12_1
  subst fe_0_15_1
  subst fe_0_5_2
  subst fe_0_8_2
  subst fe_0_11_2
  subst fe_0_12_2
  subst fe_0_15_2
  have e_hE_0_3_1 := funext hE_0_3_1; subst e_hE_0_3_1
  have e_hE_0_3_2 := funext hE_0_3_2; subst e_hE_0_3_2
  have e_hE_0_4_1 := funext hE_0_4_1; subst e_hE_0_4_1
  have e_hE_0_4_2 := funext hE_0_4_2; subst e_hE_0_4_2
  try simp only [Int.add_zero] at *
  first
    | (exfalso; omega)
    | (have hr := rws_r ‹RWS _ _ _ _›
       have hb := (rws_sg ‹RWS _ _ _ _›).1
       exact rwn_off (rwn_start ‹RWS _ _ _ _› (by assumption) (by omega) (by omega) (by omega) (by omega)) (by assumption) (by omega))
    | (have hr := rwn_r ‹RWN _ _ _ _ _›
       have hb := ‹MEN _ _ _ _›.1
       exact rwn_off ‹RWN _ _ _ _ _› (by assumption) (by omega))
set_option maxHeartbeats 4000000 in
theorem vc_Mo_met_3_5 (x2 : Int) (x13 : Int) (x14 : Int) (from_0 : Int) (pos_0 : Int) (kind_0 : Int) (fault_0 : Int) (from_1 : Int) (pos_1 : Int) (r_1 : Int) (kind_1 : Int) (fault_1 : Int) (r_0 : Int) (fault_2 : Int) (r_2 : Int) (from_2 : Int) (pos_2 : Int) (kind_2 : Int) (now_2 : Int → Int) (latest_2 : Int → Int) (all_0 : Int → Int) (now_0 : Int → Int) (now_1 : Int → Int) (latest_0 : Int → Int) (latest_1 : Int → Int) (k2 : (-1) ≤ x2 ∧ x2 ≤ 23) (k13 : 0 ≤ x13 ∧ x13 ≤ 0) (k14 : 0 ≤ x14 ∧ x14 ≤ 23) (f5 : (-1) * fault_0 + 0 ≤ (-1)) (g27 : x13 = fault_2) (fe_0_5_1 : r_0 = r_1) (fe_0_8_1 : fault_0 = fault_1) (fe_0_11_1 : pos_0 = pos_1) (fe_0_12_1 : kind_0 = kind_1) (fe_0_15_1 : from_0 = from_1) (fe_0_5_2 : r_1 = r_2) (fe_0_8_2 : fault_1 = fault_2) (fe_0_11_2 : pos_1 = pos_2) (fe_0_12_2 : kind_1 = kind_2) (fe_0_15_2 : from_1 = from_2) (hE_0_3_1 : ∀ j : Int, now_0 j = now_1 j) (hE_0_3_2 : ∀ j : Int, now_1 j = now_2 j) (hE_0_4_1 : ∀ j : Int, latest_0 j = latest_1 j) (hE_0_4_2 : ∀ j : Int, latest_1 j = latest_2 j) (kz_0_8 : 0 ≤ fault_0 ∧ fault_0 ≤ 5) (kz_0_11 : 0 ≤ pos_0 ∧ pos_0 ≤ 2000) (kz_0_12 : 0 ≤ kind_0 ∧ kind_0 ≤ 4) (kz_0_15 : 0 ≤ from_0 ∧ from_0 ≤ 2000) : MEN (r_0) (all_0) (x2) (x14) := by
  subst fe_0_5_1
  subst fe_0_8_1
  subst fe_0_11_1
  subst fe_0_12_1
  subst fe_0_15_1
  subst fe_0_5_2
  subst fe_0_8_2
  subst fe_0_11_2
  subst fe_0_12_2
  subst fe_0_15_2
  have e_hE_0_3_1 := funext hE_0_3_1; subst e_hE_0_3_1
  have e_hE_0_3_2 := funext hE_0_3_2; subst e_hE_0_3_2
  have e_hE_0_4_1 := funext hE_0_4_1; subst e_hE_0_4_1
  have e_hE_0_4_2 := funext hE_0_4_2; subst e_hE_0_4_2
  try simp only [Int.add_zero] at *
  first
    | (exfalso; omega)
    | (have hr := rws_r ‹RWS _ _ _ _›
       have hb := (rws_sg ‹RWS _ _ _ _›).1
       exact men_off (by omega) (men_new ‹RWS _ _ _ _› (by assumption) (by omega) (by omega) (by omega) ‹MEB _ _ _› (by omega)) (by assumption) (by omega))
    | (have hr := rwn_r ‹RWN _ _ _ _ _›
       have hb := ‹MEN _ _ _ _›.1
       exact men_off (by omega) ‹MEN _ _ _ _› (by assumption) (by omega))
def o_Mo_met_3 : or_T := (171, 27, [(0, (2, 0, 0, [165])), (1, (0, 0, 7, [])), (2, (0, -1, 23, [])), (3, (0, 0, 2000, [])), (4, (0, 0, 2000, [])), (6, (0, 1, 1, [])), (7, (0, -1, -1, [])), (9, (0, 24, 24, [])), (10, (0, 24, 24, [])), (13, (0, 0, 0, [])), (14, (0, 0, 23, [])), (15, (2, 0, 0, [167])), (16, (0, 0, 66297, [])), (17, (0, 0, 24, [])), (18, (0, 1, 1, [])), (19, (0, 1, 24, [])), (20, (0, 195, 195, [])), (21, (0, 195, 66492, [])), (22, (0, 195, 66515, [])), (23, (0, 0, 2000, [])), (24, (0, 0, 2000, [])), (25, (0, 0, 8, []))], [(20, [0, 0], [30, 0, 1, 1, 15, -1, 1, 11]), (20, [0], [50, 3, 0, 12, 11, 15, 2, 21, 4, 7, 1, 3, 2, 0, 12, 0, 1, 0, 3, 2, 0, 11, 4, 3, 2, 0, 15, 0, 8, 3, 7, 1, 3, 2, 0, 12, 0, 0, 0, 7, 4, 3, 2, 0, 15, 0, 1, 2, 0, 11]), (20, [3, 0], [30, 0, 1, 0, 0, -1, 1, 11]), (20, [0, 4], [50, 2, 0, 12, 11, 3, 7, 1, 3, 2, 0, 12, 0, 0, 0, 6, 4, 2, 1, 1, 0, 1, 2, 0, 11]), (20, [6, 0], [50, 1, 0, 1012, 4, 6, 1, 2, 1, 0, 0, 1, 1, 3, 2, 1, 12, 0, 1]), (20, [0], [30, -1, -1, 1, 8]), (100, [15, 22, 25], []), (2, [25, 23, 24], []), (9, [24, 0], [15]), (9, [23, 0], [11]), (1, [22, 21, 14], []), (1, [21, 16, 20], []), (9, [16, 0], [5]), (9, [15, 0], [2]), (20, [0, 0], [30, 0, 1, 1, 15, -1, 1, 11]), (20, [0], [50, 3, 0, 12, 11, 15, 2, 21, 4, 7, 1, 3, 2, 0, 12, 0, 1, 0, 3, 2, 0, 11, 4, 3, 2, 0, 15, 0, 8, 3, 7, 1, 3, 2, 0, 12, 0, 0, 0, 7, 4, 3, 2, 0, 15, 0, 1, 2, 0, 11]), (20, [3, 0], [30, 0, 1, 0, 0, -1, 1, 11]), (20, [0, 4], [50, 2, 0, 12, 11, 3, 7, 1, 3, 2, 0, 12, 0, 0, 0, 6, 4, 2, 1, 1, 0, 1, 2, 0, 11]), (20, [6, 0], [50, 1, 0, 1012, 4, 6, 1, 2, 1, 0, 0, 1, 1, 3, 2, 1, 12, 0, 1]), (20, [0], [30, -1, -1, 1, 8]), (100, [15, 16, 19], []), (1, [19, 17, 18], []), (10, [17, 15, 16], []), (20, [14, 0], [30, 0, 1, 0, 0, -1, 3, 2005000]), (20, [14, 0], [30, 0, -1, 0, 0, 1, 3, 2005000]), (8, [7], [2]), (8, [13], [5]), (9, [13, 0], [8]), (20, [9, 0], [30, 0, 1, 0, 0, -1, 3, 2005000]), (20, [9, 0], [30, 0, -1, 0, 0, 1, 3, 2005000]), (20, [0, 7], [60, 1, 1, 207, 5, 2]), (20, [0, 0], [30, 0, 1, 1, 15, -1, 1, 11]), (20, [0], [50, 3, 0, 12, 11, 15, 2, 21, 4, 7, 1, 3, 2, 0, 12, 0, 1, 0, 3, 2, 0, 11, 4, 3, 2, 0, 15, 0, 8, 3, 7, 1, 3, 2, 0, 12, 0, 0, 0, 7, 4, 3, 2, 0, 15, 0, 1, 2, 0, 11]), (20, [3, 0], [30, 0, 1, 0, 0, -1, 1, 11]), (20, [0, 4], [50, 2, 0, 12, 11, 3, 7, 1, 3, 2, 0, 12, 0, 0, 0, 6, 4, 2, 1, 1, 0, 1, 2, 0, 11]), (20, [1, 0], [50, 1, 1, 1005, 1002, 0, 6, 4, 2, 1, 0, 0, 1, 3, 1, 2, 4, 3, 2, 1, 5, 0, 2]), (20, [0], [60, 1, 3, 199, 5, 2, 3, 4]), (20, [0, 2], [60, 1, 1, 241, 5, 2]), (20, [6, 0], [50, 1, 0, 1012, 4, 6, 1, 2, 1, 0, 0, 1, 1, 3, 2, 1, 12, 0, 1]), (20, [0], [30, -1, -1, 1, 8]), (102, [12], [0, 165008, 165009]), (7, [9, 10], [0]), (8, [7], [2]), (8, [7], [2]), (8, [6], [1])], [], [], [(20, [4, 0], [30, -1, 1, 0, 0, -1, 1, 11]), (20, [0], [50, 1, 0, 12, 1, 3, 2, 0, 12, 0, 1]), (20, [2, 0], [50, 1, 1, 1005, 1002, 3, 6, 0, 2, 1, 0, 0, -1, 0, 10, 3, 1, 2, 4, 3, 2, 1, 5, 0, 1, 0, 47]), (20, [1, 0], [50, 1, 1, 1005, 1002, 0, 6, 4, 2, 1, 0, 0, 1, 3, 1, 2, 4, 3, 2, 1, 5, 0, 2]), (20, [0, 14], [60, 1, 3, 200, 5, 2, 3, 4]), (20, [0, 2, 14], [60, 1, 1, 243, 5, 2]), (24, [0, 0], []), (24, [1, 1], []), (24, [2, 2], [])], [], [(25, 23, -2000, 0), (22, 14, 195, 66492), (22, 21, 0, 23), (22, 16, 195, 218), (21, 16, 195, 195), (19, 17, 1, 1)])
theorem oo_Mo_met_3 {kA : Nat → ClassId} : or_ok PRD kA GG o_Mo_met_3 := by
  refine or_mk fun A ta ws vs hD hth hl => ?_
  intro t0 r0 t1 k1 t2 k2 t3 k3 t4 k4 t6 k6 t7 k7 t9 k9 t10 k10 t13 k13 t14 k14 t15 r15 t16 k16 t17 k17 t18 k18 t19 k19 t20 k20 t21 k21 t22 k22 t23 k23 t24 k24 t25 k25 d0 d1 d2 d3 d4 d5 f0 f1 f2 f3 f4 f5 ta1 w1 le1 s1 f7 f8 f9 f10 f11 f12 f13 f14 f15 f16 f17 f18 f19 ta2 w2 le2 s2 f21 f22 f23 f24 f25 f26 f27 f28 f29 f30 f31 f32 f33 f34 f35 f36 f37 f38 f39 ta3 w3 le3 s3 f41 f42 f43 f44
  replace f0 := shm_1397 f0
  replace f1 := shm_1398 f1
  replace f2 := shm_1395 f2
  replace f3 := shm_1978 f3
  replace f4 := shm_1762 f4
  replace f5 := shm_144 f5
  have s1 : (∀ b j, w_el ws b j = if b = v_ad (n_v vs 15) ∧ j = (v_iv (n_v vs 22)).toNat then v_iv (n_v vs 25) else w_el w1 b j) ∧ ∀ b k, w_fd ws b k = w_fd w1 b k := s1.2
  replace f7 := shm_14 f7
  replace f8 := shm_189 f8
  replace f9 := shm_117 f9
  replace f10 := shm_12 f10
  replace f11 := shm_12 f11
  replace f12 := shm_109 f12
  replace f13 := shm_129 f13
  replace f14 := shm_1397 f14
  replace f15 := shm_1398 f15
  replace f16 := shm_1395 f16
  replace f17 := shm_1978 f17
  replace f18 := shm_1762 f18
  replace f19 := shm_144 f19
  have s2 : (∀ b j, w_el w1 b j = if b = v_ad (n_v vs 15) ∧ j = (v_iv (n_v vs 16)).toNat then v_iv (n_v vs 19) else w_el w2 b j) ∧ ∀ b k, w_fd w1 b k = w_fd w2 b k := s2.2
  replace f21 := shm_12 f21
  replace f22 := shm_106 f22
  replace f23 := shm_135 f23
  replace f24 := shm_136 f24
  replace f25 := shm_39 f25
  replace f26 := shm_142 f26
  replace f27 := shm_143 f27
  replace f28 := shm_135 f28
  replace f29 := shm_136 f29
  replace f30 := shm_1200 f30
  replace f31 := shm_1397 f31
  replace f32 := shm_1398 f32
  replace f33 := shm_1395 f33
  replace f34 := shm_1978 f34
  replace f35 := shm_981 f35
  replace f36 := shm_952 f36
  replace f37 := shm_1979 f37
  replace f38 := shm_1762 f38
  replace f39 := shm_144 f39
  replace f41 := shm_37 f41
  replace f42 := shm_39 f42
  replace f43 := shm_39 f43
  replace f44 := shm_154 f44
  have ar_0_2_1 : w_ar w1 (n_v vs 0) 2 = w_ar ws (n_v vs 0) 2 := congrArg v_ad (s1.2 _ _).symm
  have ar_0_2_2 : w_ar w2 (n_v vs 0) 2 = w_ar ws (n_v vs 0) 2 := by rw [← ar_0_2_1]; show v_ad (w_fd w2 _ _) = v_ad (w_fd w1 _ _); rw [s2.2]
  have cr_0_2 := fdq_12 hD hth r0
  have ar_0_3_1 : w_ar w1 (n_v vs 0) 3 = w_ar ws (n_v vs 0) 3 := congrArg v_ad (s1.2 _ _).symm
  have ar_0_3_2 : w_ar w2 (n_v vs 0) 3 = w_ar ws (n_v vs 0) 3 := by rw [← ar_0_3_1]; show v_ad (w_fd w2 _ _) = v_ad (w_fd w1 _ _); rw [s2.2]
  have cr_0_3 := fdq_141 hD hth r0
  have ar_0_4_1 : w_ar w1 (n_v vs 0) 4 = w_ar ws (n_v vs 0) 4 := congrArg v_ad (s1.2 _ _).symm
  have ar_0_4_2 : w_ar w2 (n_v vs 0) 4 = w_ar ws (n_v vs 0) 4 := by rw [← ar_0_4_1]; show v_ad (w_fd w2 _ _) = v_ad (w_fd w1 _ _); rw [s2.2]
  have cr_0_4 := fdq_142 hD hth r0
  have fi_0_5_1 : w_fi w1 (n_v vs 0) 5 = w_fi ws (n_v vs 0) 5 := by show v_iv (w_fd w1 _ _) = v_iv (w_fd ws _ _); rw [s1.2]
  have fi_0_5_2 : w_fi w2 (n_v vs 0) 5 = w_fi ws (n_v vs 0) 5 := by rw [← fi_0_5_1]; show v_iv (w_fd w2 _ _) = v_iv (w_fd w1 _ _); rw [s2.2]
  have ad_15 : v_ad (n_v vs 15) = w_ar ws (n_v vs 0) 2 := (congrArg v_ad f13).trans ar_0_2_1
  have g8 : v_iv (n_v vs 24) = w_fi w1 (n_v vs 0) 15 := congrArg v_iv f8
  have g9 : v_iv (n_v vs 23) = w_fi w1 (n_v vs 0) 11 := congrArg v_iv f9
  have g12 : v_iv (n_v vs 16) = w_fi w1 (n_v vs 0) 5 := congrArg v_iv f12
  simp only [ad_15] at f22
  have h22 : v_iv (n_v vs 17) = w_ei w2 (w_ar ws (n_v vs 0) 2) (v_iv (n_v vs 16)) := f22
  simp only [ar_0_2_2] at f23 f24
  simp only [fi_0_5_2] at f23 f24
  have g27 : v_iv (n_v vs 13) = w_fi w2 (n_v vs 0) 8 := congrArg v_iv f27
  simp only [ar_0_2_2, ar_0_3_2, ar_0_4_2] at f28 f29 f30 f35 f36 f37
  simp only [fi_0_5_2] at f28 f29
  have fe_0_5_1 : w_fi ws (n_v vs 0) 5 = w_fi w1 (n_v vs 0) 5 := congrArg v_iv (s1.2 _ _)
  have fe_0_8_1 : w_fi ws (n_v vs 0) 8 = w_fi w1 (n_v vs 0) 8 := congrArg v_iv (s1.2 _ _)
  have fe_0_11_1 : w_fi ws (n_v vs 0) 11 = w_fi w1 (n_v vs 0) 11 := congrArg v_iv (s1.2 _ _)
  have fe_0_12_1 : w_fi ws (n_v vs 0) 12 = w_fi w1 (n_v vs 0) 12 := congrArg v_iv (s1.2 _ _)
  have fe_0_15_1 : w_fi ws (n_v vs 0) 15 = w_fi w1 (n_v vs 0) 15 := congrArg v_iv (s1.2 _ _)
  have fe_0_5_2 : w_fi w1 (n_v vs 0) 5 = w_fi w2 (n_v vs 0) 5 := congrArg v_iv (s2.2 _ _)
  have fe_0_8_2 : w_fi w1 (n_v vs 0) 8 = w_fi w2 (n_v vs 0) 8 := congrArg v_iv (s2.2 _ _)
  have fe_0_11_2 : w_fi w1 (n_v vs 0) 11 = w_fi w2 (n_v vs 0) 11 := congrArg v_iv (s2.2 _ _)
  have fe_0_12_2 : w_fi w1 (n_v vs 0) 12 = w_fi w2 (n_v vs 0) 12 := congrArg v_iv (s2.2 _ _)
  have fe_0_15_2 : w_fi w1 (n_v vs 0) 15 = w_fi w2 (n_v vs 0) 15 := congrArg v_iv (s2.2 _ _)
  have hE_0_2_1 : ∀ j : Int, 0 ≤ j → (j = v_iv (n_v vs 22) → w_ei ws (w_ar ws (n_v vs 0) 2) j = v_iv (n_v vs 25)) ∧ (j ≠ v_iv (n_v vs 22) → w_ei ws (w_ar ws (n_v vs 0) 2) j = w_ei w1 (w_ar ws (n_v vs 0) 2) j) := fun j hj => ⟨fun h => by unfold w_ei; rw [s1.1, if_pos ⟨ad_15.symm, by rw [h]⟩], fun h => by unfold w_ei; rw [s1.1, if_neg (fun e => h (by have := e.2; omega))]⟩
  have hE_0_2_2 : ∀ j : Int, 0 ≤ j → (j = v_iv (n_v vs 16) → w_ei w1 (w_ar ws (n_v vs 0) 2) j = v_iv (n_v vs 19)) ∧ (j ≠ v_iv (n_v vs 16) → w_ei w1 (w_ar ws (n_v vs 0) 2) j = w_ei w2 (w_ar ws (n_v vs 0) 2) j) := fun j hj => ⟨fun h => by unfold w_ei; rw [s2.1, if_pos ⟨ad_15.symm, by rw [h]⟩], fun h => by unfold w_ei; rw [s2.1, if_neg (fun e => h (by have := e.2; omega))]⟩
  have hE_0_3_1 : ∀ j : Int, w_ei ws (w_ar ws (n_v vs 0) 3) j = w_ei w1 (w_ar ws (n_v vs 0) 3) j := el_kp s1.1 r15 cr_0_3 (by decide)
  have hE_0_3_2 : ∀ j : Int, w_ei w1 (w_ar ws (n_v vs 0) 3) j = w_ei w2 (w_ar ws (n_v vs 0) 3) j := el_kp s2.1 r15 cr_0_3 (by decide)
  have hK_0_3 := elq_77 hD hth cr_0_3
  have hE_0_4_1 : ∀ j : Int, w_ei ws (w_ar ws (n_v vs 0) 4) j = w_ei w1 (w_ar ws (n_v vs 0) 4) j := el_kp s1.1 r15 cr_0_4 (by decide)
  have hE_0_4_2 : ∀ j : Int, w_ei w1 (w_ar ws (n_v vs 0) 4) j = w_ei w2 (w_ar ws (n_v vs 0) 4) j := el_kp s2.1 r15 cr_0_4 (by decide)
  have hK_0_4 := elq_78 hD hth cr_0_4
  have kz_0_8 := fdq_14 hD hth r0
  have kz_0_11 := fdq_273 hD hth r0
  have kz_0_12 := fdq_186 hD hth r0
  have kz_0_15 := fdq_274 hD hth r0
  first | have hJ0 : w_ei w2 (w_ar ws (n_v vs 0) 2) ((w_fi w2 (n_v vs 0) 5 + 2)) = w_ei w2 (w_ar ws (n_v vs 0) 2) ((w_fi ws (n_v vs 0) 5 + 2)) := congrArg _ (show ((w_fi w2 (n_v vs 0) 5 + 2) : Int) = (w_fi ws (n_v vs 0) 5 + 2) from by omega) | skip
  first | have hI1 := (hE_0_2_1 ((w_fi ws (n_v vs 0) 5 + 2)) (by omega)).2 (by omega) | have hI1 := (hE_0_2_1 ((w_fi ws (n_v vs 0) 5 + 2)) (by omega)).1 (by omega) | skip
  first | have hI2 := (hE_0_2_2 ((w_fi ws (n_v vs 0) 5 + 2)) (by omega)).2 (by omega) | have hI2 := (hE_0_2_2 ((w_fi ws (n_v vs 0) 5 + 2)) (by omega)).1 (by omega) | skip
  first | have hI3 := (hE_0_2_1 ((w_fi ws (n_v vs 0) 5 + 1)) (by omega)).2 (by omega) | have hI3 := (hE_0_2_1 ((w_fi ws (n_v vs 0) 5 + 1)) (by omega)).1 (by omega) | skip
  first | have hI4 := (hE_0_2_2 ((w_fi ws (n_v vs 0) 5 + 1)) (by omega)).2 (by omega) | have hI4 := (hE_0_2_2 ((w_fi ws (n_v vs 0) 5 + 1)) (by omega)).1 (by omega) | skip
  have nf0 : fc_1 PRD (20, [4, 0], [30, -1, 1, 0, 0, -1, 1, 11]) ws (vs) := ⟨nf_in hl rfl, sgq_1891 (vc_Mo_met_3_0 (v_iv (n_v vs 4)) (v_iv (n_v vs 9)) (v_iv (n_v vs 14)) (v_iv (n_v vs 16)) (v_iv (n_v vs 19)) (v_iv (n_v vs 21)) (v_iv (n_v vs 22)) (v_iv (n_v vs 25)) (w_fi ws (n_v vs 0) 15) (w_fi ws (n_v vs 0) 11) (w_fi ws (n_v vs 0) 12) (w_fi ws (n_v vs 0) 8) (w_fi w1 (n_v vs 0) 15) (w_fi w1 (n_v vs 0) 11) (w_fi w1 (n_v vs 0) 5) (w_fi w1 (n_v vs 0) 12) (w_fi w1 (n_v vs 0) 8) (w_ei w2 (w_ar ws (n_v vs 0) 2)) (w_fi ws (n_v vs 0) 5) (w_fi w2 (n_v vs 0) 8) (w_fi w2 (n_v vs 0) 5) (w_fi w2 (n_v vs 0) 15) (w_fi w2 (n_v vs 0) 11) (w_fi w2 (n_v vs 0) 12) (w_ei w2 (w_ar ws (n_v vs 0) 3)) (w_ei w2 (w_ar ws (n_v vs 0) 4)) (w_ei ws (w_ar ws (n_v vs 0) 2)) (w_ei w1 (w_ar ws (n_v vs 0) 2)) (w_ei ws (w_ar ws (n_v vs 0) 3)) (w_ei w1 (w_ar ws (n_v vs 0) 3)) (w_ei ws (w_ar ws (n_v vs 0) 4)) (w_ei w1 (w_ar ws (n_v vs 0) 4)) k4 k9 k14 k16 k19 k21 k22 k25 f10 f23 f24 f28 fe_0_5_1 fe_0_8_1 fe_0_11_1 fe_0_12_1 fe_0_15_1 fe_0_5_2 fe_0_8_2 fe_0_11_2 fe_0_12_2 fe_0_15_2 hE_0_2_1 hE_0_2_2 hE_0_3_1 hE_0_3_2 hE_0_4_1 hE_0_4_2 kz_0_8 kz_0_11 kz_0_12 kz_0_15)⟩
  have nf1 : fc_1 PRD (20, [0], [50, 1, 0, 12, 1, 3, 2, 0, 12, 0, 1]) ws (vs) := ⟨nf_in hl rfl, sgq_1791 (vc_Mo_met_3_1 (v_iv (n_v vs 9)) (v_iv (n_v vs 14)) (v_iv (n_v vs 16)) (v_iv (n_v vs 19)) (v_iv (n_v vs 21)) (v_iv (n_v vs 22)) (v_iv (n_v vs 25)) (w_fi ws (n_v vs 0) 15) (w_fi ws (n_v vs 0) 11) (w_fi ws (n_v vs 0) 12) (w_fi ws (n_v vs 0) 8) (w_fi w1 (n_v vs 0) 15) (w_fi w1 (n_v vs 0) 11) (w_fi w1 (n_v vs 0) 5) (w_fi w1 (n_v vs 0) 12) (w_fi w1 (n_v vs 0) 8) (w_ei w2 (w_ar ws (n_v vs 0) 2)) (w_fi ws (n_v vs 0) 5) (w_fi w2 (n_v vs 0) 8) (w_fi w2 (n_v vs 0) 5) (w_fi w2 (n_v vs 0) 15) (w_fi w2 (n_v vs 0) 11) (w_fi w2 (n_v vs 0) 12) (w_ei w2 (w_ar ws (n_v vs 0) 3)) (w_ei w2 (w_ar ws (n_v vs 0) 4)) (w_ei ws (w_ar ws (n_v vs 0) 2)) (w_ei w1 (w_ar ws (n_v vs 0) 2)) (w_ei ws (w_ar ws (n_v vs 0) 3)) (w_ei w1 (w_ar ws (n_v vs 0) 3)) (w_ei ws (w_ar ws (n_v vs 0) 4)) (w_ei w1 (w_ar ws (n_v vs 0) 4)) k9 k14 k16 k19 k21 k22 k25 f10 f23 f24 f28 fe_0_5_1 fe_0_8_1 fe_0_11_1 fe_0_12_1 fe_0_15_1 fe_0_5_2 fe_0_8_2 fe_0_11_2 fe_0_12_2 fe_0_15_2 hE_0_2_1 hE_0_2_2 hE_0_3_1 hE_0_3_2 hE_0_4_1 hE_0_4_2 kz_0_8 kz_0_11 kz_0_12 kz_0_15)⟩
  have nf2 : fc_1 PRD (20, [2, 0], [50, 1, 1, 1005, 1002, 3, 6, 0, 2, 1, 0, 0, -1, 0, 10, 3, 1, 2, 4, 3, 2, 1, 5, 0, 1, 0, 47]) ws (vs) := ⟨nf_in hl rfl, sgq_1980 (vc_Mo_met_3_2 (v_iv (n_v vs 2)) (v_iv (n_v vs 9)) (v_iv (n_v vs 14)) (v_iv (n_v vs 16)) (v_iv (n_v vs 19)) (v_iv (n_v vs 21)) (v_iv (n_v vs 22)) (v_iv (n_v vs 25)) (w_fi ws (n_v vs 0) 15) (w_fi ws (n_v vs 0) 11) (w_fi ws (n_v vs 0) 12) (w_fi ws (n_v vs 0) 8) (w_fi w1 (n_v vs 0) 15) (w_fi w1 (n_v vs 0) 11) (w_fi w1 (n_v vs 0) 5) (w_fi w1 (n_v vs 0) 12) (w_fi w1 (n_v vs 0) 8) (w_ei w2 (w_ar ws (n_v vs 0) 2)) (w_fi ws (n_v vs 0) 5) (w_fi w2 (n_v vs 0) 8) (w_fi w2 (n_v vs 0) 5) (w_fi w2 (n_v vs 0) 15) (w_fi w2 (n_v vs 0) 11) (w_fi w2 (n_v vs 0) 12) (w_ei w2 (w_ar ws (n_v vs 0) 3)) (w_ei w2 (w_ar ws (n_v vs 0) 4)) (w_ei ws (w_ar ws (n_v vs 0) 2)) (w_ei w1 (w_ar ws (n_v vs 0) 2)) (w_ei ws (w_ar ws (n_v vs 0) 3)) (w_ei w1 (w_ar ws (n_v vs 0) 3)) (w_ei ws (w_ar ws (n_v vs 0) 4)) (w_ei w1 (w_ar ws (n_v vs 0) 4)) k2 k9 k14 k16 k19 k21 k22 k25 f10 f23 f24 f28 fe_0_5_1 fe_0_8_1 fe_0_11_1 fe_0_12_1 fe_0_15_1 fe_0_5_2 fe_0_8_2 fe_0_11_2 fe_0_12_2 fe_0_15_2 hE_0_2_1 hE_0_2_2 hE_0_3_1 hE_0_3_2 hE_0_4_1 hE_0_4_2 kz_0_8 kz_0_11 kz_0_12 kz_0_15)⟩
  have nf3 : fc_1 PRD (20, [1, 0], [50, 1, 1, 1005, 1002, 0, 6, 4, 2, 1, 0, 0, 1, 3, 1, 2, 4, 3, 2, 1, 5, 0, 2]) ws (vs) := ⟨nf_in hl rfl, sgq_981 (vc_Mo_met_3_3 (v_iv (n_v vs 1)) (v_iv (n_v vs 9)) (v_iv (n_v vs 14)) (v_iv (n_v vs 16)) (v_iv (n_v vs 19)) (v_iv (n_v vs 21)) (v_iv (n_v vs 22)) (v_iv (n_v vs 25)) (w_fi ws (n_v vs 0) 15) (w_fi ws (n_v vs 0) 11) (w_fi ws (n_v vs 0) 12) (w_fi ws (n_v vs 0) 8) (w_fi w1 (n_v vs 0) 15) (w_fi w1 (n_v vs 0) 11) (w_fi w1 (n_v vs 0) 5) (w_fi w1 (n_v vs 0) 12) (w_fi w1 (n_v vs 0) 8) (w_ei w2 (w_ar ws (n_v vs 0) 2)) (w_fi ws (n_v vs 0) 5) (w_fi w2 (n_v vs 0) 8) (w_fi w2 (n_v vs 0) 5) (w_fi w2 (n_v vs 0) 15) (w_fi w2 (n_v vs 0) 11) (w_fi w2 (n_v vs 0) 12) (w_ei w2 (w_ar ws (n_v vs 0) 3)) (w_ei w2 (w_ar ws (n_v vs 0) 4)) (w_ei ws (w_ar ws (n_v vs 0) 2)) (w_ei w1 (w_ar ws (n_v vs 0) 2)) (w_ei ws (w_ar ws (n_v vs 0) 3)) (w_ei w1 (w_ar ws (n_v vs 0) 3)) (w_ei ws (w_ar ws (n_v vs 0) 4)) (w_ei w1 (w_ar ws (n_v vs 0) 4)) k1 k9 k14 k16 k19 k21 k22 k25 f10 f23 f24 f28 fe_0_5_1 fe_0_8_1 fe_0_11_1 fe_0_12_1 fe_0_15_1 fe_0_5_2 fe_0_8_2 fe_0_11_2 fe_0_12_2 fe_0_15_2 hE_0_2_1 hE_0_2_2 hE_0_3_1 hE_0_3_2 hE_0_4_1 hE_0_4_2 kz_0_8 kz_0_11 kz_0_12 kz_0_15)⟩
  have nf4 : fc_1 PRD (20, [0, 14], [60, 1, 3, 200, 5, 2, 3, 4]) ws (vs) := ⟨nf_in hl rfl, sgq_1718 (vc_Mo_met_3_4 (v_iv (n_v vs 13)) (v_iv (n_v vs 14)) (w_fi ws (n_v vs 0) 15) (w_fi ws (n_v vs 0) 11) (w_fi ws (n_v vs 0) 12) (w_fi ws (n_v vs 0) 8) (w_fi w1 (n_v vs 0) 15) (w_fi w1 (n_v vs 0) 11) (w_fi w1 (n_v vs 0) 5) (w_fi w1 (n_v vs 0) 12) (w_fi w1 (n_v vs 0) 8) (w_fi ws (n_v vs 0) 5) (w_fi w2 (n_v vs 0) 8) (w_fi w2 (n_v vs 0) 5) (w_fi w2 (n_v vs 0) 15) (w_fi w2 (n_v vs 0) 11) (w_fi w2 (n_v vs 0) 12) (w_ei w2 (w_ar ws (n_v vs 0) 3)) (w_ei w2 (w_ar ws (n_v vs 0) 4)) (w_ei ws (w_ar ws (n_v vs 0) 2)) (w_ei ws (w_ar ws (n_v vs 0) 3)) (w_ei w1 (w_ar ws (n_v vs 0) 3)) (w_ei ws (w_ar ws (n_v vs 0) 4)) (w_ei w1 (w_ar ws (n_v vs 0) 4)) k13 k14 f5 g27 fe_0_5_1 fe_0_8_1 fe_0_11_1 fe_0_12_1 fe_0_15_1 fe_0_5_2 fe_0_8_2 fe_0_11_2 fe_0_12_2 fe_0_15_2 hE_0_3_1 hE_0_3_2 hE_0_4_1 hE_0_4_2 kz_0_8 kz_0_11 kz_0_12 kz_0_15)⟩
  have nf5 : fc_1 PRD (20, [0, 2, 14], [60, 1, 1, 243, 5, 2]) ws (vs) := ⟨nf_in hl rfl, sgq_1981 (vc_Mo_met_3_5 (v_iv (n_v vs 2)) (v_iv (n_v vs 13)) (v_iv (n_v vs 14)) (w_fi ws (n_v vs 0) 15) (w_fi ws (n_v vs 0) 11) (w_fi ws (n_v vs 0) 12) (w_fi ws (n_v vs 0) 8) (w_fi w1 (n_v vs 0) 15) (w_fi w1 (n_v vs 0) 11) (w_fi w1 (n_v vs 0) 5) (w_fi w1 (n_v vs 0) 12) (w_fi w1 (n_v vs 0) 8) (w_fi ws (n_v vs 0) 5) (w_fi w2 (n_v vs 0) 8) (w_fi w2 (n_v vs 0) 5) (w_fi w2 (n_v vs 0) 15) (w_fi w2 (n_v vs 0) 11) (w_fi w2 (n_v vs 0) 12) (w_ei w2 (w_ar ws (n_v vs 0) 3)) (w_ei w2 (w_ar ws (n_v vs 0) 4)) (w_ei ws (w_ar ws (n_v vs 0) 2)) (w_ei ws (w_ar ws (n_v vs 0) 3)) (w_ei w1 (w_ar ws (n_v vs 0) 3)) (w_ei ws (w_ar ws (n_v vs 0) 4)) (w_ei w1 (w_ar ws (n_v vs 0) 4)) k2 k13 k14 f5 g27 fe_0_5_1 fe_0_8_1 fe_0_11_1 fe_0_12_1 fe_0_15_1 fe_0_5_2 fe_0_8_2 fe_0_11_2 fe_0_12_2 fe_0_15_2 hE_0_3_1 hE_0_3_2 hE_0_4_1 hE_0_4_2 kz_0_8 kz_0_11 kz_0_12 kz_0_15)⟩
  have nf6 : fc_1 PRD (24, [0, 0], []) ws (vs) := by
    refine ⟨nf_in hl rfl, sgq_1 ?_⟩
    · show n_v vs 0 = n_v vs 0
      first | rfl | simp only [true_and]
  have nf7 : fc_1 PRD (24, [1, 1], []) ws (vs) := by
    refine ⟨nf_in hl rfl, sgq_1 ?_⟩
    · show n_v vs 1 = n_v vs 1
      first | rfl | simp only [true_and]
  have nf8 : fc_1 PRD (24, [2, 2], []) ws (vs) := by
    refine ⟨nf_in hl rfl, sgq_1 ?_⟩
    · show n_v vs 2 = n_v vs 2
      first | rfl | simp only [true_and]
  refine ⟨(fun _ h => (by cases h)), [], trivial, ?_, (fun _ h => (by cases h))⟩
  rw [List.append_nil]
  exact List.forall_mem_cons.mpr ⟨⟨show (20 : Nat) < 100 from by decide, nf0⟩, List.forall_mem_cons.mpr ⟨⟨show (20 : Nat) < 100 from by decide, nf1⟩, List.forall_mem_cons.mpr ⟨⟨show (20 : Nat) < 100 from by decide, nf2⟩, List.forall_mem_cons.mpr ⟨⟨show (20 : Nat) < 100 from by decide, nf3⟩, List.forall_mem_cons.mpr ⟨⟨show (20 : Nat) < 100 from by decide, nf4⟩, List.forall_mem_cons.mpr ⟨⟨show (20 : Nat) < 100 from by decide, nf5⟩, List.forall_mem_cons.mpr ⟨⟨show (24 : Nat) < 100 from by decide, nf6⟩, List.forall_mem_cons.mpr ⟨⟨show (24 : Nat) < 100 from by decide, nf7⟩, List.forall_mem_cons.mpr ⟨⟨show (24 : Nat) < 100 from by decide, nf8⟩, (fun _ h => (by cases h))⟩⟩⟩⟩⟩⟩⟩⟩⟩
set_option maxHeartbeats 4000000 in
theorem vc_Mo_met_4_0 (x3 : Int) (x13 : Int) (fault_0 : Int) (r_0 : Int) (pos_0 : Int) (kind_0 : Int) (k3 : 0 ≤ x3 ∧ x3 ≤ 2000) (k13 : 1 ≤ x13 ∧ x13 ≤ 5) (g1 : x13 = fault_0) (kz_0_8 : 0 ≤ fault_0 ∧ fault_0 ≤ 5) (kz_0_11 : 0 ≤ pos_0 ∧ pos_0 ≤ 2000) (kz_0_12 : 0 ≤ kind_0 ∧ kind_0 ≤ 4) : (1 ≤ fault_0) ∨ ((kind_0 = 0) ∨ ((x3 + 1) ≤ pos_0)) := by
  first
    | omega
    | (have q1 := (hE_0_2_1 (r_0 + 2) (by omega)).2 (by omega)
       have q2 := (hE_0_2_2 (r_0 + 2) (by omega)).2 (by omega)
       omega)
    | (have q1 := (hE_0_2_1 (r_0 + 1) (by omega)).2 (by omega)
       have q2 := (hE_0_2_2 (r_0 + 1) (by omega)).2 (by omega)
       omega)
    | (have q1 := (hE_0_2_1 (r_0 + 2) (by omega)).2 (by omega)
       omega)
    | (have q1 := (hE_0_2_1 (r_0 + 1) (by omega)).2 (by omega)
       omega)
    | (have q1 := (hE_0_2_1 (r_0 + 2) (by omega)).2 (by omega)
       have q2 := (hE_0_2_2 (r_0 + 2) (by omega)).2 (by omega)
       have q3 := (hE_0_2_3 (r_0 + 2) (by omega)).1 (by omega)
       omega)
    | (have q1 := (hE_0_2_1 (r_0 + 2) (by omega)).2 (by omega)
       have q2 := (hE_0_2_2 (r_0 + 2) (by omega)).2 (by omega)
       have q3 := (hE_0_2_3 (r_0 + 2) (by omega)).2 (by omega)
       omega)
set_option maxHeartbeats 4000000 in
theorem vc_Mo_met_4_1 (x4 : Int) (x13 : Int) (fault_0 : Int) (r_0 : Int) (pos_0 : Int) (k4 : 0 ≤ x4 ∧ x4 ≤ 2000) (k13 : 1 ≤ x13 ∧ x13 ≤ 5) (g1 : x13 = fault_0) (kz_0_8 : 0 ≤ fault_0 ∧ fault_0 ≤ 5) (kz_0_11 : 0 ≤ pos_0 ∧ pos_0 ≤ 2000) : (1 ≤ fault_0) ∨ ((x4 + 1) ≤ pos_0) := by
  first
    | omega
    | (have q1 := (hE_0_2_1 (r_0 + 2) (by omega)).2 (by omega)
       have q2 := (hE_0_2_2 (r_0 + 2) (by omega)).2 (by omega)
       omega)
    | (have q1 := (hE_0_2_1 (r_0 + 1) (by omega)).2 (by omega)
       have q2 := (hE_0_2_2 (r_0 + 1) (by omega)).2 (by omega)
       omega)
    | (have q1 := (hE_0_2_1 (r_0 + 2) (by omega)).2 (by omega)
       omega)
    | (have q1 := (hE_0_2_1 (r_0 + 1) (by omega)).2 (by omega)
       omega)
    | (have q1 := (hE_0_2_1 (r_0 + 2) (by omega)).2 (by omega)
       have q2 := (hE_0_2_2 (r_0 + 2) (by omega)).2 (by omega)
       have q3 := (hE_0_2_3 (r_0 + 2) (by omega)).1 (by omega)
       omega)
    | (have q1 := (hE_0_2_1 (r_0 + 2) (by omega)).2 (by omega)
       have q2 := (hE_0_2_2 (r_0 + 2) (by omega)).2 (by omega)
       have q3 := (hE_0_2_3 (r_0 + 2) (by omega)).2 (by omega)
       omega)
set_option maxHeartbeats 4000000 in
theorem vc_Mo_met_4_2 (x13 : Int) (x14 : Int) (fault_0 : Int) (r_0 : Int) (k13 : 1 ≤ x13 ∧ x13 ≤ 5) (k14 : (-1) ≤ x14 ∧ x14 ≤ (-1)) (g1 : x13 = fault_0) (kz_0_8 : 0 ≤ fault_0 ∧ fault_0 ≤ 5) : ((-1) * fault_0 + 0 ≤ (-1)) ∨ ((-1) * x14 + 0 ≤ 0) := by
  first
    | omega
    | (have q1 := (hE_0_2_1 (r_0 + 2) (by omega)).2 (by omega)
       have q2 := (hE_0_2_2 (r_0 + 2) (by omega)).2 (by omega)
       omega)
    | (have q1 := (hE_0_2_1 (r_0 + 1) (by omega)).2 (by omega)
       have q2 := (hE_0_2_2 (r_0 + 1) (by omega)).2 (by omega)
       omega)
    | (have q1 := (hE_0_2_1 (r_0 + 2) (by omega)).2 (by omega)
       omega)
    | (have q1 := (hE_0_2_1 (r_0 + 1) (by omega)).2 (by omega)
       omega)
    | (have q1 := (hE_0_2_1 (r_0 + 2) (by omega)).2 (by omega)
       have q2 := (hE_0_2_2 (r_0 + 2) (by omega)).2 (by omega)
       have q3 := (hE_0_2_3 (r_0 + 2) (by omega)).1 (by omega)
       omega)
    | (have q1 := (hE_0_2_1 (r_0 + 2) (by omega)).2 (by omega)
       have q2 := (hE_0_2_2 (r_0 + 2) (by omega)).2 (by omega)
       have q3 := (hE_0_2_3 (r_0 + 2) (by omega)).2 (by omega)
       omega)
set_option maxHeartbeats 4000000 in
theorem vc_Mo_met_4_3 (x2 : Int) (x13 : Int) (fault_0 : Int) (all_0 : Int → Int) (r_0 : Int) (k2 : (-1) ≤ x2 ∧ x2 ≤ 23) (k13 : 1 ≤ x13 ∧ x13 ≤ 5) (g1 : x13 = fault_0) (kz_0_8 : 0 ≤ fault_0 ∧ fault_0 ≤ 5) : (1 ≤ fault_0) ∨ ((x2 ≤ (-1)) ∨ (all_0 ((r_0 + 1)) ≤ 47)) := by
  first
    | omega
    | (have q1 := (hE_0_2_1 (r_0 + 2) (by omega)).2 (by omega)
       have q2 := (hE_0_2_2 (r_0 + 2) (by omega)).2 (by omega)
       omega)
    | (have q1 := (hE_0_2_1 (r_0 + 1) (by omega)).2 (by omega)
       have q2 := (hE_0_2_2 (r_0 + 1) (by omega)).2 (by omega)
       omega)
    | (have q1 := (hE_0_2_1 (r_0 + 2) (by omega)).2 (by omega)
       omega)
    | (have q1 := (hE_0_2_1 (r_0 + 1) (by omega)).2 (by omega)
       omega)
    | (have q1 := (hE_0_2_1 (r_0 + 2) (by omega)).2 (by omega)
       have q2 := (hE_0_2_2 (r_0 + 2) (by omega)).2 (by omega)
       have q3 := (hE_0_2_3 (r_0 + 2) (by omega)).1 (by omega)
       omega)
    | (have q1 := (hE_0_2_1 (r_0 + 2) (by omega)).2 (by omega)
       have q2 := (hE_0_2_2 (r_0 + 2) (by omega)).2 (by omega)
       have q3 := (hE_0_2_3 (r_0 + 2) (by omega)).2 (by omega)
       omega)
set_option maxHeartbeats 4000000 in
theorem vc_Mo_met_4_4 (x2 : Int) (x13 : Int) (x14 : Int) (fault_0 : Int) (all_0 : Int → Int) (r_0 : Int) (k2 : (-1) ≤ x2 ∧ x2 ≤ 23) (k13 : 1 ≤ x13 ∧ x13 ≤ 5) (k14 : (-1) ≤ x14 ∧ x14 ≤ (-1)) (g1 : x13 = fault_0) (kz_0_8 : 0 ≤ fault_0 ∧ fault_0 ≤ 5) : MET (r_0) (fault_0) (all_0) (x2) (x14) := by
  first
    | (intro q; exfalso; omega)
    | exact fun _ => ‹MEN _ _ _ _›
def o_Mo_met_4 : or_T := (121, 15, [(0, (2, 0, 0, [165])), (2, (0, -1, 23, [])), (3, (0, 0, 2000, [])), (4, (0, 0, 2000, [])), (13, (0, 1, 5, [])), (14, (0, -1, -1, []))], [(9, [13, 0], [8])], [], [], [(20, [0, 3], [50, 3, 0, 8, 12, 11, 3, 7, 0, 2, 0, 1, 2, 0, 8, 3, 7, 1, 3, 2, 0, 12, 0, 0, 0, 6, 4, 2, 1, 1, 0, 1, 2, 0, 11]), (20, [0, 4], [50, 2, 0, 8, 11, 3, 7, 0, 2, 0, 1, 2, 0, 8, 0, 6, 4, 2, 1, 1, 0, 1, 2, 0, 11]), (20, [0, 14], [31, 1, -1, -1, 1, 8, 0, -1, 0, 0]), (20, [0, 2], [50, 2, 1, 8, 5, 2, 3, 7, 0, 2, 0, 1, 2, 0, 8, 3, 6, 0, 2, 1, 1, 0, -1, 0, 10, 3, 0, 2, 4, 3, 2, 0, 5, 0, 1, 0, 47]), (20, [0, 2, 14], [60, 2, 1, 240, 5, 8, 2])], [], [])
theorem oo_Mo_met_4 {kA : Nat → ClassId} : or_ok PRD kA GG o_Mo_met_4 := by
  refine or_mk fun A ta ws vs hD hth hl => ?_
  intro t0 r0 t2 k2 t3 k3 t4 k4 t13 k13 t14 k14 f1
  replace f1 := shm_143 f1
  have g1 : v_iv (n_v vs 13) = w_fi ws (n_v vs 0) 8 := congrArg v_iv f1
  have kz_0_8 := fdq_14 hD hth r0
  have kz_0_11 := fdq_273 hD hth r0
  have kz_0_12 := fdq_186 hD hth r0
  have nf0 : fc_1 PRD (20, [0, 3], [50, 3, 0, 8, 12, 11, 3, 7, 0, 2, 0, 1, 2, 0, 8, 3, 7, 1, 3, 2, 0, 12, 0, 0, 0, 6, 4, 2, 1, 1, 0, 1, 2, 0, 11]) ws (vs) := ⟨nf_in hl rfl, sgq_1660 (vc_Mo_met_4_0 (v_iv (n_v vs 3)) (v_iv (n_v vs 13)) (w_fi ws (n_v vs 0) 8) (w_fi ws (n_v vs 0) 5) (w_fi ws (n_v vs 0) 11) (w_fi ws (n_v vs 0) 12) k3 k13 g1 kz_0_8 kz_0_11 kz_0_12)⟩
  have nf1 : fc_1 PRD (20, [0, 4], [50, 2, 0, 8, 11, 3, 7, 0, 2, 0, 1, 2, 0, 8, 0, 6, 4, 2, 1, 1, 0, 1, 2, 0, 11]) ws (vs) := ⟨nf_in hl rfl, sgq_1659 (vc_Mo_met_4_1 (v_iv (n_v vs 4)) (v_iv (n_v vs 13)) (w_fi ws (n_v vs 0) 8) (w_fi ws (n_v vs 0) 5) (w_fi ws (n_v vs 0) 11) k4 k13 g1 kz_0_8 kz_0_11)⟩
  have nf2 : fc_1 PRD (20, [0, 14], [31, 1, -1, -1, 1, 8, 0, -1, 0, 0]) ws (vs) := ⟨nf_in hl rfl, sgq_1982 (vc_Mo_met_4_2 (v_iv (n_v vs 13)) (v_iv (n_v vs 14)) (w_fi ws (n_v vs 0) 8) (w_fi ws (n_v vs 0) 5) k13 k14 g1 kz_0_8)⟩
  have nf3 : fc_1 PRD (20, [0, 2], [50, 2, 1, 8, 5, 2, 3, 7, 0, 2, 0, 1, 2, 0, 8, 3, 6, 0, 2, 1, 1, 0, -1, 0, 10, 3, 0, 2, 4, 3, 2, 0, 5, 0, 1, 0, 47]) ws (vs) := ⟨nf_in hl rfl, sgq_1983 (vc_Mo_met_4_3 (v_iv (n_v vs 2)) (v_iv (n_v vs 13)) (w_fi ws (n_v vs 0) 8) (w_ei ws (w_ar ws (n_v vs 0) 2)) (w_fi ws (n_v vs 0) 5) k2 k13 g1 kz_0_8)⟩
  have nf4 : fc_1 PRD (20, [0, 2, 14], [60, 2, 1, 240, 5, 8, 2]) ws (vs) := ⟨nf_in hl rfl, sgq_1984 (vc_Mo_met_4_4 (v_iv (n_v vs 2)) (v_iv (n_v vs 13)) (v_iv (n_v vs 14)) (w_fi ws (n_v vs 0) 8) (w_ei ws (w_ar ws (n_v vs 0) 2)) (w_fi ws (n_v vs 0) 5) k2 k13 k14 g1 kz_0_8)⟩
  refine ⟨(fun _ h => (by cases h)), [], trivial, ?_, (fun _ h => (by cases h))⟩
  rw [List.append_nil]
  exact List.forall_mem_cons.mpr ⟨⟨show (20 : Nat) < 100 from by decide, nf0⟩, List.forall_mem_cons.mpr ⟨⟨show (20 : Nat) < 100 from by decide, nf1⟩, List.forall_mem_cons.mpr ⟨⟨show (20 : Nat) < 100 from by decide, nf2⟩, List.forall_mem_cons.mpr ⟨⟨show (20 : Nat) < 100 from by decide, nf3⟩, List.forall_mem_cons.mpr ⟨⟨show (20 : Nat) < 100 from by decide, nf4⟩, (fun _ h => (by cases h))⟩⟩⟩⟩⟩
set_option maxHeartbeats 4000000 in
theorem vc_Mo_met_5_r0 (x9 : Int) (x11 : Int) (all_0 : Int → Int) (r_0 : Int) (k9 : 0 ≤ x9 ∧ x9 ≤ 23) (k11 : 0 ≤ x11 ∧ x11 ≤ 24) (f0 : 1 * x11 + ((-1) * all_0 (r_0 + 0) + 0) ≤ 0) (f1 : (-1) * x11 + (1 * all_0 (r_0 + 0) + 0) ≤ 0) (f5 : 1 * x9 + ((-1) * all_0 (r_0 + 0) + 0) ≤ 0) (f6 : (-1) * x9 + (1 * all_0 (r_0 + 0) + 0) ≤ 0) : 0 ≤ x11 ∧ x11 ≤ 23 := by
  first
    | omega
    | (have q1 := (hE_0_2_1 (r_0 + 2) (by omega)).2 (by omega)
       have q2 := (hE_0_2_2 (r_0 + 2) (by omega)).2 (by omega)
       omega)
    | (have q1 := (hE_0_2_1 (r_0 + 1) (by omega)).2 (by omega)
       have q2 := (hE_0_2_2 (r_0 + 1) (by omega)).2 (by omega)
       omega)
    | (have q1 := (hE_0_2_1 (r_0 + 2) (by omega)).2 (by omega)
       omega)
    | (have q1 := (hE_0_2_1 (r_0 + 1) (by omega)).2 (by omega)
       omega)
    | (have q1 := (hE_0_2_1 (r_0 + 2) (by omega)).2 (by omega)
       have q2 := (hE_0_2_2 (r_0 + 2) (by omega)).2 (by omega)
       have q3 := (hE_0_2_3 (r_0 + 2) (by omega)).1 (by omega)
       omega)
    | (have q1 := (hE_0_2_1 (r_0 + 2) (by omega)).2 (by omega)
       have q2 := (hE_0_2_2 (r_0 + 2) (by omega)).2 (by omega)
       have q3 := (hE_0_2_3 (r_0 + 2) (by omega)).2 (by omega)
       omega)
def o_Mo_met_5 : or_T := (130, 12, [(0, (2, 0, 0, [165])), (1, (0, 0, 7, [])), (2, (0, -1, -1, [])), (3, (0, 0, 2000, [])), (4, (0, 0, 2000, [])), (6, (0, 1, 1, [])), (7, (0, -1, -1, [])), (9, (0, 0, 23, [])), (10, (0, 24, 24, [])), (11, (0, 0, 24, []))], [(20, [11, 0], [30, 0, 1, 0, 0, -1, 3, 2005000]), (20, [11, 0], [30, 0, -1, 0, 0, 1, 3, 2005000]), (8, [7], [2]), (8, [2], [2]), (7, [9, 10], [1]), (20, [9, 0], [30, 0, 1, 0, 0, -1, 3, 2005000]), (20, [9, 0], [30, 0, -1, 0, 0, 1, 3, 2005000]), (8, [7], [2]), (8, [7], [2]), (20, [0, 7], [60, 1, 1, 207, 5, 2]), (8, [6], [1]), (20, [0, 0], [30, 0, 1, 1, 15, -1, 1, 11]), (20, [0], [50, 3, 0, 12, 11, 15, 2, 21, 4, 7, 1, 3, 2, 0, 12, 0, 1, 0, 3, 2, 0, 11, 4, 3, 2, 0, 15, 0, 8, 3, 7, 1, 3, 2, 0, 12, 0, 0, 0, 7, 4, 3, 2, 0, 15, 0, 1, 2, 0, 11]), (20, [3, 0], [30, 0, 1, 0, 0, -1, 1, 11]), (20, [0, 4], [50, 2, 0, 12, 11, 3, 7, 1, 3, 2, 0, 12, 0, 0, 0, 6, 4, 2, 1, 1, 0, 1, 2, 0, 11]), (20, [1, 0], [50, 1, 1, 1005, 1002, 0, 6, 4, 2, 1, 0, 0, 1, 3, 1, 2, 4, 3, 2, 1, 5, 0, 2]), (20, [0], [60, 1, 3, 199, 5, 2, 3, 4]), (20, [0, 2], [60, 1, 1, 241, 5, 2]), (20, [6, 0], [50, 1, 0, 1012, 4, 6, 1, 2, 1, 0, 0, 1, 1, 3, 2, 1, 12, 0, 1])], [(11, (0, 0, 23, []))], [], [], [], [])
theorem oo_Mo_met_5 {kA : Nat → ClassId} : or_ok PRD kA GG o_Mo_met_5 := by
  refine or_mk fun A ta ws vs hD hth hl => ?_
  intro t0 r0 t1 k1 t2 k2 t3 k3 t4 k4 t6 k6 t7 k7 t9 k9 t10 k10 t11 k11 f0 f1 f2 f3 f4 f5 f6 f7 f8 f9 f10 f11 f12 f13 f14 f15 f16 f17 f18
  have hrf0 : 0 ≤ v_iv (n_v vs 11) ∧ v_iv (n_v vs 11) ≤ 23 := vc_Mo_met_5_r0 (v_iv (n_v vs 9)) (v_iv (n_v vs 11)) (w_ei ws (w_ar ws (n_v vs 0) 2)) (w_fi ws (n_v vs 0) 5) k9 k11 (shm_135 f0) (shm_136 f1) (shm_135 f5) (shm_136 f6)
  have rf11 : tv_ok ta (0, 0, 23, []) (n_v vs 11) := tv_in t11 (by first | omega | grind) (by first | omega | grind)
  refine ⟨List.forall_mem_cons.mpr ⟨rf11, (fun _ h => (by cases h))⟩, [], trivial, ?_, (fun _ h => (by cases h))⟩
  rw [List.append_nil]
  exact (fun _ h => (by cases h))
set_option maxHeartbeats 4000000 in
theorem vc_Mo_met_6_r0 (x9 : Int) (x13 : Int) (x14 : Int) (x15 : Int) (x16 : Int) (all_0 : Int → Int) (r_0 : Int) (now_0 : Int → Int) (latest_0 : Int → Int) (k9 : 0 ≤ x9 ∧ x9 ≤ 23) (k13 : 0 ≤ x13 ∧ x13 ≤ 66297) (k14 : 0 ≤ x14 ∧ x14 ≤ 24) (k16 : 1 ≤ x16 ∧ x16 ≤ 25) (d0 : x14 + 1 ≤ x16 ∧ x16 ≤ x14 + 1) (h1 : x14 = all_0 (x13)) (g2 : x13 = r_0) (f9 : 1 * x9 + ((-1) * all_0 (r_0 + 0) + 0) ≤ 0) (f10 : (-1) * x9 + (1 * all_0 (r_0 + 0) + 0) ≤ 0) (f20 : RWS (r_0) (all_0) (now_0) (latest_0)) : 1 ≤ x16 ∧ x16 ≤ 24 := by
  first
    | omega
    | (have hb := (rws_sg ‹RWS _ _ _ _›).1
       have e : x13 = r_0 := by omega
       rw [e] at h1
       simp only [Int.add_zero] at *
       omega)
    | (have hb := (rws_sg ‹RWS _ _ _ _›).1
       have e : x15 = r_0 := by omega
       rw [e] at h1
       simp only [Int.add_zero] at *
       omega)
def o_Mo_met_6 : or_T := (143, 17, [(0, (2, 0, 0, [165])), (1, (0, 0, 7, [])), (2, (0, -1, -1, [])), (3, (0, 0, 2000, [])), (4, (0, 0, 2000, [])), (6, (0, 1, 1, [])), (7, (0, -1, -1, [])), (9, (0, 0, 23, [])), (10, (0, 24, 24, [])), (11, (0, 0, 23, [])), (12, (2, 0, 0, [167])), (13, (0, 0, 66297, [])), (14, (0, 0, 24, [])), (15, (0, 1, 1, [])), (16, (0, 1, 25, []))], [(1, [16, 14, 15], []), (10, [14, 12, 13], []), (9, [13, 0], [5]), (9, [12, 0], [2]), (20, [11, 0], [30, 0, 1, 0, 0, -1, 3, 2005000]), (20, [11, 0], [30, 0, -1, 0, 0, 1, 3, 2005000]), (8, [7], [2]), (8, [2], [2]), (7, [9, 10], [1]), (20, [9, 0], [30, 0, 1, 0, 0, -1, 3, 2005000]), (20, [9, 0], [30, 0, -1, 0, 0, 1, 3, 2005000]), (8, [7], [2]), (8, [7], [2]), (20, [0, 7], [60, 1, 1, 207, 5, 2]), (8, [6], [1]), (20, [0, 0], [30, 0, 1, 1, 15, -1, 1, 11]), (20, [0], [50, 3, 0, 12, 11, 15, 2, 21, 4, 7, 1, 3, 2, 0, 12, 0, 1, 0, 3, 2, 0, 11, 4, 3, 2, 0, 15, 0, 8, 3, 7, 1, 3, 2, 0, 12, 0, 0, 0, 7, 4, 3, 2, 0, 15, 0, 1, 2, 0, 11]), (20, [3, 0], [30, 0, 1, 0, 0, -1, 1, 11]), (20, [0, 4], [50, 2, 0, 12, 11, 3, 7, 1, 3, 2, 0, 12, 0, 0, 0, 6, 4, 2, 1, 1, 0, 1, 2, 0, 11]), (20, [1, 0], [50, 1, 1, 1005, 1002, 0, 6, 4, 2, 1, 0, 0, 1, 3, 1, 2, 4, 3, 2, 1, 5, 0, 2]), (20, [0], [60, 1, 3, 199, 5, 2, 3, 4]), (20, [0, 2], [60, 1, 1, 241, 5, 2]), (20, [6, 0], [50, 1, 0, 1012, 4, 6, 1, 2, 1, 0, 0, 1, 1, 3, 2, 1, 12, 0, 1])], [(16, (0, 1, 24, []))], [], [], [], [(16, 14, 1, 1)])
theorem oo_Mo_met_6 {kA : Nat → ClassId} : or_ok PRD kA GG o_Mo_met_6 := by
  refine or_mk fun A ta ws vs hD hth hl => ?_
  intro t0 r0 t1 k1 t2 k2 t3 k3 t4 k4 t6 k6 t7 k7 t9 k9 t10 k10 t11 k11 t12 r12 t13 k13 t14 k14 t15 k15 t16 k16 d0 f0 f1 f2 f3 f4 f5 f6 f7 f8 f9 f10 f11 f12 f13 f14 f15 f16 f17 f18 f19 f20 f21 f22
  replace f1 := shm_106 f1
  replace f2 := shm_109 f2
  replace f3 := shm_129 f3
  have ad_12 : v_ad (n_v vs 12) = w_ar ws (n_v vs 0) 2 := congrArg v_ad f3
  simp only [ad_12] at f1
  have h1 : v_iv (n_v vs 14) = w_ei ws (w_ar ws (n_v vs 0) 2) (v_iv (n_v vs 13)) := f1
  have g2 : v_iv (n_v vs 13) = w_fi ws (n_v vs 0) 5 := congrArg v_iv f2
  have hrf0 : 1 ≤ v_iv (n_v vs 16) ∧ v_iv (n_v vs 16) ≤ 24 := vc_Mo_met_6_r0 (v_iv (n_v vs 9)) (v_iv (n_v vs 13)) (v_iv (n_v vs 14)) (v_iv (n_v vs 15)) (v_iv (n_v vs 16)) (w_ei ws (w_ar ws (n_v vs 0) 2)) (w_fi ws (n_v vs 0) 5) (w_ei ws (w_ar ws (n_v vs 0) 3)) (w_ei ws (w_ar ws (n_v vs 0) 4)) k9 k13 k14 k16 d0 h1 g2 (shm_135 f9) (shm_136 f10) (shm_952 f20)
  have rf16 : tv_ok ta (0, 1, 24, []) (n_v vs 16) := tv_in t16 (by first | omega | grind) (by first | omega | grind)
  refine ⟨List.forall_mem_cons.mpr ⟨rf16, (fun _ h => (by cases h))⟩, [], trivial, ?_, (fun _ h => (by cases h))⟩
  rw [List.append_nil]
  exact (fun _ h => (by cases h))
set_option maxHeartbeats 4000000 in
theorem vc_Mo_met_7_r0 (x4 : Int) (x6 : Int) (x13 : Int) (x16 : Int) (x20 : Int) (x21 : Int) (x22 : Int) (from_0 : Int) (pos_0 : Int) (r_0 : Int) (kind_0 : Int) (all_1 : Int → Int) (r_1 : Int) (from_1 : Int) (pos_1 : Int) (kind_1 : Int) (now_1 : Int → Int) (latest_1 : Int → Int) (all_0 : Int → Int) (now_0 : Int → Int) (latest_0 : Int → Int) (k4 : 0 ≤ x4 ∧ x4 ≤ 2000) (k6 : 1 ≤ x6 ∧ x6 ≤ 1) (k13 : 0 ≤ x13 ∧ x13 ≤ 66297) (k16 : 1 ≤ x16 ∧ x16 ≤ 24) (k20 : 0 ≤ x20 ∧ x20 ≤ 2000) (k21 : 0 ≤ x21 ∧ x21 ≤ 2000) (k22 : (-2000) ≤ x22 ∧ x22 ≤ 2000) (f0 : x22 = x20 - x21) (g1 : x21 = from_0) (g2 : x20 = pos_0) (f7 : 1 * from_0 + ((-1) * pos_0 + 0) ≤ 0) (f27 : ((kind_1 = 1) → (pos_1 ≤ (from_1 + 8))) ∧ ((kind_1 = 0) ∨ ((from_1 + 1) ≤ pos_1))) (f29 : (kind_1 = 0) ∨ ((x4 + 1) ≤ pos_1)) (f33 : (x6 = 1) → (kind_1 = 1)) (fe_0_5_1 : r_0 = r_1) (fe_0_11_1 : pos_0 = pos_1) (fe_0_12_1 : kind_0 = kind_1) (fe_0_15_1 : from_0 = from_1) (hE_0_2_1 : ∀ j : Int, 0 ≤ j → (j = x13 → all_0 j = x16) ∧ (j ≠ x13 → all_0 j = all_1 j)) (hE_0_3_1 : ∀ j : Int, now_0 j = now_1 j) (hE_0_4_1 : ∀ j : Int, latest_0 j = latest_1 j) (kz_0_11 : 0 ≤ pos_0 ∧ pos_0 ≤ 2000) (kz_0_12 : 0 ≤ kind_0 ∧ kind_0 ≤ 4) (kz_0_15 : 0 ≤ from_0 ∧ from_0 ≤ 2000) : 0 ≤ x22 ∧ x22 ≤ 8 := by
  subst fe_0_5_1
  subst fe_0_11_1
  subst fe_0_12_1
  subst fe_0_15_1
  have e_hE_0_3_1 := funext hE_0_3_1; subst e_hE_0_3_1
  have e_hE_0_4_1 := funext hE_0_4_1; subst e_hE_0_4_1
  first
    | omega
    | (have q1 := (hE_0_2_1 (r_0 + 2) (by omega)).2 (by omega)
       have q2 := (hE_0_2_2 (r_0 + 2) (by omega)).2 (by omega)
       omega)
    | (have q1 := (hE_0_2_1 (r_0 + 1) (by omega)).2 (by omega)
       have q2 := (hE_0_2_2 (r_0 + 1) (by omega)).2 (by omega)
       omega)
    | (have q1 := (hE_0_2_1 (r_0 + 2) (by omega)).2 (by omega)
       omega)
    | (have q1 := (hE_0_2_1 (r_0 + 1) (by omega)).2 (by omega)
       omega)
    | (have q1 := (hE_0_2_1 (r_0 + 2) (by omega)).2 (by omega)
       have q2 := (hE_0_2_2 (r_0 + 2) (by omega)).2 (by omega)
       have q3 := (hE_0_2_3 (r_0 + 2) (by omega)).1 (by omega)
       omega)
    | (have q1 := (hE_0_2_1 (r_0 + 2) (by omega)).2 (by omega)
       have q2 := (hE_0_2_2 (r_0 + 2) (by omega)).2 (by omega)
       have q3 := (hE_0_2_3 (r_0 + 2) (by omega)).2 (by omega)
       omega)
def o_Mo_met_7 : or_T := (167, 23, [(0, (2, 0, 0, [165])), (1, (0, 0, 7, [])), (2, (0, -1, -1, [])), (3, (0, 0, 2000, [])), (4, (0, 0, 2000, [])), (6, (0, 1, 1, [])), (7, (0, -1, -1, [])), (9, (0, 0, 23, [])), (10, (0, 24, 24, [])), (11, (0, 0, 23, [])), (12, (2, 0, 0, [167])), (13, (0, 0, 66297, [])), (14, (0, 0, 24, [])), (15, (0, 1, 1, [])), (16, (0, 1, 24, [])), (17, (0, 195, 195, [])), (18, (0, 195, 66492, [])), (19, (0, 195, 66515, [])), (20, (0, 0, 2000, [])), (21, (0, 0, 2000, [])), (22, (0, -2000, 2000, []))], [(2, [22, 20, 21], []), (9, [21, 0], [15]), (9, [20, 0], [11]), (1, [19, 18, 11], []), (1, [18, 13, 17], []), (9, [13, 0], [5]), (9, [12, 0], [2]), (20, [0, 0], [30, 0, 1, 1, 15, -1, 1, 11]), (20, [0], [50, 3, 0, 12, 11, 15, 2, 21, 4, 7, 1, 3, 2, 0, 12, 0, 1, 0, 3, 2, 0, 11, 4, 3, 2, 0, 15, 0, 8, 3, 7, 1, 3, 2, 0, 12, 0, 0, 0, 7, 4, 3, 2, 0, 15, 0, 1, 2, 0, 11]), (20, [3, 0], [30, 0, 1, 0, 0, -1, 1, 11]), (20, [0, 4], [50, 2, 0, 12, 11, 3, 7, 1, 3, 2, 0, 12, 0, 0, 0, 6, 4, 2, 1, 1, 0, 1, 2, 0, 11]), (20, [6, 0], [50, 1, 0, 1012, 4, 6, 1, 2, 1, 0, 0, 1, 1, 3, 2, 1, 12, 0, 1]), (100, [12, 13, 16], []), (1, [16, 14, 15], []), (10, [14, 12, 13], []), (20, [11, 0], [30, 0, 1, 0, 0, -1, 3, 2005000]), (20, [11, 0], [30, 0, -1, 0, 0, 1, 3, 2005000]), (8, [7], [2]), (8, [2], [2]), (7, [9, 10], [1]), (20, [9, 0], [30, 0, 1, 0, 0, -1, 3, 2005000]), (20, [9, 0], [30, 0, -1, 0, 0, 1, 3, 2005000]), (8, [7], [2]), (8, [7], [2]), (20, [0, 7], [60, 1, 1, 207, 5, 2]), (8, [6], [1]), (20, [0, 0], [30, 0, 1, 1, 15, -1, 1, 11]), (20, [0], [50, 3, 0, 12, 11, 15, 2, 21, 4, 7, 1, 3, 2, 0, 12, 0, 1, 0, 3, 2, 0, 11, 4, 3, 2, 0, 15, 0, 8, 3, 7, 1, 3, 2, 0, 12, 0, 0, 0, 7, 4, 3, 2, 0, 15, 0, 1, 2, 0, 11]), (20, [3, 0], [30, 0, 1, 0, 0, -1, 1, 11]), (20, [0, 4], [50, 2, 0, 12, 11, 3, 7, 1, 3, 2, 0, 12, 0, 0, 0, 6, 4, 2, 1, 1, 0, 1, 2, 0, 11]), (20, [1, 0], [50, 1, 1, 1005, 1002, 0, 6, 4, 2, 1, 0, 0, 1, 3, 1, 2, 4, 3, 2, 1, 5, 0, 2]), (20, [0], [60, 1, 3, 199, 5, 2, 3, 4]), (20, [0, 2], [60, 1, 1, 241, 5, 2]), (20, [6, 0], [50, 1, 0, 1012, 4, 6, 1, 2, 1, 0, 0, 1, 1, 3, 2, 1, 12, 0, 1])], [(22, (0, 0, 8, []))], [], [], [], [(22, 20, -2000, 0), (19, 11, 195, 66492), (19, 18, 0, 23), (19, 13, 195, 218), (18, 13, 195, 195), (16, 14, 1, 1)])
theorem oo_Mo_met_7 {kA : Nat → ClassId} : or_ok PRD kA GG o_Mo_met_7 := by
  refine or_mk fun A ta ws vs hD hth hl => ?_
  intro t0 r0 t1 k1 t2 k2 t3 k3 t4 k4 t6 k6 t7 k7 t9 k9 t10 k10 t11 k11 t12 r12 t13 k13 t14 k14 t15 k15 t16 k16 t17 k17 t18 k18 t19 k19 t20 k20 t21 k21 t22 k22 d0 d1 d2 d3 d4 d5 f0 f1 f2 f3 f4 f5 f6 f7 f8 f9 f10 f11 ta1 w1 le1 s1 f13 f14 f15 f16 f17 f18 f19 f20 f21 f22 f23 f24 f25 f26 f27 f28 f29 f30 f31 f32 f33
  replace f0 := shm_14 f0
  replace f1 := shm_189 f1
  replace f2 := shm_117 f2
  replace f3 := shm_12 f3
  replace f4 := shm_12 f4
  replace f5 := shm_109 f5
  replace f6 := shm_129 f6
  replace f7 := shm_1397 f7
  replace f8 := shm_1398 f8
  replace f9 := shm_1395 f9
  replace f10 := shm_1978 f10
  replace f11 := shm_1762 f11
  have s1 : (∀ b j, w_el ws b j = if b = v_ad (n_v vs 12) ∧ j = (v_iv (n_v vs 13)).toNat then v_iv (n_v vs 16) else w_el w1 b j) ∧ ∀ b k, w_fd ws b k = w_fd w1 b k := s1.2
  replace f13 := shm_12 f13
  replace f14 := shm_106 f14
  replace f15 := shm_135 f15
  replace f16 := shm_136 f16
  replace f17 := shm_39 f17
  replace f18 := shm_39 f18
  replace f19 := shm_40 f19
  replace f20 := shm_135 f20
  replace f21 := shm_136 f21
  replace f22 := shm_39 f22
  replace f23 := shm_39 f23
  replace f24 := shm_1200 f24
  replace f25 := shm_154 f25
  replace f26 := shm_1397 f26
  replace f27 := shm_1398 f27
  replace f28 := shm_1395 f28
  replace f29 := shm_1978 f29
  replace f30 := shm_981 f30
  replace f31 := shm_952 f31
  replace f32 := shm_1979 f32
  replace f33 := shm_1762 f33
  have ar_0_2_1 : w_ar w1 (n_v vs 0) 2 = w_ar ws (n_v vs 0) 2 := congrArg v_ad (s1.2 _ _).symm
  have cr_0_2 := fdq_12 hD hth r0
  have ar_0_3_1 : w_ar w1 (n_v vs 0) 3 = w_ar ws (n_v vs 0) 3 := congrArg v_ad (s1.2 _ _).symm
  have cr_0_3 := fdq_141 hD hth r0
  have ar_0_4_1 : w_ar w1 (n_v vs 0) 4 = w_ar ws (n_v vs 0) 4 := congrArg v_ad (s1.2 _ _).symm
  have cr_0_4 := fdq_142 hD hth r0
  have fi_0_5_1 : w_fi w1 (n_v vs 0) 5 = w_fi ws (n_v vs 0) 5 := by show v_iv (w_fd w1 _ _) = v_iv (w_fd ws _ _); rw [s1.2]
  have ad_12 : v_ad (n_v vs 12) = w_ar ws (n_v vs 0) 2 := congrArg v_ad f6
  have g1 : v_iv (n_v vs 21) = w_fi ws (n_v vs 0) 15 := congrArg v_iv f1
  have g2 : v_iv (n_v vs 20) = w_fi ws (n_v vs 0) 11 := congrArg v_iv f2
  have g5 : v_iv (n_v vs 13) = w_fi ws (n_v vs 0) 5 := congrArg v_iv f5
  simp only [ad_12] at f14
  have h14 : v_iv (n_v vs 14) = w_ei w1 (w_ar ws (n_v vs 0) 2) (v_iv (n_v vs 13)) := f14
  simp only [ar_0_2_1, ar_0_3_1, ar_0_4_1] at f15 f16 f20 f21 f24 f30 f31 f32
  simp only [fi_0_5_1] at f15 f16 f20 f21
  have fe_0_5_1 : w_fi ws (n_v vs 0) 5 = w_fi w1 (n_v vs 0) 5 := congrArg v_iv (s1.2 _ _)
  have fe_0_11_1 : w_fi ws (n_v vs 0) 11 = w_fi w1 (n_v vs 0) 11 := congrArg v_iv (s1.2 _ _)
  have fe_0_12_1 : w_fi ws (n_v vs 0) 12 = w_fi w1 (n_v vs 0) 12 := congrArg v_iv (s1.2 _ _)
  have fe_0_15_1 : w_fi ws (n_v vs 0) 15 = w_fi w1 (n_v vs 0) 15 := congrArg v_iv (s1.2 _ _)
  have hE_0_2_1 : ∀ j : Int, 0 ≤ j → (j = v_iv (n_v vs 13) → w_ei ws (w_ar ws (n_v vs 0) 2) j = v_iv (n_v vs 16)) ∧ (j ≠ v_iv (n_v vs 13) → w_ei ws (w_ar ws (n_v vs 0) 2) j = w_ei w1 (w_ar ws (n_v vs 0) 2) j) := fun j hj => ⟨fun h => by unfold w_ei; rw [s1.1, if_pos ⟨ad_12.symm, by rw [h]⟩], fun h => by unfold w_ei; rw [s1.1, if_neg (fun e => h (by have := e.2; omega))]⟩
  have hE_0_3_1 : ∀ j : Int, w_ei ws (w_ar ws (n_v vs 0) 3) j = w_ei w1 (w_ar ws (n_v vs 0) 3) j := el_kp s1.1 r12 cr_0_3 (by decide)
  have hK_0_3 := elq_77 hD hth cr_0_3
  have hE_0_4_1 : ∀ j : Int, w_ei ws (w_ar ws (n_v vs 0) 4) j = w_ei w1 (w_ar ws (n_v vs 0) 4) j := el_kp s1.1 r12 cr_0_4 (by decide)
  have hK_0_4 := elq_78 hD hth cr_0_4
  have kz_0_11 := fdq_273 hD hth r0
  have kz_0_12 := fdq_186 hD hth r0
  have kz_0_15 := fdq_274 hD hth r0
  first | have hJ0 : w_ei w1 (w_ar ws (n_v vs 0) 2) ((w_fi w1 (n_v vs 0) 5 + 2)) = w_ei w1 (w_ar ws (n_v vs 0) 2) ((w_fi ws (n_v vs 0) 5 + 2)) := congrArg _ (show ((w_fi w1 (n_v vs 0) 5 + 2) : Int) = (w_fi ws (n_v vs 0) 5 + 2) from by omega) | skip
  first | have hI1 := (hE_0_2_1 ((w_fi ws (n_v vs 0) 5 + 2)) (by omega)).2 (by omega) | have hI1 := (hE_0_2_1 ((w_fi ws (n_v vs 0) 5 + 2)) (by omega)).1 (by omega) | skip
  have hrf0 : 0 ≤ v_iv (n_v vs 22) ∧ v_iv (n_v vs 22) ≤ 8 := vc_Mo_met_7_r0 (v_iv (n_v vs 4)) (v_iv (n_v vs 6)) (v_iv (n_v vs 13)) (v_iv (n_v vs 16)) (v_iv (n_v vs 20)) (v_iv (n_v vs 21)) (v_iv (n_v vs 22)) (w_fi ws (n_v vs 0) 15) (w_fi ws (n_v vs 0) 11) (w_fi ws (n_v vs 0) 5) (w_fi ws (n_v vs 0) 12) (w_ei w1 (w_ar ws (n_v vs 0) 2)) (w_fi w1 (n_v vs 0) 5) (w_fi w1 (n_v vs 0) 15) (w_fi w1 (n_v vs 0) 11) (w_fi w1 (n_v vs 0) 12) (w_ei w1 (w_ar ws (n_v vs 0) 3)) (w_ei w1 (w_ar ws (n_v vs 0) 4)) (w_ei ws (w_ar ws (n_v vs 0) 2)) (w_ei ws (w_ar ws (n_v vs 0) 3)) (w_ei ws (w_ar ws (n_v vs 0) 4)) k4 k6 k13 k16 k20 k21 k22 f0 g1 g2 f7 f27 f29 f33 fe_0_5_1 fe_0_11_1 fe_0_12_1 fe_0_15_1 hE_0_2_1 hE_0_3_1 hE_0_4_1 kz_0_11 kz_0_12 kz_0_15
  have rf22 : tv_ok ta (0, 0, 8, []) (n_v vs 22) := tv_in t22 (by first | omega | grind) (by first | omega | grind)
  refine ⟨List.forall_mem_cons.mpr ⟨rf22, (fun _ h => (by cases h))⟩, [], trivial, ?_, (fun _ h => (by cases h))⟩
  rw [List.append_nil]
  exact (fun _ h => (by cases h))
set_option maxHeartbeats 4000000 in
theorem vc_Mo_met_8_0 (x4 : Int) (x6 : Int) (x13 : Int) (x16 : Int) (x19 : Int) (x22 : Int) (from_0 : Int) (pos_0 : Int) (kind_0 : Int) (from_1 : Int) (pos_1 : Int) (r_1 : Int) (kind_1 : Int) (all_2 : Int → Int) (r_0 : Int) (r_2 : Int) (from_2 : Int) (pos_2 : Int) (kind_2 : Int) (now_2 : Int → Int) (latest_2 : Int → Int) (all_0 : Int → Int) (all_1 : Int → Int) (now_0 : Int → Int) (now_1 : Int → Int) (latest_0 : Int → Int) (latest_1 : Int → Int) (k4 : 0 ≤ x4 ∧ x4 ≤ 2000) (k6 : 1 ≤ x6 ∧ x6 ≤ 1) (k13 : 0 ≤ x13 ∧ x13 ≤ 66297) (k16 : 1 ≤ x16 ∧ x16 ≤ 24) (k19 : 195 ≤ x19 ∧ x19 ≤ 66515) (k22 : 0 ≤ x22 ∧ x22 ≤ 8) (f33 : ((kind_2 = 1) → (pos_2 ≤ (from_2 + 8))) ∧ ((kind_2 = 0) ∨ ((from_2 + 1) ≤ pos_2))) (f35 : (kind_2 = 0) ∨ ((x4 + 1) ≤ pos_2)) (f39 : (x6 = 1) → (kind_2 = 1)) (fe_0_5_1 : r_0 = r_1) (fe_0_11_1 : pos_0 = pos_1) (fe_0_12_1 : kind_0 = kind_1) (fe_0_15_1 : from_0 = from_1) (fe_0_5_2 : r_1 = r_2) (fe_0_11_2 : pos_1 = pos_2) (fe_0_12_2 : kind_1 = kind_2) (fe_0_15_2 : from_1 = from_2) (hE_0_2_1 : ∀ j : Int, 0 ≤ j → (j = x19 → all_0 j = x22) ∧ (j ≠ x19 → all_0 j = all_1 j)) (hE_0_2_2 : ∀ j : Int, 0 ≤ j → (j = x13 → all_1 j = x16) ∧ (j ≠ x13 → all_1 j = all_2 j)) (hE_0_3_1 : ∀ j : Int, now_0 j = now_1 j) (hE_0_3_2 : ∀ j : Int, now_1 j = now_2 j) (hE_0_4_1 : ∀ j : Int, latest_0 j = latest_1 j) (hE_0_4_2 : ∀ j : Int, latest_1 j = latest_2 j) (kz_0_11 : 0 ≤ pos_0 ∧ pos_0 ≤ 2000) (kz_0_12 : 0 ≤ kind_0 ∧ kind_0 ≤ 4) (kz_0_15 : 0 ≤ from_0 ∧ from_0 ≤ 2000) : 1 * x4 + ((-1) * pos_0 + 0) ≤ (-1) := by
  subst fe_0_5_1
  subst fe_0_11_1
  subst fe_0_12_1
  subst fe_0_15_1
  subst fe_0_5_2
  subst fe_0_11_2
  subst fe_0_12_2
  subst fe_0_15_2
  have e_hE_0_3_1 := funext hE_0_3_1; subst e_hE_0_3_1
  have e_hE_0_3_2 := funext hE_0_3_2; subst e_hE_0_3_2
  have e_hE_0_4_1 := funext hE_0_4_1; subst e_hE_0_4_1
  have e_hE_0_4_2 := funext hE_0_4_2; subst e_hE_0_4_2
  first
    | omega
    | (have q1 := (hE_0_2_1 (r_0 + 2) (by omega)).2 (by omega)
       have q2 := (hE_0_2_2 (r_0 + 2) (by omega)).2 (by omega)
       omega)
    | (have q1 := (hE_0_2_1 (r_0 + 1) (by omega)).2 (by omega)
       have q2 := (hE_0_2_2 (r_0 + 1) (by omega)).2 (by omega)
       omega)
    | (have q1 := (hE_0_2_1 (r_0 + 2) (by omega)).2 (by omega)
       omega)
    | (have q1 := (hE_0_2_1 (r_0 + 1) (by omega)).2 (by omega)
       omega)
    | (have q1 := (hE_0_2_1 (r_0 + 2) (by omega)).2 (by omega)
       have q2 := (hE_0_2_2 (r_0 + 2) (by omega)).2 (by omega)
       have q3 := (hE_0_2_3 (r_0 + 2) (by omega)).1 (by omega)
       omega)
    | (have q1 := (hE_0_2_1 (r_0 + 2) (by omega)).2 (by omega)
       have q2 := (hE_0_2_2 (r_0 + 2) (by omega)).2 (by omega)
       have q3 := (hE_0_2_3 (r_0 + 2) (by omega)).2 (by omega)
       omega)
set_option maxHeartbeats 4000000 in
theorem vc_Mo_met_8_1 (x4 : Int) (x6 : Int) (x13 : Int) (x16 : Int) (x19 : Int) (x22 : Int) (from_0 : Int) (pos_0 : Int) (kind_0 : Int) (from_1 : Int) (pos_1 : Int) (r_1 : Int) (kind_1 : Int) (all_2 : Int → Int) (r_0 : Int) (r_2 : Int) (from_2 : Int) (pos_2 : Int) (kind_2 : Int) (now_2 : Int → Int) (latest_2 : Int → Int) (all_0 : Int → Int) (all_1 : Int → Int) (now_0 : Int → Int) (now_1 : Int → Int) (latest_0 : Int → Int) (latest_1 : Int → Int) (k4 : 0 ≤ x4 ∧ x4 ≤ 2000) (k6 : 1 ≤ x6 ∧ x6 ≤ 1) (k13 : 0 ≤ x13 ∧ x13 ≤ 66297) (k16 : 1 ≤ x16 ∧ x16 ≤ 24) (k19 : 195 ≤ x19 ∧ x19 ≤ 66515) (k22 : 0 ≤ x22 ∧ x22 ≤ 8) (f33 : ((kind_2 = 1) → (pos_2 ≤ (from_2 + 8))) ∧ ((kind_2 = 0) ∨ ((from_2 + 1) ≤ pos_2))) (f35 : (kind_2 = 0) ∨ ((x4 + 1) ≤ pos_2)) (f39 : (x6 = 1) → (kind_2 = 1)) (fe_0_5_1 : r_0 = r_1) (fe_0_11_1 : pos_0 = pos_1) (fe_0_12_1 : kind_0 = kind_1) (fe_0_15_1 : from_0 = from_1) (fe_0_5_2 : r_1 = r_2) (fe_0_11_2 : pos_1 = pos_2) (fe_0_12_2 : kind_1 = kind_2) (fe_0_15_2 : from_1 = from_2) (hE_0_2_1 : ∀ j : Int, 0 ≤ j → (j = x19 → all_0 j = x22) ∧ (j ≠ x19 → all_0 j = all_1 j)) (hE_0_2_2 : ∀ j : Int, 0 ≤ j → (j = x13 → all_1 j = x16) ∧ (j ≠ x13 → all_1 j = all_2 j)) (hE_0_3_1 : ∀ j : Int, now_0 j = now_1 j) (hE_0_3_2 : ∀ j : Int, now_1 j = now_2 j) (hE_0_4_1 : ∀ j : Int, latest_0 j = latest_1 j) (hE_0_4_2 : ∀ j : Int, latest_1 j = latest_2 j) (kz_0_11 : 0 ≤ pos_0 ∧ pos_0 ≤ 2000) (kz_0_12 : 0 ≤ kind_0 ∧ kind_0 ≤ 4) (kz_0_15 : 0 ≤ from_0 ∧ from_0 ≤ 2000) : kind_0 = 1 := by
  subst fe_0_5_1
  subst fe_0_11_1
  subst fe_0_12_1
  subst fe_0_15_1
  subst fe_0_5_2
  subst fe_0_11_2
  subst fe_0_12_2
  subst fe_0_15_2
  have e_hE_0_3_1 := funext hE_0_3_1; subst e_hE_0_3_1
  have e_hE_0_3_2 := funext hE_0_3_2; subst e_hE_0_3_2
  have e_hE_0_4_1 := funext hE_0_4_1; subst e_hE_0_4_1
  have e_hE_0_4_2 := funext hE_0_4_2; subst e_hE_0_4_2
  first
    | omega
    | (have q1 := (hE_0_2_1 (r_0 + 2) (by omega)).2 (by omega)
       have q2 := (hE_0_2_2 (r_0 + 2) (by omega)).2 (by omega)
       omega)
    | (have q1 := (hE_0_2_1 (r_0 + 1) (by omega)).2 (by omega)
       have q2 := (hE_0_2_2 (r_0 + 1) (by omega)).2 (by omega)
       omega)
    | (have q1 := (hE_0_2_1 (r_0 + 2) (by omega)).2 (by omega)
       omega)
    | (have q1 := (hE_0_2_1 (r_0 + 1) (by omega)).2 (by omega)
       omega)
    | (have q1 := (hE_0_2_1 (r_0 + 2) (by omega)).2 (by omega)
       have q2 := (hE_0_2_2 (r_0 + 2) (by omega)).2 (by omega)
       have q3 := (hE_0_2_3 (r_0 + 2) (by omega)).1 (by omega)
       omega)
    | (have q1 := (hE_0_2_1 (r_0 + 2) (by omega)).2 (by omega)
       have q2 := (hE_0_2_2 (r_0 + 2) (by omega)).2 (by omega)
       have q3 := (hE_0_2_3 (r_0 + 2) (by omega)).2 (by omega)
       omega)
set_option maxHeartbeats 4000000 in
theorem vc_Mo_met_8_2 (x2 : Int) (x13 : Int) (x16 : Int) (x19 : Int) (x22 : Int) (from_0 : Int) (pos_0 : Int) (kind_0 : Int) (from_1 : Int) (pos_1 : Int) (r_1 : Int) (kind_1 : Int) (all_2 : Int → Int) (r_0 : Int) (r_2 : Int) (from_2 : Int) (pos_2 : Int) (kind_2 : Int) (now_2 : Int → Int) (latest_2 : Int → Int) (all_0 : Int → Int) (all_1 : Int → Int) (now_0 : Int → Int) (now_1 : Int → Int) (latest_0 : Int → Int) (latest_1 : Int → Int) (k2 : (-1) ≤ x2 ∧ x2 ≤ (-1)) (k13 : 0 ≤ x13 ∧ x13 ≤ 66297) (k16 : 1 ≤ x16 ∧ x16 ≤ 24) (k19 : 195 ≤ x19 ∧ x19 ≤ 66515) (k22 : 0 ≤ x22 ∧ x22 ≤ 8) (fe_0_5_1 : r_0 = r_1) (fe_0_11_1 : pos_0 = pos_1) (fe_0_12_1 : kind_0 = kind_1) (fe_0_15_1 : from_0 = from_1) (fe_0_5_2 : r_1 = r_2) (fe_0_11_2 : pos_1 = pos_2) (fe_0_12_2 : kind_1 = kind_2) (fe_0_15_2 : from_1 = from_2) (hE_0_2_1 : ∀ j : Int, 0 ≤ j → (j = x19 → all_0 j = x22) ∧ (j ≠ x19 → all_0 j = all_1 j)) (hE_0_2_2 : ∀ j : Int, 0 ≤ j → (j = x13 → all_1 j = x16) ∧ (j ≠ x13 → all_1 j = all_2 j)) (hE_0_3_1 : ∀ j : Int, now_0 j = now_1 j) (hE_0_3_2 : ∀ j : Int, now_1 j = now_2 j) (hE_0_4_1 : ∀ j : Int, latest_0 j = latest_1 j) (hE_0_4_2 : ∀ j : Int, latest_1 j = latest_2 j) (kz_0_11 : 0 ≤ pos_0 ∧ pos_0 ≤ 2000) (kz_0_12 : 0 ≤ kind_0 ∧ kind_0 ≤ 4) (kz_0_15 : 0 ≤ from_0 ∧ from_0 ≤ 2000) : (x2 ≤ (-1)) ∨ (all_0 ((r_0 + 1)) ≤ 47) := by
  subst fe_0_5_1
  subst fe_0_11_1
  subst fe_0_12_1
  subst fe_0_15_1
  subst fe_0_5_2
  subst fe_0_11_2
  subst fe_0_12_2
  subst fe_0_15_2
  have e_hE_0_3_1 := funext hE_0_3_1; subst e_hE_0_3_1
  have e_hE_0_3_2 := funext hE_0_3_2; subst e_hE_0_3_2
  have e_hE_0_4_1 := funext hE_0_4_1; subst e_hE_0_4_1
  have e_hE_0_4_2 := funext hE_0_4_2; subst e_hE_0_4_2
  first
    | omega
    | (have q1 := (hE_0_2_1 (r_0 + 2) (by omega)).2 (by omega)
       have q2 := (hE_0_2_2 (r_0 + 2) (by omega)).2 (by omega)
       omega)
    | (have q1 := (hE_0_2_1 (r_0 + 1) (by omega)).2 (by omega)
       have q2 := (hE_0_2_2 (r_0 + 1) (by omega)).2 (by omega)
       omega)
    | (have q1 := (hE_0_2_1 (r_0 + 2) (by omega)).2 (by omega)
       omega)
    | (have q1 := (hE_0_2_1 (r_0 + 1) (by omega)).2 (by omega)
       omega)
    | (have q1 := (hE_0_2_1 (r_0 + 2) (by omega)).2 (by omega)
       have q2 := (hE_0_2_2 (r_0 + 2) (by omega)).2 (by omega)
       have q3 := (hE_0_2_3 (r_0 + 2) (by omega)).1 (by omega)
       omega)
    | (have q1 := (hE_0_2_1 (r_0 + 2) (by omega)).2 (by omega)
       have q2 := (hE_0_2_2 (r_0 + 2) (by omega)).2 (by omega)
       have q3 := (hE_0_2_3 (r_0 + 2) (by omega)).2 (by omega)
       omega)
set_option maxHeartbeats 4000000 in
theorem vc_Mo_met_8_3 (x1 : Int) (x9 : Int) (x11 : Int) (x13 : Int) (x16 : Int) (x18 : Int) (x19 : Int) (x22 : Int) (from_0 : Int) (pos_0 : Int) (kind_0 : Int) (from_1 : Int) (pos_1 : Int) (r_1 : Int) (kind_1 : Int) (all_2 : Int → Int) (r_0 : Int) (r_2 : Int) (from_2 : Int) (pos_2 : Int) (kind_2 : Int) (now_2 : Int → Int) (latest_2 : Int → Int) (all_0 : Int → Int) (all_1 : Int → Int) (now_0 : Int → Int) (now_1 : Int → Int) (latest_0 : Int → Int) (latest_1 : Int → Int) (k1 : 0 ≤ x1 ∧ x1 ≤ 7) (k9 : 0 ≤ x9 ∧ x9 ≤ 23) (k11 : 0 ≤ x11 ∧ x11 ≤ 23) (k13 : 0 ≤ x13 ∧ x13 ≤ 66297) (k16 : 1 ≤ x16 ∧ x16 ≤ 24) (k18 : 195 ≤ x18 ∧ x18 ≤ 66492) (k19 : 195 ≤ x19 ∧ x19 ≤ 66515) (k22 : 0 ≤ x22 ∧ x22 ≤ 8) (d4 : x13 + 195 ≤ x18 ∧ x18 ≤ x13 + 195) (f9 : x19 = x18 + x11) (g11 : x13 = r_1) (f21 : 1 * x11 + ((-1) * all_2 (r_0 + 0) + 0) ≤ 0) (f22 : (-1) * x11 + (1 * all_2 (r_0 + 0) + 0) ≤ 0) (f26 : 1 * x9 + ((-1) * all_2 (r_0 + 0) + 0) ≤ 0) (f27 : (-1) * x9 + (1 * all_2 (r_0 + 0) + 0) ≤ 0) (f36 : (x1 + 1) ≤ all_2 ((r_2 + 2))) (fe_0_5_1 : r_0 = r_1) (fe_0_11_1 : pos_0 = pos_1) (fe_0_12_1 : kind_0 = kind_1) (fe_0_15_1 : from_0 = from_1) (fe_0_5_2 : r_1 = r_2) (fe_0_11_2 : pos_1 = pos_2) (fe_0_12_2 : kind_1 = kind_2) (fe_0_15_2 : from_1 = from_2) (hE_0_2_1 : ∀ j : Int, 0 ≤ j → (j = x19 → all_0 j = x22) ∧ (j ≠ x19 → all_0 j = all_1 j)) (hE_0_2_2 : ∀ j : Int, 0 ≤ j → (j = x13 → all_1 j = x16) ∧ (j ≠ x13 → all_1 j = all_2 j)) (hE_0_3_1 : ∀ j : Int, now_0 j = now_1 j) (hE_0_3_2 : ∀ j : Int, now_1 j = now_2 j) (hE_0_4_1 : ∀ j : Int, latest_0 j = latest_1 j) (hE_0_4_2 : ∀ j : Int, latest_1 j = latest_2 j) (kz_0_11 : 0 ≤ pos_0 ∧ pos_0 ≤ 2000) (kz_0_12 : 0 ≤ kind_0 ∧ kind_0 ≤ 4) (kz_0_15 : 0 ≤ from_0 ∧ from_0 ≤ 2000) : (x1 + 1) ≤ all_0 ((r_0 + 2)) := by
  subst fe_0_5_1
  subst fe_0_11_1
  subst fe_0_12_1
  subst fe_0_15_1
  subst fe_0_5_2
  subst fe_0_11_2
  subst fe_0_12_2
  subst fe_0_15_2
  have e_hE_0_3_1 := funext hE_0_3_1; subst e_hE_0_3_1
  have e_hE_0_3_2 := funext hE_0_3_2; subst e_hE_0_3_2
  have e_hE_0_4_1 := funext hE_0_4_1; subst e_hE_0_4_1
  have e_hE_0_4_2 := funext hE_0_4_2; subst e_hE_0_4_2
  first
    | omega
    | (have q1 := (hE_0_2_1 (r_0 + 2) (by omega)).2 (by omega)
       have q2 := (hE_0_2_2 (r_0 + 2) (by omega)).2 (by omega)
       omega)
    | (have q1 := (hE_0_2_1 (r_0 + 1) (by omega)).2 (by omega)
       have q2 := (hE_0_2_2 (r_0 + 1) (by omega)).2 (by omega)
       omega)
    | (have q1 := (hE_0_2_1 (r_0 + 2) (by omega)).2 (by omega)
       omega)
    | (have q1 := (hE_0_2_1 (r_0 + 1) (by omega)).2 (by omega)
       omega)
    | (have q1 := (hE_0_2_1 (r_0 + 2) (by omega)).2 (by omega)
       have q2 := (hE_0_2_2 (r_0 + 2) (by omega)).2 (by omega)
       have q3 := (hE_0_2_3 (r_0 + 2) (by omega)).1 (by omega)
       omega)
    | (have q1 := (hE_0_2_1 (r_0 + 2) (by omega)).2 (by omega)
       have q2 := (hE_0_2_2 (r_0 + 2) (by omega)).2 (by omega)
       have q3 := (hE_0_2_3 (r_0 + 2) (by omega)).2 (by omega)
       omega)
set_option maxHeartbeats 4000000 in
theorem vc_Mo_met_8_4 (x9 : Int) (x11 : Int) (x13 : Int) (x14 : Int) (x16 : Int) (x18 : Int) (x19 : Int) (x22 : Int) (from_0 : Int) (pos_0 : Int) (kind_0 : Int) (from_1 : Int) (pos_1 : Int) (r_1 : Int) (kind_1 : Int) (all_2 : Int → Int) (r_0 : Int) (r_2 : Int) (from_2 : Int) (pos_2 : Int) (kind_2 : Int) (now_2 : Int → Int) (latest_2 : Int → Int) (all_0 : Int → Int) (all_1 : Int → Int) (now_0 : Int → Int) (now_1 : Int → Int) (latest_0 : Int → Int) (latest_1 : Int → Int) (k9 : 0 ≤ x9 ∧ x9 ≤ 23) (k11 : 0 ≤ x11 ∧ x11 ≤ 23) (k13 : 0 ≤ x13 ∧ x13 ≤ 66297) (k14 : 0 ≤ x14 ∧ x14 ≤ 24) (k16 : 1 ≤ x16 ∧ x16 ≤ 24) (k18 : 195 ≤ x18 ∧ x18 ≤ 66492) (k19 : 195 ≤ x19 ∧ x19 ≤ 66515) (k22 : 0 ≤ x22 ∧ x22 ≤ 8) (d4 : x13 + 195 ≤ x18 ∧ x18 ≤ x13 + 195) (d5 : x14 + 1 ≤ x16 ∧ x16 ≤ x14 + 1) (f9 : x19 = x18 + x11) (g11 : x13 = r_1) (h20 : x14 = all_2 (x13)) (f21 : 1 * x11 + ((-1) * all_2 (r_0 + 0) + 0) ≤ 0) (f22 : (-1) * x11 + (1 * all_2 (r_0 + 0) + 0) ≤ 0) (f26 : 1 * x9 + ((-1) * all_2 (r_0 + 0) + 0) ≤ 0) (f27 : (-1) * x9 + (1 * all_2 (r_0 + 0) + 0) ≤ 0) (f37 : RWS (r_2) (all_2) (now_2) (latest_2)) (fe_0_5_1 : r_0 = r_1) (fe_0_11_1 : pos_0 = pos_1) (fe_0_12_1 : kind_0 = kind_1) (fe_0_15_1 : from_0 = from_1) (fe_0_5_2 : r_1 = r_2) (fe_0_11_2 : pos_1 = pos_2) (fe_0_12_2 : kind_1 = kind_2) (fe_0_15_2 : from_1 = from_2) (hE_0_2_1 : ∀ j : Int, 0 ≤ j → (j = x19 → all_0 j = x22) ∧ (j ≠ x19 → all_0 j = all_1 j)) (hE_0_2_2 : ∀ j : Int, 0 ≤ j → (j = x13 → all_1 j = x16) ∧ (j ≠ x13 → all_1 j = all_2 j)) (hE_0_3_1 : ∀ j : Int, now_0 j = now_1 j) (hE_0_3_2 : ∀ j : Int, now_1 j = now_2 j) (hE_0_4_1 : ∀ j : Int, latest_0 j = latest_1 j) (hE_0_4_2 : ∀ j : Int, latest_1 j = latest_2 j) (kz_0_11 : 0 ≤ pos_0 ∧ pos_0 ≤ 2000) (kz_0_12 : 0 ≤ kind_0 ∧ kind_0 ≤ 4) (kz_0_15 : 0 ≤ from_0 ∧ from_0 ≤ 2000) : RWN (r_0) (all_0) (now_0) (latest_0) (x11) := by
  subst fe_0_5_1
  subst fe_0_11_1
  subst fe_0_12_1
  subst fe_0_15_1
  subst fe_0_5_2
  subst fe_0_11_2
  subst fe_0_12_2
  subst fe_0_15_2
  have e_hE_0_3_1 := funext hE_0_3_1; subst e_hE_0_3_1
  have e_hE_0_3_2 := funext hE_0_3_2; subst e_hE_0_3_2
  have e_hE_0_4_1 := funext hE_0_4_1; subst e_hE_0_4_1
  have e_hE_0_4_2 := funext hE_0_4_2; subst e_hE_0_4_2
  try simp only [Int.add_zero] at *
  first
    | (exfalso; omega)
    | (have hr := rws_r ‹RWS _ _ _ _›
       have hb := (rws_sg ‹RWS _ _ _ _›).1
       exact rwn_off (rwn_start ‹RWS _ _ _ _› (by assumption) (by omega) (by omega) (by omega) (by omega)) (by assumption) (by omega))
    | (have hr := rwn_r ‹RWN _ _ _ _ _›
       have hb := ‹MEN _ _ _ _›.1
       exact rwn_off ‹RWN _ _ _ _ _› (by assumption) (by omega))
set_option maxHeartbeats 4000000 in
theorem vc_Mo_met_8_5 (x2 : Int) (x9 : Int) (x11 : Int) (x13 : Int) (x14 : Int) (x16 : Int) (x18 : Int) (x19 : Int) (x22 : Int) (from_0 : Int) (pos_0 : Int) (kind_0 : Int) (from_1 : Int) (pos_1 : Int) (r_1 : Int) (kind_1 : Int) (all_2 : Int → Int) (r_0 : Int) (r_2 : Int) (from_2 : Int) (pos_2 : Int) (kind_2 : Int) (now_2 : Int → Int) (latest_2 : Int → Int) (all_0 : Int → Int) (all_1 : Int → Int) (now_0 : Int → Int) (now_1 : Int → Int) (latest_0 : Int → Int) (latest_1 : Int → Int) (k2 : (-1) ≤ x2 ∧ x2 ≤ (-1)) (k9 : 0 ≤ x9 ∧ x9 ≤ 23) (k11 : 0 ≤ x11 ∧ x11 ≤ 23) (k13 : 0 ≤ x13 ∧ x13 ≤ 66297) (k14 : 0 ≤ x14 ∧ x14 ≤ 24) (k16 : 1 ≤ x16 ∧ x16 ≤ 24) (k18 : 195 ≤ x18 ∧ x18 ≤ 66492) (k19 : 195 ≤ x19 ∧ x19 ≤ 66515) (k22 : 0 ≤ x22 ∧ x22 ≤ 8) (d4 : x13 + 195 ≤ x18 ∧ x18 ≤ x13 + 195) (d5 : x14 + 1 ≤ x16 ∧ x16 ≤ x14 + 1) (f9 : x19 = x18 + x11) (g11 : x13 = r_1) (h20 : x14 = all_2 (x13)) (f21 : 1 * x11 + ((-1) * all_2 (r_0 + 0) + 0) ≤ 0) (f22 : (-1) * x11 + (1 * all_2 (r_0 + 0) + 0) ≤ 0) (f26 : 1 * x9 + ((-1) * all_2 (r_0 + 0) + 0) ≤ 0) (f27 : (-1) * x9 + (1 * all_2 (r_0 + 0) + 0) ≤ 0) (f37 : RWS (r_2) (all_2) (now_2) (latest_2)) (f38 : MEB (r_2) (all_2) (x2)) (fe_0_5_1 : r_0 = r_1) (fe_0_11_1 : pos_0 = pos_1) (fe_0_12_1 : kind_0 = kind_1) (fe_0_15_1 : from_0 = from_1) (fe_0_5_2 : r_1 = r_2) (fe_0_11_2 : pos_1 = pos_2) (fe_0_12_2 : kind_1 = kind_2) (fe_0_15_2 : from_1 = from_2) (hE_0_2_1 : ∀ j : Int, 0 ≤ j → (j = x19 → all_0 j = x22) ∧ (j ≠ x19 → all_0 j = all_1 j)) (hE_0_2_2 : ∀ j : Int, 0 ≤ j → (j = x13 → all_1 j = x16) ∧ (j ≠ x13 → all_1 j = all_2 j)) (hE_0_3_1 : ∀ j : Int, now_0 j = now_1 j) (hE_0_3_2 : ∀ j : Int, now_1 j = now_2 j) (hE_0_4_1 : ∀ j : Int, latest_0 j = latest_1 j) (hE_0_4_2 : ∀ j : Int, latest_1 j = latest_2 j) (kz_0_11 : 0 ≤ pos_0 ∧ pos_0 ≤ 2000) (kz_0_12 : 0 ≤ kind_0 ∧ kind_0 ≤ 4) (kz_0_15 : 0 ≤ from_0 ∧ from_0 ≤ 2000) : MEN (r_0) (all_0) (x2) (x11) := by
  subst fe_0_5_1
  subst fe_0_11_1
  subst fe_0_12_1
  subst fe_0_15_1
  subst fe_0_5_2
  subst fe_0_11_2
  subst fe_0_12_2
  subst fe_0_15_2
  have e_hE_0_3_1 := funext hE_0_3_1; subst e_hE_0_3_1
  have e_hE_0_3_2 := funext hE_0_3_2; subst e_hE_0_3_2
  have e_hE_0_4_1 := funext hE_0_4_1; subst e_hE_0_4_1
  have e_hE_0_4_2 := funext hE_0_4_2; subst e_hE_0_4_2
  try simp only [Int.add_zero] at *
  first
    | (exfalso; omega)
    | (have hr := rws_r ‹RWS _ _ _ _›
       have hb := (rws_sg ‹RWS _ _ _ _›).1
       exact men_off (by omega) (men_new ‹RWS _ _ _ _› (by assumption) (by omega) (by omega) (by omega) ‹MEB _ _ _› (by omega)) (by assumption) (by omega))
    | (have hr := rwn_r ‹RWN _ _ _ _ _›
       have hb := ‹MEN _ _ _ _›.1
       exact men_off (by omega) ‹MEN _ _ _ _› (by assumption) (by omega))
def o_Mo_met_8 : or_T := (171, 24, [(0, (2, 0, 0, [165])), (1, (0, 0, 7, [])), (2, (0, -1, -1, [])), (3, (0, 0, 2000, [])), (4, (0, 0, 2000, [])), (6, (0, 1, 1, [])), (7, (0, -1, -1, [])), (9, (0, 0, 23, [])), (10, (0, 24, 24, [])), (11, (0, 0, 23, [])), (12, (2, 0, 0, [167])), (13, (0, 0, 66297, [])), (14, (0, 0, 24, [])), (15, (0, 1, 1, [])), (16, (0, 1, 24, [])), (17, (0, 195, 195, [])), (18, (0, 195, 66492, [])), (19, (0, 195, 66515, [])), (20, (0, 0, 2000, [])), (21, (0, 0, 2000, [])), (22, (0, 0, 8, []))], [(20, [0, 0], [30, 0, 1, 1, 15, -1, 1, 11]), (20, [0], [50, 3, 0, 12, 11, 15, 2, 21, 4, 7, 1, 3, 2, 0, 12, 0, 1, 0, 3, 2, 0, 11, 4, 3, 2, 0, 15, 0, 8, 3, 7, 1, 3, 2, 0, 12, 0, 0, 0, 7, 4, 3, 2, 0, 15, 0, 1, 2, 0, 11]), (20, [3, 0], [30, 0, 1, 0, 0, -1, 1, 11]), (20, [0, 4], [50, 2, 0, 12, 11, 3, 7, 1, 3, 2, 0, 12, 0, 0, 0, 6, 4, 2, 1, 1, 0, 1, 2, 0, 11]), (20, [6, 0], [50, 1, 0, 1012, 4, 6, 1, 2, 1, 0, 0, 1, 1, 3, 2, 1, 12, 0, 1]), (100, [12, 19, 22], []), (2, [22, 20, 21], []), (9, [21, 0], [15]), (9, [20, 0], [11]), (1, [19, 18, 11], []), (1, [18, 13, 17], []), (9, [13, 0], [5]), (9, [12, 0], [2]), (20, [0, 0], [30, 0, 1, 1, 15, -1, 1, 11]), (20, [0], [50, 3, 0, 12, 11, 15, 2, 21, 4, 7, 1, 3, 2, 0, 12, 0, 1, 0, 3, 2, 0, 11, 4, 3, 2, 0, 15, 0, 8, 3, 7, 1, 3, 2, 0, 12, 0, 0, 0, 7, 4, 3, 2, 0, 15, 0, 1, 2, 0, 11]), (20, [3, 0], [30, 0, 1, 0, 0, -1, 1, 11]), (20, [0, 4], [50, 2, 0, 12, 11, 3, 7, 1, 3, 2, 0, 12, 0, 0, 0, 6, 4, 2, 1, 1, 0, 1, 2, 0, 11]), (20, [6, 0], [50, 1, 0, 1012, 4, 6, 1, 2, 1, 0, 0, 1, 1, 3, 2, 1, 12, 0, 1]), (100, [12, 13, 16], []), (1, [16, 14, 15], []), (10, [14, 12, 13], []), (20, [11, 0], [30, 0, 1, 0, 0, -1, 3, 2005000]), (20, [11, 0], [30, 0, -1, 0, 0, 1, 3, 2005000]), (8, [7], [2]), (8, [2], [2]), (7, [9, 10], [1]), (20, [9, 0], [30, 0, 1, 0, 0, -1, 3, 2005000]), (20, [9, 0], [30, 0, -1, 0, 0, 1, 3, 2005000]), (8, [7], [2]), (8, [7], [2]), (20, [0, 7], [60, 1, 1, 207, 5, 2]), (8, [6], [1]), (20, [0, 0], [30, 0, 1, 1, 15, -1, 1, 11]), (20, [0], [50, 3, 0, 12, 11, 15, 2, 21, 4, 7, 1, 3, 2, 0, 12, 0, 1, 0, 3, 2, 0, 11, 4, 3, 2, 0, 15, 0, 8, 3, 7, 1, 3, 2, 0, 12, 0, 0, 0, 7, 4, 3, 2, 0, 15, 0, 1, 2, 0, 11]), (20, [3, 0], [30, 0, 1, 0, 0, -1, 1, 11]), (20, [0, 4], [50, 2, 0, 12, 11, 3, 7, 1, 3, 2, 0, 12, 0, 0, 0, 6, 4, 2, 1, 1, 0, 1, 2, 0, 11]), (20, [1, 0], [50, 1, 1, 1005, 1002, 0, 6, 4, 2, 1, 0, 0, 1, 3, 1, 2, 4, 3, 2, 1, 5, 0, 2]), (20, [0], [60, 1, 3, 199, 5, 2, 3, 4]), (20, [0, 2], [60, 1, 1, 241, 5, 2]), (20, [6, 0], [50, 1, 0, 1012, 4, 6, 1, 2, 1, 0, 0, 1, 1, 3, 2, 1, 12, 0, 1])], [], [], [(20, [4, 0], [30, -1, 1, 0, 0, -1, 1, 11]), (20, [0], [50, 1, 0, 12, 1, 3, 2, 0, 12, 0, 1]), (20, [2, 0], [50, 1, 1, 1005, 1002, 3, 6, 0, 2, 1, 0, 0, -1, 0, 10, 3, 1, 2, 4, 3, 2, 1, 5, 0, 1, 0, 47]), (20, [1, 0], [50, 1, 1, 1005, 1002, 0, 6, 4, 2, 1, 0, 0, 1, 3, 1, 2, 4, 3, 2, 1, 5, 0, 2]), (20, [0, 11], [60, 1, 3, 200, 5, 2, 3, 4]), (20, [0, 2, 11], [60, 1, 1, 243, 5, 2]), (24, [0, 0], []), (24, [1, 1], []), (24, [2, 2], [])], [], [(22, 20, -2000, 0), (19, 11, 195, 66492), (19, 18, 0, 23), (19, 13, 195, 218), (18, 13, 195, 195), (16, 14, 1, 1)])
theorem oo_Mo_met_8 {kA : Nat → ClassId} : or_ok PRD kA GG o_Mo_met_8 := by
  refine or_mk fun A ta ws vs hD hth hl => ?_
  intro t0 r0 t1 k1 t2 k2 t3 k3 t4 k4 t6 k6 t7 k7 t9 k9 t10 k10 t11 k11 t12 r12 t13 k13 t14 k14 t15 k15 t16 k16 t17 k17 t18 k18 t19 k19 t20 k20 t21 k21 t22 k22 d0 d1 d2 d3 d4 d5 f0 f1 f2 f3 f4 ta1 w1 le1 s1 f6 f7 f8 f9 f10 f11 f12 f13 f14 f15 f16 f17 ta2 w2 le2 s2 f19 f20 f21 f22 f23 f24 f25 f26 f27 f28 f29 f30 f31 f32 f33 f34 f35 f36 f37 f38 f39
  replace f0 := shm_1397 f0
  replace f1 := shm_1398 f1
  replace f2 := shm_1395 f2
  replace f3 := shm_1978 f3
  replace f4 := shm_1762 f4
  have s1 : (∀ b j, w_el ws b j = if b = v_ad (n_v vs 12) ∧ j = (v_iv (n_v vs 19)).toNat then v_iv (n_v vs 22) else w_el w1 b j) ∧ ∀ b k, w_fd ws b k = w_fd w1 b k := s1.2
  replace f6 := shm_14 f6
  replace f7 := shm_189 f7
  replace f8 := shm_117 f8
  replace f9 := shm_12 f9
  replace f10 := shm_12 f10
  replace f11 := shm_109 f11
  replace f12 := shm_129 f12
  replace f13 := shm_1397 f13
  replace f14 := shm_1398 f14
  replace f15 := shm_1395 f15
  replace f16 := shm_1978 f16
  replace f17 := shm_1762 f17
  have s2 : (∀ b j, w_el w1 b j = if b = v_ad (n_v vs 12) ∧ j = (v_iv (n_v vs 13)).toNat then v_iv (n_v vs 16) else w_el w2 b j) ∧ ∀ b k, w_fd w1 b k = w_fd w2 b k := s2.2
  replace f19 := shm_12 f19
  replace f20 := shm_106 f20
  replace f21 := shm_135 f21
  replace f22 := shm_136 f22
  replace f23 := shm_39 f23
  replace f24 := shm_39 f24
  replace f25 := shm_40 f25
  replace f26 := shm_135 f26
  replace f27 := shm_136 f27
  replace f28 := shm_39 f28
  replace f29 := shm_39 f29
  replace f30 := shm_1200 f30
  replace f31 := shm_154 f31
  replace f32 := shm_1397 f32
  replace f33 := shm_1398 f33
  replace f34 := shm_1395 f34
  replace f35 := shm_1978 f35
  replace f36 := shm_981 f36
  replace f37 := shm_952 f37
  replace f38 := shm_1979 f38
  replace f39 := shm_1762 f39
  have ar_0_2_1 : w_ar w1 (n_v vs 0) 2 = w_ar ws (n_v vs 0) 2 := congrArg v_ad (s1.2 _ _).symm
  have ar_0_2_2 : w_ar w2 (n_v vs 0) 2 = w_ar ws (n_v vs 0) 2 := by rw [← ar_0_2_1]; show v_ad (w_fd w2 _ _) = v_ad (w_fd w1 _ _); rw [s2.2]
  have cr_0_2 := fdq_12 hD hth r0
  have ar_0_3_1 : w_ar w1 (n_v vs 0) 3 = w_ar ws (n_v vs 0) 3 := congrArg v_ad (s1.2 _ _).symm
  have ar_0_3_2 : w_ar w2 (n_v vs 0) 3 = w_ar ws (n_v vs 0) 3 := by rw [← ar_0_3_1]; show v_ad (w_fd w2 _ _) = v_ad (w_fd w1 _ _); rw [s2.2]
  have cr_0_3 := fdq_141 hD hth r0
  have ar_0_4_1 : w_ar w1 (n_v vs 0) 4 = w_ar ws (n_v vs 0) 4 := congrArg v_ad (s1.2 _ _).symm
  have ar_0_4_2 : w_ar w2 (n_v vs 0) 4 = w_ar ws (n_v vs 0) 4 := by rw [← ar_0_4_1]; show v_ad (w_fd w2 _ _) = v_ad (w_fd w1 _ _); rw [s2.2]
  have cr_0_4 := fdq_142 hD hth r0
  have fi_0_5_1 : w_fi w1 (n_v vs 0) 5 = w_fi ws (n_v vs 0) 5 := by show v_iv (w_fd w1 _ _) = v_iv (w_fd ws _ _); rw [s1.2]
  have fi_0_5_2 : w_fi w2 (n_v vs 0) 5 = w_fi ws (n_v vs 0) 5 := by rw [← fi_0_5_1]; show v_iv (w_fd w2 _ _) = v_iv (w_fd w1 _ _); rw [s2.2]
  have ad_12 : v_ad (n_v vs 12) = w_ar ws (n_v vs 0) 2 := (congrArg v_ad f12).trans ar_0_2_1
  have g7 : v_iv (n_v vs 21) = w_fi w1 (n_v vs 0) 15 := congrArg v_iv f7
  have g8 : v_iv (n_v vs 20) = w_fi w1 (n_v vs 0) 11 := congrArg v_iv f8
  have g11 : v_iv (n_v vs 13) = w_fi w1 (n_v vs 0) 5 := congrArg v_iv f11
  simp only [ad_12] at f20
  have h20 : v_iv (n_v vs 14) = w_ei w2 (w_ar ws (n_v vs 0) 2) (v_iv (n_v vs 13)) := f20
  simp only [ar_0_2_2, ar_0_3_2, ar_0_4_2] at f21 f22 f26 f27 f30 f36 f37 f38
  simp only [fi_0_5_2] at f21 f22 f26 f27
  have fe_0_5_1 : w_fi ws (n_v vs 0) 5 = w_fi w1 (n_v vs 0) 5 := congrArg v_iv (s1.2 _ _)
  have fe_0_11_1 : w_fi ws (n_v vs 0) 11 = w_fi w1 (n_v vs 0) 11 := congrArg v_iv (s1.2 _ _)
  have fe_0_12_1 : w_fi ws (n_v vs 0) 12 = w_fi w1 (n_v vs 0) 12 := congrArg v_iv (s1.2 _ _)
  have fe_0_15_1 : w_fi ws (n_v vs 0) 15 = w_fi w1 (n_v vs 0) 15 := congrArg v_iv (s1.2 _ _)
  have fe_0_5_2 : w_fi w1 (n_v vs 0) 5 = w_fi w2 (n_v vs 0) 5 := congrArg v_iv (s2.2 _ _)
  have fe_0_11_2 : w_fi w1 (n_v vs 0) 11 = w_fi w2 (n_v vs 0) 11 := congrArg v_iv (s2.2 _ _)
  have fe_0_12_2 : w_fi w1 (n_v vs 0) 12 = w_fi w2 (n_v vs 0) 12 := congrArg v_iv (s2.2 _ _)
  have fe_0_15_2 : w_fi w1 (n_v vs 0) 15 = w_fi w2 (n_v vs 0) 15 := congrArg v_iv (s2.2 _ _)
  have hE_0_2_1 : ∀ j : Int, 0 ≤ j → (j = v_iv (n_v vs 19) → w_ei ws (w_ar ws (n_v vs 0) 2) j = v_iv (n_v vs 22)) ∧ (j ≠ v_iv (n_v vs 19) → w_ei ws (w_ar ws (n_v vs 0) 2) j = w_ei w1 (w_ar ws (n_v vs 0) 2) j) := fun j hj => ⟨fun h => by unfold w_ei; rw [s1.1, if_pos ⟨ad_12.symm, by rw [h]⟩], fun h => by unfold w_ei; rw [s1.1, if_neg (fun e => h (by have := e.2; omega))]⟩
  have hE_0_2_2 : ∀ j : Int, 0 ≤ j → (j = v_iv (n_v vs 13) → w_ei w1 (w_ar ws (n_v vs 0) 2) j = v_iv (n_v vs 16)) ∧ (j ≠ v_iv (n_v vs 13) → w_ei w1 (w_ar ws (n_v vs 0) 2) j = w_ei w2 (w_ar ws (n_v vs 0) 2) j) := fun j hj => ⟨fun h => by unfold w_ei; rw [s2.1, if_pos ⟨ad_12.symm, by rw [h]⟩], fun h => by unfold w_ei; rw [s2.1, if_neg (fun e => h (by have := e.2; omega))]⟩
  have hE_0_3_1 : ∀ j : Int, w_ei ws (w_ar ws (n_v vs 0) 3) j = w_ei w1 (w_ar ws (n_v vs 0) 3) j := el_kp s1.1 r12 cr_0_3 (by decide)
  have hE_0_3_2 : ∀ j : Int, w_ei w1 (w_ar ws (n_v vs 0) 3) j = w_ei w2 (w_ar ws (n_v vs 0) 3) j := el_kp s2.1 r12 cr_0_3 (by decide)
  have hK_0_3 := elq_77 hD hth cr_0_3
  have hE_0_4_1 : ∀ j : Int, w_ei ws (w_ar ws (n_v vs 0) 4) j = w_ei w1 (w_ar ws (n_v vs 0) 4) j := el_kp s1.1 r12 cr_0_4 (by decide)
  have hE_0_4_2 : ∀ j : Int, w_ei w1 (w_ar ws (n_v vs 0) 4) j = w_ei w2 (w_ar ws (n_v vs 0) 4) j := el_kp s2.1 r12 cr_0_4 (by decide)
  have hK_0_4 := elq_78 hD hth cr_0_4
  have kz_0_11 := fdq_273 hD hth r0
  have kz_0_12 := fdq_186 hD hth r0
  have kz_0_15 := fdq_274 hD hth r0
  first | have hJ0 : w_ei w2 (w_ar ws (n_v vs 0) 2) ((w_fi w2 (n_v vs 0) 5 + 2)) = w_ei w2 (w_ar ws (n_v vs 0) 2) ((w_fi ws (n_v vs 0) 5 + 2)) := congrArg _ (show ((w_fi w2 (n_v vs 0) 5 + 2) : Int) = (w_fi ws (n_v vs 0) 5 + 2) from by omega) | skip
  first | have hI1 := (hE_0_2_1 ((w_fi ws (n_v vs 0) 5 + 2)) (by omega)).2 (by omega) | have hI1 := (hE_0_2_1 ((w_fi ws (n_v vs 0) 5 + 2)) (by omega)).1 (by omega) | skip
  first | have hI2 := (hE_0_2_2 ((w_fi ws (n_v vs 0) 5 + 2)) (by omega)).2 (by omega) | have hI2 := (hE_0_2_2 ((w_fi ws (n_v vs 0) 5 + 2)) (by omega)).1 (by omega) | skip
  first | have hI3 := (hE_0_2_1 ((w_fi ws (n_v vs 0) 5 + 1)) (by omega)).2 (by omega) | have hI3 := (hE_0_2_1 ((w_fi ws (n_v vs 0) 5 + 1)) (by omega)).1 (by omega) | skip
  first | have hI4 := (hE_0_2_2 ((w_fi ws (n_v vs 0) 5 + 1)) (by omega)).2 (by omega) | have hI4 := (hE_0_2_2 ((w_fi ws (n_v vs 0) 5 + 1)) (by omega)).1 (by omega) | skip
  have nf0 : fc_1 PRD (20, [4, 0], [30, -1, 1, 0, 0, -1, 1, 11]) ws (vs) := ⟨nf_in hl rfl, sgq_1891 (vc_Mo_met_8_0 (v_iv (n_v vs 4)) (v_iv (n_v vs 6)) (v_iv (n_v vs 13)) (v_iv (n_v vs 16)) (v_iv (n_v vs 19)) (v_iv (n_v vs 22)) (w_fi ws (n_v vs 0) 15) (w_fi ws (n_v vs 0) 11) (w_fi ws (n_v vs 0) 12) (w_fi w1 (n_v vs 0) 15) (w_fi w1 (n_v vs 0) 11) (w_fi w1 (n_v vs 0) 5) (w_fi w1 (n_v vs 0) 12) (w_ei w2 (w_ar ws (n_v vs 0) 2)) (w_fi ws (n_v vs 0) 5) (w_fi w2 (n_v vs 0) 5) (w_fi w2 (n_v vs 0) 15) (w_fi w2 (n_v vs 0) 11) (w_fi w2 (n_v vs 0) 12) (w_ei w2 (w_ar ws (n_v vs 0) 3)) (w_ei w2 (w_ar ws (n_v vs 0) 4)) (w_ei ws (w_ar ws (n_v vs 0) 2)) (w_ei w1 (w_ar ws (n_v vs 0) 2)) (w_ei ws (w_ar ws (n_v vs 0) 3)) (w_ei w1 (w_ar ws (n_v vs 0) 3)) (w_ei ws (w_ar ws (n_v vs 0) 4)) (w_ei w1 (w_ar ws (n_v vs 0) 4)) k4 k6 k13 k16 k19 k22 f33 f35 f39 fe_0_5_1 fe_0_11_1 fe_0_12_1 fe_0_15_1 fe_0_5_2 fe_0_11_2 fe_0_12_2 fe_0_15_2 hE_0_2_1 hE_0_2_2 hE_0_3_1 hE_0_3_2 hE_0_4_1 hE_0_4_2 kz_0_11 kz_0_12 kz_0_15)⟩
  have nf1 : fc_1 PRD (20, [0], [50, 1, 0, 12, 1, 3, 2, 0, 12, 0, 1]) ws (vs) := ⟨nf_in hl rfl, sgq_1791 (vc_Mo_met_8_1 (v_iv (n_v vs 4)) (v_iv (n_v vs 6)) (v_iv (n_v vs 13)) (v_iv (n_v vs 16)) (v_iv (n_v vs 19)) (v_iv (n_v vs 22)) (w_fi ws (n_v vs 0) 15) (w_fi ws (n_v vs 0) 11) (w_fi ws (n_v vs 0) 12) (w_fi w1 (n_v vs 0) 15) (w_fi w1 (n_v vs 0) 11) (w_fi w1 (n_v vs 0) 5) (w_fi w1 (n_v vs 0) 12) (w_ei w2 (w_ar ws (n_v vs 0) 2)) (w_fi ws (n_v vs 0) 5) (w_fi w2 (n_v vs 0) 5) (w_fi w2 (n_v vs 0) 15) (w_fi w2 (n_v vs 0) 11) (w_fi w2 (n_v vs 0) 12) (w_ei w2 (w_ar ws (n_v vs 0) 3)) (w_ei w2 (w_ar ws (n_v vs 0) 4)) (w_ei ws (w_ar ws (n_v vs 0) 2)) (w_ei w1 (w_ar ws (n_v vs 0) 2)) (w_ei ws (w_ar ws (n_v vs 0) 3)) (w_ei w1 (w_ar ws (n_v vs 0) 3)) (w_ei ws (w_ar ws (n_v vs 0) 4)) (w_ei w1 (w_ar ws (n_v vs 0) 4)) k4 k6 k13 k16 k19 k22 f33 f35 f39 fe_0_5_1 fe_0_11_1 fe_0_12_1 fe_0_15_1 fe_0_5_2 fe_0_11_2 fe_0_12_2 fe_0_15_2 hE_0_2_1 hE_0_2_2 hE_0_3_1 hE_0_3_2 hE_0_4_1 hE_0_4_2 kz_0_11 kz_0_12 kz_0_15)⟩
  have nf2 : fc_1 PRD (20, [2, 0], [50, 1, 1, 1005, 1002, 3, 6, 0, 2, 1, 0, 0, -1, 0, 10, 3, 1, 2, 4, 3, 2, 1, 5, 0, 1, 0, 47]) ws (vs) := ⟨nf_in hl rfl, sgq_1980 (vc_Mo_met_8_2 (v_iv (n_v vs 2)) (v_iv (n_v vs 13)) (v_iv (n_v vs 16)) (v_iv (n_v vs 19)) (v_iv (n_v vs 22)) (w_fi ws (n_v vs 0) 15) (w_fi ws (n_v vs 0) 11) (w_fi ws (n_v vs 0) 12) (w_fi w1 (n_v vs 0) 15) (w_fi w1 (n_v vs 0) 11) (w_fi w1 (n_v vs 0) 5) (w_fi w1 (n_v vs 0) 12) (w_ei w2 (w_ar ws (n_v vs 0) 2)) (w_fi ws (n_v vs 0) 5) (w_fi w2 (n_v vs 0) 5) (w_fi w2 (n_v vs 0) 15) (w_fi w2 (n_v vs 0) 11) (w_fi w2 (n_v vs 0) 12) (w_ei w2 (w_ar ws (n_v vs 0) 3)) (w_ei w2 (w_ar ws (n_v vs 0) 4)) (w_ei ws (w_ar ws (n_v vs 0) 2)) (w_ei w1 (w_ar ws (n_v vs 0) 2)) (w_ei ws (w_ar ws (n_v vs 0) 3)) (w_ei w1 (w_ar ws (n_v vs 0) 3)) (w_ei ws (w_ar ws (n_v vs 0) 4)) (w_ei w1 (w_ar ws (n_v vs 0) 4)) k2 k13 k16 k19 k22 fe_0_5_1 fe_0_11_1 fe_0_12_1 fe_0_15_1 fe_0_5_2 fe_0_11_2 fe_0_12_2 fe_0_15_2 hE_0_2_1 hE_0_2_2 hE_0_3_1 hE_0_3_2 hE_0_4_1 hE_0_4_2 kz_0_11 kz_0_12 kz_0_15)⟩
  have nf3 : fc_1 PRD (20, [1, 0], [50, 1, 1, 1005, 1002, 0, 6, 4, 2, 1, 0, 0, 1, 3, 1, 2, 4, 3, 2, 1, 5, 0, 2]) ws (vs) := ⟨nf_in hl rfl, sgq_981 (vc_Mo_met_8_3 (v_iv (n_v vs 1)) (v_iv (n_v vs 9)) (v_iv (n_v vs 11)) (v_iv (n_v vs 13)) (v_iv (n_v vs 16)) (v_iv (n_v vs 18)) (v_iv (n_v vs 19)) (v_iv (n_v vs 22)) (w_fi ws (n_v vs 0) 15) (w_fi ws (n_v vs 0) 11) (w_fi ws (n_v vs 0) 12) (w_fi w1 (n_v vs 0) 15) (w_fi w1 (n_v vs 0) 11) (w_fi w1 (n_v vs 0) 5) (w_fi w1 (n_v vs 0) 12) (w_ei w2 (w_ar ws (n_v vs 0) 2)) (w_fi ws (n_v vs 0) 5) (w_fi w2 (n_v vs 0) 5) (w_fi w2 (n_v vs 0) 15) (w_fi w2 (n_v vs 0) 11) (w_fi w2 (n_v vs 0) 12) (w_ei w2 (w_ar ws (n_v vs 0) 3)) (w_ei w2 (w_ar ws (n_v vs 0) 4)) (w_ei ws (w_ar ws (n_v vs 0) 2)) (w_ei w1 (w_ar ws (n_v vs 0) 2)) (w_ei ws (w_ar ws (n_v vs 0) 3)) (w_ei w1 (w_ar ws (n_v vs 0) 3)) (w_ei ws (w_ar ws (n_v vs 0) 4)) (w_ei w1 (w_ar ws (n_v vs 0) 4)) k1 k9 k11 k13 k16 k18 k19 k22 d4 f9 g11 f21 f22 f26 f27 f36 fe_0_5_1 fe_0_11_1 fe_0_12_1 fe_0_15_1 fe_0_5_2 fe_0_11_2 fe_0_12_2 fe_0_15_2 hE_0_2_1 hE_0_2_2 hE_0_3_1 hE_0_3_2 hE_0_4_1 hE_0_4_2 kz_0_11 kz_0_12 kz_0_15)⟩
  have nf4 : fc_1 PRD (20, [0, 11], [60, 1, 3, 200, 5, 2, 3, 4]) ws (vs) := ⟨nf_in hl rfl, sgq_1718 (vc_Mo_met_8_4 (v_iv (n_v vs 9)) (v_iv (n_v vs 11)) (v_iv (n_v vs 13)) (v_iv (n_v vs 14)) (v_iv (n_v vs 16)) (v_iv (n_v vs 18)) (v_iv (n_v vs 19)) (v_iv (n_v vs 22)) (w_fi ws (n_v vs 0) 15) (w_fi ws (n_v vs 0) 11) (w_fi ws (n_v vs 0) 12) (w_fi w1 (n_v vs 0) 15) (w_fi w1 (n_v vs 0) 11) (w_fi w1 (n_v vs 0) 5) (w_fi w1 (n_v vs 0) 12) (w_ei w2 (w_ar ws (n_v vs 0) 2)) (w_fi ws (n_v vs 0) 5) (w_fi w2 (n_v vs 0) 5) (w_fi w2 (n_v vs 0) 15) (w_fi w2 (n_v vs 0) 11) (w_fi w2 (n_v vs 0) 12) (w_ei w2 (w_ar ws (n_v vs 0) 3)) (w_ei w2 (w_ar ws (n_v vs 0) 4)) (w_ei ws (w_ar ws (n_v vs 0) 2)) (w_ei w1 (w_ar ws (n_v vs 0) 2)) (w_ei ws (w_ar ws (n_v vs 0) 3)) (w_ei w1 (w_ar ws (n_v vs 0) 3)) (w_ei ws (w_ar ws (n_v vs 0) 4)) (w_ei w1 (w_ar ws (n_v vs 0) 4)) k9 k11 k13 k14 k16 k18 k19 k22 d4 d5 f9 g11 h20 f21 f22 f26 f27 f37 fe_0_5_1 fe_0_11_1 fe_0_12_1 fe_0_15_1 fe_0_5_2 fe_0_11_2 fe_0_12_2 fe_0_15_2 hE_0_2_1 hE_0_2_2 hE_0_3_1 hE_0_3_2 hE_0_4_1 hE_0_4_2 kz_0_11 kz_0_12 kz_0_15)⟩
  have nf5 : fc_1 PRD (20, [0, 2, 11], [60, 1, 1, 243, 5, 2]) ws (vs) := ⟨nf_in hl rfl, sgq_1981 (vc_Mo_met_8_5 (v_iv (n_v vs 2)) (v_iv (n_v vs 9)) (v_iv (n_v vs 11)) (v_iv (n_v vs 13)) (v_iv (n_v vs 14)) (v_iv (n_v vs 16)) (v_iv (n_v vs 18)) (v_iv (n_v vs 19)) (v_iv (n_v vs 22)) (w_fi ws (n_v vs 0) 15) (w_fi ws (n_v vs 0) 11) (w_fi ws (n_v vs 0) 12) (w_fi w1 (n_v vs 0) 15) (w_fi w1 (n_v vs 0) 11) (w_fi w1 (n_v vs 0) 5) (w_fi w1 (n_v vs 0) 12) (w_ei w2 (w_ar ws (n_v vs 0) 2)) (w_fi ws (n_v vs 0) 5) (w_fi w2 (n_v vs 0) 5) (w_fi w2 (n_v vs 0) 15) (w_fi w2 (n_v vs 0) 11) (w_fi w2 (n_v vs 0) 12) (w_ei w2 (w_ar ws (n_v vs 0) 3)) (w_ei w2 (w_ar ws (n_v vs 0) 4)) (w_ei ws (w_ar ws (n_v vs 0) 2)) (w_ei w1 (w_ar ws (n_v vs 0) 2)) (w_ei ws (w_ar ws (n_v vs 0) 3)) (w_ei w1 (w_ar ws (n_v vs 0) 3)) (w_ei ws (w_ar ws (n_v vs 0) 4)) (w_ei w1 (w_ar ws (n_v vs 0) 4)) k2 k9 k11 k13 k14 k16 k18 k19 k22 d4 d5 f9 g11 h20 f21 f22 f26 f27 f37 f38 fe_0_5_1 fe_0_11_1 fe_0_12_1 fe_0_15_1 fe_0_5_2 fe_0_11_2 fe_0_12_2 fe_0_15_2 hE_0_2_1 hE_0_2_2 hE_0_3_1 hE_0_3_2 hE_0_4_1 hE_0_4_2 kz_0_11 kz_0_12 kz_0_15)⟩
  have nf6 : fc_1 PRD (24, [0, 0], []) ws (vs) := by
    refine ⟨nf_in hl rfl, sgq_1 ?_⟩
    · show n_v vs 0 = n_v vs 0
      first | rfl | simp only [true_and]
  have nf7 : fc_1 PRD (24, [1, 1], []) ws (vs) := by
    refine ⟨nf_in hl rfl, sgq_1 ?_⟩
    · show n_v vs 1 = n_v vs 1
      first | rfl | simp only [true_and]
  have nf8 : fc_1 PRD (24, [2, 2], []) ws (vs) := by
    refine ⟨nf_in hl rfl, sgq_1 ?_⟩
    · show n_v vs 2 = n_v vs 2
      first | rfl | simp only [true_and]
  refine ⟨(fun _ h => (by cases h)), [], trivial, ?_, (fun _ h => (by cases h))⟩
  rw [List.append_nil]
  exact List.forall_mem_cons.mpr ⟨⟨show (20 : Nat) < 100 from by decide, nf0⟩, List.forall_mem_cons.mpr ⟨⟨show (20 : Nat) < 100 from by decide, nf1⟩, List.forall_mem_cons.mpr ⟨⟨show (20 : Nat) < 100 from by decide, nf2⟩, List.forall_mem_cons.mpr ⟨⟨show (20 : Nat) < 100 from by decide, nf3⟩, List.forall_mem_cons.mpr ⟨⟨show (20 : Nat) < 100 from by decide, nf4⟩, List.forall_mem_cons.mpr ⟨⟨show (20 : Nat) < 100 from by decide, nf5⟩, List.forall_mem_cons.mpr ⟨⟨show (24 : Nat) < 100 from by decide, nf6⟩, List.forall_mem_cons.mpr ⟨⟨show (24 : Nat) < 100 from by decide, nf7⟩, List.forall_mem_cons.mpr ⟨⟨show (24 : Nat) < 100 from by decide, nf8⟩, (fun _ h => (by cases h))⟩⟩⟩⟩⟩⟩⟩⟩⟩
set_option maxHeartbeats 4000000 in
theorem vc_Mo_met_9_r0 (x9 : Int) (x13 : Int) (all_0 : Int → Int) (r_0 : Int) (k9 : 0 ≤ x9 ∧ x9 ≤ 23) (k13 : 0 ≤ x13 ∧ x13 ≤ 24) (f0 : 1 * x13 + ((-1) * all_0 (r_0 + 0) + 0) ≤ 0) (f1 : (-1) * x13 + (1 * all_0 (r_0 + 0) + 0) ≤ 0) (f8 : 1 * x9 + ((-1) * all_0 (r_0 + 0) + 0) ≤ 0) (f9 : (-1) * x9 + (1 * all_0 (r_0 + 0) + 0) ≤ 0) : 0 ≤ x13 ∧ x13 ≤ 23 := by
  first
    | omega
    | (have q1 := (hE_0_2_1 (r_0 + 2) (by omega)).2 (by omega)
       have q2 := (hE_0_2_2 (r_0 + 2) (by omega)).2 (by omega)
       omega)
    | (have q1 := (hE_0_2_1 (r_0 + 1) (by omega)).2 (by omega)
       have q2 := (hE_0_2_2 (r_0 + 1) (by omega)).2 (by omega)
       omega)
    | (have q1 := (hE_0_2_1 (r_0 + 2) (by omega)).2 (by omega)
       omega)
    | (have q1 := (hE_0_2_1 (r_0 + 1) (by omega)).2 (by omega)
       omega)
    | (have q1 := (hE_0_2_1 (r_0 + 2) (by omega)).2 (by omega)
       have q2 := (hE_0_2_2 (r_0 + 2) (by omega)).2 (by omega)
       have q3 := (hE_0_2_3 (r_0 + 2) (by omega)).1 (by omega)
       omega)
    | (have q1 := (hE_0_2_1 (r_0 + 2) (by omega)).2 (by omega)
       have q2 := (hE_0_2_2 (r_0 + 2) (by omega)).2 (by omega)
       have q3 := (hE_0_2_3 (r_0 + 2) (by omega)).2 (by omega)
       omega)
def o_Mo_met_9 : or_T := (130, 14, [(0, (2, 0, 0, [165])), (1, (0, 0, 7, [])), (2, (0, 0, 23, [])), (3, (0, 0, 2000, [])), (4, (0, 0, 2000, [])), (6, (0, 1, 1, [])), (7, (0, -1, -1, [])), (9, (0, 0, 23, [])), (10, (0, 24, 24, [])), (11, (0, 0, 47, [])), (12, (0, 48, 48, [])), (13, (0, 0, 24, []))], [(20, [13, 0], [30, 0, 1, 0, 0, -1, 3, 2005000]), (20, [13, 0], [30, 0, -1, 0, 0, 1, 3, 2005000]), (8, [7], [2]), (7, [11, 12], [1]), (20, [11, 0], [30, 0, 1, 0, 0, -1, 3, 2005001]), (20, [11, 0], [30, 0, -1, 0, 0, 1, 3, 2005001]), (8, [2], [3]), (7, [9, 10], [1]), (20, [9, 0], [30, 0, 1, 0, 0, -1, 3, 2005000]), (20, [9, 0], [30, 0, -1, 0, 0, 1, 3, 2005000]), (8, [7], [2]), (8, [7], [2]), (20, [0, 7], [60, 1, 1, 207, 5, 2]), (8, [6], [1]), (20, [0, 0], [30, 0, 1, 1, 15, -1, 1, 11]), (20, [0], [50, 3, 0, 12, 11, 15, 2, 21, 4, 7, 1, 3, 2, 0, 12, 0, 1, 0, 3, 2, 0, 11, 4, 3, 2, 0, 15, 0, 8, 3, 7, 1, 3, 2, 0, 12, 0, 0, 0, 7, 4, 3, 2, 0, 15, 0, 1, 2, 0, 11]), (20, [3, 0], [30, 0, 1, 0, 0, -1, 1, 11]), (20, [0, 4], [50, 2, 0, 12, 11, 3, 7, 1, 3, 2, 0, 12, 0, 0, 0, 6, 4, 2, 1, 1, 0, 1, 2, 0, 11]), (20, [1, 0], [50, 1, 1, 1005, 1002, 0, 6, 4, 2, 1, 0, 0, 1, 3, 1, 2, 4, 3, 2, 1, 5, 0, 2]), (20, [0], [60, 1, 3, 199, 5, 2, 3, 4]), (20, [0, 2], [60, 1, 1, 241, 5, 2]), (20, [6, 0], [50, 1, 0, 1012, 4, 6, 1, 2, 1, 0, 0, 1, 1, 3, 2, 1, 12, 0, 1])], [(13, (0, 0, 23, []))], [], [], [], [])
theorem oo_Mo_met_9 {kA : Nat → ClassId} : or_ok PRD kA GG o_Mo_met_9 := by
  refine or_mk fun A ta ws vs hD hth hl => ?_
  intro t0 r0 t1 k1 t2 k2 t3 k3 t4 k4 t6 k6 t7 k7 t9 k9 t10 k10 t11 k11 t12 k12 t13 k13 f0 f1 f2 f3 f4 f5 f6 f7 f8 f9 f10 f11 f12 f13 f14 f15 f16 f17 f18 f19 f20 f21
  have hrf0 : 0 ≤ v_iv (n_v vs 13) ∧ v_iv (n_v vs 13) ≤ 23 := vc_Mo_met_9_r0 (v_iv (n_v vs 9)) (v_iv (n_v vs 13)) (w_ei ws (w_ar ws (n_v vs 0) 2)) (w_fi ws (n_v vs 0) 5) k9 k13 (shm_135 f0) (shm_136 f1) (shm_135 f8) (shm_136 f9)
  have rf13 : tv_ok ta (0, 0, 23, []) (n_v vs 13) := tv_in t13 (by first | omega | grind) (by first | omega | grind)
  refine ⟨List.forall_mem_cons.mpr ⟨rf13, (fun _ h => (by cases h))⟩, [], trivial, ?_, (fun _ h => (by cases h))⟩
  rw [List.append_nil]
  exact (fun _ h => (by cases h))
set_option maxHeartbeats 4000000 in
theorem vc_Mo_met_10_r0 (x9 : Int) (x13 : Int) (x15 : Int) (x16 : Int) (x18 : Int) (all_0 : Int → Int) (r_0 : Int) (now_0 : Int → Int) (latest_0 : Int → Int) (k9 : 0 ≤ x9 ∧ x9 ≤ 23) (k15 : 0 ≤ x15 ∧ x15 ≤ 66297) (k16 : 0 ≤ x16 ∧ x16 ≤ 24) (k18 : 1 ≤ x18 ∧ x18 ≤ 25) (d0 : x16 + 1 ≤ x18 ∧ x18 ≤ x16 + 1) (h1 : x16 = all_0 (x15)) (g2 : x15 = r_0) (f12 : 1 * x9 + ((-1) * all_0 (r_0 + 0) + 0) ≤ 0) (f13 : (-1) * x9 + (1 * all_0 (r_0 + 0) + 0) ≤ 0) (f23 : RWS (r_0) (all_0) (now_0) (latest_0)) : 1 ≤ x18 ∧ x18 ≤ 24 := by
  first
    | omega
    | (have hb := (rws_sg ‹RWS _ _ _ _›).1
       have e : x13 = r_0 := by omega
       rw [e] at h1
       simp only [Int.add_zero] at *
       omega)
    | (have hb := (rws_sg ‹RWS _ _ _ _›).1
       have e : x15 = r_0 := by omega
       rw [e] at h1
       simp only [Int.add_zero] at *
       omega)
def o_Mo_met_10 : or_T := (143, 19, [(0, (2, 0, 0, [165])), (1, (0, 0, 7, [])), (2, (0, 0, 23, [])), (3, (0, 0, 2000, [])), (4, (0, 0, 2000, [])), (6, (0, 1, 1, [])), (7, (0, -1, -1, [])), (9, (0, 0, 23, [])), (10, (0, 24, 24, [])), (11, (0, 0, 47, [])), (12, (0, 48, 48, [])), (13, (0, 0, 23, [])), (14, (2, 0, 0, [167])), (15, (0, 0, 66297, [])), (16, (0, 0, 24, [])), (17, (0, 1, 1, [])), (18, (0, 1, 25, []))], [(1, [18, 16, 17], []), (10, [16, 14, 15], []), (9, [15, 0], [5]), (9, [14, 0], [2]), (20, [13, 0], [30, 0, 1, 0, 0, -1, 3, 2005000]), (20, [13, 0], [30, 0, -1, 0, 0, 1, 3, 2005000]), (8, [7], [2]), (7, [11, 12], [1]), (20, [11, 0], [30, 0, 1, 0, 0, -1, 3, 2005001]), (20, [11, 0], [30, 0, -1, 0, 0, 1, 3, 2005001]), (8, [2], [3]), (7, [9, 10], [1]), (20, [9, 0], [30, 0, 1, 0, 0, -1, 3, 2005000]), (20, [9, 0], [30, 0, -1, 0, 0, 1, 3, 2005000]), (8, [7], [2]), (8, [7], [2]), (20, [0, 7], [60, 1, 1, 207, 5, 2]), (8, [6], [1]), (20, [0, 0], [30, 0, 1, 1, 15, -1, 1, 11]), (20, [0], [50, 3, 0, 12, 11, 15, 2, 21, 4, 7, 1, 3, 2, 0, 12, 0, 1, 0, 3, 2, 0, 11, 4, 3, 2, 0, 15, 0, 8, 3, 7, 1, 3, 2, 0, 12, 0, 0, 0, 7, 4, 3, 2, 0, 15, 0, 1, 2, 0, 11]), (20, [3, 0], [30, 0, 1, 0, 0, -1, 1, 11]), (20, [0, 4], [50, 2, 0, 12, 11, 3, 7, 1, 3, 2, 0, 12, 0, 0, 0, 6, 4, 2, 1, 1, 0, 1, 2, 0, 11]), (20, [1, 0], [50, 1, 1, 1005, 1002, 0, 6, 4, 2, 1, 0, 0, 1, 3, 1, 2, 4, 3, 2, 1, 5, 0, 2]), (20, [0], [60, 1, 3, 199, 5, 2, 3, 4]), (20, [0, 2], [60, 1, 1, 241, 5, 2]), (20, [6, 0], [50, 1, 0, 1012, 4, 6, 1, 2, 1, 0, 0, 1, 1, 3, 2, 1, 12, 0, 1])], [(18, (0, 1, 24, []))], [], [], [], [(18, 16, 1, 1)])
theorem oo_Mo_met_10 {kA : Nat → ClassId} : or_ok PRD kA GG o_Mo_met_10 := by
  refine or_mk fun A ta ws vs hD hth hl => ?_
  intro t0 r0 t1 k1 t2 k2 t3 k3 t4 k4 t6 k6 t7 k7 t9 k9 t10 k10 t11 k11 t12 k12 t13 k13 t14 r14 t15 k15 t16 k16 t17 k17 t18 k18 d0 f0 f1 f2 f3 f4 f5 f6 f7 f8 f9 f10 f11 f12 f13 f14 f15 f16 f17 f18 f19 f20 f21 f22 f23 f24 f25
  replace f1 := shm_106 f1
  replace f2 := shm_109 f2
  replace f3 := shm_129 f3
  have ad_14 : v_ad (n_v vs 14) = w_ar ws (n_v vs 0) 2 := congrArg v_ad f3
  simp only [ad_14] at f1
  have h1 : v_iv (n_v vs 16) = w_ei ws (w_ar ws (n_v vs 0) 2) (v_iv (n_v vs 15)) := f1
  have g2 : v_iv (n_v vs 15) = w_fi ws (n_v vs 0) 5 := congrArg v_iv f2
  have hrf0 : 1 ≤ v_iv (n_v vs 18) ∧ v_iv (n_v vs 18) ≤ 24 := vc_Mo_met_10_r0 (v_iv (n_v vs 9)) (v_iv (n_v vs 13)) (v_iv (n_v vs 15)) (v_iv (n_v vs 16)) (v_iv (n_v vs 18)) (w_ei ws (w_ar ws (n_v vs 0) 2)) (w_fi ws (n_v vs 0) 5) (w_ei ws (w_ar ws (n_v vs 0) 3)) (w_ei ws (w_ar ws (n_v vs 0) 4)) k9 k15 k16 k18 d0 h1 g2 (shm_135 f12) (shm_136 f13) (shm_952 f23)
  have rf18 : tv_ok ta (0, 1, 24, []) (n_v vs 18) := tv_in t18 (by first | omega | grind) (by first | omega | grind)
  refine ⟨List.forall_mem_cons.mpr ⟨rf18, (fun _ h => (by cases h))⟩, [], trivial, ?_, (fun _ h => (by cases h))⟩
  rw [List.append_nil]
  exact (fun _ h => (by cases h))
set_option maxHeartbeats 4000000 in
theorem vc_Mo_met_11_r0 (x4 : Int) (x6 : Int) (x15 : Int) (x18 : Int) (x22 : Int) (x23 : Int) (x24 : Int) (from_0 : Int) (pos_0 : Int) (r_0 : Int) (kind_0 : Int) (all_1 : Int → Int) (r_1 : Int) (from_1 : Int) (pos_1 : Int) (kind_1 : Int) (now_1 : Int → Int) (latest_1 : Int → Int) (all_0 : Int → Int) (now_0 : Int → Int) (latest_0 : Int → Int) (k4 : 0 ≤ x4 ∧ x4 ≤ 2000) (k6 : 1 ≤ x6 ∧ x6 ≤ 1) (k15 : 0 ≤ x15 ∧ x15 ≤ 66297) (k18 : 1 ≤ x18 ∧ x18 ≤ 24) (k22 : 0 ≤ x22 ∧ x22 ≤ 2000) (k23 : 0 ≤ x23 ∧ x23 ≤ 2000) (k24 : (-2000) ≤ x24 ∧ x24 ≤ 2000) (f0 : x24 = x22 - x23) (g1 : x23 = from_0) (g2 : x22 = pos_0) (f7 : 1 * from_0 + ((-1) * pos_0 + 0) ≤ 0) (f30 : ((kind_1 = 1) → (pos_1 ≤ (from_1 + 8))) ∧ ((kind_1 = 0) ∨ ((from_1 + 1) ≤ pos_1))) (f32 : (kind_1 = 0) ∨ ((x4 + 1) ≤ pos_1)) (f36 : (x6 = 1) → (kind_1 = 1)) (fe_0_5_1 : r_0 = r_1) (fe_0_11_1 : pos_0 = pos_1) (fe_0_12_1 : kind_0 = kind_1) (fe_0_15_1 : from_0 = from_1) (hE_0_2_1 : ∀ j : Int, 0 ≤ j → (j = x15 → all_0 j = x18) ∧ (j ≠ x15 → all_0 j = all_1 j)) (hE_0_3_1 : ∀ j : Int, now_0 j = now_1 j) (hE_0_4_1 : ∀ j : Int, latest_0 j = latest_1 j) (kz_0_11 : 0 ≤ pos_0 ∧ pos_0 ≤ 2000) (kz_0_12 : 0 ≤ kind_0 ∧ kind_0 ≤ 4) (kz_0_15 : 0 ≤ from_0 ∧ from_0 ≤ 2000) : 0 ≤ x24 ∧ x24 ≤ 8 := by
  subst fe_0_5_1
  subst fe_0_11_1
  subst fe_0_12_1
  subst fe_0_15_1
  have e_hE_0_3_1 := funext hE_0_3_1; subst e_hE_0_3_1
  have e_hE_0_4_1 := funext hE_0_4_1; subst e_hE_0_4_1
  first
    | omega
    | (have q1 := (hE_0_2_1 (r_0 + 2) (by omega)).2 (by omega)
       have q2 := (hE_0_2_2 (r_0 + 2) (by omega)).2 (by omega)
       omega)
    | (have q1 := (hE_0_2_1 (r_0 + 1) (by omega)).2 (by omega)
       have q2 := (hE_0_2_2 (r_0 + 1) (by omega)).2 (by omega)
       omega)
    | (have q1 := (hE_0_2_1 (r_0 + 2) (by omega)).2 (by omega)
       omega)
    | (have q1 := (hE_0_2_1 (r_0 + 1) (by omega)).2 (by omega)
       omega)
    | (have q1 := (hE_0_2_1 (r_0 + 2) (by omega)).2 (by omega)
       have q2 := (hE_0_2_2 (r_0 + 2) (by omega)).2 (by omega)
       have q3 := (hE_0_2_3 (r_0 + 2) (by omega)).1 (by omega)
       omega)
    | (have q1 := (hE_0_2_1 (r_0 + 2) (by omega)).2 (by omega)
       have q2 := (hE_0_2_2 (r_0 + 2) (by omega)).2 (by omega)
       have q3 := (hE_0_2_3 (r_0 + 2) (by omega)).2 (by omega)
       omega)
def o_Mo_met_11 : or_T := (167, 25, [(0, (2, 0, 0, [165])), (1, (0, 0, 7, [])), (2, (0, 0, 23, [])), (3, (0, 0, 2000, [])), (4, (0, 0, 2000, [])), (6, (0, 1, 1, [])), (7, (0, -1, -1, [])), (9, (0, 0, 23, [])), (10, (0, 24, 24, [])), (11, (0, 0, 47, [])), (12, (0, 48, 48, [])), (13, (0, 0, 23, [])), (14, (2, 0, 0, [167])), (15, (0, 0, 66297, [])), (16, (0, 0, 24, [])), (17, (0, 1, 1, [])), (18, (0, 1, 24, [])), (19, (0, 195, 195, [])), (20, (0, 195, 66492, [])), (21, (0, 195, 66515, [])), (22, (0, 0, 2000, [])), (23, (0, 0, 2000, [])), (24, (0, -2000, 2000, []))], [(2, [24, 22, 23], []), (9, [23, 0], [15]), (9, [22, 0], [11]), (1, [21, 20, 13], []), (1, [20, 15, 19], []), (9, [15, 0], [5]), (9, [14, 0], [2]), (20, [0, 0], [30, 0, 1, 1, 15, -1, 1, 11]), (20, [0], [50, 3, 0, 12, 11, 15, 2, 21, 4, 7, 1, 3, 2, 0, 12, 0, 1, 0, 3, 2, 0, 11, 4, 3, 2, 0, 15, 0, 8, 3, 7, 1, 3, 2, 0, 12, 0, 0, 0, 7, 4, 3, 2, 0, 15, 0, 1, 2, 0, 11]), (20, [3, 0], [30, 0, 1, 0, 0, -1, 1, 11]), (20, [0, 4], [50, 2, 0, 12, 11, 3, 7, 1, 3, 2, 0, 12, 0, 0, 0, 6, 4, 2, 1, 1, 0, 1, 2, 0, 11]), (20, [6, 0], [50, 1, 0, 1012, 4, 6, 1, 2, 1, 0, 0, 1, 1, 3, 2, 1, 12, 0, 1]), (100, [14, 15, 18], []), (1, [18, 16, 17], []), (10, [16, 14, 15], []), (20, [13, 0], [30, 0, 1, 0, 0, -1, 3, 2005000]), (20, [13, 0], [30, 0, -1, 0, 0, 1, 3, 2005000]), (8, [7], [2]), (7, [11, 12], [1]), (20, [11, 0], [30, 0, 1, 0, 0, -1, 3, 2005001]), (20, [11, 0], [30, 0, -1, 0, 0, 1, 3, 2005001]), (8, [2], [3]), (7, [9, 10], [1]), (20, [9, 0], [30, 0, 1, 0, 0, -1, 3, 2005000]), (20, [9, 0], [30, 0, -1, 0, 0, 1, 3, 2005000]), (8, [7], [2]), (8, [7], [2]), (20, [0, 7], [60, 1, 1, 207, 5, 2]), (8, [6], [1]), (20, [0, 0], [30, 0, 1, 1, 15, -1, 1, 11]), (20, [0], [50, 3, 0, 12, 11, 15, 2, 21, 4, 7, 1, 3, 2, 0, 12, 0, 1, 0, 3, 2, 0, 11, 4, 3, 2, 0, 15, 0, 8, 3, 7, 1, 3, 2, 0, 12, 0, 0, 0, 7, 4, 3, 2, 0, 15, 0, 1, 2, 0, 11]), (20, [3, 0], [30, 0, 1, 0, 0, -1, 1, 11]), (20, [0, 4], [50, 2, 0, 12, 11, 3, 7, 1, 3, 2, 0, 12, 0, 0, 0, 6, 4, 2, 1, 1, 0, 1, 2, 0, 11]), (20, [1, 0], [50, 1, 1, 1005, 1002, 0, 6, 4, 2, 1, 0, 0, 1, 3, 1, 2, 4, 3, 2, 1, 5, 0, 2]), (20, [0], [60, 1, 3, 199, 5, 2, 3, 4]), (20, [0, 2], [60, 1, 1, 241, 5, 2]), (20, [6, 0], [50, 1, 0, 1012, 4, 6, 1, 2, 1, 0, 0, 1, 1, 3, 2, 1, 12, 0, 1])], [(24, (0, 0, 8, []))], [], [], [], [(24, 22, -2000, 0), (21, 13, 195, 66492), (21, 20, 0, 23), (21, 15, 195, 218), (20, 15, 195, 195), (18, 16, 1, 1)])
theorem oo_Mo_met_11 {kA : Nat → ClassId} : or_ok PRD kA GG o_Mo_met_11 := by
  refine or_mk fun A ta ws vs hD hth hl => ?_
  intro t0 r0 t1 k1 t2 k2 t3 k3 t4 k4 t6 k6 t7 k7 t9 k9 t10 k10 t11 k11 t12 k12 t13 k13 t14 r14 t15 k15 t16 k16 t17 k17 t18 k18 t19 k19 t20 k20 t21 k21 t22 k22 t23 k23 t24 k24 d0 d1 d2 d3 d4 d5 f0 f1 f2 f3 f4 f5 f6 f7 f8 f9 f10 f11 ta1 w1 le1 s1 f13 f14 f15 f16 f17 f18 f19 f20 f21 f22 f23 f24 f25 f26 f27 f28 f29 f30 f31 f32 f33 f34 f35 f36
  replace f0 := shm_14 f0
  replace f1 := shm_189 f1
  replace f2 := shm_117 f2
  replace f3 := shm_12 f3
  replace f4 := shm_12 f4
  replace f5 := shm_109 f5
  replace f6 := shm_129 f6
  replace f7 := shm_1397 f7
  replace f8 := shm_1398 f8
  replace f9 := shm_1395 f9
  replace f10 := shm_1978 f10
  replace f11 := shm_1762 f11
  have s1 : (∀ b j, w_el ws b j = if b = v_ad (n_v vs 14) ∧ j = (v_iv (n_v vs 15)).toNat then v_iv (n_v vs 18) else w_el w1 b j) ∧ ∀ b k, w_fd ws b k = w_fd w1 b k := s1.2
  replace f13 := shm_12 f13
  replace f14 := shm_106 f14
  replace f15 := shm_135 f15
  replace f16 := shm_136 f16
  replace f17 := shm_39 f17
  replace f18 := shm_40 f18
  replace f19 := shm_130 f19
  replace f20 := shm_131 f20
  replace f21 := shm_32 f21
  replace f22 := shm_40 f22
  replace f23 := shm_135 f23
  replace f24 := shm_136 f24
  replace f25 := shm_39 f25
  replace f26 := shm_39 f26
  replace f27 := shm_1200 f27
  replace f28 := shm_154 f28
  replace f29 := shm_1397 f29
  replace f30 := shm_1398 f30
  replace f31 := shm_1395 f31
  replace f32 := shm_1978 f32
  replace f33 := shm_981 f33
  replace f34 := shm_952 f34
  replace f35 := shm_1979 f35
  replace f36 := shm_1762 f36
  have ar_0_2_1 : w_ar w1 (n_v vs 0) 2 = w_ar ws (n_v vs 0) 2 := congrArg v_ad (s1.2 _ _).symm
  have cr_0_2 := fdq_12 hD hth r0
  have ar_0_3_1 : w_ar w1 (n_v vs 0) 3 = w_ar ws (n_v vs 0) 3 := congrArg v_ad (s1.2 _ _).symm
  have cr_0_3 := fdq_141 hD hth r0
  have ar_0_4_1 : w_ar w1 (n_v vs 0) 4 = w_ar ws (n_v vs 0) 4 := congrArg v_ad (s1.2 _ _).symm
  have cr_0_4 := fdq_142 hD hth r0
  have fi_0_5_1 : w_fi w1 (n_v vs 0) 5 = w_fi ws (n_v vs 0) 5 := by show v_iv (w_fd w1 _ _) = v_iv (w_fd ws _ _); rw [s1.2]
  have ad_14 : v_ad (n_v vs 14) = w_ar ws (n_v vs 0) 2 := congrArg v_ad f6
  have g1 : v_iv (n_v vs 23) = w_fi ws (n_v vs 0) 15 := congrArg v_iv f1
  have g2 : v_iv (n_v vs 22) = w_fi ws (n_v vs 0) 11 := congrArg v_iv f2
  have g5 : v_iv (n_v vs 15) = w_fi ws (n_v vs 0) 5 := congrArg v_iv f5
  simp only [ad_14] at f14
  have h14 : v_iv (n_v vs 16) = w_ei w1 (w_ar ws (n_v vs 0) 2) (v_iv (n_v vs 15)) := f14
  simp only [ar_0_2_1, ar_0_3_1, ar_0_4_1] at f15 f16 f19 f20 f23 f24 f27 f33 f34 f35
  simp only [fi_0_5_1] at f15 f16 f19 f20 f23 f24
  have fe_0_5_1 : w_fi ws (n_v vs 0) 5 = w_fi w1 (n_v vs 0) 5 := congrArg v_iv (s1.2 _ _)
  have fe_0_11_1 : w_fi ws (n_v vs 0) 11 = w_fi w1 (n_v vs 0) 11 := congrArg v_iv (s1.2 _ _)
  have fe_0_12_1 : w_fi ws (n_v vs 0) 12 = w_fi w1 (n_v vs 0) 12 := congrArg v_iv (s1.2 _ _)
  have fe_0_15_1 : w_fi ws (n_v vs 0) 15 = w_fi w1 (n_v vs 0) 15 := congrArg v_iv (s1.2 _ _)
  have hE_0_2_1 : ∀ j : Int, 0 ≤ j → (j = v_iv (n_v vs 15) → w_ei ws (w_ar ws (n_v vs 0) 2) j = v_iv (n_v vs 18)) ∧ (j ≠ v_iv (n_v vs 15) → w_ei ws (w_ar ws (n_v vs 0) 2) j = w_ei w1 (w_ar ws (n_v vs 0) 2) j) := fun j hj => ⟨fun h => by unfold w_ei; rw [s1.1, if_pos ⟨ad_14.symm, by rw [h]⟩], fun h => by unfold w_ei; rw [s1.1, if_neg (fun e => h (by have := e.2; omega))]⟩
  have hE_0_3_1 : ∀ j : Int, w_ei ws (w_ar ws (n_v vs 0) 3) j = w_ei w1 (w_ar ws (n_v vs 0) 3) j := el_kp s1.1 r14 cr_0_3 (by decide)
  have hK_0_3 := elq_77 hD hth cr_0_3
  have hE_0_4_1 : ∀ j : Int, w_ei ws (w_ar ws (n_v vs 0) 4) j = w_ei w1 (w_ar ws (n_v vs 0) 4) j := el_kp s1.1 r14 cr_0_4 (by decide)
  have hK_0_4 := elq_78 hD hth cr_0_4
  have kz_0_11 := fdq_273 hD hth r0
  have kz_0_12 := fdq_186 hD hth r0
  have kz_0_15 := fdq_274 hD hth r0
  first | have hJ0 : w_ei w1 (w_ar ws (n_v vs 0) 2) ((w_fi w1 (n_v vs 0) 5 + 2)) = w_ei w1 (w_ar ws (n_v vs 0) 2) ((w_fi ws (n_v vs 0) 5 + 2)) := congrArg _ (show ((w_fi w1 (n_v vs 0) 5 + 2) : Int) = (w_fi ws (n_v vs 0) 5 + 2) from by omega) | skip
  first | have hI1 := (hE_0_2_1 ((w_fi ws (n_v vs 0) 5 + 2)) (by omega)).2 (by omega) | have hI1 := (hE_0_2_1 ((w_fi ws (n_v vs 0) 5 + 2)) (by omega)).1 (by omega) | skip
  have hrf0 : 0 ≤ v_iv (n_v vs 24) ∧ v_iv (n_v vs 24) ≤ 8 := vc_Mo_met_11_r0 (v_iv (n_v vs 4)) (v_iv (n_v vs 6)) (v_iv (n_v vs 15)) (v_iv (n_v vs 18)) (v_iv (n_v vs 22)) (v_iv (n_v vs 23)) (v_iv (n_v vs 24)) (w_fi ws (n_v vs 0) 15) (w_fi ws (n_v vs 0) 11) (w_fi ws (n_v vs 0) 5) (w_fi ws (n_v vs 0) 12) (w_ei w1 (w_ar ws (n_v vs 0) 2)) (w_fi w1 (n_v vs 0) 5) (w_fi w1 (n_v vs 0) 15) (w_fi w1 (n_v vs 0) 11) (w_fi w1 (n_v vs 0) 12) (w_ei w1 (w_ar ws (n_v vs 0) 3)) (w_ei w1 (w_ar ws (n_v vs 0) 4)) (w_ei ws (w_ar ws (n_v vs 0) 2)) (w_ei ws (w_ar ws (n_v vs 0) 3)) (w_ei ws (w_ar ws (n_v vs 0) 4)) k4 k6 k15 k18 k22 k23 k24 f0 g1 g2 f7 f30 f32 f36 fe_0_5_1 fe_0_11_1 fe_0_12_1 fe_0_15_1 hE_0_2_1 hE_0_3_1 hE_0_4_1 kz_0_11 kz_0_12 kz_0_15
  have rf24 : tv_ok ta (0, 0, 8, []) (n_v vs 24) := tv_in t24 (by first | omega | grind) (by first | omega | grind)
  refine ⟨List.forall_mem_cons.mpr ⟨rf24, (fun _ h => (by cases h))⟩, [], trivial, ?_, (fun _ h => (by cases h))⟩
  rw [List.append_nil]
  exact (fun _ h => (by cases h))
set_option maxHeartbeats 4000000 in
theorem vc_Mo_met_12_0 (x4 : Int) (x6 : Int) (x15 : Int) (x18 : Int) (x21 : Int) (x24 : Int) (from_0 : Int) (pos_0 : Int) (kind_0 : Int) (from_1 : Int) (pos_1 : Int) (r_1 : Int) (kind_1 : Int) (all_2 : Int → Int) (r_0 : Int) (r_2 : Int) (from_2 : Int) (pos_2 : Int) (kind_2 : Int) (now_2 : Int → Int) (latest_2 : Int → Int) (all_0 : Int → Int) (all_1 : Int → Int) (now_0 : Int → Int) (now_1 : Int → Int) (latest_0 : Int → Int) (latest_1 : Int → Int) (k4 : 0 ≤ x4 ∧ x4 ≤ 2000) (k6 : 1 ≤ x6 ∧ x6 ≤ 1) (k15 : 0 ≤ x15 ∧ x15 ≤ 66297) (k18 : 1 ≤ x18 ∧ x18 ≤ 24) (k21 : 195 ≤ x21 ∧ x21 ≤ 66515) (k24 : 0 ≤ x24 ∧ x24 ≤ 8) (f36 : ((kind_2 = 1) → (pos_2 ≤ (from_2 + 8))) ∧ ((kind_2 = 0) ∨ ((from_2 + 1) ≤ pos_2))) (f38 : (kind_2 = 0) ∨ ((x4 + 1) ≤ pos_2)) (f42 : (x6 = 1) → (kind_2 = 1)) (fe_0_5_1 : r_0 = r_1) (fe_0_11_1 : pos_0 = pos_1) (fe_0_12_1 : kind_0 = kind_1) (fe_0_15_1 : from_0 = from_1) (fe_0_5_2 : r_1 = r_2) (fe_0_11_2 : pos_1 = pos_2) (fe_0_12_2 : kind_1 = kind_2) (fe_0_15_2 : from_1 = from_2) (hE_0_2_1 : ∀ j : Int, 0 ≤ j → (j = x21 → all_0 j = x24) ∧ (j ≠ x21 → all_0 j = all_1 j)) (hE_0_2_2 : ∀ j : Int, 0 ≤ j → (j = x15 → all_1 j = x18) ∧ (j ≠ x15 → all_1 j = all_2 j)) (hE_0_3_1 : ∀ j : Int, now_0 j = now_1 j) (hE_0_3_2 : ∀ j : Int, now_1 j = now_2 j) (hE_0_4_1 : ∀ j : Int, latest_0 j = latest_1 j) (hE_0_4_2 : ∀ j : Int, latest_1 j = latest_2 j) (kz_0_11 : 0 ≤ pos_0 ∧ pos_0 ≤ 2000) (kz_0_12 : 0 ≤ kind_0 ∧ kind_0 ≤ 4) (kz_0_15 : 0 ≤ from_0 ∧ from_0 ≤ 2000) : 1 * x4 + ((-1) * pos_0 + 0) ≤ (-1) := by
  subst fe_0_5_1
  subst fe_0_11_1
  subst fe_0_12_1
  subst fe_0_15_1
  subst fe_0_5_2
  subst fe_0_11_2
  subst fe_0_12_2
  subst fe_0_15_2
  have e_hE_0_3_1 := funext hE_0_3_1; subst e_hE_0_3_1
  have e_hE_0_3_2 := funext hE_0_3_2; subst e_hE_0_3_2
  have e_hE_0_4_1 := funext hE_0_4_1; subst e_hE_0_4_1
  have e_hE_0_4_2 := funext hE_0_4_2; subst e_hE_0_4_2
  first
    | omega
    | (have q1 := (hE_0_2_1 (r_0 + 2) (by omega)).2 (by omega)
       have q2 := (hE_0_2_2 (r_0 + 2) (by omega)).2 (by omega)
       omega)
    | (have q1 := (hE_0_2_1 (r_0 + 1) (by omega)).2 (by omega)
       have q2 := (hE_0_2_2 (r_0 + 1) (by omega)).2 (by omega)
       omega)
    | (have q1 := (hE_0_2_1 (r_0 + 2) (by omega)).2 (by omega)
       omega)
    | (have q1 := (hE_0_2_1 (r_0 + 1) (by omega)).2 (by omega)
       omega)
    | (have q1 := (hE_0_2_1 (r_0 + 2) (by omega)).2 (by omega)
       have q2 := (hE_0_2_2 (r_0 + 2) (by omega)).2 (by omega)
       have q3 := (hE_0_2_3 (r_0 + 2) (by omega)).1 (by omega)
       omega)
    | (have q1 := (hE_0_2_1 (r_0 + 2) (by omega)).2 (by omega)
       have q2 := (hE_0_2_2 (r_0 + 2) (by omega)).2 (by omega)
       have q3 := (hE_0_2_3 (r_0 + 2) (by omega)).2 (by omega)
       omega)
set_option maxHeartbeats 4000000 in
theorem vc_Mo_met_12_1 (x4 : Int) (x6 : Int) (x15 : Int) (x18 : Int) (x21 : Int) (x24 : Int) (from_0 : Int) (pos_0 : Int) (kind_0 : Int) (from_1 : Int) (pos_1 : Int) (r_1 : Int) (kind_1 : Int) (all_2 : Int → Int) (r_0 : Int) (r_2 : Int) (from_2 : Int) (pos_2 : Int) (kind_2 : Int) (now_2 : Int → Int) (latest_2 : Int → Int) (all_0 : Int → Int) (all_1 : Int → Int) (now_0 : Int → Int) (now_1 : Int → Int) (latest_0 : Int → Int) (latest_1 : Int → Int) (k4 : 0 ≤ x4 ∧ x4 ≤ 2000) (k6 : 1 ≤ x6 ∧ x6 ≤ 1) (k15 : 0 ≤ x15 ∧ x15 ≤ 66297) (k18 : 1 ≤ x18 ∧ x18 ≤ 24) (k21 : 195 ≤ x21 ∧ x21 ≤ 66515) (k24 : 0 ≤ x24 ∧ x24 ≤ 8) (f36 : ((kind_2 = 1) → (pos_2 ≤ (from_2 + 8))) ∧ ((kind_2 = 0) ∨ ((from_2 + 1) ≤ pos_2))) (f38 : (kind_2 = 0) ∨ ((x4 + 1) ≤ pos_2)) (f42 : (x6 = 1) → (kind_2 = 1)) (fe_0_5_1 : r_0 = r_1) (fe_0_11_1 : pos_0 = pos_1) (fe_0_12_1 : kind_0 = kind_1) (fe_0_15_1 : from_0 = from_1) (fe_0_5_2 : r_1 = r_2) (fe_0_11_2 : pos_1 = pos_2) (fe_0_12_2 : kind_1 = kind_2) (fe_0_15_2 : from_1 = from_2) (hE_0_2_1 : ∀ j : Int, 0 ≤ j → (j = x21 → all_0 j = x24) ∧ (j ≠ x21 → all_0 j = all_1 j)) (hE_0_2_2 : ∀ j : Int, 0 ≤ j → (j = x15 → all_1 j = x18) ∧ (j ≠ x15 → all_1 j = all_2 j)) (hE_0_3_1 : ∀ j : Int, now_0 j = now_1 j) (hE_0_3_2 : ∀ j : Int, now_1 j = now_2 j) (hE_0_4_1 : ∀ j : Int, latest_0 j = latest_1 j) (hE_0_4_2 : ∀ j : Int, latest_1 j = latest_2 j) (kz_0_11 : 0 ≤ pos_0 ∧ pos_0 ≤ 2000) (kz_0_12 : 0 ≤ kind_0 ∧ kind_0 ≤ 4) (kz_0_15 : 0 ≤ from_0 ∧ from_0 ≤ 2000) : kind_0 = 1 := by
  subst fe_0_5_1
  subst fe_0_11_1
  subst fe_0_12_1
  subst fe_0_15_1
  subst fe_0_5_2
  subst fe_0_11_2
  subst fe_0_12_2
  subst fe_0_15_2
  have e_hE_0_3_1 := funext hE_0_3_1; subst e_hE_0_3_1
  have e_hE_0_3_2 := funext hE_0_3_2; subst e_hE_0_3_2
  have e_hE_0_4_1 := funext hE_0_4_1; subst e_hE_0_4_1
  have e_hE_0_4_2 := funext hE_0_4_2; subst e_hE_0_4_2
  first
    | omega
    | (have q1 := (hE_0_2_1 (r_0 + 2) (by omega)).2 (by omega)
       have q2 := (hE_0_2_2 (r_0 + 2) (by omega)).2 (by omega)
       omega)
    | (have q1 := (hE_0_2_1 (r_0 + 1) (by omega)).2 (by omega)
       have q2 := (hE_0_2_2 (r_0 + 1) (by omega)).2 (by omega)
       omega)
    | (have q1 := (hE_0_2_1 (r_0 + 2) (by omega)).2 (by omega)
       omega)
    | (have q1 := (hE_0_2_1 (r_0 + 1) (by omega)).2 (by omega)
       omega)
    | (have q1 := (hE_0_2_1 (r_0 + 2) (by omega)).2 (by omega)
       have q2 := (hE_0_2_2 (r_0 + 2) (by omega)).2 (by omega)
       have q3 := (hE_0_2_3 (r_0 + 2) (by omega)).1 (by omega)
       omega)
    | (have q1 := (hE_0_2_1 (r_0 + 2) (by omega)).2 (by omega)
       have q2 := (hE_0_2_2 (r_0 + 2) (by omega)).2 (by omega)
       have q3 := (hE_0_2_3 (r_0 + 2) (by omega)).2 (by omega)
       omega)
set_option maxHeartbeats 4000000 in
theorem vc_Mo_met_12_2 (x2 : Int) (x9 : Int) (x11 : Int) (x13 : Int) (x15 : Int) (x18 : Int) (x20 : Int) (x21 : Int) (x24 : Int) (from_0 : Int) (pos_0 : Int) (kind_0 : Int) (from_1 : Int) (pos_1 : Int) (r_1 : Int) (kind_1 : Int) (all_2 : Int → Int) (r_0 : Int) (r_2 : Int) (from_2 : Int) (pos_2 : Int) (kind_2 : Int) (now_2 : Int → Int) (latest_2 : Int → Int) (all_0 : Int → Int) (all_1 : Int → Int) (now_0 : Int → Int) (now_1 : Int → Int) (latest_0 : Int → Int) (latest_1 : Int → Int) (k2 : 0 ≤ x2 ∧ x2 ≤ 23) (k9 : 0 ≤ x9 ∧ x9 ≤ 23) (k11 : 0 ≤ x11 ∧ x11 ≤ 47) (k13 : 0 ≤ x13 ∧ x13 ≤ 23) (k15 : 0 ≤ x15 ∧ x15 ≤ 66297) (k18 : 1 ≤ x18 ∧ x18 ≤ 24) (k20 : 195 ≤ x20 ∧ x20 ≤ 66492) (k21 : 195 ≤ x21 ∧ x21 ≤ 66515) (k24 : 0 ≤ x24 ∧ x24 ≤ 8) (d4 : x15 + 195 ≤ x20 ∧ x20 ≤ x15 + 195) (f9 : x21 = x20 + x13) (g11 : x15 = r_1) (f21 : 1 * x13 + ((-1) * all_2 (r_0 + 0) + 0) ≤ 0) (f22 : (-1) * x13 + (1 * all_2 (r_0 + 0) + 0) ≤ 0) (f25 : 1 * x11 + ((-1) * all_2 (r_0 + 1) + 0) ≤ 0) (f26 : (-1) * x11 + (1 * all_2 (r_0 + 1) + 0) ≤ 0) (f29 : 1 * x9 + ((-1) * all_2 (r_0 + 0) + 0) ≤ 0) (f30 : (-1) * x9 + (1 * all_2 (r_0 + 0) + 0) ≤ 0) (fe_0_5_1 : r_0 = r_1) (fe_0_11_1 : pos_0 = pos_1) (fe_0_12_1 : kind_0 = kind_1) (fe_0_15_1 : from_0 = from_1) (fe_0_5_2 : r_1 = r_2) (fe_0_11_2 : pos_1 = pos_2) (fe_0_12_2 : kind_1 = kind_2) (fe_0_15_2 : from_1 = from_2) (hE_0_2_1 : ∀ j : Int, 0 ≤ j → (j = x21 → all_0 j = x24) ∧ (j ≠ x21 → all_0 j = all_1 j)) (hE_0_2_2 : ∀ j : Int, 0 ≤ j → (j = x15 → all_1 j = x18) ∧ (j ≠ x15 → all_1 j = all_2 j)) (hE_0_3_1 : ∀ j : Int, now_0 j = now_1 j) (hE_0_3_2 : ∀ j : Int, now_1 j = now_2 j) (hE_0_4_1 : ∀ j : Int, latest_0 j = latest_1 j) (hE_0_4_2 : ∀ j : Int, latest_1 j = latest_2 j) (kz_0_11 : 0 ≤ pos_0 ∧ pos_0 ≤ 2000) (kz_0_12 : 0 ≤ kind_0 ∧ kind_0 ≤ 4) (kz_0_15 : 0 ≤ from_0 ∧ from_0 ≤ 2000) : (x2 ≤ (-1)) ∨ (all_0 ((r_0 + 1)) ≤ 47) := by
  subst fe_0_5_1
  subst fe_0_11_1
  subst fe_0_12_1
  subst fe_0_15_1
  subst fe_0_5_2
  subst fe_0_11_2
  subst fe_0_12_2
  subst fe_0_15_2
  have e_hE_0_3_1 := funext hE_0_3_1; subst e_hE_0_3_1
  have e_hE_0_3_2 := funext hE_0_3_2; subst e_hE_0_3_2
  have e_hE_0_4_1 := funext hE_0_4_1; subst e_hE_0_4_1
  have e_hE_0_4_2 := funext hE_0_4_2; subst e_hE_0_4_2
  first
    | omega
    | (have q1 := (hE_0_2_1 (r_0 + 2) (by omega)).2 (by omega)
       have q2 := (hE_0_2_2 (r_0 + 2) (by omega)).2 (by omega)
       omega)
    | (have q1 := (hE_0_2_1 (r_0 + 1) (by omega)).2 (by omega)
       have q2 := (hE_0_2_2 (r_0 + 1) (by omega)).2 (by omega)
       omega)
    | (have q1 := (hE_0_2_1 (r_0 + 2) (by omega)).2 (by omega)
       omega)
    | (have q1 := (hE_0_2_1 (r_0 + 1) (by omega)).2 (by omega)
       omega)
    | (have q1 := (hE_0_2_1 (r_0 + 2) (by omega)).2 (by omega)
       have q2 := (hE_0_2_2 (r_0 + 2) (by omega)).2 (by omega)
       have q3 := (hE_0_2_3 (r_0 + 2) (by omega)).1 (by omega)
       omega)
    | (have q1 := (hE_0_2_1 (r_0 + 2) (by omega)).2 (by omega)
       have q2 := (hE_0_2_2 (r_0 + 2) (by omega)).2 (by omega)
       have q3 := (hE_0_2_3 (r_0 + 2) (by omega)).2 (by omega)
       omega)
set_option maxHeartbeats 4000000 in
theorem vc_Mo_met_12_3 (x1 : Int) (x9 : Int) (x13 : Int) (x15 : Int) (x18 : Int) (x20 : Int) (x21 : Int) (x24 : Int) (from_0 : Int) (pos_0 : Int) (kind_0 : Int) (from_1 : Int) (pos_1 : Int) (r_1 : Int) (kind_1 : Int) (all_2 : Int → Int) (r_0 : Int) (r_2 : Int) (from_2 : Int) (pos_2 : Int) (kind_2 : Int) (now_2 : Int → Int) (latest_2 : Int → Int) (all_0 : Int → Int) (all_1 : Int → Int) (now_0 : Int → Int) (now_1 : Int → Int) (latest_0 : Int → Int) (latest_1 : Int → Int) (k1 : 0 ≤ x1 ∧ x1 ≤ 7) (k9 : 0 ≤ x9 ∧ x9 ≤ 23) (k13 : 0 ≤ x13 ∧ x13 ≤ 23) (k15 : 0 ≤ x15 ∧ x15 ≤ 66297) (k18 : 1 ≤ x18 ∧ x18 ≤ 24) (k20 : 195 ≤ x20 ∧ x20 ≤ 66492) (k21 : 195 ≤ x21 ∧ x21 ≤ 66515) (k24 : 0 ≤ x24 ∧ x24 ≤ 8) (d4 : x15 + 195 ≤ x20 ∧ x20 ≤ x15 + 195) (f9 : x21 = x20 + x13) (g11 : x15 = r_1) (f21 : 1 * x13 + ((-1) * all_2 (r_0 + 0) + 0) ≤ 0) (f22 : (-1) * x13 + (1 * all_2 (r_0 + 0) + 0) ≤ 0) (f29 : 1 * x9 + ((-1) * all_2 (r_0 + 0) + 0) ≤ 0) (f30 : (-1) * x9 + (1 * all_2 (r_0 + 0) + 0) ≤ 0) (f39 : (x1 + 1) ≤ all_2 ((r_2 + 2))) (fe_0_5_1 : r_0 = r_1) (fe_0_11_1 : pos_0 = pos_1) (fe_0_12_1 : kind_0 = kind_1) (fe_0_15_1 : from_0 = from_1) (fe_0_5_2 : r_1 = r_2) (fe_0_11_2 : pos_1 = pos_2) (fe_0_12_2 : kind_1 = kind_2) (fe_0_15_2 : from_1 = from_2) (hE_0_2_1 : ∀ j : Int, 0 ≤ j → (j = x21 → all_0 j = x24) ∧ (j ≠ x21 → all_0 j = all_1 j)) (hE_0_2_2 : ∀ j : Int, 0 ≤ j → (j = x15 → all_1 j = x18) ∧ (j ≠ x15 → all_1 j = all_2 j)) (hE_0_3_1 : ∀ j : Int, now_0 j = now_1 j) (hE_0_3_2 : ∀ j : Int, now_1 j = now_2 j) (hE_0_4_1 : ∀ j : Int, latest_0 j = latest_1 j) (hE_0_4_2 : ∀ j : Int, latest_1 j = latest_2 j) (kz_0_11 : 0 ≤ pos_0 ∧ pos_0 ≤ 2000) (kz_0_12 : 0 ≤ kind_0 ∧ kind_0 ≤ 4) (kz_0_15 : 0 ≤ from_0 ∧ from_0 ≤ 2000) : (x1 + 1) ≤ all_0 ((r_0 + 2)) := by
  subst fe_0_5_1
  subst fe_0_11_1
  subst fe_0_12_1
  subst fe_0_15_1
  subst fe_0_5_2
  subst fe_0_11_2
  subst fe_0_12_2
  subst fe_0_15_2
  have e_hE_0_3_1 := funext hE_0_3_1; subst e_hE_0_3_1
  have e_hE_0_3_2 := funext hE_0_3_2; subst e_hE_0_3_2
  have e_hE_0_4_1 := funext hE_0_4_1; subst e_hE_0_4_1
  have e_hE_0_4_2 := funext hE_0_4_2; subst e_hE_0_4_2
  first
    | omega
    | (have q1 := (hE_0_2_1 (r_0 + 2) (by omega)).2 (by omega)
       have q2 := (hE_0_2_2 (r_0 + 2) (by omega)).2 (by omega)
       omega)
    | (have q1 := (hE_0_2_1 (r_0 + 1) (by omega)).2 (by omega)
       have q2 := (hE_0_2_2 (r_0 + 1) (by omega)).2 (by omega)
       omega)
    | (have q1 := (hE_0_2_1 (r_0 + 2) (by omega)).2 (by omega)
       omega)
    | (have q1 := (hE_0_2_1 (r_0 + 1) (by omega)).2 (by omega)
       omega)
    | (have q1 := (hE_0_2_1 (r_0 + 2) (by omega)).2 (by omega)
       have q2 := (hE_0_2_2 (r_0 + 2) (by omega)).2 (by omega)
       have q3 := (hE_0_2_3 (r_0 + 2) (by omega)).1 (by omega)
       omega)
    | (have q1 := (hE_0_2_1 (r_0 + 2) (by omega)).2 (by omega)
       have q2 := (hE_0_2_2 (r_0 + 2) (by omega)).2 (by omega)
       have q3 := (hE_0_2_3 (r_0 + 2) (by omega)).2 (by omega)
       omega)
set_option maxHeartbeats 4000000 in
theorem vc_Mo_met_12_4 (x13 : Int) (x15 : Int) (x16 : Int) (x18 : Int) (x20 : Int) (x21 : Int) (x24 : Int) (from_0 : Int) (pos_0 : Int) (kind_0 : Int) (from_1 : Int) (pos_1 : Int) (r_1 : Int) (kind_1 : Int) (all_2 : Int → Int) (r_0 : Int) (r_2 : Int) (from_2 : Int) (pos_2 : Int) (kind_2 : Int) (now_2 : Int → Int) (latest_2 : Int → Int) (all_0 : Int → Int) (all_1 : Int → Int) (now_0 : Int → Int) (now_1 : Int → Int) (latest_0 : Int → Int) (latest_1 : Int → Int) (k13 : 0 ≤ x13 ∧ x13 ≤ 23) (k15 : 0 ≤ x15 ∧ x15 ≤ 66297) (k16 : 0 ≤ x16 ∧ x16 ≤ 24) (k18 : 1 ≤ x18 ∧ x18 ≤ 24) (k20 : 195 ≤ x20 ∧ x20 ≤ 66492) (k21 : 195 ≤ x21 ∧ x21 ≤ 66515) (k24 : 0 ≤ x24 ∧ x24 ≤ 8) (d4 : x15 + 195 ≤ x20 ∧ x20 ≤ x15 + 195) (d5 : x16 + 1 ≤ x18 ∧ x18 ≤ x16 + 1) (f9 : x21 = x20 + x13) (g11 : x15 = r_1) (h20 : x16 = all_2 (x15)) (f21 : 1 * x13 + ((-1) * all_2 (r_0 + 0) + 0) ≤ 0) (f22 : (-1) * x13 + (1 * all_2 (r_0 + 0) + 0) ≤ 0) (f40 : RWS (r_2) (all_2) (now_2) (latest_2)) (fe_0_5_1 : r_0 = r_1) (fe_0_11_1 : pos_0 = pos_1) (fe_0_12_1 : kind_0 = kind_1) (fe_0_15_1 : from_0 = from_1) (fe_0_5_2 : r_1 = r_2) (fe_0_11_2 : pos_1 = pos_2) (fe_0_12_2 : kind_1 = kind_2) (fe_0_15_2 : from_1 = from_2) (hE_0_2_1 : ∀ j : Int, 0 ≤ j → (j = x21 → all_0 j = x24) ∧ (j ≠ x21 → all_0 j = all_1 j)) (hE_0_2_2 : ∀ j : Int, 0 ≤ j → (j = x15 → all_1 j = x18) ∧ (j ≠ x15 → all_1 j = all_2 j)) (hE_0_3_1 : ∀ j : Int, now_0 j = now_1 j) (hE_0_3_2 : ∀ j : Int, now_1 j = now_2 j) (hE_0_4_1 : ∀ j : Int, latest_0 j = latest_1 j) (hE_0_4_2 : ∀ j : Int, latest_1 j = latest_2 j) (kz_0_11 : 0 ≤ pos_0 ∧ pos_0 ≤ 2000) (kz_0_12 : 0 ≤ kind_0 ∧ kind_0 ≤ 4) (kz_0_15 : 0 ≤ from_0 ∧ from_0 ≤ 2000) : RWN (r_0) (all_0) (now_0) (latest_0) (x13) := by
  subst fe_0_5_1
  subst fe_0_11_1
  subst fe_0_12_1
  subst fe_0_15_1
  subst fe_0_5_2
  subst fe_0_11_2
  subst fe_0_12_2
  subst fe_0_15_2
  have e_hE_0_3_1 := funext hE_0_3_1; subst e_hE_0_3_1
  have e_hE_0_3_2 := funext hE_0_3_2; subst e_hE_0_3_2
  have e_hE_0_4_1 := funext hE_0_4_1; subst e_hE_0_4_1
  have e_hE_0_4_2 := funext hE_0_4_2; subst e_hE_0_4_2
  try simp only [Int.add_zero] at *
  first
    | (exfalso; omega)
    | (have hr := rws_r ‹RWS _ _ _ _›
       have hb := (rws_sg ‹RWS _ _ _ _›).1
       exact rwn_off (rwn_start ‹RWS _ _ _ _› (by assumption) (by omega) (by omega) (by omega) (by omega)) (by assumption) (by omega))
    | (have hr := rwn_r ‹RWN _ _ _ _ _›
       have hb := ‹MEN _ _ _ _›.1
       exact rwn_off ‹RWN _ _ _ _ _› (by assumption) (by omega))
set_option maxHeartbeats 4000000 in
theorem vc_Mo_met_12_5 (x2 : Int) (x11 : Int) (x13 : Int) (x15 : Int) (x16 : Int) (x18 : Int) (x20 : Int) (x21 : Int) (x24 : Int) (from_0 : Int) (pos_0 : Int) (kind_0 : Int) (from_1 : Int) (pos_1 : Int) (r_1 : Int) (kind_1 : Int) (all_2 : Int → Int) (r_0 : Int) (r_2 : Int) (from_2 : Int) (pos_2 : Int) (kind_2 : Int) (now_2 : Int → Int) (latest_2 : Int → Int) (all_0 : Int → Int) (all_1 : Int → Int) (now_0 : Int → Int) (now_1 : Int → Int) (latest_0 : Int → Int) (latest_1 : Int → Int) (k2 : 0 ≤ x2 ∧ x2 ≤ 23) (k11 : 0 ≤ x11 ∧ x11 ≤ 47) (k13 : 0 ≤ x13 ∧ x13 ≤ 23) (k15 : 0 ≤ x15 ∧ x15 ≤ 66297) (k16 : 0 ≤ x16 ∧ x16 ≤ 24) (k18 : 1 ≤ x18 ∧ x18 ≤ 24) (k20 : 195 ≤ x20 ∧ x20 ≤ 66492) (k21 : 195 ≤ x21 ∧ x21 ≤ 66515) (k24 : 0 ≤ x24 ∧ x24 ≤ 8) (d4 : x15 + 195 ≤ x20 ∧ x20 ≤ x15 + 195) (d5 : x16 + 1 ≤ x18 ∧ x18 ≤ x16 + 1) (f9 : x21 = x20 + x13) (g11 : x15 = r_1) (h20 : x16 = all_2 (x15)) (f21 : 1 * x13 + ((-1) * all_2 (r_0 + 0) + 0) ≤ 0) (f22 : (-1) * x13 + (1 * all_2 (r_0 + 0) + 0) ≤ 0) (f25 : 1 * x11 + ((-1) * all_2 (r_0 + 1) + 0) ≤ 0) (f26 : (-1) * x11 + (1 * all_2 (r_0 + 1) + 0) ≤ 0) (f40 : RWS (r_2) (all_2) (now_2) (latest_2)) (f41 : MEB (r_2) (all_2) (x2)) (fe_0_5_1 : r_0 = r_1) (fe_0_11_1 : pos_0 = pos_1) (fe_0_12_1 : kind_0 = kind_1) (fe_0_15_1 : from_0 = from_1) (fe_0_5_2 : r_1 = r_2) (fe_0_11_2 : pos_1 = pos_2) (fe_0_12_2 : kind_1 = kind_2) (fe_0_15_2 : from_1 = from_2) (hE_0_2_1 : ∀ j : Int, 0 ≤ j → (j = x21 → all_0 j = x24) ∧ (j ≠ x21 → all_0 j = all_1 j)) (hE_0_2_2 : ∀ j : Int, 0 ≤ j → (j = x15 → all_1 j = x18) ∧ (j ≠ x15 → all_1 j = all_2 j)) (hE_0_3_1 : ∀ j : Int, now_0 j = now_1 j) (hE_0_3_2 : ∀ j : Int, now_1 j = now_2 j) (hE_0_4_1 : ∀ j : Int, latest_0 j = latest_1 j) (hE_0_4_2 : ∀ j : Int, latest_1 j = latest_2 j) (kz_0_11 : 0 ≤ pos_0 ∧ pos_0 ≤ 2000) (kz_0_12 : 0 ≤ kind_0 ∧ kind_0 ≤ 4) (kz_0_15 : 0 ≤ from_0 ∧ from_0 ≤ 2000) : MEN (r_0) (all_0) (x2) (x13) := by
  subst fe_0_5_1
  subst fe_0_11_1
  subst fe_0_12_1
  subst fe_0_15_1
  subst fe_0_5_2
  subst fe_0_11_2
  subst fe_0_12_2
  subst fe_0_15_2
  have e_hE_0_3_1 := funext hE_0_3_1; subst e_hE_0_3_1
  have e_hE_0_3_2 := funext hE_0_3_2; subst e_hE_0_3_2
  have e_hE_0_4_1 := funext hE_0_4_1; subst e_hE_0_4_1
  have e_hE_0_4_2 := funext hE_0_4_2; subst e_hE_0_4_2
  try simp only [Int.add_zero] at *
  first
    | (exfalso; omega)
    | (have hr := rws_r ‹RWS _ _ _ _›
       have hb := (rws_sg ‹RWS _ _ _ _›).1
       exact men_off (by omega) (men_new ‹RWS _ _ _ _› (by assumption) (by omega) (by omega) (by omega) ‹MEB _ _ _› (by omega)) (by assumption) (by omega))
    | (have hr := rwn_r ‹RWN _ _ _ _ _›
       have hb := ‹MEN _ _ _ _›.1
       exact men_off (by omega) ‹MEN _ _ _ _› (by assumption) (by omega))
def o_Mo_met_12 : or_T := (171, 26, [(0, (2, 0, 0, [165])), (1, (0, 0, 7, [])), (2, (0, 0, 23, [])), (3, (0, 0, 2000, [])), (4, (0, 0, 2000, [])), (6, (0, 1, 1, [])), (7, (0, -1, -1, [])), (9, (0, 0, 23, [])), (10, (0, 24, 24, [])), (11, (0, 0, 47, [])), (12, (0, 48, 48, [])), (13, (0, 0, 23, [])), (14, (2, 0, 0, [167])), (15, (0, 0, 66297, [])), (16, (0, 0, 24, [])), (17, (0, 1, 1, [])), (18, (0, 1, 24, [])), (19, (0, 195, 195, [])), (20, (0, 195, 66492, [])), (21, (0, 195, 66515, [])), (22, (0, 0, 2000, [])), (23, (0, 0, 2000, [])), (24, (0, 0, 8, []))], [(20, [0, 0], [30, 0, 1, 1, 15, -1, 1, 11]), (20, [0], [50, 3, 0, 12, 11, 15, 2, 21, 4, 7, 1, 3, 2, 0, 12, 0, 1, 0, 3, 2, 0, 11, 4, 3, 2, 0, 15, 0, 8, 3, 7, 1, 3, 2, 0, 12, 0, 0, 0, 7, 4, 3, 2, 0, 15, 0, 1, 2, 0, 11]), (20, [3, 0], [30, 0, 1, 0, 0, -1, 1, 11]), (20, [0, 4], [50, 2, 0, 12, 11, 3, 7, 1, 3, 2, 0, 12, 0, 0, 0, 6, 4, 2, 1, 1, 0, 1, 2, 0, 11]), (20, [6, 0], [50, 1, 0, 1012, 4, 6, 1, 2, 1, 0, 0, 1, 1, 3, 2, 1, 12, 0, 1]), (100, [14, 21, 24], []), (2, [24, 22, 23], []), (9, [23, 0], [15]), (9, [22, 0], [11]), (1, [21, 20, 13], []), (1, [20, 15, 19], []), (9, [15, 0], [5]), (9, [14, 0], [2]), (20, [0, 0], [30, 0, 1, 1, 15, -1, 1, 11]), (20, [0], [50, 3, 0, 12, 11, 15, 2, 21, 4, 7, 1, 3, 2, 0, 12, 0, 1, 0, 3, 2, 0, 11, 4, 3, 2, 0, 15, 0, 8, 3, 7, 1, 3, 2, 0, 12, 0, 0, 0, 7, 4, 3, 2, 0, 15, 0, 1, 2, 0, 11]), (20, [3, 0], [30, 0, 1, 0, 0, -1, 1, 11]), (20, [0, 4], [50, 2, 0, 12, 11, 3, 7, 1, 3, 2, 0, 12, 0, 0, 0, 6, 4, 2, 1, 1, 0, 1, 2, 0, 11]), (20, [6, 0], [50, 1, 0, 1012, 4, 6, 1, 2, 1, 0, 0, 1, 1, 3, 2, 1, 12, 0, 1]), (100, [14, 15, 18], []), (1, [18, 16, 17], []), (10, [16, 14, 15], []), (20, [13, 0], [30, 0, 1, 0, 0, -1, 3, 2005000]), (20, [13, 0], [30, 0, -1, 0, 0, 1, 3, 2005000]), (8, [7], [2]), (7, [11, 12], [1]), (20, [11, 0], [30, 0, 1, 0, 0, -1, 3, 2005001]), (20, [11, 0], [30, 0, -1, 0, 0, 1, 3, 2005001]), (8, [2], [3]), (7, [9, 10], [1]), (20, [9, 0], [30, 0, 1, 0, 0, -1, 3, 2005000]), (20, [9, 0], [30, 0, -1, 0, 0, 1, 3, 2005000]), (8, [7], [2]), (8, [7], [2]), (20, [0, 7], [60, 1, 1, 207, 5, 2]), (8, [6], [1]), (20, [0, 0], [30, 0, 1, 1, 15, -1, 1, 11]), (20, [0], [50, 3, 0, 12, 11, 15, 2, 21, 4, 7, 1, 3, 2, 0, 12, 0, 1, 0, 3, 2, 0, 11, 4, 3, 2, 0, 15, 0, 8, 3, 7, 1, 3, 2, 0, 12, 0, 0, 0, 7, 4, 3, 2, 0, 15, 0, 1, 2, 0, 11]), (20, [3, 0], [30, 0, 1, 0, 0, -1, 1, 11]), (20, [0, 4], [50, 2, 0, 12, 11, 3, 7, 1, 3, 2, 0, 12, 0, 0, 0, 6, 4, 2, 1, 1, 0, 1, 2, 0, 11]), (20, [1, 0], [50, 1, 1, 1005, 1002, 0, 6, 4, 2, 1, 0, 0, 1, 3, 1, 2, 4, 3, 2, 1, 5, 0, 2]), (20, [0], [60, 1, 3, 199, 5, 2, 3, 4]), (20, [0, 2], [60, 1, 1, 241, 5, 2]), (20, [6, 0], [50, 1, 0, 1012, 4, 6, 1, 2, 1, 0, 0, 1, 1, 3, 2, 1, 12, 0, 1])], [], [], [(20, [4, 0], [30, -1, 1, 0, 0, -1, 1, 11]), (20, [0], [50, 1, 0, 12, 1, 3, 2, 0, 12, 0, 1]), (20, [2, 0], [50, 1, 1, 1005, 1002, 3, 6, 0, 2, 1, 0, 0, -1, 0, 10, 3, 1, 2, 4, 3, 2, 1, 5, 0, 1, 0, 47]), (20, [1, 0], [50, 1, 1, 1005, 1002, 0, 6, 4, 2, 1, 0, 0, 1, 3, 1, 2, 4, 3, 2, 1, 5, 0, 2]), (20, [0, 13], [60, 1, 3, 200, 5, 2, 3, 4]), (20, [0, 2, 13], [60, 1, 1, 243, 5, 2]), (24, [0, 0], []), (24, [1, 1], []), (24, [2, 2], [])], [], [(24, 22, -2000, 0), (21, 13, 195, 66492), (21, 20, 0, 23), (21, 15, 195, 218), (20, 15, 195, 195), (18, 16, 1, 1)])
theorem oo_Mo_met_12 {kA : Nat → ClassId} : or_ok PRD kA GG o_Mo_met_12 := by
  refine or_mk fun A ta ws vs hD hth hl => ?_
  intro t0 r0 t1 k1 t2 k2 t3 k3 t4 k4 t6 k6 t7 k7 t9 k9 t10 k10 t11 k11 t12 k12 t13 k13 t14 r14 t15 k15 t16 k16 t17 k17 t18 k18 t19 k19 t20 k20 t21 k21 t22 k22 t23 k23 t24 k24 d0 d1 d2 d3 d4 d5 f0 f1 f2 f3 f4 ta1 w1 le1 s1 f6 f7 f8 f9 f10 f11 f12 f13 f14 f15 f16 f17 ta2 w2 le2 s2 f19 f20 f21 f22 f23 f24 f25 f26 f27 f28 f29 f30 f31 f32 f33 f34 f35 f36 f37 f38 f39 f40 f41 f42
  replace f0 := shm_1397 f0
  replace f1 := shm_1398 f1
  replace f2 := shm_1395 f2
  replace f3 := shm_1978 f3
  replace f4 := shm_1762 f4
  have s1 : (∀ b j, w_el ws b j = if b = v_ad (n_v vs 14) ∧ j = (v_iv (n_v vs 21)).toNat then v_iv (n_v vs 24) else w_el w1 b j) ∧ ∀ b k, w_fd ws b k = w_fd w1 b k := s1.2
  replace f6 := shm_14 f6
  replace f7 := shm_189 f7
  replace f8 := shm_117 f8
  replace f9 := shm_12 f9
  replace f10 := shm_12 f10
  replace f11 := shm_109 f11
  replace f12 := shm_129 f12
  replace f13 := shm_1397 f13
  replace f14 := shm_1398 f14
  replace f15 := shm_1395 f15
  replace f16 := shm_1978 f16
  replace f17 := shm_1762 f17
  have s2 : (∀ b j, w_el w1 b j = if b = v_ad (n_v vs 14) ∧ j = (v_iv (n_v vs 15)).toNat then v_iv (n_v vs 18) else w_el w2 b j) ∧ ∀ b k, w_fd w1 b k = w_fd w2 b k := s2.2
  replace f19 := shm_12 f19
  replace f20 := shm_106 f20
  replace f21 := shm_135 f21
  replace f22 := shm_136 f22
  replace f23 := shm_39 f23
  replace f24 := shm_40 f24
  replace f25 := shm_130 f25
  replace f26 := shm_131 f26
  replace f27 := shm_32 f27
  replace f28 := shm_40 f28
  replace f29 := shm_135 f29
  replace f30 := shm_136 f30
  replace f31 := shm_39 f31
  replace f32 := shm_39 f32
  replace f33 := shm_1200 f33
  replace f34 := shm_154 f34
  replace f35 := shm_1397 f35
  replace f36 := shm_1398 f36
  replace f37 := shm_1395 f37
  replace f38 := shm_1978 f38
  replace f39 := shm_981 f39
  replace f40 := shm_952 f40
  replace f41 := shm_1979 f41
  replace f42 := shm_1762 f42
  have ar_0_2_1 : w_ar w1 (n_v vs 0) 2 = w_ar ws (n_v vs 0) 2 := congrArg v_ad (s1.2 _ _).symm
  have ar_0_2_2 : w_ar w2 (n_v vs 0) 2 = w_ar ws (n_v vs 0) 2 := by rw [← ar_0_2_1]; show v_ad (w_fd w2 _ _) = v_ad (w_fd w1 _ _); rw [s2.2]
  have cr_0_2 := fdq_12 hD hth r0
  have ar_0_3_1 : w_ar w1 (n_v vs 0) 3 = w_ar ws (n_v vs 0) 3 := congrArg v_ad (s1.2 _ _).symm
  have ar_0_3_2 : w_ar w2 (n_v vs 0) 3 = w_ar ws (n_v vs 0) 3 := by rw [← ar_0_3_1]; show v_ad (w_fd w2 _ _) = v_ad (w_fd w1 _ _); rw [s2.2]
  have cr_0_3 := fdq_141 hD hth r0
  have ar_0_4_1 : w_ar w1 (n_v vs 0) 4 = w_ar ws (n_v vs 0) 4 := congrArg v_ad (s1.2 _ _).symm
  have ar_0_4_2 : w_ar w2 (n_v vs 0) 4 = w_ar ws (n_v vs 0) 4 := by rw [← ar_0_4_1]; show v_ad (w_fd w2 _ _) = v_ad (w_fd w1 _ _); rw [s2.2]
  have cr_0_4 := fdq_142 hD hth r0
  have fi_0_5_1 : w_fi w1 (n_v vs 0) 5 = w_fi ws (n_v vs 0) 5 := by show v_iv (w_fd w1 _ _) = v_iv (w_fd ws _ _); rw [s1.2]
  have fi_0_5_2 : w_fi w2 (n_v vs 0) 5 = w_fi ws (n_v vs 0) 5 := by rw [← fi_0_5_1]; show v_iv (w_fd w2 _ _) = v_iv (w_fd w1 _ _); rw [s2.2]
  have ad_14 : v_ad (n_v vs 14) = w_ar ws (n_v vs 0) 2 := (congrArg v_ad f12).trans ar_0_2_1
  have g7 : v_iv (n_v vs 23) = w_fi w1 (n_v vs 0) 15 := congrArg v_iv f7
  have g8 : v_iv (n_v vs 22) = w_fi w1 (n_v vs 0) 11 := congrArg v_iv f8
  have g11 : v_iv (n_v vs 15) = w_fi w1 (n_v vs 0) 5 := congrArg v_iv f11
  simp only [ad_14] at f20
  have h20 : v_iv (n_v vs 16) = w_ei w2 (w_ar ws (n_v vs 0) 2) (v_iv (n_v vs 15)) := f20
  simp only [ar_0_2_2, ar_0_3_2, ar_0_4_2] at f21 f22 f25 f26 f29 f30 f33 f39 f40 f41
  simp only [fi_0_5_2] at f21 f22 f25 f26 f29 f30
  have fe_0_5_1 : w_fi ws (n_v vs 0) 5 = w_fi w1 (n_v vs 0) 5 := congrArg v_iv (s1.2 _ _)
  have fe_0_11_1 : w_fi ws (n_v vs 0) 11 = w_fi w1 (n_v vs 0) 11 := congrArg v_iv (s1.2 _ _)
  have fe_0_12_1 : w_fi ws (n_v vs 0) 12 = w_fi w1 (n_v vs 0) 12 := congrArg v_iv (s1.2 _ _)
  have fe_0_15_1 : w_fi ws (n_v vs 0) 15 = w_fi w1 (n_v vs 0) 15 := congrArg v_iv (s1.2 _ _)
  have fe_0_5_2 : w_fi w1 (n_v vs 0) 5 = w_fi w2 (n_v vs 0) 5 := congrArg v_iv (s2.2 _ _)
  have fe_0_11_2 : w_fi w1 (n_v vs 0) 11 = w_fi w2 (n_v vs 0) 11 := congrArg v_iv (s2.2 _ _)
  have fe_0_12_2 : w_fi w1 (n_v vs 0) 12 = w_fi w2 (n_v vs 0) 12 := congrArg v_iv (s2.2 _ _)
  have fe_0_15_2 : w_fi w1 (n_v vs 0) 15 = w_fi w2 (n_v vs 0) 15 := congrArg v_iv (s2.2 _ _)
  have hE_0_2_1 : ∀ j : Int, 0 ≤ j → (j = v_iv (n_v vs 21) → w_ei ws (w_ar ws (n_v vs 0) 2) j = v_iv (n_v vs 24)) ∧ (j ≠ v_iv (n_v vs 21) → w_ei ws (w_ar ws (n_v vs 0) 2) j = w_ei w1 (w_ar ws (n_v vs 0) 2) j) := fun j hj => ⟨fun h => by unfold w_ei; rw [s1.1, if_pos ⟨ad_14.symm, by rw [h]⟩], fun h => by unfold w_ei; rw [s1.1, if_neg (fun e => h (by have := e.2; omega))]⟩
  have hE_0_2_2 : ∀ j : Int, 0 ≤ j → (j = v_iv (n_v vs 15) → w_ei w1 (w_ar ws (n_v vs 0) 2) j = v_iv (n_v vs 18)) ∧ (j ≠ v_iv (n_v vs 15) → w_ei w1 (w_ar ws (n_v vs 0) 2) j = w_ei w2 (w_ar ws (n_v vs 0) 2) j) := fun j hj => ⟨fun h => by unfold w_ei; rw [s2.1, if_pos ⟨ad_14.symm, by rw [h]⟩], fun h => by unfold w_ei; rw [s2.1, if_neg (fun e => h (by have := e.2; omega))]⟩
  have hE_0_3_1 : ∀ j : Int, w_ei ws (w_ar ws (n_v vs 0) 3) j = w_ei w1 (w_ar ws (n_v vs 0) 3) j := el_kp s1.1 r14 cr_0_3 (by decide)
  have hE_0_3_2 : ∀ j : Int, w_ei w1 (w_ar ws (n_v vs 0) 3) j = w_ei w2 (w_ar ws (n_v vs 0) 3) j := el_kp s2.1 r14 cr_0_3 (by decide)
  have hK_0_3 := elq_77 hD hth cr_0_3
  have hE_0_4_1 : ∀ j : Int, w_ei ws (w_ar ws (n_v vs 0) 4) j = w_ei w1 (w_ar ws (n_v vs 0) 4) j := el_kp s1.1 r14 cr_0_4 (by decide)
  have hE_0_4_2 : ∀ j : Int, w_ei w1 (w_ar ws (n_v vs 0) 4) j = w_ei w2 (w_ar ws (n_v vs 0) 4) j := el_kp s2.1 r14 cr_0_4 (by decide)
  have hK_0_4 := elq_78 hD hth cr_0_4
  have kz_0_11 := fdq_273 hD hth r0
  have kz_0_12 := fdq_186 hD hth r0
  have kz_0_15 := fdq_274 hD hth r0
  first | have hJ0 : w_ei w2 (w_ar ws (n_v vs 0) 2) ((w_fi w2 (n_v vs 0) 5 + 2)) = w_ei w2 (w_ar ws (n_v vs 0) 2) ((w_fi ws (n_v vs 0) 5 + 2)) := congrArg _ (show ((w_fi w2 (n_v vs 0) 5 + 2) : Int) = (w_fi ws (n_v vs 0) 5 + 2) from by omega) | skip
  first | have hI1 := (hE_0_2_1 ((w_fi ws (n_v vs 0) 5 + 2)) (by omega)).2 (by omega) | have hI1 := (hE_0_2_1 ((w_fi ws (n_v vs 0) 5 + 2)) (by omega)).1 (by omega) | skip
  first | have hI2 := (hE_0_2_2 ((w_fi ws (n_v vs 0) 5 + 2)) (by omega)).2 (by omega) | have hI2 := (hE_0_2_2 ((w_fi ws (n_v vs 0) 5 + 2)) (by omega)).1 (by omega) | skip
  first | have hI3 := (hE_0_2_1 ((w_fi ws (n_v vs 0) 5 + 1)) (by omega)).2 (by omega) | have hI3 := (hE_0_2_1 ((w_fi ws (n_v vs 0) 5 + 1)) (by omega)).1 (by omega) | skip
  first | have hI4 := (hE_0_2_2 ((w_fi ws (n_v vs 0) 5 + 1)) (by omega)).2 (by omega) | have hI4 := (hE_0_2_2 ((w_fi ws (n_v vs 0) 5 + 1)) (by omega)).1 (by omega) | skip
  have nf0 : fc_1 PRD (20, [4, 0], [30, -1, 1, 0, 0, -1, 1, 11]) ws (vs) := ⟨nf_in hl rfl, sgq_1891 (vc_Mo_met_12_0 (v_iv (n_v vs 4)) (v_iv (n_v vs 6)) (v_iv (n_v vs 15)) (v_iv (n_v vs 18)) (v_iv (n_v vs 21)) (v_iv (n_v vs 24)) (w_fi ws (n_v vs 0) 15) (w_fi ws (n_v vs 0) 11) (w_fi ws (n_v vs 0) 12) (w_fi w1 (n_v vs 0) 15) (w_fi w1 (n_v vs 0) 11) (w_fi w1 (n_v vs 0) 5) (w_fi w1 (n_v vs 0) 12) (w_ei w2 (w_ar ws (n_v vs 0) 2)) (w_fi ws (n_v vs 0) 5) (w_fi w2 (n_v vs 0) 5) (w_fi w2 (n_v vs 0) 15) (w_fi w2 (n_v vs 0) 11) (w_fi w2 (n_v vs 0) 12) (w_ei w2 (w_ar ws (n_v vs 0) 3)) (w_ei w2 (w_ar ws (n_v vs 0) 4)) (w_ei ws (w_ar ws (n_v vs 0) 2)) (w_ei w1 (w_ar ws (n_v vs 0) 2)) (w_ei ws (w_ar ws (n_v vs 0) 3)) (w_ei w1 (w_ar ws (n_v vs 0) 3)) (w_ei ws (w_ar ws (n_v vs 0) 4)) (w_ei w1 (w_ar ws (n_v vs 0) 4)) k4 k6 k15 k18 k21 k24 f36 f38 f42 fe_0_5_1 fe_0_11_1 fe_0_12_1 fe_0_15_1 fe_0_5_2 fe_0_11_2 fe_0_12_2 fe_0_15_2 hE_0_2_1 hE_0_2_2 hE_0_3_1 hE_0_3_2 hE_0_4_1 hE_0_4_2 kz_0_11 kz_0_12 kz_0_15)⟩
  have nf1 : fc_1 PRD (20, [0], [50, 1, 0, 12, 1, 3, 2, 0, 12, 0, 1]) ws (vs) := ⟨nf_in hl rfl, sgq_1791 (vc_Mo_met_12_1 (v_iv (n_v vs 4)) (v_iv (n_v vs 6)) (v_iv (n_v vs 15)) (v_iv (n_v vs 18)) (v_iv (n_v vs 21)) (v_iv (n_v vs 24)) (w_fi ws (n_v vs 0) 15) (w_fi ws (n_v vs 0) 11) (w_fi ws (n_v vs 0) 12) (w_fi w1 (n_v vs 0) 15) (w_fi w1 (n_v vs 0) 11) (w_fi w1 (n_v vs 0) 5) (w_fi w1 (n_v vs 0) 12) (w_ei w2 (w_ar ws (n_v vs 0) 2)) (w_fi ws (n_v vs 0) 5) (w_fi w2 (n_v vs 0) 5) (w_fi w2 (n_v vs 0) 15) (w_fi w2 (n_v vs 0) 11) (w_fi w2 (n_v vs 0) 12) (w_ei w2 (w_ar ws (n_v vs 0) 3)) (w_ei w2 (w_ar ws (n_v vs 0) 4)) (w_ei ws (w_ar ws (n_v vs 0) 2)) (w_ei w1 (w_ar ws (n_v vs 0) 2)) (w_ei ws (w_ar ws (n_v vs 0) 3)) (w_ei w1 (w_ar ws (n_v vs 0) 3)) (w_ei ws (w_ar ws (n_v vs 0) 4)) (w_ei w1 (w_ar ws (n_v vs 0) 4)) k4 k6 k15 k18 k21 k24 f36 f38 f42 fe_0_5_1 fe_0_11_1 fe_0_12_1 fe_0_15_1 fe_0_5_2 fe_0_11_2 fe_0_12_2 fe_0_15_2 hE_0_2_1 hE_0_2_2 hE_0_3_1 hE_0_3_2 hE_0_4_1 hE_0_4_2 kz_0_11 kz_0_12 kz_0_15)⟩
  have nf2 : fc_1 PRD (20, [2, 0], [50, 1, 1, 1005, 1002, 3, 6, 0, 2, 1, 0, 0, -1, 0, 10, 3, 1, 2, 4, 3, 2, 1, 5, 0, 1, 0, 47]) ws (vs) := ⟨nf_in hl rfl, sgq_1980 (vc_Mo_met_12_2 (v_iv (n_v vs 2)) (v_iv (n_v vs 9)) (v_iv (n_v vs 11)) (v_iv (n_v vs 13)) (v_iv (n_v vs 15)) (v_iv (n_v vs 18)) (v_iv (n_v vs 20)) (v_iv (n_v vs 21)) (v_iv (n_v vs 24)) (w_fi ws (n_v vs 0) 15) (w_fi ws (n_v vs 0) 11) (w_fi ws (n_v vs 0) 12) (w_fi w1 (n_v vs 0) 15) (w_fi w1 (n_v vs 0) 11) (w_fi w1 (n_v vs 0) 5) (w_fi w1 (n_v vs 0) 12) (w_ei w2 (w_ar ws (n_v vs 0) 2)) (w_fi ws (n_v vs 0) 5) (w_fi w2 (n_v vs 0) 5) (w_fi w2 (n_v vs 0) 15) (w_fi w2 (n_v vs 0) 11) (w_fi w2 (n_v vs 0) 12) (w_ei w2 (w_ar ws (n_v vs 0) 3)) (w_ei w2 (w_ar ws (n_v vs 0) 4)) (w_ei ws (w_ar ws (n_v vs 0) 2)) (w_ei w1 (w_ar ws (n_v vs 0) 2)) (w_ei ws (w_ar ws (n_v vs 0) 3)) (w_ei w1 (w_ar ws (n_v vs 0) 3)) (w_ei ws (w_ar ws (n_v vs 0) 4)) (w_ei w1 (w_ar ws (n_v vs 0) 4)) k2 k9 k11 k13 k15 k18 k20 k21 k24 d4 f9 g11 f21 f22 f25 f26 f29 f30 fe_0_5_1 fe_0_11_1 fe_0_12_1 fe_0_15_1 fe_0_5_2 fe_0_11_2 fe_0_12_2 fe_0_15_2 hE_0_2_1 hE_0_2_2 hE_0_3_1 hE_0_3_2 hE_0_4_1 hE_0_4_2 kz_0_11 kz_0_12 kz_0_15)⟩
  have nf3 : fc_1 PRD (20, [1, 0], [50, 1, 1, 1005, 1002, 0, 6, 4, 2, 1, 0, 0, 1, 3, 1, 2, 4, 3, 2, 1, 5, 0, 2]) ws (vs) := ⟨nf_in hl rfl, sgq_981 (vc_Mo_met_12_3 (v_iv (n_v vs 1)) (v_iv (n_v vs 9)) (v_iv (n_v vs 13)) (v_iv (n_v vs 15)) (v_iv (n_v vs 18)) (v_iv (n_v vs 20)) (v_iv (n_v vs 21)) (v_iv (n_v vs 24)) (w_fi ws (n_v vs 0) 15) (w_fi ws (n_v vs 0) 11) (w_fi ws (n_v vs 0) 12) (w_fi w1 (n_v vs 0) 15) (w_fi w1 (n_v vs 0) 11) (w_fi w1 (n_v vs 0) 5) (w_fi w1 (n_v vs 0) 12) (w_ei w2 (w_ar ws (n_v vs 0) 2)) (w_fi ws (n_v vs 0) 5) (w_fi w2 (n_v vs 0) 5) (w_fi w2 (n_v vs 0) 15) (w_fi w2 (n_v vs 0) 11) (w_fi w2 (n_v vs 0) 12) (w_ei w2 (w_ar ws (n_v vs 0) 3)) (w_ei w2 (w_ar ws (n_v vs 0) 4)) (w_ei ws (w_ar ws (n_v vs 0) 2)) (w_ei w1 (w_ar ws (n_v vs 0) 2)) (w_ei ws (w_ar ws (n_v vs 0) 3)) (w_ei w1 (w_ar ws (n_v vs 0) 3)) (w_ei ws (w_ar ws (n_v vs 0) 4)) (w_ei w1 (w_ar ws (n_v vs 0) 4)) k1 k9 k13 k15 k18 k20 k21 k24 d4 f9 g11 f21 f22 f29 f30 f39 fe_0_5_1 fe_0_11_1 fe_0_12_1 fe_0_15_1 fe_0_5_2 fe_0_11_2 fe_0_12_2 fe_0_15_2 hE_0_2_1 hE_0_2_2 hE_0_3_1 hE_0_3_2 hE_0_4_1 hE_0_4_2 kz_0_11 kz_0_12 kz_0_15)⟩
  have nf4 : fc_1 PRD (20, [0, 13], [60, 1, 3, 200, 5, 2, 3, 4]) ws (vs) := ⟨nf_in hl rfl, sgq_1718 (vc_Mo_met_12_4 (v_iv (n_v vs 13)) (v_iv (n_v vs 15)) (v_iv (n_v vs 16)) (v_iv (n_v vs 18)) (v_iv (n_v vs 20)) (v_iv (n_v vs 21)) (v_iv (n_v vs 24)) (w_fi ws (n_v vs 0) 15) (w_fi ws (n_v vs 0) 11) (w_fi ws (n_v vs 0) 12) (w_fi w1 (n_v vs 0) 15) (w_fi w1 (n_v vs 0) 11) (w_fi w1 (n_v vs 0) 5) (w_fi w1 (n_v vs 0) 12) (w_ei w2 (w_ar ws (n_v vs 0) 2)) (w_fi ws (n_v vs 0) 5) (w_fi w2 (n_v vs 0) 5) (w_fi w2 (n_v vs 0) 15) (w_fi w2 (n_v vs 0) 11) (w_fi w2 (n_v vs 0) 12) (w_ei w2 (w_ar ws (n_v vs 0) 3)) (w_ei w2 (w_ar ws (n_v vs 0) 4)) (w_ei ws (w_ar ws (n_v vs 0) 2)) (w_ei w1 (w_ar ws (n_v vs 0) 2)) (w_ei ws (w_ar ws (n_v vs 0) 3)) (w_ei w1 (w_ar ws (n_v vs 0) 3)) (w_ei ws (w_ar ws (n_v vs 0) 4)) (w_ei w1 (w_ar ws (n_v vs 0) 4)) k13 k15 k16 k18 k20 k21 k24 d4 d5 f9 g11 h20 f21 f22 f40 fe_0_5_1 fe_0_11_1 fe_0_12_1 fe_0_15_1 fe_0_5_2 fe_0_11_2 fe_0_12_2 fe_0_15_2 hE_0_2_1 hE_0_2_2 hE_0_3_1 hE_0_3_2 hE_0_4_1 hE_0_4_2 kz_0_11 kz_0_12 kz_0_15)⟩
  have nf5 : fc_1 PRD (20, [0, 2, 13], [60, 1, 1, 243, 5, 2]) ws (vs) := ⟨nf_in hl rfl, sgq_1981 (vc_Mo_met_12_5 (v_iv (n_v vs 2)) (v_iv (n_v vs 11)) (v_iv (n_v vs 13)) (v_iv (n_v vs 15)) (v_iv (n_v vs 16)) (v_iv (n_v vs 18)) (v_iv (n_v vs 20)) (v_iv (n_v vs 21)) (v_iv (n_v vs 24)) (w_fi ws (n_v vs 0) 15) (w_fi ws (n_v vs 0) 11) (w_fi ws (n_v vs 0) 12) (w_fi w1 (n_v vs 0) 15) (w_fi w1 (n_v vs 0) 11) (w_fi w1 (n_v vs 0) 5) (w_fi w1 (n_v vs 0) 12) (w_ei w2 (w_ar ws (n_v vs 0) 2)) (w_fi ws (n_v vs 0) 5) (w_fi w2 (n_v vs 0) 5) (w_fi w2 (n_v vs 0) 15) (w_fi w2 (n_v vs 0) 11) (w_fi w2 (n_v vs 0) 12) (w_ei w2 (w_ar ws (n_v vs 0) 3)) (w_ei w2 (w_ar ws (n_v vs 0) 4)) (w_ei ws (w_ar ws (n_v vs 0) 2)) (w_ei w1 (w_ar ws (n_v vs 0) 2)) (w_ei ws (w_ar ws (n_v vs 0) 3)) (w_ei w1 (w_ar ws (n_v vs 0) 3)) (w_ei ws (w_ar ws (n_v vs 0) 4)) (w_ei w1 (w_ar ws (n_v vs 0) 4)) k2 k11 k13 k15 k16 k18 k20 k21 k24 d4 d5 f9 g11 h20 f21 f22 f25 f26 f40 f41 fe_0_5_1 fe_0_11_1 fe_0_12_1 fe_0_15_1 fe_0_5_2 fe_0_11_2 fe_0_12_2 fe_0_15_2 hE_0_2_1 hE_0_2_2 hE_0_3_1 hE_0_3_2 hE_0_4_1 hE_0_4_2 kz_0_11 kz_0_12 kz_0_15)⟩
  have nf6 : fc_1 PRD (24, [0, 0], []) ws (vs) := by
    refine ⟨nf_in hl rfl, sgq_1 ?_⟩
    · show n_v vs 0 = n_v vs 0
      first | rfl | simp only [true_and]
  have nf7 : fc_1 PRD (24, [1, 1], []) ws (vs) := by
    refine ⟨nf_in hl rfl, sgq_1 ?_⟩
    · show n_v vs 1 = n_v vs 1
      first | rfl | simp only [true_and]
  have nf8 : fc_1 PRD (24, [2, 2], []) ws (vs) := by
    refine ⟨nf_in hl rfl, sgq_1 ?_⟩
    · show n_v vs 2 = n_v vs 2
      first | rfl | simp only [true_and]
  refine ⟨(fun _ h => (by cases h)), [], trivial, ?_, (fun _ h => (by cases h))⟩
  rw [List.append_nil]
  exact List.forall_mem_cons.mpr ⟨⟨show (20 : Nat) < 100 from by decide, nf0⟩, List.forall_mem_cons.mpr ⟨⟨show (20 : Nat) < 100 from by decide, nf1⟩, List.forall_mem_cons.mpr ⟨⟨show (20 : Nat) < 100 from by decide, nf2⟩, List.forall_mem_cons.mpr ⟨⟨show (20 : Nat) < 100 from by decide, nf3⟩, List.forall_mem_cons.mpr ⟨⟨show (20 : Nat) < 100 from by decide, nf4⟩, List.forall_mem_cons.mpr ⟨⟨show (20 : Nat) < 100 from by decide, nf5⟩, List.forall_mem_cons.mpr ⟨⟨show (24 : Nat) < 100 from by decide, nf6⟩, List.forall_mem_cons.mpr ⟨⟨show (24 : Nat) < 100 from by decide, nf7⟩, List.forall_mem_cons.mpr ⟨⟨show (24 : Nat) < 100 from by decide, nf8⟩, (fun _ h => (by cases h))⟩⟩⟩⟩⟩⟩⟩⟩⟩
set_option maxHeartbeats 4000000 in
theorem vc_Mo_met_13_r0 (x15 : Int) (x16 : Int) (r_0 : Int) (fault_0 : Int) (k15 : 0 ≤ x15 ∧ x15 ≤ 0) (k16 : 0 ≤ x16 ∧ x16 ≤ 24) (g4 : x15 = fault_0) (f18 : (-1) * fault_0 + 0 ≤ (-1)) (kz_0_8 : 0 ≤ fault_0 ∧ fault_0 ≤ 5) : 0 ≤ x16 ∧ x16 ≤ 23 := by
  first
    | omega
    | (have q1 := (hE_0_2_1 (r_0 + 2) (by omega)).2 (by omega)
       have q2 := (hE_0_2_2 (r_0 + 2) (by omega)).2 (by omega)
       omega)
    | (have q1 := (hE_0_2_1 (r_0 + 1) (by omega)).2 (by omega)
       have q2 := (hE_0_2_2 (r_0 + 1) (by omega)).2 (by omega)
       omega)
    | (have q1 := (hE_0_2_1 (r_0 + 2) (by omega)).2 (by omega)
       omega)
    | (have q1 := (hE_0_2_1 (r_0 + 1) (by omega)).2 (by omega)
       omega)
    | (have q1 := (hE_0_2_1 (r_0 + 2) (by omega)).2 (by omega)
       have q2 := (hE_0_2_2 (r_0 + 2) (by omega)).2 (by omega)
       have q3 := (hE_0_2_3 (r_0 + 2) (by omega)).1 (by omega)
       omega)
    | (have q1 := (hE_0_2_1 (r_0 + 2) (by omega)).2 (by omega)
       have q2 := (hE_0_2_2 (r_0 + 2) (by omega)).2 (by omega)
       have q3 := (hE_0_2_3 (r_0 + 2) (by omega)).2 (by omega)
       omega)
def o_Mo_met_13 : or_T := (130, 17, [(0, (2, 0, 0, [165])), (1, (0, 0, 7, [])), (2, (0, 0, 23, [])), (3, (0, 0, 2000, [])), (4, (0, 0, 2000, [])), (6, (0, 1, 1, [])), (7, (0, -1, -1, [])), (9, (0, 0, 23, [])), (10, (0, 24, 24, [])), (11, (0, 48, 48, [])), (12, (0, 48, 48, [])), (15, (0, 0, 0, [])), (16, (0, 0, 24, []))], [(20, [16, 0], [30, 0, 1, 0, 0, -1, 3, 2005000]), (20, [16, 0], [30, 0, -1, 0, 0, 1, 3, 2005000]), (8, [7], [2]), (8, [15], [5]), (9, [15, 0], [8]), (20, [11, 0], [30, 0, 1, 0, 0, -1, 3, 2005001]), (20, [11, 0], [30, 0, -1, 0, 0, 1, 3, 2005001]), (20, [9, 0], [30, 0, 1, 0, 0, -1, 3, 2005000]), (20, [9, 0], [30, 0, -1, 0, 0, 1, 3, 2005000]), (20, [0, 7], [60, 1, 1, 207, 5, 2]), (20, [0, 0], [30, 0, 1, 1, 15, -1, 1, 11]), (20, [0], [50, 3, 0, 12, 11, 15, 2, 21, 4, 7, 1, 3, 2, 0, 12, 0, 1, 0, 3, 2, 0, 11, 4, 3, 2, 0, 15, 0, 8, 3, 7, 1, 3, 2, 0, 12, 0, 0, 0, 7, 4, 3, 2, 0, 15, 0, 1, 2, 0, 11]), (20, [3, 0], [30, 0, 1, 0, 0, -1, 1, 11]), (20, [0, 4], [50, 2, 0, 12, 11, 3, 7, 1, 3, 2, 0, 12, 0, 0, 0, 6, 4, 2, 1, 1, 0, 1, 2, 0, 11]), (20, [1, 0], [50, 1, 1, 1005, 1002, 0, 6, 4, 2, 1, 0, 0, 1, 3, 1, 2, 4, 3, 2, 1, 5, 0, 2]), (20, [0], [60, 1, 3, 199, 5, 2, 3, 4]), (20, [0, 2], [60, 1, 1, 241, 5, 2]), (20, [6, 0], [50, 1, 0, 1012, 4, 6, 1, 2, 1, 0, 0, 1, 1, 3, 2, 1, 12, 0, 1]), (20, [0], [30, -1, -1, 1, 8]), (102, [14], [0, 165008, 165009]), (7, [11, 12], [0]), (8, [2], [3]), (7, [9, 10], [1]), (8, [7], [2]), (8, [7], [2]), (8, [6], [1])], [(16, (0, 0, 23, []))], [], [], [], [])
theorem oo_Mo_met_13 {kA : Nat → ClassId} : or_ok PRD kA GG o_Mo_met_13 := by
  refine or_mk fun A ta ws vs hD hth hl => ?_
  intro t0 r0 t1 k1 t2 k2 t3 k3 t4 k4 t6 k6 t7 k7 t9 k9 t10 k10 t11 k11 t12 k12 t15 k15 t16 k16 f0 f1 f2 f3 f4 f5 f6 f7 f8 f9 f10 f11 f12 f13 f14 f15 f16 f17 f18 ta1 w1 le1 s1 f20 f21 f22 f23 f24 f25
  replace f4 := shm_143 f4
  have g4 : v_iv (n_v vs 15) = w_fi ws (n_v vs 0) 8 := congrArg v_iv f4
  have kz_0_8 := fdq_14 hD hth r0
  have hrf0 : 0 ≤ v_iv (n_v vs 16) ∧ v_iv (n_v vs 16) ≤ 23 := vc_Mo_met_13_r0 (v_iv (n_v vs 15)) (v_iv (n_v vs 16)) (w_fi ws (n_v vs 0) 5) (w_fi ws (n_v vs 0) 8) k15 k16 g4 (shm_144 f18) kz_0_8
  have rf16 : tv_ok ta (0, 0, 23, []) (n_v vs 16) := tv_in t16 (by first | omega | grind) (by first | omega | grind)
  refine ⟨List.forall_mem_cons.mpr ⟨rf16, (fun _ h => (by cases h))⟩, [], trivial, ?_, (fun _ h => (by cases h))⟩
  rw [List.append_nil]
  exact (fun _ h => (by cases h))
set_option maxHeartbeats 4000000 in
theorem vc_Mo_met_14_r0 (x15 : Int) (x18 : Int) (x19 : Int) (x21 : Int) (all_0 : Int → Int) (r_0 : Int) (fault_0 : Int) (k15 : 0 ≤ x15 ∧ x15 ≤ 0) (k18 : 0 ≤ x18 ∧ x18 ≤ 66297) (k19 : 0 ≤ x19 ∧ x19 ≤ 24) (k21 : 1 ≤ x21 ∧ x21 ≤ 25) (h1 : x19 = all_0 (x18)) (g8 : x15 = fault_0) (f22 : (-1) * fault_0 + 0 ≤ (-1)) (kz_0_8 : 0 ≤ fault_0 ∧ fault_0 ≤ 5) : 1 ≤ x21 ∧ x21 ≤ 24 := by
  first
    | omega
    | (have hb := (rws_sg ‹RWS _ _ _ _›).1
       have e : x13 = r_0 := by omega
       rw [e] at h1
       simp only [Int.add_zero] at *
       omega)
    | (have hb := (rws_sg ‹RWS _ _ _ _›).1
       have e : x15 = r_0 := by omega
       rw [e] at h1
       simp only [Int.add_zero] at *
       omega)
def o_Mo_met_14 : or_T := (143, 22, [(0, (2, 0, 0, [165])), (1, (0, 0, 7, [])), (2, (0, 0, 23, [])), (3, (0, 0, 2000, [])), (4, (0, 0, 2000, [])), (6, (0, 1, 1, [])), (7, (0, -1, -1, [])), (9, (0, 0, 23, [])), (10, (0, 24, 24, [])), (11, (0, 48, 48, [])), (12, (0, 48, 48, [])), (15, (0, 0, 0, [])), (16, (0, 0, 23, [])), (17, (2, 0, 0, [167])), (18, (0, 0, 66297, [])), (19, (0, 0, 24, [])), (20, (0, 1, 1, [])), (21, (0, 1, 25, []))], [(1, [21, 19, 20], []), (10, [19, 17, 18], []), (9, [18, 0], [5]), (9, [17, 0], [2]), (20, [16, 0], [30, 0, 1, 0, 0, -1, 3, 2005000]), (20, [16, 0], [30, 0, -1, 0, 0, 1, 3, 2005000]), (8, [7], [2]), (8, [15], [5]), (9, [15, 0], [8]), (20, [11, 0], [30, 0, 1, 0, 0, -1, 3, 2005001]), (20, [11, 0], [30, 0, -1, 0, 0, 1, 3, 2005001]), (20, [9, 0], [30, 0, 1, 0, 0, -1, 3, 2005000]), (20, [9, 0], [30, 0, -1, 0, 0, 1, 3, 2005000]), (20, [0, 7], [60, 1, 1, 207, 5, 2]), (20, [0, 0], [30, 0, 1, 1, 15, -1, 1, 11]), (20, [0], [50, 3, 0, 12, 11, 15, 2, 21, 4, 7, 1, 3, 2, 0, 12, 0, 1, 0, 3, 2, 0, 11, 4, 3, 2, 0, 15, 0, 8, 3, 7, 1, 3, 2, 0, 12, 0, 0, 0, 7, 4, 3, 2, 0, 15, 0, 1, 2, 0, 11]), (20, [3, 0], [30, 0, 1, 0, 0, -1, 1, 11]), (20, [0, 4], [50, 2, 0, 12, 11, 3, 7, 1, 3, 2, 0, 12, 0, 0, 0, 6, 4, 2, 1, 1, 0, 1, 2, 0, 11]), (20, [1, 0], [50, 1, 1, 1005, 1002, 0, 6, 4, 2, 1, 0, 0, 1, 3, 1, 2, 4, 3, 2, 1, 5, 0, 2]), (20, [0], [60, 1, 3, 199, 5, 2, 3, 4]), (20, [0, 2], [60, 1, 1, 241, 5, 2]), (20, [6, 0], [50, 1, 0, 1012, 4, 6, 1, 2, 1, 0, 0, 1, 1, 3, 2, 1, 12, 0, 1]), (20, [0], [30, -1, -1, 1, 8]), (102, [14], [0, 165008, 165009]), (7, [11, 12], [0]), (8, [2], [3]), (7, [9, 10], [1]), (8, [7], [2]), (8, [7], [2]), (8, [6], [1])], [(21, (0, 1, 24, []))], [], [], [], [(21, 19, 1, 1)])
theorem oo_Mo_met_14 {kA : Nat → ClassId} : or_ok PRD kA GG o_Mo_met_14 := by
  refine or_mk fun A ta ws vs hD hth hl => ?_
  intro t0 r0 t1 k1 t2 k2 t3 k3 t4 k4 t6 k6 t7 k7 t9 k9 t10 k10 t11 k11 t12 k12 t15 k15 t16 k16 t17 r17 t18 k18 t19 k19 t20 k20 t21 k21 d0 f0 f1 f2 f3 f4 f5 f6 f7 f8 f9 f10 f11 f12 f13 f14 f15 f16 f17 f18 f19 f20 f21 f22 ta1 w1 le1 s1 f24 f25 f26 f27 f28 f29
  replace f1 := shm_106 f1
  replace f3 := shm_129 f3
  replace f8 := shm_143 f8
  have ad_17 : v_ad (n_v vs 17) = w_ar ws (n_v vs 0) 2 := congrArg v_ad f3
  simp only [ad_17] at f1
  have h1 : v_iv (n_v vs 19) = w_ei ws (w_ar ws (n_v vs 0) 2) (v_iv (n_v vs 18)) := f1
  have g8 : v_iv (n_v vs 15) = w_fi ws (n_v vs 0) 8 := congrArg v_iv f8
  have kz_0_8 := fdq_14 hD hth r0
  have hrf0 : 1 ≤ v_iv (n_v vs 21) ∧ v_iv (n_v vs 21) ≤ 24 := vc_Mo_met_14_r0 (v_iv (n_v vs 15)) (v_iv (n_v vs 18)) (v_iv (n_v vs 19)) (v_iv (n_v vs 21)) (w_ei ws (w_ar ws (n_v vs 0) 2)) (w_fi ws (n_v vs 0) 5) (w_fi ws (n_v vs 0) 8) k15 k18 k19 k21 h1 g8 (shm_144 f22) kz_0_8
  have rf21 : tv_ok ta (0, 1, 24, []) (n_v vs 21) := tv_in t21 (by first | omega | grind) (by first | omega | grind)
  refine ⟨List.forall_mem_cons.mpr ⟨rf21, (fun _ h => (by cases h))⟩, [], trivial, ?_, (fun _ h => (by cases h))⟩
  rw [List.append_nil]
  exact (fun _ h => (by cases h))
set_option maxHeartbeats 4000000 in
theorem vc_Mo_met_15_r0 (x15 : Int) (x18 : Int) (x21 : Int) (x27 : Int) (from_0 : Int) (pos_0 : Int) (r_0 : Int) (kind_0 : Int) (fault_0 : Int) (all_1 : Int → Int) (fault_1 : Int) (r_1 : Int) (from_1 : Int) (pos_1 : Int) (kind_1 : Int) (now_1 : Int → Int) (latest_1 : Int → Int) (all_0 : Int → Int) (now_0 : Int → Int) (latest_0 : Int → Int) (k15 : 0 ≤ x15 ∧ x15 ≤ 0) (k18 : 0 ≤ x18 ∧ x18 ≤ 66297) (k21 : 1 ≤ x21 ∧ x21 ≤ 24) (k27 : (-2000) ≤ x27 ∧ x27 ≤ 2000) (f12 : (-1) * fault_0 + 0 ≤ (-1)) (g20 : x15 = fault_1) (fe_0_5_1 : r_0 = r_1) (fe_0_8_1 : fault_0 = fault_1) (fe_0_11_1 : pos_0 = pos_1) (fe_0_12_1 : kind_0 = kind_1) (fe_0_15_1 : from_0 = from_1) (hE_0_2_1 : ∀ j : Int, 0 ≤ j → (j = x18 → all_0 j = x21) ∧ (j ≠ x18 → all_0 j = all_1 j)) (hE_0_3_1 : ∀ j : Int, now_0 j = now_1 j) (hE_0_4_1 : ∀ j : Int, latest_0 j = latest_1 j) (kz_0_8 : 0 ≤ fault_0 ∧ fault_0 ≤ 5) (kz_0_11 : 0 ≤ pos_0 ∧ pos_0 ≤ 2000) (kz_0_12 : 0 ≤ kind_0 ∧ kind_0 ≤ 4) (kz_0_15 : 0 ≤ from_0 ∧ from_0 ≤ 2000) : 0 ≤ x27 ∧ x27 ≤ 8 := by
  subst fe_0_5_1
  subst fe_0_8_1
  subst fe_0_11_1
  subst fe_0_12_1
  subst fe_0_15_1
  have e_hE_0_3_1 := funext hE_0_3_1; subst e_hE_0_3_1
  have e_hE_0_4_1 := funext hE_0_4_1; subst e_hE_0_4_1
  first
    | omega
    | (have q1 := (hE_0_2_1 (r_0 + 2) (by omega)).2 (by omega)
       have q2 := (hE_0_2_2 (r_0 + 2) (by omega)).2 (by omega)
       omega)
    | (have q1 := (hE_0_2_1 (r_0 + 1) (by omega)).2 (by omega)
       have q2 := (hE_0_2_2 (r_0 + 1) (by omega)).2 (by omega)
       omega)
    | (have q1 := (hE_0_2_1 (r_0 + 2) (by omega)).2 (by omega)
       omega)
    | (have q1 := (hE_0_2_1 (r_0 + 1) (by omega)).2 (by omega)
       omega)
    | (have q1 := (hE_0_2_1 (r_0 + 2) (by omega)).2 (by omega)
       have q2 := (hE_0_2_2 (r_0 + 2) (by omega)).2 (by omega)
       have q3 := (hE_0_2_3 (r_0 + 2) (by omega)).1 (by omega)
       omega)
    | (have q1 := (hE_0_2_1 (r_0 + 2) (by omega)).2 (by omega)
       have q2 := (hE_0_2_2 (r_0 + 2) (by omega)).2 (by omega)
       have q3 := (hE_0_2_3 (r_0 + 2) (by omega)).2 (by omega)
       omega)
def o_Mo_met_15 : or_T := (167, 28, [(0, (2, 0, 0, [165])), (1, (0, 0, 7, [])), (2, (0, 0, 23, [])), (3, (0, 0, 2000, [])), (4, (0, 0, 2000, [])), (6, (0, 1, 1, [])), (7, (0, -1, -1, [])), (9, (0, 0, 23, [])), (10, (0, 24, 24, [])), (11, (0, 48, 48, [])), (12, (0, 48, 48, [])), (15, (0, 0, 0, [])), (16, (0, 0, 23, [])), (17, (2, 0, 0, [167])), (18, (0, 0, 66297, [])), (19, (0, 0, 24, [])), (20, (0, 1, 1, [])), (21, (0, 1, 24, [])), (22, (0, 195, 195, [])), (23, (0, 195, 66492, [])), (24, (0, 195, 66515, [])), (25, (0, 0, 2000, [])), (26, (0, 0, 2000, [])), (27, (0, -2000, 2000, []))], [(2, [27, 25, 26], []), (9, [26, 0], [15]), (9, [25, 0], [11]), (1, [24, 23, 16], []), (1, [23, 18, 22], []), (9, [18, 0], [5]), (9, [17, 0], [2]), (20, [0, 0], [30, 0, 1, 1, 15, -1, 1, 11]), (20, [0], [50, 3, 0, 12, 11, 15, 2, 21, 4, 7, 1, 3, 2, 0, 12, 0, 1, 0, 3, 2, 0, 11, 4, 3, 2, 0, 15, 0, 8, 3, 7, 1, 3, 2, 0, 12, 0, 0, 0, 7, 4, 3, 2, 0, 15, 0, 1, 2, 0, 11]), (20, [3, 0], [30, 0, 1, 0, 0, -1, 1, 11]), (20, [0, 4], [50, 2, 0, 12, 11, 3, 7, 1, 3, 2, 0, 12, 0, 0, 0, 6, 4, 2, 1, 1, 0, 1, 2, 0, 11]), (20, [6, 0], [50, 1, 0, 1012, 4, 6, 1, 2, 1, 0, 0, 1, 1, 3, 2, 1, 12, 0, 1]), (20, [0], [30, -1, -1, 1, 8]), (100, [17, 18, 21], []), (1, [21, 19, 20], []), (10, [19, 17, 18], []), (20, [16, 0], [30, 0, 1, 0, 0, -1, 3, 2005000]), (20, [16, 0], [30, 0, -1, 0, 0, 1, 3, 2005000]), (8, [7], [2]), (8, [15], [5]), (9, [15, 0], [8]), (20, [11, 0], [30, 0, 1, 0, 0, -1, 3, 2005001]), (20, [11, 0], [30, 0, -1, 0, 0, 1, 3, 2005001]), (20, [9, 0], [30, 0, 1, 0, 0, -1, 3, 2005000]), (20, [9, 0], [30, 0, -1, 0, 0, 1, 3, 2005000]), (20, [0, 7], [60, 1, 1, 207, 5, 2]), (20, [0, 0], [30, 0, 1, 1, 15, -1, 1, 11]), (20, [0], [50, 3, 0, 12, 11, 15, 2, 21, 4, 7, 1, 3, 2, 0, 12, 0, 1, 0, 3, 2, 0, 11, 4, 3, 2, 0, 15, 0, 8, 3, 7, 1, 3, 2, 0, 12, 0, 0, 0, 7, 4, 3, 2, 0, 15, 0, 1, 2, 0, 11]), (20, [3, 0], [30, 0, 1, 0, 0, -1, 1, 11]), (20, [0, 4], [50, 2, 0, 12, 11, 3, 7, 1, 3, 2, 0, 12, 0, 0, 0, 6, 4, 2, 1, 1, 0, 1, 2, 0, 11]), (20, [1, 0], [50, 1, 1, 1005, 1002, 0, 6, 4, 2, 1, 0, 0, 1, 3, 1, 2, 4, 3, 2, 1, 5, 0, 2]), (20, [0], [60, 1, 3, 199, 5, 2, 3, 4]), (20, [0, 2], [60, 1, 1, 241, 5, 2]), (20, [6, 0], [50, 1, 0, 1012, 4, 6, 1, 2, 1, 0, 0, 1, 1, 3, 2, 1, 12, 0, 1]), (20, [0], [30, -1, -1, 1, 8]), (102, [14], [0, 165008, 165009]), (7, [11, 12], [0]), (8, [2], [3]), (7, [9, 10], [1]), (8, [7], [2]), (8, [7], [2]), (8, [6], [1])], [(27, (0, 0, 8, []))], [], [], [], [(27, 25, -2000, 0), (24, 16, 195, 66492), (24, 23, 0, 23), (24, 18, 195, 218), (23, 18, 195, 195), (21, 19, 1, 1)])
theorem oo_Mo_met_15 {kA : Nat → ClassId} : or_ok PRD kA GG o_Mo_met_15 := by
  refine or_mk fun A ta ws vs hD hth hl => ?_
  intro t0 r0 t1 k1 t2 k2 t3 k3 t4 k4 t6 k6 t7 k7 t9 k9 t10 k10 t11 k11 t12 k12 t15 k15 t16 k16 t17 r17 t18 k18 t19 k19 t20 k20 t21 k21 t22 k22 t23 k23 t24 k24 t25 k25 t26 k26 t27 k27 d0 d1 d2 d3 d4 d5 f0 f1 f2 f3 f4 f5 f6 f7 f8 f9 f10 f11 f12 ta1 w1 le1 s1 f14 f15 f16 f17 f18 f19 f20 f21 f22 f23 f24 f25 f26 f27 f28 f29 f30 f31 f32 f33 f34 ta2 w2 le2 s2 f36 f37 f38 f39 f40 f41
  replace f0 := shm_14 f0
  replace f1 := shm_189 f1
  replace f2 := shm_117 f2
  replace f3 := shm_12 f3
  replace f4 := shm_12 f4
  replace f5 := shm_109 f5
  replace f6 := shm_129 f6
  replace f7 := shm_1397 f7
  replace f8 := shm_1398 f8
  replace f9 := shm_1395 f9
  replace f10 := shm_1978 f10
  replace f11 := shm_1762 f11
  replace f12 := shm_144 f12
  have s1 : (∀ b j, w_el ws b j = if b = v_ad (n_v vs 17) ∧ j = (v_iv (n_v vs 18)).toNat then v_iv (n_v vs 21) else w_el w1 b j) ∧ ∀ b k, w_fd ws b k = w_fd w1 b k := s1.2
  replace f14 := shm_12 f14
  replace f15 := shm_106 f15
  replace f16 := shm_135 f16
  replace f17 := shm_136 f17
  replace f18 := shm_39 f18
  replace f19 := shm_142 f19
  replace f20 := shm_143 f20
  replace f21 := shm_130 f21
  replace f22 := shm_131 f22
  replace f23 := shm_135 f23
  replace f24 := shm_136 f24
  replace f25 := shm_1200 f25
  replace f26 := shm_1397 f26
  replace f27 := shm_1398 f27
  replace f28 := shm_1395 f28
  replace f29 := shm_1978 f29
  replace f30 := shm_981 f30
  replace f31 := shm_952 f31
  replace f32 := shm_1979 f32
  replace f33 := shm_1762 f33
  replace f34 := shm_144 f34
  replace f36 := shm_37 f36
  replace f37 := shm_32 f37
  replace f38 := shm_40 f38
  replace f39 := shm_39 f39
  replace f40 := shm_39 f40
  replace f41 := shm_154 f41
  have ar_0_2_1 : w_ar w1 (n_v vs 0) 2 = w_ar ws (n_v vs 0) 2 := congrArg v_ad (s1.2 _ _).symm
  have cr_0_2 := fdq_12 hD hth r0
  have ar_0_3_1 : w_ar w1 (n_v vs 0) 3 = w_ar ws (n_v vs 0) 3 := congrArg v_ad (s1.2 _ _).symm
  have cr_0_3 := fdq_141 hD hth r0
  have ar_0_4_1 : w_ar w1 (n_v vs 0) 4 = w_ar ws (n_v vs 0) 4 := congrArg v_ad (s1.2 _ _).symm
  have cr_0_4 := fdq_142 hD hth r0
  have fi_0_5_1 : w_fi w1 (n_v vs 0) 5 = w_fi ws (n_v vs 0) 5 := by show v_iv (w_fd w1 _ _) = v_iv (w_fd ws _ _); rw [s1.2]
  have ad_17 : v_ad (n_v vs 17) = w_ar ws (n_v vs 0) 2 := congrArg v_ad f6
  have g1 : v_iv (n_v vs 26) = w_fi ws (n_v vs 0) 15 := congrArg v_iv f1
  have g2 : v_iv (n_v vs 25) = w_fi ws (n_v vs 0) 11 := congrArg v_iv f2
  have g5 : v_iv (n_v vs 18) = w_fi ws (n_v vs 0) 5 := congrArg v_iv f5
  simp only [ad_17] at f15
  have h15 : v_iv (n_v vs 19) = w_ei w1 (w_ar ws (n_v vs 0) 2) (v_iv (n_v vs 18)) := f15
  simp only [ar_0_2_1] at f16 f17
  simp only [fi_0_5_1] at f16 f17
  have g20 : v_iv (n_v vs 15) = w_fi w1 (n_v vs 0) 8 := congrArg v_iv f20
  simp only [ar_0_2_1, ar_0_3_1, ar_0_4_1] at f21 f22 f23 f24 f25 f30 f31 f32
  simp only [fi_0_5_1] at f21 f22 f23 f24
  have fe_0_5_1 : w_fi ws (n_v vs 0) 5 = w_fi w1 (n_v vs 0) 5 := congrArg v_iv (s1.2 _ _)
  have fe_0_8_1 : w_fi ws (n_v vs 0) 8 = w_fi w1 (n_v vs 0) 8 := congrArg v_iv (s1.2 _ _)
  have fe_0_11_1 : w_fi ws (n_v vs 0) 11 = w_fi w1 (n_v vs 0) 11 := congrArg v_iv (s1.2 _ _)
  have fe_0_12_1 : w_fi ws (n_v vs 0) 12 = w_fi w1 (n_v vs 0) 12 := congrArg v_iv (s1.2 _ _)
  have fe_0_15_1 : w_fi ws (n_v vs 0) 15 = w_fi w1 (n_v vs 0) 15 := congrArg v_iv (s1.2 _ _)
  have hE_0_2_1 : ∀ j : Int, 0 ≤ j → (j = v_iv (n_v vs 18) → w_ei ws (w_ar ws (n_v vs 0) 2) j = v_iv (n_v vs 21)) ∧ (j ≠ v_iv (n_v vs 18) → w_ei ws (w_ar ws (n_v vs 0) 2) j = w_ei w1 (w_ar ws (n_v vs 0) 2) j) := fun j hj => ⟨fun h => by unfold w_ei; rw [s1.1, if_pos ⟨ad_17.symm, by rw [h]⟩], fun h => by unfold w_ei; rw [s1.1, if_neg (fun e => h (by have := e.2; omega))]⟩
  have hE_0_3_1 : ∀ j : Int, w_ei ws (w_ar ws (n_v vs 0) 3) j = w_ei w1 (w_ar ws (n_v vs 0) 3) j := el_kp s1.1 r17 cr_0_3 (by decide)
  have hK_0_3 := elq_77 hD hth cr_0_3
  have hE_0_4_1 : ∀ j : Int, w_ei ws (w_ar ws (n_v vs 0) 4) j = w_ei w1 (w_ar ws (n_v vs 0) 4) j := el_kp s1.1 r17 cr_0_4 (by decide)
  have hK_0_4 := elq_78 hD hth cr_0_4
  have kz_0_8 := fdq_14 hD hth r0
  have kz_0_11 := fdq_273 hD hth r0
  have kz_0_12 := fdq_186 hD hth r0
  have kz_0_15 := fdq_274 hD hth r0
  first | have hJ0 : w_ei w1 (w_ar ws (n_v vs 0) 2) ((w_fi w1 (n_v vs 0) 5 + 2)) = w_ei w1 (w_ar ws (n_v vs 0) 2) ((w_fi ws (n_v vs 0) 5 + 2)) := congrArg _ (show ((w_fi w1 (n_v vs 0) 5 + 2) : Int) = (w_fi ws (n_v vs 0) 5 + 2) from by omega) | skip
  first | have hI1 := (hE_0_2_1 ((w_fi ws (n_v vs 0) 5 + 2)) (by omega)).2 (by omega) | have hI1 := (hE_0_2_1 ((w_fi ws (n_v vs 0) 5 + 2)) (by omega)).1 (by omega) | skip
  have hrf0 : 0 ≤ v_iv (n_v vs 27) ∧ v_iv (n_v vs 27) ≤ 8 := vc_Mo_met_15_r0 (v_iv (n_v vs 15)) (v_iv (n_v vs 18)) (v_iv (n_v vs 21)) (v_iv (n_v vs 27)) (w_fi ws (n_v vs 0) 15) (w_fi ws (n_v vs 0) 11) (w_fi ws (n_v vs 0) 5) (w_fi ws (n_v vs 0) 12) (w_fi ws (n_v vs 0) 8) (w_ei w1 (w_ar ws (n_v vs 0) 2)) (w_fi w1 (n_v vs 0) 8) (w_fi w1 (n_v vs 0) 5) (w_fi w1 (n_v vs 0) 15) (w_fi w1 (n_v vs 0) 11) (w_fi w1 (n_v vs 0) 12) (w_ei w1 (w_ar ws (n_v vs 0) 3)) (w_ei w1 (w_ar ws (n_v vs 0) 4)) (w_ei ws (w_ar ws (n_v vs 0) 2)) (w_ei ws (w_ar ws (n_v vs 0) 3)) (w_ei ws (w_ar ws (n_v vs 0) 4)) k15 k18 k21 k27 f12 g20 fe_0_5_1 fe_0_8_1 fe_0_11_1 fe_0_12_1 fe_0_15_1 hE_0_2_1 hE_0_3_1 hE_0_4_1 kz_0_8 kz_0_11 kz_0_12 kz_0_15
  have rf27 : tv_ok ta (0, 0, 8, []) (n_v vs 27) := tv_in t27 (by first | omega | grind) (by first | omega | grind)
  refine ⟨List.forall_mem_cons.mpr ⟨rf27, (fun _ h => (by cases h))⟩, [], trivial, ?_, (fun _ h => (by cases h))⟩
  rw [List.append_nil]
  exact (fun _ h => (by cases h))
set_option maxHeartbeats 4000000 in
theorem vc_Mo_met_16_0 (x4 : Int) (x15 : Int) (x18 : Int) (x21 : Int) (x24 : Int) (x27 : Int) (from_0 : Int) (pos_0 : Int) (kind_0 : Int) (fault_0 : Int) (from_1 : Int) (pos_1 : Int) (r_1 : Int) (kind_1 : Int) (fault_1 : Int) (all_2 : Int → Int) (r_0 : Int) (fault_2 : Int) (r_2 : Int) (from_2 : Int) (pos_2 : Int) (kind_2 : Int) (now_2 : Int → Int) (latest_2 : Int → Int) (all_0 : Int → Int) (all_1 : Int → Int) (now_0 : Int → Int) (now_1 : Int → Int) (latest_0 : Int → Int) (latest_1 : Int → Int) (k4 : 0 ≤ x4 ∧ x4 ≤ 2000) (k15 : 0 ≤ x15 ∧ x15 ≤ 0) (k18 : 0 ≤ x18 ∧ x18 ≤ 66297) (k21 : 1 ≤ x21 ∧ x21 ≤ 24) (k24 : 195 ≤ x24 ∧ x24 ≤ 66515) (k27 : 0 ≤ x27 ∧ x27 ≤ 8) (f5 : (-1) * fault_0 + 0 ≤ (-1)) (g27 : x15 = fault_2) (fe_0_5_1 : r_0 = r_1) (fe_0_8_1 : fault_0 = fault_1) (fe_0_11_1 : pos_0 = pos_1) (fe_0_12_1 : kind_0 = kind_1) (fe_0_15_1 : from_0 = from_1) (fe_0_5_2 : r_1 = r_2) (fe_0_8_2 : fault_1 = fault_2) (fe_0_11_2 : pos_1 = pos_2) (fe_0_12_2 : kind_1 = kind_2) (fe_0_15_2 : from_1 = from_2) (hE_0_2_1 : ∀ j : Int, 0 ≤ j → (j = x24 → all_0 j = x27) ∧ (j ≠ x24 → all_0 j = all_1 j)) (hE_0_2_2 : ∀ j : Int, 0 ≤ j → (j = x18 → all_1 j = x21) ∧ (j ≠ x18 → all_1 j = all_2 j)) (hE_0_3_1 : ∀ j : Int, now_0 j = now_1 j) (hE_0_3_2 : ∀ j : Int, now_1 j = now_2 j) (hE_0_4_1 : ∀ j : Int, latest_0 j = latest_1 j) (hE_0_4_2 : ∀ j : Int, latest_1 j = latest_2 j) (kz_0_8 : 0 ≤ fault_0 ∧ fault_0 ≤ 5) (kz_0_11 : 0 ≤ pos_0 ∧ pos_0 ≤ 2000) (kz_0_12 : 0 ≤ kind_0 ∧ kind_0 ≤ 4) (kz_0_15 : 0 ≤ from_0 ∧ from_0 ≤ 2000) : 1 * x4 + ((-1) * pos_0 + 0) ≤ (-1) := by
  subst fe_0_5_1
  subst fe_0_8_1
  subst fe_0_11_1
  subst fe_0_12_1
  subst fe_0_15_1
  subst fe_0_5_2
  subst fe_0_8_2
  subst fe_0_11_2
  subst fe_0_12_2
  subst fe_0_15_2
  have e_hE_0_3_1 := funext hE_0_3_1; subst e_hE_0_3_1
  have e_hE_0_3_2 := funext hE_0_3_2; subst e_hE_0_3_2
  have e_hE_0_4_1 := funext hE_0_4_1; subst e_hE_0_4_1
  have e_hE_0_4_2 := funext hE_0_4_2; subst e_hE_0_4_2
  first
    | omega
    | (have q1 := (hE_0_2_1 (r_0 + 2) (by omega)).2 (by omega)
       have q2 := (hE_0_2_2 (r_0 + 2) (by omega)).2 (by omega)
       omega)
    | (have q1 := (hE_0_2_1 (r_0 + 1) (by omega)).2 (by omega)
       have q2 := (hE_0_2_2 (r_0 + 1) (by omega)).2 (by omega)
       omega)
    | (have q1 := (hE_0_2_1 (r_0 + 2) (by omega)).2 (by omega)
       omega)
    | (have q1 := (hE_0_2_1 (r_0 + 1) (by omega)).2 (by omega)
       omega)
    | (have q1 := (hE_0_2_1 (r_0 + 2) (by omega)).2 (by omega)
       have q2 := (hE_0_2_2 (r_0 + 2) (by omega)).2 (by omega)
       have q3 := (hE_0_2_3 (r_0 + 2) (by omega)).1 (by omega)
       omega)
    | (have q1 := (hE_0_2_1 (r_0 + 2) (by omega)).2 (by omega)
       have q2 := (hE_0_2_2 (r_0 + 2) (by omega)).2 (by omega)
       have q3 := (hE_0_2_3 (r_0 + 2) (by omega)).2 (by omega)
       omega)
set_option maxHeartbeats 4000000 in
theorem vc_Mo_met_16_1 (x15 : Int) (x18 : Int) (x21 : Int) (x24 : Int) (x27 : Int) (from_0 : Int) (pos_0 : Int) (kind_0 : Int) (fault_0 : Int) (from_1 : Int) (pos_1 : Int) (r_1 : Int) (kind_1 : Int) (fault_1 : Int) (all_2 : Int → Int) (r_0 : Int) (fault_2 : Int) (r_2 : Int) (from_2 : Int) (pos_2 : Int) (kind_2 : Int) (now_2 : Int → Int) (latest_2 : Int → Int) (all_0 : Int → Int) (all_1 : Int → Int) (now_0 : Int → Int) (now_1 : Int → Int) (latest_0 : Int → Int) (latest_1 : Int → Int) (k15 : 0 ≤ x15 ∧ x15 ≤ 0) (k18 : 0 ≤ x18 ∧ x18 ≤ 66297) (k21 : 1 ≤ x21 ∧ x21 ≤ 24) (k24 : 195 ≤ x24 ∧ x24 ≤ 66515) (k27 : 0 ≤ x27 ∧ x27 ≤ 8) (f5 : (-1) * fault_0 + 0 ≤ (-1)) (g27 : x15 = fault_2) (fe_0_5_1 : r_0 = r_1) (fe_0_8_1 : fault_0 = fault_1) (fe_0_11_1 : pos_0 = pos_1) (fe_0_12_1 : kind_0 = kind_1) (fe_0_15_1 : from_0 = from_1) (fe_0_5_2 : r_1 = r_2) (fe_0_8_2 : fault_1 = fault_2) (fe_0_11_2 : pos_1 = pos_2) (fe_0_12_2 : kind_1 = kind_2) (fe_0_15_2 : from_1 = from_2) (hE_0_2_1 : ∀ j : Int, 0 ≤ j → (j = x24 → all_0 j = x27) ∧ (j ≠ x24 → all_0 j = all_1 j)) (hE_0_2_2 : ∀ j : Int, 0 ≤ j → (j = x18 → all_1 j = x21) ∧ (j ≠ x18 → all_1 j = all_2 j)) (hE_0_3_1 : ∀ j : Int, now_0 j = now_1 j) (hE_0_3_2 : ∀ j : Int, now_1 j = now_2 j) (hE_0_4_1 : ∀ j : Int, latest_0 j = latest_1 j) (hE_0_4_2 : ∀ j : Int, latest_1 j = latest_2 j) (kz_0_8 : 0 ≤ fault_0 ∧ fault_0 ≤ 5) (kz_0_11 : 0 ≤ pos_0 ∧ pos_0 ≤ 2000) (kz_0_12 : 0 ≤ kind_0 ∧ kind_0 ≤ 4) (kz_0_15 : 0 ≤ from_0 ∧ from_0 ≤ 2000) : kind_0 = 1 := by
  subst fe_0_5_1
  subst fe_0_8_1
  subst fe_0_11_1
  subst fe_0_12_1
  subst fe_0_15_1
  subst fe_0_5_2
  subst fe_0_8_2
  subst fe_0_11_2
  subst fe_0_12_2
  subst fe_0_15_2
  have e_hE_0_3_1 := funext hE_0_3_1; subst e_hE_0_3_1
  have e_hE_0_3_2 := funext hE_0_3_2; subst e_hE_0_3_2
  have e_hE_0_4_1 := funext hE_0_4_1; subst e_hE_0_4_1
  have e_hE_0_4_2 := funext hE_0_4_2; subst e_hE_0_4_2
  first
    | omega
    | (have q1 := (hE_0_2_1 (r_0 + 2) (by omega)).2 (by omega)
       have q2 := (hE_0_2_2 (r_0 + 2) (by omega)).2 (by omega)
       omega)
    | (have q1 := (hE_0_2_1 (r_0 + 1) (by omega)).2 (by omega)
       have q2 := (hE_0_2_2 (r_0 + 1) (by omega)).2 (by omega)
       omega)
    | (have q1 := (hE_0_2_1 (r_0 + 2) (by omega)).2 (by omega)
       omega)
    | (have q1 := (hE_0_2_1 (r_0 + 1) (by omega)).2 (by omega)
       omega)
    | (have q1 := (hE_0_2_1 (r_0 + 2) (by omega)).2 (by omega)
       have q2 := (hE_0_2_2 (r_0 + 2) (by omega)).2 (by omega)
       have q3 := (hE_0_2_3 (r_0 + 2) (by omega)).1 (by omega)
       omega)
    | (have q1 := (hE_0_2_1 (r_0 + 2) (by omega)).2 (by omega)
       have q2 := (hE_0_2_2 (r_0 + 2) (by omega)).2 (by omega)
       have q3 := (hE_0_2_3 (r_0 + 2) (by omega)).2 (by omega)
       omega)
set_option maxHeartbeats 4000000 in
theorem vc_Mo_met_16_2 (x2 : Int) (x15 : Int) (x18 : Int) (x21 : Int) (x24 : Int) (x27 : Int) (from_0 : Int) (pos_0 : Int) (kind_0 : Int) (fault_0 : Int) (from_1 : Int) (pos_1 : Int) (r_1 : Int) (kind_1 : Int) (fault_1 : Int) (all_2 : Int → Int) (r_0 : Int) (fault_2 : Int) (r_2 : Int) (from_2 : Int) (pos_2 : Int) (kind_2 : Int) (now_2 : Int → Int) (latest_2 : Int → Int) (all_0 : Int → Int) (all_1 : Int → Int) (now_0 : Int → Int) (now_1 : Int → Int) (latest_0 : Int → Int) (latest_1 : Int → Int) (k2 : 0 ≤ x2 ∧ x2 ≤ 23) (k15 : 0 ≤ x15 ∧ x15 ≤ 0) (k18 : 0 ≤ x18 ∧ x18 ≤ 66297) (k21 : 1 ≤ x21 ∧ x21 ≤ 24) (k24 : 195 ≤ x24 ∧ x24 ≤ 66515) (k27 : 0 ≤ x27 ∧ x27 ≤ 8) (f5 : (-1) * fault_0 + 0 ≤ (-1)) (g27 : x15 = fault_2) (fe_0_5_1 : r_0 = r_1) (fe_0_8_1 : fault_0 = fault_1) (fe_0_11_1 : pos_0 = pos_1) (fe_0_12_1 : kind_0 = kind_1) (fe_0_15_1 : from_0 = from_1) (fe_0_5_2 : r_1 = r_2) (fe_0_8_2 : fault_1 = fault_2) (fe_0_11_2 : pos_1 = pos_2) (fe_0_12_2 : kind_1 = kind_2) (fe_0_15_2 : from_1 = from_2) (hE_0_2_1 : ∀ j : Int, 0 ≤ j → (j = x24 → all_0 j = x27) ∧ (j ≠ x24 → all_0 j = all_1 j)) (hE_0_2_2 : ∀ j : Int, 0 ≤ j → (j = x18 → all_1 j = x21) ∧ (j ≠ x18 → all_1 j = all_2 j)) (hE_0_3_1 : ∀ j : Int, now_0 j = now_1 j) (hE_0_3_2 : ∀ j : Int, now_1 j = now_2 j) (hE_0_4_1 : ∀ j : Int, latest_0 j = latest_1 j) (hE_0_4_2 : ∀ j : Int, latest_1 j = latest_2 j) (kz_0_8 : 0 ≤ fault_0 ∧ fault_0 ≤ 5) (kz_0_11 : 0 ≤ pos_0 ∧ pos_0 ≤ 2000) (kz_0_12 : 0 ≤ kind_0 ∧ kind_0 ≤ 4) (kz_0_15 : 0 ≤ from_0 ∧ from_0 ≤ 2000) : (x2 ≤ (-1)) ∨ (all_0 ((r_0 + 1)) ≤ 47) := by
  subst fe_0_5_1
  subst fe_0_8_1
  subst fe_0_11_1
  subst fe_0_12_1
  subst fe_0_15_1
  subst fe_0_5_2
  subst fe_0_8_2
  subst fe_0_11_2
  subst fe_0_12_2
  subst fe_0_15_2
  have e_hE_0_3_1 := funext hE_0_3_1; subst e_hE_0_3_1
  have e_hE_0_3_2 := funext hE_0_3_2; subst e_hE_0_3_2
  have e_hE_0_4_1 := funext hE_0_4_1; subst e_hE_0_4_1
  have e_hE_0_4_2 := funext hE_0_4_2; subst e_hE_0_4_2
  first
    | omega
    | (have q1 := (hE_0_2_1 (r_0 + 2) (by omega)).2 (by omega)
       have q2 := (hE_0_2_2 (r_0 + 2) (by omega)).2 (by omega)
       omega)
    | (have q1 := (hE_0_2_1 (r_0 + 1) (by omega)).2 (by omega)
       have q2 := (hE_0_2_2 (r_0 + 1) (by omega)).2 (by omega)
       omega)
    | (have q1 := (hE_0_2_1 (r_0 + 2) (by omega)).2 (by omega)
       omega)
    | (have q1 := (hE_0_2_1 (r_0 + 1) (by omega)).2 (by omega)
       omega)
    | (have q1 := (hE_0_2_1 (r_0 + 2) (by omega)).2 (by omega)
       have q2 := (hE_0_2_2 (r_0 + 2) (by omega)).2 (by omega)
       have q3 := (hE_0_2_3 (r_0 + 2) (by omega)).1 (by omega)
       omega)
    | (have q1 := (hE_0_2_1 (r_0 + 2) (by omega)).2 (by omega)
       have q2 := (hE_0_2_2 (r_0 + 2) (by omega)).2 (by omega)
       have q3 := (hE_0_2_3 (r_0 + 2) (by omega)).2 (by omega)
       omega)
set_option maxHeartbeats 4000000 in
theorem vc_Mo_met_16_3 (x1 : Int) (x15 : Int) (x18 : Int) (x21 : Int) (x24 : Int) (x27 : Int) (from_0 : Int) (pos_0 : Int) (kind_0 : Int) (fault_0 : Int) (from_1 : Int) (pos_1 : Int) (r_1 : Int) (kind_1 : Int) (fault_1 : Int) (all_2 : Int → Int) (r_0 : Int) (fault_2 : Int) (r_2 : Int) (from_2 : Int) (pos_2 : Int) (kind_2 : Int) (now_2 : Int → Int) (latest_2 : Int → Int) (all_0 : Int → Int) (all_1 : Int → Int) (now_0 : Int → Int) (now_1 : Int → Int) (latest_0 : Int → Int) (latest_1 : Int → Int) (k1 : 0 ≤ x1 ∧ x1 ≤ 7) (k15 : 0 ≤ x15 ∧ x15 ≤ 0) (k18 : 0 ≤ x18 ∧ x18 ≤ 66297) (k21 : 1 ≤ x21 ∧ x21 ≤ 24) (k24 : 195 ≤ x24 ∧ x24 ≤ 66515) (k27 : 0 ≤ x27 ∧ x27 ≤ 8) (f5 : (-1) * fault_0 + 0 ≤ (-1)) (g27 : x15 = fault_2) (fe_0_5_1 : r_0 = r_1) (fe_0_8_1 : fault_0 = fault_1) (fe_0_11_1 : pos_0 = pos_1) (fe_0_12_1 : kind_0 = kind_1) (fe_0_15_1 : from_0 = from_1) (fe_0_5_2 : r_1 = r_2) (fe_0_8_2 : fault_1 = fault_2) (fe_0_11_2 : pos_1 = pos_2) (fe_0_12_2 : kind_1 = kind_2) (fe_0_15_2 : from_1 = from_2) (hE_0_2_1 : ∀ j : Int, 0 ≤ j → (j = x24 → all_0 j = x27) ∧ (j ≠ x24 → all_0 j = all_1 j)) (hE_0_2_2 : ∀ j : Int, 0 ≤ j → (j = x18 → all_1 j = x21) ∧ (j ≠ x18 → all_1 j = all_2 j)) (hE_0_3_1 : ∀ j : Int, now_0 j = now_1 j) (hE_0_3_2 : ∀ j : Int, now_1 j = now_2 j) (hE_0_4_1 : ∀ j : Int, latest_0 j = latest_1 j) (hE_0_4_2 : ∀ j : Int, latest_1 j = latest_2 j) (kz_0_8 : 0 ≤ fault_0 ∧ fault_0 ≤ 5) (kz_0_11 : 0 ≤ pos_0 ∧ pos_0 ≤ 2000) (kz_0_12 : 0 ≤ kind_0 ∧ kind_0 ≤ 4) (kz_0_15 : 0 ≤ from_0 ∧ from_0 ≤ 2000) : (x1 + 1) ≤ all_0 ((r_0 + 2)) := by
  subst fe_0_5_1
  subst fe_0_8_1
  subst fe_0_11_1
  subst fe_0_12_1
  subst fe_0_15_1
  subst fe_0_5_2
  subst fe_0_8_2
  subst fe_0_11_2
  subst fe_0_12_2
  subst fe_0_15_2
  have e_hE_0_3_1 := funext hE_0_3_1; subst e_hE_0_3_1
  have e_hE_0_3_2 := funext hE_0_3_2; subst e_hE_0_3_2
  have e_hE_0_4_1 := funext hE_0_4_1; subst e_hE_0_4_1
  have e_hE_0_4_2 := funext hE_0_4_2; subst e_hE_0_4_2
  first
    | omega
    | (have q1 := (hE_0_2_1 (r_0 + 2) (by omega)).2 (by omega)
       have q2 := (hE_0_2_2 (r_0 + 2) (by omega)).2 (by omega)
       omega)
    | (have q1 := (hE_0_2_1 (r_0 + 1) (by omega)).2 (by omega)
       have q2 := (hE_0_2_2 (r_0 + 1) (by omega)).2 (by omega)
       omega)
    | (have q1 := (hE_0_2_1 (r_0 + 2) (by omega)).2 (by omega)
       omega)
    | (have q1 := (hE_0_2_1 (r_0 + 1) (by omega)).2 (by omega)
       omega)
    | (have q1 := (hE_0_2_1 (r_0 + 2) (by omega)).2 (by omega)
       have q2 := (hE_0_2_2 (r_0 + 2) (by omega)).2 (by omega)
       have q3 := (hE_0_2_3 (r_0 + 2) (by omega)).1 (by omega)
       omega)
    | (have q1 := (hE_0_2_1 (r_0 + 2) (by omega)).2 (by omega)
       have q2 := (hE_0_2_2 (r_0 + 2) (by omega)).2 (by omega)
       have q3 := (hE_0_2_3 (r_0 + 2) (by omega)).2 (by omega)
       omega)
set_option maxHeartbeats 4000000 in
theorem vc_Mo_met_16_4 (x15 : Int) (x16 : Int) (from_0 : Int) (pos_0 : Int) (kind_0 : Int) (fault_0 : Int) (from_1 : Int) (pos_1 : Int) (r_1 : Int) (kind_1 : Int) (fault_1 : Int) (r_0 : Int) (fault_2 : Int) (r_2 : Int) (from_2 : Int) (pos_2 : Int) (kind_2 : Int) (now_2 : Int → Int) (latest_2 : Int → Int) (all_0 : Int → Int) (now_0 : Int → Int) (now_1 : Int → Int) (latest_0 : Int → Int) (latest_1 : Int → Int) (k15 : 0 ≤ x15 ∧ x15 ≤ 0) (k16 : 0 ≤ x16 ∧ x16 ≤ 23) (f5 : (-1) * fault_0 + 0 ≤ (-1)) (g27 : x15 = fault_2) (fe_0_5_1 : r_0 = r_1) (fe_0_8_1 : fault_0 = fault_1) (fe_0_11_1 : pos_0 = pos_1) (fe_0_12_1 : kind_0 = kind_1) (fe_0_15_1 : from_0 = from_1) (fe_0_5_2 : r_1 = r_2) (fe_0_8_2 : fault_1 = fault_2) (fe_0_11_2 : pos_1 = pos_2) (fe_0_12_2 : kind_1 = kind_2) (fe_0_15_2 : from_1 = from_2) (hE_0_3_1 : ∀ j : Int, now_0 j = now_1 j) (hE_0_3_2 : ∀ j : Int, now_1 j = now_2 j) (hE_0_4_1 : ∀ j : Int, latest_0 j = latest_1 j) (hE_0_4_2 : ∀ j : Int, latest_1 j = latest_2 j) (kz_0_8 : 0 ≤ fault_0 ∧ fault_0 ≤ 5) (kz_0_11 : 0 ≤ pos_0 ∧ pos_0 ≤ 2000) (kz_0_12 : 0 ≤ kind_0 ∧ kind_0 ≤ 4) (kz_0_15 : 0 ≤ from_0 ∧ from_0 ≤ 2000) : RWN (r_0) (all_0) (now_0) (latest_0) (x16) := by
  subst fe_0_5_1
  subst fe_0_8_1
  subst fe_0_11_1
  subst fe_0_12_1
  subst fe_0_15_1
  subst fe_0_5_2
  subst fe_0_8_2
  subst fe_0_11_2
  subst fe_0_12_2
  subst fe_0_15_2
  have e_hE_0_3_1 := funext hE_0_3_1; subst e_hE_0_3_1
  have e_hE_0_3_2 := funext hE_0_3_2; subst e_hE_0_3_2
  have e_hE_0_4_1 := funext hE_0_4_1; subst e_hE_0_4_1
  have e_hE_0_4_2 := funext hE_0_4_2; subst e_hE_0_4_2
  try simp only [Int.add_zero] at *
  first
    | (exfalso; omega)
    | (have hr := rws_r ‹RWS _ _ _ _›
       have hb := (rws_sg ‹RWS _ _ _ _›).1
       exact rwn_off (rwn_start ‹RWS _ _ _ _› (by assumption) (by omega) (by omega) (by omega) (by omega)) (by assumption) (by omega))
    | (have hr := rwn_r ‹RWN _ _ _ _ _›
       have hb := ‹MEN _ _ _ _›.1
       exact rwn_off ‹RWN _ _ _ _ _› (by assumption) (by omega))
set_option maxHeartbeats 4000000 in
theorem vc_Mo_met_16_5 (x2 : Int) (x15 : Int) (x16 : Int) (from_0 : Int) (pos_0 : Int) (kind_0 : Int) (fault_0 : Int) (from_1 : Int) (pos_1 : Int) (r_1 : Int) (kind_1 : Int) (fault_1 : Int) (r_0 : Int) (fault_2 : Int) (r_2 : Int) (from_2 : Int) (pos_2 : Int) (kind_2 : Int) (now_2 : Int → Int) (latest_2 : Int → Int) (all_0 : Int → Int) (now_0 : Int → Int) (now_1 : Int → Int) (latest_0 : Int → Int) (latest_1 : Int → Int) (k2 : 0 ≤ x2 ∧ x2 ≤ 23) (k15 : 0 ≤ x15 ∧ x15 ≤ 0) (k16 : 0 ≤ x16 ∧ x16 ≤ 23) (f5 : (-1) * fault_0 + 0 ≤ (-1)) (g27 : x15 = fault_2) (fe_0_5_1 : r_0 = r_1) (fe_0_8_1 : fault_0 = fault_1) (fe_0_11_1 : pos_0 = pos_1) (fe_0_12_1 : kind_0 = kind_1) (fe_0_15_1 : from_0 = from_1) (fe_0_5_2 : r_1 = r_2) (fe_0_8_2 : fault_1 = fault_2) (fe_0_11_2 : pos_1 = pos_2) (fe_0_12_2 : kind_1 = kind_2) (fe_0_15_2 : from_1 = from_2) (hE_0_3_1 : ∀ j : Int, now_0 j = now_1 j) (hE_0_3_2 : ∀ j : Int, now_1 j = now_2 j) (hE_0_4_1 : ∀ j : Int, latest_0 j = latest_1 j) (hE_0_4_2 : ∀ j : Int, latest_1 j = latest_2 j) (kz_0_8 : 0 ≤ fault_0 ∧ fault_0 ≤ 5) (kz_0_11 : 0 ≤ pos_0 ∧ pos_0 ≤ 2000) (kz_0_12 : 0 ≤ kind_0 ∧ kind_0 ≤ 4) (kz_0_15 : 0 ≤ from_0 ∧ from_0 ≤ 2000) : MEN (r_0) (all_0) (x2) (x16) := by
  subst fe_0_5_1
  subst fe_0_8_1
  subst fe_0_11_1
  subst fe_0_12_1
  subst fe_0_15_1
  subst fe_0_5_2
  subst fe_0_8_2
  subst fe_0_11_2
  subst fe_0_12_2
  subst fe_0_15_2
  have e_hE_0_3_1 := funext hE_0_3_1; subst e_hE_0_3_1
  have e_hE_0_3_2 := funext hE_0_3_2; subst e_hE_0_3_2
  have e_hE_0_4_1 := funext hE_0_4_1; subst e_hE_0_4_1
  have e_hE_0_4_2 := funext hE_0_4_2; subst e_hE_0_4_2
  try simp only [Int.add_zero] at *
  first
    | (exfalso; omega)
    | (have hr := rws_r ‹RWS _ _ _ _›
       have hb := (rws_sg ‹RWS _ _ _ _›).1
       exact men_off (by omega) (men_new ‹RWS _ _ _ _› (by assumption) (by omega) (by omega) (by omega) ‹MEB _ _ _› (by omega)) (by assumption) (by omega))
    | (have hr := rwn_r ‹RWN _ _ _ _ _›
       have hb := ‹MEN _ _ _ _›.1
       exact men_off (by omega) ‹MEN _ _ _ _› (by assumption) (by omega))
def o_Mo_met_16 : or_T := (171, 29, [(0, (2, 0, 0, [165])), (1, (0, 0, 7, [])), (2, (0, 0, 23, [])), (3, (0, 0, 2000, [])), (4, (0, 0, 2000, [])), (6, (0, 1, 1, [])), (7, (0, -1, -1, [])), (9, (0, 0, 23, [])), (10, (0, 24, 24, [])), (11, (0, 48, 48, [])), (12, (0, 48, 48, [])), (15, (0, 0, 0, [])), (16, (0, 0, 23, [])), (17, (2, 0, 0, [167])), (18, (0, 0, 66297, [])), (19, (0, 0, 24, [])), (20, (0, 1, 1, [])), (21, (0, 1, 24, [])), (22, (0, 195, 195, [])), (23, (0, 195, 66492, [])), (24, (0, 195, 66515, [])), (25, (0, 0, 2000, [])), (26, (0, 0, 2000, [])), (27, (0, 0, 8, []))], [(20, [0, 0], [30, 0, 1, 1, 15, -1, 1, 11]), (20, [0], [50, 3, 0, 12, 11, 15, 2, 21, 4, 7, 1, 3, 2, 0, 12, 0, 1, 0, 3, 2, 0, 11, 4, 3, 2, 0, 15, 0, 8, 3, 7, 1, 3, 2, 0, 12, 0, 0, 0, 7, 4, 3, 2, 0, 15, 0, 1, 2, 0, 11]), (20, [3, 0], [30, 0, 1, 0, 0, -1, 1, 11]), (20, [0, 4], [50, 2, 0, 12, 11, 3, 7, 1, 3, 2, 0, 12, 0, 0, 0, 6, 4, 2, 1, 1, 0, 1, 2, 0, 11]), (20, [6, 0], [50, 1, 0, 1012, 4, 6, 1, 2, 1, 0, 0, 1, 1, 3, 2, 1, 12, 0, 1]), (20, [0], [30, -1, -1, 1, 8]), (100, [17, 24, 27], []), (2, [27, 25, 26], []), (9, [26, 0], [15]), (9, [25, 0], [11]), (1, [24, 23, 16], []), (1, [23, 18, 22], []), (9, [18, 0], [5]), (9, [17, 0], [2]), (20, [0, 0], [30, 0, 1, 1, 15, -1, 1, 11]), (20, [0], [50, 3, 0, 12, 11, 15, 2, 21, 4, 7, 1, 3, 2, 0, 12, 0, 1, 0, 3, 2, 0, 11, 4, 3, 2, 0, 15, 0, 8, 3, 7, 1, 3, 2, 0, 12, 0, 0, 0, 7, 4, 3, 2, 0, 15, 0, 1, 2, 0, 11]), (20, [3, 0], [30, 0, 1, 0, 0, -1, 1, 11]), (20, [0, 4], [50, 2, 0, 12, 11, 3, 7, 1, 3, 2, 0, 12, 0, 0, 0, 6, 4, 2, 1, 1, 0, 1, 2, 0, 11]), (20, [6, 0], [50, 1, 0, 1012, 4, 6, 1, 2, 1, 0, 0, 1, 1, 3, 2, 1, 12, 0, 1]), (20, [0], [30, -1, -1, 1, 8]), (100, [17, 18, 21], []), (1, [21, 19, 20], []), (10, [19, 17, 18], []), (20, [16, 0], [30, 0, 1, 0, 0, -1, 3, 2005000]), (20, [16, 0], [30, 0, -1, 0, 0, 1, 3, 2005000]), (8, [7], [2]), (8, [15], [5]), (9, [15, 0], [8]), (20, [11, 0], [30, 0, 1, 0, 0, -1, 3, 2005001]), (20, [11, 0], [30, 0, -1, 0, 0, 1, 3, 2005001]), (20, [9, 0], [30, 0, 1, 0, 0, -1, 3, 2005000]), (20, [9, 0], [30, 0, -1, 0, 0, 1, 3, 2005000]), (20, [0, 7], [60, 1, 1, 207, 5, 2]), (20, [0, 0], [30, 0, 1, 1, 15, -1, 1, 11]), (20, [0], [50, 3, 0, 12, 11, 15, 2, 21, 4, 7, 1, 3, 2, 0, 12, 0, 1, 0, 3, 2, 0, 11, 4, 3, 2, 0, 15, 0, 8, 3, 7, 1, 3, 2, 0, 12, 0, 0, 0, 7, 4, 3, 2, 0, 15, 0, 1, 2, 0, 11]), (20, [3, 0], [30, 0, 1, 0, 0, -1, 1, 11]), (20, [0, 4], [50, 2, 0, 12, 11, 3, 7, 1, 3, 2, 0, 12, 0, 0, 0, 6, 4, 2, 1, 1, 0, 1, 2, 0, 11]), (20, [1, 0], [50, 1, 1, 1005, 1002, 0, 6, 4, 2, 1, 0, 0, 1, 3, 1, 2, 4, 3, 2, 1, 5, 0, 2]), (20, [0], [60, 1, 3, 199, 5, 2, 3, 4]), (20, [0, 2], [60, 1, 1, 241, 5, 2]), (20, [6, 0], [50, 1, 0, 1012, 4, 6, 1, 2, 1, 0, 0, 1, 1, 3, 2, 1, 12, 0, 1]), (20, [0], [30, -1, -1, 1, 8]), (102, [14], [0, 165008, 165009]), (7, [11, 12], [0]), (8, [2], [3]), (7, [9, 10], [1]), (8, [7], [2]), (8, [7], [2]), (8, [6], [1])], [], [], [(20, [4, 0], [30, -1, 1, 0, 0, -1, 1, 11]), (20, [0], [50, 1, 0, 12, 1, 3, 2, 0, 12, 0, 1]), (20, [2, 0], [50, 1, 1, 1005, 1002, 3, 6, 0, 2, 1, 0, 0, -1, 0, 10, 3, 1, 2, 4, 3, 2, 1, 5, 0, 1, 0, 47]), (20, [1, 0], [50, 1, 1, 1005, 1002, 0, 6, 4, 2, 1, 0, 0, 1, 3, 1, 2, 4, 3, 2, 1, 5, 0, 2]), (20, [0, 16], [60, 1, 3, 200, 5, 2, 3, 4]), (20, [0, 2, 16], [60, 1, 1, 243, 5, 2]), (24, [0, 0], []), (24, [1, 1], []), (24, [2, 2], [])], [], [(27, 25, -2000, 0), (24, 16, 195, 66492), (24, 23, 0, 23), (24, 18, 195, 218), (23, 18, 195, 195), (21, 19, 1, 1)])
theorem oo_Mo_met_16 {kA : Nat → ClassId} : or_ok PRD kA GG o_Mo_met_16 := by
  refine or_mk fun A ta ws vs hD hth hl => ?_
  intro t0 r0 t1 k1 t2 k2 t3 k3 t4 k4 t6 k6 t7 k7 t9 k9 t10 k10 t11 k11 t12 k12 t15 k15 t16 k16 t17 r17 t18 k18 t19 k19 t20 k20 t21 k21 t22 k22 t23 k23 t24 k24 t25 k25 t26 k26 t27 k27 d0 d1 d2 d3 d4 d5 f0 f1 f2 f3 f4 f5 ta1 w1 le1 s1 f7 f8 f9 f10 f11 f12 f13 f14 f15 f16 f17 f18 f19 ta2 w2 le2 s2 f21 f22 f23 f24 f25 f26 f27 f28 f29 f30 f31 f32 f33 f34 f35 f36 f37 f38 f39 f40 f41 ta3 w3 le3 s3 f43 f44 f45 f46 f47 f48
  replace f0 := shm_1397 f0
  replace f1 := shm_1398 f1
  replace f2 := shm_1395 f2
  replace f3 := shm_1978 f3
  replace f4 := shm_1762 f4
  replace f5 := shm_144 f5
  have s1 : (∀ b j, w_el ws b j = if b = v_ad (n_v vs 17) ∧ j = (v_iv (n_v vs 24)).toNat then v_iv (n_v vs 27) else w_el w1 b j) ∧ ∀ b k, w_fd ws b k = w_fd w1 b k := s1.2
  replace f7 := shm_14 f7
  replace f8 := shm_189 f8
  replace f9 := shm_117 f9
  replace f10 := shm_12 f10
  replace f11 := shm_12 f11
  replace f12 := shm_109 f12
  replace f13 := shm_129 f13
  replace f14 := shm_1397 f14
  replace f15 := shm_1398 f15
  replace f16 := shm_1395 f16
  replace f17 := shm_1978 f17
  replace f18 := shm_1762 f18
  replace f19 := shm_144 f19
  have s2 : (∀ b j, w_el w1 b j = if b = v_ad (n_v vs 17) ∧ j = (v_iv (n_v vs 18)).toNat then v_iv (n_v vs 21) else w_el w2 b j) ∧ ∀ b k, w_fd w1 b k = w_fd w2 b k := s2.2
  replace f21 := shm_12 f21
  replace f22 := shm_106 f22
  replace f23 := shm_135 f23
  replace f24 := shm_136 f24
  replace f25 := shm_39 f25
  replace f26 := shm_142 f26
  replace f27 := shm_143 f27
  replace f28 := shm_130 f28
  replace f29 := shm_131 f29
  replace f30 := shm_135 f30
  replace f31 := shm_136 f31
  replace f32 := shm_1200 f32
  replace f33 := shm_1397 f33
  replace f34 := shm_1398 f34
  replace f35 := shm_1395 f35
  replace f36 := shm_1978 f36
  replace f37 := shm_981 f37
  replace f38 := shm_952 f38
  replace f39 := shm_1979 f39
  replace f40 := shm_1762 f40
  replace f41 := shm_144 f41
  replace f43 := shm_37 f43
  replace f44 := shm_32 f44
  replace f45 := shm_40 f45
  replace f46 := shm_39 f46
  replace f47 := shm_39 f47
  replace f48 := shm_154 f48
  have ar_0_2_1 : w_ar w1 (n_v vs 0) 2 = w_ar ws (n_v vs 0) 2 := congrArg v_ad (s1.2 _ _).symm
  have ar_0_2_2 : w_ar w2 (n_v vs 0) 2 = w_ar ws (n_v vs 0) 2 := by rw [← ar_0_2_1]; show v_ad (w_fd w2 _ _) = v_ad (w_fd w1 _ _); rw [s2.2]
  have cr_0_2 := fdq_12 hD hth r0
  have ar_0_3_1 : w_ar w1 (n_v vs 0) 3 = w_ar ws (n_v vs 0) 3 := congrArg v_ad (s1.2 _ _).symm
  have ar_0_3_2 : w_ar w2 (n_v vs 0) 3 = w_ar ws (n_v vs 0) 3 := by rw [← ar_0_3_1]; show v_ad (w_fd w2 _ _) = v_ad (w_fd w1 _ _); rw [s2.2]
  have cr_0_3 := fdq_141 hD hth r0
  have ar_0_4_1 : w_ar w1 (n_v vs 0) 4 = w_ar ws (n_v vs 0) 4 := congrArg v_ad (s1.2 _ _).symm
  have ar_0_4_2 : w_ar w2 (n_v vs 0) 4 = w_ar ws (n_v vs 0) 4 := by rw [← ar_0_4_1]; show v_ad (w_fd w2 _ _) = v_ad (w_fd w1 _ _); rw [s2.2]
  have cr_0_4 := fdq_142 hD hth r0
  have fi_0_5_1 : w_fi w1 (n_v vs 0) 5 = w_fi ws (n_v vs 0) 5 := by show v_iv (w_fd w1 _ _) = v_iv (w_fd ws _ _); rw [s1.2]
  have fi_0_5_2 : w_fi w2 (n_v vs 0) 5 = w_fi ws (n_v vs 0) 5 := by rw [← fi_0_5_1]; show v_iv (w_fd w2 _ _) = v_iv (w_fd w1 _ _); rw [s2.2]
  have ad_17 : v_ad (n_v vs 17) = w_ar ws (n_v vs 0) 2 := (congrArg v_ad f13).trans ar_0_2_1
  have g8 : v_iv (n_v vs 26) = w_fi w1 (n_v vs 0) 15 := congrArg v_iv f8
  have g9 : v_iv (n_v vs 25) = w_fi w1 (n_v vs 0) 11 := congrArg v_iv f9
  have g12 : v_iv (n_v vs 18) = w_fi w1 (n_v vs 0) 5 := congrArg v_iv f12
  simp only [ad_17] at f22
  have h22 : v_iv (n_v vs 19) = w_ei w2 (w_ar ws (n_v vs 0) 2) (v_iv (n_v vs 18)) := f22
  simp only [ar_0_2_2] at f23 f24
  simp only [fi_0_5_2] at f23 f24
  have g27 : v_iv (n_v vs 15) = w_fi w2 (n_v vs 0) 8 := congrArg v_iv f27
  simp only [ar_0_2_2, ar_0_3_2, ar_0_4_2] at f28 f29 f30 f31 f32 f37 f38 f39
  simp only [fi_0_5_2] at f28 f29 f30 f31
  have fe_0_5_1 : w_fi ws (n_v vs 0) 5 = w_fi w1 (n_v vs 0) 5 := congrArg v_iv (s1.2 _ _)
  have fe_0_8_1 : w_fi ws (n_v vs 0) 8 = w_fi w1 (n_v vs 0) 8 := congrArg v_iv (s1.2 _ _)
  have fe_0_11_1 : w_fi ws (n_v vs 0) 11 = w_fi w1 (n_v vs 0) 11 := congrArg v_iv (s1.2 _ _)
  have fe_0_12_1 : w_fi ws (n_v vs 0) 12 = w_fi w1 (n_v vs 0) 12 := congrArg v_iv (s1.2 _ _)
  have fe_0_15_1 : w_fi ws (n_v vs 0) 15 = w_fi w1 (n_v vs 0) 15 := congrArg v_iv (s1.2 _ _)
  have fe_0_5_2 : w_fi w1 (n_v vs 0) 5 = w_fi w2 (n_v vs 0) 5 := congrArg v_iv (s2.2 _ _)
  have fe_0_8_2 : w_fi w1 (n_v vs 0) 8 = w_fi w2 (n_v vs 0) 8 := congrArg v_iv (s2.2 _ _)
  have fe_0_11_2 : w_fi w1 (n_v vs 0) 11 = w_fi w2 (n_v vs 0) 11 := congrArg v_iv (s2.2 _ _)
  have fe_0_12_2 : w_fi w1 (n_v vs 0) 12 = w_fi w2 (n_v vs 0) 12 := congrArg v_iv (s2.2 _ _)
  have fe_0_15_2 : w_fi w1 (n_v vs 0) 15 = w_fi w2 (n_v vs 0) 15 := congrArg v_iv (s2.2 _ _)
  have hE_0_2_1 : ∀ j : Int, 0 ≤ j → (j = v_iv (n_v vs 24) → w_ei ws (w_ar ws (n_v vs 0) 2) j = v_iv (n_v vs 27)) ∧ (j ≠ v_iv (n_v vs 24) → w_ei ws (w_ar ws (n_v vs 0) 2) j = w_ei w1 (w_ar ws (n_v vs 0) 2) j) := fun j hj => ⟨fun h => by unfold w_ei; rw [s1.1, if_pos ⟨ad_17.symm, by rw [h]⟩], fun h => by unfold w_ei; rw [s1.1, if_neg (fun e => h (by have := e.2; omega))]⟩
  have hE_0_2_2 : ∀ j : Int, 0 ≤ j → (j = v_iv (n_v vs 18) → w_ei w1 (w_ar ws (n_v vs 0) 2) j = v_iv (n_v vs 21)) ∧ (j ≠ v_iv (n_v vs 18) → w_ei w1 (w_ar ws (n_v vs 0) 2) j = w_ei w2 (w_ar ws (n_v vs 0) 2) j) := fun j hj => ⟨fun h => by unfold w_ei; rw [s2.1, if_pos ⟨ad_17.symm, by rw [h]⟩], fun h => by unfold w_ei; rw [s2.1, if_neg (fun e => h (by have := e.2; omega))]⟩
  have hE_0_3_1 : ∀ j : Int, w_ei ws (w_ar ws (n_v vs 0) 3) j = w_ei w1 (w_ar ws (n_v vs 0) 3) j := el_kp s1.1 r17 cr_0_3 (by decide)
  have hE_0_3_2 : ∀ j : Int, w_ei w1 (w_ar ws (n_v vs 0) 3) j = w_ei w2 (w_ar ws (n_v vs 0) 3) j := el_kp s2.1 r17 cr_0_3 (by decide)
  have hK_0_3 := elq_77 hD hth cr_0_3
  have hE_0_4_1 : ∀ j : Int, w_ei ws (w_ar ws (n_v vs 0) 4) j = w_ei w1 (w_ar ws (n_v vs 0) 4) j := el_kp s1.1 r17 cr_0_4 (by decide)
  have hE_0_4_2 : ∀ j : Int, w_ei w1 (w_ar ws (n_v vs 0) 4) j = w_ei w2 (w_ar ws (n_v vs 0) 4) j := el_kp s2.1 r17 cr_0_4 (by decide)
  have hK_0_4 := elq_78 hD hth cr_0_4
  have kz_0_8 := fdq_14 hD hth r0
  have kz_0_11 := fdq_273 hD hth r0
  have kz_0_12 := fdq_186 hD hth r0
  have kz_0_15 := fdq_274 hD hth r0
  first | have hJ0 : w_ei w2 (w_ar ws (n_v vs 0) 2) ((w_fi w2 (n_v vs 0) 5 + 2)) = w_ei w2 (w_ar ws (n_v vs 0) 2) ((w_fi ws (n_v vs 0) 5 + 2)) := congrArg _ (show ((w_fi w2 (n_v vs 0) 5 + 2) : Int) = (w_fi ws (n_v vs 0) 5 + 2) from by omega) | skip
  first | have hI1 := (hE_0_2_1 ((w_fi ws (n_v vs 0) 5 + 2)) (by omega)).2 (by omega) | have hI1 := (hE_0_2_1 ((w_fi ws (n_v vs 0) 5 + 2)) (by omega)).1 (by omega) | skip
  first | have hI2 := (hE_0_2_2 ((w_fi ws (n_v vs 0) 5 + 2)) (by omega)).2 (by omega) | have hI2 := (hE_0_2_2 ((w_fi ws (n_v vs 0) 5 + 2)) (by omega)).1 (by omega) | skip
  first | have hI3 := (hE_0_2_1 ((w_fi ws (n_v vs 0) 5 + 1)) (by omega)).2 (by omega) | have hI3 := (hE_0_2_1 ((w_fi ws (n_v vs 0) 5 + 1)) (by omega)).1 (by omega) | skip
  first | have hI4 := (hE_0_2_2 ((w_fi ws (n_v vs 0) 5 + 1)) (by omega)).2 (by omega) | have hI4 := (hE_0_2_2 ((w_fi ws (n_v vs 0) 5 + 1)) (by omega)).1 (by omega) | skip
  have nf0 : fc_1 PRD (20, [4, 0], [30, -1, 1, 0, 0, -1, 1, 11]) ws (vs) := ⟨nf_in hl rfl, sgq_1891 (vc_Mo_met_16_0 (v_iv (n_v vs 4)) (v_iv (n_v vs 15)) (v_iv (n_v vs 18)) (v_iv (n_v vs 21)) (v_iv (n_v vs 24)) (v_iv (n_v vs 27)) (w_fi ws (n_v vs 0) 15) (w_fi ws (n_v vs 0) 11) (w_fi ws (n_v vs 0) 12) (w_fi ws (n_v vs 0) 8) (w_fi w1 (n_v vs 0) 15) (w_fi w1 (n_v vs 0) 11) (w_fi w1 (n_v vs 0) 5) (w_fi w1 (n_v vs 0) 12) (w_fi w1 (n_v vs 0) 8) (w_ei w2 (w_ar ws (n_v vs 0) 2)) (w_fi ws (n_v vs 0) 5) (w_fi w2 (n_v vs 0) 8) (w_fi w2 (n_v vs 0) 5) (w_fi w2 (n_v vs 0) 15) (w_fi w2 (n_v vs 0) 11) (w_fi w2 (n_v vs 0) 12) (w_ei w2 (w_ar ws (n_v vs 0) 3)) (w_ei w2 (w_ar ws (n_v vs 0) 4)) (w_ei ws (w_ar ws (n_v vs 0) 2)) (w_ei w1 (w_ar ws (n_v vs 0) 2)) (w_ei ws (w_ar ws (n_v vs 0) 3)) (w_ei w1 (w_ar ws (n_v vs 0) 3)) (w_ei ws (w_ar ws (n_v vs 0) 4)) (w_ei w1 (w_ar ws (n_v vs 0) 4)) k4 k15 k18 k21 k24 k27 f5 g27 fe_0_5_1 fe_0_8_1 fe_0_11_1 fe_0_12_1 fe_0_15_1 fe_0_5_2 fe_0_8_2 fe_0_11_2 fe_0_12_2 fe_0_15_2 hE_0_2_1 hE_0_2_2 hE_0_3_1 hE_0_3_2 hE_0_4_1 hE_0_4_2 kz_0_8 kz_0_11 kz_0_12 kz_0_15)⟩
  have nf1 : fc_1 PRD (20, [0], [50, 1, 0, 12, 1, 3, 2, 0, 12, 0, 1]) ws (vs) := ⟨nf_in hl rfl, sgq_1791 (vc_Mo_met_16_1 (v_iv (n_v vs 15)) (v_iv (n_v vs 18)) (v_iv (n_v vs 21)) (v_iv (n_v vs 24)) (v_iv (n_v vs 27)) (w_fi ws (n_v vs 0) 15) (w_fi ws (n_v vs 0) 11) (w_fi ws (n_v vs 0) 12) (w_fi ws (n_v vs 0) 8) (w_fi w1 (n_v vs 0) 15) (w_fi w1 (n_v vs 0) 11) (w_fi w1 (n_v vs 0) 5) (w_fi w1 (n_v vs 0) 12) (w_fi w1 (n_v vs 0) 8) (w_ei w2 (w_ar ws (n_v vs 0) 2)) (w_fi ws (n_v vs 0) 5) (w_fi w2 (n_v vs 0) 8) (w_fi w2 (n_v vs 0) 5) (w_fi w2 (n_v vs 0) 15) (w_fi w2 (n_v vs 0) 11) (w_fi w2 (n_v vs 0) 12) (w_ei w2 (w_ar ws (n_v vs 0) 3)) (w_ei w2 (w_ar ws (n_v vs 0) 4)) (w_ei ws (w_ar ws (n_v vs 0) 2)) (w_ei w1 (w_ar ws (n_v vs 0) 2)) (w_ei ws (w_ar ws (n_v vs 0) 3)) (w_ei w1 (w_ar ws (n_v vs 0) 3)) (w_ei ws (w_ar ws (n_v vs 0) 4)) (w_ei w1 (w_ar ws (n_v vs 0) 4)) k15 k18 k21 k24 k27 f5 g27 fe_0_5_1 fe_0_8_1 fe_0_11_1 fe_0_12_1 fe_0_15_1 fe_0_5_2 fe_0_8_2 fe_0_11_2 fe_0_12_2 fe_0_15_2 hE_0_2_1 hE_0_2_2 hE_0_3_1 hE_0_3_2 hE_0_4_1 hE_0_4_2 kz_0_8 kz_0_11 kz_0_12 kz_0_15)⟩
  have nf2 : fc_1 PRD (20, [2, 0], [50, 1, 1, 1005, 1002, 3, 6, 0, 2, 1, 0, 0, -1, 0, 10, 3, 1, 2, 4, 3, 2, 1, 5, 0, 1, 0, 47]) ws (vs) := ⟨nf_in hl rfl, sgq_1980 (vc_Mo_met_16_2 (v_iv (n_v vs 2)) (v_iv (n_v vs 15)) (v_iv (n_v vs 18)) (v_iv (n_v vs 21)) (v_iv (n_v vs 24)) (v_iv (n_v vs 27)) (w_fi ws (n_v vs 0) 15) (w_fi ws (n_v vs 0) 11) (w_fi ws (n_v vs 0) 12) (w_fi ws (n_v vs 0) 8) (w_fi w1 (n_v vs 0) 15) (w_fi w1 (n_v vs 0) 11) (w_fi w1 (n_v vs 0) 5) (w_fi w1 (n_v vs 0) 12) (w_fi w1 (n_v vs 0) 8) (w_ei w2 (w_ar ws (n_v vs 0) 2)) (w_fi ws (n_v vs 0) 5) (w_fi w2 (n_v vs 0) 8) (w_fi w2 (n_v vs 0) 5) (w_fi w2 (n_v vs 0) 15) (w_fi w2 (n_v vs 0) 11) (w_fi w2 (n_v vs 0) 12) (w_ei w2 (w_ar ws (n_v vs 0) 3)) (w_ei w2 (w_ar ws (n_v vs 0) 4)) (w_ei ws (w_ar ws (n_v vs 0) 2)) (w_ei w1 (w_ar ws (n_v vs 0) 2)) (w_ei ws (w_ar ws (n_v vs 0) 3)) (w_ei w1 (w_ar ws (n_v vs 0) 3)) (w_ei ws (w_ar ws (n_v vs 0) 4)) (w_ei w1 (w_ar ws (n_v vs 0) 4)) k2 k15 k18 k21 k24 k27 f5 g27 fe_0_5_1 fe_0_8_1 fe_0_11_1 fe_0_12_1 fe_0_15_1 fe_0_5_2 fe_0_8_2 fe_0_11_2 fe_0_12_2 fe_0_15_2 hE_0_2_1 hE_0_2_2 hE_0_3_1 hE_0_3_2 hE_0_4_1 hE_0_4_2 kz_0_8 kz_0_11 kz_0_12 kz_0_15)⟩
  have nf3 : fc_1 PRD (20, [1, 0], [50, 1, 1, 1005, 1002, 0, 6, 4, 2, 1, 0, 0, 1, 3, 1, 2, 4, 3, 2, 1, 5, 0, 2]) ws (vs) := ⟨nf_in hl rfl, sgq_981 (vc_Mo_met_16_3 (v_iv (n_v vs 1)) (v_iv (n_v vs 15)) (v_iv (n_v vs 18)) (v_iv (n_v vs 21)) (v_iv (n_v vs 24)) (v_iv (n_v vs 27)) (w_fi ws (n_v vs 0) 15) (w_fi ws (n_v vs 0) 11) (w_fi ws (n_v vs 0) 12) (w_fi ws (n_v vs 0) 8) (w_fi w1 (n_v vs 0) 15) (w_fi w1 (n_v vs 0) 11) (w_fi w1 (n_v vs 0) 5) (w_fi w1 (n_v vs 0) 12) (w_fi w1 (n_v vs 0) 8) (w_ei w2 (w_ar ws (n_v vs 0) 2)) (w_fi ws (n_v vs 0) 5) (w_fi w2 (n_v vs 0) 8) (w_fi w2 (n_v vs 0) 5) (w_fi w2 (n_v vs 0) 15) (w_fi w2 (n_v vs 0) 11) (w_fi w2 (n_v vs 0) 12) (w_ei w2 (w_ar ws (n_v vs 0) 3)) (w_ei w2 (w_ar ws (n_v vs 0) 4)) (w_ei ws (w_ar ws (n_v vs 0) 2)) (w_ei w1 (w_ar ws (n_v vs 0) 2)) (w_ei ws (w_ar ws (n_v vs 0) 3)) (w_ei w1 (w_ar ws (n_v vs 0) 3)) (w_ei ws (w_ar ws (n_v vs 0) 4)) (w_ei w1 (w_ar ws (n_v vs 0) 4)) k1 k15 k18 k21 k24 k27 f5 g27 fe_0_5_1 fe_0_8_1 fe_0_11_1 fe_0_12_1 fe_0_15_1 fe_0_5_2 fe_0_8_2 fe_0_11_2 fe_0_12_2 fe_0_15_2 hE_0_2_1 hE_0_2_2 hE_0_3_1 hE_0_3_2 hE_0_4_1 hE_0_4_2 kz_0_8 kz_0_11 kz_0_12 kz_0_15)⟩
  have nf4 : fc_1 PRD (20, [0, 16], [60, 1, 3, 200, 5, 2, 3, 4]) ws (vs) := ⟨nf_in hl rfl, sgq_1718 (vc_Mo_met_16_4 (v_iv (n_v vs 15)) (v_iv (n_v vs 16)) (w_fi ws (n_v vs 0) 15) (w_fi ws (n_v vs 0) 11) (w_fi ws (n_v vs 0) 12) (w_fi ws (n_v vs 0) 8) (w_fi w1 (n_v vs 0) 15) (w_fi w1 (n_v vs 0) 11) (w_fi w1 (n_v vs 0) 5) (w_fi w1 (n_v vs 0) 12) (w_fi w1 (n_v vs 0) 8) (w_fi ws (n_v vs 0) 5) (w_fi w2 (n_v vs 0) 8) (w_fi w2 (n_v vs 0) 5) (w_fi w2 (n_v vs 0) 15) (w_fi w2 (n_v vs 0) 11) (w_fi w2 (n_v vs 0) 12) (w_ei w2 (w_ar ws (n_v vs 0) 3)) (w_ei w2 (w_ar ws (n_v vs 0) 4)) (w_ei ws (w_ar ws (n_v vs 0) 2)) (w_ei ws (w_ar ws (n_v vs 0) 3)) (w_ei w1 (w_ar ws (n_v vs 0) 3)) (w_ei ws (w_ar ws (n_v vs 0) 4)) (w_ei w1 (w_ar ws (n_v vs 0) 4)) k15 k16 f5 g27 fe_0_5_1 fe_0_8_1 fe_0_11_1 fe_0_12_1 fe_0_15_1 fe_0_5_2 fe_0_8_2 fe_0_11_2 fe_0_12_2 fe_0_15_2 hE_0_3_1 hE_0_3_2 hE_0_4_1 hE_0_4_2 kz_0_8 kz_0_11 kz_0_12 kz_0_15)⟩
  have nf5 : fc_1 PRD (20, [0, 2, 16], [60, 1, 1, 243, 5, 2]) ws (vs) := ⟨nf_in hl rfl, sgq_1981 (vc_Mo_met_16_5 (v_iv (n_v vs 2)) (v_iv (n_v vs 15)) (v_iv (n_v vs 16)) (w_fi ws (n_v vs 0) 15) (w_fi ws (n_v vs 0) 11) (w_fi ws (n_v vs 0) 12) (w_fi ws (n_v vs 0) 8) (w_fi w1 (n_v vs 0) 15) (w_fi w1 (n_v vs 0) 11) (w_fi w1 (n_v vs 0) 5) (w_fi w1 (n_v vs 0) 12) (w_fi w1 (n_v vs 0) 8) (w_fi ws (n_v vs 0) 5) (w_fi w2 (n_v vs 0) 8) (w_fi w2 (n_v vs 0) 5) (w_fi w2 (n_v vs 0) 15) (w_fi w2 (n_v vs 0) 11) (w_fi w2 (n_v vs 0) 12) (w_ei w2 (w_ar ws (n_v vs 0) 3)) (w_ei w2 (w_ar ws (n_v vs 0) 4)) (w_ei ws (w_ar ws (n_v vs 0) 2)) (w_ei ws (w_ar ws (n_v vs 0) 3)) (w_ei w1 (w_ar ws (n_v vs 0) 3)) (w_ei ws (w_ar ws (n_v vs 0) 4)) (w_ei w1 (w_ar ws (n_v vs 0) 4)) k2 k15 k16 f5 g27 fe_0_5_1 fe_0_8_1 fe_0_11_1 fe_0_12_1 fe_0_15_1 fe_0_5_2 fe_0_8_2 fe_0_11_2 fe_0_12_2 fe_0_15_2 hE_0_3_1 hE_0_3_2 hE_0_4_1 hE_0_4_2 kz_0_8 kz_0_11 kz_0_12 kz_0_15)⟩
  have nf6 : fc_1 PRD (24, [0, 0], []) ws (vs) := by
    refine ⟨nf_in hl rfl, sgq_1 ?_⟩
    · show n_v vs 0 = n_v vs 0
      first | rfl | simp only [true_and]
  have nf7 : fc_1 PRD (24, [1, 1], []) ws (vs) := by
    refine ⟨nf_in hl rfl, sgq_1 ?_⟩
    · show n_v vs 1 = n_v vs 1
      first | rfl | simp only [true_and]
  have nf8 : fc_1 PRD (24, [2, 2], []) ws (vs) := by
    refine ⟨nf_in hl rfl, sgq_1 ?_⟩
    · show n_v vs 2 = n_v vs 2
      first | rfl | simp only [true_and]
  refine ⟨(fun _ h => (by cases h)), [], trivial, ?_, (fun _ h => (by cases h))⟩
  rw [List.append_nil]
  exact List.forall_mem_cons.mpr ⟨⟨show (20 : Nat) < 100 from by decide, nf0⟩, List.forall_mem_cons.mpr ⟨⟨show (20 : Nat) < 100 from by decide, nf1⟩, List.forall_mem_cons.mpr ⟨⟨show (20 : Nat) < 100 from by decide, nf2⟩, List.forall_mem_cons.mpr ⟨⟨show (20 : Nat) < 100 from by decide, nf3⟩, List.forall_mem_cons.mpr ⟨⟨show (20 : Nat) < 100 from by decide, nf4⟩, List.forall_mem_cons.mpr ⟨⟨show (20 : Nat) < 100 from by decide, nf5⟩, List.forall_mem_cons.mpr ⟨⟨show (24 : Nat) < 100 from by decide, nf6⟩, List.forall_mem_cons.mpr ⟨⟨show (24 : Nat) < 100 from by decide, nf7⟩, List.forall_mem_cons.mpr ⟨⟨show (24 : Nat) < 100 from by decide, nf8⟩, (fun _ h => (by cases h))⟩⟩⟩⟩⟩⟩⟩⟩⟩

set_option maxHeartbeats 4000000 in
theorem vc_Mo_met_17_0 (x3 : Int) (x15 : Int) (fault_0 : Int) (r_0 : Int) (pos_0 : Int) (kind_0 : Int) (k3 : 0 ≤ x3 ∧ x3 ≤ 2000) (k15 : 1 ≤ x15 ∧ x15 ≤ 5) (g1 : x15 = fault_0) (kz_0_8 : 0 ≤ fault_0 ∧ fault_0 ≤ 5) (kz_0_11 : 0 ≤ pos_0 ∧ pos_0 ≤ 2000) (kz_0_12 : 0 ≤ kind_0 ∧ kind_0 ≤ 4) : (1 ≤ fault_0) ∨ ((kind_0 = 0) ∨ ((x3 + 1) ≤ pos_0)) := by
  first
    | omega
    | (have q1 := (hE_0_2_1 (r_0 + 2) (by omega)).2 (by omega)
       have q2 := (hE_0_2_2 (r_0 + 2) (by omega)).2 (by omega)
       omega)
    | (have q1 := (hE_0_2_1 (r_0 + 1) (by omega)).2 (by omega)
       have q2 := (hE_0_2_2 (r_0 + 1) (by omega)).2 (by omega)
       omega)
    | (have q1 := (hE_0_2_1 (r_0 + 2) (by omega)).2 (by omega)
       omega)
    | (have q1 := (hE_0_2_1 (r_0 + 1) (by omega)).2 (by omega)
       omega)
    | (have q1 := (hE_0_2_1 (r_0 + 2) (by omega)).2 (by omega)
       have q2 := (hE_0_2_2 (r_0 + 2) (by omega)).2 (by omega)
       have q3 := (hE_0_2_3 (r_0 + 2) (by omega)).1 (by omega)
       omega)
    | (have q1 := (hE_0_2_1 (r_0 + 2) (by omega)).2 (by omega)
       have q2 := (hE_0_2_2 (r_0 + 2) (by omega)).2 (by omega)
       have q3 := (hE_0_2_3 (r_0 + 2) (by omega)).2 (by omega)
       omega)
set_option maxHeartbeats 4000000 in
theorem vc_Mo_met_17_1 (x4 : Int) (x15 : Int) (fault_0 : Int) (r_0 : Int) (pos_0 : Int) (k4 : 0 ≤ x4 ∧ x4 ≤ 2000) (k15 : 1 ≤ x15 ∧ x15 ≤ 5) (g1 : x15 = fault_0) (kz_0_8 : 0 ≤ fault_0 ∧ fault_0 ≤ 5) (kz_0_11 : 0 ≤ pos_0 ∧ pos_0 ≤ 2000) : (1 ≤ fault_0) ∨ ((x4 + 1) ≤ pos_0) := by
  first
    | omega
    | (have q1 := (hE_0_2_1 (r_0 + 2) (by omega)).2 (by omega)
       have q2 := (hE_0_2_2 (r_0 + 2) (by omega)).2 (by omega)
       omega)
    | (have q1 := (hE_0_2_1 (r_0 + 1) (by omega)).2 (by omega)
       have q2 := (hE_0_2_2 (r_0 + 1) (by omega)).2 (by omega)
       omega)
    | (have q1 := (hE_0_2_1 (r_0 + 2) (by omega)).2 (by omega)
       omega)
    | (have q1 := (hE_0_2_1 (r_0 + 1) (by omega)).2 (by omega)
       omega)
    | (have q1 := (hE_0_2_1 (r_0 + 2) (by omega)).2 (by omega)
       have q2 := (hE_0_2_2 (r_0 + 2) (by omega)).2 (by omega)
       have q3 := (hE_0_2_3 (r_0 + 2) (by omega)).1 (by omega)
       omega)
    | (have q1 := (hE_0_2_1 (r_0 + 2) (by omega)).2 (by omega)
       have q2 := (hE_0_2_2 (r_0 + 2) (by omega)).2 (by omega)
       have q3 := (hE_0_2_3 (r_0 + 2) (by omega)).2 (by omega)
       omega)
set_option maxHeartbeats 4000000 in
theorem vc_Mo_met_17_2 (x15 : Int) (x16 : Int) (fault_0 : Int) (r_0 : Int) (k15 : 1 ≤ x15 ∧ x15 ≤ 5) (k16 : (-1) ≤ x16 ∧ x16 ≤ (-1)) (g1 : x15 = fault_0) (kz_0_8 : 0 ≤ fault_0 ∧ fault_0 ≤ 5) : ((-1) * fault_0 + 0 ≤ (-1)) ∨ ((-1) * x16 + 0 ≤ 0) := by
  first
    | omega
    | (have q1 := (hE_0_2_1 (r_0 + 2) (by omega)).2 (by omega)
       have q2 := (hE_0_2_2 (r_0 + 2) (by omega)).2 (by omega)
       omega)
    | (have q1 := (hE_0_2_1 (r_0 + 1) (by omega)).2 (by omega)
       have q2 := (hE_0_2_2 (r_0 + 1) (by omega)).2 (by omega)
       omega)
    | (have q1 := (hE_0_2_1 (r_0 + 2) (by omega)).2 (by omega)
       omega)
    | (have q1 := (hE_0_2_1 (r_0 + 1) (by omega)).2 (by omega)
       omega)
    | (have q1 := (hE_0_2_1 (r_0 + 2) (by omega)).2 (by omega)
       have q2 := (hE_0_2_2 (r_0 + 2) (by omega)).2 (by omega)
       have q3 := (hE_0_2_3 (r_0 + 2) (by omega)).1 (by omega)
       omega)
    | (have q1 := (hE_0_2_1 (r_0 + 2) (by omega)).2 (by omega)
       have q2 := (hE_0_2_2 (r_0 + 2) (by omega)).2 (by omega)
       have q3 := (hE_0_2_3 (r_0 + 2) (by omega)).2 (by omega)
       omega)
set_option maxHeartbeats 4000000 in
theorem vc_Mo_met_17_3 (x2 : Int) (x15 : Int) (fault_0 : Int) (all_0 : Int → Int) (r_0 : Int) (k2 : 0 ≤ x2 ∧ x2 ≤ 23) (k15 : 1 ≤ x15 ∧ x15 ≤ 5) (g1 : x15 = fault_0) (kz_0_8 : 0 ≤ fault_0 ∧ fault_0 ≤ 5) : (1 ≤ fault_0) ∨ ((x2 ≤ (-1)) ∨ (all_0 ((r_0 + 1)) ≤ 47)) := by
  first
    | omega
    | (have q1 := (hE_0_2_1 (r_0 + 2) (by omega)).2 (by omega)
       have q2 := (hE_0_2_2 (r_0 + 2) (by omega)).2 (by omega)
       omega)
    | (have q1 := (hE_0_2_1 (r_0 + 1) (by omega)).2 (by omega)
       have q2 := (hE_0_2_2 (r_0 + 1) (by omega)).2 (by omega)
       omega)
    | (have q1 := (hE_0_2_1 (r_0 + 2) (by omega)).2 (by omega)
       omega)
    | (have q1 := (hE_0_2_1 (r_0 + 1) (by omega)).2 (by omega)
       omega)
    | (have q1 := (hE_0_2_1 (r_0 + 2) (by omega)).2 (by omega)
       have q2 := (hE_0_2_2 (r_0 + 2) (by omega)).2 (by omega)
       have q3 := (hE_0_2_3 (r_0 + 2) (by omega)).1 (by omega)
       omega)
    | (have q1 := (hE_0_2_1 (r_0 + 2) (by omega)).2 (by omega)
       have q2 := (hE_0_2_2 (r_0 + 2) (by omega)).2 (by omega)
       have q3 := (hE_0_2_3 (r_0 + 2) (by omega)).2 (by omega)
       omega)
set_option maxHeartbeats 4000000 in
theorem vc_Mo_met_17_4 (x2 : Int) (x15 : Int) (x16 : Int) (fault_0 : Int) (all_0 : Int → Int) (r_0 : Int) (k2 : 0 ≤ x2 ∧ x2 ≤ 23) (k15 : 1 ≤ x15 ∧ x15 ≤ 5) (k16 : (-1) ≤ x16 ∧ x16 ≤ (-1)) (g1 : x15 = fault_0) (kz_0_8 : 0 ≤ fault_0 ∧ fault_0 ≤ 5) : MET (r_0) (fault_0) (all_0) (x2) (x16) := by
  first
    | (intro q; exfalso; omega)
    | exact fun _ => ‹MEN _ _ _ _›
def o_Mo_met_17 : or_T := (121, 17, [(0, (2, 0, 0, [165])), (2, (0, 0, 23, [])), (3, (0, 0, 2000, [])), (4, (0, 0, 2000, [])), (15, (0, 1, 5, [])), (16, (0, -1, -1, []))], [(9, [15, 0], [8])], [], [], [(20, [0, 3], [50, 3, 0, 8, 12, 11, 3, 7, 0, 2, 0, 1, 2, 0, 8, 3, 7, 1, 3, 2, 0, 12, 0, 0, 0, 6, 4, 2, 1, 1, 0, 1, 2, 0, 11]), (20, [0, 4], [50, 2, 0, 8, 11, 3, 7, 0, 2, 0, 1, 2, 0, 8, 0, 6, 4, 2, 1, 1, 0, 1, 2, 0, 11]), (20, [0, 16], [31, 1, -1, -1, 1, 8, 0, -1, 0, 0]), (20, [0, 2], [50, 2, 1, 8, 5, 2, 3, 7, 0, 2, 0, 1, 2, 0, 8, 3, 6, 0, 2, 1, 1, 0, -1, 0, 10, 3, 0, 2, 4, 3, 2, 0, 5, 0, 1, 0, 47]), (20, [0, 2, 16], [60, 2, 1, 240, 5, 8, 2])], [], [])
theorem oo_Mo_met_17 {kA : Nat → ClassId} : or_ok PRD kA GG o_Mo_met_17 := by
  refine or_mk fun A ta ws vs hD hth hl => ?_
  intro t0 r0 t2 k2 t3 k3 t4 k4 t15 k15 t16 k16 f1
  replace f1 := shm_143 f1
  have g1 : v_iv (n_v vs 15) = w_fi ws (n_v vs 0) 8 := congrArg v_iv f1
  have kz_0_8 := fdq_14 hD hth r0
  have kz_0_11 := fdq_273 hD hth r0
  have kz_0_12 := fdq_186 hD hth r0
  have nf0 : fc_1 PRD (20, [0, 3], [50, 3, 0, 8, 12, 11, 3, 7, 0, 2, 0, 1, 2, 0, 8, 3, 7, 1, 3, 2, 0, 12, 0, 0, 0, 6, 4, 2, 1, 1, 0, 1, 2, 0, 11]) ws (vs) := ⟨nf_in hl rfl, sgq_1660 (vc_Mo_met_17_0 (v_iv (n_v vs 3)) (v_iv (n_v vs 15)) (w_fi ws (n_v vs 0) 8) (w_fi ws (n_v vs 0) 5) (w_fi ws (n_v vs 0) 11) (w_fi ws (n_v vs 0) 12) k3 k15 g1 kz_0_8 kz_0_11 kz_0_12)⟩
  have nf1 : fc_1 PRD (20, [0, 4], [50, 2, 0, 8, 11, 3, 7, 0, 2, 0, 1, 2, 0, 8, 0, 6, 4, 2, 1, 1, 0, 1, 2, 0, 11]) ws (vs) := ⟨nf_in hl rfl, sgq_1659 (vc_Mo_met_17_1 (v_iv (n_v vs 4)) (v_iv (n_v vs 15)) (w_fi ws (n_v vs 0) 8) (w_fi ws (n_v vs 0) 5) (w_fi ws (n_v vs 0) 11) k4 k15 g1 kz_0_8 kz_0_11)⟩
  have nf2 : fc_1 PRD (20, [0, 16], [31, 1, -1, -1, 1, 8, 0, -1, 0, 0]) ws (vs) := ⟨nf_in hl rfl, sgq_1982 (vc_Mo_met_17_2 (v_iv (n_v vs 15)) (v_iv (n_v vs 16)) (w_fi ws (n_v vs 0) 8) (w_fi ws (n_v vs 0) 5) k15 k16 g1 kz_0_8)⟩
  have nf3 : fc_1 PRD (20, [0, 2], [50, 2, 1, 8, 5, 2, 3, 7, 0, 2, 0, 1, 2, 0, 8, 3, 6, 0, 2, 1, 1, 0, -1, 0, 10, 3, 0, 2, 4, 3, 2, 0, 5, 0, 1, 0, 47]) ws (vs) := ⟨nf_in hl rfl, sgq_1983 (vc_Mo_met_17_3 (v_iv (n_v vs 2)) (v_iv (n_v vs 15)) (w_fi ws (n_v vs 0) 8) (w_ei ws (w_ar ws (n_v vs 0) 2)) (w_fi ws (n_v vs 0) 5) k2 k15 g1 kz_0_8)⟩
  have nf4 : fc_1 PRD (20, [0, 2, 16], [60, 2, 1, 240, 5, 8, 2]) ws (vs) := ⟨nf_in hl rfl, sgq_1984 (vc_Mo_met_17_4 (v_iv (n_v vs 2)) (v_iv (n_v vs 15)) (v_iv (n_v vs 16)) (w_fi ws (n_v vs 0) 8) (w_ei ws (w_ar ws (n_v vs 0) 2)) (w_fi ws (n_v vs 0) 5) k2 k15 k16 g1 kz_0_8)⟩
  refine ⟨(fun _ h => (by cases h)), [], trivial, ?_, (fun _ h => (by cases h))⟩
  rw [List.append_nil]
  exact List.forall_mem_cons.mpr ⟨⟨show (20 : Nat) < 100 from by decide, nf0⟩, List.forall_mem_cons.mpr ⟨⟨show (20 : Nat) < 100 from by decide, nf1⟩, List.forall_mem_cons.mpr ⟨⟨show (20 : Nat) < 100 from by decide, nf2⟩, List.forall_mem_cons.mpr ⟨⟨show (20 : Nat) < 100 from by decide, nf3⟩, List.forall_mem_cons.mpr ⟨⟨show (20 : Nat) < 100 from by decide, nf4⟩, (fun _ h => (by cases h))⟩⟩⟩⟩⟩
set_option maxHeartbeats 4000000 in
theorem vc_Mo_met_18_0 (x2 : Int) (all_0 : Int → Int) (r_0 : Int) (k2 : (-1) ≤ x2 ∧ x2 ≤ (-1)) : (x2 ≤ (-1)) ∨ (all_0 ((r_0 + 1)) ≤ 47) := by
  first
    | omega
    | (have q1 := (hE_0_2_1 (r_0 + 2) (by omega)).2 (by omega)
       have q2 := (hE_0_2_2 (r_0 + 2) (by omega)).2 (by omega)
       omega)
    | (have q1 := (hE_0_2_1 (r_0 + 1) (by omega)).2 (by omega)
       have q2 := (hE_0_2_2 (r_0 + 1) (by omega)).2 (by omega)
       omega)
    | (have q1 := (hE_0_2_1 (r_0 + 2) (by omega)).2 (by omega)
       omega)
    | (have q1 := (hE_0_2_1 (r_0 + 1) (by omega)).2 (by omega)
       omega)
    | (have q1 := (hE_0_2_1 (r_0 + 2) (by omega)).2 (by omega)
       have q2 := (hE_0_2_2 (r_0 + 2) (by omega)).2 (by omega)
       have q3 := (hE_0_2_3 (r_0 + 2) (by omega)).1 (by omega)
       omega)
    | (have q1 := (hE_0_2_1 (r_0 + 2) (by omega)).2 (by omega)
       have q2 := (hE_0_2_2 (r_0 + 2) (by omega)).2 (by omega)
       have q3 := (hE_0_2_3 (r_0 + 2) (by omega)).2 (by omega)
       omega)
set_option maxHeartbeats 4000000 in
theorem vc_Mo_met_18_1 (x2 : Int) (x7 : Int) (all_0 : Int → Int) (r_0 : Int) (now_0 : Int → Int) (latest_0 : Int → Int) (k2 : (-1) ≤ x2 ∧ x2 ≤ (-1)) (k7 : 0 ≤ x7 ∧ x7 ≤ 23) (f3 : x2 < 0) (f4 : 0 ≤ x7) (f5 : NDB (r_0) (all_0) (x7)) (f12 : RWS (r_0) (all_0) (now_0) (latest_0)) (f13 : MEB (r_0) (all_0) (x2)) : MEN (r_0) (all_0) (x2) (x7) := by
  try simp only [Int.add_zero] at *
  first
    | (exfalso; omega)
    | (have hr := rwn_r ‹RWN _ _ _ _ _›
       have hb := ‹MEN _ _ _ _›.1
       exact men_off (by omega) (men_off (by omega) ‹MEN _ _ _ _› (by assumption) (by omega)) (by assumption) (by omega))
    | exact men_old ‹RWS _ _ _ _› ‹NDB _ _ _› (by omega) ‹MEB _ _ _› (Or.inl (by omega))
    | exact men_old ‹RWS _ _ _ _› ‹NDB _ _ _› (by omega) ‹MEB _ _ _› (Or.inr ⟨by omega, ‹BTP _ _ _ _ _› (by omega), by omega⟩)
set_option maxHeartbeats 4000000 in
theorem vc_Mo_met_18_2 (r_0 : Int) (pos_0 : Int) (gx : Int) (kz_0_11 : 0 ≤ pos_0 ∧ pos_0 ≤ 2000) (ex2 : gx = pos_0) : 1 * gx + ((-1) * pos_0 + 0) ≤ 0 := by
  first
    | omega
    | (have q1 := (hE_0_2_1 (r_0 + 2) (by omega)).2 (by omega)
       have q2 := (hE_0_2_2 (r_0 + 2) (by omega)).2 (by omega)
       omega)
    | (have q1 := (hE_0_2_1 (r_0 + 1) (by omega)).2 (by omega)
       have q2 := (hE_0_2_2 (r_0 + 1) (by omega)).2 (by omega)
       omega)
    | (have q1 := (hE_0_2_1 (r_0 + 2) (by omega)).2 (by omega)
       omega)
    | (have q1 := (hE_0_2_1 (r_0 + 1) (by omega)).2 (by omega)
       omega)
    | (have q1 := (hE_0_2_1 (r_0 + 2) (by omega)).2 (by omega)
       have q2 := (hE_0_2_2 (r_0 + 2) (by omega)).2 (by omega)
       have q3 := (hE_0_2_3 (r_0 + 2) (by omega)).1 (by omega)
       omega)
    | (have q1 := (hE_0_2_1 (r_0 + 2) (by omega)).2 (by omega)
       have q2 := (hE_0_2_2 (r_0 + 2) (by omega)).2 (by omega)
       have q3 := (hE_0_2_3 (r_0 + 2) (by omega)).2 (by omega)
       omega)
set_option maxHeartbeats 4000000 in
theorem vc_Mo_met_18_3 (x3 : Int) (r_0 : Int) (pos_0 : Int) (gx : Int) (k3 : 0 ≤ x3 ∧ x3 ≤ 2000) (f9 : 1 * x3 + ((-1) * pos_0 + 0) ≤ 0) (kz_0_11 : 0 ≤ pos_0 ∧ pos_0 ≤ 2000) (ex2 : gx = pos_0) : 1 * x3 + ((-1) * gx + 0) ≤ 0 := by
  first
    | omega
    | (have q1 := (hE_0_2_1 (r_0 + 2) (by omega)).2 (by omega)
       have q2 := (hE_0_2_2 (r_0 + 2) (by omega)).2 (by omega)
       omega)
    | (have q1 := (hE_0_2_1 (r_0 + 1) (by omega)).2 (by omega)
       have q2 := (hE_0_2_2 (r_0 + 1) (by omega)).2 (by omega)
       omega)
    | (have q1 := (hE_0_2_1 (r_0 + 2) (by omega)).2 (by omega)
       omega)
    | (have q1 := (hE_0_2_1 (r_0 + 1) (by omega)).2 (by omega)
       omega)
    | (have q1 := (hE_0_2_1 (r_0 + 2) (by omega)).2 (by omega)
       have q2 := (hE_0_2_2 (r_0 + 2) (by omega)).2 (by omega)
       have q3 := (hE_0_2_3 (r_0 + 2) (by omega)).1 (by omega)
       omega)
    | (have q1 := (hE_0_2_1 (r_0 + 2) (by omega)).2 (by omega)
       have q2 := (hE_0_2_2 (r_0 + 2) (by omega)).2 (by omega)
       have q3 := (hE_0_2_3 (r_0 + 2) (by omega)).2 (by omega)
       omega)
set_option maxHeartbeats 4000000 in
theorem vc_Mo_met_18_4 (x4 : Int) (x6 : Int) (r_0 : Int) (pos_0 : Int) (kind_0 : Int) (gx : Int) (k4 : 0 ≤ x4 ∧ x4 ≤ 2000) (k6 : 1 ≤ x6 ∧ x6 ≤ 1) (f10 : (kind_0 = 0) ∨ ((x4 + 1) ≤ pos_0)) (f14 : (x6 = 1) → (kind_0 = 1)) (kz_0_11 : 0 ≤ pos_0 ∧ pos_0 ≤ 2000) (kz_0_12 : 0 ≤ kind_0 ∧ kind_0 ≤ 4) (ex2 : gx = pos_0) : 1 * x4 + ((-1) * gx + 0) ≤ (-1) := by
  first
    | omega
    | (have q1 := (hE_0_2_1 (r_0 + 2) (by omega)).2 (by omega)
       have q2 := (hE_0_2_2 (r_0 + 2) (by omega)).2 (by omega)
       omega)
    | (have q1 := (hE_0_2_1 (r_0 + 1) (by omega)).2 (by omega)
       have q2 := (hE_0_2_2 (r_0 + 1) (by omega)).2 (by omega)
       omega)
    | (have q1 := (hE_0_2_1 (r_0 + 2) (by omega)).2 (by omega)
       omega)
    | (have q1 := (hE_0_2_1 (r_0 + 1) (by omega)).2 (by omega)
       omega)
    | (have q1 := (hE_0_2_1 (r_0 + 2) (by omega)).2 (by omega)
       have q2 := (hE_0_2_2 (r_0 + 2) (by omega)).2 (by omega)
       have q3 := (hE_0_2_3 (r_0 + 2) (by omega)).1 (by omega)
       omega)
    | (have q1 := (hE_0_2_1 (r_0 + 2) (by omega)).2 (by omega)
       have q2 := (hE_0_2_2 (r_0 + 2) (by omega)).2 (by omega)
       have q3 := (hE_0_2_3 (r_0 + 2) (by omega)).2 (by omega)
       omega)
def o_Mo_met_18 : or_T := (254, 9, [(0, (2, 0, 0, [165])), (2, (0, -1, -1, [])), (3, (0, 0, 2000, [])), (4, (0, 0, 2000, [])), (6, (0, 1, 1, [])), (7, (0, 0, 23, []))], [(8, [2], [2]), (8, [7], [3]), (20, [0, 7], [60, 1, 1, 207, 5, 2]), (20, [3, 0], [30, 0, 1, 0, 0, -1, 1, 11]), (20, [0, 4], [50, 2, 0, 12, 11, 3, 7, 1, 3, 2, 0, 12, 0, 0, 0, 6, 4, 2, 1, 1, 0, 1, 2, 0, 11]), (20, [0], [60, 1, 3, 199, 5, 2, 3, 4]), (20, [0, 2], [60, 1, 1, 241, 5, 2]), (20, [6, 0], [50, 1, 0, 1012, 4, 6, 1, 2, 1, 0, 0, 1, 1, 3, 2, 1, 12, 0, 1])], [], [(0, 0, 2000, [])], [(20, [2, 0], [50, 1, 1, 1005, 1002, 3, 6, 0, 2, 1, 0, 0, -1, 0, 10, 3, 1, 2, 4, 3, 2, 1, 5, 0, 1, 0, 47]), (20, [0, 2, 7], [60, 1, 1, 243, 5, 2]), (20, [9, 0], [30, 0, 1, 0, 0, -1, 1, 11]), (23, [3, 9], [0, 1, -1]), (23, [4, 9], [-1, 1, -1])], [], [])
theorem oo_Mo_met_18 {kA : Nat → ClassId} : or_ok PRD kA GG o_Mo_met_18 := by
  refine or_mk fun A ta ws vs hD hth hl => ?_
  intro t0 r0 t2 k2 t3 k3 t4 k4 t6 k6 t7 k7 f3 f4 f5 f9 f10 f12 f13 f14
  replace f3 := shm_39 f3
  replace f4 := shm_32 f4
  replace f5 := shm_1200 f5
  replace f9 := shm_1395 f9
  replace f10 := shm_1978 f10
  replace f12 := shm_952 f12
  replace f13 := shm_1979 f13
  replace f14 := shm_1762 f14
  have kz_0_11 := fdq_273 hD hth r0
  have kz_0_12 := fdq_186 hD hth r0
  obtain ⟨x, ex, hx⟩ := iv_ex (ta := ta) (lo := 0) (hi := 2000) (z := w_fi ws (n_v vs 0) 11) (by omega) (by omega) (by omega) (by omega)
  have ex2 : v_iv (Value.int x) = w_fi ws (n_v vs 0) 11 := ex
  have ex3 : 0 ≤ v_iv (Value.int x) ∧ v_iv (Value.int x) ≤ 2000 := tv_rng hx
  have e_0 : n_v (vs ++ [Value.int x]) 0 = n_v vs 0 := n_v_old (by rw [hl]; decide)
  have e_2 : n_v (vs ++ [Value.int x]) 2 = n_v vs 2 := n_v_old (by rw [hl]; decide)
  have e_3 : n_v (vs ++ [Value.int x]) 3 = n_v vs 3 := n_v_old (by rw [hl]; decide)
  have e_4 : n_v (vs ++ [Value.int x]) 4 = n_v vs 4 := n_v_old (by rw [hl]; decide)
  have e_7 : n_v (vs ++ [Value.int x]) 7 = n_v vs 7 := n_v_old (by rw [hl]; decide)
  have e_9 : n_v (vs ++ [Value.int x]) 9 = Value.int x := n_v_new hl
  have nf0 : fc_1 PRD (20, [2, 0], [50, 1, 1, 1005, 1002, 3, 6, 0, 2, 1, 0, 0, -1, 0, 10, 3, 1, 2, 4, 3, 2, 1, 5, 0, 1, 0, 47]) ws (vs ++ [Value.int x]) := by
    refine ⟨nf_inA hl rfl, sgq_1980 ?_⟩
    · show (v_iv (n_v (vs ++ [Value.int x]) 2) ≤ (-1)) ∨ (w_ei ws (w_ar ws (n_v (vs ++ [Value.int x]) 0) 2) ((w_fi ws (n_v (vs ++ [Value.int x]) 0) 5 + 1)) ≤ 47)
      simp only [e_0, e_2]
      exact vc_Mo_met_18_0 (v_iv (n_v vs 2)) (w_ei ws (w_ar ws (n_v vs 0) 2)) (w_fi ws (n_v vs 0) 5) k2
  have nf1 : fc_1 PRD (20, [0, 2, 7], [60, 1, 1, 243, 5, 2]) ws (vs ++ [Value.int x]) := by
    refine ⟨nf_inA hl rfl, sgq_1981 ?_⟩
    · show MEN (w_fi ws (n_v (vs ++ [Value.int x]) 0) 5) (w_ei ws (w_ar ws (n_v (vs ++ [Value.int x]) 0) 2)) (v_iv (n_v (vs ++ [Value.int x]) 2)) (v_iv (n_v (vs ++ [Value.int x]) 7))
      simp only [e_0, e_2, e_7]
      exact vc_Mo_met_18_1 (v_iv (n_v vs 2)) (v_iv (n_v vs 7)) (w_ei ws (w_ar ws (n_v vs 0) 2)) (w_fi ws (n_v vs 0) 5) (w_ei ws (w_ar ws (n_v vs 0) 3)) (w_ei ws (w_ar ws (n_v vs 0) 4)) k2 k7 f3 f4 f5 f12 f13
  have nf2 : fc_1 PRD (20, [9, 0], [30, 0, 1, 0, 0, -1, 1, 11]) ws (vs ++ [Value.int x]) := by
    refine ⟨nf_inA hl rfl, sgq_1395 ?_⟩
    · show 1 * v_iv (n_v (vs ++ [Value.int x]) 9) + ((-1) * w_fi ws (n_v (vs ++ [Value.int x]) 0) 11 + 0) ≤ 0
      simp only [e_0, e_9]
      exact vc_Mo_met_18_2 (w_fi ws (n_v vs 0) 5) (w_fi ws (n_v vs 0) 11) (v_iv (Value.int x)) kz_0_11 ex2
  have nf3 : fc_1 PRD (23, [3, 9], [0, 1, -1]) ws (vs ++ [Value.int x]) := by
    refine ⟨nf_inA hl rfl, sgq_7 ?_⟩
    · show 1 * v_iv (n_v (vs ++ [Value.int x]) 3) + ((-1) * v_iv (n_v (vs ++ [Value.int x]) 9) + 0) ≤ 0
      simp only [e_3, e_9]
      exact vc_Mo_met_18_3 (v_iv (n_v vs 3)) (w_fi ws (n_v vs 0) 5) (w_fi ws (n_v vs 0) 11) (v_iv (Value.int x)) k3 f9 kz_0_11 ex2
  have nf4 : fc_1 PRD (23, [4, 9], [-1, 1, -1]) ws (vs ++ [Value.int x]) := by
    refine ⟨nf_inA hl rfl, sgq_211 ?_⟩
    · show 1 * v_iv (n_v (vs ++ [Value.int x]) 4) + ((-1) * v_iv (n_v (vs ++ [Value.int x]) 9) + 0) ≤ (-1)
      simp only [e_4, e_9]
      exact vc_Mo_met_18_4 (v_iv (n_v vs 4)) (v_iv (n_v vs 6)) (w_fi ws (n_v vs 0) 5) (w_fi ws (n_v vs 0) 11) (w_fi ws (n_v vs 0) 12) (v_iv (Value.int x)) k4 k6 f10 f14 kz_0_11 kz_0_12 ex2
  exact ⟨(fun _ h => (by cases h)), [Value.int x], ag_one hx, List.forall_mem_cons.mpr ⟨⟨show (20 : Nat) < 100 from by decide, nf0⟩, List.forall_mem_cons.mpr ⟨⟨show (20 : Nat) < 100 from by decide, nf1⟩, List.forall_mem_cons.mpr ⟨⟨show (20 : Nat) < 100 from by decide, nf2⟩, List.forall_mem_cons.mpr ⟨⟨show (23 : Nat) < 100 from by decide, nf3⟩, List.forall_mem_cons.mpr ⟨⟨show (23 : Nat) < 100 from by decide, nf4⟩, (fun _ h => (by cases h))⟩⟩⟩⟩⟩, (fun _ h => (by cases h))⟩
set_option maxHeartbeats 4000000 in
theorem vc_Mo_met_19_0 (x3 : Int) (x9 : Int) (r_0 : Int) (from_0 : Int) (pos_0 : Int) (k3 : 0 ≤ x3 ∧ x3 ≤ 2000) (k9 : 0 ≤ x9 ∧ x9 ≤ 2000) (f2 : 1 * x3 + ((-1) * x9 + 0) ≤ 0) (f8 : 1 * from_0 + ((-1) * pos_0 + 0) ≤ 0) (f10 : 1 * x9 + ((-1) * from_0 + 0) ≤ 0) (kz_0_11 : 0 ≤ pos_0 ∧ pos_0 ≤ 2000) (kz_0_15 : 0 ≤ from_0 ∧ from_0 ≤ 2000) : 1 * x3 + ((-1) * pos_0 + 0) ≤ 0 := by
  first
    | omega
    | (have q1 := (hE_0_2_1 (r_0 + 2) (by omega)).2 (by omega)
       have q2 := (hE_0_2_2 (r_0 + 2) (by omega)).2 (by omega)
       omega)
    | (have q1 := (hE_0_2_1 (r_0 + 1) (by omega)).2 (by omega)
       have q2 := (hE_0_2_2 (r_0 + 1) (by omega)).2 (by omega)
       omega)
    | (have q1 := (hE_0_2_1 (r_0 + 2) (by omega)).2 (by omega)
       omega)
    | (have q1 := (hE_0_2_1 (r_0 + 1) (by omega)).2 (by omega)
       omega)
    | (have q1 := (hE_0_2_1 (r_0 + 2) (by omega)).2 (by omega)
       have q2 := (hE_0_2_2 (r_0 + 2) (by omega)).2 (by omega)
       have q3 := (hE_0_2_3 (r_0 + 2) (by omega)).1 (by omega)
       omega)
    | (have q1 := (hE_0_2_1 (r_0 + 2) (by omega)).2 (by omega)
       have q2 := (hE_0_2_2 (r_0 + 2) (by omega)).2 (by omega)
       have q3 := (hE_0_2_3 (r_0 + 2) (by omega)).2 (by omega)
       omega)
set_option maxHeartbeats 4000000 in
theorem vc_Mo_met_19_1 (x3 : Int) (x9 : Int) (r_0 : Int) (from_0 : Int) (pos_0 : Int) (kind_0 : Int) (fault_0 : Int) (k3 : 0 ≤ x3 ∧ x3 ≤ 2000) (k9 : 0 ≤ x9 ∧ x9 ≤ 2000) (f2 : 1 * x3 + ((-1) * x9 + 0) ≤ 0) (f9 : ((kind_0 = 1) → (pos_0 ≤ (from_0 + 8))) ∧ ((kind_0 = 0) ∨ ((from_0 + 1) ≤ pos_0))) (f10 : 1 * x9 + ((-1) * from_0 + 0) ≤ 0) (kz_0_8 : 0 ≤ fault_0 ∧ fault_0 ≤ 5) (kz_0_11 : 0 ≤ pos_0 ∧ pos_0 ≤ 2000) (kz_0_12 : 0 ≤ kind_0 ∧ kind_0 ≤ 4) (kz_0_15 : 0 ≤ from_0 ∧ from_0 ≤ 2000) : (1 ≤ fault_0) ∨ ((kind_0 = 0) ∨ ((x3 + 1) ≤ pos_0)) := by
  first
    | omega
    | (have q1 := (hE_0_2_1 (r_0 + 2) (by omega)).2 (by omega)
       have q2 := (hE_0_2_2 (r_0 + 2) (by omega)).2 (by omega)
       omega)
    | (have q1 := (hE_0_2_1 (r_0 + 1) (by omega)).2 (by omega)
       have q2 := (hE_0_2_2 (r_0 + 1) (by omega)).2 (by omega)
       omega)
    | (have q1 := (hE_0_2_1 (r_0 + 2) (by omega)).2 (by omega)
       omega)
    | (have q1 := (hE_0_2_1 (r_0 + 1) (by omega)).2 (by omega)
       omega)
    | (have q1 := (hE_0_2_1 (r_0 + 2) (by omega)).2 (by omega)
       have q2 := (hE_0_2_2 (r_0 + 2) (by omega)).2 (by omega)
       have q3 := (hE_0_2_3 (r_0 + 2) (by omega)).1 (by omega)
       omega)
    | (have q1 := (hE_0_2_1 (r_0 + 2) (by omega)).2 (by omega)
       have q2 := (hE_0_2_2 (r_0 + 2) (by omega)).2 (by omega)
       have q3 := (hE_0_2_3 (r_0 + 2) (by omega)).2 (by omega)
       omega)
set_option maxHeartbeats 4000000 in
theorem vc_Mo_met_19_2 (x4 : Int) (x9 : Int) (r_0 : Int) (from_0 : Int) (pos_0 : Int) (fault_0 : Int) (k4 : 0 ≤ x4 ∧ x4 ≤ 2000) (k9 : 0 ≤ x9 ∧ x9 ≤ 2000) (f3 : 1 * x4 + ((-1) * x9 + 0) ≤ (-1)) (f8 : 1 * from_0 + ((-1) * pos_0 + 0) ≤ 0) (f10 : 1 * x9 + ((-1) * from_0 + 0) ≤ 0) (kz_0_8 : 0 ≤ fault_0 ∧ fault_0 ≤ 5) (kz_0_11 : 0 ≤ pos_0 ∧ pos_0 ≤ 2000) (kz_0_15 : 0 ≤ from_0 ∧ from_0 ≤ 2000) : (1 ≤ fault_0) ∨ ((x4 + 1) ≤ pos_0) := by
  first
    | omega
    | (have q1 := (hE_0_2_1 (r_0 + 2) (by omega)).2 (by omega)
       have q2 := (hE_0_2_2 (r_0 + 2) (by omega)).2 (by omega)
       omega)
    | (have q1 := (hE_0_2_1 (r_0 + 1) (by omega)).2 (by omega)
       have q2 := (hE_0_2_2 (r_0 + 1) (by omega)).2 (by omega)
       omega)
    | (have q1 := (hE_0_2_1 (r_0 + 2) (by omega)).2 (by omega)
       omega)
    | (have q1 := (hE_0_2_1 (r_0 + 1) (by omega)).2 (by omega)
       omega)
    | (have q1 := (hE_0_2_1 (r_0 + 2) (by omega)).2 (by omega)
       have q2 := (hE_0_2_2 (r_0 + 2) (by omega)).2 (by omega)
       have q3 := (hE_0_2_3 (r_0 + 2) (by omega)).1 (by omega)
       omega)
    | (have q1 := (hE_0_2_1 (r_0 + 2) (by omega)).2 (by omega)
       have q2 := (hE_0_2_2 (r_0 + 2) (by omega)).2 (by omega)
       have q3 := (hE_0_2_3 (r_0 + 2) (by omega)).2 (by omega)
       omega)
set_option maxHeartbeats 4000000 in
theorem vc_Mo_met_19_3 (x7 : Int) (r_0 : Int) (fault_0 : Int) (k7 : 0 ≤ x7 ∧ x7 ≤ 23) (kz_0_8 : 0 ≤ fault_0 ∧ fault_0 ≤ 5) : ((-1) * fault_0 + 0 ≤ (-1)) ∨ ((-1) * x7 + 0 ≤ 0) := by
  first
    | omega
    | (have q1 := (hE_0_2_1 (r_0 + 2) (by omega)).2 (by omega)
       have q2 := (hE_0_2_2 (r_0 + 2) (by omega)).2 (by omega)
       omega)
    | (have q1 := (hE_0_2_1 (r_0 + 1) (by omega)).2 (by omega)
       have q2 := (hE_0_2_2 (r_0 + 1) (by omega)).2 (by omega)
       omega)
    | (have q1 := (hE_0_2_1 (r_0 + 2) (by omega)).2 (by omega)
       omega)
    | (have q1 := (hE_0_2_1 (r_0 + 1) (by omega)).2 (by omega)
       omega)
    | (have q1 := (hE_0_2_1 (r_0 + 2) (by omega)).2 (by omega)
       have q2 := (hE_0_2_2 (r_0 + 2) (by omega)).2 (by omega)
       have q3 := (hE_0_2_3 (r_0 + 2) (by omega)).1 (by omega)
       omega)
    | (have q1 := (hE_0_2_1 (r_0 + 2) (by omega)).2 (by omega)
       have q2 := (hE_0_2_2 (r_0 + 2) (by omega)).2 (by omega)
       have q3 := (hE_0_2_3 (r_0 + 2) (by omega)).2 (by omega)
       omega)
set_option maxHeartbeats 4000000 in
theorem vc_Mo_met_19_4 (x2 : Int) (all_0 : Int → Int) (r_0 : Int) (fault_0 : Int) (k2 : (-1) ≤ x2 ∧ x2 ≤ (-1)) (kz_0_8 : 0 ≤ fault_0 ∧ fault_0 ≤ 5) : (1 ≤ fault_0) ∨ ((x2 ≤ (-1)) ∨ (all_0 ((r_0 + 1)) ≤ 47)) := by
  first
    | omega
    | (have q1 := (hE_0_2_1 (r_0 + 2) (by omega)).2 (by omega)
       have q2 := (hE_0_2_2 (r_0 + 2) (by omega)).2 (by omega)
       omega)
    | (have q1 := (hE_0_2_1 (r_0 + 1) (by omega)).2 (by omega)
       have q2 := (hE_0_2_2 (r_0 + 1) (by omega)).2 (by omega)
       omega)
    | (have q1 := (hE_0_2_1 (r_0 + 2) (by omega)).2 (by omega)
       omega)
    | (have q1 := (hE_0_2_1 (r_0 + 1) (by omega)).2 (by omega)
       omega)
    | (have q1 := (hE_0_2_1 (r_0 + 2) (by omega)).2 (by omega)
       have q2 := (hE_0_2_2 (r_0 + 2) (by omega)).2 (by omega)
       have q3 := (hE_0_2_3 (r_0 + 2) (by omega)).1 (by omega)
       omega)
    | (have q1 := (hE_0_2_1 (r_0 + 2) (by omega)).2 (by omega)
       have q2 := (hE_0_2_2 (r_0 + 2) (by omega)).2 (by omega)
       have q3 := (hE_0_2_3 (r_0 + 2) (by omega)).2 (by omega)
       omega)
set_option maxHeartbeats 4000000 in
theorem vc_Mo_met_19_5 (x2 : Int) (x7 : Int) (all_0 : Int → Int) (r_0 : Int) (fault_0 : Int) (k2 : (-1) ≤ x2 ∧ x2 ≤ (-1)) (k7 : 0 ≤ x7 ∧ x7 ≤ 23) (f1 : MEN (r_0) (all_0) (x2) (x7)) (kz_0_8 : 0 ≤ fault_0 ∧ fault_0 ≤ 5) : MET (r_0) (fault_0) (all_0) (x2) (x7) := by
  first
    | (intro q; exfalso; omega)
    | exact fun _ => ‹MEN _ _ _ _›
def o_Mo_met_19 : or_T := (258, 10, [(0, (2, 0, 0, [165])), (2, (0, -1, -1, [])), (3, (0, 0, 2000, [])), (4, (0, 0, 2000, [])), (7, (0, 0, 23, [])), (9, (0, 0, 2000, []))], [(20, [0, 2, 7], [60, 1, 1, 243, 5, 2]), (23, [3, 9], [0, 1, -1]), (23, [4, 9], [-1, 1, -1]), (20, [0, 0], [30, 0, 1, 1, 15, -1, 1, 11]), (20, [0], [50, 3, 0, 12, 11, 15, 2, 21, 4, 7, 1, 3, 2, 0, 12, 0, 1, 0, 3, 2, 0, 11, 4, 3, 2, 0, 15, 0, 8, 3, 7, 1, 3, 2, 0, 12, 0, 0, 0, 7, 4, 3, 2, 0, 15, 0, 1, 2, 0, 11]), (20, [9, 0], [30, 0, 1, 0, 0, -1, 1, 15])], [], [], [(20, [3, 0], [30, 0, 1, 0, 0, -1, 1, 11]), (20, [0, 3], [50, 3, 0, 8, 12, 11, 3, 7, 0, 2, 0, 1, 2, 0, 8, 3, 7, 1, 3, 2, 0, 12, 0, 0, 0, 6, 4, 2, 1, 1, 0, 1, 2, 0, 11]), (20, [0, 4], [50, 2, 0, 8, 11, 3, 7, 0, 2, 0, 1, 2, 0, 8, 0, 6, 4, 2, 1, 1, 0, 1, 2, 0, 11]), (20, [0, 7], [31, 1, -1, -1, 1, 8, 0, -1, 0, 0]), (20, [0, 2], [50, 2, 1, 8, 5, 2, 3, 7, 0, 2, 0, 1, 2, 0, 8, 3, 6, 0, 2, 1, 1, 0, -1, 0, 10, 3, 0, 2, 4, 3, 2, 0, 5, 0, 1, 0, 47]), (20, [0, 2, 7], [60, 2, 1, 240, 5, 8, 2])], [], [])
theorem oo_Mo_met_19 {kA : Nat → ClassId} : or_ok PRD kA GG o_Mo_met_19 := by
  refine or_mk fun A ta ws vs hD hth hl => ?_
  intro t0 r0 t2 k2 t3 k3 t4 k4 t7 k7 t9 k9 f1 f2 f3 f8 f9 f10
  have kz_0_8 := fdq_14 hD hth r0
  have kz_0_11 := fdq_273 hD hth r0
  have kz_0_12 := fdq_186 hD hth r0
  have kz_0_15 := fdq_274 hD hth r0
  have nf0 : fc_1 PRD (20, [3, 0], [30, 0, 1, 0, 0, -1, 1, 11]) ws (vs) := ⟨nf_in hl rfl, sgq_1395 (vc_Mo_met_19_0 (v_iv (n_v vs 3)) (v_iv (n_v vs 9)) (w_fi ws (n_v vs 0) 5) (w_fi ws (n_v vs 0) 15) (w_fi ws (n_v vs 0) 11) k3 k9 (shm_7 f2) (shm_1397 f8) (shm_1396 f10) kz_0_11 kz_0_15)⟩
  have nf1 : fc_1 PRD (20, [0, 3], [50, 3, 0, 8, 12, 11, 3, 7, 0, 2, 0, 1, 2, 0, 8, 3, 7, 1, 3, 2, 0, 12, 0, 0, 0, 6, 4, 2, 1, 1, 0, 1, 2, 0, 11]) ws (vs) := ⟨nf_in hl rfl, sgq_1660 (vc_Mo_met_19_1 (v_iv (n_v vs 3)) (v_iv (n_v vs 9)) (w_fi ws (n_v vs 0) 5) (w_fi ws (n_v vs 0) 15) (w_fi ws (n_v vs 0) 11) (w_fi ws (n_v vs 0) 12) (w_fi ws (n_v vs 0) 8) k3 k9 (shm_7 f2) (shm_1398 f9) (shm_1396 f10) kz_0_8 kz_0_11 kz_0_12 kz_0_15)⟩
  have nf2 : fc_1 PRD (20, [0, 4], [50, 2, 0, 8, 11, 3, 7, 0, 2, 0, 1, 2, 0, 8, 0, 6, 4, 2, 1, 1, 0, 1, 2, 0, 11]) ws (vs) := ⟨nf_in hl rfl, sgq_1659 (vc_Mo_met_19_2 (v_iv (n_v vs 4)) (v_iv (n_v vs 9)) (w_fi ws (n_v vs 0) 5) (w_fi ws (n_v vs 0) 15) (w_fi ws (n_v vs 0) 11) (w_fi ws (n_v vs 0) 8) k4 k9 (shm_211 f3) (shm_1397 f8) (shm_1396 f10) kz_0_8 kz_0_11 kz_0_15)⟩
  have nf3 : fc_1 PRD (20, [0, 7], [31, 1, -1, -1, 1, 8, 0, -1, 0, 0]) ws (vs) := ⟨nf_in hl rfl, sgq_1982 (vc_Mo_met_19_3 (v_iv (n_v vs 7)) (w_fi ws (n_v vs 0) 5) (w_fi ws (n_v vs 0) 8) k7 kz_0_8)⟩
  have nf4 : fc_1 PRD (20, [0, 2], [50, 2, 1, 8, 5, 2, 3, 7, 0, 2, 0, 1, 2, 0, 8, 3, 6, 0, 2, 1, 1, 0, -1, 0, 10, 3, 0, 2, 4, 3, 2, 0, 5, 0, 1, 0, 47]) ws (vs) := ⟨nf_in hl rfl, sgq_1983 (vc_Mo_met_19_4 (v_iv (n_v vs 2)) (w_ei ws (w_ar ws (n_v vs 0) 2)) (w_fi ws (n_v vs 0) 5) (w_fi ws (n_v vs 0) 8) k2 kz_0_8)⟩
  have nf5 : fc_1 PRD (20, [0, 2, 7], [60, 2, 1, 240, 5, 8, 2]) ws (vs) := ⟨nf_in hl rfl, sgq_1984 (vc_Mo_met_19_5 (v_iv (n_v vs 2)) (v_iv (n_v vs 7)) (w_ei ws (w_ar ws (n_v vs 0) 2)) (w_fi ws (n_v vs 0) 5) (w_fi ws (n_v vs 0) 8) k2 k7 (shm_1981 f1) kz_0_8)⟩
  refine ⟨(fun _ h => (by cases h)), [], trivial, ?_, (fun _ h => (by cases h))⟩
  rw [List.append_nil]
  exact List.forall_mem_cons.mpr ⟨⟨show (20 : Nat) < 100 from by decide, nf0⟩, List.forall_mem_cons.mpr ⟨⟨show (20 : Nat) < 100 from by decide, nf1⟩, List.forall_mem_cons.mpr ⟨⟨show (20 : Nat) < 100 from by decide, nf2⟩, List.forall_mem_cons.mpr ⟨⟨show (20 : Nat) < 100 from by decide, nf3⟩, List.forall_mem_cons.mpr ⟨⟨show (20 : Nat) < 100 from by decide, nf4⟩, List.forall_mem_cons.mpr ⟨⟨show (20 : Nat) < 100 from by decide, nf5⟩, (fun _ h => (by cases h))⟩⟩⟩⟩⟩⟩
set_option maxHeartbeats 4000000 in
theorem vc_Mo_met_20_0 (x2 : Int) (x11 : Int) (fault_0 : Int) (all_0 : Int → Int) (r_0 : Int) (k2 : 0 ≤ x2 ∧ x2 ≤ 23) (k11 : 0 ≤ x11 ∧ x11 ≤ 0) (g2 : x11 = fault_0) (f12 : (-1) * fault_0 + 0 ≤ (-1)) (kz_0_8 : 0 ≤ fault_0 ∧ fault_0 ≤ 5) : (x2 ≤ (-1)) ∨ (all_0 ((r_0 + 1)) ≤ 47) := by
  first
    | omega
    | (have q1 := (hE_0_2_1 (r_0 + 2) (by omega)).2 (by omega)
       have q2 := (hE_0_2_2 (r_0 + 2) (by omega)).2 (by omega)
       omega)
    | (have q1 := (hE_0_2_1 (r_0 + 1) (by omega)).2 (by omega)
       have q2 := (hE_0_2_2 (r_0 + 1) (by omega)).2 (by omega)
       omega)
    | (have q1 := (hE_0_2_1 (r_0 + 2) (by omega)).2 (by omega)
       omega)
    | (have q1 := (hE_0_2_1 (r_0 + 1) (by omega)).2 (by omega)
       omega)
    | (have q1 := (hE_0_2_1 (r_0 + 2) (by omega)).2 (by omega)
       have q2 := (hE_0_2_2 (r_0 + 2) (by omega)).2 (by omega)
       have q3 := (hE_0_2_3 (r_0 + 2) (by omega)).1 (by omega)
       omega)
    | (have q1 := (hE_0_2_1 (r_0 + 2) (by omega)).2 (by omega)
       have q2 := (hE_0_2_2 (r_0 + 2) (by omega)).2 (by omega)
       have q3 := (hE_0_2_3 (r_0 + 2) (by omega)).2 (by omega)
       omega)
set_option maxHeartbeats 4000000 in
theorem vc_Mo_met_20_1 (x2 : Int) (x7 : Int) (x11 : Int) (fault_0 : Int) (all_0 : Int → Int) (r_0 : Int) (k2 : 0 ≤ x2 ∧ x2 ≤ 23) (k7 : 0 ≤ x7 ∧ x7 ≤ 23) (k11 : 0 ≤ x11 ∧ x11 ≤ 0) (g2 : x11 = fault_0) (f12 : (-1) * fault_0 + 0 ≤ (-1)) (kz_0_8 : 0 ≤ fault_0 ∧ fault_0 ≤ 5) : MEN (r_0) (all_0) (x2) (x7) := by
  try simp only [Int.add_zero] at *
  first
    | (exfalso; omega)
    | (have hr := rwn_r ‹RWN _ _ _ _ _›
       have hb := ‹MEN _ _ _ _›.1
       exact men_off (by omega) (men_off (by omega) ‹MEN _ _ _ _› (by assumption) (by omega)) (by assumption) (by omega))
    | exact men_old ‹RWS _ _ _ _› ‹NDB _ _ _› (by omega) ‹MEB _ _ _› (Or.inl (by omega))
    | exact men_old ‹RWS _ _ _ _› ‹NDB _ _ _› (by omega) ‹MEB _ _ _› (Or.inr ⟨by omega, ‹BTP _ _ _ _ _› (by omega), by omega⟩)
set_option maxHeartbeats 4000000 in
theorem vc_Mo_met_20_2 (x11 : Int) (fault_0 : Int) (r_0 : Int) (pos_0 : Int) (gx : Int) (k11 : 0 ≤ x11 ∧ x11 ≤ 0) (g2 : x11 = fault_0) (f12 : (-1) * fault_0 + 0 ≤ (-1)) (kz_0_8 : 0 ≤ fault_0 ∧ fault_0 ≤ 5) (kz_0_11 : 0 ≤ pos_0 ∧ pos_0 ≤ 2000) : 1 * gx + ((-1) * pos_0 + 0) ≤ 0 := by
  first
    | omega
    | (have q1 := (hE_0_2_1 (r_0 + 2) (by omega)).2 (by omega)
       have q2 := (hE_0_2_2 (r_0 + 2) (by omega)).2 (by omega)
       omega)
    | (have q1 := (hE_0_2_1 (r_0 + 1) (by omega)).2 (by omega)
       have q2 := (hE_0_2_2 (r_0 + 1) (by omega)).2 (by omega)
       omega)
    | (have q1 := (hE_0_2_1 (r_0 + 2) (by omega)).2 (by omega)
       omega)
    | (have q1 := (hE_0_2_1 (r_0 + 1) (by omega)).2 (by omega)
       omega)
    | (have q1 := (hE_0_2_1 (r_0 + 2) (by omega)).2 (by omega)
       have q2 := (hE_0_2_2 (r_0 + 2) (by omega)).2 (by omega)
       have q3 := (hE_0_2_3 (r_0 + 2) (by omega)).1 (by omega)
       omega)
    | (have q1 := (hE_0_2_1 (r_0 + 2) (by omega)).2 (by omega)
       have q2 := (hE_0_2_2 (r_0 + 2) (by omega)).2 (by omega)
       have q3 := (hE_0_2_3 (r_0 + 2) (by omega)).2 (by omega)
       omega)
set_option maxHeartbeats 4000000 in
theorem vc_Mo_met_20_3 (x3 : Int) (x11 : Int) (fault_0 : Int) (r_0 : Int) (gx : Int) (k3 : 0 ≤ x3 ∧ x3 ≤ 2000) (k11 : 0 ≤ x11 ∧ x11 ≤ 0) (g2 : x11 = fault_0) (f12 : (-1) * fault_0 + 0 ≤ (-1)) (kz_0_8 : 0 ≤ fault_0 ∧ fault_0 ≤ 5) : 1 * x3 + ((-1) * gx + 0) ≤ 0 := by
  first
    | omega
    | (have q1 := (hE_0_2_1 (r_0 + 2) (by omega)).2 (by omega)
       have q2 := (hE_0_2_2 (r_0 + 2) (by omega)).2 (by omega)
       omega)
    | (have q1 := (hE_0_2_1 (r_0 + 1) (by omega)).2 (by omega)
       have q2 := (hE_0_2_2 (r_0 + 1) (by omega)).2 (by omega)
       omega)
    | (have q1 := (hE_0_2_1 (r_0 + 2) (by omega)).2 (by omega)
       omega)
    | (have q1 := (hE_0_2_1 (r_0 + 1) (by omega)).2 (by omega)
       omega)
    | (have q1 := (hE_0_2_1 (r_0 + 2) (by omega)).2 (by omega)
       have q2 := (hE_0_2_2 (r_0 + 2) (by omega)).2 (by omega)
       have q3 := (hE_0_2_3 (r_0 + 2) (by omega)).1 (by omega)
       omega)
    | (have q1 := (hE_0_2_1 (r_0 + 2) (by omega)).2 (by omega)
       have q2 := (hE_0_2_2 (r_0 + 2) (by omega)).2 (by omega)
       have q3 := (hE_0_2_3 (r_0 + 2) (by omega)).2 (by omega)
       omega)
set_option maxHeartbeats 4000000 in
theorem vc_Mo_met_20_4 (x4 : Int) (x11 : Int) (fault_0 : Int) (r_0 : Int) (gx : Int) (k4 : 0 ≤ x4 ∧ x4 ≤ 2000) (k11 : 0 ≤ x11 ∧ x11 ≤ 0) (g2 : x11 = fault_0) (f12 : (-1) * fault_0 + 0 ≤ (-1)) (kz_0_8 : 0 ≤ fault_0 ∧ fault_0 ≤ 5) : 1 * x4 + ((-1) * gx + 0) ≤ (-1) := by
  first
    | omega
    | (have q1 := (hE_0_2_1 (r_0 + 2) (by omega)).2 (by omega)
       have q2 := (hE_0_2_2 (r_0 + 2) (by omega)).2 (by omega)
       omega)
    | (have q1 := (hE_0_2_1 (r_0 + 1) (by omega)).2 (by omega)
       have q2 := (hE_0_2_2 (r_0 + 1) (by omega)).2 (by omega)
       omega)
    | (have q1 := (hE_0_2_1 (r_0 + 2) (by omega)).2 (by omega)
       omega)
    | (have q1 := (hE_0_2_1 (r_0 + 1) (by omega)).2 (by omega)
       omega)
    | (have q1 := (hE_0_2_1 (r_0 + 2) (by omega)).2 (by omega)
       have q2 := (hE_0_2_2 (r_0 + 2) (by omega)).2 (by omega)
       have q3 := (hE_0_2_3 (r_0 + 2) (by omega)).1 (by omega)
       omega)
    | (have q1 := (hE_0_2_1 (r_0 + 2) (by omega)).2 (by omega)
       have q2 := (hE_0_2_2 (r_0 + 2) (by omega)).2 (by omega)
       have q3 := (hE_0_2_3 (r_0 + 2) (by omega)).2 (by omega)
       omega)
def o_Mo_met_20 : or_T := (254, 12, [(0, (2, 0, 0, [165])), (1, (0, 0, 7, [])), (2, (0, 0, 23, [])), (3, (0, 0, 2000, [])), (4, (0, 0, 2000, [])), (6, (0, 1, 1, [])), (7, (0, 0, 23, [])), (11, (0, 0, 0, []))], [(8, [7], [3]), (8, [11], [5]), (9, [11, 0], [8]), (20, [0, 7], [60, 1, 1, 207, 5, 2]), (20, [0, 0], [30, 0, 1, 1, 15, -1, 1, 11]), (20, [0], [50, 3, 0, 12, 11, 15, 2, 21, 4, 7, 1, 3, 2, 0, 12, 0, 1, 0, 3, 2, 0, 11, 4, 3, 2, 0, 15, 0, 8, 3, 7, 1, 3, 2, 0, 12, 0, 0, 0, 7, 4, 3, 2, 0, 15, 0, 1, 2, 0, 11]), (20, [3, 0], [30, 0, 1, 0, 0, -1, 1, 11]), (20, [0, 4], [50, 2, 0, 12, 11, 3, 7, 1, 3, 2, 0, 12, 0, 0, 0, 6, 4, 2, 1, 1, 0, 1, 2, 0, 11]), (20, [1, 0], [50, 1, 1, 1005, 1002, 0, 6, 4, 2, 1, 0, 0, 1, 3, 1, 2, 4, 3, 2, 1, 5, 0, 2]), (20, [0], [60, 1, 3, 199, 5, 2, 3, 4]), (20, [0, 2], [60, 1, 1, 241, 5, 2]), (20, [6, 0], [50, 1, 0, 1012, 4, 6, 1, 2, 1, 0, 0, 1, 1, 3, 2, 1, 12, 0, 1]), (20, [0], [30, -1, -1, 1, 8]), (102, [10], [0, 165008, 165009]), (7, [7, 2], [0]), (8, [2], [3]), (8, [7], [3]), (8, [6], [1])], [], [(0, 0, 2000, [])], [(20, [2, 0], [50, 1, 1, 1005, 1002, 3, 6, 0, 2, 1, 0, 0, -1, 0, 10, 3, 1, 2, 4, 3, 2, 1, 5, 0, 1, 0, 47]), (20, [0, 2, 7], [60, 1, 1, 243, 5, 2]), (20, [12, 0], [30, 0, 1, 0, 0, -1, 1, 11]), (23, [3, 12], [0, 1, -1]), (23, [4, 12], [-1, 1, -1])], [], [(7, 2, 0, 0)])
theorem oo_Mo_met_20 {kA : Nat → ClassId} : or_ok PRD kA GG o_Mo_met_20 := by
  refine or_mk fun A ta ws vs hD hth hl => ?_
  intro t0 r0 t1 k1 t2 k2 t3 k3 t4 k4 t6 k6 t7 k7 t11 k11 d0 f0 f1 f2 f3 f4 f5 f6 f7 f8 f9 f10 f11 f12 ta1 w1 le1 s1 f14 f15 f16 f17
  replace f2 := shm_143 f2
  replace f12 := shm_144 f12
  have g2 : v_iv (n_v vs 11) = w_fi ws (n_v vs 0) 8 := congrArg v_iv f2
  have kz_0_8 := fdq_14 hD hth r0
  have kz_0_11 := fdq_273 hD hth r0
  obtain ⟨x, ex, hx⟩ := iv_ex (ta := ta) (lo := 0) (hi := 2000) (z := w_fi ws (n_v vs 0) 11) (by omega) (by omega) (by omega) (by omega)
  have ex2 : v_iv (Value.int x) = w_fi ws (n_v vs 0) 11 := ex
  have ex3 : 0 ≤ v_iv (Value.int x) ∧ v_iv (Value.int x) ≤ 2000 := tv_rng hx
  have e_0 : n_v (vs ++ [Value.int x]) 0 = n_v vs 0 := n_v_old (by rw [hl]; decide)
  have e_2 : n_v (vs ++ [Value.int x]) 2 = n_v vs 2 := n_v_old (by rw [hl]; decide)
  have e_3 : n_v (vs ++ [Value.int x]) 3 = n_v vs 3 := n_v_old (by rw [hl]; decide)
  have e_4 : n_v (vs ++ [Value.int x]) 4 = n_v vs 4 := n_v_old (by rw [hl]; decide)
  have e_7 : n_v (vs ++ [Value.int x]) 7 = n_v vs 7 := n_v_old (by rw [hl]; decide)
  have e_12 : n_v (vs ++ [Value.int x]) 12 = Value.int x := n_v_new hl
  have nf0 : fc_1 PRD (20, [2, 0], [50, 1, 1, 1005, 1002, 3, 6, 0, 2, 1, 0, 0, -1, 0, 10, 3, 1, 2, 4, 3, 2, 1, 5, 0, 1, 0, 47]) ws (vs ++ [Value.int x]) := by
    refine ⟨nf_inA hl rfl, sgq_1980 ?_⟩
    · show (v_iv (n_v (vs ++ [Value.int x]) 2) ≤ (-1)) ∨ (w_ei ws (w_ar ws (n_v (vs ++ [Value.int x]) 0) 2) ((w_fi ws (n_v (vs ++ [Value.int x]) 0) 5 + 1)) ≤ 47)
      simp only [e_0, e_2]
      exact vc_Mo_met_20_0 (v_iv (n_v vs 2)) (v_iv (n_v vs 11)) (w_fi ws (n_v vs 0) 8) (w_ei ws (w_ar ws (n_v vs 0) 2)) (w_fi ws (n_v vs 0) 5) k2 k11 g2 f12 kz_0_8
  have nf1 : fc_1 PRD (20, [0, 2, 7], [60, 1, 1, 243, 5, 2]) ws (vs ++ [Value.int x]) := by
    refine ⟨nf_inA hl rfl, sgq_1981 ?_⟩
    · show MEN (w_fi ws (n_v (vs ++ [Value.int x]) 0) 5) (w_ei ws (w_ar ws (n_v (vs ++ [Value.int x]) 0) 2)) (v_iv (n_v (vs ++ [Value.int x]) 2)) (v_iv (n_v (vs ++ [Value.int x]) 7))
      simp only [e_0, e_2, e_7]
      exact vc_Mo_met_20_1 (v_iv (n_v vs 2)) (v_iv (n_v vs 7)) (v_iv (n_v vs 11)) (w_fi ws (n_v vs 0) 8) (w_ei ws (w_ar ws (n_v vs 0) 2)) (w_fi ws (n_v vs 0) 5) k2 k7 k11 g2 f12 kz_0_8
  have nf2 : fc_1 PRD (20, [12, 0], [30, 0, 1, 0, 0, -1, 1, 11]) ws (vs ++ [Value.int x]) := by
    refine ⟨nf_inA hl rfl, sgq_1395 ?_⟩
    · show 1 * v_iv (n_v (vs ++ [Value.int x]) 12) + ((-1) * w_fi ws (n_v (vs ++ [Value.int x]) 0) 11 + 0) ≤ 0
      simp only [e_0, e_12]
      exact vc_Mo_met_20_2 (v_iv (n_v vs 11)) (w_fi ws (n_v vs 0) 8) (w_fi ws (n_v vs 0) 5) (w_fi ws (n_v vs 0) 11) (v_iv (Value.int x)) k11 g2 f12 kz_0_8 kz_0_11
  have nf3 : fc_1 PRD (23, [3, 12], [0, 1, -1]) ws (vs ++ [Value.int x]) := by
    refine ⟨nf_inA hl rfl, sgq_7 ?_⟩
    · show 1 * v_iv (n_v (vs ++ [Value.int x]) 3) + ((-1) * v_iv (n_v (vs ++ [Value.int x]) 12) + 0) ≤ 0
      simp only [e_3, e_12]
      exact vc_Mo_met_20_3 (v_iv (n_v vs 3)) (v_iv (n_v vs 11)) (w_fi ws (n_v vs 0) 8) (w_fi ws (n_v vs 0) 5) (v_iv (Value.int x)) k3 k11 g2 f12 kz_0_8
  have nf4 : fc_1 PRD (23, [4, 12], [-1, 1, -1]) ws (vs ++ [Value.int x]) := by
    refine ⟨nf_inA hl rfl, sgq_211 ?_⟩
    · show 1 * v_iv (n_v (vs ++ [Value.int x]) 4) + ((-1) * v_iv (n_v (vs ++ [Value.int x]) 12) + 0) ≤ (-1)
      simp only [e_4, e_12]
      exact vc_Mo_met_20_4 (v_iv (n_v vs 4)) (v_iv (n_v vs 11)) (w_fi ws (n_v vs 0) 8) (w_fi ws (n_v vs 0) 5) (v_iv (Value.int x)) k4 k11 g2 f12 kz_0_8
  exact ⟨(fun _ h => (by cases h)), [Value.int x], ag_one hx, List.forall_mem_cons.mpr ⟨⟨show (20 : Nat) < 100 from by decide, nf0⟩, List.forall_mem_cons.mpr ⟨⟨show (20 : Nat) < 100 from by decide, nf1⟩, List.forall_mem_cons.mpr ⟨⟨show (20 : Nat) < 100 from by decide, nf2⟩, List.forall_mem_cons.mpr ⟨⟨show (23 : Nat) < 100 from by decide, nf3⟩, List.forall_mem_cons.mpr ⟨⟨show (23 : Nat) < 100 from by decide, nf4⟩, (fun _ h => (by cases h))⟩⟩⟩⟩⟩, (fun _ h => (by cases h))⟩
set_option maxHeartbeats 4000000 in
theorem vc_Mo_met_21_0 (x3 : Int) (x12 : Int) (r_0 : Int) (from_0 : Int) (pos_0 : Int) (k3 : 0 ≤ x3 ∧ x3 ≤ 2000) (k12 : 0 ≤ x12 ∧ x12 ≤ 2000) (f2 : 1 * x3 + ((-1) * x12 + 0) ≤ 0) (f9 : 1 * from_0 + ((-1) * pos_0 + 0) ≤ 0) (f11 : 1 * x12 + ((-1) * from_0 + 0) ≤ 0) (kz_0_11 : 0 ≤ pos_0 ∧ pos_0 ≤ 2000) (kz_0_15 : 0 ≤ from_0 ∧ from_0 ≤ 2000) : 1 * x3 + ((-1) * pos_0 + 0) ≤ 0 := by
  first
    | omega
    | (have q1 := (hE_0_2_1 (r_0 + 2) (by omega)).2 (by omega)
       have q2 := (hE_0_2_2 (r_0 + 2) (by omega)).2 (by omega)
       omega)
    | (have q1 := (hE_0_2_1 (r_0 + 1) (by omega)).2 (by omega)
       have q2 := (hE_0_2_2 (r_0 + 1) (by omega)).2 (by omega)
       omega)
    | (have q1 := (hE_0_2_1 (r_0 + 2) (by omega)).2 (by omega)
       omega)
    | (have q1 := (hE_0_2_1 (r_0 + 1) (by omega)).2 (by omega)
       omega)
    | (have q1 := (hE_0_2_1 (r_0 + 2) (by omega)).2 (by omega)
       have q2 := (hE_0_2_2 (r_0 + 2) (by omega)).2 (by omega)
       have q3 := (hE_0_2_3 (r_0 + 2) (by omega)).1 (by omega)
       omega)
    | (have q1 := (hE_0_2_1 (r_0 + 2) (by omega)).2 (by omega)
       have q2 := (hE_0_2_2 (r_0 + 2) (by omega)).2 (by omega)
       have q3 := (hE_0_2_3 (r_0 + 2) (by omega)).2 (by omega)
       omega)
set_option maxHeartbeats 4000000 in
theorem vc_Mo_met_21_1 (x3 : Int) (r_0 : Int) (fault_0 : Int) (pos_0 : Int) (kind_0 : Int) (k3 : 0 ≤ x3 ∧ x3 ≤ 2000) (f8 : (-1) * fault_0 + 0 ≤ (-1)) (kz_0_8 : 0 ≤ fault_0 ∧ fault_0 ≤ 5) (kz_0_11 : 0 ≤ pos_0 ∧ pos_0 ≤ 2000) (kz_0_12 : 0 ≤ kind_0 ∧ kind_0 ≤ 4) : (1 ≤ fault_0) ∨ ((kind_0 = 0) ∨ ((x3 + 1) ≤ pos_0)) := by
  first
    | omega
    | (have q1 := (hE_0_2_1 (r_0 + 2) (by omega)).2 (by omega)
       have q2 := (hE_0_2_2 (r_0 + 2) (by omega)).2 (by omega)
       omega)
    | (have q1 := (hE_0_2_1 (r_0 + 1) (by omega)).2 (by omega)
       have q2 := (hE_0_2_2 (r_0 + 1) (by omega)).2 (by omega)
       omega)
    | (have q1 := (hE_0_2_1 (r_0 + 2) (by omega)).2 (by omega)
       omega)
    | (have q1 := (hE_0_2_1 (r_0 + 1) (by omega)).2 (by omega)
       omega)
    | (have q1 := (hE_0_2_1 (r_0 + 2) (by omega)).2 (by omega)
       have q2 := (hE_0_2_2 (r_0 + 2) (by omega)).2 (by omega)
       have q3 := (hE_0_2_3 (r_0 + 2) (by omega)).1 (by omega)
       omega)
    | (have q1 := (hE_0_2_1 (r_0 + 2) (by omega)).2 (by omega)
       have q2 := (hE_0_2_2 (r_0 + 2) (by omega)).2 (by omega)
       have q3 := (hE_0_2_3 (r_0 + 2) (by omega)).2 (by omega)
       omega)
set_option maxHeartbeats 4000000 in
theorem vc_Mo_met_21_2 (x4 : Int) (r_0 : Int) (fault_0 : Int) (pos_0 : Int) (k4 : 0 ≤ x4 ∧ x4 ≤ 2000) (f8 : (-1) * fault_0 + 0 ≤ (-1)) (kz_0_8 : 0 ≤ fault_0 ∧ fault_0 ≤ 5) (kz_0_11 : 0 ≤ pos_0 ∧ pos_0 ≤ 2000) : (1 ≤ fault_0) ∨ ((x4 + 1) ≤ pos_0) := by
  first
    | omega
    | (have q1 := (hE_0_2_1 (r_0 + 2) (by omega)).2 (by omega)
       have q2 := (hE_0_2_2 (r_0 + 2) (by omega)).2 (by omega)
       omega)
    | (have q1 := (hE_0_2_1 (r_0 + 1) (by omega)).2 (by omega)
       have q2 := (hE_0_2_2 (r_0 + 1) (by omega)).2 (by omega)
       omega)
    | (have q1 := (hE_0_2_1 (r_0 + 2) (by omega)).2 (by omega)
       omega)
    | (have q1 := (hE_0_2_1 (r_0 + 1) (by omega)).2 (by omega)
       omega)
    | (have q1 := (hE_0_2_1 (r_0 + 2) (by omega)).2 (by omega)
       have q2 := (hE_0_2_2 (r_0 + 2) (by omega)).2 (by omega)
       have q3 := (hE_0_2_3 (r_0 + 2) (by omega)).1 (by omega)
       omega)
    | (have q1 := (hE_0_2_1 (r_0 + 2) (by omega)).2 (by omega)
       have q2 := (hE_0_2_2 (r_0 + 2) (by omega)).2 (by omega)
       have q3 := (hE_0_2_3 (r_0 + 2) (by omega)).2 (by omega)
       omega)
set_option maxHeartbeats 4000000 in
theorem vc_Mo_met_21_3 (x7 : Int) (r_0 : Int) (fault_0 : Int) (k7 : 0 ≤ x7 ∧ x7 ≤ 23) (f8 : (-1) * fault_0 + 0 ≤ (-1)) (kz_0_8 : 0 ≤ fault_0 ∧ fault_0 ≤ 5) : ((-1) * fault_0 + 0 ≤ (-1)) ∨ ((-1) * x7 + 0 ≤ 0) := by
  first
    | omega
    | (have q1 := (hE_0_2_1 (r_0 + 2) (by omega)).2 (by omega)
       have q2 := (hE_0_2_2 (r_0 + 2) (by omega)).2 (by omega)
       omega)
    | (have q1 := (hE_0_2_1 (r_0 + 1) (by omega)).2 (by omega)
       have q2 := (hE_0_2_2 (r_0 + 1) (by omega)).2 (by omega)
       omega)
    | (have q1 := (hE_0_2_1 (r_0 + 2) (by omega)).2 (by omega)
       omega)
    | (have q1 := (hE_0_2_1 (r_0 + 1) (by omega)).2 (by omega)
       omega)
    | (have q1 := (hE_0_2_1 (r_0 + 2) (by omega)).2 (by omega)
       have q2 := (hE_0_2_2 (r_0 + 2) (by omega)).2 (by omega)
       have q3 := (hE_0_2_3 (r_0 + 2) (by omega)).1 (by omega)
       omega)
    | (have q1 := (hE_0_2_1 (r_0 + 2) (by omega)).2 (by omega)
       have q2 := (hE_0_2_2 (r_0 + 2) (by omega)).2 (by omega)
       have q3 := (hE_0_2_3 (r_0 + 2) (by omega)).2 (by omega)
       omega)
set_option maxHeartbeats 4000000 in
theorem vc_Mo_met_21_4 (x2 : Int) (all_0 : Int → Int) (r_0 : Int) (fault_0 : Int) (k2 : 0 ≤ x2 ∧ x2 ≤ 23) (f8 : (-1) * fault_0 + 0 ≤ (-1)) (kz_0_8 : 0 ≤ fault_0 ∧ fault_0 ≤ 5) : (1 ≤ fault_0) ∨ ((x2 ≤ (-1)) ∨ (all_0 ((r_0 + 1)) ≤ 47)) := by
  first
    | omega
    | (have q1 := (hE_0_2_1 (r_0 + 2) (by omega)).2 (by omega)
       have q2 := (hE_0_2_2 (r_0 + 2) (by omega)).2 (by omega)
       omega)
    | (have q1 := (hE_0_2_1 (r_0 + 1) (by omega)).2 (by omega)
       have q2 := (hE_0_2_2 (r_0 + 1) (by omega)).2 (by omega)
       omega)
    | (have q1 := (hE_0_2_1 (r_0 + 2) (by omega)).2 (by omega)
       omega)
    | (have q1 := (hE_0_2_1 (r_0 + 1) (by omega)).2 (by omega)
       omega)
    | (have q1 := (hE_0_2_1 (r_0 + 2) (by omega)).2 (by omega)
       have q2 := (hE_0_2_2 (r_0 + 2) (by omega)).2 (by omega)
       have q3 := (hE_0_2_3 (r_0 + 2) (by omega)).1 (by omega)
       omega)
    | (have q1 := (hE_0_2_1 (r_0 + 2) (by omega)).2 (by omega)
       have q2 := (hE_0_2_2 (r_0 + 2) (by omega)).2 (by omega)
       have q3 := (hE_0_2_3 (r_0 + 2) (by omega)).2 (by omega)
       omega)
set_option maxHeartbeats 4000000 in
theorem vc_Mo_met_21_5 (x2 : Int) (x7 : Int) (all_0 : Int → Int) (r_0 : Int) (fault_0 : Int) (k2 : 0 ≤ x2 ∧ x2 ≤ 23) (k7 : 0 ≤ x7 ∧ x7 ≤ 23) (f8 : (-1) * fault_0 + 0 ≤ (-1)) (kz_0_8 : 0 ≤ fault_0 ∧ fault_0 ≤ 5) : MET (r_0) (fault_0) (all_0) (x2) (x7) := by
  first
    | (intro q; exfalso; omega)
    | exact fun _ => ‹MEN _ _ _ _›
def o_Mo_met_21 : or_T := (258, 13, [(0, (2, 0, 0, [165])), (1, (0, 0, 7, [])), (2, (0, 0, 23, [])), (3, (0, 0, 2000, [])), (4, (0, 0, 2000, [])), (7, (0, 0, 23, [])), (12, (0, 0, 2000, []))], [(20, [2, 0], [50, 1, 1, 1005, 1002, 3, 6, 0, 2, 1, 0, 0, -1, 0, 10, 3, 1, 2, 4, 3, 2, 1, 5, 0, 1, 0, 47]), (20, [0, 2, 7], [60, 1, 1, 243, 5, 2]), (23, [3, 12], [0, 1, -1]), (23, [4, 12], [-1, 1, -1]), (20, [0, 7], [60, 1, 1, 207, 5, 2]), (20, [1, 0], [50, 1, 1, 1005, 1002, 0, 6, 4, 2, 1, 0, 0, 1, 3, 1, 2, 4, 3, 2, 1, 5, 0, 2]), (20, [0], [60, 1, 3, 199, 5, 2, 3, 4]), (20, [0, 2], [60, 1, 1, 241, 5, 2]), (20, [0], [30, -1, -1, 1, 8]), (20, [0, 0], [30, 0, 1, 1, 15, -1, 1, 11]), (20, [0], [50, 3, 0, 12, 11, 15, 2, 21, 4, 7, 1, 3, 2, 0, 12, 0, 1, 0, 3, 2, 0, 11, 4, 3, 2, 0, 15, 0, 8, 3, 7, 1, 3, 2, 0, 12, 0, 0, 0, 7, 4, 3, 2, 0, 15, 0, 1, 2, 0, 11]), (20, [12, 0], [30, 0, 1, 0, 0, -1, 1, 15]), (102, [12], [0, 165011, 165012, 165013, 165014, 165015]), (23, [3, 12], [0, 1, -1]), (23, [4, 12], [-1, 1, -1]), (8, [7], [3]), (102, [10], [0, 165008, 165009]), (7, [7, 2], [0]), (8, [2], [3]), (8, [7], [3])], [], [], [(20, [3, 0], [30, 0, 1, 0, 0, -1, 1, 11]), (20, [0, 3], [50, 3, 0, 8, 12, 11, 3, 7, 0, 2, 0, 1, 2, 0, 8, 3, 7, 1, 3, 2, 0, 12, 0, 0, 0, 6, 4, 2, 1, 1, 0, 1, 2, 0, 11]), (20, [0, 4], [50, 2, 0, 8, 11, 3, 7, 0, 2, 0, 1, 2, 0, 8, 0, 6, 4, 2, 1, 1, 0, 1, 2, 0, 11]), (20, [0, 7], [31, 1, -1, -1, 1, 8, 0, -1, 0, 0]), (20, [0, 2], [50, 2, 1, 8, 5, 2, 3, 7, 0, 2, 0, 1, 2, 0, 8, 3, 6, 0, 2, 1, 1, 0, -1, 0, 10, 3, 0, 2, 4, 3, 2, 0, 5, 0, 1, 0, 47]), (20, [0, 2, 7], [60, 2, 1, 240, 5, 8, 2])], [], [(7, 2, 0, 0)])
theorem oo_Mo_met_21 {kA : Nat → ClassId} : or_ok PRD kA GG o_Mo_met_21 := by
  refine or_mk fun A ta ws vs hD hth hl => ?_
  intro t0 r0 t1 k1 t2 k2 t3 k3 t4 k4 t7 k7 t12 k12 d0 f0 f1 f2 f3 f4 f5 f6 f7 f8 f9 f10 f11 ta1 w1 le1 s1 f13 f14 f15 ta2 w2 le2 s2 f17 f18 f19
  have kz_0_8 := fdq_14 hD hth r0
  have kz_0_11 := fdq_273 hD hth r0
  have kz_0_12 := fdq_186 hD hth r0
  have kz_0_15 := fdq_274 hD hth r0
  have nf0 : fc_1 PRD (20, [3, 0], [30, 0, 1, 0, 0, -1, 1, 11]) ws (vs) := ⟨nf_in hl rfl, sgq_1395 (vc_Mo_met_21_0 (v_iv (n_v vs 3)) (v_iv (n_v vs 12)) (w_fi ws (n_v vs 0) 5) (w_fi ws (n_v vs 0) 15) (w_fi ws (n_v vs 0) 11) k3 k12 (shm_7 f2) (shm_1397 f9) (shm_1396 f11) kz_0_11 kz_0_15)⟩
  have nf1 : fc_1 PRD (20, [0, 3], [50, 3, 0, 8, 12, 11, 3, 7, 0, 2, 0, 1, 2, 0, 8, 3, 7, 1, 3, 2, 0, 12, 0, 0, 0, 6, 4, 2, 1, 1, 0, 1, 2, 0, 11]) ws (vs) := ⟨nf_in hl rfl, sgq_1660 (vc_Mo_met_21_1 (v_iv (n_v vs 3)) (w_fi ws (n_v vs 0) 5) (w_fi ws (n_v vs 0) 8) (w_fi ws (n_v vs 0) 11) (w_fi ws (n_v vs 0) 12) k3 (shm_144 f8) kz_0_8 kz_0_11 kz_0_12)⟩
  have nf2 : fc_1 PRD (20, [0, 4], [50, 2, 0, 8, 11, 3, 7, 0, 2, 0, 1, 2, 0, 8, 0, 6, 4, 2, 1, 1, 0, 1, 2, 0, 11]) ws (vs) := ⟨nf_in hl rfl, sgq_1659 (vc_Mo_met_21_2 (v_iv (n_v vs 4)) (w_fi ws (n_v vs 0) 5) (w_fi ws (n_v vs 0) 8) (w_fi ws (n_v vs 0) 11) k4 (shm_144 f8) kz_0_8 kz_0_11)⟩
  have nf3 : fc_1 PRD (20, [0, 7], [31, 1, -1, -1, 1, 8, 0, -1, 0, 0]) ws (vs) := ⟨nf_in hl rfl, sgq_1982 (vc_Mo_met_21_3 (v_iv (n_v vs 7)) (w_fi ws (n_v vs 0) 5) (w_fi ws (n_v vs 0) 8) k7 (shm_144 f8) kz_0_8)⟩
  have nf4 : fc_1 PRD (20, [0, 2], [50, 2, 1, 8, 5, 2, 3, 7, 0, 2, 0, 1, 2, 0, 8, 3, 6, 0, 2, 1, 1, 0, -1, 0, 10, 3, 0, 2, 4, 3, 2, 0, 5, 0, 1, 0, 47]) ws (vs) := ⟨nf_in hl rfl, sgq_1983 (vc_Mo_met_21_4 (v_iv (n_v vs 2)) (w_ei ws (w_ar ws (n_v vs 0) 2)) (w_fi ws (n_v vs 0) 5) (w_fi ws (n_v vs 0) 8) k2 (shm_144 f8) kz_0_8)⟩
  have nf5 : fc_1 PRD (20, [0, 2, 7], [60, 2, 1, 240, 5, 8, 2]) ws (vs) := ⟨nf_in hl rfl, sgq_1984 (vc_Mo_met_21_5 (v_iv (n_v vs 2)) (v_iv (n_v vs 7)) (w_ei ws (w_ar ws (n_v vs 0) 2)) (w_fi ws (n_v vs 0) 5) (w_fi ws (n_v vs 0) 8) k2 k7 (shm_144 f8) kz_0_8)⟩
  refine ⟨(fun _ h => (by cases h)), [], trivial, ?_, (fun _ h => (by cases h))⟩
  rw [List.append_nil]
  exact List.forall_mem_cons.mpr ⟨⟨show (20 : Nat) < 100 from by decide, nf0⟩, List.forall_mem_cons.mpr ⟨⟨show (20 : Nat) < 100 from by decide, nf1⟩, List.forall_mem_cons.mpr ⟨⟨show (20 : Nat) < 100 from by decide, nf2⟩, List.forall_mem_cons.mpr ⟨⟨show (20 : Nat) < 100 from by decide, nf3⟩, List.forall_mem_cons.mpr ⟨⟨show (20 : Nat) < 100 from by decide, nf4⟩, List.forall_mem_cons.mpr ⟨⟨show (20 : Nat) < 100 from by decide, nf5⟩, (fun _ h => (by cases h))⟩⟩⟩⟩⟩⟩
set_option maxHeartbeats 4000000 in
theorem vc_Mo_met_22_0 (x3 : Int) (x11 : Int) (fault_0 : Int) (r_0 : Int) (pos_0 : Int) (kind_0 : Int) (k3 : 0 ≤ x3 ∧ x3 ≤ 2000) (k11 : 1 ≤ x11 ∧ x11 ≤ 5) (g1 : x11 = fault_0) (kz_0_8 : 0 ≤ fault_0 ∧ fault_0 ≤ 5) (kz_0_11 : 0 ≤ pos_0 ∧ pos_0 ≤ 2000) (kz_0_12 : 0 ≤ kind_0 ∧ kind_0 ≤ 4) : (1 ≤ fault_0) ∨ ((kind_0 = 0) ∨ ((x3 + 1) ≤ pos_0)) := by
  first
    | omega
    | (have q1 := (hE_0_2_1 (r_0 + 2) (by omega)).2 (by omega)
       have q2 := (hE_0_2_2 (r_0 + 2) (by omega)).2 (by omega)
       omega)
    | (have q1 := (hE_0_2_1 (r_0 + 1) (by omega)).2 (by omega)
       have q2 := (hE_0_2_2 (r_0 + 1) (by omega)).2 (by omega)
       omega)
    | (have q1 := (hE_0_2_1 (r_0 + 2) (by omega)).2 (by omega)
       omega)
    | (have q1 := (hE_0_2_1 (r_0 + 1) (by omega)).2 (by omega)
       omega)
    | (have q1 := (hE_0_2_1 (r_0 + 2) (by omega)).2 (by omega)
       have q2 := (hE_0_2_2 (r_0 + 2) (by omega)).2 (by omega)
       have q3 := (hE_0_2_3 (r_0 + 2) (by omega)).1 (by omega)
       omega)
    | (have q1 := (hE_0_2_1 (r_0 + 2) (by omega)).2 (by omega)
       have q2 := (hE_0_2_2 (r_0 + 2) (by omega)).2 (by omega)
       have q3 := (hE_0_2_3 (r_0 + 2) (by omega)).2 (by omega)
       omega)
set_option maxHeartbeats 4000000 in
theorem vc_Mo_met_22_1 (x4 : Int) (x11 : Int) (fault_0 : Int) (r_0 : Int) (pos_0 : Int) (k4 : 0 ≤ x4 ∧ x4 ≤ 2000) (k11 : 1 ≤ x11 ∧ x11 ≤ 5) (g1 : x11 = fault_0) (kz_0_8 : 0 ≤ fault_0 ∧ fault_0 ≤ 5) (kz_0_11 : 0 ≤ pos_0 ∧ pos_0 ≤ 2000) : (1 ≤ fault_0) ∨ ((x4 + 1) ≤ pos_0) := by
  first
    | omega
    | (have q1 := (hE_0_2_1 (r_0 + 2) (by omega)).2 (by omega)
       have q2 := (hE_0_2_2 (r_0 + 2) (by omega)).2 (by omega)
       omega)
    | (have q1 := (hE_0_2_1 (r_0 + 1) (by omega)).2 (by omega)
       have q2 := (hE_0_2_2 (r_0 + 1) (by omega)).2 (by omega)
       omega)
    | (have q1 := (hE_0_2_1 (r_0 + 2) (by omega)).2 (by omega)
       omega)
    | (have q1 := (hE_0_2_1 (r_0 + 1) (by omega)).2 (by omega)
       omega)
    | (have q1 := (hE_0_2_1 (r_0 + 2) (by omega)).2 (by omega)
       have q2 := (hE_0_2_2 (r_0 + 2) (by omega)).2 (by omega)
       have q3 := (hE_0_2_3 (r_0 + 2) (by omega)).1 (by omega)
       omega)
    | (have q1 := (hE_0_2_1 (r_0 + 2) (by omega)).2 (by omega)
       have q2 := (hE_0_2_2 (r_0 + 2) (by omega)).2 (by omega)
       have q3 := (hE_0_2_3 (r_0 + 2) (by omega)).2 (by omega)
       omega)
set_option maxHeartbeats 4000000 in
theorem vc_Mo_met_22_2 (x11 : Int) (x12 : Int) (fault_0 : Int) (r_0 : Int) (k11 : 1 ≤ x11 ∧ x11 ≤ 5) (k12 : (-1) ≤ x12 ∧ x12 ≤ (-1)) (g1 : x11 = fault_0) (kz_0_8 : 0 ≤ fault_0 ∧ fault_0 ≤ 5) : ((-1) * fault_0 + 0 ≤ (-1)) ∨ ((-1) * x12 + 0 ≤ 0) := by
  first
    | omega
    | (have q1 := (hE_0_2_1 (r_0 + 2) (by omega)).2 (by omega)
       have q2 := (hE_0_2_2 (r_0 + 2) (by omega)).2 (by omega)
       omega)
    | (have q1 := (hE_0_2_1 (r_0 + 1) (by omega)).2 (by omega)
       have q2 := (hE_0_2_2 (r_0 + 1) (by omega)).2 (by omega)
       omega)
    | (have q1 := (hE_0_2_1 (r_0 + 2) (by omega)).2 (by omega)
       omega)
    | (have q1 := (hE_0_2_1 (r_0 + 1) (by omega)).2 (by omega)
       omega)
    | (have q1 := (hE_0_2_1 (r_0 + 2) (by omega)).2 (by omega)
       have q2 := (hE_0_2_2 (r_0 + 2) (by omega)).2 (by omega)
       have q3 := (hE_0_2_3 (r_0 + 2) (by omega)).1 (by omega)
       omega)
    | (have q1 := (hE_0_2_1 (r_0 + 2) (by omega)).2 (by omega)
       have q2 := (hE_0_2_2 (r_0 + 2) (by omega)).2 (by omega)
       have q3 := (hE_0_2_3 (r_0 + 2) (by omega)).2 (by omega)
       omega)
set_option maxHeartbeats 4000000 in
theorem vc_Mo_met_22_3 (x2 : Int) (x11 : Int) (fault_0 : Int) (all_0 : Int → Int) (r_0 : Int) (k2 : 0 ≤ x2 ∧ x2 ≤ 23) (k11 : 1 ≤ x11 ∧ x11 ≤ 5) (g1 : x11 = fault_0) (kz_0_8 : 0 ≤ fault_0 ∧ fault_0 ≤ 5) : (1 ≤ fault_0) ∨ ((x2 ≤ (-1)) ∨ (all_0 ((r_0 + 1)) ≤ 47)) := by
  first
    | omega
    | (have q1 := (hE_0_2_1 (r_0 + 2) (by omega)).2 (by omega)
       have q2 := (hE_0_2_2 (r_0 + 2) (by omega)).2 (by omega)
       omega)
    | (have q1 := (hE_0_2_1 (r_0 + 1) (by omega)).2 (by omega)
       have q2 := (hE_0_2_2 (r_0 + 1) (by omega)).2 (by omega)
       omega)
    | (have q1 := (hE_0_2_1 (r_0 + 2) (by omega)).2 (by omega)
       omega)
    | (have q1 := (hE_0_2_1 (r_0 + 1) (by omega)).2 (by omega)
       omega)
    | (have q1 := (hE_0_2_1 (r_0 + 2) (by omega)).2 (by omega)
       have q2 := (hE_0_2_2 (r_0 + 2) (by omega)).2 (by omega)
       have q3 := (hE_0_2_3 (r_0 + 2) (by omega)).1 (by omega)
       omega)
    | (have q1 := (hE_0_2_1 (r_0 + 2) (by omega)).2 (by omega)
       have q2 := (hE_0_2_2 (r_0 + 2) (by omega)).2 (by omega)
       have q3 := (hE_0_2_3 (r_0 + 2) (by omega)).2 (by omega)
       omega)
set_option maxHeartbeats 4000000 in
theorem vc_Mo_met_22_4 (x2 : Int) (x11 : Int) (x12 : Int) (fault_0 : Int) (all_0 : Int → Int) (r_0 : Int) (k2 : 0 ≤ x2 ∧ x2 ≤ 23) (k11 : 1 ≤ x11 ∧ x11 ≤ 5) (k12 : (-1) ≤ x12 ∧ x12 ≤ (-1)) (g1 : x11 = fault_0) (kz_0_8 : 0 ≤ fault_0 ∧ fault_0 ≤ 5) : MET (r_0) (fault_0) (all_0) (x2) (x12) := by
  first
    | (intro q; exfalso; omega)
    | exact fun _ => ‹MEN _ _ _ _›
def o_Mo_met_22 : or_T := (121, 13, [(0, (2, 0, 0, [165])), (2, (0, 0, 23, [])), (3, (0, 0, 2000, [])), (4, (0, 0, 2000, [])), (11, (0, 1, 5, [])), (12, (0, -1, -1, []))], [(9, [11, 0], [8])], [], [], [(20, [0, 3], [50, 3, 0, 8, 12, 11, 3, 7, 0, 2, 0, 1, 2, 0, 8, 3, 7, 1, 3, 2, 0, 12, 0, 0, 0, 6, 4, 2, 1, 1, 0, 1, 2, 0, 11]), (20, [0, 4], [50, 2, 0, 8, 11, 3, 7, 0, 2, 0, 1, 2, 0, 8, 0, 6, 4, 2, 1, 1, 0, 1, 2, 0, 11]), (20, [0, 12], [31, 1, -1, -1, 1, 8, 0, -1, 0, 0]), (20, [0, 2], [50, 2, 1, 8, 5, 2, 3, 7, 0, 2, 0, 1, 2, 0, 8, 3, 6, 0, 2, 1, 1, 0, -1, 0, 10, 3, 0, 2, 4, 3, 2, 0, 5, 0, 1, 0, 47]), (20, [0, 2, 12], [60, 2, 1, 240, 5, 8, 2])], [], [])
theorem oo_Mo_met_22 {kA : Nat → ClassId} : or_ok PRD kA GG o_Mo_met_22 := by
  refine or_mk fun A ta ws vs hD hth hl => ?_
  intro t0 r0 t2 k2 t3 k3 t4 k4 t11 k11 t12 k12 f1
  replace f1 := shm_143 f1
  have g1 : v_iv (n_v vs 11) = w_fi ws (n_v vs 0) 8 := congrArg v_iv f1
  have kz_0_8 := fdq_14 hD hth r0
  have kz_0_11 := fdq_273 hD hth r0
  have kz_0_12 := fdq_186 hD hth r0
  have nf0 : fc_1 PRD (20, [0, 3], [50, 3, 0, 8, 12, 11, 3, 7, 0, 2, 0, 1, 2, 0, 8, 3, 7, 1, 3, 2, 0, 12, 0, 0, 0, 6, 4, 2, 1, 1, 0, 1, 2, 0, 11]) ws (vs) := ⟨nf_in hl rfl, sgq_1660 (vc_Mo_met_22_0 (v_iv (n_v vs 3)) (v_iv (n_v vs 11)) (w_fi ws (n_v vs 0) 8) (w_fi ws (n_v vs 0) 5) (w_fi ws (n_v vs 0) 11) (w_fi ws (n_v vs 0) 12) k3 k11 g1 kz_0_8 kz_0_11 kz_0_12)⟩
  have nf1 : fc_1 PRD (20, [0, 4], [50, 2, 0, 8, 11, 3, 7, 0, 2, 0, 1, 2, 0, 8, 0, 6, 4, 2, 1, 1, 0, 1, 2, 0, 11]) ws (vs) := ⟨nf_in hl rfl, sgq_1659 (vc_Mo_met_22_1 (v_iv (n_v vs 4)) (v_iv (n_v vs 11)) (w_fi ws (n_v vs 0) 8) (w_fi ws (n_v vs 0) 5) (w_fi ws (n_v vs 0) 11) k4 k11 g1 kz_0_8 kz_0_11)⟩
  have nf2 : fc_1 PRD (20, [0, 12], [31, 1, -1, -1, 1, 8, 0, -1, 0, 0]) ws (vs) := ⟨nf_in hl rfl, sgq_1982 (vc_Mo_met_22_2 (v_iv (n_v vs 11)) (v_iv (n_v vs 12)) (w_fi ws (n_v vs 0) 8) (w_fi ws (n_v vs 0) 5) k11 k12 g1 kz_0_8)⟩
  have nf3 : fc_1 PRD (20, [0, 2], [50, 2, 1, 8, 5, 2, 3, 7, 0, 2, 0, 1, 2, 0, 8, 3, 6, 0, 2, 1, 1, 0, -1, 0, 10, 3, 0, 2, 4, 3, 2, 0, 5, 0, 1, 0, 47]) ws (vs) := ⟨nf_in hl rfl, sgq_1983 (vc_Mo_met_22_3 (v_iv (n_v vs 2)) (v_iv (n_v vs 11)) (w_fi ws (n_v vs 0) 8) (w_ei ws (w_ar ws (n_v vs 0) 2)) (w_fi ws (n_v vs 0) 5) k2 k11 g1 kz_0_8)⟩
  have nf4 : fc_1 PRD (20, [0, 2, 12], [60, 2, 1, 240, 5, 8, 2]) ws (vs) := ⟨nf_in hl rfl, sgq_1984 (vc_Mo_met_22_4 (v_iv (n_v vs 2)) (v_iv (n_v vs 11)) (v_iv (n_v vs 12)) (w_fi ws (n_v vs 0) 8) (w_ei ws (w_ar ws (n_v vs 0) 2)) (w_fi ws (n_v vs 0) 5) k2 k11 k12 g1 kz_0_8)⟩
  refine ⟨(fun _ h => (by cases h)), [], trivial, ?_, (fun _ h => (by cases h))⟩
  rw [List.append_nil]
  exact List.forall_mem_cons.mpr ⟨⟨show (20 : Nat) < 100 from by decide, nf0⟩, List.forall_mem_cons.mpr ⟨⟨show (20 : Nat) < 100 from by decide, nf1⟩, List.forall_mem_cons.mpr ⟨⟨show (20 : Nat) < 100 from by decide, nf2⟩, List.forall_mem_cons.mpr ⟨⟨show (20 : Nat) < 100 from by decide, nf3⟩, List.forall_mem_cons.mpr ⟨⟨show (20 : Nat) < 100 from by decide, nf4⟩, (fun _ h => (by cases h))⟩⟩⟩⟩⟩
set_option maxHeartbeats 4000000 in
theorem vc_Mo_met_23_0 (x2 : Int) (x10 : Int) (all_0 : Int → Int) (r_0 : Int) (k2 : 0 ≤ x2 ∧ x2 ≤ 23) (k10 : 0 ≤ x10 ∧ x10 ≤ 47) (f2 : 1 * x10 + ((-1) * all_0 (r_0 + 1) + 0) ≤ 0) (f3 : (-1) * x10 + (1 * all_0 (r_0 + 1) + 0) ≤ 0) : (x2 ≤ (-1)) ∨ (all_0 ((r_0 + 1)) ≤ 47) := by
  first
    | omega
    | (have q1 := (hE_0_2_1 (r_0 + 2) (by omega)).2 (by omega)
       have q2 := (hE_0_2_2 (r_0 + 2) (by omega)).2 (by omega)
       omega)
    | (have q1 := (hE_0_2_1 (r_0 + 1) (by omega)).2 (by omega)
       have q2 := (hE_0_2_2 (r_0 + 1) (by omega)).2 (by omega)
       omega)
    | (have q1 := (hE_0_2_1 (r_0 + 2) (by omega)).2 (by omega)
       omega)
    | (have q1 := (hE_0_2_1 (r_0 + 1) (by omega)).2 (by omega)
       omega)
    | (have q1 := (hE_0_2_1 (r_0 + 2) (by omega)).2 (by omega)
       have q2 := (hE_0_2_2 (r_0 + 2) (by omega)).2 (by omega)
       have q3 := (hE_0_2_3 (r_0 + 2) (by omega)).1 (by omega)
       omega)
    | (have q1 := (hE_0_2_1 (r_0 + 2) (by omega)).2 (by omega)
       have q2 := (hE_0_2_2 (r_0 + 2) (by omega)).2 (by omega)
       have q3 := (hE_0_2_3 (r_0 + 2) (by omega)).2 (by omega)
       omega)
set_option maxHeartbeats 4000000 in
theorem vc_Mo_met_23_1 (x2 : Int) (x7 : Int) (x8 : Int) (x10 : Int) (all_0 : Int → Int) (r_0 : Int) (now_0 : Int → Int) (latest_0 : Int → Int) (k2 : 0 ≤ x2 ∧ x2 ≤ 23) (k7 : 0 ≤ x7 ∧ x7 ≤ 23) (k8 : (-1) ≤ x8 ∧ x8 ≤ (-1)) (k10 : 0 ≤ x10 ∧ x10 ≤ 47) (f2 : 1 * x10 + ((-1) * all_0 (r_0 + 1) + 0) ≤ 0) (f3 : (-1) * x10 + (1 * all_0 (r_0 + 1) + 0) ≤ 0) (f6 : x8 < 0) (f7 : BTP (r_0) (all_0) (x7) (x2) (x8)) (f8 : x7 ≠ x2) (f10 : 0 ≤ x7) (f11 : NDB (r_0) (all_0) (x7)) (f18 : RWS (r_0) (all_0) (now_0) (latest_0)) (f19 : MEB (r_0) (all_0) (x2)) : MEN (r_0) (all_0) (x2) (x7) := by
  try simp only [Int.add_zero] at *
  first
    | (exfalso; omega)
    | (have hr := rwn_r ‹RWN _ _ _ _ _›
       have hb := ‹MEN _ _ _ _›.1
       exact men_off (by omega) (men_off (by omega) ‹MEN _ _ _ _› (by assumption) (by omega)) (by assumption) (by omega))
    | exact men_old ‹RWS _ _ _ _› ‹NDB _ _ _› (by omega) ‹MEB _ _ _› (Or.inl (by omega))
    | exact men_old ‹RWS _ _ _ _› ‹NDB _ _ _› (by omega) ‹MEB _ _ _› (Or.inr ⟨by omega, ‹BTP _ _ _ _ _› (by omega), by omega⟩)
set_option maxHeartbeats 4000000 in
theorem vc_Mo_met_23_2 (r_0 : Int) (pos_0 : Int) (gx : Int) (kz_0_11 : 0 ≤ pos_0 ∧ pos_0 ≤ 2000) (ex2 : gx = pos_0) : 1 * gx + ((-1) * pos_0 + 0) ≤ 0 := by
  first
    | omega
    | (have q1 := (hE_0_2_1 (r_0 + 2) (by omega)).2 (by omega)
       have q2 := (hE_0_2_2 (r_0 + 2) (by omega)).2 (by omega)
       omega)
    | (have q1 := (hE_0_2_1 (r_0 + 1) (by omega)).2 (by omega)
       have q2 := (hE_0_2_2 (r_0 + 1) (by omega)).2 (by omega)
       omega)
    | (have q1 := (hE_0_2_1 (r_0 + 2) (by omega)).2 (by omega)
       omega)
    | (have q1 := (hE_0_2_1 (r_0 + 1) (by omega)).2 (by omega)
       omega)
    | (have q1 := (hE_0_2_1 (r_0 + 2) (by omega)).2 (by omega)
       have q2 := (hE_0_2_2 (r_0 + 2) (by omega)).2 (by omega)
       have q3 := (hE_0_2_3 (r_0 + 2) (by omega)).1 (by omega)
       omega)
    | (have q1 := (hE_0_2_1 (r_0 + 2) (by omega)).2 (by omega)
       have q2 := (hE_0_2_2 (r_0 + 2) (by omega)).2 (by omega)
       have q3 := (hE_0_2_3 (r_0 + 2) (by omega)).2 (by omega)
       omega)
set_option maxHeartbeats 4000000 in
theorem vc_Mo_met_23_3 (x3 : Int) (r_0 : Int) (pos_0 : Int) (gx : Int) (k3 : 0 ≤ x3 ∧ x3 ≤ 2000) (f15 : 1 * x3 + ((-1) * pos_0 + 0) ≤ 0) (kz_0_11 : 0 ≤ pos_0 ∧ pos_0 ≤ 2000) (ex2 : gx = pos_0) : 1 * x3 + ((-1) * gx + 0) ≤ 0 := by
  first
    | omega
    | (have q1 := (hE_0_2_1 (r_0 + 2) (by omega)).2 (by omega)
       have q2 := (hE_0_2_2 (r_0 + 2) (by omega)).2 (by omega)
       omega)
    | (have q1 := (hE_0_2_1 (r_0 + 1) (by omega)).2 (by omega)
       have q2 := (hE_0_2_2 (r_0 + 1) (by omega)).2 (by omega)
       omega)
    | (have q1 := (hE_0_2_1 (r_0 + 2) (by omega)).2 (by omega)
       omega)
    | (have q1 := (hE_0_2_1 (r_0 + 1) (by omega)).2 (by omega)
       omega)
    | (have q1 := (hE_0_2_1 (r_0 + 2) (by omega)).2 (by omega)
       have q2 := (hE_0_2_2 (r_0 + 2) (by omega)).2 (by omega)
       have q3 := (hE_0_2_3 (r_0 + 2) (by omega)).1 (by omega)
       omega)
    | (have q1 := (hE_0_2_1 (r_0 + 2) (by omega)).2 (by omega)
       have q2 := (hE_0_2_2 (r_0 + 2) (by omega)).2 (by omega)
       have q3 := (hE_0_2_3 (r_0 + 2) (by omega)).2 (by omega)
       omega)
set_option maxHeartbeats 4000000 in
theorem vc_Mo_met_23_4 (x4 : Int) (x6 : Int) (r_0 : Int) (pos_0 : Int) (kind_0 : Int) (gx : Int) (k4 : 0 ≤ x4 ∧ x4 ≤ 2000) (k6 : 1 ≤ x6 ∧ x6 ≤ 1) (f16 : (kind_0 = 0) ∨ ((x4 + 1) ≤ pos_0)) (f20 : (x6 = 1) → (kind_0 = 1)) (kz_0_11 : 0 ≤ pos_0 ∧ pos_0 ≤ 2000) (kz_0_12 : 0 ≤ kind_0 ∧ kind_0 ≤ 4) (ex2 : gx = pos_0) : 1 * x4 + ((-1) * gx + 0) ≤ (-1) := by
  first
    | omega
    | (have q1 := (hE_0_2_1 (r_0 + 2) (by omega)).2 (by omega)
       have q2 := (hE_0_2_2 (r_0 + 2) (by omega)).2 (by omega)
       omega)
    | (have q1 := (hE_0_2_1 (r_0 + 1) (by omega)).2 (by omega)
       have q2 := (hE_0_2_2 (r_0 + 1) (by omega)).2 (by omega)
       omega)
    | (have q1 := (hE_0_2_1 (r_0 + 2) (by omega)).2 (by omega)
       omega)
    | (have q1 := (hE_0_2_1 (r_0 + 1) (by omega)).2 (by omega)
       omega)
    | (have q1 := (hE_0_2_1 (r_0 + 2) (by omega)).2 (by omega)
       have q2 := (hE_0_2_2 (r_0 + 2) (by omega)).2 (by omega)
       have q3 := (hE_0_2_3 (r_0 + 2) (by omega)).1 (by omega)
       omega)
    | (have q1 := (hE_0_2_1 (r_0 + 2) (by omega)).2 (by omega)
       have q2 := (hE_0_2_2 (r_0 + 2) (by omega)).2 (by omega)
       have q3 := (hE_0_2_3 (r_0 + 2) (by omega)).2 (by omega)
       omega)
def o_Mo_met_23 : or_T := (254, 12, [(0, (2, 0, 0, [165])), (1, (0, 0, 7, [])), (2, (0, 0, 23, [])), (3, (0, 0, 2000, [])), (4, (0, 0, 2000, [])), (6, (0, 1, 1, [])), (7, (0, 0, 23, [])), (8, (0, -1, -1, [])), (10, (0, 0, 47, [])), (11, (0, 48, 48, []))], [(8, [7], [3]), (7, [10, 11], [1]), (20, [10, 0], [30, 0, 1, 0, 0, -1, 3, 2005001]), (20, [10, 0], [30, 0, -1, 0, 0, 1, 3, 2005001]), (8, [2], [3]), (8, [7], [3]), (8, [8], [2]), (20, [0, 7, 2, 8], [60, 1, 1, 206, 5, 2]), (7, [7, 2], [1]), (8, [2], [3]), (8, [7], [3]), (20, [0, 7], [60, 1, 1, 207, 5, 2]), (8, [6], [1]), (20, [0, 0], [30, 0, 1, 1, 15, -1, 1, 11]), (20, [0], [50, 3, 0, 12, 11, 15, 2, 21, 4, 7, 1, 3, 2, 0, 12, 0, 1, 0, 3, 2, 0, 11, 4, 3, 2, 0, 15, 0, 8, 3, 7, 1, 3, 2, 0, 12, 0, 0, 0, 7, 4, 3, 2, 0, 15, 0, 1, 2, 0, 11]), (20, [3, 0], [30, 0, 1, 0, 0, -1, 1, 11]), (20, [0, 4], [50, 2, 0, 12, 11, 3, 7, 1, 3, 2, 0, 12, 0, 0, 0, 6, 4, 2, 1, 1, 0, 1, 2, 0, 11]), (20, [1, 0], [50, 1, 1, 1005, 1002, 0, 6, 4, 2, 1, 0, 0, 1, 3, 1, 2, 4, 3, 2, 1, 5, 0, 2]), (20, [0], [60, 1, 3, 199, 5, 2, 3, 4]), (20, [0, 2], [60, 1, 1, 241, 5, 2]), (20, [6, 0], [50, 1, 0, 1012, 4, 6, 1, 2, 1, 0, 0, 1, 1, 3, 2, 1, 12, 0, 1])], [], [(0, 0, 2000, [])], [(20, [2, 0], [50, 1, 1, 1005, 1002, 3, 6, 0, 2, 1, 0, 0, -1, 0, 10, 3, 1, 2, 4, 3, 2, 1, 5, 0, 1, 0, 47]), (20, [0, 2, 7], [60, 1, 1, 243, 5, 2]), (20, [12, 0], [30, 0, 1, 0, 0, -1, 1, 11]), (23, [3, 12], [0, 1, -1]), (23, [4, 12], [-1, 1, -1])], [], [])
theorem oo_Mo_met_23 {kA : Nat → ClassId} : or_ok PRD kA GG o_Mo_met_23 := by
  refine or_mk fun A ta ws vs hD hth hl => ?_
  intro t0 r0 t1 k1 t2 k2 t3 k3 t4 k4 t6 k6 t7 k7 t8 k8 t10 k10 t11 k11 f0 f1 f2 f3 f4 f5 f6 f7 f8 f9 f10 f11 f12 f13 f14 f15 f16 f17 f18 f19 f20
  replace f2 := shm_130 f2
  replace f3 := shm_131 f3
  replace f6 := shm_39 f6
  replace f7 := shm_1384 f7
  replace f8 := shm_40 f8
  replace f10 := shm_32 f10
  replace f11 := shm_1200 f11
  replace f15 := shm_1395 f15
  replace f16 := shm_1978 f16
  replace f18 := shm_952 f18
  replace f19 := shm_1979 f19
  replace f20 := shm_1762 f20
  have kz_0_11 := fdq_273 hD hth r0
  have kz_0_12 := fdq_186 hD hth r0
  obtain ⟨x, ex, hx⟩ := iv_ex (ta := ta) (lo := 0) (hi := 2000) (z := w_fi ws (n_v vs 0) 11) (by omega) (by omega) (by omega) (by omega)
  have ex2 : v_iv (Value.int x) = w_fi ws (n_v vs 0) 11 := ex
  have ex3 : 0 ≤ v_iv (Value.int x) ∧ v_iv (Value.int x) ≤ 2000 := tv_rng hx
  have e_0 : n_v (vs ++ [Value.int x]) 0 = n_v vs 0 := n_v_old (by rw [hl]; decide)
  have e_2 : n_v (vs ++ [Value.int x]) 2 = n_v vs 2 := n_v_old (by rw [hl]; decide)
  have e_3 : n_v (vs ++ [Value.int x]) 3 = n_v vs 3 := n_v_old (by rw [hl]; decide)
  have e_4 : n_v (vs ++ [Value.int x]) 4 = n_v vs 4 := n_v_old (by rw [hl]; decide)
  have e_7 : n_v (vs ++ [Value.int x]) 7 = n_v vs 7 := n_v_old (by rw [hl]; decide)
  have e_12 : n_v (vs ++ [Value.int x]) 12 = Value.int x := n_v_new hl
  have nf0 : fc_1 PRD (20, [2, 0], [50, 1, 1, 1005, 1002, 3, 6, 0, 2, 1, 0, 0, -1, 0, 10, 3, 1, 2, 4, 3, 2, 1, 5, 0, 1, 0, 47]) ws (vs ++ [Value.int x]) := by
    refine ⟨nf_inA hl rfl, sgq_1980 ?_⟩
    · show (v_iv (n_v (vs ++ [Value.int x]) 2) ≤ (-1)) ∨ (w_ei ws (w_ar ws (n_v (vs ++ [Value.int x]) 0) 2) ((w_fi ws (n_v (vs ++ [Value.int x]) 0) 5 + 1)) ≤ 47)
      simp only [e_0, e_2]
      exact vc_Mo_met_23_0 (v_iv (n_v vs 2)) (v_iv (n_v vs 10)) (w_ei ws (w_ar ws (n_v vs 0) 2)) (w_fi ws (n_v vs 0) 5) k2 k10 f2 f3
  have nf1 : fc_1 PRD (20, [0, 2, 7], [60, 1, 1, 243, 5, 2]) ws (vs ++ [Value.int x]) := by
    refine ⟨nf_inA hl rfl, sgq_1981 ?_⟩
    · show MEN (w_fi ws (n_v (vs ++ [Value.int x]) 0) 5) (w_ei ws (w_ar ws (n_v (vs ++ [Value.int x]) 0) 2)) (v_iv (n_v (vs ++ [Value.int x]) 2)) (v_iv (n_v (vs ++ [Value.int x]) 7))
      simp only [e_0, e_2, e_7]
      exact vc_Mo_met_23_1 (v_iv (n_v vs 2)) (v_iv (n_v vs 7)) (v_iv (n_v vs 8)) (v_iv (n_v vs 10)) (w_ei ws (w_ar ws (n_v vs 0) 2)) (w_fi ws (n_v vs 0) 5) (w_ei ws (w_ar ws (n_v vs 0) 3)) (w_ei ws (w_ar ws (n_v vs 0) 4)) k2 k7 k8 k10 f2 f3 f6 f7 f8 f10 f11 f18 f19
  have nf2 : fc_1 PRD (20, [12, 0], [30, 0, 1, 0, 0, -1, 1, 11]) ws (vs ++ [Value.int x]) := by
    refine ⟨nf_inA hl rfl, sgq_1395 ?_⟩
    · show 1 * v_iv (n_v (vs ++ [Value.int x]) 12) + ((-1) * w_fi ws (n_v (vs ++ [Value.int x]) 0) 11 + 0) ≤ 0
      simp only [e_0, e_12]
      exact vc_Mo_met_23_2 (w_fi ws (n_v vs 0) 5) (w_fi ws (n_v vs 0) 11) (v_iv (Value.int x)) kz_0_11 ex2
  have nf3 : fc_1 PRD (23, [3, 12], [0, 1, -1]) ws (vs ++ [Value.int x]) := by
    refine ⟨nf_inA hl rfl, sgq_7 ?_⟩
    · show 1 * v_iv (n_v (vs ++ [Value.int x]) 3) + ((-1) * v_iv (n_v (vs ++ [Value.int x]) 12) + 0) ≤ 0
      simp only [e_3, e_12]
      exact vc_Mo_met_23_3 (v_iv (n_v vs 3)) (w_fi ws (n_v vs 0) 5) (w_fi ws (n_v vs 0) 11) (v_iv (Value.int x)) k3 f15 kz_0_11 ex2
  have nf4 : fc_1 PRD (23, [4, 12], [-1, 1, -1]) ws (vs ++ [Value.int x]) := by
    refine ⟨nf_inA hl rfl, sgq_211 ?_⟩
    · show 1 * v_iv (n_v (vs ++ [Value.int x]) 4) + ((-1) * v_iv (n_v (vs ++ [Value.int x]) 12) + 0) ≤ (-1)
      simp only [e_4, e_12]
      exact vc_Mo_met_23_4 (v_iv (n_v vs 4)) (v_iv (n_v vs 6)) (w_fi ws (n_v vs 0) 5) (w_fi ws (n_v vs 0) 11) (w_fi ws (n_v vs 0) 12) (v_iv (Value.int x)) k4 k6 f16 f20 kz_0_11 kz_0_12 ex2
  exact ⟨(fun _ h => (by cases h)), [Value.int x], ag_one hx, List.forall_mem_cons.mpr ⟨⟨show (20 : Nat) < 100 from by decide, nf0⟩, List.forall_mem_cons.mpr ⟨⟨show (20 : Nat) < 100 from by decide, nf1⟩, List.forall_mem_cons.mpr ⟨⟨show (20 : Nat) < 100 from by decide, nf2⟩, List.forall_mem_cons.mpr ⟨⟨show (23 : Nat) < 100 from by decide, nf3⟩, List.forall_mem_cons.mpr ⟨⟨show (23 : Nat) < 100 from by decide, nf4⟩, (fun _ h => (by cases h))⟩⟩⟩⟩⟩, (fun _ h => (by cases h))⟩
set_option maxHeartbeats 4000000 in
theorem vc_Mo_met_24_0 (x3 : Int) (x12 : Int) (r_0 : Int) (from_0 : Int) (pos_0 : Int) (k3 : 0 ≤ x3 ∧ x3 ≤ 2000) (k12 : 0 ≤ x12 ∧ x12 ≤ 2000) (f2 : 1 * x3 + ((-1) * x12 + 0) ≤ 0) (f11 : 1 * from_0 + ((-1) * pos_0 + 0) ≤ 0) (f13 : 1 * x12 + ((-1) * from_0 + 0) ≤ 0) (kz_0_11 : 0 ≤ pos_0 ∧ pos_0 ≤ 2000) (kz_0_15 : 0 ≤ from_0 ∧ from_0 ≤ 2000) : 1 * x3 + ((-1) * pos_0 + 0) ≤ 0 := by
  first
    | omega
    | (have q1 := (hE_0_2_1 (r_0 + 2) (by omega)).2 (by omega)
       have q2 := (hE_0_2_2 (r_0 + 2) (by omega)).2 (by omega)
       omega)
    | (have q1 := (hE_0_2_1 (r_0 + 1) (by omega)).2 (by omega)
       have q2 := (hE_0_2_2 (r_0 + 1) (by omega)).2 (by omega)
       omega)
    | (have q1 := (hE_0_2_1 (r_0 + 2) (by omega)).2 (by omega)
       omega)
    | (have q1 := (hE_0_2_1 (r_0 + 1) (by omega)).2 (by omega)
       omega)
    | (have q1 := (hE_0_2_1 (r_0 + 2) (by omega)).2 (by omega)
       have q2 := (hE_0_2_2 (r_0 + 2) (by omega)).2 (by omega)
       have q3 := (hE_0_2_3 (r_0 + 2) (by omega)).1 (by omega)
       omega)
    | (have q1 := (hE_0_2_1 (r_0 + 2) (by omega)).2 (by omega)
       have q2 := (hE_0_2_2 (r_0 + 2) (by omega)).2 (by omega)
       have q3 := (hE_0_2_3 (r_0 + 2) (by omega)).2 (by omega)
       omega)
set_option maxHeartbeats 4000000 in
theorem vc_Mo_met_24_1 (x2 : Int) (x3 : Int) (x7 : Int) (x10 : Int) (x11 : Int) (x12 : Int) (all_0 : Int → Int) (r_0 : Int) (from_0 : Int) (pos_0 : Int) (kind_0 : Int) (fault_0 : Int) (k2 : 0 ≤ x2 ∧ x2 ≤ 23) (k3 : 0 ≤ x3 ∧ x3 ≤ 2000) (k7 : 0 ≤ x7 ∧ x7 ≤ 23) (k10 : 0 ≤ x10 ∧ x10 ≤ 47) (k11 : 48 ≤ x11 ∧ x11 ≤ 48) (k12 : 0 ≤ x12 ∧ x12 ≤ 2000) (f2 : 1 * x3 + ((-1) * x12 + 0) ≤ 0) (f4 : 1 * x10 + ((-1) * all_0 (r_0 + 1) + 0) ≤ 0) (f5 : (-1) * x10 + (1 * all_0 (r_0 + 1) + 0) ≤ 0) (f12 : ((kind_0 = 1) → (pos_0 ≤ (from_0 + 8))) ∧ ((kind_0 = 0) ∨ ((from_0 + 1) ≤ pos_0))) (f13 : 1 * x12 + ((-1) * from_0 + 0) ≤ 0) (f18 : x10 ≠ x11) (f22 : x7 ≠ x2) (kz_0_8 : 0 ≤ fault_0 ∧ fault_0 ≤ 5) (kz_0_11 : 0 ≤ pos_0 ∧ pos_0 ≤ 2000) (kz_0_12 : 0 ≤ kind_0 ∧ kind_0 ≤ 4) (kz_0_15 : 0 ≤ from_0 ∧ from_0 ≤ 2000) : (1 ≤ fault_0) ∨ ((kind_0 = 0) ∨ ((x3 + 1) ≤ pos_0)) := by
  first
    | omega
    | (have q1 := (hE_0_2_1 (r_0 + 2) (by omega)).2 (by omega)
       have q2 := (hE_0_2_2 (r_0 + 2) (by omega)).2 (by omega)
       omega)
    | (have q1 := (hE_0_2_1 (r_0 + 1) (by omega)).2 (by omega)
       have q2 := (hE_0_2_2 (r_0 + 1) (by omega)).2 (by omega)
       omega)
    | (have q1 := (hE_0_2_1 (r_0 + 2) (by omega)).2 (by omega)
       omega)
    | (have q1 := (hE_0_2_1 (r_0 + 1) (by omega)).2 (by omega)
       omega)
    | (have q1 := (hE_0_2_1 (r_0 + 2) (by omega)).2 (by omega)
       have q2 := (hE_0_2_2 (r_0 + 2) (by omega)).2 (by omega)
       have q3 := (hE_0_2_3 (r_0 + 2) (by omega)).1 (by omega)
       omega)
    | (have q1 := (hE_0_2_1 (r_0 + 2) (by omega)).2 (by omega)
       have q2 := (hE_0_2_2 (r_0 + 2) (by omega)).2 (by omega)
       have q3 := (hE_0_2_3 (r_0 + 2) (by omega)).2 (by omega)
       omega)
set_option maxHeartbeats 4000000 in
theorem vc_Mo_met_24_2 (x4 : Int) (x12 : Int) (r_0 : Int) (from_0 : Int) (pos_0 : Int) (fault_0 : Int) (k4 : 0 ≤ x4 ∧ x4 ≤ 2000) (k12 : 0 ≤ x12 ∧ x12 ≤ 2000) (f3 : 1 * x4 + ((-1) * x12 + 0) ≤ (-1)) (f11 : 1 * from_0 + ((-1) * pos_0 + 0) ≤ 0) (f13 : 1 * x12 + ((-1) * from_0 + 0) ≤ 0) (kz_0_8 : 0 ≤ fault_0 ∧ fault_0 ≤ 5) (kz_0_11 : 0 ≤ pos_0 ∧ pos_0 ≤ 2000) (kz_0_15 : 0 ≤ from_0 ∧ from_0 ≤ 2000) : (1 ≤ fault_0) ∨ ((x4 + 1) ≤ pos_0) := by
  first
    | omega
    | (have q1 := (hE_0_2_1 (r_0 + 2) (by omega)).2 (by omega)
       have q2 := (hE_0_2_2 (r_0 + 2) (by omega)).2 (by omega)
       omega)
    | (have q1 := (hE_0_2_1 (r_0 + 1) (by omega)).2 (by omega)
       have q2 := (hE_0_2_2 (r_0 + 1) (by omega)).2 (by omega)
       omega)
    | (have q1 := (hE_0_2_1 (r_0 + 2) (by omega)).2 (by omega)
       omega)
    | (have q1 := (hE_0_2_1 (r_0 + 1) (by omega)).2 (by omega)
       omega)
    | (have q1 := (hE_0_2_1 (r_0 + 2) (by omega)).2 (by omega)
       have q2 := (hE_0_2_2 (r_0 + 2) (by omega)).2 (by omega)
       have q3 := (hE_0_2_3 (r_0 + 2) (by omega)).1 (by omega)
       omega)
    | (have q1 := (hE_0_2_1 (r_0 + 2) (by omega)).2 (by omega)
       have q2 := (hE_0_2_2 (r_0 + 2) (by omega)).2 (by omega)
       have q3 := (hE_0_2_3 (r_0 + 2) (by omega)).2 (by omega)
       omega)
set_option maxHeartbeats 4000000 in
theorem vc_Mo_met_24_3 (x7 : Int) (r_0 : Int) (fault_0 : Int) (k7 : 0 ≤ x7 ∧ x7 ≤ 23) (kz_0_8 : 0 ≤ fault_0 ∧ fault_0 ≤ 5) : ((-1) * fault_0 + 0 ≤ (-1)) ∨ ((-1) * x7 + 0 ≤ 0) := by
  first
    | omega
    | (have q1 := (hE_0_2_1 (r_0 + 2) (by omega)).2 (by omega)
       have q2 := (hE_0_2_2 (r_0 + 2) (by omega)).2 (by omega)
       omega)
    | (have q1 := (hE_0_2_1 (r_0 + 1) (by omega)).2 (by omega)
       have q2 := (hE_0_2_2 (r_0 + 1) (by omega)).2 (by omega)
       omega)
    | (have q1 := (hE_0_2_1 (r_0 + 2) (by omega)).2 (by omega)
       omega)
    | (have q1 := (hE_0_2_1 (r_0 + 1) (by omega)).2 (by omega)
       omega)
    | (have q1 := (hE_0_2_1 (r_0 + 2) (by omega)).2 (by omega)
       have q2 := (hE_0_2_2 (r_0 + 2) (by omega)).2 (by omega)
       have q3 := (hE_0_2_3 (r_0 + 2) (by omega)).1 (by omega)
       omega)
    | (have q1 := (hE_0_2_1 (r_0 + 2) (by omega)).2 (by omega)
       have q2 := (hE_0_2_2 (r_0 + 2) (by omega)).2 (by omega)
       have q3 := (hE_0_2_3 (r_0 + 2) (by omega)).2 (by omega)
       omega)
set_option maxHeartbeats 4000000 in
theorem vc_Mo_met_24_4 (x2 : Int) (x10 : Int) (all_0 : Int → Int) (r_0 : Int) (fault_0 : Int) (k2 : 0 ≤ x2 ∧ x2 ≤ 23) (k10 : 0 ≤ x10 ∧ x10 ≤ 47) (f4 : 1 * x10 + ((-1) * all_0 (r_0 + 1) + 0) ≤ 0) (f5 : (-1) * x10 + (1 * all_0 (r_0 + 1) + 0) ≤ 0) (kz_0_8 : 0 ≤ fault_0 ∧ fault_0 ≤ 5) : (1 ≤ fault_0) ∨ ((x2 ≤ (-1)) ∨ (all_0 ((r_0 + 1)) ≤ 47)) := by
  first
    | omega
    | (have q1 := (hE_0_2_1 (r_0 + 2) (by omega)).2 (by omega)
       have q2 := (hE_0_2_2 (r_0 + 2) (by omega)).2 (by omega)
       omega)
    | (have q1 := (hE_0_2_1 (r_0 + 1) (by omega)).2 (by omega)
       have q2 := (hE_0_2_2 (r_0 + 1) (by omega)).2 (by omega)
       omega)
    | (have q1 := (hE_0_2_1 (r_0 + 2) (by omega)).2 (by omega)
       omega)
    | (have q1 := (hE_0_2_1 (r_0 + 1) (by omega)).2 (by omega)
       omega)
    | (have q1 := (hE_0_2_1 (r_0 + 2) (by omega)).2 (by omega)
       have q2 := (hE_0_2_2 (r_0 + 2) (by omega)).2 (by omega)
       have q3 := (hE_0_2_3 (r_0 + 2) (by omega)).1 (by omega)
       omega)
    | (have q1 := (hE_0_2_1 (r_0 + 2) (by omega)).2 (by omega)
       have q2 := (hE_0_2_2 (r_0 + 2) (by omega)).2 (by omega)
       have q3 := (hE_0_2_3 (r_0 + 2) (by omega)).2 (by omega)
       omega)
set_option maxHeartbeats 4000000 in
theorem vc_Mo_met_24_5 (x2 : Int) (x7 : Int) (all_0 : Int → Int) (r_0 : Int) (fault_0 : Int) (k2 : 0 ≤ x2 ∧ x2 ≤ 23) (k7 : 0 ≤ x7 ∧ x7 ≤ 23) (f1 : MEN (r_0) (all_0) (x2) (x7)) (kz_0_8 : 0 ≤ fault_0 ∧ fault_0 ≤ 5) : MET (r_0) (fault_0) (all_0) (x2) (x7) := by
  first
    | (intro q; exfalso; omega)
    | exact fun _ => ‹MEN _ _ _ _›
def o_Mo_met_24 : or_T := (258, 13, [(0, (2, 0, 0, [165])), (1, (0, 0, 7, [])), (2, (0, 0, 23, [])), (3, (0, 0, 2000, [])), (4, (0, 0, 2000, [])), (7, (0, 0, 23, [])), (8, (0, -1, -1, [])), (10, (0, 0, 47, [])), (11, (0, 48, 48, [])), (12, (0, 0, 2000, []))], [(20, [2, 0], [50, 1, 1, 1005, 1002, 3, 6, 0, 2, 1, 0, 0, -1, 0, 10, 3, 1, 2, 4, 3, 2, 1, 5, 0, 1, 0, 47]), (20, [0, 2, 7], [60, 1, 1, 243, 5, 2]), (23, [3, 12], [0, 1, -1]), (23, [4, 12], [-1, 1, -1]), (20, [10, 0], [30, 0, 1, 0, 0, -1, 3, 2005001]), (20, [10, 0], [30, 0, -1, 0, 0, 1, 3, 2005001]), (20, [0, 7, 2, 8], [60, 1, 1, 206, 5, 2]), (20, [0, 7], [60, 1, 1, 207, 5, 2]), (20, [1, 0], [50, 1, 1, 1005, 1002, 0, 6, 4, 2, 1, 0, 0, 1, 3, 1, 2, 4, 3, 2, 1, 5, 0, 2]), (20, [0], [60, 1, 3, 199, 5, 2, 3, 4]), (20, [0, 2], [60, 1, 1, 241, 5, 2]), (20, [0, 0], [30, 0, 1, 1, 15, -1, 1, 11]), (20, [0], [50, 3, 0, 12, 11, 15, 2, 21, 4, 7, 1, 3, 2, 0, 12, 0, 1, 0, 3, 2, 0, 11, 4, 3, 2, 0, 15, 0, 8, 3, 7, 1, 3, 2, 0, 12, 0, 0, 0, 7, 4, 3, 2, 0, 15, 0, 1, 2, 0, 11]), (20, [12, 0], [30, 0, 1, 0, 0, -1, 1, 15]), (102, [12], [0, 165011, 165012, 165013, 165014, 165015]), (23, [3, 12], [0, 1, -1]), (23, [4, 12], [-1, 1, -1]), (8, [7], [3]), (7, [10, 11], [1]), (8, [2], [3]), (8, [7], [3]), (8, [8], [2]), (7, [7, 2], [1]), (8, [2], [3]), (8, [7], [3])], [], [], [(20, [3, 0], [30, 0, 1, 0, 0, -1, 1, 11]), (20, [0, 3], [50, 3, 0, 8, 12, 11, 3, 7, 0, 2, 0, 1, 2, 0, 8, 3, 7, 1, 3, 2, 0, 12, 0, 0, 0, 6, 4, 2, 1, 1, 0, 1, 2, 0, 11]), (20, [0, 4], [50, 2, 0, 8, 11, 3, 7, 0, 2, 0, 1, 2, 0, 8, 0, 6, 4, 2, 1, 1, 0, 1, 2, 0, 11]), (20, [0, 7], [31, 1, -1, -1, 1, 8, 0, -1, 0, 0]), (20, [0, 2], [50, 2, 1, 8, 5, 2, 3, 7, 0, 2, 0, 1, 2, 0, 8, 3, 6, 0, 2, 1, 1, 0, -1, 0, 10, 3, 0, 2, 4, 3, 2, 0, 5, 0, 1, 0, 47]), (20, [0, 2, 7], [60, 2, 1, 240, 5, 8, 2])], [], [])
theorem oo_Mo_met_24 {kA : Nat → ClassId} : or_ok PRD kA GG o_Mo_met_24 := by
  refine or_mk fun A ta ws vs hD hth hl => ?_
  intro t0 r0 t1 k1 t2 k2 t3 k3 t4 k4 t7 k7 t8 k8 t10 k10 t11 k11 t12 k12 f0 f1 f2 f3 f4 f5 f6 f7 f8 f9 f10 f11 f12 f13 ta1 w1 le1 s1 f15 f16 f17 f18 f19 f20 f21 f22 f23 f24
  have kz_0_8 := fdq_14 hD hth r0
  have kz_0_11 := fdq_273 hD hth r0
  have kz_0_12 := fdq_186 hD hth r0
  have kz_0_15 := fdq_274 hD hth r0
  have nf0 : fc_1 PRD (20, [3, 0], [30, 0, 1, 0, 0, -1, 1, 11]) ws (vs) := ⟨nf_in hl rfl, sgq_1395 (vc_Mo_met_24_0 (v_iv (n_v vs 3)) (v_iv (n_v vs 12)) (w_fi ws (n_v vs 0) 5) (w_fi ws (n_v vs 0) 15) (w_fi ws (n_v vs 0) 11) k3 k12 (shm_7 f2) (shm_1397 f11) (shm_1396 f13) kz_0_11 kz_0_15)⟩
  have nf1 : fc_1 PRD (20, [0, 3], [50, 3, 0, 8, 12, 11, 3, 7, 0, 2, 0, 1, 2, 0, 8, 3, 7, 1, 3, 2, 0, 12, 0, 0, 0, 6, 4, 2, 1, 1, 0, 1, 2, 0, 11]) ws (vs) := ⟨nf_in hl rfl, sgq_1660 (vc_Mo_met_24_1 (v_iv (n_v vs 2)) (v_iv (n_v vs 3)) (v_iv (n_v vs 7)) (v_iv (n_v vs 10)) (v_iv (n_v vs 11)) (v_iv (n_v vs 12)) (w_ei ws (w_ar ws (n_v vs 0) 2)) (w_fi ws (n_v vs 0) 5) (w_fi ws (n_v vs 0) 15) (w_fi ws (n_v vs 0) 11) (w_fi ws (n_v vs 0) 12) (w_fi ws (n_v vs 0) 8) k2 k3 k7 k10 k11 k12 (shm_7 f2) (shm_130 f4) (shm_131 f5) (shm_1398 f12) (shm_1396 f13) (shm_40 f18) (shm_40 f22) kz_0_8 kz_0_11 kz_0_12 kz_0_15)⟩
  have nf2 : fc_1 PRD (20, [0, 4], [50, 2, 0, 8, 11, 3, 7, 0, 2, 0, 1, 2, 0, 8, 0, 6, 4, 2, 1, 1, 0, 1, 2, 0, 11]) ws (vs) := ⟨nf_in hl rfl, sgq_1659 (vc_Mo_met_24_2 (v_iv (n_v vs 4)) (v_iv (n_v vs 12)) (w_fi ws (n_v vs 0) 5) (w_fi ws (n_v vs 0) 15) (w_fi ws (n_v vs 0) 11) (w_fi ws (n_v vs 0) 8) k4 k12 (shm_211 f3) (shm_1397 f11) (shm_1396 f13) kz_0_8 kz_0_11 kz_0_15)⟩
  have nf3 : fc_1 PRD (20, [0, 7], [31, 1, -1, -1, 1, 8, 0, -1, 0, 0]) ws (vs) := ⟨nf_in hl rfl, sgq_1982 (vc_Mo_met_24_3 (v_iv (n_v vs 7)) (w_fi ws (n_v vs 0) 5) (w_fi ws (n_v vs 0) 8) k7 kz_0_8)⟩
  have nf4 : fc_1 PRD (20, [0, 2], [50, 2, 1, 8, 5, 2, 3, 7, 0, 2, 0, 1, 2, 0, 8, 3, 6, 0, 2, 1, 1, 0, -1, 0, 10, 3, 0, 2, 4, 3, 2, 0, 5, 0, 1, 0, 47]) ws (vs) := ⟨nf_in hl rfl, sgq_1983 (vc_Mo_met_24_4 (v_iv (n_v vs 2)) (v_iv (n_v vs 10)) (w_ei ws (w_ar ws (n_v vs 0) 2)) (w_fi ws (n_v vs 0) 5) (w_fi ws (n_v vs 0) 8) k2 k10 (shm_130 f4) (shm_131 f5) kz_0_8)⟩
  have nf5 : fc_1 PRD (20, [0, 2, 7], [60, 2, 1, 240, 5, 8, 2]) ws (vs) := ⟨nf_in hl rfl, sgq_1984 (vc_Mo_met_24_5 (v_iv (n_v vs 2)) (v_iv (n_v vs 7)) (w_ei ws (w_ar ws (n_v vs 0) 2)) (w_fi ws (n_v vs 0) 5) (w_fi ws (n_v vs 0) 8) k2 k7 (shm_1981 f1) kz_0_8)⟩
  refine ⟨(fun _ h => (by cases h)), [], trivial, ?_, (fun _ h => (by cases h))⟩
  rw [List.append_nil]
  exact List.forall_mem_cons.mpr ⟨⟨show (20 : Nat) < 100 from by decide, nf0⟩, List.forall_mem_cons.mpr ⟨⟨show (20 : Nat) < 100 from by decide, nf1⟩, List.forall_mem_cons.mpr ⟨⟨show (20 : Nat) < 100 from by decide, nf2⟩, List.forall_mem_cons.mpr ⟨⟨show (20 : Nat) < 100 from by decide, nf3⟩, List.forall_mem_cons.mpr ⟨⟨show (20 : Nat) < 100 from by decide, nf4⟩, List.forall_mem_cons.mpr ⟨⟨show (20 : Nat) < 100 from by decide, nf5⟩, (fun _ h => (by cases h))⟩⟩⟩⟩⟩⟩
set_option maxHeartbeats 4000000 in
theorem vc_Mo_met_25_0 (x2 : Int) (x14 : Int) (fault_0 : Int) (all_0 : Int → Int) (r_0 : Int) (k2 : 0 ≤ x2 ∧ x2 ≤ 23) (k14 : 0 ≤ x14 ∧ x14 ≤ 0) (g2 : x14 = fault_0) (f15 : (-1) * fault_0 + 0 ≤ (-1)) (kz_0_8 : 0 ≤ fault_0 ∧ fault_0 ≤ 5) : (x2 ≤ (-1)) ∨ (all_0 ((r_0 + 1)) ≤ 47) := by
  first
    | omega
    | (have q1 := (hE_0_2_1 (r_0 + 2) (by omega)).2 (by omega)
       have q2 := (hE_0_2_2 (r_0 + 2) (by omega)).2 (by omega)
       omega)
    | (have q1 := (hE_0_2_1 (r_0 + 1) (by omega)).2 (by omega)
       have q2 := (hE_0_2_2 (r_0 + 1) (by omega)).2 (by omega)
       omega)
    | (have q1 := (hE_0_2_1 (r_0 + 2) (by omega)).2 (by omega)
       omega)
    | (have q1 := (hE_0_2_1 (r_0 + 1) (by omega)).2 (by omega)
       omega)
    | (have q1 := (hE_0_2_1 (r_0 + 2) (by omega)).2 (by omega)
       have q2 := (hE_0_2_2 (r_0 + 2) (by omega)).2 (by omega)
       have q3 := (hE_0_2_3 (r_0 + 2) (by omega)).1 (by omega)
       omega)
    | (have q1 := (hE_0_2_1 (r_0 + 2) (by omega)).2 (by omega)
       have q2 := (hE_0_2_2 (r_0 + 2) (by omega)).2 (by omega)
       have q3 := (hE_0_2_3 (r_0 + 2) (by omega)).2 (by omega)
       omega)
set_option maxHeartbeats 4000000 in
theorem vc_Mo_met_25_1 (x2 : Int) (x7 : Int) (x14 : Int) (fault_0 : Int) (all_0 : Int → Int) (r_0 : Int) (k2 : 0 ≤ x2 ∧ x2 ≤ 23) (k7 : 0 ≤ x7 ∧ x7 ≤ 23) (k14 : 0 ≤ x14 ∧ x14 ≤ 0) (g2 : x14 = fault_0) (f15 : (-1) * fault_0 + 0 ≤ (-1)) (kz_0_8 : 0 ≤ fault_0 ∧ fault_0 ≤ 5) : MEN (r_0) (all_0) (x2) (x7) := by
  try simp only [Int.add_zero] at *
  first
    | (exfalso; omega)
    | (have hr := rwn_r ‹RWN _ _ _ _ _›
       have hb := ‹MEN _ _ _ _›.1
       exact men_off (by omega) (men_off (by omega) ‹MEN _ _ _ _› (by assumption) (by omega)) (by assumption) (by omega))
    | exact men_old ‹RWS _ _ _ _› ‹NDB _ _ _› (by omega) ‹MEB _ _ _› (Or.inl (by omega))
    | exact men_old ‹RWS _ _ _ _› ‹NDB _ _ _› (by omega) ‹MEB _ _ _› (Or.inr ⟨by omega, ‹BTP _ _ _ _ _› (by omega), by omega⟩)
set_option maxHeartbeats 4000000 in
theorem vc_Mo_met_25_2 (x14 : Int) (fault_0 : Int) (r_0 : Int) (pos_0 : Int) (gx : Int) (k14 : 0 ≤ x14 ∧ x14 ≤ 0) (g2 : x14 = fault_0) (f15 : (-1) * fault_0 + 0 ≤ (-1)) (kz_0_8 : 0 ≤ fault_0 ∧ fault_0 ≤ 5) (kz_0_11 : 0 ≤ pos_0 ∧ pos_0 ≤ 2000) : 1 * gx + ((-1) * pos_0 + 0) ≤ 0 := by
  first
    | omega
    | (have q1 := (hE_0_2_1 (r_0 + 2) (by omega)).2 (by omega)
       have q2 := (hE_0_2_2 (r_0 + 2) (by omega)).2 (by omega)
       omega)
    | (have q1 := (hE_0_2_1 (r_0 + 1) (by omega)).2 (by omega)
       have q2 := (hE_0_2_2 (r_0 + 1) (by omega)).2 (by omega)
       omega)
    | (have q1 := (hE_0_2_1 (r_0 + 2) (by omega)).2 (by omega)
       omega)
    | (have q1 := (hE_0_2_1 (r_0 + 1) (by omega)).2 (by omega)
       omega)
    | (have q1 := (hE_0_2_1 (r_0 + 2) (by omega)).2 (by omega)
       have q2 := (hE_0_2_2 (r_0 + 2) (by omega)).2 (by omega)
       have q3 := (hE_0_2_3 (r_0 + 2) (by omega)).1 (by omega)
       omega)
    | (have q1 := (hE_0_2_1 (r_0 + 2) (by omega)).2 (by omega)
       have q2 := (hE_0_2_2 (r_0 + 2) (by omega)).2 (by omega)
       have q3 := (hE_0_2_3 (r_0 + 2) (by omega)).2 (by omega)
       omega)
set_option maxHeartbeats 4000000 in
theorem vc_Mo_met_25_3 (x3 : Int) (x14 : Int) (fault_0 : Int) (r_0 : Int) (gx : Int) (k3 : 0 ≤ x3 ∧ x3 ≤ 2000) (k14 : 0 ≤ x14 ∧ x14 ≤ 0) (g2 : x14 = fault_0) (f15 : (-1) * fault_0 + 0 ≤ (-1)) (kz_0_8 : 0 ≤ fault_0 ∧ fault_0 ≤ 5) : 1 * x3 + ((-1) * gx + 0) ≤ 0 := by
  first
    | omega
    | (have q1 := (hE_0_2_1 (r_0 + 2) (by omega)).2 (by omega)
       have q2 := (hE_0_2_2 (r_0 + 2) (by omega)).2 (by omega)
       omega)
    | (have q1 := (hE_0_2_1 (r_0 + 1) (by omega)).2 (by omega)
       have q2 := (hE_0_2_2 (r_0 + 1) (by omega)).2 (by omega)
       omega)
    | (have q1 := (hE_0_2_1 (r_0 + 2) (by omega)).2 (by omega)
       omega)
    | (have q1 := (hE_0_2_1 (r_0 + 1) (by omega)).2 (by omega)
       omega)
    | (have q1 := (hE_0_2_1 (r_0 + 2) (by omega)).2 (by omega)
       have q2 := (hE_0_2_2 (r_0 + 2) (by omega)).2 (by omega)
       have q3 := (hE_0_2_3 (r_0 + 2) (by omega)).1 (by omega)
       omega)
    | (have q1 := (hE_0_2_1 (r_0 + 2) (by omega)).2 (by omega)
       have q2 := (hE_0_2_2 (r_0 + 2) (by omega)).2 (by omega)
       have q3 := (hE_0_2_3 (r_0 + 2) (by omega)).2 (by omega)
       omega)
set_option maxHeartbeats 4000000 in
theorem vc_Mo_met_25_4 (x4 : Int) (x14 : Int) (fault_0 : Int) (r_0 : Int) (gx : Int) (k4 : 0 ≤ x4 ∧ x4 ≤ 2000) (k14 : 0 ≤ x14 ∧ x14 ≤ 0) (g2 : x14 = fault_0) (f15 : (-1) * fault_0 + 0 ≤ (-1)) (kz_0_8 : 0 ≤ fault_0 ∧ fault_0 ≤ 5) : 1 * x4 + ((-1) * gx + 0) ≤ (-1) := by
  first
    | omega
    | (have q1 := (hE_0_2_1 (r_0 + 2) (by omega)).2 (by omega)
       have q2 := (hE_0_2_2 (r_0 + 2) (by omega)).2 (by omega)
       omega)
    | (have q1 := (hE_0_2_1 (r_0 + 1) (by omega)).2 (by omega)
       have q2 := (hE_0_2_2 (r_0 + 1) (by omega)).2 (by omega)
       omega)
    | (have q1 := (hE_0_2_1 (r_0 + 2) (by omega)).2 (by omega)
       omega)
    | (have q1 := (hE_0_2_1 (r_0 + 1) (by omega)).2 (by omega)
       omega)
    | (have q1 := (hE_0_2_1 (r_0 + 2) (by omega)).2 (by omega)
       have q2 := (hE_0_2_2 (r_0 + 2) (by omega)).2 (by omega)
       have q3 := (hE_0_2_3 (r_0 + 2) (by omega)).1 (by omega)
       omega)
    | (have q1 := (hE_0_2_1 (r_0 + 2) (by omega)).2 (by omega)
       have q2 := (hE_0_2_2 (r_0 + 2) (by omega)).2 (by omega)
       have q3 := (hE_0_2_3 (r_0 + 2) (by omega)).2 (by omega)
       omega)
def o_Mo_met_25 : or_T := (254, 15, [(0, (2, 0, 0, [165])), (2, (0, 0, 23, [])), (3, (0, 0, 2000, [])), (4, (0, 0, 2000, [])), (7, (0, 0, 23, [])), (14, (0, 0, 0, []))], [(9, [14, 0], [8]), (20, [0], [30, -1, -1, 1, 8])], [], [(0, 0, 2000, [])], [(20, [2, 0], [50, 1, 1, 1005, 1002, 3, 6, 0, 2, 1, 0, 0, -1, 0, 10, 3, 1, 2, 4, 3, 2, 1, 5, 0, 1, 0, 47]), (20, [0, 2, 7], [60, 1, 1, 243, 5, 2]), (20, [15, 0], [30, 0, 1, 0, 0, -1, 1, 11]), (23, [3, 15], [0, 1, -1]), (23, [4, 15], [-1, 1, -1])], [], [])
theorem oo_Mo_met_25 {kA : Nat → ClassId} : or_ok PRD kA GG o_Mo_met_25 := by
  refine or_mk fun A ta ws vs hD hth hl => ?_
  intro t0 r0 t2 k2 t3 k3 t4 k4 t7 k7 t14 k14 f2 f15
  replace f2 := shm_143 f2
  replace f15 := shm_144 f15
  have g2 : v_iv (n_v vs 14) = w_fi ws (n_v vs 0) 8 := congrArg v_iv f2
  have kz_0_8 := fdq_14 hD hth r0
  have kz_0_11 := fdq_273 hD hth r0
  obtain ⟨x, ex, hx⟩ := iv_ex (ta := ta) (lo := 0) (hi := 2000) (z := w_fi ws (n_v vs 0) 11) (by omega) (by omega) (by omega) (by omega)
  have ex2 : v_iv (Value.int x) = w_fi ws (n_v vs 0) 11 := ex
  have ex3 : 0 ≤ v_iv (Value.int x) ∧ v_iv (Value.int x) ≤ 2000 := tv_rng hx
  have e_0 : n_v (vs ++ [Value.int x]) 0 = n_v vs 0 := n_v_old (by rw [hl]; decide)
  have e_2 : n_v (vs ++ [Value.int x]) 2 = n_v vs 2 := n_v_old (by rw [hl]; decide)
  have e_3 : n_v (vs ++ [Value.int x]) 3 = n_v vs 3 := n_v_old (by rw [hl]; decide)
  have e_4 : n_v (vs ++ [Value.int x]) 4 = n_v vs 4 := n_v_old (by rw [hl]; decide)
  have e_7 : n_v (vs ++ [Value.int x]) 7 = n_v vs 7 := n_v_old (by rw [hl]; decide)
  have e_15 : n_v (vs ++ [Value.int x]) 15 = Value.int x := n_v_new hl
  have nf0 : fc_1 PRD (20, [2, 0], [50, 1, 1, 1005, 1002, 3, 6, 0, 2, 1, 0, 0, -1, 0, 10, 3, 1, 2, 4, 3, 2, 1, 5, 0, 1, 0, 47]) ws (vs ++ [Value.int x]) := by
    refine ⟨nf_inA hl rfl, sgq_1980 ?_⟩
    · show (v_iv (n_v (vs ++ [Value.int x]) 2) ≤ (-1)) ∨ (w_ei ws (w_ar ws (n_v (vs ++ [Value.int x]) 0) 2) ((w_fi ws (n_v (vs ++ [Value.int x]) 0) 5 + 1)) ≤ 47)
      simp only [e_0, e_2]
      exact vc_Mo_met_25_0 (v_iv (n_v vs 2)) (v_iv (n_v vs 14)) (w_fi ws (n_v vs 0) 8) (w_ei ws (w_ar ws (n_v vs 0) 2)) (w_fi ws (n_v vs 0) 5) k2 k14 g2 f15 kz_0_8
  have nf1 : fc_1 PRD (20, [0, 2, 7], [60, 1, 1, 243, 5, 2]) ws (vs ++ [Value.int x]) := by
    refine ⟨nf_inA hl rfl, sgq_1981 ?_⟩
    · show MEN (w_fi ws (n_v (vs ++ [Value.int x]) 0) 5) (w_ei ws (w_ar ws (n_v (vs ++ [Value.int x]) 0) 2)) (v_iv (n_v (vs ++ [Value.int x]) 2)) (v_iv (n_v (vs ++ [Value.int x]) 7))
      simp only [e_0, e_2, e_7]
      exact vc_Mo_met_25_1 (v_iv (n_v vs 2)) (v_iv (n_v vs 7)) (v_iv (n_v vs 14)) (w_fi ws (n_v vs 0) 8) (w_ei ws (w_ar ws (n_v vs 0) 2)) (w_fi ws (n_v vs 0) 5) k2 k7 k14 g2 f15 kz_0_8
  have nf2 : fc_1 PRD (20, [15, 0], [30, 0, 1, 0, 0, -1, 1, 11]) ws (vs ++ [Value.int x]) := by
    refine ⟨nf_inA hl rfl, sgq_1395 ?_⟩
    · show 1 * v_iv (n_v (vs ++ [Value.int x]) 15) + ((-1) * w_fi ws (n_v (vs ++ [Value.int x]) 0) 11 + 0) ≤ 0
      simp only [e_0, e_15]
      exact vc_Mo_met_25_2 (v_iv (n_v vs 14)) (w_fi ws (n_v vs 0) 8) (w_fi ws (n_v vs 0) 5) (w_fi ws (n_v vs 0) 11) (v_iv (Value.int x)) k14 g2 f15 kz_0_8 kz_0_11
  have nf3 : fc_1 PRD (23, [3, 15], [0, 1, -1]) ws (vs ++ [Value.int x]) := by
    refine ⟨nf_inA hl rfl, sgq_7 ?_⟩
    · show 1 * v_iv (n_v (vs ++ [Value.int x]) 3) + ((-1) * v_iv (n_v (vs ++ [Value.int x]) 15) + 0) ≤ 0
      simp only [e_3, e_15]
      exact vc_Mo_met_25_3 (v_iv (n_v vs 3)) (v_iv (n_v vs 14)) (w_fi ws (n_v vs 0) 8) (w_fi ws (n_v vs 0) 5) (v_iv (Value.int x)) k3 k14 g2 f15 kz_0_8
  have nf4 : fc_1 PRD (23, [4, 15], [-1, 1, -1]) ws (vs ++ [Value.int x]) := by
    refine ⟨nf_inA hl rfl, sgq_211 ?_⟩
    · show 1 * v_iv (n_v (vs ++ [Value.int x]) 4) + ((-1) * v_iv (n_v (vs ++ [Value.int x]) 15) + 0) ≤ (-1)
      simp only [e_4, e_15]
      exact vc_Mo_met_25_4 (v_iv (n_v vs 4)) (v_iv (n_v vs 14)) (w_fi ws (n_v vs 0) 8) (w_fi ws (n_v vs 0) 5) (v_iv (Value.int x)) k4 k14 g2 f15 kz_0_8
  exact ⟨(fun _ h => (by cases h)), [Value.int x], ag_one hx, List.forall_mem_cons.mpr ⟨⟨show (20 : Nat) < 100 from by decide, nf0⟩, List.forall_mem_cons.mpr ⟨⟨show (20 : Nat) < 100 from by decide, nf1⟩, List.forall_mem_cons.mpr ⟨⟨show (20 : Nat) < 100 from by decide, nf2⟩, List.forall_mem_cons.mpr ⟨⟨show (23 : Nat) < 100 from by decide, nf3⟩, List.forall_mem_cons.mpr ⟨⟨show (23 : Nat) < 100 from by decide, nf4⟩, (fun _ h => (by cases h))⟩⟩⟩⟩⟩, (fun _ h => (by cases h))⟩
set_option maxHeartbeats 4000000 in
theorem vc_Mo_met_26_0 (x3 : Int) (x15 : Int) (r_0 : Int) (from_0 : Int) (pos_0 : Int) (k3 : 0 ≤ x3 ∧ x3 ≤ 2000) (k15 : 0 ≤ x15 ∧ x15 ≤ 2000) (f2 : 1 * x3 + ((-1) * x15 + 0) ≤ 0) (f12 : 1 * from_0 + ((-1) * pos_0 + 0) ≤ 0) (f14 : 1 * x15 + ((-1) * from_0 + 0) ≤ 0) (kz_0_11 : 0 ≤ pos_0 ∧ pos_0 ≤ 2000) (kz_0_15 : 0 ≤ from_0 ∧ from_0 ≤ 2000) : 1 * x3 + ((-1) * pos_0 + 0) ≤ 0 := by
  first
    | omega
    | (have q1 := (hE_0_2_1 (r_0 + 2) (by omega)).2 (by omega)
       have q2 := (hE_0_2_2 (r_0 + 2) (by omega)).2 (by omega)
       omega)
    | (have q1 := (hE_0_2_1 (r_0 + 1) (by omega)).2 (by omega)
       have q2 := (hE_0_2_2 (r_0 + 1) (by omega)).2 (by omega)
       omega)
    | (have q1 := (hE_0_2_1 (r_0 + 2) (by omega)).2 (by omega)
       omega)
    | (have q1 := (hE_0_2_1 (r_0 + 1) (by omega)).2 (by omega)
       omega)
    | (have q1 := (hE_0_2_1 (r_0 + 2) (by omega)).2 (by omega)
       have q2 := (hE_0_2_2 (r_0 + 2) (by omega)).2 (by omega)
       have q3 := (hE_0_2_3 (r_0 + 2) (by omega)).1 (by omega)
       omega)
    | (have q1 := (hE_0_2_1 (r_0 + 2) (by omega)).2 (by omega)
       have q2 := (hE_0_2_2 (r_0 + 2) (by omega)).2 (by omega)
       have q3 := (hE_0_2_3 (r_0 + 2) (by omega)).2 (by omega)
       omega)
set_option maxHeartbeats 4000000 in
theorem vc_Mo_met_26_1 (x3 : Int) (r_0 : Int) (fault_0 : Int) (pos_0 : Int) (kind_0 : Int) (k3 : 0 ≤ x3 ∧ x3 ≤ 2000) (f11 : (-1) * fault_0 + 0 ≤ (-1)) (kz_0_8 : 0 ≤ fault_0 ∧ fault_0 ≤ 5) (kz_0_11 : 0 ≤ pos_0 ∧ pos_0 ≤ 2000) (kz_0_12 : 0 ≤ kind_0 ∧ kind_0 ≤ 4) : (1 ≤ fault_0) ∨ ((kind_0 = 0) ∨ ((x3 + 1) ≤ pos_0)) := by
  first
    | omega
    | (have q1 := (hE_0_2_1 (r_0 + 2) (by omega)).2 (by omega)
       have q2 := (hE_0_2_2 (r_0 + 2) (by omega)).2 (by omega)
       omega)
    | (have q1 := (hE_0_2_1 (r_0 + 1) (by omega)).2 (by omega)
       have q2 := (hE_0_2_2 (r_0 + 1) (by omega)).2 (by omega)
       omega)
    | (have q1 := (hE_0_2_1 (r_0 + 2) (by omega)).2 (by omega)
       omega)
    | (have q1 := (hE_0_2_1 (r_0 + 1) (by omega)).2 (by omega)
       omega)
    | (have q1 := (hE_0_2_1 (r_0 + 2) (by omega)).2 (by omega)
       have q2 := (hE_0_2_2 (r_0 + 2) (by omega)).2 (by omega)
       have q3 := (hE_0_2_3 (r_0 + 2) (by omega)).1 (by omega)
       omega)
    | (have q1 := (hE_0_2_1 (r_0 + 2) (by omega)).2 (by omega)
       have q2 := (hE_0_2_2 (r_0 + 2) (by omega)).2 (by omega)
       have q3 := (hE_0_2_3 (r_0 + 2) (by omega)).2 (by omega)
       omega)
set_option maxHeartbeats 4000000 in
theorem vc_Mo_met_26_2 (x4 : Int) (r_0 : Int) (fault_0 : Int) (pos_0 : Int) (k4 : 0 ≤ x4 ∧ x4 ≤ 2000) (f11 : (-1) * fault_0 + 0 ≤ (-1)) (kz_0_8 : 0 ≤ fault_0 ∧ fault_0 ≤ 5) (kz_0_11 : 0 ≤ pos_0 ∧ pos_0 ≤ 2000) : (1 ≤ fault_0) ∨ ((x4 + 1) ≤ pos_0) := by
  first
    | omega
    | (have q1 := (hE_0_2_1 (r_0 + 2) (by omega)).2 (by omega)
       have q2 := (hE_0_2_2 (r_0 + 2) (by omega)).2 (by omega)
       omega)
    | (have q1 := (hE_0_2_1 (r_0 + 1) (by omega)).2 (by omega)
       have q2 := (hE_0_2_2 (r_0 + 1) (by omega)).2 (by omega)
       omega)
    | (have q1 := (hE_0_2_1 (r_0 + 2) (by omega)).2 (by omega)
       omega)
    | (have q1 := (hE_0_2_1 (r_0 + 1) (by omega)).2 (by omega)
       omega)
    | (have q1 := (hE_0_2_1 (r_0 + 2) (by omega)).2 (by omega)
       have q2 := (hE_0_2_2 (r_0 + 2) (by omega)).2 (by omega)
       have q3 := (hE_0_2_3 (r_0 + 2) (by omega)).1 (by omega)
       omega)
    | (have q1 := (hE_0_2_1 (r_0 + 2) (by omega)).2 (by omega)
       have q2 := (hE_0_2_2 (r_0 + 2) (by omega)).2 (by omega)
       have q3 := (hE_0_2_3 (r_0 + 2) (by omega)).2 (by omega)
       omega)
set_option maxHeartbeats 4000000 in
theorem vc_Mo_met_26_3 (x7 : Int) (r_0 : Int) (fault_0 : Int) (k7 : 0 ≤ x7 ∧ x7 ≤ 23) (f11 : (-1) * fault_0 + 0 ≤ (-1)) (kz_0_8 : 0 ≤ fault_0 ∧ fault_0 ≤ 5) : ((-1) * fault_0 + 0 ≤ (-1)) ∨ ((-1) * x7 + 0 ≤ 0) := by
  first
    | omega
    | (have q1 := (hE_0_2_1 (r_0 + 2) (by omega)).2 (by omega)
       have q2 := (hE_0_2_2 (r_0 + 2) (by omega)).2 (by omega)
       omega)
    | (have q1 := (hE_0_2_1 (r_0 + 1) (by omega)).2 (by omega)
       have q2 := (hE_0_2_2 (r_0 + 1) (by omega)).2 (by omega)
       omega)
    | (have q1 := (hE_0_2_1 (r_0 + 2) (by omega)).2 (by omega)
       omega)
    | (have q1 := (hE_0_2_1 (r_0 + 1) (by omega)).2 (by omega)
       omega)
    | (have q1 := (hE_0_2_1 (r_0 + 2) (by omega)).2 (by omega)
       have q2 := (hE_0_2_2 (r_0 + 2) (by omega)).2 (by omega)
       have q3 := (hE_0_2_3 (r_0 + 2) (by omega)).1 (by omega)
       omega)
    | (have q1 := (hE_0_2_1 (r_0 + 2) (by omega)).2 (by omega)
       have q2 := (hE_0_2_2 (r_0 + 2) (by omega)).2 (by omega)
       have q3 := (hE_0_2_3 (r_0 + 2) (by omega)).2 (by omega)
       omega)
set_option maxHeartbeats 4000000 in
theorem vc_Mo_met_26_4 (x2 : Int) (all_0 : Int → Int) (r_0 : Int) (fault_0 : Int) (k2 : 0 ≤ x2 ∧ x2 ≤ 23) (f11 : (-1) * fault_0 + 0 ≤ (-1)) (kz_0_8 : 0 ≤ fault_0 ∧ fault_0 ≤ 5) : (1 ≤ fault_0) ∨ ((x2 ≤ (-1)) ∨ (all_0 ((r_0 + 1)) ≤ 47)) := by
  first
    | omega
    | (have q1 := (hE_0_2_1 (r_0 + 2) (by omega)).2 (by omega)
       have q2 := (hE_0_2_2 (r_0 + 2) (by omega)).2 (by omega)
       omega)
    | (have q1 := (hE_0_2_1 (r_0 + 1) (by omega)).2 (by omega)
       have q2 := (hE_0_2_2 (r_0 + 1) (by omega)).2 (by omega)
       omega)
    | (have q1 := (hE_0_2_1 (r_0 + 2) (by omega)).2 (by omega)
       omega)
    | (have q1 := (hE_0_2_1 (r_0 + 1) (by omega)).2 (by omega)
       omega)
    | (have q1 := (hE_0_2_1 (r_0 + 2) (by omega)).2 (by omega)
       have q2 := (hE_0_2_2 (r_0 + 2) (by omega)).2 (by omega)
       have q3 := (hE_0_2_3 (r_0 + 2) (by omega)).1 (by omega)
       omega)
    | (have q1 := (hE_0_2_1 (r_0 + 2) (by omega)).2 (by omega)
       have q2 := (hE_0_2_2 (r_0 + 2) (by omega)).2 (by omega)
       have q3 := (hE_0_2_3 (r_0 + 2) (by omega)).2 (by omega)
       omega)
set_option maxHeartbeats 4000000 in
theorem vc_Mo_met_26_5 (x2 : Int) (x7 : Int) (all_0 : Int → Int) (r_0 : Int) (fault_0 : Int) (k2 : 0 ≤ x2 ∧ x2 ≤ 23) (k7 : 0 ≤ x7 ∧ x7 ≤ 23) (f11 : (-1) * fault_0 + 0 ≤ (-1)) (kz_0_8 : 0 ≤ fault_0 ∧ fault_0 ≤ 5) : MET (r_0) (fault_0) (all_0) (x2) (x7) := by
  first
    | (intro q; exfalso; omega)
    | exact fun _ => ‹MEN _ _ _ _›
def o_Mo_met_26 : or_T := (258, 16, [(0, (2, 0, 0, [165])), (2, (0, 0, 23, [])), (3, (0, 0, 2000, [])), (4, (0, 0, 2000, [])), (7, (0, 0, 23, [])), (15, (0, 0, 2000, []))], [(23, [3, 15], [0, 1, -1]), (20, [0], [30, -1, -1, 1, 8]), (20, [0, 0], [30, 0, 1, 1, 15, -1, 1, 11]), (20, [15, 0], [30, 0, 1, 0, 0, -1, 1, 15])], [], [], [(20, [3, 0], [30, 0, 1, 0, 0, -1, 1, 11]), (20, [0, 3], [50, 3, 0, 8, 12, 11, 3, 7, 0, 2, 0, 1, 2, 0, 8, 3, 7, 1, 3, 2, 0, 12, 0, 0, 0, 6, 4, 2, 1, 1, 0, 1, 2, 0, 11]), (20, [0, 4], [50, 2, 0, 8, 11, 3, 7, 0, 2, 0, 1, 2, 0, 8, 0, 6, 4, 2, 1, 1, 0, 1, 2, 0, 11]), (20, [0, 7], [31, 1, -1, -1, 1, 8, 0, -1, 0, 0]), (20, [0, 2], [50, 2, 1, 8, 5, 2, 3, 7, 0, 2, 0, 1, 2, 0, 8, 3, 6, 0, 2, 1, 1, 0, -1, 0, 10, 3, 0, 2, 4, 3, 2, 0, 5, 0, 1, 0, 47]), (20, [0, 2, 7], [60, 2, 1, 240, 5, 8, 2])], [], [])
theorem oo_Mo_met_26 {kA : Nat → ClassId} : or_ok PRD kA GG o_Mo_met_26 := by
  refine or_mk fun A ta ws vs hD hth hl => ?_
  intro t0 r0 t2 k2 t3 k3 t4 k4 t7 k7 t15 k15 f2 f11 f12 f14
  have kz_0_8 := fdq_14 hD hth r0
  have kz_0_11 := fdq_273 hD hth r0
  have kz_0_12 := fdq_186 hD hth r0
  have kz_0_15 := fdq_274 hD hth r0
  have nf0 : fc_1 PRD (20, [3, 0], [30, 0, 1, 0, 0, -1, 1, 11]) ws (vs) := ⟨nf_in hl rfl, sgq_1395 (vc_Mo_met_26_0 (v_iv (n_v vs 3)) (v_iv (n_v vs 15)) (w_fi ws (n_v vs 0) 5) (w_fi ws (n_v vs 0) 15) (w_fi ws (n_v vs 0) 11) k3 k15 (shm_7 f2) (shm_1397 f12) (shm_1396 f14) kz_0_11 kz_0_15)⟩
  have nf1 : fc_1 PRD (20, [0, 3], [50, 3, 0, 8, 12, 11, 3, 7, 0, 2, 0, 1, 2, 0, 8, 3, 7, 1, 3, 2, 0, 12, 0, 0, 0, 6, 4, 2, 1, 1, 0, 1, 2, 0, 11]) ws (vs) := ⟨nf_in hl rfl, sgq_1660 (vc_Mo_met_26_1 (v_iv (n_v vs 3)) (w_fi ws (n_v vs 0) 5) (w_fi ws (n_v vs 0) 8) (w_fi ws (n_v vs 0) 11) (w_fi ws (n_v vs 0) 12) k3 (shm_144 f11) kz_0_8 kz_0_11 kz_0_12)⟩
  have nf2 : fc_1 PRD (20, [0, 4], [50, 2, 0, 8, 11, 3, 7, 0, 2, 0, 1, 2, 0, 8, 0, 6, 4, 2, 1, 1, 0, 1, 2, 0, 11]) ws (vs) := ⟨nf_in hl rfl, sgq_1659 (vc_Mo_met_26_2 (v_iv (n_v vs 4)) (w_fi ws (n_v vs 0) 5) (w_fi ws (n_v vs 0) 8) (w_fi ws (n_v vs 0) 11) k4 (shm_144 f11) kz_0_8 kz_0_11)⟩
  have nf3 : fc_1 PRD (20, [0, 7], [31, 1, -1, -1, 1, 8, 0, -1, 0, 0]) ws (vs) := ⟨nf_in hl rfl, sgq_1982 (vc_Mo_met_26_3 (v_iv (n_v vs 7)) (w_fi ws (n_v vs 0) 5) (w_fi ws (n_v vs 0) 8) k7 (shm_144 f11) kz_0_8)⟩
  have nf4 : fc_1 PRD (20, [0, 2], [50, 2, 1, 8, 5, 2, 3, 7, 0, 2, 0, 1, 2, 0, 8, 3, 6, 0, 2, 1, 1, 0, -1, 0, 10, 3, 0, 2, 4, 3, 2, 0, 5, 0, 1, 0, 47]) ws (vs) := ⟨nf_in hl rfl, sgq_1983 (vc_Mo_met_26_4 (v_iv (n_v vs 2)) (w_ei ws (w_ar ws (n_v vs 0) 2)) (w_fi ws (n_v vs 0) 5) (w_fi ws (n_v vs 0) 8) k2 (shm_144 f11) kz_0_8)⟩
  have nf5 : fc_1 PRD (20, [0, 2, 7], [60, 2, 1, 240, 5, 8, 2]) ws (vs) := ⟨nf_in hl rfl, sgq_1984 (vc_Mo_met_26_5 (v_iv (n_v vs 2)) (v_iv (n_v vs 7)) (w_ei ws (w_ar ws (n_v vs 0) 2)) (w_fi ws (n_v vs 0) 5) (w_fi ws (n_v vs 0) 8) k2 k7 (shm_144 f11) kz_0_8)⟩
  refine ⟨(fun _ h => (by cases h)), [], trivial, ?_, (fun _ h => (by cases h))⟩
  rw [List.append_nil]
  exact List.forall_mem_cons.mpr ⟨⟨show (20 : Nat) < 100 from by decide, nf0⟩, List.forall_mem_cons.mpr ⟨⟨show (20 : Nat) < 100 from by decide, nf1⟩, List.forall_mem_cons.mpr ⟨⟨show (20 : Nat) < 100 from by decide, nf2⟩, List.forall_mem_cons.mpr ⟨⟨show (20 : Nat) < 100 from by decide, nf3⟩, List.forall_mem_cons.mpr ⟨⟨show (20 : Nat) < 100 from by decide, nf4⟩, List.forall_mem_cons.mpr ⟨⟨show (20 : Nat) < 100 from by decide, nf5⟩, (fun _ h => (by cases h))⟩⟩⟩⟩⟩⟩
set_option maxHeartbeats 4000000 in
theorem vc_Mo_met_27_0 (x3 : Int) (x14 : Int) (fault_0 : Int) (r_0 : Int) (pos_0 : Int) (kind_0 : Int) (k3 : 0 ≤ x3 ∧ x3 ≤ 2000) (k14 : 1 ≤ x14 ∧ x14 ≤ 5) (g1 : x14 = fault_0) (kz_0_8 : 0 ≤ fault_0 ∧ fault_0 ≤ 5) (kz_0_11 : 0 ≤ pos_0 ∧ pos_0 ≤ 2000) (kz_0_12 : 0 ≤ kind_0 ∧ kind_0 ≤ 4) : (1 ≤ fault_0) ∨ ((kind_0 = 0) ∨ ((x3 + 1) ≤ pos_0)) := by
  first
    | omega
    | (have q1 := (hE_0_2_1 (r_0 + 2) (by omega)).2 (by omega)
       have q2 := (hE_0_2_2 (r_0 + 2) (by omega)).2 (by omega)
       omega)
    | (have q1 := (hE_0_2_1 (r_0 + 1) (by omega)).2 (by omega)
       have q2 := (hE_0_2_2 (r_0 + 1) (by omega)).2 (by omega)
       omega)
    | (have q1 := (hE_0_2_1 (r_0 + 2) (by omega)).2 (by omega)
       omega)
    | (have q1 := (hE_0_2_1 (r_0 + 1) (by omega)).2 (by omega)
       omega)
    | (have q1 := (hE_0_2_1 (r_0 + 2) (by omega)).2 (by omega)
       have q2 := (hE_0_2_2 (r_0 + 2) (by omega)).2 (by omega)
       have q3 := (hE_0_2_3 (r_0 + 2) (by omega)).1 (by omega)
       omega)
    | (have q1 := (hE_0_2_1 (r_0 + 2) (by omega)).2 (by omega)
       have q2 := (hE_0_2_2 (r_0 + 2) (by omega)).2 (by omega)
       have q3 := (hE_0_2_3 (r_0 + 2) (by omega)).2 (by omega)
       omega)
set_option maxHeartbeats 4000000 in
theorem vc_Mo_met_27_1 (x4 : Int) (x14 : Int) (fault_0 : Int) (r_0 : Int) (pos_0 : Int) (k4 : 0 ≤ x4 ∧ x4 ≤ 2000) (k14 : 1 ≤ x14 ∧ x14 ≤ 5) (g1 : x14 = fault_0) (kz_0_8 : 0 ≤ fault_0 ∧ fault_0 ≤ 5) (kz_0_11 : 0 ≤ pos_0 ∧ pos_0 ≤ 2000) : (1 ≤ fault_0) ∨ ((x4 + 1) ≤ pos_0) := by
  first
    | omega
    | (have q1 := (hE_0_2_1 (r_0 + 2) (by omega)).2 (by omega)
       have q2 := (hE_0_2_2 (r_0 + 2) (by omega)).2 (by omega)
       omega)
    | (have q1 := (hE_0_2_1 (r_0 + 1) (by omega)).2 (by omega)
       have q2 := (hE_0_2_2 (r_0 + 1) (by omega)).2 (by omega)
       omega)
    | (have q1 := (hE_0_2_1 (r_0 + 2) (by omega)).2 (by omega)
       omega)
    | (have q1 := (hE_0_2_1 (r_0 + 1) (by omega)).2 (by omega)
       omega)
    | (have q1 := (hE_0_2_1 (r_0 + 2) (by omega)).2 (by omega)
       have q2 := (hE_0_2_2 (r_0 + 2) (by omega)).2 (by omega)
       have q3 := (hE_0_2_3 (r_0 + 2) (by omega)).1 (by omega)
       omega)
    | (have q1 := (hE_0_2_1 (r_0 + 2) (by omega)).2 (by omega)
       have q2 := (hE_0_2_2 (r_0 + 2) (by omega)).2 (by omega)
       have q3 := (hE_0_2_3 (r_0 + 2) (by omega)).2 (by omega)
       omega)
set_option maxHeartbeats 4000000 in
theorem vc_Mo_met_27_2 (x14 : Int) (x15 : Int) (fault_0 : Int) (r_0 : Int) (k14 : 1 ≤ x14 ∧ x14 ≤ 5) (k15 : (-1) ≤ x15 ∧ x15 ≤ (-1)) (g1 : x14 = fault_0) (kz_0_8 : 0 ≤ fault_0 ∧ fault_0 ≤ 5) : ((-1) * fault_0 + 0 ≤ (-1)) ∨ ((-1) * x15 + 0 ≤ 0) := by
  first
    | omega
    | (have q1 := (hE_0_2_1 (r_0 + 2) (by omega)).2 (by omega)
       have q2 := (hE_0_2_2 (r_0 + 2) (by omega)).2 (by omega)
       omega)
    | (have q1 := (hE_0_2_1 (r_0 + 1) (by omega)).2 (by omega)
       have q2 := (hE_0_2_2 (r_0 + 1) (by omega)).2 (by omega)
       omega)
    | (have q1 := (hE_0_2_1 (r_0 + 2) (by omega)).2 (by omega)
       omega)
    | (have q1 := (hE_0_2_1 (r_0 + 1) (by omega)).2 (by omega)
       omega)
    | (have q1 := (hE_0_2_1 (r_0 + 2) (by omega)).2 (by omega)
       have q2 := (hE_0_2_2 (r_0 + 2) (by omega)).2 (by omega)
       have q3 := (hE_0_2_3 (r_0 + 2) (by omega)).1 (by omega)
       omega)
    | (have q1 := (hE_0_2_1 (r_0 + 2) (by omega)).2 (by omega)
       have q2 := (hE_0_2_2 (r_0 + 2) (by omega)).2 (by omega)
       have q3 := (hE_0_2_3 (r_0 + 2) (by omega)).2 (by omega)
       omega)
set_option maxHeartbeats 4000000 in
theorem vc_Mo_met_27_3 (x2 : Int) (x14 : Int) (fault_0 : Int) (all_0 : Int → Int) (r_0 : Int) (k2 : 0 ≤ x2 ∧ x2 ≤ 23) (k14 : 1 ≤ x14 ∧ x14 ≤ 5) (g1 : x14 = fault_0) (kz_0_8 : 0 ≤ fault_0 ∧ fault_0 ≤ 5) : (1 ≤ fault_0) ∨ ((x2 ≤ (-1)) ∨ (all_0 ((r_0 + 1)) ≤ 47)) := by
  first
    | omega
    | (have q1 := (hE_0_2_1 (r_0 + 2) (by omega)).2 (by omega)
       have q2 := (hE_0_2_2 (r_0 + 2) (by omega)).2 (by omega)
       omega)
    | (have q1 := (hE_0_2_1 (r_0 + 1) (by omega)).2 (by omega)
       have q2 := (hE_0_2_2 (r_0 + 1) (by omega)).2 (by omega)
       omega)
    | (have q1 := (hE_0_2_1 (r_0 + 2) (by omega)).2 (by omega)
       omega)
    | (have q1 := (hE_0_2_1 (r_0 + 1) (by omega)).2 (by omega)
       omega)
    | (have q1 := (hE_0_2_1 (r_0 + 2) (by omega)).2 (by omega)
       have q2 := (hE_0_2_2 (r_0 + 2) (by omega)).2 (by omega)
       have q3 := (hE_0_2_3 (r_0 + 2) (by omega)).1 (by omega)
       omega)
    | (have q1 := (hE_0_2_1 (r_0 + 2) (by omega)).2 (by omega)
       have q2 := (hE_0_2_2 (r_0 + 2) (by omega)).2 (by omega)
       have q3 := (hE_0_2_3 (r_0 + 2) (by omega)).2 (by omega)
       omega)
set_option maxHeartbeats 4000000 in
theorem vc_Mo_met_27_4 (x2 : Int) (x14 : Int) (x15 : Int) (fault_0 : Int) (all_0 : Int → Int) (r_0 : Int) (k2 : 0 ≤ x2 ∧ x2 ≤ 23) (k14 : 1 ≤ x14 ∧ x14 ≤ 5) (k15 : (-1) ≤ x15 ∧ x15 ≤ (-1)) (g1 : x14 = fault_0) (kz_0_8 : 0 ≤ fault_0 ∧ fault_0 ≤ 5) : MET (r_0) (fault_0) (all_0) (x2) (x15) := by
  first
    | (intro q; exfalso; omega)
    | exact fun _ => ‹MEN _ _ _ _›
def o_Mo_met_27 : or_T := (121, 16, [(0, (2, 0, 0, [165])), (2, (0, 0, 23, [])), (3, (0, 0, 2000, [])), (4, (0, 0, 2000, [])), (14, (0, 1, 5, [])), (15, (0, -1, -1, []))], [(9, [14, 0], [8])], [], [], [(20, [0, 3], [50, 3, 0, 8, 12, 11, 3, 7, 0, 2, 0, 1, 2, 0, 8, 3, 7, 1, 3, 2, 0, 12, 0, 0, 0, 6, 4, 2, 1, 1, 0, 1, 2, 0, 11]), (20, [0, 4], [50, 2, 0, 8, 11, 3, 7, 0, 2, 0, 1, 2, 0, 8, 0, 6, 4, 2, 1, 1, 0, 1, 2, 0, 11]), (20, [0, 15], [31, 1, -1, -1, 1, 8, 0, -1, 0, 0]), (20, [0, 2], [50, 2, 1, 8, 5, 2, 3, 7, 0, 2, 0, 1, 2, 0, 8, 3, 6, 0, 2, 1, 1, 0, -1, 0, 10, 3, 0, 2, 4, 3, 2, 0, 5, 0, 1, 0, 47]), (20, [0, 2, 15], [60, 2, 1, 240, 5, 8, 2])], [], [])
theorem oo_Mo_met_27 {kA : Nat → ClassId} : or_ok PRD kA GG o_Mo_met_27 := by
  refine or_mk fun A ta ws vs hD hth hl => ?_
  intro t0 r0 t2 k2 t3 k3 t4 k4 t14 k14 t15 k15 f1
  replace f1 := shm_143 f1
  have g1 : v_iv (n_v vs 14) = w_fi ws (n_v vs 0) 8 := congrArg v_iv f1
  have kz_0_8 := fdq_14 hD hth r0
  have kz_0_11 := fdq_273 hD hth r0
  have kz_0_12 := fdq_186 hD hth r0
  have nf0 : fc_1 PRD (20, [0, 3], [50, 3, 0, 8, 12, 11, 3, 7, 0, 2, 0, 1, 2, 0, 8, 3, 7, 1, 3, 2, 0, 12, 0, 0, 0, 6, 4, 2, 1, 1, 0, 1, 2, 0, 11]) ws (vs) := ⟨nf_in hl rfl, sgq_1660 (vc_Mo_met_27_0 (v_iv (n_v vs 3)) (v_iv (n_v vs 14)) (w_fi ws (n_v vs 0) 8) (w_fi ws (n_v vs 0) 5) (w_fi ws (n_v vs 0) 11) (w_fi ws (n_v vs 0) 12) k3 k14 g1 kz_0_8 kz_0_11 kz_0_12)⟩
  have nf1 : fc_1 PRD (20, [0, 4], [50, 2, 0, 8, 11, 3, 7, 0, 2, 0, 1, 2, 0, 8, 0, 6, 4, 2, 1, 1, 0, 1, 2, 0, 11]) ws (vs) := ⟨nf_in hl rfl, sgq_1659 (vc_Mo_met_27_1 (v_iv (n_v vs 4)) (v_iv (n_v vs 14)) (w_fi ws (n_v vs 0) 8) (w_fi ws (n_v vs 0) 5) (w_fi ws (n_v vs 0) 11) k4 k14 g1 kz_0_8 kz_0_11)⟩
  have nf2 : fc_1 PRD (20, [0, 15], [31, 1, -1, -1, 1, 8, 0, -1, 0, 0]) ws (vs) := ⟨nf_in hl rfl, sgq_1982 (vc_Mo_met_27_2 (v_iv (n_v vs 14)) (v_iv (n_v vs 15)) (w_fi ws (n_v vs 0) 8) (w_fi ws (n_v vs 0) 5) k14 k15 g1 kz_0_8)⟩
  have nf3 : fc_1 PRD (20, [0, 2], [50, 2, 1, 8, 5, 2, 3, 7, 0, 2, 0, 1, 2, 0, 8, 3, 6, 0, 2, 1, 1, 0, -1, 0, 10, 3, 0, 2, 4, 3, 2, 0, 5, 0, 1, 0, 47]) ws (vs) := ⟨nf_in hl rfl, sgq_1983 (vc_Mo_met_27_3 (v_iv (n_v vs 2)) (v_iv (n_v vs 14)) (w_fi ws (n_v vs 0) 8) (w_ei ws (w_ar ws (n_v vs 0) 2)) (w_fi ws (n_v vs 0) 5) k2 k14 g1 kz_0_8)⟩
  have nf4 : fc_1 PRD (20, [0, 2, 15], [60, 2, 1, 240, 5, 8, 2]) ws (vs) := ⟨nf_in hl rfl, sgq_1984 (vc_Mo_met_27_4 (v_iv (n_v vs 2)) (v_iv (n_v vs 14)) (v_iv (n_v vs 15)) (w_fi ws (n_v vs 0) 8) (w_ei ws (w_ar ws (n_v vs 0) 2)) (w_fi ws (n_v vs 0) 5) k2 k14 k15 g1 kz_0_8)⟩
  refine ⟨(fun _ h => (by cases h)), [], trivial, ?_, (fun _ h => (by cases h))⟩
  rw [List.append_nil]
  exact List.forall_mem_cons.mpr ⟨⟨show (20 : Nat) < 100 from by decide, nf0⟩, List.forall_mem_cons.mpr ⟨⟨show (20 : Nat) < 100 from by decide, nf1⟩, List.forall_mem_cons.mpr ⟨⟨show (20 : Nat) < 100 from by decide, nf2⟩, List.forall_mem_cons.mpr ⟨⟨show (20 : Nat) < 100 from by decide, nf3⟩, List.forall_mem_cons.mpr ⟨⟨show (20 : Nat) < 100 from by decide, nf4⟩, (fun _ h => (by cases h))⟩⟩⟩⟩⟩
set_option maxHeartbeats 4000000 in
theorem vc_Mo_met_28_0 (x2 : Int) (x12 : Int) (fault_0 : Int) (all_0 : Int → Int) (r_0 : Int) (k2 : 0 ≤ x2 ∧ x2 ≤ 23) (k12 : 0 ≤ x12 ∧ x12 ≤ 0) (g2 : x12 = fault_0) (f13 : (-1) * fault_0 + 0 ≤ (-1)) (kz_0_8 : 0 ≤ fault_0 ∧ fault_0 ≤ 5) : (x2 ≤ (-1)) ∨ (all_0 ((r_0 + 1)) ≤ 47) := by
  first
    | omega
    | (have q1 := (hE_0_2_1 (r_0 + 2) (by omega)).2 (by omega)
       have q2 := (hE_0_2_2 (r_0 + 2) (by omega)).2 (by omega)
       omega)
    | (have q1 := (hE_0_2_1 (r_0 + 1) (by omega)).2 (by omega)
       have q2 := (hE_0_2_2 (r_0 + 1) (by omega)).2 (by omega)
       omega)
    | (have q1 := (hE_0_2_1 (r_0 + 2) (by omega)).2 (by omega)
       omega)
    | (have q1 := (hE_0_2_1 (r_0 + 1) (by omega)).2 (by omega)
       omega)
    | (have q1 := (hE_0_2_1 (r_0 + 2) (by omega)).2 (by omega)
       have q2 := (hE_0_2_2 (r_0 + 2) (by omega)).2 (by omega)
       have q3 := (hE_0_2_3 (r_0 + 2) (by omega)).1 (by omega)
       omega)
    | (have q1 := (hE_0_2_1 (r_0 + 2) (by omega)).2 (by omega)
       have q2 := (hE_0_2_2 (r_0 + 2) (by omega)).2 (by omega)
       have q3 := (hE_0_2_3 (r_0 + 2) (by omega)).2 (by omega)
       omega)
set_option maxHeartbeats 4000000 in
theorem vc_Mo_met_28_1 (x2 : Int) (x7 : Int) (x12 : Int) (fault_0 : Int) (all_0 : Int → Int) (r_0 : Int) (k2 : 0 ≤ x2 ∧ x2 ≤ 23) (k7 : 0 ≤ x7 ∧ x7 ≤ 23) (k12 : 0 ≤ x12 ∧ x12 ≤ 0) (g2 : x12 = fault_0) (f13 : (-1) * fault_0 + 0 ≤ (-1)) (kz_0_8 : 0 ≤ fault_0 ∧ fault_0 ≤ 5) : MEN (r_0) (all_0) (x2) (x7) := by
  try simp only [Int.add_zero] at *
  first
    | (exfalso; omega)
    | (have hr := rwn_r ‹RWN _ _ _ _ _›
       have hb := ‹MEN _ _ _ _›.1
       exact men_off (by omega) (men_off (by omega) ‹MEN _ _ _ _› (by assumption) (by omega)) (by assumption) (by omega))
    | exact men_old ‹RWS _ _ _ _› ‹NDB _ _ _› (by omega) ‹MEB _ _ _› (Or.inl (by omega))
    | exact men_old ‹RWS _ _ _ _› ‹NDB _ _ _› (by omega) ‹MEB _ _ _› (Or.inr ⟨by omega, ‹BTP _ _ _ _ _› (by omega), by omega⟩)
set_option maxHeartbeats 4000000 in
theorem vc_Mo_met_28_2 (x12 : Int) (fault_0 : Int) (r_0 : Int) (pos_0 : Int) (gx : Int) (k12 : 0 ≤ x12 ∧ x12 ≤ 0) (g2 : x12 = fault_0) (f13 : (-1) * fault_0 + 0 ≤ (-1)) (kz_0_8 : 0 ≤ fault_0 ∧ fault_0 ≤ 5) (kz_0_11 : 0 ≤ pos_0 ∧ pos_0 ≤ 2000) : 1 * gx + ((-1) * pos_0 + 0) ≤ 0 := by
  first
    | omega
    | (have q1 := (hE_0_2_1 (r_0 + 2) (by omega)).2 (by omega)
       have q2 := (hE_0_2_2 (r_0 + 2) (by omega)).2 (by omega)
       omega)
    | (have q1 := (hE_0_2_1 (r_0 + 1) (by omega)).2 (by omega)
       have q2 := (hE_0_2_2 (r_0 + 1) (by omega)).2 (by omega)
       omega)
    | (have q1 := (hE_0_2_1 (r_0 + 2) (by omega)).2 (by omega)
       omega)
    | (have q1 := (hE_0_2_1 (r_0 + 1) (by omega)).2 (by omega)
       omega)
    | (have q1 := (hE_0_2_1 (r_0 + 2) (by omega)).2 (by omega)
       have q2 := (hE_0_2_2 (r_0 + 2) (by omega)).2 (by omega)
       have q3 := (hE_0_2_3 (r_0 + 2) (by omega)).1 (by omega)
       omega)
    | (have q1 := (hE_0_2_1 (r_0 + 2) (by omega)).2 (by omega)
       have q2 := (hE_0_2_2 (r_0 + 2) (by omega)).2 (by omega)
       have q3 := (hE_0_2_3 (r_0 + 2) (by omega)).2 (by omega)
       omega)
set_option maxHeartbeats 4000000 in
theorem vc_Mo_met_28_3 (x3 : Int) (x12 : Int) (fault_0 : Int) (r_0 : Int) (gx : Int) (k3 : 0 ≤ x3 ∧ x3 ≤ 2000) (k12 : 0 ≤ x12 ∧ x12 ≤ 0) (g2 : x12 = fault_0) (f13 : (-1) * fault_0 + 0 ≤ (-1)) (kz_0_8 : 0 ≤ fault_0 ∧ fault_0 ≤ 5) : 1 * x3 + ((-1) * gx + 0) ≤ 0 := by
  first
    | omega
    | (have q1 := (hE_0_2_1 (r_0 + 2) (by omega)).2 (by omega)
       have q2 := (hE_0_2_2 (r_0 + 2) (by omega)).2 (by omega)
       omega)
    | (have q1 := (hE_0_2_1 (r_0 + 1) (by omega)).2 (by omega)
       have q2 := (hE_0_2_2 (r_0 + 1) (by omega)).2 (by omega)
       omega)
    | (have q1 := (hE_0_2_1 (r_0 + 2) (by omega)).2 (by omega)
       omega)
    | (have q1 := (hE_0_2_1 (r_0 + 1) (by omega)).2 (by omega)
       omega)
    | (have q1 := (hE_0_2_1 (r_0 + 2) (by omega)).2 (by omega)
       have q2 := (hE_0_2_2 (r_0 + 2) (by omega)).2 (by omega)
       have q3 := (hE_0_2_3 (r_0 + 2) (by omega)).1 (by omega)
       omega)
    | (have q1 := (hE_0_2_1 (r_0 + 2) (by omega)).2 (by omega)
       have q2 := (hE_0_2_2 (r_0 + 2) (by omega)).2 (by omega)
       have q3 := (hE_0_2_3 (r_0 + 2) (by omega)).2 (by omega)
       omega)
set_option maxHeartbeats 4000000 in
theorem vc_Mo_met_28_4 (x4 : Int) (x12 : Int) (fault_0 : Int) (r_0 : Int) (gx : Int) (k4 : 0 ≤ x4 ∧ x4 ≤ 2000) (k12 : 0 ≤ x12 ∧ x12 ≤ 0) (g2 : x12 = fault_0) (f13 : (-1) * fault_0 + 0 ≤ (-1)) (kz_0_8 : 0 ≤ fault_0 ∧ fault_0 ≤ 5) : 1 * x4 + ((-1) * gx + 0) ≤ (-1) := by
  first
    | omega
    | (have q1 := (hE_0_2_1 (r_0 + 2) (by omega)).2 (by omega)
       have q2 := (hE_0_2_2 (r_0 + 2) (by omega)).2 (by omega)
       omega)
    | (have q1 := (hE_0_2_1 (r_0 + 1) (by omega)).2 (by omega)
       have q2 := (hE_0_2_2 (r_0 + 1) (by omega)).2 (by omega)
       omega)
    | (have q1 := (hE_0_2_1 (r_0 + 2) (by omega)).2 (by omega)
       omega)
    | (have q1 := (hE_0_2_1 (r_0 + 1) (by omega)).2 (by omega)
       omega)
    | (have q1 := (hE_0_2_1 (r_0 + 2) (by omega)).2 (by omega)
       have q2 := (hE_0_2_2 (r_0 + 2) (by omega)).2 (by omega)
       have q3 := (hE_0_2_3 (r_0 + 2) (by omega)).1 (by omega)
       omega)
    | (have q1 := (hE_0_2_1 (r_0 + 2) (by omega)).2 (by omega)
       have q2 := (hE_0_2_2 (r_0 + 2) (by omega)).2 (by omega)
       have q3 := (hE_0_2_3 (r_0 + 2) (by omega)).2 (by omega)
       omega)
def o_Mo_met_28 : or_T := (254, 13, [(0, (2, 0, 0, [165])), (2, (0, 0, 23, [])), (3, (0, 0, 2000, [])), (4, (0, 0, 2000, [])), (7, (0, 0, 23, [])), (12, (0, 0, 0, []))], [(9, [12, 0], [8]), (20, [0], [30, -1, -1, 1, 8])], [], [(0, 0, 2000, [])], [(20, [2, 0], [50, 1, 1, 1005, 1002, 3, 6, 0, 2, 1, 0, 0, -1, 0, 10, 3, 1, 2, 4, 3, 2, 1, 5, 0, 1, 0, 47]), (20, [0, 2, 7], [60, 1, 1, 243, 5, 2]), (20, [13, 0], [30, 0, 1, 0, 0, -1, 1, 11]), (23, [3, 13], [0, 1, -1]), (23, [4, 13], [-1, 1, -1])], [], [])
theorem oo_Mo_met_28 {kA : Nat → ClassId} : or_ok PRD kA GG o_Mo_met_28 := by
  refine or_mk fun A ta ws vs hD hth hl => ?_
  intro t0 r0 t2 k2 t3 k3 t4 k4 t7 k7 t12 k12 f2 f13
  replace f2 := shm_143 f2
  replace f13 := shm_144 f13
  have g2 : v_iv (n_v vs 12) = w_fi ws (n_v vs 0) 8 := congrArg v_iv f2
  have kz_0_8 := fdq_14 hD hth r0
  have kz_0_11 := fdq_273 hD hth r0
  obtain ⟨x, ex, hx⟩ := iv_ex (ta := ta) (lo := 0) (hi := 2000) (z := w_fi ws (n_v vs 0) 11) (by omega) (by omega) (by omega) (by omega)
  have ex2 : v_iv (Value.int x) = w_fi ws (n_v vs 0) 11 := ex
  have ex3 : 0 ≤ v_iv (Value.int x) ∧ v_iv (Value.int x) ≤ 2000 := tv_rng hx
  have e_0 : n_v (vs ++ [Value.int x]) 0 = n_v vs 0 := n_v_old (by rw [hl]; decide)
  have e_2 : n_v (vs ++ [Value.int x]) 2 = n_v vs 2 := n_v_old (by rw [hl]; decide)
  have e_3 : n_v (vs ++ [Value.int x]) 3 = n_v vs 3 := n_v_old (by rw [hl]; decide)
  have e_4 : n_v (vs ++ [Value.int x]) 4 = n_v vs 4 := n_v_old (by rw [hl]; decide)
  have e_7 : n_v (vs ++ [Value.int x]) 7 = n_v vs 7 := n_v_old (by rw [hl]; decide)
  have e_13 : n_v (vs ++ [Value.int x]) 13 = Value.int x := n_v_new hl
  have nf0 : fc_1 PRD (20, [2, 0], [50, 1, 1, 1005, 1002, 3, 6, 0, 2, 1, 0, 0, -1, 0, 10, 3, 1, 2, 4, 3, 2, 1, 5, 0, 1, 0, 47]) ws (vs ++ [Value.int x]) := by
    refine ⟨nf_inA hl rfl, sgq_1980 ?_⟩
    · show (v_iv (n_v (vs ++ [Value.int x]) 2) ≤ (-1)) ∨ (w_ei ws (w_ar ws (n_v (vs ++ [Value.int x]) 0) 2) ((w_fi ws (n_v (vs ++ [Value.int x]) 0) 5 + 1)) ≤ 47)
      simp only [e_0, e_2]
      exact vc_Mo_met_28_0 (v_iv (n_v vs 2)) (v_iv (n_v vs 12)) (w_fi ws (n_v vs 0) 8) (w_ei ws (w_ar ws (n_v vs 0) 2)) (w_fi ws (n_v vs 0) 5) k2 k12 g2 f13 kz_0_8
  have nf1 : fc_1 PRD (20, [0, 2, 7], [60, 1, 1, 243, 5, 2]) ws (vs ++ [Value.int x]) := by
    refine ⟨nf_inA hl rfl, sgq_1981 ?_⟩
    · show MEN (w_fi ws (n_v (vs ++ [Value.int x]) 0) 5) (w_ei ws (w_ar ws (n_v (vs ++ [Value.int x]) 0) 2)) (v_iv (n_v (vs ++ [Value.int x]) 2)) (v_iv (n_v (vs ++ [Value.int x]) 7))
      simp only [e_0, e_2, e_7]
      exact vc_Mo_met_28_1 (v_iv (n_v vs 2)) (v_iv (n_v vs 7)) (v_iv (n_v vs 12)) (w_fi ws (n_v vs 0) 8) (w_ei ws (w_ar ws (n_v vs 0) 2)) (w_fi ws (n_v vs 0) 5) k2 k7 k12 g2 f13 kz_0_8
  have nf2 : fc_1 PRD (20, [13, 0], [30, 0, 1, 0, 0, -1, 1, 11]) ws (vs ++ [Value.int x]) := by
    refine ⟨nf_inA hl rfl, sgq_1395 ?_⟩
    · show 1 * v_iv (n_v (vs ++ [Value.int x]) 13) + ((-1) * w_fi ws (n_v (vs ++ [Value.int x]) 0) 11 + 0) ≤ 0
      simp only [e_0, e_13]
      exact vc_Mo_met_28_2 (v_iv (n_v vs 12)) (w_fi ws (n_v vs 0) 8) (w_fi ws (n_v vs 0) 5) (w_fi ws (n_v vs 0) 11) (v_iv (Value.int x)) k12 g2 f13 kz_0_8 kz_0_11
  have nf3 : fc_1 PRD (23, [3, 13], [0, 1, -1]) ws (vs ++ [Value.int x]) := by
    refine ⟨nf_inA hl rfl, sgq_7 ?_⟩
    · show 1 * v_iv (n_v (vs ++ [Value.int x]) 3) + ((-1) * v_iv (n_v (vs ++ [Value.int x]) 13) + 0) ≤ 0
      simp only [e_3, e_13]
      exact vc_Mo_met_28_3 (v_iv (n_v vs 3)) (v_iv (n_v vs 12)) (w_fi ws (n_v vs 0) 8) (w_fi ws (n_v vs 0) 5) (v_iv (Value.int x)) k3 k12 g2 f13 kz_0_8
  have nf4 : fc_1 PRD (23, [4, 13], [-1, 1, -1]) ws (vs ++ [Value.int x]) := by
    refine ⟨nf_inA hl rfl, sgq_211 ?_⟩
    · show 1 * v_iv (n_v (vs ++ [Value.int x]) 4) + ((-1) * v_iv (n_v (vs ++ [Value.int x]) 13) + 0) ≤ (-1)
      simp only [e_4, e_13]
      exact vc_Mo_met_28_4 (v_iv (n_v vs 4)) (v_iv (n_v vs 12)) (w_fi ws (n_v vs 0) 8) (w_fi ws (n_v vs 0) 5) (v_iv (Value.int x)) k4 k12 g2 f13 kz_0_8
  exact ⟨(fun _ h => (by cases h)), [Value.int x], ag_one hx, List.forall_mem_cons.mpr ⟨⟨show (20 : Nat) < 100 from by decide, nf0⟩, List.forall_mem_cons.mpr ⟨⟨show (20 : Nat) < 100 from by decide, nf1⟩, List.forall_mem_cons.mpr ⟨⟨show (20 : Nat) < 100 from by decide, nf2⟩, List.forall_mem_cons.mpr ⟨⟨show (23 : Nat) < 100 from by decide, nf3⟩, List.forall_mem_cons.mpr ⟨⟨show (23 : Nat) < 100 from by decide, nf4⟩, (fun _ h => (by cases h))⟩⟩⟩⟩⟩, (fun _ h => (by cases h))⟩
set_option maxHeartbeats 4000000 in
theorem vc_Mo_met_29_0 (x3 : Int) (x13 : Int) (r_0 : Int) (from_0 : Int) (pos_0 : Int) (k3 : 0 ≤ x3 ∧ x3 ≤ 2000) (k13 : 0 ≤ x13 ∧ x13 ≤ 2000) (f2 : 1 * x3 + ((-1) * x13 + 0) ≤ 0) (f10 : 1 * from_0 + ((-1) * pos_0 + 0) ≤ 0) (f12 : 1 * x13 + ((-1) * from_0 + 0) ≤ 0) (kz_0_11 : 0 ≤ pos_0 ∧ pos_0 ≤ 2000) (kz_0_15 : 0 ≤ from_0 ∧ from_0 ≤ 2000) : 1 * x3 + ((-1) * pos_0 + 0) ≤ 0 := by
  first
    | omega
    | (have q1 := (hE_0_2_1 (r_0 + 2) (by omega)).2 (by omega)
       have q2 := (hE_0_2_2 (r_0 + 2) (by omega)).2 (by omega)
       omega)
    | (have q1 := (hE_0_2_1 (r_0 + 1) (by omega)).2 (by omega)
       have q2 := (hE_0_2_2 (r_0 + 1) (by omega)).2 (by omega)
       omega)
    | (have q1 := (hE_0_2_1 (r_0 + 2) (by omega)).2 (by omega)
       omega)
    | (have q1 := (hE_0_2_1 (r_0 + 1) (by omega)).2 (by omega)
       omega)
    | (have q1 := (hE_0_2_1 (r_0 + 2) (by omega)).2 (by omega)
       have q2 := (hE_0_2_2 (r_0 + 2) (by omega)).2 (by omega)
       have q3 := (hE_0_2_3 (r_0 + 2) (by omega)).1 (by omega)
       omega)
    | (have q1 := (hE_0_2_1 (r_0 + 2) (by omega)).2 (by omega)
       have q2 := (hE_0_2_2 (r_0 + 2) (by omega)).2 (by omega)
       have q3 := (hE_0_2_3 (r_0 + 2) (by omega)).2 (by omega)
       omega)
set_option maxHeartbeats 4000000 in
theorem vc_Mo_met_29_1 (x3 : Int) (r_0 : Int) (fault_0 : Int) (pos_0 : Int) (kind_0 : Int) (k3 : 0 ≤ x3 ∧ x3 ≤ 2000) (f9 : (-1) * fault_0 + 0 ≤ (-1)) (kz_0_8 : 0 ≤ fault_0 ∧ fault_0 ≤ 5) (kz_0_11 : 0 ≤ pos_0 ∧ pos_0 ≤ 2000) (kz_0_12 : 0 ≤ kind_0 ∧ kind_0 ≤ 4) : (1 ≤ fault_0) ∨ ((kind_0 = 0) ∨ ((x3 + 1) ≤ pos_0)) := by
  first
    | omega
    | (have q1 := (hE_0_2_1 (r_0 + 2) (by omega)).2 (by omega)
       have q2 := (hE_0_2_2 (r_0 + 2) (by omega)).2 (by omega)
       omega)
    | (have q1 := (hE_0_2_1 (r_0 + 1) (by omega)).2 (by omega)
       have q2 := (hE_0_2_2 (r_0 + 1) (by omega)).2 (by omega)
       omega)
    | (have q1 := (hE_0_2_1 (r_0 + 2) (by omega)).2 (by omega)
       omega)
    | (have q1 := (hE_0_2_1 (r_0 + 1) (by omega)).2 (by omega)
       omega)
    | (have q1 := (hE_0_2_1 (r_0 + 2) (by omega)).2 (by omega)
       have q2 := (hE_0_2_2 (r_0 + 2) (by omega)).2 (by omega)
       have q3 := (hE_0_2_3 (r_0 + 2) (by omega)).1 (by omega)
       omega)
    | (have q1 := (hE_0_2_1 (r_0 + 2) (by omega)).2 (by omega)
       have q2 := (hE_0_2_2 (r_0 + 2) (by omega)).2 (by omega)
       have q3 := (hE_0_2_3 (r_0 + 2) (by omega)).2 (by omega)
       omega)
set_option maxHeartbeats 4000000 in
theorem vc_Mo_met_29_2 (x4 : Int) (r_0 : Int) (fault_0 : Int) (pos_0 : Int) (k4 : 0 ≤ x4 ∧ x4 ≤ 2000) (f9 : (-1) * fault_0 + 0 ≤ (-1)) (kz_0_8 : 0 ≤ fault_0 ∧ fault_0 ≤ 5) (kz_0_11 : 0 ≤ pos_0 ∧ pos_0 ≤ 2000) : (1 ≤ fault_0) ∨ ((x4 + 1) ≤ pos_0) := by
  first
    | omega
    | (have q1 := (hE_0_2_1 (r_0 + 2) (by omega)).2 (by omega)
       have q2 := (hE_0_2_2 (r_0 + 2) (by omega)).2 (by omega)
       omega)
    | (have q1 := (hE_0_2_1 (r_0 + 1) (by omega)).2 (by omega)
       have q2 := (hE_0_2_2 (r_0 + 1) (by omega)).2 (by omega)
       omega)
    | (have q1 := (hE_0_2_1 (r_0 + 2) (by omega)).2 (by omega)
       omega)
    | (have q1 := (hE_0_2_1 (r_0 + 1) (by omega)).2 (by omega)
       omega)
    | (have q1 := (hE_0_2_1 (r_0 + 2) (by omega)).2 (by omega)
       have q2 := (hE_0_2_2 (r_0 + 2) (by omega)).2 (by omega)
       have q3 := (hE_0_2_3 (r_0 + 2) (by omega)).1 (by omega)
       omega)
    | (have q1 := (hE_0_2_1 (r_0 + 2) (by omega)).2 (by omega)
       have q2 := (hE_0_2_2 (r_0 + 2) (by omega)).2 (by omega)
       have q3 := (hE_0_2_3 (r_0 + 2) (by omega)).2 (by omega)
       omega)
set_option maxHeartbeats 4000000 in
theorem vc_Mo_met_29_3 (x7 : Int) (r_0 : Int) (fault_0 : Int) (k7 : 0 ≤ x7 ∧ x7 ≤ 23) (f9 : (-1) * fault_0 + 0 ≤ (-1)) (kz_0_8 : 0 ≤ fault_0 ∧ fault_0 ≤ 5) : ((-1) * fault_0 + 0 ≤ (-1)) ∨ ((-1) * x7 + 0 ≤ 0) := by
  first
    | omega
    | (have q1 := (hE_0_2_1 (r_0 + 2) (by omega)).2 (by omega)
       have q2 := (hE_0_2_2 (r_0 + 2) (by omega)).2 (by omega)
       omega)
    | (have q1 := (hE_0_2_1 (r_0 + 1) (by omega)).2 (by omega)
       have q2 := (hE_0_2_2 (r_0 + 1) (by omega)).2 (by omega)
       omega)
    | (have q1 := (hE_0_2_1 (r_0 + 2) (by omega)).2 (by omega)
       omega)
    | (have q1 := (hE_0_2_1 (r_0 + 1) (by omega)).2 (by omega)
       omega)
    | (have q1 := (hE_0_2_1 (r_0 + 2) (by omega)).2 (by omega)
       have q2 := (hE_0_2_2 (r_0 + 2) (by omega)).2 (by omega)
       have q3 := (hE_0_2_3 (r_0 + 2) (by omega)).1 (by omega)
       omega)
    | (have q1 := (hE_0_2_1 (r_0 + 2) (by omega)).2 (by omega)
       have q2 := (hE_0_2_2 (r_0 + 2) (by omega)).2 (by omega)
       have q3 := (hE_0_2_3 (r_0 + 2) (by omega)).2 (by omega)
       omega)
set_option maxHeartbeats 4000000 in
theorem vc_Mo_met_29_4 (x2 : Int) (all_0 : Int → Int) (r_0 : Int) (fault_0 : Int) (k2 : 0 ≤ x2 ∧ x2 ≤ 23) (f9 : (-1) * fault_0 + 0 ≤ (-1)) (kz_0_8 : 0 ≤ fault_0 ∧ fault_0 ≤ 5) : (1 ≤ fault_0) ∨ ((x2 ≤ (-1)) ∨ (all_0 ((r_0 + 1)) ≤ 47)) := by
  first
    | omega
    | (have q1 := (hE_0_2_1 (r_0 + 2) (by omega)).2 (by omega)
       have q2 := (hE_0_2_2 (r_0 + 2) (by omega)).2 (by omega)
       omega)
    | (have q1 := (hE_0_2_1 (r_0 + 1) (by omega)).2 (by omega)
       have q2 := (hE_0_2_2 (r_0 + 1) (by omega)).2 (by omega)
       omega)
    | (have q1 := (hE_0_2_1 (r_0 + 2) (by omega)).2 (by omega)
       omega)
    | (have q1 := (hE_0_2_1 (r_0 + 1) (by omega)).2 (by omega)
       omega)
    | (have q1 := (hE_0_2_1 (r_0 + 2) (by omega)).2 (by omega)
       have q2 := (hE_0_2_2 (r_0 + 2) (by omega)).2 (by omega)
       have q3 := (hE_0_2_3 (r_0 + 2) (by omega)).1 (by omega)
       omega)
    | (have q1 := (hE_0_2_1 (r_0 + 2) (by omega)).2 (by omega)
       have q2 := (hE_0_2_2 (r_0 + 2) (by omega)).2 (by omega)
       have q3 := (hE_0_2_3 (r_0 + 2) (by omega)).2 (by omega)
       omega)
set_option maxHeartbeats 4000000 in
theorem vc_Mo_met_29_5 (x2 : Int) (x7 : Int) (all_0 : Int → Int) (r_0 : Int) (fault_0 : Int) (k2 : 0 ≤ x2 ∧ x2 ≤ 23) (k7 : 0 ≤ x7 ∧ x7 ≤ 23) (f9 : (-1) * fault_0 + 0 ≤ (-1)) (kz_0_8 : 0 ≤ fault_0 ∧ fault_0 ≤ 5) : MET (r_0) (fault_0) (all_0) (x2) (x7) := by
  first
    | (intro q; exfalso; omega)
    | exact fun _ => ‹MEN _ _ _ _›
def o_Mo_met_29 : or_T := (258, 14, [(0, (2, 0, 0, [165])), (2, (0, 0, 23, [])), (3, (0, 0, 2000, [])), (4, (0, 0, 2000, [])), (7, (0, 0, 23, [])), (13, (0, 0, 2000, []))], [(23, [3, 13], [0, 1, -1]), (20, [0], [30, -1, -1, 1, 8]), (20, [0, 0], [30, 0, 1, 1, 15, -1, 1, 11]), (20, [13, 0], [30, 0, 1, 0, 0, -1, 1, 15])], [], [], [(20, [3, 0], [30, 0, 1, 0, 0, -1, 1, 11]), (20, [0, 3], [50, 3, 0, 8, 12, 11, 3, 7, 0, 2, 0, 1, 2, 0, 8, 3, 7, 1, 3, 2, 0, 12, 0, 0, 0, 6, 4, 2, 1, 1, 0, 1, 2, 0, 11]), (20, [0, 4], [50, 2, 0, 8, 11, 3, 7, 0, 2, 0, 1, 2, 0, 8, 0, 6, 4, 2, 1, 1, 0, 1, 2, 0, 11]), (20, [0, 7], [31, 1, -1, -1, 1, 8, 0, -1, 0, 0]), (20, [0, 2], [50, 2, 1, 8, 5, 2, 3, 7, 0, 2, 0, 1, 2, 0, 8, 3, 6, 0, 2, 1, 1, 0, -1, 0, 10, 3, 0, 2, 4, 3, 2, 0, 5, 0, 1, 0, 47]), (20, [0, 2, 7], [60, 2, 1, 240, 5, 8, 2])], [], [])
theorem oo_Mo_met_29 {kA : Nat → ClassId} : or_ok PRD kA GG o_Mo_met_29 := by
  refine or_mk fun A ta ws vs hD hth hl => ?_
  intro t0 r0 t2 k2 t3 k3 t4 k4 t7 k7 t13 k13 f2 f9 f10 f12
  have kz_0_8 := fdq_14 hD hth r0
  have kz_0_11 := fdq_273 hD hth r0
  have kz_0_12 := fdq_186 hD hth r0
  have kz_0_15 := fdq_274 hD hth r0
  have nf0 : fc_1 PRD (20, [3, 0], [30, 0, 1, 0, 0, -1, 1, 11]) ws (vs) := ⟨nf_in hl rfl, sgq_1395 (vc_Mo_met_29_0 (v_iv (n_v vs 3)) (v_iv (n_v vs 13)) (w_fi ws (n_v vs 0) 5) (w_fi ws (n_v vs 0) 15) (w_fi ws (n_v vs 0) 11) k3 k13 (shm_7 f2) (shm_1397 f10) (shm_1396 f12) kz_0_11 kz_0_15)⟩
  have nf1 : fc_1 PRD (20, [0, 3], [50, 3, 0, 8, 12, 11, 3, 7, 0, 2, 0, 1, 2, 0, 8, 3, 7, 1, 3, 2, 0, 12, 0, 0, 0, 6, 4, 2, 1, 1, 0, 1, 2, 0, 11]) ws (vs) := ⟨nf_in hl rfl, sgq_1660 (vc_Mo_met_29_1 (v_iv (n_v vs 3)) (w_fi ws (n_v vs 0) 5) (w_fi ws (n_v vs 0) 8) (w_fi ws (n_v vs 0) 11) (w_fi ws (n_v vs 0) 12) k3 (shm_144 f9) kz_0_8 kz_0_11 kz_0_12)⟩
  have nf2 : fc_1 PRD (20, [0, 4], [50, 2, 0, 8, 11, 3, 7, 0, 2, 0, 1, 2, 0, 8, 0, 6, 4, 2, 1, 1, 0, 1, 2, 0, 11]) ws (vs) := ⟨nf_in hl rfl, sgq_1659 (vc_Mo_met_29_2 (v_iv (n_v vs 4)) (w_fi ws (n_v vs 0) 5) (w_fi ws (n_v vs 0) 8) (w_fi ws (n_v vs 0) 11) k4 (shm_144 f9) kz_0_8 kz_0_11)⟩
  have nf3 : fc_1 PRD (20, [0, 7], [31, 1, -1, -1, 1, 8, 0, -1, 0, 0]) ws (vs) := ⟨nf_in hl rfl, sgq_1982 (vc_Mo_met_29_3 (v_iv (n_v vs 7)) (w_fi ws (n_v vs 0) 5) (w_fi ws (n_v vs 0) 8) k7 (shm_144 f9) kz_0_8)⟩
  have nf4 : fc_1 PRD (20, [0, 2], [50, 2, 1, 8, 5, 2, 3, 7, 0, 2, 0, 1, 2, 0, 8, 3, 6, 0, 2, 1, 1, 0, -1, 0, 10, 3, 0, 2, 4, 3, 2, 0, 5, 0, 1, 0, 47]) ws (vs) := ⟨nf_in hl rfl, sgq_1983 (vc_Mo_met_29_4 (v_iv (n_v vs 2)) (w_ei ws (w_ar ws (n_v vs 0) 2)) (w_fi ws (n_v vs 0) 5) (w_fi ws (n_v vs 0) 8) k2 (shm_144 f9) kz_0_8)⟩
  have nf5 : fc_1 PRD (20, [0, 2, 7], [60, 2, 1, 240, 5, 8, 2]) ws (vs) := ⟨nf_in hl rfl, sgq_1984 (vc_Mo_met_29_5 (v_iv (n_v vs 2)) (v_iv (n_v vs 7)) (w_ei ws (w_ar ws (n_v vs 0) 2)) (w_fi ws (n_v vs 0) 5) (w_fi ws (n_v vs 0) 8) k2 k7 (shm_144 f9) kz_0_8)⟩
  refine ⟨(fun _ h => (by cases h)), [], trivial, ?_, (fun _ h => (by cases h))⟩
  rw [List.append_nil]
  exact List.forall_mem_cons.mpr ⟨⟨show (20 : Nat) < 100 from by decide, nf0⟩, List.forall_mem_cons.mpr ⟨⟨show (20 : Nat) < 100 from by decide, nf1⟩, List.forall_mem_cons.mpr ⟨⟨show (20 : Nat) < 100 from by decide, nf2⟩, List.forall_mem_cons.mpr ⟨⟨show (20 : Nat) < 100 from by decide, nf3⟩, List.forall_mem_cons.mpr ⟨⟨show (20 : Nat) < 100 from by decide, nf4⟩, List.forall_mem_cons.mpr ⟨⟨show (20 : Nat) < 100 from by decide, nf5⟩, (fun _ h => (by cases h))⟩⟩⟩⟩⟩⟩
set_option maxHeartbeats 4000000 in
theorem vc_Mo_met_30_0 (x3 : Int) (x12 : Int) (fault_0 : Int) (r_0 : Int) (pos_0 : Int) (kind_0 : Int) (k3 : 0 ≤ x3 ∧ x3 ≤ 2000) (k12 : 1 ≤ x12 ∧ x12 ≤ 5) (g1 : x12 = fault_0) (kz_0_8 : 0 ≤ fault_0 ∧ fault_0 ≤ 5) (kz_0_11 : 0 ≤ pos_0 ∧ pos_0 ≤ 2000) (kz_0_12 : 0 ≤ kind_0 ∧ kind_0 ≤ 4) : (1 ≤ fault_0) ∨ ((kind_0 = 0) ∨ ((x3 + 1) ≤ pos_0)) := by
  first
    | omega
    | (have q1 := (hE_0_2_1 (r_0 + 2) (by omega)).2 (by omega)
       have q2 := (hE_0_2_2 (r_0 + 2) (by omega)).2 (by omega)
       omega)
    | (have q1 := (hE_0_2_1 (r_0 + 1) (by omega)).2 (by omega)
       have q2 := (hE_0_2_2 (r_0 + 1) (by omega)).2 (by omega)
       omega)
    | (have q1 := (hE_0_2_1 (r_0 + 2) (by omega)).2 (by omega)
       omega)
    | (have q1 := (hE_0_2_1 (r_0 + 1) (by omega)).2 (by omega)
       omega)
    | (have q1 := (hE_0_2_1 (r_0 + 2) (by omega)).2 (by omega)
       have q2 := (hE_0_2_2 (r_0 + 2) (by omega)).2 (by omega)
       have q3 := (hE_0_2_3 (r_0 + 2) (by omega)).1 (by omega)
       omega)
    | (have q1 := (hE_0_2_1 (r_0 + 2) (by omega)).2 (by omega)
       have q2 := (hE_0_2_2 (r_0 + 2) (by omega)).2 (by omega)
       have q3 := (hE_0_2_3 (r_0 + 2) (by omega)).2 (by omega)
       omega)
set_option maxHeartbeats 4000000 in
theorem vc_Mo_met_30_1 (x4 : Int) (x12 : Int) (fault_0 : Int) (r_0 : Int) (pos_0 : Int) (k4 : 0 ≤ x4 ∧ x4 ≤ 2000) (k12 : 1 ≤ x12 ∧ x12 ≤ 5) (g1 : x12 = fault_0) (kz_0_8 : 0 ≤ fault_0 ∧ fault_0 ≤ 5) (kz_0_11 : 0 ≤ pos_0 ∧ pos_0 ≤ 2000) : (1 ≤ fault_0) ∨ ((x4 + 1) ≤ pos_0) := by
  first
    | omega
    | (have q1 := (hE_0_2_1 (r_0 + 2) (by omega)).2 (by omega)
       have q2 := (hE_0_2_2 (r_0 + 2) (by omega)).2 (by omega)
       omega)
    | (have q1 := (hE_0_2_1 (r_0 + 1) (by omega)).2 (by omega)
       have q2 := (hE_0_2_2 (r_0 + 1) (by omega)).2 (by omega)
       omega)
    | (have q1 := (hE_0_2_1 (r_0 + 2) (by omega)).2 (by omega)
       omega)
    | (have q1 := (hE_0_2_1 (r_0 + 1) (by omega)).2 (by omega)
       omega)
    | (have q1 := (hE_0_2_1 (r_0 + 2) (by omega)).2 (by omega)
       have q2 := (hE_0_2_2 (r_0 + 2) (by omega)).2 (by omega)
       have q3 := (hE_0_2_3 (r_0 + 2) (by omega)).1 (by omega)
       omega)
    | (have q1 := (hE_0_2_1 (r_0 + 2) (by omega)).2 (by omega)
       have q2 := (hE_0_2_2 (r_0 + 2) (by omega)).2 (by omega)
       have q3 := (hE_0_2_3 (r_0 + 2) (by omega)).2 (by omega)
       omega)
set_option maxHeartbeats 4000000 in
theorem vc_Mo_met_30_2 (x12 : Int) (x13 : Int) (fault_0 : Int) (r_0 : Int) (k12 : 1 ≤ x12 ∧ x12 ≤ 5) (k13 : (-1) ≤ x13 ∧ x13 ≤ (-1)) (g1 : x12 = fault_0) (kz_0_8 : 0 ≤ fault_0 ∧ fault_0 ≤ 5) : ((-1) * fault_0 + 0 ≤ (-1)) ∨ ((-1) * x13 + 0 ≤ 0) := by
  first
    | omega
    | (have q1 := (hE_0_2_1 (r_0 + 2) (by omega)).2 (by omega)
       have q2 := (hE_0_2_2 (r_0 + 2) (by omega)).2 (by omega)
       omega)
    | (have q1 := (hE_0_2_1 (r_0 + 1) (by omega)).2 (by omega)
       have q2 := (hE_0_2_2 (r_0 + 1) (by omega)).2 (by omega)
       omega)
    | (have q1 := (hE_0_2_1 (r_0 + 2) (by omega)).2 (by omega)
       omega)
    | (have q1 := (hE_0_2_1 (r_0 + 1) (by omega)).2 (by omega)
       omega)
    | (have q1 := (hE_0_2_1 (r_0 + 2) (by omega)).2 (by omega)
       have q2 := (hE_0_2_2 (r_0 + 2) (by omega)).2 (by omega)
       have q3 := (hE_0_2_3 (r_0 + 2) (by omega)).1 (by omega)
       omega)
    | (have q1 := (hE_0_2_1 (r_0 + 2) (by omega)).2 (by omega)
       have q2 := (hE_0_2_2 (r_0 + 2) (by omega)).2 (by omega)
       have q3 := (hE_0_2_3 (r_0 + 2) (by omega)).2 (by omega)
       omega)
set_option maxHeartbeats 4000000 in
theorem vc_Mo_met_30_3 (x2 : Int) (x12 : Int) (fault_0 : Int) (all_0 : Int → Int) (r_0 : Int) (k2 : 0 ≤ x2 ∧ x2 ≤ 23) (k12 : 1 ≤ x12 ∧ x12 ≤ 5) (g1 : x12 = fault_0) (kz_0_8 : 0 ≤ fault_0 ∧ fault_0 ≤ 5) : (1 ≤ fault_0) ∨ ((x2 ≤ (-1)) ∨ (all_0 ((r_0 + 1)) ≤ 47)) := by
  first
    | omega
    | (have q1 := (hE_0_2_1 (r_0 + 2) (by omega)).2 (by omega)
       have q2 := (hE_0_2_2 (r_0 + 2) (by omega)).2 (by omega)
       omega)
    | (have q1 := (hE_0_2_1 (r_0 + 1) (by omega)).2 (by omega)
       have q2 := (hE_0_2_2 (r_0 + 1) (by omega)).2 (by omega)
       omega)
    | (have q1 := (hE_0_2_1 (r_0 + 2) (by omega)).2 (by omega)
       omega)
    | (have q1 := (hE_0_2_1 (r_0 + 1) (by omega)).2 (by omega)
       omega)
    | (have q1 := (hE_0_2_1 (r_0 + 2) (by omega)).2 (by omega)
       have q2 := (hE_0_2_2 (r_0 + 2) (by omega)).2 (by omega)
       have q3 := (hE_0_2_3 (r_0 + 2) (by omega)).1 (by omega)
       omega)
    | (have q1 := (hE_0_2_1 (r_0 + 2) (by omega)).2 (by omega)
       have q2 := (hE_0_2_2 (r_0 + 2) (by omega)).2 (by omega)
       have q3 := (hE_0_2_3 (r_0 + 2) (by omega)).2 (by omega)
       omega)
set_option maxHeartbeats 4000000 in
theorem vc_Mo_met_30_4 (x2 : Int) (x12 : Int) (x13 : Int) (fault_0 : Int) (all_0 : Int → Int) (r_0 : Int) (k2 : 0 ≤ x2 ∧ x2 ≤ 23) (k12 : 1 ≤ x12 ∧ x12 ≤ 5) (k13 : (-1) ≤ x13 ∧ x13 ≤ (-1)) (g1 : x12 = fault_0) (kz_0_8 : 0 ≤ fault_0 ∧ fault_0 ≤ 5) : MET (r_0) (fault_0) (all_0) (x2) (x13) := by
  first
    | (intro q; exfalso; omega)
    | exact fun _ => ‹MEN _ _ _ _›
def o_Mo_met_30 : or_T := (121, 14, [(0, (2, 0, 0, [165])), (2, (0, 0, 23, [])), (3, (0, 0, 2000, [])), (4, (0, 0, 2000, [])), (12, (0, 1, 5, [])), (13, (0, -1, -1, []))], [(9, [12, 0], [8])], [], [], [(20, [0, 3], [50, 3, 0, 8, 12, 11, 3, 7, 0, 2, 0, 1, 2, 0, 8, 3, 7, 1, 3, 2, 0, 12, 0, 0, 0, 6, 4, 2, 1, 1, 0, 1, 2, 0, 11]), (20, [0, 4], [50, 2, 0, 8, 11, 3, 7, 0, 2, 0, 1, 2, 0, 8, 0, 6, 4, 2, 1, 1, 0, 1, 2, 0, 11]), (20, [0, 13], [31, 1, -1, -1, 1, 8, 0, -1, 0, 0]), (20, [0, 2], [50, 2, 1, 8, 5, 2, 3, 7, 0, 2, 0, 1, 2, 0, 8, 3, 6, 0, 2, 1, 1, 0, -1, 0, 10, 3, 0, 2, 4, 3, 2, 0, 5, 0, 1, 0, 47]), (20, [0, 2, 13], [60, 2, 1, 240, 5, 8, 2])], [], [])
theorem oo_Mo_met_30 {kA : Nat → ClassId} : or_ok PRD kA GG o_Mo_met_30 := by
  refine or_mk fun A ta ws vs hD hth hl => ?_
  intro t0 r0 t2 k2 t3 k3 t4 k4 t12 k12 t13 k13 f1
  replace f1 := shm_143 f1
  have g1 : v_iv (n_v vs 12) = w_fi ws (n_v vs 0) 8 := congrArg v_iv f1
  have kz_0_8 := fdq_14 hD hth r0
  have kz_0_11 := fdq_273 hD hth r0
  have kz_0_12 := fdq_186 hD hth r0
  have nf0 : fc_1 PRD (20, [0, 3], [50, 3, 0, 8, 12, 11, 3, 7, 0, 2, 0, 1, 2, 0, 8, 3, 7, 1, 3, 2, 0, 12, 0, 0, 0, 6, 4, 2, 1, 1, 0, 1, 2, 0, 11]) ws (vs) := ⟨nf_in hl rfl, sgq_1660 (vc_Mo_met_30_0 (v_iv (n_v vs 3)) (v_iv (n_v vs 12)) (w_fi ws (n_v vs 0) 8) (w_fi ws (n_v vs 0) 5) (w_fi ws (n_v vs 0) 11) (w_fi ws (n_v vs 0) 12) k3 k12 g1 kz_0_8 kz_0_11 kz_0_12)⟩
  have nf1 : fc_1 PRD (20, [0, 4], [50, 2, 0, 8, 11, 3, 7, 0, 2, 0, 1, 2, 0, 8, 0, 6, 4, 2, 1, 1, 0, 1, 2, 0, 11]) ws (vs) := ⟨nf_in hl rfl, sgq_1659 (vc_Mo_met_30_1 (v_iv (n_v vs 4)) (v_iv (n_v vs 12)) (w_fi ws (n_v vs 0) 8) (w_fi ws (n_v vs 0) 5) (w_fi ws (n_v vs 0) 11) k4 k12 g1 kz_0_8 kz_0_11)⟩
  have nf2 : fc_1 PRD (20, [0, 13], [31, 1, -1, -1, 1, 8, 0, -1, 0, 0]) ws (vs) := ⟨nf_in hl rfl, sgq_1982 (vc_Mo_met_30_2 (v_iv (n_v vs 12)) (v_iv (n_v vs 13)) (w_fi ws (n_v vs 0) 8) (w_fi ws (n_v vs 0) 5) k12 k13 g1 kz_0_8)⟩
  have nf3 : fc_1 PRD (20, [0, 2], [50, 2, 1, 8, 5, 2, 3, 7, 0, 2, 0, 1, 2, 0, 8, 3, 6, 0, 2, 1, 1, 0, -1, 0, 10, 3, 0, 2, 4, 3, 2, 0, 5, 0, 1, 0, 47]) ws (vs) := ⟨nf_in hl rfl, sgq_1983 (vc_Mo_met_30_3 (v_iv (n_v vs 2)) (v_iv (n_v vs 12)) (w_fi ws (n_v vs 0) 8) (w_ei ws (w_ar ws (n_v vs 0) 2)) (w_fi ws (n_v vs 0) 5) k2 k12 g1 kz_0_8)⟩
  have nf4 : fc_1 PRD (20, [0, 2, 13], [60, 2, 1, 240, 5, 8, 2]) ws (vs) := ⟨nf_in hl rfl, sgq_1984 (vc_Mo_met_30_4 (v_iv (n_v vs 2)) (v_iv (n_v vs 12)) (v_iv (n_v vs 13)) (w_fi ws (n_v vs 0) 8) (w_ei ws (w_ar ws (n_v vs 0) 2)) (w_fi ws (n_v vs 0) 5) k2 k12 k13 g1 kz_0_8)⟩
  refine ⟨(fun _ h => (by cases h)), [], trivial, ?_, (fun _ h => (by cases h))⟩
  rw [List.append_nil]
  exact List.forall_mem_cons.mpr ⟨⟨show (20 : Nat) < 100 from by decide, nf0⟩, List.forall_mem_cons.mpr ⟨⟨show (20 : Nat) < 100 from by decide, nf1⟩, List.forall_mem_cons.mpr ⟨⟨show (20 : Nat) < 100 from by decide, nf2⟩, List.forall_mem_cons.mpr ⟨⟨show (20 : Nat) < 100 from by decide, nf3⟩, List.forall_mem_cons.mpr ⟨⟨show (20 : Nat) < 100 from by decide, nf4⟩, (fun _ h => (by cases h))⟩⟩⟩⟩⟩
set_option maxHeartbeats 4000000 in
theorem vc_Mo_met_31_0 (x3 : Int) (pos_0 : Int) (kind_0 : Int) (r_0 : Int) (fault_0 : Int) (k3 : 0 ≤ x3 ∧ x3 ≤ 2000) (f8 : (-1) * fault_0 + 0 ≤ (-1)) (kz_0_8 : 0 ≤ fault_0 ∧ fault_0 ≤ 5) (kz_0_11 : 0 ≤ pos_0 ∧ pos_0 ≤ 2000) (kz_0_12 : 0 ≤ kind_0 ∧ kind_0 ≤ 4) : (1 ≤ fault_0) ∨ ((kind_0 = 0) ∨ ((x3 + 1) ≤ pos_0)) := by
  first
    | omega
    | (have q1 := (hE_0_2_1 (r_0 + 2) (by omega)).2 (by omega)
       have q2 := (hE_0_2_2 (r_0 + 2) (by omega)).2 (by omega)
       omega)
    | (have q1 := (hE_0_2_1 (r_0 + 1) (by omega)).2 (by omega)
       have q2 := (hE_0_2_2 (r_0 + 1) (by omega)).2 (by omega)
       omega)
    | (have q1 := (hE_0_2_1 (r_0 + 2) (by omega)).2 (by omega)
       omega)
    | (have q1 := (hE_0_2_1 (r_0 + 1) (by omega)).2 (by omega)
       omega)
    | (have q1 := (hE_0_2_1 (r_0 + 2) (by omega)).2 (by omega)
       have q2 := (hE_0_2_2 (r_0 + 2) (by omega)).2 (by omega)
       have q3 := (hE_0_2_3 (r_0 + 2) (by omega)).1 (by omega)
       omega)
    | (have q1 := (hE_0_2_1 (r_0 + 2) (by omega)).2 (by omega)
       have q2 := (hE_0_2_2 (r_0 + 2) (by omega)).2 (by omega)
       have q3 := (hE_0_2_3 (r_0 + 2) (by omega)).2 (by omega)
       omega)
set_option maxHeartbeats 4000000 in
theorem vc_Mo_met_31_1 (x4 : Int) (pos_0 : Int) (r_0 : Int) (fault_0 : Int) (k4 : 0 ≤ x4 ∧ x4 ≤ 2000) (f8 : (-1) * fault_0 + 0 ≤ (-1)) (kz_0_8 : 0 ≤ fault_0 ∧ fault_0 ≤ 5) (kz_0_11 : 0 ≤ pos_0 ∧ pos_0 ≤ 2000) : (1 ≤ fault_0) ∨ ((x4 + 1) ≤ pos_0) := by
  first
    | omega
    | (have q1 := (hE_0_2_1 (r_0 + 2) (by omega)).2 (by omega)
       have q2 := (hE_0_2_2 (r_0 + 2) (by omega)).2 (by omega)
       omega)
    | (have q1 := (hE_0_2_1 (r_0 + 1) (by omega)).2 (by omega)
       have q2 := (hE_0_2_2 (r_0 + 1) (by omega)).2 (by omega)
       omega)
    | (have q1 := (hE_0_2_1 (r_0 + 2) (by omega)).2 (by omega)
       omega)
    | (have q1 := (hE_0_2_1 (r_0 + 1) (by omega)).2 (by omega)
       omega)
    | (have q1 := (hE_0_2_1 (r_0 + 2) (by omega)).2 (by omega)
       have q2 := (hE_0_2_2 (r_0 + 2) (by omega)).2 (by omega)
       have q3 := (hE_0_2_3 (r_0 + 2) (by omega)).1 (by omega)
       omega)
    | (have q1 := (hE_0_2_1 (r_0 + 2) (by omega)).2 (by omega)
       have q2 := (hE_0_2_2 (r_0 + 2) (by omega)).2 (by omega)
       have q3 := (hE_0_2_3 (r_0 + 2) (by omega)).2 (by omega)
       omega)
set_option maxHeartbeats 4000000 in
theorem vc_Mo_met_31_2 (x9 : Int) (r_0 : Int) (fault_0 : Int) (k9 : (-1) ≤ x9 ∧ x9 ≤ (-1)) (f8 : (-1) * fault_0 + 0 ≤ (-1)) (kz_0_8 : 0 ≤ fault_0 ∧ fault_0 ≤ 5) : ((-1) * fault_0 + 0 ≤ (-1)) ∨ ((-1) * x9 + 0 ≤ 0) := by
  first
    | omega
    | (have q1 := (hE_0_2_1 (r_0 + 2) (by omega)).2 (by omega)
       have q2 := (hE_0_2_2 (r_0 + 2) (by omega)).2 (by omega)
       omega)
    | (have q1 := (hE_0_2_1 (r_0 + 1) (by omega)).2 (by omega)
       have q2 := (hE_0_2_2 (r_0 + 1) (by omega)).2 (by omega)
       omega)
    | (have q1 := (hE_0_2_1 (r_0 + 2) (by omega)).2 (by omega)
       omega)
    | (have q1 := (hE_0_2_1 (r_0 + 1) (by omega)).2 (by omega)
       omega)
    | (have q1 := (hE_0_2_1 (r_0 + 2) (by omega)).2 (by omega)
       have q2 := (hE_0_2_2 (r_0 + 2) (by omega)).2 (by omega)
       have q3 := (hE_0_2_3 (r_0 + 2) (by omega)).1 (by omega)
       omega)
    | (have q1 := (hE_0_2_1 (r_0 + 2) (by omega)).2 (by omega)
       have q2 := (hE_0_2_2 (r_0 + 2) (by omega)).2 (by omega)
       have q3 := (hE_0_2_3 (r_0 + 2) (by omega)).2 (by omega)
       omega)
set_option maxHeartbeats 4000000 in
theorem vc_Mo_met_31_3 (x2 : Int) (all_0 : Int → Int) (r_0 : Int) (fault_0 : Int) (k2 : (-1) ≤ x2 ∧ x2 ≤ 23) (f8 : (-1) * fault_0 + 0 ≤ (-1)) (kz_0_8 : 0 ≤ fault_0 ∧ fault_0 ≤ 5) : (1 ≤ fault_0) ∨ ((x2 ≤ (-1)) ∨ (all_0 ((r_0 + 1)) ≤ 47)) := by
  first
    | omega
    | (have q1 := (hE_0_2_1 (r_0 + 2) (by omega)).2 (by omega)
       have q2 := (hE_0_2_2 (r_0 + 2) (by omega)).2 (by omega)
       omega)
    | (have q1 := (hE_0_2_1 (r_0 + 1) (by omega)).2 (by omega)
       have q2 := (hE_0_2_2 (r_0 + 1) (by omega)).2 (by omega)
       omega)
    | (have q1 := (hE_0_2_1 (r_0 + 2) (by omega)).2 (by omega)
       omega)
    | (have q1 := (hE_0_2_1 (r_0 + 1) (by omega)).2 (by omega)
       omega)
    | (have q1 := (hE_0_2_1 (r_0 + 2) (by omega)).2 (by omega)
       have q2 := (hE_0_2_2 (r_0 + 2) (by omega)).2 (by omega)
       have q3 := (hE_0_2_3 (r_0 + 2) (by omega)).1 (by omega)
       omega)
    | (have q1 := (hE_0_2_1 (r_0 + 2) (by omega)).2 (by omega)
       have q2 := (hE_0_2_2 (r_0 + 2) (by omega)).2 (by omega)
       have q3 := (hE_0_2_3 (r_0 + 2) (by omega)).2 (by omega)
       omega)
set_option maxHeartbeats 4000000 in
theorem vc_Mo_met_31_4 (x2 : Int) (x9 : Int) (all_0 : Int → Int) (r_0 : Int) (fault_0 : Int) (k2 : (-1) ≤ x2 ∧ x2 ≤ 23) (k9 : (-1) ≤ x9 ∧ x9 ≤ (-1)) (f8 : (-1) * fault_0 + 0 ≤ (-1)) (kz_0_8 : 0 ≤ fault_0 ∧ fault_0 ≤ 5) : MET (r_0) (fault_0) (all_0) (x2) (x9) := by
  first
    | (intro q; exfalso; omega)
    | exact fun _ => ‹MEN _ _ _ _›
def o_Mo_met_31 : or_T := (26, 10, [(0, (2, 0, 0, [165])), (2, (0, -1, 23, [])), (3, (0, 0, 2000, [])), (4, (0, 0, 2000, [])), (9, (0, -1, -1, []))], [(20, [0], [30, -1, -1, 1, 8])], [], [], [(20, [0, 3], [50, 3, 0, 8, 12, 11, 3, 7, 0, 2, 0, 1, 2, 0, 8, 3, 7, 1, 3, 2, 0, 12, 0, 0, 0, 6, 4, 2, 1, 1, 0, 1, 2, 0, 11]), (20, [0, 4], [50, 2, 0, 8, 11, 3, 7, 0, 2, 0, 1, 2, 0, 8, 0, 6, 4, 2, 1, 1, 0, 1, 2, 0, 11]), (20, [0, 9], [31, 1, -1, -1, 1, 8, 0, -1, 0, 0]), (20, [0, 2], [50, 2, 1, 8, 5, 2, 3, 7, 0, 2, 0, 1, 2, 0, 8, 3, 6, 0, 2, 1, 1, 0, -1, 0, 10, 3, 0, 2, 4, 3, 2, 0, 5, 0, 1, 0, 47]), (20, [0, 2, 9], [60, 2, 1, 240, 5, 8, 2])], [], [])
theorem oo_Mo_met_31 {kA : Nat → ClassId} : or_ok PRD kA GG o_Mo_met_31 := by
  refine or_mk fun A ta ws vs hD hth hl => ?_
  intro t0 r0 t2 k2 t3 k3 t4 k4 t9 k9 f8
  have kz_0_8 := fdq_14 hD hth r0
  have kz_0_11 := fdq_273 hD hth r0
  have kz_0_12 := fdq_186 hD hth r0
  have nf0 : fc_1 PRD (20, [0, 3], [50, 3, 0, 8, 12, 11, 3, 7, 0, 2, 0, 1, 2, 0, 8, 3, 7, 1, 3, 2, 0, 12, 0, 0, 0, 6, 4, 2, 1, 1, 0, 1, 2, 0, 11]) ws (vs) := ⟨nf_in hl rfl, sgq_1660 (vc_Mo_met_31_0 (v_iv (n_v vs 3)) (w_fi ws (n_v vs 0) 11) (w_fi ws (n_v vs 0) 12) (w_fi ws (n_v vs 0) 5) (w_fi ws (n_v vs 0) 8) k3 (shm_144 f8) kz_0_8 kz_0_11 kz_0_12)⟩
  have nf1 : fc_1 PRD (20, [0, 4], [50, 2, 0, 8, 11, 3, 7, 0, 2, 0, 1, 2, 0, 8, 0, 6, 4, 2, 1, 1, 0, 1, 2, 0, 11]) ws (vs) := ⟨nf_in hl rfl, sgq_1659 (vc_Mo_met_31_1 (v_iv (n_v vs 4)) (w_fi ws (n_v vs 0) 11) (w_fi ws (n_v vs 0) 5) (w_fi ws (n_v vs 0) 8) k4 (shm_144 f8) kz_0_8 kz_0_11)⟩
  have nf2 : fc_1 PRD (20, [0, 9], [31, 1, -1, -1, 1, 8, 0, -1, 0, 0]) ws (vs) := ⟨nf_in hl rfl, sgq_1982 (vc_Mo_met_31_2 (v_iv (n_v vs 9)) (w_fi ws (n_v vs 0) 5) (w_fi ws (n_v vs 0) 8) k9 (shm_144 f8) kz_0_8)⟩
  have nf3 : fc_1 PRD (20, [0, 2], [50, 2, 1, 8, 5, 2, 3, 7, 0, 2, 0, 1, 2, 0, 8, 3, 6, 0, 2, 1, 1, 0, -1, 0, 10, 3, 0, 2, 4, 3, 2, 0, 5, 0, 1, 0, 47]) ws (vs) := ⟨nf_in hl rfl, sgq_1983 (vc_Mo_met_31_3 (v_iv (n_v vs 2)) (w_ei ws (w_ar ws (n_v vs 0) 2)) (w_fi ws (n_v vs 0) 5) (w_fi ws (n_v vs 0) 8) k2 (shm_144 f8) kz_0_8)⟩
  have nf4 : fc_1 PRD (20, [0, 2, 9], [60, 2, 1, 240, 5, 8, 2]) ws (vs) := ⟨nf_in hl rfl, sgq_1984 (vc_Mo_met_31_4 (v_iv (n_v vs 2)) (v_iv (n_v vs 9)) (w_ei ws (w_ar ws (n_v vs 0) 2)) (w_fi ws (n_v vs 0) 5) (w_fi ws (n_v vs 0) 8) k2 k9 (shm_144 f8) kz_0_8)⟩
  refine ⟨(fun _ h => (by cases h)), [], trivial, ?_, (fun _ h => (by cases h))⟩
  rw [List.append_nil]
  exact List.forall_mem_cons.mpr ⟨⟨show (20 : Nat) < 100 from by decide, nf0⟩, List.forall_mem_cons.mpr ⟨⟨show (20 : Nat) < 100 from by decide, nf1⟩, List.forall_mem_cons.mpr ⟨⟨show (20 : Nat) < 100 from by decide, nf2⟩, List.forall_mem_cons.mpr ⟨⟨show (20 : Nat) < 100 from by decide, nf3⟩, List.forall_mem_cons.mpr ⟨⟨show (20 : Nat) < 100 from by decide, nf4⟩, (fun _ h => (by cases h))⟩⟩⟩⟩⟩
set_option maxHeartbeats 4000000 in
theorem vc_Mo_met_32_0 (x3 : Int) (x5 : Int) (fault_0 : Int) (pos_0 : Int) (kind_0 : Int) (r_0 : Int) (k3 : 0 ≤ x3 ∧ x3 ≤ 2000) (k5 : 1 ≤ x5 ∧ x5 ≤ 5) (g1 : x5 = fault_0) (kz_0_8 : 0 ≤ fault_0 ∧ fault_0 ≤ 5) (kz_0_11 : 0 ≤ pos_0 ∧ pos_0 ≤ 2000) (kz_0_12 : 0 ≤ kind_0 ∧ kind_0 ≤ 4) : (1 ≤ fault_0) ∨ ((kind_0 = 0) ∨ ((x3 + 1) ≤ pos_0)) := by
  first
    | omega
    | (have q1 := (hE_0_2_1 (r_0 + 2) (by omega)).2 (by omega)
       have q2 := (hE_0_2_2 (r_0 + 2) (by omega)).2 (by omega)
       omega)
    | (have q1 := (hE_0_2_1 (r_0 + 1) (by omega)).2 (by omega)
       have q2 := (hE_0_2_2 (r_0 + 1) (by omega)).2 (by omega)
       omega)
    | (have q1 := (hE_0_2_1 (r_0 + 2) (by omega)).2 (by omega)
       omega)
    | (have q1 := (hE_0_2_1 (r_0 + 1) (by omega)).2 (by omega)
       omega)
    | (have q1 := (hE_0_2_1 (r_0 + 2) (by omega)).2 (by omega)
       have q2 := (hE_0_2_2 (r_0 + 2) (by omega)).2 (by omega)
       have q3 := (hE_0_2_3 (r_0 + 2) (by omega)).1 (by omega)
       omega)
    | (have q1 := (hE_0_2_1 (r_0 + 2) (by omega)).2 (by omega)
       have q2 := (hE_0_2_2 (r_0 + 2) (by omega)).2 (by omega)
       have q3 := (hE_0_2_3 (r_0 + 2) (by omega)).2 (by omega)
       omega)
set_option maxHeartbeats 4000000 in
theorem vc_Mo_met_32_1 (x4 : Int) (x5 : Int) (fault_0 : Int) (pos_0 : Int) (r_0 : Int) (k4 : 0 ≤ x4 ∧ x4 ≤ 2000) (k5 : 1 ≤ x5 ∧ x5 ≤ 5) (g1 : x5 = fault_0) (kz_0_8 : 0 ≤ fault_0 ∧ fault_0 ≤ 5) (kz_0_11 : 0 ≤ pos_0 ∧ pos_0 ≤ 2000) : (1 ≤ fault_0) ∨ ((x4 + 1) ≤ pos_0) := by
  first
    | omega
    | (have q1 := (hE_0_2_1 (r_0 + 2) (by omega)).2 (by omega)
       have q2 := (hE_0_2_2 (r_0 + 2) (by omega)).2 (by omega)
       omega)
    | (have q1 := (hE_0_2_1 (r_0 + 1) (by omega)).2 (by omega)
       have q2 := (hE_0_2_2 (r_0 + 1) (by omega)).2 (by omega)
       omega)
    | (have q1 := (hE_0_2_1 (r_0 + 2) (by omega)).2 (by omega)
       omega)
    | (have q1 := (hE_0_2_1 (r_0 + 1) (by omega)).2 (by omega)
       omega)
    | (have q1 := (hE_0_2_1 (r_0 + 2) (by omega)).2 (by omega)
       have q2 := (hE_0_2_2 (r_0 + 2) (by omega)).2 (by omega)
       have q3 := (hE_0_2_3 (r_0 + 2) (by omega)).1 (by omega)
       omega)
    | (have q1 := (hE_0_2_1 (r_0 + 2) (by omega)).2 (by omega)
       have q2 := (hE_0_2_2 (r_0 + 2) (by omega)).2 (by omega)
       have q3 := (hE_0_2_3 (r_0 + 2) (by omega)).2 (by omega)
       omega)
set_option maxHeartbeats 4000000 in
theorem vc_Mo_met_32_2 (x5 : Int) (x6 : Int) (fault_0 : Int) (r_0 : Int) (k5 : 1 ≤ x5 ∧ x5 ≤ 5) (k6 : (-1) ≤ x6 ∧ x6 ≤ (-1)) (g1 : x5 = fault_0) (kz_0_8 : 0 ≤ fault_0 ∧ fault_0 ≤ 5) : ((-1) * fault_0 + 0 ≤ (-1)) ∨ ((-1) * x6 + 0 ≤ 0) := by
  first
    | omega
    | (have q1 := (hE_0_2_1 (r_0 + 2) (by omega)).2 (by omega)
       have q2 := (hE_0_2_2 (r_0 + 2) (by omega)).2 (by omega)
       omega)
    | (have q1 := (hE_0_2_1 (r_0 + 1) (by omega)).2 (by omega)
       have q2 := (hE_0_2_2 (r_0 + 1) (by omega)).2 (by omega)
       omega)
    | (have q1 := (hE_0_2_1 (r_0 + 2) (by omega)).2 (by omega)
       omega)
    | (have q1 := (hE_0_2_1 (r_0 + 1) (by omega)).2 (by omega)
       omega)
    | (have q1 := (hE_0_2_1 (r_0 + 2) (by omega)).2 (by omega)
       have q2 := (hE_0_2_2 (r_0 + 2) (by omega)).2 (by omega)
       have q3 := (hE_0_2_3 (r_0 + 2) (by omega)).1 (by omega)
       omega)
    | (have q1 := (hE_0_2_1 (r_0 + 2) (by omega)).2 (by omega)
       have q2 := (hE_0_2_2 (r_0 + 2) (by omega)).2 (by omega)
       have q3 := (hE_0_2_3 (r_0 + 2) (by omega)).2 (by omega)
       omega)
set_option maxHeartbeats 4000000 in
theorem vc_Mo_met_32_3 (x2 : Int) (x5 : Int) (fault_0 : Int) (all_0 : Int → Int) (r_0 : Int) (k2 : (-1) ≤ x2 ∧ x2 ≤ 23) (k5 : 1 ≤ x5 ∧ x5 ≤ 5) (g1 : x5 = fault_0) (kz_0_8 : 0 ≤ fault_0 ∧ fault_0 ≤ 5) : (1 ≤ fault_0) ∨ ((x2 ≤ (-1)) ∨ (all_0 ((r_0 + 1)) ≤ 47)) := by
  first
    | omega
    | (have q1 := (hE_0_2_1 (r_0 + 2) (by omega)).2 (by omega)
       have q2 := (hE_0_2_2 (r_0 + 2) (by omega)).2 (by omega)
       omega)
    | (have q1 := (hE_0_2_1 (r_0 + 1) (by omega)).2 (by omega)
       have q2 := (hE_0_2_2 (r_0 + 1) (by omega)).2 (by omega)
       omega)
    | (have q1 := (hE_0_2_1 (r_0 + 2) (by omega)).2 (by omega)
       omega)
    | (have q1 := (hE_0_2_1 (r_0 + 1) (by omega)).2 (by omega)
       omega)
    | (have q1 := (hE_0_2_1 (r_0 + 2) (by omega)).2 (by omega)
       have q2 := (hE_0_2_2 (r_0 + 2) (by omega)).2 (by omega)
       have q3 := (hE_0_2_3 (r_0 + 2) (by omega)).1 (by omega)
       omega)
    | (have q1 := (hE_0_2_1 (r_0 + 2) (by omega)).2 (by omega)
       have q2 := (hE_0_2_2 (r_0 + 2) (by omega)).2 (by omega)
       have q3 := (hE_0_2_3 (r_0 + 2) (by omega)).2 (by omega)
       omega)
set_option maxHeartbeats 4000000 in
theorem vc_Mo_met_32_4 (x2 : Int) (x5 : Int) (x6 : Int) (fault_0 : Int) (all_0 : Int → Int) (r_0 : Int) (k2 : (-1) ≤ x2 ∧ x2 ≤ 23) (k5 : 1 ≤ x5 ∧ x5 ≤ 5) (k6 : (-1) ≤ x6 ∧ x6 ≤ (-1)) (g1 : x5 = fault_0) (kz_0_8 : 0 ≤ fault_0 ∧ fault_0 ≤ 5) : MET (r_0) (fault_0) (all_0) (x2) (x6) := by
  first
    | (intro q; exfalso; omega)
    | exact fun _ => ‹MEN _ _ _ _›
def o_Mo_met_32 : or_T := (8, 7, [(0, (2, 0, 0, [165])), (2, (0, -1, 23, [])), (3, (0, 0, 2000, [])), (4, (0, 0, 2000, [])), (5, (0, 1, 5, [])), (6, (0, -1, -1, []))], [(9, [5, 0], [8])], [], [], [(20, [0, 3], [50, 3, 0, 8, 12, 11, 3, 7, 0, 2, 0, 1, 2, 0, 8, 3, 7, 1, 3, 2, 0, 12, 0, 0, 0, 6, 4, 2, 1, 1, 0, 1, 2, 0, 11]), (20, [0, 4], [50, 2, 0, 8, 11, 3, 7, 0, 2, 0, 1, 2, 0, 8, 0, 6, 4, 2, 1, 1, 0, 1, 2, 0, 11]), (20, [0, 6], [31, 1, -1, -1, 1, 8, 0, -1, 0, 0]), (20, [0, 2], [50, 2, 1, 8, 5, 2, 3, 7, 0, 2, 0, 1, 2, 0, 8, 3, 6, 0, 2, 1, 1, 0, -1, 0, 10, 3, 0, 2, 4, 3, 2, 0, 5, 0, 1, 0, 47]), (20, [0, 2, 6], [60, 2, 1, 240, 5, 8, 2])], [], [])
theorem oo_Mo_met_32 {kA : Nat → ClassId} : or_ok PRD kA GG o_Mo_met_32 := by
  refine or_mk fun A ta ws vs hD hth hl => ?_
  intro t0 r0 t2 k2 t3 k3 t4 k4 t5 k5 t6 k6 f1
  replace f1 := shm_143 f1
  have g1 : v_iv (n_v vs 5) = w_fi ws (n_v vs 0) 8 := congrArg v_iv f1
  have kz_0_8 := fdq_14 hD hth r0
  have kz_0_11 := fdq_273 hD hth r0
  have kz_0_12 := fdq_186 hD hth r0
  have nf0 : fc_1 PRD (20, [0, 3], [50, 3, 0, 8, 12, 11, 3, 7, 0, 2, 0, 1, 2, 0, 8, 3, 7, 1, 3, 2, 0, 12, 0, 0, 0, 6, 4, 2, 1, 1, 0, 1, 2, 0, 11]) ws (vs) := ⟨nf_in hl rfl, sgq_1660 (vc_Mo_met_32_0 (v_iv (n_v vs 3)) (v_iv (n_v vs 5)) (w_fi ws (n_v vs 0) 8) (w_fi ws (n_v vs 0) 11) (w_fi ws (n_v vs 0) 12) (w_fi ws (n_v vs 0) 5) k3 k5 g1 kz_0_8 kz_0_11 kz_0_12)⟩
  have nf1 : fc_1 PRD (20, [0, 4], [50, 2, 0, 8, 11, 3, 7, 0, 2, 0, 1, 2, 0, 8, 0, 6, 4, 2, 1, 1, 0, 1, 2, 0, 11]) ws (vs) := ⟨nf_in hl rfl, sgq_1659 (vc_Mo_met_32_1 (v_iv (n_v vs 4)) (v_iv (n_v vs 5)) (w_fi ws (n_v vs 0) 8) (w_fi ws (n_v vs 0) 11) (w_fi ws (n_v vs 0) 5) k4 k5 g1 kz_0_8 kz_0_11)⟩
  have nf2 : fc_1 PRD (20, [0, 6], [31, 1, -1, -1, 1, 8, 0, -1, 0, 0]) ws (vs) := ⟨nf_in hl rfl, sgq_1982 (vc_Mo_met_32_2 (v_iv (n_v vs 5)) (v_iv (n_v vs 6)) (w_fi ws (n_v vs 0) 8) (w_fi ws (n_v vs 0) 5) k5 k6 g1 kz_0_8)⟩
  have nf3 : fc_1 PRD (20, [0, 2], [50, 2, 1, 8, 5, 2, 3, 7, 0, 2, 0, 1, 2, 0, 8, 3, 6, 0, 2, 1, 1, 0, -1, 0, 10, 3, 0, 2, 4, 3, 2, 0, 5, 0, 1, 0, 47]) ws (vs) := ⟨nf_in hl rfl, sgq_1983 (vc_Mo_met_32_3 (v_iv (n_v vs 2)) (v_iv (n_v vs 5)) (w_fi ws (n_v vs 0) 8) (w_ei ws (w_ar ws (n_v vs 0) 2)) (w_fi ws (n_v vs 0) 5) k2 k5 g1 kz_0_8)⟩
  have nf4 : fc_1 PRD (20, [0, 2, 6], [60, 2, 1, 240, 5, 8, 2]) ws (vs) := ⟨nf_in hl rfl, sgq_1984 (vc_Mo_met_32_4 (v_iv (n_v vs 2)) (v_iv (n_v vs 5)) (v_iv (n_v vs 6)) (w_fi ws (n_v vs 0) 8) (w_ei ws (w_ar ws (n_v vs 0) 2)) (w_fi ws (n_v vs 0) 5) k2 k5 k6 g1 kz_0_8)⟩
  refine ⟨(fun _ h => (by cases h)), [], trivial, ?_, (fun _ h => (by cases h))⟩
  rw [List.append_nil]
  exact List.forall_mem_cons.mpr ⟨⟨show (20 : Nat) < 100 from by decide, nf0⟩, List.forall_mem_cons.mpr ⟨⟨show (20 : Nat) < 100 from by decide, nf1⟩, List.forall_mem_cons.mpr ⟨⟨show (20 : Nat) < 100 from by decide, nf2⟩, List.forall_mem_cons.mpr ⟨⟨show (20 : Nat) < 100 from by decide, nf3⟩, List.forall_mem_cons.mpr ⟨⟨show (20 : Nat) < 100 from by decide, nf4⟩, (fun _ h => (by cases h))⟩⟩⟩⟩⟩
set_option maxHeartbeats 4000000 in
theorem vc_Mo_met_33_0 (x1 : Int) (x2 : Int) (x7 : Int) (x8 : Int) (x15 : Int) (x17 : Int) (x18 : Int) (x19 : Int) (x21 : Int) (x22 : Int) (from_0 : Int) (pos_0 : Int) (kind_0 : Int) (r_1 : Int) (from_1 : Int) (pos_1 : Int) (kind_1 : Int) (from_2 : Int) (pos_2 : Int) (kind_2 : Int) (all_2 : Int → Int) (r_2 : Int) (now_2 : Int → Int) (latest_2 : Int → Int) (r_0 : Int) (all_0 : Int → Int) (all_1 : Int → Int) (now_0 : Int → Int) (now_1 : Int → Int) (latest_0 : Int → Int) (latest_1 : Int → Int) (k1 : 0 ≤ x1 ∧ x1 ≤ 7) (k2 : (-1) ≤ x2 ∧ x2 ≤ 23) (k7 : (-1) ≤ x7 ∧ x7 ≤ 23) (k8 : 0 ≤ x8 ∧ x8 ≤ 23) (k15 : 0 ≤ x15 ∧ x15 ≤ 66297) (k17 : 219 ≤ x17 ∧ x17 ≤ 66516) (k18 : 219 ≤ x18 ∧ x18 ≤ 66539) (k19 : 1 ≤ x19 ∧ x19 ≤ 1) (k21 : 243 ≤ x21 ∧ x21 ≤ 66540) (k22 : 243 ≤ x22 ∧ x22 ≤ 66563) (d3 : x15 + 243 ≤ x21 ∧ x21 ≤ x15 + 243) (d7 : x15 + 219 ≤ x17 ∧ x17 ≤ x15 + 219) (d11 : x7 + (-4294967296) ≤ x2 ∧ x2 ≤ x7 + 0) (d13 : x2 + (-4294967296) ≤ x7 ∧ x7 ≤ x2 + 0) (f4 : kind_0 = 1) (f9 : x22 = x21 + x8) (g11 : x15 = r_1) (f19 : x18 = x17 + x8) (f26 : ((kind_2 = 1) → (pos_2 ≤ (from_2 + 8))) ∧ ((kind_2 = 0) ∨ ((from_2 + 1) ≤ pos_2))) (f30 : (x2 ≤ (-1)) ∨ (all_2 ((r_2 + 1)) ≤ 47)) (fe_0_5_1 : r_0 = r_1) (fe_0_11_1 : pos_0 = pos_1) (fe_0_12_1 : kind_0 = kind_1) (fe_0_15_1 : from_0 = from_1) (fe_0_5_2 : r_1 = r_2) (fe_0_11_2 : pos_1 = pos_2) (fe_0_12_2 : kind_1 = kind_2) (fe_0_15_2 : from_1 = from_2) (hE_0_2_1 : ∀ j : Int, 0 ≤ j → (j = x22 → all_0 j = x1) ∧ (j ≠ x22 → all_0 j = all_1 j)) (hE_0_2_2 : ∀ j : Int, 0 ≤ j → (j = x18 → all_1 j = x19) ∧ (j ≠ x18 → all_1 j = all_2 j)) (hE_0_3_1 : ∀ j : Int, now_0 j = now_1 j) (hE_0_3_2 : ∀ j : Int, now_1 j = now_2 j) (hE_0_4_1 : ∀ j : Int, latest_0 j = latest_1 j) (hE_0_4_2 : ∀ j : Int, latest_1 j = latest_2 j) (kz_0_11 : 0 ≤ pos_0 ∧ pos_0 ≤ 2000) (kz_0_12 : 0 ≤ kind_0 ∧ kind_0 ≤ 4) (kz_0_15 : 0 ≤ from_0 ∧ from_0 ≤ 2000) : (x2 ≤ (-1)) ∨ (all_0 ((r_0 + 1)) ≤ 47) := by
  subst fe_0_5_1
  subst fe_0_11_1
  subst fe_0_12_1
  subst fe_0_15_1
  subst fe_0_5_2
  subst fe_0_11_2
  subst fe_0_12_2
  subst fe_0_15_2
  have e_hE_0_3_1 := funext hE_0_3_1; subst e_hE_0_3_1
  have e_hE_0_3_2 := funext hE_0_3_2; subst e_hE_0_3_2
  have e_hE_0_4_1 := funext hE_0_4_1; subst e_hE_0_4_1
  have e_hE_0_4_2 := funext hE_0_4_2; subst e_hE_0_4_2
  first
    | omega
    | (have q1 := (hE_0_2_1 (r_0 + 2) (by omega)).2 (by omega)
       have q2 := (hE_0_2_2 (r_0 + 2) (by omega)).2 (by omega)
       omega)
    | (have q1 := (hE_0_2_1 (r_0 + 1) (by omega)).2 (by omega)
       have q2 := (hE_0_2_2 (r_0 + 1) (by omega)).2 (by omega)
       omega)
    | (have q1 := (hE_0_2_1 (r_0 + 2) (by omega)).2 (by omega)
       omega)
    | (have q1 := (hE_0_2_1 (r_0 + 1) (by omega)).2 (by omega)
       omega)
    | (have q1 := (hE_0_2_1 (r_0 + 2) (by omega)).2 (by omega)
       have q2 := (hE_0_2_2 (r_0 + 2) (by omega)).2 (by omega)
       have q3 := (hE_0_2_3 (r_0 + 2) (by omega)).1 (by omega)
       omega)
    | (have q1 := (hE_0_2_1 (r_0 + 2) (by omega)).2 (by omega)
       have q2 := (hE_0_2_2 (r_0 + 2) (by omega)).2 (by omega)
       have q3 := (hE_0_2_3 (r_0 + 2) (by omega)).2 (by omega)
       omega)
set_option maxHeartbeats 4000000 in
theorem vc_Mo_met_33_1 (x1 : Int) (x6 : Int) (x8 : Int) (x15 : Int) (x17 : Int) (x18 : Int) (x19 : Int) (x21 : Int) (x22 : Int) (from_0 : Int) (pos_0 : Int) (kind_0 : Int) (r_1 : Int) (from_1 : Int) (pos_1 : Int) (kind_1 : Int) (from_2 : Int) (pos_2 : Int) (kind_2 : Int) (all_2 : Int → Int) (r_2 : Int) (now_2 : Int → Int) (latest_2 : Int → Int) (r_0 : Int) (all_0 : Int → Int) (all_1 : Int → Int) (now_0 : Int → Int) (now_1 : Int → Int) (latest_0 : Int → Int) (latest_1 : Int → Int) (k1 : 0 ≤ x1 ∧ x1 ≤ 7) (k6 : 0 ≤ x6 ∧ x6 ≤ 7) (k8 : 0 ≤ x8 ∧ x8 ≤ 23) (k15 : 0 ≤ x15 ∧ x15 ≤ 66297) (k17 : 219 ≤ x17 ∧ x17 ≤ 66516) (k18 : 219 ≤ x18 ∧ x18 ≤ 66539) (k19 : 1 ≤ x19 ∧ x19 ≤ 1) (k21 : 243 ≤ x21 ∧ x21 ≤ 66540) (k22 : 243 ≤ x22 ∧ x22 ≤ 66563) (d3 : x15 + 243 ≤ x21 ∧ x21 ≤ x15 + 243) (d7 : x15 + 219 ≤ x17 ∧ x17 ≤ x15 + 219) (d10 : x6 + (-4294967296) ≤ x1 ∧ x1 ≤ x6 + 0) (d12 : x1 + (-4294967296) ≤ x6 ∧ x6 ≤ x1 + 0) (f9 : x22 = x21 + x8) (g11 : x15 = r_1) (f19 : x18 = x17 + x8) (f31 : (x1 + 1) ≤ all_2 ((r_2 + 2))) (fe_0_5_1 : r_0 = r_1) (fe_0_11_1 : pos_0 = pos_1) (fe_0_12_1 : kind_0 = kind_1) (fe_0_15_1 : from_0 = from_1) (fe_0_5_2 : r_1 = r_2) (fe_0_11_2 : pos_1 = pos_2) (fe_0_12_2 : kind_1 = kind_2) (fe_0_15_2 : from_1 = from_2) (hE_0_2_1 : ∀ j : Int, 0 ≤ j → (j = x22 → all_0 j = x1) ∧ (j ≠ x22 → all_0 j = all_1 j)) (hE_0_2_2 : ∀ j : Int, 0 ≤ j → (j = x18 → all_1 j = x19) ∧ (j ≠ x18 → all_1 j = all_2 j)) (hE_0_3_1 : ∀ j : Int, now_0 j = now_1 j) (hE_0_3_2 : ∀ j : Int, now_1 j = now_2 j) (hE_0_4_1 : ∀ j : Int, latest_0 j = latest_1 j) (hE_0_4_2 : ∀ j : Int, latest_1 j = latest_2 j) (kz_0_11 : 0 ≤ pos_0 ∧ pos_0 ≤ 2000) (kz_0_12 : 0 ≤ kind_0 ∧ kind_0 ≤ 4) (kz_0_15 : 0 ≤ from_0 ∧ from_0 ≤ 2000) : (x1 + 1) ≤ all_0 ((r_0 + 2)) := by
  subst fe_0_5_1
  subst fe_0_11_1
  subst fe_0_12_1
  subst fe_0_15_1
  subst fe_0_5_2
  subst fe_0_11_2
  subst fe_0_12_2
  subst fe_0_15_2
  have e_hE_0_3_1 := funext hE_0_3_1; subst e_hE_0_3_1
  have e_hE_0_3_2 := funext hE_0_3_2; subst e_hE_0_3_2
  have e_hE_0_4_1 := funext hE_0_4_1; subst e_hE_0_4_1
  have e_hE_0_4_2 := funext hE_0_4_2; subst e_hE_0_4_2
  first
    | omega
    | (have q1 := (hE_0_2_1 (r_0 + 2) (by omega)).2 (by omega)
       have q2 := (hE_0_2_2 (r_0 + 2) (by omega)).2 (by omega)
       omega)
    | (have q1 := (hE_0_2_1 (r_0 + 1) (by omega)).2 (by omega)
       have q2 := (hE_0_2_2 (r_0 + 1) (by omega)).2 (by omega)
       omega)
    | (have q1 := (hE_0_2_1 (r_0 + 2) (by omega)).2 (by omega)
       omega)
    | (have q1 := (hE_0_2_1 (r_0 + 1) (by omega)).2 (by omega)
       omega)
    | (have q1 := (hE_0_2_1 (r_0 + 2) (by omega)).2 (by omega)
       have q2 := (hE_0_2_2 (r_0 + 2) (by omega)).2 (by omega)
       have q3 := (hE_0_2_3 (r_0 + 2) (by omega)).1 (by omega)
       omega)
    | (have q1 := (hE_0_2_1 (r_0 + 2) (by omega)).2 (by omega)
       have q2 := (hE_0_2_2 (r_0 + 2) (by omega)).2 (by omega)
       have q3 := (hE_0_2_3 (r_0 + 2) (by omega)).2 (by omega)
       omega)
set_option maxHeartbeats 4000000 in
theorem vc_Mo_met_33_2 (x1 : Int) (x2 : Int) (x8 : Int) (x15 : Int) (x17 : Int) (x18 : Int) (x19 : Int) (x21 : Int) (x22 : Int) (from_0 : Int) (pos_0 : Int) (kind_0 : Int) (r_1 : Int) (from_1 : Int) (pos_1 : Int) (kind_1 : Int) (from_2 : Int) (pos_2 : Int) (kind_2 : Int) (all_2 : Int → Int) (r_2 : Int) (now_2 : Int → Int) (latest_2 : Int → Int) (r_0 : Int) (all_0 : Int → Int) (all_1 : Int → Int) (now_0 : Int → Int) (now_1 : Int → Int) (latest_0 : Int → Int) (latest_1 : Int → Int) (k1 : 0 ≤ x1 ∧ x1 ≤ 7) (k2 : (-1) ≤ x2 ∧ x2 ≤ 23) (k8 : 0 ≤ x8 ∧ x8 ≤ 23) (k15 : 0 ≤ x15 ∧ x15 ≤ 66297) (k17 : 219 ≤ x17 ∧ x17 ≤ 66516) (k18 : 219 ≤ x18 ∧ x18 ≤ 66539) (k19 : 1 ≤ x19 ∧ x19 ≤ 1) (k21 : 243 ≤ x21 ∧ x21 ≤ 66540) (k22 : 243 ≤ x22 ∧ x22 ≤ 66563) (d3 : x15 + 243 ≤ x21 ∧ x21 ≤ x15 + 243) (d7 : x15 + 219 ≤ x17 ∧ x17 ≤ x15 + 219) (f9 : x22 = x21 + x8) (g11 : x15 = r_1) (f19 : x18 = x17 + x8) (f32 : RWN (r_2) (all_2) (now_2) (latest_2) (x8)) (f33 : MEN (r_2) (all_2) (x2) (x8)) (fe_0_5_1 : r_0 = r_1) (fe_0_11_1 : pos_0 = pos_1) (fe_0_12_1 : kind_0 = kind_1) (fe_0_15_1 : from_0 = from_1) (fe_0_5_2 : r_1 = r_2) (fe_0_11_2 : pos_1 = pos_2) (fe_0_12_2 : kind_1 = kind_2) (fe_0_15_2 : from_1 = from_2) (hE_0_2_1 : ∀ j : Int, 0 ≤ j → (j = x22 → all_0 j = x1) ∧ (j ≠ x22 → all_0 j = all_1 j)) (hE_0_2_2 : ∀ j : Int, 0 ≤ j → (j = x18 → all_1 j = x19) ∧ (j ≠ x18 → all_1 j = all_2 j)) (hE_0_3_1 : ∀ j : Int, now_0 j = now_1 j) (hE_0_3_2 : ∀ j : Int, now_1 j = now_2 j) (hE_0_4_1 : ∀ j : Int, latest_0 j = latest_1 j) (hE_0_4_2 : ∀ j : Int, latest_1 j = latest_2 j) (kz_0_11 : 0 ≤ pos_0 ∧ pos_0 ≤ 2000) (kz_0_12 : 0 ≤ kind_0 ∧ kind_0 ≤ 4) (kz_0_15 : 0 ≤ from_0 ∧ from_0 ≤ 2000) : RWS (r_0) (all_0) (now_0) (latest_0) := by
  subst fe_0_5_1
  subst fe_0_11_1
  subst fe_0_12_1
  subst fe_0_15_1
  subst fe_0_5_2
  subst fe_0_11_2
  subst fe_0_12_2
  subst fe_0_15_2
  have e_hE_0_3_1 := funext hE_0_3_1; subst e_hE_0_3_1
  have e_hE_0_3_2 := funext hE_0_3_2; subst e_hE_0_3_2
  have e_hE_0_4_1 := funext hE_0_4_1; subst e_hE_0_4_1
  have e_hE_0_4_2 := funext hE_0_4_2; subst e_hE_0_4_2
  try simp only [Int.add_zero] at *
  first
    | assumption
    | (exfalso; omega)
    | (have hr := rwn_r ‹RWN _ _ _ _ _›
       have hb := ‹MEN _ _ _ _›.1
       exact rws_off (rwn_fin ‹RWN _ _ _ _ _› (by assumption) (by omega) (by omega)) (by assumption) (by omega))
set_option maxHeartbeats 4000000 in
theorem vc_Mo_met_33_3 (x1 : Int) (x2 : Int) (x8 : Int) (x15 : Int) (x17 : Int) (x18 : Int) (x19 : Int) (x21 : Int) (x22 : Int) (from_0 : Int) (pos_0 : Int) (kind_0 : Int) (r_1 : Int) (from_1 : Int) (pos_1 : Int) (kind_1 : Int) (from_2 : Int) (pos_2 : Int) (kind_2 : Int) (all_2 : Int → Int) (r_2 : Int) (now_2 : Int → Int) (latest_2 : Int → Int) (r_0 : Int) (all_0 : Int → Int) (all_1 : Int → Int) (now_0 : Int → Int) (now_1 : Int → Int) (latest_0 : Int → Int) (latest_1 : Int → Int) (k1 : 0 ≤ x1 ∧ x1 ≤ 7) (k2 : (-1) ≤ x2 ∧ x2 ≤ 23) (k8 : 0 ≤ x8 ∧ x8 ≤ 23) (k15 : 0 ≤ x15 ∧ x15 ≤ 66297) (k17 : 219 ≤ x17 ∧ x17 ≤ 66516) (k18 : 219 ≤ x18 ∧ x18 ≤ 66539) (k19 : 1 ≤ x19 ∧ x19 ≤ 1) (k21 : 243 ≤ x21 ∧ x21 ≤ 66540) (k22 : 243 ≤ x22 ∧ x22 ≤ 66563) (d3 : x15 + 243 ≤ x21 ∧ x21 ≤ x15 + 243) (d7 : x15 + 219 ≤ x17 ∧ x17 ≤ x15 + 219) (f9 : x22 = x21 + x8) (g11 : x15 = r_1) (f19 : x18 = x17 + x8) (f32 : RWN (r_2) (all_2) (now_2) (latest_2) (x8)) (f33 : MEN (r_2) (all_2) (x2) (x8)) (fe_0_5_1 : r_0 = r_1) (fe_0_11_1 : pos_0 = pos_1) (fe_0_12_1 : kind_0 = kind_1) (fe_0_15_1 : from_0 = from_1) (fe_0_5_2 : r_1 = r_2) (fe_0_11_2 : pos_1 = pos_2) (fe_0_12_2 : kind_1 = kind_2) (fe_0_15_2 : from_1 = from_2) (hE_0_2_1 : ∀ j : Int, 0 ≤ j → (j = x22 → all_0 j = x1) ∧ (j ≠ x22 → all_0 j = all_1 j)) (hE_0_2_2 : ∀ j : Int, 0 ≤ j → (j = x18 → all_1 j = x19) ∧ (j ≠ x18 → all_1 j = all_2 j)) (hE_0_3_1 : ∀ j : Int, now_0 j = now_1 j) (hE_0_3_2 : ∀ j : Int, now_1 j = now_2 j) (hE_0_4_1 : ∀ j : Int, latest_0 j = latest_1 j) (hE_0_4_2 : ∀ j : Int, latest_1 j = latest_2 j) (kz_0_11 : 0 ≤ pos_0 ∧ pos_0 ≤ 2000) (kz_0_12 : 0 ≤ kind_0 ∧ kind_0 ≤ 4) (kz_0_15 : 0 ≤ from_0 ∧ from_0 ≤ 2000) : MEN (r_0) (all_0) (x2) (x8) := by
  subst fe_0_5_1
  subst fe_0_11_1
  subst fe_0_12_1
  subst fe_0_15_1
  subst fe_0_5_2
  subst fe_0_11_2
  subst fe_0_12_2
  subst fe_0_15_2
  have e_hE_0_3_1 := funext hE_0_3_1; subst e_hE_0_3_1
  have e_hE_0_3_2 := funext hE_0_3_2; subst e_hE_0_3_2
  have e_hE_0_4_1 := funext hE_0_4_1; subst e_hE_0_4_1
  have e_hE_0_4_2 := funext hE_0_4_2; subst e_hE_0_4_2
  try simp only [Int.add_zero] at *
  first
    | (exfalso; omega)
    | (have hr := rwn_r ‹RWN _ _ _ _ _›
       have hb := ‹MEN _ _ _ _›.1
       exact men_off (by omega) (men_off (by omega) ‹MEN _ _ _ _› (by assumption) (by omega)) (by assumption) (by omega))
    | exact men_old ‹RWS _ _ _ _› ‹NDB _ _ _› (by omega) ‹MEB _ _ _› (Or.inl (by omega))
    | exact men_old ‹RWS _ _ _ _› ‹NDB _ _ _› (by omega) ‹MEB _ _ _› (Or.inr ⟨by omega, ‹BTP _ _ _ _ _› (by omega), by omega⟩)
set_option maxHeartbeats 4000000 in
theorem vc_Mo_met_33_4 (x1 : Int) (x18 : Int) (x19 : Int) (x22 : Int) (from_0 : Int) (pos_0 : Int) (kind_0 : Int) (r_1 : Int) (from_1 : Int) (pos_1 : Int) (kind_1 : Int) (from_2 : Int) (pos_2 : Int) (kind_2 : Int) (all_2 : Int → Int) (r_2 : Int) (now_2 : Int → Int) (latest_2 : Int → Int) (r_0 : Int) (all_0 : Int → Int) (all_1 : Int → Int) (now_0 : Int → Int) (now_1 : Int → Int) (latest_0 : Int → Int) (latest_1 : Int → Int) (gx : Int) (k1 : 0 ≤ x1 ∧ x1 ≤ 7) (k18 : 219 ≤ x18 ∧ x18 ≤ 66539) (k19 : 1 ≤ x19 ∧ x19 ≤ 1) (k22 : 243 ≤ x22 ∧ x22 ≤ 66563) (fe_0_5_1 : r_0 = r_1) (fe_0_11_1 : pos_0 = pos_1) (fe_0_12_1 : kind_0 = kind_1) (fe_0_15_1 : from_0 = from_1) (fe_0_5_2 : r_1 = r_2) (fe_0_11_2 : pos_1 = pos_2) (fe_0_12_2 : kind_1 = kind_2) (fe_0_15_2 : from_1 = from_2) (hE_0_2_1 : ∀ j : Int, 0 ≤ j → (j = x22 → all_0 j = x1) ∧ (j ≠ x22 → all_0 j = all_1 j)) (hE_0_2_2 : ∀ j : Int, 0 ≤ j → (j = x18 → all_1 j = x19) ∧ (j ≠ x18 → all_1 j = all_2 j)) (hE_0_3_1 : ∀ j : Int, now_0 j = now_1 j) (hE_0_3_2 : ∀ j : Int, now_1 j = now_2 j) (hE_0_4_1 : ∀ j : Int, latest_0 j = latest_1 j) (hE_0_4_2 : ∀ j : Int, latest_1 j = latest_2 j) (kz_0_11 : 0 ≤ pos_0 ∧ pos_0 ≤ 2000) (kz_0_12 : 0 ≤ kind_0 ∧ kind_0 ≤ 4) (kz_0_15 : 0 ≤ from_0 ∧ from_0 ≤ 2000) (ex2 : gx = pos_0) : 1 * gx + ((-1) * pos_0 + 0) ≤ 0 := by
  subst fe_0_5_1
  subst fe_0_11_1
  subst fe_0_12_1
  subst fe_0_15_1
  subst fe_0_5_2
  subst fe_0_11_2
  subst fe_0_12_2
  subst fe_0_15_2
  have e_hE_0_3_1 := funext hE_0_3_1; subst e_hE_0_3_1
  have e_hE_0_3_2 := funext hE_0_3_2; subst e_hE_0_3_2
  have e_hE_0_4_1 := funext hE_0_4_1; subst e_hE_0_4_1
  have e_hE_0_4_2 := funext hE_0_4_2; subst e_hE_0_4_2
  first
    | omega
    | (have q1 := (hE_0_2_1 (r_0 + 2) (by omega)).2 (by omega)
       have q2 := (hE_0_2_2 (r_0 + 2) (by omega)).2 (by omega)
       omega)
    | (have q1 := (hE_0_2_1 (r_0 + 1) (by omega)).2 (by omega)
       have q2 := (hE_0_2_2 (r_0 + 1) (by omega)).2 (by omega)
       omega)
    | (have q1 := (hE_0_2_1 (r_0 + 2) (by omega)).2 (by omega)
       omega)
    | (have q1 := (hE_0_2_1 (r_0 + 1) (by omega)).2 (by omega)
       omega)
    | (have q1 := (hE_0_2_1 (r_0 + 2) (by omega)).2 (by omega)
       have q2 := (hE_0_2_2 (r_0 + 2) (by omega)).2 (by omega)
       have q3 := (hE_0_2_3 (r_0 + 2) (by omega)).1 (by omega)
       omega)
    | (have q1 := (hE_0_2_1 (r_0 + 2) (by omega)).2 (by omega)
       have q2 := (hE_0_2_2 (r_0 + 2) (by omega)).2 (by omega)
       have q3 := (hE_0_2_3 (r_0 + 2) (by omega)).2 (by omega)
       omega)
