theorem oo_Re_append_at_g2_4 {kA : Nat → ClassId} : or_ok PRD kA GG o_Re_append_at_g2_4 := by
  refine or_mk fun A ta ws vs hD hth hl => ?_
  intro t0 r0 t1 k1 t2 k2 t3 r3 t4 k4 t6 r6 t7 k7 t8 k8 t9 k9 t11 k11 t13 k13 t14 k14 t16 k16 t18 k18 t19 k19 t21 k21 t23 k23 t24 k24 t26 k26 d0 d1 d2 d3 d4 d5 d6 d7 d8 d9 f0 f1 ta1 w1 le1 s1 f4 ta2 w2 le2 s2 f6 f7 ta3 w3 le3 s3 f10 ta4 w4 le4 s4 f12 f13 ta5 w5 le5 s5 f16 ta6 w6 le6 s6 f18 f19 ta7 w7 le7 s7 f22 f23 f24 ta8 w8 le8 s8 f26 f27 f30
  replace f0 := shm_215 f0
  replace f1 := shm_163 f1
  have s1 : (∀ b j, w_el ws b j = w_el w1 b j) ∧ ∀ b j, w_fd ws b j = if b = v_ad (n_v vs 0) ∧ j = 1 then n_v vs 26 else w_fd w1 b j := s1.2
  replace f4 := shm_215 f4
  have s2 : (∀ b j, w_el w1 b j = if b = v_ad (n_v vs 6) ∧ j = (v_iv (n_v vs 21)).toNat then v_iv (n_v vs 24) else w_el w2 b j) ∧ ∀ b k, w_fd w1 b k = w_fd w2 b k := s2.2
  have s3 : (∀ b j, w_el w2 b j = w_el w3 b j) ∧ ∀ b j, w_fd w2 b j = if b = v_ad (n_v vs 0) ∧ j = 1 then n_v vs 21 else w_fd w3 b j := s3.2
  replace f10 := shm_215 f10
  have s4 : (∀ b j, w_el w3 b j = if b = v_ad (n_v vs 6) ∧ j = (v_iv (n_v vs 16)).toNat then v_iv (n_v vs 19) else w_el w4 b j) ∧ ∀ b k, w_fd w3 b k = w_fd w4 b k := s4.2
  have s5 : (∀ b j, w_el w4 b j = w_el w5 b j) ∧ ∀ b j, w_fd w4 b j = if b = v_ad (n_v vs 0) ∧ j = 1 then n_v vs 16 else w_fd w5 b j := s5.2
  replace f16 := shm_215 f16
  have s6 : (∀ b j, w_el w5 b j = if b = v_ad (n_v vs 6) ∧ j = (v_iv (n_v vs 11)).toNat then v_iv (n_v vs 14) else w_el w6 b j) ∧ ∀ b k, w_fd w5 b k = w_fd w6 b k := s6.2
  have s7 : (∀ b j, w_el w6 b j = w_el w7 b j) ∧ ∀ b j, w_fd w6 b j = if b = v_ad (n_v vs 0) ∧ j = 1 then n_v vs 11 else w_fd w7 b j := s7.2
  replace f22 := shm_215 f22
  have s8 : (∀ b j, w_el w7 b j = if b = v_ad (n_v vs 6) ∧ j = (v_iv (n_v vs 7)).toNat then v_iv (n_v vs 9) else w_el w8 b j) ∧ ∀ b k, w_fd w7 b k = w_fd w8 b k := s8.2
  replace f30 := shm_446 f30
  have ar_0_0_1 : w_ar w1 (n_v vs 0) 0 = w_ar ws (n_v vs 0) 0 := by show v_ad (w_fd w1 _ _) = v_ad (w_fd ws _ _); rw [s1.2, if_neg (fun e => absurd e.2 (by decide))]
  have ar_0_0_2 : w_ar w2 (n_v vs 0) 0 = w_ar ws (n_v vs 0) 0 := by rw [← ar_0_0_1]; show v_ad (w_fd w2 _ _) = v_ad (w_fd w1 _ _); rw [s2.2]
  have ar_0_0_3 : w_ar w3 (n_v vs 0) 0 = w_ar ws (n_v vs 0) 0 := by rw [← ar_0_0_2]; show v_ad (w_fd w3 _ _) = v_ad (w_fd w2 _ _); rw [s3.2, if_neg (fun e => absurd e.2 (by decide))]
  have ar_0_0_4 : w_ar w4 (n_v vs 0) 0 = w_ar ws (n_v vs 0) 0 := by rw [← ar_0_0_3]; show v_ad (w_fd w4 _ _) = v_ad (w_fd w3 _ _); rw [s4.2]
  have ar_0_0_5 : w_ar w5 (n_v vs 0) 0 = w_ar ws (n_v vs 0) 0 := by rw [← ar_0_0_4]; show v_ad (w_fd w5 _ _) = v_ad (w_fd w4 _ _); rw [s5.2, if_neg (fun e => absurd e.2 (by decide))]
  have ar_0_0_6 : w_ar w6 (n_v vs 0) 0 = w_ar ws (n_v vs 0) 0 := by rw [← ar_0_0_5]; show v_ad (w_fd w6 _ _) = v_ad (w_fd w5 _ _); rw [s6.2]
  have ar_0_0_7 : w_ar w7 (n_v vs 0) 0 = w_ar ws (n_v vs 0) 0 := by rw [← ar_0_0_6]; show v_ad (w_fd w7 _ _) = v_ad (w_fd w6 _ _); rw [s7.2, if_neg (fun e => absurd e.2 (by decide))]
  have ar_0_0_8 : w_ar w8 (n_v vs 0) 0 = w_ar ws (n_v vs 0) 0 := by rw [← ar_0_0_7]; show v_ad (w_fd w8 _ _) = v_ad (w_fd w7 _ _); rw [s8.2]
  have cr_0_0 := fdq_95 hD hth r0
  have ar_3_1_1 : w_ar w1 (n_v vs 3) 1 = w_ar ws (n_v vs 3) 1 := by show v_ad (w_fd w1 _ _) = v_ad (w_fd ws _ _); rw [s1.2, if_neg (fun e => by have e1 := e.1; have e2 := r3; rw [e1, r0] at e2; exact absurd (Option.some.inj e2) (by decide))]
  have ar_3_1_2 : w_ar w2 (n_v vs 3) 1 = w_ar ws (n_v vs 3) 1 := by rw [← ar_3_1_1]; show v_ad (w_fd w2 _ _) = v_ad (w_fd w1 _ _); rw [s2.2]
  have ar_3_1_3 : w_ar w3 (n_v vs 3) 1 = w_ar ws (n_v vs 3) 1 := by rw [← ar_3_1_2]; show v_ad (w_fd w3 _ _) = v_ad (w_fd w2 _ _); rw [s3.2, if_neg (fun e => by have e1 := e.1; have e2 := r3; rw [e1, r0] at e2; exact absurd (Option.some.inj e2) (by decide))]
  have ar_3_1_4 : w_ar w4 (n_v vs 3) 1 = w_ar ws (n_v vs 3) 1 := by rw [← ar_3_1_3]; show v_ad (w_fd w4 _ _) = v_ad (w_fd w3 _ _); rw [s4.2]
  have ar_3_1_5 : w_ar w5 (n_v vs 3) 1 = w_ar ws (n_v vs 3) 1 := by rw [← ar_3_1_4]; show v_ad (w_fd w5 _ _) = v_ad (w_fd w4 _ _); rw [s5.2, if_neg (fun e => by have e1 := e.1; have e2 := r3; rw [e1, r0] at e2; exact absurd (Option.some.inj e2) (by decide))]
  have ar_3_1_6 : w_ar w6 (n_v vs 3) 1 = w_ar ws (n_v vs 3) 1 := by rw [← ar_3_1_5]; show v_ad (w_fd w6 _ _) = v_ad (w_fd w5 _ _); rw [s6.2]
  have ar_3_1_7 : w_ar w7 (n_v vs 3) 1 = w_ar ws (n_v vs 3) 1 := by rw [← ar_3_1_6]; show v_ad (w_fd w7 _ _) = v_ad (w_fd w6 _ _); rw [s7.2, if_neg (fun e => by have e1 := e.1; have e2 := r3; rw [e1, r0] at e2; exact absurd (Option.some.inj e2) (by decide))]
  have ar_3_1_8 : w_ar w8 (n_v vs 3) 1 = w_ar ws (n_v vs 3) 1 := by rw [← ar_3_1_7]; show v_ad (w_fd w8 _ _) = v_ad (w_fd w7 _ _); rw [s8.2]
  have cr_3_1 := fdq_39 hD hth r3
  have ad_6 : v_ad (n_v vs 6) = w_ar ws (n_v vs 0) 0 := congrArg v_ad f1
  have g0 : v_iv (n_v vs 26) = w_fi ws (n_v vs 0) 1 := congrArg v_iv f0
  have g4 : v_iv (n_v vs 21) = w_fi w1 (n_v vs 0) 1 := congrArg v_iv f4
  have g10 : v_iv (n_v vs 16) = w_fi w3 (n_v vs 0) 1 := congrArg v_iv f10
  have g16 : v_iv (n_v vs 11) = w_fi w5 (n_v vs 0) 1 := congrArg v_iv f16
  have g22 : v_iv (n_v vs 7) = w_fi w7 (n_v vs 0) 1 := congrArg v_iv f22
  simp only [ar_0_0_8, ar_3_1_8] at f30
  have fe_0_1_2 : w_fi w1 (n_v vs 0) 1 = w_fi w2 (n_v vs 0) 1 := congrArg v_iv (s2.2 _ _)
  have fe_0_1_4 : w_fi w3 (n_v vs 0) 1 = w_fi w4 (n_v vs 0) 1 := congrArg v_iv (s4.2 _ _)
  have fe_0_1_6 : w_fi w5 (n_v vs 0) 1 = w_fi w6 (n_v vs 0) 1 := congrArg v_iv (s6.2 _ _)
  have fe_0_1_8 : w_fi w7 (n_v vs 0) 1 = w_fi w8 (n_v vs 0) 1 := congrArg v_iv (s8.2 _ _)
  have hE_0_0_1 : ∀ j : Int, w_ei ws (w_ar ws (n_v vs 0) 0) j = w_ei w1 (w_ar ws (n_v vs 0) 0) j := fun j => s1.1 _ _
  have hE_0_0_2 : ∀ j : Int, 0 ≤ j → (j = v_iv (n_v vs 21) → w_ei w1 (w_ar ws (n_v vs 0) 0) j = v_iv (n_v vs 24)) ∧ (j ≠ v_iv (n_v vs 21) → w_ei w1 (w_ar ws (n_v vs 0) 0) j = w_ei w2 (w_ar ws (n_v vs 0) 0) j) := fun j hj => ⟨fun h => by unfold w_ei; rw [s2.1, if_pos ⟨ad_6.symm, by rw [h]⟩], fun h => by unfold w_ei; rw [s2.1, if_neg (fun e => h (by have := e.2; omega))]⟩
  have hE_0_0_3 : ∀ j : Int, w_ei w2 (w_ar ws (n_v vs 0) 0) j = w_ei w3 (w_ar ws (n_v vs 0) 0) j := fun j => s3.1 _ _
  have hE_0_0_4 : ∀ j : Int, 0 ≤ j → (j = v_iv (n_v vs 16) → w_ei w3 (w_ar ws (n_v vs 0) 0) j = v_iv (n_v vs 19)) ∧ (j ≠ v_iv (n_v vs 16) → w_ei w3 (w_ar ws (n_v vs 0) 0) j = w_ei w4 (w_ar ws (n_v vs 0) 0) j) := fun j hj => ⟨fun h => by unfold w_ei; rw [s4.1, if_pos ⟨ad_6.symm, by rw [h]⟩], fun h => by unfold w_ei; rw [s4.1, if_neg (fun e => h (by have := e.2; omega))]⟩
  have hE_0_0_5 : ∀ j : Int, w_ei w4 (w_ar ws (n_v vs 0) 0) j = w_ei w5 (w_ar ws (n_v vs 0) 0) j := fun j => s5.1 _ _
  have hE_0_0_6 : ∀ j : Int, 0 ≤ j → (j = v_iv (n_v vs 11) → w_ei w5 (w_ar ws (n_v vs 0) 0) j = v_iv (n_v vs 14)) ∧ (j ≠ v_iv (n_v vs 11) → w_ei w5 (w_ar ws (n_v vs 0) 0) j = w_ei w6 (w_ar ws (n_v vs 0) 0) j) := fun j hj => ⟨fun h => by unfold w_ei; rw [s6.1, if_pos ⟨ad_6.symm, by rw [h]⟩], fun h => by unfold w_ei; rw [s6.1, if_neg (fun e => h (by have := e.2; omega))]⟩
  have hE_0_0_7 : ∀ j : Int, w_ei w6 (w_ar ws (n_v vs 0) 0) j = w_ei w7 (w_ar ws (n_v vs 0) 0) j := fun j => s7.1 _ _
  have hE_0_0_8 : ∀ j : Int, 0 ≤ j → (j = v_iv (n_v vs 7) → w_ei w7 (w_ar ws (n_v vs 0) 0) j = v_iv (n_v vs 9)) ∧ (j ≠ v_iv (n_v vs 7) → w_ei w7 (w_ar ws (n_v vs 0) 0) j = w_ei w8 (w_ar ws (n_v vs 0) 0) j) := fun j hj => ⟨fun h => by unfold w_ei; rw [s8.1, if_pos ⟨ad_6.symm, by rw [h]⟩], fun h => by unfold w_ei; rw [s8.1, if_neg (fun e => h (by have := e.2; omega))]⟩
  have hK_0_0 := elq_33 hD hth cr_0_0
  have hE_3_1_1 : ∀ j : Int, w_ei ws (w_ar ws (n_v vs 3) 1) j = w_ei w1 (w_ar ws (n_v vs 3) 1) j := fun j => s1.1 _ _
  have hE_3_1_2 : ∀ j : Int, w_ei w1 (w_ar ws (n_v vs 3) 1) j = w_ei w2 (w_ar ws (n_v vs 3) 1) j := el_kp s2.1 r6 cr_3_1 (by decide)
  have hE_3_1_3 : ∀ j : Int, w_ei w2 (w_ar ws (n_v vs 3) 1) j = w_ei w3 (w_ar ws (n_v vs 3) 1) j := fun j => s3.1 _ _
  have hE_3_1_4 : ∀ j : Int, w_ei w3 (w_ar ws (n_v vs 3) 1) j = w_ei w4 (w_ar ws (n_v vs 3) 1) j := el_kp s4.1 r6 cr_3_1 (by decide)
  have hE_3_1_5 : ∀ j : Int, w_ei w4 (w_ar ws (n_v vs 3) 1) j = w_ei w5 (w_ar ws (n_v vs 3) 1) j := fun j => s5.1 _ _
  have hE_3_1_6 : ∀ j : Int, w_ei w5 (w_ar ws (n_v vs 3) 1) j = w_ei w6 (w_ar ws (n_v vs 3) 1) j := el_kp s6.1 r6 cr_3_1 (by decide)
  have hE_3_1_7 : ∀ j : Int, w_ei w6 (w_ar ws (n_v vs 3) 1) j = w_ei w7 (w_ar ws (n_v vs 3) 1) j := fun j => s7.1 _ _
  have hE_3_1_8 : ∀ j : Int, w_ei w7 (w_ar ws (n_v vs 3) 1) j = w_ei w8 (w_ar ws (n_v vs 3) 1) j := el_kp s8.1 r6 cr_3_1 (by decide)
  have hK_3_1 := elq_7 hD hth cr_3_1
  have kz_0_1 := fdq_96 hD hth r0
  have nf0 : fc_1 PRD (20, [0, 2], [30, 4, 1, 1, 1, -1, 0, 0]) ws (vs) := ⟨nf_in hl rfl, sgq_444 (vc_Re_append_at_g2_4_0 (v_iv (n_v vs 2)) (v_iv (n_v vs 7)) (v_iv (n_v vs 9)) (v_iv (n_v vs 11)) (v_iv (n_v vs 14)) (v_iv (n_v vs 16)) (v_iv (n_v vs 19)) (v_iv (n_v vs 21)) (v_iv (n_v vs 24)) (v_iv (n_v vs 26)) (w_fi ws (n_v vs 0) 1) (w_fi w1 (n_v vs 0) 1) (w_fi w3 (n_v vs 0) 1) (w_fi w5 (n_v vs 0) 1) (w_fi w7 (n_v vs 0) 1) (w_fi w8 (n_v vs 0) 1) (w_ei w8 (w_ar ws (n_v vs 0) 0)) (w_ei w8 (w_ar ws (n_v vs 3) 1)) (w_fi w2 (n_v vs 0) 1) (w_fi w4 (n_v vs 0) 1) (w_fi w6 (n_v vs 0) 1) (w_ei ws (w_ar ws (n_v vs 0) 0)) (w_ei w1 (w_ar ws (n_v vs 0) 0)) (w_ei w2 (w_ar ws (n_v vs 0) 0)) (w_ei w3 (w_ar ws (n_v vs 0) 0)) (w_ei w4 (w_ar ws (n_v vs 0) 0)) (w_ei w5 (w_ar ws (n_v vs 0) 0)) (w_ei w6 (w_ar ws (n_v vs 0) 0)) (w_ei w7 (w_ar ws (n_v vs 0) 0)) (w_ei ws (w_ar ws (n_v vs 3) 1)) (w_ei w1 (w_ar ws (n_v vs 3) 1)) (w_ei w2 (w_ar ws (n_v vs 3) 1)) (w_ei w3 (w_ar ws (n_v vs 3) 1)) (w_ei w4 (w_ar ws (n_v vs 3) 1)) (w_ei w5 (w_ar ws (n_v vs 3) 1)) (w_ei w6 (w_ar ws (n_v vs 3) 1)) (w_ei w7 (w_ar ws (n_v vs 3) 1)) k2 k7 k9 k11 k14 k16 k19 k21 k24 k26 d0 d1 d2 d3 g0 g4 g10 g16 g22 (shm_436 f23) (shm_437 f24) fe_0_1_2 fe_0_1_4 fe_0_1_6 fe_0_1_8 hE_0_0_1 hE_0_0_2 hE_0_0_3 hE_0_0_4 hE_0_0_5 hE_0_0_6 hE_0_0_7 hE_0_0_8 hK_0_0 hE_3_1_1 hE_3_1_2 hE_3_1_3 hE_3_1_4 hE_3_1_5 hE_3_1_6 hE_3_1_7 hE_3_1_8 hK_3_1 kz_0_1)⟩
  have nf1 : fc_1 PRD (20, [0, 2], [30, -4, -1, 1, 1, 1, 0, 0]) ws (vs) := ⟨nf_in hl rfl, sgq_445 (vc_Re_append_at_g2_4_1 (v_iv (n_v vs 2)) (v_iv (n_v vs 7)) (v_iv (n_v vs 9)) (v_iv (n_v vs 11)) (v_iv (n_v vs 14)) (v_iv (n_v vs 16)) (v_iv (n_v vs 19)) (v_iv (n_v vs 21)) (v_iv (n_v vs 24)) (v_iv (n_v vs 26)) (w_fi ws (n_v vs 0) 1) (w_fi w1 (n_v vs 0) 1) (w_fi w3 (n_v vs 0) 1) (w_fi w5 (n_v vs 0) 1) (w_fi w7 (n_v vs 0) 1) (w_fi w8 (n_v vs 0) 1) (w_ei w8 (w_ar ws (n_v vs 0) 0)) (w_ei w8 (w_ar ws (n_v vs 3) 1)) (w_fi w2 (n_v vs 0) 1) (w_fi w4 (n_v vs 0) 1) (w_fi w6 (n_v vs 0) 1) (w_ei ws (w_ar ws (n_v vs 0) 0)) (w_ei w1 (w_ar ws (n_v vs 0) 0)) (w_ei w2 (w_ar ws (n_v vs 0) 0)) (w_ei w3 (w_ar ws (n_v vs 0) 0)) (w_ei w4 (w_ar ws (n_v vs 0) 0)) (w_ei w5 (w_ar ws (n_v vs 0) 0)) (w_ei w6 (w_ar ws (n_v vs 0) 0)) (w_ei w7 (w_ar ws (n_v vs 0) 0)) (w_ei ws (w_ar ws (n_v vs 3) 1)) (w_ei w1 (w_ar ws (n_v vs 3) 1)) (w_ei w2 (w_ar ws (n_v vs 3) 1)) (w_ei w3 (w_ar ws (n_v vs 3) 1)) (w_ei w4 (w_ar ws (n_v vs 3) 1)) (w_ei w5 (w_ar ws (n_v vs 3) 1)) (w_ei w6 (w_ar ws (n_v vs 3) 1)) (w_ei w7 (w_ar ws (n_v vs 3) 1)) k2 k7 k9 k11 k14 k16 k19 k21 k24 k26 d0 d1 d2 d3 g0 g4 g10 g16 g22 (shm_436 f23) (shm_437 f24) fe_0_1_2 fe_0_1_4 fe_0_1_6 fe_0_1_8 hE_0_0_1 hE_0_0_2 hE_0_0_3 hE_0_0_4 hE_0_0_5 hE_0_0_6 hE_0_0_7 hE_0_0_8 hK_0_0 hE_3_1_1 hE_3_1_2 hE_3_1_3 hE_3_1_4 hE_3_1_5 hE_3_1_6 hE_3_1_7 hE_3_1_8 hK_3_1 kz_0_1)⟩
  have nf2 : fc_1 PRD (20, [0, 3, 4, 1], [60, 1, 2, 1103, 1, 0, 1001]) ws (vs) := ⟨nf_in hl rfl, sgq_447 (vc_Re_append_at_g2_4_2 (v_iv (n_v vs 1)) (v_iv (n_v vs 4)) (v_iv (n_v vs 7)) (v_iv (n_v vs 8)) (v_iv (n_v vs 9)) (v_iv (n_v vs 11)) (v_iv (n_v vs 13)) (v_iv (n_v vs 14)) (v_iv (n_v vs 16)) (v_iv (n_v vs 18)) (v_iv (n_v vs 19)) (v_iv (n_v vs 21)) (v_iv (n_v vs 23)) (v_iv (n_v vs 24)) (v_iv (n_v vs 26)) (w_fi ws (n_v vs 0) 1) (w_fi w1 (n_v vs 0) 1) (w_fi w3 (n_v vs 0) 1) (w_fi w5 (n_v vs 0) 1) (w_fi w7 (n_v vs 0) 1) (w_fi w8 (n_v vs 0) 1) (w_ei w8 (w_ar ws (n_v vs 0) 0)) (w_ei w8 (w_ar ws (n_v vs 3) 1)) (w_fi w2 (n_v vs 0) 1) (w_fi w4 (n_v vs 0) 1) (w_fi w6 (n_v vs 0) 1) (w_ei ws (w_ar ws (n_v vs 0) 0)) (w_ei w1 (w_ar ws (n_v vs 0) 0)) (w_ei w2 (w_ar ws (n_v vs 0) 0)) (w_ei w3 (w_ar ws (n_v vs 0) 0)) (w_ei w4 (w_ar ws (n_v vs 0) 0)) (w_ei w5 (w_ar ws (n_v vs 0) 0)) (w_ei w6 (w_ar ws (n_v vs 0) 0)) (w_ei w7 (w_ar ws (n_v vs 0) 0)) (w_ei ws (w_ar ws (n_v vs 3) 1)) (w_ei w1 (w_ar ws (n_v vs 3) 1)) (w_ei w2 (w_ar ws (n_v vs 3) 1)) (w_ei w3 (w_ar ws (n_v vs 3) 1)) (w_ei w4 (w_ar ws (n_v vs 3) 1)) (w_ei w5 (w_ar ws (n_v vs 3) 1)) (w_ei w6 (w_ar ws (n_v vs 3) 1)) (w_ei w7 (w_ar ws (n_v vs 3) 1)) k1 k4 k7 k8 k9 k11 k13 k14 k16 k18 k19 k21 k23 k24 k26 d0 d1 d2 d3 g0 g4 (shm_439 f6) (shm_443 f7) g10 (shm_439 f12) (shm_442 f13) g16 (shm_439 f18) (shm_440 f19) g22 (shm_439 f26) (shm_441 f27) f30 fe_0_1_2 fe_0_1_4 fe_0_1_6 fe_0_1_8 hE_0_0_1 hE_0_0_2 hE_0_0_3 hE_0_0_4 hE_0_0_5 hE_0_0_6 hE_0_0_7 hE_0_0_8 hE_3_1_1 hE_3_1_2 hE_3_1_3 hE_3_1_4 hE_3_1_5 hE_3_1_6 hE_3_1_7 hE_3_1_8 kz_0_1)⟩
  refine ⟨(fun _ h => (by cases h)), [], trivial, ?_, (fun _ h => (by cases h))⟩
  rw [List.append_nil]
  exact List.forall_mem_cons.mpr ⟨⟨show (20 : Nat) < 100 from by decide, nf0⟩, List.forall_mem_cons.mpr ⟨⟨show (20 : Nat) < 100 from by decide, nf1⟩, List.forall_mem_cons.mpr ⟨⟨show (20 : Nat) < 100 from by decide, nf2⟩, (fun _ h => (by cases h))⟩⟩⟩
set_option maxRecDepth 100000 in
theorem c_Re_append_at_g2 {l : Launch} {D : va_G} {kA : Nat → ClassId} : ct_ok PRD l D kA GG y_Re_append_at_g2 z_Re_append_at_g2 e_Re_append_at_g2 := chk_all_ok (FT := [(9, 8, 0), (15, 8, 1)]) (PT := [(15, 8, 1, .int)]) (CT := t_Re_append_at_g2_ct) (KT := []) (NT := []) (AN := n_Re_append_at_g2_an) (OT := [o_Re_append_at_g2_0, o_Re_append_at_g2_1, o_Re_append_at_g2_2, o_Re_append_at_g2_3, o_Re_append_at_g2_4]) 0 324 (List.forall_mem_cons.mpr ⟨oo_Re_append_at_g2_0, List.forall_mem_cons.mpr ⟨oo_Re_append_at_g2_1, List.forall_mem_cons.mpr ⟨oo_Re_append_at_g2_2, List.forall_mem_cons.mpr ⟨oo_Re_append_at_g2_3, List.forall_mem_cons.mpr ⟨oo_Re_append_at_g2_4, List.forall_mem_nil _⟩⟩⟩⟩⟩) (by decide +kernel) ⟨List.forall_mem_cons.mpr ⟨gf_Re_9, List.forall_mem_cons.mpr ⟨gf_Re_15, List.forall_mem_nil _⟩⟩, List.forall_mem_cons.mpr ⟨pf_Re_15, List.forall_mem_nil _⟩, List.forall_mem_nil _, List.forall_mem_nil _, List.forall_mem_nil _, GG_pl⟩ (by decide +kernel)
set_option maxHeartbeats 4000000 in
theorem vc_Re_append_at_g3_0_r0 (x2 : Int) (x8 : Int) (length_0 : Int) (tape_0 : Int → Int) (tape_0o3 : Int → Int) (k2 : 0 ≤ x2 ∧ x2 ≤ 1996) (k8 : 0 ≤ x8 ∧ x8 ≤ 2000) (g0 : x8 = length_0) (f2 : 1 * length_0 + ((-1) * x2 + 0) ≤ 0) (f3 : (-1) * length_0 + (1 * x2 + 0) ≤ 0) (hK_0_0 : ∀ j : Int, 0 ≤ j → j < 2000 → (-128) ≤ tape_0 j ∧ tape_0 j ≤ 127) (hK_3_1 : ∀ j : Int, 0 ≤ j → j < 2000 → (-128) ≤ tape_0o3 j ∧ tape_0o3 j ≤ 127) (kz_0_1 : 0 ≤ length_0 ∧ length_0 ≤ 2000) : 0 ≤ x8 ∧ x8 ≤ 1999 := by
  first | with_reducible assumption | ((try and_intros) <;> first | with_reducible assumption | (clear hK_0_0 hK_3_1; omega)) | omega
def o_Re_append_at_g3_0 : or_T := (19, 11, [(0, (2, 0, 0, [8])), (2, (0, 0, 1996, [])), (3, (2, 0, 0, [165])), (4, (0, -2147483648, 2147483647, [])), (5, (0, -2147483648, 2147483647, [])), (7, (2, 0, 0, [109])), (8, (0, 0, 2000, []))], [(9, [8, 0], [1]), (9, [7, 0], [0]), (20, [0, 2], [30, 0, 1, 1, 1, -1, 0, 0]), (20, [0, 2], [30, 0, -1, 1, 1, 1, 0, 0]), (20, [0, 3, 4, 5], [60, 1, 2, 1103, 1, 0, 1001])], [(8, (0, 0, 1999, []))], [], [], [], [])
theorem oo_Re_append_at_g3_0 {kA : Nat → ClassId} : or_ok PRD kA GG o_Re_append_at_g3_0 := by
  refine or_mk fun A ta ws vs hD hth hl => ?_
  intro t0 r0 t2 k2 t3 r3 t4 k4 t5 k5 t7 r7 t8 k8 f0 f1 f2 f3 f4
  replace f0 := shm_215 f0
  have cr_0_0 := fdq_95 hD hth r0
  have cr_3_1 := fdq_39 hD hth r3
  have g0 : v_iv (n_v vs 8) = w_fi ws (n_v vs 0) 1 := congrArg v_iv f0
  have hK_0_0 := elq_33 hD hth cr_0_0
  have hK_3_1 := elq_7 hD hth cr_3_1
  have kz_0_1 := fdq_96 hD hth r0
  have hrf0 : 0 ≤ v_iv (n_v vs 8) ∧ v_iv (n_v vs 8) ≤ 1999 := vc_Re_append_at_g3_0_r0 (v_iv (n_v vs 2)) (v_iv (n_v vs 8)) (w_fi ws (n_v vs 0) 1) (w_ei ws (w_ar ws (n_v vs 0) 0)) (w_ei ws (w_ar ws (n_v vs 3) 1)) k2 k8 g0 (shm_436 f2) (shm_437 f3) hK_0_0 hK_3_1 kz_0_1
  have rf8 : tv_ok ta (0, 0, 1999, []) (n_v vs 8) := tv_in t8 (by first | omega | grind) (by first | omega | grind)
  refine ⟨List.forall_mem_cons.mpr ⟨rf8, (fun _ h => (by cases h))⟩, [], trivial, ?_, (fun _ h => (by cases h))⟩
  rw [List.append_nil]
  exact (fun _ h => (by cases h))
set_option maxHeartbeats 4000000 in
theorem vc_Re_append_at_g3_1_r0 (x2 : Int) (x8 : Int) (x10 : Int) (x12 : Int) (length_0 : Int) (length_1 : Int) (length_2 : Int) (tape_2 : Int → Int) (tape_2o3 : Int → Int) (tape_0 : Int → Int) (tape_1 : Int → Int) (tape_0o3 : Int → Int) (tape_1o3 : Int → Int) (k2 : 0 ≤ x2 ∧ x2 ≤ 1996) (k8 : 0 ≤ x8 ∧ x8 ≤ 1999) (k10 : (-128) ≤ x10 ∧ x10 ≤ 127) (k12 : 1 ≤ x12 ∧ x12 ≤ 2000) (d0 : x8 + 1 ≤ x12 ∧ x12 ≤ x8 + 1) (g2 : x12 = length_0) (g6 : x8 = length_1) (f7 : 1 * length_1 + ((-1) * x2 + 0) ≤ 0) (f8 : (-1) * length_1 + (1 * x2 + 0) ≤ 0) (fe_0_1_2 : length_1 = length_2) (hE_0_0_1 : ∀ j : Int, tape_0 j = tape_1 j) (hE_0_0_2 : ∀ j : Int, 0 ≤ j → (j = x8 → tape_1 j = x10) ∧ (j ≠ x8 → tape_1 j = tape_2 j)) (hK_0_0 : ∀ j : Int, 0 ≤ j → j < 2000 → (-128) ≤ tape_0 j ∧ tape_0 j ≤ 127) (hE_3_1_1 : ∀ j : Int, tape_0o3 j = tape_1o3 j) (hE_3_1_2 : ∀ j : Int, tape_1o3 j = tape_2o3 j) (hK_3_1 : ∀ j : Int, 0 ≤ j → j < 2000 → (-128) ≤ tape_0o3 j ∧ tape_0o3 j ≤ 127) (kz_0_1 : 0 ≤ length_0 ∧ length_0 ≤ 2000) : 1 ≤ x12 ∧ x12 ≤ 1999 := by
  subst fe_0_1_2
  have e_hE_0_0_1 := funext hE_0_0_1; subst e_hE_0_0_1
  have e_hE_3_1_1 := funext hE_3_1_1; subst e_hE_3_1_1
  have e_hE_3_1_2 := funext hE_3_1_2; subst e_hE_3_1_2
  first | with_reducible assumption | ((try and_intros) <;> first | with_reducible assumption | (clear hE_0_0_1 hE_0_0_2 hK_0_0 hE_3_1_1 hE_3_1_2 hK_3_1; omega)) | omega
def o_Re_append_at_g3_1 : or_T := (19, 16, [(0, (2, 0, 0, [8])), (1, (0, -2147483648, 2147483647, [])), (2, (0, 0, 1996, [])), (3, (2, 0, 0, [165])), (4, (0, -2147483648, 2147483647, [])), (5, (0, -2147483648, 2147483647, [])), (7, (2, 0, 0, [109])), (8, (0, 0, 1999, [])), (9, (0, -2147483648, 2147483647, [])), (10, (0, -128, 127, [])), (11, (0, 1, 1, [])), (12, (0, 1, 2000, [])), (14, (0, -2147483648, 2147483647, [])), (15, (0, -128, 127, []))], [(17, [15, 14], []), (11, [14, 1], [65536]), (9, [12, 0], [1]), (9, [7, 0], [0]), (101, [0, 12], [1]), (1, [12, 8, 11], []), (9, [8, 0], [1]), (20, [0, 2], [30, 0, 1, 1, 1, -1, 0, 0]), (20, [0, 2], [30, 0, -1, 1, 1, 1, 0, 0]), (100, [7, 8, 10], []), (17, [10, 9], []), (11, [9, 1], [16777216]), (20, [0, 2], [30, 0, 1, 1, 1, -1, 0, 0]), (20, [0, 2], [30, 0, -1, 1, 1, 1, 0, 0]), (20, [0, 3, 4, 5], [60, 1, 2, 1103, 1, 0, 1001])], [(12, (0, 1, 1999, []))], [], [], [], [(12, 8, 1, 1)])
theorem oo_Re_append_at_g3_1 {kA : Nat → ClassId} : or_ok PRD kA GG o_Re_append_at_g3_1 := by
  refine or_mk fun A ta ws vs hD hth hl => ?_
  intro t0 r0 t1 k1 t2 k2 t3 r3 t4 k4 t5 k5 t7 r7 t8 k8 t9 k9 t10 k10 t11 k11 t12 k12 t14 k14 t15 k15 d0 f0 f1 f2 f3 ta1 w1 le1 s1 f5 f6 f7 f8 ta2 w2 le2 s2 f10 f11 f12 f13 f14
  replace f2 := shm_215 f2
  replace f3 := shm_163 f3
  have s1 : (∀ b j, w_el ws b j = w_el w1 b j) ∧ ∀ b j, w_fd ws b j = if b = v_ad (n_v vs 0) ∧ j = 1 then n_v vs 12 else w_fd w1 b j := s1.2
  replace f6 := shm_215 f6
  have s2 : (∀ b j, w_el w1 b j = if b = v_ad (n_v vs 7) ∧ j = (v_iv (n_v vs 8)).toNat then v_iv (n_v vs 10) else w_el w2 b j) ∧ ∀ b k, w_fd w1 b k = w_fd w2 b k := s2.2
  have cr_0_0 := fdq_95 hD hth r0
  have cr_3_1 := fdq_39 hD hth r3
  have ad_7 : v_ad (n_v vs 7) = w_ar ws (n_v vs 0) 0 := congrArg v_ad f3
  have g2 : v_iv (n_v vs 12) = w_fi ws (n_v vs 0) 1 := congrArg v_iv f2
  have g6 : v_iv (n_v vs 8) = w_fi w1 (n_v vs 0) 1 := congrArg v_iv f6
  have fe_0_1_2 : w_fi w1 (n_v vs 0) 1 = w_fi w2 (n_v vs 0) 1 := congrArg v_iv (s2.2 _ _)
  have hE_0_0_1 : ∀ j : Int, w_ei ws (w_ar ws (n_v vs 0) 0) j = w_ei w1 (w_ar ws (n_v vs 0) 0) j := fun j => s1.1 _ _
  have hE_0_0_2 : ∀ j : Int, 0 ≤ j → (j = v_iv (n_v vs 8) → w_ei w1 (w_ar ws (n_v vs 0) 0) j = v_iv (n_v vs 10)) ∧ (j ≠ v_iv (n_v vs 8) → w_ei w1 (w_ar ws (n_v vs 0) 0) j = w_ei w2 (w_ar ws (n_v vs 0) 0) j) := fun j hj => ⟨fun h => by unfold w_ei; rw [s2.1, if_pos ⟨ad_7.symm, by rw [h]⟩], fun h => by unfold w_ei; rw [s2.1, if_neg (fun e => h (by have := e.2; omega))]⟩
  have hK_0_0 := elq_33 hD hth cr_0_0
  have hE_3_1_1 : ∀ j : Int, w_ei ws (w_ar ws (n_v vs 3) 1) j = w_ei w1 (w_ar ws (n_v vs 3) 1) j := fun j => s1.1 _ _
  have hE_3_1_2 : ∀ j : Int, w_ei w1 (w_ar ws (n_v vs 3) 1) j = w_ei w2 (w_ar ws (n_v vs 3) 1) j := el_kp s2.1 r7 cr_3_1 (by decide)
  have hK_3_1 := elq_7 hD hth cr_3_1
  have kz_0_1 := fdq_96 hD hth r0
  have hrf0 : 1 ≤ v_iv (n_v vs 12) ∧ v_iv (n_v vs 12) ≤ 1999 := vc_Re_append_at_g3_1_r0 (v_iv (n_v vs 2)) (v_iv (n_v vs 8)) (v_iv (n_v vs 10)) (v_iv (n_v vs 12)) (w_fi ws (n_v vs 0) 1) (w_fi w1 (n_v vs 0) 1) (w_fi w2 (n_v vs 0) 1) (w_ei w2 (w_ar ws (n_v vs 0) 0)) (w_ei w2 (w_ar ws (n_v vs 3) 1)) (w_ei ws (w_ar ws (n_v vs 0) 0)) (w_ei w1 (w_ar ws (n_v vs 0) 0)) (w_ei ws (w_ar ws (n_v vs 3) 1)) (w_ei w1 (w_ar ws (n_v vs 3) 1)) k2 k8 k10 k12 d0 g2 g6 (shm_436 f7) (shm_437 f8) fe_0_1_2 hE_0_0_1 hE_0_0_2 hK_0_0 hE_3_1_1 hE_3_1_2 hK_3_1 kz_0_1
  have rf12 : tv_ok ta (0, 1, 1999, []) (n_v vs 12) := tv_in t12 (by first | omega | grind) (by first | omega | grind)
  refine ⟨List.forall_mem_cons.mpr ⟨rf12, (fun _ h => (by cases h))⟩, [], trivial, ?_, (fun _ h => (by cases h))⟩
  rw [List.append_nil]
  exact (fun _ h => (by cases h))
set_option maxHeartbeats 4000000 in
theorem vc_Re_append_at_g3_2_r0 (x2 : Int) (x8 : Int) (x10 : Int) (x12 : Int) (x15 : Int) (x17 : Int) (length_0 : Int) (length_1 : Int) (length_3 : Int) (length_4 : Int) (tape_4 : Int → Int) (tape_4o3 : Int → Int) (length_2 : Int) (tape_0 : Int → Int) (tape_1 : Int → Int) (tape_2 : Int → Int) (tape_3 : Int → Int) (tape_0o3 : Int → Int) (tape_1o3 : Int → Int) (tape_2o3 : Int → Int) (tape_3o3 : Int → Int) (k2 : 0 ≤ x2 ∧ x2 ≤ 1996) (k8 : 0 ≤ x8 ∧ x8 ≤ 1999) (k10 : (-128) ≤ x10 ∧ x10 ≤ 127) (k12 : 1 ≤ x12 ∧ x12 ≤ 1999) (k15 : (-128) ≤ x15 ∧ x15 ≤ 127) (k17 : 2 ≤ x17 ∧ x17 ≤ 2000) (d0 : x12 + 1 ≤ x17 ∧ x17 ≤ x12 + 1) (d1 : x8 + 2 ≤ x17 ∧ x17 ≤ x8 + 2) (g2 : x17 = length_0) (g6 : x12 = length_1) (g12 : x8 = length_3) (f13 : 1 * length_3 + ((-1) * x2 + 0) ≤ 0) (f14 : (-1) * length_3 + (1 * x2 + 0) ≤ 0) (fe_0_1_2 : length_1 = length_2) (fe_0_1_4 : length_3 = length_4) (hE_0_0_1 : ∀ j : Int, tape_0 j = tape_1 j) (hE_0_0_2 : ∀ j : Int, 0 ≤ j → (j = x12 → tape_1 j = x15) ∧ (j ≠ x12 → tape_1 j = tape_2 j)) (hE_0_0_3 : ∀ j : Int, tape_2 j = tape_3 j) (hE_0_0_4 : ∀ j : Int, 0 ≤ j → (j = x8 → tape_3 j = x10) ∧ (j ≠ x8 → tape_3 j = tape_4 j)) (hK_0_0 : ∀ j : Int, 0 ≤ j → j < 2000 → (-128) ≤ tape_0 j ∧ tape_0 j ≤ 127) (hE_3_1_1 : ∀ j : Int, tape_0o3 j = tape_1o3 j) (hE_3_1_2 : ∀ j : Int, tape_1o3 j = tape_2o3 j) (hE_3_1_3 : ∀ j : Int, tape_2o3 j = tape_3o3 j) (hE_3_1_4 : ∀ j : Int, tape_3o3 j = tape_4o3 j) (hK_3_1 : ∀ j : Int, 0 ≤ j → j < 2000 → (-128) ≤ tape_0o3 j ∧ tape_0o3 j ≤ 127) (kz_0_1 : 0 ≤ length_0 ∧ length_0 ≤ 2000) : 2 ≤ x17 ∧ x17 ≤ 1999 := by
  subst fe_0_1_2
  subst fe_0_1_4
  have e_hE_0_0_1 := funext hE_0_0_1; subst e_hE_0_0_1
  have e_hE_0_0_3 := funext hE_0_0_3; subst e_hE_0_0_3
  have e_hE_3_1_1 := funext hE_3_1_1; subst e_hE_3_1_1
  have e_hE_3_1_2 := funext hE_3_1_2; subst e_hE_3_1_2
  have e_hE_3_1_3 := funext hE_3_1_3; subst e_hE_3_1_3
  have e_hE_3_1_4 := funext hE_3_1_4; subst e_hE_3_1_4
  first | with_reducible assumption | ((try and_intros) <;> first | with_reducible assumption | (clear hE_0_0_1 hE_0_0_2 hE_0_0_3 hE_0_0_4 hK_0_0 hE_3_1_1 hE_3_1_2 hE_3_1_3 hE_3_1_4 hK_3_1; omega)) | omega
def o_Re_append_at_g3_2 : or_T := (19, 21, [(0, (2, 0, 0, [8])), (1, (0, -2147483648, 2147483647, [])), (2, (0, 0, 1996, [])), (3, (2, 0, 0, [165])), (4, (0, -2147483648, 2147483647, [])), (5, (0, -2147483648, 2147483647, [])), (7, (2, 0, 0, [109])), (8, (0, 0, 1999, [])), (9, (0, -2147483648, 2147483647, [])), (10, (0, -128, 127, [])), (11, (0, 1, 1, [])), (12, (0, 1, 1999, [])), (14, (0, -2147483648, 2147483647, [])), (15, (0, -128, 127, [])), (16, (0, 1, 1, [])), (17, (0, 2, 2000, [])), (19, (0, -2147483648, 2147483647, [])), (20, (0, -128, 127, []))], [(17, [20, 19], []), (11, [19, 1], [256]), (9, [17, 0], [1]), (9, [7, 0], [0]), (101, [0, 17], [1]), (1, [17, 12, 16], []), (9, [12, 0], [1]), (100, [7, 12, 15], []), (17, [15, 14], []), (11, [14, 1], [65536]), (101, [0, 12], [1]), (1, [12, 8, 11], []), (9, [8, 0], [1]), (20, [0, 2], [30, 0, 1, 1, 1, -1, 0, 0]), (20, [0, 2], [30, 0, -1, 1, 1, 1, 0, 0]), (100, [7, 8, 10], []), (17, [10, 9], []), (11, [9, 1], [16777216]), (20, [0, 2], [30, 0, 1, 1, 1, -1, 0, 0]), (20, [0, 2], [30, 0, -1, 1, 1, 1, 0, 0]), (20, [0, 3, 4, 5], [60, 1, 2, 1103, 1, 0, 1001])], [(17, (0, 2, 1999, []))], [], [], [], [(17, 12, 1, 1), (17, 8, 2, 2), (12, 8, 1, 1)])
theorem oo_Re_append_at_g3_2 {kA : Nat → ClassId} : or_ok PRD kA GG o_Re_append_at_g3_2 := by
  refine or_mk fun A ta ws vs hD hth hl => ?_
  intro t0 r0 t1 k1 t2 k2 t3 r3 t4 k4 t5 k5 t7 r7 t8 k8 t9 k9 t10 k10 t11 k11 t12 k12 t14 k14 t15 k15 t16 k16 t17 k17 t19 k19 t20 k20 d0 d1 d2 f0 f1 f2 f3 ta1 w1 le1 s1 f5 f6 ta2 w2 le2 s2 f8 f9 ta3 w3 le3 s3 f11 f12 f13 f14 ta4 w4 le4 s4 f16 f17 f18 f19 f20
  replace f2 := shm_215 f2
  replace f3 := shm_163 f3
  have s1 : (∀ b j, w_el ws b j = w_el w1 b j) ∧ ∀ b j, w_fd ws b j = if b = v_ad (n_v vs 0) ∧ j = 1 then n_v vs 17 else w_fd w1 b j := s1.2
  replace f6 := shm_215 f6
  have s2 : (∀ b j, w_el w1 b j = if b = v_ad (n_v vs 7) ∧ j = (v_iv (n_v vs 12)).toNat then v_iv (n_v vs 15) else w_el w2 b j) ∧ ∀ b k, w_fd w1 b k = w_fd w2 b k := s2.2
  have s3 : (∀ b j, w_el w2 b j = w_el w3 b j) ∧ ∀ b j, w_fd w2 b j = if b = v_ad (n_v vs 0) ∧ j = 1 then n_v vs 12 else w_fd w3 b j := s3.2
  replace f12 := shm_215 f12
  have s4 : (∀ b j, w_el w3 b j = if b = v_ad (n_v vs 7) ∧ j = (v_iv (n_v vs 8)).toNat then v_iv (n_v vs 10) else w_el w4 b j) ∧ ∀ b k, w_fd w3 b k = w_fd w4 b k := s4.2
  have cr_0_0 := fdq_95 hD hth r0
  have cr_3_1 := fdq_39 hD hth r3
  have ad_7 : v_ad (n_v vs 7) = w_ar ws (n_v vs 0) 0 := congrArg v_ad f3
  have g2 : v_iv (n_v vs 17) = w_fi ws (n_v vs 0) 1 := congrArg v_iv f2
  have g6 : v_iv (n_v vs 12) = w_fi w1 (n_v vs 0) 1 := congrArg v_iv f6
  have g12 : v_iv (n_v vs 8) = w_fi w3 (n_v vs 0) 1 := congrArg v_iv f12
  have fe_0_1_2 : w_fi w1 (n_v vs 0) 1 = w_fi w2 (n_v vs 0) 1 := congrArg v_iv (s2.2 _ _)
  have fe_0_1_4 : w_fi w3 (n_v vs 0) 1 = w_fi w4 (n_v vs 0) 1 := congrArg v_iv (s4.2 _ _)
  have hE_0_0_1 : ∀ j : Int, w_ei ws (w_ar ws (n_v vs 0) 0) j = w_ei w1 (w_ar ws (n_v vs 0) 0) j := fun j => s1.1 _ _
  have hE_0_0_2 : ∀ j : Int, 0 ≤ j → (j = v_iv (n_v vs 12) → w_ei w1 (w_ar ws (n_v vs 0) 0) j = v_iv (n_v vs 15)) ∧ (j ≠ v_iv (n_v vs 12) → w_ei w1 (w_ar ws (n_v vs 0) 0) j = w_ei w2 (w_ar ws (n_v vs 0) 0) j) := fun j hj => ⟨fun h => by unfold w_ei; rw [s2.1, if_pos ⟨ad_7.symm, by rw [h]⟩], fun h => by unfold w_ei; rw [s2.1, if_neg (fun e => h (by have := e.2; omega))]⟩
  have hE_0_0_3 : ∀ j : Int, w_ei w2 (w_ar ws (n_v vs 0) 0) j = w_ei w3 (w_ar ws (n_v vs 0) 0) j := fun j => s3.1 _ _
  have hE_0_0_4 : ∀ j : Int, 0 ≤ j → (j = v_iv (n_v vs 8) → w_ei w3 (w_ar ws (n_v vs 0) 0) j = v_iv (n_v vs 10)) ∧ (j ≠ v_iv (n_v vs 8) → w_ei w3 (w_ar ws (n_v vs 0) 0) j = w_ei w4 (w_ar ws (n_v vs 0) 0) j) := fun j hj => ⟨fun h => by unfold w_ei; rw [s4.1, if_pos ⟨ad_7.symm, by rw [h]⟩], fun h => by unfold w_ei; rw [s4.1, if_neg (fun e => h (by have := e.2; omega))]⟩
  have hK_0_0 := elq_33 hD hth cr_0_0
  have hE_3_1_1 : ∀ j : Int, w_ei ws (w_ar ws (n_v vs 3) 1) j = w_ei w1 (w_ar ws (n_v vs 3) 1) j := fun j => s1.1 _ _
  have hE_3_1_2 : ∀ j : Int, w_ei w1 (w_ar ws (n_v vs 3) 1) j = w_ei w2 (w_ar ws (n_v vs 3) 1) j := el_kp s2.1 r7 cr_3_1 (by decide)
  have hE_3_1_3 : ∀ j : Int, w_ei w2 (w_ar ws (n_v vs 3) 1) j = w_ei w3 (w_ar ws (n_v vs 3) 1) j := fun j => s3.1 _ _
  have hE_3_1_4 : ∀ j : Int, w_ei w3 (w_ar ws (n_v vs 3) 1) j = w_ei w4 (w_ar ws (n_v vs 3) 1) j := el_kp s4.1 r7 cr_3_1 (by decide)
  have hK_3_1 := elq_7 hD hth cr_3_1
  have kz_0_1 := fdq_96 hD hth r0
  have hrf0 : 2 ≤ v_iv (n_v vs 17) ∧ v_iv (n_v vs 17) ≤ 1999 := vc_Re_append_at_g3_2_r0 (v_iv (n_v vs 2)) (v_iv (n_v vs 8)) (v_iv (n_v vs 10)) (v_iv (n_v vs 12)) (v_iv (n_v vs 15)) (v_iv (n_v vs 17)) (w_fi ws (n_v vs 0) 1) (w_fi w1 (n_v vs 0) 1) (w_fi w3 (n_v vs 0) 1) (w_fi w4 (n_v vs 0) 1) (w_ei w4 (w_ar ws (n_v vs 0) 0)) (w_ei w4 (w_ar ws (n_v vs 3) 1)) (w_fi w2 (n_v vs 0) 1) (w_ei ws (w_ar ws (n_v vs 0) 0)) (w_ei w1 (w_ar ws (n_v vs 0) 0)) (w_ei w2 (w_ar ws (n_v vs 0) 0)) (w_ei w3 (w_ar ws (n_v vs 0) 0)) (w_ei ws (w_ar ws (n_v vs 3) 1)) (w_ei w1 (w_ar ws (n_v vs 3) 1)) (w_ei w2 (w_ar ws (n_v vs 3) 1)) (w_ei w3 (w_ar ws (n_v vs 3) 1)) k2 k8 k10 k12 k15 k17 d0 d1 g2 g6 g12 (shm_436 f13) (shm_437 f14) fe_0_1_2 fe_0_1_4 hE_0_0_1 hE_0_0_2 hE_0_0_3 hE_0_0_4 hK_0_0 hE_3_1_1 hE_3_1_2 hE_3_1_3 hE_3_1_4 hK_3_1 kz_0_1
  have rf17 : tv_ok ta (0, 2, 1999, []) (n_v vs 17) := tv_in t17 (by first | omega | grind) (by first | omega | grind)
  refine ⟨List.forall_mem_cons.mpr ⟨rf17, (fun _ h => (by cases h))⟩, [], trivial, ?_, (fun _ h => (by cases h))⟩
  rw [List.append_nil]
  exact (fun _ h => (by cases h))
set_option maxHeartbeats 4000000 in
theorem vc_Re_append_at_g3_3_r0 (x2 : Int) (x8 : Int) (x10 : Int) (x12 : Int) (x15 : Int) (x17 : Int) (x20 : Int) (x22 : Int) (length_0 : Int) (length_1 : Int) (length_3 : Int) (length_5 : Int) (length_6 : Int) (tape_6 : Int → Int) (tape_6o3 : Int → Int) (length_2 : Int) (length_4 : Int) (tape_0 : Int → Int) (tape_1 : Int → Int) (tape_2 : Int → Int) (tape_3 : Int → Int) (tape_4 : Int → Int) (tape_5 : Int → Int) (tape_0o3 : Int → Int) (tape_1o3 : Int → Int) (tape_2o3 : Int → Int) (tape_3o3 : Int → Int) (tape_4o3 : Int → Int) (tape_5o3 : Int → Int) (k2 : 0 ≤ x2 ∧ x2 ≤ 1996) (k8 : 0 ≤ x8 ∧ x8 ≤ 1999) (k10 : (-128) ≤ x10 ∧ x10 ≤ 127) (k12 : 1 ≤ x12 ∧ x12 ≤ 1999) (k15 : (-128) ≤ x15 ∧ x15 ≤ 127) (k17 : 2 ≤ x17 ∧ x17 ≤ 1999) (k20 : (-128) ≤ x20 ∧ x20 ≤ 127) (k22 : 3 ≤ x22 ∧ x22 ≤ 2000) (d0 : x17 + 1 ≤ x22 ∧ x22 ≤ x17 + 1) (d1 : x12 + 2 ≤ x22 ∧ x22 ≤ x12 + 2) (d2 : x8 + 3 ≤ x22 ∧ x22 ≤ x8 + 3) (g2 : x22 = length_0) (g6 : x17 = length_1) (g12 : x12 = length_3) (g18 : x8 = length_5) (f19 : 1 * length_5 + ((-1) * x2 + 0) ≤ 0) (f20 : (-1) * length_5 + (1 * x2 + 0) ≤ 0) (fe_0_1_2 : length_1 = length_2) (fe_0_1_4 : length_3 = length_4) (fe_0_1_6 : length_5 = length_6) (hE_0_0_1 : ∀ j : Int, tape_0 j = tape_1 j) (hE_0_0_2 : ∀ j : Int, 0 ≤ j → (j = x17 → tape_1 j = x20) ∧ (j ≠ x17 → tape_1 j = tape_2 j)) (hE_0_0_3 : ∀ j : Int, tape_2 j = tape_3 j) (hE_0_0_4 : ∀ j : Int, 0 ≤ j → (j = x12 → tape_3 j = x15) ∧ (j ≠ x12 → tape_3 j = tape_4 j)) (hE_0_0_5 : ∀ j : Int, tape_4 j = tape_5 j) (hE_0_0_6 : ∀ j : Int, 0 ≤ j → (j = x8 → tape_5 j = x10) ∧ (j ≠ x8 → tape_5 j = tape_6 j)) (hK_0_0 : ∀ j : Int, 0 ≤ j → j < 2000 → (-128) ≤ tape_0 j ∧ tape_0 j ≤ 127) (hE_3_1_1 : ∀ j : Int, tape_0o3 j = tape_1o3 j) (hE_3_1_2 : ∀ j : Int, tape_1o3 j = tape_2o3 j) (hE_3_1_3 : ∀ j : Int, tape_2o3 j = tape_3o3 j) (hE_3_1_4 : ∀ j : Int, tape_3o3 j = tape_4o3 j) (hE_3_1_5 : ∀ j : Int, tape_4o3 j = tape_5o3 j) (hE_3_1_6 : ∀ j : Int, tape_5o3 j = tape_6o3 j) (hK_3_1 : ∀ j : Int, 0 ≤ j → j < 2000 → (-128) ≤ tape_0o3 j ∧ tape_0o3 j ≤ 127) (kz_0_1 : 0 ≤ length_0 ∧ length_0 ≤ 2000) : 3 ≤ x22 ∧ x22 ≤ 1999 := by
  subst fe_0_1_2
  subst fe_0_1_4
  subst fe_0_1_6
  have e_hE_0_0_1 := funext hE_0_0_1; subst e_hE_0_0_1
  have e_hE_0_0_3 := funext hE_0_0_3; subst e_hE_0_0_3
  have e_hE_0_0_5 := funext hE_0_0_5; subst e_hE_0_0_5
  have e_hE_3_1_1 := funext hE_3_1_1; subst e_hE_3_1_1
  have e_hE_3_1_2 := funext hE_3_1_2; subst e_hE_3_1_2
  have e_hE_3_1_3 := funext hE_3_1_3; subst e_hE_3_1_3
  have e_hE_3_1_4 := funext hE_3_1_4; subst e_hE_3_1_4
  have e_hE_3_1_5 := funext hE_3_1_5; subst e_hE_3_1_5
  have e_hE_3_1_6 := funext hE_3_1_6; subst e_hE_3_1_6
  first | with_reducible assumption | ((try and_intros) <;> first | with_reducible assumption | (clear hE_0_0_1 hE_0_0_2 hE_0_0_3 hE_0_0_4 hE_0_0_5 hE_0_0_6 hK_0_0 hE_3_1_1 hE_3_1_2 hE_3_1_3 hE_3_1_4 hE_3_1_5 hE_3_1_6 hK_3_1; omega)) | omega
def o_Re_append_at_g3_3 : or_T := (19, 26, [(0, (2, 0, 0, [8])), (1, (0, -2147483648, 2147483647, [])), (2, (0, 0, 1996, [])), (3, (2, 0, 0, [165])), (4, (0, -2147483648, 2147483647, [])), (5, (0, -2147483648, 2147483647, [])), (7, (2, 0, 0, [109])), (8, (0, 0, 1999, [])), (9, (0, -2147483648, 2147483647, [])), (10, (0, -128, 127, [])), (11, (0, 1, 1, [])), (12, (0, 1, 1999, [])), (14, (0, -2147483648, 2147483647, [])), (15, (0, -128, 127, [])), (16, (0, 1, 1, [])), (17, (0, 2, 1999, [])), (19, (0, -2147483648, 2147483647, [])), (20, (0, -128, 127, [])), (21, (0, 1, 1, [])), (22, (0, 3, 2000, [])), (24, (0, -2147483648, 2147483647, [])), (25, (0, -128, 127, []))], [(17, [25, 24], []), (11, [24, 1], [1]), (9, [22, 0], [1]), (9, [7, 0], [0]), (101, [0, 22], [1]), (1, [22, 17, 21], []), (9, [17, 0], [1]), (100, [7, 17, 20], []), (17, [20, 19], []), (11, [19, 1], [256]), (101, [0, 17], [1]), (1, [17, 12, 16], []), (9, [12, 0], [1]), (100, [7, 12, 15], []), (17, [15, 14], []), (11, [14, 1], [65536]), (101, [0, 12], [1]), (1, [12, 8, 11], []), (9, [8, 0], [1]), (20, [0, 2], [30, 0, 1, 1, 1, -1, 0, 0]), (20, [0, 2], [30, 0, -1, 1, 1, 1, 0, 0]), (100, [7, 8, 10], []), (17, [10, 9], []), (11, [9, 1], [16777216]), (20, [0, 2], [30, 0, 1, 1, 1, -1, 0, 0]), (20, [0, 2], [30, 0, -1, 1, 1, 1, 0, 0]), (20, [0, 3, 4, 5], [60, 1, 2, 1103, 1, 0, 1001])], [(22, (0, 3, 1999, []))], [], [], [], [(22, 17, 1, 1), (22, 12, 2, 2), (22, 8, 3, 3), (17, 12, 1, 1), (17, 8, 2, 2), (12, 8, 1, 1)])
theorem oo_Re_append_at_g3_3 {kA : Nat → ClassId} : or_ok PRD kA GG o_Re_append_at_g3_3 := by
  refine or_mk fun A ta ws vs hD hth hl => ?_
  intro t0 r0 t1 k1 t2 k2 t3 r3 t4 k4 t5 k5 t7 r7 t8 k8 t9 k9 t10 k10 t11 k11 t12 k12 t14 k14 t15 k15 t16 k16 t17 k17 t19 k19 t20 k20 t21 k21 t22 k22 t24 k24 t25 k25 d0 d1 d2 d3 d4 d5 f0 f1 f2 f3 ta1 w1 le1 s1 f5 f6 ta2 w2 le2 s2 f8 f9 ta3 w3 le3 s3 f11 f12 ta4 w4 le4 s4 f14 f15 ta5 w5 le5 s5 f17 f18 f19 f20 ta6 w6 le6 s6 f22 f23 f24 f25 f26
  replace f2 := shm_215 f2
  replace f3 := shm_163 f3
  have s1 : (∀ b j, w_el ws b j = w_el w1 b j) ∧ ∀ b j, w_fd ws b j = if b = v_ad (n_v vs 0) ∧ j = 1 then n_v vs 22 else w_fd w1 b j := s1.2
  replace f6 := shm_215 f6
  have s2 : (∀ b j, w_el w1 b j = if b = v_ad (n_v vs 7) ∧ j = (v_iv (n_v vs 17)).toNat then v_iv (n_v vs 20) else w_el w2 b j) ∧ ∀ b k, w_fd w1 b k = w_fd w2 b k := s2.2
  have s3 : (∀ b j, w_el w2 b j = w_el w3 b j) ∧ ∀ b j, w_fd w2 b j = if b = v_ad (n_v vs 0) ∧ j = 1 then n_v vs 17 else w_fd w3 b j := s3.2
  replace f12 := shm_215 f12
  have s4 : (∀ b j, w_el w3 b j = if b = v_ad (n_v vs 7) ∧ j = (v_iv (n_v vs 12)).toNat then v_iv (n_v vs 15) else w_el w4 b j) ∧ ∀ b k, w_fd w3 b k = w_fd w4 b k := s4.2
  have s5 : (∀ b j, w_el w4 b j = w_el w5 b j) ∧ ∀ b j, w_fd w4 b j = if b = v_ad (n_v vs 0) ∧ j = 1 then n_v vs 12 else w_fd w5 b j := s5.2
  replace f18 := shm_215 f18
  have s6 : (∀ b j, w_el w5 b j = if b = v_ad (n_v vs 7) ∧ j = (v_iv (n_v vs 8)).toNat then v_iv (n_v vs 10) else w_el w6 b j) ∧ ∀ b k, w_fd w5 b k = w_fd w6 b k := s6.2
  have cr_0_0 := fdq_95 hD hth r0
  have cr_3_1 := fdq_39 hD hth r3
  have ad_7 : v_ad (n_v vs 7) = w_ar ws (n_v vs 0) 0 := congrArg v_ad f3
  have g2 : v_iv (n_v vs 22) = w_fi ws (n_v vs 0) 1 := congrArg v_iv f2
  have g6 : v_iv (n_v vs 17) = w_fi w1 (n_v vs 0) 1 := congrArg v_iv f6
  have g12 : v_iv (n_v vs 12) = w_fi w3 (n_v vs 0) 1 := congrArg v_iv f12
  have g18 : v_iv (n_v vs 8) = w_fi w5 (n_v vs 0) 1 := congrArg v_iv f18
  have fe_0_1_2 : w_fi w1 (n_v vs 0) 1 = w_fi w2 (n_v vs 0) 1 := congrArg v_iv (s2.2 _ _)
  have fe_0_1_4 : w_fi w3 (n_v vs 0) 1 = w_fi w4 (n_v vs 0) 1 := congrArg v_iv (s4.2 _ _)
  have fe_0_1_6 : w_fi w5 (n_v vs 0) 1 = w_fi w6 (n_v vs 0) 1 := congrArg v_iv (s6.2 _ _)
  have hE_0_0_1 : ∀ j : Int, w_ei ws (w_ar ws (n_v vs 0) 0) j = w_ei w1 (w_ar ws (n_v vs 0) 0) j := fun j => s1.1 _ _
  have hE_0_0_2 : ∀ j : Int, 0 ≤ j → (j = v_iv (n_v vs 17) → w_ei w1 (w_ar ws (n_v vs 0) 0) j = v_iv (n_v vs 20)) ∧ (j ≠ v_iv (n_v vs 17) → w_ei w1 (w_ar ws (n_v vs 0) 0) j = w_ei w2 (w_ar ws (n_v vs 0) 0) j) := fun j hj => ⟨fun h => by unfold w_ei; rw [s2.1, if_pos ⟨ad_7.symm, by rw [h]⟩], fun h => by unfold w_ei; rw [s2.1, if_neg (fun e => h (by have := e.2; omega))]⟩
  have hE_0_0_3 : ∀ j : Int, w_ei w2 (w_ar ws (n_v vs 0) 0) j = w_ei w3 (w_ar ws (n_v vs 0) 0) j := fun j => s3.1 _ _
  have hE_0_0_4 : ∀ j : Int, 0 ≤ j → (j = v_iv (n_v vs 12) → w_ei w3 (w_ar ws (n_v vs 0) 0) j = v_iv (n_v vs 15)) ∧ (j ≠ v_iv (n_v vs 12) → w_ei w3 (w_ar ws (n_v vs 0) 0) j = w_ei w4 (w_ar ws (n_v vs 0) 0) j) := fun j hj => ⟨fun h => by unfold w_ei; rw [s4.1, if_pos ⟨ad_7.symm, by rw [h]⟩], fun h => by unfold w_ei; rw [s4.1, if_neg (fun e => h (by have := e.2; omega))]⟩
  have hE_0_0_5 : ∀ j : Int, w_ei w4 (w_ar ws (n_v vs 0) 0) j = w_ei w5 (w_ar ws (n_v vs 0) 0) j := fun j => s5.1 _ _
  have hE_0_0_6 : ∀ j : Int, 0 ≤ j → (j = v_iv (n_v vs 8) → w_ei w5 (w_ar ws (n_v vs 0) 0) j = v_iv (n_v vs 10)) ∧ (j ≠ v_iv (n_v vs 8) → w_ei w5 (w_ar ws (n_v vs 0) 0) j = w_ei w6 (w_ar ws (n_v vs 0) 0) j) := fun j hj => ⟨fun h => by unfold w_ei; rw [s6.1, if_pos ⟨ad_7.symm, by rw [h]⟩], fun h => by unfold w_ei; rw [s6.1, if_neg (fun e => h (by have := e.2; omega))]⟩
  have hK_0_0 := elq_33 hD hth cr_0_0
  have hE_3_1_1 : ∀ j : Int, w_ei ws (w_ar ws (n_v vs 3) 1) j = w_ei w1 (w_ar ws (n_v vs 3) 1) j := fun j => s1.1 _ _
  have hE_3_1_2 : ∀ j : Int, w_ei w1 (w_ar ws (n_v vs 3) 1) j = w_ei w2 (w_ar ws (n_v vs 3) 1) j := el_kp s2.1 r7 cr_3_1 (by decide)
  have hE_3_1_3 : ∀ j : Int, w_ei w2 (w_ar ws (n_v vs 3) 1) j = w_ei w3 (w_ar ws (n_v vs 3) 1) j := fun j => s3.1 _ _
  have hE_3_1_4 : ∀ j : Int, w_ei w3 (w_ar ws (n_v vs 3) 1) j = w_ei w4 (w_ar ws (n_v vs 3) 1) j := el_kp s4.1 r7 cr_3_1 (by decide)
  have hE_3_1_5 : ∀ j : Int, w_ei w4 (w_ar ws (n_v vs 3) 1) j = w_ei w5 (w_ar ws (n_v vs 3) 1) j := fun j => s5.1 _ _
  have hE_3_1_6 : ∀ j : Int, w_ei w5 (w_ar ws (n_v vs 3) 1) j = w_ei w6 (w_ar ws (n_v vs 3) 1) j := el_kp s6.1 r7 cr_3_1 (by decide)
  have hK_3_1 := elq_7 hD hth cr_3_1
  have kz_0_1 := fdq_96 hD hth r0
  have hrf0 : 3 ≤ v_iv (n_v vs 22) ∧ v_iv (n_v vs 22) ≤ 1999 := vc_Re_append_at_g3_3_r0 (v_iv (n_v vs 2)) (v_iv (n_v vs 8)) (v_iv (n_v vs 10)) (v_iv (n_v vs 12)) (v_iv (n_v vs 15)) (v_iv (n_v vs 17)) (v_iv (n_v vs 20)) (v_iv (n_v vs 22)) (w_fi ws (n_v vs 0) 1) (w_fi w1 (n_v vs 0) 1) (w_fi w3 (n_v vs 0) 1) (w_fi w5 (n_v vs 0) 1) (w_fi w6 (n_v vs 0) 1) (w_ei w6 (w_ar ws (n_v vs 0) 0)) (w_ei w6 (w_ar ws (n_v vs 3) 1)) (w_fi w2 (n_v vs 0) 1) (w_fi w4 (n_v vs 0) 1) (w_ei ws (w_ar ws (n_v vs 0) 0)) (w_ei w1 (w_ar ws (n_v vs 0) 0)) (w_ei w2 (w_ar ws (n_v vs 0) 0)) (w_ei w3 (w_ar ws (n_v vs 0) 0)) (w_ei w4 (w_ar ws (n_v vs 0) 0)) (w_ei w5 (w_ar ws (n_v vs 0) 0)) (w_ei ws (w_ar ws (n_v vs 3) 1)) (w_ei w1 (w_ar ws (n_v vs 3) 1)) (w_ei w2 (w_ar ws (n_v vs 3) 1)) (w_ei w3 (w_ar ws (n_v vs 3) 1)) (w_ei w4 (w_ar ws (n_v vs 3) 1)) (w_ei w5 (w_ar ws (n_v vs 3) 1)) k2 k8 k10 k12 k15 k17 k20 k22 d0 d1 d2 g2 g6 g12 g18 (shm_436 f19) (shm_437 f20) fe_0_1_2 fe_0_1_4 fe_0_1_6 hE_0_0_1 hE_0_0_2 hE_0_0_3 hE_0_0_4 hE_0_0_5 hE_0_0_6 hK_0_0 hE_3_1_1 hE_3_1_2 hE_3_1_3 hE_3_1_4 hE_3_1_5 hE_3_1_6 hK_3_1 kz_0_1
  have rf22 : tv_ok ta (0, 3, 1999, []) (n_v vs 22) := tv_in t22 (by first | omega | grind) (by first | omega | grind)
  refine ⟨List.forall_mem_cons.mpr ⟨rf22, (fun _ h => (by cases h))⟩, [], trivial, ?_, (fun _ h => (by cases h))⟩
  rw [List.append_nil]
  exact (fun _ h => (by cases h))
set_option maxHeartbeats 4000000 in
theorem vc_Re_append_at_g3_4_0 (x2 : Int) (x8 : Int) (x10 : Int) (x12 : Int) (x15 : Int) (x17 : Int) (x20 : Int) (x22 : Int) (x25 : Int) (x27 : Int) (length_0 : Int) (length_1 : Int) (length_3 : Int) (length_5 : Int) (length_7 : Int) (length_8 : Int) (tape_8 : Int → Int) (tape_8o3 : Int → Int) (length_2 : Int) (length_4 : Int) (length_6 : Int) (tape_0 : Int → Int) (tape_1 : Int → Int) (tape_2 : Int → Int) (tape_3 : Int → Int) (tape_4 : Int → Int) (tape_5 : Int → Int) (tape_6 : Int → Int) (tape_7 : Int → Int) (tape_0o3 : Int → Int) (tape_1o3 : Int → Int) (tape_2o3 : Int → Int) (tape_3o3 : Int → Int) (tape_4o3 : Int → Int) (tape_5o3 : Int → Int) (tape_6o3 : Int → Int) (tape_7o3 : Int → Int) (k2 : 0 ≤ x2 ∧ x2 ≤ 1996) (k8 : 0 ≤ x8 ∧ x8 ≤ 1999) (k10 : (-128) ≤ x10 ∧ x10 ≤ 127) (k12 : 1 ≤ x12 ∧ x12 ≤ 1999) (k15 : (-128) ≤ x15 ∧ x15 ≤ 127) (k17 : 2 ≤ x17 ∧ x17 ≤ 1999) (k20 : (-128) ≤ x20 ∧ x20 ≤ 127) (k22 : 3 ≤ x22 ∧ x22 ≤ 1999) (k25 : (-128) ≤ x25 ∧ x25 ≤ 127) (k27 : 4 ≤ x27 ∧ x27 ≤ 2000) (d0 : x22 + 1 ≤ x27 ∧ x27 ≤ x22 + 1) (d1 : x17 + 2 ≤ x27 ∧ x27 ≤ x17 + 2) (d2 : x12 + 3 ≤ x27 ∧ x27 ≤ x12 + 3) (d3 : x8 + 4 ≤ x27 ∧ x27 ≤ x8 + 4) (g0 : x27 = length_0) (g4 : x22 = length_1) (g10 : x17 = length_3) (g16 : x12 = length_5) (g22 : x8 = length_7) (f23 : 1 * length_7 + ((-1) * x2 + 0) ≤ 0) (f24 : (-1) * length_7 + (1 * x2 + 0) ≤ 0) (fe_0_1_2 : length_1 = length_2) (fe_0_1_4 : length_3 = length_4) (fe_0_1_6 : length_5 = length_6) (fe_0_1_8 : length_7 = length_8) (hE_0_0_1 : ∀ j : Int, tape_0 j = tape_1 j) (hE_0_0_2 : ∀ j : Int, 0 ≤ j → (j = x22 → tape_1 j = x25) ∧ (j ≠ x22 → tape_1 j = tape_2 j)) (hE_0_0_3 : ∀ j : Int, tape_2 j = tape_3 j) (hE_0_0_4 : ∀ j : Int, 0 ≤ j → (j = x17 → tape_3 j = x20) ∧ (j ≠ x17 → tape_3 j = tape_4 j)) (hE_0_0_5 : ∀ j : Int, tape_4 j = tape_5 j) (hE_0_0_6 : ∀ j : Int, 0 ≤ j → (j = x12 → tape_5 j = x15) ∧ (j ≠ x12 → tape_5 j = tape_6 j)) (hE_0_0_7 : ∀ j : Int, tape_6 j = tape_7 j) (hE_0_0_8 : ∀ j : Int, 0 ≤ j → (j = x8 → tape_7 j = x10) ∧ (j ≠ x8 → tape_7 j = tape_8 j)) (hK_0_0 : ∀ j : Int, 0 ≤ j → j < 2000 → (-128) ≤ tape_0 j ∧ tape_0 j ≤ 127) (hE_3_1_1 : ∀ j : Int, tape_0o3 j = tape_1o3 j) (hE_3_1_2 : ∀ j : Int, tape_1o3 j = tape_2o3 j) (hE_3_1_3 : ∀ j : Int, tape_2o3 j = tape_3o3 j) (hE_3_1_4 : ∀ j : Int, tape_3o3 j = tape_4o3 j) (hE_3_1_5 : ∀ j : Int, tape_4o3 j = tape_5o3 j) (hE_3_1_6 : ∀ j : Int, tape_5o3 j = tape_6o3 j) (hE_3_1_7 : ∀ j : Int, tape_6o3 j = tape_7o3 j) (hE_3_1_8 : ∀ j : Int, tape_7o3 j = tape_8o3 j) (hK_3_1 : ∀ j : Int, 0 ≤ j → j < 2000 → (-128) ≤ tape_0o3 j ∧ tape_0o3 j ≤ 127) (kz_0_1 : 0 ≤ length_0 ∧ length_0 ≤ 2000) : 1 * length_0 + ((-1) * x2 + 0) ≤ 4 := by
  subst fe_0_1_2
  subst fe_0_1_4
  subst fe_0_1_6
  subst fe_0_1_8
  have e_hE_0_0_1 := funext hE_0_0_1; subst e_hE_0_0_1
  have e_hE_0_0_3 := funext hE_0_0_3; subst e_hE_0_0_3
  have e_hE_0_0_5 := funext hE_0_0_5; subst e_hE_0_0_5
  have e_hE_0_0_7 := funext hE_0_0_7; subst e_hE_0_0_7
  have e_hE_3_1_1 := funext hE_3_1_1; subst e_hE_3_1_1
  have e_hE_3_1_2 := funext hE_3_1_2; subst e_hE_3_1_2
  have e_hE_3_1_3 := funext hE_3_1_3; subst e_hE_3_1_3
  have e_hE_3_1_4 := funext hE_3_1_4; subst e_hE_3_1_4
  have e_hE_3_1_5 := funext hE_3_1_5; subst e_hE_3_1_5
  have e_hE_3_1_6 := funext hE_3_1_6; subst e_hE_3_1_6
  have e_hE_3_1_7 := funext hE_3_1_7; subst e_hE_3_1_7
  have e_hE_3_1_8 := funext hE_3_1_8; subst e_hE_3_1_8
  first | with_reducible assumption | ((try and_intros) <;> first | with_reducible assumption | (clear hE_0_0_1 hE_0_0_2 hE_0_0_3 hE_0_0_4 hE_0_0_5 hE_0_0_6 hE_0_0_7 hE_0_0_8 hK_0_0 hE_3_1_1 hE_3_1_2 hE_3_1_3 hE_3_1_4 hE_3_1_5 hE_3_1_6 hE_3_1_7 hE_3_1_8 hK_3_1; omega)) | omega
set_option maxHeartbeats 4000000 in
theorem vc_Re_append_at_g3_4_1 (x2 : Int) (x8 : Int) (x10 : Int) (x12 : Int) (x15 : Int) (x17 : Int) (x20 : Int) (x22 : Int) (x25 : Int) (x27 : Int) (length_0 : Int) (length_1 : Int) (length_3 : Int) (length_5 : Int) (length_7 : Int) (length_8 : Int) (tape_8 : Int → Int) (tape_8o3 : Int → Int) (length_2 : Int) (length_4 : Int) (length_6 : Int) (tape_0 : Int → Int) (tape_1 : Int → Int) (tape_2 : Int → Int) (tape_3 : Int → Int) (tape_4 : Int → Int) (tape_5 : Int → Int) (tape_6 : Int → Int) (tape_7 : Int → Int) (tape_0o3 : Int → Int) (tape_1o3 : Int → Int) (tape_2o3 : Int → Int) (tape_3o3 : Int → Int) (tape_4o3 : Int → Int) (tape_5o3 : Int → Int) (tape_6o3 : Int → Int) (tape_7o3 : Int → Int) (k2 : 0 ≤ x2 ∧ x2 ≤ 1996) (k8 : 0 ≤ x8 ∧ x8 ≤ 1999) (k10 : (-128) ≤ x10 ∧ x10 ≤ 127) (k12 : 1 ≤ x12 ∧ x12 ≤ 1999) (k15 : (-128) ≤ x15 ∧ x15 ≤ 127) (k17 : 2 ≤ x17 ∧ x17 ≤ 1999) (k20 : (-128) ≤ x20 ∧ x20 ≤ 127) (k22 : 3 ≤ x22 ∧ x22 ≤ 1999) (k25 : (-128) ≤ x25 ∧ x25 ≤ 127) (k27 : 4 ≤ x27 ∧ x27 ≤ 2000) (d0 : x22 + 1 ≤ x27 ∧ x27 ≤ x22 + 1) (d1 : x17 + 2 ≤ x27 ∧ x27 ≤ x17 + 2) (d2 : x12 + 3 ≤ x27 ∧ x27 ≤ x12 + 3) (d3 : x8 + 4 ≤ x27 ∧ x27 ≤ x8 + 4) (g0 : x27 = length_0) (g4 : x22 = length_1) (g10 : x17 = length_3) (g16 : x12 = length_5) (g22 : x8 = length_7) (f23 : 1 * length_7 + ((-1) * x2 + 0) ≤ 0) (f24 : (-1) * length_7 + (1 * x2 + 0) ≤ 0) (fe_0_1_2 : length_1 = length_2) (fe_0_1_4 : length_3 = length_4) (fe_0_1_6 : length_5 = length_6) (fe_0_1_8 : length_7 = length_8) (hE_0_0_1 : ∀ j : Int, tape_0 j = tape_1 j) (hE_0_0_2 : ∀ j : Int, 0 ≤ j → (j = x22 → tape_1 j = x25) ∧ (j ≠ x22 → tape_1 j = tape_2 j)) (hE_0_0_3 : ∀ j : Int, tape_2 j = tape_3 j) (hE_0_0_4 : ∀ j : Int, 0 ≤ j → (j = x17 → tape_3 j = x20) ∧ (j ≠ x17 → tape_3 j = tape_4 j)) (hE_0_0_5 : ∀ j : Int, tape_4 j = tape_5 j) (hE_0_0_6 : ∀ j : Int, 0 ≤ j → (j = x12 → tape_5 j = x15) ∧ (j ≠ x12 → tape_5 j = tape_6 j)) (hE_0_0_7 : ∀ j : Int, tape_6 j = tape_7 j) (hE_0_0_8 : ∀ j : Int, 0 ≤ j → (j = x8 → tape_7 j = x10) ∧ (j ≠ x8 → tape_7 j = tape_8 j)) (hK_0_0 : ∀ j : Int, 0 ≤ j → j < 2000 → (-128) ≤ tape_0 j ∧ tape_0 j ≤ 127) (hE_3_1_1 : ∀ j : Int, tape_0o3 j = tape_1o3 j) (hE_3_1_2 : ∀ j : Int, tape_1o3 j = tape_2o3 j) (hE_3_1_3 : ∀ j : Int, tape_2o3 j = tape_3o3 j) (hE_3_1_4 : ∀ j : Int, tape_3o3 j = tape_4o3 j) (hE_3_1_5 : ∀ j : Int, tape_4o3 j = tape_5o3 j) (hE_3_1_6 : ∀ j : Int, tape_5o3 j = tape_6o3 j) (hE_3_1_7 : ∀ j : Int, tape_6o3 j = tape_7o3 j) (hE_3_1_8 : ∀ j : Int, tape_7o3 j = tape_8o3 j) (hK_3_1 : ∀ j : Int, 0 ≤ j → j < 2000 → (-128) ≤ tape_0o3 j ∧ tape_0o3 j ≤ 127) (kz_0_1 : 0 ≤ length_0 ∧ length_0 ≤ 2000) : (-1) * length_0 + (1 * x2 + 0) ≤ (-4) := by
  subst fe_0_1_2
  subst fe_0_1_4
  subst fe_0_1_6
  subst fe_0_1_8
  have e_hE_0_0_1 := funext hE_0_0_1; subst e_hE_0_0_1
  have e_hE_0_0_3 := funext hE_0_0_3; subst e_hE_0_0_3
  have e_hE_0_0_5 := funext hE_0_0_5; subst e_hE_0_0_5
  have e_hE_0_0_7 := funext hE_0_0_7; subst e_hE_0_0_7
  have e_hE_3_1_1 := funext hE_3_1_1; subst e_hE_3_1_1
  have e_hE_3_1_2 := funext hE_3_1_2; subst e_hE_3_1_2
  have e_hE_3_1_3 := funext hE_3_1_3; subst e_hE_3_1_3
  have e_hE_3_1_4 := funext hE_3_1_4; subst e_hE_3_1_4
  have e_hE_3_1_5 := funext hE_3_1_5; subst e_hE_3_1_5
  have e_hE_3_1_6 := funext hE_3_1_6; subst e_hE_3_1_6
  have e_hE_3_1_7 := funext hE_3_1_7; subst e_hE_3_1_7
  have e_hE_3_1_8 := funext hE_3_1_8; subst e_hE_3_1_8
  first | with_reducible assumption | ((try and_intros) <;> first | with_reducible assumption | (clear hE_0_0_1 hE_0_0_2 hE_0_0_3 hE_0_0_4 hE_0_0_5 hE_0_0_6 hE_0_0_7 hE_0_0_8 hK_0_0 hE_3_1_1 hE_3_1_2 hE_3_1_3 hE_3_1_4 hE_3_1_5 hE_3_1_6 hE_3_1_7 hE_3_1_8 hK_3_1; omega)) | omega
set_option maxHeartbeats 4000000 in
theorem vc_Re_append_at_g3_4_2 (x1 : Int) (x4 : Int) (x5 : Int) (x8 : Int) (x9 : Int) (x10 : Int) (x12 : Int) (x14 : Int) (x15 : Int) (x17 : Int) (x19 : Int) (x20 : Int) (x22 : Int) (x24 : Int) (x25 : Int) (x27 : Int) (length_0 : Int) (length_1 : Int) (length_3 : Int) (length_5 : Int) (length_7 : Int) (length_8 : Int) (tape_8 : Int → Int) (tape_8o3 : Int → Int) (length_2 : Int) (length_4 : Int) (length_6 : Int) (tape_0 : Int → Int) (tape_1 : Int → Int) (tape_2 : Int → Int) (tape_3 : Int → Int) (tape_4 : Int → Int) (tape_5 : Int → Int) (tape_6 : Int → Int) (tape_7 : Int → Int) (tape_0o3 : Int → Int) (tape_1o3 : Int → Int) (tape_2o3 : Int → Int) (tape_3o3 : Int → Int) (tape_4o3 : Int → Int) (tape_5o3 : Int → Int) (tape_6o3 : Int → Int) (tape_7o3 : Int → Int) (k1 : (-2147483648) ≤ x1 ∧ x1 ≤ 2147483647) (k4 : (-2147483648) ≤ x4 ∧ x4 ≤ 2147483647) (k5 : (-2147483648) ≤ x5 ∧ x5 ≤ 2147483647) (k8 : 0 ≤ x8 ∧ x8 ≤ 1999) (k9 : (-2147483648) ≤ x9 ∧ x9 ≤ 2147483647) (k10 : (-128) ≤ x10 ∧ x10 ≤ 127) (k12 : 1 ≤ x12 ∧ x12 ≤ 1999) (k14 : (-2147483648) ≤ x14 ∧ x14 ≤ 2147483647) (k15 : (-128) ≤ x15 ∧ x15 ≤ 127) (k17 : 2 ≤ x17 ∧ x17 ≤ 1999) (k19 : (-2147483648) ≤ x19 ∧ x19 ≤ 2147483647) (k20 : (-128) ≤ x20 ∧ x20 ≤ 127) (k22 : 3 ≤ x22 ∧ x22 ≤ 1999) (k24 : (-2147483648) ≤ x24 ∧ x24 ≤ 2147483647) (k25 : (-128) ≤ x25 ∧ x25 ≤ 127) (k27 : 4 ≤ x27 ∧ x27 ≤ 2000) (d0 : x22 + 1 ≤ x27 ∧ x27 ≤ x22 + 1) (d1 : x17 + 2 ≤ x27 ∧ x27 ≤ x17 + 2) (d2 : x12 + 3 ≤ x27 ∧ x27 ≤ x12 + 3) (d3 : x8 + 4 ≤ x27 ∧ x27 ≤ x8 + 4) (g0 : x27 = length_0) (g4 : x22 = length_1) (f6 : x25 = (x24 + 128) % 256 - 128) (f7 : x24 = x1 / 1) (g10 : x17 = length_3) (f12 : x20 = (x19 + 128) % 256 - 128) (f13 : x19 = x1 / 256) (g16 : x12 = length_5) (f18 : x15 = (x14 + 128) % 256 - 128) (f19 : x14 = x1 / 65536) (g22 : x8 = length_7) (f26 : x10 = (x9 + 128) % 256 - 128) (f27 : x9 = x1 / 16777216) (f30 : TE2 (length_8) (tape_8) (tape_8o3) (x4) (x5)) (fe_0_1_2 : length_1 = length_2) (fe_0_1_4 : length_3 = length_4) (fe_0_1_6 : length_5 = length_6) (fe_0_1_8 : length_7 = length_8) (hE_0_0_1 : ∀ j : Int, tape_0 j = tape_1 j) (hE_0_0_2 : ∀ j : Int, 0 ≤ j → (j = x22 → tape_1 j = x25) ∧ (j ≠ x22 → tape_1 j = tape_2 j)) (hE_0_0_3 : ∀ j : Int, tape_2 j = tape_3 j) (hE_0_0_4 : ∀ j : Int, 0 ≤ j → (j = x17 → tape_3 j = x20) ∧ (j ≠ x17 → tape_3 j = tape_4 j)) (hE_0_0_5 : ∀ j : Int, tape_4 j = tape_5 j) (hE_0_0_6 : ∀ j : Int, 0 ≤ j → (j = x12 → tape_5 j = x15) ∧ (j ≠ x12 → tape_5 j = tape_6 j)) (hE_0_0_7 : ∀ j : Int, tape_6 j = tape_7 j) (hE_0_0_8 : ∀ j : Int, 0 ≤ j → (j = x8 → tape_7 j = x10) ∧ (j ≠ x8 → tape_7 j = tape_8 j)) (hE_3_1_1 : ∀ j : Int, tape_0o3 j = tape_1o3 j) (hE_3_1_2 : ∀ j : Int, tape_1o3 j = tape_2o3 j) (hE_3_1_3 : ∀ j : Int, tape_2o3 j = tape_3o3 j) (hE_3_1_4 : ∀ j : Int, tape_3o3 j = tape_4o3 j) (hE_3_1_5 : ∀ j : Int, tape_4o3 j = tape_5o3 j) (hE_3_1_6 : ∀ j : Int, tape_5o3 j = tape_6o3 j) (hE_3_1_7 : ∀ j : Int, tape_6o3 j = tape_7o3 j) (hE_3_1_8 : ∀ j : Int, tape_7o3 j = tape_8o3 j) (kz_0_1 : 0 ≤ length_0 ∧ length_0 ≤ 2000) : TE3 (length_0) (tape_0) (tape_0o3) (x4) (x5) (x1) := by
  subst fe_0_1_2
  subst fe_0_1_4
  subst fe_0_1_6
  subst fe_0_1_8
  have e_hE_0_0_1 := funext hE_0_0_1; subst e_hE_0_0_1
  have e_hE_0_0_3 := funext hE_0_0_3; subst e_hE_0_0_3
  have e_hE_0_0_5 := funext hE_0_0_5; subst e_hE_0_0_5
  have e_hE_0_0_7 := funext hE_0_0_7; subst e_hE_0_0_7
  have e_hE_3_1_1 := funext hE_3_1_1; subst e_hE_3_1_1
  have e_hE_3_1_2 := funext hE_3_1_2; subst e_hE_3_1_2
  have e_hE_3_1_3 := funext hE_3_1_3; subst e_hE_3_1_3
  have e_hE_3_1_4 := funext hE_3_1_4; subst e_hE_3_1_4
  have e_hE_3_1_5 := funext hE_3_1_5; subst e_hE_3_1_5
  have e_hE_3_1_6 := funext hE_3_1_6; subst e_hE_3_1_6
  have e_hE_3_1_7 := funext hE_3_1_7; subst e_hE_3_1_7
  have e_hE_3_1_8 := funext hE_3_1_8; subst e_hE_3_1_8
  first | subst g0 | skip
  first | subst g4 | skip
  first | subst g10 | skip
  first | subst g16 | skip
  first | subst g22 | skip
  exact te_s3 ‹TE2 _ _ _ _ _› (by assumption) (by assumption) (by assumption) (by assumption) (by omega) (by omega) (by omega) (by omega) (by omega) (by omega) (by omega) (by omega) (by omega) (by omega)
def o_Re_append_at_g3_4 : or_T := (36, 29, [(0, (2, 0, 0, [8])), (1, (0, -2147483648, 2147483647, [])), (2, (0, 0, 1996, [])), (3, (2, 0, 0, [165])), (4, (0, -2147483648, 2147483647, [])), (5, (0, -2147483648, 2147483647, [])), (7, (2, 0, 0, [109])), (8, (0, 0, 1999, [])), (9, (0, -2147483648, 2147483647, [])), (10, (0, -128, 127, [])), (12, (0, 1, 1999, [])), (14, (0, -2147483648, 2147483647, [])), (15, (0, -128, 127, [])), (17, (0, 2, 1999, [])), (19, (0, -2147483648, 2147483647, [])), (20, (0, -128, 127, [])), (22, (0, 3, 1999, [])), (24, (0, -2147483648, 2147483647, [])), (25, (0, -128, 127, [])), (27, (0, 4, 2000, []))], [(9, [27, 0], [1]), (9, [7, 0], [0]), (101, [0, 27], [1]), (9, [22, 0], [1]), (100, [7, 22, 25], []), (17, [25, 24], []), (11, [24, 1], [1]), (101, [0, 22], [1]), (9, [17, 0], [1]), (100, [7, 17, 20], []), (17, [20, 19], []), (11, [19, 1], [256]), (101, [0, 17], [1]), (9, [12, 0], [1]), (100, [7, 12, 15], []), (17, [15, 14], []), (11, [14, 1], [65536]), (101, [0, 12], [1]), (9, [8, 0], [1]), (20, [0, 2], [30, 0, 1, 1, 1, -1, 0, 0]), (20, [0, 2], [30, 0, -1, 1, 1, 1, 0, 0]), (100, [7, 8, 10], []), (17, [10, 9], []), (11, [9, 1], [16777216]), (20, [0, 3, 4, 5], [60, 1, 2, 1103, 1, 0, 1001])], [], [], [(20, [0, 2], [30, 4, 1, 1, 1, -1, 0, 0]), (20, [0, 2], [30, -4, -1, 1, 1, 1, 0, 0]), (20, [0, 3, 4, 5, 1], [60, 1, 2, 1104, 1, 0, 1001])], [], [(27, 22, 1, 1), (27, 17, 2, 2), (27, 12, 3, 3), (27, 8, 4, 4), (22, 17, 1, 1), (22, 12, 2, 2), (22, 8, 3, 3), (17, 12, 1, 1), (17, 8, 2, 2), (12, 8, 1, 1)])
theorem oo_Re_append_at_g3_4 {kA : Nat → ClassId} : or_ok PRD kA GG o_Re_append_at_g3_4 := by
  refine or_mk fun A ta ws vs hD hth hl => ?_
  intro t0 r0 t1 k1 t2 k2 t3 r3 t4 k4 t5 k5 t7 r7 t8 k8 t9 k9 t10 k10 t12 k12 t14 k14 t15 k15 t17 k17 t19 k19 t20 k20 t22 k22 t24 k24 t25 k25 t27 k27 d0 d1 d2 d3 d4 d5 d6 d7 d8 d9 f0 f1 ta1 w1 le1 s1 f4 ta2 w2 le2 s2 f6 f7 ta3 w3 le3 s3 f10 ta4 w4 le4 s4 f12 f13 ta5 w5 le5 s5 f16 ta6 w6 le6 s6 f18 f19 ta7 w7 le7 s7 f22 f23 f24 ta8 w8 le8 s8 f26 f27 f30
  replace f0 := shm_215 f0
  replace f1 := shm_163 f1
  have s1 : (∀ b j, w_el ws b j = w_el w1 b j) ∧ ∀ b j, w_fd ws b j = if b = v_ad (n_v vs 0) ∧ j = 1 then n_v vs 27 else w_fd w1 b j := s1.2
  replace f4 := shm_215 f4
  have s2 : (∀ b j, w_el w1 b j = if b = v_ad (n_v vs 7) ∧ j = (v_iv (n_v vs 22)).toNat then v_iv (n_v vs 25) else w_el w2 b j) ∧ ∀ b k, w_fd w1 b k = w_fd w2 b k := s2.2
  have s3 : (∀ b j, w_el w2 b j = w_el w3 b j) ∧ ∀ b j, w_fd w2 b j = if b = v_ad (n_v vs 0) ∧ j = 1 then n_v vs 22 else w_fd w3 b j := s3.2
  replace f10 := shm_215 f10
  have s4 : (∀ b j, w_el w3 b j = if b = v_ad (n_v vs 7) ∧ j = (v_iv (n_v vs 17)).toNat then v_iv (n_v vs 20) else w_el w4 b j) ∧ ∀ b k, w_fd w3 b k = w_fd w4 b k := s4.2
  have s5 : (∀ b j, w_el w4 b j = w_el w5 b j) ∧ ∀ b j, w_fd w4 b j = if b = v_ad (n_v vs 0) ∧ j = 1 then n_v vs 17 else w_fd w5 b j := s5.2
  replace f16 := shm_215 f16
  have s6 : (∀ b j, w_el w5 b j = if b = v_ad (n_v vs 7) ∧ j = (v_iv (n_v vs 12)).toNat then v_iv (n_v vs 15) else w_el w6 b j) ∧ ∀ b k, w_fd w5 b k = w_fd w6 b k := s6.2
  have s7 : (∀ b j, w_el w6 b j = w_el w7 b j) ∧ ∀ b j, w_fd w6 b j = if b = v_ad (n_v vs 0) ∧ j = 1 then n_v vs 12 else w_fd w7 b j := s7.2
  replace f22 := shm_215 f22
  have s8 : (∀ b j, w_el w7 b j = if b = v_ad (n_v vs 7) ∧ j = (v_iv (n_v vs 8)).toNat then v_iv (n_v vs 10) else w_el w8 b j) ∧ ∀ b k, w_fd w7 b k = w_fd w8 b k := s8.2
  replace f30 := shm_447 f30
  have ar_0_0_1 : w_ar w1 (n_v vs 0) 0 = w_ar ws (n_v vs 0) 0 := by show v_ad (w_fd w1 _ _) = v_ad (w_fd ws _ _); rw [s1.2, if_neg (fun e => absurd e.2 (by decide))]
  have ar_0_0_2 : w_ar w2 (n_v vs 0) 0 = w_ar ws (n_v vs 0) 0 := by rw [← ar_0_0_1]; show v_ad (w_fd w2 _ _) = v_ad (w_fd w1 _ _); rw [s2.2]
  have ar_0_0_3 : w_ar w3 (n_v vs 0) 0 = w_ar ws (n_v vs 0) 0 := by rw [← ar_0_0_2]; show v_ad (w_fd w3 _ _) = v_ad (w_fd w2 _ _); rw [s3.2, if_neg (fun e => absurd e.2 (by decide))]
  have ar_0_0_4 : w_ar w4 (n_v vs 0) 0 = w_ar ws (n_v vs 0) 0 := by rw [← ar_0_0_3]; show v_ad (w_fd w4 _ _) = v_ad (w_fd w3 _ _); rw [s4.2]
  have ar_0_0_5 : w_ar w5 (n_v vs 0) 0 = w_ar ws (n_v vs 0) 0 := by rw [← ar_0_0_4]; show v_ad (w_fd w5 _ _) = v_ad (w_fd w4 _ _); rw [s5.2, if_neg (fun e => absurd e.2 (by decide))]
  have ar_0_0_6 : w_ar w6 (n_v vs 0) 0 = w_ar ws (n_v vs 0) 0 := by rw [← ar_0_0_5]; show v_ad (w_fd w6 _ _) = v_ad (w_fd w5 _ _); rw [s6.2]
  have ar_0_0_7 : w_ar w7 (n_v vs 0) 0 = w_ar ws (n_v vs 0) 0 := by rw [← ar_0_0_6]; show v_ad (w_fd w7 _ _) = v_ad (w_fd w6 _ _); rw [s7.2, if_neg (fun e => absurd e.2 (by decide))]
  have ar_0_0_8 : w_ar w8 (n_v vs 0) 0 = w_ar ws (n_v vs 0) 0 := by rw [← ar_0_0_7]; show v_ad (w_fd w8 _ _) = v_ad (w_fd w7 _ _); rw [s8.2]
  have cr_0_0 := fdq_95 hD hth r0
  have ar_3_1_1 : w_ar w1 (n_v vs 3) 1 = w_ar ws (n_v vs 3) 1 := by show v_ad (w_fd w1 _ _) = v_ad (w_fd ws _ _); rw [s1.2, if_neg (fun e => by have e1 := e.1; have e2 := r3; rw [e1, r0] at e2; exact absurd (Option.some.inj e2) (by decide))]
  have ar_3_1_2 : w_ar w2 (n_v vs 3) 1 = w_ar ws (n_v vs 3) 1 := by rw [← ar_3_1_1]; show v_ad (w_fd w2 _ _) = v_ad (w_fd w1 _ _); rw [s2.2]
  have ar_3_1_3 : w_ar w3 (n_v vs 3) 1 = w_ar ws (n_v vs 3) 1 := by rw [← ar_3_1_2]; show v_ad (w_fd w3 _ _) = v_ad (w_fd w2 _ _); rw [s3.2, if_neg (fun e => by have e1 := e.1; have e2 := r3; rw [e1, r0] at e2; exact absurd (Option.some.inj e2) (by decide))]
  have ar_3_1_4 : w_ar w4 (n_v vs 3) 1 = w_ar ws (n_v vs 3) 1 := by rw [← ar_3_1_3]; show v_ad (w_fd w4 _ _) = v_ad (w_fd w3 _ _); rw [s4.2]
  have ar_3_1_5 : w_ar w5 (n_v vs 3) 1 = w_ar ws (n_v vs 3) 1 := by rw [← ar_3_1_4]; show v_ad (w_fd w5 _ _) = v_ad (w_fd w4 _ _); rw [s5.2, if_neg (fun e => by have e1 := e.1; have e2 := r3; rw [e1, r0] at e2; exact absurd (Option.some.inj e2) (by decide))]
  have ar_3_1_6 : w_ar w6 (n_v vs 3) 1 = w_ar ws (n_v vs 3) 1 := by rw [← ar_3_1_5]; show v_ad (w_fd w6 _ _) = v_ad (w_fd w5 _ _); rw [s6.2]
  have ar_3_1_7 : w_ar w7 (n_v vs 3) 1 = w_ar ws (n_v vs 3) 1 := by rw [← ar_3_1_6]; show v_ad (w_fd w7 _ _) = v_ad (w_fd w6 _ _); rw [s7.2, if_neg (fun e => by have e1 := e.1; have e2 := r3; rw [e1, r0] at e2; exact absurd (Option.some.inj e2) (by decide))]
  have ar_3_1_8 : w_ar w8 (n_v vs 3) 1 = w_ar ws (n_v vs 3) 1 := by rw [← ar_3_1_7]; show v_ad (w_fd w8 _ _) = v_ad (w_fd w7 _ _); rw [s8.2]
  have cr_3_1 := fdq_39 hD hth r3
  have ad_7 : v_ad (n_v vs 7) = w_ar ws (n_v vs 0) 0 := congrArg v_ad f1
  have g0 : v_iv (n_v vs 27) = w_fi ws (n_v vs 0) 1 := congrArg v_iv f0
  have g4 : v_iv (n_v vs 22) = w_fi w1 (n_v vs 0) 1 := congrArg v_iv f4
  have g10 : v_iv (n_v vs 17) = w_fi w3 (n_v vs 0) 1 := congrArg v_iv f10
  have g16 : v_iv (n_v vs 12) = w_fi w5 (n_v vs 0) 1 := congrArg v_iv f16
  have g22 : v_iv (n_v vs 8) = w_fi w7 (n_v vs 0) 1 := congrArg v_iv f22
  simp only [ar_0_0_8, ar_3_1_8] at f30
  have fe_0_1_2 : w_fi w1 (n_v vs 0) 1 = w_fi w2 (n_v vs 0) 1 := congrArg v_iv (s2.2 _ _)
  have fe_0_1_4 : w_fi w3 (n_v vs 0) 1 = w_fi w4 (n_v vs 0) 1 := congrArg v_iv (s4.2 _ _)
  have fe_0_1_6 : w_fi w5 (n_v vs 0) 1 = w_fi w6 (n_v vs 0) 1 := congrArg v_iv (s6.2 _ _)
  have fe_0_1_8 : w_fi w7 (n_v vs 0) 1 = w_fi w8 (n_v vs 0) 1 := congrArg v_iv (s8.2 _ _)
  have hE_0_0_1 : ∀ j : Int, w_ei ws (w_ar ws (n_v vs 0) 0) j = w_ei w1 (w_ar ws (n_v vs 0) 0) j := fun j => s1.1 _ _
  have hE_0_0_2 : ∀ j : Int, 0 ≤ j → (j = v_iv (n_v vs 22) → w_ei w1 (w_ar ws (n_v vs 0) 0) j = v_iv (n_v vs 25)) ∧ (j ≠ v_iv (n_v vs 22) → w_ei w1 (w_ar ws (n_v vs 0) 0) j = w_ei w2 (w_ar ws (n_v vs 0) 0) j) := fun j hj => ⟨fun h => by unfold w_ei; rw [s2.1, if_pos ⟨ad_7.symm, by rw [h]⟩], fun h => by unfold w_ei; rw [s2.1, if_neg (fun e => h (by have := e.2; omega))]⟩
  have hE_0_0_3 : ∀ j : Int, w_ei w2 (w_ar ws (n_v vs 0) 0) j = w_ei w3 (w_ar ws (n_v vs 0) 0) j := fun j => s3.1 _ _
  have hE_0_0_4 : ∀ j : Int, 0 ≤ j → (j = v_iv (n_v vs 17) → w_ei w3 (w_ar ws (n_v vs 0) 0) j = v_iv (n_v vs 20)) ∧ (j ≠ v_iv (n_v vs 17) → w_ei w3 (w_ar ws (n_v vs 0) 0) j = w_ei w4 (w_ar ws (n_v vs 0) 0) j) := fun j hj => ⟨fun h => by unfold w_ei; rw [s4.1, if_pos ⟨ad_7.symm, by rw [h]⟩], fun h => by unfold w_ei; rw [s4.1, if_neg (fun e => h (by have := e.2; omega))]⟩
  have hE_0_0_5 : ∀ j : Int, w_ei w4 (w_ar ws (n_v vs 0) 0) j = w_ei w5 (w_ar ws (n_v vs 0) 0) j := fun j => s5.1 _ _
  have hE_0_0_6 : ∀ j : Int, 0 ≤ j → (j = v_iv (n_v vs 12) → w_ei w5 (w_ar ws (n_v vs 0) 0) j = v_iv (n_v vs 15)) ∧ (j ≠ v_iv (n_v vs 12) → w_ei w5 (w_ar ws (n_v vs 0) 0) j = w_ei w6 (w_ar ws (n_v vs 0) 0) j) := fun j hj => ⟨fun h => by unfold w_ei; rw [s6.1, if_pos ⟨ad_7.symm, by rw [h]⟩], fun h => by unfold w_ei; rw [s6.1, if_neg (fun e => h (by have := e.2; omega))]⟩
  have hE_0_0_7 : ∀ j : Int, w_ei w6 (w_ar ws (n_v vs 0) 0) j = w_ei w7 (w_ar ws (n_v vs 0) 0) j := fun j => s7.1 _ _
  have hE_0_0_8 : ∀ j : Int, 0 ≤ j → (j = v_iv (n_v vs 8) → w_ei w7 (w_ar ws (n_v vs 0) 0) j = v_iv (n_v vs 10)) ∧ (j ≠ v_iv (n_v vs 8) → w_ei w7 (w_ar ws (n_v vs 0) 0) j = w_ei w8 (w_ar ws (n_v vs 0) 0) j) := fun j hj => ⟨fun h => by unfold w_ei; rw [s8.1, if_pos ⟨ad_7.symm, by rw [h]⟩], fun h => by unfold w_ei; rw [s8.1, if_neg (fun e => h (by have := e.2; omega))]⟩
  have hK_0_0 := elq_33 hD hth cr_0_0
  have hE_3_1_1 : ∀ j : Int, w_ei ws (w_ar ws (n_v vs 3) 1) j = w_ei w1 (w_ar ws (n_v vs 3) 1) j := fun j => s1.1 _ _
  have hE_3_1_2 : ∀ j : Int, w_ei w1 (w_ar ws (n_v vs 3) 1) j = w_ei w2 (w_ar ws (n_v vs 3) 1) j := el_kp s2.1 r7 cr_3_1 (by decide)
  have hE_3_1_3 : ∀ j : Int, w_ei w2 (w_ar ws (n_v vs 3) 1) j = w_ei w3 (w_ar ws (n_v vs 3) 1) j := fun j => s3.1 _ _
  have hE_3_1_4 : ∀ j : Int, w_ei w3 (w_ar ws (n_v vs 3) 1) j = w_ei w4 (w_ar ws (n_v vs 3) 1) j := el_kp s4.1 r7 cr_3_1 (by decide)
  have hE_3_1_5 : ∀ j : Int, w_ei w4 (w_ar ws (n_v vs 3) 1) j = w_ei w5 (w_ar ws (n_v vs 3) 1) j := fun j => s5.1 _ _
  have hE_3_1_6 : ∀ j : Int, w_ei w5 (w_ar ws (n_v vs 3) 1) j = w_ei w6 (w_ar ws (n_v vs 3) 1) j := el_kp s6.1 r7 cr_3_1 (by decide)
  have hE_3_1_7 : ∀ j : Int, w_ei w6 (w_ar ws (n_v vs 3) 1) j = w_ei w7 (w_ar ws (n_v vs 3) 1) j := fun j => s7.1 _ _
  have hE_3_1_8 : ∀ j : Int, w_ei w7 (w_ar ws (n_v vs 3) 1) j = w_ei w8 (w_ar ws (n_v vs 3) 1) j := el_kp s8.1 r7 cr_3_1 (by decide)
  have hK_3_1 := elq_7 hD hth cr_3_1
  have kz_0_1 := fdq_96 hD hth r0
  have nf0 : fc_1 PRD (20, [0, 2], [30, 4, 1, 1, 1, -1, 0, 0]) ws (vs) := ⟨nf_in hl rfl, sgq_444 (vc_Re_append_at_g3_4_0 (v_iv (n_v vs 2)) (v_iv (n_v vs 8)) (v_iv (n_v vs 10)) (v_iv (n_v vs 12)) (v_iv (n_v vs 15)) (v_iv (n_v vs 17)) (v_iv (n_v vs 20)) (v_iv (n_v vs 22)) (v_iv (n_v vs 25)) (v_iv (n_v vs 27)) (w_fi ws (n_v vs 0) 1) (w_fi w1 (n_v vs 0) 1) (w_fi w3 (n_v vs 0) 1) (w_fi w5 (n_v vs 0) 1) (w_fi w7 (n_v vs 0) 1) (w_fi w8 (n_v vs 0) 1) (w_ei w8 (w_ar ws (n_v vs 0) 0)) (w_ei w8 (w_ar ws (n_v vs 3) 1)) (w_fi w2 (n_v vs 0) 1) (w_fi w4 (n_v vs 0) 1) (w_fi w6 (n_v vs 0) 1) (w_ei ws (w_ar ws (n_v vs 0) 0)) (w_ei w1 (w_ar ws (n_v vs 0) 0)) (w_ei w2 (w_ar ws (n_v vs 0) 0)) (w_ei w3 (w_ar ws (n_v vs 0) 0)) (w_ei w4 (w_ar ws (n_v vs 0) 0)) (w_ei w5 (w_ar ws (n_v vs 0) 0)) (w_ei w6 (w_ar ws (n_v vs 0) 0)) (w_ei w7 (w_ar ws (n_v vs 0) 0)) (w_ei ws (w_ar ws (n_v vs 3) 1)) (w_ei w1 (w_ar ws (n_v vs 3) 1)) (w_ei w2 (w_ar ws (n_v vs 3) 1)) (w_ei w3 (w_ar ws (n_v vs 3) 1)) (w_ei w4 (w_ar ws (n_v vs 3) 1)) (w_ei w5 (w_ar ws (n_v vs 3) 1)) (w_ei w6 (w_ar ws (n_v vs 3) 1)) (w_ei w7 (w_ar ws (n_v vs 3) 1)) k2 k8 k10 k12 k15 k17 k20 k22 k25 k27 d0 d1 d2 d3 g0 g4 g10 g16 g22 (shm_436 f23) (shm_437 f24) fe_0_1_2 fe_0_1_4 fe_0_1_6 fe_0_1_8 hE_0_0_1 hE_0_0_2 hE_0_0_3 hE_0_0_4 hE_0_0_5 hE_0_0_6 hE_0_0_7 hE_0_0_8 hK_0_0 hE_3_1_1 hE_3_1_2 hE_3_1_3 hE_3_1_4 hE_3_1_5 hE_3_1_6 hE_3_1_7 hE_3_1_8 hK_3_1 kz_0_1)⟩
  have nf1 : fc_1 PRD (20, [0, 2], [30, -4, -1, 1, 1, 1, 0, 0]) ws (vs) := ⟨nf_in hl rfl, sgq_445 (vc_Re_append_at_g3_4_1 (v_iv (n_v vs 2)) (v_iv (n_v vs 8)) (v_iv (n_v vs 10)) (v_iv (n_v vs 12)) (v_iv (n_v vs 15)) (v_iv (n_v vs 17)) (v_iv (n_v vs 20)) (v_iv (n_v vs 22)) (v_iv (n_v vs 25)) (v_iv (n_v vs 27)) (w_fi ws (n_v vs 0) 1) (w_fi w1 (n_v vs 0) 1) (w_fi w3 (n_v vs 0) 1) (w_fi w5 (n_v vs 0) 1) (w_fi w7 (n_v vs 0) 1) (w_fi w8 (n_v vs 0) 1) (w_ei w8 (w_ar ws (n_v vs 0) 0)) (w_ei w8 (w_ar ws (n_v vs 3) 1)) (w_fi w2 (n_v vs 0) 1) (w_fi w4 (n_v vs 0) 1) (w_fi w6 (n_v vs 0) 1) (w_ei ws (w_ar ws (n_v vs 0) 0)) (w_ei w1 (w_ar ws (n_v vs 0) 0)) (w_ei w2 (w_ar ws (n_v vs 0) 0)) (w_ei w3 (w_ar ws (n_v vs 0) 0)) (w_ei w4 (w_ar ws (n_v vs 0) 0)) (w_ei w5 (w_ar ws (n_v vs 0) 0)) (w_ei w6 (w_ar ws (n_v vs 0) 0)) (w_ei w7 (w_ar ws (n_v vs 0) 0)) (w_ei ws (w_ar ws (n_v vs 3) 1)) (w_ei w1 (w_ar ws (n_v vs 3) 1)) (w_ei w2 (w_ar ws (n_v vs 3) 1)) (w_ei w3 (w_ar ws (n_v vs 3) 1)) (w_ei w4 (w_ar ws (n_v vs 3) 1)) (w_ei w5 (w_ar ws (n_v vs 3) 1)) (w_ei w6 (w_ar ws (n_v vs 3) 1)) (w_ei w7 (w_ar ws (n_v vs 3) 1)) k2 k8 k10 k12 k15 k17 k20 k22 k25 k27 d0 d1 d2 d3 g0 g4 g10 g16 g22 (shm_436 f23) (shm_437 f24) fe_0_1_2 fe_0_1_4 fe_0_1_6 fe_0_1_8 hE_0_0_1 hE_0_0_2 hE_0_0_3 hE_0_0_4 hE_0_0_5 hE_0_0_6 hE_0_0_7 hE_0_0_8 hK_0_0 hE_3_1_1 hE_3_1_2 hE_3_1_3 hE_3_1_4 hE_3_1_5 hE_3_1_6 hE_3_1_7 hE_3_1_8 hK_3_1 kz_0_1)⟩
  have nf2 : fc_1 PRD (20, [0, 3, 4, 5, 1], [60, 1, 2, 1104, 1, 0, 1001]) ws (vs) := ⟨nf_in hl rfl, sgq_448 (vc_Re_append_at_g3_4_2 (v_iv (n_v vs 1)) (v_iv (n_v vs 4)) (v_iv (n_v vs 5)) (v_iv (n_v vs 8)) (v_iv (n_v vs 9)) (v_iv (n_v vs 10)) (v_iv (n_v vs 12)) (v_iv (n_v vs 14)) (v_iv (n_v vs 15)) (v_iv (n_v vs 17)) (v_iv (n_v vs 19)) (v_iv (n_v vs 20)) (v_iv (n_v vs 22)) (v_iv (n_v vs 24)) (v_iv (n_v vs 25)) (v_iv (n_v vs 27)) (w_fi ws (n_v vs 0) 1) (w_fi w1 (n_v vs 0) 1) (w_fi w3 (n_v vs 0) 1) (w_fi w5 (n_v vs 0) 1) (w_fi w7 (n_v vs 0) 1) (w_fi w8 (n_v vs 0) 1) (w_ei w8 (w_ar ws (n_v vs 0) 0)) (w_ei w8 (w_ar ws (n_v vs 3) 1)) (w_fi w2 (n_v vs 0) 1) (w_fi w4 (n_v vs 0) 1) (w_fi w6 (n_v vs 0) 1) (w_ei ws (w_ar ws (n_v vs 0) 0)) (w_ei w1 (w_ar ws (n_v vs 0) 0)) (w_ei w2 (w_ar ws (n_v vs 0) 0)) (w_ei w3 (w_ar ws (n_v vs 0) 0)) (w_ei w4 (w_ar ws (n_v vs 0) 0)) (w_ei w5 (w_ar ws (n_v vs 0) 0)) (w_ei w6 (w_ar ws (n_v vs 0) 0)) (w_ei w7 (w_ar ws (n_v vs 0) 0)) (w_ei ws (w_ar ws (n_v vs 3) 1)) (w_ei w1 (w_ar ws (n_v vs 3) 1)) (w_ei w2 (w_ar ws (n_v vs 3) 1)) (w_ei w3 (w_ar ws (n_v vs 3) 1)) (w_ei w4 (w_ar ws (n_v vs 3) 1)) (w_ei w5 (w_ar ws (n_v vs 3) 1)) (w_ei w6 (w_ar ws (n_v vs 3) 1)) (w_ei w7 (w_ar ws (n_v vs 3) 1)) k1 k4 k5 k8 k9 k10 k12 k14 k15 k17 k19 k20 k22 k24 k25 k27 d0 d1 d2 d3 g0 g4 (shm_439 f6) (shm_443 f7) g10 (shm_439 f12) (shm_442 f13) g16 (shm_439 f18) (shm_440 f19) g22 (shm_439 f26) (shm_441 f27) f30 fe_0_1_2 fe_0_1_4 fe_0_1_6 fe_0_1_8 hE_0_0_1 hE_0_0_2 hE_0_0_3 hE_0_0_4 hE_0_0_5 hE_0_0_6 hE_0_0_7 hE_0_0_8 hE_3_1_1 hE_3_1_2 hE_3_1_3 hE_3_1_4 hE_3_1_5 hE_3_1_6 hE_3_1_7 hE_3_1_8 kz_0_1)⟩
  refine ⟨(fun _ h => (by cases h)), [], trivial, ?_, (fun _ h => (by cases h))⟩
  rw [List.append_nil]
  exact List.forall_mem_cons.mpr ⟨⟨show (20 : Nat) < 100 from by decide, nf0⟩, List.forall_mem_cons.mpr ⟨⟨show (20 : Nat) < 100 from by decide, nf1⟩, List.forall_mem_cons.mpr ⟨⟨show (20 : Nat) < 100 from by decide, nf2⟩, (fun _ h => (by cases h))⟩⟩⟩
set_option maxRecDepth 100000 in
theorem c_Re_append_at_g3 {l : Launch} {D : va_G} {kA : Nat → ClassId} : ct_ok PRD l D kA GG y_Re_append_at_g3 z_Re_append_at_g3 e_Re_append_at_g3 := chk_all_ok (FT := [(9, 8, 0), (15, 8, 1)]) (PT := [(15, 8, 1, .int)]) (CT := t_Re_append_at_g3_ct) (KT := []) (NT := []) (AN := n_Re_append_at_g3_an) (OT := [o_Re_append_at_g3_0, o_Re_append_at_g3_1, o_Re_append_at_g3_2, o_Re_append_at_g3_3, o_Re_append_at_g3_4]) 0 324 (List.forall_mem_cons.mpr ⟨oo_Re_append_at_g3_0, List.forall_mem_cons.mpr ⟨oo_Re_append_at_g3_1, List.forall_mem_cons.mpr ⟨oo_Re_append_at_g3_2, List.forall_mem_cons.mpr ⟨oo_Re_append_at_g3_3, List.forall_mem_cons.mpr ⟨oo_Re_append_at_g3_4, List.forall_mem_nil _⟩⟩⟩⟩⟩) (by decide +kernel) ⟨List.forall_mem_cons.mpr ⟨gf_Re_9, List.forall_mem_cons.mpr ⟨gf_Re_15, List.forall_mem_nil _⟩⟩, List.forall_mem_cons.mpr ⟨pf_Re_15, List.forall_mem_nil _⟩, List.forall_mem_nil _, List.forall_mem_nil _, List.forall_mem_nil _, GG_pl⟩ (by decide +kernel)
