theorem oo_Mo_of_at_s5002_25 {kA : Nat → ClassId} : or_ok PRD kA GG o_Mo_of_at_s5002_25 := by
  refine or_mk fun A ta ws vs hD hth hl => ?_
  intro t0 r0 t2 k2 t3 k3 t5 r5 t7 k7 t9 k9 t13 k13 t15 k15 t21 k21 f0 f1 f2 f3 f4 f5 f6 f7 f8 f9 f10 f11 f12 f13 f14 ta1 w1 le1 s1 f16 f17 f18 f19 f20 f21 ta2 w2 le2 s2 f23 f24 f25 f26 f27 f28 ta3 w3 le3 s3 f30 f31
  replace f0 := shm_142 f0
  replace f1 := shm_143 f1
  replace f2 := shm_210 f2
  replace f3 := shm_7 f3
  replace f4 := shm_22 f4
  replace f5 := shm_211 f5
  replace f6 := shm_1894 f6
  replace f7 := shm_211 f7
  replace f8 := shm_1894 f8
  replace f9 := shm_5 f9
  replace f11 := shm_1397 f11
  replace f12 := shm_1398 f12
  replace f13 := shm_1395 f13
  replace f14 := shm_144 f14
  replace f16 := shm_7 f16
  replace f17 := shm_22 f17
  replace f18 := shm_211 f18
  replace f19 := shm_1894 f19
  replace f20 := shm_211 f20
  replace f21 := shm_1894 f21
  replace f23 := shm_7 f23
  replace f24 := shm_22 f24
  replace f25 := shm_211 f25
  replace f26 := shm_1894 f26
  replace f27 := shm_211 f27
  replace f28 := shm_1894 f28
  replace f30 := shm_211 f30
  replace f31 := shm_1894 f31
  have q5 : n_v vs 5 = n_v vs 0 := f9.symm
  simp only [q5] at f1 f11 f12 f13 f14
  have g1 : v_iv (n_v vs 21) = w_fi ws (n_v vs 0) 8 := congrArg v_iv f1
  have kz_0_8 := fdq_14 hD hth r0
  have kz_0_11 := fdq_273 hD hth r0
  have kz_0_12 := fdq_186 hD hth r0
  have kz_0_15 := fdq_274 hD hth r0
  obtain ⟨x, ex, hx⟩ := iv_ex (ta := ta) (lo := 0) (hi := 2000) (z := w_fi ws (n_v vs 0) 11) (by omega) (by omega) (by omega) (by omega)
  have ex2 : v_iv (Value.int x) = w_fi ws (n_v vs 0) 11 := ex
  have ex3 : 0 ≤ v_iv (Value.int x) ∧ v_iv (Value.int x) ≤ 2000 := tv_rng hx
  have e_3 : n_v (vs ++ [Value.int x]) 3 = n_v vs 3 := n_v_old (by rw [hl]; decide)
  have e_5 : n_v (vs ++ [Value.int x]) 5 = n_v vs 5 := n_v_old (by rw [hl]; decide)
  have e_9 : n_v (vs ++ [Value.int x]) 9 = n_v vs 9 := n_v_old (by rw [hl]; decide)
  have e_25 : n_v (vs ++ [Value.int x]) 25 = Value.int x := n_v_new hl
  have nf0 : fc_1 PRD (20, [25, 5], [30, 0, 1, 0, 0, -1, 1, 11]) ws (vs ++ [Value.int x]) := by
    refine ⟨nf_inA hl rfl, sgq_1395 ?_⟩
    · show 1 * v_iv (n_v (vs ++ [Value.int x]) 25) + ((-1) * w_fi ws (n_v (vs ++ [Value.int x]) 5) 11 + 0) ≤ 0
      simp only [e_5, e_25, q5]
      exact vc_Mo_of_at_s5002_25_0 (v_iv (n_v vs 2)) (v_iv (n_v vs 3)) (v_iv (n_v vs 7)) (v_iv (n_v vs 9)) (v_iv (n_v vs 13)) (v_iv (n_v vs 15)) (v_iv (n_v vs 21)) (w_fi ws (n_v vs 0) 8) (w_fi ws (n_v vs 0) 15) (w_fi ws (n_v vs 0) 11) (w_fi ws (n_v vs 0) 12) (v_iv (Value.int x)) k2 k3 k7 k9 k13 k15 k21 f0 g1 f2 f3 f4 f5 f6 f7 f8 f11 f12 f13 f14 f16 f17 f18 f19 f20 f21 f23 f24 f25 f26 f27 f28 f30 f31 kz_0_8 kz_0_11 kz_0_12 kz_0_15 ex2 ex3
  have nf1 : fc_1 PRD (23, [3, 25], [-1, 1, -1]) ws (vs ++ [Value.int x]) := by
    refine ⟨nf_inA hl rfl, sgq_211 ?_⟩
    · show 1 * v_iv (n_v (vs ++ [Value.int x]) 3) + ((-1) * v_iv (n_v (vs ++ [Value.int x]) 25) + 0) ≤ (-1)
      simp only [e_3, e_25]
      exact vc_Mo_of_at_s5002_25_1 (v_iv (n_v vs 2)) (v_iv (n_v vs 3)) (v_iv (n_v vs 7)) (v_iv (n_v vs 9)) (v_iv (n_v vs 13)) (v_iv (n_v vs 15)) (v_iv (n_v vs 21)) (w_fi ws (n_v vs 0) 8) (w_fi ws (n_v vs 0) 15) (w_fi ws (n_v vs 0) 11) (w_fi ws (n_v vs 0) 12) (v_iv (Value.int x)) k2 k3 k7 k9 k13 k15 k21 f0 g1 f2 f3 f4 f5 f6 f7 f8 f11 f12 f13 f14 f16 f17 f18 f19 f20 f21 f23 f24 f25 f26 f27 f28 f30 f31 kz_0_8 kz_0_11 kz_0_12 kz_0_15 ex2 ex3
  have nf2 : fc_1 PRD (23, [9, 25], [-2001, -1, -1]) ws (vs ++ [Value.int x]) := by
    refine ⟨nf_inA hl rfl, sgq_1895 ?_⟩
    · show (-1) * v_iv (n_v (vs ++ [Value.int x]) 9) + ((-1) * v_iv (n_v (vs ++ [Value.int x]) 25) + 0) ≤ (-2001)
      simp only [e_9, e_25]
      exact vc_Mo_of_at_s5002_25_2 (v_iv (n_v vs 2)) (v_iv (n_v vs 3)) (v_iv (n_v vs 7)) (v_iv (n_v vs 9)) (v_iv (n_v vs 13)) (v_iv (n_v vs 15)) (v_iv (n_v vs 21)) (w_fi ws (n_v vs 0) 8) (w_fi ws (n_v vs 0) 15) (w_fi ws (n_v vs 0) 11) (w_fi ws (n_v vs 0) 12) (v_iv (Value.int x)) k2 k3 k7 k9 k13 k15 k21 f0 g1 f2 f3 f4 f5 f6 f7 f8 f11 f12 f13 f14 f16 f17 f18 f19 f20 f21 f23 f24 f25 f26 f27 f28 f30 f31 kz_0_8 kz_0_11 kz_0_12 kz_0_15 ex2 ex3
  exact ⟨(fun _ h => (by cases h)), [Value.int x], ag_one hx, List.forall_mem_cons.mpr ⟨⟨show (20 : Nat) < 100 from by decide, nf0⟩, List.forall_mem_cons.mpr ⟨⟨show (23 : Nat) < 100 from by decide, nf1⟩, List.forall_mem_cons.mpr ⟨⟨show (23 : Nat) < 100 from by decide, nf2⟩, (fun _ h => (by cases h))⟩⟩⟩, (fun _ h => (by cases h))⟩
set_option maxHeartbeats 4000000 in
theorem vc_Mo_of_at_s5002_26_0 (x2 : Int) (x3 : Int) (x4 : Int) (x7 : Int) (x8 : Int) (x9 : Int) (x13 : Int) (x15 : Int) (x22 : Int) (x25 : Int) (fault_0 : Int) (from_0 : Int) (pos_0 : Int) (kind_0 : Int) (gx : Int) (k2 : 99 ≤ x2 ∧ x2 ≤ 99) (k3 : 0 ≤ x3 ∧ x3 ≤ 2000) (k4 : (-1) ≤ x4 ∧ x4 ≤ 48) (k7 : 99 ≤ x7 ∧ x7 ≤ 99) (k8 : (-2147483648) ≤ x8 ∧ x8 ≤ 0) (k9 : 0 ≤ x9 ∧ x9 ≤ 2000) (k13 : 0 ≤ x13 ∧ x13 ≤ 2000) (k15 : 0 ≤ x15 ∧ x15 ≤ 2000) (k22 : 1 ≤ x22 ∧ x22 ≤ 99) (k25 : 0 ≤ x25 ∧ x25 ≤ 2000) (f0 : 1 * x3 + ((-1) * x25 + 0) ≤ (-1)) (f1 : (-1) * x9 + ((-1) * x25 + 0) ≤ (-2001)) (f2 : 1 * x22 + ((-1) * x2 + 0) ≤ 0) (f3 : (-1) * x22 + 0 ≤ 0) (f4 : 1 * x15 + ((-1) * x13 + 0) ≤ 0) (f5 : (-1) * x15 + (1 * x13 + 0) ≤ 0) (f6 : 1 * x3 + ((-1) * x15 + 0) ≤ (-1)) (f7 : (-1) * x9 + ((-1) * x15 + 0) ≤ (-2000)) (f8 : 1 * x3 + ((-1) * x13 + 0) ≤ (-1)) (f9 : (-1) * x9 + ((-1) * x13 + 0) ≤ (-2000)) (f10 : 1 * x8 + ((-1) * x2 + 0) ≤ 0) (f11 : (-1) * x8 + 0 ≤ 0) (f12 : (-1) * x4 + 0 ≤ 0) (f15 : (-1) * fault_0 + 0 ≤ (-1)) (f16 : 1 * from_0 + ((-1) * pos_0 + 0) ≤ 0) (f17 : ((kind_0 = 1) → (pos_0 ≤ (from_0 + 8))) ∧ ((kind_0 = 0) ∨ ((from_0 + 1) ≤ pos_0))) (f18 : 1 * x25 + ((-1) * from_0 + 0) ≤ 0) (f20 : 1 * x3 + ((-1) * x25 + 0) ≤ (-1)) (f21 : (-1) * x9 + ((-1) * x25 + 0) ≤ (-2001)) (f22 : 1 * x22 + ((-1) * x2 + 0) ≤ 0) (f23 : (-1) * x22 + 0 ≤ 0) (f24 : 1 * x15 + ((-1) * x13 + 0) ≤ 0) (f25 : (-1) * x15 + (1 * x13 + 0) ≤ 0) (f26 : 1 * x3 + ((-1) * x15 + 0) ≤ (-1)) (f27 : (-1) * x9 + ((-1) * x15 + 0) ≤ (-2000)) (f28 : 1 * x3 + ((-1) * x13 + 0) ≤ (-1)) (f29 : (-1) * x9 + ((-1) * x13 + 0) ≤ (-2000)) (f30 : 1 * x8 + ((-1) * x2 + 0) ≤ 0) (f31 : (-1) * x8 + 0 ≤ 0) (f32 : (-1) * x4 + 0 ≤ 0) (f34 : 1 * x15 + ((-1) * x13 + 0) ≤ 0) (f35 : (-1) * x15 + (1 * x13 + 0) ≤ 0) (f36 : 1 * x3 + ((-1) * x15 + 0) ≤ (-1)) (f37 : (-1) * x9 + ((-1) * x15 + 0) ≤ (-2000)) (f38 : 1 * x3 + ((-1) * x13 + 0) ≤ (-1)) (f39 : (-1) * x9 + ((-1) * x13 + 0) ≤ (-2000)) (f40 : 1 * x8 + ((-1) * x2 + 0) ≤ 0) (f41 : (-1) * x8 + 0 ≤ 0) (f42 : (-1) * x4 + 0 ≤ 0) (f44 : 1 * x15 + ((-1) * x13 + 0) ≤ 0) (f45 : (-1) * x15 + (1 * x13 + 0) ≤ 0) (f46 : 1 * x3 + ((-1) * x15 + 0) ≤ (-1)) (f47 : (-1) * x9 + ((-1) * x15 + 0) ≤ (-2000)) (f48 : 1 * x3 + ((-1) * x13 + 0) ≤ (-1)) (f49 : (-1) * x9 + ((-1) * x13 + 0) ≤ (-2000)) (f50 : 1 * x8 + ((-1) * x2 + 0) ≤ 0) (f51 : (-1) * x8 + 0 ≤ 0) (f52 : (-1) * x4 + 0 ≤ 0) (f54 : 1 * x3 + ((-1) * x13 + 0) ≤ (-1)) (f55 : (-1) * x9 + ((-1) * x13 + 0) ≤ (-2000)) (f56 : x8 ≤ 0) (f57 : 1 * x8 + ((-1) * x2 + 0) ≤ 0) (f58 : (-1) * x8 + 0 ≤ 0) (f59 : (-1) * x4 + 0 ≤ 0) (f61 : 1 * x8 + ((-1) * x2 + 0) ≤ 0) (f62 : (-1) * x8 + 0 ≤ 0) (f63 : (-1) * x4 + 0 ≤ 0) (kz_0_8 : 0 ≤ fault_0 ∧ fault_0 ≤ 5) (kz_0_11 : 0 ≤ pos_0 ∧ pos_0 ≤ 2000) (kz_0_12 : 0 ≤ kind_0 ∧ kind_0 ≤ 4) (kz_0_15 : 0 ≤ from_0 ∧ from_0 ≤ 2000) (ex2 : gx = 0 + (1 * x9 + 0)) (ex3 : 0 ≤ gx ∧ gx ≤ 2000) : 1 * from_0 + ((-1) * pos_0 + 0) ≤ 0 := by
  first | assumption | (clear f17; omega) | omega | grind
set_option maxHeartbeats 4000000 in
theorem vc_Mo_of_at_s5002_26_1 (x2 : Int) (x3 : Int) (x4 : Int) (x7 : Int) (x8 : Int) (x9 : Int) (x13 : Int) (x15 : Int) (x22 : Int) (x25 : Int) (fault_0 : Int) (from_0 : Int) (pos_0 : Int) (kind_0 : Int) (gx : Int) (k2 : 99 ≤ x2 ∧ x2 ≤ 99) (k3 : 0 ≤ x3 ∧ x3 ≤ 2000) (k4 : (-1) ≤ x4 ∧ x4 ≤ 48) (k7 : 99 ≤ x7 ∧ x7 ≤ 99) (k8 : (-2147483648) ≤ x8 ∧ x8 ≤ 0) (k9 : 0 ≤ x9 ∧ x9 ≤ 2000) (k13 : 0 ≤ x13 ∧ x13 ≤ 2000) (k15 : 0 ≤ x15 ∧ x15 ≤ 2000) (k22 : 1 ≤ x22 ∧ x22 ≤ 99) (k25 : 0 ≤ x25 ∧ x25 ≤ 2000) (f0 : 1 * x3 + ((-1) * x25 + 0) ≤ (-1)) (f1 : (-1) * x9 + ((-1) * x25 + 0) ≤ (-2001)) (f2 : 1 * x22 + ((-1) * x2 + 0) ≤ 0) (f3 : (-1) * x22 + 0 ≤ 0) (f4 : 1 * x15 + ((-1) * x13 + 0) ≤ 0) (f5 : (-1) * x15 + (1 * x13 + 0) ≤ 0) (f6 : 1 * x3 + ((-1) * x15 + 0) ≤ (-1)) (f7 : (-1) * x9 + ((-1) * x15 + 0) ≤ (-2000)) (f8 : 1 * x3 + ((-1) * x13 + 0) ≤ (-1)) (f9 : (-1) * x9 + ((-1) * x13 + 0) ≤ (-2000)) (f10 : 1 * x8 + ((-1) * x2 + 0) ≤ 0) (f11 : (-1) * x8 + 0 ≤ 0) (f12 : (-1) * x4 + 0 ≤ 0) (f15 : (-1) * fault_0 + 0 ≤ (-1)) (f16 : 1 * from_0 + ((-1) * pos_0 + 0) ≤ 0) (f17 : ((kind_0 = 1) → (pos_0 ≤ (from_0 + 8))) ∧ ((kind_0 = 0) ∨ ((from_0 + 1) ≤ pos_0))) (f18 : 1 * x25 + ((-1) * from_0 + 0) ≤ 0) (f20 : 1 * x3 + ((-1) * x25 + 0) ≤ (-1)) (f21 : (-1) * x9 + ((-1) * x25 + 0) ≤ (-2001)) (f22 : 1 * x22 + ((-1) * x2 + 0) ≤ 0) (f23 : (-1) * x22 + 0 ≤ 0) (f24 : 1 * x15 + ((-1) * x13 + 0) ≤ 0) (f25 : (-1) * x15 + (1 * x13 + 0) ≤ 0) (f26 : 1 * x3 + ((-1) * x15 + 0) ≤ (-1)) (f27 : (-1) * x9 + ((-1) * x15 + 0) ≤ (-2000)) (f28 : 1 * x3 + ((-1) * x13 + 0) ≤ (-1)) (f29 : (-1) * x9 + ((-1) * x13 + 0) ≤ (-2000)) (f30 : 1 * x8 + ((-1) * x2 + 0) ≤ 0) (f31 : (-1) * x8 + 0 ≤ 0) (f32 : (-1) * x4 + 0 ≤ 0) (f34 : 1 * x15 + ((-1) * x13 + 0) ≤ 0) (f35 : (-1) * x15 + (1 * x13 + 0) ≤ 0) (f36 : 1 * x3 + ((-1) * x15 + 0) ≤ (-1)) (f37 : (-1) * x9 + ((-1) * x15 + 0) ≤ (-2000)) (f38 : 1 * x3 + ((-1) * x13 + 0) ≤ (-1)) (f39 : (-1) * x9 + ((-1) * x13 + 0) ≤ (-2000)) (f40 : 1 * x8 + ((-1) * x2 + 0) ≤ 0) (f41 : (-1) * x8 + 0 ≤ 0) (f42 : (-1) * x4 + 0 ≤ 0) (f44 : 1 * x15 + ((-1) * x13 + 0) ≤ 0) (f45 : (-1) * x15 + (1 * x13 + 0) ≤ 0) (f46 : 1 * x3 + ((-1) * x15 + 0) ≤ (-1)) (f47 : (-1) * x9 + ((-1) * x15 + 0) ≤ (-2000)) (f48 : 1 * x3 + ((-1) * x13 + 0) ≤ (-1)) (f49 : (-1) * x9 + ((-1) * x13 + 0) ≤ (-2000)) (f50 : 1 * x8 + ((-1) * x2 + 0) ≤ 0) (f51 : (-1) * x8 + 0 ≤ 0) (f52 : (-1) * x4 + 0 ≤ 0) (f54 : 1 * x3 + ((-1) * x13 + 0) ≤ (-1)) (f55 : (-1) * x9 + ((-1) * x13 + 0) ≤ (-2000)) (f56 : x8 ≤ 0) (f57 : 1 * x8 + ((-1) * x2 + 0) ≤ 0) (f58 : (-1) * x8 + 0 ≤ 0) (f59 : (-1) * x4 + 0 ≤ 0) (f61 : 1 * x8 + ((-1) * x2 + 0) ≤ 0) (f62 : (-1) * x8 + 0 ≤ 0) (f63 : (-1) * x4 + 0 ≤ 0) (kz_0_8 : 0 ≤ fault_0 ∧ fault_0 ≤ 5) (kz_0_11 : 0 ≤ pos_0 ∧ pos_0 ≤ 2000) (kz_0_12 : 0 ≤ kind_0 ∧ kind_0 ≤ 4) (kz_0_15 : 0 ≤ from_0 ∧ from_0 ≤ 2000) (ex2 : gx = 0 + (1 * x9 + 0)) (ex3 : 0 ≤ gx ∧ gx ≤ 2000) : ((kind_0 = 1) → (pos_0 ≤ (from_0 + 8))) ∧ ((kind_0 = 0) ∨ ((from_0 + 1) ≤ pos_0)) := by
  first | assumption | (clear f17; omega) | omega | grind
set_option maxHeartbeats 4000000 in
theorem vc_Mo_of_at_s5002_26_2 (x2 : Int) (x3 : Int) (x4 : Int) (x7 : Int) (x8 : Int) (x9 : Int) (x13 : Int) (x15 : Int) (x22 : Int) (x25 : Int) (fault_0 : Int) (from_0 : Int) (pos_0 : Int) (kind_0 : Int) (gx : Int) (k2 : 99 ≤ x2 ∧ x2 ≤ 99) (k3 : 0 ≤ x3 ∧ x3 ≤ 2000) (k4 : (-1) ≤ x4 ∧ x4 ≤ 48) (k7 : 99 ≤ x7 ∧ x7 ≤ 99) (k8 : (-2147483648) ≤ x8 ∧ x8 ≤ 0) (k9 : 0 ≤ x9 ∧ x9 ≤ 2000) (k13 : 0 ≤ x13 ∧ x13 ≤ 2000) (k15 : 0 ≤ x15 ∧ x15 ≤ 2000) (k22 : 1 ≤ x22 ∧ x22 ≤ 99) (k25 : 0 ≤ x25 ∧ x25 ≤ 2000) (f0 : 1 * x3 + ((-1) * x25 + 0) ≤ (-1)) (f1 : (-1) * x9 + ((-1) * x25 + 0) ≤ (-2001)) (f2 : 1 * x22 + ((-1) * x2 + 0) ≤ 0) (f3 : (-1) * x22 + 0 ≤ 0) (f4 : 1 * x15 + ((-1) * x13 + 0) ≤ 0) (f5 : (-1) * x15 + (1 * x13 + 0) ≤ 0) (f6 : 1 * x3 + ((-1) * x15 + 0) ≤ (-1)) (f7 : (-1) * x9 + ((-1) * x15 + 0) ≤ (-2000)) (f8 : 1 * x3 + ((-1) * x13 + 0) ≤ (-1)) (f9 : (-1) * x9 + ((-1) * x13 + 0) ≤ (-2000)) (f10 : 1 * x8 + ((-1) * x2 + 0) ≤ 0) (f11 : (-1) * x8 + 0 ≤ 0) (f12 : (-1) * x4 + 0 ≤ 0) (f15 : (-1) * fault_0 + 0 ≤ (-1)) (f16 : 1 * from_0 + ((-1) * pos_0 + 0) ≤ 0) (f17 : ((kind_0 = 1) → (pos_0 ≤ (from_0 + 8))) ∧ ((kind_0 = 0) ∨ ((from_0 + 1) ≤ pos_0))) (f18 : 1 * x25 + ((-1) * from_0 + 0) ≤ 0) (f20 : 1 * x3 + ((-1) * x25 + 0) ≤ (-1)) (f21 : (-1) * x9 + ((-1) * x25 + 0) ≤ (-2001)) (f22 : 1 * x22 + ((-1) * x2 + 0) ≤ 0) (f23 : (-1) * x22 + 0 ≤ 0) (f24 : 1 * x15 + ((-1) * x13 + 0) ≤ 0) (f25 : (-1) * x15 + (1 * x13 + 0) ≤ 0) (f26 : 1 * x3 + ((-1) * x15 + 0) ≤ (-1)) (f27 : (-1) * x9 + ((-1) * x15 + 0) ≤ (-2000)) (f28 : 1 * x3 + ((-1) * x13 + 0) ≤ (-1)) (f29 : (-1) * x9 + ((-1) * x13 + 0) ≤ (-2000)) (f30 : 1 * x8 + ((-1) * x2 + 0) ≤ 0) (f31 : (-1) * x8 + 0 ≤ 0) (f32 : (-1) * x4 + 0 ≤ 0) (f34 : 1 * x15 + ((-1) * x13 + 0) ≤ 0) (f35 : (-1) * x15 + (1 * x13 + 0) ≤ 0) (f36 : 1 * x3 + ((-1) * x15 + 0) ≤ (-1)) (f37 : (-1) * x9 + ((-1) * x15 + 0) ≤ (-2000)) (f38 : 1 * x3 + ((-1) * x13 + 0) ≤ (-1)) (f39 : (-1) * x9 + ((-1) * x13 + 0) ≤ (-2000)) (f40 : 1 * x8 + ((-1) * x2 + 0) ≤ 0) (f41 : (-1) * x8 + 0 ≤ 0) (f42 : (-1) * x4 + 0 ≤ 0) (f44 : 1 * x15 + ((-1) * x13 + 0) ≤ 0) (f45 : (-1) * x15 + (1 * x13 + 0) ≤ 0) (f46 : 1 * x3 + ((-1) * x15 + 0) ≤ (-1)) (f47 : (-1) * x9 + ((-1) * x15 + 0) ≤ (-2000)) (f48 : 1 * x3 + ((-1) * x13 + 0) ≤ (-1)) (f49 : (-1) * x9 + ((-1) * x13 + 0) ≤ (-2000)) (f50 : 1 * x8 + ((-1) * x2 + 0) ≤ 0) (f51 : (-1) * x8 + 0 ≤ 0) (f52 : (-1) * x4 + 0 ≤ 0) (f54 : 1 * x3 + ((-1) * x13 + 0) ≤ (-1)) (f55 : (-1) * x9 + ((-1) * x13 + 0) ≤ (-2000)) (f56 : x8 ≤ 0) (f57 : 1 * x8 + ((-1) * x2 + 0) ≤ 0) (f58 : (-1) * x8 + 0 ≤ 0) (f59 : (-1) * x4 + 0 ≤ 0) (f61 : 1 * x8 + ((-1) * x2 + 0) ≤ 0) (f62 : (-1) * x8 + 0 ≤ 0) (f63 : (-1) * x4 + 0 ≤ 0) (kz_0_8 : 0 ≤ fault_0 ∧ fault_0 ≤ 5) (kz_0_11 : 0 ≤ pos_0 ∧ pos_0 ≤ 2000) (kz_0_12 : 0 ≤ kind_0 ∧ kind_0 ≤ 4) (kz_0_15 : 0 ≤ from_0 ∧ from_0 ≤ 2000) (ex2 : gx = 0 + (1 * x9 + 0)) (ex3 : 0 ≤ gx ∧ gx ≤ 2000) : 1 * x3 + ((-1) * pos_0 + 0) ≤ (-1) := by
  first | assumption | (clear f17; omega) | omega | grind
set_option maxHeartbeats 4000000 in
theorem vc_Mo_of_at_s5002_26_3 (x2 : Int) (x3 : Int) (x4 : Int) (x7 : Int) (x8 : Int) (x9 : Int) (x13 : Int) (x15 : Int) (x22 : Int) (x25 : Int) (fault_0 : Int) (from_0 : Int) (pos_0 : Int) (kind_0 : Int) (gx : Int) (k2 : 99 ≤ x2 ∧ x2 ≤ 99) (k3 : 0 ≤ x3 ∧ x3 ≤ 2000) (k4 : (-1) ≤ x4 ∧ x4 ≤ 48) (k7 : 99 ≤ x7 ∧ x7 ≤ 99) (k8 : (-2147483648) ≤ x8 ∧ x8 ≤ 0) (k9 : 0 ≤ x9 ∧ x9 ≤ 2000) (k13 : 0 ≤ x13 ∧ x13 ≤ 2000) (k15 : 0 ≤ x15 ∧ x15 ≤ 2000) (k22 : 1 ≤ x22 ∧ x22 ≤ 99) (k25 : 0 ≤ x25 ∧ x25 ≤ 2000) (f0 : 1 * x3 + ((-1) * x25 + 0) ≤ (-1)) (f1 : (-1) * x9 + ((-1) * x25 + 0) ≤ (-2001)) (f2 : 1 * x22 + ((-1) * x2 + 0) ≤ 0) (f3 : (-1) * x22 + 0 ≤ 0) (f4 : 1 * x15 + ((-1) * x13 + 0) ≤ 0) (f5 : (-1) * x15 + (1 * x13 + 0) ≤ 0) (f6 : 1 * x3 + ((-1) * x15 + 0) ≤ (-1)) (f7 : (-1) * x9 + ((-1) * x15 + 0) ≤ (-2000)) (f8 : 1 * x3 + ((-1) * x13 + 0) ≤ (-1)) (f9 : (-1) * x9 + ((-1) * x13 + 0) ≤ (-2000)) (f10 : 1 * x8 + ((-1) * x2 + 0) ≤ 0) (f11 : (-1) * x8 + 0 ≤ 0) (f12 : (-1) * x4 + 0 ≤ 0) (f15 : (-1) * fault_0 + 0 ≤ (-1)) (f16 : 1 * from_0 + ((-1) * pos_0 + 0) ≤ 0) (f17 : ((kind_0 = 1) → (pos_0 ≤ (from_0 + 8))) ∧ ((kind_0 = 0) ∨ ((from_0 + 1) ≤ pos_0))) (f18 : 1 * x25 + ((-1) * from_0 + 0) ≤ 0) (f20 : 1 * x3 + ((-1) * x25 + 0) ≤ (-1)) (f21 : (-1) * x9 + ((-1) * x25 + 0) ≤ (-2001)) (f22 : 1 * x22 + ((-1) * x2 + 0) ≤ 0) (f23 : (-1) * x22 + 0 ≤ 0) (f24 : 1 * x15 + ((-1) * x13 + 0) ≤ 0) (f25 : (-1) * x15 + (1 * x13 + 0) ≤ 0) (f26 : 1 * x3 + ((-1) * x15 + 0) ≤ (-1)) (f27 : (-1) * x9 + ((-1) * x15 + 0) ≤ (-2000)) (f28 : 1 * x3 + ((-1) * x13 + 0) ≤ (-1)) (f29 : (-1) * x9 + ((-1) * x13 + 0) ≤ (-2000)) (f30 : 1 * x8 + ((-1) * x2 + 0) ≤ 0) (f31 : (-1) * x8 + 0 ≤ 0) (f32 : (-1) * x4 + 0 ≤ 0) (f34 : 1 * x15 + ((-1) * x13 + 0) ≤ 0) (f35 : (-1) * x15 + (1 * x13 + 0) ≤ 0) (f36 : 1 * x3 + ((-1) * x15 + 0) ≤ (-1)) (f37 : (-1) * x9 + ((-1) * x15 + 0) ≤ (-2000)) (f38 : 1 * x3 + ((-1) * x13 + 0) ≤ (-1)) (f39 : (-1) * x9 + ((-1) * x13 + 0) ≤ (-2000)) (f40 : 1 * x8 + ((-1) * x2 + 0) ≤ 0) (f41 : (-1) * x8 + 0 ≤ 0) (f42 : (-1) * x4 + 0 ≤ 0) (f44 : 1 * x15 + ((-1) * x13 + 0) ≤ 0) (f45 : (-1) * x15 + (1 * x13 + 0) ≤ 0) (f46 : 1 * x3 + ((-1) * x15 + 0) ≤ (-1)) (f47 : (-1) * x9 + ((-1) * x15 + 0) ≤ (-2000)) (f48 : 1 * x3 + ((-1) * x13 + 0) ≤ (-1)) (f49 : (-1) * x9 + ((-1) * x13 + 0) ≤ (-2000)) (f50 : 1 * x8 + ((-1) * x2 + 0) ≤ 0) (f51 : (-1) * x8 + 0 ≤ 0) (f52 : (-1) * x4 + 0 ≤ 0) (f54 : 1 * x3 + ((-1) * x13 + 0) ≤ (-1)) (f55 : (-1) * x9 + ((-1) * x13 + 0) ≤ (-2000)) (f56 : x8 ≤ 0) (f57 : 1 * x8 + ((-1) * x2 + 0) ≤ 0) (f58 : (-1) * x8 + 0 ≤ 0) (f59 : (-1) * x4 + 0 ≤ 0) (f61 : 1 * x8 + ((-1) * x2 + 0) ≤ 0) (f62 : (-1) * x8 + 0 ≤ 0) (f63 : (-1) * x4 + 0 ≤ 0) (kz_0_8 : 0 ≤ fault_0 ∧ fault_0 ≤ 5) (kz_0_11 : 0 ≤ pos_0 ∧ pos_0 ≤ 2000) (kz_0_12 : 0 ≤ kind_0 ∧ kind_0 ≤ 4) (kz_0_15 : 0 ≤ from_0 ∧ from_0 ≤ 2000) (ex2 : gx = 0 + (1 * x9 + 0)) (ex3 : 0 ≤ gx ∧ gx ≤ 2000) : 1 * x22 + ((-1) * x2 + 0) ≤ 0 := by
  first | assumption | (clear f17; omega) | omega | grind
set_option maxHeartbeats 4000000 in
theorem vc_Mo_of_at_s5002_26_4 (x2 : Int) (x3 : Int) (x4 : Int) (x7 : Int) (x8 : Int) (x9 : Int) (x13 : Int) (x15 : Int) (x22 : Int) (x25 : Int) (fault_0 : Int) (from_0 : Int) (pos_0 : Int) (kind_0 : Int) (gx : Int) (k2 : 99 ≤ x2 ∧ x2 ≤ 99) (k3 : 0 ≤ x3 ∧ x3 ≤ 2000) (k4 : (-1) ≤ x4 ∧ x4 ≤ 48) (k7 : 99 ≤ x7 ∧ x7 ≤ 99) (k8 : (-2147483648) ≤ x8 ∧ x8 ≤ 0) (k9 : 0 ≤ x9 ∧ x9 ≤ 2000) (k13 : 0 ≤ x13 ∧ x13 ≤ 2000) (k15 : 0 ≤ x15 ∧ x15 ≤ 2000) (k22 : 1 ≤ x22 ∧ x22 ≤ 99) (k25 : 0 ≤ x25 ∧ x25 ≤ 2000) (f0 : 1 * x3 + ((-1) * x25 + 0) ≤ (-1)) (f1 : (-1) * x9 + ((-1) * x25 + 0) ≤ (-2001)) (f2 : 1 * x22 + ((-1) * x2 + 0) ≤ 0) (f3 : (-1) * x22 + 0 ≤ 0) (f4 : 1 * x15 + ((-1) * x13 + 0) ≤ 0) (f5 : (-1) * x15 + (1 * x13 + 0) ≤ 0) (f6 : 1 * x3 + ((-1) * x15 + 0) ≤ (-1)) (f7 : (-1) * x9 + ((-1) * x15 + 0) ≤ (-2000)) (f8 : 1 * x3 + ((-1) * x13 + 0) ≤ (-1)) (f9 : (-1) * x9 + ((-1) * x13 + 0) ≤ (-2000)) (f10 : 1 * x8 + ((-1) * x2 + 0) ≤ 0) (f11 : (-1) * x8 + 0 ≤ 0) (f12 : (-1) * x4 + 0 ≤ 0) (f15 : (-1) * fault_0 + 0 ≤ (-1)) (f16 : 1 * from_0 + ((-1) * pos_0 + 0) ≤ 0) (f17 : ((kind_0 = 1) → (pos_0 ≤ (from_0 + 8))) ∧ ((kind_0 = 0) ∨ ((from_0 + 1) ≤ pos_0))) (f18 : 1 * x25 + ((-1) * from_0 + 0) ≤ 0) (f20 : 1 * x3 + ((-1) * x25 + 0) ≤ (-1)) (f21 : (-1) * x9 + ((-1) * x25 + 0) ≤ (-2001)) (f22 : 1 * x22 + ((-1) * x2 + 0) ≤ 0) (f23 : (-1) * x22 + 0 ≤ 0) (f24 : 1 * x15 + ((-1) * x13 + 0) ≤ 0) (f25 : (-1) * x15 + (1 * x13 + 0) ≤ 0) (f26 : 1 * x3 + ((-1) * x15 + 0) ≤ (-1)) (f27 : (-1) * x9 + ((-1) * x15 + 0) ≤ (-2000)) (f28 : 1 * x3 + ((-1) * x13 + 0) ≤ (-1)) (f29 : (-1) * x9 + ((-1) * x13 + 0) ≤ (-2000)) (f30 : 1 * x8 + ((-1) * x2 + 0) ≤ 0) (f31 : (-1) * x8 + 0 ≤ 0) (f32 : (-1) * x4 + 0 ≤ 0) (f34 : 1 * x15 + ((-1) * x13 + 0) ≤ 0) (f35 : (-1) * x15 + (1 * x13 + 0) ≤ 0) (f36 : 1 * x3 + ((-1) * x15 + 0) ≤ (-1)) (f37 : (-1) * x9 + ((-1) * x15 + 0) ≤ (-2000)) (f38 : 1 * x3 + ((-1) * x13 + 0) ≤ (-1)) (f39 : (-1) * x9 + ((-1) * x13 + 0) ≤ (-2000)) (f40 : 1 * x8 + ((-1) * x2 + 0) ≤ 0) (f41 : (-1) * x8 + 0 ≤ 0) (f42 : (-1) * x4 + 0 ≤ 0) (f44 : 1 * x15 + ((-1) * x13 + 0) ≤ 0) (f45 : (-1) * x15 + (1 * x13 + 0) ≤ 0) (f46 : 1 * x3 + ((-1) * x15 + 0) ≤ (-1)) (f47 : (-1) * x9 + ((-1) * x15 + 0) ≤ (-2000)) (f48 : 1 * x3 + ((-1) * x13 + 0) ≤ (-1)) (f49 : (-1) * x9 + ((-1) * x13 + 0) ≤ (-2000)) (f50 : 1 * x8 + ((-1) * x2 + 0) ≤ 0) (f51 : (-1) * x8 + 0 ≤ 0) (f52 : (-1) * x4 + 0 ≤ 0) (f54 : 1 * x3 + ((-1) * x13 + 0) ≤ (-1)) (f55 : (-1) * x9 + ((-1) * x13 + 0) ≤ (-2000)) (f56 : x8 ≤ 0) (f57 : 1 * x8 + ((-1) * x2 + 0) ≤ 0) (f58 : (-1) * x8 + 0 ≤ 0) (f59 : (-1) * x4 + 0 ≤ 0) (f61 : 1 * x8 + ((-1) * x2 + 0) ≤ 0) (f62 : (-1) * x8 + 0 ≤ 0) (f63 : (-1) * x4 + 0 ≤ 0) (kz_0_8 : 0 ≤ fault_0 ∧ fault_0 ≤ 5) (kz_0_11 : 0 ≤ pos_0 ∧ pos_0 ≤ 2000) (kz_0_12 : 0 ≤ kind_0 ∧ kind_0 ≤ 4) (kz_0_15 : 0 ≤ from_0 ∧ from_0 ≤ 2000) (ex2 : gx = 0 + (1 * x9 + 0)) (ex3 : 0 ≤ gx ∧ gx ≤ 2000) : (-1) * x22 + 0 ≤ 0 := by
  first | assumption | (clear f17; omega) | omega | grind
set_option maxHeartbeats 4000000 in
theorem vc_Mo_of_at_s5002_26_5 (x2 : Int) (x3 : Int) (x4 : Int) (x7 : Int) (x8 : Int) (x9 : Int) (x13 : Int) (x15 : Int) (x22 : Int) (x25 : Int) (fault_0 : Int) (from_0 : Int) (pos_0 : Int) (kind_0 : Int) (gx : Int) (k2 : 99 ≤ x2 ∧ x2 ≤ 99) (k3 : 0 ≤ x3 ∧ x3 ≤ 2000) (k4 : (-1) ≤ x4 ∧ x4 ≤ 48) (k7 : 99 ≤ x7 ∧ x7 ≤ 99) (k8 : (-2147483648) ≤ x8 ∧ x8 ≤ 0) (k9 : 0 ≤ x9 ∧ x9 ≤ 2000) (k13 : 0 ≤ x13 ∧ x13 ≤ 2000) (k15 : 0 ≤ x15 ∧ x15 ≤ 2000) (k22 : 1 ≤ x22 ∧ x22 ≤ 99) (k25 : 0 ≤ x25 ∧ x25 ≤ 2000) (f0 : 1 * x3 + ((-1) * x25 + 0) ≤ (-1)) (f1 : (-1) * x9 + ((-1) * x25 + 0) ≤ (-2001)) (f2 : 1 * x22 + ((-1) * x2 + 0) ≤ 0) (f3 : (-1) * x22 + 0 ≤ 0) (f4 : 1 * x15 + ((-1) * x13 + 0) ≤ 0) (f5 : (-1) * x15 + (1 * x13 + 0) ≤ 0) (f6 : 1 * x3 + ((-1) * x15 + 0) ≤ (-1)) (f7 : (-1) * x9 + ((-1) * x15 + 0) ≤ (-2000)) (f8 : 1 * x3 + ((-1) * x13 + 0) ≤ (-1)) (f9 : (-1) * x9 + ((-1) * x13 + 0) ≤ (-2000)) (f10 : 1 * x8 + ((-1) * x2 + 0) ≤ 0) (f11 : (-1) * x8 + 0 ≤ 0) (f12 : (-1) * x4 + 0 ≤ 0) (f15 : (-1) * fault_0 + 0 ≤ (-1)) (f16 : 1 * from_0 + ((-1) * pos_0 + 0) ≤ 0) (f17 : ((kind_0 = 1) → (pos_0 ≤ (from_0 + 8))) ∧ ((kind_0 = 0) ∨ ((from_0 + 1) ≤ pos_0))) (f18 : 1 * x25 + ((-1) * from_0 + 0) ≤ 0) (f20 : 1 * x3 + ((-1) * x25 + 0) ≤ (-1)) (f21 : (-1) * x9 + ((-1) * x25 + 0) ≤ (-2001)) (f22 : 1 * x22 + ((-1) * x2 + 0) ≤ 0) (f23 : (-1) * x22 + 0 ≤ 0) (f24 : 1 * x15 + ((-1) * x13 + 0) ≤ 0) (f25 : (-1) * x15 + (1 * x13 + 0) ≤ 0) (f26 : 1 * x3 + ((-1) * x15 + 0) ≤ (-1)) (f27 : (-1) * x9 + ((-1) * x15 + 0) ≤ (-2000)) (f28 : 1 * x3 + ((-1) * x13 + 0) ≤ (-1)) (f29 : (-1) * x9 + ((-1) * x13 + 0) ≤ (-2000)) (f30 : 1 * x8 + ((-1) * x2 + 0) ≤ 0) (f31 : (-1) * x8 + 0 ≤ 0) (f32 : (-1) * x4 + 0 ≤ 0) (f34 : 1 * x15 + ((-1) * x13 + 0) ≤ 0) (f35 : (-1) * x15 + (1 * x13 + 0) ≤ 0) (f36 : 1 * x3 + ((-1) * x15 + 0) ≤ (-1)) (f37 : (-1) * x9 + ((-1) * x15 + 0) ≤ (-2000)) (f38 : 1 * x3 + ((-1) * x13 + 0) ≤ (-1)) (f39 : (-1) * x9 + ((-1) * x13 + 0) ≤ (-2000)) (f40 : 1 * x8 + ((-1) * x2 + 0) ≤ 0) (f41 : (-1) * x8 + 0 ≤ 0) (f42 : (-1) * x4 + 0 ≤ 0) (f44 : 1 * x15 + ((-1) * x13 + 0) ≤ 0) (f45 : (-1) * x15 + (1 * x13 + 0) ≤ 0) (f46 : 1 * x3 + ((-1) * x15 + 0) ≤ (-1)) (f47 : (-1) * x9 + ((-1) * x15 + 0) ≤ (-2000)) (f48 : 1 * x3 + ((-1) * x13 + 0) ≤ (-1)) (f49 : (-1) * x9 + ((-1) * x13 + 0) ≤ (-2000)) (f50 : 1 * x8 + ((-1) * x2 + 0) ≤ 0) (f51 : (-1) * x8 + 0 ≤ 0) (f52 : (-1) * x4 + 0 ≤ 0) (f54 : 1 * x3 + ((-1) * x13 + 0) ≤ (-1)) (f55 : (-1) * x9 + ((-1) * x13 + 0) ≤ (-2000)) (f56 : x8 ≤ 0) (f57 : 1 * x8 + ((-1) * x2 + 0) ≤ 0) (f58 : (-1) * x8 + 0 ≤ 0) (f59 : (-1) * x4 + 0 ≤ 0) (f61 : 1 * x8 + ((-1) * x2 + 0) ≤ 0) (f62 : (-1) * x8 + 0 ≤ 0) (f63 : (-1) * x4 + 0 ≤ 0) (kz_0_8 : 0 ≤ fault_0 ∧ fault_0 ≤ 5) (kz_0_11 : 0 ≤ pos_0 ∧ pos_0 ≤ 2000) (kz_0_12 : 0 ≤ kind_0 ∧ kind_0 ≤ 4) (kz_0_15 : 0 ≤ from_0 ∧ from_0 ≤ 2000) (ex2 : gx = 0 + (1 * x9 + 0)) (ex3 : 0 ≤ gx ∧ gx ≤ 2000) : (-1) * x4 + 0 ≤ 0 := by
  first | assumption | (clear f17; omega) | omega | grind
set_option maxHeartbeats 4000000 in
theorem vc_Mo_of_at_s5002_26_6 (x2 : Int) (x3 : Int) (x4 : Int) (x7 : Int) (x8 : Int) (x9 : Int) (x13 : Int) (x15 : Int) (x22 : Int) (x25 : Int) (fault_0 : Int) (from_0 : Int) (pos_0 : Int) (kind_0 : Int) (gx : Int) (k2 : 99 ≤ x2 ∧ x2 ≤ 99) (k3 : 0 ≤ x3 ∧ x3 ≤ 2000) (k4 : (-1) ≤ x4 ∧ x4 ≤ 48) (k7 : 99 ≤ x7 ∧ x7 ≤ 99) (k8 : (-2147483648) ≤ x8 ∧ x8 ≤ 0) (k9 : 0 ≤ x9 ∧ x9 ≤ 2000) (k13 : 0 ≤ x13 ∧ x13 ≤ 2000) (k15 : 0 ≤ x15 ∧ x15 ≤ 2000) (k22 : 1 ≤ x22 ∧ x22 ≤ 99) (k25 : 0 ≤ x25 ∧ x25 ≤ 2000) (f0 : 1 * x3 + ((-1) * x25 + 0) ≤ (-1)) (f1 : (-1) * x9 + ((-1) * x25 + 0) ≤ (-2001)) (f2 : 1 * x22 + ((-1) * x2 + 0) ≤ 0) (f3 : (-1) * x22 + 0 ≤ 0) (f4 : 1 * x15 + ((-1) * x13 + 0) ≤ 0) (f5 : (-1) * x15 + (1 * x13 + 0) ≤ 0) (f6 : 1 * x3 + ((-1) * x15 + 0) ≤ (-1)) (f7 : (-1) * x9 + ((-1) * x15 + 0) ≤ (-2000)) (f8 : 1 * x3 + ((-1) * x13 + 0) ≤ (-1)) (f9 : (-1) * x9 + ((-1) * x13 + 0) ≤ (-2000)) (f10 : 1 * x8 + ((-1) * x2 + 0) ≤ 0) (f11 : (-1) * x8 + 0 ≤ 0) (f12 : (-1) * x4 + 0 ≤ 0) (f15 : (-1) * fault_0 + 0 ≤ (-1)) (f16 : 1 * from_0 + ((-1) * pos_0 + 0) ≤ 0) (f17 : ((kind_0 = 1) → (pos_0 ≤ (from_0 + 8))) ∧ ((kind_0 = 0) ∨ ((from_0 + 1) ≤ pos_0))) (f18 : 1 * x25 + ((-1) * from_0 + 0) ≤ 0) (f20 : 1 * x3 + ((-1) * x25 + 0) ≤ (-1)) (f21 : (-1) * x9 + ((-1) * x25 + 0) ≤ (-2001)) (f22 : 1 * x22 + ((-1) * x2 + 0) ≤ 0) (f23 : (-1) * x22 + 0 ≤ 0) (f24 : 1 * x15 + ((-1) * x13 + 0) ≤ 0) (f25 : (-1) * x15 + (1 * x13 + 0) ≤ 0) (f26 : 1 * x3 + ((-1) * x15 + 0) ≤ (-1)) (f27 : (-1) * x9 + ((-1) * x15 + 0) ≤ (-2000)) (f28 : 1 * x3 + ((-1) * x13 + 0) ≤ (-1)) (f29 : (-1) * x9 + ((-1) * x13 + 0) ≤ (-2000)) (f30 : 1 * x8 + ((-1) * x2 + 0) ≤ 0) (f31 : (-1) * x8 + 0 ≤ 0) (f32 : (-1) * x4 + 0 ≤ 0) (f34 : 1 * x15 + ((-1) * x13 + 0) ≤ 0) (f35 : (-1) * x15 + (1 * x13 + 0) ≤ 0) (f36 : 1 * x3 + ((-1) * x15 + 0) ≤ (-1)) (f37 : (-1) * x9 + ((-1) * x15 + 0) ≤ (-2000)) (f38 : 1 * x3 + ((-1) * x13 + 0) ≤ (-1)) (f39 : (-1) * x9 + ((-1) * x13 + 0) ≤ (-2000)) (f40 : 1 * x8 + ((-1) * x2 + 0) ≤ 0) (f41 : (-1) * x8 + 0 ≤ 0) (f42 : (-1) * x4 + 0 ≤ 0) (f44 : 1 * x15 + ((-1) * x13 + 0) ≤ 0) (f45 : (-1) * x15 + (1 * x13 + 0) ≤ 0) (f46 : 1 * x3 + ((-1) * x15 + 0) ≤ (-1)) (f47 : (-1) * x9 + ((-1) * x15 + 0) ≤ (-2000)) (f48 : 1 * x3 + ((-1) * x13 + 0) ≤ (-1)) (f49 : (-1) * x9 + ((-1) * x13 + 0) ≤ (-2000)) (f50 : 1 * x8 + ((-1) * x2 + 0) ≤ 0) (f51 : (-1) * x8 + 0 ≤ 0) (f52 : (-1) * x4 + 0 ≤ 0) (f54 : 1 * x3 + ((-1) * x13 + 0) ≤ (-1)) (f55 : (-1) * x9 + ((-1) * x13 + 0) ≤ (-2000)) (f56 : x8 ≤ 0) (f57 : 1 * x8 + ((-1) * x2 + 0) ≤ 0) (f58 : (-1) * x8 + 0 ≤ 0) (f59 : (-1) * x4 + 0 ≤ 0) (f61 : 1 * x8 + ((-1) * x2 + 0) ≤ 0) (f62 : (-1) * x8 + 0 ≤ 0) (f63 : (-1) * x4 + 0 ≤ 0) (kz_0_8 : 0 ≤ fault_0 ∧ fault_0 ≤ 5) (kz_0_11 : 0 ≤ pos_0 ∧ pos_0 ≤ 2000) (kz_0_12 : 0 ≤ kind_0 ∧ kind_0 ≤ 4) (kz_0_15 : 0 ≤ from_0 ∧ from_0 ≤ 2000) (ex2 : gx = 0 + (1 * x9 + 0)) (ex3 : 0 ≤ gx ∧ gx ≤ 2000) : (-1) * gx + ((-1) * pos_0 + 0) ≤ (-2001) := by
  first | assumption | (clear f17; omega) | omega | grind
def o_Mo_of_at_s5002_26 : or_T := (139, 26, [(0, (2, 0, 0, [165])), (2, (0, 99, 99, [])), (3, (0, 0, 2000, [])), (4, (0, -1, 48, [])), (5, (2, 0, 0, [165])), (7, (0, 99, 99, [])), (8, (0, -2147483648, 0, [])), (9, (0, 0, 2000, [])), (13, (0, 0, 2000, [])), (15, (0, 0, 2000, [])), (22, (0, 1, 99, [])), (25, (0, 0, 2000, []))], [(23, [3, 25], [-1, 1, -1]), (23, [9, 25], [-2001, -1, -1]), (23, [22, 7], [0, 1, -1]), (23, [22], [0, -1]), (23, [15, 13], [0, 1, -1]), (23, [15, 13], [0, -1, 1]), (23, [3, 15], [-1, 1, -1]), (23, [9, 15], [-2000, -1, -1]), (23, [3, 13], [-1, 1, -1]), (23, [9, 13], [-2000, -1, -1]), (23, [8, 7], [0, 1, -1]), (23, [8], [0, -1]), (23, [4], [0, -1]), (24, [0, 5], []), (24, [2, 7], []), (20, [5], [30, -1, -1, 1, 8]), (20, [5, 5], [30, 0, 1, 1, 15, -1, 1, 11]), (20, [5], [50, 3, 0, 12, 11, 15, 2, 21, 4, 7, 1, 3, 2, 0, 12, 0, 1, 0, 3, 2, 0, 11, 4, 3, 2, 0, 15, 0, 8, 3, 7, 1, 3, 2, 0, 12, 0, 0, 0, 7, 4, 3, 2, 0, 15, 0, 1, 2, 0, 11]), (20, [25, 5], [30, 0, 1, 0, 0, -1, 1, 15]), (102, [25], [0, 165011, 165012, 165013, 165014, 165015]), (23, [3, 25], [-1, 1, -1]), (23, [9, 25], [-2001, -1, -1]), (23, [22, 7], [0, 1, -1]), (23, [22], [0, -1]), (23, [15, 13], [0, 1, -1]), (23, [15, 13], [0, -1, 1]), (23, [3, 15], [-1, 1, -1]), (23, [9, 15], [-2000, -1, -1]), (23, [3, 13], [-1, 1, -1]), (23, [9, 13], [-2000, -1, -1]), (23, [8, 7], [0, 1, -1]), (23, [8], [0, -1]), (23, [4], [0, -1]), (102, [20], [0, 165008, 165009]), (23, [15, 13], [0, 1, -1]), (23, [15, 13], [0, -1, 1]), (23, [3, 15], [-1, 1, -1]), (23, [9, 15], [-2000, -1, -1]), (23, [3, 13], [-1, 1, -1]), (23, [9, 13], [-2000, -1, -1]), (23, [8, 7], [0, 1, -1]), (23, [8], [0, -1]), (23, [4], [0, -1]), (102, [15], [0, 165008, 165009, 165011, 165012, 165013, 165014, 165015]), (23, [15, 13], [0, 1, -1]), (23, [15, 13], [0, -1, 1]), (23, [3, 15], [-1, 1, -1]), (23, [9, 15], [-2000, -1, -1]), (23, [3, 13], [-1, 1, -1]), (23, [9, 13], [-2000, -1, -1]), (23, [8, 7], [0, 1, -1]), (23, [8], [0, -1]), (23, [4], [0, -1]), (102, [13], [0, 165011, 165012, 165013, 165014, 165015]), (23, [3, 13], [-1, 1, -1]), (23, [9, 13], [-2000, -1, -1]), (8, [8], [5]), (23, [8, 7], [0, 1, -1]), (23, [8], [0, -1]), (23, [4], [0, -1]), (102, [11], [0]), (23, [8, 7], [0, 1, -1]), (23, [8], [0, -1]), (23, [4], [0, -1])], [], [(0, 0, 2000, [])], [(20, [5, 5], [30, 0, 1, 1, 15, -1, 1, 11]), (20, [5], [50, 3, 0, 12, 11, 15, 2, 21, 4, 7, 1, 3, 2, 0, 12, 0, 1, 0, 3, 2, 0, 11, 4, 3, 2, 0, 15, 0, 8, 3, 7, 1, 3, 2, 0, 12, 0, 0, 0, 7, 4, 3, 2, 0, 15, 0, 1, 2, 0, 11]), (20, [3, 5], [30, -1, 1, 0, 0, -1, 1, 11]), (23, [22, 7], [0, 1, -1]), (23, [22], [0, -1]), (23, [4], [0, -1]), (20, [26, 5], [30, -2001, -1, 0, 0, -1, 1, 11]), (24, [0, 5], []), (24, [2, 7], [])], [(26, 9, 0, 0)], [])
theorem oo_Mo_of_at_s5002_26 {kA : Nat → ClassId} : or_ok PRD kA GG o_Mo_of_at_s5002_26 := by
  refine or_mk fun A ta ws vs hD hth hl => ?_
  intro t0 r0 t2 k2 t3 k3 t4 k4 t5 r5 t7 k7 t8 k8 t9 k9 t13 k13 t15 k15 t22 k22 t25 k25 f0 f1 f2 f3 f4 f5 f6 f7 f8 f9 f10 f11 f12 f13 f14 f15 f16 f17 f18 ta1 w1 le1 s1 f20 f21 f22 f23 f24 f25 f26 f27 f28 f29 f30 f31 f32 ta2 w2 le2 s2 f34 f35 f36 f37 f38 f39 f40 f41 f42 ta3 w3 le3 s3 f44 f45 f46 f47 f48 f49 f50 f51 f52 ta4 w4 le4 s4 f54 f55 f56 f57 f58 f59 ta5 w5 le5 s5 f61 f62 f63
  replace f0 := shm_211 f0
  replace f1 := shm_1895 f1
  replace f2 := shm_7 f2
  replace f3 := shm_1013 f3
  replace f4 := shm_7 f4
  replace f5 := shm_22 f5
  replace f6 := shm_211 f6
  replace f7 := shm_1894 f7
  replace f8 := shm_211 f8
  replace f9 := shm_1894 f9
  replace f10 := shm_7 f10
  replace f11 := shm_1013 f11
  replace f12 := shm_1013 f12
  replace f13 := shm_5 f13
  replace f14 := shm_5 f14
  replace f15 := shm_144 f15
  replace f16 := shm_1397 f16
  replace f17 := shm_1398 f17
  replace f18 := shm_1396 f18
  replace f20 := shm_211 f20
  replace f21 := shm_1895 f21
  replace f22 := shm_7 f22
  replace f23 := shm_1013 f23
  replace f24 := shm_7 f24
  replace f25 := shm_22 f25
  replace f26 := shm_211 f26
  replace f27 := shm_1894 f27
  replace f28 := shm_211 f28
  replace f29 := shm_1894 f29
  replace f30 := shm_7 f30
  replace f31 := shm_1013 f31
  replace f32 := shm_1013 f32
  replace f34 := shm_7 f34
  replace f35 := shm_22 f35
  replace f36 := shm_211 f36
  replace f37 := shm_1894 f37
  replace f38 := shm_211 f38
  replace f39 := shm_1894 f39
  replace f40 := shm_7 f40
  replace f41 := shm_1013 f41
  replace f42 := shm_1013 f42
  replace f44 := shm_7 f44
  replace f45 := shm_22 f45
  replace f46 := shm_211 f46
  replace f47 := shm_1894 f47
  replace f48 := shm_211 f48
  replace f49 := shm_1894 f49
  replace f50 := shm_7 f50
  replace f51 := shm_1013 f51
  replace f52 := shm_1013 f52
  replace f54 := shm_211 f54
  replace f55 := shm_1894 f55
  replace f56 := shm_142 f56
  replace f57 := shm_7 f57
  replace f58 := shm_1013 f58
  replace f59 := shm_1013 f59
  replace f61 := shm_7 f61
  replace f62 := shm_1013 f62
  replace f63 := shm_1013 f63
  have q5 : n_v vs 5 = n_v vs 0 := f13.symm
  have q7 : n_v vs 7 = n_v vs 2 := f14.symm
  simp only [q7, q5] at f2 f10 f15 f16 f17 f18 f22 f30 f40 f50 f57 f61
  have kz_0_8 := fdq_14 hD hth r0
  have kz_0_11 := fdq_273 hD hth r0
  have kz_0_12 := fdq_186 hD hth r0
  have kz_0_15 := fdq_274 hD hth r0
  obtain ⟨x, ex, hx⟩ := iv_ex (ta := ta) (lo := 0) (hi := 2000) (z := 0 + (1 * v_iv (n_v vs 9) + 0)) (by omega) (by omega) (by omega) (by omega)
  have ex2 : v_iv (Value.int x) = 0 + (1 * v_iv (n_v vs 9) + 0) := ex
  have ex3 : 0 ≤ v_iv (Value.int x) ∧ v_iv (Value.int x) ≤ 2000 := tv_rng hx
  have e_0 : n_v (vs ++ [Value.int x]) 0 = n_v vs 0 := n_v_old (by rw [hl]; decide)
  have e_2 : n_v (vs ++ [Value.int x]) 2 = n_v vs 2 := n_v_old (by rw [hl]; decide)
  have e_3 : n_v (vs ++ [Value.int x]) 3 = n_v vs 3 := n_v_old (by rw [hl]; decide)
  have e_4 : n_v (vs ++ [Value.int x]) 4 = n_v vs 4 := n_v_old (by rw [hl]; decide)
  have e_5 : n_v (vs ++ [Value.int x]) 5 = n_v vs 5 := n_v_old (by rw [hl]; decide)
  have e_7 : n_v (vs ++ [Value.int x]) 7 = n_v vs 7 := n_v_old (by rw [hl]; decide)
  have e_22 : n_v (vs ++ [Value.int x]) 22 = n_v vs 22 := n_v_old (by rw [hl]; decide)
  have e_26 : n_v (vs ++ [Value.int x]) 26 = Value.int x := n_v_new hl
  have nf0 : fc_1 PRD (20, [5, 5], [30, 0, 1, 1, 15, -1, 1, 11]) ws (vs ++ [Value.int x]) := by
    refine ⟨nf_inA hl rfl, sgq_1397 ?_⟩
    · show 1 * w_fi ws (n_v (vs ++ [Value.int x]) 5) 15 + ((-1) * w_fi ws (n_v (vs ++ [Value.int x]) 5) 11 + 0) ≤ 0
      simp only [e_5, q5]
      exact vc_Mo_of_at_s5002_26_0 (v_iv (n_v vs 2)) (v_iv (n_v vs 3)) (v_iv (n_v vs 4)) (v_iv (n_v vs 7)) (v_iv (n_v vs 8)) (v_iv (n_v vs 9)) (v_iv (n_v vs 13)) (v_iv (n_v vs 15)) (v_iv (n_v vs 22)) (v_iv (n_v vs 25)) (w_fi ws (n_v vs 0) 8) (w_fi ws (n_v vs 0) 15) (w_fi ws (n_v vs 0) 11) (w_fi ws (n_v vs 0) 12) (v_iv (Value.int x)) k2 k3 k4 k7 k8 k9 k13 k15 k22 k25 f0 f1 f2 f3 f4 f5 f6 f7 f8 f9 f10 f11 f12 f15 f16 f17 f18 f20 f21 f22 f23 f24 f25 f26 f27 f28 f29 f30 f31 f32 f34 f35 f36 f37 f38 f39 f40 f41 f42 f44 f45 f46 f47 f48 f49 f50 f51 f52 f54 f55 f56 f57 f58 f59 f61 f62 f63 kz_0_8 kz_0_11 kz_0_12 kz_0_15 ex2 ex3
  have nf1 : fc_1 PRD (20, [5], [50, 3, 0, 12, 11, 15, 2, 21, 4, 7, 1, 3, 2, 0, 12, 0, 1, 0, 3, 2, 0, 11, 4, 3, 2, 0, 15, 0, 8, 3, 7, 1, 3, 2, 0, 12, 0, 0, 0, 7, 4, 3, 2, 0, 15, 0, 1, 2, 0, 11]) ws (vs ++ [Value.int x]) := by
    refine ⟨nf_inA hl rfl, sgq_1398 ?_⟩
    · show ((w_fi ws (n_v (vs ++ [Value.int x]) 5) 12 = 1) → (w_fi ws (n_v (vs ++ [Value.int x]) 5) 11 ≤ (w_fi ws (n_v (vs ++ [Value.int x]) 5) 15 + 8))) ∧ ((w_fi ws (n_v (vs ++ [Value.int x]) 5) 12 = 0) ∨ ((w_fi ws (n_v (vs ++ [Value.int x]) 5) 15 + 1) ≤ w_fi ws (n_v (vs ++ [Value.int x]) 5) 11))
      simp only [e_5, q5]
      exact vc_Mo_of_at_s5002_26_1 (v_iv (n_v vs 2)) (v_iv (n_v vs 3)) (v_iv (n_v vs 4)) (v_iv (n_v vs 7)) (v_iv (n_v vs 8)) (v_iv (n_v vs 9)) (v_iv (n_v vs 13)) (v_iv (n_v vs 15)) (v_iv (n_v vs 22)) (v_iv (n_v vs 25)) (w_fi ws (n_v vs 0) 8) (w_fi ws (n_v vs 0) 15) (w_fi ws (n_v vs 0) 11) (w_fi ws (n_v vs 0) 12) (v_iv (Value.int x)) k2 k3 k4 k7 k8 k9 k13 k15 k22 k25 f0 f1 f2 f3 f4 f5 f6 f7 f8 f9 f10 f11 f12 f15 f16 f17 f18 f20 f21 f22 f23 f24 f25 f26 f27 f28 f29 f30 f31 f32 f34 f35 f36 f37 f38 f39 f40 f41 f42 f44 f45 f46 f47 f48 f49 f50 f51 f52 f54 f55 f56 f57 f58 f59 f61 f62 f63 kz_0_8 kz_0_11 kz_0_12 kz_0_15 ex2 ex3
  have nf2 : fc_1 PRD (20, [3, 5], [30, -1, 1, 0, 0, -1, 1, 11]) ws (vs ++ [Value.int x]) := by
    refine ⟨nf_inA hl rfl, sgq_1891 ?_⟩
    · show 1 * v_iv (n_v (vs ++ [Value.int x]) 3) + ((-1) * w_fi ws (n_v (vs ++ [Value.int x]) 5) 11 + 0) ≤ (-1)
      simp only [e_3, e_5, q5]
      exact vc_Mo_of_at_s5002_26_2 (v_iv (n_v vs 2)) (v_iv (n_v vs 3)) (v_iv (n_v vs 4)) (v_iv (n_v vs 7)) (v_iv (n_v vs 8)) (v_iv (n_v vs 9)) (v_iv (n_v vs 13)) (v_iv (n_v vs 15)) (v_iv (n_v vs 22)) (v_iv (n_v vs 25)) (w_fi ws (n_v vs 0) 8) (w_fi ws (n_v vs 0) 15) (w_fi ws (n_v vs 0) 11) (w_fi ws (n_v vs 0) 12) (v_iv (Value.int x)) k2 k3 k4 k7 k8 k9 k13 k15 k22 k25 f0 f1 f2 f3 f4 f5 f6 f7 f8 f9 f10 f11 f12 f15 f16 f17 f18 f20 f21 f22 f23 f24 f25 f26 f27 f28 f29 f30 f31 f32 f34 f35 f36 f37 f38 f39 f40 f41 f42 f44 f45 f46 f47 f48 f49 f50 f51 f52 f54 f55 f56 f57 f58 f59 f61 f62 f63 kz_0_8 kz_0_11 kz_0_12 kz_0_15 ex2 ex3
  have nf3 : fc_1 PRD (23, [22, 7], [0, 1, -1]) ws (vs ++ [Value.int x]) := by
    refine ⟨nf_inA hl rfl, sgq_7 ?_⟩
    · show 1 * v_iv (n_v (vs ++ [Value.int x]) 22) + ((-1) * v_iv (n_v (vs ++ [Value.int x]) 7) + 0) ≤ 0
      simp only [e_7, e_22, q7]
      exact vc_Mo_of_at_s5002_26_3 (v_iv (n_v vs 2)) (v_iv (n_v vs 3)) (v_iv (n_v vs 4)) (v_iv (n_v vs 7)) (v_iv (n_v vs 8)) (v_iv (n_v vs 9)) (v_iv (n_v vs 13)) (v_iv (n_v vs 15)) (v_iv (n_v vs 22)) (v_iv (n_v vs 25)) (w_fi ws (n_v vs 0) 8) (w_fi ws (n_v vs 0) 15) (w_fi ws (n_v vs 0) 11) (w_fi ws (n_v vs 0) 12) (v_iv (Value.int x)) k2 k3 k4 k7 k8 k9 k13 k15 k22 k25 f0 f1 f2 f3 f4 f5 f6 f7 f8 f9 f10 f11 f12 f15 f16 f17 f18 f20 f21 f22 f23 f24 f25 f26 f27 f28 f29 f30 f31 f32 f34 f35 f36 f37 f38 f39 f40 f41 f42 f44 f45 f46 f47 f48 f49 f50 f51 f52 f54 f55 f56 f57 f58 f59 f61 f62 f63 kz_0_8 kz_0_11 kz_0_12 kz_0_15 ex2 ex3
  have nf4 : fc_1 PRD (23, [22], [0, -1]) ws (vs ++ [Value.int x]) := by
    refine ⟨nf_inA hl rfl, sgq_1013 ?_⟩
    · show (-1) * v_iv (n_v (vs ++ [Value.int x]) 22) + 0 ≤ 0
      rw [e_22]
      exact vc_Mo_of_at_s5002_26_4 (v_iv (n_v vs 2)) (v_iv (n_v vs 3)) (v_iv (n_v vs 4)) (v_iv (n_v vs 7)) (v_iv (n_v vs 8)) (v_iv (n_v vs 9)) (v_iv (n_v vs 13)) (v_iv (n_v vs 15)) (v_iv (n_v vs 22)) (v_iv (n_v vs 25)) (w_fi ws (n_v vs 0) 8) (w_fi ws (n_v vs 0) 15) (w_fi ws (n_v vs 0) 11) (w_fi ws (n_v vs 0) 12) (v_iv (Value.int x)) k2 k3 k4 k7 k8 k9 k13 k15 k22 k25 f0 f1 f2 f3 f4 f5 f6 f7 f8 f9 f10 f11 f12 f15 f16 f17 f18 f20 f21 f22 f23 f24 f25 f26 f27 f28 f29 f30 f31 f32 f34 f35 f36 f37 f38 f39 f40 f41 f42 f44 f45 f46 f47 f48 f49 f50 f51 f52 f54 f55 f56 f57 f58 f59 f61 f62 f63 kz_0_8 kz_0_11 kz_0_12 kz_0_15 ex2 ex3
  have nf5 : fc_1 PRD (23, [4], [0, -1]) ws (vs ++ [Value.int x]) := by
    refine ⟨nf_inA hl rfl, sgq_1013 ?_⟩
    · show (-1) * v_iv (n_v (vs ++ [Value.int x]) 4) + 0 ≤ 0
      rw [e_4]
      exact vc_Mo_of_at_s5002_26_5 (v_iv (n_v vs 2)) (v_iv (n_v vs 3)) (v_iv (n_v vs 4)) (v_iv (n_v vs 7)) (v_iv (n_v vs 8)) (v_iv (n_v vs 9)) (v_iv (n_v vs 13)) (v_iv (n_v vs 15)) (v_iv (n_v vs 22)) (v_iv (n_v vs 25)) (w_fi ws (n_v vs 0) 8) (w_fi ws (n_v vs 0) 15) (w_fi ws (n_v vs 0) 11) (w_fi ws (n_v vs 0) 12) (v_iv (Value.int x)) k2 k3 k4 k7 k8 k9 k13 k15 k22 k25 f0 f1 f2 f3 f4 f5 f6 f7 f8 f9 f10 f11 f12 f15 f16 f17 f18 f20 f21 f22 f23 f24 f25 f26 f27 f28 f29 f30 f31 f32 f34 f35 f36 f37 f38 f39 f40 f41 f42 f44 f45 f46 f47 f48 f49 f50 f51 f52 f54 f55 f56 f57 f58 f59 f61 f62 f63 kz_0_8 kz_0_11 kz_0_12 kz_0_15 ex2 ex3
  have nf6 : fc_1 PRD (20, [26, 5], [30, -2001, -1, 0, 0, -1, 1, 11]) ws (vs ++ [Value.int x]) := by
    refine ⟨nf_inA hl rfl, sgq_1896 ?_⟩
    · show (-1) * v_iv (n_v (vs ++ [Value.int x]) 26) + ((-1) * w_fi ws (n_v (vs ++ [Value.int x]) 5) 11 + 0) ≤ (-2001)
      simp only [e_5, e_26, q5]
      exact vc_Mo_of_at_s5002_26_6 (v_iv (n_v vs 2)) (v_iv (n_v vs 3)) (v_iv (n_v vs 4)) (v_iv (n_v vs 7)) (v_iv (n_v vs 8)) (v_iv (n_v vs 9)) (v_iv (n_v vs 13)) (v_iv (n_v vs 15)) (v_iv (n_v vs 22)) (v_iv (n_v vs 25)) (w_fi ws (n_v vs 0) 8) (w_fi ws (n_v vs 0) 15) (w_fi ws (n_v vs 0) 11) (w_fi ws (n_v vs 0) 12) (v_iv (Value.int x)) k2 k3 k4 k7 k8 k9 k13 k15 k22 k25 f0 f1 f2 f3 f4 f5 f6 f7 f8 f9 f10 f11 f12 f15 f16 f17 f18 f20 f21 f22 f23 f24 f25 f26 f27 f28 f29 f30 f31 f32 f34 f35 f36 f37 f38 f39 f40 f41 f42 f44 f45 f46 f47 f48 f49 f50 f51 f52 f54 f55 f56 f57 f58 f59 f61 f62 f63 kz_0_8 kz_0_11 kz_0_12 kz_0_15 ex2 ex3
  have nf7 : fc_1 PRD (24, [0, 5], []) ws (vs ++ [Value.int x]) := by
    refine ⟨nf_inA hl rfl, sgq_5 ?_⟩
    · show n_v (vs ++ [Value.int x]) 0 = n_v (vs ++ [Value.int x]) 5
      first | rfl | simp only [e_0, e_5, q5, q7]
  have nf8 : fc_1 PRD (24, [2, 7], []) ws (vs ++ [Value.int x]) := by
    refine ⟨nf_inA hl rfl, sgq_5 ?_⟩
    · show n_v (vs ++ [Value.int x]) 2 = n_v (vs ++ [Value.int x]) 7
      first | rfl | simp only [e_2, e_7, q5, q7]
  obtain ⟨x0, e0, _, _⟩ := tv_int t9 rfl
  have e1 : v_iv (n_v vs 9) = x0.toInt := by rw [e0]; rfl
  have ho : sy_ofs (vs ++ [Value.int x]) (26, 9, 0, 0) := by
    refine ⟨x, x0, by rw [List.getElem?_append_right (by rw [hl]; decide), hl]; rfl, ?_, ?_, ?_⟩
    · rw [List.getElem?_append_left (by rw [hl]; decide)]; exact n_v_some (by rw [hl]; decide) e0
    · show x0.toInt + 0 ≤ x.toInt; omega
    · show x.toInt ≤ x0.toInt + 0; omega
  exact ⟨(fun _ h => (by cases h)), [Value.int x], ag_one hx, List.forall_mem_cons.mpr ⟨⟨show (20 : Nat) < 100 from by decide, nf0⟩, List.forall_mem_cons.mpr ⟨⟨show (20 : Nat) < 100 from by decide, nf1⟩, List.forall_mem_cons.mpr ⟨⟨show (20 : Nat) < 100 from by decide, nf2⟩, List.forall_mem_cons.mpr ⟨⟨show (23 : Nat) < 100 from by decide, nf3⟩, List.forall_mem_cons.mpr ⟨⟨show (23 : Nat) < 100 from by decide, nf4⟩, List.forall_mem_cons.mpr ⟨⟨show (23 : Nat) < 100 from by decide, nf5⟩, List.forall_mem_cons.mpr ⟨⟨show (20 : Nat) < 100 from by decide, nf6⟩, List.forall_mem_cons.mpr ⟨⟨show (24 : Nat) < 100 from by decide, nf7⟩, List.forall_mem_cons.mpr ⟨⟨show (24 : Nat) < 100 from by decide, nf8⟩, (fun _ h => (by cases h))⟩⟩⟩⟩⟩⟩⟩⟩⟩, List.forall_mem_cons.mpr ⟨ho, (fun _ h => (by cases h))⟩⟩
set_option maxHeartbeats 4000000 in
theorem vc_Mo_of_at_s5002_27_0 (x2 : Int) (x3 : Int) (x4 : Int) (x7 : Int) (x9 : Int) (x12 : Int) (x15 : Int) (from_0 : Int) (pos_0 : Int) (kind_0 : Int) (fault_0 : Int) (k2 : 99 ≤ x2 ∧ x2 ≤ 99) (k3 : 0 ≤ x3 ∧ x3 ≤ 2000) (k4 : (-1) ≤ x4 ∧ x4 ≤ 48) (k7 : 99 ≤ x7 ∧ x7 ≤ 99) (k9 : 0 ≤ x9 ∧ x9 ≤ 2000) (k12 : 1 ≤ x12 ∧ x12 ≤ 1) (k15 : 0 ≤ x15 ∧ x15 ≤ 0) (f0 : 1 * from_0 + ((-1) * pos_0 + 0) ≤ 0) (f1 : ((kind_0 = 1) → (pos_0 ≤ (from_0 + 8))) ∧ ((kind_0 = 0) ∨ ((from_0 + 1) ≤ pos_0))) (f2 : 1 * x3 + ((-1) * pos_0 + 0) ≤ (-1)) (f3 : (-1) * x4 + 0 ≤ 0) (f6 : 1 * x9 + (1 * pos_0 + 0) ≤ 2000) (f7 : (-1) * x9 + ((-1) * pos_0 + 0) ≤ (-2000)) (f8 : (x12 = 1) → (kind_0 = 1)) (f9 : (-1) * fault_0 + 0 ≤ (-1)) (f11 : x12 ≠ 0) (f12 : (-1) * x4 + 0 ≤ 0) (f14 : (-1) * x4 + 0 ≤ 0) (kz_0_8 : 0 ≤ fault_0 ∧ fault_0 ≤ 5) (kz_0_11 : 0 ≤ pos_0 ∧ pos_0 ≤ 2000) (kz_0_12 : 0 ≤ kind_0 ∧ kind_0 ≤ 4) (kz_0_15 : 0 ≤ from_0 ∧ from_0 ≤ 2000) : 1 * from_0 + ((-1) * pos_0 + 0) ≤ 0 := by
  first | assumption | (clear f1 f8; omega) | omega | grind
set_option maxHeartbeats 4000000 in
theorem vc_Mo_of_at_s5002_27_1 (x2 : Int) (x3 : Int) (x4 : Int) (x7 : Int) (x9 : Int) (x12 : Int) (x15 : Int) (from_0 : Int) (pos_0 : Int) (kind_0 : Int) (fault_0 : Int) (k2 : 99 ≤ x2 ∧ x2 ≤ 99) (k3 : 0 ≤ x3 ∧ x3 ≤ 2000) (k4 : (-1) ≤ x4 ∧ x4 ≤ 48) (k7 : 99 ≤ x7 ∧ x7 ≤ 99) (k9 : 0 ≤ x9 ∧ x9 ≤ 2000) (k12 : 1 ≤ x12 ∧ x12 ≤ 1) (k15 : 0 ≤ x15 ∧ x15 ≤ 0) (f0 : 1 * from_0 + ((-1) * pos_0 + 0) ≤ 0) (f1 : ((kind_0 = 1) → (pos_0 ≤ (from_0 + 8))) ∧ ((kind_0 = 0) ∨ ((from_0 + 1) ≤ pos_0))) (f2 : 1 * x3 + ((-1) * pos_0 + 0) ≤ (-1)) (f3 : (-1) * x4 + 0 ≤ 0) (f6 : 1 * x9 + (1 * pos_0 + 0) ≤ 2000) (f7 : (-1) * x9 + ((-1) * pos_0 + 0) ≤ (-2000)) (f8 : (x12 = 1) → (kind_0 = 1)) (f9 : (-1) * fault_0 + 0 ≤ (-1)) (f11 : x12 ≠ 0) (f12 : (-1) * x4 + 0 ≤ 0) (f14 : (-1) * x4 + 0 ≤ 0) (kz_0_8 : 0 ≤ fault_0 ∧ fault_0 ≤ 5) (kz_0_11 : 0 ≤ pos_0 ∧ pos_0 ≤ 2000) (kz_0_12 : 0 ≤ kind_0 ∧ kind_0 ≤ 4) (kz_0_15 : 0 ≤ from_0 ∧ from_0 ≤ 2000) : ((kind_0 = 1) → (pos_0 ≤ (from_0 + 8))) ∧ ((kind_0 = 0) ∨ ((from_0 + 1) ≤ pos_0)) := by
  first | assumption | (clear f1 f8; omega) | omega | grind
set_option maxHeartbeats 4000000 in
theorem vc_Mo_of_at_s5002_27_2 (x2 : Int) (x3 : Int) (x4 : Int) (x7 : Int) (x9 : Int) (x12 : Int) (x15 : Int) (from_0 : Int) (pos_0 : Int) (kind_0 : Int) (fault_0 : Int) (k2 : 99 ≤ x2 ∧ x2 ≤ 99) (k3 : 0 ≤ x3 ∧ x3 ≤ 2000) (k4 : (-1) ≤ x4 ∧ x4 ≤ 48) (k7 : 99 ≤ x7 ∧ x7 ≤ 99) (k9 : 0 ≤ x9 ∧ x9 ≤ 2000) (k12 : 1 ≤ x12 ∧ x12 ≤ 1) (k15 : 0 ≤ x15 ∧ x15 ≤ 0) (f0 : 1 * from_0 + ((-1) * pos_0 + 0) ≤ 0) (f1 : ((kind_0 = 1) → (pos_0 ≤ (from_0 + 8))) ∧ ((kind_0 = 0) ∨ ((from_0 + 1) ≤ pos_0))) (f2 : 1 * x3 + ((-1) * pos_0 + 0) ≤ (-1)) (f3 : (-1) * x4 + 0 ≤ 0) (f6 : 1 * x9 + (1 * pos_0 + 0) ≤ 2000) (f7 : (-1) * x9 + ((-1) * pos_0 + 0) ≤ (-2000)) (f8 : (x12 = 1) → (kind_0 = 1)) (f9 : (-1) * fault_0 + 0 ≤ (-1)) (f11 : x12 ≠ 0) (f12 : (-1) * x4 + 0 ≤ 0) (f14 : (-1) * x4 + 0 ≤ 0) (kz_0_8 : 0 ≤ fault_0 ∧ fault_0 ≤ 5) (kz_0_11 : 0 ≤ pos_0 ∧ pos_0 ≤ 2000) (kz_0_12 : 0 ≤ kind_0 ∧ kind_0 ≤ 4) (kz_0_15 : 0 ≤ from_0 ∧ from_0 ≤ 2000) : 1 * x3 + ((-1) * pos_0 + 0) ≤ 0 := by
  first | assumption | (clear f1 f8; omega) | omega | grind
set_option maxHeartbeats 4000000 in
theorem vc_Mo_of_at_s5002_27_3 (x2 : Int) (x3 : Int) (x4 : Int) (x7 : Int) (x9 : Int) (x12 : Int) (x15 : Int) (from_0 : Int) (pos_0 : Int) (kind_0 : Int) (fault_0 : Int) (k2 : 99 ≤ x2 ∧ x2 ≤ 99) (k3 : 0 ≤ x3 ∧ x3 ≤ 2000) (k4 : (-1) ≤ x4 ∧ x4 ≤ 48) (k7 : 99 ≤ x7 ∧ x7 ≤ 99) (k9 : 0 ≤ x9 ∧ x9 ≤ 2000) (k12 : 1 ≤ x12 ∧ x12 ≤ 1) (k15 : 0 ≤ x15 ∧ x15 ≤ 0) (f0 : 1 * from_0 + ((-1) * pos_0 + 0) ≤ 0) (f1 : ((kind_0 = 1) → (pos_0 ≤ (from_0 + 8))) ∧ ((kind_0 = 0) ∨ ((from_0 + 1) ≤ pos_0))) (f2 : 1 * x3 + ((-1) * pos_0 + 0) ≤ (-1)) (f3 : (-1) * x4 + 0 ≤ 0) (f6 : 1 * x9 + (1 * pos_0 + 0) ≤ 2000) (f7 : (-1) * x9 + ((-1) * pos_0 + 0) ≤ (-2000)) (f8 : (x12 = 1) → (kind_0 = 1)) (f9 : (-1) * fault_0 + 0 ≤ (-1)) (f11 : x12 ≠ 0) (f12 : (-1) * x4 + 0 ≤ 0) (f14 : (-1) * x4 + 0 ≤ 0) (kz_0_8 : 0 ≤ fault_0 ∧ fault_0 ≤ 5) (kz_0_11 : 0 ≤ pos_0 ∧ pos_0 ≤ 2000) (kz_0_12 : 0 ≤ kind_0 ∧ kind_0 ≤ 4) (kz_0_15 : 0 ≤ from_0 ∧ from_0 ≤ 2000) : (1 ≤ fault_0) ∨ ((kind_0 = 0) ∨ ((x3 + 1) ≤ pos_0)) := by
  first | assumption | (clear f1 f8; omega) | omega | grind
set_option maxHeartbeats 4000000 in
theorem vc_Mo_of_at_s5002_27_4 (x2 : Int) (x3 : Int) (x4 : Int) (x7 : Int) (x9 : Int) (x12 : Int) (x15 : Int) (from_0 : Int) (pos_0 : Int) (kind_0 : Int) (fault_0 : Int) (k2 : 99 ≤ x2 ∧ x2 ≤ 99) (k3 : 0 ≤ x3 ∧ x3 ≤ 2000) (k4 : (-1) ≤ x4 ∧ x4 ≤ 48) (k7 : 99 ≤ x7 ∧ x7 ≤ 99) (k9 : 0 ≤ x9 ∧ x9 ≤ 2000) (k12 : 1 ≤ x12 ∧ x12 ≤ 1) (k15 : 0 ≤ x15 ∧ x15 ≤ 0) (f0 : 1 * from_0 + ((-1) * pos_0 + 0) ≤ 0) (f1 : ((kind_0 = 1) → (pos_0 ≤ (from_0 + 8))) ∧ ((kind_0 = 0) ∨ ((from_0 + 1) ≤ pos_0))) (f2 : 1 * x3 + ((-1) * pos_0 + 0) ≤ (-1)) (f3 : (-1) * x4 + 0 ≤ 0) (f6 : 1 * x9 + (1 * pos_0 + 0) ≤ 2000) (f7 : (-1) * x9 + ((-1) * pos_0 + 0) ≤ (-2000)) (f8 : (x12 = 1) → (kind_0 = 1)) (f9 : (-1) * fault_0 + 0 ≤ (-1)) (f11 : x12 ≠ 0) (f12 : (-1) * x4 + 0 ≤ 0) (f14 : (-1) * x4 + 0 ≤ 0) (kz_0_8 : 0 ≤ fault_0 ∧ fault_0 ≤ 5) (kz_0_11 : 0 ≤ pos_0 ∧ pos_0 ≤ 2000) (kz_0_12 : 0 ≤ kind_0 ∧ kind_0 ≤ 4) (kz_0_15 : 0 ≤ from_0 ∧ from_0 ≤ 2000) : (1 ≤ fault_0) ∨ (0 ≤ x4) := by
  first | assumption | (clear f1 f8; omega) | omega | grind
set_option maxHeartbeats 4000000 in
theorem vc_Mo_of_at_s5002_27_5 (x2 : Int) (x3 : Int) (x4 : Int) (x7 : Int) (x9 : Int) (x12 : Int) (x15 : Int) (from_0 : Int) (pos_0 : Int) (kind_0 : Int) (fault_0 : Int) (k2 : 99 ≤ x2 ∧ x2 ≤ 99) (k3 : 0 ≤ x3 ∧ x3 ≤ 2000) (k4 : (-1) ≤ x4 ∧ x4 ≤ 48) (k7 : 99 ≤ x7 ∧ x7 ≤ 99) (k9 : 0 ≤ x9 ∧ x9 ≤ 2000) (k12 : 1 ≤ x12 ∧ x12 ≤ 1) (k15 : 0 ≤ x15 ∧ x15 ≤ 0) (f0 : 1 * from_0 + ((-1) * pos_0 + 0) ≤ 0) (f1 : ((kind_0 = 1) → (pos_0 ≤ (from_0 + 8))) ∧ ((kind_0 = 0) ∨ ((from_0 + 1) ≤ pos_0))) (f2 : 1 * x3 + ((-1) * pos_0 + 0) ≤ (-1)) (f3 : (-1) * x4 + 0 ≤ 0) (f6 : 1 * x9 + (1 * pos_0 + 0) ≤ 2000) (f7 : (-1) * x9 + ((-1) * pos_0 + 0) ≤ (-2000)) (f8 : (x12 = 1) → (kind_0 = 1)) (f9 : (-1) * fault_0 + 0 ≤ (-1)) (f11 : x12 ≠ 0) (f12 : (-1) * x4 + 0 ≤ 0) (f14 : (-1) * x4 + 0 ≤ 0) (kz_0_8 : 0 ≤ fault_0 ∧ fault_0 ≤ 5) (kz_0_11 : 0 ≤ pos_0 ∧ pos_0 ≤ 2000) (kz_0_12 : 0 ≤ kind_0 ∧ kind_0 ≤ 4) (kz_0_15 : 0 ≤ from_0 ∧ from_0 ≤ 2000) : 1 * x15 + ((-1) * x2 + 0) ≤ 0 := by
  first | assumption | (clear f1 f8; omega) | omega | grind
set_option maxHeartbeats 4000000 in
theorem vc_Mo_of_at_s5002_27_6 (x2 : Int) (x3 : Int) (x4 : Int) (x7 : Int) (x9 : Int) (x12 : Int) (x15 : Int) (from_0 : Int) (pos_0 : Int) (kind_0 : Int) (fault_0 : Int) (k2 : 99 ≤ x2 ∧ x2 ≤ 99) (k3 : 0 ≤ x3 ∧ x3 ≤ 2000) (k4 : (-1) ≤ x4 ∧ x4 ≤ 48) (k7 : 99 ≤ x7 ∧ x7 ≤ 99) (k9 : 0 ≤ x9 ∧ x9 ≤ 2000) (k12 : 1 ≤ x12 ∧ x12 ≤ 1) (k15 : 0 ≤ x15 ∧ x15 ≤ 0) (f0 : 1 * from_0 + ((-1) * pos_0 + 0) ≤ 0) (f1 : ((kind_0 = 1) → (pos_0 ≤ (from_0 + 8))) ∧ ((kind_0 = 0) ∨ ((from_0 + 1) ≤ pos_0))) (f2 : 1 * x3 + ((-1) * pos_0 + 0) ≤ (-1)) (f3 : (-1) * x4 + 0 ≤ 0) (f6 : 1 * x9 + (1 * pos_0 + 0) ≤ 2000) (f7 : (-1) * x9 + ((-1) * pos_0 + 0) ≤ (-2000)) (f8 : (x12 = 1) → (kind_0 = 1)) (f9 : (-1) * fault_0 + 0 ≤ (-1)) (f11 : x12 ≠ 0) (f12 : (-1) * x4 + 0 ≤ 0) (f14 : (-1) * x4 + 0 ≤ 0) (kz_0_8 : 0 ≤ fault_0 ∧ fault_0 ≤ 5) (kz_0_11 : 0 ≤ pos_0 ∧ pos_0 ≤ 2000) (kz_0_12 : 0 ≤ kind_0 ∧ kind_0 ≤ 4) (kz_0_15 : 0 ≤ from_0 ∧ from_0 ≤ 2000) : (-1) * x15 + 0 ≤ 0 := by
  first | assumption | (clear f1 f8; omega) | omega | grind
def o_Mo_of_at_s5002_27 : or_T := (58, 16, [(0, (2, 0, 0, [165])), (2, (0, 99, 99, [])), (3, (0, 0, 2000, [])), (4, (0, -1, 48, [])), (5, (2, 0, 0, [165])), (7, (0, 99, 99, [])), (9, (0, 0, 2000, [])), (12, (0, 1, 1, [])), (15, (0, 0, 0, []))], [(20, [5, 5], [30, 0, 1, 1, 15, -1, 1, 11]), (20, [5], [50, 3, 0, 12, 11, 15, 2, 21, 4, 7, 1, 3, 2, 0, 12, 0, 1, 0, 3, 2, 0, 11, 4, 3, 2, 0, 15, 0, 8, 3, 7, 1, 3, 2, 0, 12, 0, 0, 0, 7, 4, 3, 2, 0, 15, 0, 1, 2, 0, 11]), (20, [3, 5], [30, -1, 1, 0, 0, -1, 1, 11]), (23, [4], [0, -1]), (24, [0, 5], []), (24, [2, 7], []), (20, [9, 5], [30, 2000, 1, 0, 0, 1, 1, 11]), (20, [9, 5], [30, -2000, -1, 0, 0, -1, 1, 11]), (20, [12, 5], [50, 1, 0, 1012, 4, 6, 1, 2, 1, 0, 0, 1, 1, 3, 2, 1, 12, 0, 1]), (20, [5], [30, -1, -1, 1, 8]), (102, [14], [0, 165008, 165009]), (8, [12], [1]), (23, [4], [0, -1]), (102, [11], [0]), (23, [4], [0, -1])], [], [], [(20, [0, 0], [30, 0, 1, 1, 15, -1, 1, 11]), (20, [0], [50, 3, 0, 12, 11, 15, 2, 21, 4, 7, 1, 3, 2, 0, 12, 0, 1, 0, 3, 2, 0, 11, 4, 3, 2, 0, 15, 0, 8, 3, 7, 1, 3, 2, 0, 12, 0, 0, 0, 7, 4, 3, 2, 0, 15, 0, 1, 2, 0, 11]), (20, [3, 0], [30, 0, 1, 0, 0, -1, 1, 11]), (20, [0, 3], [50, 3, 0, 8, 12, 11, 3, 7, 0, 2, 0, 1, 2, 0, 8, 3, 7, 1, 3, 2, 0, 12, 0, 0, 0, 6, 4, 2, 1, 1, 0, 1, 2, 0, 11]), (20, [0, 4], [50, 1, 0, 8, 3, 7, 0, 2, 0, 1, 2, 0, 8, 0, 2, 0, 0, 1, 1]), (20, [15, 2], [30, 0, 1, 0, 0, -1, 0, 0]), (20, [15], [30, 0, -1, 0, 0])], [], [])
theorem oo_Mo_of_at_s5002_27 {kA : Nat → ClassId} : or_ok PRD kA GG o_Mo_of_at_s5002_27 := by
  refine or_mk fun A ta ws vs hD hth hl => ?_
  intro t0 r0 t2 k2 t3 k3 t4 k4 t5 r5 t7 k7 t9 k9 t12 k12 t15 k15 f0 f1 f2 f3 f4 f5 f6 f7 f8 f9 ta1 w1 le1 s1 f11 f12 ta2 w2 le2 s2 f14
  replace f0 := shm_1397 f0
  replace f1 := shm_1398 f1
  replace f2 := shm_1891 f2
  replace f4 := shm_5 f4
  replace f6 := shm_1892 f6
  replace f7 := shm_1893 f7
  replace f8 := shm_1762 f8
  replace f9 := shm_144 f9
  have q5 : n_v vs 5 = n_v vs 0 := f4.symm
  simp only [q5] at f0 f1 f2 f6 f7 f8 f9
  have kz_0_8 := fdq_14 hD hth r0
  have kz_0_11 := fdq_273 hD hth r0
  have kz_0_12 := fdq_186 hD hth r0
  have kz_0_15 := fdq_274 hD hth r0
  have nf0 : fc_1 PRD (20, [0, 0], [30, 0, 1, 1, 15, -1, 1, 11]) ws (vs) := ⟨nf_in hl rfl, sgq_1397 (vc_Mo_of_at_s5002_27_0 (v_iv (n_v vs 2)) (v_iv (n_v vs 3)) (v_iv (n_v vs 4)) (v_iv (n_v vs 7)) (v_iv (n_v vs 9)) (v_iv (n_v vs 12)) (v_iv (n_v vs 15)) (w_fi ws (n_v vs 0) 15) (w_fi ws (n_v vs 0) 11) (w_fi ws (n_v vs 0) 12) (w_fi ws (n_v vs 0) 8) k2 k3 k4 k7 k9 k12 k15 f0 f1 f2 (shm_1013 f3) f6 f7 f8 f9 (shm_154 f11) (shm_1013 f12) (shm_1013 f14) kz_0_8 kz_0_11 kz_0_12 kz_0_15)⟩
  have nf1 : fc_1 PRD (20, [0], [50, 3, 0, 12, 11, 15, 2, 21, 4, 7, 1, 3, 2, 0, 12, 0, 1, 0, 3, 2, 0, 11, 4, 3, 2, 0, 15, 0, 8, 3, 7, 1, 3, 2, 0, 12, 0, 0, 0, 7, 4, 3, 2, 0, 15, 0, 1, 2, 0, 11]) ws (vs) := ⟨nf_in hl rfl, sgq_1398 (vc_Mo_of_at_s5002_27_1 (v_iv (n_v vs 2)) (v_iv (n_v vs 3)) (v_iv (n_v vs 4)) (v_iv (n_v vs 7)) (v_iv (n_v vs 9)) (v_iv (n_v vs 12)) (v_iv (n_v vs 15)) (w_fi ws (n_v vs 0) 15) (w_fi ws (n_v vs 0) 11) (w_fi ws (n_v vs 0) 12) (w_fi ws (n_v vs 0) 8) k2 k3 k4 k7 k9 k12 k15 f0 f1 f2 (shm_1013 f3) f6 f7 f8 f9 (shm_154 f11) (shm_1013 f12) (shm_1013 f14) kz_0_8 kz_0_11 kz_0_12 kz_0_15)⟩
  have nf2 : fc_1 PRD (20, [3, 0], [30, 0, 1, 0, 0, -1, 1, 11]) ws (vs) := ⟨nf_in hl rfl, sgq_1395 (vc_Mo_of_at_s5002_27_2 (v_iv (n_v vs 2)) (v_iv (n_v vs 3)) (v_iv (n_v vs 4)) (v_iv (n_v vs 7)) (v_iv (n_v vs 9)) (v_iv (n_v vs 12)) (v_iv (n_v vs 15)) (w_fi ws (n_v vs 0) 15) (w_fi ws (n_v vs 0) 11) (w_fi ws (n_v vs 0) 12) (w_fi ws (n_v vs 0) 8) k2 k3 k4 k7 k9 k12 k15 f0 f1 f2 (shm_1013 f3) f6 f7 f8 f9 (shm_154 f11) (shm_1013 f12) (shm_1013 f14) kz_0_8 kz_0_11 kz_0_12 kz_0_15)⟩
  have nf3 : fc_1 PRD (20, [0, 3], [50, 3, 0, 8, 12, 11, 3, 7, 0, 2, 0, 1, 2, 0, 8, 3, 7, 1, 3, 2, 0, 12, 0, 0, 0, 6, 4, 2, 1, 1, 0, 1, 2, 0, 11]) ws (vs) := ⟨nf_in hl rfl, sgq_1660 (vc_Mo_of_at_s5002_27_3 (v_iv (n_v vs 2)) (v_iv (n_v vs 3)) (v_iv (n_v vs 4)) (v_iv (n_v vs 7)) (v_iv (n_v vs 9)) (v_iv (n_v vs 12)) (v_iv (n_v vs 15)) (w_fi ws (n_v vs 0) 15) (w_fi ws (n_v vs 0) 11) (w_fi ws (n_v vs 0) 12) (w_fi ws (n_v vs 0) 8) k2 k3 k4 k7 k9 k12 k15 f0 f1 f2 (shm_1013 f3) f6 f7 f8 f9 (shm_154 f11) (shm_1013 f12) (shm_1013 f14) kz_0_8 kz_0_11 kz_0_12 kz_0_15)⟩
  have nf4 : fc_1 PRD (20, [0, 4], [50, 1, 0, 8, 3, 7, 0, 2, 0, 1, 2, 0, 8, 0, 2, 0, 0, 1, 1]) ws (vs) := ⟨nf_in hl rfl, sgq_1889 (vc_Mo_of_at_s5002_27_4 (v_iv (n_v vs 2)) (v_iv (n_v vs 3)) (v_iv (n_v vs 4)) (v_iv (n_v vs 7)) (v_iv (n_v vs 9)) (v_iv (n_v vs 12)) (v_iv (n_v vs 15)) (w_fi ws (n_v vs 0) 15) (w_fi ws (n_v vs 0) 11) (w_fi ws (n_v vs 0) 12) (w_fi ws (n_v vs 0) 8) k2 k3 k4 k7 k9 k12 k15 f0 f1 f2 (shm_1013 f3) f6 f7 f8 f9 (shm_154 f11) (shm_1013 f12) (shm_1013 f14) kz_0_8 kz_0_11 kz_0_12 kz_0_15)⟩
  have nf5 : fc_1 PRD (20, [15, 2], [30, 0, 1, 0, 0, -1, 0, 0]) ws (vs) := ⟨nf_in hl rfl, sgq_219 (vc_Mo_of_at_s5002_27_5 (v_iv (n_v vs 2)) (v_iv (n_v vs 3)) (v_iv (n_v vs 4)) (v_iv (n_v vs 7)) (v_iv (n_v vs 9)) (v_iv (n_v vs 12)) (v_iv (n_v vs 15)) (w_fi ws (n_v vs 0) 15) (w_fi ws (n_v vs 0) 11) (w_fi ws (n_v vs 0) 12) (w_fi ws (n_v vs 0) 8) k2 k3 k4 k7 k9 k12 k15 f0 f1 f2 (shm_1013 f3) f6 f7 f8 f9 (shm_154 f11) (shm_1013 f12) (shm_1013 f14) kz_0_8 kz_0_11 kz_0_12 kz_0_15)⟩
  have nf6 : fc_1 PRD (20, [15], [30, 0, -1, 0, 0]) ws (vs) := ⟨nf_in hl rfl, sgq_1890 (vc_Mo_of_at_s5002_27_6 (v_iv (n_v vs 2)) (v_iv (n_v vs 3)) (v_iv (n_v vs 4)) (v_iv (n_v vs 7)) (v_iv (n_v vs 9)) (v_iv (n_v vs 12)) (v_iv (n_v vs 15)) (w_fi ws (n_v vs 0) 15) (w_fi ws (n_v vs 0) 11) (w_fi ws (n_v vs 0) 12) (w_fi ws (n_v vs 0) 8) k2 k3 k4 k7 k9 k12 k15 f0 f1 f2 (shm_1013 f3) f6 f7 f8 f9 (shm_154 f11) (shm_1013 f12) (shm_1013 f14) kz_0_8 kz_0_11 kz_0_12 kz_0_15)⟩
  refine ⟨(fun _ h => (by cases h)), [], trivial, ?_, (fun _ h => (by cases h))⟩
  rw [List.append_nil]
  exact List.forall_mem_cons.mpr ⟨⟨show (20 : Nat) < 100 from by decide, nf0⟩, List.forall_mem_cons.mpr ⟨⟨show (20 : Nat) < 100 from by decide, nf1⟩, List.forall_mem_cons.mpr ⟨⟨show (20 : Nat) < 100 from by decide, nf2⟩, List.forall_mem_cons.mpr ⟨⟨show (20 : Nat) < 100 from by decide, nf3⟩, List.forall_mem_cons.mpr ⟨⟨show (20 : Nat) < 100 from by decide, nf4⟩, List.forall_mem_cons.mpr ⟨⟨show (20 : Nat) < 100 from by decide, nf5⟩, List.forall_mem_cons.mpr ⟨⟨show (20 : Nat) < 100 from by decide, nf6⟩, (fun _ h => (by cases h))⟩⟩⟩⟩⟩⟩⟩
set_option maxHeartbeats 4000000 in
theorem vc_Mo_of_at_s5002_28_0 (x2 : Int) (x3 : Int) (x4 : Int) (x7 : Int) (x9 : Int) (x14 : Int) (from_0 : Int) (pos_0 : Int) (kind_0 : Int) (fault_0 : Int) (k2 : 99 ≤ x2 ∧ x2 ≤ 99) (k3 : 0 ≤ x3 ∧ x3 ≤ 2000) (k4 : (-1) ≤ x4 ∧ x4 ≤ 48) (k7 : 99 ≤ x7 ∧ x7 ≤ 99) (k9 : 0 ≤ x9 ∧ x9 ≤ 2000) (k14 : 0 ≤ x14 ∧ x14 ≤ 0) (f0 : 1 * from_0 + ((-1) * pos_0 + 0) ≤ 0) (f1 : ((kind_0 = 1) → (pos_0 ≤ (from_0 + 8))) ∧ ((kind_0 = 0) ∨ ((from_0 + 1) ≤ pos_0))) (f2 : 1 * x3 + ((-1) * pos_0 + 0) ≤ (-1)) (f3 : (-1) * x4 + 0 ≤ 0) (f6 : 1 * x9 + (1 * pos_0 + 0) ≤ 2000) (f7 : (-1) * x9 + ((-1) * pos_0 + 0) ≤ (-2000)) (f8 : (-1) * fault_0 + 0 ≤ (-1)) (f10 : (-1) * x4 + 0 ≤ 0) (kz_0_8 : 0 ≤ fault_0 ∧ fault_0 ≤ 5) (kz_0_11 : 0 ≤ pos_0 ∧ pos_0 ≤ 2000) (kz_0_12 : 0 ≤ kind_0 ∧ kind_0 ≤ 4) (kz_0_15 : 0 ≤ from_0 ∧ from_0 ≤ 2000) : 1 * from_0 + ((-1) * pos_0 + 0) ≤ 0 := by
  first | assumption | (clear f1; omega) | omega | grind
set_option maxHeartbeats 4000000 in
theorem vc_Mo_of_at_s5002_28_1 (x2 : Int) (x3 : Int) (x4 : Int) (x7 : Int) (x9 : Int) (x14 : Int) (from_0 : Int) (pos_0 : Int) (kind_0 : Int) (fault_0 : Int) (k2 : 99 ≤ x2 ∧ x2 ≤ 99) (k3 : 0 ≤ x3 ∧ x3 ≤ 2000) (k4 : (-1) ≤ x4 ∧ x4 ≤ 48) (k7 : 99 ≤ x7 ∧ x7 ≤ 99) (k9 : 0 ≤ x9 ∧ x9 ≤ 2000) (k14 : 0 ≤ x14 ∧ x14 ≤ 0) (f0 : 1 * from_0 + ((-1) * pos_0 + 0) ≤ 0) (f1 : ((kind_0 = 1) → (pos_0 ≤ (from_0 + 8))) ∧ ((kind_0 = 0) ∨ ((from_0 + 1) ≤ pos_0))) (f2 : 1 * x3 + ((-1) * pos_0 + 0) ≤ (-1)) (f3 : (-1) * x4 + 0 ≤ 0) (f6 : 1 * x9 + (1 * pos_0 + 0) ≤ 2000) (f7 : (-1) * x9 + ((-1) * pos_0 + 0) ≤ (-2000)) (f8 : (-1) * fault_0 + 0 ≤ (-1)) (f10 : (-1) * x4 + 0 ≤ 0) (kz_0_8 : 0 ≤ fault_0 ∧ fault_0 ≤ 5) (kz_0_11 : 0 ≤ pos_0 ∧ pos_0 ≤ 2000) (kz_0_12 : 0 ≤ kind_0 ∧ kind_0 ≤ 4) (kz_0_15 : 0 ≤ from_0 ∧ from_0 ≤ 2000) : ((kind_0 = 1) → (pos_0 ≤ (from_0 + 8))) ∧ ((kind_0 = 0) ∨ ((from_0 + 1) ≤ pos_0)) := by
  first | assumption | (clear f1; omega) | omega | grind
set_option maxHeartbeats 4000000 in
theorem vc_Mo_of_at_s5002_28_2 (x2 : Int) (x3 : Int) (x4 : Int) (x7 : Int) (x9 : Int) (x14 : Int) (from_0 : Int) (pos_0 : Int) (kind_0 : Int) (fault_0 : Int) (k2 : 99 ≤ x2 ∧ x2 ≤ 99) (k3 : 0 ≤ x3 ∧ x3 ≤ 2000) (k4 : (-1) ≤ x4 ∧ x4 ≤ 48) (k7 : 99 ≤ x7 ∧ x7 ≤ 99) (k9 : 0 ≤ x9 ∧ x9 ≤ 2000) (k14 : 0 ≤ x14 ∧ x14 ≤ 0) (f0 : 1 * from_0 + ((-1) * pos_0 + 0) ≤ 0) (f1 : ((kind_0 = 1) → (pos_0 ≤ (from_0 + 8))) ∧ ((kind_0 = 0) ∨ ((from_0 + 1) ≤ pos_0))) (f2 : 1 * x3 + ((-1) * pos_0 + 0) ≤ (-1)) (f3 : (-1) * x4 + 0 ≤ 0) (f6 : 1 * x9 + (1 * pos_0 + 0) ≤ 2000) (f7 : (-1) * x9 + ((-1) * pos_0 + 0) ≤ (-2000)) (f8 : (-1) * fault_0 + 0 ≤ (-1)) (f10 : (-1) * x4 + 0 ≤ 0) (kz_0_8 : 0 ≤ fault_0 ∧ fault_0 ≤ 5) (kz_0_11 : 0 ≤ pos_0 ∧ pos_0 ≤ 2000) (kz_0_12 : 0 ≤ kind_0 ∧ kind_0 ≤ 4) (kz_0_15 : 0 ≤ from_0 ∧ from_0 ≤ 2000) : 1 * x3 + ((-1) * pos_0 + 0) ≤ 0 := by
  first | assumption | (clear f1; omega) | omega | grind
set_option maxHeartbeats 4000000 in
theorem vc_Mo_of_at_s5002_28_3 (x2 : Int) (x3 : Int) (x4 : Int) (x7 : Int) (x9 : Int) (x14 : Int) (from_0 : Int) (pos_0 : Int) (kind_0 : Int) (fault_0 : Int) (k2 : 99 ≤ x2 ∧ x2 ≤ 99) (k3 : 0 ≤ x3 ∧ x3 ≤ 2000) (k4 : (-1) ≤ x4 ∧ x4 ≤ 48) (k7 : 99 ≤ x7 ∧ x7 ≤ 99) (k9 : 0 ≤ x9 ∧ x9 ≤ 2000) (k14 : 0 ≤ x14 ∧ x14 ≤ 0) (f0 : 1 * from_0 + ((-1) * pos_0 + 0) ≤ 0) (f1 : ((kind_0 = 1) → (pos_0 ≤ (from_0 + 8))) ∧ ((kind_0 = 0) ∨ ((from_0 + 1) ≤ pos_0))) (f2 : 1 * x3 + ((-1) * pos_0 + 0) ≤ (-1)) (f3 : (-1) * x4 + 0 ≤ 0) (f6 : 1 * x9 + (1 * pos_0 + 0) ≤ 2000) (f7 : (-1) * x9 + ((-1) * pos_0 + 0) ≤ (-2000)) (f8 : (-1) * fault_0 + 0 ≤ (-1)) (f10 : (-1) * x4 + 0 ≤ 0) (kz_0_8 : 0 ≤ fault_0 ∧ fault_0 ≤ 5) (kz_0_11 : 0 ≤ pos_0 ∧ pos_0 ≤ 2000) (kz_0_12 : 0 ≤ kind_0 ∧ kind_0 ≤ 4) (kz_0_15 : 0 ≤ from_0 ∧ from_0 ≤ 2000) : (1 ≤ fault_0) ∨ ((kind_0 = 0) ∨ ((x3 + 1) ≤ pos_0)) := by
  first | assumption | (clear f1; omega) | omega | grind
set_option maxHeartbeats 4000000 in
theorem vc_Mo_of_at_s5002_28_4 (x2 : Int) (x3 : Int) (x4 : Int) (x7 : Int) (x9 : Int) (x14 : Int) (from_0 : Int) (pos_0 : Int) (kind_0 : Int) (fault_0 : Int) (k2 : 99 ≤ x2 ∧ x2 ≤ 99) (k3 : 0 ≤ x3 ∧ x3 ≤ 2000) (k4 : (-1) ≤ x4 ∧ x4 ≤ 48) (k7 : 99 ≤ x7 ∧ x7 ≤ 99) (k9 : 0 ≤ x9 ∧ x9 ≤ 2000) (k14 : 0 ≤ x14 ∧ x14 ≤ 0) (f0 : 1 * from_0 + ((-1) * pos_0 + 0) ≤ 0) (f1 : ((kind_0 = 1) → (pos_0 ≤ (from_0 + 8))) ∧ ((kind_0 = 0) ∨ ((from_0 + 1) ≤ pos_0))) (f2 : 1 * x3 + ((-1) * pos_0 + 0) ≤ (-1)) (f3 : (-1) * x4 + 0 ≤ 0) (f6 : 1 * x9 + (1 * pos_0 + 0) ≤ 2000) (f7 : (-1) * x9 + ((-1) * pos_0 + 0) ≤ (-2000)) (f8 : (-1) * fault_0 + 0 ≤ (-1)) (f10 : (-1) * x4 + 0 ≤ 0) (kz_0_8 : 0 ≤ fault_0 ∧ fault_0 ≤ 5) (kz_0_11 : 0 ≤ pos_0 ∧ pos_0 ≤ 2000) (kz_0_12 : 0 ≤ kind_0 ∧ kind_0 ≤ 4) (kz_0_15 : 0 ≤ from_0 ∧ from_0 ≤ 2000) : (1 ≤ fault_0) ∨ (0 ≤ x4) := by
  first | assumption | (clear f1; omega) | omega | grind
set_option maxHeartbeats 4000000 in
theorem vc_Mo_of_at_s5002_28_5 (x2 : Int) (x3 : Int) (x4 : Int) (x7 : Int) (x9 : Int) (x14 : Int) (from_0 : Int) (pos_0 : Int) (kind_0 : Int) (fault_0 : Int) (k2 : 99 ≤ x2 ∧ x2 ≤ 99) (k3 : 0 ≤ x3 ∧ x3 ≤ 2000) (k4 : (-1) ≤ x4 ∧ x4 ≤ 48) (k7 : 99 ≤ x7 ∧ x7 ≤ 99) (k9 : 0 ≤ x9 ∧ x9 ≤ 2000) (k14 : 0 ≤ x14 ∧ x14 ≤ 0) (f0 : 1 * from_0 + ((-1) * pos_0 + 0) ≤ 0) (f1 : ((kind_0 = 1) → (pos_0 ≤ (from_0 + 8))) ∧ ((kind_0 = 0) ∨ ((from_0 + 1) ≤ pos_0))) (f2 : 1 * x3 + ((-1) * pos_0 + 0) ≤ (-1)) (f3 : (-1) * x4 + 0 ≤ 0) (f6 : 1 * x9 + (1 * pos_0 + 0) ≤ 2000) (f7 : (-1) * x9 + ((-1) * pos_0 + 0) ≤ (-2000)) (f8 : (-1) * fault_0 + 0 ≤ (-1)) (f10 : (-1) * x4 + 0 ≤ 0) (kz_0_8 : 0 ≤ fault_0 ∧ fault_0 ≤ 5) (kz_0_11 : 0 ≤ pos_0 ∧ pos_0 ≤ 2000) (kz_0_12 : 0 ≤ kind_0 ∧ kind_0 ≤ 4) (kz_0_15 : 0 ≤ from_0 ∧ from_0 ≤ 2000) : 1 * x14 + ((-1) * x2 + 0) ≤ 0 := by
  first | assumption | (clear f1; omega) | omega | grind
set_option maxHeartbeats 4000000 in
theorem vc_Mo_of_at_s5002_28_6 (x2 : Int) (x3 : Int) (x4 : Int) (x7 : Int) (x9 : Int) (x14 : Int) (from_0 : Int) (pos_0 : Int) (kind_0 : Int) (fault_0 : Int) (k2 : 99 ≤ x2 ∧ x2 ≤ 99) (k3 : 0 ≤ x3 ∧ x3 ≤ 2000) (k4 : (-1) ≤ x4 ∧ x4 ≤ 48) (k7 : 99 ≤ x7 ∧ x7 ≤ 99) (k9 : 0 ≤ x9 ∧ x9 ≤ 2000) (k14 : 0 ≤ x14 ∧ x14 ≤ 0) (f0 : 1 * from_0 + ((-1) * pos_0 + 0) ≤ 0) (f1 : ((kind_0 = 1) → (pos_0 ≤ (from_0 + 8))) ∧ ((kind_0 = 0) ∨ ((from_0 + 1) ≤ pos_0))) (f2 : 1 * x3 + ((-1) * pos_0 + 0) ≤ (-1)) (f3 : (-1) * x4 + 0 ≤ 0) (f6 : 1 * x9 + (1 * pos_0 + 0) ≤ 2000) (f7 : (-1) * x9 + ((-1) * pos_0 + 0) ≤ (-2000)) (f8 : (-1) * fault_0 + 0 ≤ (-1)) (f10 : (-1) * x4 + 0 ≤ 0) (kz_0_8 : 0 ≤ fault_0 ∧ fault_0 ≤ 5) (kz_0_11 : 0 ≤ pos_0 ∧ pos_0 ≤ 2000) (kz_0_12 : 0 ≤ kind_0 ∧ kind_0 ≤ 4) (kz_0_15 : 0 ≤ from_0 ∧ from_0 ≤ 2000) : (-1) * x14 + 0 ≤ 0 := by
  first | assumption | (clear f1; omega) | omega | grind
def o_Mo_of_at_s5002_28 : or_T := (35, 15, [(0, (2, 0, 0, [165])), (2, (0, 99, 99, [])), (3, (0, 0, 2000, [])), (4, (0, -1, 48, [])), (7, (0, 99, 99, [])), (9, (0, 0, 2000, [])), (14, (0, 0, 0, []))], [(20, [5, 5], [30, 0, 1, 1, 15, -1, 1, 11]), (20, [5], [50, 3, 0, 12, 11, 15, 2, 21, 4, 7, 1, 3, 2, 0, 12, 0, 1, 0, 3, 2, 0, 11, 4, 3, 2, 0, 15, 0, 8, 3, 7, 1, 3, 2, 0, 12, 0, 0, 0, 7, 4, 3, 2, 0, 15, 0, 1, 2, 0, 11]), (20, [3, 5], [30, -1, 1, 0, 0, -1, 1, 11]), (23, [4], [0, -1]), (24, [0, 5], []), (20, [9, 5], [30, 2000, 1, 0, 0, 1, 1, 11]), (20, [9, 5], [30, -2000, -1, 0, 0, -1, 1, 11]), (20, [5], [30, -1, -1, 1, 8]), (102, [13], [0, 165008, 165009]), (23, [4], [0, -1])], [], [], [(20, [0, 0], [30, 0, 1, 1, 15, -1, 1, 11]), (20, [0], [50, 3, 0, 12, 11, 15, 2, 21, 4, 7, 1, 3, 2, 0, 12, 0, 1, 0, 3, 2, 0, 11, 4, 3, 2, 0, 15, 0, 8, 3, 7, 1, 3, 2, 0, 12, 0, 0, 0, 7, 4, 3, 2, 0, 15, 0, 1, 2, 0, 11]), (20, [3, 0], [30, 0, 1, 0, 0, -1, 1, 11]), (20, [0, 3], [50, 3, 0, 8, 12, 11, 3, 7, 0, 2, 0, 1, 2, 0, 8, 3, 7, 1, 3, 2, 0, 12, 0, 0, 0, 6, 4, 2, 1, 1, 0, 1, 2, 0, 11]), (20, [0, 4], [50, 1, 0, 8, 3, 7, 0, 2, 0, 1, 2, 0, 8, 0, 2, 0, 0, 1, 1]), (20, [14, 2], [30, 0, 1, 0, 0, -1, 0, 0]), (20, [14], [30, 0, -1, 0, 0])], [], [])
theorem oo_Mo_of_at_s5002_28 {kA : Nat → ClassId} : or_ok PRD kA GG o_Mo_of_at_s5002_28 := by
  refine or_mk fun A ta ws vs hD hth hl => ?_
  intro t0 r0 t2 k2 t3 k3 t4 k4 t7 k7 t9 k9 t14 k14 f0 f1 f2 f3 f4 f6 f7 f8 ta1 w1 le1 s1 f10
  replace f0 := shm_1397 f0
  replace f1 := shm_1398 f1
  replace f2 := shm_1891 f2
  replace f4 := shm_5 f4
  replace f6 := shm_1892 f6
  replace f7 := shm_1893 f7
  replace f8 := shm_144 f8
  have q5 : n_v vs 5 = n_v vs 0 := f4.symm
  simp only [q5] at f0 f1 f2 f6 f7 f8
  have kz_0_8 := fdq_14 hD hth r0
  have kz_0_11 := fdq_273 hD hth r0
  have kz_0_12 := fdq_186 hD hth r0
  have kz_0_15 := fdq_274 hD hth r0
  have nf0 : fc_1 PRD (20, [0, 0], [30, 0, 1, 1, 15, -1, 1, 11]) ws (vs) := ⟨nf_in hl rfl, sgq_1397 (vc_Mo_of_at_s5002_28_0 (v_iv (n_v vs 2)) (v_iv (n_v vs 3)) (v_iv (n_v vs 4)) (v_iv (n_v vs 7)) (v_iv (n_v vs 9)) (v_iv (n_v vs 14)) (w_fi ws (n_v vs 0) 15) (w_fi ws (n_v vs 0) 11) (w_fi ws (n_v vs 0) 12) (w_fi ws (n_v vs 0) 8) k2 k3 k4 k7 k9 k14 f0 f1 f2 (shm_1013 f3) f6 f7 f8 (shm_1013 f10) kz_0_8 kz_0_11 kz_0_12 kz_0_15)⟩
  have nf1 : fc_1 PRD (20, [0], [50, 3, 0, 12, 11, 15, 2, 21, 4, 7, 1, 3, 2, 0, 12, 0, 1, 0, 3, 2, 0, 11, 4, 3, 2, 0, 15, 0, 8, 3, 7, 1, 3, 2, 0, 12, 0, 0, 0, 7, 4, 3, 2, 0, 15, 0, 1, 2, 0, 11]) ws (vs) := ⟨nf_in hl rfl, sgq_1398 (vc_Mo_of_at_s5002_28_1 (v_iv (n_v vs 2)) (v_iv (n_v vs 3)) (v_iv (n_v vs 4)) (v_iv (n_v vs 7)) (v_iv (n_v vs 9)) (v_iv (n_v vs 14)) (w_fi ws (n_v vs 0) 15) (w_fi ws (n_v vs 0) 11) (w_fi ws (n_v vs 0) 12) (w_fi ws (n_v vs 0) 8) k2 k3 k4 k7 k9 k14 f0 f1 f2 (shm_1013 f3) f6 f7 f8 (shm_1013 f10) kz_0_8 kz_0_11 kz_0_12 kz_0_15)⟩
  have nf2 : fc_1 PRD (20, [3, 0], [30, 0, 1, 0, 0, -1, 1, 11]) ws (vs) := ⟨nf_in hl rfl, sgq_1395 (vc_Mo_of_at_s5002_28_2 (v_iv (n_v vs 2)) (v_iv (n_v vs 3)) (v_iv (n_v vs 4)) (v_iv (n_v vs 7)) (v_iv (n_v vs 9)) (v_iv (n_v vs 14)) (w_fi ws (n_v vs 0) 15) (w_fi ws (n_v vs 0) 11) (w_fi ws (n_v vs 0) 12) (w_fi ws (n_v vs 0) 8) k2 k3 k4 k7 k9 k14 f0 f1 f2 (shm_1013 f3) f6 f7 f8 (shm_1013 f10) kz_0_8 kz_0_11 kz_0_12 kz_0_15)⟩
  have nf3 : fc_1 PRD (20, [0, 3], [50, 3, 0, 8, 12, 11, 3, 7, 0, 2, 0, 1, 2, 0, 8, 3, 7, 1, 3, 2, 0, 12, 0, 0, 0, 6, 4, 2, 1, 1, 0, 1, 2, 0, 11]) ws (vs) := ⟨nf_in hl rfl, sgq_1660 (vc_Mo_of_at_s5002_28_3 (v_iv (n_v vs 2)) (v_iv (n_v vs 3)) (v_iv (n_v vs 4)) (v_iv (n_v vs 7)) (v_iv (n_v vs 9)) (v_iv (n_v vs 14)) (w_fi ws (n_v vs 0) 15) (w_fi ws (n_v vs 0) 11) (w_fi ws (n_v vs 0) 12) (w_fi ws (n_v vs 0) 8) k2 k3 k4 k7 k9 k14 f0 f1 f2 (shm_1013 f3) f6 f7 f8 (shm_1013 f10) kz_0_8 kz_0_11 kz_0_12 kz_0_15)⟩
  have nf4 : fc_1 PRD (20, [0, 4], [50, 1, 0, 8, 3, 7, 0, 2, 0, 1, 2, 0, 8, 0, 2, 0, 0, 1, 1]) ws (vs) := ⟨nf_in hl rfl, sgq_1889 (vc_Mo_of_at_s5002_28_4 (v_iv (n_v vs 2)) (v_iv (n_v vs 3)) (v_iv (n_v vs 4)) (v_iv (n_v vs 7)) (v_iv (n_v vs 9)) (v_iv (n_v vs 14)) (w_fi ws (n_v vs 0) 15) (w_fi ws (n_v vs 0) 11) (w_fi ws (n_v vs 0) 12) (w_fi ws (n_v vs 0) 8) k2 k3 k4 k7 k9 k14 f0 f1 f2 (shm_1013 f3) f6 f7 f8 (shm_1013 f10) kz_0_8 kz_0_11 kz_0_12 kz_0_15)⟩
  have nf5 : fc_1 PRD (20, [14, 2], [30, 0, 1, 0, 0, -1, 0, 0]) ws (vs) := ⟨nf_in hl rfl, sgq_219 (vc_Mo_of_at_s5002_28_5 (v_iv (n_v vs 2)) (v_iv (n_v vs 3)) (v_iv (n_v vs 4)) (v_iv (n_v vs 7)) (v_iv (n_v vs 9)) (v_iv (n_v vs 14)) (w_fi ws (n_v vs 0) 15) (w_fi ws (n_v vs 0) 11) (w_fi ws (n_v vs 0) 12) (w_fi ws (n_v vs 0) 8) k2 k3 k4 k7 k9 k14 f0 f1 f2 (shm_1013 f3) f6 f7 f8 (shm_1013 f10) kz_0_8 kz_0_11 kz_0_12 kz_0_15)⟩
  have nf6 : fc_1 PRD (20, [14], [30, 0, -1, 0, 0]) ws (vs) := ⟨nf_in hl rfl, sgq_1890 (vc_Mo_of_at_s5002_28_6 (v_iv (n_v vs 2)) (v_iv (n_v vs 3)) (v_iv (n_v vs 4)) (v_iv (n_v vs 7)) (v_iv (n_v vs 9)) (v_iv (n_v vs 14)) (w_fi ws (n_v vs 0) 15) (w_fi ws (n_v vs 0) 11) (w_fi ws (n_v vs 0) 12) (w_fi ws (n_v vs 0) 8) k2 k3 k4 k7 k9 k14 f0 f1 f2 (shm_1013 f3) f6 f7 f8 (shm_1013 f10) kz_0_8 kz_0_11 kz_0_12 kz_0_15)⟩
  refine ⟨(fun _ h => (by cases h)), [], trivial, ?_, (fun _ h => (by cases h))⟩
  rw [List.append_nil]
  exact List.forall_mem_cons.mpr ⟨⟨show (20 : Nat) < 100 from by decide, nf0⟩, List.forall_mem_cons.mpr ⟨⟨show (20 : Nat) < 100 from by decide, nf1⟩, List.forall_mem_cons.mpr ⟨⟨show (20 : Nat) < 100 from by decide, nf2⟩, List.forall_mem_cons.mpr ⟨⟨show (20 : Nat) < 100 from by decide, nf3⟩, List.forall_mem_cons.mpr ⟨⟨show (20 : Nat) < 100 from by decide, nf4⟩, List.forall_mem_cons.mpr ⟨⟨show (20 : Nat) < 100 from by decide, nf5⟩, List.forall_mem_cons.mpr ⟨⟨show (20 : Nat) < 100 from by decide, nf6⟩, (fun _ h => (by cases h))⟩⟩⟩⟩⟩⟩⟩
set_option maxHeartbeats 4000000 in
theorem vc_Mo_of_at_s5002_29_0 (x2 : Int) (x3 : Int) (x4 : Int) (x7 : Int) (x8 : Int) (x9 : Int) (x10 : Int) (x12 : Int) (kind_0 : Int) (fault_0 : Int) (from_0 : Int) (pos_0 : Int) (gx : Int) (k2 : 99 ≤ x2 ∧ x2 ≤ 99) (k3 : 0 ≤ x3 ∧ x3 ≤ 2000) (k4 : (-1) ≤ x4 ∧ x4 ≤ 48) (k7 : 99 ≤ x7 ∧ x7 ≤ 99) (k8 : (-2147483648) ≤ x8 ∧ x8 ≤ 2147483647) (k9 : 0 ≤ x9 ∧ x9 ≤ 0) (k10 : 0 ≤ x10 ∧ x10 ≤ 2000) (k12 : 0 ≤ x12 ∧ x12 ≤ 0) (f0 : x12 = 0) (f1 : (x12 = 1) → ((kind_0 = 3) ∧ (fault_0 = 0))) (f2 : x9 = 0) (g3 : x9 = fault_0) (f4 : 1 * from_0 + ((-1) * pos_0 + 0) ≤ 0) (f5 : ((kind_0 = 1) → (pos_0 ≤ (from_0 + 8))) ∧ ((kind_0 = 0) ∨ ((from_0 + 1) ≤ pos_0))) (f6 : 1 * x3 + ((-1) * pos_0 + 0) ≤ (-1)) (f7 : 1 * x8 + ((-1) * x2 + 0) ≤ 0) (f8 : (-1) * x8 + 0 ≤ 0) (f9 : (-1) * x4 + 0 ≤ 0) (f10 : (-1) * x10 + ((-1) * pos_0 + 0) ≤ (-2001)) (kz_0_8 : 0 ≤ fault_0 ∧ fault_0 ≤ 5) (kz_0_11 : 0 ≤ pos_0 ∧ pos_0 ≤ 2000) (kz_0_12 : 0 ≤ kind_0 ∧ kind_0 ≤ 4) (kz_0_15 : 0 ≤ from_0 ∧ from_0 ≤ 2000) (ex2 : gx = 2000 + ((-1) * pos_0 + 0)) (ex3 : 0 ≤ gx ∧ gx ≤ 2000) : 1 * from_0 + ((-1) * pos_0 + 0) ≤ 0 := by
  first | assumption | (clear f1 f5; omega) | omega | grind
set_option maxHeartbeats 4000000 in
theorem vc_Mo_of_at_s5002_29_1 (x2 : Int) (x3 : Int) (x4 : Int) (x7 : Int) (x8 : Int) (x9 : Int) (x10 : Int) (x12 : Int) (kind_0 : Int) (fault_0 : Int) (from_0 : Int) (pos_0 : Int) (gx : Int) (k2 : 99 ≤ x2 ∧ x2 ≤ 99) (k3 : 0 ≤ x3 ∧ x3 ≤ 2000) (k4 : (-1) ≤ x4 ∧ x4 ≤ 48) (k7 : 99 ≤ x7 ∧ x7 ≤ 99) (k8 : (-2147483648) ≤ x8 ∧ x8 ≤ 2147483647) (k9 : 0 ≤ x9 ∧ x9 ≤ 0) (k10 : 0 ≤ x10 ∧ x10 ≤ 2000) (k12 : 0 ≤ x12 ∧ x12 ≤ 0) (f0 : x12 = 0) (f1 : (x12 = 1) → ((kind_0 = 3) ∧ (fault_0 = 0))) (f2 : x9 = 0) (g3 : x9 = fault_0) (f4 : 1 * from_0 + ((-1) * pos_0 + 0) ≤ 0) (f5 : ((kind_0 = 1) → (pos_0 ≤ (from_0 + 8))) ∧ ((kind_0 = 0) ∨ ((from_0 + 1) ≤ pos_0))) (f6 : 1 * x3 + ((-1) * pos_0 + 0) ≤ (-1)) (f7 : 1 * x8 + ((-1) * x2 + 0) ≤ 0) (f8 : (-1) * x8 + 0 ≤ 0) (f9 : (-1) * x4 + 0 ≤ 0) (f10 : (-1) * x10 + ((-1) * pos_0 + 0) ≤ (-2001)) (kz_0_8 : 0 ≤ fault_0 ∧ fault_0 ≤ 5) (kz_0_11 : 0 ≤ pos_0 ∧ pos_0 ≤ 2000) (kz_0_12 : 0 ≤ kind_0 ∧ kind_0 ≤ 4) (kz_0_15 : 0 ≤ from_0 ∧ from_0 ≤ 2000) (ex2 : gx = 2000 + ((-1) * pos_0 + 0)) (ex3 : 0 ≤ gx ∧ gx ≤ 2000) : ((kind_0 = 1) → (pos_0 ≤ (from_0 + 8))) ∧ ((kind_0 = 0) ∨ ((from_0 + 1) ≤ pos_0)) := by
  first | assumption | (clear f1 f5; omega) | omega | grind
set_option maxHeartbeats 4000000 in
theorem vc_Mo_of_at_s5002_29_2 (x2 : Int) (x3 : Int) (x4 : Int) (x7 : Int) (x8 : Int) (x9 : Int) (x10 : Int) (x12 : Int) (kind_0 : Int) (fault_0 : Int) (from_0 : Int) (pos_0 : Int) (gx : Int) (k2 : 99 ≤ x2 ∧ x2 ≤ 99) (k3 : 0 ≤ x3 ∧ x3 ≤ 2000) (k4 : (-1) ≤ x4 ∧ x4 ≤ 48) (k7 : 99 ≤ x7 ∧ x7 ≤ 99) (k8 : (-2147483648) ≤ x8 ∧ x8 ≤ 2147483647) (k9 : 0 ≤ x9 ∧ x9 ≤ 0) (k10 : 0 ≤ x10 ∧ x10 ≤ 2000) (k12 : 0 ≤ x12 ∧ x12 ≤ 0) (f0 : x12 = 0) (f1 : (x12 = 1) → ((kind_0 = 3) ∧ (fault_0 = 0))) (f2 : x9 = 0) (g3 : x9 = fault_0) (f4 : 1 * from_0 + ((-1) * pos_0 + 0) ≤ 0) (f5 : ((kind_0 = 1) → (pos_0 ≤ (from_0 + 8))) ∧ ((kind_0 = 0) ∨ ((from_0 + 1) ≤ pos_0))) (f6 : 1 * x3 + ((-1) * pos_0 + 0) ≤ (-1)) (f7 : 1 * x8 + ((-1) * x2 + 0) ≤ 0) (f8 : (-1) * x8 + 0 ≤ 0) (f9 : (-1) * x4 + 0 ≤ 0) (f10 : (-1) * x10 + ((-1) * pos_0 + 0) ≤ (-2001)) (kz_0_8 : 0 ≤ fault_0 ∧ fault_0 ≤ 5) (kz_0_11 : 0 ≤ pos_0 ∧ pos_0 ≤ 2000) (kz_0_12 : 0 ≤ kind_0 ∧ kind_0 ≤ 4) (kz_0_15 : 0 ≤ from_0 ∧ from_0 ≤ 2000) (ex2 : gx = 2000 + ((-1) * pos_0 + 0)) (ex3 : 0 ≤ gx ∧ gx ≤ 2000) : 1 * x3 + ((-1) * pos_0 + 0) ≤ (-1) := by
  first | assumption | (clear f1 f5; omega) | omega | grind
set_option maxHeartbeats 4000000 in
theorem vc_Mo_of_at_s5002_29_3 (x2 : Int) (x3 : Int) (x4 : Int) (x7 : Int) (x8 : Int) (x9 : Int) (x10 : Int) (x12 : Int) (kind_0 : Int) (fault_0 : Int) (from_0 : Int) (pos_0 : Int) (gx : Int) (k2 : 99 ≤ x2 ∧ x2 ≤ 99) (k3 : 0 ≤ x3 ∧ x3 ≤ 2000) (k4 : (-1) ≤ x4 ∧ x4 ≤ 48) (k7 : 99 ≤ x7 ∧ x7 ≤ 99) (k8 : (-2147483648) ≤ x8 ∧ x8 ≤ 2147483647) (k9 : 0 ≤ x9 ∧ x9 ≤ 0) (k10 : 0 ≤ x10 ∧ x10 ≤ 2000) (k12 : 0 ≤ x12 ∧ x12 ≤ 0) (f0 : x12 = 0) (f1 : (x12 = 1) → ((kind_0 = 3) ∧ (fault_0 = 0))) (f2 : x9 = 0) (g3 : x9 = fault_0) (f4 : 1 * from_0 + ((-1) * pos_0 + 0) ≤ 0) (f5 : ((kind_0 = 1) → (pos_0 ≤ (from_0 + 8))) ∧ ((kind_0 = 0) ∨ ((from_0 + 1) ≤ pos_0))) (f6 : 1 * x3 + ((-1) * pos_0 + 0) ≤ (-1)) (f7 : 1 * x8 + ((-1) * x2 + 0) ≤ 0) (f8 : (-1) * x8 + 0 ≤ 0) (f9 : (-1) * x4 + 0 ≤ 0) (f10 : (-1) * x10 + ((-1) * pos_0 + 0) ≤ (-2001)) (kz_0_8 : 0 ≤ fault_0 ∧ fault_0 ≤ 5) (kz_0_11 : 0 ≤ pos_0 ∧ pos_0 ≤ 2000) (kz_0_12 : 0 ≤ kind_0 ∧ kind_0 ≤ 4) (kz_0_15 : 0 ≤ from_0 ∧ from_0 ≤ 2000) (ex2 : gx = 2000 + ((-1) * pos_0 + 0)) (ex3 : 0 ≤ gx ∧ gx ≤ 2000) : 1 * x8 + ((-1) * x2 + 0) ≤ 0 := by
  first | assumption | (clear f1 f5; omega) | omega | grind
set_option maxHeartbeats 4000000 in
theorem vc_Mo_of_at_s5002_29_4 (x2 : Int) (x3 : Int) (x4 : Int) (x7 : Int) (x8 : Int) (x9 : Int) (x10 : Int) (x12 : Int) (kind_0 : Int) (fault_0 : Int) (from_0 : Int) (pos_0 : Int) (gx : Int) (k2 : 99 ≤ x2 ∧ x2 ≤ 99) (k3 : 0 ≤ x3 ∧ x3 ≤ 2000) (k4 : (-1) ≤ x4 ∧ x4 ≤ 48) (k7 : 99 ≤ x7 ∧ x7 ≤ 99) (k8 : (-2147483648) ≤ x8 ∧ x8 ≤ 2147483647) (k9 : 0 ≤ x9 ∧ x9 ≤ 0) (k10 : 0 ≤ x10 ∧ x10 ≤ 2000) (k12 : 0 ≤ x12 ∧ x12 ≤ 0) (f0 : x12 = 0) (f1 : (x12 = 1) → ((kind_0 = 3) ∧ (fault_0 = 0))) (f2 : x9 = 0) (g3 : x9 = fault_0) (f4 : 1 * from_0 + ((-1) * pos_0 + 0) ≤ 0) (f5 : ((kind_0 = 1) → (pos_0 ≤ (from_0 + 8))) ∧ ((kind_0 = 0) ∨ ((from_0 + 1) ≤ pos_0))) (f6 : 1 * x3 + ((-1) * pos_0 + 0) ≤ (-1)) (f7 : 1 * x8 + ((-1) * x2 + 0) ≤ 0) (f8 : (-1) * x8 + 0 ≤ 0) (f9 : (-1) * x4 + 0 ≤ 0) (f10 : (-1) * x10 + ((-1) * pos_0 + 0) ≤ (-2001)) (kz_0_8 : 0 ≤ fault_0 ∧ fault_0 ≤ 5) (kz_0_11 : 0 ≤ pos_0 ∧ pos_0 ≤ 2000) (kz_0_12 : 0 ≤ kind_0 ∧ kind_0 ≤ 4) (kz_0_15 : 0 ≤ from_0 ∧ from_0 ≤ 2000) (ex2 : gx = 2000 + ((-1) * pos_0 + 0)) (ex3 : 0 ≤ gx ∧ gx ≤ 2000) : (-1) * x8 + 0 ≤ 0 := by
  first | assumption | (clear f1 f5; omega) | omega | grind
set_option maxHeartbeats 4000000 in
theorem vc_Mo_of_at_s5002_29_5 (x2 : Int) (x3 : Int) (x4 : Int) (x7 : Int) (x8 : Int) (x9 : Int) (x10 : Int) (x12 : Int) (kind_0 : Int) (fault_0 : Int) (from_0 : Int) (pos_0 : Int) (gx : Int) (k2 : 99 ≤ x2 ∧ x2 ≤ 99) (k3 : 0 ≤ x3 ∧ x3 ≤ 2000) (k4 : (-1) ≤ x4 ∧ x4 ≤ 48) (k7 : 99 ≤ x7 ∧ x7 ≤ 99) (k8 : (-2147483648) ≤ x8 ∧ x8 ≤ 2147483647) (k9 : 0 ≤ x9 ∧ x9 ≤ 0) (k10 : 0 ≤ x10 ∧ x10 ≤ 2000) (k12 : 0 ≤ x12 ∧ x12 ≤ 0) (f0 : x12 = 0) (f1 : (x12 = 1) → ((kind_0 = 3) ∧ (fault_0 = 0))) (f2 : x9 = 0) (g3 : x9 = fault_0) (f4 : 1 * from_0 + ((-1) * pos_0 + 0) ≤ 0) (f5 : ((kind_0 = 1) → (pos_0 ≤ (from_0 + 8))) ∧ ((kind_0 = 0) ∨ ((from_0 + 1) ≤ pos_0))) (f6 : 1 * x3 + ((-1) * pos_0 + 0) ≤ (-1)) (f7 : 1 * x8 + ((-1) * x2 + 0) ≤ 0) (f8 : (-1) * x8 + 0 ≤ 0) (f9 : (-1) * x4 + 0 ≤ 0) (f10 : (-1) * x10 + ((-1) * pos_0 + 0) ≤ (-2001)) (kz_0_8 : 0 ≤ fault_0 ∧ fault_0 ≤ 5) (kz_0_11 : 0 ≤ pos_0 ∧ pos_0 ≤ 2000) (kz_0_12 : 0 ≤ kind_0 ∧ kind_0 ≤ 4) (kz_0_15 : 0 ≤ from_0 ∧ from_0 ≤ 2000) (ex2 : gx = 2000 + ((-1) * pos_0 + 0)) (ex3 : 0 ≤ gx ∧ gx ≤ 2000) : (-1) * x4 + 0 ≤ 0 := by
  first | assumption | (clear f1 f5; omega) | omega | grind
set_option maxHeartbeats 4000000 in
theorem vc_Mo_of_at_s5002_29_8 (x2 : Int) (x3 : Int) (x4 : Int) (x7 : Int) (x8 : Int) (x9 : Int) (x10 : Int) (x12 : Int) (kind_0 : Int) (fault_0 : Int) (from_0 : Int) (pos_0 : Int) (gx : Int) (k2 : 99 ≤ x2 ∧ x2 ≤ 99) (k3 : 0 ≤ x3 ∧ x3 ≤ 2000) (k4 : (-1) ≤ x4 ∧ x4 ≤ 48) (k7 : 99 ≤ x7 ∧ x7 ≤ 99) (k8 : (-2147483648) ≤ x8 ∧ x8 ≤ 2147483647) (k9 : 0 ≤ x9 ∧ x9 ≤ 0) (k10 : 0 ≤ x10 ∧ x10 ≤ 2000) (k12 : 0 ≤ x12 ∧ x12 ≤ 0) (f0 : x12 = 0) (f1 : (x12 = 1) → ((kind_0 = 3) ∧ (fault_0 = 0))) (f2 : x9 = 0) (g3 : x9 = fault_0) (f4 : 1 * from_0 + ((-1) * pos_0 + 0) ≤ 0) (f5 : ((kind_0 = 1) → (pos_0 ≤ (from_0 + 8))) ∧ ((kind_0 = 0) ∨ ((from_0 + 1) ≤ pos_0))) (f6 : 1 * x3 + ((-1) * pos_0 + 0) ≤ (-1)) (f7 : 1 * x8 + ((-1) * x2 + 0) ≤ 0) (f8 : (-1) * x8 + 0 ≤ 0) (f9 : (-1) * x4 + 0 ≤ 0) (f10 : (-1) * x10 + ((-1) * pos_0 + 0) ≤ (-2001)) (kz_0_8 : 0 ≤ fault_0 ∧ fault_0 ≤ 5) (kz_0_11 : 0 ≤ pos_0 ∧ pos_0 ≤ 2000) (kz_0_12 : 0 ≤ kind_0 ∧ kind_0 ≤ 4) (kz_0_15 : 0 ≤ from_0 ∧ from_0 ≤ 2000) (ex2 : gx = 2000 + ((-1) * pos_0 + 0)) (ex3 : 0 ≤ gx ∧ gx ≤ 2000) : 1 * gx + (1 * pos_0 + 0) ≤ 2000 := by
  first | assumption | (clear f1 f5; omega) | omega | grind
set_option maxHeartbeats 4000000 in
theorem vc_Mo_of_at_s5002_29_9 (x2 : Int) (x3 : Int) (x4 : Int) (x7 : Int) (x8 : Int) (x9 : Int) (x10 : Int) (x12 : Int) (kind_0 : Int) (fault_0 : Int) (from_0 : Int) (pos_0 : Int) (gx : Int) (k2 : 99 ≤ x2 ∧ x2 ≤ 99) (k3 : 0 ≤ x3 ∧ x3 ≤ 2000) (k4 : (-1) ≤ x4 ∧ x4 ≤ 48) (k7 : 99 ≤ x7 ∧ x7 ≤ 99) (k8 : (-2147483648) ≤ x8 ∧ x8 ≤ 2147483647) (k9 : 0 ≤ x9 ∧ x9 ≤ 0) (k10 : 0 ≤ x10 ∧ x10 ≤ 2000) (k12 : 0 ≤ x12 ∧ x12 ≤ 0) (f0 : x12 = 0) (f1 : (x12 = 1) → ((kind_0 = 3) ∧ (fault_0 = 0))) (f2 : x9 = 0) (g3 : x9 = fault_0) (f4 : 1 * from_0 + ((-1) * pos_0 + 0) ≤ 0) (f5 : ((kind_0 = 1) → (pos_0 ≤ (from_0 + 8))) ∧ ((kind_0 = 0) ∨ ((from_0 + 1) ≤ pos_0))) (f6 : 1 * x3 + ((-1) * pos_0 + 0) ≤ (-1)) (f7 : 1 * x8 + ((-1) * x2 + 0) ≤ 0) (f8 : (-1) * x8 + 0 ≤ 0) (f9 : (-1) * x4 + 0 ≤ 0) (f10 : (-1) * x10 + ((-1) * pos_0 + 0) ≤ (-2001)) (kz_0_8 : 0 ≤ fault_0 ∧ fault_0 ≤ 5) (kz_0_11 : 0 ≤ pos_0 ∧ pos_0 ≤ 2000) (kz_0_12 : 0 ≤ kind_0 ∧ kind_0 ≤ 4) (kz_0_15 : 0 ≤ from_0 ∧ from_0 ≤ 2000) (ex2 : gx = 2000 + ((-1) * pos_0 + 0)) (ex3 : 0 ≤ gx ∧ gx ≤ 2000) : (-1) * gx + ((-1) * pos_0 + 0) ≤ (-2000) := by
  first | assumption | (clear f1 f5; omega) | omega | grind
def o_Mo_of_at_s5002_29 : or_T := (17, 13, [(0, (2, 0, 0, [165])), (2, (0, 99, 99, [])), (3, (0, 0, 2000, [])), (4, (0, -1, 48, [])), (5, (2, 0, 0, [165])), (7, (0, 99, 99, [])), (8, (0, -2147483648, 2147483647, [])), (9, (0, 0, 0, [])), (10, (0, 0, 2000, [])), (12, (0, 0, 0, []))], [(8, [12], [0]), (20, [12, 5], [50, 2, 0, 1012, 1008, 4, 6, 1, 2, 1, 0, 0, 1, 2, 7, 1, 3, 2, 1, 12, 0, 3, 1, 3, 2, 1, 8, 0, 0]), (8, [9], [0]), (9, [9, 5], [8]), (20, [5, 5], [30, 0, 1, 1, 15, -1, 1, 11]), (20, [5], [50, 3, 0, 12, 11, 15, 2, 21, 4, 7, 1, 3, 2, 0, 12, 0, 1, 0, 3, 2, 0, 11, 4, 3, 2, 0, 15, 0, 8, 3, 7, 1, 3, 2, 0, 12, 0, 0, 0, 7, 4, 3, 2, 0, 15, 0, 1, 2, 0, 11]), (20, [3, 5], [30, -1, 1, 0, 0, -1, 1, 11]), (23, [8, 7], [0, 1, -1]), (23, [8], [0, -1]), (23, [4], [0, -1]), (20, [10, 5], [30, -2001, -1, 0, 0, -1, 1, 11]), (24, [0, 5], []), (24, [2, 7], [])], [], [(0, 0, 2000, [])], [(20, [5, 5], [30, 0, 1, 1, 15, -1, 1, 11]), (20, [5], [50, 3, 0, 12, 11, 15, 2, 21, 4, 7, 1, 3, 2, 0, 12, 0, 1, 0, 3, 2, 0, 11, 4, 3, 2, 0, 15, 0, 8, 3, 7, 1, 3, 2, 0, 12, 0, 0, 0, 7, 4, 3, 2, 0, 15, 0, 1, 2, 0, 11]), (20, [3, 5], [30, -1, 1, 0, 0, -1, 1, 11]), (23, [8, 7], [0, 1, -1]), (23, [8], [0, -1]), (23, [4], [0, -1]), (24, [0, 5], []), (24, [2, 7], []), (20, [13, 5], [30, 2000, 1, 0, 0, 1, 1, 11]), (20, [13, 5], [30, -2000, -1, 0, 0, -1, 1, 11])], [(13, 10, -1000000000000, -1)], [])
theorem oo_Mo_of_at_s5002_29 {kA : Nat → ClassId} : or_ok PRD kA GG o_Mo_of_at_s5002_29 := by
  refine or_mk fun A ta ws vs hD hth hl => ?_
  intro t0 r0 t2 k2 t3 k3 t4 k4 t5 r5 t7 k7 t8 k8 t9 k9 t10 k10 t12 k12 f0 f1 f2 f3 f4 f5 f6 f7 f8 f9 f10 f11 f12
  replace f0 := shm_210 f0
  replace f1 := shm_717 f1
  replace f2 := shm_210 f2
  replace f3 := shm_143 f3
  replace f4 := shm_1397 f4
  replace f5 := shm_1398 f5
  replace f6 := shm_1891 f6
  replace f7 := shm_7 f7
  replace f8 := shm_1013 f8
  replace f9 := shm_1013 f9
  replace f10 := shm_1896 f10
  replace f11 := shm_5 f11
  replace f12 := shm_5 f12
  have q5 : n_v vs 5 = n_v vs 0 := f11.symm
  have q7 : n_v vs 7 = n_v vs 2 := f12.symm
  simp only [q5, q7] at f1 f3 f4 f5 f6 f7 f10
  have g3 : v_iv (n_v vs 9) = w_fi ws (n_v vs 0) 8 := congrArg v_iv f3
  have kz_0_8 := fdq_14 hD hth r0
  have kz_0_11 := fdq_273 hD hth r0
  have kz_0_12 := fdq_186 hD hth r0
  have kz_0_15 := fdq_274 hD hth r0
  have kb_0_11 := fdq_273 hD hth r0
  obtain ⟨x, ex, hx⟩ := iv_ex (ta := ta) (lo := 0) (hi := 2000) (z := 2000 + ((-1) * w_fi ws (n_v vs 0) 11 + 0)) (by omega) (by omega) (by omega) (by omega)
  have ex2 : v_iv (Value.int x) = 2000 + ((-1) * w_fi ws (n_v vs 0) 11 + 0) := ex
  have ex3 : 0 ≤ v_iv (Value.int x) ∧ v_iv (Value.int x) ≤ 2000 := tv_rng hx
  have e_0 : n_v (vs ++ [Value.int x]) 0 = n_v vs 0 := n_v_old (by rw [hl]; decide)
  have e_2 : n_v (vs ++ [Value.int x]) 2 = n_v vs 2 := n_v_old (by rw [hl]; decide)
  have e_3 : n_v (vs ++ [Value.int x]) 3 = n_v vs 3 := n_v_old (by rw [hl]; decide)
  have e_4 : n_v (vs ++ [Value.int x]) 4 = n_v vs 4 := n_v_old (by rw [hl]; decide)
  have e_5 : n_v (vs ++ [Value.int x]) 5 = n_v vs 5 := n_v_old (by rw [hl]; decide)
  have e_7 : n_v (vs ++ [Value.int x]) 7 = n_v vs 7 := n_v_old (by rw [hl]; decide)
  have e_8 : n_v (vs ++ [Value.int x]) 8 = n_v vs 8 := n_v_old (by rw [hl]; decide)
  have e_13 : n_v (vs ++ [Value.int x]) 13 = Value.int x := n_v_new hl
  have nf0 : fc_1 PRD (20, [5, 5], [30, 0, 1, 1, 15, -1, 1, 11]) ws (vs ++ [Value.int x]) := by
    refine ⟨nf_inA hl rfl, sgq_1397 ?_⟩
    · show 1 * w_fi ws (n_v (vs ++ [Value.int x]) 5) 15 + ((-1) * w_fi ws (n_v (vs ++ [Value.int x]) 5) 11 + 0) ≤ 0
      simp only [e_5, q5]
      exact vc_Mo_of_at_s5002_29_0 (v_iv (n_v vs 2)) (v_iv (n_v vs 3)) (v_iv (n_v vs 4)) (v_iv (n_v vs 7)) (v_iv (n_v vs 8)) (v_iv (n_v vs 9)) (v_iv (n_v vs 10)) (v_iv (n_v vs 12)) (w_fi ws (n_v vs 0) 12) (w_fi ws (n_v vs 0) 8) (w_fi ws (n_v vs 0) 15) (w_fi ws (n_v vs 0) 11) (v_iv (Value.int x)) k2 k3 k4 k7 k8 k9 k10 k12 f0 f1 f2 g3 f4 f5 f6 f7 f8 f9 f10 kz_0_8 kz_0_11 kz_0_12 kz_0_15 ex2 ex3
  have nf1 : fc_1 PRD (20, [5], [50, 3, 0, 12, 11, 15, 2, 21, 4, 7, 1, 3, 2, 0, 12, 0, 1, 0, 3, 2, 0, 11, 4, 3, 2, 0, 15, 0, 8, 3, 7, 1, 3, 2, 0, 12, 0, 0, 0, 7, 4, 3, 2, 0, 15, 0, 1, 2, 0, 11]) ws (vs ++ [Value.int x]) := by
    refine ⟨nf_inA hl rfl, sgq_1398 ?_⟩
    · show ((w_fi ws (n_v (vs ++ [Value.int x]) 5) 12 = 1) → (w_fi ws (n_v (vs ++ [Value.int x]) 5) 11 ≤ (w_fi ws (n_v (vs ++ [Value.int x]) 5) 15 + 8))) ∧ ((w_fi ws (n_v (vs ++ [Value.int x]) 5) 12 = 0) ∨ ((w_fi ws (n_v (vs ++ [Value.int x]) 5) 15 + 1) ≤ w_fi ws (n_v (vs ++ [Value.int x]) 5) 11))
      simp only [e_5, q5]
      exact vc_Mo_of_at_s5002_29_1 (v_iv (n_v vs 2)) (v_iv (n_v vs 3)) (v_iv (n_v vs 4)) (v_iv (n_v vs 7)) (v_iv (n_v vs 8)) (v_iv (n_v vs 9)) (v_iv (n_v vs 10)) (v_iv (n_v vs 12)) (w_fi ws (n_v vs 0) 12) (w_fi ws (n_v vs 0) 8) (w_fi ws (n_v vs 0) 15) (w_fi ws (n_v vs 0) 11) (v_iv (Value.int x)) k2 k3 k4 k7 k8 k9 k10 k12 f0 f1 f2 g3 f4 f5 f6 f7 f8 f9 f10 kz_0_8 kz_0_11 kz_0_12 kz_0_15 ex2 ex3
  have nf2 : fc_1 PRD (20, [3, 5], [30, -1, 1, 0, 0, -1, 1, 11]) ws (vs ++ [Value.int x]) := by
    refine ⟨nf_inA hl rfl, sgq_1891 ?_⟩
    · show 1 * v_iv (n_v (vs ++ [Value.int x]) 3) + ((-1) * w_fi ws (n_v (vs ++ [Value.int x]) 5) 11 + 0) ≤ (-1)
      simp only [e_3, e_5, q5]
      exact vc_Mo_of_at_s5002_29_2 (v_iv (n_v vs 2)) (v_iv (n_v vs 3)) (v_iv (n_v vs 4)) (v_iv (n_v vs 7)) (v_iv (n_v vs 8)) (v_iv (n_v vs 9)) (v_iv (n_v vs 10)) (v_iv (n_v vs 12)) (w_fi ws (n_v vs 0) 12) (w_fi ws (n_v vs 0) 8) (w_fi ws (n_v vs 0) 15) (w_fi ws (n_v vs 0) 11) (v_iv (Value.int x)) k2 k3 k4 k7 k8 k9 k10 k12 f0 f1 f2 g3 f4 f5 f6 f7 f8 f9 f10 kz_0_8 kz_0_11 kz_0_12 kz_0_15 ex2 ex3
  have nf3 : fc_1 PRD (23, [8, 7], [0, 1, -1]) ws (vs ++ [Value.int x]) := by
    refine ⟨nf_inA hl rfl, sgq_7 ?_⟩
    · show 1 * v_iv (n_v (vs ++ [Value.int x]) 8) + ((-1) * v_iv (n_v (vs ++ [Value.int x]) 7) + 0) ≤ 0
      simp only [e_7, e_8, q7]
      exact vc_Mo_of_at_s5002_29_3 (v_iv (n_v vs 2)) (v_iv (n_v vs 3)) (v_iv (n_v vs 4)) (v_iv (n_v vs 7)) (v_iv (n_v vs 8)) (v_iv (n_v vs 9)) (v_iv (n_v vs 10)) (v_iv (n_v vs 12)) (w_fi ws (n_v vs 0) 12) (w_fi ws (n_v vs 0) 8) (w_fi ws (n_v vs 0) 15) (w_fi ws (n_v vs 0) 11) (v_iv (Value.int x)) k2 k3 k4 k7 k8 k9 k10 k12 f0 f1 f2 g3 f4 f5 f6 f7 f8 f9 f10 kz_0_8 kz_0_11 kz_0_12 kz_0_15 ex2 ex3
  have nf4 : fc_1 PRD (23, [8], [0, -1]) ws (vs ++ [Value.int x]) := by
    refine ⟨nf_inA hl rfl, sgq_1013 ?_⟩
    · show (-1) * v_iv (n_v (vs ++ [Value.int x]) 8) + 0 ≤ 0
      rw [e_8]
      exact vc_Mo_of_at_s5002_29_4 (v_iv (n_v vs 2)) (v_iv (n_v vs 3)) (v_iv (n_v vs 4)) (v_iv (n_v vs 7)) (v_iv (n_v vs 8)) (v_iv (n_v vs 9)) (v_iv (n_v vs 10)) (v_iv (n_v vs 12)) (w_fi ws (n_v vs 0) 12) (w_fi ws (n_v vs 0) 8) (w_fi ws (n_v vs 0) 15) (w_fi ws (n_v vs 0) 11) (v_iv (Value.int x)) k2 k3 k4 k7 k8 k9 k10 k12 f0 f1 f2 g3 f4 f5 f6 f7 f8 f9 f10 kz_0_8 kz_0_11 kz_0_12 kz_0_15 ex2 ex3
  have nf5 : fc_1 PRD (23, [4], [0, -1]) ws (vs ++ [Value.int x]) := by
    refine ⟨nf_inA hl rfl, sgq_1013 ?_⟩
    · show (-1) * v_iv (n_v (vs ++ [Value.int x]) 4) + 0 ≤ 0
      rw [e_4]
      exact vc_Mo_of_at_s5002_29_5 (v_iv (n_v vs 2)) (v_iv (n_v vs 3)) (v_iv (n_v vs 4)) (v_iv (n_v vs 7)) (v_iv (n_v vs 8)) (v_iv (n_v vs 9)) (v_iv (n_v vs 10)) (v_iv (n_v vs 12)) (w_fi ws (n_v vs 0) 12) (w_fi ws (n_v vs 0) 8) (w_fi ws (n_v vs 0) 15) (w_fi ws (n_v vs 0) 11) (v_iv (Value.int x)) k2 k3 k4 k7 k8 k9 k10 k12 f0 f1 f2 g3 f4 f5 f6 f7 f8 f9 f10 kz_0_8 kz_0_11 kz_0_12 kz_0_15 ex2 ex3
  have nf6 : fc_1 PRD (24, [0, 5], []) ws (vs ++ [Value.int x]) := by
    refine ⟨nf_inA hl rfl, sgq_5 ?_⟩
    · show n_v (vs ++ [Value.int x]) 0 = n_v (vs ++ [Value.int x]) 5
      first | rfl | simp only [e_0, e_5, q5, q7]
  have nf7 : fc_1 PRD (24, [2, 7], []) ws (vs ++ [Value.int x]) := by
    refine ⟨nf_inA hl rfl, sgq_5 ?_⟩
    · show n_v (vs ++ [Value.int x]) 2 = n_v (vs ++ [Value.int x]) 7
      first | rfl | simp only [e_2, e_7, q5, q7]
  have nf8 : fc_1 PRD (20, [13, 5], [30, 2000, 1, 0, 0, 1, 1, 11]) ws (vs ++ [Value.int x]) := by
    refine ⟨nf_inA hl rfl, sgq_1892 ?_⟩
    · show 1 * v_iv (n_v (vs ++ [Value.int x]) 13) + (1 * w_fi ws (n_v (vs ++ [Value.int x]) 5) 11 + 0) ≤ 2000
      simp only [e_5, e_13, q5]
      exact vc_Mo_of_at_s5002_29_8 (v_iv (n_v vs 2)) (v_iv (n_v vs 3)) (v_iv (n_v vs 4)) (v_iv (n_v vs 7)) (v_iv (n_v vs 8)) (v_iv (n_v vs 9)) (v_iv (n_v vs 10)) (v_iv (n_v vs 12)) (w_fi ws (n_v vs 0) 12) (w_fi ws (n_v vs 0) 8) (w_fi ws (n_v vs 0) 15) (w_fi ws (n_v vs 0) 11) (v_iv (Value.int x)) k2 k3 k4 k7 k8 k9 k10 k12 f0 f1 f2 g3 f4 f5 f6 f7 f8 f9 f10 kz_0_8 kz_0_11 kz_0_12 kz_0_15 ex2 ex3
  have nf9 : fc_1 PRD (20, [13, 5], [30, -2000, -1, 0, 0, -1, 1, 11]) ws (vs ++ [Value.int x]) := by
    refine ⟨nf_inA hl rfl, sgq_1893 ?_⟩
    · show (-1) * v_iv (n_v (vs ++ [Value.int x]) 13) + ((-1) * w_fi ws (n_v (vs ++ [Value.int x]) 5) 11 + 0) ≤ (-2000)
      simp only [e_5, e_13, q5]
      exact vc_Mo_of_at_s5002_29_9 (v_iv (n_v vs 2)) (v_iv (n_v vs 3)) (v_iv (n_v vs 4)) (v_iv (n_v vs 7)) (v_iv (n_v vs 8)) (v_iv (n_v vs 9)) (v_iv (n_v vs 10)) (v_iv (n_v vs 12)) (w_fi ws (n_v vs 0) 12) (w_fi ws (n_v vs 0) 8) (w_fi ws (n_v vs 0) 15) (w_fi ws (n_v vs 0) 11) (v_iv (Value.int x)) k2 k3 k4 k7 k8 k9 k10 k12 f0 f1 f2 g3 f4 f5 f6 f7 f8 f9 f10 kz_0_8 kz_0_11 kz_0_12 kz_0_15 ex2 ex3
  obtain ⟨x0, e0, _, _⟩ := tv_int t10 rfl
  have e1 : v_iv (n_v vs 10) = x0.toInt := by rw [e0]; rfl
  have ho : sy_ofs (vs ++ [Value.int x]) (13, 10, -1000000000000, -1) := by
    refine ⟨x, x0, by rw [List.getElem?_append_right (by rw [hl]; decide), hl]; rfl, ?_, ?_, ?_⟩
    · rw [List.getElem?_append_left (by rw [hl]; decide)]; exact n_v_some (by rw [hl]; decide) e0
    · show x0.toInt + (-1000000000000) ≤ x.toInt; omega
    · show x.toInt ≤ x0.toInt + (-1); omega
  exact ⟨(fun _ h => (by cases h)), [Value.int x], ag_one hx, List.forall_mem_cons.mpr ⟨⟨show (20 : Nat) < 100 from by decide, nf0⟩, List.forall_mem_cons.mpr ⟨⟨show (20 : Nat) < 100 from by decide, nf1⟩, List.forall_mem_cons.mpr ⟨⟨show (20 : Nat) < 100 from by decide, nf2⟩, List.forall_mem_cons.mpr ⟨⟨show (23 : Nat) < 100 from by decide, nf3⟩, List.forall_mem_cons.mpr ⟨⟨show (23 : Nat) < 100 from by decide, nf4⟩, List.forall_mem_cons.mpr ⟨⟨show (23 : Nat) < 100 from by decide, nf5⟩, List.forall_mem_cons.mpr ⟨⟨show (24 : Nat) < 100 from by decide, nf6⟩, List.forall_mem_cons.mpr ⟨⟨show (24 : Nat) < 100 from by decide, nf7⟩, List.forall_mem_cons.mpr ⟨⟨show (20 : Nat) < 100 from by decide, nf8⟩, List.forall_mem_cons.mpr ⟨⟨show (20 : Nat) < 100 from by decide, nf9⟩, (fun _ h => (by cases h))⟩⟩⟩⟩⟩⟩⟩⟩⟩⟩, List.forall_mem_cons.mpr ⟨ho, (fun _ h => (by cases h))⟩⟩
set_option maxHeartbeats 4000000 in
theorem vc_Mo_of_at_s5002_30_0 (x2 : Int) (x3 : Int) (x7 : Int) (x9 : Int) (x10 : Int) (x12 : Int) (kind_0 : Int) (fault_0 : Int) (from_0 : Int) (pos_0 : Int) (gx : Int) (k2 : 99 ≤ x2 ∧ x2 ≤ 99) (k3 : 0 ≤ x3 ∧ x3 ≤ 2000) (k7 : 99 ≤ x7 ∧ x7 ≤ 99) (k9 : 0 ≤ x9 ∧ x9 ≤ 0) (k10 : 0 ≤ x10 ∧ x10 ≤ 2000) (k12 : 1 ≤ x12 ∧ x12 ≤ 1) (f0 : x12 ≠ 0) (f1 : (x12 = 1) → ((kind_0 = 3) ∧ (fault_0 = 0))) (f2 : x9 = 0) (g3 : x9 = fault_0) (f4 : 1 * from_0 + ((-1) * pos_0 + 0) ≤ 0) (f5 : ((kind_0 = 1) → (pos_0 ≤ (from_0 + 8))) ∧ ((kind_0 = 0) ∨ ((from_0 + 1) ≤ pos_0))) (f6 : 1 * x3 + ((-1) * pos_0 + 0) ≤ (-1)) (f7 : (-1) * x10 + ((-1) * pos_0 + 0) ≤ (-2001)) (kz_0_8 : 0 ≤ fault_0 ∧ fault_0 ≤ 5) (kz_0_11 : 0 ≤ pos_0 ∧ pos_0 ≤ 2000) (kz_0_12 : 0 ≤ kind_0 ∧ kind_0 ≤ 4) (kz_0_15 : 0 ≤ from_0 ∧ from_0 ≤ 2000) (ex2 : gx = x3) (ex3 : 0 ≤ gx ∧ gx ≤ 2000) : 1 * gx + ((-1) * x3 + 0) ≤ 0 := by
  first | assumption | (clear f1 f5; omega) | omega | grind
set_option maxHeartbeats 4000000 in
theorem vc_Mo_of_at_s5002_30_1 (x2 : Int) (x3 : Int) (x7 : Int) (x9 : Int) (x10 : Int) (x12 : Int) (kind_0 : Int) (fault_0 : Int) (from_0 : Int) (pos_0 : Int) (gx : Int) (k2 : 99 ≤ x2 ∧ x2 ≤ 99) (k3 : 0 ≤ x3 ∧ x3 ≤ 2000) (k7 : 99 ≤ x7 ∧ x7 ≤ 99) (k9 : 0 ≤ x9 ∧ x9 ≤ 0) (k10 : 0 ≤ x10 ∧ x10 ≤ 2000) (k12 : 1 ≤ x12 ∧ x12 ≤ 1) (f0 : x12 ≠ 0) (f1 : (x12 = 1) → ((kind_0 = 3) ∧ (fault_0 = 0))) (f2 : x9 = 0) (g3 : x9 = fault_0) (f4 : 1 * from_0 + ((-1) * pos_0 + 0) ≤ 0) (f5 : ((kind_0 = 1) → (pos_0 ≤ (from_0 + 8))) ∧ ((kind_0 = 0) ∨ ((from_0 + 1) ≤ pos_0))) (f6 : 1 * x3 + ((-1) * pos_0 + 0) ≤ (-1)) (f7 : (-1) * x10 + ((-1) * pos_0 + 0) ≤ (-2001)) (kz_0_8 : 0 ≤ fault_0 ∧ fault_0 ≤ 5) (kz_0_11 : 0 ≤ pos_0 ∧ pos_0 ≤ 2000) (kz_0_12 : 0 ≤ kind_0 ∧ kind_0 ≤ 4) (kz_0_15 : 0 ≤ from_0 ∧ from_0 ≤ 2000) (ex2 : gx = x3) (ex3 : 0 ≤ gx ∧ gx ≤ 2000) : (-1) * gx + (1 * x3 + 0) ≤ 0 := by
  first | assumption | (clear f1 f5; omega) | omega | grind
set_option maxHeartbeats 4000000 in
theorem vc_Mo_of_at_s5002_30_2 (x2 : Int) (x3 : Int) (x7 : Int) (x9 : Int) (x10 : Int) (x12 : Int) (kind_0 : Int) (fault_0 : Int) (from_0 : Int) (pos_0 : Int) (gx : Int) (k2 : 99 ≤ x2 ∧ x2 ≤ 99) (k3 : 0 ≤ x3 ∧ x3 ≤ 2000) (k7 : 99 ≤ x7 ∧ x7 ≤ 99) (k9 : 0 ≤ x9 ∧ x9 ≤ 0) (k10 : 0 ≤ x10 ∧ x10 ≤ 2000) (k12 : 1 ≤ x12 ∧ x12 ≤ 1) (f0 : x12 ≠ 0) (f1 : (x12 = 1) → ((kind_0 = 3) ∧ (fault_0 = 0))) (f2 : x9 = 0) (g3 : x9 = fault_0) (f4 : 1 * from_0 + ((-1) * pos_0 + 0) ≤ 0) (f5 : ((kind_0 = 1) → (pos_0 ≤ (from_0 + 8))) ∧ ((kind_0 = 0) ∨ ((from_0 + 1) ≤ pos_0))) (f6 : 1 * x3 + ((-1) * pos_0 + 0) ≤ (-1)) (f7 : (-1) * x10 + ((-1) * pos_0 + 0) ≤ (-2001)) (kz_0_8 : 0 ≤ fault_0 ∧ fault_0 ≤ 5) (kz_0_11 : 0 ≤ pos_0 ∧ pos_0 ≤ 2000) (kz_0_12 : 0 ≤ kind_0 ∧ kind_0 ≤ 4) (kz_0_15 : 0 ≤ from_0 ∧ from_0 ≤ 2000) (ex2 : gx = x3) (ex3 : 0 ≤ gx ∧ gx ≤ 2000) : 1 * from_0 + ((-1) * pos_0 + 0) ≤ 0 := by
  first | assumption | (clear f1 f5; omega) | omega | grind
set_option maxHeartbeats 4000000 in
theorem vc_Mo_of_at_s5002_30_3 (x2 : Int) (x3 : Int) (x7 : Int) (x9 : Int) (x10 : Int) (x12 : Int) (kind_0 : Int) (fault_0 : Int) (from_0 : Int) (pos_0 : Int) (gx : Int) (k2 : 99 ≤ x2 ∧ x2 ≤ 99) (k3 : 0 ≤ x3 ∧ x3 ≤ 2000) (k7 : 99 ≤ x7 ∧ x7 ≤ 99) (k9 : 0 ≤ x9 ∧ x9 ≤ 0) (k10 : 0 ≤ x10 ∧ x10 ≤ 2000) (k12 : 1 ≤ x12 ∧ x12 ≤ 1) (f0 : x12 ≠ 0) (f1 : (x12 = 1) → ((kind_0 = 3) ∧ (fault_0 = 0))) (f2 : x9 = 0) (g3 : x9 = fault_0) (f4 : 1 * from_0 + ((-1) * pos_0 + 0) ≤ 0) (f5 : ((kind_0 = 1) → (pos_0 ≤ (from_0 + 8))) ∧ ((kind_0 = 0) ∨ ((from_0 + 1) ≤ pos_0))) (f6 : 1 * x3 + ((-1) * pos_0 + 0) ≤ (-1)) (f7 : (-1) * x10 + ((-1) * pos_0 + 0) ≤ (-2001)) (kz_0_8 : 0 ≤ fault_0 ∧ fault_0 ≤ 5) (kz_0_11 : 0 ≤ pos_0 ∧ pos_0 ≤ 2000) (kz_0_12 : 0 ≤ kind_0 ∧ kind_0 ≤ 4) (kz_0_15 : 0 ≤ from_0 ∧ from_0 ≤ 2000) (ex2 : gx = x3) (ex3 : 0 ≤ gx ∧ gx ≤ 2000) : ((kind_0 = 1) → (pos_0 ≤ (from_0 + 8))) ∧ ((kind_0 = 0) ∨ ((from_0 + 1) ≤ pos_0)) := by
  first | assumption | (clear f1 f5; omega) | omega | grind
set_option maxHeartbeats 4000000 in
theorem vc_Mo_of_at_s5002_30_4 (x2 : Int) (x3 : Int) (x7 : Int) (x9 : Int) (x10 : Int) (x12 : Int) (kind_0 : Int) (fault_0 : Int) (from_0 : Int) (pos_0 : Int) (gx : Int) (k2 : 99 ≤ x2 ∧ x2 ≤ 99) (k3 : 0 ≤ x3 ∧ x3 ≤ 2000) (k7 : 99 ≤ x7 ∧ x7 ≤ 99) (k9 : 0 ≤ x9 ∧ x9 ≤ 0) (k10 : 0 ≤ x10 ∧ x10 ≤ 2000) (k12 : 1 ≤ x12 ∧ x12 ≤ 1) (f0 : x12 ≠ 0) (f1 : (x12 = 1) → ((kind_0 = 3) ∧ (fault_0 = 0))) (f2 : x9 = 0) (g3 : x9 = fault_0) (f4 : 1 * from_0 + ((-1) * pos_0 + 0) ≤ 0) (f5 : ((kind_0 = 1) → (pos_0 ≤ (from_0 + 8))) ∧ ((kind_0 = 0) ∨ ((from_0 + 1) ≤ pos_0))) (f6 : 1 * x3 + ((-1) * pos_0 + 0) ≤ (-1)) (f7 : (-1) * x10 + ((-1) * pos_0 + 0) ≤ (-2001)) (kz_0_8 : 0 ≤ fault_0 ∧ fault_0 ≤ 5) (kz_0_11 : 0 ≤ pos_0 ∧ pos_0 ≤ 2000) (kz_0_12 : 0 ≤ kind_0 ∧ kind_0 ≤ 4) (kz_0_15 : 0 ≤ from_0 ∧ from_0 ≤ 2000) (ex2 : gx = x3) (ex3 : 0 ≤ gx ∧ gx ≤ 2000) : 1 * gx + ((-1) * pos_0 + 0) ≤ 0 := by
  first | assumption | (clear f1 f5; omega) | omega | grind
set_option maxHeartbeats 4000000 in
theorem vc_Mo_of_at_s5002_30_5 (x2 : Int) (x3 : Int) (x7 : Int) (x9 : Int) (x10 : Int) (x12 : Int) (kind_0 : Int) (fault_0 : Int) (from_0 : Int) (pos_0 : Int) (gx : Int) (k2 : 99 ≤ x2 ∧ x2 ≤ 99) (k3 : 0 ≤ x3 ∧ x3 ≤ 2000) (k7 : 99 ≤ x7 ∧ x7 ≤ 99) (k9 : 0 ≤ x9 ∧ x9 ≤ 0) (k10 : 0 ≤ x10 ∧ x10 ≤ 2000) (k12 : 1 ≤ x12 ∧ x12 ≤ 1) (f0 : x12 ≠ 0) (f1 : (x12 = 1) → ((kind_0 = 3) ∧ (fault_0 = 0))) (f2 : x9 = 0) (g3 : x9 = fault_0) (f4 : 1 * from_0 + ((-1) * pos_0 + 0) ≤ 0) (f5 : ((kind_0 = 1) → (pos_0 ≤ (from_0 + 8))) ∧ ((kind_0 = 0) ∨ ((from_0 + 1) ≤ pos_0))) (f6 : 1 * x3 + ((-1) * pos_0 + 0) ≤ (-1)) (f7 : (-1) * x10 + ((-1) * pos_0 + 0) ≤ (-2001)) (kz_0_8 : 0 ≤ fault_0 ∧ fault_0 ≤ 5) (kz_0_11 : 0 ≤ pos_0 ∧ pos_0 ≤ 2000) (kz_0_12 : 0 ≤ kind_0 ∧ kind_0 ≤ 4) (kz_0_15 : 0 ≤ from_0 ∧ from_0 ≤ 2000) (ex2 : gx = x3) (ex3 : 0 ≤ gx ∧ gx ≤ 2000) : (1 ≤ fault_0) ∨ ((kind_0 = 0) ∨ ((gx + 1) ≤ pos_0)) := by
  first | assumption | (clear f1 f5; omega) | omega | grind
def o_Mo_of_at_s5002_30 : or_T := (158, 14, [(0, (2, 0, 0, [165])), (2, (0, 99, 99, [])), (3, (0, 0, 2000, [])), (7, (0, 99, 99, [])), (9, (0, 0, 0, [])), (10, (0, 0, 2000, [])), (12, (0, 1, 1, []))], [(8, [12], [1]), (20, [12, 5], [50, 2, 0, 1012, 1008, 4, 6, 1, 2, 1, 0, 0, 1, 2, 7, 1, 3, 2, 1, 12, 0, 3, 1, 3, 2, 1, 8, 0, 0]), (8, [9], [0]), (9, [9, 5], [8]), (20, [5, 5], [30, 0, 1, 1, 15, -1, 1, 11]), (20, [5], [50, 3, 0, 12, 11, 15, 2, 21, 4, 7, 1, 3, 2, 0, 12, 0, 1, 0, 3, 2, 0, 11, 4, 3, 2, 0, 15, 0, 8, 3, 7, 1, 3, 2, 0, 12, 0, 0, 0, 7, 4, 3, 2, 0, 15, 0, 1, 2, 0, 11]), (20, [3, 5], [30, -1, 1, 0, 0, -1, 1, 11]), (20, [10, 5], [30, -2001, -1, 0, 0, -1, 1, 11]), (24, [0, 5], [])], [], [(0, 0, 2000, [])], [(23, [14, 3], [0, 1, -1]), (23, [14, 3], [0, -1, 1]), (20, [5, 5], [30, 0, 1, 1, 15, -1, 1, 11]), (20, [5], [50, 3, 0, 12, 11, 15, 2, 21, 4, 7, 1, 3, 2, 0, 12, 0, 1, 0, 3, 2, 0, 11, 4, 3, 2, 0, 15, 0, 8, 3, 7, 1, 3, 2, 0, 12, 0, 0, 0, 7, 4, 3, 2, 0, 15, 0, 1, 2, 0, 11]), (20, [14, 5], [30, 0, 1, 0, 0, -1, 1, 11]), (20, [5, 14], [50, 3, 0, 8, 12, 11, 3, 7, 0, 2, 0, 1, 2, 0, 8, 3, 7, 1, 3, 2, 0, 12, 0, 0, 0, 6, 4, 2, 1, 1, 0, 1, 2, 0, 11])], [], [])
theorem oo_Mo_of_at_s5002_30 {kA : Nat → ClassId} : or_ok PRD kA GG o_Mo_of_at_s5002_30 := by
  refine or_mk fun A ta ws vs hD hth hl => ?_
  intro t0 r0 t2 k2 t3 k3 t7 k7 t9 k9 t10 k10 t12 k12 f0 f1 f2 f3 f4 f5 f6 f7 f8
  replace f0 := shm_154 f0
  replace f1 := shm_717 f1
  replace f2 := shm_210 f2
  replace f3 := shm_143 f3
  replace f4 := shm_1397 f4
  replace f5 := shm_1398 f5
  replace f6 := shm_1891 f6
  replace f7 := shm_1896 f7
  replace f8 := shm_5 f8
  have q5 : n_v vs 5 = n_v vs 0 := f8.symm
  simp only [q5] at f1 f3 f4 f5 f6 f7
  have g3 : v_iv (n_v vs 9) = w_fi ws (n_v vs 0) 8 := congrArg v_iv f3
  have kz_0_8 := fdq_14 hD hth r0
  have kz_0_11 := fdq_273 hD hth r0
  have kz_0_12 := fdq_186 hD hth r0
  have kz_0_15 := fdq_274 hD hth r0
  obtain ⟨x, ex, hx⟩ := iv_ex (ta := ta) (lo := 0) (hi := 2000) (z := v_iv (n_v vs 3)) (by omega) (by omega) (by omega) (by omega)
  have ex2 : v_iv (Value.int x) = v_iv (n_v vs 3) := ex
  have ex3 : 0 ≤ v_iv (Value.int x) ∧ v_iv (Value.int x) ≤ 2000 := tv_rng hx
  have e_3 : n_v (vs ++ [Value.int x]) 3 = n_v vs 3 := n_v_old (by rw [hl]; decide)
  have e_5 : n_v (vs ++ [Value.int x]) 5 = n_v vs 5 := n_v_old (by rw [hl]; decide)
  have e_14 : n_v (vs ++ [Value.int x]) 14 = Value.int x := n_v_new hl
  have nf0 : fc_1 PRD (23, [14, 3], [0, 1, -1]) ws (vs ++ [Value.int x]) := by
    refine ⟨nf_inA hl rfl, sgq_7 ?_⟩
    · show 1 * v_iv (n_v (vs ++ [Value.int x]) 14) + ((-1) * v_iv (n_v (vs ++ [Value.int x]) 3) + 0) ≤ 0
      simp only [e_3, e_14]
      exact vc_Mo_of_at_s5002_30_0 (v_iv (n_v vs 2)) (v_iv (n_v vs 3)) (v_iv (n_v vs 7)) (v_iv (n_v vs 9)) (v_iv (n_v vs 10)) (v_iv (n_v vs 12)) (w_fi ws (n_v vs 0) 12) (w_fi ws (n_v vs 0) 8) (w_fi ws (n_v vs 0) 15) (w_fi ws (n_v vs 0) 11) (v_iv (Value.int x)) k2 k3 k7 k9 k10 k12 f0 f1 f2 g3 f4 f5 f6 f7 kz_0_8 kz_0_11 kz_0_12 kz_0_15 ex2 ex3
  have nf1 : fc_1 PRD (23, [14, 3], [0, -1, 1]) ws (vs ++ [Value.int x]) := by
    refine ⟨nf_inA hl rfl, sgq_22 ?_⟩
    · show (-1) * v_iv (n_v (vs ++ [Value.int x]) 14) + (1 * v_iv (n_v (vs ++ [Value.int x]) 3) + 0) ≤ 0
      simp only [e_3, e_14]
      exact vc_Mo_of_at_s5002_30_1 (v_iv (n_v vs 2)) (v_iv (n_v vs 3)) (v_iv (n_v vs 7)) (v_iv (n_v vs 9)) (v_iv (n_v vs 10)) (v_iv (n_v vs 12)) (w_fi ws (n_v vs 0) 12) (w_fi ws (n_v vs 0) 8) (w_fi ws (n_v vs 0) 15) (w_fi ws (n_v vs 0) 11) (v_iv (Value.int x)) k2 k3 k7 k9 k10 k12 f0 f1 f2 g3 f4 f5 f6 f7 kz_0_8 kz_0_11 kz_0_12 kz_0_15 ex2 ex3
  have nf2 : fc_1 PRD (20, [5, 5], [30, 0, 1, 1, 15, -1, 1, 11]) ws (vs ++ [Value.int x]) := by
    refine ⟨nf_inA hl rfl, sgq_1397 ?_⟩
    · show 1 * w_fi ws (n_v (vs ++ [Value.int x]) 5) 15 + ((-1) * w_fi ws (n_v (vs ++ [Value.int x]) 5) 11 + 0) ≤ 0
      simp only [e_5, q5]
      exact vc_Mo_of_at_s5002_30_2 (v_iv (n_v vs 2)) (v_iv (n_v vs 3)) (v_iv (n_v vs 7)) (v_iv (n_v vs 9)) (v_iv (n_v vs 10)) (v_iv (n_v vs 12)) (w_fi ws (n_v vs 0) 12) (w_fi ws (n_v vs 0) 8) (w_fi ws (n_v vs 0) 15) (w_fi ws (n_v vs 0) 11) (v_iv (Value.int x)) k2 k3 k7 k9 k10 k12 f0 f1 f2 g3 f4 f5 f6 f7 kz_0_8 kz_0_11 kz_0_12 kz_0_15 ex2 ex3
  have nf3 : fc_1 PRD (20, [5], [50, 3, 0, 12, 11, 15, 2, 21, 4, 7, 1, 3, 2, 0, 12, 0, 1, 0, 3, 2, 0, 11, 4, 3, 2, 0, 15, 0, 8, 3, 7, 1, 3, 2, 0, 12, 0, 0, 0, 7, 4, 3, 2, 0, 15, 0, 1, 2, 0, 11]) ws (vs ++ [Value.int x]) := by
    refine ⟨nf_inA hl rfl, sgq_1398 ?_⟩
    · show ((w_fi ws (n_v (vs ++ [Value.int x]) 5) 12 = 1) → (w_fi ws (n_v (vs ++ [Value.int x]) 5) 11 ≤ (w_fi ws (n_v (vs ++ [Value.int x]) 5) 15 + 8))) ∧ ((w_fi ws (n_v (vs ++ [Value.int x]) 5) 12 = 0) ∨ ((w_fi ws (n_v (vs ++ [Value.int x]) 5) 15 + 1) ≤ w_fi ws (n_v (vs ++ [Value.int x]) 5) 11))
      simp only [e_5, q5]
      exact vc_Mo_of_at_s5002_30_3 (v_iv (n_v vs 2)) (v_iv (n_v vs 3)) (v_iv (n_v vs 7)) (v_iv (n_v vs 9)) (v_iv (n_v vs 10)) (v_iv (n_v vs 12)) (w_fi ws (n_v vs 0) 12) (w_fi ws (n_v vs 0) 8) (w_fi ws (n_v vs 0) 15) (w_fi ws (n_v vs 0) 11) (v_iv (Value.int x)) k2 k3 k7 k9 k10 k12 f0 f1 f2 g3 f4 f5 f6 f7 kz_0_8 kz_0_11 kz_0_12 kz_0_15 ex2 ex3
  have nf4 : fc_1 PRD (20, [14, 5], [30, 0, 1, 0, 0, -1, 1, 11]) ws (vs ++ [Value.int x]) := by
    refine ⟨nf_inA hl rfl, sgq_1395 ?_⟩
    · show 1 * v_iv (n_v (vs ++ [Value.int x]) 14) + ((-1) * w_fi ws (n_v (vs ++ [Value.int x]) 5) 11 + 0) ≤ 0
      simp only [e_5, e_14, q5]
      exact vc_Mo_of_at_s5002_30_4 (v_iv (n_v vs 2)) (v_iv (n_v vs 3)) (v_iv (n_v vs 7)) (v_iv (n_v vs 9)) (v_iv (n_v vs 10)) (v_iv (n_v vs 12)) (w_fi ws (n_v vs 0) 12) (w_fi ws (n_v vs 0) 8) (w_fi ws (n_v vs 0) 15) (w_fi ws (n_v vs 0) 11) (v_iv (Value.int x)) k2 k3 k7 k9 k10 k12 f0 f1 f2 g3 f4 f5 f6 f7 kz_0_8 kz_0_11 kz_0_12 kz_0_15 ex2 ex3
  have nf5 : fc_1 PRD (20, [5, 14], [50, 3, 0, 8, 12, 11, 3, 7, 0, 2, 0, 1, 2, 0, 8, 3, 7, 1, 3, 2, 0, 12, 0, 0, 0, 6, 4, 2, 1, 1, 0, 1, 2, 0, 11]) ws (vs ++ [Value.int x]) := by
    refine ⟨nf_inA hl rfl, sgq_1660 ?_⟩
    · show (1 ≤ w_fi ws (n_v (vs ++ [Value.int x]) 5) 8) ∨ ((w_fi ws (n_v (vs ++ [Value.int x]) 5) 12 = 0) ∨ ((v_iv (n_v (vs ++ [Value.int x]) 14) + 1) ≤ w_fi ws (n_v (vs ++ [Value.int x]) 5) 11))
      simp only [e_5, e_14, q5]
      exact vc_Mo_of_at_s5002_30_5 (v_iv (n_v vs 2)) (v_iv (n_v vs 3)) (v_iv (n_v vs 7)) (v_iv (n_v vs 9)) (v_iv (n_v vs 10)) (v_iv (n_v vs 12)) (w_fi ws (n_v vs 0) 12) (w_fi ws (n_v vs 0) 8) (w_fi ws (n_v vs 0) 15) (w_fi ws (n_v vs 0) 11) (v_iv (Value.int x)) k2 k3 k7 k9 k10 k12 f0 f1 f2 g3 f4 f5 f6 f7 kz_0_8 kz_0_11 kz_0_12 kz_0_15 ex2 ex3
  exact ⟨(fun _ h => (by cases h)), [Value.int x], ag_one hx, List.forall_mem_cons.mpr ⟨⟨show (23 : Nat) < 100 from by decide, nf0⟩, List.forall_mem_cons.mpr ⟨⟨show (23 : Nat) < 100 from by decide, nf1⟩, List.forall_mem_cons.mpr ⟨⟨show (20 : Nat) < 100 from by decide, nf2⟩, List.forall_mem_cons.mpr ⟨⟨show (20 : Nat) < 100 from by decide, nf3⟩, List.forall_mem_cons.mpr ⟨⟨show (20 : Nat) < 100 from by decide, nf4⟩, List.forall_mem_cons.mpr ⟨⟨show (20 : Nat) < 100 from by decide, nf5⟩, (fun _ h => (by cases h))⟩⟩⟩⟩⟩⟩, (fun _ h => (by cases h))⟩
set_option maxHeartbeats 4000000 in
theorem vc_Mo_of_at_s5002_31_0 (x2 : Int) (x3 : Int) (x4 : Int) (x7 : Int) (x8 : Int) (x14 : Int) (from_0 : Int) (pos_0 : Int) (kind_0 : Int) (fault_0 : Int) (k2 : 99 ≤ x2 ∧ x2 ≤ 99) (k3 : 0 ≤ x3 ∧ x3 ≤ 2000) (k4 : (-1) ≤ x4 ∧ x4 ≤ 48) (k7 : 99 ≤ x7 ∧ x7 ≤ 99) (k8 : (-2147483648) ≤ x8 ∧ x8 ≤ 2147483647) (k14 : 0 ≤ x14 ∧ x14 ≤ 2000) (f0 : 1 * x14 + ((-1) * x3 + 0) ≤ 0) (f1 : (-1) * x14 + (1 * x3 + 0) ≤ 0) (f2 : 1 * x8 + ((-1) * x2 + 0) ≤ 0) (f3 : (-1) * x8 + 0 ≤ 0) (f4 : (-1) * x4 + 0 ≤ 0) (f7 : 1 * from_0 + ((-1) * pos_0 + 0) ≤ 0) (f8 : ((kind_0 = 1) → (pos_0 ≤ (from_0 + 8))) ∧ ((kind_0 = 0) ∨ ((from_0 + 1) ≤ pos_0))) (f9 : 1 * x14 + ((-1) * pos_0 + 0) ≤ 0) (f10 : (1 ≤ fault_0) ∨ ((x14 + 1) ≤ pos_0)) (f12 : 1 * x14 + ((-1) * x3 + 0) ≤ 0) (f13 : (-1) * x14 + (1 * x3 + 0) ≤ 0) (f14 : 1 * x8 + ((-1) * x2 + 0) ≤ 0) (f15 : (-1) * x8 + 0 ≤ 0) (f16 : (-1) * x4 + 0 ≤ 0) (kz_0_8 : 0 ≤ fault_0 ∧ fault_0 ≤ 5) (kz_0_11 : 0 ≤ pos_0 ∧ pos_0 ≤ 2000) (kz_0_12 : 0 ≤ kind_0 ∧ kind_0 ≤ 4) (kz_0_15 : 0 ≤ from_0 ∧ from_0 ≤ 2000) : 1 * from_0 + ((-1) * pos_0 + 0) ≤ 0 := by
  first | assumption | (clear f8 f10; omega) | omega | grind
set_option maxHeartbeats 4000000 in
theorem vc_Mo_of_at_s5002_31_1 (x2 : Int) (x3 : Int) (x4 : Int) (x7 : Int) (x8 : Int) (x14 : Int) (from_0 : Int) (pos_0 : Int) (kind_0 : Int) (fault_0 : Int) (k2 : 99 ≤ x2 ∧ x2 ≤ 99) (k3 : 0 ≤ x3 ∧ x3 ≤ 2000) (k4 : (-1) ≤ x4 ∧ x4 ≤ 48) (k7 : 99 ≤ x7 ∧ x7 ≤ 99) (k8 : (-2147483648) ≤ x8 ∧ x8 ≤ 2147483647) (k14 : 0 ≤ x14 ∧ x14 ≤ 2000) (f0 : 1 * x14 + ((-1) * x3 + 0) ≤ 0) (f1 : (-1) * x14 + (1 * x3 + 0) ≤ 0) (f2 : 1 * x8 + ((-1) * x2 + 0) ≤ 0) (f3 : (-1) * x8 + 0 ≤ 0) (f4 : (-1) * x4 + 0 ≤ 0) (f7 : 1 * from_0 + ((-1) * pos_0 + 0) ≤ 0) (f8 : ((kind_0 = 1) → (pos_0 ≤ (from_0 + 8))) ∧ ((kind_0 = 0) ∨ ((from_0 + 1) ≤ pos_0))) (f9 : 1 * x14 + ((-1) * pos_0 + 0) ≤ 0) (f10 : (1 ≤ fault_0) ∨ ((x14 + 1) ≤ pos_0)) (f12 : 1 * x14 + ((-1) * x3 + 0) ≤ 0) (f13 : (-1) * x14 + (1 * x3 + 0) ≤ 0) (f14 : 1 * x8 + ((-1) * x2 + 0) ≤ 0) (f15 : (-1) * x8 + 0 ≤ 0) (f16 : (-1) * x4 + 0 ≤ 0) (kz_0_8 : 0 ≤ fault_0 ∧ fault_0 ≤ 5) (kz_0_11 : 0 ≤ pos_0 ∧ pos_0 ≤ 2000) (kz_0_12 : 0 ≤ kind_0 ∧ kind_0 ≤ 4) (kz_0_15 : 0 ≤ from_0 ∧ from_0 ≤ 2000) : ((kind_0 = 1) → (pos_0 ≤ (from_0 + 8))) ∧ ((kind_0 = 0) ∨ ((from_0 + 1) ≤ pos_0)) := by
  first | assumption | (clear f8 f10; omega) | omega | grind
set_option maxHeartbeats 4000000 in
theorem vc_Mo_of_at_s5002_31_2 (x2 : Int) (x3 : Int) (x4 : Int) (x7 : Int) (x8 : Int) (x14 : Int) (from_0 : Int) (pos_0 : Int) (kind_0 : Int) (fault_0 : Int) (k2 : 99 ≤ x2 ∧ x2 ≤ 99) (k3 : 0 ≤ x3 ∧ x3 ≤ 2000) (k4 : (-1) ≤ x4 ∧ x4 ≤ 48) (k7 : 99 ≤ x7 ∧ x7 ≤ 99) (k8 : (-2147483648) ≤ x8 ∧ x8 ≤ 2147483647) (k14 : 0 ≤ x14 ∧ x14 ≤ 2000) (f0 : 1 * x14 + ((-1) * x3 + 0) ≤ 0) (f1 : (-1) * x14 + (1 * x3 + 0) ≤ 0) (f2 : 1 * x8 + ((-1) * x2 + 0) ≤ 0) (f3 : (-1) * x8 + 0 ≤ 0) (f4 : (-1) * x4 + 0 ≤ 0) (f7 : 1 * from_0 + ((-1) * pos_0 + 0) ≤ 0) (f8 : ((kind_0 = 1) → (pos_0 ≤ (from_0 + 8))) ∧ ((kind_0 = 0) ∨ ((from_0 + 1) ≤ pos_0))) (f9 : 1 * x14 + ((-1) * pos_0 + 0) ≤ 0) (f10 : (1 ≤ fault_0) ∨ ((x14 + 1) ≤ pos_0)) (f12 : 1 * x14 + ((-1) * x3 + 0) ≤ 0) (f13 : (-1) * x14 + (1 * x3 + 0) ≤ 0) (f14 : 1 * x8 + ((-1) * x2 + 0) ≤ 0) (f15 : (-1) * x8 + 0 ≤ 0) (f16 : (-1) * x4 + 0 ≤ 0) (kz_0_8 : 0 ≤ fault_0 ∧ fault_0 ≤ 5) (kz_0_11 : 0 ≤ pos_0 ∧ pos_0 ≤ 2000) (kz_0_12 : 0 ≤ kind_0 ∧ kind_0 ≤ 4) (kz_0_15 : 0 ≤ from_0 ∧ from_0 ≤ 2000) : 1 * x3 + ((-1) * pos_0 + 0) ≤ 0 := by
  first | assumption | (clear f8 f10; omega) | omega | grind
set_option maxHeartbeats 4000000 in
theorem vc_Mo_of_at_s5002_31_3 (x2 : Int) (x3 : Int) (x4 : Int) (x7 : Int) (x8 : Int) (x14 : Int) (from_0 : Int) (pos_0 : Int) (kind_0 : Int) (fault_0 : Int) (k2 : 99 ≤ x2 ∧ x2 ≤ 99) (k3 : 0 ≤ x3 ∧ x3 ≤ 2000) (k4 : (-1) ≤ x4 ∧ x4 ≤ 48) (k7 : 99 ≤ x7 ∧ x7 ≤ 99) (k8 : (-2147483648) ≤ x8 ∧ x8 ≤ 2147483647) (k14 : 0 ≤ x14 ∧ x14 ≤ 2000) (f0 : 1 * x14 + ((-1) * x3 + 0) ≤ 0) (f1 : (-1) * x14 + (1 * x3 + 0) ≤ 0) (f2 : 1 * x8 + ((-1) * x2 + 0) ≤ 0) (f3 : (-1) * x8 + 0 ≤ 0) (f4 : (-1) * x4 + 0 ≤ 0) (f7 : 1 * from_0 + ((-1) * pos_0 + 0) ≤ 0) (f8 : ((kind_0 = 1) → (pos_0 ≤ (from_0 + 8))) ∧ ((kind_0 = 0) ∨ ((from_0 + 1) ≤ pos_0))) (f9 : 1 * x14 + ((-1) * pos_0 + 0) ≤ 0) (f10 : (1 ≤ fault_0) ∨ ((x14 + 1) ≤ pos_0)) (f12 : 1 * x14 + ((-1) * x3 + 0) ≤ 0) (f13 : (-1) * x14 + (1 * x3 + 0) ≤ 0) (f14 : 1 * x8 + ((-1) * x2 + 0) ≤ 0) (f15 : (-1) * x8 + 0 ≤ 0) (f16 : (-1) * x4 + 0 ≤ 0) (kz_0_8 : 0 ≤ fault_0 ∧ fault_0 ≤ 5) (kz_0_11 : 0 ≤ pos_0 ∧ pos_0 ≤ 2000) (kz_0_12 : 0 ≤ kind_0 ∧ kind_0 ≤ 4) (kz_0_15 : 0 ≤ from_0 ∧ from_0 ≤ 2000) : (1 ≤ fault_0) ∨ ((kind_0 = 0) ∨ ((x3 + 1) ≤ pos_0)) := by
  first | assumption | (clear f8 f10; omega) | omega | grind
set_option maxHeartbeats 4000000 in
theorem vc_Mo_of_at_s5002_31_4 (x2 : Int) (x3 : Int) (x4 : Int) (x7 : Int) (x8 : Int) (x14 : Int) (from_0 : Int) (pos_0 : Int) (kind_0 : Int) (fault_0 : Int) (k2 : 99 ≤ x2 ∧ x2 ≤ 99) (k3 : 0 ≤ x3 ∧ x3 ≤ 2000) (k4 : (-1) ≤ x4 ∧ x4 ≤ 48) (k7 : 99 ≤ x7 ∧ x7 ≤ 99) (k8 : (-2147483648) ≤ x8 ∧ x8 ≤ 2147483647) (k14 : 0 ≤ x14 ∧ x14 ≤ 2000) (f0 : 1 * x14 + ((-1) * x3 + 0) ≤ 0) (f1 : (-1) * x14 + (1 * x3 + 0) ≤ 0) (f2 : 1 * x8 + ((-1) * x2 + 0) ≤ 0) (f3 : (-1) * x8 + 0 ≤ 0) (f4 : (-1) * x4 + 0 ≤ 0) (f7 : 1 * from_0 + ((-1) * pos_0 + 0) ≤ 0) (f8 : ((kind_0 = 1) → (pos_0 ≤ (from_0 + 8))) ∧ ((kind_0 = 0) ∨ ((from_0 + 1) ≤ pos_0))) (f9 : 1 * x14 + ((-1) * pos_0 + 0) ≤ 0) (f10 : (1 ≤ fault_0) ∨ ((x14 + 1) ≤ pos_0)) (f12 : 1 * x14 + ((-1) * x3 + 0) ≤ 0) (f13 : (-1) * x14 + (1 * x3 + 0) ≤ 0) (f14 : 1 * x8 + ((-1) * x2 + 0) ≤ 0) (f15 : (-1) * x8 + 0 ≤ 0) (f16 : (-1) * x4 + 0 ≤ 0) (kz_0_8 : 0 ≤ fault_0 ∧ fault_0 ≤ 5) (kz_0_11 : 0 ≤ pos_0 ∧ pos_0 ≤ 2000) (kz_0_12 : 0 ≤ kind_0 ∧ kind_0 ≤ 4) (kz_0_15 : 0 ≤ from_0 ∧ from_0 ≤ 2000) : (1 ≤ fault_0) ∨ (0 ≤ x4) := by
  first | assumption | (clear f8 f10; omega) | omega | grind
set_option maxHeartbeats 4000000 in
theorem vc_Mo_of_at_s5002_31_5 (x2 : Int) (x3 : Int) (x4 : Int) (x7 : Int) (x8 : Int) (x14 : Int) (from_0 : Int) (pos_0 : Int) (kind_0 : Int) (fault_0 : Int) (k2 : 99 ≤ x2 ∧ x2 ≤ 99) (k3 : 0 ≤ x3 ∧ x3 ≤ 2000) (k4 : (-1) ≤ x4 ∧ x4 ≤ 48) (k7 : 99 ≤ x7 ∧ x7 ≤ 99) (k8 : (-2147483648) ≤ x8 ∧ x8 ≤ 2147483647) (k14 : 0 ≤ x14 ∧ x14 ≤ 2000) (f0 : 1 * x14 + ((-1) * x3 + 0) ≤ 0) (f1 : (-1) * x14 + (1 * x3 + 0) ≤ 0) (f2 : 1 * x8 + ((-1) * x2 + 0) ≤ 0) (f3 : (-1) * x8 + 0 ≤ 0) (f4 : (-1) * x4 + 0 ≤ 0) (f7 : 1 * from_0 + ((-1) * pos_0 + 0) ≤ 0) (f8 : ((kind_0 = 1) → (pos_0 ≤ (from_0 + 8))) ∧ ((kind_0 = 0) ∨ ((from_0 + 1) ≤ pos_0))) (f9 : 1 * x14 + ((-1) * pos_0 + 0) ≤ 0) (f10 : (1 ≤ fault_0) ∨ ((x14 + 1) ≤ pos_0)) (f12 : 1 * x14 + ((-1) * x3 + 0) ≤ 0) (f13 : (-1) * x14 + (1 * x3 + 0) ≤ 0) (f14 : 1 * x8 + ((-1) * x2 + 0) ≤ 0) (f15 : (-1) * x8 + 0 ≤ 0) (f16 : (-1) * x4 + 0 ≤ 0) (kz_0_8 : 0 ≤ fault_0 ∧ fault_0 ≤ 5) (kz_0_11 : 0 ≤ pos_0 ∧ pos_0 ≤ 2000) (kz_0_12 : 0 ≤ kind_0 ∧ kind_0 ≤ 4) (kz_0_15 : 0 ≤ from_0 ∧ from_0 ≤ 2000) : 1 * x8 + ((-1) * x2 + 0) ≤ 0 := by
  first | assumption | (clear f8 f10; omega) | omega | grind
set_option maxHeartbeats 4000000 in
theorem vc_Mo_of_at_s5002_31_6 (x2 : Int) (x3 : Int) (x4 : Int) (x7 : Int) (x8 : Int) (x14 : Int) (from_0 : Int) (pos_0 : Int) (kind_0 : Int) (fault_0 : Int) (k2 : 99 ≤ x2 ∧ x2 ≤ 99) (k3 : 0 ≤ x3 ∧ x3 ≤ 2000) (k4 : (-1) ≤ x4 ∧ x4 ≤ 48) (k7 : 99 ≤ x7 ∧ x7 ≤ 99) (k8 : (-2147483648) ≤ x8 ∧ x8 ≤ 2147483647) (k14 : 0 ≤ x14 ∧ x14 ≤ 2000) (f0 : 1 * x14 + ((-1) * x3 + 0) ≤ 0) (f1 : (-1) * x14 + (1 * x3 + 0) ≤ 0) (f2 : 1 * x8 + ((-1) * x2 + 0) ≤ 0) (f3 : (-1) * x8 + 0 ≤ 0) (f4 : (-1) * x4 + 0 ≤ 0) (f7 : 1 * from_0 + ((-1) * pos_0 + 0) ≤ 0) (f8 : ((kind_0 = 1) → (pos_0 ≤ (from_0 + 8))) ∧ ((kind_0 = 0) ∨ ((from_0 + 1) ≤ pos_0))) (f9 : 1 * x14 + ((-1) * pos_0 + 0) ≤ 0) (f10 : (1 ≤ fault_0) ∨ ((x14 + 1) ≤ pos_0)) (f12 : 1 * x14 + ((-1) * x3 + 0) ≤ 0) (f13 : (-1) * x14 + (1 * x3 + 0) ≤ 0) (f14 : 1 * x8 + ((-1) * x2 + 0) ≤ 0) (f15 : (-1) * x8 + 0 ≤ 0) (f16 : (-1) * x4 + 0 ≤ 0) (kz_0_8 : 0 ≤ fault_0 ∧ fault_0 ≤ 5) (kz_0_11 : 0 ≤ pos_0 ∧ pos_0 ≤ 2000) (kz_0_12 : 0 ≤ kind_0 ∧ kind_0 ≤ 4) (kz_0_15 : 0 ≤ from_0 ∧ from_0 ≤ 2000) : (-1) * x8 + 0 ≤ 0 := by
  first | assumption | (clear f8 f10; omega) | omega | grind
def o_Mo_of_at_s5002_31 : or_T := (162, 15, [(0, (2, 0, 0, [165])), (2, (0, 99, 99, [])), (3, (0, 0, 2000, [])), (4, (0, -1, 48, [])), (7, (0, 99, 99, [])), (8, (0, -2147483648, 2147483647, [])), (14, (0, 0, 2000, []))], [(23, [14, 3], [0, 1, -1]), (23, [14, 3], [0, -1, 1]), (23, [8, 7], [0, 1, -1]), (23, [8], [0, -1]), (23, [4], [0, -1]), (24, [0, 5], []), (24, [2, 7], []), (20, [5, 5], [30, 0, 1, 1, 15, -1, 1, 11]), (20, [5], [50, 3, 0, 12, 11, 15, 2, 21, 4, 7, 1, 3, 2, 0, 12, 0, 1, 0, 3, 2, 0, 11, 4, 3, 2, 0, 15, 0, 8, 3, 7, 1, 3, 2, 0, 12, 0, 0, 0, 7, 4, 3, 2, 0, 15, 0, 1, 2, 0, 11]), (20, [14, 5], [30, 0, 1, 0, 0, -1, 1, 11]), (20, [5, 14], [50, 2, 0, 8, 11, 3, 7, 0, 2, 0, 1, 2, 0, 8, 0, 6, 4, 2, 1, 1, 0, 1, 2, 0, 11]), (102, [14], [0, 165008, 165009, 165011, 165012, 165013, 165014, 165015]), (23, [14, 3], [0, 1, -1]), (23, [14, 3], [0, -1, 1]), (23, [8, 7], [0, 1, -1]), (23, [8], [0, -1]), (23, [4], [0, -1])], [], [], [(20, [0, 0], [30, 0, 1, 1, 15, -1, 1, 11]), (20, [0], [50, 3, 0, 12, 11, 15, 2, 21, 4, 7, 1, 3, 2, 0, 12, 0, 1, 0, 3, 2, 0, 11, 4, 3, 2, 0, 15, 0, 8, 3, 7, 1, 3, 2, 0, 12, 0, 0, 0, 7, 4, 3, 2, 0, 15, 0, 1, 2, 0, 11]), (20, [3, 0], [30, 0, 1, 0, 0, -1, 1, 11]), (20, [0, 3], [50, 3, 0, 8, 12, 11, 3, 7, 0, 2, 0, 1, 2, 0, 8, 3, 7, 1, 3, 2, 0, 12, 0, 0, 0, 6, 4, 2, 1, 1, 0, 1, 2, 0, 11]), (20, [0, 4], [50, 1, 0, 8, 3, 7, 0, 2, 0, 1, 2, 0, 8, 0, 2, 0, 0, 1, 1]), (20, [8, 2], [30, 0, 1, 0, 0, -1, 0, 0]), (20, [8], [30, 0, -1, 0, 0])], [], [])
theorem oo_Mo_of_at_s5002_31 {kA : Nat → ClassId} : or_ok PRD kA GG o_Mo_of_at_s5002_31 := by
  refine or_mk fun A ta ws vs hD hth hl => ?_
  intro t0 r0 t2 k2 t3 k3 t4 k4 t7 k7 t8 k8 t14 k14 f0 f1 f2 f3 f4 f5 f6 f7 f8 f9 f10 ta1 w1 le1 s1 f12 f13 f14 f15 f16
  replace f2 := shm_7 f2
  replace f5 := shm_5 f5
  replace f6 := shm_5 f6
  replace f7 := shm_1397 f7
  replace f8 := shm_1398 f8
  replace f9 := shm_1395 f9
  replace f10 := shm_1659 f10
  replace f14 := shm_7 f14
  have q5 : n_v vs 5 = n_v vs 0 := f5.symm
  have q7 : n_v vs 7 = n_v vs 2 := f6.symm
  simp only [q7, q5] at f2 f7 f8 f9 f10 f14
  have kz_0_8 := fdq_14 hD hth r0
  have kz_0_11 := fdq_273 hD hth r0
  have kz_0_12 := fdq_186 hD hth r0
  have kz_0_15 := fdq_274 hD hth r0
  have nf0 : fc_1 PRD (20, [0, 0], [30, 0, 1, 1, 15, -1, 1, 11]) ws (vs) := ⟨nf_in hl rfl, sgq_1397 (vc_Mo_of_at_s5002_31_0 (v_iv (n_v vs 2)) (v_iv (n_v vs 3)) (v_iv (n_v vs 4)) (v_iv (n_v vs 7)) (v_iv (n_v vs 8)) (v_iv (n_v vs 14)) (w_fi ws (n_v vs 0) 15) (w_fi ws (n_v vs 0) 11) (w_fi ws (n_v vs 0) 12) (w_fi ws (n_v vs 0) 8) k2 k3 k4 k7 k8 k14 (shm_7 f0) (shm_22 f1) f2 (shm_1013 f3) (shm_1013 f4) f7 f8 f9 f10 (shm_7 f12) (shm_22 f13) f14 (shm_1013 f15) (shm_1013 f16) kz_0_8 kz_0_11 kz_0_12 kz_0_15)⟩
  have nf1 : fc_1 PRD (20, [0], [50, 3, 0, 12, 11, 15, 2, 21, 4, 7, 1, 3, 2, 0, 12, 0, 1, 0, 3, 2, 0, 11, 4, 3, 2, 0, 15, 0, 8, 3, 7, 1, 3, 2, 0, 12, 0, 0, 0, 7, 4, 3, 2, 0, 15, 0, 1, 2, 0, 11]) ws (vs) := ⟨nf_in hl rfl, sgq_1398 (vc_Mo_of_at_s5002_31_1 (v_iv (n_v vs 2)) (v_iv (n_v vs 3)) (v_iv (n_v vs 4)) (v_iv (n_v vs 7)) (v_iv (n_v vs 8)) (v_iv (n_v vs 14)) (w_fi ws (n_v vs 0) 15) (w_fi ws (n_v vs 0) 11) (w_fi ws (n_v vs 0) 12) (w_fi ws (n_v vs 0) 8) k2 k3 k4 k7 k8 k14 (shm_7 f0) (shm_22 f1) f2 (shm_1013 f3) (shm_1013 f4) f7 f8 f9 f10 (shm_7 f12) (shm_22 f13) f14 (shm_1013 f15) (shm_1013 f16) kz_0_8 kz_0_11 kz_0_12 kz_0_15)⟩
  have nf2 : fc_1 PRD (20, [3, 0], [30, 0, 1, 0, 0, -1, 1, 11]) ws (vs) := ⟨nf_in hl rfl, sgq_1395 (vc_Mo_of_at_s5002_31_2 (v_iv (n_v vs 2)) (v_iv (n_v vs 3)) (v_iv (n_v vs 4)) (v_iv (n_v vs 7)) (v_iv (n_v vs 8)) (v_iv (n_v vs 14)) (w_fi ws (n_v vs 0) 15) (w_fi ws (n_v vs 0) 11) (w_fi ws (n_v vs 0) 12) (w_fi ws (n_v vs 0) 8) k2 k3 k4 k7 k8 k14 (shm_7 f0) (shm_22 f1) f2 (shm_1013 f3) (shm_1013 f4) f7 f8 f9 f10 (shm_7 f12) (shm_22 f13) f14 (shm_1013 f15) (shm_1013 f16) kz_0_8 kz_0_11 kz_0_12 kz_0_15)⟩
  have nf3 : fc_1 PRD (20, [0, 3], [50, 3, 0, 8, 12, 11, 3, 7, 0, 2, 0, 1, 2, 0, 8, 3, 7, 1, 3, 2, 0, 12, 0, 0, 0, 6, 4, 2, 1, 1, 0, 1, 2, 0, 11]) ws (vs) := ⟨nf_in hl rfl, sgq_1660 (vc_Mo_of_at_s5002_31_3 (v_iv (n_v vs 2)) (v_iv (n_v vs 3)) (v_iv (n_v vs 4)) (v_iv (n_v vs 7)) (v_iv (n_v vs 8)) (v_iv (n_v vs 14)) (w_fi ws (n_v vs 0) 15) (w_fi ws (n_v vs 0) 11) (w_fi ws (n_v vs 0) 12) (w_fi ws (n_v vs 0) 8) k2 k3 k4 k7 k8 k14 (shm_7 f0) (shm_22 f1) f2 (shm_1013 f3) (shm_1013 f4) f7 f8 f9 f10 (shm_7 f12) (shm_22 f13) f14 (shm_1013 f15) (shm_1013 f16) kz_0_8 kz_0_11 kz_0_12 kz_0_15)⟩
  have nf4 : fc_1 PRD (20, [0, 4], [50, 1, 0, 8, 3, 7, 0, 2, 0, 1, 2, 0, 8, 0, 2, 0, 0, 1, 1]) ws (vs) := ⟨nf_in hl rfl, sgq_1889 (vc_Mo_of_at_s5002_31_4 (v_iv (n_v vs 2)) (v_iv (n_v vs 3)) (v_iv (n_v vs 4)) (v_iv (n_v vs 7)) (v_iv (n_v vs 8)) (v_iv (n_v vs 14)) (w_fi ws (n_v vs 0) 15) (w_fi ws (n_v vs 0) 11) (w_fi ws (n_v vs 0) 12) (w_fi ws (n_v vs 0) 8) k2 k3 k4 k7 k8 k14 (shm_7 f0) (shm_22 f1) f2 (shm_1013 f3) (shm_1013 f4) f7 f8 f9 f10 (shm_7 f12) (shm_22 f13) f14 (shm_1013 f15) (shm_1013 f16) kz_0_8 kz_0_11 kz_0_12 kz_0_15)⟩
  have nf5 : fc_1 PRD (20, [8, 2], [30, 0, 1, 0, 0, -1, 0, 0]) ws (vs) := ⟨nf_in hl rfl, sgq_219 (vc_Mo_of_at_s5002_31_5 (v_iv (n_v vs 2)) (v_iv (n_v vs 3)) (v_iv (n_v vs 4)) (v_iv (n_v vs 7)) (v_iv (n_v vs 8)) (v_iv (n_v vs 14)) (w_fi ws (n_v vs 0) 15) (w_fi ws (n_v vs 0) 11) (w_fi ws (n_v vs 0) 12) (w_fi ws (n_v vs 0) 8) k2 k3 k4 k7 k8 k14 (shm_7 f0) (shm_22 f1) f2 (shm_1013 f3) (shm_1013 f4) f7 f8 f9 f10 (shm_7 f12) (shm_22 f13) f14 (shm_1013 f15) (shm_1013 f16) kz_0_8 kz_0_11 kz_0_12 kz_0_15)⟩
  have nf6 : fc_1 PRD (20, [8], [30, 0, -1, 0, 0]) ws (vs) := ⟨nf_in hl rfl, sgq_1890 (vc_Mo_of_at_s5002_31_6 (v_iv (n_v vs 2)) (v_iv (n_v vs 3)) (v_iv (n_v vs 4)) (v_iv (n_v vs 7)) (v_iv (n_v vs 8)) (v_iv (n_v vs 14)) (w_fi ws (n_v vs 0) 15) (w_fi ws (n_v vs 0) 11) (w_fi ws (n_v vs 0) 12) (w_fi ws (n_v vs 0) 8) k2 k3 k4 k7 k8 k14 (shm_7 f0) (shm_22 f1) f2 (shm_1013 f3) (shm_1013 f4) f7 f8 f9 f10 (shm_7 f12) (shm_22 f13) f14 (shm_1013 f15) (shm_1013 f16) kz_0_8 kz_0_11 kz_0_12 kz_0_15)⟩
  refine ⟨(fun _ h => (by cases h)), [], trivial, ?_, (fun _ h => (by cases h))⟩
  rw [List.append_nil]
  exact List.forall_mem_cons.mpr ⟨⟨show (20 : Nat) < 100 from by decide, nf0⟩, List.forall_mem_cons.mpr ⟨⟨show (20 : Nat) < 100 from by decide, nf1⟩, List.forall_mem_cons.mpr ⟨⟨show (20 : Nat) < 100 from by decide, nf2⟩, List.forall_mem_cons.mpr ⟨⟨show (20 : Nat) < 100 from by decide, nf3⟩, List.forall_mem_cons.mpr ⟨⟨show (20 : Nat) < 100 from by decide, nf4⟩, List.forall_mem_cons.mpr ⟨⟨show (20 : Nat) < 100 from by decide, nf5⟩, List.forall_mem_cons.mpr ⟨⟨show (20 : Nat) < 100 from by decide, nf6⟩, (fun _ h => (by cases h))⟩⟩⟩⟩⟩⟩⟩
def n_Mo_of_at_s5002_an : List an_T := [(17, [(0, (2, 0, 0, [165])), (1, (2, 0, 0, [5002])), (2, (0, 99, 99, [])), (3, (0, (Int.negSucc 2147483647), 2147483647, []))], [], (0, 0), [(0, 0, 99983), (2, 9, 0), (0, 0, 100000)], [], [], [(2, 0, 0, [165]), (2, 0, 0, [5002]), (0, 99, 99, []), (0, 0, 2000, []), (0, (Int.negSucc 0), 48, [])], 0, [(0, 0, 2000, [])], [(20, [5, 5], [30, 0, 1, 1, 15, (Int.negSucc 0), 1, 11]), (20, [5], [50, 3, 0, 12, 11, 15, 2, 21, 4, 7, 1, 3, 2, 0, 12, 0, 1, 0, 3, 2, 0, 11, 4, 3, 2, 0, 15, 0, 8, 3, 7, 1, 3, 2, 0, 12, 0, 0, 0, 7, 4, 3, 2, 0, 15, 0, 1, 2, 0, 11]), (20, [3, 5], [30, (Int.negSucc 0), 1, 0, 0, (Int.negSucc 0), 1, 11]), (23, [8, 7], [0, 1, (Int.negSucc 0)]), (23, [8], [0, (Int.negSucc 0)]), (23, [4], [0, (Int.negSucc 0)]), (24, [0, 5], []), (24, [2, 7], []), (20, [9, 5], [30, 2000, 1, 0, 0, 1, 1, 11]), (20, [9, 5], [30, (Int.negSucc 1999), (Int.negSucc 0), 0, 0, (Int.negSucc 0), 1, 11])]), (139, [(0, (2, 0, 0, [165])), (1, (2, 0, 0, [5002])), (2, (0, 99, 99, [])), (3, (0, (Int.negSucc 2147483647), 2147483647, []))], [], (0, 0), [(0, 0, 99983), (2, 10, 0), (0, 0, 99861)], [], [((0, 8), (0, 0, 0, []))], [(2, 0, 0, [165]), (2, 0, 0, [5002]), (0, 99, 99, []), (0, 0, 2000, []), (0, (Int.negSucc 0), 48, [])], 0, [(0, 0, 2000, [])], [(20, [5, 5], [30, 0, 1, 1, 15, (Int.negSucc 0), 1, 11]), (20, [5], [50, 3, 0, 12, 11, 15, 2, 21, 4, 7, 1, 3, 2, 0, 12, 0, 1, 0, 3, 2, 0, 11, 4, 3, 2, 0, 15, 0, 8, 3, 7, 1, 3, 2, 0, 12, 0, 0, 0, 7, 4, 3, 2, 0, 15, 0, 1, 2, 0, 11]), (20, [3, 5], [30, (Int.negSucc 0), 1, 0, 0, (Int.negSucc 0), 1, 11]), (23, [8, 7], [0, 1, (Int.negSucc 0)]), (23, [8], [0, (Int.negSucc 0)]), (23, [4], [0, (Int.negSucc 0)]), (20, [10, 5], [30, (Int.negSucc 2000), (Int.negSucc 0), 0, 0, (Int.negSucc 0), 1, 11]), (24, [0, 5], []), (24, [2, 7], [])])]
def t_Mo_of_at_s5002_ct : ct_L := [(0, 387, e_Mo_in), (1, 457, e_Mo_sign), (1, 460, e_Mo_next), (1, 463, e_Mo_wrong), (1, 491, e_Mo_need), (118, 469, e_Mo_isWord_at_s5002)]
set_option maxRecDepth 100000 in
theorem c_Mo_of_at_s5002 {l : Launch} {D : va_G} {kA : Nat → ClassId} (h_Mo_in : ct_ok PRD l D kA GG y_Mo_in z_Mo_in e_Mo_in) (h_Mo_isWord_at_s5002 : ct_ok PRD l D kA GG y_Mo_isWord_at_s5002 z_Mo_isWord_at_s5002 e_Mo_isWord_at_s5002) (h_Mo_need : ct_ok PRD l D kA GG y_Mo_need z_Mo_need e_Mo_need) (h_Mo_next : ct_ok PRD l D kA GG y_Mo_next z_Mo_next e_Mo_next) (h_Mo_sign : ct_ok PRD l D kA GG y_Mo_sign z_Mo_sign e_Mo_sign) (h_Mo_wrong : ct_ok PRD l D kA GG y_Mo_wrong z_Mo_wrong e_Mo_wrong) : ct_ok PRD l D kA GG y_Mo_of_at_s5002 z_Mo_of_at_s5002 e_Mo_of_at_s5002 := chk_all_ok (FT := [(413, 13, 8), (428, 13, 13), (434, 13, 12), (437, 13, 14)]) (PT := []) (CT := t_Mo_of_at_s5002_ct) (KT := []) (NT := []) (AN := n_Mo_of_at_s5002_an) (OT := [o_Mo_of_at_s5002_0, o_Mo_of_at_s5002_1, o_Mo_of_at_s5002_2, o_Mo_of_at_s5002_3, o_Mo_of_at_s5002_4, o_Mo_of_at_s5002_5, o_Mo_of_at_s5002_6, o_Mo_of_at_s5002_7, o_Mo_of_at_s5002_8, o_Mo_of_at_s5002_9, o_Mo_of_at_s5002_10, o_Mo_of_at_s5002_11, o_Mo_of_at_s5002_12, o_Mo_of_at_s5002_13, o_Mo_of_at_s5002_14, o_Mo_of_at_s5002_15, o_Mo_of_at_s5002_16, o_Mo_of_at_s5002_17, o_Mo_of_at_s5002_18, o_Mo_of_at_s5002_19, o_Mo_of_at_s5002_20, o_Mo_of_at_s5002_21, o_Mo_of_at_s5002_22, o_Mo_of_at_s5002_23, o_Mo_of_at_s5002_24, o_Mo_of_at_s5002_25, o_Mo_of_at_s5002_26, o_Mo_of_at_s5002_27, o_Mo_of_at_s5002_28, o_Mo_of_at_s5002_29, o_Mo_of_at_s5002_30, o_Mo_of_at_s5002_31]) 3 732 (List.forall_mem_cons.mpr ⟨oo_Mo_of_at_s5002_0, List.forall_mem_cons.mpr ⟨oo_Mo_of_at_s5002_1, List.forall_mem_cons.mpr ⟨oo_Mo_of_at_s5002_2, List.forall_mem_cons.mpr ⟨oo_Mo_of_at_s5002_3, List.forall_mem_cons.mpr ⟨oo_Mo_of_at_s5002_4, List.forall_mem_cons.mpr ⟨oo_Mo_of_at_s5002_5, List.forall_mem_cons.mpr ⟨oo_Mo_of_at_s5002_6, List.forall_mem_cons.mpr ⟨oo_Mo_of_at_s5002_7, List.forall_mem_cons.mpr ⟨oo_Mo_of_at_s5002_8, List.forall_mem_cons.mpr ⟨oo_Mo_of_at_s5002_9, List.forall_mem_cons.mpr ⟨oo_Mo_of_at_s5002_10, List.forall_mem_cons.mpr ⟨oo_Mo_of_at_s5002_11, List.forall_mem_cons.mpr ⟨oo_Mo_of_at_s5002_12, List.forall_mem_cons.mpr ⟨oo_Mo_of_at_s5002_13, List.forall_mem_cons.mpr ⟨oo_Mo_of_at_s5002_14, List.forall_mem_cons.mpr ⟨oo_Mo_of_at_s5002_15, List.forall_mem_cons.mpr ⟨oo_Mo_of_at_s5002_16, List.forall_mem_cons.mpr ⟨oo_Mo_of_at_s5002_17, List.forall_mem_cons.mpr ⟨oo_Mo_of_at_s5002_18, List.forall_mem_cons.mpr ⟨oo_Mo_of_at_s5002_19, List.forall_mem_cons.mpr ⟨oo_Mo_of_at_s5002_20, List.forall_mem_cons.mpr ⟨oo_Mo_of_at_s5002_21, List.forall_mem_cons.mpr ⟨oo_Mo_of_at_s5002_22, List.forall_mem_cons.mpr ⟨oo_Mo_of_at_s5002_23, List.forall_mem_cons.mpr ⟨oo_Mo_of_at_s5002_24, List.forall_mem_cons.mpr ⟨oo_Mo_of_at_s5002_25, List.forall_mem_cons.mpr ⟨oo_Mo_of_at_s5002_26, List.forall_mem_cons.mpr ⟨oo_Mo_of_at_s5002_27, List.forall_mem_cons.mpr ⟨oo_Mo_of_at_s5002_28, List.forall_mem_cons.mpr ⟨oo_Mo_of_at_s5002_29, List.forall_mem_cons.mpr ⟨oo_Mo_of_at_s5002_30, List.forall_mem_cons.mpr ⟨oo_Mo_of_at_s5002_31, List.forall_mem_nil _⟩⟩⟩⟩⟩⟩⟩⟩⟩⟩⟩⟩⟩⟩⟩⟩⟩⟩⟩⟩⟩⟩⟩⟩⟩⟩⟩⟩⟩⟩⟩⟩) (by decide +kernel) ⟨List.forall_mem_cons.mpr ⟨gf_Mo_413, List.forall_mem_cons.mpr ⟨gf_Mo_428, List.forall_mem_cons.mpr ⟨gf_Mo_434, List.forall_mem_cons.mpr ⟨gf_Mo_437, List.forall_mem_nil _⟩⟩⟩⟩, List.forall_mem_nil _, List.forall_mem_cons.mpr ⟨cl_static (y := y_Mo_in) h_Mo_in wm_2971 wm_9 wm_2969 wm_2970 ⟨by decide, by decide, by decide +kernel⟩ (by decide), List.forall_mem_cons.mpr ⟨cl_virtual (y := y_Mo_sign) (ci := 13) rfl rfl ⟨_, _, rfl⟩ (by decide +kernel) h_Mo_sign wm_3058 wm_9 wm_3055 wm_3057 wv_13_11 ⟨by decide, by decide, by decide +kernel⟩ (by decide), List.forall_mem_cons.mpr ⟨cl_virtual (y := y_Mo_next) (ci := 13) rfl rfl ⟨_, _, rfl⟩ (by decide +kernel) h_Mo_next wm_2982 wm_9 wm_2979 wm_2981 wv_12_11 ⟨by decide, by decide, by decide +kernel⟩ (by decide), List.forall_mem_cons.mpr ⟨cl_virtual (y := y_Mo_wrong) (ci := 13) rfl rfl ⟨_, _, rfl⟩ (by decide +kernel) h_Mo_wrong wm_3017 wm_9 wm_3014 wm_3016 wv_13_1 ⟨by decide, by decide, by decide +kernel⟩ (by decide), List.forall_mem_cons.mpr ⟨cl_virtual (y := y_Mo_need) (ci := 13) rfl rfl ⟨_, _, rfl⟩ (by decide +kernel) h_Mo_need wm_3062 wm_9 wm_3059 wm_3061 wv_13_12 ⟨by decide, by decide, by decide +kernel⟩ (by decide), List.forall_mem_cons.mpr ⟨cl_virtual (y := y_Mo_isWord_at_s5002) (ci := 13) rfl rfl ⟨_, _, rfl⟩ (by decide +kernel) h_Mo_isWord_at_s5002 wm_3002 wm_9 wm_2999 wm_3001 wv_12_14 ⟨by decide, by decide, by decide +kernel⟩ (by decide), List.forall_mem_nil _⟩⟩⟩⟩⟩⟩, List.forall_mem_nil _, List.forall_mem_nil _, GG_pl⟩ (by decide +kernel)

set_option maxHeartbeats 4000000 in
theorem vc_Mo_of_at_s5003_0_0 (x2 : Int) (x3 : Int) (x4 : Int) (x6 : Int) (x7 : Int) (kind_0 : Int) (fault_0 : Int) (from_0 : Int) (pos_0 : Int) (k2 : 9 ≤ x2 ∧ x2 ≤ 9) (k3 : 0 ≤ x3 ∧ x3 ≤ 2000) (k4 : (-1) ≤ x4 ∧ x4 ≤ 48) (k6 : 0 ≤ x6 ∧ x6 ≤ 0) (k7 : 0 ≤ x7 ∧ x7 ≤ 0) (f0 : x6 = 0) (f1 : (x6 = 1) → ((kind_0 = 3) ∧ (fault_0 = 0))) (f2 : 1 * from_0 + ((-1) * pos_0 + 0) ≤ 0) (f3 : ((kind_0 = 1) → (pos_0 ≤ (from_0 + 8))) ∧ ((kind_0 = 0) ∨ ((from_0 + 1) ≤ pos_0))) (f4 : 1 * x3 + ((-1) * pos_0 + 0) ≤ 0) (f5 : (1 ≤ fault_0) ∨ ((kind_0 = 0) ∨ ((x3 + 1) ≤ pos_0))) (f6 : (1 ≤ fault_0) ∨ (0 ≤ x4)) (kz_0_8 : 0 ≤ fault_0 ∧ fault_0 ≤ 5) (kz_0_11 : 0 ≤ pos_0 ∧ pos_0 ≤ 2000) (kz_0_12 : 0 ≤ kind_0 ∧ kind_0 ≤ 4) (kz_0_15 : 0 ≤ from_0 ∧ from_0 ≤ 2000) : 1 * x7 + ((-1) * x2 + 0) ≤ 0 := by
  first | assumption | (clear f1 f3 f5 f6; omega) | omega | grind
set_option maxHeartbeats 4000000 in
theorem vc_Mo_of_at_s5003_0_1 (x2 : Int) (x3 : Int) (x4 : Int) (x6 : Int) (x7 : Int) (kind_0 : Int) (fault_0 : Int) (from_0 : Int) (pos_0 : Int) (k2 : 9 ≤ x2 ∧ x2 ≤ 9) (k3 : 0 ≤ x3 ∧ x3 ≤ 2000) (k4 : (-1) ≤ x4 ∧ x4 ≤ 48) (k6 : 0 ≤ x6 ∧ x6 ≤ 0) (k7 : 0 ≤ x7 ∧ x7 ≤ 0) (f0 : x6 = 0) (f1 : (x6 = 1) → ((kind_0 = 3) ∧ (fault_0 = 0))) (f2 : 1 * from_0 + ((-1) * pos_0 + 0) ≤ 0) (f3 : ((kind_0 = 1) → (pos_0 ≤ (from_0 + 8))) ∧ ((kind_0 = 0) ∨ ((from_0 + 1) ≤ pos_0))) (f4 : 1 * x3 + ((-1) * pos_0 + 0) ≤ 0) (f5 : (1 ≤ fault_0) ∨ ((kind_0 = 0) ∨ ((x3 + 1) ≤ pos_0))) (f6 : (1 ≤ fault_0) ∨ (0 ≤ x4)) (kz_0_8 : 0 ≤ fault_0 ∧ fault_0 ≤ 5) (kz_0_11 : 0 ≤ pos_0 ∧ pos_0 ≤ 2000) (kz_0_12 : 0 ≤ kind_0 ∧ kind_0 ≤ 4) (kz_0_15 : 0 ≤ from_0 ∧ from_0 ≤ 2000) : (-1) * x7 + 0 ≤ 0 := by
  first | assumption | (clear f1 f3 f5 f6; omega) | omega | grind
def o_Mo_of_at_s5003_0 : or_T := (10, 8, [(0, (2, 0, 0, [165])), (2, (0, 9, 9, [])), (3, (0, 0, 2000, [])), (4, (0, -1, 48, [])), (6, (0, 0, 0, [])), (7, (0, 0, 0, []))], [(8, [6], [0]), (20, [6, 0], [50, 2, 0, 1012, 1008, 4, 6, 1, 2, 1, 0, 0, 1, 2, 7, 1, 3, 2, 1, 12, 0, 3, 1, 3, 2, 1, 8, 0, 0]), (20, [0, 0], [30, 0, 1, 1, 15, -1, 1, 11]), (20, [0], [50, 3, 0, 12, 11, 15, 2, 21, 4, 7, 1, 3, 2, 0, 12, 0, 1, 0, 3, 2, 0, 11, 4, 3, 2, 0, 15, 0, 8, 3, 7, 1, 3, 2, 0, 12, 0, 0, 0, 7, 4, 3, 2, 0, 15, 0, 1, 2, 0, 11]), (20, [3, 0], [30, 0, 1, 0, 0, -1, 1, 11]), (20, [0, 3], [50, 3, 0, 8, 12, 11, 3, 7, 0, 2, 0, 1, 2, 0, 8, 3, 7, 1, 3, 2, 0, 12, 0, 0, 0, 6, 4, 2, 1, 1, 0, 1, 2, 0, 11]), (20, [0, 4], [50, 1, 0, 8, 3, 7, 0, 2, 0, 1, 2, 0, 8, 0, 2, 0, 0, 1, 1])], [], [], [(20, [7, 2], [30, 0, 1, 0, 0, -1, 0, 0]), (20, [7], [30, 0, -1, 0, 0])], [], [])
theorem oo_Mo_of_at_s5003_0 {kA : Nat → ClassId} : or_ok PRD kA GG o_Mo_of_at_s5003_0 := by
  refine or_mk fun A ta ws vs hD hth hl => ?_
  intro t0 r0 t2 k2 t3 k3 t4 k4 t6 k6 t7 k7 f0 f1 f2 f3 f4 f5 f6
  have kz_0_8 := fdq_14 hD hth r0
  have kz_0_11 := fdq_273 hD hth r0
  have kz_0_12 := fdq_186 hD hth r0
  have kz_0_15 := fdq_274 hD hth r0
  have nf0 : fc_1 PRD (20, [7, 2], [30, 0, 1, 0, 0, -1, 0, 0]) ws (vs) := ⟨nf_in hl rfl, sgq_219 (vc_Mo_of_at_s5003_0_0 (v_iv (n_v vs 2)) (v_iv (n_v vs 3)) (v_iv (n_v vs 4)) (v_iv (n_v vs 6)) (v_iv (n_v vs 7)) (w_fi ws (n_v vs 0) 12) (w_fi ws (n_v vs 0) 8) (w_fi ws (n_v vs 0) 15) (w_fi ws (n_v vs 0) 11) k2 k3 k4 k6 k7 (shm_210 f0) (shm_717 f1) (shm_1397 f2) (shm_1398 f3) (shm_1395 f4) (shm_1660 f5) (shm_1889 f6) kz_0_8 kz_0_11 kz_0_12 kz_0_15)⟩
  have nf1 : fc_1 PRD (20, [7], [30, 0, -1, 0, 0]) ws (vs) := ⟨nf_in hl rfl, sgq_1890 (vc_Mo_of_at_s5003_0_1 (v_iv (n_v vs 2)) (v_iv (n_v vs 3)) (v_iv (n_v vs 4)) (v_iv (n_v vs 6)) (v_iv (n_v vs 7)) (w_fi ws (n_v vs 0) 12) (w_fi ws (n_v vs 0) 8) (w_fi ws (n_v vs 0) 15) (w_fi ws (n_v vs 0) 11) k2 k3 k4 k6 k7 (shm_210 f0) (shm_717 f1) (shm_1397 f2) (shm_1398 f3) (shm_1395 f4) (shm_1660 f5) (shm_1889 f6) kz_0_8 kz_0_11 kz_0_12 kz_0_15)⟩
  refine ⟨(fun _ h => (by cases h)), [], trivial, ?_, (fun _ h => (by cases h))⟩
  rw [List.append_nil]
  exact List.forall_mem_cons.mpr ⟨⟨show (20 : Nat) < 100 from by decide, nf0⟩, List.forall_mem_cons.mpr ⟨⟨show (20 : Nat) < 100 from by decide, nf1⟩, (fun _ h => (by cases h))⟩⟩
set_option maxHeartbeats 4000000 in
theorem vc_Mo_of_at_s5003_1_0 (x3 : Int) (x4 : Int) (x6 : Int) (kind_0 : Int) (fault_0 : Int) (from_0 : Int) (pos_0 : Int) (k3 : 0 ≤ x3 ∧ x3 ≤ 2000) (k4 : (-1) ≤ x4 ∧ x4 ≤ 48) (k6 : 1 ≤ x6 ∧ x6 ≤ 1) (f0 : x6 ≠ 0) (f1 : (x6 = 1) → ((kind_0 = 3) ∧ (fault_0 = 0))) (f2 : 1 * from_0 + ((-1) * pos_0 + 0) ≤ 0) (f3 : ((kind_0 = 1) → (pos_0 ≤ (from_0 + 8))) ∧ ((kind_0 = 0) ∨ ((from_0 + 1) ≤ pos_0))) (f4 : 1 * x3 + ((-1) * pos_0 + 0) ≤ 0) (f5 : (1 ≤ fault_0) ∨ ((kind_0 = 0) ∨ ((x3 + 1) ≤ pos_0))) (f6 : (1 ≤ fault_0) ∨ (0 ≤ x4)) (kz_0_8 : 0 ≤ fault_0 ∧ fault_0 ≤ 5) (kz_0_11 : 0 ≤ pos_0 ∧ pos_0 ≤ 2000) (kz_0_12 : 0 ≤ kind_0 ∧ kind_0 ≤ 4) (kz_0_15 : 0 ≤ from_0 ∧ from_0 ≤ 2000) : (-1) * x4 + 0 ≤ 0 := by
  first | assumption | (clear f1 f3 f5 f6; omega) | omega | grind
def o_Mo_of_at_s5003_1 : or_T := (11, 7, [(0, (2, 0, 0, [165])), (3, (0, 0, 2000, [])), (4, (0, -1, 48, [])), (6, (0, 1, 1, []))], [(8, [6], [1]), (20, [6, 0], [50, 2, 0, 1012, 1008, 4, 6, 1, 2, 1, 0, 0, 1, 2, 7, 1, 3, 2, 1, 12, 0, 3, 1, 3, 2, 1, 8, 0, 0]), (20, [0, 0], [30, 0, 1, 1, 15, -1, 1, 11]), (20, [0], [50, 3, 0, 12, 11, 15, 2, 21, 4, 7, 1, 3, 2, 0, 12, 0, 1, 0, 3, 2, 0, 11, 4, 3, 2, 0, 15, 0, 8, 3, 7, 1, 3, 2, 0, 12, 0, 0, 0, 7, 4, 3, 2, 0, 15, 0, 1, 2, 0, 11]), (20, [3, 0], [30, 0, 1, 0, 0, -1, 1, 11]), (20, [0, 3], [50, 3, 0, 8, 12, 11, 3, 7, 0, 2, 0, 1, 2, 0, 8, 3, 7, 1, 3, 2, 0, 12, 0, 0, 0, 6, 4, 2, 1, 1, 0, 1, 2, 0, 11]), (20, [0, 4], [50, 1, 0, 8, 3, 7, 0, 2, 0, 1, 2, 0, 8, 0, 2, 0, 0, 1, 1])], [], [], [(23, [4], [0, -1])], [], [])
theorem oo_Mo_of_at_s5003_1 {kA : Nat → ClassId} : or_ok PRD kA GG o_Mo_of_at_s5003_1 := by
  refine or_mk fun A ta ws vs hD hth hl => ?_
  intro t0 r0 t3 k3 t4 k4 t6 k6 f0 f1 f2 f3 f4 f5 f6
  have kz_0_8 := fdq_14 hD hth r0
  have kz_0_11 := fdq_273 hD hth r0
  have kz_0_12 := fdq_186 hD hth r0
  have kz_0_15 := fdq_274 hD hth r0
  have nf0 : fc_1 PRD (23, [4], [0, -1]) ws (vs) := ⟨nf_in hl rfl, sgq_1013 (vc_Mo_of_at_s5003_1_0 (v_iv (n_v vs 3)) (v_iv (n_v vs 4)) (v_iv (n_v vs 6)) (w_fi ws (n_v vs 0) 12) (w_fi ws (n_v vs 0) 8) (w_fi ws (n_v vs 0) 15) (w_fi ws (n_v vs 0) 11) k3 k4 k6 (shm_154 f0) (shm_717 f1) (shm_1397 f2) (shm_1398 f3) (shm_1395 f4) (shm_1660 f5) (shm_1889 f6) kz_0_8 kz_0_11 kz_0_12 kz_0_15)⟩
  refine ⟨(fun _ h => (by cases h)), [], trivial, ?_, (fun _ h => (by cases h))⟩
  rw [List.append_nil]
  exact List.forall_mem_cons.mpr ⟨⟨show (23 : Nat) < 100 from by decide, nf0⟩, (fun _ h => (by cases h))⟩
set_option maxHeartbeats 4000000 in
theorem vc_Mo_of_at_s5003_2_0 (x3 : Int) (x4 : Int) (x6 : Int) (kind_0 : Int) (fault_0 : Int) (from_0 : Int) (pos_0 : Int) (gx : Int) (k3 : 0 ≤ x3 ∧ x3 ≤ 2000) (k4 : (-1) ≤ x4 ∧ x4 ≤ 48) (k6 : 1 ≤ x6 ∧ x6 ≤ 1) (f0 : (-1) * x4 + 0 ≤ 0) (f1 : x6 ≠ 0) (f2 : (x6 = 1) → ((kind_0 = 3) ∧ (fault_0 = 0))) (f3 : 1 * from_0 + ((-1) * pos_0 + 0) ≤ 0) (f4 : ((kind_0 = 1) → (pos_0 ≤ (from_0 + 8))) ∧ ((kind_0 = 0) ∨ ((from_0 + 1) ≤ pos_0))) (f5 : 1 * x3 + ((-1) * pos_0 + 0) ≤ 0) (f6 : (1 ≤ fault_0) ∨ ((kind_0 = 0) ∨ ((x3 + 1) ≤ pos_0))) (f7 : (1 ≤ fault_0) ∨ (0 ≤ x4)) (kz_0_8 : 0 ≤ fault_0 ∧ fault_0 ≤ 5) (kz_0_11 : 0 ≤ pos_0 ∧ pos_0 ≤ 2000) (kz_0_12 : 0 ≤ kind_0 ∧ kind_0 ≤ 4) (kz_0_15 : 0 ≤ from_0 ∧ from_0 ≤ 2000) (ex2 : gx = pos_0) (ex3 : 0 ≤ gx ∧ gx ≤ 2000) : 1 * gx + ((-1) * pos_0 + 0) ≤ 0 := by
  first | assumption | (clear f2 f4 f6 f7; omega) | omega | grind
set_option maxHeartbeats 4000000 in
theorem vc_Mo_of_at_s5003_2_1 (x3 : Int) (x4 : Int) (x6 : Int) (kind_0 : Int) (fault_0 : Int) (from_0 : Int) (pos_0 : Int) (gx : Int) (k3 : 0 ≤ x3 ∧ x3 ≤ 2000) (k4 : (-1) ≤ x4 ∧ x4 ≤ 48) (k6 : 1 ≤ x6 ∧ x6 ≤ 1) (f0 : (-1) * x4 + 0 ≤ 0) (f1 : x6 ≠ 0) (f2 : (x6 = 1) → ((kind_0 = 3) ∧ (fault_0 = 0))) (f3 : 1 * from_0 + ((-1) * pos_0 + 0) ≤ 0) (f4 : ((kind_0 = 1) → (pos_0 ≤ (from_0 + 8))) ∧ ((kind_0 = 0) ∨ ((from_0 + 1) ≤ pos_0))) (f5 : 1 * x3 + ((-1) * pos_0 + 0) ≤ 0) (f6 : (1 ≤ fault_0) ∨ ((kind_0 = 0) ∨ ((x3 + 1) ≤ pos_0))) (f7 : (1 ≤ fault_0) ∨ (0 ≤ x4)) (kz_0_8 : 0 ≤ fault_0 ∧ fault_0 ≤ 5) (kz_0_11 : 0 ≤ pos_0 ∧ pos_0 ≤ 2000) (kz_0_12 : 0 ≤ kind_0 ∧ kind_0 ≤ 4) (kz_0_15 : 0 ≤ from_0 ∧ from_0 ≤ 2000) (ex2 : gx = pos_0) (ex3 : 0 ≤ gx ∧ gx ≤ 2000) : 1 * x3 + ((-1) * gx + 0) ≤ (-1) := by
  first | assumption | (clear f2 f4 f6 f7; omega) | omega | grind
def o_Mo_of_at_s5003_2 : or_T := (12, 7, [(0, (2, 0, 0, [165])), (3, (0, 0, 2000, [])), (4, (0, -1, 48, [])), (6, (0, 1, 1, []))], [(23, [4], [0, -1]), (8, [6], [1]), (20, [6, 0], [50, 2, 0, 1012, 1008, 4, 6, 1, 2, 1, 0, 0, 1, 2, 7, 1, 3, 2, 1, 12, 0, 3, 1, 3, 2, 1, 8, 0, 0]), (20, [0, 0], [30, 0, 1, 1, 15, -1, 1, 11]), (20, [0], [50, 3, 0, 12, 11, 15, 2, 21, 4, 7, 1, 3, 2, 0, 12, 0, 1, 0, 3, 2, 0, 11, 4, 3, 2, 0, 15, 0, 8, 3, 7, 1, 3, 2, 0, 12, 0, 0, 0, 7, 4, 3, 2, 0, 15, 0, 1, 2, 0, 11]), (20, [3, 0], [30, 0, 1, 0, 0, -1, 1, 11]), (20, [0, 3], [50, 3, 0, 8, 12, 11, 3, 7, 0, 2, 0, 1, 2, 0, 8, 3, 7, 1, 3, 2, 0, 12, 0, 0, 0, 6, 4, 2, 1, 1, 0, 1, 2, 0, 11]), (20, [0, 4], [50, 1, 0, 8, 3, 7, 0, 2, 0, 1, 2, 0, 8, 0, 2, 0, 0, 1, 1])], [], [(0, 0, 2000, [])], [(20, [7, 0], [30, 0, 1, 0, 0, -1, 1, 11]), (23, [3, 7], [-1, 1, -1])], [], [])
theorem oo_Mo_of_at_s5003_2 {kA : Nat → ClassId} : or_ok PRD kA GG o_Mo_of_at_s5003_2 := by
  refine or_mk fun A ta ws vs hD hth hl => ?_
  intro t0 r0 t3 k3 t4 k4 t6 k6 f0 f1 f2 f3 f4 f5 f6 f7
  replace f0 := shm_1013 f0
  replace f1 := shm_154 f1
  replace f2 := shm_717 f2
  replace f3 := shm_1397 f3
  replace f4 := shm_1398 f4
  replace f5 := shm_1395 f5
  replace f6 := shm_1660 f6
  replace f7 := shm_1889 f7
  have kz_0_8 := fdq_14 hD hth r0
  have kz_0_11 := fdq_273 hD hth r0
  have kz_0_12 := fdq_186 hD hth r0
  have kz_0_15 := fdq_274 hD hth r0
  obtain ⟨x, ex, hx⟩ := iv_ex (ta := ta) (lo := 0) (hi := 2000) (z := w_fi ws (n_v vs 0) 11) (by omega) (by omega) (by omega) (by omega)
  have ex2 : v_iv (Value.int x) = w_fi ws (n_v vs 0) 11 := ex
  have ex3 : 0 ≤ v_iv (Value.int x) ∧ v_iv (Value.int x) ≤ 2000 := tv_rng hx
  have e_0 : n_v (vs ++ [Value.int x]) 0 = n_v vs 0 := n_v_old (by rw [hl]; decide)
  have e_3 : n_v (vs ++ [Value.int x]) 3 = n_v vs 3 := n_v_old (by rw [hl]; decide)
  have e_7 : n_v (vs ++ [Value.int x]) 7 = Value.int x := n_v_new hl
  have nf0 : fc_1 PRD (20, [7, 0], [30, 0, 1, 0, 0, -1, 1, 11]) ws (vs ++ [Value.int x]) := by
    refine ⟨nf_inA hl rfl, sgq_1395 ?_⟩
    · show 1 * v_iv (n_v (vs ++ [Value.int x]) 7) + ((-1) * w_fi ws (n_v (vs ++ [Value.int x]) 0) 11 + 0) ≤ 0
      simp only [e_0, e_7]
      exact vc_Mo_of_at_s5003_2_0 (v_iv (n_v vs 3)) (v_iv (n_v vs 4)) (v_iv (n_v vs 6)) (w_fi ws (n_v vs 0) 12) (w_fi ws (n_v vs 0) 8) (w_fi ws (n_v vs 0) 15) (w_fi ws (n_v vs 0) 11) (v_iv (Value.int x)) k3 k4 k6 f0 f1 f2 f3 f4 f5 f6 f7 kz_0_8 kz_0_11 kz_0_12 kz_0_15 ex2 ex3
  have nf1 : fc_1 PRD (23, [3, 7], [-1, 1, -1]) ws (vs ++ [Value.int x]) := by
    refine ⟨nf_inA hl rfl, sgq_211 ?_⟩
    · show 1 * v_iv (n_v (vs ++ [Value.int x]) 3) + ((-1) * v_iv (n_v (vs ++ [Value.int x]) 7) + 0) ≤ (-1)
      simp only [e_3, e_7]
      exact vc_Mo_of_at_s5003_2_1 (v_iv (n_v vs 3)) (v_iv (n_v vs 4)) (v_iv (n_v vs 6)) (w_fi ws (n_v vs 0) 12) (w_fi ws (n_v vs 0) 8) (w_fi ws (n_v vs 0) 15) (w_fi ws (n_v vs 0) 11) (v_iv (Value.int x)) k3 k4 k6 f0 f1 f2 f3 f4 f5 f6 f7 kz_0_8 kz_0_11 kz_0_12 kz_0_15 ex2 ex3
  exact ⟨(fun _ h => (by cases h)), [Value.int x], ag_one hx, List.forall_mem_cons.mpr ⟨⟨show (20 : Nat) < 100 from by decide, nf0⟩, List.forall_mem_cons.mpr ⟨⟨show (23 : Nat) < 100 from by decide, nf1⟩, (fun _ h => (by cases h))⟩⟩, (fun _ h => (by cases h))⟩
set_option maxHeartbeats 4000000 in
theorem vc_Mo_of_at_s5003_3_0 (x2 : Int) (x3 : Int) (x4 : Int) (x7 : Int) (x8 : Int) (fault_0 : Int) (from_0 : Int) (pos_0 : Int) (kind_0 : Int) (gx : Int) (k2 : 9 ≤ x2 ∧ x2 ≤ 9) (k3 : 0 ≤ x3 ∧ x3 ≤ 2000) (k4 : (-1) ≤ x4 ∧ x4 ≤ 48) (k7 : 0 ≤ x7 ∧ x7 ≤ 2000) (k8 : 0 ≤ x8 ∧ x8 ≤ 0) (f0 : 1 * x3 + ((-1) * x7 + 0) ≤ (-1)) (f1 : (-1) * x4 + 0 ≤ 0) (f2 : (1 ≤ fault_0) ∨ (0 ≤ x4)) (f3 : 1 * from_0 + ((-1) * pos_0 + 0) ≤ 0) (f4 : ((kind_0 = 1) → (pos_0 ≤ (from_0 + 8))) ∧ ((kind_0 = 0) ∨ ((from_0 + 1) ≤ pos_0))) (f5 : 1 * x7 + ((-1) * from_0 + 0) ≤ 0) (f7 : 1 * x3 + ((-1) * x7 + 0) ≤ (-1)) (f8 : (-1) * x4 + 0 ≤ 0) (kz_0_8 : 0 ≤ fault_0 ∧ fault_0 ≤ 5) (kz_0_11 : 0 ≤ pos_0 ∧ pos_0 ≤ 2000) (kz_0_12 : 0 ≤ kind_0 ∧ kind_0 ≤ 4) (kz_0_15 : 0 ≤ from_0 ∧ from_0 ≤ 2000) (ex2 : gx = 2000 + ((-1) * pos_0 + 0)) (ex3 : 0 ≤ gx ∧ gx ≤ 2000) : 1 * from_0 + ((-1) * pos_0 + 0) ≤ 0 := by
  first | assumption | (clear f2 f4; omega) | omega | grind
set_option maxHeartbeats 4000000 in
theorem vc_Mo_of_at_s5003_3_1 (x2 : Int) (x3 : Int) (x4 : Int) (x7 : Int) (x8 : Int) (fault_0 : Int) (from_0 : Int) (pos_0 : Int) (kind_0 : Int) (gx : Int) (k2 : 9 ≤ x2 ∧ x2 ≤ 9) (k3 : 0 ≤ x3 ∧ x3 ≤ 2000) (k4 : (-1) ≤ x4 ∧ x4 ≤ 48) (k7 : 0 ≤ x7 ∧ x7 ≤ 2000) (k8 : 0 ≤ x8 ∧ x8 ≤ 0) (f0 : 1 * x3 + ((-1) * x7 + 0) ≤ (-1)) (f1 : (-1) * x4 + 0 ≤ 0) (f2 : (1 ≤ fault_0) ∨ (0 ≤ x4)) (f3 : 1 * from_0 + ((-1) * pos_0 + 0) ≤ 0) (f4 : ((kind_0 = 1) → (pos_0 ≤ (from_0 + 8))) ∧ ((kind_0 = 0) ∨ ((from_0 + 1) ≤ pos_0))) (f5 : 1 * x7 + ((-1) * from_0 + 0) ≤ 0) (f7 : 1 * x3 + ((-1) * x7 + 0) ≤ (-1)) (f8 : (-1) * x4 + 0 ≤ 0) (kz_0_8 : 0 ≤ fault_0 ∧ fault_0 ≤ 5) (kz_0_11 : 0 ≤ pos_0 ∧ pos_0 ≤ 2000) (kz_0_12 : 0 ≤ kind_0 ∧ kind_0 ≤ 4) (kz_0_15 : 0 ≤ from_0 ∧ from_0 ≤ 2000) (ex2 : gx = 2000 + ((-1) * pos_0 + 0)) (ex3 : 0 ≤ gx ∧ gx ≤ 2000) : ((kind_0 = 1) → (pos_0 ≤ (from_0 + 8))) ∧ ((kind_0 = 0) ∨ ((from_0 + 1) ≤ pos_0)) := by
  first | assumption | (clear f2 f4; omega) | omega | grind
set_option maxHeartbeats 4000000 in
theorem vc_Mo_of_at_s5003_3_2 (x2 : Int) (x3 : Int) (x4 : Int) (x7 : Int) (x8 : Int) (fault_0 : Int) (from_0 : Int) (pos_0 : Int) (kind_0 : Int) (gx : Int) (k2 : 9 ≤ x2 ∧ x2 ≤ 9) (k3 : 0 ≤ x3 ∧ x3 ≤ 2000) (k4 : (-1) ≤ x4 ∧ x4 ≤ 48) (k7 : 0 ≤ x7 ∧ x7 ≤ 2000) (k8 : 0 ≤ x8 ∧ x8 ≤ 0) (f0 : 1 * x3 + ((-1) * x7 + 0) ≤ (-1)) (f1 : (-1) * x4 + 0 ≤ 0) (f2 : (1 ≤ fault_0) ∨ (0 ≤ x4)) (f3 : 1 * from_0 + ((-1) * pos_0 + 0) ≤ 0) (f4 : ((kind_0 = 1) → (pos_0 ≤ (from_0 + 8))) ∧ ((kind_0 = 0) ∨ ((from_0 + 1) ≤ pos_0))) (f5 : 1 * x7 + ((-1) * from_0 + 0) ≤ 0) (f7 : 1 * x3 + ((-1) * x7 + 0) ≤ (-1)) (f8 : (-1) * x4 + 0 ≤ 0) (kz_0_8 : 0 ≤ fault_0 ∧ fault_0 ≤ 5) (kz_0_11 : 0 ≤ pos_0 ∧ pos_0 ≤ 2000) (kz_0_12 : 0 ≤ kind_0 ∧ kind_0 ≤ 4) (kz_0_15 : 0 ≤ from_0 ∧ from_0 ≤ 2000) (ex2 : gx = 2000 + ((-1) * pos_0 + 0)) (ex3 : 0 ≤ gx ∧ gx ≤ 2000) : 1 * x3 + ((-1) * pos_0 + 0) ≤ (-1) := by
  first | assumption | (clear f2 f4; omega) | omega | grind
set_option maxHeartbeats 4000000 in
theorem vc_Mo_of_at_s5003_3_3 (x2 : Int) (x3 : Int) (x4 : Int) (x7 : Int) (x8 : Int) (fault_0 : Int) (from_0 : Int) (pos_0 : Int) (kind_0 : Int) (gx : Int) (k2 : 9 ≤ x2 ∧ x2 ≤ 9) (k3 : 0 ≤ x3 ∧ x3 ≤ 2000) (k4 : (-1) ≤ x4 ∧ x4 ≤ 48) (k7 : 0 ≤ x7 ∧ x7 ≤ 2000) (k8 : 0 ≤ x8 ∧ x8 ≤ 0) (f0 : 1 * x3 + ((-1) * x7 + 0) ≤ (-1)) (f1 : (-1) * x4 + 0 ≤ 0) (f2 : (1 ≤ fault_0) ∨ (0 ≤ x4)) (f3 : 1 * from_0 + ((-1) * pos_0 + 0) ≤ 0) (f4 : ((kind_0 = 1) → (pos_0 ≤ (from_0 + 8))) ∧ ((kind_0 = 0) ∨ ((from_0 + 1) ≤ pos_0))) (f5 : 1 * x7 + ((-1) * from_0 + 0) ≤ 0) (f7 : 1 * x3 + ((-1) * x7 + 0) ≤ (-1)) (f8 : (-1) * x4 + 0 ≤ 0) (kz_0_8 : 0 ≤ fault_0 ∧ fault_0 ≤ 5) (kz_0_11 : 0 ≤ pos_0 ∧ pos_0 ≤ 2000) (kz_0_12 : 0 ≤ kind_0 ∧ kind_0 ≤ 4) (kz_0_15 : 0 ≤ from_0 ∧ from_0 ≤ 2000) (ex2 : gx = 2000 + ((-1) * pos_0 + 0)) (ex3 : 0 ≤ gx ∧ gx ≤ 2000) : 1 * x8 + ((-1) * x2 + 0) ≤ 0 := by
  first | assumption | (clear f2 f4; omega) | omega | grind
set_option maxHeartbeats 4000000 in
theorem vc_Mo_of_at_s5003_3_4 (x2 : Int) (x3 : Int) (x4 : Int) (x7 : Int) (x8 : Int) (fault_0 : Int) (from_0 : Int) (pos_0 : Int) (kind_0 : Int) (gx : Int) (k2 : 9 ≤ x2 ∧ x2 ≤ 9) (k3 : 0 ≤ x3 ∧ x3 ≤ 2000) (k4 : (-1) ≤ x4 ∧ x4 ≤ 48) (k7 : 0 ≤ x7 ∧ x7 ≤ 2000) (k8 : 0 ≤ x8 ∧ x8 ≤ 0) (f0 : 1 * x3 + ((-1) * x7 + 0) ≤ (-1)) (f1 : (-1) * x4 + 0 ≤ 0) (f2 : (1 ≤ fault_0) ∨ (0 ≤ x4)) (f3 : 1 * from_0 + ((-1) * pos_0 + 0) ≤ 0) (f4 : ((kind_0 = 1) → (pos_0 ≤ (from_0 + 8))) ∧ ((kind_0 = 0) ∨ ((from_0 + 1) ≤ pos_0))) (f5 : 1 * x7 + ((-1) * from_0 + 0) ≤ 0) (f7 : 1 * x3 + ((-1) * x7 + 0) ≤ (-1)) (f8 : (-1) * x4 + 0 ≤ 0) (kz_0_8 : 0 ≤ fault_0 ∧ fault_0 ≤ 5) (kz_0_11 : 0 ≤ pos_0 ∧ pos_0 ≤ 2000) (kz_0_12 : 0 ≤ kind_0 ∧ kind_0 ≤ 4) (kz_0_15 : 0 ≤ from_0 ∧ from_0 ≤ 2000) (ex2 : gx = 2000 + ((-1) * pos_0 + 0)) (ex3 : 0 ≤ gx ∧ gx ≤ 2000) : (-1) * x8 + 0 ≤ 0 := by
  first | assumption | (clear f2 f4; omega) | omega | grind
set_option maxHeartbeats 4000000 in
theorem vc_Mo_of_at_s5003_3_5 (x2 : Int) (x3 : Int) (x4 : Int) (x7 : Int) (x8 : Int) (fault_0 : Int) (from_0 : Int) (pos_0 : Int) (kind_0 : Int) (gx : Int) (k2 : 9 ≤ x2 ∧ x2 ≤ 9) (k3 : 0 ≤ x3 ∧ x3 ≤ 2000) (k4 : (-1) ≤ x4 ∧ x4 ≤ 48) (k7 : 0 ≤ x7 ∧ x7 ≤ 2000) (k8 : 0 ≤ x8 ∧ x8 ≤ 0) (f0 : 1 * x3 + ((-1) * x7 + 0) ≤ (-1)) (f1 : (-1) * x4 + 0 ≤ 0) (f2 : (1 ≤ fault_0) ∨ (0 ≤ x4)) (f3 : 1 * from_0 + ((-1) * pos_0 + 0) ≤ 0) (f4 : ((kind_0 = 1) → (pos_0 ≤ (from_0 + 8))) ∧ ((kind_0 = 0) ∨ ((from_0 + 1) ≤ pos_0))) (f5 : 1 * x7 + ((-1) * from_0 + 0) ≤ 0) (f7 : 1 * x3 + ((-1) * x7 + 0) ≤ (-1)) (f8 : (-1) * x4 + 0 ≤ 0) (kz_0_8 : 0 ≤ fault_0 ∧ fault_0 ≤ 5) (kz_0_11 : 0 ≤ pos_0 ∧ pos_0 ≤ 2000) (kz_0_12 : 0 ≤ kind_0 ∧ kind_0 ≤ 4) (kz_0_15 : 0 ≤ from_0 ∧ from_0 ≤ 2000) (ex2 : gx = 2000 + ((-1) * pos_0 + 0)) (ex3 : 0 ≤ gx ∧ gx ≤ 2000) : (-1) * x4 + 0 ≤ 0 := by
  first | assumption | (clear f2 f4; omega) | omega | grind
set_option maxHeartbeats 4000000 in
theorem vc_Mo_of_at_s5003_3_8 (x2 : Int) (x3 : Int) (x4 : Int) (x7 : Int) (x8 : Int) (fault_0 : Int) (from_0 : Int) (pos_0 : Int) (kind_0 : Int) (gx : Int) (k2 : 9 ≤ x2 ∧ x2 ≤ 9) (k3 : 0 ≤ x3 ∧ x3 ≤ 2000) (k4 : (-1) ≤ x4 ∧ x4 ≤ 48) (k7 : 0 ≤ x7 ∧ x7 ≤ 2000) (k8 : 0 ≤ x8 ∧ x8 ≤ 0) (f0 : 1 * x3 + ((-1) * x7 + 0) ≤ (-1)) (f1 : (-1) * x4 + 0 ≤ 0) (f2 : (1 ≤ fault_0) ∨ (0 ≤ x4)) (f3 : 1 * from_0 + ((-1) * pos_0 + 0) ≤ 0) (f4 : ((kind_0 = 1) → (pos_0 ≤ (from_0 + 8))) ∧ ((kind_0 = 0) ∨ ((from_0 + 1) ≤ pos_0))) (f5 : 1 * x7 + ((-1) * from_0 + 0) ≤ 0) (f7 : 1 * x3 + ((-1) * x7 + 0) ≤ (-1)) (f8 : (-1) * x4 + 0 ≤ 0) (kz_0_8 : 0 ≤ fault_0 ∧ fault_0 ≤ 5) (kz_0_11 : 0 ≤ pos_0 ∧ pos_0 ≤ 2000) (kz_0_12 : 0 ≤ kind_0 ∧ kind_0 ≤ 4) (kz_0_15 : 0 ≤ from_0 ∧ from_0 ≤ 2000) (ex2 : gx = 2000 + ((-1) * pos_0 + 0)) (ex3 : 0 ≤ gx ∧ gx ≤ 2000) : 1 * gx + (1 * pos_0 + 0) ≤ 2000 := by
  first | assumption | (clear f2 f4; omega) | omega | grind
set_option maxHeartbeats 4000000 in
theorem vc_Mo_of_at_s5003_3_9 (x2 : Int) (x3 : Int) (x4 : Int) (x7 : Int) (x8 : Int) (fault_0 : Int) (from_0 : Int) (pos_0 : Int) (kind_0 : Int) (gx : Int) (k2 : 9 ≤ x2 ∧ x2 ≤ 9) (k3 : 0 ≤ x3 ∧ x3 ≤ 2000) (k4 : (-1) ≤ x4 ∧ x4 ≤ 48) (k7 : 0 ≤ x7 ∧ x7 ≤ 2000) (k8 : 0 ≤ x8 ∧ x8 ≤ 0) (f0 : 1 * x3 + ((-1) * x7 + 0) ≤ (-1)) (f1 : (-1) * x4 + 0 ≤ 0) (f2 : (1 ≤ fault_0) ∨ (0 ≤ x4)) (f3 : 1 * from_0 + ((-1) * pos_0 + 0) ≤ 0) (f4 : ((kind_0 = 1) → (pos_0 ≤ (from_0 + 8))) ∧ ((kind_0 = 0) ∨ ((from_0 + 1) ≤ pos_0))) (f5 : 1 * x7 + ((-1) * from_0 + 0) ≤ 0) (f7 : 1 * x3 + ((-1) * x7 + 0) ≤ (-1)) (f8 : (-1) * x4 + 0 ≤ 0) (kz_0_8 : 0 ≤ fault_0 ∧ fault_0 ≤ 5) (kz_0_11 : 0 ≤ pos_0 ∧ pos_0 ≤ 2000) (kz_0_12 : 0 ≤ kind_0 ∧ kind_0 ≤ 4) (kz_0_15 : 0 ≤ from_0 ∧ from_0 ≤ 2000) (ex2 : gx = 2000 + ((-1) * pos_0 + 0)) (ex3 : 0 ≤ gx ∧ gx ≤ 2000) : (-1) * gx + ((-1) * pos_0 + 0) ≤ (-2000) := by
  first | assumption | (clear f2 f4; omega) | omega | grind
def o_Mo_of_at_s5003_3 : or_T := (17, 9, [(0, (2, 0, 0, [165])), (2, (0, 9, 9, [])), (3, (0, 0, 2000, [])), (4, (0, -1, 48, [])), (7, (0, 0, 2000, [])), (8, (0, 0, 0, []))], [(23, [3, 7], [-1, 1, -1]), (23, [4], [0, -1]), (20, [0, 4], [50, 1, 0, 8, 3, 7, 0, 2, 0, 1, 2, 0, 8, 0, 2, 0, 0, 1, 1]), (20, [0, 0], [30, 0, 1, 1, 15, -1, 1, 11]), (20, [0], [50, 3, 0, 12, 11, 15, 2, 21, 4, 7, 1, 3, 2, 0, 12, 0, 1, 0, 3, 2, 0, 11, 4, 3, 2, 0, 15, 0, 8, 3, 7, 1, 3, 2, 0, 12, 0, 0, 0, 7, 4, 3, 2, 0, 15, 0, 1, 2, 0, 11]), (20, [7, 0], [30, 0, 1, 0, 0, -1, 1, 15]), (102, [7], [0, 165011, 165012, 165013, 165014, 165015]), (23, [3, 7], [-1, 1, -1]), (23, [4], [0, -1])], [], [(0, 0, 2000, [])], [(20, [0, 0], [30, 0, 1, 1, 15, -1, 1, 11]), (20, [0], [50, 3, 0, 12, 11, 15, 2, 21, 4, 7, 1, 3, 2, 0, 12, 0, 1, 0, 3, 2, 0, 11, 4, 3, 2, 0, 15, 0, 8, 3, 7, 1, 3, 2, 0, 12, 0, 0, 0, 7, 4, 3, 2, 0, 15, 0, 1, 2, 0, 11]), (20, [3, 0], [30, -1, 1, 0, 0, -1, 1, 11]), (23, [8, 2], [0, 1, -1]), (23, [8], [0, -1]), (23, [4], [0, -1]), (24, [0, 0], []), (24, [2, 2], []), (20, [9, 0], [30, 2000, 1, 0, 0, 1, 1, 11]), (20, [9, 0], [30, -2000, -1, 0, 0, -1, 1, 11])], [], [])
theorem oo_Mo_of_at_s5003_3 {kA : Nat → ClassId} : or_ok PRD kA GG o_Mo_of_at_s5003_3 := by
  refine or_mk fun A ta ws vs hD hth hl => ?_
  intro t0 r0 t2 k2 t3 k3 t4 k4 t7 k7 t8 k8 f0 f1 f2 f3 f4 f5 ta1 w1 le1 s1 f7 f8
  replace f0 := shm_211 f0
  replace f1 := shm_1013 f1
  replace f2 := shm_1889 f2
  replace f3 := shm_1397 f3
  replace f4 := shm_1398 f4
  replace f5 := shm_1396 f5
  replace f7 := shm_211 f7
  replace f8 := shm_1013 f8
  have kz_0_8 := fdq_14 hD hth r0
  have kz_0_11 := fdq_273 hD hth r0
  have kz_0_12 := fdq_186 hD hth r0
  have kz_0_15 := fdq_274 hD hth r0
  obtain ⟨x, ex, hx⟩ := iv_ex (ta := ta) (lo := 0) (hi := 2000) (z := 2000 + ((-1) * w_fi ws (n_v vs 0) 11 + 0)) (by omega) (by omega) (by omega) (by omega)
  have ex2 : v_iv (Value.int x) = 2000 + ((-1) * w_fi ws (n_v vs 0) 11 + 0) := ex
  have ex3 : 0 ≤ v_iv (Value.int x) ∧ v_iv (Value.int x) ≤ 2000 := tv_rng hx
  have e_0 : n_v (vs ++ [Value.int x]) 0 = n_v vs 0 := n_v_old (by rw [hl]; decide)
  have e_2 : n_v (vs ++ [Value.int x]) 2 = n_v vs 2 := n_v_old (by rw [hl]; decide)
  have e_3 : n_v (vs ++ [Value.int x]) 3 = n_v vs 3 := n_v_old (by rw [hl]; decide)
  have e_4 : n_v (vs ++ [Value.int x]) 4 = n_v vs 4 := n_v_old (by rw [hl]; decide)
  have e_8 : n_v (vs ++ [Value.int x]) 8 = n_v vs 8 := n_v_old (by rw [hl]; decide)
  have e_9 : n_v (vs ++ [Value.int x]) 9 = Value.int x := n_v_new hl
  have nf0 : fc_1 PRD (20, [0, 0], [30, 0, 1, 1, 15, -1, 1, 11]) ws (vs ++ [Value.int x]) := by
    refine ⟨nf_inA hl rfl, sgq_1397 ?_⟩
    · show 1 * w_fi ws (n_v (vs ++ [Value.int x]) 0) 15 + ((-1) * w_fi ws (n_v (vs ++ [Value.int x]) 0) 11 + 0) ≤ 0
      rw [e_0]
      exact vc_Mo_of_at_s5003_3_0 (v_iv (n_v vs 2)) (v_iv (n_v vs 3)) (v_iv (n_v vs 4)) (v_iv (n_v vs 7)) (v_iv (n_v vs 8)) (w_fi ws (n_v vs 0) 8) (w_fi ws (n_v vs 0) 15) (w_fi ws (n_v vs 0) 11) (w_fi ws (n_v vs 0) 12) (v_iv (Value.int x)) k2 k3 k4 k7 k8 f0 f1 f2 f3 f4 f5 f7 f8 kz_0_8 kz_0_11 kz_0_12 kz_0_15 ex2 ex3
  have nf1 : fc_1 PRD (20, [0], [50, 3, 0, 12, 11, 15, 2, 21, 4, 7, 1, 3, 2, 0, 12, 0, 1, 0, 3, 2, 0, 11, 4, 3, 2, 0, 15, 0, 8, 3, 7, 1, 3, 2, 0, 12, 0, 0, 0, 7, 4, 3, 2, 0, 15, 0, 1, 2, 0, 11]) ws (vs ++ [Value.int x]) := by
    refine ⟨nf_inA hl rfl, sgq_1398 ?_⟩
    · show ((w_fi ws (n_v (vs ++ [Value.int x]) 0) 12 = 1) → (w_fi ws (n_v (vs ++ [Value.int x]) 0) 11 ≤ (w_fi ws (n_v (vs ++ [Value.int x]) 0) 15 + 8))) ∧ ((w_fi ws (n_v (vs ++ [Value.int x]) 0) 12 = 0) ∨ ((w_fi ws (n_v (vs ++ [Value.int x]) 0) 15 + 1) ≤ w_fi ws (n_v (vs ++ [Value.int x]) 0) 11))
      rw [e_0]
      exact vc_Mo_of_at_s5003_3_1 (v_iv (n_v vs 2)) (v_iv (n_v vs 3)) (v_iv (n_v vs 4)) (v_iv (n_v vs 7)) (v_iv (n_v vs 8)) (w_fi ws (n_v vs 0) 8) (w_fi ws (n_v vs 0) 15) (w_fi ws (n_v vs 0) 11) (w_fi ws (n_v vs 0) 12) (v_iv (Value.int x)) k2 k3 k4 k7 k8 f0 f1 f2 f3 f4 f5 f7 f8 kz_0_8 kz_0_11 kz_0_12 kz_0_15 ex2 ex3
  have nf2 : fc_1 PRD (20, [3, 0], [30, -1, 1, 0, 0, -1, 1, 11]) ws (vs ++ [Value.int x]) := by
    refine ⟨nf_inA hl rfl, sgq_1891 ?_⟩
    · show 1 * v_iv (n_v (vs ++ [Value.int x]) 3) + ((-1) * w_fi ws (n_v (vs ++ [Value.int x]) 0) 11 + 0) ≤ (-1)
      simp only [e_0, e_3]
      exact vc_Mo_of_at_s5003_3_2 (v_iv (n_v vs 2)) (v_iv (n_v vs 3)) (v_iv (n_v vs 4)) (v_iv (n_v vs 7)) (v_iv (n_v vs 8)) (w_fi ws (n_v vs 0) 8) (w_fi ws (n_v vs 0) 15) (w_fi ws (n_v vs 0) 11) (w_fi ws (n_v vs 0) 12) (v_iv (Value.int x)) k2 k3 k4 k7 k8 f0 f1 f2 f3 f4 f5 f7 f8 kz_0_8 kz_0_11 kz_0_12 kz_0_15 ex2 ex3
  have nf3 : fc_1 PRD (23, [8, 2], [0, 1, -1]) ws (vs ++ [Value.int x]) := by
    refine ⟨nf_inA hl rfl, sgq_7 ?_⟩
    · show 1 * v_iv (n_v (vs ++ [Value.int x]) 8) + ((-1) * v_iv (n_v (vs ++ [Value.int x]) 2) + 0) ≤ 0
      simp only [e_2, e_8]
      exact vc_Mo_of_at_s5003_3_3 (v_iv (n_v vs 2)) (v_iv (n_v vs 3)) (v_iv (n_v vs 4)) (v_iv (n_v vs 7)) (v_iv (n_v vs 8)) (w_fi ws (n_v vs 0) 8) (w_fi ws (n_v vs 0) 15) (w_fi ws (n_v vs 0) 11) (w_fi ws (n_v vs 0) 12) (v_iv (Value.int x)) k2 k3 k4 k7 k8 f0 f1 f2 f3 f4 f5 f7 f8 kz_0_8 kz_0_11 kz_0_12 kz_0_15 ex2 ex3
  have nf4 : fc_1 PRD (23, [8], [0, -1]) ws (vs ++ [Value.int x]) := by
    refine ⟨nf_inA hl rfl, sgq_1013 ?_⟩
    · show (-1) * v_iv (n_v (vs ++ [Value.int x]) 8) + 0 ≤ 0
      rw [e_8]
      exact vc_Mo_of_at_s5003_3_4 (v_iv (n_v vs 2)) (v_iv (n_v vs 3)) (v_iv (n_v vs 4)) (v_iv (n_v vs 7)) (v_iv (n_v vs 8)) (w_fi ws (n_v vs 0) 8) (w_fi ws (n_v vs 0) 15) (w_fi ws (n_v vs 0) 11) (w_fi ws (n_v vs 0) 12) (v_iv (Value.int x)) k2 k3 k4 k7 k8 f0 f1 f2 f3 f4 f5 f7 f8 kz_0_8 kz_0_11 kz_0_12 kz_0_15 ex2 ex3
  have nf5 : fc_1 PRD (23, [4], [0, -1]) ws (vs ++ [Value.int x]) := by
    refine ⟨nf_inA hl rfl, sgq_1013 ?_⟩
    · show (-1) * v_iv (n_v (vs ++ [Value.int x]) 4) + 0 ≤ 0
      rw [e_4]
      exact vc_Mo_of_at_s5003_3_5 (v_iv (n_v vs 2)) (v_iv (n_v vs 3)) (v_iv (n_v vs 4)) (v_iv (n_v vs 7)) (v_iv (n_v vs 8)) (w_fi ws (n_v vs 0) 8) (w_fi ws (n_v vs 0) 15) (w_fi ws (n_v vs 0) 11) (w_fi ws (n_v vs 0) 12) (v_iv (Value.int x)) k2 k3 k4 k7 k8 f0 f1 f2 f3 f4 f5 f7 f8 kz_0_8 kz_0_11 kz_0_12 kz_0_15 ex2 ex3
  have nf6 : fc_1 PRD (24, [0, 0], []) ws (vs ++ [Value.int x]) := by
    refine ⟨nf_inA hl rfl, sgq_1 ?_⟩
    · show n_v (vs ++ [Value.int x]) 0 = n_v (vs ++ [Value.int x]) 0
      first | rfl | simp only [e_0]
  have nf7 : fc_1 PRD (24, [2, 2], []) ws (vs ++ [Value.int x]) := by
    refine ⟨nf_inA hl rfl, sgq_1 ?_⟩
    · show n_v (vs ++ [Value.int x]) 2 = n_v (vs ++ [Value.int x]) 2
      first | rfl | simp only [e_2]
  have nf8 : fc_1 PRD (20, [9, 0], [30, 2000, 1, 0, 0, 1, 1, 11]) ws (vs ++ [Value.int x]) := by
    refine ⟨nf_inA hl rfl, sgq_1892 ?_⟩
    · show 1 * v_iv (n_v (vs ++ [Value.int x]) 9) + (1 * w_fi ws (n_v (vs ++ [Value.int x]) 0) 11 + 0) ≤ 2000
      simp only [e_0, e_9]
      exact vc_Mo_of_at_s5003_3_8 (v_iv (n_v vs 2)) (v_iv (n_v vs 3)) (v_iv (n_v vs 4)) (v_iv (n_v vs 7)) (v_iv (n_v vs 8)) (w_fi ws (n_v vs 0) 8) (w_fi ws (n_v vs 0) 15) (w_fi ws (n_v vs 0) 11) (w_fi ws (n_v vs 0) 12) (v_iv (Value.int x)) k2 k3 k4 k7 k8 f0 f1 f2 f3 f4 f5 f7 f8 kz_0_8 kz_0_11 kz_0_12 kz_0_15 ex2 ex3
  have nf9 : fc_1 PRD (20, [9, 0], [30, -2000, -1, 0, 0, -1, 1, 11]) ws (vs ++ [Value.int x]) := by
    refine ⟨nf_inA hl rfl, sgq_1893 ?_⟩
    · show (-1) * v_iv (n_v (vs ++ [Value.int x]) 9) + ((-1) * w_fi ws (n_v (vs ++ [Value.int x]) 0) 11 + 0) ≤ (-2000)
      simp only [e_0, e_9]
      exact vc_Mo_of_at_s5003_3_9 (v_iv (n_v vs 2)) (v_iv (n_v vs 3)) (v_iv (n_v vs 4)) (v_iv (n_v vs 7)) (v_iv (n_v vs 8)) (w_fi ws (n_v vs 0) 8) (w_fi ws (n_v vs 0) 15) (w_fi ws (n_v vs 0) 11) (w_fi ws (n_v vs 0) 12) (v_iv (Value.int x)) k2 k3 k4 k7 k8 f0 f1 f2 f3 f4 f5 f7 f8 kz_0_8 kz_0_11 kz_0_12 kz_0_15 ex2 ex3
  exact ⟨(fun _ h => (by cases h)), [Value.int x], ag_one hx, List.forall_mem_cons.mpr ⟨⟨show (20 : Nat) < 100 from by decide, nf0⟩, List.forall_mem_cons.mpr ⟨⟨show (20 : Nat) < 100 from by decide, nf1⟩, List.forall_mem_cons.mpr ⟨⟨show (20 : Nat) < 100 from by decide, nf2⟩, List.forall_mem_cons.mpr ⟨⟨show (23 : Nat) < 100 from by decide, nf3⟩, List.forall_mem_cons.mpr ⟨⟨show (23 : Nat) < 100 from by decide, nf4⟩, List.forall_mem_cons.mpr ⟨⟨show (23 : Nat) < 100 from by decide, nf5⟩, List.forall_mem_cons.mpr ⟨⟨show (24 : Nat) < 100 from by decide, nf6⟩, List.forall_mem_cons.mpr ⟨⟨show (24 : Nat) < 100 from by decide, nf7⟩, List.forall_mem_cons.mpr ⟨⟨show (20 : Nat) < 100 from by decide, nf8⟩, List.forall_mem_cons.mpr ⟨⟨show (20 : Nat) < 100 from by decide, nf9⟩, (fun _ h => (by cases h))⟩⟩⟩⟩⟩⟩⟩⟩⟩⟩, (fun _ h => (by cases h))⟩
set_option maxHeartbeats 4000000 in
theorem vc_Mo_of_at_s5003_4_0 (x2 : Int) (x3 : Int) (x4 : Int) (x7 : Int) (x9 : Int) (x12 : Int) (x15 : Int) (from_0 : Int) (pos_0 : Int) (kind_0 : Int) (fault_0 : Int) (k2 : 9 ≤ x2 ∧ x2 ≤ 9) (k3 : 0 ≤ x3 ∧ x3 ≤ 2000) (k4 : (-1) ≤ x4 ∧ x4 ≤ 48) (k7 : 9 ≤ x7 ∧ x7 ≤ 9) (k9 : 0 ≤ x9 ∧ x9 ≤ 2000) (k12 : 0 ≤ x12 ∧ x12 ≤ 0) (k15 : 0 ≤ x15 ∧ x15 ≤ 0) (f0 : 1 * from_0 + ((-1) * pos_0 + 0) ≤ 0) (f1 : ((kind_0 = 1) → (pos_0 ≤ (from_0 + 8))) ∧ ((kind_0 = 0) ∨ ((from_0 + 1) ≤ pos_0))) (f2 : 1 * x3 + ((-1) * pos_0 + 0) ≤ (-1)) (f3 : (-1) * x4 + 0 ≤ 0) (f6 : 1 * x9 + (1 * pos_0 + 0) ≤ 2000) (f7 : (-1) * x9 + ((-1) * pos_0 + 0) ≤ (-2000)) (f8 : (x12 = 1) → (kind_0 = 1)) (f9 : (-1) * fault_0 + 0 ≤ (-1)) (f11 : x12 = 0) (f12 : (-1) * x4 + 0 ≤ 0) (f14 : (-1) * x4 + 0 ≤ 0) (kz_0_8 : 0 ≤ fault_0 ∧ fault_0 ≤ 5) (kz_0_11 : 0 ≤ pos_0 ∧ pos_0 ≤ 2000) (kz_0_12 : 0 ≤ kind_0 ∧ kind_0 ≤ 4) (kz_0_15 : 0 ≤ from_0 ∧ from_0 ≤ 2000) : 1 * from_0 + ((-1) * pos_0 + 0) ≤ 0 := by
  first | assumption | (clear f1 f8; omega) | omega | grind
set_option maxHeartbeats 4000000 in
theorem vc_Mo_of_at_s5003_4_1 (x2 : Int) (x3 : Int) (x4 : Int) (x7 : Int) (x9 : Int) (x12 : Int) (x15 : Int) (from_0 : Int) (pos_0 : Int) (kind_0 : Int) (fault_0 : Int) (k2 : 9 ≤ x2 ∧ x2 ≤ 9) (k3 : 0 ≤ x3 ∧ x3 ≤ 2000) (k4 : (-1) ≤ x4 ∧ x4 ≤ 48) (k7 : 9 ≤ x7 ∧ x7 ≤ 9) (k9 : 0 ≤ x9 ∧ x9 ≤ 2000) (k12 : 0 ≤ x12 ∧ x12 ≤ 0) (k15 : 0 ≤ x15 ∧ x15 ≤ 0) (f0 : 1 * from_0 + ((-1) * pos_0 + 0) ≤ 0) (f1 : ((kind_0 = 1) → (pos_0 ≤ (from_0 + 8))) ∧ ((kind_0 = 0) ∨ ((from_0 + 1) ≤ pos_0))) (f2 : 1 * x3 + ((-1) * pos_0 + 0) ≤ (-1)) (f3 : (-1) * x4 + 0 ≤ 0) (f6 : 1 * x9 + (1 * pos_0 + 0) ≤ 2000) (f7 : (-1) * x9 + ((-1) * pos_0 + 0) ≤ (-2000)) (f8 : (x12 = 1) → (kind_0 = 1)) (f9 : (-1) * fault_0 + 0 ≤ (-1)) (f11 : x12 = 0) (f12 : (-1) * x4 + 0 ≤ 0) (f14 : (-1) * x4 + 0 ≤ 0) (kz_0_8 : 0 ≤ fault_0 ∧ fault_0 ≤ 5) (kz_0_11 : 0 ≤ pos_0 ∧ pos_0 ≤ 2000) (kz_0_12 : 0 ≤ kind_0 ∧ kind_0 ≤ 4) (kz_0_15 : 0 ≤ from_0 ∧ from_0 ≤ 2000) : ((kind_0 = 1) → (pos_0 ≤ (from_0 + 8))) ∧ ((kind_0 = 0) ∨ ((from_0 + 1) ≤ pos_0)) := by
  first | assumption | (clear f1 f8; omega) | omega | grind
set_option maxHeartbeats 4000000 in
theorem vc_Mo_of_at_s5003_4_2 (x2 : Int) (x3 : Int) (x4 : Int) (x7 : Int) (x9 : Int) (x12 : Int) (x15 : Int) (from_0 : Int) (pos_0 : Int) (kind_0 : Int) (fault_0 : Int) (k2 : 9 ≤ x2 ∧ x2 ≤ 9) (k3 : 0 ≤ x3 ∧ x3 ≤ 2000) (k4 : (-1) ≤ x4 ∧ x4 ≤ 48) (k7 : 9 ≤ x7 ∧ x7 ≤ 9) (k9 : 0 ≤ x9 ∧ x9 ≤ 2000) (k12 : 0 ≤ x12 ∧ x12 ≤ 0) (k15 : 0 ≤ x15 ∧ x15 ≤ 0) (f0 : 1 * from_0 + ((-1) * pos_0 + 0) ≤ 0) (f1 : ((kind_0 = 1) → (pos_0 ≤ (from_0 + 8))) ∧ ((kind_0 = 0) ∨ ((from_0 + 1) ≤ pos_0))) (f2 : 1 * x3 + ((-1) * pos_0 + 0) ≤ (-1)) (f3 : (-1) * x4 + 0 ≤ 0) (f6 : 1 * x9 + (1 * pos_0 + 0) ≤ 2000) (f7 : (-1) * x9 + ((-1) * pos_0 + 0) ≤ (-2000)) (f8 : (x12 = 1) → (kind_0 = 1)) (f9 : (-1) * fault_0 + 0 ≤ (-1)) (f11 : x12 = 0) (f12 : (-1) * x4 + 0 ≤ 0) (f14 : (-1) * x4 + 0 ≤ 0) (kz_0_8 : 0 ≤ fault_0 ∧ fault_0 ≤ 5) (kz_0_11 : 0 ≤ pos_0 ∧ pos_0 ≤ 2000) (kz_0_12 : 0 ≤ kind_0 ∧ kind_0 ≤ 4) (kz_0_15 : 0 ≤ from_0 ∧ from_0 ≤ 2000) : 1 * x3 + ((-1) * pos_0 + 0) ≤ 0 := by
  first | assumption | (clear f1 f8; omega) | omega | grind
set_option maxHeartbeats 4000000 in
theorem vc_Mo_of_at_s5003_4_3 (x2 : Int) (x3 : Int) (x4 : Int) (x7 : Int) (x9 : Int) (x12 : Int) (x15 : Int) (from_0 : Int) (pos_0 : Int) (kind_0 : Int) (fault_0 : Int) (k2 : 9 ≤ x2 ∧ x2 ≤ 9) (k3 : 0 ≤ x3 ∧ x3 ≤ 2000) (k4 : (-1) ≤ x4 ∧ x4 ≤ 48) (k7 : 9 ≤ x7 ∧ x7 ≤ 9) (k9 : 0 ≤ x9 ∧ x9 ≤ 2000) (k12 : 0 ≤ x12 ∧ x12 ≤ 0) (k15 : 0 ≤ x15 ∧ x15 ≤ 0) (f0 : 1 * from_0 + ((-1) * pos_0 + 0) ≤ 0) (f1 : ((kind_0 = 1) → (pos_0 ≤ (from_0 + 8))) ∧ ((kind_0 = 0) ∨ ((from_0 + 1) ≤ pos_0))) (f2 : 1 * x3 + ((-1) * pos_0 + 0) ≤ (-1)) (f3 : (-1) * x4 + 0 ≤ 0) (f6 : 1 * x9 + (1 * pos_0 + 0) ≤ 2000) (f7 : (-1) * x9 + ((-1) * pos_0 + 0) ≤ (-2000)) (f8 : (x12 = 1) → (kind_0 = 1)) (f9 : (-1) * fault_0 + 0 ≤ (-1)) (f11 : x12 = 0) (f12 : (-1) * x4 + 0 ≤ 0) (f14 : (-1) * x4 + 0 ≤ 0) (kz_0_8 : 0 ≤ fault_0 ∧ fault_0 ≤ 5) (kz_0_11 : 0 ≤ pos_0 ∧ pos_0 ≤ 2000) (kz_0_12 : 0 ≤ kind_0 ∧ kind_0 ≤ 4) (kz_0_15 : 0 ≤ from_0 ∧ from_0 ≤ 2000) : (1 ≤ fault_0) ∨ ((kind_0 = 0) ∨ ((x3 + 1) ≤ pos_0)) := by
  first | assumption | (clear f1 f8; omega) | omega | grind
set_option maxHeartbeats 4000000 in
theorem vc_Mo_of_at_s5003_4_4 (x2 : Int) (x3 : Int) (x4 : Int) (x7 : Int) (x9 : Int) (x12 : Int) (x15 : Int) (from_0 : Int) (pos_0 : Int) (kind_0 : Int) (fault_0 : Int) (k2 : 9 ≤ x2 ∧ x2 ≤ 9) (k3 : 0 ≤ x3 ∧ x3 ≤ 2000) (k4 : (-1) ≤ x4 ∧ x4 ≤ 48) (k7 : 9 ≤ x7 ∧ x7 ≤ 9) (k9 : 0 ≤ x9 ∧ x9 ≤ 2000) (k12 : 0 ≤ x12 ∧ x12 ≤ 0) (k15 : 0 ≤ x15 ∧ x15 ≤ 0) (f0 : 1 * from_0 + ((-1) * pos_0 + 0) ≤ 0) (f1 : ((kind_0 = 1) → (pos_0 ≤ (from_0 + 8))) ∧ ((kind_0 = 0) ∨ ((from_0 + 1) ≤ pos_0))) (f2 : 1 * x3 + ((-1) * pos_0 + 0) ≤ (-1)) (f3 : (-1) * x4 + 0 ≤ 0) (f6 : 1 * x9 + (1 * pos_0 + 0) ≤ 2000) (f7 : (-1) * x9 + ((-1) * pos_0 + 0) ≤ (-2000)) (f8 : (x12 = 1) → (kind_0 = 1)) (f9 : (-1) * fault_0 + 0 ≤ (-1)) (f11 : x12 = 0) (f12 : (-1) * x4 + 0 ≤ 0) (f14 : (-1) * x4 + 0 ≤ 0) (kz_0_8 : 0 ≤ fault_0 ∧ fault_0 ≤ 5) (kz_0_11 : 0 ≤ pos_0 ∧ pos_0 ≤ 2000) (kz_0_12 : 0 ≤ kind_0 ∧ kind_0 ≤ 4) (kz_0_15 : 0 ≤ from_0 ∧ from_0 ≤ 2000) : (1 ≤ fault_0) ∨ (0 ≤ x4) := by
  first | assumption | (clear f1 f8; omega) | omega | grind
set_option maxHeartbeats 4000000 in
theorem vc_Mo_of_at_s5003_4_5 (x2 : Int) (x3 : Int) (x4 : Int) (x7 : Int) (x9 : Int) (x12 : Int) (x15 : Int) (from_0 : Int) (pos_0 : Int) (kind_0 : Int) (fault_0 : Int) (k2 : 9 ≤ x2 ∧ x2 ≤ 9) (k3 : 0 ≤ x3 ∧ x3 ≤ 2000) (k4 : (-1) ≤ x4 ∧ x4 ≤ 48) (k7 : 9 ≤ x7 ∧ x7 ≤ 9) (k9 : 0 ≤ x9 ∧ x9 ≤ 2000) (k12 : 0 ≤ x12 ∧ x12 ≤ 0) (k15 : 0 ≤ x15 ∧ x15 ≤ 0) (f0 : 1 * from_0 + ((-1) * pos_0 + 0) ≤ 0) (f1 : ((kind_0 = 1) → (pos_0 ≤ (from_0 + 8))) ∧ ((kind_0 = 0) ∨ ((from_0 + 1) ≤ pos_0))) (f2 : 1 * x3 + ((-1) * pos_0 + 0) ≤ (-1)) (f3 : (-1) * x4 + 0 ≤ 0) (f6 : 1 * x9 + (1 * pos_0 + 0) ≤ 2000) (f7 : (-1) * x9 + ((-1) * pos_0 + 0) ≤ (-2000)) (f8 : (x12 = 1) → (kind_0 = 1)) (f9 : (-1) * fault_0 + 0 ≤ (-1)) (f11 : x12 = 0) (f12 : (-1) * x4 + 0 ≤ 0) (f14 : (-1) * x4 + 0 ≤ 0) (kz_0_8 : 0 ≤ fault_0 ∧ fault_0 ≤ 5) (kz_0_11 : 0 ≤ pos_0 ∧ pos_0 ≤ 2000) (kz_0_12 : 0 ≤ kind_0 ∧ kind_0 ≤ 4) (kz_0_15 : 0 ≤ from_0 ∧ from_0 ≤ 2000) : 1 * x15 + ((-1) * x2 + 0) ≤ 0 := by
  first | assumption | (clear f1 f8; omega) | omega | grind
set_option maxHeartbeats 4000000 in
theorem vc_Mo_of_at_s5003_4_6 (x2 : Int) (x3 : Int) (x4 : Int) (x7 : Int) (x9 : Int) (x12 : Int) (x15 : Int) (from_0 : Int) (pos_0 : Int) (kind_0 : Int) (fault_0 : Int) (k2 : 9 ≤ x2 ∧ x2 ≤ 9) (k3 : 0 ≤ x3 ∧ x3 ≤ 2000) (k4 : (-1) ≤ x4 ∧ x4 ≤ 48) (k7 : 9 ≤ x7 ∧ x7 ≤ 9) (k9 : 0 ≤ x9 ∧ x9 ≤ 2000) (k12 : 0 ≤ x12 ∧ x12 ≤ 0) (k15 : 0 ≤ x15 ∧ x15 ≤ 0) (f0 : 1 * from_0 + ((-1) * pos_0 + 0) ≤ 0) (f1 : ((kind_0 = 1) → (pos_0 ≤ (from_0 + 8))) ∧ ((kind_0 = 0) ∨ ((from_0 + 1) ≤ pos_0))) (f2 : 1 * x3 + ((-1) * pos_0 + 0) ≤ (-1)) (f3 : (-1) * x4 + 0 ≤ 0) (f6 : 1 * x9 + (1 * pos_0 + 0) ≤ 2000) (f7 : (-1) * x9 + ((-1) * pos_0 + 0) ≤ (-2000)) (f8 : (x12 = 1) → (kind_0 = 1)) (f9 : (-1) * fault_0 + 0 ≤ (-1)) (f11 : x12 = 0) (f12 : (-1) * x4 + 0 ≤ 0) (f14 : (-1) * x4 + 0 ≤ 0) (kz_0_8 : 0 ≤ fault_0 ∧ fault_0 ≤ 5) (kz_0_11 : 0 ≤ pos_0 ∧ pos_0 ≤ 2000) (kz_0_12 : 0 ≤ kind_0 ∧ kind_0 ≤ 4) (kz_0_15 : 0 ≤ from_0 ∧ from_0 ≤ 2000) : (-1) * x15 + 0 ≤ 0 := by
  first | assumption | (clear f1 f8; omega) | omega | grind
def o_Mo_of_at_s5003_4 : or_T := (58, 16, [(0, (2, 0, 0, [165])), (2, (0, 9, 9, [])), (3, (0, 0, 2000, [])), (4, (0, -1, 48, [])), (5, (2, 0, 0, [165])), (7, (0, 9, 9, [])), (9, (0, 0, 2000, [])), (12, (0, 0, 0, [])), (15, (0, 0, 0, []))], [(20, [5, 5], [30, 0, 1, 1, 15, -1, 1, 11]), (20, [5], [50, 3, 0, 12, 11, 15, 2, 21, 4, 7, 1, 3, 2, 0, 12, 0, 1, 0, 3, 2, 0, 11, 4, 3, 2, 0, 15, 0, 8, 3, 7, 1, 3, 2, 0, 12, 0, 0, 0, 7, 4, 3, 2, 0, 15, 0, 1, 2, 0, 11]), (20, [3, 5], [30, -1, 1, 0, 0, -1, 1, 11]), (23, [4], [0, -1]), (24, [0, 5], []), (24, [2, 7], []), (20, [9, 5], [30, 2000, 1, 0, 0, 1, 1, 11]), (20, [9, 5], [30, -2000, -1, 0, 0, -1, 1, 11]), (20, [12, 5], [50, 1, 0, 1012, 4, 6, 1, 2, 1, 0, 0, 1, 1, 3, 2, 1, 12, 0, 1]), (20, [5], [30, -1, -1, 1, 8]), (102, [14], [0, 165008, 165009]), (8, [12], [0]), (23, [4], [0, -1]), (102, [11], [0]), (23, [4], [0, -1])], [], [], [(20, [0, 0], [30, 0, 1, 1, 15, -1, 1, 11]), (20, [0], [50, 3, 0, 12, 11, 15, 2, 21, 4, 7, 1, 3, 2, 0, 12, 0, 1, 0, 3, 2, 0, 11, 4, 3, 2, 0, 15, 0, 8, 3, 7, 1, 3, 2, 0, 12, 0, 0, 0, 7, 4, 3, 2, 0, 15, 0, 1, 2, 0, 11]), (20, [3, 0], [30, 0, 1, 0, 0, -1, 1, 11]), (20, [0, 3], [50, 3, 0, 8, 12, 11, 3, 7, 0, 2, 0, 1, 2, 0, 8, 3, 7, 1, 3, 2, 0, 12, 0, 0, 0, 6, 4, 2, 1, 1, 0, 1, 2, 0, 11]), (20, [0, 4], [50, 1, 0, 8, 3, 7, 0, 2, 0, 1, 2, 0, 8, 0, 2, 0, 0, 1, 1]), (20, [15, 2], [30, 0, 1, 0, 0, -1, 0, 0]), (20, [15], [30, 0, -1, 0, 0])], [], [])
theorem oo_Mo_of_at_s5003_4 {kA : Nat → ClassId} : or_ok PRD kA GG o_Mo_of_at_s5003_4 := by
  refine or_mk fun A ta ws vs hD hth hl => ?_
  intro t0 r0 t2 k2 t3 k3 t4 k4 t5 r5 t7 k7 t9 k9 t12 k12 t15 k15 f0 f1 f2 f3 f4 f5 f6 f7 f8 f9 ta1 w1 le1 s1 f11 f12 ta2 w2 le2 s2 f14
  replace f0 := shm_1397 f0
  replace f1 := shm_1398 f1
  replace f2 := shm_1891 f2
  replace f4 := shm_5 f4
  replace f6 := shm_1892 f6
  replace f7 := shm_1893 f7
  replace f8 := shm_1762 f8
  replace f9 := shm_144 f9
  have q5 : n_v vs 5 = n_v vs 0 := f4.symm
  simp only [q5] at f0 f1 f2 f6 f7 f8 f9
  have kz_0_8 := fdq_14 hD hth r0
  have kz_0_11 := fdq_273 hD hth r0
  have kz_0_12 := fdq_186 hD hth r0
  have kz_0_15 := fdq_274 hD hth r0
  have nf0 : fc_1 PRD (20, [0, 0], [30, 0, 1, 1, 15, -1, 1, 11]) ws (vs) := ⟨nf_in hl rfl, sgq_1397 (vc_Mo_of_at_s5003_4_0 (v_iv (n_v vs 2)) (v_iv (n_v vs 3)) (v_iv (n_v vs 4)) (v_iv (n_v vs 7)) (v_iv (n_v vs 9)) (v_iv (n_v vs 12)) (v_iv (n_v vs 15)) (w_fi ws (n_v vs 0) 15) (w_fi ws (n_v vs 0) 11) (w_fi ws (n_v vs 0) 12) (w_fi ws (n_v vs 0) 8) k2 k3 k4 k7 k9 k12 k15 f0 f1 f2 (shm_1013 f3) f6 f7 f8 f9 (shm_210 f11) (shm_1013 f12) (shm_1013 f14) kz_0_8 kz_0_11 kz_0_12 kz_0_15)⟩
  have nf1 : fc_1 PRD (20, [0], [50, 3, 0, 12, 11, 15, 2, 21, 4, 7, 1, 3, 2, 0, 12, 0, 1, 0, 3, 2, 0, 11, 4, 3, 2, 0, 15, 0, 8, 3, 7, 1, 3, 2, 0, 12, 0, 0, 0, 7, 4, 3, 2, 0, 15, 0, 1, 2, 0, 11]) ws (vs) := ⟨nf_in hl rfl, sgq_1398 (vc_Mo_of_at_s5003_4_1 (v_iv (n_v vs 2)) (v_iv (n_v vs 3)) (v_iv (n_v vs 4)) (v_iv (n_v vs 7)) (v_iv (n_v vs 9)) (v_iv (n_v vs 12)) (v_iv (n_v vs 15)) (w_fi ws (n_v vs 0) 15) (w_fi ws (n_v vs 0) 11) (w_fi ws (n_v vs 0) 12) (w_fi ws (n_v vs 0) 8) k2 k3 k4 k7 k9 k12 k15 f0 f1 f2 (shm_1013 f3) f6 f7 f8 f9 (shm_210 f11) (shm_1013 f12) (shm_1013 f14) kz_0_8 kz_0_11 kz_0_12 kz_0_15)⟩
  have nf2 : fc_1 PRD (20, [3, 0], [30, 0, 1, 0, 0, -1, 1, 11]) ws (vs) := ⟨nf_in hl rfl, sgq_1395 (vc_Mo_of_at_s5003_4_2 (v_iv (n_v vs 2)) (v_iv (n_v vs 3)) (v_iv (n_v vs 4)) (v_iv (n_v vs 7)) (v_iv (n_v vs 9)) (v_iv (n_v vs 12)) (v_iv (n_v vs 15)) (w_fi ws (n_v vs 0) 15) (w_fi ws (n_v vs 0) 11) (w_fi ws (n_v vs 0) 12) (w_fi ws (n_v vs 0) 8) k2 k3 k4 k7 k9 k12 k15 f0 f1 f2 (shm_1013 f3) f6 f7 f8 f9 (shm_210 f11) (shm_1013 f12) (shm_1013 f14) kz_0_8 kz_0_11 kz_0_12 kz_0_15)⟩
  have nf3 : fc_1 PRD (20, [0, 3], [50, 3, 0, 8, 12, 11, 3, 7, 0, 2, 0, 1, 2, 0, 8, 3, 7, 1, 3, 2, 0, 12, 0, 0, 0, 6, 4, 2, 1, 1, 0, 1, 2, 0, 11]) ws (vs) := ⟨nf_in hl rfl, sgq_1660 (vc_Mo_of_at_s5003_4_3 (v_iv (n_v vs 2)) (v_iv (n_v vs 3)) (v_iv (n_v vs 4)) (v_iv (n_v vs 7)) (v_iv (n_v vs 9)) (v_iv (n_v vs 12)) (v_iv (n_v vs 15)) (w_fi ws (n_v vs 0) 15) (w_fi ws (n_v vs 0) 11) (w_fi ws (n_v vs 0) 12) (w_fi ws (n_v vs 0) 8) k2 k3 k4 k7 k9 k12 k15 f0 f1 f2 (shm_1013 f3) f6 f7 f8 f9 (shm_210 f11) (shm_1013 f12) (shm_1013 f14) kz_0_8 kz_0_11 kz_0_12 kz_0_15)⟩
  have nf4 : fc_1 PRD (20, [0, 4], [50, 1, 0, 8, 3, 7, 0, 2, 0, 1, 2, 0, 8, 0, 2, 0, 0, 1, 1]) ws (vs) := ⟨nf_in hl rfl, sgq_1889 (vc_Mo_of_at_s5003_4_4 (v_iv (n_v vs 2)) (v_iv (n_v vs 3)) (v_iv (n_v vs 4)) (v_iv (n_v vs 7)) (v_iv (n_v vs 9)) (v_iv (n_v vs 12)) (v_iv (n_v vs 15)) (w_fi ws (n_v vs 0) 15) (w_fi ws (n_v vs 0) 11) (w_fi ws (n_v vs 0) 12) (w_fi ws (n_v vs 0) 8) k2 k3 k4 k7 k9 k12 k15 f0 f1 f2 (shm_1013 f3) f6 f7 f8 f9 (shm_210 f11) (shm_1013 f12) (shm_1013 f14) kz_0_8 kz_0_11 kz_0_12 kz_0_15)⟩
  have nf5 : fc_1 PRD (20, [15, 2], [30, 0, 1, 0, 0, -1, 0, 0]) ws (vs) := ⟨nf_in hl rfl, sgq_219 (vc_Mo_of_at_s5003_4_5 (v_iv (n_v vs 2)) (v_iv (n_v vs 3)) (v_iv (n_v vs 4)) (v_iv (n_v vs 7)) (v_iv (n_v vs 9)) (v_iv (n_v vs 12)) (v_iv (n_v vs 15)) (w_fi ws (n_v vs 0) 15) (w_fi ws (n_v vs 0) 11) (w_fi ws (n_v vs 0) 12) (w_fi ws (n_v vs 0) 8) k2 k3 k4 k7 k9 k12 k15 f0 f1 f2 (shm_1013 f3) f6 f7 f8 f9 (shm_210 f11) (shm_1013 f12) (shm_1013 f14) kz_0_8 kz_0_11 kz_0_12 kz_0_15)⟩
  have nf6 : fc_1 PRD (20, [15], [30, 0, -1, 0, 0]) ws (vs) := ⟨nf_in hl rfl, sgq_1890 (vc_Mo_of_at_s5003_4_6 (v_iv (n_v vs 2)) (v_iv (n_v vs 3)) (v_iv (n_v vs 4)) (v_iv (n_v vs 7)) (v_iv (n_v vs 9)) (v_iv (n_v vs 12)) (v_iv (n_v vs 15)) (w_fi ws (n_v vs 0) 15) (w_fi ws (n_v vs 0) 11) (w_fi ws (n_v vs 0) 12) (w_fi ws (n_v vs 0) 8) k2 k3 k4 k7 k9 k12 k15 f0 f1 f2 (shm_1013 f3) f6 f7 f8 f9 (shm_210 f11) (shm_1013 f12) (shm_1013 f14) kz_0_8 kz_0_11 kz_0_12 kz_0_15)⟩
  refine ⟨(fun _ h => (by cases h)), [], trivial, ?_, (fun _ h => (by cases h))⟩
  rw [List.append_nil]
  exact List.forall_mem_cons.mpr ⟨⟨show (20 : Nat) < 100 from by decide, nf0⟩, List.forall_mem_cons.mpr ⟨⟨show (20 : Nat) < 100 from by decide, nf1⟩, List.forall_mem_cons.mpr ⟨⟨show (20 : Nat) < 100 from by decide, nf2⟩, List.forall_mem_cons.mpr ⟨⟨show (20 : Nat) < 100 from by decide, nf3⟩, List.forall_mem_cons.mpr ⟨⟨show (20 : Nat) < 100 from by decide, nf4⟩, List.forall_mem_cons.mpr ⟨⟨show (20 : Nat) < 100 from by decide, nf5⟩, List.forall_mem_cons.mpr ⟨⟨show (20 : Nat) < 100 from by decide, nf6⟩, (fun _ h => (by cases h))⟩⟩⟩⟩⟩⟩⟩
set_option maxHeartbeats 4000000 in
theorem vc_Mo_of_at_s5003_5_0 (x2 : Int) (x3 : Int) (x7 : Int) (x9 : Int) (x12 : Int) (from_0 : Int) (pos_0 : Int) (kind_0 : Int) (gx : Int) (k2 : 9 ≤ x2 ∧ x2 ≤ 9) (k3 : 0 ≤ x3 ∧ x3 ≤ 2000) (k7 : 9 ≤ x7 ∧ x7 ≤ 9) (k9 : 0 ≤ x9 ∧ x9 ≤ 2000) (k12 : 1 ≤ x12 ∧ x12 ≤ 1) (f0 : x12 ≠ 0) (f1 : 1 * from_0 + ((-1) * pos_0 + 0) ≤ 0) (f2 : ((kind_0 = 1) → (pos_0 ≤ (from_0 + 8))) ∧ ((kind_0 = 0) ∨ ((from_0 + 1) ≤ pos_0))) (f3 : 1 * x3 + ((-1) * pos_0 + 0) ≤ (-1)) (f6 : 1 * x9 + (1 * pos_0 + 0) ≤ 2000) (f7 : (-1) * x9 + ((-1) * pos_0 + 0) ≤ (-2000)) (f8 : (x12 = 1) → (kind_0 = 1)) (kz_0_11 : 0 ≤ pos_0 ∧ pos_0 ≤ 2000) (kz_0_12 : 0 ≤ kind_0 ∧ kind_0 ≤ 4) (kz_0_15 : 0 ≤ from_0 ∧ from_0 ≤ 2000) (ex2 : gx = pos_0) (ex3 : 0 ≤ gx ∧ gx ≤ 2000) : 1 * gx + ((-1) * pos_0 + 0) ≤ 0 := by
  first | assumption | (clear f2 f8; omega) | omega | grind
set_option maxHeartbeats 4000000 in
theorem vc_Mo_of_at_s5003_5_1 (x2 : Int) (x3 : Int) (x7 : Int) (x9 : Int) (x12 : Int) (from_0 : Int) (pos_0 : Int) (kind_0 : Int) (gx : Int) (k2 : 9 ≤ x2 ∧ x2 ≤ 9) (k3 : 0 ≤ x3 ∧ x3 ≤ 2000) (k7 : 9 ≤ x7 ∧ x7 ≤ 9) (k9 : 0 ≤ x9 ∧ x9 ≤ 2000) (k12 : 1 ≤ x12 ∧ x12 ≤ 1) (f0 : x12 ≠ 0) (f1 : 1 * from_0 + ((-1) * pos_0 + 0) ≤ 0) (f2 : ((kind_0 = 1) → (pos_0 ≤ (from_0 + 8))) ∧ ((kind_0 = 0) ∨ ((from_0 + 1) ≤ pos_0))) (f3 : 1 * x3 + ((-1) * pos_0 + 0) ≤ (-1)) (f6 : 1 * x9 + (1 * pos_0 + 0) ≤ 2000) (f7 : (-1) * x9 + ((-1) * pos_0 + 0) ≤ (-2000)) (f8 : (x12 = 1) → (kind_0 = 1)) (kz_0_11 : 0 ≤ pos_0 ∧ pos_0 ≤ 2000) (kz_0_12 : 0 ≤ kind_0 ∧ kind_0 ≤ 4) (kz_0_15 : 0 ≤ from_0 ∧ from_0 ≤ 2000) (ex2 : gx = pos_0) (ex3 : 0 ≤ gx ∧ gx ≤ 2000) : 1 * x3 + ((-1) * gx + 0) ≤ (-1) := by
  first | assumption | (clear f2 f8; omega) | omega | grind
set_option maxHeartbeats 4000000 in
theorem vc_Mo_of_at_s5003_5_2 (x2 : Int) (x3 : Int) (x7 : Int) (x9 : Int) (x12 : Int) (from_0 : Int) (pos_0 : Int) (kind_0 : Int) (gx : Int) (k2 : 9 ≤ x2 ∧ x2 ≤ 9) (k3 : 0 ≤ x3 ∧ x3 ≤ 2000) (k7 : 9 ≤ x7 ∧ x7 ≤ 9) (k9 : 0 ≤ x9 ∧ x9 ≤ 2000) (k12 : 1 ≤ x12 ∧ x12 ≤ 1) (f0 : x12 ≠ 0) (f1 : 1 * from_0 + ((-1) * pos_0 + 0) ≤ 0) (f2 : ((kind_0 = 1) → (pos_0 ≤ (from_0 + 8))) ∧ ((kind_0 = 0) ∨ ((from_0 + 1) ≤ pos_0))) (f3 : 1 * x3 + ((-1) * pos_0 + 0) ≤ (-1)) (f6 : 1 * x9 + (1 * pos_0 + 0) ≤ 2000) (f7 : (-1) * x9 + ((-1) * pos_0 + 0) ≤ (-2000)) (f8 : (x12 = 1) → (kind_0 = 1)) (kz_0_11 : 0 ≤ pos_0 ∧ pos_0 ≤ 2000) (kz_0_12 : 0 ≤ kind_0 ∧ kind_0 ≤ 4) (kz_0_15 : 0 ≤ from_0 ∧ from_0 ≤ 2000) (ex2 : gx = pos_0) (ex3 : 0 ≤ gx ∧ gx ≤ 2000) : (-1) * x9 + ((-1) * gx + 0) ≤ (-2000) := by
  first | assumption | (clear f2 f8; omega) | omega | grind
def o_Mo_of_at_s5003_5 : or_T := (60, 13, [(0, (2, 0, 0, [165])), (2, (0, 9, 9, [])), (3, (0, 0, 2000, [])), (7, (0, 9, 9, [])), (9, (0, 0, 2000, [])), (12, (0, 1, 1, []))], [(8, [12], [1]), (20, [5, 5], [30, 0, 1, 1, 15, -1, 1, 11]), (20, [5], [50, 3, 0, 12, 11, 15, 2, 21, 4, 7, 1, 3, 2, 0, 12, 0, 1, 0, 3, 2, 0, 11, 4, 3, 2, 0, 15, 0, 8, 3, 7, 1, 3, 2, 0, 12, 0, 0, 0, 7, 4, 3, 2, 0, 15, 0, 1, 2, 0, 11]), (20, [3, 5], [30, -1, 1, 0, 0, -1, 1, 11]), (24, [0, 5], []), (20, [9, 5], [30, 2000, 1, 0, 0, 1, 1, 11]), (20, [9, 5], [30, -2000, -1, 0, 0, -1, 1, 11]), (20, [12, 5], [50, 1, 0, 1012, 4, 6, 1, 2, 1, 0, 0, 1, 1, 3, 2, 1, 12, 0, 1])], [], [(0, 0, 2000, [])], [(20, [13, 5], [30, 0, 1, 0, 0, -1, 1, 11]), (23, [3, 13], [-1, 1, -1]), (23, [9, 13], [-2000, -1, -1])], [], [])
theorem oo_Mo_of_at_s5003_5 {kA : Nat → ClassId} : or_ok PRD kA GG o_Mo_of_at_s5003_5 := by
  refine or_mk fun A ta ws vs hD hth hl => ?_
  intro t0 r0 t2 k2 t3 k3 t7 k7 t9 k9 t12 k12 f0 f1 f2 f3 f4 f6 f7 f8
  replace f0 := shm_154 f0
  replace f1 := shm_1397 f1
  replace f2 := shm_1398 f2
  replace f3 := shm_1891 f3
  replace f4 := shm_5 f4
  replace f6 := shm_1892 f6
  replace f7 := shm_1893 f7
  replace f8 := shm_1762 f8
  have q5 : n_v vs 5 = n_v vs 0 := f4.symm
  simp only [q5] at f1 f2 f3 f6 f7 f8
  have kz_0_11 := fdq_273 hD hth r0
  have kz_0_12 := fdq_186 hD hth r0
  have kz_0_15 := fdq_274 hD hth r0
  obtain ⟨x, ex, hx⟩ := iv_ex (ta := ta) (lo := 0) (hi := 2000) (z := w_fi ws (n_v vs 0) 11) (by omega) (by omega) (by omega) (by omega)
  have ex2 : v_iv (Value.int x) = w_fi ws (n_v vs 0) 11 := ex
  have ex3 : 0 ≤ v_iv (Value.int x) ∧ v_iv (Value.int x) ≤ 2000 := tv_rng hx
  have e_3 : n_v (vs ++ [Value.int x]) 3 = n_v vs 3 := n_v_old (by rw [hl]; decide)
  have e_5 : n_v (vs ++ [Value.int x]) 5 = n_v vs 5 := n_v_old (by rw [hl]; decide)
  have e_9 : n_v (vs ++ [Value.int x]) 9 = n_v vs 9 := n_v_old (by rw [hl]; decide)
  have e_13 : n_v (vs ++ [Value.int x]) 13 = Value.int x := n_v_new hl
  have nf0 : fc_1 PRD (20, [13, 5], [30, 0, 1, 0, 0, -1, 1, 11]) ws (vs ++ [Value.int x]) := by
    refine ⟨nf_inA hl rfl, sgq_1395 ?_⟩
    · show 1 * v_iv (n_v (vs ++ [Value.int x]) 13) + ((-1) * w_fi ws (n_v (vs ++ [Value.int x]) 5) 11 + 0) ≤ 0
      simp only [e_5, e_13, q5]
      exact vc_Mo_of_at_s5003_5_0 (v_iv (n_v vs 2)) (v_iv (n_v vs 3)) (v_iv (n_v vs 7)) (v_iv (n_v vs 9)) (v_iv (n_v vs 12)) (w_fi ws (n_v vs 0) 15) (w_fi ws (n_v vs 0) 11) (w_fi ws (n_v vs 0) 12) (v_iv (Value.int x)) k2 k3 k7 k9 k12 f0 f1 f2 f3 f6 f7 f8 kz_0_11 kz_0_12 kz_0_15 ex2 ex3
  have nf1 : fc_1 PRD (23, [3, 13], [-1, 1, -1]) ws (vs ++ [Value.int x]) := by
    refine ⟨nf_inA hl rfl, sgq_211 ?_⟩
    · show 1 * v_iv (n_v (vs ++ [Value.int x]) 3) + ((-1) * v_iv (n_v (vs ++ [Value.int x]) 13) + 0) ≤ (-1)
      simp only [e_3, e_13]
      exact vc_Mo_of_at_s5003_5_1 (v_iv (n_v vs 2)) (v_iv (n_v vs 3)) (v_iv (n_v vs 7)) (v_iv (n_v vs 9)) (v_iv (n_v vs 12)) (w_fi ws (n_v vs 0) 15) (w_fi ws (n_v vs 0) 11) (w_fi ws (n_v vs 0) 12) (v_iv (Value.int x)) k2 k3 k7 k9 k12 f0 f1 f2 f3 f6 f7 f8 kz_0_11 kz_0_12 kz_0_15 ex2 ex3
  have nf2 : fc_1 PRD (23, [9, 13], [-2000, -1, -1]) ws (vs ++ [Value.int x]) := by
    refine ⟨nf_inA hl rfl, sgq_1894 ?_⟩
    · show (-1) * v_iv (n_v (vs ++ [Value.int x]) 9) + ((-1) * v_iv (n_v (vs ++ [Value.int x]) 13) + 0) ≤ (-2000)
      simp only [e_9, e_13]
      exact vc_Mo_of_at_s5003_5_2 (v_iv (n_v vs 2)) (v_iv (n_v vs 3)) (v_iv (n_v vs 7)) (v_iv (n_v vs 9)) (v_iv (n_v vs 12)) (w_fi ws (n_v vs 0) 15) (w_fi ws (n_v vs 0) 11) (w_fi ws (n_v vs 0) 12) (v_iv (Value.int x)) k2 k3 k7 k9 k12 f0 f1 f2 f3 f6 f7 f8 kz_0_11 kz_0_12 kz_0_15 ex2 ex3
  exact ⟨(fun _ h => (by cases h)), [Value.int x], ag_one hx, List.forall_mem_cons.mpr ⟨⟨show (20 : Nat) < 100 from by decide, nf0⟩, List.forall_mem_cons.mpr ⟨⟨show (23 : Nat) < 100 from by decide, nf1⟩, List.forall_mem_cons.mpr ⟨⟨show (23 : Nat) < 100 from by decide, nf2⟩, (fun _ h => (by cases h))⟩⟩⟩, (fun _ h => (by cases h))⟩
set_option maxHeartbeats 4000000 in
theorem vc_Mo_of_at_s5003_6_0 (x2 : Int) (x3 : Int) (x7 : Int) (x9 : Int) (x13 : Int) (from_0 : Int) (pos_0 : Int) (kind_0 : Int) (fault_0 : Int) (gx : Int) (k2 : 9 ≤ x2 ∧ x2 ≤ 9) (k3 : 0 ≤ x3 ∧ x3 ≤ 2000) (k7 : 9 ≤ x7 ∧ x7 ≤ 9) (k9 : 0 ≤ x9 ∧ x9 ≤ 2000) (k13 : 0 ≤ x13 ∧ x13 ≤ 2000) (f0 : 1 * x3 + ((-1) * x13 + 0) ≤ (-1)) (f1 : (-1) * x9 + ((-1) * x13 + 0) ≤ (-2000)) (f4 : 1 * from_0 + ((-1) * pos_0 + 0) ≤ 0) (f5 : ((kind_0 = 1) → (pos_0 ≤ (from_0 + 8))) ∧ ((kind_0 = 0) ∨ ((from_0 + 1) ≤ pos_0))) (f6 : 1 * x13 + ((-1) * from_0 + 0) ≤ 0) (f8 : 1 * x3 + ((-1) * x13 + 0) ≤ (-1)) (f9 : (-1) * x9 + ((-1) * x13 + 0) ≤ (-2000)) (kz_0_8 : 0 ≤ fault_0 ∧ fault_0 ≤ 5) (kz_0_11 : 0 ≤ pos_0 ∧ pos_0 ≤ 2000) (kz_0_12 : 0 ≤ kind_0 ∧ kind_0 ≤ 4) (kz_0_15 : 0 ≤ from_0 ∧ from_0 ≤ 2000) (ex2 : gx = x13) (ex3 : 0 ≤ gx ∧ gx ≤ 2000) : 1 * gx + ((-1) * x13 + 0) ≤ 0 := by
  first | assumption | (clear f5; omega) | omega | grind
set_option maxHeartbeats 4000000 in
theorem vc_Mo_of_at_s5003_6_1 (x2 : Int) (x3 : Int) (x7 : Int) (x9 : Int) (x13 : Int) (from_0 : Int) (pos_0 : Int) (kind_0 : Int) (fault_0 : Int) (gx : Int) (k2 : 9 ≤ x2 ∧ x2 ≤ 9) (k3 : 0 ≤ x3 ∧ x3 ≤ 2000) (k7 : 9 ≤ x7 ∧ x7 ≤ 9) (k9 : 0 ≤ x9 ∧ x9 ≤ 2000) (k13 : 0 ≤ x13 ∧ x13 ≤ 2000) (f0 : 1 * x3 + ((-1) * x13 + 0) ≤ (-1)) (f1 : (-1) * x9 + ((-1) * x13 + 0) ≤ (-2000)) (f4 : 1 * from_0 + ((-1) * pos_0 + 0) ≤ 0) (f5 : ((kind_0 = 1) → (pos_0 ≤ (from_0 + 8))) ∧ ((kind_0 = 0) ∨ ((from_0 + 1) ≤ pos_0))) (f6 : 1 * x13 + ((-1) * from_0 + 0) ≤ 0) (f8 : 1 * x3 + ((-1) * x13 + 0) ≤ (-1)) (f9 : (-1) * x9 + ((-1) * x13 + 0) ≤ (-2000)) (kz_0_8 : 0 ≤ fault_0 ∧ fault_0 ≤ 5) (kz_0_11 : 0 ≤ pos_0 ∧ pos_0 ≤ 2000) (kz_0_12 : 0 ≤ kind_0 ∧ kind_0 ≤ 4) (kz_0_15 : 0 ≤ from_0 ∧ from_0 ≤ 2000) (ex2 : gx = x13) (ex3 : 0 ≤ gx ∧ gx ≤ 2000) : (-1) * gx + (1 * x13 + 0) ≤ 0 := by
  first | assumption | (clear f5; omega) | omega | grind
set_option maxHeartbeats 4000000 in
theorem vc_Mo_of_at_s5003_6_2 (x2 : Int) (x3 : Int) (x7 : Int) (x9 : Int) (x13 : Int) (from_0 : Int) (pos_0 : Int) (kind_0 : Int) (fault_0 : Int) (gx : Int) (k2 : 9 ≤ x2 ∧ x2 ≤ 9) (k3 : 0 ≤ x3 ∧ x3 ≤ 2000) (k7 : 9 ≤ x7 ∧ x7 ≤ 9) (k9 : 0 ≤ x9 ∧ x9 ≤ 2000) (k13 : 0 ≤ x13 ∧ x13 ≤ 2000) (f0 : 1 * x3 + ((-1) * x13 + 0) ≤ (-1)) (f1 : (-1) * x9 + ((-1) * x13 + 0) ≤ (-2000)) (f4 : 1 * from_0 + ((-1) * pos_0 + 0) ≤ 0) (f5 : ((kind_0 = 1) → (pos_0 ≤ (from_0 + 8))) ∧ ((kind_0 = 0) ∨ ((from_0 + 1) ≤ pos_0))) (f6 : 1 * x13 + ((-1) * from_0 + 0) ≤ 0) (f8 : 1 * x3 + ((-1) * x13 + 0) ≤ (-1)) (f9 : (-1) * x9 + ((-1) * x13 + 0) ≤ (-2000)) (kz_0_8 : 0 ≤ fault_0 ∧ fault_0 ≤ 5) (kz_0_11 : 0 ≤ pos_0 ∧ pos_0 ≤ 2000) (kz_0_12 : 0 ≤ kind_0 ∧ kind_0 ≤ 4) (kz_0_15 : 0 ≤ from_0 ∧ from_0 ≤ 2000) (ex2 : gx = x13) (ex3 : 0 ≤ gx ∧ gx ≤ 2000) : 1 * from_0 + ((-1) * pos_0 + 0) ≤ 0 := by
  first | assumption | (clear f5; omega) | omega | grind
set_option maxHeartbeats 4000000 in
theorem vc_Mo_of_at_s5003_6_3 (x2 : Int) (x3 : Int) (x7 : Int) (x9 : Int) (x13 : Int) (from_0 : Int) (pos_0 : Int) (kind_0 : Int) (fault_0 : Int) (gx : Int) (k2 : 9 ≤ x2 ∧ x2 ≤ 9) (k3 : 0 ≤ x3 ∧ x3 ≤ 2000) (k7 : 9 ≤ x7 ∧ x7 ≤ 9) (k9 : 0 ≤ x9 ∧ x9 ≤ 2000) (k13 : 0 ≤ x13 ∧ x13 ≤ 2000) (f0 : 1 * x3 + ((-1) * x13 + 0) ≤ (-1)) (f1 : (-1) * x9 + ((-1) * x13 + 0) ≤ (-2000)) (f4 : 1 * from_0 + ((-1) * pos_0 + 0) ≤ 0) (f5 : ((kind_0 = 1) → (pos_0 ≤ (from_0 + 8))) ∧ ((kind_0 = 0) ∨ ((from_0 + 1) ≤ pos_0))) (f6 : 1 * x13 + ((-1) * from_0 + 0) ≤ 0) (f8 : 1 * x3 + ((-1) * x13 + 0) ≤ (-1)) (f9 : (-1) * x9 + ((-1) * x13 + 0) ≤ (-2000)) (kz_0_8 : 0 ≤ fault_0 ∧ fault_0 ≤ 5) (kz_0_11 : 0 ≤ pos_0 ∧ pos_0 ≤ 2000) (kz_0_12 : 0 ≤ kind_0 ∧ kind_0 ≤ 4) (kz_0_15 : 0 ≤ from_0 ∧ from_0 ≤ 2000) (ex2 : gx = x13) (ex3 : 0 ≤ gx ∧ gx ≤ 2000) : ((kind_0 = 1) → (pos_0 ≤ (from_0 + 8))) ∧ ((kind_0 = 0) ∨ ((from_0 + 1) ≤ pos_0)) := by
  first | assumption | (clear f5; omega) | omega | grind
set_option maxHeartbeats 4000000 in
theorem vc_Mo_of_at_s5003_6_4 (x2 : Int) (x3 : Int) (x7 : Int) (x9 : Int) (x13 : Int) (from_0 : Int) (pos_0 : Int) (kind_0 : Int) (fault_0 : Int) (gx : Int) (k2 : 9 ≤ x2 ∧ x2 ≤ 9) (k3 : 0 ≤ x3 ∧ x3 ≤ 2000) (k7 : 9 ≤ x7 ∧ x7 ≤ 9) (k9 : 0 ≤ x9 ∧ x9 ≤ 2000) (k13 : 0 ≤ x13 ∧ x13 ≤ 2000) (f0 : 1 * x3 + ((-1) * x13 + 0) ≤ (-1)) (f1 : (-1) * x9 + ((-1) * x13 + 0) ≤ (-2000)) (f4 : 1 * from_0 + ((-1) * pos_0 + 0) ≤ 0) (f5 : ((kind_0 = 1) → (pos_0 ≤ (from_0 + 8))) ∧ ((kind_0 = 0) ∨ ((from_0 + 1) ≤ pos_0))) (f6 : 1 * x13 + ((-1) * from_0 + 0) ≤ 0) (f8 : 1 * x3 + ((-1) * x13 + 0) ≤ (-1)) (f9 : (-1) * x9 + ((-1) * x13 + 0) ≤ (-2000)) (kz_0_8 : 0 ≤ fault_0 ∧ fault_0 ≤ 5) (kz_0_11 : 0 ≤ pos_0 ∧ pos_0 ≤ 2000) (kz_0_12 : 0 ≤ kind_0 ∧ kind_0 ≤ 4) (kz_0_15 : 0 ≤ from_0 ∧ from_0 ≤ 2000) (ex2 : gx = x13) (ex3 : 0 ≤ gx ∧ gx ≤ 2000) : 1 * gx + ((-1) * pos_0 + 0) ≤ 0 := by
  first | assumption | (clear f5; omega) | omega | grind
set_option maxHeartbeats 4000000 in
theorem vc_Mo_of_at_s5003_6_5 (x2 : Int) (x3 : Int) (x7 : Int) (x9 : Int) (x13 : Int) (from_0 : Int) (pos_0 : Int) (kind_0 : Int) (fault_0 : Int) (gx : Int) (k2 : 9 ≤ x2 ∧ x2 ≤ 9) (k3 : 0 ≤ x3 ∧ x3 ≤ 2000) (k7 : 9 ≤ x7 ∧ x7 ≤ 9) (k9 : 0 ≤ x9 ∧ x9 ≤ 2000) (k13 : 0 ≤ x13 ∧ x13 ≤ 2000) (f0 : 1 * x3 + ((-1) * x13 + 0) ≤ (-1)) (f1 : (-1) * x9 + ((-1) * x13 + 0) ≤ (-2000)) (f4 : 1 * from_0 + ((-1) * pos_0 + 0) ≤ 0) (f5 : ((kind_0 = 1) → (pos_0 ≤ (from_0 + 8))) ∧ ((kind_0 = 0) ∨ ((from_0 + 1) ≤ pos_0))) (f6 : 1 * x13 + ((-1) * from_0 + 0) ≤ 0) (f8 : 1 * x3 + ((-1) * x13 + 0) ≤ (-1)) (f9 : (-1) * x9 + ((-1) * x13 + 0) ≤ (-2000)) (kz_0_8 : 0 ≤ fault_0 ∧ fault_0 ≤ 5) (kz_0_11 : 0 ≤ pos_0 ∧ pos_0 ≤ 2000) (kz_0_12 : 0 ≤ kind_0 ∧ kind_0 ≤ 4) (kz_0_15 : 0 ≤ from_0 ∧ from_0 ≤ 2000) (ex2 : gx = x13) (ex3 : 0 ≤ gx ∧ gx ≤ 2000) : (1 ≤ fault_0) ∨ ((kind_0 = 0) ∨ ((gx + 1) ≤ pos_0)) := by
  first | assumption | (clear f5; omega) | omega | grind
set_option maxHeartbeats 4000000 in
theorem vc_Mo_of_at_s5003_6_6 (x2 : Int) (x3 : Int) (x7 : Int) (x9 : Int) (x13 : Int) (from_0 : Int) (pos_0 : Int) (kind_0 : Int) (fault_0 : Int) (gx : Int) (k2 : 9 ≤ x2 ∧ x2 ≤ 9) (k3 : 0 ≤ x3 ∧ x3 ≤ 2000) (k7 : 9 ≤ x7 ∧ x7 ≤ 9) (k9 : 0 ≤ x9 ∧ x9 ≤ 2000) (k13 : 0 ≤ x13 ∧ x13 ≤ 2000) (f0 : 1 * x3 + ((-1) * x13 + 0) ≤ (-1)) (f1 : (-1) * x9 + ((-1) * x13 + 0) ≤ (-2000)) (f4 : 1 * from_0 + ((-1) * pos_0 + 0) ≤ 0) (f5 : ((kind_0 = 1) → (pos_0 ≤ (from_0 + 8))) ∧ ((kind_0 = 0) ∨ ((from_0 + 1) ≤ pos_0))) (f6 : 1 * x13 + ((-1) * from_0 + 0) ≤ 0) (f8 : 1 * x3 + ((-1) * x13 + 0) ≤ (-1)) (f9 : (-1) * x9 + ((-1) * x13 + 0) ≤ (-2000)) (kz_0_8 : 0 ≤ fault_0 ∧ fault_0 ≤ 5) (kz_0_11 : 0 ≤ pos_0 ∧ pos_0 ≤ 2000) (kz_0_12 : 0 ≤ kind_0 ∧ kind_0 ≤ 4) (kz_0_15 : 0 ≤ from_0 ∧ from_0 ≤ 2000) (ex2 : gx = x13) (ex3 : 0 ≤ gx ∧ gx ≤ 2000) : 1 * x3 + ((-1) * gx + 0) ≤ (-1) := by
  first | assumption | (clear f5; omega) | omega | grind
set_option maxHeartbeats 4000000 in
theorem vc_Mo_of_at_s5003_6_7 (x2 : Int) (x3 : Int) (x7 : Int) (x9 : Int) (x13 : Int) (from_0 : Int) (pos_0 : Int) (kind_0 : Int) (fault_0 : Int) (gx : Int) (k2 : 9 ≤ x2 ∧ x2 ≤ 9) (k3 : 0 ≤ x3 ∧ x3 ≤ 2000) (k7 : 9 ≤ x7 ∧ x7 ≤ 9) (k9 : 0 ≤ x9 ∧ x9 ≤ 2000) (k13 : 0 ≤ x13 ∧ x13 ≤ 2000) (f0 : 1 * x3 + ((-1) * x13 + 0) ≤ (-1)) (f1 : (-1) * x9 + ((-1) * x13 + 0) ≤ (-2000)) (f4 : 1 * from_0 + ((-1) * pos_0 + 0) ≤ 0) (f5 : ((kind_0 = 1) → (pos_0 ≤ (from_0 + 8))) ∧ ((kind_0 = 0) ∨ ((from_0 + 1) ≤ pos_0))) (f6 : 1 * x13 + ((-1) * from_0 + 0) ≤ 0) (f8 : 1 * x3 + ((-1) * x13 + 0) ≤ (-1)) (f9 : (-1) * x9 + ((-1) * x13 + 0) ≤ (-2000)) (kz_0_8 : 0 ≤ fault_0 ∧ fault_0 ≤ 5) (kz_0_11 : 0 ≤ pos_0 ∧ pos_0 ≤ 2000) (kz_0_12 : 0 ≤ kind_0 ∧ kind_0 ≤ 4) (kz_0_15 : 0 ≤ from_0 ∧ from_0 ≤ 2000) (ex2 : gx = x13) (ex3 : 0 ≤ gx ∧ gx ≤ 2000) : (-1) * x9 + ((-1) * gx + 0) ≤ (-2000) := by
  first | assumption | (clear f5; omega) | omega | grind
def o_Mo_of_at_s5003_6 : or_T := (66, 15, [(0, (2, 0, 0, [165])), (2, (0, 9, 9, [])), (3, (0, 0, 2000, [])), (7, (0, 9, 9, [])), (9, (0, 0, 2000, [])), (13, (0, 0, 2000, []))], [(23, [3, 13], [-1, 1, -1]), (23, [9, 13], [-2000, -1, -1]), (24, [0, 5], []), (20, [5, 5], [30, 0, 1, 1, 15, -1, 1, 11]), (20, [5], [50, 3, 0, 12, 11, 15, 2, 21, 4, 7, 1, 3, 2, 0, 12, 0, 1, 0, 3, 2, 0, 11, 4, 3, 2, 0, 15, 0, 8, 3, 7, 1, 3, 2, 0, 12, 0, 0, 0, 7, 4, 3, 2, 0, 15, 0, 1, 2, 0, 11]), (20, [13, 5], [30, 0, 1, 0, 0, -1, 1, 15]), (102, [13], [0, 165011, 165012, 165013, 165014, 165015]), (23, [3, 13], [-1, 1, -1]), (23, [9, 13], [-2000, -1, -1])], [], [(0, 0, 2000, [])], [(23, [15, 13], [0, 1, -1]), (23, [15, 13], [0, -1, 1]), (20, [5, 5], [30, 0, 1, 1, 15, -1, 1, 11]), (20, [5], [50, 3, 0, 12, 11, 15, 2, 21, 4, 7, 1, 3, 2, 0, 12, 0, 1, 0, 3, 2, 0, 11, 4, 3, 2, 0, 15, 0, 8, 3, 7, 1, 3, 2, 0, 12, 0, 0, 0, 7, 4, 3, 2, 0, 15, 0, 1, 2, 0, 11]), (20, [15, 5], [30, 0, 1, 0, 0, -1, 1, 11]), (20, [5, 15], [50, 3, 0, 8, 12, 11, 3, 7, 0, 2, 0, 1, 2, 0, 8, 3, 7, 1, 3, 2, 0, 12, 0, 0, 0, 6, 4, 2, 1, 1, 0, 1, 2, 0, 11]), (23, [3, 15], [-1, 1, -1]), (23, [9, 15], [-2000, -1, -1])], [], [])
theorem oo_Mo_of_at_s5003_6 {kA : Nat → ClassId} : or_ok PRD kA GG o_Mo_of_at_s5003_6 := by
  refine or_mk fun A ta ws vs hD hth hl => ?_
  intro t0 r0 t2 k2 t3 k3 t7 k7 t9 k9 t13 k13 f0 f1 f2 f4 f5 f6 ta1 w1 le1 s1 f8 f9
  replace f0 := shm_211 f0
  replace f1 := shm_1894 f1
  replace f2 := shm_5 f2
  replace f4 := shm_1397 f4
  replace f5 := shm_1398 f5
  replace f6 := shm_1396 f6
  replace f8 := shm_211 f8
  replace f9 := shm_1894 f9
  have q5 : n_v vs 5 = n_v vs 0 := f2.symm
  simp only [q5] at f4 f5 f6
  have kz_0_8 := fdq_14 hD hth r0
  have kz_0_11 := fdq_273 hD hth r0
  have kz_0_12 := fdq_186 hD hth r0
  have kz_0_15 := fdq_274 hD hth r0
  obtain ⟨x, ex, hx⟩ := iv_ex (ta := ta) (lo := 0) (hi := 2000) (z := v_iv (n_v vs 13)) (by omega) (by omega) (by omega) (by omega)
  have ex2 : v_iv (Value.int x) = v_iv (n_v vs 13) := ex
  have ex3 : 0 ≤ v_iv (Value.int x) ∧ v_iv (Value.int x) ≤ 2000 := tv_rng hx
  have e_3 : n_v (vs ++ [Value.int x]) 3 = n_v vs 3 := n_v_old (by rw [hl]; decide)
  have e_5 : n_v (vs ++ [Value.int x]) 5 = n_v vs 5 := n_v_old (by rw [hl]; decide)
  have e_9 : n_v (vs ++ [Value.int x]) 9 = n_v vs 9 := n_v_old (by rw [hl]; decide)
  have e_13 : n_v (vs ++ [Value.int x]) 13 = n_v vs 13 := n_v_old (by rw [hl]; decide)
  have e_15 : n_v (vs ++ [Value.int x]) 15 = Value.int x := n_v_new hl
  have nf0 : fc_1 PRD (23, [15, 13], [0, 1, -1]) ws (vs ++ [Value.int x]) := by
    refine ⟨nf_inA hl rfl, sgq_7 ?_⟩
    · show 1 * v_iv (n_v (vs ++ [Value.int x]) 15) + ((-1) * v_iv (n_v (vs ++ [Value.int x]) 13) + 0) ≤ 0
      simp only [e_13, e_15]
      exact vc_Mo_of_at_s5003_6_0 (v_iv (n_v vs 2)) (v_iv (n_v vs 3)) (v_iv (n_v vs 7)) (v_iv (n_v vs 9)) (v_iv (n_v vs 13)) (w_fi ws (n_v vs 0) 15) (w_fi ws (n_v vs 0) 11) (w_fi ws (n_v vs 0) 12) (w_fi ws (n_v vs 0) 8) (v_iv (Value.int x)) k2 k3 k7 k9 k13 f0 f1 f4 f5 f6 f8 f9 kz_0_8 kz_0_11 kz_0_12 kz_0_15 ex2 ex3
  have nf1 : fc_1 PRD (23, [15, 13], [0, -1, 1]) ws (vs ++ [Value.int x]) := by
    refine ⟨nf_inA hl rfl, sgq_22 ?_⟩
    · show (-1) * v_iv (n_v (vs ++ [Value.int x]) 15) + (1 * v_iv (n_v (vs ++ [Value.int x]) 13) + 0) ≤ 0
      simp only [e_13, e_15]
      exact vc_Mo_of_at_s5003_6_1 (v_iv (n_v vs 2)) (v_iv (n_v vs 3)) (v_iv (n_v vs 7)) (v_iv (n_v vs 9)) (v_iv (n_v vs 13)) (w_fi ws (n_v vs 0) 15) (w_fi ws (n_v vs 0) 11) (w_fi ws (n_v vs 0) 12) (w_fi ws (n_v vs 0) 8) (v_iv (Value.int x)) k2 k3 k7 k9 k13 f0 f1 f4 f5 f6 f8 f9 kz_0_8 kz_0_11 kz_0_12 kz_0_15 ex2 ex3
  have nf2 : fc_1 PRD (20, [5, 5], [30, 0, 1, 1, 15, -1, 1, 11]) ws (vs ++ [Value.int x]) := by
    refine ⟨nf_inA hl rfl, sgq_1397 ?_⟩
    · show 1 * w_fi ws (n_v (vs ++ [Value.int x]) 5) 15 + ((-1) * w_fi ws (n_v (vs ++ [Value.int x]) 5) 11 + 0) ≤ 0
      simp only [e_5, q5]
      exact vc_Mo_of_at_s5003_6_2 (v_iv (n_v vs 2)) (v_iv (n_v vs 3)) (v_iv (n_v vs 7)) (v_iv (n_v vs 9)) (v_iv (n_v vs 13)) (w_fi ws (n_v vs 0) 15) (w_fi ws (n_v vs 0) 11) (w_fi ws (n_v vs 0) 12) (w_fi ws (n_v vs 0) 8) (v_iv (Value.int x)) k2 k3 k7 k9 k13 f0 f1 f4 f5 f6 f8 f9 kz_0_8 kz_0_11 kz_0_12 kz_0_15 ex2 ex3
  have nf3 : fc_1 PRD (20, [5], [50, 3, 0, 12, 11, 15, 2, 21, 4, 7, 1, 3, 2, 0, 12, 0, 1, 0, 3, 2, 0, 11, 4, 3, 2, 0, 15, 0, 8, 3, 7, 1, 3, 2, 0, 12, 0, 0, 0, 7, 4, 3, 2, 0, 15, 0, 1, 2, 0, 11]) ws (vs ++ [Value.int x]) := by
    refine ⟨nf_inA hl rfl, sgq_1398 ?_⟩
    · show ((w_fi ws (n_v (vs ++ [Value.int x]) 5) 12 = 1) → (w_fi ws (n_v (vs ++ [Value.int x]) 5) 11 ≤ (w_fi ws (n_v (vs ++ [Value.int x]) 5) 15 + 8))) ∧ ((w_fi ws (n_v (vs ++ [Value.int x]) 5) 12 = 0) ∨ ((w_fi ws (n_v (vs ++ [Value.int x]) 5) 15 + 1) ≤ w_fi ws (n_v (vs ++ [Value.int x]) 5) 11))
      simp only [e_5, q5]
      exact vc_Mo_of_at_s5003_6_3 (v_iv (n_v vs 2)) (v_iv (n_v vs 3)) (v_iv (n_v vs 7)) (v_iv (n_v vs 9)) (v_iv (n_v vs 13)) (w_fi ws (n_v vs 0) 15) (w_fi ws (n_v vs 0) 11) (w_fi ws (n_v vs 0) 12) (w_fi ws (n_v vs 0) 8) (v_iv (Value.int x)) k2 k3 k7 k9 k13 f0 f1 f4 f5 f6 f8 f9 kz_0_8 kz_0_11 kz_0_12 kz_0_15 ex2 ex3
  have nf4 : fc_1 PRD (20, [15, 5], [30, 0, 1, 0, 0, -1, 1, 11]) ws (vs ++ [Value.int x]) := by
    refine ⟨nf_inA hl rfl, sgq_1395 ?_⟩
    · show 1 * v_iv (n_v (vs ++ [Value.int x]) 15) + ((-1) * w_fi ws (n_v (vs ++ [Value.int x]) 5) 11 + 0) ≤ 0
      simp only [e_5, e_15, q5]
      exact vc_Mo_of_at_s5003_6_4 (v_iv (n_v vs 2)) (v_iv (n_v vs 3)) (v_iv (n_v vs 7)) (v_iv (n_v vs 9)) (v_iv (n_v vs 13)) (w_fi ws (n_v vs 0) 15) (w_fi ws (n_v vs 0) 11) (w_fi ws (n_v vs 0) 12) (w_fi ws (n_v vs 0) 8) (v_iv (Value.int x)) k2 k3 k7 k9 k13 f0 f1 f4 f5 f6 f8 f9 kz_0_8 kz_0_11 kz_0_12 kz_0_15 ex2 ex3
  have nf5 : fc_1 PRD (20, [5, 15], [50, 3, 0, 8, 12, 11, 3, 7, 0, 2, 0, 1, 2, 0, 8, 3, 7, 1, 3, 2, 0, 12, 0, 0, 0, 6, 4, 2, 1, 1, 0, 1, 2, 0, 11]) ws (vs ++ [Value.int x]) := by
    refine ⟨nf_inA hl rfl, sgq_1660 ?_⟩
    · show (1 ≤ w_fi ws (n_v (vs ++ [Value.int x]) 5) 8) ∨ ((w_fi ws (n_v (vs ++ [Value.int x]) 5) 12 = 0) ∨ ((v_iv (n_v (vs ++ [Value.int x]) 15) + 1) ≤ w_fi ws (n_v (vs ++ [Value.int x]) 5) 11))
      simp only [e_5, e_15, q5]
      exact vc_Mo_of_at_s5003_6_5 (v_iv (n_v vs 2)) (v_iv (n_v vs 3)) (v_iv (n_v vs 7)) (v_iv (n_v vs 9)) (v_iv (n_v vs 13)) (w_fi ws (n_v vs 0) 15) (w_fi ws (n_v vs 0) 11) (w_fi ws (n_v vs 0) 12) (w_fi ws (n_v vs 0) 8) (v_iv (Value.int x)) k2 k3 k7 k9 k13 f0 f1 f4 f5 f6 f8 f9 kz_0_8 kz_0_11 kz_0_12 kz_0_15 ex2 ex3
  have nf6 : fc_1 PRD (23, [3, 15], [-1, 1, -1]) ws (vs ++ [Value.int x]) := by
    refine ⟨nf_inA hl rfl, sgq_211 ?_⟩
    · show 1 * v_iv (n_v (vs ++ [Value.int x]) 3) + ((-1) * v_iv (n_v (vs ++ [Value.int x]) 15) + 0) ≤ (-1)
      simp only [e_3, e_15]
      exact vc_Mo_of_at_s5003_6_6 (v_iv (n_v vs 2)) (v_iv (n_v vs 3)) (v_iv (n_v vs 7)) (v_iv (n_v vs 9)) (v_iv (n_v vs 13)) (w_fi ws (n_v vs 0) 15) (w_fi ws (n_v vs 0) 11) (w_fi ws (n_v vs 0) 12) (w_fi ws (n_v vs 0) 8) (v_iv (Value.int x)) k2 k3 k7 k9 k13 f0 f1 f4 f5 f6 f8 f9 kz_0_8 kz_0_11 kz_0_12 kz_0_15 ex2 ex3
  have nf7 : fc_1 PRD (23, [9, 15], [-2000, -1, -1]) ws (vs ++ [Value.int x]) := by
    refine ⟨nf_inA hl rfl, sgq_1894 ?_⟩
    · show (-1) * v_iv (n_v (vs ++ [Value.int x]) 9) + ((-1) * v_iv (n_v (vs ++ [Value.int x]) 15) + 0) ≤ (-2000)
      simp only [e_9, e_15]
      exact vc_Mo_of_at_s5003_6_7 (v_iv (n_v vs 2)) (v_iv (n_v vs 3)) (v_iv (n_v vs 7)) (v_iv (n_v vs 9)) (v_iv (n_v vs 13)) (w_fi ws (n_v vs 0) 15) (w_fi ws (n_v vs 0) 11) (w_fi ws (n_v vs 0) 12) (w_fi ws (n_v vs 0) 8) (v_iv (Value.int x)) k2 k3 k7 k9 k13 f0 f1 f4 f5 f6 f8 f9 kz_0_8 kz_0_11 kz_0_12 kz_0_15 ex2 ex3
  exact ⟨(fun _ h => (by cases h)), [Value.int x], ag_one hx, List.forall_mem_cons.mpr ⟨⟨show (23 : Nat) < 100 from by decide, nf0⟩, List.forall_mem_cons.mpr ⟨⟨show (23 : Nat) < 100 from by decide, nf1⟩, List.forall_mem_cons.mpr ⟨⟨show (20 : Nat) < 100 from by decide, nf2⟩, List.forall_mem_cons.mpr ⟨⟨show (20 : Nat) < 100 from by decide, nf3⟩, List.forall_mem_cons.mpr ⟨⟨show (20 : Nat) < 100 from by decide, nf4⟩, List.forall_mem_cons.mpr ⟨⟨show (20 : Nat) < 100 from by decide, nf5⟩, List.forall_mem_cons.mpr ⟨⟨show (23 : Nat) < 100 from by decide, nf6⟩, List.forall_mem_cons.mpr ⟨⟨show (23 : Nat) < 100 from by decide, nf7⟩, (fun _ h => (by cases h))⟩⟩⟩⟩⟩⟩⟩⟩, (fun _ h => (by cases h))⟩
set_option maxHeartbeats 4000000 in
theorem vc_Mo_of_at_s5003_7_0 (x2 : Int) (x3 : Int) (x4 : Int) (x7 : Int) (x9 : Int) (x13 : Int) (x15 : Int) (x16 : Int) (x17 : Int) (fault_0 : Int) (from_0 : Int) (pos_0 : Int) (kind_0 : Int) (k2 : 9 ≤ x2 ∧ x2 ≤ 9) (k3 : 0 ≤ x3 ∧ x3 ≤ 2000) (k4 : (-1) ≤ x4 ∧ x4 ≤ 48) (k7 : 9 ≤ x7 ∧ x7 ≤ 9) (k9 : 0 ≤ x9 ∧ x9 ≤ 2000) (k13 : 0 ≤ x13 ∧ x13 ≤ 2000) (k15 : 0 ≤ x15 ∧ x15 ≤ 2000) (k16 : 1 ≤ x16 ∧ x16 ≤ 5) (k17 : 0 ≤ x17 ∧ x17 ≤ 0) (f0 : 0 < x16) (g1 : x16 = fault_0) (f2 : x16 ≠ 0) (f3 : x16 ≠ 0) (f4 : 1 * x15 + ((-1) * x13 + 0) ≤ 0) (f5 : (-1) * x15 + (1 * x13 + 0) ≤ 0) (f6 : 1 * x3 + ((-1) * x15 + 0) ≤ (-1)) (f7 : (-1) * x9 + ((-1) * x15 + 0) ≤ (-2000)) (f8 : 1 * x3 + ((-1) * x13 + 0) ≤ (-1)) (f9 : (-1) * x9 + ((-1) * x13 + 0) ≤ (-2000)) (f10 : (-1) * x4 + 0 ≤ 0) (f13 : 1 * from_0 + ((-1) * pos_0 + 0) ≤ 0) (f14 : ((kind_0 = 1) → (pos_0 ≤ (from_0 + 8))) ∧ ((kind_0 = 0) ∨ ((from_0 + 1) ≤ pos_0))) (f15 : 1 * x15 + ((-1) * pos_0 + 0) ≤ 0) (f16 : (1 ≤ fault_0) ∨ ((x15 + 1) ≤ pos_0)) (f18 : 1 * x15 + ((-1) * x13 + 0) ≤ 0) (f19 : (-1) * x15 + (1 * x13 + 0) ≤ 0) (f20 : 1 * x3 + ((-1) * x15 + 0) ≤ (-1)) (f21 : (-1) * x9 + ((-1) * x15 + 0) ≤ (-2000)) (f22 : 1 * x3 + ((-1) * x13 + 0) ≤ (-1)) (f23 : (-1) * x9 + ((-1) * x13 + 0) ≤ (-2000)) (f24 : (-1) * x4 + 0 ≤ 0) (f26 : 1 * x3 + ((-1) * x13 + 0) ≤ (-1)) (f27 : (-1) * x9 + ((-1) * x13 + 0) ≤ (-2000)) (f28 : (-1) * x4 + 0 ≤ 0) (f30 : (-1) * x4 + 0 ≤ 0) (kz_0_8 : 0 ≤ fault_0 ∧ fault_0 ≤ 5) (kz_0_11 : 0 ≤ pos_0 ∧ pos_0 ≤ 2000) (kz_0_12 : 0 ≤ kind_0 ∧ kind_0 ≤ 4) (kz_0_15 : 0 ≤ from_0 ∧ from_0 ≤ 2000) : 1 * from_0 + ((-1) * pos_0 + 0) ≤ 0 := by
  first | assumption | (clear f14 f16; omega) | omega | grind
set_option maxHeartbeats 4000000 in
theorem vc_Mo_of_at_s5003_7_1 (x2 : Int) (x3 : Int) (x4 : Int) (x7 : Int) (x9 : Int) (x13 : Int) (x15 : Int) (x16 : Int) (x17 : Int) (fault_0 : Int) (from_0 : Int) (pos_0 : Int) (kind_0 : Int) (k2 : 9 ≤ x2 ∧ x2 ≤ 9) (k3 : 0 ≤ x3 ∧ x3 ≤ 2000) (k4 : (-1) ≤ x4 ∧ x4 ≤ 48) (k7 : 9 ≤ x7 ∧ x7 ≤ 9) (k9 : 0 ≤ x9 ∧ x9 ≤ 2000) (k13 : 0 ≤ x13 ∧ x13 ≤ 2000) (k15 : 0 ≤ x15 ∧ x15 ≤ 2000) (k16 : 1 ≤ x16 ∧ x16 ≤ 5) (k17 : 0 ≤ x17 ∧ x17 ≤ 0) (f0 : 0 < x16) (g1 : x16 = fault_0) (f2 : x16 ≠ 0) (f3 : x16 ≠ 0) (f4 : 1 * x15 + ((-1) * x13 + 0) ≤ 0) (f5 : (-1) * x15 + (1 * x13 + 0) ≤ 0) (f6 : 1 * x3 + ((-1) * x15 + 0) ≤ (-1)) (f7 : (-1) * x9 + ((-1) * x15 + 0) ≤ (-2000)) (f8 : 1 * x3 + ((-1) * x13 + 0) ≤ (-1)) (f9 : (-1) * x9 + ((-1) * x13 + 0) ≤ (-2000)) (f10 : (-1) * x4 + 0 ≤ 0) (f13 : 1 * from_0 + ((-1) * pos_0 + 0) ≤ 0) (f14 : ((kind_0 = 1) → (pos_0 ≤ (from_0 + 8))) ∧ ((kind_0 = 0) ∨ ((from_0 + 1) ≤ pos_0))) (f15 : 1 * x15 + ((-1) * pos_0 + 0) ≤ 0) (f16 : (1 ≤ fault_0) ∨ ((x15 + 1) ≤ pos_0)) (f18 : 1 * x15 + ((-1) * x13 + 0) ≤ 0) (f19 : (-1) * x15 + (1 * x13 + 0) ≤ 0) (f20 : 1 * x3 + ((-1) * x15 + 0) ≤ (-1)) (f21 : (-1) * x9 + ((-1) * x15 + 0) ≤ (-2000)) (f22 : 1 * x3 + ((-1) * x13 + 0) ≤ (-1)) (f23 : (-1) * x9 + ((-1) * x13 + 0) ≤ (-2000)) (f24 : (-1) * x4 + 0 ≤ 0) (f26 : 1 * x3 + ((-1) * x13 + 0) ≤ (-1)) (f27 : (-1) * x9 + ((-1) * x13 + 0) ≤ (-2000)) (f28 : (-1) * x4 + 0 ≤ 0) (f30 : (-1) * x4 + 0 ≤ 0) (kz_0_8 : 0 ≤ fault_0 ∧ fault_0 ≤ 5) (kz_0_11 : 0 ≤ pos_0 ∧ pos_0 ≤ 2000) (kz_0_12 : 0 ≤ kind_0 ∧ kind_0 ≤ 4) (kz_0_15 : 0 ≤ from_0 ∧ from_0 ≤ 2000) : ((kind_0 = 1) → (pos_0 ≤ (from_0 + 8))) ∧ ((kind_0 = 0) ∨ ((from_0 + 1) ≤ pos_0)) := by
  first | assumption | (clear f14 f16; omega) | omega | grind
set_option maxHeartbeats 4000000 in
theorem vc_Mo_of_at_s5003_7_2 (x2 : Int) (x3 : Int) (x4 : Int) (x7 : Int) (x9 : Int) (x13 : Int) (x15 : Int) (x16 : Int) (x17 : Int) (fault_0 : Int) (from_0 : Int) (pos_0 : Int) (kind_0 : Int) (k2 : 9 ≤ x2 ∧ x2 ≤ 9) (k3 : 0 ≤ x3 ∧ x3 ≤ 2000) (k4 : (-1) ≤ x4 ∧ x4 ≤ 48) (k7 : 9 ≤ x7 ∧ x7 ≤ 9) (k9 : 0 ≤ x9 ∧ x9 ≤ 2000) (k13 : 0 ≤ x13 ∧ x13 ≤ 2000) (k15 : 0 ≤ x15 ∧ x15 ≤ 2000) (k16 : 1 ≤ x16 ∧ x16 ≤ 5) (k17 : 0 ≤ x17 ∧ x17 ≤ 0) (f0 : 0 < x16) (g1 : x16 = fault_0) (f2 : x16 ≠ 0) (f3 : x16 ≠ 0) (f4 : 1 * x15 + ((-1) * x13 + 0) ≤ 0) (f5 : (-1) * x15 + (1 * x13 + 0) ≤ 0) (f6 : 1 * x3 + ((-1) * x15 + 0) ≤ (-1)) (f7 : (-1) * x9 + ((-1) * x15 + 0) ≤ (-2000)) (f8 : 1 * x3 + ((-1) * x13 + 0) ≤ (-1)) (f9 : (-1) * x9 + ((-1) * x13 + 0) ≤ (-2000)) (f10 : (-1) * x4 + 0 ≤ 0) (f13 : 1 * from_0 + ((-1) * pos_0 + 0) ≤ 0) (f14 : ((kind_0 = 1) → (pos_0 ≤ (from_0 + 8))) ∧ ((kind_0 = 0) ∨ ((from_0 + 1) ≤ pos_0))) (f15 : 1 * x15 + ((-1) * pos_0 + 0) ≤ 0) (f16 : (1 ≤ fault_0) ∨ ((x15 + 1) ≤ pos_0)) (f18 : 1 * x15 + ((-1) * x13 + 0) ≤ 0) (f19 : (-1) * x15 + (1 * x13 + 0) ≤ 0) (f20 : 1 * x3 + ((-1) * x15 + 0) ≤ (-1)) (f21 : (-1) * x9 + ((-1) * x15 + 0) ≤ (-2000)) (f22 : 1 * x3 + ((-1) * x13 + 0) ≤ (-1)) (f23 : (-1) * x9 + ((-1) * x13 + 0) ≤ (-2000)) (f24 : (-1) * x4 + 0 ≤ 0) (f26 : 1 * x3 + ((-1) * x13 + 0) ≤ (-1)) (f27 : (-1) * x9 + ((-1) * x13 + 0) ≤ (-2000)) (f28 : (-1) * x4 + 0 ≤ 0) (f30 : (-1) * x4 + 0 ≤ 0) (kz_0_8 : 0 ≤ fault_0 ∧ fault_0 ≤ 5) (kz_0_11 : 0 ≤ pos_0 ∧ pos_0 ≤ 2000) (kz_0_12 : 0 ≤ kind_0 ∧ kind_0 ≤ 4) (kz_0_15 : 0 ≤ from_0 ∧ from_0 ≤ 2000) : 1 * x3 + ((-1) * pos_0 + 0) ≤ 0 := by
  first | assumption | (clear f14 f16; omega) | omega | grind
set_option maxHeartbeats 4000000 in
theorem vc_Mo_of_at_s5003_7_3 (x2 : Int) (x3 : Int) (x4 : Int) (x7 : Int) (x9 : Int) (x13 : Int) (x15 : Int) (x16 : Int) (x17 : Int) (fault_0 : Int) (from_0 : Int) (pos_0 : Int) (kind_0 : Int) (k2 : 9 ≤ x2 ∧ x2 ≤ 9) (k3 : 0 ≤ x3 ∧ x3 ≤ 2000) (k4 : (-1) ≤ x4 ∧ x4 ≤ 48) (k7 : 9 ≤ x7 ∧ x7 ≤ 9) (k9 : 0 ≤ x9 ∧ x9 ≤ 2000) (k13 : 0 ≤ x13 ∧ x13 ≤ 2000) (k15 : 0 ≤ x15 ∧ x15 ≤ 2000) (k16 : 1 ≤ x16 ∧ x16 ≤ 5) (k17 : 0 ≤ x17 ∧ x17 ≤ 0) (f0 : 0 < x16) (g1 : x16 = fault_0) (f2 : x16 ≠ 0) (f3 : x16 ≠ 0) (f4 : 1 * x15 + ((-1) * x13 + 0) ≤ 0) (f5 : (-1) * x15 + (1 * x13 + 0) ≤ 0) (f6 : 1 * x3 + ((-1) * x15 + 0) ≤ (-1)) (f7 : (-1) * x9 + ((-1) * x15 + 0) ≤ (-2000)) (f8 : 1 * x3 + ((-1) * x13 + 0) ≤ (-1)) (f9 : (-1) * x9 + ((-1) * x13 + 0) ≤ (-2000)) (f10 : (-1) * x4 + 0 ≤ 0) (f13 : 1 * from_0 + ((-1) * pos_0 + 0) ≤ 0) (f14 : ((kind_0 = 1) → (pos_0 ≤ (from_0 + 8))) ∧ ((kind_0 = 0) ∨ ((from_0 + 1) ≤ pos_0))) (f15 : 1 * x15 + ((-1) * pos_0 + 0) ≤ 0) (f16 : (1 ≤ fault_0) ∨ ((x15 + 1) ≤ pos_0)) (f18 : 1 * x15 + ((-1) * x13 + 0) ≤ 0) (f19 : (-1) * x15 + (1 * x13 + 0) ≤ 0) (f20 : 1 * x3 + ((-1) * x15 + 0) ≤ (-1)) (f21 : (-1) * x9 + ((-1) * x15 + 0) ≤ (-2000)) (f22 : 1 * x3 + ((-1) * x13 + 0) ≤ (-1)) (f23 : (-1) * x9 + ((-1) * x13 + 0) ≤ (-2000)) (f24 : (-1) * x4 + 0 ≤ 0) (f26 : 1 * x3 + ((-1) * x13 + 0) ≤ (-1)) (f27 : (-1) * x9 + ((-1) * x13 + 0) ≤ (-2000)) (f28 : (-1) * x4 + 0 ≤ 0) (f30 : (-1) * x4 + 0 ≤ 0) (kz_0_8 : 0 ≤ fault_0 ∧ fault_0 ≤ 5) (kz_0_11 : 0 ≤ pos_0 ∧ pos_0 ≤ 2000) (kz_0_12 : 0 ≤ kind_0 ∧ kind_0 ≤ 4) (kz_0_15 : 0 ≤ from_0 ∧ from_0 ≤ 2000) : (1 ≤ fault_0) ∨ ((kind_0 = 0) ∨ ((x3 + 1) ≤ pos_0)) := by
  first | assumption | (clear f14 f16; omega) | omega | grind
set_option maxHeartbeats 4000000 in
theorem vc_Mo_of_at_s5003_7_4 (x2 : Int) (x3 : Int) (x4 : Int) (x7 : Int) (x9 : Int) (x13 : Int) (x15 : Int) (x16 : Int) (x17 : Int) (fault_0 : Int) (from_0 : Int) (pos_0 : Int) (kind_0 : Int) (k2 : 9 ≤ x2 ∧ x2 ≤ 9) (k3 : 0 ≤ x3 ∧ x3 ≤ 2000) (k4 : (-1) ≤ x4 ∧ x4 ≤ 48) (k7 : 9 ≤ x7 ∧ x7 ≤ 9) (k9 : 0 ≤ x9 ∧ x9 ≤ 2000) (k13 : 0 ≤ x13 ∧ x13 ≤ 2000) (k15 : 0 ≤ x15 ∧ x15 ≤ 2000) (k16 : 1 ≤ x16 ∧ x16 ≤ 5) (k17 : 0 ≤ x17 ∧ x17 ≤ 0) (f0 : 0 < x16) (g1 : x16 = fault_0) (f2 : x16 ≠ 0) (f3 : x16 ≠ 0) (f4 : 1 * x15 + ((-1) * x13 + 0) ≤ 0) (f5 : (-1) * x15 + (1 * x13 + 0) ≤ 0) (f6 : 1 * x3 + ((-1) * x15 + 0) ≤ (-1)) (f7 : (-1) * x9 + ((-1) * x15 + 0) ≤ (-2000)) (f8 : 1 * x3 + ((-1) * x13 + 0) ≤ (-1)) (f9 : (-1) * x9 + ((-1) * x13 + 0) ≤ (-2000)) (f10 : (-1) * x4 + 0 ≤ 0) (f13 : 1 * from_0 + ((-1) * pos_0 + 0) ≤ 0) (f14 : ((kind_0 = 1) → (pos_0 ≤ (from_0 + 8))) ∧ ((kind_0 = 0) ∨ ((from_0 + 1) ≤ pos_0))) (f15 : 1 * x15 + ((-1) * pos_0 + 0) ≤ 0) (f16 : (1 ≤ fault_0) ∨ ((x15 + 1) ≤ pos_0)) (f18 : 1 * x15 + ((-1) * x13 + 0) ≤ 0) (f19 : (-1) * x15 + (1 * x13 + 0) ≤ 0) (f20 : 1 * x3 + ((-1) * x15 + 0) ≤ (-1)) (f21 : (-1) * x9 + ((-1) * x15 + 0) ≤ (-2000)) (f22 : 1 * x3 + ((-1) * x13 + 0) ≤ (-1)) (f23 : (-1) * x9 + ((-1) * x13 + 0) ≤ (-2000)) (f24 : (-1) * x4 + 0 ≤ 0) (f26 : 1 * x3 + ((-1) * x13 + 0) ≤ (-1)) (f27 : (-1) * x9 + ((-1) * x13 + 0) ≤ (-2000)) (f28 : (-1) * x4 + 0 ≤ 0) (f30 : (-1) * x4 + 0 ≤ 0) (kz_0_8 : 0 ≤ fault_0 ∧ fault_0 ≤ 5) (kz_0_11 : 0 ≤ pos_0 ∧ pos_0 ≤ 2000) (kz_0_12 : 0 ≤ kind_0 ∧ kind_0 ≤ 4) (kz_0_15 : 0 ≤ from_0 ∧ from_0 ≤ 2000) : (1 ≤ fault_0) ∨ (0 ≤ x4) := by
  first | assumption | (clear f14 f16; omega) | omega | grind
set_option maxHeartbeats 4000000 in
theorem vc_Mo_of_at_s5003_7_5 (x2 : Int) (x3 : Int) (x4 : Int) (x7 : Int) (x9 : Int) (x13 : Int) (x15 : Int) (x16 : Int) (x17 : Int) (fault_0 : Int) (from_0 : Int) (pos_0 : Int) (kind_0 : Int) (k2 : 9 ≤ x2 ∧ x2 ≤ 9) (k3 : 0 ≤ x3 ∧ x3 ≤ 2000) (k4 : (-1) ≤ x4 ∧ x4 ≤ 48) (k7 : 9 ≤ x7 ∧ x7 ≤ 9) (k9 : 0 ≤ x9 ∧ x9 ≤ 2000) (k13 : 0 ≤ x13 ∧ x13 ≤ 2000) (k15 : 0 ≤ x15 ∧ x15 ≤ 2000) (k16 : 1 ≤ x16 ∧ x16 ≤ 5) (k17 : 0 ≤ x17 ∧ x17 ≤ 0) (f0 : 0 < x16) (g1 : x16 = fault_0) (f2 : x16 ≠ 0) (f3 : x16 ≠ 0) (f4 : 1 * x15 + ((-1) * x13 + 0) ≤ 0) (f5 : (-1) * x15 + (1 * x13 + 0) ≤ 0) (f6 : 1 * x3 + ((-1) * x15 + 0) ≤ (-1)) (f7 : (-1) * x9 + ((-1) * x15 + 0) ≤ (-2000)) (f8 : 1 * x3 + ((-1) * x13 + 0) ≤ (-1)) (f9 : (-1) * x9 + ((-1) * x13 + 0) ≤ (-2000)) (f10 : (-1) * x4 + 0 ≤ 0) (f13 : 1 * from_0 + ((-1) * pos_0 + 0) ≤ 0) (f14 : ((kind_0 = 1) → (pos_0 ≤ (from_0 + 8))) ∧ ((kind_0 = 0) ∨ ((from_0 + 1) ≤ pos_0))) (f15 : 1 * x15 + ((-1) * pos_0 + 0) ≤ 0) (f16 : (1 ≤ fault_0) ∨ ((x15 + 1) ≤ pos_0)) (f18 : 1 * x15 + ((-1) * x13 + 0) ≤ 0) (f19 : (-1) * x15 + (1 * x13 + 0) ≤ 0) (f20 : 1 * x3 + ((-1) * x15 + 0) ≤ (-1)) (f21 : (-1) * x9 + ((-1) * x15 + 0) ≤ (-2000)) (f22 : 1 * x3 + ((-1) * x13 + 0) ≤ (-1)) (f23 : (-1) * x9 + ((-1) * x13 + 0) ≤ (-2000)) (f24 : (-1) * x4 + 0 ≤ 0) (f26 : 1 * x3 + ((-1) * x13 + 0) ≤ (-1)) (f27 : (-1) * x9 + ((-1) * x13 + 0) ≤ (-2000)) (f28 : (-1) * x4 + 0 ≤ 0) (f30 : (-1) * x4 + 0 ≤ 0) (kz_0_8 : 0 ≤ fault_0 ∧ fault_0 ≤ 5) (kz_0_11 : 0 ≤ pos_0 ∧ pos_0 ≤ 2000) (kz_0_12 : 0 ≤ kind_0 ∧ kind_0 ≤ 4) (kz_0_15 : 0 ≤ from_0 ∧ from_0 ≤ 2000) : 1 * x17 + ((-1) * x2 + 0) ≤ 0 := by
  first | assumption | (clear f14 f16; omega) | omega | grind
set_option maxHeartbeats 4000000 in
theorem vc_Mo_of_at_s5003_7_6 (x2 : Int) (x3 : Int) (x4 : Int) (x7 : Int) (x9 : Int) (x13 : Int) (x15 : Int) (x16 : Int) (x17 : Int) (fault_0 : Int) (from_0 : Int) (pos_0 : Int) (kind_0 : Int) (k2 : 9 ≤ x2 ∧ x2 ≤ 9) (k3 : 0 ≤ x3 ∧ x3 ≤ 2000) (k4 : (-1) ≤ x4 ∧ x4 ≤ 48) (k7 : 9 ≤ x7 ∧ x7 ≤ 9) (k9 : 0 ≤ x9 ∧ x9 ≤ 2000) (k13 : 0 ≤ x13 ∧ x13 ≤ 2000) (k15 : 0 ≤ x15 ∧ x15 ≤ 2000) (k16 : 1 ≤ x16 ∧ x16 ≤ 5) (k17 : 0 ≤ x17 ∧ x17 ≤ 0) (f0 : 0 < x16) (g1 : x16 = fault_0) (f2 : x16 ≠ 0) (f3 : x16 ≠ 0) (f4 : 1 * x15 + ((-1) * x13 + 0) ≤ 0) (f5 : (-1) * x15 + (1 * x13 + 0) ≤ 0) (f6 : 1 * x3 + ((-1) * x15 + 0) ≤ (-1)) (f7 : (-1) * x9 + ((-1) * x15 + 0) ≤ (-2000)) (f8 : 1 * x3 + ((-1) * x13 + 0) ≤ (-1)) (f9 : (-1) * x9 + ((-1) * x13 + 0) ≤ (-2000)) (f10 : (-1) * x4 + 0 ≤ 0) (f13 : 1 * from_0 + ((-1) * pos_0 + 0) ≤ 0) (f14 : ((kind_0 = 1) → (pos_0 ≤ (from_0 + 8))) ∧ ((kind_0 = 0) ∨ ((from_0 + 1) ≤ pos_0))) (f15 : 1 * x15 + ((-1) * pos_0 + 0) ≤ 0) (f16 : (1 ≤ fault_0) ∨ ((x15 + 1) ≤ pos_0)) (f18 : 1 * x15 + ((-1) * x13 + 0) ≤ 0) (f19 : (-1) * x15 + (1 * x13 + 0) ≤ 0) (f20 : 1 * x3 + ((-1) * x15 + 0) ≤ (-1)) (f21 : (-1) * x9 + ((-1) * x15 + 0) ≤ (-2000)) (f22 : 1 * x3 + ((-1) * x13 + 0) ≤ (-1)) (f23 : (-1) * x9 + ((-1) * x13 + 0) ≤ (-2000)) (f24 : (-1) * x4 + 0 ≤ 0) (f26 : 1 * x3 + ((-1) * x13 + 0) ≤ (-1)) (f27 : (-1) * x9 + ((-1) * x13 + 0) ≤ (-2000)) (f28 : (-1) * x4 + 0 ≤ 0) (f30 : (-1) * x4 + 0 ≤ 0) (kz_0_8 : 0 ≤ fault_0 ∧ fault_0 ≤ 5) (kz_0_11 : 0 ≤ pos_0 ∧ pos_0 ≤ 2000) (kz_0_12 : 0 ≤ kind_0 ∧ kind_0 ≤ 4) (kz_0_15 : 0 ≤ from_0 ∧ from_0 ≤ 2000) : (-1) * x17 + 0 ≤ 0 := by
  first | assumption | (clear f14 f16; omega) | omega | grind
def o_Mo_of_at_s5003_7 : or_T := (129, 18, [(0, (2, 0, 0, [165])), (2, (0, 9, 9, [])), (3, (0, 0, 2000, [])), (4, (0, -1, 48, [])), (7, (0, 9, 9, [])), (9, (0, 0, 2000, [])), (13, (0, 0, 2000, [])), (15, (0, 0, 2000, [])), (16, (0, 1, 5, [])), (17, (0, 0, 0, []))], [(8, [16], [4]), (9, [16, 5], [8]), (8, [16], [1]), (8, [16], [1]), (23, [15, 13], [0, 1, -1]), (23, [15, 13], [0, -1, 1]), (23, [3, 15], [-1, 1, -1]), (23, [9, 15], [-2000, -1, -1]), (23, [3, 13], [-1, 1, -1]), (23, [9, 13], [-2000, -1, -1]), (23, [4], [0, -1]), (24, [0, 5], []), (20, [5, 5], [30, 0, 1, 1, 15, -1, 1, 11]), (20, [5], [50, 3, 0, 12, 11, 15, 2, 21, 4, 7, 1, 3, 2, 0, 12, 0, 1, 0, 3, 2, 0, 11, 4, 3, 2, 0, 15, 0, 8, 3, 7, 1, 3, 2, 0, 12, 0, 0, 0, 7, 4, 3, 2, 0, 15, 0, 1, 2, 0, 11]), (20, [15, 5], [30, 0, 1, 0, 0, -1, 1, 11]), (20, [5, 15], [50, 2, 0, 8, 11, 3, 7, 0, 2, 0, 1, 2, 0, 8, 0, 6, 4, 2, 1, 1, 0, 1, 2, 0, 11]), (102, [15], [0, 165008, 165009, 165011, 165012, 165013, 165014, 165015]), (23, [15, 13], [0, 1, -1]), (23, [15, 13], [0, -1, 1]), (23, [3, 15], [-1, 1, -1]), (23, [9, 15], [-2000, -1, -1]), (23, [3, 13], [-1, 1, -1]), (23, [9, 13], [-2000, -1, -1]), (23, [4], [0, -1]), (102, [13], [0, 165011, 165012, 165013, 165014, 165015]), (23, [3, 13], [-1, 1, -1]), (23, [9, 13], [-2000, -1, -1]), (23, [4], [0, -1]), (102, [11], [0]), (23, [4], [0, -1])], [], [], [(20, [0, 0], [30, 0, 1, 1, 15, -1, 1, 11]), (20, [0], [50, 3, 0, 12, 11, 15, 2, 21, 4, 7, 1, 3, 2, 0, 12, 0, 1, 0, 3, 2, 0, 11, 4, 3, 2, 0, 15, 0, 8, 3, 7, 1, 3, 2, 0, 12, 0, 0, 0, 7, 4, 3, 2, 0, 15, 0, 1, 2, 0, 11]), (20, [3, 0], [30, 0, 1, 0, 0, -1, 1, 11]), (20, [0, 3], [50, 3, 0, 8, 12, 11, 3, 7, 0, 2, 0, 1, 2, 0, 8, 3, 7, 1, 3, 2, 0, 12, 0, 0, 0, 6, 4, 2, 1, 1, 0, 1, 2, 0, 11]), (20, [0, 4], [50, 1, 0, 8, 3, 7, 0, 2, 0, 1, 2, 0, 8, 0, 2, 0, 0, 1, 1]), (20, [17, 2], [30, 0, 1, 0, 0, -1, 0, 0]), (20, [17], [30, 0, -1, 0, 0])], [], [])
theorem oo_Mo_of_at_s5003_7 {kA : Nat → ClassId} : or_ok PRD kA GG o_Mo_of_at_s5003_7 := by
  refine or_mk fun A ta ws vs hD hth hl => ?_
  intro t0 r0 t2 k2 t3 k3 t4 k4 t7 k7 t9 k9 t13 k13 t15 k15 t16 k16 t17 k17 f0 f1 f2 f3 f4 f5 f6 f7 f8 f9 f10 f11 f13 f14 f15 f16 ta1 w1 le1 s1 f18 f19 f20 f21 f22 f23 f24 ta2 w2 le2 s2 f26 f27 f28 ta3 w3 le3 s3 f30
  replace f1 := shm_143 f1
  replace f11 := shm_5 f11
  replace f13 := shm_1397 f13
  replace f14 := shm_1398 f14
  replace f15 := shm_1395 f15
  replace f16 := shm_1659 f16
  have q5 : n_v vs 5 = n_v vs 0 := f11.symm
  simp only [q5] at f1 f13 f14 f15 f16
  have g1 : v_iv (n_v vs 16) = w_fi ws (n_v vs 0) 8 := congrArg v_iv f1
  have kz_0_8 := fdq_14 hD hth r0
  have kz_0_11 := fdq_273 hD hth r0
  have kz_0_12 := fdq_186 hD hth r0
  have kz_0_15 := fdq_274 hD hth r0
  have nf0 : fc_1 PRD (20, [0, 0], [30, 0, 1, 1, 15, -1, 1, 11]) ws (vs) := ⟨nf_in hl rfl, sgq_1397 (vc_Mo_of_at_s5003_7_0 (v_iv (n_v vs 2)) (v_iv (n_v vs 3)) (v_iv (n_v vs 4)) (v_iv (n_v vs 7)) (v_iv (n_v vs 9)) (v_iv (n_v vs 13)) (v_iv (n_v vs 15)) (v_iv (n_v vs 16)) (v_iv (n_v vs 17)) (w_fi ws (n_v vs 0) 8) (w_fi ws (n_v vs 0) 15) (w_fi ws (n_v vs 0) 11) (w_fi ws (n_v vs 0) 12) k2 k3 k4 k7 k9 k13 k15 k16 k17 (shm_145 f0) g1 (shm_154 f2) (shm_154 f3) (shm_7 f4) (shm_22 f5) (shm_211 f6) (shm_1894 f7) (shm_211 f8) (shm_1894 f9) (shm_1013 f10) f13 f14 f15 f16 (shm_7 f18) (shm_22 f19) (shm_211 f20) (shm_1894 f21) (shm_211 f22) (shm_1894 f23) (shm_1013 f24) (shm_211 f26) (shm_1894 f27) (shm_1013 f28) (shm_1013 f30) kz_0_8 kz_0_11 kz_0_12 kz_0_15)⟩
  have nf1 : fc_1 PRD (20, [0], [50, 3, 0, 12, 11, 15, 2, 21, 4, 7, 1, 3, 2, 0, 12, 0, 1, 0, 3, 2, 0, 11, 4, 3, 2, 0, 15, 0, 8, 3, 7, 1, 3, 2, 0, 12, 0, 0, 0, 7, 4, 3, 2, 0, 15, 0, 1, 2, 0, 11]) ws (vs) := ⟨nf_in hl rfl, sgq_1398 (vc_Mo_of_at_s5003_7_1 (v_iv (n_v vs 2)) (v_iv (n_v vs 3)) (v_iv (n_v vs 4)) (v_iv (n_v vs 7)) (v_iv (n_v vs 9)) (v_iv (n_v vs 13)) (v_iv (n_v vs 15)) (v_iv (n_v vs 16)) (v_iv (n_v vs 17)) (w_fi ws (n_v vs 0) 8) (w_fi ws (n_v vs 0) 15) (w_fi ws (n_v vs 0) 11) (w_fi ws (n_v vs 0) 12) k2 k3 k4 k7 k9 k13 k15 k16 k17 (shm_145 f0) g1 (shm_154 f2) (shm_154 f3) (shm_7 f4) (shm_22 f5) (shm_211 f6) (shm_1894 f7) (shm_211 f8) (shm_1894 f9) (shm_1013 f10) f13 f14 f15 f16 (shm_7 f18) (shm_22 f19) (shm_211 f20) (shm_1894 f21) (shm_211 f22) (shm_1894 f23) (shm_1013 f24) (shm_211 f26) (shm_1894 f27) (shm_1013 f28) (shm_1013 f30) kz_0_8 kz_0_11 kz_0_12 kz_0_15)⟩
  have nf2 : fc_1 PRD (20, [3, 0], [30, 0, 1, 0, 0, -1, 1, 11]) ws (vs) := ⟨nf_in hl rfl, sgq_1395 (vc_Mo_of_at_s5003_7_2 (v_iv (n_v vs 2)) (v_iv (n_v vs 3)) (v_iv (n_v vs 4)) (v_iv (n_v vs 7)) (v_iv (n_v vs 9)) (v_iv (n_v vs 13)) (v_iv (n_v vs 15)) (v_iv (n_v vs 16)) (v_iv (n_v vs 17)) (w_fi ws (n_v vs 0) 8) (w_fi ws (n_v vs 0) 15) (w_fi ws (n_v vs 0) 11) (w_fi ws (n_v vs 0) 12) k2 k3 k4 k7 k9 k13 k15 k16 k17 (shm_145 f0) g1 (shm_154 f2) (shm_154 f3) (shm_7 f4) (shm_22 f5) (shm_211 f6) (shm_1894 f7) (shm_211 f8) (shm_1894 f9) (shm_1013 f10) f13 f14 f15 f16 (shm_7 f18) (shm_22 f19) (shm_211 f20) (shm_1894 f21) (shm_211 f22) (shm_1894 f23) (shm_1013 f24) (shm_211 f26) (shm_1894 f27) (shm_1013 f28) (shm_1013 f30) kz_0_8 kz_0_11 kz_0_12 kz_0_15)⟩
  have nf3 : fc_1 PRD (20, [0, 3], [50, 3, 0, 8, 12, 11, 3, 7, 0, 2, 0, 1, 2, 0, 8, 3, 7, 1, 3, 2, 0, 12, 0, 0, 0, 6, 4, 2, 1, 1, 0, 1, 2, 0, 11]) ws (vs) := ⟨nf_in hl rfl, sgq_1660 (vc_Mo_of_at_s5003_7_3 (v_iv (n_v vs 2)) (v_iv (n_v vs 3)) (v_iv (n_v vs 4)) (v_iv (n_v vs 7)) (v_iv (n_v vs 9)) (v_iv (n_v vs 13)) (v_iv (n_v vs 15)) (v_iv (n_v vs 16)) (v_iv (n_v vs 17)) (w_fi ws (n_v vs 0) 8) (w_fi ws (n_v vs 0) 15) (w_fi ws (n_v vs 0) 11) (w_fi ws (n_v vs 0) 12) k2 k3 k4 k7 k9 k13 k15 k16 k17 (shm_145 f0) g1 (shm_154 f2) (shm_154 f3) (shm_7 f4) (shm_22 f5) (shm_211 f6) (shm_1894 f7) (shm_211 f8) (shm_1894 f9) (shm_1013 f10) f13 f14 f15 f16 (shm_7 f18) (shm_22 f19) (shm_211 f20) (shm_1894 f21) (shm_211 f22) (shm_1894 f23) (shm_1013 f24) (shm_211 f26) (shm_1894 f27) (shm_1013 f28) (shm_1013 f30) kz_0_8 kz_0_11 kz_0_12 kz_0_15)⟩
  have nf4 : fc_1 PRD (20, [0, 4], [50, 1, 0, 8, 3, 7, 0, 2, 0, 1, 2, 0, 8, 0, 2, 0, 0, 1, 1]) ws (vs) := ⟨nf_in hl rfl, sgq_1889 (vc_Mo_of_at_s5003_7_4 (v_iv (n_v vs 2)) (v_iv (n_v vs 3)) (v_iv (n_v vs 4)) (v_iv (n_v vs 7)) (v_iv (n_v vs 9)) (v_iv (n_v vs 13)) (v_iv (n_v vs 15)) (v_iv (n_v vs 16)) (v_iv (n_v vs 17)) (w_fi ws (n_v vs 0) 8) (w_fi ws (n_v vs 0) 15) (w_fi ws (n_v vs 0) 11) (w_fi ws (n_v vs 0) 12) k2 k3 k4 k7 k9 k13 k15 k16 k17 (shm_145 f0) g1 (shm_154 f2) (shm_154 f3) (shm_7 f4) (shm_22 f5) (shm_211 f6) (shm_1894 f7) (shm_211 f8) (shm_1894 f9) (shm_1013 f10) f13 f14 f15 f16 (shm_7 f18) (shm_22 f19) (shm_211 f20) (shm_1894 f21) (shm_211 f22) (shm_1894 f23) (shm_1013 f24) (shm_211 f26) (shm_1894 f27) (shm_1013 f28) (shm_1013 f30) kz_0_8 kz_0_11 kz_0_12 kz_0_15)⟩
  have nf5 : fc_1 PRD (20, [17, 2], [30, 0, 1, 0, 0, -1, 0, 0]) ws (vs) := ⟨nf_in hl rfl, sgq_219 (vc_Mo_of_at_s5003_7_5 (v_iv (n_v vs 2)) (v_iv (n_v vs 3)) (v_iv (n_v vs 4)) (v_iv (n_v vs 7)) (v_iv (n_v vs 9)) (v_iv (n_v vs 13)) (v_iv (n_v vs 15)) (v_iv (n_v vs 16)) (v_iv (n_v vs 17)) (w_fi ws (n_v vs 0) 8) (w_fi ws (n_v vs 0) 15) (w_fi ws (n_v vs 0) 11) (w_fi ws (n_v vs 0) 12) k2 k3 k4 k7 k9 k13 k15 k16 k17 (shm_145 f0) g1 (shm_154 f2) (shm_154 f3) (shm_7 f4) (shm_22 f5) (shm_211 f6) (shm_1894 f7) (shm_211 f8) (shm_1894 f9) (shm_1013 f10) f13 f14 f15 f16 (shm_7 f18) (shm_22 f19) (shm_211 f20) (shm_1894 f21) (shm_211 f22) (shm_1894 f23) (shm_1013 f24) (shm_211 f26) (shm_1894 f27) (shm_1013 f28) (shm_1013 f30) kz_0_8 kz_0_11 kz_0_12 kz_0_15)⟩
  have nf6 : fc_1 PRD (20, [17], [30, 0, -1, 0, 0]) ws (vs) := ⟨nf_in hl rfl, sgq_1890 (vc_Mo_of_at_s5003_7_6 (v_iv (n_v vs 2)) (v_iv (n_v vs 3)) (v_iv (n_v vs 4)) (v_iv (n_v vs 7)) (v_iv (n_v vs 9)) (v_iv (n_v vs 13)) (v_iv (n_v vs 15)) (v_iv (n_v vs 16)) (v_iv (n_v vs 17)) (w_fi ws (n_v vs 0) 8) (w_fi ws (n_v vs 0) 15) (w_fi ws (n_v vs 0) 11) (w_fi ws (n_v vs 0) 12) k2 k3 k4 k7 k9 k13 k15 k16 k17 (shm_145 f0) g1 (shm_154 f2) (shm_154 f3) (shm_7 f4) (shm_22 f5) (shm_211 f6) (shm_1894 f7) (shm_211 f8) (shm_1894 f9) (shm_1013 f10) f13 f14 f15 f16 (shm_7 f18) (shm_22 f19) (shm_211 f20) (shm_1894 f21) (shm_211 f22) (shm_1894 f23) (shm_1013 f24) (shm_211 f26) (shm_1894 f27) (shm_1013 f28) (shm_1013 f30) kz_0_8 kz_0_11 kz_0_12 kz_0_15)⟩
  refine ⟨(fun _ h => (by cases h)), [], trivial, ?_, (fun _ h => (by cases h))⟩
  rw [List.append_nil]
  exact List.forall_mem_cons.mpr ⟨⟨show (20 : Nat) < 100 from by decide, nf0⟩, List.forall_mem_cons.mpr ⟨⟨show (20 : Nat) < 100 from by decide, nf1⟩, List.forall_mem_cons.mpr ⟨⟨show (20 : Nat) < 100 from by decide, nf2⟩, List.forall_mem_cons.mpr ⟨⟨show (20 : Nat) < 100 from by decide, nf3⟩, List.forall_mem_cons.mpr ⟨⟨show (20 : Nat) < 100 from by decide, nf4⟩, List.forall_mem_cons.mpr ⟨⟨show (20 : Nat) < 100 from by decide, nf5⟩, List.forall_mem_cons.mpr ⟨⟨show (20 : Nat) < 100 from by decide, nf6⟩, (fun _ h => (by cases h))⟩⟩⟩⟩⟩⟩⟩
set_option maxHeartbeats 4000000 in
theorem vc_Mo_of_at_s5003_8_0 (x2 : Int) (x3 : Int) (x7 : Int) (x8 : Int) (x9 : Int) (x13 : Int) (x15 : Int) (x19 : Int) (x24 : Int) (value_0 : Int) (fault_0 : Int) (from_0 : Int) (pos_0 : Int) (kind_0 : Int) (k2 : 9 ≤ x2 ∧ x2 ≤ 9) (k3 : 0 ≤ x3 ∧ x3 ≤ 2000) (k7 : 9 ≤ x7 ∧ x7 ≤ 9) (k8 : (-2147483648) ≤ x8 ∧ x8 ≤ 0) (k9 : 0 ≤ x9 ∧ x9 ≤ 2000) (k13 : 0 ≤ x13 ∧ x13 ≤ 2000) (k15 : 0 ≤ x15 ∧ x15 ≤ 2000) (k19 : (-2147483648) ≤ x19 ∧ x19 ≤ 0) (k24 : 0 ≤ x24 ∧ x24 ≤ 0) (g0 : x19 = value_0) (f1 : x24 ≤ 0) (g2 : x24 = fault_0) (f3 : 1 * x15 + ((-1) * x13 + 0) ≤ 0) (f4 : (-1) * x15 + (1 * x13 + 0) ≤ 0) (f5 : 1 * x3 + ((-1) * x15 + 0) ≤ (-1)) (f6 : (-1) * x9 + ((-1) * x15 + 0) ≤ (-2000)) (f7 : 1 * x3 + ((-1) * x13 + 0) ≤ (-1)) (f8 : (-1) * x9 + ((-1) * x13 + 0) ≤ (-2000)) (f9 : 1 * x8 + ((-1) * x2 + 0) ≤ 0) (f10 : (-1) * x8 + 0 ≤ 0) (f13 : 1 * from_0 + ((-1) * pos_0 + 0) ≤ 0) (f14 : ((kind_0 = 1) → (pos_0 ≤ (from_0 + 8))) ∧ ((kind_0 = 0) ∨ ((from_0 + 1) ≤ pos_0))) (f15 : 1 * x15 + ((-1) * pos_0 + 0) ≤ 0) (f16 : (-1) * fault_0 + 0 ≤ (-1)) (f18 : 1 * x15 + ((-1) * x13 + 0) ≤ 0) (f19 : (-1) * x15 + (1 * x13 + 0) ≤ 0) (f20 : 1 * x3 + ((-1) * x15 + 0) ≤ (-1)) (f21 : (-1) * x9 + ((-1) * x15 + 0) ≤ (-2000)) (f22 : 1 * x3 + ((-1) * x13 + 0) ≤ (-1)) (f23 : (-1) * x9 + ((-1) * x13 + 0) ≤ (-2000)) (f24 : 1 * x8 + ((-1) * x2 + 0) ≤ 0) (f25 : (-1) * x8 + 0 ≤ 0) (f27 : 1 * x15 + ((-1) * x13 + 0) ≤ 0) (f28 : (-1) * x15 + (1 * x13 + 0) ≤ 0) (f29 : 1 * x3 + ((-1) * x15 + 0) ≤ (-1)) (f30 : (-1) * x9 + ((-1) * x15 + 0) ≤ (-2000)) (f31 : 1 * x3 + ((-1) * x13 + 0) ≤ (-1)) (f32 : (-1) * x9 + ((-1) * x13 + 0) ≤ (-2000)) (f33 : 1 * x8 + ((-1) * x2 + 0) ≤ 0) (f34 : (-1) * x8 + 0 ≤ 0) (f36 : 1 * x3 + ((-1) * x13 + 0) ≤ (-1)) (f37 : (-1) * x9 + ((-1) * x13 + 0) ≤ (-2000)) (f38 : x8 ≤ 0) (f39 : 1 * x8 + ((-1) * x2 + 0) ≤ 0) (f40 : (-1) * x8 + 0 ≤ 0) (f42 : 1 * x8 + ((-1) * x2 + 0) ≤ 0) (f43 : (-1) * x8 + 0 ≤ 0) (kz_0_8 : 0 ≤ fault_0 ∧ fault_0 ≤ 5) (kz_0_11 : 0 ≤ pos_0 ∧ pos_0 ≤ 2000) (kz_0_12 : 0 ≤ kind_0 ∧ kind_0 ≤ 4) (kz_0_14 : (-2147483648) ≤ value_0 ∧ value_0 ≤ 2147483647) (kz_0_15 : 0 ≤ from_0 ∧ from_0 ≤ 2000) : 1 * x19 + ((-1) * x2 + 0) ≤ 0 := by
  first | assumption | (clear f14; omega) | omega | grind
set_option maxHeartbeats 4000000 in
theorem vc_Mo_of_at_s5003_8_1 (x2 : Int) (x3 : Int) (x7 : Int) (x8 : Int) (x9 : Int) (x13 : Int) (x15 : Int) (x19 : Int) (x24 : Int) (value_0 : Int) (fault_0 : Int) (from_0 : Int) (pos_0 : Int) (kind_0 : Int) (k2 : 9 ≤ x2 ∧ x2 ≤ 9) (k3 : 0 ≤ x3 ∧ x3 ≤ 2000) (k7 : 9 ≤ x7 ∧ x7 ≤ 9) (k8 : (-2147483648) ≤ x8 ∧ x8 ≤ 0) (k9 : 0 ≤ x9 ∧ x9 ≤ 2000) (k13 : 0 ≤ x13 ∧ x13 ≤ 2000) (k15 : 0 ≤ x15 ∧ x15 ≤ 2000) (k19 : (-2147483648) ≤ x19 ∧ x19 ≤ 0) (k24 : 0 ≤ x24 ∧ x24 ≤ 0) (g0 : x19 = value_0) (f1 : x24 ≤ 0) (g2 : x24 = fault_0) (f3 : 1 * x15 + ((-1) * x13 + 0) ≤ 0) (f4 : (-1) * x15 + (1 * x13 + 0) ≤ 0) (f5 : 1 * x3 + ((-1) * x15 + 0) ≤ (-1)) (f6 : (-1) * x9 + ((-1) * x15 + 0) ≤ (-2000)) (f7 : 1 * x3 + ((-1) * x13 + 0) ≤ (-1)) (f8 : (-1) * x9 + ((-1) * x13 + 0) ≤ (-2000)) (f9 : 1 * x8 + ((-1) * x2 + 0) ≤ 0) (f10 : (-1) * x8 + 0 ≤ 0) (f13 : 1 * from_0 + ((-1) * pos_0 + 0) ≤ 0) (f14 : ((kind_0 = 1) → (pos_0 ≤ (from_0 + 8))) ∧ ((kind_0 = 0) ∨ ((from_0 + 1) ≤ pos_0))) (f15 : 1 * x15 + ((-1) * pos_0 + 0) ≤ 0) (f16 : (-1) * fault_0 + 0 ≤ (-1)) (f18 : 1 * x15 + ((-1) * x13 + 0) ≤ 0) (f19 : (-1) * x15 + (1 * x13 + 0) ≤ 0) (f20 : 1 * x3 + ((-1) * x15 + 0) ≤ (-1)) (f21 : (-1) * x9 + ((-1) * x15 + 0) ≤ (-2000)) (f22 : 1 * x3 + ((-1) * x13 + 0) ≤ (-1)) (f23 : (-1) * x9 + ((-1) * x13 + 0) ≤ (-2000)) (f24 : 1 * x8 + ((-1) * x2 + 0) ≤ 0) (f25 : (-1) * x8 + 0 ≤ 0) (f27 : 1 * x15 + ((-1) * x13 + 0) ≤ 0) (f28 : (-1) * x15 + (1 * x13 + 0) ≤ 0) (f29 : 1 * x3 + ((-1) * x15 + 0) ≤ (-1)) (f30 : (-1) * x9 + ((-1) * x15 + 0) ≤ (-2000)) (f31 : 1 * x3 + ((-1) * x13 + 0) ≤ (-1)) (f32 : (-1) * x9 + ((-1) * x13 + 0) ≤ (-2000)) (f33 : 1 * x8 + ((-1) * x2 + 0) ≤ 0) (f34 : (-1) * x8 + 0 ≤ 0) (f36 : 1 * x3 + ((-1) * x13 + 0) ≤ (-1)) (f37 : (-1) * x9 + ((-1) * x13 + 0) ≤ (-2000)) (f38 : x8 ≤ 0) (f39 : 1 * x8 + ((-1) * x2 + 0) ≤ 0) (f40 : (-1) * x8 + 0 ≤ 0) (f42 : 1 * x8 + ((-1) * x2 + 0) ≤ 0) (f43 : (-1) * x8 + 0 ≤ 0) (kz_0_8 : 0 ≤ fault_0 ∧ fault_0 ≤ 5) (kz_0_11 : 0 ≤ pos_0 ∧ pos_0 ≤ 2000) (kz_0_12 : 0 ≤ kind_0 ∧ kind_0 ≤ 4) (kz_0_14 : (-2147483648) ≤ value_0 ∧ value_0 ≤ 2147483647) (kz_0_15 : 0 ≤ from_0 ∧ from_0 ≤ 2000) : (-1) * x19 + 0 ≤ 0 := by
  first | assumption | (clear f14; omega) | omega | grind
def o_Mo_of_at_s5003_8 : or_T := (135, 25, [(0, (2, 0, 0, [165])), (2, (0, 9, 9, [])), (3, (0, 0, 2000, [])), (5, (2, 0, 0, [165])), (7, (0, 9, 9, [])), (8, (0, -2147483648, 0, [])), (9, (0, 0, 2000, [])), (13, (0, 0, 2000, [])), (15, (0, 0, 2000, [])), (19, (0, -2147483648, 0, [])), (24, (0, 0, 0, []))], [(9, [19, 5], [14]), (8, [24], [5]), (9, [24, 5], [8]), (23, [15, 13], [0, 1, -1]), (23, [15, 13], [0, -1, 1]), (23, [3, 15], [-1, 1, -1]), (23, [9, 15], [-2000, -1, -1]), (23, [3, 13], [-1, 1, -1]), (23, [9, 13], [-2000, -1, -1]), (23, [8, 7], [0, 1, -1]), (23, [8], [0, -1]), (24, [0, 5], []), (24, [2, 7], []), (20, [5, 5], [30, 0, 1, 1, 15, -1, 1, 11]), (20, [5], [50, 3, 0, 12, 11, 15, 2, 21, 4, 7, 1, 3, 2, 0, 12, 0, 1, 0, 3, 2, 0, 11, 4, 3, 2, 0, 15, 0, 8, 3, 7, 1, 3, 2, 0, 12, 0, 0, 0, 7, 4, 3, 2, 0, 15, 0, 1, 2, 0, 11]), (20, [15, 5], [30, 0, 1, 0, 0, -1, 1, 11]), (20, [5], [30, -1, -1, 1, 8]), (102, [23], [0, 165008, 165009]), (23, [15, 13], [0, 1, -1]), (23, [15, 13], [0, -1, 1]), (23, [3, 15], [-1, 1, -1]), (23, [9, 15], [-2000, -1, -1]), (23, [3, 13], [-1, 1, -1]), (23, [9, 13], [-2000, -1, -1]), (23, [8, 7], [0, 1, -1]), (23, [8], [0, -1]), (102, [15], [0, 165008, 165009, 165011, 165012, 165013, 165014, 165015]), (23, [15, 13], [0, 1, -1]), (23, [15, 13], [0, -1, 1]), (23, [3, 15], [-1, 1, -1]), (23, [9, 15], [-2000, -1, -1]), (23, [3, 13], [-1, 1, -1]), (23, [9, 13], [-2000, -1, -1]), (23, [8, 7], [0, 1, -1]), (23, [8], [0, -1]), (102, [13], [0, 165011, 165012, 165013, 165014, 165015]), (23, [3, 13], [-1, 1, -1]), (23, [9, 13], [-2000, -1, -1]), (8, [8], [5]), (23, [8, 7], [0, 1, -1]), (23, [8], [0, -1]), (102, [11], [0]), (23, [8, 7], [0, 1, -1]), (23, [8], [0, -1])], [], [], [(23, [19, 7], [0, 1, -1]), (23, [19], [0, -1])], [], [])
theorem oo_Mo_of_at_s5003_8 {kA : Nat → ClassId} : or_ok PRD kA GG o_Mo_of_at_s5003_8 := by
  refine or_mk fun A ta ws vs hD hth hl => ?_
  intro t0 r0 t2 k2 t3 k3 t5 r5 t7 k7 t8 k8 t9 k9 t13 k13 t15 k15 t19 k19 t24 k24 f0 f1 f2 f3 f4 f5 f6 f7 f8 f9 f10 f11 f12 f13 f14 f15 f16 ta1 w1 le1 s1 f18 f19 f20 f21 f22 f23 f24 f25 ta2 w2 le2 s2 f27 f28 f29 f30 f31 f32 f33 f34 ta3 w3 le3 s3 f36 f37 f38 f39 f40 ta4 w4 le4 s4 f42 f43
  replace f0 := shm_116 f0
  replace f1 := shm_142 f1
  replace f2 := shm_143 f2
  replace f3 := shm_7 f3
  replace f4 := shm_22 f4
  replace f5 := shm_211 f5
  replace f6 := shm_1894 f6
  replace f7 := shm_211 f7
  replace f8 := shm_1894 f8
  replace f9 := shm_7 f9
  replace f10 := shm_1013 f10
  replace f11 := shm_5 f11
  replace f12 := shm_5 f12
  replace f13 := shm_1397 f13
  replace f14 := shm_1398 f14
  replace f15 := shm_1395 f15
  replace f16 := shm_144 f16
  replace f18 := shm_7 f18
  replace f19 := shm_22 f19
  replace f20 := shm_211 f20
  replace f21 := shm_1894 f21
  replace f22 := shm_211 f22
  replace f23 := shm_1894 f23
  replace f24 := shm_7 f24
  replace f25 := shm_1013 f25
  replace f27 := shm_7 f27
  replace f28 := shm_22 f28
  replace f29 := shm_211 f29
  replace f30 := shm_1894 f30
  replace f31 := shm_211 f31
  replace f32 := shm_1894 f32
  replace f33 := shm_7 f33
  replace f34 := shm_1013 f34
  replace f36 := shm_211 f36
  replace f37 := shm_1894 f37
  replace f38 := shm_142 f38
  replace f39 := shm_7 f39
  replace f40 := shm_1013 f40
  replace f42 := shm_7 f42
  replace f43 := shm_1013 f43
  have q5 : n_v vs 5 = n_v vs 0 := f11.symm
  have q7 : n_v vs 7 = n_v vs 2 := f12.symm
  simp only [q5, q7] at f0 f2 f9 f13 f14 f15 f16 f24 f33 f39 f42
  have g0 : v_iv (n_v vs 19) = w_fi ws (n_v vs 0) 14 := congrArg v_iv f0
  have g2 : v_iv (n_v vs 24) = w_fi ws (n_v vs 0) 8 := congrArg v_iv f2
  have kz_0_8 := fdq_14 hD hth r0
  have kz_0_11 := fdq_273 hD hth r0
  have kz_0_12 := fdq_186 hD hth r0
  have kz_0_14 := fdq_311 hD hth r0
  have kz_0_15 := fdq_274 hD hth r0
  have nf0 : fc_1 PRD (23, [19, 7], [0, 1, -1]) ws (vs) := by
    refine ⟨nf_in hl rfl, sgq_7 ?_⟩
    · show 1 * v_iv (n_v vs 19) + ((-1) * v_iv (n_v vs 7) + 0) ≤ 0
      rw [q7]
      exact vc_Mo_of_at_s5003_8_0 (v_iv (n_v vs 2)) (v_iv (n_v vs 3)) (v_iv (n_v vs 7)) (v_iv (n_v vs 8)) (v_iv (n_v vs 9)) (v_iv (n_v vs 13)) (v_iv (n_v vs 15)) (v_iv (n_v vs 19)) (v_iv (n_v vs 24)) (w_fi ws (n_v vs 0) 14) (w_fi ws (n_v vs 0) 8) (w_fi ws (n_v vs 0) 15) (w_fi ws (n_v vs 0) 11) (w_fi ws (n_v vs 0) 12) k2 k3 k7 k8 k9 k13 k15 k19 k24 g0 f1 g2 f3 f4 f5 f6 f7 f8 f9 f10 f13 f14 f15 f16 f18 f19 f20 f21 f22 f23 f24 f25 f27 f28 f29 f30 f31 f32 f33 f34 f36 f37 f38 f39 f40 f42 f43 kz_0_8 kz_0_11 kz_0_12 kz_0_14 kz_0_15
  have nf1 : fc_1 PRD (23, [19], [0, -1]) ws (vs) := ⟨nf_in hl rfl, sgq_1013 (vc_Mo_of_at_s5003_8_1 (v_iv (n_v vs 2)) (v_iv (n_v vs 3)) (v_iv (n_v vs 7)) (v_iv (n_v vs 8)) (v_iv (n_v vs 9)) (v_iv (n_v vs 13)) (v_iv (n_v vs 15)) (v_iv (n_v vs 19)) (v_iv (n_v vs 24)) (w_fi ws (n_v vs 0) 14) (w_fi ws (n_v vs 0) 8) (w_fi ws (n_v vs 0) 15) (w_fi ws (n_v vs 0) 11) (w_fi ws (n_v vs 0) 12) k2 k3 k7 k8 k9 k13 k15 k19 k24 g0 f1 g2 f3 f4 f5 f6 f7 f8 f9 f10 f13 f14 f15 f16 f18 f19 f20 f21 f22 f23 f24 f25 f27 f28 f29 f30 f31 f32 f33 f34 f36 f37 f38 f39 f40 f42 f43 kz_0_8 kz_0_11 kz_0_12 kz_0_14 kz_0_15)⟩
  refine ⟨(fun _ h => (by cases h)), [], trivial, ?_, (fun _ h => (by cases h))⟩
  rw [List.append_nil]
  exact List.forall_mem_cons.mpr ⟨⟨show (23 : Nat) < 100 from by decide, nf0⟩, List.forall_mem_cons.mpr ⟨⟨show (23 : Nat) < 100 from by decide, nf1⟩, (fun _ h => (by cases h))⟩⟩
set_option maxHeartbeats 4000000 in
theorem vc_Mo_of_at_s5003_9_0 (x2 : Int) (x3 : Int) (x7 : Int) (x9 : Int) (x13 : Int) (x15 : Int) (x24 : Int) (fault_0 : Int) (from_0 : Int) (pos_0 : Int) (kind_0 : Int) (gx : Int) (k2 : 9 ≤ x2 ∧ x2 ≤ 9) (k3 : 0 ≤ x3 ∧ x3 ≤ 2000) (k7 : 9 ≤ x7 ∧ x7 ≤ 9) (k9 : 0 ≤ x9 ∧ x9 ≤ 2000) (k13 : 0 ≤ x13 ∧ x13 ≤ 2000) (k15 : 0 ≤ x15 ∧ x15 ≤ 2000) (k24 : 0 ≤ x24 ∧ x24 ≤ 0) (f0 : x24 ≤ 0) (g1 : x24 = fault_0) (f2 : 1 * x15 + ((-1) * x13 + 0) ≤ 0) (f3 : (-1) * x15 + (1 * x13 + 0) ≤ 0) (f4 : 1 * x3 + ((-1) * x15 + 0) ≤ (-1)) (f5 : (-1) * x9 + ((-1) * x15 + 0) ≤ (-2000)) (f6 : 1 * x3 + ((-1) * x13 + 0) ≤ (-1)) (f7 : (-1) * x9 + ((-1) * x13 + 0) ≤ (-2000)) (f10 : 1 * from_0 + ((-1) * pos_0 + 0) ≤ 0) (f11 : ((kind_0 = 1) → (pos_0 ≤ (from_0 + 8))) ∧ ((kind_0 = 0) ∨ ((from_0 + 1) ≤ pos_0))) (f12 : 1 * x15 + ((-1) * pos_0 + 0) ≤ 0) (f13 : (-1) * fault_0 + 0 ≤ (-1)) (f15 : 1 * x15 + ((-1) * x13 + 0) ≤ 0) (f16 : (-1) * x15 + (1 * x13 + 0) ≤ 0) (f17 : 1 * x3 + ((-1) * x15 + 0) ≤ (-1)) (f18 : (-1) * x9 + ((-1) * x15 + 0) ≤ (-2000)) (f19 : 1 * x3 + ((-1) * x13 + 0) ≤ (-1)) (f20 : (-1) * x9 + ((-1) * x13 + 0) ≤ (-2000)) (f22 : 1 * x15 + ((-1) * x13 + 0) ≤ 0) (f23 : (-1) * x15 + (1 * x13 + 0) ≤ 0) (f24 : 1 * x3 + ((-1) * x15 + 0) ≤ (-1)) (f25 : (-1) * x9 + ((-1) * x15 + 0) ≤ (-2000)) (f26 : 1 * x3 + ((-1) * x13 + 0) ≤ (-1)) (f27 : (-1) * x9 + ((-1) * x13 + 0) ≤ (-2000)) (f29 : 1 * x3 + ((-1) * x13 + 0) ≤ (-1)) (f30 : (-1) * x9 + ((-1) * x13 + 0) ≤ (-2000)) (kz_0_8 : 0 ≤ fault_0 ∧ fault_0 ≤ 5) (kz_0_11 : 0 ≤ pos_0 ∧ pos_0 ≤ 2000) (kz_0_12 : 0 ≤ kind_0 ∧ kind_0 ≤ 4) (kz_0_15 : 0 ≤ from_0 ∧ from_0 ≤ 2000) (ex2 : gx = pos_0) (ex3 : 0 ≤ gx ∧ gx ≤ 2000) : 1 * gx + ((-1) * pos_0 + 0) ≤ 0 := by
  first | assumption | (clear f11; omega) | omega | grind
set_option maxHeartbeats 4000000 in
theorem vc_Mo_of_at_s5003_9_1 (x2 : Int) (x3 : Int) (x7 : Int) (x9 : Int) (x13 : Int) (x15 : Int) (x24 : Int) (fault_0 : Int) (from_0 : Int) (pos_0 : Int) (kind_0 : Int) (gx : Int) (k2 : 9 ≤ x2 ∧ x2 ≤ 9) (k3 : 0 ≤ x3 ∧ x3 ≤ 2000) (k7 : 9 ≤ x7 ∧ x7 ≤ 9) (k9 : 0 ≤ x9 ∧ x9 ≤ 2000) (k13 : 0 ≤ x13 ∧ x13 ≤ 2000) (k15 : 0 ≤ x15 ∧ x15 ≤ 2000) (k24 : 0 ≤ x24 ∧ x24 ≤ 0) (f0 : x24 ≤ 0) (g1 : x24 = fault_0) (f2 : 1 * x15 + ((-1) * x13 + 0) ≤ 0) (f3 : (-1) * x15 + (1 * x13 + 0) ≤ 0) (f4 : 1 * x3 + ((-1) * x15 + 0) ≤ (-1)) (f5 : (-1) * x9 + ((-1) * x15 + 0) ≤ (-2000)) (f6 : 1 * x3 + ((-1) * x13 + 0) ≤ (-1)) (f7 : (-1) * x9 + ((-1) * x13 + 0) ≤ (-2000)) (f10 : 1 * from_0 + ((-1) * pos_0 + 0) ≤ 0) (f11 : ((kind_0 = 1) → (pos_0 ≤ (from_0 + 8))) ∧ ((kind_0 = 0) ∨ ((from_0 + 1) ≤ pos_0))) (f12 : 1 * x15 + ((-1) * pos_0 + 0) ≤ 0) (f13 : (-1) * fault_0 + 0 ≤ (-1)) (f15 : 1 * x15 + ((-1) * x13 + 0) ≤ 0) (f16 : (-1) * x15 + (1 * x13 + 0) ≤ 0) (f17 : 1 * x3 + ((-1) * x15 + 0) ≤ (-1)) (f18 : (-1) * x9 + ((-1) * x15 + 0) ≤ (-2000)) (f19 : 1 * x3 + ((-1) * x13 + 0) ≤ (-1)) (f20 : (-1) * x9 + ((-1) * x13 + 0) ≤ (-2000)) (f22 : 1 * x15 + ((-1) * x13 + 0) ≤ 0) (f23 : (-1) * x15 + (1 * x13 + 0) ≤ 0) (f24 : 1 * x3 + ((-1) * x15 + 0) ≤ (-1)) (f25 : (-1) * x9 + ((-1) * x15 + 0) ≤ (-2000)) (f26 : 1 * x3 + ((-1) * x13 + 0) ≤ (-1)) (f27 : (-1) * x9 + ((-1) * x13 + 0) ≤ (-2000)) (f29 : 1 * x3 + ((-1) * x13 + 0) ≤ (-1)) (f30 : (-1) * x9 + ((-1) * x13 + 0) ≤ (-2000)) (kz_0_8 : 0 ≤ fault_0 ∧ fault_0 ≤ 5) (kz_0_11 : 0 ≤ pos_0 ∧ pos_0 ≤ 2000) (kz_0_12 : 0 ≤ kind_0 ∧ kind_0 ≤ 4) (kz_0_15 : 0 ≤ from_0 ∧ from_0 ≤ 2000) (ex2 : gx = pos_0) (ex3 : 0 ≤ gx ∧ gx ≤ 2000) : 1 * x3 + ((-1) * gx + 0) ≤ (-1) := by
  first | assumption | (clear f11; omega) | omega | grind
set_option maxHeartbeats 4000000 in
theorem vc_Mo_of_at_s5003_9_2 (x2 : Int) (x3 : Int) (x7 : Int) (x9 : Int) (x13 : Int) (x15 : Int) (x24 : Int) (fault_0 : Int) (from_0 : Int) (pos_0 : Int) (kind_0 : Int) (gx : Int) (k2 : 9 ≤ x2 ∧ x2 ≤ 9) (k3 : 0 ≤ x3 ∧ x3 ≤ 2000) (k7 : 9 ≤ x7 ∧ x7 ≤ 9) (k9 : 0 ≤ x9 ∧ x9 ≤ 2000) (k13 : 0 ≤ x13 ∧ x13 ≤ 2000) (k15 : 0 ≤ x15 ∧ x15 ≤ 2000) (k24 : 0 ≤ x24 ∧ x24 ≤ 0) (f0 : x24 ≤ 0) (g1 : x24 = fault_0) (f2 : 1 * x15 + ((-1) * x13 + 0) ≤ 0) (f3 : (-1) * x15 + (1 * x13 + 0) ≤ 0) (f4 : 1 * x3 + ((-1) * x15 + 0) ≤ (-1)) (f5 : (-1) * x9 + ((-1) * x15 + 0) ≤ (-2000)) (f6 : 1 * x3 + ((-1) * x13 + 0) ≤ (-1)) (f7 : (-1) * x9 + ((-1) * x13 + 0) ≤ (-2000)) (f10 : 1 * from_0 + ((-1) * pos_0 + 0) ≤ 0) (f11 : ((kind_0 = 1) → (pos_0 ≤ (from_0 + 8))) ∧ ((kind_0 = 0) ∨ ((from_0 + 1) ≤ pos_0))) (f12 : 1 * x15 + ((-1) * pos_0 + 0) ≤ 0) (f13 : (-1) * fault_0 + 0 ≤ (-1)) (f15 : 1 * x15 + ((-1) * x13 + 0) ≤ 0) (f16 : (-1) * x15 + (1 * x13 + 0) ≤ 0) (f17 : 1 * x3 + ((-1) * x15 + 0) ≤ (-1)) (f18 : (-1) * x9 + ((-1) * x15 + 0) ≤ (-2000)) (f19 : 1 * x3 + ((-1) * x13 + 0) ≤ (-1)) (f20 : (-1) * x9 + ((-1) * x13 + 0) ≤ (-2000)) (f22 : 1 * x15 + ((-1) * x13 + 0) ≤ 0) (f23 : (-1) * x15 + (1 * x13 + 0) ≤ 0) (f24 : 1 * x3 + ((-1) * x15 + 0) ≤ (-1)) (f25 : (-1) * x9 + ((-1) * x15 + 0) ≤ (-2000)) (f26 : 1 * x3 + ((-1) * x13 + 0) ≤ (-1)) (f27 : (-1) * x9 + ((-1) * x13 + 0) ≤ (-2000)) (f29 : 1 * x3 + ((-1) * x13 + 0) ≤ (-1)) (f30 : (-1) * x9 + ((-1) * x13 + 0) ≤ (-2000)) (kz_0_8 : 0 ≤ fault_0 ∧ fault_0 ≤ 5) (kz_0_11 : 0 ≤ pos_0 ∧ pos_0 ≤ 2000) (kz_0_12 : 0 ≤ kind_0 ∧ kind_0 ≤ 4) (kz_0_15 : 0 ≤ from_0 ∧ from_0 ≤ 2000) (ex2 : gx = pos_0) (ex3 : 0 ≤ gx ∧ gx ≤ 2000) : (-1) * x9 + ((-1) * gx + 0) ≤ (-2001) := by
  first | assumption | (clear f11; omega) | omega | grind
def o_Mo_of_at_s5003_9 : or_T := (136, 25, [(0, (2, 0, 0, [165])), (2, (0, 9, 9, [])), (3, (0, 0, 2000, [])), (5, (2, 0, 0, [165])), (7, (0, 9, 9, [])), (9, (0, 0, 2000, [])), (13, (0, 0, 2000, [])), (15, (0, 0, 2000, [])), (24, (0, 0, 0, []))], [(8, [24], [5]), (9, [24, 5], [8]), (23, [15, 13], [0, 1, -1]), (23, [15, 13], [0, -1, 1]), (23, [3, 15], [-1, 1, -1]), (23, [9, 15], [-2000, -1, -1]), (23, [3, 13], [-1, 1, -1]), (23, [9, 13], [-2000, -1, -1]), (24, [0, 5], []), (24, [2, 7], []), (20, [5, 5], [30, 0, 1, 1, 15, -1, 1, 11]), (20, [5], [50, 3, 0, 12, 11, 15, 2, 21, 4, 7, 1, 3, 2, 0, 12, 0, 1, 0, 3, 2, 0, 11, 4, 3, 2, 0, 15, 0, 8, 3, 7, 1, 3, 2, 0, 12, 0, 0, 0, 7, 4, 3, 2, 0, 15, 0, 1, 2, 0, 11]), (20, [15, 5], [30, 0, 1, 0, 0, -1, 1, 11]), (20, [5], [30, -1, -1, 1, 8]), (102, [23], [0, 165008, 165009]), (23, [15, 13], [0, 1, -1]), (23, [15, 13], [0, -1, 1]), (23, [3, 15], [-1, 1, -1]), (23, [9, 15], [-2000, -1, -1]), (23, [3, 13], [-1, 1, -1]), (23, [9, 13], [-2000, -1, -1]), (102, [15], [0, 165008, 165009, 165011, 165012, 165013, 165014, 165015]), (23, [15, 13], [0, 1, -1]), (23, [15, 13], [0, -1, 1]), (23, [3, 15], [-1, 1, -1]), (23, [9, 15], [-2000, -1, -1]), (23, [3, 13], [-1, 1, -1]), (23, [9, 13], [-2000, -1, -1]), (102, [13], [0, 165011, 165012, 165013, 165014, 165015]), (23, [3, 13], [-1, 1, -1]), (23, [9, 13], [-2000, -1, -1])], [], [(0, 0, 2000, [])], [(20, [25, 5], [30, 0, 1, 0, 0, -1, 1, 11]), (23, [3, 25], [-1, 1, -1]), (23, [9, 25], [-2001, -1, -1])], [], [])
theorem oo_Mo_of_at_s5003_9 {kA : Nat → ClassId} : or_ok PRD kA GG o_Mo_of_at_s5003_9 := by
  refine or_mk fun A ta ws vs hD hth hl => ?_
  intro t0 r0 t2 k2 t3 k3 t5 r5 t7 k7 t9 k9 t13 k13 t15 k15 t24 k24 f0 f1 f2 f3 f4 f5 f6 f7 f8 f9 f10 f11 f12 f13 ta1 w1 le1 s1 f15 f16 f17 f18 f19 f20 ta2 w2 le2 s2 f22 f23 f24 f25 f26 f27 ta3 w3 le3 s3 f29 f30
  replace f0 := shm_142 f0
  replace f1 := shm_143 f1
  replace f2 := shm_7 f2
  replace f3 := shm_22 f3
  replace f4 := shm_211 f4
  replace f5 := shm_1894 f5
  replace f6 := shm_211 f6
  replace f7 := shm_1894 f7
  replace f8 := shm_5 f8
  replace f10 := shm_1397 f10
  replace f11 := shm_1398 f11
  replace f12 := shm_1395 f12
  replace f13 := shm_144 f13
  replace f15 := shm_7 f15
  replace f16 := shm_22 f16
  replace f17 := shm_211 f17
  replace f18 := shm_1894 f18
  replace f19 := shm_211 f19
  replace f20 := shm_1894 f20
  replace f22 := shm_7 f22
  replace f23 := shm_22 f23
  replace f24 := shm_211 f24
  replace f25 := shm_1894 f25
  replace f26 := shm_211 f26
  replace f27 := shm_1894 f27
  replace f29 := shm_211 f29
  replace f30 := shm_1894 f30
  have q5 : n_v vs 5 = n_v vs 0 := f8.symm
  simp only [q5] at f1 f10 f11 f12 f13
  have g1 : v_iv (n_v vs 24) = w_fi ws (n_v vs 0) 8 := congrArg v_iv f1
  have kz_0_8 := fdq_14 hD hth r0
  have kz_0_11 := fdq_273 hD hth r0
  have kz_0_12 := fdq_186 hD hth r0
  have kz_0_15 := fdq_274 hD hth r0
  obtain ⟨x, ex, hx⟩ := iv_ex (ta := ta) (lo := 0) (hi := 2000) (z := w_fi ws (n_v vs 0) 11) (by omega) (by omega) (by omega) (by omega)
  have ex2 : v_iv (Value.int x) = w_fi ws (n_v vs 0) 11 := ex
  have ex3 : 0 ≤ v_iv (Value.int x) ∧ v_iv (Value.int x) ≤ 2000 := tv_rng hx
  have e_3 : n_v (vs ++ [Value.int x]) 3 = n_v vs 3 := n_v_old (by rw [hl]; decide)
  have e_5 : n_v (vs ++ [Value.int x]) 5 = n_v vs 5 := n_v_old (by rw [hl]; decide)
  have e_9 : n_v (vs ++ [Value.int x]) 9 = n_v vs 9 := n_v_old (by rw [hl]; decide)
  have e_25 : n_v (vs ++ [Value.int x]) 25 = Value.int x := n_v_new hl
  have nf0 : fc_1 PRD (20, [25, 5], [30, 0, 1, 0, 0, -1, 1, 11]) ws (vs ++ [Value.int x]) := by
    refine ⟨nf_inA hl rfl, sgq_1395 ?_⟩
    · show 1 * v_iv (n_v (vs ++ [Value.int x]) 25) + ((-1) * w_fi ws (n_v (vs ++ [Value.int x]) 5) 11 + 0) ≤ 0
      simp only [e_5, e_25, q5]
      exact vc_Mo_of_at_s5003_9_0 (v_iv (n_v vs 2)) (v_iv (n_v vs 3)) (v_iv (n_v vs 7)) (v_iv (n_v vs 9)) (v_iv (n_v vs 13)) (v_iv (n_v vs 15)) (v_iv (n_v vs 24)) (w_fi ws (n_v vs 0) 8) (w_fi ws (n_v vs 0) 15) (w_fi ws (n_v vs 0) 11) (w_fi ws (n_v vs 0) 12) (v_iv (Value.int x)) k2 k3 k7 k9 k13 k15 k24 f0 g1 f2 f3 f4 f5 f6 f7 f10 f11 f12 f13 f15 f16 f17 f18 f19 f20 f22 f23 f24 f25 f26 f27 f29 f30 kz_0_8 kz_0_11 kz_0_12 kz_0_15 ex2 ex3
  have nf1 : fc_1 PRD (23, [3, 25], [-1, 1, -1]) ws (vs ++ [Value.int x]) := by
    refine ⟨nf_inA hl rfl, sgq_211 ?_⟩
    · show 1 * v_iv (n_v (vs ++ [Value.int x]) 3) + ((-1) * v_iv (n_v (vs ++ [Value.int x]) 25) + 0) ≤ (-1)
      simp only [e_3, e_25]
      exact vc_Mo_of_at_s5003_9_1 (v_iv (n_v vs 2)) (v_iv (n_v vs 3)) (v_iv (n_v vs 7)) (v_iv (n_v vs 9)) (v_iv (n_v vs 13)) (v_iv (n_v vs 15)) (v_iv (n_v vs 24)) (w_fi ws (n_v vs 0) 8) (w_fi ws (n_v vs 0) 15) (w_fi ws (n_v vs 0) 11) (w_fi ws (n_v vs 0) 12) (v_iv (Value.int x)) k2 k3 k7 k9 k13 k15 k24 f0 g1 f2 f3 f4 f5 f6 f7 f10 f11 f12 f13 f15 f16 f17 f18 f19 f20 f22 f23 f24 f25 f26 f27 f29 f30 kz_0_8 kz_0_11 kz_0_12 kz_0_15 ex2 ex3
  have nf2 : fc_1 PRD (23, [9, 25], [-2001, -1, -1]) ws (vs ++ [Value.int x]) := by
    refine ⟨nf_inA hl rfl, sgq_1895 ?_⟩
    · show (-1) * v_iv (n_v (vs ++ [Value.int x]) 9) + ((-1) * v_iv (n_v (vs ++ [Value.int x]) 25) + 0) ≤ (-2001)
      simp only [e_9, e_25]
      exact vc_Mo_of_at_s5003_9_2 (v_iv (n_v vs 2)) (v_iv (n_v vs 3)) (v_iv (n_v vs 7)) (v_iv (n_v vs 9)) (v_iv (n_v vs 13)) (v_iv (n_v vs 15)) (v_iv (n_v vs 24)) (w_fi ws (n_v vs 0) 8) (w_fi ws (n_v vs 0) 15) (w_fi ws (n_v vs 0) 11) (w_fi ws (n_v vs 0) 12) (v_iv (Value.int x)) k2 k3 k7 k9 k13 k15 k24 f0 g1 f2 f3 f4 f5 f6 f7 f10 f11 f12 f13 f15 f16 f17 f18 f19 f20 f22 f23 f24 f25 f26 f27 f29 f30 kz_0_8 kz_0_11 kz_0_12 kz_0_15 ex2 ex3
  exact ⟨(fun _ h => (by cases h)), [Value.int x], ag_one hx, List.forall_mem_cons.mpr ⟨⟨show (20 : Nat) < 100 from by decide, nf0⟩, List.forall_mem_cons.mpr ⟨⟨show (23 : Nat) < 100 from by decide, nf1⟩, List.forall_mem_cons.mpr ⟨⟨show (23 : Nat) < 100 from by decide, nf2⟩, (fun _ h => (by cases h))⟩⟩⟩, (fun _ h => (by cases h))⟩
set_option maxHeartbeats 4000000 in
theorem vc_Mo_of_at_s5003_10_0 (x2 : Int) (x3 : Int) (x4 : Int) (x7 : Int) (x8 : Int) (x9 : Int) (x13 : Int) (x15 : Int) (x19 : Int) (x25 : Int) (fault_0 : Int) (from_0 : Int) (pos_0 : Int) (kind_0 : Int) (gx : Int) (k2 : 9 ≤ x2 ∧ x2 ≤ 9) (k3 : 0 ≤ x3 ∧ x3 ≤ 2000) (k4 : (-1) ≤ x4 ∧ x4 ≤ 48) (k7 : 9 ≤ x7 ∧ x7 ≤ 9) (k8 : (-2147483648) ≤ x8 ∧ x8 ≤ 0) (k9 : 0 ≤ x9 ∧ x9 ≤ 2000) (k13 : 0 ≤ x13 ∧ x13 ≤ 2000) (k15 : 0 ≤ x15 ∧ x15 ≤ 2000) (k19 : (-2147483648) ≤ x19 ∧ x19 ≤ 0) (k25 : 0 ≤ x25 ∧ x25 ≤ 2000) (f0 : 1 * x3 + ((-1) * x25 + 0) ≤ (-1)) (f1 : (-1) * x9 + ((-1) * x25 + 0) ≤ (-2001)) (f2 : 1 * x19 + ((-1) * x2 + 0) ≤ 0) (f3 : (-1) * x19 + 0 ≤ 0) (f4 : 1 * x15 + ((-1) * x13 + 0) ≤ 0) (f5 : (-1) * x15 + (1 * x13 + 0) ≤ 0) (f6 : 1 * x3 + ((-1) * x15 + 0) ≤ (-1)) (f7 : (-1) * x9 + ((-1) * x15 + 0) ≤ (-2000)) (f8 : 1 * x3 + ((-1) * x13 + 0) ≤ (-1)) (f9 : (-1) * x9 + ((-1) * x13 + 0) ≤ (-2000)) (f10 : 1 * x8 + ((-1) * x2 + 0) ≤ 0) (f11 : (-1) * x8 + 0 ≤ 0) (f12 : (-1) * x4 + 0 ≤ 0) (f15 : (-1) * fault_0 + 0 ≤ (-1)) (f16 : 1 * from_0 + ((-1) * pos_0 + 0) ≤ 0) (f17 : ((kind_0 = 1) → (pos_0 ≤ (from_0 + 8))) ∧ ((kind_0 = 0) ∨ ((from_0 + 1) ≤ pos_0))) (f18 : 1 * x25 + ((-1) * from_0 + 0) ≤ 0) (f20 : 1 * x3 + ((-1) * x25 + 0) ≤ (-1)) (f21 : (-1) * x9 + ((-1) * x25 + 0) ≤ (-2001)) (f22 : 1 * x19 + ((-1) * x2 + 0) ≤ 0) (f23 : (-1) * x19 + 0 ≤ 0) (f24 : 1 * x15 + ((-1) * x13 + 0) ≤ 0) (f25 : (-1) * x15 + (1 * x13 + 0) ≤ 0) (f26 : 1 * x3 + ((-1) * x15 + 0) ≤ (-1)) (f27 : (-1) * x9 + ((-1) * x15 + 0) ≤ (-2000)) (f28 : 1 * x3 + ((-1) * x13 + 0) ≤ (-1)) (f29 : (-1) * x9 + ((-1) * x13 + 0) ≤ (-2000)) (f30 : 1 * x8 + ((-1) * x2 + 0) ≤ 0) (f31 : (-1) * x8 + 0 ≤ 0) (f32 : (-1) * x4 + 0 ≤ 0) (f34 : 1 * x15 + ((-1) * x13 + 0) ≤ 0) (f35 : (-1) * x15 + (1 * x13 + 0) ≤ 0) (f36 : 1 * x3 + ((-1) * x15 + 0) ≤ (-1)) (f37 : (-1) * x9 + ((-1) * x15 + 0) ≤ (-2000)) (f38 : 1 * x3 + ((-1) * x13 + 0) ≤ (-1)) (f39 : (-1) * x9 + ((-1) * x13 + 0) ≤ (-2000)) (f40 : 1 * x8 + ((-1) * x2 + 0) ≤ 0) (f41 : (-1) * x8 + 0 ≤ 0) (f42 : (-1) * x4 + 0 ≤ 0) (f44 : 1 * x15 + ((-1) * x13 + 0) ≤ 0) (f45 : (-1) * x15 + (1 * x13 + 0) ≤ 0) (f46 : 1 * x3 + ((-1) * x15 + 0) ≤ (-1)) (f47 : (-1) * x9 + ((-1) * x15 + 0) ≤ (-2000)) (f48 : 1 * x3 + ((-1) * x13 + 0) ≤ (-1)) (f49 : (-1) * x9 + ((-1) * x13 + 0) ≤ (-2000)) (f50 : 1 * x8 + ((-1) * x2 + 0) ≤ 0) (f51 : (-1) * x8 + 0 ≤ 0) (f52 : (-1) * x4 + 0 ≤ 0) (f54 : 1 * x3 + ((-1) * x13 + 0) ≤ (-1)) (f55 : (-1) * x9 + ((-1) * x13 + 0) ≤ (-2000)) (f56 : x8 ≤ 0) (f57 : 1 * x8 + ((-1) * x2 + 0) ≤ 0) (f58 : (-1) * x8 + 0 ≤ 0) (f59 : (-1) * x4 + 0 ≤ 0) (f61 : 1 * x8 + ((-1) * x2 + 0) ≤ 0) (f62 : (-1) * x8 + 0 ≤ 0) (f63 : (-1) * x4 + 0 ≤ 0) (kz_0_8 : 0 ≤ fault_0 ∧ fault_0 ≤ 5) (kz_0_11 : 0 ≤ pos_0 ∧ pos_0 ≤ 2000) (kz_0_12 : 0 ≤ kind_0 ∧ kind_0 ≤ 4) (kz_0_15 : 0 ≤ from_0 ∧ from_0 ≤ 2000) (ex2 : gx = 0 + (1 * x9 + 0)) (ex3 : 0 ≤ gx ∧ gx ≤ 2000) : 1 * from_0 + ((-1) * pos_0 + 0) ≤ 0 := by
  first | assumption | (clear f17; omega) | omega | grind
set_option maxHeartbeats 4000000 in
theorem vc_Mo_of_at_s5003_10_1 (x2 : Int) (x3 : Int) (x4 : Int) (x7 : Int) (x8 : Int) (x9 : Int) (x13 : Int) (x15 : Int) (x19 : Int) (x25 : Int) (fault_0 : Int) (from_0 : Int) (pos_0 : Int) (kind_0 : Int) (gx : Int) (k2 : 9 ≤ x2 ∧ x2 ≤ 9) (k3 : 0 ≤ x3 ∧ x3 ≤ 2000) (k4 : (-1) ≤ x4 ∧ x4 ≤ 48) (k7 : 9 ≤ x7 ∧ x7 ≤ 9) (k8 : (-2147483648) ≤ x8 ∧ x8 ≤ 0) (k9 : 0 ≤ x9 ∧ x9 ≤ 2000) (k13 : 0 ≤ x13 ∧ x13 ≤ 2000) (k15 : 0 ≤ x15 ∧ x15 ≤ 2000) (k19 : (-2147483648) ≤ x19 ∧ x19 ≤ 0) (k25 : 0 ≤ x25 ∧ x25 ≤ 2000) (f0 : 1 * x3 + ((-1) * x25 + 0) ≤ (-1)) (f1 : (-1) * x9 + ((-1) * x25 + 0) ≤ (-2001)) (f2 : 1 * x19 + ((-1) * x2 + 0) ≤ 0) (f3 : (-1) * x19 + 0 ≤ 0) (f4 : 1 * x15 + ((-1) * x13 + 0) ≤ 0) (f5 : (-1) * x15 + (1 * x13 + 0) ≤ 0) (f6 : 1 * x3 + ((-1) * x15 + 0) ≤ (-1)) (f7 : (-1) * x9 + ((-1) * x15 + 0) ≤ (-2000)) (f8 : 1 * x3 + ((-1) * x13 + 0) ≤ (-1)) (f9 : (-1) * x9 + ((-1) * x13 + 0) ≤ (-2000)) (f10 : 1 * x8 + ((-1) * x2 + 0) ≤ 0) (f11 : (-1) * x8 + 0 ≤ 0) (f12 : (-1) * x4 + 0 ≤ 0) (f15 : (-1) * fault_0 + 0 ≤ (-1)) (f16 : 1 * from_0 + ((-1) * pos_0 + 0) ≤ 0) (f17 : ((kind_0 = 1) → (pos_0 ≤ (from_0 + 8))) ∧ ((kind_0 = 0) ∨ ((from_0 + 1) ≤ pos_0))) (f18 : 1 * x25 + ((-1) * from_0 + 0) ≤ 0) (f20 : 1 * x3 + ((-1) * x25 + 0) ≤ (-1)) (f21 : (-1) * x9 + ((-1) * x25 + 0) ≤ (-2001)) (f22 : 1 * x19 + ((-1) * x2 + 0) ≤ 0) (f23 : (-1) * x19 + 0 ≤ 0) (f24 : 1 * x15 + ((-1) * x13 + 0) ≤ 0) (f25 : (-1) * x15 + (1 * x13 + 0) ≤ 0) (f26 : 1 * x3 + ((-1) * x15 + 0) ≤ (-1)) (f27 : (-1) * x9 + ((-1) * x15 + 0) ≤ (-2000)) (f28 : 1 * x3 + ((-1) * x13 + 0) ≤ (-1)) (f29 : (-1) * x9 + ((-1) * x13 + 0) ≤ (-2000)) (f30 : 1 * x8 + ((-1) * x2 + 0) ≤ 0) (f31 : (-1) * x8 + 0 ≤ 0) (f32 : (-1) * x4 + 0 ≤ 0) (f34 : 1 * x15 + ((-1) * x13 + 0) ≤ 0) (f35 : (-1) * x15 + (1 * x13 + 0) ≤ 0) (f36 : 1 * x3 + ((-1) * x15 + 0) ≤ (-1)) (f37 : (-1) * x9 + ((-1) * x15 + 0) ≤ (-2000)) (f38 : 1 * x3 + ((-1) * x13 + 0) ≤ (-1)) (f39 : (-1) * x9 + ((-1) * x13 + 0) ≤ (-2000)) (f40 : 1 * x8 + ((-1) * x2 + 0) ≤ 0) (f41 : (-1) * x8 + 0 ≤ 0) (f42 : (-1) * x4 + 0 ≤ 0) (f44 : 1 * x15 + ((-1) * x13 + 0) ≤ 0) (f45 : (-1) * x15 + (1 * x13 + 0) ≤ 0) (f46 : 1 * x3 + ((-1) * x15 + 0) ≤ (-1)) (f47 : (-1) * x9 + ((-1) * x15 + 0) ≤ (-2000)) (f48 : 1 * x3 + ((-1) * x13 + 0) ≤ (-1)) (f49 : (-1) * x9 + ((-1) * x13 + 0) ≤ (-2000)) (f50 : 1 * x8 + ((-1) * x2 + 0) ≤ 0) (f51 : (-1) * x8 + 0 ≤ 0) (f52 : (-1) * x4 + 0 ≤ 0) (f54 : 1 * x3 + ((-1) * x13 + 0) ≤ (-1)) (f55 : (-1) * x9 + ((-1) * x13 + 0) ≤ (-2000)) (f56 : x8 ≤ 0) (f57 : 1 * x8 + ((-1) * x2 + 0) ≤ 0) (f58 : (-1) * x8 + 0 ≤ 0) (f59 : (-1) * x4 + 0 ≤ 0) (f61 : 1 * x8 + ((-1) * x2 + 0) ≤ 0) (f62 : (-1) * x8 + 0 ≤ 0) (f63 : (-1) * x4 + 0 ≤ 0) (kz_0_8 : 0 ≤ fault_0 ∧ fault_0 ≤ 5) (kz_0_11 : 0 ≤ pos_0 ∧ pos_0 ≤ 2000) (kz_0_12 : 0 ≤ kind_0 ∧ kind_0 ≤ 4) (kz_0_15 : 0 ≤ from_0 ∧ from_0 ≤ 2000) (ex2 : gx = 0 + (1 * x9 + 0)) (ex3 : 0 ≤ gx ∧ gx ≤ 2000) : ((kind_0 = 1) → (pos_0 ≤ (from_0 + 8))) ∧ ((kind_0 = 0) ∨ ((from_0 + 1) ≤ pos_0)) := by
  first | assumption | (clear f17; omega) | omega | grind
set_option maxHeartbeats 4000000 in
theorem vc_Mo_of_at_s5003_10_2 (x2 : Int) (x3 : Int) (x4 : Int) (x7 : Int) (x8 : Int) (x9 : Int) (x13 : Int) (x15 : Int) (x19 : Int) (x25 : Int) (fault_0 : Int) (from_0 : Int) (pos_0 : Int) (kind_0 : Int) (gx : Int) (k2 : 9 ≤ x2 ∧ x2 ≤ 9) (k3 : 0 ≤ x3 ∧ x3 ≤ 2000) (k4 : (-1) ≤ x4 ∧ x4 ≤ 48) (k7 : 9 ≤ x7 ∧ x7 ≤ 9) (k8 : (-2147483648) ≤ x8 ∧ x8 ≤ 0) (k9 : 0 ≤ x9 ∧ x9 ≤ 2000) (k13 : 0 ≤ x13 ∧ x13 ≤ 2000) (k15 : 0 ≤ x15 ∧ x15 ≤ 2000) (k19 : (-2147483648) ≤ x19 ∧ x19 ≤ 0) (k25 : 0 ≤ x25 ∧ x25 ≤ 2000) (f0 : 1 * x3 + ((-1) * x25 + 0) ≤ (-1)) (f1 : (-1) * x9 + ((-1) * x25 + 0) ≤ (-2001)) (f2 : 1 * x19 + ((-1) * x2 + 0) ≤ 0) (f3 : (-1) * x19 + 0 ≤ 0) (f4 : 1 * x15 + ((-1) * x13 + 0) ≤ 0) (f5 : (-1) * x15 + (1 * x13 + 0) ≤ 0) (f6 : 1 * x3 + ((-1) * x15 + 0) ≤ (-1)) (f7 : (-1) * x9 + ((-1) * x15 + 0) ≤ (-2000)) (f8 : 1 * x3 + ((-1) * x13 + 0) ≤ (-1)) (f9 : (-1) * x9 + ((-1) * x13 + 0) ≤ (-2000)) (f10 : 1 * x8 + ((-1) * x2 + 0) ≤ 0) (f11 : (-1) * x8 + 0 ≤ 0) (f12 : (-1) * x4 + 0 ≤ 0) (f15 : (-1) * fault_0 + 0 ≤ (-1)) (f16 : 1 * from_0 + ((-1) * pos_0 + 0) ≤ 0) (f17 : ((kind_0 = 1) → (pos_0 ≤ (from_0 + 8))) ∧ ((kind_0 = 0) ∨ ((from_0 + 1) ≤ pos_0))) (f18 : 1 * x25 + ((-1) * from_0 + 0) ≤ 0) (f20 : 1 * x3 + ((-1) * x25 + 0) ≤ (-1)) (f21 : (-1) * x9 + ((-1) * x25 + 0) ≤ (-2001)) (f22 : 1 * x19 + ((-1) * x2 + 0) ≤ 0) (f23 : (-1) * x19 + 0 ≤ 0) (f24 : 1 * x15 + ((-1) * x13 + 0) ≤ 0) (f25 : (-1) * x15 + (1 * x13 + 0) ≤ 0) (f26 : 1 * x3 + ((-1) * x15 + 0) ≤ (-1)) (f27 : (-1) * x9 + ((-1) * x15 + 0) ≤ (-2000)) (f28 : 1 * x3 + ((-1) * x13 + 0) ≤ (-1)) (f29 : (-1) * x9 + ((-1) * x13 + 0) ≤ (-2000)) (f30 : 1 * x8 + ((-1) * x2 + 0) ≤ 0) (f31 : (-1) * x8 + 0 ≤ 0) (f32 : (-1) * x4 + 0 ≤ 0) (f34 : 1 * x15 + ((-1) * x13 + 0) ≤ 0) (f35 : (-1) * x15 + (1 * x13 + 0) ≤ 0) (f36 : 1 * x3 + ((-1) * x15 + 0) ≤ (-1)) (f37 : (-1) * x9 + ((-1) * x15 + 0) ≤ (-2000)) (f38 : 1 * x3 + ((-1) * x13 + 0) ≤ (-1)) (f39 : (-1) * x9 + ((-1) * x13 + 0) ≤ (-2000)) (f40 : 1 * x8 + ((-1) * x2 + 0) ≤ 0) (f41 : (-1) * x8 + 0 ≤ 0) (f42 : (-1) * x4 + 0 ≤ 0) (f44 : 1 * x15 + ((-1) * x13 + 0) ≤ 0) (f45 : (-1) * x15 + (1 * x13 + 0) ≤ 0) (f46 : 1 * x3 + ((-1) * x15 + 0) ≤ (-1)) (f47 : (-1) * x9 + ((-1) * x15 + 0) ≤ (-2000)) (f48 : 1 * x3 + ((-1) * x13 + 0) ≤ (-1)) (f49 : (-1) * x9 + ((-1) * x13 + 0) ≤ (-2000)) (f50 : 1 * x8 + ((-1) * x2 + 0) ≤ 0) (f51 : (-1) * x8 + 0 ≤ 0) (f52 : (-1) * x4 + 0 ≤ 0) (f54 : 1 * x3 + ((-1) * x13 + 0) ≤ (-1)) (f55 : (-1) * x9 + ((-1) * x13 + 0) ≤ (-2000)) (f56 : x8 ≤ 0) (f57 : 1 * x8 + ((-1) * x2 + 0) ≤ 0) (f58 : (-1) * x8 + 0 ≤ 0) (f59 : (-1) * x4 + 0 ≤ 0) (f61 : 1 * x8 + ((-1) * x2 + 0) ≤ 0) (f62 : (-1) * x8 + 0 ≤ 0) (f63 : (-1) * x4 + 0 ≤ 0) (kz_0_8 : 0 ≤ fault_0 ∧ fault_0 ≤ 5) (kz_0_11 : 0 ≤ pos_0 ∧ pos_0 ≤ 2000) (kz_0_12 : 0 ≤ kind_0 ∧ kind_0 ≤ 4) (kz_0_15 : 0 ≤ from_0 ∧ from_0 ≤ 2000) (ex2 : gx = 0 + (1 * x9 + 0)) (ex3 : 0 ≤ gx ∧ gx ≤ 2000) : 1 * x3 + ((-1) * pos_0 + 0) ≤ (-1) := by
  first | assumption | (clear f17; omega) | omega | grind
set_option maxHeartbeats 4000000 in
theorem vc_Mo_of_at_s5003_10_3 (x2 : Int) (x3 : Int) (x4 : Int) (x7 : Int) (x8 : Int) (x9 : Int) (x13 : Int) (x15 : Int) (x19 : Int) (x25 : Int) (fault_0 : Int) (from_0 : Int) (pos_0 : Int) (kind_0 : Int) (gx : Int) (k2 : 9 ≤ x2 ∧ x2 ≤ 9) (k3 : 0 ≤ x3 ∧ x3 ≤ 2000) (k4 : (-1) ≤ x4 ∧ x4 ≤ 48) (k7 : 9 ≤ x7 ∧ x7 ≤ 9) (k8 : (-2147483648) ≤ x8 ∧ x8 ≤ 0) (k9 : 0 ≤ x9 ∧ x9 ≤ 2000) (k13 : 0 ≤ x13 ∧ x13 ≤ 2000) (k15 : 0 ≤ x15 ∧ x15 ≤ 2000) (k19 : (-2147483648) ≤ x19 ∧ x19 ≤ 0) (k25 : 0 ≤ x25 ∧ x25 ≤ 2000) (f0 : 1 * x3 + ((-1) * x25 + 0) ≤ (-1)) (f1 : (-1) * x9 + ((-1) * x25 + 0) ≤ (-2001)) (f2 : 1 * x19 + ((-1) * x2 + 0) ≤ 0) (f3 : (-1) * x19 + 0 ≤ 0) (f4 : 1 * x15 + ((-1) * x13 + 0) ≤ 0) (f5 : (-1) * x15 + (1 * x13 + 0) ≤ 0) (f6 : 1 * x3 + ((-1) * x15 + 0) ≤ (-1)) (f7 : (-1) * x9 + ((-1) * x15 + 0) ≤ (-2000)) (f8 : 1 * x3 + ((-1) * x13 + 0) ≤ (-1)) (f9 : (-1) * x9 + ((-1) * x13 + 0) ≤ (-2000)) (f10 : 1 * x8 + ((-1) * x2 + 0) ≤ 0) (f11 : (-1) * x8 + 0 ≤ 0) (f12 : (-1) * x4 + 0 ≤ 0) (f15 : (-1) * fault_0 + 0 ≤ (-1)) (f16 : 1 * from_0 + ((-1) * pos_0 + 0) ≤ 0) (f17 : ((kind_0 = 1) → (pos_0 ≤ (from_0 + 8))) ∧ ((kind_0 = 0) ∨ ((from_0 + 1) ≤ pos_0))) (f18 : 1 * x25 + ((-1) * from_0 + 0) ≤ 0) (f20 : 1 * x3 + ((-1) * x25 + 0) ≤ (-1)) (f21 : (-1) * x9 + ((-1) * x25 + 0) ≤ (-2001)) (f22 : 1 * x19 + ((-1) * x2 + 0) ≤ 0) (f23 : (-1) * x19 + 0 ≤ 0) (f24 : 1 * x15 + ((-1) * x13 + 0) ≤ 0) (f25 : (-1) * x15 + (1 * x13 + 0) ≤ 0) (f26 : 1 * x3 + ((-1) * x15 + 0) ≤ (-1)) (f27 : (-1) * x9 + ((-1) * x15 + 0) ≤ (-2000)) (f28 : 1 * x3 + ((-1) * x13 + 0) ≤ (-1)) (f29 : (-1) * x9 + ((-1) * x13 + 0) ≤ (-2000)) (f30 : 1 * x8 + ((-1) * x2 + 0) ≤ 0) (f31 : (-1) * x8 + 0 ≤ 0) (f32 : (-1) * x4 + 0 ≤ 0) (f34 : 1 * x15 + ((-1) * x13 + 0) ≤ 0) (f35 : (-1) * x15 + (1 * x13 + 0) ≤ 0) (f36 : 1 * x3 + ((-1) * x15 + 0) ≤ (-1)) (f37 : (-1) * x9 + ((-1) * x15 + 0) ≤ (-2000)) (f38 : 1 * x3 + ((-1) * x13 + 0) ≤ (-1)) (f39 : (-1) * x9 + ((-1) * x13 + 0) ≤ (-2000)) (f40 : 1 * x8 + ((-1) * x2 + 0) ≤ 0) (f41 : (-1) * x8 + 0 ≤ 0) (f42 : (-1) * x4 + 0 ≤ 0) (f44 : 1 * x15 + ((-1) * x13 + 0) ≤ 0) (f45 : (-1) * x15 + (1 * x13 + 0) ≤ 0) (f46 : 1 * x3 + ((-1) * x15 + 0) ≤ (-1)) (f47 : (-1) * x9 + ((-1) * x15 + 0) ≤ (-2000)) (f48 : 1 * x3 + ((-1) * x13 + 0) ≤ (-1)) (f49 : (-1) * x9 + ((-1) * x13 + 0) ≤ (-2000)) (f50 : 1 * x8 + ((-1) * x2 + 0) ≤ 0) (f51 : (-1) * x8 + 0 ≤ 0) (f52 : (-1) * x4 + 0 ≤ 0) (f54 : 1 * x3 + ((-1) * x13 + 0) ≤ (-1)) (f55 : (-1) * x9 + ((-1) * x13 + 0) ≤ (-2000)) (f56 : x8 ≤ 0) (f57 : 1 * x8 + ((-1) * x2 + 0) ≤ 0) (f58 : (-1) * x8 + 0 ≤ 0) (f59 : (-1) * x4 + 0 ≤ 0) (f61 : 1 * x8 + ((-1) * x2 + 0) ≤ 0) (f62 : (-1) * x8 + 0 ≤ 0) (f63 : (-1) * x4 + 0 ≤ 0) (kz_0_8 : 0 ≤ fault_0 ∧ fault_0 ≤ 5) (kz_0_11 : 0 ≤ pos_0 ∧ pos_0 ≤ 2000) (kz_0_12 : 0 ≤ kind_0 ∧ kind_0 ≤ 4) (kz_0_15 : 0 ≤ from_0 ∧ from_0 ≤ 2000) (ex2 : gx = 0 + (1 * x9 + 0)) (ex3 : 0 ≤ gx ∧ gx ≤ 2000) : 1 * x19 + ((-1) * x2 + 0) ≤ 0 := by
  first | assumption | (clear f17; omega) | omega | grind
set_option maxHeartbeats 4000000 in
theorem vc_Mo_of_at_s5003_10_4 (x2 : Int) (x3 : Int) (x4 : Int) (x7 : Int) (x8 : Int) (x9 : Int) (x13 : Int) (x15 : Int) (x19 : Int) (x25 : Int) (fault_0 : Int) (from_0 : Int) (pos_0 : Int) (kind_0 : Int) (gx : Int) (k2 : 9 ≤ x2 ∧ x2 ≤ 9) (k3 : 0 ≤ x3 ∧ x3 ≤ 2000) (k4 : (-1) ≤ x4 ∧ x4 ≤ 48) (k7 : 9 ≤ x7 ∧ x7 ≤ 9) (k8 : (-2147483648) ≤ x8 ∧ x8 ≤ 0) (k9 : 0 ≤ x9 ∧ x9 ≤ 2000) (k13 : 0 ≤ x13 ∧ x13 ≤ 2000) (k15 : 0 ≤ x15 ∧ x15 ≤ 2000) (k19 : (-2147483648) ≤ x19 ∧ x19 ≤ 0) (k25 : 0 ≤ x25 ∧ x25 ≤ 2000) (f0 : 1 * x3 + ((-1) * x25 + 0) ≤ (-1)) (f1 : (-1) * x9 + ((-1) * x25 + 0) ≤ (-2001)) (f2 : 1 * x19 + ((-1) * x2 + 0) ≤ 0) (f3 : (-1) * x19 + 0 ≤ 0) (f4 : 1 * x15 + ((-1) * x13 + 0) ≤ 0) (f5 : (-1) * x15 + (1 * x13 + 0) ≤ 0) (f6 : 1 * x3 + ((-1) * x15 + 0) ≤ (-1)) (f7 : (-1) * x9 + ((-1) * x15 + 0) ≤ (-2000)) (f8 : 1 * x3 + ((-1) * x13 + 0) ≤ (-1)) (f9 : (-1) * x9 + ((-1) * x13 + 0) ≤ (-2000)) (f10 : 1 * x8 + ((-1) * x2 + 0) ≤ 0) (f11 : (-1) * x8 + 0 ≤ 0) (f12 : (-1) * x4 + 0 ≤ 0) (f15 : (-1) * fault_0 + 0 ≤ (-1)) (f16 : 1 * from_0 + ((-1) * pos_0 + 0) ≤ 0) (f17 : ((kind_0 = 1) → (pos_0 ≤ (from_0 + 8))) ∧ ((kind_0 = 0) ∨ ((from_0 + 1) ≤ pos_0))) (f18 : 1 * x25 + ((-1) * from_0 + 0) ≤ 0) (f20 : 1 * x3 + ((-1) * x25 + 0) ≤ (-1)) (f21 : (-1) * x9 + ((-1) * x25 + 0) ≤ (-2001)) (f22 : 1 * x19 + ((-1) * x2 + 0) ≤ 0) (f23 : (-1) * x19 + 0 ≤ 0) (f24 : 1 * x15 + ((-1) * x13 + 0) ≤ 0) (f25 : (-1) * x15 + (1 * x13 + 0) ≤ 0) (f26 : 1 * x3 + ((-1) * x15 + 0) ≤ (-1)) (f27 : (-1) * x9 + ((-1) * x15 + 0) ≤ (-2000)) (f28 : 1 * x3 + ((-1) * x13 + 0) ≤ (-1)) (f29 : (-1) * x9 + ((-1) * x13 + 0) ≤ (-2000)) (f30 : 1 * x8 + ((-1) * x2 + 0) ≤ 0) (f31 : (-1) * x8 + 0 ≤ 0) (f32 : (-1) * x4 + 0 ≤ 0) (f34 : 1 * x15 + ((-1) * x13 + 0) ≤ 0) (f35 : (-1) * x15 + (1 * x13 + 0) ≤ 0) (f36 : 1 * x3 + ((-1) * x15 + 0) ≤ (-1)) (f37 : (-1) * x9 + ((-1) * x15 + 0) ≤ (-2000)) (f38 : 1 * x3 + ((-1) * x13 + 0) ≤ (-1)) (f39 : (-1) * x9 + ((-1) * x13 + 0) ≤ (-2000)) (f40 : 1 * x8 + ((-1) * x2 + 0) ≤ 0) (f41 : (-1) * x8 + 0 ≤ 0) (f42 : (-1) * x4 + 0 ≤ 0) (f44 : 1 * x15 + ((-1) * x13 + 0) ≤ 0) (f45 : (-1) * x15 + (1 * x13 + 0) ≤ 0) (f46 : 1 * x3 + ((-1) * x15 + 0) ≤ (-1)) (f47 : (-1) * x9 + ((-1) * x15 + 0) ≤ (-2000)) (f48 : 1 * x3 + ((-1) * x13 + 0) ≤ (-1)) (f49 : (-1) * x9 + ((-1) * x13 + 0) ≤ (-2000)) (f50 : 1 * x8 + ((-1) * x2 + 0) ≤ 0) (f51 : (-1) * x8 + 0 ≤ 0) (f52 : (-1) * x4 + 0 ≤ 0) (f54 : 1 * x3 + ((-1) * x13 + 0) ≤ (-1)) (f55 : (-1) * x9 + ((-1) * x13 + 0) ≤ (-2000)) (f56 : x8 ≤ 0) (f57 : 1 * x8 + ((-1) * x2 + 0) ≤ 0) (f58 : (-1) * x8 + 0 ≤ 0) (f59 : (-1) * x4 + 0 ≤ 0) (f61 : 1 * x8 + ((-1) * x2 + 0) ≤ 0) (f62 : (-1) * x8 + 0 ≤ 0) (f63 : (-1) * x4 + 0 ≤ 0) (kz_0_8 : 0 ≤ fault_0 ∧ fault_0 ≤ 5) (kz_0_11 : 0 ≤ pos_0 ∧ pos_0 ≤ 2000) (kz_0_12 : 0 ≤ kind_0 ∧ kind_0 ≤ 4) (kz_0_15 : 0 ≤ from_0 ∧ from_0 ≤ 2000) (ex2 : gx = 0 + (1 * x9 + 0)) (ex3 : 0 ≤ gx ∧ gx ≤ 2000) : (-1) * x19 + 0 ≤ 0 := by
  first | assumption | (clear f17; omega) | omega | grind
set_option maxHeartbeats 4000000 in
theorem vc_Mo_of_at_s5003_10_5 (x2 : Int) (x3 : Int) (x4 : Int) (x7 : Int) (x8 : Int) (x9 : Int) (x13 : Int) (x15 : Int) (x19 : Int) (x25 : Int) (fault_0 : Int) (from_0 : Int) (pos_0 : Int) (kind_0 : Int) (gx : Int) (k2 : 9 ≤ x2 ∧ x2 ≤ 9) (k3 : 0 ≤ x3 ∧ x3 ≤ 2000) (k4 : (-1) ≤ x4 ∧ x4 ≤ 48) (k7 : 9 ≤ x7 ∧ x7 ≤ 9) (k8 : (-2147483648) ≤ x8 ∧ x8 ≤ 0) (k9 : 0 ≤ x9 ∧ x9 ≤ 2000) (k13 : 0 ≤ x13 ∧ x13 ≤ 2000) (k15 : 0 ≤ x15 ∧ x15 ≤ 2000) (k19 : (-2147483648) ≤ x19 ∧ x19 ≤ 0) (k25 : 0 ≤ x25 ∧ x25 ≤ 2000) (f0 : 1 * x3 + ((-1) * x25 + 0) ≤ (-1)) (f1 : (-1) * x9 + ((-1) * x25 + 0) ≤ (-2001)) (f2 : 1 * x19 + ((-1) * x2 + 0) ≤ 0) (f3 : (-1) * x19 + 0 ≤ 0) (f4 : 1 * x15 + ((-1) * x13 + 0) ≤ 0) (f5 : (-1) * x15 + (1 * x13 + 0) ≤ 0) (f6 : 1 * x3 + ((-1) * x15 + 0) ≤ (-1)) (f7 : (-1) * x9 + ((-1) * x15 + 0) ≤ (-2000)) (f8 : 1 * x3 + ((-1) * x13 + 0) ≤ (-1)) (f9 : (-1) * x9 + ((-1) * x13 + 0) ≤ (-2000)) (f10 : 1 * x8 + ((-1) * x2 + 0) ≤ 0) (f11 : (-1) * x8 + 0 ≤ 0) (f12 : (-1) * x4 + 0 ≤ 0) (f15 : (-1) * fault_0 + 0 ≤ (-1)) (f16 : 1 * from_0 + ((-1) * pos_0 + 0) ≤ 0) (f17 : ((kind_0 = 1) → (pos_0 ≤ (from_0 + 8))) ∧ ((kind_0 = 0) ∨ ((from_0 + 1) ≤ pos_0))) (f18 : 1 * x25 + ((-1) * from_0 + 0) ≤ 0) (f20 : 1 * x3 + ((-1) * x25 + 0) ≤ (-1)) (f21 : (-1) * x9 + ((-1) * x25 + 0) ≤ (-2001)) (f22 : 1 * x19 + ((-1) * x2 + 0) ≤ 0) (f23 : (-1) * x19 + 0 ≤ 0) (f24 : 1 * x15 + ((-1) * x13 + 0) ≤ 0) (f25 : (-1) * x15 + (1 * x13 + 0) ≤ 0) (f26 : 1 * x3 + ((-1) * x15 + 0) ≤ (-1)) (f27 : (-1) * x9 + ((-1) * x15 + 0) ≤ (-2000)) (f28 : 1 * x3 + ((-1) * x13 + 0) ≤ (-1)) (f29 : (-1) * x9 + ((-1) * x13 + 0) ≤ (-2000)) (f30 : 1 * x8 + ((-1) * x2 + 0) ≤ 0) (f31 : (-1) * x8 + 0 ≤ 0) (f32 : (-1) * x4 + 0 ≤ 0) (f34 : 1 * x15 + ((-1) * x13 + 0) ≤ 0) (f35 : (-1) * x15 + (1 * x13 + 0) ≤ 0) (f36 : 1 * x3 + ((-1) * x15 + 0) ≤ (-1)) (f37 : (-1) * x9 + ((-1) * x15 + 0) ≤ (-2000)) (f38 : 1 * x3 + ((-1) * x13 + 0) ≤ (-1)) (f39 : (-1) * x9 + ((-1) * x13 + 0) ≤ (-2000)) (f40 : 1 * x8 + ((-1) * x2 + 0) ≤ 0) (f41 : (-1) * x8 + 0 ≤ 0) (f42 : (-1) * x4 + 0 ≤ 0) (f44 : 1 * x15 + ((-1) * x13 + 0) ≤ 0) (f45 : (-1) * x15 + (1 * x13 + 0) ≤ 0) (f46 : 1 * x3 + ((-1) * x15 + 0) ≤ (-1)) (f47 : (-1) * x9 + ((-1) * x15 + 0) ≤ (-2000)) (f48 : 1 * x3 + ((-1) * x13 + 0) ≤ (-1)) (f49 : (-1) * x9 + ((-1) * x13 + 0) ≤ (-2000)) (f50 : 1 * x8 + ((-1) * x2 + 0) ≤ 0) (f51 : (-1) * x8 + 0 ≤ 0) (f52 : (-1) * x4 + 0 ≤ 0) (f54 : 1 * x3 + ((-1) * x13 + 0) ≤ (-1)) (f55 : (-1) * x9 + ((-1) * x13 + 0) ≤ (-2000)) (f56 : x8 ≤ 0) (f57 : 1 * x8 + ((-1) * x2 + 0) ≤ 0) (f58 : (-1) * x8 + 0 ≤ 0) (f59 : (-1) * x4 + 0 ≤ 0) (f61 : 1 * x8 + ((-1) * x2 + 0) ≤ 0) (f62 : (-1) * x8 + 0 ≤ 0) (f63 : (-1) * x4 + 0 ≤ 0) (kz_0_8 : 0 ≤ fault_0 ∧ fault_0 ≤ 5) (kz_0_11 : 0 ≤ pos_0 ∧ pos_0 ≤ 2000) (kz_0_12 : 0 ≤ kind_0 ∧ kind_0 ≤ 4) (kz_0_15 : 0 ≤ from_0 ∧ from_0 ≤ 2000) (ex2 : gx = 0 + (1 * x9 + 0)) (ex3 : 0 ≤ gx ∧ gx ≤ 2000) : (-1) * x4 + 0 ≤ 0 := by
  first | assumption | (clear f17; omega) | omega | grind
set_option maxHeartbeats 4000000 in
theorem vc_Mo_of_at_s5003_10_6 (x2 : Int) (x3 : Int) (x4 : Int) (x7 : Int) (x8 : Int) (x9 : Int) (x13 : Int) (x15 : Int) (x19 : Int) (x25 : Int) (fault_0 : Int) (from_0 : Int) (pos_0 : Int) (kind_0 : Int) (gx : Int) (k2 : 9 ≤ x2 ∧ x2 ≤ 9) (k3 : 0 ≤ x3 ∧ x3 ≤ 2000) (k4 : (-1) ≤ x4 ∧ x4 ≤ 48) (k7 : 9 ≤ x7 ∧ x7 ≤ 9) (k8 : (-2147483648) ≤ x8 ∧ x8 ≤ 0) (k9 : 0 ≤ x9 ∧ x9 ≤ 2000) (k13 : 0 ≤ x13 ∧ x13 ≤ 2000) (k15 : 0 ≤ x15 ∧ x15 ≤ 2000) (k19 : (-2147483648) ≤ x19 ∧ x19 ≤ 0) (k25 : 0 ≤ x25 ∧ x25 ≤ 2000) (f0 : 1 * x3 + ((-1) * x25 + 0) ≤ (-1)) (f1 : (-1) * x9 + ((-1) * x25 + 0) ≤ (-2001)) (f2 : 1 * x19 + ((-1) * x2 + 0) ≤ 0) (f3 : (-1) * x19 + 0 ≤ 0) (f4 : 1 * x15 + ((-1) * x13 + 0) ≤ 0) (f5 : (-1) * x15 + (1 * x13 + 0) ≤ 0) (f6 : 1 * x3 + ((-1) * x15 + 0) ≤ (-1)) (f7 : (-1) * x9 + ((-1) * x15 + 0) ≤ (-2000)) (f8 : 1 * x3 + ((-1) * x13 + 0) ≤ (-1)) (f9 : (-1) * x9 + ((-1) * x13 + 0) ≤ (-2000)) (f10 : 1 * x8 + ((-1) * x2 + 0) ≤ 0) (f11 : (-1) * x8 + 0 ≤ 0) (f12 : (-1) * x4 + 0 ≤ 0) (f15 : (-1) * fault_0 + 0 ≤ (-1)) (f16 : 1 * from_0 + ((-1) * pos_0 + 0) ≤ 0) (f17 : ((kind_0 = 1) → (pos_0 ≤ (from_0 + 8))) ∧ ((kind_0 = 0) ∨ ((from_0 + 1) ≤ pos_0))) (f18 : 1 * x25 + ((-1) * from_0 + 0) ≤ 0) (f20 : 1 * x3 + ((-1) * x25 + 0) ≤ (-1)) (f21 : (-1) * x9 + ((-1) * x25 + 0) ≤ (-2001)) (f22 : 1 * x19 + ((-1) * x2 + 0) ≤ 0) (f23 : (-1) * x19 + 0 ≤ 0) (f24 : 1 * x15 + ((-1) * x13 + 0) ≤ 0) (f25 : (-1) * x15 + (1 * x13 + 0) ≤ 0) (f26 : 1 * x3 + ((-1) * x15 + 0) ≤ (-1)) (f27 : (-1) * x9 + ((-1) * x15 + 0) ≤ (-2000)) (f28 : 1 * x3 + ((-1) * x13 + 0) ≤ (-1)) (f29 : (-1) * x9 + ((-1) * x13 + 0) ≤ (-2000)) (f30 : 1 * x8 + ((-1) * x2 + 0) ≤ 0) (f31 : (-1) * x8 + 0 ≤ 0) (f32 : (-1) * x4 + 0 ≤ 0) (f34 : 1 * x15 + ((-1) * x13 + 0) ≤ 0) (f35 : (-1) * x15 + (1 * x13 + 0) ≤ 0) (f36 : 1 * x3 + ((-1) * x15 + 0) ≤ (-1)) (f37 : (-1) * x9 + ((-1) * x15 + 0) ≤ (-2000)) (f38 : 1 * x3 + ((-1) * x13 + 0) ≤ (-1)) (f39 : (-1) * x9 + ((-1) * x13 + 0) ≤ (-2000)) (f40 : 1 * x8 + ((-1) * x2 + 0) ≤ 0) (f41 : (-1) * x8 + 0 ≤ 0) (f42 : (-1) * x4 + 0 ≤ 0) (f44 : 1 * x15 + ((-1) * x13 + 0) ≤ 0) (f45 : (-1) * x15 + (1 * x13 + 0) ≤ 0) (f46 : 1 * x3 + ((-1) * x15 + 0) ≤ (-1)) (f47 : (-1) * x9 + ((-1) * x15 + 0) ≤ (-2000)) (f48 : 1 * x3 + ((-1) * x13 + 0) ≤ (-1)) (f49 : (-1) * x9 + ((-1) * x13 + 0) ≤ (-2000)) (f50 : 1 * x8 + ((-1) * x2 + 0) ≤ 0) (f51 : (-1) * x8 + 0 ≤ 0) (f52 : (-1) * x4 + 0 ≤ 0) (f54 : 1 * x3 + ((-1) * x13 + 0) ≤ (-1)) (f55 : (-1) * x9 + ((-1) * x13 + 0) ≤ (-2000)) (f56 : x8 ≤ 0) (f57 : 1 * x8 + ((-1) * x2 + 0) ≤ 0) (f58 : (-1) * x8 + 0 ≤ 0) (f59 : (-1) * x4 + 0 ≤ 0) (f61 : 1 * x8 + ((-1) * x2 + 0) ≤ 0) (f62 : (-1) * x8 + 0 ≤ 0) (f63 : (-1) * x4 + 0 ≤ 0) (kz_0_8 : 0 ≤ fault_0 ∧ fault_0 ≤ 5) (kz_0_11 : 0 ≤ pos_0 ∧ pos_0 ≤ 2000) (kz_0_12 : 0 ≤ kind_0 ∧ kind_0 ≤ 4) (kz_0_15 : 0 ≤ from_0 ∧ from_0 ≤ 2000) (ex2 : gx = 0 + (1 * x9 + 0)) (ex3 : 0 ≤ gx ∧ gx ≤ 2000) : (-1) * gx + ((-1) * pos_0 + 0) ≤ (-2001) := by
  first | assumption | (clear f17; omega) | omega | grind
def o_Mo_of_at_s5003_10 : or_T := (139, 26, [(0, (2, 0, 0, [165])), (2, (0, 9, 9, [])), (3, (0, 0, 2000, [])), (4, (0, -1, 48, [])), (5, (2, 0, 0, [165])), (7, (0, 9, 9, [])), (8, (0, -2147483648, 0, [])), (9, (0, 0, 2000, [])), (13, (0, 0, 2000, [])), (15, (0, 0, 2000, [])), (19, (0, -2147483648, 0, [])), (25, (0, 0, 2000, []))], [(23, [3, 25], [-1, 1, -1]), (23, [9, 25], [-2001, -1, -1]), (23, [19, 7], [0, 1, -1]), (23, [19], [0, -1]), (23, [15, 13], [0, 1, -1]), (23, [15, 13], [0, -1, 1]), (23, [3, 15], [-1, 1, -1]), (23, [9, 15], [-2000, -1, -1]), (23, [3, 13], [-1, 1, -1]), (23, [9, 13], [-2000, -1, -1]), (23, [8, 7], [0, 1, -1]), (23, [8], [0, -1]), (23, [4], [0, -1]), (24, [0, 5], []), (24, [2, 7], []), (20, [5], [30, -1, -1, 1, 8]), (20, [5, 5], [30, 0, 1, 1, 15, -1, 1, 11]), (20, [5], [50, 3, 0, 12, 11, 15, 2, 21, 4, 7, 1, 3, 2, 0, 12, 0, 1, 0, 3, 2, 0, 11, 4, 3, 2, 0, 15, 0, 8, 3, 7, 1, 3, 2, 0, 12, 0, 0, 0, 7, 4, 3, 2, 0, 15, 0, 1, 2, 0, 11]), (20, [25, 5], [30, 0, 1, 0, 0, -1, 1, 15]), (102, [25], [0, 165011, 165012, 165013, 165014, 165015]), (23, [3, 25], [-1, 1, -1]), (23, [9, 25], [-2001, -1, -1]), (23, [19, 7], [0, 1, -1]), (23, [19], [0, -1]), (23, [15, 13], [0, 1, -1]), (23, [15, 13], [0, -1, 1]), (23, [3, 15], [-1, 1, -1]), (23, [9, 15], [-2000, -1, -1]), (23, [3, 13], [-1, 1, -1]), (23, [9, 13], [-2000, -1, -1]), (23, [8, 7], [0, 1, -1]), (23, [8], [0, -1]), (23, [4], [0, -1]), (102, [23], [0, 165008, 165009]), (23, [15, 13], [0, 1, -1]), (23, [15, 13], [0, -1, 1]), (23, [3, 15], [-1, 1, -1]), (23, [9, 15], [-2000, -1, -1]), (23, [3, 13], [-1, 1, -1]), (23, [9, 13], [-2000, -1, -1]), (23, [8, 7], [0, 1, -1]), (23, [8], [0, -1]), (23, [4], [0, -1]), (102, [15], [0, 165008, 165009, 165011, 165012, 165013, 165014, 165015]), (23, [15, 13], [0, 1, -1]), (23, [15, 13], [0, -1, 1]), (23, [3, 15], [-1, 1, -1]), (23, [9, 15], [-2000, -1, -1]), (23, [3, 13], [-1, 1, -1]), (23, [9, 13], [-2000, -1, -1]), (23, [8, 7], [0, 1, -1]), (23, [8], [0, -1]), (23, [4], [0, -1]), (102, [13], [0, 165011, 165012, 165013, 165014, 165015]), (23, [3, 13], [-1, 1, -1]), (23, [9, 13], [-2000, -1, -1]), (8, [8], [5]), (23, [8, 7], [0, 1, -1]), (23, [8], [0, -1]), (23, [4], [0, -1]), (102, [11], [0]), (23, [8, 7], [0, 1, -1]), (23, [8], [0, -1]), (23, [4], [0, -1])], [], [(0, 0, 2000, [])], [(20, [5, 5], [30, 0, 1, 1, 15, -1, 1, 11]), (20, [5], [50, 3, 0, 12, 11, 15, 2, 21, 4, 7, 1, 3, 2, 0, 12, 0, 1, 0, 3, 2, 0, 11, 4, 3, 2, 0, 15, 0, 8, 3, 7, 1, 3, 2, 0, 12, 0, 0, 0, 7, 4, 3, 2, 0, 15, 0, 1, 2, 0, 11]), (20, [3, 5], [30, -1, 1, 0, 0, -1, 1, 11]), (23, [19, 7], [0, 1, -1]), (23, [19], [0, -1]), (23, [4], [0, -1]), (20, [26, 5], [30, -2001, -1, 0, 0, -1, 1, 11]), (24, [0, 5], []), (24, [2, 7], [])], [(26, 9, 0, 0)], [])
theorem oo_Mo_of_at_s5003_10 {kA : Nat → ClassId} : or_ok PRD kA GG o_Mo_of_at_s5003_10 := by
  refine or_mk fun A ta ws vs hD hth hl => ?_
  intro t0 r0 t2 k2 t3 k3 t4 k4 t5 r5 t7 k7 t8 k8 t9 k9 t13 k13 t15 k15 t19 k19 t25 k25 f0 f1 f2 f3 f4 f5 f6 f7 f8 f9 f10 f11 f12 f13 f14 f15 f16 f17 f18 ta1 w1 le1 s1 f20 f21 f22 f23 f24 f25 f26 f27 f28 f29 f30 f31 f32 ta2 w2 le2 s2 f34 f35 f36 f37 f38 f39 f40 f41 f42 ta3 w3 le3 s3 f44 f45 f46 f47 f48 f49 f50 f51 f52 ta4 w4 le4 s4 f54 f55 f56 f57 f58 f59 ta5 w5 le5 s5 f61 f62 f63
  replace f0 := shm_211 f0
  replace f1 := shm_1895 f1
  replace f2 := shm_7 f2
  replace f3 := shm_1013 f3
  replace f4 := shm_7 f4
  replace f5 := shm_22 f5
  replace f6 := shm_211 f6
  replace f7 := shm_1894 f7
  replace f8 := shm_211 f8
  replace f9 := shm_1894 f9
  replace f10 := shm_7 f10
  replace f11 := shm_1013 f11
  replace f12 := shm_1013 f12
  replace f13 := shm_5 f13
  replace f14 := shm_5 f14
  replace f15 := shm_144 f15
  replace f16 := shm_1397 f16
  replace f17 := shm_1398 f17
  replace f18 := shm_1396 f18
  replace f20 := shm_211 f20
  replace f21 := shm_1895 f21
  replace f22 := shm_7 f22
  replace f23 := shm_1013 f23
  replace f24 := shm_7 f24
  replace f25 := shm_22 f25
  replace f26 := shm_211 f26
  replace f27 := shm_1894 f27
  replace f28 := shm_211 f28
  replace f29 := shm_1894 f29
  replace f30 := shm_7 f30
  replace f31 := shm_1013 f31
  replace f32 := shm_1013 f32
  replace f34 := shm_7 f34
  replace f35 := shm_22 f35
  replace f36 := shm_211 f36
  replace f37 := shm_1894 f37
  replace f38 := shm_211 f38
  replace f39 := shm_1894 f39
  replace f40 := shm_7 f40
  replace f41 := shm_1013 f41
  replace f42 := shm_1013 f42
  replace f44 := shm_7 f44
  replace f45 := shm_22 f45
  replace f46 := shm_211 f46
  replace f47 := shm_1894 f47
  replace f48 := shm_211 f48
  replace f49 := shm_1894 f49
  replace f50 := shm_7 f50
  replace f51 := shm_1013 f51
  replace f52 := shm_1013 f52
  replace f54 := shm_211 f54
  replace f55 := shm_1894 f55
  replace f56 := shm_142 f56
  replace f57 := shm_7 f57
  replace f58 := shm_1013 f58
  replace f59 := shm_1013 f59
  replace f61 := shm_7 f61
  replace f62 := shm_1013 f62
  replace f63 := shm_1013 f63
  have q5 : n_v vs 5 = n_v vs 0 := f13.symm
  have q7 : n_v vs 7 = n_v vs 2 := f14.symm
  simp only [q7, q5] at f2 f10 f15 f16 f17 f18 f22 f30 f40 f50 f57 f61
  have kz_0_8 := fdq_14 hD hth r0
  have kz_0_11 := fdq_273 hD hth r0
  have kz_0_12 := fdq_186 hD hth r0
  have kz_0_15 := fdq_274 hD hth r0
  obtain ⟨x, ex, hx⟩ := iv_ex (ta := ta) (lo := 0) (hi := 2000) (z := 0 + (1 * v_iv (n_v vs 9) + 0)) (by omega) (by omega) (by omega) (by omega)
  have ex2 : v_iv (Value.int x) = 0 + (1 * v_iv (n_v vs 9) + 0) := ex
  have ex3 : 0 ≤ v_iv (Value.int x) ∧ v_iv (Value.int x) ≤ 2000 := tv_rng hx
  have e_0 : n_v (vs ++ [Value.int x]) 0 = n_v vs 0 := n_v_old (by rw [hl]; decide)
  have e_2 : n_v (vs ++ [Value.int x]) 2 = n_v vs 2 := n_v_old (by rw [hl]; decide)
  have e_3 : n_v (vs ++ [Value.int x]) 3 = n_v vs 3 := n_v_old (by rw [hl]; decide)
  have e_4 : n_v (vs ++ [Value.int x]) 4 = n_v vs 4 := n_v_old (by rw [hl]; decide)
  have e_5 : n_v (vs ++ [Value.int x]) 5 = n_v vs 5 := n_v_old (by rw [hl]; decide)
  have e_7 : n_v (vs ++ [Value.int x]) 7 = n_v vs 7 := n_v_old (by rw [hl]; decide)
  have e_19 : n_v (vs ++ [Value.int x]) 19 = n_v vs 19 := n_v_old (by rw [hl]; decide)
  have e_26 : n_v (vs ++ [Value.int x]) 26 = Value.int x := n_v_new hl
  have nf0 : fc_1 PRD (20, [5, 5], [30, 0, 1, 1, 15, -1, 1, 11]) ws (vs ++ [Value.int x]) := by
    refine ⟨nf_inA hl rfl, sgq_1397 ?_⟩
    · show 1 * w_fi ws (n_v (vs ++ [Value.int x]) 5) 15 + ((-1) * w_fi ws (n_v (vs ++ [Value.int x]) 5) 11 + 0) ≤ 0
      simp only [e_5, q5]
      exact vc_Mo_of_at_s5003_10_0 (v_iv (n_v vs 2)) (v_iv (n_v vs 3)) (v_iv (n_v vs 4)) (v_iv (n_v vs 7)) (v_iv (n_v vs 8)) (v_iv (n_v vs 9)) (v_iv (n_v vs 13)) (v_iv (n_v vs 15)) (v_iv (n_v vs 19)) (v_iv (n_v vs 25)) (w_fi ws (n_v vs 0) 8) (w_fi ws (n_v vs 0) 15) (w_fi ws (n_v vs 0) 11) (w_fi ws (n_v vs 0) 12) (v_iv (Value.int x)) k2 k3 k4 k7 k8 k9 k13 k15 k19 k25 f0 f1 f2 f3 f4 f5 f6 f7 f8 f9 f10 f11 f12 f15 f16 f17 f18 f20 f21 f22 f23 f24 f25 f26 f27 f28 f29 f30 f31 f32 f34 f35 f36 f37 f38 f39 f40 f41 f42 f44 f45 f46 f47 f48 f49 f50 f51 f52 f54 f55 f56 f57 f58 f59 f61 f62 f63 kz_0_8 kz_0_11 kz_0_12 kz_0_15 ex2 ex3
  have nf1 : fc_1 PRD (20, [5], [50, 3, 0, 12, 11, 15, 2, 21, 4, 7, 1, 3, 2, 0, 12, 0, 1, 0, 3, 2, 0, 11, 4, 3, 2, 0, 15, 0, 8, 3, 7, 1, 3, 2, 0, 12, 0, 0, 0, 7, 4, 3, 2, 0, 15, 0, 1, 2, 0, 11]) ws (vs ++ [Value.int x]) := by
    refine ⟨nf_inA hl rfl, sgq_1398 ?_⟩
    · show ((w_fi ws (n_v (vs ++ [Value.int x]) 5) 12 = 1) → (w_fi ws (n_v (vs ++ [Value.int x]) 5) 11 ≤ (w_fi ws (n_v (vs ++ [Value.int x]) 5) 15 + 8))) ∧ ((w_fi ws (n_v (vs ++ [Value.int x]) 5) 12 = 0) ∨ ((w_fi ws (n_v (vs ++ [Value.int x]) 5) 15 + 1) ≤ w_fi ws (n_v (vs ++ [Value.int x]) 5) 11))
      simp only [e_5, q5]
      exact vc_Mo_of_at_s5003_10_1 (v_iv (n_v vs 2)) (v_iv (n_v vs 3)) (v_iv (n_v vs 4)) (v_iv (n_v vs 7)) (v_iv (n_v vs 8)) (v_iv (n_v vs 9)) (v_iv (n_v vs 13)) (v_iv (n_v vs 15)) (v_iv (n_v vs 19)) (v_iv (n_v vs 25)) (w_fi ws (n_v vs 0) 8) (w_fi ws (n_v vs 0) 15) (w_fi ws (n_v vs 0) 11) (w_fi ws (n_v vs 0) 12) (v_iv (Value.int x)) k2 k3 k4 k7 k8 k9 k13 k15 k19 k25 f0 f1 f2 f3 f4 f5 f6 f7 f8 f9 f10 f11 f12 f15 f16 f17 f18 f20 f21 f22 f23 f24 f25 f26 f27 f28 f29 f30 f31 f32 f34 f35 f36 f37 f38 f39 f40 f41 f42 f44 f45 f46 f47 f48 f49 f50 f51 f52 f54 f55 f56 f57 f58 f59 f61 f62 f63 kz_0_8 kz_0_11 kz_0_12 kz_0_15 ex2 ex3
  have nf2 : fc_1 PRD (20, [3, 5], [30, -1, 1, 0, 0, -1, 1, 11]) ws (vs ++ [Value.int x]) := by
    refine ⟨nf_inA hl rfl, sgq_1891 ?_⟩
    · show 1 * v_iv (n_v (vs ++ [Value.int x]) 3) + ((-1) * w_fi ws (n_v (vs ++ [Value.int x]) 5) 11 + 0) ≤ (-1)
      simp only [e_3, e_5, q5]
      exact vc_Mo_of_at_s5003_10_2 (v_iv (n_v vs 2)) (v_iv (n_v vs 3)) (v_iv (n_v vs 4)) (v_iv (n_v vs 7)) (v_iv (n_v vs 8)) (v_iv (n_v vs 9)) (v_iv (n_v vs 13)) (v_iv (n_v vs 15)) (v_iv (n_v vs 19)) (v_iv (n_v vs 25)) (w_fi ws (n_v vs 0) 8) (w_fi ws (n_v vs 0) 15) (w_fi ws (n_v vs 0) 11) (w_fi ws (n_v vs 0) 12) (v_iv (Value.int x)) k2 k3 k4 k7 k8 k9 k13 k15 k19 k25 f0 f1 f2 f3 f4 f5 f6 f7 f8 f9 f10 f11 f12 f15 f16 f17 f18 f20 f21 f22 f23 f24 f25 f26 f27 f28 f29 f30 f31 f32 f34 f35 f36 f37 f38 f39 f40 f41 f42 f44 f45 f46 f47 f48 f49 f50 f51 f52 f54 f55 f56 f57 f58 f59 f61 f62 f63 kz_0_8 kz_0_11 kz_0_12 kz_0_15 ex2 ex3
  have nf3 : fc_1 PRD (23, [19, 7], [0, 1, -1]) ws (vs ++ [Value.int x]) := by
    refine ⟨nf_inA hl rfl, sgq_7 ?_⟩
    · show 1 * v_iv (n_v (vs ++ [Value.int x]) 19) + ((-1) * v_iv (n_v (vs ++ [Value.int x]) 7) + 0) ≤ 0
      simp only [e_7, e_19, q7]
      exact vc_Mo_of_at_s5003_10_3 (v_iv (n_v vs 2)) (v_iv (n_v vs 3)) (v_iv (n_v vs 4)) (v_iv (n_v vs 7)) (v_iv (n_v vs 8)) (v_iv (n_v vs 9)) (v_iv (n_v vs 13)) (v_iv (n_v vs 15)) (v_iv (n_v vs 19)) (v_iv (n_v vs 25)) (w_fi ws (n_v vs 0) 8) (w_fi ws (n_v vs 0) 15) (w_fi ws (n_v vs 0) 11) (w_fi ws (n_v vs 0) 12) (v_iv (Value.int x)) k2 k3 k4 k7 k8 k9 k13 k15 k19 k25 f0 f1 f2 f3 f4 f5 f6 f7 f8 f9 f10 f11 f12 f15 f16 f17 f18 f20 f21 f22 f23 f24 f25 f26 f27 f28 f29 f30 f31 f32 f34 f35 f36 f37 f38 f39 f40 f41 f42 f44 f45 f46 f47 f48 f49 f50 f51 f52 f54 f55 f56 f57 f58 f59 f61 f62 f63 kz_0_8 kz_0_11 kz_0_12 kz_0_15 ex2 ex3
  have nf4 : fc_1 PRD (23, [19], [0, -1]) ws (vs ++ [Value.int x]) := by
    refine ⟨nf_inA hl rfl, sgq_1013 ?_⟩
    · show (-1) * v_iv (n_v (vs ++ [Value.int x]) 19) + 0 ≤ 0
      rw [e_19]
      exact vc_Mo_of_at_s5003_10_4 (v_iv (n_v vs 2)) (v_iv (n_v vs 3)) (v_iv (n_v vs 4)) (v_iv (n_v vs 7)) (v_iv (n_v vs 8)) (v_iv (n_v vs 9)) (v_iv (n_v vs 13)) (v_iv (n_v vs 15)) (v_iv (n_v vs 19)) (v_iv (n_v vs 25)) (w_fi ws (n_v vs 0) 8) (w_fi ws (n_v vs 0) 15) (w_fi ws (n_v vs 0) 11) (w_fi ws (n_v vs 0) 12) (v_iv (Value.int x)) k2 k3 k4 k7 k8 k9 k13 k15 k19 k25 f0 f1 f2 f3 f4 f5 f6 f7 f8 f9 f10 f11 f12 f15 f16 f17 f18 f20 f21 f22 f23 f24 f25 f26 f27 f28 f29 f30 f31 f32 f34 f35 f36 f37 f38 f39 f40 f41 f42 f44 f45 f46 f47 f48 f49 f50 f51 f52 f54 f55 f56 f57 f58 f59 f61 f62 f63 kz_0_8 kz_0_11 kz_0_12 kz_0_15 ex2 ex3
  have nf5 : fc_1 PRD (23, [4], [0, -1]) ws (vs ++ [Value.int x]) := by
    refine ⟨nf_inA hl rfl, sgq_1013 ?_⟩
    · show (-1) * v_iv (n_v (vs ++ [Value.int x]) 4) + 0 ≤ 0
      rw [e_4]
      exact vc_Mo_of_at_s5003_10_5 (v_iv (n_v vs 2)) (v_iv (n_v vs 3)) (v_iv (n_v vs 4)) (v_iv (n_v vs 7)) (v_iv (n_v vs 8)) (v_iv (n_v vs 9)) (v_iv (n_v vs 13)) (v_iv (n_v vs 15)) (v_iv (n_v vs 19)) (v_iv (n_v vs 25)) (w_fi ws (n_v vs 0) 8) (w_fi ws (n_v vs 0) 15) (w_fi ws (n_v vs 0) 11) (w_fi ws (n_v vs 0) 12) (v_iv (Value.int x)) k2 k3 k4 k7 k8 k9 k13 k15 k19 k25 f0 f1 f2 f3 f4 f5 f6 f7 f8 f9 f10 f11 f12 f15 f16 f17 f18 f20 f21 f22 f23 f24 f25 f26 f27 f28 f29 f30 f31 f32 f34 f35 f36 f37 f38 f39 f40 f41 f42 f44 f45 f46 f47 f48 f49 f50 f51 f52 f54 f55 f56 f57 f58 f59 f61 f62 f63 kz_0_8 kz_0_11 kz_0_12 kz_0_15 ex2 ex3
  have nf6 : fc_1 PRD (20, [26, 5], [30, -2001, -1, 0, 0, -1, 1, 11]) ws (vs ++ [Value.int x]) := by
    refine ⟨nf_inA hl rfl, sgq_1896 ?_⟩
    · show (-1) * v_iv (n_v (vs ++ [Value.int x]) 26) + ((-1) * w_fi ws (n_v (vs ++ [Value.int x]) 5) 11 + 0) ≤ (-2001)
      simp only [e_5, e_26, q5]
      exact vc_Mo_of_at_s5003_10_6 (v_iv (n_v vs 2)) (v_iv (n_v vs 3)) (v_iv (n_v vs 4)) (v_iv (n_v vs 7)) (v_iv (n_v vs 8)) (v_iv (n_v vs 9)) (v_iv (n_v vs 13)) (v_iv (n_v vs 15)) (v_iv (n_v vs 19)) (v_iv (n_v vs 25)) (w_fi ws (n_v vs 0) 8) (w_fi ws (n_v vs 0) 15) (w_fi ws (n_v vs 0) 11) (w_fi ws (n_v vs 0) 12) (v_iv (Value.int x)) k2 k3 k4 k7 k8 k9 k13 k15 k19 k25 f0 f1 f2 f3 f4 f5 f6 f7 f8 f9 f10 f11 f12 f15 f16 f17 f18 f20 f21 f22 f23 f24 f25 f26 f27 f28 f29 f30 f31 f32 f34 f35 f36 f37 f38 f39 f40 f41 f42 f44 f45 f46 f47 f48 f49 f50 f51 f52 f54 f55 f56 f57 f58 f59 f61 f62 f63 kz_0_8 kz_0_11 kz_0_12 kz_0_15 ex2 ex3
  have nf7 : fc_1 PRD (24, [0, 5], []) ws (vs ++ [Value.int x]) := by
    refine ⟨nf_inA hl rfl, sgq_5 ?_⟩
    · show n_v (vs ++ [Value.int x]) 0 = n_v (vs ++ [Value.int x]) 5
      first | rfl | simp only [e_0, e_5, q5, q7]
  have nf8 : fc_1 PRD (24, [2, 7], []) ws (vs ++ [Value.int x]) := by
    refine ⟨nf_inA hl rfl, sgq_5 ?_⟩
    · show n_v (vs ++ [Value.int x]) 2 = n_v (vs ++ [Value.int x]) 7
      first | rfl | simp only [e_2, e_7, q5, q7]
  obtain ⟨x0, e0, _, _⟩ := tv_int t9 rfl
  have e1 : v_iv (n_v vs 9) = x0.toInt := by rw [e0]; rfl
  have ho : sy_ofs (vs ++ [Value.int x]) (26, 9, 0, 0) := by
    refine ⟨x, x0, by rw [List.getElem?_append_right (by rw [hl]; decide), hl]; rfl, ?_, ?_, ?_⟩
    · rw [List.getElem?_append_left (by rw [hl]; decide)]; exact n_v_some (by rw [hl]; decide) e0
    · show x0.toInt + 0 ≤ x.toInt; omega
    · show x.toInt ≤ x0.toInt + 0; omega
  exact ⟨(fun _ h => (by cases h)), [Value.int x], ag_one hx, List.forall_mem_cons.mpr ⟨⟨show (20 : Nat) < 100 from by decide, nf0⟩, List.forall_mem_cons.mpr ⟨⟨show (20 : Nat) < 100 from by decide, nf1⟩, List.forall_mem_cons.mpr ⟨⟨show (20 : Nat) < 100 from by decide, nf2⟩, List.forall_mem_cons.mpr ⟨⟨show (23 : Nat) < 100 from by decide, nf3⟩, List.forall_mem_cons.mpr ⟨⟨show (23 : Nat) < 100 from by decide, nf4⟩, List.forall_mem_cons.mpr ⟨⟨show (23 : Nat) < 100 from by decide, nf5⟩, List.forall_mem_cons.mpr ⟨⟨show (20 : Nat) < 100 from by decide, nf6⟩, List.forall_mem_cons.mpr ⟨⟨show (24 : Nat) < 100 from by decide, nf7⟩, List.forall_mem_cons.mpr ⟨⟨show (24 : Nat) < 100 from by decide, nf8⟩, (fun _ h => (by cases h))⟩⟩⟩⟩⟩⟩⟩⟩⟩, List.forall_mem_cons.mpr ⟨ho, (fun _ h => (by cases h))⟩⟩
set_option maxHeartbeats 4000000 in
theorem vc_Mo_of_at_s5003_11_0 (x2 : Int) (x3 : Int) (x4 : Int) (x7 : Int) (x9 : Int) (x13 : Int) (x15 : Int) (x24 : Int) (x25 : Int) (fault_0 : Int) (from_0 : Int) (pos_0 : Int) (kind_0 : Int) (k2 : 9 ≤ x2 ∧ x2 ≤ 9) (k3 : 0 ≤ x3 ∧ x3 ≤ 2000) (k4 : (-1) ≤ x4 ∧ x4 ≤ 48) (k7 : 9 ≤ x7 ∧ x7 ≤ 9) (k9 : 0 ≤ x9 ∧ x9 ≤ 2000) (k13 : 0 ≤ x13 ∧ x13 ≤ 2000) (k15 : 0 ≤ x15 ∧ x15 ≤ 2000) (k24 : 1 ≤ x24 ∧ x24 ≤ 5) (k25 : 0 ≤ x25 ∧ x25 ≤ 0) (f0 : 0 < x24) (g1 : x24 = fault_0) (f2 : 1 * x15 + ((-1) * x13 + 0) ≤ 0) (f3 : (-1) * x15 + (1 * x13 + 0) ≤ 0) (f4 : 1 * x3 + ((-1) * x15 + 0) ≤ (-1)) (f5 : (-1) * x9 + ((-1) * x15 + 0) ≤ (-2000)) (f6 : 1 * x3 + ((-1) * x13 + 0) ≤ (-1)) (f7 : (-1) * x9 + ((-1) * x13 + 0) ≤ (-2000)) (f8 : (-1) * x4 + 0 ≤ 0) (f11 : 1 * from_0 + ((-1) * pos_0 + 0) ≤ 0) (f12 : ((kind_0 = 1) → (pos_0 ≤ (from_0 + 8))) ∧ ((kind_0 = 0) ∨ ((from_0 + 1) ≤ pos_0))) (f13 : 1 * x15 + ((-1) * pos_0 + 0) ≤ 0) (f14 : (-1) * fault_0 + 0 ≤ (-1)) (f16 : 1 * x15 + ((-1) * x13 + 0) ≤ 0) (f17 : (-1) * x15 + (1 * x13 + 0) ≤ 0) (f18 : 1 * x3 + ((-1) * x15 + 0) ≤ (-1)) (f19 : (-1) * x9 + ((-1) * x15 + 0) ≤ (-2000)) (f20 : 1 * x3 + ((-1) * x13 + 0) ≤ (-1)) (f21 : (-1) * x9 + ((-1) * x13 + 0) ≤ (-2000)) (f22 : (-1) * x4 + 0 ≤ 0) (f24 : 1 * x15 + ((-1) * x13 + 0) ≤ 0) (f25 : (-1) * x15 + (1 * x13 + 0) ≤ 0) (f26 : 1 * x3 + ((-1) * x15 + 0) ≤ (-1)) (f27 : (-1) * x9 + ((-1) * x15 + 0) ≤ (-2000)) (f28 : 1 * x3 + ((-1) * x13 + 0) ≤ (-1)) (f29 : (-1) * x9 + ((-1) * x13 + 0) ≤ (-2000)) (f30 : (-1) * x4 + 0 ≤ 0) (f32 : 1 * x3 + ((-1) * x13 + 0) ≤ (-1)) (f33 : (-1) * x9 + ((-1) * x13 + 0) ≤ (-2000)) (f34 : (-1) * x4 + 0 ≤ 0) (f36 : (-1) * x4 + 0 ≤ 0) (kz_0_8 : 0 ≤ fault_0 ∧ fault_0 ≤ 5) (kz_0_11 : 0 ≤ pos_0 ∧ pos_0 ≤ 2000) (kz_0_12 : 0 ≤ kind_0 ∧ kind_0 ≤ 4) (kz_0_15 : 0 ≤ from_0 ∧ from_0 ≤ 2000) : 1 * from_0 + ((-1) * pos_0 + 0) ≤ 0 := by
  first | assumption | (clear f12; omega) | omega | grind
set_option maxHeartbeats 4000000 in
theorem vc_Mo_of_at_s5003_11_1 (x2 : Int) (x3 : Int) (x4 : Int) (x7 : Int) (x9 : Int) (x13 : Int) (x15 : Int) (x24 : Int) (x25 : Int) (fault_0 : Int) (from_0 : Int) (pos_0 : Int) (kind_0 : Int) (k2 : 9 ≤ x2 ∧ x2 ≤ 9) (k3 : 0 ≤ x3 ∧ x3 ≤ 2000) (k4 : (-1) ≤ x4 ∧ x4 ≤ 48) (k7 : 9 ≤ x7 ∧ x7 ≤ 9) (k9 : 0 ≤ x9 ∧ x9 ≤ 2000) (k13 : 0 ≤ x13 ∧ x13 ≤ 2000) (k15 : 0 ≤ x15 ∧ x15 ≤ 2000) (k24 : 1 ≤ x24 ∧ x24 ≤ 5) (k25 : 0 ≤ x25 ∧ x25 ≤ 0) (f0 : 0 < x24) (g1 : x24 = fault_0) (f2 : 1 * x15 + ((-1) * x13 + 0) ≤ 0) (f3 : (-1) * x15 + (1 * x13 + 0) ≤ 0) (f4 : 1 * x3 + ((-1) * x15 + 0) ≤ (-1)) (f5 : (-1) * x9 + ((-1) * x15 + 0) ≤ (-2000)) (f6 : 1 * x3 + ((-1) * x13 + 0) ≤ (-1)) (f7 : (-1) * x9 + ((-1) * x13 + 0) ≤ (-2000)) (f8 : (-1) * x4 + 0 ≤ 0) (f11 : 1 * from_0 + ((-1) * pos_0 + 0) ≤ 0) (f12 : ((kind_0 = 1) → (pos_0 ≤ (from_0 + 8))) ∧ ((kind_0 = 0) ∨ ((from_0 + 1) ≤ pos_0))) (f13 : 1 * x15 + ((-1) * pos_0 + 0) ≤ 0) (f14 : (-1) * fault_0 + 0 ≤ (-1)) (f16 : 1 * x15 + ((-1) * x13 + 0) ≤ 0) (f17 : (-1) * x15 + (1 * x13 + 0) ≤ 0) (f18 : 1 * x3 + ((-1) * x15 + 0) ≤ (-1)) (f19 : (-1) * x9 + ((-1) * x15 + 0) ≤ (-2000)) (f20 : 1 * x3 + ((-1) * x13 + 0) ≤ (-1)) (f21 : (-1) * x9 + ((-1) * x13 + 0) ≤ (-2000)) (f22 : (-1) * x4 + 0 ≤ 0) (f24 : 1 * x15 + ((-1) * x13 + 0) ≤ 0) (f25 : (-1) * x15 + (1 * x13 + 0) ≤ 0) (f26 : 1 * x3 + ((-1) * x15 + 0) ≤ (-1)) (f27 : (-1) * x9 + ((-1) * x15 + 0) ≤ (-2000)) (f28 : 1 * x3 + ((-1) * x13 + 0) ≤ (-1)) (f29 : (-1) * x9 + ((-1) * x13 + 0) ≤ (-2000)) (f30 : (-1) * x4 + 0 ≤ 0) (f32 : 1 * x3 + ((-1) * x13 + 0) ≤ (-1)) (f33 : (-1) * x9 + ((-1) * x13 + 0) ≤ (-2000)) (f34 : (-1) * x4 + 0 ≤ 0) (f36 : (-1) * x4 + 0 ≤ 0) (kz_0_8 : 0 ≤ fault_0 ∧ fault_0 ≤ 5) (kz_0_11 : 0 ≤ pos_0 ∧ pos_0 ≤ 2000) (kz_0_12 : 0 ≤ kind_0 ∧ kind_0 ≤ 4) (kz_0_15 : 0 ≤ from_0 ∧ from_0 ≤ 2000) : ((kind_0 = 1) → (pos_0 ≤ (from_0 + 8))) ∧ ((kind_0 = 0) ∨ ((from_0 + 1) ≤ pos_0)) := by
  first | assumption | (clear f12; omega) | omega | grind
set_option maxHeartbeats 4000000 in
theorem vc_Mo_of_at_s5003_11_2 (x2 : Int) (x3 : Int) (x4 : Int) (x7 : Int) (x9 : Int) (x13 : Int) (x15 : Int) (x24 : Int) (x25 : Int) (fault_0 : Int) (from_0 : Int) (pos_0 : Int) (kind_0 : Int) (k2 : 9 ≤ x2 ∧ x2 ≤ 9) (k3 : 0 ≤ x3 ∧ x3 ≤ 2000) (k4 : (-1) ≤ x4 ∧ x4 ≤ 48) (k7 : 9 ≤ x7 ∧ x7 ≤ 9) (k9 : 0 ≤ x9 ∧ x9 ≤ 2000) (k13 : 0 ≤ x13 ∧ x13 ≤ 2000) (k15 : 0 ≤ x15 ∧ x15 ≤ 2000) (k24 : 1 ≤ x24 ∧ x24 ≤ 5) (k25 : 0 ≤ x25 ∧ x25 ≤ 0) (f0 : 0 < x24) (g1 : x24 = fault_0) (f2 : 1 * x15 + ((-1) * x13 + 0) ≤ 0) (f3 : (-1) * x15 + (1 * x13 + 0) ≤ 0) (f4 : 1 * x3 + ((-1) * x15 + 0) ≤ (-1)) (f5 : (-1) * x9 + ((-1) * x15 + 0) ≤ (-2000)) (f6 : 1 * x3 + ((-1) * x13 + 0) ≤ (-1)) (f7 : (-1) * x9 + ((-1) * x13 + 0) ≤ (-2000)) (f8 : (-1) * x4 + 0 ≤ 0) (f11 : 1 * from_0 + ((-1) * pos_0 + 0) ≤ 0) (f12 : ((kind_0 = 1) → (pos_0 ≤ (from_0 + 8))) ∧ ((kind_0 = 0) ∨ ((from_0 + 1) ≤ pos_0))) (f13 : 1 * x15 + ((-1) * pos_0 + 0) ≤ 0) (f14 : (-1) * fault_0 + 0 ≤ (-1)) (f16 : 1 * x15 + ((-1) * x13 + 0) ≤ 0) (f17 : (-1) * x15 + (1 * x13 + 0) ≤ 0) (f18 : 1 * x3 + ((-1) * x15 + 0) ≤ (-1)) (f19 : (-1) * x9 + ((-1) * x15 + 0) ≤ (-2000)) (f20 : 1 * x3 + ((-1) * x13 + 0) ≤ (-1)) (f21 : (-1) * x9 + ((-1) * x13 + 0) ≤ (-2000)) (f22 : (-1) * x4 + 0 ≤ 0) (f24 : 1 * x15 + ((-1) * x13 + 0) ≤ 0) (f25 : (-1) * x15 + (1 * x13 + 0) ≤ 0) (f26 : 1 * x3 + ((-1) * x15 + 0) ≤ (-1)) (f27 : (-1) * x9 + ((-1) * x15 + 0) ≤ (-2000)) (f28 : 1 * x3 + ((-1) * x13 + 0) ≤ (-1)) (f29 : (-1) * x9 + ((-1) * x13 + 0) ≤ (-2000)) (f30 : (-1) * x4 + 0 ≤ 0) (f32 : 1 * x3 + ((-1) * x13 + 0) ≤ (-1)) (f33 : (-1) * x9 + ((-1) * x13 + 0) ≤ (-2000)) (f34 : (-1) * x4 + 0 ≤ 0) (f36 : (-1) * x4 + 0 ≤ 0) (kz_0_8 : 0 ≤ fault_0 ∧ fault_0 ≤ 5) (kz_0_11 : 0 ≤ pos_0 ∧ pos_0 ≤ 2000) (kz_0_12 : 0 ≤ kind_0 ∧ kind_0 ≤ 4) (kz_0_15 : 0 ≤ from_0 ∧ from_0 ≤ 2000) : 1 * x3 + ((-1) * pos_0 + 0) ≤ 0 := by
  first | assumption | (clear f12; omega) | omega | grind
set_option maxHeartbeats 4000000 in
theorem vc_Mo_of_at_s5003_11_3 (x2 : Int) (x3 : Int) (x4 : Int) (x7 : Int) (x9 : Int) (x13 : Int) (x15 : Int) (x24 : Int) (x25 : Int) (fault_0 : Int) (from_0 : Int) (pos_0 : Int) (kind_0 : Int) (k2 : 9 ≤ x2 ∧ x2 ≤ 9) (k3 : 0 ≤ x3 ∧ x3 ≤ 2000) (k4 : (-1) ≤ x4 ∧ x4 ≤ 48) (k7 : 9 ≤ x7 ∧ x7 ≤ 9) (k9 : 0 ≤ x9 ∧ x9 ≤ 2000) (k13 : 0 ≤ x13 ∧ x13 ≤ 2000) (k15 : 0 ≤ x15 ∧ x15 ≤ 2000) (k24 : 1 ≤ x24 ∧ x24 ≤ 5) (k25 : 0 ≤ x25 ∧ x25 ≤ 0) (f0 : 0 < x24) (g1 : x24 = fault_0) (f2 : 1 * x15 + ((-1) * x13 + 0) ≤ 0) (f3 : (-1) * x15 + (1 * x13 + 0) ≤ 0) (f4 : 1 * x3 + ((-1) * x15 + 0) ≤ (-1)) (f5 : (-1) * x9 + ((-1) * x15 + 0) ≤ (-2000)) (f6 : 1 * x3 + ((-1) * x13 + 0) ≤ (-1)) (f7 : (-1) * x9 + ((-1) * x13 + 0) ≤ (-2000)) (f8 : (-1) * x4 + 0 ≤ 0) (f11 : 1 * from_0 + ((-1) * pos_0 + 0) ≤ 0) (f12 : ((kind_0 = 1) → (pos_0 ≤ (from_0 + 8))) ∧ ((kind_0 = 0) ∨ ((from_0 + 1) ≤ pos_0))) (f13 : 1 * x15 + ((-1) * pos_0 + 0) ≤ 0) (f14 : (-1) * fault_0 + 0 ≤ (-1)) (f16 : 1 * x15 + ((-1) * x13 + 0) ≤ 0) (f17 : (-1) * x15 + (1 * x13 + 0) ≤ 0) (f18 : 1 * x3 + ((-1) * x15 + 0) ≤ (-1)) (f19 : (-1) * x9 + ((-1) * x15 + 0) ≤ (-2000)) (f20 : 1 * x3 + ((-1) * x13 + 0) ≤ (-1)) (f21 : (-1) * x9 + ((-1) * x13 + 0) ≤ (-2000)) (f22 : (-1) * x4 + 0 ≤ 0) (f24 : 1 * x15 + ((-1) * x13 + 0) ≤ 0) (f25 : (-1) * x15 + (1 * x13 + 0) ≤ 0) (f26 : 1 * x3 + ((-1) * x15 + 0) ≤ (-1)) (f27 : (-1) * x9 + ((-1) * x15 + 0) ≤ (-2000)) (f28 : 1 * x3 + ((-1) * x13 + 0) ≤ (-1)) (f29 : (-1) * x9 + ((-1) * x13 + 0) ≤ (-2000)) (f30 : (-1) * x4 + 0 ≤ 0) (f32 : 1 * x3 + ((-1) * x13 + 0) ≤ (-1)) (f33 : (-1) * x9 + ((-1) * x13 + 0) ≤ (-2000)) (f34 : (-1) * x4 + 0 ≤ 0) (f36 : (-1) * x4 + 0 ≤ 0) (kz_0_8 : 0 ≤ fault_0 ∧ fault_0 ≤ 5) (kz_0_11 : 0 ≤ pos_0 ∧ pos_0 ≤ 2000) (kz_0_12 : 0 ≤ kind_0 ∧ kind_0 ≤ 4) (kz_0_15 : 0 ≤ from_0 ∧ from_0 ≤ 2000) : (1 ≤ fault_0) ∨ ((kind_0 = 0) ∨ ((x3 + 1) ≤ pos_0)) := by
  first | assumption | (clear f12; omega) | omega | grind
set_option maxHeartbeats 4000000 in
theorem vc_Mo_of_at_s5003_11_4 (x2 : Int) (x3 : Int) (x4 : Int) (x7 : Int) (x9 : Int) (x13 : Int) (x15 : Int) (x24 : Int) (x25 : Int) (fault_0 : Int) (from_0 : Int) (pos_0 : Int) (kind_0 : Int) (k2 : 9 ≤ x2 ∧ x2 ≤ 9) (k3 : 0 ≤ x3 ∧ x3 ≤ 2000) (k4 : (-1) ≤ x4 ∧ x4 ≤ 48) (k7 : 9 ≤ x7 ∧ x7 ≤ 9) (k9 : 0 ≤ x9 ∧ x9 ≤ 2000) (k13 : 0 ≤ x13 ∧ x13 ≤ 2000) (k15 : 0 ≤ x15 ∧ x15 ≤ 2000) (k24 : 1 ≤ x24 ∧ x24 ≤ 5) (k25 : 0 ≤ x25 ∧ x25 ≤ 0) (f0 : 0 < x24) (g1 : x24 = fault_0) (f2 : 1 * x15 + ((-1) * x13 + 0) ≤ 0) (f3 : (-1) * x15 + (1 * x13 + 0) ≤ 0) (f4 : 1 * x3 + ((-1) * x15 + 0) ≤ (-1)) (f5 : (-1) * x9 + ((-1) * x15 + 0) ≤ (-2000)) (f6 : 1 * x3 + ((-1) * x13 + 0) ≤ (-1)) (f7 : (-1) * x9 + ((-1) * x13 + 0) ≤ (-2000)) (f8 : (-1) * x4 + 0 ≤ 0) (f11 : 1 * from_0 + ((-1) * pos_0 + 0) ≤ 0) (f12 : ((kind_0 = 1) → (pos_0 ≤ (from_0 + 8))) ∧ ((kind_0 = 0) ∨ ((from_0 + 1) ≤ pos_0))) (f13 : 1 * x15 + ((-1) * pos_0 + 0) ≤ 0) (f14 : (-1) * fault_0 + 0 ≤ (-1)) (f16 : 1 * x15 + ((-1) * x13 + 0) ≤ 0) (f17 : (-1) * x15 + (1 * x13 + 0) ≤ 0) (f18 : 1 * x3 + ((-1) * x15 + 0) ≤ (-1)) (f19 : (-1) * x9 + ((-1) * x15 + 0) ≤ (-2000)) (f20 : 1 * x3 + ((-1) * x13 + 0) ≤ (-1)) (f21 : (-1) * x9 + ((-1) * x13 + 0) ≤ (-2000)) (f22 : (-1) * x4 + 0 ≤ 0) (f24 : 1 * x15 + ((-1) * x13 + 0) ≤ 0) (f25 : (-1) * x15 + (1 * x13 + 0) ≤ 0) (f26 : 1 * x3 + ((-1) * x15 + 0) ≤ (-1)) (f27 : (-1) * x9 + ((-1) * x15 + 0) ≤ (-2000)) (f28 : 1 * x3 + ((-1) * x13 + 0) ≤ (-1)) (f29 : (-1) * x9 + ((-1) * x13 + 0) ≤ (-2000)) (f30 : (-1) * x4 + 0 ≤ 0) (f32 : 1 * x3 + ((-1) * x13 + 0) ≤ (-1)) (f33 : (-1) * x9 + ((-1) * x13 + 0) ≤ (-2000)) (f34 : (-1) * x4 + 0 ≤ 0) (f36 : (-1) * x4 + 0 ≤ 0) (kz_0_8 : 0 ≤ fault_0 ∧ fault_0 ≤ 5) (kz_0_11 : 0 ≤ pos_0 ∧ pos_0 ≤ 2000) (kz_0_12 : 0 ≤ kind_0 ∧ kind_0 ≤ 4) (kz_0_15 : 0 ≤ from_0 ∧ from_0 ≤ 2000) : (1 ≤ fault_0) ∨ (0 ≤ x4) := by
  first | assumption | (clear f12; omega) | omega | grind
set_option maxHeartbeats 4000000 in
theorem vc_Mo_of_at_s5003_11_5 (x2 : Int) (x3 : Int) (x4 : Int) (x7 : Int) (x9 : Int) (x13 : Int) (x15 : Int) (x24 : Int) (x25 : Int) (fault_0 : Int) (from_0 : Int) (pos_0 : Int) (kind_0 : Int) (k2 : 9 ≤ x2 ∧ x2 ≤ 9) (k3 : 0 ≤ x3 ∧ x3 ≤ 2000) (k4 : (-1) ≤ x4 ∧ x4 ≤ 48) (k7 : 9 ≤ x7 ∧ x7 ≤ 9) (k9 : 0 ≤ x9 ∧ x9 ≤ 2000) (k13 : 0 ≤ x13 ∧ x13 ≤ 2000) (k15 : 0 ≤ x15 ∧ x15 ≤ 2000) (k24 : 1 ≤ x24 ∧ x24 ≤ 5) (k25 : 0 ≤ x25 ∧ x25 ≤ 0) (f0 : 0 < x24) (g1 : x24 = fault_0) (f2 : 1 * x15 + ((-1) * x13 + 0) ≤ 0) (f3 : (-1) * x15 + (1 * x13 + 0) ≤ 0) (f4 : 1 * x3 + ((-1) * x15 + 0) ≤ (-1)) (f5 : (-1) * x9 + ((-1) * x15 + 0) ≤ (-2000)) (f6 : 1 * x3 + ((-1) * x13 + 0) ≤ (-1)) (f7 : (-1) * x9 + ((-1) * x13 + 0) ≤ (-2000)) (f8 : (-1) * x4 + 0 ≤ 0) (f11 : 1 * from_0 + ((-1) * pos_0 + 0) ≤ 0) (f12 : ((kind_0 = 1) → (pos_0 ≤ (from_0 + 8))) ∧ ((kind_0 = 0) ∨ ((from_0 + 1) ≤ pos_0))) (f13 : 1 * x15 + ((-1) * pos_0 + 0) ≤ 0) (f14 : (-1) * fault_0 + 0 ≤ (-1)) (f16 : 1 * x15 + ((-1) * x13 + 0) ≤ 0) (f17 : (-1) * x15 + (1 * x13 + 0) ≤ 0) (f18 : 1 * x3 + ((-1) * x15 + 0) ≤ (-1)) (f19 : (-1) * x9 + ((-1) * x15 + 0) ≤ (-2000)) (f20 : 1 * x3 + ((-1) * x13 + 0) ≤ (-1)) (f21 : (-1) * x9 + ((-1) * x13 + 0) ≤ (-2000)) (f22 : (-1) * x4 + 0 ≤ 0) (f24 : 1 * x15 + ((-1) * x13 + 0) ≤ 0) (f25 : (-1) * x15 + (1 * x13 + 0) ≤ 0) (f26 : 1 * x3 + ((-1) * x15 + 0) ≤ (-1)) (f27 : (-1) * x9 + ((-1) * x15 + 0) ≤ (-2000)) (f28 : 1 * x3 + ((-1) * x13 + 0) ≤ (-1)) (f29 : (-1) * x9 + ((-1) * x13 + 0) ≤ (-2000)) (f30 : (-1) * x4 + 0 ≤ 0) (f32 : 1 * x3 + ((-1) * x13 + 0) ≤ (-1)) (f33 : (-1) * x9 + ((-1) * x13 + 0) ≤ (-2000)) (f34 : (-1) * x4 + 0 ≤ 0) (f36 : (-1) * x4 + 0 ≤ 0) (kz_0_8 : 0 ≤ fault_0 ∧ fault_0 ≤ 5) (kz_0_11 : 0 ≤ pos_0 ∧ pos_0 ≤ 2000) (kz_0_12 : 0 ≤ kind_0 ∧ kind_0 ≤ 4) (kz_0_15 : 0 ≤ from_0 ∧ from_0 ≤ 2000) : 1 * x25 + ((-1) * x2 + 0) ≤ 0 := by
  first | assumption | (clear f12; omega) | omega | grind
set_option maxHeartbeats 4000000 in
theorem vc_Mo_of_at_s5003_11_6 (x2 : Int) (x3 : Int) (x4 : Int) (x7 : Int) (x9 : Int) (x13 : Int) (x15 : Int) (x24 : Int) (x25 : Int) (fault_0 : Int) (from_0 : Int) (pos_0 : Int) (kind_0 : Int) (k2 : 9 ≤ x2 ∧ x2 ≤ 9) (k3 : 0 ≤ x3 ∧ x3 ≤ 2000) (k4 : (-1) ≤ x4 ∧ x4 ≤ 48) (k7 : 9 ≤ x7 ∧ x7 ≤ 9) (k9 : 0 ≤ x9 ∧ x9 ≤ 2000) (k13 : 0 ≤ x13 ∧ x13 ≤ 2000) (k15 : 0 ≤ x15 ∧ x15 ≤ 2000) (k24 : 1 ≤ x24 ∧ x24 ≤ 5) (k25 : 0 ≤ x25 ∧ x25 ≤ 0) (f0 : 0 < x24) (g1 : x24 = fault_0) (f2 : 1 * x15 + ((-1) * x13 + 0) ≤ 0) (f3 : (-1) * x15 + (1 * x13 + 0) ≤ 0) (f4 : 1 * x3 + ((-1) * x15 + 0) ≤ (-1)) (f5 : (-1) * x9 + ((-1) * x15 + 0) ≤ (-2000)) (f6 : 1 * x3 + ((-1) * x13 + 0) ≤ (-1)) (f7 : (-1) * x9 + ((-1) * x13 + 0) ≤ (-2000)) (f8 : (-1) * x4 + 0 ≤ 0) (f11 : 1 * from_0 + ((-1) * pos_0 + 0) ≤ 0) (f12 : ((kind_0 = 1) → (pos_0 ≤ (from_0 + 8))) ∧ ((kind_0 = 0) ∨ ((from_0 + 1) ≤ pos_0))) (f13 : 1 * x15 + ((-1) * pos_0 + 0) ≤ 0) (f14 : (-1) * fault_0 + 0 ≤ (-1)) (f16 : 1 * x15 + ((-1) * x13 + 0) ≤ 0) (f17 : (-1) * x15 + (1 * x13 + 0) ≤ 0) (f18 : 1 * x3 + ((-1) * x15 + 0) ≤ (-1)) (f19 : (-1) * x9 + ((-1) * x15 + 0) ≤ (-2000)) (f20 : 1 * x3 + ((-1) * x13 + 0) ≤ (-1)) (f21 : (-1) * x9 + ((-1) * x13 + 0) ≤ (-2000)) (f22 : (-1) * x4 + 0 ≤ 0) (f24 : 1 * x15 + ((-1) * x13 + 0) ≤ 0) (f25 : (-1) * x15 + (1 * x13 + 0) ≤ 0) (f26 : 1 * x3 + ((-1) * x15 + 0) ≤ (-1)) (f27 : (-1) * x9 + ((-1) * x15 + 0) ≤ (-2000)) (f28 : 1 * x3 + ((-1) * x13 + 0) ≤ (-1)) (f29 : (-1) * x9 + ((-1) * x13 + 0) ≤ (-2000)) (f30 : (-1) * x4 + 0 ≤ 0) (f32 : 1 * x3 + ((-1) * x13 + 0) ≤ (-1)) (f33 : (-1) * x9 + ((-1) * x13 + 0) ≤ (-2000)) (f34 : (-1) * x4 + 0 ≤ 0) (f36 : (-1) * x4 + 0 ≤ 0) (kz_0_8 : 0 ≤ fault_0 ∧ fault_0 ≤ 5) (kz_0_11 : 0 ≤ pos_0 ∧ pos_0 ≤ 2000) (kz_0_12 : 0 ≤ kind_0 ∧ kind_0 ≤ 4) (kz_0_15 : 0 ≤ from_0 ∧ from_0 ≤ 2000) : (-1) * x25 + 0 ≤ 0 := by
  first | assumption | (clear f12; omega) | omega | grind
def o_Mo_of_at_s5003_11 : or_T := (129, 26, [(0, (2, 0, 0, [165])), (2, (0, 9, 9, [])), (3, (0, 0, 2000, [])), (4, (0, -1, 48, [])), (7, (0, 9, 9, [])), (9, (0, 0, 2000, [])), (13, (0, 0, 2000, [])), (15, (0, 0, 2000, [])), (24, (0, 1, 5, [])), (25, (0, 0, 0, []))], [(8, [24], [4]), (9, [24, 5], [8]), (23, [15, 13], [0, 1, -1]), (23, [15, 13], [0, -1, 1]), (23, [3, 15], [-1, 1, -1]), (23, [9, 15], [-2000, -1, -1]), (23, [3, 13], [-1, 1, -1]), (23, [9, 13], [-2000, -1, -1]), (23, [4], [0, -1]), (24, [0, 5], []), (20, [5, 5], [30, 0, 1, 1, 15, -1, 1, 11]), (20, [5], [50, 3, 0, 12, 11, 15, 2, 21, 4, 7, 1, 3, 2, 0, 12, 0, 1, 0, 3, 2, 0, 11, 4, 3, 2, 0, 15, 0, 8, 3, 7, 1, 3, 2, 0, 12, 0, 0, 0, 7, 4, 3, 2, 0, 15, 0, 1, 2, 0, 11]), (20, [15, 5], [30, 0, 1, 0, 0, -1, 1, 11]), (20, [5], [30, -1, -1, 1, 8]), (102, [23], [0, 165008, 165009]), (23, [15, 13], [0, 1, -1]), (23, [15, 13], [0, -1, 1]), (23, [3, 15], [-1, 1, -1]), (23, [9, 15], [-2000, -1, -1]), (23, [3, 13], [-1, 1, -1]), (23, [9, 13], [-2000, -1, -1]), (23, [4], [0, -1]), (102, [15], [0, 165008, 165009, 165011, 165012, 165013, 165014, 165015]), (23, [15, 13], [0, 1, -1]), (23, [15, 13], [0, -1, 1]), (23, [3, 15], [-1, 1, -1]), (23, [9, 15], [-2000, -1, -1]), (23, [3, 13], [-1, 1, -1]), (23, [9, 13], [-2000, -1, -1]), (23, [4], [0, -1]), (102, [13], [0, 165011, 165012, 165013, 165014, 165015]), (23, [3, 13], [-1, 1, -1]), (23, [9, 13], [-2000, -1, -1]), (23, [4], [0, -1]), (102, [11], [0]), (23, [4], [0, -1])], [], [], [(20, [0, 0], [30, 0, 1, 1, 15, -1, 1, 11]), (20, [0], [50, 3, 0, 12, 11, 15, 2, 21, 4, 7, 1, 3, 2, 0, 12, 0, 1, 0, 3, 2, 0, 11, 4, 3, 2, 0, 15, 0, 8, 3, 7, 1, 3, 2, 0, 12, 0, 0, 0, 7, 4, 3, 2, 0, 15, 0, 1, 2, 0, 11]), (20, [3, 0], [30, 0, 1, 0, 0, -1, 1, 11]), (20, [0, 3], [50, 3, 0, 8, 12, 11, 3, 7, 0, 2, 0, 1, 2, 0, 8, 3, 7, 1, 3, 2, 0, 12, 0, 0, 0, 6, 4, 2, 1, 1, 0, 1, 2, 0, 11]), (20, [0, 4], [50, 1, 0, 8, 3, 7, 0, 2, 0, 1, 2, 0, 8, 0, 2, 0, 0, 1, 1]), (20, [25, 2], [30, 0, 1, 0, 0, -1, 0, 0]), (20, [25], [30, 0, -1, 0, 0])], [], [])
theorem oo_Mo_of_at_s5003_11 {kA : Nat → ClassId} : or_ok PRD kA GG o_Mo_of_at_s5003_11 := by
  refine or_mk fun A ta ws vs hD hth hl => ?_
  intro t0 r0 t2 k2 t3 k3 t4 k4 t7 k7 t9 k9 t13 k13 t15 k15 t24 k24 t25 k25 f0 f1 f2 f3 f4 f5 f6 f7 f8 f9 f11 f12 f13 f14 ta1 w1 le1 s1 f16 f17 f18 f19 f20 f21 f22 ta2 w2 le2 s2 f24 f25 f26 f27 f28 f29 f30 ta3 w3 le3 s3 f32 f33 f34 ta4 w4 le4 s4 f36
  replace f1 := shm_143 f1
  replace f9 := shm_5 f9
  replace f11 := shm_1397 f11
  replace f12 := shm_1398 f12
  replace f13 := shm_1395 f13
  replace f14 := shm_144 f14
  have q5 : n_v vs 5 = n_v vs 0 := f9.symm
  simp only [q5] at f1 f11 f12 f13 f14
  have g1 : v_iv (n_v vs 24) = w_fi ws (n_v vs 0) 8 := congrArg v_iv f1
  have kz_0_8 := fdq_14 hD hth r0
  have kz_0_11 := fdq_273 hD hth r0
  have kz_0_12 := fdq_186 hD hth r0
  have kz_0_15 := fdq_274 hD hth r0
  have nf0 : fc_1 PRD (20, [0, 0], [30, 0, 1, 1, 15, -1, 1, 11]) ws (vs) := ⟨nf_in hl rfl, sgq_1397 (vc_Mo_of_at_s5003_11_0 (v_iv (n_v vs 2)) (v_iv (n_v vs 3)) (v_iv (n_v vs 4)) (v_iv (n_v vs 7)) (v_iv (n_v vs 9)) (v_iv (n_v vs 13)) (v_iv (n_v vs 15)) (v_iv (n_v vs 24)) (v_iv (n_v vs 25)) (w_fi ws (n_v vs 0) 8) (w_fi ws (n_v vs 0) 15) (w_fi ws (n_v vs 0) 11) (w_fi ws (n_v vs 0) 12) k2 k3 k4 k7 k9 k13 k15 k24 k25 (shm_145 f0) g1 (shm_7 f2) (shm_22 f3) (shm_211 f4) (shm_1894 f5) (shm_211 f6) (shm_1894 f7) (shm_1013 f8) f11 f12 f13 f14 (shm_7 f16) (shm_22 f17) (shm_211 f18) (shm_1894 f19) (shm_211 f20) (shm_1894 f21) (shm_1013 f22) (shm_7 f24) (shm_22 f25) (shm_211 f26) (shm_1894 f27) (shm_211 f28) (shm_1894 f29) (shm_1013 f30) (shm_211 f32) (shm_1894 f33) (shm_1013 f34) (shm_1013 f36) kz_0_8 kz_0_11 kz_0_12 kz_0_15)⟩
  have nf1 : fc_1 PRD (20, [0], [50, 3, 0, 12, 11, 15, 2, 21, 4, 7, 1, 3, 2, 0, 12, 0, 1, 0, 3, 2, 0, 11, 4, 3, 2, 0, 15, 0, 8, 3, 7, 1, 3, 2, 0, 12, 0, 0, 0, 7, 4, 3, 2, 0, 15, 0, 1, 2, 0, 11]) ws (vs) := ⟨nf_in hl rfl, sgq_1398 (vc_Mo_of_at_s5003_11_1 (v_iv (n_v vs 2)) (v_iv (n_v vs 3)) (v_iv (n_v vs 4)) (v_iv (n_v vs 7)) (v_iv (n_v vs 9)) (v_iv (n_v vs 13)) (v_iv (n_v vs 15)) (v_iv (n_v vs 24)) (v_iv (n_v vs 25)) (w_fi ws (n_v vs 0) 8) (w_fi ws (n_v vs 0) 15) (w_fi ws (n_v vs 0) 11) (w_fi ws (n_v vs 0) 12) k2 k3 k4 k7 k9 k13 k15 k24 k25 (shm_145 f0) g1 (shm_7 f2) (shm_22 f3) (shm_211 f4) (shm_1894 f5) (shm_211 f6) (shm_1894 f7) (shm_1013 f8) f11 f12 f13 f14 (shm_7 f16) (shm_22 f17) (shm_211 f18) (shm_1894 f19) (shm_211 f20) (shm_1894 f21) (shm_1013 f22) (shm_7 f24) (shm_22 f25) (shm_211 f26) (shm_1894 f27) (shm_211 f28) (shm_1894 f29) (shm_1013 f30) (shm_211 f32) (shm_1894 f33) (shm_1013 f34) (shm_1013 f36) kz_0_8 kz_0_11 kz_0_12 kz_0_15)⟩
  have nf2 : fc_1 PRD (20, [3, 0], [30, 0, 1, 0, 0, -1, 1, 11]) ws (vs) := ⟨nf_in hl rfl, sgq_1395 (vc_Mo_of_at_s5003_11_2 (v_iv (n_v vs 2)) (v_iv (n_v vs 3)) (v_iv (n_v vs 4)) (v_iv (n_v vs 7)) (v_iv (n_v vs 9)) (v_iv (n_v vs 13)) (v_iv (n_v vs 15)) (v_iv (n_v vs 24)) (v_iv (n_v vs 25)) (w_fi ws (n_v vs 0) 8) (w_fi ws (n_v vs 0) 15) (w_fi ws (n_v vs 0) 11) (w_fi ws (n_v vs 0) 12) k2 k3 k4 k7 k9 k13 k15 k24 k25 (shm_145 f0) g1 (shm_7 f2) (shm_22 f3) (shm_211 f4) (shm_1894 f5) (shm_211 f6) (shm_1894 f7) (shm_1013 f8) f11 f12 f13 f14 (shm_7 f16) (shm_22 f17) (shm_211 f18) (shm_1894 f19) (shm_211 f20) (shm_1894 f21) (shm_1013 f22) (shm_7 f24) (shm_22 f25) (shm_211 f26) (shm_1894 f27) (shm_211 f28) (shm_1894 f29) (shm_1013 f30) (shm_211 f32) (shm_1894 f33) (shm_1013 f34) (shm_1013 f36) kz_0_8 kz_0_11 kz_0_12 kz_0_15)⟩
  have nf3 : fc_1 PRD (20, [0, 3], [50, 3, 0, 8, 12, 11, 3, 7, 0, 2, 0, 1, 2, 0, 8, 3, 7, 1, 3, 2, 0, 12, 0, 0, 0, 6, 4, 2, 1, 1, 0, 1, 2, 0, 11]) ws (vs) := ⟨nf_in hl rfl, sgq_1660 (vc_Mo_of_at_s5003_11_3 (v_iv (n_v vs 2)) (v_iv (n_v vs 3)) (v_iv (n_v vs 4)) (v_iv (n_v vs 7)) (v_iv (n_v vs 9)) (v_iv (n_v vs 13)) (v_iv (n_v vs 15)) (v_iv (n_v vs 24)) (v_iv (n_v vs 25)) (w_fi ws (n_v vs 0) 8) (w_fi ws (n_v vs 0) 15) (w_fi ws (n_v vs 0) 11) (w_fi ws (n_v vs 0) 12) k2 k3 k4 k7 k9 k13 k15 k24 k25 (shm_145 f0) g1 (shm_7 f2) (shm_22 f3) (shm_211 f4) (shm_1894 f5) (shm_211 f6) (shm_1894 f7) (shm_1013 f8) f11 f12 f13 f14 (shm_7 f16) (shm_22 f17) (shm_211 f18) (shm_1894 f19) (shm_211 f20) (shm_1894 f21) (shm_1013 f22) (shm_7 f24) (shm_22 f25) (shm_211 f26) (shm_1894 f27) (shm_211 f28) (shm_1894 f29) (shm_1013 f30) (shm_211 f32) (shm_1894 f33) (shm_1013 f34) (shm_1013 f36) kz_0_8 kz_0_11 kz_0_12 kz_0_15)⟩
  have nf4 : fc_1 PRD (20, [0, 4], [50, 1, 0, 8, 3, 7, 0, 2, 0, 1, 2, 0, 8, 0, 2, 0, 0, 1, 1]) ws (vs) := ⟨nf_in hl rfl, sgq_1889 (vc_Mo_of_at_s5003_11_4 (v_iv (n_v vs 2)) (v_iv (n_v vs 3)) (v_iv (n_v vs 4)) (v_iv (n_v vs 7)) (v_iv (n_v vs 9)) (v_iv (n_v vs 13)) (v_iv (n_v vs 15)) (v_iv (n_v vs 24)) (v_iv (n_v vs 25)) (w_fi ws (n_v vs 0) 8) (w_fi ws (n_v vs 0) 15) (w_fi ws (n_v vs 0) 11) (w_fi ws (n_v vs 0) 12) k2 k3 k4 k7 k9 k13 k15 k24 k25 (shm_145 f0) g1 (shm_7 f2) (shm_22 f3) (shm_211 f4) (shm_1894 f5) (shm_211 f6) (shm_1894 f7) (shm_1013 f8) f11 f12 f13 f14 (shm_7 f16) (shm_22 f17) (shm_211 f18) (shm_1894 f19) (shm_211 f20) (shm_1894 f21) (shm_1013 f22) (shm_7 f24) (shm_22 f25) (shm_211 f26) (shm_1894 f27) (shm_211 f28) (shm_1894 f29) (shm_1013 f30) (shm_211 f32) (shm_1894 f33) (shm_1013 f34) (shm_1013 f36) kz_0_8 kz_0_11 kz_0_12 kz_0_15)⟩
  have nf5 : fc_1 PRD (20, [25, 2], [30, 0, 1, 0, 0, -1, 0, 0]) ws (vs) := ⟨nf_in hl rfl, sgq_219 (vc_Mo_of_at_s5003_11_5 (v_iv (n_v vs 2)) (v_iv (n_v vs 3)) (v_iv (n_v vs 4)) (v_iv (n_v vs 7)) (v_iv (n_v vs 9)) (v_iv (n_v vs 13)) (v_iv (n_v vs 15)) (v_iv (n_v vs 24)) (v_iv (n_v vs 25)) (w_fi ws (n_v vs 0) 8) (w_fi ws (n_v vs 0) 15) (w_fi ws (n_v vs 0) 11) (w_fi ws (n_v vs 0) 12) k2 k3 k4 k7 k9 k13 k15 k24 k25 (shm_145 f0) g1 (shm_7 f2) (shm_22 f3) (shm_211 f4) (shm_1894 f5) (shm_211 f6) (shm_1894 f7) (shm_1013 f8) f11 f12 f13 f14 (shm_7 f16) (shm_22 f17) (shm_211 f18) (shm_1894 f19) (shm_211 f20) (shm_1894 f21) (shm_1013 f22) (shm_7 f24) (shm_22 f25) (shm_211 f26) (shm_1894 f27) (shm_211 f28) (shm_1894 f29) (shm_1013 f30) (shm_211 f32) (shm_1894 f33) (shm_1013 f34) (shm_1013 f36) kz_0_8 kz_0_11 kz_0_12 kz_0_15)⟩
  have nf6 : fc_1 PRD (20, [25], [30, 0, -1, 0, 0]) ws (vs) := ⟨nf_in hl rfl, sgq_1890 (vc_Mo_of_at_s5003_11_6 (v_iv (n_v vs 2)) (v_iv (n_v vs 3)) (v_iv (n_v vs 4)) (v_iv (n_v vs 7)) (v_iv (n_v vs 9)) (v_iv (n_v vs 13)) (v_iv (n_v vs 15)) (v_iv (n_v vs 24)) (v_iv (n_v vs 25)) (w_fi ws (n_v vs 0) 8) (w_fi ws (n_v vs 0) 15) (w_fi ws (n_v vs 0) 11) (w_fi ws (n_v vs 0) 12) k2 k3 k4 k7 k9 k13 k15 k24 k25 (shm_145 f0) g1 (shm_7 f2) (shm_22 f3) (shm_211 f4) (shm_1894 f5) (shm_211 f6) (shm_1894 f7) (shm_1013 f8) f11 f12 f13 f14 (shm_7 f16) (shm_22 f17) (shm_211 f18) (shm_1894 f19) (shm_211 f20) (shm_1894 f21) (shm_1013 f22) (shm_7 f24) (shm_22 f25) (shm_211 f26) (shm_1894 f27) (shm_211 f28) (shm_1894 f29) (shm_1013 f30) (shm_211 f32) (shm_1894 f33) (shm_1013 f34) (shm_1013 f36) kz_0_8 kz_0_11 kz_0_12 kz_0_15)⟩
  refine ⟨(fun _ h => (by cases h)), [], trivial, ?_, (fun _ h => (by cases h))⟩
  rw [List.append_nil]
  exact List.forall_mem_cons.mpr ⟨⟨show (20 : Nat) < 100 from by decide, nf0⟩, List.forall_mem_cons.mpr ⟨⟨show (20 : Nat) < 100 from by decide, nf1⟩, List.forall_mem_cons.mpr ⟨⟨show (20 : Nat) < 100 from by decide, nf2⟩, List.forall_mem_cons.mpr ⟨⟨show (20 : Nat) < 100 from by decide, nf3⟩, List.forall_mem_cons.mpr ⟨⟨show (20 : Nat) < 100 from by decide, nf4⟩, List.forall_mem_cons.mpr ⟨⟨show (20 : Nat) < 100 from by decide, nf5⟩, List.forall_mem_cons.mpr ⟨⟨show (20 : Nat) < 100 from by decide, nf6⟩, (fun _ h => (by cases h))⟩⟩⟩⟩⟩⟩⟩
set_option maxHeartbeats 4000000 in
theorem vc_Mo_of_at_s5003_12_0 (x2 : Int) (x3 : Int) (x7 : Int) (x8 : Int) (x9 : Int) (x13 : Int) (x15 : Int) (x19 : Int) (x24 : Int) (value_0 : Int) (fault_0 : Int) (from_0 : Int) (pos_0 : Int) (kind_0 : Int) (k2 : 9 ≤ x2 ∧ x2 ≤ 9) (k3 : 0 ≤ x3 ∧ x3 ≤ 2000) (k7 : 9 ≤ x7 ∧ x7 ≤ 9) (k8 : (-2147483648) ≤ x8 ∧ x8 ≤ 0) (k9 : 0 ≤ x9 ∧ x9 ≤ 2000) (k13 : 0 ≤ x13 ∧ x13 ≤ 2000) (k15 : 0 ≤ x15 ∧ x15 ≤ 2000) (k19 : 10 ≤ x19 ∧ x19 ≤ 2147483647) (k24 : 0 ≤ x24 ∧ x24 ≤ 0) (g0 : x19 = value_0) (f1 : x24 ≤ 0) (g2 : x24 = fault_0) (f3 : 1 * x15 + ((-1) * x13 + 0) ≤ 0) (f4 : (-1) * x15 + (1 * x13 + 0) ≤ 0) (f5 : 1 * x3 + ((-1) * x15 + 0) ≤ (-1)) (f6 : (-1) * x9 + ((-1) * x15 + 0) ≤ (-2000)) (f7 : 1 * x3 + ((-1) * x13 + 0) ≤ (-1)) (f8 : (-1) * x9 + ((-1) * x13 + 0) ≤ (-2000)) (f9 : 1 * x8 + ((-1) * x2 + 0) ≤ 0) (f10 : (-1) * x8 + 0 ≤ 0) (f13 : 1 * from_0 + ((-1) * pos_0 + 0) ≤ 0) (f14 : ((kind_0 = 1) → (pos_0 ≤ (from_0 + 8))) ∧ ((kind_0 = 0) ∨ ((from_0 + 1) ≤ pos_0))) (f15 : 1 * x15 + ((-1) * pos_0 + 0) ≤ 0) (f16 : (-1) * fault_0 + 0 ≤ (-1)) (f18 : 1 * x15 + ((-1) * x13 + 0) ≤ 0) (f19 : (-1) * x15 + (1 * x13 + 0) ≤ 0) (f20 : 1 * x3 + ((-1) * x15 + 0) ≤ (-1)) (f21 : (-1) * x9 + ((-1) * x15 + 0) ≤ (-2000)) (f22 : 1 * x3 + ((-1) * x13 + 0) ≤ (-1)) (f23 : (-1) * x9 + ((-1) * x13 + 0) ≤ (-2000)) (f24 : 1 * x8 + ((-1) * x2 + 0) ≤ 0) (f25 : (-1) * x8 + 0 ≤ 0) (f27 : 1 * x15 + ((-1) * x13 + 0) ≤ 0) (f28 : (-1) * x15 + (1 * x13 + 0) ≤ 0) (f29 : 1 * x3 + ((-1) * x15 + 0) ≤ (-1)) (f30 : (-1) * x9 + ((-1) * x15 + 0) ≤ (-2000)) (f31 : 1 * x3 + ((-1) * x13 + 0) ≤ (-1)) (f32 : (-1) * x9 + ((-1) * x13 + 0) ≤ (-2000)) (f33 : 1 * x8 + ((-1) * x2 + 0) ≤ 0) (f34 : (-1) * x8 + 0 ≤ 0) (f36 : 1 * x3 + ((-1) * x13 + 0) ≤ (-1)) (f37 : (-1) * x9 + ((-1) * x13 + 0) ≤ (-2000)) (f38 : x8 ≤ 0) (f39 : 1 * x8 + ((-1) * x2 + 0) ≤ 0) (f40 : (-1) * x8 + 0 ≤ 0) (f42 : 1 * x8 + ((-1) * x2 + 0) ≤ 0) (f43 : (-1) * x8 + 0 ≤ 0) (kz_0_8 : 0 ≤ fault_0 ∧ fault_0 ≤ 5) (kz_0_11 : 0 ≤ pos_0 ∧ pos_0 ≤ 2000) (kz_0_12 : 0 ≤ kind_0 ∧ kind_0 ≤ 4) (kz_0_14 : (-2147483648) ≤ value_0 ∧ value_0 ≤ 2147483647) (kz_0_15 : 0 ≤ from_0 ∧ from_0 ≤ 2000) : 1 * x19 + ((-1) * x2 + 0) ≤ 0 := by
  first | assumption | (clear f14; omega) | omega | grind
set_option maxHeartbeats 4000000 in
theorem vc_Mo_of_at_s5003_12_1 (x2 : Int) (x3 : Int) (x7 : Int) (x8 : Int) (x9 : Int) (x13 : Int) (x15 : Int) (x19 : Int) (x24 : Int) (value_0 : Int) (fault_0 : Int) (from_0 : Int) (pos_0 : Int) (kind_0 : Int) (k2 : 9 ≤ x2 ∧ x2 ≤ 9) (k3 : 0 ≤ x3 ∧ x3 ≤ 2000) (k7 : 9 ≤ x7 ∧ x7 ≤ 9) (k8 : (-2147483648) ≤ x8 ∧ x8 ≤ 0) (k9 : 0 ≤ x9 ∧ x9 ≤ 2000) (k13 : 0 ≤ x13 ∧ x13 ≤ 2000) (k15 : 0 ≤ x15 ∧ x15 ≤ 2000) (k19 : 10 ≤ x19 ∧ x19 ≤ 2147483647) (k24 : 0 ≤ x24 ∧ x24 ≤ 0) (g0 : x19 = value_0) (f1 : x24 ≤ 0) (g2 : x24 = fault_0) (f3 : 1 * x15 + ((-1) * x13 + 0) ≤ 0) (f4 : (-1) * x15 + (1 * x13 + 0) ≤ 0) (f5 : 1 * x3 + ((-1) * x15 + 0) ≤ (-1)) (f6 : (-1) * x9 + ((-1) * x15 + 0) ≤ (-2000)) (f7 : 1 * x3 + ((-1) * x13 + 0) ≤ (-1)) (f8 : (-1) * x9 + ((-1) * x13 + 0) ≤ (-2000)) (f9 : 1 * x8 + ((-1) * x2 + 0) ≤ 0) (f10 : (-1) * x8 + 0 ≤ 0) (f13 : 1 * from_0 + ((-1) * pos_0 + 0) ≤ 0) (f14 : ((kind_0 = 1) → (pos_0 ≤ (from_0 + 8))) ∧ ((kind_0 = 0) ∨ ((from_0 + 1) ≤ pos_0))) (f15 : 1 * x15 + ((-1) * pos_0 + 0) ≤ 0) (f16 : (-1) * fault_0 + 0 ≤ (-1)) (f18 : 1 * x15 + ((-1) * x13 + 0) ≤ 0) (f19 : (-1) * x15 + (1 * x13 + 0) ≤ 0) (f20 : 1 * x3 + ((-1) * x15 + 0) ≤ (-1)) (f21 : (-1) * x9 + ((-1) * x15 + 0) ≤ (-2000)) (f22 : 1 * x3 + ((-1) * x13 + 0) ≤ (-1)) (f23 : (-1) * x9 + ((-1) * x13 + 0) ≤ (-2000)) (f24 : 1 * x8 + ((-1) * x2 + 0) ≤ 0) (f25 : (-1) * x8 + 0 ≤ 0) (f27 : 1 * x15 + ((-1) * x13 + 0) ≤ 0) (f28 : (-1) * x15 + (1 * x13 + 0) ≤ 0) (f29 : 1 * x3 + ((-1) * x15 + 0) ≤ (-1)) (f30 : (-1) * x9 + ((-1) * x15 + 0) ≤ (-2000)) (f31 : 1 * x3 + ((-1) * x13 + 0) ≤ (-1)) (f32 : (-1) * x9 + ((-1) * x13 + 0) ≤ (-2000)) (f33 : 1 * x8 + ((-1) * x2 + 0) ≤ 0) (f34 : (-1) * x8 + 0 ≤ 0) (f36 : 1 * x3 + ((-1) * x13 + 0) ≤ (-1)) (f37 : (-1) * x9 + ((-1) * x13 + 0) ≤ (-2000)) (f38 : x8 ≤ 0) (f39 : 1 * x8 + ((-1) * x2 + 0) ≤ 0) (f40 : (-1) * x8 + 0 ≤ 0) (f42 : 1 * x8 + ((-1) * x2 + 0) ≤ 0) (f43 : (-1) * x8 + 0 ≤ 0) (kz_0_8 : 0 ≤ fault_0 ∧ fault_0 ≤ 5) (kz_0_11 : 0 ≤ pos_0 ∧ pos_0 ≤ 2000) (kz_0_12 : 0 ≤ kind_0 ∧ kind_0 ≤ 4) (kz_0_14 : (-2147483648) ≤ value_0 ∧ value_0 ≤ 2147483647) (kz_0_15 : 0 ≤ from_0 ∧ from_0 ≤ 2000) : (-1) * x19 + 0 ≤ 0 := by
  first | assumption | (clear f14; omega) | omega | grind
def o_Mo_of_at_s5003_12 : or_T := (135, 25, [(0, (2, 0, 0, [165])), (2, (0, 9, 9, [])), (3, (0, 0, 2000, [])), (5, (2, 0, 0, [165])), (7, (0, 9, 9, [])), (8, (0, -2147483648, 0, [])), (9, (0, 0, 2000, [])), (13, (0, 0, 2000, [])), (15, (0, 0, 2000, [])), (19, (0, 10, 2147483647, [])), (24, (0, 0, 0, []))], [(9, [19, 5], [14]), (8, [24], [5]), (9, [24, 5], [8]), (23, [15, 13], [0, 1, -1]), (23, [15, 13], [0, -1, 1]), (23, [3, 15], [-1, 1, -1]), (23, [9, 15], [-2000, -1, -1]), (23, [3, 13], [-1, 1, -1]), (23, [9, 13], [-2000, -1, -1]), (23, [8, 7], [0, 1, -1]), (23, [8], [0, -1]), (24, [0, 5], []), (24, [2, 7], []), (20, [5, 5], [30, 0, 1, 1, 15, -1, 1, 11]), (20, [5], [50, 3, 0, 12, 11, 15, 2, 21, 4, 7, 1, 3, 2, 0, 12, 0, 1, 0, 3, 2, 0, 11, 4, 3, 2, 0, 15, 0, 8, 3, 7, 1, 3, 2, 0, 12, 0, 0, 0, 7, 4, 3, 2, 0, 15, 0, 1, 2, 0, 11]), (20, [15, 5], [30, 0, 1, 0, 0, -1, 1, 11]), (20, [5], [30, -1, -1, 1, 8]), (102, [23], [0, 165008, 165009]), (23, [15, 13], [0, 1, -1]), (23, [15, 13], [0, -1, 1]), (23, [3, 15], [-1, 1, -1]), (23, [9, 15], [-2000, -1, -1]), (23, [3, 13], [-1, 1, -1]), (23, [9, 13], [-2000, -1, -1]), (23, [8, 7], [0, 1, -1]), (23, [8], [0, -1]), (102, [15], [0, 165008, 165009, 165011, 165012, 165013, 165014, 165015]), (23, [15, 13], [0, 1, -1]), (23, [15, 13], [0, -1, 1]), (23, [3, 15], [-1, 1, -1]), (23, [9, 15], [-2000, -1, -1]), (23, [3, 13], [-1, 1, -1]), (23, [9, 13], [-2000, -1, -1]), (23, [8, 7], [0, 1, -1]), (23, [8], [0, -1]), (102, [13], [0, 165011, 165012, 165013, 165014, 165015]), (23, [3, 13], [-1, 1, -1]), (23, [9, 13], [-2000, -1, -1]), (8, [8], [5]), (23, [8, 7], [0, 1, -1]), (23, [8], [0, -1]), (102, [11], [0]), (23, [8, 7], [0, 1, -1]), (23, [8], [0, -1])], [], [], [(23, [19, 7], [0, 1, -1]), (23, [19], [0, -1])], [], [])
theorem oo_Mo_of_at_s5003_12 {kA : Nat → ClassId} : or_ok PRD kA GG o_Mo_of_at_s5003_12 := by
  refine or_mk fun A ta ws vs hD hth hl => ?_
  intro t0 r0 t2 k2 t3 k3 t5 r5 t7 k7 t8 k8 t9 k9 t13 k13 t15 k15 t19 k19 t24 k24 f0 f1 f2 f3 f4 f5 f6 f7 f8 f9 f10 f11 f12 f13 f14 f15 f16 ta1 w1 le1 s1 f18 f19 f20 f21 f22 f23 f24 f25 ta2 w2 le2 s2 f27 f28 f29 f30 f31 f32 f33 f34 ta3 w3 le3 s3 f36 f37 f38 f39 f40 ta4 w4 le4 s4 f42 f43
  replace f0 := shm_116 f0
  replace f1 := shm_142 f1
  replace f2 := shm_143 f2
  replace f3 := shm_7 f3
  replace f4 := shm_22 f4
  replace f5 := shm_211 f5
  replace f6 := shm_1894 f6
  replace f7 := shm_211 f7
  replace f8 := shm_1894 f8
  replace f9 := shm_7 f9
  replace f10 := shm_1013 f10
  replace f11 := shm_5 f11
  replace f12 := shm_5 f12
  replace f13 := shm_1397 f13
  replace f14 := shm_1398 f14
  replace f15 := shm_1395 f15
  replace f16 := shm_144 f16
  replace f18 := shm_7 f18
  replace f19 := shm_22 f19
  replace f20 := shm_211 f20
  replace f21 := shm_1894 f21
  replace f22 := shm_211 f22
  replace f23 := shm_1894 f23
  replace f24 := shm_7 f24
  replace f25 := shm_1013 f25
  replace f27 := shm_7 f27
  replace f28 := shm_22 f28
  replace f29 := shm_211 f29
  replace f30 := shm_1894 f30
  replace f31 := shm_211 f31
  replace f32 := shm_1894 f32
  replace f33 := shm_7 f33
  replace f34 := shm_1013 f34
  replace f36 := shm_211 f36
  replace f37 := shm_1894 f37
  replace f38 := shm_142 f38
  replace f39 := shm_7 f39
  replace f40 := shm_1013 f40
  replace f42 := shm_7 f42
  replace f43 := shm_1013 f43
  have q5 : n_v vs 5 = n_v vs 0 := f11.symm
  have q7 : n_v vs 7 = n_v vs 2 := f12.symm
  simp only [q5, q7] at f0 f2 f9 f13 f14 f15 f16 f24 f33 f39 f42
  have g0 : v_iv (n_v vs 19) = w_fi ws (n_v vs 0) 14 := congrArg v_iv f0
  have g2 : v_iv (n_v vs 24) = w_fi ws (n_v vs 0) 8 := congrArg v_iv f2
  have kz_0_8 := fdq_14 hD hth r0
  have kz_0_11 := fdq_273 hD hth r0
  have kz_0_12 := fdq_186 hD hth r0
  have kz_0_14 := fdq_311 hD hth r0
  have kz_0_15 := fdq_274 hD hth r0
  have nf0 : fc_1 PRD (23, [19, 7], [0, 1, -1]) ws (vs) := by
    refine ⟨nf_in hl rfl, sgq_7 ?_⟩
    · show 1 * v_iv (n_v vs 19) + ((-1) * v_iv (n_v vs 7) + 0) ≤ 0
      rw [q7]
      exact vc_Mo_of_at_s5003_12_0 (v_iv (n_v vs 2)) (v_iv (n_v vs 3)) (v_iv (n_v vs 7)) (v_iv (n_v vs 8)) (v_iv (n_v vs 9)) (v_iv (n_v vs 13)) (v_iv (n_v vs 15)) (v_iv (n_v vs 19)) (v_iv (n_v vs 24)) (w_fi ws (n_v vs 0) 14) (w_fi ws (n_v vs 0) 8) (w_fi ws (n_v vs 0) 15) (w_fi ws (n_v vs 0) 11) (w_fi ws (n_v vs 0) 12) k2 k3 k7 k8 k9 k13 k15 k19 k24 g0 f1 g2 f3 f4 f5 f6 f7 f8 f9 f10 f13 f14 f15 f16 f18 f19 f20 f21 f22 f23 f24 f25 f27 f28 f29 f30 f31 f32 f33 f34 f36 f37 f38 f39 f40 f42 f43 kz_0_8 kz_0_11 kz_0_12 kz_0_14 kz_0_15
  have nf1 : fc_1 PRD (23, [19], [0, -1]) ws (vs) := ⟨nf_in hl rfl, sgq_1013 (vc_Mo_of_at_s5003_12_1 (v_iv (n_v vs 2)) (v_iv (n_v vs 3)) (v_iv (n_v vs 7)) (v_iv (n_v vs 8)) (v_iv (n_v vs 9)) (v_iv (n_v vs 13)) (v_iv (n_v vs 15)) (v_iv (n_v vs 19)) (v_iv (n_v vs 24)) (w_fi ws (n_v vs 0) 14) (w_fi ws (n_v vs 0) 8) (w_fi ws (n_v vs 0) 15) (w_fi ws (n_v vs 0) 11) (w_fi ws (n_v vs 0) 12) k2 k3 k7 k8 k9 k13 k15 k19 k24 g0 f1 g2 f3 f4 f5 f6 f7 f8 f9 f10 f13 f14 f15 f16 f18 f19 f20 f21 f22 f23 f24 f25 f27 f28 f29 f30 f31 f32 f33 f34 f36 f37 f38 f39 f40 f42 f43 kz_0_8 kz_0_11 kz_0_12 kz_0_14 kz_0_15)⟩
  refine ⟨(fun _ h => (by cases h)), [], trivial, ?_, (fun _ h => (by cases h))⟩
  rw [List.append_nil]
  exact List.forall_mem_cons.mpr ⟨⟨show (23 : Nat) < 100 from by decide, nf0⟩, List.forall_mem_cons.mpr ⟨⟨show (23 : Nat) < 100 from by decide, nf1⟩, (fun _ h => (by cases h))⟩⟩
set_option maxHeartbeats 4000000 in
theorem vc_Mo_of_at_s5003_13_0 (x2 : Int) (x3 : Int) (x4 : Int) (x7 : Int) (x8 : Int) (x9 : Int) (x13 : Int) (x15 : Int) (x19 : Int) (x25 : Int) (fault_0 : Int) (from_0 : Int) (pos_0 : Int) (kind_0 : Int) (gx : Int) (k2 : 9 ≤ x2 ∧ x2 ≤ 9) (k3 : 0 ≤ x3 ∧ x3 ≤ 2000) (k4 : (-1) ≤ x4 ∧ x4 ≤ 48) (k7 : 9 ≤ x7 ∧ x7 ≤ 9) (k8 : (-2147483648) ≤ x8 ∧ x8 ≤ 0) (k9 : 0 ≤ x9 ∧ x9 ≤ 2000) (k13 : 0 ≤ x13 ∧ x13 ≤ 2000) (k15 : 0 ≤ x15 ∧ x15 ≤ 2000) (k19 : 10 ≤ x19 ∧ x19 ≤ 2147483647) (k25 : 0 ≤ x25 ∧ x25 ≤ 2000) (f0 : 1 * x3 + ((-1) * x25 + 0) ≤ (-1)) (f1 : (-1) * x9 + ((-1) * x25 + 0) ≤ (-2001)) (f2 : 1 * x19 + ((-1) * x2 + 0) ≤ 0) (f3 : (-1) * x19 + 0 ≤ 0) (f4 : 1 * x15 + ((-1) * x13 + 0) ≤ 0) (f5 : (-1) * x15 + (1 * x13 + 0) ≤ 0) (f6 : 1 * x3 + ((-1) * x15 + 0) ≤ (-1)) (f7 : (-1) * x9 + ((-1) * x15 + 0) ≤ (-2000)) (f8 : 1 * x3 + ((-1) * x13 + 0) ≤ (-1)) (f9 : (-1) * x9 + ((-1) * x13 + 0) ≤ (-2000)) (f10 : 1 * x8 + ((-1) * x2 + 0) ≤ 0) (f11 : (-1) * x8 + 0 ≤ 0) (f12 : (-1) * x4 + 0 ≤ 0) (f15 : (-1) * fault_0 + 0 ≤ (-1)) (f16 : 1 * from_0 + ((-1) * pos_0 + 0) ≤ 0) (f17 : ((kind_0 = 1) → (pos_0 ≤ (from_0 + 8))) ∧ ((kind_0 = 0) ∨ ((from_0 + 1) ≤ pos_0))) (f18 : 1 * x25 + ((-1) * from_0 + 0) ≤ 0) (f20 : 1 * x3 + ((-1) * x25 + 0) ≤ (-1)) (f21 : (-1) * x9 + ((-1) * x25 + 0) ≤ (-2001)) (f22 : 1 * x19 + ((-1) * x2 + 0) ≤ 0) (f23 : (-1) * x19 + 0 ≤ 0) (f24 : 1 * x15 + ((-1) * x13 + 0) ≤ 0) (f25 : (-1) * x15 + (1 * x13 + 0) ≤ 0) (f26 : 1 * x3 + ((-1) * x15 + 0) ≤ (-1)) (f27 : (-1) * x9 + ((-1) * x15 + 0) ≤ (-2000)) (f28 : 1 * x3 + ((-1) * x13 + 0) ≤ (-1)) (f29 : (-1) * x9 + ((-1) * x13 + 0) ≤ (-2000)) (f30 : 1 * x8 + ((-1) * x2 + 0) ≤ 0) (f31 : (-1) * x8 + 0 ≤ 0) (f32 : (-1) * x4 + 0 ≤ 0) (f34 : 1 * x15 + ((-1) * x13 + 0) ≤ 0) (f35 : (-1) * x15 + (1 * x13 + 0) ≤ 0) (f36 : 1 * x3 + ((-1) * x15 + 0) ≤ (-1)) (f37 : (-1) * x9 + ((-1) * x15 + 0) ≤ (-2000)) (f38 : 1 * x3 + ((-1) * x13 + 0) ≤ (-1)) (f39 : (-1) * x9 + ((-1) * x13 + 0) ≤ (-2000)) (f40 : 1 * x8 + ((-1) * x2 + 0) ≤ 0) (f41 : (-1) * x8 + 0 ≤ 0) (f42 : (-1) * x4 + 0 ≤ 0) (f44 : 1 * x15 + ((-1) * x13 + 0) ≤ 0) (f45 : (-1) * x15 + (1 * x13 + 0) ≤ 0) (f46 : 1 * x3 + ((-1) * x15 + 0) ≤ (-1)) (f47 : (-1) * x9 + ((-1) * x15 + 0) ≤ (-2000)) (f48 : 1 * x3 + ((-1) * x13 + 0) ≤ (-1)) (f49 : (-1) * x9 + ((-1) * x13 + 0) ≤ (-2000)) (f50 : 1 * x8 + ((-1) * x2 + 0) ≤ 0) (f51 : (-1) * x8 + 0 ≤ 0) (f52 : (-1) * x4 + 0 ≤ 0) (f54 : 1 * x3 + ((-1) * x13 + 0) ≤ (-1)) (f55 : (-1) * x9 + ((-1) * x13 + 0) ≤ (-2000)) (f56 : x8 ≤ 0) (f57 : 1 * x8 + ((-1) * x2 + 0) ≤ 0) (f58 : (-1) * x8 + 0 ≤ 0) (f59 : (-1) * x4 + 0 ≤ 0) (f61 : 1 * x8 + ((-1) * x2 + 0) ≤ 0) (f62 : (-1) * x8 + 0 ≤ 0) (f63 : (-1) * x4 + 0 ≤ 0) (kz_0_8 : 0 ≤ fault_0 ∧ fault_0 ≤ 5) (kz_0_11 : 0 ≤ pos_0 ∧ pos_0 ≤ 2000) (kz_0_12 : 0 ≤ kind_0 ∧ kind_0 ≤ 4) (kz_0_15 : 0 ≤ from_0 ∧ from_0 ≤ 2000) (ex2 : gx = 0 + (1 * x9 + 0)) (ex3 : 0 ≤ gx ∧ gx ≤ 2000) : 1 * from_0 + ((-1) * pos_0 + 0) ≤ 0 := by
  first | assumption | (clear f17; omega) | omega | grind
set_option maxHeartbeats 4000000 in
theorem vc_Mo_of_at_s5003_13_1 (x2 : Int) (x3 : Int) (x4 : Int) (x7 : Int) (x8 : Int) (x9 : Int) (x13 : Int) (x15 : Int) (x19 : Int) (x25 : Int) (fault_0 : Int) (from_0 : Int) (pos_0 : Int) (kind_0 : Int) (gx : Int) (k2 : 9 ≤ x2 ∧ x2 ≤ 9) (k3 : 0 ≤ x3 ∧ x3 ≤ 2000) (k4 : (-1) ≤ x4 ∧ x4 ≤ 48) (k7 : 9 ≤ x7 ∧ x7 ≤ 9) (k8 : (-2147483648) ≤ x8 ∧ x8 ≤ 0) (k9 : 0 ≤ x9 ∧ x9 ≤ 2000) (k13 : 0 ≤ x13 ∧ x13 ≤ 2000) (k15 : 0 ≤ x15 ∧ x15 ≤ 2000) (k19 : 10 ≤ x19 ∧ x19 ≤ 2147483647) (k25 : 0 ≤ x25 ∧ x25 ≤ 2000) (f0 : 1 * x3 + ((-1) * x25 + 0) ≤ (-1)) (f1 : (-1) * x9 + ((-1) * x25 + 0) ≤ (-2001)) (f2 : 1 * x19 + ((-1) * x2 + 0) ≤ 0) (f3 : (-1) * x19 + 0 ≤ 0) (f4 : 1 * x15 + ((-1) * x13 + 0) ≤ 0) (f5 : (-1) * x15 + (1 * x13 + 0) ≤ 0) (f6 : 1 * x3 + ((-1) * x15 + 0) ≤ (-1)) (f7 : (-1) * x9 + ((-1) * x15 + 0) ≤ (-2000)) (f8 : 1 * x3 + ((-1) * x13 + 0) ≤ (-1)) (f9 : (-1) * x9 + ((-1) * x13 + 0) ≤ (-2000)) (f10 : 1 * x8 + ((-1) * x2 + 0) ≤ 0) (f11 : (-1) * x8 + 0 ≤ 0) (f12 : (-1) * x4 + 0 ≤ 0) (f15 : (-1) * fault_0 + 0 ≤ (-1)) (f16 : 1 * from_0 + ((-1) * pos_0 + 0) ≤ 0) (f17 : ((kind_0 = 1) → (pos_0 ≤ (from_0 + 8))) ∧ ((kind_0 = 0) ∨ ((from_0 + 1) ≤ pos_0))) (f18 : 1 * x25 + ((-1) * from_0 + 0) ≤ 0) (f20 : 1 * x3 + ((-1) * x25 + 0) ≤ (-1)) (f21 : (-1) * x9 + ((-1) * x25 + 0) ≤ (-2001)) (f22 : 1 * x19 + ((-1) * x2 + 0) ≤ 0) (f23 : (-1) * x19 + 0 ≤ 0) (f24 : 1 * x15 + ((-1) * x13 + 0) ≤ 0) (f25 : (-1) * x15 + (1 * x13 + 0) ≤ 0) (f26 : 1 * x3 + ((-1) * x15 + 0) ≤ (-1)) (f27 : (-1) * x9 + ((-1) * x15 + 0) ≤ (-2000)) (f28 : 1 * x3 + ((-1) * x13 + 0) ≤ (-1)) (f29 : (-1) * x9 + ((-1) * x13 + 0) ≤ (-2000)) (f30 : 1 * x8 + ((-1) * x2 + 0) ≤ 0) (f31 : (-1) * x8 + 0 ≤ 0) (f32 : (-1) * x4 + 0 ≤ 0) (f34 : 1 * x15 + ((-1) * x13 + 0) ≤ 0) (f35 : (-1) * x15 + (1 * x13 + 0) ≤ 0) (f36 : 1 * x3 + ((-1) * x15 + 0) ≤ (-1)) (f37 : (-1) * x9 + ((-1) * x15 + 0) ≤ (-2000)) (f38 : 1 * x3 + ((-1) * x13 + 0) ≤ (-1)) (f39 : (-1) * x9 + ((-1) * x13 + 0) ≤ (-2000)) (f40 : 1 * x8 + ((-1) * x2 + 0) ≤ 0) (f41 : (-1) * x8 + 0 ≤ 0) (f42 : (-1) * x4 + 0 ≤ 0) (f44 : 1 * x15 + ((-1) * x13 + 0) ≤ 0) (f45 : (-1) * x15 + (1 * x13 + 0) ≤ 0) (f46 : 1 * x3 + ((-1) * x15 + 0) ≤ (-1)) (f47 : (-1) * x9 + ((-1) * x15 + 0) ≤ (-2000)) (f48 : 1 * x3 + ((-1) * x13 + 0) ≤ (-1)) (f49 : (-1) * x9 + ((-1) * x13 + 0) ≤ (-2000)) (f50 : 1 * x8 + ((-1) * x2 + 0) ≤ 0) (f51 : (-1) * x8 + 0 ≤ 0) (f52 : (-1) * x4 + 0 ≤ 0) (f54 : 1 * x3 + ((-1) * x13 + 0) ≤ (-1)) (f55 : (-1) * x9 + ((-1) * x13 + 0) ≤ (-2000)) (f56 : x8 ≤ 0) (f57 : 1 * x8 + ((-1) * x2 + 0) ≤ 0) (f58 : (-1) * x8 + 0 ≤ 0) (f59 : (-1) * x4 + 0 ≤ 0) (f61 : 1 * x8 + ((-1) * x2 + 0) ≤ 0) (f62 : (-1) * x8 + 0 ≤ 0) (f63 : (-1) * x4 + 0 ≤ 0) (kz_0_8 : 0 ≤ fault_0 ∧ fault_0 ≤ 5) (kz_0_11 : 0 ≤ pos_0 ∧ pos_0 ≤ 2000) (kz_0_12 : 0 ≤ kind_0 ∧ kind_0 ≤ 4) (kz_0_15 : 0 ≤ from_0 ∧ from_0 ≤ 2000) (ex2 : gx = 0 + (1 * x9 + 0)) (ex3 : 0 ≤ gx ∧ gx ≤ 2000) : ((kind_0 = 1) → (pos_0 ≤ (from_0 + 8))) ∧ ((kind_0 = 0) ∨ ((from_0 + 1) ≤ pos_0)) := by
  first | assumption | (clear f17; omega) | omega | grind
set_option maxHeartbeats 4000000 in
theorem vc_Mo_of_at_s5003_13_2 (x2 : Int) (x3 : Int) (x4 : Int) (x7 : Int) (x8 : Int) (x9 : Int) (x13 : Int) (x15 : Int) (x19 : Int) (x25 : Int) (fault_0 : Int) (from_0 : Int) (pos_0 : Int) (kind_0 : Int) (gx : Int) (k2 : 9 ≤ x2 ∧ x2 ≤ 9) (k3 : 0 ≤ x3 ∧ x3 ≤ 2000) (k4 : (-1) ≤ x4 ∧ x4 ≤ 48) (k7 : 9 ≤ x7 ∧ x7 ≤ 9) (k8 : (-2147483648) ≤ x8 ∧ x8 ≤ 0) (k9 : 0 ≤ x9 ∧ x9 ≤ 2000) (k13 : 0 ≤ x13 ∧ x13 ≤ 2000) (k15 : 0 ≤ x15 ∧ x15 ≤ 2000) (k19 : 10 ≤ x19 ∧ x19 ≤ 2147483647) (k25 : 0 ≤ x25 ∧ x25 ≤ 2000) (f0 : 1 * x3 + ((-1) * x25 + 0) ≤ (-1)) (f1 : (-1) * x9 + ((-1) * x25 + 0) ≤ (-2001)) (f2 : 1 * x19 + ((-1) * x2 + 0) ≤ 0) (f3 : (-1) * x19 + 0 ≤ 0) (f4 : 1 * x15 + ((-1) * x13 + 0) ≤ 0) (f5 : (-1) * x15 + (1 * x13 + 0) ≤ 0) (f6 : 1 * x3 + ((-1) * x15 + 0) ≤ (-1)) (f7 : (-1) * x9 + ((-1) * x15 + 0) ≤ (-2000)) (f8 : 1 * x3 + ((-1) * x13 + 0) ≤ (-1)) (f9 : (-1) * x9 + ((-1) * x13 + 0) ≤ (-2000)) (f10 : 1 * x8 + ((-1) * x2 + 0) ≤ 0) (f11 : (-1) * x8 + 0 ≤ 0) (f12 : (-1) * x4 + 0 ≤ 0) (f15 : (-1) * fault_0 + 0 ≤ (-1)) (f16 : 1 * from_0 + ((-1) * pos_0 + 0) ≤ 0) (f17 : ((kind_0 = 1) → (pos_0 ≤ (from_0 + 8))) ∧ ((kind_0 = 0) ∨ ((from_0 + 1) ≤ pos_0))) (f18 : 1 * x25 + ((-1) * from_0 + 0) ≤ 0) (f20 : 1 * x3 + ((-1) * x25 + 0) ≤ (-1)) (f21 : (-1) * x9 + ((-1) * x25 + 0) ≤ (-2001)) (f22 : 1 * x19 + ((-1) * x2 + 0) ≤ 0) (f23 : (-1) * x19 + 0 ≤ 0) (f24 : 1 * x15 + ((-1) * x13 + 0) ≤ 0) (f25 : (-1) * x15 + (1 * x13 + 0) ≤ 0) (f26 : 1 * x3 + ((-1) * x15 + 0) ≤ (-1)) (f27 : (-1) * x9 + ((-1) * x15 + 0) ≤ (-2000)) (f28 : 1 * x3 + ((-1) * x13 + 0) ≤ (-1)) (f29 : (-1) * x9 + ((-1) * x13 + 0) ≤ (-2000)) (f30 : 1 * x8 + ((-1) * x2 + 0) ≤ 0) (f31 : (-1) * x8 + 0 ≤ 0) (f32 : (-1) * x4 + 0 ≤ 0) (f34 : 1 * x15 + ((-1) * x13 + 0) ≤ 0) (f35 : (-1) * x15 + (1 * x13 + 0) ≤ 0) (f36 : 1 * x3 + ((-1) * x15 + 0) ≤ (-1)) (f37 : (-1) * x9 + ((-1) * x15 + 0) ≤ (-2000)) (f38 : 1 * x3 + ((-1) * x13 + 0) ≤ (-1)) (f39 : (-1) * x9 + ((-1) * x13 + 0) ≤ (-2000)) (f40 : 1 * x8 + ((-1) * x2 + 0) ≤ 0) (f41 : (-1) * x8 + 0 ≤ 0) (f42 : (-1) * x4 + 0 ≤ 0) (f44 : 1 * x15 + ((-1) * x13 + 0) ≤ 0) (f45 : (-1) * x15 + (1 * x13 + 0) ≤ 0) (f46 : 1 * x3 + ((-1) * x15 + 0) ≤ (-1)) (f47 : (-1) * x9 + ((-1) * x15 + 0) ≤ (-2000)) (f48 : 1 * x3 + ((-1) * x13 + 0) ≤ (-1)) (f49 : (-1) * x9 + ((-1) * x13 + 0) ≤ (-2000)) (f50 : 1 * x8 + ((-1) * x2 + 0) ≤ 0) (f51 : (-1) * x8 + 0 ≤ 0) (f52 : (-1) * x4 + 0 ≤ 0) (f54 : 1 * x3 + ((-1) * x13 + 0) ≤ (-1)) (f55 : (-1) * x9 + ((-1) * x13 + 0) ≤ (-2000)) (f56 : x8 ≤ 0) (f57 : 1 * x8 + ((-1) * x2 + 0) ≤ 0) (f58 : (-1) * x8 + 0 ≤ 0) (f59 : (-1) * x4 + 0 ≤ 0) (f61 : 1 * x8 + ((-1) * x2 + 0) ≤ 0) (f62 : (-1) * x8 + 0 ≤ 0) (f63 : (-1) * x4 + 0 ≤ 0) (kz_0_8 : 0 ≤ fault_0 ∧ fault_0 ≤ 5) (kz_0_11 : 0 ≤ pos_0 ∧ pos_0 ≤ 2000) (kz_0_12 : 0 ≤ kind_0 ∧ kind_0 ≤ 4) (kz_0_15 : 0 ≤ from_0 ∧ from_0 ≤ 2000) (ex2 : gx = 0 + (1 * x9 + 0)) (ex3 : 0 ≤ gx ∧ gx ≤ 2000) : 1 * x3 + ((-1) * pos_0 + 0) ≤ (-1) := by
  first | assumption | (clear f17; omega) | omega | grind
set_option maxHeartbeats 4000000 in
theorem vc_Mo_of_at_s5003_13_3 (x2 : Int) (x3 : Int) (x4 : Int) (x7 : Int) (x8 : Int) (x9 : Int) (x13 : Int) (x15 : Int) (x19 : Int) (x25 : Int) (fault_0 : Int) (from_0 : Int) (pos_0 : Int) (kind_0 : Int) (gx : Int) (k2 : 9 ≤ x2 ∧ x2 ≤ 9) (k3 : 0 ≤ x3 ∧ x3 ≤ 2000) (k4 : (-1) ≤ x4 ∧ x4 ≤ 48) (k7 : 9 ≤ x7 ∧ x7 ≤ 9) (k8 : (-2147483648) ≤ x8 ∧ x8 ≤ 0) (k9 : 0 ≤ x9 ∧ x9 ≤ 2000) (k13 : 0 ≤ x13 ∧ x13 ≤ 2000) (k15 : 0 ≤ x15 ∧ x15 ≤ 2000) (k19 : 10 ≤ x19 ∧ x19 ≤ 2147483647) (k25 : 0 ≤ x25 ∧ x25 ≤ 2000) (f0 : 1 * x3 + ((-1) * x25 + 0) ≤ (-1)) (f1 : (-1) * x9 + ((-1) * x25 + 0) ≤ (-2001)) (f2 : 1 * x19 + ((-1) * x2 + 0) ≤ 0) (f3 : (-1) * x19 + 0 ≤ 0) (f4 : 1 * x15 + ((-1) * x13 + 0) ≤ 0) (f5 : (-1) * x15 + (1 * x13 + 0) ≤ 0) (f6 : 1 * x3 + ((-1) * x15 + 0) ≤ (-1)) (f7 : (-1) * x9 + ((-1) * x15 + 0) ≤ (-2000)) (f8 : 1 * x3 + ((-1) * x13 + 0) ≤ (-1)) (f9 : (-1) * x9 + ((-1) * x13 + 0) ≤ (-2000)) (f10 : 1 * x8 + ((-1) * x2 + 0) ≤ 0) (f11 : (-1) * x8 + 0 ≤ 0) (f12 : (-1) * x4 + 0 ≤ 0) (f15 : (-1) * fault_0 + 0 ≤ (-1)) (f16 : 1 * from_0 + ((-1) * pos_0 + 0) ≤ 0) (f17 : ((kind_0 = 1) → (pos_0 ≤ (from_0 + 8))) ∧ ((kind_0 = 0) ∨ ((from_0 + 1) ≤ pos_0))) (f18 : 1 * x25 + ((-1) * from_0 + 0) ≤ 0) (f20 : 1 * x3 + ((-1) * x25 + 0) ≤ (-1)) (f21 : (-1) * x9 + ((-1) * x25 + 0) ≤ (-2001)) (f22 : 1 * x19 + ((-1) * x2 + 0) ≤ 0) (f23 : (-1) * x19 + 0 ≤ 0) (f24 : 1 * x15 + ((-1) * x13 + 0) ≤ 0) (f25 : (-1) * x15 + (1 * x13 + 0) ≤ 0) (f26 : 1 * x3 + ((-1) * x15 + 0) ≤ (-1)) (f27 : (-1) * x9 + ((-1) * x15 + 0) ≤ (-2000)) (f28 : 1 * x3 + ((-1) * x13 + 0) ≤ (-1)) (f29 : (-1) * x9 + ((-1) * x13 + 0) ≤ (-2000)) (f30 : 1 * x8 + ((-1) * x2 + 0) ≤ 0) (f31 : (-1) * x8 + 0 ≤ 0) (f32 : (-1) * x4 + 0 ≤ 0) (f34 : 1 * x15 + ((-1) * x13 + 0) ≤ 0) (f35 : (-1) * x15 + (1 * x13 + 0) ≤ 0) (f36 : 1 * x3 + ((-1) * x15 + 0) ≤ (-1)) (f37 : (-1) * x9 + ((-1) * x15 + 0) ≤ (-2000)) (f38 : 1 * x3 + ((-1) * x13 + 0) ≤ (-1)) (f39 : (-1) * x9 + ((-1) * x13 + 0) ≤ (-2000)) (f40 : 1 * x8 + ((-1) * x2 + 0) ≤ 0) (f41 : (-1) * x8 + 0 ≤ 0) (f42 : (-1) * x4 + 0 ≤ 0) (f44 : 1 * x15 + ((-1) * x13 + 0) ≤ 0) (f45 : (-1) * x15 + (1 * x13 + 0) ≤ 0) (f46 : 1 * x3 + ((-1) * x15 + 0) ≤ (-1)) (f47 : (-1) * x9 + ((-1) * x15 + 0) ≤ (-2000)) (f48 : 1 * x3 + ((-1) * x13 + 0) ≤ (-1)) (f49 : (-1) * x9 + ((-1) * x13 + 0) ≤ (-2000)) (f50 : 1 * x8 + ((-1) * x2 + 0) ≤ 0) (f51 : (-1) * x8 + 0 ≤ 0) (f52 : (-1) * x4 + 0 ≤ 0) (f54 : 1 * x3 + ((-1) * x13 + 0) ≤ (-1)) (f55 : (-1) * x9 + ((-1) * x13 + 0) ≤ (-2000)) (f56 : x8 ≤ 0) (f57 : 1 * x8 + ((-1) * x2 + 0) ≤ 0) (f58 : (-1) * x8 + 0 ≤ 0) (f59 : (-1) * x4 + 0 ≤ 0) (f61 : 1 * x8 + ((-1) * x2 + 0) ≤ 0) (f62 : (-1) * x8 + 0 ≤ 0) (f63 : (-1) * x4 + 0 ≤ 0) (kz_0_8 : 0 ≤ fault_0 ∧ fault_0 ≤ 5) (kz_0_11 : 0 ≤ pos_0 ∧ pos_0 ≤ 2000) (kz_0_12 : 0 ≤ kind_0 ∧ kind_0 ≤ 4) (kz_0_15 : 0 ≤ from_0 ∧ from_0 ≤ 2000) (ex2 : gx = 0 + (1 * x9 + 0)) (ex3 : 0 ≤ gx ∧ gx ≤ 2000) : 1 * x19 + ((-1) * x2 + 0) ≤ 0 := by
  first | assumption | (clear f17; omega) | omega | grind
set_option maxHeartbeats 4000000 in
theorem vc_Mo_of_at_s5003_13_4 (x2 : Int) (x3 : Int) (x4 : Int) (x7 : Int) (x8 : Int) (x9 : Int) (x13 : Int) (x15 : Int) (x19 : Int) (x25 : Int) (fault_0 : Int) (from_0 : Int) (pos_0 : Int) (kind_0 : Int) (gx : Int) (k2 : 9 ≤ x2 ∧ x2 ≤ 9) (k3 : 0 ≤ x3 ∧ x3 ≤ 2000) (k4 : (-1) ≤ x4 ∧ x4 ≤ 48) (k7 : 9 ≤ x7 ∧ x7 ≤ 9) (k8 : (-2147483648) ≤ x8 ∧ x8 ≤ 0) (k9 : 0 ≤ x9 ∧ x9 ≤ 2000) (k13 : 0 ≤ x13 ∧ x13 ≤ 2000) (k15 : 0 ≤ x15 ∧ x15 ≤ 2000) (k19 : 10 ≤ x19 ∧ x19 ≤ 2147483647) (k25 : 0 ≤ x25 ∧ x25 ≤ 2000) (f0 : 1 * x3 + ((-1) * x25 + 0) ≤ (-1)) (f1 : (-1) * x9 + ((-1) * x25 + 0) ≤ (-2001)) (f2 : 1 * x19 + ((-1) * x2 + 0) ≤ 0) (f3 : (-1) * x19 + 0 ≤ 0) (f4 : 1 * x15 + ((-1) * x13 + 0) ≤ 0) (f5 : (-1) * x15 + (1 * x13 + 0) ≤ 0) (f6 : 1 * x3 + ((-1) * x15 + 0) ≤ (-1)) (f7 : (-1) * x9 + ((-1) * x15 + 0) ≤ (-2000)) (f8 : 1 * x3 + ((-1) * x13 + 0) ≤ (-1)) (f9 : (-1) * x9 + ((-1) * x13 + 0) ≤ (-2000)) (f10 : 1 * x8 + ((-1) * x2 + 0) ≤ 0) (f11 : (-1) * x8 + 0 ≤ 0) (f12 : (-1) * x4 + 0 ≤ 0) (f15 : (-1) * fault_0 + 0 ≤ (-1)) (f16 : 1 * from_0 + ((-1) * pos_0 + 0) ≤ 0) (f17 : ((kind_0 = 1) → (pos_0 ≤ (from_0 + 8))) ∧ ((kind_0 = 0) ∨ ((from_0 + 1) ≤ pos_0))) (f18 : 1 * x25 + ((-1) * from_0 + 0) ≤ 0) (f20 : 1 * x3 + ((-1) * x25 + 0) ≤ (-1)) (f21 : (-1) * x9 + ((-1) * x25 + 0) ≤ (-2001)) (f22 : 1 * x19 + ((-1) * x2 + 0) ≤ 0) (f23 : (-1) * x19 + 0 ≤ 0) (f24 : 1 * x15 + ((-1) * x13 + 0) ≤ 0) (f25 : (-1) * x15 + (1 * x13 + 0) ≤ 0) (f26 : 1 * x3 + ((-1) * x15 + 0) ≤ (-1)) (f27 : (-1) * x9 + ((-1) * x15 + 0) ≤ (-2000)) (f28 : 1 * x3 + ((-1) * x13 + 0) ≤ (-1)) (f29 : (-1) * x9 + ((-1) * x13 + 0) ≤ (-2000)) (f30 : 1 * x8 + ((-1) * x2 + 0) ≤ 0) (f31 : (-1) * x8 + 0 ≤ 0) (f32 : (-1) * x4 + 0 ≤ 0) (f34 : 1 * x15 + ((-1) * x13 + 0) ≤ 0) (f35 : (-1) * x15 + (1 * x13 + 0) ≤ 0) (f36 : 1 * x3 + ((-1) * x15 + 0) ≤ (-1)) (f37 : (-1) * x9 + ((-1) * x15 + 0) ≤ (-2000)) (f38 : 1 * x3 + ((-1) * x13 + 0) ≤ (-1)) (f39 : (-1) * x9 + ((-1) * x13 + 0) ≤ (-2000)) (f40 : 1 * x8 + ((-1) * x2 + 0) ≤ 0) (f41 : (-1) * x8 + 0 ≤ 0) (f42 : (-1) * x4 + 0 ≤ 0) (f44 : 1 * x15 + ((-1) * x13 + 0) ≤ 0) (f45 : (-1) * x15 + (1 * x13 + 0) ≤ 0) (f46 : 1 * x3 + ((-1) * x15 + 0) ≤ (-1)) (f47 : (-1) * x9 + ((-1) * x15 + 0) ≤ (-2000)) (f48 : 1 * x3 + ((-1) * x13 + 0) ≤ (-1)) (f49 : (-1) * x9 + ((-1) * x13 + 0) ≤ (-2000)) (f50 : 1 * x8 + ((-1) * x2 + 0) ≤ 0) (f51 : (-1) * x8 + 0 ≤ 0) (f52 : (-1) * x4 + 0 ≤ 0) (f54 : 1 * x3 + ((-1) * x13 + 0) ≤ (-1)) (f55 : (-1) * x9 + ((-1) * x13 + 0) ≤ (-2000)) (f56 : x8 ≤ 0) (f57 : 1 * x8 + ((-1) * x2 + 0) ≤ 0) (f58 : (-1) * x8 + 0 ≤ 0) (f59 : (-1) * x4 + 0 ≤ 0) (f61 : 1 * x8 + ((-1) * x2 + 0) ≤ 0) (f62 : (-1) * x8 + 0 ≤ 0) (f63 : (-1) * x4 + 0 ≤ 0) (kz_0_8 : 0 ≤ fault_0 ∧ fault_0 ≤ 5) (kz_0_11 : 0 ≤ pos_0 ∧ pos_0 ≤ 2000) (kz_0_12 : 0 ≤ kind_0 ∧ kind_0 ≤ 4) (kz_0_15 : 0 ≤ from_0 ∧ from_0 ≤ 2000) (ex2 : gx = 0 + (1 * x9 + 0)) (ex3 : 0 ≤ gx ∧ gx ≤ 2000) : (-1) * x19 + 0 ≤ 0 := by
  first | assumption | (clear f17; omega) | omega | grind
set_option maxHeartbeats 4000000 in
theorem vc_Mo_of_at_s5003_13_5 (x2 : Int) (x3 : Int) (x4 : Int) (x7 : Int) (x8 : Int) (x9 : Int) (x13 : Int) (x15 : Int) (x19 : Int) (x25 : Int) (fault_0 : Int) (from_0 : Int) (pos_0 : Int) (kind_0 : Int) (gx : Int) (k2 : 9 ≤ x2 ∧ x2 ≤ 9) (k3 : 0 ≤ x3 ∧ x3 ≤ 2000) (k4 : (-1) ≤ x4 ∧ x4 ≤ 48) (k7 : 9 ≤ x7 ∧ x7 ≤ 9) (k8 : (-2147483648) ≤ x8 ∧ x8 ≤ 0) (k9 : 0 ≤ x9 ∧ x9 ≤ 2000) (k13 : 0 ≤ x13 ∧ x13 ≤ 2000) (k15 : 0 ≤ x15 ∧ x15 ≤ 2000) (k19 : 10 ≤ x19 ∧ x19 ≤ 2147483647) (k25 : 0 ≤ x25 ∧ x25 ≤ 2000) (f0 : 1 * x3 + ((-1) * x25 + 0) ≤ (-1)) (f1 : (-1) * x9 + ((-1) * x25 + 0) ≤ (-2001)) (f2 : 1 * x19 + ((-1) * x2 + 0) ≤ 0) (f3 : (-1) * x19 + 0 ≤ 0) (f4 : 1 * x15 + ((-1) * x13 + 0) ≤ 0) (f5 : (-1) * x15 + (1 * x13 + 0) ≤ 0) (f6 : 1 * x3 + ((-1) * x15 + 0) ≤ (-1)) (f7 : (-1) * x9 + ((-1) * x15 + 0) ≤ (-2000)) (f8 : 1 * x3 + ((-1) * x13 + 0) ≤ (-1)) (f9 : (-1) * x9 + ((-1) * x13 + 0) ≤ (-2000)) (f10 : 1 * x8 + ((-1) * x2 + 0) ≤ 0) (f11 : (-1) * x8 + 0 ≤ 0) (f12 : (-1) * x4 + 0 ≤ 0) (f15 : (-1) * fault_0 + 0 ≤ (-1)) (f16 : 1 * from_0 + ((-1) * pos_0 + 0) ≤ 0) (f17 : ((kind_0 = 1) → (pos_0 ≤ (from_0 + 8))) ∧ ((kind_0 = 0) ∨ ((from_0 + 1) ≤ pos_0))) (f18 : 1 * x25 + ((-1) * from_0 + 0) ≤ 0) (f20 : 1 * x3 + ((-1) * x25 + 0) ≤ (-1)) (f21 : (-1) * x9 + ((-1) * x25 + 0) ≤ (-2001)) (f22 : 1 * x19 + ((-1) * x2 + 0) ≤ 0) (f23 : (-1) * x19 + 0 ≤ 0) (f24 : 1 * x15 + ((-1) * x13 + 0) ≤ 0) (f25 : (-1) * x15 + (1 * x13 + 0) ≤ 0) (f26 : 1 * x3 + ((-1) * x15 + 0) ≤ (-1)) (f27 : (-1) * x9 + ((-1) * x15 + 0) ≤ (-2000)) (f28 : 1 * x3 + ((-1) * x13 + 0) ≤ (-1)) (f29 : (-1) * x9 + ((-1) * x13 + 0) ≤ (-2000)) (f30 : 1 * x8 + ((-1) * x2 + 0) ≤ 0) (f31 : (-1) * x8 + 0 ≤ 0) (f32 : (-1) * x4 + 0 ≤ 0) (f34 : 1 * x15 + ((-1) * x13 + 0) ≤ 0) (f35 : (-1) * x15 + (1 * x13 + 0) ≤ 0) (f36 : 1 * x3 + ((-1) * x15 + 0) ≤ (-1)) (f37 : (-1) * x9 + ((-1) * x15 + 0) ≤ (-2000)) (f38 : 1 * x3 + ((-1) * x13 + 0) ≤ (-1)) (f39 : (-1) * x9 + ((-1) * x13 + 0) ≤ (-2000)) (f40 : 1 * x8 + ((-1) * x2 + 0) ≤ 0) (f41 : (-1) * x8 + 0 ≤ 0) (f42 : (-1) * x4 + 0 ≤ 0) (f44 : 1 * x15 + ((-1) * x13 + 0) ≤ 0) (f45 : (-1) * x15 + (1 * x13 + 0) ≤ 0) (f46 : 1 * x3 + ((-1) * x15 + 0) ≤ (-1)) (f47 : (-1) * x9 + ((-1) * x15 + 0) ≤ (-2000)) (f48 : 1 * x3 + ((-1) * x13 + 0) ≤ (-1)) (f49 : (-1) * x9 + ((-1) * x13 + 0) ≤ (-2000)) (f50 : 1 * x8 + ((-1) * x2 + 0) ≤ 0) (f51 : (-1) * x8 + 0 ≤ 0) (f52 : (-1) * x4 + 0 ≤ 0) (f54 : 1 * x3 + ((-1) * x13 + 0) ≤ (-1)) (f55 : (-1) * x9 + ((-1) * x13 + 0) ≤ (-2000)) (f56 : x8 ≤ 0) (f57 : 1 * x8 + ((-1) * x2 + 0) ≤ 0) (f58 : (-1) * x8 + 0 ≤ 0) (f59 : (-1) * x4 + 0 ≤ 0) (f61 : 1 * x8 + ((-1) * x2 + 0) ≤ 0) (f62 : (-1) * x8 + 0 ≤ 0) (f63 : (-1) * x4 + 0 ≤ 0) (kz_0_8 : 0 ≤ fault_0 ∧ fault_0 ≤ 5) (kz_0_11 : 0 ≤ pos_0 ∧ pos_0 ≤ 2000) (kz_0_12 : 0 ≤ kind_0 ∧ kind_0 ≤ 4) (kz_0_15 : 0 ≤ from_0 ∧ from_0 ≤ 2000) (ex2 : gx = 0 + (1 * x9 + 0)) (ex3 : 0 ≤ gx ∧ gx ≤ 2000) : (-1) * x4 + 0 ≤ 0 := by
  first | assumption | (clear f17; omega) | omega | grind
set_option maxHeartbeats 4000000 in
theorem vc_Mo_of_at_s5003_13_6 (x2 : Int) (x3 : Int) (x4 : Int) (x7 : Int) (x8 : Int) (x9 : Int) (x13 : Int) (x15 : Int) (x19 : Int) (x25 : Int) (fault_0 : Int) (from_0 : Int) (pos_0 : Int) (kind_0 : Int) (gx : Int) (k2 : 9 ≤ x2 ∧ x2 ≤ 9) (k3 : 0 ≤ x3 ∧ x3 ≤ 2000) (k4 : (-1) ≤ x4 ∧ x4 ≤ 48) (k7 : 9 ≤ x7 ∧ x7 ≤ 9) (k8 : (-2147483648) ≤ x8 ∧ x8 ≤ 0) (k9 : 0 ≤ x9 ∧ x9 ≤ 2000) (k13 : 0 ≤ x13 ∧ x13 ≤ 2000) (k15 : 0 ≤ x15 ∧ x15 ≤ 2000) (k19 : 10 ≤ x19 ∧ x19 ≤ 2147483647) (k25 : 0 ≤ x25 ∧ x25 ≤ 2000) (f0 : 1 * x3 + ((-1) * x25 + 0) ≤ (-1)) (f1 : (-1) * x9 + ((-1) * x25 + 0) ≤ (-2001)) (f2 : 1 * x19 + ((-1) * x2 + 0) ≤ 0) (f3 : (-1) * x19 + 0 ≤ 0) (f4 : 1 * x15 + ((-1) * x13 + 0) ≤ 0) (f5 : (-1) * x15 + (1 * x13 + 0) ≤ 0) (f6 : 1 * x3 + ((-1) * x15 + 0) ≤ (-1)) (f7 : (-1) * x9 + ((-1) * x15 + 0) ≤ (-2000)) (f8 : 1 * x3 + ((-1) * x13 + 0) ≤ (-1)) (f9 : (-1) * x9 + ((-1) * x13 + 0) ≤ (-2000)) (f10 : 1 * x8 + ((-1) * x2 + 0) ≤ 0) (f11 : (-1) * x8 + 0 ≤ 0) (f12 : (-1) * x4 + 0 ≤ 0) (f15 : (-1) * fault_0 + 0 ≤ (-1)) (f16 : 1 * from_0 + ((-1) * pos_0 + 0) ≤ 0) (f17 : ((kind_0 = 1) → (pos_0 ≤ (from_0 + 8))) ∧ ((kind_0 = 0) ∨ ((from_0 + 1) ≤ pos_0))) (f18 : 1 * x25 + ((-1) * from_0 + 0) ≤ 0) (f20 : 1 * x3 + ((-1) * x25 + 0) ≤ (-1)) (f21 : (-1) * x9 + ((-1) * x25 + 0) ≤ (-2001)) (f22 : 1 * x19 + ((-1) * x2 + 0) ≤ 0) (f23 : (-1) * x19 + 0 ≤ 0) (f24 : 1 * x15 + ((-1) * x13 + 0) ≤ 0) (f25 : (-1) * x15 + (1 * x13 + 0) ≤ 0) (f26 : 1 * x3 + ((-1) * x15 + 0) ≤ (-1)) (f27 : (-1) * x9 + ((-1) * x15 + 0) ≤ (-2000)) (f28 : 1 * x3 + ((-1) * x13 + 0) ≤ (-1)) (f29 : (-1) * x9 + ((-1) * x13 + 0) ≤ (-2000)) (f30 : 1 * x8 + ((-1) * x2 + 0) ≤ 0) (f31 : (-1) * x8 + 0 ≤ 0) (f32 : (-1) * x4 + 0 ≤ 0) (f34 : 1 * x15 + ((-1) * x13 + 0) ≤ 0) (f35 : (-1) * x15 + (1 * x13 + 0) ≤ 0) (f36 : 1 * x3 + ((-1) * x15 + 0) ≤ (-1)) (f37 : (-1) * x9 + ((-1) * x15 + 0) ≤ (-2000)) (f38 : 1 * x3 + ((-1) * x13 + 0) ≤ (-1)) (f39 : (-1) * x9 + ((-1) * x13 + 0) ≤ (-2000)) (f40 : 1 * x8 + ((-1) * x2 + 0) ≤ 0) (f41 : (-1) * x8 + 0 ≤ 0) (f42 : (-1) * x4 + 0 ≤ 0) (f44 : 1 * x15 + ((-1) * x13 + 0) ≤ 0) (f45 : (-1) * x15 + (1 * x13 + 0) ≤ 0) (f46 : 1 * x3 + ((-1) * x15 + 0) ≤ (-1)) (f47 : (-1) * x9 + ((-1) * x15 + 0) ≤ (-2000)) (f48 : 1 * x3 + ((-1) * x13 + 0) ≤ (-1)) (f49 : (-1) * x9 + ((-1) * x13 + 0) ≤ (-2000)) (f50 : 1 * x8 + ((-1) * x2 + 0) ≤ 0) (f51 : (-1) * x8 + 0 ≤ 0) (f52 : (-1) * x4 + 0 ≤ 0) (f54 : 1 * x3 + ((-1) * x13 + 0) ≤ (-1)) (f55 : (-1) * x9 + ((-1) * x13 + 0) ≤ (-2000)) (f56 : x8 ≤ 0) (f57 : 1 * x8 + ((-1) * x2 + 0) ≤ 0) (f58 : (-1) * x8 + 0 ≤ 0) (f59 : (-1) * x4 + 0 ≤ 0) (f61 : 1 * x8 + ((-1) * x2 + 0) ≤ 0) (f62 : (-1) * x8 + 0 ≤ 0) (f63 : (-1) * x4 + 0 ≤ 0) (kz_0_8 : 0 ≤ fault_0 ∧ fault_0 ≤ 5) (kz_0_11 : 0 ≤ pos_0 ∧ pos_0 ≤ 2000) (kz_0_12 : 0 ≤ kind_0 ∧ kind_0 ≤ 4) (kz_0_15 : 0 ≤ from_0 ∧ from_0 ≤ 2000) (ex2 : gx = 0 + (1 * x9 + 0)) (ex3 : 0 ≤ gx ∧ gx ≤ 2000) : (-1) * gx + ((-1) * pos_0 + 0) ≤ (-2001) := by
  first | assumption | (clear f17; omega) | omega | grind
def o_Mo_of_at_s5003_13 : or_T := (139, 26, [(0, (2, 0, 0, [165])), (2, (0, 9, 9, [])), (3, (0, 0, 2000, [])), (4, (0, -1, 48, [])), (5, (2, 0, 0, [165])), (7, (0, 9, 9, [])), (8, (0, -2147483648, 0, [])), (9, (0, 0, 2000, [])), (13, (0, 0, 2000, [])), (15, (0, 0, 2000, [])), (19, (0, 10, 2147483647, [])), (25, (0, 0, 2000, []))], [(23, [3, 25], [-1, 1, -1]), (23, [9, 25], [-2001, -1, -1]), (23, [19, 7], [0, 1, -1]), (23, [19], [0, -1]), (23, [15, 13], [0, 1, -1]), (23, [15, 13], [0, -1, 1]), (23, [3, 15], [-1, 1, -1]), (23, [9, 15], [-2000, -1, -1]), (23, [3, 13], [-1, 1, -1]), (23, [9, 13], [-2000, -1, -1]), (23, [8, 7], [0, 1, -1]), (23, [8], [0, -1]), (23, [4], [0, -1]), (24, [0, 5], []), (24, [2, 7], []), (20, [5], [30, -1, -1, 1, 8]), (20, [5, 5], [30, 0, 1, 1, 15, -1, 1, 11]), (20, [5], [50, 3, 0, 12, 11, 15, 2, 21, 4, 7, 1, 3, 2, 0, 12, 0, 1, 0, 3, 2, 0, 11, 4, 3, 2, 0, 15, 0, 8, 3, 7, 1, 3, 2, 0, 12, 0, 0, 0, 7, 4, 3, 2, 0, 15, 0, 1, 2, 0, 11]), (20, [25, 5], [30, 0, 1, 0, 0, -1, 1, 15]), (102, [25], [0, 165011, 165012, 165013, 165014, 165015]), (23, [3, 25], [-1, 1, -1]), (23, [9, 25], [-2001, -1, -1]), (23, [19, 7], [0, 1, -1]), (23, [19], [0, -1]), (23, [15, 13], [0, 1, -1]), (23, [15, 13], [0, -1, 1]), (23, [3, 15], [-1, 1, -1]), (23, [9, 15], [-2000, -1, -1]), (23, [3, 13], [-1, 1, -1]), (23, [9, 13], [-2000, -1, -1]), (23, [8, 7], [0, 1, -1]), (23, [8], [0, -1]), (23, [4], [0, -1]), (102, [23], [0, 165008, 165009]), (23, [15, 13], [0, 1, -1]), (23, [15, 13], [0, -1, 1]), (23, [3, 15], [-1, 1, -1]), (23, [9, 15], [-2000, -1, -1]), (23, [3, 13], [-1, 1, -1]), (23, [9, 13], [-2000, -1, -1]), (23, [8, 7], [0, 1, -1]), (23, [8], [0, -1]), (23, [4], [0, -1]), (102, [15], [0, 165008, 165009, 165011, 165012, 165013, 165014, 165015]), (23, [15, 13], [0, 1, -1]), (23, [15, 13], [0, -1, 1]), (23, [3, 15], [-1, 1, -1]), (23, [9, 15], [-2000, -1, -1]), (23, [3, 13], [-1, 1, -1]), (23, [9, 13], [-2000, -1, -1]), (23, [8, 7], [0, 1, -1]), (23, [8], [0, -1]), (23, [4], [0, -1]), (102, [13], [0, 165011, 165012, 165013, 165014, 165015]), (23, [3, 13], [-1, 1, -1]), (23, [9, 13], [-2000, -1, -1]), (8, [8], [5]), (23, [8, 7], [0, 1, -1]), (23, [8], [0, -1]), (23, [4], [0, -1]), (102, [11], [0]), (23, [8, 7], [0, 1, -1]), (23, [8], [0, -1]), (23, [4], [0, -1])], [], [(0, 0, 2000, [])], [(20, [5, 5], [30, 0, 1, 1, 15, -1, 1, 11]), (20, [5], [50, 3, 0, 12, 11, 15, 2, 21, 4, 7, 1, 3, 2, 0, 12, 0, 1, 0, 3, 2, 0, 11, 4, 3, 2, 0, 15, 0, 8, 3, 7, 1, 3, 2, 0, 12, 0, 0, 0, 7, 4, 3, 2, 0, 15, 0, 1, 2, 0, 11]), (20, [3, 5], [30, -1, 1, 0, 0, -1, 1, 11]), (23, [19, 7], [0, 1, -1]), (23, [19], [0, -1]), (23, [4], [0, -1]), (20, [26, 5], [30, -2001, -1, 0, 0, -1, 1, 11]), (24, [0, 5], []), (24, [2, 7], [])], [(26, 9, 0, 0)], [])
theorem oo_Mo_of_at_s5003_13 {kA : Nat → ClassId} : or_ok PRD kA GG o_Mo_of_at_s5003_13 := by
  refine or_mk fun A ta ws vs hD hth hl => ?_
  intro t0 r0 t2 k2 t3 k3 t4 k4 t5 r5 t7 k7 t8 k8 t9 k9 t13 k13 t15 k15 t19 k19 t25 k25 f0 f1 f2 f3 f4 f5 f6 f7 f8 f9 f10 f11 f12 f13 f14 f15 f16 f17 f18 ta1 w1 le1 s1 f20 f21 f22 f23 f24 f25 f26 f27 f28 f29 f30 f31 f32 ta2 w2 le2 s2 f34 f35 f36 f37 f38 f39 f40 f41 f42 ta3 w3 le3 s3 f44 f45 f46 f47 f48 f49 f50 f51 f52 ta4 w4 le4 s4 f54 f55 f56 f57 f58 f59 ta5 w5 le5 s5 f61 f62 f63
  replace f0 := shm_211 f0
  replace f1 := shm_1895 f1
  replace f2 := shm_7 f2
  replace f3 := shm_1013 f3
  replace f4 := shm_7 f4
  replace f5 := shm_22 f5
  replace f6 := shm_211 f6
  replace f7 := shm_1894 f7
  replace f8 := shm_211 f8
  replace f9 := shm_1894 f9
  replace f10 := shm_7 f10
  replace f11 := shm_1013 f11
  replace f12 := shm_1013 f12
  replace f13 := shm_5 f13
  replace f14 := shm_5 f14
  replace f15 := shm_144 f15
  replace f16 := shm_1397 f16
  replace f17 := shm_1398 f17
  replace f18 := shm_1396 f18
  replace f20 := shm_211 f20
  replace f21 := shm_1895 f21
  replace f22 := shm_7 f22
  replace f23 := shm_1013 f23
  replace f24 := shm_7 f24
  replace f25 := shm_22 f25
  replace f26 := shm_211 f26
  replace f27 := shm_1894 f27
  replace f28 := shm_211 f28
  replace f29 := shm_1894 f29
  replace f30 := shm_7 f30
  replace f31 := shm_1013 f31
  replace f32 := shm_1013 f32
  replace f34 := shm_7 f34
  replace f35 := shm_22 f35
  replace f36 := shm_211 f36
  replace f37 := shm_1894 f37
  replace f38 := shm_211 f38
  replace f39 := shm_1894 f39
  replace f40 := shm_7 f40
  replace f41 := shm_1013 f41
  replace f42 := shm_1013 f42
  replace f44 := shm_7 f44
  replace f45 := shm_22 f45
  replace f46 := shm_211 f46
  replace f47 := shm_1894 f47
  replace f48 := shm_211 f48
  replace f49 := shm_1894 f49
  replace f50 := shm_7 f50
  replace f51 := shm_1013 f51
  replace f52 := shm_1013 f52
  replace f54 := shm_211 f54
  replace f55 := shm_1894 f55
  replace f56 := shm_142 f56
  replace f57 := shm_7 f57
  replace f58 := shm_1013 f58
  replace f59 := shm_1013 f59
  replace f61 := shm_7 f61
  replace f62 := shm_1013 f62
  replace f63 := shm_1013 f63
  have q5 : n_v vs 5 = n_v vs 0 := f13.symm
  have q7 : n_v vs 7 = n_v vs 2 := f14.symm
  simp only [q7, q5] at f2 f10 f15 f16 f17 f18 f22 f30 f40 f50 f57 f61
  have kz_0_8 := fdq_14 hD hth r0
  have kz_0_11 := fdq_273 hD hth r0
  have kz_0_12 := fdq_186 hD hth r0
  have kz_0_15 := fdq_274 hD hth r0
  obtain ⟨x, ex, hx⟩ := iv_ex (ta := ta) (lo := 0) (hi := 2000) (z := 0 + (1 * v_iv (n_v vs 9) + 0)) (by omega) (by omega) (by omega) (by omega)
  have ex2 : v_iv (Value.int x) = 0 + (1 * v_iv (n_v vs 9) + 0) := ex
  have ex3 : 0 ≤ v_iv (Value.int x) ∧ v_iv (Value.int x) ≤ 2000 := tv_rng hx
  have e_0 : n_v (vs ++ [Value.int x]) 0 = n_v vs 0 := n_v_old (by rw [hl]; decide)
  have e_2 : n_v (vs ++ [Value.int x]) 2 = n_v vs 2 := n_v_old (by rw [hl]; decide)
  have e_3 : n_v (vs ++ [Value.int x]) 3 = n_v vs 3 := n_v_old (by rw [hl]; decide)
  have e_4 : n_v (vs ++ [Value.int x]) 4 = n_v vs 4 := n_v_old (by rw [hl]; decide)
  have e_5 : n_v (vs ++ [Value.int x]) 5 = n_v vs 5 := n_v_old (by rw [hl]; decide)
  have e_7 : n_v (vs ++ [Value.int x]) 7 = n_v vs 7 := n_v_old (by rw [hl]; decide)
  have e_19 : n_v (vs ++ [Value.int x]) 19 = n_v vs 19 := n_v_old (by rw [hl]; decide)
  have e_26 : n_v (vs ++ [Value.int x]) 26 = Value.int x := n_v_new hl
  have nf0 : fc_1 PRD (20, [5, 5], [30, 0, 1, 1, 15, -1, 1, 11]) ws (vs ++ [Value.int x]) := by
    refine ⟨nf_inA hl rfl, sgq_1397 ?_⟩
    · show 1 * w_fi ws (n_v (vs ++ [Value.int x]) 5) 15 + ((-1) * w_fi ws (n_v (vs ++ [Value.int x]) 5) 11 + 0) ≤ 0
      simp only [e_5, q5]
      exact vc_Mo_of_at_s5003_13_0 (v_iv (n_v vs 2)) (v_iv (n_v vs 3)) (v_iv (n_v vs 4)) (v_iv (n_v vs 7)) (v_iv (n_v vs 8)) (v_iv (n_v vs 9)) (v_iv (n_v vs 13)) (v_iv (n_v vs 15)) (v_iv (n_v vs 19)) (v_iv (n_v vs 25)) (w_fi ws (n_v vs 0) 8) (w_fi ws (n_v vs 0) 15) (w_fi ws (n_v vs 0) 11) (w_fi ws (n_v vs 0) 12) (v_iv (Value.int x)) k2 k3 k4 k7 k8 k9 k13 k15 k19 k25 f0 f1 f2 f3 f4 f5 f6 f7 f8 f9 f10 f11 f12 f15 f16 f17 f18 f20 f21 f22 f23 f24 f25 f26 f27 f28 f29 f30 f31 f32 f34 f35 f36 f37 f38 f39 f40 f41 f42 f44 f45 f46 f47 f48 f49 f50 f51 f52 f54 f55 f56 f57 f58 f59 f61 f62 f63 kz_0_8 kz_0_11 kz_0_12 kz_0_15 ex2 ex3
  have nf1 : fc_1 PRD (20, [5], [50, 3, 0, 12, 11, 15, 2, 21, 4, 7, 1, 3, 2, 0, 12, 0, 1, 0, 3, 2, 0, 11, 4, 3, 2, 0, 15, 0, 8, 3, 7, 1, 3, 2, 0, 12, 0, 0, 0, 7, 4, 3, 2, 0, 15, 0, 1, 2, 0, 11]) ws (vs ++ [Value.int x]) := by
    refine ⟨nf_inA hl rfl, sgq_1398 ?_⟩
    · show ((w_fi ws (n_v (vs ++ [Value.int x]) 5) 12 = 1) → (w_fi ws (n_v (vs ++ [Value.int x]) 5) 11 ≤ (w_fi ws (n_v (vs ++ [Value.int x]) 5) 15 + 8))) ∧ ((w_fi ws (n_v (vs ++ [Value.int x]) 5) 12 = 0) ∨ ((w_fi ws (n_v (vs ++ [Value.int x]) 5) 15 + 1) ≤ w_fi ws (n_v (vs ++ [Value.int x]) 5) 11))
      simp only [e_5, q5]
      exact vc_Mo_of_at_s5003_13_1 (v_iv (n_v vs 2)) (v_iv (n_v vs 3)) (v_iv (n_v vs 4)) (v_iv (n_v vs 7)) (v_iv (n_v vs 8)) (v_iv (n_v vs 9)) (v_iv (n_v vs 13)) (v_iv (n_v vs 15)) (v_iv (n_v vs 19)) (v_iv (n_v vs 25)) (w_fi ws (n_v vs 0) 8) (w_fi ws (n_v vs 0) 15) (w_fi ws (n_v vs 0) 11) (w_fi ws (n_v vs 0) 12) (v_iv (Value.int x)) k2 k3 k4 k7 k8 k9 k13 k15 k19 k25 f0 f1 f2 f3 f4 f5 f6 f7 f8 f9 f10 f11 f12 f15 f16 f17 f18 f20 f21 f22 f23 f24 f25 f26 f27 f28 f29 f30 f31 f32 f34 f35 f36 f37 f38 f39 f40 f41 f42 f44 f45 f46 f47 f48 f49 f50 f51 f52 f54 f55 f56 f57 f58 f59 f61 f62 f63 kz_0_8 kz_0_11 kz_0_12 kz_0_15 ex2 ex3
  have nf2 : fc_1 PRD (20, [3, 5], [30, -1, 1, 0, 0, -1, 1, 11]) ws (vs ++ [Value.int x]) := by
    refine ⟨nf_inA hl rfl, sgq_1891 ?_⟩
    · show 1 * v_iv (n_v (vs ++ [Value.int x]) 3) + ((-1) * w_fi ws (n_v (vs ++ [Value.int x]) 5) 11 + 0) ≤ (-1)
      simp only [e_3, e_5, q5]
      exact vc_Mo_of_at_s5003_13_2 (v_iv (n_v vs 2)) (v_iv (n_v vs 3)) (v_iv (n_v vs 4)) (v_iv (n_v vs 7)) (v_iv (n_v vs 8)) (v_iv (n_v vs 9)) (v_iv (n_v vs 13)) (v_iv (n_v vs 15)) (v_iv (n_v vs 19)) (v_iv (n_v vs 25)) (w_fi ws (n_v vs 0) 8) (w_fi ws (n_v vs 0) 15) (w_fi ws (n_v vs 0) 11) (w_fi ws (n_v vs 0) 12) (v_iv (Value.int x)) k2 k3 k4 k7 k8 k9 k13 k15 k19 k25 f0 f1 f2 f3 f4 f5 f6 f7 f8 f9 f10 f11 f12 f15 f16 f17 f18 f20 f21 f22 f23 f24 f25 f26 f27 f28 f29 f30 f31 f32 f34 f35 f36 f37 f38 f39 f40 f41 f42 f44 f45 f46 f47 f48 f49 f50 f51 f52 f54 f55 f56 f57 f58 f59 f61 f62 f63 kz_0_8 kz_0_11 kz_0_12 kz_0_15 ex2 ex3
  have nf3 : fc_1 PRD (23, [19, 7], [0, 1, -1]) ws (vs ++ [Value.int x]) := by
    refine ⟨nf_inA hl rfl, sgq_7 ?_⟩
    · show 1 * v_iv (n_v (vs ++ [Value.int x]) 19) + ((-1) * v_iv (n_v (vs ++ [Value.int x]) 7) + 0) ≤ 0
      simp only [e_7, e_19, q7]
      exact vc_Mo_of_at_s5003_13_3 (v_iv (n_v vs 2)) (v_iv (n_v vs 3)) (v_iv (n_v vs 4)) (v_iv (n_v vs 7)) (v_iv (n_v vs 8)) (v_iv (n_v vs 9)) (v_iv (n_v vs 13)) (v_iv (n_v vs 15)) (v_iv (n_v vs 19)) (v_iv (n_v vs 25)) (w_fi ws (n_v vs 0) 8) (w_fi ws (n_v vs 0) 15) (w_fi ws (n_v vs 0) 11) (w_fi ws (n_v vs 0) 12) (v_iv (Value.int x)) k2 k3 k4 k7 k8 k9 k13 k15 k19 k25 f0 f1 f2 f3 f4 f5 f6 f7 f8 f9 f10 f11 f12 f15 f16 f17 f18 f20 f21 f22 f23 f24 f25 f26 f27 f28 f29 f30 f31 f32 f34 f35 f36 f37 f38 f39 f40 f41 f42 f44 f45 f46 f47 f48 f49 f50 f51 f52 f54 f55 f56 f57 f58 f59 f61 f62 f63 kz_0_8 kz_0_11 kz_0_12 kz_0_15 ex2 ex3
  have nf4 : fc_1 PRD (23, [19], [0, -1]) ws (vs ++ [Value.int x]) := by
    refine ⟨nf_inA hl rfl, sgq_1013 ?_⟩
    · show (-1) * v_iv (n_v (vs ++ [Value.int x]) 19) + 0 ≤ 0
      rw [e_19]
      exact vc_Mo_of_at_s5003_13_4 (v_iv (n_v vs 2)) (v_iv (n_v vs 3)) (v_iv (n_v vs 4)) (v_iv (n_v vs 7)) (v_iv (n_v vs 8)) (v_iv (n_v vs 9)) (v_iv (n_v vs 13)) (v_iv (n_v vs 15)) (v_iv (n_v vs 19)) (v_iv (n_v vs 25)) (w_fi ws (n_v vs 0) 8) (w_fi ws (n_v vs 0) 15) (w_fi ws (n_v vs 0) 11) (w_fi ws (n_v vs 0) 12) (v_iv (Value.int x)) k2 k3 k4 k7 k8 k9 k13 k15 k19 k25 f0 f1 f2 f3 f4 f5 f6 f7 f8 f9 f10 f11 f12 f15 f16 f17 f18 f20 f21 f22 f23 f24 f25 f26 f27 f28 f29 f30 f31 f32 f34 f35 f36 f37 f38 f39 f40 f41 f42 f44 f45 f46 f47 f48 f49 f50 f51 f52 f54 f55 f56 f57 f58 f59 f61 f62 f63 kz_0_8 kz_0_11 kz_0_12 kz_0_15 ex2 ex3
  have nf5 : fc_1 PRD (23, [4], [0, -1]) ws (vs ++ [Value.int x]) := by
    refine ⟨nf_inA hl rfl, sgq_1013 ?_⟩
    · show (-1) * v_iv (n_v (vs ++ [Value.int x]) 4) + 0 ≤ 0
      rw [e_4]
      exact vc_Mo_of_at_s5003_13_5 (v_iv (n_v vs 2)) (v_iv (n_v vs 3)) (v_iv (n_v vs 4)) (v_iv (n_v vs 7)) (v_iv (n_v vs 8)) (v_iv (n_v vs 9)) (v_iv (n_v vs 13)) (v_iv (n_v vs 15)) (v_iv (n_v vs 19)) (v_iv (n_v vs 25)) (w_fi ws (n_v vs 0) 8) (w_fi ws (n_v vs 0) 15) (w_fi ws (n_v vs 0) 11) (w_fi ws (n_v vs 0) 12) (v_iv (Value.int x)) k2 k3 k4 k7 k8 k9 k13 k15 k19 k25 f0 f1 f2 f3 f4 f5 f6 f7 f8 f9 f10 f11 f12 f15 f16 f17 f18 f20 f21 f22 f23 f24 f25 f26 f27 f28 f29 f30 f31 f32 f34 f35 f36 f37 f38 f39 f40 f41 f42 f44 f45 f46 f47 f48 f49 f50 f51 f52 f54 f55 f56 f57 f58 f59 f61 f62 f63 kz_0_8 kz_0_11 kz_0_12 kz_0_15 ex2 ex3
  have nf6 : fc_1 PRD (20, [26, 5], [30, -2001, -1, 0, 0, -1, 1, 11]) ws (vs ++ [Value.int x]) := by
    refine ⟨nf_inA hl rfl, sgq_1896 ?_⟩
    · show (-1) * v_iv (n_v (vs ++ [Value.int x]) 26) + ((-1) * w_fi ws (n_v (vs ++ [Value.int x]) 5) 11 + 0) ≤ (-2001)
      simp only [e_5, e_26, q5]
      exact vc_Mo_of_at_s5003_13_6 (v_iv (n_v vs 2)) (v_iv (n_v vs 3)) (v_iv (n_v vs 4)) (v_iv (n_v vs 7)) (v_iv (n_v vs 8)) (v_iv (n_v vs 9)) (v_iv (n_v vs 13)) (v_iv (n_v vs 15)) (v_iv (n_v vs 19)) (v_iv (n_v vs 25)) (w_fi ws (n_v vs 0) 8) (w_fi ws (n_v vs 0) 15) (w_fi ws (n_v vs 0) 11) (w_fi ws (n_v vs 0) 12) (v_iv (Value.int x)) k2 k3 k4 k7 k8 k9 k13 k15 k19 k25 f0 f1 f2 f3 f4 f5 f6 f7 f8 f9 f10 f11 f12 f15 f16 f17 f18 f20 f21 f22 f23 f24 f25 f26 f27 f28 f29 f30 f31 f32 f34 f35 f36 f37 f38 f39 f40 f41 f42 f44 f45 f46 f47 f48 f49 f50 f51 f52 f54 f55 f56 f57 f58 f59 f61 f62 f63 kz_0_8 kz_0_11 kz_0_12 kz_0_15 ex2 ex3
  have nf7 : fc_1 PRD (24, [0, 5], []) ws (vs ++ [Value.int x]) := by
    refine ⟨nf_inA hl rfl, sgq_5 ?_⟩
    · show n_v (vs ++ [Value.int x]) 0 = n_v (vs ++ [Value.int x]) 5
      first | rfl | simp only [e_0, e_5, q5, q7]
  have nf8 : fc_1 PRD (24, [2, 7], []) ws (vs ++ [Value.int x]) := by
    refine ⟨nf_inA hl rfl, sgq_5 ?_⟩
    · show n_v (vs ++ [Value.int x]) 2 = n_v (vs ++ [Value.int x]) 7
      first | rfl | simp only [e_2, e_7, q5, q7]
  obtain ⟨x0, e0, _, _⟩ := tv_int t9 rfl
  have e1 : v_iv (n_v vs 9) = x0.toInt := by rw [e0]; rfl
  have ho : sy_ofs (vs ++ [Value.int x]) (26, 9, 0, 0) := by
    refine ⟨x, x0, by rw [List.getElem?_append_right (by rw [hl]; decide), hl]; rfl, ?_, ?_, ?_⟩
    · rw [List.getElem?_append_left (by rw [hl]; decide)]; exact n_v_some (by rw [hl]; decide) e0
    · show x0.toInt + 0 ≤ x.toInt; omega
    · show x.toInt ≤ x0.toInt + 0; omega
  exact ⟨(fun _ h => (by cases h)), [Value.int x], ag_one hx, List.forall_mem_cons.mpr ⟨⟨show (20 : Nat) < 100 from by decide, nf0⟩, List.forall_mem_cons.mpr ⟨⟨show (20 : Nat) < 100 from by decide, nf1⟩, List.forall_mem_cons.mpr ⟨⟨show (20 : Nat) < 100 from by decide, nf2⟩, List.forall_mem_cons.mpr ⟨⟨show (23 : Nat) < 100 from by decide, nf3⟩, List.forall_mem_cons.mpr ⟨⟨show (23 : Nat) < 100 from by decide, nf4⟩, List.forall_mem_cons.mpr ⟨⟨show (23 : Nat) < 100 from by decide, nf5⟩, List.forall_mem_cons.mpr ⟨⟨show (20 : Nat) < 100 from by decide, nf6⟩, List.forall_mem_cons.mpr ⟨⟨show (24 : Nat) < 100 from by decide, nf7⟩, List.forall_mem_cons.mpr ⟨⟨show (24 : Nat) < 100 from by decide, nf8⟩, (fun _ h => (by cases h))⟩⟩⟩⟩⟩⟩⟩⟩⟩, List.forall_mem_cons.mpr ⟨ho, (fun _ h => (by cases h))⟩⟩
set_option maxHeartbeats 4000000 in
theorem vc_Mo_of_at_s5003_14_0 (x2 : Int) (x3 : Int) (x7 : Int) (x8 : Int) (x9 : Int) (x13 : Int) (x15 : Int) (x16 : Int) (x17 : Int) (x18 : Int) (x19 : Int) (value_0 : Int) (fault_0 : Int) (kind_0 : Int) (from_0 : Int) (pos_0 : Int) (k2 : 9 ≤ x2 ∧ x2 ≤ 9) (k3 : 0 ≤ x3 ∧ x3 ≤ 2000) (k7 : 9 ≤ x7 ∧ x7 ≤ 9) (k8 : (-2147483648) ≤ x8 ∧ x8 ≤ 0) (k9 : 0 ≤ x9 ∧ x9 ≤ 2000) (k13 : 0 ≤ x13 ∧ x13 ≤ 2000) (k15 : 0 ≤ x15 ∧ x15 ≤ 2000) (k16 : 0 ≤ x16 ∧ x16 ≤ 0) (k17 : 2 ≤ x17 ∧ x17 ≤ 2) (k18 : 2 ≤ x18 ∧ x18 ≤ 2) (k19 : 1 ≤ x19 ∧ x19 ≤ 9) (g0 : x19 = value_0) (f1 : x16 ≤ 0) (g2 : x16 = fault_0) (f3 : x16 = 0) (f4 : x17 = x18) (g5 : x17 = kind_0) (f6 : x16 = 0) (f7 : 1 * x15 + ((-1) * x13 + 0) ≤ 0) (f8 : (-1) * x15 + (1 * x13 + 0) ≤ 0) (f9 : 1 * x3 + ((-1) * x15 + 0) ≤ (-1)) (f10 : (-1) * x9 + ((-1) * x15 + 0) ≤ (-2000)) (f11 : 1 * x3 + ((-1) * x13 + 0) ≤ (-1)) (f12 : (-1) * x9 + ((-1) * x13 + 0) ≤ (-2000)) (f13 : 1 * x8 + ((-1) * x2 + 0) ≤ 0) (f14 : (-1) * x8 + 0 ≤ 0) (f17 : 1 * from_0 + ((-1) * pos_0 + 0) ≤ 0) (f18 : ((kind_0 = 1) → (pos_0 ≤ (from_0 + 8))) ∧ ((kind_0 = 0) ∨ ((from_0 + 1) ≤ pos_0))) (f19 : 1 * x15 + ((-1) * pos_0 + 0) ≤ 0) (f20 : (1 ≤ fault_0) ∨ ((x15 + 1) ≤ pos_0)) (f22 : 1 * x15 + ((-1) * x13 + 0) ≤ 0) (f23 : (-1) * x15 + (1 * x13 + 0) ≤ 0) (f24 : 1 * x3 + ((-1) * x15 + 0) ≤ (-1)) (f25 : (-1) * x9 + ((-1) * x15 + 0) ≤ (-2000)) (f26 : 1 * x3 + ((-1) * x13 + 0) ≤ (-1)) (f27 : (-1) * x9 + ((-1) * x13 + 0) ≤ (-2000)) (f28 : 1 * x8 + ((-1) * x2 + 0) ≤ 0) (f29 : (-1) * x8 + 0 ≤ 0) (f31 : 1 * x3 + ((-1) * x13 + 0) ≤ (-1)) (f32 : (-1) * x9 + ((-1) * x13 + 0) ≤ (-2000)) (f33 : x8 ≤ 0) (f34 : 1 * x8 + ((-1) * x2 + 0) ≤ 0) (f35 : (-1) * x8 + 0 ≤ 0) (f37 : 1 * x8 + ((-1) * x2 + 0) ≤ 0) (f38 : (-1) * x8 + 0 ≤ 0) (kz_0_8 : 0 ≤ fault_0 ∧ fault_0 ≤ 5) (kz_0_11 : 0 ≤ pos_0 ∧ pos_0 ≤ 2000) (kz_0_12 : 0 ≤ kind_0 ∧ kind_0 ≤ 4) (kz_0_14 : (-2147483648) ≤ value_0 ∧ value_0 ≤ 2147483647) (kz_0_15 : 0 ≤ from_0 ∧ from_0 ≤ 2000) : 1 * x19 + ((-1) * x2 + 0) ≤ 0 := by
  first | assumption | (clear f18 f20; omega) | omega | grind
set_option maxHeartbeats 4000000 in
theorem vc_Mo_of_at_s5003_14_1 (x2 : Int) (x3 : Int) (x7 : Int) (x8 : Int) (x9 : Int) (x13 : Int) (x15 : Int) (x16 : Int) (x17 : Int) (x18 : Int) (x19 : Int) (value_0 : Int) (fault_0 : Int) (kind_0 : Int) (from_0 : Int) (pos_0 : Int) (k2 : 9 ≤ x2 ∧ x2 ≤ 9) (k3 : 0 ≤ x3 ∧ x3 ≤ 2000) (k7 : 9 ≤ x7 ∧ x7 ≤ 9) (k8 : (-2147483648) ≤ x8 ∧ x8 ≤ 0) (k9 : 0 ≤ x9 ∧ x9 ≤ 2000) (k13 : 0 ≤ x13 ∧ x13 ≤ 2000) (k15 : 0 ≤ x15 ∧ x15 ≤ 2000) (k16 : 0 ≤ x16 ∧ x16 ≤ 0) (k17 : 2 ≤ x17 ∧ x17 ≤ 2) (k18 : 2 ≤ x18 ∧ x18 ≤ 2) (k19 : 1 ≤ x19 ∧ x19 ≤ 9) (g0 : x19 = value_0) (f1 : x16 ≤ 0) (g2 : x16 = fault_0) (f3 : x16 = 0) (f4 : x17 = x18) (g5 : x17 = kind_0) (f6 : x16 = 0) (f7 : 1 * x15 + ((-1) * x13 + 0) ≤ 0) (f8 : (-1) * x15 + (1 * x13 + 0) ≤ 0) (f9 : 1 * x3 + ((-1) * x15 + 0) ≤ (-1)) (f10 : (-1) * x9 + ((-1) * x15 + 0) ≤ (-2000)) (f11 : 1 * x3 + ((-1) * x13 + 0) ≤ (-1)) (f12 : (-1) * x9 + ((-1) * x13 + 0) ≤ (-2000)) (f13 : 1 * x8 + ((-1) * x2 + 0) ≤ 0) (f14 : (-1) * x8 + 0 ≤ 0) (f17 : 1 * from_0 + ((-1) * pos_0 + 0) ≤ 0) (f18 : ((kind_0 = 1) → (pos_0 ≤ (from_0 + 8))) ∧ ((kind_0 = 0) ∨ ((from_0 + 1) ≤ pos_0))) (f19 : 1 * x15 + ((-1) * pos_0 + 0) ≤ 0) (f20 : (1 ≤ fault_0) ∨ ((x15 + 1) ≤ pos_0)) (f22 : 1 * x15 + ((-1) * x13 + 0) ≤ 0) (f23 : (-1) * x15 + (1 * x13 + 0) ≤ 0) (f24 : 1 * x3 + ((-1) * x15 + 0) ≤ (-1)) (f25 : (-1) * x9 + ((-1) * x15 + 0) ≤ (-2000)) (f26 : 1 * x3 + ((-1) * x13 + 0) ≤ (-1)) (f27 : (-1) * x9 + ((-1) * x13 + 0) ≤ (-2000)) (f28 : 1 * x8 + ((-1) * x2 + 0) ≤ 0) (f29 : (-1) * x8 + 0 ≤ 0) (f31 : 1 * x3 + ((-1) * x13 + 0) ≤ (-1)) (f32 : (-1) * x9 + ((-1) * x13 + 0) ≤ (-2000)) (f33 : x8 ≤ 0) (f34 : 1 * x8 + ((-1) * x2 + 0) ≤ 0) (f35 : (-1) * x8 + 0 ≤ 0) (f37 : 1 * x8 + ((-1) * x2 + 0) ≤ 0) (f38 : (-1) * x8 + 0 ≤ 0) (kz_0_8 : 0 ≤ fault_0 ∧ fault_0 ≤ 5) (kz_0_11 : 0 ≤ pos_0 ∧ pos_0 ≤ 2000) (kz_0_12 : 0 ≤ kind_0 ∧ kind_0 ≤ 4) (kz_0_14 : (-2147483648) ≤ value_0 ∧ value_0 ≤ 2147483647) (kz_0_15 : 0 ≤ from_0 ∧ from_0 ≤ 2000) : (-1) * x19 + 0 ≤ 0 := by
  first | assumption | (clear f18 f20; omega) | omega | grind
def o_Mo_of_at_s5003_14 : or_T := (135, 22, [(0, (2, 0, 0, [165])), (2, (0, 9, 9, [])), (3, (0, 0, 2000, [])), (7, (0, 9, 9, [])), (8, (0, -2147483648, 0, [])), (9, (0, 0, 2000, [])), (13, (0, 0, 2000, [])), (15, (0, 0, 2000, [])), (16, (0, 0, 0, [])), (17, (0, 2, 2, [])), (18, (0, 2, 2, [])), (19, (0, 1, 9, []))], [(9, [19, 5], [14]), (8, [16], [5]), (9, [16, 5], [8]), (8, [16], [0]), (7, [17, 18], [0]), (9, [17, 5], [12]), (8, [16], [0]), (23, [15, 13], [0, 1, -1]), (23, [15, 13], [0, -1, 1]), (23, [3, 15], [-1, 1, -1]), (23, [9, 15], [-2000, -1, -1]), (23, [3, 13], [-1, 1, -1]), (23, [9, 13], [-2000, -1, -1]), (23, [8, 7], [0, 1, -1]), (23, [8], [0, -1]), (24, [0, 5], []), (24, [2, 7], []), (20, [5, 5], [30, 0, 1, 1, 15, -1, 1, 11]), (20, [5], [50, 3, 0, 12, 11, 15, 2, 21, 4, 7, 1, 3, 2, 0, 12, 0, 1, 0, 3, 2, 0, 11, 4, 3, 2, 0, 15, 0, 8, 3, 7, 1, 3, 2, 0, 12, 0, 0, 0, 7, 4, 3, 2, 0, 15, 0, 1, 2, 0, 11]), (20, [15, 5], [30, 0, 1, 0, 0, -1, 1, 11]), (20, [5, 15], [50, 2, 0, 8, 11, 3, 7, 0, 2, 0, 1, 2, 0, 8, 0, 6, 4, 2, 1, 1, 0, 1, 2, 0, 11]), (102, [15], [0, 165008, 165009, 165011, 165012, 165013, 165014, 165015]), (23, [15, 13], [0, 1, -1]), (23, [15, 13], [0, -1, 1]), (23, [3, 15], [-1, 1, -1]), (23, [9, 15], [-2000, -1, -1]), (23, [3, 13], [-1, 1, -1]), (23, [9, 13], [-2000, -1, -1]), (23, [8, 7], [0, 1, -1]), (23, [8], [0, -1]), (102, [13], [0, 165011, 165012, 165013, 165014, 165015]), (23, [3, 13], [-1, 1, -1]), (23, [9, 13], [-2000, -1, -1]), (8, [8], [5]), (23, [8, 7], [0, 1, -1]), (23, [8], [0, -1]), (102, [11], [0]), (23, [8, 7], [0, 1, -1]), (23, [8], [0, -1])], [], [], [(23, [19, 7], [0, 1, -1]), (23, [19], [0, -1])], [], [])
theorem oo_Mo_of_at_s5003_14 {kA : Nat → ClassId} : or_ok PRD kA GG o_Mo_of_at_s5003_14 := by
  refine or_mk fun A ta ws vs hD hth hl => ?_
  intro t0 r0 t2 k2 t3 k3 t7 k7 t8 k8 t9 k9 t13 k13 t15 k15 t16 k16 t17 k17 t18 k18 t19 k19 f0 f1 f2 f3 f4 f5 f6 f7 f8 f9 f10 f11 f12 f13 f14 f15 f16 f17 f18 f19 f20 ta1 w1 le1 s1 f22 f23 f24 f25 f26 f27 f28 f29 ta2 w2 le2 s2 f31 f32 f33 f34 f35 ta3 w3 le3 s3 f37 f38
  replace f0 := shm_116 f0
  replace f1 := shm_142 f1
  replace f2 := shm_143 f2
  replace f3 := shm_210 f3
  replace f4 := shm_37 f4
  replace f5 := shm_103 f5
  replace f6 := shm_210 f6
  replace f7 := shm_7 f7
  replace f8 := shm_22 f8
  replace f9 := shm_211 f9
  replace f10 := shm_1894 f10
  replace f11 := shm_211 f11
  replace f12 := shm_1894 f12
  replace f13 := shm_7 f13
  replace f14 := shm_1013 f14
  replace f15 := shm_5 f15
  replace f16 := shm_5 f16
  replace f17 := shm_1397 f17
  replace f18 := shm_1398 f18
  replace f19 := shm_1395 f19
  replace f20 := shm_1659 f20
  replace f22 := shm_7 f22
  replace f23 := shm_22 f23
  replace f24 := shm_211 f24
  replace f25 := shm_1894 f25
  replace f26 := shm_211 f26
  replace f27 := shm_1894 f27
  replace f28 := shm_7 f28
  replace f29 := shm_1013 f29
  replace f31 := shm_211 f31
  replace f32 := shm_1894 f32
  replace f33 := shm_142 f33
  replace f34 := shm_7 f34
  replace f35 := shm_1013 f35
  replace f37 := shm_7 f37
  replace f38 := shm_1013 f38
  have q5 : n_v vs 5 = n_v vs 0 := f15.symm
  have q7 : n_v vs 7 = n_v vs 2 := f16.symm
  simp only [q5, q7] at f0 f2 f5 f13 f17 f18 f19 f20 f28 f34 f37
  have g0 : v_iv (n_v vs 19) = w_fi ws (n_v vs 0) 14 := congrArg v_iv f0
  have g2 : v_iv (n_v vs 16) = w_fi ws (n_v vs 0) 8 := congrArg v_iv f2
  have g5 : v_iv (n_v vs 17) = w_fi ws (n_v vs 0) 12 := congrArg v_iv f5
  have kz_0_8 := fdq_14 hD hth r0
  have kz_0_11 := fdq_273 hD hth r0
  have kz_0_12 := fdq_186 hD hth r0
  have kz_0_14 := fdq_311 hD hth r0
  have kz_0_15 := fdq_274 hD hth r0
  have nf0 : fc_1 PRD (23, [19, 7], [0, 1, -1]) ws (vs) := by
    refine ⟨nf_in hl rfl, sgq_7 ?_⟩
    · show 1 * v_iv (n_v vs 19) + ((-1) * v_iv (n_v vs 7) + 0) ≤ 0
      rw [q7]
      exact vc_Mo_of_at_s5003_14_0 (v_iv (n_v vs 2)) (v_iv (n_v vs 3)) (v_iv (n_v vs 7)) (v_iv (n_v vs 8)) (v_iv (n_v vs 9)) (v_iv (n_v vs 13)) (v_iv (n_v vs 15)) (v_iv (n_v vs 16)) (v_iv (n_v vs 17)) (v_iv (n_v vs 18)) (v_iv (n_v vs 19)) (w_fi ws (n_v vs 0) 14) (w_fi ws (n_v vs 0) 8) (w_fi ws (n_v vs 0) 12) (w_fi ws (n_v vs 0) 15) (w_fi ws (n_v vs 0) 11) k2 k3 k7 k8 k9 k13 k15 k16 k17 k18 k19 g0 f1 g2 f3 f4 g5 f6 f7 f8 f9 f10 f11 f12 f13 f14 f17 f18 f19 f20 f22 f23 f24 f25 f26 f27 f28 f29 f31 f32 f33 f34 f35 f37 f38 kz_0_8 kz_0_11 kz_0_12 kz_0_14 kz_0_15
  have nf1 : fc_1 PRD (23, [19], [0, -1]) ws (vs) := ⟨nf_in hl rfl, sgq_1013 (vc_Mo_of_at_s5003_14_1 (v_iv (n_v vs 2)) (v_iv (n_v vs 3)) (v_iv (n_v vs 7)) (v_iv (n_v vs 8)) (v_iv (n_v vs 9)) (v_iv (n_v vs 13)) (v_iv (n_v vs 15)) (v_iv (n_v vs 16)) (v_iv (n_v vs 17)) (v_iv (n_v vs 18)) (v_iv (n_v vs 19)) (w_fi ws (n_v vs 0) 14) (w_fi ws (n_v vs 0) 8) (w_fi ws (n_v vs 0) 12) (w_fi ws (n_v vs 0) 15) (w_fi ws (n_v vs 0) 11) k2 k3 k7 k8 k9 k13 k15 k16 k17 k18 k19 g0 f1 g2 f3 f4 g5 f6 f7 f8 f9 f10 f11 f12 f13 f14 f17 f18 f19 f20 f22 f23 f24 f25 f26 f27 f28 f29 f31 f32 f33 f34 f35 f37 f38 kz_0_8 kz_0_11 kz_0_12 kz_0_14 kz_0_15)⟩
  refine ⟨(fun _ h => (by cases h)), [], trivial, ?_, (fun _ h => (by cases h))⟩
  rw [List.append_nil]
  exact List.forall_mem_cons.mpr ⟨⟨show (23 : Nat) < 100 from by decide, nf0⟩, List.forall_mem_cons.mpr ⟨⟨show (23 : Nat) < 100 from by decide, nf1⟩, (fun _ h => (by cases h))⟩⟩
set_option maxHeartbeats 4000000 in
theorem vc_Mo_of_at_s5003_15_0 (x2 : Int) (x3 : Int) (x7 : Int) (x9 : Int) (x13 : Int) (x15 : Int) (x16 : Int) (x17 : Int) (x18 : Int) (fault_0 : Int) (kind_0 : Int) (from_0 : Int) (pos_0 : Int) (gx : Int) (k2 : 9 ≤ x2 ∧ x2 ≤ 9) (k3 : 0 ≤ x3 ∧ x3 ≤ 2000) (k7 : 9 ≤ x7 ∧ x7 ≤ 9) (k9 : 0 ≤ x9 ∧ x9 ≤ 2000) (k13 : 0 ≤ x13 ∧ x13 ≤ 2000) (k15 : 0 ≤ x15 ∧ x15 ≤ 2000) (k16 : 0 ≤ x16 ∧ x16 ≤ 0) (k17 : 2 ≤ x17 ∧ x17 ≤ 2) (k18 : 2 ≤ x18 ∧ x18 ≤ 2) (f0 : x16 ≤ 0) (g1 : x16 = fault_0) (f2 : x16 = 0) (f3 : x17 = x18) (g4 : x17 = kind_0) (f5 : x16 = 0) (f6 : 1 * x15 + ((-1) * x13 + 0) ≤ 0) (f7 : (-1) * x15 + (1 * x13 + 0) ≤ 0) (f8 : 1 * x3 + ((-1) * x15 + 0) ≤ (-1)) (f9 : (-1) * x9 + ((-1) * x15 + 0) ≤ (-2000)) (f10 : 1 * x3 + ((-1) * x13 + 0) ≤ (-1)) (f11 : (-1) * x9 + ((-1) * x13 + 0) ≤ (-2000)) (f14 : 1 * from_0 + ((-1) * pos_0 + 0) ≤ 0) (f15 : ((kind_0 = 1) → (pos_0 ≤ (from_0 + 8))) ∧ ((kind_0 = 0) ∨ ((from_0 + 1) ≤ pos_0))) (f16 : 1 * x15 + ((-1) * pos_0 + 0) ≤ 0) (f17 : (1 ≤ fault_0) ∨ ((x15 + 1) ≤ pos_0)) (f19 : 1 * x15 + ((-1) * x13 + 0) ≤ 0) (f20 : (-1) * x15 + (1 * x13 + 0) ≤ 0) (f21 : 1 * x3 + ((-1) * x15 + 0) ≤ (-1)) (f22 : (-1) * x9 + ((-1) * x15 + 0) ≤ (-2000)) (f23 : 1 * x3 + ((-1) * x13 + 0) ≤ (-1)) (f24 : (-1) * x9 + ((-1) * x13 + 0) ≤ (-2000)) (f26 : 1 * x3 + ((-1) * x13 + 0) ≤ (-1)) (f27 : (-1) * x9 + ((-1) * x13 + 0) ≤ (-2000)) (kz_0_8 : 0 ≤ fault_0 ∧ fault_0 ≤ 5) (kz_0_11 : 0 ≤ pos_0 ∧ pos_0 ≤ 2000) (kz_0_12 : 0 ≤ kind_0 ∧ kind_0 ≤ 4) (kz_0_15 : 0 ≤ from_0 ∧ from_0 ≤ 2000) (ex2 : gx = pos_0) (ex3 : 0 ≤ gx ∧ gx ≤ 2000) : 1 * gx + ((-1) * pos_0 + 0) ≤ 0 := by
  first | assumption | (clear f15 f17; omega) | omega | grind
set_option maxHeartbeats 4000000 in
theorem vc_Mo_of_at_s5003_15_1 (x2 : Int) (x3 : Int) (x7 : Int) (x9 : Int) (x13 : Int) (x15 : Int) (x16 : Int) (x17 : Int) (x18 : Int) (fault_0 : Int) (kind_0 : Int) (from_0 : Int) (pos_0 : Int) (gx : Int) (k2 : 9 ≤ x2 ∧ x2 ≤ 9) (k3 : 0 ≤ x3 ∧ x3 ≤ 2000) (k7 : 9 ≤ x7 ∧ x7 ≤ 9) (k9 : 0 ≤ x9 ∧ x9 ≤ 2000) (k13 : 0 ≤ x13 ∧ x13 ≤ 2000) (k15 : 0 ≤ x15 ∧ x15 ≤ 2000) (k16 : 0 ≤ x16 ∧ x16 ≤ 0) (k17 : 2 ≤ x17 ∧ x17 ≤ 2) (k18 : 2 ≤ x18 ∧ x18 ≤ 2) (f0 : x16 ≤ 0) (g1 : x16 = fault_0) (f2 : x16 = 0) (f3 : x17 = x18) (g4 : x17 = kind_0) (f5 : x16 = 0) (f6 : 1 * x15 + ((-1) * x13 + 0) ≤ 0) (f7 : (-1) * x15 + (1 * x13 + 0) ≤ 0) (f8 : 1 * x3 + ((-1) * x15 + 0) ≤ (-1)) (f9 : (-1) * x9 + ((-1) * x15 + 0) ≤ (-2000)) (f10 : 1 * x3 + ((-1) * x13 + 0) ≤ (-1)) (f11 : (-1) * x9 + ((-1) * x13 + 0) ≤ (-2000)) (f14 : 1 * from_0 + ((-1) * pos_0 + 0) ≤ 0) (f15 : ((kind_0 = 1) → (pos_0 ≤ (from_0 + 8))) ∧ ((kind_0 = 0) ∨ ((from_0 + 1) ≤ pos_0))) (f16 : 1 * x15 + ((-1) * pos_0 + 0) ≤ 0) (f17 : (1 ≤ fault_0) ∨ ((x15 + 1) ≤ pos_0)) (f19 : 1 * x15 + ((-1) * x13 + 0) ≤ 0) (f20 : (-1) * x15 + (1 * x13 + 0) ≤ 0) (f21 : 1 * x3 + ((-1) * x15 + 0) ≤ (-1)) (f22 : (-1) * x9 + ((-1) * x15 + 0) ≤ (-2000)) (f23 : 1 * x3 + ((-1) * x13 + 0) ≤ (-1)) (f24 : (-1) * x9 + ((-1) * x13 + 0) ≤ (-2000)) (f26 : 1 * x3 + ((-1) * x13 + 0) ≤ (-1)) (f27 : (-1) * x9 + ((-1) * x13 + 0) ≤ (-2000)) (kz_0_8 : 0 ≤ fault_0 ∧ fault_0 ≤ 5) (kz_0_11 : 0 ≤ pos_0 ∧ pos_0 ≤ 2000) (kz_0_12 : 0 ≤ kind_0 ∧ kind_0 ≤ 4) (kz_0_15 : 0 ≤ from_0 ∧ from_0 ≤ 2000) (ex2 : gx = pos_0) (ex3 : 0 ≤ gx ∧ gx ≤ 2000) : 1 * x3 + ((-1) * gx + 0) ≤ (-1) := by
  first | assumption | (clear f15 f17; omega) | omega | grind
set_option maxHeartbeats 4000000 in
theorem vc_Mo_of_at_s5003_15_2 (x2 : Int) (x3 : Int) (x7 : Int) (x9 : Int) (x13 : Int) (x15 : Int) (x16 : Int) (x17 : Int) (x18 : Int) (fault_0 : Int) (kind_0 : Int) (from_0 : Int) (pos_0 : Int) (gx : Int) (k2 : 9 ≤ x2 ∧ x2 ≤ 9) (k3 : 0 ≤ x3 ∧ x3 ≤ 2000) (k7 : 9 ≤ x7 ∧ x7 ≤ 9) (k9 : 0 ≤ x9 ∧ x9 ≤ 2000) (k13 : 0 ≤ x13 ∧ x13 ≤ 2000) (k15 : 0 ≤ x15 ∧ x15 ≤ 2000) (k16 : 0 ≤ x16 ∧ x16 ≤ 0) (k17 : 2 ≤ x17 ∧ x17 ≤ 2) (k18 : 2 ≤ x18 ∧ x18 ≤ 2) (f0 : x16 ≤ 0) (g1 : x16 = fault_0) (f2 : x16 = 0) (f3 : x17 = x18) (g4 : x17 = kind_0) (f5 : x16 = 0) (f6 : 1 * x15 + ((-1) * x13 + 0) ≤ 0) (f7 : (-1) * x15 + (1 * x13 + 0) ≤ 0) (f8 : 1 * x3 + ((-1) * x15 + 0) ≤ (-1)) (f9 : (-1) * x9 + ((-1) * x15 + 0) ≤ (-2000)) (f10 : 1 * x3 + ((-1) * x13 + 0) ≤ (-1)) (f11 : (-1) * x9 + ((-1) * x13 + 0) ≤ (-2000)) (f14 : 1 * from_0 + ((-1) * pos_0 + 0) ≤ 0) (f15 : ((kind_0 = 1) → (pos_0 ≤ (from_0 + 8))) ∧ ((kind_0 = 0) ∨ ((from_0 + 1) ≤ pos_0))) (f16 : 1 * x15 + ((-1) * pos_0 + 0) ≤ 0) (f17 : (1 ≤ fault_0) ∨ ((x15 + 1) ≤ pos_0)) (f19 : 1 * x15 + ((-1) * x13 + 0) ≤ 0) (f20 : (-1) * x15 + (1 * x13 + 0) ≤ 0) (f21 : 1 * x3 + ((-1) * x15 + 0) ≤ (-1)) (f22 : (-1) * x9 + ((-1) * x15 + 0) ≤ (-2000)) (f23 : 1 * x3 + ((-1) * x13 + 0) ≤ (-1)) (f24 : (-1) * x9 + ((-1) * x13 + 0) ≤ (-2000)) (f26 : 1 * x3 + ((-1) * x13 + 0) ≤ (-1)) (f27 : (-1) * x9 + ((-1) * x13 + 0) ≤ (-2000)) (kz_0_8 : 0 ≤ fault_0 ∧ fault_0 ≤ 5) (kz_0_11 : 0 ≤ pos_0 ∧ pos_0 ≤ 2000) (kz_0_12 : 0 ≤ kind_0 ∧ kind_0 ≤ 4) (kz_0_15 : 0 ≤ from_0 ∧ from_0 ≤ 2000) (ex2 : gx = pos_0) (ex3 : 0 ≤ gx ∧ gx ≤ 2000) : (-1) * x9 + ((-1) * gx + 0) ≤ (-2001) := by
  first | assumption | (clear f15 f17; omega) | omega | grind
def o_Mo_of_at_s5003_15 : or_T := (136, 22, [(0, (2, 0, 0, [165])), (2, (0, 9, 9, [])), (3, (0, 0, 2000, [])), (7, (0, 9, 9, [])), (9, (0, 0, 2000, [])), (13, (0, 0, 2000, [])), (15, (0, 0, 2000, [])), (16, (0, 0, 0, [])), (17, (0, 2, 2, [])), (18, (0, 2, 2, []))], [(8, [16], [5]), (9, [16, 5], [8]), (8, [16], [0]), (7, [17, 18], [0]), (9, [17, 5], [12]), (8, [16], [0]), (23, [15, 13], [0, 1, -1]), (23, [15, 13], [0, -1, 1]), (23, [3, 15], [-1, 1, -1]), (23, [9, 15], [-2000, -1, -1]), (23, [3, 13], [-1, 1, -1]), (23, [9, 13], [-2000, -1, -1]), (24, [0, 5], []), (20, [5, 5], [30, 0, 1, 1, 15, -1, 1, 11]), (20, [5], [50, 3, 0, 12, 11, 15, 2, 21, 4, 7, 1, 3, 2, 0, 12, 0, 1, 0, 3, 2, 0, 11, 4, 3, 2, 0, 15, 0, 8, 3, 7, 1, 3, 2, 0, 12, 0, 0, 0, 7, 4, 3, 2, 0, 15, 0, 1, 2, 0, 11]), (20, [15, 5], [30, 0, 1, 0, 0, -1, 1, 11]), (20, [5, 15], [50, 2, 0, 8, 11, 3, 7, 0, 2, 0, 1, 2, 0, 8, 0, 6, 4, 2, 1, 1, 0, 1, 2, 0, 11]), (102, [15], [0, 165008, 165009, 165011, 165012, 165013, 165014, 165015]), (23, [15, 13], [0, 1, -1]), (23, [15, 13], [0, -1, 1]), (23, [3, 15], [-1, 1, -1]), (23, [9, 15], [-2000, -1, -1]), (23, [3, 13], [-1, 1, -1]), (23, [9, 13], [-2000, -1, -1]), (102, [13], [0, 165011, 165012, 165013, 165014, 165015]), (23, [3, 13], [-1, 1, -1]), (23, [9, 13], [-2000, -1, -1])], [], [(0, 0, 2000, [])], [(20, [22, 5], [30, 0, 1, 0, 0, -1, 1, 11]), (23, [3, 22], [-1, 1, -1]), (23, [9, 22], [-2001, -1, -1])], [], [])
theorem oo_Mo_of_at_s5003_15 {kA : Nat → ClassId} : or_ok PRD kA GG o_Mo_of_at_s5003_15 := by
  refine or_mk fun A ta ws vs hD hth hl => ?_
  intro t0 r0 t2 k2 t3 k3 t7 k7 t9 k9 t13 k13 t15 k15 t16 k16 t17 k17 t18 k18 f0 f1 f2 f3 f4 f5 f6 f7 f8 f9 f10 f11 f12 f14 f15 f16 f17 ta1 w1 le1 s1 f19 f20 f21 f22 f23 f24 ta2 w2 le2 s2 f26 f27
  replace f0 := shm_142 f0
  replace f1 := shm_143 f1
  replace f2 := shm_210 f2
  replace f3 := shm_37 f3
  replace f4 := shm_103 f4
  replace f5 := shm_210 f5
  replace f6 := shm_7 f6
  replace f7 := shm_22 f7
  replace f8 := shm_211 f8
  replace f9 := shm_1894 f9
  replace f10 := shm_211 f10
  replace f11 := shm_1894 f11
  replace f12 := shm_5 f12
  replace f14 := shm_1397 f14
  replace f15 := shm_1398 f15
  replace f16 := shm_1395 f16
  replace f17 := shm_1659 f17
  replace f19 := shm_7 f19
  replace f20 := shm_22 f20
  replace f21 := shm_211 f21
  replace f22 := shm_1894 f22
  replace f23 := shm_211 f23
  replace f24 := shm_1894 f24
  replace f26 := shm_211 f26
  replace f27 := shm_1894 f27
  have q5 : n_v vs 5 = n_v vs 0 := f12.symm
  simp only [q5] at f1 f4 f14 f15 f16 f17
  have g1 : v_iv (n_v vs 16) = w_fi ws (n_v vs 0) 8 := congrArg v_iv f1
  have g4 : v_iv (n_v vs 17) = w_fi ws (n_v vs 0) 12 := congrArg v_iv f4
  have kz_0_8 := fdq_14 hD hth r0
  have kz_0_11 := fdq_273 hD hth r0
  have kz_0_12 := fdq_186 hD hth r0
  have kz_0_15 := fdq_274 hD hth r0
  obtain ⟨x, ex, hx⟩ := iv_ex (ta := ta) (lo := 0) (hi := 2000) (z := w_fi ws (n_v vs 0) 11) (by omega) (by omega) (by omega) (by omega)
  have ex2 : v_iv (Value.int x) = w_fi ws (n_v vs 0) 11 := ex
  have ex3 : 0 ≤ v_iv (Value.int x) ∧ v_iv (Value.int x) ≤ 2000 := tv_rng hx
  have e_3 : n_v (vs ++ [Value.int x]) 3 = n_v vs 3 := n_v_old (by rw [hl]; decide)
  have e_5 : n_v (vs ++ [Value.int x]) 5 = n_v vs 5 := n_v_old (by rw [hl]; decide)
  have e_9 : n_v (vs ++ [Value.int x]) 9 = n_v vs 9 := n_v_old (by rw [hl]; decide)
  have e_22 : n_v (vs ++ [Value.int x]) 22 = Value.int x := n_v_new hl
  have nf0 : fc_1 PRD (20, [22, 5], [30, 0, 1, 0, 0, -1, 1, 11]) ws (vs ++ [Value.int x]) := by
    refine ⟨nf_inA hl rfl, sgq_1395 ?_⟩
    · show 1 * v_iv (n_v (vs ++ [Value.int x]) 22) + ((-1) * w_fi ws (n_v (vs ++ [Value.int x]) 5) 11 + 0) ≤ 0
      simp only [e_5, e_22, q5]
      exact vc_Mo_of_at_s5003_15_0 (v_iv (n_v vs 2)) (v_iv (n_v vs 3)) (v_iv (n_v vs 7)) (v_iv (n_v vs 9)) (v_iv (n_v vs 13)) (v_iv (n_v vs 15)) (v_iv (n_v vs 16)) (v_iv (n_v vs 17)) (v_iv (n_v vs 18)) (w_fi ws (n_v vs 0) 8) (w_fi ws (n_v vs 0) 12) (w_fi ws (n_v vs 0) 15) (w_fi ws (n_v vs 0) 11) (v_iv (Value.int x)) k2 k3 k7 k9 k13 k15 k16 k17 k18 f0 g1 f2 f3 g4 f5 f6 f7 f8 f9 f10 f11 f14 f15 f16 f17 f19 f20 f21 f22 f23 f24 f26 f27 kz_0_8 kz_0_11 kz_0_12 kz_0_15 ex2 ex3
  have nf1 : fc_1 PRD (23, [3, 22], [-1, 1, -1]) ws (vs ++ [Value.int x]) := by
    refine ⟨nf_inA hl rfl, sgq_211 ?_⟩
    · show 1 * v_iv (n_v (vs ++ [Value.int x]) 3) + ((-1) * v_iv (n_v (vs ++ [Value.int x]) 22) + 0) ≤ (-1)
      simp only [e_3, e_22]
      exact vc_Mo_of_at_s5003_15_1 (v_iv (n_v vs 2)) (v_iv (n_v vs 3)) (v_iv (n_v vs 7)) (v_iv (n_v vs 9)) (v_iv (n_v vs 13)) (v_iv (n_v vs 15)) (v_iv (n_v vs 16)) (v_iv (n_v vs 17)) (v_iv (n_v vs 18)) (w_fi ws (n_v vs 0) 8) (w_fi ws (n_v vs 0) 12) (w_fi ws (n_v vs 0) 15) (w_fi ws (n_v vs 0) 11) (v_iv (Value.int x)) k2 k3 k7 k9 k13 k15 k16 k17 k18 f0 g1 f2 f3 g4 f5 f6 f7 f8 f9 f10 f11 f14 f15 f16 f17 f19 f20 f21 f22 f23 f24 f26 f27 kz_0_8 kz_0_11 kz_0_12 kz_0_15 ex2 ex3
  have nf2 : fc_1 PRD (23, [9, 22], [-2001, -1, -1]) ws (vs ++ [Value.int x]) := by
    refine ⟨nf_inA hl rfl, sgq_1895 ?_⟩
    · show (-1) * v_iv (n_v (vs ++ [Value.int x]) 9) + ((-1) * v_iv (n_v (vs ++ [Value.int x]) 22) + 0) ≤ (-2001)
      simp only [e_9, e_22]
      exact vc_Mo_of_at_s5003_15_2 (v_iv (n_v vs 2)) (v_iv (n_v vs 3)) (v_iv (n_v vs 7)) (v_iv (n_v vs 9)) (v_iv (n_v vs 13)) (v_iv (n_v vs 15)) (v_iv (n_v vs 16)) (v_iv (n_v vs 17)) (v_iv (n_v vs 18)) (w_fi ws (n_v vs 0) 8) (w_fi ws (n_v vs 0) 12) (w_fi ws (n_v vs 0) 15) (w_fi ws (n_v vs 0) 11) (v_iv (Value.int x)) k2 k3 k7 k9 k13 k15 k16 k17 k18 f0 g1 f2 f3 g4 f5 f6 f7 f8 f9 f10 f11 f14 f15 f16 f17 f19 f20 f21 f22 f23 f24 f26 f27 kz_0_8 kz_0_11 kz_0_12 kz_0_15 ex2 ex3
  exact ⟨(fun _ h => (by cases h)), [Value.int x], ag_one hx, List.forall_mem_cons.mpr ⟨⟨show (20 : Nat) < 100 from by decide, nf0⟩, List.forall_mem_cons.mpr ⟨⟨show (23 : Nat) < 100 from by decide, nf1⟩, List.forall_mem_cons.mpr ⟨⟨show (23 : Nat) < 100 from by decide, nf2⟩, (fun _ h => (by cases h))⟩⟩⟩, (fun _ h => (by cases h))⟩
set_option maxHeartbeats 4000000 in
theorem vc_Mo_of_at_s5003_16_0 (x2 : Int) (x3 : Int) (x4 : Int) (x7 : Int) (x8 : Int) (x9 : Int) (x13 : Int) (x15 : Int) (x19 : Int) (x22 : Int) (from_0 : Int) (pos_0 : Int) (kind_0 : Int) (gx : Int) (k2 : 9 ≤ x2 ∧ x2 ≤ 9) (k3 : 0 ≤ x3 ∧ x3 ≤ 2000) (k4 : (-1) ≤ x4 ∧ x4 ≤ 48) (k7 : 9 ≤ x7 ∧ x7 ≤ 9) (k8 : (-2147483648) ≤ x8 ∧ x8 ≤ 0) (k9 : 0 ≤ x9 ∧ x9 ≤ 2000) (k13 : 0 ≤ x13 ∧ x13 ≤ 2000) (k15 : 0 ≤ x15 ∧ x15 ≤ 2000) (k19 : 1 ≤ x19 ∧ x19 ≤ 9) (k22 : 0 ≤ x22 ∧ x22 ≤ 2000) (f0 : 1 * x3 + ((-1) * x22 + 0) ≤ (-1)) (f1 : (-1) * x9 + ((-1) * x22 + 0) ≤ (-2001)) (f2 : 1 * x19 + ((-1) * x2 + 0) ≤ 0) (f3 : (-1) * x19 + 0 ≤ 0) (f4 : 1 * x15 + ((-1) * x13 + 0) ≤ 0) (f5 : (-1) * x15 + (1 * x13 + 0) ≤ 0) (f6 : 1 * x3 + ((-1) * x15 + 0) ≤ (-1)) (f7 : (-1) * x9 + ((-1) * x15 + 0) ≤ (-2000)) (f8 : 1 * x3 + ((-1) * x13 + 0) ≤ (-1)) (f9 : (-1) * x9 + ((-1) * x13 + 0) ≤ (-2000)) (f10 : 1 * x8 + ((-1) * x2 + 0) ≤ 0) (f11 : (-1) * x8 + 0 ≤ 0) (f12 : (-1) * x4 + 0 ≤ 0) (f15 : 1 * from_0 + ((-1) * pos_0 + 0) ≤ 0) (f16 : ((kind_0 = 1) → (pos_0 ≤ (from_0 + 8))) ∧ ((kind_0 = 0) ∨ ((from_0 + 1) ≤ pos_0))) (f17 : 1 * x22 + ((-1) * from_0 + 0) ≤ 0) (f19 : 1 * x3 + ((-1) * x22 + 0) ≤ (-1)) (f20 : (-1) * x9 + ((-1) * x22 + 0) ≤ (-2001)) (f21 : 1 * x19 + ((-1) * x2 + 0) ≤ 0) (f22 : (-1) * x19 + 0 ≤ 0) (f23 : 1 * x15 + ((-1) * x13 + 0) ≤ 0) (f24 : (-1) * x15 + (1 * x13 + 0) ≤ 0) (f25 : 1 * x3 + ((-1) * x15 + 0) ≤ (-1)) (f26 : (-1) * x9 + ((-1) * x15 + 0) ≤ (-2000)) (f27 : 1 * x3 + ((-1) * x13 + 0) ≤ (-1)) (f28 : (-1) * x9 + ((-1) * x13 + 0) ≤ (-2000)) (f29 : 1 * x8 + ((-1) * x2 + 0) ≤ 0) (f30 : (-1) * x8 + 0 ≤ 0) (f31 : (-1) * x4 + 0 ≤ 0) (f33 : 1 * x15 + ((-1) * x13 + 0) ≤ 0) (f34 : (-1) * x15 + (1 * x13 + 0) ≤ 0) (f35 : 1 * x3 + ((-1) * x15 + 0) ≤ (-1)) (f36 : (-1) * x9 + ((-1) * x15 + 0) ≤ (-2000)) (f37 : 1 * x3 + ((-1) * x13 + 0) ≤ (-1)) (f38 : (-1) * x9 + ((-1) * x13 + 0) ≤ (-2000)) (f39 : 1 * x8 + ((-1) * x2 + 0) ≤ 0) (f40 : (-1) * x8 + 0 ≤ 0) (f41 : (-1) * x4 + 0 ≤ 0) (f43 : 1 * x3 + ((-1) * x13 + 0) ≤ (-1)) (f44 : (-1) * x9 + ((-1) * x13 + 0) ≤ (-2000)) (f45 : x8 ≤ 0) (f46 : 1 * x8 + ((-1) * x2 + 0) ≤ 0) (f47 : (-1) * x8 + 0 ≤ 0) (f48 : (-1) * x4 + 0 ≤ 0) (f50 : 1 * x8 + ((-1) * x2 + 0) ≤ 0) (f51 : (-1) * x8 + 0 ≤ 0) (f52 : (-1) * x4 + 0 ≤ 0) (kz_0_11 : 0 ≤ pos_0 ∧ pos_0 ≤ 2000) (kz_0_12 : 0 ≤ kind_0 ∧ kind_0 ≤ 4) (kz_0_15 : 0 ≤ from_0 ∧ from_0 ≤ 2000) (ex2 : gx = 0 + (1 * x9 + 0)) (ex3 : 0 ≤ gx ∧ gx ≤ 2000) : 1 * from_0 + ((-1) * pos_0 + 0) ≤ 0 := by
  first | assumption | (clear f16; omega) | omega | grind
set_option maxHeartbeats 4000000 in
theorem vc_Mo_of_at_s5003_16_1 (x2 : Int) (x3 : Int) (x4 : Int) (x7 : Int) (x8 : Int) (x9 : Int) (x13 : Int) (x15 : Int) (x19 : Int) (x22 : Int) (from_0 : Int) (pos_0 : Int) (kind_0 : Int) (gx : Int) (k2 : 9 ≤ x2 ∧ x2 ≤ 9) (k3 : 0 ≤ x3 ∧ x3 ≤ 2000) (k4 : (-1) ≤ x4 ∧ x4 ≤ 48) (k7 : 9 ≤ x7 ∧ x7 ≤ 9) (k8 : (-2147483648) ≤ x8 ∧ x8 ≤ 0) (k9 : 0 ≤ x9 ∧ x9 ≤ 2000) (k13 : 0 ≤ x13 ∧ x13 ≤ 2000) (k15 : 0 ≤ x15 ∧ x15 ≤ 2000) (k19 : 1 ≤ x19 ∧ x19 ≤ 9) (k22 : 0 ≤ x22 ∧ x22 ≤ 2000) (f0 : 1 * x3 + ((-1) * x22 + 0) ≤ (-1)) (f1 : (-1) * x9 + ((-1) * x22 + 0) ≤ (-2001)) (f2 : 1 * x19 + ((-1) * x2 + 0) ≤ 0) (f3 : (-1) * x19 + 0 ≤ 0) (f4 : 1 * x15 + ((-1) * x13 + 0) ≤ 0) (f5 : (-1) * x15 + (1 * x13 + 0) ≤ 0) (f6 : 1 * x3 + ((-1) * x15 + 0) ≤ (-1)) (f7 : (-1) * x9 + ((-1) * x15 + 0) ≤ (-2000)) (f8 : 1 * x3 + ((-1) * x13 + 0) ≤ (-1)) (f9 : (-1) * x9 + ((-1) * x13 + 0) ≤ (-2000)) (f10 : 1 * x8 + ((-1) * x2 + 0) ≤ 0) (f11 : (-1) * x8 + 0 ≤ 0) (f12 : (-1) * x4 + 0 ≤ 0) (f15 : 1 * from_0 + ((-1) * pos_0 + 0) ≤ 0) (f16 : ((kind_0 = 1) → (pos_0 ≤ (from_0 + 8))) ∧ ((kind_0 = 0) ∨ ((from_0 + 1) ≤ pos_0))) (f17 : 1 * x22 + ((-1) * from_0 + 0) ≤ 0) (f19 : 1 * x3 + ((-1) * x22 + 0) ≤ (-1)) (f20 : (-1) * x9 + ((-1) * x22 + 0) ≤ (-2001)) (f21 : 1 * x19 + ((-1) * x2 + 0) ≤ 0) (f22 : (-1) * x19 + 0 ≤ 0) (f23 : 1 * x15 + ((-1) * x13 + 0) ≤ 0) (f24 : (-1) * x15 + (1 * x13 + 0) ≤ 0) (f25 : 1 * x3 + ((-1) * x15 + 0) ≤ (-1)) (f26 : (-1) * x9 + ((-1) * x15 + 0) ≤ (-2000)) (f27 : 1 * x3 + ((-1) * x13 + 0) ≤ (-1)) (f28 : (-1) * x9 + ((-1) * x13 + 0) ≤ (-2000)) (f29 : 1 * x8 + ((-1) * x2 + 0) ≤ 0) (f30 : (-1) * x8 + 0 ≤ 0) (f31 : (-1) * x4 + 0 ≤ 0) (f33 : 1 * x15 + ((-1) * x13 + 0) ≤ 0) (f34 : (-1) * x15 + (1 * x13 + 0) ≤ 0) (f35 : 1 * x3 + ((-1) * x15 + 0) ≤ (-1)) (f36 : (-1) * x9 + ((-1) * x15 + 0) ≤ (-2000)) (f37 : 1 * x3 + ((-1) * x13 + 0) ≤ (-1)) (f38 : (-1) * x9 + ((-1) * x13 + 0) ≤ (-2000)) (f39 : 1 * x8 + ((-1) * x2 + 0) ≤ 0) (f40 : (-1) * x8 + 0 ≤ 0) (f41 : (-1) * x4 + 0 ≤ 0) (f43 : 1 * x3 + ((-1) * x13 + 0) ≤ (-1)) (f44 : (-1) * x9 + ((-1) * x13 + 0) ≤ (-2000)) (f45 : x8 ≤ 0) (f46 : 1 * x8 + ((-1) * x2 + 0) ≤ 0) (f47 : (-1) * x8 + 0 ≤ 0) (f48 : (-1) * x4 + 0 ≤ 0) (f50 : 1 * x8 + ((-1) * x2 + 0) ≤ 0) (f51 : (-1) * x8 + 0 ≤ 0) (f52 : (-1) * x4 + 0 ≤ 0) (kz_0_11 : 0 ≤ pos_0 ∧ pos_0 ≤ 2000) (kz_0_12 : 0 ≤ kind_0 ∧ kind_0 ≤ 4) (kz_0_15 : 0 ≤ from_0 ∧ from_0 ≤ 2000) (ex2 : gx = 0 + (1 * x9 + 0)) (ex3 : 0 ≤ gx ∧ gx ≤ 2000) : ((kind_0 = 1) → (pos_0 ≤ (from_0 + 8))) ∧ ((kind_0 = 0) ∨ ((from_0 + 1) ≤ pos_0)) := by
  first | assumption | (clear f16; omega) | omega | grind
set_option maxHeartbeats 4000000 in
theorem vc_Mo_of_at_s5003_16_2 (x2 : Int) (x3 : Int) (x4 : Int) (x7 : Int) (x8 : Int) (x9 : Int) (x13 : Int) (x15 : Int) (x19 : Int) (x22 : Int) (from_0 : Int) (pos_0 : Int) (kind_0 : Int) (gx : Int) (k2 : 9 ≤ x2 ∧ x2 ≤ 9) (k3 : 0 ≤ x3 ∧ x3 ≤ 2000) (k4 : (-1) ≤ x4 ∧ x4 ≤ 48) (k7 : 9 ≤ x7 ∧ x7 ≤ 9) (k8 : (-2147483648) ≤ x8 ∧ x8 ≤ 0) (k9 : 0 ≤ x9 ∧ x9 ≤ 2000) (k13 : 0 ≤ x13 ∧ x13 ≤ 2000) (k15 : 0 ≤ x15 ∧ x15 ≤ 2000) (k19 : 1 ≤ x19 ∧ x19 ≤ 9) (k22 : 0 ≤ x22 ∧ x22 ≤ 2000) (f0 : 1 * x3 + ((-1) * x22 + 0) ≤ (-1)) (f1 : (-1) * x9 + ((-1) * x22 + 0) ≤ (-2001)) (f2 : 1 * x19 + ((-1) * x2 + 0) ≤ 0) (f3 : (-1) * x19 + 0 ≤ 0) (f4 : 1 * x15 + ((-1) * x13 + 0) ≤ 0) (f5 : (-1) * x15 + (1 * x13 + 0) ≤ 0) (f6 : 1 * x3 + ((-1) * x15 + 0) ≤ (-1)) (f7 : (-1) * x9 + ((-1) * x15 + 0) ≤ (-2000)) (f8 : 1 * x3 + ((-1) * x13 + 0) ≤ (-1)) (f9 : (-1) * x9 + ((-1) * x13 + 0) ≤ (-2000)) (f10 : 1 * x8 + ((-1) * x2 + 0) ≤ 0) (f11 : (-1) * x8 + 0 ≤ 0) (f12 : (-1) * x4 + 0 ≤ 0) (f15 : 1 * from_0 + ((-1) * pos_0 + 0) ≤ 0) (f16 : ((kind_0 = 1) → (pos_0 ≤ (from_0 + 8))) ∧ ((kind_0 = 0) ∨ ((from_0 + 1) ≤ pos_0))) (f17 : 1 * x22 + ((-1) * from_0 + 0) ≤ 0) (f19 : 1 * x3 + ((-1) * x22 + 0) ≤ (-1)) (f20 : (-1) * x9 + ((-1) * x22 + 0) ≤ (-2001)) (f21 : 1 * x19 + ((-1) * x2 + 0) ≤ 0) (f22 : (-1) * x19 + 0 ≤ 0) (f23 : 1 * x15 + ((-1) * x13 + 0) ≤ 0) (f24 : (-1) * x15 + (1 * x13 + 0) ≤ 0) (f25 : 1 * x3 + ((-1) * x15 + 0) ≤ (-1)) (f26 : (-1) * x9 + ((-1) * x15 + 0) ≤ (-2000)) (f27 : 1 * x3 + ((-1) * x13 + 0) ≤ (-1)) (f28 : (-1) * x9 + ((-1) * x13 + 0) ≤ (-2000)) (f29 : 1 * x8 + ((-1) * x2 + 0) ≤ 0) (f30 : (-1) * x8 + 0 ≤ 0) (f31 : (-1) * x4 + 0 ≤ 0) (f33 : 1 * x15 + ((-1) * x13 + 0) ≤ 0) (f34 : (-1) * x15 + (1 * x13 + 0) ≤ 0) (f35 : 1 * x3 + ((-1) * x15 + 0) ≤ (-1)) (f36 : (-1) * x9 + ((-1) * x15 + 0) ≤ (-2000)) (f37 : 1 * x3 + ((-1) * x13 + 0) ≤ (-1)) (f38 : (-1) * x9 + ((-1) * x13 + 0) ≤ (-2000)) (f39 : 1 * x8 + ((-1) * x2 + 0) ≤ 0) (f40 : (-1) * x8 + 0 ≤ 0) (f41 : (-1) * x4 + 0 ≤ 0) (f43 : 1 * x3 + ((-1) * x13 + 0) ≤ (-1)) (f44 : (-1) * x9 + ((-1) * x13 + 0) ≤ (-2000)) (f45 : x8 ≤ 0) (f46 : 1 * x8 + ((-1) * x2 + 0) ≤ 0) (f47 : (-1) * x8 + 0 ≤ 0) (f48 : (-1) * x4 + 0 ≤ 0) (f50 : 1 * x8 + ((-1) * x2 + 0) ≤ 0) (f51 : (-1) * x8 + 0 ≤ 0) (f52 : (-1) * x4 + 0 ≤ 0) (kz_0_11 : 0 ≤ pos_0 ∧ pos_0 ≤ 2000) (kz_0_12 : 0 ≤ kind_0 ∧ kind_0 ≤ 4) (kz_0_15 : 0 ≤ from_0 ∧ from_0 ≤ 2000) (ex2 : gx = 0 + (1 * x9 + 0)) (ex3 : 0 ≤ gx ∧ gx ≤ 2000) : 1 * x3 + ((-1) * pos_0 + 0) ≤ (-1) := by
  first | assumption | (clear f16; omega) | omega | grind
set_option maxHeartbeats 4000000 in
theorem vc_Mo_of_at_s5003_16_3 (x2 : Int) (x3 : Int) (x4 : Int) (x7 : Int) (x8 : Int) (x9 : Int) (x13 : Int) (x15 : Int) (x19 : Int) (x22 : Int) (from_0 : Int) (pos_0 : Int) (kind_0 : Int) (gx : Int) (k2 : 9 ≤ x2 ∧ x2 ≤ 9) (k3 : 0 ≤ x3 ∧ x3 ≤ 2000) (k4 : (-1) ≤ x4 ∧ x4 ≤ 48) (k7 : 9 ≤ x7 ∧ x7 ≤ 9) (k8 : (-2147483648) ≤ x8 ∧ x8 ≤ 0) (k9 : 0 ≤ x9 ∧ x9 ≤ 2000) (k13 : 0 ≤ x13 ∧ x13 ≤ 2000) (k15 : 0 ≤ x15 ∧ x15 ≤ 2000) (k19 : 1 ≤ x19 ∧ x19 ≤ 9) (k22 : 0 ≤ x22 ∧ x22 ≤ 2000) (f0 : 1 * x3 + ((-1) * x22 + 0) ≤ (-1)) (f1 : (-1) * x9 + ((-1) * x22 + 0) ≤ (-2001)) (f2 : 1 * x19 + ((-1) * x2 + 0) ≤ 0) (f3 : (-1) * x19 + 0 ≤ 0) (f4 : 1 * x15 + ((-1) * x13 + 0) ≤ 0) (f5 : (-1) * x15 + (1 * x13 + 0) ≤ 0) (f6 : 1 * x3 + ((-1) * x15 + 0) ≤ (-1)) (f7 : (-1) * x9 + ((-1) * x15 + 0) ≤ (-2000)) (f8 : 1 * x3 + ((-1) * x13 + 0) ≤ (-1)) (f9 : (-1) * x9 + ((-1) * x13 + 0) ≤ (-2000)) (f10 : 1 * x8 + ((-1) * x2 + 0) ≤ 0) (f11 : (-1) * x8 + 0 ≤ 0) (f12 : (-1) * x4 + 0 ≤ 0) (f15 : 1 * from_0 + ((-1) * pos_0 + 0) ≤ 0) (f16 : ((kind_0 = 1) → (pos_0 ≤ (from_0 + 8))) ∧ ((kind_0 = 0) ∨ ((from_0 + 1) ≤ pos_0))) (f17 : 1 * x22 + ((-1) * from_0 + 0) ≤ 0) (f19 : 1 * x3 + ((-1) * x22 + 0) ≤ (-1)) (f20 : (-1) * x9 + ((-1) * x22 + 0) ≤ (-2001)) (f21 : 1 * x19 + ((-1) * x2 + 0) ≤ 0) (f22 : (-1) * x19 + 0 ≤ 0) (f23 : 1 * x15 + ((-1) * x13 + 0) ≤ 0) (f24 : (-1) * x15 + (1 * x13 + 0) ≤ 0) (f25 : 1 * x3 + ((-1) * x15 + 0) ≤ (-1)) (f26 : (-1) * x9 + ((-1) * x15 + 0) ≤ (-2000)) (f27 : 1 * x3 + ((-1) * x13 + 0) ≤ (-1)) (f28 : (-1) * x9 + ((-1) * x13 + 0) ≤ (-2000)) (f29 : 1 * x8 + ((-1) * x2 + 0) ≤ 0) (f30 : (-1) * x8 + 0 ≤ 0) (f31 : (-1) * x4 + 0 ≤ 0) (f33 : 1 * x15 + ((-1) * x13 + 0) ≤ 0) (f34 : (-1) * x15 + (1 * x13 + 0) ≤ 0) (f35 : 1 * x3 + ((-1) * x15 + 0) ≤ (-1)) (f36 : (-1) * x9 + ((-1) * x15 + 0) ≤ (-2000)) (f37 : 1 * x3 + ((-1) * x13 + 0) ≤ (-1)) (f38 : (-1) * x9 + ((-1) * x13 + 0) ≤ (-2000)) (f39 : 1 * x8 + ((-1) * x2 + 0) ≤ 0) (f40 : (-1) * x8 + 0 ≤ 0) (f41 : (-1) * x4 + 0 ≤ 0) (f43 : 1 * x3 + ((-1) * x13 + 0) ≤ (-1)) (f44 : (-1) * x9 + ((-1) * x13 + 0) ≤ (-2000)) (f45 : x8 ≤ 0) (f46 : 1 * x8 + ((-1) * x2 + 0) ≤ 0) (f47 : (-1) * x8 + 0 ≤ 0) (f48 : (-1) * x4 + 0 ≤ 0) (f50 : 1 * x8 + ((-1) * x2 + 0) ≤ 0) (f51 : (-1) * x8 + 0 ≤ 0) (f52 : (-1) * x4 + 0 ≤ 0) (kz_0_11 : 0 ≤ pos_0 ∧ pos_0 ≤ 2000) (kz_0_12 : 0 ≤ kind_0 ∧ kind_0 ≤ 4) (kz_0_15 : 0 ≤ from_0 ∧ from_0 ≤ 2000) (ex2 : gx = 0 + (1 * x9 + 0)) (ex3 : 0 ≤ gx ∧ gx ≤ 2000) : 1 * x19 + ((-1) * x2 + 0) ≤ 0 := by
  first | assumption | (clear f16; omega) | omega | grind
set_option maxHeartbeats 4000000 in
theorem vc_Mo_of_at_s5003_16_4 (x2 : Int) (x3 : Int) (x4 : Int) (x7 : Int) (x8 : Int) (x9 : Int) (x13 : Int) (x15 : Int) (x19 : Int) (x22 : Int) (from_0 : Int) (pos_0 : Int) (kind_0 : Int) (gx : Int) (k2 : 9 ≤ x2 ∧ x2 ≤ 9) (k3 : 0 ≤ x3 ∧ x3 ≤ 2000) (k4 : (-1) ≤ x4 ∧ x4 ≤ 48) (k7 : 9 ≤ x7 ∧ x7 ≤ 9) (k8 : (-2147483648) ≤ x8 ∧ x8 ≤ 0) (k9 : 0 ≤ x9 ∧ x9 ≤ 2000) (k13 : 0 ≤ x13 ∧ x13 ≤ 2000) (k15 : 0 ≤ x15 ∧ x15 ≤ 2000) (k19 : 1 ≤ x19 ∧ x19 ≤ 9) (k22 : 0 ≤ x22 ∧ x22 ≤ 2000) (f0 : 1 * x3 + ((-1) * x22 + 0) ≤ (-1)) (f1 : (-1) * x9 + ((-1) * x22 + 0) ≤ (-2001)) (f2 : 1 * x19 + ((-1) * x2 + 0) ≤ 0) (f3 : (-1) * x19 + 0 ≤ 0) (f4 : 1 * x15 + ((-1) * x13 + 0) ≤ 0) (f5 : (-1) * x15 + (1 * x13 + 0) ≤ 0) (f6 : 1 * x3 + ((-1) * x15 + 0) ≤ (-1)) (f7 : (-1) * x9 + ((-1) * x15 + 0) ≤ (-2000)) (f8 : 1 * x3 + ((-1) * x13 + 0) ≤ (-1)) (f9 : (-1) * x9 + ((-1) * x13 + 0) ≤ (-2000)) (f10 : 1 * x8 + ((-1) * x2 + 0) ≤ 0) (f11 : (-1) * x8 + 0 ≤ 0) (f12 : (-1) * x4 + 0 ≤ 0) (f15 : 1 * from_0 + ((-1) * pos_0 + 0) ≤ 0) (f16 : ((kind_0 = 1) → (pos_0 ≤ (from_0 + 8))) ∧ ((kind_0 = 0) ∨ ((from_0 + 1) ≤ pos_0))) (f17 : 1 * x22 + ((-1) * from_0 + 0) ≤ 0) (f19 : 1 * x3 + ((-1) * x22 + 0) ≤ (-1)) (f20 : (-1) * x9 + ((-1) * x22 + 0) ≤ (-2001)) (f21 : 1 * x19 + ((-1) * x2 + 0) ≤ 0) (f22 : (-1) * x19 + 0 ≤ 0) (f23 : 1 * x15 + ((-1) * x13 + 0) ≤ 0) (f24 : (-1) * x15 + (1 * x13 + 0) ≤ 0) (f25 : 1 * x3 + ((-1) * x15 + 0) ≤ (-1)) (f26 : (-1) * x9 + ((-1) * x15 + 0) ≤ (-2000)) (f27 : 1 * x3 + ((-1) * x13 + 0) ≤ (-1)) (f28 : (-1) * x9 + ((-1) * x13 + 0) ≤ (-2000)) (f29 : 1 * x8 + ((-1) * x2 + 0) ≤ 0) (f30 : (-1) * x8 + 0 ≤ 0) (f31 : (-1) * x4 + 0 ≤ 0) (f33 : 1 * x15 + ((-1) * x13 + 0) ≤ 0) (f34 : (-1) * x15 + (1 * x13 + 0) ≤ 0) (f35 : 1 * x3 + ((-1) * x15 + 0) ≤ (-1)) (f36 : (-1) * x9 + ((-1) * x15 + 0) ≤ (-2000)) (f37 : 1 * x3 + ((-1) * x13 + 0) ≤ (-1)) (f38 : (-1) * x9 + ((-1) * x13 + 0) ≤ (-2000)) (f39 : 1 * x8 + ((-1) * x2 + 0) ≤ 0) (f40 : (-1) * x8 + 0 ≤ 0) (f41 : (-1) * x4 + 0 ≤ 0) (f43 : 1 * x3 + ((-1) * x13 + 0) ≤ (-1)) (f44 : (-1) * x9 + ((-1) * x13 + 0) ≤ (-2000)) (f45 : x8 ≤ 0) (f46 : 1 * x8 + ((-1) * x2 + 0) ≤ 0) (f47 : (-1) * x8 + 0 ≤ 0) (f48 : (-1) * x4 + 0 ≤ 0) (f50 : 1 * x8 + ((-1) * x2 + 0) ≤ 0) (f51 : (-1) * x8 + 0 ≤ 0) (f52 : (-1) * x4 + 0 ≤ 0) (kz_0_11 : 0 ≤ pos_0 ∧ pos_0 ≤ 2000) (kz_0_12 : 0 ≤ kind_0 ∧ kind_0 ≤ 4) (kz_0_15 : 0 ≤ from_0 ∧ from_0 ≤ 2000) (ex2 : gx = 0 + (1 * x9 + 0)) (ex3 : 0 ≤ gx ∧ gx ≤ 2000) : (-1) * x19 + 0 ≤ 0 := by
  first | assumption | (clear f16; omega) | omega | grind
set_option maxHeartbeats 4000000 in
theorem vc_Mo_of_at_s5003_16_5 (x2 : Int) (x3 : Int) (x4 : Int) (x7 : Int) (x8 : Int) (x9 : Int) (x13 : Int) (x15 : Int) (x19 : Int) (x22 : Int) (from_0 : Int) (pos_0 : Int) (kind_0 : Int) (gx : Int) (k2 : 9 ≤ x2 ∧ x2 ≤ 9) (k3 : 0 ≤ x3 ∧ x3 ≤ 2000) (k4 : (-1) ≤ x4 ∧ x4 ≤ 48) (k7 : 9 ≤ x7 ∧ x7 ≤ 9) (k8 : (-2147483648) ≤ x8 ∧ x8 ≤ 0) (k9 : 0 ≤ x9 ∧ x9 ≤ 2000) (k13 : 0 ≤ x13 ∧ x13 ≤ 2000) (k15 : 0 ≤ x15 ∧ x15 ≤ 2000) (k19 : 1 ≤ x19 ∧ x19 ≤ 9) (k22 : 0 ≤ x22 ∧ x22 ≤ 2000) (f0 : 1 * x3 + ((-1) * x22 + 0) ≤ (-1)) (f1 : (-1) * x9 + ((-1) * x22 + 0) ≤ (-2001)) (f2 : 1 * x19 + ((-1) * x2 + 0) ≤ 0) (f3 : (-1) * x19 + 0 ≤ 0) (f4 : 1 * x15 + ((-1) * x13 + 0) ≤ 0) (f5 : (-1) * x15 + (1 * x13 + 0) ≤ 0) (f6 : 1 * x3 + ((-1) * x15 + 0) ≤ (-1)) (f7 : (-1) * x9 + ((-1) * x15 + 0) ≤ (-2000)) (f8 : 1 * x3 + ((-1) * x13 + 0) ≤ (-1)) (f9 : (-1) * x9 + ((-1) * x13 + 0) ≤ (-2000)) (f10 : 1 * x8 + ((-1) * x2 + 0) ≤ 0) (f11 : (-1) * x8 + 0 ≤ 0) (f12 : (-1) * x4 + 0 ≤ 0) (f15 : 1 * from_0 + ((-1) * pos_0 + 0) ≤ 0) (f16 : ((kind_0 = 1) → (pos_0 ≤ (from_0 + 8))) ∧ ((kind_0 = 0) ∨ ((from_0 + 1) ≤ pos_0))) (f17 : 1 * x22 + ((-1) * from_0 + 0) ≤ 0) (f19 : 1 * x3 + ((-1) * x22 + 0) ≤ (-1)) (f20 : (-1) * x9 + ((-1) * x22 + 0) ≤ (-2001)) (f21 : 1 * x19 + ((-1) * x2 + 0) ≤ 0) (f22 : (-1) * x19 + 0 ≤ 0) (f23 : 1 * x15 + ((-1) * x13 + 0) ≤ 0) (f24 : (-1) * x15 + (1 * x13 + 0) ≤ 0) (f25 : 1 * x3 + ((-1) * x15 + 0) ≤ (-1)) (f26 : (-1) * x9 + ((-1) * x15 + 0) ≤ (-2000)) (f27 : 1 * x3 + ((-1) * x13 + 0) ≤ (-1)) (f28 : (-1) * x9 + ((-1) * x13 + 0) ≤ (-2000)) (f29 : 1 * x8 + ((-1) * x2 + 0) ≤ 0) (f30 : (-1) * x8 + 0 ≤ 0) (f31 : (-1) * x4 + 0 ≤ 0) (f33 : 1 * x15 + ((-1) * x13 + 0) ≤ 0) (f34 : (-1) * x15 + (1 * x13 + 0) ≤ 0) (f35 : 1 * x3 + ((-1) * x15 + 0) ≤ (-1)) (f36 : (-1) * x9 + ((-1) * x15 + 0) ≤ (-2000)) (f37 : 1 * x3 + ((-1) * x13 + 0) ≤ (-1)) (f38 : (-1) * x9 + ((-1) * x13 + 0) ≤ (-2000)) (f39 : 1 * x8 + ((-1) * x2 + 0) ≤ 0) (f40 : (-1) * x8 + 0 ≤ 0) (f41 : (-1) * x4 + 0 ≤ 0) (f43 : 1 * x3 + ((-1) * x13 + 0) ≤ (-1)) (f44 : (-1) * x9 + ((-1) * x13 + 0) ≤ (-2000)) (f45 : x8 ≤ 0) (f46 : 1 * x8 + ((-1) * x2 + 0) ≤ 0) (f47 : (-1) * x8 + 0 ≤ 0) (f48 : (-1) * x4 + 0 ≤ 0) (f50 : 1 * x8 + ((-1) * x2 + 0) ≤ 0) (f51 : (-1) * x8 + 0 ≤ 0) (f52 : (-1) * x4 + 0 ≤ 0) (kz_0_11 : 0 ≤ pos_0 ∧ pos_0 ≤ 2000) (kz_0_12 : 0 ≤ kind_0 ∧ kind_0 ≤ 4) (kz_0_15 : 0 ≤ from_0 ∧ from_0 ≤ 2000) (ex2 : gx = 0 + (1 * x9 + 0)) (ex3 : 0 ≤ gx ∧ gx ≤ 2000) : (-1) * x4 + 0 ≤ 0 := by
  first | assumption | (clear f16; omega) | omega | grind
set_option maxHeartbeats 4000000 in
theorem vc_Mo_of_at_s5003_16_6 (x2 : Int) (x3 : Int) (x4 : Int) (x7 : Int) (x8 : Int) (x9 : Int) (x13 : Int) (x15 : Int) (x19 : Int) (x22 : Int) (from_0 : Int) (pos_0 : Int) (kind_0 : Int) (gx : Int) (k2 : 9 ≤ x2 ∧ x2 ≤ 9) (k3 : 0 ≤ x3 ∧ x3 ≤ 2000) (k4 : (-1) ≤ x4 ∧ x4 ≤ 48) (k7 : 9 ≤ x7 ∧ x7 ≤ 9) (k8 : (-2147483648) ≤ x8 ∧ x8 ≤ 0) (k9 : 0 ≤ x9 ∧ x9 ≤ 2000) (k13 : 0 ≤ x13 ∧ x13 ≤ 2000) (k15 : 0 ≤ x15 ∧ x15 ≤ 2000) (k19 : 1 ≤ x19 ∧ x19 ≤ 9) (k22 : 0 ≤ x22 ∧ x22 ≤ 2000) (f0 : 1 * x3 + ((-1) * x22 + 0) ≤ (-1)) (f1 : (-1) * x9 + ((-1) * x22 + 0) ≤ (-2001)) (f2 : 1 * x19 + ((-1) * x2 + 0) ≤ 0) (f3 : (-1) * x19 + 0 ≤ 0) (f4 : 1 * x15 + ((-1) * x13 + 0) ≤ 0) (f5 : (-1) * x15 + (1 * x13 + 0) ≤ 0) (f6 : 1 * x3 + ((-1) * x15 + 0) ≤ (-1)) (f7 : (-1) * x9 + ((-1) * x15 + 0) ≤ (-2000)) (f8 : 1 * x3 + ((-1) * x13 + 0) ≤ (-1)) (f9 : (-1) * x9 + ((-1) * x13 + 0) ≤ (-2000)) (f10 : 1 * x8 + ((-1) * x2 + 0) ≤ 0) (f11 : (-1) * x8 + 0 ≤ 0) (f12 : (-1) * x4 + 0 ≤ 0) (f15 : 1 * from_0 + ((-1) * pos_0 + 0) ≤ 0) (f16 : ((kind_0 = 1) → (pos_0 ≤ (from_0 + 8))) ∧ ((kind_0 = 0) ∨ ((from_0 + 1) ≤ pos_0))) (f17 : 1 * x22 + ((-1) * from_0 + 0) ≤ 0) (f19 : 1 * x3 + ((-1) * x22 + 0) ≤ (-1)) (f20 : (-1) * x9 + ((-1) * x22 + 0) ≤ (-2001)) (f21 : 1 * x19 + ((-1) * x2 + 0) ≤ 0) (f22 : (-1) * x19 + 0 ≤ 0) (f23 : 1 * x15 + ((-1) * x13 + 0) ≤ 0) (f24 : (-1) * x15 + (1 * x13 + 0) ≤ 0) (f25 : 1 * x3 + ((-1) * x15 + 0) ≤ (-1)) (f26 : (-1) * x9 + ((-1) * x15 + 0) ≤ (-2000)) (f27 : 1 * x3 + ((-1) * x13 + 0) ≤ (-1)) (f28 : (-1) * x9 + ((-1) * x13 + 0) ≤ (-2000)) (f29 : 1 * x8 + ((-1) * x2 + 0) ≤ 0) (f30 : (-1) * x8 + 0 ≤ 0) (f31 : (-1) * x4 + 0 ≤ 0) (f33 : 1 * x15 + ((-1) * x13 + 0) ≤ 0) (f34 : (-1) * x15 + (1 * x13 + 0) ≤ 0) (f35 : 1 * x3 + ((-1) * x15 + 0) ≤ (-1)) (f36 : (-1) * x9 + ((-1) * x15 + 0) ≤ (-2000)) (f37 : 1 * x3 + ((-1) * x13 + 0) ≤ (-1)) (f38 : (-1) * x9 + ((-1) * x13 + 0) ≤ (-2000)) (f39 : 1 * x8 + ((-1) * x2 + 0) ≤ 0) (f40 : (-1) * x8 + 0 ≤ 0) (f41 : (-1) * x4 + 0 ≤ 0) (f43 : 1 * x3 + ((-1) * x13 + 0) ≤ (-1)) (f44 : (-1) * x9 + ((-1) * x13 + 0) ≤ (-2000)) (f45 : x8 ≤ 0) (f46 : 1 * x8 + ((-1) * x2 + 0) ≤ 0) (f47 : (-1) * x8 + 0 ≤ 0) (f48 : (-1) * x4 + 0 ≤ 0) (f50 : 1 * x8 + ((-1) * x2 + 0) ≤ 0) (f51 : (-1) * x8 + 0 ≤ 0) (f52 : (-1) * x4 + 0 ≤ 0) (kz_0_11 : 0 ≤ pos_0 ∧ pos_0 ≤ 2000) (kz_0_12 : 0 ≤ kind_0 ∧ kind_0 ≤ 4) (kz_0_15 : 0 ≤ from_0 ∧ from_0 ≤ 2000) (ex2 : gx = 0 + (1 * x9 + 0)) (ex3 : 0 ≤ gx ∧ gx ≤ 2000) : (-1) * gx + ((-1) * pos_0 + 0) ≤ (-2001) := by
  first | assumption | (clear f16; omega) | omega | grind
def o_Mo_of_at_s5003_16 : or_T := (139, 23, [(0, (2, 0, 0, [165])), (2, (0, 9, 9, [])), (3, (0, 0, 2000, [])), (4, (0, -1, 48, [])), (5, (2, 0, 0, [165])), (7, (0, 9, 9, [])), (8, (0, -2147483648, 0, [])), (9, (0, 0, 2000, [])), (13, (0, 0, 2000, [])), (15, (0, 0, 2000, [])), (19, (0, 1, 9, [])), (22, (0, 0, 2000, []))], [(23, [3, 22], [-1, 1, -1]), (23, [9, 22], [-2001, -1, -1]), (23, [19, 7], [0, 1, -1]), (23, [19], [0, -1]), (23, [15, 13], [0, 1, -1]), (23, [15, 13], [0, -1, 1]), (23, [3, 15], [-1, 1, -1]), (23, [9, 15], [-2000, -1, -1]), (23, [3, 13], [-1, 1, -1]), (23, [9, 13], [-2000, -1, -1]), (23, [8, 7], [0, 1, -1]), (23, [8], [0, -1]), (23, [4], [0, -1]), (24, [0, 5], []), (24, [2, 7], []), (20, [5, 5], [30, 0, 1, 1, 15, -1, 1, 11]), (20, [5], [50, 3, 0, 12, 11, 15, 2, 21, 4, 7, 1, 3, 2, 0, 12, 0, 1, 0, 3, 2, 0, 11, 4, 3, 2, 0, 15, 0, 8, 3, 7, 1, 3, 2, 0, 12, 0, 0, 0, 7, 4, 3, 2, 0, 15, 0, 1, 2, 0, 11]), (20, [22, 5], [30, 0, 1, 0, 0, -1, 1, 15]), (102, [22], [0, 165011, 165012, 165013, 165014, 165015]), (23, [3, 22], [-1, 1, -1]), (23, [9, 22], [-2001, -1, -1]), (23, [19, 7], [0, 1, -1]), (23, [19], [0, -1]), (23, [15, 13], [0, 1, -1]), (23, [15, 13], [0, -1, 1]), (23, [3, 15], [-1, 1, -1]), (23, [9, 15], [-2000, -1, -1]), (23, [3, 13], [-1, 1, -1]), (23, [9, 13], [-2000, -1, -1]), (23, [8, 7], [0, 1, -1]), (23, [8], [0, -1]), (23, [4], [0, -1]), (102, [15], [0, 165008, 165009, 165011, 165012, 165013, 165014, 165015]), (23, [15, 13], [0, 1, -1]), (23, [15, 13], [0, -1, 1]), (23, [3, 15], [-1, 1, -1]), (23, [9, 15], [-2000, -1, -1]), (23, [3, 13], [-1, 1, -1]), (23, [9, 13], [-2000, -1, -1]), (23, [8, 7], [0, 1, -1]), (23, [8], [0, -1]), (23, [4], [0, -1]), (102, [13], [0, 165011, 165012, 165013, 165014, 165015]), (23, [3, 13], [-1, 1, -1]), (23, [9, 13], [-2000, -1, -1]), (8, [8], [5]), (23, [8, 7], [0, 1, -1]), (23, [8], [0, -1]), (23, [4], [0, -1]), (102, [11], [0]), (23, [8, 7], [0, 1, -1]), (23, [8], [0, -1]), (23, [4], [0, -1])], [], [(0, 0, 2000, [])], [(20, [5, 5], [30, 0, 1, 1, 15, -1, 1, 11]), (20, [5], [50, 3, 0, 12, 11, 15, 2, 21, 4, 7, 1, 3, 2, 0, 12, 0, 1, 0, 3, 2, 0, 11, 4, 3, 2, 0, 15, 0, 8, 3, 7, 1, 3, 2, 0, 12, 0, 0, 0, 7, 4, 3, 2, 0, 15, 0, 1, 2, 0, 11]), (20, [3, 5], [30, -1, 1, 0, 0, -1, 1, 11]), (23, [19, 7], [0, 1, -1]), (23, [19], [0, -1]), (23, [4], [0, -1]), (20, [23, 5], [30, -2001, -1, 0, 0, -1, 1, 11]), (24, [0, 5], []), (24, [2, 7], [])], [(23, 9, 0, 0)], [])
theorem oo_Mo_of_at_s5003_16 {kA : Nat → ClassId} : or_ok PRD kA GG o_Mo_of_at_s5003_16 := by
  refine or_mk fun A ta ws vs hD hth hl => ?_
  intro t0 r0 t2 k2 t3 k3 t4 k4 t5 r5 t7 k7 t8 k8 t9 k9 t13 k13 t15 k15 t19 k19 t22 k22 f0 f1 f2 f3 f4 f5 f6 f7 f8 f9 f10 f11 f12 f13 f14 f15 f16 f17 ta1 w1 le1 s1 f19 f20 f21 f22 f23 f24 f25 f26 f27 f28 f29 f30 f31 ta2 w2 le2 s2 f33 f34 f35 f36 f37 f38 f39 f40 f41 ta3 w3 le3 s3 f43 f44 f45 f46 f47 f48 ta4 w4 le4 s4 f50 f51 f52
  replace f0 := shm_211 f0
  replace f1 := shm_1895 f1
  replace f2 := shm_7 f2
  replace f3 := shm_1013 f3
  replace f4 := shm_7 f4
  replace f5 := shm_22 f5
  replace f6 := shm_211 f6
  replace f7 := shm_1894 f7
  replace f8 := shm_211 f8
  replace f9 := shm_1894 f9
  replace f10 := shm_7 f10
  replace f11 := shm_1013 f11
  replace f12 := shm_1013 f12
  replace f13 := shm_5 f13
  replace f14 := shm_5 f14
  replace f15 := shm_1397 f15
  replace f16 := shm_1398 f16
  replace f17 := shm_1396 f17
  replace f19 := shm_211 f19
  replace f20 := shm_1895 f20
  replace f21 := shm_7 f21
  replace f22 := shm_1013 f22
  replace f23 := shm_7 f23
  replace f24 := shm_22 f24
  replace f25 := shm_211 f25
  replace f26 := shm_1894 f26
  replace f27 := shm_211 f27
  replace f28 := shm_1894 f28
  replace f29 := shm_7 f29
  replace f30 := shm_1013 f30
  replace f31 := shm_1013 f31
  replace f33 := shm_7 f33
  replace f34 := shm_22 f34
  replace f35 := shm_211 f35
  replace f36 := shm_1894 f36
  replace f37 := shm_211 f37
  replace f38 := shm_1894 f38
  replace f39 := shm_7 f39
  replace f40 := shm_1013 f40
  replace f41 := shm_1013 f41
  replace f43 := shm_211 f43
  replace f44 := shm_1894 f44
  replace f45 := shm_142 f45
  replace f46 := shm_7 f46
  replace f47 := shm_1013 f47
  replace f48 := shm_1013 f48
  replace f50 := shm_7 f50
  replace f51 := shm_1013 f51
  replace f52 := shm_1013 f52
  have q5 : n_v vs 5 = n_v vs 0 := f13.symm
  have q7 : n_v vs 7 = n_v vs 2 := f14.symm
  simp only [q7, q5] at f2 f10 f15 f16 f17 f21 f29 f39 f46 f50
  have kz_0_11 := fdq_273 hD hth r0
  have kz_0_12 := fdq_186 hD hth r0
  have kz_0_15 := fdq_274 hD hth r0
  obtain ⟨x, ex, hx⟩ := iv_ex (ta := ta) (lo := 0) (hi := 2000) (z := 0 + (1 * v_iv (n_v vs 9) + 0)) (by omega) (by omega) (by omega) (by omega)
  have ex2 : v_iv (Value.int x) = 0 + (1 * v_iv (n_v vs 9) + 0) := ex
  have ex3 : 0 ≤ v_iv (Value.int x) ∧ v_iv (Value.int x) ≤ 2000 := tv_rng hx
  have e_0 : n_v (vs ++ [Value.int x]) 0 = n_v vs 0 := n_v_old (by rw [hl]; decide)
  have e_2 : n_v (vs ++ [Value.int x]) 2 = n_v vs 2 := n_v_old (by rw [hl]; decide)
  have e_3 : n_v (vs ++ [Value.int x]) 3 = n_v vs 3 := n_v_old (by rw [hl]; decide)
  have e_4 : n_v (vs ++ [Value.int x]) 4 = n_v vs 4 := n_v_old (by rw [hl]; decide)
  have e_5 : n_v (vs ++ [Value.int x]) 5 = n_v vs 5 := n_v_old (by rw [hl]; decide)
  have e_7 : n_v (vs ++ [Value.int x]) 7 = n_v vs 7 := n_v_old (by rw [hl]; decide)
  have e_19 : n_v (vs ++ [Value.int x]) 19 = n_v vs 19 := n_v_old (by rw [hl]; decide)
  have e_23 : n_v (vs ++ [Value.int x]) 23 = Value.int x := n_v_new hl
  have nf0 : fc_1 PRD (20, [5, 5], [30, 0, 1, 1, 15, -1, 1, 11]) ws (vs ++ [Value.int x]) := by
    refine ⟨nf_inA hl rfl, sgq_1397 ?_⟩
    · show 1 * w_fi ws (n_v (vs ++ [Value.int x]) 5) 15 + ((-1) * w_fi ws (n_v (vs ++ [Value.int x]) 5) 11 + 0) ≤ 0
      simp only [e_5, q5]
      exact vc_Mo_of_at_s5003_16_0 (v_iv (n_v vs 2)) (v_iv (n_v vs 3)) (v_iv (n_v vs 4)) (v_iv (n_v vs 7)) (v_iv (n_v vs 8)) (v_iv (n_v vs 9)) (v_iv (n_v vs 13)) (v_iv (n_v vs 15)) (v_iv (n_v vs 19)) (v_iv (n_v vs 22)) (w_fi ws (n_v vs 0) 15) (w_fi ws (n_v vs 0) 11) (w_fi ws (n_v vs 0) 12) (v_iv (Value.int x)) k2 k3 k4 k7 k8 k9 k13 k15 k19 k22 f0 f1 f2 f3 f4 f5 f6 f7 f8 f9 f10 f11 f12 f15 f16 f17 f19 f20 f21 f22 f23 f24 f25 f26 f27 f28 f29 f30 f31 f33 f34 f35 f36 f37 f38 f39 f40 f41 f43 f44 f45 f46 f47 f48 f50 f51 f52 kz_0_11 kz_0_12 kz_0_15 ex2 ex3
  have nf1 : fc_1 PRD (20, [5], [50, 3, 0, 12, 11, 15, 2, 21, 4, 7, 1, 3, 2, 0, 12, 0, 1, 0, 3, 2, 0, 11, 4, 3, 2, 0, 15, 0, 8, 3, 7, 1, 3, 2, 0, 12, 0, 0, 0, 7, 4, 3, 2, 0, 15, 0, 1, 2, 0, 11]) ws (vs ++ [Value.int x]) := by
    refine ⟨nf_inA hl rfl, sgq_1398 ?_⟩
    · show ((w_fi ws (n_v (vs ++ [Value.int x]) 5) 12 = 1) → (w_fi ws (n_v (vs ++ [Value.int x]) 5) 11 ≤ (w_fi ws (n_v (vs ++ [Value.int x]) 5) 15 + 8))) ∧ ((w_fi ws (n_v (vs ++ [Value.int x]) 5) 12 = 0) ∨ ((w_fi ws (n_v (vs ++ [Value.int x]) 5) 15 + 1) ≤ w_fi ws (n_v (vs ++ [Value.int x]) 5) 11))
      simp only [e_5, q5]
      exact vc_Mo_of_at_s5003_16_1 (v_iv (n_v vs 2)) (v_iv (n_v vs 3)) (v_iv (n_v vs 4)) (v_iv (n_v vs 7)) (v_iv (n_v vs 8)) (v_iv (n_v vs 9)) (v_iv (n_v vs 13)) (v_iv (n_v vs 15)) (v_iv (n_v vs 19)) (v_iv (n_v vs 22)) (w_fi ws (n_v vs 0) 15) (w_fi ws (n_v vs 0) 11) (w_fi ws (n_v vs 0) 12) (v_iv (Value.int x)) k2 k3 k4 k7 k8 k9 k13 k15 k19 k22 f0 f1 f2 f3 f4 f5 f6 f7 f8 f9 f10 f11 f12 f15 f16 f17 f19 f20 f21 f22 f23 f24 f25 f26 f27 f28 f29 f30 f31 f33 f34 f35 f36 f37 f38 f39 f40 f41 f43 f44 f45 f46 f47 f48 f50 f51 f52 kz_0_11 kz_0_12 kz_0_15 ex2 ex3
  have nf2 : fc_1 PRD (20, [3, 5], [30, -1, 1, 0, 0, -1, 1, 11]) ws (vs ++ [Value.int x]) := by
    refine ⟨nf_inA hl rfl, sgq_1891 ?_⟩
    · show 1 * v_iv (n_v (vs ++ [Value.int x]) 3) + ((-1) * w_fi ws (n_v (vs ++ [Value.int x]) 5) 11 + 0) ≤ (-1)
      simp only [e_3, e_5, q5]
      exact vc_Mo_of_at_s5003_16_2 (v_iv (n_v vs 2)) (v_iv (n_v vs 3)) (v_iv (n_v vs 4)) (v_iv (n_v vs 7)) (v_iv (n_v vs 8)) (v_iv (n_v vs 9)) (v_iv (n_v vs 13)) (v_iv (n_v vs 15)) (v_iv (n_v vs 19)) (v_iv (n_v vs 22)) (w_fi ws (n_v vs 0) 15) (w_fi ws (n_v vs 0) 11) (w_fi ws (n_v vs 0) 12) (v_iv (Value.int x)) k2 k3 k4 k7 k8 k9 k13 k15 k19 k22 f0 f1 f2 f3 f4 f5 f6 f7 f8 f9 f10 f11 f12 f15 f16 f17 f19 f20 f21 f22 f23 f24 f25 f26 f27 f28 f29 f30 f31 f33 f34 f35 f36 f37 f38 f39 f40 f41 f43 f44 f45 f46 f47 f48 f50 f51 f52 kz_0_11 kz_0_12 kz_0_15 ex2 ex3
  have nf3 : fc_1 PRD (23, [19, 7], [0, 1, -1]) ws (vs ++ [Value.int x]) := by
    refine ⟨nf_inA hl rfl, sgq_7 ?_⟩
    · show 1 * v_iv (n_v (vs ++ [Value.int x]) 19) + ((-1) * v_iv (n_v (vs ++ [Value.int x]) 7) + 0) ≤ 0
      simp only [e_7, e_19, q7]
      exact vc_Mo_of_at_s5003_16_3 (v_iv (n_v vs 2)) (v_iv (n_v vs 3)) (v_iv (n_v vs 4)) (v_iv (n_v vs 7)) (v_iv (n_v vs 8)) (v_iv (n_v vs 9)) (v_iv (n_v vs 13)) (v_iv (n_v vs 15)) (v_iv (n_v vs 19)) (v_iv (n_v vs 22)) (w_fi ws (n_v vs 0) 15) (w_fi ws (n_v vs 0) 11) (w_fi ws (n_v vs 0) 12) (v_iv (Value.int x)) k2 k3 k4 k7 k8 k9 k13 k15 k19 k22 f0 f1 f2 f3 f4 f5 f6 f7 f8 f9 f10 f11 f12 f15 f16 f17 f19 f20 f21 f22 f23 f24 f25 f26 f27 f28 f29 f30 f31 f33 f34 f35 f36 f37 f38 f39 f40 f41 f43 f44 f45 f46 f47 f48 f50 f51 f52 kz_0_11 kz_0_12 kz_0_15 ex2 ex3
  have nf4 : fc_1 PRD (23, [19], [0, -1]) ws (vs ++ [Value.int x]) := by
    refine ⟨nf_inA hl rfl, sgq_1013 ?_⟩
    · show (-1) * v_iv (n_v (vs ++ [Value.int x]) 19) + 0 ≤ 0
      rw [e_19]
      exact vc_Mo_of_at_s5003_16_4 (v_iv (n_v vs 2)) (v_iv (n_v vs 3)) (v_iv (n_v vs 4)) (v_iv (n_v vs 7)) (v_iv (n_v vs 8)) (v_iv (n_v vs 9)) (v_iv (n_v vs 13)) (v_iv (n_v vs 15)) (v_iv (n_v vs 19)) (v_iv (n_v vs 22)) (w_fi ws (n_v vs 0) 15) (w_fi ws (n_v vs 0) 11) (w_fi ws (n_v vs 0) 12) (v_iv (Value.int x)) k2 k3 k4 k7 k8 k9 k13 k15 k19 k22 f0 f1 f2 f3 f4 f5 f6 f7 f8 f9 f10 f11 f12 f15 f16 f17 f19 f20 f21 f22 f23 f24 f25 f26 f27 f28 f29 f30 f31 f33 f34 f35 f36 f37 f38 f39 f40 f41 f43 f44 f45 f46 f47 f48 f50 f51 f52 kz_0_11 kz_0_12 kz_0_15 ex2 ex3
  have nf5 : fc_1 PRD (23, [4], [0, -1]) ws (vs ++ [Value.int x]) := by
    refine ⟨nf_inA hl rfl, sgq_1013 ?_⟩
    · show (-1) * v_iv (n_v (vs ++ [Value.int x]) 4) + 0 ≤ 0
      rw [e_4]
      exact vc_Mo_of_at_s5003_16_5 (v_iv (n_v vs 2)) (v_iv (n_v vs 3)) (v_iv (n_v vs 4)) (v_iv (n_v vs 7)) (v_iv (n_v vs 8)) (v_iv (n_v vs 9)) (v_iv (n_v vs 13)) (v_iv (n_v vs 15)) (v_iv (n_v vs 19)) (v_iv (n_v vs 22)) (w_fi ws (n_v vs 0) 15) (w_fi ws (n_v vs 0) 11) (w_fi ws (n_v vs 0) 12) (v_iv (Value.int x)) k2 k3 k4 k7 k8 k9 k13 k15 k19 k22 f0 f1 f2 f3 f4 f5 f6 f7 f8 f9 f10 f11 f12 f15 f16 f17 f19 f20 f21 f22 f23 f24 f25 f26 f27 f28 f29 f30 f31 f33 f34 f35 f36 f37 f38 f39 f40 f41 f43 f44 f45 f46 f47 f48 f50 f51 f52 kz_0_11 kz_0_12 kz_0_15 ex2 ex3
  have nf6 : fc_1 PRD (20, [23, 5], [30, -2001, -1, 0, 0, -1, 1, 11]) ws (vs ++ [Value.int x]) := by
    refine ⟨nf_inA hl rfl, sgq_1896 ?_⟩
    · show (-1) * v_iv (n_v (vs ++ [Value.int x]) 23) + ((-1) * w_fi ws (n_v (vs ++ [Value.int x]) 5) 11 + 0) ≤ (-2001)
      simp only [e_5, e_23, q5]
      exact vc_Mo_of_at_s5003_16_6 (v_iv (n_v vs 2)) (v_iv (n_v vs 3)) (v_iv (n_v vs 4)) (v_iv (n_v vs 7)) (v_iv (n_v vs 8)) (v_iv (n_v vs 9)) (v_iv (n_v vs 13)) (v_iv (n_v vs 15)) (v_iv (n_v vs 19)) (v_iv (n_v vs 22)) (w_fi ws (n_v vs 0) 15) (w_fi ws (n_v vs 0) 11) (w_fi ws (n_v vs 0) 12) (v_iv (Value.int x)) k2 k3 k4 k7 k8 k9 k13 k15 k19 k22 f0 f1 f2 f3 f4 f5 f6 f7 f8 f9 f10 f11 f12 f15 f16 f17 f19 f20 f21 f22 f23 f24 f25 f26 f27 f28 f29 f30 f31 f33 f34 f35 f36 f37 f38 f39 f40 f41 f43 f44 f45 f46 f47 f48 f50 f51 f52 kz_0_11 kz_0_12 kz_0_15 ex2 ex3
  have nf7 : fc_1 PRD (24, [0, 5], []) ws (vs ++ [Value.int x]) := by
    refine ⟨nf_inA hl rfl, sgq_5 ?_⟩
    · show n_v (vs ++ [Value.int x]) 0 = n_v (vs ++ [Value.int x]) 5
      first | rfl | simp only [e_0, e_5, q5, q7]
  have nf8 : fc_1 PRD (24, [2, 7], []) ws (vs ++ [Value.int x]) := by
    refine ⟨nf_inA hl rfl, sgq_5 ?_⟩
    · show n_v (vs ++ [Value.int x]) 2 = n_v (vs ++ [Value.int x]) 7
      first | rfl | simp only [e_2, e_7, q5, q7]
  obtain ⟨x0, e0, _, _⟩ := tv_int t9 rfl
  have e1 : v_iv (n_v vs 9) = x0.toInt := by rw [e0]; rfl
  have ho : sy_ofs (vs ++ [Value.int x]) (23, 9, 0, 0) := by
    refine ⟨x, x0, by rw [List.getElem?_append_right (by rw [hl]; decide), hl]; rfl, ?_, ?_, ?_⟩
    · rw [List.getElem?_append_left (by rw [hl]; decide)]; exact n_v_some (by rw [hl]; decide) e0
    · show x0.toInt + 0 ≤ x.toInt; omega
    · show x.toInt ≤ x0.toInt + 0; omega
  exact ⟨(fun _ h => (by cases h)), [Value.int x], ag_one hx, List.forall_mem_cons.mpr ⟨⟨show (20 : Nat) < 100 from by decide, nf0⟩, List.forall_mem_cons.mpr ⟨⟨show (20 : Nat) < 100 from by decide, nf1⟩, List.forall_mem_cons.mpr ⟨⟨show (20 : Nat) < 100 from by decide, nf2⟩, List.forall_mem_cons.mpr ⟨⟨show (23 : Nat) < 100 from by decide, nf3⟩, List.forall_mem_cons.mpr ⟨⟨show (23 : Nat) < 100 from by decide, nf4⟩, List.forall_mem_cons.mpr ⟨⟨show (23 : Nat) < 100 from by decide, nf5⟩, List.forall_mem_cons.mpr ⟨⟨show (20 : Nat) < 100 from by decide, nf6⟩, List.forall_mem_cons.mpr ⟨⟨show (24 : Nat) < 100 from by decide, nf7⟩, List.forall_mem_cons.mpr ⟨⟨show (24 : Nat) < 100 from by decide, nf8⟩, (fun _ h => (by cases h))⟩⟩⟩⟩⟩⟩⟩⟩⟩, List.forall_mem_cons.mpr ⟨ho, (fun _ h => (by cases h))⟩⟩
set_option maxHeartbeats 4000000 in
theorem vc_Mo_of_at_s5003_17_0 (x2 : Int) (x3 : Int) (x4 : Int) (x7 : Int) (x9 : Int) (x13 : Int) (x15 : Int) (x21 : Int) (x22 : Int) (fault_0 : Int) (from_0 : Int) (pos_0 : Int) (kind_0 : Int) (k2 : 9 ≤ x2 ∧ x2 ≤ 9) (k3 : 0 ≤ x3 ∧ x3 ≤ 2000) (k4 : (-1) ≤ x4 ∧ x4 ≤ 48) (k7 : 9 ≤ x7 ∧ x7 ≤ 9) (k9 : 0 ≤ x9 ∧ x9 ≤ 2000) (k13 : 0 ≤ x13 ∧ x13 ≤ 2000) (k15 : 0 ≤ x15 ∧ x15 ≤ 2000) (k21 : 1 ≤ x21 ∧ x21 ≤ 5) (k22 : 0 ≤ x22 ∧ x22 ≤ 0) (f0 : 0 < x21) (g1 : x21 = fault_0) (f2 : x21 ≠ 0) (f3 : 1 * x15 + ((-1) * x13 + 0) ≤ 0) (f4 : (-1) * x15 + (1 * x13 + 0) ≤ 0) (f5 : 1 * x3 + ((-1) * x15 + 0) ≤ (-1)) (f6 : (-1) * x9 + ((-1) * x15 + 0) ≤ (-2000)) (f7 : 1 * x3 + ((-1) * x13 + 0) ≤ (-1)) (f8 : (-1) * x9 + ((-1) * x13 + 0) ≤ (-2000)) (f9 : (-1) * x4 + 0 ≤ 0) (f12 : 1 * from_0 + ((-1) * pos_0 + 0) ≤ 0) (f13 : ((kind_0 = 1) → (pos_0 ≤ (from_0 + 8))) ∧ ((kind_0 = 0) ∨ ((from_0 + 1) ≤ pos_0))) (f14 : 1 * x15 + ((-1) * pos_0 + 0) ≤ 0) (f15 : (-1) * fault_0 + 0 ≤ (-1)) (f17 : 1 * x15 + ((-1) * x13 + 0) ≤ 0) (f18 : (-1) * x15 + (1 * x13 + 0) ≤ 0) (f19 : 1 * x3 + ((-1) * x15 + 0) ≤ (-1)) (f20 : (-1) * x9 + ((-1) * x15 + 0) ≤ (-2000)) (f21 : 1 * x3 + ((-1) * x13 + 0) ≤ (-1)) (f22 : (-1) * x9 + ((-1) * x13 + 0) ≤ (-2000)) (f23 : (-1) * x4 + 0 ≤ 0) (f25 : 1 * x15 + ((-1) * x13 + 0) ≤ 0) (f26 : (-1) * x15 + (1 * x13 + 0) ≤ 0) (f27 : 1 * x3 + ((-1) * x15 + 0) ≤ (-1)) (f28 : (-1) * x9 + ((-1) * x15 + 0) ≤ (-2000)) (f29 : 1 * x3 + ((-1) * x13 + 0) ≤ (-1)) (f30 : (-1) * x9 + ((-1) * x13 + 0) ≤ (-2000)) (f31 : (-1) * x4 + 0 ≤ 0) (f33 : 1 * x3 + ((-1) * x13 + 0) ≤ (-1)) (f34 : (-1) * x9 + ((-1) * x13 + 0) ≤ (-2000)) (f35 : (-1) * x4 + 0 ≤ 0) (f37 : (-1) * x4 + 0 ≤ 0) (kz_0_8 : 0 ≤ fault_0 ∧ fault_0 ≤ 5) (kz_0_11 : 0 ≤ pos_0 ∧ pos_0 ≤ 2000) (kz_0_12 : 0 ≤ kind_0 ∧ kind_0 ≤ 4) (kz_0_15 : 0 ≤ from_0 ∧ from_0 ≤ 2000) : 1 * from_0 + ((-1) * pos_0 + 0) ≤ 0 := by
  first | assumption | (clear f13; omega) | omega | grind
set_option maxHeartbeats 4000000 in
theorem vc_Mo_of_at_s5003_17_1 (x2 : Int) (x3 : Int) (x4 : Int) (x7 : Int) (x9 : Int) (x13 : Int) (x15 : Int) (x21 : Int) (x22 : Int) (fault_0 : Int) (from_0 : Int) (pos_0 : Int) (kind_0 : Int) (k2 : 9 ≤ x2 ∧ x2 ≤ 9) (k3 : 0 ≤ x3 ∧ x3 ≤ 2000) (k4 : (-1) ≤ x4 ∧ x4 ≤ 48) (k7 : 9 ≤ x7 ∧ x7 ≤ 9) (k9 : 0 ≤ x9 ∧ x9 ≤ 2000) (k13 : 0 ≤ x13 ∧ x13 ≤ 2000) (k15 : 0 ≤ x15 ∧ x15 ≤ 2000) (k21 : 1 ≤ x21 ∧ x21 ≤ 5) (k22 : 0 ≤ x22 ∧ x22 ≤ 0) (f0 : 0 < x21) (g1 : x21 = fault_0) (f2 : x21 ≠ 0) (f3 : 1 * x15 + ((-1) * x13 + 0) ≤ 0) (f4 : (-1) * x15 + (1 * x13 + 0) ≤ 0) (f5 : 1 * x3 + ((-1) * x15 + 0) ≤ (-1)) (f6 : (-1) * x9 + ((-1) * x15 + 0) ≤ (-2000)) (f7 : 1 * x3 + ((-1) * x13 + 0) ≤ (-1)) (f8 : (-1) * x9 + ((-1) * x13 + 0) ≤ (-2000)) (f9 : (-1) * x4 + 0 ≤ 0) (f12 : 1 * from_0 + ((-1) * pos_0 + 0) ≤ 0) (f13 : ((kind_0 = 1) → (pos_0 ≤ (from_0 + 8))) ∧ ((kind_0 = 0) ∨ ((from_0 + 1) ≤ pos_0))) (f14 : 1 * x15 + ((-1) * pos_0 + 0) ≤ 0) (f15 : (-1) * fault_0 + 0 ≤ (-1)) (f17 : 1 * x15 + ((-1) * x13 + 0) ≤ 0) (f18 : (-1) * x15 + (1 * x13 + 0) ≤ 0) (f19 : 1 * x3 + ((-1) * x15 + 0) ≤ (-1)) (f20 : (-1) * x9 + ((-1) * x15 + 0) ≤ (-2000)) (f21 : 1 * x3 + ((-1) * x13 + 0) ≤ (-1)) (f22 : (-1) * x9 + ((-1) * x13 + 0) ≤ (-2000)) (f23 : (-1) * x4 + 0 ≤ 0) (f25 : 1 * x15 + ((-1) * x13 + 0) ≤ 0) (f26 : (-1) * x15 + (1 * x13 + 0) ≤ 0) (f27 : 1 * x3 + ((-1) * x15 + 0) ≤ (-1)) (f28 : (-1) * x9 + ((-1) * x15 + 0) ≤ (-2000)) (f29 : 1 * x3 + ((-1) * x13 + 0) ≤ (-1)) (f30 : (-1) * x9 + ((-1) * x13 + 0) ≤ (-2000)) (f31 : (-1) * x4 + 0 ≤ 0) (f33 : 1 * x3 + ((-1) * x13 + 0) ≤ (-1)) (f34 : (-1) * x9 + ((-1) * x13 + 0) ≤ (-2000)) (f35 : (-1) * x4 + 0 ≤ 0) (f37 : (-1) * x4 + 0 ≤ 0) (kz_0_8 : 0 ≤ fault_0 ∧ fault_0 ≤ 5) (kz_0_11 : 0 ≤ pos_0 ∧ pos_0 ≤ 2000) (kz_0_12 : 0 ≤ kind_0 ∧ kind_0 ≤ 4) (kz_0_15 : 0 ≤ from_0 ∧ from_0 ≤ 2000) : ((kind_0 = 1) → (pos_0 ≤ (from_0 + 8))) ∧ ((kind_0 = 0) ∨ ((from_0 + 1) ≤ pos_0)) := by
  first | assumption | (clear f13; omega) | omega | grind
set_option maxHeartbeats 4000000 in
theorem vc_Mo_of_at_s5003_17_2 (x2 : Int) (x3 : Int) (x4 : Int) (x7 : Int) (x9 : Int) (x13 : Int) (x15 : Int) (x21 : Int) (x22 : Int) (fault_0 : Int) (from_0 : Int) (pos_0 : Int) (kind_0 : Int) (k2 : 9 ≤ x2 ∧ x2 ≤ 9) (k3 : 0 ≤ x3 ∧ x3 ≤ 2000) (k4 : (-1) ≤ x4 ∧ x4 ≤ 48) (k7 : 9 ≤ x7 ∧ x7 ≤ 9) (k9 : 0 ≤ x9 ∧ x9 ≤ 2000) (k13 : 0 ≤ x13 ∧ x13 ≤ 2000) (k15 : 0 ≤ x15 ∧ x15 ≤ 2000) (k21 : 1 ≤ x21 ∧ x21 ≤ 5) (k22 : 0 ≤ x22 ∧ x22 ≤ 0) (f0 : 0 < x21) (g1 : x21 = fault_0) (f2 : x21 ≠ 0) (f3 : 1 * x15 + ((-1) * x13 + 0) ≤ 0) (f4 : (-1) * x15 + (1 * x13 + 0) ≤ 0) (f5 : 1 * x3 + ((-1) * x15 + 0) ≤ (-1)) (f6 : (-1) * x9 + ((-1) * x15 + 0) ≤ (-2000)) (f7 : 1 * x3 + ((-1) * x13 + 0) ≤ (-1)) (f8 : (-1) * x9 + ((-1) * x13 + 0) ≤ (-2000)) (f9 : (-1) * x4 + 0 ≤ 0) (f12 : 1 * from_0 + ((-1) * pos_0 + 0) ≤ 0) (f13 : ((kind_0 = 1) → (pos_0 ≤ (from_0 + 8))) ∧ ((kind_0 = 0) ∨ ((from_0 + 1) ≤ pos_0))) (f14 : 1 * x15 + ((-1) * pos_0 + 0) ≤ 0) (f15 : (-1) * fault_0 + 0 ≤ (-1)) (f17 : 1 * x15 + ((-1) * x13 + 0) ≤ 0) (f18 : (-1) * x15 + (1 * x13 + 0) ≤ 0) (f19 : 1 * x3 + ((-1) * x15 + 0) ≤ (-1)) (f20 : (-1) * x9 + ((-1) * x15 + 0) ≤ (-2000)) (f21 : 1 * x3 + ((-1) * x13 + 0) ≤ (-1)) (f22 : (-1) * x9 + ((-1) * x13 + 0) ≤ (-2000)) (f23 : (-1) * x4 + 0 ≤ 0) (f25 : 1 * x15 + ((-1) * x13 + 0) ≤ 0) (f26 : (-1) * x15 + (1 * x13 + 0) ≤ 0) (f27 : 1 * x3 + ((-1) * x15 + 0) ≤ (-1)) (f28 : (-1) * x9 + ((-1) * x15 + 0) ≤ (-2000)) (f29 : 1 * x3 + ((-1) * x13 + 0) ≤ (-1)) (f30 : (-1) * x9 + ((-1) * x13 + 0) ≤ (-2000)) (f31 : (-1) * x4 + 0 ≤ 0) (f33 : 1 * x3 + ((-1) * x13 + 0) ≤ (-1)) (f34 : (-1) * x9 + ((-1) * x13 + 0) ≤ (-2000)) (f35 : (-1) * x4 + 0 ≤ 0) (f37 : (-1) * x4 + 0 ≤ 0) (kz_0_8 : 0 ≤ fault_0 ∧ fault_0 ≤ 5) (kz_0_11 : 0 ≤ pos_0 ∧ pos_0 ≤ 2000) (kz_0_12 : 0 ≤ kind_0 ∧ kind_0 ≤ 4) (kz_0_15 : 0 ≤ from_0 ∧ from_0 ≤ 2000) : 1 * x3 + ((-1) * pos_0 + 0) ≤ 0 := by
  first | assumption | (clear f13; omega) | omega | grind
set_option maxHeartbeats 4000000 in
theorem vc_Mo_of_at_s5003_17_3 (x2 : Int) (x3 : Int) (x4 : Int) (x7 : Int) (x9 : Int) (x13 : Int) (x15 : Int) (x21 : Int) (x22 : Int) (fault_0 : Int) (from_0 : Int) (pos_0 : Int) (kind_0 : Int) (k2 : 9 ≤ x2 ∧ x2 ≤ 9) (k3 : 0 ≤ x3 ∧ x3 ≤ 2000) (k4 : (-1) ≤ x4 ∧ x4 ≤ 48) (k7 : 9 ≤ x7 ∧ x7 ≤ 9) (k9 : 0 ≤ x9 ∧ x9 ≤ 2000) (k13 : 0 ≤ x13 ∧ x13 ≤ 2000) (k15 : 0 ≤ x15 ∧ x15 ≤ 2000) (k21 : 1 ≤ x21 ∧ x21 ≤ 5) (k22 : 0 ≤ x22 ∧ x22 ≤ 0) (f0 : 0 < x21) (g1 : x21 = fault_0) (f2 : x21 ≠ 0) (f3 : 1 * x15 + ((-1) * x13 + 0) ≤ 0) (f4 : (-1) * x15 + (1 * x13 + 0) ≤ 0) (f5 : 1 * x3 + ((-1) * x15 + 0) ≤ (-1)) (f6 : (-1) * x9 + ((-1) * x15 + 0) ≤ (-2000)) (f7 : 1 * x3 + ((-1) * x13 + 0) ≤ (-1)) (f8 : (-1) * x9 + ((-1) * x13 + 0) ≤ (-2000)) (f9 : (-1) * x4 + 0 ≤ 0) (f12 : 1 * from_0 + ((-1) * pos_0 + 0) ≤ 0) (f13 : ((kind_0 = 1) → (pos_0 ≤ (from_0 + 8))) ∧ ((kind_0 = 0) ∨ ((from_0 + 1) ≤ pos_0))) (f14 : 1 * x15 + ((-1) * pos_0 + 0) ≤ 0) (f15 : (-1) * fault_0 + 0 ≤ (-1)) (f17 : 1 * x15 + ((-1) * x13 + 0) ≤ 0) (f18 : (-1) * x15 + (1 * x13 + 0) ≤ 0) (f19 : 1 * x3 + ((-1) * x15 + 0) ≤ (-1)) (f20 : (-1) * x9 + ((-1) * x15 + 0) ≤ (-2000)) (f21 : 1 * x3 + ((-1) * x13 + 0) ≤ (-1)) (f22 : (-1) * x9 + ((-1) * x13 + 0) ≤ (-2000)) (f23 : (-1) * x4 + 0 ≤ 0) (f25 : 1 * x15 + ((-1) * x13 + 0) ≤ 0) (f26 : (-1) * x15 + (1 * x13 + 0) ≤ 0) (f27 : 1 * x3 + ((-1) * x15 + 0) ≤ (-1)) (f28 : (-1) * x9 + ((-1) * x15 + 0) ≤ (-2000)) (f29 : 1 * x3 + ((-1) * x13 + 0) ≤ (-1)) (f30 : (-1) * x9 + ((-1) * x13 + 0) ≤ (-2000)) (f31 : (-1) * x4 + 0 ≤ 0) (f33 : 1 * x3 + ((-1) * x13 + 0) ≤ (-1)) (f34 : (-1) * x9 + ((-1) * x13 + 0) ≤ (-2000)) (f35 : (-1) * x4 + 0 ≤ 0) (f37 : (-1) * x4 + 0 ≤ 0) (kz_0_8 : 0 ≤ fault_0 ∧ fault_0 ≤ 5) (kz_0_11 : 0 ≤ pos_0 ∧ pos_0 ≤ 2000) (kz_0_12 : 0 ≤ kind_0 ∧ kind_0 ≤ 4) (kz_0_15 : 0 ≤ from_0 ∧ from_0 ≤ 2000) : (1 ≤ fault_0) ∨ ((kind_0 = 0) ∨ ((x3 + 1) ≤ pos_0)) := by
  first | assumption | (clear f13; omega) | omega | grind
set_option maxHeartbeats 4000000 in
theorem vc_Mo_of_at_s5003_17_4 (x2 : Int) (x3 : Int) (x4 : Int) (x7 : Int) (x9 : Int) (x13 : Int) (x15 : Int) (x21 : Int) (x22 : Int) (fault_0 : Int) (from_0 : Int) (pos_0 : Int) (kind_0 : Int) (k2 : 9 ≤ x2 ∧ x2 ≤ 9) (k3 : 0 ≤ x3 ∧ x3 ≤ 2000) (k4 : (-1) ≤ x4 ∧ x4 ≤ 48) (k7 : 9 ≤ x7 ∧ x7 ≤ 9) (k9 : 0 ≤ x9 ∧ x9 ≤ 2000) (k13 : 0 ≤ x13 ∧ x13 ≤ 2000) (k15 : 0 ≤ x15 ∧ x15 ≤ 2000) (k21 : 1 ≤ x21 ∧ x21 ≤ 5) (k22 : 0 ≤ x22 ∧ x22 ≤ 0) (f0 : 0 < x21) (g1 : x21 = fault_0) (f2 : x21 ≠ 0) (f3 : 1 * x15 + ((-1) * x13 + 0) ≤ 0) (f4 : (-1) * x15 + (1 * x13 + 0) ≤ 0) (f5 : 1 * x3 + ((-1) * x15 + 0) ≤ (-1)) (f6 : (-1) * x9 + ((-1) * x15 + 0) ≤ (-2000)) (f7 : 1 * x3 + ((-1) * x13 + 0) ≤ (-1)) (f8 : (-1) * x9 + ((-1) * x13 + 0) ≤ (-2000)) (f9 : (-1) * x4 + 0 ≤ 0) (f12 : 1 * from_0 + ((-1) * pos_0 + 0) ≤ 0) (f13 : ((kind_0 = 1) → (pos_0 ≤ (from_0 + 8))) ∧ ((kind_0 = 0) ∨ ((from_0 + 1) ≤ pos_0))) (f14 : 1 * x15 + ((-1) * pos_0 + 0) ≤ 0) (f15 : (-1) * fault_0 + 0 ≤ (-1)) (f17 : 1 * x15 + ((-1) * x13 + 0) ≤ 0) (f18 : (-1) * x15 + (1 * x13 + 0) ≤ 0) (f19 : 1 * x3 + ((-1) * x15 + 0) ≤ (-1)) (f20 : (-1) * x9 + ((-1) * x15 + 0) ≤ (-2000)) (f21 : 1 * x3 + ((-1) * x13 + 0) ≤ (-1)) (f22 : (-1) * x9 + ((-1) * x13 + 0) ≤ (-2000)) (f23 : (-1) * x4 + 0 ≤ 0) (f25 : 1 * x15 + ((-1) * x13 + 0) ≤ 0) (f26 : (-1) * x15 + (1 * x13 + 0) ≤ 0) (f27 : 1 * x3 + ((-1) * x15 + 0) ≤ (-1)) (f28 : (-1) * x9 + ((-1) * x15 + 0) ≤ (-2000)) (f29 : 1 * x3 + ((-1) * x13 + 0) ≤ (-1)) (f30 : (-1) * x9 + ((-1) * x13 + 0) ≤ (-2000)) (f31 : (-1) * x4 + 0 ≤ 0) (f33 : 1 * x3 + ((-1) * x13 + 0) ≤ (-1)) (f34 : (-1) * x9 + ((-1) * x13 + 0) ≤ (-2000)) (f35 : (-1) * x4 + 0 ≤ 0) (f37 : (-1) * x4 + 0 ≤ 0) (kz_0_8 : 0 ≤ fault_0 ∧ fault_0 ≤ 5) (kz_0_11 : 0 ≤ pos_0 ∧ pos_0 ≤ 2000) (kz_0_12 : 0 ≤ kind_0 ∧ kind_0 ≤ 4) (kz_0_15 : 0 ≤ from_0 ∧ from_0 ≤ 2000) : (1 ≤ fault_0) ∨ (0 ≤ x4) := by
  first | assumption | (clear f13; omega) | omega | grind
set_option maxHeartbeats 4000000 in
theorem vc_Mo_of_at_s5003_17_5 (x2 : Int) (x3 : Int) (x4 : Int) (x7 : Int) (x9 : Int) (x13 : Int) (x15 : Int) (x21 : Int) (x22 : Int) (fault_0 : Int) (from_0 : Int) (pos_0 : Int) (kind_0 : Int) (k2 : 9 ≤ x2 ∧ x2 ≤ 9) (k3 : 0 ≤ x3 ∧ x3 ≤ 2000) (k4 : (-1) ≤ x4 ∧ x4 ≤ 48) (k7 : 9 ≤ x7 ∧ x7 ≤ 9) (k9 : 0 ≤ x9 ∧ x9 ≤ 2000) (k13 : 0 ≤ x13 ∧ x13 ≤ 2000) (k15 : 0 ≤ x15 ∧ x15 ≤ 2000) (k21 : 1 ≤ x21 ∧ x21 ≤ 5) (k22 : 0 ≤ x22 ∧ x22 ≤ 0) (f0 : 0 < x21) (g1 : x21 = fault_0) (f2 : x21 ≠ 0) (f3 : 1 * x15 + ((-1) * x13 + 0) ≤ 0) (f4 : (-1) * x15 + (1 * x13 + 0) ≤ 0) (f5 : 1 * x3 + ((-1) * x15 + 0) ≤ (-1)) (f6 : (-1) * x9 + ((-1) * x15 + 0) ≤ (-2000)) (f7 : 1 * x3 + ((-1) * x13 + 0) ≤ (-1)) (f8 : (-1) * x9 + ((-1) * x13 + 0) ≤ (-2000)) (f9 : (-1) * x4 + 0 ≤ 0) (f12 : 1 * from_0 + ((-1) * pos_0 + 0) ≤ 0) (f13 : ((kind_0 = 1) → (pos_0 ≤ (from_0 + 8))) ∧ ((kind_0 = 0) ∨ ((from_0 + 1) ≤ pos_0))) (f14 : 1 * x15 + ((-1) * pos_0 + 0) ≤ 0) (f15 : (-1) * fault_0 + 0 ≤ (-1)) (f17 : 1 * x15 + ((-1) * x13 + 0) ≤ 0) (f18 : (-1) * x15 + (1 * x13 + 0) ≤ 0) (f19 : 1 * x3 + ((-1) * x15 + 0) ≤ (-1)) (f20 : (-1) * x9 + ((-1) * x15 + 0) ≤ (-2000)) (f21 : 1 * x3 + ((-1) * x13 + 0) ≤ (-1)) (f22 : (-1) * x9 + ((-1) * x13 + 0) ≤ (-2000)) (f23 : (-1) * x4 + 0 ≤ 0) (f25 : 1 * x15 + ((-1) * x13 + 0) ≤ 0) (f26 : (-1) * x15 + (1 * x13 + 0) ≤ 0) (f27 : 1 * x3 + ((-1) * x15 + 0) ≤ (-1)) (f28 : (-1) * x9 + ((-1) * x15 + 0) ≤ (-2000)) (f29 : 1 * x3 + ((-1) * x13 + 0) ≤ (-1)) (f30 : (-1) * x9 + ((-1) * x13 + 0) ≤ (-2000)) (f31 : (-1) * x4 + 0 ≤ 0) (f33 : 1 * x3 + ((-1) * x13 + 0) ≤ (-1)) (f34 : (-1) * x9 + ((-1) * x13 + 0) ≤ (-2000)) (f35 : (-1) * x4 + 0 ≤ 0) (f37 : (-1) * x4 + 0 ≤ 0) (kz_0_8 : 0 ≤ fault_0 ∧ fault_0 ≤ 5) (kz_0_11 : 0 ≤ pos_0 ∧ pos_0 ≤ 2000) (kz_0_12 : 0 ≤ kind_0 ∧ kind_0 ≤ 4) (kz_0_15 : 0 ≤ from_0 ∧ from_0 ≤ 2000) : 1 * x22 + ((-1) * x2 + 0) ≤ 0 := by
  first | assumption | (clear f13; omega) | omega | grind
set_option maxHeartbeats 4000000 in
theorem vc_Mo_of_at_s5003_17_6 (x2 : Int) (x3 : Int) (x4 : Int) (x7 : Int) (x9 : Int) (x13 : Int) (x15 : Int) (x21 : Int) (x22 : Int) (fault_0 : Int) (from_0 : Int) (pos_0 : Int) (kind_0 : Int) (k2 : 9 ≤ x2 ∧ x2 ≤ 9) (k3 : 0 ≤ x3 ∧ x3 ≤ 2000) (k4 : (-1) ≤ x4 ∧ x4 ≤ 48) (k7 : 9 ≤ x7 ∧ x7 ≤ 9) (k9 : 0 ≤ x9 ∧ x9 ≤ 2000) (k13 : 0 ≤ x13 ∧ x13 ≤ 2000) (k15 : 0 ≤ x15 ∧ x15 ≤ 2000) (k21 : 1 ≤ x21 ∧ x21 ≤ 5) (k22 : 0 ≤ x22 ∧ x22 ≤ 0) (f0 : 0 < x21) (g1 : x21 = fault_0) (f2 : x21 ≠ 0) (f3 : 1 * x15 + ((-1) * x13 + 0) ≤ 0) (f4 : (-1) * x15 + (1 * x13 + 0) ≤ 0) (f5 : 1 * x3 + ((-1) * x15 + 0) ≤ (-1)) (f6 : (-1) * x9 + ((-1) * x15 + 0) ≤ (-2000)) (f7 : 1 * x3 + ((-1) * x13 + 0) ≤ (-1)) (f8 : (-1) * x9 + ((-1) * x13 + 0) ≤ (-2000)) (f9 : (-1) * x4 + 0 ≤ 0) (f12 : 1 * from_0 + ((-1) * pos_0 + 0) ≤ 0) (f13 : ((kind_0 = 1) → (pos_0 ≤ (from_0 + 8))) ∧ ((kind_0 = 0) ∨ ((from_0 + 1) ≤ pos_0))) (f14 : 1 * x15 + ((-1) * pos_0 + 0) ≤ 0) (f15 : (-1) * fault_0 + 0 ≤ (-1)) (f17 : 1 * x15 + ((-1) * x13 + 0) ≤ 0) (f18 : (-1) * x15 + (1 * x13 + 0) ≤ 0) (f19 : 1 * x3 + ((-1) * x15 + 0) ≤ (-1)) (f20 : (-1) * x9 + ((-1) * x15 + 0) ≤ (-2000)) (f21 : 1 * x3 + ((-1) * x13 + 0) ≤ (-1)) (f22 : (-1) * x9 + ((-1) * x13 + 0) ≤ (-2000)) (f23 : (-1) * x4 + 0 ≤ 0) (f25 : 1 * x15 + ((-1) * x13 + 0) ≤ 0) (f26 : (-1) * x15 + (1 * x13 + 0) ≤ 0) (f27 : 1 * x3 + ((-1) * x15 + 0) ≤ (-1)) (f28 : (-1) * x9 + ((-1) * x15 + 0) ≤ (-2000)) (f29 : 1 * x3 + ((-1) * x13 + 0) ≤ (-1)) (f30 : (-1) * x9 + ((-1) * x13 + 0) ≤ (-2000)) (f31 : (-1) * x4 + 0 ≤ 0) (f33 : 1 * x3 + ((-1) * x13 + 0) ≤ (-1)) (f34 : (-1) * x9 + ((-1) * x13 + 0) ≤ (-2000)) (f35 : (-1) * x4 + 0 ≤ 0) (f37 : (-1) * x4 + 0 ≤ 0) (kz_0_8 : 0 ≤ fault_0 ∧ fault_0 ≤ 5) (kz_0_11 : 0 ≤ pos_0 ∧ pos_0 ≤ 2000) (kz_0_12 : 0 ≤ kind_0 ∧ kind_0 ≤ 4) (kz_0_15 : 0 ≤ from_0 ∧ from_0 ≤ 2000) : (-1) * x22 + 0 ≤ 0 := by
  first | assumption | (clear f13; omega) | omega | grind
def o_Mo_of_at_s5003_17 : or_T := (129, 23, [(0, (2, 0, 0, [165])), (2, (0, 9, 9, [])), (3, (0, 0, 2000, [])), (4, (0, -1, 48, [])), (7, (0, 9, 9, [])), (9, (0, 0, 2000, [])), (13, (0, 0, 2000, [])), (15, (0, 0, 2000, [])), (21, (0, 1, 5, [])), (22, (0, 0, 0, []))], [(8, [21], [4]), (9, [21, 5], [8]), (8, [21], [1]), (23, [15, 13], [0, 1, -1]), (23, [15, 13], [0, -1, 1]), (23, [3, 15], [-1, 1, -1]), (23, [9, 15], [-2000, -1, -1]), (23, [3, 13], [-1, 1, -1]), (23, [9, 13], [-2000, -1, -1]), (23, [4], [0, -1]), (24, [0, 5], []), (20, [5, 5], [30, 0, 1, 1, 15, -1, 1, 11]), (20, [5], [50, 3, 0, 12, 11, 15, 2, 21, 4, 7, 1, 3, 2, 0, 12, 0, 1, 0, 3, 2, 0, 11, 4, 3, 2, 0, 15, 0, 8, 3, 7, 1, 3, 2, 0, 12, 0, 0, 0, 7, 4, 3, 2, 0, 15, 0, 1, 2, 0, 11]), (20, [15, 5], [30, 0, 1, 0, 0, -1, 1, 11]), (20, [5], [30, -1, -1, 1, 8]), (102, [20], [0, 165008, 165009]), (23, [15, 13], [0, 1, -1]), (23, [15, 13], [0, -1, 1]), (23, [3, 15], [-1, 1, -1]), (23, [9, 15], [-2000, -1, -1]), (23, [3, 13], [-1, 1, -1]), (23, [9, 13], [-2000, -1, -1]), (23, [4], [0, -1]), (102, [15], [0, 165008, 165009, 165011, 165012, 165013, 165014, 165015]), (23, [15, 13], [0, 1, -1]), (23, [15, 13], [0, -1, 1]), (23, [3, 15], [-1, 1, -1]), (23, [9, 15], [-2000, -1, -1]), (23, [3, 13], [-1, 1, -1]), (23, [9, 13], [-2000, -1, -1]), (23, [4], [0, -1]), (102, [13], [0, 165011, 165012, 165013, 165014, 165015]), (23, [3, 13], [-1, 1, -1]), (23, [9, 13], [-2000, -1, -1]), (23, [4], [0, -1]), (102, [11], [0]), (23, [4], [0, -1])], [], [], [(20, [0, 0], [30, 0, 1, 1, 15, -1, 1, 11]), (20, [0], [50, 3, 0, 12, 11, 15, 2, 21, 4, 7, 1, 3, 2, 0, 12, 0, 1, 0, 3, 2, 0, 11, 4, 3, 2, 0, 15, 0, 8, 3, 7, 1, 3, 2, 0, 12, 0, 0, 0, 7, 4, 3, 2, 0, 15, 0, 1, 2, 0, 11]), (20, [3, 0], [30, 0, 1, 0, 0, -1, 1, 11]), (20, [0, 3], [50, 3, 0, 8, 12, 11, 3, 7, 0, 2, 0, 1, 2, 0, 8, 3, 7, 1, 3, 2, 0, 12, 0, 0, 0, 6, 4, 2, 1, 1, 0, 1, 2, 0, 11]), (20, [0, 4], [50, 1, 0, 8, 3, 7, 0, 2, 0, 1, 2, 0, 8, 0, 2, 0, 0, 1, 1]), (20, [22, 2], [30, 0, 1, 0, 0, -1, 0, 0]), (20, [22], [30, 0, -1, 0, 0])], [], [])
theorem oo_Mo_of_at_s5003_17 {kA : Nat → ClassId} : or_ok PRD kA GG o_Mo_of_at_s5003_17 := by
  refine or_mk fun A ta ws vs hD hth hl => ?_
  intro t0 r0 t2 k2 t3 k3 t4 k4 t7 k7 t9 k9 t13 k13 t15 k15 t21 k21 t22 k22 f0 f1 f2 f3 f4 f5 f6 f7 f8 f9 f10 f12 f13 f14 f15 ta1 w1 le1 s1 f17 f18 f19 f20 f21 f22 f23 ta2 w2 le2 s2 f25 f26 f27 f28 f29 f30 f31 ta3 w3 le3 s3 f33 f34 f35 ta4 w4 le4 s4 f37
  replace f1 := shm_143 f1
  replace f10 := shm_5 f10
  replace f12 := shm_1397 f12
  replace f13 := shm_1398 f13
  replace f14 := shm_1395 f14
  replace f15 := shm_144 f15
  have q5 : n_v vs 5 = n_v vs 0 := f10.symm
  simp only [q5] at f1 f12 f13 f14 f15
  have g1 : v_iv (n_v vs 21) = w_fi ws (n_v vs 0) 8 := congrArg v_iv f1
  have kz_0_8 := fdq_14 hD hth r0
  have kz_0_11 := fdq_273 hD hth r0
  have kz_0_12 := fdq_186 hD hth r0
  have kz_0_15 := fdq_274 hD hth r0
  have nf0 : fc_1 PRD (20, [0, 0], [30, 0, 1, 1, 15, -1, 1, 11]) ws (vs) := ⟨nf_in hl rfl, sgq_1397 (vc_Mo_of_at_s5003_17_0 (v_iv (n_v vs 2)) (v_iv (n_v vs 3)) (v_iv (n_v vs 4)) (v_iv (n_v vs 7)) (v_iv (n_v vs 9)) (v_iv (n_v vs 13)) (v_iv (n_v vs 15)) (v_iv (n_v vs 21)) (v_iv (n_v vs 22)) (w_fi ws (n_v vs 0) 8) (w_fi ws (n_v vs 0) 15) (w_fi ws (n_v vs 0) 11) (w_fi ws (n_v vs 0) 12) k2 k3 k4 k7 k9 k13 k15 k21 k22 (shm_145 f0) g1 (shm_154 f2) (shm_7 f3) (shm_22 f4) (shm_211 f5) (shm_1894 f6) (shm_211 f7) (shm_1894 f8) (shm_1013 f9) f12 f13 f14 f15 (shm_7 f17) (shm_22 f18) (shm_211 f19) (shm_1894 f20) (shm_211 f21) (shm_1894 f22) (shm_1013 f23) (shm_7 f25) (shm_22 f26) (shm_211 f27) (shm_1894 f28) (shm_211 f29) (shm_1894 f30) (shm_1013 f31) (shm_211 f33) (shm_1894 f34) (shm_1013 f35) (shm_1013 f37) kz_0_8 kz_0_11 kz_0_12 kz_0_15)⟩
  have nf1 : fc_1 PRD (20, [0], [50, 3, 0, 12, 11, 15, 2, 21, 4, 7, 1, 3, 2, 0, 12, 0, 1, 0, 3, 2, 0, 11, 4, 3, 2, 0, 15, 0, 8, 3, 7, 1, 3, 2, 0, 12, 0, 0, 0, 7, 4, 3, 2, 0, 15, 0, 1, 2, 0, 11]) ws (vs) := ⟨nf_in hl rfl, sgq_1398 (vc_Mo_of_at_s5003_17_1 (v_iv (n_v vs 2)) (v_iv (n_v vs 3)) (v_iv (n_v vs 4)) (v_iv (n_v vs 7)) (v_iv (n_v vs 9)) (v_iv (n_v vs 13)) (v_iv (n_v vs 15)) (v_iv (n_v vs 21)) (v_iv (n_v vs 22)) (w_fi ws (n_v vs 0) 8) (w_fi ws (n_v vs 0) 15) (w_fi ws (n_v vs 0) 11) (w_fi ws (n_v vs 0) 12) k2 k3 k4 k7 k9 k13 k15 k21 k22 (shm_145 f0) g1 (shm_154 f2) (shm_7 f3) (shm_22 f4) (shm_211 f5) (shm_1894 f6) (shm_211 f7) (shm_1894 f8) (shm_1013 f9) f12 f13 f14 f15 (shm_7 f17) (shm_22 f18) (shm_211 f19) (shm_1894 f20) (shm_211 f21) (shm_1894 f22) (shm_1013 f23) (shm_7 f25) (shm_22 f26) (shm_211 f27) (shm_1894 f28) (shm_211 f29) (shm_1894 f30) (shm_1013 f31) (shm_211 f33) (shm_1894 f34) (shm_1013 f35) (shm_1013 f37) kz_0_8 kz_0_11 kz_0_12 kz_0_15)⟩
  have nf2 : fc_1 PRD (20, [3, 0], [30, 0, 1, 0, 0, -1, 1, 11]) ws (vs) := ⟨nf_in hl rfl, sgq_1395 (vc_Mo_of_at_s5003_17_2 (v_iv (n_v vs 2)) (v_iv (n_v vs 3)) (v_iv (n_v vs 4)) (v_iv (n_v vs 7)) (v_iv (n_v vs 9)) (v_iv (n_v vs 13)) (v_iv (n_v vs 15)) (v_iv (n_v vs 21)) (v_iv (n_v vs 22)) (w_fi ws (n_v vs 0) 8) (w_fi ws (n_v vs 0) 15) (w_fi ws (n_v vs 0) 11) (w_fi ws (n_v vs 0) 12) k2 k3 k4 k7 k9 k13 k15 k21 k22 (shm_145 f0) g1 (shm_154 f2) (shm_7 f3) (shm_22 f4) (shm_211 f5) (shm_1894 f6) (shm_211 f7) (shm_1894 f8) (shm_1013 f9) f12 f13 f14 f15 (shm_7 f17) (shm_22 f18) (shm_211 f19) (shm_1894 f20) (shm_211 f21) (shm_1894 f22) (shm_1013 f23) (shm_7 f25) (shm_22 f26) (shm_211 f27) (shm_1894 f28) (shm_211 f29) (shm_1894 f30) (shm_1013 f31) (shm_211 f33) (shm_1894 f34) (shm_1013 f35) (shm_1013 f37) kz_0_8 kz_0_11 kz_0_12 kz_0_15)⟩
  have nf3 : fc_1 PRD (20, [0, 3], [50, 3, 0, 8, 12, 11, 3, 7, 0, 2, 0, 1, 2, 0, 8, 3, 7, 1, 3, 2, 0, 12, 0, 0, 0, 6, 4, 2, 1, 1, 0, 1, 2, 0, 11]) ws (vs) := ⟨nf_in hl rfl, sgq_1660 (vc_Mo_of_at_s5003_17_3 (v_iv (n_v vs 2)) (v_iv (n_v vs 3)) (v_iv (n_v vs 4)) (v_iv (n_v vs 7)) (v_iv (n_v vs 9)) (v_iv (n_v vs 13)) (v_iv (n_v vs 15)) (v_iv (n_v vs 21)) (v_iv (n_v vs 22)) (w_fi ws (n_v vs 0) 8) (w_fi ws (n_v vs 0) 15) (w_fi ws (n_v vs 0) 11) (w_fi ws (n_v vs 0) 12) k2 k3 k4 k7 k9 k13 k15 k21 k22 (shm_145 f0) g1 (shm_154 f2) (shm_7 f3) (shm_22 f4) (shm_211 f5) (shm_1894 f6) (shm_211 f7) (shm_1894 f8) (shm_1013 f9) f12 f13 f14 f15 (shm_7 f17) (shm_22 f18) (shm_211 f19) (shm_1894 f20) (shm_211 f21) (shm_1894 f22) (shm_1013 f23) (shm_7 f25) (shm_22 f26) (shm_211 f27) (shm_1894 f28) (shm_211 f29) (shm_1894 f30) (shm_1013 f31) (shm_211 f33) (shm_1894 f34) (shm_1013 f35) (shm_1013 f37) kz_0_8 kz_0_11 kz_0_12 kz_0_15)⟩
  have nf4 : fc_1 PRD (20, [0, 4], [50, 1, 0, 8, 3, 7, 0, 2, 0, 1, 2, 0, 8, 0, 2, 0, 0, 1, 1]) ws (vs) := ⟨nf_in hl rfl, sgq_1889 (vc_Mo_of_at_s5003_17_4 (v_iv (n_v vs 2)) (v_iv (n_v vs 3)) (v_iv (n_v vs 4)) (v_iv (n_v vs 7)) (v_iv (n_v vs 9)) (v_iv (n_v vs 13)) (v_iv (n_v vs 15)) (v_iv (n_v vs 21)) (v_iv (n_v vs 22)) (w_fi ws (n_v vs 0) 8) (w_fi ws (n_v vs 0) 15) (w_fi ws (n_v vs 0) 11) (w_fi ws (n_v vs 0) 12) k2 k3 k4 k7 k9 k13 k15 k21 k22 (shm_145 f0) g1 (shm_154 f2) (shm_7 f3) (shm_22 f4) (shm_211 f5) (shm_1894 f6) (shm_211 f7) (shm_1894 f8) (shm_1013 f9) f12 f13 f14 f15 (shm_7 f17) (shm_22 f18) (shm_211 f19) (shm_1894 f20) (shm_211 f21) (shm_1894 f22) (shm_1013 f23) (shm_7 f25) (shm_22 f26) (shm_211 f27) (shm_1894 f28) (shm_211 f29) (shm_1894 f30) (shm_1013 f31) (shm_211 f33) (shm_1894 f34) (shm_1013 f35) (shm_1013 f37) kz_0_8 kz_0_11 kz_0_12 kz_0_15)⟩
  have nf5 : fc_1 PRD (20, [22, 2], [30, 0, 1, 0, 0, -1, 0, 0]) ws (vs) := ⟨nf_in hl rfl, sgq_219 (vc_Mo_of_at_s5003_17_5 (v_iv (n_v vs 2)) (v_iv (n_v vs 3)) (v_iv (n_v vs 4)) (v_iv (n_v vs 7)) (v_iv (n_v vs 9)) (v_iv (n_v vs 13)) (v_iv (n_v vs 15)) (v_iv (n_v vs 21)) (v_iv (n_v vs 22)) (w_fi ws (n_v vs 0) 8) (w_fi ws (n_v vs 0) 15) (w_fi ws (n_v vs 0) 11) (w_fi ws (n_v vs 0) 12) k2 k3 k4 k7 k9 k13 k15 k21 k22 (shm_145 f0) g1 (shm_154 f2) (shm_7 f3) (shm_22 f4) (shm_211 f5) (shm_1894 f6) (shm_211 f7) (shm_1894 f8) (shm_1013 f9) f12 f13 f14 f15 (shm_7 f17) (shm_22 f18) (shm_211 f19) (shm_1894 f20) (shm_211 f21) (shm_1894 f22) (shm_1013 f23) (shm_7 f25) (shm_22 f26) (shm_211 f27) (shm_1894 f28) (shm_211 f29) (shm_1894 f30) (shm_1013 f31) (shm_211 f33) (shm_1894 f34) (shm_1013 f35) (shm_1013 f37) kz_0_8 kz_0_11 kz_0_12 kz_0_15)⟩
  have nf6 : fc_1 PRD (20, [22], [30, 0, -1, 0, 0]) ws (vs) := ⟨nf_in hl rfl, sgq_1890 (vc_Mo_of_at_s5003_17_6 (v_iv (n_v vs 2)) (v_iv (n_v vs 3)) (v_iv (n_v vs 4)) (v_iv (n_v vs 7)) (v_iv (n_v vs 9)) (v_iv (n_v vs 13)) (v_iv (n_v vs 15)) (v_iv (n_v vs 21)) (v_iv (n_v vs 22)) (w_fi ws (n_v vs 0) 8) (w_fi ws (n_v vs 0) 15) (w_fi ws (n_v vs 0) 11) (w_fi ws (n_v vs 0) 12) k2 k3 k4 k7 k9 k13 k15 k21 k22 (shm_145 f0) g1 (shm_154 f2) (shm_7 f3) (shm_22 f4) (shm_211 f5) (shm_1894 f6) (shm_211 f7) (shm_1894 f8) (shm_1013 f9) f12 f13 f14 f15 (shm_7 f17) (shm_22 f18) (shm_211 f19) (shm_1894 f20) (shm_211 f21) (shm_1894 f22) (shm_1013 f23) (shm_7 f25) (shm_22 f26) (shm_211 f27) (shm_1894 f28) (shm_211 f29) (shm_1894 f30) (shm_1013 f31) (shm_211 f33) (shm_1894 f34) (shm_1013 f35) (shm_1013 f37) kz_0_8 kz_0_11 kz_0_12 kz_0_15)⟩
  refine ⟨(fun _ h => (by cases h)), [], trivial, ?_, (fun _ h => (by cases h))⟩
  rw [List.append_nil]
  exact List.forall_mem_cons.mpr ⟨⟨show (20 : Nat) < 100 from by decide, nf0⟩, List.forall_mem_cons.mpr ⟨⟨show (20 : Nat) < 100 from by decide, nf1⟩, List.forall_mem_cons.mpr ⟨⟨show (20 : Nat) < 100 from by decide, nf2⟩, List.forall_mem_cons.mpr ⟨⟨show (20 : Nat) < 100 from by decide, nf3⟩, List.forall_mem_cons.mpr ⟨⟨show (20 : Nat) < 100 from by decide, nf4⟩, List.forall_mem_cons.mpr ⟨⟨show (20 : Nat) < 100 from by decide, nf5⟩, List.forall_mem_cons.mpr ⟨⟨show (20 : Nat) < 100 from by decide, nf6⟩, (fun _ h => (by cases h))⟩⟩⟩⟩⟩⟩⟩
set_option maxHeartbeats 4000000 in
theorem vc_Mo_of_at_s5003_18_0 (x2 : Int) (x3 : Int) (x7 : Int) (x8 : Int) (x9 : Int) (x13 : Int) (x15 : Int) (x22 : Int) (x26 : Int) (value_0 : Int) (fault_0 : Int) (from_0 : Int) (pos_0 : Int) (kind_0 : Int) (k2 : 9 ≤ x2 ∧ x2 ≤ 9) (k3 : 0 ≤ x3 ∧ x3 ≤ 2000) (k7 : 9 ≤ x7 ∧ x7 ≤ 9) (k8 : (-2147483648) ≤ x8 ∧ x8 ≤ 0) (k9 : 0 ≤ x9 ∧ x9 ≤ 2000) (k13 : 0 ≤ x13 ∧ x13 ≤ 2000) (k15 : 0 ≤ x15 ∧ x15 ≤ 2000) (k22 : (-2147483648) ≤ x22 ∧ x22 ≤ 0) (k26 : 0 ≤ x26 ∧ x26 ≤ 0) (g0 : x22 = value_0) (f1 : x26 ≤ 0) (g2 : x26 = fault_0) (f3 : 1 * x15 + ((-1) * x13 + 0) ≤ 0) (f4 : (-1) * x15 + (1 * x13 + 0) ≤ 0) (f5 : 1 * x3 + ((-1) * x15 + 0) ≤ (-1)) (f6 : (-1) * x9 + ((-1) * x15 + 0) ≤ (-2000)) (f7 : 1 * x3 + ((-1) * x13 + 0) ≤ (-1)) (f8 : (-1) * x9 + ((-1) * x13 + 0) ≤ (-2000)) (f9 : 1 * x8 + ((-1) * x2 + 0) ≤ 0) (f10 : (-1) * x8 + 0 ≤ 0) (f13 : 1 * from_0 + ((-1) * pos_0 + 0) ≤ 0) (f14 : ((kind_0 = 1) → (pos_0 ≤ (from_0 + 8))) ∧ ((kind_0 = 0) ∨ ((from_0 + 1) ≤ pos_0))) (f15 : 1 * x15 + ((-1) * pos_0 + 0) ≤ 0) (f16 : (-1) * fault_0 + 0 ≤ (-1)) (f18 : 1 * x15 + ((-1) * x13 + 0) ≤ 0) (f19 : (-1) * x15 + (1 * x13 + 0) ≤ 0) (f20 : 1 * x3 + ((-1) * x15 + 0) ≤ (-1)) (f21 : (-1) * x9 + ((-1) * x15 + 0) ≤ (-2000)) (f22 : 1 * x3 + ((-1) * x13 + 0) ≤ (-1)) (f23 : (-1) * x9 + ((-1) * x13 + 0) ≤ (-2000)) (f24 : 1 * x8 + ((-1) * x2 + 0) ≤ 0) (f25 : (-1) * x8 + 0 ≤ 0) (f27 : 1 * x15 + ((-1) * x13 + 0) ≤ 0) (f28 : (-1) * x15 + (1 * x13 + 0) ≤ 0) (f29 : 1 * x3 + ((-1) * x15 + 0) ≤ (-1)) (f30 : (-1) * x9 + ((-1) * x15 + 0) ≤ (-2000)) (f31 : 1 * x3 + ((-1) * x13 + 0) ≤ (-1)) (f32 : (-1) * x9 + ((-1) * x13 + 0) ≤ (-2000)) (f33 : 1 * x8 + ((-1) * x2 + 0) ≤ 0) (f34 : (-1) * x8 + 0 ≤ 0) (f36 : 1 * x15 + ((-1) * x13 + 0) ≤ 0) (f37 : (-1) * x15 + (1 * x13 + 0) ≤ 0) (f38 : 1 * x3 + ((-1) * x15 + 0) ≤ (-1)) (f39 : (-1) * x9 + ((-1) * x15 + 0) ≤ (-2000)) (f40 : 1 * x3 + ((-1) * x13 + 0) ≤ (-1)) (f41 : (-1) * x9 + ((-1) * x13 + 0) ≤ (-2000)) (f42 : 1 * x8 + ((-1) * x2 + 0) ≤ 0) (f43 : (-1) * x8 + 0 ≤ 0) (f45 : 1 * x3 + ((-1) * x13 + 0) ≤ (-1)) (f46 : (-1) * x9 + ((-1) * x13 + 0) ≤ (-2000)) (f47 : x8 ≤ 0) (f48 : 1 * x8 + ((-1) * x2 + 0) ≤ 0) (f49 : (-1) * x8 + 0 ≤ 0) (f51 : 1 * x8 + ((-1) * x2 + 0) ≤ 0) (f52 : (-1) * x8 + 0 ≤ 0) (kz_0_8 : 0 ≤ fault_0 ∧ fault_0 ≤ 5) (kz_0_11 : 0 ≤ pos_0 ∧ pos_0 ≤ 2000) (kz_0_12 : 0 ≤ kind_0 ∧ kind_0 ≤ 4) (kz_0_14 : (-2147483648) ≤ value_0 ∧ value_0 ≤ 2147483647) (kz_0_15 : 0 ≤ from_0 ∧ from_0 ≤ 2000) : 1 * x22 + ((-1) * x2 + 0) ≤ 0 := by
  first | assumption | (clear f14; omega) | omega | grind
set_option maxHeartbeats 4000000 in
theorem vc_Mo_of_at_s5003_18_1 (x2 : Int) (x3 : Int) (x7 : Int) (x8 : Int) (x9 : Int) (x13 : Int) (x15 : Int) (x22 : Int) (x26 : Int) (value_0 : Int) (fault_0 : Int) (from_0 : Int) (pos_0 : Int) (kind_0 : Int) (k2 : 9 ≤ x2 ∧ x2 ≤ 9) (k3 : 0 ≤ x3 ∧ x3 ≤ 2000) (k7 : 9 ≤ x7 ∧ x7 ≤ 9) (k8 : (-2147483648) ≤ x8 ∧ x8 ≤ 0) (k9 : 0 ≤ x9 ∧ x9 ≤ 2000) (k13 : 0 ≤ x13 ∧ x13 ≤ 2000) (k15 : 0 ≤ x15 ∧ x15 ≤ 2000) (k22 : (-2147483648) ≤ x22 ∧ x22 ≤ 0) (k26 : 0 ≤ x26 ∧ x26 ≤ 0) (g0 : x22 = value_0) (f1 : x26 ≤ 0) (g2 : x26 = fault_0) (f3 : 1 * x15 + ((-1) * x13 + 0) ≤ 0) (f4 : (-1) * x15 + (1 * x13 + 0) ≤ 0) (f5 : 1 * x3 + ((-1) * x15 + 0) ≤ (-1)) (f6 : (-1) * x9 + ((-1) * x15 + 0) ≤ (-2000)) (f7 : 1 * x3 + ((-1) * x13 + 0) ≤ (-1)) (f8 : (-1) * x9 + ((-1) * x13 + 0) ≤ (-2000)) (f9 : 1 * x8 + ((-1) * x2 + 0) ≤ 0) (f10 : (-1) * x8 + 0 ≤ 0) (f13 : 1 * from_0 + ((-1) * pos_0 + 0) ≤ 0) (f14 : ((kind_0 = 1) → (pos_0 ≤ (from_0 + 8))) ∧ ((kind_0 = 0) ∨ ((from_0 + 1) ≤ pos_0))) (f15 : 1 * x15 + ((-1) * pos_0 + 0) ≤ 0) (f16 : (-1) * fault_0 + 0 ≤ (-1)) (f18 : 1 * x15 + ((-1) * x13 + 0) ≤ 0) (f19 : (-1) * x15 + (1 * x13 + 0) ≤ 0) (f20 : 1 * x3 + ((-1) * x15 + 0) ≤ (-1)) (f21 : (-1) * x9 + ((-1) * x15 + 0) ≤ (-2000)) (f22 : 1 * x3 + ((-1) * x13 + 0) ≤ (-1)) (f23 : (-1) * x9 + ((-1) * x13 + 0) ≤ (-2000)) (f24 : 1 * x8 + ((-1) * x2 + 0) ≤ 0) (f25 : (-1) * x8 + 0 ≤ 0) (f27 : 1 * x15 + ((-1) * x13 + 0) ≤ 0) (f28 : (-1) * x15 + (1 * x13 + 0) ≤ 0) (f29 : 1 * x3 + ((-1) * x15 + 0) ≤ (-1)) (f30 : (-1) * x9 + ((-1) * x15 + 0) ≤ (-2000)) (f31 : 1 * x3 + ((-1) * x13 + 0) ≤ (-1)) (f32 : (-1) * x9 + ((-1) * x13 + 0) ≤ (-2000)) (f33 : 1 * x8 + ((-1) * x2 + 0) ≤ 0) (f34 : (-1) * x8 + 0 ≤ 0) (f36 : 1 * x15 + ((-1) * x13 + 0) ≤ 0) (f37 : (-1) * x15 + (1 * x13 + 0) ≤ 0) (f38 : 1 * x3 + ((-1) * x15 + 0) ≤ (-1)) (f39 : (-1) * x9 + ((-1) * x15 + 0) ≤ (-2000)) (f40 : 1 * x3 + ((-1) * x13 + 0) ≤ (-1)) (f41 : (-1) * x9 + ((-1) * x13 + 0) ≤ (-2000)) (f42 : 1 * x8 + ((-1) * x2 + 0) ≤ 0) (f43 : (-1) * x8 + 0 ≤ 0) (f45 : 1 * x3 + ((-1) * x13 + 0) ≤ (-1)) (f46 : (-1) * x9 + ((-1) * x13 + 0) ≤ (-2000)) (f47 : x8 ≤ 0) (f48 : 1 * x8 + ((-1) * x2 + 0) ≤ 0) (f49 : (-1) * x8 + 0 ≤ 0) (f51 : 1 * x8 + ((-1) * x2 + 0) ≤ 0) (f52 : (-1) * x8 + 0 ≤ 0) (kz_0_8 : 0 ≤ fault_0 ∧ fault_0 ≤ 5) (kz_0_11 : 0 ≤ pos_0 ∧ pos_0 ≤ 2000) (kz_0_12 : 0 ≤ kind_0 ∧ kind_0 ≤ 4) (kz_0_14 : (-2147483648) ≤ value_0 ∧ value_0 ≤ 2147483647) (kz_0_15 : 0 ≤ from_0 ∧ from_0 ≤ 2000) : (-1) * x22 + 0 ≤ 0 := by
  first | assumption | (clear f14; omega) | omega | grind
def o_Mo_of_at_s5003_18 : or_T := (135, 27, [(0, (2, 0, 0, [165])), (2, (0, 9, 9, [])), (3, (0, 0, 2000, [])), (5, (2, 0, 0, [165])), (7, (0, 9, 9, [])), (8, (0, -2147483648, 0, [])), (9, (0, 0, 2000, [])), (13, (0, 0, 2000, [])), (15, (0, 0, 2000, [])), (22, (0, -2147483648, 0, [])), (26, (0, 0, 0, []))], [(9, [22, 5], [14]), (8, [26], [5]), (9, [26, 5], [8]), (23, [15, 13], [0, 1, -1]), (23, [15, 13], [0, -1, 1]), (23, [3, 15], [-1, 1, -1]), (23, [9, 15], [-2000, -1, -1]), (23, [3, 13], [-1, 1, -1]), (23, [9, 13], [-2000, -1, -1]), (23, [8, 7], [0, 1, -1]), (23, [8], [0, -1]), (24, [0, 5], []), (24, [2, 7], []), (20, [5, 5], [30, 0, 1, 1, 15, -1, 1, 11]), (20, [5], [50, 3, 0, 12, 11, 15, 2, 21, 4, 7, 1, 3, 2, 0, 12, 0, 1, 0, 3, 2, 0, 11, 4, 3, 2, 0, 15, 0, 8, 3, 7, 1, 3, 2, 0, 12, 0, 0, 0, 7, 4, 3, 2, 0, 15, 0, 1, 2, 0, 11]), (20, [15, 5], [30, 0, 1, 0, 0, -1, 1, 11]), (20, [5], [30, -1, -1, 1, 8]), (102, [25], [0, 165008, 165009]), (23, [15, 13], [0, 1, -1]), (23, [15, 13], [0, -1, 1]), (23, [3, 15], [-1, 1, -1]), (23, [9, 15], [-2000, -1, -1]), (23, [3, 13], [-1, 1, -1]), (23, [9, 13], [-2000, -1, -1]), (23, [8, 7], [0, 1, -1]), (23, [8], [0, -1]), (102, [20], [0, 165008, 165009]), (23, [15, 13], [0, 1, -1]), (23, [15, 13], [0, -1, 1]), (23, [3, 15], [-1, 1, -1]), (23, [9, 15], [-2000, -1, -1]), (23, [3, 13], [-1, 1, -1]), (23, [9, 13], [-2000, -1, -1]), (23, [8, 7], [0, 1, -1]), (23, [8], [0, -1]), (102, [15], [0, 165008, 165009, 165011, 165012, 165013, 165014, 165015]), (23, [15, 13], [0, 1, -1]), (23, [15, 13], [0, -1, 1]), (23, [3, 15], [-1, 1, -1]), (23, [9, 15], [-2000, -1, -1]), (23, [3, 13], [-1, 1, -1]), (23, [9, 13], [-2000, -1, -1]), (23, [8, 7], [0, 1, -1]), (23, [8], [0, -1]), (102, [13], [0, 165011, 165012, 165013, 165014, 165015]), (23, [3, 13], [-1, 1, -1]), (23, [9, 13], [-2000, -1, -1]), (8, [8], [5]), (23, [8, 7], [0, 1, -1]), (23, [8], [0, -1]), (102, [11], [0]), (23, [8, 7], [0, 1, -1]), (23, [8], [0, -1])], [], [], [(23, [22, 7], [0, 1, -1]), (23, [22], [0, -1])], [], [])
theorem oo_Mo_of_at_s5003_18 {kA : Nat → ClassId} : or_ok PRD kA GG o_Mo_of_at_s5003_18 := by
  refine or_mk fun A ta ws vs hD hth hl => ?_
  intro t0 r0 t2 k2 t3 k3 t5 r5 t7 k7 t8 k8 t9 k9 t13 k13 t15 k15 t22 k22 t26 k26 f0 f1 f2 f3 f4 f5 f6 f7 f8 f9 f10 f11 f12 f13 f14 f15 f16 ta1 w1 le1 s1 f18 f19 f20 f21 f22 f23 f24 f25 ta2 w2 le2 s2 f27 f28 f29 f30 f31 f32 f33 f34 ta3 w3 le3 s3 f36 f37 f38 f39 f40 f41 f42 f43 ta4 w4 le4 s4 f45 f46 f47 f48 f49 ta5 w5 le5 s5 f51 f52
  replace f0 := shm_116 f0
  replace f1 := shm_142 f1
  replace f2 := shm_143 f2
  replace f3 := shm_7 f3
  replace f4 := shm_22 f4
  replace f5 := shm_211 f5
  replace f6 := shm_1894 f6
  replace f7 := shm_211 f7
  replace f8 := shm_1894 f8
  replace f9 := shm_7 f9
  replace f10 := shm_1013 f10
  replace f11 := shm_5 f11
  replace f12 := shm_5 f12
  replace f13 := shm_1397 f13
  replace f14 := shm_1398 f14
  replace f15 := shm_1395 f15
  replace f16 := shm_144 f16
  replace f18 := shm_7 f18
  replace f19 := shm_22 f19
  replace f20 := shm_211 f20
  replace f21 := shm_1894 f21
  replace f22 := shm_211 f22
  replace f23 := shm_1894 f23
  replace f24 := shm_7 f24
  replace f25 := shm_1013 f25
  replace f27 := shm_7 f27
  replace f28 := shm_22 f28
  replace f29 := shm_211 f29
  replace f30 := shm_1894 f30
  replace f31 := shm_211 f31
  replace f32 := shm_1894 f32
  replace f33 := shm_7 f33
  replace f34 := shm_1013 f34
  replace f36 := shm_7 f36
  replace f37 := shm_22 f37
  replace f38 := shm_211 f38
  replace f39 := shm_1894 f39
  replace f40 := shm_211 f40
  replace f41 := shm_1894 f41
  replace f42 := shm_7 f42
  replace f43 := shm_1013 f43
  replace f45 := shm_211 f45
  replace f46 := shm_1894 f46
  replace f47 := shm_142 f47
  replace f48 := shm_7 f48
  replace f49 := shm_1013 f49
  replace f51 := shm_7 f51
  replace f52 := shm_1013 f52
  have q5 : n_v vs 5 = n_v vs 0 := f11.symm
  have q7 : n_v vs 7 = n_v vs 2 := f12.symm
  simp only [q5, q7] at f0 f2 f9 f13 f14 f15 f16 f24 f33 f42 f48 f51
  have g0 : v_iv (n_v vs 22) = w_fi ws (n_v vs 0) 14 := congrArg v_iv f0
  have g2 : v_iv (n_v vs 26) = w_fi ws (n_v vs 0) 8 := congrArg v_iv f2
  have kz_0_8 := fdq_14 hD hth r0
  have kz_0_11 := fdq_273 hD hth r0
  have kz_0_12 := fdq_186 hD hth r0
  have kz_0_14 := fdq_311 hD hth r0
  have kz_0_15 := fdq_274 hD hth r0
  have nf0 : fc_1 PRD (23, [22, 7], [0, 1, -1]) ws (vs) := by
    refine ⟨nf_in hl rfl, sgq_7 ?_⟩
    · show 1 * v_iv (n_v vs 22) + ((-1) * v_iv (n_v vs 7) + 0) ≤ 0
      rw [q7]
      exact vc_Mo_of_at_s5003_18_0 (v_iv (n_v vs 2)) (v_iv (n_v vs 3)) (v_iv (n_v vs 7)) (v_iv (n_v vs 8)) (v_iv (n_v vs 9)) (v_iv (n_v vs 13)) (v_iv (n_v vs 15)) (v_iv (n_v vs 22)) (v_iv (n_v vs 26)) (w_fi ws (n_v vs 0) 14) (w_fi ws (n_v vs 0) 8) (w_fi ws (n_v vs 0) 15) (w_fi ws (n_v vs 0) 11) (w_fi ws (n_v vs 0) 12) k2 k3 k7 k8 k9 k13 k15 k22 k26 g0 f1 g2 f3 f4 f5 f6 f7 f8 f9 f10 f13 f14 f15 f16 f18 f19 f20 f21 f22 f23 f24 f25 f27 f28 f29 f30 f31 f32 f33 f34 f36 f37 f38 f39 f40 f41 f42 f43 f45 f46 f47 f48 f49 f51 f52 kz_0_8 kz_0_11 kz_0_12 kz_0_14 kz_0_15
  have nf1 : fc_1 PRD (23, [22], [0, -1]) ws (vs) := ⟨nf_in hl rfl, sgq_1013 (vc_Mo_of_at_s5003_18_1 (v_iv (n_v vs 2)) (v_iv (n_v vs 3)) (v_iv (n_v vs 7)) (v_iv (n_v vs 8)) (v_iv (n_v vs 9)) (v_iv (n_v vs 13)) (v_iv (n_v vs 15)) (v_iv (n_v vs 22)) (v_iv (n_v vs 26)) (w_fi ws (n_v vs 0) 14) (w_fi ws (n_v vs 0) 8) (w_fi ws (n_v vs 0) 15) (w_fi ws (n_v vs 0) 11) (w_fi ws (n_v vs 0) 12) k2 k3 k7 k8 k9 k13 k15 k22 k26 g0 f1 g2 f3 f4 f5 f6 f7 f8 f9 f10 f13 f14 f15 f16 f18 f19 f20 f21 f22 f23 f24 f25 f27 f28 f29 f30 f31 f32 f33 f34 f36 f37 f38 f39 f40 f41 f42 f43 f45 f46 f47 f48 f49 f51 f52 kz_0_8 kz_0_11 kz_0_12 kz_0_14 kz_0_15)⟩
  refine ⟨(fun _ h => (by cases h)), [], trivial, ?_, (fun _ h => (by cases h))⟩
  rw [List.append_nil]
  exact List.forall_mem_cons.mpr ⟨⟨show (23 : Nat) < 100 from by decide, nf0⟩, List.forall_mem_cons.mpr ⟨⟨show (23 : Nat) < 100 from by decide, nf1⟩, (fun _ h => (by cases h))⟩⟩
set_option maxHeartbeats 4000000 in
theorem vc_Mo_of_at_s5003_19_0 (x2 : Int) (x3 : Int) (x7 : Int) (x9 : Int) (x13 : Int) (x15 : Int) (x26 : Int) (fault_0 : Int) (from_0 : Int) (pos_0 : Int) (kind_0 : Int) (gx : Int) (k2 : 9 ≤ x2 ∧ x2 ≤ 9) (k3 : 0 ≤ x3 ∧ x3 ≤ 2000) (k7 : 9 ≤ x7 ∧ x7 ≤ 9) (k9 : 0 ≤ x9 ∧ x9 ≤ 2000) (k13 : 0 ≤ x13 ∧ x13 ≤ 2000) (k15 : 0 ≤ x15 ∧ x15 ≤ 2000) (k26 : 0 ≤ x26 ∧ x26 ≤ 0) (f0 : x26 ≤ 0) (g1 : x26 = fault_0) (f2 : 1 * x15 + ((-1) * x13 + 0) ≤ 0) (f3 : (-1) * x15 + (1 * x13 + 0) ≤ 0) (f4 : 1 * x3 + ((-1) * x15 + 0) ≤ (-1)) (f5 : (-1) * x9 + ((-1) * x15 + 0) ≤ (-2000)) (f6 : 1 * x3 + ((-1) * x13 + 0) ≤ (-1)) (f7 : (-1) * x9 + ((-1) * x13 + 0) ≤ (-2000)) (f10 : 1 * from_0 + ((-1) * pos_0 + 0) ≤ 0) (f11 : ((kind_0 = 1) → (pos_0 ≤ (from_0 + 8))) ∧ ((kind_0 = 0) ∨ ((from_0 + 1) ≤ pos_0))) (f12 : 1 * x15 + ((-1) * pos_0 + 0) ≤ 0) (f13 : (-1) * fault_0 + 0 ≤ (-1)) (f15 : 1 * x15 + ((-1) * x13 + 0) ≤ 0) (f16 : (-1) * x15 + (1 * x13 + 0) ≤ 0) (f17 : 1 * x3 + ((-1) * x15 + 0) ≤ (-1)) (f18 : (-1) * x9 + ((-1) * x15 + 0) ≤ (-2000)) (f19 : 1 * x3 + ((-1) * x13 + 0) ≤ (-1)) (f20 : (-1) * x9 + ((-1) * x13 + 0) ≤ (-2000)) (f22 : 1 * x15 + ((-1) * x13 + 0) ≤ 0) (f23 : (-1) * x15 + (1 * x13 + 0) ≤ 0) (f24 : 1 * x3 + ((-1) * x15 + 0) ≤ (-1)) (f25 : (-1) * x9 + ((-1) * x15 + 0) ≤ (-2000)) (f26 : 1 * x3 + ((-1) * x13 + 0) ≤ (-1)) (f27 : (-1) * x9 + ((-1) * x13 + 0) ≤ (-2000)) (f29 : 1 * x15 + ((-1) * x13 + 0) ≤ 0) (f30 : (-1) * x15 + (1 * x13 + 0) ≤ 0) (f31 : 1 * x3 + ((-1) * x15 + 0) ≤ (-1)) (f32 : (-1) * x9 + ((-1) * x15 + 0) ≤ (-2000)) (f33 : 1 * x3 + ((-1) * x13 + 0) ≤ (-1)) (f34 : (-1) * x9 + ((-1) * x13 + 0) ≤ (-2000)) (f36 : 1 * x3 + ((-1) * x13 + 0) ≤ (-1)) (f37 : (-1) * x9 + ((-1) * x13 + 0) ≤ (-2000)) (kz_0_8 : 0 ≤ fault_0 ∧ fault_0 ≤ 5) (kz_0_11 : 0 ≤ pos_0 ∧ pos_0 ≤ 2000) (kz_0_12 : 0 ≤ kind_0 ∧ kind_0 ≤ 4) (kz_0_15 : 0 ≤ from_0 ∧ from_0 ≤ 2000) (ex2 : gx = pos_0) (ex3 : 0 ≤ gx ∧ gx ≤ 2000) : 1 * gx + ((-1) * pos_0 + 0) ≤ 0 := by
  first | assumption | (clear f11; omega) | omega | grind
set_option maxHeartbeats 4000000 in
theorem vc_Mo_of_at_s5003_19_1 (x2 : Int) (x3 : Int) (x7 : Int) (x9 : Int) (x13 : Int) (x15 : Int) (x26 : Int) (fault_0 : Int) (from_0 : Int) (pos_0 : Int) (kind_0 : Int) (gx : Int) (k2 : 9 ≤ x2 ∧ x2 ≤ 9) (k3 : 0 ≤ x3 ∧ x3 ≤ 2000) (k7 : 9 ≤ x7 ∧ x7 ≤ 9) (k9 : 0 ≤ x9 ∧ x9 ≤ 2000) (k13 : 0 ≤ x13 ∧ x13 ≤ 2000) (k15 : 0 ≤ x15 ∧ x15 ≤ 2000) (k26 : 0 ≤ x26 ∧ x26 ≤ 0) (f0 : x26 ≤ 0) (g1 : x26 = fault_0) (f2 : 1 * x15 + ((-1) * x13 + 0) ≤ 0) (f3 : (-1) * x15 + (1 * x13 + 0) ≤ 0) (f4 : 1 * x3 + ((-1) * x15 + 0) ≤ (-1)) (f5 : (-1) * x9 + ((-1) * x15 + 0) ≤ (-2000)) (f6 : 1 * x3 + ((-1) * x13 + 0) ≤ (-1)) (f7 : (-1) * x9 + ((-1) * x13 + 0) ≤ (-2000)) (f10 : 1 * from_0 + ((-1) * pos_0 + 0) ≤ 0) (f11 : ((kind_0 = 1) → (pos_0 ≤ (from_0 + 8))) ∧ ((kind_0 = 0) ∨ ((from_0 + 1) ≤ pos_0))) (f12 : 1 * x15 + ((-1) * pos_0 + 0) ≤ 0) (f13 : (-1) * fault_0 + 0 ≤ (-1)) (f15 : 1 * x15 + ((-1) * x13 + 0) ≤ 0) (f16 : (-1) * x15 + (1 * x13 + 0) ≤ 0) (f17 : 1 * x3 + ((-1) * x15 + 0) ≤ (-1)) (f18 : (-1) * x9 + ((-1) * x15 + 0) ≤ (-2000)) (f19 : 1 * x3 + ((-1) * x13 + 0) ≤ (-1)) (f20 : (-1) * x9 + ((-1) * x13 + 0) ≤ (-2000)) (f22 : 1 * x15 + ((-1) * x13 + 0) ≤ 0) (f23 : (-1) * x15 + (1 * x13 + 0) ≤ 0) (f24 : 1 * x3 + ((-1) * x15 + 0) ≤ (-1)) (f25 : (-1) * x9 + ((-1) * x15 + 0) ≤ (-2000)) (f26 : 1 * x3 + ((-1) * x13 + 0) ≤ (-1)) (f27 : (-1) * x9 + ((-1) * x13 + 0) ≤ (-2000)) (f29 : 1 * x15 + ((-1) * x13 + 0) ≤ 0) (f30 : (-1) * x15 + (1 * x13 + 0) ≤ 0) (f31 : 1 * x3 + ((-1) * x15 + 0) ≤ (-1)) (f32 : (-1) * x9 + ((-1) * x15 + 0) ≤ (-2000)) (f33 : 1 * x3 + ((-1) * x13 + 0) ≤ (-1)) (f34 : (-1) * x9 + ((-1) * x13 + 0) ≤ (-2000)) (f36 : 1 * x3 + ((-1) * x13 + 0) ≤ (-1)) (f37 : (-1) * x9 + ((-1) * x13 + 0) ≤ (-2000)) (kz_0_8 : 0 ≤ fault_0 ∧ fault_0 ≤ 5) (kz_0_11 : 0 ≤ pos_0 ∧ pos_0 ≤ 2000) (kz_0_12 : 0 ≤ kind_0 ∧ kind_0 ≤ 4) (kz_0_15 : 0 ≤ from_0 ∧ from_0 ≤ 2000) (ex2 : gx = pos_0) (ex3 : 0 ≤ gx ∧ gx ≤ 2000) : 1 * x3 + ((-1) * gx + 0) ≤ (-1) := by
  first | assumption | (clear f11; omega) | omega | grind
set_option maxHeartbeats 4000000 in
theorem vc_Mo_of_at_s5003_19_2 (x2 : Int) (x3 : Int) (x7 : Int) (x9 : Int) (x13 : Int) (x15 : Int) (x26 : Int) (fault_0 : Int) (from_0 : Int) (pos_0 : Int) (kind_0 : Int) (gx : Int) (k2 : 9 ≤ x2 ∧ x2 ≤ 9) (k3 : 0 ≤ x3 ∧ x3 ≤ 2000) (k7 : 9 ≤ x7 ∧ x7 ≤ 9) (k9 : 0 ≤ x9 ∧ x9 ≤ 2000) (k13 : 0 ≤ x13 ∧ x13 ≤ 2000) (k15 : 0 ≤ x15 ∧ x15 ≤ 2000) (k26 : 0 ≤ x26 ∧ x26 ≤ 0) (f0 : x26 ≤ 0) (g1 : x26 = fault_0) (f2 : 1 * x15 + ((-1) * x13 + 0) ≤ 0) (f3 : (-1) * x15 + (1 * x13 + 0) ≤ 0) (f4 : 1 * x3 + ((-1) * x15 + 0) ≤ (-1)) (f5 : (-1) * x9 + ((-1) * x15 + 0) ≤ (-2000)) (f6 : 1 * x3 + ((-1) * x13 + 0) ≤ (-1)) (f7 : (-1) * x9 + ((-1) * x13 + 0) ≤ (-2000)) (f10 : 1 * from_0 + ((-1) * pos_0 + 0) ≤ 0) (f11 : ((kind_0 = 1) → (pos_0 ≤ (from_0 + 8))) ∧ ((kind_0 = 0) ∨ ((from_0 + 1) ≤ pos_0))) (f12 : 1 * x15 + ((-1) * pos_0 + 0) ≤ 0) (f13 : (-1) * fault_0 + 0 ≤ (-1)) (f15 : 1 * x15 + ((-1) * x13 + 0) ≤ 0) (f16 : (-1) * x15 + (1 * x13 + 0) ≤ 0) (f17 : 1 * x3 + ((-1) * x15 + 0) ≤ (-1)) (f18 : (-1) * x9 + ((-1) * x15 + 0) ≤ (-2000)) (f19 : 1 * x3 + ((-1) * x13 + 0) ≤ (-1)) (f20 : (-1) * x9 + ((-1) * x13 + 0) ≤ (-2000)) (f22 : 1 * x15 + ((-1) * x13 + 0) ≤ 0) (f23 : (-1) * x15 + (1 * x13 + 0) ≤ 0) (f24 : 1 * x3 + ((-1) * x15 + 0) ≤ (-1)) (f25 : (-1) * x9 + ((-1) * x15 + 0) ≤ (-2000)) (f26 : 1 * x3 + ((-1) * x13 + 0) ≤ (-1)) (f27 : (-1) * x9 + ((-1) * x13 + 0) ≤ (-2000)) (f29 : 1 * x15 + ((-1) * x13 + 0) ≤ 0) (f30 : (-1) * x15 + (1 * x13 + 0) ≤ 0) (f31 : 1 * x3 + ((-1) * x15 + 0) ≤ (-1)) (f32 : (-1) * x9 + ((-1) * x15 + 0) ≤ (-2000)) (f33 : 1 * x3 + ((-1) * x13 + 0) ≤ (-1)) (f34 : (-1) * x9 + ((-1) * x13 + 0) ≤ (-2000)) (f36 : 1 * x3 + ((-1) * x13 + 0) ≤ (-1)) (f37 : (-1) * x9 + ((-1) * x13 + 0) ≤ (-2000)) (kz_0_8 : 0 ≤ fault_0 ∧ fault_0 ≤ 5) (kz_0_11 : 0 ≤ pos_0 ∧ pos_0 ≤ 2000) (kz_0_12 : 0 ≤ kind_0 ∧ kind_0 ≤ 4) (kz_0_15 : 0 ≤ from_0 ∧ from_0 ≤ 2000) (ex2 : gx = pos_0) (ex3 : 0 ≤ gx ∧ gx ≤ 2000) : (-1) * x9 + ((-1) * gx + 0) ≤ (-2001) := by
  first | assumption | (clear f11; omega) | omega | grind
def o_Mo_of_at_s5003_19 : or_T := (136, 27, [(0, (2, 0, 0, [165])), (2, (0, 9, 9, [])), (3, (0, 0, 2000, [])), (7, (0, 9, 9, [])), (9, (0, 0, 2000, [])), (13, (0, 0, 2000, [])), (15, (0, 0, 2000, [])), (26, (0, 0, 0, []))], [(8, [26], [5]), (9, [26, 5], [8]), (23, [15, 13], [0, 1, -1]), (23, [15, 13], [0, -1, 1]), (23, [3, 15], [-1, 1, -1]), (23, [9, 15], [-2000, -1, -1]), (23, [3, 13], [-1, 1, -1]), (23, [9, 13], [-2000, -1, -1]), (24, [0, 5], []), (20, [5, 5], [30, 0, 1, 1, 15, -1, 1, 11]), (20, [5], [50, 3, 0, 12, 11, 15, 2, 21, 4, 7, 1, 3, 2, 0, 12, 0, 1, 0, 3, 2, 0, 11, 4, 3, 2, 0, 15, 0, 8, 3, 7, 1, 3, 2, 0, 12, 0, 0, 0, 7, 4, 3, 2, 0, 15, 0, 1, 2, 0, 11]), (20, [15, 5], [30, 0, 1, 0, 0, -1, 1, 11]), (20, [5], [30, -1, -1, 1, 8]), (102, [25], [0, 165008, 165009]), (23, [15, 13], [0, 1, -1]), (23, [15, 13], [0, -1, 1]), (23, [3, 15], [-1, 1, -1]), (23, [9, 15], [-2000, -1, -1]), (23, [3, 13], [-1, 1, -1]), (23, [9, 13], [-2000, -1, -1]), (102, [20], [0, 165008, 165009]), (23, [15, 13], [0, 1, -1]), (23, [15, 13], [0, -1, 1]), (23, [3, 15], [-1, 1, -1]), (23, [9, 15], [-2000, -1, -1]), (23, [3, 13], [-1, 1, -1]), (23, [9, 13], [-2000, -1, -1]), (102, [15], [0, 165008, 165009, 165011, 165012, 165013, 165014, 165015]), (23, [15, 13], [0, 1, -1]), (23, [15, 13], [0, -1, 1]), (23, [3, 15], [-1, 1, -1]), (23, [9, 15], [-2000, -1, -1]), (23, [3, 13], [-1, 1, -1]), (23, [9, 13], [-2000, -1, -1]), (102, [13], [0, 165011, 165012, 165013, 165014, 165015]), (23, [3, 13], [-1, 1, -1]), (23, [9, 13], [-2000, -1, -1])], [], [(0, 0, 2000, [])], [(20, [27, 5], [30, 0, 1, 0, 0, -1, 1, 11]), (23, [3, 27], [-1, 1, -1]), (23, [9, 27], [-2001, -1, -1])], [], [])
theorem oo_Mo_of_at_s5003_19 {kA : Nat → ClassId} : or_ok PRD kA GG o_Mo_of_at_s5003_19 := by
  refine or_mk fun A ta ws vs hD hth hl => ?_
  intro t0 r0 t2 k2 t3 k3 t7 k7 t9 k9 t13 k13 t15 k15 t26 k26 f0 f1 f2 f3 f4 f5 f6 f7 f8 f10 f11 f12 f13 ta1 w1 le1 s1 f15 f16 f17 f18 f19 f20 ta2 w2 le2 s2 f22 f23 f24 f25 f26 f27 ta3 w3 le3 s3 f29 f30 f31 f32 f33 f34 ta4 w4 le4 s4 f36 f37
  replace f0 := shm_142 f0
  replace f1 := shm_143 f1
  replace f2 := shm_7 f2
  replace f3 := shm_22 f3
  replace f4 := shm_211 f4
  replace f5 := shm_1894 f5
  replace f6 := shm_211 f6
  replace f7 := shm_1894 f7
  replace f8 := shm_5 f8
  replace f10 := shm_1397 f10
  replace f11 := shm_1398 f11
  replace f12 := shm_1395 f12
  replace f13 := shm_144 f13
  replace f15 := shm_7 f15
  replace f16 := shm_22 f16
  replace f17 := shm_211 f17
  replace f18 := shm_1894 f18
  replace f19 := shm_211 f19
  replace f20 := shm_1894 f20
  replace f22 := shm_7 f22
  replace f23 := shm_22 f23
  replace f24 := shm_211 f24
  replace f25 := shm_1894 f25
  replace f26 := shm_211 f26
  replace f27 := shm_1894 f27
  replace f29 := shm_7 f29
  replace f30 := shm_22 f30
  replace f31 := shm_211 f31
  replace f32 := shm_1894 f32
  replace f33 := shm_211 f33
  replace f34 := shm_1894 f34
  replace f36 := shm_211 f36
  replace f37 := shm_1894 f37
  have q5 : n_v vs 5 = n_v vs 0 := f8.symm
  simp only [q5] at f1 f10 f11 f12 f13
  have g1 : v_iv (n_v vs 26) = w_fi ws (n_v vs 0) 8 := congrArg v_iv f1
  have kz_0_8 := fdq_14 hD hth r0
  have kz_0_11 := fdq_273 hD hth r0
  have kz_0_12 := fdq_186 hD hth r0
  have kz_0_15 := fdq_274 hD hth r0
  obtain ⟨x, ex, hx⟩ := iv_ex (ta := ta) (lo := 0) (hi := 2000) (z := w_fi ws (n_v vs 0) 11) (by omega) (by omega) (by omega) (by omega)
  have ex2 : v_iv (Value.int x) = w_fi ws (n_v vs 0) 11 := ex
  have ex3 : 0 ≤ v_iv (Value.int x) ∧ v_iv (Value.int x) ≤ 2000 := tv_rng hx
  have e_3 : n_v (vs ++ [Value.int x]) 3 = n_v vs 3 := n_v_old (by rw [hl]; decide)
  have e_5 : n_v (vs ++ [Value.int x]) 5 = n_v vs 5 := n_v_old (by rw [hl]; decide)
  have e_9 : n_v (vs ++ [Value.int x]) 9 = n_v vs 9 := n_v_old (by rw [hl]; decide)
  have e_27 : n_v (vs ++ [Value.int x]) 27 = Value.int x := n_v_new hl
  have nf0 : fc_1 PRD (20, [27, 5], [30, 0, 1, 0, 0, -1, 1, 11]) ws (vs ++ [Value.int x]) := by
    refine ⟨nf_inA hl rfl, sgq_1395 ?_⟩
    · show 1 * v_iv (n_v (vs ++ [Value.int x]) 27) + ((-1) * w_fi ws (n_v (vs ++ [Value.int x]) 5) 11 + 0) ≤ 0
      simp only [e_5, e_27, q5]
      exact vc_Mo_of_at_s5003_19_0 (v_iv (n_v vs 2)) (v_iv (n_v vs 3)) (v_iv (n_v vs 7)) (v_iv (n_v vs 9)) (v_iv (n_v vs 13)) (v_iv (n_v vs 15)) (v_iv (n_v vs 26)) (w_fi ws (n_v vs 0) 8) (w_fi ws (n_v vs 0) 15) (w_fi ws (n_v vs 0) 11) (w_fi ws (n_v vs 0) 12) (v_iv (Value.int x)) k2 k3 k7 k9 k13 k15 k26 f0 g1 f2 f3 f4 f5 f6 f7 f10 f11 f12 f13 f15 f16 f17 f18 f19 f20 f22 f23 f24 f25 f26 f27 f29 f30 f31 f32 f33 f34 f36 f37 kz_0_8 kz_0_11 kz_0_12 kz_0_15 ex2 ex3
  have nf1 : fc_1 PRD (23, [3, 27], [-1, 1, -1]) ws (vs ++ [Value.int x]) := by
    refine ⟨nf_inA hl rfl, sgq_211 ?_⟩
    · show 1 * v_iv (n_v (vs ++ [Value.int x]) 3) + ((-1) * v_iv (n_v (vs ++ [Value.int x]) 27) + 0) ≤ (-1)
      simp only [e_3, e_27]
      exact vc_Mo_of_at_s5003_19_1 (v_iv (n_v vs 2)) (v_iv (n_v vs 3)) (v_iv (n_v vs 7)) (v_iv (n_v vs 9)) (v_iv (n_v vs 13)) (v_iv (n_v vs 15)) (v_iv (n_v vs 26)) (w_fi ws (n_v vs 0) 8) (w_fi ws (n_v vs 0) 15) (w_fi ws (n_v vs 0) 11) (w_fi ws (n_v vs 0) 12) (v_iv (Value.int x)) k2 k3 k7 k9 k13 k15 k26 f0 g1 f2 f3 f4 f5 f6 f7 f10 f11 f12 f13 f15 f16 f17 f18 f19 f20 f22 f23 f24 f25 f26 f27 f29 f30 f31 f32 f33 f34 f36 f37 kz_0_8 kz_0_11 kz_0_12 kz_0_15 ex2 ex3
  have nf2 : fc_1 PRD (23, [9, 27], [-2001, -1, -1]) ws (vs ++ [Value.int x]) := by
    refine ⟨nf_inA hl rfl, sgq_1895 ?_⟩
    · show (-1) * v_iv (n_v (vs ++ [Value.int x]) 9) + ((-1) * v_iv (n_v (vs ++ [Value.int x]) 27) + 0) ≤ (-2001)
      simp only [e_9, e_27]
      exact vc_Mo_of_at_s5003_19_2 (v_iv (n_v vs 2)) (v_iv (n_v vs 3)) (v_iv (n_v vs 7)) (v_iv (n_v vs 9)) (v_iv (n_v vs 13)) (v_iv (n_v vs 15)) (v_iv (n_v vs 26)) (w_fi ws (n_v vs 0) 8) (w_fi ws (n_v vs 0) 15) (w_fi ws (n_v vs 0) 11) (w_fi ws (n_v vs 0) 12) (v_iv (Value.int x)) k2 k3 k7 k9 k13 k15 k26 f0 g1 f2 f3 f4 f5 f6 f7 f10 f11 f12 f13 f15 f16 f17 f18 f19 f20 f22 f23 f24 f25 f26 f27 f29 f30 f31 f32 f33 f34 f36 f37 kz_0_8 kz_0_11 kz_0_12 kz_0_15 ex2 ex3
  exact ⟨(fun _ h => (by cases h)), [Value.int x], ag_one hx, List.forall_mem_cons.mpr ⟨⟨show (20 : Nat) < 100 from by decide, nf0⟩, List.forall_mem_cons.mpr ⟨⟨show (23 : Nat) < 100 from by decide, nf1⟩, List.forall_mem_cons.mpr ⟨⟨show (23 : Nat) < 100 from by decide, nf2⟩, (fun _ h => (by cases h))⟩⟩⟩, (fun _ h => (by cases h))⟩
set_option maxHeartbeats 4000000 in
theorem vc_Mo_of_at_s5003_20_0 (x2 : Int) (x3 : Int) (x4 : Int) (x7 : Int) (x8 : Int) (x9 : Int) (x13 : Int) (x15 : Int) (x22 : Int) (x27 : Int) (fault_0 : Int) (from_0 : Int) (pos_0 : Int) (kind_0 : Int) (gx : Int) (k2 : 9 ≤ x2 ∧ x2 ≤ 9) (k3 : 0 ≤ x3 ∧ x3 ≤ 2000) (k4 : (-1) ≤ x4 ∧ x4 ≤ 48) (k7 : 9 ≤ x7 ∧ x7 ≤ 9) (k8 : (-2147483648) ≤ x8 ∧ x8 ≤ 0) (k9 : 0 ≤ x9 ∧ x9 ≤ 2000) (k13 : 0 ≤ x13 ∧ x13 ≤ 2000) (k15 : 0 ≤ x15 ∧ x15 ≤ 2000) (k22 : (-2147483648) ≤ x22 ∧ x22 ≤ 0) (k27 : 0 ≤ x27 ∧ x27 ≤ 2000) (f0 : 1 * x3 + ((-1) * x27 + 0) ≤ (-1)) (f1 : (-1) * x9 + ((-1) * x27 + 0) ≤ (-2001)) (f2 : 1 * x22 + ((-1) * x2 + 0) ≤ 0) (f3 : (-1) * x22 + 0 ≤ 0) (f4 : 1 * x15 + ((-1) * x13 + 0) ≤ 0) (f5 : (-1) * x15 + (1 * x13 + 0) ≤ 0) (f6 : 1 * x3 + ((-1) * x15 + 0) ≤ (-1)) (f7 : (-1) * x9 + ((-1) * x15 + 0) ≤ (-2000)) (f8 : 1 * x3 + ((-1) * x13 + 0) ≤ (-1)) (f9 : (-1) * x9 + ((-1) * x13 + 0) ≤ (-2000)) (f10 : 1 * x8 + ((-1) * x2 + 0) ≤ 0) (f11 : (-1) * x8 + 0 ≤ 0) (f12 : (-1) * x4 + 0 ≤ 0) (f15 : (-1) * fault_0 + 0 ≤ (-1)) (f16 : 1 * from_0 + ((-1) * pos_0 + 0) ≤ 0) (f17 : ((kind_0 = 1) → (pos_0 ≤ (from_0 + 8))) ∧ ((kind_0 = 0) ∨ ((from_0 + 1) ≤ pos_0))) (f18 : 1 * x27 + ((-1) * from_0 + 0) ≤ 0) (f20 : 1 * x3 + ((-1) * x27 + 0) ≤ (-1)) (f21 : (-1) * x9 + ((-1) * x27 + 0) ≤ (-2001)) (f22 : 1 * x22 + ((-1) * x2 + 0) ≤ 0) (f23 : (-1) * x22 + 0 ≤ 0) (f24 : 1 * x15 + ((-1) * x13 + 0) ≤ 0) (f25 : (-1) * x15 + (1 * x13 + 0) ≤ 0) (f26 : 1 * x3 + ((-1) * x15 + 0) ≤ (-1)) (f27 : (-1) * x9 + ((-1) * x15 + 0) ≤ (-2000)) (f28 : 1 * x3 + ((-1) * x13 + 0) ≤ (-1)) (f29 : (-1) * x9 + ((-1) * x13 + 0) ≤ (-2000)) (f30 : 1 * x8 + ((-1) * x2 + 0) ≤ 0) (f31 : (-1) * x8 + 0 ≤ 0) (f32 : (-1) * x4 + 0 ≤ 0) (f34 : 1 * x15 + ((-1) * x13 + 0) ≤ 0) (f35 : (-1) * x15 + (1 * x13 + 0) ≤ 0) (f36 : 1 * x3 + ((-1) * x15 + 0) ≤ (-1)) (f37 : (-1) * x9 + ((-1) * x15 + 0) ≤ (-2000)) (f38 : 1 * x3 + ((-1) * x13 + 0) ≤ (-1)) (f39 : (-1) * x9 + ((-1) * x13 + 0) ≤ (-2000)) (f40 : 1 * x8 + ((-1) * x2 + 0) ≤ 0) (f41 : (-1) * x8 + 0 ≤ 0) (f42 : (-1) * x4 + 0 ≤ 0) (f44 : 1 * x15 + ((-1) * x13 + 0) ≤ 0) (f45 : (-1) * x15 + (1 * x13 + 0) ≤ 0) (f46 : 1 * x3 + ((-1) * x15 + 0) ≤ (-1)) (f47 : (-1) * x9 + ((-1) * x15 + 0) ≤ (-2000)) (f48 : 1 * x3 + ((-1) * x13 + 0) ≤ (-1)) (f49 : (-1) * x9 + ((-1) * x13 + 0) ≤ (-2000)) (f50 : 1 * x8 + ((-1) * x2 + 0) ≤ 0) (f51 : (-1) * x8 + 0 ≤ 0) (f52 : (-1) * x4 + 0 ≤ 0) (f54 : 1 * x15 + ((-1) * x13 + 0) ≤ 0) (f55 : (-1) * x15 + (1 * x13 + 0) ≤ 0) (f56 : 1 * x3 + ((-1) * x15 + 0) ≤ (-1)) (f57 : (-1) * x9 + ((-1) * x15 + 0) ≤ (-2000)) (f58 : 1 * x3 + ((-1) * x13 + 0) ≤ (-1)) (f59 : (-1) * x9 + ((-1) * x13 + 0) ≤ (-2000)) (f60 : 1 * x8 + ((-1) * x2 + 0) ≤ 0) (f61 : (-1) * x8 + 0 ≤ 0) (f62 : (-1) * x4 + 0 ≤ 0) (f64 : 1 * x3 + ((-1) * x13 + 0) ≤ (-1)) (f65 : (-1) * x9 + ((-1) * x13 + 0) ≤ (-2000)) (f66 : x8 ≤ 0) (f67 : 1 * x8 + ((-1) * x2 + 0) ≤ 0) (f68 : (-1) * x8 + 0 ≤ 0) (f69 : (-1) * x4 + 0 ≤ 0) (f71 : 1 * x8 + ((-1) * x2 + 0) ≤ 0) (f72 : (-1) * x8 + 0 ≤ 0) (f73 : (-1) * x4 + 0 ≤ 0) (kz_0_8 : 0 ≤ fault_0 ∧ fault_0 ≤ 5) (kz_0_11 : 0 ≤ pos_0 ∧ pos_0 ≤ 2000) (kz_0_12 : 0 ≤ kind_0 ∧ kind_0 ≤ 4) (kz_0_15 : 0 ≤ from_0 ∧ from_0 ≤ 2000) (ex2 : gx = 0 + (1 * x9 + 0)) (ex3 : 0 ≤ gx ∧ gx ≤ 2000) : 1 * from_0 + ((-1) * pos_0 + 0) ≤ 0 := by
  first | assumption | (clear f17; omega) | omega | grind
set_option maxHeartbeats 4000000 in
theorem vc_Mo_of_at_s5003_20_1 (x2 : Int) (x3 : Int) (x4 : Int) (x7 : Int) (x8 : Int) (x9 : Int) (x13 : Int) (x15 : Int) (x22 : Int) (x27 : Int) (fault_0 : Int) (from_0 : Int) (pos_0 : Int) (kind_0 : Int) (gx : Int) (k2 : 9 ≤ x2 ∧ x2 ≤ 9) (k3 : 0 ≤ x3 ∧ x3 ≤ 2000) (k4 : (-1) ≤ x4 ∧ x4 ≤ 48) (k7 : 9 ≤ x7 ∧ x7 ≤ 9) (k8 : (-2147483648) ≤ x8 ∧ x8 ≤ 0) (k9 : 0 ≤ x9 ∧ x9 ≤ 2000) (k13 : 0 ≤ x13 ∧ x13 ≤ 2000) (k15 : 0 ≤ x15 ∧ x15 ≤ 2000) (k22 : (-2147483648) ≤ x22 ∧ x22 ≤ 0) (k27 : 0 ≤ x27 ∧ x27 ≤ 2000) (f0 : 1 * x3 + ((-1) * x27 + 0) ≤ (-1)) (f1 : (-1) * x9 + ((-1) * x27 + 0) ≤ (-2001)) (f2 : 1 * x22 + ((-1) * x2 + 0) ≤ 0) (f3 : (-1) * x22 + 0 ≤ 0) (f4 : 1 * x15 + ((-1) * x13 + 0) ≤ 0) (f5 : (-1) * x15 + (1 * x13 + 0) ≤ 0) (f6 : 1 * x3 + ((-1) * x15 + 0) ≤ (-1)) (f7 : (-1) * x9 + ((-1) * x15 + 0) ≤ (-2000)) (f8 : 1 * x3 + ((-1) * x13 + 0) ≤ (-1)) (f9 : (-1) * x9 + ((-1) * x13 + 0) ≤ (-2000)) (f10 : 1 * x8 + ((-1) * x2 + 0) ≤ 0) (f11 : (-1) * x8 + 0 ≤ 0) (f12 : (-1) * x4 + 0 ≤ 0) (f15 : (-1) * fault_0 + 0 ≤ (-1)) (f16 : 1 * from_0 + ((-1) * pos_0 + 0) ≤ 0) (f17 : ((kind_0 = 1) → (pos_0 ≤ (from_0 + 8))) ∧ ((kind_0 = 0) ∨ ((from_0 + 1) ≤ pos_0))) (f18 : 1 * x27 + ((-1) * from_0 + 0) ≤ 0) (f20 : 1 * x3 + ((-1) * x27 + 0) ≤ (-1)) (f21 : (-1) * x9 + ((-1) * x27 + 0) ≤ (-2001)) (f22 : 1 * x22 + ((-1) * x2 + 0) ≤ 0) (f23 : (-1) * x22 + 0 ≤ 0) (f24 : 1 * x15 + ((-1) * x13 + 0) ≤ 0) (f25 : (-1) * x15 + (1 * x13 + 0) ≤ 0) (f26 : 1 * x3 + ((-1) * x15 + 0) ≤ (-1)) (f27 : (-1) * x9 + ((-1) * x15 + 0) ≤ (-2000)) (f28 : 1 * x3 + ((-1) * x13 + 0) ≤ (-1)) (f29 : (-1) * x9 + ((-1) * x13 + 0) ≤ (-2000)) (f30 : 1 * x8 + ((-1) * x2 + 0) ≤ 0) (f31 : (-1) * x8 + 0 ≤ 0) (f32 : (-1) * x4 + 0 ≤ 0) (f34 : 1 * x15 + ((-1) * x13 + 0) ≤ 0) (f35 : (-1) * x15 + (1 * x13 + 0) ≤ 0) (f36 : 1 * x3 + ((-1) * x15 + 0) ≤ (-1)) (f37 : (-1) * x9 + ((-1) * x15 + 0) ≤ (-2000)) (f38 : 1 * x3 + ((-1) * x13 + 0) ≤ (-1)) (f39 : (-1) * x9 + ((-1) * x13 + 0) ≤ (-2000)) (f40 : 1 * x8 + ((-1) * x2 + 0) ≤ 0) (f41 : (-1) * x8 + 0 ≤ 0) (f42 : (-1) * x4 + 0 ≤ 0) (f44 : 1 * x15 + ((-1) * x13 + 0) ≤ 0) (f45 : (-1) * x15 + (1 * x13 + 0) ≤ 0) (f46 : 1 * x3 + ((-1) * x15 + 0) ≤ (-1)) (f47 : (-1) * x9 + ((-1) * x15 + 0) ≤ (-2000)) (f48 : 1 * x3 + ((-1) * x13 + 0) ≤ (-1)) (f49 : (-1) * x9 + ((-1) * x13 + 0) ≤ (-2000)) (f50 : 1 * x8 + ((-1) * x2 + 0) ≤ 0) (f51 : (-1) * x8 + 0 ≤ 0) (f52 : (-1) * x4 + 0 ≤ 0) (f54 : 1 * x15 + ((-1) * x13 + 0) ≤ 0) (f55 : (-1) * x15 + (1 * x13 + 0) ≤ 0) (f56 : 1 * x3 + ((-1) * x15 + 0) ≤ (-1)) (f57 : (-1) * x9 + ((-1) * x15 + 0) ≤ (-2000)) (f58 : 1 * x3 + ((-1) * x13 + 0) ≤ (-1)) (f59 : (-1) * x9 + ((-1) * x13 + 0) ≤ (-2000)) (f60 : 1 * x8 + ((-1) * x2 + 0) ≤ 0) (f61 : (-1) * x8 + 0 ≤ 0) (f62 : (-1) * x4 + 0 ≤ 0) (f64 : 1 * x3 + ((-1) * x13 + 0) ≤ (-1)) (f65 : (-1) * x9 + ((-1) * x13 + 0) ≤ (-2000)) (f66 : x8 ≤ 0) (f67 : 1 * x8 + ((-1) * x2 + 0) ≤ 0) (f68 : (-1) * x8 + 0 ≤ 0) (f69 : (-1) * x4 + 0 ≤ 0) (f71 : 1 * x8 + ((-1) * x2 + 0) ≤ 0) (f72 : (-1) * x8 + 0 ≤ 0) (f73 : (-1) * x4 + 0 ≤ 0) (kz_0_8 : 0 ≤ fault_0 ∧ fault_0 ≤ 5) (kz_0_11 : 0 ≤ pos_0 ∧ pos_0 ≤ 2000) (kz_0_12 : 0 ≤ kind_0 ∧ kind_0 ≤ 4) (kz_0_15 : 0 ≤ from_0 ∧ from_0 ≤ 2000) (ex2 : gx = 0 + (1 * x9 + 0)) (ex3 : 0 ≤ gx ∧ gx ≤ 2000) : ((kind_0 = 1) → (pos_0 ≤ (from_0 + 8))) ∧ ((kind_0 = 0) ∨ ((from_0 + 1) ≤ pos_0)) := by
  first | assumption | (clear f17; omega) | omega | grind
set_option maxHeartbeats 4000000 in
theorem vc_Mo_of_at_s5003_20_2 (x2 : Int) (x3 : Int) (x4 : Int) (x7 : Int) (x8 : Int) (x9 : Int) (x13 : Int) (x15 : Int) (x22 : Int) (x27 : Int) (fault_0 : Int) (from_0 : Int) (pos_0 : Int) (kind_0 : Int) (gx : Int) (k2 : 9 ≤ x2 ∧ x2 ≤ 9) (k3 : 0 ≤ x3 ∧ x3 ≤ 2000) (k4 : (-1) ≤ x4 ∧ x4 ≤ 48) (k7 : 9 ≤ x7 ∧ x7 ≤ 9) (k8 : (-2147483648) ≤ x8 ∧ x8 ≤ 0) (k9 : 0 ≤ x9 ∧ x9 ≤ 2000) (k13 : 0 ≤ x13 ∧ x13 ≤ 2000) (k15 : 0 ≤ x15 ∧ x15 ≤ 2000) (k22 : (-2147483648) ≤ x22 ∧ x22 ≤ 0) (k27 : 0 ≤ x27 ∧ x27 ≤ 2000) (f0 : 1 * x3 + ((-1) * x27 + 0) ≤ (-1)) (f1 : (-1) * x9 + ((-1) * x27 + 0) ≤ (-2001)) (f2 : 1 * x22 + ((-1) * x2 + 0) ≤ 0) (f3 : (-1) * x22 + 0 ≤ 0) (f4 : 1 * x15 + ((-1) * x13 + 0) ≤ 0) (f5 : (-1) * x15 + (1 * x13 + 0) ≤ 0) (f6 : 1 * x3 + ((-1) * x15 + 0) ≤ (-1)) (f7 : (-1) * x9 + ((-1) * x15 + 0) ≤ (-2000)) (f8 : 1 * x3 + ((-1) * x13 + 0) ≤ (-1)) (f9 : (-1) * x9 + ((-1) * x13 + 0) ≤ (-2000)) (f10 : 1 * x8 + ((-1) * x2 + 0) ≤ 0) (f11 : (-1) * x8 + 0 ≤ 0) (f12 : (-1) * x4 + 0 ≤ 0) (f15 : (-1) * fault_0 + 0 ≤ (-1)) (f16 : 1 * from_0 + ((-1) * pos_0 + 0) ≤ 0) (f17 : ((kind_0 = 1) → (pos_0 ≤ (from_0 + 8))) ∧ ((kind_0 = 0) ∨ ((from_0 + 1) ≤ pos_0))) (f18 : 1 * x27 + ((-1) * from_0 + 0) ≤ 0) (f20 : 1 * x3 + ((-1) * x27 + 0) ≤ (-1)) (f21 : (-1) * x9 + ((-1) * x27 + 0) ≤ (-2001)) (f22 : 1 * x22 + ((-1) * x2 + 0) ≤ 0) (f23 : (-1) * x22 + 0 ≤ 0) (f24 : 1 * x15 + ((-1) * x13 + 0) ≤ 0) (f25 : (-1) * x15 + (1 * x13 + 0) ≤ 0) (f26 : 1 * x3 + ((-1) * x15 + 0) ≤ (-1)) (f27 : (-1) * x9 + ((-1) * x15 + 0) ≤ (-2000)) (f28 : 1 * x3 + ((-1) * x13 + 0) ≤ (-1)) (f29 : (-1) * x9 + ((-1) * x13 + 0) ≤ (-2000)) (f30 : 1 * x8 + ((-1) * x2 + 0) ≤ 0) (f31 : (-1) * x8 + 0 ≤ 0) (f32 : (-1) * x4 + 0 ≤ 0) (f34 : 1 * x15 + ((-1) * x13 + 0) ≤ 0) (f35 : (-1) * x15 + (1 * x13 + 0) ≤ 0) (f36 : 1 * x3 + ((-1) * x15 + 0) ≤ (-1)) (f37 : (-1) * x9 + ((-1) * x15 + 0) ≤ (-2000)) (f38 : 1 * x3 + ((-1) * x13 + 0) ≤ (-1)) (f39 : (-1) * x9 + ((-1) * x13 + 0) ≤ (-2000)) (f40 : 1 * x8 + ((-1) * x2 + 0) ≤ 0) (f41 : (-1) * x8 + 0 ≤ 0) (f42 : (-1) * x4 + 0 ≤ 0) (f44 : 1 * x15 + ((-1) * x13 + 0) ≤ 0) (f45 : (-1) * x15 + (1 * x13 + 0) ≤ 0) (f46 : 1 * x3 + ((-1) * x15 + 0) ≤ (-1)) (f47 : (-1) * x9 + ((-1) * x15 + 0) ≤ (-2000)) (f48 : 1 * x3 + ((-1) * x13 + 0) ≤ (-1)) (f49 : (-1) * x9 + ((-1) * x13 + 0) ≤ (-2000)) (f50 : 1 * x8 + ((-1) * x2 + 0) ≤ 0) (f51 : (-1) * x8 + 0 ≤ 0) (f52 : (-1) * x4 + 0 ≤ 0) (f54 : 1 * x15 + ((-1) * x13 + 0) ≤ 0) (f55 : (-1) * x15 + (1 * x13 + 0) ≤ 0) (f56 : 1 * x3 + ((-1) * x15 + 0) ≤ (-1)) (f57 : (-1) * x9 + ((-1) * x15 + 0) ≤ (-2000)) (f58 : 1 * x3 + ((-1) * x13 + 0) ≤ (-1)) (f59 : (-1) * x9 + ((-1) * x13 + 0) ≤ (-2000)) (f60 : 1 * x8 + ((-1) * x2 + 0) ≤ 0) (f61 : (-1) * x8 + 0 ≤ 0) (f62 : (-1) * x4 + 0 ≤ 0) (f64 : 1 * x3 + ((-1) * x13 + 0) ≤ (-1)) (f65 : (-1) * x9 + ((-1) * x13 + 0) ≤ (-2000)) (f66 : x8 ≤ 0) (f67 : 1 * x8 + ((-1) * x2 + 0) ≤ 0) (f68 : (-1) * x8 + 0 ≤ 0) (f69 : (-1) * x4 + 0 ≤ 0) (f71 : 1 * x8 + ((-1) * x2 + 0) ≤ 0) (f72 : (-1) * x8 + 0 ≤ 0) (f73 : (-1) * x4 + 0 ≤ 0) (kz_0_8 : 0 ≤ fault_0 ∧ fault_0 ≤ 5) (kz_0_11 : 0 ≤ pos_0 ∧ pos_0 ≤ 2000) (kz_0_12 : 0 ≤ kind_0 ∧ kind_0 ≤ 4) (kz_0_15 : 0 ≤ from_0 ∧ from_0 ≤ 2000) (ex2 : gx = 0 + (1 * x9 + 0)) (ex3 : 0 ≤ gx ∧ gx ≤ 2000) : 1 * x3 + ((-1) * pos_0 + 0) ≤ (-1) := by
  first | assumption | (clear f17; omega) | omega | grind
set_option maxHeartbeats 4000000 in
theorem vc_Mo_of_at_s5003_20_3 (x2 : Int) (x3 : Int) (x4 : Int) (x7 : Int) (x8 : Int) (x9 : Int) (x13 : Int) (x15 : Int) (x22 : Int) (x27 : Int) (fault_0 : Int) (from_0 : Int) (pos_0 : Int) (kind_0 : Int) (gx : Int) (k2 : 9 ≤ x2 ∧ x2 ≤ 9) (k3 : 0 ≤ x3 ∧ x3 ≤ 2000) (k4 : (-1) ≤ x4 ∧ x4 ≤ 48) (k7 : 9 ≤ x7 ∧ x7 ≤ 9) (k8 : (-2147483648) ≤ x8 ∧ x8 ≤ 0) (k9 : 0 ≤ x9 ∧ x9 ≤ 2000) (k13 : 0 ≤ x13 ∧ x13 ≤ 2000) (k15 : 0 ≤ x15 ∧ x15 ≤ 2000) (k22 : (-2147483648) ≤ x22 ∧ x22 ≤ 0) (k27 : 0 ≤ x27 ∧ x27 ≤ 2000) (f0 : 1 * x3 + ((-1) * x27 + 0) ≤ (-1)) (f1 : (-1) * x9 + ((-1) * x27 + 0) ≤ (-2001)) (f2 : 1 * x22 + ((-1) * x2 + 0) ≤ 0) (f3 : (-1) * x22 + 0 ≤ 0) (f4 : 1 * x15 + ((-1) * x13 + 0) ≤ 0) (f5 : (-1) * x15 + (1 * x13 + 0) ≤ 0) (f6 : 1 * x3 + ((-1) * x15 + 0) ≤ (-1)) (f7 : (-1) * x9 + ((-1) * x15 + 0) ≤ (-2000)) (f8 : 1 * x3 + ((-1) * x13 + 0) ≤ (-1)) (f9 : (-1) * x9 + ((-1) * x13 + 0) ≤ (-2000)) (f10 : 1 * x8 + ((-1) * x2 + 0) ≤ 0) (f11 : (-1) * x8 + 0 ≤ 0) (f12 : (-1) * x4 + 0 ≤ 0) (f15 : (-1) * fault_0 + 0 ≤ (-1)) (f16 : 1 * from_0 + ((-1) * pos_0 + 0) ≤ 0) (f17 : ((kind_0 = 1) → (pos_0 ≤ (from_0 + 8))) ∧ ((kind_0 = 0) ∨ ((from_0 + 1) ≤ pos_0))) (f18 : 1 * x27 + ((-1) * from_0 + 0) ≤ 0) (f20 : 1 * x3 + ((-1) * x27 + 0) ≤ (-1)) (f21 : (-1) * x9 + ((-1) * x27 + 0) ≤ (-2001)) (f22 : 1 * x22 + ((-1) * x2 + 0) ≤ 0) (f23 : (-1) * x22 + 0 ≤ 0) (f24 : 1 * x15 + ((-1) * x13 + 0) ≤ 0) (f25 : (-1) * x15 + (1 * x13 + 0) ≤ 0) (f26 : 1 * x3 + ((-1) * x15 + 0) ≤ (-1)) (f27 : (-1) * x9 + ((-1) * x15 + 0) ≤ (-2000)) (f28 : 1 * x3 + ((-1) * x13 + 0) ≤ (-1)) (f29 : (-1) * x9 + ((-1) * x13 + 0) ≤ (-2000)) (f30 : 1 * x8 + ((-1) * x2 + 0) ≤ 0) (f31 : (-1) * x8 + 0 ≤ 0) (f32 : (-1) * x4 + 0 ≤ 0) (f34 : 1 * x15 + ((-1) * x13 + 0) ≤ 0) (f35 : (-1) * x15 + (1 * x13 + 0) ≤ 0) (f36 : 1 * x3 + ((-1) * x15 + 0) ≤ (-1)) (f37 : (-1) * x9 + ((-1) * x15 + 0) ≤ (-2000)) (f38 : 1 * x3 + ((-1) * x13 + 0) ≤ (-1)) (f39 : (-1) * x9 + ((-1) * x13 + 0) ≤ (-2000)) (f40 : 1 * x8 + ((-1) * x2 + 0) ≤ 0) (f41 : (-1) * x8 + 0 ≤ 0) (f42 : (-1) * x4 + 0 ≤ 0) (f44 : 1 * x15 + ((-1) * x13 + 0) ≤ 0) (f45 : (-1) * x15 + (1 * x13 + 0) ≤ 0) (f46 : 1 * x3 + ((-1) * x15 + 0) ≤ (-1)) (f47 : (-1) * x9 + ((-1) * x15 + 0) ≤ (-2000)) (f48 : 1 * x3 + ((-1) * x13 + 0) ≤ (-1)) (f49 : (-1) * x9 + ((-1) * x13 + 0) ≤ (-2000)) (f50 : 1 * x8 + ((-1) * x2 + 0) ≤ 0) (f51 : (-1) * x8 + 0 ≤ 0) (f52 : (-1) * x4 + 0 ≤ 0) (f54 : 1 * x15 + ((-1) * x13 + 0) ≤ 0) (f55 : (-1) * x15 + (1 * x13 + 0) ≤ 0) (f56 : 1 * x3 + ((-1) * x15 + 0) ≤ (-1)) (f57 : (-1) * x9 + ((-1) * x15 + 0) ≤ (-2000)) (f58 : 1 * x3 + ((-1) * x13 + 0) ≤ (-1)) (f59 : (-1) * x9 + ((-1) * x13 + 0) ≤ (-2000)) (f60 : 1 * x8 + ((-1) * x2 + 0) ≤ 0) (f61 : (-1) * x8 + 0 ≤ 0) (f62 : (-1) * x4 + 0 ≤ 0) (f64 : 1 * x3 + ((-1) * x13 + 0) ≤ (-1)) (f65 : (-1) * x9 + ((-1) * x13 + 0) ≤ (-2000)) (f66 : x8 ≤ 0) (f67 : 1 * x8 + ((-1) * x2 + 0) ≤ 0) (f68 : (-1) * x8 + 0 ≤ 0) (f69 : (-1) * x4 + 0 ≤ 0) (f71 : 1 * x8 + ((-1) * x2 + 0) ≤ 0) (f72 : (-1) * x8 + 0 ≤ 0) (f73 : (-1) * x4 + 0 ≤ 0) (kz_0_8 : 0 ≤ fault_0 ∧ fault_0 ≤ 5) (kz_0_11 : 0 ≤ pos_0 ∧ pos_0 ≤ 2000) (kz_0_12 : 0 ≤ kind_0 ∧ kind_0 ≤ 4) (kz_0_15 : 0 ≤ from_0 ∧ from_0 ≤ 2000) (ex2 : gx = 0 + (1 * x9 + 0)) (ex3 : 0 ≤ gx ∧ gx ≤ 2000) : 1 * x22 + ((-1) * x2 + 0) ≤ 0 := by
  first | assumption | (clear f17; omega) | omega | grind
set_option maxHeartbeats 4000000 in
theorem vc_Mo_of_at_s5003_20_4 (x2 : Int) (x3 : Int) (x4 : Int) (x7 : Int) (x8 : Int) (x9 : Int) (x13 : Int) (x15 : Int) (x22 : Int) (x27 : Int) (fault_0 : Int) (from_0 : Int) (pos_0 : Int) (kind_0 : Int) (gx : Int) (k2 : 9 ≤ x2 ∧ x2 ≤ 9) (k3 : 0 ≤ x3 ∧ x3 ≤ 2000) (k4 : (-1) ≤ x4 ∧ x4 ≤ 48) (k7 : 9 ≤ x7 ∧ x7 ≤ 9) (k8 : (-2147483648) ≤ x8 ∧ x8 ≤ 0) (k9 : 0 ≤ x9 ∧ x9 ≤ 2000) (k13 : 0 ≤ x13 ∧ x13 ≤ 2000) (k15 : 0 ≤ x15 ∧ x15 ≤ 2000) (k22 : (-2147483648) ≤ x22 ∧ x22 ≤ 0) (k27 : 0 ≤ x27 ∧ x27 ≤ 2000) (f0 : 1 * x3 + ((-1) * x27 + 0) ≤ (-1)) (f1 : (-1) * x9 + ((-1) * x27 + 0) ≤ (-2001)) (f2 : 1 * x22 + ((-1) * x2 + 0) ≤ 0) (f3 : (-1) * x22 + 0 ≤ 0) (f4 : 1 * x15 + ((-1) * x13 + 0) ≤ 0) (f5 : (-1) * x15 + (1 * x13 + 0) ≤ 0) (f6 : 1 * x3 + ((-1) * x15 + 0) ≤ (-1)) (f7 : (-1) * x9 + ((-1) * x15 + 0) ≤ (-2000)) (f8 : 1 * x3 + ((-1) * x13 + 0) ≤ (-1)) (f9 : (-1) * x9 + ((-1) * x13 + 0) ≤ (-2000)) (f10 : 1 * x8 + ((-1) * x2 + 0) ≤ 0) (f11 : (-1) * x8 + 0 ≤ 0) (f12 : (-1) * x4 + 0 ≤ 0) (f15 : (-1) * fault_0 + 0 ≤ (-1)) (f16 : 1 * from_0 + ((-1) * pos_0 + 0) ≤ 0) (f17 : ((kind_0 = 1) → (pos_0 ≤ (from_0 + 8))) ∧ ((kind_0 = 0) ∨ ((from_0 + 1) ≤ pos_0))) (f18 : 1 * x27 + ((-1) * from_0 + 0) ≤ 0) (f20 : 1 * x3 + ((-1) * x27 + 0) ≤ (-1)) (f21 : (-1) * x9 + ((-1) * x27 + 0) ≤ (-2001)) (f22 : 1 * x22 + ((-1) * x2 + 0) ≤ 0) (f23 : (-1) * x22 + 0 ≤ 0) (f24 : 1 * x15 + ((-1) * x13 + 0) ≤ 0) (f25 : (-1) * x15 + (1 * x13 + 0) ≤ 0) (f26 : 1 * x3 + ((-1) * x15 + 0) ≤ (-1)) (f27 : (-1) * x9 + ((-1) * x15 + 0) ≤ (-2000)) (f28 : 1 * x3 + ((-1) * x13 + 0) ≤ (-1)) (f29 : (-1) * x9 + ((-1) * x13 + 0) ≤ (-2000)) (f30 : 1 * x8 + ((-1) * x2 + 0) ≤ 0) (f31 : (-1) * x8 + 0 ≤ 0) (f32 : (-1) * x4 + 0 ≤ 0) (f34 : 1 * x15 + ((-1) * x13 + 0) ≤ 0) (f35 : (-1) * x15 + (1 * x13 + 0) ≤ 0) (f36 : 1 * x3 + ((-1) * x15 + 0) ≤ (-1)) (f37 : (-1) * x9 + ((-1) * x15 + 0) ≤ (-2000)) (f38 : 1 * x3 + ((-1) * x13 + 0) ≤ (-1)) (f39 : (-1) * x9 + ((-1) * x13 + 0) ≤ (-2000)) (f40 : 1 * x8 + ((-1) * x2 + 0) ≤ 0) (f41 : (-1) * x8 + 0 ≤ 0) (f42 : (-1) * x4 + 0 ≤ 0) (f44 : 1 * x15 + ((-1) * x13 + 0) ≤ 0) (f45 : (-1) * x15 + (1 * x13 + 0) ≤ 0) (f46 : 1 * x3 + ((-1) * x15 + 0) ≤ (-1)) (f47 : (-1) * x9 + ((-1) * x15 + 0) ≤ (-2000)) (f48 : 1 * x3 + ((-1) * x13 + 0) ≤ (-1)) (f49 : (-1) * x9 + ((-1) * x13 + 0) ≤ (-2000)) (f50 : 1 * x8 + ((-1) * x2 + 0) ≤ 0) (f51 : (-1) * x8 + 0 ≤ 0) (f52 : (-1) * x4 + 0 ≤ 0) (f54 : 1 * x15 + ((-1) * x13 + 0) ≤ 0) (f55 : (-1) * x15 + (1 * x13 + 0) ≤ 0) (f56 : 1 * x3 + ((-1) * x15 + 0) ≤ (-1)) (f57 : (-1) * x9 + ((-1) * x15 + 0) ≤ (-2000)) (f58 : 1 * x3 + ((-1) * x13 + 0) ≤ (-1)) (f59 : (-1) * x9 + ((-1) * x13 + 0) ≤ (-2000)) (f60 : 1 * x8 + ((-1) * x2 + 0) ≤ 0) (f61 : (-1) * x8 + 0 ≤ 0) (f62 : (-1) * x4 + 0 ≤ 0) (f64 : 1 * x3 + ((-1) * x13 + 0) ≤ (-1)) (f65 : (-1) * x9 + ((-1) * x13 + 0) ≤ (-2000)) (f66 : x8 ≤ 0) (f67 : 1 * x8 + ((-1) * x2 + 0) ≤ 0) (f68 : (-1) * x8 + 0 ≤ 0) (f69 : (-1) * x4 + 0 ≤ 0) (f71 : 1 * x8 + ((-1) * x2 + 0) ≤ 0) (f72 : (-1) * x8 + 0 ≤ 0) (f73 : (-1) * x4 + 0 ≤ 0) (kz_0_8 : 0 ≤ fault_0 ∧ fault_0 ≤ 5) (kz_0_11 : 0 ≤ pos_0 ∧ pos_0 ≤ 2000) (kz_0_12 : 0 ≤ kind_0 ∧ kind_0 ≤ 4) (kz_0_15 : 0 ≤ from_0 ∧ from_0 ≤ 2000) (ex2 : gx = 0 + (1 * x9 + 0)) (ex3 : 0 ≤ gx ∧ gx ≤ 2000) : (-1) * x22 + 0 ≤ 0 := by
  first | assumption | (clear f17; omega) | omega | grind
set_option maxHeartbeats 4000000 in
theorem vc_Mo_of_at_s5003_20_5 (x2 : Int) (x3 : Int) (x4 : Int) (x7 : Int) (x8 : Int) (x9 : Int) (x13 : Int) (x15 : Int) (x22 : Int) (x27 : Int) (fault_0 : Int) (from_0 : Int) (pos_0 : Int) (kind_0 : Int) (gx : Int) (k2 : 9 ≤ x2 ∧ x2 ≤ 9) (k3 : 0 ≤ x3 ∧ x3 ≤ 2000) (k4 : (-1) ≤ x4 ∧ x4 ≤ 48) (k7 : 9 ≤ x7 ∧ x7 ≤ 9) (k8 : (-2147483648) ≤ x8 ∧ x8 ≤ 0) (k9 : 0 ≤ x9 ∧ x9 ≤ 2000) (k13 : 0 ≤ x13 ∧ x13 ≤ 2000) (k15 : 0 ≤ x15 ∧ x15 ≤ 2000) (k22 : (-2147483648) ≤ x22 ∧ x22 ≤ 0) (k27 : 0 ≤ x27 ∧ x27 ≤ 2000) (f0 : 1 * x3 + ((-1) * x27 + 0) ≤ (-1)) (f1 : (-1) * x9 + ((-1) * x27 + 0) ≤ (-2001)) (f2 : 1 * x22 + ((-1) * x2 + 0) ≤ 0) (f3 : (-1) * x22 + 0 ≤ 0) (f4 : 1 * x15 + ((-1) * x13 + 0) ≤ 0) (f5 : (-1) * x15 + (1 * x13 + 0) ≤ 0) (f6 : 1 * x3 + ((-1) * x15 + 0) ≤ (-1)) (f7 : (-1) * x9 + ((-1) * x15 + 0) ≤ (-2000)) (f8 : 1 * x3 + ((-1) * x13 + 0) ≤ (-1)) (f9 : (-1) * x9 + ((-1) * x13 + 0) ≤ (-2000)) (f10 : 1 * x8 + ((-1) * x2 + 0) ≤ 0) (f11 : (-1) * x8 + 0 ≤ 0) (f12 : (-1) * x4 + 0 ≤ 0) (f15 : (-1) * fault_0 + 0 ≤ (-1)) (f16 : 1 * from_0 + ((-1) * pos_0 + 0) ≤ 0) (f17 : ((kind_0 = 1) → (pos_0 ≤ (from_0 + 8))) ∧ ((kind_0 = 0) ∨ ((from_0 + 1) ≤ pos_0))) (f18 : 1 * x27 + ((-1) * from_0 + 0) ≤ 0) (f20 : 1 * x3 + ((-1) * x27 + 0) ≤ (-1)) (f21 : (-1) * x9 + ((-1) * x27 + 0) ≤ (-2001)) (f22 : 1 * x22 + ((-1) * x2 + 0) ≤ 0) (f23 : (-1) * x22 + 0 ≤ 0) (f24 : 1 * x15 + ((-1) * x13 + 0) ≤ 0) (f25 : (-1) * x15 + (1 * x13 + 0) ≤ 0) (f26 : 1 * x3 + ((-1) * x15 + 0) ≤ (-1)) (f27 : (-1) * x9 + ((-1) * x15 + 0) ≤ (-2000)) (f28 : 1 * x3 + ((-1) * x13 + 0) ≤ (-1)) (f29 : (-1) * x9 + ((-1) * x13 + 0) ≤ (-2000)) (f30 : 1 * x8 + ((-1) * x2 + 0) ≤ 0) (f31 : (-1) * x8 + 0 ≤ 0) (f32 : (-1) * x4 + 0 ≤ 0) (f34 : 1 * x15 + ((-1) * x13 + 0) ≤ 0) (f35 : (-1) * x15 + (1 * x13 + 0) ≤ 0) (f36 : 1 * x3 + ((-1) * x15 + 0) ≤ (-1)) (f37 : (-1) * x9 + ((-1) * x15 + 0) ≤ (-2000)) (f38 : 1 * x3 + ((-1) * x13 + 0) ≤ (-1)) (f39 : (-1) * x9 + ((-1) * x13 + 0) ≤ (-2000)) (f40 : 1 * x8 + ((-1) * x2 + 0) ≤ 0) (f41 : (-1) * x8 + 0 ≤ 0) (f42 : (-1) * x4 + 0 ≤ 0) (f44 : 1 * x15 + ((-1) * x13 + 0) ≤ 0) (f45 : (-1) * x15 + (1 * x13 + 0) ≤ 0) (f46 : 1 * x3 + ((-1) * x15 + 0) ≤ (-1)) (f47 : (-1) * x9 + ((-1) * x15 + 0) ≤ (-2000)) (f48 : 1 * x3 + ((-1) * x13 + 0) ≤ (-1)) (f49 : (-1) * x9 + ((-1) * x13 + 0) ≤ (-2000)) (f50 : 1 * x8 + ((-1) * x2 + 0) ≤ 0) (f51 : (-1) * x8 + 0 ≤ 0) (f52 : (-1) * x4 + 0 ≤ 0) (f54 : 1 * x15 + ((-1) * x13 + 0) ≤ 0) (f55 : (-1) * x15 + (1 * x13 + 0) ≤ 0) (f56 : 1 * x3 + ((-1) * x15 + 0) ≤ (-1)) (f57 : (-1) * x9 + ((-1) * x15 + 0) ≤ (-2000)) (f58 : 1 * x3 + ((-1) * x13 + 0) ≤ (-1)) (f59 : (-1) * x9 + ((-1) * x13 + 0) ≤ (-2000)) (f60 : 1 * x8 + ((-1) * x2 + 0) ≤ 0) (f61 : (-1) * x8 + 0 ≤ 0) (f62 : (-1) * x4 + 0 ≤ 0) (f64 : 1 * x3 + ((-1) * x13 + 0) ≤ (-1)) (f65 : (-1) * x9 + ((-1) * x13 + 0) ≤ (-2000)) (f66 : x8 ≤ 0) (f67 : 1 * x8 + ((-1) * x2 + 0) ≤ 0) (f68 : (-1) * x8 + 0 ≤ 0) (f69 : (-1) * x4 + 0 ≤ 0) (f71 : 1 * x8 + ((-1) * x2 + 0) ≤ 0) (f72 : (-1) * x8 + 0 ≤ 0) (f73 : (-1) * x4 + 0 ≤ 0) (kz_0_8 : 0 ≤ fault_0 ∧ fault_0 ≤ 5) (kz_0_11 : 0 ≤ pos_0 ∧ pos_0 ≤ 2000) (kz_0_12 : 0 ≤ kind_0 ∧ kind_0 ≤ 4) (kz_0_15 : 0 ≤ from_0 ∧ from_0 ≤ 2000) (ex2 : gx = 0 + (1 * x9 + 0)) (ex3 : 0 ≤ gx ∧ gx ≤ 2000) : (-1) * x4 + 0 ≤ 0 := by
  first | assumption | (clear f17; omega) | omega | grind
set_option maxHeartbeats 4000000 in
theorem vc_Mo_of_at_s5003_20_6 (x2 : Int) (x3 : Int) (x4 : Int) (x7 : Int) (x8 : Int) (x9 : Int) (x13 : Int) (x15 : Int) (x22 : Int) (x27 : Int) (fault_0 : Int) (from_0 : Int) (pos_0 : Int) (kind_0 : Int) (gx : Int) (k2 : 9 ≤ x2 ∧ x2 ≤ 9) (k3 : 0 ≤ x3 ∧ x3 ≤ 2000) (k4 : (-1) ≤ x4 ∧ x4 ≤ 48) (k7 : 9 ≤ x7 ∧ x7 ≤ 9) (k8 : (-2147483648) ≤ x8 ∧ x8 ≤ 0) (k9 : 0 ≤ x9 ∧ x9 ≤ 2000) (k13 : 0 ≤ x13 ∧ x13 ≤ 2000) (k15 : 0 ≤ x15 ∧ x15 ≤ 2000) (k22 : (-2147483648) ≤ x22 ∧ x22 ≤ 0) (k27 : 0 ≤ x27 ∧ x27 ≤ 2000) (f0 : 1 * x3 + ((-1) * x27 + 0) ≤ (-1)) (f1 : (-1) * x9 + ((-1) * x27 + 0) ≤ (-2001)) (f2 : 1 * x22 + ((-1) * x2 + 0) ≤ 0) (f3 : (-1) * x22 + 0 ≤ 0) (f4 : 1 * x15 + ((-1) * x13 + 0) ≤ 0) (f5 : (-1) * x15 + (1 * x13 + 0) ≤ 0) (f6 : 1 * x3 + ((-1) * x15 + 0) ≤ (-1)) (f7 : (-1) * x9 + ((-1) * x15 + 0) ≤ (-2000)) (f8 : 1 * x3 + ((-1) * x13 + 0) ≤ (-1)) (f9 : (-1) * x9 + ((-1) * x13 + 0) ≤ (-2000)) (f10 : 1 * x8 + ((-1) * x2 + 0) ≤ 0) (f11 : (-1) * x8 + 0 ≤ 0) (f12 : (-1) * x4 + 0 ≤ 0) (f15 : (-1) * fault_0 + 0 ≤ (-1)) (f16 : 1 * from_0 + ((-1) * pos_0 + 0) ≤ 0) (f17 : ((kind_0 = 1) → (pos_0 ≤ (from_0 + 8))) ∧ ((kind_0 = 0) ∨ ((from_0 + 1) ≤ pos_0))) (f18 : 1 * x27 + ((-1) * from_0 + 0) ≤ 0) (f20 : 1 * x3 + ((-1) * x27 + 0) ≤ (-1)) (f21 : (-1) * x9 + ((-1) * x27 + 0) ≤ (-2001)) (f22 : 1 * x22 + ((-1) * x2 + 0) ≤ 0) (f23 : (-1) * x22 + 0 ≤ 0) (f24 : 1 * x15 + ((-1) * x13 + 0) ≤ 0) (f25 : (-1) * x15 + (1 * x13 + 0) ≤ 0) (f26 : 1 * x3 + ((-1) * x15 + 0) ≤ (-1)) (f27 : (-1) * x9 + ((-1) * x15 + 0) ≤ (-2000)) (f28 : 1 * x3 + ((-1) * x13 + 0) ≤ (-1)) (f29 : (-1) * x9 + ((-1) * x13 + 0) ≤ (-2000)) (f30 : 1 * x8 + ((-1) * x2 + 0) ≤ 0) (f31 : (-1) * x8 + 0 ≤ 0) (f32 : (-1) * x4 + 0 ≤ 0) (f34 : 1 * x15 + ((-1) * x13 + 0) ≤ 0) (f35 : (-1) * x15 + (1 * x13 + 0) ≤ 0) (f36 : 1 * x3 + ((-1) * x15 + 0) ≤ (-1)) (f37 : (-1) * x9 + ((-1) * x15 + 0) ≤ (-2000)) (f38 : 1 * x3 + ((-1) * x13 + 0) ≤ (-1)) (f39 : (-1) * x9 + ((-1) * x13 + 0) ≤ (-2000)) (f40 : 1 * x8 + ((-1) * x2 + 0) ≤ 0) (f41 : (-1) * x8 + 0 ≤ 0) (f42 : (-1) * x4 + 0 ≤ 0) (f44 : 1 * x15 + ((-1) * x13 + 0) ≤ 0) (f45 : (-1) * x15 + (1 * x13 + 0) ≤ 0) (f46 : 1 * x3 + ((-1) * x15 + 0) ≤ (-1)) (f47 : (-1) * x9 + ((-1) * x15 + 0) ≤ (-2000)) (f48 : 1 * x3 + ((-1) * x13 + 0) ≤ (-1)) (f49 : (-1) * x9 + ((-1) * x13 + 0) ≤ (-2000)) (f50 : 1 * x8 + ((-1) * x2 + 0) ≤ 0) (f51 : (-1) * x8 + 0 ≤ 0) (f52 : (-1) * x4 + 0 ≤ 0) (f54 : 1 * x15 + ((-1) * x13 + 0) ≤ 0) (f55 : (-1) * x15 + (1 * x13 + 0) ≤ 0) (f56 : 1 * x3 + ((-1) * x15 + 0) ≤ (-1)) (f57 : (-1) * x9 + ((-1) * x15 + 0) ≤ (-2000)) (f58 : 1 * x3 + ((-1) * x13 + 0) ≤ (-1)) (f59 : (-1) * x9 + ((-1) * x13 + 0) ≤ (-2000)) (f60 : 1 * x8 + ((-1) * x2 + 0) ≤ 0) (f61 : (-1) * x8 + 0 ≤ 0) (f62 : (-1) * x4 + 0 ≤ 0) (f64 : 1 * x3 + ((-1) * x13 + 0) ≤ (-1)) (f65 : (-1) * x9 + ((-1) * x13 + 0) ≤ (-2000)) (f66 : x8 ≤ 0) (f67 : 1 * x8 + ((-1) * x2 + 0) ≤ 0) (f68 : (-1) * x8 + 0 ≤ 0) (f69 : (-1) * x4 + 0 ≤ 0) (f71 : 1 * x8 + ((-1) * x2 + 0) ≤ 0) (f72 : (-1) * x8 + 0 ≤ 0) (f73 : (-1) * x4 + 0 ≤ 0) (kz_0_8 : 0 ≤ fault_0 ∧ fault_0 ≤ 5) (kz_0_11 : 0 ≤ pos_0 ∧ pos_0 ≤ 2000) (kz_0_12 : 0 ≤ kind_0 ∧ kind_0 ≤ 4) (kz_0_15 : 0 ≤ from_0 ∧ from_0 ≤ 2000) (ex2 : gx = 0 + (1 * x9 + 0)) (ex3 : 0 ≤ gx ∧ gx ≤ 2000) : (-1) * gx + ((-1) * pos_0 + 0) ≤ (-2001) := by
  first | assumption | (clear f17; omega) | omega | grind
def o_Mo_of_at_s5003_20 : or_T := (139, 28, [(0, (2, 0, 0, [165])), (2, (0, 9, 9, [])), (3, (0, 0, 2000, [])), (4, (0, -1, 48, [])), (5, (2, 0, 0, [165])), (7, (0, 9, 9, [])), (8, (0, -2147483648, 0, [])), (9, (0, 0, 2000, [])), (13, (0, 0, 2000, [])), (15, (0, 0, 2000, [])), (22, (0, -2147483648, 0, [])), (27, (0, 0, 2000, []))], [(23, [3, 27], [-1, 1, -1]), (23, [9, 27], [-2001, -1, -1]), (23, [22, 7], [0, 1, -1]), (23, [22], [0, -1]), (23, [15, 13], [0, 1, -1]), (23, [15, 13], [0, -1, 1]), (23, [3, 15], [-1, 1, -1]), (23, [9, 15], [-2000, -1, -1]), (23, [3, 13], [-1, 1, -1]), (23, [9, 13], [-2000, -1, -1]), (23, [8, 7], [0, 1, -1]), (23, [8], [0, -1]), (23, [4], [0, -1]), (24, [0, 5], []), (24, [2, 7], []), (20, [5], [30, -1, -1, 1, 8]), (20, [5, 5], [30, 0, 1, 1, 15, -1, 1, 11]), (20, [5], [50, 3, 0, 12, 11, 15, 2, 21, 4, 7, 1, 3, 2, 0, 12, 0, 1, 0, 3, 2, 0, 11, 4, 3, 2, 0, 15, 0, 8, 3, 7, 1, 3, 2, 0, 12, 0, 0, 0, 7, 4, 3, 2, 0, 15, 0, 1, 2, 0, 11]), (20, [27, 5], [30, 0, 1, 0, 0, -1, 1, 15]), (102, [27], [0, 165011, 165012, 165013, 165014, 165015]), (23, [3, 27], [-1, 1, -1]), (23, [9, 27], [-2001, -1, -1]), (23, [22, 7], [0, 1, -1]), (23, [22], [0, -1]), (23, [15, 13], [0, 1, -1]), (23, [15, 13], [0, -1, 1]), (23, [3, 15], [-1, 1, -1]), (23, [9, 15], [-2000, -1, -1]), (23, [3, 13], [-1, 1, -1]), (23, [9, 13], [-2000, -1, -1]), (23, [8, 7], [0, 1, -1]), (23, [8], [0, -1]), (23, [4], [0, -1]), (102, [25], [0, 165008, 165009]), (23, [15, 13], [0, 1, -1]), (23, [15, 13], [0, -1, 1]), (23, [3, 15], [-1, 1, -1]), (23, [9, 15], [-2000, -1, -1]), (23, [3, 13], [-1, 1, -1]), (23, [9, 13], [-2000, -1, -1]), (23, [8, 7], [0, 1, -1]), (23, [8], [0, -1]), (23, [4], [0, -1]), (102, [20], [0, 165008, 165009]), (23, [15, 13], [0, 1, -1]), (23, [15, 13], [0, -1, 1]), (23, [3, 15], [-1, 1, -1]), (23, [9, 15], [-2000, -1, -1]), (23, [3, 13], [-1, 1, -1]), (23, [9, 13], [-2000, -1, -1]), (23, [8, 7], [0, 1, -1]), (23, [8], [0, -1]), (23, [4], [0, -1]), (102, [15], [0, 165008, 165009, 165011, 165012, 165013, 165014, 165015]), (23, [15, 13], [0, 1, -1]), (23, [15, 13], [0, -1, 1]), (23, [3, 15], [-1, 1, -1]), (23, [9, 15], [-2000, -1, -1]), (23, [3, 13], [-1, 1, -1]), (23, [9, 13], [-2000, -1, -1]), (23, [8, 7], [0, 1, -1]), (23, [8], [0, -1]), (23, [4], [0, -1]), (102, [13], [0, 165011, 165012, 165013, 165014, 165015]), (23, [3, 13], [-1, 1, -1]), (23, [9, 13], [-2000, -1, -1]), (8, [8], [5]), (23, [8, 7], [0, 1, -1]), (23, [8], [0, -1]), (23, [4], [0, -1]), (102, [11], [0]), (23, [8, 7], [0, 1, -1]), (23, [8], [0, -1]), (23, [4], [0, -1])], [], [(0, 0, 2000, [])], [(20, [5, 5], [30, 0, 1, 1, 15, -1, 1, 11]), (20, [5], [50, 3, 0, 12, 11, 15, 2, 21, 4, 7, 1, 3, 2, 0, 12, 0, 1, 0, 3, 2, 0, 11, 4, 3, 2, 0, 15, 0, 8, 3, 7, 1, 3, 2, 0, 12, 0, 0, 0, 7, 4, 3, 2, 0, 15, 0, 1, 2, 0, 11]), (20, [3, 5], [30, -1, 1, 0, 0, -1, 1, 11]), (23, [22, 7], [0, 1, -1]), (23, [22], [0, -1]), (23, [4], [0, -1]), (20, [28, 5], [30, -2001, -1, 0, 0, -1, 1, 11]), (24, [0, 5], []), (24, [2, 7], [])], [(28, 9, 0, 0)], [])
theorem oo_Mo_of_at_s5003_20 {kA : Nat → ClassId} : or_ok PRD kA GG o_Mo_of_at_s5003_20 := by
  refine or_mk fun A ta ws vs hD hth hl => ?_
  intro t0 r0 t2 k2 t3 k3 t4 k4 t5 r5 t7 k7 t8 k8 t9 k9 t13 k13 t15 k15 t22 k22 t27 k27 f0 f1 f2 f3 f4 f5 f6 f7 f8 f9 f10 f11 f12 f13 f14 f15 f16 f17 f18 ta1 w1 le1 s1 f20 f21 f22 f23 f24 f25 f26 f27 f28 f29 f30 f31 f32 ta2 w2 le2 s2 f34 f35 f36 f37 f38 f39 f40 f41 f42 ta3 w3 le3 s3 f44 f45 f46 f47 f48 f49 f50 f51 f52 ta4 w4 le4 s4 f54 f55 f56 f57 f58 f59 f60 f61 f62 ta5 w5 le5 s5 f64 f65 f66 f67 f68 f69 ta6 w6 le6 s6 f71 f72 f73
  replace f0 := shm_211 f0
  replace f1 := shm_1895 f1
  replace f2 := shm_7 f2
  replace f3 := shm_1013 f3
  replace f4 := shm_7 f4
  replace f5 := shm_22 f5
  replace f6 := shm_211 f6
  replace f7 := shm_1894 f7
  replace f8 := shm_211 f8
  replace f9 := shm_1894 f9
  replace f10 := shm_7 f10
  replace f11 := shm_1013 f11
  replace f12 := shm_1013 f12
  replace f13 := shm_5 f13
  replace f14 := shm_5 f14
  replace f15 := shm_144 f15
  replace f16 := shm_1397 f16
  replace f17 := shm_1398 f17
  replace f18 := shm_1396 f18
  replace f20 := shm_211 f20
  replace f21 := shm_1895 f21
  replace f22 := shm_7 f22
  replace f23 := shm_1013 f23
  replace f24 := shm_7 f24
  replace f25 := shm_22 f25
  replace f26 := shm_211 f26
  replace f27 := shm_1894 f27
  replace f28 := shm_211 f28
  replace f29 := shm_1894 f29
  replace f30 := shm_7 f30
  replace f31 := shm_1013 f31
  replace f32 := shm_1013 f32
  replace f34 := shm_7 f34
  replace f35 := shm_22 f35
  replace f36 := shm_211 f36
  replace f37 := shm_1894 f37
  replace f38 := shm_211 f38
  replace f39 := shm_1894 f39
  replace f40 := shm_7 f40
  replace f41 := shm_1013 f41
  replace f42 := shm_1013 f42
  replace f44 := shm_7 f44
  replace f45 := shm_22 f45
  replace f46 := shm_211 f46
  replace f47 := shm_1894 f47
  replace f48 := shm_211 f48
  replace f49 := shm_1894 f49
  replace f50 := shm_7 f50
  replace f51 := shm_1013 f51
  replace f52 := shm_1013 f52
  replace f54 := shm_7 f54
  replace f55 := shm_22 f55
  replace f56 := shm_211 f56
  replace f57 := shm_1894 f57
  replace f58 := shm_211 f58
  replace f59 := shm_1894 f59
  replace f60 := shm_7 f60
  replace f61 := shm_1013 f61
  replace f62 := shm_1013 f62
  replace f64 := shm_211 f64
  replace f65 := shm_1894 f65
  replace f66 := shm_142 f66
  replace f67 := shm_7 f67
  replace f68 := shm_1013 f68
  replace f69 := shm_1013 f69
  replace f71 := shm_7 f71
  replace f72 := shm_1013 f72
  replace f73 := shm_1013 f73
  have q5 : n_v vs 5 = n_v vs 0 := f13.symm
  have q7 : n_v vs 7 = n_v vs 2 := f14.symm
  simp only [q7, q5] at f2 f10 f15 f16 f17 f18 f22 f30 f40 f50 f60 f67 f71
  have kz_0_8 := fdq_14 hD hth r0
  have kz_0_11 := fdq_273 hD hth r0
  have kz_0_12 := fdq_186 hD hth r0
  have kz_0_15 := fdq_274 hD hth r0
  obtain ⟨x, ex, hx⟩ := iv_ex (ta := ta) (lo := 0) (hi := 2000) (z := 0 + (1 * v_iv (n_v vs 9) + 0)) (by omega) (by omega) (by omega) (by omega)
  have ex2 : v_iv (Value.int x) = 0 + (1 * v_iv (n_v vs 9) + 0) := ex
  have ex3 : 0 ≤ v_iv (Value.int x) ∧ v_iv (Value.int x) ≤ 2000 := tv_rng hx
  have e_0 : n_v (vs ++ [Value.int x]) 0 = n_v vs 0 := n_v_old (by rw [hl]; decide)
  have e_2 : n_v (vs ++ [Value.int x]) 2 = n_v vs 2 := n_v_old (by rw [hl]; decide)
  have e_3 : n_v (vs ++ [Value.int x]) 3 = n_v vs 3 := n_v_old (by rw [hl]; decide)
  have e_4 : n_v (vs ++ [Value.int x]) 4 = n_v vs 4 := n_v_old (by rw [hl]; decide)
  have e_5 : n_v (vs ++ [Value.int x]) 5 = n_v vs 5 := n_v_old (by rw [hl]; decide)
  have e_7 : n_v (vs ++ [Value.int x]) 7 = n_v vs 7 := n_v_old (by rw [hl]; decide)
  have e_22 : n_v (vs ++ [Value.int x]) 22 = n_v vs 22 := n_v_old (by rw [hl]; decide)
  have e_28 : n_v (vs ++ [Value.int x]) 28 = Value.int x := n_v_new hl
  have nf0 : fc_1 PRD (20, [5, 5], [30, 0, 1, 1, 15, -1, 1, 11]) ws (vs ++ [Value.int x]) := by
    refine ⟨nf_inA hl rfl, sgq_1397 ?_⟩
    · show 1 * w_fi ws (n_v (vs ++ [Value.int x]) 5) 15 + ((-1) * w_fi ws (n_v (vs ++ [Value.int x]) 5) 11 + 0) ≤ 0
      simp only [e_5, q5]
      exact vc_Mo_of_at_s5003_20_0 (v_iv (n_v vs 2)) (v_iv (n_v vs 3)) (v_iv (n_v vs 4)) (v_iv (n_v vs 7)) (v_iv (n_v vs 8)) (v_iv (n_v vs 9)) (v_iv (n_v vs 13)) (v_iv (n_v vs 15)) (v_iv (n_v vs 22)) (v_iv (n_v vs 27)) (w_fi ws (n_v vs 0) 8) (w_fi ws (n_v vs 0) 15) (w_fi ws (n_v vs 0) 11) (w_fi ws (n_v vs 0) 12) (v_iv (Value.int x)) k2 k3 k4 k7 k8 k9 k13 k15 k22 k27 f0 f1 f2 f3 f4 f5 f6 f7 f8 f9 f10 f11 f12 f15 f16 f17 f18 f20 f21 f22 f23 f24 f25 f26 f27 f28 f29 f30 f31 f32 f34 f35 f36 f37 f38 f39 f40 f41 f42 f44 f45 f46 f47 f48 f49 f50 f51 f52 f54 f55 f56 f57 f58 f59 f60 f61 f62 f64 f65 f66 f67 f68 f69 f71 f72 f73 kz_0_8 kz_0_11 kz_0_12 kz_0_15 ex2 ex3
  have nf1 : fc_1 PRD (20, [5], [50, 3, 0, 12, 11, 15, 2, 21, 4, 7, 1, 3, 2, 0, 12, 0, 1, 0, 3, 2, 0, 11, 4, 3, 2, 0, 15, 0, 8, 3, 7, 1, 3, 2, 0, 12, 0, 0, 0, 7, 4, 3, 2, 0, 15, 0, 1, 2, 0, 11]) ws (vs ++ [Value.int x]) := by
    refine ⟨nf_inA hl rfl, sgq_1398 ?_⟩
    · show ((w_fi ws (n_v (vs ++ [Value.int x]) 5) 12 = 1) → (w_fi ws (n_v (vs ++ [Value.int x]) 5) 11 ≤ (w_fi ws (n_v (vs ++ [Value.int x]) 5) 15 + 8))) ∧ ((w_fi ws (n_v (vs ++ [Value.int x]) 5) 12 = 0) ∨ ((w_fi ws (n_v (vs ++ [Value.int x]) 5) 15 + 1) ≤ w_fi ws (n_v (vs ++ [Value.int x]) 5) 11))
      simp only [e_5, q5]
      exact vc_Mo_of_at_s5003_20_1 (v_iv (n_v vs 2)) (v_iv (n_v vs 3)) (v_iv (n_v vs 4)) (v_iv (n_v vs 7)) (v_iv (n_v vs 8)) (v_iv (n_v vs 9)) (v_iv (n_v vs 13)) (v_iv (n_v vs 15)) (v_iv (n_v vs 22)) (v_iv (n_v vs 27)) (w_fi ws (n_v vs 0) 8) (w_fi ws (n_v vs 0) 15) (w_fi ws (n_v vs 0) 11) (w_fi ws (n_v vs 0) 12) (v_iv (Value.int x)) k2 k3 k4 k7 k8 k9 k13 k15 k22 k27 f0 f1 f2 f3 f4 f5 f6 f7 f8 f9 f10 f11 f12 f15 f16 f17 f18 f20 f21 f22 f23 f24 f25 f26 f27 f28 f29 f30 f31 f32 f34 f35 f36 f37 f38 f39 f40 f41 f42 f44 f45 f46 f47 f48 f49 f50 f51 f52 f54 f55 f56 f57 f58 f59 f60 f61 f62 f64 f65 f66 f67 f68 f69 f71 f72 f73 kz_0_8 kz_0_11 kz_0_12 kz_0_15 ex2 ex3
  have nf2 : fc_1 PRD (20, [3, 5], [30, -1, 1, 0, 0, -1, 1, 11]) ws (vs ++ [Value.int x]) := by
    refine ⟨nf_inA hl rfl, sgq_1891 ?_⟩
    · show 1 * v_iv (n_v (vs ++ [Value.int x]) 3) + ((-1) * w_fi ws (n_v (vs ++ [Value.int x]) 5) 11 + 0) ≤ (-1)
      simp only [e_3, e_5, q5]
      exact vc_Mo_of_at_s5003_20_2 (v_iv (n_v vs 2)) (v_iv (n_v vs 3)) (v_iv (n_v vs 4)) (v_iv (n_v vs 7)) (v_iv (n_v vs 8)) (v_iv (n_v vs 9)) (v_iv (n_v vs 13)) (v_iv (n_v vs 15)) (v_iv (n_v vs 22)) (v_iv (n_v vs 27)) (w_fi ws (n_v vs 0) 8) (w_fi ws (n_v vs 0) 15) (w_fi ws (n_v vs 0) 11) (w_fi ws (n_v vs 0) 12) (v_iv (Value.int x)) k2 k3 k4 k7 k8 k9 k13 k15 k22 k27 f0 f1 f2 f3 f4 f5 f6 f7 f8 f9 f10 f11 f12 f15 f16 f17 f18 f20 f21 f22 f23 f24 f25 f26 f27 f28 f29 f30 f31 f32 f34 f35 f36 f37 f38 f39 f40 f41 f42 f44 f45 f46 f47 f48 f49 f50 f51 f52 f54 f55 f56 f57 f58 f59 f60 f61 f62 f64 f65 f66 f67 f68 f69 f71 f72 f73 kz_0_8 kz_0_11 kz_0_12 kz_0_15 ex2 ex3
  have nf3 : fc_1 PRD (23, [22, 7], [0, 1, -1]) ws (vs ++ [Value.int x]) := by
    refine ⟨nf_inA hl rfl, sgq_7 ?_⟩
    · show 1 * v_iv (n_v (vs ++ [Value.int x]) 22) + ((-1) * v_iv (n_v (vs ++ [Value.int x]) 7) + 0) ≤ 0
      simp only [e_7, e_22, q7]
      exact vc_Mo_of_at_s5003_20_3 (v_iv (n_v vs 2)) (v_iv (n_v vs 3)) (v_iv (n_v vs 4)) (v_iv (n_v vs 7)) (v_iv (n_v vs 8)) (v_iv (n_v vs 9)) (v_iv (n_v vs 13)) (v_iv (n_v vs 15)) (v_iv (n_v vs 22)) (v_iv (n_v vs 27)) (w_fi ws (n_v vs 0) 8) (w_fi ws (n_v vs 0) 15) (w_fi ws (n_v vs 0) 11) (w_fi ws (n_v vs 0) 12) (v_iv (Value.int x)) k2 k3 k4 k7 k8 k9 k13 k15 k22 k27 f0 f1 f2 f3 f4 f5 f6 f7 f8 f9 f10 f11 f12 f15 f16 f17 f18 f20 f21 f22 f23 f24 f25 f26 f27 f28 f29 f30 f31 f32 f34 f35 f36 f37 f38 f39 f40 f41 f42 f44 f45 f46 f47 f48 f49 f50 f51 f52 f54 f55 f56 f57 f58 f59 f60 f61 f62 f64 f65 f66 f67 f68 f69 f71 f72 f73 kz_0_8 kz_0_11 kz_0_12 kz_0_15 ex2 ex3
  have nf4 : fc_1 PRD (23, [22], [0, -1]) ws (vs ++ [Value.int x]) := by
    refine ⟨nf_inA hl rfl, sgq_1013 ?_⟩
    · show (-1) * v_iv (n_v (vs ++ [Value.int x]) 22) + 0 ≤ 0
      rw [e_22]
      exact vc_Mo_of_at_s5003_20_4 (v_iv (n_v vs 2)) (v_iv (n_v vs 3)) (v_iv (n_v vs 4)) (v_iv (n_v vs 7)) (v_iv (n_v vs 8)) (v_iv (n_v vs 9)) (v_iv (n_v vs 13)) (v_iv (n_v vs 15)) (v_iv (n_v vs 22)) (v_iv (n_v vs 27)) (w_fi ws (n_v vs 0) 8) (w_fi ws (n_v vs 0) 15) (w_fi ws (n_v vs 0) 11) (w_fi ws (n_v vs 0) 12) (v_iv (Value.int x)) k2 k3 k4 k7 k8 k9 k13 k15 k22 k27 f0 f1 f2 f3 f4 f5 f6 f7 f8 f9 f10 f11 f12 f15 f16 f17 f18 f20 f21 f22 f23 f24 f25 f26 f27 f28 f29 f30 f31 f32 f34 f35 f36 f37 f38 f39 f40 f41 f42 f44 f45 f46 f47 f48 f49 f50 f51 f52 f54 f55 f56 f57 f58 f59 f60 f61 f62 f64 f65 f66 f67 f68 f69 f71 f72 f73 kz_0_8 kz_0_11 kz_0_12 kz_0_15 ex2 ex3
  have nf5 : fc_1 PRD (23, [4], [0, -1]) ws (vs ++ [Value.int x]) := by
    refine ⟨nf_inA hl rfl, sgq_1013 ?_⟩
    · show (-1) * v_iv (n_v (vs ++ [Value.int x]) 4) + 0 ≤ 0
      rw [e_4]
      exact vc_Mo_of_at_s5003_20_5 (v_iv (n_v vs 2)) (v_iv (n_v vs 3)) (v_iv (n_v vs 4)) (v_iv (n_v vs 7)) (v_iv (n_v vs 8)) (v_iv (n_v vs 9)) (v_iv (n_v vs 13)) (v_iv (n_v vs 15)) (v_iv (n_v vs 22)) (v_iv (n_v vs 27)) (w_fi ws (n_v vs 0) 8) (w_fi ws (n_v vs 0) 15) (w_fi ws (n_v vs 0) 11) (w_fi ws (n_v vs 0) 12) (v_iv (Value.int x)) k2 k3 k4 k7 k8 k9 k13 k15 k22 k27 f0 f1 f2 f3 f4 f5 f6 f7 f8 f9 f10 f11 f12 f15 f16 f17 f18 f20 f21 f22 f23 f24 f25 f26 f27 f28 f29 f30 f31 f32 f34 f35 f36 f37 f38 f39 f40 f41 f42 f44 f45 f46 f47 f48 f49 f50 f51 f52 f54 f55 f56 f57 f58 f59 f60 f61 f62 f64 f65 f66 f67 f68 f69 f71 f72 f73 kz_0_8 kz_0_11 kz_0_12 kz_0_15 ex2 ex3
  have nf6 : fc_1 PRD (20, [28, 5], [30, -2001, -1, 0, 0, -1, 1, 11]) ws (vs ++ [Value.int x]) := by
    refine ⟨nf_inA hl rfl, sgq_1896 ?_⟩
    · show (-1) * v_iv (n_v (vs ++ [Value.int x]) 28) + ((-1) * w_fi ws (n_v (vs ++ [Value.int x]) 5) 11 + 0) ≤ (-2001)
      simp only [e_5, e_28, q5]
      exact vc_Mo_of_at_s5003_20_6 (v_iv (n_v vs 2)) (v_iv (n_v vs 3)) (v_iv (n_v vs 4)) (v_iv (n_v vs 7)) (v_iv (n_v vs 8)) (v_iv (n_v vs 9)) (v_iv (n_v vs 13)) (v_iv (n_v vs 15)) (v_iv (n_v vs 22)) (v_iv (n_v vs 27)) (w_fi ws (n_v vs 0) 8) (w_fi ws (n_v vs 0) 15) (w_fi ws (n_v vs 0) 11) (w_fi ws (n_v vs 0) 12) (v_iv (Value.int x)) k2 k3 k4 k7 k8 k9 k13 k15 k22 k27 f0 f1 f2 f3 f4 f5 f6 f7 f8 f9 f10 f11 f12 f15 f16 f17 f18 f20 f21 f22 f23 f24 f25 f26 f27 f28 f29 f30 f31 f32 f34 f35 f36 f37 f38 f39 f40 f41 f42 f44 f45 f46 f47 f48 f49 f50 f51 f52 f54 f55 f56 f57 f58 f59 f60 f61 f62 f64 f65 f66 f67 f68 f69 f71 f72 f73 kz_0_8 kz_0_11 kz_0_12 kz_0_15 ex2 ex3
  have nf7 : fc_1 PRD (24, [0, 5], []) ws (vs ++ [Value.int x]) := by
    refine ⟨nf_inA hl rfl, sgq_5 ?_⟩
    · show n_v (vs ++ [Value.int x]) 0 = n_v (vs ++ [Value.int x]) 5
      first | rfl | simp only [e_0, e_5, q5, q7]
  have nf8 : fc_1 PRD (24, [2, 7], []) ws (vs ++ [Value.int x]) := by
    refine ⟨nf_inA hl rfl, sgq_5 ?_⟩
    · show n_v (vs ++ [Value.int x]) 2 = n_v (vs ++ [Value.int x]) 7
      first | rfl | simp only [e_2, e_7, q5, q7]
  obtain ⟨x0, e0, _, _⟩ := tv_int t9 rfl
  have e1 : v_iv (n_v vs 9) = x0.toInt := by rw [e0]; rfl
  have ho : sy_ofs (vs ++ [Value.int x]) (28, 9, 0, 0) := by
    refine ⟨x, x0, by rw [List.getElem?_append_right (by rw [hl]; decide), hl]; rfl, ?_, ?_, ?_⟩
    · rw [List.getElem?_append_left (by rw [hl]; decide)]; exact n_v_some (by rw [hl]; decide) e0
    · show x0.toInt + 0 ≤ x.toInt; omega
    · show x.toInt ≤ x0.toInt + 0; omega
  exact ⟨(fun _ h => (by cases h)), [Value.int x], ag_one hx, List.forall_mem_cons.mpr ⟨⟨show (20 : Nat) < 100 from by decide, nf0⟩, List.forall_mem_cons.mpr ⟨⟨show (20 : Nat) < 100 from by decide, nf1⟩, List.forall_mem_cons.mpr ⟨⟨show (20 : Nat) < 100 from by decide, nf2⟩, List.forall_mem_cons.mpr ⟨⟨show (23 : Nat) < 100 from by decide, nf3⟩, List.forall_mem_cons.mpr ⟨⟨show (23 : Nat) < 100 from by decide, nf4⟩, List.forall_mem_cons.mpr ⟨⟨show (23 : Nat) < 100 from by decide, nf5⟩, List.forall_mem_cons.mpr ⟨⟨show (20 : Nat) < 100 from by decide, nf6⟩, List.forall_mem_cons.mpr ⟨⟨show (24 : Nat) < 100 from by decide, nf7⟩, List.forall_mem_cons.mpr ⟨⟨show (24 : Nat) < 100 from by decide, nf8⟩, (fun _ h => (by cases h))⟩⟩⟩⟩⟩⟩⟩⟩⟩, List.forall_mem_cons.mpr ⟨ho, (fun _ h => (by cases h))⟩⟩
set_option maxHeartbeats 4000000 in
theorem vc_Mo_of_at_s5003_21_0 (x2 : Int) (x3 : Int) (x4 : Int) (x7 : Int) (x9 : Int) (x13 : Int) (x15 : Int) (x26 : Int) (x27 : Int) (fault_0 : Int) (from_0 : Int) (pos_0 : Int) (kind_0 : Int) (k2 : 9 ≤ x2 ∧ x2 ≤ 9) (k3 : 0 ≤ x3 ∧ x3 ≤ 2000) (k4 : (-1) ≤ x4 ∧ x4 ≤ 48) (k7 : 9 ≤ x7 ∧ x7 ≤ 9) (k9 : 0 ≤ x9 ∧ x9 ≤ 2000) (k13 : 0 ≤ x13 ∧ x13 ≤ 2000) (k15 : 0 ≤ x15 ∧ x15 ≤ 2000) (k26 : 1 ≤ x26 ∧ x26 ≤ 5) (k27 : 0 ≤ x27 ∧ x27 ≤ 0) (f0 : 0 < x26) (g1 : x26 = fault_0) (f2 : 1 * x15 + ((-1) * x13 + 0) ≤ 0) (f3 : (-1) * x15 + (1 * x13 + 0) ≤ 0) (f4 : 1 * x3 + ((-1) * x15 + 0) ≤ (-1)) (f5 : (-1) * x9 + ((-1) * x15 + 0) ≤ (-2000)) (f6 : 1 * x3 + ((-1) * x13 + 0) ≤ (-1)) (f7 : (-1) * x9 + ((-1) * x13 + 0) ≤ (-2000)) (f8 : (-1) * x4 + 0 ≤ 0) (f11 : 1 * from_0 + ((-1) * pos_0 + 0) ≤ 0) (f12 : ((kind_0 = 1) → (pos_0 ≤ (from_0 + 8))) ∧ ((kind_0 = 0) ∨ ((from_0 + 1) ≤ pos_0))) (f13 : 1 * x15 + ((-1) * pos_0 + 0) ≤ 0) (f14 : (-1) * fault_0 + 0 ≤ (-1)) (f16 : 1 * x15 + ((-1) * x13 + 0) ≤ 0) (f17 : (-1) * x15 + (1 * x13 + 0) ≤ 0) (f18 : 1 * x3 + ((-1) * x15 + 0) ≤ (-1)) (f19 : (-1) * x9 + ((-1) * x15 + 0) ≤ (-2000)) (f20 : 1 * x3 + ((-1) * x13 + 0) ≤ (-1)) (f21 : (-1) * x9 + ((-1) * x13 + 0) ≤ (-2000)) (f22 : (-1) * x4 + 0 ≤ 0) (f24 : 1 * x15 + ((-1) * x13 + 0) ≤ 0) (f25 : (-1) * x15 + (1 * x13 + 0) ≤ 0) (f26 : 1 * x3 + ((-1) * x15 + 0) ≤ (-1)) (f27 : (-1) * x9 + ((-1) * x15 + 0) ≤ (-2000)) (f28 : 1 * x3 + ((-1) * x13 + 0) ≤ (-1)) (f29 : (-1) * x9 + ((-1) * x13 + 0) ≤ (-2000)) (f30 : (-1) * x4 + 0 ≤ 0) (f32 : 1 * x15 + ((-1) * x13 + 0) ≤ 0) (f33 : (-1) * x15 + (1 * x13 + 0) ≤ 0) (f34 : 1 * x3 + ((-1) * x15 + 0) ≤ (-1)) (f35 : (-1) * x9 + ((-1) * x15 + 0) ≤ (-2000)) (f36 : 1 * x3 + ((-1) * x13 + 0) ≤ (-1)) (f37 : (-1) * x9 + ((-1) * x13 + 0) ≤ (-2000)) (f38 : (-1) * x4 + 0 ≤ 0) (f40 : 1 * x3 + ((-1) * x13 + 0) ≤ (-1)) (f41 : (-1) * x9 + ((-1) * x13 + 0) ≤ (-2000)) (f42 : (-1) * x4 + 0 ≤ 0) (f44 : (-1) * x4 + 0 ≤ 0) (kz_0_8 : 0 ≤ fault_0 ∧ fault_0 ≤ 5) (kz_0_11 : 0 ≤ pos_0 ∧ pos_0 ≤ 2000) (kz_0_12 : 0 ≤ kind_0 ∧ kind_0 ≤ 4) (kz_0_15 : 0 ≤ from_0 ∧ from_0 ≤ 2000) : 1 * from_0 + ((-1) * pos_0 + 0) ≤ 0 := by
  first | assumption | (clear f12; omega) | omega | grind
set_option maxHeartbeats 4000000 in
theorem vc_Mo_of_at_s5003_21_1 (x2 : Int) (x3 : Int) (x4 : Int) (x7 : Int) (x9 : Int) (x13 : Int) (x15 : Int) (x26 : Int) (x27 : Int) (fault_0 : Int) (from_0 : Int) (pos_0 : Int) (kind_0 : Int) (k2 : 9 ≤ x2 ∧ x2 ≤ 9) (k3 : 0 ≤ x3 ∧ x3 ≤ 2000) (k4 : (-1) ≤ x4 ∧ x4 ≤ 48) (k7 : 9 ≤ x7 ∧ x7 ≤ 9) (k9 : 0 ≤ x9 ∧ x9 ≤ 2000) (k13 : 0 ≤ x13 ∧ x13 ≤ 2000) (k15 : 0 ≤ x15 ∧ x15 ≤ 2000) (k26 : 1 ≤ x26 ∧ x26 ≤ 5) (k27 : 0 ≤ x27 ∧ x27 ≤ 0) (f0 : 0 < x26) (g1 : x26 = fault_0) (f2 : 1 * x15 + ((-1) * x13 + 0) ≤ 0) (f3 : (-1) * x15 + (1 * x13 + 0) ≤ 0) (f4 : 1 * x3 + ((-1) * x15 + 0) ≤ (-1)) (f5 : (-1) * x9 + ((-1) * x15 + 0) ≤ (-2000)) (f6 : 1 * x3 + ((-1) * x13 + 0) ≤ (-1)) (f7 : (-1) * x9 + ((-1) * x13 + 0) ≤ (-2000)) (f8 : (-1) * x4 + 0 ≤ 0) (f11 : 1 * from_0 + ((-1) * pos_0 + 0) ≤ 0) (f12 : ((kind_0 = 1) → (pos_0 ≤ (from_0 + 8))) ∧ ((kind_0 = 0) ∨ ((from_0 + 1) ≤ pos_0))) (f13 : 1 * x15 + ((-1) * pos_0 + 0) ≤ 0) (f14 : (-1) * fault_0 + 0 ≤ (-1)) (f16 : 1 * x15 + ((-1) * x13 + 0) ≤ 0) (f17 : (-1) * x15 + (1 * x13 + 0) ≤ 0) (f18 : 1 * x3 + ((-1) * x15 + 0) ≤ (-1)) (f19 : (-1) * x9 + ((-1) * x15 + 0) ≤ (-2000)) (f20 : 1 * x3 + ((-1) * x13 + 0) ≤ (-1)) (f21 : (-1) * x9 + ((-1) * x13 + 0) ≤ (-2000)) (f22 : (-1) * x4 + 0 ≤ 0) (f24 : 1 * x15 + ((-1) * x13 + 0) ≤ 0) (f25 : (-1) * x15 + (1 * x13 + 0) ≤ 0) (f26 : 1 * x3 + ((-1) * x15 + 0) ≤ (-1)) (f27 : (-1) * x9 + ((-1) * x15 + 0) ≤ (-2000)) (f28 : 1 * x3 + ((-1) * x13 + 0) ≤ (-1)) (f29 : (-1) * x9 + ((-1) * x13 + 0) ≤ (-2000)) (f30 : (-1) * x4 + 0 ≤ 0) (f32 : 1 * x15 + ((-1) * x13 + 0) ≤ 0) (f33 : (-1) * x15 + (1 * x13 + 0) ≤ 0) (f34 : 1 * x3 + ((-1) * x15 + 0) ≤ (-1)) (f35 : (-1) * x9 + ((-1) * x15 + 0) ≤ (-2000)) (f36 : 1 * x3 + ((-1) * x13 + 0) ≤ (-1)) (f37 : (-1) * x9 + ((-1) * x13 + 0) ≤ (-2000)) (f38 : (-1) * x4 + 0 ≤ 0) (f40 : 1 * x3 + ((-1) * x13 + 0) ≤ (-1)) (f41 : (-1) * x9 + ((-1) * x13 + 0) ≤ (-2000)) (f42 : (-1) * x4 + 0 ≤ 0) (f44 : (-1) * x4 + 0 ≤ 0) (kz_0_8 : 0 ≤ fault_0 ∧ fault_0 ≤ 5) (kz_0_11 : 0 ≤ pos_0 ∧ pos_0 ≤ 2000) (kz_0_12 : 0 ≤ kind_0 ∧ kind_0 ≤ 4) (kz_0_15 : 0 ≤ from_0 ∧ from_0 ≤ 2000) : ((kind_0 = 1) → (pos_0 ≤ (from_0 + 8))) ∧ ((kind_0 = 0) ∨ ((from_0 + 1) ≤ pos_0)) := by
  first | assumption | (clear f12; omega) | omega | grind
set_option maxHeartbeats 4000000 in
theorem vc_Mo_of_at_s5003_21_2 (x2 : Int) (x3 : Int) (x4 : Int) (x7 : Int) (x9 : Int) (x13 : Int) (x15 : Int) (x26 : Int) (x27 : Int) (fault_0 : Int) (from_0 : Int) (pos_0 : Int) (kind_0 : Int) (k2 : 9 ≤ x2 ∧ x2 ≤ 9) (k3 : 0 ≤ x3 ∧ x3 ≤ 2000) (k4 : (-1) ≤ x4 ∧ x4 ≤ 48) (k7 : 9 ≤ x7 ∧ x7 ≤ 9) (k9 : 0 ≤ x9 ∧ x9 ≤ 2000) (k13 : 0 ≤ x13 ∧ x13 ≤ 2000) (k15 : 0 ≤ x15 ∧ x15 ≤ 2000) (k26 : 1 ≤ x26 ∧ x26 ≤ 5) (k27 : 0 ≤ x27 ∧ x27 ≤ 0) (f0 : 0 < x26) (g1 : x26 = fault_0) (f2 : 1 * x15 + ((-1) * x13 + 0) ≤ 0) (f3 : (-1) * x15 + (1 * x13 + 0) ≤ 0) (f4 : 1 * x3 + ((-1) * x15 + 0) ≤ (-1)) (f5 : (-1) * x9 + ((-1) * x15 + 0) ≤ (-2000)) (f6 : 1 * x3 + ((-1) * x13 + 0) ≤ (-1)) (f7 : (-1) * x9 + ((-1) * x13 + 0) ≤ (-2000)) (f8 : (-1) * x4 + 0 ≤ 0) (f11 : 1 * from_0 + ((-1) * pos_0 + 0) ≤ 0) (f12 : ((kind_0 = 1) → (pos_0 ≤ (from_0 + 8))) ∧ ((kind_0 = 0) ∨ ((from_0 + 1) ≤ pos_0))) (f13 : 1 * x15 + ((-1) * pos_0 + 0) ≤ 0) (f14 : (-1) * fault_0 + 0 ≤ (-1)) (f16 : 1 * x15 + ((-1) * x13 + 0) ≤ 0) (f17 : (-1) * x15 + (1 * x13 + 0) ≤ 0) (f18 : 1 * x3 + ((-1) * x15 + 0) ≤ (-1)) (f19 : (-1) * x9 + ((-1) * x15 + 0) ≤ (-2000)) (f20 : 1 * x3 + ((-1) * x13 + 0) ≤ (-1)) (f21 : (-1) * x9 + ((-1) * x13 + 0) ≤ (-2000)) (f22 : (-1) * x4 + 0 ≤ 0) (f24 : 1 * x15 + ((-1) * x13 + 0) ≤ 0) (f25 : (-1) * x15 + (1 * x13 + 0) ≤ 0) (f26 : 1 * x3 + ((-1) * x15 + 0) ≤ (-1)) (f27 : (-1) * x9 + ((-1) * x15 + 0) ≤ (-2000)) (f28 : 1 * x3 + ((-1) * x13 + 0) ≤ (-1)) (f29 : (-1) * x9 + ((-1) * x13 + 0) ≤ (-2000)) (f30 : (-1) * x4 + 0 ≤ 0) (f32 : 1 * x15 + ((-1) * x13 + 0) ≤ 0) (f33 : (-1) * x15 + (1 * x13 + 0) ≤ 0) (f34 : 1 * x3 + ((-1) * x15 + 0) ≤ (-1)) (f35 : (-1) * x9 + ((-1) * x15 + 0) ≤ (-2000)) (f36 : 1 * x3 + ((-1) * x13 + 0) ≤ (-1)) (f37 : (-1) * x9 + ((-1) * x13 + 0) ≤ (-2000)) (f38 : (-1) * x4 + 0 ≤ 0) (f40 : 1 * x3 + ((-1) * x13 + 0) ≤ (-1)) (f41 : (-1) * x9 + ((-1) * x13 + 0) ≤ (-2000)) (f42 : (-1) * x4 + 0 ≤ 0) (f44 : (-1) * x4 + 0 ≤ 0) (kz_0_8 : 0 ≤ fault_0 ∧ fault_0 ≤ 5) (kz_0_11 : 0 ≤ pos_0 ∧ pos_0 ≤ 2000) (kz_0_12 : 0 ≤ kind_0 ∧ kind_0 ≤ 4) (kz_0_15 : 0 ≤ from_0 ∧ from_0 ≤ 2000) : 1 * x3 + ((-1) * pos_0 + 0) ≤ 0 := by
  first | assumption | (clear f12; omega) | omega | grind
set_option maxHeartbeats 4000000 in
theorem vc_Mo_of_at_s5003_21_3 (x2 : Int) (x3 : Int) (x4 : Int) (x7 : Int) (x9 : Int) (x13 : Int) (x15 : Int) (x26 : Int) (x27 : Int) (fault_0 : Int) (from_0 : Int) (pos_0 : Int) (kind_0 : Int) (k2 : 9 ≤ x2 ∧ x2 ≤ 9) (k3 : 0 ≤ x3 ∧ x3 ≤ 2000) (k4 : (-1) ≤ x4 ∧ x4 ≤ 48) (k7 : 9 ≤ x7 ∧ x7 ≤ 9) (k9 : 0 ≤ x9 ∧ x9 ≤ 2000) (k13 : 0 ≤ x13 ∧ x13 ≤ 2000) (k15 : 0 ≤ x15 ∧ x15 ≤ 2000) (k26 : 1 ≤ x26 ∧ x26 ≤ 5) (k27 : 0 ≤ x27 ∧ x27 ≤ 0) (f0 : 0 < x26) (g1 : x26 = fault_0) (f2 : 1 * x15 + ((-1) * x13 + 0) ≤ 0) (f3 : (-1) * x15 + (1 * x13 + 0) ≤ 0) (f4 : 1 * x3 + ((-1) * x15 + 0) ≤ (-1)) (f5 : (-1) * x9 + ((-1) * x15 + 0) ≤ (-2000)) (f6 : 1 * x3 + ((-1) * x13 + 0) ≤ (-1)) (f7 : (-1) * x9 + ((-1) * x13 + 0) ≤ (-2000)) (f8 : (-1) * x4 + 0 ≤ 0) (f11 : 1 * from_0 + ((-1) * pos_0 + 0) ≤ 0) (f12 : ((kind_0 = 1) → (pos_0 ≤ (from_0 + 8))) ∧ ((kind_0 = 0) ∨ ((from_0 + 1) ≤ pos_0))) (f13 : 1 * x15 + ((-1) * pos_0 + 0) ≤ 0) (f14 : (-1) * fault_0 + 0 ≤ (-1)) (f16 : 1 * x15 + ((-1) * x13 + 0) ≤ 0) (f17 : (-1) * x15 + (1 * x13 + 0) ≤ 0) (f18 : 1 * x3 + ((-1) * x15 + 0) ≤ (-1)) (f19 : (-1) * x9 + ((-1) * x15 + 0) ≤ (-2000)) (f20 : 1 * x3 + ((-1) * x13 + 0) ≤ (-1)) (f21 : (-1) * x9 + ((-1) * x13 + 0) ≤ (-2000)) (f22 : (-1) * x4 + 0 ≤ 0) (f24 : 1 * x15 + ((-1) * x13 + 0) ≤ 0) (f25 : (-1) * x15 + (1 * x13 + 0) ≤ 0) (f26 : 1 * x3 + ((-1) * x15 + 0) ≤ (-1)) (f27 : (-1) * x9 + ((-1) * x15 + 0) ≤ (-2000)) (f28 : 1 * x3 + ((-1) * x13 + 0) ≤ (-1)) (f29 : (-1) * x9 + ((-1) * x13 + 0) ≤ (-2000)) (f30 : (-1) * x4 + 0 ≤ 0) (f32 : 1 * x15 + ((-1) * x13 + 0) ≤ 0) (f33 : (-1) * x15 + (1 * x13 + 0) ≤ 0) (f34 : 1 * x3 + ((-1) * x15 + 0) ≤ (-1)) (f35 : (-1) * x9 + ((-1) * x15 + 0) ≤ (-2000)) (f36 : 1 * x3 + ((-1) * x13 + 0) ≤ (-1)) (f37 : (-1) * x9 + ((-1) * x13 + 0) ≤ (-2000)) (f38 : (-1) * x4 + 0 ≤ 0) (f40 : 1 * x3 + ((-1) * x13 + 0) ≤ (-1)) (f41 : (-1) * x9 + ((-1) * x13 + 0) ≤ (-2000)) (f42 : (-1) * x4 + 0 ≤ 0) (f44 : (-1) * x4 + 0 ≤ 0) (kz_0_8 : 0 ≤ fault_0 ∧ fault_0 ≤ 5) (kz_0_11 : 0 ≤ pos_0 ∧ pos_0 ≤ 2000) (kz_0_12 : 0 ≤ kind_0 ∧ kind_0 ≤ 4) (kz_0_15 : 0 ≤ from_0 ∧ from_0 ≤ 2000) : (1 ≤ fault_0) ∨ ((kind_0 = 0) ∨ ((x3 + 1) ≤ pos_0)) := by
  first | assumption | (clear f12; omega) | omega | grind
set_option maxHeartbeats 4000000 in
theorem vc_Mo_of_at_s5003_21_4 (x2 : Int) (x3 : Int) (x4 : Int) (x7 : Int) (x9 : Int) (x13 : Int) (x15 : Int) (x26 : Int) (x27 : Int) (fault_0 : Int) (from_0 : Int) (pos_0 : Int) (kind_0 : Int) (k2 : 9 ≤ x2 ∧ x2 ≤ 9) (k3 : 0 ≤ x3 ∧ x3 ≤ 2000) (k4 : (-1) ≤ x4 ∧ x4 ≤ 48) (k7 : 9 ≤ x7 ∧ x7 ≤ 9) (k9 : 0 ≤ x9 ∧ x9 ≤ 2000) (k13 : 0 ≤ x13 ∧ x13 ≤ 2000) (k15 : 0 ≤ x15 ∧ x15 ≤ 2000) (k26 : 1 ≤ x26 ∧ x26 ≤ 5) (k27 : 0 ≤ x27 ∧ x27 ≤ 0) (f0 : 0 < x26) (g1 : x26 = fault_0) (f2 : 1 * x15 + ((-1) * x13 + 0) ≤ 0) (f3 : (-1) * x15 + (1 * x13 + 0) ≤ 0) (f4 : 1 * x3 + ((-1) * x15 + 0) ≤ (-1)) (f5 : (-1) * x9 + ((-1) * x15 + 0) ≤ (-2000)) (f6 : 1 * x3 + ((-1) * x13 + 0) ≤ (-1)) (f7 : (-1) * x9 + ((-1) * x13 + 0) ≤ (-2000)) (f8 : (-1) * x4 + 0 ≤ 0) (f11 : 1 * from_0 + ((-1) * pos_0 + 0) ≤ 0) (f12 : ((kind_0 = 1) → (pos_0 ≤ (from_0 + 8))) ∧ ((kind_0 = 0) ∨ ((from_0 + 1) ≤ pos_0))) (f13 : 1 * x15 + ((-1) * pos_0 + 0) ≤ 0) (f14 : (-1) * fault_0 + 0 ≤ (-1)) (f16 : 1 * x15 + ((-1) * x13 + 0) ≤ 0) (f17 : (-1) * x15 + (1 * x13 + 0) ≤ 0) (f18 : 1 * x3 + ((-1) * x15 + 0) ≤ (-1)) (f19 : (-1) * x9 + ((-1) * x15 + 0) ≤ (-2000)) (f20 : 1 * x3 + ((-1) * x13 + 0) ≤ (-1)) (f21 : (-1) * x9 + ((-1) * x13 + 0) ≤ (-2000)) (f22 : (-1) * x4 + 0 ≤ 0) (f24 : 1 * x15 + ((-1) * x13 + 0) ≤ 0) (f25 : (-1) * x15 + (1 * x13 + 0) ≤ 0) (f26 : 1 * x3 + ((-1) * x15 + 0) ≤ (-1)) (f27 : (-1) * x9 + ((-1) * x15 + 0) ≤ (-2000)) (f28 : 1 * x3 + ((-1) * x13 + 0) ≤ (-1)) (f29 : (-1) * x9 + ((-1) * x13 + 0) ≤ (-2000)) (f30 : (-1) * x4 + 0 ≤ 0) (f32 : 1 * x15 + ((-1) * x13 + 0) ≤ 0) (f33 : (-1) * x15 + (1 * x13 + 0) ≤ 0) (f34 : 1 * x3 + ((-1) * x15 + 0) ≤ (-1)) (f35 : (-1) * x9 + ((-1) * x15 + 0) ≤ (-2000)) (f36 : 1 * x3 + ((-1) * x13 + 0) ≤ (-1)) (f37 : (-1) * x9 + ((-1) * x13 + 0) ≤ (-2000)) (f38 : (-1) * x4 + 0 ≤ 0) (f40 : 1 * x3 + ((-1) * x13 + 0) ≤ (-1)) (f41 : (-1) * x9 + ((-1) * x13 + 0) ≤ (-2000)) (f42 : (-1) * x4 + 0 ≤ 0) (f44 : (-1) * x4 + 0 ≤ 0) (kz_0_8 : 0 ≤ fault_0 ∧ fault_0 ≤ 5) (kz_0_11 : 0 ≤ pos_0 ∧ pos_0 ≤ 2000) (kz_0_12 : 0 ≤ kind_0 ∧ kind_0 ≤ 4) (kz_0_15 : 0 ≤ from_0 ∧ from_0 ≤ 2000) : (1 ≤ fault_0) ∨ (0 ≤ x4) := by
  first | assumption | (clear f12; omega) | omega | grind
set_option maxHeartbeats 4000000 in
theorem vc_Mo_of_at_s5003_21_5 (x2 : Int) (x3 : Int) (x4 : Int) (x7 : Int) (x9 : Int) (x13 : Int) (x15 : Int) (x26 : Int) (x27 : Int) (fault_0 : Int) (from_0 : Int) (pos_0 : Int) (kind_0 : Int) (k2 : 9 ≤ x2 ∧ x2 ≤ 9) (k3 : 0 ≤ x3 ∧ x3 ≤ 2000) (k4 : (-1) ≤ x4 ∧ x4 ≤ 48) (k7 : 9 ≤ x7 ∧ x7 ≤ 9) (k9 : 0 ≤ x9 ∧ x9 ≤ 2000) (k13 : 0 ≤ x13 ∧ x13 ≤ 2000) (k15 : 0 ≤ x15 ∧ x15 ≤ 2000) (k26 : 1 ≤ x26 ∧ x26 ≤ 5) (k27 : 0 ≤ x27 ∧ x27 ≤ 0) (f0 : 0 < x26) (g1 : x26 = fault_0) (f2 : 1 * x15 + ((-1) * x13 + 0) ≤ 0) (f3 : (-1) * x15 + (1 * x13 + 0) ≤ 0) (f4 : 1 * x3 + ((-1) * x15 + 0) ≤ (-1)) (f5 : (-1) * x9 + ((-1) * x15 + 0) ≤ (-2000)) (f6 : 1 * x3 + ((-1) * x13 + 0) ≤ (-1)) (f7 : (-1) * x9 + ((-1) * x13 + 0) ≤ (-2000)) (f8 : (-1) * x4 + 0 ≤ 0) (f11 : 1 * from_0 + ((-1) * pos_0 + 0) ≤ 0) (f12 : ((kind_0 = 1) → (pos_0 ≤ (from_0 + 8))) ∧ ((kind_0 = 0) ∨ ((from_0 + 1) ≤ pos_0))) (f13 : 1 * x15 + ((-1) * pos_0 + 0) ≤ 0) (f14 : (-1) * fault_0 + 0 ≤ (-1)) (f16 : 1 * x15 + ((-1) * x13 + 0) ≤ 0) (f17 : (-1) * x15 + (1 * x13 + 0) ≤ 0) (f18 : 1 * x3 + ((-1) * x15 + 0) ≤ (-1)) (f19 : (-1) * x9 + ((-1) * x15 + 0) ≤ (-2000)) (f20 : 1 * x3 + ((-1) * x13 + 0) ≤ (-1)) (f21 : (-1) * x9 + ((-1) * x13 + 0) ≤ (-2000)) (f22 : (-1) * x4 + 0 ≤ 0) (f24 : 1 * x15 + ((-1) * x13 + 0) ≤ 0) (f25 : (-1) * x15 + (1 * x13 + 0) ≤ 0) (f26 : 1 * x3 + ((-1) * x15 + 0) ≤ (-1)) (f27 : (-1) * x9 + ((-1) * x15 + 0) ≤ (-2000)) (f28 : 1 * x3 + ((-1) * x13 + 0) ≤ (-1)) (f29 : (-1) * x9 + ((-1) * x13 + 0) ≤ (-2000)) (f30 : (-1) * x4 + 0 ≤ 0) (f32 : 1 * x15 + ((-1) * x13 + 0) ≤ 0) (f33 : (-1) * x15 + (1 * x13 + 0) ≤ 0) (f34 : 1 * x3 + ((-1) * x15 + 0) ≤ (-1)) (f35 : (-1) * x9 + ((-1) * x15 + 0) ≤ (-2000)) (f36 : 1 * x3 + ((-1) * x13 + 0) ≤ (-1)) (f37 : (-1) * x9 + ((-1) * x13 + 0) ≤ (-2000)) (f38 : (-1) * x4 + 0 ≤ 0) (f40 : 1 * x3 + ((-1) * x13 + 0) ≤ (-1)) (f41 : (-1) * x9 + ((-1) * x13 + 0) ≤ (-2000)) (f42 : (-1) * x4 + 0 ≤ 0) (f44 : (-1) * x4 + 0 ≤ 0) (kz_0_8 : 0 ≤ fault_0 ∧ fault_0 ≤ 5) (kz_0_11 : 0 ≤ pos_0 ∧ pos_0 ≤ 2000) (kz_0_12 : 0 ≤ kind_0 ∧ kind_0 ≤ 4) (kz_0_15 : 0 ≤ from_0 ∧ from_0 ≤ 2000) : 1 * x27 + ((-1) * x2 + 0) ≤ 0 := by
  first | assumption | (clear f12; omega) | omega | grind
set_option maxHeartbeats 4000000 in
theorem vc_Mo_of_at_s5003_21_6 (x2 : Int) (x3 : Int) (x4 : Int) (x7 : Int) (x9 : Int) (x13 : Int) (x15 : Int) (x26 : Int) (x27 : Int) (fault_0 : Int) (from_0 : Int) (pos_0 : Int) (kind_0 : Int) (k2 : 9 ≤ x2 ∧ x2 ≤ 9) (k3 : 0 ≤ x3 ∧ x3 ≤ 2000) (k4 : (-1) ≤ x4 ∧ x4 ≤ 48) (k7 : 9 ≤ x7 ∧ x7 ≤ 9) (k9 : 0 ≤ x9 ∧ x9 ≤ 2000) (k13 : 0 ≤ x13 ∧ x13 ≤ 2000) (k15 : 0 ≤ x15 ∧ x15 ≤ 2000) (k26 : 1 ≤ x26 ∧ x26 ≤ 5) (k27 : 0 ≤ x27 ∧ x27 ≤ 0) (f0 : 0 < x26) (g1 : x26 = fault_0) (f2 : 1 * x15 + ((-1) * x13 + 0) ≤ 0) (f3 : (-1) * x15 + (1 * x13 + 0) ≤ 0) (f4 : 1 * x3 + ((-1) * x15 + 0) ≤ (-1)) (f5 : (-1) * x9 + ((-1) * x15 + 0) ≤ (-2000)) (f6 : 1 * x3 + ((-1) * x13 + 0) ≤ (-1)) (f7 : (-1) * x9 + ((-1) * x13 + 0) ≤ (-2000)) (f8 : (-1) * x4 + 0 ≤ 0) (f11 : 1 * from_0 + ((-1) * pos_0 + 0) ≤ 0) (f12 : ((kind_0 = 1) → (pos_0 ≤ (from_0 + 8))) ∧ ((kind_0 = 0) ∨ ((from_0 + 1) ≤ pos_0))) (f13 : 1 * x15 + ((-1) * pos_0 + 0) ≤ 0) (f14 : (-1) * fault_0 + 0 ≤ (-1)) (f16 : 1 * x15 + ((-1) * x13 + 0) ≤ 0) (f17 : (-1) * x15 + (1 * x13 + 0) ≤ 0) (f18 : 1 * x3 + ((-1) * x15 + 0) ≤ (-1)) (f19 : (-1) * x9 + ((-1) * x15 + 0) ≤ (-2000)) (f20 : 1 * x3 + ((-1) * x13 + 0) ≤ (-1)) (f21 : (-1) * x9 + ((-1) * x13 + 0) ≤ (-2000)) (f22 : (-1) * x4 + 0 ≤ 0) (f24 : 1 * x15 + ((-1) * x13 + 0) ≤ 0) (f25 : (-1) * x15 + (1 * x13 + 0) ≤ 0) (f26 : 1 * x3 + ((-1) * x15 + 0) ≤ (-1)) (f27 : (-1) * x9 + ((-1) * x15 + 0) ≤ (-2000)) (f28 : 1 * x3 + ((-1) * x13 + 0) ≤ (-1)) (f29 : (-1) * x9 + ((-1) * x13 + 0) ≤ (-2000)) (f30 : (-1) * x4 + 0 ≤ 0) (f32 : 1 * x15 + ((-1) * x13 + 0) ≤ 0) (f33 : (-1) * x15 + (1 * x13 + 0) ≤ 0) (f34 : 1 * x3 + ((-1) * x15 + 0) ≤ (-1)) (f35 : (-1) * x9 + ((-1) * x15 + 0) ≤ (-2000)) (f36 : 1 * x3 + ((-1) * x13 + 0) ≤ (-1)) (f37 : (-1) * x9 + ((-1) * x13 + 0) ≤ (-2000)) (f38 : (-1) * x4 + 0 ≤ 0) (f40 : 1 * x3 + ((-1) * x13 + 0) ≤ (-1)) (f41 : (-1) * x9 + ((-1) * x13 + 0) ≤ (-2000)) (f42 : (-1) * x4 + 0 ≤ 0) (f44 : (-1) * x4 + 0 ≤ 0) (kz_0_8 : 0 ≤ fault_0 ∧ fault_0 ≤ 5) (kz_0_11 : 0 ≤ pos_0 ∧ pos_0 ≤ 2000) (kz_0_12 : 0 ≤ kind_0 ∧ kind_0 ≤ 4) (kz_0_15 : 0 ≤ from_0 ∧ from_0 ≤ 2000) : (-1) * x27 + 0 ≤ 0 := by
  first | assumption | (clear f12; omega) | omega | grind
def o_Mo_of_at_s5003_21 : or_T := (129, 28, [(0, (2, 0, 0, [165])), (2, (0, 9, 9, [])), (3, (0, 0, 2000, [])), (4, (0, -1, 48, [])), (7, (0, 9, 9, [])), (9, (0, 0, 2000, [])), (13, (0, 0, 2000, [])), (15, (0, 0, 2000, [])), (26, (0, 1, 5, [])), (27, (0, 0, 0, []))], [(8, [26], [4]), (9, [26, 5], [8]), (23, [15, 13], [0, 1, -1]), (23, [15, 13], [0, -1, 1]), (23, [3, 15], [-1, 1, -1]), (23, [9, 15], [-2000, -1, -1]), (23, [3, 13], [-1, 1, -1]), (23, [9, 13], [-2000, -1, -1]), (23, [4], [0, -1]), (24, [0, 5], []), (20, [5, 5], [30, 0, 1, 1, 15, -1, 1, 11]), (20, [5], [50, 3, 0, 12, 11, 15, 2, 21, 4, 7, 1, 3, 2, 0, 12, 0, 1, 0, 3, 2, 0, 11, 4, 3, 2, 0, 15, 0, 8, 3, 7, 1, 3, 2, 0, 12, 0, 0, 0, 7, 4, 3, 2, 0, 15, 0, 1, 2, 0, 11]), (20, [15, 5], [30, 0, 1, 0, 0, -1, 1, 11]), (20, [5], [30, -1, -1, 1, 8]), (102, [25], [0, 165008, 165009]), (23, [15, 13], [0, 1, -1]), (23, [15, 13], [0, -1, 1]), (23, [3, 15], [-1, 1, -1]), (23, [9, 15], [-2000, -1, -1]), (23, [3, 13], [-1, 1, -1]), (23, [9, 13], [-2000, -1, -1]), (23, [4], [0, -1]), (102, [20], [0, 165008, 165009]), (23, [15, 13], [0, 1, -1]), (23, [15, 13], [0, -1, 1]), (23, [3, 15], [-1, 1, -1]), (23, [9, 15], [-2000, -1, -1]), (23, [3, 13], [-1, 1, -1]), (23, [9, 13], [-2000, -1, -1]), (23, [4], [0, -1]), (102, [15], [0, 165008, 165009, 165011, 165012, 165013, 165014, 165015]), (23, [15, 13], [0, 1, -1]), (23, [15, 13], [0, -1, 1]), (23, [3, 15], [-1, 1, -1]), (23, [9, 15], [-2000, -1, -1]), (23, [3, 13], [-1, 1, -1]), (23, [9, 13], [-2000, -1, -1]), (23, [4], [0, -1]), (102, [13], [0, 165011, 165012, 165013, 165014, 165015]), (23, [3, 13], [-1, 1, -1]), (23, [9, 13], [-2000, -1, -1]), (23, [4], [0, -1]), (102, [11], [0]), (23, [4], [0, -1])], [], [], [(20, [0, 0], [30, 0, 1, 1, 15, -1, 1, 11]), (20, [0], [50, 3, 0, 12, 11, 15, 2, 21, 4, 7, 1, 3, 2, 0, 12, 0, 1, 0, 3, 2, 0, 11, 4, 3, 2, 0, 15, 0, 8, 3, 7, 1, 3, 2, 0, 12, 0, 0, 0, 7, 4, 3, 2, 0, 15, 0, 1, 2, 0, 11]), (20, [3, 0], [30, 0, 1, 0, 0, -1, 1, 11]), (20, [0, 3], [50, 3, 0, 8, 12, 11, 3, 7, 0, 2, 0, 1, 2, 0, 8, 3, 7, 1, 3, 2, 0, 12, 0, 0, 0, 6, 4, 2, 1, 1, 0, 1, 2, 0, 11]), (20, [0, 4], [50, 1, 0, 8, 3, 7, 0, 2, 0, 1, 2, 0, 8, 0, 2, 0, 0, 1, 1]), (20, [27, 2], [30, 0, 1, 0, 0, -1, 0, 0]), (20, [27], [30, 0, -1, 0, 0])], [], [])
theorem oo_Mo_of_at_s5003_21 {kA : Nat → ClassId} : or_ok PRD kA GG o_Mo_of_at_s5003_21 := by
  refine or_mk fun A ta ws vs hD hth hl => ?_
  intro t0 r0 t2 k2 t3 k3 t4 k4 t7 k7 t9 k9 t13 k13 t15 k15 t26 k26 t27 k27 f0 f1 f2 f3 f4 f5 f6 f7 f8 f9 f11 f12 f13 f14 ta1 w1 le1 s1 f16 f17 f18 f19 f20 f21 f22 ta2 w2 le2 s2 f24 f25 f26 f27 f28 f29 f30 ta3 w3 le3 s3 f32 f33 f34 f35 f36 f37 f38 ta4 w4 le4 s4 f40 f41 f42 ta5 w5 le5 s5 f44
  replace f1 := shm_143 f1
  replace f9 := shm_5 f9
  replace f11 := shm_1397 f11
  replace f12 := shm_1398 f12
  replace f13 := shm_1395 f13
  replace f14 := shm_144 f14
  have q5 : n_v vs 5 = n_v vs 0 := f9.symm
  simp only [q5] at f1 f11 f12 f13 f14
  have g1 : v_iv (n_v vs 26) = w_fi ws (n_v vs 0) 8 := congrArg v_iv f1
  have kz_0_8 := fdq_14 hD hth r0
  have kz_0_11 := fdq_273 hD hth r0
  have kz_0_12 := fdq_186 hD hth r0
  have kz_0_15 := fdq_274 hD hth r0
  have nf0 : fc_1 PRD (20, [0, 0], [30, 0, 1, 1, 15, -1, 1, 11]) ws (vs) := ⟨nf_in hl rfl, sgq_1397 (vc_Mo_of_at_s5003_21_0 (v_iv (n_v vs 2)) (v_iv (n_v vs 3)) (v_iv (n_v vs 4)) (v_iv (n_v vs 7)) (v_iv (n_v vs 9)) (v_iv (n_v vs 13)) (v_iv (n_v vs 15)) (v_iv (n_v vs 26)) (v_iv (n_v vs 27)) (w_fi ws (n_v vs 0) 8) (w_fi ws (n_v vs 0) 15) (w_fi ws (n_v vs 0) 11) (w_fi ws (n_v vs 0) 12) k2 k3 k4 k7 k9 k13 k15 k26 k27 (shm_145 f0) g1 (shm_7 f2) (shm_22 f3) (shm_211 f4) (shm_1894 f5) (shm_211 f6) (shm_1894 f7) (shm_1013 f8) f11 f12 f13 f14 (shm_7 f16) (shm_22 f17) (shm_211 f18) (shm_1894 f19) (shm_211 f20) (shm_1894 f21) (shm_1013 f22) (shm_7 f24) (shm_22 f25) (shm_211 f26) (shm_1894 f27) (shm_211 f28) (shm_1894 f29) (shm_1013 f30) (shm_7 f32) (shm_22 f33) (shm_211 f34) (shm_1894 f35) (shm_211 f36) (shm_1894 f37) (shm_1013 f38) (shm_211 f40) (shm_1894 f41) (shm_1013 f42) (shm_1013 f44) kz_0_8 kz_0_11 kz_0_12 kz_0_15)⟩
  have nf1 : fc_1 PRD (20, [0], [50, 3, 0, 12, 11, 15, 2, 21, 4, 7, 1, 3, 2, 0, 12, 0, 1, 0, 3, 2, 0, 11, 4, 3, 2, 0, 15, 0, 8, 3, 7, 1, 3, 2, 0, 12, 0, 0, 0, 7, 4, 3, 2, 0, 15, 0, 1, 2, 0, 11]) ws (vs) := ⟨nf_in hl rfl, sgq_1398 (vc_Mo_of_at_s5003_21_1 (v_iv (n_v vs 2)) (v_iv (n_v vs 3)) (v_iv (n_v vs 4)) (v_iv (n_v vs 7)) (v_iv (n_v vs 9)) (v_iv (n_v vs 13)) (v_iv (n_v vs 15)) (v_iv (n_v vs 26)) (v_iv (n_v vs 27)) (w_fi ws (n_v vs 0) 8) (w_fi ws (n_v vs 0) 15) (w_fi ws (n_v vs 0) 11) (w_fi ws (n_v vs 0) 12) k2 k3 k4 k7 k9 k13 k15 k26 k27 (shm_145 f0) g1 (shm_7 f2) (shm_22 f3) (shm_211 f4) (shm_1894 f5) (shm_211 f6) (shm_1894 f7) (shm_1013 f8) f11 f12 f13 f14 (shm_7 f16) (shm_22 f17) (shm_211 f18) (shm_1894 f19) (shm_211 f20) (shm_1894 f21) (shm_1013 f22) (shm_7 f24) (shm_22 f25) (shm_211 f26) (shm_1894 f27) (shm_211 f28) (shm_1894 f29) (shm_1013 f30) (shm_7 f32) (shm_22 f33) (shm_211 f34) (shm_1894 f35) (shm_211 f36) (shm_1894 f37) (shm_1013 f38) (shm_211 f40) (shm_1894 f41) (shm_1013 f42) (shm_1013 f44) kz_0_8 kz_0_11 kz_0_12 kz_0_15)⟩
  have nf2 : fc_1 PRD (20, [3, 0], [30, 0, 1, 0, 0, -1, 1, 11]) ws (vs) := ⟨nf_in hl rfl, sgq_1395 (vc_Mo_of_at_s5003_21_2 (v_iv (n_v vs 2)) (v_iv (n_v vs 3)) (v_iv (n_v vs 4)) (v_iv (n_v vs 7)) (v_iv (n_v vs 9)) (v_iv (n_v vs 13)) (v_iv (n_v vs 15)) (v_iv (n_v vs 26)) (v_iv (n_v vs 27)) (w_fi ws (n_v vs 0) 8) (w_fi ws (n_v vs 0) 15) (w_fi ws (n_v vs 0) 11) (w_fi ws (n_v vs 0) 12) k2 k3 k4 k7 k9 k13 k15 k26 k27 (shm_145 f0) g1 (shm_7 f2) (shm_22 f3) (shm_211 f4) (shm_1894 f5) (shm_211 f6) (shm_1894 f7) (shm_1013 f8) f11 f12 f13 f14 (shm_7 f16) (shm_22 f17) (shm_211 f18) (shm_1894 f19) (shm_211 f20) (shm_1894 f21) (shm_1013 f22) (shm_7 f24) (shm_22 f25) (shm_211 f26) (shm_1894 f27) (shm_211 f28) (shm_1894 f29) (shm_1013 f30) (shm_7 f32) (shm_22 f33) (shm_211 f34) (shm_1894 f35) (shm_211 f36) (shm_1894 f37) (shm_1013 f38) (shm_211 f40) (shm_1894 f41) (shm_1013 f42) (shm_1013 f44) kz_0_8 kz_0_11 kz_0_12 kz_0_15)⟩
  have nf3 : fc_1 PRD (20, [0, 3], [50, 3, 0, 8, 12, 11, 3, 7, 0, 2, 0, 1, 2, 0, 8, 3, 7, 1, 3, 2, 0, 12, 0, 0, 0, 6, 4, 2, 1, 1, 0, 1, 2, 0, 11]) ws (vs) := ⟨nf_in hl rfl, sgq_1660 (vc_Mo_of_at_s5003_21_3 (v_iv (n_v vs 2)) (v_iv (n_v vs 3)) (v_iv (n_v vs 4)) (v_iv (n_v vs 7)) (v_iv (n_v vs 9)) (v_iv (n_v vs 13)) (v_iv (n_v vs 15)) (v_iv (n_v vs 26)) (v_iv (n_v vs 27)) (w_fi ws (n_v vs 0) 8) (w_fi ws (n_v vs 0) 15) (w_fi ws (n_v vs 0) 11) (w_fi ws (n_v vs 0) 12) k2 k3 k4 k7 k9 k13 k15 k26 k27 (shm_145 f0) g1 (shm_7 f2) (shm_22 f3) (shm_211 f4) (shm_1894 f5) (shm_211 f6) (shm_1894 f7) (shm_1013 f8) f11 f12 f13 f14 (shm_7 f16) (shm_22 f17) (shm_211 f18) (shm_1894 f19) (shm_211 f20) (shm_1894 f21) (shm_1013 f22) (shm_7 f24) (shm_22 f25) (shm_211 f26) (shm_1894 f27) (shm_211 f28) (shm_1894 f29) (shm_1013 f30) (shm_7 f32) (shm_22 f33) (shm_211 f34) (shm_1894 f35) (shm_211 f36) (shm_1894 f37) (shm_1013 f38) (shm_211 f40) (shm_1894 f41) (shm_1013 f42) (shm_1013 f44) kz_0_8 kz_0_11 kz_0_12 kz_0_15)⟩
  have nf4 : fc_1 PRD (20, [0, 4], [50, 1, 0, 8, 3, 7, 0, 2, 0, 1, 2, 0, 8, 0, 2, 0, 0, 1, 1]) ws (vs) := ⟨nf_in hl rfl, sgq_1889 (vc_Mo_of_at_s5003_21_4 (v_iv (n_v vs 2)) (v_iv (n_v vs 3)) (v_iv (n_v vs 4)) (v_iv (n_v vs 7)) (v_iv (n_v vs 9)) (v_iv (n_v vs 13)) (v_iv (n_v vs 15)) (v_iv (n_v vs 26)) (v_iv (n_v vs 27)) (w_fi ws (n_v vs 0) 8) (w_fi ws (n_v vs 0) 15) (w_fi ws (n_v vs 0) 11) (w_fi ws (n_v vs 0) 12) k2 k3 k4 k7 k9 k13 k15 k26 k27 (shm_145 f0) g1 (shm_7 f2) (shm_22 f3) (shm_211 f4) (shm_1894 f5) (shm_211 f6) (shm_1894 f7) (shm_1013 f8) f11 f12 f13 f14 (shm_7 f16) (shm_22 f17) (shm_211 f18) (shm_1894 f19) (shm_211 f20) (shm_1894 f21) (shm_1013 f22) (shm_7 f24) (shm_22 f25) (shm_211 f26) (shm_1894 f27) (shm_211 f28) (shm_1894 f29) (shm_1013 f30) (shm_7 f32) (shm_22 f33) (shm_211 f34) (shm_1894 f35) (shm_211 f36) (shm_1894 f37) (shm_1013 f38) (shm_211 f40) (shm_1894 f41) (shm_1013 f42) (shm_1013 f44) kz_0_8 kz_0_11 kz_0_12 kz_0_15)⟩
  have nf5 : fc_1 PRD (20, [27, 2], [30, 0, 1, 0, 0, -1, 0, 0]) ws (vs) := ⟨nf_in hl rfl, sgq_219 (vc_Mo_of_at_s5003_21_5 (v_iv (n_v vs 2)) (v_iv (n_v vs 3)) (v_iv (n_v vs 4)) (v_iv (n_v vs 7)) (v_iv (n_v vs 9)) (v_iv (n_v vs 13)) (v_iv (n_v vs 15)) (v_iv (n_v vs 26)) (v_iv (n_v vs 27)) (w_fi ws (n_v vs 0) 8) (w_fi ws (n_v vs 0) 15) (w_fi ws (n_v vs 0) 11) (w_fi ws (n_v vs 0) 12) k2 k3 k4 k7 k9 k13 k15 k26 k27 (shm_145 f0) g1 (shm_7 f2) (shm_22 f3) (shm_211 f4) (shm_1894 f5) (shm_211 f6) (shm_1894 f7) (shm_1013 f8) f11 f12 f13 f14 (shm_7 f16) (shm_22 f17) (shm_211 f18) (shm_1894 f19) (shm_211 f20) (shm_1894 f21) (shm_1013 f22) (shm_7 f24) (shm_22 f25) (shm_211 f26) (shm_1894 f27) (shm_211 f28) (shm_1894 f29) (shm_1013 f30) (shm_7 f32) (shm_22 f33) (shm_211 f34) (shm_1894 f35) (shm_211 f36) (shm_1894 f37) (shm_1013 f38) (shm_211 f40) (shm_1894 f41) (shm_1013 f42) (shm_1013 f44) kz_0_8 kz_0_11 kz_0_12 kz_0_15)⟩
  have nf6 : fc_1 PRD (20, [27], [30, 0, -1, 0, 0]) ws (vs) := ⟨nf_in hl rfl, sgq_1890 (vc_Mo_of_at_s5003_21_6 (v_iv (n_v vs 2)) (v_iv (n_v vs 3)) (v_iv (n_v vs 4)) (v_iv (n_v vs 7)) (v_iv (n_v vs 9)) (v_iv (n_v vs 13)) (v_iv (n_v vs 15)) (v_iv (n_v vs 26)) (v_iv (n_v vs 27)) (w_fi ws (n_v vs 0) 8) (w_fi ws (n_v vs 0) 15) (w_fi ws (n_v vs 0) 11) (w_fi ws (n_v vs 0) 12) k2 k3 k4 k7 k9 k13 k15 k26 k27 (shm_145 f0) g1 (shm_7 f2) (shm_22 f3) (shm_211 f4) (shm_1894 f5) (shm_211 f6) (shm_1894 f7) (shm_1013 f8) f11 f12 f13 f14 (shm_7 f16) (shm_22 f17) (shm_211 f18) (shm_1894 f19) (shm_211 f20) (shm_1894 f21) (shm_1013 f22) (shm_7 f24) (shm_22 f25) (shm_211 f26) (shm_1894 f27) (shm_211 f28) (shm_1894 f29) (shm_1013 f30) (shm_7 f32) (shm_22 f33) (shm_211 f34) (shm_1894 f35) (shm_211 f36) (shm_1894 f37) (shm_1013 f38) (shm_211 f40) (shm_1894 f41) (shm_1013 f42) (shm_1013 f44) kz_0_8 kz_0_11 kz_0_12 kz_0_15)⟩
  refine ⟨(fun _ h => (by cases h)), [], trivial, ?_, (fun _ h => (by cases h))⟩
  rw [List.append_nil]
  exact List.forall_mem_cons.mpr ⟨⟨show (20 : Nat) < 100 from by decide, nf0⟩, List.forall_mem_cons.mpr ⟨⟨show (20 : Nat) < 100 from by decide, nf1⟩, List.forall_mem_cons.mpr ⟨⟨show (20 : Nat) < 100 from by decide, nf2⟩, List.forall_mem_cons.mpr ⟨⟨show (20 : Nat) < 100 from by decide, nf3⟩, List.forall_mem_cons.mpr ⟨⟨show (20 : Nat) < 100 from by decide, nf4⟩, List.forall_mem_cons.mpr ⟨⟨show (20 : Nat) < 100 from by decide, nf5⟩, List.forall_mem_cons.mpr ⟨⟨show (20 : Nat) < 100 from by decide, nf6⟩, (fun _ h => (by cases h))⟩⟩⟩⟩⟩⟩⟩

set_option maxHeartbeats 4000000 in
theorem vc_Mo_of_at_s5003_22_0 (x2 : Int) (x3 : Int) (x7 : Int) (x8 : Int) (x9 : Int) (x13 : Int) (x15 : Int) (x22 : Int) (x26 : Int) (value_0 : Int) (fault_0 : Int) (from_0 : Int) (pos_0 : Int) (kind_0 : Int) (k2 : 9 ≤ x2 ∧ x2 ≤ 9) (k3 : 0 ≤ x3 ∧ x3 ≤ 2000) (k7 : 9 ≤ x7 ∧ x7 ≤ 9) (k8 : (-2147483648) ≤ x8 ∧ x8 ≤ 0) (k9 : 0 ≤ x9 ∧ x9 ≤ 2000) (k13 : 0 ≤ x13 ∧ x13 ≤ 2000) (k15 : 0 ≤ x15 ∧ x15 ≤ 2000) (k22 : 10 ≤ x22 ∧ x22 ≤ 2147483647) (k26 : 0 ≤ x26 ∧ x26 ≤ 0) (g0 : x22 = value_0) (f1 : x26 ≤ 0) (g2 : x26 = fault_0) (f3 : 1 * x15 + ((-1) * x13 + 0) ≤ 0) (f4 : (-1) * x15 + (1 * x13 + 0) ≤ 0) (f5 : 1 * x3 + ((-1) * x15 + 0) ≤ (-1)) (f6 : (-1) * x9 + ((-1) * x15 + 0) ≤ (-2000)) (f7 : 1 * x3 + ((-1) * x13 + 0) ≤ (-1)) (f8 : (-1) * x9 + ((-1) * x13 + 0) ≤ (-2000)) (f9 : 1 * x8 + ((-1) * x2 + 0) ≤ 0) (f10 : (-1) * x8 + 0 ≤ 0) (f13 : 1 * from_0 + ((-1) * pos_0 + 0) ≤ 0) (f14 : ((kind_0 = 1) → (pos_0 ≤ (from_0 + 8))) ∧ ((kind_0 = 0) ∨ ((from_0 + 1) ≤ pos_0))) (f15 : 1 * x15 + ((-1) * pos_0 + 0) ≤ 0) (f16 : (-1) * fault_0 + 0 ≤ (-1)) (f18 : 1 * x15 + ((-1) * x13 + 0) ≤ 0) (f19 : (-1) * x15 + (1 * x13 + 0) ≤ 0) (f20 : 1 * x3 + ((-1) * x15 + 0) ≤ (-1)) (f21 : (-1) * x9 + ((-1) * x15 + 0) ≤ (-2000)) (f22 : 1 * x3 + ((-1) * x13 + 0) ≤ (-1)) (f23 : (-1) * x9 + ((-1) * x13 + 0) ≤ (-2000)) (f24 : 1 * x8 + ((-1) * x2 + 0) ≤ 0) (f25 : (-1) * x8 + 0 ≤ 0) (f27 : 1 * x15 + ((-1) * x13 + 0) ≤ 0) (f28 : (-1) * x15 + (1 * x13 + 0) ≤ 0) (f29 : 1 * x3 + ((-1) * x15 + 0) ≤ (-1)) (f30 : (-1) * x9 + ((-1) * x15 + 0) ≤ (-2000)) (f31 : 1 * x3 + ((-1) * x13 + 0) ≤ (-1)) (f32 : (-1) * x9 + ((-1) * x13 + 0) ≤ (-2000)) (f33 : 1 * x8 + ((-1) * x2 + 0) ≤ 0) (f34 : (-1) * x8 + 0 ≤ 0) (f36 : 1 * x15 + ((-1) * x13 + 0) ≤ 0) (f37 : (-1) * x15 + (1 * x13 + 0) ≤ 0) (f38 : 1 * x3 + ((-1) * x15 + 0) ≤ (-1)) (f39 : (-1) * x9 + ((-1) * x15 + 0) ≤ (-2000)) (f40 : 1 * x3 + ((-1) * x13 + 0) ≤ (-1)) (f41 : (-1) * x9 + ((-1) * x13 + 0) ≤ (-2000)) (f42 : 1 * x8 + ((-1) * x2 + 0) ≤ 0) (f43 : (-1) * x8 + 0 ≤ 0) (f45 : 1 * x3 + ((-1) * x13 + 0) ≤ (-1)) (f46 : (-1) * x9 + ((-1) * x13 + 0) ≤ (-2000)) (f47 : x8 ≤ 0) (f48 : 1 * x8 + ((-1) * x2 + 0) ≤ 0) (f49 : (-1) * x8 + 0 ≤ 0) (f51 : 1 * x8 + ((-1) * x2 + 0) ≤ 0) (f52 : (-1) * x8 + 0 ≤ 0) (kz_0_8 : 0 ≤ fault_0 ∧ fault_0 ≤ 5) (kz_0_11 : 0 ≤ pos_0 ∧ pos_0 ≤ 2000) (kz_0_12 : 0 ≤ kind_0 ∧ kind_0 ≤ 4) (kz_0_14 : (-2147483648) ≤ value_0 ∧ value_0 ≤ 2147483647) (kz_0_15 : 0 ≤ from_0 ∧ from_0 ≤ 2000) : 1 * x22 + ((-1) * x2 + 0) ≤ 0 := by
  first | assumption | (clear f14; omega) | omega | grind
set_option maxHeartbeats 4000000 in
theorem vc_Mo_of_at_s5003_22_1 (x2 : Int) (x3 : Int) (x7 : Int) (x8 : Int) (x9 : Int) (x13 : Int) (x15 : Int) (x22 : Int) (x26 : Int) (value_0 : Int) (fault_0 : Int) (from_0 : Int) (pos_0 : Int) (kind_0 : Int) (k2 : 9 ≤ x2 ∧ x2 ≤ 9) (k3 : 0 ≤ x3 ∧ x3 ≤ 2000) (k7 : 9 ≤ x7 ∧ x7 ≤ 9) (k8 : (-2147483648) ≤ x8 ∧ x8 ≤ 0) (k9 : 0 ≤ x9 ∧ x9 ≤ 2000) (k13 : 0 ≤ x13 ∧ x13 ≤ 2000) (k15 : 0 ≤ x15 ∧ x15 ≤ 2000) (k22 : 10 ≤ x22 ∧ x22 ≤ 2147483647) (k26 : 0 ≤ x26 ∧ x26 ≤ 0) (g0 : x22 = value_0) (f1 : x26 ≤ 0) (g2 : x26 = fault_0) (f3 : 1 * x15 + ((-1) * x13 + 0) ≤ 0) (f4 : (-1) * x15 + (1 * x13 + 0) ≤ 0) (f5 : 1 * x3 + ((-1) * x15 + 0) ≤ (-1)) (f6 : (-1) * x9 + ((-1) * x15 + 0) ≤ (-2000)) (f7 : 1 * x3 + ((-1) * x13 + 0) ≤ (-1)) (f8 : (-1) * x9 + ((-1) * x13 + 0) ≤ (-2000)) (f9 : 1 * x8 + ((-1) * x2 + 0) ≤ 0) (f10 : (-1) * x8 + 0 ≤ 0) (f13 : 1 * from_0 + ((-1) * pos_0 + 0) ≤ 0) (f14 : ((kind_0 = 1) → (pos_0 ≤ (from_0 + 8))) ∧ ((kind_0 = 0) ∨ ((from_0 + 1) ≤ pos_0))) (f15 : 1 * x15 + ((-1) * pos_0 + 0) ≤ 0) (f16 : (-1) * fault_0 + 0 ≤ (-1)) (f18 : 1 * x15 + ((-1) * x13 + 0) ≤ 0) (f19 : (-1) * x15 + (1 * x13 + 0) ≤ 0) (f20 : 1 * x3 + ((-1) * x15 + 0) ≤ (-1)) (f21 : (-1) * x9 + ((-1) * x15 + 0) ≤ (-2000)) (f22 : 1 * x3 + ((-1) * x13 + 0) ≤ (-1)) (f23 : (-1) * x9 + ((-1) * x13 + 0) ≤ (-2000)) (f24 : 1 * x8 + ((-1) * x2 + 0) ≤ 0) (f25 : (-1) * x8 + 0 ≤ 0) (f27 : 1 * x15 + ((-1) * x13 + 0) ≤ 0) (f28 : (-1) * x15 + (1 * x13 + 0) ≤ 0) (f29 : 1 * x3 + ((-1) * x15 + 0) ≤ (-1)) (f30 : (-1) * x9 + ((-1) * x15 + 0) ≤ (-2000)) (f31 : 1 * x3 + ((-1) * x13 + 0) ≤ (-1)) (f32 : (-1) * x9 + ((-1) * x13 + 0) ≤ (-2000)) (f33 : 1 * x8 + ((-1) * x2 + 0) ≤ 0) (f34 : (-1) * x8 + 0 ≤ 0) (f36 : 1 * x15 + ((-1) * x13 + 0) ≤ 0) (f37 : (-1) * x15 + (1 * x13 + 0) ≤ 0) (f38 : 1 * x3 + ((-1) * x15 + 0) ≤ (-1)) (f39 : (-1) * x9 + ((-1) * x15 + 0) ≤ (-2000)) (f40 : 1 * x3 + ((-1) * x13 + 0) ≤ (-1)) (f41 : (-1) * x9 + ((-1) * x13 + 0) ≤ (-2000)) (f42 : 1 * x8 + ((-1) * x2 + 0) ≤ 0) (f43 : (-1) * x8 + 0 ≤ 0) (f45 : 1 * x3 + ((-1) * x13 + 0) ≤ (-1)) (f46 : (-1) * x9 + ((-1) * x13 + 0) ≤ (-2000)) (f47 : x8 ≤ 0) (f48 : 1 * x8 + ((-1) * x2 + 0) ≤ 0) (f49 : (-1) * x8 + 0 ≤ 0) (f51 : 1 * x8 + ((-1) * x2 + 0) ≤ 0) (f52 : (-1) * x8 + 0 ≤ 0) (kz_0_8 : 0 ≤ fault_0 ∧ fault_0 ≤ 5) (kz_0_11 : 0 ≤ pos_0 ∧ pos_0 ≤ 2000) (kz_0_12 : 0 ≤ kind_0 ∧ kind_0 ≤ 4) (kz_0_14 : (-2147483648) ≤ value_0 ∧ value_0 ≤ 2147483647) (kz_0_15 : 0 ≤ from_0 ∧ from_0 ≤ 2000) : (-1) * x22 + 0 ≤ 0 := by
  first | assumption | (clear f14; omega) | omega | grind
def o_Mo_of_at_s5003_22 : or_T := (135, 27, [(0, (2, 0, 0, [165])), (2, (0, 9, 9, [])), (3, (0, 0, 2000, [])), (5, (2, 0, 0, [165])), (7, (0, 9, 9, [])), (8, (0, -2147483648, 0, [])), (9, (0, 0, 2000, [])), (13, (0, 0, 2000, [])), (15, (0, 0, 2000, [])), (22, (0, 10, 2147483647, [])), (26, (0, 0, 0, []))], [(9, [22, 5], [14]), (8, [26], [5]), (9, [26, 5], [8]), (23, [15, 13], [0, 1, -1]), (23, [15, 13], [0, -1, 1]), (23, [3, 15], [-1, 1, -1]), (23, [9, 15], [-2000, -1, -1]), (23, [3, 13], [-1, 1, -1]), (23, [9, 13], [-2000, -1, -1]), (23, [8, 7], [0, 1, -1]), (23, [8], [0, -1]), (24, [0, 5], []), (24, [2, 7], []), (20, [5, 5], [30, 0, 1, 1, 15, -1, 1, 11]), (20, [5], [50, 3, 0, 12, 11, 15, 2, 21, 4, 7, 1, 3, 2, 0, 12, 0, 1, 0, 3, 2, 0, 11, 4, 3, 2, 0, 15, 0, 8, 3, 7, 1, 3, 2, 0, 12, 0, 0, 0, 7, 4, 3, 2, 0, 15, 0, 1, 2, 0, 11]), (20, [15, 5], [30, 0, 1, 0, 0, -1, 1, 11]), (20, [5], [30, -1, -1, 1, 8]), (102, [25], [0, 165008, 165009]), (23, [15, 13], [0, 1, -1]), (23, [15, 13], [0, -1, 1]), (23, [3, 15], [-1, 1, -1]), (23, [9, 15], [-2000, -1, -1]), (23, [3, 13], [-1, 1, -1]), (23, [9, 13], [-2000, -1, -1]), (23, [8, 7], [0, 1, -1]), (23, [8], [0, -1]), (102, [20], [0, 165008, 165009]), (23, [15, 13], [0, 1, -1]), (23, [15, 13], [0, -1, 1]), (23, [3, 15], [-1, 1, -1]), (23, [9, 15], [-2000, -1, -1]), (23, [3, 13], [-1, 1, -1]), (23, [9, 13], [-2000, -1, -1]), (23, [8, 7], [0, 1, -1]), (23, [8], [0, -1]), (102, [15], [0, 165008, 165009, 165011, 165012, 165013, 165014, 165015]), (23, [15, 13], [0, 1, -1]), (23, [15, 13], [0, -1, 1]), (23, [3, 15], [-1, 1, -1]), (23, [9, 15], [-2000, -1, -1]), (23, [3, 13], [-1, 1, -1]), (23, [9, 13], [-2000, -1, -1]), (23, [8, 7], [0, 1, -1]), (23, [8], [0, -1]), (102, [13], [0, 165011, 165012, 165013, 165014, 165015]), (23, [3, 13], [-1, 1, -1]), (23, [9, 13], [-2000, -1, -1]), (8, [8], [5]), (23, [8, 7], [0, 1, -1]), (23, [8], [0, -1]), (102, [11], [0]), (23, [8, 7], [0, 1, -1]), (23, [8], [0, -1])], [], [], [(23, [22, 7], [0, 1, -1]), (23, [22], [0, -1])], [], [])
theorem oo_Mo_of_at_s5003_22 {kA : Nat → ClassId} : or_ok PRD kA GG o_Mo_of_at_s5003_22 := by
  refine or_mk fun A ta ws vs hD hth hl => ?_
  intro t0 r0 t2 k2 t3 k3 t5 r5 t7 k7 t8 k8 t9 k9 t13 k13 t15 k15 t22 k22 t26 k26 f0 f1 f2 f3 f4 f5 f6 f7 f8 f9 f10 f11 f12 f13 f14 f15 f16 ta1 w1 le1 s1 f18 f19 f20 f21 f22 f23 f24 f25 ta2 w2 le2 s2 f27 f28 f29 f30 f31 f32 f33 f34 ta3 w3 le3 s3 f36 f37 f38 f39 f40 f41 f42 f43 ta4 w4 le4 s4 f45 f46 f47 f48 f49 ta5 w5 le5 s5 f51 f52
  replace f0 := shm_116 f0
  replace f1 := shm_142 f1
  replace f2 := shm_143 f2
  replace f3 := shm_7 f3
  replace f4 := shm_22 f4
  replace f5 := shm_211 f5
  replace f6 := shm_1894 f6
  replace f7 := shm_211 f7
  replace f8 := shm_1894 f8
  replace f9 := shm_7 f9
  replace f10 := shm_1013 f10
  replace f11 := shm_5 f11
  replace f12 := shm_5 f12
  replace f13 := shm_1397 f13
  replace f14 := shm_1398 f14
  replace f15 := shm_1395 f15
  replace f16 := shm_144 f16
  replace f18 := shm_7 f18
  replace f19 := shm_22 f19
  replace f20 := shm_211 f20
  replace f21 := shm_1894 f21
  replace f22 := shm_211 f22
  replace f23 := shm_1894 f23
  replace f24 := shm_7 f24
  replace f25 := shm_1013 f25
  replace f27 := shm_7 f27
  replace f28 := shm_22 f28
  replace f29 := shm_211 f29
  replace f30 := shm_1894 f30
  replace f31 := shm_211 f31
  replace f32 := shm_1894 f32
  replace f33 := shm_7 f33
  replace f34 := shm_1013 f34
  replace f36 := shm_7 f36
  replace f37 := shm_22 f37
  replace f38 := shm_211 f38
  replace f39 := shm_1894 f39
  replace f40 := shm_211 f40
  replace f41 := shm_1894 f41
  replace f42 := shm_7 f42
  replace f43 := shm_1013 f43
  replace f45 := shm_211 f45
  replace f46 := shm_1894 f46
  replace f47 := shm_142 f47
  replace f48 := shm_7 f48
  replace f49 := shm_1013 f49
  replace f51 := shm_7 f51
  replace f52 := shm_1013 f52
  have q5 : n_v vs 5 = n_v vs 0 := f11.symm
  have q7 : n_v vs 7 = n_v vs 2 := f12.symm
  simp only [q5, q7] at f0 f2 f9 f13 f14 f15 f16 f24 f33 f42 f48 f51
  have g0 : v_iv (n_v vs 22) = w_fi ws (n_v vs 0) 14 := congrArg v_iv f0
  have g2 : v_iv (n_v vs 26) = w_fi ws (n_v vs 0) 8 := congrArg v_iv f2
  have kz_0_8 := fdq_14 hD hth r0
  have kz_0_11 := fdq_273 hD hth r0
  have kz_0_12 := fdq_186 hD hth r0
  have kz_0_14 := fdq_311 hD hth r0
  have kz_0_15 := fdq_274 hD hth r0
  have nf0 : fc_1 PRD (23, [22, 7], [0, 1, -1]) ws (vs) := by
    refine ⟨nf_in hl rfl, sgq_7 ?_⟩
    · show 1 * v_iv (n_v vs 22) + ((-1) * v_iv (n_v vs 7) + 0) ≤ 0
      rw [q7]
      exact vc_Mo_of_at_s5003_22_0 (v_iv (n_v vs 2)) (v_iv (n_v vs 3)) (v_iv (n_v vs 7)) (v_iv (n_v vs 8)) (v_iv (n_v vs 9)) (v_iv (n_v vs 13)) (v_iv (n_v vs 15)) (v_iv (n_v vs 22)) (v_iv (n_v vs 26)) (w_fi ws (n_v vs 0) 14) (w_fi ws (n_v vs 0) 8) (w_fi ws (n_v vs 0) 15) (w_fi ws (n_v vs 0) 11) (w_fi ws (n_v vs 0) 12) k2 k3 k7 k8 k9 k13 k15 k22 k26 g0 f1 g2 f3 f4 f5 f6 f7 f8 f9 f10 f13 f14 f15 f16 f18 f19 f20 f21 f22 f23 f24 f25 f27 f28 f29 f30 f31 f32 f33 f34 f36 f37 f38 f39 f40 f41 f42 f43 f45 f46 f47 f48 f49 f51 f52 kz_0_8 kz_0_11 kz_0_12 kz_0_14 kz_0_15
  have nf1 : fc_1 PRD (23, [22], [0, -1]) ws (vs) := ⟨nf_in hl rfl, sgq_1013 (vc_Mo_of_at_s5003_22_1 (v_iv (n_v vs 2)) (v_iv (n_v vs 3)) (v_iv (n_v vs 7)) (v_iv (n_v vs 8)) (v_iv (n_v vs 9)) (v_iv (n_v vs 13)) (v_iv (n_v vs 15)) (v_iv (n_v vs 22)) (v_iv (n_v vs 26)) (w_fi ws (n_v vs 0) 14) (w_fi ws (n_v vs 0) 8) (w_fi ws (n_v vs 0) 15) (w_fi ws (n_v vs 0) 11) (w_fi ws (n_v vs 0) 12) k2 k3 k7 k8 k9 k13 k15 k22 k26 g0 f1 g2 f3 f4 f5 f6 f7 f8 f9 f10 f13 f14 f15 f16 f18 f19 f20 f21 f22 f23 f24 f25 f27 f28 f29 f30 f31 f32 f33 f34 f36 f37 f38 f39 f40 f41 f42 f43 f45 f46 f47 f48 f49 f51 f52 kz_0_8 kz_0_11 kz_0_12 kz_0_14 kz_0_15)⟩
  refine ⟨(fun _ h => (by cases h)), [], trivial, ?_, (fun _ h => (by cases h))⟩
  rw [List.append_nil]
  exact List.forall_mem_cons.mpr ⟨⟨show (23 : Nat) < 100 from by decide, nf0⟩, List.forall_mem_cons.mpr ⟨⟨show (23 : Nat) < 100 from by decide, nf1⟩, (fun _ h => (by cases h))⟩⟩
set_option maxHeartbeats 4000000 in
theorem vc_Mo_of_at_s5003_23_0 (x2 : Int) (x3 : Int) (x4 : Int) (x7 : Int) (x8 : Int) (x9 : Int) (x13 : Int) (x15 : Int) (x22 : Int) (x27 : Int) (fault_0 : Int) (from_0 : Int) (pos_0 : Int) (kind_0 : Int) (gx : Int) (k2 : 9 ≤ x2 ∧ x2 ≤ 9) (k3 : 0 ≤ x3 ∧ x3 ≤ 2000) (k4 : (-1) ≤ x4 ∧ x4 ≤ 48) (k7 : 9 ≤ x7 ∧ x7 ≤ 9) (k8 : (-2147483648) ≤ x8 ∧ x8 ≤ 0) (k9 : 0 ≤ x9 ∧ x9 ≤ 2000) (k13 : 0 ≤ x13 ∧ x13 ≤ 2000) (k15 : 0 ≤ x15 ∧ x15 ≤ 2000) (k22 : 10 ≤ x22 ∧ x22 ≤ 2147483647) (k27 : 0 ≤ x27 ∧ x27 ≤ 2000) (f0 : 1 * x3 + ((-1) * x27 + 0) ≤ (-1)) (f1 : (-1) * x9 + ((-1) * x27 + 0) ≤ (-2001)) (f2 : 1 * x22 + ((-1) * x2 + 0) ≤ 0) (f3 : (-1) * x22 + 0 ≤ 0) (f4 : 1 * x15 + ((-1) * x13 + 0) ≤ 0) (f5 : (-1) * x15 + (1 * x13 + 0) ≤ 0) (f6 : 1 * x3 + ((-1) * x15 + 0) ≤ (-1)) (f7 : (-1) * x9 + ((-1) * x15 + 0) ≤ (-2000)) (f8 : 1 * x3 + ((-1) * x13 + 0) ≤ (-1)) (f9 : (-1) * x9 + ((-1) * x13 + 0) ≤ (-2000)) (f10 : 1 * x8 + ((-1) * x2 + 0) ≤ 0) (f11 : (-1) * x8 + 0 ≤ 0) (f12 : (-1) * x4 + 0 ≤ 0) (f15 : (-1) * fault_0 + 0 ≤ (-1)) (f16 : 1 * from_0 + ((-1) * pos_0 + 0) ≤ 0) (f17 : ((kind_0 = 1) → (pos_0 ≤ (from_0 + 8))) ∧ ((kind_0 = 0) ∨ ((from_0 + 1) ≤ pos_0))) (f18 : 1 * x27 + ((-1) * from_0 + 0) ≤ 0) (f20 : 1 * x3 + ((-1) * x27 + 0) ≤ (-1)) (f21 : (-1) * x9 + ((-1) * x27 + 0) ≤ (-2001)) (f22 : 1 * x22 + ((-1) * x2 + 0) ≤ 0) (f23 : (-1) * x22 + 0 ≤ 0) (f24 : 1 * x15 + ((-1) * x13 + 0) ≤ 0) (f25 : (-1) * x15 + (1 * x13 + 0) ≤ 0) (f26 : 1 * x3 + ((-1) * x15 + 0) ≤ (-1)) (f27 : (-1) * x9 + ((-1) * x15 + 0) ≤ (-2000)) (f28 : 1 * x3 + ((-1) * x13 + 0) ≤ (-1)) (f29 : (-1) * x9 + ((-1) * x13 + 0) ≤ (-2000)) (f30 : 1 * x8 + ((-1) * x2 + 0) ≤ 0) (f31 : (-1) * x8 + 0 ≤ 0) (f32 : (-1) * x4 + 0 ≤ 0) (f34 : 1 * x15 + ((-1) * x13 + 0) ≤ 0) (f35 : (-1) * x15 + (1 * x13 + 0) ≤ 0) (f36 : 1 * x3 + ((-1) * x15 + 0) ≤ (-1)) (f37 : (-1) * x9 + ((-1) * x15 + 0) ≤ (-2000)) (f38 : 1 * x3 + ((-1) * x13 + 0) ≤ (-1)) (f39 : (-1) * x9 + ((-1) * x13 + 0) ≤ (-2000)) (f40 : 1 * x8 + ((-1) * x2 + 0) ≤ 0) (f41 : (-1) * x8 + 0 ≤ 0) (f42 : (-1) * x4 + 0 ≤ 0) (f44 : 1 * x15 + ((-1) * x13 + 0) ≤ 0) (f45 : (-1) * x15 + (1 * x13 + 0) ≤ 0) (f46 : 1 * x3 + ((-1) * x15 + 0) ≤ (-1)) (f47 : (-1) * x9 + ((-1) * x15 + 0) ≤ (-2000)) (f48 : 1 * x3 + ((-1) * x13 + 0) ≤ (-1)) (f49 : (-1) * x9 + ((-1) * x13 + 0) ≤ (-2000)) (f50 : 1 * x8 + ((-1) * x2 + 0) ≤ 0) (f51 : (-1) * x8 + 0 ≤ 0) (f52 : (-1) * x4 + 0 ≤ 0) (f54 : 1 * x15 + ((-1) * x13 + 0) ≤ 0) (f55 : (-1) * x15 + (1 * x13 + 0) ≤ 0) (f56 : 1 * x3 + ((-1) * x15 + 0) ≤ (-1)) (f57 : (-1) * x9 + ((-1) * x15 + 0) ≤ (-2000)) (f58 : 1 * x3 + ((-1) * x13 + 0) ≤ (-1)) (f59 : (-1) * x9 + ((-1) * x13 + 0) ≤ (-2000)) (f60 : 1 * x8 + ((-1) * x2 + 0) ≤ 0) (f61 : (-1) * x8 + 0 ≤ 0) (f62 : (-1) * x4 + 0 ≤ 0) (f64 : 1 * x3 + ((-1) * x13 + 0) ≤ (-1)) (f65 : (-1) * x9 + ((-1) * x13 + 0) ≤ (-2000)) (f66 : x8 ≤ 0) (f67 : 1 * x8 + ((-1) * x2 + 0) ≤ 0) (f68 : (-1) * x8 + 0 ≤ 0) (f69 : (-1) * x4 + 0 ≤ 0) (f71 : 1 * x8 + ((-1) * x2 + 0) ≤ 0) (f72 : (-1) * x8 + 0 ≤ 0) (f73 : (-1) * x4 + 0 ≤ 0) (kz_0_8 : 0 ≤ fault_0 ∧ fault_0 ≤ 5) (kz_0_11 : 0 ≤ pos_0 ∧ pos_0 ≤ 2000) (kz_0_12 : 0 ≤ kind_0 ∧ kind_0 ≤ 4) (kz_0_15 : 0 ≤ from_0 ∧ from_0 ≤ 2000) (ex2 : gx = 0 + (1 * x9 + 0)) (ex3 : 0 ≤ gx ∧ gx ≤ 2000) : 1 * from_0 + ((-1) * pos_0 + 0) ≤ 0 := by
  first | assumption | (clear f17; omega) | omega | grind
set_option maxHeartbeats 4000000 in
theorem vc_Mo_of_at_s5003_23_1 (x2 : Int) (x3 : Int) (x4 : Int) (x7 : Int) (x8 : Int) (x9 : Int) (x13 : Int) (x15 : Int) (x22 : Int) (x27 : Int) (fault_0 : Int) (from_0 : Int) (pos_0 : Int) (kind_0 : Int) (gx : Int) (k2 : 9 ≤ x2 ∧ x2 ≤ 9) (k3 : 0 ≤ x3 ∧ x3 ≤ 2000) (k4 : (-1) ≤ x4 ∧ x4 ≤ 48) (k7 : 9 ≤ x7 ∧ x7 ≤ 9) (k8 : (-2147483648) ≤ x8 ∧ x8 ≤ 0) (k9 : 0 ≤ x9 ∧ x9 ≤ 2000) (k13 : 0 ≤ x13 ∧ x13 ≤ 2000) (k15 : 0 ≤ x15 ∧ x15 ≤ 2000) (k22 : 10 ≤ x22 ∧ x22 ≤ 2147483647) (k27 : 0 ≤ x27 ∧ x27 ≤ 2000) (f0 : 1 * x3 + ((-1) * x27 + 0) ≤ (-1)) (f1 : (-1) * x9 + ((-1) * x27 + 0) ≤ (-2001)) (f2 : 1 * x22 + ((-1) * x2 + 0) ≤ 0) (f3 : (-1) * x22 + 0 ≤ 0) (f4 : 1 * x15 + ((-1) * x13 + 0) ≤ 0) (f5 : (-1) * x15 + (1 * x13 + 0) ≤ 0) (f6 : 1 * x3 + ((-1) * x15 + 0) ≤ (-1)) (f7 : (-1) * x9 + ((-1) * x15 + 0) ≤ (-2000)) (f8 : 1 * x3 + ((-1) * x13 + 0) ≤ (-1)) (f9 : (-1) * x9 + ((-1) * x13 + 0) ≤ (-2000)) (f10 : 1 * x8 + ((-1) * x2 + 0) ≤ 0) (f11 : (-1) * x8 + 0 ≤ 0) (f12 : (-1) * x4 + 0 ≤ 0) (f15 : (-1) * fault_0 + 0 ≤ (-1)) (f16 : 1 * from_0 + ((-1) * pos_0 + 0) ≤ 0) (f17 : ((kind_0 = 1) → (pos_0 ≤ (from_0 + 8))) ∧ ((kind_0 = 0) ∨ ((from_0 + 1) ≤ pos_0))) (f18 : 1 * x27 + ((-1) * from_0 + 0) ≤ 0) (f20 : 1 * x3 + ((-1) * x27 + 0) ≤ (-1)) (f21 : (-1) * x9 + ((-1) * x27 + 0) ≤ (-2001)) (f22 : 1 * x22 + ((-1) * x2 + 0) ≤ 0) (f23 : (-1) * x22 + 0 ≤ 0) (f24 : 1 * x15 + ((-1) * x13 + 0) ≤ 0) (f25 : (-1) * x15 + (1 * x13 + 0) ≤ 0) (f26 : 1 * x3 + ((-1) * x15 + 0) ≤ (-1)) (f27 : (-1) * x9 + ((-1) * x15 + 0) ≤ (-2000)) (f28 : 1 * x3 + ((-1) * x13 + 0) ≤ (-1)) (f29 : (-1) * x9 + ((-1) * x13 + 0) ≤ (-2000)) (f30 : 1 * x8 + ((-1) * x2 + 0) ≤ 0) (f31 : (-1) * x8 + 0 ≤ 0) (f32 : (-1) * x4 + 0 ≤ 0) (f34 : 1 * x15 + ((-1) * x13 + 0) ≤ 0) (f35 : (-1) * x15 + (1 * x13 + 0) ≤ 0) (f36 : 1 * x3 + ((-1) * x15 + 0) ≤ (-1)) (f37 : (-1) * x9 + ((-1) * x15 + 0) ≤ (-2000)) (f38 : 1 * x3 + ((-1) * x13 + 0) ≤ (-1)) (f39 : (-1) * x9 + ((-1) * x13 + 0) ≤ (-2000)) (f40 : 1 * x8 + ((-1) * x2 + 0) ≤ 0) (f41 : (-1) * x8 + 0 ≤ 0) (f42 : (-1) * x4 + 0 ≤ 0) (f44 : 1 * x15 + ((-1) * x13 + 0) ≤ 0) (f45 : (-1) * x15 + (1 * x13 + 0) ≤ 0) (f46 : 1 * x3 + ((-1) * x15 + 0) ≤ (-1)) (f47 : (-1) * x9 + ((-1) * x15 + 0) ≤ (-2000)) (f48 : 1 * x3 + ((-1) * x13 + 0) ≤ (-1)) (f49 : (-1) * x9 + ((-1) * x13 + 0) ≤ (-2000)) (f50 : 1 * x8 + ((-1) * x2 + 0) ≤ 0) (f51 : (-1) * x8 + 0 ≤ 0) (f52 : (-1) * x4 + 0 ≤ 0) (f54 : 1 * x15 + ((-1) * x13 + 0) ≤ 0) (f55 : (-1) * x15 + (1 * x13 + 0) ≤ 0) (f56 : 1 * x3 + ((-1) * x15 + 0) ≤ (-1)) (f57 : (-1) * x9 + ((-1) * x15 + 0) ≤ (-2000)) (f58 : 1 * x3 + ((-1) * x13 + 0) ≤ (-1)) (f59 : (-1) * x9 + ((-1) * x13 + 0) ≤ (-2000)) (f60 : 1 * x8 + ((-1) * x2 + 0) ≤ 0) (f61 : (-1) * x8 + 0 ≤ 0) (f62 : (-1) * x4 + 0 ≤ 0) (f64 : 1 * x3 + ((-1) * x13 + 0) ≤ (-1)) (f65 : (-1) * x9 + ((-1) * x13 + 0) ≤ (-2000)) (f66 : x8 ≤ 0) (f67 : 1 * x8 + ((-1) * x2 + 0) ≤ 0) (f68 : (-1) * x8 + 0 ≤ 0) (f69 : (-1) * x4 + 0 ≤ 0) (f71 : 1 * x8 + ((-1) * x2 + 0) ≤ 0) (f72 : (-1) * x8 + 0 ≤ 0) (f73 : (-1) * x4 + 0 ≤ 0) (kz_0_8 : 0 ≤ fault_0 ∧ fault_0 ≤ 5) (kz_0_11 : 0 ≤ pos_0 ∧ pos_0 ≤ 2000) (kz_0_12 : 0 ≤ kind_0 ∧ kind_0 ≤ 4) (kz_0_15 : 0 ≤ from_0 ∧ from_0 ≤ 2000) (ex2 : gx = 0 + (1 * x9 + 0)) (ex3 : 0 ≤ gx ∧ gx ≤ 2000) : ((kind_0 = 1) → (pos_0 ≤ (from_0 + 8))) ∧ ((kind_0 = 0) ∨ ((from_0 + 1) ≤ pos_0)) := by
  first | assumption | (clear f17; omega) | omega | grind
set_option maxHeartbeats 4000000 in
theorem vc_Mo_of_at_s5003_23_2 (x2 : Int) (x3 : Int) (x4 : Int) (x7 : Int) (x8 : Int) (x9 : Int) (x13 : Int) (x15 : Int) (x22 : Int) (x27 : Int) (fault_0 : Int) (from_0 : Int) (pos_0 : Int) (kind_0 : Int) (gx : Int) (k2 : 9 ≤ x2 ∧ x2 ≤ 9) (k3 : 0 ≤ x3 ∧ x3 ≤ 2000) (k4 : (-1) ≤ x4 ∧ x4 ≤ 48) (k7 : 9 ≤ x7 ∧ x7 ≤ 9) (k8 : (-2147483648) ≤ x8 ∧ x8 ≤ 0) (k9 : 0 ≤ x9 ∧ x9 ≤ 2000) (k13 : 0 ≤ x13 ∧ x13 ≤ 2000) (k15 : 0 ≤ x15 ∧ x15 ≤ 2000) (k22 : 10 ≤ x22 ∧ x22 ≤ 2147483647) (k27 : 0 ≤ x27 ∧ x27 ≤ 2000) (f0 : 1 * x3 + ((-1) * x27 + 0) ≤ (-1)) (f1 : (-1) * x9 + ((-1) * x27 + 0) ≤ (-2001)) (f2 : 1 * x22 + ((-1) * x2 + 0) ≤ 0) (f3 : (-1) * x22 + 0 ≤ 0) (f4 : 1 * x15 + ((-1) * x13 + 0) ≤ 0) (f5 : (-1) * x15 + (1 * x13 + 0) ≤ 0) (f6 : 1 * x3 + ((-1) * x15 + 0) ≤ (-1)) (f7 : (-1) * x9 + ((-1) * x15 + 0) ≤ (-2000)) (f8 : 1 * x3 + ((-1) * x13 + 0) ≤ (-1)) (f9 : (-1) * x9 + ((-1) * x13 + 0) ≤ (-2000)) (f10 : 1 * x8 + ((-1) * x2 + 0) ≤ 0) (f11 : (-1) * x8 + 0 ≤ 0) (f12 : (-1) * x4 + 0 ≤ 0) (f15 : (-1) * fault_0 + 0 ≤ (-1)) (f16 : 1 * from_0 + ((-1) * pos_0 + 0) ≤ 0) (f17 : ((kind_0 = 1) → (pos_0 ≤ (from_0 + 8))) ∧ ((kind_0 = 0) ∨ ((from_0 + 1) ≤ pos_0))) (f18 : 1 * x27 + ((-1) * from_0 + 0) ≤ 0) (f20 : 1 * x3 + ((-1) * x27 + 0) ≤ (-1)) (f21 : (-1) * x9 + ((-1) * x27 + 0) ≤ (-2001)) (f22 : 1 * x22 + ((-1) * x2 + 0) ≤ 0) (f23 : (-1) * x22 + 0 ≤ 0) (f24 : 1 * x15 + ((-1) * x13 + 0) ≤ 0) (f25 : (-1) * x15 + (1 * x13 + 0) ≤ 0) (f26 : 1 * x3 + ((-1) * x15 + 0) ≤ (-1)) (f27 : (-1) * x9 + ((-1) * x15 + 0) ≤ (-2000)) (f28 : 1 * x3 + ((-1) * x13 + 0) ≤ (-1)) (f29 : (-1) * x9 + ((-1) * x13 + 0) ≤ (-2000)) (f30 : 1 * x8 + ((-1) * x2 + 0) ≤ 0) (f31 : (-1) * x8 + 0 ≤ 0) (f32 : (-1) * x4 + 0 ≤ 0) (f34 : 1 * x15 + ((-1) * x13 + 0) ≤ 0) (f35 : (-1) * x15 + (1 * x13 + 0) ≤ 0) (f36 : 1 * x3 + ((-1) * x15 + 0) ≤ (-1)) (f37 : (-1) * x9 + ((-1) * x15 + 0) ≤ (-2000)) (f38 : 1 * x3 + ((-1) * x13 + 0) ≤ (-1)) (f39 : (-1) * x9 + ((-1) * x13 + 0) ≤ (-2000)) (f40 : 1 * x8 + ((-1) * x2 + 0) ≤ 0) (f41 : (-1) * x8 + 0 ≤ 0) (f42 : (-1) * x4 + 0 ≤ 0) (f44 : 1 * x15 + ((-1) * x13 + 0) ≤ 0) (f45 : (-1) * x15 + (1 * x13 + 0) ≤ 0) (f46 : 1 * x3 + ((-1) * x15 + 0) ≤ (-1)) (f47 : (-1) * x9 + ((-1) * x15 + 0) ≤ (-2000)) (f48 : 1 * x3 + ((-1) * x13 + 0) ≤ (-1)) (f49 : (-1) * x9 + ((-1) * x13 + 0) ≤ (-2000)) (f50 : 1 * x8 + ((-1) * x2 + 0) ≤ 0) (f51 : (-1) * x8 + 0 ≤ 0) (f52 : (-1) * x4 + 0 ≤ 0) (f54 : 1 * x15 + ((-1) * x13 + 0) ≤ 0) (f55 : (-1) * x15 + (1 * x13 + 0) ≤ 0) (f56 : 1 * x3 + ((-1) * x15 + 0) ≤ (-1)) (f57 : (-1) * x9 + ((-1) * x15 + 0) ≤ (-2000)) (f58 : 1 * x3 + ((-1) * x13 + 0) ≤ (-1)) (f59 : (-1) * x9 + ((-1) * x13 + 0) ≤ (-2000)) (f60 : 1 * x8 + ((-1) * x2 + 0) ≤ 0) (f61 : (-1) * x8 + 0 ≤ 0) (f62 : (-1) * x4 + 0 ≤ 0) (f64 : 1 * x3 + ((-1) * x13 + 0) ≤ (-1)) (f65 : (-1) * x9 + ((-1) * x13 + 0) ≤ (-2000)) (f66 : x8 ≤ 0) (f67 : 1 * x8 + ((-1) * x2 + 0) ≤ 0) (f68 : (-1) * x8 + 0 ≤ 0) (f69 : (-1) * x4 + 0 ≤ 0) (f71 : 1 * x8 + ((-1) * x2 + 0) ≤ 0) (f72 : (-1) * x8 + 0 ≤ 0) (f73 : (-1) * x4 + 0 ≤ 0) (kz_0_8 : 0 ≤ fault_0 ∧ fault_0 ≤ 5) (kz_0_11 : 0 ≤ pos_0 ∧ pos_0 ≤ 2000) (kz_0_12 : 0 ≤ kind_0 ∧ kind_0 ≤ 4) (kz_0_15 : 0 ≤ from_0 ∧ from_0 ≤ 2000) (ex2 : gx = 0 + (1 * x9 + 0)) (ex3 : 0 ≤ gx ∧ gx ≤ 2000) : 1 * x3 + ((-1) * pos_0 + 0) ≤ (-1) := by
  first | assumption | (clear f17; omega) | omega | grind
set_option maxHeartbeats 4000000 in
theorem vc_Mo_of_at_s5003_23_3 (x2 : Int) (x3 : Int) (x4 : Int) (x7 : Int) (x8 : Int) (x9 : Int) (x13 : Int) (x15 : Int) (x22 : Int) (x27 : Int) (fault_0 : Int) (from_0 : Int) (pos_0 : Int) (kind_0 : Int) (gx : Int) (k2 : 9 ≤ x2 ∧ x2 ≤ 9) (k3 : 0 ≤ x3 ∧ x3 ≤ 2000) (k4 : (-1) ≤ x4 ∧ x4 ≤ 48) (k7 : 9 ≤ x7 ∧ x7 ≤ 9) (k8 : (-2147483648) ≤ x8 ∧ x8 ≤ 0) (k9 : 0 ≤ x9 ∧ x9 ≤ 2000) (k13 : 0 ≤ x13 ∧ x13 ≤ 2000) (k15 : 0 ≤ x15 ∧ x15 ≤ 2000) (k22 : 10 ≤ x22 ∧ x22 ≤ 2147483647) (k27 : 0 ≤ x27 ∧ x27 ≤ 2000) (f0 : 1 * x3 + ((-1) * x27 + 0) ≤ (-1)) (f1 : (-1) * x9 + ((-1) * x27 + 0) ≤ (-2001)) (f2 : 1 * x22 + ((-1) * x2 + 0) ≤ 0) (f3 : (-1) * x22 + 0 ≤ 0) (f4 : 1 * x15 + ((-1) * x13 + 0) ≤ 0) (f5 : (-1) * x15 + (1 * x13 + 0) ≤ 0) (f6 : 1 * x3 + ((-1) * x15 + 0) ≤ (-1)) (f7 : (-1) * x9 + ((-1) * x15 + 0) ≤ (-2000)) (f8 : 1 * x3 + ((-1) * x13 + 0) ≤ (-1)) (f9 : (-1) * x9 + ((-1) * x13 + 0) ≤ (-2000)) (f10 : 1 * x8 + ((-1) * x2 + 0) ≤ 0) (f11 : (-1) * x8 + 0 ≤ 0) (f12 : (-1) * x4 + 0 ≤ 0) (f15 : (-1) * fault_0 + 0 ≤ (-1)) (f16 : 1 * from_0 + ((-1) * pos_0 + 0) ≤ 0) (f17 : ((kind_0 = 1) → (pos_0 ≤ (from_0 + 8))) ∧ ((kind_0 = 0) ∨ ((from_0 + 1) ≤ pos_0))) (f18 : 1 * x27 + ((-1) * from_0 + 0) ≤ 0) (f20 : 1 * x3 + ((-1) * x27 + 0) ≤ (-1)) (f21 : (-1) * x9 + ((-1) * x27 + 0) ≤ (-2001)) (f22 : 1 * x22 + ((-1) * x2 + 0) ≤ 0) (f23 : (-1) * x22 + 0 ≤ 0) (f24 : 1 * x15 + ((-1) * x13 + 0) ≤ 0) (f25 : (-1) * x15 + (1 * x13 + 0) ≤ 0) (f26 : 1 * x3 + ((-1) * x15 + 0) ≤ (-1)) (f27 : (-1) * x9 + ((-1) * x15 + 0) ≤ (-2000)) (f28 : 1 * x3 + ((-1) * x13 + 0) ≤ (-1)) (f29 : (-1) * x9 + ((-1) * x13 + 0) ≤ (-2000)) (f30 : 1 * x8 + ((-1) * x2 + 0) ≤ 0) (f31 : (-1) * x8 + 0 ≤ 0) (f32 : (-1) * x4 + 0 ≤ 0) (f34 : 1 * x15 + ((-1) * x13 + 0) ≤ 0) (f35 : (-1) * x15 + (1 * x13 + 0) ≤ 0) (f36 : 1 * x3 + ((-1) * x15 + 0) ≤ (-1)) (f37 : (-1) * x9 + ((-1) * x15 + 0) ≤ (-2000)) (f38 : 1 * x3 + ((-1) * x13 + 0) ≤ (-1)) (f39 : (-1) * x9 + ((-1) * x13 + 0) ≤ (-2000)) (f40 : 1 * x8 + ((-1) * x2 + 0) ≤ 0) (f41 : (-1) * x8 + 0 ≤ 0) (f42 : (-1) * x4 + 0 ≤ 0) (f44 : 1 * x15 + ((-1) * x13 + 0) ≤ 0) (f45 : (-1) * x15 + (1 * x13 + 0) ≤ 0) (f46 : 1 * x3 + ((-1) * x15 + 0) ≤ (-1)) (f47 : (-1) * x9 + ((-1) * x15 + 0) ≤ (-2000)) (f48 : 1 * x3 + ((-1) * x13 + 0) ≤ (-1)) (f49 : (-1) * x9 + ((-1) * x13 + 0) ≤ (-2000)) (f50 : 1 * x8 + ((-1) * x2 + 0) ≤ 0) (f51 : (-1) * x8 + 0 ≤ 0) (f52 : (-1) * x4 + 0 ≤ 0) (f54 : 1 * x15 + ((-1) * x13 + 0) ≤ 0) (f55 : (-1) * x15 + (1 * x13 + 0) ≤ 0) (f56 : 1 * x3 + ((-1) * x15 + 0) ≤ (-1)) (f57 : (-1) * x9 + ((-1) * x15 + 0) ≤ (-2000)) (f58 : 1 * x3 + ((-1) * x13 + 0) ≤ (-1)) (f59 : (-1) * x9 + ((-1) * x13 + 0) ≤ (-2000)) (f60 : 1 * x8 + ((-1) * x2 + 0) ≤ 0) (f61 : (-1) * x8 + 0 ≤ 0) (f62 : (-1) * x4 + 0 ≤ 0) (f64 : 1 * x3 + ((-1) * x13 + 0) ≤ (-1)) (f65 : (-1) * x9 + ((-1) * x13 + 0) ≤ (-2000)) (f66 : x8 ≤ 0) (f67 : 1 * x8 + ((-1) * x2 + 0) ≤ 0) (f68 : (-1) * x8 + 0 ≤ 0) (f69 : (-1) * x4 + 0 ≤ 0) (f71 : 1 * x8 + ((-1) * x2 + 0) ≤ 0) (f72 : (-1) * x8 + 0 ≤ 0) (f73 : (-1) * x4 + 0 ≤ 0) (kz_0_8 : 0 ≤ fault_0 ∧ fault_0 ≤ 5) (kz_0_11 : 0 ≤ pos_0 ∧ pos_0 ≤ 2000) (kz_0_12 : 0 ≤ kind_0 ∧ kind_0 ≤ 4) (kz_0_15 : 0 ≤ from_0 ∧ from_0 ≤ 2000) (ex2 : gx = 0 + (1 * x9 + 0)) (ex3 : 0 ≤ gx ∧ gx ≤ 2000) : 1 * x22 + ((-1) * x2 + 0) ≤ 0 := by
  first | assumption | (clear f17; omega) | omega | grind
set_option maxHeartbeats 4000000 in
theorem vc_Mo_of_at_s5003_23_4 (x2 : Int) (x3 : Int) (x4 : Int) (x7 : Int) (x8 : Int) (x9 : Int) (x13 : Int) (x15 : Int) (x22 : Int) (x27 : Int) (fault_0 : Int) (from_0 : Int) (pos_0 : Int) (kind_0 : Int) (gx : Int) (k2 : 9 ≤ x2 ∧ x2 ≤ 9) (k3 : 0 ≤ x3 ∧ x3 ≤ 2000) (k4 : (-1) ≤ x4 ∧ x4 ≤ 48) (k7 : 9 ≤ x7 ∧ x7 ≤ 9) (k8 : (-2147483648) ≤ x8 ∧ x8 ≤ 0) (k9 : 0 ≤ x9 ∧ x9 ≤ 2000) (k13 : 0 ≤ x13 ∧ x13 ≤ 2000) (k15 : 0 ≤ x15 ∧ x15 ≤ 2000) (k22 : 10 ≤ x22 ∧ x22 ≤ 2147483647) (k27 : 0 ≤ x27 ∧ x27 ≤ 2000) (f0 : 1 * x3 + ((-1) * x27 + 0) ≤ (-1)) (f1 : (-1) * x9 + ((-1) * x27 + 0) ≤ (-2001)) (f2 : 1 * x22 + ((-1) * x2 + 0) ≤ 0) (f3 : (-1) * x22 + 0 ≤ 0) (f4 : 1 * x15 + ((-1) * x13 + 0) ≤ 0) (f5 : (-1) * x15 + (1 * x13 + 0) ≤ 0) (f6 : 1 * x3 + ((-1) * x15 + 0) ≤ (-1)) (f7 : (-1) * x9 + ((-1) * x15 + 0) ≤ (-2000)) (f8 : 1 * x3 + ((-1) * x13 + 0) ≤ (-1)) (f9 : (-1) * x9 + ((-1) * x13 + 0) ≤ (-2000)) (f10 : 1 * x8 + ((-1) * x2 + 0) ≤ 0) (f11 : (-1) * x8 + 0 ≤ 0) (f12 : (-1) * x4 + 0 ≤ 0) (f15 : (-1) * fault_0 + 0 ≤ (-1)) (f16 : 1 * from_0 + ((-1) * pos_0 + 0) ≤ 0) (f17 : ((kind_0 = 1) → (pos_0 ≤ (from_0 + 8))) ∧ ((kind_0 = 0) ∨ ((from_0 + 1) ≤ pos_0))) (f18 : 1 * x27 + ((-1) * from_0 + 0) ≤ 0) (f20 : 1 * x3 + ((-1) * x27 + 0) ≤ (-1)) (f21 : (-1) * x9 + ((-1) * x27 + 0) ≤ (-2001)) (f22 : 1 * x22 + ((-1) * x2 + 0) ≤ 0) (f23 : (-1) * x22 + 0 ≤ 0) (f24 : 1 * x15 + ((-1) * x13 + 0) ≤ 0) (f25 : (-1) * x15 + (1 * x13 + 0) ≤ 0) (f26 : 1 * x3 + ((-1) * x15 + 0) ≤ (-1)) (f27 : (-1) * x9 + ((-1) * x15 + 0) ≤ (-2000)) (f28 : 1 * x3 + ((-1) * x13 + 0) ≤ (-1)) (f29 : (-1) * x9 + ((-1) * x13 + 0) ≤ (-2000)) (f30 : 1 * x8 + ((-1) * x2 + 0) ≤ 0) (f31 : (-1) * x8 + 0 ≤ 0) (f32 : (-1) * x4 + 0 ≤ 0) (f34 : 1 * x15 + ((-1) * x13 + 0) ≤ 0) (f35 : (-1) * x15 + (1 * x13 + 0) ≤ 0) (f36 : 1 * x3 + ((-1) * x15 + 0) ≤ (-1)) (f37 : (-1) * x9 + ((-1) * x15 + 0) ≤ (-2000)) (f38 : 1 * x3 + ((-1) * x13 + 0) ≤ (-1)) (f39 : (-1) * x9 + ((-1) * x13 + 0) ≤ (-2000)) (f40 : 1 * x8 + ((-1) * x2 + 0) ≤ 0) (f41 : (-1) * x8 + 0 ≤ 0) (f42 : (-1) * x4 + 0 ≤ 0) (f44 : 1 * x15 + ((-1) * x13 + 0) ≤ 0) (f45 : (-1) * x15 + (1 * x13 + 0) ≤ 0) (f46 : 1 * x3 + ((-1) * x15 + 0) ≤ (-1)) (f47 : (-1) * x9 + ((-1) * x15 + 0) ≤ (-2000)) (f48 : 1 * x3 + ((-1) * x13 + 0) ≤ (-1)) (f49 : (-1) * x9 + ((-1) * x13 + 0) ≤ (-2000)) (f50 : 1 * x8 + ((-1) * x2 + 0) ≤ 0) (f51 : (-1) * x8 + 0 ≤ 0) (f52 : (-1) * x4 + 0 ≤ 0) (f54 : 1 * x15 + ((-1) * x13 + 0) ≤ 0) (f55 : (-1) * x15 + (1 * x13 + 0) ≤ 0) (f56 : 1 * x3 + ((-1) * x15 + 0) ≤ (-1)) (f57 : (-1) * x9 + ((-1) * x15 + 0) ≤ (-2000)) (f58 : 1 * x3 + ((-1) * x13 + 0) ≤ (-1)) (f59 : (-1) * x9 + ((-1) * x13 + 0) ≤ (-2000)) (f60 : 1 * x8 + ((-1) * x2 + 0) ≤ 0) (f61 : (-1) * x8 + 0 ≤ 0) (f62 : (-1) * x4 + 0 ≤ 0) (f64 : 1 * x3 + ((-1) * x13 + 0) ≤ (-1)) (f65 : (-1) * x9 + ((-1) * x13 + 0) ≤ (-2000)) (f66 : x8 ≤ 0) (f67 : 1 * x8 + ((-1) * x2 + 0) ≤ 0) (f68 : (-1) * x8 + 0 ≤ 0) (f69 : (-1) * x4 + 0 ≤ 0) (f71 : 1 * x8 + ((-1) * x2 + 0) ≤ 0) (f72 : (-1) * x8 + 0 ≤ 0) (f73 : (-1) * x4 + 0 ≤ 0) (kz_0_8 : 0 ≤ fault_0 ∧ fault_0 ≤ 5) (kz_0_11 : 0 ≤ pos_0 ∧ pos_0 ≤ 2000) (kz_0_12 : 0 ≤ kind_0 ∧ kind_0 ≤ 4) (kz_0_15 : 0 ≤ from_0 ∧ from_0 ≤ 2000) (ex2 : gx = 0 + (1 * x9 + 0)) (ex3 : 0 ≤ gx ∧ gx ≤ 2000) : (-1) * x22 + 0 ≤ 0 := by
  first | assumption | (clear f17; omega) | omega | grind
set_option maxHeartbeats 4000000 in
theorem vc_Mo_of_at_s5003_23_5 (x2 : Int) (x3 : Int) (x4 : Int) (x7 : Int) (x8 : Int) (x9 : Int) (x13 : Int) (x15 : Int) (x22 : Int) (x27 : Int) (fault_0 : Int) (from_0 : Int) (pos_0 : Int) (kind_0 : Int) (gx : Int) (k2 : 9 ≤ x2 ∧ x2 ≤ 9) (k3 : 0 ≤ x3 ∧ x3 ≤ 2000) (k4 : (-1) ≤ x4 ∧ x4 ≤ 48) (k7 : 9 ≤ x7 ∧ x7 ≤ 9) (k8 : (-2147483648) ≤ x8 ∧ x8 ≤ 0) (k9 : 0 ≤ x9 ∧ x9 ≤ 2000) (k13 : 0 ≤ x13 ∧ x13 ≤ 2000) (k15 : 0 ≤ x15 ∧ x15 ≤ 2000) (k22 : 10 ≤ x22 ∧ x22 ≤ 2147483647) (k27 : 0 ≤ x27 ∧ x27 ≤ 2000) (f0 : 1 * x3 + ((-1) * x27 + 0) ≤ (-1)) (f1 : (-1) * x9 + ((-1) * x27 + 0) ≤ (-2001)) (f2 : 1 * x22 + ((-1) * x2 + 0) ≤ 0) (f3 : (-1) * x22 + 0 ≤ 0) (f4 : 1 * x15 + ((-1) * x13 + 0) ≤ 0) (f5 : (-1) * x15 + (1 * x13 + 0) ≤ 0) (f6 : 1 * x3 + ((-1) * x15 + 0) ≤ (-1)) (f7 : (-1) * x9 + ((-1) * x15 + 0) ≤ (-2000)) (f8 : 1 * x3 + ((-1) * x13 + 0) ≤ (-1)) (f9 : (-1) * x9 + ((-1) * x13 + 0) ≤ (-2000)) (f10 : 1 * x8 + ((-1) * x2 + 0) ≤ 0) (f11 : (-1) * x8 + 0 ≤ 0) (f12 : (-1) * x4 + 0 ≤ 0) (f15 : (-1) * fault_0 + 0 ≤ (-1)) (f16 : 1 * from_0 + ((-1) * pos_0 + 0) ≤ 0) (f17 : ((kind_0 = 1) → (pos_0 ≤ (from_0 + 8))) ∧ ((kind_0 = 0) ∨ ((from_0 + 1) ≤ pos_0))) (f18 : 1 * x27 + ((-1) * from_0 + 0) ≤ 0) (f20 : 1 * x3 + ((-1) * x27 + 0) ≤ (-1)) (f21 : (-1) * x9 + ((-1) * x27 + 0) ≤ (-2001)) (f22 : 1 * x22 + ((-1) * x2 + 0) ≤ 0) (f23 : (-1) * x22 + 0 ≤ 0) (f24 : 1 * x15 + ((-1) * x13 + 0) ≤ 0) (f25 : (-1) * x15 + (1 * x13 + 0) ≤ 0) (f26 : 1 * x3 + ((-1) * x15 + 0) ≤ (-1)) (f27 : (-1) * x9 + ((-1) * x15 + 0) ≤ (-2000)) (f28 : 1 * x3 + ((-1) * x13 + 0) ≤ (-1)) (f29 : (-1) * x9 + ((-1) * x13 + 0) ≤ (-2000)) (f30 : 1 * x8 + ((-1) * x2 + 0) ≤ 0) (f31 : (-1) * x8 + 0 ≤ 0) (f32 : (-1) * x4 + 0 ≤ 0) (f34 : 1 * x15 + ((-1) * x13 + 0) ≤ 0) (f35 : (-1) * x15 + (1 * x13 + 0) ≤ 0) (f36 : 1 * x3 + ((-1) * x15 + 0) ≤ (-1)) (f37 : (-1) * x9 + ((-1) * x15 + 0) ≤ (-2000)) (f38 : 1 * x3 + ((-1) * x13 + 0) ≤ (-1)) (f39 : (-1) * x9 + ((-1) * x13 + 0) ≤ (-2000)) (f40 : 1 * x8 + ((-1) * x2 + 0) ≤ 0) (f41 : (-1) * x8 + 0 ≤ 0) (f42 : (-1) * x4 + 0 ≤ 0) (f44 : 1 * x15 + ((-1) * x13 + 0) ≤ 0) (f45 : (-1) * x15 + (1 * x13 + 0) ≤ 0) (f46 : 1 * x3 + ((-1) * x15 + 0) ≤ (-1)) (f47 : (-1) * x9 + ((-1) * x15 + 0) ≤ (-2000)) (f48 : 1 * x3 + ((-1) * x13 + 0) ≤ (-1)) (f49 : (-1) * x9 + ((-1) * x13 + 0) ≤ (-2000)) (f50 : 1 * x8 + ((-1) * x2 + 0) ≤ 0) (f51 : (-1) * x8 + 0 ≤ 0) (f52 : (-1) * x4 + 0 ≤ 0) (f54 : 1 * x15 + ((-1) * x13 + 0) ≤ 0) (f55 : (-1) * x15 + (1 * x13 + 0) ≤ 0) (f56 : 1 * x3 + ((-1) * x15 + 0) ≤ (-1)) (f57 : (-1) * x9 + ((-1) * x15 + 0) ≤ (-2000)) (f58 : 1 * x3 + ((-1) * x13 + 0) ≤ (-1)) (f59 : (-1) * x9 + ((-1) * x13 + 0) ≤ (-2000)) (f60 : 1 * x8 + ((-1) * x2 + 0) ≤ 0) (f61 : (-1) * x8 + 0 ≤ 0) (f62 : (-1) * x4 + 0 ≤ 0) (f64 : 1 * x3 + ((-1) * x13 + 0) ≤ (-1)) (f65 : (-1) * x9 + ((-1) * x13 + 0) ≤ (-2000)) (f66 : x8 ≤ 0) (f67 : 1 * x8 + ((-1) * x2 + 0) ≤ 0) (f68 : (-1) * x8 + 0 ≤ 0) (f69 : (-1) * x4 + 0 ≤ 0) (f71 : 1 * x8 + ((-1) * x2 + 0) ≤ 0) (f72 : (-1) * x8 + 0 ≤ 0) (f73 : (-1) * x4 + 0 ≤ 0) (kz_0_8 : 0 ≤ fault_0 ∧ fault_0 ≤ 5) (kz_0_11 : 0 ≤ pos_0 ∧ pos_0 ≤ 2000) (kz_0_12 : 0 ≤ kind_0 ∧ kind_0 ≤ 4) (kz_0_15 : 0 ≤ from_0 ∧ from_0 ≤ 2000) (ex2 : gx = 0 + (1 * x9 + 0)) (ex3 : 0 ≤ gx ∧ gx ≤ 2000) : (-1) * x4 + 0 ≤ 0 := by
  first | assumption | (clear f17; omega) | omega | grind
set_option maxHeartbeats 4000000 in
theorem vc_Mo_of_at_s5003_23_6 (x2 : Int) (x3 : Int) (x4 : Int) (x7 : Int) (x8 : Int) (x9 : Int) (x13 : Int) (x15 : Int) (x22 : Int) (x27 : Int) (fault_0 : Int) (from_0 : Int) (pos_0 : Int) (kind_0 : Int) (gx : Int) (k2 : 9 ≤ x2 ∧ x2 ≤ 9) (k3 : 0 ≤ x3 ∧ x3 ≤ 2000) (k4 : (-1) ≤ x4 ∧ x4 ≤ 48) (k7 : 9 ≤ x7 ∧ x7 ≤ 9) (k8 : (-2147483648) ≤ x8 ∧ x8 ≤ 0) (k9 : 0 ≤ x9 ∧ x9 ≤ 2000) (k13 : 0 ≤ x13 ∧ x13 ≤ 2000) (k15 : 0 ≤ x15 ∧ x15 ≤ 2000) (k22 : 10 ≤ x22 ∧ x22 ≤ 2147483647) (k27 : 0 ≤ x27 ∧ x27 ≤ 2000) (f0 : 1 * x3 + ((-1) * x27 + 0) ≤ (-1)) (f1 : (-1) * x9 + ((-1) * x27 + 0) ≤ (-2001)) (f2 : 1 * x22 + ((-1) * x2 + 0) ≤ 0) (f3 : (-1) * x22 + 0 ≤ 0) (f4 : 1 * x15 + ((-1) * x13 + 0) ≤ 0) (f5 : (-1) * x15 + (1 * x13 + 0) ≤ 0) (f6 : 1 * x3 + ((-1) * x15 + 0) ≤ (-1)) (f7 : (-1) * x9 + ((-1) * x15 + 0) ≤ (-2000)) (f8 : 1 * x3 + ((-1) * x13 + 0) ≤ (-1)) (f9 : (-1) * x9 + ((-1) * x13 + 0) ≤ (-2000)) (f10 : 1 * x8 + ((-1) * x2 + 0) ≤ 0) (f11 : (-1) * x8 + 0 ≤ 0) (f12 : (-1) * x4 + 0 ≤ 0) (f15 : (-1) * fault_0 + 0 ≤ (-1)) (f16 : 1 * from_0 + ((-1) * pos_0 + 0) ≤ 0) (f17 : ((kind_0 = 1) → (pos_0 ≤ (from_0 + 8))) ∧ ((kind_0 = 0) ∨ ((from_0 + 1) ≤ pos_0))) (f18 : 1 * x27 + ((-1) * from_0 + 0) ≤ 0) (f20 : 1 * x3 + ((-1) * x27 + 0) ≤ (-1)) (f21 : (-1) * x9 + ((-1) * x27 + 0) ≤ (-2001)) (f22 : 1 * x22 + ((-1) * x2 + 0) ≤ 0) (f23 : (-1) * x22 + 0 ≤ 0) (f24 : 1 * x15 + ((-1) * x13 + 0) ≤ 0) (f25 : (-1) * x15 + (1 * x13 + 0) ≤ 0) (f26 : 1 * x3 + ((-1) * x15 + 0) ≤ (-1)) (f27 : (-1) * x9 + ((-1) * x15 + 0) ≤ (-2000)) (f28 : 1 * x3 + ((-1) * x13 + 0) ≤ (-1)) (f29 : (-1) * x9 + ((-1) * x13 + 0) ≤ (-2000)) (f30 : 1 * x8 + ((-1) * x2 + 0) ≤ 0) (f31 : (-1) * x8 + 0 ≤ 0) (f32 : (-1) * x4 + 0 ≤ 0) (f34 : 1 * x15 + ((-1) * x13 + 0) ≤ 0) (f35 : (-1) * x15 + (1 * x13 + 0) ≤ 0) (f36 : 1 * x3 + ((-1) * x15 + 0) ≤ (-1)) (f37 : (-1) * x9 + ((-1) * x15 + 0) ≤ (-2000)) (f38 : 1 * x3 + ((-1) * x13 + 0) ≤ (-1)) (f39 : (-1) * x9 + ((-1) * x13 + 0) ≤ (-2000)) (f40 : 1 * x8 + ((-1) * x2 + 0) ≤ 0) (f41 : (-1) * x8 + 0 ≤ 0) (f42 : (-1) * x4 + 0 ≤ 0) (f44 : 1 * x15 + ((-1) * x13 + 0) ≤ 0) (f45 : (-1) * x15 + (1 * x13 + 0) ≤ 0) (f46 : 1 * x3 + ((-1) * x15 + 0) ≤ (-1)) (f47 : (-1) * x9 + ((-1) * x15 + 0) ≤ (-2000)) (f48 : 1 * x3 + ((-1) * x13 + 0) ≤ (-1)) (f49 : (-1) * x9 + ((-1) * x13 + 0) ≤ (-2000)) (f50 : 1 * x8 + ((-1) * x2 + 0) ≤ 0) (f51 : (-1) * x8 + 0 ≤ 0) (f52 : (-1) * x4 + 0 ≤ 0) (f54 : 1 * x15 + ((-1) * x13 + 0) ≤ 0) (f55 : (-1) * x15 + (1 * x13 + 0) ≤ 0) (f56 : 1 * x3 + ((-1) * x15 + 0) ≤ (-1)) (f57 : (-1) * x9 + ((-1) * x15 + 0) ≤ (-2000)) (f58 : 1 * x3 + ((-1) * x13 + 0) ≤ (-1)) (f59 : (-1) * x9 + ((-1) * x13 + 0) ≤ (-2000)) (f60 : 1 * x8 + ((-1) * x2 + 0) ≤ 0) (f61 : (-1) * x8 + 0 ≤ 0) (f62 : (-1) * x4 + 0 ≤ 0) (f64 : 1 * x3 + ((-1) * x13 + 0) ≤ (-1)) (f65 : (-1) * x9 + ((-1) * x13 + 0) ≤ (-2000)) (f66 : x8 ≤ 0) (f67 : 1 * x8 + ((-1) * x2 + 0) ≤ 0) (f68 : (-1) * x8 + 0 ≤ 0) (f69 : (-1) * x4 + 0 ≤ 0) (f71 : 1 * x8 + ((-1) * x2 + 0) ≤ 0) (f72 : (-1) * x8 + 0 ≤ 0) (f73 : (-1) * x4 + 0 ≤ 0) (kz_0_8 : 0 ≤ fault_0 ∧ fault_0 ≤ 5) (kz_0_11 : 0 ≤ pos_0 ∧ pos_0 ≤ 2000) (kz_0_12 : 0 ≤ kind_0 ∧ kind_0 ≤ 4) (kz_0_15 : 0 ≤ from_0 ∧ from_0 ≤ 2000) (ex2 : gx = 0 + (1 * x9 + 0)) (ex3 : 0 ≤ gx ∧ gx ≤ 2000) : (-1) * gx + ((-1) * pos_0 + 0) ≤ (-2001) := by
  first | assumption | (clear f17; omega) | omega | grind
def o_Mo_of_at_s5003_23 : or_T := (139, 28, [(0, (2, 0, 0, [165])), (2, (0, 9, 9, [])), (3, (0, 0, 2000, [])), (4, (0, -1, 48, [])), (5, (2, 0, 0, [165])), (7, (0, 9, 9, [])), (8, (0, -2147483648, 0, [])), (9, (0, 0, 2000, [])), (13, (0, 0, 2000, [])), (15, (0, 0, 2000, [])), (22, (0, 10, 2147483647, [])), (27, (0, 0, 2000, []))], [(23, [3, 27], [-1, 1, -1]), (23, [9, 27], [-2001, -1, -1]), (23, [22, 7], [0, 1, -1]), (23, [22], [0, -1]), (23, [15, 13], [0, 1, -1]), (23, [15, 13], [0, -1, 1]), (23, [3, 15], [-1, 1, -1]), (23, [9, 15], [-2000, -1, -1]), (23, [3, 13], [-1, 1, -1]), (23, [9, 13], [-2000, -1, -1]), (23, [8, 7], [0, 1, -1]), (23, [8], [0, -1]), (23, [4], [0, -1]), (24, [0, 5], []), (24, [2, 7], []), (20, [5], [30, -1, -1, 1, 8]), (20, [5, 5], [30, 0, 1, 1, 15, -1, 1, 11]), (20, [5], [50, 3, 0, 12, 11, 15, 2, 21, 4, 7, 1, 3, 2, 0, 12, 0, 1, 0, 3, 2, 0, 11, 4, 3, 2, 0, 15, 0, 8, 3, 7, 1, 3, 2, 0, 12, 0, 0, 0, 7, 4, 3, 2, 0, 15, 0, 1, 2, 0, 11]), (20, [27, 5], [30, 0, 1, 0, 0, -1, 1, 15]), (102, [27], [0, 165011, 165012, 165013, 165014, 165015]), (23, [3, 27], [-1, 1, -1]), (23, [9, 27], [-2001, -1, -1]), (23, [22, 7], [0, 1, -1]), (23, [22], [0, -1]), (23, [15, 13], [0, 1, -1]), (23, [15, 13], [0, -1, 1]), (23, [3, 15], [-1, 1, -1]), (23, [9, 15], [-2000, -1, -1]), (23, [3, 13], [-1, 1, -1]), (23, [9, 13], [-2000, -1, -1]), (23, [8, 7], [0, 1, -1]), (23, [8], [0, -1]), (23, [4], [0, -1]), (102, [25], [0, 165008, 165009]), (23, [15, 13], [0, 1, -1]), (23, [15, 13], [0, -1, 1]), (23, [3, 15], [-1, 1, -1]), (23, [9, 15], [-2000, -1, -1]), (23, [3, 13], [-1, 1, -1]), (23, [9, 13], [-2000, -1, -1]), (23, [8, 7], [0, 1, -1]), (23, [8], [0, -1]), (23, [4], [0, -1]), (102, [20], [0, 165008, 165009]), (23, [15, 13], [0, 1, -1]), (23, [15, 13], [0, -1, 1]), (23, [3, 15], [-1, 1, -1]), (23, [9, 15], [-2000, -1, -1]), (23, [3, 13], [-1, 1, -1]), (23, [9, 13], [-2000, -1, -1]), (23, [8, 7], [0, 1, -1]), (23, [8], [0, -1]), (23, [4], [0, -1]), (102, [15], [0, 165008, 165009, 165011, 165012, 165013, 165014, 165015]), (23, [15, 13], [0, 1, -1]), (23, [15, 13], [0, -1, 1]), (23, [3, 15], [-1, 1, -1]), (23, [9, 15], [-2000, -1, -1]), (23, [3, 13], [-1, 1, -1]), (23, [9, 13], [-2000, -1, -1]), (23, [8, 7], [0, 1, -1]), (23, [8], [0, -1]), (23, [4], [0, -1]), (102, [13], [0, 165011, 165012, 165013, 165014, 165015]), (23, [3, 13], [-1, 1, -1]), (23, [9, 13], [-2000, -1, -1]), (8, [8], [5]), (23, [8, 7], [0, 1, -1]), (23, [8], [0, -1]), (23, [4], [0, -1]), (102, [11], [0]), (23, [8, 7], [0, 1, -1]), (23, [8], [0, -1]), (23, [4], [0, -1])], [], [(0, 0, 2000, [])], [(20, [5, 5], [30, 0, 1, 1, 15, -1, 1, 11]), (20, [5], [50, 3, 0, 12, 11, 15, 2, 21, 4, 7, 1, 3, 2, 0, 12, 0, 1, 0, 3, 2, 0, 11, 4, 3, 2, 0, 15, 0, 8, 3, 7, 1, 3, 2, 0, 12, 0, 0, 0, 7, 4, 3, 2, 0, 15, 0, 1, 2, 0, 11]), (20, [3, 5], [30, -1, 1, 0, 0, -1, 1, 11]), (23, [22, 7], [0, 1, -1]), (23, [22], [0, -1]), (23, [4], [0, -1]), (20, [28, 5], [30, -2001, -1, 0, 0, -1, 1, 11]), (24, [0, 5], []), (24, [2, 7], [])], [(28, 9, 0, 0)], [])
theorem oo_Mo_of_at_s5003_23 {kA : Nat → ClassId} : or_ok PRD kA GG o_Mo_of_at_s5003_23 := by
  refine or_mk fun A ta ws vs hD hth hl => ?_
  intro t0 r0 t2 k2 t3 k3 t4 k4 t5 r5 t7 k7 t8 k8 t9 k9 t13 k13 t15 k15 t22 k22 t27 k27 f0 f1 f2 f3 f4 f5 f6 f7 f8 f9 f10 f11 f12 f13 f14 f15 f16 f17 f18 ta1 w1 le1 s1 f20 f21 f22 f23 f24 f25 f26 f27 f28 f29 f30 f31 f32 ta2 w2 le2 s2 f34 f35 f36 f37 f38 f39 f40 f41 f42 ta3 w3 le3 s3 f44 f45 f46 f47 f48 f49 f50 f51 f52 ta4 w4 le4 s4 f54 f55 f56 f57 f58 f59 f60 f61 f62 ta5 w5 le5 s5 f64 f65 f66 f67 f68 f69 ta6 w6 le6 s6 f71 f72 f73
  replace f0 := shm_211 f0
  replace f1 := shm_1895 f1
  replace f2 := shm_7 f2
  replace f3 := shm_1013 f3
  replace f4 := shm_7 f4
  replace f5 := shm_22 f5
  replace f6 := shm_211 f6
  replace f7 := shm_1894 f7
  replace f8 := shm_211 f8
  replace f9 := shm_1894 f9
  replace f10 := shm_7 f10
  replace f11 := shm_1013 f11
  replace f12 := shm_1013 f12
  replace f13 := shm_5 f13
  replace f14 := shm_5 f14
  replace f15 := shm_144 f15
  replace f16 := shm_1397 f16
  replace f17 := shm_1398 f17
  replace f18 := shm_1396 f18
  replace f20 := shm_211 f20
  replace f21 := shm_1895 f21
  replace f22 := shm_7 f22
  replace f23 := shm_1013 f23
  replace f24 := shm_7 f24
  replace f25 := shm_22 f25
  replace f26 := shm_211 f26
  replace f27 := shm_1894 f27
  replace f28 := shm_211 f28
  replace f29 := shm_1894 f29
  replace f30 := shm_7 f30
  replace f31 := shm_1013 f31
  replace f32 := shm_1013 f32
  replace f34 := shm_7 f34
  replace f35 := shm_22 f35
  replace f36 := shm_211 f36
  replace f37 := shm_1894 f37
  replace f38 := shm_211 f38
  replace f39 := shm_1894 f39
  replace f40 := shm_7 f40
  replace f41 := shm_1013 f41
  replace f42 := shm_1013 f42
  replace f44 := shm_7 f44
  replace f45 := shm_22 f45
  replace f46 := shm_211 f46
  replace f47 := shm_1894 f47
  replace f48 := shm_211 f48
  replace f49 := shm_1894 f49
  replace f50 := shm_7 f50
  replace f51 := shm_1013 f51
  replace f52 := shm_1013 f52
  replace f54 := shm_7 f54
  replace f55 := shm_22 f55
  replace f56 := shm_211 f56
  replace f57 := shm_1894 f57
  replace f58 := shm_211 f58
  replace f59 := shm_1894 f59
  replace f60 := shm_7 f60
  replace f61 := shm_1013 f61
  replace f62 := shm_1013 f62
  replace f64 := shm_211 f64
  replace f65 := shm_1894 f65
  replace f66 := shm_142 f66
  replace f67 := shm_7 f67
  replace f68 := shm_1013 f68
  replace f69 := shm_1013 f69
  replace f71 := shm_7 f71
  replace f72 := shm_1013 f72
  replace f73 := shm_1013 f73
  have q5 : n_v vs 5 = n_v vs 0 := f13.symm
  have q7 : n_v vs 7 = n_v vs 2 := f14.symm
  simp only [q7, q5] at f2 f10 f15 f16 f17 f18 f22 f30 f40 f50 f60 f67 f71
  have kz_0_8 := fdq_14 hD hth r0
  have kz_0_11 := fdq_273 hD hth r0
  have kz_0_12 := fdq_186 hD hth r0
  have kz_0_15 := fdq_274 hD hth r0
  obtain ⟨x, ex, hx⟩ := iv_ex (ta := ta) (lo := 0) (hi := 2000) (z := 0 + (1 * v_iv (n_v vs 9) + 0)) (by omega) (by omega) (by omega) (by omega)
  have ex2 : v_iv (Value.int x) = 0 + (1 * v_iv (n_v vs 9) + 0) := ex
  have ex3 : 0 ≤ v_iv (Value.int x) ∧ v_iv (Value.int x) ≤ 2000 := tv_rng hx
  have e_0 : n_v (vs ++ [Value.int x]) 0 = n_v vs 0 := n_v_old (by rw [hl]; decide)
  have e_2 : n_v (vs ++ [Value.int x]) 2 = n_v vs 2 := n_v_old (by rw [hl]; decide)
  have e_3 : n_v (vs ++ [Value.int x]) 3 = n_v vs 3 := n_v_old (by rw [hl]; decide)
  have e_4 : n_v (vs ++ [Value.int x]) 4 = n_v vs 4 := n_v_old (by rw [hl]; decide)
  have e_5 : n_v (vs ++ [Value.int x]) 5 = n_v vs 5 := n_v_old (by rw [hl]; decide)
  have e_7 : n_v (vs ++ [Value.int x]) 7 = n_v vs 7 := n_v_old (by rw [hl]; decide)
  have e_22 : n_v (vs ++ [Value.int x]) 22 = n_v vs 22 := n_v_old (by rw [hl]; decide)
  have e_28 : n_v (vs ++ [Value.int x]) 28 = Value.int x := n_v_new hl
  have nf0 : fc_1 PRD (20, [5, 5], [30, 0, 1, 1, 15, -1, 1, 11]) ws (vs ++ [Value.int x]) := by
    refine ⟨nf_inA hl rfl, sgq_1397 ?_⟩
    · show 1 * w_fi ws (n_v (vs ++ [Value.int x]) 5) 15 + ((-1) * w_fi ws (n_v (vs ++ [Value.int x]) 5) 11 + 0) ≤ 0
      simp only [e_5, q5]
      exact vc_Mo_of_at_s5003_23_0 (v_iv (n_v vs 2)) (v_iv (n_v vs 3)) (v_iv (n_v vs 4)) (v_iv (n_v vs 7)) (v_iv (n_v vs 8)) (v_iv (n_v vs 9)) (v_iv (n_v vs 13)) (v_iv (n_v vs 15)) (v_iv (n_v vs 22)) (v_iv (n_v vs 27)) (w_fi ws (n_v vs 0) 8) (w_fi ws (n_v vs 0) 15) (w_fi ws (n_v vs 0) 11) (w_fi ws (n_v vs 0) 12) (v_iv (Value.int x)) k2 k3 k4 k7 k8 k9 k13 k15 k22 k27 f0 f1 f2 f3 f4 f5 f6 f7 f8 f9 f10 f11 f12 f15 f16 f17 f18 f20 f21 f22 f23 f24 f25 f26 f27 f28 f29 f30 f31 f32 f34 f35 f36 f37 f38 f39 f40 f41 f42 f44 f45 f46 f47 f48 f49 f50 f51 f52 f54 f55 f56 f57 f58 f59 f60 f61 f62 f64 f65 f66 f67 f68 f69 f71 f72 f73 kz_0_8 kz_0_11 kz_0_12 kz_0_15 ex2 ex3
  have nf1 : fc_1 PRD (20, [5], [50, 3, 0, 12, 11, 15, 2, 21, 4, 7, 1, 3, 2, 0, 12, 0, 1, 0, 3, 2, 0, 11, 4, 3, 2, 0, 15, 0, 8, 3, 7, 1, 3, 2, 0, 12, 0, 0, 0, 7, 4, 3, 2, 0, 15, 0, 1, 2, 0, 11]) ws (vs ++ [Value.int x]) := by
    refine ⟨nf_inA hl rfl, sgq_1398 ?_⟩
    · show ((w_fi ws (n_v (vs ++ [Value.int x]) 5) 12 = 1) → (w_fi ws (n_v (vs ++ [Value.int x]) 5) 11 ≤ (w_fi ws (n_v (vs ++ [Value.int x]) 5) 15 + 8))) ∧ ((w_fi ws (n_v (vs ++ [Value.int x]) 5) 12 = 0) ∨ ((w_fi ws (n_v (vs ++ [Value.int x]) 5) 15 + 1) ≤ w_fi ws (n_v (vs ++ [Value.int x]) 5) 11))
      simp only [e_5, q5]
      exact vc_Mo_of_at_s5003_23_1 (v_iv (n_v vs 2)) (v_iv (n_v vs 3)) (v_iv (n_v vs 4)) (v_iv (n_v vs 7)) (v_iv (n_v vs 8)) (v_iv (n_v vs 9)) (v_iv (n_v vs 13)) (v_iv (n_v vs 15)) (v_iv (n_v vs 22)) (v_iv (n_v vs 27)) (w_fi ws (n_v vs 0) 8) (w_fi ws (n_v vs 0) 15) (w_fi ws (n_v vs 0) 11) (w_fi ws (n_v vs 0) 12) (v_iv (Value.int x)) k2 k3 k4 k7 k8 k9 k13 k15 k22 k27 f0 f1 f2 f3 f4 f5 f6 f7 f8 f9 f10 f11 f12 f15 f16 f17 f18 f20 f21 f22 f23 f24 f25 f26 f27 f28 f29 f30 f31 f32 f34 f35 f36 f37 f38 f39 f40 f41 f42 f44 f45 f46 f47 f48 f49 f50 f51 f52 f54 f55 f56 f57 f58 f59 f60 f61 f62 f64 f65 f66 f67 f68 f69 f71 f72 f73 kz_0_8 kz_0_11 kz_0_12 kz_0_15 ex2 ex3
  have nf2 : fc_1 PRD (20, [3, 5], [30, -1, 1, 0, 0, -1, 1, 11]) ws (vs ++ [Value.int x]) := by
    refine ⟨nf_inA hl rfl, sgq_1891 ?_⟩
    · show 1 * v_iv (n_v (vs ++ [Value.int x]) 3) + ((-1) * w_fi ws (n_v (vs ++ [Value.int x]) 5) 11 + 0) ≤ (-1)
      simp only [e_3, e_5, q5]
      exact vc_Mo_of_at_s5003_23_2 (v_iv (n_v vs 2)) (v_iv (n_v vs 3)) (v_iv (n_v vs 4)) (v_iv (n_v vs 7)) (v_iv (n_v vs 8)) (v_iv (n_v vs 9)) (v_iv (n_v vs 13)) (v_iv (n_v vs 15)) (v_iv (n_v vs 22)) (v_iv (n_v vs 27)) (w_fi ws (n_v vs 0) 8) (w_fi ws (n_v vs 0) 15) (w_fi ws (n_v vs 0) 11) (w_fi ws (n_v vs 0) 12) (v_iv (Value.int x)) k2 k3 k4 k7 k8 k9 k13 k15 k22 k27 f0 f1 f2 f3 f4 f5 f6 f7 f8 f9 f10 f11 f12 f15 f16 f17 f18 f20 f21 f22 f23 f24 f25 f26 f27 f28 f29 f30 f31 f32 f34 f35 f36 f37 f38 f39 f40 f41 f42 f44 f45 f46 f47 f48 f49 f50 f51 f52 f54 f55 f56 f57 f58 f59 f60 f61 f62 f64 f65 f66 f67 f68 f69 f71 f72 f73 kz_0_8 kz_0_11 kz_0_12 kz_0_15 ex2 ex3
  have nf3 : fc_1 PRD (23, [22, 7], [0, 1, -1]) ws (vs ++ [Value.int x]) := by
    refine ⟨nf_inA hl rfl, sgq_7 ?_⟩
    · show 1 * v_iv (n_v (vs ++ [Value.int x]) 22) + ((-1) * v_iv (n_v (vs ++ [Value.int x]) 7) + 0) ≤ 0
      simp only [e_7, e_22, q7]
      exact vc_Mo_of_at_s5003_23_3 (v_iv (n_v vs 2)) (v_iv (n_v vs 3)) (v_iv (n_v vs 4)) (v_iv (n_v vs 7)) (v_iv (n_v vs 8)) (v_iv (n_v vs 9)) (v_iv (n_v vs 13)) (v_iv (n_v vs 15)) (v_iv (n_v vs 22)) (v_iv (n_v vs 27)) (w_fi ws (n_v vs 0) 8) (w_fi ws (n_v vs 0) 15) (w_fi ws (n_v vs 0) 11) (w_fi ws (n_v vs 0) 12) (v_iv (Value.int x)) k2 k3 k4 k7 k8 k9 k13 k15 k22 k27 f0 f1 f2 f3 f4 f5 f6 f7 f8 f9 f10 f11 f12 f15 f16 f17 f18 f20 f21 f22 f23 f24 f25 f26 f27 f28 f29 f30 f31 f32 f34 f35 f36 f37 f38 f39 f40 f41 f42 f44 f45 f46 f47 f48 f49 f50 f51 f52 f54 f55 f56 f57 f58 f59 f60 f61 f62 f64 f65 f66 f67 f68 f69 f71 f72 f73 kz_0_8 kz_0_11 kz_0_12 kz_0_15 ex2 ex3
  have nf4 : fc_1 PRD (23, [22], [0, -1]) ws (vs ++ [Value.int x]) := by
    refine ⟨nf_inA hl rfl, sgq_1013 ?_⟩
    · show (-1) * v_iv (n_v (vs ++ [Value.int x]) 22) + 0 ≤ 0
      rw [e_22]
      exact vc_Mo_of_at_s5003_23_4 (v_iv (n_v vs 2)) (v_iv (n_v vs 3)) (v_iv (n_v vs 4)) (v_iv (n_v vs 7)) (v_iv (n_v vs 8)) (v_iv (n_v vs 9)) (v_iv (n_v vs 13)) (v_iv (n_v vs 15)) (v_iv (n_v vs 22)) (v_iv (n_v vs 27)) (w_fi ws (n_v vs 0) 8) (w_fi ws (n_v vs 0) 15) (w_fi ws (n_v vs 0) 11) (w_fi ws (n_v vs 0) 12) (v_iv (Value.int x)) k2 k3 k4 k7 k8 k9 k13 k15 k22 k27 f0 f1 f2 f3 f4 f5 f6 f7 f8 f9 f10 f11 f12 f15 f16 f17 f18 f20 f21 f22 f23 f24 f25 f26 f27 f28 f29 f30 f31 f32 f34 f35 f36 f37 f38 f39 f40 f41 f42 f44 f45 f46 f47 f48 f49 f50 f51 f52 f54 f55 f56 f57 f58 f59 f60 f61 f62 f64 f65 f66 f67 f68 f69 f71 f72 f73 kz_0_8 kz_0_11 kz_0_12 kz_0_15 ex2 ex3
  have nf5 : fc_1 PRD (23, [4], [0, -1]) ws (vs ++ [Value.int x]) := by
    refine ⟨nf_inA hl rfl, sgq_1013 ?_⟩
    · show (-1) * v_iv (n_v (vs ++ [Value.int x]) 4) + 0 ≤ 0
      rw [e_4]
      exact vc_Mo_of_at_s5003_23_5 (v_iv (n_v vs 2)) (v_iv (n_v vs 3)) (v_iv (n_v vs 4)) (v_iv (n_v vs 7)) (v_iv (n_v vs 8)) (v_iv (n_v vs 9)) (v_iv (n_v vs 13)) (v_iv (n_v vs 15)) (v_iv (n_v vs 22)) (v_iv (n_v vs 27)) (w_fi ws (n_v vs 0) 8) (w_fi ws (n_v vs 0) 15) (w_fi ws (n_v vs 0) 11) (w_fi ws (n_v vs 0) 12) (v_iv (Value.int x)) k2 k3 k4 k7 k8 k9 k13 k15 k22 k27 f0 f1 f2 f3 f4 f5 f6 f7 f8 f9 f10 f11 f12 f15 f16 f17 f18 f20 f21 f22 f23 f24 f25 f26 f27 f28 f29 f30 f31 f32 f34 f35 f36 f37 f38 f39 f40 f41 f42 f44 f45 f46 f47 f48 f49 f50 f51 f52 f54 f55 f56 f57 f58 f59 f60 f61 f62 f64 f65 f66 f67 f68 f69 f71 f72 f73 kz_0_8 kz_0_11 kz_0_12 kz_0_15 ex2 ex3
  have nf6 : fc_1 PRD (20, [28, 5], [30, -2001, -1, 0, 0, -1, 1, 11]) ws (vs ++ [Value.int x]) := by
    refine ⟨nf_inA hl rfl, sgq_1896 ?_⟩
    · show (-1) * v_iv (n_v (vs ++ [Value.int x]) 28) + ((-1) * w_fi ws (n_v (vs ++ [Value.int x]) 5) 11 + 0) ≤ (-2001)
      simp only [e_5, e_28, q5]
      exact vc_Mo_of_at_s5003_23_6 (v_iv (n_v vs 2)) (v_iv (n_v vs 3)) (v_iv (n_v vs 4)) (v_iv (n_v vs 7)) (v_iv (n_v vs 8)) (v_iv (n_v vs 9)) (v_iv (n_v vs 13)) (v_iv (n_v vs 15)) (v_iv (n_v vs 22)) (v_iv (n_v vs 27)) (w_fi ws (n_v vs 0) 8) (w_fi ws (n_v vs 0) 15) (w_fi ws (n_v vs 0) 11) (w_fi ws (n_v vs 0) 12) (v_iv (Value.int x)) k2 k3 k4 k7 k8 k9 k13 k15 k22 k27 f0 f1 f2 f3 f4 f5 f6 f7 f8 f9 f10 f11 f12 f15 f16 f17 f18 f20 f21 f22 f23 f24 f25 f26 f27 f28 f29 f30 f31 f32 f34 f35 f36 f37 f38 f39 f40 f41 f42 f44 f45 f46 f47 f48 f49 f50 f51 f52 f54 f55 f56 f57 f58 f59 f60 f61 f62 f64 f65 f66 f67 f68 f69 f71 f72 f73 kz_0_8 kz_0_11 kz_0_12 kz_0_15 ex2 ex3
  have nf7 : fc_1 PRD (24, [0, 5], []) ws (vs ++ [Value.int x]) := by
    refine ⟨nf_inA hl rfl, sgq_5 ?_⟩
    · show n_v (vs ++ [Value.int x]) 0 = n_v (vs ++ [Value.int x]) 5
      first | rfl | simp only [e_0, e_5, q5, q7]
  have nf8 : fc_1 PRD (24, [2, 7], []) ws (vs ++ [Value.int x]) := by
    refine ⟨nf_inA hl rfl, sgq_5 ?_⟩
    · show n_v (vs ++ [Value.int x]) 2 = n_v (vs ++ [Value.int x]) 7
      first | rfl | simp only [e_2, e_7, q5, q7]
  obtain ⟨x0, e0, _, _⟩ := tv_int t9 rfl
  have e1 : v_iv (n_v vs 9) = x0.toInt := by rw [e0]; rfl
  have ho : sy_ofs (vs ++ [Value.int x]) (28, 9, 0, 0) := by
    refine ⟨x, x0, by rw [List.getElem?_append_right (by rw [hl]; decide), hl]; rfl, ?_, ?_, ?_⟩
    · rw [List.getElem?_append_left (by rw [hl]; decide)]; exact n_v_some (by rw [hl]; decide) e0
    · show x0.toInt + 0 ≤ x.toInt; omega
    · show x.toInt ≤ x0.toInt + 0; omega
  exact ⟨(fun _ h => (by cases h)), [Value.int x], ag_one hx, List.forall_mem_cons.mpr ⟨⟨show (20 : Nat) < 100 from by decide, nf0⟩, List.forall_mem_cons.mpr ⟨⟨show (20 : Nat) < 100 from by decide, nf1⟩, List.forall_mem_cons.mpr ⟨⟨show (20 : Nat) < 100 from by decide, nf2⟩, List.forall_mem_cons.mpr ⟨⟨show (23 : Nat) < 100 from by decide, nf3⟩, List.forall_mem_cons.mpr ⟨⟨show (23 : Nat) < 100 from by decide, nf4⟩, List.forall_mem_cons.mpr ⟨⟨show (23 : Nat) < 100 from by decide, nf5⟩, List.forall_mem_cons.mpr ⟨⟨show (20 : Nat) < 100 from by decide, nf6⟩, List.forall_mem_cons.mpr ⟨⟨show (24 : Nat) < 100 from by decide, nf7⟩, List.forall_mem_cons.mpr ⟨⟨show (24 : Nat) < 100 from by decide, nf8⟩, (fun _ h => (by cases h))⟩⟩⟩⟩⟩⟩⟩⟩⟩, List.forall_mem_cons.mpr ⟨ho, (fun _ h => (by cases h))⟩⟩
set_option maxHeartbeats 4000000 in
theorem vc_Mo_of_at_s5003_24_0 (x2 : Int) (x3 : Int) (x7 : Int) (x8 : Int) (x9 : Int) (x13 : Int) (x15 : Int) (x21 : Int) (x22 : Int) (value_0 : Int) (fault_0 : Int) (from_0 : Int) (pos_0 : Int) (kind_0 : Int) (k2 : 9 ≤ x2 ∧ x2 ≤ 9) (k3 : 0 ≤ x3 ∧ x3 ≤ 2000) (k7 : 9 ≤ x7 ∧ x7 ≤ 9) (k8 : (-2147483648) ≤ x8 ∧ x8 ≤ 0) (k9 : 0 ≤ x9 ∧ x9 ≤ 2000) (k13 : 0 ≤ x13 ∧ x13 ≤ 2000) (k15 : 0 ≤ x15 ∧ x15 ≤ 2000) (k21 : 0 ≤ x21 ∧ x21 ≤ 0) (k22 : 1 ≤ x22 ∧ x22 ≤ 9) (g0 : x22 = value_0) (f1 : x21 ≤ 0) (g2 : x21 = fault_0) (f3 : x21 = 0) (f4 : 1 * x15 + ((-1) * x13 + 0) ≤ 0) (f5 : (-1) * x15 + (1 * x13 + 0) ≤ 0) (f6 : 1 * x3 + ((-1) * x15 + 0) ≤ (-1)) (f7 : (-1) * x9 + ((-1) * x15 + 0) ≤ (-2000)) (f8 : 1 * x3 + ((-1) * x13 + 0) ≤ (-1)) (f9 : (-1) * x9 + ((-1) * x13 + 0) ≤ (-2000)) (f10 : 1 * x8 + ((-1) * x2 + 0) ≤ 0) (f11 : (-1) * x8 + 0 ≤ 0) (f14 : 1 * from_0 + ((-1) * pos_0 + 0) ≤ 0) (f15 : ((kind_0 = 1) → (pos_0 ≤ (from_0 + 8))) ∧ ((kind_0 = 0) ∨ ((from_0 + 1) ≤ pos_0))) (f16 : 1 * x15 + ((-1) * pos_0 + 0) ≤ 0) (f17 : (-1) * fault_0 + 0 ≤ (-1)) (f19 : 1 * x15 + ((-1) * x13 + 0) ≤ 0) (f20 : (-1) * x15 + (1 * x13 + 0) ≤ 0) (f21 : 1 * x3 + ((-1) * x15 + 0) ≤ (-1)) (f22 : (-1) * x9 + ((-1) * x15 + 0) ≤ (-2000)) (f23 : 1 * x3 + ((-1) * x13 + 0) ≤ (-1)) (f24 : (-1) * x9 + ((-1) * x13 + 0) ≤ (-2000)) (f25 : 1 * x8 + ((-1) * x2 + 0) ≤ 0) (f26 : (-1) * x8 + 0 ≤ 0) (f28 : 1 * x15 + ((-1) * x13 + 0) ≤ 0) (f29 : (-1) * x15 + (1 * x13 + 0) ≤ 0) (f30 : 1 * x3 + ((-1) * x15 + 0) ≤ (-1)) (f31 : (-1) * x9 + ((-1) * x15 + 0) ≤ (-2000)) (f32 : 1 * x3 + ((-1) * x13 + 0) ≤ (-1)) (f33 : (-1) * x9 + ((-1) * x13 + 0) ≤ (-2000)) (f34 : 1 * x8 + ((-1) * x2 + 0) ≤ 0) (f35 : (-1) * x8 + 0 ≤ 0) (f37 : 1 * x3 + ((-1) * x13 + 0) ≤ (-1)) (f38 : (-1) * x9 + ((-1) * x13 + 0) ≤ (-2000)) (f39 : x8 ≤ 0) (f40 : 1 * x8 + ((-1) * x2 + 0) ≤ 0) (f41 : (-1) * x8 + 0 ≤ 0) (f43 : 1 * x8 + ((-1) * x2 + 0) ≤ 0) (f44 : (-1) * x8 + 0 ≤ 0) (kz_0_8 : 0 ≤ fault_0 ∧ fault_0 ≤ 5) (kz_0_11 : 0 ≤ pos_0 ∧ pos_0 ≤ 2000) (kz_0_12 : 0 ≤ kind_0 ∧ kind_0 ≤ 4) (kz_0_14 : (-2147483648) ≤ value_0 ∧ value_0 ≤ 2147483647) (kz_0_15 : 0 ≤ from_0 ∧ from_0 ≤ 2000) : 1 * x22 + ((-1) * x2 + 0) ≤ 0 := by
  first | assumption | (clear f15; omega) | omega | grind
set_option maxHeartbeats 4000000 in
theorem vc_Mo_of_at_s5003_24_1 (x2 : Int) (x3 : Int) (x7 : Int) (x8 : Int) (x9 : Int) (x13 : Int) (x15 : Int) (x21 : Int) (x22 : Int) (value_0 : Int) (fault_0 : Int) (from_0 : Int) (pos_0 : Int) (kind_0 : Int) (k2 : 9 ≤ x2 ∧ x2 ≤ 9) (k3 : 0 ≤ x3 ∧ x3 ≤ 2000) (k7 : 9 ≤ x7 ∧ x7 ≤ 9) (k8 : (-2147483648) ≤ x8 ∧ x8 ≤ 0) (k9 : 0 ≤ x9 ∧ x9 ≤ 2000) (k13 : 0 ≤ x13 ∧ x13 ≤ 2000) (k15 : 0 ≤ x15 ∧ x15 ≤ 2000) (k21 : 0 ≤ x21 ∧ x21 ≤ 0) (k22 : 1 ≤ x22 ∧ x22 ≤ 9) (g0 : x22 = value_0) (f1 : x21 ≤ 0) (g2 : x21 = fault_0) (f3 : x21 = 0) (f4 : 1 * x15 + ((-1) * x13 + 0) ≤ 0) (f5 : (-1) * x15 + (1 * x13 + 0) ≤ 0) (f6 : 1 * x3 + ((-1) * x15 + 0) ≤ (-1)) (f7 : (-1) * x9 + ((-1) * x15 + 0) ≤ (-2000)) (f8 : 1 * x3 + ((-1) * x13 + 0) ≤ (-1)) (f9 : (-1) * x9 + ((-1) * x13 + 0) ≤ (-2000)) (f10 : 1 * x8 + ((-1) * x2 + 0) ≤ 0) (f11 : (-1) * x8 + 0 ≤ 0) (f14 : 1 * from_0 + ((-1) * pos_0 + 0) ≤ 0) (f15 : ((kind_0 = 1) → (pos_0 ≤ (from_0 + 8))) ∧ ((kind_0 = 0) ∨ ((from_0 + 1) ≤ pos_0))) (f16 : 1 * x15 + ((-1) * pos_0 + 0) ≤ 0) (f17 : (-1) * fault_0 + 0 ≤ (-1)) (f19 : 1 * x15 + ((-1) * x13 + 0) ≤ 0) (f20 : (-1) * x15 + (1 * x13 + 0) ≤ 0) (f21 : 1 * x3 + ((-1) * x15 + 0) ≤ (-1)) (f22 : (-1) * x9 + ((-1) * x15 + 0) ≤ (-2000)) (f23 : 1 * x3 + ((-1) * x13 + 0) ≤ (-1)) (f24 : (-1) * x9 + ((-1) * x13 + 0) ≤ (-2000)) (f25 : 1 * x8 + ((-1) * x2 + 0) ≤ 0) (f26 : (-1) * x8 + 0 ≤ 0) (f28 : 1 * x15 + ((-1) * x13 + 0) ≤ 0) (f29 : (-1) * x15 + (1 * x13 + 0) ≤ 0) (f30 : 1 * x3 + ((-1) * x15 + 0) ≤ (-1)) (f31 : (-1) * x9 + ((-1) * x15 + 0) ≤ (-2000)) (f32 : 1 * x3 + ((-1) * x13 + 0) ≤ (-1)) (f33 : (-1) * x9 + ((-1) * x13 + 0) ≤ (-2000)) (f34 : 1 * x8 + ((-1) * x2 + 0) ≤ 0) (f35 : (-1) * x8 + 0 ≤ 0) (f37 : 1 * x3 + ((-1) * x13 + 0) ≤ (-1)) (f38 : (-1) * x9 + ((-1) * x13 + 0) ≤ (-2000)) (f39 : x8 ≤ 0) (f40 : 1 * x8 + ((-1) * x2 + 0) ≤ 0) (f41 : (-1) * x8 + 0 ≤ 0) (f43 : 1 * x8 + ((-1) * x2 + 0) ≤ 0) (f44 : (-1) * x8 + 0 ≤ 0) (kz_0_8 : 0 ≤ fault_0 ∧ fault_0 ≤ 5) (kz_0_11 : 0 ≤ pos_0 ∧ pos_0 ≤ 2000) (kz_0_12 : 0 ≤ kind_0 ∧ kind_0 ≤ 4) (kz_0_14 : (-2147483648) ≤ value_0 ∧ value_0 ≤ 2147483647) (kz_0_15 : 0 ≤ from_0 ∧ from_0 ≤ 2000) : (-1) * x22 + 0 ≤ 0 := by
  first | assumption | (clear f15; omega) | omega | grind
def o_Mo_of_at_s5003_24 : or_T := (135, 25, [(0, (2, 0, 0, [165])), (2, (0, 9, 9, [])), (3, (0, 0, 2000, [])), (5, (2, 0, 0, [165])), (7, (0, 9, 9, [])), (8, (0, -2147483648, 0, [])), (9, (0, 0, 2000, [])), (13, (0, 0, 2000, [])), (15, (0, 0, 2000, [])), (21, (0, 0, 0, [])), (22, (0, 1, 9, []))], [(9, [22, 5], [14]), (8, [21], [5]), (9, [21, 5], [8]), (8, [21], [0]), (23, [15, 13], [0, 1, -1]), (23, [15, 13], [0, -1, 1]), (23, [3, 15], [-1, 1, -1]), (23, [9, 15], [-2000, -1, -1]), (23, [3, 13], [-1, 1, -1]), (23, [9, 13], [-2000, -1, -1]), (23, [8, 7], [0, 1, -1]), (23, [8], [0, -1]), (24, [0, 5], []), (24, [2, 7], []), (20, [5, 5], [30, 0, 1, 1, 15, -1, 1, 11]), (20, [5], [50, 3, 0, 12, 11, 15, 2, 21, 4, 7, 1, 3, 2, 0, 12, 0, 1, 0, 3, 2, 0, 11, 4, 3, 2, 0, 15, 0, 8, 3, 7, 1, 3, 2, 0, 12, 0, 0, 0, 7, 4, 3, 2, 0, 15, 0, 1, 2, 0, 11]), (20, [15, 5], [30, 0, 1, 0, 0, -1, 1, 11]), (20, [5], [30, -1, -1, 1, 8]), (102, [20], [0, 165008, 165009]), (23, [15, 13], [0, 1, -1]), (23, [15, 13], [0, -1, 1]), (23, [3, 15], [-1, 1, -1]), (23, [9, 15], [-2000, -1, -1]), (23, [3, 13], [-1, 1, -1]), (23, [9, 13], [-2000, -1, -1]), (23, [8, 7], [0, 1, -1]), (23, [8], [0, -1]), (102, [15], [0, 165008, 165009, 165011, 165012, 165013, 165014, 165015]), (23, [15, 13], [0, 1, -1]), (23, [15, 13], [0, -1, 1]), (23, [3, 15], [-1, 1, -1]), (23, [9, 15], [-2000, -1, -1]), (23, [3, 13], [-1, 1, -1]), (23, [9, 13], [-2000, -1, -1]), (23, [8, 7], [0, 1, -1]), (23, [8], [0, -1]), (102, [13], [0, 165011, 165012, 165013, 165014, 165015]), (23, [3, 13], [-1, 1, -1]), (23, [9, 13], [-2000, -1, -1]), (8, [8], [5]), (23, [8, 7], [0, 1, -1]), (23, [8], [0, -1]), (102, [11], [0]), (23, [8, 7], [0, 1, -1]), (23, [8], [0, -1])], [], [], [(23, [22, 7], [0, 1, -1]), (23, [22], [0, -1])], [], [])
theorem oo_Mo_of_at_s5003_24 {kA : Nat → ClassId} : or_ok PRD kA GG o_Mo_of_at_s5003_24 := by
  refine or_mk fun A ta ws vs hD hth hl => ?_
  intro t0 r0 t2 k2 t3 k3 t5 r5 t7 k7 t8 k8 t9 k9 t13 k13 t15 k15 t21 k21 t22 k22 f0 f1 f2 f3 f4 f5 f6 f7 f8 f9 f10 f11 f12 f13 f14 f15 f16 f17 ta1 w1 le1 s1 f19 f20 f21 f22 f23 f24 f25 f26 ta2 w2 le2 s2 f28 f29 f30 f31 f32 f33 f34 f35 ta3 w3 le3 s3 f37 f38 f39 f40 f41 ta4 w4 le4 s4 f43 f44
  replace f0 := shm_116 f0
  replace f1 := shm_142 f1
  replace f2 := shm_143 f2
  replace f3 := shm_210 f3
  replace f4 := shm_7 f4
  replace f5 := shm_22 f5
  replace f6 := shm_211 f6
  replace f7 := shm_1894 f7
  replace f8 := shm_211 f8
  replace f9 := shm_1894 f9
  replace f10 := shm_7 f10
  replace f11 := shm_1013 f11
  replace f12 := shm_5 f12
  replace f13 := shm_5 f13
  replace f14 := shm_1397 f14
  replace f15 := shm_1398 f15
  replace f16 := shm_1395 f16
  replace f17 := shm_144 f17
  replace f19 := shm_7 f19
  replace f20 := shm_22 f20
  replace f21 := shm_211 f21
  replace f22 := shm_1894 f22
  replace f23 := shm_211 f23
  replace f24 := shm_1894 f24
  replace f25 := shm_7 f25
  replace f26 := shm_1013 f26
  replace f28 := shm_7 f28
  replace f29 := shm_22 f29
  replace f30 := shm_211 f30
  replace f31 := shm_1894 f31
  replace f32 := shm_211 f32
  replace f33 := shm_1894 f33
  replace f34 := shm_7 f34
  replace f35 := shm_1013 f35
  replace f37 := shm_211 f37
  replace f38 := shm_1894 f38
  replace f39 := shm_142 f39
  replace f40 := shm_7 f40
  replace f41 := shm_1013 f41
  replace f43 := shm_7 f43
  replace f44 := shm_1013 f44
  have q5 : n_v vs 5 = n_v vs 0 := f12.symm
  have q7 : n_v vs 7 = n_v vs 2 := f13.symm
  simp only [q5, q7] at f0 f2 f10 f14 f15 f16 f17 f25 f34 f40 f43
  have g0 : v_iv (n_v vs 22) = w_fi ws (n_v vs 0) 14 := congrArg v_iv f0
  have g2 : v_iv (n_v vs 21) = w_fi ws (n_v vs 0) 8 := congrArg v_iv f2
  have kz_0_8 := fdq_14 hD hth r0
  have kz_0_11 := fdq_273 hD hth r0
  have kz_0_12 := fdq_186 hD hth r0
  have kz_0_14 := fdq_311 hD hth r0
  have kz_0_15 := fdq_274 hD hth r0
  have nf0 : fc_1 PRD (23, [22, 7], [0, 1, -1]) ws (vs) := by
    refine ⟨nf_in hl rfl, sgq_7 ?_⟩
    · show 1 * v_iv (n_v vs 22) + ((-1) * v_iv (n_v vs 7) + 0) ≤ 0
      rw [q7]
      exact vc_Mo_of_at_s5003_24_0 (v_iv (n_v vs 2)) (v_iv (n_v vs 3)) (v_iv (n_v vs 7)) (v_iv (n_v vs 8)) (v_iv (n_v vs 9)) (v_iv (n_v vs 13)) (v_iv (n_v vs 15)) (v_iv (n_v vs 21)) (v_iv (n_v vs 22)) (w_fi ws (n_v vs 0) 14) (w_fi ws (n_v vs 0) 8) (w_fi ws (n_v vs 0) 15) (w_fi ws (n_v vs 0) 11) (w_fi ws (n_v vs 0) 12) k2 k3 k7 k8 k9 k13 k15 k21 k22 g0 f1 g2 f3 f4 f5 f6 f7 f8 f9 f10 f11 f14 f15 f16 f17 f19 f20 f21 f22 f23 f24 f25 f26 f28 f29 f30 f31 f32 f33 f34 f35 f37 f38 f39 f40 f41 f43 f44 kz_0_8 kz_0_11 kz_0_12 kz_0_14 kz_0_15
  have nf1 : fc_1 PRD (23, [22], [0, -1]) ws (vs) := ⟨nf_in hl rfl, sgq_1013 (vc_Mo_of_at_s5003_24_1 (v_iv (n_v vs 2)) (v_iv (n_v vs 3)) (v_iv (n_v vs 7)) (v_iv (n_v vs 8)) (v_iv (n_v vs 9)) (v_iv (n_v vs 13)) (v_iv (n_v vs 15)) (v_iv (n_v vs 21)) (v_iv (n_v vs 22)) (w_fi ws (n_v vs 0) 14) (w_fi ws (n_v vs 0) 8) (w_fi ws (n_v vs 0) 15) (w_fi ws (n_v vs 0) 11) (w_fi ws (n_v vs 0) 12) k2 k3 k7 k8 k9 k13 k15 k21 k22 g0 f1 g2 f3 f4 f5 f6 f7 f8 f9 f10 f11 f14 f15 f16 f17 f19 f20 f21 f22 f23 f24 f25 f26 f28 f29 f30 f31 f32 f33 f34 f35 f37 f38 f39 f40 f41 f43 f44 kz_0_8 kz_0_11 kz_0_12 kz_0_14 kz_0_15)⟩
  refine ⟨(fun _ h => (by cases h)), [], trivial, ?_, (fun _ h => (by cases h))⟩
  rw [List.append_nil]
  exact List.forall_mem_cons.mpr ⟨⟨show (23 : Nat) < 100 from by decide, nf0⟩, List.forall_mem_cons.mpr ⟨⟨show (23 : Nat) < 100 from by decide, nf1⟩, (fun _ h => (by cases h))⟩⟩
set_option maxHeartbeats 4000000 in
theorem vc_Mo_of_at_s5003_25_0 (x2 : Int) (x3 : Int) (x7 : Int) (x9 : Int) (x13 : Int) (x15 : Int) (x21 : Int) (fault_0 : Int) (from_0 : Int) (pos_0 : Int) (kind_0 : Int) (gx : Int) (k2 : 9 ≤ x2 ∧ x2 ≤ 9) (k3 : 0 ≤ x3 ∧ x3 ≤ 2000) (k7 : 9 ≤ x7 ∧ x7 ≤ 9) (k9 : 0 ≤ x9 ∧ x9 ≤ 2000) (k13 : 0 ≤ x13 ∧ x13 ≤ 2000) (k15 : 0 ≤ x15 ∧ x15 ≤ 2000) (k21 : 0 ≤ x21 ∧ x21 ≤ 0) (f0 : x21 ≤ 0) (g1 : x21 = fault_0) (f2 : x21 = 0) (f3 : 1 * x15 + ((-1) * x13 + 0) ≤ 0) (f4 : (-1) * x15 + (1 * x13 + 0) ≤ 0) (f5 : 1 * x3 + ((-1) * x15 + 0) ≤ (-1)) (f6 : (-1) * x9 + ((-1) * x15 + 0) ≤ (-2000)) (f7 : 1 * x3 + ((-1) * x13 + 0) ≤ (-1)) (f8 : (-1) * x9 + ((-1) * x13 + 0) ≤ (-2000)) (f11 : 1 * from_0 + ((-1) * pos_0 + 0) ≤ 0) (f12 : ((kind_0 = 1) → (pos_0 ≤ (from_0 + 8))) ∧ ((kind_0 = 0) ∨ ((from_0 + 1) ≤ pos_0))) (f13 : 1 * x15 + ((-1) * pos_0 + 0) ≤ 0) (f14 : (-1) * fault_0 + 0 ≤ (-1)) (f16 : 1 * x15 + ((-1) * x13 + 0) ≤ 0) (f17 : (-1) * x15 + (1 * x13 + 0) ≤ 0) (f18 : 1 * x3 + ((-1) * x15 + 0) ≤ (-1)) (f19 : (-1) * x9 + ((-1) * x15 + 0) ≤ (-2000)) (f20 : 1 * x3 + ((-1) * x13 + 0) ≤ (-1)) (f21 : (-1) * x9 + ((-1) * x13 + 0) ≤ (-2000)) (f23 : 1 * x15 + ((-1) * x13 + 0) ≤ 0) (f24 : (-1) * x15 + (1 * x13 + 0) ≤ 0) (f25 : 1 * x3 + ((-1) * x15 + 0) ≤ (-1)) (f26 : (-1) * x9 + ((-1) * x15 + 0) ≤ (-2000)) (f27 : 1 * x3 + ((-1) * x13 + 0) ≤ (-1)) (f28 : (-1) * x9 + ((-1) * x13 + 0) ≤ (-2000)) (f30 : 1 * x3 + ((-1) * x13 + 0) ≤ (-1)) (f31 : (-1) * x9 + ((-1) * x13 + 0) ≤ (-2000)) (kz_0_8 : 0 ≤ fault_0 ∧ fault_0 ≤ 5) (kz_0_11 : 0 ≤ pos_0 ∧ pos_0 ≤ 2000) (kz_0_12 : 0 ≤ kind_0 ∧ kind_0 ≤ 4) (kz_0_15 : 0 ≤ from_0 ∧ from_0 ≤ 2000) (ex2 : gx = pos_0) (ex3 : 0 ≤ gx ∧ gx ≤ 2000) : 1 * gx + ((-1) * pos_0 + 0) ≤ 0 := by
  first | assumption | (clear f12; omega) | omega | grind
set_option maxHeartbeats 4000000 in
theorem vc_Mo_of_at_s5003_25_1 (x2 : Int) (x3 : Int) (x7 : Int) (x9 : Int) (x13 : Int) (x15 : Int) (x21 : Int) (fault_0 : Int) (from_0 : Int) (pos_0 : Int) (kind_0 : Int) (gx : Int) (k2 : 9 ≤ x2 ∧ x2 ≤ 9) (k3 : 0 ≤ x3 ∧ x3 ≤ 2000) (k7 : 9 ≤ x7 ∧ x7 ≤ 9) (k9 : 0 ≤ x9 ∧ x9 ≤ 2000) (k13 : 0 ≤ x13 ∧ x13 ≤ 2000) (k15 : 0 ≤ x15 ∧ x15 ≤ 2000) (k21 : 0 ≤ x21 ∧ x21 ≤ 0) (f0 : x21 ≤ 0) (g1 : x21 = fault_0) (f2 : x21 = 0) (f3 : 1 * x15 + ((-1) * x13 + 0) ≤ 0) (f4 : (-1) * x15 + (1 * x13 + 0) ≤ 0) (f5 : 1 * x3 + ((-1) * x15 + 0) ≤ (-1)) (f6 : (-1) * x9 + ((-1) * x15 + 0) ≤ (-2000)) (f7 : 1 * x3 + ((-1) * x13 + 0) ≤ (-1)) (f8 : (-1) * x9 + ((-1) * x13 + 0) ≤ (-2000)) (f11 : 1 * from_0 + ((-1) * pos_0 + 0) ≤ 0) (f12 : ((kind_0 = 1) → (pos_0 ≤ (from_0 + 8))) ∧ ((kind_0 = 0) ∨ ((from_0 + 1) ≤ pos_0))) (f13 : 1 * x15 + ((-1) * pos_0 + 0) ≤ 0) (f14 : (-1) * fault_0 + 0 ≤ (-1)) (f16 : 1 * x15 + ((-1) * x13 + 0) ≤ 0) (f17 : (-1) * x15 + (1 * x13 + 0) ≤ 0) (f18 : 1 * x3 + ((-1) * x15 + 0) ≤ (-1)) (f19 : (-1) * x9 + ((-1) * x15 + 0) ≤ (-2000)) (f20 : 1 * x3 + ((-1) * x13 + 0) ≤ (-1)) (f21 : (-1) * x9 + ((-1) * x13 + 0) ≤ (-2000)) (f23 : 1 * x15 + ((-1) * x13 + 0) ≤ 0) (f24 : (-1) * x15 + (1 * x13 + 0) ≤ 0) (f25 : 1 * x3 + ((-1) * x15 + 0) ≤ (-1)) (f26 : (-1) * x9 + ((-1) * x15 + 0) ≤ (-2000)) (f27 : 1 * x3 + ((-1) * x13 + 0) ≤ (-1)) (f28 : (-1) * x9 + ((-1) * x13 + 0) ≤ (-2000)) (f30 : 1 * x3 + ((-1) * x13 + 0) ≤ (-1)) (f31 : (-1) * x9 + ((-1) * x13 + 0) ≤ (-2000)) (kz_0_8 : 0 ≤ fault_0 ∧ fault_0 ≤ 5) (kz_0_11 : 0 ≤ pos_0 ∧ pos_0 ≤ 2000) (kz_0_12 : 0 ≤ kind_0 ∧ kind_0 ≤ 4) (kz_0_15 : 0 ≤ from_0 ∧ from_0 ≤ 2000) (ex2 : gx = pos_0) (ex3 : 0 ≤ gx ∧ gx ≤ 2000) : 1 * x3 + ((-1) * gx + 0) ≤ (-1) := by
  first | assumption | (clear f12; omega) | omega | grind
set_option maxHeartbeats 4000000 in
theorem vc_Mo_of_at_s5003_25_2 (x2 : Int) (x3 : Int) (x7 : Int) (x9 : Int) (x13 : Int) (x15 : Int) (x21 : Int) (fault_0 : Int) (from_0 : Int) (pos_0 : Int) (kind_0 : Int) (gx : Int) (k2 : 9 ≤ x2 ∧ x2 ≤ 9) (k3 : 0 ≤ x3 ∧ x3 ≤ 2000) (k7 : 9 ≤ x7 ∧ x7 ≤ 9) (k9 : 0 ≤ x9 ∧ x9 ≤ 2000) (k13 : 0 ≤ x13 ∧ x13 ≤ 2000) (k15 : 0 ≤ x15 ∧ x15 ≤ 2000) (k21 : 0 ≤ x21 ∧ x21 ≤ 0) (f0 : x21 ≤ 0) (g1 : x21 = fault_0) (f2 : x21 = 0) (f3 : 1 * x15 + ((-1) * x13 + 0) ≤ 0) (f4 : (-1) * x15 + (1 * x13 + 0) ≤ 0) (f5 : 1 * x3 + ((-1) * x15 + 0) ≤ (-1)) (f6 : (-1) * x9 + ((-1) * x15 + 0) ≤ (-2000)) (f7 : 1 * x3 + ((-1) * x13 + 0) ≤ (-1)) (f8 : (-1) * x9 + ((-1) * x13 + 0) ≤ (-2000)) (f11 : 1 * from_0 + ((-1) * pos_0 + 0) ≤ 0) (f12 : ((kind_0 = 1) → (pos_0 ≤ (from_0 + 8))) ∧ ((kind_0 = 0) ∨ ((from_0 + 1) ≤ pos_0))) (f13 : 1 * x15 + ((-1) * pos_0 + 0) ≤ 0) (f14 : (-1) * fault_0 + 0 ≤ (-1)) (f16 : 1 * x15 + ((-1) * x13 + 0) ≤ 0) (f17 : (-1) * x15 + (1 * x13 + 0) ≤ 0) (f18 : 1 * x3 + ((-1) * x15 + 0) ≤ (-1)) (f19 : (-1) * x9 + ((-1) * x15 + 0) ≤ (-2000)) (f20 : 1 * x3 + ((-1) * x13 + 0) ≤ (-1)) (f21 : (-1) * x9 + ((-1) * x13 + 0) ≤ (-2000)) (f23 : 1 * x15 + ((-1) * x13 + 0) ≤ 0) (f24 : (-1) * x15 + (1 * x13 + 0) ≤ 0) (f25 : 1 * x3 + ((-1) * x15 + 0) ≤ (-1)) (f26 : (-1) * x9 + ((-1) * x15 + 0) ≤ (-2000)) (f27 : 1 * x3 + ((-1) * x13 + 0) ≤ (-1)) (f28 : (-1) * x9 + ((-1) * x13 + 0) ≤ (-2000)) (f30 : 1 * x3 + ((-1) * x13 + 0) ≤ (-1)) (f31 : (-1) * x9 + ((-1) * x13 + 0) ≤ (-2000)) (kz_0_8 : 0 ≤ fault_0 ∧ fault_0 ≤ 5) (kz_0_11 : 0 ≤ pos_0 ∧ pos_0 ≤ 2000) (kz_0_12 : 0 ≤ kind_0 ∧ kind_0 ≤ 4) (kz_0_15 : 0 ≤ from_0 ∧ from_0 ≤ 2000) (ex2 : gx = pos_0) (ex3 : 0 ≤ gx ∧ gx ≤ 2000) : (-1) * x9 + ((-1) * gx + 0) ≤ (-2001) := by
  first | assumption | (clear f12; omega) | omega | grind
def o_Mo_of_at_s5003_25 : or_T := (136, 25, [(0, (2, 0, 0, [165])), (2, (0, 9, 9, [])), (3, (0, 0, 2000, [])), (5, (2, 0, 0, [165])), (7, (0, 9, 9, [])), (9, (0, 0, 2000, [])), (13, (0, 0, 2000, [])), (15, (0, 0, 2000, [])), (21, (0, 0, 0, []))], [(8, [21], [5]), (9, [21, 5], [8]), (8, [21], [0]), (23, [15, 13], [0, 1, -1]), (23, [15, 13], [0, -1, 1]), (23, [3, 15], [-1, 1, -1]), (23, [9, 15], [-2000, -1, -1]), (23, [3, 13], [-1, 1, -1]), (23, [9, 13], [-2000, -1, -1]), (24, [0, 5], []), (24, [2, 7], []), (20, [5, 5], [30, 0, 1, 1, 15, -1, 1, 11]), (20, [5], [50, 3, 0, 12, 11, 15, 2, 21, 4, 7, 1, 3, 2, 0, 12, 0, 1, 0, 3, 2, 0, 11, 4, 3, 2, 0, 15, 0, 8, 3, 7, 1, 3, 2, 0, 12, 0, 0, 0, 7, 4, 3, 2, 0, 15, 0, 1, 2, 0, 11]), (20, [15, 5], [30, 0, 1, 0, 0, -1, 1, 11]), (20, [5], [30, -1, -1, 1, 8]), (102, [20], [0, 165008, 165009]), (23, [15, 13], [0, 1, -1]), (23, [15, 13], [0, -1, 1]), (23, [3, 15], [-1, 1, -1]), (23, [9, 15], [-2000, -1, -1]), (23, [3, 13], [-1, 1, -1]), (23, [9, 13], [-2000, -1, -1]), (102, [15], [0, 165008, 165009, 165011, 165012, 165013, 165014, 165015]), (23, [15, 13], [0, 1, -1]), (23, [15, 13], [0, -1, 1]), (23, [3, 15], [-1, 1, -1]), (23, [9, 15], [-2000, -1, -1]), (23, [3, 13], [-1, 1, -1]), (23, [9, 13], [-2000, -1, -1]), (102, [13], [0, 165011, 165012, 165013, 165014, 165015]), (23, [3, 13], [-1, 1, -1]), (23, [9, 13], [-2000, -1, -1])], [], [(0, 0, 2000, [])], [(20, [25, 5], [30, 0, 1, 0, 0, -1, 1, 11]), (23, [3, 25], [-1, 1, -1]), (23, [9, 25], [-2001, -1, -1])], [], [])
theorem oo_Mo_of_at_s5003_25 {kA : Nat → ClassId} : or_ok PRD kA GG o_Mo_of_at_s5003_25 := by
  refine or_mk fun A ta ws vs hD hth hl => ?_
  intro t0 r0 t2 k2 t3 k3 t5 r5 t7 k7 t9 k9 t13 k13 t15 k15 t21 k21 f0 f1 f2 f3 f4 f5 f6 f7 f8 f9 f10 f11 f12 f13 f14 ta1 w1 le1 s1 f16 f17 f18 f19 f20 f21 ta2 w2 le2 s2 f23 f24 f25 f26 f27 f28 ta3 w3 le3 s3 f30 f31
  replace f0 := shm_142 f0
  replace f1 := shm_143 f1
  replace f2 := shm_210 f2
  replace f3 := shm_7 f3
  replace f4 := shm_22 f4
  replace f5 := shm_211 f5
  replace f6 := shm_1894 f6
  replace f7 := shm_211 f7
  replace f8 := shm_1894 f8
  replace f9 := shm_5 f9
  replace f11 := shm_1397 f11
  replace f12 := shm_1398 f12
  replace f13 := shm_1395 f13
  replace f14 := shm_144 f14
  replace f16 := shm_7 f16
  replace f17 := shm_22 f17
  replace f18 := shm_211 f18
  replace f19 := shm_1894 f19
  replace f20 := shm_211 f20
  replace f21 := shm_1894 f21
  replace f23 := shm_7 f23
  replace f24 := shm_22 f24
  replace f25 := shm_211 f25
  replace f26 := shm_1894 f26
  replace f27 := shm_211 f27
  replace f28 := shm_1894 f28
  replace f30 := shm_211 f30
  replace f31 := shm_1894 f31
  have q5 : n_v vs 5 = n_v vs 0 := f9.symm
  simp only [q5] at f1 f11 f12 f13 f14
  have g1 : v_iv (n_v vs 21) = w_fi ws (n_v vs 0) 8 := congrArg v_iv f1
  have kz_0_8 := fdq_14 hD hth r0
  have kz_0_11 := fdq_273 hD hth r0
  have kz_0_12 := fdq_186 hD hth r0
  have kz_0_15 := fdq_274 hD hth r0
  obtain ⟨x, ex, hx⟩ := iv_ex (ta := ta) (lo := 0) (hi := 2000) (z := w_fi ws (n_v vs 0) 11) (by omega) (by omega) (by omega) (by omega)
  have ex2 : v_iv (Value.int x) = w_fi ws (n_v vs 0) 11 := ex
  have ex3 : 0 ≤ v_iv (Value.int x) ∧ v_iv (Value.int x) ≤ 2000 := tv_rng hx
  have e_3 : n_v (vs ++ [Value.int x]) 3 = n_v vs 3 := n_v_old (by rw [hl]; decide)
  have e_5 : n_v (vs ++ [Value.int x]) 5 = n_v vs 5 := n_v_old (by rw [hl]; decide)
  have e_9 : n_v (vs ++ [Value.int x]) 9 = n_v vs 9 := n_v_old (by rw [hl]; decide)
  have e_25 : n_v (vs ++ [Value.int x]) 25 = Value.int x := n_v_new hl
  have nf0 : fc_1 PRD (20, [25, 5], [30, 0, 1, 0, 0, -1, 1, 11]) ws (vs ++ [Value.int x]) := by
    refine ⟨nf_inA hl rfl, sgq_1395 ?_⟩
    · show 1 * v_iv (n_v (vs ++ [Value.int x]) 25) + ((-1) * w_fi ws (n_v (vs ++ [Value.int x]) 5) 11 + 0) ≤ 0
      simp only [e_5, e_25, q5]
      exact vc_Mo_of_at_s5003_25_0 (v_iv (n_v vs 2)) (v_iv (n_v vs 3)) (v_iv (n_v vs 7)) (v_iv (n_v vs 9)) (v_iv (n_v vs 13)) (v_iv (n_v vs 15)) (v_iv (n_v vs 21)) (w_fi ws (n_v vs 0) 8) (w_fi ws (n_v vs 0) 15) (w_fi ws (n_v vs 0) 11) (w_fi ws (n_v vs 0) 12) (v_iv (Value.int x)) k2 k3 k7 k9 k13 k15 k21 f0 g1 f2 f3 f4 f5 f6 f7 f8 f11 f12 f13 f14 f16 f17 f18 f19 f20 f21 f23 f24 f25 f26 f27 f28 f30 f31 kz_0_8 kz_0_11 kz_0_12 kz_0_15 ex2 ex3
  have nf1 : fc_1 PRD (23, [3, 25], [-1, 1, -1]) ws (vs ++ [Value.int x]) := by
    refine ⟨nf_inA hl rfl, sgq_211 ?_⟩
    · show 1 * v_iv (n_v (vs ++ [Value.int x]) 3) + ((-1) * v_iv (n_v (vs ++ [Value.int x]) 25) + 0) ≤ (-1)
      simp only [e_3, e_25]
      exact vc_Mo_of_at_s5003_25_1 (v_iv (n_v vs 2)) (v_iv (n_v vs 3)) (v_iv (n_v vs 7)) (v_iv (n_v vs 9)) (v_iv (n_v vs 13)) (v_iv (n_v vs 15)) (v_iv (n_v vs 21)) (w_fi ws (n_v vs 0) 8) (w_fi ws (n_v vs 0) 15) (w_fi ws (n_v vs 0) 11) (w_fi ws (n_v vs 0) 12) (v_iv (Value.int x)) k2 k3 k7 k9 k13 k15 k21 f0 g1 f2 f3 f4 f5 f6 f7 f8 f11 f12 f13 f14 f16 f17 f18 f19 f20 f21 f23 f24 f25 f26 f27 f28 f30 f31 kz_0_8 kz_0_11 kz_0_12 kz_0_15 ex2 ex3
  have nf2 : fc_1 PRD (23, [9, 25], [-2001, -1, -1]) ws (vs ++ [Value.int x]) := by
    refine ⟨nf_inA hl rfl, sgq_1895 ?_⟩
    · show (-1) * v_iv (n_v (vs ++ [Value.int x]) 9) + ((-1) * v_iv (n_v (vs ++ [Value.int x]) 25) + 0) ≤ (-2001)
      simp only [e_9, e_25]
      exact vc_Mo_of_at_s5003_25_2 (v_iv (n_v vs 2)) (v_iv (n_v vs 3)) (v_iv (n_v vs 7)) (v_iv (n_v vs 9)) (v_iv (n_v vs 13)) (v_iv (n_v vs 15)) (v_iv (n_v vs 21)) (w_fi ws (n_v vs 0) 8) (w_fi ws (n_v vs 0) 15) (w_fi ws (n_v vs 0) 11) (w_fi ws (n_v vs 0) 12) (v_iv (Value.int x)) k2 k3 k7 k9 k13 k15 k21 f0 g1 f2 f3 f4 f5 f6 f7 f8 f11 f12 f13 f14 f16 f17 f18 f19 f20 f21 f23 f24 f25 f26 f27 f28 f30 f31 kz_0_8 kz_0_11 kz_0_12 kz_0_15 ex2 ex3
  exact ⟨(fun _ h => (by cases h)), [Value.int x], ag_one hx, List.forall_mem_cons.mpr ⟨⟨show (20 : Nat) < 100 from by decide, nf0⟩, List.forall_mem_cons.mpr ⟨⟨show (23 : Nat) < 100 from by decide, nf1⟩, List.forall_mem_cons.mpr ⟨⟨show (23 : Nat) < 100 from by decide, nf2⟩, (fun _ h => (by cases h))⟩⟩⟩, (fun _ h => (by cases h))⟩
set_option maxHeartbeats 4000000 in
theorem vc_Mo_of_at_s5003_26_0 (x2 : Int) (x3 : Int) (x4 : Int) (x7 : Int) (x8 : Int) (x9 : Int) (x13 : Int) (x15 : Int) (x22 : Int) (x25 : Int) (fault_0 : Int) (from_0 : Int) (pos_0 : Int) (kind_0 : Int) (gx : Int) (k2 : 9 ≤ x2 ∧ x2 ≤ 9) (k3 : 0 ≤ x3 ∧ x3 ≤ 2000) (k4 : (-1) ≤ x4 ∧ x4 ≤ 48) (k7 : 9 ≤ x7 ∧ x7 ≤ 9) (k8 : (-2147483648) ≤ x8 ∧ x8 ≤ 0) (k9 : 0 ≤ x9 ∧ x9 ≤ 2000) (k13 : 0 ≤ x13 ∧ x13 ≤ 2000) (k15 : 0 ≤ x15 ∧ x15 ≤ 2000) (k22 : 1 ≤ x22 ∧ x22 ≤ 9) (k25 : 0 ≤ x25 ∧ x25 ≤ 2000) (f0 : 1 * x3 + ((-1) * x25 + 0) ≤ (-1)) (f1 : (-1) * x9 + ((-1) * x25 + 0) ≤ (-2001)) (f2 : 1 * x22 + ((-1) * x2 + 0) ≤ 0) (f3 : (-1) * x22 + 0 ≤ 0) (f4 : 1 * x15 + ((-1) * x13 + 0) ≤ 0) (f5 : (-1) * x15 + (1 * x13 + 0) ≤ 0) (f6 : 1 * x3 + ((-1) * x15 + 0) ≤ (-1)) (f7 : (-1) * x9 + ((-1) * x15 + 0) ≤ (-2000)) (f8 : 1 * x3 + ((-1) * x13 + 0) ≤ (-1)) (f9 : (-1) * x9 + ((-1) * x13 + 0) ≤ (-2000)) (f10 : 1 * x8 + ((-1) * x2 + 0) ≤ 0) (f11 : (-1) * x8 + 0 ≤ 0) (f12 : (-1) * x4 + 0 ≤ 0) (f15 : (-1) * fault_0 + 0 ≤ (-1)) (f16 : 1 * from_0 + ((-1) * pos_0 + 0) ≤ 0) (f17 : ((kind_0 = 1) → (pos_0 ≤ (from_0 + 8))) ∧ ((kind_0 = 0) ∨ ((from_0 + 1) ≤ pos_0))) (f18 : 1 * x25 + ((-1) * from_0 + 0) ≤ 0) (f20 : 1 * x3 + ((-1) * x25 + 0) ≤ (-1)) (f21 : (-1) * x9 + ((-1) * x25 + 0) ≤ (-2001)) (f22 : 1 * x22 + ((-1) * x2 + 0) ≤ 0) (f23 : (-1) * x22 + 0 ≤ 0) (f24 : 1 * x15 + ((-1) * x13 + 0) ≤ 0) (f25 : (-1) * x15 + (1 * x13 + 0) ≤ 0) (f26 : 1 * x3 + ((-1) * x15 + 0) ≤ (-1)) (f27 : (-1) * x9 + ((-1) * x15 + 0) ≤ (-2000)) (f28 : 1 * x3 + ((-1) * x13 + 0) ≤ (-1)) (f29 : (-1) * x9 + ((-1) * x13 + 0) ≤ (-2000)) (f30 : 1 * x8 + ((-1) * x2 + 0) ≤ 0) (f31 : (-1) * x8 + 0 ≤ 0) (f32 : (-1) * x4 + 0 ≤ 0) (f34 : 1 * x15 + ((-1) * x13 + 0) ≤ 0) (f35 : (-1) * x15 + (1 * x13 + 0) ≤ 0) (f36 : 1 * x3 + ((-1) * x15 + 0) ≤ (-1)) (f37 : (-1) * x9 + ((-1) * x15 + 0) ≤ (-2000)) (f38 : 1 * x3 + ((-1) * x13 + 0) ≤ (-1)) (f39 : (-1) * x9 + ((-1) * x13 + 0) ≤ (-2000)) (f40 : 1 * x8 + ((-1) * x2 + 0) ≤ 0) (f41 : (-1) * x8 + 0 ≤ 0) (f42 : (-1) * x4 + 0 ≤ 0) (f44 : 1 * x15 + ((-1) * x13 + 0) ≤ 0) (f45 : (-1) * x15 + (1 * x13 + 0) ≤ 0) (f46 : 1 * x3 + ((-1) * x15 + 0) ≤ (-1)) (f47 : (-1) * x9 + ((-1) * x15 + 0) ≤ (-2000)) (f48 : 1 * x3 + ((-1) * x13 + 0) ≤ (-1)) (f49 : (-1) * x9 + ((-1) * x13 + 0) ≤ (-2000)) (f50 : 1 * x8 + ((-1) * x2 + 0) ≤ 0) (f51 : (-1) * x8 + 0 ≤ 0) (f52 : (-1) * x4 + 0 ≤ 0) (f54 : 1 * x3 + ((-1) * x13 + 0) ≤ (-1)) (f55 : (-1) * x9 + ((-1) * x13 + 0) ≤ (-2000)) (f56 : x8 ≤ 0) (f57 : 1 * x8 + ((-1) * x2 + 0) ≤ 0) (f58 : (-1) * x8 + 0 ≤ 0) (f59 : (-1) * x4 + 0 ≤ 0) (f61 : 1 * x8 + ((-1) * x2 + 0) ≤ 0) (f62 : (-1) * x8 + 0 ≤ 0) (f63 : (-1) * x4 + 0 ≤ 0) (kz_0_8 : 0 ≤ fault_0 ∧ fault_0 ≤ 5) (kz_0_11 : 0 ≤ pos_0 ∧ pos_0 ≤ 2000) (kz_0_12 : 0 ≤ kind_0 ∧ kind_0 ≤ 4) (kz_0_15 : 0 ≤ from_0 ∧ from_0 ≤ 2000) (ex2 : gx = 0 + (1 * x9 + 0)) (ex3 : 0 ≤ gx ∧ gx ≤ 2000) : 1 * from_0 + ((-1) * pos_0 + 0) ≤ 0 := by
  first | assumption | (clear f17; omega) | omega | grind
set_option maxHeartbeats 4000000 in
theorem vc_Mo_of_at_s5003_26_1 (x2 : Int) (x3 : Int) (x4 : Int) (x7 : Int) (x8 : Int) (x9 : Int) (x13 : Int) (x15 : Int) (x22 : Int) (x25 : Int) (fault_0 : Int) (from_0 : Int) (pos_0 : Int) (kind_0 : Int) (gx : Int) (k2 : 9 ≤ x2 ∧ x2 ≤ 9) (k3 : 0 ≤ x3 ∧ x3 ≤ 2000) (k4 : (-1) ≤ x4 ∧ x4 ≤ 48) (k7 : 9 ≤ x7 ∧ x7 ≤ 9) (k8 : (-2147483648) ≤ x8 ∧ x8 ≤ 0) (k9 : 0 ≤ x9 ∧ x9 ≤ 2000) (k13 : 0 ≤ x13 ∧ x13 ≤ 2000) (k15 : 0 ≤ x15 ∧ x15 ≤ 2000) (k22 : 1 ≤ x22 ∧ x22 ≤ 9) (k25 : 0 ≤ x25 ∧ x25 ≤ 2000) (f0 : 1 * x3 + ((-1) * x25 + 0) ≤ (-1)) (f1 : (-1) * x9 + ((-1) * x25 + 0) ≤ (-2001)) (f2 : 1 * x22 + ((-1) * x2 + 0) ≤ 0) (f3 : (-1) * x22 + 0 ≤ 0) (f4 : 1 * x15 + ((-1) * x13 + 0) ≤ 0) (f5 : (-1) * x15 + (1 * x13 + 0) ≤ 0) (f6 : 1 * x3 + ((-1) * x15 + 0) ≤ (-1)) (f7 : (-1) * x9 + ((-1) * x15 + 0) ≤ (-2000)) (f8 : 1 * x3 + ((-1) * x13 + 0) ≤ (-1)) (f9 : (-1) * x9 + ((-1) * x13 + 0) ≤ (-2000)) (f10 : 1 * x8 + ((-1) * x2 + 0) ≤ 0) (f11 : (-1) * x8 + 0 ≤ 0) (f12 : (-1) * x4 + 0 ≤ 0) (f15 : (-1) * fault_0 + 0 ≤ (-1)) (f16 : 1 * from_0 + ((-1) * pos_0 + 0) ≤ 0) (f17 : ((kind_0 = 1) → (pos_0 ≤ (from_0 + 8))) ∧ ((kind_0 = 0) ∨ ((from_0 + 1) ≤ pos_0))) (f18 : 1 * x25 + ((-1) * from_0 + 0) ≤ 0) (f20 : 1 * x3 + ((-1) * x25 + 0) ≤ (-1)) (f21 : (-1) * x9 + ((-1) * x25 + 0) ≤ (-2001)) (f22 : 1 * x22 + ((-1) * x2 + 0) ≤ 0) (f23 : (-1) * x22 + 0 ≤ 0) (f24 : 1 * x15 + ((-1) * x13 + 0) ≤ 0) (f25 : (-1) * x15 + (1 * x13 + 0) ≤ 0) (f26 : 1 * x3 + ((-1) * x15 + 0) ≤ (-1)) (f27 : (-1) * x9 + ((-1) * x15 + 0) ≤ (-2000)) (f28 : 1 * x3 + ((-1) * x13 + 0) ≤ (-1)) (f29 : (-1) * x9 + ((-1) * x13 + 0) ≤ (-2000)) (f30 : 1 * x8 + ((-1) * x2 + 0) ≤ 0) (f31 : (-1) * x8 + 0 ≤ 0) (f32 : (-1) * x4 + 0 ≤ 0) (f34 : 1 * x15 + ((-1) * x13 + 0) ≤ 0) (f35 : (-1) * x15 + (1 * x13 + 0) ≤ 0) (f36 : 1 * x3 + ((-1) * x15 + 0) ≤ (-1)) (f37 : (-1) * x9 + ((-1) * x15 + 0) ≤ (-2000)) (f38 : 1 * x3 + ((-1) * x13 + 0) ≤ (-1)) (f39 : (-1) * x9 + ((-1) * x13 + 0) ≤ (-2000)) (f40 : 1 * x8 + ((-1) * x2 + 0) ≤ 0) (f41 : (-1) * x8 + 0 ≤ 0) (f42 : (-1) * x4 + 0 ≤ 0) (f44 : 1 * x15 + ((-1) * x13 + 0) ≤ 0) (f45 : (-1) * x15 + (1 * x13 + 0) ≤ 0) (f46 : 1 * x3 + ((-1) * x15 + 0) ≤ (-1)) (f47 : (-1) * x9 + ((-1) * x15 + 0) ≤ (-2000)) (f48 : 1 * x3 + ((-1) * x13 + 0) ≤ (-1)) (f49 : (-1) * x9 + ((-1) * x13 + 0) ≤ (-2000)) (f50 : 1 * x8 + ((-1) * x2 + 0) ≤ 0) (f51 : (-1) * x8 + 0 ≤ 0) (f52 : (-1) * x4 + 0 ≤ 0) (f54 : 1 * x3 + ((-1) * x13 + 0) ≤ (-1)) (f55 : (-1) * x9 + ((-1) * x13 + 0) ≤ (-2000)) (f56 : x8 ≤ 0) (f57 : 1 * x8 + ((-1) * x2 + 0) ≤ 0) (f58 : (-1) * x8 + 0 ≤ 0) (f59 : (-1) * x4 + 0 ≤ 0) (f61 : 1 * x8 + ((-1) * x2 + 0) ≤ 0) (f62 : (-1) * x8 + 0 ≤ 0) (f63 : (-1) * x4 + 0 ≤ 0) (kz_0_8 : 0 ≤ fault_0 ∧ fault_0 ≤ 5) (kz_0_11 : 0 ≤ pos_0 ∧ pos_0 ≤ 2000) (kz_0_12 : 0 ≤ kind_0 ∧ kind_0 ≤ 4) (kz_0_15 : 0 ≤ from_0 ∧ from_0 ≤ 2000) (ex2 : gx = 0 + (1 * x9 + 0)) (ex3 : 0 ≤ gx ∧ gx ≤ 2000) : ((kind_0 = 1) → (pos_0 ≤ (from_0 + 8))) ∧ ((kind_0 = 0) ∨ ((from_0 + 1) ≤ pos_0)) := by
  first | assumption | (clear f17; omega) | omega | grind
set_option maxHeartbeats 4000000 in
theorem vc_Mo_of_at_s5003_26_2 (x2 : Int) (x3 : Int) (x4 : Int) (x7 : Int) (x8 : Int) (x9 : Int) (x13 : Int) (x15 : Int) (x22 : Int) (x25 : Int) (fault_0 : Int) (from_0 : Int) (pos_0 : Int) (kind_0 : Int) (gx : Int) (k2 : 9 ≤ x2 ∧ x2 ≤ 9) (k3 : 0 ≤ x3 ∧ x3 ≤ 2000) (k4 : (-1) ≤ x4 ∧ x4 ≤ 48) (k7 : 9 ≤ x7 ∧ x7 ≤ 9) (k8 : (-2147483648) ≤ x8 ∧ x8 ≤ 0) (k9 : 0 ≤ x9 ∧ x9 ≤ 2000) (k13 : 0 ≤ x13 ∧ x13 ≤ 2000) (k15 : 0 ≤ x15 ∧ x15 ≤ 2000) (k22 : 1 ≤ x22 ∧ x22 ≤ 9) (k25 : 0 ≤ x25 ∧ x25 ≤ 2000) (f0 : 1 * x3 + ((-1) * x25 + 0) ≤ (-1)) (f1 : (-1) * x9 + ((-1) * x25 + 0) ≤ (-2001)) (f2 : 1 * x22 + ((-1) * x2 + 0) ≤ 0) (f3 : (-1) * x22 + 0 ≤ 0) (f4 : 1 * x15 + ((-1) * x13 + 0) ≤ 0) (f5 : (-1) * x15 + (1 * x13 + 0) ≤ 0) (f6 : 1 * x3 + ((-1) * x15 + 0) ≤ (-1)) (f7 : (-1) * x9 + ((-1) * x15 + 0) ≤ (-2000)) (f8 : 1 * x3 + ((-1) * x13 + 0) ≤ (-1)) (f9 : (-1) * x9 + ((-1) * x13 + 0) ≤ (-2000)) (f10 : 1 * x8 + ((-1) * x2 + 0) ≤ 0) (f11 : (-1) * x8 + 0 ≤ 0) (f12 : (-1) * x4 + 0 ≤ 0) (f15 : (-1) * fault_0 + 0 ≤ (-1)) (f16 : 1 * from_0 + ((-1) * pos_0 + 0) ≤ 0) (f17 : ((kind_0 = 1) → (pos_0 ≤ (from_0 + 8))) ∧ ((kind_0 = 0) ∨ ((from_0 + 1) ≤ pos_0))) (f18 : 1 * x25 + ((-1) * from_0 + 0) ≤ 0) (f20 : 1 * x3 + ((-1) * x25 + 0) ≤ (-1)) (f21 : (-1) * x9 + ((-1) * x25 + 0) ≤ (-2001)) (f22 : 1 * x22 + ((-1) * x2 + 0) ≤ 0) (f23 : (-1) * x22 + 0 ≤ 0) (f24 : 1 * x15 + ((-1) * x13 + 0) ≤ 0) (f25 : (-1) * x15 + (1 * x13 + 0) ≤ 0) (f26 : 1 * x3 + ((-1) * x15 + 0) ≤ (-1)) (f27 : (-1) * x9 + ((-1) * x15 + 0) ≤ (-2000)) (f28 : 1 * x3 + ((-1) * x13 + 0) ≤ (-1)) (f29 : (-1) * x9 + ((-1) * x13 + 0) ≤ (-2000)) (f30 : 1 * x8 + ((-1) * x2 + 0) ≤ 0) (f31 : (-1) * x8 + 0 ≤ 0) (f32 : (-1) * x4 + 0 ≤ 0) (f34 : 1 * x15 + ((-1) * x13 + 0) ≤ 0) (f35 : (-1) * x15 + (1 * x13 + 0) ≤ 0) (f36 : 1 * x3 + ((-1) * x15 + 0) ≤ (-1)) (f37 : (-1) * x9 + ((-1) * x15 + 0) ≤ (-2000)) (f38 : 1 * x3 + ((-1) * x13 + 0) ≤ (-1)) (f39 : (-1) * x9 + ((-1) * x13 + 0) ≤ (-2000)) (f40 : 1 * x8 + ((-1) * x2 + 0) ≤ 0) (f41 : (-1) * x8 + 0 ≤ 0) (f42 : (-1) * x4 + 0 ≤ 0) (f44 : 1 * x15 + ((-1) * x13 + 0) ≤ 0) (f45 : (-1) * x15 + (1 * x13 + 0) ≤ 0) (f46 : 1 * x3 + ((-1) * x15 + 0) ≤ (-1)) (f47 : (-1) * x9 + ((-1) * x15 + 0) ≤ (-2000)) (f48 : 1 * x3 + ((-1) * x13 + 0) ≤ (-1)) (f49 : (-1) * x9 + ((-1) * x13 + 0) ≤ (-2000)) (f50 : 1 * x8 + ((-1) * x2 + 0) ≤ 0) (f51 : (-1) * x8 + 0 ≤ 0) (f52 : (-1) * x4 + 0 ≤ 0) (f54 : 1 * x3 + ((-1) * x13 + 0) ≤ (-1)) (f55 : (-1) * x9 + ((-1) * x13 + 0) ≤ (-2000)) (f56 : x8 ≤ 0) (f57 : 1 * x8 + ((-1) * x2 + 0) ≤ 0) (f58 : (-1) * x8 + 0 ≤ 0) (f59 : (-1) * x4 + 0 ≤ 0) (f61 : 1 * x8 + ((-1) * x2 + 0) ≤ 0) (f62 : (-1) * x8 + 0 ≤ 0) (f63 : (-1) * x4 + 0 ≤ 0) (kz_0_8 : 0 ≤ fault_0 ∧ fault_0 ≤ 5) (kz_0_11 : 0 ≤ pos_0 ∧ pos_0 ≤ 2000) (kz_0_12 : 0 ≤ kind_0 ∧ kind_0 ≤ 4) (kz_0_15 : 0 ≤ from_0 ∧ from_0 ≤ 2000) (ex2 : gx = 0 + (1 * x9 + 0)) (ex3 : 0 ≤ gx ∧ gx ≤ 2000) : 1 * x3 + ((-1) * pos_0 + 0) ≤ (-1) := by
  first | assumption | (clear f17; omega) | omega | grind
set_option maxHeartbeats 4000000 in
theorem vc_Mo_of_at_s5003_26_3 (x2 : Int) (x3 : Int) (x4 : Int) (x7 : Int) (x8 : Int) (x9 : Int) (x13 : Int) (x15 : Int) (x22 : Int) (x25 : Int) (fault_0 : Int) (from_0 : Int) (pos_0 : Int) (kind_0 : Int) (gx : Int) (k2 : 9 ≤ x2 ∧ x2 ≤ 9) (k3 : 0 ≤ x3 ∧ x3 ≤ 2000) (k4 : (-1) ≤ x4 ∧ x4 ≤ 48) (k7 : 9 ≤ x7 ∧ x7 ≤ 9) (k8 : (-2147483648) ≤ x8 ∧ x8 ≤ 0) (k9 : 0 ≤ x9 ∧ x9 ≤ 2000) (k13 : 0 ≤ x13 ∧ x13 ≤ 2000) (k15 : 0 ≤ x15 ∧ x15 ≤ 2000) (k22 : 1 ≤ x22 ∧ x22 ≤ 9) (k25 : 0 ≤ x25 ∧ x25 ≤ 2000) (f0 : 1 * x3 + ((-1) * x25 + 0) ≤ (-1)) (f1 : (-1) * x9 + ((-1) * x25 + 0) ≤ (-2001)) (f2 : 1 * x22 + ((-1) * x2 + 0) ≤ 0) (f3 : (-1) * x22 + 0 ≤ 0) (f4 : 1 * x15 + ((-1) * x13 + 0) ≤ 0) (f5 : (-1) * x15 + (1 * x13 + 0) ≤ 0) (f6 : 1 * x3 + ((-1) * x15 + 0) ≤ (-1)) (f7 : (-1) * x9 + ((-1) * x15 + 0) ≤ (-2000)) (f8 : 1 * x3 + ((-1) * x13 + 0) ≤ (-1)) (f9 : (-1) * x9 + ((-1) * x13 + 0) ≤ (-2000)) (f10 : 1 * x8 + ((-1) * x2 + 0) ≤ 0) (f11 : (-1) * x8 + 0 ≤ 0) (f12 : (-1) * x4 + 0 ≤ 0) (f15 : (-1) * fault_0 + 0 ≤ (-1)) (f16 : 1 * from_0 + ((-1) * pos_0 + 0) ≤ 0) (f17 : ((kind_0 = 1) → (pos_0 ≤ (from_0 + 8))) ∧ ((kind_0 = 0) ∨ ((from_0 + 1) ≤ pos_0))) (f18 : 1 * x25 + ((-1) * from_0 + 0) ≤ 0) (f20 : 1 * x3 + ((-1) * x25 + 0) ≤ (-1)) (f21 : (-1) * x9 + ((-1) * x25 + 0) ≤ (-2001)) (f22 : 1 * x22 + ((-1) * x2 + 0) ≤ 0) (f23 : (-1) * x22 + 0 ≤ 0) (f24 : 1 * x15 + ((-1) * x13 + 0) ≤ 0) (f25 : (-1) * x15 + (1 * x13 + 0) ≤ 0) (f26 : 1 * x3 + ((-1) * x15 + 0) ≤ (-1)) (f27 : (-1) * x9 + ((-1) * x15 + 0) ≤ (-2000)) (f28 : 1 * x3 + ((-1) * x13 + 0) ≤ (-1)) (f29 : (-1) * x9 + ((-1) * x13 + 0) ≤ (-2000)) (f30 : 1 * x8 + ((-1) * x2 + 0) ≤ 0) (f31 : (-1) * x8 + 0 ≤ 0) (f32 : (-1) * x4 + 0 ≤ 0) (f34 : 1 * x15 + ((-1) * x13 + 0) ≤ 0) (f35 : (-1) * x15 + (1 * x13 + 0) ≤ 0) (f36 : 1 * x3 + ((-1) * x15 + 0) ≤ (-1)) (f37 : (-1) * x9 + ((-1) * x15 + 0) ≤ (-2000)) (f38 : 1 * x3 + ((-1) * x13 + 0) ≤ (-1)) (f39 : (-1) * x9 + ((-1) * x13 + 0) ≤ (-2000)) (f40 : 1 * x8 + ((-1) * x2 + 0) ≤ 0) (f41 : (-1) * x8 + 0 ≤ 0) (f42 : (-1) * x4 + 0 ≤ 0) (f44 : 1 * x15 + ((-1) * x13 + 0) ≤ 0) (f45 : (-1) * x15 + (1 * x13 + 0) ≤ 0) (f46 : 1 * x3 + ((-1) * x15 + 0) ≤ (-1)) (f47 : (-1) * x9 + ((-1) * x15 + 0) ≤ (-2000)) (f48 : 1 * x3 + ((-1) * x13 + 0) ≤ (-1)) (f49 : (-1) * x9 + ((-1) * x13 + 0) ≤ (-2000)) (f50 : 1 * x8 + ((-1) * x2 + 0) ≤ 0) (f51 : (-1) * x8 + 0 ≤ 0) (f52 : (-1) * x4 + 0 ≤ 0) (f54 : 1 * x3 + ((-1) * x13 + 0) ≤ (-1)) (f55 : (-1) * x9 + ((-1) * x13 + 0) ≤ (-2000)) (f56 : x8 ≤ 0) (f57 : 1 * x8 + ((-1) * x2 + 0) ≤ 0) (f58 : (-1) * x8 + 0 ≤ 0) (f59 : (-1) * x4 + 0 ≤ 0) (f61 : 1 * x8 + ((-1) * x2 + 0) ≤ 0) (f62 : (-1) * x8 + 0 ≤ 0) (f63 : (-1) * x4 + 0 ≤ 0) (kz_0_8 : 0 ≤ fault_0 ∧ fault_0 ≤ 5) (kz_0_11 : 0 ≤ pos_0 ∧ pos_0 ≤ 2000) (kz_0_12 : 0 ≤ kind_0 ∧ kind_0 ≤ 4) (kz_0_15 : 0 ≤ from_0 ∧ from_0 ≤ 2000) (ex2 : gx = 0 + (1 * x9 + 0)) (ex3 : 0 ≤ gx ∧ gx ≤ 2000) : 1 * x22 + ((-1) * x2 + 0) ≤ 0 := by
  first | assumption | (clear f17; omega) | omega | grind
set_option maxHeartbeats 4000000 in
theorem vc_Mo_of_at_s5003_26_4 (x2 : Int) (x3 : Int) (x4 : Int) (x7 : Int) (x8 : Int) (x9 : Int) (x13 : Int) (x15 : Int) (x22 : Int) (x25 : Int) (fault_0 : Int) (from_0 : Int) (pos_0 : Int) (kind_0 : Int) (gx : Int) (k2 : 9 ≤ x2 ∧ x2 ≤ 9) (k3 : 0 ≤ x3 ∧ x3 ≤ 2000) (k4 : (-1) ≤ x4 ∧ x4 ≤ 48) (k7 : 9 ≤ x7 ∧ x7 ≤ 9) (k8 : (-2147483648) ≤ x8 ∧ x8 ≤ 0) (k9 : 0 ≤ x9 ∧ x9 ≤ 2000) (k13 : 0 ≤ x13 ∧ x13 ≤ 2000) (k15 : 0 ≤ x15 ∧ x15 ≤ 2000) (k22 : 1 ≤ x22 ∧ x22 ≤ 9) (k25 : 0 ≤ x25 ∧ x25 ≤ 2000) (f0 : 1 * x3 + ((-1) * x25 + 0) ≤ (-1)) (f1 : (-1) * x9 + ((-1) * x25 + 0) ≤ (-2001)) (f2 : 1 * x22 + ((-1) * x2 + 0) ≤ 0) (f3 : (-1) * x22 + 0 ≤ 0) (f4 : 1 * x15 + ((-1) * x13 + 0) ≤ 0) (f5 : (-1) * x15 + (1 * x13 + 0) ≤ 0) (f6 : 1 * x3 + ((-1) * x15 + 0) ≤ (-1)) (f7 : (-1) * x9 + ((-1) * x15 + 0) ≤ (-2000)) (f8 : 1 * x3 + ((-1) * x13 + 0) ≤ (-1)) (f9 : (-1) * x9 + ((-1) * x13 + 0) ≤ (-2000)) (f10 : 1 * x8 + ((-1) * x2 + 0) ≤ 0) (f11 : (-1) * x8 + 0 ≤ 0) (f12 : (-1) * x4 + 0 ≤ 0) (f15 : (-1) * fault_0 + 0 ≤ (-1)) (f16 : 1 * from_0 + ((-1) * pos_0 + 0) ≤ 0) (f17 : ((kind_0 = 1) → (pos_0 ≤ (from_0 + 8))) ∧ ((kind_0 = 0) ∨ ((from_0 + 1) ≤ pos_0))) (f18 : 1 * x25 + ((-1) * from_0 + 0) ≤ 0) (f20 : 1 * x3 + ((-1) * x25 + 0) ≤ (-1)) (f21 : (-1) * x9 + ((-1) * x25 + 0) ≤ (-2001)) (f22 : 1 * x22 + ((-1) * x2 + 0) ≤ 0) (f23 : (-1) * x22 + 0 ≤ 0) (f24 : 1 * x15 + ((-1) * x13 + 0) ≤ 0) (f25 : (-1) * x15 + (1 * x13 + 0) ≤ 0) (f26 : 1 * x3 + ((-1) * x15 + 0) ≤ (-1)) (f27 : (-1) * x9 + ((-1) * x15 + 0) ≤ (-2000)) (f28 : 1 * x3 + ((-1) * x13 + 0) ≤ (-1)) (f29 : (-1) * x9 + ((-1) * x13 + 0) ≤ (-2000)) (f30 : 1 * x8 + ((-1) * x2 + 0) ≤ 0) (f31 : (-1) * x8 + 0 ≤ 0) (f32 : (-1) * x4 + 0 ≤ 0) (f34 : 1 * x15 + ((-1) * x13 + 0) ≤ 0) (f35 : (-1) * x15 + (1 * x13 + 0) ≤ 0) (f36 : 1 * x3 + ((-1) * x15 + 0) ≤ (-1)) (f37 : (-1) * x9 + ((-1) * x15 + 0) ≤ (-2000)) (f38 : 1 * x3 + ((-1) * x13 + 0) ≤ (-1)) (f39 : (-1) * x9 + ((-1) * x13 + 0) ≤ (-2000)) (f40 : 1 * x8 + ((-1) * x2 + 0) ≤ 0) (f41 : (-1) * x8 + 0 ≤ 0) (f42 : (-1) * x4 + 0 ≤ 0) (f44 : 1 * x15 + ((-1) * x13 + 0) ≤ 0) (f45 : (-1) * x15 + (1 * x13 + 0) ≤ 0) (f46 : 1 * x3 + ((-1) * x15 + 0) ≤ (-1)) (f47 : (-1) * x9 + ((-1) * x15 + 0) ≤ (-2000)) (f48 : 1 * x3 + ((-1) * x13 + 0) ≤ (-1)) (f49 : (-1) * x9 + ((-1) * x13 + 0) ≤ (-2000)) (f50 : 1 * x8 + ((-1) * x2 + 0) ≤ 0) (f51 : (-1) * x8 + 0 ≤ 0) (f52 : (-1) * x4 + 0 ≤ 0) (f54 : 1 * x3 + ((-1) * x13 + 0) ≤ (-1)) (f55 : (-1) * x9 + ((-1) * x13 + 0) ≤ (-2000)) (f56 : x8 ≤ 0) (f57 : 1 * x8 + ((-1) * x2 + 0) ≤ 0) (f58 : (-1) * x8 + 0 ≤ 0) (f59 : (-1) * x4 + 0 ≤ 0) (f61 : 1 * x8 + ((-1) * x2 + 0) ≤ 0) (f62 : (-1) * x8 + 0 ≤ 0) (f63 : (-1) * x4 + 0 ≤ 0) (kz_0_8 : 0 ≤ fault_0 ∧ fault_0 ≤ 5) (kz_0_11 : 0 ≤ pos_0 ∧ pos_0 ≤ 2000) (kz_0_12 : 0 ≤ kind_0 ∧ kind_0 ≤ 4) (kz_0_15 : 0 ≤ from_0 ∧ from_0 ≤ 2000) (ex2 : gx = 0 + (1 * x9 + 0)) (ex3 : 0 ≤ gx ∧ gx ≤ 2000) : (-1) * x22 + 0 ≤ 0 := by
  first | assumption | (clear f17; omega) | omega | grind
set_option maxHeartbeats 4000000 in
theorem vc_Mo_of_at_s5003_26_5 (x2 : Int) (x3 : Int) (x4 : Int) (x7 : Int) (x8 : Int) (x9 : Int) (x13 : Int) (x15 : Int) (x22 : Int) (x25 : Int) (fault_0 : Int) (from_0 : Int) (pos_0 : Int) (kind_0 : Int) (gx : Int) (k2 : 9 ≤ x2 ∧ x2 ≤ 9) (k3 : 0 ≤ x3 ∧ x3 ≤ 2000) (k4 : (-1) ≤ x4 ∧ x4 ≤ 48) (k7 : 9 ≤ x7 ∧ x7 ≤ 9) (k8 : (-2147483648) ≤ x8 ∧ x8 ≤ 0) (k9 : 0 ≤ x9 ∧ x9 ≤ 2000) (k13 : 0 ≤ x13 ∧ x13 ≤ 2000) (k15 : 0 ≤ x15 ∧ x15 ≤ 2000) (k22 : 1 ≤ x22 ∧ x22 ≤ 9) (k25 : 0 ≤ x25 ∧ x25 ≤ 2000) (f0 : 1 * x3 + ((-1) * x25 + 0) ≤ (-1)) (f1 : (-1) * x9 + ((-1) * x25 + 0) ≤ (-2001)) (f2 : 1 * x22 + ((-1) * x2 + 0) ≤ 0) (f3 : (-1) * x22 + 0 ≤ 0) (f4 : 1 * x15 + ((-1) * x13 + 0) ≤ 0) (f5 : (-1) * x15 + (1 * x13 + 0) ≤ 0) (f6 : 1 * x3 + ((-1) * x15 + 0) ≤ (-1)) (f7 : (-1) * x9 + ((-1) * x15 + 0) ≤ (-2000)) (f8 : 1 * x3 + ((-1) * x13 + 0) ≤ (-1)) (f9 : (-1) * x9 + ((-1) * x13 + 0) ≤ (-2000)) (f10 : 1 * x8 + ((-1) * x2 + 0) ≤ 0) (f11 : (-1) * x8 + 0 ≤ 0) (f12 : (-1) * x4 + 0 ≤ 0) (f15 : (-1) * fault_0 + 0 ≤ (-1)) (f16 : 1 * from_0 + ((-1) * pos_0 + 0) ≤ 0) (f17 : ((kind_0 = 1) → (pos_0 ≤ (from_0 + 8))) ∧ ((kind_0 = 0) ∨ ((from_0 + 1) ≤ pos_0))) (f18 : 1 * x25 + ((-1) * from_0 + 0) ≤ 0) (f20 : 1 * x3 + ((-1) * x25 + 0) ≤ (-1)) (f21 : (-1) * x9 + ((-1) * x25 + 0) ≤ (-2001)) (f22 : 1 * x22 + ((-1) * x2 + 0) ≤ 0) (f23 : (-1) * x22 + 0 ≤ 0) (f24 : 1 * x15 + ((-1) * x13 + 0) ≤ 0) (f25 : (-1) * x15 + (1 * x13 + 0) ≤ 0) (f26 : 1 * x3 + ((-1) * x15 + 0) ≤ (-1)) (f27 : (-1) * x9 + ((-1) * x15 + 0) ≤ (-2000)) (f28 : 1 * x3 + ((-1) * x13 + 0) ≤ (-1)) (f29 : (-1) * x9 + ((-1) * x13 + 0) ≤ (-2000)) (f30 : 1 * x8 + ((-1) * x2 + 0) ≤ 0) (f31 : (-1) * x8 + 0 ≤ 0) (f32 : (-1) * x4 + 0 ≤ 0) (f34 : 1 * x15 + ((-1) * x13 + 0) ≤ 0) (f35 : (-1) * x15 + (1 * x13 + 0) ≤ 0) (f36 : 1 * x3 + ((-1) * x15 + 0) ≤ (-1)) (f37 : (-1) * x9 + ((-1) * x15 + 0) ≤ (-2000)) (f38 : 1 * x3 + ((-1) * x13 + 0) ≤ (-1)) (f39 : (-1) * x9 + ((-1) * x13 + 0) ≤ (-2000)) (f40 : 1 * x8 + ((-1) * x2 + 0) ≤ 0) (f41 : (-1) * x8 + 0 ≤ 0) (f42 : (-1) * x4 + 0 ≤ 0) (f44 : 1 * x15 + ((-1) * x13 + 0) ≤ 0) (f45 : (-1) * x15 + (1 * x13 + 0) ≤ 0) (f46 : 1 * x3 + ((-1) * x15 + 0) ≤ (-1)) (f47 : (-1) * x9 + ((-1) * x15 + 0) ≤ (-2000)) (f48 : 1 * x3 + ((-1) * x13 + 0) ≤ (-1)) (f49 : (-1) * x9 + ((-1) * x13 + 0) ≤ (-2000)) (f50 : 1 * x8 + ((-1) * x2 + 0) ≤ 0) (f51 : (-1) * x8 + 0 ≤ 0) (f52 : (-1) * x4 + 0 ≤ 0) (f54 : 1 * x3 + ((-1) * x13 + 0) ≤ (-1)) (f55 : (-1) * x9 + ((-1) * x13 + 0) ≤ (-2000)) (f56 : x8 ≤ 0) (f57 : 1 * x8 + ((-1) * x2 + 0) ≤ 0) (f58 : (-1) * x8 + 0 ≤ 0) (f59 : (-1) * x4 + 0 ≤ 0) (f61 : 1 * x8 + ((-1) * x2 + 0) ≤ 0) (f62 : (-1) * x8 + 0 ≤ 0) (f63 : (-1) * x4 + 0 ≤ 0) (kz_0_8 : 0 ≤ fault_0 ∧ fault_0 ≤ 5) (kz_0_11 : 0 ≤ pos_0 ∧ pos_0 ≤ 2000) (kz_0_12 : 0 ≤ kind_0 ∧ kind_0 ≤ 4) (kz_0_15 : 0 ≤ from_0 ∧ from_0 ≤ 2000) (ex2 : gx = 0 + (1 * x9 + 0)) (ex3 : 0 ≤ gx ∧ gx ≤ 2000) : (-1) * x4 + 0 ≤ 0 := by
  first | assumption | (clear f17; omega) | omega | grind
set_option maxHeartbeats 4000000 in
theorem vc_Mo_of_at_s5003_26_6 (x2 : Int) (x3 : Int) (x4 : Int) (x7 : Int) (x8 : Int) (x9 : Int) (x13 : Int) (x15 : Int) (x22 : Int) (x25 : Int) (fault_0 : Int) (from_0 : Int) (pos_0 : Int) (kind_0 : Int) (gx : Int) (k2 : 9 ≤ x2 ∧ x2 ≤ 9) (k3 : 0 ≤ x3 ∧ x3 ≤ 2000) (k4 : (-1) ≤ x4 ∧ x4 ≤ 48) (k7 : 9 ≤ x7 ∧ x7 ≤ 9) (k8 : (-2147483648) ≤ x8 ∧ x8 ≤ 0) (k9 : 0 ≤ x9 ∧ x9 ≤ 2000) (k13 : 0 ≤ x13 ∧ x13 ≤ 2000) (k15 : 0 ≤ x15 ∧ x15 ≤ 2000) (k22 : 1 ≤ x22 ∧ x22 ≤ 9) (k25 : 0 ≤ x25 ∧ x25 ≤ 2000) (f0 : 1 * x3 + ((-1) * x25 + 0) ≤ (-1)) (f1 : (-1) * x9 + ((-1) * x25 + 0) ≤ (-2001)) (f2 : 1 * x22 + ((-1) * x2 + 0) ≤ 0) (f3 : (-1) * x22 + 0 ≤ 0) (f4 : 1 * x15 + ((-1) * x13 + 0) ≤ 0) (f5 : (-1) * x15 + (1 * x13 + 0) ≤ 0) (f6 : 1 * x3 + ((-1) * x15 + 0) ≤ (-1)) (f7 : (-1) * x9 + ((-1) * x15 + 0) ≤ (-2000)) (f8 : 1 * x3 + ((-1) * x13 + 0) ≤ (-1)) (f9 : (-1) * x9 + ((-1) * x13 + 0) ≤ (-2000)) (f10 : 1 * x8 + ((-1) * x2 + 0) ≤ 0) (f11 : (-1) * x8 + 0 ≤ 0) (f12 : (-1) * x4 + 0 ≤ 0) (f15 : (-1) * fault_0 + 0 ≤ (-1)) (f16 : 1 * from_0 + ((-1) * pos_0 + 0) ≤ 0) (f17 : ((kind_0 = 1) → (pos_0 ≤ (from_0 + 8))) ∧ ((kind_0 = 0) ∨ ((from_0 + 1) ≤ pos_0))) (f18 : 1 * x25 + ((-1) * from_0 + 0) ≤ 0) (f20 : 1 * x3 + ((-1) * x25 + 0) ≤ (-1)) (f21 : (-1) * x9 + ((-1) * x25 + 0) ≤ (-2001)) (f22 : 1 * x22 + ((-1) * x2 + 0) ≤ 0) (f23 : (-1) * x22 + 0 ≤ 0) (f24 : 1 * x15 + ((-1) * x13 + 0) ≤ 0) (f25 : (-1) * x15 + (1 * x13 + 0) ≤ 0) (f26 : 1 * x3 + ((-1) * x15 + 0) ≤ (-1)) (f27 : (-1) * x9 + ((-1) * x15 + 0) ≤ (-2000)) (f28 : 1 * x3 + ((-1) * x13 + 0) ≤ (-1)) (f29 : (-1) * x9 + ((-1) * x13 + 0) ≤ (-2000)) (f30 : 1 * x8 + ((-1) * x2 + 0) ≤ 0) (f31 : (-1) * x8 + 0 ≤ 0) (f32 : (-1) * x4 + 0 ≤ 0) (f34 : 1 * x15 + ((-1) * x13 + 0) ≤ 0) (f35 : (-1) * x15 + (1 * x13 + 0) ≤ 0) (f36 : 1 * x3 + ((-1) * x15 + 0) ≤ (-1)) (f37 : (-1) * x9 + ((-1) * x15 + 0) ≤ (-2000)) (f38 : 1 * x3 + ((-1) * x13 + 0) ≤ (-1)) (f39 : (-1) * x9 + ((-1) * x13 + 0) ≤ (-2000)) (f40 : 1 * x8 + ((-1) * x2 + 0) ≤ 0) (f41 : (-1) * x8 + 0 ≤ 0) (f42 : (-1) * x4 + 0 ≤ 0) (f44 : 1 * x15 + ((-1) * x13 + 0) ≤ 0) (f45 : (-1) * x15 + (1 * x13 + 0) ≤ 0) (f46 : 1 * x3 + ((-1) * x15 + 0) ≤ (-1)) (f47 : (-1) * x9 + ((-1) * x15 + 0) ≤ (-2000)) (f48 : 1 * x3 + ((-1) * x13 + 0) ≤ (-1)) (f49 : (-1) * x9 + ((-1) * x13 + 0) ≤ (-2000)) (f50 : 1 * x8 + ((-1) * x2 + 0) ≤ 0) (f51 : (-1) * x8 + 0 ≤ 0) (f52 : (-1) * x4 + 0 ≤ 0) (f54 : 1 * x3 + ((-1) * x13 + 0) ≤ (-1)) (f55 : (-1) * x9 + ((-1) * x13 + 0) ≤ (-2000)) (f56 : x8 ≤ 0) (f57 : 1 * x8 + ((-1) * x2 + 0) ≤ 0) (f58 : (-1) * x8 + 0 ≤ 0) (f59 : (-1) * x4 + 0 ≤ 0) (f61 : 1 * x8 + ((-1) * x2 + 0) ≤ 0) (f62 : (-1) * x8 + 0 ≤ 0) (f63 : (-1) * x4 + 0 ≤ 0) (kz_0_8 : 0 ≤ fault_0 ∧ fault_0 ≤ 5) (kz_0_11 : 0 ≤ pos_0 ∧ pos_0 ≤ 2000) (kz_0_12 : 0 ≤ kind_0 ∧ kind_0 ≤ 4) (kz_0_15 : 0 ≤ from_0 ∧ from_0 ≤ 2000) (ex2 : gx = 0 + (1 * x9 + 0)) (ex3 : 0 ≤ gx ∧ gx ≤ 2000) : (-1) * gx + ((-1) * pos_0 + 0) ≤ (-2001) := by
  first | assumption | (clear f17; omega) | omega | grind
def o_Mo_of_at_s5003_26 : or_T := (139, 26, [(0, (2, 0, 0, [165])), (2, (0, 9, 9, [])), (3, (0, 0, 2000, [])), (4, (0, -1, 48, [])), (5, (2, 0, 0, [165])), (7, (0, 9, 9, [])), (8, (0, -2147483648, 0, [])), (9, (0, 0, 2000, [])), (13, (0, 0, 2000, [])), (15, (0, 0, 2000, [])), (22, (0, 1, 9, [])), (25, (0, 0, 2000, []))], [(23, [3, 25], [-1, 1, -1]), (23, [9, 25], [-2001, -1, -1]), (23, [22, 7], [0, 1, -1]), (23, [22], [0, -1]), (23, [15, 13], [0, 1, -1]), (23, [15, 13], [0, -1, 1]), (23, [3, 15], [-1, 1, -1]), (23, [9, 15], [-2000, -1, -1]), (23, [3, 13], [-1, 1, -1]), (23, [9, 13], [-2000, -1, -1]), (23, [8, 7], [0, 1, -1]), (23, [8], [0, -1]), (23, [4], [0, -1]), (24, [0, 5], []), (24, [2, 7], []), (20, [5], [30, -1, -1, 1, 8]), (20, [5, 5], [30, 0, 1, 1, 15, -1, 1, 11]), (20, [5], [50, 3, 0, 12, 11, 15, 2, 21, 4, 7, 1, 3, 2, 0, 12, 0, 1, 0, 3, 2, 0, 11, 4, 3, 2, 0, 15, 0, 8, 3, 7, 1, 3, 2, 0, 12, 0, 0, 0, 7, 4, 3, 2, 0, 15, 0, 1, 2, 0, 11]), (20, [25, 5], [30, 0, 1, 0, 0, -1, 1, 15]), (102, [25], [0, 165011, 165012, 165013, 165014, 165015]), (23, [3, 25], [-1, 1, -1]), (23, [9, 25], [-2001, -1, -1]), (23, [22, 7], [0, 1, -1]), (23, [22], [0, -1]), (23, [15, 13], [0, 1, -1]), (23, [15, 13], [0, -1, 1]), (23, [3, 15], [-1, 1, -1]), (23, [9, 15], [-2000, -1, -1]), (23, [3, 13], [-1, 1, -1]), (23, [9, 13], [-2000, -1, -1]), (23, [8, 7], [0, 1, -1]), (23, [8], [0, -1]), (23, [4], [0, -1]), (102, [20], [0, 165008, 165009]), (23, [15, 13], [0, 1, -1]), (23, [15, 13], [0, -1, 1]), (23, [3, 15], [-1, 1, -1]), (23, [9, 15], [-2000, -1, -1]), (23, [3, 13], [-1, 1, -1]), (23, [9, 13], [-2000, -1, -1]), (23, [8, 7], [0, 1, -1]), (23, [8], [0, -1]), (23, [4], [0, -1]), (102, [15], [0, 165008, 165009, 165011, 165012, 165013, 165014, 165015]), (23, [15, 13], [0, 1, -1]), (23, [15, 13], [0, -1, 1]), (23, [3, 15], [-1, 1, -1]), (23, [9, 15], [-2000, -1, -1]), (23, [3, 13], [-1, 1, -1]), (23, [9, 13], [-2000, -1, -1]), (23, [8, 7], [0, 1, -1]), (23, [8], [0, -1]), (23, [4], [0, -1]), (102, [13], [0, 165011, 165012, 165013, 165014, 165015]), (23, [3, 13], [-1, 1, -1]), (23, [9, 13], [-2000, -1, -1]), (8, [8], [5]), (23, [8, 7], [0, 1, -1]), (23, [8], [0, -1]), (23, [4], [0, -1]), (102, [11], [0]), (23, [8, 7], [0, 1, -1]), (23, [8], [0, -1]), (23, [4], [0, -1])], [], [(0, 0, 2000, [])], [(20, [5, 5], [30, 0, 1, 1, 15, -1, 1, 11]), (20, [5], [50, 3, 0, 12, 11, 15, 2, 21, 4, 7, 1, 3, 2, 0, 12, 0, 1, 0, 3, 2, 0, 11, 4, 3, 2, 0, 15, 0, 8, 3, 7, 1, 3, 2, 0, 12, 0, 0, 0, 7, 4, 3, 2, 0, 15, 0, 1, 2, 0, 11]), (20, [3, 5], [30, -1, 1, 0, 0, -1, 1, 11]), (23, [22, 7], [0, 1, -1]), (23, [22], [0, -1]), (23, [4], [0, -1]), (20, [26, 5], [30, -2001, -1, 0, 0, -1, 1, 11]), (24, [0, 5], []), (24, [2, 7], [])], [(26, 9, 0, 0)], [])
theorem oo_Mo_of_at_s5003_26 {kA : Nat → ClassId} : or_ok PRD kA GG o_Mo_of_at_s5003_26 := by
  refine or_mk fun A ta ws vs hD hth hl => ?_
  intro t0 r0 t2 k2 t3 k3 t4 k4 t5 r5 t7 k7 t8 k8 t9 k9 t13 k13 t15 k15 t22 k22 t25 k25 f0 f1 f2 f3 f4 f5 f6 f7 f8 f9 f10 f11 f12 f13 f14 f15 f16 f17 f18 ta1 w1 le1 s1 f20 f21 f22 f23 f24 f25 f26 f27 f28 f29 f30 f31 f32 ta2 w2 le2 s2 f34 f35 f36 f37 f38 f39 f40 f41 f42 ta3 w3 le3 s3 f44 f45 f46 f47 f48 f49 f50 f51 f52 ta4 w4 le4 s4 f54 f55 f56 f57 f58 f59 ta5 w5 le5 s5 f61 f62 f63
  replace f0 := shm_211 f0
  replace f1 := shm_1895 f1
  replace f2 := shm_7 f2
  replace f3 := shm_1013 f3
  replace f4 := shm_7 f4
  replace f5 := shm_22 f5
  replace f6 := shm_211 f6
  replace f7 := shm_1894 f7
  replace f8 := shm_211 f8
  replace f9 := shm_1894 f9
  replace f10 := shm_7 f10
  replace f11 := shm_1013 f11
  replace f12 := shm_1013 f12
  replace f13 := shm_5 f13
  replace f14 := shm_5 f14
  replace f15 := shm_144 f15
  replace f16 := shm_1397 f16
  replace f17 := shm_1398 f17
  replace f18 := shm_1396 f18
  replace f20 := shm_211 f20
  replace f21 := shm_1895 f21
  replace f22 := shm_7 f22
  replace f23 := shm_1013 f23
  replace f24 := shm_7 f24
  replace f25 := shm_22 f25
  replace f26 := shm_211 f26
  replace f27 := shm_1894 f27
  replace f28 := shm_211 f28
  replace f29 := shm_1894 f29
  replace f30 := shm_7 f30
  replace f31 := shm_1013 f31
  replace f32 := shm_1013 f32
  replace f34 := shm_7 f34
  replace f35 := shm_22 f35
  replace f36 := shm_211 f36
  replace f37 := shm_1894 f37
  replace f38 := shm_211 f38
  replace f39 := shm_1894 f39
  replace f40 := shm_7 f40
  replace f41 := shm_1013 f41
  replace f42 := shm_1013 f42
  replace f44 := shm_7 f44
  replace f45 := shm_22 f45
  replace f46 := shm_211 f46
  replace f47 := shm_1894 f47
  replace f48 := shm_211 f48
  replace f49 := shm_1894 f49
  replace f50 := shm_7 f50
  replace f51 := shm_1013 f51
  replace f52 := shm_1013 f52
  replace f54 := shm_211 f54
  replace f55 := shm_1894 f55
  replace f56 := shm_142 f56
  replace f57 := shm_7 f57
  replace f58 := shm_1013 f58
  replace f59 := shm_1013 f59
  replace f61 := shm_7 f61
  replace f62 := shm_1013 f62
  replace f63 := shm_1013 f63
  have q5 : n_v vs 5 = n_v vs 0 := f13.symm
  have q7 : n_v vs 7 = n_v vs 2 := f14.symm
  simp only [q7, q5] at f2 f10 f15 f16 f17 f18 f22 f30 f40 f50 f57 f61
  have kz_0_8 := fdq_14 hD hth r0
  have kz_0_11 := fdq_273 hD hth r0
  have kz_0_12 := fdq_186 hD hth r0
  have kz_0_15 := fdq_274 hD hth r0
  obtain ⟨x, ex, hx⟩ := iv_ex (ta := ta) (lo := 0) (hi := 2000) (z := 0 + (1 * v_iv (n_v vs 9) + 0)) (by omega) (by omega) (by omega) (by omega)
  have ex2 : v_iv (Value.int x) = 0 + (1 * v_iv (n_v vs 9) + 0) := ex
  have ex3 : 0 ≤ v_iv (Value.int x) ∧ v_iv (Value.int x) ≤ 2000 := tv_rng hx
  have e_0 : n_v (vs ++ [Value.int x]) 0 = n_v vs 0 := n_v_old (by rw [hl]; decide)
  have e_2 : n_v (vs ++ [Value.int x]) 2 = n_v vs 2 := n_v_old (by rw [hl]; decide)
  have e_3 : n_v (vs ++ [Value.int x]) 3 = n_v vs 3 := n_v_old (by rw [hl]; decide)
  have e_4 : n_v (vs ++ [Value.int x]) 4 = n_v vs 4 := n_v_old (by rw [hl]; decide)
  have e_5 : n_v (vs ++ [Value.int x]) 5 = n_v vs 5 := n_v_old (by rw [hl]; decide)
  have e_7 : n_v (vs ++ [Value.int x]) 7 = n_v vs 7 := n_v_old (by rw [hl]; decide)
  have e_22 : n_v (vs ++ [Value.int x]) 22 = n_v vs 22 := n_v_old (by rw [hl]; decide)
  have e_26 : n_v (vs ++ [Value.int x]) 26 = Value.int x := n_v_new hl
  have nf0 : fc_1 PRD (20, [5, 5], [30, 0, 1, 1, 15, -1, 1, 11]) ws (vs ++ [Value.int x]) := by
    refine ⟨nf_inA hl rfl, sgq_1397 ?_⟩
    · show 1 * w_fi ws (n_v (vs ++ [Value.int x]) 5) 15 + ((-1) * w_fi ws (n_v (vs ++ [Value.int x]) 5) 11 + 0) ≤ 0
      simp only [e_5, q5]
      exact vc_Mo_of_at_s5003_26_0 (v_iv (n_v vs 2)) (v_iv (n_v vs 3)) (v_iv (n_v vs 4)) (v_iv (n_v vs 7)) (v_iv (n_v vs 8)) (v_iv (n_v vs 9)) (v_iv (n_v vs 13)) (v_iv (n_v vs 15)) (v_iv (n_v vs 22)) (v_iv (n_v vs 25)) (w_fi ws (n_v vs 0) 8) (w_fi ws (n_v vs 0) 15) (w_fi ws (n_v vs 0) 11) (w_fi ws (n_v vs 0) 12) (v_iv (Value.int x)) k2 k3 k4 k7 k8 k9 k13 k15 k22 k25 f0 f1 f2 f3 f4 f5 f6 f7 f8 f9 f10 f11 f12 f15 f16 f17 f18 f20 f21 f22 f23 f24 f25 f26 f27 f28 f29 f30 f31 f32 f34 f35 f36 f37 f38 f39 f40 f41 f42 f44 f45 f46 f47 f48 f49 f50 f51 f52 f54 f55 f56 f57 f58 f59 f61 f62 f63 kz_0_8 kz_0_11 kz_0_12 kz_0_15 ex2 ex3
  have nf1 : fc_1 PRD (20, [5], [50, 3, 0, 12, 11, 15, 2, 21, 4, 7, 1, 3, 2, 0, 12, 0, 1, 0, 3, 2, 0, 11, 4, 3, 2, 0, 15, 0, 8, 3, 7, 1, 3, 2, 0, 12, 0, 0, 0, 7, 4, 3, 2, 0, 15, 0, 1, 2, 0, 11]) ws (vs ++ [Value.int x]) := by
    refine ⟨nf_inA hl rfl, sgq_1398 ?_⟩
    · show ((w_fi ws (n_v (vs ++ [Value.int x]) 5) 12 = 1) → (w_fi ws (n_v (vs ++ [Value.int x]) 5) 11 ≤ (w_fi ws (n_v (vs ++ [Value.int x]) 5) 15 + 8))) ∧ ((w_fi ws (n_v (vs ++ [Value.int x]) 5) 12 = 0) ∨ ((w_fi ws (n_v (vs ++ [Value.int x]) 5) 15 + 1) ≤ w_fi ws (n_v (vs ++ [Value.int x]) 5) 11))
      simp only [e_5, q5]
      exact vc_Mo_of_at_s5003_26_1 (v_iv (n_v vs 2)) (v_iv (n_v vs 3)) (v_iv (n_v vs 4)) (v_iv (n_v vs 7)) (v_iv (n_v vs 8)) (v_iv (n_v vs 9)) (v_iv (n_v vs 13)) (v_iv (n_v vs 15)) (v_iv (n_v vs 22)) (v_iv (n_v vs 25)) (w_fi ws (n_v vs 0) 8) (w_fi ws (n_v vs 0) 15) (w_fi ws (n_v vs 0) 11) (w_fi ws (n_v vs 0) 12) (v_iv (Value.int x)) k2 k3 k4 k7 k8 k9 k13 k15 k22 k25 f0 f1 f2 f3 f4 f5 f6 f7 f8 f9 f10 f11 f12 f15 f16 f17 f18 f20 f21 f22 f23 f24 f25 f26 f27 f28 f29 f30 f31 f32 f34 f35 f36 f37 f38 f39 f40 f41 f42 f44 f45 f46 f47 f48 f49 f50 f51 f52 f54 f55 f56 f57 f58 f59 f61 f62 f63 kz_0_8 kz_0_11 kz_0_12 kz_0_15 ex2 ex3
  have nf2 : fc_1 PRD (20, [3, 5], [30, -1, 1, 0, 0, -1, 1, 11]) ws (vs ++ [Value.int x]) := by
    refine ⟨nf_inA hl rfl, sgq_1891 ?_⟩
    · show 1 * v_iv (n_v (vs ++ [Value.int x]) 3) + ((-1) * w_fi ws (n_v (vs ++ [Value.int x]) 5) 11 + 0) ≤ (-1)
      simp only [e_3, e_5, q5]
      exact vc_Mo_of_at_s5003_26_2 (v_iv (n_v vs 2)) (v_iv (n_v vs 3)) (v_iv (n_v vs 4)) (v_iv (n_v vs 7)) (v_iv (n_v vs 8)) (v_iv (n_v vs 9)) (v_iv (n_v vs 13)) (v_iv (n_v vs 15)) (v_iv (n_v vs 22)) (v_iv (n_v vs 25)) (w_fi ws (n_v vs 0) 8) (w_fi ws (n_v vs 0) 15) (w_fi ws (n_v vs 0) 11) (w_fi ws (n_v vs 0) 12) (v_iv (Value.int x)) k2 k3 k4 k7 k8 k9 k13 k15 k22 k25 f0 f1 f2 f3 f4 f5 f6 f7 f8 f9 f10 f11 f12 f15 f16 f17 f18 f20 f21 f22 f23 f24 f25 f26 f27 f28 f29 f30 f31 f32 f34 f35 f36 f37 f38 f39 f40 f41 f42 f44 f45 f46 f47 f48 f49 f50 f51 f52 f54 f55 f56 f57 f58 f59 f61 f62 f63 kz_0_8 kz_0_11 kz_0_12 kz_0_15 ex2 ex3
  have nf3 : fc_1 PRD (23, [22, 7], [0, 1, -1]) ws (vs ++ [Value.int x]) := by
    refine ⟨nf_inA hl rfl, sgq_7 ?_⟩
    · show 1 * v_iv (n_v (vs ++ [Value.int x]) 22) + ((-1) * v_iv (n_v (vs ++ [Value.int x]) 7) + 0) ≤ 0
      simp only [e_7, e_22, q7]
      exact vc_Mo_of_at_s5003_26_3 (v_iv (n_v vs 2)) (v_iv (n_v vs 3)) (v_iv (n_v vs 4)) (v_iv (n_v vs 7)) (v_iv (n_v vs 8)) (v_iv (n_v vs 9)) (v_iv (n_v vs 13)) (v_iv (n_v vs 15)) (v_iv (n_v vs 22)) (v_iv (n_v vs 25)) (w_fi ws (n_v vs 0) 8) (w_fi ws (n_v vs 0) 15) (w_fi ws (n_v vs 0) 11) (w_fi ws (n_v vs 0) 12) (v_iv (Value.int x)) k2 k3 k4 k7 k8 k9 k13 k15 k22 k25 f0 f1 f2 f3 f4 f5 f6 f7 f8 f9 f10 f11 f12 f15 f16 f17 f18 f20 f21 f22 f23 f24 f25 f26 f27 f28 f29 f30 f31 f32 f34 f35 f36 f37 f38 f39 f40 f41 f42 f44 f45 f46 f47 f48 f49 f50 f51 f52 f54 f55 f56 f57 f58 f59 f61 f62 f63 kz_0_8 kz_0_11 kz_0_12 kz_0_15 ex2 ex3
  have nf4 : fc_1 PRD (23, [22], [0, -1]) ws (vs ++ [Value.int x]) := by
    refine ⟨nf_inA hl rfl, sgq_1013 ?_⟩
    · show (-1) * v_iv (n_v (vs ++ [Value.int x]) 22) + 0 ≤ 0
      rw [e_22]
      exact vc_Mo_of_at_s5003_26_4 (v_iv (n_v vs 2)) (v_iv (n_v vs 3)) (v_iv (n_v vs 4)) (v_iv (n_v vs 7)) (v_iv (n_v vs 8)) (v_iv (n_v vs 9)) (v_iv (n_v vs 13)) (v_iv (n_v vs 15)) (v_iv (n_v vs 22)) (v_iv (n_v vs 25)) (w_fi ws (n_v vs 0) 8) (w_fi ws (n_v vs 0) 15) (w_fi ws (n_v vs 0) 11) (w_fi ws (n_v vs 0) 12) (v_iv (Value.int x)) k2 k3 k4 k7 k8 k9 k13 k15 k22 k25 f0 f1 f2 f3 f4 f5 f6 f7 f8 f9 f10 f11 f12 f15 f16 f17 f18 f20 f21 f22 f23 f24 f25 f26 f27 f28 f29 f30 f31 f32 f34 f35 f36 f37 f38 f39 f40 f41 f42 f44 f45 f46 f47 f48 f49 f50 f51 f52 f54 f55 f56 f57 f58 f59 f61 f62 f63 kz_0_8 kz_0_11 kz_0_12 kz_0_15 ex2 ex3
  have nf5 : fc_1 PRD (23, [4], [0, -1]) ws (vs ++ [Value.int x]) := by
    refine ⟨nf_inA hl rfl, sgq_1013 ?_⟩
    · show (-1) * v_iv (n_v (vs ++ [Value.int x]) 4) + 0 ≤ 0
      rw [e_4]
      exact vc_Mo_of_at_s5003_26_5 (v_iv (n_v vs 2)) (v_iv (n_v vs 3)) (v_iv (n_v vs 4)) (v_iv (n_v vs 7)) (v_iv (n_v vs 8)) (v_iv (n_v vs 9)) (v_iv (n_v vs 13)) (v_iv (n_v vs 15)) (v_iv (n_v vs 22)) (v_iv (n_v vs 25)) (w_fi ws (n_v vs 0) 8) (w_fi ws (n_v vs 0) 15) (w_fi ws (n_v vs 0) 11) (w_fi ws (n_v vs 0) 12) (v_iv (Value.int x)) k2 k3 k4 k7 k8 k9 k13 k15 k22 k25 f0 f1 f2 f3 f4 f5 f6 f7 f8 f9 f10 f11 f12 f15 f16 f17 f18 f20 f21 f22 f23 f24 f25 f26 f27 f28 f29 f30 f31 f32 f34 f35 f36 f37 f38 f39 f40 f41 f42 f44 f45 f46 f47 f48 f49 f50 f51 f52 f54 f55 f56 f57 f58 f59 f61 f62 f63 kz_0_8 kz_0_11 kz_0_12 kz_0_15 ex2 ex3
  have nf6 : fc_1 PRD (20, [26, 5], [30, -2001, -1, 0, 0, -1, 1, 11]) ws (vs ++ [Value.int x]) := by
    refine ⟨nf_inA hl rfl, sgq_1896 ?_⟩
    · show (-1) * v_iv (n_v (vs ++ [Value.int x]) 26) + ((-1) * w_fi ws (n_v (vs ++ [Value.int x]) 5) 11 + 0) ≤ (-2001)
      simp only [e_5, e_26, q5]
      exact vc_Mo_of_at_s5003_26_6 (v_iv (n_v vs 2)) (v_iv (n_v vs 3)) (v_iv (n_v vs 4)) (v_iv (n_v vs 7)) (v_iv (n_v vs 8)) (v_iv (n_v vs 9)) (v_iv (n_v vs 13)) (v_iv (n_v vs 15)) (v_iv (n_v vs 22)) (v_iv (n_v vs 25)) (w_fi ws (n_v vs 0) 8) (w_fi ws (n_v vs 0) 15) (w_fi ws (n_v vs 0) 11) (w_fi ws (n_v vs 0) 12) (v_iv (Value.int x)) k2 k3 k4 k7 k8 k9 k13 k15 k22 k25 f0 f1 f2 f3 f4 f5 f6 f7 f8 f9 f10 f11 f12 f15 f16 f17 f18 f20 f21 f22 f23 f24 f25 f26 f27 f28 f29 f30 f31 f32 f34 f35 f36 f37 f38 f39 f40 f41 f42 f44 f45 f46 f47 f48 f49 f50 f51 f52 f54 f55 f56 f57 f58 f59 f61 f62 f63 kz_0_8 kz_0_11 kz_0_12 kz_0_15 ex2 ex3
  have nf7 : fc_1 PRD (24, [0, 5], []) ws (vs ++ [Value.int x]) := by
    refine ⟨nf_inA hl rfl, sgq_5 ?_⟩
    · show n_v (vs ++ [Value.int x]) 0 = n_v (vs ++ [Value.int x]) 5
      first | rfl | simp only [e_0, e_5, q5, q7]
  have nf8 : fc_1 PRD (24, [2, 7], []) ws (vs ++ [Value.int x]) := by
    refine ⟨nf_inA hl rfl, sgq_5 ?_⟩
    · show n_v (vs ++ [Value.int x]) 2 = n_v (vs ++ [Value.int x]) 7
      first | rfl | simp only [e_2, e_7, q5, q7]
  obtain ⟨x0, e0, _, _⟩ := tv_int t9 rfl
  have e1 : v_iv (n_v vs 9) = x0.toInt := by rw [e0]; rfl
  have ho : sy_ofs (vs ++ [Value.int x]) (26, 9, 0, 0) := by
    refine ⟨x, x0, by rw [List.getElem?_append_right (by rw [hl]; decide), hl]; rfl, ?_, ?_, ?_⟩
    · rw [List.getElem?_append_left (by rw [hl]; decide)]; exact n_v_some (by rw [hl]; decide) e0
    · show x0.toInt + 0 ≤ x.toInt; omega
    · show x.toInt ≤ x0.toInt + 0; omega
  exact ⟨(fun _ h => (by cases h)), [Value.int x], ag_one hx, List.forall_mem_cons.mpr ⟨⟨show (20 : Nat) < 100 from by decide, nf0⟩, List.forall_mem_cons.mpr ⟨⟨show (20 : Nat) < 100 from by decide, nf1⟩, List.forall_mem_cons.mpr ⟨⟨show (20 : Nat) < 100 from by decide, nf2⟩, List.forall_mem_cons.mpr ⟨⟨show (23 : Nat) < 100 from by decide, nf3⟩, List.forall_mem_cons.mpr ⟨⟨show (23 : Nat) < 100 from by decide, nf4⟩, List.forall_mem_cons.mpr ⟨⟨show (23 : Nat) < 100 from by decide, nf5⟩, List.forall_mem_cons.mpr ⟨⟨show (20 : Nat) < 100 from by decide, nf6⟩, List.forall_mem_cons.mpr ⟨⟨show (24 : Nat) < 100 from by decide, nf7⟩, List.forall_mem_cons.mpr ⟨⟨show (24 : Nat) < 100 from by decide, nf8⟩, (fun _ h => (by cases h))⟩⟩⟩⟩⟩⟩⟩⟩⟩, List.forall_mem_cons.mpr ⟨ho, (fun _ h => (by cases h))⟩⟩
set_option maxHeartbeats 4000000 in
theorem vc_Mo_of_at_s5003_27_0 (x2 : Int) (x3 : Int) (x4 : Int) (x7 : Int) (x9 : Int) (x12 : Int) (x15 : Int) (from_0 : Int) (pos_0 : Int) (kind_0 : Int) (fault_0 : Int) (k2 : 9 ≤ x2 ∧ x2 ≤ 9) (k3 : 0 ≤ x3 ∧ x3 ≤ 2000) (k4 : (-1) ≤ x4 ∧ x4 ≤ 48) (k7 : 9 ≤ x7 ∧ x7 ≤ 9) (k9 : 0 ≤ x9 ∧ x9 ≤ 2000) (k12 : 1 ≤ x12 ∧ x12 ≤ 1) (k15 : 0 ≤ x15 ∧ x15 ≤ 0) (f0 : 1 * from_0 + ((-1) * pos_0 + 0) ≤ 0) (f1 : ((kind_0 = 1) → (pos_0 ≤ (from_0 + 8))) ∧ ((kind_0 = 0) ∨ ((from_0 + 1) ≤ pos_0))) (f2 : 1 * x3 + ((-1) * pos_0 + 0) ≤ (-1)) (f3 : (-1) * x4 + 0 ≤ 0) (f6 : 1 * x9 + (1 * pos_0 + 0) ≤ 2000) (f7 : (-1) * x9 + ((-1) * pos_0 + 0) ≤ (-2000)) (f8 : (x12 = 1) → (kind_0 = 1)) (f9 : (-1) * fault_0 + 0 ≤ (-1)) (f11 : x12 ≠ 0) (f12 : (-1) * x4 + 0 ≤ 0) (f14 : (-1) * x4 + 0 ≤ 0) (kz_0_8 : 0 ≤ fault_0 ∧ fault_0 ≤ 5) (kz_0_11 : 0 ≤ pos_0 ∧ pos_0 ≤ 2000) (kz_0_12 : 0 ≤ kind_0 ∧ kind_0 ≤ 4) (kz_0_15 : 0 ≤ from_0 ∧ from_0 ≤ 2000) : 1 * from_0 + ((-1) * pos_0 + 0) ≤ 0 := by
  first | assumption | (clear f1 f8; omega) | omega | grind
set_option maxHeartbeats 4000000 in
theorem vc_Mo_of_at_s5003_27_1 (x2 : Int) (x3 : Int) (x4 : Int) (x7 : Int) (x9 : Int) (x12 : Int) (x15 : Int) (from_0 : Int) (pos_0 : Int) (kind_0 : Int) (fault_0 : Int) (k2 : 9 ≤ x2 ∧ x2 ≤ 9) (k3 : 0 ≤ x3 ∧ x3 ≤ 2000) (k4 : (-1) ≤ x4 ∧ x4 ≤ 48) (k7 : 9 ≤ x7 ∧ x7 ≤ 9) (k9 : 0 ≤ x9 ∧ x9 ≤ 2000) (k12 : 1 ≤ x12 ∧ x12 ≤ 1) (k15 : 0 ≤ x15 ∧ x15 ≤ 0) (f0 : 1 * from_0 + ((-1) * pos_0 + 0) ≤ 0) (f1 : ((kind_0 = 1) → (pos_0 ≤ (from_0 + 8))) ∧ ((kind_0 = 0) ∨ ((from_0 + 1) ≤ pos_0))) (f2 : 1 * x3 + ((-1) * pos_0 + 0) ≤ (-1)) (f3 : (-1) * x4 + 0 ≤ 0) (f6 : 1 * x9 + (1 * pos_0 + 0) ≤ 2000) (f7 : (-1) * x9 + ((-1) * pos_0 + 0) ≤ (-2000)) (f8 : (x12 = 1) → (kind_0 = 1)) (f9 : (-1) * fault_0 + 0 ≤ (-1)) (f11 : x12 ≠ 0) (f12 : (-1) * x4 + 0 ≤ 0) (f14 : (-1) * x4 + 0 ≤ 0) (kz_0_8 : 0 ≤ fault_0 ∧ fault_0 ≤ 5) (kz_0_11 : 0 ≤ pos_0 ∧ pos_0 ≤ 2000) (kz_0_12 : 0 ≤ kind_0 ∧ kind_0 ≤ 4) (kz_0_15 : 0 ≤ from_0 ∧ from_0 ≤ 2000) : ((kind_0 = 1) → (pos_0 ≤ (from_0 + 8))) ∧ ((kind_0 = 0) ∨ ((from_0 + 1) ≤ pos_0)) := by
  first | assumption | (clear f1 f8; omega) | omega | grind
set_option maxHeartbeats 4000000 in
theorem vc_Mo_of_at_s5003_27_2 (x2 : Int) (x3 : Int) (x4 : Int) (x7 : Int) (x9 : Int) (x12 : Int) (x15 : Int) (from_0 : Int) (pos_0 : Int) (kind_0 : Int) (fault_0 : Int) (k2 : 9 ≤ x2 ∧ x2 ≤ 9) (k3 : 0 ≤ x3 ∧ x3 ≤ 2000) (k4 : (-1) ≤ x4 ∧ x4 ≤ 48) (k7 : 9 ≤ x7 ∧ x7 ≤ 9) (k9 : 0 ≤ x9 ∧ x9 ≤ 2000) (k12 : 1 ≤ x12 ∧ x12 ≤ 1) (k15 : 0 ≤ x15 ∧ x15 ≤ 0) (f0 : 1 * from_0 + ((-1) * pos_0 + 0) ≤ 0) (f1 : ((kind_0 = 1) → (pos_0 ≤ (from_0 + 8))) ∧ ((kind_0 = 0) ∨ ((from_0 + 1) ≤ pos_0))) (f2 : 1 * x3 + ((-1) * pos_0 + 0) ≤ (-1)) (f3 : (-1) * x4 + 0 ≤ 0) (f6 : 1 * x9 + (1 * pos_0 + 0) ≤ 2000) (f7 : (-1) * x9 + ((-1) * pos_0 + 0) ≤ (-2000)) (f8 : (x12 = 1) → (kind_0 = 1)) (f9 : (-1) * fault_0 + 0 ≤ (-1)) (f11 : x12 ≠ 0) (f12 : (-1) * x4 + 0 ≤ 0) (f14 : (-1) * x4 + 0 ≤ 0) (kz_0_8 : 0 ≤ fault_0 ∧ fault_0 ≤ 5) (kz_0_11 : 0 ≤ pos_0 ∧ pos_0 ≤ 2000) (kz_0_12 : 0 ≤ kind_0 ∧ kind_0 ≤ 4) (kz_0_15 : 0 ≤ from_0 ∧ from_0 ≤ 2000) : 1 * x3 + ((-1) * pos_0 + 0) ≤ 0 := by
  first | assumption | (clear f1 f8; omega) | omega | grind
set_option maxHeartbeats 4000000 in
theorem vc_Mo_of_at_s5003_27_3 (x2 : Int) (x3 : Int) (x4 : Int) (x7 : Int) (x9 : Int) (x12 : Int) (x15 : Int) (from_0 : Int) (pos_0 : Int) (kind_0 : Int) (fault_0 : Int) (k2 : 9 ≤ x2 ∧ x2 ≤ 9) (k3 : 0 ≤ x3 ∧ x3 ≤ 2000) (k4 : (-1) ≤ x4 ∧ x4 ≤ 48) (k7 : 9 ≤ x7 ∧ x7 ≤ 9) (k9 : 0 ≤ x9 ∧ x9 ≤ 2000) (k12 : 1 ≤ x12 ∧ x12 ≤ 1) (k15 : 0 ≤ x15 ∧ x15 ≤ 0) (f0 : 1 * from_0 + ((-1) * pos_0 + 0) ≤ 0) (f1 : ((kind_0 = 1) → (pos_0 ≤ (from_0 + 8))) ∧ ((kind_0 = 0) ∨ ((from_0 + 1) ≤ pos_0))) (f2 : 1 * x3 + ((-1) * pos_0 + 0) ≤ (-1)) (f3 : (-1) * x4 + 0 ≤ 0) (f6 : 1 * x9 + (1 * pos_0 + 0) ≤ 2000) (f7 : (-1) * x9 + ((-1) * pos_0 + 0) ≤ (-2000)) (f8 : (x12 = 1) → (kind_0 = 1)) (f9 : (-1) * fault_0 + 0 ≤ (-1)) (f11 : x12 ≠ 0) (f12 : (-1) * x4 + 0 ≤ 0) (f14 : (-1) * x4 + 0 ≤ 0) (kz_0_8 : 0 ≤ fault_0 ∧ fault_0 ≤ 5) (kz_0_11 : 0 ≤ pos_0 ∧ pos_0 ≤ 2000) (kz_0_12 : 0 ≤ kind_0 ∧ kind_0 ≤ 4) (kz_0_15 : 0 ≤ from_0 ∧ from_0 ≤ 2000) : (1 ≤ fault_0) ∨ ((kind_0 = 0) ∨ ((x3 + 1) ≤ pos_0)) := by
  first | assumption | (clear f1 f8; omega) | omega | grind
set_option maxHeartbeats 4000000 in
theorem vc_Mo_of_at_s5003_27_4 (x2 : Int) (x3 : Int) (x4 : Int) (x7 : Int) (x9 : Int) (x12 : Int) (x15 : Int) (from_0 : Int) (pos_0 : Int) (kind_0 : Int) (fault_0 : Int) (k2 : 9 ≤ x2 ∧ x2 ≤ 9) (k3 : 0 ≤ x3 ∧ x3 ≤ 2000) (k4 : (-1) ≤ x4 ∧ x4 ≤ 48) (k7 : 9 ≤ x7 ∧ x7 ≤ 9) (k9 : 0 ≤ x9 ∧ x9 ≤ 2000) (k12 : 1 ≤ x12 ∧ x12 ≤ 1) (k15 : 0 ≤ x15 ∧ x15 ≤ 0) (f0 : 1 * from_0 + ((-1) * pos_0 + 0) ≤ 0) (f1 : ((kind_0 = 1) → (pos_0 ≤ (from_0 + 8))) ∧ ((kind_0 = 0) ∨ ((from_0 + 1) ≤ pos_0))) (f2 : 1 * x3 + ((-1) * pos_0 + 0) ≤ (-1)) (f3 : (-1) * x4 + 0 ≤ 0) (f6 : 1 * x9 + (1 * pos_0 + 0) ≤ 2000) (f7 : (-1) * x9 + ((-1) * pos_0 + 0) ≤ (-2000)) (f8 : (x12 = 1) → (kind_0 = 1)) (f9 : (-1) * fault_0 + 0 ≤ (-1)) (f11 : x12 ≠ 0) (f12 : (-1) * x4 + 0 ≤ 0) (f14 : (-1) * x4 + 0 ≤ 0) (kz_0_8 : 0 ≤ fault_0 ∧ fault_0 ≤ 5) (kz_0_11 : 0 ≤ pos_0 ∧ pos_0 ≤ 2000) (kz_0_12 : 0 ≤ kind_0 ∧ kind_0 ≤ 4) (kz_0_15 : 0 ≤ from_0 ∧ from_0 ≤ 2000) : (1 ≤ fault_0) ∨ (0 ≤ x4) := by
  first | assumption | (clear f1 f8; omega) | omega | grind
set_option maxHeartbeats 4000000 in
theorem vc_Mo_of_at_s5003_27_5 (x2 : Int) (x3 : Int) (x4 : Int) (x7 : Int) (x9 : Int) (x12 : Int) (x15 : Int) (from_0 : Int) (pos_0 : Int) (kind_0 : Int) (fault_0 : Int) (k2 : 9 ≤ x2 ∧ x2 ≤ 9) (k3 : 0 ≤ x3 ∧ x3 ≤ 2000) (k4 : (-1) ≤ x4 ∧ x4 ≤ 48) (k7 : 9 ≤ x7 ∧ x7 ≤ 9) (k9 : 0 ≤ x9 ∧ x9 ≤ 2000) (k12 : 1 ≤ x12 ∧ x12 ≤ 1) (k15 : 0 ≤ x15 ∧ x15 ≤ 0) (f0 : 1 * from_0 + ((-1) * pos_0 + 0) ≤ 0) (f1 : ((kind_0 = 1) → (pos_0 ≤ (from_0 + 8))) ∧ ((kind_0 = 0) ∨ ((from_0 + 1) ≤ pos_0))) (f2 : 1 * x3 + ((-1) * pos_0 + 0) ≤ (-1)) (f3 : (-1) * x4 + 0 ≤ 0) (f6 : 1 * x9 + (1 * pos_0 + 0) ≤ 2000) (f7 : (-1) * x9 + ((-1) * pos_0 + 0) ≤ (-2000)) (f8 : (x12 = 1) → (kind_0 = 1)) (f9 : (-1) * fault_0 + 0 ≤ (-1)) (f11 : x12 ≠ 0) (f12 : (-1) * x4 + 0 ≤ 0) (f14 : (-1) * x4 + 0 ≤ 0) (kz_0_8 : 0 ≤ fault_0 ∧ fault_0 ≤ 5) (kz_0_11 : 0 ≤ pos_0 ∧ pos_0 ≤ 2000) (kz_0_12 : 0 ≤ kind_0 ∧ kind_0 ≤ 4) (kz_0_15 : 0 ≤ from_0 ∧ from_0 ≤ 2000) : 1 * x15 + ((-1) * x2 + 0) ≤ 0 := by
  first | assumption | (clear f1 f8; omega) | omega | grind
set_option maxHeartbeats 4000000 in
theorem vc_Mo_of_at_s5003_27_6 (x2 : Int) (x3 : Int) (x4 : Int) (x7 : Int) (x9 : Int) (x12 : Int) (x15 : Int) (from_0 : Int) (pos_0 : Int) (kind_0 : Int) (fault_0 : Int) (k2 : 9 ≤ x2 ∧ x2 ≤ 9) (k3 : 0 ≤ x3 ∧ x3 ≤ 2000) (k4 : (-1) ≤ x4 ∧ x4 ≤ 48) (k7 : 9 ≤ x7 ∧ x7 ≤ 9) (k9 : 0 ≤ x9 ∧ x9 ≤ 2000) (k12 : 1 ≤ x12 ∧ x12 ≤ 1) (k15 : 0 ≤ x15 ∧ x15 ≤ 0) (f0 : 1 * from_0 + ((-1) * pos_0 + 0) ≤ 0) (f1 : ((kind_0 = 1) → (pos_0 ≤ (from_0 + 8))) ∧ ((kind_0 = 0) ∨ ((from_0 + 1) ≤ pos_0))) (f2 : 1 * x3 + ((-1) * pos_0 + 0) ≤ (-1)) (f3 : (-1) * x4 + 0 ≤ 0) (f6 : 1 * x9 + (1 * pos_0 + 0) ≤ 2000) (f7 : (-1) * x9 + ((-1) * pos_0 + 0) ≤ (-2000)) (f8 : (x12 = 1) → (kind_0 = 1)) (f9 : (-1) * fault_0 + 0 ≤ (-1)) (f11 : x12 ≠ 0) (f12 : (-1) * x4 + 0 ≤ 0) (f14 : (-1) * x4 + 0 ≤ 0) (kz_0_8 : 0 ≤ fault_0 ∧ fault_0 ≤ 5) (kz_0_11 : 0 ≤ pos_0 ∧ pos_0 ≤ 2000) (kz_0_12 : 0 ≤ kind_0 ∧ kind_0 ≤ 4) (kz_0_15 : 0 ≤ from_0 ∧ from_0 ≤ 2000) : (-1) * x15 + 0 ≤ 0 := by
  first | assumption | (clear f1 f8; omega) | omega | grind
def o_Mo_of_at_s5003_27 : or_T := (58, 16, [(0, (2, 0, 0, [165])), (2, (0, 9, 9, [])), (3, (0, 0, 2000, [])), (4, (0, -1, 48, [])), (5, (2, 0, 0, [165])), (7, (0, 9, 9, [])), (9, (0, 0, 2000, [])), (12, (0, 1, 1, [])), (15, (0, 0, 0, []))], [(20, [5, 5], [30, 0, 1, 1, 15, -1, 1, 11]), (20, [5], [50, 3, 0, 12, 11, 15, 2, 21, 4, 7, 1, 3, 2, 0, 12, 0, 1, 0, 3, 2, 0, 11, 4, 3, 2, 0, 15, 0, 8, 3, 7, 1, 3, 2, 0, 12, 0, 0, 0, 7, 4, 3, 2, 0, 15, 0, 1, 2, 0, 11]), (20, [3, 5], [30, -1, 1, 0, 0, -1, 1, 11]), (23, [4], [0, -1]), (24, [0, 5], []), (24, [2, 7], []), (20, [9, 5], [30, 2000, 1, 0, 0, 1, 1, 11]), (20, [9, 5], [30, -2000, -1, 0, 0, -1, 1, 11]), (20, [12, 5], [50, 1, 0, 1012, 4, 6, 1, 2, 1, 0, 0, 1, 1, 3, 2, 1, 12, 0, 1]), (20, [5], [30, -1, -1, 1, 8]), (102, [14], [0, 165008, 165009]), (8, [12], [1]), (23, [4], [0, -1]), (102, [11], [0]), (23, [4], [0, -1])], [], [], [(20, [0, 0], [30, 0, 1, 1, 15, -1, 1, 11]), (20, [0], [50, 3, 0, 12, 11, 15, 2, 21, 4, 7, 1, 3, 2, 0, 12, 0, 1, 0, 3, 2, 0, 11, 4, 3, 2, 0, 15, 0, 8, 3, 7, 1, 3, 2, 0, 12, 0, 0, 0, 7, 4, 3, 2, 0, 15, 0, 1, 2, 0, 11]), (20, [3, 0], [30, 0, 1, 0, 0, -1, 1, 11]), (20, [0, 3], [50, 3, 0, 8, 12, 11, 3, 7, 0, 2, 0, 1, 2, 0, 8, 3, 7, 1, 3, 2, 0, 12, 0, 0, 0, 6, 4, 2, 1, 1, 0, 1, 2, 0, 11]), (20, [0, 4], [50, 1, 0, 8, 3, 7, 0, 2, 0, 1, 2, 0, 8, 0, 2, 0, 0, 1, 1]), (20, [15, 2], [30, 0, 1, 0, 0, -1, 0, 0]), (20, [15], [30, 0, -1, 0, 0])], [], [])
theorem oo_Mo_of_at_s5003_27 {kA : Nat → ClassId} : or_ok PRD kA GG o_Mo_of_at_s5003_27 := by
  refine or_mk fun A ta ws vs hD hth hl => ?_
  intro t0 r0 t2 k2 t3 k3 t4 k4 t5 r5 t7 k7 t9 k9 t12 k12 t15 k15 f0 f1 f2 f3 f4 f5 f6 f7 f8 f9 ta1 w1 le1 s1 f11 f12 ta2 w2 le2 s2 f14
  replace f0 := shm_1397 f0
  replace f1 := shm_1398 f1
  replace f2 := shm_1891 f2
  replace f4 := shm_5 f4
  replace f6 := shm_1892 f6
  replace f7 := shm_1893 f7
  replace f8 := shm_1762 f8
  replace f9 := shm_144 f9
  have q5 : n_v vs 5 = n_v vs 0 := f4.symm
  simp only [q5] at f0 f1 f2 f6 f7 f8 f9
  have kz_0_8 := fdq_14 hD hth r0
  have kz_0_11 := fdq_273 hD hth r0
  have kz_0_12 := fdq_186 hD hth r0
  have kz_0_15 := fdq_274 hD hth r0
  have nf0 : fc_1 PRD (20, [0, 0], [30, 0, 1, 1, 15, -1, 1, 11]) ws (vs) := ⟨nf_in hl rfl, sgq_1397 (vc_Mo_of_at_s5003_27_0 (v_iv (n_v vs 2)) (v_iv (n_v vs 3)) (v_iv (n_v vs 4)) (v_iv (n_v vs 7)) (v_iv (n_v vs 9)) (v_iv (n_v vs 12)) (v_iv (n_v vs 15)) (w_fi ws (n_v vs 0) 15) (w_fi ws (n_v vs 0) 11) (w_fi ws (n_v vs 0) 12) (w_fi ws (n_v vs 0) 8) k2 k3 k4 k7 k9 k12 k15 f0 f1 f2 (shm_1013 f3) f6 f7 f8 f9 (shm_154 f11) (shm_1013 f12) (shm_1013 f14) kz_0_8 kz_0_11 kz_0_12 kz_0_15)⟩
  have nf1 : fc_1 PRD (20, [0], [50, 3, 0, 12, 11, 15, 2, 21, 4, 7, 1, 3, 2, 0, 12, 0, 1, 0, 3, 2, 0, 11, 4, 3, 2, 0, 15, 0, 8, 3, 7, 1, 3, 2, 0, 12, 0, 0, 0, 7, 4, 3, 2, 0, 15, 0, 1, 2, 0, 11]) ws (vs) := ⟨nf_in hl rfl, sgq_1398 (vc_Mo_of_at_s5003_27_1 (v_iv (n_v vs 2)) (v_iv (n_v vs 3)) (v_iv (n_v vs 4)) (v_iv (n_v vs 7)) (v_iv (n_v vs 9)) (v_iv (n_v vs 12)) (v_iv (n_v vs 15)) (w_fi ws (n_v vs 0) 15) (w_fi ws (n_v vs 0) 11) (w_fi ws (n_v vs 0) 12) (w_fi ws (n_v vs 0) 8) k2 k3 k4 k7 k9 k12 k15 f0 f1 f2 (shm_1013 f3) f6 f7 f8 f9 (shm_154 f11) (shm_1013 f12) (shm_1013 f14) kz_0_8 kz_0_11 kz_0_12 kz_0_15)⟩
  have nf2 : fc_1 PRD (20, [3, 0], [30, 0, 1, 0, 0, -1, 1, 11]) ws (vs) := ⟨nf_in hl rfl, sgq_1395 (vc_Mo_of_at_s5003_27_2 (v_iv (n_v vs 2)) (v_iv (n_v vs 3)) (v_iv (n_v vs 4)) (v_iv (n_v vs 7)) (v_iv (n_v vs 9)) (v_iv (n_v vs 12)) (v_iv (n_v vs 15)) (w_fi ws (n_v vs 0) 15) (w_fi ws (n_v vs 0) 11) (w_fi ws (n_v vs 0) 12) (w_fi ws (n_v vs 0) 8) k2 k3 k4 k7 k9 k12 k15 f0 f1 f2 (shm_1013 f3) f6 f7 f8 f9 (shm_154 f11) (shm_1013 f12) (shm_1013 f14) kz_0_8 kz_0_11 kz_0_12 kz_0_15)⟩
  have nf3 : fc_1 PRD (20, [0, 3], [50, 3, 0, 8, 12, 11, 3, 7, 0, 2, 0, 1, 2, 0, 8, 3, 7, 1, 3, 2, 0, 12, 0, 0, 0, 6, 4, 2, 1, 1, 0, 1, 2, 0, 11]) ws (vs) := ⟨nf_in hl rfl, sgq_1660 (vc_Mo_of_at_s5003_27_3 (v_iv (n_v vs 2)) (v_iv (n_v vs 3)) (v_iv (n_v vs 4)) (v_iv (n_v vs 7)) (v_iv (n_v vs 9)) (v_iv (n_v vs 12)) (v_iv (n_v vs 15)) (w_fi ws (n_v vs 0) 15) (w_fi ws (n_v vs 0) 11) (w_fi ws (n_v vs 0) 12) (w_fi ws (n_v vs 0) 8) k2 k3 k4 k7 k9 k12 k15 f0 f1 f2 (shm_1013 f3) f6 f7 f8 f9 (shm_154 f11) (shm_1013 f12) (shm_1013 f14) kz_0_8 kz_0_11 kz_0_12 kz_0_15)⟩
  have nf4 : fc_1 PRD (20, [0, 4], [50, 1, 0, 8, 3, 7, 0, 2, 0, 1, 2, 0, 8, 0, 2, 0, 0, 1, 1]) ws (vs) := ⟨nf_in hl rfl, sgq_1889 (vc_Mo_of_at_s5003_27_4 (v_iv (n_v vs 2)) (v_iv (n_v vs 3)) (v_iv (n_v vs 4)) (v_iv (n_v vs 7)) (v_iv (n_v vs 9)) (v_iv (n_v vs 12)) (v_iv (n_v vs 15)) (w_fi ws (n_v vs 0) 15) (w_fi ws (n_v vs 0) 11) (w_fi ws (n_v vs 0) 12) (w_fi ws (n_v vs 0) 8) k2 k3 k4 k7 k9 k12 k15 f0 f1 f2 (shm_1013 f3) f6 f7 f8 f9 (shm_154 f11) (shm_1013 f12) (shm_1013 f14) kz_0_8 kz_0_11 kz_0_12 kz_0_15)⟩
  have nf5 : fc_1 PRD (20, [15, 2], [30, 0, 1, 0, 0, -1, 0, 0]) ws (vs) := ⟨nf_in hl rfl, sgq_219 (vc_Mo_of_at_s5003_27_5 (v_iv (n_v vs 2)) (v_iv (n_v vs 3)) (v_iv (n_v vs 4)) (v_iv (n_v vs 7)) (v_iv (n_v vs 9)) (v_iv (n_v vs 12)) (v_iv (n_v vs 15)) (w_fi ws (n_v vs 0) 15) (w_fi ws (n_v vs 0) 11) (w_fi ws (n_v vs 0) 12) (w_fi ws (n_v vs 0) 8) k2 k3 k4 k7 k9 k12 k15 f0 f1 f2 (shm_1013 f3) f6 f7 f8 f9 (shm_154 f11) (shm_1013 f12) (shm_1013 f14) kz_0_8 kz_0_11 kz_0_12 kz_0_15)⟩
  have nf6 : fc_1 PRD (20, [15], [30, 0, -1, 0, 0]) ws (vs) := ⟨nf_in hl rfl, sgq_1890 (vc_Mo_of_at_s5003_27_6 (v_iv (n_v vs 2)) (v_iv (n_v vs 3)) (v_iv (n_v vs 4)) (v_iv (n_v vs 7)) (v_iv (n_v vs 9)) (v_iv (n_v vs 12)) (v_iv (n_v vs 15)) (w_fi ws (n_v vs 0) 15) (w_fi ws (n_v vs 0) 11) (w_fi ws (n_v vs 0) 12) (w_fi ws (n_v vs 0) 8) k2 k3 k4 k7 k9 k12 k15 f0 f1 f2 (shm_1013 f3) f6 f7 f8 f9 (shm_154 f11) (shm_1013 f12) (shm_1013 f14) kz_0_8 kz_0_11 kz_0_12 kz_0_15)⟩
  refine ⟨(fun _ h => (by cases h)), [], trivial, ?_, (fun _ h => (by cases h))⟩
  rw [List.append_nil]
  exact List.forall_mem_cons.mpr ⟨⟨show (20 : Nat) < 100 from by decide, nf0⟩, List.forall_mem_cons.mpr ⟨⟨show (20 : Nat) < 100 from by decide, nf1⟩, List.forall_mem_cons.mpr ⟨⟨show (20 : Nat) < 100 from by decide, nf2⟩, List.forall_mem_cons.mpr ⟨⟨show (20 : Nat) < 100 from by decide, nf3⟩, List.forall_mem_cons.mpr ⟨⟨show (20 : Nat) < 100 from by decide, nf4⟩, List.forall_mem_cons.mpr ⟨⟨show (20 : Nat) < 100 from by decide, nf5⟩, List.forall_mem_cons.mpr ⟨⟨show (20 : Nat) < 100 from by decide, nf6⟩, (fun _ h => (by cases h))⟩⟩⟩⟩⟩⟩⟩
set_option maxHeartbeats 4000000 in
theorem vc_Mo_of_at_s5003_28_0 (x2 : Int) (x3 : Int) (x4 : Int) (x7 : Int) (x9 : Int) (x14 : Int) (from_0 : Int) (pos_0 : Int) (kind_0 : Int) (fault_0 : Int) (k2 : 9 ≤ x2 ∧ x2 ≤ 9) (k3 : 0 ≤ x3 ∧ x3 ≤ 2000) (k4 : (-1) ≤ x4 ∧ x4 ≤ 48) (k7 : 9 ≤ x7 ∧ x7 ≤ 9) (k9 : 0 ≤ x9 ∧ x9 ≤ 2000) (k14 : 0 ≤ x14 ∧ x14 ≤ 0) (f0 : 1 * from_0 + ((-1) * pos_0 + 0) ≤ 0) (f1 : ((kind_0 = 1) → (pos_0 ≤ (from_0 + 8))) ∧ ((kind_0 = 0) ∨ ((from_0 + 1) ≤ pos_0))) (f2 : 1 * x3 + ((-1) * pos_0 + 0) ≤ (-1)) (f3 : (-1) * x4 + 0 ≤ 0) (f6 : 1 * x9 + (1 * pos_0 + 0) ≤ 2000) (f7 : (-1) * x9 + ((-1) * pos_0 + 0) ≤ (-2000)) (f8 : (-1) * fault_0 + 0 ≤ (-1)) (f10 : (-1) * x4 + 0 ≤ 0) (kz_0_8 : 0 ≤ fault_0 ∧ fault_0 ≤ 5) (kz_0_11 : 0 ≤ pos_0 ∧ pos_0 ≤ 2000) (kz_0_12 : 0 ≤ kind_0 ∧ kind_0 ≤ 4) (kz_0_15 : 0 ≤ from_0 ∧ from_0 ≤ 2000) : 1 * from_0 + ((-1) * pos_0 + 0) ≤ 0 := by
  first | assumption | (clear f1; omega) | omega | grind
set_option maxHeartbeats 4000000 in
theorem vc_Mo_of_at_s5003_28_1 (x2 : Int) (x3 : Int) (x4 : Int) (x7 : Int) (x9 : Int) (x14 : Int) (from_0 : Int) (pos_0 : Int) (kind_0 : Int) (fault_0 : Int) (k2 : 9 ≤ x2 ∧ x2 ≤ 9) (k3 : 0 ≤ x3 ∧ x3 ≤ 2000) (k4 : (-1) ≤ x4 ∧ x4 ≤ 48) (k7 : 9 ≤ x7 ∧ x7 ≤ 9) (k9 : 0 ≤ x9 ∧ x9 ≤ 2000) (k14 : 0 ≤ x14 ∧ x14 ≤ 0) (f0 : 1 * from_0 + ((-1) * pos_0 + 0) ≤ 0) (f1 : ((kind_0 = 1) → (pos_0 ≤ (from_0 + 8))) ∧ ((kind_0 = 0) ∨ ((from_0 + 1) ≤ pos_0))) (f2 : 1 * x3 + ((-1) * pos_0 + 0) ≤ (-1)) (f3 : (-1) * x4 + 0 ≤ 0) (f6 : 1 * x9 + (1 * pos_0 + 0) ≤ 2000) (f7 : (-1) * x9 + ((-1) * pos_0 + 0) ≤ (-2000)) (f8 : (-1) * fault_0 + 0 ≤ (-1)) (f10 : (-1) * x4 + 0 ≤ 0) (kz_0_8 : 0 ≤ fault_0 ∧ fault_0 ≤ 5) (kz_0_11 : 0 ≤ pos_0 ∧ pos_0 ≤ 2000) (kz_0_12 : 0 ≤ kind_0 ∧ kind_0 ≤ 4) (kz_0_15 : 0 ≤ from_0 ∧ from_0 ≤ 2000) : ((kind_0 = 1) → (pos_0 ≤ (from_0 + 8))) ∧ ((kind_0 = 0) ∨ ((from_0 + 1) ≤ pos_0)) := by
  first | assumption | (clear f1; omega) | omega | grind
set_option maxHeartbeats 4000000 in
theorem vc_Mo_of_at_s5003_28_2 (x2 : Int) (x3 : Int) (x4 : Int) (x7 : Int) (x9 : Int) (x14 : Int) (from_0 : Int) (pos_0 : Int) (kind_0 : Int) (fault_0 : Int) (k2 : 9 ≤ x2 ∧ x2 ≤ 9) (k3 : 0 ≤ x3 ∧ x3 ≤ 2000) (k4 : (-1) ≤ x4 ∧ x4 ≤ 48) (k7 : 9 ≤ x7 ∧ x7 ≤ 9) (k9 : 0 ≤ x9 ∧ x9 ≤ 2000) (k14 : 0 ≤ x14 ∧ x14 ≤ 0) (f0 : 1 * from_0 + ((-1) * pos_0 + 0) ≤ 0) (f1 : ((kind_0 = 1) → (pos_0 ≤ (from_0 + 8))) ∧ ((kind_0 = 0) ∨ ((from_0 + 1) ≤ pos_0))) (f2 : 1 * x3 + ((-1) * pos_0 + 0) ≤ (-1)) (f3 : (-1) * x4 + 0 ≤ 0) (f6 : 1 * x9 + (1 * pos_0 + 0) ≤ 2000) (f7 : (-1) * x9 + ((-1) * pos_0 + 0) ≤ (-2000)) (f8 : (-1) * fault_0 + 0 ≤ (-1)) (f10 : (-1) * x4 + 0 ≤ 0) (kz_0_8 : 0 ≤ fault_0 ∧ fault_0 ≤ 5) (kz_0_11 : 0 ≤ pos_0 ∧ pos_0 ≤ 2000) (kz_0_12 : 0 ≤ kind_0 ∧ kind_0 ≤ 4) (kz_0_15 : 0 ≤ from_0 ∧ from_0 ≤ 2000) : 1 * x3 + ((-1) * pos_0 + 0) ≤ 0 := by
  first | assumption | (clear f1; omega) | omega | grind
set_option maxHeartbeats 4000000 in
theorem vc_Mo_of_at_s5003_28_3 (x2 : Int) (x3 : Int) (x4 : Int) (x7 : Int) (x9 : Int) (x14 : Int) (from_0 : Int) (pos_0 : Int) (kind_0 : Int) (fault_0 : Int) (k2 : 9 ≤ x2 ∧ x2 ≤ 9) (k3 : 0 ≤ x3 ∧ x3 ≤ 2000) (k4 : (-1) ≤ x4 ∧ x4 ≤ 48) (k7 : 9 ≤ x7 ∧ x7 ≤ 9) (k9 : 0 ≤ x9 ∧ x9 ≤ 2000) (k14 : 0 ≤ x14 ∧ x14 ≤ 0) (f0 : 1 * from_0 + ((-1) * pos_0 + 0) ≤ 0) (f1 : ((kind_0 = 1) → (pos_0 ≤ (from_0 + 8))) ∧ ((kind_0 = 0) ∨ ((from_0 + 1) ≤ pos_0))) (f2 : 1 * x3 + ((-1) * pos_0 + 0) ≤ (-1)) (f3 : (-1) * x4 + 0 ≤ 0) (f6 : 1 * x9 + (1 * pos_0 + 0) ≤ 2000) (f7 : (-1) * x9 + ((-1) * pos_0 + 0) ≤ (-2000)) (f8 : (-1) * fault_0 + 0 ≤ (-1)) (f10 : (-1) * x4 + 0 ≤ 0) (kz_0_8 : 0 ≤ fault_0 ∧ fault_0 ≤ 5) (kz_0_11 : 0 ≤ pos_0 ∧ pos_0 ≤ 2000) (kz_0_12 : 0 ≤ kind_0 ∧ kind_0 ≤ 4) (kz_0_15 : 0 ≤ from_0 ∧ from_0 ≤ 2000) : (1 ≤ fault_0) ∨ ((kind_0 = 0) ∨ ((x3 + 1) ≤ pos_0)) := by
  first | assumption | (clear f1; omega) | omega | grind
set_option maxHeartbeats 4000000 in
theorem vc_Mo_of_at_s5003_28_4 (x2 : Int) (x3 : Int) (x4 : Int) (x7 : Int) (x9 : Int) (x14 : Int) (from_0 : Int) (pos_0 : Int) (kind_0 : Int) (fault_0 : Int) (k2 : 9 ≤ x2 ∧ x2 ≤ 9) (k3 : 0 ≤ x3 ∧ x3 ≤ 2000) (k4 : (-1) ≤ x4 ∧ x4 ≤ 48) (k7 : 9 ≤ x7 ∧ x7 ≤ 9) (k9 : 0 ≤ x9 ∧ x9 ≤ 2000) (k14 : 0 ≤ x14 ∧ x14 ≤ 0) (f0 : 1 * from_0 + ((-1) * pos_0 + 0) ≤ 0) (f1 : ((kind_0 = 1) → (pos_0 ≤ (from_0 + 8))) ∧ ((kind_0 = 0) ∨ ((from_0 + 1) ≤ pos_0))) (f2 : 1 * x3 + ((-1) * pos_0 + 0) ≤ (-1)) (f3 : (-1) * x4 + 0 ≤ 0) (f6 : 1 * x9 + (1 * pos_0 + 0) ≤ 2000) (f7 : (-1) * x9 + ((-1) * pos_0 + 0) ≤ (-2000)) (f8 : (-1) * fault_0 + 0 ≤ (-1)) (f10 : (-1) * x4 + 0 ≤ 0) (kz_0_8 : 0 ≤ fault_0 ∧ fault_0 ≤ 5) (kz_0_11 : 0 ≤ pos_0 ∧ pos_0 ≤ 2000) (kz_0_12 : 0 ≤ kind_0 ∧ kind_0 ≤ 4) (kz_0_15 : 0 ≤ from_0 ∧ from_0 ≤ 2000) : (1 ≤ fault_0) ∨ (0 ≤ x4) := by
  first | assumption | (clear f1; omega) | omega | grind
set_option maxHeartbeats 4000000 in
theorem vc_Mo_of_at_s5003_28_5 (x2 : Int) (x3 : Int) (x4 : Int) (x7 : Int) (x9 : Int) (x14 : Int) (from_0 : Int) (pos_0 : Int) (kind_0 : Int) (fault_0 : Int) (k2 : 9 ≤ x2 ∧ x2 ≤ 9) (k3 : 0 ≤ x3 ∧ x3 ≤ 2000) (k4 : (-1) ≤ x4 ∧ x4 ≤ 48) (k7 : 9 ≤ x7 ∧ x7 ≤ 9) (k9 : 0 ≤ x9 ∧ x9 ≤ 2000) (k14 : 0 ≤ x14 ∧ x14 ≤ 0) (f0 : 1 * from_0 + ((-1) * pos_0 + 0) ≤ 0) (f1 : ((kind_0 = 1) → (pos_0 ≤ (from_0 + 8))) ∧ ((kind_0 = 0) ∨ ((from_0 + 1) ≤ pos_0))) (f2 : 1 * x3 + ((-1) * pos_0 + 0) ≤ (-1)) (f3 : (-1) * x4 + 0 ≤ 0) (f6 : 1 * x9 + (1 * pos_0 + 0) ≤ 2000) (f7 : (-1) * x9 + ((-1) * pos_0 + 0) ≤ (-2000)) (f8 : (-1) * fault_0 + 0 ≤ (-1)) (f10 : (-1) * x4 + 0 ≤ 0) (kz_0_8 : 0 ≤ fault_0 ∧ fault_0 ≤ 5) (kz_0_11 : 0 ≤ pos_0 ∧ pos_0 ≤ 2000) (kz_0_12 : 0 ≤ kind_0 ∧ kind_0 ≤ 4) (kz_0_15 : 0 ≤ from_0 ∧ from_0 ≤ 2000) : 1 * x14 + ((-1) * x2 + 0) ≤ 0 := by
  first | assumption | (clear f1; omega) | omega | grind
set_option maxHeartbeats 4000000 in
theorem vc_Mo_of_at_s5003_28_6 (x2 : Int) (x3 : Int) (x4 : Int) (x7 : Int) (x9 : Int) (x14 : Int) (from_0 : Int) (pos_0 : Int) (kind_0 : Int) (fault_0 : Int) (k2 : 9 ≤ x2 ∧ x2 ≤ 9) (k3 : 0 ≤ x3 ∧ x3 ≤ 2000) (k4 : (-1) ≤ x4 ∧ x4 ≤ 48) (k7 : 9 ≤ x7 ∧ x7 ≤ 9) (k9 : 0 ≤ x9 ∧ x9 ≤ 2000) (k14 : 0 ≤ x14 ∧ x14 ≤ 0) (f0 : 1 * from_0 + ((-1) * pos_0 + 0) ≤ 0) (f1 : ((kind_0 = 1) → (pos_0 ≤ (from_0 + 8))) ∧ ((kind_0 = 0) ∨ ((from_0 + 1) ≤ pos_0))) (f2 : 1 * x3 + ((-1) * pos_0 + 0) ≤ (-1)) (f3 : (-1) * x4 + 0 ≤ 0) (f6 : 1 * x9 + (1 * pos_0 + 0) ≤ 2000) (f7 : (-1) * x9 + ((-1) * pos_0 + 0) ≤ (-2000)) (f8 : (-1) * fault_0 + 0 ≤ (-1)) (f10 : (-1) * x4 + 0 ≤ 0) (kz_0_8 : 0 ≤ fault_0 ∧ fault_0 ≤ 5) (kz_0_11 : 0 ≤ pos_0 ∧ pos_0 ≤ 2000) (kz_0_12 : 0 ≤ kind_0 ∧ kind_0 ≤ 4) (kz_0_15 : 0 ≤ from_0 ∧ from_0 ≤ 2000) : (-1) * x14 + 0 ≤ 0 := by
  first | assumption | (clear f1; omega) | omega | grind
def o_Mo_of_at_s5003_28 : or_T := (35, 15, [(0, (2, 0, 0, [165])), (2, (0, 9, 9, [])), (3, (0, 0, 2000, [])), (4, (0, -1, 48, [])), (7, (0, 9, 9, [])), (9, (0, 0, 2000, [])), (14, (0, 0, 0, []))], [(20, [5, 5], [30, 0, 1, 1, 15, -1, 1, 11]), (20, [5], [50, 3, 0, 12, 11, 15, 2, 21, 4, 7, 1, 3, 2, 0, 12, 0, 1, 0, 3, 2, 0, 11, 4, 3, 2, 0, 15, 0, 8, 3, 7, 1, 3, 2, 0, 12, 0, 0, 0, 7, 4, 3, 2, 0, 15, 0, 1, 2, 0, 11]), (20, [3, 5], [30, -1, 1, 0, 0, -1, 1, 11]), (23, [4], [0, -1]), (24, [0, 5], []), (20, [9, 5], [30, 2000, 1, 0, 0, 1, 1, 11]), (20, [9, 5], [30, -2000, -1, 0, 0, -1, 1, 11]), (20, [5], [30, -1, -1, 1, 8]), (102, [13], [0, 165008, 165009]), (23, [4], [0, -1])], [], [], [(20, [0, 0], [30, 0, 1, 1, 15, -1, 1, 11]), (20, [0], [50, 3, 0, 12, 11, 15, 2, 21, 4, 7, 1, 3, 2, 0, 12, 0, 1, 0, 3, 2, 0, 11, 4, 3, 2, 0, 15, 0, 8, 3, 7, 1, 3, 2, 0, 12, 0, 0, 0, 7, 4, 3, 2, 0, 15, 0, 1, 2, 0, 11]), (20, [3, 0], [30, 0, 1, 0, 0, -1, 1, 11]), (20, [0, 3], [50, 3, 0, 8, 12, 11, 3, 7, 0, 2, 0, 1, 2, 0, 8, 3, 7, 1, 3, 2, 0, 12, 0, 0, 0, 6, 4, 2, 1, 1, 0, 1, 2, 0, 11]), (20, [0, 4], [50, 1, 0, 8, 3, 7, 0, 2, 0, 1, 2, 0, 8, 0, 2, 0, 0, 1, 1]), (20, [14, 2], [30, 0, 1, 0, 0, -1, 0, 0]), (20, [14], [30, 0, -1, 0, 0])], [], [])
theorem oo_Mo_of_at_s5003_28 {kA : Nat → ClassId} : or_ok PRD kA GG o_Mo_of_at_s5003_28 := by
  refine or_mk fun A ta ws vs hD hth hl => ?_
  intro t0 r0 t2 k2 t3 k3 t4 k4 t7 k7 t9 k9 t14 k14 f0 f1 f2 f3 f4 f6 f7 f8 ta1 w1 le1 s1 f10
  replace f0 := shm_1397 f0
  replace f1 := shm_1398 f1
  replace f2 := shm_1891 f2
  replace f4 := shm_5 f4
  replace f6 := shm_1892 f6
  replace f7 := shm_1893 f7
  replace f8 := shm_144 f8
  have q5 : n_v vs 5 = n_v vs 0 := f4.symm
  simp only [q5] at f0 f1 f2 f6 f7 f8
  have kz_0_8 := fdq_14 hD hth r0
  have kz_0_11 := fdq_273 hD hth r0
  have kz_0_12 := fdq_186 hD hth r0
  have kz_0_15 := fdq_274 hD hth r0
  have nf0 : fc_1 PRD (20, [0, 0], [30, 0, 1, 1, 15, -1, 1, 11]) ws (vs) := ⟨nf_in hl rfl, sgq_1397 (vc_Mo_of_at_s5003_28_0 (v_iv (n_v vs 2)) (v_iv (n_v vs 3)) (v_iv (n_v vs 4)) (v_iv (n_v vs 7)) (v_iv (n_v vs 9)) (v_iv (n_v vs 14)) (w_fi ws (n_v vs 0) 15) (w_fi ws (n_v vs 0) 11) (w_fi ws (n_v vs 0) 12) (w_fi ws (n_v vs 0) 8) k2 k3 k4 k7 k9 k14 f0 f1 f2 (shm_1013 f3) f6 f7 f8 (shm_1013 f10) kz_0_8 kz_0_11 kz_0_12 kz_0_15)⟩
  have nf1 : fc_1 PRD (20, [0], [50, 3, 0, 12, 11, 15, 2, 21, 4, 7, 1, 3, 2, 0, 12, 0, 1, 0, 3, 2, 0, 11, 4, 3, 2, 0, 15, 0, 8, 3, 7, 1, 3, 2, 0, 12, 0, 0, 0, 7, 4, 3, 2, 0, 15, 0, 1, 2, 0, 11]) ws (vs) := ⟨nf_in hl rfl, sgq_1398 (vc_Mo_of_at_s5003_28_1 (v_iv (n_v vs 2)) (v_iv (n_v vs 3)) (v_iv (n_v vs 4)) (v_iv (n_v vs 7)) (v_iv (n_v vs 9)) (v_iv (n_v vs 14)) (w_fi ws (n_v vs 0) 15) (w_fi ws (n_v vs 0) 11) (w_fi ws (n_v vs 0) 12) (w_fi ws (n_v vs 0) 8) k2 k3 k4 k7 k9 k14 f0 f1 f2 (shm_1013 f3) f6 f7 f8 (shm_1013 f10) kz_0_8 kz_0_11 kz_0_12 kz_0_15)⟩
  have nf2 : fc_1 PRD (20, [3, 0], [30, 0, 1, 0, 0, -1, 1, 11]) ws (vs) := ⟨nf_in hl rfl, sgq_1395 (vc_Mo_of_at_s5003_28_2 (v_iv (n_v vs 2)) (v_iv (n_v vs 3)) (v_iv (n_v vs 4)) (v_iv (n_v vs 7)) (v_iv (n_v vs 9)) (v_iv (n_v vs 14)) (w_fi ws (n_v vs 0) 15) (w_fi ws (n_v vs 0) 11) (w_fi ws (n_v vs 0) 12) (w_fi ws (n_v vs 0) 8) k2 k3 k4 k7 k9 k14 f0 f1 f2 (shm_1013 f3) f6 f7 f8 (shm_1013 f10) kz_0_8 kz_0_11 kz_0_12 kz_0_15)⟩
  have nf3 : fc_1 PRD (20, [0, 3], [50, 3, 0, 8, 12, 11, 3, 7, 0, 2, 0, 1, 2, 0, 8, 3, 7, 1, 3, 2, 0, 12, 0, 0, 0, 6, 4, 2, 1, 1, 0, 1, 2, 0, 11]) ws (vs) := ⟨nf_in hl rfl, sgq_1660 (vc_Mo_of_at_s5003_28_3 (v_iv (n_v vs 2)) (v_iv (n_v vs 3)) (v_iv (n_v vs 4)) (v_iv (n_v vs 7)) (v_iv (n_v vs 9)) (v_iv (n_v vs 14)) (w_fi ws (n_v vs 0) 15) (w_fi ws (n_v vs 0) 11) (w_fi ws (n_v vs 0) 12) (w_fi ws (n_v vs 0) 8) k2 k3 k4 k7 k9 k14 f0 f1 f2 (shm_1013 f3) f6 f7 f8 (shm_1013 f10) kz_0_8 kz_0_11 kz_0_12 kz_0_15)⟩
  have nf4 : fc_1 PRD (20, [0, 4], [50, 1, 0, 8, 3, 7, 0, 2, 0, 1, 2, 0, 8, 0, 2, 0, 0, 1, 1]) ws (vs) := ⟨nf_in hl rfl, sgq_1889 (vc_Mo_of_at_s5003_28_4 (v_iv (n_v vs 2)) (v_iv (n_v vs 3)) (v_iv (n_v vs 4)) (v_iv (n_v vs 7)) (v_iv (n_v vs 9)) (v_iv (n_v vs 14)) (w_fi ws (n_v vs 0) 15) (w_fi ws (n_v vs 0) 11) (w_fi ws (n_v vs 0) 12) (w_fi ws (n_v vs 0) 8) k2 k3 k4 k7 k9 k14 f0 f1 f2 (shm_1013 f3) f6 f7 f8 (shm_1013 f10) kz_0_8 kz_0_11 kz_0_12 kz_0_15)⟩
  have nf5 : fc_1 PRD (20, [14, 2], [30, 0, 1, 0, 0, -1, 0, 0]) ws (vs) := ⟨nf_in hl rfl, sgq_219 (vc_Mo_of_at_s5003_28_5 (v_iv (n_v vs 2)) (v_iv (n_v vs 3)) (v_iv (n_v vs 4)) (v_iv (n_v vs 7)) (v_iv (n_v vs 9)) (v_iv (n_v vs 14)) (w_fi ws (n_v vs 0) 15) (w_fi ws (n_v vs 0) 11) (w_fi ws (n_v vs 0) 12) (w_fi ws (n_v vs 0) 8) k2 k3 k4 k7 k9 k14 f0 f1 f2 (shm_1013 f3) f6 f7 f8 (shm_1013 f10) kz_0_8 kz_0_11 kz_0_12 kz_0_15)⟩
  have nf6 : fc_1 PRD (20, [14], [30, 0, -1, 0, 0]) ws (vs) := ⟨nf_in hl rfl, sgq_1890 (vc_Mo_of_at_s5003_28_6 (v_iv (n_v vs 2)) (v_iv (n_v vs 3)) (v_iv (n_v vs 4)) (v_iv (n_v vs 7)) (v_iv (n_v vs 9)) (v_iv (n_v vs 14)) (w_fi ws (n_v vs 0) 15) (w_fi ws (n_v vs 0) 11) (w_fi ws (n_v vs 0) 12) (w_fi ws (n_v vs 0) 8) k2 k3 k4 k7 k9 k14 f0 f1 f2 (shm_1013 f3) f6 f7 f8 (shm_1013 f10) kz_0_8 kz_0_11 kz_0_12 kz_0_15)⟩
  refine ⟨(fun _ h => (by cases h)), [], trivial, ?_, (fun _ h => (by cases h))⟩
  rw [List.append_nil]
  exact List.forall_mem_cons.mpr ⟨⟨show (20 : Nat) < 100 from by decide, nf0⟩, List.forall_mem_cons.mpr ⟨⟨show (20 : Nat) < 100 from by decide, nf1⟩, List.forall_mem_cons.mpr ⟨⟨show (20 : Nat) < 100 from by decide, nf2⟩, List.forall_mem_cons.mpr ⟨⟨show (20 : Nat) < 100 from by decide, nf3⟩, List.forall_mem_cons.mpr ⟨⟨show (20 : Nat) < 100 from by decide, nf4⟩, List.forall_mem_cons.mpr ⟨⟨show (20 : Nat) < 100 from by decide, nf5⟩, List.forall_mem_cons.mpr ⟨⟨show (20 : Nat) < 100 from by decide, nf6⟩, (fun _ h => (by cases h))⟩⟩⟩⟩⟩⟩⟩
set_option maxHeartbeats 4000000 in
theorem vc_Mo_of_at_s5003_29_0 (x2 : Int) (x3 : Int) (x4 : Int) (x7 : Int) (x8 : Int) (x9 : Int) (x10 : Int) (x12 : Int) (kind_0 : Int) (fault_0 : Int) (from_0 : Int) (pos_0 : Int) (gx : Int) (k2 : 9 ≤ x2 ∧ x2 ≤ 9) (k3 : 0 ≤ x3 ∧ x3 ≤ 2000) (k4 : (-1) ≤ x4 ∧ x4 ≤ 48) (k7 : 9 ≤ x7 ∧ x7 ≤ 9) (k8 : (-2147483648) ≤ x8 ∧ x8 ≤ 2147483647) (k9 : 0 ≤ x9 ∧ x9 ≤ 0) (k10 : 0 ≤ x10 ∧ x10 ≤ 2000) (k12 : 0 ≤ x12 ∧ x12 ≤ 0) (f0 : x12 = 0) (f1 : (x12 = 1) → ((kind_0 = 3) ∧ (fault_0 = 0))) (f2 : x9 = 0) (g3 : x9 = fault_0) (f4 : 1 * from_0 + ((-1) * pos_0 + 0) ≤ 0) (f5 : ((kind_0 = 1) → (pos_0 ≤ (from_0 + 8))) ∧ ((kind_0 = 0) ∨ ((from_0 + 1) ≤ pos_0))) (f6 : 1 * x3 + ((-1) * pos_0 + 0) ≤ (-1)) (f7 : 1 * x8 + ((-1) * x2 + 0) ≤ 0) (f8 : (-1) * x8 + 0 ≤ 0) (f9 : (-1) * x4 + 0 ≤ 0) (f10 : (-1) * x10 + ((-1) * pos_0 + 0) ≤ (-2001)) (kz_0_8 : 0 ≤ fault_0 ∧ fault_0 ≤ 5) (kz_0_11 : 0 ≤ pos_0 ∧ pos_0 ≤ 2000) (kz_0_12 : 0 ≤ kind_0 ∧ kind_0 ≤ 4) (kz_0_15 : 0 ≤ from_0 ∧ from_0 ≤ 2000) (ex2 : gx = 2000 + ((-1) * pos_0 + 0)) (ex3 : 0 ≤ gx ∧ gx ≤ 2000) : 1 * from_0 + ((-1) * pos_0 + 0) ≤ 0 := by
  first | assumption | (clear f1 f5; omega) | omega | grind
set_option maxHeartbeats 4000000 in
theorem vc_Mo_of_at_s5003_29_1 (x2 : Int) (x3 : Int) (x4 : Int) (x7 : Int) (x8 : Int) (x9 : Int) (x10 : Int) (x12 : Int) (kind_0 : Int) (fault_0 : Int) (from_0 : Int) (pos_0 : Int) (gx : Int) (k2 : 9 ≤ x2 ∧ x2 ≤ 9) (k3 : 0 ≤ x3 ∧ x3 ≤ 2000) (k4 : (-1) ≤ x4 ∧ x4 ≤ 48) (k7 : 9 ≤ x7 ∧ x7 ≤ 9) (k8 : (-2147483648) ≤ x8 ∧ x8 ≤ 2147483647) (k9 : 0 ≤ x9 ∧ x9 ≤ 0) (k10 : 0 ≤ x10 ∧ x10 ≤ 2000) (k12 : 0 ≤ x12 ∧ x12 ≤ 0) (f0 : x12 = 0) (f1 : (x12 = 1) → ((kind_0 = 3) ∧ (fault_0 = 0))) (f2 : x9 = 0) (g3 : x9 = fault_0) (f4 : 1 * from_0 + ((-1) * pos_0 + 0) ≤ 0) (f5 : ((kind_0 = 1) → (pos_0 ≤ (from_0 + 8))) ∧ ((kind_0 = 0) ∨ ((from_0 + 1) ≤ pos_0))) (f6 : 1 * x3 + ((-1) * pos_0 + 0) ≤ (-1)) (f7 : 1 * x8 + ((-1) * x2 + 0) ≤ 0) (f8 : (-1) * x8 + 0 ≤ 0) (f9 : (-1) * x4 + 0 ≤ 0) (f10 : (-1) * x10 + ((-1) * pos_0 + 0) ≤ (-2001)) (kz_0_8 : 0 ≤ fault_0 ∧ fault_0 ≤ 5) (kz_0_11 : 0 ≤ pos_0 ∧ pos_0 ≤ 2000) (kz_0_12 : 0 ≤ kind_0 ∧ kind_0 ≤ 4) (kz_0_15 : 0 ≤ from_0 ∧ from_0 ≤ 2000) (ex2 : gx = 2000 + ((-1) * pos_0 + 0)) (ex3 : 0 ≤ gx ∧ gx ≤ 2000) : ((kind_0 = 1) → (pos_0 ≤ (from_0 + 8))) ∧ ((kind_0 = 0) ∨ ((from_0 + 1) ≤ pos_0)) := by
  first | assumption | (clear f1 f5; omega) | omega | grind
set_option maxHeartbeats 4000000 in
theorem vc_Mo_of_at_s5003_29_2 (x2 : Int) (x3 : Int) (x4 : Int) (x7 : Int) (x8 : Int) (x9 : Int) (x10 : Int) (x12 : Int) (kind_0 : Int) (fault_0 : Int) (from_0 : Int) (pos_0 : Int) (gx : Int) (k2 : 9 ≤ x2 ∧ x2 ≤ 9) (k3 : 0 ≤ x3 ∧ x3 ≤ 2000) (k4 : (-1) ≤ x4 ∧ x4 ≤ 48) (k7 : 9 ≤ x7 ∧ x7 ≤ 9) (k8 : (-2147483648) ≤ x8 ∧ x8 ≤ 2147483647) (k9 : 0 ≤ x9 ∧ x9 ≤ 0) (k10 : 0 ≤ x10 ∧ x10 ≤ 2000) (k12 : 0 ≤ x12 ∧ x12 ≤ 0) (f0 : x12 = 0) (f1 : (x12 = 1) → ((kind_0 = 3) ∧ (fault_0 = 0))) (f2 : x9 = 0) (g3 : x9 = fault_0) (f4 : 1 * from_0 + ((-1) * pos_0 + 0) ≤ 0) (f5 : ((kind_0 = 1) → (pos_0 ≤ (from_0 + 8))) ∧ ((kind_0 = 0) ∨ ((from_0 + 1) ≤ pos_0))) (f6 : 1 * x3 + ((-1) * pos_0 + 0) ≤ (-1)) (f7 : 1 * x8 + ((-1) * x2 + 0) ≤ 0) (f8 : (-1) * x8 + 0 ≤ 0) (f9 : (-1) * x4 + 0 ≤ 0) (f10 : (-1) * x10 + ((-1) * pos_0 + 0) ≤ (-2001)) (kz_0_8 : 0 ≤ fault_0 ∧ fault_0 ≤ 5) (kz_0_11 : 0 ≤ pos_0 ∧ pos_0 ≤ 2000) (kz_0_12 : 0 ≤ kind_0 ∧ kind_0 ≤ 4) (kz_0_15 : 0 ≤ from_0 ∧ from_0 ≤ 2000) (ex2 : gx = 2000 + ((-1) * pos_0 + 0)) (ex3 : 0 ≤ gx ∧ gx ≤ 2000) : 1 * x3 + ((-1) * pos_0 + 0) ≤ (-1) := by
  first | assumption | (clear f1 f5; omega) | omega | grind
set_option maxHeartbeats 4000000 in
theorem vc_Mo_of_at_s5003_29_3 (x2 : Int) (x3 : Int) (x4 : Int) (x7 : Int) (x8 : Int) (x9 : Int) (x10 : Int) (x12 : Int) (kind_0 : Int) (fault_0 : Int) (from_0 : Int) (pos_0 : Int) (gx : Int) (k2 : 9 ≤ x2 ∧ x2 ≤ 9) (k3 : 0 ≤ x3 ∧ x3 ≤ 2000) (k4 : (-1) ≤ x4 ∧ x4 ≤ 48) (k7 : 9 ≤ x7 ∧ x7 ≤ 9) (k8 : (-2147483648) ≤ x8 ∧ x8 ≤ 2147483647) (k9 : 0 ≤ x9 ∧ x9 ≤ 0) (k10 : 0 ≤ x10 ∧ x10 ≤ 2000) (k12 : 0 ≤ x12 ∧ x12 ≤ 0) (f0 : x12 = 0) (f1 : (x12 = 1) → ((kind_0 = 3) ∧ (fault_0 = 0))) (f2 : x9 = 0) (g3 : x9 = fault_0) (f4 : 1 * from_0 + ((-1) * pos_0 + 0) ≤ 0) (f5 : ((kind_0 = 1) → (pos_0 ≤ (from_0 + 8))) ∧ ((kind_0 = 0) ∨ ((from_0 + 1) ≤ pos_0))) (f6 : 1 * x3 + ((-1) * pos_0 + 0) ≤ (-1)) (f7 : 1 * x8 + ((-1) * x2 + 0) ≤ 0) (f8 : (-1) * x8 + 0 ≤ 0) (f9 : (-1) * x4 + 0 ≤ 0) (f10 : (-1) * x10 + ((-1) * pos_0 + 0) ≤ (-2001)) (kz_0_8 : 0 ≤ fault_0 ∧ fault_0 ≤ 5) (kz_0_11 : 0 ≤ pos_0 ∧ pos_0 ≤ 2000) (kz_0_12 : 0 ≤ kind_0 ∧ kind_0 ≤ 4) (kz_0_15 : 0 ≤ from_0 ∧ from_0 ≤ 2000) (ex2 : gx = 2000 + ((-1) * pos_0 + 0)) (ex3 : 0 ≤ gx ∧ gx ≤ 2000) : 1 * x8 + ((-1) * x2 + 0) ≤ 0 := by
  first | assumption | (clear f1 f5; omega) | omega | grind
set_option maxHeartbeats 4000000 in
theorem vc_Mo_of_at_s5003_29_4 (x2 : Int) (x3 : Int) (x4 : Int) (x7 : Int) (x8 : Int) (x9 : Int) (x10 : Int) (x12 : Int) (kind_0 : Int) (fault_0 : Int) (from_0 : Int) (pos_0 : Int) (gx : Int) (k2 : 9 ≤ x2 ∧ x2 ≤ 9) (k3 : 0 ≤ x3 ∧ x3 ≤ 2000) (k4 : (-1) ≤ x4 ∧ x4 ≤ 48) (k7 : 9 ≤ x7 ∧ x7 ≤ 9) (k8 : (-2147483648) ≤ x8 ∧ x8 ≤ 2147483647) (k9 : 0 ≤ x9 ∧ x9 ≤ 0) (k10 : 0 ≤ x10 ∧ x10 ≤ 2000) (k12 : 0 ≤ x12 ∧ x12 ≤ 0) (f0 : x12 = 0) (f1 : (x12 = 1) → ((kind_0 = 3) ∧ (fault_0 = 0))) (f2 : x9 = 0) (g3 : x9 = fault_0) (f4 : 1 * from_0 + ((-1) * pos_0 + 0) ≤ 0) (f5 : ((kind_0 = 1) → (pos_0 ≤ (from_0 + 8))) ∧ ((kind_0 = 0) ∨ ((from_0 + 1) ≤ pos_0))) (f6 : 1 * x3 + ((-1) * pos_0 + 0) ≤ (-1)) (f7 : 1 * x8 + ((-1) * x2 + 0) ≤ 0) (f8 : (-1) * x8 + 0 ≤ 0) (f9 : (-1) * x4 + 0 ≤ 0) (f10 : (-1) * x10 + ((-1) * pos_0 + 0) ≤ (-2001)) (kz_0_8 : 0 ≤ fault_0 ∧ fault_0 ≤ 5) (kz_0_11 : 0 ≤ pos_0 ∧ pos_0 ≤ 2000) (kz_0_12 : 0 ≤ kind_0 ∧ kind_0 ≤ 4) (kz_0_15 : 0 ≤ from_0 ∧ from_0 ≤ 2000) (ex2 : gx = 2000 + ((-1) * pos_0 + 0)) (ex3 : 0 ≤ gx ∧ gx ≤ 2000) : (-1) * x8 + 0 ≤ 0 := by
  first | assumption | (clear f1 f5; omega) | omega | grind
set_option maxHeartbeats 4000000 in
theorem vc_Mo_of_at_s5003_29_5 (x2 : Int) (x3 : Int) (x4 : Int) (x7 : Int) (x8 : Int) (x9 : Int) (x10 : Int) (x12 : Int) (kind_0 : Int) (fault_0 : Int) (from_0 : Int) (pos_0 : Int) (gx : Int) (k2 : 9 ≤ x2 ∧ x2 ≤ 9) (k3 : 0 ≤ x3 ∧ x3 ≤ 2000) (k4 : (-1) ≤ x4 ∧ x4 ≤ 48) (k7 : 9 ≤ x7 ∧ x7 ≤ 9) (k8 : (-2147483648) ≤ x8 ∧ x8 ≤ 2147483647) (k9 : 0 ≤ x9 ∧ x9 ≤ 0) (k10 : 0 ≤ x10 ∧ x10 ≤ 2000) (k12 : 0 ≤ x12 ∧ x12 ≤ 0) (f0 : x12 = 0) (f1 : (x12 = 1) → ((kind_0 = 3) ∧ (fault_0 = 0))) (f2 : x9 = 0) (g3 : x9 = fault_0) (f4 : 1 * from_0 + ((-1) * pos_0 + 0) ≤ 0) (f5 : ((kind_0 = 1) → (pos_0 ≤ (from_0 + 8))) ∧ ((kind_0 = 0) ∨ ((from_0 + 1) ≤ pos_0))) (f6 : 1 * x3 + ((-1) * pos_0 + 0) ≤ (-1)) (f7 : 1 * x8 + ((-1) * x2 + 0) ≤ 0) (f8 : (-1) * x8 + 0 ≤ 0) (f9 : (-1) * x4 + 0 ≤ 0) (f10 : (-1) * x10 + ((-1) * pos_0 + 0) ≤ (-2001)) (kz_0_8 : 0 ≤ fault_0 ∧ fault_0 ≤ 5) (kz_0_11 : 0 ≤ pos_0 ∧ pos_0 ≤ 2000) (kz_0_12 : 0 ≤ kind_0 ∧ kind_0 ≤ 4) (kz_0_15 : 0 ≤ from_0 ∧ from_0 ≤ 2000) (ex2 : gx = 2000 + ((-1) * pos_0 + 0)) (ex3 : 0 ≤ gx ∧ gx ≤ 2000) : (-1) * x4 + 0 ≤ 0 := by
  first | assumption | (clear f1 f5; omega) | omega | grind
set_option maxHeartbeats 4000000 in
theorem vc_Mo_of_at_s5003_29_8 (x2 : Int) (x3 : Int) (x4 : Int) (x7 : Int) (x8 : Int) (x9 : Int) (x10 : Int) (x12 : Int) (kind_0 : Int) (fault_0 : Int) (from_0 : Int) (pos_0 : Int) (gx : Int) (k2 : 9 ≤ x2 ∧ x2 ≤ 9) (k3 : 0 ≤ x3 ∧ x3 ≤ 2000) (k4 : (-1) ≤ x4 ∧ x4 ≤ 48) (k7 : 9 ≤ x7 ∧ x7 ≤ 9) (k8 : (-2147483648) ≤ x8 ∧ x8 ≤ 2147483647) (k9 : 0 ≤ x9 ∧ x9 ≤ 0) (k10 : 0 ≤ x10 ∧ x10 ≤ 2000) (k12 : 0 ≤ x12 ∧ x12 ≤ 0) (f0 : x12 = 0) (f1 : (x12 = 1) → ((kind_0 = 3) ∧ (fault_0 = 0))) (f2 : x9 = 0) (g3 : x9 = fault_0) (f4 : 1 * from_0 + ((-1) * pos_0 + 0) ≤ 0) (f5 : ((kind_0 = 1) → (pos_0 ≤ (from_0 + 8))) ∧ ((kind_0 = 0) ∨ ((from_0 + 1) ≤ pos_0))) (f6 : 1 * x3 + ((-1) * pos_0 + 0) ≤ (-1)) (f7 : 1 * x8 + ((-1) * x2 + 0) ≤ 0) (f8 : (-1) * x8 + 0 ≤ 0) (f9 : (-1) * x4 + 0 ≤ 0) (f10 : (-1) * x10 + ((-1) * pos_0 + 0) ≤ (-2001)) (kz_0_8 : 0 ≤ fault_0 ∧ fault_0 ≤ 5) (kz_0_11 : 0 ≤ pos_0 ∧ pos_0 ≤ 2000) (kz_0_12 : 0 ≤ kind_0 ∧ kind_0 ≤ 4) (kz_0_15 : 0 ≤ from_0 ∧ from_0 ≤ 2000) (ex2 : gx = 2000 + ((-1) * pos_0 + 0)) (ex3 : 0 ≤ gx ∧ gx ≤ 2000) : 1 * gx + (1 * pos_0 + 0) ≤ 2000 := by
  first | assumption | (clear f1 f5; omega) | omega | grind
set_option maxHeartbeats 4000000 in
theorem vc_Mo_of_at_s5003_29_9 (x2 : Int) (x3 : Int) (x4 : Int) (x7 : Int) (x8 : Int) (x9 : Int) (x10 : Int) (x12 : Int) (kind_0 : Int) (fault_0 : Int) (from_0 : Int) (pos_0 : Int) (gx : Int) (k2 : 9 ≤ x2 ∧ x2 ≤ 9) (k3 : 0 ≤ x3 ∧ x3 ≤ 2000) (k4 : (-1) ≤ x4 ∧ x4 ≤ 48) (k7 : 9 ≤ x7 ∧ x7 ≤ 9) (k8 : (-2147483648) ≤ x8 ∧ x8 ≤ 2147483647) (k9 : 0 ≤ x9 ∧ x9 ≤ 0) (k10 : 0 ≤ x10 ∧ x10 ≤ 2000) (k12 : 0 ≤ x12 ∧ x12 ≤ 0) (f0 : x12 = 0) (f1 : (x12 = 1) → ((kind_0 = 3) ∧ (fault_0 = 0))) (f2 : x9 = 0) (g3 : x9 = fault_0) (f4 : 1 * from_0 + ((-1) * pos_0 + 0) ≤ 0) (f5 : ((kind_0 = 1) → (pos_0 ≤ (from_0 + 8))) ∧ ((kind_0 = 0) ∨ ((from_0 + 1) ≤ pos_0))) (f6 : 1 * x3 + ((-1) * pos_0 + 0) ≤ (-1)) (f7 : 1 * x8 + ((-1) * x2 + 0) ≤ 0) (f8 : (-1) * x8 + 0 ≤ 0) (f9 : (-1) * x4 + 0 ≤ 0) (f10 : (-1) * x10 + ((-1) * pos_0 + 0) ≤ (-2001)) (kz_0_8 : 0 ≤ fault_0 ∧ fault_0 ≤ 5) (kz_0_11 : 0 ≤ pos_0 ∧ pos_0 ≤ 2000) (kz_0_12 : 0 ≤ kind_0 ∧ kind_0 ≤ 4) (kz_0_15 : 0 ≤ from_0 ∧ from_0 ≤ 2000) (ex2 : gx = 2000 + ((-1) * pos_0 + 0)) (ex3 : 0 ≤ gx ∧ gx ≤ 2000) : (-1) * gx + ((-1) * pos_0 + 0) ≤ (-2000) := by
  first | assumption | (clear f1 f5; omega) | omega | grind
def o_Mo_of_at_s5003_29 : or_T := (17, 13, [(0, (2, 0, 0, [165])), (2, (0, 9, 9, [])), (3, (0, 0, 2000, [])), (4, (0, -1, 48, [])), (5, (2, 0, 0, [165])), (7, (0, 9, 9, [])), (8, (0, -2147483648, 2147483647, [])), (9, (0, 0, 0, [])), (10, (0, 0, 2000, [])), (12, (0, 0, 0, []))], [(8, [12], [0]), (20, [12, 5], [50, 2, 0, 1012, 1008, 4, 6, 1, 2, 1, 0, 0, 1, 2, 7, 1, 3, 2, 1, 12, 0, 3, 1, 3, 2, 1, 8, 0, 0]), (8, [9], [0]), (9, [9, 5], [8]), (20, [5, 5], [30, 0, 1, 1, 15, -1, 1, 11]), (20, [5], [50, 3, 0, 12, 11, 15, 2, 21, 4, 7, 1, 3, 2, 0, 12, 0, 1, 0, 3, 2, 0, 11, 4, 3, 2, 0, 15, 0, 8, 3, 7, 1, 3, 2, 0, 12, 0, 0, 0, 7, 4, 3, 2, 0, 15, 0, 1, 2, 0, 11]), (20, [3, 5], [30, -1, 1, 0, 0, -1, 1, 11]), (23, [8, 7], [0, 1, -1]), (23, [8], [0, -1]), (23, [4], [0, -1]), (20, [10, 5], [30, -2001, -1, 0, 0, -1, 1, 11]), (24, [0, 5], []), (24, [2, 7], [])], [], [(0, 0, 2000, [])], [(20, [5, 5], [30, 0, 1, 1, 15, -1, 1, 11]), (20, [5], [50, 3, 0, 12, 11, 15, 2, 21, 4, 7, 1, 3, 2, 0, 12, 0, 1, 0, 3, 2, 0, 11, 4, 3, 2, 0, 15, 0, 8, 3, 7, 1, 3, 2, 0, 12, 0, 0, 0, 7, 4, 3, 2, 0, 15, 0, 1, 2, 0, 11]), (20, [3, 5], [30, -1, 1, 0, 0, -1, 1, 11]), (23, [8, 7], [0, 1, -1]), (23, [8], [0, -1]), (23, [4], [0, -1]), (24, [0, 5], []), (24, [2, 7], []), (20, [13, 5], [30, 2000, 1, 0, 0, 1, 1, 11]), (20, [13, 5], [30, -2000, -1, 0, 0, -1, 1, 11])], [(13, 10, -1000000000000, -1)], [])
theorem oo_Mo_of_at_s5003_29 {kA : Nat → ClassId} : or_ok PRD kA GG o_Mo_of_at_s5003_29 := by
  refine or_mk fun A ta ws vs hD hth hl => ?_
  intro t0 r0 t2 k2 t3 k3 t4 k4 t5 r5 t7 k7 t8 k8 t9 k9 t10 k10 t12 k12 f0 f1 f2 f3 f4 f5 f6 f7 f8 f9 f10 f11 f12
  replace f0 := shm_210 f0
  replace f1 := shm_717 f1
  replace f2 := shm_210 f2
  replace f3 := shm_143 f3
  replace f4 := shm_1397 f4
  replace f5 := shm_1398 f5
  replace f6 := shm_1891 f6
  replace f7 := shm_7 f7
  replace f8 := shm_1013 f8
  replace f9 := shm_1013 f9
  replace f10 := shm_1896 f10
  replace f11 := shm_5 f11
  replace f12 := shm_5 f12
  have q5 : n_v vs 5 = n_v vs 0 := f11.symm
  have q7 : n_v vs 7 = n_v vs 2 := f12.symm
  simp only [q5, q7] at f1 f3 f4 f5 f6 f7 f10
  have g3 : v_iv (n_v vs 9) = w_fi ws (n_v vs 0) 8 := congrArg v_iv f3
  have kz_0_8 := fdq_14 hD hth r0
  have kz_0_11 := fdq_273 hD hth r0
  have kz_0_12 := fdq_186 hD hth r0
  have kz_0_15 := fdq_274 hD hth r0
  have kb_0_11 := fdq_273 hD hth r0
  obtain ⟨x, ex, hx⟩ := iv_ex (ta := ta) (lo := 0) (hi := 2000) (z := 2000 + ((-1) * w_fi ws (n_v vs 0) 11 + 0)) (by omega) (by omega) (by omega) (by omega)
  have ex2 : v_iv (Value.int x) = 2000 + ((-1) * w_fi ws (n_v vs 0) 11 + 0) := ex
  have ex3 : 0 ≤ v_iv (Value.int x) ∧ v_iv (Value.int x) ≤ 2000 := tv_rng hx
  have e_0 : n_v (vs ++ [Value.int x]) 0 = n_v vs 0 := n_v_old (by rw [hl]; decide)
  have e_2 : n_v (vs ++ [Value.int x]) 2 = n_v vs 2 := n_v_old (by rw [hl]; decide)
  have e_3 : n_v (vs ++ [Value.int x]) 3 = n_v vs 3 := n_v_old (by rw [hl]; decide)
  have e_4 : n_v (vs ++ [Value.int x]) 4 = n_v vs 4 := n_v_old (by rw [hl]; decide)
  have e_5 : n_v (vs ++ [Value.int x]) 5 = n_v vs 5 := n_v_old (by rw [hl]; decide)
  have e_7 : n_v (vs ++ [Value.int x]) 7 = n_v vs 7 := n_v_old (by rw [hl]; decide)
  have e_8 : n_v (vs ++ [Value.int x]) 8 = n_v vs 8 := n_v_old (by rw [hl]; decide)
  have e_13 : n_v (vs ++ [Value.int x]) 13 = Value.int x := n_v_new hl
  have nf0 : fc_1 PRD (20, [5, 5], [30, 0, 1, 1, 15, -1, 1, 11]) ws (vs ++ [Value.int x]) := by
    refine ⟨nf_inA hl rfl, sgq_1397 ?_⟩
    · show 1 * w_fi ws (n_v (vs ++ [Value.int x]) 5) 15 + ((-1) * w_fi ws (n_v (vs ++ [Value.int x]) 5) 11 + 0) ≤ 0
      simp only [e_5, q5]
      exact vc_Mo_of_at_s5003_29_0 (v_iv (n_v vs 2)) (v_iv (n_v vs 3)) (v_iv (n_v vs 4)) (v_iv (n_v vs 7)) (v_iv (n_v vs 8)) (v_iv (n_v vs 9)) (v_iv (n_v vs 10)) (v_iv (n_v vs 12)) (w_fi ws (n_v vs 0) 12) (w_fi ws (n_v vs 0) 8) (w_fi ws (n_v vs 0) 15) (w_fi ws (n_v vs 0) 11) (v_iv (Value.int x)) k2 k3 k4 k7 k8 k9 k10 k12 f0 f1 f2 g3 f4 f5 f6 f7 f8 f9 f10 kz_0_8 kz_0_11 kz_0_12 kz_0_15 ex2 ex3
  have nf1 : fc_1 PRD (20, [5], [50, 3, 0, 12, 11, 15, 2, 21, 4, 7, 1, 3, 2, 0, 12, 0, 1, 0, 3, 2, 0, 11, 4, 3, 2, 0, 15, 0, 8, 3, 7, 1, 3, 2, 0, 12, 0, 0, 0, 7, 4, 3, 2, 0, 15, 0, 1, 2, 0, 11]) ws (vs ++ [Value.int x]) := by
    refine ⟨nf_inA hl rfl, sgq_1398 ?_⟩
    · show ((w_fi ws (n_v (vs ++ [Value.int x]) 5) 12 = 1) → (w_fi ws (n_v (vs ++ [Value.int x]) 5) 11 ≤ (w_fi ws (n_v (vs ++ [Value.int x]) 5) 15 + 8))) ∧ ((w_fi ws (n_v (vs ++ [Value.int x]) 5) 12 = 0) ∨ ((w_fi ws (n_v (vs ++ [Value.int x]) 5) 15 + 1) ≤ w_fi ws (n_v (vs ++ [Value.int x]) 5) 11))
      simp only [e_5, q5]
      exact vc_Mo_of_at_s5003_29_1 (v_iv (n_v vs 2)) (v_iv (n_v vs 3)) (v_iv (n_v vs 4)) (v_iv (n_v vs 7)) (v_iv (n_v vs 8)) (v_iv (n_v vs 9)) (v_iv (n_v vs 10)) (v_iv (n_v vs 12)) (w_fi ws (n_v vs 0) 12) (w_fi ws (n_v vs 0) 8) (w_fi ws (n_v vs 0) 15) (w_fi ws (n_v vs 0) 11) (v_iv (Value.int x)) k2 k3 k4 k7 k8 k9 k10 k12 f0 f1 f2 g3 f4 f5 f6 f7 f8 f9 f10 kz_0_8 kz_0_11 kz_0_12 kz_0_15 ex2 ex3
  have nf2 : fc_1 PRD (20, [3, 5], [30, -1, 1, 0, 0, -1, 1, 11]) ws (vs ++ [Value.int x]) := by
    refine ⟨nf_inA hl rfl, sgq_1891 ?_⟩
    · show 1 * v_iv (n_v (vs ++ [Value.int x]) 3) + ((-1) * w_fi ws (n_v (vs ++ [Value.int x]) 5) 11 + 0) ≤ (-1)
      simp only [e_3, e_5, q5]
      exact vc_Mo_of_at_s5003_29_2 (v_iv (n_v vs 2)) (v_iv (n_v vs 3)) (v_iv (n_v vs 4)) (v_iv (n_v vs 7)) (v_iv (n_v vs 8)) (v_iv (n_v vs 9)) (v_iv (n_v vs 10)) (v_iv (n_v vs 12)) (w_fi ws (n_v vs 0) 12) (w_fi ws (n_v vs 0) 8) (w_fi ws (n_v vs 0) 15) (w_fi ws (n_v vs 0) 11) (v_iv (Value.int x)) k2 k3 k4 k7 k8 k9 k10 k12 f0 f1 f2 g3 f4 f5 f6 f7 f8 f9 f10 kz_0_8 kz_0_11 kz_0_12 kz_0_15 ex2 ex3
  have nf3 : fc_1 PRD (23, [8, 7], [0, 1, -1]) ws (vs ++ [Value.int x]) := by
    refine ⟨nf_inA hl rfl, sgq_7 ?_⟩
    · show 1 * v_iv (n_v (vs ++ [Value.int x]) 8) + ((-1) * v_iv (n_v (vs ++ [Value.int x]) 7) + 0) ≤ 0
      simp only [e_7, e_8, q7]
      exact vc_Mo_of_at_s5003_29_3 (v_iv (n_v vs 2)) (v_iv (n_v vs 3)) (v_iv (n_v vs 4)) (v_iv (n_v vs 7)) (v_iv (n_v vs 8)) (v_iv (n_v vs 9)) (v_iv (n_v vs 10)) (v_iv (n_v vs 12)) (w_fi ws (n_v vs 0) 12) (w_fi ws (n_v vs 0) 8) (w_fi ws (n_v vs 0) 15) (w_fi ws (n_v vs 0) 11) (v_iv (Value.int x)) k2 k3 k4 k7 k8 k9 k10 k12 f0 f1 f2 g3 f4 f5 f6 f7 f8 f9 f10 kz_0_8 kz_0_11 kz_0_12 kz_0_15 ex2 ex3
  have nf4 : fc_1 PRD (23, [8], [0, -1]) ws (vs ++ [Value.int x]) := by
    refine ⟨nf_inA hl rfl, sgq_1013 ?_⟩
    · show (-1) * v_iv (n_v (vs ++ [Value.int x]) 8) + 0 ≤ 0
      rw [e_8]
      exact vc_Mo_of_at_s5003_29_4 (v_iv (n_v vs 2)) (v_iv (n_v vs 3)) (v_iv (n_v vs 4)) (v_iv (n_v vs 7)) (v_iv (n_v vs 8)) (v_iv (n_v vs 9)) (v_iv (n_v vs 10)) (v_iv (n_v vs 12)) (w_fi ws (n_v vs 0) 12) (w_fi ws (n_v vs 0) 8) (w_fi ws (n_v vs 0) 15) (w_fi ws (n_v vs 0) 11) (v_iv (Value.int x)) k2 k3 k4 k7 k8 k9 k10 k12 f0 f1 f2 g3 f4 f5 f6 f7 f8 f9 f10 kz_0_8 kz_0_11 kz_0_12 kz_0_15 ex2 ex3
  have nf5 : fc_1 PRD (23, [4], [0, -1]) ws (vs ++ [Value.int x]) := by
    refine ⟨nf_inA hl rfl, sgq_1013 ?_⟩
    · show (-1) * v_iv (n_v (vs ++ [Value.int x]) 4) + 0 ≤ 0
      rw [e_4]
      exact vc_Mo_of_at_s5003_29_5 (v_iv (n_v vs 2)) (v_iv (n_v vs 3)) (v_iv (n_v vs 4)) (v_iv (n_v vs 7)) (v_iv (n_v vs 8)) (v_iv (n_v vs 9)) (v_iv (n_v vs 10)) (v_iv (n_v vs 12)) (w_fi ws (n_v vs 0) 12) (w_fi ws (n_v vs 0) 8) (w_fi ws (n_v vs 0) 15) (w_fi ws (n_v vs 0) 11) (v_iv (Value.int x)) k2 k3 k4 k7 k8 k9 k10 k12 f0 f1 f2 g3 f4 f5 f6 f7 f8 f9 f10 kz_0_8 kz_0_11 kz_0_12 kz_0_15 ex2 ex3
  have nf6 : fc_1 PRD (24, [0, 5], []) ws (vs ++ [Value.int x]) := by
    refine ⟨nf_inA hl rfl, sgq_5 ?_⟩
    · show n_v (vs ++ [Value.int x]) 0 = n_v (vs ++ [Value.int x]) 5
      first | rfl | simp only [e_0, e_5, q5, q7]
  have nf7 : fc_1 PRD (24, [2, 7], []) ws (vs ++ [Value.int x]) := by
    refine ⟨nf_inA hl rfl, sgq_5 ?_⟩
    · show n_v (vs ++ [Value.int x]) 2 = n_v (vs ++ [Value.int x]) 7
      first | rfl | simp only [e_2, e_7, q5, q7]
  have nf8 : fc_1 PRD (20, [13, 5], [30, 2000, 1, 0, 0, 1, 1, 11]) ws (vs ++ [Value.int x]) := by
    refine ⟨nf_inA hl rfl, sgq_1892 ?_⟩
    · show 1 * v_iv (n_v (vs ++ [Value.int x]) 13) + (1 * w_fi ws (n_v (vs ++ [Value.int x]) 5) 11 + 0) ≤ 2000
      simp only [e_5, e_13, q5]
      exact vc_Mo_of_at_s5003_29_8 (v_iv (n_v vs 2)) (v_iv (n_v vs 3)) (v_iv (n_v vs 4)) (v_iv (n_v vs 7)) (v_iv (n_v vs 8)) (v_iv (n_v vs 9)) (v_iv (n_v vs 10)) (v_iv (n_v vs 12)) (w_fi ws (n_v vs 0) 12) (w_fi ws (n_v vs 0) 8) (w_fi ws (n_v vs 0) 15) (w_fi ws (n_v vs 0) 11) (v_iv (Value.int x)) k2 k3 k4 k7 k8 k9 k10 k12 f0 f1 f2 g3 f4 f5 f6 f7 f8 f9 f10 kz_0_8 kz_0_11 kz_0_12 kz_0_15 ex2 ex3
  have nf9 : fc_1 PRD (20, [13, 5], [30, -2000, -1, 0, 0, -1, 1, 11]) ws (vs ++ [Value.int x]) := by
    refine ⟨nf_inA hl rfl, sgq_1893 ?_⟩
    · show (-1) * v_iv (n_v (vs ++ [Value.int x]) 13) + ((-1) * w_fi ws (n_v (vs ++ [Value.int x]) 5) 11 + 0) ≤ (-2000)
      simp only [e_5, e_13, q5]
      exact vc_Mo_of_at_s5003_29_9 (v_iv (n_v vs 2)) (v_iv (n_v vs 3)) (v_iv (n_v vs 4)) (v_iv (n_v vs 7)) (v_iv (n_v vs 8)) (v_iv (n_v vs 9)) (v_iv (n_v vs 10)) (v_iv (n_v vs 12)) (w_fi ws (n_v vs 0) 12) (w_fi ws (n_v vs 0) 8) (w_fi ws (n_v vs 0) 15) (w_fi ws (n_v vs 0) 11) (v_iv (Value.int x)) k2 k3 k4 k7 k8 k9 k10 k12 f0 f1 f2 g3 f4 f5 f6 f7 f8 f9 f10 kz_0_8 kz_0_11 kz_0_12 kz_0_15 ex2 ex3
  obtain ⟨x0, e0, _, _⟩ := tv_int t10 rfl
  have e1 : v_iv (n_v vs 10) = x0.toInt := by rw [e0]; rfl
  have ho : sy_ofs (vs ++ [Value.int x]) (13, 10, -1000000000000, -1) := by
    refine ⟨x, x0, by rw [List.getElem?_append_right (by rw [hl]; decide), hl]; rfl, ?_, ?_, ?_⟩
    · rw [List.getElem?_append_left (by rw [hl]; decide)]; exact n_v_some (by rw [hl]; decide) e0
    · show x0.toInt + (-1000000000000) ≤ x.toInt; omega
    · show x.toInt ≤ x0.toInt + (-1); omega
  exact ⟨(fun _ h => (by cases h)), [Value.int x], ag_one hx, List.forall_mem_cons.mpr ⟨⟨show (20 : Nat) < 100 from by decide, nf0⟩, List.forall_mem_cons.mpr ⟨⟨show (20 : Nat) < 100 from by decide, nf1⟩, List.forall_mem_cons.mpr ⟨⟨show (20 : Nat) < 100 from by decide, nf2⟩, List.forall_mem_cons.mpr ⟨⟨show (23 : Nat) < 100 from by decide, nf3⟩, List.forall_mem_cons.mpr ⟨⟨show (23 : Nat) < 100 from by decide, nf4⟩, List.forall_mem_cons.mpr ⟨⟨show (23 : Nat) < 100 from by decide, nf5⟩, List.forall_mem_cons.mpr ⟨⟨show (24 : Nat) < 100 from by decide, nf6⟩, List.forall_mem_cons.mpr ⟨⟨show (24 : Nat) < 100 from by decide, nf7⟩, List.forall_mem_cons.mpr ⟨⟨show (20 : Nat) < 100 from by decide, nf8⟩, List.forall_mem_cons.mpr ⟨⟨show (20 : Nat) < 100 from by decide, nf9⟩, (fun _ h => (by cases h))⟩⟩⟩⟩⟩⟩⟩⟩⟩⟩, List.forall_mem_cons.mpr ⟨ho, (fun _ h => (by cases h))⟩⟩
set_option maxHeartbeats 4000000 in
theorem vc_Mo_of_at_s5003_30_0 (x2 : Int) (x3 : Int) (x7 : Int) (x9 : Int) (x10 : Int) (x12 : Int) (kind_0 : Int) (fault_0 : Int) (from_0 : Int) (pos_0 : Int) (gx : Int) (k2 : 9 ≤ x2 ∧ x2 ≤ 9) (k3 : 0 ≤ x3 ∧ x3 ≤ 2000) (k7 : 9 ≤ x7 ∧ x7 ≤ 9) (k9 : 0 ≤ x9 ∧ x9 ≤ 0) (k10 : 0 ≤ x10 ∧ x10 ≤ 2000) (k12 : 1 ≤ x12 ∧ x12 ≤ 1) (f0 : x12 ≠ 0) (f1 : (x12 = 1) → ((kind_0 = 3) ∧ (fault_0 = 0))) (f2 : x9 = 0) (g3 : x9 = fault_0) (f4 : 1 * from_0 + ((-1) * pos_0 + 0) ≤ 0) (f5 : ((kind_0 = 1) → (pos_0 ≤ (from_0 + 8))) ∧ ((kind_0 = 0) ∨ ((from_0 + 1) ≤ pos_0))) (f6 : 1 * x3 + ((-1) * pos_0 + 0) ≤ (-1)) (f7 : (-1) * x10 + ((-1) * pos_0 + 0) ≤ (-2001)) (kz_0_8 : 0 ≤ fault_0 ∧ fault_0 ≤ 5) (kz_0_11 : 0 ≤ pos_0 ∧ pos_0 ≤ 2000) (kz_0_12 : 0 ≤ kind_0 ∧ kind_0 ≤ 4) (kz_0_15 : 0 ≤ from_0 ∧ from_0 ≤ 2000) (ex2 : gx = x3) (ex3 : 0 ≤ gx ∧ gx ≤ 2000) : 1 * gx + ((-1) * x3 + 0) ≤ 0 := by
  first | assumption | (clear f1 f5; omega) | omega | grind
set_option maxHeartbeats 4000000 in
theorem vc_Mo_of_at_s5003_30_1 (x2 : Int) (x3 : Int) (x7 : Int) (x9 : Int) (x10 : Int) (x12 : Int) (kind_0 : Int) (fault_0 : Int) (from_0 : Int) (pos_0 : Int) (gx : Int) (k2 : 9 ≤ x2 ∧ x2 ≤ 9) (k3 : 0 ≤ x3 ∧ x3 ≤ 2000) (k7 : 9 ≤ x7 ∧ x7 ≤ 9) (k9 : 0 ≤ x9 ∧ x9 ≤ 0) (k10 : 0 ≤ x10 ∧ x10 ≤ 2000) (k12 : 1 ≤ x12 ∧ x12 ≤ 1) (f0 : x12 ≠ 0) (f1 : (x12 = 1) → ((kind_0 = 3) ∧ (fault_0 = 0))) (f2 : x9 = 0) (g3 : x9 = fault_0) (f4 : 1 * from_0 + ((-1) * pos_0 + 0) ≤ 0) (f5 : ((kind_0 = 1) → (pos_0 ≤ (from_0 + 8))) ∧ ((kind_0 = 0) ∨ ((from_0 + 1) ≤ pos_0))) (f6 : 1 * x3 + ((-1) * pos_0 + 0) ≤ (-1)) (f7 : (-1) * x10 + ((-1) * pos_0 + 0) ≤ (-2001)) (kz_0_8 : 0 ≤ fault_0 ∧ fault_0 ≤ 5) (kz_0_11 : 0 ≤ pos_0 ∧ pos_0 ≤ 2000) (kz_0_12 : 0 ≤ kind_0 ∧ kind_0 ≤ 4) (kz_0_15 : 0 ≤ from_0 ∧ from_0 ≤ 2000) (ex2 : gx = x3) (ex3 : 0 ≤ gx ∧ gx ≤ 2000) : (-1) * gx + (1 * x3 + 0) ≤ 0 := by
  first | assumption | (clear f1 f5; omega) | omega | grind
set_option maxHeartbeats 4000000 in
theorem vc_Mo_of_at_s5003_30_2 (x2 : Int) (x3 : Int) (x7 : Int) (x9 : Int) (x10 : Int) (x12 : Int) (kind_0 : Int) (fault_0 : Int) (from_0 : Int) (pos_0 : Int) (gx : Int) (k2 : 9 ≤ x2 ∧ x2 ≤ 9) (k3 : 0 ≤ x3 ∧ x3 ≤ 2000) (k7 : 9 ≤ x7 ∧ x7 ≤ 9) (k9 : 0 ≤ x9 ∧ x9 ≤ 0) (k10 : 0 ≤ x10 ∧ x10 ≤ 2000) (k12 : 1 ≤ x12 ∧ x12 ≤ 1) (f0 : x12 ≠ 0) (f1 : (x12 = 1) → ((kind_0 = 3) ∧ (fault_0 = 0))) (f2 : x9 = 0) (g3 : x9 = fault_0) (f4 : 1 * from_0 + ((-1) * pos_0 + 0) ≤ 0) (f5 : ((kind_0 = 1) → (pos_0 ≤ (from_0 + 8))) ∧ ((kind_0 = 0) ∨ ((from_0 + 1) ≤ pos_0))) (f6 : 1 * x3 + ((-1) * pos_0 + 0) ≤ (-1)) (f7 : (-1) * x10 + ((-1) * pos_0 + 0) ≤ (-2001)) (kz_0_8 : 0 ≤ fault_0 ∧ fault_0 ≤ 5) (kz_0_11 : 0 ≤ pos_0 ∧ pos_0 ≤ 2000) (kz_0_12 : 0 ≤ kind_0 ∧ kind_0 ≤ 4) (kz_0_15 : 0 ≤ from_0 ∧ from_0 ≤ 2000) (ex2 : gx = x3) (ex3 : 0 ≤ gx ∧ gx ≤ 2000) : 1 * from_0 + ((-1) * pos_0 + 0) ≤ 0 := by
  first | assumption | (clear f1 f5; omega) | omega | grind
set_option maxHeartbeats 4000000 in
theorem vc_Mo_of_at_s5003_30_3 (x2 : Int) (x3 : Int) (x7 : Int) (x9 : Int) (x10 : Int) (x12 : Int) (kind_0 : Int) (fault_0 : Int) (from_0 : Int) (pos_0 : Int) (gx : Int) (k2 : 9 ≤ x2 ∧ x2 ≤ 9) (k3 : 0 ≤ x3 ∧ x3 ≤ 2000) (k7 : 9 ≤ x7 ∧ x7 ≤ 9) (k9 : 0 ≤ x9 ∧ x9 ≤ 0) (k10 : 0 ≤ x10 ∧ x10 ≤ 2000) (k12 : 1 ≤ x12 ∧ x12 ≤ 1) (f0 : x12 ≠ 0) (f1 : (x12 = 1) → ((kind_0 = 3) ∧ (fault_0 = 0))) (f2 : x9 = 0) (g3 : x9 = fault_0) (f4 : 1 * from_0 + ((-1) * pos_0 + 0) ≤ 0) (f5 : ((kind_0 = 1) → (pos_0 ≤ (from_0 + 8))) ∧ ((kind_0 = 0) ∨ ((from_0 + 1) ≤ pos_0))) (f6 : 1 * x3 + ((-1) * pos_0 + 0) ≤ (-1)) (f7 : (-1) * x10 + ((-1) * pos_0 + 0) ≤ (-2001)) (kz_0_8 : 0 ≤ fault_0 ∧ fault_0 ≤ 5) (kz_0_11 : 0 ≤ pos_0 ∧ pos_0 ≤ 2000) (kz_0_12 : 0 ≤ kind_0 ∧ kind_0 ≤ 4) (kz_0_15 : 0 ≤ from_0 ∧ from_0 ≤ 2000) (ex2 : gx = x3) (ex3 : 0 ≤ gx ∧ gx ≤ 2000) : ((kind_0 = 1) → (pos_0 ≤ (from_0 + 8))) ∧ ((kind_0 = 0) ∨ ((from_0 + 1) ≤ pos_0)) := by
  first | assumption | (clear f1 f5; omega) | omega | grind
set_option maxHeartbeats 4000000 in
theorem vc_Mo_of_at_s5003_30_4 (x2 : Int) (x3 : Int) (x7 : Int) (x9 : Int) (x10 : Int) (x12 : Int) (kind_0 : Int) (fault_0 : Int) (from_0 : Int) (pos_0 : Int) (gx : Int) (k2 : 9 ≤ x2 ∧ x2 ≤ 9) (k3 : 0 ≤ x3 ∧ x3 ≤ 2000) (k7 : 9 ≤ x7 ∧ x7 ≤ 9) (k9 : 0 ≤ x9 ∧ x9 ≤ 0) (k10 : 0 ≤ x10 ∧ x10 ≤ 2000) (k12 : 1 ≤ x12 ∧ x12 ≤ 1) (f0 : x12 ≠ 0) (f1 : (x12 = 1) → ((kind_0 = 3) ∧ (fault_0 = 0))) (f2 : x9 = 0) (g3 : x9 = fault_0) (f4 : 1 * from_0 + ((-1) * pos_0 + 0) ≤ 0) (f5 : ((kind_0 = 1) → (pos_0 ≤ (from_0 + 8))) ∧ ((kind_0 = 0) ∨ ((from_0 + 1) ≤ pos_0))) (f6 : 1 * x3 + ((-1) * pos_0 + 0) ≤ (-1)) (f7 : (-1) * x10 + ((-1) * pos_0 + 0) ≤ (-2001)) (kz_0_8 : 0 ≤ fault_0 ∧ fault_0 ≤ 5) (kz_0_11 : 0 ≤ pos_0 ∧ pos_0 ≤ 2000) (kz_0_12 : 0 ≤ kind_0 ∧ kind_0 ≤ 4) (kz_0_15 : 0 ≤ from_0 ∧ from_0 ≤ 2000) (ex2 : gx = x3) (ex3 : 0 ≤ gx ∧ gx ≤ 2000) : 1 * gx + ((-1) * pos_0 + 0) ≤ 0 := by
  first | assumption | (clear f1 f5; omega) | omega | grind
set_option maxHeartbeats 4000000 in
theorem vc_Mo_of_at_s5003_30_5 (x2 : Int) (x3 : Int) (x7 : Int) (x9 : Int) (x10 : Int) (x12 : Int) (kind_0 : Int) (fault_0 : Int) (from_0 : Int) (pos_0 : Int) (gx : Int) (k2 : 9 ≤ x2 ∧ x2 ≤ 9) (k3 : 0 ≤ x3 ∧ x3 ≤ 2000) (k7 : 9 ≤ x7 ∧ x7 ≤ 9) (k9 : 0 ≤ x9 ∧ x9 ≤ 0) (k10 : 0 ≤ x10 ∧ x10 ≤ 2000) (k12 : 1 ≤ x12 ∧ x12 ≤ 1) (f0 : x12 ≠ 0) (f1 : (x12 = 1) → ((kind_0 = 3) ∧ (fault_0 = 0))) (f2 : x9 = 0) (g3 : x9 = fault_0) (f4 : 1 * from_0 + ((-1) * pos_0 + 0) ≤ 0) (f5 : ((kind_0 = 1) → (pos_0 ≤ (from_0 + 8))) ∧ ((kind_0 = 0) ∨ ((from_0 + 1) ≤ pos_0))) (f6 : 1 * x3 + ((-1) * pos_0 + 0) ≤ (-1)) (f7 : (-1) * x10 + ((-1) * pos_0 + 0) ≤ (-2001)) (kz_0_8 : 0 ≤ fault_0 ∧ fault_0 ≤ 5) (kz_0_11 : 0 ≤ pos_0 ∧ pos_0 ≤ 2000) (kz_0_12 : 0 ≤ kind_0 ∧ kind_0 ≤ 4) (kz_0_15 : 0 ≤ from_0 ∧ from_0 ≤ 2000) (ex2 : gx = x3) (ex3 : 0 ≤ gx ∧ gx ≤ 2000) : (1 ≤ fault_0) ∨ ((kind_0 = 0) ∨ ((gx + 1) ≤ pos_0)) := by
  first | assumption | (clear f1 f5; omega) | omega | grind
def o_Mo_of_at_s5003_30 : or_T := (158, 14, [(0, (2, 0, 0, [165])), (2, (0, 9, 9, [])), (3, (0, 0, 2000, [])), (7, (0, 9, 9, [])), (9, (0, 0, 0, [])), (10, (0, 0, 2000, [])), (12, (0, 1, 1, []))], [(8, [12], [1]), (20, [12, 5], [50, 2, 0, 1012, 1008, 4, 6, 1, 2, 1, 0, 0, 1, 2, 7, 1, 3, 2, 1, 12, 0, 3, 1, 3, 2, 1, 8, 0, 0]), (8, [9], [0]), (9, [9, 5], [8]), (20, [5, 5], [30, 0, 1, 1, 15, -1, 1, 11]), (20, [5], [50, 3, 0, 12, 11, 15, 2, 21, 4, 7, 1, 3, 2, 0, 12, 0, 1, 0, 3, 2, 0, 11, 4, 3, 2, 0, 15, 0, 8, 3, 7, 1, 3, 2, 0, 12, 0, 0, 0, 7, 4, 3, 2, 0, 15, 0, 1, 2, 0, 11]), (20, [3, 5], [30, -1, 1, 0, 0, -1, 1, 11]), (20, [10, 5], [30, -2001, -1, 0, 0, -1, 1, 11]), (24, [0, 5], [])], [], [(0, 0, 2000, [])], [(23, [14, 3], [0, 1, -1]), (23, [14, 3], [0, -1, 1]), (20, [5, 5], [30, 0, 1, 1, 15, -1, 1, 11]), (20, [5], [50, 3, 0, 12, 11, 15, 2, 21, 4, 7, 1, 3, 2, 0, 12, 0, 1, 0, 3, 2, 0, 11, 4, 3, 2, 0, 15, 0, 8, 3, 7, 1, 3, 2, 0, 12, 0, 0, 0, 7, 4, 3, 2, 0, 15, 0, 1, 2, 0, 11]), (20, [14, 5], [30, 0, 1, 0, 0, -1, 1, 11]), (20, [5, 14], [50, 3, 0, 8, 12, 11, 3, 7, 0, 2, 0, 1, 2, 0, 8, 3, 7, 1, 3, 2, 0, 12, 0, 0, 0, 6, 4, 2, 1, 1, 0, 1, 2, 0, 11])], [], [])
theorem oo_Mo_of_at_s5003_30 {kA : Nat → ClassId} : or_ok PRD kA GG o_Mo_of_at_s5003_30 := by
  refine or_mk fun A ta ws vs hD hth hl => ?_
  intro t0 r0 t2 k2 t3 k3 t7 k7 t9 k9 t10 k10 t12 k12 f0 f1 f2 f3 f4 f5 f6 f7 f8
  replace f0 := shm_154 f0
  replace f1 := shm_717 f1
  replace f2 := shm_210 f2
  replace f3 := shm_143 f3
  replace f4 := shm_1397 f4
  replace f5 := shm_1398 f5
  replace f6 := shm_1891 f6
  replace f7 := shm_1896 f7
  replace f8 := shm_5 f8
  have q5 : n_v vs 5 = n_v vs 0 := f8.symm
  simp only [q5] at f1 f3 f4 f5 f6 f7
  have g3 : v_iv (n_v vs 9) = w_fi ws (n_v vs 0) 8 := congrArg v_iv f3
  have kz_0_8 := fdq_14 hD hth r0
  have kz_0_11 := fdq_273 hD hth r0
  have kz_0_12 := fdq_186 hD hth r0
  have kz_0_15 := fdq_274 hD hth r0
  obtain ⟨x, ex, hx⟩ := iv_ex (ta := ta) (lo := 0) (hi := 2000) (z := v_iv (n_v vs 3)) (by omega) (by omega) (by omega) (by omega)
  have ex2 : v_iv (Value.int x) = v_iv (n_v vs 3) := ex
  have ex3 : 0 ≤ v_iv (Value.int x) ∧ v_iv (Value.int x) ≤ 2000 := tv_rng hx
  have e_3 : n_v (vs ++ [Value.int x]) 3 = n_v vs 3 := n_v_old (by rw [hl]; decide)
  have e_5 : n_v (vs ++ [Value.int x]) 5 = n_v vs 5 := n_v_old (by rw [hl]; decide)
  have e_14 : n_v (vs ++ [Value.int x]) 14 = Value.int x := n_v_new hl
  have nf0 : fc_1 PRD (23, [14, 3], [0, 1, -1]) ws (vs ++ [Value.int x]) := by
    refine ⟨nf_inA hl rfl, sgq_7 ?_⟩
    · show 1 * v_iv (n_v (vs ++ [Value.int x]) 14) + ((-1) * v_iv (n_v (vs ++ [Value.int x]) 3) + 0) ≤ 0
      simp only [e_3, e_14]
      exact vc_Mo_of_at_s5003_30_0 (v_iv (n_v vs 2)) (v_iv (n_v vs 3)) (v_iv (n_v vs 7)) (v_iv (n_v vs 9)) (v_iv (n_v vs 10)) (v_iv (n_v vs 12)) (w_fi ws (n_v vs 0) 12) (w_fi ws (n_v vs 0) 8) (w_fi ws (n_v vs 0) 15) (w_fi ws (n_v vs 0) 11) (v_iv (Value.int x)) k2 k3 k7 k9 k10 k12 f0 f1 f2 g3 f4 f5 f6 f7 kz_0_8 kz_0_11 kz_0_12 kz_0_15 ex2 ex3
  have nf1 : fc_1 PRD (23, [14, 3], [0, -1, 1]) ws (vs ++ [Value.int x]) := by
    refine ⟨nf_inA hl rfl, sgq_22 ?_⟩
    · show (-1) * v_iv (n_v (vs ++ [Value.int x]) 14) + (1 * v_iv (n_v (vs ++ [Value.int x]) 3) + 0) ≤ 0
      simp only [e_3, e_14]
      exact vc_Mo_of_at_s5003_30_1 (v_iv (n_v vs 2)) (v_iv (n_v vs 3)) (v_iv (n_v vs 7)) (v_iv (n_v vs 9)) (v_iv (n_v vs 10)) (v_iv (n_v vs 12)) (w_fi ws (n_v vs 0) 12) (w_fi ws (n_v vs 0) 8) (w_fi ws (n_v vs 0) 15) (w_fi ws (n_v vs 0) 11) (v_iv (Value.int x)) k2 k3 k7 k9 k10 k12 f0 f1 f2 g3 f4 f5 f6 f7 kz_0_8 kz_0_11 kz_0_12 kz_0_15 ex2 ex3
  have nf2 : fc_1 PRD (20, [5, 5], [30, 0, 1, 1, 15, -1, 1, 11]) ws (vs ++ [Value.int x]) := by
    refine ⟨nf_inA hl rfl, sgq_1397 ?_⟩
    · show 1 * w_fi ws (n_v (vs ++ [Value.int x]) 5) 15 + ((-1) * w_fi ws (n_v (vs ++ [Value.int x]) 5) 11 + 0) ≤ 0
      simp only [e_5, q5]
      exact vc_Mo_of_at_s5003_30_2 (v_iv (n_v vs 2)) (v_iv (n_v vs 3)) (v_iv (n_v vs 7)) (v_iv (n_v vs 9)) (v_iv (n_v vs 10)) (v_iv (n_v vs 12)) (w_fi ws (n_v vs 0) 12) (w_fi ws (n_v vs 0) 8) (w_fi ws (n_v vs 0) 15) (w_fi ws (n_v vs 0) 11) (v_iv (Value.int x)) k2 k3 k7 k9 k10 k12 f0 f1 f2 g3 f4 f5 f6 f7 kz_0_8 kz_0_11 kz_0_12 kz_0_15 ex2 ex3
  have nf3 : fc_1 PRD (20, [5], [50, 3, 0, 12, 11, 15, 2, 21, 4, 7, 1, 3, 2, 0, 12, 0, 1, 0, 3, 2, 0, 11, 4, 3, 2, 0, 15, 0, 8, 3, 7, 1, 3, 2, 0, 12, 0, 0, 0, 7, 4, 3, 2, 0, 15, 0, 1, 2, 0, 11]) ws (vs ++ [Value.int x]) := by
    refine ⟨nf_inA hl rfl, sgq_1398 ?_⟩
    · show ((w_fi ws (n_v (vs ++ [Value.int x]) 5) 12 = 1) → (w_fi ws (n_v (vs ++ [Value.int x]) 5) 11 ≤ (w_fi ws (n_v (vs ++ [Value.int x]) 5) 15 + 8))) ∧ ((w_fi ws (n_v (vs ++ [Value.int x]) 5) 12 = 0) ∨ ((w_fi ws (n_v (vs ++ [Value.int x]) 5) 15 + 1) ≤ w_fi ws (n_v (vs ++ [Value.int x]) 5) 11))
      simp only [e_5, q5]
      exact vc_Mo_of_at_s5003_30_3 (v_iv (n_v vs 2)) (v_iv (n_v vs 3)) (v_iv (n_v vs 7)) (v_iv (n_v vs 9)) (v_iv (n_v vs 10)) (v_iv (n_v vs 12)) (w_fi ws (n_v vs 0) 12) (w_fi ws (n_v vs 0) 8) (w_fi ws (n_v vs 0) 15) (w_fi ws (n_v vs 0) 11) (v_iv (Value.int x)) k2 k3 k7 k9 k10 k12 f0 f1 f2 g3 f4 f5 f6 f7 kz_0_8 kz_0_11 kz_0_12 kz_0_15 ex2 ex3
  have nf4 : fc_1 PRD (20, [14, 5], [30, 0, 1, 0, 0, -1, 1, 11]) ws (vs ++ [Value.int x]) := by
    refine ⟨nf_inA hl rfl, sgq_1395 ?_⟩
    · show 1 * v_iv (n_v (vs ++ [Value.int x]) 14) + ((-1) * w_fi ws (n_v (vs ++ [Value.int x]) 5) 11 + 0) ≤ 0
      simp only [e_5, e_14, q5]
      exact vc_Mo_of_at_s5003_30_4 (v_iv (n_v vs 2)) (v_iv (n_v vs 3)) (v_iv (n_v vs 7)) (v_iv (n_v vs 9)) (v_iv (n_v vs 10)) (v_iv (n_v vs 12)) (w_fi ws (n_v vs 0) 12) (w_fi ws (n_v vs 0) 8) (w_fi ws (n_v vs 0) 15) (w_fi ws (n_v vs 0) 11) (v_iv (Value.int x)) k2 k3 k7 k9 k10 k12 f0 f1 f2 g3 f4 f5 f6 f7 kz_0_8 kz_0_11 kz_0_12 kz_0_15 ex2 ex3
  have nf5 : fc_1 PRD (20, [5, 14], [50, 3, 0, 8, 12, 11, 3, 7, 0, 2, 0, 1, 2, 0, 8, 3, 7, 1, 3, 2, 0, 12, 0, 0, 0, 6, 4, 2, 1, 1, 0, 1, 2, 0, 11]) ws (vs ++ [Value.int x]) := by
    refine ⟨nf_inA hl rfl, sgq_1660 ?_⟩
    · show (1 ≤ w_fi ws (n_v (vs ++ [Value.int x]) 5) 8) ∨ ((w_fi ws (n_v (vs ++ [Value.int x]) 5) 12 = 0) ∨ ((v_iv (n_v (vs ++ [Value.int x]) 14) + 1) ≤ w_fi ws (n_v (vs ++ [Value.int x]) 5) 11))
      simp only [e_5, e_14, q5]
      exact vc_Mo_of_at_s5003_30_5 (v_iv (n_v vs 2)) (v_iv (n_v vs 3)) (v_iv (n_v vs 7)) (v_iv (n_v vs 9)) (v_iv (n_v vs 10)) (v_iv (n_v vs 12)) (w_fi ws (n_v vs 0) 12) (w_fi ws (n_v vs 0) 8) (w_fi ws (n_v vs 0) 15) (w_fi ws (n_v vs 0) 11) (v_iv (Value.int x)) k2 k3 k7 k9 k10 k12 f0 f1 f2 g3 f4 f5 f6 f7 kz_0_8 kz_0_11 kz_0_12 kz_0_15 ex2 ex3
  exact ⟨(fun _ h => (by cases h)), [Value.int x], ag_one hx, List.forall_mem_cons.mpr ⟨⟨show (23 : Nat) < 100 from by decide, nf0⟩, List.forall_mem_cons.mpr ⟨⟨show (23 : Nat) < 100 from by decide, nf1⟩, List.forall_mem_cons.mpr ⟨⟨show (20 : Nat) < 100 from by decide, nf2⟩, List.forall_mem_cons.mpr ⟨⟨show (20 : Nat) < 100 from by decide, nf3⟩, List.forall_mem_cons.mpr ⟨⟨show (20 : Nat) < 100 from by decide, nf4⟩, List.forall_mem_cons.mpr ⟨⟨show (20 : Nat) < 100 from by decide, nf5⟩, (fun _ h => (by cases h))⟩⟩⟩⟩⟩⟩, (fun _ h => (by cases h))⟩
set_option maxHeartbeats 4000000 in
theorem vc_Mo_of_at_s5003_31_0 (x2 : Int) (x3 : Int) (x4 : Int) (x7 : Int) (x8 : Int) (x14 : Int) (from_0 : Int) (pos_0 : Int) (kind_0 : Int) (fault_0 : Int) (k2 : 9 ≤ x2 ∧ x2 ≤ 9) (k3 : 0 ≤ x3 ∧ x3 ≤ 2000) (k4 : (-1) ≤ x4 ∧ x4 ≤ 48) (k7 : 9 ≤ x7 ∧ x7 ≤ 9) (k8 : (-2147483648) ≤ x8 ∧ x8 ≤ 2147483647) (k14 : 0 ≤ x14 ∧ x14 ≤ 2000) (f0 : 1 * x14 + ((-1) * x3 + 0) ≤ 0) (f1 : (-1) * x14 + (1 * x3 + 0) ≤ 0) (f2 : 1 * x8 + ((-1) * x2 + 0) ≤ 0) (f3 : (-1) * x8 + 0 ≤ 0) (f4 : (-1) * x4 + 0 ≤ 0) (f7 : 1 * from_0 + ((-1) * pos_0 + 0) ≤ 0) (f8 : ((kind_0 = 1) → (pos_0 ≤ (from_0 + 8))) ∧ ((kind_0 = 0) ∨ ((from_0 + 1) ≤ pos_0))) (f9 : 1 * x14 + ((-1) * pos_0 + 0) ≤ 0) (f10 : (1 ≤ fault_0) ∨ ((x14 + 1) ≤ pos_0)) (f12 : 1 * x14 + ((-1) * x3 + 0) ≤ 0) (f13 : (-1) * x14 + (1 * x3 + 0) ≤ 0) (f14 : 1 * x8 + ((-1) * x2 + 0) ≤ 0) (f15 : (-1) * x8 + 0 ≤ 0) (f16 : (-1) * x4 + 0 ≤ 0) (kz_0_8 : 0 ≤ fault_0 ∧ fault_0 ≤ 5) (kz_0_11 : 0 ≤ pos_0 ∧ pos_0 ≤ 2000) (kz_0_12 : 0 ≤ kind_0 ∧ kind_0 ≤ 4) (kz_0_15 : 0 ≤ from_0 ∧ from_0 ≤ 2000) : 1 * from_0 + ((-1) * pos_0 + 0) ≤ 0 := by
  first | assumption | (clear f8 f10; omega) | omega | grind
set_option maxHeartbeats 4000000 in
theorem vc_Mo_of_at_s5003_31_1 (x2 : Int) (x3 : Int) (x4 : Int) (x7 : Int) (x8 : Int) (x14 : Int) (from_0 : Int) (pos_0 : Int) (kind_0 : Int) (fault_0 : Int) (k2 : 9 ≤ x2 ∧ x2 ≤ 9) (k3 : 0 ≤ x3 ∧ x3 ≤ 2000) (k4 : (-1) ≤ x4 ∧ x4 ≤ 48) (k7 : 9 ≤ x7 ∧ x7 ≤ 9) (k8 : (-2147483648) ≤ x8 ∧ x8 ≤ 2147483647) (k14 : 0 ≤ x14 ∧ x14 ≤ 2000) (f0 : 1 * x14 + ((-1) * x3 + 0) ≤ 0) (f1 : (-1) * x14 + (1 * x3 + 0) ≤ 0) (f2 : 1 * x8 + ((-1) * x2 + 0) ≤ 0) (f3 : (-1) * x8 + 0 ≤ 0) (f4 : (-1) * x4 + 0 ≤ 0) (f7 : 1 * from_0 + ((-1) * pos_0 + 0) ≤ 0) (f8 : ((kind_0 = 1) → (pos_0 ≤ (from_0 + 8))) ∧ ((kind_0 = 0) ∨ ((from_0 + 1) ≤ pos_0))) (f9 : 1 * x14 + ((-1) * pos_0 + 0) ≤ 0) (f10 : (1 ≤ fault_0) ∨ ((x14 + 1) ≤ pos_0)) (f12 : 1 * x14 + ((-1) * x3 + 0) ≤ 0) (f13 : (-1) * x14 + (1 * x3 + 0) ≤ 0) (f14 : 1 * x8 + ((-1) * x2 + 0) ≤ 0) (f15 : (-1) * x8 + 0 ≤ 0) (f16 : (-1) * x4 + 0 ≤ 0) (kz_0_8 : 0 ≤ fault_0 ∧ fault_0 ≤ 5) (kz_0_11 : 0 ≤ pos_0 ∧ pos_0 ≤ 2000) (kz_0_12 : 0 ≤ kind_0 ∧ kind_0 ≤ 4) (kz_0_15 : 0 ≤ from_0 ∧ from_0 ≤ 2000) : ((kind_0 = 1) → (pos_0 ≤ (from_0 + 8))) ∧ ((kind_0 = 0) ∨ ((from_0 + 1) ≤ pos_0)) := by
  first | assumption | (clear f8 f10; omega) | omega | grind
set_option maxHeartbeats 4000000 in
theorem vc_Mo_of_at_s5003_31_2 (x2 : Int) (x3 : Int) (x4 : Int) (x7 : Int) (x8 : Int) (x14 : Int) (from_0 : Int) (pos_0 : Int) (kind_0 : Int) (fault_0 : Int) (k2 : 9 ≤ x2 ∧ x2 ≤ 9) (k3 : 0 ≤ x3 ∧ x3 ≤ 2000) (k4 : (-1) ≤ x4 ∧ x4 ≤ 48) (k7 : 9 ≤ x7 ∧ x7 ≤ 9) (k8 : (-2147483648) ≤ x8 ∧ x8 ≤ 2147483647) (k14 : 0 ≤ x14 ∧ x14 ≤ 2000) (f0 : 1 * x14 + ((-1) * x3 + 0) ≤ 0) (f1 : (-1) * x14 + (1 * x3 + 0) ≤ 0) (f2 : 1 * x8 + ((-1) * x2 + 0) ≤ 0) (f3 : (-1) * x8 + 0 ≤ 0) (f4 : (-1) * x4 + 0 ≤ 0) (f7 : 1 * from_0 + ((-1) * pos_0 + 0) ≤ 0) (f8 : ((kind_0 = 1) → (pos_0 ≤ (from_0 + 8))) ∧ ((kind_0 = 0) ∨ ((from_0 + 1) ≤ pos_0))) (f9 : 1 * x14 + ((-1) * pos_0 + 0) ≤ 0) (f10 : (1 ≤ fault_0) ∨ ((x14 + 1) ≤ pos_0)) (f12 : 1 * x14 + ((-1) * x3 + 0) ≤ 0) (f13 : (-1) * x14 + (1 * x3 + 0) ≤ 0) (f14 : 1 * x8 + ((-1) * x2 + 0) ≤ 0) (f15 : (-1) * x8 + 0 ≤ 0) (f16 : (-1) * x4 + 0 ≤ 0) (kz_0_8 : 0 ≤ fault_0 ∧ fault_0 ≤ 5) (kz_0_11 : 0 ≤ pos_0 ∧ pos_0 ≤ 2000) (kz_0_12 : 0 ≤ kind_0 ∧ kind_0 ≤ 4) (kz_0_15 : 0 ≤ from_0 ∧ from_0 ≤ 2000) : 1 * x3 + ((-1) * pos_0 + 0) ≤ 0 := by
  first | assumption | (clear f8 f10; omega) | omega | grind
set_option maxHeartbeats 4000000 in
theorem vc_Mo_of_at_s5003_31_3 (x2 : Int) (x3 : Int) (x4 : Int) (x7 : Int) (x8 : Int) (x14 : Int) (from_0 : Int) (pos_0 : Int) (kind_0 : Int) (fault_0 : Int) (k2 : 9 ≤ x2 ∧ x2 ≤ 9) (k3 : 0 ≤ x3 ∧ x3 ≤ 2000) (k4 : (-1) ≤ x4 ∧ x4 ≤ 48) (k7 : 9 ≤ x7 ∧ x7 ≤ 9) (k8 : (-2147483648) ≤ x8 ∧ x8 ≤ 2147483647) (k14 : 0 ≤ x14 ∧ x14 ≤ 2000) (f0 : 1 * x14 + ((-1) * x3 + 0) ≤ 0) (f1 : (-1) * x14 + (1 * x3 + 0) ≤ 0) (f2 : 1 * x8 + ((-1) * x2 + 0) ≤ 0) (f3 : (-1) * x8 + 0 ≤ 0) (f4 : (-1) * x4 + 0 ≤ 0) (f7 : 1 * from_0 + ((-1) * pos_0 + 0) ≤ 0) (f8 : ((kind_0 = 1) → (pos_0 ≤ (from_0 + 8))) ∧ ((kind_0 = 0) ∨ ((from_0 + 1) ≤ pos_0))) (f9 : 1 * x14 + ((-1) * pos_0 + 0) ≤ 0) (f10 : (1 ≤ fault_0) ∨ ((x14 + 1) ≤ pos_0)) (f12 : 1 * x14 + ((-1) * x3 + 0) ≤ 0) (f13 : (-1) * x14 + (1 * x3 + 0) ≤ 0) (f14 : 1 * x8 + ((-1) * x2 + 0) ≤ 0) (f15 : (-1) * x8 + 0 ≤ 0) (f16 : (-1) * x4 + 0 ≤ 0) (kz_0_8 : 0 ≤ fault_0 ∧ fault_0 ≤ 5) (kz_0_11 : 0 ≤ pos_0 ∧ pos_0 ≤ 2000) (kz_0_12 : 0 ≤ kind_0 ∧ kind_0 ≤ 4) (kz_0_15 : 0 ≤ from_0 ∧ from_0 ≤ 2000) : (1 ≤ fault_0) ∨ ((kind_0 = 0) ∨ ((x3 + 1) ≤ pos_0)) := by
  first | assumption | (clear f8 f10; omega) | omega | grind
set_option maxHeartbeats 4000000 in
theorem vc_Mo_of_at_s5003_31_4 (x2 : Int) (x3 : Int) (x4 : Int) (x7 : Int) (x8 : Int) (x14 : Int) (from_0 : Int) (pos_0 : Int) (kind_0 : Int) (fault_0 : Int) (k2 : 9 ≤ x2 ∧ x2 ≤ 9) (k3 : 0 ≤ x3 ∧ x3 ≤ 2000) (k4 : (-1) ≤ x4 ∧ x4 ≤ 48) (k7 : 9 ≤ x7 ∧ x7 ≤ 9) (k8 : (-2147483648) ≤ x8 ∧ x8 ≤ 2147483647) (k14 : 0 ≤ x14 ∧ x14 ≤ 2000) (f0 : 1 * x14 + ((-1) * x3 + 0) ≤ 0) (f1 : (-1) * x14 + (1 * x3 + 0) ≤ 0) (f2 : 1 * x8 + ((-1) * x2 + 0) ≤ 0) (f3 : (-1) * x8 + 0 ≤ 0) (f4 : (-1) * x4 + 0 ≤ 0) (f7 : 1 * from_0 + ((-1) * pos_0 + 0) ≤ 0) (f8 : ((kind_0 = 1) → (pos_0 ≤ (from_0 + 8))) ∧ ((kind_0 = 0) ∨ ((from_0 + 1) ≤ pos_0))) (f9 : 1 * x14 + ((-1) * pos_0 + 0) ≤ 0) (f10 : (1 ≤ fault_0) ∨ ((x14 + 1) ≤ pos_0)) (f12 : 1 * x14 + ((-1) * x3 + 0) ≤ 0) (f13 : (-1) * x14 + (1 * x3 + 0) ≤ 0) (f14 : 1 * x8 + ((-1) * x2 + 0) ≤ 0) (f15 : (-1) * x8 + 0 ≤ 0) (f16 : (-1) * x4 + 0 ≤ 0) (kz_0_8 : 0 ≤ fault_0 ∧ fault_0 ≤ 5) (kz_0_11 : 0 ≤ pos_0 ∧ pos_0 ≤ 2000) (kz_0_12 : 0 ≤ kind_0 ∧ kind_0 ≤ 4) (kz_0_15 : 0 ≤ from_0 ∧ from_0 ≤ 2000) : (1 ≤ fault_0) ∨ (0 ≤ x4) := by
  first | assumption | (clear f8 f10; omega) | omega | grind
set_option maxHeartbeats 4000000 in
theorem vc_Mo_of_at_s5003_31_5 (x2 : Int) (x3 : Int) (x4 : Int) (x7 : Int) (x8 : Int) (x14 : Int) (from_0 : Int) (pos_0 : Int) (kind_0 : Int) (fault_0 : Int) (k2 : 9 ≤ x2 ∧ x2 ≤ 9) (k3 : 0 ≤ x3 ∧ x3 ≤ 2000) (k4 : (-1) ≤ x4 ∧ x4 ≤ 48) (k7 : 9 ≤ x7 ∧ x7 ≤ 9) (k8 : (-2147483648) ≤ x8 ∧ x8 ≤ 2147483647) (k14 : 0 ≤ x14 ∧ x14 ≤ 2000) (f0 : 1 * x14 + ((-1) * x3 + 0) ≤ 0) (f1 : (-1) * x14 + (1 * x3 + 0) ≤ 0) (f2 : 1 * x8 + ((-1) * x2 + 0) ≤ 0) (f3 : (-1) * x8 + 0 ≤ 0) (f4 : (-1) * x4 + 0 ≤ 0) (f7 : 1 * from_0 + ((-1) * pos_0 + 0) ≤ 0) (f8 : ((kind_0 = 1) → (pos_0 ≤ (from_0 + 8))) ∧ ((kind_0 = 0) ∨ ((from_0 + 1) ≤ pos_0))) (f9 : 1 * x14 + ((-1) * pos_0 + 0) ≤ 0) (f10 : (1 ≤ fault_0) ∨ ((x14 + 1) ≤ pos_0)) (f12 : 1 * x14 + ((-1) * x3 + 0) ≤ 0) (f13 : (-1) * x14 + (1 * x3 + 0) ≤ 0) (f14 : 1 * x8 + ((-1) * x2 + 0) ≤ 0) (f15 : (-1) * x8 + 0 ≤ 0) (f16 : (-1) * x4 + 0 ≤ 0) (kz_0_8 : 0 ≤ fault_0 ∧ fault_0 ≤ 5) (kz_0_11 : 0 ≤ pos_0 ∧ pos_0 ≤ 2000) (kz_0_12 : 0 ≤ kind_0 ∧ kind_0 ≤ 4) (kz_0_15 : 0 ≤ from_0 ∧ from_0 ≤ 2000) : 1 * x8 + ((-1) * x2 + 0) ≤ 0 := by
  first | assumption | (clear f8 f10; omega) | omega | grind
set_option maxHeartbeats 4000000 in
theorem vc_Mo_of_at_s5003_31_6 (x2 : Int) (x3 : Int) (x4 : Int) (x7 : Int) (x8 : Int) (x14 : Int) (from_0 : Int) (pos_0 : Int) (kind_0 : Int) (fault_0 : Int) (k2 : 9 ≤ x2 ∧ x2 ≤ 9) (k3 : 0 ≤ x3 ∧ x3 ≤ 2000) (k4 : (-1) ≤ x4 ∧ x4 ≤ 48) (k7 : 9 ≤ x7 ∧ x7 ≤ 9) (k8 : (-2147483648) ≤ x8 ∧ x8 ≤ 2147483647) (k14 : 0 ≤ x14 ∧ x14 ≤ 2000) (f0 : 1 * x14 + ((-1) * x3 + 0) ≤ 0) (f1 : (-1) * x14 + (1 * x3 + 0) ≤ 0) (f2 : 1 * x8 + ((-1) * x2 + 0) ≤ 0) (f3 : (-1) * x8 + 0 ≤ 0) (f4 : (-1) * x4 + 0 ≤ 0) (f7 : 1 * from_0 + ((-1) * pos_0 + 0) ≤ 0) (f8 : ((kind_0 = 1) → (pos_0 ≤ (from_0 + 8))) ∧ ((kind_0 = 0) ∨ ((from_0 + 1) ≤ pos_0))) (f9 : 1 * x14 + ((-1) * pos_0 + 0) ≤ 0) (f10 : (1 ≤ fault_0) ∨ ((x14 + 1) ≤ pos_0)) (f12 : 1 * x14 + ((-1) * x3 + 0) ≤ 0) (f13 : (-1) * x14 + (1 * x3 + 0) ≤ 0) (f14 : 1 * x8 + ((-1) * x2 + 0) ≤ 0) (f15 : (-1) * x8 + 0 ≤ 0) (f16 : (-1) * x4 + 0 ≤ 0) (kz_0_8 : 0 ≤ fault_0 ∧ fault_0 ≤ 5) (kz_0_11 : 0 ≤ pos_0 ∧ pos_0 ≤ 2000) (kz_0_12 : 0 ≤ kind_0 ∧ kind_0 ≤ 4) (kz_0_15 : 0 ≤ from_0 ∧ from_0 ≤ 2000) : (-1) * x8 + 0 ≤ 0 := by
  first | assumption | (clear f8 f10; omega) | omega | grind
def o_Mo_of_at_s5003_31 : or_T := (162, 15, [(0, (2, 0, 0, [165])), (2, (0, 9, 9, [])), (3, (0, 0, 2000, [])), (4, (0, -1, 48, [])), (7, (0, 9, 9, [])), (8, (0, -2147483648, 2147483647, [])), (14, (0, 0, 2000, []))], [(23, [14, 3], [0, 1, -1]), (23, [14, 3], [0, -1, 1]), (23, [8, 7], [0, 1, -1]), (23, [8], [0, -1]), (23, [4], [0, -1]), (24, [0, 5], []), (24, [2, 7], []), (20, [5, 5], [30, 0, 1, 1, 15, -1, 1, 11]), (20, [5], [50, 3, 0, 12, 11, 15, 2, 21, 4, 7, 1, 3, 2, 0, 12, 0, 1, 0, 3, 2, 0, 11, 4, 3, 2, 0, 15, 0, 8, 3, 7, 1, 3, 2, 0, 12, 0, 0, 0, 7, 4, 3, 2, 0, 15, 0, 1, 2, 0, 11]), (20, [14, 5], [30, 0, 1, 0, 0, -1, 1, 11]), (20, [5, 14], [50, 2, 0, 8, 11, 3, 7, 0, 2, 0, 1, 2, 0, 8, 0, 6, 4, 2, 1, 1, 0, 1, 2, 0, 11]), (102, [14], [0, 165008, 165009, 165011, 165012, 165013, 165014, 165015]), (23, [14, 3], [0, 1, -1]), (23, [14, 3], [0, -1, 1]), (23, [8, 7], [0, 1, -1]), (23, [8], [0, -1]), (23, [4], [0, -1])], [], [], [(20, [0, 0], [30, 0, 1, 1, 15, -1, 1, 11]), (20, [0], [50, 3, 0, 12, 11, 15, 2, 21, 4, 7, 1, 3, 2, 0, 12, 0, 1, 0, 3, 2, 0, 11, 4, 3, 2, 0, 15, 0, 8, 3, 7, 1, 3, 2, 0, 12, 0, 0, 0, 7, 4, 3, 2, 0, 15, 0, 1, 2, 0, 11]), (20, [3, 0], [30, 0, 1, 0, 0, -1, 1, 11]), (20, [0, 3], [50, 3, 0, 8, 12, 11, 3, 7, 0, 2, 0, 1, 2, 0, 8, 3, 7, 1, 3, 2, 0, 12, 0, 0, 0, 6, 4, 2, 1, 1, 0, 1, 2, 0, 11]), (20, [0, 4], [50, 1, 0, 8, 3, 7, 0, 2, 0, 1, 2, 0, 8, 0, 2, 0, 0, 1, 1]), (20, [8, 2], [30, 0, 1, 0, 0, -1, 0, 0]), (20, [8], [30, 0, -1, 0, 0])], [], [])
theorem oo_Mo_of_at_s5003_31 {kA : Nat → ClassId} : or_ok PRD kA GG o_Mo_of_at_s5003_31 := by
  refine or_mk fun A ta ws vs hD hth hl => ?_
  intro t0 r0 t2 k2 t3 k3 t4 k4 t7 k7 t8 k8 t14 k14 f0 f1 f2 f3 f4 f5 f6 f7 f8 f9 f10 ta1 w1 le1 s1 f12 f13 f14 f15 f16
  replace f2 := shm_7 f2
  replace f5 := shm_5 f5
  replace f6 := shm_5 f6
  replace f7 := shm_1397 f7
  replace f8 := shm_1398 f8
  replace f9 := shm_1395 f9
  replace f10 := shm_1659 f10
  replace f14 := shm_7 f14
  have q5 : n_v vs 5 = n_v vs 0 := f5.symm
  have q7 : n_v vs 7 = n_v vs 2 := f6.symm
  simp only [q7, q5] at f2 f7 f8 f9 f10 f14
  have kz_0_8 := fdq_14 hD hth r0
  have kz_0_11 := fdq_273 hD hth r0
  have kz_0_12 := fdq_186 hD hth r0
  have kz_0_15 := fdq_274 hD hth r0
  have nf0 : fc_1 PRD (20, [0, 0], [30, 0, 1, 1, 15, -1, 1, 11]) ws (vs) := ⟨nf_in hl rfl, sgq_1397 (vc_Mo_of_at_s5003_31_0 (v_iv (n_v vs 2)) (v_iv (n_v vs 3)) (v_iv (n_v vs 4)) (v_iv (n_v vs 7)) (v_iv (n_v vs 8)) (v_iv (n_v vs 14)) (w_fi ws (n_v vs 0) 15) (w_fi ws (n_v vs 0) 11) (w_fi ws (n_v vs 0) 12) (w_fi ws (n_v vs 0) 8) k2 k3 k4 k7 k8 k14 (shm_7 f0) (shm_22 f1) f2 (shm_1013 f3) (shm_1013 f4) f7 f8 f9 f10 (shm_7 f12) (shm_22 f13) f14 (shm_1013 f15) (shm_1013 f16) kz_0_8 kz_0_11 kz_0_12 kz_0_15)⟩
  have nf1 : fc_1 PRD (20, [0], [50, 3, 0, 12, 11, 15, 2, 21, 4, 7, 1, 3, 2, 0, 12, 0, 1, 0, 3, 2, 0, 11, 4, 3, 2, 0, 15, 0, 8, 3, 7, 1, 3, 2, 0, 12, 0, 0, 0, 7, 4, 3, 2, 0, 15, 0, 1, 2, 0, 11]) ws (vs) := ⟨nf_in hl rfl, sgq_1398 (vc_Mo_of_at_s5003_31_1 (v_iv (n_v vs 2)) (v_iv (n_v vs 3)) (v_iv (n_v vs 4)) (v_iv (n_v vs 7)) (v_iv (n_v vs 8)) (v_iv (n_v vs 14)) (w_fi ws (n_v vs 0) 15) (w_fi ws (n_v vs 0) 11) (w_fi ws (n_v vs 0) 12) (w_fi ws (n_v vs 0) 8) k2 k3 k4 k7 k8 k14 (shm_7 f0) (shm_22 f1) f2 (shm_1013 f3) (shm_1013 f4) f7 f8 f9 f10 (shm_7 f12) (shm_22 f13) f14 (shm_1013 f15) (shm_1013 f16) kz_0_8 kz_0_11 kz_0_12 kz_0_15)⟩
  have nf2 : fc_1 PRD (20, [3, 0], [30, 0, 1, 0, 0, -1, 1, 11]) ws (vs) := ⟨nf_in hl rfl, sgq_1395 (vc_Mo_of_at_s5003_31_2 (v_iv (n_v vs 2)) (v_iv (n_v vs 3)) (v_iv (n_v vs 4)) (v_iv (n_v vs 7)) (v_iv (n_v vs 8)) (v_iv (n_v vs 14)) (w_fi ws (n_v vs 0) 15) (w_fi ws (n_v vs 0) 11) (w_fi ws (n_v vs 0) 12) (w_fi ws (n_v vs 0) 8) k2 k3 k4 k7 k8 k14 (shm_7 f0) (shm_22 f1) f2 (shm_1013 f3) (shm_1013 f4) f7 f8 f9 f10 (shm_7 f12) (shm_22 f13) f14 (shm_1013 f15) (shm_1013 f16) kz_0_8 kz_0_11 kz_0_12 kz_0_15)⟩
  have nf3 : fc_1 PRD (20, [0, 3], [50, 3, 0, 8, 12, 11, 3, 7, 0, 2, 0, 1, 2, 0, 8, 3, 7, 1, 3, 2, 0, 12, 0, 0, 0, 6, 4, 2, 1, 1, 0, 1, 2, 0, 11]) ws (vs) := ⟨nf_in hl rfl, sgq_1660 (vc_Mo_of_at_s5003_31_3 (v_iv (n_v vs 2)) (v_iv (n_v vs 3)) (v_iv (n_v vs 4)) (v_iv (n_v vs 7)) (v_iv (n_v vs 8)) (v_iv (n_v vs 14)) (w_fi ws (n_v vs 0) 15) (w_fi ws (n_v vs 0) 11) (w_fi ws (n_v vs 0) 12) (w_fi ws (n_v vs 0) 8) k2 k3 k4 k7 k8 k14 (shm_7 f0) (shm_22 f1) f2 (shm_1013 f3) (shm_1013 f4) f7 f8 f9 f10 (shm_7 f12) (shm_22 f13) f14 (shm_1013 f15) (shm_1013 f16) kz_0_8 kz_0_11 kz_0_12 kz_0_15)⟩
  have nf4 : fc_1 PRD (20, [0, 4], [50, 1, 0, 8, 3, 7, 0, 2, 0, 1, 2, 0, 8, 0, 2, 0, 0, 1, 1]) ws (vs) := ⟨nf_in hl rfl, sgq_1889 (vc_Mo_of_at_s5003_31_4 (v_iv (n_v vs 2)) (v_iv (n_v vs 3)) (v_iv (n_v vs 4)) (v_iv (n_v vs 7)) (v_iv (n_v vs 8)) (v_iv (n_v vs 14)) (w_fi ws (n_v vs 0) 15) (w_fi ws (n_v vs 0) 11) (w_fi ws (n_v vs 0) 12) (w_fi ws (n_v vs 0) 8) k2 k3 k4 k7 k8 k14 (shm_7 f0) (shm_22 f1) f2 (shm_1013 f3) (shm_1013 f4) f7 f8 f9 f10 (shm_7 f12) (shm_22 f13) f14 (shm_1013 f15) (shm_1013 f16) kz_0_8 kz_0_11 kz_0_12 kz_0_15)⟩
  have nf5 : fc_1 PRD (20, [8, 2], [30, 0, 1, 0, 0, -1, 0, 0]) ws (vs) := ⟨nf_in hl rfl, sgq_219 (vc_Mo_of_at_s5003_31_5 (v_iv (n_v vs 2)) (v_iv (n_v vs 3)) (v_iv (n_v vs 4)) (v_iv (n_v vs 7)) (v_iv (n_v vs 8)) (v_iv (n_v vs 14)) (w_fi ws (n_v vs 0) 15) (w_fi ws (n_v vs 0) 11) (w_fi ws (n_v vs 0) 12) (w_fi ws (n_v vs 0) 8) k2 k3 k4 k7 k8 k14 (shm_7 f0) (shm_22 f1) f2 (shm_1013 f3) (shm_1013 f4) f7 f8 f9 f10 (shm_7 f12) (shm_22 f13) f14 (shm_1013 f15) (shm_1013 f16) kz_0_8 kz_0_11 kz_0_12 kz_0_15)⟩
  have nf6 : fc_1 PRD (20, [8], [30, 0, -1, 0, 0]) ws (vs) := ⟨nf_in hl rfl, sgq_1890 (vc_Mo_of_at_s5003_31_6 (v_iv (n_v vs 2)) (v_iv (n_v vs 3)) (v_iv (n_v vs 4)) (v_iv (n_v vs 7)) (v_iv (n_v vs 8)) (v_iv (n_v vs 14)) (w_fi ws (n_v vs 0) 15) (w_fi ws (n_v vs 0) 11) (w_fi ws (n_v vs 0) 12) (w_fi ws (n_v vs 0) 8) k2 k3 k4 k7 k8 k14 (shm_7 f0) (shm_22 f1) f2 (shm_1013 f3) (shm_1013 f4) f7 f8 f9 f10 (shm_7 f12) (shm_22 f13) f14 (shm_1013 f15) (shm_1013 f16) kz_0_8 kz_0_11 kz_0_12 kz_0_15)⟩
  refine ⟨(fun _ h => (by cases h)), [], trivial, ?_, (fun _ h => (by cases h))⟩
  rw [List.append_nil]
  exact List.forall_mem_cons.mpr ⟨⟨show (20 : Nat) < 100 from by decide, nf0⟩, List.forall_mem_cons.mpr ⟨⟨show (20 : Nat) < 100 from by decide, nf1⟩, List.forall_mem_cons.mpr ⟨⟨show (20 : Nat) < 100 from by decide, nf2⟩, List.forall_mem_cons.mpr ⟨⟨show (20 : Nat) < 100 from by decide, nf3⟩, List.forall_mem_cons.mpr ⟨⟨show (20 : Nat) < 100 from by decide, nf4⟩, List.forall_mem_cons.mpr ⟨⟨show (20 : Nat) < 100 from by decide, nf5⟩, List.forall_mem_cons.mpr ⟨⟨show (20 : Nat) < 100 from by decide, nf6⟩, (fun _ h => (by cases h))⟩⟩⟩⟩⟩⟩⟩
def n_Mo_of_at_s5003_an : List an_T := [(17, [(0, (2, 0, 0, [165])), (1, (2, 0, 0, [5003])), (2, (0, 9, 9, [])), (3, (0, (Int.negSucc 2147483647), 2147483647, []))], [], (0, 0), [(0, 0, 99983), (2, 9, 0), (0, 0, 100000)], [], [], [(2, 0, 0, [165]), (2, 0, 0, [5003]), (0, 9, 9, []), (0, 0, 2000, []), (0, (Int.negSucc 0), 48, [])], 0, [(0, 0, 2000, [])], [(20, [5, 5], [30, 0, 1, 1, 15, (Int.negSucc 0), 1, 11]), (20, [5], [50, 3, 0, 12, 11, 15, 2, 21, 4, 7, 1, 3, 2, 0, 12, 0, 1, 0, 3, 2, 0, 11, 4, 3, 2, 0, 15, 0, 8, 3, 7, 1, 3, 2, 0, 12, 0, 0, 0, 7, 4, 3, 2, 0, 15, 0, 1, 2, 0, 11]), (20, [3, 5], [30, (Int.negSucc 0), 1, 0, 0, (Int.negSucc 0), 1, 11]), (23, [8, 7], [0, 1, (Int.negSucc 0)]), (23, [8], [0, (Int.negSucc 0)]), (23, [4], [0, (Int.negSucc 0)]), (24, [0, 5], []), (24, [2, 7], []), (20, [9, 5], [30, 2000, 1, 0, 0, 1, 1, 11]), (20, [9, 5], [30, (Int.negSucc 1999), (Int.negSucc 0), 0, 0, (Int.negSucc 0), 1, 11])]), (139, [(0, (2, 0, 0, [165])), (1, (2, 0, 0, [5003])), (2, (0, 9, 9, [])), (3, (0, (Int.negSucc 2147483647), 2147483647, []))], [], (0, 0), [(0, 0, 99983), (2, 10, 0), (0, 0, 99861)], [], [((0, 8), (0, 0, 0, []))], [(2, 0, 0, [165]), (2, 0, 0, [5003]), (0, 9, 9, []), (0, 0, 2000, []), (0, (Int.negSucc 0), 48, [])], 0, [(0, 0, 2000, [])], [(20, [5, 5], [30, 0, 1, 1, 15, (Int.negSucc 0), 1, 11]), (20, [5], [50, 3, 0, 12, 11, 15, 2, 21, 4, 7, 1, 3, 2, 0, 12, 0, 1, 0, 3, 2, 0, 11, 4, 3, 2, 0, 15, 0, 8, 3, 7, 1, 3, 2, 0, 12, 0, 0, 0, 7, 4, 3, 2, 0, 15, 0, 1, 2, 0, 11]), (20, [3, 5], [30, (Int.negSucc 0), 1, 0, 0, (Int.negSucc 0), 1, 11]), (23, [8, 7], [0, 1, (Int.negSucc 0)]), (23, [8], [0, (Int.negSucc 0)]), (23, [4], [0, (Int.negSucc 0)]), (20, [10, 5], [30, (Int.negSucc 2000), (Int.negSucc 0), 0, 0, (Int.negSucc 0), 1, 11]), (24, [0, 5], []), (24, [2, 7], [])])]
def t_Mo_of_at_s5003_ct : ct_L := [(0, 387, e_Mo_in), (1, 457, e_Mo_sign), (1, 460, e_Mo_next), (1, 463, e_Mo_wrong), (1, 491, e_Mo_need), (118, 469, e_Mo_isWord_at_s5003)]
set_option maxRecDepth 100000 in
theorem c_Mo_of_at_s5003 {l : Launch} {D : va_G} {kA : Nat → ClassId} (h_Mo_in : ct_ok PRD l D kA GG y_Mo_in z_Mo_in e_Mo_in) (h_Mo_isWord_at_s5003 : ct_ok PRD l D kA GG y_Mo_isWord_at_s5003 z_Mo_isWord_at_s5003 e_Mo_isWord_at_s5003) (h_Mo_need : ct_ok PRD l D kA GG y_Mo_need z_Mo_need e_Mo_need) (h_Mo_next : ct_ok PRD l D kA GG y_Mo_next z_Mo_next e_Mo_next) (h_Mo_sign : ct_ok PRD l D kA GG y_Mo_sign z_Mo_sign e_Mo_sign) (h_Mo_wrong : ct_ok PRD l D kA GG y_Mo_wrong z_Mo_wrong e_Mo_wrong) : ct_ok PRD l D kA GG y_Mo_of_at_s5003 z_Mo_of_at_s5003 e_Mo_of_at_s5003 := chk_all_ok (FT := [(413, 13, 8), (428, 13, 13), (434, 13, 12), (437, 13, 14)]) (PT := []) (CT := t_Mo_of_at_s5003_ct) (KT := []) (NT := []) (AN := n_Mo_of_at_s5003_an) (OT := [o_Mo_of_at_s5003_0, o_Mo_of_at_s5003_1, o_Mo_of_at_s5003_2, o_Mo_of_at_s5003_3, o_Mo_of_at_s5003_4, o_Mo_of_at_s5003_5, o_Mo_of_at_s5003_6, o_Mo_of_at_s5003_7, o_Mo_of_at_s5003_8, o_Mo_of_at_s5003_9, o_Mo_of_at_s5003_10, o_Mo_of_at_s5003_11, o_Mo_of_at_s5003_12, o_Mo_of_at_s5003_13, o_Mo_of_at_s5003_14, o_Mo_of_at_s5003_15, o_Mo_of_at_s5003_16, o_Mo_of_at_s5003_17, o_Mo_of_at_s5003_18, o_Mo_of_at_s5003_19, o_Mo_of_at_s5003_20, o_Mo_of_at_s5003_21, o_Mo_of_at_s5003_22, o_Mo_of_at_s5003_23, o_Mo_of_at_s5003_24, o_Mo_of_at_s5003_25, o_Mo_of_at_s5003_26, o_Mo_of_at_s5003_27, o_Mo_of_at_s5003_28, o_Mo_of_at_s5003_29, o_Mo_of_at_s5003_30, o_Mo_of_at_s5003_31]) 3 732 (List.forall_mem_cons.mpr ⟨oo_Mo_of_at_s5003_0, List.forall_mem_cons.mpr ⟨oo_Mo_of_at_s5003_1, List.forall_mem_cons.mpr ⟨oo_Mo_of_at_s5003_2, List.forall_mem_cons.mpr ⟨oo_Mo_of_at_s5003_3, List.forall_mem_cons.mpr ⟨oo_Mo_of_at_s5003_4, List.forall_mem_cons.mpr ⟨oo_Mo_of_at_s5003_5, List.forall_mem_cons.mpr ⟨oo_Mo_of_at_s5003_6, List.forall_mem_cons.mpr ⟨oo_Mo_of_at_s5003_7, List.forall_mem_cons.mpr ⟨oo_Mo_of_at_s5003_8, List.forall_mem_cons.mpr ⟨oo_Mo_of_at_s5003_9, List.forall_mem_cons.mpr ⟨oo_Mo_of_at_s5003_10, List.forall_mem_cons.mpr ⟨oo_Mo_of_at_s5003_11, List.forall_mem_cons.mpr ⟨oo_Mo_of_at_s5003_12, List.forall_mem_cons.mpr ⟨oo_Mo_of_at_s5003_13, List.forall_mem_cons.mpr ⟨oo_Mo_of_at_s5003_14, List.forall_mem_cons.mpr ⟨oo_Mo_of_at_s5003_15, List.forall_mem_cons.mpr ⟨oo_Mo_of_at_s5003_16, List.forall_mem_cons.mpr ⟨oo_Mo_of_at_s5003_17, List.forall_mem_cons.mpr ⟨oo_Mo_of_at_s5003_18, List.forall_mem_cons.mpr ⟨oo_Mo_of_at_s5003_19, List.forall_mem_cons.mpr ⟨oo_Mo_of_at_s5003_20, List.forall_mem_cons.mpr ⟨oo_Mo_of_at_s5003_21, List.forall_mem_cons.mpr ⟨oo_Mo_of_at_s5003_22, List.forall_mem_cons.mpr ⟨oo_Mo_of_at_s5003_23, List.forall_mem_cons.mpr ⟨oo_Mo_of_at_s5003_24, List.forall_mem_cons.mpr ⟨oo_Mo_of_at_s5003_25, List.forall_mem_cons.mpr ⟨oo_Mo_of_at_s5003_26, List.forall_mem_cons.mpr ⟨oo_Mo_of_at_s5003_27, List.forall_mem_cons.mpr ⟨oo_Mo_of_at_s5003_28, List.forall_mem_cons.mpr ⟨oo_Mo_of_at_s5003_29, List.forall_mem_cons.mpr ⟨oo_Mo_of_at_s5003_30, List.forall_mem_cons.mpr ⟨oo_Mo_of_at_s5003_31, List.forall_mem_nil _⟩⟩⟩⟩⟩⟩⟩⟩⟩⟩⟩⟩⟩⟩⟩⟩⟩⟩⟩⟩⟩⟩⟩⟩⟩⟩⟩⟩⟩⟩⟩⟩) (by decide +kernel) ⟨List.forall_mem_cons.mpr ⟨gf_Mo_413, List.forall_mem_cons.mpr ⟨gf_Mo_428, List.forall_mem_cons.mpr ⟨gf_Mo_434, List.forall_mem_cons.mpr ⟨gf_Mo_437, List.forall_mem_nil _⟩⟩⟩⟩, List.forall_mem_nil _, List.forall_mem_cons.mpr ⟨cl_static (y := y_Mo_in) h_Mo_in wm_2971 wm_9 wm_2969 wm_2970 ⟨by decide, by decide, by decide +kernel⟩ (by decide), List.forall_mem_cons.mpr ⟨cl_virtual (y := y_Mo_sign) (ci := 13) rfl rfl ⟨_, _, rfl⟩ (by decide +kernel) h_Mo_sign wm_3058 wm_9 wm_3055 wm_3057 wv_13_11 ⟨by decide, by decide, by decide +kernel⟩ (by decide), List.forall_mem_cons.mpr ⟨cl_virtual (y := y_Mo_next) (ci := 13) rfl rfl ⟨_, _, rfl⟩ (by decide +kernel) h_Mo_next wm_2982 wm_9 wm_2979 wm_2981 wv_12_11 ⟨by decide, by decide, by decide +kernel⟩ (by decide), List.forall_mem_cons.mpr ⟨cl_virtual (y := y_Mo_wrong) (ci := 13) rfl rfl ⟨_, _, rfl⟩ (by decide +kernel) h_Mo_wrong wm_3017 wm_9 wm_3014 wm_3016 wv_13_1 ⟨by decide, by decide, by decide +kernel⟩ (by decide), List.forall_mem_cons.mpr ⟨cl_virtual (y := y_Mo_need) (ci := 13) rfl rfl ⟨_, _, rfl⟩ (by decide +kernel) h_Mo_need wm_3062 wm_9 wm_3059 wm_3061 wv_13_12 ⟨by decide, by decide, by decide +kernel⟩ (by decide), List.forall_mem_cons.mpr ⟨cl_virtual (y := y_Mo_isWord_at_s5003) (ci := 13) rfl rfl ⟨_, _, rfl⟩ (by decide +kernel) h_Mo_isWord_at_s5003 wm_3002 wm_9 wm_2999 wm_3001 wv_12_14 ⟨by decide, by decide, by decide +kernel⟩ (by decide), List.forall_mem_nil _⟩⟩⟩⟩⟩⟩, List.forall_mem_nil _, List.forall_mem_nil _, GG_pl⟩ (by decide +kernel)
set_option maxHeartbeats 4000000 in
theorem vc_Re_readGroup_0_0 (number_0 : Int) (gx : Int) (kz_0_9 : (-2147483648) ≤ number_0 ∧ number_0 ≤ 1000000) (ex2 : gx = number_0) : 1 * number_0 + ((-1) * gx + 0) ≤ 0 := by
  first
    | omega
  
set_option maxHeartbeats 4000000 in
theorem vc_Re_readGroup_0_1 (number_0 : Int) (gx : Int) (kz_0_9 : (-2147483648) ≤ number_0 ∧ number_0 ≤ 1000000) (ex2 : gx = number_0) : (-1) * number_0 + (1 * gx + 0) ≤ 0 := by
  first
    | omega
  
def o_Re_readGroup_0 : or_T := (27, 6, [(0, (2, 0, 0, [8]))], [], [], [(0, -2147483648, 1000000, [])], [(20, [0, 6], [30, 0, 1, 1, 9, -1, 0, 0]), (20, [0, 6], [30, 0, -1, 1, 9, 1, 0, 0])], [], [])
theorem oo_Re_readGroup_0 {kA : Nat → ClassId} : or_ok PRD kA GG o_Re_readGroup_0 := by
  refine or_mk fun A ta ws vs hD hth hl => ?_
  intro t0 r0
  have kz_0_9 := fdq_27 hD hth r0
  obtain ⟨x, ex, hx⟩ := iv_ex (ta := ta) (lo := (-2147483648)) (hi := 1000000) (z := w_fi ws (n_v vs 0) 9) (by omega) (by omega) (by omega) (by omega)
  have ex2 : v_iv (Value.int x) = w_fi ws (n_v vs 0) 9 := ex
  have ex3 : (-2147483648) ≤ v_iv (Value.int x) ∧ v_iv (Value.int x) ≤ 1000000 := tv_rng hx
  have e_0 : n_v (vs ++ [Value.int x]) 0 = n_v vs 0 := n_v_old (by rw [hl]; decide)
  have e_6 : n_v (vs ++ [Value.int x]) 6 = Value.int x := n_v_new hl
  have nf0 : fc_1 PRD (20, [0, 6], [30, 0, 1, 1, 9, -1, 0, 0]) ws (vs ++ [Value.int x]) := by
    refine ⟨nf_inA hl rfl, sgq_199 ?_⟩
    · show 1 * w_fi ws (n_v (vs ++ [Value.int x]) 0) 9 + ((-1) * v_iv (n_v (vs ++ [Value.int x]) 6) + 0) ≤ 0
      simp only [e_0, e_6]
      exact vc_Re_readGroup_0_0 (w_fi ws (n_v vs 0) 9) (v_iv (Value.int x)) kz_0_9 ex2
  have nf1 : fc_1 PRD (20, [0, 6], [30, 0, -1, 1, 9, 1, 0, 0]) ws (vs ++ [Value.int x]) := by
    refine ⟨nf_inA hl rfl, sgq_200 ?_⟩
    · show (-1) * w_fi ws (n_v (vs ++ [Value.int x]) 0) 9 + (1 * v_iv (n_v (vs ++ [Value.int x]) 6) + 0) ≤ 0
      simp only [e_0, e_6]
      exact vc_Re_readGroup_0_1 (w_fi ws (n_v vs 0) 9) (v_iv (Value.int x)) kz_0_9 ex2
  exact ⟨(fun _ h => (by cases h)), [Value.int x], ag_one hx, List.forall_mem_cons.mpr ⟨⟨show (20 : Nat) < 100 from by decide, nf0⟩, List.forall_mem_cons.mpr ⟨⟨show (20 : Nat) < 100 from by decide, nf1⟩, (fun _ h => (by cases h))⟩⟩, (fun _ h => (by cases h))⟩
set_option maxHeartbeats 4000000 in
theorem vc_Re_readGroup_1_r0 (x7 : Int) (x12 : Int) (x13 : Int) (x14 : Int) (begin_0 : Int) (next_0 : Int) (near_0o1 : Int → Int) (tail_0o1 : Int → Int) (head_0o1 : Int → Int) (nodes_0o1 : Int) (edges_0o1 : Int) (kind_0 : Int) (number_0 : Int) (near_1o1 : Int → Int) (tail_1o1 : Int → Int) (head_1o1 : Int → Int) (nodes_1o1 : Int) (edges_1o1 : Int) (kind_1 : Int) (number_1 : Int) (next_1 : Int) (begin_1 : Int) (k7 : 1 ≤ x7 ∧ x7 ≤ 1) (k12 : 0 ≤ x12 ∧ x12 ≤ 2000) (k13 : 0 ≤ x13 ∧ x13 ≤ 2000) (k14 : (-2000) ≤ x14 ∧ x14 ≤ 2000) (f1 : x14 = x12 - x13) (g2 : x13 = begin_0) (g3 : x12 = next_0) (f9 : 1 * begin_0 + ((-1) * next_0 + 0) ≤ 0) (f10 : 1 * next_0 + ((-1) * begin_0 + (2000 * x7 + 0)) ≤ 2008) (fe_0_6_1 : next_0 = next_1) (fe_0_7_1 : kind_0 = kind_1) (fe_0_8_1 : begin_0 = begin_1) (fe_0_9_1 : number_0 = number_1) (fe_1_0_1 : nodes_0o1 = nodes_1o1) (fe_1_1_1 : edges_0o1 = edges_1o1) (hE_1_7_1 : ∀ j : Int, tail_0o1 j = tail_1o1 j) (hE_1_8_1 : ∀ j : Int, head_0o1 j = head_1o1 j) (hE_1_14_1 : ∀ j : Int, near_0o1 j = near_1o1 j) (kz_0_6 : 0 ≤ next_0 ∧ next_0 ≤ 2000) (kz_0_7 : (-128) ≤ kind_0 ∧ kind_0 ≤ 127) (kz_0_8 : 0 ≤ begin_0 ∧ begin_0 ≤ 2000) (kz_0_9 : (-2147483648) ≤ number_0 ∧ number_0 ≤ 1000000) (kz_1_0 : 0 ≤ nodes_0o1 ∧ nodes_0o1 ≤ 24) (kz_1_1 : 0 ≤ edges_0o1 ∧ edges_0o1 ≤ 48) : 0 ≤ x14 ∧ x14 ≤ 8 := by
  subst fe_0_6_1
  subst fe_0_7_1
  subst fe_0_8_1
  subst fe_0_9_1
  subst fe_1_0_1
  subst fe_1_1_1
  have e_hE_1_7_1 := funext hE_1_7_1; subst e_hE_1_7_1
  have e_hE_1_8_1 := funext hE_1_8_1; subst e_hE_1_8_1
  have e_hE_1_14_1 := funext hE_1_14_1; subst e_hE_1_14_1
  first
    | omega
  
def o_Re_readGroup_1 : or_T := (86, 15, [(0, (2, 0, 0, [8])), (1, (2, 0, 0, [164])), (2, (0, 0, 7, [])), (6, (0, -2147483648, 1000000, [])), (7, (0, 1, 1, [])), (8, (2, 0, 0, [158])), (12, (0, 0, 2000, [])), (13, (0, 0, 2000, [])), (14, (0, -2000, 2000, []))], [(9, [8, 1], [11]), (2, [14, 12, 13], []), (9, [13, 0], [8]), (9, [12, 0], [6]), (20, [1], [60, 2, 3, 670, 0, 1, 14, 7, 8]), (20, [1], [60, 2, 2, 596, 0, 1, 7, 8]), (20, [0, 0, 6], [31, 1, 3, 1, 1, 7, 0, 1, 1, 9, -1, 0, 0]), (20, [0, 0, 6], [31, 1, 3, 1, 1, 7, 0, -1, 1, 9, 1, 0, 0]), (20, [0, 0, 0, 0], [31, 1, -3, -1, 1, 7, 4008, 1, 1, 6, -1, 1, 8, 2000, 1, 7]), (20, [0, 0], [30, 0, 1, 1, 8, -1, 1, 6]), (20, [0, 0, 7], [30, 2008, 1, 1, 6, -1, 1, 8, 2000, 0, 0]), (100, [8, 2, 10], []), (8, [7], [1]), (20, [1], [60, 2, 3, 670, 0, 1, 14, 7, 8]), (20, [1], [60, 2, 2, 596, 0, 1, 7, 8]), (20, [0, 0, 6], [31, 1, 3, 1, 1, 7, 0, 1, 1, 9, -1, 0, 0]), (20, [0, 0, 6], [31, 1, 3, 1, 1, 7, 0, -1, 1, 9, 1, 0, 0]), (20, [0, 0, 0, 0], [31, 1, -3, -1, 1, 7, 4008, 1, 1, 6, -1, 1, 8, 2000, 1, 7]), (20, [0, 0], [30, 0, 1, 1, 8, -1, 1, 6]), (20, [0, 0, 7], [30, 2008, 1, 1, 6, -1, 1, 8, 2000, 0, 0])], [(14, (0, 0, 8, []))], [], [], [], [(14, 12, -2000, 0)])
theorem oo_Re_readGroup_1 {kA : Nat → ClassId} : or_ok PRD kA GG o_Re_readGroup_1 := by
  refine or_mk fun A ta ws vs hD hth hl => ?_
  intro t0 r0 t1 r1 t2 k2 t6 k6 t7 k7 t8 r8 t12 k12 t13 k13 t14 k14 d0 f0 f1 f2 f3 f4 f5 f6 f7 f8 f9 f10 ta1 w1 le1 s1 f12 f13 f14 f15 f16 f17 f18 f19
  replace f2 := shm_143 f2
  replace f3 := shm_110 f3
  have s1 : (∀ b j, w_el ws b j = if b = v_ad (n_v vs 8) ∧ j = (v_iv (n_v vs 2)).toNat then v_iv (n_v vs 10) else w_el w1 b j) ∧ ∀ b k, w_fd ws b k = w_fd w1 b k := s1.2
  have cr_1_7 := fdq_74 hD hth r1
  have cr_1_8 := fdq_75 hD hth r1
  have cr_1_14 := fdq_76 hD hth r1
  have g2 : v_iv (n_v vs 13) = w_fi ws (n_v vs 0) 8 := congrArg v_iv f2
  have g3 : v_iv (n_v vs 12) = w_fi ws (n_v vs 0) 6 := congrArg v_iv f3
  have fe_0_6_1 : w_fi ws (n_v vs 0) 6 = w_fi w1 (n_v vs 0) 6 := congrArg v_iv (s1.2 _ _)
  have fe_0_7_1 : w_fi ws (n_v vs 0) 7 = w_fi w1 (n_v vs 0) 7 := congrArg v_iv (s1.2 _ _)
  have fe_0_8_1 : w_fi ws (n_v vs 0) 8 = w_fi w1 (n_v vs 0) 8 := congrArg v_iv (s1.2 _ _)
  have fe_0_9_1 : w_fi ws (n_v vs 0) 9 = w_fi w1 (n_v vs 0) 9 := congrArg v_iv (s1.2 _ _)
  have fe_1_0_1 : w_fi ws (n_v vs 1) 0 = w_fi w1 (n_v vs 1) 0 := congrArg v_iv (s1.2 _ _)
  have fe_1_1_1 : w_fi ws (n_v vs 1) 1 = w_fi w1 (n_v vs 1) 1 := congrArg v_iv (s1.2 _ _)
  have hE_1_7_1 : ∀ j : Int, w_ei ws (w_ar ws (n_v vs 1) 7) j = w_ei w1 (w_ar ws (n_v vs 1) 7) j := el_kp s1.1 r8 cr_1_7 (by decide)
  have hE_1_8_1 : ∀ j : Int, w_ei ws (w_ar ws (n_v vs 1) 8) j = w_ei w1 (w_ar ws (n_v vs 1) 8) j := el_kp s1.1 r8 cr_1_8 (by decide)
  have hE_1_14_1 : ∀ j : Int, w_ei ws (w_ar ws (n_v vs 1) 14) j = w_ei w1 (w_ar ws (n_v vs 1) 14) j := el_kp s1.1 r8 cr_1_14 (by decide)
  have kz_0_6 := fdq_29 hD hth r0
  have kz_0_7 := fdq_30 hD hth r0
  have kz_0_8 := fdq_31 hD hth r0
  have kz_0_9 := fdq_27 hD hth r0
  have kz_1_0 := fdq_77 hD hth r1
  have kz_1_1 := fdq_78 hD hth r1
  have hrf0 : 0 ≤ v_iv (n_v vs 14) ∧ v_iv (n_v vs 14) ≤ 8 := vc_Re_readGroup_1_r0 (v_iv (n_v vs 7)) (v_iv (n_v vs 12)) (v_iv (n_v vs 13)) (v_iv (n_v vs 14)) (w_fi ws (n_v vs 0) 8) (w_fi ws (n_v vs 0) 6) (w_ei ws (w_ar ws (n_v vs 1) 14)) (w_ei ws (w_ar ws (n_v vs 1) 7)) (w_ei ws (w_ar ws (n_v vs 1) 8)) (w_fi ws (n_v vs 1) 0) (w_fi ws (n_v vs 1) 1) (w_fi ws (n_v vs 0) 7) (w_fi ws (n_v vs 0) 9) (w_ei w1 (w_ar ws (n_v vs 1) 14)) (w_ei w1 (w_ar ws (n_v vs 1) 7)) (w_ei w1 (w_ar ws (n_v vs 1) 8)) (w_fi w1 (n_v vs 1) 0) (w_fi w1 (n_v vs 1) 1) (w_fi w1 (n_v vs 0) 7) (w_fi w1 (n_v vs 0) 9) (w_fi w1 (n_v vs 0) 6) (w_fi w1 (n_v vs 0) 8) k7 k12 k13 k14 (shm_14 f1) g2 g3 (shm_204 f9) (shm_229 f10) fe_0_6_1 fe_0_7_1 fe_0_8_1 fe_0_9_1 fe_1_0_1 fe_1_1_1 hE_1_7_1 hE_1_8_1 hE_1_14_1 kz_0_6 kz_0_7 kz_0_8 kz_0_9 kz_1_0 kz_1_1
  have rf14 : tv_ok ta (0, 0, 8, []) (n_v vs 14) := tv_in t14 (by first | omega | grind) (by first | omega | grind)
  refine ⟨List.forall_mem_cons.mpr ⟨rf14, (fun _ h => (by cases h))⟩, [], trivial, ?_, (fun _ h => (by cases h))⟩
  rw [List.append_nil]
  exact (fun _ h => (by cases h))
set_option maxHeartbeats 4000000 in
theorem vc_Re_readGroup_2_r0 (x7 : Int) (x12 : Int) (x13 : Int) (x19 : Int) (groups_0o1 : Int) (begin_0 : Int) (next_0 : Int) (near_0o1 : Int → Int) (tail_0o1 : Int → Int) (head_0o1 : Int → Int) (nodes_0o1 : Int) (edges_0o1 : Int) (kind_0 : Int) (number_0 : Int) (near_1o1 : Int → Int) (tail_1o1 : Int → Int) (head_1o1 : Int → Int) (nodes_1o1 : Int) (edges_1o1 : Int) (kind_1 : Int) (number_1 : Int) (next_1 : Int) (begin_1 : Int) (near_2o1 : Int → Int) (tail_2o1 : Int → Int) (head_2o1 : Int → Int) (nodes_2o1 : Int) (edges_2o1 : Int) (kind_2 : Int) (number_2 : Int) (next_2 : Int) (begin_2 : Int) (groups_1o1 : Int) (within_0o1 : Int → Int) (within_1o1 : Int → Int) (groupNameLength_1o1 : Int → Int) (groupNameLength_2o1 : Int → Int) (k7 : 1 ≤ x7 ∧ x7 ≤ 1) (k12 : 0 ≤ x12 ∧ x12 ≤ 2000) (k13 : 0 ≤ x13 ∧ x13 ≤ 2000) (k19 : (-2000) ≤ x19 ∧ x19 ≤ 2000) (f3 : x19 = x12 - x13) (g4 : x13 = begin_0) (g5 : x12 = next_0) (f12 : 1 * begin_0 + ((-1) * next_0 + 0) ≤ 0) (f13 : 1 * next_0 + ((-1) * begin_0 + (2000 * x7 + 0)) ≤ 2008) (fe_0_6_1 : next_0 = next_1) (fe_0_7_1 : kind_0 = kind_1) (fe_0_8_1 : begin_0 = begin_1) (fe_0_9_1 : number_0 = number_1) (fe_1_0_1 : nodes_0o1 = nodes_1o1) (fe_1_1_1 : edges_0o1 = edges_1o1) (fe_1_2_1 : groups_0o1 = groups_1o1) (fe_0_6_2 : next_1 = next_2) (fe_0_7_2 : kind_1 = kind_2) (fe_0_8_2 : begin_1 = begin_2) (fe_0_9_2 : number_1 = number_2) (fe_1_0_2 : nodes_1o1 = nodes_2o1) (fe_1_1_2 : edges_1o1 = edges_2o1) (hE_1_7_1 : ∀ j : Int, tail_0o1 j = tail_1o1 j) (hE_1_7_2 : ∀ j : Int, tail_1o1 j = tail_2o1 j) (hE_1_8_1 : ∀ j : Int, head_0o1 j = head_1o1 j) (hE_1_8_2 : ∀ j : Int, head_1o1 j = head_2o1 j) (hE_1_11_1 : ∀ j : Int, within_0o1 j = within_1o1 j) (hE_1_13_2 : ∀ j : Int, groupNameLength_1o1 j = groupNameLength_2o1 j) (hE_1_14_1 : ∀ j : Int, near_0o1 j = near_1o1 j) (hE_1_14_2 : ∀ j : Int, near_1o1 j = near_2o1 j) (kz_0_6 : 0 ≤ next_0 ∧ next_0 ≤ 2000) (kz_0_7 : (-128) ≤ kind_0 ∧ kind_0 ≤ 127) (kz_0_8 : 0 ≤ begin_0 ∧ begin_0 ≤ 2000) (kz_0_9 : (-2147483648) ≤ number_0 ∧ number_0 ≤ 1000000) (kz_1_0 : 0 ≤ nodes_0o1 ∧ nodes_0o1 ≤ 24) (kz_1_1 : 0 ≤ edges_0o1 ∧ edges_0o1 ≤ 48) (kz_1_2 : 0 ≤ groups_0o1 ∧ groups_0o1 ≤ 8) : 0 ≤ x19 ∧ x19 ≤ 64 := by
  subst fe_0_6_1
  subst fe_0_7_1
  subst fe_0_8_1
  subst fe_0_9_1
  subst fe_1_0_1
  subst fe_1_1_1
  subst fe_1_2_1
  subst fe_0_6_2
  subst fe_0_7_2
  subst fe_0_8_2
  subst fe_0_9_2
  subst fe_1_0_2
  subst fe_1_1_2
  have e_hE_1_7_1 := funext hE_1_7_1; subst e_hE_1_7_1
  have e_hE_1_7_2 := funext hE_1_7_2; subst e_hE_1_7_2
  have e_hE_1_8_1 := funext hE_1_8_1; subst e_hE_1_8_1
  have e_hE_1_8_2 := funext hE_1_8_2; subst e_hE_1_8_2
  have e_hE_1_11_1 := funext hE_1_11_1; subst e_hE_1_11_1
  have e_hE_1_13_2 := funext hE_1_13_2; subst e_hE_1_13_2
  have e_hE_1_14_1 := funext hE_1_14_1; subst e_hE_1_14_1
  have e_hE_1_14_2 := funext hE_1_14_2; subst e_hE_1_14_2
  first
    | omega
  
set_option maxHeartbeats 4000000 in
theorem vc_Re_readGroup_2_0 (x12 : Int) (x13 : Int) (x19 : Int) (groups_0o1 : Int) (begin_0 : Int) (next_0 : Int) (near_0o1 : Int → Int) (tail_0o1 : Int → Int) (head_0o1 : Int → Int) (nodes_0o1 : Int) (edges_0o1 : Int) (kind_0 : Int) (number_0 : Int) (near_1o1 : Int → Int) (tail_1o1 : Int → Int) (head_1o1 : Int → Int) (nodes_1o1 : Int) (edges_1o1 : Int) (kind_1 : Int) (number_1 : Int) (next_1 : Int) (begin_1 : Int) (near_2o1 : Int → Int) (tail_2o1 : Int → Int) (head_2o1 : Int → Int) (nodes_2o1 : Int) (edges_2o1 : Int) (kind_2 : Int) (number_2 : Int) (next_2 : Int) (begin_2 : Int) (groups_1o1 : Int) (within_0o1 : Int → Int) (within_1o1 : Int → Int) (groupNameLength_1o1 : Int → Int) (groupNameLength_2o1 : Int → Int) (k12 : 0 ≤ x12 ∧ x12 ≤ 2000) (k13 : 0 ≤ x13 ∧ x13 ≤ 2000) (k19 : (-2000) ≤ x19 ∧ x19 ≤ 2000) (f3 : x19 = x12 - x13) (g4 : x13 = begin_0) (g5 : x12 = next_0) (fe_0_6_1 : next_0 = next_1) (fe_0_7_1 : kind_0 = kind_1) (fe_0_8_1 : begin_0 = begin_1) (fe_0_9_1 : number_0 = number_1) (fe_1_0_1 : nodes_0o1 = nodes_1o1) (fe_1_1_1 : edges_0o1 = edges_1o1) (fe_1_2_1 : groups_0o1 = groups_1o1) (fe_0_6_2 : next_1 = next_2) (fe_0_7_2 : kind_1 = kind_2) (fe_0_8_2 : begin_1 = begin_2) (fe_0_9_2 : number_1 = number_2) (fe_1_0_2 : nodes_1o1 = nodes_2o1) (fe_1_1_2 : edges_1o1 = edges_2o1) (hE_1_7_1 : ∀ j : Int, tail_0o1 j = tail_1o1 j) (hE_1_7_2 : ∀ j : Int, tail_1o1 j = tail_2o1 j) (hE_1_8_1 : ∀ j : Int, head_0o1 j = head_1o1 j) (hE_1_8_2 : ∀ j : Int, head_1o1 j = head_2o1 j) (hE_1_11_1 : ∀ j : Int, within_0o1 j = within_1o1 j) (hE_1_13_2 : ∀ j : Int, groupNameLength_1o1 j = groupNameLength_2o1 j) (hE_1_14_1 : ∀ j : Int, near_0o1 j = near_1o1 j) (hE_1_14_2 : ∀ j : Int, near_1o1 j = near_2o1 j) (kz_0_6 : 0 ≤ next_0 ∧ next_0 ≤ 2000) (kz_0_7 : (-128) ≤ kind_0 ∧ kind_0 ≤ 127) (kz_0_8 : 0 ≤ begin_0 ∧ begin_0 ≤ 2000) (kz_0_9 : (-2147483648) ≤ number_0 ∧ number_0 ≤ 1000000) (kz_1_0 : 0 ≤ nodes_0o1 ∧ nodes_0o1 ≤ 24) (kz_1_1 : 0 ≤ edges_0o1 ∧ edges_0o1 ≤ 48) (kz_1_2 : 0 ≤ groups_0o1 ∧ groups_0o1 ≤ 8) : x13 + x19 ≤ 2000 := by
  subst fe_0_6_1
  subst fe_0_7_1
  subst fe_0_8_1
  subst fe_0_9_1
  subst fe_1_0_1
  subst fe_1_1_1
  subst fe_1_2_1
  subst fe_0_6_2
  subst fe_0_7_2
  subst fe_0_8_2
  subst fe_0_9_2
  subst fe_1_0_2
  subst fe_1_1_2
  have e_hE_1_7_1 := funext hE_1_7_1; subst e_hE_1_7_1
  have e_hE_1_7_2 := funext hE_1_7_2; subst e_hE_1_7_2
  have e_hE_1_8_1 := funext hE_1_8_1; subst e_hE_1_8_1
  have e_hE_1_8_2 := funext hE_1_8_2; subst e_hE_1_8_2
  have e_hE_1_11_1 := funext hE_1_11_1; subst e_hE_1_11_1
  have e_hE_1_13_2 := funext hE_1_13_2; subst e_hE_1_13_2
  have e_hE_1_14_1 := funext hE_1_14_1; subst e_hE_1_14_1
  have e_hE_1_14_2 := funext hE_1_14_2; subst e_hE_1_14_2
  first
    | omega
  
set_option maxHeartbeats 4000000 in
theorem vc_Re_readGroup_2_1 (x2 : Int) (x7 : Int) (x12 : Int) (x13 : Int) (x18 : Int) (x19 : Int) (groups_0o1 : Int) (begin_0 : Int) (next_0 : Int) (near_0o1 : Int → Int) (tail_0o1 : Int → Int) (head_0o1 : Int → Int) (nodes_0o1 : Int) (edges_0o1 : Int) (kind_0 : Int) (number_0 : Int) (near_1o1 : Int → Int) (tail_1o1 : Int → Int) (head_1o1 : Int → Int) (nodes_1o1 : Int) (edges_1o1 : Int) (kind_1 : Int) (number_1 : Int) (next_1 : Int) (begin_1 : Int) (near_2o1 : Int → Int) (tail_2o1 : Int → Int) (head_2o1 : Int → Int) (nodes_2o1 : Int) (edges_2o1 : Int) (kind_2 : Int) (number_2 : Int) (next_2 : Int) (begin_2 : Int) (groups_1o1 : Int) (within_0o1 : Int → Int) (within_1o1 : Int → Int) (groupNameLength_1o1 : Int → Int) (groupNameLength_2o1 : Int → Int) (k2 : 0 ≤ x2 ∧ x2 ≤ 7) (k7 : 1 ≤ x7 ∧ x7 ≤ 1) (k12 : 0 ≤ x12 ∧ x12 ≤ 2000) (k13 : 0 ≤ x13 ∧ x13 ≤ 2000) (k18 : 0 ≤ x18 ∧ x18 ≤ 56) (k19 : (-2000) ≤ x19 ∧ x19 ≤ 2000) (g2 : x2 = groups_0o1) (f3 : x19 = x12 - x13) (g4 : x13 = begin_0) (g5 : x12 = next_0) (f6 : x18 = x2 * 8) (f12 : 1 * begin_0 + ((-1) * next_0 + 0) ≤ 0) (f13 : 1 * next_0 + ((-1) * begin_0 + (2000 * x7 + 0)) ≤ 2008) (fe_0_6_1 : next_0 = next_1) (fe_0_7_1 : kind_0 = kind_1) (fe_0_8_1 : begin_0 = begin_1) (fe_0_9_1 : number_0 = number_1) (fe_1_0_1 : nodes_0o1 = nodes_1o1) (fe_1_1_1 : edges_0o1 = edges_1o1) (fe_1_2_1 : groups_0o1 = groups_1o1) (fe_0_6_2 : next_1 = next_2) (fe_0_7_2 : kind_1 = kind_2) (fe_0_8_2 : begin_1 = begin_2) (fe_0_9_2 : number_1 = number_2) (fe_1_0_2 : nodes_1o1 = nodes_2o1) (fe_1_1_2 : edges_1o1 = edges_2o1) (hE_1_7_1 : ∀ j : Int, tail_0o1 j = tail_1o1 j) (hE_1_7_2 : ∀ j : Int, tail_1o1 j = tail_2o1 j) (hE_1_8_1 : ∀ j : Int, head_0o1 j = head_1o1 j) (hE_1_8_2 : ∀ j : Int, head_1o1 j = head_2o1 j) (hE_1_11_1 : ∀ j : Int, within_0o1 j = within_1o1 j) (hE_1_13_2 : ∀ j : Int, groupNameLength_1o1 j = groupNameLength_2o1 j) (hE_1_14_1 : ∀ j : Int, near_0o1 j = near_1o1 j) (hE_1_14_2 : ∀ j : Int, near_1o1 j = near_2o1 j) (kz_0_6 : 0 ≤ next_0 ∧ next_0 ≤ 2000) (kz_0_7 : (-128) ≤ kind_0 ∧ kind_0 ≤ 127) (kz_0_8 : 0 ≤ begin_0 ∧ begin_0 ≤ 2000) (kz_0_9 : (-2147483648) ≤ number_0 ∧ number_0 ≤ 1000000) (kz_1_0 : 0 ≤ nodes_0o1 ∧ nodes_0o1 ≤ 24) (kz_1_1 : 0 ≤ edges_0o1 ∧ edges_0o1 ≤ 48) (kz_1_2 : 0 ≤ groups_0o1 ∧ groups_0o1 ≤ 8) : x18 + x19 ≤ 64 := by
  subst fe_0_6_1
  subst fe_0_7_1
  subst fe_0_8_1
  subst fe_0_9_1
  subst fe_1_0_1
  subst fe_1_1_1
  subst fe_1_2_1
  subst fe_0_6_2
  subst fe_0_7_2
  subst fe_0_8_2
  subst fe_0_9_2
  subst fe_1_0_2
  subst fe_1_1_2
  have e_hE_1_7_1 := funext hE_1_7_1; subst e_hE_1_7_1
  have e_hE_1_7_2 := funext hE_1_7_2; subst e_hE_1_7_2
  have e_hE_1_8_1 := funext hE_1_8_1; subst e_hE_1_8_1
  have e_hE_1_8_2 := funext hE_1_8_2; subst e_hE_1_8_2
  have e_hE_1_11_1 := funext hE_1_11_1; subst e_hE_1_11_1
  have e_hE_1_13_2 := funext hE_1_13_2; subst e_hE_1_13_2
  have e_hE_1_14_1 := funext hE_1_14_1; subst e_hE_1_14_1
  have e_hE_1_14_2 := funext hE_1_14_2; subst e_hE_1_14_2
  first
    | omega
  
def o_Re_readGroup_2 : or_T := (115, 20, [(0, (2, 0, 0, [8])), (1, (2, 0, 0, [164])), (2, (0, 0, 7, [])), (3, (0, 8, 8, [])), (6, (0, -2147483648, 1000000, [])), (7, (0, 1, 1, [])), (8, (2, 0, 0, [158])), (11, (2, 0, 0, [160])), (12, (0, 0, 2000, [])), (13, (0, 0, 2000, [])), (14, (0, 0, 8, [])), (17, (0, 8, 8, [])), (18, (0, 0, 56, [])), (19, (0, -2000, 2000, []))], [(9, [11, 1], [13]), (9, [8, 1], [11]), (9, [2, 1], [2]), (2, [19, 12, 13], []), (9, [13, 0], [8]), (9, [12, 0], [6]), (3, [18, 2, 17], []), (20, [1], [60, 2, 3, 670, 0, 1, 14, 7, 8]), (20, [1], [60, 2, 2, 596, 0, 1, 7, 8]), (20, [0, 0, 6], [31, 1, 3, 1, 1, 7, 0, 1, 1, 9, -1, 0, 0]), (20, [0, 0, 6], [31, 1, 3, 1, 1, 7, 0, -1, 1, 9, 1, 0, 0]), (20, [0, 0, 0, 0], [31, 1, -3, -1, 1, 7, 4008, 1, 1, 6, -1, 1, 8, 2000, 1, 7]), (20, [0, 0], [30, 0, 1, 1, 8, -1, 1, 6]), (20, [0, 0, 7], [30, 2008, 1, 1, 6, -1, 1, 8, 2000, 0, 0]), (100, [11, 2, 14], []), (2, [14, 12, 13], []), (20, [1], [60, 2, 3, 670, 0, 1, 14, 7, 8]), (20, [1], [60, 2, 2, 596, 0, 1, 7, 8]), (20, [0, 0, 6], [31, 1, 3, 1, 1, 7, 0, 1, 1, 9, -1, 0, 0]), (20, [0, 0, 6], [31, 1, 3, 1, 1, 7, 0, -1, 1, 9, 1, 0, 0]), (20, [0, 0, 0, 0], [31, 1, -3, -1, 1, 7, 4008, 1, 1, 6, -1, 1, 8, 2000, 1, 7]), (20, [0, 0], [30, 0, 1, 1, 8, -1, 1, 6]), (20, [0, 0, 7], [30, 2008, 1, 1, 6, -1, 1, 8, 2000, 0, 0]), (100, [8, 2, 10], []), (8, [7], [1]), (20, [1], [60, 2, 3, 670, 0, 1, 14, 7, 8]), (20, [1], [60, 2, 2, 596, 0, 1, 7, 8]), (20, [0, 0, 6], [31, 1, 3, 1, 1, 7, 0, 1, 1, 9, -1, 0, 0]), (20, [0, 0, 6], [31, 1, 3, 1, 1, 7, 0, -1, 1, 9, 1, 0, 0]), (20, [0, 0, 0, 0], [31, 1, -3, -1, 1, 7, 4008, 1, 1, 6, -1, 1, 8, 2000, 1, 7]), (20, [0, 0], [30, 0, 1, 1, 8, -1, 1, 6]), (20, [0, 0, 7], [30, 2008, 1, 1, 6, -1, 1, 8, 2000, 0, 0]), (102, [6], [0]), (102, [6], [0, 8006, 8007, 8008, 8009]), (7, [2, 3], [2])], [(19, (0, 0, 64, []))], [], [(21, [13, 19], [2000]), (21, [18, 19], [64])], [], [(19, 12, -2000, 0), (14, 12, -2000, 0)])
theorem oo_Re_readGroup_2 {kA : Nat → ClassId} : or_ok PRD kA GG o_Re_readGroup_2 := by
  refine or_mk fun A ta ws vs hD hth hl => ?_
  intro t0 r0 t1 r1 t2 k2 t3 k3 t6 k6 t7 k7 t8 r8 t11 r11 t12 k12 t13 k13 t14 k14 t17 k17 t18 k18 t19 k19 d0 d1 f0 f1 f2 f3 f4 f5 f6 f7 f8 f9 f10 f11 f12 f13 ta1 w1 le1 s1 f15 f16 f17 f18 f19 f20 f21 f22 ta2 w2 le2 s2 f24 f25 f26 f27 f28 f29 f30 f31 ta3 w3 le3 s3 ta4 w4 le4 s4 f34
  replace f2 := shm_129 f2
  replace f4 := shm_143 f4
  replace f5 := shm_110 f5
  replace f6 := shm_38 f6
  rw [show v_iv (n_v vs 17) = 8 from by omega] at f6
  have s1 : (∀ b j, w_el ws b j = if b = v_ad (n_v vs 11) ∧ j = (v_iv (n_v vs 2)).toNat then v_iv (n_v vs 14) else w_el w1 b j) ∧ ∀ b k, w_fd ws b k = w_fd w1 b k := s1.2
  have s2 : (∀ b j, w_el w1 b j = if b = v_ad (n_v vs 8) ∧ j = (v_iv (n_v vs 2)).toNat then v_iv (n_v vs 10) else w_el w2 b j) ∧ ∀ b k, w_fd w1 b k = w_fd w2 b k := s2.2
  have cr_1_7 := fdq_74 hD hth r1
  have cr_1_8 := fdq_75 hD hth r1
  have cr_1_11 := fdq_312 hD hth r1
  have cr_1_13 := fdq_313 hD hth r1
  have cr_1_14 := fdq_76 hD hth r1
  have g2 : v_iv (n_v vs 2) = w_fi ws (n_v vs 1) 2 := congrArg v_iv f2
  have g4 : v_iv (n_v vs 13) = w_fi ws (n_v vs 0) 8 := congrArg v_iv f4
  have g5 : v_iv (n_v vs 12) = w_fi ws (n_v vs 0) 6 := congrArg v_iv f5
  have fe_0_6_1 : w_fi ws (n_v vs 0) 6 = w_fi w1 (n_v vs 0) 6 := congrArg v_iv (s1.2 _ _)
  have fe_0_7_1 : w_fi ws (n_v vs 0) 7 = w_fi w1 (n_v vs 0) 7 := congrArg v_iv (s1.2 _ _)
  have fe_0_8_1 : w_fi ws (n_v vs 0) 8 = w_fi w1 (n_v vs 0) 8 := congrArg v_iv (s1.2 _ _)
  have fe_0_9_1 : w_fi ws (n_v vs 0) 9 = w_fi w1 (n_v vs 0) 9 := congrArg v_iv (s1.2 _ _)
  have fe_1_0_1 : w_fi ws (n_v vs 1) 0 = w_fi w1 (n_v vs 1) 0 := congrArg v_iv (s1.2 _ _)
  have fe_1_1_1 : w_fi ws (n_v vs 1) 1 = w_fi w1 (n_v vs 1) 1 := congrArg v_iv (s1.2 _ _)
  have fe_1_2_1 : w_fi ws (n_v vs 1) 2 = w_fi w1 (n_v vs 1) 2 := congrArg v_iv (s1.2 _ _)
  have fe_0_6_2 : w_fi w1 (n_v vs 0) 6 = w_fi w2 (n_v vs 0) 6 := congrArg v_iv (s2.2 _ _)
  have fe_0_7_2 : w_fi w1 (n_v vs 0) 7 = w_fi w2 (n_v vs 0) 7 := congrArg v_iv (s2.2 _ _)
  have fe_0_8_2 : w_fi w1 (n_v vs 0) 8 = w_fi w2 (n_v vs 0) 8 := congrArg v_iv (s2.2 _ _)
  have fe_0_9_2 : w_fi w1 (n_v vs 0) 9 = w_fi w2 (n_v vs 0) 9 := congrArg v_iv (s2.2 _ _)
  have fe_1_0_2 : w_fi w1 (n_v vs 1) 0 = w_fi w2 (n_v vs 1) 0 := congrArg v_iv (s2.2 _ _)
  have fe_1_1_2 : w_fi w1 (n_v vs 1) 1 = w_fi w2 (n_v vs 1) 1 := congrArg v_iv (s2.2 _ _)
  have hE_1_7_1 : ∀ j : Int, w_ei ws (w_ar ws (n_v vs 1) 7) j = w_ei w1 (w_ar ws (n_v vs 1) 7) j := el_kp s1.1 r11 cr_1_7 (by decide)
  have hE_1_7_2 : ∀ j : Int, w_ei w1 (w_ar ws (n_v vs 1) 7) j = w_ei w2 (w_ar ws (n_v vs 1) 7) j := el_kp s2.1 r8 cr_1_7 (by decide)
  have hE_1_8_1 : ∀ j : Int, w_ei ws (w_ar ws (n_v vs 1) 8) j = w_ei w1 (w_ar ws (n_v vs 1) 8) j := el_kp s1.1 r11 cr_1_8 (by decide)
  have hE_1_8_2 : ∀ j : Int, w_ei w1 (w_ar ws (n_v vs 1) 8) j = w_ei w2 (w_ar ws (n_v vs 1) 8) j := el_kp s2.1 r8 cr_1_8 (by decide)
  have hE_1_11_1 : ∀ j : Int, w_ei ws (w_ar ws (n_v vs 1) 11) j = w_ei w1 (w_ar ws (n_v vs 1) 11) j := el_kp s1.1 r11 cr_1_11 (by decide)
  have hE_1_13_2 : ∀ j : Int, w_ei w1 (w_ar ws (n_v vs 1) 13) j = w_ei w2 (w_ar ws (n_v vs 1) 13) j := el_kp s2.1 r8 cr_1_13 (by decide)
  have hE_1_14_1 : ∀ j : Int, w_ei ws (w_ar ws (n_v vs 1) 14) j = w_ei w1 (w_ar ws (n_v vs 1) 14) j := el_kp s1.1 r11 cr_1_14 (by decide)
  have hE_1_14_2 : ∀ j : Int, w_ei w1 (w_ar ws (n_v vs 1) 14) j = w_ei w2 (w_ar ws (n_v vs 1) 14) j := el_kp s2.1 r8 cr_1_14 (by decide)
  have kz_0_6 := fdq_29 hD hth r0
  have kz_0_7 := fdq_30 hD hth r0
  have kz_0_8 := fdq_31 hD hth r0
  have kz_0_9 := fdq_27 hD hth r0
  have kz_1_0 := fdq_77 hD hth r1
  have kz_1_1 := fdq_78 hD hth r1
  have kz_1_2 := fdq_314 hD hth r1
  have hrf0 : 0 ≤ v_iv (n_v vs 19) ∧ v_iv (n_v vs 19) ≤ 64 := vc_Re_readGroup_2_r0 (v_iv (n_v vs 7)) (v_iv (n_v vs 12)) (v_iv (n_v vs 13)) (v_iv (n_v vs 19)) (w_fi ws (n_v vs 1) 2) (w_fi ws (n_v vs 0) 8) (w_fi ws (n_v vs 0) 6) (w_ei ws (w_ar ws (n_v vs 1) 14)) (w_ei ws (w_ar ws (n_v vs 1) 7)) (w_ei ws (w_ar ws (n_v vs 1) 8)) (w_fi ws (n_v vs 1) 0) (w_fi ws (n_v vs 1) 1) (w_fi ws (n_v vs 0) 7) (w_fi ws (n_v vs 0) 9) (w_ei w1 (w_ar ws (n_v vs 1) 14)) (w_ei w1 (w_ar ws (n_v vs 1) 7)) (w_ei w1 (w_ar ws (n_v vs 1) 8)) (w_fi w1 (n_v vs 1) 0) (w_fi w1 (n_v vs 1) 1) (w_fi w1 (n_v vs 0) 7) (w_fi w1 (n_v vs 0) 9) (w_fi w1 (n_v vs 0) 6) (w_fi w1 (n_v vs 0) 8) (w_ei w2 (w_ar ws (n_v vs 1) 14)) (w_ei w2 (w_ar ws (n_v vs 1) 7)) (w_ei w2 (w_ar ws (n_v vs 1) 8)) (w_fi w2 (n_v vs 1) 0) (w_fi w2 (n_v vs 1) 1) (w_fi w2 (n_v vs 0) 7) (w_fi w2 (n_v vs 0) 9) (w_fi w2 (n_v vs 0) 6) (w_fi w2 (n_v vs 0) 8) (w_fi w1 (n_v vs 1) 2) (w_ei ws (w_ar ws (n_v vs 1) 11)) (w_ei w1 (w_ar ws (n_v vs 1) 11)) (w_ei w1 (w_ar ws (n_v vs 1) 13)) (w_ei w2 (w_ar ws (n_v vs 1) 13)) k7 k12 k13 k19 (shm_14 f3) g4 g5 (shm_204 f12) (shm_229 f13) fe_0_6_1 fe_0_7_1 fe_0_8_1 fe_0_9_1 fe_1_0_1 fe_1_1_1 fe_1_2_1 fe_0_6_2 fe_0_7_2 fe_0_8_2 fe_0_9_2 fe_1_0_2 fe_1_1_2 hE_1_7_1 hE_1_7_2 hE_1_8_1 hE_1_8_2 hE_1_11_1 hE_1_13_2 hE_1_14_1 hE_1_14_2 kz_0_6 kz_0_7 kz_0_8 kz_0_9 kz_1_0 kz_1_1 kz_1_2
  have nf0 : fc_1 PRD (21, [13, 19], [2000]) ws (vs) := ⟨nf_in hl rfl, sgq_813 (vc_Re_readGroup_2_0 (v_iv (n_v vs 12)) (v_iv (n_v vs 13)) (v_iv (n_v vs 19)) (w_fi ws (n_v vs 1) 2) (w_fi ws (n_v vs 0) 8) (w_fi ws (n_v vs 0) 6) (w_ei ws (w_ar ws (n_v vs 1) 14)) (w_ei ws (w_ar ws (n_v vs 1) 7)) (w_ei ws (w_ar ws (n_v vs 1) 8)) (w_fi ws (n_v vs 1) 0) (w_fi ws (n_v vs 1) 1) (w_fi ws (n_v vs 0) 7) (w_fi ws (n_v vs 0) 9) (w_ei w1 (w_ar ws (n_v vs 1) 14)) (w_ei w1 (w_ar ws (n_v vs 1) 7)) (w_ei w1 (w_ar ws (n_v vs 1) 8)) (w_fi w1 (n_v vs 1) 0) (w_fi w1 (n_v vs 1) 1) (w_fi w1 (n_v vs 0) 7) (w_fi w1 (n_v vs 0) 9) (w_fi w1 (n_v vs 0) 6) (w_fi w1 (n_v vs 0) 8) (w_ei w2 (w_ar ws (n_v vs 1) 14)) (w_ei w2 (w_ar ws (n_v vs 1) 7)) (w_ei w2 (w_ar ws (n_v vs 1) 8)) (w_fi w2 (n_v vs 1) 0) (w_fi w2 (n_v vs 1) 1) (w_fi w2 (n_v vs 0) 7) (w_fi w2 (n_v vs 0) 9) (w_fi w2 (n_v vs 0) 6) (w_fi w2 (n_v vs 0) 8) (w_fi w1 (n_v vs 1) 2) (w_ei ws (w_ar ws (n_v vs 1) 11)) (w_ei w1 (w_ar ws (n_v vs 1) 11)) (w_ei w1 (w_ar ws (n_v vs 1) 13)) (w_ei w2 (w_ar ws (n_v vs 1) 13)) k12 k13 k19 (shm_14 f3) g4 g5 fe_0_6_1 fe_0_7_1 fe_0_8_1 fe_0_9_1 fe_1_0_1 fe_1_1_1 fe_1_2_1 fe_0_6_2 fe_0_7_2 fe_0_8_2 fe_0_9_2 fe_1_0_2 fe_1_1_2 hE_1_7_1 hE_1_7_2 hE_1_8_1 hE_1_8_2 hE_1_11_1 hE_1_13_2 hE_1_14_1 hE_1_14_2 kz_0_6 kz_0_7 kz_0_8 kz_0_9 kz_1_0 kz_1_1 kz_1_2)⟩
  have nf1 : fc_1 PRD (21, [18, 19], [64]) ws (vs) := ⟨nf_in hl rfl, sgq_1326 (vc_Re_readGroup_2_1 (v_iv (n_v vs 2)) (v_iv (n_v vs 7)) (v_iv (n_v vs 12)) (v_iv (n_v vs 13)) (v_iv (n_v vs 18)) (v_iv (n_v vs 19)) (w_fi ws (n_v vs 1) 2) (w_fi ws (n_v vs 0) 8) (w_fi ws (n_v vs 0) 6) (w_ei ws (w_ar ws (n_v vs 1) 14)) (w_ei ws (w_ar ws (n_v vs 1) 7)) (w_ei ws (w_ar ws (n_v vs 1) 8)) (w_fi ws (n_v vs 1) 0) (w_fi ws (n_v vs 1) 1) (w_fi ws (n_v vs 0) 7) (w_fi ws (n_v vs 0) 9) (w_ei w1 (w_ar ws (n_v vs 1) 14)) (w_ei w1 (w_ar ws (n_v vs 1) 7)) (w_ei w1 (w_ar ws (n_v vs 1) 8)) (w_fi w1 (n_v vs 1) 0) (w_fi w1 (n_v vs 1) 1) (w_fi w1 (n_v vs 0) 7) (w_fi w1 (n_v vs 0) 9) (w_fi w1 (n_v vs 0) 6) (w_fi w1 (n_v vs 0) 8) (w_ei w2 (w_ar ws (n_v vs 1) 14)) (w_ei w2 (w_ar ws (n_v vs 1) 7)) (w_ei w2 (w_ar ws (n_v vs 1) 8)) (w_fi w2 (n_v vs 1) 0) (w_fi w2 (n_v vs 1) 1) (w_fi w2 (n_v vs 0) 7) (w_fi w2 (n_v vs 0) 9) (w_fi w2 (n_v vs 0) 6) (w_fi w2 (n_v vs 0) 8) (w_fi w1 (n_v vs 1) 2) (w_ei ws (w_ar ws (n_v vs 1) 11)) (w_ei w1 (w_ar ws (n_v vs 1) 11)) (w_ei w1 (w_ar ws (n_v vs 1) 13)) (w_ei w2 (w_ar ws (n_v vs 1) 13)) k2 k7 k12 k13 k18 k19 g2 (shm_14 f3) g4 g5 f6 (shm_204 f12) (shm_229 f13) fe_0_6_1 fe_0_7_1 fe_0_8_1 fe_0_9_1 fe_1_0_1 fe_1_1_1 fe_1_2_1 fe_0_6_2 fe_0_7_2 fe_0_8_2 fe_0_9_2 fe_1_0_2 fe_1_1_2 hE_1_7_1 hE_1_7_2 hE_1_8_1 hE_1_8_2 hE_1_11_1 hE_1_13_2 hE_1_14_1 hE_1_14_2 kz_0_6 kz_0_7 kz_0_8 kz_0_9 kz_1_0 kz_1_1 kz_1_2)⟩
  have rf19 : tv_ok ta (0, 0, 64, []) (n_v vs 19) := tv_in t19 (by first | omega | grind) (by first | omega | grind)
  refine ⟨List.forall_mem_cons.mpr ⟨rf19, (fun _ h => (by cases h))⟩, [], trivial, ?_, (fun _ h => (by cases h))⟩
  rw [List.append_nil]
  exact List.forall_mem_cons.mpr ⟨⟨show (21 : Nat) < 100 from by decide, nf0⟩, List.forall_mem_cons.mpr ⟨⟨show (21 : Nat) < 100 from by decide, nf1⟩, (fun _ h => (by cases h))⟩⟩
set_option maxHeartbeats 4000000 in
theorem vc_Re_readGroup_3_0 (groups_0o1 : Int) (begin_0 : Int) (next_0 : Int) (near_0o1 : Int → Int) (tail_0o1 : Int → Int) (head_0o1 : Int → Int) (nodes_0o1 : Int) (edges_0o1 : Int) (kind_0 : Int) (number_0 : Int) (near_1o1 : Int → Int) (tail_1o1 : Int → Int) (head_1o1 : Int → Int) (nodes_1o1 : Int) (edges_1o1 : Int) (kind_1 : Int) (number_1 : Int) (next_1 : Int) (begin_1 : Int) (near_2o1 : Int → Int) (tail_2o1 : Int → Int) (head_2o1 : Int → Int) (nodes_2o1 : Int) (edges_2o1 : Int) (kind_2 : Int) (number_2 : Int) (next_2 : Int) (begin_2 : Int) (near_3o1 : Int → Int) (tail_3o1 : Int → Int) (head_3o1 : Int → Int) (nodes_3o1 : Int) (edges_3o1 : Int) (kind_3 : Int) (number_3 : Int) (next_3 : Int) (begin_3 : Int) (groups_1o1 : Int) (groups_2o1 : Int) (open_1 : Int → Int) (open_2 : Int → Int) (open_3 : Int → Int) (groupNameLength_0o1 : Int → Int) (groupNameLength_1o1 : Int → Int) (groupNameLength_2o1 : Int → Int) (groupNameLength_3o1 : Int → Int) (gx : Int) (fe_0_6_1 : next_0 = next_1) (fe_0_7_1 : kind_0 = kind_1) (fe_0_8_1 : begin_0 = begin_1) (fe_0_9_1 : number_0 = number_1) (fe_1_0_1 : nodes_0o1 = nodes_1o1) (fe_1_1_1 : edges_0o1 = edges_1o1) (fe_1_2_1 : groups_0o1 = groups_1o1) (fe_0_6_2 : next_1 = next_2) (fe_0_7_2 : kind_1 = kind_2) (fe_0_8_2 : begin_1 = begin_2) (fe_0_9_2 : number_1 = number_2) (fe_1_0_2 : nodes_1o1 = nodes_2o1) (fe_1_1_2 : edges_1o1 = edges_2o1) (fe_1_2_2 : groups_1o1 = groups_2o1) (fe_0_6_3 : next_2 = next_3) (fe_0_7_3 : kind_2 = kind_3) (fe_0_8_3 : begin_2 = begin_3) (fe_0_9_3 : number_2 = number_3) (fe_1_0_3 : nodes_2o1 = nodes_3o1) (fe_1_1_3 : edges_2o1 = edges_3o1) (hE_0_10_2 : ∀ j : Int, open_1 j = open_2 j) (hE_0_10_3 : ∀ j : Int, open_2 j = open_3 j) (hE_1_7_1 : ∀ j : Int, tail_0o1 j = tail_1o1 j) (hE_1_7_2 : ∀ j : Int, tail_1o1 j = tail_2o1 j) (hE_1_7_3 : ∀ j : Int, tail_2o1 j = tail_3o1 j) (hE_1_8_1 : ∀ j : Int, head_0o1 j = head_1o1 j) (hE_1_8_2 : ∀ j : Int, head_1o1 j = head_2o1 j) (hE_1_8_3 : ∀ j : Int, head_2o1 j = head_3o1 j) (hE_1_13_1 : ∀ j : Int, groupNameLength_0o1 j = groupNameLength_1o1 j) (hE_1_13_2 : ∀ j : Int, groupNameLength_1o1 j = groupNameLength_2o1 j) (hE_1_13_3 : ∀ j : Int, groupNameLength_2o1 j = groupNameLength_3o1 j) (hE_1_14_1 : ∀ j : Int, near_0o1 j = near_1o1 j) (hE_1_14_2 : ∀ j : Int, near_1o1 j = near_2o1 j) (hE_1_14_3 : ∀ j : Int, near_2o1 j = near_3o1 j) (kz_0_6 : 0 ≤ next_0 ∧ next_0 ≤ 2000) (kz_0_7 : (-128) ≤ kind_0 ∧ kind_0 ≤ 127) (kz_0_8 : 0 ≤ begin_0 ∧ begin_0 ≤ 2000) (kz_0_9 : (-2147483648) ≤ number_0 ∧ number_0 ≤ 1000000) (kz_1_0 : 0 ≤ nodes_0o1 ∧ nodes_0o1 ≤ 24) (kz_1_1 : 0 ≤ edges_0o1 ∧ edges_0o1 ≤ 48) (kz_1_2 : 0 ≤ groups_0o1 ∧ groups_0o1 ≤ 8) (ex2 : gx = number_0) : 1 * number_0 + ((-1) * gx + 0) ≤ 0 := by
  subst fe_0_6_1
  subst fe_0_7_1
  subst fe_0_8_1
  subst fe_0_9_1
  subst fe_1_0_1
  subst fe_1_1_1
  subst fe_1_2_1
  subst fe_0_6_2
  subst fe_0_7_2
  subst fe_0_8_2
  subst fe_0_9_2
  subst fe_1_0_2
  subst fe_1_1_2
  subst fe_1_2_2
  subst fe_0_6_3
  subst fe_0_7_3
  subst fe_0_8_3
  subst fe_0_9_3
  subst fe_1_0_3
  subst fe_1_1_3
  have e_hE_0_10_2 := funext hE_0_10_2; subst e_hE_0_10_2
  have e_hE_0_10_3 := funext hE_0_10_3; subst e_hE_0_10_3
  have e_hE_1_7_1 := funext hE_1_7_1; subst e_hE_1_7_1
  have e_hE_1_7_2 := funext hE_1_7_2; subst e_hE_1_7_2
  have e_hE_1_7_3 := funext hE_1_7_3; subst e_hE_1_7_3
  have e_hE_1_8_1 := funext hE_1_8_1; subst e_hE_1_8_1
  have e_hE_1_8_2 := funext hE_1_8_2; subst e_hE_1_8_2
  have e_hE_1_8_3 := funext hE_1_8_3; subst e_hE_1_8_3
  have e_hE_1_13_1 := funext hE_1_13_1; subst e_hE_1_13_1
  have e_hE_1_13_2 := funext hE_1_13_2; subst e_hE_1_13_2
  have e_hE_1_13_3 := funext hE_1_13_3; subst e_hE_1_13_3
  have e_hE_1_14_1 := funext hE_1_14_1; subst e_hE_1_14_1
  have e_hE_1_14_2 := funext hE_1_14_2; subst e_hE_1_14_2
  have e_hE_1_14_3 := funext hE_1_14_3; subst e_hE_1_14_3
  first
    | omega
  
set_option maxHeartbeats 4000000 in
theorem vc_Re_readGroup_3_1 (groups_0o1 : Int) (begin_0 : Int) (next_0 : Int) (near_0o1 : Int → Int) (tail_0o1 : Int → Int) (head_0o1 : Int → Int) (nodes_0o1 : Int) (edges_0o1 : Int) (kind_0 : Int) (number_0 : Int) (near_1o1 : Int → Int) (tail_1o1 : Int → Int) (head_1o1 : Int → Int) (nodes_1o1 : Int) (edges_1o1 : Int) (kind_1 : Int) (number_1 : Int) (next_1 : Int) (begin_1 : Int) (near_2o1 : Int → Int) (tail_2o1 : Int → Int) (head_2o1 : Int → Int) (nodes_2o1 : Int) (edges_2o1 : Int) (kind_2 : Int) (number_2 : Int) (next_2 : Int) (begin_2 : Int) (near_3o1 : Int → Int) (tail_3o1 : Int → Int) (head_3o1 : Int → Int) (nodes_3o1 : Int) (edges_3o1 : Int) (kind_3 : Int) (number_3 : Int) (next_3 : Int) (begin_3 : Int) (groups_1o1 : Int) (groups_2o1 : Int) (open_1 : Int → Int) (open_2 : Int → Int) (open_3 : Int → Int) (groupNameLength_0o1 : Int → Int) (groupNameLength_1o1 : Int → Int) (groupNameLength_2o1 : Int → Int) (groupNameLength_3o1 : Int → Int) (gx : Int) (fe_0_6_1 : next_0 = next_1) (fe_0_7_1 : kind_0 = kind_1) (fe_0_8_1 : begin_0 = begin_1) (fe_0_9_1 : number_0 = number_1) (fe_1_0_1 : nodes_0o1 = nodes_1o1) (fe_1_1_1 : edges_0o1 = edges_1o1) (fe_1_2_1 : groups_0o1 = groups_1o1) (fe_0_6_2 : next_1 = next_2) (fe_0_7_2 : kind_1 = kind_2) (fe_0_8_2 : begin_1 = begin_2) (fe_0_9_2 : number_1 = number_2) (fe_1_0_2 : nodes_1o1 = nodes_2o1) (fe_1_1_2 : edges_1o1 = edges_2o1) (fe_1_2_2 : groups_1o1 = groups_2o1) (fe_0_6_3 : next_2 = next_3) (fe_0_7_3 : kind_2 = kind_3) (fe_0_8_3 : begin_2 = begin_3) (fe_0_9_3 : number_2 = number_3) (fe_1_0_3 : nodes_2o1 = nodes_3o1) (fe_1_1_3 : edges_2o1 = edges_3o1) (hE_0_10_2 : ∀ j : Int, open_1 j = open_2 j) (hE_0_10_3 : ∀ j : Int, open_2 j = open_3 j) (hE_1_7_1 : ∀ j : Int, tail_0o1 j = tail_1o1 j) (hE_1_7_2 : ∀ j : Int, tail_1o1 j = tail_2o1 j) (hE_1_7_3 : ∀ j : Int, tail_2o1 j = tail_3o1 j) (hE_1_8_1 : ∀ j : Int, head_0o1 j = head_1o1 j) (hE_1_8_2 : ∀ j : Int, head_1o1 j = head_2o1 j) (hE_1_8_3 : ∀ j : Int, head_2o1 j = head_3o1 j) (hE_1_13_1 : ∀ j : Int, groupNameLength_0o1 j = groupNameLength_1o1 j) (hE_1_13_2 : ∀ j : Int, groupNameLength_1o1 j = groupNameLength_2o1 j) (hE_1_13_3 : ∀ j : Int, groupNameLength_2o1 j = groupNameLength_3o1 j) (hE_1_14_1 : ∀ j : Int, near_0o1 j = near_1o1 j) (hE_1_14_2 : ∀ j : Int, near_1o1 j = near_2o1 j) (hE_1_14_3 : ∀ j : Int, near_2o1 j = near_3o1 j) (kz_0_6 : 0 ≤ next_0 ∧ next_0 ≤ 2000) (kz_0_7 : (-128) ≤ kind_0 ∧ kind_0 ≤ 127) (kz_0_8 : 0 ≤ begin_0 ∧ begin_0 ≤ 2000) (kz_0_9 : (-2147483648) ≤ number_0 ∧ number_0 ≤ 1000000) (kz_1_0 : 0 ≤ nodes_0o1 ∧ nodes_0o1 ≤ 24) (kz_1_1 : 0 ≤ edges_0o1 ∧ edges_0o1 ≤ 48) (kz_1_2 : 0 ≤ groups_0o1 ∧ groups_0o1 ≤ 8) (ex2 : gx = number_0) : (-1) * number_0 + (1 * gx + 0) ≤ 0 := by
  subst fe_0_6_1
  subst fe_0_7_1
  subst fe_0_8_1
  subst fe_0_9_1
  subst fe_1_0_1
  subst fe_1_1_1
  subst fe_1_2_1
  subst fe_0_6_2
  subst fe_0_7_2
  subst fe_0_8_2
  subst fe_0_9_2
  subst fe_1_0_2
  subst fe_1_1_2
  subst fe_1_2_2
  subst fe_0_6_3
  subst fe_0_7_3
  subst fe_0_8_3
  subst fe_0_9_3
  subst fe_1_0_3
  subst fe_1_1_3
  have e_hE_0_10_2 := funext hE_0_10_2; subst e_hE_0_10_2
  have e_hE_0_10_3 := funext hE_0_10_3; subst e_hE_0_10_3
  have e_hE_1_7_1 := funext hE_1_7_1; subst e_hE_1_7_1
  have e_hE_1_7_2 := funext hE_1_7_2; subst e_hE_1_7_2
  have e_hE_1_7_3 := funext hE_1_7_3; subst e_hE_1_7_3
  have e_hE_1_8_1 := funext hE_1_8_1; subst e_hE_1_8_1
  have e_hE_1_8_2 := funext hE_1_8_2; subst e_hE_1_8_2
  have e_hE_1_8_3 := funext hE_1_8_3; subst e_hE_1_8_3
  have e_hE_1_13_1 := funext hE_1_13_1; subst e_hE_1_13_1
  have e_hE_1_13_2 := funext hE_1_13_2; subst e_hE_1_13_2
  have e_hE_1_13_3 := funext hE_1_13_3; subst e_hE_1_13_3
  have e_hE_1_14_1 := funext hE_1_14_1; subst e_hE_1_14_1
  have e_hE_1_14_2 := funext hE_1_14_2; subst e_hE_1_14_2
  have e_hE_1_14_3 := funext hE_1_14_3; subst e_hE_1_14_3
  first
    | omega
  
def o_Re_readGroup_3 : or_T := (152, 24, [(0, (2, 0, 0, [8])), (1, (2, 0, 0, [164])), (9, (2, 0, 0, [110]))], [(100, [9, 23, 2], []), (101, [0, 23], [11]), (101, [1, 21], [2])], [], [(0, -2147483648, 1000000, [])], [(20, [0, 24], [30, 0, 1, 1, 9, -1, 0, 0]), (20, [0, 24], [30, 0, -1, 1, 9, 1, 0, 0])], [], [])
theorem oo_Re_readGroup_3 {kA : Nat → ClassId} : or_ok PRD kA GG o_Re_readGroup_3 := by
  refine or_mk fun A ta ws vs hD hth hl => ?_
  intro t0 r0 t1 r1 t9 r9 ta1 w1 le1 s1 ta2 w2 le2 s2 ta3 w3 le3 s3
  have s1 : (∀ b j, w_el ws b j = if b = v_ad (n_v vs 9) ∧ j = (v_iv (n_v vs 23)).toNat then v_iv (n_v vs 2) else w_el w1 b j) ∧ ∀ b k, w_fd ws b k = w_fd w1 b k := s1.2
  have s2 : (∀ b j, w_el w1 b j = w_el w2 b j) ∧ ∀ b j, w_fd w1 b j = if b = v_ad (n_v vs 0) ∧ j = 11 then n_v vs 23 else w_fd w2 b j := s2.2
  have s3 : (∀ b j, w_el w2 b j = w_el w3 b j) ∧ ∀ b j, w_fd w2 b j = if b = v_ad (n_v vs 1) ∧ j = 2 then n_v vs 21 else w_fd w3 b j := s3.2
  have cr_1_7 := fdq_74 hD hth r1
  have cr_1_8 := fdq_75 hD hth r1
  have cr_1_13 := fdq_313 hD hth r1
  have cr_1_14 := fdq_76 hD hth r1
  have fe_0_6_1 : w_fi ws (n_v vs 0) 6 = w_fi w1 (n_v vs 0) 6 := congrArg v_iv (s1.2 _ _)
  have fe_0_7_1 : w_fi ws (n_v vs 0) 7 = w_fi w1 (n_v vs 0) 7 := congrArg v_iv (s1.2 _ _)
  have fe_0_8_1 : w_fi ws (n_v vs 0) 8 = w_fi w1 (n_v vs 0) 8 := congrArg v_iv (s1.2 _ _)
  have fe_0_9_1 : w_fi ws (n_v vs 0) 9 = w_fi w1 (n_v vs 0) 9 := congrArg v_iv (s1.2 _ _)
  have fe_1_0_1 : w_fi ws (n_v vs 1) 0 = w_fi w1 (n_v vs 1) 0 := congrArg v_iv (s1.2 _ _)
  have fe_1_1_1 : w_fi ws (n_v vs 1) 1 = w_fi w1 (n_v vs 1) 1 := congrArg v_iv (s1.2 _ _)
  have fe_1_2_1 : w_fi ws (n_v vs 1) 2 = w_fi w1 (n_v vs 1) 2 := congrArg v_iv (s1.2 _ _)
  have fe_0_6_2 : w_fi w1 (n_v vs 0) 6 = w_fi w2 (n_v vs 0) 6 := by show v_iv (w_fd _ _ _) = v_iv (w_fd _ _ _); rw [s2.2, if_neg (fun e => absurd e.2 (by decide))]
  have fe_0_7_2 : w_fi w1 (n_v vs 0) 7 = w_fi w2 (n_v vs 0) 7 := by show v_iv (w_fd _ _ _) = v_iv (w_fd _ _ _); rw [s2.2, if_neg (fun e => absurd e.2 (by decide))]
  have fe_0_8_2 : w_fi w1 (n_v vs 0) 8 = w_fi w2 (n_v vs 0) 8 := by show v_iv (w_fd _ _ _) = v_iv (w_fd _ _ _); rw [s2.2, if_neg (fun e => absurd e.2 (by decide))]
  have fe_0_9_2 : w_fi w1 (n_v vs 0) 9 = w_fi w2 (n_v vs 0) 9 := by show v_iv (w_fd _ _ _) = v_iv (w_fd _ _ _); rw [s2.2, if_neg (fun e => absurd e.2 (by decide))]
  have fe_1_0_2 : w_fi w1 (n_v vs 1) 0 = w_fi w2 (n_v vs 1) 0 := by show v_iv (w_fd _ _ _) = v_iv (w_fd _ _ _); rw [s2.2, if_neg (fun e => absurd e.2 (by decide))]
  have fe_1_1_2 : w_fi w1 (n_v vs 1) 1 = w_fi w2 (n_v vs 1) 1 := by show v_iv (w_fd _ _ _) = v_iv (w_fd _ _ _); rw [s2.2, if_neg (fun e => absurd e.2 (by decide))]
  have fe_1_2_2 : w_fi w1 (n_v vs 1) 2 = w_fi w2 (n_v vs 1) 2 := by show v_iv (w_fd _ _ _) = v_iv (w_fd _ _ _); rw [s2.2, if_neg (fun e => absurd e.2 (by decide))]
  have fe_0_6_3 : w_fi w2 (n_v vs 0) 6 = w_fi w3 (n_v vs 0) 6 := by show v_iv (w_fd _ _ _) = v_iv (w_fd _ _ _); rw [s3.2, if_neg (fun e => absurd e.2 (by decide))]
  have fe_0_7_3 : w_fi w2 (n_v vs 0) 7 = w_fi w3 (n_v vs 0) 7 := by show v_iv (w_fd _ _ _) = v_iv (w_fd _ _ _); rw [s3.2, if_neg (fun e => absurd e.2 (by decide))]
  have fe_0_8_3 : w_fi w2 (n_v vs 0) 8 = w_fi w3 (n_v vs 0) 8 := by show v_iv (w_fd _ _ _) = v_iv (w_fd _ _ _); rw [s3.2, if_neg (fun e => absurd e.2 (by decide))]
  have fe_0_9_3 : w_fi w2 (n_v vs 0) 9 = w_fi w3 (n_v vs 0) 9 := by show v_iv (w_fd _ _ _) = v_iv (w_fd _ _ _); rw [s3.2, if_neg (fun e => absurd e.2 (by decide))]
  have fe_1_0_3 : w_fi w2 (n_v vs 1) 0 = w_fi w3 (n_v vs 1) 0 := by show v_iv (w_fd _ _ _) = v_iv (w_fd _ _ _); rw [s3.2, if_neg (fun e => absurd e.2 (by decide))]
  have fe_1_1_3 : w_fi w2 (n_v vs 1) 1 = w_fi w3 (n_v vs 1) 1 := by show v_iv (w_fd _ _ _) = v_iv (w_fd _ _ _); rw [s3.2, if_neg (fun e => absurd e.2 (by decide))]
  have hE_0_10_2 : ∀ j : Int, w_ei w1 (w_ar ws (n_v vs 0) 10) j = w_ei w2 (w_ar ws (n_v vs 0) 10) j := fun j => s2.1 _ _
  have hE_0_10_3 : ∀ j : Int, w_ei w2 (w_ar ws (n_v vs 0) 10) j = w_ei w3 (w_ar ws (n_v vs 0) 10) j := fun j => s3.1 _ _
  have hE_1_7_1 : ∀ j : Int, w_ei ws (w_ar ws (n_v vs 1) 7) j = w_ei w1 (w_ar ws (n_v vs 1) 7) j := el_kp s1.1 r9 cr_1_7 (by decide)
  have hE_1_7_2 : ∀ j : Int, w_ei w1 (w_ar ws (n_v vs 1) 7) j = w_ei w2 (w_ar ws (n_v vs 1) 7) j := fun j => s2.1 _ _
  have hE_1_7_3 : ∀ j : Int, w_ei w2 (w_ar ws (n_v vs 1) 7) j = w_ei w3 (w_ar ws (n_v vs 1) 7) j := fun j => s3.1 _ _
  have hE_1_8_1 : ∀ j : Int, w_ei ws (w_ar ws (n_v vs 1) 8) j = w_ei w1 (w_ar ws (n_v vs 1) 8) j := el_kp s1.1 r9 cr_1_8 (by decide)
  have hE_1_8_2 : ∀ j : Int, w_ei w1 (w_ar ws (n_v vs 1) 8) j = w_ei w2 (w_ar ws (n_v vs 1) 8) j := fun j => s2.1 _ _
  have hE_1_8_3 : ∀ j : Int, w_ei w2 (w_ar ws (n_v vs 1) 8) j = w_ei w3 (w_ar ws (n_v vs 1) 8) j := fun j => s3.1 _ _
  have hE_1_13_1 : ∀ j : Int, w_ei ws (w_ar ws (n_v vs 1) 13) j = w_ei w1 (w_ar ws (n_v vs 1) 13) j := el_kp s1.1 r9 cr_1_13 (by decide)
  have hE_1_13_2 : ∀ j : Int, w_ei w1 (w_ar ws (n_v vs 1) 13) j = w_ei w2 (w_ar ws (n_v vs 1) 13) j := fun j => s2.1 _ _
  have hE_1_13_3 : ∀ j : Int, w_ei w2 (w_ar ws (n_v vs 1) 13) j = w_ei w3 (w_ar ws (n_v vs 1) 13) j := fun j => s3.1 _ _
  have hE_1_14_1 : ∀ j : Int, w_ei ws (w_ar ws (n_v vs 1) 14) j = w_ei w1 (w_ar ws (n_v vs 1) 14) j := el_kp s1.1 r9 cr_1_14 (by decide)
  have hE_1_14_2 : ∀ j : Int, w_ei w1 (w_ar ws (n_v vs 1) 14) j = w_ei w2 (w_ar ws (n_v vs 1) 14) j := fun j => s2.1 _ _
  have hE_1_14_3 : ∀ j : Int, w_ei w2 (w_ar ws (n_v vs 1) 14) j = w_ei w3 (w_ar ws (n_v vs 1) 14) j := fun j => s3.1 _ _
  have kz_0_6 := fdq_29 hD hth r0
  have kz_0_7 := fdq_30 hD hth r0
  have kz_0_8 := fdq_31 hD hth r0
  have kz_0_9 := fdq_27 hD hth r0
  have kz_1_0 := fdq_77 hD hth r1
  have kz_1_1 := fdq_78 hD hth r1
  have kz_1_2 := fdq_314 hD hth r1
  obtain ⟨x, ex, hx⟩ := iv_ex (ta := ta) (lo := (-2147483648)) (hi := 1000000) (z := w_fi ws (n_v vs 0) 9) (by omega) (by omega) (by omega) (by omega)
  have ex2 : v_iv (Value.int x) = w_fi ws (n_v vs 0) 9 := ex
  have ex3 : (-2147483648) ≤ v_iv (Value.int x) ∧ v_iv (Value.int x) ≤ 1000000 := tv_rng hx
  have e_0 : n_v (vs ++ [Value.int x]) 0 = n_v vs 0 := n_v_old (by rw [hl]; decide)
  have e_24 : n_v (vs ++ [Value.int x]) 24 = Value.int x := n_v_new hl
  have nf0 : fc_1 PRD (20, [0, 24], [30, 0, 1, 1, 9, -1, 0, 0]) ws (vs ++ [Value.int x]) := by
    refine ⟨nf_inA hl rfl, sgq_199 ?_⟩
    · show 1 * w_fi ws (n_v (vs ++ [Value.int x]) 0) 9 + ((-1) * v_iv (n_v (vs ++ [Value.int x]) 24) + 0) ≤ 0
      simp only [e_0, e_24]
      exact vc_Re_readGroup_3_0 (w_fi ws (n_v vs 1) 2) (w_fi ws (n_v vs 0) 8) (w_fi ws (n_v vs 0) 6) (w_ei ws (w_ar ws (n_v vs 1) 14)) (w_ei ws (w_ar ws (n_v vs 1) 7)) (w_ei ws (w_ar ws (n_v vs 1) 8)) (w_fi ws (n_v vs 1) 0) (w_fi ws (n_v vs 1) 1) (w_fi ws (n_v vs 0) 7) (w_fi ws (n_v vs 0) 9) (w_ei w1 (w_ar ws (n_v vs 1) 14)) (w_ei w1 (w_ar ws (n_v vs 1) 7)) (w_ei w1 (w_ar ws (n_v vs 1) 8)) (w_fi w1 (n_v vs 1) 0) (w_fi w1 (n_v vs 1) 1) (w_fi w1 (n_v vs 0) 7) (w_fi w1 (n_v vs 0) 9) (w_fi w1 (n_v vs 0) 6) (w_fi w1 (n_v vs 0) 8) (w_ei w2 (w_ar ws (n_v vs 1) 14)) (w_ei w2 (w_ar ws (n_v vs 1) 7)) (w_ei w2 (w_ar ws (n_v vs 1) 8)) (w_fi w2 (n_v vs 1) 0) (w_fi w2 (n_v vs 1) 1) (w_fi w2 (n_v vs 0) 7) (w_fi w2 (n_v vs 0) 9) (w_fi w2 (n_v vs 0) 6) (w_fi w2 (n_v vs 0) 8) (w_ei w3 (w_ar ws (n_v vs 1) 14)) (w_ei w3 (w_ar ws (n_v vs 1) 7)) (w_ei w3 (w_ar ws (n_v vs 1) 8)) (w_fi w3 (n_v vs 1) 0) (w_fi w3 (n_v vs 1) 1) (w_fi w3 (n_v vs 0) 7) (w_fi w3 (n_v vs 0) 9) (w_fi w3 (n_v vs 0) 6) (w_fi w3 (n_v vs 0) 8) (w_fi w1 (n_v vs 1) 2) (w_fi w2 (n_v vs 1) 2) (w_ei w1 (w_ar ws (n_v vs 0) 10)) (w_ei w2 (w_ar ws (n_v vs 0) 10)) (w_ei w3 (w_ar ws (n_v vs 0) 10)) (w_ei ws (w_ar ws (n_v vs 1) 13)) (w_ei w1 (w_ar ws (n_v vs 1) 13)) (w_ei w2 (w_ar ws (n_v vs 1) 13)) (w_ei w3 (w_ar ws (n_v vs 1) 13)) (v_iv (Value.int x)) fe_0_6_1 fe_0_7_1 fe_0_8_1 fe_0_9_1 fe_1_0_1 fe_1_1_1 fe_1_2_1 fe_0_6_2 fe_0_7_2 fe_0_8_2 fe_0_9_2 fe_1_0_2 fe_1_1_2 fe_1_2_2 fe_0_6_3 fe_0_7_3 fe_0_8_3 fe_0_9_3 fe_1_0_3 fe_1_1_3 hE_0_10_2 hE_0_10_3 hE_1_7_1 hE_1_7_2 hE_1_7_3 hE_1_8_1 hE_1_8_2 hE_1_8_3 hE_1_13_1 hE_1_13_2 hE_1_13_3 hE_1_14_1 hE_1_14_2 hE_1_14_3 kz_0_6 kz_0_7 kz_0_8 kz_0_9 kz_1_0 kz_1_1 kz_1_2 ex2
  have nf1 : fc_1 PRD (20, [0, 24], [30, 0, -1, 1, 9, 1, 0, 0]) ws (vs ++ [Value.int x]) := by
    refine ⟨nf_inA hl rfl, sgq_200 ?_⟩
    · show (-1) * w_fi ws (n_v (vs ++ [Value.int x]) 0) 9 + (1 * v_iv (n_v (vs ++ [Value.int x]) 24) + 0) ≤ 0
      simp only [e_0, e_24]
      exact vc_Re_readGroup_3_1 (w_fi ws (n_v vs 1) 2) (w_fi ws (n_v vs 0) 8) (w_fi ws (n_v vs 0) 6) (w_ei ws (w_ar ws (n_v vs 1) 14)) (w_ei ws (w_ar ws (n_v vs 1) 7)) (w_ei ws (w_ar ws (n_v vs 1) 8)) (w_fi ws (n_v vs 1) 0) (w_fi ws (n_v vs 1) 1) (w_fi ws (n_v vs 0) 7) (w_fi ws (n_v vs 0) 9) (w_ei w1 (w_ar ws (n_v vs 1) 14)) (w_ei w1 (w_ar ws (n_v vs 1) 7)) (w_ei w1 (w_ar ws (n_v vs 1) 8)) (w_fi w1 (n_v vs 1) 0) (w_fi w1 (n_v vs 1) 1) (w_fi w1 (n_v vs 0) 7) (w_fi w1 (n_v vs 0) 9) (w_fi w1 (n_v vs 0) 6) (w_fi w1 (n_v vs 0) 8) (w_ei w2 (w_ar ws (n_v vs 1) 14)) (w_ei w2 (w_ar ws (n_v vs 1) 7)) (w_ei w2 (w_ar ws (n_v vs 1) 8)) (w_fi w2 (n_v vs 1) 0) (w_fi w2 (n_v vs 1) 1) (w_fi w2 (n_v vs 0) 7) (w_fi w2 (n_v vs 0) 9) (w_fi w2 (n_v vs 0) 6) (w_fi w2 (n_v vs 0) 8) (w_ei w3 (w_ar ws (n_v vs 1) 14)) (w_ei w3 (w_ar ws (n_v vs 1) 7)) (w_ei w3 (w_ar ws (n_v vs 1) 8)) (w_fi w3 (n_v vs 1) 0) (w_fi w3 (n_v vs 1) 1) (w_fi w3 (n_v vs 0) 7) (w_fi w3 (n_v vs 0) 9) (w_fi w3 (n_v vs 0) 6) (w_fi w3 (n_v vs 0) 8) (w_fi w1 (n_v vs 1) 2) (w_fi w2 (n_v vs 1) 2) (w_ei w1 (w_ar ws (n_v vs 0) 10)) (w_ei w2 (w_ar ws (n_v vs 0) 10)) (w_ei w3 (w_ar ws (n_v vs 0) 10)) (w_ei ws (w_ar ws (n_v vs 1) 13)) (w_ei w1 (w_ar ws (n_v vs 1) 13)) (w_ei w2 (w_ar ws (n_v vs 1) 13)) (w_ei w3 (w_ar ws (n_v vs 1) 13)) (v_iv (Value.int x)) fe_0_6_1 fe_0_7_1 fe_0_8_1 fe_0_9_1 fe_1_0_1 fe_1_1_1 fe_1_2_1 fe_0_6_2 fe_0_7_2 fe_0_8_2 fe_0_9_2 fe_1_0_2 fe_1_1_2 fe_1_2_2 fe_0_6_3 fe_0_7_3 fe_0_8_3 fe_0_9_3 fe_1_0_3 fe_1_1_3 hE_0_10_2 hE_0_10_3 hE_1_7_1 hE_1_7_2 hE_1_7_3 hE_1_8_1 hE_1_8_2 hE_1_8_3 hE_1_13_1 hE_1_13_2 hE_1_13_3 hE_1_14_1 hE_1_14_2 hE_1_14_3 kz_0_6 kz_0_7 kz_0_8 kz_0_9 kz_1_0 kz_1_1 kz_1_2 ex2
  exact ⟨(fun _ h => (by cases h)), [Value.int x], ag_one hx, List.forall_mem_cons.mpr ⟨⟨show (20 : Nat) < 100 from by decide, nf0⟩, List.forall_mem_cons.mpr ⟨⟨show (20 : Nat) < 100 from by decide, nf1⟩, (fun _ h => (by cases h))⟩⟩, (fun _ h => (by cases h))⟩
def n_Re_readGroup_an : List an_T := []
def t_Re_readGroup_ct : ct_L := [(1, 57, e_Re_advance), (1, 107, e_Re_isName), (1, 113, e_Re_fail), (348, 150, e_acp_94)]
set_option maxRecDepth 100000 in
theorem c_Re_readGroup {l : Launch} {D : va_G} {kA : Nat → ClassId} (h_Re_advance : ct_ok PRD l D kA GG y_Re_advance z_Re_advance e_Re_advance) (h_Re_fail : ct_ok PRD l D kA GG y_Re_fail z_Re_fail e_Re_fail) (h_Re_isName : ct_ok PRD l D kA GG y_Re_isName z_Re_isName e_Re_isName) : ct_ok PRD l D kA GG y_Re_readGroup z_Re_readGroup e_Re_readGroup := chk_all_ok (FT := [(9, 8, 0), (28, 8, 4), (35, 8, 6), (38, 8, 7), (41, 8, 8), (47, 8, 10), (51, 8, 11), (138, 3, 2), (141, 3, 11), (144, 3, 13), (147, 3, 12)]) (PT := [(51, 8, 11, .int), (138, 3, 2, .int)]) (CT := t_Re_readGroup_ct) (KT := []) (NT := []) (AN := n_Re_readGroup_an) (OT := [o_Re_readGroup_0, o_Re_readGroup_1, o_Re_readGroup_2, o_Re_readGroup_3]) 0 400 (List.forall_mem_cons.mpr ⟨oo_Re_readGroup_0, List.forall_mem_cons.mpr ⟨oo_Re_readGroup_1, List.forall_mem_cons.mpr ⟨oo_Re_readGroup_2, List.forall_mem_cons.mpr ⟨oo_Re_readGroup_3, List.forall_mem_nil _⟩⟩⟩⟩) (by decide +kernel) ⟨List.forall_mem_cons.mpr ⟨gf_Re_9, List.forall_mem_cons.mpr ⟨gf_Re_28, List.forall_mem_cons.mpr ⟨gf_Re_35, List.forall_mem_cons.mpr ⟨gf_Re_38, List.forall_mem_cons.mpr ⟨gf_Re_41, List.forall_mem_cons.mpr ⟨gf_Re_47, List.forall_mem_cons.mpr ⟨gf_Re_51, List.forall_mem_cons.mpr ⟨gf_Re_138, List.forall_mem_cons.mpr ⟨gf_Re_141, List.forall_mem_cons.mpr ⟨gf_Re_144, List.forall_mem_cons.mpr ⟨gf_Re_147, List.forall_mem_nil _⟩⟩⟩⟩⟩⟩⟩⟩⟩⟩⟩, List.forall_mem_cons.mpr ⟨pf_Re_51, List.forall_mem_cons.mpr ⟨pf_Re_138, List.forall_mem_nil _⟩⟩, List.forall_mem_cons.mpr ⟨cl_virtual (y := y_Re_advance) (ci := 8) rfl rfl ⟨_, _, rfl⟩ (by decide +kernel) h_Re_advance wm_645 wm_2 wm_642 wm_644 wv_1_0 ⟨by decide, by decide, by decide +kernel⟩ (by decide), List.forall_mem_cons.mpr ⟨cl_virtual (y := y_Re_isName) (ci := 8) rfl rfl ⟨_, _, rfl⟩ (by decide +kernel) h_Re_isName wm_726 wm_2 wm_723 wm_725 wv_1_4 ⟨by decide, by decide, by decide +kernel⟩ (by decide), List.forall_mem_cons.mpr ⟨cl_virtual (y := y_Re_fail) (ci := 8) rfl rfl ⟨_, _, rfl⟩ (by decide +kernel) h_Re_fail wm_731 wm_2 wm_728 wm_730 wv_1_5 ⟨by decide, by decide, by decide +kernel⟩ (by decide), List.forall_mem_cons.mpr ⟨cl_copy rfl rfl (by decide) (by decide) (by decide) wm_760 wm_750 wm_749 wm_15, List.forall_mem_nil _⟩⟩⟩⟩, List.forall_mem_nil _, List.forall_mem_nil _, GG_pl⟩ (by decide +kernel)
set_option maxHeartbeats 4000000 in
theorem vc_Mo_count_0_0 (x1 : Int) (all_0 : Int → Int) (now_0 : Int → Int) (latest_0 : Int → Int) (r_0 : Int) (k1 : 0 ≤ x1 ∧ x1 ≤ 3) (f0 : ROWS (all_0) (now_0) (latest_0)) (f1 : r_0 = ((16709 * x1) + (539 * now_0 (x1)))) : SGR (r_0) (all_0) := by
  exact rows_at (g := x1) ‹ROWS _ _ _› (by omega) (by omega) (by omega)
def o_Mo_count_0 : or_T := (81, 4, [(1, (0, 0, 3, []))], [(20, [0], [60, 0, 3, 198, 2, 3, 4]), (20, [0, 1], [50, 1, 1, 5, 3, 1, 3, 2, 0, 5, 4, 6, 6, 2, 0, 16709, 1, 1, 6, 2, 0, 539, 3, 0, 3, 1, 1])], [], [], [(20, [0], [60, 1, 1, 197, 5, 2])], [], [])
theorem oo_Mo_count_0 {kA : Nat → ClassId} : or_ok PRD kA GG o_Mo_count_0 := by
  refine or_mk fun A ta ws vs hD hth hl => ?_
  intro t1 k1 f0 f1
  have nf0 : fc_1 PRD (20, [0], [60, 1, 1, 197, 5, 2]) ws (vs) := ⟨nf_in hl rfl, sgq_1403 (vc_Mo_count_0_0 (v_iv (n_v vs 1)) (w_ei ws (w_ar ws (n_v vs 0) 2)) (w_ei ws (w_ar ws (n_v vs 0) 3)) (w_ei ws (w_ar ws (n_v vs 0) 4)) (w_fi ws (n_v vs 0) 5) k1 (shm_1199 f0) (shm_1007 f1))⟩
  refine ⟨(fun _ h => (by cases h)), [], trivial, ?_, (fun _ h => (by cases h))⟩
  rw [List.append_nil]
  exact List.forall_mem_cons.mpr ⟨⟨show (20 : Nat) < 100 from by decide, nf0⟩, (fun _ h => (by cases h))⟩
set_option maxHeartbeats 4000000 in
theorem vc_Mo_count_1_0 (x1 : Int) (all_0 : Int → Int) (now_0 : Int → Int) (latest_0 : Int → Int) (r_0 : Int) (k1 : 0 ≤ x1 ∧ x1 ≤ 3) (f0 : ROWS (all_0) (now_0) (latest_0)) (f1 : r_0 = ((16709 * x1) + (539 * now_0 (x1)))) : SGR (r_0) (all_0) := by
  exact rows_at (g := x1) ‹ROWS _ _ _› (by omega) (by omega) (by omega)
def o_Mo_count_1 : or_T := (91, 5, [(1, (0, 0, 3, []))], [(20, [0], [60, 0, 3, 198, 2, 3, 4]), (20, [0, 1], [50, 1, 1, 5, 3, 1, 3, 2, 0, 5, 4, 6, 6, 2, 0, 16709, 1, 1, 6, 2, 0, 539, 3, 0, 3, 1, 1])], [], [], [(20, [0], [60, 1, 1, 197, 5, 2])], [], [])
theorem oo_Mo_count_1 {kA : Nat → ClassId} : or_ok PRD kA GG o_Mo_count_1 := by
  refine or_mk fun A ta ws vs hD hth hl => ?_
  intro t1 k1 f0 f1
  have nf0 : fc_1 PRD (20, [0], [60, 1, 1, 197, 5, 2]) ws (vs) := ⟨nf_in hl rfl, sgq_1403 (vc_Mo_count_1_0 (v_iv (n_v vs 1)) (w_ei ws (w_ar ws (n_v vs 0) 2)) (w_ei ws (w_ar ws (n_v vs 0) 3)) (w_ei ws (w_ar ws (n_v vs 0) 4)) (w_fi ws (n_v vs 0) 5) k1 (shm_1199 f0) (shm_1007 f1))⟩
  refine ⟨(fun _ h => (by cases h)), [], trivial, ?_, (fun _ h => (by cases h))⟩
  rw [List.append_nil]
  exact List.forall_mem_cons.mpr ⟨⟨show (20 : Nat) < 100 from by decide, nf0⟩, (fun _ h => (by cases h))⟩
def n_Mo_count_an : List an_T := []
def t_Mo_count_ct : ct_L := [(0, 521, e_Mo_isPlace), (1, 401, e_Mo_edges), (1, 475, e_Mo_nodes), (1, 509, e_Mo_groups), (1, 527, e_Mo_take), (1, 668, e_Mo_blocks), (1, 689, e_Mo_plane), (1, 716, e_Mo_parts), (1, 719, e_Mo_strong)]
set_option maxRecDepth 100000 in
theorem c_Mo_count {l : Launch} {D : va_G} {kA : Nat → ClassId} (h_Mo_blocks : ct_ok PRD l D kA GG y_Mo_blocks z_Mo_blocks e_Mo_blocks) (h_Mo_edges : ct_ok PRD l D kA GG y_Mo_edges z_Mo_edges e_Mo_edges) (h_Mo_groups : ct_ok PRD l D kA GG y_Mo_groups z_Mo_groups e_Mo_groups) (h_Mo_isPlace : ct_ok PRD l D kA GG y_Mo_isPlace z_Mo_isPlace e_Mo_isPlace) (h_Mo_nodes : ct_ok PRD l D kA GG y_Mo_nodes z_Mo_nodes e_Mo_nodes) (h_Mo_parts : ct_ok PRD l D kA GG y_Mo_parts z_Mo_parts e_Mo_parts) (h_Mo_plane : ct_ok PRD l D kA GG y_Mo_plane z_Mo_plane e_Mo_plane) (h_Mo_strong : ct_ok PRD l D kA GG y_Mo_strong z_Mo_strong e_Mo_strong) (h_Mo_take : ct_ok PRD l D kA GG y_Mo_take z_Mo_take e_Mo_take) : ct_ok PRD l D kA GG y_Mo_count z_Mo_count e_Mo_count := chk_all_ok (FT := [(20, 13, 3), (23, 13, 4)]) (PT := []) (CT := t_Mo_count_ct) (KT := []) (NT := []) (AN := n_Mo_count_an) (OT := [o_Mo_count_0, o_Mo_count_1]) 0 208 (List.forall_mem_cons.mpr ⟨oo_Mo_count_0, List.forall_mem_cons.mpr ⟨oo_Mo_count_1, List.forall_mem_nil _⟩⟩) (by decide +kernel) ⟨List.forall_mem_cons.mpr ⟨gf_Mo_20, List.forall_mem_cons.mpr ⟨gf_Mo_23, List.forall_mem_nil _⟩⟩, List.forall_mem_nil _, List.forall_mem_cons.mpr ⟨cl_static (y := y_Mo_isPlace) h_Mo_isPlace wm_2978 wm_9 wm_2976 wm_2977 ⟨by decide, by decide, by decide +kernel⟩ (by decide), List.forall_mem_cons.mpr ⟨cl_virtual (y := y_Mo_edges) (ci := 13) rfl rfl ⟨_, _, rfl⟩ (by decide +kernel) h_Mo_edges wm_3037 wm_9 wm_3034 wm_3036 wv_13_6 ⟨by decide, by decide, by decide +kernel⟩ (by decide), List.forall_mem_cons.mpr ⟨cl_virtual (y := y_Mo_nodes) (ci := 13) rfl rfl ⟨_, _, rfl⟩ (by decide +kernel) h_Mo_nodes wm_3025 wm_9 wm_3022 wm_3024 wv_13_3 ⟨by decide, by decide, by decide +kernel⟩ (by decide), List.forall_mem_cons.mpr ⟨cl_virtual (y := y_Mo_groups) (ci := 13) rfl rfl ⟨_, _, rfl⟩ (by decide +kernel) h_Mo_groups wm_3070 wm_9 wm_3067 wm_3069 wv_13_14 ⟨by decide, by decide, by decide +kernel⟩ (by decide), List.forall_mem_cons.mpr ⟨cl_virtual (y := y_Mo_take) (ci := 13) rfl rfl ⟨_, _, rfl⟩ (by decide +kernel) h_Mo_take wm_3091 wm_9 wm_3088 wm_3090 wv_14_2 ⟨by decide, by decide, by decide +kernel⟩ (by decide), List.forall_mem_cons.mpr ⟨cl_virtual (y := y_Mo_blocks) (ci := 13) rfl rfl ⟨_, _, rfl⟩ (by decide +kernel) h_Mo_blocks wm_3155 wm_9 wm_3152 wm_3154 wv_14_14 ⟨by decide, by decide, by decide +kernel⟩ (by decide), List.forall_mem_cons.mpr ⟨cl_virtual (y := y_Mo_plane) (ci := 13) rfl rfl ⟨_, _, rfl⟩ (by decide +kernel) h_Mo_plane wm_3147 wm_9 wm_3144 wm_3146 wv_14_12 ⟨by decide, by decide, by decide +kernel⟩ (by decide), List.forall_mem_cons.mpr ⟨cl_virtual (y := y_Mo_parts) (ci := 13) rfl rfl ⟨_, _, rfl⟩ (by decide +kernel) h_Mo_parts wm_3283 wm_9 wm_3280 wm_3282 wv_16_11 ⟨by decide, by decide, by decide +kernel⟩ (by decide), List.forall_mem_cons.mpr ⟨cl_virtual (y := y_Mo_strong) (ci := 13) rfl rfl ⟨_, _, rfl⟩ (by decide +kernel) h_Mo_strong wm_3291 wm_9 wm_3288 wm_3290 wv_16_13 ⟨by decide, by decide, by decide +kernel⟩ (by decide), List.forall_mem_nil _⟩⟩⟩⟩⟩⟩⟩⟩⟩, List.forall_mem_nil _, List.forall_mem_nil _, GG_pl⟩ (by decide +kernel)

set_option maxHeartbeats 4000000 in
theorem vc_Mo_writeEdges_0_0 (x1 : Int) (x2 : Int) (texts_0 : Int) (k1 : 0 ≤ x1 ∧ x1 ≤ 99997888) (k2 : 0 ≤ x2 ∧ x2 ≤ 0) (f0 : 1 * texts_0 + ((-1) * x1 + 0) ≤ 0) (kz_0_170 : 0 ≤ texts_0 ∧ texts_0 ≤ 100000000) : 1 * texts_0 + ((-1) * x1 + ((-44) * x2 + 0)) ≤ 0 := by
  first | assumption | omega | grind
def o_Mo_writeEdges_0 : or_T := (2, 3, [(0, (2, 0, 0, [165])), (1, (0, 0, 99997888, [])), (2, (0, 0, 0, []))], [(20, [0, 1], [30, 0, 1, 1, 170, -1, 0, 0])], [], [], [(20, [0, 1, 2], [30, 0, 1, 1, 170, -1, 0, 0, -44, 0, 0]), (24, [0, 0], [])], [], [])
theorem oo_Mo_writeEdges_0 {kA : Nat → ClassId} : or_ok PRD kA GG o_Mo_writeEdges_0 := by
  refine or_mk fun A ta ws vs hD hth hl => ?_
  intro t0 r0 t1 k1 t2 k2 f0
  have kz_0_170 := fdq_13 hD hth r0
  have nf0 : fc_1 PRD (20, [0, 1, 2], [30, 0, 1, 1, 170, -1, 0, 0, -44, 0, 0]) ws (vs) := ⟨nf_in hl rfl, sgq_1897 (vc_Mo_writeEdges_0_0 (v_iv (n_v vs 1)) (v_iv (n_v vs 2)) (w_fi ws (n_v vs 0) 170) k1 k2 (shm_140 f0) kz_0_170)⟩
  have nf1 : fc_1 PRD (24, [0, 0], []) ws (vs) := by
    refine ⟨nf_in hl rfl, sgq_1 ?_⟩
    · show n_v vs 0 = n_v vs 0
      first | rfl | simp only [true_and]
  refine ⟨(fun _ h => (by cases h)), [], trivial, ?_, (fun _ h => (by cases h))⟩
  rw [List.append_nil]
  exact List.forall_mem_cons.mpr ⟨⟨show (20 : Nat) < 100 from by decide, nf0⟩, List.forall_mem_cons.mpr ⟨⟨show (24 : Nat) < 100 from by decide, nf1⟩, (fun _ h => (by cases h))⟩⟩
set_option maxHeartbeats 4000000 in
theorem vc_Mo_writeEdges_1_0 (x1 : Int) (x3 : Int) (x4 : Int) (all_0 : Int → Int) (r_0 : Int) (texts_0 : Int) (k1 : 0 ≤ x1 ∧ x1 ≤ 99997888) (k3 : 0 ≤ x3 ∧ x3 ≤ 48) (k4 : 0 ≤ x4 ∧ x4 ≤ 48) (d0 : x4 + 0 ≤ x3 ∧ x3 ≤ x4 + 4294967296) (f0 : x4 ≤ x3) (f1 : 1 * x4 + ((-1) * all_0 (r_0 + 1) + 0) ≤ 0) (f2 : (-1) * x4 + (1 * all_0 (r_0 + 1) + 0) ≤ 0) (f3 : 1 * texts_0 + ((-1) * x1 + ((-44) * x3 + 0)) ≤ 0) (kz_0_170 : 0 ≤ texts_0 ∧ texts_0 ≤ 100000000) : 1 * texts_0 + ((-1) * x1 + 0) ≤ 2112 := by
  first | assumption | omega | grind
def o_Mo_writeEdges_1 : or_T := (95, 5, [(0, (2, 0, 0, [165])), (1, (0, 0, 99997888, [])), (3, (0, 0, 48, [])), (4, (0, 0, 48, []))], [(7, [3, 4], [3]), (20, [4, 2], [30, 0, 1, 0, 0, -1, 3, 2005001]), (20, [4, 2], [30, 0, -1, 0, 0, 1, 3, 2005001]), (20, [2, 1, 3], [30, 0, 1, 1, 170, -1, 0, 0, -44, 0, 0]), (24, [0, 2], [])], [], [], [(20, [0, 1], [30, 2112, 1, 1, 170, -1, 0, 0])], [], [(3, 4, 0, 4294967296)])
theorem oo_Mo_writeEdges_1 {kA : Nat → ClassId} : or_ok PRD kA GG o_Mo_writeEdges_1 := by
  refine or_mk fun A ta ws vs hD hth hl => ?_
  intro t0 r0 t1 k1 t3 k3 t4 k4 d0 f0 f1 f2 f3 f4
  replace f1 := shm_130 f1
  replace f2 := shm_131 f2
  replace f3 := shm_1897 f3
  replace f4 := shm_5 f4
  have q2 : n_v vs 2 = n_v vs 0 := f4.symm
  simp only [q2] at f1 f2 f3
  have kz_0_170 := fdq_13 hD hth r0
  have nf0 : fc_1 PRD (20, [0, 1], [30, 2112, 1, 1, 170, -1, 0, 0]) ws (vs) := ⟨nf_in hl rfl, sgq_1898 (vc_Mo_writeEdges_1_0 (v_iv (n_v vs 1)) (v_iv (n_v vs 3)) (v_iv (n_v vs 4)) (w_ei ws (w_ar ws (n_v vs 0) 2)) (w_fi ws (n_v vs 0) 5) (w_fi ws (n_v vs 0) 170) k1 k3 k4 d0 (shm_2 f0) f1 f2 f3 kz_0_170)⟩
  refine ⟨(fun _ h => (by cases h)), [], trivial, ?_, (fun _ h => (by cases h))⟩
  rw [List.append_nil]
  exact List.forall_mem_cons.mpr ⟨⟨show (20 : Nat) < 100 from by decide, nf0⟩, (fun _ h => (by cases h))⟩
set_option maxHeartbeats 4000000 in
theorem vc_Mo_writeEdges_2_0 (x1 : Int) (x3 : Int) (x4 : Int) (x5 : Int) (all_0 : Int → Int) (r_0 : Int) (texts_0 : Int) (gx : Int) (k1 : 0 ≤ x1 ∧ x1 ≤ 99997888) (k3 : 0 ≤ x3 ∧ x3 ≤ 47) (k4 : 1 ≤ x4 ∧ x4 ≤ 48) (k5 : 0 ≤ x5 ∧ x5 ≤ 23) (d0 : x4 + (-4294967296) ≤ x3 ∧ x3 ≤ x4 + (-1)) (f0 : x5 = all_0 (((r_0 + 267) + x3))) (f1 : x3 < x4) (f2 : 1 * x4 + ((-1) * all_0 (r_0 + 1) + 0) ≤ 0) (f3 : (-1) * x4 + (1 * all_0 (r_0 + 1) + 0) ≤ 0) (f4 : 1 * texts_0 + ((-1) * x1 + ((-44) * x3 + 0)) ≤ 0) (kz_0_170 : 0 ≤ texts_0 ∧ texts_0 ≤ 100000000) (ex2 : gx = texts_0) (ex3 : 0 ≤ gx ∧ gx ≤ 99999992) : 1 * texts_0 + ((-1) * gx + 0) ≤ 0 := by
  first | assumption | omega | grind
set_option maxHeartbeats 4000000 in
theorem vc_Mo_writeEdges_2_1 (x1 : Int) (x3 : Int) (x4 : Int) (x5 : Int) (all_0 : Int → Int) (r_0 : Int) (texts_0 : Int) (gx : Int) (k1 : 0 ≤ x1 ∧ x1 ≤ 99997888) (k3 : 0 ≤ x3 ∧ x3 ≤ 47) (k4 : 1 ≤ x4 ∧ x4 ≤ 48) (k5 : 0 ≤ x5 ∧ x5 ≤ 23) (d0 : x4 + (-4294967296) ≤ x3 ∧ x3 ≤ x4 + (-1)) (f0 : x5 = all_0 (((r_0 + 267) + x3))) (f1 : x3 < x4) (f2 : 1 * x4 + ((-1) * all_0 (r_0 + 1) + 0) ≤ 0) (f3 : (-1) * x4 + (1 * all_0 (r_0 + 1) + 0) ≤ 0) (f4 : 1 * texts_0 + ((-1) * x1 + ((-44) * x3 + 0)) ≤ 0) (kz_0_170 : 0 ≤ texts_0 ∧ texts_0 ≤ 100000000) (ex2 : gx = texts_0) (ex3 : 0 ≤ gx ∧ gx ≤ 99999992) : 1 * gx + ((-1) * x1 + ((-44) * x3 + 0)) ≤ 0 := by
  first | assumption | omega | grind
def o_Mo_writeEdges_2 : or_T := (16, 6, [(0, (2, 0, 0, [165])), (1, (0, 0, 99997888, [])), (2, (2, 0, 0, [165])), (3, (0, 0, 47, [])), (4, (0, 1, 48, [])), (5, (0, 0, 23, []))], [(20, [5, 2, 3], [50, 1, 1, 1005, 1002, 1, 2, 1, 0, 3, 1, 2, 4, 7, 4, 3, 2, 1, 5, 0, 267, 1, 2]), (7, [3, 4], [2]), (20, [4, 2], [30, 0, 1, 0, 0, -1, 3, 2005001]), (20, [4, 2], [30, 0, -1, 0, 0, 1, 3, 2005001]), (20, [2, 1, 3], [30, 0, 1, 1, 170, -1, 0, 0, -44, 0, 0]), (24, [0, 2], [])], [], [(0, 0, 99999992, [])], [(20, [2, 6], [30, 0, 1, 1, 170, -1, 0, 0]), (23, [6, 1, 3], [0, 1, -1, -44])], [], [(3, 4, -4294967296, -1)])
theorem oo_Mo_writeEdges_2 {kA : Nat → ClassId} : or_ok PRD kA GG o_Mo_writeEdges_2 := by
  refine or_mk fun A ta ws vs hD hth hl => ?_
  intro t0 r0 t1 k1 t2 r2 t3 k3 t4 k4 t5 k5 d0 f0 f1 f2 f3 f4 f5
  replace f0 := shm_735 f0
  replace f1 := shm_6 f1
  replace f2 := shm_130 f2
  replace f3 := shm_131 f3
  replace f4 := shm_1897 f4
  replace f5 := shm_5 f5
  have q2 : n_v vs 2 = n_v vs 0 := f5.symm
  simp only [q2] at f0 f2 f3 f4
  have cr_0_2 := fdq_12 hD hth r0
  have br_0_2_F5_1_0 : w_ei ws (w_ar ws (n_v vs 0) 2) (w_fi ws (n_v vs 0) 5 + 1) = w_el ws (w_ar ws (n_v vs 0) 2) (w_fi ws (n_v vs 0) 5 + 1).toNat := rfl
  have kz_0_170 := fdq_13 hD hth r0
  have kv0 := fdq_13 hD hth r0
  obtain ⟨x, ex, hx⟩ := iv_ex (ta := ta) (lo := 0) (hi := 99999992) (z := w_fi ws (n_v vs 0) 170) (by omega) (by omega) (by omega) (by omega)
  have ex2 : v_iv (Value.int x) = w_fi ws (n_v vs 0) 170 := ex
  have ex3 : 0 ≤ v_iv (Value.int x) ∧ v_iv (Value.int x) ≤ 99999992 := tv_rng hx
  have e_1 : n_v (vs ++ [Value.int x]) 1 = n_v vs 1 := n_v_old (by rw [hl]; decide)
  have e_2 : n_v (vs ++ [Value.int x]) 2 = n_v vs 2 := n_v_old (by rw [hl]; decide)
  have e_3 : n_v (vs ++ [Value.int x]) 3 = n_v vs 3 := n_v_old (by rw [hl]; decide)
  have e_6 : n_v (vs ++ [Value.int x]) 6 = Value.int x := n_v_new hl
  have nf0 : fc_1 PRD (20, [2, 6], [30, 0, 1, 1, 170, -1, 0, 0]) ws (vs ++ [Value.int x]) := by
    refine ⟨nf_inA hl rfl, sgq_140 ?_⟩
    · show 1 * w_fi ws (n_v (vs ++ [Value.int x]) 2) 170 + ((-1) * v_iv (n_v (vs ++ [Value.int x]) 6) + 0) ≤ 0
      simp only [e_2, e_6, q2]
      exact vc_Mo_writeEdges_2_0 (v_iv (n_v vs 1)) (v_iv (n_v vs 3)) (v_iv (n_v vs 4)) (v_iv (n_v vs 5)) (w_ei ws (w_ar ws (n_v vs 0) 2)) (w_fi ws (n_v vs 0) 5) (w_fi ws (n_v vs 0) 170) (v_iv (Value.int x)) k1 k3 k4 k5 d0 f0 f1 f2 f3 f4 kz_0_170 ex2 ex3
  have nf1 : fc_1 PRD (23, [6, 1, 3], [0, 1, -1, -44]) ws (vs ++ [Value.int x]) := by
    refine ⟨nf_inA hl rfl, sgq_1899 ?_⟩
    · show 1 * v_iv (n_v (vs ++ [Value.int x]) 6) + ((-1) * v_iv (n_v (vs ++ [Value.int x]) 1) + ((-44) * v_iv (n_v (vs ++ [Value.int x]) 3) + 0)) ≤ 0
      simp only [e_1, e_3, e_6]
      exact vc_Mo_writeEdges_2_1 (v_iv (n_v vs 1)) (v_iv (n_v vs 3)) (v_iv (n_v vs 4)) (v_iv (n_v vs 5)) (w_ei ws (w_ar ws (n_v vs 0) 2)) (w_fi ws (n_v vs 0) 5) (w_fi ws (n_v vs 0) 170) (v_iv (Value.int x)) k1 k3 k4 k5 d0 f0 f1 f2 f3 f4 kz_0_170 ex2 ex3
  exact ⟨(fun _ h => (by cases h)), [Value.int x], ag_one hx, List.forall_mem_cons.mpr ⟨⟨show (20 : Nat) < 100 from by decide, nf0⟩, List.forall_mem_cons.mpr ⟨⟨show (23 : Nat) < 100 from by decide, nf1⟩, (fun _ h => (by cases h))⟩⟩, (fun _ h => (by cases h))⟩
set_option maxHeartbeats 4000000 in
theorem vc_Mo_writeEdges_3_0 (x1 : Int) (x3 : Int) (x4 : Int) (x5 : Int) (x6 : Int) (all_0 : Int → Int) (r_0 : Int) (texts_0 : Int) (gx : Int) (k1 : 0 ≤ x1 ∧ x1 ≤ 99997888) (k3 : 0 ≤ x3 ∧ x3 ≤ 47) (k4 : 1 ≤ x4 ∧ x4 ≤ 48) (k5 : 0 ≤ x5 ∧ x5 ≤ 23) (k6 : 0 ≤ x6 ∧ x6 ≤ 99999992) (d0 : x4 + (-4294967296) ≤ x3 ∧ x3 ≤ x4 + (-1)) (f0 : 1 * x6 + ((-1) * x1 + ((-44) * x3 + 0)) ≤ 0) (f1 : x5 = all_0 (((r_0 + 267) + x3))) (f2 : 1 * x4 + ((-1) * all_0 (r_0 + 1) + 0) ≤ 0) (f3 : (-1) * x4 + (1 * all_0 (r_0 + 1) + 0) ≤ 0) (f5 : 1 * texts_0 + ((-1) * x6 + 0) ≤ 8) (f7 : 1 * x6 + ((-1) * x1 + ((-44) * x3 + 0)) ≤ 0) (f8 : x3 < x4) (kz_0_170 : 0 ≤ texts_0 ∧ texts_0 ≤ 100000000) (ex2 : gx = texts_0) (ex3 : 0 ≤ gx ∧ gx ≤ 99999997) : 1 * texts_0 + ((-1) * gx + 0) ≤ 0 := by
  first | assumption | omega | grind
set_option maxHeartbeats 4000000 in
theorem vc_Mo_writeEdges_3_1 (x1 : Int) (x3 : Int) (x4 : Int) (x5 : Int) (x6 : Int) (all_0 : Int → Int) (r_0 : Int) (texts_0 : Int) (gx : Int) (k1 : 0 ≤ x1 ∧ x1 ≤ 99997888) (k3 : 0 ≤ x3 ∧ x3 ≤ 47) (k4 : 1 ≤ x4 ∧ x4 ≤ 48) (k5 : 0 ≤ x5 ∧ x5 ≤ 23) (k6 : 0 ≤ x6 ∧ x6 ≤ 99999992) (d0 : x4 + (-4294967296) ≤ x3 ∧ x3 ≤ x4 + (-1)) (f0 : 1 * x6 + ((-1) * x1 + ((-44) * x3 + 0)) ≤ 0) (f1 : x5 = all_0 (((r_0 + 267) + x3))) (f2 : 1 * x4 + ((-1) * all_0 (r_0 + 1) + 0) ≤ 0) (f3 : (-1) * x4 + (1 * all_0 (r_0 + 1) + 0) ≤ 0) (f5 : 1 * texts_0 + ((-1) * x6 + 0) ≤ 8) (f7 : 1 * x6 + ((-1) * x1 + ((-44) * x3 + 0)) ≤ 0) (f8 : x3 < x4) (kz_0_170 : 0 ≤ texts_0 ∧ texts_0 ≤ 100000000) (ex2 : gx = texts_0) (ex3 : 0 ≤ gx ∧ gx ≤ 99999997) : 1 * gx + ((-1) * x1 + ((-44) * x3 + 0)) ≤ 8 := by
  first | assumption | omega | grind
def o_Mo_writeEdges_3 : or_T := (38, 10, [(0, (2, 0, 0, [165])), (1, (0, 0, 99997888, [])), (2, (2, 0, 0, [165])), (3, (0, 0, 47, [])), (4, (0, 1, 48, [])), (5, (0, 0, 23, [])), (6, (0, 0, 99999992, []))], [(23, [6, 1, 3], [0, 1, -1, -44]), (20, [5, 2, 3], [50, 1, 1, 1005, 1002, 1, 2, 1, 0, 3, 1, 2, 4, 7, 4, 3, 2, 1, 5, 0, 267, 1, 2]), (20, [4, 2], [30, 0, 1, 0, 0, -1, 3, 2005001]), (20, [4, 2], [30, 0, -1, 0, 0, 1, 3, 2005001]), (24, [0, 2], []), (20, [2, 6], [30, 8, 1, 1, 170, -1, 0, 0]), (102, [6], [7770675568902916283677847627294075626569627356208558085007249638955617140820833992704, 165170]), (23, [6, 1, 3], [0, 1, -1, -44]), (7, [3, 4], [2])], [], [(0, 0, 99999997, [])], [(20, [2, 10], [30, 0, 1, 1, 170, -1, 0, 0]), (23, [10, 1, 3], [8, 1, -1, -44])], [], [(3, 4, -4294967296, -1)])
theorem oo_Mo_writeEdges_3 {kA : Nat → ClassId} : or_ok PRD kA GG o_Mo_writeEdges_3 := by
  refine or_mk fun A ta ws vs hD hth hl => ?_
  intro t0 r0 t1 k1 t2 r2 t3 k3 t4 k4 t5 k5 t6 k6 d0 f0 f1 f2 f3 f4 f5 ta1 w1 le1 s1 f7 f8
  replace f0 := shm_1899 f0
  replace f1 := shm_735 f1
  replace f2 := shm_130 f2
  replace f3 := shm_131 f3
  replace f4 := shm_5 f4
  replace f5 := shm_172 f5
  replace f7 := shm_1899 f7
  replace f8 := shm_6 f8
  have q2 : n_v vs 2 = n_v vs 0 := f4.symm
  simp only [q2] at f1 f2 f3 f5
  have cr_0_2 := fdq_12 hD hth r0
  have br_0_2_F5_1_0 : w_ei ws (w_ar ws (n_v vs 0) 2) (w_fi ws (n_v vs 0) 5 + 1) = w_el ws (w_ar ws (n_v vs 0) 2) (w_fi ws (n_v vs 0) 5 + 1).toNat := rfl
  have kz_0_170 := fdq_13 hD hth r0
  have kv0 := fdq_13 hD hth r0
  obtain ⟨x, ex, hx⟩ := iv_ex (ta := ta) (lo := 0) (hi := 99999997) (z := w_fi ws (n_v vs 0) 170) (by omega) (by omega) (by omega) (by omega)
  have ex2 : v_iv (Value.int x) = w_fi ws (n_v vs 0) 170 := ex
  have ex3 : 0 ≤ v_iv (Value.int x) ∧ v_iv (Value.int x) ≤ 99999997 := tv_rng hx
  have e_1 : n_v (vs ++ [Value.int x]) 1 = n_v vs 1 := n_v_old (by rw [hl]; decide)
  have e_2 : n_v (vs ++ [Value.int x]) 2 = n_v vs 2 := n_v_old (by rw [hl]; decide)
  have e_3 : n_v (vs ++ [Value.int x]) 3 = n_v vs 3 := n_v_old (by rw [hl]; decide)
  have e_10 : n_v (vs ++ [Value.int x]) 10 = Value.int x := n_v_new hl
  have nf0 : fc_1 PRD (20, [2, 10], [30, 0, 1, 1, 170, -1, 0, 0]) ws (vs ++ [Value.int x]) := by
    refine ⟨nf_inA hl rfl, sgq_140 ?_⟩
    · show 1 * w_fi ws (n_v (vs ++ [Value.int x]) 2) 170 + ((-1) * v_iv (n_v (vs ++ [Value.int x]) 10) + 0) ≤ 0
      simp only [e_2, e_10, q2]
      exact vc_Mo_writeEdges_3_0 (v_iv (n_v vs 1)) (v_iv (n_v vs 3)) (v_iv (n_v vs 4)) (v_iv (n_v vs 5)) (v_iv (n_v vs 6)) (w_ei ws (w_ar ws (n_v vs 0) 2)) (w_fi ws (n_v vs 0) 5) (w_fi ws (n_v vs 0) 170) (v_iv (Value.int x)) k1 k3 k4 k5 k6 d0 f0 f1 f2 f3 f5 f7 f8 kz_0_170 ex2 ex3
  have nf1 : fc_1 PRD (23, [10, 1, 3], [8, 1, -1, -44]) ws (vs ++ [Value.int x]) := by
    refine ⟨nf_inA hl rfl, sgq_1900 ?_⟩
    · show 1 * v_iv (n_v (vs ++ [Value.int x]) 10) + ((-1) * v_iv (n_v (vs ++ [Value.int x]) 1) + ((-44) * v_iv (n_v (vs ++ [Value.int x]) 3) + 0)) ≤ 8
      simp only [e_1, e_3, e_10]
      exact vc_Mo_writeEdges_3_1 (v_iv (n_v vs 1)) (v_iv (n_v vs 3)) (v_iv (n_v vs 4)) (v_iv (n_v vs 5)) (v_iv (n_v vs 6)) (w_ei ws (w_ar ws (n_v vs 0) 2)) (w_fi ws (n_v vs 0) 5) (w_fi ws (n_v vs 0) 170) (v_iv (Value.int x)) k1 k3 k4 k5 k6 d0 f0 f1 f2 f3 f5 f7 f8 kz_0_170 ex2 ex3
  exact ⟨(fun _ h => (by cases h)), [Value.int x], ag_one hx, List.forall_mem_cons.mpr ⟨⟨show (20 : Nat) < 100 from by decide, nf0⟩, List.forall_mem_cons.mpr ⟨⟨show (23 : Nat) < 100 from by decide, nf1⟩, (fun _ h => (by cases h))⟩⟩, (fun _ h => (by cases h))⟩
set_option maxHeartbeats 4000000 in
theorem vc_Mo_writeEdges_4_0 (x1 : Int) (x3 : Int) (x4 : Int) (x5 : Int) (x6 : Int) (x10 : Int) (x11 : Int) (all_0 : Int → Int) (r_0 : Int) (texts_0 : Int) (gx : Int) (k1 : 0 ≤ x1 ∧ x1 ≤ 99997888) (k3 : 0 ≤ x3 ∧ x3 ≤ 47) (k4 : 1 ≤ x4 ∧ x4 ≤ 48) (k5 : 0 ≤ x5 ∧ x5 ≤ 23) (k6 : 0 ≤ x6 ∧ x6 ≤ 99999992) (k10 : 0 ≤ x10 ∧ x10 ≤ 99999997) (k11 : 0 ≤ x11 ∧ x11 ≤ 23) (d0 : x4 + (-4294967296) ≤ x3 ∧ x3 ≤ x4 + (-1)) (f0 : x11 = all_0 (((r_0 + 315) + x3))) (f1 : 1 * x10 + ((-1) * x1 + ((-44) * x3 + 0)) ≤ 8) (f2 : 1 * x6 + ((-1) * x1 + ((-44) * x3 + 0)) ≤ 0) (f3 : x5 = all_0 (((r_0 + 267) + x3))) (f4 : 1 * x4 + ((-1) * all_0 (r_0 + 1) + 0) ≤ 0) (f5 : (-1) * x4 + (1 * all_0 (r_0 + 1) + 0) ≤ 0) (f7 : 1 * texts_0 + ((-1) * x10 + 0) ≤ 3) (f9 : 1 * x10 + ((-1) * x1 + ((-44) * x3 + 0)) ≤ 8) (f10 : 1 * x6 + ((-1) * x1 + ((-44) * x3 + 0)) ≤ 0) (f12 : 1 * x6 + ((-1) * x1 + ((-44) * x3 + 0)) ≤ 0) (f13 : x3 < x4) (kz_0_170 : 0 ≤ texts_0 ∧ texts_0 ≤ 100000000) (ex2 : gx = texts_0) (ex3 : 0 ≤ gx ∧ gx ≤ 99999992) : 1 * texts_0 + ((-1) * gx + 0) ≤ 0 := by
  first | assumption | omega | grind
set_option maxHeartbeats 4000000 in
theorem vc_Mo_writeEdges_4_1 (x1 : Int) (x3 : Int) (x4 : Int) (x5 : Int) (x6 : Int) (x10 : Int) (x11 : Int) (all_0 : Int → Int) (r_0 : Int) (texts_0 : Int) (gx : Int) (k1 : 0 ≤ x1 ∧ x1 ≤ 99997888) (k3 : 0 ≤ x3 ∧ x3 ≤ 47) (k4 : 1 ≤ x4 ∧ x4 ≤ 48) (k5 : 0 ≤ x5 ∧ x5 ≤ 23) (k6 : 0 ≤ x6 ∧ x6 ≤ 99999992) (k10 : 0 ≤ x10 ∧ x10 ≤ 99999997) (k11 : 0 ≤ x11 ∧ x11 ≤ 23) (d0 : x4 + (-4294967296) ≤ x3 ∧ x3 ≤ x4 + (-1)) (f0 : x11 = all_0 (((r_0 + 315) + x3))) (f1 : 1 * x10 + ((-1) * x1 + ((-44) * x3 + 0)) ≤ 8) (f2 : 1 * x6 + ((-1) * x1 + ((-44) * x3 + 0)) ≤ 0) (f3 : x5 = all_0 (((r_0 + 267) + x3))) (f4 : 1 * x4 + ((-1) * all_0 (r_0 + 1) + 0) ≤ 0) (f5 : (-1) * x4 + (1 * all_0 (r_0 + 1) + 0) ≤ 0) (f7 : 1 * texts_0 + ((-1) * x10 + 0) ≤ 3) (f9 : 1 * x10 + ((-1) * x1 + ((-44) * x3 + 0)) ≤ 8) (f10 : 1 * x6 + ((-1) * x1 + ((-44) * x3 + 0)) ≤ 0) (f12 : 1 * x6 + ((-1) * x1 + ((-44) * x3 + 0)) ≤ 0) (f13 : x3 < x4) (kz_0_170 : 0 ≤ texts_0 ∧ texts_0 ≤ 100000000) (ex2 : gx = texts_0) (ex3 : 0 ≤ gx ∧ gx ≤ 99999992) : 1 * gx + ((-1) * x1 + ((-44) * x3 + 0)) ≤ 11 := by
  first | assumption | omega | grind
def o_Mo_writeEdges_4 : or_T := (47, 12, [(0, (2, 0, 0, [165])), (1, (0, 0, 99997888, [])), (2, (2, 0, 0, [165])), (3, (0, 0, 47, [])), (4, (0, 1, 48, [])), (5, (0, 0, 23, [])), (6, (0, 0, 99999992, [])), (10, (0, 0, 99999997, [])), (11, (0, 0, 23, []))], [(20, [11, 2, 3], [50, 1, 1, 1005, 1002, 1, 2, 1, 0, 3, 1, 2, 4, 7, 4, 3, 2, 1, 5, 0, 315, 1, 2]), (23, [10, 1, 3], [8, 1, -1, -44]), (23, [6, 1, 3], [0, 1, -1, -44]), (20, [5, 2, 3], [50, 1, 1, 1005, 1002, 1, 2, 1, 0, 3, 1, 2, 4, 7, 4, 3, 2, 1, 5, 0, 267, 1, 2]), (20, [4, 2], [30, 0, 1, 0, 0, -1, 3, 2005001]), (20, [4, 2], [30, 0, -1, 0, 0, 1, 3, 2005001]), (24, [0, 2], []), (20, [2, 10], [30, 3, 1, 1, 170, -1, 0, 0]), (102, [10], [7770675568902916283677847627294075626569627356208558085007249638955617140820833992704, 165170]), (23, [10, 1, 3], [8, 1, -1, -44]), (23, [6, 1, 3], [0, 1, -1, -44]), (102, [6], [7770675568902916283677847627294075626569627356208558085007249638955617140820833992704, 165170]), (23, [6, 1, 3], [0, 1, -1, -44]), (7, [3, 4], [2])], [], [(0, 0, 99999992, [])], [(20, [2, 12], [30, 0, 1, 1, 170, -1, 0, 0]), (23, [12, 1, 3], [11, 1, -1, -44])], [], [(3, 4, -4294967296, -1)])
theorem oo_Mo_writeEdges_4 {kA : Nat → ClassId} : or_ok PRD kA GG o_Mo_writeEdges_4 := by
  refine or_mk fun A ta ws vs hD hth hl => ?_
  intro t0 r0 t1 k1 t2 r2 t3 k3 t4 k4 t5 k5 t6 k6 t10 k10 t11 k11 d0 f0 f1 f2 f3 f4 f5 f6 f7 ta1 w1 le1 s1 f9 f10 ta2 w2 le2 s2 f12 f13
  replace f0 := shm_591 f0
  replace f1 := shm_1900 f1
  replace f2 := shm_1899 f2
  replace f3 := shm_735 f3
  replace f4 := shm_130 f4
  replace f5 := shm_131 f5
  replace f6 := shm_5 f6
  replace f7 := shm_236 f7
  replace f9 := shm_1900 f9
  replace f10 := shm_1899 f10
  replace f12 := shm_1899 f12
  replace f13 := shm_6 f13
  have q2 : n_v vs 2 = n_v vs 0 := f6.symm
  simp only [q2] at f0 f3 f4 f5 f7
  have cr_0_2 := fdq_12 hD hth r0
  have br_0_2_F5_1_0 : w_ei ws (w_ar ws (n_v vs 0) 2) (w_fi ws (n_v vs 0) 5 + 1) = w_el ws (w_ar ws (n_v vs 0) 2) (w_fi ws (n_v vs 0) 5 + 1).toNat := rfl
  have kz_0_170 := fdq_13 hD hth r0
  have kv0 := fdq_13 hD hth r0
  obtain ⟨x, ex, hx⟩ := iv_ex (ta := ta) (lo := 0) (hi := 99999992) (z := w_fi ws (n_v vs 0) 170) (by omega) (by omega) (by omega) (by omega)
  have ex2 : v_iv (Value.int x) = w_fi ws (n_v vs 0) 170 := ex
  have ex3 : 0 ≤ v_iv (Value.int x) ∧ v_iv (Value.int x) ≤ 99999992 := tv_rng hx
  have e_1 : n_v (vs ++ [Value.int x]) 1 = n_v vs 1 := n_v_old (by rw [hl]; decide)
  have e_2 : n_v (vs ++ [Value.int x]) 2 = n_v vs 2 := n_v_old (by rw [hl]; decide)
  have e_3 : n_v (vs ++ [Value.int x]) 3 = n_v vs 3 := n_v_old (by rw [hl]; decide)
  have e_12 : n_v (vs ++ [Value.int x]) 12 = Value.int x := n_v_new hl
  have nf0 : fc_1 PRD (20, [2, 12], [30, 0, 1, 1, 170, -1, 0, 0]) ws (vs ++ [Value.int x]) := by
    refine ⟨nf_inA hl rfl, sgq_140 ?_⟩
    · show 1 * w_fi ws (n_v (vs ++ [Value.int x]) 2) 170 + ((-1) * v_iv (n_v (vs ++ [Value.int x]) 12) + 0) ≤ 0
      simp only [e_2, e_12, q2]
      exact vc_Mo_writeEdges_4_0 (v_iv (n_v vs 1)) (v_iv (n_v vs 3)) (v_iv (n_v vs 4)) (v_iv (n_v vs 5)) (v_iv (n_v vs 6)) (v_iv (n_v vs 10)) (v_iv (n_v vs 11)) (w_ei ws (w_ar ws (n_v vs 0) 2)) (w_fi ws (n_v vs 0) 5) (w_fi ws (n_v vs 0) 170) (v_iv (Value.int x)) k1 k3 k4 k5 k6 k10 k11 d0 f0 f1 f2 f3 f4 f5 f7 f9 f10 f12 f13 kz_0_170 ex2 ex3
  have nf1 : fc_1 PRD (23, [12, 1, 3], [11, 1, -1, -44]) ws (vs ++ [Value.int x]) := by
    refine ⟨nf_inA hl rfl, sgq_1901 ?_⟩
    · show 1 * v_iv (n_v (vs ++ [Value.int x]) 12) + ((-1) * v_iv (n_v (vs ++ [Value.int x]) 1) + ((-44) * v_iv (n_v (vs ++ [Value.int x]) 3) + 0)) ≤ 11
      simp only [e_1, e_3, e_12]
      exact vc_Mo_writeEdges_4_1 (v_iv (n_v vs 1)) (v_iv (n_v vs 3)) (v_iv (n_v vs 4)) (v_iv (n_v vs 5)) (v_iv (n_v vs 6)) (v_iv (n_v vs 10)) (v_iv (n_v vs 11)) (w_ei ws (w_ar ws (n_v vs 0) 2)) (w_fi ws (n_v vs 0) 5) (w_fi ws (n_v vs 0) 170) (v_iv (Value.int x)) k1 k3 k4 k5 k6 k10 k11 d0 f0 f1 f2 f3 f4 f5 f7 f9 f10 f12 f13 kz_0_170 ex2 ex3
  exact ⟨(fun _ h => (by cases h)), [Value.int x], ag_one hx, List.forall_mem_cons.mpr ⟨⟨show (20 : Nat) < 100 from by decide, nf0⟩, List.forall_mem_cons.mpr ⟨⟨show (23 : Nat) < 100 from by decide, nf1⟩, (fun _ h => (by cases h))⟩⟩, (fun _ h => (by cases h))⟩
set_option maxHeartbeats 4000000 in
theorem vc_Mo_writeEdges_5_0 (x1 : Int) (x3 : Int) (x4 : Int) (x5 : Int) (x6 : Int) (x10 : Int) (x11 : Int) (x12 : Int) (all_0 : Int → Int) (r_0 : Int) (texts_0 : Int) (gx : Int) (k1 : 0 ≤ x1 ∧ x1 ≤ 99997888) (k3 : 0 ≤ x3 ∧ x3 ≤ 47) (k4 : 1 ≤ x4 ∧ x4 ≤ 48) (k5 : 0 ≤ x5 ∧ x5 ≤ 23) (k6 : 0 ≤ x6 ∧ x6 ≤ 99999992) (k10 : 0 ≤ x10 ∧ x10 ≤ 99999997) (k11 : 0 ≤ x11 ∧ x11 ≤ 23) (k12 : 0 ≤ x12 ∧ x12 ≤ 99999992) (d0 : x4 + (-4294967296) ≤ x3 ∧ x3 ≤ x4 + (-1)) (f0 : 1 * x12 + ((-1) * x1 + ((-44) * x3 + 0)) ≤ 11) (f1 : x11 = all_0 (((r_0 + 315) + x3))) (f2 : 1 * x10 + ((-1) * x1 + ((-44) * x3 + 0)) ≤ 8) (f3 : 1 * x6 + ((-1) * x1 + ((-44) * x3 + 0)) ≤ 0) (f4 : x5 = all_0 (((r_0 + 267) + x3))) (f5 : 1 * x4 + ((-1) * all_0 (r_0 + 1) + 0) ≤ 0) (f6 : (-1) * x4 + (1 * all_0 (r_0 + 1) + 0) ≤ 0) (f8 : 1 * texts_0 + ((-1) * x12 + 0) ≤ 8) (f10 : 1 * x12 + ((-1) * x1 + ((-44) * x3 + 0)) ≤ 11) (f11 : 1 * x10 + ((-1) * x1 + ((-44) * x3 + 0)) ≤ 8) (f12 : 1 * x6 + ((-1) * x1 + ((-44) * x3 + 0)) ≤ 0) (f14 : 1 * x10 + ((-1) * x1 + ((-44) * x3 + 0)) ≤ 8) (f15 : 1 * x6 + ((-1) * x1 + ((-44) * x3 + 0)) ≤ 0) (f17 : 1 * x6 + ((-1) * x1 + ((-44) * x3 + 0)) ≤ 0) (f18 : x3 < x4) (kz_0_170 : 0 ≤ texts_0 ∧ texts_0 ≤ 100000000) (ex2 : gx = texts_0) (ex3 : 0 ≤ gx ∧ gx ≤ 99999998) : 1 * texts_0 + ((-1) * gx + 0) ≤ 0 := by
  first | assumption | omega | grind
set_option maxHeartbeats 4000000 in
theorem vc_Mo_writeEdges_5_1 (x1 : Int) (x3 : Int) (x4 : Int) (x5 : Int) (x6 : Int) (x10 : Int) (x11 : Int) (x12 : Int) (all_0 : Int → Int) (r_0 : Int) (texts_0 : Int) (gx : Int) (k1 : 0 ≤ x1 ∧ x1 ≤ 99997888) (k3 : 0 ≤ x3 ∧ x3 ≤ 47) (k4 : 1 ≤ x4 ∧ x4 ≤ 48) (k5 : 0 ≤ x5 ∧ x5 ≤ 23) (k6 : 0 ≤ x6 ∧ x6 ≤ 99999992) (k10 : 0 ≤ x10 ∧ x10 ≤ 99999997) (k11 : 0 ≤ x11 ∧ x11 ≤ 23) (k12 : 0 ≤ x12 ∧ x12 ≤ 99999992) (d0 : x4 + (-4294967296) ≤ x3 ∧ x3 ≤ x4 + (-1)) (f0 : 1 * x12 + ((-1) * x1 + ((-44) * x3 + 0)) ≤ 11) (f1 : x11 = all_0 (((r_0 + 315) + x3))) (f2 : 1 * x10 + ((-1) * x1 + ((-44) * x3 + 0)) ≤ 8) (f3 : 1 * x6 + ((-1) * x1 + ((-44) * x3 + 0)) ≤ 0) (f4 : x5 = all_0 (((r_0 + 267) + x3))) (f5 : 1 * x4 + ((-1) * all_0 (r_0 + 1) + 0) ≤ 0) (f6 : (-1) * x4 + (1 * all_0 (r_0 + 1) + 0) ≤ 0) (f8 : 1 * texts_0 + ((-1) * x12 + 0) ≤ 8) (f10 : 1 * x12 + ((-1) * x1 + ((-44) * x3 + 0)) ≤ 11) (f11 : 1 * x10 + ((-1) * x1 + ((-44) * x3 + 0)) ≤ 8) (f12 : 1 * x6 + ((-1) * x1 + ((-44) * x3 + 0)) ≤ 0) (f14 : 1 * x10 + ((-1) * x1 + ((-44) * x3 + 0)) ≤ 8) (f15 : 1 * x6 + ((-1) * x1 + ((-44) * x3 + 0)) ≤ 0) (f17 : 1 * x6 + ((-1) * x1 + ((-44) * x3 + 0)) ≤ 0) (f18 : x3 < x4) (kz_0_170 : 0 ≤ texts_0 ∧ texts_0 ≤ 100000000) (ex2 : gx = texts_0) (ex3 : 0 ≤ gx ∧ gx ≤ 99999998) : 1 * gx + ((-1) * x1 + ((-44) * x3 + 0)) ≤ 42 := by
  first | assumption | omega | grind
def o_Mo_writeEdges_5 : or_T := (86, 16, [(0, (2, 0, 0, [165])), (1, (0, 0, 99997888, [])), (2, (2, 0, 0, [165])), (3, (0, 0, 47, [])), (4, (0, 1, 48, [])), (5, (0, 0, 23, [])), (6, (0, 0, 99999992, [])), (10, (0, 0, 99999997, [])), (11, (0, 0, 23, [])), (12, (0, 0, 99999992, []))], [(23, [12, 1, 3], [11, 1, -1, -44]), (20, [11, 2, 3], [50, 1, 1, 1005, 1002, 1, 2, 1, 0, 3, 1, 2, 4, 7, 4, 3, 2, 1, 5, 0, 315, 1, 2]), (23, [10, 1, 3], [8, 1, -1, -44]), (23, [6, 1, 3], [0, 1, -1, -44]), (20, [5, 2, 3], [50, 1, 1, 1005, 1002, 1, 2, 1, 0, 3, 1, 2, 4, 7, 4, 3, 2, 1, 5, 0, 267, 1, 2]), (20, [4, 2], [30, 0, 1, 0, 0, -1, 3, 2005001]), (20, [4, 2], [30, 0, -1, 0, 0, 1, 3, 2005001]), (24, [0, 2], []), (20, [2, 12], [30, 8, 1, 1, 170, -1, 0, 0]), (102, [12], [7770675568902916283677847627294075626569627356208558085007249638955617140820833992704, 165170]), (23, [12, 1, 3], [11, 1, -1, -44]), (23, [10, 1, 3], [8, 1, -1, -44]), (23, [6, 1, 3], [0, 1, -1, -44]), (102, [10], [7770675568902916283677847627294075626569627356208558085007249638955617140820833992704, 165170]), (23, [10, 1, 3], [8, 1, -1, -44]), (23, [6, 1, 3], [0, 1, -1, -44]), (102, [6], [7770675568902916283677847627294075626569627356208558085007249638955617140820833992704, 165170]), (23, [6, 1, 3], [0, 1, -1, -44]), (7, [3, 4], [2])], [], [(0, 0, 99999998, [])], [(20, [2, 16], [30, 0, 1, 1, 170, -1, 0, 0]), (23, [16, 1, 3], [42, 1, -1, -44])], [], [(3, 4, -4294967296, -1)])
theorem oo_Mo_writeEdges_5 {kA : Nat → ClassId} : or_ok PRD kA GG o_Mo_writeEdges_5 := by
  refine or_mk fun A ta ws vs hD hth hl => ?_
  intro t0 r0 t1 k1 t2 r2 t3 k3 t4 k4 t5 k5 t6 k6 t10 k10 t11 k11 t12 k12 d0 f0 f1 f2 f3 f4 f5 f6 f7 f8 ta1 w1 le1 s1 f10 f11 f12 ta2 w2 le2 s2 f14 f15 ta3 w3 le3 s3 f17 f18
  replace f0 := shm_1901 f0
  replace f1 := shm_591 f1
  replace f2 := shm_1900 f2
  replace f3 := shm_1899 f3
  replace f4 := shm_735 f4
  replace f5 := shm_130 f5
  replace f6 := shm_131 f6
  replace f7 := shm_5 f7
  replace f8 := shm_172 f8
  replace f10 := shm_1901 f10
  replace f11 := shm_1900 f11
  replace f12 := shm_1899 f12
  replace f14 := shm_1900 f14
  replace f15 := shm_1899 f15
  replace f17 := shm_1899 f17
  replace f18 := shm_6 f18
  have q2 : n_v vs 2 = n_v vs 0 := f7.symm
  simp only [q2] at f1 f4 f5 f6 f8
  have cr_0_2 := fdq_12 hD hth r0
  have br_0_2_F5_1_0 : w_ei ws (w_ar ws (n_v vs 0) 2) (w_fi ws (n_v vs 0) 5 + 1) = w_el ws (w_ar ws (n_v vs 0) 2) (w_fi ws (n_v vs 0) 5 + 1).toNat := rfl
  have kz_0_170 := fdq_13 hD hth r0
  have kv0 := fdq_13 hD hth r0
  obtain ⟨x, ex, hx⟩ := iv_ex (ta := ta) (lo := 0) (hi := 99999998) (z := w_fi ws (n_v vs 0) 170) (by omega) (by omega) (by omega) (by omega)
  have ex2 : v_iv (Value.int x) = w_fi ws (n_v vs 0) 170 := ex
  have ex3 : 0 ≤ v_iv (Value.int x) ∧ v_iv (Value.int x) ≤ 99999998 := tv_rng hx
  have e_1 : n_v (vs ++ [Value.int x]) 1 = n_v vs 1 := n_v_old (by rw [hl]; decide)
  have e_2 : n_v (vs ++ [Value.int x]) 2 = n_v vs 2 := n_v_old (by rw [hl]; decide)
  have e_3 : n_v (vs ++ [Value.int x]) 3 = n_v vs 3 := n_v_old (by rw [hl]; decide)
  have e_16 : n_v (vs ++ [Value.int x]) 16 = Value.int x := n_v_new hl
  have nf0 : fc_1 PRD (20, [2, 16], [30, 0, 1, 1, 170, -1, 0, 0]) ws (vs ++ [Value.int x]) := by
    refine ⟨nf_inA hl rfl, sgq_140 ?_⟩
    · show 1 * w_fi ws (n_v (vs ++ [Value.int x]) 2) 170 + ((-1) * v_iv (n_v (vs ++ [Value.int x]) 16) + 0) ≤ 0
      simp only [e_2, e_16, q2]
      exact vc_Mo_writeEdges_5_0 (v_iv (n_v vs 1)) (v_iv (n_v vs 3)) (v_iv (n_v vs 4)) (v_iv (n_v vs 5)) (v_iv (n_v vs 6)) (v_iv (n_v vs 10)) (v_iv (n_v vs 11)) (v_iv (n_v vs 12)) (w_ei ws (w_ar ws (n_v vs 0) 2)) (w_fi ws (n_v vs 0) 5) (w_fi ws (n_v vs 0) 170) (v_iv (Value.int x)) k1 k3 k4 k5 k6 k10 k11 k12 d0 f0 f1 f2 f3 f4 f5 f6 f8 f10 f11 f12 f14 f15 f17 f18 kz_0_170 ex2 ex3
  have nf1 : fc_1 PRD (23, [16, 1, 3], [42, 1, -1, -44]) ws (vs ++ [Value.int x]) := by
    refine ⟨nf_inA hl rfl, sgq_1902 ?_⟩
    · show 1 * v_iv (n_v (vs ++ [Value.int x]) 16) + ((-1) * v_iv (n_v (vs ++ [Value.int x]) 1) + ((-44) * v_iv (n_v (vs ++ [Value.int x]) 3) + 0)) ≤ 42
      simp only [e_1, e_3, e_16]
      exact vc_Mo_writeEdges_5_1 (v_iv (n_v vs 1)) (v_iv (n_v vs 3)) (v_iv (n_v vs 4)) (v_iv (n_v vs 5)) (v_iv (n_v vs 6)) (v_iv (n_v vs 10)) (v_iv (n_v vs 11)) (v_iv (n_v vs 12)) (w_ei ws (w_ar ws (n_v vs 0) 2)) (w_fi ws (n_v vs 0) 5) (w_fi ws (n_v vs 0) 170) (v_iv (Value.int x)) k1 k3 k4 k5 k6 k10 k11 k12 d0 f0 f1 f2 f3 f4 f5 f6 f8 f10 f11 f12 f14 f15 f17 f18 kz_0_170 ex2 ex3
  exact ⟨(fun _ h => (by cases h)), [Value.int x], ag_one hx, List.forall_mem_cons.mpr ⟨⟨show (20 : Nat) < 100 from by decide, nf0⟩, List.forall_mem_cons.mpr ⟨⟨show (23 : Nat) < 100 from by decide, nf1⟩, (fun _ h => (by cases h))⟩⟩, (fun _ h => (by cases h))⟩
set_option maxHeartbeats 4000000 in
theorem vc_Mo_writeEdges_6_0 (x1 : Int) (x3 : Int) (x4 : Int) (x5 : Int) (x6 : Int) (x10 : Int) (x11 : Int) (x12 : Int) (x16 : Int) (x17 : Int) (all_0 : Int → Int) (r_0 : Int) (texts_0 : Int) (k1 : 0 ≤ x1 ∧ x1 ≤ 99997888) (k3 : 0 ≤ x3 ∧ x3 ≤ 47) (k4 : 1 ≤ x4 ∧ x4 ≤ 48) (k5 : 0 ≤ x5 ∧ x5 ≤ 23) (k6 : 0 ≤ x6 ∧ x6 ≤ 99999992) (k10 : 0 ≤ x10 ∧ x10 ≤ 99999997) (k11 : 0 ≤ x11 ∧ x11 ≤ 23) (k12 : 0 ≤ x12 ∧ x12 ≤ 99999992) (k16 : 0 ≤ x16 ∧ x16 ≤ 99999998) (k17 : 1 ≤ x17 ∧ x17 ≤ 48) (d0 : x3 + 1 ≤ x17 ∧ x17 ≤ x3 + 1) (d1 : x4 + (-4294967296) ≤ x17 ∧ x17 ≤ x4 + 0) (d2 : x4 + (-4294967296) ≤ x3 ∧ x3 ≤ x4 + (-1)) (f0 : x17 = x3 + 1) (f1 : 1 * x16 + ((-1) * x1 + ((-44) * x3 + 0)) ≤ 42) (f2 : 1 * x12 + ((-1) * x1 + ((-44) * x3 + 0)) ≤ 11) (f3 : x11 = all_0 (((r_0 + 315) + x3))) (f4 : 1 * x10 + ((-1) * x1 + ((-44) * x3 + 0)) ≤ 8) (f5 : 1 * x6 + ((-1) * x1 + ((-44) * x3 + 0)) ≤ 0) (f6 : x5 = all_0 (((r_0 + 267) + x3))) (f7 : 1 * x4 + ((-1) * all_0 (r_0 + 1) + 0) ≤ 0) (f8 : (-1) * x4 + (1 * all_0 (r_0 + 1) + 0) ≤ 0) (f10 : 1 * texts_0 + ((-1) * x16 + 0) ≤ 2) (f12 : 1 * x16 + ((-1) * x1 + ((-44) * x3 + 0)) ≤ 42) (f13 : 1 * x12 + ((-1) * x1 + ((-44) * x3 + 0)) ≤ 11) (f14 : 1 * x10 + ((-1) * x1 + ((-44) * x3 + 0)) ≤ 8) (f15 : 1 * x6 + ((-1) * x1 + ((-44) * x3 + 0)) ≤ 0) (f17 : 1 * x12 + ((-1) * x1 + ((-44) * x3 + 0)) ≤ 11) (f18 : 1 * x10 + ((-1) * x1 + ((-44) * x3 + 0)) ≤ 8) (f19 : 1 * x6 + ((-1) * x1 + ((-44) * x3 + 0)) ≤ 0) (f21 : 1 * x10 + ((-1) * x1 + ((-44) * x3 + 0)) ≤ 8) (f22 : 1 * x6 + ((-1) * x1 + ((-44) * x3 + 0)) ≤ 0) (f24 : 1 * x6 + ((-1) * x1 + ((-44) * x3 + 0)) ≤ 0) (f25 : x3 < x4) (kz_0_170 : 0 ≤ texts_0 ∧ texts_0 ≤ 100000000) : 1 * texts_0 + ((-1) * x1 + ((-44) * x17 + 0)) ≤ 0 := by
  first | assumption | omega | grind
def o_Mo_writeEdges_6 : or_T := (2, 18, [(0, (2, 0, 0, [165])), (1, (0, 0, 99997888, [])), (3, (0, 0, 47, [])), (4, (0, 1, 48, [])), (5, (0, 0, 23, [])), (6, (0, 0, 99999992, [])), (10, (0, 0, 99999997, [])), (11, (0, 0, 23, [])), (12, (0, 0, 99999992, [])), (16, (0, 0, 99999998, [])), (17, (0, 1, 48, []))], [(6, [17, 3], [1]), (23, [16, 1, 3], [42, 1, -1, -44]), (23, [12, 1, 3], [11, 1, -1, -44]), (20, [11, 2, 3], [50, 1, 1, 1005, 1002, 1, 2, 1, 0, 3, 1, 2, 4, 7, 4, 3, 2, 1, 5, 0, 315, 1, 2]), (23, [10, 1, 3], [8, 1, -1, -44]), (23, [6, 1, 3], [0, 1, -1, -44]), (20, [5, 2, 3], [50, 1, 1, 1005, 1002, 1, 2, 1, 0, 3, 1, 2, 4, 7, 4, 3, 2, 1, 5, 0, 267, 1, 2]), (20, [4, 2], [30, 0, 1, 0, 0, -1, 3, 2005001]), (20, [4, 2], [30, 0, -1, 0, 0, 1, 3, 2005001]), (24, [0, 2], []), (20, [2, 16], [30, 2, 1, 1, 170, -1, 0, 0]), (102, [16], [7770675568902916283677847627294075626569627356208558085007249638955617140820833992704, 165170]), (23, [16, 1, 3], [42, 1, -1, -44]), (23, [12, 1, 3], [11, 1, -1, -44]), (23, [10, 1, 3], [8, 1, -1, -44]), (23, [6, 1, 3], [0, 1, -1, -44]), (102, [12], [7770675568902916283677847627294075626569627356208558085007249638955617140820833992704, 165170]), (23, [12, 1, 3], [11, 1, -1, -44]), (23, [10, 1, 3], [8, 1, -1, -44]), (23, [6, 1, 3], [0, 1, -1, -44]), (102, [10], [7770675568902916283677847627294075626569627356208558085007249638955617140820833992704, 165170]), (23, [10, 1, 3], [8, 1, -1, -44]), (23, [6, 1, 3], [0, 1, -1, -44]), (102, [6], [7770675568902916283677847627294075626569627356208558085007249638955617140820833992704, 165170]), (23, [6, 1, 3], [0, 1, -1, -44]), (7, [3, 4], [2])], [], [], [(20, [2, 1, 17], [30, 0, 1, 1, 170, -1, 0, 0, -44, 0, 0])], [], [(17, 3, 1, 1), (17, 4, -4294967296, 0), (3, 4, -4294967296, -1)])
theorem oo_Mo_writeEdges_6 {kA : Nat → ClassId} : or_ok PRD kA GG o_Mo_writeEdges_6 := by
  refine or_mk fun A ta ws vs hD hth hl => ?_
  intro t0 r0 t1 k1 t3 k3 t4 k4 t5 k5 t6 k6 t10 k10 t11 k11 t12 k12 t16 k16 t17 k17 d0 d1 d2 f0 f1 f2 f3 f4 f5 f6 f7 f8 f9 f10 ta1 w1 le1 s1 f12 f13 f14 f15 ta2 w2 le2 s2 f17 f18 f19 ta3 w3 le3 s3 f21 f22 ta4 w4 le4 s4 f24 f25
  replace f0 := shm_4 f0
  replace f1 := shm_1902 f1
  replace f2 := shm_1901 f2
  replace f3 := shm_591 f3
  replace f4 := shm_1900 f4
  replace f5 := shm_1899 f5
  replace f6 := shm_735 f6
  replace f7 := shm_130 f7
  replace f8 := shm_131 f8
  replace f9 := shm_5 f9
  replace f10 := shm_234 f10
  replace f12 := shm_1902 f12
  replace f13 := shm_1901 f13
  replace f14 := shm_1900 f14
  replace f15 := shm_1899 f15
  replace f17 := shm_1901 f17
  replace f18 := shm_1900 f18
  replace f19 := shm_1899 f19
  replace f21 := shm_1900 f21
  replace f22 := shm_1899 f22
  replace f24 := shm_1899 f24
  replace f25 := shm_6 f25
  have q2 : n_v vs 2 = n_v vs 0 := f9.symm
  simp only [q2] at f3 f6 f7 f8 f10
  have kz_0_170 := fdq_13 hD hth r0
  have nf0 : fc_1 PRD (20, [2, 1, 17], [30, 0, 1, 1, 170, -1, 0, 0, -44, 0, 0]) ws (vs) := by
    refine ⟨nf_in hl rfl, sgq_1897 ?_⟩
    · show 1 * w_fi ws (n_v vs 2) 170 + ((-1) * v_iv (n_v vs 1) + ((-44) * v_iv (n_v vs 17) + 0)) ≤ 0
      rw [q2]
      exact vc_Mo_writeEdges_6_0 (v_iv (n_v vs 1)) (v_iv (n_v vs 3)) (v_iv (n_v vs 4)) (v_iv (n_v vs 5)) (v_iv (n_v vs 6)) (v_iv (n_v vs 10)) (v_iv (n_v vs 11)) (v_iv (n_v vs 12)) (v_iv (n_v vs 16)) (v_iv (n_v vs 17)) (w_ei ws (w_ar ws (n_v vs 0) 2)) (w_fi ws (n_v vs 0) 5) (w_fi ws (n_v vs 0) 170) k1 k3 k4 k5 k6 k10 k11 k12 k16 k17 d0 d1 d2 f0 f1 f2 f3 f4 f5 f6 f7 f8 f10 f12 f13 f14 f15 f17 f18 f19 f21 f22 f24 f25 kz_0_170
  refine ⟨(fun _ h => (by cases h)), [], trivial, ?_, (fun _ h => (by cases h))⟩
  rw [List.append_nil]
  exact List.forall_mem_cons.mpr ⟨⟨show (20 : Nat) < 100 from by decide, nf0⟩, (fun _ h => (by cases h))⟩
set_option maxHeartbeats 4000000 in
theorem vc_Mo_writeEdges_7_0 (x1 : Int) (x3 : Int) (x4 : Int) (x5 : Int) (x6 : Int) (x10 : Int) (x11 : Int) (x12 : Int) (all_0 : Int → Int) (r_0 : Int) (texts_0 : Int) (gx : Int) (k1 : 0 ≤ x1 ∧ x1 ≤ 99997888) (k3 : 0 ≤ x3 ∧ x3 ≤ 47) (k4 : 1 ≤ x4 ∧ x4 ≤ 48) (k5 : 0 ≤ x5 ∧ x5 ≤ 23) (k6 : 0 ≤ x6 ∧ x6 ≤ 99999992) (k10 : 0 ≤ x10 ∧ x10 ≤ 99999997) (k11 : 0 ≤ x11 ∧ x11 ≤ 23) (k12 : 0 ≤ x12 ∧ x12 ≤ 99999992) (d0 : x4 + (-4294967296) ≤ x3 ∧ x3 ≤ x4 + (-1)) (f0 : 1 * x12 + ((-1) * x1 + ((-44) * x3 + 0)) ≤ 11) (f1 : x11 = all_0 (((r_0 + 315) + x3))) (f2 : 1 * x10 + ((-1) * x1 + ((-44) * x3 + 0)) ≤ 8) (f3 : 1 * x6 + ((-1) * x1 + ((-44) * x3 + 0)) ≤ 0) (f4 : x5 = all_0 (((r_0 + 267) + x3))) (f5 : 1 * x4 + ((-1) * all_0 (r_0 + 1) + 0) ≤ 0) (f6 : (-1) * x4 + (1 * all_0 (r_0 + 1) + 0) ≤ 0) (f8 : 1 * texts_0 + ((-1) * x12 + 0) ≤ 8) (f10 : 1 * x12 + ((-1) * x1 + ((-44) * x3 + 0)) ≤ 11) (f11 : 1 * x10 + ((-1) * x1 + ((-44) * x3 + 0)) ≤ 8) (f12 : 1 * x6 + ((-1) * x1 + ((-44) * x3 + 0)) ≤ 0) (f14 : 1 * x10 + ((-1) * x1 + ((-44) * x3 + 0)) ≤ 8) (f15 : 1 * x6 + ((-1) * x1 + ((-44) * x3 + 0)) ≤ 0) (f17 : 1 * x6 + ((-1) * x1 + ((-44) * x3 + 0)) ≤ 0) (f18 : x3 < x4) (kz_0_170 : 0 ≤ texts_0 ∧ texts_0 ≤ 100000000) (ex2 : gx = texts_0) (ex3 : 0 ≤ gx ∧ gx ≤ 99999991) : 1 * texts_0 + ((-1) * gx + 0) ≤ 0 := by
  first | assumption | omega | grind
set_option maxHeartbeats 4000000 in
theorem vc_Mo_writeEdges_7_1 (x1 : Int) (x3 : Int) (x4 : Int) (x5 : Int) (x6 : Int) (x10 : Int) (x11 : Int) (x12 : Int) (all_0 : Int → Int) (r_0 : Int) (texts_0 : Int) (gx : Int) (k1 : 0 ≤ x1 ∧ x1 ≤ 99997888) (k3 : 0 ≤ x3 ∧ x3 ≤ 47) (k4 : 1 ≤ x4 ∧ x4 ≤ 48) (k5 : 0 ≤ x5 ∧ x5 ≤ 23) (k6 : 0 ≤ x6 ∧ x6 ≤ 99999992) (k10 : 0 ≤ x10 ∧ x10 ≤ 99999997) (k11 : 0 ≤ x11 ∧ x11 ≤ 23) (k12 : 0 ≤ x12 ∧ x12 ≤ 99999992) (d0 : x4 + (-4294967296) ≤ x3 ∧ x3 ≤ x4 + (-1)) (f0 : 1 * x12 + ((-1) * x1 + ((-44) * x3 + 0)) ≤ 11) (f1 : x11 = all_0 (((r_0 + 315) + x3))) (f2 : 1 * x10 + ((-1) * x1 + ((-44) * x3 + 0)) ≤ 8) (f3 : 1 * x6 + ((-1) * x1 + ((-44) * x3 + 0)) ≤ 0) (f4 : x5 = all_0 (((r_0 + 267) + x3))) (f5 : 1 * x4 + ((-1) * all_0 (r_0 + 1) + 0) ≤ 0) (f6 : (-1) * x4 + (1 * all_0 (r_0 + 1) + 0) ≤ 0) (f8 : 1 * texts_0 + ((-1) * x12 + 0) ≤ 8) (f10 : 1 * x12 + ((-1) * x1 + ((-44) * x3 + 0)) ≤ 11) (f11 : 1 * x10 + ((-1) * x1 + ((-44) * x3 + 0)) ≤ 8) (f12 : 1 * x6 + ((-1) * x1 + ((-44) * x3 + 0)) ≤ 0) (f14 : 1 * x10 + ((-1) * x1 + ((-44) * x3 + 0)) ≤ 8) (f15 : 1 * x6 + ((-1) * x1 + ((-44) * x3 + 0)) ≤ 0) (f17 : 1 * x6 + ((-1) * x1 + ((-44) * x3 + 0)) ≤ 0) (f18 : x3 < x4) (kz_0_170 : 0 ≤ texts_0 ∧ texts_0 ≤ 100000000) (ex2 : gx = texts_0) (ex3 : 0 ≤ gx ∧ gx ≤ 99999991) : 1 * gx + ((-1) * x1 + ((-44) * x3 + 0)) ≤ 19 := by
  first | assumption | omega | grind
def o_Mo_writeEdges_7 : or_T := (63, 16, [(0, (2, 0, 0, [165])), (1, (0, 0, 99997888, [])), (2, (2, 0, 0, [165])), (3, (0, 0, 47, [])), (4, (0, 1, 48, [])), (5, (0, 0, 23, [])), (6, (0, 0, 99999992, [])), (10, (0, 0, 99999997, [])), (11, (0, 0, 23, [])), (12, (0, 0, 99999992, []))], [(23, [12, 1, 3], [11, 1, -1, -44]), (20, [11, 2, 3], [50, 1, 1, 1005, 1002, 1, 2, 1, 0, 3, 1, 2, 4, 7, 4, 3, 2, 1, 5, 0, 315, 1, 2]), (23, [10, 1, 3], [8, 1, -1, -44]), (23, [6, 1, 3], [0, 1, -1, -44]), (20, [5, 2, 3], [50, 1, 1, 1005, 1002, 1, 2, 1, 0, 3, 1, 2, 4, 7, 4, 3, 2, 1, 5, 0, 267, 1, 2]), (20, [4, 2], [30, 0, 1, 0, 0, -1, 3, 2005001]), (20, [4, 2], [30, 0, -1, 0, 0, 1, 3, 2005001]), (24, [0, 2], []), (20, [2, 12], [30, 8, 1, 1, 170, -1, 0, 0]), (102, [12], [7770675568902916283677847627294075626569627356208558085007249638955617140820833992704, 165170]), (23, [12, 1, 3], [11, 1, -1, -44]), (23, [10, 1, 3], [8, 1, -1, -44]), (23, [6, 1, 3], [0, 1, -1, -44]), (102, [10], [7770675568902916283677847627294075626569627356208558085007249638955617140820833992704, 165170]), (23, [10, 1, 3], [8, 1, -1, -44]), (23, [6, 1, 3], [0, 1, -1, -44]), (102, [6], [7770675568902916283677847627294075626569627356208558085007249638955617140820833992704, 165170]), (23, [6, 1, 3], [0, 1, -1, -44]), (7, [3, 4], [2])], [], [(0, 0, 99999991, [])], [(20, [2, 16], [30, 0, 1, 1, 170, -1, 0, 0]), (23, [16, 1, 3], [19, 1, -1, -44])], [], [(3, 4, -4294967296, -1)])
theorem oo_Mo_writeEdges_7 {kA : Nat → ClassId} : or_ok PRD kA GG o_Mo_writeEdges_7 := by
  refine or_mk fun A ta ws vs hD hth hl => ?_
  intro t0 r0 t1 k1 t2 r2 t3 k3 t4 k4 t5 k5 t6 k6 t10 k10 t11 k11 t12 k12 d0 f0 f1 f2 f3 f4 f5 f6 f7 f8 ta1 w1 le1 s1 f10 f11 f12 ta2 w2 le2 s2 f14 f15 ta3 w3 le3 s3 f17 f18
  replace f0 := shm_1901 f0
  replace f1 := shm_591 f1
  replace f2 := shm_1900 f2
  replace f3 := shm_1899 f3
  replace f4 := shm_735 f4
  replace f5 := shm_130 f5
  replace f6 := shm_131 f6
  replace f7 := shm_5 f7
  replace f8 := shm_172 f8
  replace f10 := shm_1901 f10
  replace f11 := shm_1900 f11
  replace f12 := shm_1899 f12
  replace f14 := shm_1900 f14
  replace f15 := shm_1899 f15
  replace f17 := shm_1899 f17
  replace f18 := shm_6 f18
  have q2 : n_v vs 2 = n_v vs 0 := f7.symm
  simp only [q2] at f1 f4 f5 f6 f8
  have cr_0_2 := fdq_12 hD hth r0
  have br_0_2_F5_1_0 : w_ei ws (w_ar ws (n_v vs 0) 2) (w_fi ws (n_v vs 0) 5 + 1) = w_el ws (w_ar ws (n_v vs 0) 2) (w_fi ws (n_v vs 0) 5 + 1).toNat := rfl
  have kz_0_170 := fdq_13 hD hth r0
  have kv0 := fdq_13 hD hth r0
  obtain ⟨x, ex, hx⟩ := iv_ex (ta := ta) (lo := 0) (hi := 99999991) (z := w_fi ws (n_v vs 0) 170) (by omega) (by omega) (by omega) (by omega)
  have ex2 : v_iv (Value.int x) = w_fi ws (n_v vs 0) 170 := ex
  have ex3 : 0 ≤ v_iv (Value.int x) ∧ v_iv (Value.int x) ≤ 99999991 := tv_rng hx
  have e_1 : n_v (vs ++ [Value.int x]) 1 = n_v vs 1 := n_v_old (by rw [hl]; decide)
  have e_2 : n_v (vs ++ [Value.int x]) 2 = n_v vs 2 := n_v_old (by rw [hl]; decide)
  have e_3 : n_v (vs ++ [Value.int x]) 3 = n_v vs 3 := n_v_old (by rw [hl]; decide)
  have e_16 : n_v (vs ++ [Value.int x]) 16 = Value.int x := n_v_new hl
  have nf0 : fc_1 PRD (20, [2, 16], [30, 0, 1, 1, 170, -1, 0, 0]) ws (vs ++ [Value.int x]) := by
    refine ⟨nf_inA hl rfl, sgq_140 ?_⟩
    · show 1 * w_fi ws (n_v (vs ++ [Value.int x]) 2) 170 + ((-1) * v_iv (n_v (vs ++ [Value.int x]) 16) + 0) ≤ 0
      simp only [e_2, e_16, q2]
      exact vc_Mo_writeEdges_7_0 (v_iv (n_v vs 1)) (v_iv (n_v vs 3)) (v_iv (n_v vs 4)) (v_iv (n_v vs 5)) (v_iv (n_v vs 6)) (v_iv (n_v vs 10)) (v_iv (n_v vs 11)) (v_iv (n_v vs 12)) (w_ei ws (w_ar ws (n_v vs 0) 2)) (w_fi ws (n_v vs 0) 5) (w_fi ws (n_v vs 0) 170) (v_iv (Value.int x)) k1 k3 k4 k5 k6 k10 k11 k12 d0 f0 f1 f2 f3 f4 f5 f6 f8 f10 f11 f12 f14 f15 f17 f18 kz_0_170 ex2 ex3
  have nf1 : fc_1 PRD (23, [16, 1, 3], [19, 1, -1, -44]) ws (vs ++ [Value.int x]) := by
    refine ⟨nf_inA hl rfl, sgq_1903 ?_⟩
    · show 1 * v_iv (n_v (vs ++ [Value.int x]) 16) + ((-1) * v_iv (n_v (vs ++ [Value.int x]) 1) + ((-44) * v_iv (n_v (vs ++ [Value.int x]) 3) + 0)) ≤ 19
      simp only [e_1, e_3, e_16]
      exact vc_Mo_writeEdges_7_1 (v_iv (n_v vs 1)) (v_iv (n_v vs 3)) (v_iv (n_v vs 4)) (v_iv (n_v vs 5)) (v_iv (n_v vs 6)) (v_iv (n_v vs 10)) (v_iv (n_v vs 11)) (v_iv (n_v vs 12)) (w_ei ws (w_ar ws (n_v vs 0) 2)) (w_fi ws (n_v vs 0) 5) (w_fi ws (n_v vs 0) 170) (v_iv (Value.int x)) k1 k3 k4 k5 k6 k10 k11 k12 d0 f0 f1 f2 f3 f4 f5 f6 f8 f10 f11 f12 f14 f15 f17 f18 kz_0_170 ex2 ex3
  exact ⟨(fun _ h => (by cases h)), [Value.int x], ag_one hx, List.forall_mem_cons.mpr ⟨⟨show (20 : Nat) < 100 from by decide, nf0⟩, List.forall_mem_cons.mpr ⟨⟨show (23 : Nat) < 100 from by decide, nf1⟩, (fun _ h => (by cases h))⟩⟩, (fun _ h => (by cases h))⟩
set_option maxHeartbeats 4000000 in
theorem vc_Mo_writeEdges_8_0 (x1 : Int) (x3 : Int) (x4 : Int) (x5 : Int) (x6 : Int) (x10 : Int) (x11 : Int) (x12 : Int) (x16 : Int) (all_0 : Int → Int) (r_0 : Int) (texts_0 : Int) (gx : Int) (k1 : 0 ≤ x1 ∧ x1 ≤ 99997888) (k3 : 0 ≤ x3 ∧ x3 ≤ 47) (k4 : 1 ≤ x4 ∧ x4 ≤ 48) (k5 : 0 ≤ x5 ∧ x5 ≤ 23) (k6 : 0 ≤ x6 ∧ x6 ≤ 99999992) (k10 : 0 ≤ x10 ∧ x10 ≤ 99999997) (k11 : 0 ≤ x11 ∧ x11 ≤ 23) (k12 : 0 ≤ x12 ∧ x12 ≤ 99999992) (k16 : 0 ≤ x16 ∧ x16 ≤ 99999991) (d0 : x4 + (-4294967296) ≤ x3 ∧ x3 ≤ x4 + (-1)) (f0 : 1 * x16 + ((-1) * x1 + ((-44) * x3 + 0)) ≤ 19) (f1 : 1 * x12 + ((-1) * x1 + ((-44) * x3 + 0)) ≤ 11) (f2 : x11 = all_0 (((r_0 + 315) + x3))) (f3 : 1 * x10 + ((-1) * x1 + ((-44) * x3 + 0)) ≤ 8) (f4 : 1 * x6 + ((-1) * x1 + ((-44) * x3 + 0)) ≤ 0) (f5 : x5 = all_0 (((r_0 + 267) + x3))) (f6 : 1 * x4 + ((-1) * all_0 (r_0 + 1) + 0) ≤ 0) (f7 : (-1) * x4 + (1 * all_0 (r_0 + 1) + 0) ≤ 0) (f9 : 1 * texts_0 + ((-1) * x16 + 0) ≤ 9) (f11 : 1 * x16 + ((-1) * x1 + ((-44) * x3 + 0)) ≤ 19) (f12 : 1 * x12 + ((-1) * x1 + ((-44) * x3 + 0)) ≤ 11) (f13 : 1 * x10 + ((-1) * x1 + ((-44) * x3 + 0)) ≤ 8) (f14 : 1 * x6 + ((-1) * x1 + ((-44) * x3 + 0)) ≤ 0) (f16 : 1 * x12 + ((-1) * x1 + ((-44) * x3 + 0)) ≤ 11) (f17 : 1 * x10 + ((-1) * x1 + ((-44) * x3 + 0)) ≤ 8) (f18 : 1 * x6 + ((-1) * x1 + ((-44) * x3 + 0)) ≤ 0) (f20 : 1 * x10 + ((-1) * x1 + ((-44) * x3 + 0)) ≤ 8) (f21 : 1 * x6 + ((-1) * x1 + ((-44) * x3 + 0)) ≤ 0) (f23 : 1 * x6 + ((-1) * x1 + ((-44) * x3 + 0)) ≤ 0) (f24 : x3 < x4) (kz_0_170 : 0 ≤ texts_0 ∧ texts_0 ≤ 100000000) (ex2 : gx = texts_0) (ex3 : 0 ≤ gx ∧ gx ≤ 99999987) : 1 * texts_0 + ((-1) * gx + 0) ≤ 0 := by
  first | assumption | omega | grind
set_option maxHeartbeats 4000000 in
theorem vc_Mo_writeEdges_8_1 (x1 : Int) (x3 : Int) (x4 : Int) (x5 : Int) (x6 : Int) (x10 : Int) (x11 : Int) (x12 : Int) (x16 : Int) (all_0 : Int → Int) (r_0 : Int) (texts_0 : Int) (gx : Int) (k1 : 0 ≤ x1 ∧ x1 ≤ 99997888) (k3 : 0 ≤ x3 ∧ x3 ≤ 47) (k4 : 1 ≤ x4 ∧ x4 ≤ 48) (k5 : 0 ≤ x5 ∧ x5 ≤ 23) (k6 : 0 ≤ x6 ∧ x6 ≤ 99999992) (k10 : 0 ≤ x10 ∧ x10 ≤ 99999997) (k11 : 0 ≤ x11 ∧ x11 ≤ 23) (k12 : 0 ≤ x12 ∧ x12 ≤ 99999992) (k16 : 0 ≤ x16 ∧ x16 ≤ 99999991) (d0 : x4 + (-4294967296) ≤ x3 ∧ x3 ≤ x4 + (-1)) (f0 : 1 * x16 + ((-1) * x1 + ((-44) * x3 + 0)) ≤ 19) (f1 : 1 * x12 + ((-1) * x1 + ((-44) * x3 + 0)) ≤ 11) (f2 : x11 = all_0 (((r_0 + 315) + x3))) (f3 : 1 * x10 + ((-1) * x1 + ((-44) * x3 + 0)) ≤ 8) (f4 : 1 * x6 + ((-1) * x1 + ((-44) * x3 + 0)) ≤ 0) (f5 : x5 = all_0 (((r_0 + 267) + x3))) (f6 : 1 * x4 + ((-1) * all_0 (r_0 + 1) + 0) ≤ 0) (f7 : (-1) * x4 + (1 * all_0 (r_0 + 1) + 0) ≤ 0) (f9 : 1 * texts_0 + ((-1) * x16 + 0) ≤ 9) (f11 : 1 * x16 + ((-1) * x1 + ((-44) * x3 + 0)) ≤ 19) (f12 : 1 * x12 + ((-1) * x1 + ((-44) * x3 + 0)) ≤ 11) (f13 : 1 * x10 + ((-1) * x1 + ((-44) * x3 + 0)) ≤ 8) (f14 : 1 * x6 + ((-1) * x1 + ((-44) * x3 + 0)) ≤ 0) (f16 : 1 * x12 + ((-1) * x1 + ((-44) * x3 + 0)) ≤ 11) (f17 : 1 * x10 + ((-1) * x1 + ((-44) * x3 + 0)) ≤ 8) (f18 : 1 * x6 + ((-1) * x1 + ((-44) * x3 + 0)) ≤ 0) (f20 : 1 * x10 + ((-1) * x1 + ((-44) * x3 + 0)) ≤ 8) (f21 : 1 * x6 + ((-1) * x1 + ((-44) * x3 + 0)) ≤ 0) (f23 : 1 * x6 + ((-1) * x1 + ((-44) * x3 + 0)) ≤ 0) (f24 : x3 < x4) (kz_0_170 : 0 ≤ texts_0 ∧ texts_0 ≤ 100000000) (ex2 : gx = texts_0) (ex3 : 0 ≤ gx ∧ gx ≤ 99999987) : 1 * gx + ((-1) * x1 + ((-44) * x3 + 0)) ≤ 28 := by
  first | assumption | omega | grind
def o_Mo_writeEdges_8 : or_T := (72, 18, [(0, (2, 0, 0, [165])), (1, (0, 0, 99997888, [])), (2, (2, 0, 0, [165])), (3, (0, 0, 47, [])), (4, (0, 1, 48, [])), (5, (0, 0, 23, [])), (6, (0, 0, 99999992, [])), (10, (0, 0, 99999997, [])), (11, (0, 0, 23, [])), (12, (0, 0, 99999992, [])), (16, (0, 0, 99999991, []))], [(23, [16, 1, 3], [19, 1, -1, -44]), (23, [12, 1, 3], [11, 1, -1, -44]), (20, [11, 2, 3], [50, 1, 1, 1005, 1002, 1, 2, 1, 0, 3, 1, 2, 4, 7, 4, 3, 2, 1, 5, 0, 315, 1, 2]), (23, [10, 1, 3], [8, 1, -1, -44]), (23, [6, 1, 3], [0, 1, -1, -44]), (20, [5, 2, 3], [50, 1, 1, 1005, 1002, 1, 2, 1, 0, 3, 1, 2, 4, 7, 4, 3, 2, 1, 5, 0, 267, 1, 2]), (20, [4, 2], [30, 0, 1, 0, 0, -1, 3, 2005001]), (20, [4, 2], [30, 0, -1, 0, 0, 1, 3, 2005001]), (24, [0, 2], []), (20, [2, 16], [30, 9, 1, 1, 170, -1, 0, 0]), (102, [16], [7770675568902916283677847627294075626569627356208558085007249638955617140820833992704, 165170]), (23, [16, 1, 3], [19, 1, -1, -44]), (23, [12, 1, 3], [11, 1, -1, -44]), (23, [10, 1, 3], [8, 1, -1, -44]), (23, [6, 1, 3], [0, 1, -1, -44]), (102, [12], [7770675568902916283677847627294075626569627356208558085007249638955617140820833992704, 165170]), (23, [12, 1, 3], [11, 1, -1, -44]), (23, [10, 1, 3], [8, 1, -1, -44]), (23, [6, 1, 3], [0, 1, -1, -44]), (102, [10], [7770675568902916283677847627294075626569627356208558085007249638955617140820833992704, 165170]), (23, [10, 1, 3], [8, 1, -1, -44]), (23, [6, 1, 3], [0, 1, -1, -44]), (102, [6], [7770675568902916283677847627294075626569627356208558085007249638955617140820833992704, 165170]), (23, [6, 1, 3], [0, 1, -1, -44]), (7, [3, 4], [2])], [], [(0, 0, 99999987, [])], [(20, [2, 18], [30, 0, 1, 1, 170, -1, 0, 0]), (23, [18, 1, 3], [28, 1, -1, -44])], [], [(3, 4, -4294967296, -1)])
theorem oo_Mo_writeEdges_8 {kA : Nat → ClassId} : or_ok PRD kA GG o_Mo_writeEdges_8 := by
  refine or_mk fun A ta ws vs hD hth hl => ?_
  intro t0 r0 t1 k1 t2 r2 t3 k3 t4 k4 t5 k5 t6 k6 t10 k10 t11 k11 t12 k12 t16 k16 d0 f0 f1 f2 f3 f4 f5 f6 f7 f8 f9 ta1 w1 le1 s1 f11 f12 f13 f14 ta2 w2 le2 s2 f16 f17 f18 ta3 w3 le3 s3 f20 f21 ta4 w4 le4 s4 f23 f24
  replace f0 := shm_1903 f0
  replace f1 := shm_1901 f1
  replace f2 := shm_591 f2
  replace f3 := shm_1900 f3
  replace f4 := shm_1899 f4
  replace f5 := shm_735 f5
  replace f6 := shm_130 f6
  replace f7 := shm_131 f7
  replace f8 := shm_5 f8
  replace f9 := shm_237 f9
  replace f11 := shm_1903 f11
  replace f12 := shm_1901 f12
  replace f13 := shm_1900 f13
  replace f14 := shm_1899 f14
  replace f16 := shm_1901 f16
  replace f17 := shm_1900 f17
  replace f18 := shm_1899 f18
  replace f20 := shm_1900 f20
  replace f21 := shm_1899 f21
  replace f23 := shm_1899 f23
  replace f24 := shm_6 f24
  have q2 : n_v vs 2 = n_v vs 0 := f8.symm
  simp only [q2] at f2 f5 f6 f7 f9
  have cr_0_2 := fdq_12 hD hth r0
  have br_0_2_F5_1_0 : w_ei ws (w_ar ws (n_v vs 0) 2) (w_fi ws (n_v vs 0) 5 + 1) = w_el ws (w_ar ws (n_v vs 0) 2) (w_fi ws (n_v vs 0) 5 + 1).toNat := rfl
  have kz_0_170 := fdq_13 hD hth r0
  have kv0 := fdq_13 hD hth r0
  obtain ⟨x, ex, hx⟩ := iv_ex (ta := ta) (lo := 0) (hi := 99999987) (z := w_fi ws (n_v vs 0) 170) (by omega) (by omega) (by omega) (by omega)
  have ex2 : v_iv (Value.int x) = w_fi ws (n_v vs 0) 170 := ex
  have ex3 : 0 ≤ v_iv (Value.int x) ∧ v_iv (Value.int x) ≤ 99999987 := tv_rng hx
  have e_1 : n_v (vs ++ [Value.int x]) 1 = n_v vs 1 := n_v_old (by rw [hl]; decide)
  have e_2 : n_v (vs ++ [Value.int x]) 2 = n_v vs 2 := n_v_old (by rw [hl]; decide)
  have e_3 : n_v (vs ++ [Value.int x]) 3 = n_v vs 3 := n_v_old (by rw [hl]; decide)
  have e_18 : n_v (vs ++ [Value.int x]) 18 = Value.int x := n_v_new hl
  have nf0 : fc_1 PRD (20, [2, 18], [30, 0, 1, 1, 170, -1, 0, 0]) ws (vs ++ [Value.int x]) := by
    refine ⟨nf_inA hl rfl, sgq_140 ?_⟩
    · show 1 * w_fi ws (n_v (vs ++ [Value.int x]) 2) 170 + ((-1) * v_iv (n_v (vs ++ [Value.int x]) 18) + 0) ≤ 0
      simp only [e_2, e_18, q2]
      exact vc_Mo_writeEdges_8_0 (v_iv (n_v vs 1)) (v_iv (n_v vs 3)) (v_iv (n_v vs 4)) (v_iv (n_v vs 5)) (v_iv (n_v vs 6)) (v_iv (n_v vs 10)) (v_iv (n_v vs 11)) (v_iv (n_v vs 12)) (v_iv (n_v vs 16)) (w_ei ws (w_ar ws (n_v vs 0) 2)) (w_fi ws (n_v vs 0) 5) (w_fi ws (n_v vs 0) 170) (v_iv (Value.int x)) k1 k3 k4 k5 k6 k10 k11 k12 k16 d0 f0 f1 f2 f3 f4 f5 f6 f7 f9 f11 f12 f13 f14 f16 f17 f18 f20 f21 f23 f24 kz_0_170 ex2 ex3
  have nf1 : fc_1 PRD (23, [18, 1, 3], [28, 1, -1, -44]) ws (vs ++ [Value.int x]) := by
    refine ⟨nf_inA hl rfl, sgq_1904 ?_⟩
    · show 1 * v_iv (n_v (vs ++ [Value.int x]) 18) + ((-1) * v_iv (n_v (vs ++ [Value.int x]) 1) + ((-44) * v_iv (n_v (vs ++ [Value.int x]) 3) + 0)) ≤ 28
      simp only [e_1, e_3, e_18]
      exact vc_Mo_writeEdges_8_1 (v_iv (n_v vs 1)) (v_iv (n_v vs 3)) (v_iv (n_v vs 4)) (v_iv (n_v vs 5)) (v_iv (n_v vs 6)) (v_iv (n_v vs 10)) (v_iv (n_v vs 11)) (v_iv (n_v vs 12)) (v_iv (n_v vs 16)) (w_ei ws (w_ar ws (n_v vs 0) 2)) (w_fi ws (n_v vs 0) 5) (w_fi ws (n_v vs 0) 170) (v_iv (Value.int x)) k1 k3 k4 k5 k6 k10 k11 k12 k16 d0 f0 f1 f2 f3 f4 f5 f6 f7 f9 f11 f12 f13 f14 f16 f17 f18 f20 f21 f23 f24 kz_0_170 ex2 ex3
  exact ⟨(fun _ h => (by cases h)), [Value.int x], ag_one hx, List.forall_mem_cons.mpr ⟨⟨show (20 : Nat) < 100 from by decide, nf0⟩, List.forall_mem_cons.mpr ⟨⟨show (23 : Nat) < 100 from by decide, nf1⟩, (fun _ h => (by cases h))⟩⟩, (fun _ h => (by cases h))⟩
set_option maxHeartbeats 4000000 in
theorem vc_Mo_writeEdges_9_0 (x1 : Int) (x3 : Int) (x4 : Int) (x5 : Int) (x6 : Int) (x10 : Int) (x11 : Int) (x12 : Int) (x16 : Int) (x18 : Int) (all_0 : Int → Int) (r_0 : Int) (texts_0 : Int) (gx : Int) (k1 : 0 ≤ x1 ∧ x1 ≤ 99997888) (k3 : 0 ≤ x3 ∧ x3 ≤ 47) (k4 : 1 ≤ x4 ∧ x4 ≤ 48) (k5 : 0 ≤ x5 ∧ x5 ≤ 23) (k6 : 0 ≤ x6 ∧ x6 ≤ 99999992) (k10 : 0 ≤ x10 ∧ x10 ≤ 99999997) (k11 : 0 ≤ x11 ∧ x11 ≤ 23) (k12 : 0 ≤ x12 ∧ x12 ≤ 99999992) (k16 : 0 ≤ x16 ∧ x16 ≤ 99999991) (k18 : 0 ≤ x18 ∧ x18 ≤ 99999987) (d0 : x4 + (-4294967296) ≤ x3 ∧ x3 ≤ x4 + (-1)) (f0 : 1 * x18 + ((-1) * x1 + ((-44) * x3 + 0)) ≤ 28) (f1 : 1 * x16 + ((-1) * x1 + ((-44) * x3 + 0)) ≤ 19) (f2 : 1 * x12 + ((-1) * x1 + ((-44) * x3 + 0)) ≤ 11) (f3 : x11 = all_0 (((r_0 + 315) + x3))) (f4 : 1 * x10 + ((-1) * x1 + ((-44) * x3 + 0)) ≤ 8) (f5 : 1 * x6 + ((-1) * x1 + ((-44) * x3 + 0)) ≤ 0) (f6 : x5 = all_0 (((r_0 + 267) + x3))) (f7 : 1 * x4 + ((-1) * all_0 (r_0 + 1) + 0) ≤ 0) (f8 : (-1) * x4 + (1 * all_0 (r_0 + 1) + 0) ≤ 0) (f10 : 1 * texts_0 + ((-1) * x18 + 0) ≤ 13) (f12 : 1 * x18 + ((-1) * x1 + ((-44) * x3 + 0)) ≤ 28) (f13 : 1 * x16 + ((-1) * x1 + ((-44) * x3 + 0)) ≤ 19) (f14 : 1 * x12 + ((-1) * x1 + ((-44) * x3 + 0)) ≤ 11) (f15 : 1 * x10 + ((-1) * x1 + ((-44) * x3 + 0)) ≤ 8) (f16 : 1 * x6 + ((-1) * x1 + ((-44) * x3 + 0)) ≤ 0) (f18 : 1 * x16 + ((-1) * x1 + ((-44) * x3 + 0)) ≤ 19) (f19 : 1 * x12 + ((-1) * x1 + ((-44) * x3 + 0)) ≤ 11) (f20 : 1 * x10 + ((-1) * x1 + ((-44) * x3 + 0)) ≤ 8) (f21 : 1 * x6 + ((-1) * x1 + ((-44) * x3 + 0)) ≤ 0) (f23 : 1 * x12 + ((-1) * x1 + ((-44) * x3 + 0)) ≤ 11) (f24 : 1 * x10 + ((-1) * x1 + ((-44) * x3 + 0)) ≤ 8) (f25 : 1 * x6 + ((-1) * x1 + ((-44) * x3 + 0)) ≤ 0) (f27 : 1 * x10 + ((-1) * x1 + ((-44) * x3 + 0)) ≤ 8) (f28 : 1 * x6 + ((-1) * x1 + ((-44) * x3 + 0)) ≤ 0) (f30 : 1 * x6 + ((-1) * x1 + ((-44) * x3 + 0)) ≤ 0) (f31 : x3 < x4) (kz_0_170 : 0 ≤ texts_0 ∧ texts_0 ≤ 100000000) (ex2 : gx = texts_0) (ex3 : 0 ≤ gx ∧ gx ≤ 99999999) : 1 * texts_0 + ((-1) * gx + 0) ≤ 0 := by
  first | assumption | omega | grind
set_option maxHeartbeats 4000000 in
theorem vc_Mo_writeEdges_9_1 (x1 : Int) (x3 : Int) (x4 : Int) (x5 : Int) (x6 : Int) (x10 : Int) (x11 : Int) (x12 : Int) (x16 : Int) (x18 : Int) (all_0 : Int → Int) (r_0 : Int) (texts_0 : Int) (gx : Int) (k1 : 0 ≤ x1 ∧ x1 ≤ 99997888) (k3 : 0 ≤ x3 ∧ x3 ≤ 47) (k4 : 1 ≤ x4 ∧ x4 ≤ 48) (k5 : 0 ≤ x5 ∧ x5 ≤ 23) (k6 : 0 ≤ x6 ∧ x6 ≤ 99999992) (k10 : 0 ≤ x10 ∧ x10 ≤ 99999997) (k11 : 0 ≤ x11 ∧ x11 ≤ 23) (k12 : 0 ≤ x12 ∧ x12 ≤ 99999992) (k16 : 0 ≤ x16 ∧ x16 ≤ 99999991) (k18 : 0 ≤ x18 ∧ x18 ≤ 99999987) (d0 : x4 + (-4294967296) ≤ x3 ∧ x3 ≤ x4 + (-1)) (f0 : 1 * x18 + ((-1) * x1 + ((-44) * x3 + 0)) ≤ 28) (f1 : 1 * x16 + ((-1) * x1 + ((-44) * x3 + 0)) ≤ 19) (f2 : 1 * x12 + ((-1) * x1 + ((-44) * x3 + 0)) ≤ 11) (f3 : x11 = all_0 (((r_0 + 315) + x3))) (f4 : 1 * x10 + ((-1) * x1 + ((-44) * x3 + 0)) ≤ 8) (f5 : 1 * x6 + ((-1) * x1 + ((-44) * x3 + 0)) ≤ 0) (f6 : x5 = all_0 (((r_0 + 267) + x3))) (f7 : 1 * x4 + ((-1) * all_0 (r_0 + 1) + 0) ≤ 0) (f8 : (-1) * x4 + (1 * all_0 (r_0 + 1) + 0) ≤ 0) (f10 : 1 * texts_0 + ((-1) * x18 + 0) ≤ 13) (f12 : 1 * x18 + ((-1) * x1 + ((-44) * x3 + 0)) ≤ 28) (f13 : 1 * x16 + ((-1) * x1 + ((-44) * x3 + 0)) ≤ 19) (f14 : 1 * x12 + ((-1) * x1 + ((-44) * x3 + 0)) ≤ 11) (f15 : 1 * x10 + ((-1) * x1 + ((-44) * x3 + 0)) ≤ 8) (f16 : 1 * x6 + ((-1) * x1 + ((-44) * x3 + 0)) ≤ 0) (f18 : 1 * x16 + ((-1) * x1 + ((-44) * x3 + 0)) ≤ 19) (f19 : 1 * x12 + ((-1) * x1 + ((-44) * x3 + 0)) ≤ 11) (f20 : 1 * x10 + ((-1) * x1 + ((-44) * x3 + 0)) ≤ 8) (f21 : 1 * x6 + ((-1) * x1 + ((-44) * x3 + 0)) ≤ 0) (f23 : 1 * x12 + ((-1) * x1 + ((-44) * x3 + 0)) ≤ 11) (f24 : 1 * x10 + ((-1) * x1 + ((-44) * x3 + 0)) ≤ 8) (f25 : 1 * x6 + ((-1) * x1 + ((-44) * x3 + 0)) ≤ 0) (f27 : 1 * x10 + ((-1) * x1 + ((-44) * x3 + 0)) ≤ 8) (f28 : 1 * x6 + ((-1) * x1 + ((-44) * x3 + 0)) ≤ 0) (f30 : 1 * x6 + ((-1) * x1 + ((-44) * x3 + 0)) ≤ 0) (f31 : x3 < x4) (kz_0_170 : 0 ≤ texts_0 ∧ texts_0 ≤ 100000000) (ex2 : gx = texts_0) (ex3 : 0 ≤ gx ∧ gx ≤ 99999999) : 1 * gx + ((-1) * x1 + ((-44) * x3 + 0)) ≤ 41 := by
  first | assumption | omega | grind
def o_Mo_writeEdges_9 : or_T := (79, 20, [(0, (2, 0, 0, [165])), (1, (0, 0, 99997888, [])), (2, (2, 0, 0, [165])), (3, (0, 0, 47, [])), (4, (0, 1, 48, [])), (5, (0, 0, 23, [])), (6, (0, 0, 99999992, [])), (10, (0, 0, 99999997, [])), (11, (0, 0, 23, [])), (12, (0, 0, 99999992, [])), (16, (0, 0, 99999991, [])), (18, (0, 0, 99999987, []))], [(23, [18, 1, 3], [28, 1, -1, -44]), (23, [16, 1, 3], [19, 1, -1, -44]), (23, [12, 1, 3], [11, 1, -1, -44]), (20, [11, 2, 3], [50, 1, 1, 1005, 1002, 1, 2, 1, 0, 3, 1, 2, 4, 7, 4, 3, 2, 1, 5, 0, 315, 1, 2]), (23, [10, 1, 3], [8, 1, -1, -44]), (23, [6, 1, 3], [0, 1, -1, -44]), (20, [5, 2, 3], [50, 1, 1, 1005, 1002, 1, 2, 1, 0, 3, 1, 2, 4, 7, 4, 3, 2, 1, 5, 0, 267, 1, 2]), (20, [4, 2], [30, 0, 1, 0, 0, -1, 3, 2005001]), (20, [4, 2], [30, 0, -1, 0, 0, 1, 3, 2005001]), (24, [0, 2], []), (20, [2, 18], [30, 13, 1, 1, 170, -1, 0, 0]), (102, [18], [7770675568902916283677847627294075626569627356208558085007249638955617140820833992704, 165170]), (23, [18, 1, 3], [28, 1, -1, -44]), (23, [16, 1, 3], [19, 1, -1, -44]), (23, [12, 1, 3], [11, 1, -1, -44]), (23, [10, 1, 3], [8, 1, -1, -44]), (23, [6, 1, 3], [0, 1, -1, -44]), (102, [16], [7770675568902916283677847627294075626569627356208558085007249638955617140820833992704, 165170]), (23, [16, 1, 3], [19, 1, -1, -44]), (23, [12, 1, 3], [11, 1, -1, -44]), (23, [10, 1, 3], [8, 1, -1, -44]), (23, [6, 1, 3], [0, 1, -1, -44]), (102, [12], [7770675568902916283677847627294075626569627356208558085007249638955617140820833992704, 165170]), (23, [12, 1, 3], [11, 1, -1, -44]), (23, [10, 1, 3], [8, 1, -1, -44]), (23, [6, 1, 3], [0, 1, -1, -44]), (102, [10], [7770675568902916283677847627294075626569627356208558085007249638955617140820833992704, 165170]), (23, [10, 1, 3], [8, 1, -1, -44]), (23, [6, 1, 3], [0, 1, -1, -44]), (102, [6], [7770675568902916283677847627294075626569627356208558085007249638955617140820833992704, 165170]), (23, [6, 1, 3], [0, 1, -1, -44]), (7, [3, 4], [2])], [], [(0, 0, 99999999, [])], [(20, [2, 20], [30, 0, 1, 1, 170, -1, 0, 0]), (23, [20, 1, 3], [41, 1, -1, -44])], [], [(3, 4, -4294967296, -1)])
theorem oo_Mo_writeEdges_9 {kA : Nat → ClassId} : or_ok PRD kA GG o_Mo_writeEdges_9 := by
  refine or_mk fun A ta ws vs hD hth hl => ?_
  intro t0 r0 t1 k1 t2 r2 t3 k3 t4 k4 t5 k5 t6 k6 t10 k10 t11 k11 t12 k12 t16 k16 t18 k18 d0 f0 f1 f2 f3 f4 f5 f6 f7 f8 f9 f10 ta1 w1 le1 s1 f12 f13 f14 f15 f16 ta2 w2 le2 s2 f18 f19 f20 f21 ta3 w3 le3 s3 f23 f24 f25 ta4 w4 le4 s4 f27 f28 ta5 w5 le5 s5 f30 f31
  replace f0 := shm_1904 f0
  replace f1 := shm_1903 f1
  replace f2 := shm_1901 f2
  replace f3 := shm_591 f3
  replace f4 := shm_1900 f4
  replace f5 := shm_1899 f5
  replace f6 := shm_735 f6
  replace f7 := shm_130 f7
  replace f8 := shm_131 f8
  replace f9 := shm_5 f9
  replace f10 := shm_1026 f10
  replace f12 := shm_1904 f12
  replace f13 := shm_1903 f13
  replace f14 := shm_1901 f14
  replace f15 := shm_1900 f15
  replace f16 := shm_1899 f16
  replace f18 := shm_1903 f18
  replace f19 := shm_1901 f19
  replace f20 := shm_1900 f20
  replace f21 := shm_1899 f21
  replace f23 := shm_1901 f23
  replace f24 := shm_1900 f24
  replace f25 := shm_1899 f25
  replace f27 := shm_1900 f27
  replace f28 := shm_1899 f28
  replace f30 := shm_1899 f30
  replace f31 := shm_6 f31
  have q2 : n_v vs 2 = n_v vs 0 := f9.symm
  simp only [q2] at f3 f6 f7 f8 f10
  have cr_0_2 := fdq_12 hD hth r0
  have br_0_2_F5_1_0 : w_ei ws (w_ar ws (n_v vs 0) 2) (w_fi ws (n_v vs 0) 5 + 1) = w_el ws (w_ar ws (n_v vs 0) 2) (w_fi ws (n_v vs 0) 5 + 1).toNat := rfl
  have kz_0_170 := fdq_13 hD hth r0
  have kv0 := fdq_13 hD hth r0
  obtain ⟨x, ex, hx⟩ := iv_ex (ta := ta) (lo := 0) (hi := 99999999) (z := w_fi ws (n_v vs 0) 170) (by omega) (by omega) (by omega) (by omega)
  have ex2 : v_iv (Value.int x) = w_fi ws (n_v vs 0) 170 := ex
  have ex3 : 0 ≤ v_iv (Value.int x) ∧ v_iv (Value.int x) ≤ 99999999 := tv_rng hx
  have e_1 : n_v (vs ++ [Value.int x]) 1 = n_v vs 1 := n_v_old (by rw [hl]; decide)
  have e_2 : n_v (vs ++ [Value.int x]) 2 = n_v vs 2 := n_v_old (by rw [hl]; decide)
  have e_3 : n_v (vs ++ [Value.int x]) 3 = n_v vs 3 := n_v_old (by rw [hl]; decide)
  have e_20 : n_v (vs ++ [Value.int x]) 20 = Value.int x := n_v_new hl
  have nf0 : fc_1 PRD (20, [2, 20], [30, 0, 1, 1, 170, -1, 0, 0]) ws (vs ++ [Value.int x]) := by
    refine ⟨nf_inA hl rfl, sgq_140 ?_⟩
    · show 1 * w_fi ws (n_v (vs ++ [Value.int x]) 2) 170 + ((-1) * v_iv (n_v (vs ++ [Value.int x]) 20) + 0) ≤ 0
      simp only [e_2, e_20, q2]
      exact vc_Mo_writeEdges_9_0 (v_iv (n_v vs 1)) (v_iv (n_v vs 3)) (v_iv (n_v vs 4)) (v_iv (n_v vs 5)) (v_iv (n_v vs 6)) (v_iv (n_v vs 10)) (v_iv (n_v vs 11)) (v_iv (n_v vs 12)) (v_iv (n_v vs 16)) (v_iv (n_v vs 18)) (w_ei ws (w_ar ws (n_v vs 0) 2)) (w_fi ws (n_v vs 0) 5) (w_fi ws (n_v vs 0) 170) (v_iv (Value.int x)) k1 k3 k4 k5 k6 k10 k11 k12 k16 k18 d0 f0 f1 f2 f3 f4 f5 f6 f7 f8 f10 f12 f13 f14 f15 f16 f18 f19 f20 f21 f23 f24 f25 f27 f28 f30 f31 kz_0_170 ex2 ex3
  have nf1 : fc_1 PRD (23, [20, 1, 3], [41, 1, -1, -44]) ws (vs ++ [Value.int x]) := by
    refine ⟨nf_inA hl rfl, sgq_1905 ?_⟩
    · show 1 * v_iv (n_v (vs ++ [Value.int x]) 20) + ((-1) * v_iv (n_v (vs ++ [Value.int x]) 1) + ((-44) * v_iv (n_v (vs ++ [Value.int x]) 3) + 0)) ≤ 41
      simp only [e_1, e_3, e_20]
      exact vc_Mo_writeEdges_9_1 (v_iv (n_v vs 1)) (v_iv (n_v vs 3)) (v_iv (n_v vs 4)) (v_iv (n_v vs 5)) (v_iv (n_v vs 6)) (v_iv (n_v vs 10)) (v_iv (n_v vs 11)) (v_iv (n_v vs 12)) (v_iv (n_v vs 16)) (v_iv (n_v vs 18)) (w_ei ws (w_ar ws (n_v vs 0) 2)) (w_fi ws (n_v vs 0) 5) (w_fi ws (n_v vs 0) 170) (v_iv (Value.int x)) k1 k3 k4 k5 k6 k10 k11 k12 k16 k18 d0 f0 f1 f2 f3 f4 f5 f6 f7 f8 f10 f12 f13 f14 f15 f16 f18 f19 f20 f21 f23 f24 f25 f27 f28 f30 f31 kz_0_170 ex2 ex3
  exact ⟨(fun _ h => (by cases h)), [Value.int x], ag_one hx, List.forall_mem_cons.mpr ⟨⟨show (20 : Nat) < 100 from by decide, nf0⟩, List.forall_mem_cons.mpr ⟨⟨show (23 : Nat) < 100 from by decide, nf1⟩, (fun _ h => (by cases h))⟩⟩, (fun _ h => (by cases h))⟩
set_option maxHeartbeats 4000000 in
theorem vc_Mo_writeEdges_10_0 (x1 : Int) (x3 : Int) (x4 : Int) (x5 : Int) (x6 : Int) (x10 : Int) (x11 : Int) (x12 : Int) (x16 : Int) (x18 : Int) (x20 : Int) (all_0 : Int → Int) (r_0 : Int) (texts_0 : Int) (gx : Int) (k1 : 0 ≤ x1 ∧ x1 ≤ 99997888) (k3 : 0 ≤ x3 ∧ x3 ≤ 47) (k4 : 1 ≤ x4 ∧ x4 ≤ 48) (k5 : 0 ≤ x5 ∧ x5 ≤ 23) (k6 : 0 ≤ x6 ∧ x6 ≤ 99999992) (k10 : 0 ≤ x10 ∧ x10 ≤ 99999997) (k11 : 0 ≤ x11 ∧ x11 ≤ 23) (k12 : 0 ≤ x12 ∧ x12 ≤ 99999992) (k16 : 0 ≤ x16 ∧ x16 ≤ 99999991) (k18 : 0 ≤ x18 ∧ x18 ≤ 99999987) (k20 : 0 ≤ x20 ∧ x20 ≤ 99999999) (d0 : x4 + (-4294967296) ≤ x3 ∧ x3 ≤ x4 + (-1)) (f0 : 1 * x20 + ((-1) * x1 + ((-44) * x3 + 0)) ≤ 41) (f1 : 1 * x18 + ((-1) * x1 + ((-44) * x3 + 0)) ≤ 28) (f2 : 1 * x16 + ((-1) * x1 + ((-44) * x3 + 0)) ≤ 19) (f3 : 1 * x12 + ((-1) * x1 + ((-44) * x3 + 0)) ≤ 11) (f4 : x11 = all_0 (((r_0 + 315) + x3))) (f5 : 1 * x10 + ((-1) * x1 + ((-44) * x3 + 0)) ≤ 8) (f6 : 1 * x6 + ((-1) * x1 + ((-44) * x3 + 0)) ≤ 0) (f7 : x5 = all_0 (((r_0 + 267) + x3))) (f8 : 1 * x4 + ((-1) * all_0 (r_0 + 1) + 0) ≤ 0) (f9 : (-1) * x4 + (1 * all_0 (r_0 + 1) + 0) ≤ 0) (f11 : 1 * texts_0 + ((-1) * x20 + 0) ≤ 1) (f13 : 1 * x20 + ((-1) * x1 + ((-44) * x3 + 0)) ≤ 41) (f14 : 1 * x18 + ((-1) * x1 + ((-44) * x3 + 0)) ≤ 28) (f15 : 1 * x16 + ((-1) * x1 + ((-44) * x3 + 0)) ≤ 19) (f16 : 1 * x12 + ((-1) * x1 + ((-44) * x3 + 0)) ≤ 11) (f17 : 1 * x10 + ((-1) * x1 + ((-44) * x3 + 0)) ≤ 8) (f18 : 1 * x6 + ((-1) * x1 + ((-44) * x3 + 0)) ≤ 0) (f20 : 1 * x18 + ((-1) * x1 + ((-44) * x3 + 0)) ≤ 28) (f21 : 1 * x16 + ((-1) * x1 + ((-44) * x3 + 0)) ≤ 19) (f22 : 1 * x12 + ((-1) * x1 + ((-44) * x3 + 0)) ≤ 11) (f23 : 1 * x10 + ((-1) * x1 + ((-44) * x3 + 0)) ≤ 8) (f24 : 1 * x6 + ((-1) * x1 + ((-44) * x3 + 0)) ≤ 0) (f26 : 1 * x16 + ((-1) * x1 + ((-44) * x3 + 0)) ≤ 19) (f27 : 1 * x12 + ((-1) * x1 + ((-44) * x3 + 0)) ≤ 11) (f28 : 1 * x10 + ((-1) * x1 + ((-44) * x3 + 0)) ≤ 8) (f29 : 1 * x6 + ((-1) * x1 + ((-44) * x3 + 0)) ≤ 0) (f31 : 1 * x12 + ((-1) * x1 + ((-44) * x3 + 0)) ≤ 11) (f32 : 1 * x10 + ((-1) * x1 + ((-44) * x3 + 0)) ≤ 8) (f33 : 1 * x6 + ((-1) * x1 + ((-44) * x3 + 0)) ≤ 0) (f35 : 1 * x10 + ((-1) * x1 + ((-44) * x3 + 0)) ≤ 8) (f36 : 1 * x6 + ((-1) * x1 + ((-44) * x3 + 0)) ≤ 0) (f38 : 1 * x6 + ((-1) * x1 + ((-44) * x3 + 0)) ≤ 0) (f39 : x3 < x4) (kz_0_170 : 0 ≤ texts_0 ∧ texts_0 ≤ 100000000) (ex2 : gx = texts_0) (ex3 : 0 ≤ gx ∧ gx ≤ 99999998) : 1 * texts_0 + ((-1) * gx + 0) ≤ 0 := by
  first | assumption | omega | grind
set_option maxHeartbeats 4000000 in
theorem vc_Mo_writeEdges_10_1 (x1 : Int) (x3 : Int) (x4 : Int) (x5 : Int) (x6 : Int) (x10 : Int) (x11 : Int) (x12 : Int) (x16 : Int) (x18 : Int) (x20 : Int) (all_0 : Int → Int) (r_0 : Int) (texts_0 : Int) (gx : Int) (k1 : 0 ≤ x1 ∧ x1 ≤ 99997888) (k3 : 0 ≤ x3 ∧ x3 ≤ 47) (k4 : 1 ≤ x4 ∧ x4 ≤ 48) (k5 : 0 ≤ x5 ∧ x5 ≤ 23) (k6 : 0 ≤ x6 ∧ x6 ≤ 99999992) (k10 : 0 ≤ x10 ∧ x10 ≤ 99999997) (k11 : 0 ≤ x11 ∧ x11 ≤ 23) (k12 : 0 ≤ x12 ∧ x12 ≤ 99999992) (k16 : 0 ≤ x16 ∧ x16 ≤ 99999991) (k18 : 0 ≤ x18 ∧ x18 ≤ 99999987) (k20 : 0 ≤ x20 ∧ x20 ≤ 99999999) (d0 : x4 + (-4294967296) ≤ x3 ∧ x3 ≤ x4 + (-1)) (f0 : 1 * x20 + ((-1) * x1 + ((-44) * x3 + 0)) ≤ 41) (f1 : 1 * x18 + ((-1) * x1 + ((-44) * x3 + 0)) ≤ 28) (f2 : 1 * x16 + ((-1) * x1 + ((-44) * x3 + 0)) ≤ 19) (f3 : 1 * x12 + ((-1) * x1 + ((-44) * x3 + 0)) ≤ 11) (f4 : x11 = all_0 (((r_0 + 315) + x3))) (f5 : 1 * x10 + ((-1) * x1 + ((-44) * x3 + 0)) ≤ 8) (f6 : 1 * x6 + ((-1) * x1 + ((-44) * x3 + 0)) ≤ 0) (f7 : x5 = all_0 (((r_0 + 267) + x3))) (f8 : 1 * x4 + ((-1) * all_0 (r_0 + 1) + 0) ≤ 0) (f9 : (-1) * x4 + (1 * all_0 (r_0 + 1) + 0) ≤ 0) (f11 : 1 * texts_0 + ((-1) * x20 + 0) ≤ 1) (f13 : 1 * x20 + ((-1) * x1 + ((-44) * x3 + 0)) ≤ 41) (f14 : 1 * x18 + ((-1) * x1 + ((-44) * x3 + 0)) ≤ 28) (f15 : 1 * x16 + ((-1) * x1 + ((-44) * x3 + 0)) ≤ 19) (f16 : 1 * x12 + ((-1) * x1 + ((-44) * x3 + 0)) ≤ 11) (f17 : 1 * x10 + ((-1) * x1 + ((-44) * x3 + 0)) ≤ 8) (f18 : 1 * x6 + ((-1) * x1 + ((-44) * x3 + 0)) ≤ 0) (f20 : 1 * x18 + ((-1) * x1 + ((-44) * x3 + 0)) ≤ 28) (f21 : 1 * x16 + ((-1) * x1 + ((-44) * x3 + 0)) ≤ 19) (f22 : 1 * x12 + ((-1) * x1 + ((-44) * x3 + 0)) ≤ 11) (f23 : 1 * x10 + ((-1) * x1 + ((-44) * x3 + 0)) ≤ 8) (f24 : 1 * x6 + ((-1) * x1 + ((-44) * x3 + 0)) ≤ 0) (f26 : 1 * x16 + ((-1) * x1 + ((-44) * x3 + 0)) ≤ 19) (f27 : 1 * x12 + ((-1) * x1 + ((-44) * x3 + 0)) ≤ 11) (f28 : 1 * x10 + ((-1) * x1 + ((-44) * x3 + 0)) ≤ 8) (f29 : 1 * x6 + ((-1) * x1 + ((-44) * x3 + 0)) ≤ 0) (f31 : 1 * x12 + ((-1) * x1 + ((-44) * x3 + 0)) ≤ 11) (f32 : 1 * x10 + ((-1) * x1 + ((-44) * x3 + 0)) ≤ 8) (f33 : 1 * x6 + ((-1) * x1 + ((-44) * x3 + 0)) ≤ 0) (f35 : 1 * x10 + ((-1) * x1 + ((-44) * x3 + 0)) ≤ 8) (f36 : 1 * x6 + ((-1) * x1 + ((-44) * x3 + 0)) ≤ 0) (f38 : 1 * x6 + ((-1) * x1 + ((-44) * x3 + 0)) ≤ 0) (f39 : x3 < x4) (kz_0_170 : 0 ≤ texts_0 ∧ texts_0 ≤ 100000000) (ex2 : gx = texts_0) (ex3 : 0 ≤ gx ∧ gx ≤ 99999998) : 1 * gx + ((-1) * x1 + ((-44) * x3 + 0)) ≤ 42 := by
  first | assumption | omega | grind
def o_Mo_writeEdges_10 : or_T := (86, 22, [(0, (2, 0, 0, [165])), (1, (0, 0, 99997888, [])), (2, (2, 0, 0, [165])), (3, (0, 0, 47, [])), (4, (0, 1, 48, [])), (5, (0, 0, 23, [])), (6, (0, 0, 99999992, [])), (10, (0, 0, 99999997, [])), (11, (0, 0, 23, [])), (12, (0, 0, 99999992, [])), (16, (0, 0, 99999991, [])), (18, (0, 0, 99999987, [])), (20, (0, 0, 99999999, []))], [(23, [20, 1, 3], [41, 1, -1, -44]), (23, [18, 1, 3], [28, 1, -1, -44]), (23, [16, 1, 3], [19, 1, -1, -44]), (23, [12, 1, 3], [11, 1, -1, -44]), (20, [11, 2, 3], [50, 1, 1, 1005, 1002, 1, 2, 1, 0, 3, 1, 2, 4, 7, 4, 3, 2, 1, 5, 0, 315, 1, 2]), (23, [10, 1, 3], [8, 1, -1, -44]), (23, [6, 1, 3], [0, 1, -1, -44]), (20, [5, 2, 3], [50, 1, 1, 1005, 1002, 1, 2, 1, 0, 3, 1, 2, 4, 7, 4, 3, 2, 1, 5, 0, 267, 1, 2]), (20, [4, 2], [30, 0, 1, 0, 0, -1, 3, 2005001]), (20, [4, 2], [30, 0, -1, 0, 0, 1, 3, 2005001]), (24, [0, 2], []), (20, [2, 20], [30, 1, 1, 1, 170, -1, 0, 0]), (102, [20], [7770675568902916283677847627294075626569627356208558085007249638955617140820833992704, 165170]), (23, [20, 1, 3], [41, 1, -1, -44]), (23, [18, 1, 3], [28, 1, -1, -44]), (23, [16, 1, 3], [19, 1, -1, -44]), (23, [12, 1, 3], [11, 1, -1, -44]), (23, [10, 1, 3], [8, 1, -1, -44]), (23, [6, 1, 3], [0, 1, -1, -44]), (102, [18], [7770675568902916283677847627294075626569627356208558085007249638955617140820833992704, 165170]), (23, [18, 1, 3], [28, 1, -1, -44]), (23, [16, 1, 3], [19, 1, -1, -44]), (23, [12, 1, 3], [11, 1, -1, -44]), (23, [10, 1, 3], [8, 1, -1, -44]), (23, [6, 1, 3], [0, 1, -1, -44]), (102, [16], [7770675568902916283677847627294075626569627356208558085007249638955617140820833992704, 165170]), (23, [16, 1, 3], [19, 1, -1, -44]), (23, [12, 1, 3], [11, 1, -1, -44]), (23, [10, 1, 3], [8, 1, -1, -44]), (23, [6, 1, 3], [0, 1, -1, -44]), (102, [12], [7770675568902916283677847627294075626569627356208558085007249638955617140820833992704, 165170]), (23, [12, 1, 3], [11, 1, -1, -44]), (23, [10, 1, 3], [8, 1, -1, -44]), (23, [6, 1, 3], [0, 1, -1, -44]), (102, [10], [7770675568902916283677847627294075626569627356208558085007249638955617140820833992704, 165170]), (23, [10, 1, 3], [8, 1, -1, -44]), (23, [6, 1, 3], [0, 1, -1, -44]), (102, [6], [7770675568902916283677847627294075626569627356208558085007249638955617140820833992704, 165170]), (23, [6, 1, 3], [0, 1, -1, -44]), (7, [3, 4], [2])], [], [(0, 0, 99999998, [])], [(20, [2, 22], [30, 0, 1, 1, 170, -1, 0, 0]), (23, [22, 1, 3], [42, 1, -1, -44])], [], [(3, 4, -4294967296, -1)])
theorem oo_Mo_writeEdges_10 {kA : Nat → ClassId} : or_ok PRD kA GG o_Mo_writeEdges_10 := by
  refine or_mk fun A ta ws vs hD hth hl => ?_
  intro t0 r0 t1 k1 t2 r2 t3 k3 t4 k4 t5 k5 t6 k6 t10 k10 t11 k11 t12 k12 t16 k16 t18 k18 t20 k20 d0 f0 f1 f2 f3 f4 f5 f6 f7 f8 f9 f10 f11 ta1 w1 le1 s1 f13 f14 f15 f16 f17 f18 ta2 w2 le2 s2 f20 f21 f22 f23 f24 ta3 w3 le3 s3 f26 f27 f28 f29 ta4 w4 le4 s4 f31 f32 f33 ta5 w5 le5 s5 f35 f36 ta6 w6 le6 s6 f38 f39
  replace f0 := shm_1905 f0
  replace f1 := shm_1904 f1
  replace f2 := shm_1903 f2
  replace f3 := shm_1901 f3
  replace f4 := shm_591 f4
  replace f5 := shm_1900 f5
  replace f6 := shm_1899 f6
  replace f7 := shm_735 f7
  replace f8 := shm_130 f8
  replace f9 := shm_131 f9
  replace f10 := shm_5 f10
  replace f11 := shm_141 f11
  replace f13 := shm_1905 f13
  replace f14 := shm_1904 f14
  replace f15 := shm_1903 f15
  replace f16 := shm_1901 f16
  replace f17 := shm_1900 f17
  replace f18 := shm_1899 f18
  replace f20 := shm_1904 f20
  replace f21 := shm_1903 f21
  replace f22 := shm_1901 f22
  replace f23 := shm_1900 f23
  replace f24 := shm_1899 f24
  replace f26 := shm_1903 f26
  replace f27 := shm_1901 f27
  replace f28 := shm_1900 f28
  replace f29 := shm_1899 f29
  replace f31 := shm_1901 f31
  replace f32 := shm_1900 f32
  replace f33 := shm_1899 f33
  replace f35 := shm_1900 f35
  replace f36 := shm_1899 f36
  replace f38 := shm_1899 f38
  replace f39 := shm_6 f39
  have q2 : n_v vs 2 = n_v vs 0 := f10.symm
  simp only [q2] at f4 f7 f8 f9 f11
  have cr_0_2 := fdq_12 hD hth r0
  have br_0_2_F5_1_0 : w_ei ws (w_ar ws (n_v vs 0) 2) (w_fi ws (n_v vs 0) 5 + 1) = w_el ws (w_ar ws (n_v vs 0) 2) (w_fi ws (n_v vs 0) 5 + 1).toNat := rfl
  have kz_0_170 := fdq_13 hD hth r0
  have kv0 := fdq_13 hD hth r0
  obtain ⟨x, ex, hx⟩ := iv_ex (ta := ta) (lo := 0) (hi := 99999998) (z := w_fi ws (n_v vs 0) 170) (by omega) (by omega) (by omega) (by omega)
  have ex2 : v_iv (Value.int x) = w_fi ws (n_v vs 0) 170 := ex
  have ex3 : 0 ≤ v_iv (Value.int x) ∧ v_iv (Value.int x) ≤ 99999998 := tv_rng hx
  have e_1 : n_v (vs ++ [Value.int x]) 1 = n_v vs 1 := n_v_old (by rw [hl]; decide)
  have e_2 : n_v (vs ++ [Value.int x]) 2 = n_v vs 2 := n_v_old (by rw [hl]; decide)
  have e_3 : n_v (vs ++ [Value.int x]) 3 = n_v vs 3 := n_v_old (by rw [hl]; decide)
  have e_22 : n_v (vs ++ [Value.int x]) 22 = Value.int x := n_v_new hl
  have nf0 : fc_1 PRD (20, [2, 22], [30, 0, 1, 1, 170, -1, 0, 0]) ws (vs ++ [Value.int x]) := by
    refine ⟨nf_inA hl rfl, sgq_140 ?_⟩
    · show 1 * w_fi ws (n_v (vs ++ [Value.int x]) 2) 170 + ((-1) * v_iv (n_v (vs ++ [Value.int x]) 22) + 0) ≤ 0
      simp only [e_2, e_22, q2]
      exact vc_Mo_writeEdges_10_0 (v_iv (n_v vs 1)) (v_iv (n_v vs 3)) (v_iv (n_v vs 4)) (v_iv (n_v vs 5)) (v_iv (n_v vs 6)) (v_iv (n_v vs 10)) (v_iv (n_v vs 11)) (v_iv (n_v vs 12)) (v_iv (n_v vs 16)) (v_iv (n_v vs 18)) (v_iv (n_v vs 20)) (w_ei ws (w_ar ws (n_v vs 0) 2)) (w_fi ws (n_v vs 0) 5) (w_fi ws (n_v vs 0) 170) (v_iv (Value.int x)) k1 k3 k4 k5 k6 k10 k11 k12 k16 k18 k20 d0 f0 f1 f2 f3 f4 f5 f6 f7 f8 f9 f11 f13 f14 f15 f16 f17 f18 f20 f21 f22 f23 f24 f26 f27 f28 f29 f31 f32 f33 f35 f36 f38 f39 kz_0_170 ex2 ex3
  have nf1 : fc_1 PRD (23, [22, 1, 3], [42, 1, -1, -44]) ws (vs ++ [Value.int x]) := by
    refine ⟨nf_inA hl rfl, sgq_1902 ?_⟩
    · show 1 * v_iv (n_v (vs ++ [Value.int x]) 22) + ((-1) * v_iv (n_v (vs ++ [Value.int x]) 1) + ((-44) * v_iv (n_v (vs ++ [Value.int x]) 3) + 0)) ≤ 42
      simp only [e_1, e_3, e_22]
      exact vc_Mo_writeEdges_10_1 (v_iv (n_v vs 1)) (v_iv (n_v vs 3)) (v_iv (n_v vs 4)) (v_iv (n_v vs 5)) (v_iv (n_v vs 6)) (v_iv (n_v vs 10)) (v_iv (n_v vs 11)) (v_iv (n_v vs 12)) (v_iv (n_v vs 16)) (v_iv (n_v vs 18)) (v_iv (n_v vs 20)) (w_ei ws (w_ar ws (n_v vs 0) 2)) (w_fi ws (n_v vs 0) 5) (w_fi ws (n_v vs 0) 170) (v_iv (Value.int x)) k1 k3 k4 k5 k6 k10 k11 k12 k16 k18 k20 d0 f0 f1 f2 f3 f4 f5 f6 f7 f8 f9 f11 f13 f14 f15 f16 f17 f18 f20 f21 f22 f23 f24 f26 f27 f28 f29 f31 f32 f33 f35 f36 f38 f39 kz_0_170 ex2 ex3
  exact ⟨(fun _ h => (by cases h)), [Value.int x], ag_one hx, List.forall_mem_cons.mpr ⟨⟨show (20 : Nat) < 100 from by decide, nf0⟩, List.forall_mem_cons.mpr ⟨⟨show (23 : Nat) < 100 from by decide, nf1⟩, (fun _ h => (by cases h))⟩⟩, (fun _ h => (by cases h))⟩
set_option maxHeartbeats 4000000 in
theorem vc_Mo_writeEdges_11_0 (x1 : Int) (x3 : Int) (x4 : Int) (x5 : Int) (x6 : Int) (x10 : Int) (x11 : Int) (x12 : Int) (x16 : Int) (x18 : Int) (x20 : Int) (x22 : Int) (x23 : Int) (all_0 : Int → Int) (r_0 : Int) (texts_0 : Int) (k1 : 0 ≤ x1 ∧ x1 ≤ 99997888) (k3 : 0 ≤ x3 ∧ x3 ≤ 47) (k4 : 1 ≤ x4 ∧ x4 ≤ 48) (k5 : 0 ≤ x5 ∧ x5 ≤ 23) (k6 : 0 ≤ x6 ∧ x6 ≤ 99999992) (k10 : 0 ≤ x10 ∧ x10 ≤ 99999997) (k11 : 0 ≤ x11 ∧ x11 ≤ 23) (k12 : 0 ≤ x12 ∧ x12 ≤ 99999992) (k16 : 0 ≤ x16 ∧ x16 ≤ 99999991) (k18 : 0 ≤ x18 ∧ x18 ≤ 99999987) (k20 : 0 ≤ x20 ∧ x20 ≤ 99999999) (k22 : 0 ≤ x22 ∧ x22 ≤ 99999998) (k23 : 1 ≤ x23 ∧ x23 ≤ 48) (d0 : x3 + 1 ≤ x23 ∧ x23 ≤ x3 + 1) (d1 : x4 + (-4294967296) ≤ x23 ∧ x23 ≤ x4 + 0) (d2 : x4 + (-4294967296) ≤ x3 ∧ x3 ≤ x4 + (-1)) (f0 : x23 = x3 + 1) (f1 : 1 * x22 + ((-1) * x1 + ((-44) * x3 + 0)) ≤ 42) (f2 : 1 * x20 + ((-1) * x1 + ((-44) * x3 + 0)) ≤ 41) (f3 : 1 * x18 + ((-1) * x1 + ((-44) * x3 + 0)) ≤ 28) (f4 : 1 * x16 + ((-1) * x1 + ((-44) * x3 + 0)) ≤ 19) (f5 : 1 * x12 + ((-1) * x1 + ((-44) * x3 + 0)) ≤ 11) (f6 : x11 = all_0 (((r_0 + 315) + x3))) (f7 : 1 * x10 + ((-1) * x1 + ((-44) * x3 + 0)) ≤ 8) (f8 : 1 * x6 + ((-1) * x1 + ((-44) * x3 + 0)) ≤ 0) (f9 : x5 = all_0 (((r_0 + 267) + x3))) (f10 : 1 * x4 + ((-1) * all_0 (r_0 + 1) + 0) ≤ 0) (f11 : (-1) * x4 + (1 * all_0 (r_0 + 1) + 0) ≤ 0) (f13 : 1 * texts_0 + ((-1) * x22 + 0) ≤ 2) (f15 : 1 * x22 + ((-1) * x1 + ((-44) * x3 + 0)) ≤ 42) (f16 : 1 * x20 + ((-1) * x1 + ((-44) * x3 + 0)) ≤ 41) (f17 : 1 * x18 + ((-1) * x1 + ((-44) * x3 + 0)) ≤ 28) (f18 : 1 * x16 + ((-1) * x1 + ((-44) * x3 + 0)) ≤ 19) (f19 : 1 * x12 + ((-1) * x1 + ((-44) * x3 + 0)) ≤ 11) (f20 : 1 * x10 + ((-1) * x1 + ((-44) * x3 + 0)) ≤ 8) (f21 : 1 * x6 + ((-1) * x1 + ((-44) * x3 + 0)) ≤ 0) (f23 : 1 * x20 + ((-1) * x1 + ((-44) * x3 + 0)) ≤ 41) (f24 : 1 * x18 + ((-1) * x1 + ((-44) * x3 + 0)) ≤ 28) (f25 : 1 * x16 + ((-1) * x1 + ((-44) * x3 + 0)) ≤ 19) (f26 : 1 * x12 + ((-1) * x1 + ((-44) * x3 + 0)) ≤ 11) (f27 : 1 * x10 + ((-1) * x1 + ((-44) * x3 + 0)) ≤ 8) (f28 : 1 * x6 + ((-1) * x1 + ((-44) * x3 + 0)) ≤ 0) (f30 : 1 * x18 + ((-1) * x1 + ((-44) * x3 + 0)) ≤ 28) (f31 : 1 * x16 + ((-1) * x1 + ((-44) * x3 + 0)) ≤ 19) (f32 : 1 * x12 + ((-1) * x1 + ((-44) * x3 + 0)) ≤ 11) (f33 : 1 * x10 + ((-1) * x1 + ((-44) * x3 + 0)) ≤ 8) (f34 : 1 * x6 + ((-1) * x1 + ((-44) * x3 + 0)) ≤ 0) (f36 : 1 * x16 + ((-1) * x1 + ((-44) * x3 + 0)) ≤ 19) (f37 : 1 * x12 + ((-1) * x1 + ((-44) * x3 + 0)) ≤ 11) (f38 : 1 * x10 + ((-1) * x1 + ((-44) * x3 + 0)) ≤ 8) (f39 : 1 * x6 + ((-1) * x1 + ((-44) * x3 + 0)) ≤ 0) (f41 : 1 * x12 + ((-1) * x1 + ((-44) * x3 + 0)) ≤ 11) (f42 : 1 * x10 + ((-1) * x1 + ((-44) * x3 + 0)) ≤ 8) (f43 : 1 * x6 + ((-1) * x1 + ((-44) * x3 + 0)) ≤ 0) (f45 : 1 * x10 + ((-1) * x1 + ((-44) * x3 + 0)) ≤ 8) (f46 : 1 * x6 + ((-1) * x1 + ((-44) * x3 + 0)) ≤ 0) (f48 : 1 * x6 + ((-1) * x1 + ((-44) * x3 + 0)) ≤ 0) (f49 : x3 < x4) (kz_0_170 : 0 ≤ texts_0 ∧ texts_0 ≤ 100000000) : 1 * texts_0 + ((-1) * x1 + ((-44) * x23 + 0)) ≤ 0 := by
  first | assumption | omega | grind
def o_Mo_writeEdges_11 : or_T := (2, 24, [(0, (2, 0, 0, [165])), (1, (0, 0, 99997888, [])), (3, (0, 0, 47, [])), (4, (0, 1, 48, [])), (5, (0, 0, 23, [])), (6, (0, 0, 99999992, [])), (10, (0, 0, 99999997, [])), (11, (0, 0, 23, [])), (12, (0, 0, 99999992, [])), (16, (0, 0, 99999991, [])), (18, (0, 0, 99999987, [])), (20, (0, 0, 99999999, [])), (22, (0, 0, 99999998, [])), (23, (0, 1, 48, []))], [(6, [23, 3], [1]), (23, [22, 1, 3], [42, 1, -1, -44]), (23, [20, 1, 3], [41, 1, -1, -44]), (23, [18, 1, 3], [28, 1, -1, -44]), (23, [16, 1, 3], [19, 1, -1, -44]), (23, [12, 1, 3], [11, 1, -1, -44]), (20, [11, 2, 3], [50, 1, 1, 1005, 1002, 1, 2, 1, 0, 3, 1, 2, 4, 7, 4, 3, 2, 1, 5, 0, 315, 1, 2]), (23, [10, 1, 3], [8, 1, -1, -44]), (23, [6, 1, 3], [0, 1, -1, -44]), (20, [5, 2, 3], [50, 1, 1, 1005, 1002, 1, 2, 1, 0, 3, 1, 2, 4, 7, 4, 3, 2, 1, 5, 0, 267, 1, 2]), (20, [4, 2], [30, 0, 1, 0, 0, -1, 3, 2005001]), (20, [4, 2], [30, 0, -1, 0, 0, 1, 3, 2005001]), (24, [0, 2], []), (20, [2, 22], [30, 2, 1, 1, 170, -1, 0, 0]), (102, [22], [7770675568902916283677847627294075626569627356208558085007249638955617140820833992704, 165170]), (23, [22, 1, 3], [42, 1, -1, -44]), (23, [20, 1, 3], [41, 1, -1, -44]), (23, [18, 1, 3], [28, 1, -1, -44]), (23, [16, 1, 3], [19, 1, -1, -44]), (23, [12, 1, 3], [11, 1, -1, -44]), (23, [10, 1, 3], [8, 1, -1, -44]), (23, [6, 1, 3], [0, 1, -1, -44]), (102, [20], [7770675568902916283677847627294075626569627356208558085007249638955617140820833992704, 165170]), (23, [20, 1, 3], [41, 1, -1, -44]), (23, [18, 1, 3], [28, 1, -1, -44]), (23, [16, 1, 3], [19, 1, -1, -44]), (23, [12, 1, 3], [11, 1, -1, -44]), (23, [10, 1, 3], [8, 1, -1, -44]), (23, [6, 1, 3], [0, 1, -1, -44]), (102, [18], [7770675568902916283677847627294075626569627356208558085007249638955617140820833992704, 165170]), (23, [18, 1, 3], [28, 1, -1, -44]), (23, [16, 1, 3], [19, 1, -1, -44]), (23, [12, 1, 3], [11, 1, -1, -44]), (23, [10, 1, 3], [8, 1, -1, -44]), (23, [6, 1, 3], [0, 1, -1, -44]), (102, [16], [7770675568902916283677847627294075626569627356208558085007249638955617140820833992704, 165170]), (23, [16, 1, 3], [19, 1, -1, -44]), (23, [12, 1, 3], [11, 1, -1, -44]), (23, [10, 1, 3], [8, 1, -1, -44]), (23, [6, 1, 3], [0, 1, -1, -44]), (102, [12], [7770675568902916283677847627294075626569627356208558085007249638955617140820833992704, 165170]), (23, [12, 1, 3], [11, 1, -1, -44]), (23, [10, 1, 3], [8, 1, -1, -44]), (23, [6, 1, 3], [0, 1, -1, -44]), (102, [10], [7770675568902916283677847627294075626569627356208558085007249638955617140820833992704, 165170]), (23, [10, 1, 3], [8, 1, -1, -44]), (23, [6, 1, 3], [0, 1, -1, -44]), (102, [6], [7770675568902916283677847627294075626569627356208558085007249638955617140820833992704, 165170]), (23, [6, 1, 3], [0, 1, -1, -44]), (7, [3, 4], [2])], [], [], [(20, [2, 1, 23], [30, 0, 1, 1, 170, -1, 0, 0, -44, 0, 0])], [], [(23, 3, 1, 1), (23, 4, -4294967296, 0), (3, 4, -4294967296, -1)])
theorem oo_Mo_writeEdges_11 {kA : Nat → ClassId} : or_ok PRD kA GG o_Mo_writeEdges_11 := by
  refine or_mk fun A ta ws vs hD hth hl => ?_
  intro t0 r0 t1 k1 t3 k3 t4 k4 t5 k5 t6 k6 t10 k10 t11 k11 t12 k12 t16 k16 t18 k18 t20 k20 t22 k22 t23 k23 d0 d1 d2 f0 f1 f2 f3 f4 f5 f6 f7 f8 f9 f10 f11 f12 f13 ta1 w1 le1 s1 f15 f16 f17 f18 f19 f20 f21 ta2 w2 le2 s2 f23 f24 f25 f26 f27 f28 ta3 w3 le3 s3 f30 f31 f32 f33 f34 ta4 w4 le4 s4 f36 f37 f38 f39 ta5 w5 le5 s5 f41 f42 f43 ta6 w6 le6 s6 f45 f46 ta7 w7 le7 s7 f48 f49
  replace f0 := shm_4 f0
  replace f1 := shm_1902 f1
  replace f2 := shm_1905 f2
  replace f3 := shm_1904 f3
  replace f4 := shm_1903 f4
  replace f5 := shm_1901 f5
  replace f6 := shm_591 f6
  replace f7 := shm_1900 f7
  replace f8 := shm_1899 f8
  replace f9 := shm_735 f9
  replace f10 := shm_130 f10
  replace f11 := shm_131 f11
  replace f12 := shm_5 f12
  replace f13 := shm_234 f13
  replace f15 := shm_1902 f15
  replace f16 := shm_1905 f16
  replace f17 := shm_1904 f17
  replace f18 := shm_1903 f18
  replace f19 := shm_1901 f19
  replace f20 := shm_1900 f20
  replace f21 := shm_1899 f21
  replace f23 := shm_1905 f23
  replace f24 := shm_1904 f24
  replace f25 := shm_1903 f25
  replace f26 := shm_1901 f26
  replace f27 := shm_1900 f27
  replace f28 := shm_1899 f28
  replace f30 := shm_1904 f30
  replace f31 := shm_1903 f31
  replace f32 := shm_1901 f32
  replace f33 := shm_1900 f33
  replace f34 := shm_1899 f34
  replace f36 := shm_1903 f36
  replace f37 := shm_1901 f37
  replace f38 := shm_1900 f38
  replace f39 := shm_1899 f39
  replace f41 := shm_1901 f41
  replace f42 := shm_1900 f42
  replace f43 := shm_1899 f43
  replace f45 := shm_1900 f45
  replace f46 := shm_1899 f46
  replace f48 := shm_1899 f48
  replace f49 := shm_6 f49
  have q2 : n_v vs 2 = n_v vs 0 := f12.symm
  simp only [q2] at f6 f9 f10 f11 f13
  have kz_0_170 := fdq_13 hD hth r0
  have nf0 : fc_1 PRD (20, [2, 1, 23], [30, 0, 1, 1, 170, -1, 0, 0, -44, 0, 0]) ws (vs) := by
    refine ⟨nf_in hl rfl, sgq_1897 ?_⟩
    · show 1 * w_fi ws (n_v vs 2) 170 + ((-1) * v_iv (n_v vs 1) + ((-44) * v_iv (n_v vs 23) + 0)) ≤ 0
      rw [q2]
      exact vc_Mo_writeEdges_11_0 (v_iv (n_v vs 1)) (v_iv (n_v vs 3)) (v_iv (n_v vs 4)) (v_iv (n_v vs 5)) (v_iv (n_v vs 6)) (v_iv (n_v vs 10)) (v_iv (n_v vs 11)) (v_iv (n_v vs 12)) (v_iv (n_v vs 16)) (v_iv (n_v vs 18)) (v_iv (n_v vs 20)) (v_iv (n_v vs 22)) (v_iv (n_v vs 23)) (w_ei ws (w_ar ws (n_v vs 0) 2)) (w_fi ws (n_v vs 0) 5) (w_fi ws (n_v vs 0) 170) k1 k3 k4 k5 k6 k10 k11 k12 k16 k18 k20 k22 k23 d0 d1 d2 f0 f1 f2 f3 f4 f5 f6 f7 f8 f9 f10 f11 f13 f15 f16 f17 f18 f19 f20 f21 f23 f24 f25 f26 f27 f28 f30 f31 f32 f33 f34 f36 f37 f38 f39 f41 f42 f43 f45 f46 f48 f49 kz_0_170
  refine ⟨(fun _ h => (by cases h)), [], trivial, ?_, (fun _ h => (by cases h))⟩
  rw [List.append_nil]
  exact List.forall_mem_cons.mpr ⟨⟨show (20 : Nat) < 100 from by decide, nf0⟩, (fun _ h => (by cases h))⟩
def n_Mo_writeEdges_an : List an_T := [(2, [(0, (2, 0, 0, [165])), (1, (0, 0, 48, []))], [], (0, 0), [(0, 0, 99998), (1, 3, 48), (0, 0, 100000)], [], [], [(2, 0, 0, [165]), (0, 0, 99997888, [])], 0, [], [(20, [2, 1, 3], [30, 0, 1, 1, 170, (Int.negSucc 0), 0, 0, (Int.negSucc 43), 0, 0]), (24, [0, 2], [])])]
def t_Mo_writeEdges_ct : ct_L := [(1, 394, e_Mo_tail), (1, 398, e_Mo_head), (1, 401, e_Mo_edges), (1, 553, e_Mo_one), (1, 737, e_Mo_weight), (1, 1293, e_Mo_writeNode), (1, 1298, e_Mo_writeNumber), (118, 1290, e_Mo_write_at_s5019), (118, 1290, e_Mo_write_at_s5020), (193, 1290, e_Mo_write_at_s5021), (241, 1290, e_Mo_write_at_s5045), (262, 1290, e_Mo_write_at_s5015), (1000001, 1301, en_ro [] (2, 0, 0, [5045])), (1000001, 1303, en_ro [] (2, 0, 0, [5015])), (1000001, 1314, en_ro [] (2, 0, 0, [5019])), (1000001, 1316, en_ro [] (2, 0, 0, [5020])), (1000001, 1318, en_ro [] (2, 0, 0, [5021]))]
set_option maxRecDepth 100000 in
theorem c_Mo_writeEdges {l : Launch} {D : va_G} {kA : Nat → ClassId} (h_Mo_edges : ct_ok PRD l D kA GG y_Mo_edges z_Mo_edges e_Mo_edges) (h_Mo_head : ct_ok PRD l D kA GG y_Mo_head z_Mo_head e_Mo_head) (h_Mo_one : ct_ok PRD l D kA GG y_Mo_one z_Mo_one e_Mo_one) (h_Mo_tail : ct_ok PRD l D kA GG y_Mo_tail z_Mo_tail e_Mo_tail) (h_Mo_weight : ct_ok PRD l D kA GG y_Mo_weight z_Mo_weight e_Mo_weight) (h_Mo_writeNode : ct_ok PRD l D kA GG y_Mo_writeNode z_Mo_writeNode e_Mo_writeNode) (h_Mo_writeNumber : ct_ok PRD l D kA GG y_Mo_writeNumber z_Mo_writeNumber e_Mo_writeNumber) (h_Mo_write_at_s5015 : ct_ok PRD l D kA GG y_Mo_write_at_s5015 z_Mo_write_at_s5015 e_Mo_write_at_s5015) (h_Mo_write_at_s5019 : ct_ok PRD l D kA GG y_Mo_write_at_s5019 z_Mo_write_at_s5019 e_Mo_write_at_s5019) (h_Mo_write_at_s5020 : ct_ok PRD l D kA GG y_Mo_write_at_s5020 z_Mo_write_at_s5020 e_Mo_write_at_s5020) (h_Mo_write_at_s5021 : ct_ok PRD l D kA GG y_Mo_write_at_s5021 z_Mo_write_at_s5021 e_Mo_write_at_s5021) (h_Mo_write_at_s5045 : ct_ok PRD l D kA GG y_Mo_write_at_s5045 z_Mo_write_at_s5045 e_Mo_write_at_s5045) : ct_ok PRD l D kA GG y_Mo_writeEdges z_Mo_writeEdges e_Mo_writeEdges := chk_all_ok (FT := []) (PT := []) (CT := t_Mo_writeEdges_ct) (KT := []) (NT := []) (AN := n_Mo_writeEdges_an) (OT := [o_Mo_writeEdges_0, o_Mo_writeEdges_1, o_Mo_writeEdges_2, o_Mo_writeEdges_3, o_Mo_writeEdges_4, o_Mo_writeEdges_5, o_Mo_writeEdges_6, o_Mo_writeEdges_7, o_Mo_writeEdges_8, o_Mo_writeEdges_9, o_Mo_writeEdges_10, o_Mo_writeEdges_11]) 3 340 (List.forall_mem_cons.mpr ⟨oo_Mo_writeEdges_0, List.forall_mem_cons.mpr ⟨oo_Mo_writeEdges_1, List.forall_mem_cons.mpr ⟨oo_Mo_writeEdges_2, List.forall_mem_cons.mpr ⟨oo_Mo_writeEdges_3, List.forall_mem_cons.mpr ⟨oo_Mo_writeEdges_4, List.forall_mem_cons.mpr ⟨oo_Mo_writeEdges_5, List.forall_mem_cons.mpr ⟨oo_Mo_writeEdges_6, List.forall_mem_cons.mpr ⟨oo_Mo_writeEdges_7, List.forall_mem_cons.mpr ⟨oo_Mo_writeEdges_8, List.forall_mem_cons.mpr ⟨oo_Mo_writeEdges_9, List.forall_mem_cons.mpr ⟨oo_Mo_writeEdges_10, List.forall_mem_cons.mpr ⟨oo_Mo_writeEdges_11, List.forall_mem_nil _⟩⟩⟩⟩⟩⟩⟩⟩⟩⟩⟩⟩) (by decide +kernel) ⟨List.forall_mem_nil _, List.forall_mem_nil _, List.forall_mem_cons.mpr ⟨cl_virtual (y := y_Mo_tail) (ci := 13) rfl rfl ⟨_, _, rfl⟩ (by decide +kernel) h_Mo_tail wm_3045 wm_9 wm_3042 wm_3044 wv_13_8 ⟨by decide, by decide, by decide +kernel⟩ (by decide), List.forall_mem_cons.mpr ⟨cl_virtual (y := y_Mo_head) (ci := 13) rfl rfl ⟨_, _, rfl⟩ (by decide +kernel) h_Mo_head wm_3049 wm_9 wm_3046 wm_3048 wv_13_9 ⟨by decide, by decide, by decide +kernel⟩ (by decide), List.forall_mem_cons.mpr ⟨cl_virtual (y := y_Mo_edges) (ci := 13) rfl rfl ⟨_, _, rfl⟩ (by decide +kernel) h_Mo_edges wm_3037 wm_9 wm_3034 wm_3036 wv_13_6 ⟨by decide, by decide, by decide +kernel⟩ (by decide), List.forall_mem_cons.mpr ⟨cl_virtual (y := y_Mo_one) (ci := 13) rfl rfl ⟨_, _, rfl⟩ (by decide +kernel) h_Mo_one wm_3299 wm_9 wm_3296 wm_3298 wv_16_15 ⟨by decide, by decide, by decide +kernel⟩ (by decide), List.forall_mem_cons.mpr ⟨cl_virtual (y := y_Mo_weight) (ci := 13) rfl rfl ⟨_, _, rfl⟩ (by decide +kernel) h_Mo_weight wm_3339 wm_9 wm_3336 wm_3338 wv_17_7 ⟨by decide, by decide, by decide +kernel⟩ (by decide), List.forall_mem_cons.mpr ⟨cl_virtual (y := y_Mo_writeNode) (ci := 13) rfl rfl ⟨_, _, rfl⟩ (by decide +kernel) h_Mo_writeNode wm_3918 wm_9 wm_3915 wm_3917 wv_24_9 ⟨by decide, by decide, by decide +kernel⟩ (by decide), List.forall_mem_cons.mpr ⟨cl_virtual (y := y_Mo_writeNumber) (ci := 13) rfl rfl ⟨_, _, rfl⟩ (by decide +kernel) h_Mo_writeNumber wm_3927 wm_9 wm_3924 wm_3926 wv_24_11 ⟨by decide, by decide, by decide +kernel⟩ (by decide), List.forall_mem_cons.mpr ⟨cl_virtual (y := y_Mo_write_at_s5019) (ci := 13) rfl rfl ⟨_, _, rfl⟩ (by decide +kernel) h_Mo_write_at_s5019 wm_3910 wm_9 wm_3907 wm_3909 wv_24_7 ⟨by decide, by decide, by decide +kernel⟩ (by decide), List.forall_mem_cons.mpr ⟨cl_virtual (y := y_Mo_write_at_s5020) (ci := 13) rfl rfl ⟨_, _, rfl⟩ (by decide +kernel) h_Mo_write_at_s5020 wm_3910 wm_9 wm_3907 wm_3909 wv_24_7 ⟨by decide, by decide, by decide +kernel⟩ (by decide), List.forall_mem_cons.mpr ⟨cl_virtual (y := y_Mo_write_at_s5021) (ci := 13) rfl rfl ⟨_, _, rfl⟩ (by decide +kernel) h_Mo_write_at_s5021 wm_3910 wm_9 wm_3907 wm_3909 wv_24_7 ⟨by decide, by decide, by decide +kernel⟩ (by decide), List.forall_mem_cons.mpr ⟨cl_virtual (y := y_Mo_write_at_s5045) (ci := 13) rfl rfl ⟨_, _, rfl⟩ (by decide +kernel) h_Mo_write_at_s5045 wm_3910 wm_9 wm_3907 wm_3909 wv_24_7 ⟨by decide, by decide, by decide +kernel⟩ (by decide), List.forall_mem_cons.mpr ⟨cl_virtual (y := y_Mo_write_at_s5015) (ci := 13) rfl rfl ⟨_, _, rfl⟩ (by decide +kernel) h_Mo_write_at_s5015 wm_3910 wm_9 wm_3907 wm_3909 wv_24_7 ⟨by decide, by decide, by decide +kernel⟩ (by decide), List.forall_mem_cons.mpr ⟨cl_ldcw (own := "DrawingHouseModel") (idx := 1301) (i := 45) (tx := "]") (by decide +kernel) (by decide +kernel) (by decide +kernel), List.forall_mem_cons.mpr ⟨cl_ldcw (own := "DrawingHouseModel") (idx := 1303) (i := 15) (tx := ";\n") (by decide +kernel) (by decide +kernel) (by decide +kernel), List.forall_mem_cons.mpr ⟨cl_ldcw (own := "DrawingHouseModel") (idx := 1314) (i := 19) (tx := " > ") (by decide +kernel) (by decide +kernel) (by decide +kernel), List.forall_mem_cons.mpr ⟨cl_ldcw (own := "DrawingHouseModel") (idx := 1316) (i := 20) (tx := " - ") (by decide +kernel) (by decide +kernel) (by decide +kernel), List.forall_mem_cons.mpr ⟨cl_ldcw (own := "DrawingHouseModel") (idx := 1318) (i := 21) (tx := " [weight=") (by decide +kernel) (by decide +kernel) (by decide +kernel), List.forall_mem_nil _⟩⟩⟩⟩⟩⟩⟩⟩⟩⟩⟩⟩⟩⟩⟩⟩⟩, List.forall_mem_nil _, List.forall_mem_nil _, GG_pl⟩ (by decide +kernel)
set_option maxHeartbeats 4000000 in
theorem vc_Mo_writeGroup_at_l0_0_0 (x2 : Int) (x3 : Int) (texts_0 : Int) (k2 : 0 ≤ x2 ∧ x2 ≤ 87902919) (k3 : 0 ≤ x3 ∧ x3 ≤ 0) (f0 : 1 * texts_0 + ((-1) * x2 + 0) ≤ 0) (kz_0_170 : 0 ≤ texts_0 ∧ texts_0 ≤ 100000000) : 1 * texts_0 + ((-1) * x2 + ((-36) * x3 + 0)) ≤ 0 := by
  first | assumption | omega | grind
def o_Mo_writeGroup_at_l0_0 : or_T := (2, 4, [(0, (2, 0, 0, [165])), (2, (0, 0, 87902919, [])), (3, (0, 0, 0, []))], [(20, [0, 2], [30, 0, 1, 1, 170, -1, 0, 0])], [], [], [(20, [0, 2, 3], [30, 0, 1, 1, 170, -1, 0, 0, -36, 0, 0]), (24, [0, 0], [])], [], [])
theorem oo_Mo_writeGroup_at_l0_0 {kA : Nat → ClassId} : or_ok PRD kA GG o_Mo_writeGroup_at_l0_0 := by
  refine or_mk fun A ta ws vs hD hth hl => ?_
  intro t0 r0 t2 k2 t3 k3 f0
  have kz_0_170 := fdq_13 hD hth r0
  have nf0 : fc_1 PRD (20, [0, 2, 3], [30, 0, 1, 1, 170, -1, 0, 0, -36, 0, 0]) ws (vs) := ⟨nf_in hl rfl, sgq_1906 (vc_Mo_writeGroup_at_l0_0_0 (v_iv (n_v vs 2)) (v_iv (n_v vs 3)) (w_fi ws (n_v vs 0) 170) k2 k3 (shm_140 f0) kz_0_170)⟩
  have nf1 : fc_1 PRD (24, [0, 0], []) ws (vs) := by
    refine ⟨nf_in hl rfl, sgq_1 ?_⟩
    · show n_v vs 0 = n_v vs 0
      first | rfl | simp only [true_and]
  refine ⟨(fun _ h => (by cases h)), [], trivial, ?_, (fun _ h => (by cases h))⟩
  rw [List.append_nil]
  exact List.forall_mem_cons.mpr ⟨⟨show (20 : Nat) < 100 from by decide, nf0⟩, List.forall_mem_cons.mpr ⟨⟨show (24 : Nat) < 100 from by decide, nf1⟩, (fun _ h => (by cases h))⟩⟩
set_option maxHeartbeats 4000000 in
theorem vc_Mo_writeGroup_at_l0_1_0 (x2 : Int) (x4 : Int) (x5 : Int) (x6 : Int) (x7 : Int) (x8 : Int) (all_0 : Int → Int) (r_0 : Int) (texts_0 : Int) (k2 : 0 ≤ x2 ∧ x2 ≤ 87902919) (k4 : 0 ≤ x4 ∧ x4 ≤ 0) (k5 : 0 ≤ x5 ∧ x5 ≤ 24) (k6 : 0 ≤ x6 ∧ x6 ≤ 24) (k7 : 1 ≤ x7 ∧ x7 ≤ 1) (k8 : 1 ≤ x8 ∧ x8 ≤ 1) (d0 : x6 + 0 ≤ x5 ∧ x5 ≤ x6 + 4294967296) (f0 : x8 = x4 + x7) (f1 : x6 ≤ x5) (f2 : 1 * x6 + ((-1) * all_0 (r_0 + 0) + 0) ≤ 0) (f3 : (-1) * x6 + (1 * all_0 (r_0 + 0) + 0) ≤ 0) (f4 : 1 * texts_0 + ((-1) * x2 + ((-36) * x5 + 0)) ≤ 0) (kz_0_170 : 0 ≤ texts_0 ∧ texts_0 ≤ 100000000) : 1 * texts_0 + ((-1) * x2 + ((-1728031) * x8 + (1728031 * x4 + 0))) ≤ (-1727167) := by
  first | assumption | omega | grind
def o_Mo_writeGroup_at_l0_1 : or_T := (83, 9, [(0, (2, 0, 0, [165])), (2, (0, 0, 87902919, [])), (4, (0, 0, 0, [])), (5, (0, 0, 24, [])), (6, (0, 0, 24, [])), (7, (0, 1, 1, [])), (8, (0, 1, 1, []))], [(1, [8, 4, 7], []), (7, [5, 6], [3]), (20, [6, 3], [30, 0, 1, 0, 0, -1, 3, 2005000]), (20, [6, 3], [30, 0, -1, 0, 0, 1, 3, 2005000]), (20, [3, 2, 5], [30, 0, 1, 1, 170, -1, 0, 0, -36, 0, 0]), (24, [0, 3], [])], [], [], [(20, [3, 2, 8, 4], [30, -1727167, 1, 1, 170, -1, 0, 0, -1728031, 0, 0, 1728031, 0, 0])], [], [(5, 6, 0, 4294967296)])
theorem oo_Mo_writeGroup_at_l0_1 {kA : Nat → ClassId} : or_ok PRD kA GG o_Mo_writeGroup_at_l0_1 := by
  refine or_mk fun A ta ws vs hD hth hl => ?_
  intro t0 r0 t2 k2 t4 k4 t5 k5 t6 k6 t7 k7 t8 k8 d0 f0 f1 f2 f3 f4 f5
  replace f0 := shm_12 f0
  replace f1 := shm_2 f1
  replace f2 := shm_135 f2
  replace f3 := shm_136 f3
  replace f4 := shm_1906 f4
  replace f5 := shm_5 f5
  have q3 : n_v vs 3 = n_v vs 0 := f5.symm
  simp only [q3] at f2 f3 f4
  have kz_0_170 := fdq_13 hD hth r0
  have nf0 : fc_1 PRD (20, [3, 2, 8, 4], [30, -1727167, 1, 1, 170, -1, 0, 0, -1728031, 0, 0, 1728031, 0, 0]) ws (vs) := by
    refine ⟨nf_in hl rfl, sgq_1907 ?_⟩
    · show 1 * w_fi ws (n_v vs 3) 170 + ((-1) * v_iv (n_v vs 2) + ((-1728031) * v_iv (n_v vs 8) + (1728031 * v_iv (n_v vs 4) + 0))) ≤ (-1727167)
      rw [q3]
      exact vc_Mo_writeGroup_at_l0_1_0 (v_iv (n_v vs 2)) (v_iv (n_v vs 4)) (v_iv (n_v vs 5)) (v_iv (n_v vs 6)) (v_iv (n_v vs 7)) (v_iv (n_v vs 8)) (w_ei ws (w_ar ws (n_v vs 0) 2)) (w_fi ws (n_v vs 0) 5) (w_fi ws (n_v vs 0) 170) k2 k4 k5 k6 k7 k8 d0 f0 f1 f2 f3 f4 kz_0_170
  refine ⟨(fun _ h => (by cases h)), [], trivial, ?_, (fun _ h => (by cases h))⟩
  rw [List.append_nil]
  exact List.forall_mem_cons.mpr ⟨⟨show (20 : Nat) < 100 from by decide, nf0⟩, (fun _ h => (by cases h))⟩
set_option maxHeartbeats 4000000 in
theorem vc_Mo_writeGroup_at_l0_2_0 (x2 : Int) (x4 : Int) (x5 : Int) (x6 : Int) (x7 : Int) (all_0 : Int → Int) (r_0 : Int) (texts_0 : Int) (gx : Int) (k2 : 0 ≤ x2 ∧ x2 ≤ 87902919) (k4 : 0 ≤ x4 ∧ x4 ≤ 0) (k5 : 0 ≤ x5 ∧ x5 ≤ 23) (k6 : 1 ≤ x6 ∧ x6 ≤ 24) (k7 : 0 ≤ x7 ∧ x7 ≤ 0) (d0 : x6 + (-4294967296) ≤ x5 ∧ x5 ≤ x6 + (-1)) (f0 : x7 = x4) (f1 : x7 = all_0 (((r_0 + 243) + x5))) (f2 : x5 < x6) (f3 : 1 * x6 + ((-1) * all_0 (r_0 + 0) + 0) ≤ 0) (f4 : (-1) * x6 + (1 * all_0 (r_0 + 0) + 0) ≤ 0) (f5 : 1 * texts_0 + ((-1) * x2 + ((-36) * x5 + 0)) ≤ 0) (kz_0_170 : 0 ≤ texts_0 ∧ texts_0 ≤ 100000000) (ex2 : gx = texts_0) (ex3 : 0 ≤ gx ∧ gx ≤ 99999995) : 1 * texts_0 + ((-1) * gx + 0) ≤ 0 := by
  first | assumption | omega | grind
set_option maxHeartbeats 4000000 in
theorem vc_Mo_writeGroup_at_l0_2_1 (x2 : Int) (x4 : Int) (x5 : Int) (x6 : Int) (x7 : Int) (all_0 : Int → Int) (r_0 : Int) (texts_0 : Int) (gx : Int) (k2 : 0 ≤ x2 ∧ x2 ≤ 87902919) (k4 : 0 ≤ x4 ∧ x4 ≤ 0) (k5 : 0 ≤ x5 ∧ x5 ≤ 23) (k6 : 1 ≤ x6 ∧ x6 ≤ 24) (k7 : 0 ≤ x7 ∧ x7 ≤ 0) (d0 : x6 + (-4294967296) ≤ x5 ∧ x5 ≤ x6 + (-1)) (f0 : x7 = x4) (f1 : x7 = all_0 (((r_0 + 243) + x5))) (f2 : x5 < x6) (f3 : 1 * x6 + ((-1) * all_0 (r_0 + 0) + 0) ≤ 0) (f4 : (-1) * x6 + (1 * all_0 (r_0 + 0) + 0) ≤ 0) (f5 : 1 * texts_0 + ((-1) * x2 + ((-36) * x5 + 0)) ≤ 0) (kz_0_170 : 0 ≤ texts_0 ∧ texts_0 ≤ 100000000) (ex2 : gx = texts_0) (ex3 : 0 ≤ gx ∧ gx ≤ 99999995) : 1 * gx + ((-1) * x2 + ((-36) * x5 + 0)) ≤ 0 := by
  first | assumption | omega | grind
def o_Mo_writeGroup_at_l0_2 : or_T := (26, 9, [(0, (2, 0, 0, [165])), (2, (0, 0, 87902919, [])), (3, (2, 0, 0, [165])), (4, (0, 0, 0, [])), (5, (0, 0, 23, [])), (6, (0, 1, 24, [])), (7, (0, 0, 0, []))], [(7, [7, 4], [0]), (20, [7, 3, 5], [50, 1, 1, 1005, 1002, 1, 2, 1, 0, 3, 1, 2, 4, 7, 4, 3, 2, 1, 5, 0, 243, 1, 2]), (7, [5, 6], [2]), (20, [6, 3], [30, 0, 1, 0, 0, -1, 3, 2005000]), (20, [6, 3], [30, 0, -1, 0, 0, 1, 3, 2005000]), (20, [3, 2, 5], [30, 0, 1, 1, 170, -1, 0, 0, -36, 0, 0]), (24, [0, 3], [])], [], [(0, 0, 99999995, [])], [(20, [3, 9], [30, 0, 1, 1, 170, -1, 0, 0]), (23, [9, 2, 5], [0, 1, -1, -36])], [], [(5, 6, -4294967296, -1)])
theorem oo_Mo_writeGroup_at_l0_2 {kA : Nat → ClassId} : or_ok PRD kA GG o_Mo_writeGroup_at_l0_2 := by
  refine or_mk fun A ta ws vs hD hth hl => ?_
  intro t0 r0 t2 k2 t3 r3 t4 k4 t5 k5 t6 k6 t7 k7 d0 f0 f1 f2 f3 f4 f5 f6
  replace f0 := shm_37 f0
  replace f1 := shm_585 f1
  replace f2 := shm_6 f2
  replace f3 := shm_135 f3
  replace f4 := shm_136 f4
  replace f5 := shm_1906 f5
  replace f6 := shm_5 f6
  have q3 : n_v vs 3 = n_v vs 0 := f6.symm
  simp only [q3] at f1 f3 f4 f5
  have cr_0_2 := fdq_12 hD hth r0
  have br_0_2_F5_0_0 : w_ei ws (w_ar ws (n_v vs 0) 2) (w_fi ws (n_v vs 0) 5 + 0) = w_el ws (w_ar ws (n_v vs 0) 2) (w_fi ws (n_v vs 0) 5 + 0).toNat := rfl
  have kz_0_170 := fdq_13 hD hth r0
  have kv0 := fdq_13 hD hth r0
  obtain ⟨x, ex, hx⟩ := iv_ex (ta := ta) (lo := 0) (hi := 99999995) (z := w_fi ws (n_v vs 0) 170) (by omega) (by omega) (by omega) (by omega)
  have ex2 : v_iv (Value.int x) = w_fi ws (n_v vs 0) 170 := ex
  have ex3 : 0 ≤ v_iv (Value.int x) ∧ v_iv (Value.int x) ≤ 99999995 := tv_rng hx
  have e_2 : n_v (vs ++ [Value.int x]) 2 = n_v vs 2 := n_v_old (by rw [hl]; decide)
  have e_3 : n_v (vs ++ [Value.int x]) 3 = n_v vs 3 := n_v_old (by rw [hl]; decide)
  have e_5 : n_v (vs ++ [Value.int x]) 5 = n_v vs 5 := n_v_old (by rw [hl]; decide)
  have e_9 : n_v (vs ++ [Value.int x]) 9 = Value.int x := n_v_new hl
  have nf0 : fc_1 PRD (20, [3, 9], [30, 0, 1, 1, 170, -1, 0, 0]) ws (vs ++ [Value.int x]) := by
    refine ⟨nf_inA hl rfl, sgq_140 ?_⟩
    · show 1 * w_fi ws (n_v (vs ++ [Value.int x]) 3) 170 + ((-1) * v_iv (n_v (vs ++ [Value.int x]) 9) + 0) ≤ 0
      simp only [e_3, e_9, q3]
      exact vc_Mo_writeGroup_at_l0_2_0 (v_iv (n_v vs 2)) (v_iv (n_v vs 4)) (v_iv (n_v vs 5)) (v_iv (n_v vs 6)) (v_iv (n_v vs 7)) (w_ei ws (w_ar ws (n_v vs 0) 2)) (w_fi ws (n_v vs 0) 5) (w_fi ws (n_v vs 0) 170) (v_iv (Value.int x)) k2 k4 k5 k6 k7 d0 f0 f1 f2 f3 f4 f5 kz_0_170 ex2 ex3
  have nf1 : fc_1 PRD (23, [9, 2, 5], [0, 1, -1, -36]) ws (vs ++ [Value.int x]) := by
    refine ⟨nf_inA hl rfl, sgq_1908 ?_⟩
    · show 1 * v_iv (n_v (vs ++ [Value.int x]) 9) + ((-1) * v_iv (n_v (vs ++ [Value.int x]) 2) + ((-36) * v_iv (n_v (vs ++ [Value.int x]) 5) + 0)) ≤ 0
      simp only [e_2, e_5, e_9]
      exact vc_Mo_writeGroup_at_l0_2_1 (v_iv (n_v vs 2)) (v_iv (n_v vs 4)) (v_iv (n_v vs 5)) (v_iv (n_v vs 6)) (v_iv (n_v vs 7)) (w_ei ws (w_ar ws (n_v vs 0) 2)) (w_fi ws (n_v vs 0) 5) (w_fi ws (n_v vs 0) 170) (v_iv (Value.int x)) k2 k4 k5 k6 k7 d0 f0 f1 f2 f3 f4 f5 kz_0_170 ex2 ex3
  exact ⟨(fun _ h => (by cases h)), [Value.int x], ag_one hx, List.forall_mem_cons.mpr ⟨⟨show (20 : Nat) < 100 from by decide, nf0⟩, List.forall_mem_cons.mpr ⟨⟨show (23 : Nat) < 100 from by decide, nf1⟩, (fun _ h => (by cases h))⟩⟩, (fun _ h => (by cases h))⟩
set_option maxHeartbeats 4000000 in
theorem vc_Mo_writeGroup_at_l0_3_0 (x2 : Int) (x4 : Int) (x5 : Int) (x6 : Int) (x7 : Int) (x9 : Int) (all_0 : Int → Int) (r_0 : Int) (texts_0 : Int) (gx : Int) (k2 : 0 ≤ x2 ∧ x2 ≤ 87902919) (k4 : 0 ≤ x4 ∧ x4 ≤ 0) (k5 : 0 ≤ x5 ∧ x5 ≤ 23) (k6 : 1 ≤ x6 ∧ x6 ≤ 24) (k7 : 0 ≤ x7 ∧ x7 ≤ 0) (k9 : 0 ≤ x9 ∧ x9 ≤ 99999995) (d0 : x6 + (-4294967296) ≤ x5 ∧ x5 ≤ x6 + (-1)) (f0 : 1 * x9 + ((-1) * x2 + ((-36) * x5 + 0)) ≤ 0) (f1 : x7 = all_0 (((r_0 + 243) + x5))) (f2 : 1 * x6 + ((-1) * all_0 (r_0 + 0) + 0) ≤ 0) (f3 : (-1) * x6 + (1 * all_0 (r_0 + 0) + 0) ≤ 0) (f5 : 1 * texts_0 + ((-1) * x9 + 0) ≤ 5) (f7 : 1 * x9 + ((-1) * x2 + ((-36) * x5 + 0)) ≤ 0) (f8 : x7 = x4) (f9 : x5 < x6) (kz_0_170 : 0 ≤ texts_0 ∧ texts_0 ≤ 100000000) (ex2 : gx = texts_0) (ex3 : 0 ≤ gx ∧ gx ≤ 99999992) : 1 * texts_0 + ((-1) * gx + 0) ≤ 0 := by
  first | assumption | omega | grind
set_option maxHeartbeats 4000000 in
theorem vc_Mo_writeGroup_at_l0_3_1 (x2 : Int) (x4 : Int) (x5 : Int) (x6 : Int) (x7 : Int) (x9 : Int) (all_0 : Int → Int) (r_0 : Int) (texts_0 : Int) (gx : Int) (k2 : 0 ≤ x2 ∧ x2 ≤ 87902919) (k4 : 0 ≤ x4 ∧ x4 ≤ 0) (k5 : 0 ≤ x5 ∧ x5 ≤ 23) (k6 : 1 ≤ x6 ∧ x6 ≤ 24) (k7 : 0 ≤ x7 ∧ x7 ≤ 0) (k9 : 0 ≤ x9 ∧ x9 ≤ 99999995) (d0 : x6 + (-4294967296) ≤ x5 ∧ x5 ≤ x6 + (-1)) (f0 : 1 * x9 + ((-1) * x2 + ((-36) * x5 + 0)) ≤ 0) (f1 : x7 = all_0 (((r_0 + 243) + x5))) (f2 : 1 * x6 + ((-1) * all_0 (r_0 + 0) + 0) ≤ 0) (f3 : (-1) * x6 + (1 * all_0 (r_0 + 0) + 0) ≤ 0) (f5 : 1 * texts_0 + ((-1) * x9 + 0) ≤ 5) (f7 : 1 * x9 + ((-1) * x2 + ((-36) * x5 + 0)) ≤ 0) (f8 : x7 = x4) (f9 : x5 < x6) (kz_0_170 : 0 ≤ texts_0 ∧ texts_0 ≤ 100000000) (ex2 : gx = texts_0) (ex3 : 0 ≤ gx ∧ gx ≤ 99999992) : 1 * gx + ((-1) * x2 + ((-36) * x5 + 0)) ≤ 5 := by
  first | assumption | omega | grind
def o_Mo_writeGroup_at_l0_3 : or_T := (31, 10, [(0, (2, 0, 0, [165])), (2, (0, 0, 87902919, [])), (3, (2, 0, 0, [165])), (4, (0, 0, 0, [])), (5, (0, 0, 23, [])), (6, (0, 1, 24, [])), (7, (0, 0, 0, [])), (9, (0, 0, 99999995, []))], [(23, [9, 2, 5], [0, 1, -1, -36]), (20, [7, 3, 5], [50, 1, 1, 1005, 1002, 1, 2, 1, 0, 3, 1, 2, 4, 7, 4, 3, 2, 1, 5, 0, 243, 1, 2]), (20, [6, 3], [30, 0, 1, 0, 0, -1, 3, 2005000]), (20, [6, 3], [30, 0, -1, 0, 0, 1, 3, 2005000]), (24, [0, 3], []), (20, [3, 9], [30, 5, 1, 1, 170, -1, 0, 0]), (102, [9], [7770675568902916283677847627294075626569627356208558085007249638955617140820833992704, 165170]), (23, [9, 2, 5], [0, 1, -1, -36]), (7, [7, 4], [0]), (7, [5, 6], [2])], [], [(0, 0, 99999992, [])], [(20, [3, 10], [30, 0, 1, 1, 170, -1, 0, 0]), (23, [10, 2, 5], [5, 1, -1, -36])], [], [(5, 6, -4294967296, -1)])
theorem oo_Mo_writeGroup_at_l0_3 {kA : Nat → ClassId} : or_ok PRD kA GG o_Mo_writeGroup_at_l0_3 := by
  refine or_mk fun A ta ws vs hD hth hl => ?_
  intro t0 r0 t2 k2 t3 r3 t4 k4 t5 k5 t6 k6 t7 k7 t9 k9 d0 f0 f1 f2 f3 f4 f5 ta1 w1 le1 s1 f7 f8 f9
  replace f0 := shm_1908 f0
  replace f1 := shm_585 f1
  replace f2 := shm_135 f2
  replace f3 := shm_136 f3
  replace f4 := shm_5 f4
  replace f5 := shm_232 f5
  replace f7 := shm_1908 f7
  replace f8 := shm_37 f8
  replace f9 := shm_6 f9
  have q3 : n_v vs 3 = n_v vs 0 := f4.symm
  simp only [q3] at f1 f2 f3 f5
  have cr_0_2 := fdq_12 hD hth r0
  have br_0_2_F5_0_0 : w_ei ws (w_ar ws (n_v vs 0) 2) (w_fi ws (n_v vs 0) 5 + 0) = w_el ws (w_ar ws (n_v vs 0) 2) (w_fi ws (n_v vs 0) 5 + 0).toNat := rfl
  have kz_0_170 := fdq_13 hD hth r0
  have kv0 := fdq_13 hD hth r0
  obtain ⟨x, ex, hx⟩ := iv_ex (ta := ta) (lo := 0) (hi := 99999992) (z := w_fi ws (n_v vs 0) 170) (by omega) (by omega) (by omega) (by omega)
  have ex2 : v_iv (Value.int x) = w_fi ws (n_v vs 0) 170 := ex
  have ex3 : 0 ≤ v_iv (Value.int x) ∧ v_iv (Value.int x) ≤ 99999992 := tv_rng hx
  have e_2 : n_v (vs ++ [Value.int x]) 2 = n_v vs 2 := n_v_old (by rw [hl]; decide)
  have e_3 : n_v (vs ++ [Value.int x]) 3 = n_v vs 3 := n_v_old (by rw [hl]; decide)
  have e_5 : n_v (vs ++ [Value.int x]) 5 = n_v vs 5 := n_v_old (by rw [hl]; decide)
  have e_10 : n_v (vs ++ [Value.int x]) 10 = Value.int x := n_v_new hl
  have nf0 : fc_1 PRD (20, [3, 10], [30, 0, 1, 1, 170, -1, 0, 0]) ws (vs ++ [Value.int x]) := by
    refine ⟨nf_inA hl rfl, sgq_140 ?_⟩
    · show 1 * w_fi ws (n_v (vs ++ [Value.int x]) 3) 170 + ((-1) * v_iv (n_v (vs ++ [Value.int x]) 10) + 0) ≤ 0
      simp only [e_3, e_10, q3]
      exact vc_Mo_writeGroup_at_l0_3_0 (v_iv (n_v vs 2)) (v_iv (n_v vs 4)) (v_iv (n_v vs 5)) (v_iv (n_v vs 6)) (v_iv (n_v vs 7)) (v_iv (n_v vs 9)) (w_ei ws (w_ar ws (n_v vs 0) 2)) (w_fi ws (n_v vs 0) 5) (w_fi ws (n_v vs 0) 170) (v_iv (Value.int x)) k2 k4 k5 k6 k7 k9 d0 f0 f1 f2 f3 f5 f7 f8 f9 kz_0_170 ex2 ex3
  have nf1 : fc_1 PRD (23, [10, 2, 5], [5, 1, -1, -36]) ws (vs ++ [Value.int x]) := by
    refine ⟨nf_inA hl rfl, sgq_1909 ?_⟩
    · show 1 * v_iv (n_v (vs ++ [Value.int x]) 10) + ((-1) * v_iv (n_v (vs ++ [Value.int x]) 2) + ((-36) * v_iv (n_v (vs ++ [Value.int x]) 5) + 0)) ≤ 5
      simp only [e_2, e_5, e_10]
      exact vc_Mo_writeGroup_at_l0_3_1 (v_iv (n_v vs 2)) (v_iv (n_v vs 4)) (v_iv (n_v vs 5)) (v_iv (n_v vs 6)) (v_iv (n_v vs 7)) (v_iv (n_v vs 9)) (w_ei ws (w_ar ws (n_v vs 0) 2)) (w_fi ws (n_v vs 0) 5) (w_fi ws (n_v vs 0) 170) (v_iv (Value.int x)) k2 k4 k5 k6 k7 k9 d0 f0 f1 f2 f3 f5 f7 f8 f9 kz_0_170 ex2 ex3
  exact ⟨(fun _ h => (by cases h)), [Value.int x], ag_one hx, List.forall_mem_cons.mpr ⟨⟨show (20 : Nat) < 100 from by decide, nf0⟩, List.forall_mem_cons.mpr ⟨⟨show (23 : Nat) < 100 from by decide, nf1⟩, (fun _ h => (by cases h))⟩⟩, (fun _ h => (by cases h))⟩
set_option maxHeartbeats 4000000 in
theorem vc_Mo_writeGroup_at_l0_4_0 (x2 : Int) (x4 : Int) (x5 : Int) (x6 : Int) (x7 : Int) (x9 : Int) (x10 : Int) (x11 : Int) (x12 : Int) (all_0 : Int → Int) (r_0 : Int) (texts_0 : Int) (gx : Int) (k2 : 0 ≤ x2 ∧ x2 ≤ 87902919) (k4 : 0 ≤ x4 ∧ x4 ≤ 0) (k5 : 0 ≤ x5 ∧ x5 ≤ 23) (k6 : 1 ≤ x6 ∧ x6 ≤ 24) (k7 : 0 ≤ x7 ∧ x7 ≤ 0) (k9 : 0 ≤ x9 ∧ x9 ≤ 99999995) (k10 : 0 ≤ x10 ∧ x10 ≤ 99999992) (k11 : 0 ≤ x11 ∧ x11 ≤ 1) (k12 : 1 ≤ x12 ∧ x12 ≤ 1) (d0 : x6 + (-4294967296) ≤ x5 ∧ x5 ≤ x6 + (-1)) (f0 : x11 ≤ x12) (f1 : x11 = all_0 (((r_0 + 219) + x5))) (f2 : 1 * x10 + ((-1) * x2 + ((-36) * x5 + 0)) ≤ 5) (f3 : 1 * x9 + ((-1) * x2 + ((-36) * x5 + 0)) ≤ 0) (f4 : x7 = all_0 (((r_0 + 243) + x5))) (f5 : 1 * x6 + ((-1) * all_0 (r_0 + 0) + 0) ≤ 0) (f6 : (-1) * x6 + (1 * all_0 (r_0 + 0) + 0) ≤ 0) (f8 : 1 * texts_0 + ((-1) * x10 + 0) ≤ 8) (f10 : 1 * x10 + ((-1) * x2 + ((-36) * x5 + 0)) ≤ 5) (f11 : 1 * x9 + ((-1) * x2 + ((-36) * x5 + 0)) ≤ 0) (f13 : 1 * x9 + ((-1) * x2 + ((-36) * x5 + 0)) ≤ 0) (f14 : x7 = x4) (f15 : x5 < x6) (kz_0_170 : 0 ≤ texts_0 ∧ texts_0 ≤ 100000000) (ex2 : gx = texts_0) (ex3 : 0 ≤ gx ∧ gx ≤ 99999998) : 1 * texts_0 + ((-1) * gx + 0) ≤ 0 := by
  first | assumption | omega | grind
set_option maxHeartbeats 4000000 in
theorem vc_Mo_writeGroup_at_l0_4_1 (x2 : Int) (x4 : Int) (x5 : Int) (x6 : Int) (x7 : Int) (x9 : Int) (x10 : Int) (x11 : Int) (x12 : Int) (all_0 : Int → Int) (r_0 : Int) (texts_0 : Int) (gx : Int) (k2 : 0 ≤ x2 ∧ x2 ≤ 87902919) (k4 : 0 ≤ x4 ∧ x4 ≤ 0) (k5 : 0 ≤ x5 ∧ x5 ≤ 23) (k6 : 1 ≤ x6 ∧ x6 ≤ 24) (k7 : 0 ≤ x7 ∧ x7 ≤ 0) (k9 : 0 ≤ x9 ∧ x9 ≤ 99999995) (k10 : 0 ≤ x10 ∧ x10 ≤ 99999992) (k11 : 0 ≤ x11 ∧ x11 ≤ 1) (k12 : 1 ≤ x12 ∧ x12 ≤ 1) (d0 : x6 + (-4294967296) ≤ x5 ∧ x5 ≤ x6 + (-1)) (f0 : x11 ≤ x12) (f1 : x11 = all_0 (((r_0 + 219) + x5))) (f2 : 1 * x10 + ((-1) * x2 + ((-36) * x5 + 0)) ≤ 5) (f3 : 1 * x9 + ((-1) * x2 + ((-36) * x5 + 0)) ≤ 0) (f4 : x7 = all_0 (((r_0 + 243) + x5))) (f5 : 1 * x6 + ((-1) * all_0 (r_0 + 0) + 0) ≤ 0) (f6 : (-1) * x6 + (1 * all_0 (r_0 + 0) + 0) ≤ 0) (f8 : 1 * texts_0 + ((-1) * x10 + 0) ≤ 8) (f10 : 1 * x10 + ((-1) * x2 + ((-36) * x5 + 0)) ≤ 5) (f11 : 1 * x9 + ((-1) * x2 + ((-36) * x5 + 0)) ≤ 0) (f13 : 1 * x9 + ((-1) * x2 + ((-36) * x5 + 0)) ≤ 0) (f14 : x7 = x4) (f15 : x5 < x6) (kz_0_170 : 0 ≤ texts_0 ∧ texts_0 ≤ 100000000) (ex2 : gx = texts_0) (ex3 : 0 ≤ gx ∧ gx ≤ 99999998) : 1 * gx + ((-1) * x2 + ((-36) * x5 + 0)) ≤ 34 := by
  first | assumption | omega | grind
def o_Mo_writeGroup_at_l0_4 : or_T := (70, 14, [(0, (2, 0, 0, [165])), (2, (0, 0, 87902919, [])), (3, (2, 0, 0, [165])), (4, (0, 0, 0, [])), (5, (0, 0, 23, [])), (6, (0, 1, 24, [])), (7, (0, 0, 0, [])), (9, (0, 0, 99999995, [])), (10, (0, 0, 99999992, [])), (11, (0, 0, 1, [])), (12, (0, 1, 1, []))], [(7, [11, 12], [5]), (20, [11, 3, 5], [50, 1, 1, 1005, 1002, 1, 2, 1, 0, 3, 1, 2, 4, 7, 4, 3, 2, 1, 5, 0, 219, 1, 2]), (23, [10, 2, 5], [5, 1, -1, -36]), (23, [9, 2, 5], [0, 1, -1, -36]), (20, [7, 3, 5], [50, 1, 1, 1005, 1002, 1, 2, 1, 0, 3, 1, 2, 4, 7, 4, 3, 2, 1, 5, 0, 243, 1, 2]), (20, [6, 3], [30, 0, 1, 0, 0, -1, 3, 2005000]), (20, [6, 3], [30, 0, -1, 0, 0, 1, 3, 2005000]), (24, [0, 3], []), (20, [3, 10], [30, 8, 1, 1, 170, -1, 0, 0]), (102, [10], [7770675568902916283677847627294075626569627356208558085007249638955617140820833992704, 165170]), (23, [10, 2, 5], [5, 1, -1, -36]), (23, [9, 2, 5], [0, 1, -1, -36]), (102, [9], [7770675568902916283677847627294075626569627356208558085007249638955617140820833992704, 165170]), (23, [9, 2, 5], [0, 1, -1, -36]), (7, [7, 4], [0]), (7, [5, 6], [2])], [], [(0, 0, 99999998, [])], [(20, [3, 14], [30, 0, 1, 1, 170, -1, 0, 0]), (23, [14, 2, 5], [34, 1, -1, -36])], [], [(5, 6, -4294967296, -1)])
theorem oo_Mo_writeGroup_at_l0_4 {kA : Nat → ClassId} : or_ok PRD kA GG o_Mo_writeGroup_at_l0_4 := by
  refine or_mk fun A ta ws vs hD hth hl => ?_
  intro t0 r0 t2 k2 t3 r3 t4 k4 t5 k5 t6 k6 t7 k7 t9 k9 t10 k10 t11 k11 t12 k12 d0 f0 f1 f2 f3 f4 f5 f6 f7 f8 ta1 w1 le1 s1 f10 f11 ta2 w2 le2 s2 f13 f14 f15
  replace f0 := shm_24 f0
  replace f1 := shm_718 f1
  replace f2 := shm_1909 f2
  replace f3 := shm_1908 f3
  replace f4 := shm_585 f4
  replace f5 := shm_135 f5
  replace f6 := shm_136 f6
  replace f7 := shm_5 f7
  replace f8 := shm_172 f8
  replace f10 := shm_1909 f10
  replace f11 := shm_1908 f11
  replace f13 := shm_1908 f13
  replace f14 := shm_37 f14
  replace f15 := shm_6 f15
  have q3 : n_v vs 3 = n_v vs 0 := f7.symm
  simp only [q3] at f1 f4 f5 f6 f8
  have cr_0_2 := fdq_12 hD hth r0
  have br_0_2_F5_0_0 : w_ei ws (w_ar ws (n_v vs 0) 2) (w_fi ws (n_v vs 0) 5 + 0) = w_el ws (w_ar ws (n_v vs 0) 2) (w_fi ws (n_v vs 0) 5 + 0).toNat := rfl
  have kz_0_170 := fdq_13 hD hth r0
  have kv0 := fdq_13 hD hth r0
  obtain ⟨x, ex, hx⟩ := iv_ex (ta := ta) (lo := 0) (hi := 99999998) (z := w_fi ws (n_v vs 0) 170) (by omega) (by omega) (by omega) (by omega)
  have ex2 : v_iv (Value.int x) = w_fi ws (n_v vs 0) 170 := ex
  have ex3 : 0 ≤ v_iv (Value.int x) ∧ v_iv (Value.int x) ≤ 99999998 := tv_rng hx
  have e_2 : n_v (vs ++ [Value.int x]) 2 = n_v vs 2 := n_v_old (by rw [hl]; decide)
  have e_3 : n_v (vs ++ [Value.int x]) 3 = n_v vs 3 := n_v_old (by rw [hl]; decide)
  have e_5 : n_v (vs ++ [Value.int x]) 5 = n_v vs 5 := n_v_old (by rw [hl]; decide)
  have e_14 : n_v (vs ++ [Value.int x]) 14 = Value.int x := n_v_new hl
  have nf0 : fc_1 PRD (20, [3, 14], [30, 0, 1, 1, 170, -1, 0, 0]) ws (vs ++ [Value.int x]) := by
    refine ⟨nf_inA hl rfl, sgq_140 ?_⟩
    · show 1 * w_fi ws (n_v (vs ++ [Value.int x]) 3) 170 + ((-1) * v_iv (n_v (vs ++ [Value.int x]) 14) + 0) ≤ 0
      simp only [e_3, e_14, q3]
      exact vc_Mo_writeGroup_at_l0_4_0 (v_iv (n_v vs 2)) (v_iv (n_v vs 4)) (v_iv (n_v vs 5)) (v_iv (n_v vs 6)) (v_iv (n_v vs 7)) (v_iv (n_v vs 9)) (v_iv (n_v vs 10)) (v_iv (n_v vs 11)) (v_iv (n_v vs 12)) (w_ei ws (w_ar ws (n_v vs 0) 2)) (w_fi ws (n_v vs 0) 5) (w_fi ws (n_v vs 0) 170) (v_iv (Value.int x)) k2 k4 k5 k6 k7 k9 k10 k11 k12 d0 f0 f1 f2 f3 f4 f5 f6 f8 f10 f11 f13 f14 f15 kz_0_170 ex2 ex3
  have nf1 : fc_1 PRD (23, [14, 2, 5], [34, 1, -1, -36]) ws (vs ++ [Value.int x]) := by
    refine ⟨nf_inA hl rfl, sgq_1910 ?_⟩
    · show 1 * v_iv (n_v (vs ++ [Value.int x]) 14) + ((-1) * v_iv (n_v (vs ++ [Value.int x]) 2) + ((-36) * v_iv (n_v (vs ++ [Value.int x]) 5) + 0)) ≤ 34
      simp only [e_2, e_5, e_14]
      exact vc_Mo_writeGroup_at_l0_4_1 (v_iv (n_v vs 2)) (v_iv (n_v vs 4)) (v_iv (n_v vs 5)) (v_iv (n_v vs 6)) (v_iv (n_v vs 7)) (v_iv (n_v vs 9)) (v_iv (n_v vs 10)) (v_iv (n_v vs 11)) (v_iv (n_v vs 12)) (w_ei ws (w_ar ws (n_v vs 0) 2)) (w_fi ws (n_v vs 0) 5) (w_fi ws (n_v vs 0) 170) (v_iv (Value.int x)) k2 k4 k5 k6 k7 k9 k10 k11 k12 d0 f0 f1 f2 f3 f4 f5 f6 f8 f10 f11 f13 f14 f15 kz_0_170 ex2 ex3
  exact ⟨(fun _ h => (by cases h)), [Value.int x], ag_one hx, List.forall_mem_cons.mpr ⟨⟨show (20 : Nat) < 100 from by decide, nf0⟩, List.forall_mem_cons.mpr ⟨⟨show (23 : Nat) < 100 from by decide, nf1⟩, (fun _ h => (by cases h))⟩⟩, (fun _ h => (by cases h))⟩
set_option maxHeartbeats 4000000 in
theorem vc_Mo_writeGroup_at_l0_5_0 (x2 : Int) (x4 : Int) (x5 : Int) (x6 : Int) (x7 : Int) (x9 : Int) (x10 : Int) (x11 : Int) (x12 : Int) (x14 : Int) (x15 : Int) (all_0 : Int → Int) (r_0 : Int) (texts_0 : Int) (k2 : 0 ≤ x2 ∧ x2 ≤ 87902919) (k4 : 0 ≤ x4 ∧ x4 ≤ 0) (k5 : 0 ≤ x5 ∧ x5 ≤ 23) (k6 : 1 ≤ x6 ∧ x6 ≤ 24) (k7 : 0 ≤ x7 ∧ x7 ≤ 0) (k9 : 0 ≤ x9 ∧ x9 ≤ 99999995) (k10 : 0 ≤ x10 ∧ x10 ≤ 99999992) (k11 : 0 ≤ x11 ∧ x11 ≤ 1) (k12 : 1 ≤ x12 ∧ x12 ≤ 1) (k14 : 0 ≤ x14 ∧ x14 ≤ 99999998) (k15 : 1 ≤ x15 ∧ x15 ≤ 24) (d0 : x5 + 1 ≤ x15 ∧ x15 ≤ x5 + 1) (d1 : x6 + (-4294967296) ≤ x15 ∧ x15 ≤ x6 + 0) (d2 : x6 + (-4294967296) ≤ x5 ∧ x5 ≤ x6 + (-1)) (f0 : x15 = x5 + 1) (f1 : 1 * x14 + ((-1) * x2 + ((-36) * x5 + 0)) ≤ 34) (f2 : x11 = all_0 (((r_0 + 219) + x5))) (f3 : 1 * x10 + ((-1) * x2 + ((-36) * x5 + 0)) ≤ 5) (f4 : 1 * x9 + ((-1) * x2 + ((-36) * x5 + 0)) ≤ 0) (f5 : x7 = all_0 (((r_0 + 243) + x5))) (f6 : 1 * x6 + ((-1) * all_0 (r_0 + 0) + 0) ≤ 0) (f7 : (-1) * x6 + (1 * all_0 (r_0 + 0) + 0) ≤ 0) (f9 : 1 * texts_0 + ((-1) * x14 + 0) ≤ 2) (f11 : 1 * x14 + ((-1) * x2 + ((-36) * x5 + 0)) ≤ 34) (f12 : x11 ≤ x12) (f13 : 1 * x10 + ((-1) * x2 + ((-36) * x5 + 0)) ≤ 5) (f14 : 1 * x9 + ((-1) * x2 + ((-36) * x5 + 0)) ≤ 0) (f16 : 1 * x10 + ((-1) * x2 + ((-36) * x5 + 0)) ≤ 5) (f17 : 1 * x9 + ((-1) * x2 + ((-36) * x5 + 0)) ≤ 0) (f19 : 1 * x9 + ((-1) * x2 + ((-36) * x5 + 0)) ≤ 0) (f20 : x7 = x4) (f21 : x5 < x6) (kz_0_170 : 0 ≤ texts_0 ∧ texts_0 ≤ 100000000) : 1 * texts_0 + ((-1) * x2 + ((-36) * x15 + 0)) ≤ 0 := by
  first | assumption | omega | grind
def o_Mo_writeGroup_at_l0_5 : or_T := (2, 16, [(0, (2, 0, 0, [165])), (2, (0, 0, 87902919, [])), (4, (0, 0, 0, [])), (5, (0, 0, 23, [])), (6, (0, 1, 24, [])), (7, (0, 0, 0, [])), (9, (0, 0, 99999995, [])), (10, (0, 0, 99999992, [])), (11, (0, 0, 1, [])), (12, (0, 1, 1, [])), (14, (0, 0, 99999998, [])), (15, (0, 1, 24, []))], [(6, [15, 5], [1]), (23, [14, 2, 5], [34, 1, -1, -36]), (20, [11, 3, 5], [50, 1, 1, 1005, 1002, 1, 2, 1, 0, 3, 1, 2, 4, 7, 4, 3, 2, 1, 5, 0, 219, 1, 2]), (23, [10, 2, 5], [5, 1, -1, -36]), (23, [9, 2, 5], [0, 1, -1, -36]), (20, [7, 3, 5], [50, 1, 1, 1005, 1002, 1, 2, 1, 0, 3, 1, 2, 4, 7, 4, 3, 2, 1, 5, 0, 243, 1, 2]), (20, [6, 3], [30, 0, 1, 0, 0, -1, 3, 2005000]), (20, [6, 3], [30, 0, -1, 0, 0, 1, 3, 2005000]), (24, [0, 3], []), (20, [3, 14], [30, 2, 1, 1, 170, -1, 0, 0]), (102, [14], [7770675568902916283677847627294075626569627356208558085007249638955617140820833992704, 165170]), (23, [14, 2, 5], [34, 1, -1, -36]), (7, [11, 12], [5]), (23, [10, 2, 5], [5, 1, -1, -36]), (23, [9, 2, 5], [0, 1, -1, -36]), (102, [10], [7770675568902916283677847627294075626569627356208558085007249638955617140820833992704, 165170]), (23, [10, 2, 5], [5, 1, -1, -36]), (23, [9, 2, 5], [0, 1, -1, -36]), (102, [9], [7770675568902916283677847627294075626569627356208558085007249638955617140820833992704, 165170]), (23, [9, 2, 5], [0, 1, -1, -36]), (7, [7, 4], [0]), (7, [5, 6], [2])], [], [], [(20, [3, 2, 15], [30, 0, 1, 1, 170, -1, 0, 0, -36, 0, 0])], [], [(15, 5, 1, 1), (15, 6, -4294967296, 0), (5, 6, -4294967296, -1)])
theorem oo_Mo_writeGroup_at_l0_5 {kA : Nat → ClassId} : or_ok PRD kA GG o_Mo_writeGroup_at_l0_5 := by
  refine or_mk fun A ta ws vs hD hth hl => ?_
  intro t0 r0 t2 k2 t4 k4 t5 k5 t6 k6 t7 k7 t9 k9 t10 k10 t11 k11 t12 k12 t14 k14 t15 k15 d0 d1 d2 f0 f1 f2 f3 f4 f5 f6 f7 f8 f9 ta1 w1 le1 s1 f11 f12 f13 f14 ta2 w2 le2 s2 f16 f17 ta3 w3 le3 s3 f19 f20 f21
  replace f0 := shm_4 f0
  replace f1 := shm_1910 f1
  replace f2 := shm_718 f2
  replace f3 := shm_1909 f3
  replace f4 := shm_1908 f4
  replace f5 := shm_585 f5
  replace f6 := shm_135 f6
  replace f7 := shm_136 f7
  replace f8 := shm_5 f8
  replace f9 := shm_234 f9
  replace f11 := shm_1910 f11
  replace f12 := shm_24 f12
  replace f13 := shm_1909 f13
  replace f14 := shm_1908 f14
  replace f16 := shm_1909 f16
  replace f17 := shm_1908 f17
  replace f19 := shm_1908 f19
  replace f20 := shm_37 f20
  replace f21 := shm_6 f21
  have q3 : n_v vs 3 = n_v vs 0 := f8.symm
  simp only [q3] at f2 f5 f6 f7 f9
  have kz_0_170 := fdq_13 hD hth r0
  have nf0 : fc_1 PRD (20, [3, 2, 15], [30, 0, 1, 1, 170, -1, 0, 0, -36, 0, 0]) ws (vs) := by
    refine ⟨nf_in hl rfl, sgq_1906 ?_⟩
    · show 1 * w_fi ws (n_v vs 3) 170 + ((-1) * v_iv (n_v vs 2) + ((-36) * v_iv (n_v vs 15) + 0)) ≤ 0
      rw [q3]
      exact vc_Mo_writeGroup_at_l0_5_0 (v_iv (n_v vs 2)) (v_iv (n_v vs 4)) (v_iv (n_v vs 5)) (v_iv (n_v vs 6)) (v_iv (n_v vs 7)) (v_iv (n_v vs 9)) (v_iv (n_v vs 10)) (v_iv (n_v vs 11)) (v_iv (n_v vs 12)) (v_iv (n_v vs 14)) (v_iv (n_v vs 15)) (w_ei ws (w_ar ws (n_v vs 0) 2)) (w_fi ws (n_v vs 0) 5) (w_fi ws (n_v vs 0) 170) k2 k4 k5 k6 k7 k9 k10 k11 k12 k14 k15 d0 d1 d2 f0 f1 f2 f3 f4 f5 f6 f7 f9 f11 f12 f13 f14 f16 f17 f19 f20 f21 kz_0_170
  refine ⟨(fun _ h => (by cases h)), [], trivial, ?_, (fun _ h => (by cases h))⟩
  rw [List.append_nil]
  exact List.forall_mem_cons.mpr ⟨⟨show (20 : Nat) < 100 from by decide, nf0⟩, (fun _ h => (by cases h))⟩
set_option maxHeartbeats 4000000 in
theorem vc_Mo_writeGroup_at_l0_6_0 (x2 : Int) (x4 : Int) (x5 : Int) (x6 : Int) (x7 : Int) (x9 : Int) (x10 : Int) (x11 : Int) (x12 : Int) (all_0 : Int → Int) (r_0 : Int) (texts_0 : Int) (gx : Int) (k2 : 0 ≤ x2 ∧ x2 ≤ 87902919) (k4 : 0 ≤ x4 ∧ x4 ≤ 0) (k5 : 0 ≤ x5 ∧ x5 ≤ 23) (k6 : 1 ≤ x6 ∧ x6 ≤ 24) (k7 : 0 ≤ x7 ∧ x7 ≤ 0) (k9 : 0 ≤ x9 ∧ x9 ≤ 99999995) (k10 : 0 ≤ x10 ∧ x10 ≤ 99999992) (k11 : 2 ≤ x11 ∧ x11 ≤ 99) (k12 : 1 ≤ x12 ∧ x12 ≤ 1) (d0 : x6 + (-4294967296) ≤ x5 ∧ x5 ≤ x6 + (-1)) (f0 : x12 < x11) (f1 : x11 = all_0 (((r_0 + 219) + x5))) (f2 : 1 * x10 + ((-1) * x2 + ((-36) * x5 + 0)) ≤ 5) (f3 : 1 * x9 + ((-1) * x2 + ((-36) * x5 + 0)) ≤ 0) (f4 : x7 = all_0 (((r_0 + 243) + x5))) (f5 : 1 * x6 + ((-1) * all_0 (r_0 + 0) + 0) ≤ 0) (f6 : (-1) * x6 + (1 * all_0 (r_0 + 0) + 0) ≤ 0) (f8 : 1 * texts_0 + ((-1) * x10 + 0) ≤ 8) (f10 : 1 * x10 + ((-1) * x2 + ((-36) * x5 + 0)) ≤ 5) (f11 : 1 * x9 + ((-1) * x2 + ((-36) * x5 + 0)) ≤ 0) (f13 : 1 * x9 + ((-1) * x2 + ((-36) * x5 + 0)) ≤ 0) (f14 : x7 = x4) (f15 : x5 < x6) (kz_0_170 : 0 ≤ texts_0 ∧ texts_0 ≤ 100000000) (ex2 : gx = texts_0) (ex3 : 0 ≤ gx ∧ gx ≤ 99999993) : 1 * texts_0 + ((-1) * gx + 0) ≤ 0 := by
  first | assumption | omega | grind
set_option maxHeartbeats 4000000 in
theorem vc_Mo_writeGroup_at_l0_6_1 (x2 : Int) (x4 : Int) (x5 : Int) (x6 : Int) (x7 : Int) (x9 : Int) (x10 : Int) (x11 : Int) (x12 : Int) (all_0 : Int → Int) (r_0 : Int) (texts_0 : Int) (gx : Int) (k2 : 0 ≤ x2 ∧ x2 ≤ 87902919) (k4 : 0 ≤ x4 ∧ x4 ≤ 0) (k5 : 0 ≤ x5 ∧ x5 ≤ 23) (k6 : 1 ≤ x6 ∧ x6 ≤ 24) (k7 : 0 ≤ x7 ∧ x7 ≤ 0) (k9 : 0 ≤ x9 ∧ x9 ≤ 99999995) (k10 : 0 ≤ x10 ∧ x10 ≤ 99999992) (k11 : 2 ≤ x11 ∧ x11 ≤ 99) (k12 : 1 ≤ x12 ∧ x12 ≤ 1) (d0 : x6 + (-4294967296) ≤ x5 ∧ x5 ≤ x6 + (-1)) (f0 : x12 < x11) (f1 : x11 = all_0 (((r_0 + 219) + x5))) (f2 : 1 * x10 + ((-1) * x2 + ((-36) * x5 + 0)) ≤ 5) (f3 : 1 * x9 + ((-1) * x2 + ((-36) * x5 + 0)) ≤ 0) (f4 : x7 = all_0 (((r_0 + 243) + x5))) (f5 : 1 * x6 + ((-1) * all_0 (r_0 + 0) + 0) ≤ 0) (f6 : (-1) * x6 + (1 * all_0 (r_0 + 0) + 0) ≤ 0) (f8 : 1 * texts_0 + ((-1) * x10 + 0) ≤ 8) (f10 : 1 * x10 + ((-1) * x2 + ((-36) * x5 + 0)) ≤ 5) (f11 : 1 * x9 + ((-1) * x2 + ((-36) * x5 + 0)) ≤ 0) (f13 : 1 * x9 + ((-1) * x2 + ((-36) * x5 + 0)) ≤ 0) (f14 : x7 = x4) (f15 : x5 < x6) (kz_0_170 : 0 ≤ texts_0 ∧ texts_0 ≤ 100000000) (ex2 : gx = texts_0) (ex3 : 0 ≤ gx ∧ gx ≤ 99999993) : 1 * gx + ((-1) * x2 + ((-36) * x5 + 0)) ≤ 13 := by
  first | assumption | omega | grind
def o_Mo_writeGroup_at_l0_6 : or_T := (47, 14, [(0, (2, 0, 0, [165])), (2, (0, 0, 87902919, [])), (3, (2, 0, 0, [165])), (4, (0, 0, 0, [])), (5, (0, 0, 23, [])), (6, (0, 1, 24, [])), (7, (0, 0, 0, [])), (9, (0, 0, 99999995, [])), (10, (0, 0, 99999992, [])), (11, (0, 2, 99, [])), (12, (0, 1, 1, []))], [(7, [11, 12], [4]), (20, [11, 3, 5], [50, 1, 1, 1005, 1002, 1, 2, 1, 0, 3, 1, 2, 4, 7, 4, 3, 2, 1, 5, 0, 219, 1, 2]), (23, [10, 2, 5], [5, 1, -1, -36]), (23, [9, 2, 5], [0, 1, -1, -36]), (20, [7, 3, 5], [50, 1, 1, 1005, 1002, 1, 2, 1, 0, 3, 1, 2, 4, 7, 4, 3, 2, 1, 5, 0, 243, 1, 2]), (20, [6, 3], [30, 0, 1, 0, 0, -1, 3, 2005000]), (20, [6, 3], [30, 0, -1, 0, 0, 1, 3, 2005000]), (24, [0, 3], []), (20, [3, 10], [30, 8, 1, 1, 170, -1, 0, 0]), (102, [10], [7770675568902916283677847627294075626569627356208558085007249638955617140820833992704, 165170]), (23, [10, 2, 5], [5, 1, -1, -36]), (23, [9, 2, 5], [0, 1, -1, -36]), (102, [9], [7770675568902916283677847627294075626569627356208558085007249638955617140820833992704, 165170]), (23, [9, 2, 5], [0, 1, -1, -36]), (7, [7, 4], [0]), (7, [5, 6], [2])], [], [(0, 0, 99999993, [])], [(20, [3, 14], [30, 0, 1, 1, 170, -1, 0, 0]), (23, [14, 2, 5], [13, 1, -1, -36])], [], [(5, 6, -4294967296, -1)])
theorem oo_Mo_writeGroup_at_l0_6 {kA : Nat → ClassId} : or_ok PRD kA GG o_Mo_writeGroup_at_l0_6 := by
  refine or_mk fun A ta ws vs hD hth hl => ?_
  intro t0 r0 t2 k2 t3 r3 t4 k4 t5 k5 t6 k6 t7 k7 t9 k9 t10 k10 t11 k11 t12 k12 d0 f0 f1 f2 f3 f4 f5 f6 f7 f8 ta1 w1 le1 s1 f10 f11 ta2 w2 le2 s2 f13 f14 f15
  replace f0 := shm_21 f0
  replace f1 := shm_718 f1
  replace f2 := shm_1909 f2
  replace f3 := shm_1908 f3
  replace f4 := shm_585 f4
  replace f5 := shm_135 f5
  replace f6 := shm_136 f6
  replace f7 := shm_5 f7
  replace f8 := shm_172 f8
  replace f10 := shm_1909 f10
  replace f11 := shm_1908 f11
  replace f13 := shm_1908 f13
  replace f14 := shm_37 f14
  replace f15 := shm_6 f15
  have q3 : n_v vs 3 = n_v vs 0 := f7.symm
  simp only [q3] at f1 f4 f5 f6 f8
  have cr_0_2 := fdq_12 hD hth r0
  have br_0_2_F5_0_0 : w_ei ws (w_ar ws (n_v vs 0) 2) (w_fi ws (n_v vs 0) 5 + 0) = w_el ws (w_ar ws (n_v vs 0) 2) (w_fi ws (n_v vs 0) 5 + 0).toNat := rfl
  have kz_0_170 := fdq_13 hD hth r0
  have kv0 := fdq_13 hD hth r0
  obtain ⟨x, ex, hx⟩ := iv_ex (ta := ta) (lo := 0) (hi := 99999993) (z := w_fi ws (n_v vs 0) 170) (by omega) (by omega) (by omega) (by omega)
  have ex2 : v_iv (Value.int x) = w_fi ws (n_v vs 0) 170 := ex
  have ex3 : 0 ≤ v_iv (Value.int x) ∧ v_iv (Value.int x) ≤ 99999993 := tv_rng hx
  have e_2 : n_v (vs ++ [Value.int x]) 2 = n_v vs 2 := n_v_old (by rw [hl]; decide)
  have e_3 : n_v (vs ++ [Value.int x]) 3 = n_v vs 3 := n_v_old (by rw [hl]; decide)
  have e_5 : n_v (vs ++ [Value.int x]) 5 = n_v vs 5 := n_v_old (by rw [hl]; decide)
  have e_14 : n_v (vs ++ [Value.int x]) 14 = Value.int x := n_v_new hl
  have nf0 : fc_1 PRD (20, [3, 14], [30, 0, 1, 1, 170, -1, 0, 0]) ws (vs ++ [Value.int x]) := by
    refine ⟨nf_inA hl rfl, sgq_140 ?_⟩
    · show 1 * w_fi ws (n_v (vs ++ [Value.int x]) 3) 170 + ((-1) * v_iv (n_v (vs ++ [Value.int x]) 14) + 0) ≤ 0
      simp only [e_3, e_14, q3]
      exact vc_Mo_writeGroup_at_l0_6_0 (v_iv (n_v vs 2)) (v_iv (n_v vs 4)) (v_iv (n_v vs 5)) (v_iv (n_v vs 6)) (v_iv (n_v vs 7)) (v_iv (n_v vs 9)) (v_iv (n_v vs 10)) (v_iv (n_v vs 11)) (v_iv (n_v vs 12)) (w_ei ws (w_ar ws (n_v vs 0) 2)) (w_fi ws (n_v vs 0) 5) (w_fi ws (n_v vs 0) 170) (v_iv (Value.int x)) k2 k4 k5 k6 k7 k9 k10 k11 k12 d0 f0 f1 f2 f3 f4 f5 f6 f8 f10 f11 f13 f14 f15 kz_0_170 ex2 ex3
  have nf1 : fc_1 PRD (23, [14, 2, 5], [13, 1, -1, -36]) ws (vs ++ [Value.int x]) := by
    refine ⟨nf_inA hl rfl, sgq_1911 ?_⟩
    · show 1 * v_iv (n_v (vs ++ [Value.int x]) 14) + ((-1) * v_iv (n_v (vs ++ [Value.int x]) 2) + ((-36) * v_iv (n_v (vs ++ [Value.int x]) 5) + 0)) ≤ 13
      simp only [e_2, e_5, e_14]
      exact vc_Mo_writeGroup_at_l0_6_1 (v_iv (n_v vs 2)) (v_iv (n_v vs 4)) (v_iv (n_v vs 5)) (v_iv (n_v vs 6)) (v_iv (n_v vs 7)) (v_iv (n_v vs 9)) (v_iv (n_v vs 10)) (v_iv (n_v vs 11)) (v_iv (n_v vs 12)) (w_ei ws (w_ar ws (n_v vs 0) 2)) (w_fi ws (n_v vs 0) 5) (w_fi ws (n_v vs 0) 170) (v_iv (Value.int x)) k2 k4 k5 k6 k7 k9 k10 k11 k12 d0 f0 f1 f2 f3 f4 f5 f6 f8 f10 f11 f13 f14 f15 kz_0_170 ex2 ex3
  exact ⟨(fun _ h => (by cases h)), [Value.int x], ag_one hx, List.forall_mem_cons.mpr ⟨⟨show (20 : Nat) < 100 from by decide, nf0⟩, List.forall_mem_cons.mpr ⟨⟨show (23 : Nat) < 100 from by decide, nf1⟩, (fun _ h => (by cases h))⟩⟩, (fun _ h => (by cases h))⟩
