section

def o_Mo_squares_28 : or_T := (286, 35, [(0, (2, 0, 0, [165])), (1, (0, 0, 3, [])), (6, (2, 0, 0, [165])), (7, (0, 0, 3, [])), (12, (0, 0, 512, [])), (13, (0, 0, 512, [])), (14, (0, -512, 512, [])), (15, (0, -512, 512, [])), (16, (0, -2147483648, 131071, [])), (17, (0, 0, 40, [])), (18, (0, 0, 1, [])), (19, (0, -512, 512, [])), (20, (0, -512, 512, [])), (21, (0, 1, 47, [])), (22, (0, 0, 131071, [])), (23, (0, -512, 512, [])), (24, (0, -512, 512, [])), (25, (0, 0, 96000, [])), (26, (0, 0, 39, [])), (27, (2, 0, 0, [261])), (28, (0, 1, 2400, [])), (29, (0, 1, 98400, [])), (30, (1, -512, 512, [])), (31, (1, 1, 98400, [])), (32, (1, -50380800, 50380800, [])), (33, (1, 1, 96000, [])), (34, (1, -50380800, 50380800, []))], [(4, [34, 32, 33], []), (22, [33, 22], []), (3, [32, 30, 31], []), (22, [31, 29], []), (22, [30, 19], []), (1, [29, 25, 28], []), (10, [28, 27, 26], []), (9, [27, 6], [131]), (7, [26, 21], [2]), (20, [6, 16, 17, 21, 22], [60, 1, 2, 777, 132, 130, 131]), (20, [17, 26], [50, 0, 0, 0, 2, 1, 0, 1, 1]), (20, [12, 14], [61, 0, 791]), (20, [13, 15], [61, 0, 791]), (20, [6, 7], [60, 0, 1, 789, 72]), (20, [18, 14, 15, 19, 20], [61, 0, 792]), (20, [23, 20], [61, 0, 793]), (20, [24, 19], [61, 0, 793]), (20, [6, 16, 17, 21, 22, 26, 25], [60, 1, 2, 794, 132, 130, 131]), (24, [0, 6], []), (24, [1, 7], [])], [(34, (1, -512, 512, []))], [], [], [], [(29, 28, 0, 96000), (29, 25, 1, 2400), (26, 21, -4294967296, -1), (1, 7, -4294967296, 0), (7, 1, -4294967296, 0), (14, 20, -4294967296, 0), (15, 18, -4294967296, 511), (15, 20, -4294967296, 0), (17, 21, -4294967296, -1), (17, 26, -4294967296, 0), (19, 14, -4294967296, 0), (19, 15, -4294967296, 0), (19, 18, -4294967296, 511), (19, 20, -4294967296, 0), (24, 25, -4294967296, 511), (24, 26, -4294967296, 511), (26, 21, -4294967296, 0)])
theorem oo_Mo_squares_28 {kA : Nat → ClassId} : or_ok PRD kA GG o_Mo_squares_28 := by
  refine or_mk fun A ta ws vs hD hth hl => ?_
  intro t0 r0 t1 k1 t6 r6 t7 k7 t12 k12 t13 k13 t14 k14 t15 k15 t16 k16 t17 k17 t18 k18 t19 k19 t20 k20 t21 k21 t22 k22 t23 k23 t24 k24 t25 k25 t26 k26 t27 r27 t28 k28 t29 k29 t30 k30 t31 k31 t32 k32 t33 k33 t34 k34 d0 d1 d2 d3 d4 d5 d6 d7 d8 d9 d10 d11 d12 d13 d14 d15 d16 f0 f1 f2 f3 f4 f5 f6 f7 f8 f9 f10 f11 f12 f13 f14 f15 f16 f17 f18 f19
  replace f6 := shm_107 f6
  replace f7 := shm_594 f7
  replace f9 := shm_1278 f9
  replace f17 := shm_1284 f17
  replace f18 := shm_5 f18
  have q6 : n_v vs 6 = n_v vs 0 := f18.symm
  simp only [q6] at f7 f9 f17
  have ad_27 : v_ad (n_v vs 27) = w_ar ws (n_v vs 0) 131 := congrArg v_ad f7
  simp only [ad_27] at f6
  have h6 : v_iv (n_v vs 28) = w_ei ws (w_ar ws (n_v vs 0) 131) (v_iv (n_v vs 26)) := f6
  have kz_0_132 := fdq_152 hD hth r0
  have hrf0 : (-512) ≤ v_iv (n_v vs 34) ∧ v_iv (n_v vs 34) ≤ 512 := vc_Mo_squares_28_r0 (v_iv (n_v vs 16)) (v_iv (n_v vs 17)) (v_iv (n_v vs 19)) (v_iv (n_v vs 21)) (v_iv (n_v vs 22)) (v_iv (n_v vs 25)) (v_iv (n_v vs 26)) (v_iv (n_v vs 28)) (v_iv (n_v vs 29)) (v_iv (n_v vs 30)) (v_iv (n_v vs 31)) (v_iv (n_v vs 32)) (v_iv (n_v vs 33)) (v_iv (n_v vs 34)) (w_ei ws (w_ar ws (n_v vs 0) 131)) (w_ei ws (w_ar ws (n_v vs 0) 130)) (w_fi ws (n_v vs 0) 132) k16 k17 k19 k21 k22 k25 k26 k28 k29 k30 k31 k32 k33 k34 (shm_34 f0) (shm_47 f1) (shm_38 f2) (shm_47 f3) (shm_47 f4) (shm_12 f5) h6 (shm_6 f8) f9 f17 kz_0_132
  have rf34 : tv_ok ta (1, -512, 512, []) (n_v vs 34) := tv_inL t34 (by first | omega | grind) (by first | omega | grind)
  refine ⟨List.forall_mem_cons.mpr ⟨rf34, (fun _ h => (by cases h))⟩, [], trivial, ?_, (fun _ h => (by cases h))⟩
  rw [List.append_nil]
  exact (fun _ h => (by cases h))
set_option maxHeartbeats 4000000 in
theorem vc_Mo_squares_29_0 (x16 : Int) (x17 : Int) (x19 : Int) (x21 : Int) (x22 : Int) (x25 : Int) (x26 : Int) (x28 : Int) (x29 : Int) (x30 : Int) (x31 : Int) (x32 : Int) (x33 : Int) (x34 : Int) (x35 : Int) (itemSize_0 : Int → Int) (itemOf_0 : Int → Int) (itemMany_0 : Int) (k16 : (-2147483648) ≤ x16 ∧ x16 ≤ 131071) (k17 : 0 ≤ x17 ∧ x17 ≤ 40) (k19 : (-512) ≤ x19 ∧ x19 ≤ 512) (k21 : 1 ≤ x21 ∧ x21 ≤ 47) (k22 : 0 ≤ x22 ∧ x22 ≤ 131071) (k25 : 0 ≤ x25 ∧ x25 ≤ 96000) (k26 : 0 ≤ x26 ∧ x26 ≤ 39) (k28 : 1 ≤ x28 ∧ x28 ≤ 2400) (k29 : 1 ≤ x29 ∧ x29 ≤ 98400) (k30 : (-512) ≤ x30 ∧ x30 ≤ 512) (k31 : 1 ≤ x31 ∧ x31 ≤ 98400) (k32 : (-50380800) ≤ x32 ∧ x32 ≤ 50380800) (k33 : 1 ≤ x33 ∧ x33 ≤ 96000) (k34 : (-512) ≤ x34 ∧ x34 ≤ 512) (k35 : (-512) ≤ x35 ∧ x35 ≤ 512) (f0 : x35 = x34) (f1 : x34 = Int.tdiv (x32) (x33)) (f2 : x33 = x22) (f3 : x32 = x30 * x31) (f4 : x31 = x29) (f5 : x30 = x19) (f6 : x29 = x25 + x28) (h7 : x28 = itemSize_0 (x26)) (f9 : x26 < x21) (f10 : SQ3 (itemMany_0) (itemOf_0) (itemSize_0) (x16) (x17) (x21) (x22)) (f18 : SQ4 (itemMany_0) (itemOf_0) (itemSize_0) (x16) (x17) (x21) (x22) (x26) (x25)) (kz_0_132 : 0 ≤ itemMany_0 ∧ itemMany_0 ≤ 40) : BTW (x35) (x19) := by
  have h := sq3_bd ‹SQ3 _ _ _ _ _ _ _› (by omega)
  have g := sq4_bd (sq4_step (z_zq := x26 + 1) (o_zq := x25 + itemSize_0 x26) ‹SQ4 _ _ _ _ _ _ _ _ _› (by omega) rfl (by omega) (by omega))
  first
    | exact btw_d (o := x25 + itemSize_0 x26) (by assumption) (by assumption) (by assumption) (by assumption) (by omega) (by assumption) (by omega) (by omega) (by omega)
  
set_option maxHeartbeats 4000000 in
theorem vc_Mo_squares_29_1 (x16 : Int) (x17 : Int) (x21 : Int) (x22 : Int) (x25 : Int) (x26 : Int) (x28 : Int) (x29 : Int) (x31 : Int) (itemSize_0 : Int → Int) (itemOf_0 : Int → Int) (itemMany_0 : Int) (k16 : (-2147483648) ≤ x16 ∧ x16 ≤ 131071) (k17 : 0 ≤ x17 ∧ x17 ≤ 40) (k21 : 1 ≤ x21 ∧ x21 ≤ 47) (k22 : 0 ≤ x22 ∧ x22 ≤ 131071) (k25 : 0 ≤ x25 ∧ x25 ≤ 96000) (k26 : 0 ≤ x26 ∧ x26 ≤ 39) (k28 : 1 ≤ x28 ∧ x28 ≤ 2400) (k29 : 1 ≤ x29 ∧ x29 ≤ 98400) (k31 : 1 ≤ x31 ∧ x31 ≤ 98400) (f4 : x31 = x29) (f6 : x29 = x25 + x28) (h7 : x28 = itemSize_0 (x26)) (f9 : x26 < x21) (f18 : SQ4 (itemMany_0) (itemOf_0) (itemSize_0) (x16) (x17) (x21) (x22) (x26) (x25)) (kz_0_132 : 0 ≤ itemMany_0 ∧ itemMany_0 ≤ 40) : SQ5 (itemMany_0) (itemOf_0) (itemSize_0) (x16) (x17) (x21) (x22) (x26) (x29) := by
  exact sq4_step (v := itemSize_0 x26) ‹SQ4 _ _ _ _ _ _ _ _ _› (by omega) rfl (by omega) (by omega)
def o_Mo_squares_29 : or_T := (289, 36, [(0, (2, 0, 0, [165])), (16, (0, -2147483648, 131071, [])), (17, (0, 0, 40, [])), (19, (0, -512, 512, [])), (21, (0, 1, 47, [])), (22, (0, 0, 131071, [])), (25, (0, 0, 96000, [])), (26, (0, 0, 39, [])), (28, (0, 1, 2400, [])), (29, (0, 1, 98400, [])), (30, (1, -512, 512, [])), (31, (1, 1, 98400, [])), (32, (1, -50380800, 50380800, [])), (33, (1, 1, 96000, [])), (34, (1, -512, 512, [])), (35, (0, -512, 512, []))], [(22, [35, 34], []), (4, [34, 32, 33], []), (22, [33, 22], []), (3, [32, 30, 31], []), (22, [31, 29], []), (22, [30, 19], []), (1, [29, 25, 28], []), (10, [28, 27, 26], []), (9, [27, 6], [131]), (7, [26, 21], [2]), (20, [6, 16, 17, 21, 22], [60, 1, 2, 777, 132, 130, 131]), (20, [6, 16, 17, 21, 22, 26, 25], [60, 1, 2, 794, 132, 130, 131]), (24, [0, 6], [])], [], [], [(20, [35, 19], [61, 0, 793]), (20, [6, 16, 17, 21, 22, 26, 29], [60, 1, 2, 795, 132, 130, 131])], [], [])
theorem oo_Mo_squares_29 {kA : Nat → ClassId} : or_ok PRD kA GG o_Mo_squares_29 := by
  refine or_mk fun A ta ws vs hD hth hl => ?_
  intro t0 r0 t16 k16 t17 k17 t19 k19 t21 k21 t22 k22 t25 k25 t26 k26 t28 k28 t29 k29 t30 k30 t31 k31 t32 k32 t33 k33 t34 k34 t35 k35 f0 f1 f2 f3 f4 f5 f6 f7 f8 f9 f10 f18 f19
  replace f0 := shm_47 f0
  replace f1 := shm_34 f1
  replace f2 := shm_47 f2
  replace f3 := shm_38 f3
  replace f4 := shm_47 f4
  replace f5 := shm_47 f5
  replace f6 := shm_12 f6
  replace f7 := shm_107 f7
  replace f8 := shm_594 f8
  replace f9 := shm_6 f9
  replace f10 := shm_1278 f10
  replace f18 := shm_1284 f18
  replace f19 := shm_5 f19
  have q6 : n_v vs 6 = n_v vs 0 := f19.symm
  simp only [q6] at f8 f10 f18
  have ad_27 : v_ad (n_v vs 27) = w_ar ws (n_v vs 0) 131 := congrArg v_ad f8
  simp only [ad_27] at f7
  have h7 : v_iv (n_v vs 28) = w_ei ws (w_ar ws (n_v vs 0) 131) (v_iv (n_v vs 26)) := f7
  have kz_0_132 := fdq_152 hD hth r0
  have nf0 : fc_1 PRD (20, [35, 19], [61, 0, 793]) ws (vs) := ⟨nf_in hl rfl, sgq_890 (vc_Mo_squares_29_0 (v_iv (n_v vs 16)) (v_iv (n_v vs 17)) (v_iv (n_v vs 19)) (v_iv (n_v vs 21)) (v_iv (n_v vs 22)) (v_iv (n_v vs 25)) (v_iv (n_v vs 26)) (v_iv (n_v vs 28)) (v_iv (n_v vs 29)) (v_iv (n_v vs 30)) (v_iv (n_v vs 31)) (v_iv (n_v vs 32)) (v_iv (n_v vs 33)) (v_iv (n_v vs 34)) (v_iv (n_v vs 35)) (w_ei ws (w_ar ws (n_v vs 0) 131)) (w_ei ws (w_ar ws (n_v vs 0) 130)) (w_fi ws (n_v vs 0) 132) k16 k17 k19 k21 k22 k25 k26 k28 k29 k30 k31 k32 k33 k34 k35 f0 f1 f2 f3 f4 f5 f6 h7 f9 f10 f18 kz_0_132)⟩
  have nf1 : fc_1 PRD (20, [6, 16, 17, 21, 22, 26, 29], [60, 1, 2, 795, 132, 130, 131]) ws (vs) := by
    refine ⟨nf_in hl rfl, sgq_1285 ?_⟩
    · show SQ5 (w_fi ws (n_v vs 6) 132) (w_ei ws (w_ar ws (n_v vs 6) 130)) (w_ei ws (w_ar ws (n_v vs 6) 131)) (v_iv (n_v vs 16)) (v_iv (n_v vs 17)) (v_iv (n_v vs 21)) (v_iv (n_v vs 22)) (v_iv (n_v vs 26)) (v_iv (n_v vs 29))
      rw [q6]
      exact vc_Mo_squares_29_1 (v_iv (n_v vs 16)) (v_iv (n_v vs 17)) (v_iv (n_v vs 21)) (v_iv (n_v vs 22)) (v_iv (n_v vs 25)) (v_iv (n_v vs 26)) (v_iv (n_v vs 28)) (v_iv (n_v vs 29)) (v_iv (n_v vs 31)) (w_ei ws (w_ar ws (n_v vs 0) 131)) (w_ei ws (w_ar ws (n_v vs 0) 130)) (w_fi ws (n_v vs 0) 132) k16 k17 k21 k22 k25 k26 k28 k29 k31 f4 f6 h7 f9 f18 kz_0_132
  refine ⟨(fun _ h => (by cases h)), [], trivial, ?_, (fun _ h => (by cases h))⟩
  rw [List.append_nil]
  exact List.forall_mem_cons.mpr ⟨⟨show (20 : Nat) < 100 from by decide, nf0⟩, List.forall_mem_cons.mpr ⟨⟨show (20 : Nat) < 100 from by decide, nf1⟩, (fun _ h => (by cases h))⟩⟩
set_option maxHeartbeats 4000000 in
theorem vc_Mo_squares_30_0 (x17 : Int) (x21 : Int) (x26 : Int) (x34 : Int) (x37 : Int) (itemOf_0 : Int → Int) (k17 : 0 ≤ x17 ∧ x17 ≤ 40) (k21 : 1 ≤ x21 ∧ x21 ≤ 47) (k26 : 0 ≤ x26 ∧ x26 ≤ 39) (d2 : x21 + (-4294967296) ≤ x26 ∧ x26 ≤ x21 + (-1)) (d9 : x26 + (-4294967296) ≤ x17 ∧ x17 ≤ x26 + 0) : (x17 ≤ x26) ∧ ((x26 + 1) ≤ x21) := by
  first
    | omega
    | (have g := ‹SQ3 _ _ _ _ _ _ _›
       have q := (g.1.1 x26 (by omega) (by have := g.2; omega)).1
       have e1 : x37 = itemOf_0 x26 := by assumption
       have e2 : x34 = itemOf_0 x26 := by assumption
       rw [← e1] at q
       rw [← e1] at e2
       omega)
set_option maxHeartbeats 4000000 in
theorem vc_Mo_squares_30_1 (x17 : Int) (x21 : Int) (x26 : Int) (x34 : Int) (x37 : Int) (x39 : Int) (itemOf_0 : Int → Int) (k26 : 0 ≤ x26 ∧ x26 ≤ 39) (k37 : 0 ≤ x37 ∧ x37 ≤ 99) (k39 : 0 ≤ x39 ∧ x39 ≤ 0) (h1 : x37 = itemOf_0 (x26)) : ((x39 = 1) ∧ (100 ≤ itemOf_0 (x26))) ∨ ((x39 = 0) ∧ (itemOf_0 (x26) ≤ 99)) := by
  first
    | omega
    | (have g := ‹SQ3 _ _ _ _ _ _ _›
       have q := (g.1.1 x26 (by omega) (by have := g.2; omega)).1
       have e1 : x37 = itemOf_0 x26 := by assumption
       have e2 : x34 = itemOf_0 x26 := by assumption
       rw [← e1] at q
       rw [← e1] at e2
       omega)
def o_Mo_squares_30 : or_T := (308, 40, [(0, (2, 0, 0, [165])), (1, (0, 0, 3, [])), (6, (2, 0, 0, [165])), (7, (0, 0, 3, [])), (12, (0, 0, 512, [])), (13, (0, 0, 512, [])), (14, (0, -512, 512, [])), (15, (0, -512, 512, [])), (16, (0, -2147483648, 131071, [])), (17, (0, 0, 40, [])), (18, (0, 0, 1, [])), (19, (0, -512, 512, [])), (20, (0, -512, 512, [])), (21, (0, 1, 47, [])), (22, (0, 0, 131071, [])), (23, (0, -512, 512, [])), (24, (0, -512, 512, [])), (25, (0, 0, 96000, [])), (26, (0, 0, 39, [])), (27, (2, 0, 0, [261])), (28, (0, 1, 2400, [])), (29, (0, 1, 98400, [])), (30, (1, -512, 512, [])), (31, (1, 1, 98400, [])), (32, (1, -50380800, 50380800, [])), (33, (1, 1, 96000, [])), (34, (1, -512, 512, [])), (35, (0, -512, 512, [])), (36, (2, 0, 0, [260])), (37, (0, 0, 99, [])), (38, (0, 100, 100, [])), (39, (0, 0, 0, []))], [(7, [37, 38], [2]), (10, [37, 36, 26], []), (9, [36, 6], [130]), (20, [35, 19], [61, 0, 793]), (20, [6, 16, 17, 21, 22, 26, 29], [60, 1, 2, 795, 132, 130, 131]), (22, [35, 34], []), (4, [34, 32, 33], []), (22, [33, 22], []), (3, [32, 30, 31], []), (22, [31, 29], []), (22, [30, 19], []), (1, [29, 25, 28], []), (10, [28, 27, 26], []), (9, [27, 6], [131]), (7, [26, 21], [2]), (20, [6, 16, 17, 21, 22], [60, 1, 2, 777, 132, 130, 131]), (20, [17, 26], [50, 0, 0, 0, 2, 1, 0, 1, 1]), (20, [12, 14], [61, 0, 791]), (20, [13, 15], [61, 0, 791]), (20, [6, 7], [60, 0, 1, 789, 72]), (20, [18, 14, 15, 19, 20], [61, 0, 792]), (20, [23, 20], [61, 0, 793]), (20, [24, 19], [61, 0, 793]), (20, [6, 16, 17, 21, 22, 26, 25], [60, 1, 2, 794, 132, 130, 131]), (24, [0, 6], []), (24, [1, 7], [])], [], [], [(20, [17, 26, 21], [50, 0, 0, 2, 6, 0, 2, 1, 0, 1, 1, 0, 6, 4, 2, 1, 1, 0, 1, 1, 2]), (20, [39, 6, 26], [50, 0, 1, 1130, 3, 17, 2, 6, 1, 2, 1, 0, 0, 1, 0, 2, 0, 100, 3, 1, 130, 1, 2, 2, 6, 1, 2, 1, 0, 0, 0, 0, 5, 3, 1, 130, 1, 2, 0, 99])], [], [(29, 28, 0, 96000), (29, 25, 1, 2400), (26, 21, -4294967296, -1), (1, 7, -4294967296, 0), (7, 1, -4294967296, 0), (14, 20, -4294967296, 0), (15, 18, -4294967296, 511), (15, 20, -4294967296, 0), (17, 21, -4294967296, -1), (17, 26, -4294967296, 0), (19, 14, -4294967296, 0), (19, 15, -4294967296, 0), (19, 18, -4294967296, 511), (19, 20, -4294967296, 0), (24, 25, -4294967296, 511), (24, 26, -4294967296, 511), (26, 21, -4294967296, 0)])
theorem oo_Mo_squares_30 {kA : Nat → ClassId} : or_ok PRD kA GG o_Mo_squares_30 := by
  refine or_mk fun A ta ws vs hD hth hl => ?_
  intro t0 r0 t1 k1 t6 r6 t7 k7 t12 k12 t13 k13 t14 k14 t15 k15 t16 k16 t17 k17 t18 k18 t19 k19 t20 k20 t21 k21 t22 k22 t23 k23 t24 k24 t25 k25 t26 k26 t27 r27 t28 k28 t29 k29 t30 k30 t31 k31 t32 k32 t33 k33 t34 k34 t35 k35 t36 r36 t37 k37 t38 k38 t39 k39 d0 d1 d2 d3 d4 d5 d6 d7 d8 d9 d10 d11 d12 d13 d14 d15 d16 f0 f1 f2 f3 f4 f5 f6 f7 f8 f9 f10 f11 f12 f13 f14 f15 f16 f17 f18 f19 f20 f21 f22 f23 f24 f25
  replace f1 := shm_107 f1
  replace f2 := shm_595 f2
  replace f24 := shm_5 f24
  have q6 : n_v vs 6 = n_v vs 0 := f24.symm
  simp only [q6] at f2
  have ad_36 : v_ad (n_v vs 36) = w_ar ws (n_v vs 0) 130 := congrArg v_ad f2
  simp only [ad_36] at f1
  have h1 : v_iv (n_v vs 37) = w_ei ws (w_ar ws (n_v vs 0) 130) (v_iv (n_v vs 26)) := f1
  have nf0 : fc_1 PRD (20, [17, 26, 21], [50, 0, 0, 2, 6, 0, 2, 1, 0, 1, 1, 0, 6, 4, 2, 1, 1, 0, 1, 1, 2]) ws (vs) := ⟨nf_in hl rfl, sgq_880 (vc_Mo_squares_30_0 (v_iv (n_v vs 17)) (v_iv (n_v vs 21)) (v_iv (n_v vs 26)) (v_iv (n_v vs 34)) (v_iv (n_v vs 37)) (w_ei ws (w_ar ws (n_v vs 0) 130)) k17 k21 k26 d2 d9)⟩
  have nf1 : fc_1 PRD (20, [39, 6, 26], [50, 0, 1, 1130, 3, 17, 2, 6, 1, 2, 1, 0, 0, 1, 0, 2, 0, 100, 3, 1, 130, 1, 2, 2, 6, 1, 2, 1, 0, 0, 0, 0, 5, 3, 1, 130, 1, 2, 0, 99]) ws (vs) := by
    refine ⟨nf_in hl rfl, sgq_1286 ?_⟩
    · show ((v_iv (n_v vs 39) = 1) ∧ (100 ≤ w_ei ws (w_ar ws (n_v vs 6) 130) (v_iv (n_v vs 26)))) ∨ ((v_iv (n_v vs 39) = 0) ∧ (w_ei ws (w_ar ws (n_v vs 6) 130) (v_iv (n_v vs 26)) ≤ 99))
      rw [q6]
      exact vc_Mo_squares_30_1 (v_iv (n_v vs 17)) (v_iv (n_v vs 21)) (v_iv (n_v vs 26)) (v_iv (n_v vs 34)) (v_iv (n_v vs 37)) (v_iv (n_v vs 39)) (w_ei ws (w_ar ws (n_v vs 0) 130)) k26 k37 k39 h1
  refine ⟨(fun _ h => (by cases h)), [], trivial, ?_, (fun _ h => (by cases h))⟩
  rw [List.append_nil]
  exact List.forall_mem_cons.mpr ⟨⟨show (20 : Nat) < 100 from by decide, nf0⟩, List.forall_mem_cons.mpr ⟨⟨show (20 : Nat) < 100 from by decide, nf1⟩, (fun _ h => (by cases h))⟩⟩
set_option maxHeartbeats 4000000 in
theorem vc_Mo_squares_31_0 (x17 : Int) (x21 : Int) (x26 : Int) (x34 : Int) (x37 : Int) (itemOf_0 : Int → Int) (k17 : 0 ≤ x17 ∧ x17 ≤ 40) (k21 : 1 ≤ x21 ∧ x21 ≤ 47) (k26 : 0 ≤ x26 ∧ x26 ≤ 39) (d2 : x21 + (-4294967296) ≤ x26 ∧ x26 ≤ x21 + (-1)) (d9 : x26 + (-4294967296) ≤ x17 ∧ x17 ≤ x26 + 0) : (x17 ≤ x26) ∧ ((x26 + 1) ≤ x21) := by
  first
    | omega
    | (have g := ‹SQ3 _ _ _ _ _ _ _›
       have q := (g.1.1 x26 (by omega) (by have := g.2; omega)).1
       have e1 : x37 = itemOf_0 x26 := by assumption
       have e2 : x34 = itemOf_0 x26 := by assumption
       rw [← e1] at q
       rw [← e1] at e2
       omega)
set_option maxHeartbeats 4000000 in
theorem vc_Mo_squares_31_1 (x17 : Int) (x21 : Int) (x26 : Int) (x34 : Int) (x37 : Int) (x39 : Int) (itemOf_0 : Int → Int) (k26 : 0 ≤ x26 ∧ x26 ≤ 39) (k37 : 100 ≤ x37 ∧ x37 ≤ 131) (k39 : 1 ≤ x39 ∧ x39 ≤ 1) (h1 : x37 = itemOf_0 (x26)) : ((x39 = 1) ∧ (100 ≤ itemOf_0 (x26))) ∨ ((x39 = 0) ∧ (itemOf_0 (x26) ≤ 99)) := by
  first
    | omega
    | (have g := ‹SQ3 _ _ _ _ _ _ _›
       have q := (g.1.1 x26 (by omega) (by have := g.2; omega)).1
       have e1 : x37 = itemOf_0 x26 := by assumption
       have e2 : x34 = itemOf_0 x26 := by assumption
       rw [← e1] at q
       rw [← e1] at e2
       omega)
def o_Mo_squares_31 : or_T := (308, 40, [(0, (2, 0, 0, [165])), (1, (0, 0, 3, [])), (6, (2, 0, 0, [165])), (7, (0, 0, 3, [])), (12, (0, 0, 512, [])), (13, (0, 0, 512, [])), (14, (0, -512, 512, [])), (15, (0, -512, 512, [])), (16, (0, -2147483648, 131071, [])), (17, (0, 0, 40, [])), (18, (0, 0, 1, [])), (19, (0, -512, 512, [])), (20, (0, -512, 512, [])), (21, (0, 1, 47, [])), (22, (0, 0, 131071, [])), (23, (0, -512, 512, [])), (24, (0, -512, 512, [])), (25, (0, 0, 96000, [])), (26, (0, 0, 39, [])), (27, (2, 0, 0, [261])), (28, (0, 1, 2400, [])), (29, (0, 1, 98400, [])), (30, (1, -512, 512, [])), (31, (1, 1, 98400, [])), (32, (1, -50380800, 50380800, [])), (33, (1, 1, 96000, [])), (34, (1, -512, 512, [])), (35, (0, -512, 512, [])), (36, (2, 0, 0, [260])), (37, (0, 100, 131, [])), (38, (0, 100, 100, [])), (39, (0, 1, 1, []))], [(7, [37, 38], [3]), (10, [37, 36, 26], []), (9, [36, 6], [130]), (20, [35, 19], [61, 0, 793]), (20, [6, 16, 17, 21, 22, 26, 29], [60, 1, 2, 795, 132, 130, 131]), (22, [35, 34], []), (4, [34, 32, 33], []), (22, [33, 22], []), (3, [32, 30, 31], []), (22, [31, 29], []), (22, [30, 19], []), (1, [29, 25, 28], []), (10, [28, 27, 26], []), (9, [27, 6], [131]), (7, [26, 21], [2]), (20, [6, 16, 17, 21, 22], [60, 1, 2, 777, 132, 130, 131]), (20, [17, 26], [50, 0, 0, 0, 2, 1, 0, 1, 1]), (20, [12, 14], [61, 0, 791]), (20, [13, 15], [61, 0, 791]), (20, [6, 7], [60, 0, 1, 789, 72]), (20, [18, 14, 15, 19, 20], [61, 0, 792]), (20, [23, 20], [61, 0, 793]), (20, [24, 19], [61, 0, 793]), (20, [6, 16, 17, 21, 22, 26, 25], [60, 1, 2, 794, 132, 130, 131]), (24, [0, 6], []), (24, [1, 7], [])], [], [], [(20, [17, 26, 21], [50, 0, 0, 2, 6, 0, 2, 1, 0, 1, 1, 0, 6, 4, 2, 1, 1, 0, 1, 1, 2]), (20, [39, 6, 26], [50, 0, 1, 1130, 3, 17, 2, 6, 1, 2, 1, 0, 0, 1, 0, 2, 0, 100, 3, 1, 130, 1, 2, 2, 6, 1, 2, 1, 0, 0, 0, 0, 5, 3, 1, 130, 1, 2, 0, 99])], [], [(29, 28, 0, 96000), (29, 25, 1, 2400), (26, 21, -4294967296, -1), (1, 7, -4294967296, 0), (7, 1, -4294967296, 0), (14, 20, -4294967296, 0), (15, 18, -4294967296, 511), (15, 20, -4294967296, 0), (17, 21, -4294967296, -1), (17, 26, -4294967296, 0), (19, 14, -4294967296, 0), (19, 15, -4294967296, 0), (19, 18, -4294967296, 511), (19, 20, -4294967296, 0), (24, 25, -4294967296, 511), (24, 26, -4294967296, 511), (26, 21, -4294967296, 0)])
theorem oo_Mo_squares_31 {kA : Nat → ClassId} : or_ok PRD kA GG o_Mo_squares_31 := by
  refine or_mk fun A ta ws vs hD hth hl => ?_
  intro t0 r0 t1 k1 t6 r6 t7 k7 t12 k12 t13 k13 t14 k14 t15 k15 t16 k16 t17 k17 t18 k18 t19 k19 t20 k20 t21 k21 t22 k22 t23 k23 t24 k24 t25 k25 t26 k26 t27 r27 t28 k28 t29 k29 t30 k30 t31 k31 t32 k32 t33 k33 t34 k34 t35 k35 t36 r36 t37 k37 t38 k38 t39 k39 d0 d1 d2 d3 d4 d5 d6 d7 d8 d9 d10 d11 d12 d13 d14 d15 d16 f0 f1 f2 f3 f4 f5 f6 f7 f8 f9 f10 f11 f12 f13 f14 f15 f16 f17 f18 f19 f20 f21 f22 f23 f24 f25
  replace f1 := shm_107 f1
  replace f2 := shm_595 f2
  replace f24 := shm_5 f24
  have q6 : n_v vs 6 = n_v vs 0 := f24.symm
  simp only [q6] at f2
  have ad_36 : v_ad (n_v vs 36) = w_ar ws (n_v vs 0) 130 := congrArg v_ad f2
  simp only [ad_36] at f1
  have h1 : v_iv (n_v vs 37) = w_ei ws (w_ar ws (n_v vs 0) 130) (v_iv (n_v vs 26)) := f1
  have nf0 : fc_1 PRD (20, [17, 26, 21], [50, 0, 0, 2, 6, 0, 2, 1, 0, 1, 1, 0, 6, 4, 2, 1, 1, 0, 1, 1, 2]) ws (vs) := ⟨nf_in hl rfl, sgq_880 (vc_Mo_squares_31_0 (v_iv (n_v vs 17)) (v_iv (n_v vs 21)) (v_iv (n_v vs 26)) (v_iv (n_v vs 34)) (v_iv (n_v vs 37)) (w_ei ws (w_ar ws (n_v vs 0) 130)) k17 k21 k26 d2 d9)⟩
  have nf1 : fc_1 PRD (20, [39, 6, 26], [50, 0, 1, 1130, 3, 17, 2, 6, 1, 2, 1, 0, 0, 1, 0, 2, 0, 100, 3, 1, 130, 1, 2, 2, 6, 1, 2, 1, 0, 0, 0, 0, 5, 3, 1, 130, 1, 2, 0, 99]) ws (vs) := by
    refine ⟨nf_in hl rfl, sgq_1286 ?_⟩
    · show ((v_iv (n_v vs 39) = 1) ∧ (100 ≤ w_ei ws (w_ar ws (n_v vs 6) 130) (v_iv (n_v vs 26)))) ∨ ((v_iv (n_v vs 39) = 0) ∧ (w_ei ws (w_ar ws (n_v vs 6) 130) (v_iv (n_v vs 26)) ≤ 99))
      rw [q6]
      exact vc_Mo_squares_31_1 (v_iv (n_v vs 17)) (v_iv (n_v vs 21)) (v_iv (n_v vs 26)) (v_iv (n_v vs 34)) (v_iv (n_v vs 37)) (v_iv (n_v vs 39)) (w_ei ws (w_ar ws (n_v vs 0) 130)) k26 k37 k39 h1
  refine ⟨(fun _ h => (by cases h)), [], trivial, ?_, (fun _ h => (by cases h))⟩
  rw [List.append_nil]
  exact List.forall_mem_cons.mpr ⟨⟨show (20 : Nat) < 100 from by decide, nf0⟩, List.forall_mem_cons.mpr ⟨⟨show (20 : Nat) < 100 from by decide, nf1⟩, (fun _ h => (by cases h))⟩⟩
set_option maxHeartbeats 4000000 in
theorem vc_Mo_squares_32_r0 (x12 : Int) (x13 : Int) (x14 : Int) (x15 : Int) (x18 : Int) (x19 : Int) (x20 : Int) (x23 : Int) (x24 : Int) (x26 : Int) (x27 : Int) (x28 : Int) (x30 : Int) (x33 : Int) (x34 : Int) (itemOf_0 : Int → Int) (k12 : 0 ≤ x12 ∧ x12 ≤ 512) (k13 : 0 ≤ x13 ∧ x13 ≤ 512) (k14 : (-512) ≤ x14 ∧ x14 ≤ 512) (k15 : (-512) ≤ x15 ∧ x15 ≤ 511) (k18 : 0 ≤ x18 ∧ x18 ≤ 0) (k19 : (-512) ≤ x19 ∧ x19 ≤ 511) (k20 : (-512) ≤ x20 ∧ x20 ≤ 512) (k23 : (-512) ≤ x23 ∧ x23 ≤ 512) (k24 : (-512) ≤ x24 ∧ x24 ≤ 512) (k27 : (-512) ≤ x27 ∧ x27 ≤ 512) (k33 : (-512) ≤ x33 ∧ x33 ≤ 1024) (k34 : (-1024) ≤ x34 ∧ x34 ≤ 1024) (f0 : x34 = x27 - x24) (f1 : x33 = x13 + x24) (f5 : x18 = 0) (f6 : HUL (x12) (x14)) (f7 : HUL (x13) (x15)) (f9 : SQA (x18) (x14) (x15) (x19) (x20)) (f10 : BTW (x23) (x20)) (f11 : BTW (x24) (x19)) (f12 : BTW (x27) (x19)) : 0 ≤ x33 ∧ x33 ≤ 512 := by
  have h1 : HUL x12 x14 := by assumption
  have h2 : HUL x13 x15 := by assumption
  have e := sqa_0 ‹SQA _ _ _ _ _› (by omega)
  have b1 : BTW x24 x19 := by assumption
  have b2 : BTW x23 x20 := by assumption
  have b3 : BTW x27 x19 := by assumption
  rw [e.1] at b1 b3
  rw [e.2] at b2
  have r1 := hul_cut h2 b1 b3
  have r2 := hul_to h1 b2
  have a1 := r1.1
  have a2 := r1.2
  have a3 := r2.1
  have a4 := r2.2
  first
    | omega
    | (have g := ‹SQ3 _ _ _ _ _ _ _›
       have q := (g.1.1 x26 (by omega) (by have := g.2; omega)).1
       have e1 : x30 = itemOf_0 x26 := by assumption
       have f := ‹(x28 = 1 ∧ _) ∨ _›
       rw [← e1] at q f
       omega)
set_option maxHeartbeats 4000000 in
theorem vc_Mo_squares_32_r1 (x12 : Int) (x13 : Int) (x14 : Int) (x15 : Int) (x18 : Int) (x19 : Int) (x20 : Int) (x23 : Int) (x24 : Int) (x26 : Int) (x27 : Int) (x28 : Int) (x30 : Int) (x33 : Int) (x34 : Int) (itemOf_0 : Int → Int) (k12 : 0 ≤ x12 ∧ x12 ≤ 512) (k13 : 0 ≤ x13 ∧ x13 ≤ 512) (k14 : (-512) ≤ x14 ∧ x14 ≤ 512) (k15 : (-512) ≤ x15 ∧ x15 ≤ 511) (k18 : 0 ≤ x18 ∧ x18 ≤ 0) (k19 : (-512) ≤ x19 ∧ x19 ≤ 511) (k20 : (-512) ≤ x20 ∧ x20 ≤ 512) (k23 : (-512) ≤ x23 ∧ x23 ≤ 512) (k24 : (-512) ≤ x24 ∧ x24 ≤ 512) (k27 : (-512) ≤ x27 ∧ x27 ≤ 512) (k33 : (-512) ≤ x33 ∧ x33 ≤ 1024) (k34 : (-1024) ≤ x34 ∧ x34 ≤ 1024) (f0 : x34 = x27 - x24) (f1 : x33 = x13 + x24) (f5 : x18 = 0) (f6 : HUL (x12) (x14)) (f7 : HUL (x13) (x15)) (f9 : SQA (x18) (x14) (x15) (x19) (x20)) (f10 : BTW (x23) (x20)) (f11 : BTW (x24) (x19)) (f12 : BTW (x27) (x19)) : (-512) ≤ x34 ∧ x34 ≤ 512 := by
  have h1 : HUL x12 x14 := by assumption
  have h2 : HUL x13 x15 := by assumption
  have e := sqa_0 ‹SQA _ _ _ _ _› (by omega)
  have b1 : BTW x24 x19 := by assumption
  have b2 : BTW x23 x20 := by assumption
  have b3 : BTW x27 x19 := by assumption
  rw [e.1] at b1 b3
  rw [e.2] at b2
  have r1 := hul_cut h2 b1 b3
  have r2 := hul_to h1 b2
  have a1 := r1.1
  have a2 := r1.2
  have a3 := r2.1
  have a4 := r2.2
  first
    | omega
    | (have g := ‹SQ3 _ _ _ _ _ _ _›
       have q := (g.1.1 x26 (by omega) (by have := g.2; omega)).1
       have e1 : x30 = itemOf_0 x26 := by assumption
       have f := ‹(x28 = 1 ∧ _) ∨ _›
       rw [← e1] at q f
       omega)
set_option maxHeartbeats 4000000 in
theorem vc_Mo_squares_32_0 (x12 : Int) (x13 : Int) (x14 : Int) (x15 : Int) (x16 : Int) (x17 : Int) (x18 : Int) (x19 : Int) (x20 : Int) (x21 : Int) (x22 : Int) (x23 : Int) (x24 : Int) (x26 : Int) (x27 : Int) (x28 : Int) (x30 : Int) (x32 : Int) (itemOf_0 : Int → Int) (itemSize_0 : Int → Int) (itemMany_0 : Int) (k12 : 0 ≤ x12 ∧ x12 ≤ 512) (k13 : 0 ≤ x13 ∧ x13 ≤ 512) (k14 : (-512) ≤ x14 ∧ x14 ≤ 512) (k15 : (-512) ≤ x15 ∧ x15 ≤ 511) (k16 : (-2147483648) ≤ x16 ∧ x16 ≤ 131071) (k17 : 0 ≤ x17 ∧ x17 ≤ 40) (k18 : 0 ≤ x18 ∧ x18 ≤ 0) (k19 : (-512) ≤ x19 ∧ x19 ≤ 511) (k20 : (-512) ≤ x20 ∧ x20 ≤ 512) (k21 : 1 ≤ x21 ∧ x21 ≤ 47) (k22 : 0 ≤ x22 ∧ x22 ≤ 131071) (k23 : (-512) ≤ x23 ∧ x23 ≤ 512) (k24 : (-512) ≤ x24 ∧ x24 ≤ 512) (k26 : 0 ≤ x26 ∧ x26 ≤ 39) (k27 : (-512) ≤ x27 ∧ x27 ≤ 512) (k28 : 0 ≤ x28 ∧ x28 ≤ 1) (k30 : 0 ≤ x30 ∧ x30 ≤ 131) (k32 : 0 ≤ x32 ∧ x32 ≤ 99) (d18 : x21 + (-4294967296) ≤ x26 ∧ x26 ≤ x21 + (-1)) (f2 : x32 = x30 % 100) (h3 : x30 = itemOf_0 (x26)) (f5 : x18 = 0) (f6 : HUL (x12) (x14)) (f7 : HUL (x13) (x15)) (f9 : SQA (x18) (x14) (x15) (x19) (x20)) (f10 : BTW (x23) (x20)) (f11 : BTW (x24) (x19)) (f12 : BTW (x27) (x19)) (f14 : SQ3 (itemMany_0) (itemOf_0) (itemSize_0) (x16) (x17) (x21) (x22)) (f16 : ((x28 = 1) ∧ (100 ≤ itemOf_0 (x26))) ∨ ((x28 = 0) ∧ (itemOf_0 (x26) ≤ 99))) (kz_0_132 : 0 ≤ itemMany_0 ∧ itemMany_0 ≤ 40) : ((x28 = 1) ∧ (x32 ≤ 7)) ∨ ((x28 = 0) ∧ (x32 ≤ 23)) := by
  have h1 : HUL x12 x14 := by assumption
  have h2 : HUL x13 x15 := by assumption
  have e := sqa_0 ‹SQA _ _ _ _ _› (by omega)
  have b1 : BTW x24 x19 := by assumption
  have b2 : BTW x23 x20 := by assumption
  have b3 : BTW x27 x19 := by assumption
  rw [e.1] at b1 b3
  rw [e.2] at b2
  have r1 := hul_cut h2 b1 b3
  have r2 := hul_to h1 b2
  have a1 := r1.1
  have a2 := r1.2
  have a3 := r2.1
  have a4 := r2.2
  first
    | omega
    | (have g := ‹SQ3 _ _ _ _ _ _ _›
       have q := (g.1.1 x26 (by omega) (by have := g.2; omega)).1
       have e1 : x30 = itemOf_0 x26 := by assumption
       have f := ‹(x28 = 1 ∧ _) ∨ _›
       rw [← e1] at q f
       omega)
set_option maxHeartbeats 4000000 in
theorem vc_Mo_squares_32_1 (x12 : Int) (x13 : Int) (x14 : Int) (x15 : Int) (x18 : Int) (x19 : Int) (x20 : Int) (x23 : Int) (x24 : Int) (x27 : Int) (k12 : 0 ≤ x12 ∧ x12 ≤ 512) (k14 : (-512) ≤ x14 ∧ x14 ≤ 512) (k15 : (-512) ≤ x15 ∧ x15 ≤ 511) (k18 : 0 ≤ x18 ∧ x18 ≤ 0) (k19 : (-512) ≤ x19 ∧ x19 ≤ 511) (k20 : (-512) ≤ x20 ∧ x20 ≤ 512) (k23 : (-512) ≤ x23 ∧ x23 ≤ 512) (f5 : x18 = 0) (f6 : HUL (x12) (x14)) (f9 : SQA (x18) (x14) (x15) (x19) (x20)) (f10 : BTW (x23) (x20)) : HUL (x12) (x23) := by
  first
    | (have h1 : HUL x12 x14 := by assumption
       have e := sqa_0 ‹SQA _ _ _ _ _› (by omega)
       have b1 : BTW x23 x20 := by assumption
       rw [e.2] at b1
       exact hul_to h1 b1)
set_option maxHeartbeats 4000000 in
theorem vc_Mo_squares_32_2 (x12 : Int) (x13 : Int) (x14 : Int) (x15 : Int) (x18 : Int) (x19 : Int) (x20 : Int) (x23 : Int) (x24 : Int) (x27 : Int) (x33 : Int) (x34 : Int) (k13 : 0 ≤ x13 ∧ x13 ≤ 512) (k14 : (-512) ≤ x14 ∧ x14 ≤ 512) (k15 : (-512) ≤ x15 ∧ x15 ≤ 511) (k18 : 0 ≤ x18 ∧ x18 ≤ 0) (k19 : (-512) ≤ x19 ∧ x19 ≤ 511) (k20 : (-512) ≤ x20 ∧ x20 ≤ 512) (k24 : (-512) ≤ x24 ∧ x24 ≤ 512) (k27 : (-512) ≤ x27 ∧ x27 ≤ 512) (k33 : (-512) ≤ x33 ∧ x33 ≤ 1024) (k34 : (-1024) ≤ x34 ∧ x34 ≤ 1024) (f0 : x34 = x27 - x24) (f1 : x33 = x13 + x24) (f5 : x18 = 0) (f7 : HUL (x13) (x15)) (f9 : SQA (x18) (x14) (x15) (x19) (x20)) (f11 : BTW (x24) (x19)) (f12 : BTW (x27) (x19)) : HUL (x33) (x34) := by
  first
    | (have h1 : HUL x13 x15 := by assumption
       have e := sqa_0 ‹SQA _ _ _ _ _› (by omega)
       have b1 : BTW x24 x19 := by assumption
       have b3 : BTW x27 x19 := by assumption
       rw [e.1] at b1 b3
       exact hul_c2 h1 b1 b3 (by omega) (by omega))
def o_Mo_squares_32 : or_T := (375, 35, [(0, (2, 0, 0, [165])), (1, (0, 0, 3, [])), (6, (2, 0, 0, [165])), (7, (0, 0, 3, [])), (12, (0, 0, 512, [])), (13, (0, 0, 512, [])), (14, (0, -512, 512, [])), (15, (0, -512, 511, [])), (16, (0, -2147483648, 131071, [])), (17, (0, 0, 40, [])), (18, (0, 0, 0, [])), (19, (0, -512, 511, [])), (20, (0, -512, 512, [])), (21, (0, 1, 47, [])), (22, (0, 0, 131071, [])), (23, (0, -512, 512, [])), (24, (0, -512, 512, [])), (25, (0, 1, 98400, [])), (26, (0, 0, 39, [])), (27, (0, -512, 512, [])), (28, (0, 0, 1, [])), (29, (2, 0, 0, [260])), (30, (0, 0, 131, [])), (32, (0, 0, 99, [])), (33, (0, -512, 1024, [])), (34, (0, -1024, 1024, []))], [(2, [34, 27, 24], []), (1, [33, 13, 24], []), (12, [32, 30], [100]), (10, [30, 29, 26], []), (9, [29, 6], [130]), (8, [18], [0]), (20, [12, 14], [61, 0, 791]), (20, [13, 15], [61, 0, 791]), (20, [6, 7], [60, 0, 1, 789, 72]), (20, [18, 14, 15, 19, 20], [61, 0, 792]), (20, [23, 20], [61, 0, 793]), (20, [24, 19], [61, 0, 793]), (20, [27, 19], [61, 0, 793]), (20, [6, 16, 17, 21, 22, 26, 25], [60, 1, 2, 795, 132, 130, 131]), (20, [6, 16, 17, 21, 22], [60, 1, 2, 777, 132, 130, 131]), (20, [17, 26, 21], [50, 0, 0, 2, 6, 0, 2, 1, 0, 1, 1, 0, 6, 4, 2, 1, 1, 0, 1, 1, 2]), (20, [28, 6, 26], [50, 0, 1, 1130, 3, 17, 2, 6, 1, 2, 1, 0, 0, 1, 0, 2, 0, 100, 3, 1, 130, 1, 2, 2, 6, 1, 2, 1, 0, 0, 0, 0, 5, 3, 1, 130, 1, 2, 0, 99]), (24, [0, 6], []), (24, [1, 7], [])], [(33, (0, 0, 512, [])), (34, (0, -512, 512, []))], [], [(20, [28, 32], [50, 0, 0, 3, 14, 2, 6, 1, 2, 1, 0, 0, 1, 0, 2, 1, 1, 0, 7, 2, 6, 1, 2, 1, 0, 0, 0, 0, 2, 1, 1, 0, 23]), (20, [12, 23], [61, 0, 791]), (20, [33, 34], [61, 0, 791])], [], [(34, 27, -512, 512), (33, 24, 0, 512), (33, 21, -4294967296, 1022), (33, 25, -4294967296, 1022), (33, 26, -4294967296, 1023), (33, 13, -512, 512), (1, 7, -4294967296, 0), (7, 1, -4294967296, 0), (14, 20, -4294967296, 0), (15, 20, -4294967296, 0), (17, 21, -4294967296, -1), (17, 26, -4294967296, 0), (19, 14, -4294967296, 0), (19, 15, -4294967296, 0), (19, 20, -4294967296, 0), (24, 21, -4294967296, 510), (24, 25, -4294967296, 510), (24, 26, -4294967296, 511), (26, 21, -4294967296, -1)])
theorem oo_Mo_squares_32 {kA : Nat → ClassId} : or_ok PRD kA GG o_Mo_squares_32 := by
  refine or_mk fun A ta ws vs hD hth hl => ?_
  intro t0 r0 t1 k1 t6 r6 t7 k7 t12 k12 t13 k13 t14 k14 t15 k15 t16 k16 t17 k17 t18 k18 t19 k19 t20 k20 t21 k21 t22 k22 t23 k23 t24 k24 t25 k25 t26 k26 t27 k27 t28 k28 t29 r29 t30 k30 t32 k32 t33 k33 t34 k34 d0 d1 d2 d3 d4 d5 d6 d7 d8 d9 d10 d11 d12 d13 d14 d15 d16 d17 d18 f0 f1 f2 f3 f4 f5 f6 f7 f8 f9 f10 f11 f12 f13 f14 f15 f16 f17 f18
  replace f3 := shm_107 f3
  replace f4 := shm_595 f4
  replace f14 := shm_1278 f14
  replace f16 := shm_1286 f16
  replace f17 := shm_5 f17
  have q6 : n_v vs 6 = n_v vs 0 := f17.symm
  simp only [q6] at f4 f14 f16
  have ad_29 : v_ad (n_v vs 29) = w_ar ws (n_v vs 0) 130 := congrArg v_ad f4
  simp only [ad_29] at f3
  have h3 : v_iv (n_v vs 30) = w_ei ws (w_ar ws (n_v vs 0) 130) (v_iv (n_v vs 26)) := f3
  have kz_0_132 := fdq_152 hD hth r0
  have hrf0 : 0 ≤ v_iv (n_v vs 33) ∧ v_iv (n_v vs 33) ≤ 512 := vc_Mo_squares_32_r0 (v_iv (n_v vs 12)) (v_iv (n_v vs 13)) (v_iv (n_v vs 14)) (v_iv (n_v vs 15)) (v_iv (n_v vs 18)) (v_iv (n_v vs 19)) (v_iv (n_v vs 20)) (v_iv (n_v vs 23)) (v_iv (n_v vs 24)) (v_iv (n_v vs 26)) (v_iv (n_v vs 27)) (v_iv (n_v vs 28)) (v_iv (n_v vs 30)) (v_iv (n_v vs 33)) (v_iv (n_v vs 34)) (w_ei ws (w_ar ws (n_v vs 0) 130)) k12 k13 k14 k15 k18 k19 k20 k23 k24 k27 k33 k34 (shm_14 f0) (shm_12 f1) (shm_192 f5) (shm_417 f6) (shm_417 f7) (shm_1281 f9) (shm_890 f10) (shm_890 f11) (shm_890 f12)
  have hrf1 : (-512) ≤ v_iv (n_v vs 34) ∧ v_iv (n_v vs 34) ≤ 512 := vc_Mo_squares_32_r1 (v_iv (n_v vs 12)) (v_iv (n_v vs 13)) (v_iv (n_v vs 14)) (v_iv (n_v vs 15)) (v_iv (n_v vs 18)) (v_iv (n_v vs 19)) (v_iv (n_v vs 20)) (v_iv (n_v vs 23)) (v_iv (n_v vs 24)) (v_iv (n_v vs 26)) (v_iv (n_v vs 27)) (v_iv (n_v vs 28)) (v_iv (n_v vs 30)) (v_iv (n_v vs 33)) (v_iv (n_v vs 34)) (w_ei ws (w_ar ws (n_v vs 0) 130)) k12 k13 k14 k15 k18 k19 k20 k23 k24 k27 k33 k34 (shm_14 f0) (shm_12 f1) (shm_192 f5) (shm_417 f6) (shm_417 f7) (shm_1281 f9) (shm_890 f10) (shm_890 f11) (shm_890 f12)
  have nf0 : fc_1 PRD (20, [28, 32], [50, 0, 0, 3, 14, 2, 6, 1, 2, 1, 0, 0, 1, 0, 2, 1, 1, 0, 7, 2, 6, 1, 2, 1, 0, 0, 0, 0, 2, 1, 1, 0, 23]) ws (vs) := ⟨nf_in hl rfl, sgq_715 (vc_Mo_squares_32_0 (v_iv (n_v vs 12)) (v_iv (n_v vs 13)) (v_iv (n_v vs 14)) (v_iv (n_v vs 15)) (v_iv (n_v vs 16)) (v_iv (n_v vs 17)) (v_iv (n_v vs 18)) (v_iv (n_v vs 19)) (v_iv (n_v vs 20)) (v_iv (n_v vs 21)) (v_iv (n_v vs 22)) (v_iv (n_v vs 23)) (v_iv (n_v vs 24)) (v_iv (n_v vs 26)) (v_iv (n_v vs 27)) (v_iv (n_v vs 28)) (v_iv (n_v vs 30)) (v_iv (n_v vs 32)) (w_ei ws (w_ar ws (n_v vs 0) 130)) (w_ei ws (w_ar ws (n_v vs 0) 131)) (w_fi ws (n_v vs 0) 132) k12 k13 k14 k15 k16 k17 k18 k19 k20 k21 k22 k23 k24 k26 k27 k28 k30 k32 d18 (shm_1287 f2) h3 (shm_192 f5) (shm_417 f6) (shm_417 f7) (shm_1281 f9) (shm_890 f10) (shm_890 f11) (shm_890 f12) f14 f16 kz_0_132)⟩
  have nf1 : fc_1 PRD (20, [12, 23], [61, 0, 791]) ws (vs) := ⟨nf_in hl rfl, sgq_417 (vc_Mo_squares_32_1 (v_iv (n_v vs 12)) (v_iv (n_v vs 13)) (v_iv (n_v vs 14)) (v_iv (n_v vs 15)) (v_iv (n_v vs 18)) (v_iv (n_v vs 19)) (v_iv (n_v vs 20)) (v_iv (n_v vs 23)) (v_iv (n_v vs 24)) (v_iv (n_v vs 27)) k12 k14 k15 k18 k19 k20 k23 (shm_192 f5) (shm_417 f6) (shm_1281 f9) (shm_890 f10))⟩
  have nf2 : fc_1 PRD (20, [33, 34], [61, 0, 791]) ws (vs) := ⟨nf_in hl rfl, sgq_417 (vc_Mo_squares_32_2 (v_iv (n_v vs 12)) (v_iv (n_v vs 13)) (v_iv (n_v vs 14)) (v_iv (n_v vs 15)) (v_iv (n_v vs 18)) (v_iv (n_v vs 19)) (v_iv (n_v vs 20)) (v_iv (n_v vs 23)) (v_iv (n_v vs 24)) (v_iv (n_v vs 27)) (v_iv (n_v vs 33)) (v_iv (n_v vs 34)) k13 k14 k15 k18 k19 k20 k24 k27 k33 k34 (shm_14 f0) (shm_12 f1) (shm_192 f5) (shm_417 f7) (shm_1281 f9) (shm_890 f11) (shm_890 f12))⟩
  have rf33 : tv_ok ta (0, 0, 512, []) (n_v vs 33) := tv_in t33 (by first | omega | grind) (by first | omega | grind)
  have rf34 : tv_ok ta (0, -512, 512, []) (n_v vs 34) := tv_in t34 (by first | omega | grind) (by first | omega | grind)
  refine ⟨List.forall_mem_cons.mpr ⟨rf33, List.forall_mem_cons.mpr ⟨rf34, (fun _ h => (by cases h))⟩⟩, [], trivial, ?_, (fun _ h => (by cases h))⟩
  rw [List.append_nil]
  exact List.forall_mem_cons.mpr ⟨⟨show (20 : Nat) < 100 from by decide, nf0⟩, List.forall_mem_cons.mpr ⟨⟨show (20 : Nat) < 100 from by decide, nf1⟩, List.forall_mem_cons.mpr ⟨⟨show (20 : Nat) < 100 from by decide, nf2⟩, (fun _ h => (by cases h))⟩⟩⟩
set_option maxHeartbeats 4000000 in
theorem vc_Mo_squares_33_0 (x17 : Int) (x21 : Int) (x26 : Int) (x34 : Int) (x35 : Int) (itemOf_0 : Int → Int) (k17 : 0 ≤ x17 ∧ x17 ≤ 40) (k26 : 0 ≤ x26 ∧ x26 ≤ 39) (k35 : 1 ≤ x35 ∧ x35 ≤ 40) (d0 : x26 + 1 ≤ x35 ∧ x35 ≤ x26 + 1) (d9 : x26 + (-4294967296) ≤ x17 ∧ x17 ≤ x26 + 0) : x17 ≤ x35 := by
  first
    | omega
    | (have g := ‹SQ3 _ _ _ _ _ _ _›
       have q := (g.1.1 x26 (by omega) (by have := g.2; omega)).1
       have e1 : x37 = itemOf_0 x26 := by assumption
       have e2 : x34 = itemOf_0 x26 := by assumption
       rw [← e1] at q
       rw [← e1] at e2
       omega)
set_option maxHeartbeats 4000000 in
theorem vc_Mo_squares_33_1 (x16 : Int) (x17 : Int) (x21 : Int) (x22 : Int) (x25 : Int) (x26 : Int) (x35 : Int) (itemOf_0 : Int → Int) (itemSize_0 : Int → Int) (itemMany_0 : Int) (k16 : (-2147483648) ≤ x16 ∧ x16 ≤ 131071) (k17 : 0 ≤ x17 ∧ x17 ≤ 40) (k21 : 1 ≤ x21 ∧ x21 ≤ 47) (k22 : 0 ≤ x22 ∧ x22 ≤ 131071) (k25 : 1 ≤ x25 ∧ x25 ≤ 98400) (k26 : 0 ≤ x26 ∧ x26 ≤ 39) (k35 : 1 ≤ x35 ∧ x35 ≤ 40) (f0 : x35 = x26 + 1) (f10 : SQ5 (itemMany_0) (itemOf_0) (itemSize_0) (x16) (x17) (x21) (x22) (x26) (x25)) (kz_0_132 : 0 ≤ itemMany_0 ∧ itemMany_0 ≤ 40) : SQ4 (itemMany_0) (itemOf_0) (itemSize_0) (x16) (x17) (x21) (x22) (x35) (x25) := by
  first
    | exact sq5_to ‹SQ5 _ _ _ _ _ _ _ _ _› (by omega) (by omega)
def o_Mo_squares_33 : or_T := (256, 36, [(0, (2, 0, 0, [165])), (1, (0, 0, 3, [])), (6, (2, 0, 0, [165])), (7, (0, 0, 3, [])), (12, (0, 0, 512, [])), (13, (0, 0, 512, [])), (14, (0, -512, 512, [])), (15, (0, -512, 511, [])), (16, (0, -2147483648, 131071, [])), (17, (0, 0, 40, [])), (18, (0, 0, 0, [])), (19, (0, -512, 511, [])), (20, (0, -512, 512, [])), (21, (0, 1, 47, [])), (22, (0, 0, 131071, [])), (23, (0, -512, 512, [])), (24, (0, -512, 512, [])), (25, (0, 1, 98400, [])), (26, (0, 0, 39, [])), (27, (0, -512, 512, [])), (28, (0, 0, 1, [])), (30, (0, 0, 131, [])), (32, (0, 0, 99, [])), (33, (0, 0, 512, [])), (34, (0, -512, 512, [])), (35, (0, 1, 40, []))], [(6, [35, 26], [1]), (20, [28, 32], [50, 0, 0, 3, 14, 2, 6, 1, 2, 1, 0, 0, 1, 0, 2, 1, 1, 0, 7, 2, 6, 1, 2, 1, 0, 0, 0, 0, 2, 1, 1, 0, 23]), (20, [12, 23], [61, 0, 791]), (20, [33, 34], [61, 0, 791]), (20, [12, 14], [61, 0, 791]), (20, [13, 15], [61, 0, 791]), (20, [18, 14, 15, 19, 20], [61, 0, 792]), (20, [23, 20], [61, 0, 793]), (20, [24, 19], [61, 0, 793]), (20, [27, 19], [61, 0, 793]), (20, [6, 16, 17, 21, 22, 26, 25], [60, 1, 2, 795, 132, 130, 131]), (20, [6, 16, 17, 21, 22], [60, 1, 2, 777, 132, 130, 131]), (20, [17, 26, 21], [50, 0, 0, 2, 6, 0, 2, 1, 0, 1, 1, 0, 6, 4, 2, 1, 1, 0, 1, 1, 2]), (20, [28, 6, 26], [50, 0, 1, 1130, 3, 17, 2, 6, 1, 2, 1, 0, 0, 1, 0, 2, 0, 100, 3, 1, 130, 1, 2, 2, 6, 1, 2, 1, 0, 0, 0, 0, 5, 3, 1, 130, 1, 2, 0, 99]), (24, [0, 6], []), (24, [1, 7], []), (20, [6, 7], [60, 0, 1, 789, 72]), (102, [34], [9873027343927236252929815095344103029896415193801479180091654144]), (2, [34, 27, 24], []), (1, [33, 13, 24], []), (12, [32, 30], [100]), (8, [18], [0])], [], [], [(20, [17, 35], [50, 0, 0, 0, 2, 1, 0, 1, 1]), (20, [6, 16, 17, 21, 22, 35, 25], [60, 1, 2, 794, 132, 130, 131])], [], [(35, 26, 1, 1), (35, 21, -4294967296, 0), (34, 27, -512, 512), (33, 24, 0, 512), (1, 7, -4294967296, 0), (7, 1, -4294967296, 0), (14, 20, -4294967296, 0), (15, 20, -4294967296, 0), (17, 21, -4294967296, -1), (17, 26, -4294967296, 0), (19, 14, -4294967296, 0), (19, 15, -4294967296, 0), (19, 20, -4294967296, 0), (24, 21, -4294967296, 510), (24, 25, -4294967296, 510), (24, 26, -4294967296, 511), (26, 21, -4294967296, -1)])
theorem oo_Mo_squares_33 {kA : Nat → ClassId} : or_ok PRD kA GG o_Mo_squares_33 := by
  refine or_mk fun A ta ws vs hD hth hl => ?_
  intro t0 r0 t1 k1 t6 r6 t7 k7 t12 k12 t13 k13 t14 k14 t15 k15 t16 k16 t17 k17 t18 k18 t19 k19 t20 k20 t21 k21 t22 k22 t23 k23 t24 k24 t25 k25 t26 k26 t27 k27 t28 k28 t30 k30 t32 k32 t33 k33 t34 k34 t35 k35 d0 d1 d2 d3 d4 d5 d6 d7 d8 d9 d10 d11 d12 d13 d14 d15 d16 f0 f1 f2 f3 f4 f5 f6 f7 f8 f9 f10 f11 f12 f13 f14 f15 f16 ta1 w1 le1 s1 f18 f19 f20 f21
  replace f0 := shm_4 f0
  replace f10 := shm_1285 f10
  replace f14 := shm_5 f14
  have q6 : n_v vs 6 = n_v vs 0 := f14.symm
  simp only [q6] at f10
  have kz_0_132 := fdq_152 hD hth r0
  have nf0 : fc_1 PRD (20, [17, 35], [50, 0, 0, 0, 2, 1, 0, 1, 1]) ws (vs) := ⟨nf_in hl rfl, sgq_360 (vc_Mo_squares_33_0 (v_iv (n_v vs 17)) (v_iv (n_v vs 21)) (v_iv (n_v vs 26)) (v_iv (n_v vs 34)) (v_iv (n_v vs 35)) (w_ei ws (w_ar ws (n_v vs 0) 130)) k17 k26 k35 d0 d9)⟩
  have nf1 : fc_1 PRD (20, [6, 16, 17, 21, 22, 35, 25], [60, 1, 2, 794, 132, 130, 131]) ws (vs) := by
    refine ⟨nf_in hl rfl, sgq_1284 ?_⟩
    · show SQ4 (w_fi ws (n_v vs 6) 132) (w_ei ws (w_ar ws (n_v vs 6) 130)) (w_ei ws (w_ar ws (n_v vs 6) 131)) (v_iv (n_v vs 16)) (v_iv (n_v vs 17)) (v_iv (n_v vs 21)) (v_iv (n_v vs 22)) (v_iv (n_v vs 35)) (v_iv (n_v vs 25))
      rw [q6]
      exact vc_Mo_squares_33_1 (v_iv (n_v vs 16)) (v_iv (n_v vs 17)) (v_iv (n_v vs 21)) (v_iv (n_v vs 22)) (v_iv (n_v vs 25)) (v_iv (n_v vs 26)) (v_iv (n_v vs 35)) (w_ei ws (w_ar ws (n_v vs 0) 130)) (w_ei ws (w_ar ws (n_v vs 0) 131)) (w_fi ws (n_v vs 0) 132) k16 k17 k21 k22 k25 k26 k35 f0 f10 kz_0_132
  refine ⟨(fun _ h => (by cases h)), [], trivial, ?_, (fun _ h => (by cases h))⟩
  rw [List.append_nil]
  exact List.forall_mem_cons.mpr ⟨⟨show (20 : Nat) < 100 from by decide, nf0⟩, List.forall_mem_cons.mpr ⟨⟨show (20 : Nat) < 100 from by decide, nf1⟩, (fun _ h => (by cases h))⟩⟩
set_option maxHeartbeats 4000000 in
theorem vc_Mo_squares_34_r0 (x12 : Int) (x13 : Int) (x14 : Int) (x15 : Int) (x18 : Int) (x19 : Int) (x20 : Int) (x23 : Int) (x24 : Int) (x26 : Int) (x27 : Int) (x28 : Int) (x30 : Int) (x33 : Int) (x34 : Int) (itemOf_0 : Int → Int) (k12 : 0 ≤ x12 ∧ x12 ≤ 512) (k13 : 0 ≤ x13 ∧ x13 ≤ 512) (k14 : (-512) ≤ x14 ∧ x14 ≤ 512) (k15 : (-512) ≤ x15 ∧ x15 ≤ 512) (k18 : 1 ≤ x18 ∧ x18 ≤ 1) (k19 : (-512) ≤ x19 ∧ x19 ≤ 512) (k20 : (-512) ≤ x20 ∧ x20 ≤ 512) (k23 : (-512) ≤ x23 ∧ x23 ≤ 512) (k24 : (-512) ≤ x24 ∧ x24 ≤ 512) (k27 : (-512) ≤ x27 ∧ x27 ≤ 512) (k33 : (-512) ≤ x33 ∧ x33 ≤ 1024) (k34 : (-1024) ≤ x34 ∧ x34 ≤ 1024) (f0 : x34 = x27 - x24) (f1 : x33 = x12 + x24) (f5 : x18 ≠ 0) (f6 : HUL (x12) (x14)) (f7 : HUL (x13) (x15)) (f9 : SQA (x18) (x14) (x15) (x19) (x20)) (f10 : BTW (x23) (x20)) (f11 : BTW (x24) (x19)) (f12 : BTW (x27) (x19)) : 0 ≤ x33 ∧ x33 ≤ 512 := by
  have h1 : HUL x12 x14 := by assumption
  have h2 : HUL x13 x15 := by assumption
  have e := sqa_1 ‹SQA _ _ _ _ _› (by omega)
  have b1 : BTW x24 x19 := by assumption
  have b2 : BTW x23 x20 := by assumption
  have b3 : BTW x27 x19 := by assumption
  rw [e.1] at b1 b3
  rw [e.2] at b2
  have r1 := hul_cut h1 b1 b3
  have r2 := hul_to h2 b2
  have a1 := r1.1
  have a2 := r1.2
  have a3 := r2.1
  have a4 := r2.2
  first
    | omega
    | (have g := ‹SQ3 _ _ _ _ _ _ _›
       have q := (g.1.1 x26 (by omega) (by have := g.2; omega)).1
       have e1 : x30 = itemOf_0 x26 := by assumption
       have f := ‹(x28 = 1 ∧ _) ∨ _›
       rw [← e1] at q f
       omega)
set_option maxHeartbeats 4000000 in
theorem vc_Mo_squares_34_r1 (x12 : Int) (x13 : Int) (x14 : Int) (x15 : Int) (x18 : Int) (x19 : Int) (x20 : Int) (x23 : Int) (x24 : Int) (x26 : Int) (x27 : Int) (x28 : Int) (x30 : Int) (x33 : Int) (x34 : Int) (itemOf_0 : Int → Int) (k12 : 0 ≤ x12 ∧ x12 ≤ 512) (k13 : 0 ≤ x13 ∧ x13 ≤ 512) (k14 : (-512) ≤ x14 ∧ x14 ≤ 512) (k15 : (-512) ≤ x15 ∧ x15 ≤ 512) (k18 : 1 ≤ x18 ∧ x18 ≤ 1) (k19 : (-512) ≤ x19 ∧ x19 ≤ 512) (k20 : (-512) ≤ x20 ∧ x20 ≤ 512) (k23 : (-512) ≤ x23 ∧ x23 ≤ 512) (k24 : (-512) ≤ x24 ∧ x24 ≤ 512) (k27 : (-512) ≤ x27 ∧ x27 ≤ 512) (k33 : (-512) ≤ x33 ∧ x33 ≤ 1024) (k34 : (-1024) ≤ x34 ∧ x34 ≤ 1024) (f0 : x34 = x27 - x24) (f1 : x33 = x12 + x24) (f5 : x18 ≠ 0) (f6 : HUL (x12) (x14)) (f7 : HUL (x13) (x15)) (f9 : SQA (x18) (x14) (x15) (x19) (x20)) (f10 : BTW (x23) (x20)) (f11 : BTW (x24) (x19)) (f12 : BTW (x27) (x19)) : (-512) ≤ x34 ∧ x34 ≤ 512 := by
  have h1 : HUL x12 x14 := by assumption
  have h2 : HUL x13 x15 := by assumption
  have e := sqa_1 ‹SQA _ _ _ _ _› (by omega)
  have b1 : BTW x24 x19 := by assumption
  have b2 : BTW x23 x20 := by assumption
  have b3 : BTW x27 x19 := by assumption
  rw [e.1] at b1 b3
  rw [e.2] at b2
  have r1 := hul_cut h1 b1 b3
  have r2 := hul_to h2 b2
  have a1 := r1.1
  have a2 := r1.2
  have a3 := r2.1
  have a4 := r2.2
  first
    | omega
    | (have g := ‹SQ3 _ _ _ _ _ _ _›
       have q := (g.1.1 x26 (by omega) (by have := g.2; omega)).1
       have e1 : x30 = itemOf_0 x26 := by assumption
       have f := ‹(x28 = 1 ∧ _) ∨ _›
       rw [← e1] at q f
       omega)
set_option maxHeartbeats 4000000 in
theorem vc_Mo_squares_34_0 (x12 : Int) (x13 : Int) (x14 : Int) (x15 : Int) (x16 : Int) (x17 : Int) (x18 : Int) (x19 : Int) (x20 : Int) (x21 : Int) (x22 : Int) (x23 : Int) (x24 : Int) (x26 : Int) (x27 : Int) (x28 : Int) (x30 : Int) (x32 : Int) (itemOf_0 : Int → Int) (itemSize_0 : Int → Int) (itemMany_0 : Int) (k12 : 0 ≤ x12 ∧ x12 ≤ 512) (k13 : 0 ≤ x13 ∧ x13 ≤ 512) (k14 : (-512) ≤ x14 ∧ x14 ≤ 512) (k15 : (-512) ≤ x15 ∧ x15 ≤ 512) (k16 : (-2147483648) ≤ x16 ∧ x16 ≤ 131071) (k17 : 0 ≤ x17 ∧ x17 ≤ 40) (k18 : 1 ≤ x18 ∧ x18 ≤ 1) (k19 : (-512) ≤ x19 ∧ x19 ≤ 512) (k20 : (-512) ≤ x20 ∧ x20 ≤ 512) (k21 : 1 ≤ x21 ∧ x21 ≤ 47) (k22 : 0 ≤ x22 ∧ x22 ≤ 131071) (k23 : (-512) ≤ x23 ∧ x23 ≤ 512) (k24 : (-512) ≤ x24 ∧ x24 ≤ 512) (k26 : 0 ≤ x26 ∧ x26 ≤ 39) (k27 : (-512) ≤ x27 ∧ x27 ≤ 512) (k28 : 0 ≤ x28 ∧ x28 ≤ 1) (k30 : 0 ≤ x30 ∧ x30 ≤ 131) (k32 : 0 ≤ x32 ∧ x32 ≤ 99) (d18 : x21 + (-4294967296) ≤ x26 ∧ x26 ≤ x21 + (-1)) (f2 : x32 = x30 % 100) (h3 : x30 = itemOf_0 (x26)) (f5 : x18 ≠ 0) (f6 : HUL (x12) (x14)) (f7 : HUL (x13) (x15)) (f9 : SQA (x18) (x14) (x15) (x19) (x20)) (f10 : BTW (x23) (x20)) (f11 : BTW (x24) (x19)) (f12 : BTW (x27) (x19)) (f14 : SQ3 (itemMany_0) (itemOf_0) (itemSize_0) (x16) (x17) (x21) (x22)) (f16 : ((x28 = 1) ∧ (100 ≤ itemOf_0 (x26))) ∨ ((x28 = 0) ∧ (itemOf_0 (x26) ≤ 99))) (kz_0_132 : 0 ≤ itemMany_0 ∧ itemMany_0 ≤ 40) : ((x28 = 1) ∧ (x32 ≤ 7)) ∨ ((x28 = 0) ∧ (x32 ≤ 23)) := by
  have h1 : HUL x12 x14 := by assumption
  have h2 : HUL x13 x15 := by assumption
  have e := sqa_1 ‹SQA _ _ _ _ _› (by omega)
  have b1 : BTW x24 x19 := by assumption
  have b2 : BTW x23 x20 := by assumption
  have b3 : BTW x27 x19 := by assumption
  rw [e.1] at b1 b3
  rw [e.2] at b2
  have r1 := hul_cut h1 b1 b3
  have r2 := hul_to h2 b2
  have a1 := r1.1
  have a2 := r1.2
  have a3 := r2.1
  have a4 := r2.2
  first
    | omega
    | (have g := ‹SQ3 _ _ _ _ _ _ _›
       have q := (g.1.1 x26 (by omega) (by have := g.2; omega)).1
       have e1 : x30 = itemOf_0 x26 := by assumption
       have f := ‹(x28 = 1 ∧ _) ∨ _›
       rw [← e1] at q f
       omega)
set_option maxHeartbeats 4000000 in
theorem vc_Mo_squares_34_1 (x12 : Int) (x13 : Int) (x14 : Int) (x15 : Int) (x18 : Int) (x19 : Int) (x20 : Int) (x23 : Int) (x24 : Int) (x27 : Int) (x33 : Int) (x34 : Int) (k12 : 0 ≤ x12 ∧ x12 ≤ 512) (k14 : (-512) ≤ x14 ∧ x14 ≤ 512) (k15 : (-512) ≤ x15 ∧ x15 ≤ 512) (k18 : 1 ≤ x18 ∧ x18 ≤ 1) (k19 : (-512) ≤ x19 ∧ x19 ≤ 512) (k20 : (-512) ≤ x20 ∧ x20 ≤ 512) (k24 : (-512) ≤ x24 ∧ x24 ≤ 512) (k27 : (-512) ≤ x27 ∧ x27 ≤ 512) (k33 : (-512) ≤ x33 ∧ x33 ≤ 1024) (k34 : (-1024) ≤ x34 ∧ x34 ≤ 1024) (f0 : x34 = x27 - x24) (f1 : x33 = x12 + x24) (f5 : x18 ≠ 0) (f6 : HUL (x12) (x14)) (f9 : SQA (x18) (x14) (x15) (x19) (x20)) (f11 : BTW (x24) (x19)) (f12 : BTW (x27) (x19)) : HUL (x33) (x34) := by
  first
    | (have h1 : HUL x12 x14 := by assumption
       have e := sqa_1 ‹SQA _ _ _ _ _› (by omega)
       have b1 : BTW x24 x19 := by assumption
       have b3 : BTW x27 x19 := by assumption
       rw [e.1] at b1 b3
       exact hul_c2 h1 b1 b3 (by omega) (by omega))
set_option maxHeartbeats 4000000 in
theorem vc_Mo_squares_34_2 (x12 : Int) (x13 : Int) (x14 : Int) (x15 : Int) (x18 : Int) (x19 : Int) (x20 : Int) (x23 : Int) (x24 : Int) (x27 : Int) (k13 : 0 ≤ x13 ∧ x13 ≤ 512) (k14 : (-512) ≤ x14 ∧ x14 ≤ 512) (k15 : (-512) ≤ x15 ∧ x15 ≤ 512) (k18 : 1 ≤ x18 ∧ x18 ≤ 1) (k19 : (-512) ≤ x19 ∧ x19 ≤ 512) (k20 : (-512) ≤ x20 ∧ x20 ≤ 512) (k23 : (-512) ≤ x23 ∧ x23 ≤ 512) (f5 : x18 ≠ 0) (f7 : HUL (x13) (x15)) (f9 : SQA (x18) (x14) (x15) (x19) (x20)) (f10 : BTW (x23) (x20)) : HUL (x13) (x23) := by
  first
    | (have h1 : HUL x13 x15 := by assumption
       have e := sqa_1 ‹SQA _ _ _ _ _› (by omega)
       have b1 : BTW x23 x20 := by assumption
       rw [e.2] at b1
       exact hul_to h1 b1)
def o_Mo_squares_34 : or_T := (341, 35, [(0, (2, 0, 0, [165])), (1, (0, 0, 3, [])), (6, (2, 0, 0, [165])), (7, (0, 0, 3, [])), (12, (0, 0, 512, [])), (13, (0, 0, 512, [])), (14, (0, -512, 512, [])), (15, (0, -512, 512, [])), (16, (0, -2147483648, 131071, [])), (17, (0, 0, 40, [])), (18, (0, 1, 1, [])), (19, (0, -512, 512, [])), (20, (0, -512, 512, [])), (21, (0, 1, 47, [])), (22, (0, 0, 131071, [])), (23, (0, -512, 512, [])), (24, (0, -512, 512, [])), (25, (0, 1, 98400, [])), (26, (0, 0, 39, [])), (27, (0, -512, 512, [])), (28, (0, 0, 1, [])), (29, (2, 0, 0, [260])), (30, (0, 0, 131, [])), (32, (0, 0, 99, [])), (33, (0, -512, 1024, [])), (34, (0, -1024, 1024, []))], [(2, [34, 27, 24], []), (1, [33, 12, 24], []), (12, [32, 30], [100]), (10, [30, 29, 26], []), (9, [29, 6], [130]), (8, [18], [1]), (20, [12, 14], [61, 0, 791]), (20, [13, 15], [61, 0, 791]), (20, [6, 7], [60, 0, 1, 789, 72]), (20, [18, 14, 15, 19, 20], [61, 0, 792]), (20, [23, 20], [61, 0, 793]), (20, [24, 19], [61, 0, 793]), (20, [27, 19], [61, 0, 793]), (20, [6, 16, 17, 21, 22, 26, 25], [60, 1, 2, 795, 132, 130, 131]), (20, [6, 16, 17, 21, 22], [60, 1, 2, 777, 132, 130, 131]), (20, [17, 26, 21], [50, 0, 0, 2, 6, 0, 2, 1, 0, 1, 1, 0, 6, 4, 2, 1, 1, 0, 1, 1, 2]), (20, [28, 6, 26], [50, 0, 1, 1130, 3, 17, 2, 6, 1, 2, 1, 0, 0, 1, 0, 2, 0, 100, 3, 1, 130, 1, 2, 2, 6, 1, 2, 1, 0, 0, 0, 0, 5, 3, 1, 130, 1, 2, 0, 99]), (24, [0, 6], []), (24, [1, 7], [])], [(33, (0, 0, 512, [])), (34, (0, -512, 512, []))], [], [(20, [28, 32], [50, 0, 0, 3, 14, 2, 6, 1, 2, 1, 0, 0, 1, 0, 2, 1, 1, 0, 7, 2, 6, 1, 2, 1, 0, 0, 0, 0, 2, 1, 1, 0, 23]), (20, [33, 34], [61, 0, 791]), (20, [13, 23], [61, 0, 791])], [], [(34, 27, -512, 512), (33, 24, 0, 512), (33, 21, -4294967296, 1022), (33, 25, -4294967296, 1022), (33, 26, -4294967296, 1023), (33, 12, -512, 512), (1, 7, -4294967296, 0), (7, 1, -4294967296, 0), (14, 20, -4294967296, 0), (15, 20, -4294967296, 0), (17, 21, -4294967296, -1), (17, 26, -4294967296, 0), (19, 14, -4294967296, 0), (19, 15, -4294967296, 0), (19, 20, -4294967296, 0), (24, 21, -4294967296, 510), (24, 25, -4294967296, 510), (24, 26, -4294967296, 511), (26, 21, -4294967296, -1)])
theorem oo_Mo_squares_34 {kA : Nat → ClassId} : or_ok PRD kA GG o_Mo_squares_34 := by
  refine or_mk fun A ta ws vs hD hth hl => ?_
  intro t0 r0 t1 k1 t6 r6 t7 k7 t12 k12 t13 k13 t14 k14 t15 k15 t16 k16 t17 k17 t18 k18 t19 k19 t20 k20 t21 k21 t22 k22 t23 k23 t24 k24 t25 k25 t26 k26 t27 k27 t28 k28 t29 r29 t30 k30 t32 k32 t33 k33 t34 k34 d0 d1 d2 d3 d4 d5 d6 d7 d8 d9 d10 d11 d12 d13 d14 d15 d16 d17 d18 f0 f1 f2 f3 f4 f5 f6 f7 f8 f9 f10 f11 f12 f13 f14 f15 f16 f17 f18
  replace f3 := shm_107 f3
  replace f4 := shm_595 f4
  replace f14 := shm_1278 f14
  replace f16 := shm_1286 f16
  replace f17 := shm_5 f17
  have q6 : n_v vs 6 = n_v vs 0 := f17.symm
  simp only [q6] at f4 f14 f16
  have ad_29 : v_ad (n_v vs 29) = w_ar ws (n_v vs 0) 130 := congrArg v_ad f4
  simp only [ad_29] at f3
  have h3 : v_iv (n_v vs 30) = w_ei ws (w_ar ws (n_v vs 0) 130) (v_iv (n_v vs 26)) := f3
  have kz_0_132 := fdq_152 hD hth r0
  have hrf0 : 0 ≤ v_iv (n_v vs 33) ∧ v_iv (n_v vs 33) ≤ 512 := vc_Mo_squares_34_r0 (v_iv (n_v vs 12)) (v_iv (n_v vs 13)) (v_iv (n_v vs 14)) (v_iv (n_v vs 15)) (v_iv (n_v vs 18)) (v_iv (n_v vs 19)) (v_iv (n_v vs 20)) (v_iv (n_v vs 23)) (v_iv (n_v vs 24)) (v_iv (n_v vs 26)) (v_iv (n_v vs 27)) (v_iv (n_v vs 28)) (v_iv (n_v vs 30)) (v_iv (n_v vs 33)) (v_iv (n_v vs 34)) (w_ei ws (w_ar ws (n_v vs 0) 130)) k12 k13 k14 k15 k18 k19 k20 k23 k24 k27 k33 k34 (shm_14 f0) (shm_12 f1) (shm_142 f5) (shm_417 f6) (shm_417 f7) (shm_1281 f9) (shm_890 f10) (shm_890 f11) (shm_890 f12)
  have hrf1 : (-512) ≤ v_iv (n_v vs 34) ∧ v_iv (n_v vs 34) ≤ 512 := vc_Mo_squares_34_r1 (v_iv (n_v vs 12)) (v_iv (n_v vs 13)) (v_iv (n_v vs 14)) (v_iv (n_v vs 15)) (v_iv (n_v vs 18)) (v_iv (n_v vs 19)) (v_iv (n_v vs 20)) (v_iv (n_v vs 23)) (v_iv (n_v vs 24)) (v_iv (n_v vs 26)) (v_iv (n_v vs 27)) (v_iv (n_v vs 28)) (v_iv (n_v vs 30)) (v_iv (n_v vs 33)) (v_iv (n_v vs 34)) (w_ei ws (w_ar ws (n_v vs 0) 130)) k12 k13 k14 k15 k18 k19 k20 k23 k24 k27 k33 k34 (shm_14 f0) (shm_12 f1) (shm_142 f5) (shm_417 f6) (shm_417 f7) (shm_1281 f9) (shm_890 f10) (shm_890 f11) (shm_890 f12)
  have nf0 : fc_1 PRD (20, [28, 32], [50, 0, 0, 3, 14, 2, 6, 1, 2, 1, 0, 0, 1, 0, 2, 1, 1, 0, 7, 2, 6, 1, 2, 1, 0, 0, 0, 0, 2, 1, 1, 0, 23]) ws (vs) := ⟨nf_in hl rfl, sgq_715 (vc_Mo_squares_34_0 (v_iv (n_v vs 12)) (v_iv (n_v vs 13)) (v_iv (n_v vs 14)) (v_iv (n_v vs 15)) (v_iv (n_v vs 16)) (v_iv (n_v vs 17)) (v_iv (n_v vs 18)) (v_iv (n_v vs 19)) (v_iv (n_v vs 20)) (v_iv (n_v vs 21)) (v_iv (n_v vs 22)) (v_iv (n_v vs 23)) (v_iv (n_v vs 24)) (v_iv (n_v vs 26)) (v_iv (n_v vs 27)) (v_iv (n_v vs 28)) (v_iv (n_v vs 30)) (v_iv (n_v vs 32)) (w_ei ws (w_ar ws (n_v vs 0) 130)) (w_ei ws (w_ar ws (n_v vs 0) 131)) (w_fi ws (n_v vs 0) 132) k12 k13 k14 k15 k16 k17 k18 k19 k20 k21 k22 k23 k24 k26 k27 k28 k30 k32 d18 (shm_1287 f2) h3 (shm_142 f5) (shm_417 f6) (shm_417 f7) (shm_1281 f9) (shm_890 f10) (shm_890 f11) (shm_890 f12) f14 f16 kz_0_132)⟩
  have nf1 : fc_1 PRD (20, [33, 34], [61, 0, 791]) ws (vs) := ⟨nf_in hl rfl, sgq_417 (vc_Mo_squares_34_1 (v_iv (n_v vs 12)) (v_iv (n_v vs 13)) (v_iv (n_v vs 14)) (v_iv (n_v vs 15)) (v_iv (n_v vs 18)) (v_iv (n_v vs 19)) (v_iv (n_v vs 20)) (v_iv (n_v vs 23)) (v_iv (n_v vs 24)) (v_iv (n_v vs 27)) (v_iv (n_v vs 33)) (v_iv (n_v vs 34)) k12 k14 k15 k18 k19 k20 k24 k27 k33 k34 (shm_14 f0) (shm_12 f1) (shm_142 f5) (shm_417 f6) (shm_1281 f9) (shm_890 f11) (shm_890 f12))⟩
  have nf2 : fc_1 PRD (20, [13, 23], [61, 0, 791]) ws (vs) := ⟨nf_in hl rfl, sgq_417 (vc_Mo_squares_34_2 (v_iv (n_v vs 12)) (v_iv (n_v vs 13)) (v_iv (n_v vs 14)) (v_iv (n_v vs 15)) (v_iv (n_v vs 18)) (v_iv (n_v vs 19)) (v_iv (n_v vs 20)) (v_iv (n_v vs 23)) (v_iv (n_v vs 24)) (v_iv (n_v vs 27)) k13 k14 k15 k18 k19 k20 k23 (shm_142 f5) (shm_417 f7) (shm_1281 f9) (shm_890 f10))⟩
  have rf33 : tv_ok ta (0, 0, 512, []) (n_v vs 33) := tv_in t33 (by first | omega | grind) (by first | omega | grind)
  have rf34 : tv_ok ta (0, -512, 512, []) (n_v vs 34) := tv_in t34 (by first | omega | grind) (by first | omega | grind)
  refine ⟨List.forall_mem_cons.mpr ⟨rf33, List.forall_mem_cons.mpr ⟨rf34, (fun _ h => (by cases h))⟩⟩, [], trivial, ?_, (fun _ h => (by cases h))⟩
  rw [List.append_nil]
  exact List.forall_mem_cons.mpr ⟨⟨show (20 : Nat) < 100 from by decide, nf0⟩, List.forall_mem_cons.mpr ⟨⟨show (20 : Nat) < 100 from by decide, nf1⟩, List.forall_mem_cons.mpr ⟨⟨show (20 : Nat) < 100 from by decide, nf2⟩, (fun _ h => (by cases h))⟩⟩⟩
set_option maxHeartbeats 4000000 in
theorem vc_Mo_squares_35_0 (x17 : Int) (x21 : Int) (x26 : Int) (x34 : Int) (x35 : Int) (itemOf_0 : Int → Int) (k17 : 0 ≤ x17 ∧ x17 ≤ 40) (k26 : 0 ≤ x26 ∧ x26 ≤ 39) (k35 : 1 ≤ x35 ∧ x35 ≤ 40) (d0 : x26 + 1 ≤ x35 ∧ x35 ≤ x26 + 1) (d9 : x26 + (-4294967296) ≤ x17 ∧ x17 ≤ x26 + 0) : x17 ≤ x35 := by
  first
    | omega
    | (have g := ‹SQ3 _ _ _ _ _ _ _›
       have q := (g.1.1 x26 (by omega) (by have := g.2; omega)).1
       have e1 : x37 = itemOf_0 x26 := by assumption
       have e2 : x34 = itemOf_0 x26 := by assumption
       rw [← e1] at q
       rw [← e1] at e2
       omega)
set_option maxHeartbeats 4000000 in
theorem vc_Mo_squares_35_1 (x16 : Int) (x17 : Int) (x21 : Int) (x22 : Int) (x25 : Int) (x26 : Int) (x35 : Int) (itemOf_0 : Int → Int) (itemSize_0 : Int → Int) (itemMany_0 : Int) (k16 : (-2147483648) ≤ x16 ∧ x16 ≤ 131071) (k17 : 0 ≤ x17 ∧ x17 ≤ 40) (k21 : 1 ≤ x21 ∧ x21 ≤ 47) (k22 : 0 ≤ x22 ∧ x22 ≤ 131071) (k25 : 1 ≤ x25 ∧ x25 ≤ 98400) (k26 : 0 ≤ x26 ∧ x26 ≤ 39) (k35 : 1 ≤ x35 ∧ x35 ≤ 40) (f0 : x35 = x26 + 1) (f10 : SQ5 (itemMany_0) (itemOf_0) (itemSize_0) (x16) (x17) (x21) (x22) (x26) (x25)) (kz_0_132 : 0 ≤ itemMany_0 ∧ itemMany_0 ≤ 40) : SQ4 (itemMany_0) (itemOf_0) (itemSize_0) (x16) (x17) (x21) (x22) (x35) (x25) := by
  first
    | exact sq5_to ‹SQ5 _ _ _ _ _ _ _ _ _› (by omega) (by omega)
def o_Mo_squares_35 : or_T := (256, 36, [(0, (2, 0, 0, [165])), (1, (0, 0, 3, [])), (6, (2, 0, 0, [165])), (7, (0, 0, 3, [])), (12, (0, 0, 512, [])), (13, (0, 0, 512, [])), (14, (0, -512, 512, [])), (15, (0, -512, 512, [])), (16, (0, -2147483648, 131071, [])), (17, (0, 0, 40, [])), (18, (0, 1, 1, [])), (19, (0, -512, 512, [])), (20, (0, -512, 512, [])), (21, (0, 1, 47, [])), (22, (0, 0, 131071, [])), (23, (0, -512, 512, [])), (24, (0, -512, 512, [])), (25, (0, 1, 98400, [])), (26, (0, 0, 39, [])), (27, (0, -512, 512, [])), (28, (0, 0, 1, [])), (30, (0, 0, 131, [])), (32, (0, 0, 99, [])), (33, (0, 0, 512, [])), (34, (0, -512, 512, [])), (35, (0, 1, 40, []))], [(6, [35, 26], [1]), (20, [28, 32], [50, 0, 0, 3, 14, 2, 6, 1, 2, 1, 0, 0, 1, 0, 2, 1, 1, 0, 7, 2, 6, 1, 2, 1, 0, 0, 0, 0, 2, 1, 1, 0, 23]), (20, [33, 34], [61, 0, 791]), (20, [13, 23], [61, 0, 791]), (20, [12, 14], [61, 0, 791]), (20, [13, 15], [61, 0, 791]), (20, [18, 14, 15, 19, 20], [61, 0, 792]), (20, [23, 20], [61, 0, 793]), (20, [24, 19], [61, 0, 793]), (20, [27, 19], [61, 0, 793]), (20, [6, 16, 17, 21, 22, 26, 25], [60, 1, 2, 795, 132, 130, 131]), (20, [6, 16, 17, 21, 22], [60, 1, 2, 777, 132, 130, 131]), (20, [17, 26, 21], [50, 0, 0, 2, 6, 0, 2, 1, 0, 1, 1, 0, 6, 4, 2, 1, 1, 0, 1, 1, 2]), (20, [28, 6, 26], [50, 0, 1, 1130, 3, 17, 2, 6, 1, 2, 1, 0, 0, 1, 0, 2, 0, 100, 3, 1, 130, 1, 2, 2, 6, 1, 2, 1, 0, 0, 0, 0, 5, 3, 1, 130, 1, 2, 0, 99]), (24, [0, 6], []), (24, [1, 7], []), (20, [6, 7], [60, 0, 1, 789, 72]), (102, [34], [9873027343927236252929815095344103029896415193801479180091654144]), (2, [34, 27, 24], []), (1, [33, 12, 24], []), (12, [32, 30], [100]), (8, [18], [1])], [], [], [(20, [17, 35], [50, 0, 0, 0, 2, 1, 0, 1, 1]), (20, [6, 16, 17, 21, 22, 35, 25], [60, 1, 2, 794, 132, 130, 131])], [], [(35, 26, 1, 1), (35, 21, -4294967296, 0), (34, 27, -512, 512), (33, 24, 0, 512), (1, 7, -4294967296, 0), (7, 1, -4294967296, 0), (14, 20, -4294967296, 0), (15, 20, -4294967296, 0), (17, 21, -4294967296, -1), (17, 26, -4294967296, 0), (19, 14, -4294967296, 0), (19, 15, -4294967296, 0), (19, 20, -4294967296, 0), (24, 21, -4294967296, 510), (24, 25, -4294967296, 510), (24, 26, -4294967296, 511), (26, 21, -4294967296, -1)])
theorem oo_Mo_squares_35 {kA : Nat → ClassId} : or_ok PRD kA GG o_Mo_squares_35 := by
  refine or_mk fun A ta ws vs hD hth hl => ?_
  intro t0 r0 t1 k1 t6 r6 t7 k7 t12 k12 t13 k13 t14 k14 t15 k15 t16 k16 t17 k17 t18 k18 t19 k19 t20 k20 t21 k21 t22 k22 t23 k23 t24 k24 t25 k25 t26 k26 t27 k27 t28 k28 t30 k30 t32 k32 t33 k33 t34 k34 t35 k35 d0 d1 d2 d3 d4 d5 d6 d7 d8 d9 d10 d11 d12 d13 d14 d15 d16 f0 f1 f2 f3 f4 f5 f6 f7 f8 f9 f10 f11 f12 f13 f14 f15 f16 ta1 w1 le1 s1 f18 f19 f20 f21
  replace f0 := shm_4 f0
  replace f10 := shm_1285 f10
  replace f14 := shm_5 f14
  have q6 : n_v vs 6 = n_v vs 0 := f14.symm
  simp only [q6] at f10
  have kz_0_132 := fdq_152 hD hth r0
  have nf0 : fc_1 PRD (20, [17, 35], [50, 0, 0, 0, 2, 1, 0, 1, 1]) ws (vs) := ⟨nf_in hl rfl, sgq_360 (vc_Mo_squares_35_0 (v_iv (n_v vs 17)) (v_iv (n_v vs 21)) (v_iv (n_v vs 26)) (v_iv (n_v vs 34)) (v_iv (n_v vs 35)) (w_ei ws (w_ar ws (n_v vs 0) 130)) k17 k26 k35 d0 d9)⟩
  have nf1 : fc_1 PRD (20, [6, 16, 17, 21, 22, 35, 25], [60, 1, 2, 794, 132, 130, 131]) ws (vs) := by
    refine ⟨nf_in hl rfl, sgq_1284 ?_⟩
    · show SQ4 (w_fi ws (n_v vs 6) 132) (w_ei ws (w_ar ws (n_v vs 6) 130)) (w_ei ws (w_ar ws (n_v vs 6) 131)) (v_iv (n_v vs 16)) (v_iv (n_v vs 17)) (v_iv (n_v vs 21)) (v_iv (n_v vs 22)) (v_iv (n_v vs 35)) (v_iv (n_v vs 25))
      rw [q6]
      exact vc_Mo_squares_35_1 (v_iv (n_v vs 16)) (v_iv (n_v vs 17)) (v_iv (n_v vs 21)) (v_iv (n_v vs 22)) (v_iv (n_v vs 25)) (v_iv (n_v vs 26)) (v_iv (n_v vs 35)) (w_ei ws (w_ar ws (n_v vs 0) 130)) (w_ei ws (w_ar ws (n_v vs 0) 131)) (w_fi ws (n_v vs 0) 132) k16 k17 k21 k22 k25 k26 k35 f0 f10 kz_0_132
  refine ⟨(fun _ h => (by cases h)), [], trivial, ?_, (fun _ h => (by cases h))⟩
  rw [List.append_nil]
  exact List.forall_mem_cons.mpr ⟨⟨show (20 : Nat) < 100 from by decide, nf0⟩, List.forall_mem_cons.mpr ⟨⟨show (20 : Nat) < 100 from by decide, nf1⟩, (fun _ h => (by cases h))⟩⟩
def t_Mo_squares_ct : ct_L := [(1, 960, e_Mo_setBox), (1, 984, e_Mo_worst)]
def n_Mo_squares_a0 : an_T := (20, [(0, (2, 0, 0, [165])), (1, (0, 0, 3, [])), (2, (0, (Int.negSucc 511), 512, [])), (3, (0, (Int.negSucc 511), 512, [])), (4, (0, (Int.negSucc 511), 512, [])), (5, (0, (Int.negSucc 511), 512, [])), (6, (0, (Int.negSucc 511), 512, [])), (7, (0, (Int.negSucc 511), 512, [])), (8, (0, (Int.negSucc 511), 512, [])), (9, (0, (Int.negSucc 511), 512, [])), (10, (0, 0, 98400, [])), (11, (0, 0, 40, []))], [], (0, 0), [(0, 0, 99980), (1, 16, 98400), (0, 0, 100000), (0, 0, 0), (0, 0, 0)], [(1, 7, (Int.negSucc 999999999999), 0), (2, 8, (Int.negSucc 999999999999), 0), (2, 12, (Int.negSucc 999999999999), 0), (3, 9, (Int.negSucc 999999999999), 0), (3, 13, (Int.negSucc 999999999999), 0), (4, 10, (Int.negSucc 999999999999), 0), (4, 14, (Int.negSucc 999999999999), 0), (5, 11, (Int.negSucc 999999999999), 0), (5, 15, (Int.negSucc 999999999999), 0), (7, 1, (Int.negSucc 999999999999), 0), (8, 2, (Int.negSucc 999999999999), 0), (8, 12, (Int.negSucc 999999999999), 0), (9, 3, (Int.negSucc 999999999999), 0), (9, 13, (Int.negSucc 999999999999), 0), (10, 4, (Int.negSucc 999999999999), 0), (10, 14, (Int.negSucc 999999999999), 0), (11, 5, (Int.negSucc 999999999999), 0), (11, 15, (Int.negSucc 999999999999), 0), (12, 2, (Int.negSucc 999999999999), 0), (12, 8, (Int.negSucc 999999999999), 0), (13, 3, (Int.negSucc 999999999999), 0), (13, 9, (Int.negSucc 999999999999), 0), (14, 4, (Int.negSucc 999999999999), 0), (14, 10, (Int.negSucc 999999999999), 0), (15, 5, (Int.negSucc 999999999999), 0), (15, 11, (Int.negSucc 999999999999), 0), (17, 16, (Int.negSucc 999999999999), 0)], [], [(2, 0, 0, [165]), (0, 0, 3, []), (0, (Int.negSucc 511), 512, []), (0, (Int.negSucc 511), 512, []), (0, (Int.negSucc 511), 512, []), (0, (Int.negSucc 511), 512, [])], 0, [], [(20, [6, 16, 17], [60, 1, 2, 775, 132, 130, 131]), (20, [12, 14], [61, 0, 791]), (20, [13, 15], [61, 0, 791]), (20, [6, 7], [60, 0, 1, 789, 72]), (24, [0, 6], []), (24, [1, 7], [])])
def n_Mo_squares_a1 : an_T := (50, [(0, (2, 0, 0, [165])), (1, (0, 0, 3, [])), (2, (0, (Int.negSucc 511), 512, [])), (3, (0, (Int.negSucc 511), 512, [])), (4, (0, (Int.negSucc 511), 512, [])), (5, (0, (Int.negSucc 511), 512, [])), (6, (0, (Int.negSucc 511), 1024, [])), (7, (0, (Int.negSucc 511), 1024, [])), (8, (0, (Int.negSucc 1023), 1024, [])), (9, (0, (Int.negSucc 1023), 1024, [])), (10, (0, (Int.negSucc 95998), 98400, [])), (11, (0, 0, 40, []))], [], (0, 0), [(0, 0, 99950), (2, 16, (Int.negSucc 95998)), (0, 0, 100000), (0, 0, 0), (0, 0, 0)], [(1, 7, (Int.negSucc 999999999999), 0), (2, 8, (Int.negSucc 999999999999), 0), (3, 9, (Int.negSucc 999999999999), 0), (4, 10, (Int.negSucc 999999999999), 0), (5, 11, (Int.negSucc 999999999999), 0), (7, 1, (Int.negSucc 999999999999), 0), (8, 2, (Int.negSucc 999999999999), 0), (9, 3, (Int.negSucc 999999999999), 0), (10, 4, (Int.negSucc 999999999999), 0), (11, 5, (Int.negSucc 999999999999), 0), (12, 13, (Int.negSucc 999999999999), 1024), (12, 15, (Int.negSucc 999999999999), 1536), (12, 17, (Int.negSucc 999999999999), 1023), (13, 12, (Int.negSucc 999999999999), 1024), (13, 14, (Int.negSucc 999999999999), 1536), (13, 17, (Int.negSucc 999999999999), 1023), (14, 13, (Int.negSucc 999999999999), 1024), (14, 15, (Int.negSucc 999999999999), 1536), (14, 17, (Int.negSucc 999999999999), 1023), (15, 12, (Int.negSucc 999999999999), 1024), (15, 14, (Int.negSucc 999999999999), 1536), (15, 17, (Int.negSucc 999999999999), 1023)], [], [(2, 0, 0, [165]), (0, 0, 3, []), (0, (Int.negSucc 511), 512, []), (0, (Int.negSucc 511), 512, []), (0, (Int.negSucc 511), 512, []), (0, (Int.negSucc 511), 512, [])], 0, [], [(20, [6, 16, 17], [60, 1, 2, 776, 132, 130, 131]), (20, [12, 14], [61, 0, 791]), (20, [13, 15], [61, 0, 791]), (20, [6, 7], [60, 0, 1, 789, 72]), (24, [0, 6], []), (24, [1, 7], [])])
def n_Mo_squares_a2 : an_T := (132, [(0, (2, 0, 0, [165])), (1, (0, 0, 3, [])), (2, (0, (Int.negSucc 511), 512, [])), (3, (0, (Int.negSucc 511), 512, [])), (4, (0, (Int.negSucc 511), 512, [])), (5, (0, (Int.negSucc 511), 512, [])), (6, (0, 0, 512, [])), (7, (0, 0, 512, [])), (8, (0, (Int.negSucc 511), 512, [])), (9, (0, (Int.negSucc 511), 512, [])), (10, (0, (Int.negSucc 95998), 98400, [])), (11, (0, 0, 39, [])), (12, (0, 0, 1, [])), (13, (0, (Int.negSucc 511), 512, [])), (14, (0, (Int.negSucc 511), 512, [])), (15, (0, 1, 40, [])), (16, (0, 0, 98400, []))], [], (0, 0), [(0, 0, 99950), (2, 16, (Int.negSucc 95998)), (0, 0, 99868), (1, 21, 40), (0, 0, 100000)], [(1, 7, (Int.negSucc 999999999999), 0), (2, 8, (Int.negSucc 999999999999), 0), (3, 9, (Int.negSucc 999999999999), 0), (4, 10, (Int.negSucc 999999999999), 0), (5, 11, (Int.negSucc 999999999999), 0), (7, 1, (Int.negSucc 999999999999), 0), (8, 2, (Int.negSucc 999999999999), 0), (9, 3, (Int.negSucc 999999999999), 0), (10, 4, (Int.negSucc 999999999999), 0), (11, 5, (Int.negSucc 999999999999), 0), (14, 20, (Int.negSucc 999999999999), 0), (15, 18, (Int.negSucc 999999999999), 511), (15, 20, (Int.negSucc 999999999999), 0), (17, 21, (Int.negSucc 999999999999), (Int.negSucc 0)), (19, 14, (Int.negSucc 999999999999), 0), (19, 15, (Int.negSucc 999999999999), 0), (19, 18, (Int.negSucc 999999999999), 511), (19, 20, (Int.negSucc 999999999999), 0)], [], [(2, 0, 0, [165]), (0, 0, 3, []), (0, (Int.negSucc 511), 512, []), (0, (Int.negSucc 511), 512, []), (0, (Int.negSucc 511), 512, []), (0, (Int.negSucc 511), 512, [])], 0, [], [(20, [6, 16, 17, 21, 22], [60, 1, 2, 777, 132, 130, 131]), (20, [12, 14], [61, 0, 791]), (20, [13, 15], [61, 0, 791]), (20, [6, 7], [60, 0, 1, 789, 72]), (20, [18, 14, 15, 19, 20], [61, 0, 792]), (24, [0, 6], []), (24, [1, 7], [])])
def n_Mo_squares_a3 : an_T := (256, [(0, (2, 0, 0, [165])), (1, (0, 0, 3, [])), (2, (0, (Int.negSucc 511), 512, [])), (3, (0, (Int.negSucc 511), 512, [])), (4, (0, (Int.negSucc 511), 512, [])), (5, (0, (Int.negSucc 511), 512, [])), (6, (0, 0, 512, [])), (7, (0, 0, 512, [])), (8, (0, (Int.negSucc 511), 512, [])), (9, (0, (Int.negSucc 511), 512, [])), (10, (0, (Int.negSucc 2147483647), 131071, [])), (11, (0, 0, 40, [])), (12, (0, 0, 1, [])), (13, (0, (Int.negSucc 511), 512, [])), (14, (0, (Int.negSucc 511), 512, [])), (15, (0, 1, 47, [])), (16, (0, 0, 131071, [])), (17, (0, (Int.negSucc 511), 512, [])), (18, (0, (Int.negSucc 511), 512, [])), (19, (0, 0, 98400, [])), (20, (0, 0, 40, []))], [], (0, 0), [(0, 0, 99950), (2, 16, (Int.negSucc 95998)), (0, 0, 99744), (1, 26, 40), (0, 0, 100000)], [(1, 7, (Int.negSucc 999999999999), 0), (2, 8, (Int.negSucc 999999999999), 0), (3, 9, (Int.negSucc 999999999999), 0), (4, 10, (Int.negSucc 999999999999), 0), (5, 11, (Int.negSucc 999999999999), 0), (7, 1, (Int.negSucc 999999999999), 0), (8, 2, (Int.negSucc 999999999999), 0), (9, 3, (Int.negSucc 999999999999), 0), (10, 4, (Int.negSucc 999999999999), 0), (11, 5, (Int.negSucc 999999999999), 0), (14, 20, (Int.negSucc 999999999999), 0), (15, 18, (Int.negSucc 999999999999), 511), (15, 20, (Int.negSucc 999999999999), 0), (17, 21, (Int.negSucc 999999999999), (Int.negSucc 0)), (17, 26, (Int.negSucc 999999999999), 0), (19, 14, (Int.negSucc 999999999999), 0), (19, 15, (Int.negSucc 999999999999), 0), (19, 18, (Int.negSucc 999999999999), 511), (19, 20, (Int.negSucc 999999999999), 0), (24, 25, (Int.negSucc 999999999999), 511), (24, 26, (Int.negSucc 999999999999), 511), (26, 21, (Int.negSucc 999999999999), 0)], [], [(2, 0, 0, [165]), (0, 0, 3, []), (0, (Int.negSucc 511), 512, []), (0, (Int.negSucc 511), 512, []), (0, (Int.negSucc 511), 512, []), (0, (Int.negSucc 511), 512, [])], 0, [], [(20, [6, 16, 17, 21, 22], [60, 1, 2, 777, 132, 130, 131]), (20, [17, 26], [50, 0, 0, 0, 2, 1, 0, 1, 1]), (20, [12, 14], [61, 0, 791]), (20, [13, 15], [61, 0, 791]), (20, [6, 7], [60, 0, 1, 789, 72]), (20, [18, 14, 15, 19, 20], [61, 0, 792]), (20, [23, 20], [61, 0, 793]), (20, [24, 19], [61, 0, 793]), (20, [6, 16, 17, 21, 22, 26, 25], [60, 1, 2, 794, 132, 130, 131]), (24, [0, 6], []), (24, [1, 7], [])])
def n_Mo_squares_a4 : an_T := (308, [(0, (2, 0, 0, [165])), (1, (0, 0, 3, [])), (2, (0, (Int.negSucc 511), 512, [])), (3, (0, (Int.negSucc 511), 512, [])), (4, (0, (Int.negSucc 511), 512, [])), (5, (0, (Int.negSucc 511), 512, [])), (6, (0, 0, 512, [])), (7, (0, 0, 512, [])), (8, (0, (Int.negSucc 511), 512, [])), (9, (0, (Int.negSucc 511), 512, [])), (10, (0, (Int.negSucc 2147483647), 131071, [])), (11, (0, 0, 40, [])), (12, (0, 0, 1, [])), (13, (0, (Int.negSucc 511), 512, [])), (14, (0, (Int.negSucc 511), 512, [])), (15, (0, 1, 47, [])), (16, (0, 0, 131071, [])), (17, (0, (Int.negSucc 511), 512, [])), (18, (0, (Int.negSucc 511), 512, [])), (19, (0, 1, 98400, [])), (20, (0, 0, 39, [])), (21, (0, (Int.negSucc 511), 512, [])), (22, (0, 0, 1, []))], [], (0, 0), [(0, 0, 99950), (2, 16, (Int.negSucc 95998)), (0, 0, 99744), (1, 26, 40), (0, 0, 99692)], [(1, 7, (Int.negSucc 999999999999), 0), (2, 8, (Int.negSucc 999999999999), 0), (3, 9, (Int.negSucc 999999999999), 0), (4, 10, (Int.negSucc 999999999999), 0), (5, 11, (Int.negSucc 999999999999), 0), (7, 1, (Int.negSucc 999999999999), 0), (8, 2, (Int.negSucc 999999999999), 0), (9, 3, (Int.negSucc 999999999999), 0), (10, 4, (Int.negSucc 999999999999), 0), (11, 5, (Int.negSucc 999999999999), 0), (14, 20, (Int.negSucc 999999999999), 0), (15, 18, (Int.negSucc 999999999999), 511), (15, 20, (Int.negSucc 999999999999), 0), (17, 21, (Int.negSucc 999999999999), (Int.negSucc 0)), (17, 26, (Int.negSucc 999999999999), 0), (19, 14, (Int.negSucc 999999999999), 0), (19, 15, (Int.negSucc 999999999999), 0), (19, 18, (Int.negSucc 999999999999), 511), (19, 20, (Int.negSucc 999999999999), 0), (24, 21, (Int.negSucc 999999999999), 510), (24, 25, (Int.negSucc 999999999999), 510), (24, 26, (Int.negSucc 999999999999), 511), (26, 21, (Int.negSucc 999999999999), (Int.negSucc 0))], [], [(2, 0, 0, [165]), (0, 0, 3, []), (0, (Int.negSucc 511), 512, []), (0, (Int.negSucc 511), 512, []), (0, (Int.negSucc 511), 512, []), (0, (Int.negSucc 511), 512, [])], 0, [], [(20, [12, 14], [61, 0, 791]), (20, [13, 15], [61, 0, 791]), (20, [6, 7], [60, 0, 1, 789, 72]), (20, [18, 14, 15, 19, 20], [61, 0, 792]), (20, [23, 20], [61, 0, 793]), (20, [24, 19], [61, 0, 793]), (20, [27, 19], [61, 0, 793]), (20, [6, 16, 17, 21, 22, 26, 25], [60, 1, 2, 795, 132, 130, 131]), (20, [6, 16, 17, 21, 22], [60, 1, 2, 777, 132, 130, 131]), (20, [17, 26, 21], [50, 0, 0, 2, 6, 0, 2, 1, 0, 1, 1, 0, 6, 4, 2, 1, 1, 0, 1, 1, 2]), (20, [28, 6, 26], [50, 0, 1, 1130, 3, 17, 2, 6, 1, 2, 1, 0, 0, 1, 0, 2, 0, 100, 3, 1, 130, 1, 2, 2, 6, 1, 2, 1, 0, 0, 0, 0, 5, 3, 1, 130, 1, 2, 0, 99]), (24, [0, 6], []), (24, [1, 7], [])])
def n_Mo_squares_an : List an_T := [n_Mo_squares_a0, n_Mo_squares_a1, n_Mo_squares_a2, n_Mo_squares_a3, n_Mo_squares_a4]
def x_Mo_squares_ft : ft_L := [(299, 13, 130), (302, 13, 131), (971, 13, 132), (977, 13, 133), (981, 13, 134)]
def x_Mo_squares_pt : pt_L := []
def x_Mo_squares_kt : kt_L := []
def x_Mo_squares_nt : nt_L := []
def x_Mo_squares_ot : List or_T := [o_Mo_squares_0, o_Mo_squares_1, o_Mo_squares_2, o_Mo_squares_3, o_Mo_squares_4, o_Mo_squares_5, o_Mo_squares_6, o_Mo_squares_7, o_Mo_squares_8, o_Mo_squares_9, o_Mo_squares_10, o_Mo_squares_11, o_Mo_squares_12, o_Mo_squares_13, o_Mo_squares_14, o_Mo_squares_15, o_Mo_squares_16, o_Mo_squares_17, o_Mo_squares_18, o_Mo_squares_19, o_Mo_squares_20, o_Mo_squares_21, o_Mo_squares_22, o_Mo_squares_23, o_Mo_squares_24, o_Mo_squares_25, o_Mo_squares_26, o_Mo_squares_27, o_Mo_squares_28, o_Mo_squares_29, o_Mo_squares_30, o_Mo_squares_31, o_Mo_squares_32, o_Mo_squares_33, o_Mo_squares_34, o_Mo_squares_35]
set_option maxRecDepth 100000 in
theorem g_Mo_squares_0 : chk_an b_Mo_squares 23 none e_Mo_squares GG x_Mo_squares_ft x_Mo_squares_pt t_Mo_squares_ct x_Mo_squares_kt x_Mo_squares_nt n_Mo_squares_an x_Mo_squares_ot 5 1220 n_Mo_squares_a0 = true := by decide +kernel
set_option maxRecDepth 100000 in
theorem g_Mo_squares_1 : chk_an b_Mo_squares 23 none e_Mo_squares GG x_Mo_squares_ft x_Mo_squares_pt t_Mo_squares_ct x_Mo_squares_kt x_Mo_squares_nt n_Mo_squares_an x_Mo_squares_ot 5 1220 n_Mo_squares_a1 = true := by decide +kernel
set_option maxRecDepth 100000 in
theorem g_Mo_squares_2 : chk_an b_Mo_squares 23 none e_Mo_squares GG x_Mo_squares_ft x_Mo_squares_pt t_Mo_squares_ct x_Mo_squares_kt x_Mo_squares_nt n_Mo_squares_an x_Mo_squares_ot 5 1220 n_Mo_squares_a2 = true := by decide +kernel
set_option maxRecDepth 100000 in
theorem g_Mo_squares_3 : chk_an b_Mo_squares 23 none e_Mo_squares GG x_Mo_squares_ft x_Mo_squares_pt t_Mo_squares_ct x_Mo_squares_kt x_Mo_squares_nt n_Mo_squares_an x_Mo_squares_ot 5 1220 n_Mo_squares_a3 = true := by decide +kernel
set_option maxRecDepth 100000 in
theorem g_Mo_squares_4 : chk_an b_Mo_squares 23 none e_Mo_squares GG x_Mo_squares_ft x_Mo_squares_pt t_Mo_squares_ct x_Mo_squares_kt x_Mo_squares_nt n_Mo_squares_an x_Mo_squares_ot 5 1220 n_Mo_squares_a4 = true := by decide +kernel
set_option maxRecDepth 100000 in
theorem g_Mo_squares_s : chk b_Mo_squares 23 none e_Mo_squares GG x_Mo_squares_ft x_Mo_squares_pt t_Mo_squares_ct x_Mo_squares_kt x_Mo_squares_nt n_Mo_squares_an x_Mo_squares_ot 100000 (List.replicate 5 me_0) 1220 true (0, en_y e_Mo_squares, 0, 0, an_fs x_Mo_squares_ot e_Mo_squares.2.2.2.2.2.2.2.2.2.2.1) = true := by decide +kernel
set_option maxRecDepth 100000 in
theorem c_Mo_squares {l : Launch} {D : va_G} {kA : Nat → ClassId} (h_Mo_setBox : ct_ok PRD l D kA GG y_Mo_setBox z_Mo_setBox e_Mo_setBox) (h_Mo_worst : ct_ok PRD l D kA GG y_Mo_worst z_Mo_worst e_Mo_worst) : ct_ok PRD l D kA GG y_Mo_squares z_Mo_squares e_Mo_squares := chk_all_ok (FT := [(299, 13, 130), (302, 13, 131), (971, 13, 132), (977, 13, 133), (981, 13, 134)]) (PT := []) (CT := t_Mo_squares_ct) (KT := []) (NT := []) (AN := n_Mo_squares_an) (OT := [o_Mo_squares_0, o_Mo_squares_1, o_Mo_squares_2, o_Mo_squares_3, o_Mo_squares_4, o_Mo_squares_5, o_Mo_squares_6, o_Mo_squares_7, o_Mo_squares_8, o_Mo_squares_9, o_Mo_squares_10, o_Mo_squares_11, o_Mo_squares_12, o_Mo_squares_13, o_Mo_squares_14, o_Mo_squares_15, o_Mo_squares_16, o_Mo_squares_17, o_Mo_squares_18, o_Mo_squares_19, o_Mo_squares_20, o_Mo_squares_21, o_Mo_squares_22, o_Mo_squares_23, o_Mo_squares_24, o_Mo_squares_25, o_Mo_squares_26, o_Mo_squares_27, o_Mo_squares_28, o_Mo_squares_29, o_Mo_squares_30, o_Mo_squares_31, o_Mo_squares_32, o_Mo_squares_33, o_Mo_squares_34, o_Mo_squares_35]) 5 1220 (List.forall_mem_cons.mpr ⟨oo_Mo_squares_0, List.forall_mem_cons.mpr ⟨oo_Mo_squares_1, List.forall_mem_cons.mpr ⟨oo_Mo_squares_2, List.forall_mem_cons.mpr ⟨oo_Mo_squares_3, List.forall_mem_cons.mpr ⟨oo_Mo_squares_4, List.forall_mem_cons.mpr ⟨oo_Mo_squares_5, List.forall_mem_cons.mpr ⟨oo_Mo_squares_6, List.forall_mem_cons.mpr ⟨oo_Mo_squares_7, List.forall_mem_cons.mpr ⟨oo_Mo_squares_8, List.forall_mem_cons.mpr ⟨oo_Mo_squares_9, List.forall_mem_cons.mpr ⟨oo_Mo_squares_10, List.forall_mem_cons.mpr ⟨oo_Mo_squares_11, List.forall_mem_cons.mpr ⟨oo_Mo_squares_12, List.forall_mem_cons.mpr ⟨oo_Mo_squares_13, List.forall_mem_cons.mpr ⟨oo_Mo_squares_14, List.forall_mem_cons.mpr ⟨oo_Mo_squares_15, List.forall_mem_cons.mpr ⟨oo_Mo_squares_16, List.forall_mem_cons.mpr ⟨oo_Mo_squares_17, List.forall_mem_cons.mpr ⟨oo_Mo_squares_18, List.forall_mem_cons.mpr ⟨oo_Mo_squares_19, List.forall_mem_cons.mpr ⟨oo_Mo_squares_20, List.forall_mem_cons.mpr ⟨oo_Mo_squares_21, List.forall_mem_cons.mpr ⟨oo_Mo_squares_22, List.forall_mem_cons.mpr ⟨oo_Mo_squares_23, List.forall_mem_cons.mpr ⟨oo_Mo_squares_24, List.forall_mem_cons.mpr ⟨oo_Mo_squares_25, List.forall_mem_cons.mpr ⟨oo_Mo_squares_26, List.forall_mem_cons.mpr ⟨oo_Mo_squares_27, List.forall_mem_cons.mpr ⟨oo_Mo_squares_28, List.forall_mem_cons.mpr ⟨oo_Mo_squares_29, List.forall_mem_cons.mpr ⟨oo_Mo_squares_30, List.forall_mem_cons.mpr ⟨oo_Mo_squares_31, List.forall_mem_cons.mpr ⟨oo_Mo_squares_32, List.forall_mem_cons.mpr ⟨oo_Mo_squares_33, List.forall_mem_cons.mpr ⟨oo_Mo_squares_34, List.forall_mem_cons.mpr ⟨oo_Mo_squares_35, List.forall_mem_nil _⟩⟩⟩⟩⟩⟩⟩⟩⟩⟩⟩⟩⟩⟩⟩⟩⟩⟩⟩⟩⟩⟩⟩⟩⟩⟩⟩⟩⟩⟩⟩⟩⟩⟩⟩⟩) (by decide +kernel) ⟨List.forall_mem_cons.mpr ⟨gf_Mo_299, List.forall_mem_cons.mpr ⟨gf_Mo_302, List.forall_mem_cons.mpr ⟨gf_Mo_971, List.forall_mem_cons.mpr ⟨gf_Mo_977, List.forall_mem_cons.mpr ⟨gf_Mo_981, List.forall_mem_nil _⟩⟩⟩⟩⟩, List.forall_mem_nil _, List.forall_mem_cons.mpr ⟨cl_virtual (y := y_Mo_setBox) (ci := 13) rfl rfl ⟨_, _, rfl⟩ (by decide +kernel) h_Mo_setBox wm_3588 wm_9 wm_3585 wm_3587 wv_21_0 ⟨by decide, by decide, by decide +kernel⟩ (by decide), List.forall_mem_cons.mpr ⟨cl_virtual (y := y_Mo_worst) (ci := 13) rfl rfl ⟨_, _, rfl⟩ (by decide +kernel) h_Mo_worst wm_3604 wm_9 wm_3601 wm_3603 wv_21_4 ⟨by decide, by decide, by decide +kernel⟩ (by decide), List.forall_mem_nil _⟩⟩, List.forall_mem_nil _, List.forall_mem_nil _, GG_pl⟩ (chk_mk (by decide +kernel) (List.forall_mem_cons.mpr ⟨g_Mo_squares_0, List.forall_mem_cons.mpr ⟨g_Mo_squares_1, List.forall_mem_cons.mpr ⟨g_Mo_squares_2, List.forall_mem_cons.mpr ⟨g_Mo_squares_3, List.forall_mem_cons.mpr ⟨g_Mo_squares_4, List.forall_mem_nil _⟩⟩⟩⟩⟩) g_Mo_squares_s)

set_option maxHeartbeats 4000000 in
theorem vc_Mo_stepTo_0_r0 (x3 : Int) (wide_0 : Int) (tall_0 : Int) (k3 : (-3999999) ≤ x3 ∧ x3 ≤ 600000023) (g0 : x3 = wide_0) (f1 : GRX (wide_0) (tall_0)) (kz_0_146 : (-3999999) ≤ wide_0 ∧ wide_0 ≤ 600000023) (kz_0_147 : (-3999999) ≤ tall_0 ∧ tall_0 ≤ 600000007) : 1 ≤ x3 ∧ x3 ≤ 6000 := by
  first
    | (have g := gok_bd ‹GRX _ _›; omega)
def o_Mo_stepTo_0 : or_T := (5, 4, [(0, (2, 0, 0, [165])), (1, (0, 0, 5999, [])), (3, (0, -3999999, 600000023, []))], [(9, [3, 0], [146]), (20, [0], [60, 2, 0, 494, 146, 147]), (20, [1, 0], [50, 2, 0, 1146, 1147, 2, 6, 0, 2, 0, 0, 1, 0, 0, 6, 4, 2, 1, 0, 0, 1, 6, 3, 2, 1, 146, 2, 1, 147])], [(3, (0, 1, 6000, []))], [], [], [], [])
theorem oo_Mo_stepTo_0 {kA : Nat → ClassId} : or_ok PRD kA GG o_Mo_stepTo_0 := by
  refine or_mk fun A ta ws vs hD hth hl => ?_
  intro t0 r0 t1 k1 t3 k3 f0 f1 f2
  replace f0 := shm_1288 f0
  have g0 : v_iv (n_v vs 3) = w_fi ws (n_v vs 0) 146 := congrArg v_iv f0
  have kz_0_146 := fdq_179 hD hth r0
  have kz_0_147 := fdq_180 hD hth r0
  have hrf0 : 1 ≤ v_iv (n_v vs 3) ∧ v_iv (n_v vs 3) ≤ 6000 := vc_Mo_stepTo_0_r0 (v_iv (n_v vs 3)) (w_fi ws (n_v vs 0) 146) (w_fi ws (n_v vs 0) 147) k3 g0 (shm_1289 f1) kz_0_146 kz_0_147
  have rf3 : tv_ok ta (0, 1, 6000, []) (n_v vs 3) := tv_in t3 (by first | omega | grind) (by first | omega | grind)
  refine ⟨List.forall_mem_cons.mpr ⟨rf3, (fun _ h => (by cases h))⟩, [], trivial, ?_, (fun _ h => (by cases h))⟩
  rw [List.append_nil]
  exact (fun _ h => (by cases h))
set_option maxHeartbeats 4000000 in
theorem vc_Mo_stepTo_1_0 (x1 : Int) (x2 : Int) (x3 : Int) (x4 : Int) (x6 : Int) (x7 : Int) (x9 : Int) (x12 : Int) (x14 : Int) (wide_0 : Int) (tall_0 : Int) (barredPoint_0 : Int → Int) (k1 : 0 ≤ x1 ∧ x1 ≤ 5999) (k2 : 1 ≤ x2 ∧ x2 ≤ 2) (k3 : 1 ≤ x3 ∧ x3 ≤ 6000) (k4 : 0 ≤ x4 ∧ x4 ≤ 5999) (k6 : 1 ≤ x6 ∧ x6 ≤ 5999) (k7 : 0 ≤ x7 ∧ x7 ≤ 5999) (k12 : 0 ≤ x12 ∧ x12 ≤ 5998) (k14 : (-1) ≤ x14 ∧ x14 ≤ (-1)) (d0 : x12 + 1 ≤ x6 ∧ x6 ≤ x12 + 4294967296) (d1 : x3 + (-1) ≤ x12 ∧ x12 ≤ x3 + (-1)) (d4 : x3 + (-4294967295) ≤ x6 ∧ x6 ≤ x3 + (-1)) (g1 : x3 = wide_0) (f4 : x7 = Int.tdiv (x1) (x3)) (f7 : x4 = Int.tmod (x1) (x3)) (f8 : GRX (wide_0) (tall_0)) (kz_0_146 : (-3999999) ≤ wide_0 ∧ wide_0 ≤ 600000023) (kz_0_147 : (-3999999) ≤ tall_0 ∧ tall_0 ≤ 600000007) : STQ (wide_0) (tall_0) (barredPoint_0) (x1) (x2) (x14) := by
  have g := gok_bd ‹GRX _ _›
  have e3 : x3 = wide_0 := by assumption
  have tm : x4 = x1 % wide_0 := by rw [← e3, ‹x4 = Int.tmod x1 x3›]; exact Int.tmod_eq_emod_of_nonneg (by omega)
  have td : x7 = x1 / wide_0 := by rw [← e3, ‹x7 = Int.tdiv x1 x3›]; exact Int.tdiv_eq_ediv_of_nonneg (by omega)
  have hx : x6 = x1 % wide_0 + dxf x2 := by rw [← tm]; unfold dxf; split; omega; split <;> omega
  have hy : x9 = x1 / wide_0 + dyf x2 := by rw [← td]; unfold dyf; split; omega; split <;> omega
  first
    | exact stq_none hx hy (by omega) (by omega)
set_option maxHeartbeats 4000000 in
theorem vc_Mo_stepTo_1_1 (x3 : Int) (x6 : Int) (x9 : Int) (x12 : Int) (x14 : Int) (wide_0 : Int) (tall_0 : Int) (k3 : 1 ≤ x3 ∧ x3 ≤ 6000) (k6 : 1 ≤ x6 ∧ x6 ≤ 5999) (k12 : 0 ≤ x12 ∧ x12 ≤ 5998) (k14 : (-1) ≤ x14 ∧ x14 ≤ (-1)) (d0 : x12 + 1 ≤ x6 ∧ x6 ≤ x12 + 4294967296) (d1 : x3 + (-1) ≤ x12 ∧ x12 ≤ x3 + (-1)) (d4 : x3 + (-4294967295) ≤ x6 ∧ x6 ≤ x3 + (-1)) (kz_0_146 : (-3999999) ≤ wide_0 ∧ wide_0 ≤ 600000023) (kz_0_147 : (-3999999) ≤ tall_0 ∧ tall_0 ≤ 600000007) : ((-1) ≤ x14) ∧ ((x14 + 1) ≤ (wide_0 * tall_0)) := by
  first
    | omega
def o_Mo_stepTo_1 : or_T := (55, 15, [(0, (2, 0, 0, [165])), (1, (0, 0, 5999, [])), (2, (0, 1, 2, [])), (3, (0, 1, 6000, [])), (4, (0, 0, 5999, [])), (5, (0, 0, 0, [])), (6, (0, 1, 5999, [])), (7, (0, 0, 5999, [])), (8, (0, 0, 0, [])), (9, (0, 0, 5999, [])), (11, (0, 1, 1, [])), (12, (0, 0, 5998, [])), (14, (0, -1, -1, []))], [(2, [12, 3, 11], []), (9, [3, 0], [146]), (1, [9, 7, 8], []), (20, [2, 8], [50, 0, 0, 3, 14, 2, 6, 1, 2, 1, 0, 0, 1, 1, 2, 1, 1, 0, 1, 3, 14, 2, 6, 1, 2, 1, 0, 0, 3, 1, 2, 1, 1, 0, -1, 2, 6, 7, 2, 1, 0, 0, 1, 2, 6, 7, 2, 1, 0, 0, 3, 1, 2, 1, 1, 0, 0]), (4, [7, 1, 3], []), (1, [6, 4, 5], []), (20, [2, 5], [50, 0, 0, 3, 14, 2, 6, 1, 2, 1, 0, 0, 0, 1, 2, 1, 1, 0, 1, 3, 14, 2, 6, 1, 2, 1, 0, 0, 2, 1, 2, 1, 1, 0, -1, 2, 6, 7, 2, 1, 0, 0, 0, 2, 6, 7, 2, 1, 0, 0, 2, 1, 2, 1, 1, 0, 0]), (5, [4, 1, 3], []), (20, [0], [60, 2, 0, 494, 146, 147]), (20, [1, 0], [50, 2, 0, 1146, 1147, 2, 6, 0, 2, 0, 0, 1, 0, 0, 6, 4, 2, 1, 0, 0, 1, 6, 3, 2, 1, 146, 2, 1, 147])], [], [], [(20, [0, 1, 2, 14], [60, 2, 1, 505, 146, 147, 143]), (20, [14, 0], [50, 2, 0, 1146, 1147, 2, 6, 0, 2, 0, -1, 1, 0, 0, 6, 4, 2, 1, 0, 0, 1, 6, 3, 2, 1, 146, 2, 1, 147])], [], [(6, 12, 1, 4294967296), (12, 3, -1, -1), (9, 7, 0, 0), (6, 4, 0, 0), (6, 3, -4294967295, -1), (4, 3, -4294967295, -1)])
theorem oo_Mo_stepTo_1 {kA : Nat → ClassId} : or_ok PRD kA GG o_Mo_stepTo_1 := by
  refine or_mk fun A ta ws vs hD hth hl => ?_
  intro t0 r0 t1 k1 t2 k2 t3 k3 t4 k4 t5 k5 t6 k6 t7 k7 t8 k8 t9 k9 t11 k11 t12 k12 t14 k14 d0 d1 d2 d3 d4 d5 f0 f1 f2 f3 f4 f5 f6 f7 f8 f9
  replace f1 := shm_1288 f1
  replace f4 := shm_34 f4
  have g1 : v_iv (n_v vs 3) = w_fi ws (n_v vs 0) 146 := congrArg v_iv f1
  have kz_0_146 := fdq_179 hD hth r0
  have kz_0_147 := fdq_180 hD hth r0
  have nf0 : fc_1 PRD (20, [0, 1, 2, 14], [60, 2, 1, 505, 146, 147, 143]) ws (vs) := ⟨nf_in hl rfl, sgq_1291 (vc_Mo_stepTo_1_0 (v_iv (n_v vs 1)) (v_iv (n_v vs 2)) (v_iv (n_v vs 3)) (v_iv (n_v vs 4)) (v_iv (n_v vs 6)) (v_iv (n_v vs 7)) (v_iv (n_v vs 9)) (v_iv (n_v vs 12)) (v_iv (n_v vs 14)) (w_fi ws (n_v vs 0) 146) (w_fi ws (n_v vs 0) 147) (w_ei ws (w_ar ws (n_v vs 0) 143)) k1 k2 k3 k4 k6 k7 k12 k14 d0 d1 d4 g1 f4 (shm_468 f7) (shm_1289 f8) kz_0_146 kz_0_147)⟩
  have nf1 : fc_1 PRD (20, [14, 0], [50, 2, 0, 1146, 1147, 2, 6, 0, 2, 0, -1, 1, 0, 0, 6, 4, 2, 1, 0, 0, 1, 6, 3, 2, 1, 146, 2, 1, 147]) ws (vs) := ⟨nf_in hl rfl, sgq_1292 (vc_Mo_stepTo_1_1 (v_iv (n_v vs 3)) (v_iv (n_v vs 6)) (v_iv (n_v vs 9)) (v_iv (n_v vs 12)) (v_iv (n_v vs 14)) (w_fi ws (n_v vs 0) 146) (w_fi ws (n_v vs 0) 147) k3 k6 k12 k14 d0 d1 d4 kz_0_146 kz_0_147)⟩
  refine ⟨(fun _ h => (by cases h)), [], trivial, ?_, (fun _ h => (by cases h))⟩
  rw [List.append_nil]
  exact List.forall_mem_cons.mpr ⟨⟨show (20 : Nat) < 100 from by decide, nf0⟩, List.forall_mem_cons.mpr ⟨⟨show (20 : Nat) < 100 from by decide, nf1⟩, (fun _ h => (by cases h))⟩⟩
set_option maxHeartbeats 4000000 in
theorem vc_Mo_stepTo_2_r0 (x2 : Int) (x3 : Int) (x5 : Int) (x6 : Int) (x8 : Int) (x9 : Int) (x15 : Int) (tall_0 : Int) (wide_0 : Int) (k2 : 1 ≤ x2 ∧ x2 ≤ 2) (k5 : 0 ≤ x5 ∧ x5 ≤ 0) (k8 : 0 ≤ x8 ∧ x8 ≤ 0) (k15 : (-3999999) ≤ x15 ∧ x15 ≤ 600000007) (f4 : ((x2 = 1) ∧ (x8 = 1)) ∨ (((x2 = 3) ∧ (x8 = (-1))) ∨ ((x2 ≠ 1) ∧ ((x2 ≠ 3) ∧ (x8 = 0))))) (f7 : ((x2 = 0) ∧ (x5 = 1)) ∨ (((x2 = 2) ∧ (x5 = (-1))) ∨ ((x2 ≠ 0) ∧ ((x2 ≠ 2) ∧ (x5 = 0))))) : 1 ≤ x15 ∧ x15 ≤ 6000 := by
  first
    | omega
def o_Mo_stepTo_2 : or_T := (47, 17, [(0, (2, 0, 0, [165])), (1, (0, 0, 5999, [])), (2, (0, 1, 2, [])), (3, (0, 1, 6000, [])), (4, (0, 0, 5999, [])), (5, (0, 0, 0, [])), (6, (0, 0, 5999, [])), (7, (0, 0, 5999, [])), (8, (0, 0, 0, [])), (9, (0, 0, 5999, [])), (11, (0, 1, 1, [])), (12, (0, 0, 5999, [])), (15, (0, -3999999, 600000007, []))], [(9, [15, 0], [147]), (2, [12, 3, 11], []), (9, [3, 0], [146]), (1, [9, 7, 8], []), (20, [2, 8], [50, 0, 0, 3, 14, 2, 6, 1, 2, 1, 0, 0, 1, 1, 2, 1, 1, 0, 1, 3, 14, 2, 6, 1, 2, 1, 0, 0, 3, 1, 2, 1, 1, 0, -1, 2, 6, 7, 2, 1, 0, 0, 1, 2, 6, 7, 2, 1, 0, 0, 3, 1, 2, 1, 1, 0, 0]), (4, [7, 1, 3], []), (1, [6, 4, 5], []), (20, [2, 5], [50, 0, 0, 3, 14, 2, 6, 1, 2, 1, 0, 0, 0, 1, 2, 1, 1, 0, 1, 3, 14, 2, 6, 1, 2, 1, 0, 0, 2, 1, 2, 1, 1, 0, -1, 2, 6, 7, 2, 1, 0, 0, 0, 2, 6, 7, 2, 1, 0, 0, 2, 1, 2, 1, 1, 0, 0]), (5, [4, 1, 3], []), (20, [0], [60, 2, 0, 494, 146, 147]), (20, [1, 0], [50, 2, 0, 1146, 1147, 2, 6, 0, 2, 0, 0, 1, 0, 0, 6, 4, 2, 1, 0, 0, 1, 6, 3, 2, 1, 146, 2, 1, 147])], [(15, (0, 1, 6000, []))], [], [], [], [(6, 12, -4294967296, 0), (12, 3, -1, -1), (9, 7, 0, 0), (6, 4, 0, 0), (6, 3, -4294967295, -1), (4, 3, -4294967295, -1)])
theorem oo_Mo_stepTo_2 {kA : Nat → ClassId} : or_ok PRD kA GG o_Mo_stepTo_2 := by
  refine or_mk fun A ta ws vs hD hth hl => ?_
  intro t0 r0 t1 k1 t2 k2 t3 k3 t4 k4 t5 k5 t6 k6 t7 k7 t8 k8 t9 k9 t11 k11 t12 k12 t15 k15 d0 d1 d2 d3 d4 d5 f0 f1 f2 f3 f4 f5 f6 f7 f8 f9 f10
  have hrf0 : 1 ≤ v_iv (n_v vs 15) ∧ v_iv (n_v vs 15) ≤ 6000 := vc_Mo_stepTo_2_r0 (v_iv (n_v vs 2)) (v_iv (n_v vs 3)) (v_iv (n_v vs 5)) (v_iv (n_v vs 6)) (v_iv (n_v vs 8)) (v_iv (n_v vs 9)) (v_iv (n_v vs 15)) (w_fi ws (n_v vs 0) 147) (w_fi ws (n_v vs 0) 146) k2 k5 k8 k15 (shm_565 f4) (shm_564 f7)
  have rf15 : tv_ok ta (0, 1, 6000, []) (n_v vs 15) := tv_in t15 (by first | omega | grind) (by first | omega | grind)
  refine ⟨List.forall_mem_cons.mpr ⟨rf15, (fun _ h => (by cases h))⟩, [], trivial, ?_, (fun _ h => (by cases h))⟩
  rw [List.append_nil]
  exact (fun _ h => (by cases h))
set_option maxHeartbeats 4000000 in
theorem vc_Mo_stepTo_3_0 (x1 : Int) (x2 : Int) (x3 : Int) (x4 : Int) (x5 : Int) (x6 : Int) (x7 : Int) (x8 : Int) (x9 : Int) (x15 : Int) (x17 : Int) (x19 : Int) (tall_0 : Int) (wide_0 : Int) (barredPoint_0 : Int → Int) (k1 : 0 ≤ x1 ∧ x1 ≤ 5999) (k2 : 1 ≤ x2 ∧ x2 ≤ 2) (k3 : 1 ≤ x3 ∧ x3 ≤ 6000) (k4 : 0 ≤ x4 ∧ x4 ≤ 5999) (k5 : 0 ≤ x5 ∧ x5 ≤ 0) (k6 : 0 ≤ x6 ∧ x6 ≤ 5999) (k7 : 0 ≤ x7 ∧ x7 ≤ 5999) (k8 : 0 ≤ x8 ∧ x8 ≤ 0) (k9 : 1 ≤ x9 ∧ x9 ≤ 5999) (k15 : 1 ≤ x15 ∧ x15 ≤ 6000) (k17 : 0 ≤ x17 ∧ x17 ≤ 5998) (k19 : (-1) ≤ x19 ∧ x19 ≤ (-1)) (d0 : x17 + 1 ≤ x9 ∧ x9 ≤ x17 + 4294967296) (d1 : x15 + (-1) ≤ x17 ∧ x17 ≤ x15 + (-1)) (d4 : x7 + 0 ≤ x9 ∧ x9 ≤ x7 + 0) (d5 : x4 + 0 ≤ x6 ∧ x6 ≤ x4 + 0) (g1 : x15 = tall_0) (g3 : x3 = wide_0) (f5 : ((x2 = 1) ∧ (x8 = 1)) ∨ (((x2 = 3) ∧ (x8 = (-1))) ∨ ((x2 ≠ 1) ∧ ((x2 ≠ 3) ∧ (x8 = 0))))) (f6 : x7 = Int.tdiv (x1) (x3)) (f8 : ((x2 = 0) ∧ (x5 = 1)) ∨ (((x2 = 2) ∧ (x5 = (-1))) ∨ ((x2 ≠ 0) ∧ ((x2 ≠ 2) ∧ (x5 = 0))))) (f9 : x4 = Int.tmod (x1) (x3)) (f10 : GRX (wide_0) (tall_0)) (kz_0_146 : (-3999999) ≤ wide_0 ∧ wide_0 ≤ 600000023) (kz_0_147 : (-3999999) ≤ tall_0 ∧ tall_0 ≤ 600000007) : STQ (wide_0) (tall_0) (barredPoint_0) (x1) (x2) (x19) := by
  have g := gok_bd ‹GRX _ _›
  have e3 : x3 = wide_0 := by assumption
  have tm : x4 = x1 % wide_0 := by rw [← e3, ‹x4 = Int.tmod x1 x3›]; exact Int.tmod_eq_emod_of_nonneg (by omega)
  have td : x7 = x1 / wide_0 := by rw [← e3, ‹x7 = Int.tdiv x1 x3›]; exact Int.tdiv_eq_ediv_of_nonneg (by omega)
  have hx : x6 = x1 % wide_0 + dxf x2 := by rw [← tm]; unfold dxf; split; omega; split <;> omega
  have hy : x9 = x1 / wide_0 + dyf x2 := by rw [← td]; unfold dyf; split; omega; split <;> omega
  first
    | exact stq_none hx hy (by omega) (by omega)
set_option maxHeartbeats 4000000 in
theorem vc_Mo_stepTo_3_1 (x1 : Int) (x3 : Int) (x6 : Int) (x9 : Int) (x15 : Int) (x19 : Int) (tall_0 : Int) (wide_0 : Int) (k1 : 0 ≤ x1 ∧ x1 ≤ 5999) (k3 : 1 ≤ x3 ∧ x3 ≤ 6000) (k19 : (-1) ≤ x19 ∧ x19 ≤ (-1)) (g3 : x3 = wide_0) (f11 : (0 ≤ x1) ∧ ((x1 + 1) ≤ (wide_0 * tall_0))) (kz_0_146 : (-3999999) ≤ wide_0 ∧ wide_0 ≤ 600000023) (kz_0_147 : (-3999999) ≤ tall_0 ∧ tall_0 ≤ 600000007) : ((-1) ≤ x19) ∧ ((x19 + 1) ≤ (wide_0 * tall_0)) := by
  first
    | omega
def o_Mo_stepTo_3 : or_T := (55, 20, [(0, (2, 0, 0, [165])), (1, (0, 0, 5999, [])), (2, (0, 1, 2, [])), (3, (0, 1, 6000, [])), (4, (0, 0, 5999, [])), (5, (0, 0, 0, [])), (6, (0, 0, 5999, [])), (7, (0, 0, 5999, [])), (8, (0, 0, 0, [])), (9, (0, 1, 5999, [])), (11, (0, 1, 1, [])), (12, (0, 0, 5999, [])), (15, (0, 1, 6000, [])), (16, (0, 1, 1, [])), (17, (0, 0, 5998, [])), (19, (0, -1, -1, []))], [(2, [17, 15, 16], []), (9, [15, 0], [147]), (2, [12, 3, 11], []), (9, [3, 0], [146]), (1, [9, 7, 8], []), (20, [2, 8], [50, 0, 0, 3, 14, 2, 6, 1, 2, 1, 0, 0, 1, 1, 2, 1, 1, 0, 1, 3, 14, 2, 6, 1, 2, 1, 0, 0, 3, 1, 2, 1, 1, 0, -1, 2, 6, 7, 2, 1, 0, 0, 1, 2, 6, 7, 2, 1, 0, 0, 3, 1, 2, 1, 1, 0, 0]), (4, [7, 1, 3], []), (1, [6, 4, 5], []), (20, [2, 5], [50, 0, 0, 3, 14, 2, 6, 1, 2, 1, 0, 0, 0, 1, 2, 1, 1, 0, 1, 3, 14, 2, 6, 1, 2, 1, 0, 0, 2, 1, 2, 1, 1, 0, -1, 2, 6, 7, 2, 1, 0, 0, 0, 2, 6, 7, 2, 1, 0, 0, 2, 1, 2, 1, 1, 0, 0]), (5, [4, 1, 3], []), (20, [0], [60, 2, 0, 494, 146, 147]), (20, [1, 0], [50, 2, 0, 1146, 1147, 2, 6, 0, 2, 0, 0, 1, 0, 0, 6, 4, 2, 1, 0, 0, 1, 6, 3, 2, 1, 146, 2, 1, 147])], [], [], [(20, [0, 1, 2, 19], [60, 2, 1, 505, 146, 147, 143]), (20, [19, 0], [50, 2, 0, 1146, 1147, 2, 6, 0, 2, 0, -1, 1, 0, 0, 6, 4, 2, 1, 0, 0, 1, 6, 3, 2, 1, 146, 2, 1, 147])], [], [(9, 17, 1, 4294967296), (17, 15, -1, -1), (6, 12, -4294967296, 0), (12, 3, -1, -1), (9, 7, 0, 0), (6, 4, 0, 0), (6, 3, -4294967295, -1), (4, 3, -4294967295, -1)])
theorem oo_Mo_stepTo_3 {kA : Nat → ClassId} : or_ok PRD kA GG o_Mo_stepTo_3 := by
  refine or_mk fun A ta ws vs hD hth hl => ?_
  intro t0 r0 t1 k1 t2 k2 t3 k3 t4 k4 t5 k5 t6 k6 t7 k7 t8 k8 t9 k9 t11 k11 t12 k12 t15 k15 t16 k16 t17 k17 t19 k19 d0 d1 d2 d3 d4 d5 d6 d7 f0 f1 f2 f3 f4 f5 f6 f7 f8 f9 f10 f11
  replace f1 := shm_1293 f1
  replace f3 := shm_1288 f3
  replace f6 := shm_34 f6
  have g1 : v_iv (n_v vs 15) = w_fi ws (n_v vs 0) 147 := congrArg v_iv f1
  have g3 : v_iv (n_v vs 3) = w_fi ws (n_v vs 0) 146 := congrArg v_iv f3
  have kz_0_146 := fdq_179 hD hth r0
  have kz_0_147 := fdq_180 hD hth r0
  have nf0 : fc_1 PRD (20, [0, 1, 2, 19], [60, 2, 1, 505, 146, 147, 143]) ws (vs) := ⟨nf_in hl rfl, sgq_1291 (vc_Mo_stepTo_3_0 (v_iv (n_v vs 1)) (v_iv (n_v vs 2)) (v_iv (n_v vs 3)) (v_iv (n_v vs 4)) (v_iv (n_v vs 5)) (v_iv (n_v vs 6)) (v_iv (n_v vs 7)) (v_iv (n_v vs 8)) (v_iv (n_v vs 9)) (v_iv (n_v vs 15)) (v_iv (n_v vs 17)) (v_iv (n_v vs 19)) (w_fi ws (n_v vs 0) 147) (w_fi ws (n_v vs 0) 146) (w_ei ws (w_ar ws (n_v vs 0) 143)) k1 k2 k3 k4 k5 k6 k7 k8 k9 k15 k17 k19 d0 d1 d4 d5 g1 g3 (shm_565 f5) f6 (shm_564 f8) (shm_468 f9) (shm_1289 f10) kz_0_146 kz_0_147)⟩
  have nf1 : fc_1 PRD (20, [19, 0], [50, 2, 0, 1146, 1147, 2, 6, 0, 2, 0, -1, 1, 0, 0, 6, 4, 2, 1, 0, 0, 1, 6, 3, 2, 1, 146, 2, 1, 147]) ws (vs) := ⟨nf_in hl rfl, sgq_1292 (vc_Mo_stepTo_3_1 (v_iv (n_v vs 1)) (v_iv (n_v vs 3)) (v_iv (n_v vs 6)) (v_iv (n_v vs 9)) (v_iv (n_v vs 15)) (v_iv (n_v vs 19)) (w_fi ws (n_v vs 0) 147) (w_fi ws (n_v vs 0) 146) k1 k3 k19 g3 (shm_1290 f11) kz_0_146 kz_0_147)⟩
  refine ⟨(fun _ h => (by cases h)), [], trivial, ?_, (fun _ h => (by cases h))⟩
  rw [List.append_nil]
  exact List.forall_mem_cons.mpr ⟨⟨show (20 : Nat) < 100 from by decide, nf0⟩, List.forall_mem_cons.mpr ⟨⟨show (20 : Nat) < 100 from by decide, nf1⟩, (fun _ h => (by cases h))⟩⟩
set_option maxHeartbeats 4000000 in
theorem vc_Mo_stepTo_4_r0 (x1 : Int) (x2 : Int) (x3 : Int) (x4 : Int) (x5 : Int) (x6 : Int) (x8 : Int) (x9 : Int) (x15 : Int) (x19 : Int) (x20 : Int) (wide_0 : Int) (tall_0 : Int) (k1 : 0 ≤ x1 ∧ x1 ≤ 5999) (k2 : 1 ≤ x2 ∧ x2 ≤ 2) (k3 : 1 ≤ x3 ∧ x3 ≤ 6000) (k4 : 0 ≤ x4 ∧ x4 ≤ 5999) (k5 : 0 ≤ x5 ∧ x5 ≤ 0) (k6 : 0 ≤ x6 ∧ x6 ≤ 5999) (k8 : 0 ≤ x8 ∧ x8 ≤ 0) (k9 : 0 ≤ x9 ∧ x9 ≤ 5999) (k19 : 0 ≤ x19 ∧ x19 ≤ 35994000) (k20 : 0 ≤ x20 ∧ x20 ≤ 35999999) (d10 : x4 + 0 ≤ x6 ∧ x6 ≤ x4 + 0) (f0 : x20 = x19 + x6) (f1 : x19 = x9 * x3) (f7 : ((x2 = 1) ∧ (x8 = 1)) ∨ (((x2 = 3) ∧ (x8 = (-1))) ∨ ((x2 ≠ 1) ∧ ((x2 ≠ 3) ∧ (x8 = 0))))) (f10 : ((x2 = 0) ∧ (x5 = 1)) ∨ (((x2 = 2) ∧ (x5 = (-1))) ∨ ((x2 ≠ 0) ∧ ((x2 ≠ 2) ∧ (x5 = 0))))) (f11 : x4 = Int.tmod (x1) (x3)) : 0 ≤ x20 ∧ x20 ≤ 5999 := by
  first
    | omega
def o_Mo_stepTo_4 : or_T := (73, 22, [(0, (2, 0, 0, [165])), (1, (0, 0, 5999, [])), (2, (0, 1, 2, [])), (3, (0, 1, 6000, [])), (4, (0, 0, 5999, [])), (5, (0, 0, 0, [])), (6, (0, 0, 5999, [])), (7, (0, 0, 5999, [])), (8, (0, 0, 0, [])), (9, (0, 0, 5999, [])), (11, (0, 1, 1, [])), (12, (0, 0, 5999, [])), (15, (0, 1, 6000, [])), (16, (0, 1, 1, [])), (17, (0, 0, 5999, [])), (19, (0, 0, 35994000, [])), (20, (0, 0, 35999999, []))], [(1, [20, 19, 6], []), (3, [19, 9, 3], []), (9, [3, 0], [146]), (2, [17, 15, 16], []), (9, [15, 0], [147]), (2, [12, 3, 11], []), (1, [9, 7, 8], []), (20, [2, 8], [50, 0, 0, 3, 14, 2, 6, 1, 2, 1, 0, 0, 1, 1, 2, 1, 1, 0, 1, 3, 14, 2, 6, 1, 2, 1, 0, 0, 3, 1, 2, 1, 1, 0, -1, 2, 6, 7, 2, 1, 0, 0, 1, 2, 6, 7, 2, 1, 0, 0, 3, 1, 2, 1, 1, 0, 0]), (4, [7, 1, 3], []), (1, [6, 4, 5], []), (20, [2, 5], [50, 0, 0, 3, 14, 2, 6, 1, 2, 1, 0, 0, 0, 1, 2, 1, 1, 0, 1, 3, 14, 2, 6, 1, 2, 1, 0, 0, 2, 1, 2, 1, 1, 0, -1, 2, 6, 7, 2, 1, 0, 0, 0, 2, 6, 7, 2, 1, 0, 0, 2, 1, 2, 1, 1, 0, 0]), (5, [4, 1, 3], []), (20, [0], [60, 2, 0, 494, 146, 147]), (20, [1, 0], [50, 2, 0, 1146, 1147, 2, 6, 0, 2, 0, 0, 1, 0, 0, 6, 4, 2, 1, 0, 0, 1, 6, 3, 2, 1, 146, 2, 1, 147])], [(20, (0, 0, 5999, []))], [], [], [], [(20, 6, 0, 35994000), (20, 12, -4294967296, 35994000), (20, 4, 0, 35994000), (20, 3, -4294967295, 35993999), (20, 19, 0, 5999), (9, 17, -4294967296, 0), (17, 15, -1, -1), (6, 12, -4294967296, 0), (12, 3, -1, -1), (9, 7, 0, 0), (6, 4, 0, 0), (6, 3, -4294967295, -1), (4, 3, -4294967295, -1)])
theorem oo_Mo_stepTo_4 {kA : Nat → ClassId} : or_ok PRD kA GG o_Mo_stepTo_4 := by
  refine or_mk fun A ta ws vs hD hth hl => ?_
  intro t0 r0 t1 k1 t2 k2 t3 k3 t4 k4 t5 k5 t6 k6 t7 k7 t8 k8 t9 k9 t11 k11 t12 k12 t15 k15 t16 k16 t17 k17 t19 k19 t20 k20 d0 d1 d2 d3 d4 d5 d6 d7 d8 d9 d10 d11 d12 f0 f1 f2 f3 f4 f5 f6 f7 f8 f9 f10 f11 f12 f13
  have hrf0 : 0 ≤ v_iv (n_v vs 20) ∧ v_iv (n_v vs 20) ≤ 5999 := vc_Mo_stepTo_4_r0 (v_iv (n_v vs 1)) (v_iv (n_v vs 2)) (v_iv (n_v vs 3)) (v_iv (n_v vs 4)) (v_iv (n_v vs 5)) (v_iv (n_v vs 6)) (v_iv (n_v vs 8)) (v_iv (n_v vs 9)) (v_iv (n_v vs 15)) (v_iv (n_v vs 19)) (v_iv (n_v vs 20)) (w_fi ws (n_v vs 0) 146) (w_fi ws (n_v vs 0) 147) k1 k2 k3 k4 k5 k6 k8 k9 k19 k20 d10 (shm_12 f0) (shm_38 f1) (shm_565 f7) (shm_564 f10) (shm_468 f11)
  have rf20 : tv_ok ta (0, 0, 5999, []) (n_v vs 20) := tv_in t20 (by first | omega | grind) (by first | omega | grind)
  refine ⟨List.forall_mem_cons.mpr ⟨rf20, (fun _ h => (by cases h))⟩, [], trivial, ?_, (fun _ h => (by cases h))⟩
  rw [List.append_nil]
  exact (fun _ h => (by cases h))
set_option maxHeartbeats 4000000 in
theorem vc_Mo_stepTo_5_0 (x1 : Int) (x2 : Int) (x3 : Int) (x4 : Int) (x5 : Int) (x6 : Int) (x7 : Int) (x8 : Int) (x9 : Int) (x19 : Int) (x20 : Int) (x22 : Int) (barredPoint_0 : Int → Int) (wide_0 : Int) (tall_0 : Int) (k1 : 0 ≤ x1 ∧ x1 ≤ 5999) (k2 : 1 ≤ x2 ∧ x2 ≤ 2) (k3 : 1 ≤ x3 ∧ x3 ≤ 6000) (k4 : 0 ≤ x4 ∧ x4 ≤ 5999) (k5 : 0 ≤ x5 ∧ x5 ≤ 0) (k6 : 0 ≤ x6 ∧ x6 ≤ 5999) (k7 : 0 ≤ x7 ∧ x7 ≤ 5999) (k8 : 0 ≤ x8 ∧ x8 ≤ 0) (k9 : 0 ≤ x9 ∧ x9 ≤ 5999) (k19 : 0 ≤ x19 ∧ x19 ≤ 35994000) (k20 : 0 ≤ x20 ∧ x20 ≤ 5999) (d7 : x7 + 0 ≤ x9 ∧ x9 ≤ x7 + 0) (d8 : x4 + 0 ≤ x6 ∧ x6 ≤ x4 + 0) (f3 : x20 = x19 + x6) (f4 : x19 = x9 * x3) (g5 : x3 = wide_0) (f10 : ((x2 = 1) ∧ (x8 = 1)) ∨ (((x2 = 3) ∧ (x8 = (-1))) ∨ ((x2 ≠ 1) ∧ ((x2 ≠ 3) ∧ (x8 = 0))))) (f11 : x7 = Int.tdiv (x1) (x3)) (f13 : ((x2 = 0) ∧ (x5 = 1)) ∨ (((x2 = 2) ∧ (x5 = (-1))) ∨ ((x2 ≠ 0) ∧ ((x2 ≠ 2) ∧ (x5 = 0))))) (f14 : x4 = Int.tmod (x1) (x3)) (f15 : GRX (wide_0) (tall_0)) (kz_0_146 : (-3999999) ≤ wide_0 ∧ wide_0 ≤ 600000023) (kz_0_147 : (-3999999) ≤ tall_0 ∧ tall_0 ≤ 600000007) : STQ (wide_0) (tall_0) (barredPoint_0) (x1) (x2) (x20) := by
  have g := gok_bd ‹GRX _ _›
  have e3 : x3 = wide_0 := by assumption
  have tm : x4 = x1 % wide_0 := by rw [← e3, ‹x4 = Int.tmod x1 x3›]; exact Int.tmod_eq_emod_of_nonneg (by omega)
  have td : x7 = x1 / wide_0 := by rw [← e3, ‹x7 = Int.tdiv x1 x3›]; exact Int.tdiv_eq_ediv_of_nonneg (by omega)
  have hx : x6 = x1 % wide_0 + dxf x2 := by rw [← tm]; unfold dxf; split; omega; split <;> omega
  have hy : x9 = x1 / wide_0 + dyf x2 := by rw [← td]; unfold dyf; split; omega; split <;> omega
  first
    | exact stq_none hx hy (by omega) (by omega)
set_option maxHeartbeats 4000000 in
theorem vc_Mo_stepTo_5_1 (x1 : Int) (x2 : Int) (x3 : Int) (x4 : Int) (x5 : Int) (x6 : Int) (x8 : Int) (x9 : Int) (x15 : Int) (x19 : Int) (x20 : Int) (wide_0 : Int) (tall_0 : Int) (k1 : 0 ≤ x1 ∧ x1 ≤ 5999) (k2 : 1 ≤ x2 ∧ x2 ≤ 2) (k3 : 1 ≤ x3 ∧ x3 ≤ 6000) (k4 : 0 ≤ x4 ∧ x4 ≤ 5999) (k5 : 0 ≤ x5 ∧ x5 ≤ 0) (k6 : 0 ≤ x6 ∧ x6 ≤ 5999) (k8 : 0 ≤ x8 ∧ x8 ≤ 0) (k9 : 0 ≤ x9 ∧ x9 ≤ 5999) (k19 : 0 ≤ x19 ∧ x19 ≤ 35994000) (k20 : 0 ≤ x20 ∧ x20 ≤ 5999) (d8 : x4 + 0 ≤ x6 ∧ x6 ≤ x4 + 0) (f3 : x20 = x19 + x6) (f4 : x19 = x9 * x3) (f10 : ((x2 = 1) ∧ (x8 = 1)) ∨ (((x2 = 3) ∧ (x8 = (-1))) ∨ ((x2 ≠ 1) ∧ ((x2 ≠ 3) ∧ (x8 = 0))))) (f13 : ((x2 = 0) ∧ (x5 = 1)) ∨ (((x2 = 2) ∧ (x5 = (-1))) ∨ ((x2 ≠ 0) ∧ ((x2 ≠ 2) ∧ (x5 = 0))))) (f14 : x4 = Int.tmod (x1) (x3)) (kz_0_146 : (-3999999) ≤ wide_0 ∧ wide_0 ≤ 600000023) (kz_0_147 : (-3999999) ≤ tall_0 ∧ tall_0 ≤ 600000007) : ((-1) ≤ x20) ∧ ((x20 + 1) ≤ (wide_0 * tall_0)) := by
  first
    | omega
def o_Mo_stepTo_5 : or_T := (83, 23, [(0, (2, 0, 0, [165])), (1, (0, 0, 5999, [])), (2, (0, 1, 2, [])), (3, (0, 1, 6000, [])), (4, (0, 0, 5999, [])), (5, (0, 0, 0, [])), (6, (0, 0, 5999, [])), (7, (0, 0, 5999, [])), (8, (0, 0, 0, [])), (9, (0, 0, 5999, [])), (11, (0, 1, 1, [])), (12, (0, 0, 5999, [])), (15, (0, 1, 6000, [])), (16, (0, 1, 1, [])), (17, (0, 0, 5999, [])), (19, (0, 0, 35994000, [])), (20, (0, 0, 5999, [])), (21, (2, 0, 0, [269])), (22, (0, 0, 0, []))], [(8, [22], [0]), (10, [22, 21, 20], []), (9, [21, 0], [143]), (1, [20, 19, 6], []), (3, [19, 9, 3], []), (9, [3, 0], [146]), (2, [17, 15, 16], []), (9, [15, 0], [147]), (2, [12, 3, 11], []), (1, [9, 7, 8], []), (20, [2, 8], [50, 0, 0, 3, 14, 2, 6, 1, 2, 1, 0, 0, 1, 1, 2, 1, 1, 0, 1, 3, 14, 2, 6, 1, 2, 1, 0, 0, 3, 1, 2, 1, 1, 0, -1, 2, 6, 7, 2, 1, 0, 0, 1, 2, 6, 7, 2, 1, 0, 0, 3, 1, 2, 1, 1, 0, 0]), (4, [7, 1, 3], []), (1, [6, 4, 5], []), (20, [2, 5], [50, 0, 0, 3, 14, 2, 6, 1, 2, 1, 0, 0, 0, 1, 2, 1, 1, 0, 1, 3, 14, 2, 6, 1, 2, 1, 0, 0, 2, 1, 2, 1, 1, 0, -1, 2, 6, 7, 2, 1, 0, 0, 0, 2, 6, 7, 2, 1, 0, 0, 2, 1, 2, 1, 1, 0, 0]), (5, [4, 1, 3], []), (20, [0], [60, 2, 0, 494, 146, 147]), (20, [1, 0], [50, 2, 0, 1146, 1147, 2, 6, 0, 2, 0, 0, 1, 0, 0, 6, 4, 2, 1, 0, 0, 1, 6, 3, 2, 1, 146, 2, 1, 147])], [], [], [(20, [0, 1, 2, 20], [60, 2, 1, 505, 146, 147, 143]), (20, [20, 0], [50, 2, 0, 1146, 1147, 2, 6, 0, 2, 0, -1, 1, 0, 0, 6, 4, 2, 1, 0, 0, 1, 6, 3, 2, 1, 146, 2, 1, 147])], [], [(20, 6, 0, 35994000), (20, 4, 0, 35994000), (20, 19, 0, 5999), (9, 17, -4294967296, 0), (17, 15, -1, -1), (6, 12, -4294967296, 0), (12, 3, -1, -1), (9, 7, 0, 0), (6, 4, 0, 0), (6, 3, -4294967295, -1), (4, 3, -4294967295, -1)])
theorem oo_Mo_stepTo_5 {kA : Nat → ClassId} : or_ok PRD kA GG o_Mo_stepTo_5 := by
  refine or_mk fun A ta ws vs hD hth hl => ?_
  intro t0 r0 t1 k1 t2 k2 t3 k3 t4 k4 t5 k5 t6 k6 t7 k7 t8 k8 t9 k9 t11 k11 t12 k12 t15 k15 t16 k16 t17 k17 t19 k19 t20 k20 t21 r21 t22 k22 d0 d1 d2 d3 d4 d5 d6 d7 d8 d9 d10 f0 f1 f2 f3 f4 f5 f6 f7 f8 f9 f10 f11 f12 f13 f14 f15 f16
  replace f5 := shm_1288 f5
  replace f11 := shm_34 f11
  have g5 : v_iv (n_v vs 3) = w_fi ws (n_v vs 0) 146 := congrArg v_iv f5
  have kz_0_146 := fdq_179 hD hth r0
  have kz_0_147 := fdq_180 hD hth r0
  have nf0 : fc_1 PRD (20, [0, 1, 2, 20], [60, 2, 1, 505, 146, 147, 143]) ws (vs) := ⟨nf_in hl rfl, sgq_1291 (vc_Mo_stepTo_5_0 (v_iv (n_v vs 1)) (v_iv (n_v vs 2)) (v_iv (n_v vs 3)) (v_iv (n_v vs 4)) (v_iv (n_v vs 5)) (v_iv (n_v vs 6)) (v_iv (n_v vs 7)) (v_iv (n_v vs 8)) (v_iv (n_v vs 9)) (v_iv (n_v vs 19)) (v_iv (n_v vs 20)) (v_iv (n_v vs 22)) (w_ei ws (w_ar ws (n_v vs 0) 143)) (w_fi ws (n_v vs 0) 146) (w_fi ws (n_v vs 0) 147) k1 k2 k3 k4 k5 k6 k7 k8 k9 k19 k20 d7 d8 (shm_12 f3) (shm_38 f4) g5 (shm_565 f10) f11 (shm_564 f13) (shm_468 f14) (shm_1289 f15) kz_0_146 kz_0_147)⟩
  have nf1 : fc_1 PRD (20, [20, 0], [50, 2, 0, 1146, 1147, 2, 6, 0, 2, 0, -1, 1, 0, 0, 6, 4, 2, 1, 0, 0, 1, 6, 3, 2, 1, 146, 2, 1, 147]) ws (vs) := ⟨nf_in hl rfl, sgq_1292 (vc_Mo_stepTo_5_1 (v_iv (n_v vs 1)) (v_iv (n_v vs 2)) (v_iv (n_v vs 3)) (v_iv (n_v vs 4)) (v_iv (n_v vs 5)) (v_iv (n_v vs 6)) (v_iv (n_v vs 8)) (v_iv (n_v vs 9)) (v_iv (n_v vs 15)) (v_iv (n_v vs 19)) (v_iv (n_v vs 20)) (w_fi ws (n_v vs 0) 146) (w_fi ws (n_v vs 0) 147) k1 k2 k3 k4 k5 k6 k8 k9 k19 k20 d8 (shm_12 f3) (shm_38 f4) (shm_565 f10) (shm_564 f13) (shm_468 f14) kz_0_146 kz_0_147)⟩
  refine ⟨(fun _ h => (by cases h)), [], trivial, ?_, (fun _ h => (by cases h))⟩
  rw [List.append_nil]
  exact List.forall_mem_cons.mpr ⟨⟨show (20 : Nat) < 100 from by decide, nf0⟩, List.forall_mem_cons.mpr ⟨⟨show (20 : Nat) < 100 from by decide, nf1⟩, (fun _ h => (by cases h))⟩⟩
set_option maxHeartbeats 4000000 in
theorem vc_Mo_stepTo_6_0 (x1 : Int) (x2 : Int) (x3 : Int) (x4 : Int) (x5 : Int) (x6 : Int) (x7 : Int) (x8 : Int) (x9 : Int) (x19 : Int) (x20 : Int) (x22 : Int) (x23 : Int) (barredPoint_0 : Int → Int) (wide_0 : Int) (tall_0 : Int) (k1 : 0 ≤ x1 ∧ x1 ≤ 5999) (k2 : 1 ≤ x2 ∧ x2 ≤ 2) (k3 : 1 ≤ x3 ∧ x3 ≤ 6000) (k4 : 0 ≤ x4 ∧ x4 ≤ 5999) (k5 : 0 ≤ x5 ∧ x5 ≤ 0) (k6 : 0 ≤ x6 ∧ x6 ≤ 5999) (k7 : 0 ≤ x7 ∧ x7 ≤ 5999) (k8 : 0 ≤ x8 ∧ x8 ≤ 0) (k9 : 0 ≤ x9 ∧ x9 ≤ 5999) (k23 : (-1) ≤ x23 ∧ x23 ≤ (-1)) (d7 : x7 + 0 ≤ x9 ∧ x9 ≤ x7 + 0) (d8 : x4 + 0 ≤ x6 ∧ x6 ≤ x4 + 0) (g5 : x3 = wide_0) (f10 : ((x2 = 1) ∧ (x8 = 1)) ∨ (((x2 = 3) ∧ (x8 = (-1))) ∨ ((x2 ≠ 1) ∧ ((x2 ≠ 3) ∧ (x8 = 0))))) (f11 : x7 = Int.tdiv (x1) (x3)) (f13 : ((x2 = 0) ∧ (x5 = 1)) ∨ (((x2 = 2) ∧ (x5 = (-1))) ∨ ((x2 ≠ 0) ∧ ((x2 ≠ 2) ∧ (x5 = 0))))) (f14 : x4 = Int.tmod (x1) (x3)) (f15 : GRX (wide_0) (tall_0)) (kz_0_146 : (-3999999) ≤ wide_0 ∧ wide_0 ≤ 600000023) (kz_0_147 : (-3999999) ≤ tall_0 ∧ tall_0 ≤ 600000007) : STQ (wide_0) (tall_0) (barredPoint_0) (x1) (x2) (x23) := by
  have g := gok_bd ‹GRX _ _›
  have e3 : x3 = wide_0 := by assumption
  have tm : x4 = x1 % wide_0 := by rw [← e3, ‹x4 = Int.tmod x1 x3›]; exact Int.tmod_eq_emod_of_nonneg (by omega)
  have td : x7 = x1 / wide_0 := by rw [← e3, ‹x7 = Int.tdiv x1 x3›]; exact Int.tdiv_eq_ediv_of_nonneg (by omega)
  have hx : x6 = x1 % wide_0 + dxf x2 := by rw [← tm]; unfold dxf; split; omega; split <;> omega
  have hy : x9 = x1 / wide_0 + dyf x2 := by rw [← td]; unfold dyf; split; omega; split <;> omega
  first
    | exact stq_none hx hy (by omega) (by omega)
set_option maxHeartbeats 4000000 in
theorem vc_Mo_stepTo_6_1 (x1 : Int) (x3 : Int) (x6 : Int) (x9 : Int) (x15 : Int) (x19 : Int) (x20 : Int) (x23 : Int) (wide_0 : Int) (tall_0 : Int) (k1 : 0 ≤ x1 ∧ x1 ≤ 5999) (k23 : (-1) ≤ x23 ∧ x23 ≤ (-1)) (f16 : (0 ≤ x1) ∧ ((x1 + 1) ≤ (wide_0 * tall_0))) (kz_0_146 : (-3999999) ≤ wide_0 ∧ wide_0 ≤ 600000023) (kz_0_147 : (-3999999) ≤ tall_0 ∧ tall_0 ≤ 600000007) : ((-1) ≤ x23) ∧ ((x23 + 1) ≤ (wide_0 * tall_0)) := by
  first
    | omega
def o_Mo_stepTo_6 : or_T := (83, 24, [(0, (2, 0, 0, [165])), (1, (0, 0, 5999, [])), (2, (0, 1, 2, [])), (3, (0, 1, 6000, [])), (4, (0, 0, 5999, [])), (5, (0, 0, 0, [])), (6, (0, 0, 5999, [])), (7, (0, 0, 5999, [])), (8, (0, 0, 0, [])), (9, (0, 0, 5999, [])), (11, (0, 1, 1, [])), (12, (0, 0, 5999, [])), (15, (0, 1, 6000, [])), (16, (0, 1, 1, [])), (17, (0, 0, 5999, [])), (19, (0, 0, 35994000, [])), (20, (0, 0, 5999, [])), (21, (2, 0, 0, [269])), (22, (0, 1, 1, [])), (23, (0, -1, -1, []))], [(8, [22], [1]), (10, [22, 21, 20], []), (9, [21, 0], [143]), (1, [20, 19, 6], []), (3, [19, 9, 3], []), (9, [3, 0], [146]), (2, [17, 15, 16], []), (9, [15, 0], [147]), (2, [12, 3, 11], []), (1, [9, 7, 8], []), (20, [2, 8], [50, 0, 0, 3, 14, 2, 6, 1, 2, 1, 0, 0, 1, 1, 2, 1, 1, 0, 1, 3, 14, 2, 6, 1, 2, 1, 0, 0, 3, 1, 2, 1, 1, 0, -1, 2, 6, 7, 2, 1, 0, 0, 1, 2, 6, 7, 2, 1, 0, 0, 3, 1, 2, 1, 1, 0, 0]), (4, [7, 1, 3], []), (1, [6, 4, 5], []), (20, [2, 5], [50, 0, 0, 3, 14, 2, 6, 1, 2, 1, 0, 0, 0, 1, 2, 1, 1, 0, 1, 3, 14, 2, 6, 1, 2, 1, 0, 0, 2, 1, 2, 1, 1, 0, -1, 2, 6, 7, 2, 1, 0, 0, 0, 2, 6, 7, 2, 1, 0, 0, 2, 1, 2, 1, 1, 0, 0]), (5, [4, 1, 3], []), (20, [0], [60, 2, 0, 494, 146, 147]), (20, [1, 0], [50, 2, 0, 1146, 1147, 2, 6, 0, 2, 0, 0, 1, 0, 0, 6, 4, 2, 1, 0, 0, 1, 6, 3, 2, 1, 146, 2, 1, 147])], [], [], [(20, [0, 1, 2, 23], [60, 2, 1, 505, 146, 147, 143]), (20, [23, 0], [50, 2, 0, 1146, 1147, 2, 6, 0, 2, 0, -1, 1, 0, 0, 6, 4, 2, 1, 0, 0, 1, 6, 3, 2, 1, 146, 2, 1, 147])], [], [(20, 6, 0, 35994000), (20, 4, 0, 35994000), (20, 19, 0, 5999), (9, 17, -4294967296, 0), (17, 15, -1, -1), (6, 12, -4294967296, 0), (12, 3, -1, -1), (9, 7, 0, 0), (6, 4, 0, 0), (6, 3, -4294967295, -1), (4, 3, -4294967295, -1)])
theorem oo_Mo_stepTo_6 {kA : Nat → ClassId} : or_ok PRD kA GG o_Mo_stepTo_6 := by
  refine or_mk fun A ta ws vs hD hth hl => ?_
  intro t0 r0 t1 k1 t2 k2 t3 k3 t4 k4 t5 k5 t6 k6 t7 k7 t8 k8 t9 k9 t11 k11 t12 k12 t15 k15 t16 k16 t17 k17 t19 k19 t20 k20 t21 r21 t22 k22 t23 k23 d0 d1 d2 d3 d4 d5 d6 d7 d8 d9 d10 f0 f1 f2 f3 f4 f5 f6 f7 f8 f9 f10 f11 f12 f13 f14 f15 f16
  replace f5 := shm_1288 f5
  replace f11 := shm_34 f11
  have g5 : v_iv (n_v vs 3) = w_fi ws (n_v vs 0) 146 := congrArg v_iv f5
  have kz_0_146 := fdq_179 hD hth r0
  have kz_0_147 := fdq_180 hD hth r0
  have nf0 : fc_1 PRD (20, [0, 1, 2, 23], [60, 2, 1, 505, 146, 147, 143]) ws (vs) := ⟨nf_in hl rfl, sgq_1291 (vc_Mo_stepTo_6_0 (v_iv (n_v vs 1)) (v_iv (n_v vs 2)) (v_iv (n_v vs 3)) (v_iv (n_v vs 4)) (v_iv (n_v vs 5)) (v_iv (n_v vs 6)) (v_iv (n_v vs 7)) (v_iv (n_v vs 8)) (v_iv (n_v vs 9)) (v_iv (n_v vs 19)) (v_iv (n_v vs 20)) (v_iv (n_v vs 22)) (v_iv (n_v vs 23)) (w_ei ws (w_ar ws (n_v vs 0) 143)) (w_fi ws (n_v vs 0) 146) (w_fi ws (n_v vs 0) 147) k1 k2 k3 k4 k5 k6 k7 k8 k9 k23 d7 d8 g5 (shm_565 f10) f11 (shm_564 f13) (shm_468 f14) (shm_1289 f15) kz_0_146 kz_0_147)⟩
  have nf1 : fc_1 PRD (20, [23, 0], [50, 2, 0, 1146, 1147, 2, 6, 0, 2, 0, -1, 1, 0, 0, 6, 4, 2, 1, 0, 0, 1, 6, 3, 2, 1, 146, 2, 1, 147]) ws (vs) := ⟨nf_in hl rfl, sgq_1292 (vc_Mo_stepTo_6_1 (v_iv (n_v vs 1)) (v_iv (n_v vs 3)) (v_iv (n_v vs 6)) (v_iv (n_v vs 9)) (v_iv (n_v vs 15)) (v_iv (n_v vs 19)) (v_iv (n_v vs 20)) (v_iv (n_v vs 23)) (w_fi ws (n_v vs 0) 146) (w_fi ws (n_v vs 0) 147) k1 k23 (shm_1290 f16) kz_0_146 kz_0_147)⟩
  refine ⟨(fun _ h => (by cases h)), [], trivial, ?_, (fun _ h => (by cases h))⟩
  rw [List.append_nil]
  exact List.forall_mem_cons.mpr ⟨⟨show (20 : Nat) < 100 from by decide, nf0⟩, List.forall_mem_cons.mpr ⟨⟨show (20 : Nat) < 100 from by decide, nf1⟩, (fun _ h => (by cases h))⟩⟩
set_option maxHeartbeats 4000000 in
theorem vc_Mo_stepTo_7_0 (x1 : Int) (x2 : Int) (x3 : Int) (x4 : Int) (x6 : Int) (x7 : Int) (x9 : Int) (x12 : Int) (x14 : Int) (wide_0 : Int) (tall_0 : Int) (barredPoint_0 : Int → Int) (k1 : 0 ≤ x1 ∧ x1 ≤ 5999) (k2 : 3 ≤ x2 ∧ x2 ≤ 3) (k3 : 1 ≤ x3 ∧ x3 ≤ 6000) (k4 : 0 ≤ x4 ∧ x4 ≤ 5999) (k6 : 1 ≤ x6 ∧ x6 ≤ 5999) (k7 : 0 ≤ x7 ∧ x7 ≤ 5999) (k12 : 0 ≤ x12 ∧ x12 ≤ 5998) (k14 : (-1) ≤ x14 ∧ x14 ≤ (-1)) (d0 : x12 + 1 ≤ x6 ∧ x6 ≤ x12 + 4294967296) (d1 : x3 + (-1) ≤ x12 ∧ x12 ≤ x3 + (-1)) (d4 : x3 + (-4294967295) ≤ x6 ∧ x6 ≤ x3 + (-1)) (g1 : x3 = wide_0) (f4 : x7 = Int.tdiv (x1) (x3)) (f7 : x4 = Int.tmod (x1) (x3)) (f8 : GRX (wide_0) (tall_0)) (kz_0_146 : (-3999999) ≤ wide_0 ∧ wide_0 ≤ 600000023) (kz_0_147 : (-3999999) ≤ tall_0 ∧ tall_0 ≤ 600000007) : STQ (wide_0) (tall_0) (barredPoint_0) (x1) (x2) (x14) := by
  have g := gok_bd ‹GRX _ _›
  have e3 : x3 = wide_0 := by assumption
  have tm : x4 = x1 % wide_0 := by rw [← e3, ‹x4 = Int.tmod x1 x3›]; exact Int.tmod_eq_emod_of_nonneg (by omega)
  have td : x7 = x1 / wide_0 := by rw [← e3, ‹x7 = Int.tdiv x1 x3›]; exact Int.tdiv_eq_ediv_of_nonneg (by omega)
  have hx : x6 = x1 % wide_0 + dxf x2 := by rw [← tm]; unfold dxf; split; omega; split <;> omega
  have hy : x9 = x1 / wide_0 + dyf x2 := by rw [← td]; unfold dyf; split; omega; split <;> omega
  first
    | exact stq_none hx hy (by omega) (by omega)
set_option maxHeartbeats 4000000 in
theorem vc_Mo_stepTo_7_1 (x3 : Int) (x6 : Int) (x9 : Int) (x12 : Int) (x14 : Int) (wide_0 : Int) (tall_0 : Int) (k3 : 1 ≤ x3 ∧ x3 ≤ 6000) (k6 : 1 ≤ x6 ∧ x6 ≤ 5999) (k12 : 0 ≤ x12 ∧ x12 ≤ 5998) (k14 : (-1) ≤ x14 ∧ x14 ≤ (-1)) (d0 : x12 + 1 ≤ x6 ∧ x6 ≤ x12 + 4294967296) (d1 : x3 + (-1) ≤ x12 ∧ x12 ≤ x3 + (-1)) (d4 : x3 + (-4294967295) ≤ x6 ∧ x6 ≤ x3 + (-1)) (kz_0_146 : (-3999999) ≤ wide_0 ∧ wide_0 ≤ 600000023) (kz_0_147 : (-3999999) ≤ tall_0 ∧ tall_0 ≤ 600000007) : ((-1) ≤ x14) ∧ ((x14 + 1) ≤ (wide_0 * tall_0)) := by
  first
    | omega
def o_Mo_stepTo_7 : or_T := (55, 15, [(0, (2, 0, 0, [165])), (1, (0, 0, 5999, [])), (2, (0, 3, 3, [])), (3, (0, 1, 6000, [])), (4, (0, 0, 5999, [])), (5, (0, 0, 0, [])), (6, (0, 1, 5999, [])), (7, (0, 0, 5999, [])), (8, (0, -1, -1, [])), (9, (0, -1, 5998, [])), (11, (0, 1, 1, [])), (12, (0, 0, 5998, [])), (14, (0, -1, -1, []))], [(2, [12, 3, 11], []), (9, [3, 0], [146]), (1, [9, 7, 8], []), (20, [2, 8], [50, 0, 0, 3, 14, 2, 6, 1, 2, 1, 0, 0, 1, 1, 2, 1, 1, 0, 1, 3, 14, 2, 6, 1, 2, 1, 0, 0, 3, 1, 2, 1, 1, 0, -1, 2, 6, 7, 2, 1, 0, 0, 1, 2, 6, 7, 2, 1, 0, 0, 3, 1, 2, 1, 1, 0, 0]), (4, [7, 1, 3], []), (1, [6, 4, 5], []), (20, [2, 5], [50, 0, 0, 3, 14, 2, 6, 1, 2, 1, 0, 0, 0, 1, 2, 1, 1, 0, 1, 3, 14, 2, 6, 1, 2, 1, 0, 0, 2, 1, 2, 1, 1, 0, -1, 2, 6, 7, 2, 1, 0, 0, 0, 2, 6, 7, 2, 1, 0, 0, 2, 1, 2, 1, 1, 0, 0]), (5, [4, 1, 3], []), (20, [0], [60, 2, 0, 494, 146, 147]), (20, [1, 0], [50, 2, 0, 1146, 1147, 2, 6, 0, 2, 0, 0, 1, 0, 0, 6, 4, 2, 1, 0, 0, 1, 6, 3, 2, 1, 146, 2, 1, 147])], [], [], [(20, [0, 1, 2, 14], [60, 2, 1, 505, 146, 147, 143]), (20, [14, 0], [50, 2, 0, 1146, 1147, 2, 6, 0, 2, 0, -1, 1, 0, 0, 6, 4, 2, 1, 0, 0, 1, 6, 3, 2, 1, 146, 2, 1, 147])], [], [(6, 12, 1, 4294967296), (12, 3, -1, -1), (9, 7, -1, -1), (6, 4, 0, 0), (6, 3, -4294967295, -1), (4, 3, -4294967295, -1)])
theorem oo_Mo_stepTo_7 {kA : Nat → ClassId} : or_ok PRD kA GG o_Mo_stepTo_7 := by
  refine or_mk fun A ta ws vs hD hth hl => ?_
  intro t0 r0 t1 k1 t2 k2 t3 k3 t4 k4 t5 k5 t6 k6 t7 k7 t8 k8 t9 k9 t11 k11 t12 k12 t14 k14 d0 d1 d2 d3 d4 d5 f0 f1 f2 f3 f4 f5 f6 f7 f8 f9
  replace f1 := shm_1288 f1
  replace f4 := shm_34 f4
  have g1 : v_iv (n_v vs 3) = w_fi ws (n_v vs 0) 146 := congrArg v_iv f1
  have kz_0_146 := fdq_179 hD hth r0
  have kz_0_147 := fdq_180 hD hth r0
  have nf0 : fc_1 PRD (20, [0, 1, 2, 14], [60, 2, 1, 505, 146, 147, 143]) ws (vs) := ⟨nf_in hl rfl, sgq_1291 (vc_Mo_stepTo_7_0 (v_iv (n_v vs 1)) (v_iv (n_v vs 2)) (v_iv (n_v vs 3)) (v_iv (n_v vs 4)) (v_iv (n_v vs 6)) (v_iv (n_v vs 7)) (v_iv (n_v vs 9)) (v_iv (n_v vs 12)) (v_iv (n_v vs 14)) (w_fi ws (n_v vs 0) 146) (w_fi ws (n_v vs 0) 147) (w_ei ws (w_ar ws (n_v vs 0) 143)) k1 k2 k3 k4 k6 k7 k12 k14 d0 d1 d4 g1 f4 (shm_468 f7) (shm_1289 f8) kz_0_146 kz_0_147)⟩
  have nf1 : fc_1 PRD (20, [14, 0], [50, 2, 0, 1146, 1147, 2, 6, 0, 2, 0, -1, 1, 0, 0, 6, 4, 2, 1, 0, 0, 1, 6, 3, 2, 1, 146, 2, 1, 147]) ws (vs) := ⟨nf_in hl rfl, sgq_1292 (vc_Mo_stepTo_7_1 (v_iv (n_v vs 3)) (v_iv (n_v vs 6)) (v_iv (n_v vs 9)) (v_iv (n_v vs 12)) (v_iv (n_v vs 14)) (w_fi ws (n_v vs 0) 146) (w_fi ws (n_v vs 0) 147) k3 k6 k12 k14 d0 d1 d4 kz_0_146 kz_0_147)⟩
  refine ⟨(fun _ h => (by cases h)), [], trivial, ?_, (fun _ h => (by cases h))⟩
  rw [List.append_nil]
  exact List.forall_mem_cons.mpr ⟨⟨show (20 : Nat) < 100 from by decide, nf0⟩, List.forall_mem_cons.mpr ⟨⟨show (20 : Nat) < 100 from by decide, nf1⟩, (fun _ h => (by cases h))⟩⟩
set_option maxHeartbeats 4000000 in
theorem vc_Mo_stepTo_8_r0 (x3 : Int) (x6 : Int) (x9 : Int) (x15 : Int) (tall_0 : Int) (wide_0 : Int) (k15 : (-3999999) ≤ x15 ∧ x15 ≤ 600000007) (g0 : x15 = tall_0) (f9 : GRX (wide_0) (tall_0)) (kz_0_146 : (-3999999) ≤ wide_0 ∧ wide_0 ≤ 600000023) (kz_0_147 : (-3999999) ≤ tall_0 ∧ tall_0 ≤ 600000007) : 1 ≤ x15 ∧ x15 ≤ 6000 := by
  first
    | (have g := gok_bd ‹GRX _ _›; omega)
def o_Mo_stepTo_8 : or_T := (47, 17, [(0, (2, 0, 0, [165])), (1, (0, 0, 5999, [])), (2, (0, 3, 3, [])), (3, (0, 1, 6000, [])), (4, (0, 0, 5999, [])), (5, (0, 0, 0, [])), (6, (0, 0, 5999, [])), (7, (0, 0, 5999, [])), (8, (0, -1, -1, [])), (9, (0, -1, 5998, [])), (11, (0, 1, 1, [])), (12, (0, 0, 5999, [])), (15, (0, -3999999, 600000007, []))], [(9, [15, 0], [147]), (2, [12, 3, 11], []), (9, [3, 0], [146]), (1, [9, 7, 8], []), (20, [2, 8], [50, 0, 0, 3, 14, 2, 6, 1, 2, 1, 0, 0, 1, 1, 2, 1, 1, 0, 1, 3, 14, 2, 6, 1, 2, 1, 0, 0, 3, 1, 2, 1, 1, 0, -1, 2, 6, 7, 2, 1, 0, 0, 1, 2, 6, 7, 2, 1, 0, 0, 3, 1, 2, 1, 1, 0, 0]), (4, [7, 1, 3], []), (1, [6, 4, 5], []), (20, [2, 5], [50, 0, 0, 3, 14, 2, 6, 1, 2, 1, 0, 0, 0, 1, 2, 1, 1, 0, 1, 3, 14, 2, 6, 1, 2, 1, 0, 0, 2, 1, 2, 1, 1, 0, -1, 2, 6, 7, 2, 1, 0, 0, 0, 2, 6, 7, 2, 1, 0, 0, 2, 1, 2, 1, 1, 0, 0]), (5, [4, 1, 3], []), (20, [0], [60, 2, 0, 494, 146, 147]), (20, [1, 0], [50, 2, 0, 1146, 1147, 2, 6, 0, 2, 0, 0, 1, 0, 0, 6, 4, 2, 1, 0, 0, 1, 6, 3, 2, 1, 146, 2, 1, 147])], [(15, (0, 1, 6000, []))], [], [], [], [(6, 12, -4294967296, 0), (12, 3, -1, -1), (9, 7, -1, -1), (6, 4, 0, 0), (6, 3, -4294967295, -1), (4, 3, -4294967295, -1)])
theorem oo_Mo_stepTo_8 {kA : Nat → ClassId} : or_ok PRD kA GG o_Mo_stepTo_8 := by
  refine or_mk fun A ta ws vs hD hth hl => ?_
  intro t0 r0 t1 k1 t2 k2 t3 k3 t4 k4 t5 k5 t6 k6 t7 k7 t8 k8 t9 k9 t11 k11 t12 k12 t15 k15 d0 d1 d2 d3 d4 d5 f0 f1 f2 f3 f4 f5 f6 f7 f8 f9 f10
  replace f0 := shm_1293 f0
  have g0 : v_iv (n_v vs 15) = w_fi ws (n_v vs 0) 147 := congrArg v_iv f0
  have kz_0_146 := fdq_179 hD hth r0
  have kz_0_147 := fdq_180 hD hth r0
  have hrf0 : 1 ≤ v_iv (n_v vs 15) ∧ v_iv (n_v vs 15) ≤ 6000 := vc_Mo_stepTo_8_r0 (v_iv (n_v vs 3)) (v_iv (n_v vs 6)) (v_iv (n_v vs 9)) (v_iv (n_v vs 15)) (w_fi ws (n_v vs 0) 147) (w_fi ws (n_v vs 0) 146) k15 g0 (shm_1289 f9) kz_0_146 kz_0_147
  have rf15 : tv_ok ta (0, 1, 6000, []) (n_v vs 15) := tv_in t15 (by first | omega | grind) (by first | omega | grind)
  refine ⟨List.forall_mem_cons.mpr ⟨rf15, (fun _ h => (by cases h))⟩, [], trivial, ?_, (fun _ h => (by cases h))⟩
  rw [List.append_nil]
  exact (fun _ h => (by cases h))
set_option maxHeartbeats 4000000 in
theorem vc_Mo_stepTo_9_0 (x1 : Int) (x2 : Int) (x3 : Int) (x4 : Int) (x6 : Int) (x7 : Int) (x9 : Int) (x19 : Int) (tall_0 : Int) (wide_0 : Int) (barredPoint_0 : Int → Int) (k1 : 0 ≤ x1 ∧ x1 ≤ 5999) (k2 : 3 ≤ x2 ∧ x2 ≤ 3) (k3 : 1 ≤ x3 ∧ x3 ≤ 6000) (k4 : 0 ≤ x4 ∧ x4 ≤ 5999) (k6 : 0 ≤ x6 ∧ x6 ≤ 5999) (k7 : 0 ≤ x7 ∧ x7 ≤ 5999) (k9 : (-1) ≤ x9 ∧ x9 ≤ (-1)) (k19 : (-1) ≤ x19 ∧ x19 ≤ (-1)) (d3 : x7 + (-1) ≤ x9 ∧ x9 ≤ x7 + (-1)) (d4 : x4 + 0 ≤ x6 ∧ x6 ≤ x4 + 0) (g3 : x3 = wide_0) (f6 : x7 = Int.tdiv (x1) (x3)) (f9 : x4 = Int.tmod (x1) (x3)) (f10 : GRX (wide_0) (tall_0)) (kz_0_146 : (-3999999) ≤ wide_0 ∧ wide_0 ≤ 600000023) (kz_0_147 : (-3999999) ≤ tall_0 ∧ tall_0 ≤ 600000007) : STQ (wide_0) (tall_0) (barredPoint_0) (x1) (x2) (x19) := by
  have g := gok_bd ‹GRX _ _›
  have e3 : x3 = wide_0 := by assumption
  have tm : x4 = x1 % wide_0 := by rw [← e3, ‹x4 = Int.tmod x1 x3›]; exact Int.tmod_eq_emod_of_nonneg (by omega)
  have td : x7 = x1 / wide_0 := by rw [← e3, ‹x7 = Int.tdiv x1 x3›]; exact Int.tdiv_eq_ediv_of_nonneg (by omega)
  have hx : x6 = x1 % wide_0 + dxf x2 := by rw [← tm]; unfold dxf; split; omega; split <;> omega
  have hy : x9 = x1 / wide_0 + dyf x2 := by rw [← td]; unfold dyf; split; omega; split <;> omega
  first
    | exact stq_none hx hy (by omega) (by omega)
set_option maxHeartbeats 4000000 in
theorem vc_Mo_stepTo_9_1 (x1 : Int) (x3 : Int) (x6 : Int) (x9 : Int) (x15 : Int) (x19 : Int) (tall_0 : Int) (wide_0 : Int) (k1 : 0 ≤ x1 ∧ x1 ≤ 5999) (k3 : 1 ≤ x3 ∧ x3 ≤ 6000) (k19 : (-1) ≤ x19 ∧ x19 ≤ (-1)) (g3 : x3 = wide_0) (f11 : (0 ≤ x1) ∧ ((x1 + 1) ≤ (wide_0 * tall_0))) (kz_0_146 : (-3999999) ≤ wide_0 ∧ wide_0 ≤ 600000023) (kz_0_147 : (-3999999) ≤ tall_0 ∧ tall_0 ≤ 600000007) : ((-1) ≤ x19) ∧ ((x19 + 1) ≤ (wide_0 * tall_0)) := by
  first
    | omega
def o_Mo_stepTo_9 : or_T := (55, 20, [(0, (2, 0, 0, [165])), (1, (0, 0, 5999, [])), (2, (0, 3, 3, [])), (3, (0, 1, 6000, [])), (4, (0, 0, 5999, [])), (5, (0, 0, 0, [])), (6, (0, 0, 5999, [])), (7, (0, 0, 5999, [])), (8, (0, -1, -1, [])), (9, (0, -1, -1, [])), (11, (0, 1, 1, [])), (12, (0, 0, 5999, [])), (15, (0, 1, 6000, [])), (16, (0, 1, 1, [])), (17, (0, 0, 5999, [])), (19, (0, -1, -1, []))], [(2, [17, 15, 16], []), (9, [15, 0], [147]), (2, [12, 3, 11], []), (9, [3, 0], [146]), (1, [9, 7, 8], []), (20, [2, 8], [50, 0, 0, 3, 14, 2, 6, 1, 2, 1, 0, 0, 1, 1, 2, 1, 1, 0, 1, 3, 14, 2, 6, 1, 2, 1, 0, 0, 3, 1, 2, 1, 1, 0, -1, 2, 6, 7, 2, 1, 0, 0, 1, 2, 6, 7, 2, 1, 0, 0, 3, 1, 2, 1, 1, 0, 0]), (4, [7, 1, 3], []), (1, [6, 4, 5], []), (20, [2, 5], [50, 0, 0, 3, 14, 2, 6, 1, 2, 1, 0, 0, 0, 1, 2, 1, 1, 0, 1, 3, 14, 2, 6, 1, 2, 1, 0, 0, 2, 1, 2, 1, 1, 0, -1, 2, 6, 7, 2, 1, 0, 0, 0, 2, 6, 7, 2, 1, 0, 0, 2, 1, 2, 1, 1, 0, 0]), (5, [4, 1, 3], []), (20, [0], [60, 2, 0, 494, 146, 147]), (20, [1, 0], [50, 2, 0, 1146, 1147, 2, 6, 0, 2, 0, 0, 1, 0, 0, 6, 4, 2, 1, 0, 0, 1, 6, 3, 2, 1, 146, 2, 1, 147])], [], [], [(20, [0, 1, 2, 19], [60, 2, 1, 505, 146, 147, 143]), (20, [19, 0], [50, 2, 0, 1146, 1147, 2, 6, 0, 2, 0, -1, 1, 0, 0, 6, 4, 2, 1, 0, 0, 1, 6, 3, 2, 1, 146, 2, 1, 147])], [], [(17, 15, -1, -1), (6, 12, -4294967296, 0), (12, 3, -1, -1), (9, 7, -1, -1), (6, 4, 0, 0), (6, 3, -4294967295, -1), (4, 3, -4294967295, -1)])
theorem oo_Mo_stepTo_9 {kA : Nat → ClassId} : or_ok PRD kA GG o_Mo_stepTo_9 := by
  refine or_mk fun A ta ws vs hD hth hl => ?_
  intro t0 r0 t1 k1 t2 k2 t3 k3 t4 k4 t5 k5 t6 k6 t7 k7 t8 k8 t9 k9 t11 k11 t12 k12 t15 k15 t16 k16 t17 k17 t19 k19 d0 d1 d2 d3 d4 d5 d6 f0 f1 f2 f3 f4 f5 f6 f7 f8 f9 f10 f11
  replace f3 := shm_1288 f3
  replace f6 := shm_34 f6
  have g3 : v_iv (n_v vs 3) = w_fi ws (n_v vs 0) 146 := congrArg v_iv f3
  have kz_0_146 := fdq_179 hD hth r0
  have kz_0_147 := fdq_180 hD hth r0
  have nf0 : fc_1 PRD (20, [0, 1, 2, 19], [60, 2, 1, 505, 146, 147, 143]) ws (vs) := ⟨nf_in hl rfl, sgq_1291 (vc_Mo_stepTo_9_0 (v_iv (n_v vs 1)) (v_iv (n_v vs 2)) (v_iv (n_v vs 3)) (v_iv (n_v vs 4)) (v_iv (n_v vs 6)) (v_iv (n_v vs 7)) (v_iv (n_v vs 9)) (v_iv (n_v vs 19)) (w_fi ws (n_v vs 0) 147) (w_fi ws (n_v vs 0) 146) (w_ei ws (w_ar ws (n_v vs 0) 143)) k1 k2 k3 k4 k6 k7 k9 k19 d3 d4 g3 f6 (shm_468 f9) (shm_1289 f10) kz_0_146 kz_0_147)⟩
  have nf1 : fc_1 PRD (20, [19, 0], [50, 2, 0, 1146, 1147, 2, 6, 0, 2, 0, -1, 1, 0, 0, 6, 4, 2, 1, 0, 0, 1, 6, 3, 2, 1, 146, 2, 1, 147]) ws (vs) := ⟨nf_in hl rfl, sgq_1292 (vc_Mo_stepTo_9_1 (v_iv (n_v vs 1)) (v_iv (n_v vs 3)) (v_iv (n_v vs 6)) (v_iv (n_v vs 9)) (v_iv (n_v vs 15)) (v_iv (n_v vs 19)) (w_fi ws (n_v vs 0) 147) (w_fi ws (n_v vs 0) 146) k1 k3 k19 g3 (shm_1290 f11) kz_0_146 kz_0_147)⟩
  refine ⟨(fun _ h => (by cases h)), [], trivial, ?_, (fun _ h => (by cases h))⟩
  rw [List.append_nil]
  exact List.forall_mem_cons.mpr ⟨⟨show (20 : Nat) < 100 from by decide, nf0⟩, List.forall_mem_cons.mpr ⟨⟨show (20 : Nat) < 100 from by decide, nf1⟩, (fun _ h => (by cases h))⟩⟩
set_option maxHeartbeats 4000000 in
theorem vc_Mo_stepTo_10_0 (x1 : Int) (x2 : Int) (x3 : Int) (x4 : Int) (x6 : Int) (x7 : Int) (x9 : Int) (x15 : Int) (x17 : Int) (x19 : Int) (tall_0 : Int) (wide_0 : Int) (barredPoint_0 : Int → Int) (k1 : 0 ≤ x1 ∧ x1 ≤ 5999) (k2 : 3 ≤ x2 ∧ x2 ≤ 3) (k3 : 1 ≤ x3 ∧ x3 ≤ 6000) (k4 : 0 ≤ x4 ∧ x4 ≤ 5999) (k6 : 0 ≤ x6 ∧ x6 ≤ 5999) (k7 : 0 ≤ x7 ∧ x7 ≤ 5999) (k9 : 1 ≤ x9 ∧ x9 ≤ 5998) (k15 : 1 ≤ x15 ∧ x15 ≤ 6000) (k17 : 0 ≤ x17 ∧ x17 ≤ 5997) (k19 : (-1) ≤ x19 ∧ x19 ≤ (-1)) (d0 : x17 + 1 ≤ x9 ∧ x9 ≤ x17 + 4294967296) (d1 : x15 + (-1) ≤ x17 ∧ x17 ≤ x15 + (-1)) (d4 : x7 + (-1) ≤ x9 ∧ x9 ≤ x7 + (-1)) (d5 : x4 + 0 ≤ x6 ∧ x6 ≤ x4 + 0) (g1 : x15 = tall_0) (g3 : x3 = wide_0) (f6 : x7 = Int.tdiv (x1) (x3)) (f9 : x4 = Int.tmod (x1) (x3)) (f10 : GRX (wide_0) (tall_0)) (kz_0_146 : (-3999999) ≤ wide_0 ∧ wide_0 ≤ 600000023) (kz_0_147 : (-3999999) ≤ tall_0 ∧ tall_0 ≤ 600000007) : STQ (wide_0) (tall_0) (barredPoint_0) (x1) (x2) (x19) := by
  have g := gok_bd ‹GRX _ _›
  have e3 : x3 = wide_0 := by assumption
  have tm : x4 = x1 % wide_0 := by rw [← e3, ‹x4 = Int.tmod x1 x3›]; exact Int.tmod_eq_emod_of_nonneg (by omega)
  have td : x7 = x1 / wide_0 := by rw [← e3, ‹x7 = Int.tdiv x1 x3›]; exact Int.tdiv_eq_ediv_of_nonneg (by omega)
  have hx : x6 = x1 % wide_0 + dxf x2 := by rw [← tm]; unfold dxf; split; omega; split <;> omega
  have hy : x9 = x1 / wide_0 + dyf x2 := by rw [← td]; unfold dyf; split; omega; split <;> omega
  first
    | exact stq_none hx hy (by omega) (by omega)
set_option maxHeartbeats 4000000 in
theorem vc_Mo_stepTo_10_1 (x1 : Int) (x3 : Int) (x6 : Int) (x9 : Int) (x15 : Int) (x19 : Int) (tall_0 : Int) (wide_0 : Int) (k1 : 0 ≤ x1 ∧ x1 ≤ 5999) (k3 : 1 ≤ x3 ∧ x3 ≤ 6000) (k19 : (-1) ≤ x19 ∧ x19 ≤ (-1)) (g3 : x3 = wide_0) (f11 : (0 ≤ x1) ∧ ((x1 + 1) ≤ (wide_0 * tall_0))) (kz_0_146 : (-3999999) ≤ wide_0 ∧ wide_0 ≤ 600000023) (kz_0_147 : (-3999999) ≤ tall_0 ∧ tall_0 ≤ 600000007) : ((-1) ≤ x19) ∧ ((x19 + 1) ≤ (wide_0 * tall_0)) := by
  first
    | omega
def o_Mo_stepTo_10 : or_T := (55, 20, [(0, (2, 0, 0, [165])), (1, (0, 0, 5999, [])), (2, (0, 3, 3, [])), (3, (0, 1, 6000, [])), (4, (0, 0, 5999, [])), (5, (0, 0, 0, [])), (6, (0, 0, 5999, [])), (7, (0, 0, 5999, [])), (8, (0, -1, -1, [])), (9, (0, 1, 5998, [])), (11, (0, 1, 1, [])), (12, (0, 0, 5999, [])), (15, (0, 1, 6000, [])), (16, (0, 1, 1, [])), (17, (0, 0, 5997, [])), (19, (0, -1, -1, []))], [(2, [17, 15, 16], []), (9, [15, 0], [147]), (2, [12, 3, 11], []), (9, [3, 0], [146]), (1, [9, 7, 8], []), (20, [2, 8], [50, 0, 0, 3, 14, 2, 6, 1, 2, 1, 0, 0, 1, 1, 2, 1, 1, 0, 1, 3, 14, 2, 6, 1, 2, 1, 0, 0, 3, 1, 2, 1, 1, 0, -1, 2, 6, 7, 2, 1, 0, 0, 1, 2, 6, 7, 2, 1, 0, 0, 3, 1, 2, 1, 1, 0, 0]), (4, [7, 1, 3], []), (1, [6, 4, 5], []), (20, [2, 5], [50, 0, 0, 3, 14, 2, 6, 1, 2, 1, 0, 0, 0, 1, 2, 1, 1, 0, 1, 3, 14, 2, 6, 1, 2, 1, 0, 0, 2, 1, 2, 1, 1, 0, -1, 2, 6, 7, 2, 1, 0, 0, 0, 2, 6, 7, 2, 1, 0, 0, 2, 1, 2, 1, 1, 0, 0]), (5, [4, 1, 3], []), (20, [0], [60, 2, 0, 494, 146, 147]), (20, [1, 0], [50, 2, 0, 1146, 1147, 2, 6, 0, 2, 0, 0, 1, 0, 0, 6, 4, 2, 1, 0, 0, 1, 6, 3, 2, 1, 146, 2, 1, 147])], [], [], [(20, [0, 1, 2, 19], [60, 2, 1, 505, 146, 147, 143]), (20, [19, 0], [50, 2, 0, 1146, 1147, 2, 6, 0, 2, 0, -1, 1, 0, 0, 6, 4, 2, 1, 0, 0, 1, 6, 3, 2, 1, 146, 2, 1, 147])], [], [(9, 17, 1, 4294967296), (17, 15, -1, -1), (6, 12, -4294967296, 0), (12, 3, -1, -1), (9, 7, -1, -1), (6, 4, 0, 0), (6, 3, -4294967295, -1), (4, 3, -4294967295, -1)])
theorem oo_Mo_stepTo_10 {kA : Nat → ClassId} : or_ok PRD kA GG o_Mo_stepTo_10 := by
  refine or_mk fun A ta ws vs hD hth hl => ?_
  intro t0 r0 t1 k1 t2 k2 t3 k3 t4 k4 t5 k5 t6 k6 t7 k7 t8 k8 t9 k9 t11 k11 t12 k12 t15 k15 t16 k16 t17 k17 t19 k19 d0 d1 d2 d3 d4 d5 d6 d7 f0 f1 f2 f3 f4 f5 f6 f7 f8 f9 f10 f11
  replace f1 := shm_1293 f1
  replace f3 := shm_1288 f3
  replace f6 := shm_34 f6
  have g1 : v_iv (n_v vs 15) = w_fi ws (n_v vs 0) 147 := congrArg v_iv f1
  have g3 : v_iv (n_v vs 3) = w_fi ws (n_v vs 0) 146 := congrArg v_iv f3
  have kz_0_146 := fdq_179 hD hth r0
  have kz_0_147 := fdq_180 hD hth r0
  have nf0 : fc_1 PRD (20, [0, 1, 2, 19], [60, 2, 1, 505, 146, 147, 143]) ws (vs) := ⟨nf_in hl rfl, sgq_1291 (vc_Mo_stepTo_10_0 (v_iv (n_v vs 1)) (v_iv (n_v vs 2)) (v_iv (n_v vs 3)) (v_iv (n_v vs 4)) (v_iv (n_v vs 6)) (v_iv (n_v vs 7)) (v_iv (n_v vs 9)) (v_iv (n_v vs 15)) (v_iv (n_v vs 17)) (v_iv (n_v vs 19)) (w_fi ws (n_v vs 0) 147) (w_fi ws (n_v vs 0) 146) (w_ei ws (w_ar ws (n_v vs 0) 143)) k1 k2 k3 k4 k6 k7 k9 k15 k17 k19 d0 d1 d4 d5 g1 g3 f6 (shm_468 f9) (shm_1289 f10) kz_0_146 kz_0_147)⟩
  have nf1 : fc_1 PRD (20, [19, 0], [50, 2, 0, 1146, 1147, 2, 6, 0, 2, 0, -1, 1, 0, 0, 6, 4, 2, 1, 0, 0, 1, 6, 3, 2, 1, 146, 2, 1, 147]) ws (vs) := ⟨nf_in hl rfl, sgq_1292 (vc_Mo_stepTo_10_1 (v_iv (n_v vs 1)) (v_iv (n_v vs 3)) (v_iv (n_v vs 6)) (v_iv (n_v vs 9)) (v_iv (n_v vs 15)) (v_iv (n_v vs 19)) (w_fi ws (n_v vs 0) 147) (w_fi ws (n_v vs 0) 146) k1 k3 k19 g3 (shm_1290 f11) kz_0_146 kz_0_147)⟩
  refine ⟨(fun _ h => (by cases h)), [], trivial, ?_, (fun _ h => (by cases h))⟩
  rw [List.append_nil]
  exact List.forall_mem_cons.mpr ⟨⟨show (20 : Nat) < 100 from by decide, nf0⟩, List.forall_mem_cons.mpr ⟨⟨show (20 : Nat) < 100 from by decide, nf1⟩, (fun _ h => (by cases h))⟩⟩
set_option maxHeartbeats 4000000 in
theorem vc_Mo_stepTo_11_r0 (x1 : Int) (x3 : Int) (x4 : Int) (x6 : Int) (x7 : Int) (x9 : Int) (x12 : Int) (x15 : Int) (x17 : Int) (x19 : Int) (x20 : Int) (wide_0 : Int) (tall_0 : Int) (k1 : 0 ≤ x1 ∧ x1 ≤ 5999) (k3 : 1 ≤ x3 ∧ x3 ≤ 6000) (k4 : 0 ≤ x4 ∧ x4 ≤ 5999) (k6 : 0 ≤ x6 ∧ x6 ≤ 5999) (k7 : 0 ≤ x7 ∧ x7 ≤ 5999) (k9 : 0 ≤ x9 ∧ x9 ≤ 5998) (k12 : 0 ≤ x12 ∧ x12 ≤ 5999) (k15 : 1 ≤ x15 ∧ x15 ≤ 6000) (k17 : 0 ≤ x17 ∧ x17 ≤ 5999) (k19 : 0 ≤ x19 ∧ x19 ≤ 35988000) (k20 : 0 ≤ x20 ∧ x20 ≤ 35993999) (d5 : x17 + (-4294967296) ≤ x9 ∧ x9 ≤ x17 + 0) (d6 : x15 + (-1) ≤ x17 ∧ x17 ≤ x15 + (-1)) (d7 : x12 + (-4294967296) ≤ x6 ∧ x6 ≤ x12 + 0) (d8 : x3 + (-1) ≤ x12 ∧ x12 ≤ x3 + (-1)) (d9 : x7 + (-1) ≤ x9 ∧ x9 ≤ x7 + (-1)) (d10 : x4 + 0 ≤ x6 ∧ x6 ≤ x4 + 0) (d11 : x3 + (-4294967295) ≤ x6 ∧ x6 ≤ x3 + (-1)) (f0 : x20 = x19 + x6) (f1 : x19 = x9 * x3) (g2 : x3 = wide_0) (g4 : x15 = tall_0) (f8 : x7 = Int.tdiv (x1) (x3)) (f11 : x4 = Int.tmod (x1) (x3)) (f12 : GRX (wide_0) (tall_0)) (f13 : (0 ≤ x1) ∧ ((x1 + 1) ≤ (wide_0 * tall_0))) (kz_0_146 : (-3999999) ≤ wide_0 ∧ wide_0 ≤ 600000023) (kz_0_147 : (-3999999) ≤ tall_0 ∧ tall_0 ≤ 600000007) : 0 ≤ x20 ∧ x20 ≤ 5999 := by
  first
    | (have g := gok_bd ‹GRX _ _›; omega)
    | (have g := gok_bd ‹GRX _ _›
       have c := cell_ix (W := x3) (T := x15) (x := x6) (y := x9) (p := x20) (by omega) (by omega) (by omega) (by omega) (by omega) (by rw [‹x20 = x19 + x6›, ‹x19 = x9 * x3›])
       have e3 : x3 = wide_0 := by assumption
       have e15 : x15 = tall_0 := by assumption
       have g3 := ‹GRX _ _›.2.2
       rw [e3, e15] at c
       omega)
def o_Mo_stepTo_11 : or_T := (73, 22, [(0, (2, 0, 0, [165])), (1, (0, 0, 5999, [])), (2, (0, 3, 3, [])), (3, (0, 1, 6000, [])), (4, (0, 0, 5999, [])), (5, (0, 0, 0, [])), (6, (0, 0, 5999, [])), (7, (0, 0, 5999, [])), (8, (0, -1, -1, [])), (9, (0, 0, 5998, [])), (11, (0, 1, 1, [])), (12, (0, 0, 5999, [])), (15, (0, 1, 6000, [])), (16, (0, 1, 1, [])), (17, (0, 0, 5999, [])), (19, (0, 0, 35988000, [])), (20, (0, 0, 35993999, []))], [(1, [20, 19, 6], []), (3, [19, 9, 3], []), (9, [3, 0], [146]), (2, [17, 15, 16], []), (9, [15, 0], [147]), (2, [12, 3, 11], []), (1, [9, 7, 8], []), (20, [2, 8], [50, 0, 0, 3, 14, 2, 6, 1, 2, 1, 0, 0, 1, 1, 2, 1, 1, 0, 1, 3, 14, 2, 6, 1, 2, 1, 0, 0, 3, 1, 2, 1, 1, 0, -1, 2, 6, 7, 2, 1, 0, 0, 1, 2, 6, 7, 2, 1, 0, 0, 3, 1, 2, 1, 1, 0, 0]), (4, [7, 1, 3], []), (1, [6, 4, 5], []), (20, [2, 5], [50, 0, 0, 3, 14, 2, 6, 1, 2, 1, 0, 0, 0, 1, 2, 1, 1, 0, 1, 3, 14, 2, 6, 1, 2, 1, 0, 0, 2, 1, 2, 1, 1, 0, -1, 2, 6, 7, 2, 1, 0, 0, 0, 2, 6, 7, 2, 1, 0, 0, 2, 1, 2, 1, 1, 0, 0]), (5, [4, 1, 3], []), (20, [0], [60, 2, 0, 494, 146, 147]), (20, [1, 0], [50, 2, 0, 1146, 1147, 2, 6, 0, 2, 0, 0, 1, 0, 0, 6, 4, 2, 1, 0, 0, 1, 6, 3, 2, 1, 146, 2, 1, 147])], [(20, (0, 0, 5999, []))], [], [], [], [(20, 6, 0, 35988000), (20, 12, -4294967296, 35988000), (20, 4, 0, 35988000), (20, 3, -4294967295, 35987999), (20, 19, 0, 5999), (9, 17, -4294967296, 0), (17, 15, -1, -1), (6, 12, -4294967296, 0), (12, 3, -1, -1), (9, 7, -1, -1), (6, 4, 0, 0), (6, 3, -4294967295, -1), (4, 3, -4294967295, -1)])
theorem oo_Mo_stepTo_11 {kA : Nat → ClassId} : or_ok PRD kA GG o_Mo_stepTo_11 := by
  refine or_mk fun A ta ws vs hD hth hl => ?_
  intro t0 r0 t1 k1 t2 k2 t3 k3 t4 k4 t5 k5 t6 k6 t7 k7 t8 k8 t9 k9 t11 k11 t12 k12 t15 k15 t16 k16 t17 k17 t19 k19 t20 k20 d0 d1 d2 d3 d4 d5 d6 d7 d8 d9 d10 d11 d12 f0 f1 f2 f3 f4 f5 f6 f7 f8 f9 f10 f11 f12 f13
  replace f2 := shm_1288 f2
  replace f4 := shm_1293 f4
  replace f8 := shm_34 f8
  have g2 : v_iv (n_v vs 3) = w_fi ws (n_v vs 0) 146 := congrArg v_iv f2
  have g4 : v_iv (n_v vs 15) = w_fi ws (n_v vs 0) 147 := congrArg v_iv f4
  have kz_0_146 := fdq_179 hD hth r0
  have kz_0_147 := fdq_180 hD hth r0
  have hrf0 : 0 ≤ v_iv (n_v vs 20) ∧ v_iv (n_v vs 20) ≤ 5999 := vc_Mo_stepTo_11_r0 (v_iv (n_v vs 1)) (v_iv (n_v vs 3)) (v_iv (n_v vs 4)) (v_iv (n_v vs 6)) (v_iv (n_v vs 7)) (v_iv (n_v vs 9)) (v_iv (n_v vs 12)) (v_iv (n_v vs 15)) (v_iv (n_v vs 17)) (v_iv (n_v vs 19)) (v_iv (n_v vs 20)) (w_fi ws (n_v vs 0) 146) (w_fi ws (n_v vs 0) 147) k1 k3 k4 k6 k7 k9 k12 k15 k17 k19 k20 d5 d6 d7 d8 d9 d10 d11 (shm_12 f0) (shm_38 f1) g2 g4 f8 (shm_468 f11) (shm_1289 f12) (shm_1290 f13) kz_0_146 kz_0_147
  have rf20 : tv_ok ta (0, 0, 5999, []) (n_v vs 20) := tv_in t20 (by first | omega | grind) (by first | omega | grind)
  refine ⟨List.forall_mem_cons.mpr ⟨rf20, (fun _ h => (by cases h))⟩, [], trivial, ?_, (fun _ h => (by cases h))⟩
  rw [List.append_nil]
  exact (fun _ h => (by cases h))
set_option maxHeartbeats 4000000 in
theorem vc_Mo_stepTo_12_0 (x1 : Int) (x2 : Int) (x3 : Int) (x4 : Int) (x6 : Int) (x7 : Int) (x9 : Int) (x12 : Int) (x15 : Int) (x17 : Int) (x19 : Int) (x20 : Int) (x22 : Int) (barredPoint_0 : Int → Int) (wide_0 : Int) (tall_0 : Int) (k1 : 0 ≤ x1 ∧ x1 ≤ 5999) (k2 : 3 ≤ x2 ∧ x2 ≤ 3) (k3 : 1 ≤ x3 ∧ x3 ≤ 6000) (k4 : 0 ≤ x4 ∧ x4 ≤ 5999) (k6 : 0 ≤ x6 ∧ x6 ≤ 5999) (k7 : 0 ≤ x7 ∧ x7 ≤ 5999) (k9 : 0 ≤ x9 ∧ x9 ≤ 5998) (k12 : 0 ≤ x12 ∧ x12 ≤ 5999) (k15 : 1 ≤ x15 ∧ x15 ≤ 6000) (k17 : 0 ≤ x17 ∧ x17 ≤ 5999) (k19 : 0 ≤ x19 ∧ x19 ≤ 35988000) (k20 : 0 ≤ x20 ∧ x20 ≤ 5999) (k22 : 0 ≤ x22 ∧ x22 ≤ 0) (d3 : x17 + (-4294967296) ≤ x9 ∧ x9 ≤ x17 + 0) (d4 : x15 + (-1) ≤ x17 ∧ x17 ≤ x15 + (-1)) (d5 : x12 + (-4294967296) ≤ x6 ∧ x6 ≤ x12 + 0) (d6 : x3 + (-1) ≤ x12 ∧ x12 ≤ x3 + (-1)) (d7 : x7 + (-1) ≤ x9 ∧ x9 ≤ x7 + (-1)) (d8 : x4 + 0 ≤ x6 ∧ x6 ≤ x4 + 0) (d9 : x3 + (-4294967295) ≤ x6 ∧ x6 ≤ x3 + (-1)) (f0 : x22 = 0) (h1 : x22 = barredPoint_0 (x20)) (f3 : x20 = x19 + x6) (f4 : x19 = x9 * x3) (g5 : x3 = wide_0) (g7 : x15 = tall_0) (f11 : x7 = Int.tdiv (x1) (x3)) (f14 : x4 = Int.tmod (x1) (x3)) (f15 : GRX (wide_0) (tall_0)) (kz_0_146 : (-3999999) ≤ wide_0 ∧ wide_0 ≤ 600000023) (kz_0_147 : (-3999999) ≤ tall_0 ∧ tall_0 ≤ 600000007) : STQ (wide_0) (tall_0) (barredPoint_0) (x1) (x2) (x20) := by
  have g := gok_bd ‹GRX _ _›
  have e3 : x3 = wide_0 := by assumption
  have tm : x4 = x1 % wide_0 := by rw [← e3, ‹x4 = Int.tmod x1 x3›]; exact Int.tmod_eq_emod_of_nonneg (by omega)
  have td : x7 = x1 / wide_0 := by rw [← e3, ‹x7 = Int.tdiv x1 x3›]; exact Int.tdiv_eq_ediv_of_nonneg (by omega)
  have hx : x6 = x1 % wide_0 + dxf x2 := by rw [← tm]; unfold dxf; split; omega; split <;> omega
  have hy : x9 = x1 / wide_0 + dyf x2 := by rw [← td]; unfold dyf; split; omega; split <;> omega
  first
    | exact stq_ok (q := x20) (v := x22) (stq_cell (r := x19) hx hy (by omega) (by rw [← e3]; assumption) (by assumption)) (by omega) (by assumption) (by omega) rfl
set_option maxHeartbeats 4000000 in
theorem vc_Mo_stepTo_12_1 (x1 : Int) (x3 : Int) (x4 : Int) (x6 : Int) (x7 : Int) (x9 : Int) (x12 : Int) (x15 : Int) (x17 : Int) (x19 : Int) (x20 : Int) (wide_0 : Int) (tall_0 : Int) (k1 : 0 ≤ x1 ∧ x1 ≤ 5999) (k3 : 1 ≤ x3 ∧ x3 ≤ 6000) (k4 : 0 ≤ x4 ∧ x4 ≤ 5999) (k6 : 0 ≤ x6 ∧ x6 ≤ 5999) (k7 : 0 ≤ x7 ∧ x7 ≤ 5999) (k9 : 0 ≤ x9 ∧ x9 ≤ 5998) (k12 : 0 ≤ x12 ∧ x12 ≤ 5999) (k15 : 1 ≤ x15 ∧ x15 ≤ 6000) (k17 : 0 ≤ x17 ∧ x17 ≤ 5999) (k19 : 0 ≤ x19 ∧ x19 ≤ 35988000) (k20 : 0 ≤ x20 ∧ x20 ≤ 5999) (d3 : x17 + (-4294967296) ≤ x9 ∧ x9 ≤ x17 + 0) (d4 : x15 + (-1) ≤ x17 ∧ x17 ≤ x15 + (-1)) (d5 : x12 + (-4294967296) ≤ x6 ∧ x6 ≤ x12 + 0) (d6 : x3 + (-1) ≤ x12 ∧ x12 ≤ x3 + (-1)) (d7 : x7 + (-1) ≤ x9 ∧ x9 ≤ x7 + (-1)) (d8 : x4 + 0 ≤ x6 ∧ x6 ≤ x4 + 0) (d9 : x3 + (-4294967295) ≤ x6 ∧ x6 ≤ x3 + (-1)) (f3 : x20 = x19 + x6) (f4 : x19 = x9 * x3) (g5 : x3 = wide_0) (g7 : x15 = tall_0) (f11 : x7 = Int.tdiv (x1) (x3)) (f14 : x4 = Int.tmod (x1) (x3)) (f15 : GRX (wide_0) (tall_0)) (kz_0_146 : (-3999999) ≤ wide_0 ∧ wide_0 ≤ 600000023) (kz_0_147 : (-3999999) ≤ tall_0 ∧ tall_0 ≤ 600000007) : ((-1) ≤ x20) ∧ ((x20 + 1) ≤ (wide_0 * tall_0)) := by
  first
    | (have g := gok_bd ‹GRX _ _›; omega)
    | (have g := gok_bd ‹GRX _ _›
       have c := cell_ix (W := x3) (T := x15) (x := x6) (y := x9) (p := x20) (by omega) (by omega) (by omega) (by omega) (by omega) (by rw [‹x20 = x19 + x6›, ‹x19 = x9 * x3›])
       have e3 : x3 = wide_0 := by assumption
       have e15 : x15 = tall_0 := by assumption
       have g3 := ‹GRX _ _›.2.2
       rw [e3, e15] at c
       omega)
def o_Mo_stepTo_12 : or_T := (83, 23, [(0, (2, 0, 0, [165])), (1, (0, 0, 5999, [])), (2, (0, 3, 3, [])), (3, (0, 1, 6000, [])), (4, (0, 0, 5999, [])), (5, (0, 0, 0, [])), (6, (0, 0, 5999, [])), (7, (0, 0, 5999, [])), (8, (0, -1, -1, [])), (9, (0, 0, 5998, [])), (11, (0, 1, 1, [])), (12, (0, 0, 5999, [])), (15, (0, 1, 6000, [])), (16, (0, 1, 1, [])), (17, (0, 0, 5999, [])), (19, (0, 0, 35988000, [])), (20, (0, 0, 5999, [])), (21, (2, 0, 0, [269])), (22, (0, 0, 0, []))], [(8, [22], [0]), (10, [22, 21, 20], []), (9, [21, 0], [143]), (1, [20, 19, 6], []), (3, [19, 9, 3], []), (9, [3, 0], [146]), (2, [17, 15, 16], []), (9, [15, 0], [147]), (2, [12, 3, 11], []), (1, [9, 7, 8], []), (20, [2, 8], [50, 0, 0, 3, 14, 2, 6, 1, 2, 1, 0, 0, 1, 1, 2, 1, 1, 0, 1, 3, 14, 2, 6, 1, 2, 1, 0, 0, 3, 1, 2, 1, 1, 0, -1, 2, 6, 7, 2, 1, 0, 0, 1, 2, 6, 7, 2, 1, 0, 0, 3, 1, 2, 1, 1, 0, 0]), (4, [7, 1, 3], []), (1, [6, 4, 5], []), (20, [2, 5], [50, 0, 0, 3, 14, 2, 6, 1, 2, 1, 0, 0, 0, 1, 2, 1, 1, 0, 1, 3, 14, 2, 6, 1, 2, 1, 0, 0, 2, 1, 2, 1, 1, 0, -1, 2, 6, 7, 2, 1, 0, 0, 0, 2, 6, 7, 2, 1, 0, 0, 2, 1, 2, 1, 1, 0, 0]), (5, [4, 1, 3], []), (20, [0], [60, 2, 0, 494, 146, 147]), (20, [1, 0], [50, 2, 0, 1146, 1147, 2, 6, 0, 2, 0, 0, 1, 0, 0, 6, 4, 2, 1, 0, 0, 1, 6, 3, 2, 1, 146, 2, 1, 147])], [], [], [(20, [0, 1, 2, 20], [60, 2, 1, 505, 146, 147, 143]), (20, [20, 0], [50, 2, 0, 1146, 1147, 2, 6, 0, 2, 0, -1, 1, 0, 0, 6, 4, 2, 1, 0, 0, 1, 6, 3, 2, 1, 146, 2, 1, 147])], [], [(20, 6, 0, 35988000), (20, 4, 0, 35988000), (20, 19, 0, 5999), (9, 17, -4294967296, 0), (17, 15, -1, -1), (6, 12, -4294967296, 0), (12, 3, -1, -1), (9, 7, -1, -1), (6, 4, 0, 0), (6, 3, -4294967295, -1), (4, 3, -4294967295, -1)])
theorem oo_Mo_stepTo_12 {kA : Nat → ClassId} : or_ok PRD kA GG o_Mo_stepTo_12 := by
  refine or_mk fun A ta ws vs hD hth hl => ?_
  intro t0 r0 t1 k1 t2 k2 t3 k3 t4 k4 t5 k5 t6 k6 t7 k7 t8 k8 t9 k9 t11 k11 t12 k12 t15 k15 t16 k16 t17 k17 t19 k19 t20 k20 t21 r21 t22 k22 d0 d1 d2 d3 d4 d5 d6 d7 d8 d9 d10 f0 f1 f2 f3 f4 f5 f6 f7 f8 f9 f10 f11 f12 f13 f14 f15 f16
  replace f1 := shm_107 f1
  replace f2 := shm_1294 f2
  replace f5 := shm_1288 f5
  replace f7 := shm_1293 f7
  replace f11 := shm_34 f11
  have ad_21 : v_ad (n_v vs 21) = w_ar ws (n_v vs 0) 143 := congrArg v_ad f2
  simp only [ad_21] at f1
  have h1 : v_iv (n_v vs 22) = w_ei ws (w_ar ws (n_v vs 0) 143) (v_iv (n_v vs 20)) := f1
  have g5 : v_iv (n_v vs 3) = w_fi ws (n_v vs 0) 146 := congrArg v_iv f5
  have g7 : v_iv (n_v vs 15) = w_fi ws (n_v vs 0) 147 := congrArg v_iv f7
  have kz_0_146 := fdq_179 hD hth r0
  have kz_0_147 := fdq_180 hD hth r0
  have nf0 : fc_1 PRD (20, [0, 1, 2, 20], [60, 2, 1, 505, 146, 147, 143]) ws (vs) := ⟨nf_in hl rfl, sgq_1291 (vc_Mo_stepTo_12_0 (v_iv (n_v vs 1)) (v_iv (n_v vs 2)) (v_iv (n_v vs 3)) (v_iv (n_v vs 4)) (v_iv (n_v vs 6)) (v_iv (n_v vs 7)) (v_iv (n_v vs 9)) (v_iv (n_v vs 12)) (v_iv (n_v vs 15)) (v_iv (n_v vs 17)) (v_iv (n_v vs 19)) (v_iv (n_v vs 20)) (v_iv (n_v vs 22)) (w_ei ws (w_ar ws (n_v vs 0) 143)) (w_fi ws (n_v vs 0) 146) (w_fi ws (n_v vs 0) 147) k1 k2 k3 k4 k6 k7 k9 k12 k15 k17 k19 k20 k22 d3 d4 d5 d6 d7 d8 d9 (shm_192 f0) h1 (shm_12 f3) (shm_38 f4) g5 g7 f11 (shm_468 f14) (shm_1289 f15) kz_0_146 kz_0_147)⟩
  have nf1 : fc_1 PRD (20, [20, 0], [50, 2, 0, 1146, 1147, 2, 6, 0, 2, 0, -1, 1, 0, 0, 6, 4, 2, 1, 0, 0, 1, 6, 3, 2, 1, 146, 2, 1, 147]) ws (vs) := ⟨nf_in hl rfl, sgq_1292 (vc_Mo_stepTo_12_1 (v_iv (n_v vs 1)) (v_iv (n_v vs 3)) (v_iv (n_v vs 4)) (v_iv (n_v vs 6)) (v_iv (n_v vs 7)) (v_iv (n_v vs 9)) (v_iv (n_v vs 12)) (v_iv (n_v vs 15)) (v_iv (n_v vs 17)) (v_iv (n_v vs 19)) (v_iv (n_v vs 20)) (w_fi ws (n_v vs 0) 146) (w_fi ws (n_v vs 0) 147) k1 k3 k4 k6 k7 k9 k12 k15 k17 k19 k20 d3 d4 d5 d6 d7 d8 d9 (shm_12 f3) (shm_38 f4) g5 g7 f11 (shm_468 f14) (shm_1289 f15) kz_0_146 kz_0_147)⟩
  refine ⟨(fun _ h => (by cases h)), [], trivial, ?_, (fun _ h => (by cases h))⟩
  rw [List.append_nil]
  exact List.forall_mem_cons.mpr ⟨⟨show (20 : Nat) < 100 from by decide, nf0⟩, List.forall_mem_cons.mpr ⟨⟨show (20 : Nat) < 100 from by decide, nf1⟩, (fun _ h => (by cases h))⟩⟩
set_option maxHeartbeats 4000000 in
theorem vc_Mo_stepTo_13_0 (x1 : Int) (x2 : Int) (x3 : Int) (x4 : Int) (x6 : Int) (x7 : Int) (x9 : Int) (x12 : Int) (x15 : Int) (x17 : Int) (x19 : Int) (x20 : Int) (x22 : Int) (x23 : Int) (barredPoint_0 : Int → Int) (wide_0 : Int) (tall_0 : Int) (k1 : 0 ≤ x1 ∧ x1 ≤ 5999) (k2 : 3 ≤ x2 ∧ x2 ≤ 3) (k3 : 1 ≤ x3 ∧ x3 ≤ 6000) (k4 : 0 ≤ x4 ∧ x4 ≤ 5999) (k6 : 0 ≤ x6 ∧ x6 ≤ 5999) (k7 : 0 ≤ x7 ∧ x7 ≤ 5999) (k9 : 0 ≤ x9 ∧ x9 ≤ 5998) (k12 : 0 ≤ x12 ∧ x12 ≤ 5999) (k15 : 1 ≤ x15 ∧ x15 ≤ 6000) (k17 : 0 ≤ x17 ∧ x17 ≤ 5999) (k19 : 0 ≤ x19 ∧ x19 ≤ 35988000) (k20 : 0 ≤ x20 ∧ x20 ≤ 5999) (k22 : 1 ≤ x22 ∧ x22 ≤ 1) (k23 : (-1) ≤ x23 ∧ x23 ≤ (-1)) (d3 : x17 + (-4294967296) ≤ x9 ∧ x9 ≤ x17 + 0) (d4 : x15 + (-1) ≤ x17 ∧ x17 ≤ x15 + (-1)) (d5 : x12 + (-4294967296) ≤ x6 ∧ x6 ≤ x12 + 0) (d6 : x3 + (-1) ≤ x12 ∧ x12 ≤ x3 + (-1)) (d7 : x7 + (-1) ≤ x9 ∧ x9 ≤ x7 + (-1)) (d8 : x4 + 0 ≤ x6 ∧ x6 ≤ x4 + 0) (d9 : x3 + (-4294967295) ≤ x6 ∧ x6 ≤ x3 + (-1)) (f0 : x22 ≠ 0) (h1 : x22 = barredPoint_0 (x20)) (f3 : x20 = x19 + x6) (f4 : x19 = x9 * x3) (g5 : x3 = wide_0) (g7 : x15 = tall_0) (f11 : x7 = Int.tdiv (x1) (x3)) (f14 : x4 = Int.tmod (x1) (x3)) (f15 : GRX (wide_0) (tall_0)) (kz_0_146 : (-3999999) ≤ wide_0 ∧ wide_0 ≤ 600000023) (kz_0_147 : (-3999999) ≤ tall_0 ∧ tall_0 ≤ 600000007) : STQ (wide_0) (tall_0) (barredPoint_0) (x1) (x2) (x23) := by
  have g := gok_bd ‹GRX _ _›
  have e3 : x3 = wide_0 := by assumption
  have tm : x4 = x1 % wide_0 := by rw [← e3, ‹x4 = Int.tmod x1 x3›]; exact Int.tmod_eq_emod_of_nonneg (by omega)
  have td : x7 = x1 / wide_0 := by rw [← e3, ‹x7 = Int.tdiv x1 x3›]; exact Int.tdiv_eq_ediv_of_nonneg (by omega)
  have hx : x6 = x1 % wide_0 + dxf x2 := by rw [← tm]; unfold dxf; split; omega; split <;> omega
  have hy : x9 = x1 / wide_0 + dyf x2 := by rw [← td]; unfold dyf; split; omega; split <;> omega
  first
    | exact stq_bar (q := x20) (v := x22) (stq_cell (r := x19) hx hy (by omega) (by rw [← e3]; assumption) (by assumption)) (by assumption) (by omega) (by omega)
set_option maxHeartbeats 4000000 in
theorem vc_Mo_stepTo_13_1 (x1 : Int) (x3 : Int) (x6 : Int) (x9 : Int) (x15 : Int) (x19 : Int) (x20 : Int) (x23 : Int) (wide_0 : Int) (tall_0 : Int) (k1 : 0 ≤ x1 ∧ x1 ≤ 5999) (k23 : (-1) ≤ x23 ∧ x23 ≤ (-1)) (f16 : (0 ≤ x1) ∧ ((x1 + 1) ≤ (wide_0 * tall_0))) (kz_0_146 : (-3999999) ≤ wide_0 ∧ wide_0 ≤ 600000023) (kz_0_147 : (-3999999) ≤ tall_0 ∧ tall_0 ≤ 600000007) : ((-1) ≤ x23) ∧ ((x23 + 1) ≤ (wide_0 * tall_0)) := by
  first
    | omega
def o_Mo_stepTo_13 : or_T := (83, 24, [(0, (2, 0, 0, [165])), (1, (0, 0, 5999, [])), (2, (0, 3, 3, [])), (3, (0, 1, 6000, [])), (4, (0, 0, 5999, [])), (5, (0, 0, 0, [])), (6, (0, 0, 5999, [])), (7, (0, 0, 5999, [])), (8, (0, -1, -1, [])), (9, (0, 0, 5998, [])), (11, (0, 1, 1, [])), (12, (0, 0, 5999, [])), (15, (0, 1, 6000, [])), (16, (0, 1, 1, [])), (17, (0, 0, 5999, [])), (19, (0, 0, 35988000, [])), (20, (0, 0, 5999, [])), (21, (2, 0, 0, [269])), (22, (0, 1, 1, [])), (23, (0, -1, -1, []))], [(8, [22], [1]), (10, [22, 21, 20], []), (9, [21, 0], [143]), (1, [20, 19, 6], []), (3, [19, 9, 3], []), (9, [3, 0], [146]), (2, [17, 15, 16], []), (9, [15, 0], [147]), (2, [12, 3, 11], []), (1, [9, 7, 8], []), (20, [2, 8], [50, 0, 0, 3, 14, 2, 6, 1, 2, 1, 0, 0, 1, 1, 2, 1, 1, 0, 1, 3, 14, 2, 6, 1, 2, 1, 0, 0, 3, 1, 2, 1, 1, 0, -1, 2, 6, 7, 2, 1, 0, 0, 1, 2, 6, 7, 2, 1, 0, 0, 3, 1, 2, 1, 1, 0, 0]), (4, [7, 1, 3], []), (1, [6, 4, 5], []), (20, [2, 5], [50, 0, 0, 3, 14, 2, 6, 1, 2, 1, 0, 0, 0, 1, 2, 1, 1, 0, 1, 3, 14, 2, 6, 1, 2, 1, 0, 0, 2, 1, 2, 1, 1, 0, -1, 2, 6, 7, 2, 1, 0, 0, 0, 2, 6, 7, 2, 1, 0, 0, 2, 1, 2, 1, 1, 0, 0]), (5, [4, 1, 3], []), (20, [0], [60, 2, 0, 494, 146, 147]), (20, [1, 0], [50, 2, 0, 1146, 1147, 2, 6, 0, 2, 0, 0, 1, 0, 0, 6, 4, 2, 1, 0, 0, 1, 6, 3, 2, 1, 146, 2, 1, 147])], [], [], [(20, [0, 1, 2, 23], [60, 2, 1, 505, 146, 147, 143]), (20, [23, 0], [50, 2, 0, 1146, 1147, 2, 6, 0, 2, 0, -1, 1, 0, 0, 6, 4, 2, 1, 0, 0, 1, 6, 3, 2, 1, 146, 2, 1, 147])], [], [(20, 6, 0, 35988000), (20, 4, 0, 35988000), (20, 19, 0, 5999), (9, 17, -4294967296, 0), (17, 15, -1, -1), (6, 12, -4294967296, 0), (12, 3, -1, -1), (9, 7, -1, -1), (6, 4, 0, 0), (6, 3, -4294967295, -1), (4, 3, -4294967295, -1)])
theorem oo_Mo_stepTo_13 {kA : Nat → ClassId} : or_ok PRD kA GG o_Mo_stepTo_13 := by
  refine or_mk fun A ta ws vs hD hth hl => ?_
  intro t0 r0 t1 k1 t2 k2 t3 k3 t4 k4 t5 k5 t6 k6 t7 k7 t8 k8 t9 k9 t11 k11 t12 k12 t15 k15 t16 k16 t17 k17 t19 k19 t20 k20 t21 r21 t22 k22 t23 k23 d0 d1 d2 d3 d4 d5 d6 d7 d8 d9 d10 f0 f1 f2 f3 f4 f5 f6 f7 f8 f9 f10 f11 f12 f13 f14 f15 f16
  replace f1 := shm_107 f1
  replace f2 := shm_1294 f2
  replace f5 := shm_1288 f5
  replace f7 := shm_1293 f7
  replace f11 := shm_34 f11
  have ad_21 : v_ad (n_v vs 21) = w_ar ws (n_v vs 0) 143 := congrArg v_ad f2
  simp only [ad_21] at f1
  have h1 : v_iv (n_v vs 22) = w_ei ws (w_ar ws (n_v vs 0) 143) (v_iv (n_v vs 20)) := f1
  have g5 : v_iv (n_v vs 3) = w_fi ws (n_v vs 0) 146 := congrArg v_iv f5
  have g7 : v_iv (n_v vs 15) = w_fi ws (n_v vs 0) 147 := congrArg v_iv f7
  have kz_0_146 := fdq_179 hD hth r0
  have kz_0_147 := fdq_180 hD hth r0
  have nf0 : fc_1 PRD (20, [0, 1, 2, 23], [60, 2, 1, 505, 146, 147, 143]) ws (vs) := ⟨nf_in hl rfl, sgq_1291 (vc_Mo_stepTo_13_0 (v_iv (n_v vs 1)) (v_iv (n_v vs 2)) (v_iv (n_v vs 3)) (v_iv (n_v vs 4)) (v_iv (n_v vs 6)) (v_iv (n_v vs 7)) (v_iv (n_v vs 9)) (v_iv (n_v vs 12)) (v_iv (n_v vs 15)) (v_iv (n_v vs 17)) (v_iv (n_v vs 19)) (v_iv (n_v vs 20)) (v_iv (n_v vs 22)) (v_iv (n_v vs 23)) (w_ei ws (w_ar ws (n_v vs 0) 143)) (w_fi ws (n_v vs 0) 146) (w_fi ws (n_v vs 0) 147) k1 k2 k3 k4 k6 k7 k9 k12 k15 k17 k19 k20 k22 k23 d3 d4 d5 d6 d7 d8 d9 (shm_142 f0) h1 (shm_12 f3) (shm_38 f4) g5 g7 f11 (shm_468 f14) (shm_1289 f15) kz_0_146 kz_0_147)⟩
  have nf1 : fc_1 PRD (20, [23, 0], [50, 2, 0, 1146, 1147, 2, 6, 0, 2, 0, -1, 1, 0, 0, 6, 4, 2, 1, 0, 0, 1, 6, 3, 2, 1, 146, 2, 1, 147]) ws (vs) := ⟨nf_in hl rfl, sgq_1292 (vc_Mo_stepTo_13_1 (v_iv (n_v vs 1)) (v_iv (n_v vs 3)) (v_iv (n_v vs 6)) (v_iv (n_v vs 9)) (v_iv (n_v vs 15)) (v_iv (n_v vs 19)) (v_iv (n_v vs 20)) (v_iv (n_v vs 23)) (w_fi ws (n_v vs 0) 146) (w_fi ws (n_v vs 0) 147) k1 k23 (shm_1290 f16) kz_0_146 kz_0_147)⟩
  refine ⟨(fun _ h => (by cases h)), [], trivial, ?_, (fun _ h => (by cases h))⟩
  rw [List.append_nil]
  exact List.forall_mem_cons.mpr ⟨⟨show (20 : Nat) < 100 from by decide, nf0⟩, List.forall_mem_cons.mpr ⟨⟨show (20 : Nat) < 100 from by decide, nf1⟩, (fun _ h => (by cases h))⟩⟩
set_option maxHeartbeats 4000000 in
theorem vc_Mo_stepTo_14_0 (x1 : Int) (x2 : Int) (x3 : Int) (x4 : Int) (x6 : Int) (x7 : Int) (x9 : Int) (x12 : Int) (x14 : Int) (wide_0 : Int) (tall_0 : Int) (barredPoint_0 : Int → Int) (k1 : 0 ≤ x1 ∧ x1 ≤ 5999) (k2 : 1 ≤ x2 ∧ x2 ≤ 1) (k3 : 1 ≤ x3 ∧ x3 ≤ 6000) (k4 : 0 ≤ x4 ∧ x4 ≤ 5999) (k6 : 1 ≤ x6 ∧ x6 ≤ 5999) (k7 : 0 ≤ x7 ∧ x7 ≤ 5999) (k12 : 0 ≤ x12 ∧ x12 ≤ 5998) (k14 : (-1) ≤ x14 ∧ x14 ≤ (-1)) (d0 : x12 + 1 ≤ x6 ∧ x6 ≤ x12 + 4294967296) (d1 : x3 + (-1) ≤ x12 ∧ x12 ≤ x3 + (-1)) (d4 : x3 + (-4294967295) ≤ x6 ∧ x6 ≤ x3 + (-1)) (g1 : x3 = wide_0) (f4 : x7 = Int.tdiv (x1) (x3)) (f7 : x4 = Int.tmod (x1) (x3)) (f8 : GRX (wide_0) (tall_0)) (kz_0_146 : (-3999999) ≤ wide_0 ∧ wide_0 ≤ 600000023) (kz_0_147 : (-3999999) ≤ tall_0 ∧ tall_0 ≤ 600000007) : STQ (wide_0) (tall_0) (barredPoint_0) (x1) (x2) (x14) := by
  have g := gok_bd ‹GRX _ _›
  have e3 : x3 = wide_0 := by assumption
  have tm : x4 = x1 % wide_0 := by rw [← e3, ‹x4 = Int.tmod x1 x3›]; exact Int.tmod_eq_emod_of_nonneg (by omega)
  have td : x7 = x1 / wide_0 := by rw [← e3, ‹x7 = Int.tdiv x1 x3›]; exact Int.tdiv_eq_ediv_of_nonneg (by omega)
  have hx : x6 = x1 % wide_0 + dxf x2 := by rw [← tm]; unfold dxf; split; omega; split <;> omega
  have hy : x9 = x1 / wide_0 + dyf x2 := by rw [← td]; unfold dyf; split; omega; split <;> omega
  first
    | exact stq_none hx hy (by omega) (by omega)
set_option maxHeartbeats 4000000 in
theorem vc_Mo_stepTo_14_1 (x3 : Int) (x6 : Int) (x9 : Int) (x12 : Int) (x14 : Int) (wide_0 : Int) (tall_0 : Int) (k3 : 1 ≤ x3 ∧ x3 ≤ 6000) (k6 : 1 ≤ x6 ∧ x6 ≤ 5999) (k12 : 0 ≤ x12 ∧ x12 ≤ 5998) (k14 : (-1) ≤ x14 ∧ x14 ≤ (-1)) (d0 : x12 + 1 ≤ x6 ∧ x6 ≤ x12 + 4294967296) (d1 : x3 + (-1) ≤ x12 ∧ x12 ≤ x3 + (-1)) (d4 : x3 + (-4294967295) ≤ x6 ∧ x6 ≤ x3 + (-1)) (kz_0_146 : (-3999999) ≤ wide_0 ∧ wide_0 ≤ 600000023) (kz_0_147 : (-3999999) ≤ tall_0 ∧ tall_0 ≤ 600000007) : ((-1) ≤ x14) ∧ ((x14 + 1) ≤ (wide_0 * tall_0)) := by
  first
    | omega
def o_Mo_stepTo_14 : or_T := (55, 15, [(0, (2, 0, 0, [165])), (1, (0, 0, 5999, [])), (2, (0, 1, 1, [])), (3, (0, 1, 6000, [])), (4, (0, 0, 5999, [])), (5, (0, 0, 0, [])), (6, (0, 1, 5999, [])), (7, (0, 0, 5999, [])), (8, (0, 1, 1, [])), (9, (0, 1, 6000, [])), (11, (0, 1, 1, [])), (12, (0, 0, 5998, [])), (14, (0, -1, -1, []))], [(2, [12, 3, 11], []), (9, [3, 0], [146]), (1, [9, 7, 8], []), (20, [2, 8], [50, 0, 0, 3, 14, 2, 6, 1, 2, 1, 0, 0, 1, 1, 2, 1, 1, 0, 1, 3, 14, 2, 6, 1, 2, 1, 0, 0, 3, 1, 2, 1, 1, 0, -1, 2, 6, 7, 2, 1, 0, 0, 1, 2, 6, 7, 2, 1, 0, 0, 3, 1, 2, 1, 1, 0, 0]), (4, [7, 1, 3], []), (1, [6, 4, 5], []), (20, [2, 5], [50, 0, 0, 3, 14, 2, 6, 1, 2, 1, 0, 0, 0, 1, 2, 1, 1, 0, 1, 3, 14, 2, 6, 1, 2, 1, 0, 0, 2, 1, 2, 1, 1, 0, -1, 2, 6, 7, 2, 1, 0, 0, 0, 2, 6, 7, 2, 1, 0, 0, 2, 1, 2, 1, 1, 0, 0]), (5, [4, 1, 3], []), (20, [0], [60, 2, 0, 494, 146, 147]), (20, [1, 0], [50, 2, 0, 1146, 1147, 2, 6, 0, 2, 0, 0, 1, 0, 0, 6, 4, 2, 1, 0, 0, 1, 6, 3, 2, 1, 146, 2, 1, 147])], [], [], [(20, [0, 1, 2, 14], [60, 2, 1, 505, 146, 147, 143]), (20, [14, 0], [50, 2, 0, 1146, 1147, 2, 6, 0, 2, 0, -1, 1, 0, 0, 6, 4, 2, 1, 0, 0, 1, 6, 3, 2, 1, 146, 2, 1, 147])], [], [(6, 12, 1, 4294967296), (12, 3, -1, -1), (9, 7, 1, 1), (6, 4, 0, 0), (6, 3, -4294967295, -1), (4, 3, -4294967295, -1)])
theorem oo_Mo_stepTo_14 {kA : Nat → ClassId} : or_ok PRD kA GG o_Mo_stepTo_14 := by
  refine or_mk fun A ta ws vs hD hth hl => ?_
  intro t0 r0 t1 k1 t2 k2 t3 k3 t4 k4 t5 k5 t6 k6 t7 k7 t8 k8 t9 k9 t11 k11 t12 k12 t14 k14 d0 d1 d2 d3 d4 d5 f0 f1 f2 f3 f4 f5 f6 f7 f8 f9
  replace f1 := shm_1288 f1
  replace f4 := shm_34 f4
  have g1 : v_iv (n_v vs 3) = w_fi ws (n_v vs 0) 146 := congrArg v_iv f1
  have kz_0_146 := fdq_179 hD hth r0
  have kz_0_147 := fdq_180 hD hth r0
  have nf0 : fc_1 PRD (20, [0, 1, 2, 14], [60, 2, 1, 505, 146, 147, 143]) ws (vs) := ⟨nf_in hl rfl, sgq_1291 (vc_Mo_stepTo_14_0 (v_iv (n_v vs 1)) (v_iv (n_v vs 2)) (v_iv (n_v vs 3)) (v_iv (n_v vs 4)) (v_iv (n_v vs 6)) (v_iv (n_v vs 7)) (v_iv (n_v vs 9)) (v_iv (n_v vs 12)) (v_iv (n_v vs 14)) (w_fi ws (n_v vs 0) 146) (w_fi ws (n_v vs 0) 147) (w_ei ws (w_ar ws (n_v vs 0) 143)) k1 k2 k3 k4 k6 k7 k12 k14 d0 d1 d4 g1 f4 (shm_468 f7) (shm_1289 f8) kz_0_146 kz_0_147)⟩
  have nf1 : fc_1 PRD (20, [14, 0], [50, 2, 0, 1146, 1147, 2, 6, 0, 2, 0, -1, 1, 0, 0, 6, 4, 2, 1, 0, 0, 1, 6, 3, 2, 1, 146, 2, 1, 147]) ws (vs) := ⟨nf_in hl rfl, sgq_1292 (vc_Mo_stepTo_14_1 (v_iv (n_v vs 3)) (v_iv (n_v vs 6)) (v_iv (n_v vs 9)) (v_iv (n_v vs 12)) (v_iv (n_v vs 14)) (w_fi ws (n_v vs 0) 146) (w_fi ws (n_v vs 0) 147) k3 k6 k12 k14 d0 d1 d4 kz_0_146 kz_0_147)⟩
  refine ⟨(fun _ h => (by cases h)), [], trivial, ?_, (fun _ h => (by cases h))⟩
  rw [List.append_nil]
  exact List.forall_mem_cons.mpr ⟨⟨show (20 : Nat) < 100 from by decide, nf0⟩, List.forall_mem_cons.mpr ⟨⟨show (20 : Nat) < 100 from by decide, nf1⟩, (fun _ h => (by cases h))⟩⟩
set_option maxHeartbeats 4000000 in
theorem vc_Mo_stepTo_15_r0 (x3 : Int) (x6 : Int) (x9 : Int) (x15 : Int) (tall_0 : Int) (wide_0 : Int) (k15 : (-3999999) ≤ x15 ∧ x15 ≤ 600000007) (g0 : x15 = tall_0) (f9 : GRX (wide_0) (tall_0)) (kz_0_146 : (-3999999) ≤ wide_0 ∧ wide_0 ≤ 600000023) (kz_0_147 : (-3999999) ≤ tall_0 ∧ tall_0 ≤ 600000007) : 1 ≤ x15 ∧ x15 ≤ 6000 := by
  first
    | (have g := gok_bd ‹GRX _ _›; omega)
def o_Mo_stepTo_15 : or_T := (47, 17, [(0, (2, 0, 0, [165])), (1, (0, 0, 5999, [])), (2, (0, 1, 1, [])), (3, (0, 1, 6000, [])), (4, (0, 0, 5999, [])), (5, (0, 0, 0, [])), (6, (0, 0, 5999, [])), (7, (0, 0, 5999, [])), (8, (0, 1, 1, [])), (9, (0, 1, 6000, [])), (11, (0, 1, 1, [])), (12, (0, 0, 5999, [])), (15, (0, -3999999, 600000007, []))], [(9, [15, 0], [147]), (2, [12, 3, 11], []), (9, [3, 0], [146]), (1, [9, 7, 8], []), (20, [2, 8], [50, 0, 0, 3, 14, 2, 6, 1, 2, 1, 0, 0, 1, 1, 2, 1, 1, 0, 1, 3, 14, 2, 6, 1, 2, 1, 0, 0, 3, 1, 2, 1, 1, 0, -1, 2, 6, 7, 2, 1, 0, 0, 1, 2, 6, 7, 2, 1, 0, 0, 3, 1, 2, 1, 1, 0, 0]), (4, [7, 1, 3], []), (1, [6, 4, 5], []), (20, [2, 5], [50, 0, 0, 3, 14, 2, 6, 1, 2, 1, 0, 0, 0, 1, 2, 1, 1, 0, 1, 3, 14, 2, 6, 1, 2, 1, 0, 0, 2, 1, 2, 1, 1, 0, -1, 2, 6, 7, 2, 1, 0, 0, 0, 2, 6, 7, 2, 1, 0, 0, 2, 1, 2, 1, 1, 0, 0]), (5, [4, 1, 3], []), (20, [0], [60, 2, 0, 494, 146, 147]), (20, [1, 0], [50, 2, 0, 1146, 1147, 2, 6, 0, 2, 0, 0, 1, 0, 0, 6, 4, 2, 1, 0, 0, 1, 6, 3, 2, 1, 146, 2, 1, 147])], [(15, (0, 1, 6000, []))], [], [], [], [(6, 12, -4294967296, 0), (12, 3, -1, -1), (9, 7, 1, 1), (6, 4, 0, 0), (6, 3, -4294967295, -1), (4, 3, -4294967295, -1)])
theorem oo_Mo_stepTo_15 {kA : Nat → ClassId} : or_ok PRD kA GG o_Mo_stepTo_15 := by
  refine or_mk fun A ta ws vs hD hth hl => ?_
  intro t0 r0 t1 k1 t2 k2 t3 k3 t4 k4 t5 k5 t6 k6 t7 k7 t8 k8 t9 k9 t11 k11 t12 k12 t15 k15 d0 d1 d2 d3 d4 d5 f0 f1 f2 f3 f4 f5 f6 f7 f8 f9 f10
  replace f0 := shm_1293 f0
  have g0 : v_iv (n_v vs 15) = w_fi ws (n_v vs 0) 147 := congrArg v_iv f0
  have kz_0_146 := fdq_179 hD hth r0
  have kz_0_147 := fdq_180 hD hth r0
  have hrf0 : 1 ≤ v_iv (n_v vs 15) ∧ v_iv (n_v vs 15) ≤ 6000 := vc_Mo_stepTo_15_r0 (v_iv (n_v vs 3)) (v_iv (n_v vs 6)) (v_iv (n_v vs 9)) (v_iv (n_v vs 15)) (w_fi ws (n_v vs 0) 147) (w_fi ws (n_v vs 0) 146) k15 g0 (shm_1289 f9) kz_0_146 kz_0_147
  have rf15 : tv_ok ta (0, 1, 6000, []) (n_v vs 15) := tv_in t15 (by first | omega | grind) (by first | omega | grind)
  refine ⟨List.forall_mem_cons.mpr ⟨rf15, (fun _ h => (by cases h))⟩, [], trivial, ?_, (fun _ h => (by cases h))⟩
  rw [List.append_nil]
  exact (fun _ h => (by cases h))
set_option maxHeartbeats 4000000 in
theorem vc_Mo_stepTo_16_0 (x1 : Int) (x2 : Int) (x3 : Int) (x4 : Int) (x6 : Int) (x7 : Int) (x9 : Int) (x15 : Int) (x17 : Int) (x19 : Int) (tall_0 : Int) (wide_0 : Int) (barredPoint_0 : Int → Int) (k1 : 0 ≤ x1 ∧ x1 ≤ 5999) (k2 : 1 ≤ x2 ∧ x2 ≤ 1) (k3 : 1 ≤ x3 ∧ x3 ≤ 6000) (k4 : 0 ≤ x4 ∧ x4 ≤ 5999) (k6 : 0 ≤ x6 ∧ x6 ≤ 5999) (k7 : 0 ≤ x7 ∧ x7 ≤ 5999) (k9 : 1 ≤ x9 ∧ x9 ≤ 6000) (k15 : 1 ≤ x15 ∧ x15 ≤ 6000) (k17 : 0 ≤ x17 ∧ x17 ≤ 5999) (k19 : (-1) ≤ x19 ∧ x19 ≤ (-1)) (d0 : x17 + 1 ≤ x9 ∧ x9 ≤ x17 + 4294967296) (d1 : x15 + (-1) ≤ x17 ∧ x17 ≤ x15 + (-1)) (d4 : x7 + 1 ≤ x9 ∧ x9 ≤ x7 + 1) (d5 : x4 + 0 ≤ x6 ∧ x6 ≤ x4 + 0) (g1 : x15 = tall_0) (g3 : x3 = wide_0) (f6 : x7 = Int.tdiv (x1) (x3)) (f9 : x4 = Int.tmod (x1) (x3)) (f10 : GRX (wide_0) (tall_0)) (kz_0_146 : (-3999999) ≤ wide_0 ∧ wide_0 ≤ 600000023) (kz_0_147 : (-3999999) ≤ tall_0 ∧ tall_0 ≤ 600000007) : STQ (wide_0) (tall_0) (barredPoint_0) (x1) (x2) (x19) := by
  have g := gok_bd ‹GRX _ _›
  have e3 : x3 = wide_0 := by assumption
  have tm : x4 = x1 % wide_0 := by rw [← e3, ‹x4 = Int.tmod x1 x3›]; exact Int.tmod_eq_emod_of_nonneg (by omega)
  have td : x7 = x1 / wide_0 := by rw [← e3, ‹x7 = Int.tdiv x1 x3›]; exact Int.tdiv_eq_ediv_of_nonneg (by omega)
  have hx : x6 = x1 % wide_0 + dxf x2 := by rw [← tm]; unfold dxf; split; omega; split <;> omega
  have hy : x9 = x1 / wide_0 + dyf x2 := by rw [← td]; unfold dyf; split; omega; split <;> omega
  first
    | exact stq_none hx hy (by omega) (by omega)
set_option maxHeartbeats 4000000 in
theorem vc_Mo_stepTo_16_1 (x1 : Int) (x3 : Int) (x6 : Int) (x9 : Int) (x15 : Int) (x19 : Int) (tall_0 : Int) (wide_0 : Int) (k1 : 0 ≤ x1 ∧ x1 ≤ 5999) (k3 : 1 ≤ x3 ∧ x3 ≤ 6000) (k19 : (-1) ≤ x19 ∧ x19 ≤ (-1)) (g3 : x3 = wide_0) (f11 : (0 ≤ x1) ∧ ((x1 + 1) ≤ (wide_0 * tall_0))) (kz_0_146 : (-3999999) ≤ wide_0 ∧ wide_0 ≤ 600000023) (kz_0_147 : (-3999999) ≤ tall_0 ∧ tall_0 ≤ 600000007) : ((-1) ≤ x19) ∧ ((x19 + 1) ≤ (wide_0 * tall_0)) := by
  first
    | omega
def o_Mo_stepTo_16 : or_T := (55, 20, [(0, (2, 0, 0, [165])), (1, (0, 0, 5999, [])), (2, (0, 1, 1, [])), (3, (0, 1, 6000, [])), (4, (0, 0, 5999, [])), (5, (0, 0, 0, [])), (6, (0, 0, 5999, [])), (7, (0, 0, 5999, [])), (8, (0, 1, 1, [])), (9, (0, 1, 6000, [])), (11, (0, 1, 1, [])), (12, (0, 0, 5999, [])), (15, (0, 1, 6000, [])), (16, (0, 1, 1, [])), (17, (0, 0, 5999, [])), (19, (0, -1, -1, []))], [(2, [17, 15, 16], []), (9, [15, 0], [147]), (2, [12, 3, 11], []), (9, [3, 0], [146]), (1, [9, 7, 8], []), (20, [2, 8], [50, 0, 0, 3, 14, 2, 6, 1, 2, 1, 0, 0, 1, 1, 2, 1, 1, 0, 1, 3, 14, 2, 6, 1, 2, 1, 0, 0, 3, 1, 2, 1, 1, 0, -1, 2, 6, 7, 2, 1, 0, 0, 1, 2, 6, 7, 2, 1, 0, 0, 3, 1, 2, 1, 1, 0, 0]), (4, [7, 1, 3], []), (1, [6, 4, 5], []), (20, [2, 5], [50, 0, 0, 3, 14, 2, 6, 1, 2, 1, 0, 0, 0, 1, 2, 1, 1, 0, 1, 3, 14, 2, 6, 1, 2, 1, 0, 0, 2, 1, 2, 1, 1, 0, -1, 2, 6, 7, 2, 1, 0, 0, 0, 2, 6, 7, 2, 1, 0, 0, 2, 1, 2, 1, 1, 0, 0]), (5, [4, 1, 3], []), (20, [0], [60, 2, 0, 494, 146, 147]), (20, [1, 0], [50, 2, 0, 1146, 1147, 2, 6, 0, 2, 0, 0, 1, 0, 0, 6, 4, 2, 1, 0, 0, 1, 6, 3, 2, 1, 146, 2, 1, 147])], [], [], [(20, [0, 1, 2, 19], [60, 2, 1, 505, 146, 147, 143]), (20, [19, 0], [50, 2, 0, 1146, 1147, 2, 6, 0, 2, 0, -1, 1, 0, 0, 6, 4, 2, 1, 0, 0, 1, 6, 3, 2, 1, 146, 2, 1, 147])], [], [(9, 17, 1, 4294967296), (17, 15, -1, -1), (6, 12, -4294967296, 0), (12, 3, -1, -1), (9, 7, 1, 1), (6, 4, 0, 0), (6, 3, -4294967295, -1), (4, 3, -4294967295, -1)])
theorem oo_Mo_stepTo_16 {kA : Nat → ClassId} : or_ok PRD kA GG o_Mo_stepTo_16 := by
  refine or_mk fun A ta ws vs hD hth hl => ?_
  intro t0 r0 t1 k1 t2 k2 t3 k3 t4 k4 t5 k5 t6 k6 t7 k7 t8 k8 t9 k9 t11 k11 t12 k12 t15 k15 t16 k16 t17 k17 t19 k19 d0 d1 d2 d3 d4 d5 d6 d7 f0 f1 f2 f3 f4 f5 f6 f7 f8 f9 f10 f11
  replace f1 := shm_1293 f1
  replace f3 := shm_1288 f3
  replace f6 := shm_34 f6
  have g1 : v_iv (n_v vs 15) = w_fi ws (n_v vs 0) 147 := congrArg v_iv f1
  have g3 : v_iv (n_v vs 3) = w_fi ws (n_v vs 0) 146 := congrArg v_iv f3
  have kz_0_146 := fdq_179 hD hth r0
  have kz_0_147 := fdq_180 hD hth r0
  have nf0 : fc_1 PRD (20, [0, 1, 2, 19], [60, 2, 1, 505, 146, 147, 143]) ws (vs) := ⟨nf_in hl rfl, sgq_1291 (vc_Mo_stepTo_16_0 (v_iv (n_v vs 1)) (v_iv (n_v vs 2)) (v_iv (n_v vs 3)) (v_iv (n_v vs 4)) (v_iv (n_v vs 6)) (v_iv (n_v vs 7)) (v_iv (n_v vs 9)) (v_iv (n_v vs 15)) (v_iv (n_v vs 17)) (v_iv (n_v vs 19)) (w_fi ws (n_v vs 0) 147) (w_fi ws (n_v vs 0) 146) (w_ei ws (w_ar ws (n_v vs 0) 143)) k1 k2 k3 k4 k6 k7 k9 k15 k17 k19 d0 d1 d4 d5 g1 g3 f6 (shm_468 f9) (shm_1289 f10) kz_0_146 kz_0_147)⟩
  have nf1 : fc_1 PRD (20, [19, 0], [50, 2, 0, 1146, 1147, 2, 6, 0, 2, 0, -1, 1, 0, 0, 6, 4, 2, 1, 0, 0, 1, 6, 3, 2, 1, 146, 2, 1, 147]) ws (vs) := ⟨nf_in hl rfl, sgq_1292 (vc_Mo_stepTo_16_1 (v_iv (n_v vs 1)) (v_iv (n_v vs 3)) (v_iv (n_v vs 6)) (v_iv (n_v vs 9)) (v_iv (n_v vs 15)) (v_iv (n_v vs 19)) (w_fi ws (n_v vs 0) 147) (w_fi ws (n_v vs 0) 146) k1 k3 k19 g3 (shm_1290 f11) kz_0_146 kz_0_147)⟩
  refine ⟨(fun _ h => (by cases h)), [], trivial, ?_, (fun _ h => (by cases h))⟩
  rw [List.append_nil]
  exact List.forall_mem_cons.mpr ⟨⟨show (20 : Nat) < 100 from by decide, nf0⟩, List.forall_mem_cons.mpr ⟨⟨show (20 : Nat) < 100 from by decide, nf1⟩, (fun _ h => (by cases h))⟩⟩
set_option maxHeartbeats 4000000 in
theorem vc_Mo_stepTo_17_r0 (x1 : Int) (x3 : Int) (x4 : Int) (x6 : Int) (x7 : Int) (x9 : Int) (x12 : Int) (x15 : Int) (x17 : Int) (x19 : Int) (x20 : Int) (wide_0 : Int) (tall_0 : Int) (k1 : 0 ≤ x1 ∧ x1 ≤ 5999) (k3 : 1 ≤ x3 ∧ x3 ≤ 6000) (k4 : 0 ≤ x4 ∧ x4 ≤ 5999) (k6 : 0 ≤ x6 ∧ x6 ≤ 5999) (k7 : 0 ≤ x7 ∧ x7 ≤ 5999) (k9 : 1 ≤ x9 ∧ x9 ≤ 5999) (k12 : 0 ≤ x12 ∧ x12 ≤ 5999) (k15 : 1 ≤ x15 ∧ x15 ≤ 6000) (k17 : 1 ≤ x17 ∧ x17 ≤ 5999) (k19 : 1 ≤ x19 ∧ x19 ≤ 35994000) (k20 : 1 ≤ x20 ∧ x20 ≤ 35999999) (d5 : x17 + (-4294967296) ≤ x9 ∧ x9 ≤ x17 + 0) (d6 : x15 + (-1) ≤ x17 ∧ x17 ≤ x15 + (-1)) (d7 : x12 + (-4294967296) ≤ x6 ∧ x6 ≤ x12 + 0) (d8 : x3 + (-1) ≤ x12 ∧ x12 ≤ x3 + (-1)) (d9 : x7 + 1 ≤ x9 ∧ x9 ≤ x7 + 1) (d10 : x4 + 0 ≤ x6 ∧ x6 ≤ x4 + 0) (d11 : x3 + (-4294967295) ≤ x6 ∧ x6 ≤ x3 + (-1)) (f0 : x20 = x19 + x6) (f1 : x19 = x9 * x3) (g2 : x3 = wide_0) (g4 : x15 = tall_0) (f8 : x7 = Int.tdiv (x1) (x3)) (f11 : x4 = Int.tmod (x1) (x3)) (f12 : GRX (wide_0) (tall_0)) (f13 : (0 ≤ x1) ∧ ((x1 + 1) ≤ (wide_0 * tall_0))) (kz_0_146 : (-3999999) ≤ wide_0 ∧ wide_0 ≤ 600000023) (kz_0_147 : (-3999999) ≤ tall_0 ∧ tall_0 ≤ 600000007) : 1 ≤ x20 ∧ x20 ≤ 5999 := by
  first
    | (have g := gok_bd ‹GRX _ _›; omega)
    | (have g := gok_bd ‹GRX _ _›
       have c := cell_ix (W := x3) (T := x15) (x := x6) (y := x9) (p := x20) (by omega) (by omega) (by omega) (by omega) (by omega) (by rw [‹x20 = x19 + x6›, ‹x19 = x9 * x3›])
       have e3 : x3 = wide_0 := by assumption
       have e15 : x15 = tall_0 := by assumption
       have g3 := ‹GRX _ _›.2.2
       rw [e3, e15] at c
       omega)
def o_Mo_stepTo_17 : or_T := (73, 22, [(0, (2, 0, 0, [165])), (1, (0, 0, 5999, [])), (2, (0, 1, 1, [])), (3, (0, 1, 6000, [])), (4, (0, 0, 5999, [])), (5, (0, 0, 0, [])), (6, (0, 0, 5999, [])), (7, (0, 0, 5999, [])), (8, (0, 1, 1, [])), (9, (0, 1, 5999, [])), (11, (0, 1, 1, [])), (12, (0, 0, 5999, [])), (15, (0, 1, 6000, [])), (16, (0, 1, 1, [])), (17, (0, 1, 5999, [])), (19, (0, 1, 35994000, [])), (20, (0, 1, 35999999, []))], [(1, [20, 19, 6], []), (3, [19, 9, 3], []), (9, [3, 0], [146]), (2, [17, 15, 16], []), (9, [15, 0], [147]), (2, [12, 3, 11], []), (1, [9, 7, 8], []), (20, [2, 8], [50, 0, 0, 3, 14, 2, 6, 1, 2, 1, 0, 0, 1, 1, 2, 1, 1, 0, 1, 3, 14, 2, 6, 1, 2, 1, 0, 0, 3, 1, 2, 1, 1, 0, -1, 2, 6, 7, 2, 1, 0, 0, 1, 2, 6, 7, 2, 1, 0, 0, 3, 1, 2, 1, 1, 0, 0]), (4, [7, 1, 3], []), (1, [6, 4, 5], []), (20, [2, 5], [50, 0, 0, 3, 14, 2, 6, 1, 2, 1, 0, 0, 0, 1, 2, 1, 1, 0, 1, 3, 14, 2, 6, 1, 2, 1, 0, 0, 2, 1, 2, 1, 1, 0, -1, 2, 6, 7, 2, 1, 0, 0, 0, 2, 6, 7, 2, 1, 0, 0, 2, 1, 2, 1, 1, 0, 0]), (5, [4, 1, 3], []), (20, [0], [60, 2, 0, 494, 146, 147]), (20, [1, 0], [50, 2, 0, 1146, 1147, 2, 6, 0, 2, 0, 0, 1, 0, 0, 6, 4, 2, 1, 0, 0, 1, 6, 3, 2, 1, 146, 2, 1, 147])], [(20, (0, 1, 5999, []))], [], [], [], [(20, 6, 1, 35994000), (20, 12, -4294967296, 35994000), (20, 4, 1, 35994000), (20, 3, -4294967294, 35993999), (20, 19, 0, 5999), (9, 17, -4294967296, 0), (17, 15, -1, -1), (6, 12, -4294967296, 0), (12, 3, -1, -1), (9, 7, 1, 1), (6, 4, 0, 0), (6, 3, -4294967295, -1), (4, 3, -4294967295, -1)])
theorem oo_Mo_stepTo_17 {kA : Nat → ClassId} : or_ok PRD kA GG o_Mo_stepTo_17 := by
  refine or_mk fun A ta ws vs hD hth hl => ?_
  intro t0 r0 t1 k1 t2 k2 t3 k3 t4 k4 t5 k5 t6 k6 t7 k7 t8 k8 t9 k9 t11 k11 t12 k12 t15 k15 t16 k16 t17 k17 t19 k19 t20 k20 d0 d1 d2 d3 d4 d5 d6 d7 d8 d9 d10 d11 d12 f0 f1 f2 f3 f4 f5 f6 f7 f8 f9 f10 f11 f12 f13
  replace f2 := shm_1288 f2
  replace f4 := shm_1293 f4
  replace f8 := shm_34 f8
  have g2 : v_iv (n_v vs 3) = w_fi ws (n_v vs 0) 146 := congrArg v_iv f2
  have g4 : v_iv (n_v vs 15) = w_fi ws (n_v vs 0) 147 := congrArg v_iv f4
  have kz_0_146 := fdq_179 hD hth r0
  have kz_0_147 := fdq_180 hD hth r0
  have hrf0 : 1 ≤ v_iv (n_v vs 20) ∧ v_iv (n_v vs 20) ≤ 5999 := vc_Mo_stepTo_17_r0 (v_iv (n_v vs 1)) (v_iv (n_v vs 3)) (v_iv (n_v vs 4)) (v_iv (n_v vs 6)) (v_iv (n_v vs 7)) (v_iv (n_v vs 9)) (v_iv (n_v vs 12)) (v_iv (n_v vs 15)) (v_iv (n_v vs 17)) (v_iv (n_v vs 19)) (v_iv (n_v vs 20)) (w_fi ws (n_v vs 0) 146) (w_fi ws (n_v vs 0) 147) k1 k3 k4 k6 k7 k9 k12 k15 k17 k19 k20 d5 d6 d7 d8 d9 d10 d11 (shm_12 f0) (shm_38 f1) g2 g4 f8 (shm_468 f11) (shm_1289 f12) (shm_1290 f13) kz_0_146 kz_0_147
  have rf20 : tv_ok ta (0, 1, 5999, []) (n_v vs 20) := tv_in t20 (by first | omega | grind) (by first | omega | grind)
  refine ⟨List.forall_mem_cons.mpr ⟨rf20, (fun _ h => (by cases h))⟩, [], trivial, ?_, (fun _ h => (by cases h))⟩
  rw [List.append_nil]
  exact (fun _ h => (by cases h))
set_option maxHeartbeats 4000000 in
theorem vc_Mo_stepTo_18_0 (x1 : Int) (x2 : Int) (x3 : Int) (x4 : Int) (x6 : Int) (x7 : Int) (x9 : Int) (x12 : Int) (x15 : Int) (x17 : Int) (x19 : Int) (x20 : Int) (x22 : Int) (barredPoint_0 : Int → Int) (wide_0 : Int) (tall_0 : Int) (k1 : 0 ≤ x1 ∧ x1 ≤ 5999) (k2 : 1 ≤ x2 ∧ x2 ≤ 1) (k3 : 1 ≤ x3 ∧ x3 ≤ 6000) (k4 : 0 ≤ x4 ∧ x4 ≤ 5999) (k6 : 0 ≤ x6 ∧ x6 ≤ 5999) (k7 : 0 ≤ x7 ∧ x7 ≤ 5999) (k9 : 1 ≤ x9 ∧ x9 ≤ 5999) (k12 : 0 ≤ x12 ∧ x12 ≤ 5999) (k15 : 1 ≤ x15 ∧ x15 ≤ 6000) (k17 : 1 ≤ x17 ∧ x17 ≤ 5999) (k19 : 1 ≤ x19 ∧ x19 ≤ 35994000) (k20 : 1 ≤ x20 ∧ x20 ≤ 5999) (k22 : 0 ≤ x22 ∧ x22 ≤ 0) (d3 : x17 + (-4294967296) ≤ x9 ∧ x9 ≤ x17 + 0) (d4 : x15 + (-1) ≤ x17 ∧ x17 ≤ x15 + (-1)) (d5 : x12 + (-4294967296) ≤ x6 ∧ x6 ≤ x12 + 0) (d6 : x3 + (-1) ≤ x12 ∧ x12 ≤ x3 + (-1)) (d7 : x7 + 1 ≤ x9 ∧ x9 ≤ x7 + 1) (d8 : x4 + 0 ≤ x6 ∧ x6 ≤ x4 + 0) (d9 : x3 + (-4294967295) ≤ x6 ∧ x6 ≤ x3 + (-1)) (f0 : x22 = 0) (h1 : x22 = barredPoint_0 (x20)) (f3 : x20 = x19 + x6) (f4 : x19 = x9 * x3) (g5 : x3 = wide_0) (g7 : x15 = tall_0) (f11 : x7 = Int.tdiv (x1) (x3)) (f14 : x4 = Int.tmod (x1) (x3)) (f15 : GRX (wide_0) (tall_0)) (kz_0_146 : (-3999999) ≤ wide_0 ∧ wide_0 ≤ 600000023) (kz_0_147 : (-3999999) ≤ tall_0 ∧ tall_0 ≤ 600000007) : STQ (wide_0) (tall_0) (barredPoint_0) (x1) (x2) (x20) := by
  have g := gok_bd ‹GRX _ _›
  have e3 : x3 = wide_0 := by assumption
  have tm : x4 = x1 % wide_0 := by rw [← e3, ‹x4 = Int.tmod x1 x3›]; exact Int.tmod_eq_emod_of_nonneg (by omega)
  have td : x7 = x1 / wide_0 := by rw [← e3, ‹x7 = Int.tdiv x1 x3›]; exact Int.tdiv_eq_ediv_of_nonneg (by omega)
  have hx : x6 = x1 % wide_0 + dxf x2 := by rw [← tm]; unfold dxf; split; omega; split <;> omega
  have hy : x9 = x1 / wide_0 + dyf x2 := by rw [← td]; unfold dyf; split; omega; split <;> omega
  first
    | exact stq_ok (q := x20) (v := x22) (stq_cell (r := x19) hx hy (by omega) (by rw [← e3]; assumption) (by assumption)) (by omega) (by assumption) (by omega) rfl
set_option maxHeartbeats 4000000 in
theorem vc_Mo_stepTo_18_1 (x1 : Int) (x3 : Int) (x4 : Int) (x6 : Int) (x7 : Int) (x9 : Int) (x12 : Int) (x15 : Int) (x17 : Int) (x19 : Int) (x20 : Int) (wide_0 : Int) (tall_0 : Int) (k1 : 0 ≤ x1 ∧ x1 ≤ 5999) (k3 : 1 ≤ x3 ∧ x3 ≤ 6000) (k4 : 0 ≤ x4 ∧ x4 ≤ 5999) (k6 : 0 ≤ x6 ∧ x6 ≤ 5999) (k7 : 0 ≤ x7 ∧ x7 ≤ 5999) (k9 : 1 ≤ x9 ∧ x9 ≤ 5999) (k12 : 0 ≤ x12 ∧ x12 ≤ 5999) (k15 : 1 ≤ x15 ∧ x15 ≤ 6000) (k17 : 1 ≤ x17 ∧ x17 ≤ 5999) (k19 : 1 ≤ x19 ∧ x19 ≤ 35994000) (k20 : 1 ≤ x20 ∧ x20 ≤ 5999) (d3 : x17 + (-4294967296) ≤ x9 ∧ x9 ≤ x17 + 0) (d4 : x15 + (-1) ≤ x17 ∧ x17 ≤ x15 + (-1)) (d5 : x12 + (-4294967296) ≤ x6 ∧ x6 ≤ x12 + 0) (d6 : x3 + (-1) ≤ x12 ∧ x12 ≤ x3 + (-1)) (d7 : x7 + 1 ≤ x9 ∧ x9 ≤ x7 + 1) (d8 : x4 + 0 ≤ x6 ∧ x6 ≤ x4 + 0) (d9 : x3 + (-4294967295) ≤ x6 ∧ x6 ≤ x3 + (-1)) (f3 : x20 = x19 + x6) (f4 : x19 = x9 * x3) (g5 : x3 = wide_0) (g7 : x15 = tall_0) (f11 : x7 = Int.tdiv (x1) (x3)) (f14 : x4 = Int.tmod (x1) (x3)) (f15 : GRX (wide_0) (tall_0)) (kz_0_146 : (-3999999) ≤ wide_0 ∧ wide_0 ≤ 600000023) (kz_0_147 : (-3999999) ≤ tall_0 ∧ tall_0 ≤ 600000007) : ((-1) ≤ x20) ∧ ((x20 + 1) ≤ (wide_0 * tall_0)) := by
  first
    | (have g := gok_bd ‹GRX _ _›; omega)
    | (have g := gok_bd ‹GRX _ _›
       have c := cell_ix (W := x3) (T := x15) (x := x6) (y := x9) (p := x20) (by omega) (by omega) (by omega) (by omega) (by omega) (by rw [‹x20 = x19 + x6›, ‹x19 = x9 * x3›])
       have e3 : x3 = wide_0 := by assumption
       have e15 : x15 = tall_0 := by assumption
       have g3 := ‹GRX _ _›.2.2
       rw [e3, e15] at c
       omega)
def o_Mo_stepTo_18 : or_T := (83, 23, [(0, (2, 0, 0, [165])), (1, (0, 0, 5999, [])), (2, (0, 1, 1, [])), (3, (0, 1, 6000, [])), (4, (0, 0, 5999, [])), (5, (0, 0, 0, [])), (6, (0, 0, 5999, [])), (7, (0, 0, 5999, [])), (8, (0, 1, 1, [])), (9, (0, 1, 5999, [])), (11, (0, 1, 1, [])), (12, (0, 0, 5999, [])), (15, (0, 1, 6000, [])), (16, (0, 1, 1, [])), (17, (0, 1, 5999, [])), (19, (0, 1, 35994000, [])), (20, (0, 1, 5999, [])), (21, (2, 0, 0, [269])), (22, (0, 0, 0, []))], [(8, [22], [0]), (10, [22, 21, 20], []), (9, [21, 0], [143]), (1, [20, 19, 6], []), (3, [19, 9, 3], []), (9, [3, 0], [146]), (2, [17, 15, 16], []), (9, [15, 0], [147]), (2, [12, 3, 11], []), (1, [9, 7, 8], []), (20, [2, 8], [50, 0, 0, 3, 14, 2, 6, 1, 2, 1, 0, 0, 1, 1, 2, 1, 1, 0, 1, 3, 14, 2, 6, 1, 2, 1, 0, 0, 3, 1, 2, 1, 1, 0, -1, 2, 6, 7, 2, 1, 0, 0, 1, 2, 6, 7, 2, 1, 0, 0, 3, 1, 2, 1, 1, 0, 0]), (4, [7, 1, 3], []), (1, [6, 4, 5], []), (20, [2, 5], [50, 0, 0, 3, 14, 2, 6, 1, 2, 1, 0, 0, 0, 1, 2, 1, 1, 0, 1, 3, 14, 2, 6, 1, 2, 1, 0, 0, 2, 1, 2, 1, 1, 0, -1, 2, 6, 7, 2, 1, 0, 0, 0, 2, 6, 7, 2, 1, 0, 0, 2, 1, 2, 1, 1, 0, 0]), (5, [4, 1, 3], []), (20, [0], [60, 2, 0, 494, 146, 147]), (20, [1, 0], [50, 2, 0, 1146, 1147, 2, 6, 0, 2, 0, 0, 1, 0, 0, 6, 4, 2, 1, 0, 0, 1, 6, 3, 2, 1, 146, 2, 1, 147])], [], [], [(20, [0, 1, 2, 20], [60, 2, 1, 505, 146, 147, 143]), (20, [20, 0], [50, 2, 0, 1146, 1147, 2, 6, 0, 2, 0, -1, 1, 0, 0, 6, 4, 2, 1, 0, 0, 1, 6, 3, 2, 1, 146, 2, 1, 147])], [], [(20, 6, 1, 35994000), (20, 4, 1, 35994000), (20, 19, 0, 5999), (9, 17, -4294967296, 0), (17, 15, -1, -1), (6, 12, -4294967296, 0), (12, 3, -1, -1), (9, 7, 1, 1), (6, 4, 0, 0), (6, 3, -4294967295, -1), (4, 3, -4294967295, -1)])
theorem oo_Mo_stepTo_18 {kA : Nat → ClassId} : or_ok PRD kA GG o_Mo_stepTo_18 := by
  refine or_mk fun A ta ws vs hD hth hl => ?_
  intro t0 r0 t1 k1 t2 k2 t3 k3 t4 k4 t5 k5 t6 k6 t7 k7 t8 k8 t9 k9 t11 k11 t12 k12 t15 k15 t16 k16 t17 k17 t19 k19 t20 k20 t21 r21 t22 k22 d0 d1 d2 d3 d4 d5 d6 d7 d8 d9 d10 f0 f1 f2 f3 f4 f5 f6 f7 f8 f9 f10 f11 f12 f13 f14 f15 f16
  replace f1 := shm_107 f1
  replace f2 := shm_1294 f2
  replace f5 := shm_1288 f5
  replace f7 := shm_1293 f7
  replace f11 := shm_34 f11
  have ad_21 : v_ad (n_v vs 21) = w_ar ws (n_v vs 0) 143 := congrArg v_ad f2
  simp only [ad_21] at f1
  have h1 : v_iv (n_v vs 22) = w_ei ws (w_ar ws (n_v vs 0) 143) (v_iv (n_v vs 20)) := f1
  have g5 : v_iv (n_v vs 3) = w_fi ws (n_v vs 0) 146 := congrArg v_iv f5
  have g7 : v_iv (n_v vs 15) = w_fi ws (n_v vs 0) 147 := congrArg v_iv f7
  have kz_0_146 := fdq_179 hD hth r0
  have kz_0_147 := fdq_180 hD hth r0
  have nf0 : fc_1 PRD (20, [0, 1, 2, 20], [60, 2, 1, 505, 146, 147, 143]) ws (vs) := ⟨nf_in hl rfl, sgq_1291 (vc_Mo_stepTo_18_0 (v_iv (n_v vs 1)) (v_iv (n_v vs 2)) (v_iv (n_v vs 3)) (v_iv (n_v vs 4)) (v_iv (n_v vs 6)) (v_iv (n_v vs 7)) (v_iv (n_v vs 9)) (v_iv (n_v vs 12)) (v_iv (n_v vs 15)) (v_iv (n_v vs 17)) (v_iv (n_v vs 19)) (v_iv (n_v vs 20)) (v_iv (n_v vs 22)) (w_ei ws (w_ar ws (n_v vs 0) 143)) (w_fi ws (n_v vs 0) 146) (w_fi ws (n_v vs 0) 147) k1 k2 k3 k4 k6 k7 k9 k12 k15 k17 k19 k20 k22 d3 d4 d5 d6 d7 d8 d9 (shm_192 f0) h1 (shm_12 f3) (shm_38 f4) g5 g7 f11 (shm_468 f14) (shm_1289 f15) kz_0_146 kz_0_147)⟩
  have nf1 : fc_1 PRD (20, [20, 0], [50, 2, 0, 1146, 1147, 2, 6, 0, 2, 0, -1, 1, 0, 0, 6, 4, 2, 1, 0, 0, 1, 6, 3, 2, 1, 146, 2, 1, 147]) ws (vs) := ⟨nf_in hl rfl, sgq_1292 (vc_Mo_stepTo_18_1 (v_iv (n_v vs 1)) (v_iv (n_v vs 3)) (v_iv (n_v vs 4)) (v_iv (n_v vs 6)) (v_iv (n_v vs 7)) (v_iv (n_v vs 9)) (v_iv (n_v vs 12)) (v_iv (n_v vs 15)) (v_iv (n_v vs 17)) (v_iv (n_v vs 19)) (v_iv (n_v vs 20)) (w_fi ws (n_v vs 0) 146) (w_fi ws (n_v vs 0) 147) k1 k3 k4 k6 k7 k9 k12 k15 k17 k19 k20 d3 d4 d5 d6 d7 d8 d9 (shm_12 f3) (shm_38 f4) g5 g7 f11 (shm_468 f14) (shm_1289 f15) kz_0_146 kz_0_147)⟩
  refine ⟨(fun _ h => (by cases h)), [], trivial, ?_, (fun _ h => (by cases h))⟩
  rw [List.append_nil]
  exact List.forall_mem_cons.mpr ⟨⟨show (20 : Nat) < 100 from by decide, nf0⟩, List.forall_mem_cons.mpr ⟨⟨show (20 : Nat) < 100 from by decide, nf1⟩, (fun _ h => (by cases h))⟩⟩
set_option maxHeartbeats 4000000 in
theorem vc_Mo_stepTo_19_0 (x1 : Int) (x2 : Int) (x3 : Int) (x4 : Int) (x6 : Int) (x7 : Int) (x9 : Int) (x12 : Int) (x15 : Int) (x17 : Int) (x19 : Int) (x20 : Int) (x22 : Int) (x23 : Int) (barredPoint_0 : Int → Int) (wide_0 : Int) (tall_0 : Int) (k1 : 0 ≤ x1 ∧ x1 ≤ 5999) (k2 : 1 ≤ x2 ∧ x2 ≤ 1) (k3 : 1 ≤ x3 ∧ x3 ≤ 6000) (k4 : 0 ≤ x4 ∧ x4 ≤ 5999) (k6 : 0 ≤ x6 ∧ x6 ≤ 5999) (k7 : 0 ≤ x7 ∧ x7 ≤ 5999) (k9 : 1 ≤ x9 ∧ x9 ≤ 5999) (k12 : 0 ≤ x12 ∧ x12 ≤ 5999) (k15 : 1 ≤ x15 ∧ x15 ≤ 6000) (k17 : 1 ≤ x17 ∧ x17 ≤ 5999) (k19 : 1 ≤ x19 ∧ x19 ≤ 35994000) (k20 : 1 ≤ x20 ∧ x20 ≤ 5999) (k22 : 1 ≤ x22 ∧ x22 ≤ 1) (k23 : (-1) ≤ x23 ∧ x23 ≤ (-1)) (d3 : x17 + (-4294967296) ≤ x9 ∧ x9 ≤ x17 + 0) (d4 : x15 + (-1) ≤ x17 ∧ x17 ≤ x15 + (-1)) (d5 : x12 + (-4294967296) ≤ x6 ∧ x6 ≤ x12 + 0) (d6 : x3 + (-1) ≤ x12 ∧ x12 ≤ x3 + (-1)) (d7 : x7 + 1 ≤ x9 ∧ x9 ≤ x7 + 1) (d8 : x4 + 0 ≤ x6 ∧ x6 ≤ x4 + 0) (d9 : x3 + (-4294967295) ≤ x6 ∧ x6 ≤ x3 + (-1)) (f0 : x22 ≠ 0) (h1 : x22 = barredPoint_0 (x20)) (f3 : x20 = x19 + x6) (f4 : x19 = x9 * x3) (g5 : x3 = wide_0) (g7 : x15 = tall_0) (f11 : x7 = Int.tdiv (x1) (x3)) (f14 : x4 = Int.tmod (x1) (x3)) (f15 : GRX (wide_0) (tall_0)) (kz_0_146 : (-3999999) ≤ wide_0 ∧ wide_0 ≤ 600000023) (kz_0_147 : (-3999999) ≤ tall_0 ∧ tall_0 ≤ 600000007) : STQ (wide_0) (tall_0) (barredPoint_0) (x1) (x2) (x23) := by
  have g := gok_bd ‹GRX _ _›
  have e3 : x3 = wide_0 := by assumption
  have tm : x4 = x1 % wide_0 := by rw [← e3, ‹x4 = Int.tmod x1 x3›]; exact Int.tmod_eq_emod_of_nonneg (by omega)
  have td : x7 = x1 / wide_0 := by rw [← e3, ‹x7 = Int.tdiv x1 x3›]; exact Int.tdiv_eq_ediv_of_nonneg (by omega)
  have hx : x6 = x1 % wide_0 + dxf x2 := by rw [← tm]; unfold dxf; split; omega; split <;> omega
  have hy : x9 = x1 / wide_0 + dyf x2 := by rw [← td]; unfold dyf; split; omega; split <;> omega
  first
    | exact stq_bar (q := x20) (v := x22) (stq_cell (r := x19) hx hy (by omega) (by rw [← e3]; assumption) (by assumption)) (by assumption) (by omega) (by omega)
set_option maxHeartbeats 4000000 in
theorem vc_Mo_stepTo_19_1 (x1 : Int) (x3 : Int) (x6 : Int) (x9 : Int) (x15 : Int) (x19 : Int) (x20 : Int) (x23 : Int) (wide_0 : Int) (tall_0 : Int) (k1 : 0 ≤ x1 ∧ x1 ≤ 5999) (k23 : (-1) ≤ x23 ∧ x23 ≤ (-1)) (f16 : (0 ≤ x1) ∧ ((x1 + 1) ≤ (wide_0 * tall_0))) (kz_0_146 : (-3999999) ≤ wide_0 ∧ wide_0 ≤ 600000023) (kz_0_147 : (-3999999) ≤ tall_0 ∧ tall_0 ≤ 600000007) : ((-1) ≤ x23) ∧ ((x23 + 1) ≤ (wide_0 * tall_0)) := by
  first
    | omega
def o_Mo_stepTo_19 : or_T := (83, 24, [(0, (2, 0, 0, [165])), (1, (0, 0, 5999, [])), (2, (0, 1, 1, [])), (3, (0, 1, 6000, [])), (4, (0, 0, 5999, [])), (5, (0, 0, 0, [])), (6, (0, 0, 5999, [])), (7, (0, 0, 5999, [])), (8, (0, 1, 1, [])), (9, (0, 1, 5999, [])), (11, (0, 1, 1, [])), (12, (0, 0, 5999, [])), (15, (0, 1, 6000, [])), (16, (0, 1, 1, [])), (17, (0, 1, 5999, [])), (19, (0, 1, 35994000, [])), (20, (0, 1, 5999, [])), (21, (2, 0, 0, [269])), (22, (0, 1, 1, [])), (23, (0, -1, -1, []))], [(8, [22], [1]), (10, [22, 21, 20], []), (9, [21, 0], [143]), (1, [20, 19, 6], []), (3, [19, 9, 3], []), (9, [3, 0], [146]), (2, [17, 15, 16], []), (9, [15, 0], [147]), (2, [12, 3, 11], []), (1, [9, 7, 8], []), (20, [2, 8], [50, 0, 0, 3, 14, 2, 6, 1, 2, 1, 0, 0, 1, 1, 2, 1, 1, 0, 1, 3, 14, 2, 6, 1, 2, 1, 0, 0, 3, 1, 2, 1, 1, 0, -1, 2, 6, 7, 2, 1, 0, 0, 1, 2, 6, 7, 2, 1, 0, 0, 3, 1, 2, 1, 1, 0, 0]), (4, [7, 1, 3], []), (1, [6, 4, 5], []), (20, [2, 5], [50, 0, 0, 3, 14, 2, 6, 1, 2, 1, 0, 0, 0, 1, 2, 1, 1, 0, 1, 3, 14, 2, 6, 1, 2, 1, 0, 0, 2, 1, 2, 1, 1, 0, -1, 2, 6, 7, 2, 1, 0, 0, 0, 2, 6, 7, 2, 1, 0, 0, 2, 1, 2, 1, 1, 0, 0]), (5, [4, 1, 3], []), (20, [0], [60, 2, 0, 494, 146, 147]), (20, [1, 0], [50, 2, 0, 1146, 1147, 2, 6, 0, 2, 0, 0, 1, 0, 0, 6, 4, 2, 1, 0, 0, 1, 6, 3, 2, 1, 146, 2, 1, 147])], [], [], [(20, [0, 1, 2, 23], [60, 2, 1, 505, 146, 147, 143]), (20, [23, 0], [50, 2, 0, 1146, 1147, 2, 6, 0, 2, 0, -1, 1, 0, 0, 6, 4, 2, 1, 0, 0, 1, 6, 3, 2, 1, 146, 2, 1, 147])], [], [(20, 6, 1, 35994000), (20, 4, 1, 35994000), (20, 19, 0, 5999), (9, 17, -4294967296, 0), (17, 15, -1, -1), (6, 12, -4294967296, 0), (12, 3, -1, -1), (9, 7, 1, 1), (6, 4, 0, 0), (6, 3, -4294967295, -1), (4, 3, -4294967295, -1)])
theorem oo_Mo_stepTo_19 {kA : Nat → ClassId} : or_ok PRD kA GG o_Mo_stepTo_19 := by
  refine or_mk fun A ta ws vs hD hth hl => ?_
  intro t0 r0 t1 k1 t2 k2 t3 k3 t4 k4 t5 k5 t6 k6 t7 k7 t8 k8 t9 k9 t11 k11 t12 k12 t15 k15 t16 k16 t17 k17 t19 k19 t20 k20 t21 r21 t22 k22 t23 k23 d0 d1 d2 d3 d4 d5 d6 d7 d8 d9 d10 f0 f1 f2 f3 f4 f5 f6 f7 f8 f9 f10 f11 f12 f13 f14 f15 f16
  replace f1 := shm_107 f1
  replace f2 := shm_1294 f2
  replace f5 := shm_1288 f5
  replace f7 := shm_1293 f7
  replace f11 := shm_34 f11
  have ad_21 : v_ad (n_v vs 21) = w_ar ws (n_v vs 0) 143 := congrArg v_ad f2
  simp only [ad_21] at f1
  have h1 : v_iv (n_v vs 22) = w_ei ws (w_ar ws (n_v vs 0) 143) (v_iv (n_v vs 20)) := f1
  have g5 : v_iv (n_v vs 3) = w_fi ws (n_v vs 0) 146 := congrArg v_iv f5
  have g7 : v_iv (n_v vs 15) = w_fi ws (n_v vs 0) 147 := congrArg v_iv f7
  have kz_0_146 := fdq_179 hD hth r0
  have kz_0_147 := fdq_180 hD hth r0
  have nf0 : fc_1 PRD (20, [0, 1, 2, 23], [60, 2, 1, 505, 146, 147, 143]) ws (vs) := ⟨nf_in hl rfl, sgq_1291 (vc_Mo_stepTo_19_0 (v_iv (n_v vs 1)) (v_iv (n_v vs 2)) (v_iv (n_v vs 3)) (v_iv (n_v vs 4)) (v_iv (n_v vs 6)) (v_iv (n_v vs 7)) (v_iv (n_v vs 9)) (v_iv (n_v vs 12)) (v_iv (n_v vs 15)) (v_iv (n_v vs 17)) (v_iv (n_v vs 19)) (v_iv (n_v vs 20)) (v_iv (n_v vs 22)) (v_iv (n_v vs 23)) (w_ei ws (w_ar ws (n_v vs 0) 143)) (w_fi ws (n_v vs 0) 146) (w_fi ws (n_v vs 0) 147) k1 k2 k3 k4 k6 k7 k9 k12 k15 k17 k19 k20 k22 k23 d3 d4 d5 d6 d7 d8 d9 (shm_142 f0) h1 (shm_12 f3) (shm_38 f4) g5 g7 f11 (shm_468 f14) (shm_1289 f15) kz_0_146 kz_0_147)⟩
  have nf1 : fc_1 PRD (20, [23, 0], [50, 2, 0, 1146, 1147, 2, 6, 0, 2, 0, -1, 1, 0, 0, 6, 4, 2, 1, 0, 0, 1, 6, 3, 2, 1, 146, 2, 1, 147]) ws (vs) := ⟨nf_in hl rfl, sgq_1292 (vc_Mo_stepTo_19_1 (v_iv (n_v vs 1)) (v_iv (n_v vs 3)) (v_iv (n_v vs 6)) (v_iv (n_v vs 9)) (v_iv (n_v vs 15)) (v_iv (n_v vs 19)) (v_iv (n_v vs 20)) (v_iv (n_v vs 23)) (w_fi ws (n_v vs 0) 146) (w_fi ws (n_v vs 0) 147) k1 k23 (shm_1290 f16) kz_0_146 kz_0_147)⟩
  refine ⟨(fun _ h => (by cases h)), [], trivial, ?_, (fun _ h => (by cases h))⟩
  rw [List.append_nil]
  exact List.forall_mem_cons.mpr ⟨⟨show (20 : Nat) < 100 from by decide, nf0⟩, List.forall_mem_cons.mpr ⟨⟨show (20 : Nat) < 100 from by decide, nf1⟩, (fun _ h => (by cases h))⟩⟩
set_option maxHeartbeats 4000000 in
theorem vc_Mo_stepTo_20_0 (x1 : Int) (x2 : Int) (x3 : Int) (x4 : Int) (x6 : Int) (x7 : Int) (x9 : Int) (x14 : Int) (wide_0 : Int) (tall_0 : Int) (barredPoint_0 : Int → Int) (k1 : 0 ≤ x1 ∧ x1 ≤ 5999) (k2 : 2 ≤ x2 ∧ x2 ≤ 2) (k3 : 1 ≤ x3 ∧ x3 ≤ 6000) (k4 : 0 ≤ x4 ∧ x4 ≤ 5999) (k6 : (-1) ≤ x6 ∧ x6 ≤ (-1)) (k7 : 0 ≤ x7 ∧ x7 ≤ 5999) (k9 : 0 ≤ x9 ∧ x9 ≤ 5999) (k14 : (-1) ≤ x14 ∧ x14 ≤ (-1)) (d1 : x7 + 0 ≤ x9 ∧ x9 ≤ x7 + 0) (d2 : x4 + (-1) ≤ x6 ∧ x6 ≤ x4 + (-1)) (g1 : x3 = wide_0) (f4 : x7 = Int.tdiv (x1) (x3)) (f7 : x4 = Int.tmod (x1) (x3)) (f8 : GRX (wide_0) (tall_0)) (kz_0_146 : (-3999999) ≤ wide_0 ∧ wide_0 ≤ 600000023) (kz_0_147 : (-3999999) ≤ tall_0 ∧ tall_0 ≤ 600000007) : STQ (wide_0) (tall_0) (barredPoint_0) (x1) (x2) (x14) := by
  have g := gok_bd ‹GRX _ _›
  have e3 : x3 = wide_0 := by assumption
  have tm : x4 = x1 % wide_0 := by rw [← e3, ‹x4 = Int.tmod x1 x3›]; exact Int.tmod_eq_emod_of_nonneg (by omega)
  have td : x7 = x1 / wide_0 := by rw [← e3, ‹x7 = Int.tdiv x1 x3›]; exact Int.tdiv_eq_ediv_of_nonneg (by omega)
  have hx : x6 = x1 % wide_0 + dxf x2 := by rw [← tm]; unfold dxf; split; omega; split <;> omega
  have hy : x9 = x1 / wide_0 + dyf x2 := by rw [← td]; unfold dyf; split; omega; split <;> omega
  first
    | exact stq_none hx hy (by omega) (by omega)
set_option maxHeartbeats 4000000 in
theorem vc_Mo_stepTo_20_1 (x1 : Int) (x3 : Int) (x6 : Int) (x9 : Int) (x14 : Int) (wide_0 : Int) (tall_0 : Int) (k1 : 0 ≤ x1 ∧ x1 ≤ 5999) (k14 : (-1) ≤ x14 ∧ x14 ≤ (-1)) (f9 : (0 ≤ x1) ∧ ((x1 + 1) ≤ (wide_0 * tall_0))) (kz_0_146 : (-3999999) ≤ wide_0 ∧ wide_0 ≤ 600000023) (kz_0_147 : (-3999999) ≤ tall_0 ∧ tall_0 ≤ 600000007) : ((-1) ≤ x14) ∧ ((x14 + 1) ≤ (wide_0 * tall_0)) := by
  first
    | omega
def o_Mo_stepTo_20 : or_T := (55, 15, [(0, (2, 0, 0, [165])), (1, (0, 0, 5999, [])), (2, (0, 2, 2, [])), (3, (0, 1, 6000, [])), (4, (0, 0, 5999, [])), (5, (0, -1, -1, [])), (6, (0, -1, -1, [])), (7, (0, 0, 5999, [])), (8, (0, 0, 0, [])), (9, (0, 0, 5999, [])), (11, (0, 1, 1, [])), (12, (0, 0, 5999, [])), (14, (0, -1, -1, []))], [(2, [12, 3, 11], []), (9, [3, 0], [146]), (1, [9, 7, 8], []), (20, [2, 8], [50, 0, 0, 3, 14, 2, 6, 1, 2, 1, 0, 0, 1, 1, 2, 1, 1, 0, 1, 3, 14, 2, 6, 1, 2, 1, 0, 0, 3, 1, 2, 1, 1, 0, -1, 2, 6, 7, 2, 1, 0, 0, 1, 2, 6, 7, 2, 1, 0, 0, 3, 1, 2, 1, 1, 0, 0]), (4, [7, 1, 3], []), (1, [6, 4, 5], []), (20, [2, 5], [50, 0, 0, 3, 14, 2, 6, 1, 2, 1, 0, 0, 0, 1, 2, 1, 1, 0, 1, 3, 14, 2, 6, 1, 2, 1, 0, 0, 2, 1, 2, 1, 1, 0, -1, 2, 6, 7, 2, 1, 0, 0, 0, 2, 6, 7, 2, 1, 0, 0, 2, 1, 2, 1, 1, 0, 0]), (5, [4, 1, 3], []), (20, [0], [60, 2, 0, 494, 146, 147]), (20, [1, 0], [50, 2, 0, 1146, 1147, 2, 6, 0, 2, 0, 0, 1, 0, 0, 6, 4, 2, 1, 0, 0, 1, 6, 3, 2, 1, 146, 2, 1, 147])], [], [], [(20, [0, 1, 2, 14], [60, 2, 1, 505, 146, 147, 143]), (20, [14, 0], [50, 2, 0, 1146, 1147, 2, 6, 0, 2, 0, -1, 1, 0, 0, 6, 4, 2, 1, 0, 0, 1, 6, 3, 2, 1, 146, 2, 1, 147])], [], [(12, 3, -1, -1), (9, 7, 0, 0), (6, 4, -1, -1), (4, 3, -4294967295, -1)])
theorem oo_Mo_stepTo_20 {kA : Nat → ClassId} : or_ok PRD kA GG o_Mo_stepTo_20 := by
  refine or_mk fun A ta ws vs hD hth hl => ?_
  intro t0 r0 t1 k1 t2 k2 t3 k3 t4 k4 t5 k5 t6 k6 t7 k7 t8 k8 t9 k9 t11 k11 t12 k12 t14 k14 d0 d1 d2 d3 f0 f1 f2 f3 f4 f5 f6 f7 f8 f9
  replace f1 := shm_1288 f1
  replace f4 := shm_34 f4
  have g1 : v_iv (n_v vs 3) = w_fi ws (n_v vs 0) 146 := congrArg v_iv f1
  have kz_0_146 := fdq_179 hD hth r0
  have kz_0_147 := fdq_180 hD hth r0
  have nf0 : fc_1 PRD (20, [0, 1, 2, 14], [60, 2, 1, 505, 146, 147, 143]) ws (vs) := ⟨nf_in hl rfl, sgq_1291 (vc_Mo_stepTo_20_0 (v_iv (n_v vs 1)) (v_iv (n_v vs 2)) (v_iv (n_v vs 3)) (v_iv (n_v vs 4)) (v_iv (n_v vs 6)) (v_iv (n_v vs 7)) (v_iv (n_v vs 9)) (v_iv (n_v vs 14)) (w_fi ws (n_v vs 0) 146) (w_fi ws (n_v vs 0) 147) (w_ei ws (w_ar ws (n_v vs 0) 143)) k1 k2 k3 k4 k6 k7 k9 k14 d1 d2 g1 f4 (shm_468 f7) (shm_1289 f8) kz_0_146 kz_0_147)⟩
  have nf1 : fc_1 PRD (20, [14, 0], [50, 2, 0, 1146, 1147, 2, 6, 0, 2, 0, -1, 1, 0, 0, 6, 4, 2, 1, 0, 0, 1, 6, 3, 2, 1, 146, 2, 1, 147]) ws (vs) := ⟨nf_in hl rfl, sgq_1292 (vc_Mo_stepTo_20_1 (v_iv (n_v vs 1)) (v_iv (n_v vs 3)) (v_iv (n_v vs 6)) (v_iv (n_v vs 9)) (v_iv (n_v vs 14)) (w_fi ws (n_v vs 0) 146) (w_fi ws (n_v vs 0) 147) k1 k14 (shm_1290 f9) kz_0_146 kz_0_147)⟩
  refine ⟨(fun _ h => (by cases h)), [], trivial, ?_, (fun _ h => (by cases h))⟩
  rw [List.append_nil]
  exact List.forall_mem_cons.mpr ⟨⟨show (20 : Nat) < 100 from by decide, nf0⟩, List.forall_mem_cons.mpr ⟨⟨show (20 : Nat) < 100 from by decide, nf1⟩, (fun _ h => (by cases h))⟩⟩
set_option maxHeartbeats 4000000 in
theorem vc_Mo_stepTo_21_0 (x1 : Int) (x2 : Int) (x3 : Int) (x4 : Int) (x6 : Int) (x7 : Int) (x9 : Int) (x12 : Int) (x14 : Int) (wide_0 : Int) (tall_0 : Int) (barredPoint_0 : Int → Int) (k1 : 0 ≤ x1 ∧ x1 ≤ 5999) (k2 : 2 ≤ x2 ∧ x2 ≤ 2) (k3 : 1 ≤ x3 ∧ x3 ≤ 6000) (k4 : 0 ≤ x4 ∧ x4 ≤ 5999) (k6 : 1 ≤ x6 ∧ x6 ≤ 5998) (k7 : 0 ≤ x7 ∧ x7 ≤ 5999) (k12 : 0 ≤ x12 ∧ x12 ≤ 5997) (k14 : (-1) ≤ x14 ∧ x14 ≤ (-1)) (d0 : x12 + 1 ≤ x6 ∧ x6 ≤ x12 + 4294967296) (d1 : x3 + (-1) ≤ x12 ∧ x12 ≤ x3 + (-1)) (d4 : x3 + (-4294967296) ≤ x6 ∧ x6 ≤ x3 + (-2)) (g1 : x3 = wide_0) (f4 : x7 = Int.tdiv (x1) (x3)) (f7 : x4 = Int.tmod (x1) (x3)) (f8 : GRX (wide_0) (tall_0)) (kz_0_146 : (-3999999) ≤ wide_0 ∧ wide_0 ≤ 600000023) (kz_0_147 : (-3999999) ≤ tall_0 ∧ tall_0 ≤ 600000007) : STQ (wide_0) (tall_0) (barredPoint_0) (x1) (x2) (x14) := by
  have g := gok_bd ‹GRX _ _›
  have e3 : x3 = wide_0 := by assumption
  have tm : x4 = x1 % wide_0 := by rw [← e3, ‹x4 = Int.tmod x1 x3›]; exact Int.tmod_eq_emod_of_nonneg (by omega)
  have td : x7 = x1 / wide_0 := by rw [← e3, ‹x7 = Int.tdiv x1 x3›]; exact Int.tdiv_eq_ediv_of_nonneg (by omega)
  have hx : x6 = x1 % wide_0 + dxf x2 := by rw [← tm]; unfold dxf; split; omega; split <;> omega
  have hy : x9 = x1 / wide_0 + dyf x2 := by rw [← td]; unfold dyf; split; omega; split <;> omega
  first
    | exact stq_none hx hy (by omega) (by omega)
set_option maxHeartbeats 4000000 in
theorem vc_Mo_stepTo_21_1 (x3 : Int) (x6 : Int) (x9 : Int) (x12 : Int) (x14 : Int) (wide_0 : Int) (tall_0 : Int) (k3 : 1 ≤ x3 ∧ x3 ≤ 6000) (k6 : 1 ≤ x6 ∧ x6 ≤ 5998) (k12 : 0 ≤ x12 ∧ x12 ≤ 5997) (k14 : (-1) ≤ x14 ∧ x14 ≤ (-1)) (d0 : x12 + 1 ≤ x6 ∧ x6 ≤ x12 + 4294967296) (d1 : x3 + (-1) ≤ x12 ∧ x12 ≤ x3 + (-1)) (d4 : x3 + (-4294967296) ≤ x6 ∧ x6 ≤ x3 + (-2)) (kz_0_146 : (-3999999) ≤ wide_0 ∧ wide_0 ≤ 600000023) (kz_0_147 : (-3999999) ≤ tall_0 ∧ tall_0 ≤ 600000007) : ((-1) ≤ x14) ∧ ((x14 + 1) ≤ (wide_0 * tall_0)) := by
  first
    | omega
def o_Mo_stepTo_21 : or_T := (55, 15, [(0, (2, 0, 0, [165])), (1, (0, 0, 5999, [])), (2, (0, 2, 2, [])), (3, (0, 1, 6000, [])), (4, (0, 0, 5999, [])), (5, (0, -1, -1, [])), (6, (0, 1, 5998, [])), (7, (0, 0, 5999, [])), (8, (0, 0, 0, [])), (9, (0, 0, 5999, [])), (11, (0, 1, 1, [])), (12, (0, 0, 5997, [])), (14, (0, -1, -1, []))], [(2, [12, 3, 11], []), (9, [3, 0], [146]), (1, [9, 7, 8], []), (20, [2, 8], [50, 0, 0, 3, 14, 2, 6, 1, 2, 1, 0, 0, 1, 1, 2, 1, 1, 0, 1, 3, 14, 2, 6, 1, 2, 1, 0, 0, 3, 1, 2, 1, 1, 0, -1, 2, 6, 7, 2, 1, 0, 0, 1, 2, 6, 7, 2, 1, 0, 0, 3, 1, 2, 1, 1, 0, 0]), (4, [7, 1, 3], []), (1, [6, 4, 5], []), (20, [2, 5], [50, 0, 0, 3, 14, 2, 6, 1, 2, 1, 0, 0, 0, 1, 2, 1, 1, 0, 1, 3, 14, 2, 6, 1, 2, 1, 0, 0, 2, 1, 2, 1, 1, 0, -1, 2, 6, 7, 2, 1, 0, 0, 0, 2, 6, 7, 2, 1, 0, 0, 2, 1, 2, 1, 1, 0, 0]), (5, [4, 1, 3], []), (20, [0], [60, 2, 0, 494, 146, 147]), (20, [1, 0], [50, 2, 0, 1146, 1147, 2, 6, 0, 2, 0, 0, 1, 0, 0, 6, 4, 2, 1, 0, 0, 1, 6, 3, 2, 1, 146, 2, 1, 147])], [], [], [(20, [0, 1, 2, 14], [60, 2, 1, 505, 146, 147, 143]), (20, [14, 0], [50, 2, 0, 1146, 1147, 2, 6, 0, 2, 0, -1, 1, 0, 0, 6, 4, 2, 1, 0, 0, 1, 6, 3, 2, 1, 146, 2, 1, 147])], [], [(6, 12, 1, 4294967296), (12, 3, -1, -1), (9, 7, 0, 0), (6, 4, -1, -1), (6, 3, -4294967296, -2), (4, 3, -4294967295, -1)])
theorem oo_Mo_stepTo_21 {kA : Nat → ClassId} : or_ok PRD kA GG o_Mo_stepTo_21 := by
  refine or_mk fun A ta ws vs hD hth hl => ?_
  intro t0 r0 t1 k1 t2 k2 t3 k3 t4 k4 t5 k5 t6 k6 t7 k7 t8 k8 t9 k9 t11 k11 t12 k12 t14 k14 d0 d1 d2 d3 d4 d5 f0 f1 f2 f3 f4 f5 f6 f7 f8 f9
  replace f1 := shm_1288 f1
  replace f4 := shm_34 f4
  have g1 : v_iv (n_v vs 3) = w_fi ws (n_v vs 0) 146 := congrArg v_iv f1
  have kz_0_146 := fdq_179 hD hth r0
  have kz_0_147 := fdq_180 hD hth r0
  have nf0 : fc_1 PRD (20, [0, 1, 2, 14], [60, 2, 1, 505, 146, 147, 143]) ws (vs) := ⟨nf_in hl rfl, sgq_1291 (vc_Mo_stepTo_21_0 (v_iv (n_v vs 1)) (v_iv (n_v vs 2)) (v_iv (n_v vs 3)) (v_iv (n_v vs 4)) (v_iv (n_v vs 6)) (v_iv (n_v vs 7)) (v_iv (n_v vs 9)) (v_iv (n_v vs 12)) (v_iv (n_v vs 14)) (w_fi ws (n_v vs 0) 146) (w_fi ws (n_v vs 0) 147) (w_ei ws (w_ar ws (n_v vs 0) 143)) k1 k2 k3 k4 k6 k7 k12 k14 d0 d1 d4 g1 f4 (shm_468 f7) (shm_1289 f8) kz_0_146 kz_0_147)⟩
  have nf1 : fc_1 PRD (20, [14, 0], [50, 2, 0, 1146, 1147, 2, 6, 0, 2, 0, -1, 1, 0, 0, 6, 4, 2, 1, 0, 0, 1, 6, 3, 2, 1, 146, 2, 1, 147]) ws (vs) := ⟨nf_in hl rfl, sgq_1292 (vc_Mo_stepTo_21_1 (v_iv (n_v vs 3)) (v_iv (n_v vs 6)) (v_iv (n_v vs 9)) (v_iv (n_v vs 12)) (v_iv (n_v vs 14)) (w_fi ws (n_v vs 0) 146) (w_fi ws (n_v vs 0) 147) k3 k6 k12 k14 d0 d1 d4 kz_0_146 kz_0_147)⟩
  refine ⟨(fun _ h => (by cases h)), [], trivial, ?_, (fun _ h => (by cases h))⟩
  rw [List.append_nil]
  exact List.forall_mem_cons.mpr ⟨⟨show (20 : Nat) < 100 from by decide, nf0⟩, List.forall_mem_cons.mpr ⟨⟨show (20 : Nat) < 100 from by decide, nf1⟩, (fun _ h => (by cases h))⟩⟩
set_option maxHeartbeats 4000000 in
theorem vc_Mo_stepTo_22_r0 (x3 : Int) (x6 : Int) (x9 : Int) (x15 : Int) (tall_0 : Int) (wide_0 : Int) (k15 : (-3999999) ≤ x15 ∧ x15 ≤ 600000007) (g0 : x15 = tall_0) (f9 : GRX (wide_0) (tall_0)) (kz_0_146 : (-3999999) ≤ wide_0 ∧ wide_0 ≤ 600000023) (kz_0_147 : (-3999999) ≤ tall_0 ∧ tall_0 ≤ 600000007) : 1 ≤ x15 ∧ x15 ≤ 6000 := by
  first
    | (have g := gok_bd ‹GRX _ _›; omega)
def o_Mo_stepTo_22 : or_T := (47, 17, [(0, (2, 0, 0, [165])), (1, (0, 0, 5999, [])), (2, (0, 2, 2, [])), (3, (0, 1, 6000, [])), (4, (0, 0, 5999, [])), (5, (0, -1, -1, [])), (6, (0, 0, 5998, [])), (7, (0, 0, 5999, [])), (8, (0, 0, 0, [])), (9, (0, 0, 5999, [])), (11, (0, 1, 1, [])), (12, (0, 0, 5999, [])), (15, (0, -3999999, 600000007, []))], [(9, [15, 0], [147]), (2, [12, 3, 11], []), (9, [3, 0], [146]), (1, [9, 7, 8], []), (20, [2, 8], [50, 0, 0, 3, 14, 2, 6, 1, 2, 1, 0, 0, 1, 1, 2, 1, 1, 0, 1, 3, 14, 2, 6, 1, 2, 1, 0, 0, 3, 1, 2, 1, 1, 0, -1, 2, 6, 7, 2, 1, 0, 0, 1, 2, 6, 7, 2, 1, 0, 0, 3, 1, 2, 1, 1, 0, 0]), (4, [7, 1, 3], []), (1, [6, 4, 5], []), (20, [2, 5], [50, 0, 0, 3, 14, 2, 6, 1, 2, 1, 0, 0, 0, 1, 2, 1, 1, 0, 1, 3, 14, 2, 6, 1, 2, 1, 0, 0, 2, 1, 2, 1, 1, 0, -1, 2, 6, 7, 2, 1, 0, 0, 0, 2, 6, 7, 2, 1, 0, 0, 2, 1, 2, 1, 1, 0, 0]), (5, [4, 1, 3], []), (20, [0], [60, 2, 0, 494, 146, 147]), (20, [1, 0], [50, 2, 0, 1146, 1147, 2, 6, 0, 2, 0, 0, 1, 0, 0, 6, 4, 2, 1, 0, 0, 1, 6, 3, 2, 1, 146, 2, 1, 147])], [(15, (0, 1, 6000, []))], [], [], [], [(6, 12, -4294967296, 0), (12, 3, -1, -1), (9, 7, 0, 0), (6, 4, -1, -1), (6, 3, -4294967296, -2), (4, 3, -4294967295, -1)])
theorem oo_Mo_stepTo_22 {kA : Nat → ClassId} : or_ok PRD kA GG o_Mo_stepTo_22 := by
  refine or_mk fun A ta ws vs hD hth hl => ?_
  intro t0 r0 t1 k1 t2 k2 t3 k3 t4 k4 t5 k5 t6 k6 t7 k7 t8 k8 t9 k9 t11 k11 t12 k12 t15 k15 d0 d1 d2 d3 d4 d5 f0 f1 f2 f3 f4 f5 f6 f7 f8 f9 f10
  replace f0 := shm_1293 f0
  have g0 : v_iv (n_v vs 15) = w_fi ws (n_v vs 0) 147 := congrArg v_iv f0
  have kz_0_146 := fdq_179 hD hth r0
  have kz_0_147 := fdq_180 hD hth r0
  have hrf0 : 1 ≤ v_iv (n_v vs 15) ∧ v_iv (n_v vs 15) ≤ 6000 := vc_Mo_stepTo_22_r0 (v_iv (n_v vs 3)) (v_iv (n_v vs 6)) (v_iv (n_v vs 9)) (v_iv (n_v vs 15)) (w_fi ws (n_v vs 0) 147) (w_fi ws (n_v vs 0) 146) k15 g0 (shm_1289 f9) kz_0_146 kz_0_147
  have rf15 : tv_ok ta (0, 1, 6000, []) (n_v vs 15) := tv_in t15 (by first | omega | grind) (by first | omega | grind)
  refine ⟨List.forall_mem_cons.mpr ⟨rf15, (fun _ h => (by cases h))⟩, [], trivial, ?_, (fun _ h => (by cases h))⟩
  rw [List.append_nil]
  exact (fun _ h => (by cases h))
set_option maxHeartbeats 4000000 in
theorem vc_Mo_stepTo_23_0 (x1 : Int) (x2 : Int) (x3 : Int) (x4 : Int) (x6 : Int) (x7 : Int) (x9 : Int) (x15 : Int) (x17 : Int) (x19 : Int) (tall_0 : Int) (wide_0 : Int) (barredPoint_0 : Int → Int) (k1 : 0 ≤ x1 ∧ x1 ≤ 5999) (k2 : 2 ≤ x2 ∧ x2 ≤ 2) (k3 : 1 ≤ x3 ∧ x3 ≤ 6000) (k4 : 0 ≤ x4 ∧ x4 ≤ 5999) (k6 : 0 ≤ x6 ∧ x6 ≤ 5998) (k7 : 0 ≤ x7 ∧ x7 ≤ 5999) (k9 : 1 ≤ x9 ∧ x9 ≤ 5999) (k15 : 1 ≤ x15 ∧ x15 ≤ 6000) (k17 : 0 ≤ x17 ∧ x17 ≤ 5998) (k19 : (-1) ≤ x19 ∧ x19 ≤ (-1)) (d0 : x17 + 1 ≤ x9 ∧ x9 ≤ x17 + 4294967296) (d1 : x15 + (-1) ≤ x17 ∧ x17 ≤ x15 + (-1)) (d4 : x7 + 0 ≤ x9 ∧ x9 ≤ x7 + 0) (d5 : x4 + (-1) ≤ x6 ∧ x6 ≤ x4 + (-1)) (g1 : x15 = tall_0) (g3 : x3 = wide_0) (f6 : x7 = Int.tdiv (x1) (x3)) (f9 : x4 = Int.tmod (x1) (x3)) (f10 : GRX (wide_0) (tall_0)) (kz_0_146 : (-3999999) ≤ wide_0 ∧ wide_0 ≤ 600000023) (kz_0_147 : (-3999999) ≤ tall_0 ∧ tall_0 ≤ 600000007) : STQ (wide_0) (tall_0) (barredPoint_0) (x1) (x2) (x19) := by
  have g := gok_bd ‹GRX _ _›
  have e3 : x3 = wide_0 := by assumption
  have tm : x4 = x1 % wide_0 := by rw [← e3, ‹x4 = Int.tmod x1 x3›]; exact Int.tmod_eq_emod_of_nonneg (by omega)
  have td : x7 = x1 / wide_0 := by rw [← e3, ‹x7 = Int.tdiv x1 x3›]; exact Int.tdiv_eq_ediv_of_nonneg (by omega)
  have hx : x6 = x1 % wide_0 + dxf x2 := by rw [← tm]; unfold dxf; split; omega; split <;> omega
  have hy : x9 = x1 / wide_0 + dyf x2 := by rw [← td]; unfold dyf; split; omega; split <;> omega
  first
    | exact stq_none hx hy (by omega) (by omega)
set_option maxHeartbeats 4000000 in
theorem vc_Mo_stepTo_23_1 (x1 : Int) (x3 : Int) (x6 : Int) (x9 : Int) (x15 : Int) (x19 : Int) (tall_0 : Int) (wide_0 : Int) (k1 : 0 ≤ x1 ∧ x1 ≤ 5999) (k3 : 1 ≤ x3 ∧ x3 ≤ 6000) (k19 : (-1) ≤ x19 ∧ x19 ≤ (-1)) (g3 : x3 = wide_0) (f11 : (0 ≤ x1) ∧ ((x1 + 1) ≤ (wide_0 * tall_0))) (kz_0_146 : (-3999999) ≤ wide_0 ∧ wide_0 ≤ 600000023) (kz_0_147 : (-3999999) ≤ tall_0 ∧ tall_0 ≤ 600000007) : ((-1) ≤ x19) ∧ ((x19 + 1) ≤ (wide_0 * tall_0)) := by
  first
    | omega
def o_Mo_stepTo_23 : or_T := (55, 20, [(0, (2, 0, 0, [165])), (1, (0, 0, 5999, [])), (2, (0, 2, 2, [])), (3, (0, 1, 6000, [])), (4, (0, 0, 5999, [])), (5, (0, -1, -1, [])), (6, (0, 0, 5998, [])), (7, (0, 0, 5999, [])), (8, (0, 0, 0, [])), (9, (0, 1, 5999, [])), (11, (0, 1, 1, [])), (12, (0, 0, 5999, [])), (15, (0, 1, 6000, [])), (16, (0, 1, 1, [])), (17, (0, 0, 5998, [])), (19, (0, -1, -1, []))], [(2, [17, 15, 16], []), (9, [15, 0], [147]), (2, [12, 3, 11], []), (9, [3, 0], [146]), (1, [9, 7, 8], []), (20, [2, 8], [50, 0, 0, 3, 14, 2, 6, 1, 2, 1, 0, 0, 1, 1, 2, 1, 1, 0, 1, 3, 14, 2, 6, 1, 2, 1, 0, 0, 3, 1, 2, 1, 1, 0, -1, 2, 6, 7, 2, 1, 0, 0, 1, 2, 6, 7, 2, 1, 0, 0, 3, 1, 2, 1, 1, 0, 0]), (4, [7, 1, 3], []), (1, [6, 4, 5], []), (20, [2, 5], [50, 0, 0, 3, 14, 2, 6, 1, 2, 1, 0, 0, 0, 1, 2, 1, 1, 0, 1, 3, 14, 2, 6, 1, 2, 1, 0, 0, 2, 1, 2, 1, 1, 0, -1, 2, 6, 7, 2, 1, 0, 0, 0, 2, 6, 7, 2, 1, 0, 0, 2, 1, 2, 1, 1, 0, 0]), (5, [4, 1, 3], []), (20, [0], [60, 2, 0, 494, 146, 147]), (20, [1, 0], [50, 2, 0, 1146, 1147, 2, 6, 0, 2, 0, 0, 1, 0, 0, 6, 4, 2, 1, 0, 0, 1, 6, 3, 2, 1, 146, 2, 1, 147])], [], [], [(20, [0, 1, 2, 19], [60, 2, 1, 505, 146, 147, 143]), (20, [19, 0], [50, 2, 0, 1146, 1147, 2, 6, 0, 2, 0, -1, 1, 0, 0, 6, 4, 2, 1, 0, 0, 1, 6, 3, 2, 1, 146, 2, 1, 147])], [], [(9, 17, 1, 4294967296), (17, 15, -1, -1), (6, 12, -4294967296, 0), (12, 3, -1, -1), (9, 7, 0, 0), (6, 4, -1, -1), (6, 3, -4294967296, -2), (4, 3, -4294967295, -1)])
theorem oo_Mo_stepTo_23 {kA : Nat → ClassId} : or_ok PRD kA GG o_Mo_stepTo_23 := by
  refine or_mk fun A ta ws vs hD hth hl => ?_
  intro t0 r0 t1 k1 t2 k2 t3 k3 t4 k4 t5 k5 t6 k6 t7 k7 t8 k8 t9 k9 t11 k11 t12 k12 t15 k15 t16 k16 t17 k17 t19 k19 d0 d1 d2 d3 d4 d5 d6 d7 f0 f1 f2 f3 f4 f5 f6 f7 f8 f9 f10 f11
  replace f1 := shm_1293 f1
  replace f3 := shm_1288 f3
  replace f6 := shm_34 f6
  have g1 : v_iv (n_v vs 15) = w_fi ws (n_v vs 0) 147 := congrArg v_iv f1
  have g3 : v_iv (n_v vs 3) = w_fi ws (n_v vs 0) 146 := congrArg v_iv f3
  have kz_0_146 := fdq_179 hD hth r0
  have kz_0_147 := fdq_180 hD hth r0
  have nf0 : fc_1 PRD (20, [0, 1, 2, 19], [60, 2, 1, 505, 146, 147, 143]) ws (vs) := ⟨nf_in hl rfl, sgq_1291 (vc_Mo_stepTo_23_0 (v_iv (n_v vs 1)) (v_iv (n_v vs 2)) (v_iv (n_v vs 3)) (v_iv (n_v vs 4)) (v_iv (n_v vs 6)) (v_iv (n_v vs 7)) (v_iv (n_v vs 9)) (v_iv (n_v vs 15)) (v_iv (n_v vs 17)) (v_iv (n_v vs 19)) (w_fi ws (n_v vs 0) 147) (w_fi ws (n_v vs 0) 146) (w_ei ws (w_ar ws (n_v vs 0) 143)) k1 k2 k3 k4 k6 k7 k9 k15 k17 k19 d0 d1 d4 d5 g1 g3 f6 (shm_468 f9) (shm_1289 f10) kz_0_146 kz_0_147)⟩
  have nf1 : fc_1 PRD (20, [19, 0], [50, 2, 0, 1146, 1147, 2, 6, 0, 2, 0, -1, 1, 0, 0, 6, 4, 2, 1, 0, 0, 1, 6, 3, 2, 1, 146, 2, 1, 147]) ws (vs) := ⟨nf_in hl rfl, sgq_1292 (vc_Mo_stepTo_23_1 (v_iv (n_v vs 1)) (v_iv (n_v vs 3)) (v_iv (n_v vs 6)) (v_iv (n_v vs 9)) (v_iv (n_v vs 15)) (v_iv (n_v vs 19)) (w_fi ws (n_v vs 0) 147) (w_fi ws (n_v vs 0) 146) k1 k3 k19 g3 (shm_1290 f11) kz_0_146 kz_0_147)⟩
  refine ⟨(fun _ h => (by cases h)), [], trivial, ?_, (fun _ h => (by cases h))⟩
  rw [List.append_nil]
  exact List.forall_mem_cons.mpr ⟨⟨show (20 : Nat) < 100 from by decide, nf0⟩, List.forall_mem_cons.mpr ⟨⟨show (20 : Nat) < 100 from by decide, nf1⟩, (fun _ h => (by cases h))⟩⟩
set_option maxHeartbeats 4000000 in
theorem vc_Mo_stepTo_24_r0 (x1 : Int) (x3 : Int) (x4 : Int) (x6 : Int) (x7 : Int) (x9 : Int) (x12 : Int) (x15 : Int) (x17 : Int) (x19 : Int) (x20 : Int) (wide_0 : Int) (tall_0 : Int) (k1 : 0 ≤ x1 ∧ x1 ≤ 5999) (k3 : 1 ≤ x3 ∧ x3 ≤ 6000) (k4 : 0 ≤ x4 ∧ x4 ≤ 5999) (k6 : 0 ≤ x6 ∧ x6 ≤ 5998) (k7 : 0 ≤ x7 ∧ x7 ≤ 5999) (k9 : 0 ≤ x9 ∧ x9 ≤ 5999) (k12 : 0 ≤ x12 ∧ x12 ≤ 5999) (k15 : 1 ≤ x15 ∧ x15 ≤ 6000) (k17 : 0 ≤ x17 ∧ x17 ≤ 5999) (k19 : 0 ≤ x19 ∧ x19 ≤ 35994000) (k20 : 0 ≤ x20 ∧ x20 ≤ 35999998) (d5 : x17 + (-4294967296) ≤ x9 ∧ x9 ≤ x17 + 0) (d6 : x15 + (-1) ≤ x17 ∧ x17 ≤ x15 + (-1)) (d7 : x12 + (-4294967296) ≤ x6 ∧ x6 ≤ x12 + 0) (d8 : x3 + (-1) ≤ x12 ∧ x12 ≤ x3 + (-1)) (d9 : x7 + 0 ≤ x9 ∧ x9 ≤ x7 + 0) (d10 : x4 + (-1) ≤ x6 ∧ x6 ≤ x4 + (-1)) (d11 : x3 + (-4294967296) ≤ x6 ∧ x6 ≤ x3 + (-2)) (f0 : x20 = x19 + x6) (f1 : x19 = x9 * x3) (g2 : x3 = wide_0) (g4 : x15 = tall_0) (f8 : x7 = Int.tdiv (x1) (x3)) (f11 : x4 = Int.tmod (x1) (x3)) (f12 : GRX (wide_0) (tall_0)) (f13 : (0 ≤ x1) ∧ ((x1 + 1) ≤ (wide_0 * tall_0))) (kz_0_146 : (-3999999) ≤ wide_0 ∧ wide_0 ≤ 600000023) (kz_0_147 : (-3999999) ≤ tall_0 ∧ tall_0 ≤ 600000007) : 0 ≤ x20 ∧ x20 ≤ 5999 := by
  first
    | (have g := gok_bd ‹GRX _ _›; omega)
    | (have g := gok_bd ‹GRX _ _›
       have c := cell_ix (W := x3) (T := x15) (x := x6) (y := x9) (p := x20) (by omega) (by omega) (by omega) (by omega) (by omega) (by rw [‹x20 = x19 + x6›, ‹x19 = x9 * x3›])
       have e3 : x3 = wide_0 := by assumption
       have e15 : x15 = tall_0 := by assumption
       have g3 := ‹GRX _ _›.2.2
       rw [e3, e15] at c
       omega)
def o_Mo_stepTo_24 : or_T := (73, 22, [(0, (2, 0, 0, [165])), (1, (0, 0, 5999, [])), (2, (0, 2, 2, [])), (3, (0, 1, 6000, [])), (4, (0, 0, 5999, [])), (5, (0, -1, -1, [])), (6, (0, 0, 5998, [])), (7, (0, 0, 5999, [])), (8, (0, 0, 0, [])), (9, (0, 0, 5999, [])), (11, (0, 1, 1, [])), (12, (0, 0, 5999, [])), (15, (0, 1, 6000, [])), (16, (0, 1, 1, [])), (17, (0, 0, 5999, [])), (19, (0, 0, 35994000, [])), (20, (0, 0, 35999998, []))], [(1, [20, 19, 6], []), (3, [19, 9, 3], []), (9, [3, 0], [146]), (2, [17, 15, 16], []), (9, [15, 0], [147]), (2, [12, 3, 11], []), (1, [9, 7, 8], []), (20, [2, 8], [50, 0, 0, 3, 14, 2, 6, 1, 2, 1, 0, 0, 1, 1, 2, 1, 1, 0, 1, 3, 14, 2, 6, 1, 2, 1, 0, 0, 3, 1, 2, 1, 1, 0, -1, 2, 6, 7, 2, 1, 0, 0, 1, 2, 6, 7, 2, 1, 0, 0, 3, 1, 2, 1, 1, 0, 0]), (4, [7, 1, 3], []), (1, [6, 4, 5], []), (20, [2, 5], [50, 0, 0, 3, 14, 2, 6, 1, 2, 1, 0, 0, 0, 1, 2, 1, 1, 0, 1, 3, 14, 2, 6, 1, 2, 1, 0, 0, 2, 1, 2, 1, 1, 0, -1, 2, 6, 7, 2, 1, 0, 0, 0, 2, 6, 7, 2, 1, 0, 0, 2, 1, 2, 1, 1, 0, 0]), (5, [4, 1, 3], []), (20, [0], [60, 2, 0, 494, 146, 147]), (20, [1, 0], [50, 2, 0, 1146, 1147, 2, 6, 0, 2, 0, 0, 1, 0, 0, 6, 4, 2, 1, 0, 0, 1, 6, 3, 2, 1, 146, 2, 1, 147])], [(20, (0, 0, 5999, []))], [], [], [], [(20, 6, 0, 35994000), (20, 12, -4294967296, 35994000), (20, 4, -1, 35993999), (20, 3, -4294967296, 35993998), (20, 19, 0, 5998), (9, 17, -4294967296, 0), (17, 15, -1, -1), (6, 12, -4294967296, 0), (12, 3, -1, -1), (9, 7, 0, 0), (6, 4, -1, -1), (6, 3, -4294967296, -2), (4, 3, -4294967295, -1)])
theorem oo_Mo_stepTo_24 {kA : Nat → ClassId} : or_ok PRD kA GG o_Mo_stepTo_24 := by
  refine or_mk fun A ta ws vs hD hth hl => ?_
  intro t0 r0 t1 k1 t2 k2 t3 k3 t4 k4 t5 k5 t6 k6 t7 k7 t8 k8 t9 k9 t11 k11 t12 k12 t15 k15 t16 k16 t17 k17 t19 k19 t20 k20 d0 d1 d2 d3 d4 d5 d6 d7 d8 d9 d10 d11 d12 f0 f1 f2 f3 f4 f5 f6 f7 f8 f9 f10 f11 f12 f13
  replace f2 := shm_1288 f2
  replace f4 := shm_1293 f4
  replace f8 := shm_34 f8
  have g2 : v_iv (n_v vs 3) = w_fi ws (n_v vs 0) 146 := congrArg v_iv f2
  have g4 : v_iv (n_v vs 15) = w_fi ws (n_v vs 0) 147 := congrArg v_iv f4
  have kz_0_146 := fdq_179 hD hth r0
  have kz_0_147 := fdq_180 hD hth r0
  have hrf0 : 0 ≤ v_iv (n_v vs 20) ∧ v_iv (n_v vs 20) ≤ 5999 := vc_Mo_stepTo_24_r0 (v_iv (n_v vs 1)) (v_iv (n_v vs 3)) (v_iv (n_v vs 4)) (v_iv (n_v vs 6)) (v_iv (n_v vs 7)) (v_iv (n_v vs 9)) (v_iv (n_v vs 12)) (v_iv (n_v vs 15)) (v_iv (n_v vs 17)) (v_iv (n_v vs 19)) (v_iv (n_v vs 20)) (w_fi ws (n_v vs 0) 146) (w_fi ws (n_v vs 0) 147) k1 k3 k4 k6 k7 k9 k12 k15 k17 k19 k20 d5 d6 d7 d8 d9 d10 d11 (shm_12 f0) (shm_38 f1) g2 g4 f8 (shm_468 f11) (shm_1289 f12) (shm_1290 f13) kz_0_146 kz_0_147
  have rf20 : tv_ok ta (0, 0, 5999, []) (n_v vs 20) := tv_in t20 (by first | omega | grind) (by first | omega | grind)
  refine ⟨List.forall_mem_cons.mpr ⟨rf20, (fun _ h => (by cases h))⟩, [], trivial, ?_, (fun _ h => (by cases h))⟩
  rw [List.append_nil]
  exact (fun _ h => (by cases h))
set_option maxHeartbeats 4000000 in
theorem vc_Mo_stepTo_25_0 (x1 : Int) (x2 : Int) (x3 : Int) (x4 : Int) (x6 : Int) (x7 : Int) (x9 : Int) (x12 : Int) (x15 : Int) (x17 : Int) (x19 : Int) (x20 : Int) (x22 : Int) (barredPoint_0 : Int → Int) (wide_0 : Int) (tall_0 : Int) (k1 : 0 ≤ x1 ∧ x1 ≤ 5999) (k2 : 2 ≤ x2 ∧ x2 ≤ 2) (k3 : 1 ≤ x3 ∧ x3 ≤ 6000) (k4 : 0 ≤ x4 ∧ x4 ≤ 5999) (k6 : 0 ≤ x6 ∧ x6 ≤ 5998) (k7 : 0 ≤ x7 ∧ x7 ≤ 5999) (k9 : 0 ≤ x9 ∧ x9 ≤ 5999) (k12 : 0 ≤ x12 ∧ x12 ≤ 5999) (k15 : 1 ≤ x15 ∧ x15 ≤ 6000) (k17 : 0 ≤ x17 ∧ x17 ≤ 5999) (k19 : 0 ≤ x19 ∧ x19 ≤ 35994000) (k20 : 0 ≤ x20 ∧ x20 ≤ 5999) (k22 : 0 ≤ x22 ∧ x22 ≤ 0) (d3 : x17 + (-4294967296) ≤ x9 ∧ x9 ≤ x17 + 0) (d4 : x15 + (-1) ≤ x17 ∧ x17 ≤ x15 + (-1)) (d5 : x12 + (-4294967296) ≤ x6 ∧ x6 ≤ x12 + 0) (d6 : x3 + (-1) ≤ x12 ∧ x12 ≤ x3 + (-1)) (d7 : x7 + 0 ≤ x9 ∧ x9 ≤ x7 + 0) (d8 : x4 + (-1) ≤ x6 ∧ x6 ≤ x4 + (-1)) (d9 : x3 + (-4294967296) ≤ x6 ∧ x6 ≤ x3 + (-2)) (f0 : x22 = 0) (h1 : x22 = barredPoint_0 (x20)) (f3 : x20 = x19 + x6) (f4 : x19 = x9 * x3) (g5 : x3 = wide_0) (g7 : x15 = tall_0) (f11 : x7 = Int.tdiv (x1) (x3)) (f14 : x4 = Int.tmod (x1) (x3)) (f15 : GRX (wide_0) (tall_0)) (kz_0_146 : (-3999999) ≤ wide_0 ∧ wide_0 ≤ 600000023) (kz_0_147 : (-3999999) ≤ tall_0 ∧ tall_0 ≤ 600000007) : STQ (wide_0) (tall_0) (barredPoint_0) (x1) (x2) (x20) := by
  have g := gok_bd ‹GRX _ _›
  have e3 : x3 = wide_0 := by assumption
  have tm : x4 = x1 % wide_0 := by rw [← e3, ‹x4 = Int.tmod x1 x3›]; exact Int.tmod_eq_emod_of_nonneg (by omega)
  have td : x7 = x1 / wide_0 := by rw [← e3, ‹x7 = Int.tdiv x1 x3›]; exact Int.tdiv_eq_ediv_of_nonneg (by omega)
  have hx : x6 = x1 % wide_0 + dxf x2 := by rw [← tm]; unfold dxf; split; omega; split <;> omega
  have hy : x9 = x1 / wide_0 + dyf x2 := by rw [← td]; unfold dyf; split; omega; split <;> omega
  first
    | exact stq_ok (q := x20) (v := x22) (stq_cell (r := x19) hx hy (by omega) (by rw [← e3]; assumption) (by assumption)) (by omega) (by assumption) (by omega) rfl
set_option maxHeartbeats 4000000 in
theorem vc_Mo_stepTo_25_1 (x1 : Int) (x3 : Int) (x4 : Int) (x6 : Int) (x7 : Int) (x9 : Int) (x12 : Int) (x15 : Int) (x17 : Int) (x19 : Int) (x20 : Int) (wide_0 : Int) (tall_0 : Int) (k1 : 0 ≤ x1 ∧ x1 ≤ 5999) (k3 : 1 ≤ x3 ∧ x3 ≤ 6000) (k4 : 0 ≤ x4 ∧ x4 ≤ 5999) (k6 : 0 ≤ x6 ∧ x6 ≤ 5998) (k7 : 0 ≤ x7 ∧ x7 ≤ 5999) (k9 : 0 ≤ x9 ∧ x9 ≤ 5999) (k12 : 0 ≤ x12 ∧ x12 ≤ 5999) (k15 : 1 ≤ x15 ∧ x15 ≤ 6000) (k17 : 0 ≤ x17 ∧ x17 ≤ 5999) (k19 : 0 ≤ x19 ∧ x19 ≤ 35994000) (k20 : 0 ≤ x20 ∧ x20 ≤ 5999) (d3 : x17 + (-4294967296) ≤ x9 ∧ x9 ≤ x17 + 0) (d4 : x15 + (-1) ≤ x17 ∧ x17 ≤ x15 + (-1)) (d5 : x12 + (-4294967296) ≤ x6 ∧ x6 ≤ x12 + 0) (d6 : x3 + (-1) ≤ x12 ∧ x12 ≤ x3 + (-1)) (d7 : x7 + 0 ≤ x9 ∧ x9 ≤ x7 + 0) (d8 : x4 + (-1) ≤ x6 ∧ x6 ≤ x4 + (-1)) (d9 : x3 + (-4294967296) ≤ x6 ∧ x6 ≤ x3 + (-2)) (f3 : x20 = x19 + x6) (f4 : x19 = x9 * x3) (g5 : x3 = wide_0) (g7 : x15 = tall_0) (f11 : x7 = Int.tdiv (x1) (x3)) (f14 : x4 = Int.tmod (x1) (x3)) (f15 : GRX (wide_0) (tall_0)) (kz_0_146 : (-3999999) ≤ wide_0 ∧ wide_0 ≤ 600000023) (kz_0_147 : (-3999999) ≤ tall_0 ∧ tall_0 ≤ 600000007) : ((-1) ≤ x20) ∧ ((x20 + 1) ≤ (wide_0 * tall_0)) := by
  first
    | (have g := gok_bd ‹GRX _ _›; omega)
    | (have g := gok_bd ‹GRX _ _›
       have c := cell_ix (W := x3) (T := x15) (x := x6) (y := x9) (p := x20) (by omega) (by omega) (by omega) (by omega) (by omega) (by rw [‹x20 = x19 + x6›, ‹x19 = x9 * x3›])
       have e3 : x3 = wide_0 := by assumption
       have e15 : x15 = tall_0 := by assumption
       have g3 := ‹GRX _ _›.2.2
       rw [e3, e15] at c
       omega)
def o_Mo_stepTo_25 : or_T := (83, 23, [(0, (2, 0, 0, [165])), (1, (0, 0, 5999, [])), (2, (0, 2, 2, [])), (3, (0, 1, 6000, [])), (4, (0, 0, 5999, [])), (5, (0, -1, -1, [])), (6, (0, 0, 5998, [])), (7, (0, 0, 5999, [])), (8, (0, 0, 0, [])), (9, (0, 0, 5999, [])), (11, (0, 1, 1, [])), (12, (0, 0, 5999, [])), (15, (0, 1, 6000, [])), (16, (0, 1, 1, [])), (17, (0, 0, 5999, [])), (19, (0, 0, 35994000, [])), (20, (0, 0, 5999, [])), (21, (2, 0, 0, [269])), (22, (0, 0, 0, []))], [(8, [22], [0]), (10, [22, 21, 20], []), (9, [21, 0], [143]), (1, [20, 19, 6], []), (3, [19, 9, 3], []), (9, [3, 0], [146]), (2, [17, 15, 16], []), (9, [15, 0], [147]), (2, [12, 3, 11], []), (1, [9, 7, 8], []), (20, [2, 8], [50, 0, 0, 3, 14, 2, 6, 1, 2, 1, 0, 0, 1, 1, 2, 1, 1, 0, 1, 3, 14, 2, 6, 1, 2, 1, 0, 0, 3, 1, 2, 1, 1, 0, -1, 2, 6, 7, 2, 1, 0, 0, 1, 2, 6, 7, 2, 1, 0, 0, 3, 1, 2, 1, 1, 0, 0]), (4, [7, 1, 3], []), (1, [6, 4, 5], []), (20, [2, 5], [50, 0, 0, 3, 14, 2, 6, 1, 2, 1, 0, 0, 0, 1, 2, 1, 1, 0, 1, 3, 14, 2, 6, 1, 2, 1, 0, 0, 2, 1, 2, 1, 1, 0, -1, 2, 6, 7, 2, 1, 0, 0, 0, 2, 6, 7, 2, 1, 0, 0, 2, 1, 2, 1, 1, 0, 0]), (5, [4, 1, 3], []), (20, [0], [60, 2, 0, 494, 146, 147]), (20, [1, 0], [50, 2, 0, 1146, 1147, 2, 6, 0, 2, 0, 0, 1, 0, 0, 6, 4, 2, 1, 0, 0, 1, 6, 3, 2, 1, 146, 2, 1, 147])], [], [], [(20, [0, 1, 2, 20], [60, 2, 1, 505, 146, 147, 143]), (20, [20, 0], [50, 2, 0, 1146, 1147, 2, 6, 0, 2, 0, -1, 1, 0, 0, 6, 4, 2, 1, 0, 0, 1, 6, 3, 2, 1, 146, 2, 1, 147])], [], [(20, 6, 0, 35994000), (20, 4, -1, 35993999), (20, 19, 0, 5998), (9, 17, -4294967296, 0), (17, 15, -1, -1), (6, 12, -4294967296, 0), (12, 3, -1, -1), (9, 7, 0, 0), (6, 4, -1, -1), (6, 3, -4294967296, -2), (4, 3, -4294967295, -1)])
theorem oo_Mo_stepTo_25 {kA : Nat → ClassId} : or_ok PRD kA GG o_Mo_stepTo_25 := by
  refine or_mk fun A ta ws vs hD hth hl => ?_
  intro t0 r0 t1 k1 t2 k2 t3 k3 t4 k4 t5 k5 t6 k6 t7 k7 t8 k8 t9 k9 t11 k11 t12 k12 t15 k15 t16 k16 t17 k17 t19 k19 t20 k20 t21 r21 t22 k22 d0 d1 d2 d3 d4 d5 d6 d7 d8 d9 d10 f0 f1 f2 f3 f4 f5 f6 f7 f8 f9 f10 f11 f12 f13 f14 f15 f16
  replace f1 := shm_107 f1
  replace f2 := shm_1294 f2
  replace f5 := shm_1288 f5
  replace f7 := shm_1293 f7
  replace f11 := shm_34 f11
  have ad_21 : v_ad (n_v vs 21) = w_ar ws (n_v vs 0) 143 := congrArg v_ad f2
  simp only [ad_21] at f1
  have h1 : v_iv (n_v vs 22) = w_ei ws (w_ar ws (n_v vs 0) 143) (v_iv (n_v vs 20)) := f1
  have g5 : v_iv (n_v vs 3) = w_fi ws (n_v vs 0) 146 := congrArg v_iv f5
  have g7 : v_iv (n_v vs 15) = w_fi ws (n_v vs 0) 147 := congrArg v_iv f7
  have kz_0_146 := fdq_179 hD hth r0
  have kz_0_147 := fdq_180 hD hth r0
  have nf0 : fc_1 PRD (20, [0, 1, 2, 20], [60, 2, 1, 505, 146, 147, 143]) ws (vs) := ⟨nf_in hl rfl, sgq_1291 (vc_Mo_stepTo_25_0 (v_iv (n_v vs 1)) (v_iv (n_v vs 2)) (v_iv (n_v vs 3)) (v_iv (n_v vs 4)) (v_iv (n_v vs 6)) (v_iv (n_v vs 7)) (v_iv (n_v vs 9)) (v_iv (n_v vs 12)) (v_iv (n_v vs 15)) (v_iv (n_v vs 17)) (v_iv (n_v vs 19)) (v_iv (n_v vs 20)) (v_iv (n_v vs 22)) (w_ei ws (w_ar ws (n_v vs 0) 143)) (w_fi ws (n_v vs 0) 146) (w_fi ws (n_v vs 0) 147) k1 k2 k3 k4 k6 k7 k9 k12 k15 k17 k19 k20 k22 d3 d4 d5 d6 d7 d8 d9 (shm_192 f0) h1 (shm_12 f3) (shm_38 f4) g5 g7 f11 (shm_468 f14) (shm_1289 f15) kz_0_146 kz_0_147)⟩
  have nf1 : fc_1 PRD (20, [20, 0], [50, 2, 0, 1146, 1147, 2, 6, 0, 2, 0, -1, 1, 0, 0, 6, 4, 2, 1, 0, 0, 1, 6, 3, 2, 1, 146, 2, 1, 147]) ws (vs) := ⟨nf_in hl rfl, sgq_1292 (vc_Mo_stepTo_25_1 (v_iv (n_v vs 1)) (v_iv (n_v vs 3)) (v_iv (n_v vs 4)) (v_iv (n_v vs 6)) (v_iv (n_v vs 7)) (v_iv (n_v vs 9)) (v_iv (n_v vs 12)) (v_iv (n_v vs 15)) (v_iv (n_v vs 17)) (v_iv (n_v vs 19)) (v_iv (n_v vs 20)) (w_fi ws (n_v vs 0) 146) (w_fi ws (n_v vs 0) 147) k1 k3 k4 k6 k7 k9 k12 k15 k17 k19 k20 d3 d4 d5 d6 d7 d8 d9 (shm_12 f3) (shm_38 f4) g5 g7 f11 (shm_468 f14) (shm_1289 f15) kz_0_146 kz_0_147)⟩
  refine ⟨(fun _ h => (by cases h)), [], trivial, ?_, (fun _ h => (by cases h))⟩
  rw [List.append_nil]
  exact List.forall_mem_cons.mpr ⟨⟨show (20 : Nat) < 100 from by decide, nf0⟩, List.forall_mem_cons.mpr ⟨⟨show (20 : Nat) < 100 from by decide, nf1⟩, (fun _ h => (by cases h))⟩⟩
set_option maxHeartbeats 4000000 in
theorem vc_Mo_stepTo_26_0 (x1 : Int) (x2 : Int) (x3 : Int) (x4 : Int) (x6 : Int) (x7 : Int) (x9 : Int) (x12 : Int) (x15 : Int) (x17 : Int) (x19 : Int) (x20 : Int) (x22 : Int) (x23 : Int) (barredPoint_0 : Int → Int) (wide_0 : Int) (tall_0 : Int) (k1 : 0 ≤ x1 ∧ x1 ≤ 5999) (k2 : 2 ≤ x2 ∧ x2 ≤ 2) (k3 : 1 ≤ x3 ∧ x3 ≤ 6000) (k4 : 0 ≤ x4 ∧ x4 ≤ 5999) (k6 : 0 ≤ x6 ∧ x6 ≤ 5998) (k7 : 0 ≤ x7 ∧ x7 ≤ 5999) (k9 : 0 ≤ x9 ∧ x9 ≤ 5999) (k12 : 0 ≤ x12 ∧ x12 ≤ 5999) (k15 : 1 ≤ x15 ∧ x15 ≤ 6000) (k17 : 0 ≤ x17 ∧ x17 ≤ 5999) (k19 : 0 ≤ x19 ∧ x19 ≤ 35994000) (k20 : 0 ≤ x20 ∧ x20 ≤ 5999) (k22 : 1 ≤ x22 ∧ x22 ≤ 1) (k23 : (-1) ≤ x23 ∧ x23 ≤ (-1)) (d3 : x17 + (-4294967296) ≤ x9 ∧ x9 ≤ x17 + 0) (d4 : x15 + (-1) ≤ x17 ∧ x17 ≤ x15 + (-1)) (d5 : x12 + (-4294967296) ≤ x6 ∧ x6 ≤ x12 + 0) (d6 : x3 + (-1) ≤ x12 ∧ x12 ≤ x3 + (-1)) (d7 : x7 + 0 ≤ x9 ∧ x9 ≤ x7 + 0) (d8 : x4 + (-1) ≤ x6 ∧ x6 ≤ x4 + (-1)) (d9 : x3 + (-4294967296) ≤ x6 ∧ x6 ≤ x3 + (-2)) (f0 : x22 ≠ 0) (h1 : x22 = barredPoint_0 (x20)) (f3 : x20 = x19 + x6) (f4 : x19 = x9 * x3) (g5 : x3 = wide_0) (g7 : x15 = tall_0) (f11 : x7 = Int.tdiv (x1) (x3)) (f14 : x4 = Int.tmod (x1) (x3)) (f15 : GRX (wide_0) (tall_0)) (kz_0_146 : (-3999999) ≤ wide_0 ∧ wide_0 ≤ 600000023) (kz_0_147 : (-3999999) ≤ tall_0 ∧ tall_0 ≤ 600000007) : STQ (wide_0) (tall_0) (barredPoint_0) (x1) (x2) (x23) := by
  have g := gok_bd ‹GRX _ _›
  have e3 : x3 = wide_0 := by assumption
  have tm : x4 = x1 % wide_0 := by rw [← e3, ‹x4 = Int.tmod x1 x3›]; exact Int.tmod_eq_emod_of_nonneg (by omega)
  have td : x7 = x1 / wide_0 := by rw [← e3, ‹x7 = Int.tdiv x1 x3›]; exact Int.tdiv_eq_ediv_of_nonneg (by omega)
  have hx : x6 = x1 % wide_0 + dxf x2 := by rw [← tm]; unfold dxf; split; omega; split <;> omega
  have hy : x9 = x1 / wide_0 + dyf x2 := by rw [← td]; unfold dyf; split; omega; split <;> omega
  first
    | exact stq_bar (q := x20) (v := x22) (stq_cell (r := x19) hx hy (by omega) (by rw [← e3]; assumption) (by assumption)) (by assumption) (by omega) (by omega)
set_option maxHeartbeats 4000000 in
theorem vc_Mo_stepTo_26_1 (x1 : Int) (x3 : Int) (x6 : Int) (x9 : Int) (x15 : Int) (x19 : Int) (x20 : Int) (x23 : Int) (wide_0 : Int) (tall_0 : Int) (k1 : 0 ≤ x1 ∧ x1 ≤ 5999) (k23 : (-1) ≤ x23 ∧ x23 ≤ (-1)) (f16 : (0 ≤ x1) ∧ ((x1 + 1) ≤ (wide_0 * tall_0))) (kz_0_146 : (-3999999) ≤ wide_0 ∧ wide_0 ≤ 600000023) (kz_0_147 : (-3999999) ≤ tall_0 ∧ tall_0 ≤ 600000007) : ((-1) ≤ x23) ∧ ((x23 + 1) ≤ (wide_0 * tall_0)) := by
  first
    | omega
def o_Mo_stepTo_26 : or_T := (83, 24, [(0, (2, 0, 0, [165])), (1, (0, 0, 5999, [])), (2, (0, 2, 2, [])), (3, (0, 1, 6000, [])), (4, (0, 0, 5999, [])), (5, (0, -1, -1, [])), (6, (0, 0, 5998, [])), (7, (0, 0, 5999, [])), (8, (0, 0, 0, [])), (9, (0, 0, 5999, [])), (11, (0, 1, 1, [])), (12, (0, 0, 5999, [])), (15, (0, 1, 6000, [])), (16, (0, 1, 1, [])), (17, (0, 0, 5999, [])), (19, (0, 0, 35994000, [])), (20, (0, 0, 5999, [])), (21, (2, 0, 0, [269])), (22, (0, 1, 1, [])), (23, (0, -1, -1, []))], [(8, [22], [1]), (10, [22, 21, 20], []), (9, [21, 0], [143]), (1, [20, 19, 6], []), (3, [19, 9, 3], []), (9, [3, 0], [146]), (2, [17, 15, 16], []), (9, [15, 0], [147]), (2, [12, 3, 11], []), (1, [9, 7, 8], []), (20, [2, 8], [50, 0, 0, 3, 14, 2, 6, 1, 2, 1, 0, 0, 1, 1, 2, 1, 1, 0, 1, 3, 14, 2, 6, 1, 2, 1, 0, 0, 3, 1, 2, 1, 1, 0, -1, 2, 6, 7, 2, 1, 0, 0, 1, 2, 6, 7, 2, 1, 0, 0, 3, 1, 2, 1, 1, 0, 0]), (4, [7, 1, 3], []), (1, [6, 4, 5], []), (20, [2, 5], [50, 0, 0, 3, 14, 2, 6, 1, 2, 1, 0, 0, 0, 1, 2, 1, 1, 0, 1, 3, 14, 2, 6, 1, 2, 1, 0, 0, 2, 1, 2, 1, 1, 0, -1, 2, 6, 7, 2, 1, 0, 0, 0, 2, 6, 7, 2, 1, 0, 0, 2, 1, 2, 1, 1, 0, 0]), (5, [4, 1, 3], []), (20, [0], [60, 2, 0, 494, 146, 147]), (20, [1, 0], [50, 2, 0, 1146, 1147, 2, 6, 0, 2, 0, 0, 1, 0, 0, 6, 4, 2, 1, 0, 0, 1, 6, 3, 2, 1, 146, 2, 1, 147])], [], [], [(20, [0, 1, 2, 23], [60, 2, 1, 505, 146, 147, 143]), (20, [23, 0], [50, 2, 0, 1146, 1147, 2, 6, 0, 2, 0, -1, 1, 0, 0, 6, 4, 2, 1, 0, 0, 1, 6, 3, 2, 1, 146, 2, 1, 147])], [], [(20, 6, 0, 35994000), (20, 4, -1, 35993999), (20, 19, 0, 5998), (9, 17, -4294967296, 0), (17, 15, -1, -1), (6, 12, -4294967296, 0), (12, 3, -1, -1), (9, 7, 0, 0), (6, 4, -1, -1), (6, 3, -4294967296, -2), (4, 3, -4294967295, -1)])
theorem oo_Mo_stepTo_26 {kA : Nat → ClassId} : or_ok PRD kA GG o_Mo_stepTo_26 := by
  refine or_mk fun A ta ws vs hD hth hl => ?_
  intro t0 r0 t1 k1 t2 k2 t3 k3 t4 k4 t5 k5 t6 k6 t7 k7 t8 k8 t9 k9 t11 k11 t12 k12 t15 k15 t16 k16 t17 k17 t19 k19 t20 k20 t21 r21 t22 k22 t23 k23 d0 d1 d2 d3 d4 d5 d6 d7 d8 d9 d10 f0 f1 f2 f3 f4 f5 f6 f7 f8 f9 f10 f11 f12 f13 f14 f15 f16
  replace f1 := shm_107 f1
  replace f2 := shm_1294 f2
  replace f5 := shm_1288 f5
  replace f7 := shm_1293 f7
  replace f11 := shm_34 f11
  have ad_21 : v_ad (n_v vs 21) = w_ar ws (n_v vs 0) 143 := congrArg v_ad f2
  simp only [ad_21] at f1
  have h1 : v_iv (n_v vs 22) = w_ei ws (w_ar ws (n_v vs 0) 143) (v_iv (n_v vs 20)) := f1
  have g5 : v_iv (n_v vs 3) = w_fi ws (n_v vs 0) 146 := congrArg v_iv f5
  have g7 : v_iv (n_v vs 15) = w_fi ws (n_v vs 0) 147 := congrArg v_iv f7
  have kz_0_146 := fdq_179 hD hth r0
  have kz_0_147 := fdq_180 hD hth r0
  have nf0 : fc_1 PRD (20, [0, 1, 2, 23], [60, 2, 1, 505, 146, 147, 143]) ws (vs) := ⟨nf_in hl rfl, sgq_1291 (vc_Mo_stepTo_26_0 (v_iv (n_v vs 1)) (v_iv (n_v vs 2)) (v_iv (n_v vs 3)) (v_iv (n_v vs 4)) (v_iv (n_v vs 6)) (v_iv (n_v vs 7)) (v_iv (n_v vs 9)) (v_iv (n_v vs 12)) (v_iv (n_v vs 15)) (v_iv (n_v vs 17)) (v_iv (n_v vs 19)) (v_iv (n_v vs 20)) (v_iv (n_v vs 22)) (v_iv (n_v vs 23)) (w_ei ws (w_ar ws (n_v vs 0) 143)) (w_fi ws (n_v vs 0) 146) (w_fi ws (n_v vs 0) 147) k1 k2 k3 k4 k6 k7 k9 k12 k15 k17 k19 k20 k22 k23 d3 d4 d5 d6 d7 d8 d9 (shm_142 f0) h1 (shm_12 f3) (shm_38 f4) g5 g7 f11 (shm_468 f14) (shm_1289 f15) kz_0_146 kz_0_147)⟩
  have nf1 : fc_1 PRD (20, [23, 0], [50, 2, 0, 1146, 1147, 2, 6, 0, 2, 0, -1, 1, 0, 0, 6, 4, 2, 1, 0, 0, 1, 6, 3, 2, 1, 146, 2, 1, 147]) ws (vs) := ⟨nf_in hl rfl, sgq_1292 (vc_Mo_stepTo_26_1 (v_iv (n_v vs 1)) (v_iv (n_v vs 3)) (v_iv (n_v vs 6)) (v_iv (n_v vs 9)) (v_iv (n_v vs 15)) (v_iv (n_v vs 19)) (v_iv (n_v vs 20)) (v_iv (n_v vs 23)) (w_fi ws (n_v vs 0) 146) (w_fi ws (n_v vs 0) 147) k1 k23 (shm_1290 f16) kz_0_146 kz_0_147)⟩
  refine ⟨(fun _ h => (by cases h)), [], trivial, ?_, (fun _ h => (by cases h))⟩
  rw [List.append_nil]
  exact List.forall_mem_cons.mpr ⟨⟨show (20 : Nat) < 100 from by decide, nf0⟩, List.forall_mem_cons.mpr ⟨⟨show (20 : Nat) < 100 from by decide, nf1⟩, (fun _ h => (by cases h))⟩⟩
set_option maxHeartbeats 4000000 in
theorem vc_Mo_stepTo_27_0 (x1 : Int) (x2 : Int) (x3 : Int) (x4 : Int) (x6 : Int) (x7 : Int) (x9 : Int) (x12 : Int) (x14 : Int) (wide_0 : Int) (tall_0 : Int) (barredPoint_0 : Int → Int) (k1 : 0 ≤ x1 ∧ x1 ≤ 5999) (k2 : 0 ≤ x2 ∧ x2 ≤ 0) (k3 : 1 ≤ x3 ∧ x3 ≤ 6000) (k4 : 0 ≤ x4 ∧ x4 ≤ 5999) (k6 : 1 ≤ x6 ∧ x6 ≤ 6000) (k7 : 0 ≤ x7 ∧ x7 ≤ 5999) (k9 : 0 ≤ x9 ∧ x9 ≤ 5999) (k12 : 0 ≤ x12 ∧ x12 ≤ 5999) (k14 : (-1) ≤ x14 ∧ x14 ≤ (-1)) (d0 : x12 + 1 ≤ x6 ∧ x6 ≤ x12 + 4294967296) (d1 : x3 + (-1) ≤ x12 ∧ x12 ≤ x3 + (-1)) (d2 : x7 + 0 ≤ x9 ∧ x9 ≤ x7 + 0) (d3 : x4 + 1 ≤ x6 ∧ x6 ≤ x4 + 1) (d4 : x3 + (-4294967294) ≤ x6 ∧ x6 ≤ x3 + 0) (g1 : x3 = wide_0) (f4 : x7 = Int.tdiv (x1) (x3)) (f7 : x4 = Int.tmod (x1) (x3)) (f8 : GRX (wide_0) (tall_0)) (kz_0_146 : (-3999999) ≤ wide_0 ∧ wide_0 ≤ 600000023) (kz_0_147 : (-3999999) ≤ tall_0 ∧ tall_0 ≤ 600000007) : STQ (wide_0) (tall_0) (barredPoint_0) (x1) (x2) (x14) := by
  have g := gok_bd ‹GRX _ _›
  have e3 : x3 = wide_0 := by assumption
  have tm : x4 = x1 % wide_0 := by rw [← e3, ‹x4 = Int.tmod x1 x3›]; exact Int.tmod_eq_emod_of_nonneg (by omega)
  have td : x7 = x1 / wide_0 := by rw [← e3, ‹x7 = Int.tdiv x1 x3›]; exact Int.tdiv_eq_ediv_of_nonneg (by omega)
  have hx : x6 = x1 % wide_0 + dxf x2 := by rw [← tm]; unfold dxf; split; omega; split <;> omega
  have hy : x9 = x1 / wide_0 + dyf x2 := by rw [← td]; unfold dyf; split; omega; split <;> omega
  first
    | exact stq_none hx hy (by omega) (by omega)
set_option maxHeartbeats 4000000 in
theorem vc_Mo_stepTo_27_1 (x1 : Int) (x3 : Int) (x6 : Int) (x9 : Int) (x14 : Int) (wide_0 : Int) (tall_0 : Int) (k1 : 0 ≤ x1 ∧ x1 ≤ 5999) (k14 : (-1) ≤ x14 ∧ x14 ≤ (-1)) (f9 : (0 ≤ x1) ∧ ((x1 + 1) ≤ (wide_0 * tall_0))) (kz_0_146 : (-3999999) ≤ wide_0 ∧ wide_0 ≤ 600000023) (kz_0_147 : (-3999999) ≤ tall_0 ∧ tall_0 ≤ 600000007) : ((-1) ≤ x14) ∧ ((x14 + 1) ≤ (wide_0 * tall_0)) := by
  first
    | omega
def o_Mo_stepTo_27 : or_T := (55, 15, [(0, (2, 0, 0, [165])), (1, (0, 0, 5999, [])), (2, (0, 0, 0, [])), (3, (0, 1, 6000, [])), (4, (0, 0, 5999, [])), (5, (0, 1, 1, [])), (6, (0, 1, 6000, [])), (7, (0, 0, 5999, [])), (8, (0, 0, 0, [])), (9, (0, 0, 5999, [])), (11, (0, 1, 1, [])), (12, (0, 0, 5999, [])), (14, (0, -1, -1, []))], [(2, [12, 3, 11], []), (9, [3, 0], [146]), (1, [9, 7, 8], []), (20, [2, 8], [50, 0, 0, 3, 14, 2, 6, 1, 2, 1, 0, 0, 1, 1, 2, 1, 1, 0, 1, 3, 14, 2, 6, 1, 2, 1, 0, 0, 3, 1, 2, 1, 1, 0, -1, 2, 6, 7, 2, 1, 0, 0, 1, 2, 6, 7, 2, 1, 0, 0, 3, 1, 2, 1, 1, 0, 0]), (4, [7, 1, 3], []), (1, [6, 4, 5], []), (20, [2, 5], [50, 0, 0, 3, 14, 2, 6, 1, 2, 1, 0, 0, 0, 1, 2, 1, 1, 0, 1, 3, 14, 2, 6, 1, 2, 1, 0, 0, 2, 1, 2, 1, 1, 0, -1, 2, 6, 7, 2, 1, 0, 0, 0, 2, 6, 7, 2, 1, 0, 0, 2, 1, 2, 1, 1, 0, 0]), (5, [4, 1, 3], []), (20, [0], [60, 2, 0, 494, 146, 147]), (20, [1, 0], [50, 2, 0, 1146, 1147, 2, 6, 0, 2, 0, 0, 1, 0, 0, 6, 4, 2, 1, 0, 0, 1, 6, 3, 2, 1, 146, 2, 1, 147])], [], [], [(20, [0, 1, 2, 14], [60, 2, 1, 505, 146, 147, 143]), (20, [14, 0], [50, 2, 0, 1146, 1147, 2, 6, 0, 2, 0, -1, 1, 0, 0, 6, 4, 2, 1, 0, 0, 1, 6, 3, 2, 1, 146, 2, 1, 147])], [], [(6, 12, 1, 4294967296), (12, 3, -1, -1), (9, 7, 0, 0), (6, 4, 1, 1), (6, 3, -4294967294, 0), (4, 3, -4294967295, -1)])
theorem oo_Mo_stepTo_27 {kA : Nat → ClassId} : or_ok PRD kA GG o_Mo_stepTo_27 := by
  refine or_mk fun A ta ws vs hD hth hl => ?_
  intro t0 r0 t1 k1 t2 k2 t3 k3 t4 k4 t5 k5 t6 k6 t7 k7 t8 k8 t9 k9 t11 k11 t12 k12 t14 k14 d0 d1 d2 d3 d4 d5 f0 f1 f2 f3 f4 f5 f6 f7 f8 f9
  replace f1 := shm_1288 f1
  replace f4 := shm_34 f4
  have g1 : v_iv (n_v vs 3) = w_fi ws (n_v vs 0) 146 := congrArg v_iv f1
  have kz_0_146 := fdq_179 hD hth r0
  have kz_0_147 := fdq_180 hD hth r0
  have nf0 : fc_1 PRD (20, [0, 1, 2, 14], [60, 2, 1, 505, 146, 147, 143]) ws (vs) := ⟨nf_in hl rfl, sgq_1291 (vc_Mo_stepTo_27_0 (v_iv (n_v vs 1)) (v_iv (n_v vs 2)) (v_iv (n_v vs 3)) (v_iv (n_v vs 4)) (v_iv (n_v vs 6)) (v_iv (n_v vs 7)) (v_iv (n_v vs 9)) (v_iv (n_v vs 12)) (v_iv (n_v vs 14)) (w_fi ws (n_v vs 0) 146) (w_fi ws (n_v vs 0) 147) (w_ei ws (w_ar ws (n_v vs 0) 143)) k1 k2 k3 k4 k6 k7 k9 k12 k14 d0 d1 d2 d3 d4 g1 f4 (shm_468 f7) (shm_1289 f8) kz_0_146 kz_0_147)⟩
  have nf1 : fc_1 PRD (20, [14, 0], [50, 2, 0, 1146, 1147, 2, 6, 0, 2, 0, -1, 1, 0, 0, 6, 4, 2, 1, 0, 0, 1, 6, 3, 2, 1, 146, 2, 1, 147]) ws (vs) := ⟨nf_in hl rfl, sgq_1292 (vc_Mo_stepTo_27_1 (v_iv (n_v vs 1)) (v_iv (n_v vs 3)) (v_iv (n_v vs 6)) (v_iv (n_v vs 9)) (v_iv (n_v vs 14)) (w_fi ws (n_v vs 0) 146) (w_fi ws (n_v vs 0) 147) k1 k14 (shm_1290 f9) kz_0_146 kz_0_147)⟩
  refine ⟨(fun _ h => (by cases h)), [], trivial, ?_, (fun _ h => (by cases h))⟩
  rw [List.append_nil]
  exact List.forall_mem_cons.mpr ⟨⟨show (20 : Nat) < 100 from by decide, nf0⟩, List.forall_mem_cons.mpr ⟨⟨show (20 : Nat) < 100 from by decide, nf1⟩, (fun _ h => (by cases h))⟩⟩
set_option maxHeartbeats 4000000 in
theorem vc_Mo_stepTo_28_r0 (x3 : Int) (x6 : Int) (x9 : Int) (x15 : Int) (tall_0 : Int) (wide_0 : Int) (k15 : (-3999999) ≤ x15 ∧ x15 ≤ 600000007) (g0 : x15 = tall_0) (f9 : GRX (wide_0) (tall_0)) (kz_0_146 : (-3999999) ≤ wide_0 ∧ wide_0 ≤ 600000023) (kz_0_147 : (-3999999) ≤ tall_0 ∧ tall_0 ≤ 600000007) : 1 ≤ x15 ∧ x15 ≤ 6000 := by
  first
    | (have g := gok_bd ‹GRX _ _›; omega)
def o_Mo_stepTo_28 : or_T := (47, 17, [(0, (2, 0, 0, [165])), (1, (0, 0, 5999, [])), (2, (0, 0, 0, [])), (3, (0, 1, 6000, [])), (4, (0, 0, 5999, [])), (5, (0, 1, 1, [])), (6, (0, 1, 5999, [])), (7, (0, 0, 5999, [])), (8, (0, 0, 0, [])), (9, (0, 0, 5999, [])), (11, (0, 1, 1, [])), (12, (0, 1, 5999, [])), (15, (0, -3999999, 600000007, []))], [(9, [15, 0], [147]), (2, [12, 3, 11], []), (9, [3, 0], [146]), (1, [9, 7, 8], []), (20, [2, 8], [50, 0, 0, 3, 14, 2, 6, 1, 2, 1, 0, 0, 1, 1, 2, 1, 1, 0, 1, 3, 14, 2, 6, 1, 2, 1, 0, 0, 3, 1, 2, 1, 1, 0, -1, 2, 6, 7, 2, 1, 0, 0, 1, 2, 6, 7, 2, 1, 0, 0, 3, 1, 2, 1, 1, 0, 0]), (4, [7, 1, 3], []), (1, [6, 4, 5], []), (20, [2, 5], [50, 0, 0, 3, 14, 2, 6, 1, 2, 1, 0, 0, 0, 1, 2, 1, 1, 0, 1, 3, 14, 2, 6, 1, 2, 1, 0, 0, 2, 1, 2, 1, 1, 0, -1, 2, 6, 7, 2, 1, 0, 0, 0, 2, 6, 7, 2, 1, 0, 0, 2, 1, 2, 1, 1, 0, 0]), (5, [4, 1, 3], []), (20, [0], [60, 2, 0, 494, 146, 147]), (20, [1, 0], [50, 2, 0, 1146, 1147, 2, 6, 0, 2, 0, 0, 1, 0, 0, 6, 4, 2, 1, 0, 0, 1, 6, 3, 2, 1, 146, 2, 1, 147])], [(15, (0, 1, 6000, []))], [], [], [], [(6, 12, -4294967296, 0), (12, 3, -1, -1), (9, 7, 0, 0), (6, 4, 1, 1), (6, 3, -4294967294, 0), (4, 3, -4294967295, -1)])
theorem oo_Mo_stepTo_28 {kA : Nat → ClassId} : or_ok PRD kA GG o_Mo_stepTo_28 := by
  refine or_mk fun A ta ws vs hD hth hl => ?_
  intro t0 r0 t1 k1 t2 k2 t3 k3 t4 k4 t5 k5 t6 k6 t7 k7 t8 k8 t9 k9 t11 k11 t12 k12 t15 k15 d0 d1 d2 d3 d4 d5 f0 f1 f2 f3 f4 f5 f6 f7 f8 f9 f10
  replace f0 := shm_1293 f0
  have g0 : v_iv (n_v vs 15) = w_fi ws (n_v vs 0) 147 := congrArg v_iv f0
  have kz_0_146 := fdq_179 hD hth r0
  have kz_0_147 := fdq_180 hD hth r0
  have hrf0 : 1 ≤ v_iv (n_v vs 15) ∧ v_iv (n_v vs 15) ≤ 6000 := vc_Mo_stepTo_28_r0 (v_iv (n_v vs 3)) (v_iv (n_v vs 6)) (v_iv (n_v vs 9)) (v_iv (n_v vs 15)) (w_fi ws (n_v vs 0) 147) (w_fi ws (n_v vs 0) 146) k15 g0 (shm_1289 f9) kz_0_146 kz_0_147
  have rf15 : tv_ok ta (0, 1, 6000, []) (n_v vs 15) := tv_in t15 (by first | omega | grind) (by first | omega | grind)
  refine ⟨List.forall_mem_cons.mpr ⟨rf15, (fun _ h => (by cases h))⟩, [], trivial, ?_, (fun _ h => (by cases h))⟩
  rw [List.append_nil]
  exact (fun _ h => (by cases h))
set_option maxHeartbeats 4000000 in
theorem vc_Mo_stepTo_29_0 (x1 : Int) (x2 : Int) (x3 : Int) (x4 : Int) (x6 : Int) (x7 : Int) (x9 : Int) (x15 : Int) (x17 : Int) (x19 : Int) (tall_0 : Int) (wide_0 : Int) (barredPoint_0 : Int → Int) (k1 : 0 ≤ x1 ∧ x1 ≤ 5999) (k2 : 0 ≤ x2 ∧ x2 ≤ 0) (k3 : 1 ≤ x3 ∧ x3 ≤ 6000) (k4 : 0 ≤ x4 ∧ x4 ≤ 5999) (k6 : 1 ≤ x6 ∧ x6 ≤ 5999) (k7 : 0 ≤ x7 ∧ x7 ≤ 5999) (k9 : 1 ≤ x9 ∧ x9 ≤ 5999) (k15 : 1 ≤ x15 ∧ x15 ≤ 6000) (k17 : 0 ≤ x17 ∧ x17 ≤ 5998) (k19 : (-1) ≤ x19 ∧ x19 ≤ (-1)) (d0 : x17 + 1 ≤ x9 ∧ x9 ≤ x17 + 4294967296) (d1 : x15 + (-1) ≤ x17 ∧ x17 ≤ x15 + (-1)) (d4 : x7 + 0 ≤ x9 ∧ x9 ≤ x7 + 0) (d5 : x4 + 1 ≤ x6 ∧ x6 ≤ x4 + 1) (g1 : x15 = tall_0) (g3 : x3 = wide_0) (f6 : x7 = Int.tdiv (x1) (x3)) (f9 : x4 = Int.tmod (x1) (x3)) (f10 : GRX (wide_0) (tall_0)) (kz_0_146 : (-3999999) ≤ wide_0 ∧ wide_0 ≤ 600000023) (kz_0_147 : (-3999999) ≤ tall_0 ∧ tall_0 ≤ 600000007) : STQ (wide_0) (tall_0) (barredPoint_0) (x1) (x2) (x19) := by
  have g := gok_bd ‹GRX _ _›
  have e3 : x3 = wide_0 := by assumption
  have tm : x4 = x1 % wide_0 := by rw [← e3, ‹x4 = Int.tmod x1 x3›]; exact Int.tmod_eq_emod_of_nonneg (by omega)
  have td : x7 = x1 / wide_0 := by rw [← e3, ‹x7 = Int.tdiv x1 x3›]; exact Int.tdiv_eq_ediv_of_nonneg (by omega)
  have hx : x6 = x1 % wide_0 + dxf x2 := by rw [← tm]; unfold dxf; split; omega; split <;> omega
  have hy : x9 = x1 / wide_0 + dyf x2 := by rw [← td]; unfold dyf; split; omega; split <;> omega
  first
    | exact stq_none hx hy (by omega) (by omega)
set_option maxHeartbeats 4000000 in
theorem vc_Mo_stepTo_29_1 (x1 : Int) (x3 : Int) (x6 : Int) (x9 : Int) (x15 : Int) (x19 : Int) (tall_0 : Int) (wide_0 : Int) (k1 : 0 ≤ x1 ∧ x1 ≤ 5999) (k3 : 1 ≤ x3 ∧ x3 ≤ 6000) (k19 : (-1) ≤ x19 ∧ x19 ≤ (-1)) (g3 : x3 = wide_0) (f11 : (0 ≤ x1) ∧ ((x1 + 1) ≤ (wide_0 * tall_0))) (kz_0_146 : (-3999999) ≤ wide_0 ∧ wide_0 ≤ 600000023) (kz_0_147 : (-3999999) ≤ tall_0 ∧ tall_0 ≤ 600000007) : ((-1) ≤ x19) ∧ ((x19 + 1) ≤ (wide_0 * tall_0)) := by
  first
    | omega
def o_Mo_stepTo_29 : or_T := (55, 20, [(0, (2, 0, 0, [165])), (1, (0, 0, 5999, [])), (2, (0, 0, 0, [])), (3, (0, 1, 6000, [])), (4, (0, 0, 5999, [])), (5, (0, 1, 1, [])), (6, (0, 1, 5999, [])), (7, (0, 0, 5999, [])), (8, (0, 0, 0, [])), (9, (0, 1, 5999, [])), (11, (0, 1, 1, [])), (12, (0, 1, 5999, [])), (15, (0, 1, 6000, [])), (16, (0, 1, 1, [])), (17, (0, 0, 5998, [])), (19, (0, -1, -1, []))], [(2, [17, 15, 16], []), (9, [15, 0], [147]), (2, [12, 3, 11], []), (9, [3, 0], [146]), (1, [9, 7, 8], []), (20, [2, 8], [50, 0, 0, 3, 14, 2, 6, 1, 2, 1, 0, 0, 1, 1, 2, 1, 1, 0, 1, 3, 14, 2, 6, 1, 2, 1, 0, 0, 3, 1, 2, 1, 1, 0, -1, 2, 6, 7, 2, 1, 0, 0, 1, 2, 6, 7, 2, 1, 0, 0, 3, 1, 2, 1, 1, 0, 0]), (4, [7, 1, 3], []), (1, [6, 4, 5], []), (20, [2, 5], [50, 0, 0, 3, 14, 2, 6, 1, 2, 1, 0, 0, 0, 1, 2, 1, 1, 0, 1, 3, 14, 2, 6, 1, 2, 1, 0, 0, 2, 1, 2, 1, 1, 0, -1, 2, 6, 7, 2, 1, 0, 0, 0, 2, 6, 7, 2, 1, 0, 0, 2, 1, 2, 1, 1, 0, 0]), (5, [4, 1, 3], []), (20, [0], [60, 2, 0, 494, 146, 147]), (20, [1, 0], [50, 2, 0, 1146, 1147, 2, 6, 0, 2, 0, 0, 1, 0, 0, 6, 4, 2, 1, 0, 0, 1, 6, 3, 2, 1, 146, 2, 1, 147])], [], [], [(20, [0, 1, 2, 19], [60, 2, 1, 505, 146, 147, 143]), (20, [19, 0], [50, 2, 0, 1146, 1147, 2, 6, 0, 2, 0, -1, 1, 0, 0, 6, 4, 2, 1, 0, 0, 1, 6, 3, 2, 1, 146, 2, 1, 147])], [], [(9, 17, 1, 4294967296), (17, 15, -1, -1), (6, 12, -4294967296, 0), (12, 3, -1, -1), (9, 7, 0, 0), (6, 4, 1, 1), (6, 3, -4294967294, 0), (4, 3, -4294967295, -1)])
theorem oo_Mo_stepTo_29 {kA : Nat → ClassId} : or_ok PRD kA GG o_Mo_stepTo_29 := by
  refine or_mk fun A ta ws vs hD hth hl => ?_
  intro t0 r0 t1 k1 t2 k2 t3 k3 t4 k4 t5 k5 t6 k6 t7 k7 t8 k8 t9 k9 t11 k11 t12 k12 t15 k15 t16 k16 t17 k17 t19 k19 d0 d1 d2 d3 d4 d5 d6 d7 f0 f1 f2 f3 f4 f5 f6 f7 f8 f9 f10 f11
  replace f1 := shm_1293 f1
  replace f3 := shm_1288 f3
  replace f6 := shm_34 f6
  have g1 : v_iv (n_v vs 15) = w_fi ws (n_v vs 0) 147 := congrArg v_iv f1
  have g3 : v_iv (n_v vs 3) = w_fi ws (n_v vs 0) 146 := congrArg v_iv f3
  have kz_0_146 := fdq_179 hD hth r0
  have kz_0_147 := fdq_180 hD hth r0
  have nf0 : fc_1 PRD (20, [0, 1, 2, 19], [60, 2, 1, 505, 146, 147, 143]) ws (vs) := ⟨nf_in hl rfl, sgq_1291 (vc_Mo_stepTo_29_0 (v_iv (n_v vs 1)) (v_iv (n_v vs 2)) (v_iv (n_v vs 3)) (v_iv (n_v vs 4)) (v_iv (n_v vs 6)) (v_iv (n_v vs 7)) (v_iv (n_v vs 9)) (v_iv (n_v vs 15)) (v_iv (n_v vs 17)) (v_iv (n_v vs 19)) (w_fi ws (n_v vs 0) 147) (w_fi ws (n_v vs 0) 146) (w_ei ws (w_ar ws (n_v vs 0) 143)) k1 k2 k3 k4 k6 k7 k9 k15 k17 k19 d0 d1 d4 d5 g1 g3 f6 (shm_468 f9) (shm_1289 f10) kz_0_146 kz_0_147)⟩
  have nf1 : fc_1 PRD (20, [19, 0], [50, 2, 0, 1146, 1147, 2, 6, 0, 2, 0, -1, 1, 0, 0, 6, 4, 2, 1, 0, 0, 1, 6, 3, 2, 1, 146, 2, 1, 147]) ws (vs) := ⟨nf_in hl rfl, sgq_1292 (vc_Mo_stepTo_29_1 (v_iv (n_v vs 1)) (v_iv (n_v vs 3)) (v_iv (n_v vs 6)) (v_iv (n_v vs 9)) (v_iv (n_v vs 15)) (v_iv (n_v vs 19)) (w_fi ws (n_v vs 0) 147) (w_fi ws (n_v vs 0) 146) k1 k3 k19 g3 (shm_1290 f11) kz_0_146 kz_0_147)⟩
  refine ⟨(fun _ h => (by cases h)), [], trivial, ?_, (fun _ h => (by cases h))⟩
  rw [List.append_nil]
  exact List.forall_mem_cons.mpr ⟨⟨show (20 : Nat) < 100 from by decide, nf0⟩, List.forall_mem_cons.mpr ⟨⟨show (20 : Nat) < 100 from by decide, nf1⟩, (fun _ h => (by cases h))⟩⟩

set_option maxHeartbeats 4000000 in
theorem vc_Mo_stepTo_30_r0 (x1 : Int) (x3 : Int) (x4 : Int) (x6 : Int) (x7 : Int) (x9 : Int) (x12 : Int) (x15 : Int) (x17 : Int) (x19 : Int) (x20 : Int) (wide_0 : Int) (tall_0 : Int) (k1 : 0 ≤ x1 ∧ x1 ≤ 5999) (k3 : 1 ≤ x3 ∧ x3 ≤ 6000) (k4 : 0 ≤ x4 ∧ x4 ≤ 5999) (k6 : 1 ≤ x6 ∧ x6 ≤ 5999) (k7 : 0 ≤ x7 ∧ x7 ≤ 5999) (k9 : 0 ≤ x9 ∧ x9 ≤ 5999) (k12 : 1 ≤ x12 ∧ x12 ≤ 5999) (k15 : 1 ≤ x15 ∧ x15 ≤ 6000) (k17 : 0 ≤ x17 ∧ x17 ≤ 5999) (k19 : 0 ≤ x19 ∧ x19 ≤ 35994000) (k20 : 1 ≤ x20 ∧ x20 ≤ 35999999) (d5 : x17 + (-4294967296) ≤ x9 ∧ x9 ≤ x17 + 0) (d6 : x15 + (-1) ≤ x17 ∧ x17 ≤ x15 + (-1)) (d7 : x12 + (-4294967296) ≤ x6 ∧ x6 ≤ x12 + 0) (d8 : x3 + (-1) ≤ x12 ∧ x12 ≤ x3 + (-1)) (d9 : x7 + 0 ≤ x9 ∧ x9 ≤ x7 + 0) (d10 : x4 + 1 ≤ x6 ∧ x6 ≤ x4 + 1) (d11 : x3 + (-4294967294) ≤ x6 ∧ x6 ≤ x3 + 0) (f0 : x20 = x19 + x6) (f1 : x19 = x9 * x3) (g2 : x3 = wide_0) (g4 : x15 = tall_0) (f8 : x7 = Int.tdiv (x1) (x3)) (f11 : x4 = Int.tmod (x1) (x3)) (f12 : GRX (wide_0) (tall_0)) (f13 : (0 ≤ x1) ∧ ((x1 + 1) ≤ (wide_0 * tall_0))) (kz_0_146 : (-3999999) ≤ wide_0 ∧ wide_0 ≤ 600000023) (kz_0_147 : (-3999999) ≤ tall_0 ∧ tall_0 ≤ 600000007) : 1 ≤ x20 ∧ x20 ≤ 5999 := by
  first
    | (have g := gok_bd ‹GRX _ _›; omega)
    | (have g := gok_bd ‹GRX _ _›
       have c := cell_ix (W := x3) (T := x15) (x := x6) (y := x9) (p := x20) (by omega) (by omega) (by omega) (by omega) (by omega) (by rw [‹x20 = x19 + x6›, ‹x19 = x9 * x3›])
       have e3 : x3 = wide_0 := by assumption
       have e15 : x15 = tall_0 := by assumption
       have g3 := ‹GRX _ _›.2.2
       rw [e3, e15] at c
       omega)
def o_Mo_stepTo_30 : or_T := (73, 22, [(0, (2, 0, 0, [165])), (1, (0, 0, 5999, [])), (2, (0, 0, 0, [])), (3, (0, 1, 6000, [])), (4, (0, 0, 5999, [])), (5, (0, 1, 1, [])), (6, (0, 1, 5999, [])), (7, (0, 0, 5999, [])), (8, (0, 0, 0, [])), (9, (0, 0, 5999, [])), (11, (0, 1, 1, [])), (12, (0, 1, 5999, [])), (15, (0, 1, 6000, [])), (16, (0, 1, 1, [])), (17, (0, 0, 5999, [])), (19, (0, 0, 35994000, [])), (20, (0, 1, 35999999, []))], [(1, [20, 19, 6], []), (3, [19, 9, 3], []), (9, [3, 0], [146]), (2, [17, 15, 16], []), (9, [15, 0], [147]), (2, [12, 3, 11], []), (1, [9, 7, 8], []), (20, [2, 8], [50, 0, 0, 3, 14, 2, 6, 1, 2, 1, 0, 0, 1, 1, 2, 1, 1, 0, 1, 3, 14, 2, 6, 1, 2, 1, 0, 0, 3, 1, 2, 1, 1, 0, -1, 2, 6, 7, 2, 1, 0, 0, 1, 2, 6, 7, 2, 1, 0, 0, 3, 1, 2, 1, 1, 0, 0]), (4, [7, 1, 3], []), (1, [6, 4, 5], []), (20, [2, 5], [50, 0, 0, 3, 14, 2, 6, 1, 2, 1, 0, 0, 0, 1, 2, 1, 1, 0, 1, 3, 14, 2, 6, 1, 2, 1, 0, 0, 2, 1, 2, 1, 1, 0, -1, 2, 6, 7, 2, 1, 0, 0, 0, 2, 6, 7, 2, 1, 0, 0, 2, 1, 2, 1, 1, 0, 0]), (5, [4, 1, 3], []), (20, [0], [60, 2, 0, 494, 146, 147]), (20, [1, 0], [50, 2, 0, 1146, 1147, 2, 6, 0, 2, 0, 0, 1, 0, 0, 6, 4, 2, 1, 0, 0, 1, 6, 3, 2, 1, 146, 2, 1, 147])], [(20, (0, 1, 5999, []))], [], [], [], [(20, 6, 0, 35994000), (20, 12, -4294967296, 35994000), (20, 4, 1, 35994001), (20, 3, -4294967294, 35994000), (20, 19, 1, 5999), (9, 17, -4294967296, 0), (17, 15, -1, -1), (6, 12, -4294967296, 0), (12, 3, -1, -1), (9, 7, 0, 0), (6, 4, 1, 1), (6, 3, -4294967294, 0), (4, 3, -4294967295, -1)])
theorem oo_Mo_stepTo_30 {kA : Nat → ClassId} : or_ok PRD kA GG o_Mo_stepTo_30 := by
  refine or_mk fun A ta ws vs hD hth hl => ?_
  intro t0 r0 t1 k1 t2 k2 t3 k3 t4 k4 t5 k5 t6 k6 t7 k7 t8 k8 t9 k9 t11 k11 t12 k12 t15 k15 t16 k16 t17 k17 t19 k19 t20 k20 d0 d1 d2 d3 d4 d5 d6 d7 d8 d9 d10 d11 d12 f0 f1 f2 f3 f4 f5 f6 f7 f8 f9 f10 f11 f12 f13
  replace f2 := shm_1288 f2
  replace f4 := shm_1293 f4
  replace f8 := shm_34 f8
  have g2 : v_iv (n_v vs 3) = w_fi ws (n_v vs 0) 146 := congrArg v_iv f2
  have g4 : v_iv (n_v vs 15) = w_fi ws (n_v vs 0) 147 := congrArg v_iv f4
  have kz_0_146 := fdq_179 hD hth r0
  have kz_0_147 := fdq_180 hD hth r0
  have hrf0 : 1 ≤ v_iv (n_v vs 20) ∧ v_iv (n_v vs 20) ≤ 5999 := vc_Mo_stepTo_30_r0 (v_iv (n_v vs 1)) (v_iv (n_v vs 3)) (v_iv (n_v vs 4)) (v_iv (n_v vs 6)) (v_iv (n_v vs 7)) (v_iv (n_v vs 9)) (v_iv (n_v vs 12)) (v_iv (n_v vs 15)) (v_iv (n_v vs 17)) (v_iv (n_v vs 19)) (v_iv (n_v vs 20)) (w_fi ws (n_v vs 0) 146) (w_fi ws (n_v vs 0) 147) k1 k3 k4 k6 k7 k9 k12 k15 k17 k19 k20 d5 d6 d7 d8 d9 d10 d11 (shm_12 f0) (shm_38 f1) g2 g4 f8 (shm_468 f11) (shm_1289 f12) (shm_1290 f13) kz_0_146 kz_0_147
  have rf20 : tv_ok ta (0, 1, 5999, []) (n_v vs 20) := tv_in t20 (by first | omega | grind) (by first | omega | grind)
  refine ⟨List.forall_mem_cons.mpr ⟨rf20, (fun _ h => (by cases h))⟩, [], trivial, ?_, (fun _ h => (by cases h))⟩
  rw [List.append_nil]
  exact (fun _ h => (by cases h))
set_option maxHeartbeats 4000000 in
theorem vc_Mo_stepTo_31_0 (x1 : Int) (x2 : Int) (x3 : Int) (x4 : Int) (x6 : Int) (x7 : Int) (x9 : Int) (x12 : Int) (x15 : Int) (x17 : Int) (x19 : Int) (x20 : Int) (x22 : Int) (barredPoint_0 : Int → Int) (wide_0 : Int) (tall_0 : Int) (k1 : 0 ≤ x1 ∧ x1 ≤ 5999) (k2 : 0 ≤ x2 ∧ x2 ≤ 0) (k3 : 1 ≤ x3 ∧ x3 ≤ 6000) (k4 : 0 ≤ x4 ∧ x4 ≤ 5999) (k6 : 1 ≤ x6 ∧ x6 ≤ 5999) (k7 : 0 ≤ x7 ∧ x7 ≤ 5999) (k9 : 0 ≤ x9 ∧ x9 ≤ 5999) (k12 : 1 ≤ x12 ∧ x12 ≤ 5999) (k15 : 1 ≤ x15 ∧ x15 ≤ 6000) (k17 : 0 ≤ x17 ∧ x17 ≤ 5999) (k19 : 0 ≤ x19 ∧ x19 ≤ 35994000) (k20 : 1 ≤ x20 ∧ x20 ≤ 5999) (k22 : 0 ≤ x22 ∧ x22 ≤ 0) (d3 : x17 + (-4294967296) ≤ x9 ∧ x9 ≤ x17 + 0) (d4 : x15 + (-1) ≤ x17 ∧ x17 ≤ x15 + (-1)) (d5 : x12 + (-4294967296) ≤ x6 ∧ x6 ≤ x12 + 0) (d6 : x3 + (-1) ≤ x12 ∧ x12 ≤ x3 + (-1)) (d7 : x7 + 0 ≤ x9 ∧ x9 ≤ x7 + 0) (d8 : x4 + 1 ≤ x6 ∧ x6 ≤ x4 + 1) (d9 : x3 + (-4294967294) ≤ x6 ∧ x6 ≤ x3 + 0) (f0 : x22 = 0) (h1 : x22 = barredPoint_0 (x20)) (f3 : x20 = x19 + x6) (f4 : x19 = x9 * x3) (g5 : x3 = wide_0) (g7 : x15 = tall_0) (f11 : x7 = Int.tdiv (x1) (x3)) (f14 : x4 = Int.tmod (x1) (x3)) (f15 : GRX (wide_0) (tall_0)) (kz_0_146 : (-3999999) ≤ wide_0 ∧ wide_0 ≤ 600000023) (kz_0_147 : (-3999999) ≤ tall_0 ∧ tall_0 ≤ 600000007) : STQ (wide_0) (tall_0) (barredPoint_0) (x1) (x2) (x20) := by
  have g := gok_bd ‹GRX _ _›
  have e3 : x3 = wide_0 := by assumption
  have tm : x4 = x1 % wide_0 := by rw [← e3, ‹x4 = Int.tmod x1 x3›]; exact Int.tmod_eq_emod_of_nonneg (by omega)
  have td : x7 = x1 / wide_0 := by rw [← e3, ‹x7 = Int.tdiv x1 x3›]; exact Int.tdiv_eq_ediv_of_nonneg (by omega)
  have hx : x6 = x1 % wide_0 + dxf x2 := by rw [← tm]; unfold dxf; split; omega; split <;> omega
  have hy : x9 = x1 / wide_0 + dyf x2 := by rw [← td]; unfold dyf; split; omega; split <;> omega
  first
    | exact stq_ok (q := x20) (v := x22) (stq_cell (r := x19) hx hy (by omega) (by rw [← e3]; assumption) (by assumption)) (by omega) (by assumption) (by omega) rfl
set_option maxHeartbeats 4000000 in
theorem vc_Mo_stepTo_31_1 (x1 : Int) (x3 : Int) (x4 : Int) (x6 : Int) (x7 : Int) (x9 : Int) (x12 : Int) (x15 : Int) (x17 : Int) (x19 : Int) (x20 : Int) (wide_0 : Int) (tall_0 : Int) (k1 : 0 ≤ x1 ∧ x1 ≤ 5999) (k3 : 1 ≤ x3 ∧ x3 ≤ 6000) (k4 : 0 ≤ x4 ∧ x4 ≤ 5999) (k6 : 1 ≤ x6 ∧ x6 ≤ 5999) (k7 : 0 ≤ x7 ∧ x7 ≤ 5999) (k9 : 0 ≤ x9 ∧ x9 ≤ 5999) (k12 : 1 ≤ x12 ∧ x12 ≤ 5999) (k15 : 1 ≤ x15 ∧ x15 ≤ 6000) (k17 : 0 ≤ x17 ∧ x17 ≤ 5999) (k19 : 0 ≤ x19 ∧ x19 ≤ 35994000) (k20 : 1 ≤ x20 ∧ x20 ≤ 5999) (d3 : x17 + (-4294967296) ≤ x9 ∧ x9 ≤ x17 + 0) (d4 : x15 + (-1) ≤ x17 ∧ x17 ≤ x15 + (-1)) (d5 : x12 + (-4294967296) ≤ x6 ∧ x6 ≤ x12 + 0) (d6 : x3 + (-1) ≤ x12 ∧ x12 ≤ x3 + (-1)) (d7 : x7 + 0 ≤ x9 ∧ x9 ≤ x7 + 0) (d8 : x4 + 1 ≤ x6 ∧ x6 ≤ x4 + 1) (d9 : x3 + (-4294967294) ≤ x6 ∧ x6 ≤ x3 + 0) (f3 : x20 = x19 + x6) (f4 : x19 = x9 * x3) (g5 : x3 = wide_0) (g7 : x15 = tall_0) (f11 : x7 = Int.tdiv (x1) (x3)) (f14 : x4 = Int.tmod (x1) (x3)) (f15 : GRX (wide_0) (tall_0)) (kz_0_146 : (-3999999) ≤ wide_0 ∧ wide_0 ≤ 600000023) (kz_0_147 : (-3999999) ≤ tall_0 ∧ tall_0 ≤ 600000007) : ((-1) ≤ x20) ∧ ((x20 + 1) ≤ (wide_0 * tall_0)) := by
  first
    | (have g := gok_bd ‹GRX _ _›; omega)
    | (have g := gok_bd ‹GRX _ _›
       have c := cell_ix (W := x3) (T := x15) (x := x6) (y := x9) (p := x20) (by omega) (by omega) (by omega) (by omega) (by omega) (by rw [‹x20 = x19 + x6›, ‹x19 = x9 * x3›])
       have e3 : x3 = wide_0 := by assumption
       have e15 : x15 = tall_0 := by assumption
       have g3 := ‹GRX _ _›.2.2
       rw [e3, e15] at c
       omega)
def o_Mo_stepTo_31 : or_T := (83, 23, [(0, (2, 0, 0, [165])), (1, (0, 0, 5999, [])), (2, (0, 0, 0, [])), (3, (0, 1, 6000, [])), (4, (0, 0, 5999, [])), (5, (0, 1, 1, [])), (6, (0, 1, 5999, [])), (7, (0, 0, 5999, [])), (8, (0, 0, 0, [])), (9, (0, 0, 5999, [])), (11, (0, 1, 1, [])), (12, (0, 1, 5999, [])), (15, (0, 1, 6000, [])), (16, (0, 1, 1, [])), (17, (0, 0, 5999, [])), (19, (0, 0, 35994000, [])), (20, (0, 1, 5999, [])), (21, (2, 0, 0, [269])), (22, (0, 0, 0, []))], [(8, [22], [0]), (10, [22, 21, 20], []), (9, [21, 0], [143]), (1, [20, 19, 6], []), (3, [19, 9, 3], []), (9, [3, 0], [146]), (2, [17, 15, 16], []), (9, [15, 0], [147]), (2, [12, 3, 11], []), (1, [9, 7, 8], []), (20, [2, 8], [50, 0, 0, 3, 14, 2, 6, 1, 2, 1, 0, 0, 1, 1, 2, 1, 1, 0, 1, 3, 14, 2, 6, 1, 2, 1, 0, 0, 3, 1, 2, 1, 1, 0, -1, 2, 6, 7, 2, 1, 0, 0, 1, 2, 6, 7, 2, 1, 0, 0, 3, 1, 2, 1, 1, 0, 0]), (4, [7, 1, 3], []), (1, [6, 4, 5], []), (20, [2, 5], [50, 0, 0, 3, 14, 2, 6, 1, 2, 1, 0, 0, 0, 1, 2, 1, 1, 0, 1, 3, 14, 2, 6, 1, 2, 1, 0, 0, 2, 1, 2, 1, 1, 0, -1, 2, 6, 7, 2, 1, 0, 0, 0, 2, 6, 7, 2, 1, 0, 0, 2, 1, 2, 1, 1, 0, 0]), (5, [4, 1, 3], []), (20, [0], [60, 2, 0, 494, 146, 147]), (20, [1, 0], [50, 2, 0, 1146, 1147, 2, 6, 0, 2, 0, 0, 1, 0, 0, 6, 4, 2, 1, 0, 0, 1, 6, 3, 2, 1, 146, 2, 1, 147])], [], [], [(20, [0, 1, 2, 20], [60, 2, 1, 505, 146, 147, 143]), (20, [20, 0], [50, 2, 0, 1146, 1147, 2, 6, 0, 2, 0, -1, 1, 0, 0, 6, 4, 2, 1, 0, 0, 1, 6, 3, 2, 1, 146, 2, 1, 147])], [], [(20, 6, 0, 35994000), (20, 4, 1, 35994001), (20, 19, 1, 5999), (9, 17, -4294967296, 0), (17, 15, -1, -1), (6, 12, -4294967296, 0), (12, 3, -1, -1), (9, 7, 0, 0), (6, 4, 1, 1), (6, 3, -4294967294, 0), (4, 3, -4294967295, -1)])
theorem oo_Mo_stepTo_31 {kA : Nat → ClassId} : or_ok PRD kA GG o_Mo_stepTo_31 := by
  refine or_mk fun A ta ws vs hD hth hl => ?_
  intro t0 r0 t1 k1 t2 k2 t3 k3 t4 k4 t5 k5 t6 k6 t7 k7 t8 k8 t9 k9 t11 k11 t12 k12 t15 k15 t16 k16 t17 k17 t19 k19 t20 k20 t21 r21 t22 k22 d0 d1 d2 d3 d4 d5 d6 d7 d8 d9 d10 f0 f1 f2 f3 f4 f5 f6 f7 f8 f9 f10 f11 f12 f13 f14 f15 f16
  replace f1 := shm_107 f1
  replace f2 := shm_1294 f2
  replace f5 := shm_1288 f5
  replace f7 := shm_1293 f7
  replace f11 := shm_34 f11
  have ad_21 : v_ad (n_v vs 21) = w_ar ws (n_v vs 0) 143 := congrArg v_ad f2
  simp only [ad_21] at f1
  have h1 : v_iv (n_v vs 22) = w_ei ws (w_ar ws (n_v vs 0) 143) (v_iv (n_v vs 20)) := f1
  have g5 : v_iv (n_v vs 3) = w_fi ws (n_v vs 0) 146 := congrArg v_iv f5
  have g7 : v_iv (n_v vs 15) = w_fi ws (n_v vs 0) 147 := congrArg v_iv f7
  have kz_0_146 := fdq_179 hD hth r0
  have kz_0_147 := fdq_180 hD hth r0
  have nf0 : fc_1 PRD (20, [0, 1, 2, 20], [60, 2, 1, 505, 146, 147, 143]) ws (vs) := ⟨nf_in hl rfl, sgq_1291 (vc_Mo_stepTo_31_0 (v_iv (n_v vs 1)) (v_iv (n_v vs 2)) (v_iv (n_v vs 3)) (v_iv (n_v vs 4)) (v_iv (n_v vs 6)) (v_iv (n_v vs 7)) (v_iv (n_v vs 9)) (v_iv (n_v vs 12)) (v_iv (n_v vs 15)) (v_iv (n_v vs 17)) (v_iv (n_v vs 19)) (v_iv (n_v vs 20)) (v_iv (n_v vs 22)) (w_ei ws (w_ar ws (n_v vs 0) 143)) (w_fi ws (n_v vs 0) 146) (w_fi ws (n_v vs 0) 147) k1 k2 k3 k4 k6 k7 k9 k12 k15 k17 k19 k20 k22 d3 d4 d5 d6 d7 d8 d9 (shm_192 f0) h1 (shm_12 f3) (shm_38 f4) g5 g7 f11 (shm_468 f14) (shm_1289 f15) kz_0_146 kz_0_147)⟩
  have nf1 : fc_1 PRD (20, [20, 0], [50, 2, 0, 1146, 1147, 2, 6, 0, 2, 0, -1, 1, 0, 0, 6, 4, 2, 1, 0, 0, 1, 6, 3, 2, 1, 146, 2, 1, 147]) ws (vs) := ⟨nf_in hl rfl, sgq_1292 (vc_Mo_stepTo_31_1 (v_iv (n_v vs 1)) (v_iv (n_v vs 3)) (v_iv (n_v vs 4)) (v_iv (n_v vs 6)) (v_iv (n_v vs 7)) (v_iv (n_v vs 9)) (v_iv (n_v vs 12)) (v_iv (n_v vs 15)) (v_iv (n_v vs 17)) (v_iv (n_v vs 19)) (v_iv (n_v vs 20)) (w_fi ws (n_v vs 0) 146) (w_fi ws (n_v vs 0) 147) k1 k3 k4 k6 k7 k9 k12 k15 k17 k19 k20 d3 d4 d5 d6 d7 d8 d9 (shm_12 f3) (shm_38 f4) g5 g7 f11 (shm_468 f14) (shm_1289 f15) kz_0_146 kz_0_147)⟩
  refine ⟨(fun _ h => (by cases h)), [], trivial, ?_, (fun _ h => (by cases h))⟩
  rw [List.append_nil]
  exact List.forall_mem_cons.mpr ⟨⟨show (20 : Nat) < 100 from by decide, nf0⟩, List.forall_mem_cons.mpr ⟨⟨show (20 : Nat) < 100 from by decide, nf1⟩, (fun _ h => (by cases h))⟩⟩
set_option maxHeartbeats 4000000 in
theorem vc_Mo_stepTo_32_0 (x1 : Int) (x2 : Int) (x3 : Int) (x4 : Int) (x6 : Int) (x7 : Int) (x9 : Int) (x12 : Int) (x15 : Int) (x17 : Int) (x19 : Int) (x20 : Int) (x22 : Int) (x23 : Int) (barredPoint_0 : Int → Int) (wide_0 : Int) (tall_0 : Int) (k1 : 0 ≤ x1 ∧ x1 ≤ 5999) (k2 : 0 ≤ x2 ∧ x2 ≤ 0) (k3 : 1 ≤ x3 ∧ x3 ≤ 6000) (k4 : 0 ≤ x4 ∧ x4 ≤ 5999) (k6 : 1 ≤ x6 ∧ x6 ≤ 5999) (k7 : 0 ≤ x7 ∧ x7 ≤ 5999) (k9 : 0 ≤ x9 ∧ x9 ≤ 5999) (k12 : 1 ≤ x12 ∧ x12 ≤ 5999) (k15 : 1 ≤ x15 ∧ x15 ≤ 6000) (k17 : 0 ≤ x17 ∧ x17 ≤ 5999) (k19 : 0 ≤ x19 ∧ x19 ≤ 35994000) (k20 : 1 ≤ x20 ∧ x20 ≤ 5999) (k22 : 1 ≤ x22 ∧ x22 ≤ 1) (k23 : (-1) ≤ x23 ∧ x23 ≤ (-1)) (d3 : x17 + (-4294967296) ≤ x9 ∧ x9 ≤ x17 + 0) (d4 : x15 + (-1) ≤ x17 ∧ x17 ≤ x15 + (-1)) (d5 : x12 + (-4294967296) ≤ x6 ∧ x6 ≤ x12 + 0) (d6 : x3 + (-1) ≤ x12 ∧ x12 ≤ x3 + (-1)) (d7 : x7 + 0 ≤ x9 ∧ x9 ≤ x7 + 0) (d8 : x4 + 1 ≤ x6 ∧ x6 ≤ x4 + 1) (d9 : x3 + (-4294967294) ≤ x6 ∧ x6 ≤ x3 + 0) (f0 : x22 ≠ 0) (h1 : x22 = barredPoint_0 (x20)) (f3 : x20 = x19 + x6) (f4 : x19 = x9 * x3) (g5 : x3 = wide_0) (g7 : x15 = tall_0) (f11 : x7 = Int.tdiv (x1) (x3)) (f14 : x4 = Int.tmod (x1) (x3)) (f15 : GRX (wide_0) (tall_0)) (kz_0_146 : (-3999999) ≤ wide_0 ∧ wide_0 ≤ 600000023) (kz_0_147 : (-3999999) ≤ tall_0 ∧ tall_0 ≤ 600000007) : STQ (wide_0) (tall_0) (barredPoint_0) (x1) (x2) (x23) := by
  have g := gok_bd ‹GRX _ _›
  have e3 : x3 = wide_0 := by assumption
  have tm : x4 = x1 % wide_0 := by rw [← e3, ‹x4 = Int.tmod x1 x3›]; exact Int.tmod_eq_emod_of_nonneg (by omega)
  have td : x7 = x1 / wide_0 := by rw [← e3, ‹x7 = Int.tdiv x1 x3›]; exact Int.tdiv_eq_ediv_of_nonneg (by omega)
  have hx : x6 = x1 % wide_0 + dxf x2 := by rw [← tm]; unfold dxf; split; omega; split <;> omega
  have hy : x9 = x1 / wide_0 + dyf x2 := by rw [← td]; unfold dyf; split; omega; split <;> omega
  first
    | exact stq_bar (q := x20) (v := x22) (stq_cell (r := x19) hx hy (by omega) (by rw [← e3]; assumption) (by assumption)) (by assumption) (by omega) (by omega)
set_option maxHeartbeats 4000000 in
theorem vc_Mo_stepTo_32_1 (x1 : Int) (x3 : Int) (x6 : Int) (x9 : Int) (x15 : Int) (x19 : Int) (x20 : Int) (x23 : Int) (wide_0 : Int) (tall_0 : Int) (k1 : 0 ≤ x1 ∧ x1 ≤ 5999) (k23 : (-1) ≤ x23 ∧ x23 ≤ (-1)) (f16 : (0 ≤ x1) ∧ ((x1 + 1) ≤ (wide_0 * tall_0))) (kz_0_146 : (-3999999) ≤ wide_0 ∧ wide_0 ≤ 600000023) (kz_0_147 : (-3999999) ≤ tall_0 ∧ tall_0 ≤ 600000007) : ((-1) ≤ x23) ∧ ((x23 + 1) ≤ (wide_0 * tall_0)) := by
  first
    | omega
def o_Mo_stepTo_32 : or_T := (83, 24, [(0, (2, 0, 0, [165])), (1, (0, 0, 5999, [])), (2, (0, 0, 0, [])), (3, (0, 1, 6000, [])), (4, (0, 0, 5999, [])), (5, (0, 1, 1, [])), (6, (0, 1, 5999, [])), (7, (0, 0, 5999, [])), (8, (0, 0, 0, [])), (9, (0, 0, 5999, [])), (11, (0, 1, 1, [])), (12, (0, 1, 5999, [])), (15, (0, 1, 6000, [])), (16, (0, 1, 1, [])), (17, (0, 0, 5999, [])), (19, (0, 0, 35994000, [])), (20, (0, 1, 5999, [])), (21, (2, 0, 0, [269])), (22, (0, 1, 1, [])), (23, (0, -1, -1, []))], [(8, [22], [1]), (10, [22, 21, 20], []), (9, [21, 0], [143]), (1, [20, 19, 6], []), (3, [19, 9, 3], []), (9, [3, 0], [146]), (2, [17, 15, 16], []), (9, [15, 0], [147]), (2, [12, 3, 11], []), (1, [9, 7, 8], []), (20, [2, 8], [50, 0, 0, 3, 14, 2, 6, 1, 2, 1, 0, 0, 1, 1, 2, 1, 1, 0, 1, 3, 14, 2, 6, 1, 2, 1, 0, 0, 3, 1, 2, 1, 1, 0, -1, 2, 6, 7, 2, 1, 0, 0, 1, 2, 6, 7, 2, 1, 0, 0, 3, 1, 2, 1, 1, 0, 0]), (4, [7, 1, 3], []), (1, [6, 4, 5], []), (20, [2, 5], [50, 0, 0, 3, 14, 2, 6, 1, 2, 1, 0, 0, 0, 1, 2, 1, 1, 0, 1, 3, 14, 2, 6, 1, 2, 1, 0, 0, 2, 1, 2, 1, 1, 0, -1, 2, 6, 7, 2, 1, 0, 0, 0, 2, 6, 7, 2, 1, 0, 0, 2, 1, 2, 1, 1, 0, 0]), (5, [4, 1, 3], []), (20, [0], [60, 2, 0, 494, 146, 147]), (20, [1, 0], [50, 2, 0, 1146, 1147, 2, 6, 0, 2, 0, 0, 1, 0, 0, 6, 4, 2, 1, 0, 0, 1, 6, 3, 2, 1, 146, 2, 1, 147])], [], [], [(20, [0, 1, 2, 23], [60, 2, 1, 505, 146, 147, 143]), (20, [23, 0], [50, 2, 0, 1146, 1147, 2, 6, 0, 2, 0, -1, 1, 0, 0, 6, 4, 2, 1, 0, 0, 1, 6, 3, 2, 1, 146, 2, 1, 147])], [], [(20, 6, 0, 35994000), (20, 4, 1, 35994001), (20, 19, 1, 5999), (9, 17, -4294967296, 0), (17, 15, -1, -1), (6, 12, -4294967296, 0), (12, 3, -1, -1), (9, 7, 0, 0), (6, 4, 1, 1), (6, 3, -4294967294, 0), (4, 3, -4294967295, -1)])
theorem oo_Mo_stepTo_32 {kA : Nat → ClassId} : or_ok PRD kA GG o_Mo_stepTo_32 := by
  refine or_mk fun A ta ws vs hD hth hl => ?_
  intro t0 r0 t1 k1 t2 k2 t3 k3 t4 k4 t5 k5 t6 k6 t7 k7 t8 k8 t9 k9 t11 k11 t12 k12 t15 k15 t16 k16 t17 k17 t19 k19 t20 k20 t21 r21 t22 k22 t23 k23 d0 d1 d2 d3 d4 d5 d6 d7 d8 d9 d10 f0 f1 f2 f3 f4 f5 f6 f7 f8 f9 f10 f11 f12 f13 f14 f15 f16
  replace f1 := shm_107 f1
  replace f2 := shm_1294 f2
  replace f5 := shm_1288 f5
  replace f7 := shm_1293 f7
  replace f11 := shm_34 f11
  have ad_21 : v_ad (n_v vs 21) = w_ar ws (n_v vs 0) 143 := congrArg v_ad f2
  simp only [ad_21] at f1
  have h1 : v_iv (n_v vs 22) = w_ei ws (w_ar ws (n_v vs 0) 143) (v_iv (n_v vs 20)) := f1
  have g5 : v_iv (n_v vs 3) = w_fi ws (n_v vs 0) 146 := congrArg v_iv f5
  have g7 : v_iv (n_v vs 15) = w_fi ws (n_v vs 0) 147 := congrArg v_iv f7
  have kz_0_146 := fdq_179 hD hth r0
  have kz_0_147 := fdq_180 hD hth r0
  have nf0 : fc_1 PRD (20, [0, 1, 2, 23], [60, 2, 1, 505, 146, 147, 143]) ws (vs) := ⟨nf_in hl rfl, sgq_1291 (vc_Mo_stepTo_32_0 (v_iv (n_v vs 1)) (v_iv (n_v vs 2)) (v_iv (n_v vs 3)) (v_iv (n_v vs 4)) (v_iv (n_v vs 6)) (v_iv (n_v vs 7)) (v_iv (n_v vs 9)) (v_iv (n_v vs 12)) (v_iv (n_v vs 15)) (v_iv (n_v vs 17)) (v_iv (n_v vs 19)) (v_iv (n_v vs 20)) (v_iv (n_v vs 22)) (v_iv (n_v vs 23)) (w_ei ws (w_ar ws (n_v vs 0) 143)) (w_fi ws (n_v vs 0) 146) (w_fi ws (n_v vs 0) 147) k1 k2 k3 k4 k6 k7 k9 k12 k15 k17 k19 k20 k22 k23 d3 d4 d5 d6 d7 d8 d9 (shm_142 f0) h1 (shm_12 f3) (shm_38 f4) g5 g7 f11 (shm_468 f14) (shm_1289 f15) kz_0_146 kz_0_147)⟩
  have nf1 : fc_1 PRD (20, [23, 0], [50, 2, 0, 1146, 1147, 2, 6, 0, 2, 0, -1, 1, 0, 0, 6, 4, 2, 1, 0, 0, 1, 6, 3, 2, 1, 146, 2, 1, 147]) ws (vs) := ⟨nf_in hl rfl, sgq_1292 (vc_Mo_stepTo_32_1 (v_iv (n_v vs 1)) (v_iv (n_v vs 3)) (v_iv (n_v vs 6)) (v_iv (n_v vs 9)) (v_iv (n_v vs 15)) (v_iv (n_v vs 19)) (v_iv (n_v vs 20)) (v_iv (n_v vs 23)) (w_fi ws (n_v vs 0) 146) (w_fi ws (n_v vs 0) 147) k1 k23 (shm_1290 f16) kz_0_146 kz_0_147)⟩
  refine ⟨(fun _ h => (by cases h)), [], trivial, ?_, (fun _ h => (by cases h))⟩
  rw [List.append_nil]
  exact List.forall_mem_cons.mpr ⟨⟨show (20 : Nat) < 100 from by decide, nf0⟩, List.forall_mem_cons.mpr ⟨⟨show (20 : Nat) < 100 from by decide, nf1⟩, (fun _ h => (by cases h))⟩⟩
def n_Mo_stepTo_an : List an_T := []
def t_Mo_stepTo_ct : ct_L := [(0, 387, e_Mo_in), (0, 1064, e_Mo_dx), (0, 1067, e_Mo_dy)]
set_option maxRecDepth 100000 in
theorem c_Mo_stepTo {l : Launch} {D : va_G} {kA : Nat → ClassId} (h_Mo_dx : ct_ok PRD l D kA GG y_Mo_dx z_Mo_dx e_Mo_dx) (h_Mo_dy : ct_ok PRD l D kA GG y_Mo_dy z_Mo_dy e_Mo_dy) (h_Mo_in : ct_ok PRD l D kA GG y_Mo_in z_Mo_in e_Mo_in) : ct_ok PRD l D kA GG y_Mo_stepTo z_Mo_stepTo e_Mo_stepTo := chk_all_ok (FT := [(327, 13, 143), (1043, 13, 146), (1046, 13, 147)]) (PT := []) (CT := t_Mo_stepTo_ct) (KT := []) (NT := []) (AN := n_Mo_stepTo_an) (OT := [o_Mo_stepTo_0, o_Mo_stepTo_1, o_Mo_stepTo_2, o_Mo_stepTo_3, o_Mo_stepTo_4, o_Mo_stepTo_5, o_Mo_stepTo_6, o_Mo_stepTo_7, o_Mo_stepTo_8, o_Mo_stepTo_9, o_Mo_stepTo_10, o_Mo_stepTo_11, o_Mo_stepTo_12, o_Mo_stepTo_13, o_Mo_stepTo_14, o_Mo_stepTo_15, o_Mo_stepTo_16, o_Mo_stepTo_17, o_Mo_stepTo_18, o_Mo_stepTo_19, o_Mo_stepTo_20, o_Mo_stepTo_21, o_Mo_stepTo_22, o_Mo_stepTo_23, o_Mo_stepTo_24, o_Mo_stepTo_25, o_Mo_stepTo_26, o_Mo_stepTo_27, o_Mo_stepTo_28, o_Mo_stepTo_29, o_Mo_stepTo_30, o_Mo_stepTo_31, o_Mo_stepTo_32]) 0 964 (List.forall_mem_cons.mpr ⟨oo_Mo_stepTo_0, List.forall_mem_cons.mpr ⟨oo_Mo_stepTo_1, List.forall_mem_cons.mpr ⟨oo_Mo_stepTo_2, List.forall_mem_cons.mpr ⟨oo_Mo_stepTo_3, List.forall_mem_cons.mpr ⟨oo_Mo_stepTo_4, List.forall_mem_cons.mpr ⟨oo_Mo_stepTo_5, List.forall_mem_cons.mpr ⟨oo_Mo_stepTo_6, List.forall_mem_cons.mpr ⟨oo_Mo_stepTo_7, List.forall_mem_cons.mpr ⟨oo_Mo_stepTo_8, List.forall_mem_cons.mpr ⟨oo_Mo_stepTo_9, List.forall_mem_cons.mpr ⟨oo_Mo_stepTo_10, List.forall_mem_cons.mpr ⟨oo_Mo_stepTo_11, List.forall_mem_cons.mpr ⟨oo_Mo_stepTo_12, List.forall_mem_cons.mpr ⟨oo_Mo_stepTo_13, List.forall_mem_cons.mpr ⟨oo_Mo_stepTo_14, List.forall_mem_cons.mpr ⟨oo_Mo_stepTo_15, List.forall_mem_cons.mpr ⟨oo_Mo_stepTo_16, List.forall_mem_cons.mpr ⟨oo_Mo_stepTo_17, List.forall_mem_cons.mpr ⟨oo_Mo_stepTo_18, List.forall_mem_cons.mpr ⟨oo_Mo_stepTo_19, List.forall_mem_cons.mpr ⟨oo_Mo_stepTo_20, List.forall_mem_cons.mpr ⟨oo_Mo_stepTo_21, List.forall_mem_cons.mpr ⟨oo_Mo_stepTo_22, List.forall_mem_cons.mpr ⟨oo_Mo_stepTo_23, List.forall_mem_cons.mpr ⟨oo_Mo_stepTo_24, List.forall_mem_cons.mpr ⟨oo_Mo_stepTo_25, List.forall_mem_cons.mpr ⟨oo_Mo_stepTo_26, List.forall_mem_cons.mpr ⟨oo_Mo_stepTo_27, List.forall_mem_cons.mpr ⟨oo_Mo_stepTo_28, List.forall_mem_cons.mpr ⟨oo_Mo_stepTo_29, List.forall_mem_cons.mpr ⟨oo_Mo_stepTo_30, List.forall_mem_cons.mpr ⟨oo_Mo_stepTo_31, List.forall_mem_cons.mpr ⟨oo_Mo_stepTo_32, List.forall_mem_nil _⟩⟩⟩⟩⟩⟩⟩⟩⟩⟩⟩⟩⟩⟩⟩⟩⟩⟩⟩⟩⟩⟩⟩⟩⟩⟩⟩⟩⟩⟩⟩⟩⟩) (by decide +kernel) ⟨List.forall_mem_cons.mpr ⟨gf_Mo_327, List.forall_mem_cons.mpr ⟨gf_Mo_1043, List.forall_mem_cons.mpr ⟨gf_Mo_1046, List.forall_mem_nil _⟩⟩⟩, List.forall_mem_nil _, List.forall_mem_cons.mpr ⟨cl_static (y := y_Mo_in) h_Mo_in wm_2971 wm_9 wm_2969 wm_2970 ⟨by decide, by decide, by decide +kernel⟩ (by decide), List.forall_mem_cons.mpr ⟨cl_static (y := y_Mo_dx) h_Mo_dx wm_3703 wm_9 wm_3701 wm_3702 ⟨by decide, by decide, by decide +kernel⟩ (by decide), List.forall_mem_cons.mpr ⟨cl_static (y := y_Mo_dy) h_Mo_dy wm_3706 wm_9 wm_3704 wm_3705 ⟨by decide, by decide, by decide +kernel⟩ (by decide), List.forall_mem_nil _⟩⟩⟩, List.forall_mem_nil _, List.forall_mem_nil _, GG_pl⟩ (by decide +kernel)
set_option maxHeartbeats 4000000 in
theorem vc_Mo_step_at_gd_0_0 (x1 : Int) (x5 : Int) (now_0 : Int → Int) (k1 : 0 ≤ x1 ∧ x1 ≤ 3) (k5 : 0 ≤ x5 ∧ x5 ≤ 29) (h5 : x5 = now_0 (x1)) : 1 * now_0 (x1) + 0 ≤ 29 := by
  first
    | omega
    | (have q := hE_0_3_1 x1 (by omega); omega)
set_option maxHeartbeats 4000000 in
theorem vc_Mo_step_at_gd_0_1 (x1 : Int) (x7 : Int) (x8 : Int) (now_0 : Int → Int) (k1 : 0 ≤ x1 ∧ x1 ≤ 3) (k7 : 0 ≤ x7 ∧ x7 ≤ 30) (k8 : 0 ≤ x8 ∧ x8 ≤ 66297) (f0 : 1 * x8 + ((-16709) * x1 + ((-539) * x7 + 0)) ≤ 0) (f1 : (-1) * x8 + (16709 * x1 + (539 * x7 + 0)) ≤ 0) (h2 : x7 = now_0 (x1)) : 1 * x8 + ((-16709) * x1 + ((-539) * now_0 (x1) + 0)) ≤ 0 := by
  first
    | omega
    | (have q := hE_0_3_1 x1 (by omega); omega)
set_option maxHeartbeats 4000000 in
theorem vc_Mo_step_at_gd_0_2 (x1 : Int) (x7 : Int) (x8 : Int) (now_0 : Int → Int) (k1 : 0 ≤ x1 ∧ x1 ≤ 3) (k7 : 0 ≤ x7 ∧ x7 ≤ 30) (k8 : 0 ≤ x8 ∧ x8 ≤ 66297) (f0 : 1 * x8 + ((-16709) * x1 + ((-539) * x7 + 0)) ≤ 0) (f1 : (-1) * x8 + (16709 * x1 + (539 * x7 + 0)) ≤ 0) (h2 : x7 = now_0 (x1)) : (-1) * x8 + (16709 * x1 + (539 * now_0 (x1) + 0)) ≤ 0 := by
  first
    | omega
    | (have q := hE_0_3_1 x1 (by omega); omega)
set_option maxHeartbeats 4000000 in
theorem vc_Mo_step_at_gd_0_3 (x1 : Int) (x2 : Int) (x3 : Int) (x5 : Int) (x7 : Int) (x8 : Int) (x9 : Int) (now_0 : Int → Int) (all_0 : Int → Int) (latest_0 : Int → Int) (r_0 : Int) (k1 : 0 ≤ x1 ∧ x1 ≤ 3) (k2 : 0 ≤ x2 ∧ x2 ≤ 48) (k3 : 0 ≤ x3 ∧ x3 ≤ 48) (k5 : 0 ≤ x5 ∧ x5 ≤ 29) (k7 : 0 ≤ x7 ∧ x7 ≤ 30) (k8 : 0 ≤ x8 ∧ x8 ≤ 66297) (k9 : 0 ≤ x9 ∧ x9 ≤ 0) (f0 : 1 * x8 + ((-16709) * x1 + ((-539) * x7 + 0)) ≤ 0) (f1 : (-1) * x8 + (16709 * x1 + (539 * x7 + 0)) ≤ 0) (h2 : x7 = now_0 (x1)) (h5 : x5 = now_0 (x1)) (f6 : RWS (r_0) (all_0) (now_0) (latest_0)) (f7 : r_0 = ((16709 * x1) + (539 * now_0 (x1)))) (f8 : CPd (r_0) (all_0) (x2) (x3)) : T73d (all_0) (now_0) (latest_0) (x1) (x8) (x9) (x2) (x3) := by
  first
    | exact t73_start (t60_now ‹RWS _ _ _ _› (by omega) ‹CPd _ _ _ _› (by omega) (by omega) (by omega)) (by omega) (by omega)
def o_Mo_step_at_gd_0 : or_T := (73, 10, [(1, (0, 0, 3, [])), (2, (0, 0, 48, [])), (3, (0, 0, 48, [])), (5, (0, 0, 29, [])), (7, (0, 0, 30, [])), (8, (0, 0, 66297, [])), (9, (0, 0, 0, []))], [(23, [8, 1, 7], [0, 1, -16709, -539]), (23, [8, 1, 7], [0, -1, 16709, 539]), (10, [7, 4, 1], []), (9, [4, 0], [3]), (10, [5, 4, 1], []), (20, [0], [60, 1, 3, 199, 5, 2, 3, 4]), (20, [0, 1], [50, 1, 1, 5, 3, 1, 3, 2, 0, 5, 4, 6, 6, 2, 0, 16709, 1, 1, 6, 2, 0, 539, 3, 0, 3, 1, 1]), (20, [0, 2, 3], [60, 1, 1, 224, 5, 2])], [], [], [(20, [0, 1], [30, 29, 1, 2, 3]), (20, [8, 1, 0, 1], [30, 0, 1, 0, 0, -16709, 0, 0, -539, 2, 3]), (20, [8, 1, 0, 1], [30, 0, -1, 0, 0, 16709, 0, 0, 539, 2, 3]), (20, [0, 1, 8, 9, 2, 3], [60, 0, 3, 226, 2, 3, 4]), (24, [0, 0], []), (24, [1, 1], [])], [], [])
theorem oo_Mo_step_at_gd_0 {kA : Nat → ClassId} : or_ok PRD kA GG o_Mo_step_at_gd_0 := by
  refine or_mk fun A ta ws vs hD hth hl => ?_
  intro t1 k1 t2 k2 t3 k3 t5 k5 t7 k7 t8 k8 t9 k9 f0 f1 f2 f3 f5 f6 f7 f8
  replace f2 := shm_107 f2
  replace f3 := shm_137 f3
  replace f5 := shm_107 f5
  have ad_4 : v_ad (n_v vs 4) = w_ar ws (n_v vs 0) 3 := congrArg v_ad f3
  simp only [ad_4] at f2
  have h2 : v_iv (n_v vs 7) = w_ei ws (w_ar ws (n_v vs 0) 3) (v_iv (n_v vs 1)) := f2
  simp only [ad_4] at f5
  have h5 : v_iv (n_v vs 5) = w_ei ws (w_ar ws (n_v vs 0) 3) (v_iv (n_v vs 1)) := f5
  have nf0 : fc_1 PRD (20, [0, 1], [30, 29, 1, 2, 3]) ws (vs) := ⟨nf_in hl rfl, sgq_1296 (vc_Mo_step_at_gd_0_0 (v_iv (n_v vs 1)) (v_iv (n_v vs 5)) (w_ei ws (w_ar ws (n_v vs 0) 3)) k1 k5 h5)⟩
  have nf1 : fc_1 PRD (20, [8, 1, 0, 1], [30, 0, 1, 0, 0, -16709, 0, 0, -539, 2, 3]) ws (vs) := ⟨nf_in hl rfl, sgq_1297 (vc_Mo_step_at_gd_0_1 (v_iv (n_v vs 1)) (v_iv (n_v vs 7)) (v_iv (n_v vs 8)) (w_ei ws (w_ar ws (n_v vs 0) 3)) k1 k7 k8 (shm_128 f0) (shm_129 f1) h2)⟩
  have nf2 : fc_1 PRD (20, [8, 1, 0, 1], [30, 0, -1, 0, 0, 16709, 0, 0, 539, 2, 3]) ws (vs) := ⟨nf_in hl rfl, sgq_1298 (vc_Mo_step_at_gd_0_2 (v_iv (n_v vs 1)) (v_iv (n_v vs 7)) (v_iv (n_v vs 8)) (w_ei ws (w_ar ws (n_v vs 0) 3)) k1 k7 k8 (shm_128 f0) (shm_129 f1) h2)⟩
  have nf3 : fc_1 PRD (20, [0, 1, 8, 9, 2, 3], [60, 0, 3, 226, 2, 3, 4]) ws (vs) := ⟨nf_in hl rfl, sgq_1299 (vc_Mo_step_at_gd_0_3 (v_iv (n_v vs 1)) (v_iv (n_v vs 2)) (v_iv (n_v vs 3)) (v_iv (n_v vs 5)) (v_iv (n_v vs 7)) (v_iv (n_v vs 8)) (v_iv (n_v vs 9)) (w_ei ws (w_ar ws (n_v vs 0) 3)) (w_ei ws (w_ar ws (n_v vs 0) 2)) (w_ei ws (w_ar ws (n_v vs 0) 4)) (w_fi ws (n_v vs 0) 5) k1 k2 k3 k5 k7 k8 k9 (shm_128 f0) (shm_129 f1) h2 h5 (shm_980 f6) (shm_1037 f7) (shm_1295 f8))⟩
  have nf4 : fc_1 PRD (24, [0, 0], []) ws (vs) := by
    refine ⟨nf_in hl rfl, sgq_1 ?_⟩
    · show n_v vs 0 = n_v vs 0
      first | rfl | simp only [true_and]
  have nf5 : fc_1 PRD (24, [1, 1], []) ws (vs) := by
    refine ⟨nf_in hl rfl, sgq_1 ?_⟩
    · show n_v vs 1 = n_v vs 1
      first | rfl | simp only [true_and]
  refine ⟨(fun _ h => (by cases h)), [], trivial, ?_, (fun _ h => (by cases h))⟩
  rw [List.append_nil]
  exact List.forall_mem_cons.mpr ⟨⟨show (20 : Nat) < 100 from by decide, nf0⟩, List.forall_mem_cons.mpr ⟨⟨show (20 : Nat) < 100 from by decide, nf1⟩, List.forall_mem_cons.mpr ⟨⟨show (20 : Nat) < 100 from by decide, nf2⟩, List.forall_mem_cons.mpr ⟨⟨show (20 : Nat) < 100 from by decide, nf3⟩, List.forall_mem_cons.mpr ⟨⟨show (24 : Nat) < 100 from by decide, nf4⟩, List.forall_mem_cons.mpr ⟨⟨show (24 : Nat) < 100 from by decide, nf5⟩, (fun _ h => (by cases h))⟩⟩⟩⟩⟩⟩
set_option maxHeartbeats 4000000 in
theorem vc_Mo_step_at_gd_1_0 (x1 : Int) (x5 : Int) (now_0 : Int → Int) (k1 : 0 ≤ x1 ∧ x1 ≤ 3) (k5 : 30 ≤ x5 ∧ x5 ≤ 30) (h1 : x5 = now_0 (x1)) : (-1) * now_0 (x1) + 0 ≤ (-30) := by
  first | omega
set_option maxHeartbeats 4000000 in
theorem vc_Mo_step_at_gd_1_1 (x1 : Int) (x2 : Int) (x3 : Int) (x5 : Int) (x7 : Int) (now_0 : Int → Int) (all_0 : Int → Int) (latest_0 : Int → Int) (r_0 : Int) (k1 : 0 ≤ x1 ∧ x1 ≤ 3) (k2 : 0 ≤ x2 ∧ x2 ≤ 48) (k3 : 0 ≤ x3 ∧ x3 ≤ 48) (k5 : 30 ≤ x5 ∧ x5 ≤ 30) (k7 : 0 ≤ x7 ∧ x7 ≤ 0) (h1 : x5 = now_0 (x1)) (f3 : RWS (r_0) (all_0) (now_0) (latest_0)) (f4 : r_0 = ((16709 * x1) + (539 * now_0 (x1)))) (f5 : CPd (r_0) (all_0) (x2) (x3)) : T13d (all_0) (now_0) (latest_0) (x1) (x7) (x2) (x3) := by
  first
    | exact t13_start ‹RWS _ _ _ _› (by omega) ‹CPd _ _ _ _› (by omega) (by omega) (by omega) (by omega)
def o_Mo_step_at_gd_1 : or_T := (13, 8, [(1, (0, 0, 3, [])), (2, (0, 0, 48, [])), (3, (0, 0, 48, [])), (5, (0, 30, 30, [])), (7, (0, 0, 0, []))], [(10, [5, 4, 1], []), (9, [4, 0], [3]), (20, [0], [60, 1, 3, 199, 5, 2, 3, 4]), (20, [0, 1], [50, 1, 1, 5, 3, 1, 3, 2, 0, 5, 4, 6, 6, 2, 0, 16709, 1, 1, 6, 2, 0, 539, 3, 0, 3, 1, 1]), (20, [0, 2, 3], [60, 1, 1, 224, 5, 2])], [], [], [(20, [0, 1], [30, -30, -1, 2, 3]), (20, [0, 1, 7, 2, 3], [60, 0, 3, 225, 2, 3, 4]), (24, [0, 0], []), (24, [1, 1], [])], [], [])
theorem oo_Mo_step_at_gd_1 {kA : Nat → ClassId} : or_ok PRD kA GG o_Mo_step_at_gd_1 := by
  refine or_mk fun A ta ws vs hD hth hl => ?_
  intro t1 k1 t2 k2 t3 k3 t5 k5 t7 k7 f1 f2 f3 f4 f5
  replace f1 := shm_107 f1
  replace f2 := shm_137 f2
  have ad_4 : v_ad (n_v vs 4) = w_ar ws (n_v vs 0) 3 := congrArg v_ad f2
  simp only [ad_4] at f1
  have h1 : v_iv (n_v vs 5) = w_ei ws (w_ar ws (n_v vs 0) 3) (v_iv (n_v vs 1)) := f1
  have nf0 : fc_1 PRD (20, [0, 1], [30, -30, -1, 2, 3]) ws (vs) := ⟨nf_in hl rfl, sgq_1300 (vc_Mo_step_at_gd_1_0 (v_iv (n_v vs 1)) (v_iv (n_v vs 5)) (w_ei ws (w_ar ws (n_v vs 0) 3)) k1 k5 h1)⟩
  have nf1 : fc_1 PRD (20, [0, 1, 7, 2, 3], [60, 0, 3, 225, 2, 3, 4]) ws (vs) := ⟨nf_in hl rfl, sgq_1301 (vc_Mo_step_at_gd_1_1 (v_iv (n_v vs 1)) (v_iv (n_v vs 2)) (v_iv (n_v vs 3)) (v_iv (n_v vs 5)) (v_iv (n_v vs 7)) (w_ei ws (w_ar ws (n_v vs 0) 3)) (w_ei ws (w_ar ws (n_v vs 0) 2)) (w_ei ws (w_ar ws (n_v vs 0) 4)) (w_fi ws (n_v vs 0) 5) k1 k2 k3 k5 k7 h1 (shm_980 f3) (shm_1037 f4) (shm_1295 f5))⟩
  have nf2 : fc_1 PRD (24, [0, 0], []) ws (vs) := by
    refine ⟨nf_in hl rfl, sgq_1 ?_⟩
    · show n_v vs 0 = n_v vs 0
      first | rfl | simp only [true_and]
  have nf3 : fc_1 PRD (24, [1, 1], []) ws (vs) := by
    refine ⟨nf_in hl rfl, sgq_1 ?_⟩
    · show n_v vs 1 = n_v vs 1
      first | rfl | simp only [true_and]
  refine ⟨(fun _ h => (by cases h)), [], trivial, ?_, (fun _ h => (by cases h))⟩
  rw [List.append_nil]
  exact List.forall_mem_cons.mpr ⟨⟨show (20 : Nat) < 100 from by decide, nf0⟩, List.forall_mem_cons.mpr ⟨⟨show (20 : Nat) < 100 from by decide, nf1⟩, List.forall_mem_cons.mpr ⟨⟨show (24 : Nat) < 100 from by decide, nf2⟩, List.forall_mem_cons.mpr ⟨⟨show (24 : Nat) < 100 from by decide, nf3⟩, (fun _ h => (by cases h))⟩⟩⟩⟩
def o_Mo_step_at_gd_2 : or_T := (59, 12, [(0, (2, 0, 0, [165])), (1, (0, 0, 3, [])), (2, (0, 0, 48, [])), (3, (0, 0, 48, [])), (4, (2, 0, 0, [165])), (5, (0, 0, 3, [])), (6, (0, 16170, 16170, [])), (7, (0, 16170, 16170, [])), (8, (2, 0, 0, [168])), (9, (0, 0, 30, [])), (10, (0, 1, 1, [])), (11, (0, -1, 29, []))], [(2, [11, 9, 10], []), (10, [9, 8, 5], []), (9, [8, 4], [3]), (7, [6, 7], [3]), (20, [4, 5], [30, -30, -1, 2, 3]), (20, [4, 5, 6, 2, 3], [60, 0, 3, 225, 2, 3, 4]), (24, [0, 4], []), (24, [1, 5], [])], [(11, (0, 0, 29, []))], [], [], [], [(11, 9, -1, -1), (1, 5, -4294967296, 0), (5, 1, -4294967296, 0)])
theorem oo_Mo_step_at_gd_2 {kA : Nat → ClassId} : or_ok PRD kA GG o_Mo_step_at_gd_2 := by
  refine or_mk fun A ta ws vs hD hth hl => ?_
  intro t0 r0 t1 k1 t2 k2 t3 k3 t4 r4 t5 k5 t6 k6 t7 k7 t8 r8 t9 k9 t10 k10 t11 k11 d0 d1 d2 f0 f1 f2 f3 f4 f5 f6 f7
  replace f0 := shm_14 f0
  replace f1 := shm_107 f1
  replace f2 := shm_137 f2
  replace f3 := shm_2 f3
  replace f4 := shm_1300 f4
  replace f5 := shm_1301 f5
  replace f6 := shm_5 f6
  replace f7 := shm_5 f7
  have q4 : n_v vs 4 = n_v vs 0 := f6.symm
  have q5 : n_v vs 5 = n_v vs 1 := f7.symm
  simp only [q5, q4] at f1 f2 f4 f5
  have cr_0_2 := fdq_10 hD hth r0
  have cr_0_3 := fdq_142 hD hth r0
  have cr_0_4 := fdq_143 hD hth r0
  have ad_8 : v_ad (n_v vs 8) = w_ar ws (n_v vs 0) 3 := congrArg v_ad f2
  simp only [ad_8] at f1
  have h1 : v_iv (n_v vs 9) = w_ei ws (w_ar ws (n_v vs 0) 3) (v_iv (n_v vs 1)) := f1
  have br_0_3_1_0 : w_ei ws (w_ar ws (n_v vs 0) 3) (v_iv (n_v vs 1)) = w_el ws (w_ar ws (n_v vs 0) 3) (v_iv (n_v vs 1)).toNat := rfl
  have hK_0_3 := elq_80 hD hth cr_0_3
  have hK_0_4 := elq_81 hD hth cr_0_4
  have rf11 : tv_ok ta (0, 0, 29, []) (n_v vs 11) := tv_in t11 (by first | omega | grind) (by first | omega | grind)
  refine ⟨List.forall_mem_cons.mpr ⟨rf11, (fun _ h => (by cases h))⟩, [], trivial, ?_, (fun _ h => (by cases h))⟩
  rw [List.append_nil]
  exact (fun _ h => (by cases h))
set_option maxHeartbeats 4000000 in
theorem vc_Mo_step_at_gd_3_0 (x1 : Int) (x5 : Int) (x9 : Int) (x11 : Int) (x12 : Int) (now_0 : Int → Int) (now_1 : Int → Int) (all_1 : Int → Int) (latest_1 : Int → Int) (all_0 : Int → Int) (latest_0 : Int → Int) (k1 : 0 ≤ x1 ∧ x1 ≤ 3) (k5 : 0 ≤ x5 ∧ x5 ≤ 3) (k9 : 0 ≤ x9 ∧ x9 ≤ 30) (k11 : 0 ≤ x11 ∧ x11 ≤ 29) (k12 : 0 ≤ x12 ∧ x12 ≤ 30) (d0 : x9 + (-1) ≤ x11 ∧ x11 ≤ x9 + (-1)) (d1 : x5 + (-4294967296) ≤ x1 ∧ x1 ≤ x5 + 0) (d2 : x1 + (-4294967296) ≤ x5 ∧ x5 ≤ x1 + 0) (h2 : x12 = now_0 (x1)) (h8 : x9 = now_1 (x1)) (f10 : (-1) * now_1 (x1) + 0 ≤ (-30)) (hE_0_2_1 : ∀ j : Int, all_0 j = all_1 j) (hE_0_3_1 : ∀ j : Int, 0 ≤ j → (j = x1 → now_0 j = x11) ∧ (j ≠ x1 → now_0 j = now_1 j)) (hE_0_4_1 : ∀ j : Int, latest_0 j = latest_1 j) : 1 * now_0 (x1) + 0 ≤ 29 := by
  have e_hE_0_2_1 := funext hE_0_2_1; subst e_hE_0_2_1
  have e_hE_0_4_1 := funext hE_0_4_1; subst e_hE_0_4_1
  first
    | omega
    | (have q := hE_0_3_1 x1 (by omega); omega)
set_option maxHeartbeats 4000000 in
theorem vc_Mo_step_at_gd_3_1 (x1 : Int) (x5 : Int) (x11 : Int) (x12 : Int) (x13 : Int) (now_0 : Int → Int) (now_1 : Int → Int) (all_1 : Int → Int) (latest_1 : Int → Int) (all_0 : Int → Int) (latest_0 : Int → Int) (k1 : 0 ≤ x1 ∧ x1 ≤ 3) (k5 : 0 ≤ x5 ∧ x5 ≤ 3) (k11 : 0 ≤ x11 ∧ x11 ≤ 29) (k12 : 0 ≤ x12 ∧ x12 ≤ 30) (k13 : 0 ≤ x13 ∧ x13 ≤ 66297) (d1 : x5 + (-4294967296) ≤ x1 ∧ x1 ≤ x5 + 0) (d2 : x1 + (-4294967296) ≤ x5 ∧ x5 ≤ x1 + 0) (f0 : 1 * x13 + ((-16709) * x1 + ((-539) * x12 + 0)) ≤ 0) (f1 : (-1) * x13 + (16709 * x1 + (539 * x12 + 0)) ≤ 0) (h2 : x12 = now_0 (x1)) (hE_0_2_1 : ∀ j : Int, all_0 j = all_1 j) (hE_0_3_1 : ∀ j : Int, 0 ≤ j → (j = x1 → now_0 j = x11) ∧ (j ≠ x1 → now_0 j = now_1 j)) (hE_0_4_1 : ∀ j : Int, latest_0 j = latest_1 j) : 1 * x13 + ((-16709) * x1 + ((-539) * now_0 (x1) + 0)) ≤ 0 := by
  have e_hE_0_2_1 := funext hE_0_2_1; subst e_hE_0_2_1
  have e_hE_0_4_1 := funext hE_0_4_1; subst e_hE_0_4_1
  first
    | omega
    | (have q := hE_0_3_1 x1 (by omega); omega)
set_option maxHeartbeats 4000000 in
theorem vc_Mo_step_at_gd_3_2 (x1 : Int) (x5 : Int) (x11 : Int) (x12 : Int) (x13 : Int) (now_0 : Int → Int) (now_1 : Int → Int) (all_1 : Int → Int) (latest_1 : Int → Int) (all_0 : Int → Int) (latest_0 : Int → Int) (k1 : 0 ≤ x1 ∧ x1 ≤ 3) (k5 : 0 ≤ x5 ∧ x5 ≤ 3) (k11 : 0 ≤ x11 ∧ x11 ≤ 29) (k12 : 0 ≤ x12 ∧ x12 ≤ 30) (k13 : 0 ≤ x13 ∧ x13 ≤ 66297) (d1 : x5 + (-4294967296) ≤ x1 ∧ x1 ≤ x5 + 0) (d2 : x1 + (-4294967296) ≤ x5 ∧ x5 ≤ x1 + 0) (f0 : 1 * x13 + ((-16709) * x1 + ((-539) * x12 + 0)) ≤ 0) (f1 : (-1) * x13 + (16709 * x1 + (539 * x12 + 0)) ≤ 0) (h2 : x12 = now_0 (x1)) (hE_0_2_1 : ∀ j : Int, all_0 j = all_1 j) (hE_0_3_1 : ∀ j : Int, 0 ≤ j → (j = x1 → now_0 j = x11) ∧ (j ≠ x1 → now_0 j = now_1 j)) (hE_0_4_1 : ∀ j : Int, latest_0 j = latest_1 j) : (-1) * x13 + (16709 * x1 + (539 * now_0 (x1) + 0)) ≤ 0 := by
  have e_hE_0_2_1 := funext hE_0_2_1; subst e_hE_0_2_1
  have e_hE_0_4_1 := funext hE_0_4_1; subst e_hE_0_4_1
  first
    | omega
    | (have q := hE_0_3_1 x1 (by omega); omega)
set_option maxHeartbeats 4000000 in
theorem vc_Mo_step_at_gd_3_3 (x1 : Int) (x2 : Int) (x3 : Int) (x5 : Int) (x6 : Int) (x9 : Int) (x11 : Int) (x12 : Int) (x13 : Int) (x14 : Int) (now_0 : Int → Int) (now_1 : Int → Int) (all_1 : Int → Int) (latest_1 : Int → Int) (all_0 : Int → Int) (latest_0 : Int → Int) (k1 : 0 ≤ x1 ∧ x1 ≤ 3) (k2 : 0 ≤ x2 ∧ x2 ≤ 48) (k3 : 0 ≤ x3 ∧ x3 ≤ 48) (k5 : 0 ≤ x5 ∧ x5 ≤ 3) (k6 : 16170 ≤ x6 ∧ x6 ≤ 16170) (k9 : 0 ≤ x9 ∧ x9 ≤ 30) (k11 : 0 ≤ x11 ∧ x11 ≤ 29) (k12 : 0 ≤ x12 ∧ x12 ≤ 30) (k13 : 0 ≤ x13 ∧ x13 ≤ 66297) (k14 : 0 ≤ x14 ∧ x14 ≤ 0) (d0 : x9 + (-1) ≤ x11 ∧ x11 ≤ x9 + (-1)) (d1 : x5 + (-4294967296) ≤ x1 ∧ x1 ≤ x5 + 0) (d2 : x1 + (-4294967296) ≤ x5 ∧ x5 ≤ x1 + 0) (f0 : 1 * x13 + ((-16709) * x1 + ((-539) * x12 + 0)) ≤ 0) (f1 : (-1) * x13 + (16709 * x1 + (539 * x12 + 0)) ≤ 0) (h2 : x12 = now_0 (x1)) (h8 : x9 = now_1 (x1)) (f11 : T13d (all_1) (now_1) (latest_1) (x1) (x6) (x2) (x3)) (hE_0_2_1 : ∀ j : Int, all_0 j = all_1 j) (hE_0_3_1 : ∀ j : Int, 0 ≤ j → (j = x1 → now_0 j = x11) ∧ (j ≠ x1 → now_0 j = now_1 j)) (hE_0_4_1 : ∀ j : Int, latest_0 j = latest_1 j) : T73d (all_0) (now_0) (latest_0) (x1) (x13) (x14) (x2) (x3) := by
  have e_hE_0_2_1 := funext hE_0_2_1; subst e_hE_0_2_1
  have e_hE_0_4_1 := funext hE_0_4_1; subst e_hE_0_4_1
  first
    | exact t73_start (t60_shift ‹T13d _ _ _ _ _ _ _› (by omega) (by assumption) (by omega) (by omega)) (by omega) (by omega)
def o_Mo_step_at_gd_3 : or_T := (73, 15, [(0, (2, 0, 0, [165])), (1, (0, 0, 3, [])), (2, (0, 0, 48, [])), (3, (0, 0, 48, [])), (5, (0, 0, 3, [])), (6, (0, 16170, 16170, [])), (8, (2, 0, 0, [168])), (9, (0, 0, 30, [])), (11, (0, 0, 29, [])), (12, (0, 0, 30, [])), (13, (0, 0, 66297, [])), (14, (0, 0, 0, []))], [(23, [13, 5, 12], [0, 1, -16709, -539]), (23, [13, 5, 12], [0, -1, 16709, 539]), (10, [12, 8, 5], []), (9, [8, 4], [3]), (24, [0, 4], []), (24, [1, 5], []), (100, [8, 5, 11], []), (10, [9, 8, 5], []), (20, [4, 5], [30, -30, -1, 2, 3]), (20, [4, 5, 6, 2, 3], [60, 0, 3, 225, 2, 3, 4])], [], [], [(20, [4, 5], [30, 29, 1, 2, 3]), (20, [13, 5, 4, 5], [30, 0, 1, 0, 0, -16709, 0, 0, -539, 2, 3]), (20, [13, 5, 4, 5], [30, 0, -1, 0, 0, 16709, 0, 0, 539, 2, 3]), (20, [4, 5, 13, 14, 2, 3], [60, 0, 3, 226, 2, 3, 4])], [], [(11, 9, -1, -1), (1, 5, -4294967296, 0), (5, 1, -4294967296, 0)])
theorem oo_Mo_step_at_gd_3 {kA : Nat → ClassId} : or_ok PRD kA GG o_Mo_step_at_gd_3 := by
  refine or_mk fun A ta ws vs hD hth hl => ?_
  intro t0 r0 t1 k1 t2 k2 t3 k3 t5 k5 t6 k6 t8 r8 t9 k9 t11 k11 t12 k12 t13 k13 t14 k14 d0 d1 d2 f0 f1 f2 f3 f4 f5 ta1 w1 le1 s1 f8 f10 f11
  replace f0 := shm_128 f0
  replace f1 := shm_129 f1
  replace f2 := shm_107 f2
  replace f3 := shm_137 f3
  replace f4 := shm_5 f4
  replace f5 := shm_5 f5
  have s1 : (∀ b j, w_el ws b j = if b = v_ad (n_v vs 8) ∧ j = (v_iv (n_v vs 5)).toNat then v_iv (n_v vs 11) else w_el w1 b j) ∧ ∀ b k, w_fd ws b k = w_fd w1 b k := s1.2
  replace f8 := shm_107 f8
  replace f10 := shm_1300 f10
  replace f11 := shm_1301 f11
  have q4 : n_v vs 4 = n_v vs 0 := f4.symm
  have q5 : n_v vs 5 = n_v vs 1 := f5.symm
  simp only [q5, q4] at f0 f1 f2 f3
  rw [q5] at s1
  simp only [q5, q4] at f8 f10 f11
  have ar_0_2_1 : w_ar w1 (n_v vs 0) 2 = w_ar ws (n_v vs 0) 2 := congrArg v_ad (s1.2 _ _).symm
  have cr_0_2 := fdq_10 hD hth r0
  have ar_0_3_1 : w_ar w1 (n_v vs 0) 3 = w_ar ws (n_v vs 0) 3 := congrArg v_ad (s1.2 _ _).symm
  have ar_0_4_1 : w_ar w1 (n_v vs 0) 4 = w_ar ws (n_v vs 0) 4 := congrArg v_ad (s1.2 _ _).symm
  have cr_0_4 := fdq_143 hD hth r0
  have ad_8 : v_ad (n_v vs 8) = w_ar ws (n_v vs 0) 3 := congrArg v_ad f3
  simp only [ad_8] at f2
  have h2 : v_iv (n_v vs 12) = w_ei ws (w_ar ws (n_v vs 0) 3) (v_iv (n_v vs 1)) := f2
  simp only [ad_8] at f8
  have h8 : v_iv (n_v vs 9) = w_ei w1 (w_ar ws (n_v vs 0) 3) (v_iv (n_v vs 1)) := f8
  simp only [ar_0_3_1, ar_0_2_1, ar_0_4_1] at f10 f11
  have hE_0_2_1 : ∀ j : Int, w_ei ws (w_ar ws (n_v vs 0) 2) j = w_ei w1 (w_ar ws (n_v vs 0) 2) j := el_kp s1.1 r8 cr_0_2 (by decide)
  have hE_0_3_1 : ∀ j : Int, 0 ≤ j → (j = v_iv (n_v vs 1) → w_ei ws (w_ar ws (n_v vs 0) 3) j = v_iv (n_v vs 11)) ∧ (j ≠ v_iv (n_v vs 1) → w_ei ws (w_ar ws (n_v vs 0) 3) j = w_ei w1 (w_ar ws (n_v vs 0) 3) j) := fun j hj => ⟨fun h => by unfold w_ei; rw [s1.1, if_pos ⟨ad_8.symm, by rw [h]⟩], fun h => by unfold w_ei; rw [s1.1, if_neg (fun e => h (by have := e.2; omega))]⟩
  have hE_0_4_1 : ∀ j : Int, w_ei ws (w_ar ws (n_v vs 0) 4) j = w_ei w1 (w_ar ws (n_v vs 0) 4) j := el_kp s1.1 r8 cr_0_4 (by decide)
  have nf0 : fc_1 PRD (20, [4, 5], [30, 29, 1, 2, 3]) ws (vs) := by
    refine ⟨nf_in hl rfl, sgq_1296 ?_⟩
    · show 1 * w_el ws (w_ar ws (n_v vs 4) 3) (v_iv (n_v vs 5)).toNat + 0 ≤ 29
      simp only [q4, q5]
      exact vc_Mo_step_at_gd_3_0 (v_iv (n_v vs 1)) (v_iv (n_v vs 5)) (v_iv (n_v vs 9)) (v_iv (n_v vs 11)) (v_iv (n_v vs 12)) (w_ei ws (w_ar ws (n_v vs 0) 3)) (w_ei w1 (w_ar ws (n_v vs 0) 3)) (w_ei w1 (w_ar ws (n_v vs 0) 2)) (w_ei w1 (w_ar ws (n_v vs 0) 4)) (w_ei ws (w_ar ws (n_v vs 0) 2)) (w_ei ws (w_ar ws (n_v vs 0) 4)) k1 k5 k9 k11 k12 d0 d1 d2 h2 h8 f10 hE_0_2_1 hE_0_3_1 hE_0_4_1
  have nf1 : fc_1 PRD (20, [13, 5, 4, 5], [30, 0, 1, 0, 0, -16709, 0, 0, -539, 2, 3]) ws (vs) := by
    refine ⟨nf_in hl rfl, sgq_1297 ?_⟩
    · show 1 * v_iv (n_v vs 13) + ((-16709) * v_iv (n_v vs 5) + ((-539) * w_el ws (w_ar ws (n_v vs 4) 3) (v_iv (n_v vs 5)).toNat + 0)) ≤ 0
      simp only [q4, q5]
      exact vc_Mo_step_at_gd_3_1 (v_iv (n_v vs 1)) (v_iv (n_v vs 5)) (v_iv (n_v vs 11)) (v_iv (n_v vs 12)) (v_iv (n_v vs 13)) (w_ei ws (w_ar ws (n_v vs 0) 3)) (w_ei w1 (w_ar ws (n_v vs 0) 3)) (w_ei w1 (w_ar ws (n_v vs 0) 2)) (w_ei w1 (w_ar ws (n_v vs 0) 4)) (w_ei ws (w_ar ws (n_v vs 0) 2)) (w_ei ws (w_ar ws (n_v vs 0) 4)) k1 k5 k11 k12 k13 d1 d2 f0 f1 h2 hE_0_2_1 hE_0_3_1 hE_0_4_1
  have nf2 : fc_1 PRD (20, [13, 5, 4, 5], [30, 0, -1, 0, 0, 16709, 0, 0, 539, 2, 3]) ws (vs) := by
    refine ⟨nf_in hl rfl, sgq_1298 ?_⟩
    · show (-1) * v_iv (n_v vs 13) + (16709 * v_iv (n_v vs 5) + (539 * w_el ws (w_ar ws (n_v vs 4) 3) (v_iv (n_v vs 5)).toNat + 0)) ≤ 0
      simp only [q4, q5]
      exact vc_Mo_step_at_gd_3_2 (v_iv (n_v vs 1)) (v_iv (n_v vs 5)) (v_iv (n_v vs 11)) (v_iv (n_v vs 12)) (v_iv (n_v vs 13)) (w_ei ws (w_ar ws (n_v vs 0) 3)) (w_ei w1 (w_ar ws (n_v vs 0) 3)) (w_ei w1 (w_ar ws (n_v vs 0) 2)) (w_ei w1 (w_ar ws (n_v vs 0) 4)) (w_ei ws (w_ar ws (n_v vs 0) 2)) (w_ei ws (w_ar ws (n_v vs 0) 4)) k1 k5 k11 k12 k13 d1 d2 f0 f1 h2 hE_0_2_1 hE_0_3_1 hE_0_4_1
  have nf3 : fc_1 PRD (20, [4, 5, 13, 14, 2, 3], [60, 0, 3, 226, 2, 3, 4]) ws (vs) := by
    refine ⟨nf_in hl rfl, sgq_1299 ?_⟩
    · show T73d (w_ei ws (w_ar ws (n_v vs 4) 2)) (w_ei ws (w_ar ws (n_v vs 4) 3)) (w_ei ws (w_ar ws (n_v vs 4) 4)) (v_iv (n_v vs 5)) (v_iv (n_v vs 13)) (v_iv (n_v vs 14)) (v_iv (n_v vs 2)) (v_iv (n_v vs 3))
      simp only [q4, q5]
      exact vc_Mo_step_at_gd_3_3 (v_iv (n_v vs 1)) (v_iv (n_v vs 2)) (v_iv (n_v vs 3)) (v_iv (n_v vs 5)) (v_iv (n_v vs 6)) (v_iv (n_v vs 9)) (v_iv (n_v vs 11)) (v_iv (n_v vs 12)) (v_iv (n_v vs 13)) (v_iv (n_v vs 14)) (w_ei ws (w_ar ws (n_v vs 0) 3)) (w_ei w1 (w_ar ws (n_v vs 0) 3)) (w_ei w1 (w_ar ws (n_v vs 0) 2)) (w_ei w1 (w_ar ws (n_v vs 0) 4)) (w_ei ws (w_ar ws (n_v vs 0) 2)) (w_ei ws (w_ar ws (n_v vs 0) 4)) k1 k2 k3 k5 k6 k9 k11 k12 k13 k14 d0 d1 d2 f0 f1 h2 h8 f11 hE_0_2_1 hE_0_3_1 hE_0_4_1
  refine ⟨(fun _ h => (by cases h)), [], trivial, ?_, (fun _ h => (by cases h))⟩
  rw [List.append_nil]
  exact List.forall_mem_cons.mpr ⟨⟨show (20 : Nat) < 100 from by decide, nf0⟩, List.forall_mem_cons.mpr ⟨⟨show (20 : Nat) < 100 from by decide, nf1⟩, List.forall_mem_cons.mpr ⟨⟨show (20 : Nat) < 100 from by decide, nf2⟩, List.forall_mem_cons.mpr ⟨⟨show (20 : Nat) < 100 from by decide, nf3⟩, (fun _ h => (by cases h))⟩⟩⟩⟩
def o_Mo_step_at_gd_4 : or_T := (42, 15, [(0, (2, 0, 0, [165])), (1, (0, 0, 3, [])), (2, (0, 0, 48, [])), (3, (0, 0, 48, [])), (4, (2, 0, 0, [165])), (5, (0, 0, 3, [])), (6, (0, 0, 16169, [])), (7, (0, 16170, 16170, [])), (8, (2, 0, 0, [167])), (9, (0, 0, 0, [])), (10, (0, 0, 66297, [])), (11, (0, 0, 82466, [])), (12, (0, 1, 1, [])), (13, (0, 0, 66297, [])), (14, (0, 0, 82466, []))], [(1, [14, 13, 6], []), (23, [13, 5, 12], [0, 1, -16709, -539]), (23, [13, 5, 12], [0, -1, 16709, 539]), (9, [8, 4], [2]), (1, [11, 10, 6], []), (23, [10, 5, 9], [0, 1, -16709, -539]), (23, [10, 5, 9], [0, -1, 16709, 539]), (7, [6, 7], [2]), (20, [4, 5], [30, -30, -1, 2, 3]), (20, [4, 5, 6, 2, 3], [60, 0, 3, 225, 2, 3, 4]), (24, [0, 4], []), (24, [1, 5], [])], [(14, (0, 0, 66835, []))], [], [], [], [(14, 6, 0, 66297), (14, 13, 0, 16169), (11, 6, 0, 66297), (11, 10, 0, 16169), (1, 5, -4294967296, 0), (5, 1, -4294967296, 0)])
theorem oo_Mo_step_at_gd_4 {kA : Nat → ClassId} : or_ok PRD kA GG o_Mo_step_at_gd_4 := by
  refine or_mk fun A ta ws vs hD hth hl => ?_
  intro t0 r0 t1 k1 t2 k2 t3 k3 t4 r4 t5 k5 t6 k6 t7 k7 t8 r8 t9 k9 t10 k10 t11 k11 t12 k12 t13 k13 t14 k14 d0 d1 d2 d3 d4 d5 f0 f1 f2 f3 f4 f5 f6 f7 f8 f9 f10 f11
  replace f0 := shm_12 f0
  replace f1 := shm_128 f1
  replace f2 := shm_129 f2
  replace f3 := shm_120 f3
  replace f4 := shm_12 f4
  replace f5 := shm_128 f5
  replace f6 := shm_129 f6
  replace f7 := shm_6 f7
  replace f8 := shm_1300 f8
  replace f9 := shm_1301 f9
  replace f10 := shm_5 f10
  replace f11 := shm_5 f11
  have q4 : n_v vs 4 = n_v vs 0 := f10.symm
  have q5 : n_v vs 5 = n_v vs 1 := f11.symm
  simp only [q5, q4] at f1 f2 f3 f5 f6 f8 f9
  have cr_0_2 := fdq_10 hD hth r0
  have cr_0_3 := fdq_142 hD hth r0
  have cr_0_4 := fdq_143 hD hth r0
  have ad_8 : v_ad (n_v vs 8) = w_ar ws (n_v vs 0) 2 := congrArg v_ad f3
  have br_0_3_1_0 : w_ei ws (w_ar ws (n_v vs 0) 3) (v_iv (n_v vs 1)) = w_el ws (w_ar ws (n_v vs 0) 3) (v_iv (n_v vs 1)).toNat := rfl
  have hK_0_3 := elq_80 hD hth cr_0_3
  have hK_0_4 := elq_81 hD hth cr_0_4
  have rf14 : tv_ok ta (0, 0, 66835, []) (n_v vs 14) := tv_in t14 (by first | omega | grind) (by first | omega | grind)
  refine ⟨List.forall_mem_cons.mpr ⟨rf14, (fun _ h => (by cases h))⟩, [], trivial, ?_, (fun _ h => (by cases h))⟩
  rw [List.append_nil]
  exact (fun _ h => (by cases h))
def o_Mo_step_at_gd_5 : or_T := (43, 16, [(5, (0, 0, 3, [])), (6, (0, 0, 16169, [])), (9, (0, 0, 0, [])), (10, (5, 0, 66297, [539])), (11, (0, 0, 82466, [])), (12, (0, 1, 1, [])), (13, (5, 0, 66297, [539])), (14, (0, 0, 66835, [])), (15, (0, -1, 255, [])), (8, (2, 0, 0, [167]))], [(10, [15, 8, 14], []), (1, [14, 13, 6], []), (23, [13, 5, 12], [0, 1, -16709, -539]), (23, [13, 5, 12], [0, -1, 16709, 539]), (1, [11, 10, 6], []), (23, [10, 5, 9], [0, 1, -16709, -539]), (23, [10, 5, 9], [0, -1, 16709, 539])], [], [], [(18, [11, 15], [1])], [], [(14, 6, 0, 66297), (14, 13, 0, 16169), (11, 6, 0, 66297), (11, 10, 0, 16169)])
theorem oo_Mo_step_at_gd_5 {kA : Nat → ClassId} : or_ok PRD kA GG o_Mo_step_at_gd_5 := by
  refine or_mk fun A ta ws vs hD hth hl => ?_
  intro t5 k5 t6 k6 t9 k9 t10 t11 k11 t12 k12 t13 t14 k14 t15 k15 t8 r8 d0 d1 d2 d3 f0 f1 f2 f3 f4 f5 f6
  obtain ⟨k10, q10_⟩ : (0 ≤ v_iv (n_v vs 10) ∧ v_iv (n_v vs 10) ≤ 66297) ∧ ∃ q : Int, v_iv (n_v vs 10) = 539 * q := tv_dvk t10
  obtain ⟨q10, hq10⟩ := q10_
  obtain ⟨k13, q13_⟩ : (0 ≤ v_iv (n_v vs 13) ∧ v_iv (n_v vs 13) ≤ 66297) ∧ ∃ q : Int, v_iv (n_v vs 13) = 539 * q := tv_dvk t13
  obtain ⟨q13, hq13⟩ := q13_
  replace f0 := shm_107 f0
  replace f1 := shm_12 f1
  replace f2 := shm_128 f2
  replace f3 := shm_129 f3
  replace f4 := shm_12 f4
  replace f5 := shm_128 f5
  replace f6 := shm_129 f6
  have nf0 : fc_1 PRD (18, [11, 15], [1]) ws (vs) := by
    refine ⟨nf_in hl rfl, sgq_1302 ?_⟩
    · show pl_ok 1 (v_iv (n_v vs 11)).toNat (v_iv (n_v vs 15))
      have e0 := pl_cp hD hth r8 (g := GG_167) rfl rfl rfl pl_M1 (i := (v_iv (n_v vs 14)).toNat) (j := (v_iv (n_v vs 11)).toNat) (by show (v_iv (n_v vs 14)).toNat < 66836; omega) (by omega)
      rw [← f0] at e0
      exact e0
  refine ⟨(fun _ h => (by cases h)), [], trivial, ?_, (fun _ h => (by cases h))⟩
  rw [List.append_nil]
  exact List.forall_mem_cons.mpr ⟨⟨show (18 : Nat) < 100 from by decide, nf0⟩, (fun _ h => (by cases h))⟩
def o_Mo_step_at_gd_6 : or_T := (43, 16, [(0, (2, 0, 0, [165])), (1, (0, 0, 3, [])), (2, (0, 0, 48, [])), (3, (0, 0, 48, [])), (4, (2, 0, 0, [165])), (5, (0, 0, 3, [])), (6, (0, 0, 16169, [])), (7, (0, 16170, 16170, [])), (8, (2, 0, 0, [167])), (9, (0, 0, 0, [])), (10, (0, 0, 66297, [])), (11, (0, 0, 82466, [])), (12, (0, 1, 1, [])), (13, (0, 0, 66297, [])), (14, (0, 0, 66835, [])), (15, (0, -1, 255, []))], [(10, [15, 8, 14], []), (1, [14, 13, 6], []), (23, [13, 5, 12], [0, 1, -16709, -539]), (23, [13, 5, 12], [0, -1, 16709, 539]), (9, [8, 4], [2]), (1, [11, 10, 6], []), (23, [10, 5, 9], [0, 1, -16709, -539]), (23, [10, 5, 9], [0, -1, 16709, 539]), (7, [6, 7], [2]), (20, [4, 5], [30, -30, -1, 2, 3]), (20, [4, 5, 6, 2, 3], [60, 0, 3, 225, 2, 3, 4]), (24, [0, 4], []), (24, [1, 5], [])], [(11, (0, 0, 66835, []))], [], [], [], [(14, 6, 0, 66297), (14, 13, 0, 16169), (11, 6, 0, 66297), (11, 10, 0, 16169), (1, 5, -4294967296, 0), (5, 1, -4294967296, 0)])
theorem oo_Mo_step_at_gd_6 {kA : Nat → ClassId} : or_ok PRD kA GG o_Mo_step_at_gd_6 := by
  refine or_mk fun A ta ws vs hD hth hl => ?_
  intro t0 r0 t1 k1 t2 k2 t3 k3 t4 r4 t5 k5 t6 k6 t7 k7 t8 r8 t9 k9 t10 k10 t11 k11 t12 k12 t13 k13 t14 k14 t15 k15 d0 d1 d2 d3 d4 d5 f0 f1 f2 f3 f4 f5 f6 f7 f8 f9 f10 f11 f12
  replace f0 := shm_107 f0
  replace f1 := shm_12 f1
  replace f2 := shm_128 f2
  replace f3 := shm_129 f3
  replace f4 := shm_120 f4
  replace f5 := shm_12 f5
  replace f6 := shm_128 f6
  replace f7 := shm_129 f7
  replace f8 := shm_6 f8
  replace f9 := shm_1300 f9
  replace f10 := shm_1301 f10
  replace f11 := shm_5 f11
  replace f12 := shm_5 f12
  have q4 : n_v vs 4 = n_v vs 0 := f11.symm
  have q5 : n_v vs 5 = n_v vs 1 := f12.symm
  simp only [q5, q4] at f2 f3 f4 f6 f7 f9 f10
  have cr_0_2 := fdq_10 hD hth r0
  have cr_0_3 := fdq_142 hD hth r0
  have cr_0_4 := fdq_143 hD hth r0
  have ad_8 : v_ad (n_v vs 8) = w_ar ws (n_v vs 0) 2 := congrArg v_ad f4
  simp only [ad_8] at f0
  have h0 : v_iv (n_v vs 15) = w_ei ws (w_ar ws (n_v vs 0) 2) (v_iv (n_v vs 14)) := f0
  have br_0_2_14_0 : w_ei ws (w_ar ws (n_v vs 0) 2) (v_iv (n_v vs 14)) = w_el ws (w_ar ws (n_v vs 0) 2) (v_iv (n_v vs 14)).toNat := rfl
  have br_0_3_1_0 : w_ei ws (w_ar ws (n_v vs 0) 3) (v_iv (n_v vs 1)) = w_el ws (w_ar ws (n_v vs 0) 3) (v_iv (n_v vs 1)).toNat := rfl
  have hK_0_3 := elq_80 hD hth cr_0_3
  have hK_0_4 := elq_81 hD hth cr_0_4
  have rf11 : tv_ok ta (0, 0, 66835, []) (n_v vs 11) := tv_in t11 (by first | omega | grind) (by first | omega | grind)
  refine ⟨List.forall_mem_cons.mpr ⟨rf11, (fun _ h => (by cases h))⟩, [], trivial, ?_, (fun _ h => (by cases h))⟩
  rw [List.append_nil]
  exact (fun _ h => (by cases h))
set_option maxHeartbeats 4000000 in
theorem vc_Mo_step_at_gd_7_0 (x1 : Int) (x2 : Int) (x3 : Int) (x5 : Int) (x6 : Int) (x9 : Int) (x10 : Int) (x11 : Int) (x12 : Int) (x13 : Int) (x14 : Int) (x15 : Int) (x16 : Int) (now_0 : Int → Int) (all_1 : Int → Int) (now_1 : Int → Int) (latest_1 : Int → Int) (all_0 : Int → Int) (latest_0 : Int → Int) (k1 : 0 ≤ x1 ∧ x1 ≤ 3) (k2 : 0 ≤ x2 ∧ x2 ≤ 48) (k3 : 0 ≤ x3 ∧ x3 ≤ 48) (k5 : 0 ≤ x5 ∧ x5 ≤ 3) (k6 : 0 ≤ x6 ∧ x6 ≤ 16169) (k9 : 0 ≤ x9 ∧ x9 ≤ 0) (k10 : 0 ≤ x10 ∧ x10 ≤ 66297) (k11 : 0 ≤ x11 ∧ x11 ≤ 66835) (k12 : 1 ≤ x12 ∧ x12 ≤ 1) (k13 : 0 ≤ x13 ∧ x13 ≤ 66297) (k14 : 0 ≤ x14 ∧ x14 ≤ 66835) (k15 : (-1) ≤ x15 ∧ x15 ≤ 255) (k16 : 1 ≤ x16 ∧ x16 ≤ 16170) (d0 : x6 + 1 ≤ x16 ∧ x16 ≤ x6 + 1) (d4 : x10 + 0 ≤ x11 ∧ x11 ≤ x10 + 16169) (d5 : x5 + (-4294967296) ≤ x1 ∧ x1 ≤ x5 + 0) (d6 : x1 + (-4294967296) ≤ x5 ∧ x5 ≤ x1 + 0) (f0 : x16 = x6 + 1) (f1 : 1 * x13 + ((-16709) * x1 + ((-539) * x12 + 0)) ≤ 0) (f2 : (-1) * x13 + (16709 * x1 + (539 * x12 + 0)) ≤ 0) (f3 : 1 * x10 + ((-16709) * x1 + ((-539) * x9 + 0)) ≤ 0) (f4 : (-1) * x10 + (16709 * x1 + (539 * x9 + 0)) ≤ 0) (h9 : x15 = all_1 (x14)) (f10 : x14 = x13 + x6) (f14 : x11 = x10 + x6) (f19 : T13d (all_1) (now_1) (latest_1) (x1) (x6) (x2) (x3)) (hE_0_2_1 : ∀ j : Int, 0 ≤ j → (j = x11 → all_0 j = x15) ∧ (j ≠ x11 → all_0 j = all_1 j)) (hE_0_3_1 : ∀ j : Int, now_0 j = now_1 j) (hE_0_4_1 : ∀ j : Int, latest_0 j = latest_1 j) : T13d (all_0) (now_0) (latest_0) (x1) (x16) (x2) (x3) := by
  have e_hE_0_3_1 := funext hE_0_3_1; subst e_hE_0_3_1
  have e_hE_0_4_1 := funext hE_0_4_1; subst e_hE_0_4_1
  first
    | exact t13_step ‹T13d _ _ _ _ _ _ _› (by assumption) (by omega) (by omega) (by omega) (by assumption) (by omega)
def o_Mo_step_at_gd_7 : or_T := (13, 17, [(0, (2, 0, 0, [165])), (1, (0, 0, 3, [])), (2, (0, 0, 48, [])), (3, (0, 0, 48, [])), (5, (0, 0, 3, [])), (6, (0, 0, 16169, [])), (8, (2, 0, 0, [167])), (9, (0, 0, 0, [])), (10, (0, 0, 66297, [])), (11, (0, 0, 66835, [])), (12, (0, 1, 1, [])), (13, (0, 0, 66297, [])), (14, (0, 0, 66835, [])), (15, (0, -1, 255, [])), (16, (0, 1, 16170, []))], [(6, [16, 6], [1]), (23, [13, 5, 12], [0, 1, -16709, -539]), (23, [13, 5, 12], [0, -1, 16709, 539]), (23, [10, 5, 9], [0, 1, -16709, -539]), (23, [10, 5, 9], [0, -1, 16709, 539]), (24, [0, 4], []), (24, [1, 5], []), (100, [8, 11, 15], []), (10, [15, 8, 14], []), (1, [14, 13, 6], []), (9, [8, 4], [2]), (1, [11, 10, 6], []), (20, [4, 5, 6, 2, 3], [60, 0, 3, 225, 2, 3, 4])], [], [], [(20, [4, 5, 16, 2, 3], [60, 0, 3, 225, 2, 3, 4])], [], [(16, 6, 1, 1), (11, 6, 0, 66297), (11, 10, 0, 16169), (1, 5, -4294967296, 0), (5, 1, -4294967296, 0)])
theorem oo_Mo_step_at_gd_7 {kA : Nat → ClassId} : or_ok PRD kA GG o_Mo_step_at_gd_7 := by
  refine or_mk fun A ta ws vs hD hth hl => ?_
  intro t0 r0 t1 k1 t2 k2 t3 k3 t5 k5 t6 k6 t8 r8 t9 k9 t10 k10 t11 k11 t12 k12 t13 k13 t14 k14 t15 k15 t16 k16 d0 d3 d4 d5 d6 f0 f1 f2 f3 f4 f6 f7 ta1 w1 le1 s1 f9 f10 f13 f14 f19
  replace f0 := shm_4 f0
  replace f1 := shm_128 f1
  replace f2 := shm_129 f2
  replace f3 := shm_128 f3
  replace f4 := shm_129 f4
  replace f6 := shm_5 f6
  replace f7 := shm_5 f7
  have s1 : (∀ b j, w_el ws b j = if b = v_ad (n_v vs 8) ∧ j = (v_iv (n_v vs 11)).toNat then v_iv (n_v vs 15) else w_el w1 b j) ∧ ∀ b k, w_fd ws b k = w_fd w1 b k := s1.2
  replace f9 := shm_107 f9
  replace f10 := shm_12 f10
  replace f13 := shm_120 f13
  replace f14 := shm_12 f14
  replace f19 := shm_1301 f19
  have q4 : n_v vs 4 = n_v vs 0 := f6.symm
  have q5 : n_v vs 5 = n_v vs 1 := f7.symm
  simp only [q5, q4] at f1 f2 f3 f4 f13 f19
  have ar_0_2_1 : w_ar w1 (n_v vs 0) 2 = w_ar ws (n_v vs 0) 2 := congrArg v_ad (s1.2 _ _).symm
  have ar_0_3_1 : w_ar w1 (n_v vs 0) 3 = w_ar ws (n_v vs 0) 3 := congrArg v_ad (s1.2 _ _).symm
  have cr_0_3 := fdq_142 hD hth r0
  have ar_0_4_1 : w_ar w1 (n_v vs 0) 4 = w_ar ws (n_v vs 0) 4 := congrArg v_ad (s1.2 _ _).symm
  have cr_0_4 := fdq_143 hD hth r0
  have ad_8 : v_ad (n_v vs 8) = w_ar ws (n_v vs 0) 2 := (congrArg v_ad f13).trans ar_0_2_1
  simp only [ad_8] at f9
  have h9 : v_iv (n_v vs 15) = w_ei w1 (w_ar ws (n_v vs 0) 2) (v_iv (n_v vs 14)) := f9
  simp only [ar_0_3_1, ar_0_2_1, ar_0_4_1] at f19
  have hE_0_2_1 : ∀ j : Int, 0 ≤ j → (j = v_iv (n_v vs 11) → w_ei ws (w_ar ws (n_v vs 0) 2) j = v_iv (n_v vs 15)) ∧ (j ≠ v_iv (n_v vs 11) → w_ei ws (w_ar ws (n_v vs 0) 2) j = w_ei w1 (w_ar ws (n_v vs 0) 2) j) := fun j hj => ⟨fun h => by unfold w_ei; rw [s1.1, if_pos ⟨ad_8.symm, by rw [h]⟩], fun h => by unfold w_ei; rw [s1.1, if_neg (fun e => h (by have := e.2; omega))]⟩
  have hE_0_3_1 : ∀ j : Int, w_ei ws (w_ar ws (n_v vs 0) 3) j = w_ei w1 (w_ar ws (n_v vs 0) 3) j := el_kp s1.1 r8 cr_0_3 (by decide)
  have hE_0_4_1 : ∀ j : Int, w_ei ws (w_ar ws (n_v vs 0) 4) j = w_ei w1 (w_ar ws (n_v vs 0) 4) j := el_kp s1.1 r8 cr_0_4 (by decide)
  have nf0 : fc_1 PRD (20, [4, 5, 16, 2, 3], [60, 0, 3, 225, 2, 3, 4]) ws (vs) := by
    refine ⟨nf_in hl rfl, sgq_1301 ?_⟩
    · show T13d (w_ei ws (w_ar ws (n_v vs 4) 2)) (w_ei ws (w_ar ws (n_v vs 4) 3)) (w_ei ws (w_ar ws (n_v vs 4) 4)) (v_iv (n_v vs 5)) (v_iv (n_v vs 16)) (v_iv (n_v vs 2)) (v_iv (n_v vs 3))
      simp only [q4, q5]
      exact vc_Mo_step_at_gd_7_0 (v_iv (n_v vs 1)) (v_iv (n_v vs 2)) (v_iv (n_v vs 3)) (v_iv (n_v vs 5)) (v_iv (n_v vs 6)) (v_iv (n_v vs 9)) (v_iv (n_v vs 10)) (v_iv (n_v vs 11)) (v_iv (n_v vs 12)) (v_iv (n_v vs 13)) (v_iv (n_v vs 14)) (v_iv (n_v vs 15)) (v_iv (n_v vs 16)) (w_ei ws (w_ar ws (n_v vs 0) 3)) (w_ei w1 (w_ar ws (n_v vs 0) 2)) (w_ei w1 (w_ar ws (n_v vs 0) 3)) (w_ei w1 (w_ar ws (n_v vs 0) 4)) (w_ei ws (w_ar ws (n_v vs 0) 2)) (w_ei ws (w_ar ws (n_v vs 0) 4)) k1 k2 k3 k5 k6 k9 k10 k11 k12 k13 k14 k15 k16 d0 d4 d5 d6 f0 f1 f2 f3 f4 h9 f10 f14 f19 hE_0_2_1 hE_0_3_1 hE_0_4_1
  refine ⟨(fun _ h => (by cases h)), [], trivial, ?_, (fun _ h => (by cases h))⟩
  rw [List.append_nil]
  exact List.forall_mem_cons.mpr ⟨⟨show (20 : Nat) < 100 from by decide, nf0⟩, (fun _ h => (by cases h))⟩
def o_Mo_step_at_gd_8 : or_T := (115, 13, [(0, (2, 0, 0, [165])), (1, (0, 0, 3, [])), (2, (0, 0, 48, [])), (3, (0, 0, 48, [])), (4, (2, 0, 0, [165])), (5, (0, 0, 3, [])), (6, (0, 0, 66297, [])), (7, (0, 539, 539, [])), (8, (0, 539, 539, [])), (9, (2, 0, 0, [168])), (10, (0, 0, 30, [])), (11, (0, 1, 1, [])), (12, (0, 1, 31, []))], [(1, [12, 10, 11], []), (10, [10, 9, 5], []), (9, [9, 4], [3]), (7, [7, 8], [3]), (20, [4, 5], [30, 29, 1, 2, 3]), (20, [6, 5, 4, 5], [30, 0, 1, 0, 0, -16709, 0, 0, -539, 2, 3]), (20, [6, 5, 4, 5], [30, 0, -1, 0, 0, 16709, 0, 0, 539, 2, 3]), (20, [4, 5, 6, 7, 2, 3], [60, 0, 3, 226, 2, 3, 4]), (24, [0, 4], []), (24, [1, 5], [])], [(12, (0, 1, 30, []))], [], [], [], [(12, 10, 1, 1), (1, 5, -4294967296, 0), (5, 1, -4294967296, 0)])
theorem oo_Mo_step_at_gd_8 {kA : Nat → ClassId} : or_ok PRD kA GG o_Mo_step_at_gd_8 := by
  refine or_mk fun A ta ws vs hD hth hl => ?_
  intro t0 r0 t1 k1 t2 k2 t3 k3 t4 r4 t5 k5 t6 k6 t7 k7 t8 k8 t9 r9 t10 k10 t11 k11 t12 k12 d0 d1 d2 f0 f1 f2 f3 f4 f5 f6 f7 f8 f9
  replace f0 := shm_12 f0
  replace f1 := shm_107 f1
  replace f2 := shm_137 f2
  replace f3 := shm_2 f3
  replace f4 := shm_1296 f4
  replace f5 := shm_1297 f5
  replace f6 := shm_1298 f6
  replace f7 := shm_1299 f7
  replace f8 := shm_5 f8
  replace f9 := shm_5 f9
  have q4 : n_v vs 4 = n_v vs 0 := f8.symm
  have q5 : n_v vs 5 = n_v vs 1 := f9.symm
  simp only [q5, q4] at f1 f2 f4 f5 f6 f7
  have cr_0_2 := fdq_10 hD hth r0
  have cr_0_3 := fdq_142 hD hth r0
  have cr_0_4 := fdq_143 hD hth r0
  have ad_9 : v_ad (n_v vs 9) = w_ar ws (n_v vs 0) 3 := congrArg v_ad f2
  simp only [ad_9] at f1
  have h1 : v_iv (n_v vs 10) = w_ei ws (w_ar ws (n_v vs 0) 3) (v_iv (n_v vs 1)) := f1
  have br_0_3_1_0 : w_ei ws (w_ar ws (n_v vs 0) 3) (v_iv (n_v vs 1)) = w_el ws (w_ar ws (n_v vs 0) 3) (v_iv (n_v vs 1)).toNat := rfl
  have hK_0_3 := elq_80 hD hth cr_0_3
  have hK_0_4 := elq_81 hD hth cr_0_4
  have rf12 : tv_ok ta (0, 1, 30, []) (n_v vs 12) := tv_in t12 (by first | omega | grind) (by first | omega | grind)
  refine ⟨List.forall_mem_cons.mpr ⟨rf12, (fun _ h => (by cases h))⟩, [], trivial, ?_, (fun _ h => (by cases h))⟩
  rw [List.append_nil]
  exact (fun _ h => (by cases h))
set_option maxHeartbeats 4000000 in
theorem vc_Mo_step_at_gd_9_0 (x1 : Int) (x2 : Int) (x3 : Int) (x6 : Int) (x7 : Int) (x10 : Int) (x12 : Int) (x14 : Int) (now_1 : Int → Int) (now_2 : Int → Int) (all_2 : Int → Int) (latest_2 : Int → Int) (all_0 : Int → Int) (all_1 : Int → Int) (now_0 : Int → Int) (latest_0 : Int → Int) (latest_1 : Int → Int) (k1 : 0 ≤ x1 ∧ x1 ≤ 3) (k2 : 0 ≤ x2 ∧ x2 ≤ 48) (k3 : 0 ≤ x3 ∧ x3 ≤ 48) (k6 : 0 ≤ x6 ∧ x6 ≤ 66297) (k7 : 539 ≤ x7 ∧ x7 ≤ 539) (k10 : 0 ≤ x10 ∧ x10 ≤ 30) (k12 : 1 ≤ x12 ∧ x12 ≤ 30) (k14 : 0 ≤ x14 ∧ x14 ≤ 30) (d0 : x10 + 1 ≤ x12 ∧ x12 ≤ x10 + 1) (h3 : x14 = now_1 (x1)) (h8 : x10 = now_2 (x1)) (f13 : T73d (all_2) (now_2) (latest_2) (x1) (x6) (x7) (x2) (x3)) (hE_0_2_1 : ∀ j : Int, all_0 j = all_1 j) (hE_0_2_2 : ∀ j : Int, all_1 j = all_2 j) (hE_0_3_1 : ∀ j : Int, now_0 j = now_1 j) (hE_0_3_2 : ∀ j : Int, 0 ≤ j → (j = x1 → now_1 j = x12) ∧ (j ≠ x1 → now_1 j = now_2 j)) (hE_0_4_1 : ∀ j : Int, 0 ≤ j → (j = x1 → latest_0 j = x14) ∧ (j ≠ x1 → latest_0 j = latest_1 j)) (hE_0_4_2 : ∀ j : Int, latest_1 j = latest_2 j) : T130d (all_0) (now_0) (latest_0) (x1) (x2) (x3) := by
  have e_hE_0_2_1 := funext hE_0_2_1; subst e_hE_0_2_1
  have e_hE_0_2_2 := funext hE_0_2_2; subst e_hE_0_2_2
  have e_hE_0_3_1 := funext hE_0_3_1; subst e_hE_0_3_1
  have e_hE_0_4_2 := funext hE_0_4_2; subst e_hE_0_4_2
  first
    | exact t130_of ‹T73d _ _ _ _ _ _ _ _› (by omega) (by assumption) (by omega) (by omega) (by assumption) (by omega) (by omega)
def o_Mo_step_at_gd_9 : or_T := (130, 15, [(0, (2, 0, 0, [165])), (1, (0, 0, 3, [])), (2, (0, 0, 48, [])), (3, (0, 0, 48, [])), (6, (0, 0, 66297, [])), (7, (0, 539, 539, [])), (9, (2, 0, 0, [168])), (10, (0, 0, 30, [])), (12, (0, 1, 30, [])), (13, (2, 0, 0, [169])), (14, (0, 0, 30, []))], [(24, [0, 4], []), (24, [1, 5], []), (100, [13, 5, 14], []), (10, [14, 9, 5], []), (9, [9, 4], [3]), (9, [13, 4], [4]), (100, [9, 5, 12], []), (10, [10, 9, 5], []), (20, [4, 5, 6, 7, 2, 3], [60, 0, 3, 226, 2, 3, 4])], [], [], [(20, [4, 5, 2, 3], [60, 0, 3, 227, 2, 3, 4])], [], [(12, 10, 1, 1), (1, 5, -4294967296, 0), (5, 1, -4294967296, 0)])
theorem oo_Mo_step_at_gd_9 {kA : Nat → ClassId} : or_ok PRD kA GG o_Mo_step_at_gd_9 := by
  refine or_mk fun A ta ws vs hD hth hl => ?_
  intro t0 r0 t1 k1 t2 k2 t3 k3 t6 k6 t7 k7 t9 r9 t10 k10 t12 k12 t13 r13 t14 k14 d0 d1 d2 f0 f1 ta1 w1 le1 s1 f3 f4 f5 ta2 w2 le2 s2 f8 f13
  replace f0 := shm_5 f0
  replace f1 := shm_5 f1
  have s1 : (∀ b j, w_el ws b j = if b = v_ad (n_v vs 13) ∧ j = (v_iv (n_v vs 5)).toNat then v_iv (n_v vs 14) else w_el w1 b j) ∧ ∀ b k, w_fd ws b k = w_fd w1 b k := s1.2
  replace f3 := shm_107 f3
  replace f4 := shm_137 f4
  replace f5 := shm_108 f5
  have s2 : (∀ b j, w_el w1 b j = if b = v_ad (n_v vs 9) ∧ j = (v_iv (n_v vs 5)).toNat then v_iv (n_v vs 12) else w_el w2 b j) ∧ ∀ b k, w_fd w1 b k = w_fd w2 b k := s2.2
  replace f8 := shm_107 f8
  replace f13 := shm_1299 f13
  have q4 : n_v vs 4 = n_v vs 0 := f0.symm
  have q5 : n_v vs 5 = n_v vs 1 := f1.symm
  rw [q5] at s1
  simp only [q5, q4] at f3 f4 f5
  rw [q5] at s2
  simp only [q5, q4] at f8 f13
  have ar_0_2_1 : w_ar w1 (n_v vs 0) 2 = w_ar ws (n_v vs 0) 2 := congrArg v_ad (s1.2 _ _).symm
  have ar_0_2_2 : w_ar w2 (n_v vs 0) 2 = w_ar ws (n_v vs 0) 2 := by rw [← ar_0_2_1]; show v_ad (w_fd w2 _ _) = v_ad (w_fd w1 _ _); rw [s2.2]
  have cr_0_2 := fdq_10 hD hth r0
  have ar_0_3_1 : w_ar w1 (n_v vs 0) 3 = w_ar ws (n_v vs 0) 3 := congrArg v_ad (s1.2 _ _).symm
  have ar_0_3_2 : w_ar w2 (n_v vs 0) 3 = w_ar ws (n_v vs 0) 3 := by rw [← ar_0_3_1]; show v_ad (w_fd w2 _ _) = v_ad (w_fd w1 _ _); rw [s2.2]
  have cr_0_3 := fdq_142 hD hth r0
  have ar_0_4_1 : w_ar w1 (n_v vs 0) 4 = w_ar ws (n_v vs 0) 4 := congrArg v_ad (s1.2 _ _).symm
  have ar_0_4_2 : w_ar w2 (n_v vs 0) 4 = w_ar ws (n_v vs 0) 4 := by rw [← ar_0_4_1]; show v_ad (w_fd w2 _ _) = v_ad (w_fd w1 _ _); rw [s2.2]
  have cr_0_4 := fdq_143 hD hth r0
  have ad_9 : v_ad (n_v vs 9) = w_ar ws (n_v vs 0) 3 := (congrArg v_ad f4).trans ar_0_3_1
  have ad_13 : v_ad (n_v vs 13) = w_ar ws (n_v vs 0) 4 := (congrArg v_ad f5).trans ar_0_4_1
  simp only [ad_9] at f3
  have h3 : v_iv (n_v vs 14) = w_ei w1 (w_ar ws (n_v vs 0) 3) (v_iv (n_v vs 1)) := f3
  simp only [ad_9] at f8
  have h8 : v_iv (n_v vs 10) = w_ei w2 (w_ar ws (n_v vs 0) 3) (v_iv (n_v vs 1)) := f8
  simp only [ar_0_3_2, ar_0_2_2, ar_0_4_2] at f13
  have hE_0_2_1 : ∀ j : Int, w_ei ws (w_ar ws (n_v vs 0) 2) j = w_ei w1 (w_ar ws (n_v vs 0) 2) j := el_kp s1.1 r13 cr_0_2 (by decide)
  have hE_0_2_2 : ∀ j : Int, w_ei w1 (w_ar ws (n_v vs 0) 2) j = w_ei w2 (w_ar ws (n_v vs 0) 2) j := el_kp s2.1 r9 cr_0_2 (by decide)
  have hE_0_3_1 : ∀ j : Int, w_ei ws (w_ar ws (n_v vs 0) 3) j = w_ei w1 (w_ar ws (n_v vs 0) 3) j := el_kp s1.1 r13 cr_0_3 (by decide)
  have hE_0_3_2 : ∀ j : Int, 0 ≤ j → (j = v_iv (n_v vs 1) → w_ei w1 (w_ar ws (n_v vs 0) 3) j = v_iv (n_v vs 12)) ∧ (j ≠ v_iv (n_v vs 1) → w_ei w1 (w_ar ws (n_v vs 0) 3) j = w_ei w2 (w_ar ws (n_v vs 0) 3) j) := fun j hj => ⟨fun h => by unfold w_ei; rw [s2.1, if_pos ⟨ad_9.symm, by rw [h]⟩], fun h => by unfold w_ei; rw [s2.1, if_neg (fun e => h (by have := e.2; omega))]⟩
  have hE_0_4_1 : ∀ j : Int, 0 ≤ j → (j = v_iv (n_v vs 1) → w_ei ws (w_ar ws (n_v vs 0) 4) j = v_iv (n_v vs 14)) ∧ (j ≠ v_iv (n_v vs 1) → w_ei ws (w_ar ws (n_v vs 0) 4) j = w_ei w1 (w_ar ws (n_v vs 0) 4) j) := fun j hj => ⟨fun h => by unfold w_ei; rw [s1.1, if_pos ⟨ad_13.symm, by rw [h]⟩], fun h => by unfold w_ei; rw [s1.1, if_neg (fun e => h (by have := e.2; omega))]⟩
  have hE_0_4_2 : ∀ j : Int, w_ei w1 (w_ar ws (n_v vs 0) 4) j = w_ei w2 (w_ar ws (n_v vs 0) 4) j := el_kp s2.1 r9 cr_0_4 (by decide)
  have nf0 : fc_1 PRD (20, [4, 5, 2, 3], [60, 0, 3, 227, 2, 3, 4]) ws (vs) := by
    refine ⟨nf_in hl rfl, sgq_1303 ?_⟩
    · show T130d (w_ei ws (w_ar ws (n_v vs 4) 2)) (w_ei ws (w_ar ws (n_v vs 4) 3)) (w_ei ws (w_ar ws (n_v vs 4) 4)) (v_iv (n_v vs 5)) (v_iv (n_v vs 2)) (v_iv (n_v vs 3))
      simp only [q4, q5]
      exact vc_Mo_step_at_gd_9_0 (v_iv (n_v vs 1)) (v_iv (n_v vs 2)) (v_iv (n_v vs 3)) (v_iv (n_v vs 6)) (v_iv (n_v vs 7)) (v_iv (n_v vs 10)) (v_iv (n_v vs 12)) (v_iv (n_v vs 14)) (w_ei w1 (w_ar ws (n_v vs 0) 3)) (w_ei w2 (w_ar ws (n_v vs 0) 3)) (w_ei w2 (w_ar ws (n_v vs 0) 2)) (w_ei w2 (w_ar ws (n_v vs 0) 4)) (w_ei ws (w_ar ws (n_v vs 0) 2)) (w_ei w1 (w_ar ws (n_v vs 0) 2)) (w_ei ws (w_ar ws (n_v vs 0) 3)) (w_ei ws (w_ar ws (n_v vs 0) 4)) (w_ei w1 (w_ar ws (n_v vs 0) 4)) k1 k2 k3 k6 k7 k10 k12 k14 d0 h3 h8 f13 hE_0_2_1 hE_0_2_2 hE_0_3_1 hE_0_3_2 hE_0_4_1 hE_0_4_2
  refine ⟨(fun _ h => (by cases h)), [], trivial, ?_, (fun _ h => (by cases h))⟩
  rw [List.append_nil]
  exact List.forall_mem_cons.mpr ⟨⟨show (20 : Nat) < 100 from by decide, nf0⟩, (fun _ h => (by cases h))⟩
set_option maxHeartbeats 4000000 in
theorem vc_Mo_step_at_gd_10_0 (x1 : Int) (x2 : Int) (x3 : Int) (all_0 : Int → Int) (now_0 : Int → Int) (latest_0 : Int → Int) (r_0 : Int) (k1 : 0 ≤ x1 ∧ x1 ≤ 3) (k2 : 0 ≤ x2 ∧ x2 ≤ 48) (k3 : 0 ≤ x3 ∧ x3 ≤ 48) (f0 : T130d (all_0) (now_0) (latest_0) (x1) (x2) (x3)) (f3 : r_0 = ((16709 * x1) + (539 * now_0 (x1)))) : RWS (r_0) (all_0) (now_0) (latest_0) := by
  first
    | exact (t130_rws ‹T130n _ _ _ _ _ _› (by omega)).1
    | exact (t130_rws ‹T130e _ _ _ _ _ _› (by omega)).1
    | exact (t130_rws ‹T130d _ _ _ _ _ _› (by omega)).1
    | exact (t130_rws ‹T130v _ _ _ _ _ _› (by omega)).1
    | exact (t130_rws ‹T130x _ _ _ _› (by omega)).1
set_option maxHeartbeats 4000000 in
theorem vc_Mo_step_at_gd_10_1 (x1 : Int) (now_0 : Int → Int) (r_0 : Int) (k1 : 0 ≤ x1 ∧ x1 ≤ 3) (f3 : r_0 = ((16709 * x1) + (539 * now_0 (x1)))) : r_0 = ((16709 * x1) + (539 * now_0 (x1))) := by
  first | omega
set_option maxHeartbeats 4000000 in
theorem vc_Mo_step_at_gd_10_2 (x1 : Int) (x2 : Int) (x3 : Int) (all_0 : Int → Int) (now_0 : Int → Int) (latest_0 : Int → Int) (r_0 : Int) (k1 : 0 ≤ x1 ∧ x1 ≤ 3) (k2 : 0 ≤ x2 ∧ x2 ≤ 48) (k3 : 0 ≤ x3 ∧ x3 ≤ 48) (f0 : T130d (all_0) (now_0) (latest_0) (x1) (x2) (x3)) (f3 : r_0 = ((16709 * x1) + (539 * now_0 (x1)))) : CPd (r_0) (all_0) (x2) (x3) := by
  exact (t130_rws ‹T130d _ _ _ _ _ _› (by omega)).2
def o_Mo_step_at_gd_10 : or_T := (138, 15, [(1, (0, 0, 3, [])), (2, (0, 0, 48, [])), (3, (0, 0, 48, []))], [(20, [4, 5, 2, 3], [60, 0, 3, 227, 2, 3, 4]), (24, [0, 4], []), (24, [1, 5], []), (20, [4, 5], [50, 1, 1, 5, 3, 1, 3, 2, 0, 5, 4, 6, 6, 2, 0, 16709, 1, 1, 6, 2, 0, 539, 3, 0, 3, 1, 1])], [], [], [(20, [0], [60, 1, 3, 199, 5, 2, 3, 4]), (20, [0, 1], [50, 1, 1, 5, 3, 1, 3, 2, 0, 5, 4, 6, 6, 2, 0, 16709, 1, 1, 6, 2, 0, 539, 3, 0, 3, 1, 1]), (20, [0, 2, 3], [60, 1, 1, 224, 5, 2])], [], [])
theorem oo_Mo_step_at_gd_10 {kA : Nat → ClassId} : or_ok PRD kA GG o_Mo_step_at_gd_10 := by
  refine or_mk fun A ta ws vs hD hth hl => ?_
  intro t1 k1 t2 k2 t3 k3 f0 f1 f2 f3
  replace f0 := shm_1303 f0
  replace f1 := shm_5 f1
  replace f2 := shm_5 f2
  replace f3 := shm_1037 f3
  have q4 : n_v vs 4 = n_v vs 0 := f1.symm
  have q5 : n_v vs 5 = n_v vs 1 := f2.symm
  simp only [q4, q5] at f0 f3
  have nf0 : fc_1 PRD (20, [0], [60, 1, 3, 199, 5, 2, 3, 4]) ws (vs) := ⟨nf_in hl rfl, sgq_980 (vc_Mo_step_at_gd_10_0 (v_iv (n_v vs 1)) (v_iv (n_v vs 2)) (v_iv (n_v vs 3)) (w_ei ws (w_ar ws (n_v vs 0) 2)) (w_ei ws (w_ar ws (n_v vs 0) 3)) (w_ei ws (w_ar ws (n_v vs 0) 4)) (w_fi ws (n_v vs 0) 5) k1 k2 k3 f0 f3)⟩
  have nf1 : fc_1 PRD (20, [0, 1], [50, 1, 1, 5, 3, 1, 3, 2, 0, 5, 4, 6, 6, 2, 0, 16709, 1, 1, 6, 2, 0, 539, 3, 0, 3, 1, 1]) ws (vs) := ⟨nf_in hl rfl, sgq_1037 (vc_Mo_step_at_gd_10_1 (v_iv (n_v vs 1)) (w_ei ws (w_ar ws (n_v vs 0) 3)) (w_fi ws (n_v vs 0) 5) k1 f3)⟩
  have nf2 : fc_1 PRD (20, [0, 2, 3], [60, 1, 1, 224, 5, 2]) ws (vs) := ⟨nf_in hl rfl, sgq_1295 (vc_Mo_step_at_gd_10_2 (v_iv (n_v vs 1)) (v_iv (n_v vs 2)) (v_iv (n_v vs 3)) (w_ei ws (w_ar ws (n_v vs 0) 2)) (w_ei ws (w_ar ws (n_v vs 0) 3)) (w_ei ws (w_ar ws (n_v vs 0) 4)) (w_fi ws (n_v vs 0) 5) k1 k2 k3 f0 f3)⟩
  refine ⟨(fun _ h => (by cases h)), [], trivial, ?_, (fun _ h => (by cases h))⟩
  rw [List.append_nil]
  exact List.forall_mem_cons.mpr ⟨⟨show (20 : Nat) < 100 from by decide, nf0⟩, List.forall_mem_cons.mpr ⟨⟨show (20 : Nat) < 100 from by decide, nf1⟩, List.forall_mem_cons.mpr ⟨⟨show (20 : Nat) < 100 from by decide, nf2⟩, (fun _ h => (by cases h))⟩⟩⟩
def o_Mo_step_at_gd_11 : or_T := (99, 15, [(6, (5, 0, 66297, [539])), (7, (0, 0, 538, [])), (10, (0, 539, 539, [])), (11, (5, 539, 66836, [539])), (12, (0, 539, 67374, [])), (13, (0, 0, 66835, [])), (14, (0, -1, 255, [])), (9, (2, 0, 0, [167]))], [(10, [14, 9, 13], []), (1, [13, 6, 7], []), (1, [12, 11, 7], []), (1, [11, 6, 10], [])], [], [], [(18, [12, 14], [1])], [], [(13, 7, 0, 66297), (13, 6, 0, 538), (12, 7, 539, 66836), (12, 11, 0, 538), (12, 6, 539, 1077), (11, 6, 539, 539)])
theorem oo_Mo_step_at_gd_11 {kA : Nat → ClassId} : or_ok PRD kA GG o_Mo_step_at_gd_11 := by
  refine or_mk fun A ta ws vs hD hth hl => ?_
  intro t6 t7 k7 t10 k10 t11 t12 k12 t13 k13 t14 k14 t9 r9 d0 d1 d2 d3 d4 d5 f0 f1 f2 f3
  obtain ⟨k6, q6_⟩ : (0 ≤ v_iv (n_v vs 6) ∧ v_iv (n_v vs 6) ≤ 66297) ∧ ∃ q : Int, v_iv (n_v vs 6) = 539 * q := tv_dvk t6
  obtain ⟨q6, hq6⟩ := q6_
  obtain ⟨k11, q11_⟩ : (539 ≤ v_iv (n_v vs 11) ∧ v_iv (n_v vs 11) ≤ 66836) ∧ ∃ q : Int, v_iv (n_v vs 11) = 539 * q := tv_dvk t11
  obtain ⟨q11, hq11⟩ := q11_
  replace f0 := shm_107 f0
  replace f1 := shm_12 f1
  replace f2 := shm_12 f2
  replace f3 := shm_12 f3
  have nf0 : fc_1 PRD (18, [12, 14], [1]) ws (vs) := by
    refine ⟨nf_in hl rfl, sgq_1302 ?_⟩
    · show pl_ok 1 (v_iv (n_v vs 12)).toNat (v_iv (n_v vs 14))
      have e0 := pl_cp hD hth r9 (g := GG_167) rfl rfl rfl pl_M1 (i := (v_iv (n_v vs 13)).toNat) (j := (v_iv (n_v vs 12)).toNat) (by show (v_iv (n_v vs 13)).toNat < 66836; omega) (by omega)
      rw [← f0] at e0
      exact e0
  refine ⟨(fun _ h => (by cases h)), [], trivial, ?_, (fun _ h => (by cases h))⟩
  rw [List.append_nil]
  exact List.forall_mem_cons.mpr ⟨⟨show (18 : Nat) < 100 from by decide, nf0⟩, (fun _ h => (by cases h))⟩
def o_Mo_step_at_gd_12 : or_T := (99, 15, [(0, (2, 0, 0, [165])), (1, (0, 0, 3, [])), (2, (0, 0, 48, [])), (3, (0, 0, 48, [])), (4, (2, 0, 0, [165])), (5, (0, 0, 3, [])), (6, (0, 0, 66297, [])), (7, (0, 0, 538, [])), (8, (0, 539, 539, [])), (9, (2, 0, 0, [167])), (10, (0, 539, 539, [])), (11, (0, 539, 66836, [])), (12, (0, 539, 67374, [])), (13, (0, 0, 66835, [])), (14, (0, -1, 255, []))], [(10, [14, 9, 13], []), (1, [13, 6, 7], []), (9, [9, 4], [2]), (1, [12, 11, 7], []), (1, [11, 6, 10], []), (7, [7, 8], [2]), (20, [4, 5], [30, 29, 1, 2, 3]), (20, [6, 5, 4, 5], [30, 0, 1, 0, 0, -16709, 0, 0, -539, 2, 3]), (20, [6, 5, 4, 5], [30, 0, -1, 0, 0, 16709, 0, 0, 539, 2, 3]), (20, [4, 5, 6, 7, 2, 3], [60, 0, 3, 226, 2, 3, 4]), (24, [0, 4], []), (24, [1, 5], [])], [(12, (0, 539, 66835, []))], [], [], [], [(13, 7, 0, 66297), (13, 6, 0, 538), (12, 7, 539, 66836), (12, 11, 0, 538), (12, 6, 539, 1077), (11, 6, 539, 539), (1, 5, -4294967296, 0), (5, 1, -4294967296, 0)])
theorem oo_Mo_step_at_gd_12 {kA : Nat → ClassId} : or_ok PRD kA GG o_Mo_step_at_gd_12 := by
  refine or_mk fun A ta ws vs hD hth hl => ?_
  intro t0 r0 t1 k1 t2 k2 t3 k3 t4 r4 t5 k5 t6 k6 t7 k7 t8 k8 t9 r9 t10 k10 t11 k11 t12 k12 t13 k13 t14 k14 d0 d1 d2 d3 d4 d5 d6 d7 f0 f1 f2 f3 f4 f5 f6 f7 f8 f9 f10 f11
  replace f0 := shm_107 f0
  replace f1 := shm_12 f1
  replace f2 := shm_120 f2
  replace f3 := shm_12 f3
  replace f4 := shm_12 f4
  replace f5 := shm_6 f5
  replace f6 := shm_1296 f6
  replace f7 := shm_1297 f7
  replace f8 := shm_1298 f8
  replace f9 := shm_1299 f9
  replace f10 := shm_5 f10
  replace f11 := shm_5 f11
  have q4 : n_v vs 4 = n_v vs 0 := f10.symm
  have q5 : n_v vs 5 = n_v vs 1 := f11.symm
  simp only [q4, q5] at f2 f6 f7 f8 f9
  have cr_0_2 := fdq_10 hD hth r0
  have cr_0_3 := fdq_142 hD hth r0
  have cr_0_4 := fdq_143 hD hth r0
  have ad_9 : v_ad (n_v vs 9) = w_ar ws (n_v vs 0) 2 := congrArg v_ad f2
  simp only [ad_9] at f0
  have h0 : v_iv (n_v vs 14) = w_ei ws (w_ar ws (n_v vs 0) 2) (v_iv (n_v vs 13)) := f0
  have br_0_2_13_0 : w_ei ws (w_ar ws (n_v vs 0) 2) (v_iv (n_v vs 13)) = w_el ws (w_ar ws (n_v vs 0) 2) (v_iv (n_v vs 13)).toNat := rfl
  have br_0_3_1_0 : w_ei ws (w_ar ws (n_v vs 0) 3) (v_iv (n_v vs 1)) = w_el ws (w_ar ws (n_v vs 0) 3) (v_iv (n_v vs 1)).toNat := rfl
  have hK_0_3 := elq_80 hD hth cr_0_3
  have hK_0_4 := elq_81 hD hth cr_0_4
  have rf12 : tv_ok ta (0, 539, 66835, []) (n_v vs 12) := tv_in t12 (by first | omega | grind) (by first | omega | grind)
  refine ⟨List.forall_mem_cons.mpr ⟨rf12, (fun _ h => (by cases h))⟩, [], trivial, ?_, (fun _ h => (by cases h))⟩
  rw [List.append_nil]
  exact (fun _ h => (by cases h))
set_option maxHeartbeats 4000000 in
theorem vc_Mo_step_at_gd_13_0 (x1 : Int) (x2 : Int) (x3 : Int) (x5 : Int) (x6 : Int) (x7 : Int) (x11 : Int) (x12 : Int) (x13 : Int) (x14 : Int) (x15 : Int) (now_0 : Int → Int) (all_1 : Int → Int) (now_1 : Int → Int) (latest_1 : Int → Int) (all_0 : Int → Int) (latest_0 : Int → Int) (k1 : 0 ≤ x1 ∧ x1 ≤ 3) (k2 : 0 ≤ x2 ∧ x2 ≤ 48) (k3 : 0 ≤ x3 ∧ x3 ≤ 48) (k5 : 0 ≤ x5 ∧ x5 ≤ 3) (k6 : 0 ≤ x6 ∧ x6 ≤ 66297) (k7 : 0 ≤ x7 ∧ x7 ≤ 538) (k11 : 539 ≤ x11 ∧ x11 ≤ 66836) (k12 : 539 ≤ x12 ∧ x12 ≤ 66835) (k13 : 0 ≤ x13 ∧ x13 ≤ 66835) (k14 : (-1) ≤ x14 ∧ x14 ≤ 255) (k15 : 1 ≤ x15 ∧ x15 ≤ 539) (d0 : x7 + 1 ≤ x15 ∧ x15 ≤ x7 + 1) (d6 : x6 + 539 ≤ x11 ∧ x11 ≤ x6 + 539) (d7 : x5 + (-4294967296) ≤ x1 ∧ x1 ≤ x5 + 0) (d8 : x1 + (-4294967296) ≤ x5 ∧ x5 ≤ x1 + 0) (f0 : x15 = x7 + 1) (f2 : 1 * x6 + ((-16709) * x1 + ((-539) * now_0 (x1) + 0)) ≤ 0) (f3 : (-1) * x6 + (16709 * x1 + (539 * now_0 (x1) + 0)) ≤ 0) (h7 : x14 = all_1 (x13)) (f8 : x13 = x6 + x7) (f10 : x12 = x11 + x7) (f16 : T73d (all_1) (now_1) (latest_1) (x1) (x6) (x7) (x2) (x3)) (hE_0_2_1 : ∀ j : Int, 0 ≤ j → (j = x12 → all_0 j = x14) ∧ (j ≠ x12 → all_0 j = all_1 j)) (hE_0_3_1 : ∀ j : Int, now_0 j = now_1 j) (hE_0_4_1 : ∀ j : Int, latest_0 j = latest_1 j) : T73d (all_0) (now_0) (latest_0) (x1) (x6) (x15) (x2) (x3) := by
  have e_hE_0_3_1 := funext hE_0_3_1; subst e_hE_0_3_1
  have e_hE_0_4_1 := funext hE_0_4_1; subst e_hE_0_4_1
  first
    | exact t73_step ‹T73d _ _ _ _ _ _ _ _› (by assumption) (by omega) (by omega) (by omega) (by assumption) (by omega)
def o_Mo_step_at_gd_13 : or_T := (73, 16, [(0, (2, 0, 0, [165])), (1, (0, 0, 3, [])), (2, (0, 0, 48, [])), (3, (0, 0, 48, [])), (5, (0, 0, 3, [])), (6, (0, 0, 66297, [])), (7, (0, 0, 538, [])), (9, (2, 0, 0, [167])), (11, (0, 539, 66836, [])), (12, (0, 539, 66835, [])), (13, (0, 0, 66835, [])), (14, (0, -1, 255, [])), (15, (0, 1, 539, []))], [(6, [15, 7], [1]), (20, [6, 5, 4, 5], [30, 0, 1, 0, 0, -16709, 0, 0, -539, 2, 3]), (20, [6, 5, 4, 5], [30, 0, -1, 0, 0, 16709, 0, 0, 539, 2, 3]), (24, [0, 4], []), (24, [1, 5], []), (100, [9, 12, 14], []), (10, [14, 9, 13], []), (1, [13, 6, 7], []), (9, [9, 4], [2]), (1, [12, 11, 7], []), (20, [4, 5, 6, 7, 2, 3], [60, 0, 3, 226, 2, 3, 4])], [], [], [(20, [4, 5, 6, 15, 2, 3], [60, 0, 3, 226, 2, 3, 4])], [], [(15, 7, 1, 1), (12, 7, 539, 66836), (12, 11, 0, 538), (12, 6, 539, 1077), (11, 6, 539, 539), (1, 5, -4294967296, 0), (5, 1, -4294967296, 0)])
theorem oo_Mo_step_at_gd_13 {kA : Nat → ClassId} : or_ok PRD kA GG o_Mo_step_at_gd_13 := by
  refine or_mk fun A ta ws vs hD hth hl => ?_
  intro t0 r0 t1 k1 t2 k2 t3 k3 t5 k5 t6 k6 t7 k7 t9 r9 t11 k11 t12 k12 t13 k13 t14 k14 t15 k15 d0 d3 d4 d5 d6 d7 d8 f0 f2 f3 f4 f5 ta1 w1 le1 s1 f7 f8 f9 f10 f16
  replace f0 := shm_4 f0
  replace f2 := shm_1297 f2
  replace f3 := shm_1298 f3
  replace f4 := shm_5 f4
  replace f5 := shm_5 f5
  have s1 : (∀ b j, w_el ws b j = if b = v_ad (n_v vs 9) ∧ j = (v_iv (n_v vs 12)).toNat then v_iv (n_v vs 14) else w_el w1 b j) ∧ ∀ b k, w_fd ws b k = w_fd w1 b k := s1.2
  replace f7 := shm_107 f7
  replace f8 := shm_12 f8
  replace f9 := shm_120 f9
  replace f10 := shm_12 f10
  replace f16 := shm_1299 f16
  have q4 : n_v vs 4 = n_v vs 0 := f4.symm
  have q5 : n_v vs 5 = n_v vs 1 := f5.symm
  simp only [q4, q5] at f2 f3 f9 f16
  have ar_0_2_1 : w_ar w1 (n_v vs 0) 2 = w_ar ws (n_v vs 0) 2 := congrArg v_ad (s1.2 _ _).symm
  have ar_0_3_1 : w_ar w1 (n_v vs 0) 3 = w_ar ws (n_v vs 0) 3 := congrArg v_ad (s1.2 _ _).symm
  have cr_0_3 := fdq_142 hD hth r0
  have ar_0_4_1 : w_ar w1 (n_v vs 0) 4 = w_ar ws (n_v vs 0) 4 := congrArg v_ad (s1.2 _ _).symm
  have cr_0_4 := fdq_143 hD hth r0
  have ad_9 : v_ad (n_v vs 9) = w_ar ws (n_v vs 0) 2 := (congrArg v_ad f9).trans ar_0_2_1
  simp only [ad_9] at f7
  have h7 : v_iv (n_v vs 14) = w_ei w1 (w_ar ws (n_v vs 0) 2) (v_iv (n_v vs 13)) := f7
  simp only [ar_0_3_1, ar_0_2_1, ar_0_4_1] at f16
  have hE_0_2_1 : ∀ j : Int, 0 ≤ j → (j = v_iv (n_v vs 12) → w_ei ws (w_ar ws (n_v vs 0) 2) j = v_iv (n_v vs 14)) ∧ (j ≠ v_iv (n_v vs 12) → w_ei ws (w_ar ws (n_v vs 0) 2) j = w_ei w1 (w_ar ws (n_v vs 0) 2) j) := fun j hj => ⟨fun h => by unfold w_ei; rw [s1.1, if_pos ⟨ad_9.symm, by rw [h]⟩], fun h => by unfold w_ei; rw [s1.1, if_neg (fun e => h (by have := e.2; omega))]⟩
  have hE_0_3_1 : ∀ j : Int, w_ei ws (w_ar ws (n_v vs 0) 3) j = w_ei w1 (w_ar ws (n_v vs 0) 3) j := el_kp s1.1 r9 cr_0_3 (by decide)
  have hE_0_4_1 : ∀ j : Int, w_ei ws (w_ar ws (n_v vs 0) 4) j = w_ei w1 (w_ar ws (n_v vs 0) 4) j := el_kp s1.1 r9 cr_0_4 (by decide)
  have nf0 : fc_1 PRD (20, [4, 5, 6, 15, 2, 3], [60, 0, 3, 226, 2, 3, 4]) ws (vs) := by
    refine ⟨nf_in hl rfl, sgq_1299 ?_⟩
    · show T73d (w_ei ws (w_ar ws (n_v vs 4) 2)) (w_ei ws (w_ar ws (n_v vs 4) 3)) (w_ei ws (w_ar ws (n_v vs 4) 4)) (v_iv (n_v vs 5)) (v_iv (n_v vs 6)) (v_iv (n_v vs 15)) (v_iv (n_v vs 2)) (v_iv (n_v vs 3))
      simp only [q4, q5]
      exact vc_Mo_step_at_gd_13_0 (v_iv (n_v vs 1)) (v_iv (n_v vs 2)) (v_iv (n_v vs 3)) (v_iv (n_v vs 5)) (v_iv (n_v vs 6)) (v_iv (n_v vs 7)) (v_iv (n_v vs 11)) (v_iv (n_v vs 12)) (v_iv (n_v vs 13)) (v_iv (n_v vs 14)) (v_iv (n_v vs 15)) (w_ei ws (w_ar ws (n_v vs 0) 3)) (w_ei w1 (w_ar ws (n_v vs 0) 2)) (w_ei w1 (w_ar ws (n_v vs 0) 3)) (w_ei w1 (w_ar ws (n_v vs 0) 4)) (w_ei ws (w_ar ws (n_v vs 0) 2)) (w_ei ws (w_ar ws (n_v vs 0) 4)) k1 k2 k3 k5 k6 k7 k11 k12 k13 k14 k15 d0 d6 d7 d8 f0 f2 f3 h7 f8 f10 f16 hE_0_2_1 hE_0_3_1 hE_0_4_1
  refine ⟨(fun _ h => (by cases h)), [], trivial, ?_, (fun _ h => (by cases h))⟩
  rw [List.append_nil]
  exact List.forall_mem_cons.mpr ⟨⟨show (20 : Nat) < 100 from by decide, nf0⟩, (fun _ h => (by cases h))⟩
def n_Mo_step_at_gd_an : List an_T := [(13, [(0, (2, 0, 0, [165])), (1, (0, 0, 3, [])), (2, (0, 0, 16170, []))], [], (0, 0), [(0, 0, 99987), (1, 6, 16170), (0, 0, 100000)], [(1, 5, (Int.negSucc 999999999999), 0), (5, 1, (Int.negSucc 999999999999), 0)], [], [(2, 0, 0, [165]), (0, 0, 3, []), (0, 0, 48, []), (0, 0, 48, [])], 0, [], [(20, [4, 5], [30, (Int.negSucc 29), (Int.negSucc 0), 2, 3]), (20, [4, 5, 6, 2, 3], [60, 0, 3, 225, 2, 3, 4]), (24, [0, 4], []), (24, [1, 5], [])]), (73, [(0, (2, 0, 0, [165])), (1, (0, 0, 3, [])), (2, (5, 0, 66297, [539])), (3, (0, 0, 539, []))], [], (0, 0), [(0, 0, 99927), (1, 7, 539), (0, 0, 100000)], [(1, 5, (Int.negSucc 999999999999), 0), (5, 1, (Int.negSucc 999999999999), 0)], [], [(2, 0, 0, [165]), (0, 0, 3, []), (0, 0, 48, []), (0, 0, 48, [])], 0, [], [(20, [4, 5], [30, 29, 1, 2, 3]), (20, [6, 5, 4, 5], [30, 0, 1, 0, 0, (Int.negSucc 16708), 0, 0, (Int.negSucc 538), 2, 3]), (20, [6, 5, 4, 5], [30, 0, (Int.negSucc 0), 0, 0, 16709, 0, 0, 539, 2, 3]), (20, [4, 5, 6, 7, 2, 3], [60, 0, 3, 226, 2, 3, 4]), (24, [0, 4], []), (24, [1, 5], [])])]
def t_Mo_step_at_gd_ct : ct_L := [(0, 372, e_Mo_rowOf), (1, 524, e_Mo_changed), (1, 527, e_Mo_take)]
set_option maxRecDepth 100000 in
theorem c_Mo_step_at_gd {l : Launch} {D : va_G} {kA : Nat → ClassId} (h_Mo_changed : ct_ok PRD l D kA GG y_Mo_changed z_Mo_changed e_Mo_changed) (h_Mo_rowOf : ct_ok PRD l D kA GG y_Mo_rowOf z_Mo_rowOf e_Mo_rowOf) (h_Mo_take : ct_ok PRD l D kA GG y_Mo_take z_Mo_take e_Mo_take) : ct_ok PRD l D kA GG y_Mo_step_at_gd z_Mo_step_at_gd e_Mo_step_at_gd := chk_all_ok (FT := [(16, 13, 2), (20, 13, 3), (23, 13, 4)]) (PT := []) (CT := t_Mo_step_at_gd_ct) (KT := []) (NT := []) (AN := n_Mo_step_at_gd_an) (OT := [o_Mo_step_at_gd_0, o_Mo_step_at_gd_1, o_Mo_step_at_gd_2, o_Mo_step_at_gd_3, o_Mo_step_at_gd_4, o_Mo_step_at_gd_5, o_Mo_step_at_gd_6, o_Mo_step_at_gd_7, o_Mo_step_at_gd_8, o_Mo_step_at_gd_9, o_Mo_step_at_gd_10, o_Mo_step_at_gd_11, o_Mo_step_at_gd_12, o_Mo_step_at_gd_13]) 3 388 (List.forall_mem_cons.mpr ⟨oo_Mo_step_at_gd_0, List.forall_mem_cons.mpr ⟨oo_Mo_step_at_gd_1, List.forall_mem_cons.mpr ⟨oo_Mo_step_at_gd_2, List.forall_mem_cons.mpr ⟨oo_Mo_step_at_gd_3, List.forall_mem_cons.mpr ⟨oo_Mo_step_at_gd_4, List.forall_mem_cons.mpr ⟨oo_Mo_step_at_gd_5, List.forall_mem_cons.mpr ⟨oo_Mo_step_at_gd_6, List.forall_mem_cons.mpr ⟨oo_Mo_step_at_gd_7, List.forall_mem_cons.mpr ⟨oo_Mo_step_at_gd_8, List.forall_mem_cons.mpr ⟨oo_Mo_step_at_gd_9, List.forall_mem_cons.mpr ⟨oo_Mo_step_at_gd_10, List.forall_mem_cons.mpr ⟨oo_Mo_step_at_gd_11, List.forall_mem_cons.mpr ⟨oo_Mo_step_at_gd_12, List.forall_mem_cons.mpr ⟨oo_Mo_step_at_gd_13, List.forall_mem_nil _⟩⟩⟩⟩⟩⟩⟩⟩⟩⟩⟩⟩⟩⟩) (by decide +kernel) ⟨List.forall_mem_cons.mpr ⟨gf_Mo_16, List.forall_mem_cons.mpr ⟨gf_Mo_20, List.forall_mem_cons.mpr ⟨gf_Mo_23, List.forall_mem_nil _⟩⟩⟩, List.forall_mem_nil _, List.forall_mem_cons.mpr ⟨cl_static (y := y_Mo_rowOf) h_Mo_rowOf wm_2420 wm_9 wm_2418 wm_2419 ⟨by decide, by decide, by decide +kernel⟩ (by decide), List.forall_mem_cons.mpr ⟨cl_virtual (y := y_Mo_changed) (ci := 13) rfl rfl ⟨_, _, rfl⟩ (by decide +kernel) h_Mo_changed wm_3083 wm_9 wm_3080 wm_3082 wv_14_1 ⟨by decide, by decide, by decide +kernel⟩ (by decide), List.forall_mem_cons.mpr ⟨cl_virtual (y := y_Mo_take) (ci := 13) rfl rfl ⟨_, _, rfl⟩ (by decide +kernel) h_Mo_take wm_3091 wm_9 wm_3088 wm_3090 wv_14_2 ⟨by decide, by decide, by decide +kernel⟩ (by decide), List.forall_mem_nil _⟩⟩⟩, List.forall_mem_nil _, List.forall_mem_nil _, GG_pl⟩ (by decide +kernel)
set_option maxHeartbeats 4000000 in
theorem vc_Mo_step_at_ge_0_0 (x1 : Int) (x5 : Int) (now_0 : Int → Int) (k1 : 0 ≤ x1 ∧ x1 ≤ 3) (k5 : 0 ≤ x5 ∧ x5 ≤ 29) (h5 : x5 = now_0 (x1)) : 1 * now_0 (x1) + 0 ≤ 29 := by
  first
    | omega
    | (have q := hE_0_3_1 x1 (by omega); omega)
set_option maxHeartbeats 4000000 in
theorem vc_Mo_step_at_ge_0_1 (x1 : Int) (x7 : Int) (x8 : Int) (now_0 : Int → Int) (k1 : 0 ≤ x1 ∧ x1 ≤ 3) (k7 : 0 ≤ x7 ∧ x7 ≤ 30) (k8 : 0 ≤ x8 ∧ x8 ≤ 66297) (f0 : 1 * x8 + ((-16709) * x1 + ((-539) * x7 + 0)) ≤ 0) (f1 : (-1) * x8 + (16709 * x1 + (539 * x7 + 0)) ≤ 0) (h2 : x7 = now_0 (x1)) : 1 * x8 + ((-16709) * x1 + ((-539) * now_0 (x1) + 0)) ≤ 0 := by
  first
    | omega
    | (have q := hE_0_3_1 x1 (by omega); omega)
set_option maxHeartbeats 4000000 in
theorem vc_Mo_step_at_ge_0_2 (x1 : Int) (x7 : Int) (x8 : Int) (now_0 : Int → Int) (k1 : 0 ≤ x1 ∧ x1 ≤ 3) (k7 : 0 ≤ x7 ∧ x7 ≤ 30) (k8 : 0 ≤ x8 ∧ x8 ≤ 66297) (f0 : 1 * x8 + ((-16709) * x1 + ((-539) * x7 + 0)) ≤ 0) (f1 : (-1) * x8 + (16709 * x1 + (539 * x7 + 0)) ≤ 0) (h2 : x7 = now_0 (x1)) : (-1) * x8 + (16709 * x1 + (539 * now_0 (x1) + 0)) ≤ 0 := by
  first
    | omega
    | (have q := hE_0_3_1 x1 (by omega); omega)
set_option maxHeartbeats 4000000 in
theorem vc_Mo_step_at_ge_0_3 (x1 : Int) (x2 : Int) (x3 : Int) (x5 : Int) (x7 : Int) (x8 : Int) (x9 : Int) (now_0 : Int → Int) (all_0 : Int → Int) (latest_0 : Int → Int) (r_0 : Int) (k1 : 0 ≤ x1 ∧ x1 ≤ 3) (k2 : 0 ≤ x2 ∧ x2 ≤ 48) (k3 : 0 ≤ x3 ∧ x3 ≤ 48) (k5 : 0 ≤ x5 ∧ x5 ≤ 29) (k7 : 0 ≤ x7 ∧ x7 ≤ 30) (k8 : 0 ≤ x8 ∧ x8 ≤ 66297) (k9 : 0 ≤ x9 ∧ x9 ≤ 0) (f0 : 1 * x8 + ((-16709) * x1 + ((-539) * x7 + 0)) ≤ 0) (f1 : (-1) * x8 + (16709 * x1 + (539 * x7 + 0)) ≤ 0) (h2 : x7 = now_0 (x1)) (h5 : x5 = now_0 (x1)) (f6 : RWS (r_0) (all_0) (now_0) (latest_0)) (f7 : r_0 = ((16709 * x1) + (539 * now_0 (x1)))) (f8 : CPe (r_0) (all_0) (x2) (x3)) : T73e (all_0) (now_0) (latest_0) (x1) (x8) (x9) (x2) (x3) := by
  first
    | exact t73_start (t60_now ‹RWS _ _ _ _› (by omega) ‹CPe _ _ _ _› (by omega) (by omega) (by omega)) (by omega) (by omega)
def o_Mo_step_at_ge_0 : or_T := (73, 10, [(1, (0, 0, 3, [])), (2, (0, 0, 48, [])), (3, (0, 0, 48, [])), (5, (0, 0, 29, [])), (7, (0, 0, 30, [])), (8, (0, 0, 66297, [])), (9, (0, 0, 0, []))], [(23, [8, 1, 7], [0, 1, -16709, -539]), (23, [8, 1, 7], [0, -1, 16709, 539]), (10, [7, 4, 1], []), (9, [4, 0], [3]), (10, [5, 4, 1], []), (20, [0], [60, 1, 3, 199, 5, 2, 3, 4]), (20, [0, 1], [50, 1, 1, 5, 3, 1, 3, 2, 0, 5, 4, 6, 6, 2, 0, 16709, 1, 1, 6, 2, 0, 539, 3, 0, 3, 1, 1]), (20, [0, 2, 3], [60, 1, 1, 220, 5, 2])], [], [], [(20, [0, 1], [30, 29, 1, 2, 3]), (20, [8, 1, 0, 1], [30, 0, 1, 0, 0, -16709, 0, 0, -539, 2, 3]), (20, [8, 1, 0, 1], [30, 0, -1, 0, 0, 16709, 0, 0, 539, 2, 3]), (20, [0, 1, 8, 9, 2, 3], [60, 0, 3, 222, 2, 3, 4]), (24, [0, 0], []), (24, [1, 1], [])], [], [])
theorem oo_Mo_step_at_ge_0 {kA : Nat → ClassId} : or_ok PRD kA GG o_Mo_step_at_ge_0 := by
  refine or_mk fun A ta ws vs hD hth hl => ?_
  intro t1 k1 t2 k2 t3 k3 t5 k5 t7 k7 t8 k8 t9 k9 f0 f1 f2 f3 f5 f6 f7 f8
  replace f2 := shm_107 f2
  replace f3 := shm_137 f3
  replace f5 := shm_107 f5
  have ad_4 : v_ad (n_v vs 4) = w_ar ws (n_v vs 0) 3 := congrArg v_ad f3
  simp only [ad_4] at f2
  have h2 : v_iv (n_v vs 7) = w_ei ws (w_ar ws (n_v vs 0) 3) (v_iv (n_v vs 1)) := f2
  simp only [ad_4] at f5
  have h5 : v_iv (n_v vs 5) = w_ei ws (w_ar ws (n_v vs 0) 3) (v_iv (n_v vs 1)) := f5
  have nf0 : fc_1 PRD (20, [0, 1], [30, 29, 1, 2, 3]) ws (vs) := ⟨nf_in hl rfl, sgq_1296 (vc_Mo_step_at_ge_0_0 (v_iv (n_v vs 1)) (v_iv (n_v vs 5)) (w_ei ws (w_ar ws (n_v vs 0) 3)) k1 k5 h5)⟩
  have nf1 : fc_1 PRD (20, [8, 1, 0, 1], [30, 0, 1, 0, 0, -16709, 0, 0, -539, 2, 3]) ws (vs) := ⟨nf_in hl rfl, sgq_1297 (vc_Mo_step_at_ge_0_1 (v_iv (n_v vs 1)) (v_iv (n_v vs 7)) (v_iv (n_v vs 8)) (w_ei ws (w_ar ws (n_v vs 0) 3)) k1 k7 k8 (shm_128 f0) (shm_129 f1) h2)⟩
  have nf2 : fc_1 PRD (20, [8, 1, 0, 1], [30, 0, -1, 0, 0, 16709, 0, 0, 539, 2, 3]) ws (vs) := ⟨nf_in hl rfl, sgq_1298 (vc_Mo_step_at_ge_0_2 (v_iv (n_v vs 1)) (v_iv (n_v vs 7)) (v_iv (n_v vs 8)) (w_ei ws (w_ar ws (n_v vs 0) 3)) k1 k7 k8 (shm_128 f0) (shm_129 f1) h2)⟩
  have nf3 : fc_1 PRD (20, [0, 1, 8, 9, 2, 3], [60, 0, 3, 222, 2, 3, 4]) ws (vs) := ⟨nf_in hl rfl, sgq_1305 (vc_Mo_step_at_ge_0_3 (v_iv (n_v vs 1)) (v_iv (n_v vs 2)) (v_iv (n_v vs 3)) (v_iv (n_v vs 5)) (v_iv (n_v vs 7)) (v_iv (n_v vs 8)) (v_iv (n_v vs 9)) (w_ei ws (w_ar ws (n_v vs 0) 3)) (w_ei ws (w_ar ws (n_v vs 0) 2)) (w_ei ws (w_ar ws (n_v vs 0) 4)) (w_fi ws (n_v vs 0) 5) k1 k2 k3 k5 k7 k8 k9 (shm_128 f0) (shm_129 f1) h2 h5 (shm_980 f6) (shm_1037 f7) (shm_1304 f8))⟩
  have nf4 : fc_1 PRD (24, [0, 0], []) ws (vs) := by
    refine ⟨nf_in hl rfl, sgq_1 ?_⟩
    · show n_v vs 0 = n_v vs 0
      first | rfl | simp only [true_and]
  have nf5 : fc_1 PRD (24, [1, 1], []) ws (vs) := by
    refine ⟨nf_in hl rfl, sgq_1 ?_⟩
    · show n_v vs 1 = n_v vs 1
      first | rfl | simp only [true_and]
  refine ⟨(fun _ h => (by cases h)), [], trivial, ?_, (fun _ h => (by cases h))⟩
  rw [List.append_nil]
  exact List.forall_mem_cons.mpr ⟨⟨show (20 : Nat) < 100 from by decide, nf0⟩, List.forall_mem_cons.mpr ⟨⟨show (20 : Nat) < 100 from by decide, nf1⟩, List.forall_mem_cons.mpr ⟨⟨show (20 : Nat) < 100 from by decide, nf2⟩, List.forall_mem_cons.mpr ⟨⟨show (20 : Nat) < 100 from by decide, nf3⟩, List.forall_mem_cons.mpr ⟨⟨show (24 : Nat) < 100 from by decide, nf4⟩, List.forall_mem_cons.mpr ⟨⟨show (24 : Nat) < 100 from by decide, nf5⟩, (fun _ h => (by cases h))⟩⟩⟩⟩⟩⟩
set_option maxHeartbeats 4000000 in
theorem vc_Mo_step_at_ge_1_0 (x1 : Int) (x5 : Int) (now_0 : Int → Int) (k1 : 0 ≤ x1 ∧ x1 ≤ 3) (k5 : 30 ≤ x5 ∧ x5 ≤ 30) (h1 : x5 = now_0 (x1)) : (-1) * now_0 (x1) + 0 ≤ (-30) := by
  first | omega
set_option maxHeartbeats 4000000 in
theorem vc_Mo_step_at_ge_1_1 (x1 : Int) (x2 : Int) (x3 : Int) (x5 : Int) (x7 : Int) (now_0 : Int → Int) (all_0 : Int → Int) (latest_0 : Int → Int) (r_0 : Int) (k1 : 0 ≤ x1 ∧ x1 ≤ 3) (k2 : 0 ≤ x2 ∧ x2 ≤ 48) (k3 : 0 ≤ x3 ∧ x3 ≤ 48) (k5 : 30 ≤ x5 ∧ x5 ≤ 30) (k7 : 0 ≤ x7 ∧ x7 ≤ 0) (h1 : x5 = now_0 (x1)) (f3 : RWS (r_0) (all_0) (now_0) (latest_0)) (f4 : r_0 = ((16709 * x1) + (539 * now_0 (x1)))) (f5 : CPe (r_0) (all_0) (x2) (x3)) : T13e (all_0) (now_0) (latest_0) (x1) (x7) (x2) (x3) := by
  first
    | exact t13_start ‹RWS _ _ _ _› (by omega) ‹CPe _ _ _ _› (by omega) (by omega) (by omega) (by omega)
def o_Mo_step_at_ge_1 : or_T := (13, 8, [(1, (0, 0, 3, [])), (2, (0, 0, 48, [])), (3, (0, 0, 48, [])), (5, (0, 30, 30, [])), (7, (0, 0, 0, []))], [(10, [5, 4, 1], []), (9, [4, 0], [3]), (20, [0], [60, 1, 3, 199, 5, 2, 3, 4]), (20, [0, 1], [50, 1, 1, 5, 3, 1, 3, 2, 0, 5, 4, 6, 6, 2, 0, 16709, 1, 1, 6, 2, 0, 539, 3, 0, 3, 1, 1]), (20, [0, 2, 3], [60, 1, 1, 220, 5, 2])], [], [], [(20, [0, 1], [30, -30, -1, 2, 3]), (20, [0, 1, 7, 2, 3], [60, 0, 3, 221, 2, 3, 4]), (24, [0, 0], []), (24, [1, 1], [])], [], [])
theorem oo_Mo_step_at_ge_1 {kA : Nat → ClassId} : or_ok PRD kA GG o_Mo_step_at_ge_1 := by
  refine or_mk fun A ta ws vs hD hth hl => ?_
  intro t1 k1 t2 k2 t3 k3 t5 k5 t7 k7 f1 f2 f3 f4 f5
  replace f1 := shm_107 f1
  replace f2 := shm_137 f2
  have ad_4 : v_ad (n_v vs 4) = w_ar ws (n_v vs 0) 3 := congrArg v_ad f2
  simp only [ad_4] at f1
  have h1 : v_iv (n_v vs 5) = w_ei ws (w_ar ws (n_v vs 0) 3) (v_iv (n_v vs 1)) := f1
  have nf0 : fc_1 PRD (20, [0, 1], [30, -30, -1, 2, 3]) ws (vs) := ⟨nf_in hl rfl, sgq_1300 (vc_Mo_step_at_ge_1_0 (v_iv (n_v vs 1)) (v_iv (n_v vs 5)) (w_ei ws (w_ar ws (n_v vs 0) 3)) k1 k5 h1)⟩
  have nf1 : fc_1 PRD (20, [0, 1, 7, 2, 3], [60, 0, 3, 221, 2, 3, 4]) ws (vs) := ⟨nf_in hl rfl, sgq_1306 (vc_Mo_step_at_ge_1_1 (v_iv (n_v vs 1)) (v_iv (n_v vs 2)) (v_iv (n_v vs 3)) (v_iv (n_v vs 5)) (v_iv (n_v vs 7)) (w_ei ws (w_ar ws (n_v vs 0) 3)) (w_ei ws (w_ar ws (n_v vs 0) 2)) (w_ei ws (w_ar ws (n_v vs 0) 4)) (w_fi ws (n_v vs 0) 5) k1 k2 k3 k5 k7 h1 (shm_980 f3) (shm_1037 f4) (shm_1304 f5))⟩
  have nf2 : fc_1 PRD (24, [0, 0], []) ws (vs) := by
    refine ⟨nf_in hl rfl, sgq_1 ?_⟩
    · show n_v vs 0 = n_v vs 0
      first | rfl | simp only [true_and]
  have nf3 : fc_1 PRD (24, [1, 1], []) ws (vs) := by
    refine ⟨nf_in hl rfl, sgq_1 ?_⟩
    · show n_v vs 1 = n_v vs 1
      first | rfl | simp only [true_and]
  refine ⟨(fun _ h => (by cases h)), [], trivial, ?_, (fun _ h => (by cases h))⟩
  rw [List.append_nil]
  exact List.forall_mem_cons.mpr ⟨⟨show (20 : Nat) < 100 from by decide, nf0⟩, List.forall_mem_cons.mpr ⟨⟨show (20 : Nat) < 100 from by decide, nf1⟩, List.forall_mem_cons.mpr ⟨⟨show (24 : Nat) < 100 from by decide, nf2⟩, List.forall_mem_cons.mpr ⟨⟨show (24 : Nat) < 100 from by decide, nf3⟩, (fun _ h => (by cases h))⟩⟩⟩⟩
def o_Mo_step_at_ge_2 : or_T := (59, 12, [(0, (2, 0, 0, [165])), (1, (0, 0, 3, [])), (2, (0, 0, 48, [])), (3, (0, 0, 48, [])), (4, (2, 0, 0, [165])), (5, (0, 0, 3, [])), (6, (0, 16170, 16170, [])), (7, (0, 16170, 16170, [])), (8, (2, 0, 0, [168])), (9, (0, 0, 30, [])), (10, (0, 1, 1, [])), (11, (0, -1, 29, []))], [(2, [11, 9, 10], []), (10, [9, 8, 5], []), (9, [8, 4], [3]), (7, [6, 7], [3]), (20, [4, 5], [30, -30, -1, 2, 3]), (20, [4, 5, 6, 2, 3], [60, 0, 3, 221, 2, 3, 4]), (24, [0, 4], []), (24, [1, 5], [])], [(11, (0, 0, 29, []))], [], [], [], [(11, 9, -1, -1), (1, 5, -4294967296, 0), (5, 1, -4294967296, 0)])
theorem oo_Mo_step_at_ge_2 {kA : Nat → ClassId} : or_ok PRD kA GG o_Mo_step_at_ge_2 := by
  refine or_mk fun A ta ws vs hD hth hl => ?_
  intro t0 r0 t1 k1 t2 k2 t3 k3 t4 r4 t5 k5 t6 k6 t7 k7 t8 r8 t9 k9 t10 k10 t11 k11 d0 d1 d2 f0 f1 f2 f3 f4 f5 f6 f7
  replace f0 := shm_14 f0
  replace f1 := shm_107 f1
  replace f2 := shm_137 f2
  replace f3 := shm_2 f3
  replace f4 := shm_1300 f4
  replace f5 := shm_1306 f5
  replace f6 := shm_5 f6
  replace f7 := shm_5 f7
  have q4 : n_v vs 4 = n_v vs 0 := f6.symm
  have q5 : n_v vs 5 = n_v vs 1 := f7.symm
  simp only [q5, q4] at f1 f2 f4 f5
  have cr_0_2 := fdq_10 hD hth r0
  have cr_0_3 := fdq_142 hD hth r0
  have cr_0_4 := fdq_143 hD hth r0
  have ad_8 : v_ad (n_v vs 8) = w_ar ws (n_v vs 0) 3 := congrArg v_ad f2
  simp only [ad_8] at f1
  have h1 : v_iv (n_v vs 9) = w_ei ws (w_ar ws (n_v vs 0) 3) (v_iv (n_v vs 1)) := f1
  have br_0_3_1_0 : w_ei ws (w_ar ws (n_v vs 0) 3) (v_iv (n_v vs 1)) = w_el ws (w_ar ws (n_v vs 0) 3) (v_iv (n_v vs 1)).toNat := rfl
  have hK_0_3 := elq_80 hD hth cr_0_3
  have hK_0_4 := elq_81 hD hth cr_0_4
  have rf11 : tv_ok ta (0, 0, 29, []) (n_v vs 11) := tv_in t11 (by first | omega | grind) (by first | omega | grind)
  refine ⟨List.forall_mem_cons.mpr ⟨rf11, (fun _ h => (by cases h))⟩, [], trivial, ?_, (fun _ h => (by cases h))⟩
  rw [List.append_nil]
  exact (fun _ h => (by cases h))
set_option maxHeartbeats 4000000 in
theorem vc_Mo_step_at_ge_3_0 (x1 : Int) (x5 : Int) (x9 : Int) (x11 : Int) (x12 : Int) (now_0 : Int → Int) (now_1 : Int → Int) (all_1 : Int → Int) (latest_1 : Int → Int) (all_0 : Int → Int) (latest_0 : Int → Int) (k1 : 0 ≤ x1 ∧ x1 ≤ 3) (k5 : 0 ≤ x5 ∧ x5 ≤ 3) (k9 : 0 ≤ x9 ∧ x9 ≤ 30) (k11 : 0 ≤ x11 ∧ x11 ≤ 29) (k12 : 0 ≤ x12 ∧ x12 ≤ 30) (d0 : x9 + (-1) ≤ x11 ∧ x11 ≤ x9 + (-1)) (d1 : x5 + (-4294967296) ≤ x1 ∧ x1 ≤ x5 + 0) (d2 : x1 + (-4294967296) ≤ x5 ∧ x5 ≤ x1 + 0) (h2 : x12 = now_0 (x1)) (h8 : x9 = now_1 (x1)) (f10 : (-1) * now_1 (x1) + 0 ≤ (-30)) (hE_0_2_1 : ∀ j : Int, all_0 j = all_1 j) (hE_0_3_1 : ∀ j : Int, 0 ≤ j → (j = x1 → now_0 j = x11) ∧ (j ≠ x1 → now_0 j = now_1 j)) (hE_0_4_1 : ∀ j : Int, latest_0 j = latest_1 j) : 1 * now_0 (x1) + 0 ≤ 29 := by
  have e_hE_0_2_1 := funext hE_0_2_1; subst e_hE_0_2_1
  have e_hE_0_4_1 := funext hE_0_4_1; subst e_hE_0_4_1
  first
    | omega
    | (have q := hE_0_3_1 x1 (by omega); omega)
set_option maxHeartbeats 4000000 in
theorem vc_Mo_step_at_ge_3_1 (x1 : Int) (x5 : Int) (x11 : Int) (x12 : Int) (x13 : Int) (now_0 : Int → Int) (now_1 : Int → Int) (all_1 : Int → Int) (latest_1 : Int → Int) (all_0 : Int → Int) (latest_0 : Int → Int) (k1 : 0 ≤ x1 ∧ x1 ≤ 3) (k5 : 0 ≤ x5 ∧ x5 ≤ 3) (k11 : 0 ≤ x11 ∧ x11 ≤ 29) (k12 : 0 ≤ x12 ∧ x12 ≤ 30) (k13 : 0 ≤ x13 ∧ x13 ≤ 66297) (d1 : x5 + (-4294967296) ≤ x1 ∧ x1 ≤ x5 + 0) (d2 : x1 + (-4294967296) ≤ x5 ∧ x5 ≤ x1 + 0) (f0 : 1 * x13 + ((-16709) * x1 + ((-539) * x12 + 0)) ≤ 0) (f1 : (-1) * x13 + (16709 * x1 + (539 * x12 + 0)) ≤ 0) (h2 : x12 = now_0 (x1)) (hE_0_2_1 : ∀ j : Int, all_0 j = all_1 j) (hE_0_3_1 : ∀ j : Int, 0 ≤ j → (j = x1 → now_0 j = x11) ∧ (j ≠ x1 → now_0 j = now_1 j)) (hE_0_4_1 : ∀ j : Int, latest_0 j = latest_1 j) : 1 * x13 + ((-16709) * x1 + ((-539) * now_0 (x1) + 0)) ≤ 0 := by
  have e_hE_0_2_1 := funext hE_0_2_1; subst e_hE_0_2_1
  have e_hE_0_4_1 := funext hE_0_4_1; subst e_hE_0_4_1
  first
    | omega
    | (have q := hE_0_3_1 x1 (by omega); omega)
set_option maxHeartbeats 4000000 in
theorem vc_Mo_step_at_ge_3_2 (x1 : Int) (x5 : Int) (x11 : Int) (x12 : Int) (x13 : Int) (now_0 : Int → Int) (now_1 : Int → Int) (all_1 : Int → Int) (latest_1 : Int → Int) (all_0 : Int → Int) (latest_0 : Int → Int) (k1 : 0 ≤ x1 ∧ x1 ≤ 3) (k5 : 0 ≤ x5 ∧ x5 ≤ 3) (k11 : 0 ≤ x11 ∧ x11 ≤ 29) (k12 : 0 ≤ x12 ∧ x12 ≤ 30) (k13 : 0 ≤ x13 ∧ x13 ≤ 66297) (d1 : x5 + (-4294967296) ≤ x1 ∧ x1 ≤ x5 + 0) (d2 : x1 + (-4294967296) ≤ x5 ∧ x5 ≤ x1 + 0) (f0 : 1 * x13 + ((-16709) * x1 + ((-539) * x12 + 0)) ≤ 0) (f1 : (-1) * x13 + (16709 * x1 + (539 * x12 + 0)) ≤ 0) (h2 : x12 = now_0 (x1)) (hE_0_2_1 : ∀ j : Int, all_0 j = all_1 j) (hE_0_3_1 : ∀ j : Int, 0 ≤ j → (j = x1 → now_0 j = x11) ∧ (j ≠ x1 → now_0 j = now_1 j)) (hE_0_4_1 : ∀ j : Int, latest_0 j = latest_1 j) : (-1) * x13 + (16709 * x1 + (539 * now_0 (x1) + 0)) ≤ 0 := by
  have e_hE_0_2_1 := funext hE_0_2_1; subst e_hE_0_2_1
  have e_hE_0_4_1 := funext hE_0_4_1; subst e_hE_0_4_1
  first
    | omega
    | (have q := hE_0_3_1 x1 (by omega); omega)
set_option maxHeartbeats 4000000 in
theorem vc_Mo_step_at_ge_3_3 (x1 : Int) (x2 : Int) (x3 : Int) (x5 : Int) (x6 : Int) (x9 : Int) (x11 : Int) (x12 : Int) (x13 : Int) (x14 : Int) (now_0 : Int → Int) (now_1 : Int → Int) (all_1 : Int → Int) (latest_1 : Int → Int) (all_0 : Int → Int) (latest_0 : Int → Int) (k1 : 0 ≤ x1 ∧ x1 ≤ 3) (k2 : 0 ≤ x2 ∧ x2 ≤ 48) (k3 : 0 ≤ x3 ∧ x3 ≤ 48) (k5 : 0 ≤ x5 ∧ x5 ≤ 3) (k6 : 16170 ≤ x6 ∧ x6 ≤ 16170) (k9 : 0 ≤ x9 ∧ x9 ≤ 30) (k11 : 0 ≤ x11 ∧ x11 ≤ 29) (k12 : 0 ≤ x12 ∧ x12 ≤ 30) (k13 : 0 ≤ x13 ∧ x13 ≤ 66297) (k14 : 0 ≤ x14 ∧ x14 ≤ 0) (d0 : x9 + (-1) ≤ x11 ∧ x11 ≤ x9 + (-1)) (d1 : x5 + (-4294967296) ≤ x1 ∧ x1 ≤ x5 + 0) (d2 : x1 + (-4294967296) ≤ x5 ∧ x5 ≤ x1 + 0) (f0 : 1 * x13 + ((-16709) * x1 + ((-539) * x12 + 0)) ≤ 0) (f1 : (-1) * x13 + (16709 * x1 + (539 * x12 + 0)) ≤ 0) (h2 : x12 = now_0 (x1)) (h8 : x9 = now_1 (x1)) (f11 : T13e (all_1) (now_1) (latest_1) (x1) (x6) (x2) (x3)) (hE_0_2_1 : ∀ j : Int, all_0 j = all_1 j) (hE_0_3_1 : ∀ j : Int, 0 ≤ j → (j = x1 → now_0 j = x11) ∧ (j ≠ x1 → now_0 j = now_1 j)) (hE_0_4_1 : ∀ j : Int, latest_0 j = latest_1 j) : T73e (all_0) (now_0) (latest_0) (x1) (x13) (x14) (x2) (x3) := by
  have e_hE_0_2_1 := funext hE_0_2_1; subst e_hE_0_2_1
  have e_hE_0_4_1 := funext hE_0_4_1; subst e_hE_0_4_1
  first
    | exact t73_start (t60_shift ‹T13e _ _ _ _ _ _ _› (by omega) (by assumption) (by omega) (by omega)) (by omega) (by omega)
def o_Mo_step_at_ge_3 : or_T := (73, 15, [(0, (2, 0, 0, [165])), (1, (0, 0, 3, [])), (2, (0, 0, 48, [])), (3, (0, 0, 48, [])), (5, (0, 0, 3, [])), (6, (0, 16170, 16170, [])), (8, (2, 0, 0, [168])), (9, (0, 0, 30, [])), (11, (0, 0, 29, [])), (12, (0, 0, 30, [])), (13, (0, 0, 66297, [])), (14, (0, 0, 0, []))], [(23, [13, 5, 12], [0, 1, -16709, -539]), (23, [13, 5, 12], [0, -1, 16709, 539]), (10, [12, 8, 5], []), (9, [8, 4], [3]), (24, [0, 4], []), (24, [1, 5], []), (100, [8, 5, 11], []), (10, [9, 8, 5], []), (20, [4, 5], [30, -30, -1, 2, 3]), (20, [4, 5, 6, 2, 3], [60, 0, 3, 221, 2, 3, 4])], [], [], [(20, [4, 5], [30, 29, 1, 2, 3]), (20, [13, 5, 4, 5], [30, 0, 1, 0, 0, -16709, 0, 0, -539, 2, 3]), (20, [13, 5, 4, 5], [30, 0, -1, 0, 0, 16709, 0, 0, 539, 2, 3]), (20, [4, 5, 13, 14, 2, 3], [60, 0, 3, 222, 2, 3, 4])], [], [(11, 9, -1, -1), (1, 5, -4294967296, 0), (5, 1, -4294967296, 0)])
theorem oo_Mo_step_at_ge_3 {kA : Nat → ClassId} : or_ok PRD kA GG o_Mo_step_at_ge_3 := by
  refine or_mk fun A ta ws vs hD hth hl => ?_
  intro t0 r0 t1 k1 t2 k2 t3 k3 t5 k5 t6 k6 t8 r8 t9 k9 t11 k11 t12 k12 t13 k13 t14 k14 d0 d1 d2 f0 f1 f2 f3 f4 f5 ta1 w1 le1 s1 f8 f10 f11
  replace f0 := shm_128 f0
  replace f1 := shm_129 f1
  replace f2 := shm_107 f2
  replace f3 := shm_137 f3
  replace f4 := shm_5 f4
  replace f5 := shm_5 f5
  have s1 : (∀ b j, w_el ws b j = if b = v_ad (n_v vs 8) ∧ j = (v_iv (n_v vs 5)).toNat then v_iv (n_v vs 11) else w_el w1 b j) ∧ ∀ b k, w_fd ws b k = w_fd w1 b k := s1.2
  replace f8 := shm_107 f8
  replace f10 := shm_1300 f10
  replace f11 := shm_1306 f11
  have q4 : n_v vs 4 = n_v vs 0 := f4.symm
  have q5 : n_v vs 5 = n_v vs 1 := f5.symm
  simp only [q5, q4] at f0 f1 f2 f3
  rw [q5] at s1
  simp only [q5, q4] at f8 f10 f11
  have ar_0_2_1 : w_ar w1 (n_v vs 0) 2 = w_ar ws (n_v vs 0) 2 := congrArg v_ad (s1.2 _ _).symm
  have cr_0_2 := fdq_10 hD hth r0
  have ar_0_3_1 : w_ar w1 (n_v vs 0) 3 = w_ar ws (n_v vs 0) 3 := congrArg v_ad (s1.2 _ _).symm
  have ar_0_4_1 : w_ar w1 (n_v vs 0) 4 = w_ar ws (n_v vs 0) 4 := congrArg v_ad (s1.2 _ _).symm
  have cr_0_4 := fdq_143 hD hth r0
  have ad_8 : v_ad (n_v vs 8) = w_ar ws (n_v vs 0) 3 := congrArg v_ad f3
  simp only [ad_8] at f2
  have h2 : v_iv (n_v vs 12) = w_ei ws (w_ar ws (n_v vs 0) 3) (v_iv (n_v vs 1)) := f2
  simp only [ad_8] at f8
  have h8 : v_iv (n_v vs 9) = w_ei w1 (w_ar ws (n_v vs 0) 3) (v_iv (n_v vs 1)) := f8
  simp only [ar_0_3_1, ar_0_2_1, ar_0_4_1] at f10 f11
  have hE_0_2_1 : ∀ j : Int, w_ei ws (w_ar ws (n_v vs 0) 2) j = w_ei w1 (w_ar ws (n_v vs 0) 2) j := el_kp s1.1 r8 cr_0_2 (by decide)
  have hE_0_3_1 : ∀ j : Int, 0 ≤ j → (j = v_iv (n_v vs 1) → w_ei ws (w_ar ws (n_v vs 0) 3) j = v_iv (n_v vs 11)) ∧ (j ≠ v_iv (n_v vs 1) → w_ei ws (w_ar ws (n_v vs 0) 3) j = w_ei w1 (w_ar ws (n_v vs 0) 3) j) := fun j hj => ⟨fun h => by unfold w_ei; rw [s1.1, if_pos ⟨ad_8.symm, by rw [h]⟩], fun h => by unfold w_ei; rw [s1.1, if_neg (fun e => h (by have := e.2; omega))]⟩
  have hE_0_4_1 : ∀ j : Int, w_ei ws (w_ar ws (n_v vs 0) 4) j = w_ei w1 (w_ar ws (n_v vs 0) 4) j := el_kp s1.1 r8 cr_0_4 (by decide)
  have nf0 : fc_1 PRD (20, [4, 5], [30, 29, 1, 2, 3]) ws (vs) := by
    refine ⟨nf_in hl rfl, sgq_1296 ?_⟩
    · show 1 * w_el ws (w_ar ws (n_v vs 4) 3) (v_iv (n_v vs 5)).toNat + 0 ≤ 29
      simp only [q4, q5]
      exact vc_Mo_step_at_ge_3_0 (v_iv (n_v vs 1)) (v_iv (n_v vs 5)) (v_iv (n_v vs 9)) (v_iv (n_v vs 11)) (v_iv (n_v vs 12)) (w_ei ws (w_ar ws (n_v vs 0) 3)) (w_ei w1 (w_ar ws (n_v vs 0) 3)) (w_ei w1 (w_ar ws (n_v vs 0) 2)) (w_ei w1 (w_ar ws (n_v vs 0) 4)) (w_ei ws (w_ar ws (n_v vs 0) 2)) (w_ei ws (w_ar ws (n_v vs 0) 4)) k1 k5 k9 k11 k12 d0 d1 d2 h2 h8 f10 hE_0_2_1 hE_0_3_1 hE_0_4_1
  have nf1 : fc_1 PRD (20, [13, 5, 4, 5], [30, 0, 1, 0, 0, -16709, 0, 0, -539, 2, 3]) ws (vs) := by
    refine ⟨nf_in hl rfl, sgq_1297 ?_⟩
    · show 1 * v_iv (n_v vs 13) + ((-16709) * v_iv (n_v vs 5) + ((-539) * w_el ws (w_ar ws (n_v vs 4) 3) (v_iv (n_v vs 5)).toNat + 0)) ≤ 0
      simp only [q4, q5]
      exact vc_Mo_step_at_ge_3_1 (v_iv (n_v vs 1)) (v_iv (n_v vs 5)) (v_iv (n_v vs 11)) (v_iv (n_v vs 12)) (v_iv (n_v vs 13)) (w_ei ws (w_ar ws (n_v vs 0) 3)) (w_ei w1 (w_ar ws (n_v vs 0) 3)) (w_ei w1 (w_ar ws (n_v vs 0) 2)) (w_ei w1 (w_ar ws (n_v vs 0) 4)) (w_ei ws (w_ar ws (n_v vs 0) 2)) (w_ei ws (w_ar ws (n_v vs 0) 4)) k1 k5 k11 k12 k13 d1 d2 f0 f1 h2 hE_0_2_1 hE_0_3_1 hE_0_4_1
  have nf2 : fc_1 PRD (20, [13, 5, 4, 5], [30, 0, -1, 0, 0, 16709, 0, 0, 539, 2, 3]) ws (vs) := by
    refine ⟨nf_in hl rfl, sgq_1298 ?_⟩
    · show (-1) * v_iv (n_v vs 13) + (16709 * v_iv (n_v vs 5) + (539 * w_el ws (w_ar ws (n_v vs 4) 3) (v_iv (n_v vs 5)).toNat + 0)) ≤ 0
      simp only [q4, q5]
      exact vc_Mo_step_at_ge_3_2 (v_iv (n_v vs 1)) (v_iv (n_v vs 5)) (v_iv (n_v vs 11)) (v_iv (n_v vs 12)) (v_iv (n_v vs 13)) (w_ei ws (w_ar ws (n_v vs 0) 3)) (w_ei w1 (w_ar ws (n_v vs 0) 3)) (w_ei w1 (w_ar ws (n_v vs 0) 2)) (w_ei w1 (w_ar ws (n_v vs 0) 4)) (w_ei ws (w_ar ws (n_v vs 0) 2)) (w_ei ws (w_ar ws (n_v vs 0) 4)) k1 k5 k11 k12 k13 d1 d2 f0 f1 h2 hE_0_2_1 hE_0_3_1 hE_0_4_1
  have nf3 : fc_1 PRD (20, [4, 5, 13, 14, 2, 3], [60, 0, 3, 222, 2, 3, 4]) ws (vs) := by
    refine ⟨nf_in hl rfl, sgq_1305 ?_⟩
    · show T73e (w_ei ws (w_ar ws (n_v vs 4) 2)) (w_ei ws (w_ar ws (n_v vs 4) 3)) (w_ei ws (w_ar ws (n_v vs 4) 4)) (v_iv (n_v vs 5)) (v_iv (n_v vs 13)) (v_iv (n_v vs 14)) (v_iv (n_v vs 2)) (v_iv (n_v vs 3))
      simp only [q4, q5]
      exact vc_Mo_step_at_ge_3_3 (v_iv (n_v vs 1)) (v_iv (n_v vs 2)) (v_iv (n_v vs 3)) (v_iv (n_v vs 5)) (v_iv (n_v vs 6)) (v_iv (n_v vs 9)) (v_iv (n_v vs 11)) (v_iv (n_v vs 12)) (v_iv (n_v vs 13)) (v_iv (n_v vs 14)) (w_ei ws (w_ar ws (n_v vs 0) 3)) (w_ei w1 (w_ar ws (n_v vs 0) 3)) (w_ei w1 (w_ar ws (n_v vs 0) 2)) (w_ei w1 (w_ar ws (n_v vs 0) 4)) (w_ei ws (w_ar ws (n_v vs 0) 2)) (w_ei ws (w_ar ws (n_v vs 0) 4)) k1 k2 k3 k5 k6 k9 k11 k12 k13 k14 d0 d1 d2 f0 f1 h2 h8 f11 hE_0_2_1 hE_0_3_1 hE_0_4_1
  refine ⟨(fun _ h => (by cases h)), [], trivial, ?_, (fun _ h => (by cases h))⟩
  rw [List.append_nil]
  exact List.forall_mem_cons.mpr ⟨⟨show (20 : Nat) < 100 from by decide, nf0⟩, List.forall_mem_cons.mpr ⟨⟨show (20 : Nat) < 100 from by decide, nf1⟩, List.forall_mem_cons.mpr ⟨⟨show (20 : Nat) < 100 from by decide, nf2⟩, List.forall_mem_cons.mpr ⟨⟨show (20 : Nat) < 100 from by decide, nf3⟩, (fun _ h => (by cases h))⟩⟩⟩⟩
def o_Mo_step_at_ge_4 : or_T := (42, 15, [(0, (2, 0, 0, [165])), (1, (0, 0, 3, [])), (2, (0, 0, 48, [])), (3, (0, 0, 48, [])), (4, (2, 0, 0, [165])), (5, (0, 0, 3, [])), (6, (0, 0, 16169, [])), (7, (0, 16170, 16170, [])), (8, (2, 0, 0, [167])), (9, (0, 0, 0, [])), (10, (0, 0, 66297, [])), (11, (0, 0, 82466, [])), (12, (0, 1, 1, [])), (13, (0, 0, 66297, [])), (14, (0, 0, 82466, []))], [(1, [14, 13, 6], []), (23, [13, 5, 12], [0, 1, -16709, -539]), (23, [13, 5, 12], [0, -1, 16709, 539]), (9, [8, 4], [2]), (1, [11, 10, 6], []), (23, [10, 5, 9], [0, 1, -16709, -539]), (23, [10, 5, 9], [0, -1, 16709, 539]), (7, [6, 7], [2]), (20, [4, 5], [30, -30, -1, 2, 3]), (20, [4, 5, 6, 2, 3], [60, 0, 3, 221, 2, 3, 4]), (24, [0, 4], []), (24, [1, 5], [])], [(14, (0, 0, 66835, []))], [], [], [], [(14, 6, 0, 66297), (14, 13, 0, 16169), (11, 6, 0, 66297), (11, 10, 0, 16169), (1, 5, -4294967296, 0), (5, 1, -4294967296, 0)])
theorem oo_Mo_step_at_ge_4 {kA : Nat → ClassId} : or_ok PRD kA GG o_Mo_step_at_ge_4 := by
  refine or_mk fun A ta ws vs hD hth hl => ?_
  intro t0 r0 t1 k1 t2 k2 t3 k3 t4 r4 t5 k5 t6 k6 t7 k7 t8 r8 t9 k9 t10 k10 t11 k11 t12 k12 t13 k13 t14 k14 d0 d1 d2 d3 d4 d5 f0 f1 f2 f3 f4 f5 f6 f7 f8 f9 f10 f11
  replace f0 := shm_12 f0
  replace f1 := shm_128 f1
  replace f2 := shm_129 f2
  replace f3 := shm_120 f3
  replace f4 := shm_12 f4
  replace f5 := shm_128 f5
  replace f6 := shm_129 f6
  replace f7 := shm_6 f7
  replace f8 := shm_1300 f8
  replace f9 := shm_1306 f9
  replace f10 := shm_5 f10
  replace f11 := shm_5 f11
  have q4 : n_v vs 4 = n_v vs 0 := f10.symm
  have q5 : n_v vs 5 = n_v vs 1 := f11.symm
  simp only [q5, q4] at f1 f2 f3 f5 f6 f8 f9
  have cr_0_2 := fdq_10 hD hth r0
  have cr_0_3 := fdq_142 hD hth r0
  have cr_0_4 := fdq_143 hD hth r0
  have ad_8 : v_ad (n_v vs 8) = w_ar ws (n_v vs 0) 2 := congrArg v_ad f3
  have br_0_3_1_0 : w_ei ws (w_ar ws (n_v vs 0) 3) (v_iv (n_v vs 1)) = w_el ws (w_ar ws (n_v vs 0) 3) (v_iv (n_v vs 1)).toNat := rfl
  have hK_0_3 := elq_80 hD hth cr_0_3
  have hK_0_4 := elq_81 hD hth cr_0_4
  have rf14 : tv_ok ta (0, 0, 66835, []) (n_v vs 14) := tv_in t14 (by first | omega | grind) (by first | omega | grind)
  refine ⟨List.forall_mem_cons.mpr ⟨rf14, (fun _ h => (by cases h))⟩, [], trivial, ?_, (fun _ h => (by cases h))⟩
  rw [List.append_nil]
  exact (fun _ h => (by cases h))
def o_Mo_step_at_ge_5 : or_T := (43, 16, [(5, (0, 0, 3, [])), (6, (0, 0, 16169, [])), (9, (0, 0, 0, [])), (10, (5, 0, 66297, [539])), (11, (0, 0, 82466, [])), (12, (0, 1, 1, [])), (13, (5, 0, 66297, [539])), (14, (0, 0, 66835, [])), (15, (0, -1, 255, [])), (8, (2, 0, 0, [167]))], [(10, [15, 8, 14], []), (1, [14, 13, 6], []), (23, [13, 5, 12], [0, 1, -16709, -539]), (23, [13, 5, 12], [0, -1, 16709, 539]), (1, [11, 10, 6], []), (23, [10, 5, 9], [0, 1, -16709, -539]), (23, [10, 5, 9], [0, -1, 16709, 539])], [], [], [(18, [11, 15], [1])], [], [(14, 6, 0, 66297), (14, 13, 0, 16169), (11, 6, 0, 66297), (11, 10, 0, 16169)])
theorem oo_Mo_step_at_ge_5 {kA : Nat → ClassId} : or_ok PRD kA GG o_Mo_step_at_ge_5 := by
  refine or_mk fun A ta ws vs hD hth hl => ?_
  intro t5 k5 t6 k6 t9 k9 t10 t11 k11 t12 k12 t13 t14 k14 t15 k15 t8 r8 d0 d1 d2 d3 f0 f1 f2 f3 f4 f5 f6
  obtain ⟨k10, q10_⟩ : (0 ≤ v_iv (n_v vs 10) ∧ v_iv (n_v vs 10) ≤ 66297) ∧ ∃ q : Int, v_iv (n_v vs 10) = 539 * q := tv_dvk t10
  obtain ⟨q10, hq10⟩ := q10_
  obtain ⟨k13, q13_⟩ : (0 ≤ v_iv (n_v vs 13) ∧ v_iv (n_v vs 13) ≤ 66297) ∧ ∃ q : Int, v_iv (n_v vs 13) = 539 * q := tv_dvk t13
  obtain ⟨q13, hq13⟩ := q13_
  replace f0 := shm_107 f0
  replace f1 := shm_12 f1
  replace f2 := shm_128 f2
  replace f3 := shm_129 f3
  replace f4 := shm_12 f4
  replace f5 := shm_128 f5
  replace f6 := shm_129 f6
  have nf0 : fc_1 PRD (18, [11, 15], [1]) ws (vs) := by
    refine ⟨nf_in hl rfl, sgq_1302 ?_⟩
    · show pl_ok 1 (v_iv (n_v vs 11)).toNat (v_iv (n_v vs 15))
      have e0 := pl_cp hD hth r8 (g := GG_167) rfl rfl rfl pl_M1 (i := (v_iv (n_v vs 14)).toNat) (j := (v_iv (n_v vs 11)).toNat) (by show (v_iv (n_v vs 14)).toNat < 66836; omega) (by omega)
      rw [← f0] at e0
      exact e0
  refine ⟨(fun _ h => (by cases h)), [], trivial, ?_, (fun _ h => (by cases h))⟩
  rw [List.append_nil]
  exact List.forall_mem_cons.mpr ⟨⟨show (18 : Nat) < 100 from by decide, nf0⟩, (fun _ h => (by cases h))⟩
def o_Mo_step_at_ge_6 : or_T := (43, 16, [(0, (2, 0, 0, [165])), (1, (0, 0, 3, [])), (2, (0, 0, 48, [])), (3, (0, 0, 48, [])), (4, (2, 0, 0, [165])), (5, (0, 0, 3, [])), (6, (0, 0, 16169, [])), (7, (0, 16170, 16170, [])), (8, (2, 0, 0, [167])), (9, (0, 0, 0, [])), (10, (0, 0, 66297, [])), (11, (0, 0, 82466, [])), (12, (0, 1, 1, [])), (13, (0, 0, 66297, [])), (14, (0, 0, 66835, [])), (15, (0, -1, 255, []))], [(10, [15, 8, 14], []), (1, [14, 13, 6], []), (23, [13, 5, 12], [0, 1, -16709, -539]), (23, [13, 5, 12], [0, -1, 16709, 539]), (9, [8, 4], [2]), (1, [11, 10, 6], []), (23, [10, 5, 9], [0, 1, -16709, -539]), (23, [10, 5, 9], [0, -1, 16709, 539]), (7, [6, 7], [2]), (20, [4, 5], [30, -30, -1, 2, 3]), (20, [4, 5, 6, 2, 3], [60, 0, 3, 221, 2, 3, 4]), (24, [0, 4], []), (24, [1, 5], [])], [(11, (0, 0, 66835, []))], [], [], [], [(14, 6, 0, 66297), (14, 13, 0, 16169), (11, 6, 0, 66297), (11, 10, 0, 16169), (1, 5, -4294967296, 0), (5, 1, -4294967296, 0)])
theorem oo_Mo_step_at_ge_6 {kA : Nat → ClassId} : or_ok PRD kA GG o_Mo_step_at_ge_6 := by
  refine or_mk fun A ta ws vs hD hth hl => ?_
  intro t0 r0 t1 k1 t2 k2 t3 k3 t4 r4 t5 k5 t6 k6 t7 k7 t8 r8 t9 k9 t10 k10 t11 k11 t12 k12 t13 k13 t14 k14 t15 k15 d0 d1 d2 d3 d4 d5 f0 f1 f2 f3 f4 f5 f6 f7 f8 f9 f10 f11 f12
  replace f0 := shm_107 f0
  replace f1 := shm_12 f1
  replace f2 := shm_128 f2
  replace f3 := shm_129 f3
  replace f4 := shm_120 f4
  replace f5 := shm_12 f5
  replace f6 := shm_128 f6
  replace f7 := shm_129 f7
  replace f8 := shm_6 f8
  replace f9 := shm_1300 f9
  replace f10 := shm_1306 f10
  replace f11 := shm_5 f11
  replace f12 := shm_5 f12
  have q4 : n_v vs 4 = n_v vs 0 := f11.symm
  have q5 : n_v vs 5 = n_v vs 1 := f12.symm
  simp only [q5, q4] at f2 f3 f4 f6 f7 f9 f10
  have cr_0_2 := fdq_10 hD hth r0
  have cr_0_3 := fdq_142 hD hth r0
  have cr_0_4 := fdq_143 hD hth r0
  have ad_8 : v_ad (n_v vs 8) = w_ar ws (n_v vs 0) 2 := congrArg v_ad f4
  simp only [ad_8] at f0
  have h0 : v_iv (n_v vs 15) = w_ei ws (w_ar ws (n_v vs 0) 2) (v_iv (n_v vs 14)) := f0
  have br_0_2_14_0 : w_ei ws (w_ar ws (n_v vs 0) 2) (v_iv (n_v vs 14)) = w_el ws (w_ar ws (n_v vs 0) 2) (v_iv (n_v vs 14)).toNat := rfl
  have br_0_3_1_0 : w_ei ws (w_ar ws (n_v vs 0) 3) (v_iv (n_v vs 1)) = w_el ws (w_ar ws (n_v vs 0) 3) (v_iv (n_v vs 1)).toNat := rfl
  have hK_0_3 := elq_80 hD hth cr_0_3
  have hK_0_4 := elq_81 hD hth cr_0_4
  have rf11 : tv_ok ta (0, 0, 66835, []) (n_v vs 11) := tv_in t11 (by first | omega | grind) (by first | omega | grind)
  refine ⟨List.forall_mem_cons.mpr ⟨rf11, (fun _ h => (by cases h))⟩, [], trivial, ?_, (fun _ h => (by cases h))⟩
  rw [List.append_nil]
  exact (fun _ h => (by cases h))
set_option maxHeartbeats 4000000 in
theorem vc_Mo_step_at_ge_7_0 (x1 : Int) (x2 : Int) (x3 : Int) (x5 : Int) (x6 : Int) (x9 : Int) (x10 : Int) (x11 : Int) (x12 : Int) (x13 : Int) (x14 : Int) (x15 : Int) (x16 : Int) (now_0 : Int → Int) (all_1 : Int → Int) (now_1 : Int → Int) (latest_1 : Int → Int) (all_0 : Int → Int) (latest_0 : Int → Int) (k1 : 0 ≤ x1 ∧ x1 ≤ 3) (k2 : 0 ≤ x2 ∧ x2 ≤ 48) (k3 : 0 ≤ x3 ∧ x3 ≤ 48) (k5 : 0 ≤ x5 ∧ x5 ≤ 3) (k6 : 0 ≤ x6 ∧ x6 ≤ 16169) (k9 : 0 ≤ x9 ∧ x9 ≤ 0) (k10 : 0 ≤ x10 ∧ x10 ≤ 66297) (k11 : 0 ≤ x11 ∧ x11 ≤ 66835) (k12 : 1 ≤ x12 ∧ x12 ≤ 1) (k13 : 0 ≤ x13 ∧ x13 ≤ 66297) (k14 : 0 ≤ x14 ∧ x14 ≤ 66835) (k15 : (-1) ≤ x15 ∧ x15 ≤ 255) (k16 : 1 ≤ x16 ∧ x16 ≤ 16170) (d0 : x6 + 1 ≤ x16 ∧ x16 ≤ x6 + 1) (d4 : x10 + 0 ≤ x11 ∧ x11 ≤ x10 + 16169) (d5 : x5 + (-4294967296) ≤ x1 ∧ x1 ≤ x5 + 0) (d6 : x1 + (-4294967296) ≤ x5 ∧ x5 ≤ x1 + 0) (f0 : x16 = x6 + 1) (f1 : 1 * x13 + ((-16709) * x1 + ((-539) * x12 + 0)) ≤ 0) (f2 : (-1) * x13 + (16709 * x1 + (539 * x12 + 0)) ≤ 0) (f3 : 1 * x10 + ((-16709) * x1 + ((-539) * x9 + 0)) ≤ 0) (f4 : (-1) * x10 + (16709 * x1 + (539 * x9 + 0)) ≤ 0) (h9 : x15 = all_1 (x14)) (f10 : x14 = x13 + x6) (f14 : x11 = x10 + x6) (f19 : T13e (all_1) (now_1) (latest_1) (x1) (x6) (x2) (x3)) (hE_0_2_1 : ∀ j : Int, 0 ≤ j → (j = x11 → all_0 j = x15) ∧ (j ≠ x11 → all_0 j = all_1 j)) (hE_0_3_1 : ∀ j : Int, now_0 j = now_1 j) (hE_0_4_1 : ∀ j : Int, latest_0 j = latest_1 j) : T13e (all_0) (now_0) (latest_0) (x1) (x16) (x2) (x3) := by
  have e_hE_0_3_1 := funext hE_0_3_1; subst e_hE_0_3_1
  have e_hE_0_4_1 := funext hE_0_4_1; subst e_hE_0_4_1
  first
    | exact t13_step ‹T13e _ _ _ _ _ _ _› (by assumption) (by omega) (by omega) (by omega) (by assumption) (by omega)
def o_Mo_step_at_ge_7 : or_T := (13, 17, [(0, (2, 0, 0, [165])), (1, (0, 0, 3, [])), (2, (0, 0, 48, [])), (3, (0, 0, 48, [])), (5, (0, 0, 3, [])), (6, (0, 0, 16169, [])), (8, (2, 0, 0, [167])), (9, (0, 0, 0, [])), (10, (0, 0, 66297, [])), (11, (0, 0, 66835, [])), (12, (0, 1, 1, [])), (13, (0, 0, 66297, [])), (14, (0, 0, 66835, [])), (15, (0, -1, 255, [])), (16, (0, 1, 16170, []))], [(6, [16, 6], [1]), (23, [13, 5, 12], [0, 1, -16709, -539]), (23, [13, 5, 12], [0, -1, 16709, 539]), (23, [10, 5, 9], [0, 1, -16709, -539]), (23, [10, 5, 9], [0, -1, 16709, 539]), (24, [0, 4], []), (24, [1, 5], []), (100, [8, 11, 15], []), (10, [15, 8, 14], []), (1, [14, 13, 6], []), (9, [8, 4], [2]), (1, [11, 10, 6], []), (20, [4, 5, 6, 2, 3], [60, 0, 3, 221, 2, 3, 4])], [], [], [(20, [4, 5, 16, 2, 3], [60, 0, 3, 221, 2, 3, 4])], [], [(16, 6, 1, 1), (11, 6, 0, 66297), (11, 10, 0, 16169), (1, 5, -4294967296, 0), (5, 1, -4294967296, 0)])
theorem oo_Mo_step_at_ge_7 {kA : Nat → ClassId} : or_ok PRD kA GG o_Mo_step_at_ge_7 := by
  refine or_mk fun A ta ws vs hD hth hl => ?_
  intro t0 r0 t1 k1 t2 k2 t3 k3 t5 k5 t6 k6 t8 r8 t9 k9 t10 k10 t11 k11 t12 k12 t13 k13 t14 k14 t15 k15 t16 k16 d0 d3 d4 d5 d6 f0 f1 f2 f3 f4 f6 f7 ta1 w1 le1 s1 f9 f10 f13 f14 f19
  replace f0 := shm_4 f0
  replace f1 := shm_128 f1
  replace f2 := shm_129 f2
  replace f3 := shm_128 f3
  replace f4 := shm_129 f4
  replace f6 := shm_5 f6
  replace f7 := shm_5 f7
  have s1 : (∀ b j, w_el ws b j = if b = v_ad (n_v vs 8) ∧ j = (v_iv (n_v vs 11)).toNat then v_iv (n_v vs 15) else w_el w1 b j) ∧ ∀ b k, w_fd ws b k = w_fd w1 b k := s1.2
  replace f9 := shm_107 f9
  replace f10 := shm_12 f10
  replace f13 := shm_120 f13
  replace f14 := shm_12 f14
  replace f19 := shm_1306 f19
  have q4 : n_v vs 4 = n_v vs 0 := f6.symm
  have q5 : n_v vs 5 = n_v vs 1 := f7.symm
  simp only [q5, q4] at f1 f2 f3 f4 f13 f19
  have ar_0_2_1 : w_ar w1 (n_v vs 0) 2 = w_ar ws (n_v vs 0) 2 := congrArg v_ad (s1.2 _ _).symm
  have ar_0_3_1 : w_ar w1 (n_v vs 0) 3 = w_ar ws (n_v vs 0) 3 := congrArg v_ad (s1.2 _ _).symm
  have cr_0_3 := fdq_142 hD hth r0
  have ar_0_4_1 : w_ar w1 (n_v vs 0) 4 = w_ar ws (n_v vs 0) 4 := congrArg v_ad (s1.2 _ _).symm
  have cr_0_4 := fdq_143 hD hth r0
  have ad_8 : v_ad (n_v vs 8) = w_ar ws (n_v vs 0) 2 := (congrArg v_ad f13).trans ar_0_2_1
  simp only [ad_8] at f9
  have h9 : v_iv (n_v vs 15) = w_ei w1 (w_ar ws (n_v vs 0) 2) (v_iv (n_v vs 14)) := f9
  simp only [ar_0_3_1, ar_0_2_1, ar_0_4_1] at f19
  have hE_0_2_1 : ∀ j : Int, 0 ≤ j → (j = v_iv (n_v vs 11) → w_ei ws (w_ar ws (n_v vs 0) 2) j = v_iv (n_v vs 15)) ∧ (j ≠ v_iv (n_v vs 11) → w_ei ws (w_ar ws (n_v vs 0) 2) j = w_ei w1 (w_ar ws (n_v vs 0) 2) j) := fun j hj => ⟨fun h => by unfold w_ei; rw [s1.1, if_pos ⟨ad_8.symm, by rw [h]⟩], fun h => by unfold w_ei; rw [s1.1, if_neg (fun e => h (by have := e.2; omega))]⟩
  have hE_0_3_1 : ∀ j : Int, w_ei ws (w_ar ws (n_v vs 0) 3) j = w_ei w1 (w_ar ws (n_v vs 0) 3) j := el_kp s1.1 r8 cr_0_3 (by decide)
  have hE_0_4_1 : ∀ j : Int, w_ei ws (w_ar ws (n_v vs 0) 4) j = w_ei w1 (w_ar ws (n_v vs 0) 4) j := el_kp s1.1 r8 cr_0_4 (by decide)
  have nf0 : fc_1 PRD (20, [4, 5, 16, 2, 3], [60, 0, 3, 221, 2, 3, 4]) ws (vs) := by
    refine ⟨nf_in hl rfl, sgq_1306 ?_⟩
    · show T13e (w_ei ws (w_ar ws (n_v vs 4) 2)) (w_ei ws (w_ar ws (n_v vs 4) 3)) (w_ei ws (w_ar ws (n_v vs 4) 4)) (v_iv (n_v vs 5)) (v_iv (n_v vs 16)) (v_iv (n_v vs 2)) (v_iv (n_v vs 3))
      simp only [q4, q5]
      exact vc_Mo_step_at_ge_7_0 (v_iv (n_v vs 1)) (v_iv (n_v vs 2)) (v_iv (n_v vs 3)) (v_iv (n_v vs 5)) (v_iv (n_v vs 6)) (v_iv (n_v vs 9)) (v_iv (n_v vs 10)) (v_iv (n_v vs 11)) (v_iv (n_v vs 12)) (v_iv (n_v vs 13)) (v_iv (n_v vs 14)) (v_iv (n_v vs 15)) (v_iv (n_v vs 16)) (w_ei ws (w_ar ws (n_v vs 0) 3)) (w_ei w1 (w_ar ws (n_v vs 0) 2)) (w_ei w1 (w_ar ws (n_v vs 0) 3)) (w_ei w1 (w_ar ws (n_v vs 0) 4)) (w_ei ws (w_ar ws (n_v vs 0) 2)) (w_ei ws (w_ar ws (n_v vs 0) 4)) k1 k2 k3 k5 k6 k9 k10 k11 k12 k13 k14 k15 k16 d0 d4 d5 d6 f0 f1 f2 f3 f4 h9 f10 f14 f19 hE_0_2_1 hE_0_3_1 hE_0_4_1
  refine ⟨(fun _ h => (by cases h)), [], trivial, ?_, (fun _ h => (by cases h))⟩
  rw [List.append_nil]
  exact List.forall_mem_cons.mpr ⟨⟨show (20 : Nat) < 100 from by decide, nf0⟩, (fun _ h => (by cases h))⟩
def o_Mo_step_at_ge_8 : or_T := (115, 13, [(0, (2, 0, 0, [165])), (1, (0, 0, 3, [])), (2, (0, 0, 48, [])), (3, (0, 0, 48, [])), (4, (2, 0, 0, [165])), (5, (0, 0, 3, [])), (6, (0, 0, 66297, [])), (7, (0, 539, 539, [])), (8, (0, 539, 539, [])), (9, (2, 0, 0, [168])), (10, (0, 0, 30, [])), (11, (0, 1, 1, [])), (12, (0, 1, 31, []))], [(1, [12, 10, 11], []), (10, [10, 9, 5], []), (9, [9, 4], [3]), (7, [7, 8], [3]), (20, [4, 5], [30, 29, 1, 2, 3]), (20, [6, 5, 4, 5], [30, 0, 1, 0, 0, -16709, 0, 0, -539, 2, 3]), (20, [6, 5, 4, 5], [30, 0, -1, 0, 0, 16709, 0, 0, 539, 2, 3]), (20, [4, 5, 6, 7, 2, 3], [60, 0, 3, 222, 2, 3, 4]), (24, [0, 4], []), (24, [1, 5], [])], [(12, (0, 1, 30, []))], [], [], [], [(12, 10, 1, 1), (1, 5, -4294967296, 0), (5, 1, -4294967296, 0)])
theorem oo_Mo_step_at_ge_8 {kA : Nat → ClassId} : or_ok PRD kA GG o_Mo_step_at_ge_8 := by
  refine or_mk fun A ta ws vs hD hth hl => ?_
  intro t0 r0 t1 k1 t2 k2 t3 k3 t4 r4 t5 k5 t6 k6 t7 k7 t8 k8 t9 r9 t10 k10 t11 k11 t12 k12 d0 d1 d2 f0 f1 f2 f3 f4 f5 f6 f7 f8 f9
  replace f0 := shm_12 f0
  replace f1 := shm_107 f1
  replace f2 := shm_137 f2
  replace f3 := shm_2 f3
  replace f4 := shm_1296 f4
  replace f5 := shm_1297 f5
  replace f6 := shm_1298 f6
  replace f7 := shm_1305 f7
  replace f8 := shm_5 f8
  replace f9 := shm_5 f9
  have q4 : n_v vs 4 = n_v vs 0 := f8.symm
  have q5 : n_v vs 5 = n_v vs 1 := f9.symm
  simp only [q5, q4] at f1 f2 f4 f5 f6 f7
  have cr_0_2 := fdq_10 hD hth r0
  have cr_0_3 := fdq_142 hD hth r0
  have cr_0_4 := fdq_143 hD hth r0
  have ad_9 : v_ad (n_v vs 9) = w_ar ws (n_v vs 0) 3 := congrArg v_ad f2
  simp only [ad_9] at f1
  have h1 : v_iv (n_v vs 10) = w_ei ws (w_ar ws (n_v vs 0) 3) (v_iv (n_v vs 1)) := f1
  have br_0_3_1_0 : w_ei ws (w_ar ws (n_v vs 0) 3) (v_iv (n_v vs 1)) = w_el ws (w_ar ws (n_v vs 0) 3) (v_iv (n_v vs 1)).toNat := rfl
  have hK_0_3 := elq_80 hD hth cr_0_3
  have hK_0_4 := elq_81 hD hth cr_0_4
  have rf12 : tv_ok ta (0, 1, 30, []) (n_v vs 12) := tv_in t12 (by first | omega | grind) (by first | omega | grind)
  refine ⟨List.forall_mem_cons.mpr ⟨rf12, (fun _ h => (by cases h))⟩, [], trivial, ?_, (fun _ h => (by cases h))⟩
  rw [List.append_nil]
  exact (fun _ h => (by cases h))
set_option maxHeartbeats 4000000 in
theorem vc_Mo_step_at_ge_9_0 (x1 : Int) (x2 : Int) (x3 : Int) (x6 : Int) (x7 : Int) (x10 : Int) (x12 : Int) (x14 : Int) (now_1 : Int → Int) (now_2 : Int → Int) (all_2 : Int → Int) (latest_2 : Int → Int) (all_0 : Int → Int) (all_1 : Int → Int) (now_0 : Int → Int) (latest_0 : Int → Int) (latest_1 : Int → Int) (k1 : 0 ≤ x1 ∧ x1 ≤ 3) (k2 : 0 ≤ x2 ∧ x2 ≤ 48) (k3 : 0 ≤ x3 ∧ x3 ≤ 48) (k6 : 0 ≤ x6 ∧ x6 ≤ 66297) (k7 : 539 ≤ x7 ∧ x7 ≤ 539) (k10 : 0 ≤ x10 ∧ x10 ≤ 30) (k12 : 1 ≤ x12 ∧ x12 ≤ 30) (k14 : 0 ≤ x14 ∧ x14 ≤ 30) (d0 : x10 + 1 ≤ x12 ∧ x12 ≤ x10 + 1) (h3 : x14 = now_1 (x1)) (h8 : x10 = now_2 (x1)) (f13 : T73e (all_2) (now_2) (latest_2) (x1) (x6) (x7) (x2) (x3)) (hE_0_2_1 : ∀ j : Int, all_0 j = all_1 j) (hE_0_2_2 : ∀ j : Int, all_1 j = all_2 j) (hE_0_3_1 : ∀ j : Int, now_0 j = now_1 j) (hE_0_3_2 : ∀ j : Int, 0 ≤ j → (j = x1 → now_1 j = x12) ∧ (j ≠ x1 → now_1 j = now_2 j)) (hE_0_4_1 : ∀ j : Int, 0 ≤ j → (j = x1 → latest_0 j = x14) ∧ (j ≠ x1 → latest_0 j = latest_1 j)) (hE_0_4_2 : ∀ j : Int, latest_1 j = latest_2 j) : T130e (all_0) (now_0) (latest_0) (x1) (x2) (x3) := by
  have e_hE_0_2_1 := funext hE_0_2_1; subst e_hE_0_2_1
  have e_hE_0_2_2 := funext hE_0_2_2; subst e_hE_0_2_2
  have e_hE_0_3_1 := funext hE_0_3_1; subst e_hE_0_3_1
  have e_hE_0_4_2 := funext hE_0_4_2; subst e_hE_0_4_2
  first
    | exact t130_of ‹T73e _ _ _ _ _ _ _ _› (by omega) (by assumption) (by omega) (by omega) (by assumption) (by omega) (by omega)
def o_Mo_step_at_ge_9 : or_T := (130, 15, [(0, (2, 0, 0, [165])), (1, (0, 0, 3, [])), (2, (0, 0, 48, [])), (3, (0, 0, 48, [])), (6, (0, 0, 66297, [])), (7, (0, 539, 539, [])), (9, (2, 0, 0, [168])), (10, (0, 0, 30, [])), (12, (0, 1, 30, [])), (13, (2, 0, 0, [169])), (14, (0, 0, 30, []))], [(24, [0, 4], []), (24, [1, 5], []), (100, [13, 5, 14], []), (10, [14, 9, 5], []), (9, [9, 4], [3]), (9, [13, 4], [4]), (100, [9, 5, 12], []), (10, [10, 9, 5], []), (20, [4, 5, 6, 7, 2, 3], [60, 0, 3, 222, 2, 3, 4])], [], [], [(20, [4, 5, 2, 3], [60, 0, 3, 223, 2, 3, 4])], [], [(12, 10, 1, 1), (1, 5, -4294967296, 0), (5, 1, -4294967296, 0)])
theorem oo_Mo_step_at_ge_9 {kA : Nat → ClassId} : or_ok PRD kA GG o_Mo_step_at_ge_9 := by
  refine or_mk fun A ta ws vs hD hth hl => ?_
  intro t0 r0 t1 k1 t2 k2 t3 k3 t6 k6 t7 k7 t9 r9 t10 k10 t12 k12 t13 r13 t14 k14 d0 d1 d2 f0 f1 ta1 w1 le1 s1 f3 f4 f5 ta2 w2 le2 s2 f8 f13
  replace f0 := shm_5 f0
  replace f1 := shm_5 f1
  have s1 : (∀ b j, w_el ws b j = if b = v_ad (n_v vs 13) ∧ j = (v_iv (n_v vs 5)).toNat then v_iv (n_v vs 14) else w_el w1 b j) ∧ ∀ b k, w_fd ws b k = w_fd w1 b k := s1.2
  replace f3 := shm_107 f3
  replace f4 := shm_137 f4
  replace f5 := shm_108 f5
  have s2 : (∀ b j, w_el w1 b j = if b = v_ad (n_v vs 9) ∧ j = (v_iv (n_v vs 5)).toNat then v_iv (n_v vs 12) else w_el w2 b j) ∧ ∀ b k, w_fd w1 b k = w_fd w2 b k := s2.2
  replace f8 := shm_107 f8
  replace f13 := shm_1305 f13
  have q4 : n_v vs 4 = n_v vs 0 := f0.symm
  have q5 : n_v vs 5 = n_v vs 1 := f1.symm
  rw [q5] at s1
  simp only [q5, q4] at f3 f4 f5
  rw [q5] at s2
  simp only [q5, q4] at f8 f13
  have ar_0_2_1 : w_ar w1 (n_v vs 0) 2 = w_ar ws (n_v vs 0) 2 := congrArg v_ad (s1.2 _ _).symm
  have ar_0_2_2 : w_ar w2 (n_v vs 0) 2 = w_ar ws (n_v vs 0) 2 := by rw [← ar_0_2_1]; show v_ad (w_fd w2 _ _) = v_ad (w_fd w1 _ _); rw [s2.2]
  have cr_0_2 := fdq_10 hD hth r0
  have ar_0_3_1 : w_ar w1 (n_v vs 0) 3 = w_ar ws (n_v vs 0) 3 := congrArg v_ad (s1.2 _ _).symm
  have ar_0_3_2 : w_ar w2 (n_v vs 0) 3 = w_ar ws (n_v vs 0) 3 := by rw [← ar_0_3_1]; show v_ad (w_fd w2 _ _) = v_ad (w_fd w1 _ _); rw [s2.2]
  have cr_0_3 := fdq_142 hD hth r0
  have ar_0_4_1 : w_ar w1 (n_v vs 0) 4 = w_ar ws (n_v vs 0) 4 := congrArg v_ad (s1.2 _ _).symm
  have ar_0_4_2 : w_ar w2 (n_v vs 0) 4 = w_ar ws (n_v vs 0) 4 := by rw [← ar_0_4_1]; show v_ad (w_fd w2 _ _) = v_ad (w_fd w1 _ _); rw [s2.2]
  have cr_0_4 := fdq_143 hD hth r0
  have ad_9 : v_ad (n_v vs 9) = w_ar ws (n_v vs 0) 3 := (congrArg v_ad f4).trans ar_0_3_1
  have ad_13 : v_ad (n_v vs 13) = w_ar ws (n_v vs 0) 4 := (congrArg v_ad f5).trans ar_0_4_1
  simp only [ad_9] at f3
  have h3 : v_iv (n_v vs 14) = w_ei w1 (w_ar ws (n_v vs 0) 3) (v_iv (n_v vs 1)) := f3
  simp only [ad_9] at f8
  have h8 : v_iv (n_v vs 10) = w_ei w2 (w_ar ws (n_v vs 0) 3) (v_iv (n_v vs 1)) := f8
  simp only [ar_0_3_2, ar_0_2_2, ar_0_4_2] at f13
  have hE_0_2_1 : ∀ j : Int, w_ei ws (w_ar ws (n_v vs 0) 2) j = w_ei w1 (w_ar ws (n_v vs 0) 2) j := el_kp s1.1 r13 cr_0_2 (by decide)
  have hE_0_2_2 : ∀ j : Int, w_ei w1 (w_ar ws (n_v vs 0) 2) j = w_ei w2 (w_ar ws (n_v vs 0) 2) j := el_kp s2.1 r9 cr_0_2 (by decide)
  have hE_0_3_1 : ∀ j : Int, w_ei ws (w_ar ws (n_v vs 0) 3) j = w_ei w1 (w_ar ws (n_v vs 0) 3) j := el_kp s1.1 r13 cr_0_3 (by decide)
  have hE_0_3_2 : ∀ j : Int, 0 ≤ j → (j = v_iv (n_v vs 1) → w_ei w1 (w_ar ws (n_v vs 0) 3) j = v_iv (n_v vs 12)) ∧ (j ≠ v_iv (n_v vs 1) → w_ei w1 (w_ar ws (n_v vs 0) 3) j = w_ei w2 (w_ar ws (n_v vs 0) 3) j) := fun j hj => ⟨fun h => by unfold w_ei; rw [s2.1, if_pos ⟨ad_9.symm, by rw [h]⟩], fun h => by unfold w_ei; rw [s2.1, if_neg (fun e => h (by have := e.2; omega))]⟩
  have hE_0_4_1 : ∀ j : Int, 0 ≤ j → (j = v_iv (n_v vs 1) → w_ei ws (w_ar ws (n_v vs 0) 4) j = v_iv (n_v vs 14)) ∧ (j ≠ v_iv (n_v vs 1) → w_ei ws (w_ar ws (n_v vs 0) 4) j = w_ei w1 (w_ar ws (n_v vs 0) 4) j) := fun j hj => ⟨fun h => by unfold w_ei; rw [s1.1, if_pos ⟨ad_13.symm, by rw [h]⟩], fun h => by unfold w_ei; rw [s1.1, if_neg (fun e => h (by have := e.2; omega))]⟩
  have hE_0_4_2 : ∀ j : Int, w_ei w1 (w_ar ws (n_v vs 0) 4) j = w_ei w2 (w_ar ws (n_v vs 0) 4) j := el_kp s2.1 r9 cr_0_4 (by decide)
  have nf0 : fc_1 PRD (20, [4, 5, 2, 3], [60, 0, 3, 223, 2, 3, 4]) ws (vs) := by
    refine ⟨nf_in hl rfl, sgq_1307 ?_⟩
    · show T130e (w_ei ws (w_ar ws (n_v vs 4) 2)) (w_ei ws (w_ar ws (n_v vs 4) 3)) (w_ei ws (w_ar ws (n_v vs 4) 4)) (v_iv (n_v vs 5)) (v_iv (n_v vs 2)) (v_iv (n_v vs 3))
      simp only [q4, q5]
      exact vc_Mo_step_at_ge_9_0 (v_iv (n_v vs 1)) (v_iv (n_v vs 2)) (v_iv (n_v vs 3)) (v_iv (n_v vs 6)) (v_iv (n_v vs 7)) (v_iv (n_v vs 10)) (v_iv (n_v vs 12)) (v_iv (n_v vs 14)) (w_ei w1 (w_ar ws (n_v vs 0) 3)) (w_ei w2 (w_ar ws (n_v vs 0) 3)) (w_ei w2 (w_ar ws (n_v vs 0) 2)) (w_ei w2 (w_ar ws (n_v vs 0) 4)) (w_ei ws (w_ar ws (n_v vs 0) 2)) (w_ei w1 (w_ar ws (n_v vs 0) 2)) (w_ei ws (w_ar ws (n_v vs 0) 3)) (w_ei ws (w_ar ws (n_v vs 0) 4)) (w_ei w1 (w_ar ws (n_v vs 0) 4)) k1 k2 k3 k6 k7 k10 k12 k14 d0 h3 h8 f13 hE_0_2_1 hE_0_2_2 hE_0_3_1 hE_0_3_2 hE_0_4_1 hE_0_4_2
  refine ⟨(fun _ h => (by cases h)), [], trivial, ?_, (fun _ h => (by cases h))⟩
  rw [List.append_nil]
  exact List.forall_mem_cons.mpr ⟨⟨show (20 : Nat) < 100 from by decide, nf0⟩, (fun _ h => (by cases h))⟩
set_option maxHeartbeats 4000000 in
theorem vc_Mo_step_at_ge_10_0 (x1 : Int) (x2 : Int) (x3 : Int) (all_0 : Int → Int) (now_0 : Int → Int) (latest_0 : Int → Int) (r_0 : Int) (k1 : 0 ≤ x1 ∧ x1 ≤ 3) (k2 : 0 ≤ x2 ∧ x2 ≤ 48) (k3 : 0 ≤ x3 ∧ x3 ≤ 48) (f0 : T130e (all_0) (now_0) (latest_0) (x1) (x2) (x3)) (f3 : r_0 = ((16709 * x1) + (539 * now_0 (x1)))) : RWS (r_0) (all_0) (now_0) (latest_0) := by
  first
    | exact (t130_rws ‹T130n _ _ _ _ _ _› (by omega)).1
    | exact (t130_rws ‹T130e _ _ _ _ _ _› (by omega)).1
    | exact (t130_rws ‹T130d _ _ _ _ _ _› (by omega)).1
    | exact (t130_rws ‹T130v _ _ _ _ _ _› (by omega)).1
    | exact (t130_rws ‹T130x _ _ _ _› (by omega)).1
set_option maxHeartbeats 4000000 in
theorem vc_Mo_step_at_ge_10_1 (x1 : Int) (now_0 : Int → Int) (r_0 : Int) (k1 : 0 ≤ x1 ∧ x1 ≤ 3) (f3 : r_0 = ((16709 * x1) + (539 * now_0 (x1)))) : r_0 = ((16709 * x1) + (539 * now_0 (x1))) := by
  first | omega
set_option maxHeartbeats 4000000 in
theorem vc_Mo_step_at_ge_10_2 (x1 : Int) (x2 : Int) (x3 : Int) (all_0 : Int → Int) (now_0 : Int → Int) (latest_0 : Int → Int) (r_0 : Int) (k1 : 0 ≤ x1 ∧ x1 ≤ 3) (k2 : 0 ≤ x2 ∧ x2 ≤ 48) (k3 : 0 ≤ x3 ∧ x3 ≤ 48) (f0 : T130e (all_0) (now_0) (latest_0) (x1) (x2) (x3)) (f3 : r_0 = ((16709 * x1) + (539 * now_0 (x1)))) : CPe (r_0) (all_0) (x2) (x3) := by
  exact (t130_rws ‹T130e _ _ _ _ _ _› (by omega)).2
def o_Mo_step_at_ge_10 : or_T := (138, 15, [(1, (0, 0, 3, [])), (2, (0, 0, 48, [])), (3, (0, 0, 48, []))], [(20, [4, 5, 2, 3], [60, 0, 3, 223, 2, 3, 4]), (24, [0, 4], []), (24, [1, 5], []), (20, [4, 5], [50, 1, 1, 5, 3, 1, 3, 2, 0, 5, 4, 6, 6, 2, 0, 16709, 1, 1, 6, 2, 0, 539, 3, 0, 3, 1, 1])], [], [], [(20, [0], [60, 1, 3, 199, 5, 2, 3, 4]), (20, [0, 1], [50, 1, 1, 5, 3, 1, 3, 2, 0, 5, 4, 6, 6, 2, 0, 16709, 1, 1, 6, 2, 0, 539, 3, 0, 3, 1, 1]), (20, [0, 2, 3], [60, 1, 1, 220, 5, 2])], [], [])
theorem oo_Mo_step_at_ge_10 {kA : Nat → ClassId} : or_ok PRD kA GG o_Mo_step_at_ge_10 := by
  refine or_mk fun A ta ws vs hD hth hl => ?_
  intro t1 k1 t2 k2 t3 k3 f0 f1 f2 f3
  replace f0 := shm_1307 f0
  replace f1 := shm_5 f1
  replace f2 := shm_5 f2
  replace f3 := shm_1037 f3
  have q4 : n_v vs 4 = n_v vs 0 := f1.symm
  have q5 : n_v vs 5 = n_v vs 1 := f2.symm
  simp only [q4, q5] at f0 f3
  have nf0 : fc_1 PRD (20, [0], [60, 1, 3, 199, 5, 2, 3, 4]) ws (vs) := ⟨nf_in hl rfl, sgq_980 (vc_Mo_step_at_ge_10_0 (v_iv (n_v vs 1)) (v_iv (n_v vs 2)) (v_iv (n_v vs 3)) (w_ei ws (w_ar ws (n_v vs 0) 2)) (w_ei ws (w_ar ws (n_v vs 0) 3)) (w_ei ws (w_ar ws (n_v vs 0) 4)) (w_fi ws (n_v vs 0) 5) k1 k2 k3 f0 f3)⟩
  have nf1 : fc_1 PRD (20, [0, 1], [50, 1, 1, 5, 3, 1, 3, 2, 0, 5, 4, 6, 6, 2, 0, 16709, 1, 1, 6, 2, 0, 539, 3, 0, 3, 1, 1]) ws (vs) := ⟨nf_in hl rfl, sgq_1037 (vc_Mo_step_at_ge_10_1 (v_iv (n_v vs 1)) (w_ei ws (w_ar ws (n_v vs 0) 3)) (w_fi ws (n_v vs 0) 5) k1 f3)⟩
  have nf2 : fc_1 PRD (20, [0, 2, 3], [60, 1, 1, 220, 5, 2]) ws (vs) := ⟨nf_in hl rfl, sgq_1304 (vc_Mo_step_at_ge_10_2 (v_iv (n_v vs 1)) (v_iv (n_v vs 2)) (v_iv (n_v vs 3)) (w_ei ws (w_ar ws (n_v vs 0) 2)) (w_ei ws (w_ar ws (n_v vs 0) 3)) (w_ei ws (w_ar ws (n_v vs 0) 4)) (w_fi ws (n_v vs 0) 5) k1 k2 k3 f0 f3)⟩
  refine ⟨(fun _ h => (by cases h)), [], trivial, ?_, (fun _ h => (by cases h))⟩
  rw [List.append_nil]
  exact List.forall_mem_cons.mpr ⟨⟨show (20 : Nat) < 100 from by decide, nf0⟩, List.forall_mem_cons.mpr ⟨⟨show (20 : Nat) < 100 from by decide, nf1⟩, List.forall_mem_cons.mpr ⟨⟨show (20 : Nat) < 100 from by decide, nf2⟩, (fun _ h => (by cases h))⟩⟩⟩
def o_Mo_step_at_ge_11 : or_T := (99, 15, [(6, (5, 0, 66297, [539])), (7, (0, 0, 538, [])), (10, (0, 539, 539, [])), (11, (5, 539, 66836, [539])), (12, (0, 539, 67374, [])), (13, (0, 0, 66835, [])), (14, (0, -1, 255, [])), (9, (2, 0, 0, [167]))], [(10, [14, 9, 13], []), (1, [13, 6, 7], []), (1, [12, 11, 7], []), (1, [11, 6, 10], [])], [], [], [(18, [12, 14], [1])], [], [(13, 7, 0, 66297), (13, 6, 0, 538), (12, 7, 539, 66836), (12, 11, 0, 538), (12, 6, 539, 1077), (11, 6, 539, 539)])
theorem oo_Mo_step_at_ge_11 {kA : Nat → ClassId} : or_ok PRD kA GG o_Mo_step_at_ge_11 := by
  refine or_mk fun A ta ws vs hD hth hl => ?_
  intro t6 t7 k7 t10 k10 t11 t12 k12 t13 k13 t14 k14 t9 r9 d0 d1 d2 d3 d4 d5 f0 f1 f2 f3
  obtain ⟨k6, q6_⟩ : (0 ≤ v_iv (n_v vs 6) ∧ v_iv (n_v vs 6) ≤ 66297) ∧ ∃ q : Int, v_iv (n_v vs 6) = 539 * q := tv_dvk t6
  obtain ⟨q6, hq6⟩ := q6_
  obtain ⟨k11, q11_⟩ : (539 ≤ v_iv (n_v vs 11) ∧ v_iv (n_v vs 11) ≤ 66836) ∧ ∃ q : Int, v_iv (n_v vs 11) = 539 * q := tv_dvk t11
  obtain ⟨q11, hq11⟩ := q11_
  replace f0 := shm_107 f0
  replace f1 := shm_12 f1
  replace f2 := shm_12 f2
  replace f3 := shm_12 f3
  have nf0 : fc_1 PRD (18, [12, 14], [1]) ws (vs) := by
    refine ⟨nf_in hl rfl, sgq_1302 ?_⟩
    · show pl_ok 1 (v_iv (n_v vs 12)).toNat (v_iv (n_v vs 14))
      have e0 := pl_cp hD hth r9 (g := GG_167) rfl rfl rfl pl_M1 (i := (v_iv (n_v vs 13)).toNat) (j := (v_iv (n_v vs 12)).toNat) (by show (v_iv (n_v vs 13)).toNat < 66836; omega) (by omega)
      rw [← f0] at e0
      exact e0
  refine ⟨(fun _ h => (by cases h)), [], trivial, ?_, (fun _ h => (by cases h))⟩
  rw [List.append_nil]
  exact List.forall_mem_cons.mpr ⟨⟨show (18 : Nat) < 100 from by decide, nf0⟩, (fun _ h => (by cases h))⟩
def o_Mo_step_at_ge_12 : or_T := (99, 15, [(0, (2, 0, 0, [165])), (1, (0, 0, 3, [])), (2, (0, 0, 48, [])), (3, (0, 0, 48, [])), (4, (2, 0, 0, [165])), (5, (0, 0, 3, [])), (6, (0, 0, 66297, [])), (7, (0, 0, 538, [])), (8, (0, 539, 539, [])), (9, (2, 0, 0, [167])), (10, (0, 539, 539, [])), (11, (0, 539, 66836, [])), (12, (0, 539, 67374, [])), (13, (0, 0, 66835, [])), (14, (0, -1, 255, []))], [(10, [14, 9, 13], []), (1, [13, 6, 7], []), (9, [9, 4], [2]), (1, [12, 11, 7], []), (1, [11, 6, 10], []), (7, [7, 8], [2]), (20, [4, 5], [30, 29, 1, 2, 3]), (20, [6, 5, 4, 5], [30, 0, 1, 0, 0, -16709, 0, 0, -539, 2, 3]), (20, [6, 5, 4, 5], [30, 0, -1, 0, 0, 16709, 0, 0, 539, 2, 3]), (20, [4, 5, 6, 7, 2, 3], [60, 0, 3, 222, 2, 3, 4]), (24, [0, 4], []), (24, [1, 5], [])], [(12, (0, 539, 66835, []))], [], [], [], [(13, 7, 0, 66297), (13, 6, 0, 538), (12, 7, 539, 66836), (12, 11, 0, 538), (12, 6, 539, 1077), (11, 6, 539, 539), (1, 5, -4294967296, 0), (5, 1, -4294967296, 0)])
theorem oo_Mo_step_at_ge_12 {kA : Nat → ClassId} : or_ok PRD kA GG o_Mo_step_at_ge_12 := by
  refine or_mk fun A ta ws vs hD hth hl => ?_
  intro t0 r0 t1 k1 t2 k2 t3 k3 t4 r4 t5 k5 t6 k6 t7 k7 t8 k8 t9 r9 t10 k10 t11 k11 t12 k12 t13 k13 t14 k14 d0 d1 d2 d3 d4 d5 d6 d7 f0 f1 f2 f3 f4 f5 f6 f7 f8 f9 f10 f11
  replace f0 := shm_107 f0
  replace f1 := shm_12 f1
  replace f2 := shm_120 f2
  replace f3 := shm_12 f3
  replace f4 := shm_12 f4
  replace f5 := shm_6 f5
  replace f6 := shm_1296 f6
  replace f7 := shm_1297 f7
  replace f8 := shm_1298 f8
  replace f9 := shm_1305 f9
  replace f10 := shm_5 f10
  replace f11 := shm_5 f11
  have q4 : n_v vs 4 = n_v vs 0 := f10.symm
  have q5 : n_v vs 5 = n_v vs 1 := f11.symm
  simp only [q4, q5] at f2 f6 f7 f8 f9
  have cr_0_2 := fdq_10 hD hth r0
  have cr_0_3 := fdq_142 hD hth r0
  have cr_0_4 := fdq_143 hD hth r0
  have ad_9 : v_ad (n_v vs 9) = w_ar ws (n_v vs 0) 2 := congrArg v_ad f2
  simp only [ad_9] at f0
  have h0 : v_iv (n_v vs 14) = w_ei ws (w_ar ws (n_v vs 0) 2) (v_iv (n_v vs 13)) := f0
  have br_0_2_13_0 : w_ei ws (w_ar ws (n_v vs 0) 2) (v_iv (n_v vs 13)) = w_el ws (w_ar ws (n_v vs 0) 2) (v_iv (n_v vs 13)).toNat := rfl
  have br_0_3_1_0 : w_ei ws (w_ar ws (n_v vs 0) 3) (v_iv (n_v vs 1)) = w_el ws (w_ar ws (n_v vs 0) 3) (v_iv (n_v vs 1)).toNat := rfl
  have hK_0_3 := elq_80 hD hth cr_0_3
  have hK_0_4 := elq_81 hD hth cr_0_4
  have rf12 : tv_ok ta (0, 539, 66835, []) (n_v vs 12) := tv_in t12 (by first | omega | grind) (by first | omega | grind)
  refine ⟨List.forall_mem_cons.mpr ⟨rf12, (fun _ h => (by cases h))⟩, [], trivial, ?_, (fun _ h => (by cases h))⟩
  rw [List.append_nil]
  exact (fun _ h => (by cases h))
set_option maxHeartbeats 4000000 in
theorem vc_Mo_step_at_ge_13_0 (x1 : Int) (x2 : Int) (x3 : Int) (x5 : Int) (x6 : Int) (x7 : Int) (x11 : Int) (x12 : Int) (x13 : Int) (x14 : Int) (x15 : Int) (now_0 : Int → Int) (all_1 : Int → Int) (now_1 : Int → Int) (latest_1 : Int → Int) (all_0 : Int → Int) (latest_0 : Int → Int) (k1 : 0 ≤ x1 ∧ x1 ≤ 3) (k2 : 0 ≤ x2 ∧ x2 ≤ 48) (k3 : 0 ≤ x3 ∧ x3 ≤ 48) (k5 : 0 ≤ x5 ∧ x5 ≤ 3) (k6 : 0 ≤ x6 ∧ x6 ≤ 66297) (k7 : 0 ≤ x7 ∧ x7 ≤ 538) (k11 : 539 ≤ x11 ∧ x11 ≤ 66836) (k12 : 539 ≤ x12 ∧ x12 ≤ 66835) (k13 : 0 ≤ x13 ∧ x13 ≤ 66835) (k14 : (-1) ≤ x14 ∧ x14 ≤ 255) (k15 : 1 ≤ x15 ∧ x15 ≤ 539) (d0 : x7 + 1 ≤ x15 ∧ x15 ≤ x7 + 1) (d6 : x6 + 539 ≤ x11 ∧ x11 ≤ x6 + 539) (d7 : x5 + (-4294967296) ≤ x1 ∧ x1 ≤ x5 + 0) (d8 : x1 + (-4294967296) ≤ x5 ∧ x5 ≤ x1 + 0) (f0 : x15 = x7 + 1) (f2 : 1 * x6 + ((-16709) * x1 + ((-539) * now_0 (x1) + 0)) ≤ 0) (f3 : (-1) * x6 + (16709 * x1 + (539 * now_0 (x1) + 0)) ≤ 0) (h7 : x14 = all_1 (x13)) (f8 : x13 = x6 + x7) (f10 : x12 = x11 + x7) (f16 : T73e (all_1) (now_1) (latest_1) (x1) (x6) (x7) (x2) (x3)) (hE_0_2_1 : ∀ j : Int, 0 ≤ j → (j = x12 → all_0 j = x14) ∧ (j ≠ x12 → all_0 j = all_1 j)) (hE_0_3_1 : ∀ j : Int, now_0 j = now_1 j) (hE_0_4_1 : ∀ j : Int, latest_0 j = latest_1 j) : T73e (all_0) (now_0) (latest_0) (x1) (x6) (x15) (x2) (x3) := by
  have e_hE_0_3_1 := funext hE_0_3_1; subst e_hE_0_3_1
  have e_hE_0_4_1 := funext hE_0_4_1; subst e_hE_0_4_1
  first
    | exact t73_step ‹T73e _ _ _ _ _ _ _ _› (by assumption) (by omega) (by omega) (by omega) (by assumption) (by omega)
def o_Mo_step_at_ge_13 : or_T := (73, 16, [(0, (2, 0, 0, [165])), (1, (0, 0, 3, [])), (2, (0, 0, 48, [])), (3, (0, 0, 48, [])), (5, (0, 0, 3, [])), (6, (0, 0, 66297, [])), (7, (0, 0, 538, [])), (9, (2, 0, 0, [167])), (11, (0, 539, 66836, [])), (12, (0, 539, 66835, [])), (13, (0, 0, 66835, [])), (14, (0, -1, 255, [])), (15, (0, 1, 539, []))], [(6, [15, 7], [1]), (20, [6, 5, 4, 5], [30, 0, 1, 0, 0, -16709, 0, 0, -539, 2, 3]), (20, [6, 5, 4, 5], [30, 0, -1, 0, 0, 16709, 0, 0, 539, 2, 3]), (24, [0, 4], []), (24, [1, 5], []), (100, [9, 12, 14], []), (10, [14, 9, 13], []), (1, [13, 6, 7], []), (9, [9, 4], [2]), (1, [12, 11, 7], []), (20, [4, 5, 6, 7, 2, 3], [60, 0, 3, 222, 2, 3, 4])], [], [], [(20, [4, 5, 6, 15, 2, 3], [60, 0, 3, 222, 2, 3, 4])], [], [(15, 7, 1, 1), (12, 7, 539, 66836), (12, 11, 0, 538), (12, 6, 539, 1077), (11, 6, 539, 539), (1, 5, -4294967296, 0), (5, 1, -4294967296, 0)])
theorem oo_Mo_step_at_ge_13 {kA : Nat → ClassId} : or_ok PRD kA GG o_Mo_step_at_ge_13 := by
  refine or_mk fun A ta ws vs hD hth hl => ?_
  intro t0 r0 t1 k1 t2 k2 t3 k3 t5 k5 t6 k6 t7 k7 t9 r9 t11 k11 t12 k12 t13 k13 t14 k14 t15 k15 d0 d3 d4 d5 d6 d7 d8 f0 f2 f3 f4 f5 ta1 w1 le1 s1 f7 f8 f9 f10 f16
  replace f0 := shm_4 f0
  replace f2 := shm_1297 f2
  replace f3 := shm_1298 f3
  replace f4 := shm_5 f4
  replace f5 := shm_5 f5
  have s1 : (∀ b j, w_el ws b j = if b = v_ad (n_v vs 9) ∧ j = (v_iv (n_v vs 12)).toNat then v_iv (n_v vs 14) else w_el w1 b j) ∧ ∀ b k, w_fd ws b k = w_fd w1 b k := s1.2
  replace f7 := shm_107 f7
  replace f8 := shm_12 f8
  replace f9 := shm_120 f9
  replace f10 := shm_12 f10
  replace f16 := shm_1305 f16
  have q4 : n_v vs 4 = n_v vs 0 := f4.symm
  have q5 : n_v vs 5 = n_v vs 1 := f5.symm
  simp only [q4, q5] at f2 f3 f9 f16
  have ar_0_2_1 : w_ar w1 (n_v vs 0) 2 = w_ar ws (n_v vs 0) 2 := congrArg v_ad (s1.2 _ _).symm
  have ar_0_3_1 : w_ar w1 (n_v vs 0) 3 = w_ar ws (n_v vs 0) 3 := congrArg v_ad (s1.2 _ _).symm
  have cr_0_3 := fdq_142 hD hth r0
  have ar_0_4_1 : w_ar w1 (n_v vs 0) 4 = w_ar ws (n_v vs 0) 4 := congrArg v_ad (s1.2 _ _).symm
  have cr_0_4 := fdq_143 hD hth r0
  have ad_9 : v_ad (n_v vs 9) = w_ar ws (n_v vs 0) 2 := (congrArg v_ad f9).trans ar_0_2_1
  simp only [ad_9] at f7
  have h7 : v_iv (n_v vs 14) = w_ei w1 (w_ar ws (n_v vs 0) 2) (v_iv (n_v vs 13)) := f7
  simp only [ar_0_3_1, ar_0_2_1, ar_0_4_1] at f16
  have hE_0_2_1 : ∀ j : Int, 0 ≤ j → (j = v_iv (n_v vs 12) → w_ei ws (w_ar ws (n_v vs 0) 2) j = v_iv (n_v vs 14)) ∧ (j ≠ v_iv (n_v vs 12) → w_ei ws (w_ar ws (n_v vs 0) 2) j = w_ei w1 (w_ar ws (n_v vs 0) 2) j) := fun j hj => ⟨fun h => by unfold w_ei; rw [s1.1, if_pos ⟨ad_9.symm, by rw [h]⟩], fun h => by unfold w_ei; rw [s1.1, if_neg (fun e => h (by have := e.2; omega))]⟩
  have hE_0_3_1 : ∀ j : Int, w_ei ws (w_ar ws (n_v vs 0) 3) j = w_ei w1 (w_ar ws (n_v vs 0) 3) j := el_kp s1.1 r9 cr_0_3 (by decide)
  have hE_0_4_1 : ∀ j : Int, w_ei ws (w_ar ws (n_v vs 0) 4) j = w_ei w1 (w_ar ws (n_v vs 0) 4) j := el_kp s1.1 r9 cr_0_4 (by decide)
  have nf0 : fc_1 PRD (20, [4, 5, 6, 15, 2, 3], [60, 0, 3, 222, 2, 3, 4]) ws (vs) := by
    refine ⟨nf_in hl rfl, sgq_1305 ?_⟩
    · show T73e (w_ei ws (w_ar ws (n_v vs 4) 2)) (w_ei ws (w_ar ws (n_v vs 4) 3)) (w_ei ws (w_ar ws (n_v vs 4) 4)) (v_iv (n_v vs 5)) (v_iv (n_v vs 6)) (v_iv (n_v vs 15)) (v_iv (n_v vs 2)) (v_iv (n_v vs 3))
      simp only [q4, q5]
      exact vc_Mo_step_at_ge_13_0 (v_iv (n_v vs 1)) (v_iv (n_v vs 2)) (v_iv (n_v vs 3)) (v_iv (n_v vs 5)) (v_iv (n_v vs 6)) (v_iv (n_v vs 7)) (v_iv (n_v vs 11)) (v_iv (n_v vs 12)) (v_iv (n_v vs 13)) (v_iv (n_v vs 14)) (v_iv (n_v vs 15)) (w_ei ws (w_ar ws (n_v vs 0) 3)) (w_ei w1 (w_ar ws (n_v vs 0) 2)) (w_ei w1 (w_ar ws (n_v vs 0) 3)) (w_ei w1 (w_ar ws (n_v vs 0) 4)) (w_ei ws (w_ar ws (n_v vs 0) 2)) (w_ei ws (w_ar ws (n_v vs 0) 4)) k1 k2 k3 k5 k6 k7 k11 k12 k13 k14 k15 d0 d6 d7 d8 f0 f2 f3 h7 f8 f10 f16 hE_0_2_1 hE_0_3_1 hE_0_4_1
  refine ⟨(fun _ h => (by cases h)), [], trivial, ?_, (fun _ h => (by cases h))⟩
  rw [List.append_nil]
  exact List.forall_mem_cons.mpr ⟨⟨show (20 : Nat) < 100 from by decide, nf0⟩, (fun _ h => (by cases h))⟩
def n_Mo_step_at_ge_an : List an_T := [(13, [(0, (2, 0, 0, [165])), (1, (0, 0, 3, [])), (2, (0, 0, 16170, []))], [], (0, 0), [(0, 0, 99987), (1, 6, 16170), (0, 0, 100000)], [(1, 5, (Int.negSucc 999999999999), 0), (5, 1, (Int.negSucc 999999999999), 0)], [], [(2, 0, 0, [165]), (0, 0, 3, []), (0, 0, 48, []), (0, 0, 48, [])], 0, [], [(20, [4, 5], [30, (Int.negSucc 29), (Int.negSucc 0), 2, 3]), (20, [4, 5, 6, 2, 3], [60, 0, 3, 221, 2, 3, 4]), (24, [0, 4], []), (24, [1, 5], [])]), (73, [(0, (2, 0, 0, [165])), (1, (0, 0, 3, [])), (2, (5, 0, 66297, [539])), (3, (0, 0, 539, []))], [], (0, 0), [(0, 0, 99927), (1, 7, 539), (0, 0, 100000)], [(1, 5, (Int.negSucc 999999999999), 0), (5, 1, (Int.negSucc 999999999999), 0)], [], [(2, 0, 0, [165]), (0, 0, 3, []), (0, 0, 48, []), (0, 0, 48, [])], 0, [], [(20, [4, 5], [30, 29, 1, 2, 3]), (20, [6, 5, 4, 5], [30, 0, 1, 0, 0, (Int.negSucc 16708), 0, 0, (Int.negSucc 538), 2, 3]), (20, [6, 5, 4, 5], [30, 0, (Int.negSucc 0), 0, 0, 16709, 0, 0, 539, 2, 3]), (20, [4, 5, 6, 7, 2, 3], [60, 0, 3, 222, 2, 3, 4]), (24, [0, 4], []), (24, [1, 5], [])])]
def t_Mo_step_at_ge_ct : ct_L := [(0, 372, e_Mo_rowOf), (1, 524, e_Mo_changed), (1, 527, e_Mo_take)]
set_option maxRecDepth 100000 in
theorem c_Mo_step_at_ge {l : Launch} {D : va_G} {kA : Nat → ClassId} (h_Mo_changed : ct_ok PRD l D kA GG y_Mo_changed z_Mo_changed e_Mo_changed) (h_Mo_rowOf : ct_ok PRD l D kA GG y_Mo_rowOf z_Mo_rowOf e_Mo_rowOf) (h_Mo_take : ct_ok PRD l D kA GG y_Mo_take z_Mo_take e_Mo_take) : ct_ok PRD l D kA GG y_Mo_step_at_ge z_Mo_step_at_ge e_Mo_step_at_ge := chk_all_ok (FT := [(16, 13, 2), (20, 13, 3), (23, 13, 4)]) (PT := []) (CT := t_Mo_step_at_ge_ct) (KT := []) (NT := []) (AN := n_Mo_step_at_ge_an) (OT := [o_Mo_step_at_ge_0, o_Mo_step_at_ge_1, o_Mo_step_at_ge_2, o_Mo_step_at_ge_3, o_Mo_step_at_ge_4, o_Mo_step_at_ge_5, o_Mo_step_at_ge_6, o_Mo_step_at_ge_7, o_Mo_step_at_ge_8, o_Mo_step_at_ge_9, o_Mo_step_at_ge_10, o_Mo_step_at_ge_11, o_Mo_step_at_ge_12, o_Mo_step_at_ge_13]) 3 388 (List.forall_mem_cons.mpr ⟨oo_Mo_step_at_ge_0, List.forall_mem_cons.mpr ⟨oo_Mo_step_at_ge_1, List.forall_mem_cons.mpr ⟨oo_Mo_step_at_ge_2, List.forall_mem_cons.mpr ⟨oo_Mo_step_at_ge_3, List.forall_mem_cons.mpr ⟨oo_Mo_step_at_ge_4, List.forall_mem_cons.mpr ⟨oo_Mo_step_at_ge_5, List.forall_mem_cons.mpr ⟨oo_Mo_step_at_ge_6, List.forall_mem_cons.mpr ⟨oo_Mo_step_at_ge_7, List.forall_mem_cons.mpr ⟨oo_Mo_step_at_ge_8, List.forall_mem_cons.mpr ⟨oo_Mo_step_at_ge_9, List.forall_mem_cons.mpr ⟨oo_Mo_step_at_ge_10, List.forall_mem_cons.mpr ⟨oo_Mo_step_at_ge_11, List.forall_mem_cons.mpr ⟨oo_Mo_step_at_ge_12, List.forall_mem_cons.mpr ⟨oo_Mo_step_at_ge_13, List.forall_mem_nil _⟩⟩⟩⟩⟩⟩⟩⟩⟩⟩⟩⟩⟩⟩) (by decide +kernel) ⟨List.forall_mem_cons.mpr ⟨gf_Mo_16, List.forall_mem_cons.mpr ⟨gf_Mo_20, List.forall_mem_cons.mpr ⟨gf_Mo_23, List.forall_mem_nil _⟩⟩⟩, List.forall_mem_nil _, List.forall_mem_cons.mpr ⟨cl_static (y := y_Mo_rowOf) h_Mo_rowOf wm_2420 wm_9 wm_2418 wm_2419 ⟨by decide, by decide, by decide +kernel⟩ (by decide), List.forall_mem_cons.mpr ⟨cl_virtual (y := y_Mo_changed) (ci := 13) rfl rfl ⟨_, _, rfl⟩ (by decide +kernel) h_Mo_changed wm_3083 wm_9 wm_3080 wm_3082 wv_14_1 ⟨by decide, by decide, by decide +kernel⟩ (by decide), List.forall_mem_cons.mpr ⟨cl_virtual (y := y_Mo_take) (ci := 13) rfl rfl ⟨_, _, rfl⟩ (by decide +kernel) h_Mo_take wm_3091 wm_9 wm_3088 wm_3090 wv_14_2 ⟨by decide, by decide, by decide +kernel⟩ (by decide), List.forall_mem_nil _⟩⟩⟩, List.forall_mem_nil _, List.forall_mem_nil _, GG_pl⟩ (by decide +kernel)

set_option maxHeartbeats 4000000 in
theorem vc_Mo_step_at_gn_0_0 (x1 : Int) (x5 : Int) (now_0 : Int → Int) (k1 : 0 ≤ x1 ∧ x1 ≤ 3) (k5 : 0 ≤ x5 ∧ x5 ≤ 29) (h5 : x5 = now_0 (x1)) : 1 * now_0 (x1) + 0 ≤ 29 := by
  first
    | omega
    | (have q := hE_0_3_1 x1 (by omega); omega)
set_option maxHeartbeats 4000000 in
theorem vc_Mo_step_at_gn_0_1 (x1 : Int) (x7 : Int) (x8 : Int) (now_0 : Int → Int) (k1 : 0 ≤ x1 ∧ x1 ≤ 3) (k7 : 0 ≤ x7 ∧ x7 ≤ 30) (k8 : 0 ≤ x8 ∧ x8 ≤ 66297) (f0 : 1 * x8 + ((-16709) * x1 + ((-539) * x7 + 0)) ≤ 0) (f1 : (-1) * x8 + (16709 * x1 + (539 * x7 + 0)) ≤ 0) (h2 : x7 = now_0 (x1)) : 1 * x8 + ((-16709) * x1 + ((-539) * now_0 (x1) + 0)) ≤ 0 := by
  first
    | omega
    | (have q := hE_0_3_1 x1 (by omega); omega)
set_option maxHeartbeats 4000000 in
theorem vc_Mo_step_at_gn_0_2 (x1 : Int) (x7 : Int) (x8 : Int) (now_0 : Int → Int) (k1 : 0 ≤ x1 ∧ x1 ≤ 3) (k7 : 0 ≤ x7 ∧ x7 ≤ 30) (k8 : 0 ≤ x8 ∧ x8 ≤ 66297) (f0 : 1 * x8 + ((-16709) * x1 + ((-539) * x7 + 0)) ≤ 0) (f1 : (-1) * x8 + (16709 * x1 + (539 * x7 + 0)) ≤ 0) (h2 : x7 = now_0 (x1)) : (-1) * x8 + (16709 * x1 + (539 * now_0 (x1) + 0)) ≤ 0 := by
  first
    | omega
    | (have q := hE_0_3_1 x1 (by omega); omega)
set_option maxHeartbeats 4000000 in
theorem vc_Mo_step_at_gn_0_3 (x1 : Int) (x2 : Int) (x3 : Int) (x5 : Int) (x7 : Int) (x8 : Int) (x9 : Int) (now_0 : Int → Int) (all_0 : Int → Int) (latest_0 : Int → Int) (r_0 : Int) (k1 : 0 ≤ x1 ∧ x1 ≤ 3) (k2 : 0 ≤ x2 ∧ x2 ≤ 48) (k3 : 0 ≤ x3 ∧ x3 ≤ 48) (k5 : 0 ≤ x5 ∧ x5 ≤ 29) (k7 : 0 ≤ x7 ∧ x7 ≤ 30) (k8 : 0 ≤ x8 ∧ x8 ≤ 66297) (k9 : 0 ≤ x9 ∧ x9 ≤ 0) (f0 : 1 * x8 + ((-16709) * x1 + ((-539) * x7 + 0)) ≤ 0) (f1 : (-1) * x8 + (16709 * x1 + (539 * x7 + 0)) ≤ 0) (h2 : x7 = now_0 (x1)) (h5 : x5 = now_0 (x1)) (f6 : RWS (r_0) (all_0) (now_0) (latest_0)) (f7 : r_0 = ((16709 * x1) + (539 * now_0 (x1)))) (f8 : CPn (r_0) (all_0) (x2) (x3)) : T73n (all_0) (now_0) (latest_0) (x1) (x8) (x9) (x2) (x3) := by
  first
    | exact t73_start (t60_now ‹RWS _ _ _ _› (by omega) ‹CPn _ _ _ _› (by omega) (by omega) (by omega)) (by omega) (by omega)
def o_Mo_step_at_gn_0 : or_T := (73, 10, [(1, (0, 0, 3, [])), (2, (0, 0, 48, [])), (3, (0, 0, 48, [])), (5, (0, 0, 29, [])), (7, (0, 0, 30, [])), (8, (0, 0, 66297, [])), (9, (0, 0, 0, []))], [(23, [8, 1, 7], [0, 1, -16709, -539]), (23, [8, 1, 7], [0, -1, 16709, 539]), (10, [7, 4, 1], []), (9, [4, 0], [3]), (10, [5, 4, 1], []), (20, [0], [60, 1, 3, 199, 5, 2, 3, 4]), (20, [0, 1], [50, 1, 1, 5, 3, 1, 3, 2, 0, 5, 4, 6, 6, 2, 0, 16709, 1, 1, 6, 2, 0, 539, 3, 0, 3, 1, 1]), (20, [0, 2, 3], [60, 1, 1, 216, 5, 2])], [], [], [(20, [0, 1], [30, 29, 1, 2, 3]), (20, [8, 1, 0, 1], [30, 0, 1, 0, 0, -16709, 0, 0, -539, 2, 3]), (20, [8, 1, 0, 1], [30, 0, -1, 0, 0, 16709, 0, 0, 539, 2, 3]), (20, [0, 1, 8, 9, 2, 3], [60, 0, 3, 218, 2, 3, 4]), (24, [0, 0], []), (24, [1, 1], [])], [], [])
theorem oo_Mo_step_at_gn_0 {kA : Nat → ClassId} : or_ok PRD kA GG o_Mo_step_at_gn_0 := by
  refine or_mk fun A ta ws vs hD hth hl => ?_
  intro t1 k1 t2 k2 t3 k3 t5 k5 t7 k7 t8 k8 t9 k9 f0 f1 f2 f3 f5 f6 f7 f8
  replace f2 := shm_107 f2
  replace f3 := shm_137 f3
  replace f5 := shm_107 f5
  have ad_4 : v_ad (n_v vs 4) = w_ar ws (n_v vs 0) 3 := congrArg v_ad f3
  simp only [ad_4] at f2
  have h2 : v_iv (n_v vs 7) = w_ei ws (w_ar ws (n_v vs 0) 3) (v_iv (n_v vs 1)) := f2
  simp only [ad_4] at f5
  have h5 : v_iv (n_v vs 5) = w_ei ws (w_ar ws (n_v vs 0) 3) (v_iv (n_v vs 1)) := f5
  have nf0 : fc_1 PRD (20, [0, 1], [30, 29, 1, 2, 3]) ws (vs) := ⟨nf_in hl rfl, sgq_1296 (vc_Mo_step_at_gn_0_0 (v_iv (n_v vs 1)) (v_iv (n_v vs 5)) (w_ei ws (w_ar ws (n_v vs 0) 3)) k1 k5 h5)⟩
  have nf1 : fc_1 PRD (20, [8, 1, 0, 1], [30, 0, 1, 0, 0, -16709, 0, 0, -539, 2, 3]) ws (vs) := ⟨nf_in hl rfl, sgq_1297 (vc_Mo_step_at_gn_0_1 (v_iv (n_v vs 1)) (v_iv (n_v vs 7)) (v_iv (n_v vs 8)) (w_ei ws (w_ar ws (n_v vs 0) 3)) k1 k7 k8 (shm_128 f0) (shm_129 f1) h2)⟩
  have nf2 : fc_1 PRD (20, [8, 1, 0, 1], [30, 0, -1, 0, 0, 16709, 0, 0, 539, 2, 3]) ws (vs) := ⟨nf_in hl rfl, sgq_1298 (vc_Mo_step_at_gn_0_2 (v_iv (n_v vs 1)) (v_iv (n_v vs 7)) (v_iv (n_v vs 8)) (w_ei ws (w_ar ws (n_v vs 0) 3)) k1 k7 k8 (shm_128 f0) (shm_129 f1) h2)⟩
  have nf3 : fc_1 PRD (20, [0, 1, 8, 9, 2, 3], [60, 0, 3, 218, 2, 3, 4]) ws (vs) := ⟨nf_in hl rfl, sgq_1309 (vc_Mo_step_at_gn_0_3 (v_iv (n_v vs 1)) (v_iv (n_v vs 2)) (v_iv (n_v vs 3)) (v_iv (n_v vs 5)) (v_iv (n_v vs 7)) (v_iv (n_v vs 8)) (v_iv (n_v vs 9)) (w_ei ws (w_ar ws (n_v vs 0) 3)) (w_ei ws (w_ar ws (n_v vs 0) 2)) (w_ei ws (w_ar ws (n_v vs 0) 4)) (w_fi ws (n_v vs 0) 5) k1 k2 k3 k5 k7 k8 k9 (shm_128 f0) (shm_129 f1) h2 h5 (shm_980 f6) (shm_1037 f7) (shm_1308 f8))⟩
  have nf4 : fc_1 PRD (24, [0, 0], []) ws (vs) := by
    refine ⟨nf_in hl rfl, sgq_1 ?_⟩
    · show n_v vs 0 = n_v vs 0
      first | rfl | simp only [true_and]
  have nf5 : fc_1 PRD (24, [1, 1], []) ws (vs) := by
    refine ⟨nf_in hl rfl, sgq_1 ?_⟩
    · show n_v vs 1 = n_v vs 1
      first | rfl | simp only [true_and]
  refine ⟨(fun _ h => (by cases h)), [], trivial, ?_, (fun _ h => (by cases h))⟩
  rw [List.append_nil]
  exact List.forall_mem_cons.mpr ⟨⟨show (20 : Nat) < 100 from by decide, nf0⟩, List.forall_mem_cons.mpr ⟨⟨show (20 : Nat) < 100 from by decide, nf1⟩, List.forall_mem_cons.mpr ⟨⟨show (20 : Nat) < 100 from by decide, nf2⟩, List.forall_mem_cons.mpr ⟨⟨show (20 : Nat) < 100 from by decide, nf3⟩, List.forall_mem_cons.mpr ⟨⟨show (24 : Nat) < 100 from by decide, nf4⟩, List.forall_mem_cons.mpr ⟨⟨show (24 : Nat) < 100 from by decide, nf5⟩, (fun _ h => (by cases h))⟩⟩⟩⟩⟩⟩
set_option maxHeartbeats 4000000 in
theorem vc_Mo_step_at_gn_1_0 (x1 : Int) (x5 : Int) (now_0 : Int → Int) (k1 : 0 ≤ x1 ∧ x1 ≤ 3) (k5 : 30 ≤ x5 ∧ x5 ≤ 30) (h1 : x5 = now_0 (x1)) : (-1) * now_0 (x1) + 0 ≤ (-30) := by
  first | omega
set_option maxHeartbeats 4000000 in
theorem vc_Mo_step_at_gn_1_1 (x1 : Int) (x2 : Int) (x3 : Int) (x5 : Int) (x7 : Int) (now_0 : Int → Int) (all_0 : Int → Int) (latest_0 : Int → Int) (r_0 : Int) (k1 : 0 ≤ x1 ∧ x1 ≤ 3) (k2 : 0 ≤ x2 ∧ x2 ≤ 48) (k3 : 0 ≤ x3 ∧ x3 ≤ 48) (k5 : 30 ≤ x5 ∧ x5 ≤ 30) (k7 : 0 ≤ x7 ∧ x7 ≤ 0) (h1 : x5 = now_0 (x1)) (f3 : RWS (r_0) (all_0) (now_0) (latest_0)) (f4 : r_0 = ((16709 * x1) + (539 * now_0 (x1)))) (f5 : CPn (r_0) (all_0) (x2) (x3)) : T13n (all_0) (now_0) (latest_0) (x1) (x7) (x2) (x3) := by
  first
    | exact t13_start ‹RWS _ _ _ _› (by omega) ‹CPn _ _ _ _› (by omega) (by omega) (by omega) (by omega)
def o_Mo_step_at_gn_1 : or_T := (13, 8, [(1, (0, 0, 3, [])), (2, (0, 0, 48, [])), (3, (0, 0, 48, [])), (5, (0, 30, 30, [])), (7, (0, 0, 0, []))], [(10, [5, 4, 1], []), (9, [4, 0], [3]), (20, [0], [60, 1, 3, 199, 5, 2, 3, 4]), (20, [0, 1], [50, 1, 1, 5, 3, 1, 3, 2, 0, 5, 4, 6, 6, 2, 0, 16709, 1, 1, 6, 2, 0, 539, 3, 0, 3, 1, 1]), (20, [0, 2, 3], [60, 1, 1, 216, 5, 2])], [], [], [(20, [0, 1], [30, -30, -1, 2, 3]), (20, [0, 1, 7, 2, 3], [60, 0, 3, 217, 2, 3, 4]), (24, [0, 0], []), (24, [1, 1], [])], [], [])
theorem oo_Mo_step_at_gn_1 {kA : Nat → ClassId} : or_ok PRD kA GG o_Mo_step_at_gn_1 := by
  refine or_mk fun A ta ws vs hD hth hl => ?_
  intro t1 k1 t2 k2 t3 k3 t5 k5 t7 k7 f1 f2 f3 f4 f5
  replace f1 := shm_107 f1
  replace f2 := shm_137 f2
  have ad_4 : v_ad (n_v vs 4) = w_ar ws (n_v vs 0) 3 := congrArg v_ad f2
  simp only [ad_4] at f1
  have h1 : v_iv (n_v vs 5) = w_ei ws (w_ar ws (n_v vs 0) 3) (v_iv (n_v vs 1)) := f1
  have nf0 : fc_1 PRD (20, [0, 1], [30, -30, -1, 2, 3]) ws (vs) := ⟨nf_in hl rfl, sgq_1300 (vc_Mo_step_at_gn_1_0 (v_iv (n_v vs 1)) (v_iv (n_v vs 5)) (w_ei ws (w_ar ws (n_v vs 0) 3)) k1 k5 h1)⟩
  have nf1 : fc_1 PRD (20, [0, 1, 7, 2, 3], [60, 0, 3, 217, 2, 3, 4]) ws (vs) := ⟨nf_in hl rfl, sgq_1310 (vc_Mo_step_at_gn_1_1 (v_iv (n_v vs 1)) (v_iv (n_v vs 2)) (v_iv (n_v vs 3)) (v_iv (n_v vs 5)) (v_iv (n_v vs 7)) (w_ei ws (w_ar ws (n_v vs 0) 3)) (w_ei ws (w_ar ws (n_v vs 0) 2)) (w_ei ws (w_ar ws (n_v vs 0) 4)) (w_fi ws (n_v vs 0) 5) k1 k2 k3 k5 k7 h1 (shm_980 f3) (shm_1037 f4) (shm_1308 f5))⟩
  have nf2 : fc_1 PRD (24, [0, 0], []) ws (vs) := by
    refine ⟨nf_in hl rfl, sgq_1 ?_⟩
    · show n_v vs 0 = n_v vs 0
      first | rfl | simp only [true_and]
  have nf3 : fc_1 PRD (24, [1, 1], []) ws (vs) := by
    refine ⟨nf_in hl rfl, sgq_1 ?_⟩
    · show n_v vs 1 = n_v vs 1
      first | rfl | simp only [true_and]
  refine ⟨(fun _ h => (by cases h)), [], trivial, ?_, (fun _ h => (by cases h))⟩
  rw [List.append_nil]
  exact List.forall_mem_cons.mpr ⟨⟨show (20 : Nat) < 100 from by decide, nf0⟩, List.forall_mem_cons.mpr ⟨⟨show (20 : Nat) < 100 from by decide, nf1⟩, List.forall_mem_cons.mpr ⟨⟨show (24 : Nat) < 100 from by decide, nf2⟩, List.forall_mem_cons.mpr ⟨⟨show (24 : Nat) < 100 from by decide, nf3⟩, (fun _ h => (by cases h))⟩⟩⟩⟩
def o_Mo_step_at_gn_2 : or_T := (59, 12, [(0, (2, 0, 0, [165])), (1, (0, 0, 3, [])), (2, (0, 0, 48, [])), (3, (0, 0, 48, [])), (4, (2, 0, 0, [165])), (5, (0, 0, 3, [])), (6, (0, 16170, 16170, [])), (7, (0, 16170, 16170, [])), (8, (2, 0, 0, [168])), (9, (0, 0, 30, [])), (10, (0, 1, 1, [])), (11, (0, -1, 29, []))], [(2, [11, 9, 10], []), (10, [9, 8, 5], []), (9, [8, 4], [3]), (7, [6, 7], [3]), (20, [4, 5], [30, -30, -1, 2, 3]), (20, [4, 5, 6, 2, 3], [60, 0, 3, 217, 2, 3, 4]), (24, [0, 4], []), (24, [1, 5], [])], [(11, (0, 0, 29, []))], [], [], [], [(11, 9, -1, -1), (1, 5, -4294967296, 0), (5, 1, -4294967296, 0)])
theorem oo_Mo_step_at_gn_2 {kA : Nat → ClassId} : or_ok PRD kA GG o_Mo_step_at_gn_2 := by
  refine or_mk fun A ta ws vs hD hth hl => ?_
  intro t0 r0 t1 k1 t2 k2 t3 k3 t4 r4 t5 k5 t6 k6 t7 k7 t8 r8 t9 k9 t10 k10 t11 k11 d0 d1 d2 f0 f1 f2 f3 f4 f5 f6 f7
  replace f0 := shm_14 f0
  replace f1 := shm_107 f1
  replace f2 := shm_137 f2
  replace f3 := shm_2 f3
  replace f4 := shm_1300 f4
  replace f5 := shm_1310 f5
  replace f6 := shm_5 f6
  replace f7 := shm_5 f7
  have q4 : n_v vs 4 = n_v vs 0 := f6.symm
  have q5 : n_v vs 5 = n_v vs 1 := f7.symm
  simp only [q5, q4] at f1 f2 f4 f5
  have cr_0_2 := fdq_10 hD hth r0
  have cr_0_3 := fdq_142 hD hth r0
  have cr_0_4 := fdq_143 hD hth r0
  have ad_8 : v_ad (n_v vs 8) = w_ar ws (n_v vs 0) 3 := congrArg v_ad f2
  simp only [ad_8] at f1
  have h1 : v_iv (n_v vs 9) = w_ei ws (w_ar ws (n_v vs 0) 3) (v_iv (n_v vs 1)) := f1
  have br_0_3_1_0 : w_ei ws (w_ar ws (n_v vs 0) 3) (v_iv (n_v vs 1)) = w_el ws (w_ar ws (n_v vs 0) 3) (v_iv (n_v vs 1)).toNat := rfl
  have hK_0_3 := elq_80 hD hth cr_0_3
  have hK_0_4 := elq_81 hD hth cr_0_4
  have rf11 : tv_ok ta (0, 0, 29, []) (n_v vs 11) := tv_in t11 (by first | omega | grind) (by first | omega | grind)
  refine ⟨List.forall_mem_cons.mpr ⟨rf11, (fun _ h => (by cases h))⟩, [], trivial, ?_, (fun _ h => (by cases h))⟩
  rw [List.append_nil]
  exact (fun _ h => (by cases h))
set_option maxHeartbeats 4000000 in
theorem vc_Mo_step_at_gn_3_0 (x1 : Int) (x5 : Int) (x9 : Int) (x11 : Int) (x12 : Int) (now_0 : Int → Int) (now_1 : Int → Int) (all_1 : Int → Int) (latest_1 : Int → Int) (all_0 : Int → Int) (latest_0 : Int → Int) (k1 : 0 ≤ x1 ∧ x1 ≤ 3) (k5 : 0 ≤ x5 ∧ x5 ≤ 3) (k9 : 0 ≤ x9 ∧ x9 ≤ 30) (k11 : 0 ≤ x11 ∧ x11 ≤ 29) (k12 : 0 ≤ x12 ∧ x12 ≤ 30) (d0 : x9 + (-1) ≤ x11 ∧ x11 ≤ x9 + (-1)) (d1 : x5 + (-4294967296) ≤ x1 ∧ x1 ≤ x5 + 0) (d2 : x1 + (-4294967296) ≤ x5 ∧ x5 ≤ x1 + 0) (h2 : x12 = now_0 (x1)) (h8 : x9 = now_1 (x1)) (f10 : (-1) * now_1 (x1) + 0 ≤ (-30)) (hE_0_2_1 : ∀ j : Int, all_0 j = all_1 j) (hE_0_3_1 : ∀ j : Int, 0 ≤ j → (j = x1 → now_0 j = x11) ∧ (j ≠ x1 → now_0 j = now_1 j)) (hE_0_4_1 : ∀ j : Int, latest_0 j = latest_1 j) : 1 * now_0 (x1) + 0 ≤ 29 := by
  have e_hE_0_2_1 := funext hE_0_2_1; subst e_hE_0_2_1
  have e_hE_0_4_1 := funext hE_0_4_1; subst e_hE_0_4_1
  first
    | omega
    | (have q := hE_0_3_1 x1 (by omega); omega)
set_option maxHeartbeats 4000000 in
theorem vc_Mo_step_at_gn_3_1 (x1 : Int) (x5 : Int) (x11 : Int) (x12 : Int) (x13 : Int) (now_0 : Int → Int) (now_1 : Int → Int) (all_1 : Int → Int) (latest_1 : Int → Int) (all_0 : Int → Int) (latest_0 : Int → Int) (k1 : 0 ≤ x1 ∧ x1 ≤ 3) (k5 : 0 ≤ x5 ∧ x5 ≤ 3) (k11 : 0 ≤ x11 ∧ x11 ≤ 29) (k12 : 0 ≤ x12 ∧ x12 ≤ 30) (k13 : 0 ≤ x13 ∧ x13 ≤ 66297) (d1 : x5 + (-4294967296) ≤ x1 ∧ x1 ≤ x5 + 0) (d2 : x1 + (-4294967296) ≤ x5 ∧ x5 ≤ x1 + 0) (f0 : 1 * x13 + ((-16709) * x1 + ((-539) * x12 + 0)) ≤ 0) (f1 : (-1) * x13 + (16709 * x1 + (539 * x12 + 0)) ≤ 0) (h2 : x12 = now_0 (x1)) (hE_0_2_1 : ∀ j : Int, all_0 j = all_1 j) (hE_0_3_1 : ∀ j : Int, 0 ≤ j → (j = x1 → now_0 j = x11) ∧ (j ≠ x1 → now_0 j = now_1 j)) (hE_0_4_1 : ∀ j : Int, latest_0 j = latest_1 j) : 1 * x13 + ((-16709) * x1 + ((-539) * now_0 (x1) + 0)) ≤ 0 := by
  have e_hE_0_2_1 := funext hE_0_2_1; subst e_hE_0_2_1
  have e_hE_0_4_1 := funext hE_0_4_1; subst e_hE_0_4_1
  first
    | omega
    | (have q := hE_0_3_1 x1 (by omega); omega)
set_option maxHeartbeats 4000000 in
theorem vc_Mo_step_at_gn_3_2 (x1 : Int) (x5 : Int) (x11 : Int) (x12 : Int) (x13 : Int) (now_0 : Int → Int) (now_1 : Int → Int) (all_1 : Int → Int) (latest_1 : Int → Int) (all_0 : Int → Int) (latest_0 : Int → Int) (k1 : 0 ≤ x1 ∧ x1 ≤ 3) (k5 : 0 ≤ x5 ∧ x5 ≤ 3) (k11 : 0 ≤ x11 ∧ x11 ≤ 29) (k12 : 0 ≤ x12 ∧ x12 ≤ 30) (k13 : 0 ≤ x13 ∧ x13 ≤ 66297) (d1 : x5 + (-4294967296) ≤ x1 ∧ x1 ≤ x5 + 0) (d2 : x1 + (-4294967296) ≤ x5 ∧ x5 ≤ x1 + 0) (f0 : 1 * x13 + ((-16709) * x1 + ((-539) * x12 + 0)) ≤ 0) (f1 : (-1) * x13 + (16709 * x1 + (539 * x12 + 0)) ≤ 0) (h2 : x12 = now_0 (x1)) (hE_0_2_1 : ∀ j : Int, all_0 j = all_1 j) (hE_0_3_1 : ∀ j : Int, 0 ≤ j → (j = x1 → now_0 j = x11) ∧ (j ≠ x1 → now_0 j = now_1 j)) (hE_0_4_1 : ∀ j : Int, latest_0 j = latest_1 j) : (-1) * x13 + (16709 * x1 + (539 * now_0 (x1) + 0)) ≤ 0 := by
  have e_hE_0_2_1 := funext hE_0_2_1; subst e_hE_0_2_1
  have e_hE_0_4_1 := funext hE_0_4_1; subst e_hE_0_4_1
  first
    | omega
    | (have q := hE_0_3_1 x1 (by omega); omega)
set_option maxHeartbeats 4000000 in
theorem vc_Mo_step_at_gn_3_3 (x1 : Int) (x2 : Int) (x3 : Int) (x5 : Int) (x6 : Int) (x9 : Int) (x11 : Int) (x12 : Int) (x13 : Int) (x14 : Int) (now_0 : Int → Int) (now_1 : Int → Int) (all_1 : Int → Int) (latest_1 : Int → Int) (all_0 : Int → Int) (latest_0 : Int → Int) (k1 : 0 ≤ x1 ∧ x1 ≤ 3) (k2 : 0 ≤ x2 ∧ x2 ≤ 48) (k3 : 0 ≤ x3 ∧ x3 ≤ 48) (k5 : 0 ≤ x5 ∧ x5 ≤ 3) (k6 : 16170 ≤ x6 ∧ x6 ≤ 16170) (k9 : 0 ≤ x9 ∧ x9 ≤ 30) (k11 : 0 ≤ x11 ∧ x11 ≤ 29) (k12 : 0 ≤ x12 ∧ x12 ≤ 30) (k13 : 0 ≤ x13 ∧ x13 ≤ 66297) (k14 : 0 ≤ x14 ∧ x14 ≤ 0) (d0 : x9 + (-1) ≤ x11 ∧ x11 ≤ x9 + (-1)) (d1 : x5 + (-4294967296) ≤ x1 ∧ x1 ≤ x5 + 0) (d2 : x1 + (-4294967296) ≤ x5 ∧ x5 ≤ x1 + 0) (f0 : 1 * x13 + ((-16709) * x1 + ((-539) * x12 + 0)) ≤ 0) (f1 : (-1) * x13 + (16709 * x1 + (539 * x12 + 0)) ≤ 0) (h2 : x12 = now_0 (x1)) (h8 : x9 = now_1 (x1)) (f11 : T13n (all_1) (now_1) (latest_1) (x1) (x6) (x2) (x3)) (hE_0_2_1 : ∀ j : Int, all_0 j = all_1 j) (hE_0_3_1 : ∀ j : Int, 0 ≤ j → (j = x1 → now_0 j = x11) ∧ (j ≠ x1 → now_0 j = now_1 j)) (hE_0_4_1 : ∀ j : Int, latest_0 j = latest_1 j) : T73n (all_0) (now_0) (latest_0) (x1) (x13) (x14) (x2) (x3) := by
  have e_hE_0_2_1 := funext hE_0_2_1; subst e_hE_0_2_1
  have e_hE_0_4_1 := funext hE_0_4_1; subst e_hE_0_4_1
  first
    | exact t73_start (t60_shift ‹T13n _ _ _ _ _ _ _› (by omega) (by assumption) (by omega) (by omega)) (by omega) (by omega)
def o_Mo_step_at_gn_3 : or_T := (73, 15, [(0, (2, 0, 0, [165])), (1, (0, 0, 3, [])), (2, (0, 0, 48, [])), (3, (0, 0, 48, [])), (5, (0, 0, 3, [])), (6, (0, 16170, 16170, [])), (8, (2, 0, 0, [168])), (9, (0, 0, 30, [])), (11, (0, 0, 29, [])), (12, (0, 0, 30, [])), (13, (0, 0, 66297, [])), (14, (0, 0, 0, []))], [(23, [13, 5, 12], [0, 1, -16709, -539]), (23, [13, 5, 12], [0, -1, 16709, 539]), (10, [12, 8, 5], []), (9, [8, 4], [3]), (24, [0, 4], []), (24, [1, 5], []), (100, [8, 5, 11], []), (10, [9, 8, 5], []), (20, [4, 5], [30, -30, -1, 2, 3]), (20, [4, 5, 6, 2, 3], [60, 0, 3, 217, 2, 3, 4])], [], [], [(20, [4, 5], [30, 29, 1, 2, 3]), (20, [13, 5, 4, 5], [30, 0, 1, 0, 0, -16709, 0, 0, -539, 2, 3]), (20, [13, 5, 4, 5], [30, 0, -1, 0, 0, 16709, 0, 0, 539, 2, 3]), (20, [4, 5, 13, 14, 2, 3], [60, 0, 3, 218, 2, 3, 4])], [], [(11, 9, -1, -1), (1, 5, -4294967296, 0), (5, 1, -4294967296, 0)])
theorem oo_Mo_step_at_gn_3 {kA : Nat → ClassId} : or_ok PRD kA GG o_Mo_step_at_gn_3 := by
  refine or_mk fun A ta ws vs hD hth hl => ?_
  intro t0 r0 t1 k1 t2 k2 t3 k3 t5 k5 t6 k6 t8 r8 t9 k9 t11 k11 t12 k12 t13 k13 t14 k14 d0 d1 d2 f0 f1 f2 f3 f4 f5 ta1 w1 le1 s1 f8 f10 f11
  replace f0 := shm_128 f0
  replace f1 := shm_129 f1
  replace f2 := shm_107 f2
  replace f3 := shm_137 f3
  replace f4 := shm_5 f4
  replace f5 := shm_5 f5
  have s1 : (∀ b j, w_el ws b j = if b = v_ad (n_v vs 8) ∧ j = (v_iv (n_v vs 5)).toNat then v_iv (n_v vs 11) else w_el w1 b j) ∧ ∀ b k, w_fd ws b k = w_fd w1 b k := s1.2
  replace f8 := shm_107 f8
  replace f10 := shm_1300 f10
  replace f11 := shm_1310 f11
  have q4 : n_v vs 4 = n_v vs 0 := f4.symm
  have q5 : n_v vs 5 = n_v vs 1 := f5.symm
  simp only [q5, q4] at f0 f1 f2 f3
  rw [q5] at s1
  simp only [q5, q4] at f8 f10 f11
  have ar_0_2_1 : w_ar w1 (n_v vs 0) 2 = w_ar ws (n_v vs 0) 2 := congrArg v_ad (s1.2 _ _).symm
  have cr_0_2 := fdq_10 hD hth r0
  have ar_0_3_1 : w_ar w1 (n_v vs 0) 3 = w_ar ws (n_v vs 0) 3 := congrArg v_ad (s1.2 _ _).symm
  have ar_0_4_1 : w_ar w1 (n_v vs 0) 4 = w_ar ws (n_v vs 0) 4 := congrArg v_ad (s1.2 _ _).symm
  have cr_0_4 := fdq_143 hD hth r0
  have ad_8 : v_ad (n_v vs 8) = w_ar ws (n_v vs 0) 3 := congrArg v_ad f3
  simp only [ad_8] at f2
  have h2 : v_iv (n_v vs 12) = w_ei ws (w_ar ws (n_v vs 0) 3) (v_iv (n_v vs 1)) := f2
  simp only [ad_8] at f8
  have h8 : v_iv (n_v vs 9) = w_ei w1 (w_ar ws (n_v vs 0) 3) (v_iv (n_v vs 1)) := f8
  simp only [ar_0_3_1, ar_0_2_1, ar_0_4_1] at f10 f11
  have hE_0_2_1 : ∀ j : Int, w_ei ws (w_ar ws (n_v vs 0) 2) j = w_ei w1 (w_ar ws (n_v vs 0) 2) j := el_kp s1.1 r8 cr_0_2 (by decide)
  have hE_0_3_1 : ∀ j : Int, 0 ≤ j → (j = v_iv (n_v vs 1) → w_ei ws (w_ar ws (n_v vs 0) 3) j = v_iv (n_v vs 11)) ∧ (j ≠ v_iv (n_v vs 1) → w_ei ws (w_ar ws (n_v vs 0) 3) j = w_ei w1 (w_ar ws (n_v vs 0) 3) j) := fun j hj => ⟨fun h => by unfold w_ei; rw [s1.1, if_pos ⟨ad_8.symm, by rw [h]⟩], fun h => by unfold w_ei; rw [s1.1, if_neg (fun e => h (by have := e.2; omega))]⟩
  have hE_0_4_1 : ∀ j : Int, w_ei ws (w_ar ws (n_v vs 0) 4) j = w_ei w1 (w_ar ws (n_v vs 0) 4) j := el_kp s1.1 r8 cr_0_4 (by decide)
  have nf0 : fc_1 PRD (20, [4, 5], [30, 29, 1, 2, 3]) ws (vs) := by
    refine ⟨nf_in hl rfl, sgq_1296 ?_⟩
    · show 1 * w_el ws (w_ar ws (n_v vs 4) 3) (v_iv (n_v vs 5)).toNat + 0 ≤ 29
      simp only [q4, q5]
      exact vc_Mo_step_at_gn_3_0 (v_iv (n_v vs 1)) (v_iv (n_v vs 5)) (v_iv (n_v vs 9)) (v_iv (n_v vs 11)) (v_iv (n_v vs 12)) (w_ei ws (w_ar ws (n_v vs 0) 3)) (w_ei w1 (w_ar ws (n_v vs 0) 3)) (w_ei w1 (w_ar ws (n_v vs 0) 2)) (w_ei w1 (w_ar ws (n_v vs 0) 4)) (w_ei ws (w_ar ws (n_v vs 0) 2)) (w_ei ws (w_ar ws (n_v vs 0) 4)) k1 k5 k9 k11 k12 d0 d1 d2 h2 h8 f10 hE_0_2_1 hE_0_3_1 hE_0_4_1
  have nf1 : fc_1 PRD (20, [13, 5, 4, 5], [30, 0, 1, 0, 0, -16709, 0, 0, -539, 2, 3]) ws (vs) := by
    refine ⟨nf_in hl rfl, sgq_1297 ?_⟩
    · show 1 * v_iv (n_v vs 13) + ((-16709) * v_iv (n_v vs 5) + ((-539) * w_el ws (w_ar ws (n_v vs 4) 3) (v_iv (n_v vs 5)).toNat + 0)) ≤ 0
      simp only [q4, q5]
      exact vc_Mo_step_at_gn_3_1 (v_iv (n_v vs 1)) (v_iv (n_v vs 5)) (v_iv (n_v vs 11)) (v_iv (n_v vs 12)) (v_iv (n_v vs 13)) (w_ei ws (w_ar ws (n_v vs 0) 3)) (w_ei w1 (w_ar ws (n_v vs 0) 3)) (w_ei w1 (w_ar ws (n_v vs 0) 2)) (w_ei w1 (w_ar ws (n_v vs 0) 4)) (w_ei ws (w_ar ws (n_v vs 0) 2)) (w_ei ws (w_ar ws (n_v vs 0) 4)) k1 k5 k11 k12 k13 d1 d2 f0 f1 h2 hE_0_2_1 hE_0_3_1 hE_0_4_1
  have nf2 : fc_1 PRD (20, [13, 5, 4, 5], [30, 0, -1, 0, 0, 16709, 0, 0, 539, 2, 3]) ws (vs) := by
    refine ⟨nf_in hl rfl, sgq_1298 ?_⟩
    · show (-1) * v_iv (n_v vs 13) + (16709 * v_iv (n_v vs 5) + (539 * w_el ws (w_ar ws (n_v vs 4) 3) (v_iv (n_v vs 5)).toNat + 0)) ≤ 0
      simp only [q4, q5]
      exact vc_Mo_step_at_gn_3_2 (v_iv (n_v vs 1)) (v_iv (n_v vs 5)) (v_iv (n_v vs 11)) (v_iv (n_v vs 12)) (v_iv (n_v vs 13)) (w_ei ws (w_ar ws (n_v vs 0) 3)) (w_ei w1 (w_ar ws (n_v vs 0) 3)) (w_ei w1 (w_ar ws (n_v vs 0) 2)) (w_ei w1 (w_ar ws (n_v vs 0) 4)) (w_ei ws (w_ar ws (n_v vs 0) 2)) (w_ei ws (w_ar ws (n_v vs 0) 4)) k1 k5 k11 k12 k13 d1 d2 f0 f1 h2 hE_0_2_1 hE_0_3_1 hE_0_4_1
  have nf3 : fc_1 PRD (20, [4, 5, 13, 14, 2, 3], [60, 0, 3, 218, 2, 3, 4]) ws (vs) := by
    refine ⟨nf_in hl rfl, sgq_1309 ?_⟩
    · show T73n (w_ei ws (w_ar ws (n_v vs 4) 2)) (w_ei ws (w_ar ws (n_v vs 4) 3)) (w_ei ws (w_ar ws (n_v vs 4) 4)) (v_iv (n_v vs 5)) (v_iv (n_v vs 13)) (v_iv (n_v vs 14)) (v_iv (n_v vs 2)) (v_iv (n_v vs 3))
      simp only [q4, q5]
      exact vc_Mo_step_at_gn_3_3 (v_iv (n_v vs 1)) (v_iv (n_v vs 2)) (v_iv (n_v vs 3)) (v_iv (n_v vs 5)) (v_iv (n_v vs 6)) (v_iv (n_v vs 9)) (v_iv (n_v vs 11)) (v_iv (n_v vs 12)) (v_iv (n_v vs 13)) (v_iv (n_v vs 14)) (w_ei ws (w_ar ws (n_v vs 0) 3)) (w_ei w1 (w_ar ws (n_v vs 0) 3)) (w_ei w1 (w_ar ws (n_v vs 0) 2)) (w_ei w1 (w_ar ws (n_v vs 0) 4)) (w_ei ws (w_ar ws (n_v vs 0) 2)) (w_ei ws (w_ar ws (n_v vs 0) 4)) k1 k2 k3 k5 k6 k9 k11 k12 k13 k14 d0 d1 d2 f0 f1 h2 h8 f11 hE_0_2_1 hE_0_3_1 hE_0_4_1
  refine ⟨(fun _ h => (by cases h)), [], trivial, ?_, (fun _ h => (by cases h))⟩
  rw [List.append_nil]
  exact List.forall_mem_cons.mpr ⟨⟨show (20 : Nat) < 100 from by decide, nf0⟩, List.forall_mem_cons.mpr ⟨⟨show (20 : Nat) < 100 from by decide, nf1⟩, List.forall_mem_cons.mpr ⟨⟨show (20 : Nat) < 100 from by decide, nf2⟩, List.forall_mem_cons.mpr ⟨⟨show (20 : Nat) < 100 from by decide, nf3⟩, (fun _ h => (by cases h))⟩⟩⟩⟩
def o_Mo_step_at_gn_4 : or_T := (42, 15, [(0, (2, 0, 0, [165])), (1, (0, 0, 3, [])), (2, (0, 0, 48, [])), (3, (0, 0, 48, [])), (4, (2, 0, 0, [165])), (5, (0, 0, 3, [])), (6, (0, 0, 16169, [])), (7, (0, 16170, 16170, [])), (8, (2, 0, 0, [167])), (9, (0, 0, 0, [])), (10, (0, 0, 66297, [])), (11, (0, 0, 82466, [])), (12, (0, 1, 1, [])), (13, (0, 0, 66297, [])), (14, (0, 0, 82466, []))], [(1, [14, 13, 6], []), (23, [13, 5, 12], [0, 1, -16709, -539]), (23, [13, 5, 12], [0, -1, 16709, 539]), (9, [8, 4], [2]), (1, [11, 10, 6], []), (23, [10, 5, 9], [0, 1, -16709, -539]), (23, [10, 5, 9], [0, -1, 16709, 539]), (7, [6, 7], [2]), (20, [4, 5], [30, -30, -1, 2, 3]), (20, [4, 5, 6, 2, 3], [60, 0, 3, 217, 2, 3, 4]), (24, [0, 4], []), (24, [1, 5], [])], [(14, (0, 0, 66835, []))], [], [], [], [(14, 6, 0, 66297), (14, 13, 0, 16169), (11, 6, 0, 66297), (11, 10, 0, 16169), (1, 5, -4294967296, 0), (5, 1, -4294967296, 0)])
theorem oo_Mo_step_at_gn_4 {kA : Nat → ClassId} : or_ok PRD kA GG o_Mo_step_at_gn_4 := by
  refine or_mk fun A ta ws vs hD hth hl => ?_
  intro t0 r0 t1 k1 t2 k2 t3 k3 t4 r4 t5 k5 t6 k6 t7 k7 t8 r8 t9 k9 t10 k10 t11 k11 t12 k12 t13 k13 t14 k14 d0 d1 d2 d3 d4 d5 f0 f1 f2 f3 f4 f5 f6 f7 f8 f9 f10 f11
  replace f0 := shm_12 f0
  replace f1 := shm_128 f1
  replace f2 := shm_129 f2
  replace f3 := shm_120 f3
  replace f4 := shm_12 f4
  replace f5 := shm_128 f5
  replace f6 := shm_129 f6
  replace f7 := shm_6 f7
  replace f8 := shm_1300 f8
  replace f9 := shm_1310 f9
  replace f10 := shm_5 f10
  replace f11 := shm_5 f11
  have q4 : n_v vs 4 = n_v vs 0 := f10.symm
  have q5 : n_v vs 5 = n_v vs 1 := f11.symm
  simp only [q5, q4] at f1 f2 f3 f5 f6 f8 f9
  have cr_0_2 := fdq_10 hD hth r0
  have cr_0_3 := fdq_142 hD hth r0
  have cr_0_4 := fdq_143 hD hth r0
  have ad_8 : v_ad (n_v vs 8) = w_ar ws (n_v vs 0) 2 := congrArg v_ad f3
  have br_0_3_1_0 : w_ei ws (w_ar ws (n_v vs 0) 3) (v_iv (n_v vs 1)) = w_el ws (w_ar ws (n_v vs 0) 3) (v_iv (n_v vs 1)).toNat := rfl
  have hK_0_3 := elq_80 hD hth cr_0_3
  have hK_0_4 := elq_81 hD hth cr_0_4
  have rf14 : tv_ok ta (0, 0, 66835, []) (n_v vs 14) := tv_in t14 (by first | omega | grind) (by first | omega | grind)
  refine ⟨List.forall_mem_cons.mpr ⟨rf14, (fun _ h => (by cases h))⟩, [], trivial, ?_, (fun _ h => (by cases h))⟩
  rw [List.append_nil]
  exact (fun _ h => (by cases h))
def o_Mo_step_at_gn_5 : or_T := (43, 16, [(5, (0, 0, 3, [])), (6, (0, 0, 16169, [])), (9, (0, 0, 0, [])), (10, (5, 0, 66297, [539])), (11, (0, 0, 82466, [])), (12, (0, 1, 1, [])), (13, (5, 0, 66297, [539])), (14, (0, 0, 66835, [])), (15, (0, -1, 255, [])), (8, (2, 0, 0, [167]))], [(10, [15, 8, 14], []), (1, [14, 13, 6], []), (23, [13, 5, 12], [0, 1, -16709, -539]), (23, [13, 5, 12], [0, -1, 16709, 539]), (1, [11, 10, 6], []), (23, [10, 5, 9], [0, 1, -16709, -539]), (23, [10, 5, 9], [0, -1, 16709, 539])], [], [], [(18, [11, 15], [1])], [], [(14, 6, 0, 66297), (14, 13, 0, 16169), (11, 6, 0, 66297), (11, 10, 0, 16169)])
theorem oo_Mo_step_at_gn_5 {kA : Nat → ClassId} : or_ok PRD kA GG o_Mo_step_at_gn_5 := by
  refine or_mk fun A ta ws vs hD hth hl => ?_
  intro t5 k5 t6 k6 t9 k9 t10 t11 k11 t12 k12 t13 t14 k14 t15 k15 t8 r8 d0 d1 d2 d3 f0 f1 f2 f3 f4 f5 f6
  obtain ⟨k10, q10_⟩ : (0 ≤ v_iv (n_v vs 10) ∧ v_iv (n_v vs 10) ≤ 66297) ∧ ∃ q : Int, v_iv (n_v vs 10) = 539 * q := tv_dvk t10
  obtain ⟨q10, hq10⟩ := q10_
  obtain ⟨k13, q13_⟩ : (0 ≤ v_iv (n_v vs 13) ∧ v_iv (n_v vs 13) ≤ 66297) ∧ ∃ q : Int, v_iv (n_v vs 13) = 539 * q := tv_dvk t13
  obtain ⟨q13, hq13⟩ := q13_
  replace f0 := shm_107 f0
  replace f1 := shm_12 f1
  replace f2 := shm_128 f2
  replace f3 := shm_129 f3
  replace f4 := shm_12 f4
  replace f5 := shm_128 f5
  replace f6 := shm_129 f6
  have nf0 : fc_1 PRD (18, [11, 15], [1]) ws (vs) := by
    refine ⟨nf_in hl rfl, sgq_1302 ?_⟩
    · show pl_ok 1 (v_iv (n_v vs 11)).toNat (v_iv (n_v vs 15))
      have e0 := pl_cp hD hth r8 (g := GG_167) rfl rfl rfl pl_M1 (i := (v_iv (n_v vs 14)).toNat) (j := (v_iv (n_v vs 11)).toNat) (by show (v_iv (n_v vs 14)).toNat < 66836; omega) (by omega)
      rw [← f0] at e0
      exact e0
  refine ⟨(fun _ h => (by cases h)), [], trivial, ?_, (fun _ h => (by cases h))⟩
  rw [List.append_nil]
  exact List.forall_mem_cons.mpr ⟨⟨show (18 : Nat) < 100 from by decide, nf0⟩, (fun _ h => (by cases h))⟩
def o_Mo_step_at_gn_6 : or_T := (43, 16, [(0, (2, 0, 0, [165])), (1, (0, 0, 3, [])), (2, (0, 0, 48, [])), (3, (0, 0, 48, [])), (4, (2, 0, 0, [165])), (5, (0, 0, 3, [])), (6, (0, 0, 16169, [])), (7, (0, 16170, 16170, [])), (8, (2, 0, 0, [167])), (9, (0, 0, 0, [])), (10, (0, 0, 66297, [])), (11, (0, 0, 82466, [])), (12, (0, 1, 1, [])), (13, (0, 0, 66297, [])), (14, (0, 0, 66835, [])), (15, (0, -1, 255, []))], [(10, [15, 8, 14], []), (1, [14, 13, 6], []), (23, [13, 5, 12], [0, 1, -16709, -539]), (23, [13, 5, 12], [0, -1, 16709, 539]), (9, [8, 4], [2]), (1, [11, 10, 6], []), (23, [10, 5, 9], [0, 1, -16709, -539]), (23, [10, 5, 9], [0, -1, 16709, 539]), (7, [6, 7], [2]), (20, [4, 5], [30, -30, -1, 2, 3]), (20, [4, 5, 6, 2, 3], [60, 0, 3, 217, 2, 3, 4]), (24, [0, 4], []), (24, [1, 5], [])], [(11, (0, 0, 66835, []))], [], [], [], [(14, 6, 0, 66297), (14, 13, 0, 16169), (11, 6, 0, 66297), (11, 10, 0, 16169), (1, 5, -4294967296, 0), (5, 1, -4294967296, 0)])
theorem oo_Mo_step_at_gn_6 {kA : Nat → ClassId} : or_ok PRD kA GG o_Mo_step_at_gn_6 := by
  refine or_mk fun A ta ws vs hD hth hl => ?_
  intro t0 r0 t1 k1 t2 k2 t3 k3 t4 r4 t5 k5 t6 k6 t7 k7 t8 r8 t9 k9 t10 k10 t11 k11 t12 k12 t13 k13 t14 k14 t15 k15 d0 d1 d2 d3 d4 d5 f0 f1 f2 f3 f4 f5 f6 f7 f8 f9 f10 f11 f12
  replace f0 := shm_107 f0
  replace f1 := shm_12 f1
  replace f2 := shm_128 f2
  replace f3 := shm_129 f3
  replace f4 := shm_120 f4
  replace f5 := shm_12 f5
  replace f6 := shm_128 f6
  replace f7 := shm_129 f7
  replace f8 := shm_6 f8
  replace f9 := shm_1300 f9
  replace f10 := shm_1310 f10
  replace f11 := shm_5 f11
  replace f12 := shm_5 f12
  have q4 : n_v vs 4 = n_v vs 0 := f11.symm
  have q5 : n_v vs 5 = n_v vs 1 := f12.symm
  simp only [q5, q4] at f2 f3 f4 f6 f7 f9 f10
  have cr_0_2 := fdq_10 hD hth r0
  have cr_0_3 := fdq_142 hD hth r0
  have cr_0_4 := fdq_143 hD hth r0
  have ad_8 : v_ad (n_v vs 8) = w_ar ws (n_v vs 0) 2 := congrArg v_ad f4
  simp only [ad_8] at f0
  have h0 : v_iv (n_v vs 15) = w_ei ws (w_ar ws (n_v vs 0) 2) (v_iv (n_v vs 14)) := f0
  have br_0_2_14_0 : w_ei ws (w_ar ws (n_v vs 0) 2) (v_iv (n_v vs 14)) = w_el ws (w_ar ws (n_v vs 0) 2) (v_iv (n_v vs 14)).toNat := rfl
  have br_0_3_1_0 : w_ei ws (w_ar ws (n_v vs 0) 3) (v_iv (n_v vs 1)) = w_el ws (w_ar ws (n_v vs 0) 3) (v_iv (n_v vs 1)).toNat := rfl
  have hK_0_3 := elq_80 hD hth cr_0_3
  have hK_0_4 := elq_81 hD hth cr_0_4
  have rf11 : tv_ok ta (0, 0, 66835, []) (n_v vs 11) := tv_in t11 (by first | omega | grind) (by first | omega | grind)
  refine ⟨List.forall_mem_cons.mpr ⟨rf11, (fun _ h => (by cases h))⟩, [], trivial, ?_, (fun _ h => (by cases h))⟩
  rw [List.append_nil]
  exact (fun _ h => (by cases h))
set_option maxHeartbeats 4000000 in
theorem vc_Mo_step_at_gn_7_0 (x1 : Int) (x2 : Int) (x3 : Int) (x5 : Int) (x6 : Int) (x9 : Int) (x10 : Int) (x11 : Int) (x12 : Int) (x13 : Int) (x14 : Int) (x15 : Int) (x16 : Int) (now_0 : Int → Int) (all_1 : Int → Int) (now_1 : Int → Int) (latest_1 : Int → Int) (all_0 : Int → Int) (latest_0 : Int → Int) (k1 : 0 ≤ x1 ∧ x1 ≤ 3) (k2 : 0 ≤ x2 ∧ x2 ≤ 48) (k3 : 0 ≤ x3 ∧ x3 ≤ 48) (k5 : 0 ≤ x5 ∧ x5 ≤ 3) (k6 : 0 ≤ x6 ∧ x6 ≤ 16169) (k9 : 0 ≤ x9 ∧ x9 ≤ 0) (k10 : 0 ≤ x10 ∧ x10 ≤ 66297) (k11 : 0 ≤ x11 ∧ x11 ≤ 66835) (k12 : 1 ≤ x12 ∧ x12 ≤ 1) (k13 : 0 ≤ x13 ∧ x13 ≤ 66297) (k14 : 0 ≤ x14 ∧ x14 ≤ 66835) (k15 : (-1) ≤ x15 ∧ x15 ≤ 255) (k16 : 1 ≤ x16 ∧ x16 ≤ 16170) (d0 : x6 + 1 ≤ x16 ∧ x16 ≤ x6 + 1) (d4 : x10 + 0 ≤ x11 ∧ x11 ≤ x10 + 16169) (d5 : x5 + (-4294967296) ≤ x1 ∧ x1 ≤ x5 + 0) (d6 : x1 + (-4294967296) ≤ x5 ∧ x5 ≤ x1 + 0) (f0 : x16 = x6 + 1) (f1 : 1 * x13 + ((-16709) * x1 + ((-539) * x12 + 0)) ≤ 0) (f2 : (-1) * x13 + (16709 * x1 + (539 * x12 + 0)) ≤ 0) (f3 : 1 * x10 + ((-16709) * x1 + ((-539) * x9 + 0)) ≤ 0) (f4 : (-1) * x10 + (16709 * x1 + (539 * x9 + 0)) ≤ 0) (h9 : x15 = all_1 (x14)) (f10 : x14 = x13 + x6) (f14 : x11 = x10 + x6) (f19 : T13n (all_1) (now_1) (latest_1) (x1) (x6) (x2) (x3)) (hE_0_2_1 : ∀ j : Int, 0 ≤ j → (j = x11 → all_0 j = x15) ∧ (j ≠ x11 → all_0 j = all_1 j)) (hE_0_3_1 : ∀ j : Int, now_0 j = now_1 j) (hE_0_4_1 : ∀ j : Int, latest_0 j = latest_1 j) : T13n (all_0) (now_0) (latest_0) (x1) (x16) (x2) (x3) := by
  have e_hE_0_3_1 := funext hE_0_3_1; subst e_hE_0_3_1
  have e_hE_0_4_1 := funext hE_0_4_1; subst e_hE_0_4_1
  first
    | exact t13_step ‹T13n _ _ _ _ _ _ _› (by assumption) (by omega) (by omega) (by omega) (by assumption) (by omega)
def o_Mo_step_at_gn_7 : or_T := (13, 17, [(0, (2, 0, 0, [165])), (1, (0, 0, 3, [])), (2, (0, 0, 48, [])), (3, (0, 0, 48, [])), (5, (0, 0, 3, [])), (6, (0, 0, 16169, [])), (8, (2, 0, 0, [167])), (9, (0, 0, 0, [])), (10, (0, 0, 66297, [])), (11, (0, 0, 66835, [])), (12, (0, 1, 1, [])), (13, (0, 0, 66297, [])), (14, (0, 0, 66835, [])), (15, (0, -1, 255, [])), (16, (0, 1, 16170, []))], [(6, [16, 6], [1]), (23, [13, 5, 12], [0, 1, -16709, -539]), (23, [13, 5, 12], [0, -1, 16709, 539]), (23, [10, 5, 9], [0, 1, -16709, -539]), (23, [10, 5, 9], [0, -1, 16709, 539]), (24, [0, 4], []), (24, [1, 5], []), (100, [8, 11, 15], []), (10, [15, 8, 14], []), (1, [14, 13, 6], []), (9, [8, 4], [2]), (1, [11, 10, 6], []), (20, [4, 5, 6, 2, 3], [60, 0, 3, 217, 2, 3, 4])], [], [], [(20, [4, 5, 16, 2, 3], [60, 0, 3, 217, 2, 3, 4])], [], [(16, 6, 1, 1), (11, 6, 0, 66297), (11, 10, 0, 16169), (1, 5, -4294967296, 0), (5, 1, -4294967296, 0)])
theorem oo_Mo_step_at_gn_7 {kA : Nat → ClassId} : or_ok PRD kA GG o_Mo_step_at_gn_7 := by
  refine or_mk fun A ta ws vs hD hth hl => ?_
  intro t0 r0 t1 k1 t2 k2 t3 k3 t5 k5 t6 k6 t8 r8 t9 k9 t10 k10 t11 k11 t12 k12 t13 k13 t14 k14 t15 k15 t16 k16 d0 d3 d4 d5 d6 f0 f1 f2 f3 f4 f6 f7 ta1 w1 le1 s1 f9 f10 f13 f14 f19
  replace f0 := shm_4 f0
  replace f1 := shm_128 f1
  replace f2 := shm_129 f2
  replace f3 := shm_128 f3
  replace f4 := shm_129 f4
  replace f6 := shm_5 f6
  replace f7 := shm_5 f7
  have s1 : (∀ b j, w_el ws b j = if b = v_ad (n_v vs 8) ∧ j = (v_iv (n_v vs 11)).toNat then v_iv (n_v vs 15) else w_el w1 b j) ∧ ∀ b k, w_fd ws b k = w_fd w1 b k := s1.2
  replace f9 := shm_107 f9
  replace f10 := shm_12 f10
  replace f13 := shm_120 f13
  replace f14 := shm_12 f14
  replace f19 := shm_1310 f19
  have q4 : n_v vs 4 = n_v vs 0 := f6.symm
  have q5 : n_v vs 5 = n_v vs 1 := f7.symm
  simp only [q5, q4] at f1 f2 f3 f4 f13 f19
  have ar_0_2_1 : w_ar w1 (n_v vs 0) 2 = w_ar ws (n_v vs 0) 2 := congrArg v_ad (s1.2 _ _).symm
  have ar_0_3_1 : w_ar w1 (n_v vs 0) 3 = w_ar ws (n_v vs 0) 3 := congrArg v_ad (s1.2 _ _).symm
  have cr_0_3 := fdq_142 hD hth r0
  have ar_0_4_1 : w_ar w1 (n_v vs 0) 4 = w_ar ws (n_v vs 0) 4 := congrArg v_ad (s1.2 _ _).symm
  have cr_0_4 := fdq_143 hD hth r0
  have ad_8 : v_ad (n_v vs 8) = w_ar ws (n_v vs 0) 2 := (congrArg v_ad f13).trans ar_0_2_1
  simp only [ad_8] at f9
  have h9 : v_iv (n_v vs 15) = w_ei w1 (w_ar ws (n_v vs 0) 2) (v_iv (n_v vs 14)) := f9
  simp only [ar_0_3_1, ar_0_2_1, ar_0_4_1] at f19
  have hE_0_2_1 : ∀ j : Int, 0 ≤ j → (j = v_iv (n_v vs 11) → w_ei ws (w_ar ws (n_v vs 0) 2) j = v_iv (n_v vs 15)) ∧ (j ≠ v_iv (n_v vs 11) → w_ei ws (w_ar ws (n_v vs 0) 2) j = w_ei w1 (w_ar ws (n_v vs 0) 2) j) := fun j hj => ⟨fun h => by unfold w_ei; rw [s1.1, if_pos ⟨ad_8.symm, by rw [h]⟩], fun h => by unfold w_ei; rw [s1.1, if_neg (fun e => h (by have := e.2; omega))]⟩
  have hE_0_3_1 : ∀ j : Int, w_ei ws (w_ar ws (n_v vs 0) 3) j = w_ei w1 (w_ar ws (n_v vs 0) 3) j := el_kp s1.1 r8 cr_0_3 (by decide)
  have hE_0_4_1 : ∀ j : Int, w_ei ws (w_ar ws (n_v vs 0) 4) j = w_ei w1 (w_ar ws (n_v vs 0) 4) j := el_kp s1.1 r8 cr_0_4 (by decide)
  have nf0 : fc_1 PRD (20, [4, 5, 16, 2, 3], [60, 0, 3, 217, 2, 3, 4]) ws (vs) := by
    refine ⟨nf_in hl rfl, sgq_1310 ?_⟩
    · show T13n (w_ei ws (w_ar ws (n_v vs 4) 2)) (w_ei ws (w_ar ws (n_v vs 4) 3)) (w_ei ws (w_ar ws (n_v vs 4) 4)) (v_iv (n_v vs 5)) (v_iv (n_v vs 16)) (v_iv (n_v vs 2)) (v_iv (n_v vs 3))
      simp only [q4, q5]
      exact vc_Mo_step_at_gn_7_0 (v_iv (n_v vs 1)) (v_iv (n_v vs 2)) (v_iv (n_v vs 3)) (v_iv (n_v vs 5)) (v_iv (n_v vs 6)) (v_iv (n_v vs 9)) (v_iv (n_v vs 10)) (v_iv (n_v vs 11)) (v_iv (n_v vs 12)) (v_iv (n_v vs 13)) (v_iv (n_v vs 14)) (v_iv (n_v vs 15)) (v_iv (n_v vs 16)) (w_ei ws (w_ar ws (n_v vs 0) 3)) (w_ei w1 (w_ar ws (n_v vs 0) 2)) (w_ei w1 (w_ar ws (n_v vs 0) 3)) (w_ei w1 (w_ar ws (n_v vs 0) 4)) (w_ei ws (w_ar ws (n_v vs 0) 2)) (w_ei ws (w_ar ws (n_v vs 0) 4)) k1 k2 k3 k5 k6 k9 k10 k11 k12 k13 k14 k15 k16 d0 d4 d5 d6 f0 f1 f2 f3 f4 h9 f10 f14 f19 hE_0_2_1 hE_0_3_1 hE_0_4_1
  refine ⟨(fun _ h => (by cases h)), [], trivial, ?_, (fun _ h => (by cases h))⟩
  rw [List.append_nil]
  exact List.forall_mem_cons.mpr ⟨⟨show (20 : Nat) < 100 from by decide, nf0⟩, (fun _ h => (by cases h))⟩
def o_Mo_step_at_gn_8 : or_T := (115, 13, [(0, (2, 0, 0, [165])), (1, (0, 0, 3, [])), (2, (0, 0, 48, [])), (3, (0, 0, 48, [])), (4, (2, 0, 0, [165])), (5, (0, 0, 3, [])), (6, (0, 0, 66297, [])), (7, (0, 539, 539, [])), (8, (0, 539, 539, [])), (9, (2, 0, 0, [168])), (10, (0, 0, 30, [])), (11, (0, 1, 1, [])), (12, (0, 1, 31, []))], [(1, [12, 10, 11], []), (10, [10, 9, 5], []), (9, [9, 4], [3]), (7, [7, 8], [3]), (20, [4, 5], [30, 29, 1, 2, 3]), (20, [6, 5, 4, 5], [30, 0, 1, 0, 0, -16709, 0, 0, -539, 2, 3]), (20, [6, 5, 4, 5], [30, 0, -1, 0, 0, 16709, 0, 0, 539, 2, 3]), (20, [4, 5, 6, 7, 2, 3], [60, 0, 3, 218, 2, 3, 4]), (24, [0, 4], []), (24, [1, 5], [])], [(12, (0, 1, 30, []))], [], [], [], [(12, 10, 1, 1), (1, 5, -4294967296, 0), (5, 1, -4294967296, 0)])
theorem oo_Mo_step_at_gn_8 {kA : Nat → ClassId} : or_ok PRD kA GG o_Mo_step_at_gn_8 := by
  refine or_mk fun A ta ws vs hD hth hl => ?_
  intro t0 r0 t1 k1 t2 k2 t3 k3 t4 r4 t5 k5 t6 k6 t7 k7 t8 k8 t9 r9 t10 k10 t11 k11 t12 k12 d0 d1 d2 f0 f1 f2 f3 f4 f5 f6 f7 f8 f9
  replace f0 := shm_12 f0
  replace f1 := shm_107 f1
  replace f2 := shm_137 f2
  replace f3 := shm_2 f3
  replace f4 := shm_1296 f4
  replace f5 := shm_1297 f5
  replace f6 := shm_1298 f6
  replace f7 := shm_1309 f7
  replace f8 := shm_5 f8
  replace f9 := shm_5 f9
  have q4 : n_v vs 4 = n_v vs 0 := f8.symm
  have q5 : n_v vs 5 = n_v vs 1 := f9.symm
  simp only [q5, q4] at f1 f2 f4 f5 f6 f7
  have cr_0_2 := fdq_10 hD hth r0
  have cr_0_3 := fdq_142 hD hth r0
  have cr_0_4 := fdq_143 hD hth r0
  have ad_9 : v_ad (n_v vs 9) = w_ar ws (n_v vs 0) 3 := congrArg v_ad f2
  simp only [ad_9] at f1
  have h1 : v_iv (n_v vs 10) = w_ei ws (w_ar ws (n_v vs 0) 3) (v_iv (n_v vs 1)) := f1
  have br_0_3_1_0 : w_ei ws (w_ar ws (n_v vs 0) 3) (v_iv (n_v vs 1)) = w_el ws (w_ar ws (n_v vs 0) 3) (v_iv (n_v vs 1)).toNat := rfl
  have hK_0_3 := elq_80 hD hth cr_0_3
  have hK_0_4 := elq_81 hD hth cr_0_4
  have rf12 : tv_ok ta (0, 1, 30, []) (n_v vs 12) := tv_in t12 (by first | omega | grind) (by first | omega | grind)
  refine ⟨List.forall_mem_cons.mpr ⟨rf12, (fun _ h => (by cases h))⟩, [], trivial, ?_, (fun _ h => (by cases h))⟩
  rw [List.append_nil]
  exact (fun _ h => (by cases h))
set_option maxHeartbeats 4000000 in
theorem vc_Mo_step_at_gn_9_0 (x1 : Int) (x2 : Int) (x3 : Int) (x6 : Int) (x7 : Int) (x10 : Int) (x12 : Int) (x14 : Int) (now_1 : Int → Int) (now_2 : Int → Int) (all_2 : Int → Int) (latest_2 : Int → Int) (all_0 : Int → Int) (all_1 : Int → Int) (now_0 : Int → Int) (latest_0 : Int → Int) (latest_1 : Int → Int) (k1 : 0 ≤ x1 ∧ x1 ≤ 3) (k2 : 0 ≤ x2 ∧ x2 ≤ 48) (k3 : 0 ≤ x3 ∧ x3 ≤ 48) (k6 : 0 ≤ x6 ∧ x6 ≤ 66297) (k7 : 539 ≤ x7 ∧ x7 ≤ 539) (k10 : 0 ≤ x10 ∧ x10 ≤ 30) (k12 : 1 ≤ x12 ∧ x12 ≤ 30) (k14 : 0 ≤ x14 ∧ x14 ≤ 30) (d0 : x10 + 1 ≤ x12 ∧ x12 ≤ x10 + 1) (h3 : x14 = now_1 (x1)) (h8 : x10 = now_2 (x1)) (f13 : T73n (all_2) (now_2) (latest_2) (x1) (x6) (x7) (x2) (x3)) (hE_0_2_1 : ∀ j : Int, all_0 j = all_1 j) (hE_0_2_2 : ∀ j : Int, all_1 j = all_2 j) (hE_0_3_1 : ∀ j : Int, now_0 j = now_1 j) (hE_0_3_2 : ∀ j : Int, 0 ≤ j → (j = x1 → now_1 j = x12) ∧ (j ≠ x1 → now_1 j = now_2 j)) (hE_0_4_1 : ∀ j : Int, 0 ≤ j → (j = x1 → latest_0 j = x14) ∧ (j ≠ x1 → latest_0 j = latest_1 j)) (hE_0_4_2 : ∀ j : Int, latest_1 j = latest_2 j) : T130n (all_0) (now_0) (latest_0) (x1) (x2) (x3) := by
  have e_hE_0_2_1 := funext hE_0_2_1; subst e_hE_0_2_1
  have e_hE_0_2_2 := funext hE_0_2_2; subst e_hE_0_2_2
  have e_hE_0_3_1 := funext hE_0_3_1; subst e_hE_0_3_1
  have e_hE_0_4_2 := funext hE_0_4_2; subst e_hE_0_4_2
  first
    | exact t130_of ‹T73n _ _ _ _ _ _ _ _› (by omega) (by assumption) (by omega) (by omega) (by assumption) (by omega) (by omega)
def o_Mo_step_at_gn_9 : or_T := (130, 15, [(0, (2, 0, 0, [165])), (1, (0, 0, 3, [])), (2, (0, 0, 48, [])), (3, (0, 0, 48, [])), (6, (0, 0, 66297, [])), (7, (0, 539, 539, [])), (9, (2, 0, 0, [168])), (10, (0, 0, 30, [])), (12, (0, 1, 30, [])), (13, (2, 0, 0, [169])), (14, (0, 0, 30, []))], [(24, [0, 4], []), (24, [1, 5], []), (100, [13, 5, 14], []), (10, [14, 9, 5], []), (9, [9, 4], [3]), (9, [13, 4], [4]), (100, [9, 5, 12], []), (10, [10, 9, 5], []), (20, [4, 5, 6, 7, 2, 3], [60, 0, 3, 218, 2, 3, 4])], [], [], [(20, [4, 5, 2, 3], [60, 0, 3, 219, 2, 3, 4])], [], [(12, 10, 1, 1), (1, 5, -4294967296, 0), (5, 1, -4294967296, 0)])
theorem oo_Mo_step_at_gn_9 {kA : Nat → ClassId} : or_ok PRD kA GG o_Mo_step_at_gn_9 := by
  refine or_mk fun A ta ws vs hD hth hl => ?_
  intro t0 r0 t1 k1 t2 k2 t3 k3 t6 k6 t7 k7 t9 r9 t10 k10 t12 k12 t13 r13 t14 k14 d0 d1 d2 f0 f1 ta1 w1 le1 s1 f3 f4 f5 ta2 w2 le2 s2 f8 f13
  replace f0 := shm_5 f0
  replace f1 := shm_5 f1
  have s1 : (∀ b j, w_el ws b j = if b = v_ad (n_v vs 13) ∧ j = (v_iv (n_v vs 5)).toNat then v_iv (n_v vs 14) else w_el w1 b j) ∧ ∀ b k, w_fd ws b k = w_fd w1 b k := s1.2
  replace f3 := shm_107 f3
  replace f4 := shm_137 f4
  replace f5 := shm_108 f5
  have s2 : (∀ b j, w_el w1 b j = if b = v_ad (n_v vs 9) ∧ j = (v_iv (n_v vs 5)).toNat then v_iv (n_v vs 12) else w_el w2 b j) ∧ ∀ b k, w_fd w1 b k = w_fd w2 b k := s2.2
  replace f8 := shm_107 f8
  replace f13 := shm_1309 f13
  have q4 : n_v vs 4 = n_v vs 0 := f0.symm
  have q5 : n_v vs 5 = n_v vs 1 := f1.symm
  rw [q5] at s1
  simp only [q5, q4] at f3 f4 f5
  rw [q5] at s2
  simp only [q5, q4] at f8 f13
  have ar_0_2_1 : w_ar w1 (n_v vs 0) 2 = w_ar ws (n_v vs 0) 2 := congrArg v_ad (s1.2 _ _).symm
  have ar_0_2_2 : w_ar w2 (n_v vs 0) 2 = w_ar ws (n_v vs 0) 2 := by rw [← ar_0_2_1]; show v_ad (w_fd w2 _ _) = v_ad (w_fd w1 _ _); rw [s2.2]
  have cr_0_2 := fdq_10 hD hth r0
  have ar_0_3_1 : w_ar w1 (n_v vs 0) 3 = w_ar ws (n_v vs 0) 3 := congrArg v_ad (s1.2 _ _).symm
  have ar_0_3_2 : w_ar w2 (n_v vs 0) 3 = w_ar ws (n_v vs 0) 3 := by rw [← ar_0_3_1]; show v_ad (w_fd w2 _ _) = v_ad (w_fd w1 _ _); rw [s2.2]
  have cr_0_3 := fdq_142 hD hth r0
  have ar_0_4_1 : w_ar w1 (n_v vs 0) 4 = w_ar ws (n_v vs 0) 4 := congrArg v_ad (s1.2 _ _).symm
  have ar_0_4_2 : w_ar w2 (n_v vs 0) 4 = w_ar ws (n_v vs 0) 4 := by rw [← ar_0_4_1]; show v_ad (w_fd w2 _ _) = v_ad (w_fd w1 _ _); rw [s2.2]
  have cr_0_4 := fdq_143 hD hth r0
  have ad_9 : v_ad (n_v vs 9) = w_ar ws (n_v vs 0) 3 := (congrArg v_ad f4).trans ar_0_3_1
  have ad_13 : v_ad (n_v vs 13) = w_ar ws (n_v vs 0) 4 := (congrArg v_ad f5).trans ar_0_4_1
  simp only [ad_9] at f3
  have h3 : v_iv (n_v vs 14) = w_ei w1 (w_ar ws (n_v vs 0) 3) (v_iv (n_v vs 1)) := f3
  simp only [ad_9] at f8
  have h8 : v_iv (n_v vs 10) = w_ei w2 (w_ar ws (n_v vs 0) 3) (v_iv (n_v vs 1)) := f8
  simp only [ar_0_3_2, ar_0_2_2, ar_0_4_2] at f13
  have hE_0_2_1 : ∀ j : Int, w_ei ws (w_ar ws (n_v vs 0) 2) j = w_ei w1 (w_ar ws (n_v vs 0) 2) j := el_kp s1.1 r13 cr_0_2 (by decide)
  have hE_0_2_2 : ∀ j : Int, w_ei w1 (w_ar ws (n_v vs 0) 2) j = w_ei w2 (w_ar ws (n_v vs 0) 2) j := el_kp s2.1 r9 cr_0_2 (by decide)
  have hE_0_3_1 : ∀ j : Int, w_ei ws (w_ar ws (n_v vs 0) 3) j = w_ei w1 (w_ar ws (n_v vs 0) 3) j := el_kp s1.1 r13 cr_0_3 (by decide)
  have hE_0_3_2 : ∀ j : Int, 0 ≤ j → (j = v_iv (n_v vs 1) → w_ei w1 (w_ar ws (n_v vs 0) 3) j = v_iv (n_v vs 12)) ∧ (j ≠ v_iv (n_v vs 1) → w_ei w1 (w_ar ws (n_v vs 0) 3) j = w_ei w2 (w_ar ws (n_v vs 0) 3) j) := fun j hj => ⟨fun h => by unfold w_ei; rw [s2.1, if_pos ⟨ad_9.symm, by rw [h]⟩], fun h => by unfold w_ei; rw [s2.1, if_neg (fun e => h (by have := e.2; omega))]⟩
  have hE_0_4_1 : ∀ j : Int, 0 ≤ j → (j = v_iv (n_v vs 1) → w_ei ws (w_ar ws (n_v vs 0) 4) j = v_iv (n_v vs 14)) ∧ (j ≠ v_iv (n_v vs 1) → w_ei ws (w_ar ws (n_v vs 0) 4) j = w_ei w1 (w_ar ws (n_v vs 0) 4) j) := fun j hj => ⟨fun h => by unfold w_ei; rw [s1.1, if_pos ⟨ad_13.symm, by rw [h]⟩], fun h => by unfold w_ei; rw [s1.1, if_neg (fun e => h (by have := e.2; omega))]⟩
  have hE_0_4_2 : ∀ j : Int, w_ei w1 (w_ar ws (n_v vs 0) 4) j = w_ei w2 (w_ar ws (n_v vs 0) 4) j := el_kp s2.1 r9 cr_0_4 (by decide)
  have nf0 : fc_1 PRD (20, [4, 5, 2, 3], [60, 0, 3, 219, 2, 3, 4]) ws (vs) := by
    refine ⟨nf_in hl rfl, sgq_1311 ?_⟩
    · show T130n (w_ei ws (w_ar ws (n_v vs 4) 2)) (w_ei ws (w_ar ws (n_v vs 4) 3)) (w_ei ws (w_ar ws (n_v vs 4) 4)) (v_iv (n_v vs 5)) (v_iv (n_v vs 2)) (v_iv (n_v vs 3))
      simp only [q4, q5]
      exact vc_Mo_step_at_gn_9_0 (v_iv (n_v vs 1)) (v_iv (n_v vs 2)) (v_iv (n_v vs 3)) (v_iv (n_v vs 6)) (v_iv (n_v vs 7)) (v_iv (n_v vs 10)) (v_iv (n_v vs 12)) (v_iv (n_v vs 14)) (w_ei w1 (w_ar ws (n_v vs 0) 3)) (w_ei w2 (w_ar ws (n_v vs 0) 3)) (w_ei w2 (w_ar ws (n_v vs 0) 2)) (w_ei w2 (w_ar ws (n_v vs 0) 4)) (w_ei ws (w_ar ws (n_v vs 0) 2)) (w_ei w1 (w_ar ws (n_v vs 0) 2)) (w_ei ws (w_ar ws (n_v vs 0) 3)) (w_ei ws (w_ar ws (n_v vs 0) 4)) (w_ei w1 (w_ar ws (n_v vs 0) 4)) k1 k2 k3 k6 k7 k10 k12 k14 d0 h3 h8 f13 hE_0_2_1 hE_0_2_2 hE_0_3_1 hE_0_3_2 hE_0_4_1 hE_0_4_2
  refine ⟨(fun _ h => (by cases h)), [], trivial, ?_, (fun _ h => (by cases h))⟩
  rw [List.append_nil]
  exact List.forall_mem_cons.mpr ⟨⟨show (20 : Nat) < 100 from by decide, nf0⟩, (fun _ h => (by cases h))⟩
set_option maxHeartbeats 4000000 in
theorem vc_Mo_step_at_gn_10_0 (x1 : Int) (x2 : Int) (x3 : Int) (all_0 : Int → Int) (now_0 : Int → Int) (latest_0 : Int → Int) (r_0 : Int) (k1 : 0 ≤ x1 ∧ x1 ≤ 3) (k2 : 0 ≤ x2 ∧ x2 ≤ 48) (k3 : 0 ≤ x3 ∧ x3 ≤ 48) (f0 : T130n (all_0) (now_0) (latest_0) (x1) (x2) (x3)) (f3 : r_0 = ((16709 * x1) + (539 * now_0 (x1)))) : RWS (r_0) (all_0) (now_0) (latest_0) := by
  first
    | exact (t130_rws ‹T130n _ _ _ _ _ _› (by omega)).1
    | exact (t130_rws ‹T130e _ _ _ _ _ _› (by omega)).1
    | exact (t130_rws ‹T130d _ _ _ _ _ _› (by omega)).1
    | exact (t130_rws ‹T130v _ _ _ _ _ _› (by omega)).1
    | exact (t130_rws ‹T130x _ _ _ _› (by omega)).1
set_option maxHeartbeats 4000000 in
theorem vc_Mo_step_at_gn_10_1 (x1 : Int) (now_0 : Int → Int) (r_0 : Int) (k1 : 0 ≤ x1 ∧ x1 ≤ 3) (f3 : r_0 = ((16709 * x1) + (539 * now_0 (x1)))) : r_0 = ((16709 * x1) + (539 * now_0 (x1))) := by
  first | omega
set_option maxHeartbeats 4000000 in
theorem vc_Mo_step_at_gn_10_2 (x1 : Int) (x2 : Int) (x3 : Int) (all_0 : Int → Int) (now_0 : Int → Int) (latest_0 : Int → Int) (r_0 : Int) (k1 : 0 ≤ x1 ∧ x1 ≤ 3) (k2 : 0 ≤ x2 ∧ x2 ≤ 48) (k3 : 0 ≤ x3 ∧ x3 ≤ 48) (f0 : T130n (all_0) (now_0) (latest_0) (x1) (x2) (x3)) (f3 : r_0 = ((16709 * x1) + (539 * now_0 (x1)))) : CPn (r_0) (all_0) (x2) (x3) := by
  exact (t130_rws ‹T130n _ _ _ _ _ _› (by omega)).2
def o_Mo_step_at_gn_10 : or_T := (138, 15, [(1, (0, 0, 3, [])), (2, (0, 0, 48, [])), (3, (0, 0, 48, []))], [(20, [4, 5, 2, 3], [60, 0, 3, 219, 2, 3, 4]), (24, [0, 4], []), (24, [1, 5], []), (20, [4, 5], [50, 1, 1, 5, 3, 1, 3, 2, 0, 5, 4, 6, 6, 2, 0, 16709, 1, 1, 6, 2, 0, 539, 3, 0, 3, 1, 1])], [], [], [(20, [0], [60, 1, 3, 199, 5, 2, 3, 4]), (20, [0, 1], [50, 1, 1, 5, 3, 1, 3, 2, 0, 5, 4, 6, 6, 2, 0, 16709, 1, 1, 6, 2, 0, 539, 3, 0, 3, 1, 1]), (20, [0, 2, 3], [60, 1, 1, 216, 5, 2])], [], [])
theorem oo_Mo_step_at_gn_10 {kA : Nat → ClassId} : or_ok PRD kA GG o_Mo_step_at_gn_10 := by
  refine or_mk fun A ta ws vs hD hth hl => ?_
  intro t1 k1 t2 k2 t3 k3 f0 f1 f2 f3
  replace f0 := shm_1311 f0
  replace f1 := shm_5 f1
  replace f2 := shm_5 f2
  replace f3 := shm_1037 f3
  have q4 : n_v vs 4 = n_v vs 0 := f1.symm
  have q5 : n_v vs 5 = n_v vs 1 := f2.symm
  simp only [q4, q5] at f0 f3
  have nf0 : fc_1 PRD (20, [0], [60, 1, 3, 199, 5, 2, 3, 4]) ws (vs) := ⟨nf_in hl rfl, sgq_980 (vc_Mo_step_at_gn_10_0 (v_iv (n_v vs 1)) (v_iv (n_v vs 2)) (v_iv (n_v vs 3)) (w_ei ws (w_ar ws (n_v vs 0) 2)) (w_ei ws (w_ar ws (n_v vs 0) 3)) (w_ei ws (w_ar ws (n_v vs 0) 4)) (w_fi ws (n_v vs 0) 5) k1 k2 k3 f0 f3)⟩
  have nf1 : fc_1 PRD (20, [0, 1], [50, 1, 1, 5, 3, 1, 3, 2, 0, 5, 4, 6, 6, 2, 0, 16709, 1, 1, 6, 2, 0, 539, 3, 0, 3, 1, 1]) ws (vs) := ⟨nf_in hl rfl, sgq_1037 (vc_Mo_step_at_gn_10_1 (v_iv (n_v vs 1)) (w_ei ws (w_ar ws (n_v vs 0) 3)) (w_fi ws (n_v vs 0) 5) k1 f3)⟩
  have nf2 : fc_1 PRD (20, [0, 2, 3], [60, 1, 1, 216, 5, 2]) ws (vs) := ⟨nf_in hl rfl, sgq_1308 (vc_Mo_step_at_gn_10_2 (v_iv (n_v vs 1)) (v_iv (n_v vs 2)) (v_iv (n_v vs 3)) (w_ei ws (w_ar ws (n_v vs 0) 2)) (w_ei ws (w_ar ws (n_v vs 0) 3)) (w_ei ws (w_ar ws (n_v vs 0) 4)) (w_fi ws (n_v vs 0) 5) k1 k2 k3 f0 f3)⟩
  refine ⟨(fun _ h => (by cases h)), [], trivial, ?_, (fun _ h => (by cases h))⟩
  rw [List.append_nil]
  exact List.forall_mem_cons.mpr ⟨⟨show (20 : Nat) < 100 from by decide, nf0⟩, List.forall_mem_cons.mpr ⟨⟨show (20 : Nat) < 100 from by decide, nf1⟩, List.forall_mem_cons.mpr ⟨⟨show (20 : Nat) < 100 from by decide, nf2⟩, (fun _ h => (by cases h))⟩⟩⟩
def o_Mo_step_at_gn_11 : or_T := (99, 15, [(6, (5, 0, 66297, [539])), (7, (0, 0, 538, [])), (10, (0, 539, 539, [])), (11, (5, 539, 66836, [539])), (12, (0, 539, 67374, [])), (13, (0, 0, 66835, [])), (14, (0, -1, 255, [])), (9, (2, 0, 0, [167]))], [(10, [14, 9, 13], []), (1, [13, 6, 7], []), (1, [12, 11, 7], []), (1, [11, 6, 10], [])], [], [], [(18, [12, 14], [1])], [], [(13, 7, 0, 66297), (13, 6, 0, 538), (12, 7, 539, 66836), (12, 11, 0, 538), (12, 6, 539, 1077), (11, 6, 539, 539)])
theorem oo_Mo_step_at_gn_11 {kA : Nat → ClassId} : or_ok PRD kA GG o_Mo_step_at_gn_11 := by
  refine or_mk fun A ta ws vs hD hth hl => ?_
  intro t6 t7 k7 t10 k10 t11 t12 k12 t13 k13 t14 k14 t9 r9 d0 d1 d2 d3 d4 d5 f0 f1 f2 f3
  obtain ⟨k6, q6_⟩ : (0 ≤ v_iv (n_v vs 6) ∧ v_iv (n_v vs 6) ≤ 66297) ∧ ∃ q : Int, v_iv (n_v vs 6) = 539 * q := tv_dvk t6
  obtain ⟨q6, hq6⟩ := q6_
  obtain ⟨k11, q11_⟩ : (539 ≤ v_iv (n_v vs 11) ∧ v_iv (n_v vs 11) ≤ 66836) ∧ ∃ q : Int, v_iv (n_v vs 11) = 539 * q := tv_dvk t11
  obtain ⟨q11, hq11⟩ := q11_
  replace f0 := shm_107 f0
  replace f1 := shm_12 f1
  replace f2 := shm_12 f2
  replace f3 := shm_12 f3
  have nf0 : fc_1 PRD (18, [12, 14], [1]) ws (vs) := by
    refine ⟨nf_in hl rfl, sgq_1302 ?_⟩
    · show pl_ok 1 (v_iv (n_v vs 12)).toNat (v_iv (n_v vs 14))
      have e0 := pl_cp hD hth r9 (g := GG_167) rfl rfl rfl pl_M1 (i := (v_iv (n_v vs 13)).toNat) (j := (v_iv (n_v vs 12)).toNat) (by show (v_iv (n_v vs 13)).toNat < 66836; omega) (by omega)
      rw [← f0] at e0
      exact e0
  refine ⟨(fun _ h => (by cases h)), [], trivial, ?_, (fun _ h => (by cases h))⟩
  rw [List.append_nil]
  exact List.forall_mem_cons.mpr ⟨⟨show (18 : Nat) < 100 from by decide, nf0⟩, (fun _ h => (by cases h))⟩
def o_Mo_step_at_gn_12 : or_T := (99, 15, [(0, (2, 0, 0, [165])), (1, (0, 0, 3, [])), (2, (0, 0, 48, [])), (3, (0, 0, 48, [])), (4, (2, 0, 0, [165])), (5, (0, 0, 3, [])), (6, (0, 0, 66297, [])), (7, (0, 0, 538, [])), (8, (0, 539, 539, [])), (9, (2, 0, 0, [167])), (10, (0, 539, 539, [])), (11, (0, 539, 66836, [])), (12, (0, 539, 67374, [])), (13, (0, 0, 66835, [])), (14, (0, -1, 255, []))], [(10, [14, 9, 13], []), (1, [13, 6, 7], []), (9, [9, 4], [2]), (1, [12, 11, 7], []), (1, [11, 6, 10], []), (7, [7, 8], [2]), (20, [4, 5], [30, 29, 1, 2, 3]), (20, [6, 5, 4, 5], [30, 0, 1, 0, 0, -16709, 0, 0, -539, 2, 3]), (20, [6, 5, 4, 5], [30, 0, -1, 0, 0, 16709, 0, 0, 539, 2, 3]), (20, [4, 5, 6, 7, 2, 3], [60, 0, 3, 218, 2, 3, 4]), (24, [0, 4], []), (24, [1, 5], [])], [(12, (0, 539, 66835, []))], [], [], [], [(13, 7, 0, 66297), (13, 6, 0, 538), (12, 7, 539, 66836), (12, 11, 0, 538), (12, 6, 539, 1077), (11, 6, 539, 539), (1, 5, -4294967296, 0), (5, 1, -4294967296, 0)])
theorem oo_Mo_step_at_gn_12 {kA : Nat → ClassId} : or_ok PRD kA GG o_Mo_step_at_gn_12 := by
  refine or_mk fun A ta ws vs hD hth hl => ?_
  intro t0 r0 t1 k1 t2 k2 t3 k3 t4 r4 t5 k5 t6 k6 t7 k7 t8 k8 t9 r9 t10 k10 t11 k11 t12 k12 t13 k13 t14 k14 d0 d1 d2 d3 d4 d5 d6 d7 f0 f1 f2 f3 f4 f5 f6 f7 f8 f9 f10 f11
  replace f0 := shm_107 f0
  replace f1 := shm_12 f1
  replace f2 := shm_120 f2
  replace f3 := shm_12 f3
  replace f4 := shm_12 f4
  replace f5 := shm_6 f5
  replace f6 := shm_1296 f6
  replace f7 := shm_1297 f7
  replace f8 := shm_1298 f8
  replace f9 := shm_1309 f9
  replace f10 := shm_5 f10
  replace f11 := shm_5 f11
  have q4 : n_v vs 4 = n_v vs 0 := f10.symm
  have q5 : n_v vs 5 = n_v vs 1 := f11.symm
  simp only [q4, q5] at f2 f6 f7 f8 f9
  have cr_0_2 := fdq_10 hD hth r0
  have cr_0_3 := fdq_142 hD hth r0
  have cr_0_4 := fdq_143 hD hth r0
  have ad_9 : v_ad (n_v vs 9) = w_ar ws (n_v vs 0) 2 := congrArg v_ad f2
  simp only [ad_9] at f0
  have h0 : v_iv (n_v vs 14) = w_ei ws (w_ar ws (n_v vs 0) 2) (v_iv (n_v vs 13)) := f0
  have br_0_2_13_0 : w_ei ws (w_ar ws (n_v vs 0) 2) (v_iv (n_v vs 13)) = w_el ws (w_ar ws (n_v vs 0) 2) (v_iv (n_v vs 13)).toNat := rfl
  have br_0_3_1_0 : w_ei ws (w_ar ws (n_v vs 0) 3) (v_iv (n_v vs 1)) = w_el ws (w_ar ws (n_v vs 0) 3) (v_iv (n_v vs 1)).toNat := rfl
  have hK_0_3 := elq_80 hD hth cr_0_3
  have hK_0_4 := elq_81 hD hth cr_0_4
  have rf12 : tv_ok ta (0, 539, 66835, []) (n_v vs 12) := tv_in t12 (by first | omega | grind) (by first | omega | grind)
  refine ⟨List.forall_mem_cons.mpr ⟨rf12, (fun _ h => (by cases h))⟩, [], trivial, ?_, (fun _ h => (by cases h))⟩
  rw [List.append_nil]
  exact (fun _ h => (by cases h))
set_option maxHeartbeats 4000000 in
theorem vc_Mo_step_at_gn_13_0 (x1 : Int) (x2 : Int) (x3 : Int) (x5 : Int) (x6 : Int) (x7 : Int) (x11 : Int) (x12 : Int) (x13 : Int) (x14 : Int) (x15 : Int) (now_0 : Int → Int) (all_1 : Int → Int) (now_1 : Int → Int) (latest_1 : Int → Int) (all_0 : Int → Int) (latest_0 : Int → Int) (k1 : 0 ≤ x1 ∧ x1 ≤ 3) (k2 : 0 ≤ x2 ∧ x2 ≤ 48) (k3 : 0 ≤ x3 ∧ x3 ≤ 48) (k5 : 0 ≤ x5 ∧ x5 ≤ 3) (k6 : 0 ≤ x6 ∧ x6 ≤ 66297) (k7 : 0 ≤ x7 ∧ x7 ≤ 538) (k11 : 539 ≤ x11 ∧ x11 ≤ 66836) (k12 : 539 ≤ x12 ∧ x12 ≤ 66835) (k13 : 0 ≤ x13 ∧ x13 ≤ 66835) (k14 : (-1) ≤ x14 ∧ x14 ≤ 255) (k15 : 1 ≤ x15 ∧ x15 ≤ 539) (d0 : x7 + 1 ≤ x15 ∧ x15 ≤ x7 + 1) (d6 : x6 + 539 ≤ x11 ∧ x11 ≤ x6 + 539) (d7 : x5 + (-4294967296) ≤ x1 ∧ x1 ≤ x5 + 0) (d8 : x1 + (-4294967296) ≤ x5 ∧ x5 ≤ x1 + 0) (f0 : x15 = x7 + 1) (f2 : 1 * x6 + ((-16709) * x1 + ((-539) * now_0 (x1) + 0)) ≤ 0) (f3 : (-1) * x6 + (16709 * x1 + (539 * now_0 (x1) + 0)) ≤ 0) (h7 : x14 = all_1 (x13)) (f8 : x13 = x6 + x7) (f10 : x12 = x11 + x7) (f16 : T73n (all_1) (now_1) (latest_1) (x1) (x6) (x7) (x2) (x3)) (hE_0_2_1 : ∀ j : Int, 0 ≤ j → (j = x12 → all_0 j = x14) ∧ (j ≠ x12 → all_0 j = all_1 j)) (hE_0_3_1 : ∀ j : Int, now_0 j = now_1 j) (hE_0_4_1 : ∀ j : Int, latest_0 j = latest_1 j) : T73n (all_0) (now_0) (latest_0) (x1) (x6) (x15) (x2) (x3) := by
  have e_hE_0_3_1 := funext hE_0_3_1; subst e_hE_0_3_1
  have e_hE_0_4_1 := funext hE_0_4_1; subst e_hE_0_4_1
  first
    | exact t73_step ‹T73n _ _ _ _ _ _ _ _› (by assumption) (by omega) (by omega) (by omega) (by assumption) (by omega)
def o_Mo_step_at_gn_13 : or_T := (73, 16, [(0, (2, 0, 0, [165])), (1, (0, 0, 3, [])), (2, (0, 0, 48, [])), (3, (0, 0, 48, [])), (5, (0, 0, 3, [])), (6, (0, 0, 66297, [])), (7, (0, 0, 538, [])), (9, (2, 0, 0, [167])), (11, (0, 539, 66836, [])), (12, (0, 539, 66835, [])), (13, (0, 0, 66835, [])), (14, (0, -1, 255, [])), (15, (0, 1, 539, []))], [(6, [15, 7], [1]), (20, [6, 5, 4, 5], [30, 0, 1, 0, 0, -16709, 0, 0, -539, 2, 3]), (20, [6, 5, 4, 5], [30, 0, -1, 0, 0, 16709, 0, 0, 539, 2, 3]), (24, [0, 4], []), (24, [1, 5], []), (100, [9, 12, 14], []), (10, [14, 9, 13], []), (1, [13, 6, 7], []), (9, [9, 4], [2]), (1, [12, 11, 7], []), (20, [4, 5, 6, 7, 2, 3], [60, 0, 3, 218, 2, 3, 4])], [], [], [(20, [4, 5, 6, 15, 2, 3], [60, 0, 3, 218, 2, 3, 4])], [], [(15, 7, 1, 1), (12, 7, 539, 66836), (12, 11, 0, 538), (12, 6, 539, 1077), (11, 6, 539, 539), (1, 5, -4294967296, 0), (5, 1, -4294967296, 0)])
theorem oo_Mo_step_at_gn_13 {kA : Nat → ClassId} : or_ok PRD kA GG o_Mo_step_at_gn_13 := by
  refine or_mk fun A ta ws vs hD hth hl => ?_
  intro t0 r0 t1 k1 t2 k2 t3 k3 t5 k5 t6 k6 t7 k7 t9 r9 t11 k11 t12 k12 t13 k13 t14 k14 t15 k15 d0 d3 d4 d5 d6 d7 d8 f0 f2 f3 f4 f5 ta1 w1 le1 s1 f7 f8 f9 f10 f16
  replace f0 := shm_4 f0
  replace f2 := shm_1297 f2
  replace f3 := shm_1298 f3
  replace f4 := shm_5 f4
  replace f5 := shm_5 f5
  have s1 : (∀ b j, w_el ws b j = if b = v_ad (n_v vs 9) ∧ j = (v_iv (n_v vs 12)).toNat then v_iv (n_v vs 14) else w_el w1 b j) ∧ ∀ b k, w_fd ws b k = w_fd w1 b k := s1.2
  replace f7 := shm_107 f7
  replace f8 := shm_12 f8
  replace f9 := shm_120 f9
  replace f10 := shm_12 f10
  replace f16 := shm_1309 f16
  have q4 : n_v vs 4 = n_v vs 0 := f4.symm
  have q5 : n_v vs 5 = n_v vs 1 := f5.symm
  simp only [q4, q5] at f2 f3 f9 f16
  have ar_0_2_1 : w_ar w1 (n_v vs 0) 2 = w_ar ws (n_v vs 0) 2 := congrArg v_ad (s1.2 _ _).symm
  have ar_0_3_1 : w_ar w1 (n_v vs 0) 3 = w_ar ws (n_v vs 0) 3 := congrArg v_ad (s1.2 _ _).symm
  have cr_0_3 := fdq_142 hD hth r0
  have ar_0_4_1 : w_ar w1 (n_v vs 0) 4 = w_ar ws (n_v vs 0) 4 := congrArg v_ad (s1.2 _ _).symm
  have cr_0_4 := fdq_143 hD hth r0
  have ad_9 : v_ad (n_v vs 9) = w_ar ws (n_v vs 0) 2 := (congrArg v_ad f9).trans ar_0_2_1
  simp only [ad_9] at f7
  have h7 : v_iv (n_v vs 14) = w_ei w1 (w_ar ws (n_v vs 0) 2) (v_iv (n_v vs 13)) := f7
  simp only [ar_0_3_1, ar_0_2_1, ar_0_4_1] at f16
  have hE_0_2_1 : ∀ j : Int, 0 ≤ j → (j = v_iv (n_v vs 12) → w_ei ws (w_ar ws (n_v vs 0) 2) j = v_iv (n_v vs 14)) ∧ (j ≠ v_iv (n_v vs 12) → w_ei ws (w_ar ws (n_v vs 0) 2) j = w_ei w1 (w_ar ws (n_v vs 0) 2) j) := fun j hj => ⟨fun h => by unfold w_ei; rw [s1.1, if_pos ⟨ad_9.symm, by rw [h]⟩], fun h => by unfold w_ei; rw [s1.1, if_neg (fun e => h (by have := e.2; omega))]⟩
  have hE_0_3_1 : ∀ j : Int, w_ei ws (w_ar ws (n_v vs 0) 3) j = w_ei w1 (w_ar ws (n_v vs 0) 3) j := el_kp s1.1 r9 cr_0_3 (by decide)
  have hE_0_4_1 : ∀ j : Int, w_ei ws (w_ar ws (n_v vs 0) 4) j = w_ei w1 (w_ar ws (n_v vs 0) 4) j := el_kp s1.1 r9 cr_0_4 (by decide)
  have nf0 : fc_1 PRD (20, [4, 5, 6, 15, 2, 3], [60, 0, 3, 218, 2, 3, 4]) ws (vs) := by
    refine ⟨nf_in hl rfl, sgq_1309 ?_⟩
    · show T73n (w_ei ws (w_ar ws (n_v vs 4) 2)) (w_ei ws (w_ar ws (n_v vs 4) 3)) (w_ei ws (w_ar ws (n_v vs 4) 4)) (v_iv (n_v vs 5)) (v_iv (n_v vs 6)) (v_iv (n_v vs 15)) (v_iv (n_v vs 2)) (v_iv (n_v vs 3))
      simp only [q4, q5]
      exact vc_Mo_step_at_gn_13_0 (v_iv (n_v vs 1)) (v_iv (n_v vs 2)) (v_iv (n_v vs 3)) (v_iv (n_v vs 5)) (v_iv (n_v vs 6)) (v_iv (n_v vs 7)) (v_iv (n_v vs 11)) (v_iv (n_v vs 12)) (v_iv (n_v vs 13)) (v_iv (n_v vs 14)) (v_iv (n_v vs 15)) (w_ei ws (w_ar ws (n_v vs 0) 3)) (w_ei w1 (w_ar ws (n_v vs 0) 2)) (w_ei w1 (w_ar ws (n_v vs 0) 3)) (w_ei w1 (w_ar ws (n_v vs 0) 4)) (w_ei ws (w_ar ws (n_v vs 0) 2)) (w_ei ws (w_ar ws (n_v vs 0) 4)) k1 k2 k3 k5 k6 k7 k11 k12 k13 k14 k15 d0 d6 d7 d8 f0 f2 f3 h7 f8 f10 f16 hE_0_2_1 hE_0_3_1 hE_0_4_1
  refine ⟨(fun _ h => (by cases h)), [], trivial, ?_, (fun _ h => (by cases h))⟩
  rw [List.append_nil]
  exact List.forall_mem_cons.mpr ⟨⟨show (20 : Nat) < 100 from by decide, nf0⟩, (fun _ h => (by cases h))⟩
def n_Mo_step_at_gn_an : List an_T := [(13, [(0, (2, 0, 0, [165])), (1, (0, 0, 3, [])), (2, (0, 0, 16170, []))], [], (0, 0), [(0, 0, 99987), (1, 6, 16170), (0, 0, 100000)], [(1, 5, (Int.negSucc 999999999999), 0), (5, 1, (Int.negSucc 999999999999), 0)], [], [(2, 0, 0, [165]), (0, 0, 3, []), (0, 0, 48, []), (0, 0, 48, [])], 0, [], [(20, [4, 5], [30, (Int.negSucc 29), (Int.negSucc 0), 2, 3]), (20, [4, 5, 6, 2, 3], [60, 0, 3, 217, 2, 3, 4]), (24, [0, 4], []), (24, [1, 5], [])]), (73, [(0, (2, 0, 0, [165])), (1, (0, 0, 3, [])), (2, (5, 0, 66297, [539])), (3, (0, 0, 539, []))], [], (0, 0), [(0, 0, 99927), (1, 7, 539), (0, 0, 100000)], [(1, 5, (Int.negSucc 999999999999), 0), (5, 1, (Int.negSucc 999999999999), 0)], [], [(2, 0, 0, [165]), (0, 0, 3, []), (0, 0, 48, []), (0, 0, 48, [])], 0, [], [(20, [4, 5], [30, 29, 1, 2, 3]), (20, [6, 5, 4, 5], [30, 0, 1, 0, 0, (Int.negSucc 16708), 0, 0, (Int.negSucc 538), 2, 3]), (20, [6, 5, 4, 5], [30, 0, (Int.negSucc 0), 0, 0, 16709, 0, 0, 539, 2, 3]), (20, [4, 5, 6, 7, 2, 3], [60, 0, 3, 218, 2, 3, 4]), (24, [0, 4], []), (24, [1, 5], [])])]
def t_Mo_step_at_gn_ct : ct_L := [(0, 372, e_Mo_rowOf), (1, 524, e_Mo_changed), (1, 527, e_Mo_take)]
set_option maxRecDepth 100000 in
theorem c_Mo_step_at_gn {l : Launch} {D : va_G} {kA : Nat → ClassId} (h_Mo_changed : ct_ok PRD l D kA GG y_Mo_changed z_Mo_changed e_Mo_changed) (h_Mo_rowOf : ct_ok PRD l D kA GG y_Mo_rowOf z_Mo_rowOf e_Mo_rowOf) (h_Mo_take : ct_ok PRD l D kA GG y_Mo_take z_Mo_take e_Mo_take) : ct_ok PRD l D kA GG y_Mo_step_at_gn z_Mo_step_at_gn e_Mo_step_at_gn := chk_all_ok (FT := [(16, 13, 2), (20, 13, 3), (23, 13, 4)]) (PT := []) (CT := t_Mo_step_at_gn_ct) (KT := []) (NT := []) (AN := n_Mo_step_at_gn_an) (OT := [o_Mo_step_at_gn_0, o_Mo_step_at_gn_1, o_Mo_step_at_gn_2, o_Mo_step_at_gn_3, o_Mo_step_at_gn_4, o_Mo_step_at_gn_5, o_Mo_step_at_gn_6, o_Mo_step_at_gn_7, o_Mo_step_at_gn_8, o_Mo_step_at_gn_9, o_Mo_step_at_gn_10, o_Mo_step_at_gn_11, o_Mo_step_at_gn_12, o_Mo_step_at_gn_13]) 3 388 (List.forall_mem_cons.mpr ⟨oo_Mo_step_at_gn_0, List.forall_mem_cons.mpr ⟨oo_Mo_step_at_gn_1, List.forall_mem_cons.mpr ⟨oo_Mo_step_at_gn_2, List.forall_mem_cons.mpr ⟨oo_Mo_step_at_gn_3, List.forall_mem_cons.mpr ⟨oo_Mo_step_at_gn_4, List.forall_mem_cons.mpr ⟨oo_Mo_step_at_gn_5, List.forall_mem_cons.mpr ⟨oo_Mo_step_at_gn_6, List.forall_mem_cons.mpr ⟨oo_Mo_step_at_gn_7, List.forall_mem_cons.mpr ⟨oo_Mo_step_at_gn_8, List.forall_mem_cons.mpr ⟨oo_Mo_step_at_gn_9, List.forall_mem_cons.mpr ⟨oo_Mo_step_at_gn_10, List.forall_mem_cons.mpr ⟨oo_Mo_step_at_gn_11, List.forall_mem_cons.mpr ⟨oo_Mo_step_at_gn_12, List.forall_mem_cons.mpr ⟨oo_Mo_step_at_gn_13, List.forall_mem_nil _⟩⟩⟩⟩⟩⟩⟩⟩⟩⟩⟩⟩⟩⟩) (by decide +kernel) ⟨List.forall_mem_cons.mpr ⟨gf_Mo_16, List.forall_mem_cons.mpr ⟨gf_Mo_20, List.forall_mem_cons.mpr ⟨gf_Mo_23, List.forall_mem_nil _⟩⟩⟩, List.forall_mem_nil _, List.forall_mem_cons.mpr ⟨cl_static (y := y_Mo_rowOf) h_Mo_rowOf wm_2420 wm_9 wm_2418 wm_2419 ⟨by decide, by decide, by decide +kernel⟩ (by decide), List.forall_mem_cons.mpr ⟨cl_virtual (y := y_Mo_changed) (ci := 13) rfl rfl ⟨_, _, rfl⟩ (by decide +kernel) h_Mo_changed wm_3083 wm_9 wm_3080 wm_3082 wv_14_1 ⟨by decide, by decide, by decide +kernel⟩ (by decide), List.forall_mem_cons.mpr ⟨cl_virtual (y := y_Mo_take) (ci := 13) rfl rfl ⟨_, _, rfl⟩ (by decide +kernel) h_Mo_take wm_3091 wm_9 wm_3088 wm_3090 wv_14_2 ⟨by decide, by decide, by decide +kernel⟩ (by decide), List.forall_mem_nil _⟩⟩⟩, List.forall_mem_nil _, List.forall_mem_nil _, GG_pl⟩ (by decide +kernel)
set_option maxHeartbeats 4000000 in
theorem vc_Mo_step_at_gv_0_0 (x1 : Int) (x5 : Int) (now_0 : Int → Int) (k1 : 0 ≤ x1 ∧ x1 ≤ 3) (k5 : 0 ≤ x5 ∧ x5 ≤ 29) (h5 : x5 = now_0 (x1)) : 1 * now_0 (x1) + 0 ≤ 29 := by
  first
    | omega
    | (have q := hE_0_3_1 x1 (by omega); omega)
set_option maxHeartbeats 4000000 in
theorem vc_Mo_step_at_gv_0_1 (x1 : Int) (x7 : Int) (x8 : Int) (now_0 : Int → Int) (k1 : 0 ≤ x1 ∧ x1 ≤ 3) (k7 : 0 ≤ x7 ∧ x7 ≤ 30) (k8 : 0 ≤ x8 ∧ x8 ≤ 66297) (f0 : 1 * x8 + ((-16709) * x1 + ((-539) * x7 + 0)) ≤ 0) (f1 : (-1) * x8 + (16709 * x1 + (539 * x7 + 0)) ≤ 0) (h2 : x7 = now_0 (x1)) : 1 * x8 + ((-16709) * x1 + ((-539) * now_0 (x1) + 0)) ≤ 0 := by
  first
    | omega
    | (have q := hE_0_3_1 x1 (by omega); omega)
set_option maxHeartbeats 4000000 in
theorem vc_Mo_step_at_gv_0_2 (x1 : Int) (x7 : Int) (x8 : Int) (now_0 : Int → Int) (k1 : 0 ≤ x1 ∧ x1 ≤ 3) (k7 : 0 ≤ x7 ∧ x7 ≤ 30) (k8 : 0 ≤ x8 ∧ x8 ≤ 66297) (f0 : 1 * x8 + ((-16709) * x1 + ((-539) * x7 + 0)) ≤ 0) (f1 : (-1) * x8 + (16709 * x1 + (539 * x7 + 0)) ≤ 0) (h2 : x7 = now_0 (x1)) : (-1) * x8 + (16709 * x1 + (539 * now_0 (x1) + 0)) ≤ 0 := by
  first
    | omega
    | (have q := hE_0_3_1 x1 (by omega); omega)
set_option maxHeartbeats 4000000 in
theorem vc_Mo_step_at_gv_0_3 (x1 : Int) (x2 : Int) (x3 : Int) (x5 : Int) (x7 : Int) (x8 : Int) (x9 : Int) (now_0 : Int → Int) (all_0 : Int → Int) (latest_0 : Int → Int) (r_0 : Int) (k1 : 0 ≤ x1 ∧ x1 ≤ 3) (k2 : 0 ≤ x2 ∧ x2 ≤ 48) (k3 : 0 ≤ x3 ∧ x3 ≤ 48) (k5 : 0 ≤ x5 ∧ x5 ≤ 29) (k7 : 0 ≤ x7 ∧ x7 ≤ 30) (k8 : 0 ≤ x8 ∧ x8 ≤ 66297) (k9 : 0 ≤ x9 ∧ x9 ≤ 0) (f0 : 1 * x8 + ((-16709) * x1 + ((-539) * x7 + 0)) ≤ 0) (f1 : (-1) * x8 + (16709 * x1 + (539 * x7 + 0)) ≤ 0) (h2 : x7 = now_0 (x1)) (h5 : x5 = now_0 (x1)) (f6 : RWS (r_0) (all_0) (now_0) (latest_0)) (f7 : r_0 = ((16709 * x1) + (539 * now_0 (x1)))) (f8 : CPv (r_0) (all_0) (x2) (x3)) : T73v (all_0) (now_0) (latest_0) (x1) (x8) (x9) (x2) (x3) := by
  first
    | exact t73_start (t60_now ‹RWS _ _ _ _› (by omega) ‹CPv _ _ _ _› (by omega) (by omega) (by omega)) (by omega) (by omega)
def o_Mo_step_at_gv_0 : or_T := (73, 10, [(1, (0, 0, 3, [])), (2, (0, 0, 48, [])), (3, (0, 0, 48, [])), (5, (0, 0, 29, [])), (7, (0, 0, 30, [])), (8, (0, 0, 66297, [])), (9, (0, 0, 0, []))], [(23, [8, 1, 7], [0, 1, -16709, -539]), (23, [8, 1, 7], [0, -1, 16709, 539]), (10, [7, 4, 1], []), (9, [4, 0], [3]), (10, [5, 4, 1], []), (20, [0], [60, 1, 3, 199, 5, 2, 3, 4]), (20, [0, 1], [50, 1, 1, 5, 3, 1, 3, 2, 0, 5, 4, 6, 6, 2, 0, 16709, 1, 1, 6, 2, 0, 539, 3, 0, 3, 1, 1]), (20, [0, 2, 3], [60, 1, 1, 228, 5, 2])], [], [], [(20, [0, 1], [30, 29, 1, 2, 3]), (20, [8, 1, 0, 1], [30, 0, 1, 0, 0, -16709, 0, 0, -539, 2, 3]), (20, [8, 1, 0, 1], [30, 0, -1, 0, 0, 16709, 0, 0, 539, 2, 3]), (20, [0, 1, 8, 9, 2, 3], [60, 0, 3, 230, 2, 3, 4]), (24, [0, 0], []), (24, [1, 1], [])], [], [])
theorem oo_Mo_step_at_gv_0 {kA : Nat → ClassId} : or_ok PRD kA GG o_Mo_step_at_gv_0 := by
  refine or_mk fun A ta ws vs hD hth hl => ?_
  intro t1 k1 t2 k2 t3 k3 t5 k5 t7 k7 t8 k8 t9 k9 f0 f1 f2 f3 f5 f6 f7 f8
  replace f2 := shm_107 f2
  replace f3 := shm_137 f3
  replace f5 := shm_107 f5
  have ad_4 : v_ad (n_v vs 4) = w_ar ws (n_v vs 0) 3 := congrArg v_ad f3
  simp only [ad_4] at f2
  have h2 : v_iv (n_v vs 7) = w_ei ws (w_ar ws (n_v vs 0) 3) (v_iv (n_v vs 1)) := f2
  simp only [ad_4] at f5
  have h5 : v_iv (n_v vs 5) = w_ei ws (w_ar ws (n_v vs 0) 3) (v_iv (n_v vs 1)) := f5
  have nf0 : fc_1 PRD (20, [0, 1], [30, 29, 1, 2, 3]) ws (vs) := ⟨nf_in hl rfl, sgq_1296 (vc_Mo_step_at_gv_0_0 (v_iv (n_v vs 1)) (v_iv (n_v vs 5)) (w_ei ws (w_ar ws (n_v vs 0) 3)) k1 k5 h5)⟩
  have nf1 : fc_1 PRD (20, [8, 1, 0, 1], [30, 0, 1, 0, 0, -16709, 0, 0, -539, 2, 3]) ws (vs) := ⟨nf_in hl rfl, sgq_1297 (vc_Mo_step_at_gv_0_1 (v_iv (n_v vs 1)) (v_iv (n_v vs 7)) (v_iv (n_v vs 8)) (w_ei ws (w_ar ws (n_v vs 0) 3)) k1 k7 k8 (shm_128 f0) (shm_129 f1) h2)⟩
  have nf2 : fc_1 PRD (20, [8, 1, 0, 1], [30, 0, -1, 0, 0, 16709, 0, 0, 539, 2, 3]) ws (vs) := ⟨nf_in hl rfl, sgq_1298 (vc_Mo_step_at_gv_0_2 (v_iv (n_v vs 1)) (v_iv (n_v vs 7)) (v_iv (n_v vs 8)) (w_ei ws (w_ar ws (n_v vs 0) 3)) k1 k7 k8 (shm_128 f0) (shm_129 f1) h2)⟩
  have nf3 : fc_1 PRD (20, [0, 1, 8, 9, 2, 3], [60, 0, 3, 230, 2, 3, 4]) ws (vs) := ⟨nf_in hl rfl, sgq_1313 (vc_Mo_step_at_gv_0_3 (v_iv (n_v vs 1)) (v_iv (n_v vs 2)) (v_iv (n_v vs 3)) (v_iv (n_v vs 5)) (v_iv (n_v vs 7)) (v_iv (n_v vs 8)) (v_iv (n_v vs 9)) (w_ei ws (w_ar ws (n_v vs 0) 3)) (w_ei ws (w_ar ws (n_v vs 0) 2)) (w_ei ws (w_ar ws (n_v vs 0) 4)) (w_fi ws (n_v vs 0) 5) k1 k2 k3 k5 k7 k8 k9 (shm_128 f0) (shm_129 f1) h2 h5 (shm_980 f6) (shm_1037 f7) (shm_1312 f8))⟩
  have nf4 : fc_1 PRD (24, [0, 0], []) ws (vs) := by
    refine ⟨nf_in hl rfl, sgq_1 ?_⟩
    · show n_v vs 0 = n_v vs 0
      first | rfl | simp only [true_and]
  have nf5 : fc_1 PRD (24, [1, 1], []) ws (vs) := by
    refine ⟨nf_in hl rfl, sgq_1 ?_⟩
    · show n_v vs 1 = n_v vs 1
      first | rfl | simp only [true_and]
  refine ⟨(fun _ h => (by cases h)), [], trivial, ?_, (fun _ h => (by cases h))⟩
  rw [List.append_nil]
  exact List.forall_mem_cons.mpr ⟨⟨show (20 : Nat) < 100 from by decide, nf0⟩, List.forall_mem_cons.mpr ⟨⟨show (20 : Nat) < 100 from by decide, nf1⟩, List.forall_mem_cons.mpr ⟨⟨show (20 : Nat) < 100 from by decide, nf2⟩, List.forall_mem_cons.mpr ⟨⟨show (20 : Nat) < 100 from by decide, nf3⟩, List.forall_mem_cons.mpr ⟨⟨show (24 : Nat) < 100 from by decide, nf4⟩, List.forall_mem_cons.mpr ⟨⟨show (24 : Nat) < 100 from by decide, nf5⟩, (fun _ h => (by cases h))⟩⟩⟩⟩⟩⟩
set_option maxHeartbeats 4000000 in
theorem vc_Mo_step_at_gv_1_0 (x1 : Int) (x5 : Int) (now_0 : Int → Int) (k1 : 0 ≤ x1 ∧ x1 ≤ 3) (k5 : 30 ≤ x5 ∧ x5 ≤ 30) (h1 : x5 = now_0 (x1)) : (-1) * now_0 (x1) + 0 ≤ (-30) := by
  first | omega
set_option maxHeartbeats 4000000 in
theorem vc_Mo_step_at_gv_1_1 (x1 : Int) (x2 : Int) (x3 : Int) (x5 : Int) (x7 : Int) (now_0 : Int → Int) (all_0 : Int → Int) (latest_0 : Int → Int) (r_0 : Int) (k1 : 0 ≤ x1 ∧ x1 ≤ 3) (k2 : 0 ≤ x2 ∧ x2 ≤ 48) (k3 : 0 ≤ x3 ∧ x3 ≤ 48) (k5 : 30 ≤ x5 ∧ x5 ≤ 30) (k7 : 0 ≤ x7 ∧ x7 ≤ 0) (h1 : x5 = now_0 (x1)) (f3 : RWS (r_0) (all_0) (now_0) (latest_0)) (f4 : r_0 = ((16709 * x1) + (539 * now_0 (x1)))) (f5 : CPv (r_0) (all_0) (x2) (x3)) : T13v (all_0) (now_0) (latest_0) (x1) (x7) (x2) (x3) := by
  first
    | exact t13_start ‹RWS _ _ _ _› (by omega) ‹CPv _ _ _ _› (by omega) (by omega) (by omega) (by omega)
def o_Mo_step_at_gv_1 : or_T := (13, 8, [(1, (0, 0, 3, [])), (2, (0, 0, 48, [])), (3, (0, 0, 48, [])), (5, (0, 30, 30, [])), (7, (0, 0, 0, []))], [(10, [5, 4, 1], []), (9, [4, 0], [3]), (20, [0], [60, 1, 3, 199, 5, 2, 3, 4]), (20, [0, 1], [50, 1, 1, 5, 3, 1, 3, 2, 0, 5, 4, 6, 6, 2, 0, 16709, 1, 1, 6, 2, 0, 539, 3, 0, 3, 1, 1]), (20, [0, 2, 3], [60, 1, 1, 228, 5, 2])], [], [], [(20, [0, 1], [30, -30, -1, 2, 3]), (20, [0, 1, 7, 2, 3], [60, 0, 3, 229, 2, 3, 4]), (24, [0, 0], []), (24, [1, 1], [])], [], [])
theorem oo_Mo_step_at_gv_1 {kA : Nat → ClassId} : or_ok PRD kA GG o_Mo_step_at_gv_1 := by
  refine or_mk fun A ta ws vs hD hth hl => ?_
  intro t1 k1 t2 k2 t3 k3 t5 k5 t7 k7 f1 f2 f3 f4 f5
  replace f1 := shm_107 f1
  replace f2 := shm_137 f2
  have ad_4 : v_ad (n_v vs 4) = w_ar ws (n_v vs 0) 3 := congrArg v_ad f2
  simp only [ad_4] at f1
  have h1 : v_iv (n_v vs 5) = w_ei ws (w_ar ws (n_v vs 0) 3) (v_iv (n_v vs 1)) := f1
  have nf0 : fc_1 PRD (20, [0, 1], [30, -30, -1, 2, 3]) ws (vs) := ⟨nf_in hl rfl, sgq_1300 (vc_Mo_step_at_gv_1_0 (v_iv (n_v vs 1)) (v_iv (n_v vs 5)) (w_ei ws (w_ar ws (n_v vs 0) 3)) k1 k5 h1)⟩
  have nf1 : fc_1 PRD (20, [0, 1, 7, 2, 3], [60, 0, 3, 229, 2, 3, 4]) ws (vs) := ⟨nf_in hl rfl, sgq_1314 (vc_Mo_step_at_gv_1_1 (v_iv (n_v vs 1)) (v_iv (n_v vs 2)) (v_iv (n_v vs 3)) (v_iv (n_v vs 5)) (v_iv (n_v vs 7)) (w_ei ws (w_ar ws (n_v vs 0) 3)) (w_ei ws (w_ar ws (n_v vs 0) 2)) (w_ei ws (w_ar ws (n_v vs 0) 4)) (w_fi ws (n_v vs 0) 5) k1 k2 k3 k5 k7 h1 (shm_980 f3) (shm_1037 f4) (shm_1312 f5))⟩
  have nf2 : fc_1 PRD (24, [0, 0], []) ws (vs) := by
    refine ⟨nf_in hl rfl, sgq_1 ?_⟩
    · show n_v vs 0 = n_v vs 0
      first | rfl | simp only [true_and]
  have nf3 : fc_1 PRD (24, [1, 1], []) ws (vs) := by
    refine ⟨nf_in hl rfl, sgq_1 ?_⟩
    · show n_v vs 1 = n_v vs 1
      first | rfl | simp only [true_and]
  refine ⟨(fun _ h => (by cases h)), [], trivial, ?_, (fun _ h => (by cases h))⟩
  rw [List.append_nil]
  exact List.forall_mem_cons.mpr ⟨⟨show (20 : Nat) < 100 from by decide, nf0⟩, List.forall_mem_cons.mpr ⟨⟨show (20 : Nat) < 100 from by decide, nf1⟩, List.forall_mem_cons.mpr ⟨⟨show (24 : Nat) < 100 from by decide, nf2⟩, List.forall_mem_cons.mpr ⟨⟨show (24 : Nat) < 100 from by decide, nf3⟩, (fun _ h => (by cases h))⟩⟩⟩⟩
def o_Mo_step_at_gv_2 : or_T := (59, 12, [(0, (2, 0, 0, [165])), (1, (0, 0, 3, [])), (2, (0, 0, 48, [])), (3, (0, 0, 48, [])), (4, (2, 0, 0, [165])), (5, (0, 0, 3, [])), (6, (0, 16170, 16170, [])), (7, (0, 16170, 16170, [])), (8, (2, 0, 0, [168])), (9, (0, 0, 30, [])), (10, (0, 1, 1, [])), (11, (0, -1, 29, []))], [(2, [11, 9, 10], []), (10, [9, 8, 5], []), (9, [8, 4], [3]), (7, [6, 7], [3]), (20, [4, 5], [30, -30, -1, 2, 3]), (20, [4, 5, 6, 2, 3], [60, 0, 3, 229, 2, 3, 4]), (24, [0, 4], []), (24, [1, 5], [])], [(11, (0, 0, 29, []))], [], [], [], [(11, 9, -1, -1), (1, 5, -4294967296, 0), (5, 1, -4294967296, 0)])
theorem oo_Mo_step_at_gv_2 {kA : Nat → ClassId} : or_ok PRD kA GG o_Mo_step_at_gv_2 := by
  refine or_mk fun A ta ws vs hD hth hl => ?_
  intro t0 r0 t1 k1 t2 k2 t3 k3 t4 r4 t5 k5 t6 k6 t7 k7 t8 r8 t9 k9 t10 k10 t11 k11 d0 d1 d2 f0 f1 f2 f3 f4 f5 f6 f7
  replace f0 := shm_14 f0
  replace f1 := shm_107 f1
  replace f2 := shm_137 f2
  replace f3 := shm_2 f3
  replace f4 := shm_1300 f4
  replace f5 := shm_1314 f5
  replace f6 := shm_5 f6
  replace f7 := shm_5 f7
  have q4 : n_v vs 4 = n_v vs 0 := f6.symm
  have q5 : n_v vs 5 = n_v vs 1 := f7.symm
  simp only [q5, q4] at f1 f2 f4 f5
  have cr_0_2 := fdq_10 hD hth r0
  have cr_0_3 := fdq_142 hD hth r0
  have cr_0_4 := fdq_143 hD hth r0
  have ad_8 : v_ad (n_v vs 8) = w_ar ws (n_v vs 0) 3 := congrArg v_ad f2
  simp only [ad_8] at f1
  have h1 : v_iv (n_v vs 9) = w_ei ws (w_ar ws (n_v vs 0) 3) (v_iv (n_v vs 1)) := f1
  have br_0_3_1_0 : w_ei ws (w_ar ws (n_v vs 0) 3) (v_iv (n_v vs 1)) = w_el ws (w_ar ws (n_v vs 0) 3) (v_iv (n_v vs 1)).toNat := rfl
  have hK_0_3 := elq_80 hD hth cr_0_3
  have hK_0_4 := elq_81 hD hth cr_0_4
  have rf11 : tv_ok ta (0, 0, 29, []) (n_v vs 11) := tv_in t11 (by first | omega | grind) (by first | omega | grind)
  refine ⟨List.forall_mem_cons.mpr ⟨rf11, (fun _ h => (by cases h))⟩, [], trivial, ?_, (fun _ h => (by cases h))⟩
  rw [List.append_nil]
  exact (fun _ h => (by cases h))
set_option maxHeartbeats 4000000 in
theorem vc_Mo_step_at_gv_3_0 (x1 : Int) (x5 : Int) (x9 : Int) (x11 : Int) (x12 : Int) (now_0 : Int → Int) (now_1 : Int → Int) (all_1 : Int → Int) (latest_1 : Int → Int) (all_0 : Int → Int) (latest_0 : Int → Int) (k1 : 0 ≤ x1 ∧ x1 ≤ 3) (k5 : 0 ≤ x5 ∧ x5 ≤ 3) (k9 : 0 ≤ x9 ∧ x9 ≤ 30) (k11 : 0 ≤ x11 ∧ x11 ≤ 29) (k12 : 0 ≤ x12 ∧ x12 ≤ 30) (d0 : x9 + (-1) ≤ x11 ∧ x11 ≤ x9 + (-1)) (d1 : x5 + (-4294967296) ≤ x1 ∧ x1 ≤ x5 + 0) (d2 : x1 + (-4294967296) ≤ x5 ∧ x5 ≤ x1 + 0) (h2 : x12 = now_0 (x1)) (h8 : x9 = now_1 (x1)) (f10 : (-1) * now_1 (x1) + 0 ≤ (-30)) (hE_0_2_1 : ∀ j : Int, all_0 j = all_1 j) (hE_0_3_1 : ∀ j : Int, 0 ≤ j → (j = x1 → now_0 j = x11) ∧ (j ≠ x1 → now_0 j = now_1 j)) (hE_0_4_1 : ∀ j : Int, latest_0 j = latest_1 j) : 1 * now_0 (x1) + 0 ≤ 29 := by
  have e_hE_0_2_1 := funext hE_0_2_1; subst e_hE_0_2_1
  have e_hE_0_4_1 := funext hE_0_4_1; subst e_hE_0_4_1
  first
    | omega
    | (have q := hE_0_3_1 x1 (by omega); omega)
set_option maxHeartbeats 4000000 in
theorem vc_Mo_step_at_gv_3_1 (x1 : Int) (x5 : Int) (x11 : Int) (x12 : Int) (x13 : Int) (now_0 : Int → Int) (now_1 : Int → Int) (all_1 : Int → Int) (latest_1 : Int → Int) (all_0 : Int → Int) (latest_0 : Int → Int) (k1 : 0 ≤ x1 ∧ x1 ≤ 3) (k5 : 0 ≤ x5 ∧ x5 ≤ 3) (k11 : 0 ≤ x11 ∧ x11 ≤ 29) (k12 : 0 ≤ x12 ∧ x12 ≤ 30) (k13 : 0 ≤ x13 ∧ x13 ≤ 66297) (d1 : x5 + (-4294967296) ≤ x1 ∧ x1 ≤ x5 + 0) (d2 : x1 + (-4294967296) ≤ x5 ∧ x5 ≤ x1 + 0) (f0 : 1 * x13 + ((-16709) * x1 + ((-539) * x12 + 0)) ≤ 0) (f1 : (-1) * x13 + (16709 * x1 + (539 * x12 + 0)) ≤ 0) (h2 : x12 = now_0 (x1)) (hE_0_2_1 : ∀ j : Int, all_0 j = all_1 j) (hE_0_3_1 : ∀ j : Int, 0 ≤ j → (j = x1 → now_0 j = x11) ∧ (j ≠ x1 → now_0 j = now_1 j)) (hE_0_4_1 : ∀ j : Int, latest_0 j = latest_1 j) : 1 * x13 + ((-16709) * x1 + ((-539) * now_0 (x1) + 0)) ≤ 0 := by
  have e_hE_0_2_1 := funext hE_0_2_1; subst e_hE_0_2_1
  have e_hE_0_4_1 := funext hE_0_4_1; subst e_hE_0_4_1
  first
    | omega
    | (have q := hE_0_3_1 x1 (by omega); omega)
set_option maxHeartbeats 4000000 in
theorem vc_Mo_step_at_gv_3_2 (x1 : Int) (x5 : Int) (x11 : Int) (x12 : Int) (x13 : Int) (now_0 : Int → Int) (now_1 : Int → Int) (all_1 : Int → Int) (latest_1 : Int → Int) (all_0 : Int → Int) (latest_0 : Int → Int) (k1 : 0 ≤ x1 ∧ x1 ≤ 3) (k5 : 0 ≤ x5 ∧ x5 ≤ 3) (k11 : 0 ≤ x11 ∧ x11 ≤ 29) (k12 : 0 ≤ x12 ∧ x12 ≤ 30) (k13 : 0 ≤ x13 ∧ x13 ≤ 66297) (d1 : x5 + (-4294967296) ≤ x1 ∧ x1 ≤ x5 + 0) (d2 : x1 + (-4294967296) ≤ x5 ∧ x5 ≤ x1 + 0) (f0 : 1 * x13 + ((-16709) * x1 + ((-539) * x12 + 0)) ≤ 0) (f1 : (-1) * x13 + (16709 * x1 + (539 * x12 + 0)) ≤ 0) (h2 : x12 = now_0 (x1)) (hE_0_2_1 : ∀ j : Int, all_0 j = all_1 j) (hE_0_3_1 : ∀ j : Int, 0 ≤ j → (j = x1 → now_0 j = x11) ∧ (j ≠ x1 → now_0 j = now_1 j)) (hE_0_4_1 : ∀ j : Int, latest_0 j = latest_1 j) : (-1) * x13 + (16709 * x1 + (539 * now_0 (x1) + 0)) ≤ 0 := by
  have e_hE_0_2_1 := funext hE_0_2_1; subst e_hE_0_2_1
  have e_hE_0_4_1 := funext hE_0_4_1; subst e_hE_0_4_1
  first
    | omega
    | (have q := hE_0_3_1 x1 (by omega); omega)
set_option maxHeartbeats 4000000 in
theorem vc_Mo_step_at_gv_3_3 (x1 : Int) (x2 : Int) (x3 : Int) (x5 : Int) (x6 : Int) (x9 : Int) (x11 : Int) (x12 : Int) (x13 : Int) (x14 : Int) (now_0 : Int → Int) (now_1 : Int → Int) (all_1 : Int → Int) (latest_1 : Int → Int) (all_0 : Int → Int) (latest_0 : Int → Int) (k1 : 0 ≤ x1 ∧ x1 ≤ 3) (k2 : 0 ≤ x2 ∧ x2 ≤ 48) (k3 : 0 ≤ x3 ∧ x3 ≤ 48) (k5 : 0 ≤ x5 ∧ x5 ≤ 3) (k6 : 16170 ≤ x6 ∧ x6 ≤ 16170) (k9 : 0 ≤ x9 ∧ x9 ≤ 30) (k11 : 0 ≤ x11 ∧ x11 ≤ 29) (k12 : 0 ≤ x12 ∧ x12 ≤ 30) (k13 : 0 ≤ x13 ∧ x13 ≤ 66297) (k14 : 0 ≤ x14 ∧ x14 ≤ 0) (d0 : x9 + (-1) ≤ x11 ∧ x11 ≤ x9 + (-1)) (d1 : x5 + (-4294967296) ≤ x1 ∧ x1 ≤ x5 + 0) (d2 : x1 + (-4294967296) ≤ x5 ∧ x5 ≤ x1 + 0) (f0 : 1 * x13 + ((-16709) * x1 + ((-539) * x12 + 0)) ≤ 0) (f1 : (-1) * x13 + (16709 * x1 + (539 * x12 + 0)) ≤ 0) (h2 : x12 = now_0 (x1)) (h8 : x9 = now_1 (x1)) (f11 : T13v (all_1) (now_1) (latest_1) (x1) (x6) (x2) (x3)) (hE_0_2_1 : ∀ j : Int, all_0 j = all_1 j) (hE_0_3_1 : ∀ j : Int, 0 ≤ j → (j = x1 → now_0 j = x11) ∧ (j ≠ x1 → now_0 j = now_1 j)) (hE_0_4_1 : ∀ j : Int, latest_0 j = latest_1 j) : T73v (all_0) (now_0) (latest_0) (x1) (x13) (x14) (x2) (x3) := by
  have e_hE_0_2_1 := funext hE_0_2_1; subst e_hE_0_2_1
  have e_hE_0_4_1 := funext hE_0_4_1; subst e_hE_0_4_1
  first
    | exact t73_start (t60_shift ‹T13v _ _ _ _ _ _ _› (by omega) (by assumption) (by omega) (by omega)) (by omega) (by omega)
def o_Mo_step_at_gv_3 : or_T := (73, 15, [(0, (2, 0, 0, [165])), (1, (0, 0, 3, [])), (2, (0, 0, 48, [])), (3, (0, 0, 48, [])), (5, (0, 0, 3, [])), (6, (0, 16170, 16170, [])), (8, (2, 0, 0, [168])), (9, (0, 0, 30, [])), (11, (0, 0, 29, [])), (12, (0, 0, 30, [])), (13, (0, 0, 66297, [])), (14, (0, 0, 0, []))], [(23, [13, 5, 12], [0, 1, -16709, -539]), (23, [13, 5, 12], [0, -1, 16709, 539]), (10, [12, 8, 5], []), (9, [8, 4], [3]), (24, [0, 4], []), (24, [1, 5], []), (100, [8, 5, 11], []), (10, [9, 8, 5], []), (20, [4, 5], [30, -30, -1, 2, 3]), (20, [4, 5, 6, 2, 3], [60, 0, 3, 229, 2, 3, 4])], [], [], [(20, [4, 5], [30, 29, 1, 2, 3]), (20, [13, 5, 4, 5], [30, 0, 1, 0, 0, -16709, 0, 0, -539, 2, 3]), (20, [13, 5, 4, 5], [30, 0, -1, 0, 0, 16709, 0, 0, 539, 2, 3]), (20, [4, 5, 13, 14, 2, 3], [60, 0, 3, 230, 2, 3, 4])], [], [(11, 9, -1, -1), (1, 5, -4294967296, 0), (5, 1, -4294967296, 0)])
theorem oo_Mo_step_at_gv_3 {kA : Nat → ClassId} : or_ok PRD kA GG o_Mo_step_at_gv_3 := by
  refine or_mk fun A ta ws vs hD hth hl => ?_
  intro t0 r0 t1 k1 t2 k2 t3 k3 t5 k5 t6 k6 t8 r8 t9 k9 t11 k11 t12 k12 t13 k13 t14 k14 d0 d1 d2 f0 f1 f2 f3 f4 f5 ta1 w1 le1 s1 f8 f10 f11
  replace f0 := shm_128 f0
  replace f1 := shm_129 f1
  replace f2 := shm_107 f2
  replace f3 := shm_137 f3
  replace f4 := shm_5 f4
  replace f5 := shm_5 f5
  have s1 : (∀ b j, w_el ws b j = if b = v_ad (n_v vs 8) ∧ j = (v_iv (n_v vs 5)).toNat then v_iv (n_v vs 11) else w_el w1 b j) ∧ ∀ b k, w_fd ws b k = w_fd w1 b k := s1.2
  replace f8 := shm_107 f8
  replace f10 := shm_1300 f10
  replace f11 := shm_1314 f11
  have q4 : n_v vs 4 = n_v vs 0 := f4.symm
  have q5 : n_v vs 5 = n_v vs 1 := f5.symm
  simp only [q5, q4] at f0 f1 f2 f3
  rw [q5] at s1
  simp only [q5, q4] at f8 f10 f11
  have ar_0_2_1 : w_ar w1 (n_v vs 0) 2 = w_ar ws (n_v vs 0) 2 := congrArg v_ad (s1.2 _ _).symm
  have cr_0_2 := fdq_10 hD hth r0
  have ar_0_3_1 : w_ar w1 (n_v vs 0) 3 = w_ar ws (n_v vs 0) 3 := congrArg v_ad (s1.2 _ _).symm
  have ar_0_4_1 : w_ar w1 (n_v vs 0) 4 = w_ar ws (n_v vs 0) 4 := congrArg v_ad (s1.2 _ _).symm
  have cr_0_4 := fdq_143 hD hth r0
  have ad_8 : v_ad (n_v vs 8) = w_ar ws (n_v vs 0) 3 := congrArg v_ad f3
  simp only [ad_8] at f2
  have h2 : v_iv (n_v vs 12) = w_ei ws (w_ar ws (n_v vs 0) 3) (v_iv (n_v vs 1)) := f2
  simp only [ad_8] at f8
  have h8 : v_iv (n_v vs 9) = w_ei w1 (w_ar ws (n_v vs 0) 3) (v_iv (n_v vs 1)) := f8
  simp only [ar_0_3_1, ar_0_2_1, ar_0_4_1] at f10 f11
  have hE_0_2_1 : ∀ j : Int, w_ei ws (w_ar ws (n_v vs 0) 2) j = w_ei w1 (w_ar ws (n_v vs 0) 2) j := el_kp s1.1 r8 cr_0_2 (by decide)
  have hE_0_3_1 : ∀ j : Int, 0 ≤ j → (j = v_iv (n_v vs 1) → w_ei ws (w_ar ws (n_v vs 0) 3) j = v_iv (n_v vs 11)) ∧ (j ≠ v_iv (n_v vs 1) → w_ei ws (w_ar ws (n_v vs 0) 3) j = w_ei w1 (w_ar ws (n_v vs 0) 3) j) := fun j hj => ⟨fun h => by unfold w_ei; rw [s1.1, if_pos ⟨ad_8.symm, by rw [h]⟩], fun h => by unfold w_ei; rw [s1.1, if_neg (fun e => h (by have := e.2; omega))]⟩
  have hE_0_4_1 : ∀ j : Int, w_ei ws (w_ar ws (n_v vs 0) 4) j = w_ei w1 (w_ar ws (n_v vs 0) 4) j := el_kp s1.1 r8 cr_0_4 (by decide)
  have nf0 : fc_1 PRD (20, [4, 5], [30, 29, 1, 2, 3]) ws (vs) := by
    refine ⟨nf_in hl rfl, sgq_1296 ?_⟩
    · show 1 * w_el ws (w_ar ws (n_v vs 4) 3) (v_iv (n_v vs 5)).toNat + 0 ≤ 29
      simp only [q4, q5]
      exact vc_Mo_step_at_gv_3_0 (v_iv (n_v vs 1)) (v_iv (n_v vs 5)) (v_iv (n_v vs 9)) (v_iv (n_v vs 11)) (v_iv (n_v vs 12)) (w_ei ws (w_ar ws (n_v vs 0) 3)) (w_ei w1 (w_ar ws (n_v vs 0) 3)) (w_ei w1 (w_ar ws (n_v vs 0) 2)) (w_ei w1 (w_ar ws (n_v vs 0) 4)) (w_ei ws (w_ar ws (n_v vs 0) 2)) (w_ei ws (w_ar ws (n_v vs 0) 4)) k1 k5 k9 k11 k12 d0 d1 d2 h2 h8 f10 hE_0_2_1 hE_0_3_1 hE_0_4_1
  have nf1 : fc_1 PRD (20, [13, 5, 4, 5], [30, 0, 1, 0, 0, -16709, 0, 0, -539, 2, 3]) ws (vs) := by
    refine ⟨nf_in hl rfl, sgq_1297 ?_⟩
    · show 1 * v_iv (n_v vs 13) + ((-16709) * v_iv (n_v vs 5) + ((-539) * w_el ws (w_ar ws (n_v vs 4) 3) (v_iv (n_v vs 5)).toNat + 0)) ≤ 0
      simp only [q4, q5]
      exact vc_Mo_step_at_gv_3_1 (v_iv (n_v vs 1)) (v_iv (n_v vs 5)) (v_iv (n_v vs 11)) (v_iv (n_v vs 12)) (v_iv (n_v vs 13)) (w_ei ws (w_ar ws (n_v vs 0) 3)) (w_ei w1 (w_ar ws (n_v vs 0) 3)) (w_ei w1 (w_ar ws (n_v vs 0) 2)) (w_ei w1 (w_ar ws (n_v vs 0) 4)) (w_ei ws (w_ar ws (n_v vs 0) 2)) (w_ei ws (w_ar ws (n_v vs 0) 4)) k1 k5 k11 k12 k13 d1 d2 f0 f1 h2 hE_0_2_1 hE_0_3_1 hE_0_4_1
  have nf2 : fc_1 PRD (20, [13, 5, 4, 5], [30, 0, -1, 0, 0, 16709, 0, 0, 539, 2, 3]) ws (vs) := by
    refine ⟨nf_in hl rfl, sgq_1298 ?_⟩
    · show (-1) * v_iv (n_v vs 13) + (16709 * v_iv (n_v vs 5) + (539 * w_el ws (w_ar ws (n_v vs 4) 3) (v_iv (n_v vs 5)).toNat + 0)) ≤ 0
      simp only [q4, q5]
      exact vc_Mo_step_at_gv_3_2 (v_iv (n_v vs 1)) (v_iv (n_v vs 5)) (v_iv (n_v vs 11)) (v_iv (n_v vs 12)) (v_iv (n_v vs 13)) (w_ei ws (w_ar ws (n_v vs 0) 3)) (w_ei w1 (w_ar ws (n_v vs 0) 3)) (w_ei w1 (w_ar ws (n_v vs 0) 2)) (w_ei w1 (w_ar ws (n_v vs 0) 4)) (w_ei ws (w_ar ws (n_v vs 0) 2)) (w_ei ws (w_ar ws (n_v vs 0) 4)) k1 k5 k11 k12 k13 d1 d2 f0 f1 h2 hE_0_2_1 hE_0_3_1 hE_0_4_1
  have nf3 : fc_1 PRD (20, [4, 5, 13, 14, 2, 3], [60, 0, 3, 230, 2, 3, 4]) ws (vs) := by
    refine ⟨nf_in hl rfl, sgq_1313 ?_⟩
    · show T73v (w_ei ws (w_ar ws (n_v vs 4) 2)) (w_ei ws (w_ar ws (n_v vs 4) 3)) (w_ei ws (w_ar ws (n_v vs 4) 4)) (v_iv (n_v vs 5)) (v_iv (n_v vs 13)) (v_iv (n_v vs 14)) (v_iv (n_v vs 2)) (v_iv (n_v vs 3))
      simp only [q4, q5]
      exact vc_Mo_step_at_gv_3_3 (v_iv (n_v vs 1)) (v_iv (n_v vs 2)) (v_iv (n_v vs 3)) (v_iv (n_v vs 5)) (v_iv (n_v vs 6)) (v_iv (n_v vs 9)) (v_iv (n_v vs 11)) (v_iv (n_v vs 12)) (v_iv (n_v vs 13)) (v_iv (n_v vs 14)) (w_ei ws (w_ar ws (n_v vs 0) 3)) (w_ei w1 (w_ar ws (n_v vs 0) 3)) (w_ei w1 (w_ar ws (n_v vs 0) 2)) (w_ei w1 (w_ar ws (n_v vs 0) 4)) (w_ei ws (w_ar ws (n_v vs 0) 2)) (w_ei ws (w_ar ws (n_v vs 0) 4)) k1 k2 k3 k5 k6 k9 k11 k12 k13 k14 d0 d1 d2 f0 f1 h2 h8 f11 hE_0_2_1 hE_0_3_1 hE_0_4_1
  refine ⟨(fun _ h => (by cases h)), [], trivial, ?_, (fun _ h => (by cases h))⟩
  rw [List.append_nil]
  exact List.forall_mem_cons.mpr ⟨⟨show (20 : Nat) < 100 from by decide, nf0⟩, List.forall_mem_cons.mpr ⟨⟨show (20 : Nat) < 100 from by decide, nf1⟩, List.forall_mem_cons.mpr ⟨⟨show (20 : Nat) < 100 from by decide, nf2⟩, List.forall_mem_cons.mpr ⟨⟨show (20 : Nat) < 100 from by decide, nf3⟩, (fun _ h => (by cases h))⟩⟩⟩⟩
def o_Mo_step_at_gv_4 : or_T := (42, 15, [(0, (2, 0, 0, [165])), (1, (0, 0, 3, [])), (2, (0, 0, 48, [])), (3, (0, 0, 48, [])), (4, (2, 0, 0, [165])), (5, (0, 0, 3, [])), (6, (0, 0, 16169, [])), (7, (0, 16170, 16170, [])), (8, (2, 0, 0, [167])), (9, (0, 0, 0, [])), (10, (0, 0, 66297, [])), (11, (0, 0, 82466, [])), (12, (0, 1, 1, [])), (13, (0, 0, 66297, [])), (14, (0, 0, 82466, []))], [(1, [14, 13, 6], []), (23, [13, 5, 12], [0, 1, -16709, -539]), (23, [13, 5, 12], [0, -1, 16709, 539]), (9, [8, 4], [2]), (1, [11, 10, 6], []), (23, [10, 5, 9], [0, 1, -16709, -539]), (23, [10, 5, 9], [0, -1, 16709, 539]), (7, [6, 7], [2]), (20, [4, 5], [30, -30, -1, 2, 3]), (20, [4, 5, 6, 2, 3], [60, 0, 3, 229, 2, 3, 4]), (24, [0, 4], []), (24, [1, 5], [])], [(14, (0, 0, 66835, []))], [], [], [], [(14, 6, 0, 66297), (14, 13, 0, 16169), (11, 6, 0, 66297), (11, 10, 0, 16169), (1, 5, -4294967296, 0), (5, 1, -4294967296, 0)])
theorem oo_Mo_step_at_gv_4 {kA : Nat → ClassId} : or_ok PRD kA GG o_Mo_step_at_gv_4 := by
  refine or_mk fun A ta ws vs hD hth hl => ?_
  intro t0 r0 t1 k1 t2 k2 t3 k3 t4 r4 t5 k5 t6 k6 t7 k7 t8 r8 t9 k9 t10 k10 t11 k11 t12 k12 t13 k13 t14 k14 d0 d1 d2 d3 d4 d5 f0 f1 f2 f3 f4 f5 f6 f7 f8 f9 f10 f11
  replace f0 := shm_12 f0
  replace f1 := shm_128 f1
  replace f2 := shm_129 f2
  replace f3 := shm_120 f3
  replace f4 := shm_12 f4
  replace f5 := shm_128 f5
  replace f6 := shm_129 f6
  replace f7 := shm_6 f7
  replace f8 := shm_1300 f8
  replace f9 := shm_1314 f9
  replace f10 := shm_5 f10
  replace f11 := shm_5 f11
  have q4 : n_v vs 4 = n_v vs 0 := f10.symm
  have q5 : n_v vs 5 = n_v vs 1 := f11.symm
  simp only [q5, q4] at f1 f2 f3 f5 f6 f8 f9
  have cr_0_2 := fdq_10 hD hth r0
  have cr_0_3 := fdq_142 hD hth r0
  have cr_0_4 := fdq_143 hD hth r0
  have ad_8 : v_ad (n_v vs 8) = w_ar ws (n_v vs 0) 2 := congrArg v_ad f3
  have br_0_3_1_0 : w_ei ws (w_ar ws (n_v vs 0) 3) (v_iv (n_v vs 1)) = w_el ws (w_ar ws (n_v vs 0) 3) (v_iv (n_v vs 1)).toNat := rfl
  have hK_0_3 := elq_80 hD hth cr_0_3
  have hK_0_4 := elq_81 hD hth cr_0_4
  have rf14 : tv_ok ta (0, 0, 66835, []) (n_v vs 14) := tv_in t14 (by first | omega | grind) (by first | omega | grind)
  refine ⟨List.forall_mem_cons.mpr ⟨rf14, (fun _ h => (by cases h))⟩, [], trivial, ?_, (fun _ h => (by cases h))⟩
  rw [List.append_nil]
  exact (fun _ h => (by cases h))
def o_Mo_step_at_gv_5 : or_T := (43, 16, [(5, (0, 0, 3, [])), (6, (0, 0, 16169, [])), (9, (0, 0, 0, [])), (10, (5, 0, 66297, [539])), (11, (0, 0, 82466, [])), (12, (0, 1, 1, [])), (13, (5, 0, 66297, [539])), (14, (0, 0, 66835, [])), (15, (0, -1, 255, [])), (8, (2, 0, 0, [167]))], [(10, [15, 8, 14], []), (1, [14, 13, 6], []), (23, [13, 5, 12], [0, 1, -16709, -539]), (23, [13, 5, 12], [0, -1, 16709, 539]), (1, [11, 10, 6], []), (23, [10, 5, 9], [0, 1, -16709, -539]), (23, [10, 5, 9], [0, -1, 16709, 539])], [], [], [(18, [11, 15], [1])], [], [(14, 6, 0, 66297), (14, 13, 0, 16169), (11, 6, 0, 66297), (11, 10, 0, 16169)])
theorem oo_Mo_step_at_gv_5 {kA : Nat → ClassId} : or_ok PRD kA GG o_Mo_step_at_gv_5 := by
  refine or_mk fun A ta ws vs hD hth hl => ?_
  intro t5 k5 t6 k6 t9 k9 t10 t11 k11 t12 k12 t13 t14 k14 t15 k15 t8 r8 d0 d1 d2 d3 f0 f1 f2 f3 f4 f5 f6
  obtain ⟨k10, q10_⟩ : (0 ≤ v_iv (n_v vs 10) ∧ v_iv (n_v vs 10) ≤ 66297) ∧ ∃ q : Int, v_iv (n_v vs 10) = 539 * q := tv_dvk t10
  obtain ⟨q10, hq10⟩ := q10_
  obtain ⟨k13, q13_⟩ : (0 ≤ v_iv (n_v vs 13) ∧ v_iv (n_v vs 13) ≤ 66297) ∧ ∃ q : Int, v_iv (n_v vs 13) = 539 * q := tv_dvk t13
  obtain ⟨q13, hq13⟩ := q13_
  replace f0 := shm_107 f0
  replace f1 := shm_12 f1
  replace f2 := shm_128 f2
  replace f3 := shm_129 f3
  replace f4 := shm_12 f4
  replace f5 := shm_128 f5
  replace f6 := shm_129 f6
  have nf0 : fc_1 PRD (18, [11, 15], [1]) ws (vs) := by
    refine ⟨nf_in hl rfl, sgq_1302 ?_⟩
    · show pl_ok 1 (v_iv (n_v vs 11)).toNat (v_iv (n_v vs 15))
      have e0 := pl_cp hD hth r8 (g := GG_167) rfl rfl rfl pl_M1 (i := (v_iv (n_v vs 14)).toNat) (j := (v_iv (n_v vs 11)).toNat) (by show (v_iv (n_v vs 14)).toNat < 66836; omega) (by omega)
      rw [← f0] at e0
      exact e0
  refine ⟨(fun _ h => (by cases h)), [], trivial, ?_, (fun _ h => (by cases h))⟩
  rw [List.append_nil]
  exact List.forall_mem_cons.mpr ⟨⟨show (18 : Nat) < 100 from by decide, nf0⟩, (fun _ h => (by cases h))⟩
def o_Mo_step_at_gv_6 : or_T := (43, 16, [(0, (2, 0, 0, [165])), (1, (0, 0, 3, [])), (2, (0, 0, 48, [])), (3, (0, 0, 48, [])), (4, (2, 0, 0, [165])), (5, (0, 0, 3, [])), (6, (0, 0, 16169, [])), (7, (0, 16170, 16170, [])), (8, (2, 0, 0, [167])), (9, (0, 0, 0, [])), (10, (0, 0, 66297, [])), (11, (0, 0, 82466, [])), (12, (0, 1, 1, [])), (13, (0, 0, 66297, [])), (14, (0, 0, 66835, [])), (15, (0, -1, 255, []))], [(10, [15, 8, 14], []), (1, [14, 13, 6], []), (23, [13, 5, 12], [0, 1, -16709, -539]), (23, [13, 5, 12], [0, -1, 16709, 539]), (9, [8, 4], [2]), (1, [11, 10, 6], []), (23, [10, 5, 9], [0, 1, -16709, -539]), (23, [10, 5, 9], [0, -1, 16709, 539]), (7, [6, 7], [2]), (20, [4, 5], [30, -30, -1, 2, 3]), (20, [4, 5, 6, 2, 3], [60, 0, 3, 229, 2, 3, 4]), (24, [0, 4], []), (24, [1, 5], [])], [(11, (0, 0, 66835, []))], [], [], [], [(14, 6, 0, 66297), (14, 13, 0, 16169), (11, 6, 0, 66297), (11, 10, 0, 16169), (1, 5, -4294967296, 0), (5, 1, -4294967296, 0)])
theorem oo_Mo_step_at_gv_6 {kA : Nat → ClassId} : or_ok PRD kA GG o_Mo_step_at_gv_6 := by
  refine or_mk fun A ta ws vs hD hth hl => ?_
  intro t0 r0 t1 k1 t2 k2 t3 k3 t4 r4 t5 k5 t6 k6 t7 k7 t8 r8 t9 k9 t10 k10 t11 k11 t12 k12 t13 k13 t14 k14 t15 k15 d0 d1 d2 d3 d4 d5 f0 f1 f2 f3 f4 f5 f6 f7 f8 f9 f10 f11 f12
  replace f0 := shm_107 f0
  replace f1 := shm_12 f1
  replace f2 := shm_128 f2
  replace f3 := shm_129 f3
  replace f4 := shm_120 f4
  replace f5 := shm_12 f5
  replace f6 := shm_128 f6
  replace f7 := shm_129 f7
  replace f8 := shm_6 f8
  replace f9 := shm_1300 f9
  replace f10 := shm_1314 f10
  replace f11 := shm_5 f11
  replace f12 := shm_5 f12
  have q4 : n_v vs 4 = n_v vs 0 := f11.symm
  have q5 : n_v vs 5 = n_v vs 1 := f12.symm
  simp only [q5, q4] at f2 f3 f4 f6 f7 f9 f10
  have cr_0_2 := fdq_10 hD hth r0
  have cr_0_3 := fdq_142 hD hth r0
  have cr_0_4 := fdq_143 hD hth r0
  have ad_8 : v_ad (n_v vs 8) = w_ar ws (n_v vs 0) 2 := congrArg v_ad f4
  simp only [ad_8] at f0
  have h0 : v_iv (n_v vs 15) = w_ei ws (w_ar ws (n_v vs 0) 2) (v_iv (n_v vs 14)) := f0
  have br_0_2_14_0 : w_ei ws (w_ar ws (n_v vs 0) 2) (v_iv (n_v vs 14)) = w_el ws (w_ar ws (n_v vs 0) 2) (v_iv (n_v vs 14)).toNat := rfl
  have br_0_3_1_0 : w_ei ws (w_ar ws (n_v vs 0) 3) (v_iv (n_v vs 1)) = w_el ws (w_ar ws (n_v vs 0) 3) (v_iv (n_v vs 1)).toNat := rfl
  have hK_0_3 := elq_80 hD hth cr_0_3
  have hK_0_4 := elq_81 hD hth cr_0_4
  have rf11 : tv_ok ta (0, 0, 66835, []) (n_v vs 11) := tv_in t11 (by first | omega | grind) (by first | omega | grind)
  refine ⟨List.forall_mem_cons.mpr ⟨rf11, (fun _ h => (by cases h))⟩, [], trivial, ?_, (fun _ h => (by cases h))⟩
  rw [List.append_nil]
  exact (fun _ h => (by cases h))
set_option maxHeartbeats 4000000 in
theorem vc_Mo_step_at_gv_7_0 (x1 : Int) (x2 : Int) (x3 : Int) (x5 : Int) (x6 : Int) (x9 : Int) (x10 : Int) (x11 : Int) (x12 : Int) (x13 : Int) (x14 : Int) (x15 : Int) (x16 : Int) (now_0 : Int → Int) (all_1 : Int → Int) (now_1 : Int → Int) (latest_1 : Int → Int) (all_0 : Int → Int) (latest_0 : Int → Int) (k1 : 0 ≤ x1 ∧ x1 ≤ 3) (k2 : 0 ≤ x2 ∧ x2 ≤ 48) (k3 : 0 ≤ x3 ∧ x3 ≤ 48) (k5 : 0 ≤ x5 ∧ x5 ≤ 3) (k6 : 0 ≤ x6 ∧ x6 ≤ 16169) (k9 : 0 ≤ x9 ∧ x9 ≤ 0) (k10 : 0 ≤ x10 ∧ x10 ≤ 66297) (k11 : 0 ≤ x11 ∧ x11 ≤ 66835) (k12 : 1 ≤ x12 ∧ x12 ≤ 1) (k13 : 0 ≤ x13 ∧ x13 ≤ 66297) (k14 : 0 ≤ x14 ∧ x14 ≤ 66835) (k15 : (-1) ≤ x15 ∧ x15 ≤ 255) (k16 : 1 ≤ x16 ∧ x16 ≤ 16170) (d0 : x6 + 1 ≤ x16 ∧ x16 ≤ x6 + 1) (d4 : x10 + 0 ≤ x11 ∧ x11 ≤ x10 + 16169) (d5 : x5 + (-4294967296) ≤ x1 ∧ x1 ≤ x5 + 0) (d6 : x1 + (-4294967296) ≤ x5 ∧ x5 ≤ x1 + 0) (f0 : x16 = x6 + 1) (f1 : 1 * x13 + ((-16709) * x1 + ((-539) * x12 + 0)) ≤ 0) (f2 : (-1) * x13 + (16709 * x1 + (539 * x12 + 0)) ≤ 0) (f3 : 1 * x10 + ((-16709) * x1 + ((-539) * x9 + 0)) ≤ 0) (f4 : (-1) * x10 + (16709 * x1 + (539 * x9 + 0)) ≤ 0) (h9 : x15 = all_1 (x14)) (f10 : x14 = x13 + x6) (f14 : x11 = x10 + x6) (f19 : T13v (all_1) (now_1) (latest_1) (x1) (x6) (x2) (x3)) (hE_0_2_1 : ∀ j : Int, 0 ≤ j → (j = x11 → all_0 j = x15) ∧ (j ≠ x11 → all_0 j = all_1 j)) (hE_0_3_1 : ∀ j : Int, now_0 j = now_1 j) (hE_0_4_1 : ∀ j : Int, latest_0 j = latest_1 j) : T13v (all_0) (now_0) (latest_0) (x1) (x16) (x2) (x3) := by
  have e_hE_0_3_1 := funext hE_0_3_1; subst e_hE_0_3_1
  have e_hE_0_4_1 := funext hE_0_4_1; subst e_hE_0_4_1
  first
    | exact t13_step ‹T13v _ _ _ _ _ _ _› (by assumption) (by omega) (by omega) (by omega) (by assumption) (by omega)
def o_Mo_step_at_gv_7 : or_T := (13, 17, [(0, (2, 0, 0, [165])), (1, (0, 0, 3, [])), (2, (0, 0, 48, [])), (3, (0, 0, 48, [])), (5, (0, 0, 3, [])), (6, (0, 0, 16169, [])), (8, (2, 0, 0, [167])), (9, (0, 0, 0, [])), (10, (0, 0, 66297, [])), (11, (0, 0, 66835, [])), (12, (0, 1, 1, [])), (13, (0, 0, 66297, [])), (14, (0, 0, 66835, [])), (15, (0, -1, 255, [])), (16, (0, 1, 16170, []))], [(6, [16, 6], [1]), (23, [13, 5, 12], [0, 1, -16709, -539]), (23, [13, 5, 12], [0, -1, 16709, 539]), (23, [10, 5, 9], [0, 1, -16709, -539]), (23, [10, 5, 9], [0, -1, 16709, 539]), (24, [0, 4], []), (24, [1, 5], []), (100, [8, 11, 15], []), (10, [15, 8, 14], []), (1, [14, 13, 6], []), (9, [8, 4], [2]), (1, [11, 10, 6], []), (20, [4, 5, 6, 2, 3], [60, 0, 3, 229, 2, 3, 4])], [], [], [(20, [4, 5, 16, 2, 3], [60, 0, 3, 229, 2, 3, 4])], [], [(16, 6, 1, 1), (11, 6, 0, 66297), (11, 10, 0, 16169), (1, 5, -4294967296, 0), (5, 1, -4294967296, 0)])
theorem oo_Mo_step_at_gv_7 {kA : Nat → ClassId} : or_ok PRD kA GG o_Mo_step_at_gv_7 := by
  refine or_mk fun A ta ws vs hD hth hl => ?_
  intro t0 r0 t1 k1 t2 k2 t3 k3 t5 k5 t6 k6 t8 r8 t9 k9 t10 k10 t11 k11 t12 k12 t13 k13 t14 k14 t15 k15 t16 k16 d0 d3 d4 d5 d6 f0 f1 f2 f3 f4 f6 f7 ta1 w1 le1 s1 f9 f10 f13 f14 f19
  replace f0 := shm_4 f0
  replace f1 := shm_128 f1
  replace f2 := shm_129 f2
  replace f3 := shm_128 f3
  replace f4 := shm_129 f4
  replace f6 := shm_5 f6
  replace f7 := shm_5 f7
  have s1 : (∀ b j, w_el ws b j = if b = v_ad (n_v vs 8) ∧ j = (v_iv (n_v vs 11)).toNat then v_iv (n_v vs 15) else w_el w1 b j) ∧ ∀ b k, w_fd ws b k = w_fd w1 b k := s1.2
  replace f9 := shm_107 f9
  replace f10 := shm_12 f10
  replace f13 := shm_120 f13
  replace f14 := shm_12 f14
  replace f19 := shm_1314 f19
  have q4 : n_v vs 4 = n_v vs 0 := f6.symm
  have q5 : n_v vs 5 = n_v vs 1 := f7.symm
  simp only [q5, q4] at f1 f2 f3 f4 f13 f19
  have ar_0_2_1 : w_ar w1 (n_v vs 0) 2 = w_ar ws (n_v vs 0) 2 := congrArg v_ad (s1.2 _ _).symm
  have ar_0_3_1 : w_ar w1 (n_v vs 0) 3 = w_ar ws (n_v vs 0) 3 := congrArg v_ad (s1.2 _ _).symm
  have cr_0_3 := fdq_142 hD hth r0
  have ar_0_4_1 : w_ar w1 (n_v vs 0) 4 = w_ar ws (n_v vs 0) 4 := congrArg v_ad (s1.2 _ _).symm
  have cr_0_4 := fdq_143 hD hth r0
  have ad_8 : v_ad (n_v vs 8) = w_ar ws (n_v vs 0) 2 := (congrArg v_ad f13).trans ar_0_2_1
  simp only [ad_8] at f9
  have h9 : v_iv (n_v vs 15) = w_ei w1 (w_ar ws (n_v vs 0) 2) (v_iv (n_v vs 14)) := f9
  simp only [ar_0_3_1, ar_0_2_1, ar_0_4_1] at f19
  have hE_0_2_1 : ∀ j : Int, 0 ≤ j → (j = v_iv (n_v vs 11) → w_ei ws (w_ar ws (n_v vs 0) 2) j = v_iv (n_v vs 15)) ∧ (j ≠ v_iv (n_v vs 11) → w_ei ws (w_ar ws (n_v vs 0) 2) j = w_ei w1 (w_ar ws (n_v vs 0) 2) j) := fun j hj => ⟨fun h => by unfold w_ei; rw [s1.1, if_pos ⟨ad_8.symm, by rw [h]⟩], fun h => by unfold w_ei; rw [s1.1, if_neg (fun e => h (by have := e.2; omega))]⟩
  have hE_0_3_1 : ∀ j : Int, w_ei ws (w_ar ws (n_v vs 0) 3) j = w_ei w1 (w_ar ws (n_v vs 0) 3) j := el_kp s1.1 r8 cr_0_3 (by decide)
  have hE_0_4_1 : ∀ j : Int, w_ei ws (w_ar ws (n_v vs 0) 4) j = w_ei w1 (w_ar ws (n_v vs 0) 4) j := el_kp s1.1 r8 cr_0_4 (by decide)
  have nf0 : fc_1 PRD (20, [4, 5, 16, 2, 3], [60, 0, 3, 229, 2, 3, 4]) ws (vs) := by
    refine ⟨nf_in hl rfl, sgq_1314 ?_⟩
    · show T13v (w_ei ws (w_ar ws (n_v vs 4) 2)) (w_ei ws (w_ar ws (n_v vs 4) 3)) (w_ei ws (w_ar ws (n_v vs 4) 4)) (v_iv (n_v vs 5)) (v_iv (n_v vs 16)) (v_iv (n_v vs 2)) (v_iv (n_v vs 3))
      simp only [q4, q5]
      exact vc_Mo_step_at_gv_7_0 (v_iv (n_v vs 1)) (v_iv (n_v vs 2)) (v_iv (n_v vs 3)) (v_iv (n_v vs 5)) (v_iv (n_v vs 6)) (v_iv (n_v vs 9)) (v_iv (n_v vs 10)) (v_iv (n_v vs 11)) (v_iv (n_v vs 12)) (v_iv (n_v vs 13)) (v_iv (n_v vs 14)) (v_iv (n_v vs 15)) (v_iv (n_v vs 16)) (w_ei ws (w_ar ws (n_v vs 0) 3)) (w_ei w1 (w_ar ws (n_v vs 0) 2)) (w_ei w1 (w_ar ws (n_v vs 0) 3)) (w_ei w1 (w_ar ws (n_v vs 0) 4)) (w_ei ws (w_ar ws (n_v vs 0) 2)) (w_ei ws (w_ar ws (n_v vs 0) 4)) k1 k2 k3 k5 k6 k9 k10 k11 k12 k13 k14 k15 k16 d0 d4 d5 d6 f0 f1 f2 f3 f4 h9 f10 f14 f19 hE_0_2_1 hE_0_3_1 hE_0_4_1
  refine ⟨(fun _ h => (by cases h)), [], trivial, ?_, (fun _ h => (by cases h))⟩
  rw [List.append_nil]
  exact List.forall_mem_cons.mpr ⟨⟨show (20 : Nat) < 100 from by decide, nf0⟩, (fun _ h => (by cases h))⟩
def o_Mo_step_at_gv_8 : or_T := (115, 13, [(0, (2, 0, 0, [165])), (1, (0, 0, 3, [])), (2, (0, 0, 48, [])), (3, (0, 0, 48, [])), (4, (2, 0, 0, [165])), (5, (0, 0, 3, [])), (6, (0, 0, 66297, [])), (7, (0, 539, 539, [])), (8, (0, 539, 539, [])), (9, (2, 0, 0, [168])), (10, (0, 0, 30, [])), (11, (0, 1, 1, [])), (12, (0, 1, 31, []))], [(1, [12, 10, 11], []), (10, [10, 9, 5], []), (9, [9, 4], [3]), (7, [7, 8], [3]), (20, [4, 5], [30, 29, 1, 2, 3]), (20, [6, 5, 4, 5], [30, 0, 1, 0, 0, -16709, 0, 0, -539, 2, 3]), (20, [6, 5, 4, 5], [30, 0, -1, 0, 0, 16709, 0, 0, 539, 2, 3]), (20, [4, 5, 6, 7, 2, 3], [60, 0, 3, 230, 2, 3, 4]), (24, [0, 4], []), (24, [1, 5], [])], [(12, (0, 1, 30, []))], [], [], [], [(12, 10, 1, 1), (1, 5, -4294967296, 0), (5, 1, -4294967296, 0)])
theorem oo_Mo_step_at_gv_8 {kA : Nat → ClassId} : or_ok PRD kA GG o_Mo_step_at_gv_8 := by
  refine or_mk fun A ta ws vs hD hth hl => ?_
  intro t0 r0 t1 k1 t2 k2 t3 k3 t4 r4 t5 k5 t6 k6 t7 k7 t8 k8 t9 r9 t10 k10 t11 k11 t12 k12 d0 d1 d2 f0 f1 f2 f3 f4 f5 f6 f7 f8 f9
  replace f0 := shm_12 f0
  replace f1 := shm_107 f1
  replace f2 := shm_137 f2
  replace f3 := shm_2 f3
  replace f4 := shm_1296 f4
  replace f5 := shm_1297 f5
  replace f6 := shm_1298 f6
  replace f7 := shm_1313 f7
  replace f8 := shm_5 f8
  replace f9 := shm_5 f9
  have q4 : n_v vs 4 = n_v vs 0 := f8.symm
  have q5 : n_v vs 5 = n_v vs 1 := f9.symm
  simp only [q5, q4] at f1 f2 f4 f5 f6 f7
  have cr_0_2 := fdq_10 hD hth r0
  have cr_0_3 := fdq_142 hD hth r0
  have cr_0_4 := fdq_143 hD hth r0
  have ad_9 : v_ad (n_v vs 9) = w_ar ws (n_v vs 0) 3 := congrArg v_ad f2
  simp only [ad_9] at f1
  have h1 : v_iv (n_v vs 10) = w_ei ws (w_ar ws (n_v vs 0) 3) (v_iv (n_v vs 1)) := f1
  have br_0_3_1_0 : w_ei ws (w_ar ws (n_v vs 0) 3) (v_iv (n_v vs 1)) = w_el ws (w_ar ws (n_v vs 0) 3) (v_iv (n_v vs 1)).toNat := rfl
  have hK_0_3 := elq_80 hD hth cr_0_3
  have hK_0_4 := elq_81 hD hth cr_0_4
  have rf12 : tv_ok ta (0, 1, 30, []) (n_v vs 12) := tv_in t12 (by first | omega | grind) (by first | omega | grind)
  refine ⟨List.forall_mem_cons.mpr ⟨rf12, (fun _ h => (by cases h))⟩, [], trivial, ?_, (fun _ h => (by cases h))⟩
  rw [List.append_nil]
  exact (fun _ h => (by cases h))
set_option maxHeartbeats 4000000 in
theorem vc_Mo_step_at_gv_9_0 (x1 : Int) (x2 : Int) (x3 : Int) (x6 : Int) (x7 : Int) (x10 : Int) (x12 : Int) (x14 : Int) (now_1 : Int → Int) (now_2 : Int → Int) (all_2 : Int → Int) (latest_2 : Int → Int) (all_0 : Int → Int) (all_1 : Int → Int) (now_0 : Int → Int) (latest_0 : Int → Int) (latest_1 : Int → Int) (k1 : 0 ≤ x1 ∧ x1 ≤ 3) (k2 : 0 ≤ x2 ∧ x2 ≤ 48) (k3 : 0 ≤ x3 ∧ x3 ≤ 48) (k6 : 0 ≤ x6 ∧ x6 ≤ 66297) (k7 : 539 ≤ x7 ∧ x7 ≤ 539) (k10 : 0 ≤ x10 ∧ x10 ≤ 30) (k12 : 1 ≤ x12 ∧ x12 ≤ 30) (k14 : 0 ≤ x14 ∧ x14 ≤ 30) (d0 : x10 + 1 ≤ x12 ∧ x12 ≤ x10 + 1) (h3 : x14 = now_1 (x1)) (h8 : x10 = now_2 (x1)) (f13 : T73v (all_2) (now_2) (latest_2) (x1) (x6) (x7) (x2) (x3)) (hE_0_2_1 : ∀ j : Int, all_0 j = all_1 j) (hE_0_2_2 : ∀ j : Int, all_1 j = all_2 j) (hE_0_3_1 : ∀ j : Int, now_0 j = now_1 j) (hE_0_3_2 : ∀ j : Int, 0 ≤ j → (j = x1 → now_1 j = x12) ∧ (j ≠ x1 → now_1 j = now_2 j)) (hE_0_4_1 : ∀ j : Int, 0 ≤ j → (j = x1 → latest_0 j = x14) ∧ (j ≠ x1 → latest_0 j = latest_1 j)) (hE_0_4_2 : ∀ j : Int, latest_1 j = latest_2 j) : T130v (all_0) (now_0) (latest_0) (x1) (x2) (x3) := by
  have e_hE_0_2_1 := funext hE_0_2_1; subst e_hE_0_2_1
  have e_hE_0_2_2 := funext hE_0_2_2; subst e_hE_0_2_2
  have e_hE_0_3_1 := funext hE_0_3_1; subst e_hE_0_3_1
  have e_hE_0_4_2 := funext hE_0_4_2; subst e_hE_0_4_2
  first
    | exact t130_of ‹T73v _ _ _ _ _ _ _ _› (by omega) (by assumption) (by omega) (by omega) (by assumption) (by omega) (by omega)
def o_Mo_step_at_gv_9 : or_T := (130, 15, [(0, (2, 0, 0, [165])), (1, (0, 0, 3, [])), (2, (0, 0, 48, [])), (3, (0, 0, 48, [])), (6, (0, 0, 66297, [])), (7, (0, 539, 539, [])), (9, (2, 0, 0, [168])), (10, (0, 0, 30, [])), (12, (0, 1, 30, [])), (13, (2, 0, 0, [169])), (14, (0, 0, 30, []))], [(24, [0, 4], []), (24, [1, 5], []), (100, [13, 5, 14], []), (10, [14, 9, 5], []), (9, [9, 4], [3]), (9, [13, 4], [4]), (100, [9, 5, 12], []), (10, [10, 9, 5], []), (20, [4, 5, 6, 7, 2, 3], [60, 0, 3, 230, 2, 3, 4])], [], [], [(20, [4, 5, 2, 3], [60, 0, 3, 231, 2, 3, 4])], [], [(12, 10, 1, 1), (1, 5, -4294967296, 0), (5, 1, -4294967296, 0)])
theorem oo_Mo_step_at_gv_9 {kA : Nat → ClassId} : or_ok PRD kA GG o_Mo_step_at_gv_9 := by
  refine or_mk fun A ta ws vs hD hth hl => ?_
  intro t0 r0 t1 k1 t2 k2 t3 k3 t6 k6 t7 k7 t9 r9 t10 k10 t12 k12 t13 r13 t14 k14 d0 d1 d2 f0 f1 ta1 w1 le1 s1 f3 f4 f5 ta2 w2 le2 s2 f8 f13
  replace f0 := shm_5 f0
  replace f1 := shm_5 f1
  have s1 : (∀ b j, w_el ws b j = if b = v_ad (n_v vs 13) ∧ j = (v_iv (n_v vs 5)).toNat then v_iv (n_v vs 14) else w_el w1 b j) ∧ ∀ b k, w_fd ws b k = w_fd w1 b k := s1.2
  replace f3 := shm_107 f3
  replace f4 := shm_137 f4
  replace f5 := shm_108 f5
  have s2 : (∀ b j, w_el w1 b j = if b = v_ad (n_v vs 9) ∧ j = (v_iv (n_v vs 5)).toNat then v_iv (n_v vs 12) else w_el w2 b j) ∧ ∀ b k, w_fd w1 b k = w_fd w2 b k := s2.2
  replace f8 := shm_107 f8
  replace f13 := shm_1313 f13
  have q4 : n_v vs 4 = n_v vs 0 := f0.symm
  have q5 : n_v vs 5 = n_v vs 1 := f1.symm
  rw [q5] at s1
  simp only [q5, q4] at f3 f4 f5
  rw [q5] at s2
  simp only [q5, q4] at f8 f13
  have ar_0_2_1 : w_ar w1 (n_v vs 0) 2 = w_ar ws (n_v vs 0) 2 := congrArg v_ad (s1.2 _ _).symm
  have ar_0_2_2 : w_ar w2 (n_v vs 0) 2 = w_ar ws (n_v vs 0) 2 := by rw [← ar_0_2_1]; show v_ad (w_fd w2 _ _) = v_ad (w_fd w1 _ _); rw [s2.2]
  have cr_0_2 := fdq_10 hD hth r0
  have ar_0_3_1 : w_ar w1 (n_v vs 0) 3 = w_ar ws (n_v vs 0) 3 := congrArg v_ad (s1.2 _ _).symm
  have ar_0_3_2 : w_ar w2 (n_v vs 0) 3 = w_ar ws (n_v vs 0) 3 := by rw [← ar_0_3_1]; show v_ad (w_fd w2 _ _) = v_ad (w_fd w1 _ _); rw [s2.2]
  have cr_0_3 := fdq_142 hD hth r0
  have ar_0_4_1 : w_ar w1 (n_v vs 0) 4 = w_ar ws (n_v vs 0) 4 := congrArg v_ad (s1.2 _ _).symm
  have ar_0_4_2 : w_ar w2 (n_v vs 0) 4 = w_ar ws (n_v vs 0) 4 := by rw [← ar_0_4_1]; show v_ad (w_fd w2 _ _) = v_ad (w_fd w1 _ _); rw [s2.2]
  have cr_0_4 := fdq_143 hD hth r0
  have ad_9 : v_ad (n_v vs 9) = w_ar ws (n_v vs 0) 3 := (congrArg v_ad f4).trans ar_0_3_1
  have ad_13 : v_ad (n_v vs 13) = w_ar ws (n_v vs 0) 4 := (congrArg v_ad f5).trans ar_0_4_1
  simp only [ad_9] at f3
  have h3 : v_iv (n_v vs 14) = w_ei w1 (w_ar ws (n_v vs 0) 3) (v_iv (n_v vs 1)) := f3
  simp only [ad_9] at f8
  have h8 : v_iv (n_v vs 10) = w_ei w2 (w_ar ws (n_v vs 0) 3) (v_iv (n_v vs 1)) := f8
  simp only [ar_0_3_2, ar_0_2_2, ar_0_4_2] at f13
  have hE_0_2_1 : ∀ j : Int, w_ei ws (w_ar ws (n_v vs 0) 2) j = w_ei w1 (w_ar ws (n_v vs 0) 2) j := el_kp s1.1 r13 cr_0_2 (by decide)
  have hE_0_2_2 : ∀ j : Int, w_ei w1 (w_ar ws (n_v vs 0) 2) j = w_ei w2 (w_ar ws (n_v vs 0) 2) j := el_kp s2.1 r9 cr_0_2 (by decide)
  have hE_0_3_1 : ∀ j : Int, w_ei ws (w_ar ws (n_v vs 0) 3) j = w_ei w1 (w_ar ws (n_v vs 0) 3) j := el_kp s1.1 r13 cr_0_3 (by decide)
  have hE_0_3_2 : ∀ j : Int, 0 ≤ j → (j = v_iv (n_v vs 1) → w_ei w1 (w_ar ws (n_v vs 0) 3) j = v_iv (n_v vs 12)) ∧ (j ≠ v_iv (n_v vs 1) → w_ei w1 (w_ar ws (n_v vs 0) 3) j = w_ei w2 (w_ar ws (n_v vs 0) 3) j) := fun j hj => ⟨fun h => by unfold w_ei; rw [s2.1, if_pos ⟨ad_9.symm, by rw [h]⟩], fun h => by unfold w_ei; rw [s2.1, if_neg (fun e => h (by have := e.2; omega))]⟩
  have hE_0_4_1 : ∀ j : Int, 0 ≤ j → (j = v_iv (n_v vs 1) → w_ei ws (w_ar ws (n_v vs 0) 4) j = v_iv (n_v vs 14)) ∧ (j ≠ v_iv (n_v vs 1) → w_ei ws (w_ar ws (n_v vs 0) 4) j = w_ei w1 (w_ar ws (n_v vs 0) 4) j) := fun j hj => ⟨fun h => by unfold w_ei; rw [s1.1, if_pos ⟨ad_13.symm, by rw [h]⟩], fun h => by unfold w_ei; rw [s1.1, if_neg (fun e => h (by have := e.2; omega))]⟩
  have hE_0_4_2 : ∀ j : Int, w_ei w1 (w_ar ws (n_v vs 0) 4) j = w_ei w2 (w_ar ws (n_v vs 0) 4) j := el_kp s2.1 r9 cr_0_4 (by decide)
  have nf0 : fc_1 PRD (20, [4, 5, 2, 3], [60, 0, 3, 231, 2, 3, 4]) ws (vs) := by
    refine ⟨nf_in hl rfl, sgq_1315 ?_⟩
    · show T130v (w_ei ws (w_ar ws (n_v vs 4) 2)) (w_ei ws (w_ar ws (n_v vs 4) 3)) (w_ei ws (w_ar ws (n_v vs 4) 4)) (v_iv (n_v vs 5)) (v_iv (n_v vs 2)) (v_iv (n_v vs 3))
      simp only [q4, q5]
      exact vc_Mo_step_at_gv_9_0 (v_iv (n_v vs 1)) (v_iv (n_v vs 2)) (v_iv (n_v vs 3)) (v_iv (n_v vs 6)) (v_iv (n_v vs 7)) (v_iv (n_v vs 10)) (v_iv (n_v vs 12)) (v_iv (n_v vs 14)) (w_ei w1 (w_ar ws (n_v vs 0) 3)) (w_ei w2 (w_ar ws (n_v vs 0) 3)) (w_ei w2 (w_ar ws (n_v vs 0) 2)) (w_ei w2 (w_ar ws (n_v vs 0) 4)) (w_ei ws (w_ar ws (n_v vs 0) 2)) (w_ei w1 (w_ar ws (n_v vs 0) 2)) (w_ei ws (w_ar ws (n_v vs 0) 3)) (w_ei ws (w_ar ws (n_v vs 0) 4)) (w_ei w1 (w_ar ws (n_v vs 0) 4)) k1 k2 k3 k6 k7 k10 k12 k14 d0 h3 h8 f13 hE_0_2_1 hE_0_2_2 hE_0_3_1 hE_0_3_2 hE_0_4_1 hE_0_4_2
  refine ⟨(fun _ h => (by cases h)), [], trivial, ?_, (fun _ h => (by cases h))⟩
  rw [List.append_nil]
  exact List.forall_mem_cons.mpr ⟨⟨show (20 : Nat) < 100 from by decide, nf0⟩, (fun _ h => (by cases h))⟩
set_option maxHeartbeats 4000000 in
theorem vc_Mo_step_at_gv_10_0 (x1 : Int) (x2 : Int) (x3 : Int) (all_0 : Int → Int) (now_0 : Int → Int) (latest_0 : Int → Int) (r_0 : Int) (k1 : 0 ≤ x1 ∧ x1 ≤ 3) (k2 : 0 ≤ x2 ∧ x2 ≤ 48) (k3 : 0 ≤ x3 ∧ x3 ≤ 48) (f0 : T130v (all_0) (now_0) (latest_0) (x1) (x2) (x3)) (f3 : r_0 = ((16709 * x1) + (539 * now_0 (x1)))) : RWS (r_0) (all_0) (now_0) (latest_0) := by
  first
    | exact (t130_rws ‹T130n _ _ _ _ _ _› (by omega)).1
    | exact (t130_rws ‹T130e _ _ _ _ _ _› (by omega)).1
    | exact (t130_rws ‹T130d _ _ _ _ _ _› (by omega)).1
    | exact (t130_rws ‹T130v _ _ _ _ _ _› (by omega)).1
    | exact (t130_rws ‹T130x _ _ _ _› (by omega)).1
set_option maxHeartbeats 4000000 in
theorem vc_Mo_step_at_gv_10_1 (x1 : Int) (now_0 : Int → Int) (r_0 : Int) (k1 : 0 ≤ x1 ∧ x1 ≤ 3) (f3 : r_0 = ((16709 * x1) + (539 * now_0 (x1)))) : r_0 = ((16709 * x1) + (539 * now_0 (x1))) := by
  first | omega
set_option maxHeartbeats 4000000 in
theorem vc_Mo_step_at_gv_10_2 (x1 : Int) (x2 : Int) (x3 : Int) (all_0 : Int → Int) (now_0 : Int → Int) (latest_0 : Int → Int) (r_0 : Int) (k1 : 0 ≤ x1 ∧ x1 ≤ 3) (k2 : 0 ≤ x2 ∧ x2 ≤ 48) (k3 : 0 ≤ x3 ∧ x3 ≤ 48) (f0 : T130v (all_0) (now_0) (latest_0) (x1) (x2) (x3)) (f3 : r_0 = ((16709 * x1) + (539 * now_0 (x1)))) : CPv (r_0) (all_0) (x2) (x3) := by
  exact (t130_rws ‹T130v _ _ _ _ _ _› (by omega)).2
def o_Mo_step_at_gv_10 : or_T := (138, 15, [(1, (0, 0, 3, [])), (2, (0, 0, 48, [])), (3, (0, 0, 48, []))], [(20, [4, 5, 2, 3], [60, 0, 3, 231, 2, 3, 4]), (24, [0, 4], []), (24, [1, 5], []), (20, [4, 5], [50, 1, 1, 5, 3, 1, 3, 2, 0, 5, 4, 6, 6, 2, 0, 16709, 1, 1, 6, 2, 0, 539, 3, 0, 3, 1, 1])], [], [], [(20, [0], [60, 1, 3, 199, 5, 2, 3, 4]), (20, [0, 1], [50, 1, 1, 5, 3, 1, 3, 2, 0, 5, 4, 6, 6, 2, 0, 16709, 1, 1, 6, 2, 0, 539, 3, 0, 3, 1, 1]), (20, [0, 2, 3], [60, 1, 1, 228, 5, 2])], [], [])
theorem oo_Mo_step_at_gv_10 {kA : Nat → ClassId} : or_ok PRD kA GG o_Mo_step_at_gv_10 := by
  refine or_mk fun A ta ws vs hD hth hl => ?_
  intro t1 k1 t2 k2 t3 k3 f0 f1 f2 f3
  replace f0 := shm_1315 f0
  replace f1 := shm_5 f1
  replace f2 := shm_5 f2
  replace f3 := shm_1037 f3
  have q4 : n_v vs 4 = n_v vs 0 := f1.symm
  have q5 : n_v vs 5 = n_v vs 1 := f2.symm
  simp only [q4, q5] at f0 f3
  have nf0 : fc_1 PRD (20, [0], [60, 1, 3, 199, 5, 2, 3, 4]) ws (vs) := ⟨nf_in hl rfl, sgq_980 (vc_Mo_step_at_gv_10_0 (v_iv (n_v vs 1)) (v_iv (n_v vs 2)) (v_iv (n_v vs 3)) (w_ei ws (w_ar ws (n_v vs 0) 2)) (w_ei ws (w_ar ws (n_v vs 0) 3)) (w_ei ws (w_ar ws (n_v vs 0) 4)) (w_fi ws (n_v vs 0) 5) k1 k2 k3 f0 f3)⟩
  have nf1 : fc_1 PRD (20, [0, 1], [50, 1, 1, 5, 3, 1, 3, 2, 0, 5, 4, 6, 6, 2, 0, 16709, 1, 1, 6, 2, 0, 539, 3, 0, 3, 1, 1]) ws (vs) := ⟨nf_in hl rfl, sgq_1037 (vc_Mo_step_at_gv_10_1 (v_iv (n_v vs 1)) (w_ei ws (w_ar ws (n_v vs 0) 3)) (w_fi ws (n_v vs 0) 5) k1 f3)⟩
  have nf2 : fc_1 PRD (20, [0, 2, 3], [60, 1, 1, 228, 5, 2]) ws (vs) := ⟨nf_in hl rfl, sgq_1312 (vc_Mo_step_at_gv_10_2 (v_iv (n_v vs 1)) (v_iv (n_v vs 2)) (v_iv (n_v vs 3)) (w_ei ws (w_ar ws (n_v vs 0) 2)) (w_ei ws (w_ar ws (n_v vs 0) 3)) (w_ei ws (w_ar ws (n_v vs 0) 4)) (w_fi ws (n_v vs 0) 5) k1 k2 k3 f0 f3)⟩
  refine ⟨(fun _ h => (by cases h)), [], trivial, ?_, (fun _ h => (by cases h))⟩
  rw [List.append_nil]
  exact List.forall_mem_cons.mpr ⟨⟨show (20 : Nat) < 100 from by decide, nf0⟩, List.forall_mem_cons.mpr ⟨⟨show (20 : Nat) < 100 from by decide, nf1⟩, List.forall_mem_cons.mpr ⟨⟨show (20 : Nat) < 100 from by decide, nf2⟩, (fun _ h => (by cases h))⟩⟩⟩
def o_Mo_step_at_gv_11 : or_T := (99, 15, [(6, (5, 0, 66297, [539])), (7, (0, 0, 538, [])), (10, (0, 539, 539, [])), (11, (5, 539, 66836, [539])), (12, (0, 539, 67374, [])), (13, (0, 0, 66835, [])), (14, (0, -1, 255, [])), (9, (2, 0, 0, [167]))], [(10, [14, 9, 13], []), (1, [13, 6, 7], []), (1, [12, 11, 7], []), (1, [11, 6, 10], [])], [], [], [(18, [12, 14], [1])], [], [(13, 7, 0, 66297), (13, 6, 0, 538), (12, 7, 539, 66836), (12, 11, 0, 538), (12, 6, 539, 1077), (11, 6, 539, 539)])
theorem oo_Mo_step_at_gv_11 {kA : Nat → ClassId} : or_ok PRD kA GG o_Mo_step_at_gv_11 := by
  refine or_mk fun A ta ws vs hD hth hl => ?_
  intro t6 t7 k7 t10 k10 t11 t12 k12 t13 k13 t14 k14 t9 r9 d0 d1 d2 d3 d4 d5 f0 f1 f2 f3
  obtain ⟨k6, q6_⟩ : (0 ≤ v_iv (n_v vs 6) ∧ v_iv (n_v vs 6) ≤ 66297) ∧ ∃ q : Int, v_iv (n_v vs 6) = 539 * q := tv_dvk t6
  obtain ⟨q6, hq6⟩ := q6_
  obtain ⟨k11, q11_⟩ : (539 ≤ v_iv (n_v vs 11) ∧ v_iv (n_v vs 11) ≤ 66836) ∧ ∃ q : Int, v_iv (n_v vs 11) = 539 * q := tv_dvk t11
  obtain ⟨q11, hq11⟩ := q11_
  replace f0 := shm_107 f0
  replace f1 := shm_12 f1
  replace f2 := shm_12 f2
  replace f3 := shm_12 f3
  have nf0 : fc_1 PRD (18, [12, 14], [1]) ws (vs) := by
    refine ⟨nf_in hl rfl, sgq_1302 ?_⟩
    · show pl_ok 1 (v_iv (n_v vs 12)).toNat (v_iv (n_v vs 14))
      have e0 := pl_cp hD hth r9 (g := GG_167) rfl rfl rfl pl_M1 (i := (v_iv (n_v vs 13)).toNat) (j := (v_iv (n_v vs 12)).toNat) (by show (v_iv (n_v vs 13)).toNat < 66836; omega) (by omega)
      rw [← f0] at e0
      exact e0
  refine ⟨(fun _ h => (by cases h)), [], trivial, ?_, (fun _ h => (by cases h))⟩
  rw [List.append_nil]
  exact List.forall_mem_cons.mpr ⟨⟨show (18 : Nat) < 100 from by decide, nf0⟩, (fun _ h => (by cases h))⟩
def o_Mo_step_at_gv_12 : or_T := (99, 15, [(0, (2, 0, 0, [165])), (1, (0, 0, 3, [])), (2, (0, 0, 48, [])), (3, (0, 0, 48, [])), (4, (2, 0, 0, [165])), (5, (0, 0, 3, [])), (6, (0, 0, 66297, [])), (7, (0, 0, 538, [])), (8, (0, 539, 539, [])), (9, (2, 0, 0, [167])), (10, (0, 539, 539, [])), (11, (0, 539, 66836, [])), (12, (0, 539, 67374, [])), (13, (0, 0, 66835, [])), (14, (0, -1, 255, []))], [(10, [14, 9, 13], []), (1, [13, 6, 7], []), (9, [9, 4], [2]), (1, [12, 11, 7], []), (1, [11, 6, 10], []), (7, [7, 8], [2]), (20, [4, 5], [30, 29, 1, 2, 3]), (20, [6, 5, 4, 5], [30, 0, 1, 0, 0, -16709, 0, 0, -539, 2, 3]), (20, [6, 5, 4, 5], [30, 0, -1, 0, 0, 16709, 0, 0, 539, 2, 3]), (20, [4, 5, 6, 7, 2, 3], [60, 0, 3, 230, 2, 3, 4]), (24, [0, 4], []), (24, [1, 5], [])], [(12, (0, 539, 66835, []))], [], [], [], [(13, 7, 0, 66297), (13, 6, 0, 538), (12, 7, 539, 66836), (12, 11, 0, 538), (12, 6, 539, 1077), (11, 6, 539, 539), (1, 5, -4294967296, 0), (5, 1, -4294967296, 0)])
theorem oo_Mo_step_at_gv_12 {kA : Nat → ClassId} : or_ok PRD kA GG o_Mo_step_at_gv_12 := by
  refine or_mk fun A ta ws vs hD hth hl => ?_
  intro t0 r0 t1 k1 t2 k2 t3 k3 t4 r4 t5 k5 t6 k6 t7 k7 t8 k8 t9 r9 t10 k10 t11 k11 t12 k12 t13 k13 t14 k14 d0 d1 d2 d3 d4 d5 d6 d7 f0 f1 f2 f3 f4 f5 f6 f7 f8 f9 f10 f11
  replace f0 := shm_107 f0
  replace f1 := shm_12 f1
  replace f2 := shm_120 f2
  replace f3 := shm_12 f3
  replace f4 := shm_12 f4
  replace f5 := shm_6 f5
  replace f6 := shm_1296 f6
  replace f7 := shm_1297 f7
  replace f8 := shm_1298 f8
  replace f9 := shm_1313 f9
  replace f10 := shm_5 f10
  replace f11 := shm_5 f11
  have q4 : n_v vs 4 = n_v vs 0 := f10.symm
  have q5 : n_v vs 5 = n_v vs 1 := f11.symm
  simp only [q4, q5] at f2 f6 f7 f8 f9
  have cr_0_2 := fdq_10 hD hth r0
  have cr_0_3 := fdq_142 hD hth r0
  have cr_0_4 := fdq_143 hD hth r0
  have ad_9 : v_ad (n_v vs 9) = w_ar ws (n_v vs 0) 2 := congrArg v_ad f2
  simp only [ad_9] at f0
  have h0 : v_iv (n_v vs 14) = w_ei ws (w_ar ws (n_v vs 0) 2) (v_iv (n_v vs 13)) := f0
  have br_0_2_13_0 : w_ei ws (w_ar ws (n_v vs 0) 2) (v_iv (n_v vs 13)) = w_el ws (w_ar ws (n_v vs 0) 2) (v_iv (n_v vs 13)).toNat := rfl
  have br_0_3_1_0 : w_ei ws (w_ar ws (n_v vs 0) 3) (v_iv (n_v vs 1)) = w_el ws (w_ar ws (n_v vs 0) 3) (v_iv (n_v vs 1)).toNat := rfl
  have hK_0_3 := elq_80 hD hth cr_0_3
  have hK_0_4 := elq_81 hD hth cr_0_4
  have rf12 : tv_ok ta (0, 539, 66835, []) (n_v vs 12) := tv_in t12 (by first | omega | grind) (by first | omega | grind)
  refine ⟨List.forall_mem_cons.mpr ⟨rf12, (fun _ h => (by cases h))⟩, [], trivial, ?_, (fun _ h => (by cases h))⟩
  rw [List.append_nil]
  exact (fun _ h => (by cases h))
set_option maxHeartbeats 4000000 in
theorem vc_Mo_step_at_gv_13_0 (x1 : Int) (x2 : Int) (x3 : Int) (x5 : Int) (x6 : Int) (x7 : Int) (x11 : Int) (x12 : Int) (x13 : Int) (x14 : Int) (x15 : Int) (now_0 : Int → Int) (all_1 : Int → Int) (now_1 : Int → Int) (latest_1 : Int → Int) (all_0 : Int → Int) (latest_0 : Int → Int) (k1 : 0 ≤ x1 ∧ x1 ≤ 3) (k2 : 0 ≤ x2 ∧ x2 ≤ 48) (k3 : 0 ≤ x3 ∧ x3 ≤ 48) (k5 : 0 ≤ x5 ∧ x5 ≤ 3) (k6 : 0 ≤ x6 ∧ x6 ≤ 66297) (k7 : 0 ≤ x7 ∧ x7 ≤ 538) (k11 : 539 ≤ x11 ∧ x11 ≤ 66836) (k12 : 539 ≤ x12 ∧ x12 ≤ 66835) (k13 : 0 ≤ x13 ∧ x13 ≤ 66835) (k14 : (-1) ≤ x14 ∧ x14 ≤ 255) (k15 : 1 ≤ x15 ∧ x15 ≤ 539) (d0 : x7 + 1 ≤ x15 ∧ x15 ≤ x7 + 1) (d6 : x6 + 539 ≤ x11 ∧ x11 ≤ x6 + 539) (d7 : x5 + (-4294967296) ≤ x1 ∧ x1 ≤ x5 + 0) (d8 : x1 + (-4294967296) ≤ x5 ∧ x5 ≤ x1 + 0) (f0 : x15 = x7 + 1) (f2 : 1 * x6 + ((-16709) * x1 + ((-539) * now_0 (x1) + 0)) ≤ 0) (f3 : (-1) * x6 + (16709 * x1 + (539 * now_0 (x1) + 0)) ≤ 0) (h7 : x14 = all_1 (x13)) (f8 : x13 = x6 + x7) (f10 : x12 = x11 + x7) (f16 : T73v (all_1) (now_1) (latest_1) (x1) (x6) (x7) (x2) (x3)) (hE_0_2_1 : ∀ j : Int, 0 ≤ j → (j = x12 → all_0 j = x14) ∧ (j ≠ x12 → all_0 j = all_1 j)) (hE_0_3_1 : ∀ j : Int, now_0 j = now_1 j) (hE_0_4_1 : ∀ j : Int, latest_0 j = latest_1 j) : T73v (all_0) (now_0) (latest_0) (x1) (x6) (x15) (x2) (x3) := by
  have e_hE_0_3_1 := funext hE_0_3_1; subst e_hE_0_3_1
  have e_hE_0_4_1 := funext hE_0_4_1; subst e_hE_0_4_1
  first
    | exact t73_step ‹T73v _ _ _ _ _ _ _ _› (by assumption) (by omega) (by omega) (by omega) (by assumption) (by omega)
def o_Mo_step_at_gv_13 : or_T := (73, 16, [(0, (2, 0, 0, [165])), (1, (0, 0, 3, [])), (2, (0, 0, 48, [])), (3, (0, 0, 48, [])), (5, (0, 0, 3, [])), (6, (0, 0, 66297, [])), (7, (0, 0, 538, [])), (9, (2, 0, 0, [167])), (11, (0, 539, 66836, [])), (12, (0, 539, 66835, [])), (13, (0, 0, 66835, [])), (14, (0, -1, 255, [])), (15, (0, 1, 539, []))], [(6, [15, 7], [1]), (20, [6, 5, 4, 5], [30, 0, 1, 0, 0, -16709, 0, 0, -539, 2, 3]), (20, [6, 5, 4, 5], [30, 0, -1, 0, 0, 16709, 0, 0, 539, 2, 3]), (24, [0, 4], []), (24, [1, 5], []), (100, [9, 12, 14], []), (10, [14, 9, 13], []), (1, [13, 6, 7], []), (9, [9, 4], [2]), (1, [12, 11, 7], []), (20, [4, 5, 6, 7, 2, 3], [60, 0, 3, 230, 2, 3, 4])], [], [], [(20, [4, 5, 6, 15, 2, 3], [60, 0, 3, 230, 2, 3, 4])], [], [(15, 7, 1, 1), (12, 7, 539, 66836), (12, 11, 0, 538), (12, 6, 539, 1077), (11, 6, 539, 539), (1, 5, -4294967296, 0), (5, 1, -4294967296, 0)])
theorem oo_Mo_step_at_gv_13 {kA : Nat → ClassId} : or_ok PRD kA GG o_Mo_step_at_gv_13 := by
  refine or_mk fun A ta ws vs hD hth hl => ?_
  intro t0 r0 t1 k1 t2 k2 t3 k3 t5 k5 t6 k6 t7 k7 t9 r9 t11 k11 t12 k12 t13 k13 t14 k14 t15 k15 d0 d3 d4 d5 d6 d7 d8 f0 f2 f3 f4 f5 ta1 w1 le1 s1 f7 f8 f9 f10 f16
  replace f0 := shm_4 f0
  replace f2 := shm_1297 f2
  replace f3 := shm_1298 f3
  replace f4 := shm_5 f4
  replace f5 := shm_5 f5
  have s1 : (∀ b j, w_el ws b j = if b = v_ad (n_v vs 9) ∧ j = (v_iv (n_v vs 12)).toNat then v_iv (n_v vs 14) else w_el w1 b j) ∧ ∀ b k, w_fd ws b k = w_fd w1 b k := s1.2
  replace f7 := shm_107 f7
  replace f8 := shm_12 f8
  replace f9 := shm_120 f9
  replace f10 := shm_12 f10
  replace f16 := shm_1313 f16
  have q4 : n_v vs 4 = n_v vs 0 := f4.symm
  have q5 : n_v vs 5 = n_v vs 1 := f5.symm
  simp only [q4, q5] at f2 f3 f9 f16
  have ar_0_2_1 : w_ar w1 (n_v vs 0) 2 = w_ar ws (n_v vs 0) 2 := congrArg v_ad (s1.2 _ _).symm
  have ar_0_3_1 : w_ar w1 (n_v vs 0) 3 = w_ar ws (n_v vs 0) 3 := congrArg v_ad (s1.2 _ _).symm
  have cr_0_3 := fdq_142 hD hth r0
  have ar_0_4_1 : w_ar w1 (n_v vs 0) 4 = w_ar ws (n_v vs 0) 4 := congrArg v_ad (s1.2 _ _).symm
  have cr_0_4 := fdq_143 hD hth r0
  have ad_9 : v_ad (n_v vs 9) = w_ar ws (n_v vs 0) 2 := (congrArg v_ad f9).trans ar_0_2_1
  simp only [ad_9] at f7
  have h7 : v_iv (n_v vs 14) = w_ei w1 (w_ar ws (n_v vs 0) 2) (v_iv (n_v vs 13)) := f7
  simp only [ar_0_3_1, ar_0_2_1, ar_0_4_1] at f16
  have hE_0_2_1 : ∀ j : Int, 0 ≤ j → (j = v_iv (n_v vs 12) → w_ei ws (w_ar ws (n_v vs 0) 2) j = v_iv (n_v vs 14)) ∧ (j ≠ v_iv (n_v vs 12) → w_ei ws (w_ar ws (n_v vs 0) 2) j = w_ei w1 (w_ar ws (n_v vs 0) 2) j) := fun j hj => ⟨fun h => by unfold w_ei; rw [s1.1, if_pos ⟨ad_9.symm, by rw [h]⟩], fun h => by unfold w_ei; rw [s1.1, if_neg (fun e => h (by have := e.2; omega))]⟩
  have hE_0_3_1 : ∀ j : Int, w_ei ws (w_ar ws (n_v vs 0) 3) j = w_ei w1 (w_ar ws (n_v vs 0) 3) j := el_kp s1.1 r9 cr_0_3 (by decide)
  have hE_0_4_1 : ∀ j : Int, w_ei ws (w_ar ws (n_v vs 0) 4) j = w_ei w1 (w_ar ws (n_v vs 0) 4) j := el_kp s1.1 r9 cr_0_4 (by decide)
  have nf0 : fc_1 PRD (20, [4, 5, 6, 15, 2, 3], [60, 0, 3, 230, 2, 3, 4]) ws (vs) := by
    refine ⟨nf_in hl rfl, sgq_1313 ?_⟩
    · show T73v (w_ei ws (w_ar ws (n_v vs 4) 2)) (w_ei ws (w_ar ws (n_v vs 4) 3)) (w_ei ws (w_ar ws (n_v vs 4) 4)) (v_iv (n_v vs 5)) (v_iv (n_v vs 6)) (v_iv (n_v vs 15)) (v_iv (n_v vs 2)) (v_iv (n_v vs 3))
      simp only [q4, q5]
      exact vc_Mo_step_at_gv_13_0 (v_iv (n_v vs 1)) (v_iv (n_v vs 2)) (v_iv (n_v vs 3)) (v_iv (n_v vs 5)) (v_iv (n_v vs 6)) (v_iv (n_v vs 7)) (v_iv (n_v vs 11)) (v_iv (n_v vs 12)) (v_iv (n_v vs 13)) (v_iv (n_v vs 14)) (v_iv (n_v vs 15)) (w_ei ws (w_ar ws (n_v vs 0) 3)) (w_ei w1 (w_ar ws (n_v vs 0) 2)) (w_ei w1 (w_ar ws (n_v vs 0) 3)) (w_ei w1 (w_ar ws (n_v vs 0) 4)) (w_ei ws (w_ar ws (n_v vs 0) 2)) (w_ei ws (w_ar ws (n_v vs 0) 4)) k1 k2 k3 k5 k6 k7 k11 k12 k13 k14 k15 d0 d6 d7 d8 f0 f2 f3 h7 f8 f10 f16 hE_0_2_1 hE_0_3_1 hE_0_4_1
  refine ⟨(fun _ h => (by cases h)), [], trivial, ?_, (fun _ h => (by cases h))⟩
  rw [List.append_nil]
  exact List.forall_mem_cons.mpr ⟨⟨show (20 : Nat) < 100 from by decide, nf0⟩, (fun _ h => (by cases h))⟩
def n_Mo_step_at_gv_an : List an_T := [(13, [(0, (2, 0, 0, [165])), (1, (0, 0, 3, [])), (2, (0, 0, 16170, []))], [], (0, 0), [(0, 0, 99987), (1, 6, 16170), (0, 0, 100000)], [(1, 5, (Int.negSucc 999999999999), 0), (5, 1, (Int.negSucc 999999999999), 0)], [], [(2, 0, 0, [165]), (0, 0, 3, []), (0, 0, 48, []), (0, 0, 48, [])], 0, [], [(20, [4, 5], [30, (Int.negSucc 29), (Int.negSucc 0), 2, 3]), (20, [4, 5, 6, 2, 3], [60, 0, 3, 229, 2, 3, 4]), (24, [0, 4], []), (24, [1, 5], [])]), (73, [(0, (2, 0, 0, [165])), (1, (0, 0, 3, [])), (2, (5, 0, 66297, [539])), (3, (0, 0, 539, []))], [], (0, 0), [(0, 0, 99927), (1, 7, 539), (0, 0, 100000)], [(1, 5, (Int.negSucc 999999999999), 0), (5, 1, (Int.negSucc 999999999999), 0)], [], [(2, 0, 0, [165]), (0, 0, 3, []), (0, 0, 48, []), (0, 0, 48, [])], 0, [], [(20, [4, 5], [30, 29, 1, 2, 3]), (20, [6, 5, 4, 5], [30, 0, 1, 0, 0, (Int.negSucc 16708), 0, 0, (Int.negSucc 538), 2, 3]), (20, [6, 5, 4, 5], [30, 0, (Int.negSucc 0), 0, 0, 16709, 0, 0, 539, 2, 3]), (20, [4, 5, 6, 7, 2, 3], [60, 0, 3, 230, 2, 3, 4]), (24, [0, 4], []), (24, [1, 5], [])])]
def t_Mo_step_at_gv_ct : ct_L := [(0, 372, e_Mo_rowOf), (1, 524, e_Mo_changed), (1, 527, e_Mo_take)]
set_option maxRecDepth 100000 in
theorem c_Mo_step_at_gv {l : Launch} {D : va_G} {kA : Nat → ClassId} (h_Mo_changed : ct_ok PRD l D kA GG y_Mo_changed z_Mo_changed e_Mo_changed) (h_Mo_rowOf : ct_ok PRD l D kA GG y_Mo_rowOf z_Mo_rowOf e_Mo_rowOf) (h_Mo_take : ct_ok PRD l D kA GG y_Mo_take z_Mo_take e_Mo_take) : ct_ok PRD l D kA GG y_Mo_step_at_gv z_Mo_step_at_gv e_Mo_step_at_gv := chk_all_ok (FT := [(16, 13, 2), (20, 13, 3), (23, 13, 4)]) (PT := []) (CT := t_Mo_step_at_gv_ct) (KT := []) (NT := []) (AN := n_Mo_step_at_gv_an) (OT := [o_Mo_step_at_gv_0, o_Mo_step_at_gv_1, o_Mo_step_at_gv_2, o_Mo_step_at_gv_3, o_Mo_step_at_gv_4, o_Mo_step_at_gv_5, o_Mo_step_at_gv_6, o_Mo_step_at_gv_7, o_Mo_step_at_gv_8, o_Mo_step_at_gv_9, o_Mo_step_at_gv_10, o_Mo_step_at_gv_11, o_Mo_step_at_gv_12, o_Mo_step_at_gv_13]) 3 388 (List.forall_mem_cons.mpr ⟨oo_Mo_step_at_gv_0, List.forall_mem_cons.mpr ⟨oo_Mo_step_at_gv_1, List.forall_mem_cons.mpr ⟨oo_Mo_step_at_gv_2, List.forall_mem_cons.mpr ⟨oo_Mo_step_at_gv_3, List.forall_mem_cons.mpr ⟨oo_Mo_step_at_gv_4, List.forall_mem_cons.mpr ⟨oo_Mo_step_at_gv_5, List.forall_mem_cons.mpr ⟨oo_Mo_step_at_gv_6, List.forall_mem_cons.mpr ⟨oo_Mo_step_at_gv_7, List.forall_mem_cons.mpr ⟨oo_Mo_step_at_gv_8, List.forall_mem_cons.mpr ⟨oo_Mo_step_at_gv_9, List.forall_mem_cons.mpr ⟨oo_Mo_step_at_gv_10, List.forall_mem_cons.mpr ⟨oo_Mo_step_at_gv_11, List.forall_mem_cons.mpr ⟨oo_Mo_step_at_gv_12, List.forall_mem_cons.mpr ⟨oo_Mo_step_at_gv_13, List.forall_mem_nil _⟩⟩⟩⟩⟩⟩⟩⟩⟩⟩⟩⟩⟩⟩) (by decide +kernel) ⟨List.forall_mem_cons.mpr ⟨gf_Mo_16, List.forall_mem_cons.mpr ⟨gf_Mo_20, List.forall_mem_cons.mpr ⟨gf_Mo_23, List.forall_mem_nil _⟩⟩⟩, List.forall_mem_nil _, List.forall_mem_cons.mpr ⟨cl_static (y := y_Mo_rowOf) h_Mo_rowOf wm_2420 wm_9 wm_2418 wm_2419 ⟨by decide, by decide, by decide +kernel⟩ (by decide), List.forall_mem_cons.mpr ⟨cl_virtual (y := y_Mo_changed) (ci := 13) rfl rfl ⟨_, _, rfl⟩ (by decide +kernel) h_Mo_changed wm_3083 wm_9 wm_3080 wm_3082 wv_14_1 ⟨by decide, by decide, by decide +kernel⟩ (by decide), List.forall_mem_cons.mpr ⟨cl_virtual (y := y_Mo_take) (ci := 13) rfl rfl ⟨_, _, rfl⟩ (by decide +kernel) h_Mo_take wm_3091 wm_9 wm_3088 wm_3090 wv_14_2 ⟨by decide, by decide, by decide +kernel⟩ (by decide), List.forall_mem_nil _⟩⟩⟩, List.forall_mem_nil _, List.forall_mem_nil _, GG_pl⟩ (by decide +kernel)

set_option maxHeartbeats 4000000 in
theorem vc_Mo_step_at_gx_0_0 (x1 : Int) (x3 : Int) (now_0 : Int → Int) (k1 : 0 ≤ x1 ∧ x1 ≤ 3) (k3 : 0 ≤ x3 ∧ x3 ≤ 29) (h5 : x3 = now_0 (x1)) : 1 * now_0 (x1) + 0 ≤ 29 := by
  first
    | omega
    | (have q := hE_0_3_1 x1 (by omega); omega)
set_option maxHeartbeats 4000000 in
theorem vc_Mo_step_at_gx_0_1 (x1 : Int) (x5 : Int) (x6 : Int) (now_0 : Int → Int) (k1 : 0 ≤ x1 ∧ x1 ≤ 3) (k5 : 0 ≤ x5 ∧ x5 ≤ 30) (k6 : 0 ≤ x6 ∧ x6 ≤ 66297) (f0 : 1 * x6 + ((-16709) * x1 + ((-539) * x5 + 0)) ≤ 0) (f1 : (-1) * x6 + (16709 * x1 + (539 * x5 + 0)) ≤ 0) (h2 : x5 = now_0 (x1)) : 1 * x6 + ((-16709) * x1 + ((-539) * now_0 (x1) + 0)) ≤ 0 := by
  first
    | omega
    | (have q := hE_0_3_1 x1 (by omega); omega)
set_option maxHeartbeats 4000000 in
theorem vc_Mo_step_at_gx_0_2 (x1 : Int) (x5 : Int) (x6 : Int) (now_0 : Int → Int) (k1 : 0 ≤ x1 ∧ x1 ≤ 3) (k5 : 0 ≤ x5 ∧ x5 ≤ 30) (k6 : 0 ≤ x6 ∧ x6 ≤ 66297) (f0 : 1 * x6 + ((-16709) * x1 + ((-539) * x5 + 0)) ≤ 0) (f1 : (-1) * x6 + (16709 * x1 + (539 * x5 + 0)) ≤ 0) (h2 : x5 = now_0 (x1)) : (-1) * x6 + (16709 * x1 + (539 * now_0 (x1) + 0)) ≤ 0 := by
  first
    | omega
    | (have q := hE_0_3_1 x1 (by omega); omega)
set_option maxHeartbeats 4000000 in
theorem vc_Mo_step_at_gx_0_3 (x1 : Int) (x3 : Int) (x5 : Int) (x6 : Int) (x7 : Int) (now_0 : Int → Int) (all_0 : Int → Int) (latest_0 : Int → Int) (r_0 : Int) (k1 : 0 ≤ x1 ∧ x1 ≤ 3) (k3 : 0 ≤ x3 ∧ x3 ≤ 29) (k5 : 0 ≤ x5 ∧ x5 ≤ 30) (k6 : 0 ≤ x6 ∧ x6 ≤ 66297) (k7 : 0 ≤ x7 ∧ x7 ≤ 0) (f0 : 1 * x6 + ((-16709) * x1 + ((-539) * x5 + 0)) ≤ 0) (f1 : (-1) * x6 + (16709 * x1 + (539 * x5 + 0)) ≤ 0) (h2 : x5 = now_0 (x1)) (h5 : x3 = now_0 (x1)) (f6 : RWS (r_0) (all_0) (now_0) (latest_0)) (f7 : r_0 = ((16709 * x1) + (539 * now_0 (x1)))) : T73x (all_0) (now_0) (latest_0) (x1) (x6) (x7) := by
  first
    | exact t73_start (t60_now ‹RWS _ _ _ _› (by omega) cpx_0 (by omega) (by omega) (by omega)) (by omega) (by omega)
def o_Mo_step_at_gx_0 : or_T := (73, 8, [(1, (0, 0, 3, [])), (3, (0, 0, 29, [])), (5, (0, 0, 30, [])), (6, (0, 0, 66297, [])), (7, (0, 0, 0, []))], [(23, [6, 1, 5], [0, 1, -16709, -539]), (23, [6, 1, 5], [0, -1, 16709, 539]), (10, [5, 2, 1], []), (9, [2, 0], [3]), (10, [3, 2, 1], []), (20, [0], [60, 1, 3, 199, 5, 2, 3, 4]), (20, [0, 1], [50, 1, 1, 5, 3, 1, 3, 2, 0, 5, 4, 6, 6, 2, 0, 16709, 1, 1, 6, 2, 0, 539, 3, 0, 3, 1, 1])], [], [], [(20, [0, 1], [30, 29, 1, 2, 3]), (20, [6, 1, 0, 1], [30, 0, 1, 0, 0, -16709, 0, 0, -539, 2, 3]), (20, [6, 1, 0, 1], [30, 0, -1, 0, 0, 16709, 0, 0, 539, 2, 3]), (20, [0, 1, 6, 7], [60, 0, 3, 233, 2, 3, 4]), (24, [0, 0], []), (24, [1, 1], [])], [], [])
theorem oo_Mo_step_at_gx_0 {kA : Nat → ClassId} : or_ok PRD kA GG o_Mo_step_at_gx_0 := by
  refine or_mk fun A ta ws vs hD hth hl => ?_
  intro t1 k1 t3 k3 t5 k5 t6 k6 t7 k7 f0 f1 f2 f3 f5 f6 f7
  replace f2 := shm_107 f2
  replace f3 := shm_137 f3
  replace f5 := shm_107 f5
  have ad_2 : v_ad (n_v vs 2) = w_ar ws (n_v vs 0) 3 := congrArg v_ad f3
  simp only [ad_2] at f2
  have h2 : v_iv (n_v vs 5) = w_ei ws (w_ar ws (n_v vs 0) 3) (v_iv (n_v vs 1)) := f2
  simp only [ad_2] at f5
  have h5 : v_iv (n_v vs 3) = w_ei ws (w_ar ws (n_v vs 0) 3) (v_iv (n_v vs 1)) := f5
  have nf0 : fc_1 PRD (20, [0, 1], [30, 29, 1, 2, 3]) ws (vs) := ⟨nf_in hl rfl, sgq_1296 (vc_Mo_step_at_gx_0_0 (v_iv (n_v vs 1)) (v_iv (n_v vs 3)) (w_ei ws (w_ar ws (n_v vs 0) 3)) k1 k3 h5)⟩
  have nf1 : fc_1 PRD (20, [6, 1, 0, 1], [30, 0, 1, 0, 0, -16709, 0, 0, -539, 2, 3]) ws (vs) := ⟨nf_in hl rfl, sgq_1297 (vc_Mo_step_at_gx_0_1 (v_iv (n_v vs 1)) (v_iv (n_v vs 5)) (v_iv (n_v vs 6)) (w_ei ws (w_ar ws (n_v vs 0) 3)) k1 k5 k6 (shm_128 f0) (shm_129 f1) h2)⟩
  have nf2 : fc_1 PRD (20, [6, 1, 0, 1], [30, 0, -1, 0, 0, 16709, 0, 0, 539, 2, 3]) ws (vs) := ⟨nf_in hl rfl, sgq_1298 (vc_Mo_step_at_gx_0_2 (v_iv (n_v vs 1)) (v_iv (n_v vs 5)) (v_iv (n_v vs 6)) (w_ei ws (w_ar ws (n_v vs 0) 3)) k1 k5 k6 (shm_128 f0) (shm_129 f1) h2)⟩
  have nf3 : fc_1 PRD (20, [0, 1, 6, 7], [60, 0, 3, 233, 2, 3, 4]) ws (vs) := ⟨nf_in hl rfl, sgq_1316 (vc_Mo_step_at_gx_0_3 (v_iv (n_v vs 1)) (v_iv (n_v vs 3)) (v_iv (n_v vs 5)) (v_iv (n_v vs 6)) (v_iv (n_v vs 7)) (w_ei ws (w_ar ws (n_v vs 0) 3)) (w_ei ws (w_ar ws (n_v vs 0) 2)) (w_ei ws (w_ar ws (n_v vs 0) 4)) (w_fi ws (n_v vs 0) 5) k1 k3 k5 k6 k7 (shm_128 f0) (shm_129 f1) h2 h5 (shm_980 f6) (shm_1037 f7))⟩
  have nf4 : fc_1 PRD (24, [0, 0], []) ws (vs) := by
    refine ⟨nf_in hl rfl, sgq_1 ?_⟩
    · show n_v vs 0 = n_v vs 0
      first | rfl | simp only [true_and]
  have nf5 : fc_1 PRD (24, [1, 1], []) ws (vs) := by
    refine ⟨nf_in hl rfl, sgq_1 ?_⟩
    · show n_v vs 1 = n_v vs 1
      first | rfl | simp only [true_and]
  refine ⟨(fun _ h => (by cases h)), [], trivial, ?_, (fun _ h => (by cases h))⟩
  rw [List.append_nil]
  exact List.forall_mem_cons.mpr ⟨⟨show (20 : Nat) < 100 from by decide, nf0⟩, List.forall_mem_cons.mpr ⟨⟨show (20 : Nat) < 100 from by decide, nf1⟩, List.forall_mem_cons.mpr ⟨⟨show (20 : Nat) < 100 from by decide, nf2⟩, List.forall_mem_cons.mpr ⟨⟨show (20 : Nat) < 100 from by decide, nf3⟩, List.forall_mem_cons.mpr ⟨⟨show (24 : Nat) < 100 from by decide, nf4⟩, List.forall_mem_cons.mpr ⟨⟨show (24 : Nat) < 100 from by decide, nf5⟩, (fun _ h => (by cases h))⟩⟩⟩⟩⟩⟩
set_option maxHeartbeats 4000000 in
theorem vc_Mo_step_at_gx_1_0 (x1 : Int) (x3 : Int) (now_0 : Int → Int) (k1 : 0 ≤ x1 ∧ x1 ≤ 3) (k3 : 30 ≤ x3 ∧ x3 ≤ 30) (h1 : x3 = now_0 (x1)) : (-1) * now_0 (x1) + 0 ≤ (-30) := by
  first | omega
set_option maxHeartbeats 4000000 in
theorem vc_Mo_step_at_gx_1_1 (x1 : Int) (x3 : Int) (x5 : Int) (now_0 : Int → Int) (all_0 : Int → Int) (latest_0 : Int → Int) (r_0 : Int) (k1 : 0 ≤ x1 ∧ x1 ≤ 3) (k3 : 30 ≤ x3 ∧ x3 ≤ 30) (k5 : 0 ≤ x5 ∧ x5 ≤ 0) (h1 : x3 = now_0 (x1)) (f3 : RWS (r_0) (all_0) (now_0) (latest_0)) (f4 : r_0 = ((16709 * x1) + (539 * now_0 (x1)))) : T13x (all_0) (now_0) (latest_0) (x1) (x5) := by
  first
    | exact t13_start ‹RWS _ _ _ _› (by omega) cpx_0 (by omega) (by omega) (by omega) (by omega)
def o_Mo_step_at_gx_1 : or_T := (13, 6, [(1, (0, 0, 3, [])), (3, (0, 30, 30, [])), (5, (0, 0, 0, []))], [(10, [3, 2, 1], []), (9, [2, 0], [3]), (20, [0], [60, 1, 3, 199, 5, 2, 3, 4]), (20, [0, 1], [50, 1, 1, 5, 3, 1, 3, 2, 0, 5, 4, 6, 6, 2, 0, 16709, 1, 1, 6, 2, 0, 539, 3, 0, 3, 1, 1])], [], [], [(20, [0, 1], [30, -30, -1, 2, 3]), (20, [0, 1, 5], [60, 0, 3, 232, 2, 3, 4]), (24, [0, 0], []), (24, [1, 1], [])], [], [])
theorem oo_Mo_step_at_gx_1 {kA : Nat → ClassId} : or_ok PRD kA GG o_Mo_step_at_gx_1 := by
  refine or_mk fun A ta ws vs hD hth hl => ?_
  intro t1 k1 t3 k3 t5 k5 f1 f2 f3 f4
  replace f1 := shm_107 f1
  replace f2 := shm_137 f2
  have ad_2 : v_ad (n_v vs 2) = w_ar ws (n_v vs 0) 3 := congrArg v_ad f2
  simp only [ad_2] at f1
  have h1 : v_iv (n_v vs 3) = w_ei ws (w_ar ws (n_v vs 0) 3) (v_iv (n_v vs 1)) := f1
  have nf0 : fc_1 PRD (20, [0, 1], [30, -30, -1, 2, 3]) ws (vs) := ⟨nf_in hl rfl, sgq_1300 (vc_Mo_step_at_gx_1_0 (v_iv (n_v vs 1)) (v_iv (n_v vs 3)) (w_ei ws (w_ar ws (n_v vs 0) 3)) k1 k3 h1)⟩
  have nf1 : fc_1 PRD (20, [0, 1, 5], [60, 0, 3, 232, 2, 3, 4]) ws (vs) := ⟨nf_in hl rfl, sgq_1317 (vc_Mo_step_at_gx_1_1 (v_iv (n_v vs 1)) (v_iv (n_v vs 3)) (v_iv (n_v vs 5)) (w_ei ws (w_ar ws (n_v vs 0) 3)) (w_ei ws (w_ar ws (n_v vs 0) 2)) (w_ei ws (w_ar ws (n_v vs 0) 4)) (w_fi ws (n_v vs 0) 5) k1 k3 k5 h1 (shm_980 f3) (shm_1037 f4))⟩
  have nf2 : fc_1 PRD (24, [0, 0], []) ws (vs) := by
    refine ⟨nf_in hl rfl, sgq_1 ?_⟩
    · show n_v vs 0 = n_v vs 0
      first | rfl | simp only [true_and]
  have nf3 : fc_1 PRD (24, [1, 1], []) ws (vs) := by
    refine ⟨nf_in hl rfl, sgq_1 ?_⟩
    · show n_v vs 1 = n_v vs 1
      first | rfl | simp only [true_and]
  refine ⟨(fun _ h => (by cases h)), [], trivial, ?_, (fun _ h => (by cases h))⟩
  rw [List.append_nil]
  exact List.forall_mem_cons.mpr ⟨⟨show (20 : Nat) < 100 from by decide, nf0⟩, List.forall_mem_cons.mpr ⟨⟨show (20 : Nat) < 100 from by decide, nf1⟩, List.forall_mem_cons.mpr ⟨⟨show (24 : Nat) < 100 from by decide, nf2⟩, List.forall_mem_cons.mpr ⟨⟨show (24 : Nat) < 100 from by decide, nf3⟩, (fun _ h => (by cases h))⟩⟩⟩⟩
def o_Mo_step_at_gx_2 : or_T := (59, 10, [(0, (2, 0, 0, [165])), (1, (0, 0, 3, [])), (2, (2, 0, 0, [165])), (3, (0, 0, 3, [])), (4, (0, 16170, 16170, [])), (5, (0, 16170, 16170, [])), (6, (2, 0, 0, [168])), (7, (0, 0, 30, [])), (8, (0, 1, 1, [])), (9, (0, -1, 29, []))], [(2, [9, 7, 8], []), (10, [7, 6, 3], []), (9, [6, 2], [3]), (7, [4, 5], [3]), (20, [2, 3], [30, -30, -1, 2, 3]), (20, [2, 3, 4], [60, 0, 3, 232, 2, 3, 4]), (24, [0, 2], []), (24, [1, 3], [])], [(9, (0, 0, 29, []))], [], [], [], [(9, 7, -1, -1), (1, 3, -4294967296, 0), (3, 1, -4294967296, 0)])
theorem oo_Mo_step_at_gx_2 {kA : Nat → ClassId} : or_ok PRD kA GG o_Mo_step_at_gx_2 := by
  refine or_mk fun A ta ws vs hD hth hl => ?_
  intro t0 r0 t1 k1 t2 r2 t3 k3 t4 k4 t5 k5 t6 r6 t7 k7 t8 k8 t9 k9 d0 d1 d2 f0 f1 f2 f3 f4 f5 f6 f7
  replace f0 := shm_14 f0
  replace f1 := shm_107 f1
  replace f2 := shm_137 f2
  replace f3 := shm_2 f3
  replace f4 := shm_1300 f4
  replace f5 := shm_1317 f5
  replace f6 := shm_5 f6
  replace f7 := shm_5 f7
  have q2 : n_v vs 2 = n_v vs 0 := f6.symm
  have q3 : n_v vs 3 = n_v vs 1 := f7.symm
  simp only [q3, q2] at f1 f2 f4 f5
  have cr_0_2 := fdq_10 hD hth r0
  have cr_0_3 := fdq_142 hD hth r0
  have cr_0_4 := fdq_143 hD hth r0
  have ad_6 : v_ad (n_v vs 6) = w_ar ws (n_v vs 0) 3 := congrArg v_ad f2
  simp only [ad_6] at f1
  have h1 : v_iv (n_v vs 7) = w_ei ws (w_ar ws (n_v vs 0) 3) (v_iv (n_v vs 1)) := f1
  have br_0_3_1_0 : w_ei ws (w_ar ws (n_v vs 0) 3) (v_iv (n_v vs 1)) = w_el ws (w_ar ws (n_v vs 0) 3) (v_iv (n_v vs 1)).toNat := rfl
  have hK_0_3 := elq_80 hD hth cr_0_3
  have hK_0_4 := elq_81 hD hth cr_0_4
  have rf9 : tv_ok ta (0, 0, 29, []) (n_v vs 9) := tv_in t9 (by first | omega | grind) (by first | omega | grind)
  refine ⟨List.forall_mem_cons.mpr ⟨rf9, (fun _ h => (by cases h))⟩, [], trivial, ?_, (fun _ h => (by cases h))⟩
  rw [List.append_nil]
  exact (fun _ h => (by cases h))
set_option maxHeartbeats 4000000 in
theorem vc_Mo_step_at_gx_3_0 (x1 : Int) (x3 : Int) (x7 : Int) (x9 : Int) (x10 : Int) (now_0 : Int → Int) (now_1 : Int → Int) (all_1 : Int → Int) (latest_1 : Int → Int) (all_0 : Int → Int) (latest_0 : Int → Int) (k1 : 0 ≤ x1 ∧ x1 ≤ 3) (k3 : 0 ≤ x3 ∧ x3 ≤ 3) (k7 : 0 ≤ x7 ∧ x7 ≤ 30) (k9 : 0 ≤ x9 ∧ x9 ≤ 29) (k10 : 0 ≤ x10 ∧ x10 ≤ 30) (d0 : x7 + (-1) ≤ x9 ∧ x9 ≤ x7 + (-1)) (d1 : x3 + (-4294967296) ≤ x1 ∧ x1 ≤ x3 + 0) (d2 : x1 + (-4294967296) ≤ x3 ∧ x3 ≤ x1 + 0) (h2 : x10 = now_0 (x1)) (h8 : x7 = now_1 (x1)) (f10 : (-1) * now_1 (x1) + 0 ≤ (-30)) (hE_0_2_1 : ∀ j : Int, all_0 j = all_1 j) (hE_0_3_1 : ∀ j : Int, 0 ≤ j → (j = x1 → now_0 j = x9) ∧ (j ≠ x1 → now_0 j = now_1 j)) (hE_0_4_1 : ∀ j : Int, latest_0 j = latest_1 j) : 1 * now_0 (x1) + 0 ≤ 29 := by
  have e_hE_0_2_1 := funext hE_0_2_1; subst e_hE_0_2_1
  have e_hE_0_4_1 := funext hE_0_4_1; subst e_hE_0_4_1
  first
    | omega
    | (have q := hE_0_3_1 x1 (by omega); omega)
set_option maxHeartbeats 4000000 in
theorem vc_Mo_step_at_gx_3_1 (x1 : Int) (x3 : Int) (x9 : Int) (x10 : Int) (x11 : Int) (now_0 : Int → Int) (now_1 : Int → Int) (all_1 : Int → Int) (latest_1 : Int → Int) (all_0 : Int → Int) (latest_0 : Int → Int) (k1 : 0 ≤ x1 ∧ x1 ≤ 3) (k3 : 0 ≤ x3 ∧ x3 ≤ 3) (k9 : 0 ≤ x9 ∧ x9 ≤ 29) (k10 : 0 ≤ x10 ∧ x10 ≤ 30) (k11 : 0 ≤ x11 ∧ x11 ≤ 66297) (d1 : x3 + (-4294967296) ≤ x1 ∧ x1 ≤ x3 + 0) (d2 : x1 + (-4294967296) ≤ x3 ∧ x3 ≤ x1 + 0) (f0 : 1 * x11 + ((-16709) * x1 + ((-539) * x10 + 0)) ≤ 0) (f1 : (-1) * x11 + (16709 * x1 + (539 * x10 + 0)) ≤ 0) (h2 : x10 = now_0 (x1)) (hE_0_2_1 : ∀ j : Int, all_0 j = all_1 j) (hE_0_3_1 : ∀ j : Int, 0 ≤ j → (j = x1 → now_0 j = x9) ∧ (j ≠ x1 → now_0 j = now_1 j)) (hE_0_4_1 : ∀ j : Int, latest_0 j = latest_1 j) : 1 * x11 + ((-16709) * x1 + ((-539) * now_0 (x1) + 0)) ≤ 0 := by
  have e_hE_0_2_1 := funext hE_0_2_1; subst e_hE_0_2_1
  have e_hE_0_4_1 := funext hE_0_4_1; subst e_hE_0_4_1
  first
    | omega
    | (have q := hE_0_3_1 x1 (by omega); omega)
set_option maxHeartbeats 4000000 in
theorem vc_Mo_step_at_gx_3_2 (x1 : Int) (x3 : Int) (x9 : Int) (x10 : Int) (x11 : Int) (now_0 : Int → Int) (now_1 : Int → Int) (all_1 : Int → Int) (latest_1 : Int → Int) (all_0 : Int → Int) (latest_0 : Int → Int) (k1 : 0 ≤ x1 ∧ x1 ≤ 3) (k3 : 0 ≤ x3 ∧ x3 ≤ 3) (k9 : 0 ≤ x9 ∧ x9 ≤ 29) (k10 : 0 ≤ x10 ∧ x10 ≤ 30) (k11 : 0 ≤ x11 ∧ x11 ≤ 66297) (d1 : x3 + (-4294967296) ≤ x1 ∧ x1 ≤ x3 + 0) (d2 : x1 + (-4294967296) ≤ x3 ∧ x3 ≤ x1 + 0) (f0 : 1 * x11 + ((-16709) * x1 + ((-539) * x10 + 0)) ≤ 0) (f1 : (-1) * x11 + (16709 * x1 + (539 * x10 + 0)) ≤ 0) (h2 : x10 = now_0 (x1)) (hE_0_2_1 : ∀ j : Int, all_0 j = all_1 j) (hE_0_3_1 : ∀ j : Int, 0 ≤ j → (j = x1 → now_0 j = x9) ∧ (j ≠ x1 → now_0 j = now_1 j)) (hE_0_4_1 : ∀ j : Int, latest_0 j = latest_1 j) : (-1) * x11 + (16709 * x1 + (539 * now_0 (x1) + 0)) ≤ 0 := by
  have e_hE_0_2_1 := funext hE_0_2_1; subst e_hE_0_2_1
  have e_hE_0_4_1 := funext hE_0_4_1; subst e_hE_0_4_1
  first
    | omega
    | (have q := hE_0_3_1 x1 (by omega); omega)
set_option maxHeartbeats 4000000 in
theorem vc_Mo_step_at_gx_3_3 (x1 : Int) (x3 : Int) (x4 : Int) (x7 : Int) (x9 : Int) (x10 : Int) (x11 : Int) (x12 : Int) (now_0 : Int → Int) (now_1 : Int → Int) (all_1 : Int → Int) (latest_1 : Int → Int) (all_0 : Int → Int) (latest_0 : Int → Int) (k1 : 0 ≤ x1 ∧ x1 ≤ 3) (k3 : 0 ≤ x3 ∧ x3 ≤ 3) (k4 : 16170 ≤ x4 ∧ x4 ≤ 16170) (k7 : 0 ≤ x7 ∧ x7 ≤ 30) (k9 : 0 ≤ x9 ∧ x9 ≤ 29) (k10 : 0 ≤ x10 ∧ x10 ≤ 30) (k11 : 0 ≤ x11 ∧ x11 ≤ 66297) (k12 : 0 ≤ x12 ∧ x12 ≤ 0) (d0 : x7 + (-1) ≤ x9 ∧ x9 ≤ x7 + (-1)) (d1 : x3 + (-4294967296) ≤ x1 ∧ x1 ≤ x3 + 0) (d2 : x1 + (-4294967296) ≤ x3 ∧ x3 ≤ x1 + 0) (f0 : 1 * x11 + ((-16709) * x1 + ((-539) * x10 + 0)) ≤ 0) (f1 : (-1) * x11 + (16709 * x1 + (539 * x10 + 0)) ≤ 0) (h2 : x10 = now_0 (x1)) (h8 : x7 = now_1 (x1)) (f11 : T13x (all_1) (now_1) (latest_1) (x1) (x4)) (hE_0_2_1 : ∀ j : Int, all_0 j = all_1 j) (hE_0_3_1 : ∀ j : Int, 0 ≤ j → (j = x1 → now_0 j = x9) ∧ (j ≠ x1 → now_0 j = now_1 j)) (hE_0_4_1 : ∀ j : Int, latest_0 j = latest_1 j) : T73x (all_0) (now_0) (latest_0) (x1) (x11) (x12) := by
  have e_hE_0_2_1 := funext hE_0_2_1; subst e_hE_0_2_1
  have e_hE_0_4_1 := funext hE_0_4_1; subst e_hE_0_4_1
  first
    | exact t73_start (t60_shift ‹T13x _ _ _ _ _› (by omega) (by assumption) (by omega) (by omega)) (by omega) (by omega)
def o_Mo_step_at_gx_3 : or_T := (73, 13, [(0, (2, 0, 0, [165])), (1, (0, 0, 3, [])), (3, (0, 0, 3, [])), (4, (0, 16170, 16170, [])), (6, (2, 0, 0, [168])), (7, (0, 0, 30, [])), (9, (0, 0, 29, [])), (10, (0, 0, 30, [])), (11, (0, 0, 66297, [])), (12, (0, 0, 0, []))], [(23, [11, 3, 10], [0, 1, -16709, -539]), (23, [11, 3, 10], [0, -1, 16709, 539]), (10, [10, 6, 3], []), (9, [6, 2], [3]), (24, [0, 2], []), (24, [1, 3], []), (100, [6, 3, 9], []), (10, [7, 6, 3], []), (20, [2, 3], [30, -30, -1, 2, 3]), (20, [2, 3, 4], [60, 0, 3, 232, 2, 3, 4])], [], [], [(20, [2, 3], [30, 29, 1, 2, 3]), (20, [11, 3, 2, 3], [30, 0, 1, 0, 0, -16709, 0, 0, -539, 2, 3]), (20, [11, 3, 2, 3], [30, 0, -1, 0, 0, 16709, 0, 0, 539, 2, 3]), (20, [2, 3, 11, 12], [60, 0, 3, 233, 2, 3, 4])], [], [(9, 7, -1, -1), (1, 3, -4294967296, 0), (3, 1, -4294967296, 0)])
theorem oo_Mo_step_at_gx_3 {kA : Nat → ClassId} : or_ok PRD kA GG o_Mo_step_at_gx_3 := by
  refine or_mk fun A ta ws vs hD hth hl => ?_
  intro t0 r0 t1 k1 t3 k3 t4 k4 t6 r6 t7 k7 t9 k9 t10 k10 t11 k11 t12 k12 d0 d1 d2 f0 f1 f2 f3 f4 f5 ta1 w1 le1 s1 f8 f10 f11
  replace f0 := shm_128 f0
  replace f1 := shm_129 f1
  replace f2 := shm_107 f2
  replace f3 := shm_137 f3
  replace f4 := shm_5 f4
  replace f5 := shm_5 f5
  have s1 : (∀ b j, w_el ws b j = if b = v_ad (n_v vs 6) ∧ j = (v_iv (n_v vs 3)).toNat then v_iv (n_v vs 9) else w_el w1 b j) ∧ ∀ b k, w_fd ws b k = w_fd w1 b k := s1.2
  replace f8 := shm_107 f8
  replace f10 := shm_1300 f10
  replace f11 := shm_1317 f11
  have q2 : n_v vs 2 = n_v vs 0 := f4.symm
  have q3 : n_v vs 3 = n_v vs 1 := f5.symm
  simp only [q3, q2] at f0 f1 f2 f3
  rw [q3] at s1
  simp only [q3, q2] at f8 f10 f11
  have ar_0_2_1 : w_ar w1 (n_v vs 0) 2 = w_ar ws (n_v vs 0) 2 := congrArg v_ad (s1.2 _ _).symm
  have cr_0_2 := fdq_10 hD hth r0
  have ar_0_3_1 : w_ar w1 (n_v vs 0) 3 = w_ar ws (n_v vs 0) 3 := congrArg v_ad (s1.2 _ _).symm
  have ar_0_4_1 : w_ar w1 (n_v vs 0) 4 = w_ar ws (n_v vs 0) 4 := congrArg v_ad (s1.2 _ _).symm
  have cr_0_4 := fdq_143 hD hth r0
  have ad_6 : v_ad (n_v vs 6) = w_ar ws (n_v vs 0) 3 := congrArg v_ad f3
  simp only [ad_6] at f2
  have h2 : v_iv (n_v vs 10) = w_ei ws (w_ar ws (n_v vs 0) 3) (v_iv (n_v vs 1)) := f2
  simp only [ad_6] at f8
  have h8 : v_iv (n_v vs 7) = w_ei w1 (w_ar ws (n_v vs 0) 3) (v_iv (n_v vs 1)) := f8
  simp only [ar_0_3_1, ar_0_2_1, ar_0_4_1] at f10 f11
  have hE_0_2_1 : ∀ j : Int, w_ei ws (w_ar ws (n_v vs 0) 2) j = w_ei w1 (w_ar ws (n_v vs 0) 2) j := el_kp s1.1 r6 cr_0_2 (by decide)
  have hE_0_3_1 : ∀ j : Int, 0 ≤ j → (j = v_iv (n_v vs 1) → w_ei ws (w_ar ws (n_v vs 0) 3) j = v_iv (n_v vs 9)) ∧ (j ≠ v_iv (n_v vs 1) → w_ei ws (w_ar ws (n_v vs 0) 3) j = w_ei w1 (w_ar ws (n_v vs 0) 3) j) := fun j hj => ⟨fun h => by unfold w_ei; rw [s1.1, if_pos ⟨ad_6.symm, by rw [h]⟩], fun h => by unfold w_ei; rw [s1.1, if_neg (fun e => h (by have := e.2; omega))]⟩
  have hE_0_4_1 : ∀ j : Int, w_ei ws (w_ar ws (n_v vs 0) 4) j = w_ei w1 (w_ar ws (n_v vs 0) 4) j := el_kp s1.1 r6 cr_0_4 (by decide)
  have nf0 : fc_1 PRD (20, [2, 3], [30, 29, 1, 2, 3]) ws (vs) := by
    refine ⟨nf_in hl rfl, sgq_1296 ?_⟩
    · show 1 * w_el ws (w_ar ws (n_v vs 2) 3) (v_iv (n_v vs 3)).toNat + 0 ≤ 29
      simp only [q2, q3]
      exact vc_Mo_step_at_gx_3_0 (v_iv (n_v vs 1)) (v_iv (n_v vs 3)) (v_iv (n_v vs 7)) (v_iv (n_v vs 9)) (v_iv (n_v vs 10)) (w_ei ws (w_ar ws (n_v vs 0) 3)) (w_ei w1 (w_ar ws (n_v vs 0) 3)) (w_ei w1 (w_ar ws (n_v vs 0) 2)) (w_ei w1 (w_ar ws (n_v vs 0) 4)) (w_ei ws (w_ar ws (n_v vs 0) 2)) (w_ei ws (w_ar ws (n_v vs 0) 4)) k1 k3 k7 k9 k10 d0 d1 d2 h2 h8 f10 hE_0_2_1 hE_0_3_1 hE_0_4_1
  have nf1 : fc_1 PRD (20, [11, 3, 2, 3], [30, 0, 1, 0, 0, -16709, 0, 0, -539, 2, 3]) ws (vs) := by
    refine ⟨nf_in hl rfl, sgq_1297 ?_⟩
    · show 1 * v_iv (n_v vs 11) + ((-16709) * v_iv (n_v vs 3) + ((-539) * w_el ws (w_ar ws (n_v vs 2) 3) (v_iv (n_v vs 3)).toNat + 0)) ≤ 0
      simp only [q2, q3]
      exact vc_Mo_step_at_gx_3_1 (v_iv (n_v vs 1)) (v_iv (n_v vs 3)) (v_iv (n_v vs 9)) (v_iv (n_v vs 10)) (v_iv (n_v vs 11)) (w_ei ws (w_ar ws (n_v vs 0) 3)) (w_ei w1 (w_ar ws (n_v vs 0) 3)) (w_ei w1 (w_ar ws (n_v vs 0) 2)) (w_ei w1 (w_ar ws (n_v vs 0) 4)) (w_ei ws (w_ar ws (n_v vs 0) 2)) (w_ei ws (w_ar ws (n_v vs 0) 4)) k1 k3 k9 k10 k11 d1 d2 f0 f1 h2 hE_0_2_1 hE_0_3_1 hE_0_4_1
  have nf2 : fc_1 PRD (20, [11, 3, 2, 3], [30, 0, -1, 0, 0, 16709, 0, 0, 539, 2, 3]) ws (vs) := by
    refine ⟨nf_in hl rfl, sgq_1298 ?_⟩
    · show (-1) * v_iv (n_v vs 11) + (16709 * v_iv (n_v vs 3) + (539 * w_el ws (w_ar ws (n_v vs 2) 3) (v_iv (n_v vs 3)).toNat + 0)) ≤ 0
      simp only [q2, q3]
      exact vc_Mo_step_at_gx_3_2 (v_iv (n_v vs 1)) (v_iv (n_v vs 3)) (v_iv (n_v vs 9)) (v_iv (n_v vs 10)) (v_iv (n_v vs 11)) (w_ei ws (w_ar ws (n_v vs 0) 3)) (w_ei w1 (w_ar ws (n_v vs 0) 3)) (w_ei w1 (w_ar ws (n_v vs 0) 2)) (w_ei w1 (w_ar ws (n_v vs 0) 4)) (w_ei ws (w_ar ws (n_v vs 0) 2)) (w_ei ws (w_ar ws (n_v vs 0) 4)) k1 k3 k9 k10 k11 d1 d2 f0 f1 h2 hE_0_2_1 hE_0_3_1 hE_0_4_1
  have nf3 : fc_1 PRD (20, [2, 3, 11, 12], [60, 0, 3, 233, 2, 3, 4]) ws (vs) := by
    refine ⟨nf_in hl rfl, sgq_1316 ?_⟩
    · show T73x (w_ei ws (w_ar ws (n_v vs 2) 2)) (w_ei ws (w_ar ws (n_v vs 2) 3)) (w_ei ws (w_ar ws (n_v vs 2) 4)) (v_iv (n_v vs 3)) (v_iv (n_v vs 11)) (v_iv (n_v vs 12))
      simp only [q2, q3]
      exact vc_Mo_step_at_gx_3_3 (v_iv (n_v vs 1)) (v_iv (n_v vs 3)) (v_iv (n_v vs 4)) (v_iv (n_v vs 7)) (v_iv (n_v vs 9)) (v_iv (n_v vs 10)) (v_iv (n_v vs 11)) (v_iv (n_v vs 12)) (w_ei ws (w_ar ws (n_v vs 0) 3)) (w_ei w1 (w_ar ws (n_v vs 0) 3)) (w_ei w1 (w_ar ws (n_v vs 0) 2)) (w_ei w1 (w_ar ws (n_v vs 0) 4)) (w_ei ws (w_ar ws (n_v vs 0) 2)) (w_ei ws (w_ar ws (n_v vs 0) 4)) k1 k3 k4 k7 k9 k10 k11 k12 d0 d1 d2 f0 f1 h2 h8 f11 hE_0_2_1 hE_0_3_1 hE_0_4_1
  refine ⟨(fun _ h => (by cases h)), [], trivial, ?_, (fun _ h => (by cases h))⟩
  rw [List.append_nil]
  exact List.forall_mem_cons.mpr ⟨⟨show (20 : Nat) < 100 from by decide, nf0⟩, List.forall_mem_cons.mpr ⟨⟨show (20 : Nat) < 100 from by decide, nf1⟩, List.forall_mem_cons.mpr ⟨⟨show (20 : Nat) < 100 from by decide, nf2⟩, List.forall_mem_cons.mpr ⟨⟨show (20 : Nat) < 100 from by decide, nf3⟩, (fun _ h => (by cases h))⟩⟩⟩⟩
def o_Mo_step_at_gx_4 : or_T := (42, 13, [(0, (2, 0, 0, [165])), (1, (0, 0, 3, [])), (2, (2, 0, 0, [165])), (3, (0, 0, 3, [])), (4, (0, 0, 16169, [])), (5, (0, 16170, 16170, [])), (6, (2, 0, 0, [167])), (7, (0, 0, 0, [])), (8, (0, 0, 66297, [])), (9, (0, 0, 82466, [])), (10, (0, 1, 1, [])), (11, (0, 0, 66297, [])), (12, (0, 0, 82466, []))], [(1, [12, 11, 4], []), (23, [11, 3, 10], [0, 1, -16709, -539]), (23, [11, 3, 10], [0, -1, 16709, 539]), (9, [6, 2], [2]), (1, [9, 8, 4], []), (23, [8, 3, 7], [0, 1, -16709, -539]), (23, [8, 3, 7], [0, -1, 16709, 539]), (7, [4, 5], [2]), (20, [2, 3], [30, -30, -1, 2, 3]), (20, [2, 3, 4], [60, 0, 3, 232, 2, 3, 4]), (24, [0, 2], []), (24, [1, 3], [])], [(12, (0, 0, 66835, []))], [], [], [], [(12, 4, 0, 66297), (12, 11, 0, 16169), (9, 4, 0, 66297), (9, 8, 0, 16169), (1, 3, -4294967296, 0), (3, 1, -4294967296, 0)])
theorem oo_Mo_step_at_gx_4 {kA : Nat → ClassId} : or_ok PRD kA GG o_Mo_step_at_gx_4 := by
  refine or_mk fun A ta ws vs hD hth hl => ?_
  intro t0 r0 t1 k1 t2 r2 t3 k3 t4 k4 t5 k5 t6 r6 t7 k7 t8 k8 t9 k9 t10 k10 t11 k11 t12 k12 d0 d1 d2 d3 d4 d5 f0 f1 f2 f3 f4 f5 f6 f7 f8 f9 f10 f11
  replace f0 := shm_12 f0
  replace f1 := shm_128 f1
  replace f2 := shm_129 f2
  replace f3 := shm_120 f3
  replace f4 := shm_12 f4
  replace f5 := shm_128 f5
  replace f6 := shm_129 f6
  replace f7 := shm_6 f7
  replace f8 := shm_1300 f8
  replace f9 := shm_1317 f9
  replace f10 := shm_5 f10
  replace f11 := shm_5 f11
  have q2 : n_v vs 2 = n_v vs 0 := f10.symm
  have q3 : n_v vs 3 = n_v vs 1 := f11.symm
  simp only [q3, q2] at f1 f2 f3 f5 f6 f8 f9
  have cr_0_2 := fdq_10 hD hth r0
  have cr_0_3 := fdq_142 hD hth r0
  have cr_0_4 := fdq_143 hD hth r0
  have ad_6 : v_ad (n_v vs 6) = w_ar ws (n_v vs 0) 2 := congrArg v_ad f3
  have br_0_3_1_0 : w_ei ws (w_ar ws (n_v vs 0) 3) (v_iv (n_v vs 1)) = w_el ws (w_ar ws (n_v vs 0) 3) (v_iv (n_v vs 1)).toNat := rfl
  have hK_0_3 := elq_80 hD hth cr_0_3
  have hK_0_4 := elq_81 hD hth cr_0_4
  have rf12 : tv_ok ta (0, 0, 66835, []) (n_v vs 12) := tv_in t12 (by first | omega | grind) (by first | omega | grind)
  refine ⟨List.forall_mem_cons.mpr ⟨rf12, (fun _ h => (by cases h))⟩, [], trivial, ?_, (fun _ h => (by cases h))⟩
  rw [List.append_nil]
  exact (fun _ h => (by cases h))
def o_Mo_step_at_gx_5 : or_T := (43, 14, [(3, (0, 0, 3, [])), (4, (0, 0, 16169, [])), (7, (0, 0, 0, [])), (8, (5, 0, 66297, [539])), (9, (0, 0, 82466, [])), (10, (0, 1, 1, [])), (11, (5, 0, 66297, [539])), (12, (0, 0, 66835, [])), (13, (0, -1, 255, [])), (6, (2, 0, 0, [167]))], [(10, [13, 6, 12], []), (1, [12, 11, 4], []), (23, [11, 3, 10], [0, 1, -16709, -539]), (23, [11, 3, 10], [0, -1, 16709, 539]), (1, [9, 8, 4], []), (23, [8, 3, 7], [0, 1, -16709, -539]), (23, [8, 3, 7], [0, -1, 16709, 539])], [], [], [(18, [9, 13], [1])], [], [(12, 4, 0, 66297), (12, 11, 0, 16169), (9, 4, 0, 66297), (9, 8, 0, 16169)])
theorem oo_Mo_step_at_gx_5 {kA : Nat → ClassId} : or_ok PRD kA GG o_Mo_step_at_gx_5 := by
  refine or_mk fun A ta ws vs hD hth hl => ?_
  intro t3 k3 t4 k4 t7 k7 t8 t9 k9 t10 k10 t11 t12 k12 t13 k13 t6 r6 d0 d1 d2 d3 f0 f1 f2 f3 f4 f5 f6
  obtain ⟨k8, q8_⟩ : (0 ≤ v_iv (n_v vs 8) ∧ v_iv (n_v vs 8) ≤ 66297) ∧ ∃ q : Int, v_iv (n_v vs 8) = 539 * q := tv_dvk t8
  obtain ⟨q8, hq8⟩ := q8_
  obtain ⟨k11, q11_⟩ : (0 ≤ v_iv (n_v vs 11) ∧ v_iv (n_v vs 11) ≤ 66297) ∧ ∃ q : Int, v_iv (n_v vs 11) = 539 * q := tv_dvk t11
  obtain ⟨q11, hq11⟩ := q11_
  replace f0 := shm_107 f0
  replace f1 := shm_12 f1
  replace f2 := shm_128 f2
  replace f3 := shm_129 f3
  replace f4 := shm_12 f4
  replace f5 := shm_128 f5
  replace f6 := shm_129 f6
  have nf0 : fc_1 PRD (18, [9, 13], [1]) ws (vs) := by
    refine ⟨nf_in hl rfl, sgq_1302 ?_⟩
    · show pl_ok 1 (v_iv (n_v vs 9)).toNat (v_iv (n_v vs 13))
      have e0 := pl_cp hD hth r6 (g := GG_167) rfl rfl rfl pl_M1 (i := (v_iv (n_v vs 12)).toNat) (j := (v_iv (n_v vs 9)).toNat) (by show (v_iv (n_v vs 12)).toNat < 66836; omega) (by omega)
      rw [← f0] at e0
      exact e0
  refine ⟨(fun _ h => (by cases h)), [], trivial, ?_, (fun _ h => (by cases h))⟩
  rw [List.append_nil]
  exact List.forall_mem_cons.mpr ⟨⟨show (18 : Nat) < 100 from by decide, nf0⟩, (fun _ h => (by cases h))⟩
def o_Mo_step_at_gx_6 : or_T := (43, 14, [(0, (2, 0, 0, [165])), (1, (0, 0, 3, [])), (2, (2, 0, 0, [165])), (3, (0, 0, 3, [])), (4, (0, 0, 16169, [])), (5, (0, 16170, 16170, [])), (6, (2, 0, 0, [167])), (7, (0, 0, 0, [])), (8, (0, 0, 66297, [])), (9, (0, 0, 82466, [])), (10, (0, 1, 1, [])), (11, (0, 0, 66297, [])), (12, (0, 0, 66835, [])), (13, (0, -1, 255, []))], [(10, [13, 6, 12], []), (1, [12, 11, 4], []), (23, [11, 3, 10], [0, 1, -16709, -539]), (23, [11, 3, 10], [0, -1, 16709, 539]), (9, [6, 2], [2]), (1, [9, 8, 4], []), (23, [8, 3, 7], [0, 1, -16709, -539]), (23, [8, 3, 7], [0, -1, 16709, 539]), (7, [4, 5], [2]), (20, [2, 3], [30, -30, -1, 2, 3]), (20, [2, 3, 4], [60, 0, 3, 232, 2, 3, 4]), (24, [0, 2], []), (24, [1, 3], [])], [(9, (0, 0, 66835, []))], [], [], [], [(12, 4, 0, 66297), (12, 11, 0, 16169), (9, 4, 0, 66297), (9, 8, 0, 16169), (1, 3, -4294967296, 0), (3, 1, -4294967296, 0)])
theorem oo_Mo_step_at_gx_6 {kA : Nat → ClassId} : or_ok PRD kA GG o_Mo_step_at_gx_6 := by
  refine or_mk fun A ta ws vs hD hth hl => ?_
  intro t0 r0 t1 k1 t2 r2 t3 k3 t4 k4 t5 k5 t6 r6 t7 k7 t8 k8 t9 k9 t10 k10 t11 k11 t12 k12 t13 k13 d0 d1 d2 d3 d4 d5 f0 f1 f2 f3 f4 f5 f6 f7 f8 f9 f10 f11 f12
  replace f0 := shm_107 f0
  replace f1 := shm_12 f1
  replace f2 := shm_128 f2
  replace f3 := shm_129 f3
  replace f4 := shm_120 f4
  replace f5 := shm_12 f5
  replace f6 := shm_128 f6
  replace f7 := shm_129 f7
  replace f8 := shm_6 f8
  replace f9 := shm_1300 f9
  replace f10 := shm_1317 f10
  replace f11 := shm_5 f11
  replace f12 := shm_5 f12
  have q2 : n_v vs 2 = n_v vs 0 := f11.symm
  have q3 : n_v vs 3 = n_v vs 1 := f12.symm
  simp only [q3, q2] at f2 f3 f4 f6 f7 f9 f10
  have cr_0_2 := fdq_10 hD hth r0
  have cr_0_3 := fdq_142 hD hth r0
  have cr_0_4 := fdq_143 hD hth r0
  have ad_6 : v_ad (n_v vs 6) = w_ar ws (n_v vs 0) 2 := congrArg v_ad f4
  simp only [ad_6] at f0
  have h0 : v_iv (n_v vs 13) = w_ei ws (w_ar ws (n_v vs 0) 2) (v_iv (n_v vs 12)) := f0
  have br_0_2_12_0 : w_ei ws (w_ar ws (n_v vs 0) 2) (v_iv (n_v vs 12)) = w_el ws (w_ar ws (n_v vs 0) 2) (v_iv (n_v vs 12)).toNat := rfl
  have br_0_3_1_0 : w_ei ws (w_ar ws (n_v vs 0) 3) (v_iv (n_v vs 1)) = w_el ws (w_ar ws (n_v vs 0) 3) (v_iv (n_v vs 1)).toNat := rfl
  have hK_0_3 := elq_80 hD hth cr_0_3
  have hK_0_4 := elq_81 hD hth cr_0_4
  have rf9 : tv_ok ta (0, 0, 66835, []) (n_v vs 9) := tv_in t9 (by first | omega | grind) (by first | omega | grind)
  refine ⟨List.forall_mem_cons.mpr ⟨rf9, (fun _ h => (by cases h))⟩, [], trivial, ?_, (fun _ h => (by cases h))⟩
  rw [List.append_nil]
  exact (fun _ h => (by cases h))
set_option maxHeartbeats 4000000 in
theorem vc_Mo_step_at_gx_7_0 (x1 : Int) (x3 : Int) (x4 : Int) (x7 : Int) (x8 : Int) (x9 : Int) (x10 : Int) (x11 : Int) (x12 : Int) (x13 : Int) (x14 : Int) (now_0 : Int → Int) (all_1 : Int → Int) (now_1 : Int → Int) (latest_1 : Int → Int) (all_0 : Int → Int) (latest_0 : Int → Int) (k1 : 0 ≤ x1 ∧ x1 ≤ 3) (k3 : 0 ≤ x3 ∧ x3 ≤ 3) (k4 : 0 ≤ x4 ∧ x4 ≤ 16169) (k7 : 0 ≤ x7 ∧ x7 ≤ 0) (k8 : 0 ≤ x8 ∧ x8 ≤ 66297) (k9 : 0 ≤ x9 ∧ x9 ≤ 66835) (k10 : 1 ≤ x10 ∧ x10 ≤ 1) (k11 : 0 ≤ x11 ∧ x11 ≤ 66297) (k12 : 0 ≤ x12 ∧ x12 ≤ 66835) (k13 : (-1) ≤ x13 ∧ x13 ≤ 255) (k14 : 1 ≤ x14 ∧ x14 ≤ 16170) (d0 : x4 + 1 ≤ x14 ∧ x14 ≤ x4 + 1) (d4 : x8 + 0 ≤ x9 ∧ x9 ≤ x8 + 16169) (d5 : x3 + (-4294967296) ≤ x1 ∧ x1 ≤ x3 + 0) (d6 : x1 + (-4294967296) ≤ x3 ∧ x3 ≤ x1 + 0) (f0 : x14 = x4 + 1) (f1 : 1 * x11 + ((-16709) * x1 + ((-539) * x10 + 0)) ≤ 0) (f2 : (-1) * x11 + (16709 * x1 + (539 * x10 + 0)) ≤ 0) (f3 : 1 * x8 + ((-16709) * x1 + ((-539) * x7 + 0)) ≤ 0) (f4 : (-1) * x8 + (16709 * x1 + (539 * x7 + 0)) ≤ 0) (h9 : x13 = all_1 (x12)) (f10 : x12 = x11 + x4) (f14 : x9 = x8 + x4) (f19 : T13x (all_1) (now_1) (latest_1) (x1) (x4)) (hE_0_2_1 : ∀ j : Int, 0 ≤ j → (j = x9 → all_0 j = x13) ∧ (j ≠ x9 → all_0 j = all_1 j)) (hE_0_3_1 : ∀ j : Int, now_0 j = now_1 j) (hE_0_4_1 : ∀ j : Int, latest_0 j = latest_1 j) : T13x (all_0) (now_0) (latest_0) (x1) (x14) := by
  have e_hE_0_3_1 := funext hE_0_3_1; subst e_hE_0_3_1
  have e_hE_0_4_1 := funext hE_0_4_1; subst e_hE_0_4_1
  first
    | exact t13_step ‹T13x _ _ _ _ _› (by assumption) (by omega) (by omega) (by omega) (by assumption) (by omega)
def o_Mo_step_at_gx_7 : or_T := (13, 15, [(0, (2, 0, 0, [165])), (1, (0, 0, 3, [])), (3, (0, 0, 3, [])), (4, (0, 0, 16169, [])), (6, (2, 0, 0, [167])), (7, (0, 0, 0, [])), (8, (0, 0, 66297, [])), (9, (0, 0, 66835, [])), (10, (0, 1, 1, [])), (11, (0, 0, 66297, [])), (12, (0, 0, 66835, [])), (13, (0, -1, 255, [])), (14, (0, 1, 16170, []))], [(6, [14, 4], [1]), (23, [11, 3, 10], [0, 1, -16709, -539]), (23, [11, 3, 10], [0, -1, 16709, 539]), (23, [8, 3, 7], [0, 1, -16709, -539]), (23, [8, 3, 7], [0, -1, 16709, 539]), (24, [0, 2], []), (24, [1, 3], []), (100, [6, 9, 13], []), (10, [13, 6, 12], []), (1, [12, 11, 4], []), (9, [6, 2], [2]), (1, [9, 8, 4], []), (20, [2, 3, 4], [60, 0, 3, 232, 2, 3, 4])], [], [], [(20, [2, 3, 14], [60, 0, 3, 232, 2, 3, 4])], [], [(14, 4, 1, 1), (9, 4, 0, 66297), (9, 8, 0, 16169), (1, 3, -4294967296, 0), (3, 1, -4294967296, 0)])
theorem oo_Mo_step_at_gx_7 {kA : Nat → ClassId} : or_ok PRD kA GG o_Mo_step_at_gx_7 := by
  refine or_mk fun A ta ws vs hD hth hl => ?_
  intro t0 r0 t1 k1 t3 k3 t4 k4 t6 r6 t7 k7 t8 k8 t9 k9 t10 k10 t11 k11 t12 k12 t13 k13 t14 k14 d0 d3 d4 d5 d6 f0 f1 f2 f3 f4 f6 f7 ta1 w1 le1 s1 f9 f10 f13 f14 f19
  replace f0 := shm_4 f0
  replace f1 := shm_128 f1
  replace f2 := shm_129 f2
  replace f3 := shm_128 f3
  replace f4 := shm_129 f4
  replace f6 := shm_5 f6
  replace f7 := shm_5 f7
  have s1 : (∀ b j, w_el ws b j = if b = v_ad (n_v vs 6) ∧ j = (v_iv (n_v vs 9)).toNat then v_iv (n_v vs 13) else w_el w1 b j) ∧ ∀ b k, w_fd ws b k = w_fd w1 b k := s1.2
  replace f9 := shm_107 f9
  replace f10 := shm_12 f10
  replace f13 := shm_120 f13
  replace f14 := shm_12 f14
  replace f19 := shm_1317 f19
  have q2 : n_v vs 2 = n_v vs 0 := f6.symm
  have q3 : n_v vs 3 = n_v vs 1 := f7.symm
  simp only [q3, q2] at f1 f2 f3 f4 f13 f19
  have ar_0_2_1 : w_ar w1 (n_v vs 0) 2 = w_ar ws (n_v vs 0) 2 := congrArg v_ad (s1.2 _ _).symm
  have ar_0_3_1 : w_ar w1 (n_v vs 0) 3 = w_ar ws (n_v vs 0) 3 := congrArg v_ad (s1.2 _ _).symm
  have cr_0_3 := fdq_142 hD hth r0
  have ar_0_4_1 : w_ar w1 (n_v vs 0) 4 = w_ar ws (n_v vs 0) 4 := congrArg v_ad (s1.2 _ _).symm
  have cr_0_4 := fdq_143 hD hth r0
  have ad_6 : v_ad (n_v vs 6) = w_ar ws (n_v vs 0) 2 := (congrArg v_ad f13).trans ar_0_2_1
  simp only [ad_6] at f9
  have h9 : v_iv (n_v vs 13) = w_ei w1 (w_ar ws (n_v vs 0) 2) (v_iv (n_v vs 12)) := f9
  simp only [ar_0_3_1, ar_0_2_1, ar_0_4_1] at f19
  have hE_0_2_1 : ∀ j : Int, 0 ≤ j → (j = v_iv (n_v vs 9) → w_ei ws (w_ar ws (n_v vs 0) 2) j = v_iv (n_v vs 13)) ∧ (j ≠ v_iv (n_v vs 9) → w_ei ws (w_ar ws (n_v vs 0) 2) j = w_ei w1 (w_ar ws (n_v vs 0) 2) j) := fun j hj => ⟨fun h => by unfold w_ei; rw [s1.1, if_pos ⟨ad_6.symm, by rw [h]⟩], fun h => by unfold w_ei; rw [s1.1, if_neg (fun e => h (by have := e.2; omega))]⟩
  have hE_0_3_1 : ∀ j : Int, w_ei ws (w_ar ws (n_v vs 0) 3) j = w_ei w1 (w_ar ws (n_v vs 0) 3) j := el_kp s1.1 r6 cr_0_3 (by decide)
  have hE_0_4_1 : ∀ j : Int, w_ei ws (w_ar ws (n_v vs 0) 4) j = w_ei w1 (w_ar ws (n_v vs 0) 4) j := el_kp s1.1 r6 cr_0_4 (by decide)
  have nf0 : fc_1 PRD (20, [2, 3, 14], [60, 0, 3, 232, 2, 3, 4]) ws (vs) := by
    refine ⟨nf_in hl rfl, sgq_1317 ?_⟩
    · show T13x (w_ei ws (w_ar ws (n_v vs 2) 2)) (w_ei ws (w_ar ws (n_v vs 2) 3)) (w_ei ws (w_ar ws (n_v vs 2) 4)) (v_iv (n_v vs 3)) (v_iv (n_v vs 14))
      simp only [q2, q3]
      exact vc_Mo_step_at_gx_7_0 (v_iv (n_v vs 1)) (v_iv (n_v vs 3)) (v_iv (n_v vs 4)) (v_iv (n_v vs 7)) (v_iv (n_v vs 8)) (v_iv (n_v vs 9)) (v_iv (n_v vs 10)) (v_iv (n_v vs 11)) (v_iv (n_v vs 12)) (v_iv (n_v vs 13)) (v_iv (n_v vs 14)) (w_ei ws (w_ar ws (n_v vs 0) 3)) (w_ei w1 (w_ar ws (n_v vs 0) 2)) (w_ei w1 (w_ar ws (n_v vs 0) 3)) (w_ei w1 (w_ar ws (n_v vs 0) 4)) (w_ei ws (w_ar ws (n_v vs 0) 2)) (w_ei ws (w_ar ws (n_v vs 0) 4)) k1 k3 k4 k7 k8 k9 k10 k11 k12 k13 k14 d0 d4 d5 d6 f0 f1 f2 f3 f4 h9 f10 f14 f19 hE_0_2_1 hE_0_3_1 hE_0_4_1
  refine ⟨(fun _ h => (by cases h)), [], trivial, ?_, (fun _ h => (by cases h))⟩
  rw [List.append_nil]
  exact List.forall_mem_cons.mpr ⟨⟨show (20 : Nat) < 100 from by decide, nf0⟩, (fun _ h => (by cases h))⟩
def o_Mo_step_at_gx_8 : or_T := (115, 11, [(0, (2, 0, 0, [165])), (1, (0, 0, 3, [])), (2, (2, 0, 0, [165])), (3, (0, 0, 3, [])), (4, (0, 0, 66297, [])), (5, (0, 539, 539, [])), (6, (0, 539, 539, [])), (7, (2, 0, 0, [168])), (8, (0, 0, 30, [])), (9, (0, 1, 1, [])), (10, (0, 1, 31, []))], [(1, [10, 8, 9], []), (10, [8, 7, 3], []), (9, [7, 2], [3]), (7, [5, 6], [3]), (20, [2, 3], [30, 29, 1, 2, 3]), (20, [4, 3, 2, 3], [30, 0, 1, 0, 0, -16709, 0, 0, -539, 2, 3]), (20, [4, 3, 2, 3], [30, 0, -1, 0, 0, 16709, 0, 0, 539, 2, 3]), (20, [2, 3, 4, 5], [60, 0, 3, 233, 2, 3, 4]), (24, [0, 2], []), (24, [1, 3], [])], [(10, (0, 1, 30, []))], [], [], [], [(10, 8, 1, 1), (1, 3, -4294967296, 0), (3, 1, -4294967296, 0)])
theorem oo_Mo_step_at_gx_8 {kA : Nat → ClassId} : or_ok PRD kA GG o_Mo_step_at_gx_8 := by
  refine or_mk fun A ta ws vs hD hth hl => ?_
  intro t0 r0 t1 k1 t2 r2 t3 k3 t4 k4 t5 k5 t6 k6 t7 r7 t8 k8 t9 k9 t10 k10 d0 d1 d2 f0 f1 f2 f3 f4 f5 f6 f7 f8 f9
  replace f0 := shm_12 f0
  replace f1 := shm_107 f1
  replace f2 := shm_137 f2
  replace f3 := shm_2 f3
  replace f4 := shm_1296 f4
  replace f5 := shm_1297 f5
  replace f6 := shm_1298 f6
  replace f7 := shm_1316 f7
  replace f8 := shm_5 f8
  replace f9 := shm_5 f9
  have q2 : n_v vs 2 = n_v vs 0 := f8.symm
  have q3 : n_v vs 3 = n_v vs 1 := f9.symm
  simp only [q3, q2] at f1 f2 f4 f5 f6 f7
  have cr_0_2 := fdq_10 hD hth r0
  have cr_0_3 := fdq_142 hD hth r0
  have cr_0_4 := fdq_143 hD hth r0
  have ad_7 : v_ad (n_v vs 7) = w_ar ws (n_v vs 0) 3 := congrArg v_ad f2
  simp only [ad_7] at f1
  have h1 : v_iv (n_v vs 8) = w_ei ws (w_ar ws (n_v vs 0) 3) (v_iv (n_v vs 1)) := f1
  have br_0_3_1_0 : w_ei ws (w_ar ws (n_v vs 0) 3) (v_iv (n_v vs 1)) = w_el ws (w_ar ws (n_v vs 0) 3) (v_iv (n_v vs 1)).toNat := rfl
  have hK_0_3 := elq_80 hD hth cr_0_3
  have hK_0_4 := elq_81 hD hth cr_0_4
  have rf10 : tv_ok ta (0, 1, 30, []) (n_v vs 10) := tv_in t10 (by first | omega | grind) (by first | omega | grind)
  refine ⟨List.forall_mem_cons.mpr ⟨rf10, (fun _ h => (by cases h))⟩, [], trivial, ?_, (fun _ h => (by cases h))⟩
  rw [List.append_nil]
  exact (fun _ h => (by cases h))
set_option maxHeartbeats 4000000 in
theorem vc_Mo_step_at_gx_9_0 (x1 : Int) (x4 : Int) (x5 : Int) (x8 : Int) (x10 : Int) (x12 : Int) (now_1 : Int → Int) (now_2 : Int → Int) (all_2 : Int → Int) (latest_2 : Int → Int) (all_0 : Int → Int) (all_1 : Int → Int) (now_0 : Int → Int) (latest_0 : Int → Int) (latest_1 : Int → Int) (k1 : 0 ≤ x1 ∧ x1 ≤ 3) (k4 : 0 ≤ x4 ∧ x4 ≤ 66297) (k5 : 539 ≤ x5 ∧ x5 ≤ 539) (k8 : 0 ≤ x8 ∧ x8 ≤ 30) (k10 : 1 ≤ x10 ∧ x10 ≤ 30) (k12 : 0 ≤ x12 ∧ x12 ≤ 30) (d0 : x8 + 1 ≤ x10 ∧ x10 ≤ x8 + 1) (h3 : x12 = now_1 (x1)) (h8 : x8 = now_2 (x1)) (f13 : T73x (all_2) (now_2) (latest_2) (x1) (x4) (x5)) (hE_0_2_1 : ∀ j : Int, all_0 j = all_1 j) (hE_0_2_2 : ∀ j : Int, all_1 j = all_2 j) (hE_0_3_1 : ∀ j : Int, now_0 j = now_1 j) (hE_0_3_2 : ∀ j : Int, 0 ≤ j → (j = x1 → now_1 j = x10) ∧ (j ≠ x1 → now_1 j = now_2 j)) (hE_0_4_1 : ∀ j : Int, 0 ≤ j → (j = x1 → latest_0 j = x12) ∧ (j ≠ x1 → latest_0 j = latest_1 j)) (hE_0_4_2 : ∀ j : Int, latest_1 j = latest_2 j) : T130x (all_0) (now_0) (latest_0) (x1) := by
  have e_hE_0_2_1 := funext hE_0_2_1; subst e_hE_0_2_1
  have e_hE_0_2_2 := funext hE_0_2_2; subst e_hE_0_2_2
  have e_hE_0_3_1 := funext hE_0_3_1; subst e_hE_0_3_1
  have e_hE_0_4_2 := funext hE_0_4_2; subst e_hE_0_4_2
  first
    | exact t130_of ‹T73x _ _ _ _ _ _› (by omega) (by assumption) (by omega) (by omega) (by assumption) (by omega) (by omega)
def o_Mo_step_at_gx_9 : or_T := (130, 13, [(0, (2, 0, 0, [165])), (1, (0, 0, 3, [])), (4, (0, 0, 66297, [])), (5, (0, 539, 539, [])), (7, (2, 0, 0, [168])), (8, (0, 0, 30, [])), (10, (0, 1, 30, [])), (11, (2, 0, 0, [169])), (12, (0, 0, 30, []))], [(24, [0, 2], []), (24, [1, 3], []), (100, [11, 3, 12], []), (10, [12, 7, 3], []), (9, [7, 2], [3]), (9, [11, 2], [4]), (100, [7, 3, 10], []), (10, [8, 7, 3], []), (20, [2, 3, 4, 5], [60, 0, 3, 233, 2, 3, 4])], [], [], [(20, [2, 3], [60, 0, 3, 234, 2, 3, 4])], [], [(10, 8, 1, 1), (1, 3, -4294967296, 0), (3, 1, -4294967296, 0)])
theorem oo_Mo_step_at_gx_9 {kA : Nat → ClassId} : or_ok PRD kA GG o_Mo_step_at_gx_9 := by
  refine or_mk fun A ta ws vs hD hth hl => ?_
  intro t0 r0 t1 k1 t4 k4 t5 k5 t7 r7 t8 k8 t10 k10 t11 r11 t12 k12 d0 d1 d2 f0 f1 ta1 w1 le1 s1 f3 f4 f5 ta2 w2 le2 s2 f8 f13
  replace f0 := shm_5 f0
  replace f1 := shm_5 f1
  have s1 : (∀ b j, w_el ws b j = if b = v_ad (n_v vs 11) ∧ j = (v_iv (n_v vs 3)).toNat then v_iv (n_v vs 12) else w_el w1 b j) ∧ ∀ b k, w_fd ws b k = w_fd w1 b k := s1.2
  replace f3 := shm_107 f3
  replace f4 := shm_137 f4
  replace f5 := shm_108 f5
  have s2 : (∀ b j, w_el w1 b j = if b = v_ad (n_v vs 7) ∧ j = (v_iv (n_v vs 3)).toNat then v_iv (n_v vs 10) else w_el w2 b j) ∧ ∀ b k, w_fd w1 b k = w_fd w2 b k := s2.2
  replace f8 := shm_107 f8
  replace f13 := shm_1316 f13
  have q2 : n_v vs 2 = n_v vs 0 := f0.symm
  have q3 : n_v vs 3 = n_v vs 1 := f1.symm
  rw [q3] at s1
  simp only [q3, q2] at f3 f4 f5
  rw [q3] at s2
  simp only [q3, q2] at f8 f13
  have ar_0_2_1 : w_ar w1 (n_v vs 0) 2 = w_ar ws (n_v vs 0) 2 := congrArg v_ad (s1.2 _ _).symm
  have ar_0_2_2 : w_ar w2 (n_v vs 0) 2 = w_ar ws (n_v vs 0) 2 := by rw [← ar_0_2_1]; show v_ad (w_fd w2 _ _) = v_ad (w_fd w1 _ _); rw [s2.2]
  have cr_0_2 := fdq_10 hD hth r0
  have ar_0_3_1 : w_ar w1 (n_v vs 0) 3 = w_ar ws (n_v vs 0) 3 := congrArg v_ad (s1.2 _ _).symm
  have ar_0_3_2 : w_ar w2 (n_v vs 0) 3 = w_ar ws (n_v vs 0) 3 := by rw [← ar_0_3_1]; show v_ad (w_fd w2 _ _) = v_ad (w_fd w1 _ _); rw [s2.2]
  have cr_0_3 := fdq_142 hD hth r0
  have ar_0_4_1 : w_ar w1 (n_v vs 0) 4 = w_ar ws (n_v vs 0) 4 := congrArg v_ad (s1.2 _ _).symm
  have ar_0_4_2 : w_ar w2 (n_v vs 0) 4 = w_ar ws (n_v vs 0) 4 := by rw [← ar_0_4_1]; show v_ad (w_fd w2 _ _) = v_ad (w_fd w1 _ _); rw [s2.2]
  have cr_0_4 := fdq_143 hD hth r0
  have ad_7 : v_ad (n_v vs 7) = w_ar ws (n_v vs 0) 3 := (congrArg v_ad f4).trans ar_0_3_1
  have ad_11 : v_ad (n_v vs 11) = w_ar ws (n_v vs 0) 4 := (congrArg v_ad f5).trans ar_0_4_1
  simp only [ad_7] at f3
  have h3 : v_iv (n_v vs 12) = w_ei w1 (w_ar ws (n_v vs 0) 3) (v_iv (n_v vs 1)) := f3
  simp only [ad_7] at f8
  have h8 : v_iv (n_v vs 8) = w_ei w2 (w_ar ws (n_v vs 0) 3) (v_iv (n_v vs 1)) := f8
  simp only [ar_0_3_2, ar_0_2_2, ar_0_4_2] at f13
  have hE_0_2_1 : ∀ j : Int, w_ei ws (w_ar ws (n_v vs 0) 2) j = w_ei w1 (w_ar ws (n_v vs 0) 2) j := el_kp s1.1 r11 cr_0_2 (by decide)
  have hE_0_2_2 : ∀ j : Int, w_ei w1 (w_ar ws (n_v vs 0) 2) j = w_ei w2 (w_ar ws (n_v vs 0) 2) j := el_kp s2.1 r7 cr_0_2 (by decide)
  have hE_0_3_1 : ∀ j : Int, w_ei ws (w_ar ws (n_v vs 0) 3) j = w_ei w1 (w_ar ws (n_v vs 0) 3) j := el_kp s1.1 r11 cr_0_3 (by decide)
  have hE_0_3_2 : ∀ j : Int, 0 ≤ j → (j = v_iv (n_v vs 1) → w_ei w1 (w_ar ws (n_v vs 0) 3) j = v_iv (n_v vs 10)) ∧ (j ≠ v_iv (n_v vs 1) → w_ei w1 (w_ar ws (n_v vs 0) 3) j = w_ei w2 (w_ar ws (n_v vs 0) 3) j) := fun j hj => ⟨fun h => by unfold w_ei; rw [s2.1, if_pos ⟨ad_7.symm, by rw [h]⟩], fun h => by unfold w_ei; rw [s2.1, if_neg (fun e => h (by have := e.2; omega))]⟩
  have hE_0_4_1 : ∀ j : Int, 0 ≤ j → (j = v_iv (n_v vs 1) → w_ei ws (w_ar ws (n_v vs 0) 4) j = v_iv (n_v vs 12)) ∧ (j ≠ v_iv (n_v vs 1) → w_ei ws (w_ar ws (n_v vs 0) 4) j = w_ei w1 (w_ar ws (n_v vs 0) 4) j) := fun j hj => ⟨fun h => by unfold w_ei; rw [s1.1, if_pos ⟨ad_11.symm, by rw [h]⟩], fun h => by unfold w_ei; rw [s1.1, if_neg (fun e => h (by have := e.2; omega))]⟩
  have hE_0_4_2 : ∀ j : Int, w_ei w1 (w_ar ws (n_v vs 0) 4) j = w_ei w2 (w_ar ws (n_v vs 0) 4) j := el_kp s2.1 r7 cr_0_4 (by decide)
  have nf0 : fc_1 PRD (20, [2, 3], [60, 0, 3, 234, 2, 3, 4]) ws (vs) := by
    refine ⟨nf_in hl rfl, sgq_1318 ?_⟩
    · show T130x (w_ei ws (w_ar ws (n_v vs 2) 2)) (w_ei ws (w_ar ws (n_v vs 2) 3)) (w_ei ws (w_ar ws (n_v vs 2) 4)) (v_iv (n_v vs 3))
      simp only [q2, q3]
      exact vc_Mo_step_at_gx_9_0 (v_iv (n_v vs 1)) (v_iv (n_v vs 4)) (v_iv (n_v vs 5)) (v_iv (n_v vs 8)) (v_iv (n_v vs 10)) (v_iv (n_v vs 12)) (w_ei w1 (w_ar ws (n_v vs 0) 3)) (w_ei w2 (w_ar ws (n_v vs 0) 3)) (w_ei w2 (w_ar ws (n_v vs 0) 2)) (w_ei w2 (w_ar ws (n_v vs 0) 4)) (w_ei ws (w_ar ws (n_v vs 0) 2)) (w_ei w1 (w_ar ws (n_v vs 0) 2)) (w_ei ws (w_ar ws (n_v vs 0) 3)) (w_ei ws (w_ar ws (n_v vs 0) 4)) (w_ei w1 (w_ar ws (n_v vs 0) 4)) k1 k4 k5 k8 k10 k12 d0 h3 h8 f13 hE_0_2_1 hE_0_2_2 hE_0_3_1 hE_0_3_2 hE_0_4_1 hE_0_4_2
  refine ⟨(fun _ h => (by cases h)), [], trivial, ?_, (fun _ h => (by cases h))⟩
  rw [List.append_nil]
  exact List.forall_mem_cons.mpr ⟨⟨show (20 : Nat) < 100 from by decide, nf0⟩, (fun _ h => (by cases h))⟩
set_option maxHeartbeats 4000000 in
theorem vc_Mo_step_at_gx_10_0 (x1 : Int) (all_0 : Int → Int) (now_0 : Int → Int) (latest_0 : Int → Int) (r_0 : Int) (k1 : 0 ≤ x1 ∧ x1 ≤ 3) (f0 : T130x (all_0) (now_0) (latest_0) (x1)) (f3 : r_0 = ((16709 * x1) + (539 * now_0 (x1)))) : RWS (r_0) (all_0) (now_0) (latest_0) := by
  first
    | exact (t130_rws ‹T130n _ _ _ _ _ _› (by omega)).1
    | exact (t130_rws ‹T130e _ _ _ _ _ _› (by omega)).1
    | exact (t130_rws ‹T130d _ _ _ _ _ _› (by omega)).1
    | exact (t130_rws ‹T130v _ _ _ _ _ _› (by omega)).1
    | exact (t130_rws ‹T130x _ _ _ _› (by omega)).1
set_option maxHeartbeats 4000000 in
theorem vc_Mo_step_at_gx_10_1 (x1 : Int) (now_0 : Int → Int) (r_0 : Int) (k1 : 0 ≤ x1 ∧ x1 ≤ 3) (f3 : r_0 = ((16709 * x1) + (539 * now_0 (x1)))) : r_0 = ((16709 * x1) + (539 * now_0 (x1))) := by
  first | omega
def o_Mo_step_at_gx_10 : or_T := (138, 13, [(1, (0, 0, 3, []))], [(20, [2, 3], [60, 0, 3, 234, 2, 3, 4]), (24, [0, 2], []), (24, [1, 3], []), (20, [2, 3], [50, 1, 1, 5, 3, 1, 3, 2, 0, 5, 4, 6, 6, 2, 0, 16709, 1, 1, 6, 2, 0, 539, 3, 0, 3, 1, 1])], [], [], [(20, [0], [60, 1, 3, 199, 5, 2, 3, 4]), (20, [0, 1], [50, 1, 1, 5, 3, 1, 3, 2, 0, 5, 4, 6, 6, 2, 0, 16709, 1, 1, 6, 2, 0, 539, 3, 0, 3, 1, 1])], [], [])
theorem oo_Mo_step_at_gx_10 {kA : Nat → ClassId} : or_ok PRD kA GG o_Mo_step_at_gx_10 := by
  refine or_mk fun A ta ws vs hD hth hl => ?_
  intro t1 k1 f0 f1 f2 f3
  replace f0 := shm_1318 f0
  replace f1 := shm_5 f1
  replace f2 := shm_5 f2
  replace f3 := shm_1037 f3
  have q2 : n_v vs 2 = n_v vs 0 := f1.symm
  have q3 : n_v vs 3 = n_v vs 1 := f2.symm
  simp only [q2, q3] at f0 f3
  have nf0 : fc_1 PRD (20, [0], [60, 1, 3, 199, 5, 2, 3, 4]) ws (vs) := ⟨nf_in hl rfl, sgq_980 (vc_Mo_step_at_gx_10_0 (v_iv (n_v vs 1)) (w_ei ws (w_ar ws (n_v vs 0) 2)) (w_ei ws (w_ar ws (n_v vs 0) 3)) (w_ei ws (w_ar ws (n_v vs 0) 4)) (w_fi ws (n_v vs 0) 5) k1 f0 f3)⟩
  have nf1 : fc_1 PRD (20, [0, 1], [50, 1, 1, 5, 3, 1, 3, 2, 0, 5, 4, 6, 6, 2, 0, 16709, 1, 1, 6, 2, 0, 539, 3, 0, 3, 1, 1]) ws (vs) := ⟨nf_in hl rfl, sgq_1037 (vc_Mo_step_at_gx_10_1 (v_iv (n_v vs 1)) (w_ei ws (w_ar ws (n_v vs 0) 3)) (w_fi ws (n_v vs 0) 5) k1 f3)⟩
  refine ⟨(fun _ h => (by cases h)), [], trivial, ?_, (fun _ h => (by cases h))⟩
  rw [List.append_nil]
  exact List.forall_mem_cons.mpr ⟨⟨show (20 : Nat) < 100 from by decide, nf0⟩, List.forall_mem_cons.mpr ⟨⟨show (20 : Nat) < 100 from by decide, nf1⟩, (fun _ h => (by cases h))⟩⟩
def o_Mo_step_at_gx_11 : or_T := (99, 13, [(4, (5, 0, 66297, [539])), (5, (0, 0, 538, [])), (8, (0, 539, 539, [])), (9, (5, 539, 66836, [539])), (10, (0, 539, 67374, [])), (11, (0, 0, 66835, [])), (12, (0, -1, 255, [])), (7, (2, 0, 0, [167]))], [(10, [12, 7, 11], []), (1, [11, 4, 5], []), (1, [10, 9, 5], []), (1, [9, 4, 8], [])], [], [], [(18, [10, 12], [1])], [], [(11, 5, 0, 66297), (11, 4, 0, 538), (10, 5, 539, 66836), (10, 9, 0, 538), (10, 4, 539, 1077), (9, 4, 539, 539)])
theorem oo_Mo_step_at_gx_11 {kA : Nat → ClassId} : or_ok PRD kA GG o_Mo_step_at_gx_11 := by
  refine or_mk fun A ta ws vs hD hth hl => ?_
  intro t4 t5 k5 t8 k8 t9 t10 k10 t11 k11 t12 k12 t7 r7 d0 d1 d2 d3 d4 d5 f0 f1 f2 f3
  obtain ⟨k4, q4_⟩ : (0 ≤ v_iv (n_v vs 4) ∧ v_iv (n_v vs 4) ≤ 66297) ∧ ∃ q : Int, v_iv (n_v vs 4) = 539 * q := tv_dvk t4
  obtain ⟨q4, hq4⟩ := q4_
  obtain ⟨k9, q9_⟩ : (539 ≤ v_iv (n_v vs 9) ∧ v_iv (n_v vs 9) ≤ 66836) ∧ ∃ q : Int, v_iv (n_v vs 9) = 539 * q := tv_dvk t9
  obtain ⟨q9, hq9⟩ := q9_
  replace f0 := shm_107 f0
  replace f1 := shm_12 f1
  replace f2 := shm_12 f2
  replace f3 := shm_12 f3
  have nf0 : fc_1 PRD (18, [10, 12], [1]) ws (vs) := by
    refine ⟨nf_in hl rfl, sgq_1302 ?_⟩
    · show pl_ok 1 (v_iv (n_v vs 10)).toNat (v_iv (n_v vs 12))
      have e0 := pl_cp hD hth r7 (g := GG_167) rfl rfl rfl pl_M1 (i := (v_iv (n_v vs 11)).toNat) (j := (v_iv (n_v vs 10)).toNat) (by show (v_iv (n_v vs 11)).toNat < 66836; omega) (by omega)
      rw [← f0] at e0
      exact e0
  refine ⟨(fun _ h => (by cases h)), [], trivial, ?_, (fun _ h => (by cases h))⟩
  rw [List.append_nil]
  exact List.forall_mem_cons.mpr ⟨⟨show (18 : Nat) < 100 from by decide, nf0⟩, (fun _ h => (by cases h))⟩
def o_Mo_step_at_gx_12 : or_T := (99, 13, [(0, (2, 0, 0, [165])), (1, (0, 0, 3, [])), (2, (2, 0, 0, [165])), (3, (0, 0, 3, [])), (4, (0, 0, 66297, [])), (5, (0, 0, 538, [])), (6, (0, 539, 539, [])), (7, (2, 0, 0, [167])), (8, (0, 539, 539, [])), (9, (0, 539, 66836, [])), (10, (0, 539, 67374, [])), (11, (0, 0, 66835, [])), (12, (0, -1, 255, []))], [(10, [12, 7, 11], []), (1, [11, 4, 5], []), (9, [7, 2], [2]), (1, [10, 9, 5], []), (1, [9, 4, 8], []), (7, [5, 6], [2]), (20, [2, 3], [30, 29, 1, 2, 3]), (20, [4, 3, 2, 3], [30, 0, 1, 0, 0, -16709, 0, 0, -539, 2, 3]), (20, [4, 3, 2, 3], [30, 0, -1, 0, 0, 16709, 0, 0, 539, 2, 3]), (20, [2, 3, 4, 5], [60, 0, 3, 233, 2, 3, 4]), (24, [0, 2], []), (24, [1, 3], [])], [(10, (0, 539, 66835, []))], [], [], [], [(11, 5, 0, 66297), (11, 4, 0, 538), (10, 5, 539, 66836), (10, 9, 0, 538), (10, 4, 539, 1077), (9, 4, 539, 539), (1, 3, -4294967296, 0), (3, 1, -4294967296, 0)])
theorem oo_Mo_step_at_gx_12 {kA : Nat → ClassId} : or_ok PRD kA GG o_Mo_step_at_gx_12 := by
  refine or_mk fun A ta ws vs hD hth hl => ?_
  intro t0 r0 t1 k1 t2 r2 t3 k3 t4 k4 t5 k5 t6 k6 t7 r7 t8 k8 t9 k9 t10 k10 t11 k11 t12 k12 d0 d1 d2 d3 d4 d5 d6 d7 f0 f1 f2 f3 f4 f5 f6 f7 f8 f9 f10 f11
  replace f0 := shm_107 f0
  replace f1 := shm_12 f1
  replace f2 := shm_120 f2
  replace f3 := shm_12 f3
  replace f4 := shm_12 f4
  replace f5 := shm_6 f5
  replace f6 := shm_1296 f6
  replace f7 := shm_1297 f7
  replace f8 := shm_1298 f8
  replace f9 := shm_1316 f9
  replace f10 := shm_5 f10
  replace f11 := shm_5 f11
  have q2 : n_v vs 2 = n_v vs 0 := f10.symm
  have q3 : n_v vs 3 = n_v vs 1 := f11.symm
  simp only [q2, q3] at f2 f6 f7 f8 f9
  have cr_0_2 := fdq_10 hD hth r0
  have cr_0_3 := fdq_142 hD hth r0
  have cr_0_4 := fdq_143 hD hth r0
  have ad_7 : v_ad (n_v vs 7) = w_ar ws (n_v vs 0) 2 := congrArg v_ad f2
  simp only [ad_7] at f0
  have h0 : v_iv (n_v vs 12) = w_ei ws (w_ar ws (n_v vs 0) 2) (v_iv (n_v vs 11)) := f0
  have br_0_2_11_0 : w_ei ws (w_ar ws (n_v vs 0) 2) (v_iv (n_v vs 11)) = w_el ws (w_ar ws (n_v vs 0) 2) (v_iv (n_v vs 11)).toNat := rfl
  have br_0_3_1_0 : w_ei ws (w_ar ws (n_v vs 0) 3) (v_iv (n_v vs 1)) = w_el ws (w_ar ws (n_v vs 0) 3) (v_iv (n_v vs 1)).toNat := rfl
  have hK_0_3 := elq_80 hD hth cr_0_3
  have hK_0_4 := elq_81 hD hth cr_0_4
  have rf10 : tv_ok ta (0, 539, 66835, []) (n_v vs 10) := tv_in t10 (by first | omega | grind) (by first | omega | grind)
  refine ⟨List.forall_mem_cons.mpr ⟨rf10, (fun _ h => (by cases h))⟩, [], trivial, ?_, (fun _ h => (by cases h))⟩
  rw [List.append_nil]
  exact (fun _ h => (by cases h))
set_option maxHeartbeats 4000000 in
theorem vc_Mo_step_at_gx_13_0 (x1 : Int) (x3 : Int) (x4 : Int) (x5 : Int) (x9 : Int) (x10 : Int) (x11 : Int) (x12 : Int) (x13 : Int) (now_0 : Int → Int) (all_1 : Int → Int) (now_1 : Int → Int) (latest_1 : Int → Int) (all_0 : Int → Int) (latest_0 : Int → Int) (k1 : 0 ≤ x1 ∧ x1 ≤ 3) (k3 : 0 ≤ x3 ∧ x3 ≤ 3) (k4 : 0 ≤ x4 ∧ x4 ≤ 66297) (k5 : 0 ≤ x5 ∧ x5 ≤ 538) (k9 : 539 ≤ x9 ∧ x9 ≤ 66836) (k10 : 539 ≤ x10 ∧ x10 ≤ 66835) (k11 : 0 ≤ x11 ∧ x11 ≤ 66835) (k12 : (-1) ≤ x12 ∧ x12 ≤ 255) (k13 : 1 ≤ x13 ∧ x13 ≤ 539) (d0 : x5 + 1 ≤ x13 ∧ x13 ≤ x5 + 1) (d6 : x4 + 539 ≤ x9 ∧ x9 ≤ x4 + 539) (d7 : x3 + (-4294967296) ≤ x1 ∧ x1 ≤ x3 + 0) (d8 : x1 + (-4294967296) ≤ x3 ∧ x3 ≤ x1 + 0) (f0 : x13 = x5 + 1) (f2 : 1 * x4 + ((-16709) * x1 + ((-539) * now_0 (x1) + 0)) ≤ 0) (f3 : (-1) * x4 + (16709 * x1 + (539 * now_0 (x1) + 0)) ≤ 0) (h7 : x12 = all_1 (x11)) (f8 : x11 = x4 + x5) (f10 : x10 = x9 + x5) (f16 : T73x (all_1) (now_1) (latest_1) (x1) (x4) (x5)) (hE_0_2_1 : ∀ j : Int, 0 ≤ j → (j = x10 → all_0 j = x12) ∧ (j ≠ x10 → all_0 j = all_1 j)) (hE_0_3_1 : ∀ j : Int, now_0 j = now_1 j) (hE_0_4_1 : ∀ j : Int, latest_0 j = latest_1 j) : T73x (all_0) (now_0) (latest_0) (x1) (x4) (x13) := by
  have e_hE_0_3_1 := funext hE_0_3_1; subst e_hE_0_3_1
  have e_hE_0_4_1 := funext hE_0_4_1; subst e_hE_0_4_1
  first
    | exact t73_step ‹T73x _ _ _ _ _ _› (by assumption) (by omega) (by omega) (by omega) (by assumption) (by omega)
def o_Mo_step_at_gx_13 : or_T := (73, 14, [(0, (2, 0, 0, [165])), (1, (0, 0, 3, [])), (3, (0, 0, 3, [])), (4, (0, 0, 66297, [])), (5, (0, 0, 538, [])), (7, (2, 0, 0, [167])), (9, (0, 539, 66836, [])), (10, (0, 539, 66835, [])), (11, (0, 0, 66835, [])), (12, (0, -1, 255, [])), (13, (0, 1, 539, []))], [(6, [13, 5], [1]), (20, [4, 3, 2, 3], [30, 0, 1, 0, 0, -16709, 0, 0, -539, 2, 3]), (20, [4, 3, 2, 3], [30, 0, -1, 0, 0, 16709, 0, 0, 539, 2, 3]), (24, [0, 2], []), (24, [1, 3], []), (100, [7, 10, 12], []), (10, [12, 7, 11], []), (1, [11, 4, 5], []), (9, [7, 2], [2]), (1, [10, 9, 5], []), (20, [2, 3, 4, 5], [60, 0, 3, 233, 2, 3, 4])], [], [], [(20, [2, 3, 4, 13], [60, 0, 3, 233, 2, 3, 4])], [], [(13, 5, 1, 1), (10, 5, 539, 66836), (10, 9, 0, 538), (10, 4, 539, 1077), (9, 4, 539, 539), (1, 3, -4294967296, 0), (3, 1, -4294967296, 0)])
theorem oo_Mo_step_at_gx_13 {kA : Nat → ClassId} : or_ok PRD kA GG o_Mo_step_at_gx_13 := by
  refine or_mk fun A ta ws vs hD hth hl => ?_
  intro t0 r0 t1 k1 t3 k3 t4 k4 t5 k5 t7 r7 t9 k9 t10 k10 t11 k11 t12 k12 t13 k13 d0 d3 d4 d5 d6 d7 d8 f0 f2 f3 f4 f5 ta1 w1 le1 s1 f7 f8 f9 f10 f16
  replace f0 := shm_4 f0
  replace f2 := shm_1297 f2
  replace f3 := shm_1298 f3
  replace f4 := shm_5 f4
  replace f5 := shm_5 f5
  have s1 : (∀ b j, w_el ws b j = if b = v_ad (n_v vs 7) ∧ j = (v_iv (n_v vs 10)).toNat then v_iv (n_v vs 12) else w_el w1 b j) ∧ ∀ b k, w_fd ws b k = w_fd w1 b k := s1.2
  replace f7 := shm_107 f7
  replace f8 := shm_12 f8
  replace f9 := shm_120 f9
  replace f10 := shm_12 f10
  replace f16 := shm_1316 f16
  have q2 : n_v vs 2 = n_v vs 0 := f4.symm
  have q3 : n_v vs 3 = n_v vs 1 := f5.symm
  simp only [q2, q3] at f2 f3 f9 f16
  have ar_0_2_1 : w_ar w1 (n_v vs 0) 2 = w_ar ws (n_v vs 0) 2 := congrArg v_ad (s1.2 _ _).symm
  have ar_0_3_1 : w_ar w1 (n_v vs 0) 3 = w_ar ws (n_v vs 0) 3 := congrArg v_ad (s1.2 _ _).symm
  have cr_0_3 := fdq_142 hD hth r0
  have ar_0_4_1 : w_ar w1 (n_v vs 0) 4 = w_ar ws (n_v vs 0) 4 := congrArg v_ad (s1.2 _ _).symm
  have cr_0_4 := fdq_143 hD hth r0
  have ad_7 : v_ad (n_v vs 7) = w_ar ws (n_v vs 0) 2 := (congrArg v_ad f9).trans ar_0_2_1
  simp only [ad_7] at f7
  have h7 : v_iv (n_v vs 12) = w_ei w1 (w_ar ws (n_v vs 0) 2) (v_iv (n_v vs 11)) := f7
  simp only [ar_0_3_1, ar_0_2_1, ar_0_4_1] at f16
  have hE_0_2_1 : ∀ j : Int, 0 ≤ j → (j = v_iv (n_v vs 10) → w_ei ws (w_ar ws (n_v vs 0) 2) j = v_iv (n_v vs 12)) ∧ (j ≠ v_iv (n_v vs 10) → w_ei ws (w_ar ws (n_v vs 0) 2) j = w_ei w1 (w_ar ws (n_v vs 0) 2) j) := fun j hj => ⟨fun h => by unfold w_ei; rw [s1.1, if_pos ⟨ad_7.symm, by rw [h]⟩], fun h => by unfold w_ei; rw [s1.1, if_neg (fun e => h (by have := e.2; omega))]⟩
  have hE_0_3_1 : ∀ j : Int, w_ei ws (w_ar ws (n_v vs 0) 3) j = w_ei w1 (w_ar ws (n_v vs 0) 3) j := el_kp s1.1 r7 cr_0_3 (by decide)
  have hE_0_4_1 : ∀ j : Int, w_ei ws (w_ar ws (n_v vs 0) 4) j = w_ei w1 (w_ar ws (n_v vs 0) 4) j := el_kp s1.1 r7 cr_0_4 (by decide)
  have nf0 : fc_1 PRD (20, [2, 3, 4, 13], [60, 0, 3, 233, 2, 3, 4]) ws (vs) := by
    refine ⟨nf_in hl rfl, sgq_1316 ?_⟩
    · show T73x (w_ei ws (w_ar ws (n_v vs 2) 2)) (w_ei ws (w_ar ws (n_v vs 2) 3)) (w_ei ws (w_ar ws (n_v vs 2) 4)) (v_iv (n_v vs 3)) (v_iv (n_v vs 4)) (v_iv (n_v vs 13))
      simp only [q2, q3]
      exact vc_Mo_step_at_gx_13_0 (v_iv (n_v vs 1)) (v_iv (n_v vs 3)) (v_iv (n_v vs 4)) (v_iv (n_v vs 5)) (v_iv (n_v vs 9)) (v_iv (n_v vs 10)) (v_iv (n_v vs 11)) (v_iv (n_v vs 12)) (v_iv (n_v vs 13)) (w_ei ws (w_ar ws (n_v vs 0) 3)) (w_ei w1 (w_ar ws (n_v vs 0) 2)) (w_ei w1 (w_ar ws (n_v vs 0) 3)) (w_ei w1 (w_ar ws (n_v vs 0) 4)) (w_ei ws (w_ar ws (n_v vs 0) 2)) (w_ei ws (w_ar ws (n_v vs 0) 4)) k1 k3 k4 k5 k9 k10 k11 k12 k13 d0 d6 d7 d8 f0 f2 f3 h7 f8 f10 f16 hE_0_2_1 hE_0_3_1 hE_0_4_1
  refine ⟨(fun _ h => (by cases h)), [], trivial, ?_, (fun _ h => (by cases h))⟩
  rw [List.append_nil]
  exact List.forall_mem_cons.mpr ⟨⟨show (20 : Nat) < 100 from by decide, nf0⟩, (fun _ h => (by cases h))⟩
def n_Mo_step_at_gx_an : List an_T := [(13, [(0, (2, 0, 0, [165])), (1, (0, 0, 3, [])), (2, (0, 0, 16170, []))], [], (0, 0), [(0, 0, 99987), (1, 4, 16170), (0, 0, 100000)], [(1, 3, (Int.negSucc 999999999999), 0), (3, 1, (Int.negSucc 999999999999), 0)], [], [(2, 0, 0, [165]), (0, 0, 3, [])], 0, [], [(20, [2, 3], [30, (Int.negSucc 29), (Int.negSucc 0), 2, 3]), (20, [2, 3, 4], [60, 0, 3, 232, 2, 3, 4]), (24, [0, 2], []), (24, [1, 3], [])]), (73, [(0, (2, 0, 0, [165])), (1, (0, 0, 3, [])), (2, (5, 0, 66297, [539])), (3, (0, 0, 539, []))], [], (0, 0), [(0, 0, 99927), (1, 5, 539), (0, 0, 100000)], [(1, 3, (Int.negSucc 999999999999), 0), (3, 1, (Int.negSucc 999999999999), 0)], [], [(2, 0, 0, [165]), (0, 0, 3, [])], 0, [], [(20, [2, 3], [30, 29, 1, 2, 3]), (20, [4, 3, 2, 3], [30, 0, 1, 0, 0, (Int.negSucc 16708), 0, 0, (Int.negSucc 538), 2, 3]), (20, [4, 3, 2, 3], [30, 0, (Int.negSucc 0), 0, 0, 16709, 0, 0, 539, 2, 3]), (20, [2, 3, 4, 5], [60, 0, 3, 233, 2, 3, 4]), (24, [0, 2], []), (24, [1, 3], [])])]
def t_Mo_step_at_gx_ct : ct_L := [(0, 372, e_Mo_rowOf), (1, 524, e_Mo_changed), (1, 527, e_Mo_take)]
set_option maxRecDepth 100000 in
theorem c_Mo_step_at_gx {l : Launch} {D : va_G} {kA : Nat → ClassId} (h_Mo_changed : ct_ok PRD l D kA GG y_Mo_changed z_Mo_changed e_Mo_changed) (h_Mo_rowOf : ct_ok PRD l D kA GG y_Mo_rowOf z_Mo_rowOf e_Mo_rowOf) (h_Mo_take : ct_ok PRD l D kA GG y_Mo_take z_Mo_take e_Mo_take) : ct_ok PRD l D kA GG y_Mo_step_at_gx z_Mo_step_at_gx e_Mo_step_at_gx := chk_all_ok (FT := [(16, 13, 2), (20, 13, 3), (23, 13, 4)]) (PT := []) (CT := t_Mo_step_at_gx_ct) (KT := []) (NT := []) (AN := n_Mo_step_at_gx_an) (OT := [o_Mo_step_at_gx_0, o_Mo_step_at_gx_1, o_Mo_step_at_gx_2, o_Mo_step_at_gx_3, o_Mo_step_at_gx_4, o_Mo_step_at_gx_5, o_Mo_step_at_gx_6, o_Mo_step_at_gx_7, o_Mo_step_at_gx_8, o_Mo_step_at_gx_9, o_Mo_step_at_gx_10, o_Mo_step_at_gx_11, o_Mo_step_at_gx_12, o_Mo_step_at_gx_13]) 3 388 (List.forall_mem_cons.mpr ⟨oo_Mo_step_at_gx_0, List.forall_mem_cons.mpr ⟨oo_Mo_step_at_gx_1, List.forall_mem_cons.mpr ⟨oo_Mo_step_at_gx_2, List.forall_mem_cons.mpr ⟨oo_Mo_step_at_gx_3, List.forall_mem_cons.mpr ⟨oo_Mo_step_at_gx_4, List.forall_mem_cons.mpr ⟨oo_Mo_step_at_gx_5, List.forall_mem_cons.mpr ⟨oo_Mo_step_at_gx_6, List.forall_mem_cons.mpr ⟨oo_Mo_step_at_gx_7, List.forall_mem_cons.mpr ⟨oo_Mo_step_at_gx_8, List.forall_mem_cons.mpr ⟨oo_Mo_step_at_gx_9, List.forall_mem_cons.mpr ⟨oo_Mo_step_at_gx_10, List.forall_mem_cons.mpr ⟨oo_Mo_step_at_gx_11, List.forall_mem_cons.mpr ⟨oo_Mo_step_at_gx_12, List.forall_mem_cons.mpr ⟨oo_Mo_step_at_gx_13, List.forall_mem_nil _⟩⟩⟩⟩⟩⟩⟩⟩⟩⟩⟩⟩⟩⟩) (by decide +kernel) ⟨List.forall_mem_cons.mpr ⟨gf_Mo_16, List.forall_mem_cons.mpr ⟨gf_Mo_20, List.forall_mem_cons.mpr ⟨gf_Mo_23, List.forall_mem_nil _⟩⟩⟩, List.forall_mem_nil _, List.forall_mem_cons.mpr ⟨cl_static (y := y_Mo_rowOf) h_Mo_rowOf wm_2420 wm_9 wm_2418 wm_2419 ⟨by decide, by decide, by decide +kernel⟩ (by decide), List.forall_mem_cons.mpr ⟨cl_virtual (y := y_Mo_changed) (ci := 13) rfl rfl ⟨_, _, rfl⟩ (by decide +kernel) h_Mo_changed wm_3083 wm_9 wm_3080 wm_3082 wv_14_1 ⟨by decide, by decide, by decide +kernel⟩ (by decide), List.forall_mem_cons.mpr ⟨cl_virtual (y := y_Mo_take) (ci := 13) rfl rfl ⟨_, _, rfl⟩ (by decide +kernel) h_Mo_take wm_3091 wm_9 wm_3088 wm_3090 wv_14_2 ⟨by decide, by decide, by decide +kernel⟩ (by decide), List.forall_mem_nil _⟩⟩⟩, List.forall_mem_nil _, List.forall_mem_nil _, GG_pl⟩ (by decide +kernel)

set_option maxHeartbeats 4000000 in
theorem vc_Mo_styleTokens_0_0 (x2 : Int) (x3 : Int) (x4 : Int) (pos_0 : Int) (tokens_0 : Int) (tokens_1 : Int) (pos_1 : Int) (pos_2 : Int) (tokens_2 : Int) (tokenKind_0 : Int → Int) (tokenKind_1 : Int → Int) (tokenKind_2 : Int → Int) (tokenKind_3 : Int → Int) (k2 : 0 ≤ x2 ∧ x2 ≤ 0) (k3 : 0 ≤ x3 ∧ x3 ≤ 0) (k4 : 1 ≤ x4 ∧ x4 ≤ 1) (fe_0_11_1 : pos_0 = x3) (fe_0_157_1 : tokens_0 = tokens_1) (fe_0_11_2 : pos_1 = pos_2) (fe_0_157_2 : tokens_1 = tokens_2) (fe_0_157_3 : tokens_2 = x2) (hE_0_160_1 : ∀ j : Int, tokenKind_0 j = tokenKind_1 j) (hE_0_160_2 : ∀ j : Int, tokenKind_1 j = tokenKind_2 j) (hE_0_160_3 : ∀ j : Int, tokenKind_2 j = tokenKind_3 j) (kz_0_11 : 0 ≤ pos_0 ∧ pos_0 ≤ 2000) (kz_0_157 : 0 ≤ tokens_0 ∧ tokens_0 ≤ 2010) : ((tokens_0 + x4) ≤ (pos_0 + 1)) ∧ ((x4 = 1) ∨ ((1 ≤ tokens_0) ∧ ((tokenKind_0 ((tokens_0 - 1)) = 0) ∨ (tokenKind_0 ((tokens_0 - 1)) = 4)))) := by
  subst fe_0_157_1
  subst fe_0_11_2
  subst fe_0_157_2
  have e_hE_0_160_1 := funext hE_0_160_1; subst e_hE_0_160_1
  have e_hE_0_160_2 := funext hE_0_160_2; subst e_hE_0_160_2
  have e_hE_0_160_3 := funext hE_0_160_3; subst e_hE_0_160_3
  first | assumption | omega | grind
set_option maxHeartbeats 4000000 in
theorem vc_Mo_styleTokens_0_2 (x3 : Int) (x4 : Int) (pos_0 : Int) (tokens_0 : Int) (tokens_1 : Int) (pos_1 : Int) (pos_2 : Int) (tokens_2 : Int) (tokenKind_0 : Int → Int) (tokenKind_1 : Int → Int) (tokenKind_2 : Int → Int) (tokenKind_3 : Int → Int) (gx : Int) (k3 : 0 ≤ x3 ∧ x3 ≤ 0) (k4 : 1 ≤ x4 ∧ x4 ≤ 1) (fe_0_11_1 : pos_0 = x3) (fe_0_157_1 : tokens_0 = tokens_1) (fe_0_11_2 : pos_1 = pos_2) (fe_0_157_2 : tokens_1 = tokens_2) (hE_0_160_1 : ∀ j : Int, tokenKind_0 j = tokenKind_1 j) (hE_0_160_2 : ∀ j : Int, tokenKind_1 j = tokenKind_2 j) (hE_0_160_3 : ∀ j : Int, tokenKind_2 j = tokenKind_3 j) (kz_0_11 : 0 ≤ pos_0 ∧ pos_0 ≤ 2000) (kz_0_157 : 0 ≤ tokens_0 ∧ tokens_0 ≤ 2010) (ex2 : gx = 4000 + ((-2) * pos_0 + (1 * x4 + 0))) : 1 * gx + (2 * pos_0 + ((-1) * x4 + 0)) ≤ 4000 := by
  subst fe_0_157_1
  subst fe_0_11_2
  subst fe_0_157_2
  have e_hE_0_160_1 := funext hE_0_160_1; subst e_hE_0_160_1
  have e_hE_0_160_2 := funext hE_0_160_2; subst e_hE_0_160_2
  have e_hE_0_160_3 := funext hE_0_160_3; subst e_hE_0_160_3
  first | assumption | omega | grind
set_option maxHeartbeats 4000000 in
theorem vc_Mo_styleTokens_0_3 (x3 : Int) (x4 : Int) (pos_0 : Int) (tokens_0 : Int) (tokens_1 : Int) (pos_1 : Int) (pos_2 : Int) (tokens_2 : Int) (tokenKind_0 : Int → Int) (tokenKind_1 : Int → Int) (tokenKind_2 : Int → Int) (tokenKind_3 : Int → Int) (gx : Int) (k3 : 0 ≤ x3 ∧ x3 ≤ 0) (k4 : 1 ≤ x4 ∧ x4 ≤ 1) (fe_0_11_1 : pos_0 = x3) (fe_0_157_1 : tokens_0 = tokens_1) (fe_0_11_2 : pos_1 = pos_2) (fe_0_157_2 : tokens_1 = tokens_2) (hE_0_160_1 : ∀ j : Int, tokenKind_0 j = tokenKind_1 j) (hE_0_160_2 : ∀ j : Int, tokenKind_1 j = tokenKind_2 j) (hE_0_160_3 : ∀ j : Int, tokenKind_2 j = tokenKind_3 j) (kz_0_11 : 0 ≤ pos_0 ∧ pos_0 ≤ 2000) (kz_0_157 : 0 ≤ tokens_0 ∧ tokens_0 ≤ 2010) (ex2 : gx = 4000 + ((-2) * pos_0 + (1 * x4 + 0))) : (-1) * gx + ((-2) * pos_0 + (1 * x4 + 0)) ≤ (-4000) := by
  subst fe_0_157_1
  subst fe_0_11_2
  subst fe_0_157_2
  have e_hE_0_160_1 := funext hE_0_160_1; subst e_hE_0_160_1
  have e_hE_0_160_2 := funext hE_0_160_2; subst e_hE_0_160_2
  have e_hE_0_160_3 := funext hE_0_160_3; subst e_hE_0_160_3
  first | assumption | omega | grind
def o_Mo_styleTokens_0 : or_T := (17, 5, [(0, (2, 0, 0, [165])), (2, (0, 0, 0, [])), (3, (0, 0, 0, [])), (4, (0, 1, 1, []))], [(101, [0, 3], [11]), (101, [0, 1], [10]), (101, [0, 2], [157])], [], [(0, 0, 4001, [])], [(20, [0, 4], [50, 2, 1, 157, 11, 160, 2, 16, 0, 7, 4, 3, 2, 0, 157, 1, 1, 4, 3, 2, 0, 11, 0, 1, 3, 6, 1, 2, 1, 1, 0, 1, 2, 7, 0, 2, 0, 1, 2, 0, 157, 3, 14, 1, 10, 3, 0, 160, 5, 3, 2, 0, 157, 0, 1, 0, 0, 1, 10, 3, 0, 160, 5, 3, 2, 0, 157, 0, 1, 0, 4]), (24, [0, 0], []), (20, [5, 0, 4], [30, 4000, 1, 0, 0, 2, 1, 11, -1, 0, 0]), (20, [5, 0, 4], [30, -4000, -1, 0, 0, -2, 1, 11, 1, 0, 0])], [], [])
theorem oo_Mo_styleTokens_0 {kA : Nat → ClassId} : or_ok PRD kA GG o_Mo_styleTokens_0 := by
  refine or_mk fun A ta ws vs hD hth hl => ?_
  intro t0 r0 t2 k2 t3 k3 t4 k4 ta1 w1 le1 s1 ta2 w2 le2 s2 ta3 w3 le3 s3
  have s1 : (∀ b j, w_el ws b j = w_el w1 b j) ∧ ∀ b j, w_fd ws b j = if b = v_ad (n_v vs 0) ∧ j = 11 then n_v vs 3 else w_fd w1 b j := s1.2
  have s2 : (∀ b j, w_el w1 b j = w_el w2 b j) ∧ ∀ b j, w_fd w1 b j = if b = v_ad (n_v vs 0) ∧ j = 10 then n_v vs 1 else w_fd w2 b j := s2.2
  have s3 : (∀ b j, w_el w2 b j = w_el w3 b j) ∧ ∀ b j, w_fd w2 b j = if b = v_ad (n_v vs 0) ∧ j = 157 then n_v vs 2 else w_fd w3 b j := s3.2
  have fe_0_11_1 : w_fi ws (n_v vs 0) 11 = v_iv (n_v vs 3) := by show v_iv (w_fd _ _ _) = _; rw [s1.2, if_pos ⟨rfl, rfl⟩]
  have fe_0_157_1 : w_fi ws (n_v vs 0) 157 = w_fi w1 (n_v vs 0) 157 := by show v_iv (w_fd _ _ _) = v_iv (w_fd _ _ _); rw [s1.2, if_neg (fun e => absurd e.2 (by decide))]
  have fe_0_11_2 : w_fi w1 (n_v vs 0) 11 = w_fi w2 (n_v vs 0) 11 := by show v_iv (w_fd _ _ _) = v_iv (w_fd _ _ _); rw [s2.2, if_neg (fun e => absurd e.2 (by decide))]
  have fe_0_157_2 : w_fi w1 (n_v vs 0) 157 = w_fi w2 (n_v vs 0) 157 := by show v_iv (w_fd _ _ _) = v_iv (w_fd _ _ _); rw [s2.2, if_neg (fun e => absurd e.2 (by decide))]
  have fe_0_157_3 : w_fi w2 (n_v vs 0) 157 = v_iv (n_v vs 2) := by show v_iv (w_fd _ _ _) = _; rw [s3.2, if_pos ⟨rfl, rfl⟩]
  have hE_0_160_1 : ∀ j : Int, w_ei ws (w_ar ws (n_v vs 0) 160) j = w_ei w1 (w_ar ws (n_v vs 0) 160) j := fun j => s1.1 _ _
  have hE_0_160_2 : ∀ j : Int, w_ei w1 (w_ar ws (n_v vs 0) 160) j = w_ei w2 (w_ar ws (n_v vs 0) 160) j := fun j => s2.1 _ _
  have hE_0_160_3 : ∀ j : Int, w_ei w2 (w_ar ws (n_v vs 0) 160) j = w_ei w3 (w_ar ws (n_v vs 0) 160) j := fun j => s3.1 _ _
  have kz_0_11 := fdq_237 hD hth r0
  have kz_0_157 := fdq_35 hD hth r0
  obtain ⟨x, ex, hx⟩ := iv_ex (ta := ta) (lo := 0) (hi := 4001) (z := 4000 + ((-2) * w_fi ws (n_v vs 0) 11 + (1 * v_iv (n_v vs 4) + 0))) (by omega) (by omega) (by omega) (by omega)
  have ex2 : v_iv (Value.int x) = 4000 + ((-2) * w_fi ws (n_v vs 0) 11 + (1 * v_iv (n_v vs 4) + 0)) := ex
  have ex3 : 0 ≤ v_iv (Value.int x) ∧ v_iv (Value.int x) ≤ 4001 := tv_rng hx
  have e_0 : n_v (vs ++ [Value.int x]) 0 = n_v vs 0 := n_v_old (by rw [hl]; decide)
  have e_4 : n_v (vs ++ [Value.int x]) 4 = n_v vs 4 := n_v_old (by rw [hl]; decide)
  have e_5 : n_v (vs ++ [Value.int x]) 5 = Value.int x := n_v_new hl
  have nf0 : fc_1 PRD (20, [0, 4], [50, 2, 1, 157, 11, 160, 2, 16, 0, 7, 4, 3, 2, 0, 157, 1, 1, 4, 3, 2, 0, 11, 0, 1, 3, 6, 1, 2, 1, 1, 0, 1, 2, 7, 0, 2, 0, 1, 2, 0, 157, 3, 14, 1, 10, 3, 0, 160, 5, 3, 2, 0, 157, 0, 1, 0, 0, 1, 10, 3, 0, 160, 5, 3, 2, 0, 157, 0, 1, 0, 4]) ws (vs ++ [Value.int x]) := by
    refine ⟨nf_inA hl rfl, sgq_1319 ?_⟩
    · show ((w_fi ws (n_v (vs ++ [Value.int x]) 0) 157 + v_iv (n_v (vs ++ [Value.int x]) 4)) ≤ (w_fi ws (n_v (vs ++ [Value.int x]) 0) 11 + 1)) ∧ ((v_iv (n_v (vs ++ [Value.int x]) 4) = 1) ∨ ((1 ≤ w_fi ws (n_v (vs ++ [Value.int x]) 0) 157) ∧ ((w_ei ws (w_ar ws (n_v (vs ++ [Value.int x]) 0) 160) ((w_fi ws (n_v (vs ++ [Value.int x]) 0) 157 - 1)) = 0) ∨ (w_ei ws (w_ar ws (n_v (vs ++ [Value.int x]) 0) 160) ((w_fi ws (n_v (vs ++ [Value.int x]) 0) 157 - 1)) = 4))))
      simp only [e_0, e_4]
      exact vc_Mo_styleTokens_0_0 (v_iv (n_v vs 2)) (v_iv (n_v vs 3)) (v_iv (n_v vs 4)) (w_fi ws (n_v vs 0) 11) (w_fi ws (n_v vs 0) 157) (w_fi w1 (n_v vs 0) 157) (w_fi w1 (n_v vs 0) 11) (w_fi w2 (n_v vs 0) 11) (w_fi w2 (n_v vs 0) 157) (w_ei ws (w_ar ws (n_v vs 0) 160)) (w_ei w1 (w_ar ws (n_v vs 0) 160)) (w_ei w2 (w_ar ws (n_v vs 0) 160)) (w_ei w3 (w_ar ws (n_v vs 0) 160)) k2 k3 k4 fe_0_11_1 fe_0_157_1 fe_0_11_2 fe_0_157_2 fe_0_157_3 hE_0_160_1 hE_0_160_2 hE_0_160_3 kz_0_11 kz_0_157
  have nf1 : fc_1 PRD (24, [0, 0], []) ws (vs ++ [Value.int x]) := by
    refine ⟨nf_inA hl rfl, sgq_1 ?_⟩
    · show n_v (vs ++ [Value.int x]) 0 = n_v (vs ++ [Value.int x]) 0
      first | rfl | simp only [e_0]
  have nf2 : fc_1 PRD (20, [5, 0, 4], [30, 4000, 1, 0, 0, 2, 1, 11, -1, 0, 0]) ws (vs ++ [Value.int x]) := by
    refine ⟨nf_inA hl rfl, sgq_1320 ?_⟩
    · show 1 * v_iv (n_v (vs ++ [Value.int x]) 5) + (2 * w_fi ws (n_v (vs ++ [Value.int x]) 0) 11 + ((-1) * v_iv (n_v (vs ++ [Value.int x]) 4) + 0)) ≤ 4000
      simp only [e_0, e_4, e_5]
      exact vc_Mo_styleTokens_0_2 (v_iv (n_v vs 3)) (v_iv (n_v vs 4)) (w_fi ws (n_v vs 0) 11) (w_fi ws (n_v vs 0) 157) (w_fi w1 (n_v vs 0) 157) (w_fi w1 (n_v vs 0) 11) (w_fi w2 (n_v vs 0) 11) (w_fi w2 (n_v vs 0) 157) (w_ei ws (w_ar ws (n_v vs 0) 160)) (w_ei w1 (w_ar ws (n_v vs 0) 160)) (w_ei w2 (w_ar ws (n_v vs 0) 160)) (w_ei w3 (w_ar ws (n_v vs 0) 160)) (v_iv (Value.int x)) k3 k4 fe_0_11_1 fe_0_157_1 fe_0_11_2 fe_0_157_2 hE_0_160_1 hE_0_160_2 hE_0_160_3 kz_0_11 kz_0_157 ex2
  have nf3 : fc_1 PRD (20, [5, 0, 4], [30, -4000, -1, 0, 0, -2, 1, 11, 1, 0, 0]) ws (vs ++ [Value.int x]) := by
    refine ⟨nf_inA hl rfl, sgq_1321 ?_⟩
    · show (-1) * v_iv (n_v (vs ++ [Value.int x]) 5) + ((-2) * w_fi ws (n_v (vs ++ [Value.int x]) 0) 11 + (1 * v_iv (n_v (vs ++ [Value.int x]) 4) + 0)) ≤ (-4000)
      simp only [e_0, e_4, e_5]
      exact vc_Mo_styleTokens_0_3 (v_iv (n_v vs 3)) (v_iv (n_v vs 4)) (w_fi ws (n_v vs 0) 11) (w_fi ws (n_v vs 0) 157) (w_fi w1 (n_v vs 0) 157) (w_fi w1 (n_v vs 0) 11) (w_fi w2 (n_v vs 0) 11) (w_fi w2 (n_v vs 0) 157) (w_ei ws (w_ar ws (n_v vs 0) 160)) (w_ei w1 (w_ar ws (n_v vs 0) 160)) (w_ei w2 (w_ar ws (n_v vs 0) 160)) (w_ei w3 (w_ar ws (n_v vs 0) 160)) (v_iv (Value.int x)) k3 k4 fe_0_11_1 fe_0_157_1 fe_0_11_2 fe_0_157_2 hE_0_160_1 hE_0_160_2 hE_0_160_3 kz_0_11 kz_0_157 ex2
  exact ⟨(fun _ h => (by cases h)), [Value.int x], ag_one hx, List.forall_mem_cons.mpr ⟨⟨show (20 : Nat) < 100 from by decide, nf0⟩, List.forall_mem_cons.mpr ⟨⟨show (24 : Nat) < 100 from by decide, nf1⟩, List.forall_mem_cons.mpr ⟨⟨show (20 : Nat) < 100 from by decide, nf2⟩, List.forall_mem_cons.mpr ⟨⟨show (20 : Nat) < 100 from by decide, nf3⟩, (fun _ h => (by cases h))⟩⟩⟩⟩, (fun _ h => (by cases h))⟩
set_option maxHeartbeats 4000000 in
theorem vc_Mo_styleTokens_1_0 (x4 : Int) (tokenKind_0 : Int → Int) (tokens_0 : Int) (pos_0 : Int) (k4 : 0 ≤ x4 ∧ x4 ≤ 0) (f1 : ((tokens_0 + x4) ≤ (pos_0 + 1)) ∧ ((x4 = 1) ∨ ((1 ≤ tokens_0) ∧ ((tokenKind_0 ((tokens_0 - 1)) = 0) ∨ (tokenKind_0 ((tokens_0 - 1)) = 4))))) (kz_0_11 : 0 ≤ pos_0 ∧ pos_0 ≤ 2000) (kz_0_157 : 0 ≤ tokens_0 ∧ tokens_0 ≤ 2010) : (1 ≤ tokens_0) ∧ ((tokenKind_0 ((tokens_0 - 1)) = 0) ∨ (tokenKind_0 ((tokens_0 - 1)) = 4)) := by
  first | assumption | omega | grind
set_option maxHeartbeats 4000000 in
theorem vc_Mo_styleTokens_1_1 (x4 : Int) (x7 : Int) (tokenKind_0 : Int → Int) (tokens_0 : Int) (pos_0 : Int) (k4 : 0 ≤ x4 ∧ x4 ≤ 0) (k7 : 0 ≤ x7 ∧ x7 ≤ 4001) (f1 : ((tokens_0 + x4) ≤ (pos_0 + 1)) ∧ ((x4 = 1) ∨ ((1 ≤ tokens_0) ∧ ((tokenKind_0 ((tokens_0 - 1)) = 0) ∨ (tokenKind_0 ((tokens_0 - 1)) = 4))))) (f3 : 1 * x7 + (2 * pos_0 + ((-1) * x4 + 0)) ≤ 4000) (f4 : (-1) * x7 + ((-2) * pos_0 + (1 * x4 + 0)) ≤ (-4000)) (kz_0_11 : 0 ≤ pos_0 ∧ pos_0 ≤ 2000) (kz_0_157 : 0 ≤ tokens_0 ∧ tokens_0 ≤ 2010) : 1 * tokens_0 + 0 ≤ 2001 := by
  first | assumption | omega | grind
def o_Mo_styleTokens_1 : or_T := (439, 8, [(0, (2, 0, 0, [165])), (4, (0, 0, 0, [])), (7, (0, 0, 4001, []))], [(20, [2, 4], [50, 2, 1, 157, 11, 160, 2, 16, 0, 7, 4, 3, 2, 0, 157, 1, 1, 4, 3, 2, 0, 11, 0, 1, 3, 6, 1, 2, 1, 1, 0, 1, 2, 7, 0, 2, 0, 1, 2, 0, 157, 3, 14, 1, 10, 3, 0, 160, 5, 3, 2, 0, 157, 0, 1, 0, 0, 1, 10, 3, 0, 160, 5, 3, 2, 0, 157, 0, 1, 0, 4]), (24, [0, 2], []), (20, [7, 2, 4], [30, 4000, 1, 0, 0, 2, 1, 11, -1, 0, 0]), (20, [7, 2, 4], [30, -4000, -1, 0, 0, -2, 1, 11, 1, 0, 0])], [], [], [(20, [0], [50, 1, 1, 157, 160, 2, 7, 0, 2, 0, 1, 2, 0, 157, 3, 14, 1, 10, 3, 0, 160, 5, 3, 2, 0, 157, 0, 1, 0, 0, 1, 10, 3, 0, 160, 5, 3, 2, 0, 157, 0, 1, 0, 4]), (20, [0], [30, 2001, 1, 1, 157])], [], [])
theorem oo_Mo_styleTokens_1 {kA : Nat → ClassId} : or_ok PRD kA GG o_Mo_styleTokens_1 := by
  refine or_mk fun A ta ws vs hD hth hl => ?_
  intro t0 r0 t4 k4 t7 k7 f1 f2 f3 f4
  replace f1 := shm_1319 f1
  replace f2 := shm_5 f2
  replace f3 := shm_1320 f3
  replace f4 := shm_1321 f4
  have q2 : n_v vs 2 = n_v vs 0 := f2.symm
  simp only [q2] at f1 f3 f4
  have kz_0_11 := fdq_237 hD hth r0
  have kz_0_157 := fdq_35 hD hth r0
  have nf0 : fc_1 PRD (20, [0], [50, 1, 1, 157, 160, 2, 7, 0, 2, 0, 1, 2, 0, 157, 3, 14, 1, 10, 3, 0, 160, 5, 3, 2, 0, 157, 0, 1, 0, 0, 1, 10, 3, 0, 160, 5, 3, 2, 0, 157, 0, 1, 0, 4]) ws (vs) := ⟨nf_in hl rfl, sgq_1322 (vc_Mo_styleTokens_1_0 (v_iv (n_v vs 4)) (w_ei ws (w_ar ws (n_v vs 0) 160)) (w_fi ws (n_v vs 0) 157) (w_fi ws (n_v vs 0) 11) k4 f1 kz_0_11 kz_0_157)⟩
  have nf1 : fc_1 PRD (20, [0], [30, 2001, 1, 1, 157]) ws (vs) := ⟨nf_in hl rfl, sgq_1323 (vc_Mo_styleTokens_1_1 (v_iv (n_v vs 4)) (v_iv (n_v vs 7)) (w_ei ws (w_ar ws (n_v vs 0) 160)) (w_fi ws (n_v vs 0) 157) (w_fi ws (n_v vs 0) 11) k4 k7 f1 f3 f4 kz_0_11 kz_0_157)⟩
  refine ⟨(fun _ h => (by cases h)), [], trivial, ?_, (fun _ h => (by cases h))⟩
  rw [List.append_nil]
  exact List.forall_mem_cons.mpr ⟨⟨show (20 : Nat) < 100 from by decide, nf0⟩, List.forall_mem_cons.mpr ⟨⟨show (20 : Nat) < 100 from by decide, nf1⟩, (fun _ h => (by cases h))⟩⟩
set_option maxHeartbeats 4000000 in
theorem vc_Mo_styleTokens_2_0 (x4 : Int) (tokenKind_0 : Int → Int) (tokens_0 : Int) (pos_0 : Int) (k4 : 1 ≤ x4 ∧ x4 ≤ 1) (f1 : ((tokens_0 + x4) ≤ (pos_0 + 1)) ∧ ((x4 = 1) ∨ ((1 ≤ tokens_0) ∧ ((tokenKind_0 ((tokens_0 - 1)) = 0) ∨ (tokenKind_0 ((tokens_0 - 1)) = 4))))) (kz_0_11 : 0 ≤ pos_0 ∧ pos_0 ≤ 2000) (kz_0_157 : 0 ≤ tokens_0 ∧ tokens_0 ≤ 2010) : tokens_0 ≤ pos_0 := by
  first | assumption | omega | grind
set_option maxHeartbeats 4000000 in
theorem vc_Mo_styleTokens_2_1 (x4 : Int) (x7 : Int) (pos_0 : Int) (gx : Int) (k4 : 1 ≤ x4 ∧ x4 ≤ 1) (k7 : 0 ≤ x7 ∧ x7 ≤ 4001) (f3 : 1 * x7 + (2 * pos_0 + ((-1) * x4 + 0)) ≤ 4000) (f4 : (-1) * x7 + ((-2) * pos_0 + (1 * x4 + 0)) ≤ (-4000)) (kz_0_11 : 0 ≤ pos_0 ∧ pos_0 ≤ 2000) (ex2 : gx = 0 + (1 * x7 + 0)) : (-1) * gx + ((-2) * pos_0 + 0) ≤ (-4001) := by
  first | assumption | omega | grind
def o_Mo_styleTokens_2 : or_T := (21, 8, [(0, (2, 0, 0, [165])), (2, (2, 0, 0, [165])), (4, (0, 1, 1, [])), (7, (0, 0, 4001, []))], [(8, [4], [1]), (20, [2, 4], [50, 2, 1, 157, 11, 160, 2, 16, 0, 7, 4, 3, 2, 0, 157, 1, 1, 4, 3, 2, 0, 11, 0, 1, 3, 6, 1, 2, 1, 1, 0, 1, 2, 7, 0, 2, 0, 1, 2, 0, 157, 3, 14, 1, 10, 3, 0, 160, 5, 3, 2, 0, 157, 0, 1, 0, 0, 1, 10, 3, 0, 160, 5, 3, 2, 0, 157, 0, 1, 0, 4]), (24, [0, 2], []), (20, [7, 2, 4], [30, 4000, 1, 0, 0, 2, 1, 11, -1, 0, 0]), (20, [7, 2, 4], [30, -4000, -1, 0, 0, -2, 1, 11, 1, 0, 0])], [], [(0, 0, 4001, [])], [(20, [2], [50, 2, 0, 157, 11, 0, 3, 2, 0, 157, 2, 0, 11]), (20, [8, 2], [30, -4001, -1, 0, 0, -2, 1, 11]), (24, [0, 2], [])], [(8, 7, 0, 0)], [])
theorem oo_Mo_styleTokens_2 {kA : Nat → ClassId} : or_ok PRD kA GG o_Mo_styleTokens_2 := by
  refine or_mk fun A ta ws vs hD hth hl => ?_
  intro t0 r0 t2 r2 t4 k4 t7 k7 f0 f1 f2 f3 f4
  replace f0 := shm_142 f0
  replace f1 := shm_1319 f1
  replace f2 := shm_5 f2
  replace f3 := shm_1320 f3
  replace f4 := shm_1321 f4
  have q2 : n_v vs 2 = n_v vs 0 := f2.symm
  simp only [q2] at f1 f3 f4
  have cr_0_160 := fdq_33 hD hth r0
  have hK_0_160 := elq_6 hD hth cr_0_160
  have kz_0_11 := fdq_237 hD hth r0
  have kz_0_157 := fdq_35 hD hth r0
  obtain ⟨x, ex, hx⟩ := iv_ex (ta := ta) (lo := 0) (hi := 4001) (z := 0 + (1 * v_iv (n_v vs 7) + 0)) (by omega) (by omega) (by omega) (by omega)
  have ex2 : v_iv (Value.int x) = 0 + (1 * v_iv (n_v vs 7) + 0) := ex
  have ex3 : 0 ≤ v_iv (Value.int x) ∧ v_iv (Value.int x) ≤ 4001 := tv_rng hx
  have e_0 : n_v (vs ++ [Value.int x]) 0 = n_v vs 0 := n_v_old (by rw [hl]; decide)
  have e_2 : n_v (vs ++ [Value.int x]) 2 = n_v vs 2 := n_v_old (by rw [hl]; decide)
  have e_8 : n_v (vs ++ [Value.int x]) 8 = Value.int x := n_v_new hl
  have nf0 : fc_1 PRD (20, [2], [50, 2, 0, 157, 11, 0, 3, 2, 0, 157, 2, 0, 11]) ws (vs ++ [Value.int x]) := by
    refine ⟨nf_inA hl rfl, sgq_1324 ?_⟩
    · show w_fi ws (n_v (vs ++ [Value.int x]) 2) 157 ≤ w_fi ws (n_v (vs ++ [Value.int x]) 2) 11
      simp only [e_2, q2]
      exact vc_Mo_styleTokens_2_0 (v_iv (n_v vs 4)) (w_ei ws (w_ar ws (n_v vs 0) 160)) (w_fi ws (n_v vs 0) 157) (w_fi ws (n_v vs 0) 11) k4 f1 kz_0_11 kz_0_157
  have nf1 : fc_1 PRD (20, [8, 2], [30, -4001, -1, 0, 0, -2, 1, 11]) ws (vs ++ [Value.int x]) := by
    refine ⟨nf_inA hl rfl, sgq_1325 ?_⟩
    · show (-1) * v_iv (n_v (vs ++ [Value.int x]) 8) + ((-2) * w_fi ws (n_v (vs ++ [Value.int x]) 2) 11 + 0) ≤ (-4001)
      simp only [e_2, e_8, q2]
      exact vc_Mo_styleTokens_2_1 (v_iv (n_v vs 4)) (v_iv (n_v vs 7)) (w_fi ws (n_v vs 0) 11) (v_iv (Value.int x)) k4 k7 f3 f4 kz_0_11 ex2
  have nf2 : fc_1 PRD (24, [0, 2], []) ws (vs ++ [Value.int x]) := by
    refine ⟨nf_inA hl rfl, sgq_5 ?_⟩
    · show n_v (vs ++ [Value.int x]) 0 = n_v (vs ++ [Value.int x]) 2
      first | rfl | simp only [e_0, e_2, q2]
  obtain ⟨x0, e0, _, _⟩ := tv_int t7 rfl
  have e1 : v_iv (n_v vs 7) = x0.toInt := by rw [e0]; rfl
  have ho : sy_ofs (vs ++ [Value.int x]) (8, 7, 0, 0) := by
    refine ⟨x, x0, by rw [List.getElem?_append_right (by rw [hl]; decide), hl]; rfl, ?_, ?_, ?_⟩
    · rw [List.getElem?_append_left (by rw [hl]; decide)]; exact n_v_some (by rw [hl]; decide) e0
    · show x0.toInt + 0 ≤ x.toInt; omega
    · show x.toInt ≤ x0.toInt + 0; omega
  exact ⟨(fun _ h => (by cases h)), [Value.int x], ag_one hx, List.forall_mem_cons.mpr ⟨⟨show (20 : Nat) < 100 from by decide, nf0⟩, List.forall_mem_cons.mpr ⟨⟨show (20 : Nat) < 100 from by decide, nf1⟩, List.forall_mem_cons.mpr ⟨⟨show (24 : Nat) < 100 from by decide, nf2⟩, (fun _ h => (by cases h))⟩⟩⟩, List.forall_mem_cons.mpr ⟨ho, (fun _ h => (by cases h))⟩⟩
set_option maxHeartbeats 4000000 in
theorem vc_Mo_styleTokens_3_0 (pos_0 : Int) (tokens_0 : Int) (f7 : tokens_0 ≤ pos_0) (kz_0_11 : 0 ≤ pos_0 ∧ pos_0 ≤ 2000) (kz_0_157 : 0 ≤ tokens_0 ∧ tokens_0 ≤ 2010) : tokens_0 ≤ pos_0 := by
  first | assumption | omega | grind
set_option maxHeartbeats 4000000 in
theorem vc_Mo_styleTokens_3_1 (x6 : Int) (pos_0 : Int) (gx : Int) (k6 : 0 ≤ x6 ∧ x6 ≤ 4001) (f8 : (-1) * x6 + ((-2) * pos_0 + 0) ≤ (-4001)) (kz_0_11 : 0 ≤ pos_0 ∧ pos_0 ≤ 2000) (ex2 : gx = 0 + (1 * x6 + 0)) : (-1) * gx + ((-2) * pos_0 + 0) ≤ (-4001) := by
  first | assumption | omega | grind
def o_Mo_styleTokens_3 : or_T := (60, 11, [(0, (2, 0, 0, [165])), (2, (2, 0, 0, [165])), (5, (0, 0, 2000, [])), (6, (0, 0, 4001, [])), (7, (0, -1, -1, [])), (8, (0, 32, 32, [])), (9, (0, -1, -1, [])), (10, (0, 10, 10, []))], [(7, [9, 10], [1]), (20, [5, 2, 9], [50, 1, 1, 1010, 1001, 4, 11, 0, 6, 4, 2, 1, 0, 0, 1, 2, 1, 10, 1, 2, 1, 2, 9, 5, 3, 1, 1, 1, 0, 0, 256]), (20, [2, 5, 9], [50, 1, 0, 10, 4, 7, 0, 3, 2, 0, 10, 1, 1, 1, 2, 1, 2, 0, -1]), (9, [5, 2], [11]), (7, [7, 8], [1]), (20, [5, 2, 7], [50, 1, 1, 1010, 1001, 4, 11, 0, 6, 4, 2, 1, 0, 0, 1, 2, 1, 10, 1, 2, 1, 2, 9, 5, 3, 1, 1, 1, 0, 0, 256]), (20, [2, 5, 7], [50, 1, 0, 10, 4, 7, 0, 3, 2, 0, 10, 1, 1, 1, 2, 1, 2, 0, -1]), (20, [2], [50, 2, 0, 157, 11, 0, 3, 2, 0, 157, 2, 0, 11]), (20, [6, 2], [30, -4001, -1, 0, 0, -2, 1, 11]), (24, [0, 2], [])], [], [(0, 0, 4001, [])], [(20, [2], [50, 2, 0, 157, 11, 0, 3, 2, 0, 157, 2, 0, 11]), (20, [11, 2], [30, -4001, -1, 0, 0, -2, 1, 11]), (24, [0, 2], [])], [(11, 6, 0, 0)], [])
theorem oo_Mo_styleTokens_3 {kA : Nat → ClassId} : or_ok PRD kA GG o_Mo_styleTokens_3 := by
  refine or_mk fun A ta ws vs hD hth hl => ?_
  intro t0 r0 t2 r2 t5 k5 t6 k6 t7 k7 t8 k8 t9 k9 t10 k10 f0 f1 f2 f3 f4 f5 f6 f7 f8 f9
  replace f0 := shm_40 f0
  replace f1 := shm_541 f1
  replace f2 := shm_542 f2
  replace f3 := shm_116 f3
  replace f4 := shm_40 f4
  replace f5 := shm_541 f5
  replace f6 := shm_542 f6
  replace f7 := shm_1324 f7
  replace f8 := shm_1325 f8
  replace f9 := shm_5 f9
  have q2 : n_v vs 2 = n_v vs 0 := f9.symm
  simp only [q2] at f1 f2 f3 f5 f6 f7 f8
  have cr_0_1 := fdq_39 hD hth r0
  have g3 : v_iv (n_v vs 5) = w_fi ws (n_v vs 0) 11 := congrArg v_iv f3
  have hK_0_1 := elq_7 hD hth cr_0_1
  have kz_0_10 := fdq_43 hD hth r0
  have kz_0_11 := fdq_237 hD hth r0
  have kz_0_157 := fdq_35 hD hth r0
  obtain ⟨x, ex, hx⟩ := iv_ex (ta := ta) (lo := 0) (hi := 4001) (z := 0 + (1 * v_iv (n_v vs 6) + 0)) (by omega) (by omega) (by omega) (by omega)
  have ex2 : v_iv (Value.int x) = 0 + (1 * v_iv (n_v vs 6) + 0) := ex
  have ex3 : 0 ≤ v_iv (Value.int x) ∧ v_iv (Value.int x) ≤ 4001 := tv_rng hx
  have e_0 : n_v (vs ++ [Value.int x]) 0 = n_v vs 0 := n_v_old (by rw [hl]; decide)
  have e_2 : n_v (vs ++ [Value.int x]) 2 = n_v vs 2 := n_v_old (by rw [hl]; decide)
  have e_11 : n_v (vs ++ [Value.int x]) 11 = Value.int x := n_v_new hl
  have nf0 : fc_1 PRD (20, [2], [50, 2, 0, 157, 11, 0, 3, 2, 0, 157, 2, 0, 11]) ws (vs ++ [Value.int x]) := by
    refine ⟨nf_inA hl rfl, sgq_1324 ?_⟩
    · show w_fi ws (n_v (vs ++ [Value.int x]) 2) 157 ≤ w_fi ws (n_v (vs ++ [Value.int x]) 2) 11
      simp only [e_2, q2]
      exact vc_Mo_styleTokens_3_0 (w_fi ws (n_v vs 0) 11) (w_fi ws (n_v vs 0) 157) f7 kz_0_11 kz_0_157
  have nf1 : fc_1 PRD (20, [11, 2], [30, -4001, -1, 0, 0, -2, 1, 11]) ws (vs ++ [Value.int x]) := by
    refine ⟨nf_inA hl rfl, sgq_1325 ?_⟩
    · show (-1) * v_iv (n_v (vs ++ [Value.int x]) 11) + ((-2) * w_fi ws (n_v (vs ++ [Value.int x]) 2) 11 + 0) ≤ (-4001)
      simp only [e_2, e_11, q2]
      exact vc_Mo_styleTokens_3_1 (v_iv (n_v vs 6)) (w_fi ws (n_v vs 0) 11) (v_iv (Value.int x)) k6 f8 kz_0_11 ex2
  have nf2 : fc_1 PRD (24, [0, 2], []) ws (vs ++ [Value.int x]) := by
    refine ⟨nf_inA hl rfl, sgq_5 ?_⟩
    · show n_v (vs ++ [Value.int x]) 0 = n_v (vs ++ [Value.int x]) 2
      first | rfl | simp only [e_0, e_2, q2]
  obtain ⟨x0, e0, _, _⟩ := tv_int t6 rfl
  have e1 : v_iv (n_v vs 6) = x0.toInt := by rw [e0]; rfl
  have ho : sy_ofs (vs ++ [Value.int x]) (11, 6, 0, 0) := by
    refine ⟨x, x0, by rw [List.getElem?_append_right (by rw [hl]; decide), hl]; rfl, ?_, ?_, ?_⟩
    · rw [List.getElem?_append_left (by rw [hl]; decide)]; exact n_v_some (by rw [hl]; decide) e0
    · show x0.toInt + 0 ≤ x.toInt; omega
    · show x.toInt ≤ x0.toInt + 0; omega
  exact ⟨(fun _ h => (by cases h)), [Value.int x], ag_one hx, List.forall_mem_cons.mpr ⟨⟨show (20 : Nat) < 100 from by decide, nf0⟩, List.forall_mem_cons.mpr ⟨⟨show (20 : Nat) < 100 from by decide, nf1⟩, List.forall_mem_cons.mpr ⟨⟨show (24 : Nat) < 100 from by decide, nf2⟩, (fun _ h => (by cases h))⟩⟩⟩, List.forall_mem_cons.mpr ⟨ho, (fun _ h => (by cases h))⟩⟩
set_option maxHeartbeats 4000000 in
theorem vc_Mo_styleTokens_4_0 (pos_0 : Int) (tokens_0 : Int) (f7 : tokens_0 ≤ pos_0) (kz_0_11 : 0 ≤ pos_0 ∧ pos_0 ≤ 2000) (kz_0_157 : 0 ≤ tokens_0 ∧ tokens_0 ≤ 2010) : tokens_0 ≤ pos_0 := by
  first | assumption | omega | grind
set_option maxHeartbeats 4000000 in
theorem vc_Mo_styleTokens_4_1 (x6 : Int) (pos_0 : Int) (gx : Int) (k6 : 0 ≤ x6 ∧ x6 ≤ 4001) (f8 : (-1) * x6 + ((-2) * pos_0 + 0) ≤ (-4001)) (kz_0_11 : 0 ≤ pos_0 ∧ pos_0 ≤ 2000) (ex2 : gx = 0 + (1 * x6 + 0)) : (-1) * gx + ((-2) * pos_0 + 0) ≤ (-4001) := by
  first | assumption | omega | grind
def o_Mo_styleTokens_4 : or_T := (60, 11, [(0, (2, 0, 0, [165])), (2, (2, 0, 0, [165])), (5, (0, 0, 1999, [])), (6, (0, 0, 4001, [])), (7, (0, -1, -1, [])), (8, (0, 32, 32, [])), (9, (0, 0, 255, [])), (10, (0, 10, 10, []))], [(7, [9, 10], [1]), (20, [5, 2, 9], [50, 1, 1, 1010, 1001, 4, 11, 0, 6, 4, 2, 1, 0, 0, 1, 2, 1, 10, 1, 2, 1, 2, 9, 5, 3, 1, 1, 1, 0, 0, 256]), (20, [2, 5, 9], [50, 1, 0, 10, 4, 7, 0, 3, 2, 0, 10, 1, 1, 1, 2, 1, 2, 0, -1]), (9, [5, 2], [11]), (7, [7, 8], [1]), (20, [5, 2, 7], [50, 1, 1, 1010, 1001, 4, 11, 0, 6, 4, 2, 1, 0, 0, 1, 2, 1, 10, 1, 2, 1, 2, 9, 5, 3, 1, 1, 1, 0, 0, 256]), (20, [2, 5, 7], [50, 1, 0, 10, 4, 7, 0, 3, 2, 0, 10, 1, 1, 1, 2, 1, 2, 0, -1]), (20, [2], [50, 2, 0, 157, 11, 0, 3, 2, 0, 157, 2, 0, 11]), (20, [6, 2], [30, -4001, -1, 0, 0, -2, 1, 11]), (24, [0, 2], [])], [], [(0, 0, 4001, [])], [(20, [2], [50, 2, 0, 157, 11, 0, 3, 2, 0, 157, 2, 0, 11]), (20, [11, 2], [30, -4001, -1, 0, 0, -2, 1, 11]), (24, [0, 2], [])], [(11, 6, 0, 0)], [])
theorem oo_Mo_styleTokens_4 {kA : Nat → ClassId} : or_ok PRD kA GG o_Mo_styleTokens_4 := by
  refine or_mk fun A ta ws vs hD hth hl => ?_
  intro t0 r0 t2 r2 t5 k5 t6 k6 t7 k7 t8 k8 t9 k9 t10 k10 f0 f1 f2 f3 f4 f5 f6 f7 f8 f9
  replace f0 := shm_40 f0
  replace f1 := shm_541 f1
  replace f2 := shm_542 f2
  replace f3 := shm_116 f3
  replace f4 := shm_40 f4
  replace f5 := shm_541 f5
  replace f6 := shm_542 f6
  replace f7 := shm_1324 f7
  replace f8 := shm_1325 f8
  replace f9 := shm_5 f9
  have q2 : n_v vs 2 = n_v vs 0 := f9.symm
  simp only [q2] at f1 f2 f3 f5 f6 f7 f8
  have cr_0_1 := fdq_39 hD hth r0
  have g3 : v_iv (n_v vs 5) = w_fi ws (n_v vs 0) 11 := congrArg v_iv f3
  have hK_0_1 := elq_7 hD hth cr_0_1
  have kz_0_10 := fdq_43 hD hth r0
  have kz_0_11 := fdq_237 hD hth r0
  have kz_0_157 := fdq_35 hD hth r0
  obtain ⟨x, ex, hx⟩ := iv_ex (ta := ta) (lo := 0) (hi := 4001) (z := 0 + (1 * v_iv (n_v vs 6) + 0)) (by omega) (by omega) (by omega) (by omega)
  have ex2 : v_iv (Value.int x) = 0 + (1 * v_iv (n_v vs 6) + 0) := ex
  have ex3 : 0 ≤ v_iv (Value.int x) ∧ v_iv (Value.int x) ≤ 4001 := tv_rng hx
  have e_0 : n_v (vs ++ [Value.int x]) 0 = n_v vs 0 := n_v_old (by rw [hl]; decide)
  have e_2 : n_v (vs ++ [Value.int x]) 2 = n_v vs 2 := n_v_old (by rw [hl]; decide)
  have e_11 : n_v (vs ++ [Value.int x]) 11 = Value.int x := n_v_new hl
  have nf0 : fc_1 PRD (20, [2], [50, 2, 0, 157, 11, 0, 3, 2, 0, 157, 2, 0, 11]) ws (vs ++ [Value.int x]) := by
    refine ⟨nf_inA hl rfl, sgq_1324 ?_⟩
    · show w_fi ws (n_v (vs ++ [Value.int x]) 2) 157 ≤ w_fi ws (n_v (vs ++ [Value.int x]) 2) 11
      simp only [e_2, q2]
      exact vc_Mo_styleTokens_4_0 (w_fi ws (n_v vs 0) 11) (w_fi ws (n_v vs 0) 157) f7 kz_0_11 kz_0_157
  have nf1 : fc_1 PRD (20, [11, 2], [30, -4001, -1, 0, 0, -2, 1, 11]) ws (vs ++ [Value.int x]) := by
    refine ⟨nf_inA hl rfl, sgq_1325 ?_⟩
    · show (-1) * v_iv (n_v (vs ++ [Value.int x]) 11) + ((-2) * w_fi ws (n_v (vs ++ [Value.int x]) 2) 11 + 0) ≤ (-4001)
      simp only [e_2, e_11, q2]
      exact vc_Mo_styleTokens_4_1 (v_iv (n_v vs 6)) (w_fi ws (n_v vs 0) 11) (v_iv (Value.int x)) k6 f8 kz_0_11 ex2
  have nf2 : fc_1 PRD (24, [0, 2], []) ws (vs ++ [Value.int x]) := by
    refine ⟨nf_inA hl rfl, sgq_5 ?_⟩
    · show n_v (vs ++ [Value.int x]) 0 = n_v (vs ++ [Value.int x]) 2
      first | rfl | simp only [e_0, e_2, q2]
  obtain ⟨x0, e0, _, _⟩ := tv_int t6 rfl
  have e1 : v_iv (n_v vs 6) = x0.toInt := by rw [e0]; rfl
  have ho : sy_ofs (vs ++ [Value.int x]) (11, 6, 0, 0) := by
    refine ⟨x, x0, by rw [List.getElem?_append_right (by rw [hl]; decide), hl]; rfl, ?_, ?_, ?_⟩
    · rw [List.getElem?_append_left (by rw [hl]; decide)]; exact n_v_some (by rw [hl]; decide) e0
    · show x0.toInt + 0 ≤ x.toInt; omega
    · show x.toInt ≤ x0.toInt + 0; omega
  exact ⟨(fun _ h => (by cases h)), [Value.int x], ag_one hx, List.forall_mem_cons.mpr ⟨⟨show (20 : Nat) < 100 from by decide, nf0⟩, List.forall_mem_cons.mpr ⟨⟨show (20 : Nat) < 100 from by decide, nf1⟩, List.forall_mem_cons.mpr ⟨⟨show (24 : Nat) < 100 from by decide, nf2⟩, (fun _ h => (by cases h))⟩⟩⟩, List.forall_mem_cons.mpr ⟨ho, (fun _ h => (by cases h))⟩⟩
set_option maxHeartbeats 4000000 in
theorem vc_Mo_styleTokens_5_0 (x5 : Int) (x12 : Int) (tape_0 : Int → Int) (limit_0 : Int) (pos_1 : Int) (tape_1 : Int → Int) (limit_1 : Int) (tokens_1 : Int) (pos_0 : Int) (tokens_0 : Int) (k5 : 0 ≤ x5 ∧ x5 ≤ 1999) (k12 : 1 ≤ x12 ∧ x12 ≤ 2000) (d0 : x5 + 1 ≤ x12 ∧ x12 ≤ x5 + 1) (g7 : x5 = pos_1) (f14 : tokens_1 ≤ pos_1) (fe_0_10_1 : limit_0 = limit_1) (fe_0_11_1 : pos_0 = x12) (fe_0_157_1 : tokens_0 = tokens_1) (hE_0_1_1 : ∀ j : Int, tape_0 j = tape_1 j) (kz_0_10 : 0 ≤ limit_0 ∧ limit_0 ≤ 2000) (kz_0_11 : 0 ≤ pos_0 ∧ pos_0 ≤ 2000) (kz_0_157 : 0 ≤ tokens_0 ∧ tokens_0 ≤ 2010) : tokens_0 ≤ pos_0 := by
  subst fe_0_10_1
  subst fe_0_157_1
  have e_hE_0_1_1 := funext hE_0_1_1; subst e_hE_0_1_1
  first | assumption | omega | grind
set_option maxHeartbeats 4000000 in
theorem vc_Mo_styleTokens_5_1 (x5 : Int) (x6 : Int) (x12 : Int) (tape_0 : Int → Int) (limit_0 : Int) (pos_1 : Int) (tape_1 : Int → Int) (limit_1 : Int) (tokens_1 : Int) (pos_0 : Int) (tokens_0 : Int) (k5 : 0 ≤ x5 ∧ x5 ≤ 1999) (k6 : 0 ≤ x6 ∧ x6 ≤ 4001) (k12 : 1 ≤ x12 ∧ x12 ≤ 2000) (d0 : x5 + 1 ≤ x12 ∧ x12 ≤ x5 + 1) (g7 : x5 = pos_1) (f15 : (-1) * x6 + ((-2) * pos_1 + 0) ≤ (-4001)) (fe_0_10_1 : limit_0 = limit_1) (fe_0_11_1 : pos_0 = x12) (fe_0_157_1 : tokens_0 = tokens_1) (hE_0_1_1 : ∀ j : Int, tape_0 j = tape_1 j) (kz_0_10 : 0 ≤ limit_0 ∧ limit_0 ≤ 2000) (kz_0_11 : 0 ≤ pos_0 ∧ pos_0 ≤ 2000) (kz_0_157 : 0 ≤ tokens_0 ∧ tokens_0 ≤ 2010) : (-1) * x6 + ((-2) * pos_0 + 0) ≤ (-4001) := by
  subst fe_0_10_1
  subst fe_0_157_1
  have e_hE_0_1_1 := funext hE_0_1_1; subst e_hE_0_1_1
  first | assumption | omega | grind
def o_Mo_styleTokens_5 : or_T := (21, 13, [(0, (2, 0, 0, [165])), (2, (2, 0, 0, [165])), (5, (0, 0, 1999, [])), (6, (0, 0, 4001, [])), (7, (0, -1, -1, [])), (8, (0, 32, 32, [])), (9, (0, 10, 10, [])), (10, (0, 10, 10, [])), (11, (0, 1, 1, [])), (12, (0, 1, 2000, []))], [(20, [5, 2, 9], [50, 1, 1, 1010, 1001, 4, 11, 0, 6, 4, 2, 1, 0, 0, 1, 2, 1, 10, 1, 2, 1, 2, 9, 5, 3, 1, 1, 1, 0, 0, 256]), (20, [2, 5, 9], [50, 1, 0, 10, 4, 7, 0, 3, 2, 0, 10, 1, 1, 1, 2, 1, 2, 0, -1]), (20, [5, 2, 7], [50, 1, 1, 1010, 1001, 4, 11, 0, 6, 4, 2, 1, 0, 0, 1, 2, 1, 10, 1, 2, 1, 2, 9, 5, 3, 1, 1, 1, 0, 0, 256]), (20, [2, 5, 7], [50, 1, 0, 10, 4, 7, 0, 3, 2, 0, 10, 1, 1, 1, 2, 1, 2, 0, -1]), (24, [0, 2], []), (101, [2, 12], [11]), (1, [12, 5, 11], []), (9, [5, 2], [11]), (7, [9, 10], [0]), (20, [5, 2, 9], [50, 1, 1, 1010, 1001, 4, 11, 0, 6, 4, 2, 1, 0, 0, 1, 2, 1, 10, 1, 2, 1, 2, 9, 5, 3, 1, 1, 1, 0, 0, 256]), (20, [2, 5, 9], [50, 1, 0, 10, 4, 7, 0, 3, 2, 0, 10, 1, 1, 1, 2, 1, 2, 0, -1]), (7, [7, 8], [1]), (20, [5, 2, 7], [50, 1, 1, 1010, 1001, 4, 11, 0, 6, 4, 2, 1, 0, 0, 1, 2, 1, 10, 1, 2, 1, 2, 9, 5, 3, 1, 1, 1, 0, 0, 256]), (20, [2, 5, 7], [50, 1, 0, 10, 4, 7, 0, 3, 2, 0, 10, 1, 1, 1, 2, 1, 2, 0, -1]), (20, [2], [50, 2, 0, 157, 11, 0, 3, 2, 0, 157, 2, 0, 11]), (20, [6, 2], [30, -4001, -1, 0, 0, -2, 1, 11])], [], [], [(20, [2], [50, 2, 0, 157, 11, 0, 3, 2, 0, 157, 2, 0, 11]), (20, [6, 2], [30, -4001, -1, 0, 0, -2, 1, 11])], [], [(12, 5, 1, 1)])
theorem oo_Mo_styleTokens_5 {kA : Nat → ClassId} : or_ok PRD kA GG o_Mo_styleTokens_5 := by
  refine or_mk fun A ta ws vs hD hth hl => ?_
  intro t0 r0 t2 r2 t5 k5 t6 k6 t7 k7 t8 k8 t9 k9 t10 k10 t11 k11 t12 k12 d0 f0 f1 f2 f3 f4 ta1 w1 le1 s1 f6 f7 f8 f9 f10 f11 f12 f13 f14 f15
  replace f4 := shm_5 f4
  have s1 : (∀ b j, w_el ws b j = w_el w1 b j) ∧ ∀ b j, w_fd ws b j = if b = v_ad (n_v vs 2) ∧ j = 11 then n_v vs 12 else w_fd w1 b j := s1.2
  replace f7 := shm_116 f7
  replace f14 := shm_1324 f14
  replace f15 := shm_1325 f15
  have q2 : n_v vs 2 = n_v vs 0 := f4.symm
  rw [q2] at s1
  simp only [q2] at f7 f14 f15
  have g7 : v_iv (n_v vs 5) = w_fi w1 (n_v vs 0) 11 := congrArg v_iv f7
  have fe_0_10_1 : w_fi ws (n_v vs 0) 10 = w_fi w1 (n_v vs 0) 10 := by show v_iv (w_fd _ _ _) = v_iv (w_fd _ _ _); rw [s1.2, if_neg (fun e => absurd e.2 (by decide))]
  have fe_0_11_1 : w_fi ws (n_v vs 0) 11 = v_iv (n_v vs 12) := by show v_iv (w_fd _ _ _) = _; rw [s1.2, if_pos ⟨rfl, rfl⟩]
  have fe_0_157_1 : w_fi ws (n_v vs 0) 157 = w_fi w1 (n_v vs 0) 157 := by show v_iv (w_fd _ _ _) = v_iv (w_fd _ _ _); rw [s1.2, if_neg (fun e => absurd e.2 (by decide))]
  have hE_0_1_1 : ∀ j : Int, w_ei ws (w_ar ws (n_v vs 0) 1) j = w_ei w1 (w_ar ws (n_v vs 0) 1) j := fun j => s1.1 _ _
  have kz_0_10 := fdq_43 hD hth r0
  have kz_0_11 := fdq_237 hD hth r0
  have kz_0_157 := fdq_35 hD hth r0
  have nf0 : fc_1 PRD (20, [2], [50, 2, 0, 157, 11, 0, 3, 2, 0, 157, 2, 0, 11]) ws (vs) := by
    refine ⟨nf_in hl rfl, sgq_1324 ?_⟩
    · show w_fi ws (n_v vs 2) 157 ≤ w_fi ws (n_v vs 2) 11
      rw [q2]
      exact vc_Mo_styleTokens_5_0 (v_iv (n_v vs 5)) (v_iv (n_v vs 12)) (w_ei ws (w_ar ws (n_v vs 0) 1)) (w_fi ws (n_v vs 0) 10) (w_fi w1 (n_v vs 0) 11) (w_ei w1 (w_ar ws (n_v vs 0) 1)) (w_fi w1 (n_v vs 0) 10) (w_fi w1 (n_v vs 0) 157) (w_fi ws (n_v vs 0) 11) (w_fi ws (n_v vs 0) 157) k5 k12 d0 g7 f14 fe_0_10_1 fe_0_11_1 fe_0_157_1 hE_0_1_1 kz_0_10 kz_0_11 kz_0_157
  have nf1 : fc_1 PRD (20, [6, 2], [30, -4001, -1, 0, 0, -2, 1, 11]) ws (vs) := by
    refine ⟨nf_in hl rfl, sgq_1325 ?_⟩
    · show (-1) * v_iv (n_v vs 6) + ((-2) * w_fi ws (n_v vs 2) 11 + 0) ≤ (-4001)
      rw [q2]
      exact vc_Mo_styleTokens_5_1 (v_iv (n_v vs 5)) (v_iv (n_v vs 6)) (v_iv (n_v vs 12)) (w_ei ws (w_ar ws (n_v vs 0) 1)) (w_fi ws (n_v vs 0) 10) (w_fi w1 (n_v vs 0) 11) (w_ei w1 (w_ar ws (n_v vs 0) 1)) (w_fi w1 (n_v vs 0) 10) (w_fi w1 (n_v vs 0) 157) (w_fi ws (n_v vs 0) 11) (w_fi ws (n_v vs 0) 157) k5 k6 k12 d0 g7 f15 fe_0_10_1 fe_0_11_1 fe_0_157_1 hE_0_1_1 kz_0_10 kz_0_11 kz_0_157
  refine ⟨(fun _ h => (by cases h)), [], trivial, ?_, (fun _ h => (by cases h))⟩
  rw [List.append_nil]
  exact List.forall_mem_cons.mpr ⟨⟨show (20 : Nat) < 100 from by decide, nf0⟩, List.forall_mem_cons.mpr ⟨⟨show (20 : Nat) < 100 from by decide, nf1⟩, (fun _ h => (by cases h))⟩⟩
set_option maxHeartbeats 4000000 in
theorem vc_Mo_styleTokens_6_0 (x5 : Int) (x10 : Int) (tape_0 : Int → Int) (limit_0 : Int) (pos_1 : Int) (tape_1 : Int → Int) (limit_1 : Int) (tokens_1 : Int) (pos_0 : Int) (tokens_0 : Int) (k5 : 0 ≤ x5 ∧ x5 ≤ 1999) (k10 : 1 ≤ x10 ∧ x10 ≤ 2000) (d0 : x5 + 1 ≤ x10 ∧ x10 ≤ x5 + 1) (g5 : x5 = pos_1) (f9 : tokens_1 ≤ pos_1) (fe_0_10_1 : limit_0 = limit_1) (fe_0_11_1 : pos_0 = x10) (fe_0_157_1 : tokens_0 = tokens_1) (hE_0_1_1 : ∀ j : Int, tape_0 j = tape_1 j) (kz_0_10 : 0 ≤ limit_0 ∧ limit_0 ≤ 2000) (kz_0_11 : 0 ≤ pos_0 ∧ pos_0 ≤ 2000) (kz_0_157 : 0 ≤ tokens_0 ∧ tokens_0 ≤ 2010) : tokens_0 ≤ pos_0 := by
  subst fe_0_10_1
  subst fe_0_157_1
  have e_hE_0_1_1 := funext hE_0_1_1; subst e_hE_0_1_1
  first | assumption | omega | grind
set_option maxHeartbeats 4000000 in
theorem vc_Mo_styleTokens_6_1 (x5 : Int) (x6 : Int) (x10 : Int) (tape_0 : Int → Int) (limit_0 : Int) (pos_1 : Int) (tape_1 : Int → Int) (limit_1 : Int) (tokens_1 : Int) (pos_0 : Int) (tokens_0 : Int) (k5 : 0 ≤ x5 ∧ x5 ≤ 1999) (k6 : 0 ≤ x6 ∧ x6 ≤ 4001) (k10 : 1 ≤ x10 ∧ x10 ≤ 2000) (d0 : x5 + 1 ≤ x10 ∧ x10 ≤ x5 + 1) (g5 : x5 = pos_1) (f10 : (-1) * x6 + ((-2) * pos_1 + 0) ≤ (-4001)) (fe_0_10_1 : limit_0 = limit_1) (fe_0_11_1 : pos_0 = x10) (fe_0_157_1 : tokens_0 = tokens_1) (hE_0_1_1 : ∀ j : Int, tape_0 j = tape_1 j) (kz_0_10 : 0 ≤ limit_0 ∧ limit_0 ≤ 2000) (kz_0_11 : 0 ≤ pos_0 ∧ pos_0 ≤ 2000) (kz_0_157 : 0 ≤ tokens_0 ∧ tokens_0 ≤ 2010) : (-1) * x6 + ((-2) * pos_0 + 0) ≤ (-4001) := by
  subst fe_0_10_1
  subst fe_0_157_1
  have e_hE_0_1_1 := funext hE_0_1_1; subst e_hE_0_1_1
  first | assumption | omega | grind
def o_Mo_styleTokens_6 : or_T := (21, 11, [(0, (2, 0, 0, [165])), (5, (0, 0, 1999, [])), (6, (0, 0, 4001, [])), (10, (0, 1, 2000, []))], [(24, [0, 2], []), (101, [2, 10], [11]), (9, [5, 2], [11]), (20, [2], [50, 2, 0, 157, 11, 0, 3, 2, 0, 157, 2, 0, 11]), (20, [6, 2], [30, -4001, -1, 0, 0, -2, 1, 11])], [], [], [(20, [2], [50, 2, 0, 157, 11, 0, 3, 2, 0, 157, 2, 0, 11]), (20, [6, 2], [30, -4001, -1, 0, 0, -2, 1, 11])], [], [(10, 5, 1, 1)])
theorem oo_Mo_styleTokens_6 {kA : Nat → ClassId} : or_ok PRD kA GG o_Mo_styleTokens_6 := by
  refine or_mk fun A ta ws vs hD hth hl => ?_
  intro t0 r0 t5 k5 t6 k6 t10 k10 d0 f2 ta1 w1 le1 s1 f5 f9 f10
  replace f2 := shm_5 f2
  have s1 : (∀ b j, w_el ws b j = w_el w1 b j) ∧ ∀ b j, w_fd ws b j = if b = v_ad (n_v vs 2) ∧ j = 11 then n_v vs 10 else w_fd w1 b j := s1.2
  replace f5 := shm_116 f5
  replace f9 := shm_1324 f9
  replace f10 := shm_1325 f10
  have q2 : n_v vs 2 = n_v vs 0 := f2.symm
  rw [q2] at s1
  simp only [q2] at f5 f9 f10
  have g5 : v_iv (n_v vs 5) = w_fi w1 (n_v vs 0) 11 := congrArg v_iv f5
  have fe_0_10_1 : w_fi ws (n_v vs 0) 10 = w_fi w1 (n_v vs 0) 10 := by show v_iv (w_fd _ _ _) = v_iv (w_fd _ _ _); rw [s1.2, if_neg (fun e => absurd e.2 (by decide))]
  have fe_0_11_1 : w_fi ws (n_v vs 0) 11 = v_iv (n_v vs 10) := by show v_iv (w_fd _ _ _) = _; rw [s1.2, if_pos ⟨rfl, rfl⟩]
  have fe_0_157_1 : w_fi ws (n_v vs 0) 157 = w_fi w1 (n_v vs 0) 157 := by show v_iv (w_fd _ _ _) = v_iv (w_fd _ _ _); rw [s1.2, if_neg (fun e => absurd e.2 (by decide))]
  have hE_0_1_1 : ∀ j : Int, w_ei ws (w_ar ws (n_v vs 0) 1) j = w_ei w1 (w_ar ws (n_v vs 0) 1) j := fun j => s1.1 _ _
  have kz_0_10 := fdq_43 hD hth r0
  have kz_0_11 := fdq_237 hD hth r0
  have kz_0_157 := fdq_35 hD hth r0
  have nf0 : fc_1 PRD (20, [2], [50, 2, 0, 157, 11, 0, 3, 2, 0, 157, 2, 0, 11]) ws (vs) := by
    refine ⟨nf_in hl rfl, sgq_1324 ?_⟩
    · show w_fi ws (n_v vs 2) 157 ≤ w_fi ws (n_v vs 2) 11
      rw [q2]
      exact vc_Mo_styleTokens_6_0 (v_iv (n_v vs 5)) (v_iv (n_v vs 10)) (w_ei ws (w_ar ws (n_v vs 0) 1)) (w_fi ws (n_v vs 0) 10) (w_fi w1 (n_v vs 0) 11) (w_ei w1 (w_ar ws (n_v vs 0) 1)) (w_fi w1 (n_v vs 0) 10) (w_fi w1 (n_v vs 0) 157) (w_fi ws (n_v vs 0) 11) (w_fi ws (n_v vs 0) 157) k5 k10 d0 g5 f9 fe_0_10_1 fe_0_11_1 fe_0_157_1 hE_0_1_1 kz_0_10 kz_0_11 kz_0_157
  have nf1 : fc_1 PRD (20, [6, 2], [30, -4001, -1, 0, 0, -2, 1, 11]) ws (vs) := by
    refine ⟨nf_in hl rfl, sgq_1325 ?_⟩
    · show (-1) * v_iv (n_v vs 6) + ((-2) * w_fi ws (n_v vs 2) 11 + 0) ≤ (-4001)
      rw [q2]
      exact vc_Mo_styleTokens_6_1 (v_iv (n_v vs 5)) (v_iv (n_v vs 6)) (v_iv (n_v vs 10)) (w_ei ws (w_ar ws (n_v vs 0) 1)) (w_fi ws (n_v vs 0) 10) (w_fi w1 (n_v vs 0) 11) (w_ei w1 (w_ar ws (n_v vs 0) 1)) (w_fi w1 (n_v vs 0) 10) (w_fi w1 (n_v vs 0) 157) (w_fi ws (n_v vs 0) 11) (w_fi ws (n_v vs 0) 157) k5 k6 k10 d0 g5 f10 fe_0_10_1 fe_0_11_1 fe_0_157_1 hE_0_1_1 kz_0_10 kz_0_11 kz_0_157
  refine ⟨(fun _ h => (by cases h)), [], trivial, ?_, (fun _ h => (by cases h))⟩
  rw [List.append_nil]
  exact List.forall_mem_cons.mpr ⟨⟨show (20 : Nat) < 100 from by decide, nf0⟩, List.forall_mem_cons.mpr ⟨⟨show (20 : Nat) < 100 from by decide, nf1⟩, (fun _ h => (by cases h))⟩⟩
set_option maxHeartbeats 4000000 in
theorem vc_Mo_styleTokens_7_0 (pos_0 : Int) (tokens_0 : Int) (f7 : tokens_0 ≤ pos_0) (kz_0_11 : 0 ≤ pos_0 ∧ pos_0 ≤ 2000) (kz_0_157 : 0 ≤ tokens_0 ∧ tokens_0 ≤ 2010) : tokens_0 ≤ pos_0 := by
  first | assumption | omega | grind
set_option maxHeartbeats 4000000 in
theorem vc_Mo_styleTokens_7_1 (x6 : Int) (pos_0 : Int) (gx : Int) (k6 : 0 ≤ x6 ∧ x6 ≤ 4001) (f8 : (-1) * x6 + ((-2) * pos_0 + 0) ≤ (-4001)) (kz_0_11 : 0 ≤ pos_0 ∧ pos_0 ≤ 2000) (ex2 : gx = 0 + (1 * x6 + 0)) : (-1) * gx + ((-2) * pos_0 + 0) ≤ (-4001) := by
  first | assumption | omega | grind
def o_Mo_styleTokens_7 : or_T := (60, 11, [(0, (2, 0, 0, [165])), (2, (2, 0, 0, [165])), (5, (0, 0, 1999, [])), (6, (0, 0, 4001, [])), (7, (0, 0, 255, [])), (8, (0, 32, 32, [])), (9, (0, -1, -1, [])), (10, (0, 10, 10, []))], [(7, [9, 10], [1]), (20, [5, 2, 9], [50, 1, 1, 1010, 1001, 4, 11, 0, 6, 4, 2, 1, 0, 0, 1, 2, 1, 10, 1, 2, 1, 2, 9, 5, 3, 1, 1, 1, 0, 0, 256]), (20, [2, 5, 9], [50, 1, 0, 10, 4, 7, 0, 3, 2, 0, 10, 1, 1, 1, 2, 1, 2, 0, -1]), (9, [5, 2], [11]), (7, [7, 8], [1]), (20, [5, 2, 7], [50, 1, 1, 1010, 1001, 4, 11, 0, 6, 4, 2, 1, 0, 0, 1, 2, 1, 10, 1, 2, 1, 2, 9, 5, 3, 1, 1, 1, 0, 0, 256]), (20, [2, 5, 7], [50, 1, 0, 10, 4, 7, 0, 3, 2, 0, 10, 1, 1, 1, 2, 1, 2, 0, -1]), (20, [2], [50, 2, 0, 157, 11, 0, 3, 2, 0, 157, 2, 0, 11]), (20, [6, 2], [30, -4001, -1, 0, 0, -2, 1, 11]), (24, [0, 2], [])], [], [(0, 0, 4001, [])], [(20, [2], [50, 2, 0, 157, 11, 0, 3, 2, 0, 157, 2, 0, 11]), (20, [11, 2], [30, -4001, -1, 0, 0, -2, 1, 11]), (24, [0, 2], [])], [(11, 6, 0, 0)], [])
theorem oo_Mo_styleTokens_7 {kA : Nat → ClassId} : or_ok PRD kA GG o_Mo_styleTokens_7 := by
  refine or_mk fun A ta ws vs hD hth hl => ?_
  intro t0 r0 t2 r2 t5 k5 t6 k6 t7 k7 t8 k8 t9 k9 t10 k10 f0 f1 f2 f3 f4 f5 f6 f7 f8 f9
  replace f0 := shm_40 f0
  replace f1 := shm_541 f1
  replace f2 := shm_542 f2
  replace f3 := shm_116 f3
  replace f4 := shm_40 f4
  replace f5 := shm_541 f5
  replace f6 := shm_542 f6
  replace f7 := shm_1324 f7
  replace f8 := shm_1325 f8
  replace f9 := shm_5 f9
  have q2 : n_v vs 2 = n_v vs 0 := f9.symm
  simp only [q2] at f1 f2 f3 f5 f6 f7 f8
  have cr_0_1 := fdq_39 hD hth r0
  have g3 : v_iv (n_v vs 5) = w_fi ws (n_v vs 0) 11 := congrArg v_iv f3
  have hK_0_1 := elq_7 hD hth cr_0_1
  have kz_0_10 := fdq_43 hD hth r0
  have kz_0_11 := fdq_237 hD hth r0
  have kz_0_157 := fdq_35 hD hth r0
  obtain ⟨x, ex, hx⟩ := iv_ex (ta := ta) (lo := 0) (hi := 4001) (z := 0 + (1 * v_iv (n_v vs 6) + 0)) (by omega) (by omega) (by omega) (by omega)
  have ex2 : v_iv (Value.int x) = 0 + (1 * v_iv (n_v vs 6) + 0) := ex
  have ex3 : 0 ≤ v_iv (Value.int x) ∧ v_iv (Value.int x) ≤ 4001 := tv_rng hx
  have e_0 : n_v (vs ++ [Value.int x]) 0 = n_v vs 0 := n_v_old (by rw [hl]; decide)
  have e_2 : n_v (vs ++ [Value.int x]) 2 = n_v vs 2 := n_v_old (by rw [hl]; decide)
  have e_11 : n_v (vs ++ [Value.int x]) 11 = Value.int x := n_v_new hl
  have nf0 : fc_1 PRD (20, [2], [50, 2, 0, 157, 11, 0, 3, 2, 0, 157, 2, 0, 11]) ws (vs ++ [Value.int x]) := by
    refine ⟨nf_inA hl rfl, sgq_1324 ?_⟩
    · show w_fi ws (n_v (vs ++ [Value.int x]) 2) 157 ≤ w_fi ws (n_v (vs ++ [Value.int x]) 2) 11
      simp only [e_2, q2]
      exact vc_Mo_styleTokens_7_0 (w_fi ws (n_v vs 0) 11) (w_fi ws (n_v vs 0) 157) f7 kz_0_11 kz_0_157
  have nf1 : fc_1 PRD (20, [11, 2], [30, -4001, -1, 0, 0, -2, 1, 11]) ws (vs ++ [Value.int x]) := by
    refine ⟨nf_inA hl rfl, sgq_1325 ?_⟩
    · show (-1) * v_iv (n_v (vs ++ [Value.int x]) 11) + ((-2) * w_fi ws (n_v (vs ++ [Value.int x]) 2) 11 + 0) ≤ (-4001)
      simp only [e_2, e_11, q2]
      exact vc_Mo_styleTokens_7_1 (v_iv (n_v vs 6)) (w_fi ws (n_v vs 0) 11) (v_iv (Value.int x)) k6 f8 kz_0_11 ex2
  have nf2 : fc_1 PRD (24, [0, 2], []) ws (vs ++ [Value.int x]) := by
    refine ⟨nf_inA hl rfl, sgq_5 ?_⟩
    · show n_v (vs ++ [Value.int x]) 0 = n_v (vs ++ [Value.int x]) 2
      first | rfl | simp only [e_0, e_2, q2]
  obtain ⟨x0, e0, _, _⟩ := tv_int t6 rfl
  have e1 : v_iv (n_v vs 6) = x0.toInt := by rw [e0]; rfl
  have ho : sy_ofs (vs ++ [Value.int x]) (11, 6, 0, 0) := by
    refine ⟨x, x0, by rw [List.getElem?_append_right (by rw [hl]; decide), hl]; rfl, ?_, ?_, ?_⟩
    · rw [List.getElem?_append_left (by rw [hl]; decide)]; exact n_v_some (by rw [hl]; decide) e0
    · show x0.toInt + 0 ≤ x.toInt; omega
    · show x.toInt ≤ x0.toInt + 0; omega
  exact ⟨(fun _ h => (by cases h)), [Value.int x], ag_one hx, List.forall_mem_cons.mpr ⟨⟨show (20 : Nat) < 100 from by decide, nf0⟩, List.forall_mem_cons.mpr ⟨⟨show (20 : Nat) < 100 from by decide, nf1⟩, List.forall_mem_cons.mpr ⟨⟨show (24 : Nat) < 100 from by decide, nf2⟩, (fun _ h => (by cases h))⟩⟩⟩, List.forall_mem_cons.mpr ⟨ho, (fun _ h => (by cases h))⟩⟩
set_option maxHeartbeats 4000000 in
theorem vc_Mo_styleTokens_8_0 (pos_0 : Int) (tokens_0 : Int) (f7 : tokens_0 ≤ pos_0) (kz_0_11 : 0 ≤ pos_0 ∧ pos_0 ≤ 2000) (kz_0_157 : 0 ≤ tokens_0 ∧ tokens_0 ≤ 2010) : tokens_0 ≤ pos_0 := by
  first | assumption | omega | grind
set_option maxHeartbeats 4000000 in
theorem vc_Mo_styleTokens_8_1 (x6 : Int) (pos_0 : Int) (gx : Int) (k6 : 0 ≤ x6 ∧ x6 ≤ 4001) (f8 : (-1) * x6 + ((-2) * pos_0 + 0) ≤ (-4001)) (kz_0_11 : 0 ≤ pos_0 ∧ pos_0 ≤ 2000) (ex2 : gx = 0 + (1 * x6 + 0)) : (-1) * gx + ((-2) * pos_0 + 0) ≤ (-4001) := by
  first | assumption | omega | grind
def o_Mo_styleTokens_8 : or_T := (60, 11, [(0, (2, 0, 0, [165])), (2, (2, 0, 0, [165])), (5, (0, 0, 1999, [])), (6, (0, 0, 4001, [])), (7, (0, 0, 255, [])), (8, (0, 32, 32, [])), (9, (0, 0, 255, [])), (10, (0, 10, 10, []))], [(7, [9, 10], [1]), (20, [5, 2, 9], [50, 1, 1, 1010, 1001, 4, 11, 0, 6, 4, 2, 1, 0, 0, 1, 2, 1, 10, 1, 2, 1, 2, 9, 5, 3, 1, 1, 1, 0, 0, 256]), (20, [2, 5, 9], [50, 1, 0, 10, 4, 7, 0, 3, 2, 0, 10, 1, 1, 1, 2, 1, 2, 0, -1]), (9, [5, 2], [11]), (7, [7, 8], [1]), (20, [5, 2, 7], [50, 1, 1, 1010, 1001, 4, 11, 0, 6, 4, 2, 1, 0, 0, 1, 2, 1, 10, 1, 2, 1, 2, 9, 5, 3, 1, 1, 1, 0, 0, 256]), (20, [2, 5, 7], [50, 1, 0, 10, 4, 7, 0, 3, 2, 0, 10, 1, 1, 1, 2, 1, 2, 0, -1]), (20, [2], [50, 2, 0, 157, 11, 0, 3, 2, 0, 157, 2, 0, 11]), (20, [6, 2], [30, -4001, -1, 0, 0, -2, 1, 11]), (24, [0, 2], [])], [], [(0, 0, 4001, [])], [(20, [2], [50, 2, 0, 157, 11, 0, 3, 2, 0, 157, 2, 0, 11]), (20, [11, 2], [30, -4001, -1, 0, 0, -2, 1, 11]), (24, [0, 2], [])], [(11, 6, 0, 0)], [])
theorem oo_Mo_styleTokens_8 {kA : Nat → ClassId} : or_ok PRD kA GG o_Mo_styleTokens_8 := by
  refine or_mk fun A ta ws vs hD hth hl => ?_
  intro t0 r0 t2 r2 t5 k5 t6 k6 t7 k7 t8 k8 t9 k9 t10 k10 f0 f1 f2 f3 f4 f5 f6 f7 f8 f9
  replace f0 := shm_40 f0
  replace f1 := shm_541 f1
  replace f2 := shm_542 f2
  replace f3 := shm_116 f3
  replace f4 := shm_40 f4
  replace f5 := shm_541 f5
  replace f6 := shm_542 f6
  replace f7 := shm_1324 f7
  replace f8 := shm_1325 f8
  replace f9 := shm_5 f9
  have q2 : n_v vs 2 = n_v vs 0 := f9.symm
  simp only [q2] at f1 f2 f3 f5 f6 f7 f8
  have cr_0_1 := fdq_39 hD hth r0
  have g3 : v_iv (n_v vs 5) = w_fi ws (n_v vs 0) 11 := congrArg v_iv f3
  have hK_0_1 := elq_7 hD hth cr_0_1
  have kz_0_10 := fdq_43 hD hth r0
  have kz_0_11 := fdq_237 hD hth r0
  have kz_0_157 := fdq_35 hD hth r0
  obtain ⟨x, ex, hx⟩ := iv_ex (ta := ta) (lo := 0) (hi := 4001) (z := 0 + (1 * v_iv (n_v vs 6) + 0)) (by omega) (by omega) (by omega) (by omega)
  have ex2 : v_iv (Value.int x) = 0 + (1 * v_iv (n_v vs 6) + 0) := ex
  have ex3 : 0 ≤ v_iv (Value.int x) ∧ v_iv (Value.int x) ≤ 4001 := tv_rng hx
  have e_0 : n_v (vs ++ [Value.int x]) 0 = n_v vs 0 := n_v_old (by rw [hl]; decide)
  have e_2 : n_v (vs ++ [Value.int x]) 2 = n_v vs 2 := n_v_old (by rw [hl]; decide)
  have e_11 : n_v (vs ++ [Value.int x]) 11 = Value.int x := n_v_new hl
  have nf0 : fc_1 PRD (20, [2], [50, 2, 0, 157, 11, 0, 3, 2, 0, 157, 2, 0, 11]) ws (vs ++ [Value.int x]) := by
    refine ⟨nf_inA hl rfl, sgq_1324 ?_⟩
    · show w_fi ws (n_v (vs ++ [Value.int x]) 2) 157 ≤ w_fi ws (n_v (vs ++ [Value.int x]) 2) 11
      simp only [e_2, q2]
      exact vc_Mo_styleTokens_8_0 (w_fi ws (n_v vs 0) 11) (w_fi ws (n_v vs 0) 157) f7 kz_0_11 kz_0_157
  have nf1 : fc_1 PRD (20, [11, 2], [30, -4001, -1, 0, 0, -2, 1, 11]) ws (vs ++ [Value.int x]) := by
    refine ⟨nf_inA hl rfl, sgq_1325 ?_⟩
    · show (-1) * v_iv (n_v (vs ++ [Value.int x]) 11) + ((-2) * w_fi ws (n_v (vs ++ [Value.int x]) 2) 11 + 0) ≤ (-4001)
      simp only [e_2, e_11, q2]
      exact vc_Mo_styleTokens_8_1 (v_iv (n_v vs 6)) (w_fi ws (n_v vs 0) 11) (v_iv (Value.int x)) k6 f8 kz_0_11 ex2
  have nf2 : fc_1 PRD (24, [0, 2], []) ws (vs ++ [Value.int x]) := by
    refine ⟨nf_inA hl rfl, sgq_5 ?_⟩
    · show n_v (vs ++ [Value.int x]) 0 = n_v (vs ++ [Value.int x]) 2
      first | rfl | simp only [e_0, e_2, q2]
  obtain ⟨x0, e0, _, _⟩ := tv_int t6 rfl
  have e1 : v_iv (n_v vs 6) = x0.toInt := by rw [e0]; rfl
  have ho : sy_ofs (vs ++ [Value.int x]) (11, 6, 0, 0) := by
    refine ⟨x, x0, by rw [List.getElem?_append_right (by rw [hl]; decide), hl]; rfl, ?_, ?_, ?_⟩
    · rw [List.getElem?_append_left (by rw [hl]; decide)]; exact n_v_some (by rw [hl]; decide) e0
    · show x0.toInt + 0 ≤ x.toInt; omega
    · show x.toInt ≤ x0.toInt + 0; omega
  exact ⟨(fun _ h => (by cases h)), [Value.int x], ag_one hx, List.forall_mem_cons.mpr ⟨⟨show (20 : Nat) < 100 from by decide, nf0⟩, List.forall_mem_cons.mpr ⟨⟨show (20 : Nat) < 100 from by decide, nf1⟩, List.forall_mem_cons.mpr ⟨⟨show (24 : Nat) < 100 from by decide, nf2⟩, (fun _ h => (by cases h))⟩⟩⟩, List.forall_mem_cons.mpr ⟨ho, (fun _ h => (by cases h))⟩⟩
set_option maxHeartbeats 4000000 in
theorem vc_Mo_styleTokens_9_0 (x5 : Int) (x12 : Int) (tape_0 : Int → Int) (limit_0 : Int) (pos_1 : Int) (tape_1 : Int → Int) (limit_1 : Int) (tokens_1 : Int) (pos_0 : Int) (tokens_0 : Int) (k5 : 0 ≤ x5 ∧ x5 ≤ 1999) (k12 : 1 ≤ x12 ∧ x12 ≤ 2000) (d0 : x5 + 1 ≤ x12 ∧ x12 ≤ x5 + 1) (g7 : x5 = pos_1) (f14 : tokens_1 ≤ pos_1) (fe_0_10_1 : limit_0 = limit_1) (fe_0_11_1 : pos_0 = x12) (fe_0_157_1 : tokens_0 = tokens_1) (hE_0_1_1 : ∀ j : Int, tape_0 j = tape_1 j) (kz_0_10 : 0 ≤ limit_0 ∧ limit_0 ≤ 2000) (kz_0_11 : 0 ≤ pos_0 ∧ pos_0 ≤ 2000) (kz_0_157 : 0 ≤ tokens_0 ∧ tokens_0 ≤ 2010) : tokens_0 ≤ pos_0 := by
  subst fe_0_10_1
  subst fe_0_157_1
  have e_hE_0_1_1 := funext hE_0_1_1; subst e_hE_0_1_1
  first | assumption | omega | grind
set_option maxHeartbeats 4000000 in
theorem vc_Mo_styleTokens_9_1 (x5 : Int) (x6 : Int) (x12 : Int) (tape_0 : Int → Int) (limit_0 : Int) (pos_1 : Int) (tape_1 : Int → Int) (limit_1 : Int) (tokens_1 : Int) (pos_0 : Int) (tokens_0 : Int) (k5 : 0 ≤ x5 ∧ x5 ≤ 1999) (k6 : 0 ≤ x6 ∧ x6 ≤ 4001) (k12 : 1 ≤ x12 ∧ x12 ≤ 2000) (d0 : x5 + 1 ≤ x12 ∧ x12 ≤ x5 + 1) (g7 : x5 = pos_1) (f15 : (-1) * x6 + ((-2) * pos_1 + 0) ≤ (-4001)) (fe_0_10_1 : limit_0 = limit_1) (fe_0_11_1 : pos_0 = x12) (fe_0_157_1 : tokens_0 = tokens_1) (hE_0_1_1 : ∀ j : Int, tape_0 j = tape_1 j) (kz_0_10 : 0 ≤ limit_0 ∧ limit_0 ≤ 2000) (kz_0_11 : 0 ≤ pos_0 ∧ pos_0 ≤ 2000) (kz_0_157 : 0 ≤ tokens_0 ∧ tokens_0 ≤ 2010) : (-1) * x6 + ((-2) * pos_0 + 0) ≤ (-4001) := by
  subst fe_0_10_1
  subst fe_0_157_1
  have e_hE_0_1_1 := funext hE_0_1_1; subst e_hE_0_1_1
  first | assumption | omega | grind
def o_Mo_styleTokens_9 : or_T := (21, 13, [(0, (2, 0, 0, [165])), (2, (2, 0, 0, [165])), (5, (0, 0, 1999, [])), (6, (0, 0, 4001, [])), (7, (0, 0, 255, [])), (8, (0, 32, 32, [])), (9, (0, 10, 10, [])), (10, (0, 10, 10, [])), (11, (0, 1, 1, [])), (12, (0, 1, 2000, []))], [(20, [5, 2, 9], [50, 1, 1, 1010, 1001, 4, 11, 0, 6, 4, 2, 1, 0, 0, 1, 2, 1, 10, 1, 2, 1, 2, 9, 5, 3, 1, 1, 1, 0, 0, 256]), (20, [2, 5, 9], [50, 1, 0, 10, 4, 7, 0, 3, 2, 0, 10, 1, 1, 1, 2, 1, 2, 0, -1]), (20, [5, 2, 7], [50, 1, 1, 1010, 1001, 4, 11, 0, 6, 4, 2, 1, 0, 0, 1, 2, 1, 10, 1, 2, 1, 2, 9, 5, 3, 1, 1, 1, 0, 0, 256]), (20, [2, 5, 7], [50, 1, 0, 10, 4, 7, 0, 3, 2, 0, 10, 1, 1, 1, 2, 1, 2, 0, -1]), (24, [0, 2], []), (101, [2, 12], [11]), (1, [12, 5, 11], []), (9, [5, 2], [11]), (7, [9, 10], [0]), (20, [5, 2, 9], [50, 1, 1, 1010, 1001, 4, 11, 0, 6, 4, 2, 1, 0, 0, 1, 2, 1, 10, 1, 2, 1, 2, 9, 5, 3, 1, 1, 1, 0, 0, 256]), (20, [2, 5, 9], [50, 1, 0, 10, 4, 7, 0, 3, 2, 0, 10, 1, 1, 1, 2, 1, 2, 0, -1]), (7, [7, 8], [1]), (20, [5, 2, 7], [50, 1, 1, 1010, 1001, 4, 11, 0, 6, 4, 2, 1, 0, 0, 1, 2, 1, 10, 1, 2, 1, 2, 9, 5, 3, 1, 1, 1, 0, 0, 256]), (20, [2, 5, 7], [50, 1, 0, 10, 4, 7, 0, 3, 2, 0, 10, 1, 1, 1, 2, 1, 2, 0, -1]), (20, [2], [50, 2, 0, 157, 11, 0, 3, 2, 0, 157, 2, 0, 11]), (20, [6, 2], [30, -4001, -1, 0, 0, -2, 1, 11])], [], [], [(20, [2], [50, 2, 0, 157, 11, 0, 3, 2, 0, 157, 2, 0, 11]), (20, [6, 2], [30, -4001, -1, 0, 0, -2, 1, 11])], [], [(12, 5, 1, 1)])
theorem oo_Mo_styleTokens_9 {kA : Nat → ClassId} : or_ok PRD kA GG o_Mo_styleTokens_9 := by
  refine or_mk fun A ta ws vs hD hth hl => ?_
  intro t0 r0 t2 r2 t5 k5 t6 k6 t7 k7 t8 k8 t9 k9 t10 k10 t11 k11 t12 k12 d0 f0 f1 f2 f3 f4 ta1 w1 le1 s1 f6 f7 f8 f9 f10 f11 f12 f13 f14 f15
  replace f4 := shm_5 f4
  have s1 : (∀ b j, w_el ws b j = w_el w1 b j) ∧ ∀ b j, w_fd ws b j = if b = v_ad (n_v vs 2) ∧ j = 11 then n_v vs 12 else w_fd w1 b j := s1.2
  replace f7 := shm_116 f7
  replace f14 := shm_1324 f14
  replace f15 := shm_1325 f15
  have q2 : n_v vs 2 = n_v vs 0 := f4.symm
  rw [q2] at s1
  simp only [q2] at f7 f14 f15
  have g7 : v_iv (n_v vs 5) = w_fi w1 (n_v vs 0) 11 := congrArg v_iv f7
  have fe_0_10_1 : w_fi ws (n_v vs 0) 10 = w_fi w1 (n_v vs 0) 10 := by show v_iv (w_fd _ _ _) = v_iv (w_fd _ _ _); rw [s1.2, if_neg (fun e => absurd e.2 (by decide))]
  have fe_0_11_1 : w_fi ws (n_v vs 0) 11 = v_iv (n_v vs 12) := by show v_iv (w_fd _ _ _) = _; rw [s1.2, if_pos ⟨rfl, rfl⟩]
  have fe_0_157_1 : w_fi ws (n_v vs 0) 157 = w_fi w1 (n_v vs 0) 157 := by show v_iv (w_fd _ _ _) = v_iv (w_fd _ _ _); rw [s1.2, if_neg (fun e => absurd e.2 (by decide))]
  have hE_0_1_1 : ∀ j : Int, w_ei ws (w_ar ws (n_v vs 0) 1) j = w_ei w1 (w_ar ws (n_v vs 0) 1) j := fun j => s1.1 _ _
  have kz_0_10 := fdq_43 hD hth r0
  have kz_0_11 := fdq_237 hD hth r0
  have kz_0_157 := fdq_35 hD hth r0
  have nf0 : fc_1 PRD (20, [2], [50, 2, 0, 157, 11, 0, 3, 2, 0, 157, 2, 0, 11]) ws (vs) := by
    refine ⟨nf_in hl rfl, sgq_1324 ?_⟩
    · show w_fi ws (n_v vs 2) 157 ≤ w_fi ws (n_v vs 2) 11
      rw [q2]
      exact vc_Mo_styleTokens_9_0 (v_iv (n_v vs 5)) (v_iv (n_v vs 12)) (w_ei ws (w_ar ws (n_v vs 0) 1)) (w_fi ws (n_v vs 0) 10) (w_fi w1 (n_v vs 0) 11) (w_ei w1 (w_ar ws (n_v vs 0) 1)) (w_fi w1 (n_v vs 0) 10) (w_fi w1 (n_v vs 0) 157) (w_fi ws (n_v vs 0) 11) (w_fi ws (n_v vs 0) 157) k5 k12 d0 g7 f14 fe_0_10_1 fe_0_11_1 fe_0_157_1 hE_0_1_1 kz_0_10 kz_0_11 kz_0_157
  have nf1 : fc_1 PRD (20, [6, 2], [30, -4001, -1, 0, 0, -2, 1, 11]) ws (vs) := by
    refine ⟨nf_in hl rfl, sgq_1325 ?_⟩
    · show (-1) * v_iv (n_v vs 6) + ((-2) * w_fi ws (n_v vs 2) 11 + 0) ≤ (-4001)
      rw [q2]
      exact vc_Mo_styleTokens_9_1 (v_iv (n_v vs 5)) (v_iv (n_v vs 6)) (v_iv (n_v vs 12)) (w_ei ws (w_ar ws (n_v vs 0) 1)) (w_fi ws (n_v vs 0) 10) (w_fi w1 (n_v vs 0) 11) (w_ei w1 (w_ar ws (n_v vs 0) 1)) (w_fi w1 (n_v vs 0) 10) (w_fi w1 (n_v vs 0) 157) (w_fi ws (n_v vs 0) 11) (w_fi ws (n_v vs 0) 157) k5 k6 k12 d0 g7 f15 fe_0_10_1 fe_0_11_1 fe_0_157_1 hE_0_1_1 kz_0_10 kz_0_11 kz_0_157
  refine ⟨(fun _ h => (by cases h)), [], trivial, ?_, (fun _ h => (by cases h))⟩
  rw [List.append_nil]
  exact List.forall_mem_cons.mpr ⟨⟨show (20 : Nat) < 100 from by decide, nf0⟩, List.forall_mem_cons.mpr ⟨⟨show (20 : Nat) < 100 from by decide, nf1⟩, (fun _ h => (by cases h))⟩⟩
set_option maxHeartbeats 4000000 in
theorem vc_Mo_styleTokens_10_0 (x5 : Int) (x10 : Int) (pos_0 : Int) (tokens_0 : Int) (k5 : 0 ≤ x5 ∧ x5 ≤ 2000) (k10 : 0 ≤ x10 ∧ x10 ≤ 0) (g2 : x5 = pos_0) (f5 : tokens_0 ≤ pos_0) (kz_0_11 : 0 ≤ pos_0 ∧ pos_0 ≤ 2000) (kz_0_157 : 0 ≤ tokens_0 ∧ tokens_0 ≤ 2010) : (tokens_0 ≤ x5) ∧ ((x5 ≤ pos_0) ∧ ((x10 = 0) ∨ ((x10 = 4) ∨ ((x5 + 1) ≤ pos_0)))) := by
  first | assumption | omega | grind
set_option maxHeartbeats 4000000 in
theorem vc_Mo_styleTokens_10_1 (x5 : Int) (x6 : Int) (pos_0 : Int) (gx : Int) (k5 : 0 ≤ x5 ∧ x5 ≤ 2000) (k6 : 0 ≤ x6 ∧ x6 ≤ 4001) (g2 : x5 = pos_0) (f6 : (-1) * x6 + ((-2) * pos_0 + 0) ≤ (-4001)) (kz_0_11 : 0 ≤ pos_0 ∧ pos_0 ≤ 2000) (ex2 : gx = 0 + (1 * x6 + 0)) : (-1) * gx + ((-2) * x5 + 0) ≤ (-4001) := by
  first | assumption | omega | grind
def o_Mo_styleTokens_10 : or_T := (363, 11, [(0, (2, 0, 0, [165])), (2, (2, 0, 0, [165])), (5, (0, 0, 2000, [])), (6, (0, 0, 4001, [])), (7, (0, -1, -1, [])), (9, (1, -1, -1, [])), (10, (0, 0, 0, []))], [(8, [7], [2]), (22, [9, 7], []), (9, [5, 2], [11]), (20, [5, 2, 7], [50, 1, 1, 1010, 1001, 4, 11, 0, 6, 4, 2, 1, 0, 0, 1, 2, 1, 10, 1, 2, 1, 2, 9, 5, 3, 1, 1, 1, 0, 0, 256]), (20, [2, 5, 7], [50, 1, 0, 10, 4, 7, 0, 3, 2, 0, 10, 1, 1, 1, 2, 1, 2, 0, -1]), (20, [2], [50, 2, 0, 157, 11, 0, 3, 2, 0, 157, 2, 0, 11]), (20, [6, 2], [30, -4001, -1, 0, 0, -2, 1, 11]), (24, [0, 2], [])], [], [(0, 0, 4001, [])], [(20, [2, 5, 10], [50, 2, 0, 157, 11, 2, 7, 0, 3, 2, 0, 157, 1, 1, 2, 7, 0, 2, 1, 1, 2, 0, 11, 3, 6, 1, 2, 1, 2, 0, 0, 3, 6, 1, 2, 1, 2, 0, 4, 0, 6, 4, 2, 1, 1, 0, 1, 2, 0, 11]), (20, [11, 5], [30, -4001, -1, 0, 0, -2, 0, 0]), (24, [0, 2], [])], [(11, 6, 0, 0)], [])
theorem oo_Mo_styleTokens_10 {kA : Nat → ClassId} : or_ok PRD kA GG o_Mo_styleTokens_10 := by
  refine or_mk fun A ta ws vs hD hth hl => ?_
  intro t0 r0 t2 r2 t5 k5 t6 k6 t7 k7 t9 k9 t10 k10 f0 f1 f2 f3 f4 f5 f6 f7
  replace f0 := shm_39 f0
  replace f1 := shm_47 f1
  replace f2 := shm_116 f2
  replace f3 := shm_541 f3
  replace f4 := shm_542 f4
  replace f5 := shm_1324 f5
  replace f6 := shm_1325 f6
  replace f7 := shm_5 f7
  have q2 : n_v vs 2 = n_v vs 0 := f7.symm
  simp only [q2] at f2 f3 f4 f5 f6
  have cr_0_1 := fdq_39 hD hth r0
  have g2 : v_iv (n_v vs 5) = w_fi ws (n_v vs 0) 11 := congrArg v_iv f2
  have hK_0_1 := elq_7 hD hth cr_0_1
  have kz_0_10 := fdq_43 hD hth r0
  have kz_0_11 := fdq_237 hD hth r0
  have kz_0_157 := fdq_35 hD hth r0
  obtain ⟨x, ex, hx⟩ := iv_ex (ta := ta) (lo := 0) (hi := 4001) (z := 0 + (1 * v_iv (n_v vs 6) + 0)) (by omega) (by omega) (by omega) (by omega)
  have ex2 : v_iv (Value.int x) = 0 + (1 * v_iv (n_v vs 6) + 0) := ex
  have ex3 : 0 ≤ v_iv (Value.int x) ∧ v_iv (Value.int x) ≤ 4001 := tv_rng hx
  have e_0 : n_v (vs ++ [Value.int x]) 0 = n_v vs 0 := n_v_old (by rw [hl]; decide)
  have e_2 : n_v (vs ++ [Value.int x]) 2 = n_v vs 2 := n_v_old (by rw [hl]; decide)
  have e_5 : n_v (vs ++ [Value.int x]) 5 = n_v vs 5 := n_v_old (by rw [hl]; decide)
  have e_10 : n_v (vs ++ [Value.int x]) 10 = n_v vs 10 := n_v_old (by rw [hl]; decide)
  have e_11 : n_v (vs ++ [Value.int x]) 11 = Value.int x := n_v_new hl
  have nf0 : fc_1 PRD (20, [2, 5, 10], [50, 2, 0, 157, 11, 2, 7, 0, 3, 2, 0, 157, 1, 1, 2, 7, 0, 2, 1, 1, 2, 0, 11, 3, 6, 1, 2, 1, 2, 0, 0, 3, 6, 1, 2, 1, 2, 0, 4, 0, 6, 4, 2, 1, 1, 0, 1, 2, 0, 11]) ws (vs ++ [Value.int x]) := by
    refine ⟨nf_inA hl rfl, sgq_1326 ?_⟩
    · show (w_fi ws (n_v (vs ++ [Value.int x]) 2) 157 ≤ v_iv (n_v (vs ++ [Value.int x]) 5)) ∧ ((v_iv (n_v (vs ++ [Value.int x]) 5) ≤ w_fi ws (n_v (vs ++ [Value.int x]) 2) 11) ∧ ((v_iv (n_v (vs ++ [Value.int x]) 10) = 0) ∨ ((v_iv (n_v (vs ++ [Value.int x]) 10) = 4) ∨ ((v_iv (n_v (vs ++ [Value.int x]) 5) + 1) ≤ w_fi ws (n_v (vs ++ [Value.int x]) 2) 11))))
      simp only [e_2, e_5, e_10, q2]
      exact vc_Mo_styleTokens_10_0 (v_iv (n_v vs 5)) (v_iv (n_v vs 10)) (w_fi ws (n_v vs 0) 11) (w_fi ws (n_v vs 0) 157) k5 k10 g2 f5 kz_0_11 kz_0_157
  have nf1 : fc_1 PRD (20, [11, 5], [30, -4001, -1, 0, 0, -2, 0, 0]) ws (vs ++ [Value.int x]) := by
    refine ⟨nf_inA hl rfl, sgq_1327 ?_⟩
    · show (-1) * v_iv (n_v (vs ++ [Value.int x]) 11) + ((-2) * v_iv (n_v (vs ++ [Value.int x]) 5) + 0) ≤ (-4001)
      simp only [e_5, e_11]
      exact vc_Mo_styleTokens_10_1 (v_iv (n_v vs 5)) (v_iv (n_v vs 6)) (w_fi ws (n_v vs 0) 11) (v_iv (Value.int x)) k5 k6 g2 f6 kz_0_11 ex2
  have nf2 : fc_1 PRD (24, [0, 2], []) ws (vs ++ [Value.int x]) := by
    refine ⟨nf_inA hl rfl, sgq_5 ?_⟩
    · show n_v (vs ++ [Value.int x]) 0 = n_v (vs ++ [Value.int x]) 2
      first | rfl | simp only [e_0, e_2, q2]
  obtain ⟨x0, e0, _, _⟩ := tv_int t6 rfl
  have e1 : v_iv (n_v vs 6) = x0.toInt := by rw [e0]; rfl
  have ho : sy_ofs (vs ++ [Value.int x]) (11, 6, 0, 0) := by
    refine ⟨x, x0, by rw [List.getElem?_append_right (by rw [hl]; decide), hl]; rfl, ?_, ?_, ?_⟩
    · rw [List.getElem?_append_left (by rw [hl]; decide)]; exact n_v_some (by rw [hl]; decide) e0
    · show x0.toInt + 0 ≤ x.toInt; omega
    · show x.toInt ≤ x0.toInt + 0; omega
  exact ⟨(fun _ h => (by cases h)), [Value.int x], ag_one hx, List.forall_mem_cons.mpr ⟨⟨show (20 : Nat) < 100 from by decide, nf0⟩, List.forall_mem_cons.mpr ⟨⟨show (20 : Nat) < 100 from by decide, nf1⟩, List.forall_mem_cons.mpr ⟨⟨show (24 : Nat) < 100 from by decide, nf2⟩, (fun _ h => (by cases h))⟩⟩⟩, List.forall_mem_cons.mpr ⟨ho, (fun _ h => (by cases h))⟩⟩
set_option maxHeartbeats 4000000 in
theorem vc_Mo_styleTokens_11_0 (x5 : Int) (pos_0 : Int) (tokens_0 : Int) (k5 : 0 ≤ x5 ∧ x5 ≤ 1999) (g2 : x5 = pos_0) (f5 : tokens_0 ≤ pos_0) (kz_0_11 : 0 ≤ pos_0 ∧ pos_0 ≤ 2000) (kz_0_157 : 0 ≤ tokens_0 ∧ tokens_0 ≤ 2010) : (tokens_0 ≤ x5) ∧ (pos_0 = x5) := by
  first | assumption | omega | grind
set_option maxHeartbeats 4000000 in
theorem vc_Mo_styleTokens_11_1 (x5 : Int) (x6 : Int) (pos_0 : Int) (gx : Int) (k5 : 0 ≤ x5 ∧ x5 ≤ 1999) (k6 : 0 ≤ x6 ∧ x6 ≤ 4001) (g2 : x5 = pos_0) (f6 : (-1) * x6 + ((-2) * pos_0 + 0) ≤ (-4001)) (kz_0_11 : 0 ≤ pos_0 ∧ pos_0 ≤ 2000) (ex2 : gx = 0 + (1 * x6 + 0)) : (-1) * gx + ((-2) * x5 + 0) ≤ (-4001) := by
  first | assumption | omega | grind
def o_Mo_styleTokens_11 : or_T := (250, 14, [(0, (2, 0, 0, [165])), (2, (2, 0, 0, [165])), (5, (0, 0, 1999, [])), (6, (0, 0, 4001, [])), (7, (0, 0, 47, [])), (9, (1, 0, 255, []))], [(8, [7], [3]), (22, [9, 7], []), (9, [5, 2], [11]), (20, [5, 2, 7], [50, 1, 1, 1010, 1001, 4, 11, 0, 6, 4, 2, 1, 0, 0, 1, 2, 1, 10, 1, 2, 1, 2, 9, 5, 3, 1, 1, 1, 0, 0, 256]), (20, [2, 5, 7], [50, 1, 0, 10, 4, 7, 0, 3, 2, 0, 10, 1, 1, 1, 2, 1, 2, 0, -1]), (20, [2], [50, 2, 0, 157, 11, 0, 3, 2, 0, 157, 2, 0, 11]), (20, [6, 2], [30, -4001, -1, 0, 0, -2, 1, 11]), (24, [0, 2], [])], [], [(0, 0, 4001, [])], [(20, [2, 5], [50, 2, 0, 157, 11, 2, 7, 0, 3, 2, 0, 157, 1, 1, 1, 3, 2, 0, 11, 1, 1]), (20, [14, 5], [30, -4001, -1, 0, 0, -2, 0, 0]), (24, [0, 2], [])], [(14, 6, 0, 0)], [])
theorem oo_Mo_styleTokens_11 {kA : Nat → ClassId} : or_ok PRD kA GG o_Mo_styleTokens_11 := by
  refine or_mk fun A ta ws vs hD hth hl => ?_
  intro t0 r0 t2 r2 t5 k5 t6 k6 t7 k7 t9 k9 f0 f1 f2 f3 f4 f5 f6 f7
  replace f0 := shm_32 f0
  replace f1 := shm_47 f1
  replace f2 := shm_116 f2
  replace f3 := shm_541 f3
  replace f4 := shm_542 f4
  replace f5 := shm_1324 f5
  replace f6 := shm_1325 f6
  replace f7 := shm_5 f7
  have q2 : n_v vs 2 = n_v vs 0 := f7.symm
  simp only [q2] at f2 f3 f4 f5 f6
  have cr_0_1 := fdq_39 hD hth r0
  have g2 : v_iv (n_v vs 5) = w_fi ws (n_v vs 0) 11 := congrArg v_iv f2
  have hK_0_1 := elq_7 hD hth cr_0_1
  have kz_0_10 := fdq_43 hD hth r0
  have kz_0_11 := fdq_237 hD hth r0
  have kz_0_157 := fdq_35 hD hth r0
  obtain ⟨x, ex, hx⟩ := iv_ex (ta := ta) (lo := 0) (hi := 4001) (z := 0 + (1 * v_iv (n_v vs 6) + 0)) (by omega) (by omega) (by omega) (by omega)
  have ex2 : v_iv (Value.int x) = 0 + (1 * v_iv (n_v vs 6) + 0) := ex
  have ex3 : 0 ≤ v_iv (Value.int x) ∧ v_iv (Value.int x) ≤ 4001 := tv_rng hx
  have e_0 : n_v (vs ++ [Value.int x]) 0 = n_v vs 0 := n_v_old (by rw [hl]; decide)
  have e_2 : n_v (vs ++ [Value.int x]) 2 = n_v vs 2 := n_v_old (by rw [hl]; decide)
  have e_5 : n_v (vs ++ [Value.int x]) 5 = n_v vs 5 := n_v_old (by rw [hl]; decide)
  have e_14 : n_v (vs ++ [Value.int x]) 14 = Value.int x := n_v_new hl
  have nf0 : fc_1 PRD (20, [2, 5], [50, 2, 0, 157, 11, 2, 7, 0, 3, 2, 0, 157, 1, 1, 1, 3, 2, 0, 11, 1, 1]) ws (vs ++ [Value.int x]) := by
    refine ⟨nf_inA hl rfl, sgq_1328 ?_⟩
    · show (w_fi ws (n_v (vs ++ [Value.int x]) 2) 157 ≤ v_iv (n_v (vs ++ [Value.int x]) 5)) ∧ (w_fi ws (n_v (vs ++ [Value.int x]) 2) 11 = v_iv (n_v (vs ++ [Value.int x]) 5))
      simp only [e_2, e_5, q2]
      exact vc_Mo_styleTokens_11_0 (v_iv (n_v vs 5)) (w_fi ws (n_v vs 0) 11) (w_fi ws (n_v vs 0) 157) k5 g2 f5 kz_0_11 kz_0_157
  have nf1 : fc_1 PRD (20, [14, 5], [30, -4001, -1, 0, 0, -2, 0, 0]) ws (vs ++ [Value.int x]) := by
    refine ⟨nf_inA hl rfl, sgq_1327 ?_⟩
    · show (-1) * v_iv (n_v (vs ++ [Value.int x]) 14) + ((-2) * v_iv (n_v (vs ++ [Value.int x]) 5) + 0) ≤ (-4001)
      simp only [e_5, e_14]
      exact vc_Mo_styleTokens_11_1 (v_iv (n_v vs 5)) (v_iv (n_v vs 6)) (w_fi ws (n_v vs 0) 11) (v_iv (Value.int x)) k5 k6 g2 f6 kz_0_11 ex2
  have nf2 : fc_1 PRD (24, [0, 2], []) ws (vs ++ [Value.int x]) := by
    refine ⟨nf_inA hl rfl, sgq_5 ?_⟩
    · show n_v (vs ++ [Value.int x]) 0 = n_v (vs ++ [Value.int x]) 2
      first | rfl | simp only [e_0, e_2, q2]
  obtain ⟨x0, e0, _, _⟩ := tv_int t6 rfl
  have e1 : v_iv (n_v vs 6) = x0.toInt := by rw [e0]; rfl
  have ho : sy_ofs (vs ++ [Value.int x]) (14, 6, 0, 0) := by
    refine ⟨x, x0, by rw [List.getElem?_append_right (by rw [hl]; decide), hl]; rfl, ?_, ?_, ?_⟩
    · rw [List.getElem?_append_left (by rw [hl]; decide)]; exact n_v_some (by rw [hl]; decide) e0
    · show x0.toInt + 0 ≤ x.toInt; omega
    · show x.toInt ≤ x0.toInt + 0; omega
  exact ⟨(fun _ h => (by cases h)), [Value.int x], ag_one hx, List.forall_mem_cons.mpr ⟨⟨show (20 : Nat) < 100 from by decide, nf0⟩, List.forall_mem_cons.mpr ⟨⟨show (20 : Nat) < 100 from by decide, nf1⟩, List.forall_mem_cons.mpr ⟨⟨show (24 : Nat) < 100 from by decide, nf2⟩, (fun _ h => (by cases h))⟩⟩⟩, List.forall_mem_cons.mpr ⟨ho, (fun _ h => (by cases h))⟩⟩
set_option maxHeartbeats 4000000 in
theorem vc_Mo_styleTokens_12_0 (x5 : Int) (pos_0 : Int) (tokens_0 : Int) (k5 : 0 ≤ x5 ∧ x5 ≤ 1999) (g2 : x5 = pos_0) (f5 : tokens_0 ≤ pos_0) (kz_0_11 : 0 ≤ pos_0 ∧ pos_0 ≤ 2000) (kz_0_157 : 0 ≤ tokens_0 ∧ tokens_0 ≤ 2010) : (tokens_0 ≤ x5) ∧ (pos_0 = x5) := by
  first | assumption | omega | grind
set_option maxHeartbeats 4000000 in
theorem vc_Mo_styleTokens_12_1 (x5 : Int) (x6 : Int) (pos_0 : Int) (gx : Int) (k5 : 0 ≤ x5 ∧ x5 ≤ 1999) (k6 : 0 ≤ x6 ∧ x6 ≤ 4001) (g2 : x5 = pos_0) (f6 : (-1) * x6 + ((-2) * pos_0 + 0) ≤ (-4001)) (kz_0_11 : 0 ≤ pos_0 ∧ pos_0 ≤ 2000) (ex2 : gx = 0 + (1 * x6 + 0)) : (-1) * gx + ((-2) * x5 + 0) ≤ (-4001) := by
  first | assumption | omega | grind
def o_Mo_styleTokens_12 : or_T := (250, 14, [(0, (2, 0, 0, [165])), (2, (2, 0, 0, [165])), (5, (0, 0, 1999, [])), (6, (0, 0, 4001, [])), (7, (0, 58, 96, [])), (9, (1, 0, 255, []))], [(8, [7], [3]), (22, [9, 7], []), (9, [5, 2], [11]), (20, [5, 2, 7], [50, 1, 1, 1010, 1001, 4, 11, 0, 6, 4, 2, 1, 0, 0, 1, 2, 1, 10, 1, 2, 1, 2, 9, 5, 3, 1, 1, 1, 0, 0, 256]), (20, [2, 5, 7], [50, 1, 0, 10, 4, 7, 0, 3, 2, 0, 10, 1, 1, 1, 2, 1, 2, 0, -1]), (20, [2], [50, 2, 0, 157, 11, 0, 3, 2, 0, 157, 2, 0, 11]), (20, [6, 2], [30, -4001, -1, 0, 0, -2, 1, 11]), (24, [0, 2], [])], [], [(0, 0, 4001, [])], [(20, [2, 5], [50, 2, 0, 157, 11, 2, 7, 0, 3, 2, 0, 157, 1, 1, 1, 3, 2, 0, 11, 1, 1]), (20, [14, 5], [30, -4001, -1, 0, 0, -2, 0, 0]), (24, [0, 2], [])], [(14, 6, 0, 0)], [])
theorem oo_Mo_styleTokens_12 {kA : Nat → ClassId} : or_ok PRD kA GG o_Mo_styleTokens_12 := by
  refine or_mk fun A ta ws vs hD hth hl => ?_
  intro t0 r0 t2 r2 t5 k5 t6 k6 t7 k7 t9 k9 f0 f1 f2 f3 f4 f5 f6 f7
  replace f0 := shm_32 f0
  replace f1 := shm_47 f1
  replace f2 := shm_116 f2
  replace f3 := shm_541 f3
  replace f4 := shm_542 f4
  replace f5 := shm_1324 f5
  replace f6 := shm_1325 f6
  replace f7 := shm_5 f7
  have q2 : n_v vs 2 = n_v vs 0 := f7.symm
  simp only [q2] at f2 f3 f4 f5 f6
  have cr_0_1 := fdq_39 hD hth r0
  have g2 : v_iv (n_v vs 5) = w_fi ws (n_v vs 0) 11 := congrArg v_iv f2
  have hK_0_1 := elq_7 hD hth cr_0_1
  have kz_0_10 := fdq_43 hD hth r0
  have kz_0_11 := fdq_237 hD hth r0
  have kz_0_157 := fdq_35 hD hth r0
  obtain ⟨x, ex, hx⟩ := iv_ex (ta := ta) (lo := 0) (hi := 4001) (z := 0 + (1 * v_iv (n_v vs 6) + 0)) (by omega) (by omega) (by omega) (by omega)
  have ex2 : v_iv (Value.int x) = 0 + (1 * v_iv (n_v vs 6) + 0) := ex
  have ex3 : 0 ≤ v_iv (Value.int x) ∧ v_iv (Value.int x) ≤ 4001 := tv_rng hx
  have e_0 : n_v (vs ++ [Value.int x]) 0 = n_v vs 0 := n_v_old (by rw [hl]; decide)
  have e_2 : n_v (vs ++ [Value.int x]) 2 = n_v vs 2 := n_v_old (by rw [hl]; decide)
  have e_5 : n_v (vs ++ [Value.int x]) 5 = n_v vs 5 := n_v_old (by rw [hl]; decide)
  have e_14 : n_v (vs ++ [Value.int x]) 14 = Value.int x := n_v_new hl
  have nf0 : fc_1 PRD (20, [2, 5], [50, 2, 0, 157, 11, 2, 7, 0, 3, 2, 0, 157, 1, 1, 1, 3, 2, 0, 11, 1, 1]) ws (vs ++ [Value.int x]) := by
    refine ⟨nf_inA hl rfl, sgq_1328 ?_⟩
    · show (w_fi ws (n_v (vs ++ [Value.int x]) 2) 157 ≤ v_iv (n_v (vs ++ [Value.int x]) 5)) ∧ (w_fi ws (n_v (vs ++ [Value.int x]) 2) 11 = v_iv (n_v (vs ++ [Value.int x]) 5))
      simp only [e_2, e_5, q2]
      exact vc_Mo_styleTokens_12_0 (v_iv (n_v vs 5)) (w_fi ws (n_v vs 0) 11) (w_fi ws (n_v vs 0) 157) k5 g2 f5 kz_0_11 kz_0_157
  have nf1 : fc_1 PRD (20, [14, 5], [30, -4001, -1, 0, 0, -2, 0, 0]) ws (vs ++ [Value.int x]) := by
    refine ⟨nf_inA hl rfl, sgq_1327 ?_⟩
    · show (-1) * v_iv (n_v (vs ++ [Value.int x]) 14) + ((-2) * v_iv (n_v (vs ++ [Value.int x]) 5) + 0) ≤ (-4001)
      simp only [e_5, e_14]
      exact vc_Mo_styleTokens_12_1 (v_iv (n_v vs 5)) (v_iv (n_v vs 6)) (w_fi ws (n_v vs 0) 11) (v_iv (Value.int x)) k5 k6 g2 f6 kz_0_11 ex2
  have nf2 : fc_1 PRD (24, [0, 2], []) ws (vs ++ [Value.int x]) := by
    refine ⟨nf_inA hl rfl, sgq_5 ?_⟩
    · show n_v (vs ++ [Value.int x]) 0 = n_v (vs ++ [Value.int x]) 2
      first | rfl | simp only [e_0, e_2, q2]
  obtain ⟨x0, e0, _, _⟩ := tv_int t6 rfl
  have e1 : v_iv (n_v vs 6) = x0.toInt := by rw [e0]; rfl
  have ho : sy_ofs (vs ++ [Value.int x]) (14, 6, 0, 0) := by
    refine ⟨x, x0, by rw [List.getElem?_append_right (by rw [hl]; decide), hl]; rfl, ?_, ?_, ?_⟩
    · rw [List.getElem?_append_left (by rw [hl]; decide)]; exact n_v_some (by rw [hl]; decide) e0
    · show x0.toInt + 0 ≤ x.toInt; omega
    · show x.toInt ≤ x0.toInt + 0; omega
  exact ⟨(fun _ h => (by cases h)), [Value.int x], ag_one hx, List.forall_mem_cons.mpr ⟨⟨show (20 : Nat) < 100 from by decide, nf0⟩, List.forall_mem_cons.mpr ⟨⟨show (20 : Nat) < 100 from by decide, nf1⟩, List.forall_mem_cons.mpr ⟨⟨show (24 : Nat) < 100 from by decide, nf2⟩, (fun _ h => (by cases h))⟩⟩⟩, List.forall_mem_cons.mpr ⟨ho, (fun _ h => (by cases h))⟩⟩
set_option maxHeartbeats 4000000 in
theorem vc_Mo_styleTokens_13_0 (x5 : Int) (x7 : Int) (x9 : Int) (pos_0 : Int) (tape_0 : Int → Int) (limit_0 : Int) (tokens_0 : Int) (k5 : 0 ≤ x5 ∧ x5 ≤ 1999) (k7 : 48 ≤ x7 ∧ x7 ≤ 57) (k9 : 0 ≤ x9 ∧ x9 ≤ 255) (f1 : x9 = x7) (g2 : x5 = pos_0) (f3 : ((x5 + 1) ≤ limit_0) → (x7 = (tape_0 (x5) % 256))) (f4 : (limit_0 ≤ x5) → (x7 = (-1))) (f5 : tokens_0 ≤ pos_0) (kz_0_10 : 0 ≤ limit_0 ∧ limit_0 ≤ 2000) (kz_0_11 : 0 ≤ pos_0 ∧ pos_0 ≤ 2000) (kz_0_157 : 0 ≤ tokens_0 ∧ tokens_0 ≤ 2010) : (tokens_0 ≤ x5) ∧ ((x5 ≤ pos_0) ∧ (((x5 + 1) ≤ pos_0) ∨ ((pos_0 = x5) ∧ (((x5 + 1) ≤ limit_0) ∧ ((48 ≤ (tape_0 (x5) % 256)) ∧ ((tape_0 (x5) % 256) ≤ 57)))))) := by
  first | assumption | omega | grind
set_option maxHeartbeats 4000000 in
theorem vc_Mo_styleTokens_13_1 (x5 : Int) (x6 : Int) (pos_0 : Int) (gx : Int) (k5 : 0 ≤ x5 ∧ x5 ≤ 1999) (k6 : 0 ≤ x6 ∧ x6 ≤ 4001) (g2 : x5 = pos_0) (f6 : (-1) * x6 + ((-2) * pos_0 + 0) ≤ (-4001)) (kz_0_11 : 0 ≤ pos_0 ∧ pos_0 ≤ 2000) (ex2 : gx = 0 + (1 * x6 + 0)) : (-1) * gx + ((-2) * x5 + 0) ≤ (-4001) := by
  first | assumption | omega | grind
def o_Mo_styleTokens_13 : or_T := (166, 15, [(0, (2, 0, 0, [165])), (2, (2, 0, 0, [165])), (5, (0, 0, 1999, [])), (6, (0, 0, 4001, [])), (7, (0, 48, 57, [])), (9, (1, 0, 255, []))], [(8, [7], [3]), (22, [9, 7], []), (9, [5, 2], [11]), (20, [5, 2, 7], [50, 1, 1, 1010, 1001, 4, 11, 0, 6, 4, 2, 1, 0, 0, 1, 2, 1, 10, 1, 2, 1, 2, 9, 5, 3, 1, 1, 1, 0, 0, 256]), (20, [2, 5, 7], [50, 1, 0, 10, 4, 7, 0, 3, 2, 0, 10, 1, 1, 1, 2, 1, 2, 0, -1]), (20, [2], [50, 2, 0, 157, 11, 0, 3, 2, 0, 157, 2, 0, 11]), (20, [6, 2], [30, -4001, -1, 0, 0, -2, 1, 11]), (24, [0, 2], [])], [], [(0, 0, 4001, [])], [(20, [2, 5], [50, 3, 1, 157, 11, 10, 1, 2, 7, 0, 3, 2, 0, 157, 1, 1, 2, 7, 0, 2, 1, 1, 2, 0, 11, 3, 11, 0, 6, 4, 2, 1, 1, 0, 1, 2, 0, 11, 2, 7, 1, 3, 2, 0, 11, 1, 1, 2, 11, 0, 6, 4, 2, 1, 1, 0, 1, 2, 0, 10, 2, 13, 0, 2, 0, 48, 9, 5, 3, 0, 1, 1, 1, 0, 256, 0, 9, 9, 5, 3, 0, 1, 1, 1, 0, 256, 0, 57]), (20, [15, 5], [30, -4001, -1, 0, 0, -2, 0, 0]), (24, [0, 2], [])], [(15, 6, 0, 0)], [])
theorem oo_Mo_styleTokens_13 {kA : Nat → ClassId} : or_ok PRD kA GG o_Mo_styleTokens_13 := by
  refine or_mk fun A ta ws vs hD hth hl => ?_
  intro t0 r0 t2 r2 t5 k5 t6 k6 t7 k7 t9 k9 f0 f1 f2 f3 f4 f5 f6 f7
  replace f0 := shm_32 f0
  replace f1 := shm_47 f1
  replace f2 := shm_116 f2
  replace f3 := shm_541 f3
  replace f4 := shm_542 f4
  replace f5 := shm_1324 f5
  replace f6 := shm_1325 f6
  replace f7 := shm_5 f7
  have q2 : n_v vs 2 = n_v vs 0 := f7.symm
  simp only [q2] at f2 f3 f4 f5 f6
  have cr_0_1 := fdq_39 hD hth r0
  have g2 : v_iv (n_v vs 5) = w_fi ws (n_v vs 0) 11 := congrArg v_iv f2
  have hK_0_1 := elq_7 hD hth cr_0_1
  have kz_0_10 := fdq_43 hD hth r0
  have kz_0_11 := fdq_237 hD hth r0
  have kz_0_157 := fdq_35 hD hth r0
  obtain ⟨x, ex, hx⟩ := iv_ex (ta := ta) (lo := 0) (hi := 4001) (z := 0 + (1 * v_iv (n_v vs 6) + 0)) (by omega) (by omega) (by omega) (by omega)
  have ex2 : v_iv (Value.int x) = 0 + (1 * v_iv (n_v vs 6) + 0) := ex
  have ex3 : 0 ≤ v_iv (Value.int x) ∧ v_iv (Value.int x) ≤ 4001 := tv_rng hx
  have e_0 : n_v (vs ++ [Value.int x]) 0 = n_v vs 0 := n_v_old (by rw [hl]; decide)
  have e_2 : n_v (vs ++ [Value.int x]) 2 = n_v vs 2 := n_v_old (by rw [hl]; decide)
  have e_5 : n_v (vs ++ [Value.int x]) 5 = n_v vs 5 := n_v_old (by rw [hl]; decide)
  have e_15 : n_v (vs ++ [Value.int x]) 15 = Value.int x := n_v_new hl
  have nf0 : fc_1 PRD (20, [2, 5], [50, 3, 1, 157, 11, 10, 1, 2, 7, 0, 3, 2, 0, 157, 1, 1, 2, 7, 0, 2, 1, 1, 2, 0, 11, 3, 11, 0, 6, 4, 2, 1, 1, 0, 1, 2, 0, 11, 2, 7, 1, 3, 2, 0, 11, 1, 1, 2, 11, 0, 6, 4, 2, 1, 1, 0, 1, 2, 0, 10, 2, 13, 0, 2, 0, 48, 9, 5, 3, 0, 1, 1, 1, 0, 256, 0, 9, 9, 5, 3, 0, 1, 1, 1, 0, 256, 0, 57]) ws (vs ++ [Value.int x]) := by
    refine ⟨nf_inA hl rfl, sgq_1329 ?_⟩
    · show (w_fi ws (n_v (vs ++ [Value.int x]) 2) 157 ≤ v_iv (n_v (vs ++ [Value.int x]) 5)) ∧ ((v_iv (n_v (vs ++ [Value.int x]) 5) ≤ w_fi ws (n_v (vs ++ [Value.int x]) 2) 11) ∧ (((v_iv (n_v (vs ++ [Value.int x]) 5) + 1) ≤ w_fi ws (n_v (vs ++ [Value.int x]) 2) 11) ∨ ((w_fi ws (n_v (vs ++ [Value.int x]) 2) 11 = v_iv (n_v (vs ++ [Value.int x]) 5)) ∧ (((v_iv (n_v (vs ++ [Value.int x]) 5) + 1) ≤ w_fi ws (n_v (vs ++ [Value.int x]) 2) 10) ∧ ((48 ≤ (w_ei ws (w_ar ws (n_v (vs ++ [Value.int x]) 2) 1) (v_iv (n_v (vs ++ [Value.int x]) 5)) % 256)) ∧ ((w_ei ws (w_ar ws (n_v (vs ++ [Value.int x]) 2) 1) (v_iv (n_v (vs ++ [Value.int x]) 5)) % 256) ≤ 57))))))
      simp only [e_2, e_5, q2]
      exact vc_Mo_styleTokens_13_0 (v_iv (n_v vs 5)) (v_iv (n_v vs 7)) (v_iv (n_v vs 9)) (w_fi ws (n_v vs 0) 11) (w_ei ws (w_ar ws (n_v vs 0) 1)) (w_fi ws (n_v vs 0) 10) (w_fi ws (n_v vs 0) 157) k5 k7 k9 f1 g2 f3 f4 f5 kz_0_10 kz_0_11 kz_0_157
  have nf1 : fc_1 PRD (20, [15, 5], [30, -4001, -1, 0, 0, -2, 0, 0]) ws (vs ++ [Value.int x]) := by
    refine ⟨nf_inA hl rfl, sgq_1327 ?_⟩
    · show (-1) * v_iv (n_v (vs ++ [Value.int x]) 15) + ((-2) * v_iv (n_v (vs ++ [Value.int x]) 5) + 0) ≤ (-4001)
      simp only [e_5, e_15]
      exact vc_Mo_styleTokens_13_1 (v_iv (n_v vs 5)) (v_iv (n_v vs 6)) (w_fi ws (n_v vs 0) 11) (v_iv (Value.int x)) k5 k6 g2 f6 kz_0_11 ex2
  have nf2 : fc_1 PRD (24, [0, 2], []) ws (vs ++ [Value.int x]) := by
    refine ⟨nf_inA hl rfl, sgq_5 ?_⟩
    · show n_v (vs ++ [Value.int x]) 0 = n_v (vs ++ [Value.int x]) 2
      first | rfl | simp only [e_0, e_2, q2]
  obtain ⟨x0, e0, _, _⟩ := tv_int t6 rfl
  have e1 : v_iv (n_v vs 6) = x0.toInt := by rw [e0]; rfl
  have ho : sy_ofs (vs ++ [Value.int x]) (15, 6, 0, 0) := by
    refine ⟨x, x0, by rw [List.getElem?_append_right (by rw [hl]; decide), hl]; rfl, ?_, ?_, ?_⟩
    · rw [List.getElem?_append_left (by rw [hl]; decide)]; exact n_v_some (by rw [hl]; decide) e0
    · show x0.toInt + 0 ≤ x.toInt; omega
    · show x.toInt ≤ x0.toInt + 0; omega
  exact ⟨(fun _ h => (by cases h)), [Value.int x], ag_one hx, List.forall_mem_cons.mpr ⟨⟨show (20 : Nat) < 100 from by decide, nf0⟩, List.forall_mem_cons.mpr ⟨⟨show (20 : Nat) < 100 from by decide, nf1⟩, List.forall_mem_cons.mpr ⟨⟨show (24 : Nat) < 100 from by decide, nf2⟩, (fun _ h => (by cases h))⟩⟩⟩, List.forall_mem_cons.mpr ⟨ho, (fun _ h => (by cases h))⟩⟩
set_option maxHeartbeats 4000000 in
theorem vc_Mo_styleTokens_14_0 (x5 : Int) (pos_0 : Int) (tokens_0 : Int) (k5 : 0 ≤ x5 ∧ x5 ≤ 1999) (g2 : x5 = pos_0) (f5 : tokens_0 ≤ pos_0) (kz_0_11 : 0 ≤ pos_0 ∧ pos_0 ≤ 2000) (kz_0_157 : 0 ≤ tokens_0 ∧ tokens_0 ≤ 2010) : (tokens_0 ≤ x5) ∧ (pos_0 = x5) := by
  first | assumption | omega | grind
set_option maxHeartbeats 4000000 in
theorem vc_Mo_styleTokens_14_1 (x5 : Int) (x6 : Int) (pos_0 : Int) (gx : Int) (k5 : 0 ≤ x5 ∧ x5 ≤ 1999) (k6 : 0 ≤ x6 ∧ x6 ≤ 4001) (g2 : x5 = pos_0) (f6 : (-1) * x6 + ((-2) * pos_0 + 0) ≤ (-4001)) (kz_0_11 : 0 ≤ pos_0 ∧ pos_0 ≤ 2000) (ex2 : gx = 0 + (1 * x6 + 0)) : (-1) * gx + ((-2) * x5 + 0) ≤ (-4001) := by
  first | assumption | omega | grind
def o_Mo_styleTokens_14 : or_T := (250, 14, [(0, (2, 0, 0, [165])), (2, (2, 0, 0, [165])), (5, (0, 0, 1999, [])), (6, (0, 0, 4001, [])), (7, (0, 123, 255, [])), (9, (1, 0, 255, []))], [(8, [7], [3]), (22, [9, 7], []), (9, [5, 2], [11]), (20, [5, 2, 7], [50, 1, 1, 1010, 1001, 4, 11, 0, 6, 4, 2, 1, 0, 0, 1, 2, 1, 10, 1, 2, 1, 2, 9, 5, 3, 1, 1, 1, 0, 0, 256]), (20, [2, 5, 7], [50, 1, 0, 10, 4, 7, 0, 3, 2, 0, 10, 1, 1, 1, 2, 1, 2, 0, -1]), (20, [2], [50, 2, 0, 157, 11, 0, 3, 2, 0, 157, 2, 0, 11]), (20, [6, 2], [30, -4001, -1, 0, 0, -2, 1, 11]), (24, [0, 2], [])], [], [(0, 0, 4001, [])], [(20, [2, 5], [50, 2, 0, 157, 11, 2, 7, 0, 3, 2, 0, 157, 1, 1, 1, 3, 2, 0, 11, 1, 1]), (20, [14, 5], [30, -4001, -1, 0, 0, -2, 0, 0]), (24, [0, 2], [])], [(14, 6, 0, 0)], [])
theorem oo_Mo_styleTokens_14 {kA : Nat → ClassId} : or_ok PRD kA GG o_Mo_styleTokens_14 := by
  refine or_mk fun A ta ws vs hD hth hl => ?_
  intro t0 r0 t2 r2 t5 k5 t6 k6 t7 k7 t9 k9 f0 f1 f2 f3 f4 f5 f6 f7
  replace f0 := shm_32 f0
  replace f1 := shm_47 f1
  replace f2 := shm_116 f2
  replace f3 := shm_541 f3
  replace f4 := shm_542 f4
  replace f5 := shm_1324 f5
  replace f6 := shm_1325 f6
  replace f7 := shm_5 f7
  have q2 : n_v vs 2 = n_v vs 0 := f7.symm
  simp only [q2] at f2 f3 f4 f5 f6
  have cr_0_1 := fdq_39 hD hth r0
  have g2 : v_iv (n_v vs 5) = w_fi ws (n_v vs 0) 11 := congrArg v_iv f2
  have hK_0_1 := elq_7 hD hth cr_0_1
  have kz_0_10 := fdq_43 hD hth r0
  have kz_0_11 := fdq_237 hD hth r0
  have kz_0_157 := fdq_35 hD hth r0
  obtain ⟨x, ex, hx⟩ := iv_ex (ta := ta) (lo := 0) (hi := 4001) (z := 0 + (1 * v_iv (n_v vs 6) + 0)) (by omega) (by omega) (by omega) (by omega)
  have ex2 : v_iv (Value.int x) = 0 + (1 * v_iv (n_v vs 6) + 0) := ex
  have ex3 : 0 ≤ v_iv (Value.int x) ∧ v_iv (Value.int x) ≤ 4001 := tv_rng hx
  have e_0 : n_v (vs ++ [Value.int x]) 0 = n_v vs 0 := n_v_old (by rw [hl]; decide)
  have e_2 : n_v (vs ++ [Value.int x]) 2 = n_v vs 2 := n_v_old (by rw [hl]; decide)
  have e_5 : n_v (vs ++ [Value.int x]) 5 = n_v vs 5 := n_v_old (by rw [hl]; decide)
  have e_14 : n_v (vs ++ [Value.int x]) 14 = Value.int x := n_v_new hl
  have nf0 : fc_1 PRD (20, [2, 5], [50, 2, 0, 157, 11, 2, 7, 0, 3, 2, 0, 157, 1, 1, 1, 3, 2, 0, 11, 1, 1]) ws (vs ++ [Value.int x]) := by
    refine ⟨nf_inA hl rfl, sgq_1328 ?_⟩
    · show (w_fi ws (n_v (vs ++ [Value.int x]) 2) 157 ≤ v_iv (n_v (vs ++ [Value.int x]) 5)) ∧ (w_fi ws (n_v (vs ++ [Value.int x]) 2) 11 = v_iv (n_v (vs ++ [Value.int x]) 5))
      simp only [e_2, e_5, q2]
      exact vc_Mo_styleTokens_14_0 (v_iv (n_v vs 5)) (w_fi ws (n_v vs 0) 11) (w_fi ws (n_v vs 0) 157) k5 g2 f5 kz_0_11 kz_0_157
  have nf1 : fc_1 PRD (20, [14, 5], [30, -4001, -1, 0, 0, -2, 0, 0]) ws (vs ++ [Value.int x]) := by
    refine ⟨nf_inA hl rfl, sgq_1327 ?_⟩
    · show (-1) * v_iv (n_v (vs ++ [Value.int x]) 14) + ((-2) * v_iv (n_v (vs ++ [Value.int x]) 5) + 0) ≤ (-4001)
      simp only [e_5, e_14]
      exact vc_Mo_styleTokens_14_1 (v_iv (n_v vs 5)) (v_iv (n_v vs 6)) (w_fi ws (n_v vs 0) 11) (v_iv (Value.int x)) k5 k6 g2 f6 kz_0_11 ex2
  have nf2 : fc_1 PRD (24, [0, 2], []) ws (vs ++ [Value.int x]) := by
    refine ⟨nf_inA hl rfl, sgq_5 ?_⟩
    · show n_v (vs ++ [Value.int x]) 0 = n_v (vs ++ [Value.int x]) 2
      first | rfl | simp only [e_0, e_2, q2]
  obtain ⟨x0, e0, _, _⟩ := tv_int t6 rfl
  have e1 : v_iv (n_v vs 6) = x0.toInt := by rw [e0]; rfl
  have ho : sy_ofs (vs ++ [Value.int x]) (14, 6, 0, 0) := by
    refine ⟨x, x0, by rw [List.getElem?_append_right (by rw [hl]; decide), hl]; rfl, ?_, ?_, ?_⟩
    · rw [List.getElem?_append_left (by rw [hl]; decide)]; exact n_v_some (by rw [hl]; decide) e0
    · show x0.toInt + 0 ≤ x.toInt; omega
    · show x.toInt ≤ x0.toInt + 0; omega
  exact ⟨(fun _ h => (by cases h)), [Value.int x], ag_one hx, List.forall_mem_cons.mpr ⟨⟨show (20 : Nat) < 100 from by decide, nf0⟩, List.forall_mem_cons.mpr ⟨⟨show (20 : Nat) < 100 from by decide, nf1⟩, List.forall_mem_cons.mpr ⟨⟨show (24 : Nat) < 100 from by decide, nf2⟩, (fun _ h => (by cases h))⟩⟩⟩, List.forall_mem_cons.mpr ⟨ho, (fun _ h => (by cases h))⟩⟩
set_option maxHeartbeats 4000000 in
theorem vc_Mo_styleTokens_15_0 (x5 : Int) (x7 : Int) (x9 : Int) (pos_0 : Int) (tape_0 : Int → Int) (limit_0 : Int) (tokens_0 : Int) (k5 : 0 ≤ x5 ∧ x5 ≤ 1999) (k7 : 97 ≤ x7 ∧ x7 ≤ 122) (k9 : 0 ≤ x9 ∧ x9 ≤ 255) (f1 : x9 = x7) (g2 : x5 = pos_0) (f3 : ((x5 + 1) ≤ limit_0) → (x7 = (tape_0 (x5) % 256))) (f4 : (limit_0 ≤ x5) → (x7 = (-1))) (f5 : tokens_0 ≤ pos_0) (kz_0_10 : 0 ≤ limit_0 ∧ limit_0 ≤ 2000) (kz_0_11 : 0 ≤ pos_0 ∧ pos_0 ≤ 2000) (kz_0_157 : 0 ≤ tokens_0 ∧ tokens_0 ≤ 2010) : (tokens_0 ≤ x5) ∧ ((x5 ≤ pos_0) ∧ (((x5 + 1) ≤ pos_0) ∨ ((pos_0 = x5) ∧ (((x5 + 1) ≤ limit_0) ∧ ((97 ≤ (tape_0 (x5) % 256)) ∧ ((tape_0 (x5) % 256) ≤ 122)))))) := by
  first | assumption | omega | grind
set_option maxHeartbeats 4000000 in
theorem vc_Mo_styleTokens_15_1 (x5 : Int) (x6 : Int) (pos_0 : Int) (gx : Int) (k5 : 0 ≤ x5 ∧ x5 ≤ 1999) (k6 : 0 ≤ x6 ∧ x6 ≤ 4001) (g2 : x5 = pos_0) (f6 : (-1) * x6 + ((-2) * pos_0 + 0) ≤ (-4001)) (kz_0_11 : 0 ≤ pos_0 ∧ pos_0 ≤ 2000) (ex2 : gx = 0 + (1 * x6 + 0)) : (-1) * gx + ((-2) * x5 + 0) ≤ (-4001) := by
  first | assumption | omega | grind
def o_Mo_styleTokens_15 : or_T := (103, 13, [(0, (2, 0, 0, [165])), (2, (2, 0, 0, [165])), (5, (0, 0, 1999, [])), (6, (0, 0, 4001, [])), (7, (0, 97, 122, [])), (9, (1, 0, 255, []))], [(8, [7], [3]), (22, [9, 7], []), (9, [5, 2], [11]), (20, [5, 2, 7], [50, 1, 1, 1010, 1001, 4, 11, 0, 6, 4, 2, 1, 0, 0, 1, 2, 1, 10, 1, 2, 1, 2, 9, 5, 3, 1, 1, 1, 0, 0, 256]), (20, [2, 5, 7], [50, 1, 0, 10, 4, 7, 0, 3, 2, 0, 10, 1, 1, 1, 2, 1, 2, 0, -1]), (20, [2], [50, 2, 0, 157, 11, 0, 3, 2, 0, 157, 2, 0, 11]), (20, [6, 2], [30, -4001, -1, 0, 0, -2, 1, 11]), (24, [0, 2], [])], [], [(0, 0, 4001, [])], [(20, [2, 5], [50, 3, 1, 157, 11, 10, 1, 2, 7, 0, 3, 2, 0, 157, 1, 1, 2, 7, 0, 2, 1, 1, 2, 0, 11, 3, 11, 0, 6, 4, 2, 1, 1, 0, 1, 2, 0, 11, 2, 7, 1, 3, 2, 0, 11, 1, 1, 2, 11, 0, 6, 4, 2, 1, 1, 0, 1, 2, 0, 10, 2, 13, 0, 2, 0, 97, 9, 5, 3, 0, 1, 1, 1, 0, 256, 0, 9, 9, 5, 3, 0, 1, 1, 1, 0, 256, 0, 122]), (20, [13, 5], [30, -4001, -1, 0, 0, -2, 0, 0]), (24, [0, 2], [])], [(13, 6, 0, 0)], [])
theorem oo_Mo_styleTokens_15 {kA : Nat → ClassId} : or_ok PRD kA GG o_Mo_styleTokens_15 := by
  refine or_mk fun A ta ws vs hD hth hl => ?_
  intro t0 r0 t2 r2 t5 k5 t6 k6 t7 k7 t9 k9 f0 f1 f2 f3 f4 f5 f6 f7
  replace f0 := shm_32 f0
  replace f1 := shm_47 f1
  replace f2 := shm_116 f2
  replace f3 := shm_541 f3
  replace f4 := shm_542 f4
  replace f5 := shm_1324 f5
  replace f6 := shm_1325 f6
  replace f7 := shm_5 f7
  have q2 : n_v vs 2 = n_v vs 0 := f7.symm
  simp only [q2] at f2 f3 f4 f5 f6
  have cr_0_1 := fdq_39 hD hth r0
  have g2 : v_iv (n_v vs 5) = w_fi ws (n_v vs 0) 11 := congrArg v_iv f2
  have hK_0_1 := elq_7 hD hth cr_0_1
  have kz_0_10 := fdq_43 hD hth r0
  have kz_0_11 := fdq_237 hD hth r0
  have kz_0_157 := fdq_35 hD hth r0
  obtain ⟨x, ex, hx⟩ := iv_ex (ta := ta) (lo := 0) (hi := 4001) (z := 0 + (1 * v_iv (n_v vs 6) + 0)) (by omega) (by omega) (by omega) (by omega)
  have ex2 : v_iv (Value.int x) = 0 + (1 * v_iv (n_v vs 6) + 0) := ex
  have ex3 : 0 ≤ v_iv (Value.int x) ∧ v_iv (Value.int x) ≤ 4001 := tv_rng hx
  have e_0 : n_v (vs ++ [Value.int x]) 0 = n_v vs 0 := n_v_old (by rw [hl]; decide)
  have e_2 : n_v (vs ++ [Value.int x]) 2 = n_v vs 2 := n_v_old (by rw [hl]; decide)
  have e_5 : n_v (vs ++ [Value.int x]) 5 = n_v vs 5 := n_v_old (by rw [hl]; decide)
  have e_13 : n_v (vs ++ [Value.int x]) 13 = Value.int x := n_v_new hl
  have nf0 : fc_1 PRD (20, [2, 5], [50, 3, 1, 157, 11, 10, 1, 2, 7, 0, 3, 2, 0, 157, 1, 1, 2, 7, 0, 2, 1, 1, 2, 0, 11, 3, 11, 0, 6, 4, 2, 1, 1, 0, 1, 2, 0, 11, 2, 7, 1, 3, 2, 0, 11, 1, 1, 2, 11, 0, 6, 4, 2, 1, 1, 0, 1, 2, 0, 10, 2, 13, 0, 2, 0, 97, 9, 5, 3, 0, 1, 1, 1, 0, 256, 0, 9, 9, 5, 3, 0, 1, 1, 1, 0, 256, 0, 122]) ws (vs ++ [Value.int x]) := by
    refine ⟨nf_inA hl rfl, sgq_1330 ?_⟩
    · show (w_fi ws (n_v (vs ++ [Value.int x]) 2) 157 ≤ v_iv (n_v (vs ++ [Value.int x]) 5)) ∧ ((v_iv (n_v (vs ++ [Value.int x]) 5) ≤ w_fi ws (n_v (vs ++ [Value.int x]) 2) 11) ∧ (((v_iv (n_v (vs ++ [Value.int x]) 5) + 1) ≤ w_fi ws (n_v (vs ++ [Value.int x]) 2) 11) ∨ ((w_fi ws (n_v (vs ++ [Value.int x]) 2) 11 = v_iv (n_v (vs ++ [Value.int x]) 5)) ∧ (((v_iv (n_v (vs ++ [Value.int x]) 5) + 1) ≤ w_fi ws (n_v (vs ++ [Value.int x]) 2) 10) ∧ ((97 ≤ (w_ei ws (w_ar ws (n_v (vs ++ [Value.int x]) 2) 1) (v_iv (n_v (vs ++ [Value.int x]) 5)) % 256)) ∧ ((w_ei ws (w_ar ws (n_v (vs ++ [Value.int x]) 2) 1) (v_iv (n_v (vs ++ [Value.int x]) 5)) % 256) ≤ 122))))))
      simp only [e_2, e_5, q2]
      exact vc_Mo_styleTokens_15_0 (v_iv (n_v vs 5)) (v_iv (n_v vs 7)) (v_iv (n_v vs 9)) (w_fi ws (n_v vs 0) 11) (w_ei ws (w_ar ws (n_v vs 0) 1)) (w_fi ws (n_v vs 0) 10) (w_fi ws (n_v vs 0) 157) k5 k7 k9 f1 g2 f3 f4 f5 kz_0_10 kz_0_11 kz_0_157
  have nf1 : fc_1 PRD (20, [13, 5], [30, -4001, -1, 0, 0, -2, 0, 0]) ws (vs ++ [Value.int x]) := by
    refine ⟨nf_inA hl rfl, sgq_1327 ?_⟩
    · show (-1) * v_iv (n_v (vs ++ [Value.int x]) 13) + ((-2) * v_iv (n_v (vs ++ [Value.int x]) 5) + 0) ≤ (-4001)
      simp only [e_5, e_13]
      exact vc_Mo_styleTokens_15_1 (v_iv (n_v vs 5)) (v_iv (n_v vs 6)) (w_fi ws (n_v vs 0) 11) (v_iv (Value.int x)) k5 k6 g2 f6 kz_0_11 ex2
  have nf2 : fc_1 PRD (24, [0, 2], []) ws (vs ++ [Value.int x]) := by
    refine ⟨nf_inA hl rfl, sgq_5 ?_⟩
    · show n_v (vs ++ [Value.int x]) 0 = n_v (vs ++ [Value.int x]) 2
      first | rfl | simp only [e_0, e_2, q2]
  obtain ⟨x0, e0, _, _⟩ := tv_int t6 rfl
  have e1 : v_iv (n_v vs 6) = x0.toInt := by rw [e0]; rfl
  have ho : sy_ofs (vs ++ [Value.int x]) (13, 6, 0, 0) := by
    refine ⟨x, x0, by rw [List.getElem?_append_right (by rw [hl]; decide), hl]; rfl, ?_, ?_, ?_⟩
    · rw [List.getElem?_append_left (by rw [hl]; decide)]; exact n_v_some (by rw [hl]; decide) e0
    · show x0.toInt + 0 ≤ x.toInt; omega
    · show x.toInt ≤ x0.toInt + 0; omega
  exact ⟨(fun _ h => (by cases h)), [Value.int x], ag_one hx, List.forall_mem_cons.mpr ⟨⟨show (20 : Nat) < 100 from by decide, nf0⟩, List.forall_mem_cons.mpr ⟨⟨show (20 : Nat) < 100 from by decide, nf1⟩, List.forall_mem_cons.mpr ⟨⟨show (24 : Nat) < 100 from by decide, nf2⟩, (fun _ h => (by cases h))⟩⟩⟩, List.forall_mem_cons.mpr ⟨ho, (fun _ h => (by cases h))⟩⟩
set_option maxHeartbeats 4000000 in
theorem vc_Mo_styleTokens_16_0 (x6 : Int) (x9 : Int) (x15 : Int) (x17 : Int) (pos_0 : Int) (tape_0 : Int → Int) (limit_0 : Int) (tokens_0 : Int) (k6 : 0 ≤ x6 ∧ x6 ≤ 1999) (k9 : 9 ≤ x9 ∧ x9 ≤ 2000) (k15 : 9 ≤ x15 ∧ x15 ≤ 2000) (k17 : 4 ≤ x17 ∧ x17 ≤ 4) (f1 : x15 = x9 - x6) (g2 : x9 = pos_0) (f5 : (tokens_0 ≤ x6) ∧ ((x6 ≤ pos_0) ∧ (((x6 + 1) ≤ pos_0) ∨ ((pos_0 = x6) ∧ (((x6 + 1) ≤ limit_0) ∧ ((97 ≤ (tape_0 (x6) % 256)) ∧ ((tape_0 (x6) % 256) ≤ 122))))))) (kz_0_10 : 0 ≤ limit_0 ∧ limit_0 ≤ 2000) (kz_0_11 : 0 ≤ pos_0 ∧ pos_0 ≤ 2000) (kz_0_157 : 0 ≤ tokens_0 ∧ tokens_0 ≤ 2010) : (tokens_0 ≤ x6) ∧ ((x6 ≤ pos_0) ∧ ((x17 = 0) ∨ ((x17 = 4) ∨ ((x6 + 1) ≤ pos_0)))) := by
  first | assumption | omega | grind
set_option maxHeartbeats 4000000 in
theorem vc_Mo_styleTokens_16_1 (x6 : Int) (x9 : Int) (x10 : Int) (x15 : Int) (pos_0 : Int) (gx : Int) (k6 : 0 ≤ x6 ∧ x6 ≤ 1999) (k9 : 9 ≤ x9 ∧ x9 ≤ 2000) (k10 : 0 ≤ x10 ∧ x10 ≤ 4001) (k15 : 9 ≤ x15 ∧ x15 ≤ 2000) (f1 : x15 = x9 - x6) (g2 : x9 = pos_0) (f6 : (-1) * x10 + ((-2) * x6 + 0) ≤ (-4001)) (kz_0_11 : 0 ≤ pos_0 ∧ pos_0 ≤ 2000) (ex2 : gx = 0 + (1 * x10 + 0)) : (-1) * gx + ((-2) * x6 + 0) ≤ (-4001) := by
  first | assumption | omega | grind
def o_Mo_styleTokens_16 : or_T := (363, 18, [(0, (2, 0, 0, [165])), (2, (2, 0, 0, [165])), (6, (0, 0, 1999, [])), (9, (0, 9, 2000, [])), (10, (0, 0, 4001, [])), (11, (0, -1, -1, [])), (15, (0, 9, 2000, [])), (16, (0, 8, 8, [])), (17, (0, 4, 4, []))], [(7, [15, 16], [4]), (2, [15, 9, 6], []), (9, [9, 2], [11]), (20, [9, 2, 11], [50, 1, 1, 1010, 1001, 4, 11, 0, 6, 4, 2, 1, 0, 0, 1, 2, 1, 10, 1, 2, 1, 2, 9, 5, 3, 1, 1, 1, 0, 0, 256]), (20, [2, 9, 11], [50, 1, 0, 10, 4, 7, 0, 3, 2, 0, 10, 1, 1, 1, 2, 1, 2, 0, -1]), (20, [2, 6], [50, 3, 1, 157, 11, 10, 1, 2, 7, 0, 3, 2, 0, 157, 1, 1, 2, 7, 0, 2, 1, 1, 2, 0, 11, 3, 11, 0, 6, 4, 2, 1, 1, 0, 1, 2, 0, 11, 2, 7, 1, 3, 2, 0, 11, 1, 1, 2, 11, 0, 6, 4, 2, 1, 1, 0, 1, 2, 0, 10, 2, 13, 0, 2, 0, 97, 9, 5, 3, 0, 1, 1, 1, 0, 256, 0, 9, 9, 5, 3, 0, 1, 1, 1, 0, 256, 0, 122]), (20, [10, 6], [30, -4001, -1, 0, 0, -2, 0, 0]), (24, [0, 2], [])], [], [(0, 0, 4001, [])], [(20, [2, 6, 17], [50, 2, 0, 157, 11, 2, 7, 0, 3, 2, 0, 157, 1, 1, 2, 7, 0, 2, 1, 1, 2, 0, 11, 3, 6, 1, 2, 1, 2, 0, 0, 3, 6, 1, 2, 1, 2, 0, 4, 0, 6, 4, 2, 1, 1, 0, 1, 2, 0, 11]), (20, [18, 6], [30, -4001, -1, 0, 0, -2, 0, 0]), (24, [0, 2], [])], [(18, 10, 0, 0)], [(15, 9, -1999, 0), (6, 9, -4294967296, 0)])
theorem oo_Mo_styleTokens_16 {kA : Nat → ClassId} : or_ok PRD kA GG o_Mo_styleTokens_16 := by
  refine or_mk fun A ta ws vs hD hth hl => ?_
  intro t0 r0 t2 r2 t6 k6 t9 k9 t10 k10 t11 k11 t15 k15 t16 k16 t17 k17 d0 d1 f0 f1 f2 f3 f4 f5 f6 f7
  replace f0 := shm_21 f0
  replace f1 := shm_14 f1
  replace f2 := shm_116 f2
  replace f3 := shm_541 f3
  replace f4 := shm_542 f4
  replace f5 := shm_1330 f5
  replace f6 := shm_1327 f6
  replace f7 := shm_5 f7
  have q2 : n_v vs 2 = n_v vs 0 := f7.symm
  simp only [q2] at f2 f3 f4 f5
  have cr_0_1 := fdq_39 hD hth r0
  have g2 : v_iv (n_v vs 9) = w_fi ws (n_v vs 0) 11 := congrArg v_iv f2
  have hK_0_1 := elq_7 hD hth cr_0_1
  have kz_0_10 := fdq_43 hD hth r0
  have kz_0_11 := fdq_237 hD hth r0
  have kz_0_157 := fdq_35 hD hth r0
  obtain ⟨x, ex, hx⟩ := iv_ex (ta := ta) (lo := 0) (hi := 4001) (z := 0 + (1 * v_iv (n_v vs 10) + 0)) (by omega) (by omega) (by omega) (by omega)
  have ex2 : v_iv (Value.int x) = 0 + (1 * v_iv (n_v vs 10) + 0) := ex
  have ex3 : 0 ≤ v_iv (Value.int x) ∧ v_iv (Value.int x) ≤ 4001 := tv_rng hx
  have e_0 : n_v (vs ++ [Value.int x]) 0 = n_v vs 0 := n_v_old (by rw [hl]; decide)
  have e_2 : n_v (vs ++ [Value.int x]) 2 = n_v vs 2 := n_v_old (by rw [hl]; decide)
  have e_6 : n_v (vs ++ [Value.int x]) 6 = n_v vs 6 := n_v_old (by rw [hl]; decide)
  have e_17 : n_v (vs ++ [Value.int x]) 17 = n_v vs 17 := n_v_old (by rw [hl]; decide)
  have e_18 : n_v (vs ++ [Value.int x]) 18 = Value.int x := n_v_new hl
  have nf0 : fc_1 PRD (20, [2, 6, 17], [50, 2, 0, 157, 11, 2, 7, 0, 3, 2, 0, 157, 1, 1, 2, 7, 0, 2, 1, 1, 2, 0, 11, 3, 6, 1, 2, 1, 2, 0, 0, 3, 6, 1, 2, 1, 2, 0, 4, 0, 6, 4, 2, 1, 1, 0, 1, 2, 0, 11]) ws (vs ++ [Value.int x]) := by
    refine ⟨nf_inA hl rfl, sgq_1326 ?_⟩
    · show (w_fi ws (n_v (vs ++ [Value.int x]) 2) 157 ≤ v_iv (n_v (vs ++ [Value.int x]) 6)) ∧ ((v_iv (n_v (vs ++ [Value.int x]) 6) ≤ w_fi ws (n_v (vs ++ [Value.int x]) 2) 11) ∧ ((v_iv (n_v (vs ++ [Value.int x]) 17) = 0) ∨ ((v_iv (n_v (vs ++ [Value.int x]) 17) = 4) ∨ ((v_iv (n_v (vs ++ [Value.int x]) 6) + 1) ≤ w_fi ws (n_v (vs ++ [Value.int x]) 2) 11))))
      simp only [e_2, e_6, e_17, q2]
      exact vc_Mo_styleTokens_16_0 (v_iv (n_v vs 6)) (v_iv (n_v vs 9)) (v_iv (n_v vs 15)) (v_iv (n_v vs 17)) (w_fi ws (n_v vs 0) 11) (w_ei ws (w_ar ws (n_v vs 0) 1)) (w_fi ws (n_v vs 0) 10) (w_fi ws (n_v vs 0) 157) k6 k9 k15 k17 f1 g2 f5 kz_0_10 kz_0_11 kz_0_157
  have nf1 : fc_1 PRD (20, [18, 6], [30, -4001, -1, 0, 0, -2, 0, 0]) ws (vs ++ [Value.int x]) := by
    refine ⟨nf_inA hl rfl, sgq_1327 ?_⟩
    · show (-1) * v_iv (n_v (vs ++ [Value.int x]) 18) + ((-2) * v_iv (n_v (vs ++ [Value.int x]) 6) + 0) ≤ (-4001)
      simp only [e_6, e_18]
      exact vc_Mo_styleTokens_16_1 (v_iv (n_v vs 6)) (v_iv (n_v vs 9)) (v_iv (n_v vs 10)) (v_iv (n_v vs 15)) (w_fi ws (n_v vs 0) 11) (v_iv (Value.int x)) k6 k9 k10 k15 f1 g2 f6 kz_0_11 ex2
  have nf2 : fc_1 PRD (24, [0, 2], []) ws (vs ++ [Value.int x]) := by
    refine ⟨nf_inA hl rfl, sgq_5 ?_⟩
    · show n_v (vs ++ [Value.int x]) 0 = n_v (vs ++ [Value.int x]) 2
      first | rfl | simp only [e_0, e_2, q2]
  obtain ⟨x0, e0, _, _⟩ := tv_int t10 rfl
  have e1 : v_iv (n_v vs 10) = x0.toInt := by rw [e0]; rfl
  have ho : sy_ofs (vs ++ [Value.int x]) (18, 10, 0, 0) := by
    refine ⟨x, x0, by rw [List.getElem?_append_right (by rw [hl]; decide), hl]; rfl, ?_, ?_, ?_⟩
    · rw [List.getElem?_append_left (by rw [hl]; decide)]; exact n_v_some (by rw [hl]; decide) e0
    · show x0.toInt + 0 ≤ x.toInt; omega
    · show x.toInt ≤ x0.toInt + 0; omega
  exact ⟨(fun _ h => (by cases h)), [Value.int x], ag_one hx, List.forall_mem_cons.mpr ⟨⟨show (20 : Nat) < 100 from by decide, nf0⟩, List.forall_mem_cons.mpr ⟨⟨show (20 : Nat) < 100 from by decide, nf1⟩, List.forall_mem_cons.mpr ⟨⟨show (24 : Nat) < 100 from by decide, nf2⟩, (fun _ h => (by cases h))⟩⟩⟩, List.forall_mem_cons.mpr ⟨ho, (fun _ h => (by cases h))⟩⟩
set_option maxHeartbeats 4000000 in
theorem vc_Mo_styleTokens_17_0 (x6 : Int) (x9 : Int) (x11 : Int) (x15 : Int) (x17 : Int) (pos_0 : Int) (tape_0 : Int → Int) (limit_0 : Int) (tokens_0 : Int) (k6 : 0 ≤ x6 ∧ x6 ≤ 1999) (k9 : 0 ≤ x9 ∧ x9 ≤ 2000) (k11 : (-1) ≤ x11 ∧ x11 ≤ (-1)) (k15 : 0 ≤ x15 ∧ x15 ≤ 8) (k17 : 1 ≤ x17 ∧ x17 ≤ 1) (f1 : x15 = x9 - x6) (g2 : x9 = pos_0) (f3 : ((x9 + 1) ≤ limit_0) → (x11 = (tape_0 (x9) % 256))) (f4 : (limit_0 ≤ x9) → (x11 = (-1))) (f5 : (tokens_0 ≤ x6) ∧ ((x6 ≤ pos_0) ∧ (((x6 + 1) ≤ pos_0) ∨ ((pos_0 = x6) ∧ (((x6 + 1) ≤ limit_0) ∧ ((97 ≤ (tape_0 (x6) % 256)) ∧ ((tape_0 (x6) % 256) ≤ 122))))))) (kz_0_10 : 0 ≤ limit_0 ∧ limit_0 ≤ 2000) (kz_0_11 : 0 ≤ pos_0 ∧ pos_0 ≤ 2000) (kz_0_157 : 0 ≤ tokens_0 ∧ tokens_0 ≤ 2010) : (tokens_0 ≤ x6) ∧ ((x6 ≤ pos_0) ∧ ((x17 = 0) ∨ ((x17 = 4) ∨ ((x6 + 1) ≤ pos_0)))) := by
  first | assumption | omega | grind
set_option maxHeartbeats 4000000 in
theorem vc_Mo_styleTokens_17_1 (x6 : Int) (x9 : Int) (x10 : Int) (x15 : Int) (pos_0 : Int) (gx : Int) (k6 : 0 ≤ x6 ∧ x6 ≤ 1999) (k9 : 0 ≤ x9 ∧ x9 ≤ 2000) (k10 : 0 ≤ x10 ∧ x10 ≤ 4001) (k15 : 0 ≤ x15 ∧ x15 ≤ 8) (f1 : x15 = x9 - x6) (g2 : x9 = pos_0) (f6 : (-1) * x10 + ((-2) * x6 + 0) ≤ (-4001)) (kz_0_11 : 0 ≤ pos_0 ∧ pos_0 ≤ 2000) (ex2 : gx = 0 + (1 * x10 + 0)) : (-1) * gx + ((-2) * x6 + 0) ≤ (-4001) := by
  first | assumption | omega | grind
def o_Mo_styleTokens_17 : or_T := (363, 18, [(0, (2, 0, 0, [165])), (2, (2, 0, 0, [165])), (6, (0, 0, 1999, [])), (9, (0, 0, 2000, [])), (10, (0, 0, 4001, [])), (11, (0, -1, -1, [])), (15, (0, 0, 8, [])), (16, (0, 8, 8, [])), (17, (0, 1, 1, []))], [(7, [15, 16], [5]), (2, [15, 9, 6], []), (9, [9, 2], [11]), (20, [9, 2, 11], [50, 1, 1, 1010, 1001, 4, 11, 0, 6, 4, 2, 1, 0, 0, 1, 2, 1, 10, 1, 2, 1, 2, 9, 5, 3, 1, 1, 1, 0, 0, 256]), (20, [2, 9, 11], [50, 1, 0, 10, 4, 7, 0, 3, 2, 0, 10, 1, 1, 1, 2, 1, 2, 0, -1]), (20, [2, 6], [50, 3, 1, 157, 11, 10, 1, 2, 7, 0, 3, 2, 0, 157, 1, 1, 2, 7, 0, 2, 1, 1, 2, 0, 11, 3, 11, 0, 6, 4, 2, 1, 1, 0, 1, 2, 0, 11, 2, 7, 1, 3, 2, 0, 11, 1, 1, 2, 11, 0, 6, 4, 2, 1, 1, 0, 1, 2, 0, 10, 2, 13, 0, 2, 0, 97, 9, 5, 3, 0, 1, 1, 1, 0, 256, 0, 9, 9, 5, 3, 0, 1, 1, 1, 0, 256, 0, 122]), (20, [10, 6], [30, -4001, -1, 0, 0, -2, 0, 0]), (24, [0, 2], [])], [], [(0, 0, 4001, [])], [(20, [2, 6, 17], [50, 2, 0, 157, 11, 2, 7, 0, 3, 2, 0, 157, 1, 1, 2, 7, 0, 2, 1, 1, 2, 0, 11, 3, 6, 1, 2, 1, 2, 0, 0, 3, 6, 1, 2, 1, 2, 0, 4, 0, 6, 4, 2, 1, 1, 0, 1, 2, 0, 11]), (20, [18, 6], [30, -4001, -1, 0, 0, -2, 0, 0]), (24, [0, 2], [])], [(18, 10, 0, 0)], [(15, 9, -1999, 0), (6, 9, -4294967296, 0)])
theorem oo_Mo_styleTokens_17 {kA : Nat → ClassId} : or_ok PRD kA GG o_Mo_styleTokens_17 := by
  refine or_mk fun A ta ws vs hD hth hl => ?_
  intro t0 r0 t2 r2 t6 k6 t9 k9 t10 k10 t11 k11 t15 k15 t16 k16 t17 k17 d0 d1 f0 f1 f2 f3 f4 f5 f6 f7
  replace f0 := shm_24 f0
  replace f1 := shm_14 f1
  replace f2 := shm_116 f2
  replace f3 := shm_541 f3
  replace f4 := shm_542 f4
  replace f5 := shm_1330 f5
  replace f6 := shm_1327 f6
  replace f7 := shm_5 f7
  have q2 : n_v vs 2 = n_v vs 0 := f7.symm
  simp only [q2] at f2 f3 f4 f5
  have cr_0_1 := fdq_39 hD hth r0
  have g2 : v_iv (n_v vs 9) = w_fi ws (n_v vs 0) 11 := congrArg v_iv f2
  have hK_0_1 := elq_7 hD hth cr_0_1
  have kz_0_10 := fdq_43 hD hth r0
  have kz_0_11 := fdq_237 hD hth r0
  have kz_0_157 := fdq_35 hD hth r0
  obtain ⟨x, ex, hx⟩ := iv_ex (ta := ta) (lo := 0) (hi := 4001) (z := 0 + (1 * v_iv (n_v vs 10) + 0)) (by omega) (by omega) (by omega) (by omega)
  have ex2 : v_iv (Value.int x) = 0 + (1 * v_iv (n_v vs 10) + 0) := ex
  have ex3 : 0 ≤ v_iv (Value.int x) ∧ v_iv (Value.int x) ≤ 4001 := tv_rng hx
  have e_0 : n_v (vs ++ [Value.int x]) 0 = n_v vs 0 := n_v_old (by rw [hl]; decide)
  have e_2 : n_v (vs ++ [Value.int x]) 2 = n_v vs 2 := n_v_old (by rw [hl]; decide)
  have e_6 : n_v (vs ++ [Value.int x]) 6 = n_v vs 6 := n_v_old (by rw [hl]; decide)
  have e_17 : n_v (vs ++ [Value.int x]) 17 = n_v vs 17 := n_v_old (by rw [hl]; decide)
  have e_18 : n_v (vs ++ [Value.int x]) 18 = Value.int x := n_v_new hl
  have nf0 : fc_1 PRD (20, [2, 6, 17], [50, 2, 0, 157, 11, 2, 7, 0, 3, 2, 0, 157, 1, 1, 2, 7, 0, 2, 1, 1, 2, 0, 11, 3, 6, 1, 2, 1, 2, 0, 0, 3, 6, 1, 2, 1, 2, 0, 4, 0, 6, 4, 2, 1, 1, 0, 1, 2, 0, 11]) ws (vs ++ [Value.int x]) := by
    refine ⟨nf_inA hl rfl, sgq_1326 ?_⟩
    · show (w_fi ws (n_v (vs ++ [Value.int x]) 2) 157 ≤ v_iv (n_v (vs ++ [Value.int x]) 6)) ∧ ((v_iv (n_v (vs ++ [Value.int x]) 6) ≤ w_fi ws (n_v (vs ++ [Value.int x]) 2) 11) ∧ ((v_iv (n_v (vs ++ [Value.int x]) 17) = 0) ∨ ((v_iv (n_v (vs ++ [Value.int x]) 17) = 4) ∨ ((v_iv (n_v (vs ++ [Value.int x]) 6) + 1) ≤ w_fi ws (n_v (vs ++ [Value.int x]) 2) 11))))
      simp only [e_2, e_6, e_17, q2]
      exact vc_Mo_styleTokens_17_0 (v_iv (n_v vs 6)) (v_iv (n_v vs 9)) (v_iv (n_v vs 11)) (v_iv (n_v vs 15)) (v_iv (n_v vs 17)) (w_fi ws (n_v vs 0) 11) (w_ei ws (w_ar ws (n_v vs 0) 1)) (w_fi ws (n_v vs 0) 10) (w_fi ws (n_v vs 0) 157) k6 k9 k11 k15 k17 f1 g2 f3 f4 f5 kz_0_10 kz_0_11 kz_0_157
  have nf1 : fc_1 PRD (20, [18, 6], [30, -4001, -1, 0, 0, -2, 0, 0]) ws (vs ++ [Value.int x]) := by
    refine ⟨nf_inA hl rfl, sgq_1327 ?_⟩
    · show (-1) * v_iv (n_v (vs ++ [Value.int x]) 18) + ((-2) * v_iv (n_v (vs ++ [Value.int x]) 6) + 0) ≤ (-4001)
      simp only [e_6, e_18]
      exact vc_Mo_styleTokens_17_1 (v_iv (n_v vs 6)) (v_iv (n_v vs 9)) (v_iv (n_v vs 10)) (v_iv (n_v vs 15)) (w_fi ws (n_v vs 0) 11) (v_iv (Value.int x)) k6 k9 k10 k15 f1 g2 f6 kz_0_11 ex2
  have nf2 : fc_1 PRD (24, [0, 2], []) ws (vs ++ [Value.int x]) := by
    refine ⟨nf_inA hl rfl, sgq_5 ?_⟩
    · show n_v (vs ++ [Value.int x]) 0 = n_v (vs ++ [Value.int x]) 2
      first | rfl | simp only [e_0, e_2, q2]
  obtain ⟨x0, e0, _, _⟩ := tv_int t10 rfl
  have e1 : v_iv (n_v vs 10) = x0.toInt := by rw [e0]; rfl
  have ho : sy_ofs (vs ++ [Value.int x]) (18, 10, 0, 0) := by
    refine ⟨x, x0, by rw [List.getElem?_append_right (by rw [hl]; decide), hl]; rfl, ?_, ?_, ?_⟩
    · rw [List.getElem?_append_left (by rw [hl]; decide)]; exact n_v_some (by rw [hl]; decide) e0
    · show x0.toInt + 0 ≤ x.toInt; omega
    · show x.toInt ≤ x0.toInt + 0; omega
  exact ⟨(fun _ h => (by cases h)), [Value.int x], ag_one hx, List.forall_mem_cons.mpr ⟨⟨show (20 : Nat) < 100 from by decide, nf0⟩, List.forall_mem_cons.mpr ⟨⟨show (20 : Nat) < 100 from by decide, nf1⟩, List.forall_mem_cons.mpr ⟨⟨show (24 : Nat) < 100 from by decide, nf2⟩, (fun _ h => (by cases h))⟩⟩⟩, List.forall_mem_cons.mpr ⟨ho, (fun _ h => (by cases h))⟩⟩
set_option maxHeartbeats 4000000 in
theorem vc_Mo_styleTokens_18_0 (x6 : Int) (x9 : Int) (x15 : Int) (x17 : Int) (pos_0 : Int) (tape_0 : Int → Int) (limit_0 : Int) (tokens_0 : Int) (k6 : 0 ≤ x6 ∧ x6 ≤ 1999) (k9 : 9 ≤ x9 ∧ x9 ≤ 1999) (k15 : 9 ≤ x15 ∧ x15 ≤ 1999) (k17 : 4 ≤ x17 ∧ x17 ≤ 4) (f1 : x15 = x9 - x6) (g2 : x9 = pos_0) (f5 : (tokens_0 ≤ x6) ∧ ((x6 ≤ pos_0) ∧ (((x6 + 1) ≤ pos_0) ∨ ((pos_0 = x6) ∧ (((x6 + 1) ≤ limit_0) ∧ ((97 ≤ (tape_0 (x6) % 256)) ∧ ((tape_0 (x6) % 256) ≤ 122))))))) (kz_0_10 : 0 ≤ limit_0 ∧ limit_0 ≤ 2000) (kz_0_11 : 0 ≤ pos_0 ∧ pos_0 ≤ 2000) (kz_0_157 : 0 ≤ tokens_0 ∧ tokens_0 ≤ 2010) : (tokens_0 ≤ x6) ∧ ((x6 ≤ pos_0) ∧ ((x17 = 0) ∨ ((x17 = 4) ∨ ((x6 + 1) ≤ pos_0)))) := by
  first | assumption | omega | grind
set_option maxHeartbeats 4000000 in
theorem vc_Mo_styleTokens_18_1 (x6 : Int) (x9 : Int) (x10 : Int) (x15 : Int) (pos_0 : Int) (gx : Int) (k6 : 0 ≤ x6 ∧ x6 ≤ 1999) (k9 : 9 ≤ x9 ∧ x9 ≤ 1999) (k10 : 0 ≤ x10 ∧ x10 ≤ 4001) (k15 : 9 ≤ x15 ∧ x15 ≤ 1999) (f1 : x15 = x9 - x6) (g2 : x9 = pos_0) (f6 : (-1) * x10 + ((-2) * x6 + 0) ≤ (-4001)) (kz_0_11 : 0 ≤ pos_0 ∧ pos_0 ≤ 2000) (ex2 : gx = 0 + (1 * x10 + 0)) : (-1) * gx + ((-2) * x6 + 0) ≤ (-4001) := by
  first | assumption | omega | grind
def o_Mo_styleTokens_18 : or_T := (363, 18, [(0, (2, 0, 0, [165])), (2, (2, 0, 0, [165])), (6, (0, 0, 1999, [])), (9, (0, 9, 1999, [])), (10, (0, 0, 4001, [])), (11, (0, 0, 96, [])), (15, (0, 9, 1999, [])), (16, (0, 8, 8, [])), (17, (0, 4, 4, []))], [(7, [15, 16], [4]), (2, [15, 9, 6], []), (9, [9, 2], [11]), (20, [9, 2, 11], [50, 1, 1, 1010, 1001, 4, 11, 0, 6, 4, 2, 1, 0, 0, 1, 2, 1, 10, 1, 2, 1, 2, 9, 5, 3, 1, 1, 1, 0, 0, 256]), (20, [2, 9, 11], [50, 1, 0, 10, 4, 7, 0, 3, 2, 0, 10, 1, 1, 1, 2, 1, 2, 0, -1]), (20, [2, 6], [50, 3, 1, 157, 11, 10, 1, 2, 7, 0, 3, 2, 0, 157, 1, 1, 2, 7, 0, 2, 1, 1, 2, 0, 11, 3, 11, 0, 6, 4, 2, 1, 1, 0, 1, 2, 0, 11, 2, 7, 1, 3, 2, 0, 11, 1, 1, 2, 11, 0, 6, 4, 2, 1, 1, 0, 1, 2, 0, 10, 2, 13, 0, 2, 0, 97, 9, 5, 3, 0, 1, 1, 1, 0, 256, 0, 9, 9, 5, 3, 0, 1, 1, 1, 0, 256, 0, 122]), (20, [10, 6], [30, -4001, -1, 0, 0, -2, 0, 0]), (24, [0, 2], [])], [], [(0, 0, 4001, [])], [(20, [2, 6, 17], [50, 2, 0, 157, 11, 2, 7, 0, 3, 2, 0, 157, 1, 1, 2, 7, 0, 2, 1, 1, 2, 0, 11, 3, 6, 1, 2, 1, 2, 0, 0, 3, 6, 1, 2, 1, 2, 0, 4, 0, 6, 4, 2, 1, 1, 0, 1, 2, 0, 11]), (20, [18, 6], [30, -4001, -1, 0, 0, -2, 0, 0]), (24, [0, 2], [])], [(18, 10, 0, 0)], [(15, 9, -1999, 0), (6, 9, -4294967296, 0)])
theorem oo_Mo_styleTokens_18 {kA : Nat → ClassId} : or_ok PRD kA GG o_Mo_styleTokens_18 := by
  refine or_mk fun A ta ws vs hD hth hl => ?_
  intro t0 r0 t2 r2 t6 k6 t9 k9 t10 k10 t11 k11 t15 k15 t16 k16 t17 k17 d0 d1 f0 f1 f2 f3 f4 f5 f6 f7
  replace f0 := shm_21 f0
  replace f1 := shm_14 f1
  replace f2 := shm_116 f2
  replace f3 := shm_541 f3
  replace f4 := shm_542 f4
  replace f5 := shm_1330 f5
  replace f6 := shm_1327 f6
  replace f7 := shm_5 f7
  have q2 : n_v vs 2 = n_v vs 0 := f7.symm
  simp only [q2] at f2 f3 f4 f5
  have cr_0_1 := fdq_39 hD hth r0
  have g2 : v_iv (n_v vs 9) = w_fi ws (n_v vs 0) 11 := congrArg v_iv f2
  have hK_0_1 := elq_7 hD hth cr_0_1
  have kz_0_10 := fdq_43 hD hth r0
  have kz_0_11 := fdq_237 hD hth r0
  have kz_0_157 := fdq_35 hD hth r0
  obtain ⟨x, ex, hx⟩ := iv_ex (ta := ta) (lo := 0) (hi := 4001) (z := 0 + (1 * v_iv (n_v vs 10) + 0)) (by omega) (by omega) (by omega) (by omega)
  have ex2 : v_iv (Value.int x) = 0 + (1 * v_iv (n_v vs 10) + 0) := ex
  have ex3 : 0 ≤ v_iv (Value.int x) ∧ v_iv (Value.int x) ≤ 4001 := tv_rng hx
  have e_0 : n_v (vs ++ [Value.int x]) 0 = n_v vs 0 := n_v_old (by rw [hl]; decide)
  have e_2 : n_v (vs ++ [Value.int x]) 2 = n_v vs 2 := n_v_old (by rw [hl]; decide)
  have e_6 : n_v (vs ++ [Value.int x]) 6 = n_v vs 6 := n_v_old (by rw [hl]; decide)
  have e_17 : n_v (vs ++ [Value.int x]) 17 = n_v vs 17 := n_v_old (by rw [hl]; decide)
  have e_18 : n_v (vs ++ [Value.int x]) 18 = Value.int x := n_v_new hl
  have nf0 : fc_1 PRD (20, [2, 6, 17], [50, 2, 0, 157, 11, 2, 7, 0, 3, 2, 0, 157, 1, 1, 2, 7, 0, 2, 1, 1, 2, 0, 11, 3, 6, 1, 2, 1, 2, 0, 0, 3, 6, 1, 2, 1, 2, 0, 4, 0, 6, 4, 2, 1, 1, 0, 1, 2, 0, 11]) ws (vs ++ [Value.int x]) := by
    refine ⟨nf_inA hl rfl, sgq_1326 ?_⟩
    · show (w_fi ws (n_v (vs ++ [Value.int x]) 2) 157 ≤ v_iv (n_v (vs ++ [Value.int x]) 6)) ∧ ((v_iv (n_v (vs ++ [Value.int x]) 6) ≤ w_fi ws (n_v (vs ++ [Value.int x]) 2) 11) ∧ ((v_iv (n_v (vs ++ [Value.int x]) 17) = 0) ∨ ((v_iv (n_v (vs ++ [Value.int x]) 17) = 4) ∨ ((v_iv (n_v (vs ++ [Value.int x]) 6) + 1) ≤ w_fi ws (n_v (vs ++ [Value.int x]) 2) 11))))
      simp only [e_2, e_6, e_17, q2]
      exact vc_Mo_styleTokens_18_0 (v_iv (n_v vs 6)) (v_iv (n_v vs 9)) (v_iv (n_v vs 15)) (v_iv (n_v vs 17)) (w_fi ws (n_v vs 0) 11) (w_ei ws (w_ar ws (n_v vs 0) 1)) (w_fi ws (n_v vs 0) 10) (w_fi ws (n_v vs 0) 157) k6 k9 k15 k17 f1 g2 f5 kz_0_10 kz_0_11 kz_0_157
  have nf1 : fc_1 PRD (20, [18, 6], [30, -4001, -1, 0, 0, -2, 0, 0]) ws (vs ++ [Value.int x]) := by
    refine ⟨nf_inA hl rfl, sgq_1327 ?_⟩
    · show (-1) * v_iv (n_v (vs ++ [Value.int x]) 18) + ((-2) * v_iv (n_v (vs ++ [Value.int x]) 6) + 0) ≤ (-4001)
      simp only [e_6, e_18]
      exact vc_Mo_styleTokens_18_1 (v_iv (n_v vs 6)) (v_iv (n_v vs 9)) (v_iv (n_v vs 10)) (v_iv (n_v vs 15)) (w_fi ws (n_v vs 0) 11) (v_iv (Value.int x)) k6 k9 k10 k15 f1 g2 f6 kz_0_11 ex2
  have nf2 : fc_1 PRD (24, [0, 2], []) ws (vs ++ [Value.int x]) := by
    refine ⟨nf_inA hl rfl, sgq_5 ?_⟩
    · show n_v (vs ++ [Value.int x]) 0 = n_v (vs ++ [Value.int x]) 2
      first | rfl | simp only [e_0, e_2, q2]
  obtain ⟨x0, e0, _, _⟩ := tv_int t10 rfl
  have e1 : v_iv (n_v vs 10) = x0.toInt := by rw [e0]; rfl
  have ho : sy_ofs (vs ++ [Value.int x]) (18, 10, 0, 0) := by
    refine ⟨x, x0, by rw [List.getElem?_append_right (by rw [hl]; decide), hl]; rfl, ?_, ?_, ?_⟩
    · rw [List.getElem?_append_left (by rw [hl]; decide)]; exact n_v_some (by rw [hl]; decide) e0
    · show x0.toInt + 0 ≤ x.toInt; omega
    · show x.toInt ≤ x0.toInt + 0; omega
  exact ⟨(fun _ h => (by cases h)), [Value.int x], ag_one hx, List.forall_mem_cons.mpr ⟨⟨show (20 : Nat) < 100 from by decide, nf0⟩, List.forall_mem_cons.mpr ⟨⟨show (20 : Nat) < 100 from by decide, nf1⟩, List.forall_mem_cons.mpr ⟨⟨show (24 : Nat) < 100 from by decide, nf2⟩, (fun _ h => (by cases h))⟩⟩⟩, List.forall_mem_cons.mpr ⟨ho, (fun _ h => (by cases h))⟩⟩
set_option maxHeartbeats 4000000 in
theorem vc_Mo_styleTokens_19_0 (x6 : Int) (x9 : Int) (x11 : Int) (x17 : Int) (pos_0 : Int) (tape_0 : Int → Int) (limit_0 : Int) (tokens_0 : Int) (k6 : 0 ≤ x6 ∧ x6 ≤ 1999) (k9 : 0 ≤ x9 ∧ x9 ≤ 1999) (k11 : 0 ≤ x11 ∧ x11 ≤ 96) (k17 : 1 ≤ x17 ∧ x17 ≤ 1) (d1 : x9 + (-4294967296) ≤ x6 ∧ x6 ≤ x9 + 0) (g2 : x9 = pos_0) (f3 : ((x9 + 1) ≤ limit_0) → (x11 = (tape_0 (x9) % 256))) (f5 : (tokens_0 ≤ x6) ∧ ((x6 ≤ pos_0) ∧ (((x6 + 1) ≤ pos_0) ∨ ((pos_0 = x6) ∧ (((x6 + 1) ≤ limit_0) ∧ ((97 ≤ (tape_0 (x6) % 256)) ∧ ((tape_0 (x6) % 256) ≤ 122))))))) (kz_0_10 : 0 ≤ limit_0 ∧ limit_0 ≤ 2000) (kz_0_11 : 0 ≤ pos_0 ∧ pos_0 ≤ 2000) (kz_0_157 : 0 ≤ tokens_0 ∧ tokens_0 ≤ 2010) : (tokens_0 ≤ x6) ∧ ((x6 ≤ pos_0) ∧ ((x17 = 0) ∨ ((x17 = 4) ∨ ((x6 + 1) ≤ pos_0)))) := by
  first | assumption | omega | grind
set_option maxHeartbeats 4000000 in
theorem vc_Mo_styleTokens_19_1 (x6 : Int) (x9 : Int) (x10 : Int) (x15 : Int) (pos_0 : Int) (gx : Int) (k6 : 0 ≤ x6 ∧ x6 ≤ 1999) (k9 : 0 ≤ x9 ∧ x9 ≤ 1999) (k10 : 0 ≤ x10 ∧ x10 ≤ 4001) (k15 : 0 ≤ x15 ∧ x15 ≤ 8) (f1 : x15 = x9 - x6) (g2 : x9 = pos_0) (f6 : (-1) * x10 + ((-2) * x6 + 0) ≤ (-4001)) (kz_0_11 : 0 ≤ pos_0 ∧ pos_0 ≤ 2000) (ex2 : gx = 0 + (1 * x10 + 0)) : (-1) * gx + ((-2) * x6 + 0) ≤ (-4001) := by
  first | assumption | omega | grind
def o_Mo_styleTokens_19 : or_T := (363, 18, [(0, (2, 0, 0, [165])), (2, (2, 0, 0, [165])), (6, (0, 0, 1999, [])), (9, (0, 0, 1999, [])), (10, (0, 0, 4001, [])), (11, (0, 0, 96, [])), (15, (0, 0, 8, [])), (16, (0, 8, 8, [])), (17, (0, 1, 1, []))], [(7, [15, 16], [5]), (2, [15, 9, 6], []), (9, [9, 2], [11]), (20, [9, 2, 11], [50, 1, 1, 1010, 1001, 4, 11, 0, 6, 4, 2, 1, 0, 0, 1, 2, 1, 10, 1, 2, 1, 2, 9, 5, 3, 1, 1, 1, 0, 0, 256]), (20, [2, 9, 11], [50, 1, 0, 10, 4, 7, 0, 3, 2, 0, 10, 1, 1, 1, 2, 1, 2, 0, -1]), (20, [2, 6], [50, 3, 1, 157, 11, 10, 1, 2, 7, 0, 3, 2, 0, 157, 1, 1, 2, 7, 0, 2, 1, 1, 2, 0, 11, 3, 11, 0, 6, 4, 2, 1, 1, 0, 1, 2, 0, 11, 2, 7, 1, 3, 2, 0, 11, 1, 1, 2, 11, 0, 6, 4, 2, 1, 1, 0, 1, 2, 0, 10, 2, 13, 0, 2, 0, 97, 9, 5, 3, 0, 1, 1, 1, 0, 256, 0, 9, 9, 5, 3, 0, 1, 1, 1, 0, 256, 0, 122]), (20, [10, 6], [30, -4001, -1, 0, 0, -2, 0, 0]), (24, [0, 2], [])], [], [(0, 0, 4001, [])], [(20, [2, 6, 17], [50, 2, 0, 157, 11, 2, 7, 0, 3, 2, 0, 157, 1, 1, 2, 7, 0, 2, 1, 1, 2, 0, 11, 3, 6, 1, 2, 1, 2, 0, 0, 3, 6, 1, 2, 1, 2, 0, 4, 0, 6, 4, 2, 1, 1, 0, 1, 2, 0, 11]), (20, [18, 6], [30, -4001, -1, 0, 0, -2, 0, 0]), (24, [0, 2], [])], [(18, 10, 0, 0)], [(15, 9, -1999, 0), (6, 9, -4294967296, 0)])
theorem oo_Mo_styleTokens_19 {kA : Nat → ClassId} : or_ok PRD kA GG o_Mo_styleTokens_19 := by
  refine or_mk fun A ta ws vs hD hth hl => ?_
  intro t0 r0 t2 r2 t6 k6 t9 k9 t10 k10 t11 k11 t15 k15 t16 k16 t17 k17 d0 d1 f0 f1 f2 f3 f4 f5 f6 f7
  replace f0 := shm_24 f0
  replace f1 := shm_14 f1
  replace f2 := shm_116 f2
  replace f3 := shm_541 f3
  replace f4 := shm_542 f4
  replace f5 := shm_1330 f5
  replace f6 := shm_1327 f6
  replace f7 := shm_5 f7
  have q2 : n_v vs 2 = n_v vs 0 := f7.symm
  simp only [q2] at f2 f3 f4 f5
  have cr_0_1 := fdq_39 hD hth r0
  have g2 : v_iv (n_v vs 9) = w_fi ws (n_v vs 0) 11 := congrArg v_iv f2
  have hK_0_1 := elq_7 hD hth cr_0_1
  have kz_0_10 := fdq_43 hD hth r0
  have kz_0_11 := fdq_237 hD hth r0
  have kz_0_157 := fdq_35 hD hth r0
  obtain ⟨x, ex, hx⟩ := iv_ex (ta := ta) (lo := 0) (hi := 4001) (z := 0 + (1 * v_iv (n_v vs 10) + 0)) (by omega) (by omega) (by omega) (by omega)
  have ex2 : v_iv (Value.int x) = 0 + (1 * v_iv (n_v vs 10) + 0) := ex
  have ex3 : 0 ≤ v_iv (Value.int x) ∧ v_iv (Value.int x) ≤ 4001 := tv_rng hx
  have e_0 : n_v (vs ++ [Value.int x]) 0 = n_v vs 0 := n_v_old (by rw [hl]; decide)
  have e_2 : n_v (vs ++ [Value.int x]) 2 = n_v vs 2 := n_v_old (by rw [hl]; decide)
  have e_6 : n_v (vs ++ [Value.int x]) 6 = n_v vs 6 := n_v_old (by rw [hl]; decide)
  have e_17 : n_v (vs ++ [Value.int x]) 17 = n_v vs 17 := n_v_old (by rw [hl]; decide)
  have e_18 : n_v (vs ++ [Value.int x]) 18 = Value.int x := n_v_new hl
  have nf0 : fc_1 PRD (20, [2, 6, 17], [50, 2, 0, 157, 11, 2, 7, 0, 3, 2, 0, 157, 1, 1, 2, 7, 0, 2, 1, 1, 2, 0, 11, 3, 6, 1, 2, 1, 2, 0, 0, 3, 6, 1, 2, 1, 2, 0, 4, 0, 6, 4, 2, 1, 1, 0, 1, 2, 0, 11]) ws (vs ++ [Value.int x]) := by
    refine ⟨nf_inA hl rfl, sgq_1326 ?_⟩
    · show (w_fi ws (n_v (vs ++ [Value.int x]) 2) 157 ≤ v_iv (n_v (vs ++ [Value.int x]) 6)) ∧ ((v_iv (n_v (vs ++ [Value.int x]) 6) ≤ w_fi ws (n_v (vs ++ [Value.int x]) 2) 11) ∧ ((v_iv (n_v (vs ++ [Value.int x]) 17) = 0) ∨ ((v_iv (n_v (vs ++ [Value.int x]) 17) = 4) ∨ ((v_iv (n_v (vs ++ [Value.int x]) 6) + 1) ≤ w_fi ws (n_v (vs ++ [Value.int x]) 2) 11))))
      simp only [e_2, e_6, e_17, q2]
      exact vc_Mo_styleTokens_19_0 (v_iv (n_v vs 6)) (v_iv (n_v vs 9)) (v_iv (n_v vs 11)) (v_iv (n_v vs 17)) (w_fi ws (n_v vs 0) 11) (w_ei ws (w_ar ws (n_v vs 0) 1)) (w_fi ws (n_v vs 0) 10) (w_fi ws (n_v vs 0) 157) k6 k9 k11 k17 d1 g2 f3 f5 kz_0_10 kz_0_11 kz_0_157
  have nf1 : fc_1 PRD (20, [18, 6], [30, -4001, -1, 0, 0, -2, 0, 0]) ws (vs ++ [Value.int x]) := by
    refine ⟨nf_inA hl rfl, sgq_1327 ?_⟩
    · show (-1) * v_iv (n_v (vs ++ [Value.int x]) 18) + ((-2) * v_iv (n_v (vs ++ [Value.int x]) 6) + 0) ≤ (-4001)
      simp only [e_6, e_18]
      exact vc_Mo_styleTokens_19_1 (v_iv (n_v vs 6)) (v_iv (n_v vs 9)) (v_iv (n_v vs 10)) (v_iv (n_v vs 15)) (w_fi ws (n_v vs 0) 11) (v_iv (Value.int x)) k6 k9 k10 k15 f1 g2 f6 kz_0_11 ex2
  have nf2 : fc_1 PRD (24, [0, 2], []) ws (vs ++ [Value.int x]) := by
    refine ⟨nf_inA hl rfl, sgq_5 ?_⟩
    · show n_v (vs ++ [Value.int x]) 0 = n_v (vs ++ [Value.int x]) 2
      first | rfl | simp only [e_0, e_2, q2]
  obtain ⟨x0, e0, _, _⟩ := tv_int t10 rfl
  have e1 : v_iv (n_v vs 10) = x0.toInt := by rw [e0]; rfl
  have ho : sy_ofs (vs ++ [Value.int x]) (18, 10, 0, 0) := by
    refine ⟨x, x0, by rw [List.getElem?_append_right (by rw [hl]; decide), hl]; rfl, ?_, ?_, ?_⟩
    · rw [List.getElem?_append_left (by rw [hl]; decide)]; exact n_v_some (by rw [hl]; decide) e0
    · show x0.toInt + 0 ≤ x.toInt; omega
    · show x.toInt ≤ x0.toInt + 0; omega
  exact ⟨(fun _ h => (by cases h)), [Value.int x], ag_one hx, List.forall_mem_cons.mpr ⟨⟨show (20 : Nat) < 100 from by decide, nf0⟩, List.forall_mem_cons.mpr ⟨⟨show (20 : Nat) < 100 from by decide, nf1⟩, List.forall_mem_cons.mpr ⟨⟨show (24 : Nat) < 100 from by decide, nf2⟩, (fun _ h => (by cases h))⟩⟩⟩, List.forall_mem_cons.mpr ⟨ho, (fun _ h => (by cases h))⟩⟩
set_option maxHeartbeats 4000000 in
theorem vc_Mo_styleTokens_20_0 (x6 : Int) (x9 : Int) (x15 : Int) (x17 : Int) (pos_0 : Int) (tape_0 : Int → Int) (limit_0 : Int) (tokens_0 : Int) (k6 : 0 ≤ x6 ∧ x6 ≤ 1999) (k9 : 9 ≤ x9 ∧ x9 ≤ 1999) (k15 : 9 ≤ x15 ∧ x15 ≤ 1999) (k17 : 4 ≤ x17 ∧ x17 ≤ 4) (f1 : x15 = x9 - x6) (g2 : x9 = pos_0) (f5 : (tokens_0 ≤ x6) ∧ ((x6 ≤ pos_0) ∧ (((x6 + 1) ≤ pos_0) ∨ ((pos_0 = x6) ∧ (((x6 + 1) ≤ limit_0) ∧ ((97 ≤ (tape_0 (x6) % 256)) ∧ ((tape_0 (x6) % 256) ≤ 122))))))) (kz_0_10 : 0 ≤ limit_0 ∧ limit_0 ≤ 2000) (kz_0_11 : 0 ≤ pos_0 ∧ pos_0 ≤ 2000) (kz_0_157 : 0 ≤ tokens_0 ∧ tokens_0 ≤ 2010) : (tokens_0 ≤ x6) ∧ ((x6 ≤ pos_0) ∧ ((x17 = 0) ∨ ((x17 = 4) ∨ ((x6 + 1) ≤ pos_0)))) := by
  first | assumption | omega | grind
set_option maxHeartbeats 4000000 in
theorem vc_Mo_styleTokens_20_1 (x6 : Int) (x9 : Int) (x10 : Int) (x15 : Int) (pos_0 : Int) (gx : Int) (k6 : 0 ≤ x6 ∧ x6 ≤ 1999) (k9 : 9 ≤ x9 ∧ x9 ≤ 1999) (k10 : 0 ≤ x10 ∧ x10 ≤ 4001) (k15 : 9 ≤ x15 ∧ x15 ≤ 1999) (f1 : x15 = x9 - x6) (g2 : x9 = pos_0) (f6 : (-1) * x10 + ((-2) * x6 + 0) ≤ (-4001)) (kz_0_11 : 0 ≤ pos_0 ∧ pos_0 ≤ 2000) (ex2 : gx = 0 + (1 * x10 + 0)) : (-1) * gx + ((-2) * x6 + 0) ≤ (-4001) := by
  first | assumption | omega | grind
def o_Mo_styleTokens_20 : or_T := (363, 18, [(0, (2, 0, 0, [165])), (2, (2, 0, 0, [165])), (6, (0, 0, 1999, [])), (9, (0, 9, 1999, [])), (10, (0, 0, 4001, [])), (11, (0, 123, 255, [])), (15, (0, 9, 1999, [])), (16, (0, 8, 8, [])), (17, (0, 4, 4, []))], [(7, [15, 16], [4]), (2, [15, 9, 6], []), (9, [9, 2], [11]), (20, [9, 2, 11], [50, 1, 1, 1010, 1001, 4, 11, 0, 6, 4, 2, 1, 0, 0, 1, 2, 1, 10, 1, 2, 1, 2, 9, 5, 3, 1, 1, 1, 0, 0, 256]), (20, [2, 9, 11], [50, 1, 0, 10, 4, 7, 0, 3, 2, 0, 10, 1, 1, 1, 2, 1, 2, 0, -1]), (20, [2, 6], [50, 3, 1, 157, 11, 10, 1, 2, 7, 0, 3, 2, 0, 157, 1, 1, 2, 7, 0, 2, 1, 1, 2, 0, 11, 3, 11, 0, 6, 4, 2, 1, 1, 0, 1, 2, 0, 11, 2, 7, 1, 3, 2, 0, 11, 1, 1, 2, 11, 0, 6, 4, 2, 1, 1, 0, 1, 2, 0, 10, 2, 13, 0, 2, 0, 97, 9, 5, 3, 0, 1, 1, 1, 0, 256, 0, 9, 9, 5, 3, 0, 1, 1, 1, 0, 256, 0, 122]), (20, [10, 6], [30, -4001, -1, 0, 0, -2, 0, 0]), (24, [0, 2], [])], [], [(0, 0, 4001, [])], [(20, [2, 6, 17], [50, 2, 0, 157, 11, 2, 7, 0, 3, 2, 0, 157, 1, 1, 2, 7, 0, 2, 1, 1, 2, 0, 11, 3, 6, 1, 2, 1, 2, 0, 0, 3, 6, 1, 2, 1, 2, 0, 4, 0, 6, 4, 2, 1, 1, 0, 1, 2, 0, 11]), (20, [18, 6], [30, -4001, -1, 0, 0, -2, 0, 0]), (24, [0, 2], [])], [(18, 10, 0, 0)], [(15, 9, -1999, 0), (6, 9, -4294967296, 0)])
theorem oo_Mo_styleTokens_20 {kA : Nat → ClassId} : or_ok PRD kA GG o_Mo_styleTokens_20 := by
  refine or_mk fun A ta ws vs hD hth hl => ?_
  intro t0 r0 t2 r2 t6 k6 t9 k9 t10 k10 t11 k11 t15 k15 t16 k16 t17 k17 d0 d1 f0 f1 f2 f3 f4 f5 f6 f7
  replace f0 := shm_21 f0
  replace f1 := shm_14 f1
  replace f2 := shm_116 f2
  replace f3 := shm_541 f3
  replace f4 := shm_542 f4
  replace f5 := shm_1330 f5
  replace f6 := shm_1327 f6
  replace f7 := shm_5 f7
  have q2 : n_v vs 2 = n_v vs 0 := f7.symm
  simp only [q2] at f2 f3 f4 f5
  have cr_0_1 := fdq_39 hD hth r0
  have g2 : v_iv (n_v vs 9) = w_fi ws (n_v vs 0) 11 := congrArg v_iv f2
  have hK_0_1 := elq_7 hD hth cr_0_1
  have kz_0_10 := fdq_43 hD hth r0
  have kz_0_11 := fdq_237 hD hth r0
  have kz_0_157 := fdq_35 hD hth r0
  obtain ⟨x, ex, hx⟩ := iv_ex (ta := ta) (lo := 0) (hi := 4001) (z := 0 + (1 * v_iv (n_v vs 10) + 0)) (by omega) (by omega) (by omega) (by omega)
  have ex2 : v_iv (Value.int x) = 0 + (1 * v_iv (n_v vs 10) + 0) := ex
  have ex3 : 0 ≤ v_iv (Value.int x) ∧ v_iv (Value.int x) ≤ 4001 := tv_rng hx
  have e_0 : n_v (vs ++ [Value.int x]) 0 = n_v vs 0 := n_v_old (by rw [hl]; decide)
  have e_2 : n_v (vs ++ [Value.int x]) 2 = n_v vs 2 := n_v_old (by rw [hl]; decide)
  have e_6 : n_v (vs ++ [Value.int x]) 6 = n_v vs 6 := n_v_old (by rw [hl]; decide)
  have e_17 : n_v (vs ++ [Value.int x]) 17 = n_v vs 17 := n_v_old (by rw [hl]; decide)
  have e_18 : n_v (vs ++ [Value.int x]) 18 = Value.int x := n_v_new hl
  have nf0 : fc_1 PRD (20, [2, 6, 17], [50, 2, 0, 157, 11, 2, 7, 0, 3, 2, 0, 157, 1, 1, 2, 7, 0, 2, 1, 1, 2, 0, 11, 3, 6, 1, 2, 1, 2, 0, 0, 3, 6, 1, 2, 1, 2, 0, 4, 0, 6, 4, 2, 1, 1, 0, 1, 2, 0, 11]) ws (vs ++ [Value.int x]) := by
    refine ⟨nf_inA hl rfl, sgq_1326 ?_⟩
    · show (w_fi ws (n_v (vs ++ [Value.int x]) 2) 157 ≤ v_iv (n_v (vs ++ [Value.int x]) 6)) ∧ ((v_iv (n_v (vs ++ [Value.int x]) 6) ≤ w_fi ws (n_v (vs ++ [Value.int x]) 2) 11) ∧ ((v_iv (n_v (vs ++ [Value.int x]) 17) = 0) ∨ ((v_iv (n_v (vs ++ [Value.int x]) 17) = 4) ∨ ((v_iv (n_v (vs ++ [Value.int x]) 6) + 1) ≤ w_fi ws (n_v (vs ++ [Value.int x]) 2) 11))))
      simp only [e_2, e_6, e_17, q2]
      exact vc_Mo_styleTokens_20_0 (v_iv (n_v vs 6)) (v_iv (n_v vs 9)) (v_iv (n_v vs 15)) (v_iv (n_v vs 17)) (w_fi ws (n_v vs 0) 11) (w_ei ws (w_ar ws (n_v vs 0) 1)) (w_fi ws (n_v vs 0) 10) (w_fi ws (n_v vs 0) 157) k6 k9 k15 k17 f1 g2 f5 kz_0_10 kz_0_11 kz_0_157
  have nf1 : fc_1 PRD (20, [18, 6], [30, -4001, -1, 0, 0, -2, 0, 0]) ws (vs ++ [Value.int x]) := by
    refine ⟨nf_inA hl rfl, sgq_1327 ?_⟩
    · show (-1) * v_iv (n_v (vs ++ [Value.int x]) 18) + ((-2) * v_iv (n_v (vs ++ [Value.int x]) 6) + 0) ≤ (-4001)
      simp only [e_6, e_18]
      exact vc_Mo_styleTokens_20_1 (v_iv (n_v vs 6)) (v_iv (n_v vs 9)) (v_iv (n_v vs 10)) (v_iv (n_v vs 15)) (w_fi ws (n_v vs 0) 11) (v_iv (Value.int x)) k6 k9 k10 k15 f1 g2 f6 kz_0_11 ex2
  have nf2 : fc_1 PRD (24, [0, 2], []) ws (vs ++ [Value.int x]) := by
    refine ⟨nf_inA hl rfl, sgq_5 ?_⟩
    · show n_v (vs ++ [Value.int x]) 0 = n_v (vs ++ [Value.int x]) 2
      first | rfl | simp only [e_0, e_2, q2]
  obtain ⟨x0, e0, _, _⟩ := tv_int t10 rfl
  have e1 : v_iv (n_v vs 10) = x0.toInt := by rw [e0]; rfl
  have ho : sy_ofs (vs ++ [Value.int x]) (18, 10, 0, 0) := by
    refine ⟨x, x0, by rw [List.getElem?_append_right (by rw [hl]; decide), hl]; rfl, ?_, ?_, ?_⟩
    · rw [List.getElem?_append_left (by rw [hl]; decide)]; exact n_v_some (by rw [hl]; decide) e0
    · show x0.toInt + 0 ≤ x.toInt; omega
    · show x.toInt ≤ x0.toInt + 0; omega
  exact ⟨(fun _ h => (by cases h)), [Value.int x], ag_one hx, List.forall_mem_cons.mpr ⟨⟨show (20 : Nat) < 100 from by decide, nf0⟩, List.forall_mem_cons.mpr ⟨⟨show (20 : Nat) < 100 from by decide, nf1⟩, List.forall_mem_cons.mpr ⟨⟨show (24 : Nat) < 100 from by decide, nf2⟩, (fun _ h => (by cases h))⟩⟩⟩, List.forall_mem_cons.mpr ⟨ho, (fun _ h => (by cases h))⟩⟩
set_option maxHeartbeats 4000000 in
theorem vc_Mo_styleTokens_21_0 (x6 : Int) (x9 : Int) (x11 : Int) (x17 : Int) (pos_0 : Int) (tape_0 : Int → Int) (limit_0 : Int) (tokens_0 : Int) (k6 : 0 ≤ x6 ∧ x6 ≤ 1999) (k9 : 0 ≤ x9 ∧ x9 ≤ 1999) (k11 : 123 ≤ x11 ∧ x11 ≤ 255) (k17 : 1 ≤ x17 ∧ x17 ≤ 1) (d1 : x9 + (-4294967296) ≤ x6 ∧ x6 ≤ x9 + 0) (g2 : x9 = pos_0) (f3 : ((x9 + 1) ≤ limit_0) → (x11 = (tape_0 (x9) % 256))) (f5 : (tokens_0 ≤ x6) ∧ ((x6 ≤ pos_0) ∧ (((x6 + 1) ≤ pos_0) ∨ ((pos_0 = x6) ∧ (((x6 + 1) ≤ limit_0) ∧ ((97 ≤ (tape_0 (x6) % 256)) ∧ ((tape_0 (x6) % 256) ≤ 122))))))) (kz_0_10 : 0 ≤ limit_0 ∧ limit_0 ≤ 2000) (kz_0_11 : 0 ≤ pos_0 ∧ pos_0 ≤ 2000) (kz_0_157 : 0 ≤ tokens_0 ∧ tokens_0 ≤ 2010) : (tokens_0 ≤ x6) ∧ ((x6 ≤ pos_0) ∧ ((x17 = 0) ∨ ((x17 = 4) ∨ ((x6 + 1) ≤ pos_0)))) := by
  first | assumption | omega | grind
set_option maxHeartbeats 4000000 in
theorem vc_Mo_styleTokens_21_1 (x6 : Int) (x9 : Int) (x10 : Int) (x15 : Int) (pos_0 : Int) (gx : Int) (k6 : 0 ≤ x6 ∧ x6 ≤ 1999) (k9 : 0 ≤ x9 ∧ x9 ≤ 1999) (k10 : 0 ≤ x10 ∧ x10 ≤ 4001) (k15 : 0 ≤ x15 ∧ x15 ≤ 8) (f1 : x15 = x9 - x6) (g2 : x9 = pos_0) (f6 : (-1) * x10 + ((-2) * x6 + 0) ≤ (-4001)) (kz_0_11 : 0 ≤ pos_0 ∧ pos_0 ≤ 2000) (ex2 : gx = 0 + (1 * x10 + 0)) : (-1) * gx + ((-2) * x6 + 0) ≤ (-4001) := by
  first | assumption | omega | grind
def o_Mo_styleTokens_21 : or_T := (363, 18, [(0, (2, 0, 0, [165])), (2, (2, 0, 0, [165])), (6, (0, 0, 1999, [])), (9, (0, 0, 1999, [])), (10, (0, 0, 4001, [])), (11, (0, 123, 255, [])), (15, (0, 0, 8, [])), (16, (0, 8, 8, [])), (17, (0, 1, 1, []))], [(7, [15, 16], [5]), (2, [15, 9, 6], []), (9, [9, 2], [11]), (20, [9, 2, 11], [50, 1, 1, 1010, 1001, 4, 11, 0, 6, 4, 2, 1, 0, 0, 1, 2, 1, 10, 1, 2, 1, 2, 9, 5, 3, 1, 1, 1, 0, 0, 256]), (20, [2, 9, 11], [50, 1, 0, 10, 4, 7, 0, 3, 2, 0, 10, 1, 1, 1, 2, 1, 2, 0, -1]), (20, [2, 6], [50, 3, 1, 157, 11, 10, 1, 2, 7, 0, 3, 2, 0, 157, 1, 1, 2, 7, 0, 2, 1, 1, 2, 0, 11, 3, 11, 0, 6, 4, 2, 1, 1, 0, 1, 2, 0, 11, 2, 7, 1, 3, 2, 0, 11, 1, 1, 2, 11, 0, 6, 4, 2, 1, 1, 0, 1, 2, 0, 10, 2, 13, 0, 2, 0, 97, 9, 5, 3, 0, 1, 1, 1, 0, 256, 0, 9, 9, 5, 3, 0, 1, 1, 1, 0, 256, 0, 122]), (20, [10, 6], [30, -4001, -1, 0, 0, -2, 0, 0]), (24, [0, 2], [])], [], [(0, 0, 4001, [])], [(20, [2, 6, 17], [50, 2, 0, 157, 11, 2, 7, 0, 3, 2, 0, 157, 1, 1, 2, 7, 0, 2, 1, 1, 2, 0, 11, 3, 6, 1, 2, 1, 2, 0, 0, 3, 6, 1, 2, 1, 2, 0, 4, 0, 6, 4, 2, 1, 1, 0, 1, 2, 0, 11]), (20, [18, 6], [30, -4001, -1, 0, 0, -2, 0, 0]), (24, [0, 2], [])], [(18, 10, 0, 0)], [(15, 9, -1999, 0), (6, 9, -4294967296, 0)])
theorem oo_Mo_styleTokens_21 {kA : Nat → ClassId} : or_ok PRD kA GG o_Mo_styleTokens_21 := by
  refine or_mk fun A ta ws vs hD hth hl => ?_
  intro t0 r0 t2 r2 t6 k6 t9 k9 t10 k10 t11 k11 t15 k15 t16 k16 t17 k17 d0 d1 f0 f1 f2 f3 f4 f5 f6 f7
  replace f0 := shm_24 f0
  replace f1 := shm_14 f1
  replace f2 := shm_116 f2
  replace f3 := shm_541 f3
  replace f4 := shm_542 f4
  replace f5 := shm_1330 f5
  replace f6 := shm_1327 f6
  replace f7 := shm_5 f7
  have q2 : n_v vs 2 = n_v vs 0 := f7.symm
  simp only [q2] at f2 f3 f4 f5
  have cr_0_1 := fdq_39 hD hth r0
  have g2 : v_iv (n_v vs 9) = w_fi ws (n_v vs 0) 11 := congrArg v_iv f2
  have hK_0_1 := elq_7 hD hth cr_0_1
  have kz_0_10 := fdq_43 hD hth r0
  have kz_0_11 := fdq_237 hD hth r0
  have kz_0_157 := fdq_35 hD hth r0
  obtain ⟨x, ex, hx⟩ := iv_ex (ta := ta) (lo := 0) (hi := 4001) (z := 0 + (1 * v_iv (n_v vs 10) + 0)) (by omega) (by omega) (by omega) (by omega)
  have ex2 : v_iv (Value.int x) = 0 + (1 * v_iv (n_v vs 10) + 0) := ex
  have ex3 : 0 ≤ v_iv (Value.int x) ∧ v_iv (Value.int x) ≤ 4001 := tv_rng hx
  have e_0 : n_v (vs ++ [Value.int x]) 0 = n_v vs 0 := n_v_old (by rw [hl]; decide)
  have e_2 : n_v (vs ++ [Value.int x]) 2 = n_v vs 2 := n_v_old (by rw [hl]; decide)
  have e_6 : n_v (vs ++ [Value.int x]) 6 = n_v vs 6 := n_v_old (by rw [hl]; decide)
  have e_17 : n_v (vs ++ [Value.int x]) 17 = n_v vs 17 := n_v_old (by rw [hl]; decide)
  have e_18 : n_v (vs ++ [Value.int x]) 18 = Value.int x := n_v_new hl
  have nf0 : fc_1 PRD (20, [2, 6, 17], [50, 2, 0, 157, 11, 2, 7, 0, 3, 2, 0, 157, 1, 1, 2, 7, 0, 2, 1, 1, 2, 0, 11, 3, 6, 1, 2, 1, 2, 0, 0, 3, 6, 1, 2, 1, 2, 0, 4, 0, 6, 4, 2, 1, 1, 0, 1, 2, 0, 11]) ws (vs ++ [Value.int x]) := by
    refine ⟨nf_inA hl rfl, sgq_1326 ?_⟩
    · show (w_fi ws (n_v (vs ++ [Value.int x]) 2) 157 ≤ v_iv (n_v (vs ++ [Value.int x]) 6)) ∧ ((v_iv (n_v (vs ++ [Value.int x]) 6) ≤ w_fi ws (n_v (vs ++ [Value.int x]) 2) 11) ∧ ((v_iv (n_v (vs ++ [Value.int x]) 17) = 0) ∨ ((v_iv (n_v (vs ++ [Value.int x]) 17) = 4) ∨ ((v_iv (n_v (vs ++ [Value.int x]) 6) + 1) ≤ w_fi ws (n_v (vs ++ [Value.int x]) 2) 11))))
      simp only [e_2, e_6, e_17, q2]
      exact vc_Mo_styleTokens_21_0 (v_iv (n_v vs 6)) (v_iv (n_v vs 9)) (v_iv (n_v vs 11)) (v_iv (n_v vs 17)) (w_fi ws (n_v vs 0) 11) (w_ei ws (w_ar ws (n_v vs 0) 1)) (w_fi ws (n_v vs 0) 10) (w_fi ws (n_v vs 0) 157) k6 k9 k11 k17 d1 g2 f3 f5 kz_0_10 kz_0_11 kz_0_157
  have nf1 : fc_1 PRD (20, [18, 6], [30, -4001, -1, 0, 0, -2, 0, 0]) ws (vs ++ [Value.int x]) := by
    refine ⟨nf_inA hl rfl, sgq_1327 ?_⟩
    · show (-1) * v_iv (n_v (vs ++ [Value.int x]) 18) + ((-2) * v_iv (n_v (vs ++ [Value.int x]) 6) + 0) ≤ (-4001)
      simp only [e_6, e_18]
      exact vc_Mo_styleTokens_21_1 (v_iv (n_v vs 6)) (v_iv (n_v vs 9)) (v_iv (n_v vs 10)) (v_iv (n_v vs 15)) (w_fi ws (n_v vs 0) 11) (v_iv (Value.int x)) k6 k9 k10 k15 f1 g2 f6 kz_0_11 ex2
  have nf2 : fc_1 PRD (24, [0, 2], []) ws (vs ++ [Value.int x]) := by
    refine ⟨nf_inA hl rfl, sgq_5 ?_⟩
    · show n_v (vs ++ [Value.int x]) 0 = n_v (vs ++ [Value.int x]) 2
      first | rfl | simp only [e_0, e_2, q2]
  obtain ⟨x0, e0, _, _⟩ := tv_int t10 rfl
  have e1 : v_iv (n_v vs 10) = x0.toInt := by rw [e0]; rfl
  have ho : sy_ofs (vs ++ [Value.int x]) (18, 10, 0, 0) := by
    refine ⟨x, x0, by rw [List.getElem?_append_right (by rw [hl]; decide), hl]; rfl, ?_, ?_, ?_⟩
    · rw [List.getElem?_append_left (by rw [hl]; decide)]; exact n_v_some (by rw [hl]; decide) e0
    · show x0.toInt + 0 ≤ x.toInt; omega
    · show x.toInt ≤ x0.toInt + 0; omega
  exact ⟨(fun _ h => (by cases h)), [Value.int x], ag_one hx, List.forall_mem_cons.mpr ⟨⟨show (20 : Nat) < 100 from by decide, nf0⟩, List.forall_mem_cons.mpr ⟨⟨show (20 : Nat) < 100 from by decide, nf1⟩, List.forall_mem_cons.mpr ⟨⟨show (24 : Nat) < 100 from by decide, nf2⟩, (fun _ h => (by cases h))⟩⟩⟩, List.forall_mem_cons.mpr ⟨ho, (fun _ h => (by cases h))⟩⟩
set_option maxHeartbeats 4000000 in
theorem vc_Mo_styleTokens_22_0 (x6 : Int) (x9 : Int) (x16 : Int) (tape_0 : Int → Int) (limit_0 : Int) (pos_1 : Int) (tape_1 : Int → Int) (limit_1 : Int) (tokens_1 : Int) (pos_0 : Int) (tokens_0 : Int) (k6 : 0 ≤ x6 ∧ x6 ≤ 1999) (k9 : 0 ≤ x9 ∧ x9 ≤ 1999) (k16 : 1 ≤ x16 ∧ x16 ≤ 2000) (d0 : x9 + 1 ≤ x16 ∧ x16 ≤ x9 + 1) (d1 : x9 + (-4294967296) ≤ x6 ∧ x6 ≤ x9 + 0) (g6 : x9 = pos_1) (f9 : (tokens_1 ≤ x6) ∧ ((x6 ≤ pos_1) ∧ (((x6 + 1) ≤ pos_1) ∨ ((pos_1 = x6) ∧ (((x6 + 1) ≤ limit_1) ∧ ((97 ≤ (tape_1 (x6) % 256)) ∧ ((tape_1 (x6) % 256) ≤ 122))))))) (fe_0_10_1 : limit_0 = limit_1) (fe_0_11_1 : pos_0 = x16) (fe_0_157_1 : tokens_0 = tokens_1) (hE_0_1_1 : ∀ j : Int, tape_0 j = tape_1 j) (kz_0_10 : 0 ≤ limit_0 ∧ limit_0 ≤ 2000) (kz_0_11 : 0 ≤ pos_0 ∧ pos_0 ≤ 2000) (kz_0_157 : 0 ≤ tokens_0 ∧ tokens_0 ≤ 2010) : (tokens_0 ≤ x6) ∧ ((x6 ≤ pos_0) ∧ (((x6 + 1) ≤ pos_0) ∨ ((pos_0 = x6) ∧ (((x6 + 1) ≤ limit_0) ∧ ((97 ≤ (tape_0 (x6) % 256)) ∧ ((tape_0 (x6) % 256) ≤ 122)))))) := by
  subst fe_0_10_1
  subst fe_0_157_1
  have e_hE_0_1_1 := funext hE_0_1_1; subst e_hE_0_1_1
  first | assumption | omega | grind
def o_Mo_styleTokens_22 : or_T := (103, 17, [(0, (2, 0, 0, [165])), (6, (0, 0, 1999, [])), (9, (0, 0, 1999, [])), (16, (0, 1, 2000, []))], [(24, [0, 2], []), (101, [2, 16], [11]), (9, [9, 2], [11]), (20, [2, 6], [50, 3, 1, 157, 11, 10, 1, 2, 7, 0, 3, 2, 0, 157, 1, 1, 2, 7, 0, 2, 1, 1, 2, 0, 11, 3, 11, 0, 6, 4, 2, 1, 1, 0, 1, 2, 0, 11, 2, 7, 1, 3, 2, 0, 11, 1, 1, 2, 11, 0, 6, 4, 2, 1, 1, 0, 1, 2, 0, 10, 2, 13, 0, 2, 0, 97, 9, 5, 3, 0, 1, 1, 1, 0, 256, 0, 9, 9, 5, 3, 0, 1, 1, 1, 0, 256, 0, 122])], [], [], [(20, [2, 6], [50, 3, 1, 157, 11, 10, 1, 2, 7, 0, 3, 2, 0, 157, 1, 1, 2, 7, 0, 2, 1, 1, 2, 0, 11, 3, 11, 0, 6, 4, 2, 1, 1, 0, 1, 2, 0, 11, 2, 7, 1, 3, 2, 0, 11, 1, 1, 2, 11, 0, 6, 4, 2, 1, 1, 0, 1, 2, 0, 10, 2, 13, 0, 2, 0, 97, 9, 5, 3, 0, 1, 1, 1, 0, 256, 0, 9, 9, 5, 3, 0, 1, 1, 1, 0, 256, 0, 122])], [], [(16, 9, 1, 1), (6, 9, -4294967296, 0)])
theorem oo_Mo_styleTokens_22 {kA : Nat → ClassId} : or_ok PRD kA GG o_Mo_styleTokens_22 := by
  refine or_mk fun A ta ws vs hD hth hl => ?_
  intro t0 r0 t6 k6 t9 k9 t16 k16 d0 d1 f3 ta1 w1 le1 s1 f6 f9
  replace f3 := shm_5 f3
  have s1 : (∀ b j, w_el ws b j = w_el w1 b j) ∧ ∀ b j, w_fd ws b j = if b = v_ad (n_v vs 2) ∧ j = 11 then n_v vs 16 else w_fd w1 b j := s1.2
  replace f6 := shm_116 f6
  replace f9 := shm_1330 f9
  have q2 : n_v vs 2 = n_v vs 0 := f3.symm
  rw [q2] at s1
  simp only [q2] at f6 f9
  have ar_0_1_1 : w_ar w1 (n_v vs 0) 1 = w_ar ws (n_v vs 0) 1 := by show v_ad (w_fd w1 _ _) = v_ad (w_fd ws _ _); rw [s1.2, if_neg (fun e => absurd e.2 (by decide))]
  have g6 : v_iv (n_v vs 9) = w_fi w1 (n_v vs 0) 11 := congrArg v_iv f6
  simp only [ar_0_1_1] at f9
  have fe_0_10_1 : w_fi ws (n_v vs 0) 10 = w_fi w1 (n_v vs 0) 10 := by show v_iv (w_fd _ _ _) = v_iv (w_fd _ _ _); rw [s1.2, if_neg (fun e => absurd e.2 (by decide))]
  have fe_0_11_1 : w_fi ws (n_v vs 0) 11 = v_iv (n_v vs 16) := by show v_iv (w_fd _ _ _) = _; rw [s1.2, if_pos ⟨rfl, rfl⟩]
  have fe_0_157_1 : w_fi ws (n_v vs 0) 157 = w_fi w1 (n_v vs 0) 157 := by show v_iv (w_fd _ _ _) = v_iv (w_fd _ _ _); rw [s1.2, if_neg (fun e => absurd e.2 (by decide))]
  have hE_0_1_1 : ∀ j : Int, w_ei ws (w_ar ws (n_v vs 0) 1) j = w_ei w1 (w_ar ws (n_v vs 0) 1) j := fun j => s1.1 _ _
  have kz_0_10 := fdq_43 hD hth r0
  have kz_0_11 := fdq_237 hD hth r0
  have kz_0_157 := fdq_35 hD hth r0
  have nf0 : fc_1 PRD (20, [2, 6], [50, 3, 1, 157, 11, 10, 1, 2, 7, 0, 3, 2, 0, 157, 1, 1, 2, 7, 0, 2, 1, 1, 2, 0, 11, 3, 11, 0, 6, 4, 2, 1, 1, 0, 1, 2, 0, 11, 2, 7, 1, 3, 2, 0, 11, 1, 1, 2, 11, 0, 6, 4, 2, 1, 1, 0, 1, 2, 0, 10, 2, 13, 0, 2, 0, 97, 9, 5, 3, 0, 1, 1, 1, 0, 256, 0, 9, 9, 5, 3, 0, 1, 1, 1, 0, 256, 0, 122]) ws (vs) := by
    refine ⟨nf_in hl rfl, sgq_1330 ?_⟩
    · show (w_fi ws (n_v vs 2) 157 ≤ v_iv (n_v vs 6)) ∧ ((v_iv (n_v vs 6) ≤ w_fi ws (n_v vs 2) 11) ∧ (((v_iv (n_v vs 6) + 1) ≤ w_fi ws (n_v vs 2) 11) ∨ ((w_fi ws (n_v vs 2) 11 = v_iv (n_v vs 6)) ∧ (((v_iv (n_v vs 6) + 1) ≤ w_fi ws (n_v vs 2) 10) ∧ ((97 ≤ (w_ei ws (w_ar ws (n_v vs 2) 1) (v_iv (n_v vs 6)) % 256)) ∧ ((w_ei ws (w_ar ws (n_v vs 2) 1) (v_iv (n_v vs 6)) % 256) ≤ 122))))))
      rw [q2]
      exact vc_Mo_styleTokens_22_0 (v_iv (n_v vs 6)) (v_iv (n_v vs 9)) (v_iv (n_v vs 16)) (w_ei ws (w_ar ws (n_v vs 0) 1)) (w_fi ws (n_v vs 0) 10) (w_fi w1 (n_v vs 0) 11) (w_ei w1 (w_ar ws (n_v vs 0) 1)) (w_fi w1 (n_v vs 0) 10) (w_fi w1 (n_v vs 0) 157) (w_fi ws (n_v vs 0) 11) (w_fi ws (n_v vs 0) 157) k6 k9 k16 d0 d1 g6 f9 fe_0_10_1 fe_0_11_1 fe_0_157_1 hE_0_1_1 kz_0_10 kz_0_11 kz_0_157
  refine ⟨(fun _ h => (by cases h)), [], trivial, ?_, (fun _ h => (by cases h))⟩
  rw [List.append_nil]
  exact List.forall_mem_cons.mpr ⟨⟨show (20 : Nat) < 100 from by decide, nf0⟩, (fun _ h => (by cases h))⟩
set_option maxHeartbeats 4000000 in
theorem vc_Mo_styleTokens_23_0 (x6 : Int) (x9 : Int) (x13 : Int) (x15 : Int) (pos_0 : Int) (tape_0 : Int → Int) (limit_0 : Int) (tokens_0 : Int) (k6 : 0 ≤ x6 ∧ x6 ≤ 1999) (k9 : 5 ≤ x9 ∧ x9 ≤ 2000) (k13 : 5 ≤ x13 ∧ x13 ≤ 2000) (k15 : 4 ≤ x15 ∧ x15 ≤ 4) (f1 : x13 = x9 - x6) (g2 : x9 = pos_0) (f5 : (tokens_0 ≤ x6) ∧ ((x6 ≤ pos_0) ∧ (((x6 + 1) ≤ pos_0) ∨ ((pos_0 = x6) ∧ (((x6 + 1) ≤ limit_0) ∧ ((48 ≤ (tape_0 (x6) % 256)) ∧ ((tape_0 (x6) % 256) ≤ 57))))))) (kz_0_10 : 0 ≤ limit_0 ∧ limit_0 ≤ 2000) (kz_0_11 : 0 ≤ pos_0 ∧ pos_0 ≤ 2000) (kz_0_157 : 0 ≤ tokens_0 ∧ tokens_0 ≤ 2010) : (tokens_0 ≤ x6) ∧ ((x6 ≤ pos_0) ∧ ((x15 = 0) ∨ ((x15 = 4) ∨ ((x6 + 1) ≤ pos_0)))) := by
  first | assumption | omega | grind
set_option maxHeartbeats 4000000 in
theorem vc_Mo_styleTokens_23_1 (x6 : Int) (x9 : Int) (x10 : Int) (x13 : Int) (pos_0 : Int) (gx : Int) (k6 : 0 ≤ x6 ∧ x6 ≤ 1999) (k9 : 5 ≤ x9 ∧ x9 ≤ 2000) (k10 : 0 ≤ x10 ∧ x10 ≤ 4001) (k13 : 5 ≤ x13 ∧ x13 ≤ 2000) (f1 : x13 = x9 - x6) (g2 : x9 = pos_0) (f6 : (-1) * x10 + ((-2) * x6 + 0) ≤ (-4001)) (kz_0_11 : 0 ≤ pos_0 ∧ pos_0 ≤ 2000) (ex2 : gx = 0 + (1 * x10 + 0)) : (-1) * gx + ((-2) * x6 + 0) ≤ (-4001) := by
  first | assumption | omega | grind
def o_Mo_styleTokens_23 : or_T := (363, 16, [(0, (2, 0, 0, [165])), (2, (2, 0, 0, [165])), (6, (0, 0, 1999, [])), (9, (0, 5, 2000, [])), (10, (0, 0, 4001, [])), (11, (0, -1, -1, [])), (13, (0, 5, 2000, [])), (14, (0, 4, 4, [])), (15, (0, 4, 4, []))], [(7, [13, 14], [4]), (2, [13, 9, 6], []), (9, [9, 2], [11]), (20, [9, 2, 11], [50, 1, 1, 1010, 1001, 4, 11, 0, 6, 4, 2, 1, 0, 0, 1, 2, 1, 10, 1, 2, 1, 2, 9, 5, 3, 1, 1, 1, 0, 0, 256]), (20, [2, 9, 11], [50, 1, 0, 10, 4, 7, 0, 3, 2, 0, 10, 1, 1, 1, 2, 1, 2, 0, -1]), (20, [2, 6], [50, 3, 1, 157, 11, 10, 1, 2, 7, 0, 3, 2, 0, 157, 1, 1, 2, 7, 0, 2, 1, 1, 2, 0, 11, 3, 11, 0, 6, 4, 2, 1, 1, 0, 1, 2, 0, 11, 2, 7, 1, 3, 2, 0, 11, 1, 1, 2, 11, 0, 6, 4, 2, 1, 1, 0, 1, 2, 0, 10, 2, 13, 0, 2, 0, 48, 9, 5, 3, 0, 1, 1, 1, 0, 256, 0, 9, 9, 5, 3, 0, 1, 1, 1, 0, 256, 0, 57]), (20, [10, 6], [30, -4001, -1, 0, 0, -2, 0, 0]), (24, [0, 2], [])], [], [(0, 0, 4001, [])], [(20, [2, 6, 15], [50, 2, 0, 157, 11, 2, 7, 0, 3, 2, 0, 157, 1, 1, 2, 7, 0, 2, 1, 1, 2, 0, 11, 3, 6, 1, 2, 1, 2, 0, 0, 3, 6, 1, 2, 1, 2, 0, 4, 0, 6, 4, 2, 1, 1, 0, 1, 2, 0, 11]), (20, [16, 6], [30, -4001, -1, 0, 0, -2, 0, 0]), (24, [0, 2], [])], [(16, 10, 0, 0)], [(13, 9, -1999, 0), (6, 9, -4294967296, 0)])
theorem oo_Mo_styleTokens_23 {kA : Nat → ClassId} : or_ok PRD kA GG o_Mo_styleTokens_23 := by
  refine or_mk fun A ta ws vs hD hth hl => ?_
  intro t0 r0 t2 r2 t6 k6 t9 k9 t10 k10 t11 k11 t13 k13 t14 k14 t15 k15 d0 d1 f0 f1 f2 f3 f4 f5 f6 f7
  replace f0 := shm_21 f0
  replace f1 := shm_14 f1
  replace f2 := shm_116 f2
  replace f3 := shm_541 f3
  replace f4 := shm_542 f4
  replace f5 := shm_1329 f5
  replace f6 := shm_1327 f6
  replace f7 := shm_5 f7
  have q2 : n_v vs 2 = n_v vs 0 := f7.symm
  simp only [q2] at f2 f3 f4 f5
  have cr_0_1 := fdq_39 hD hth r0
  have g2 : v_iv (n_v vs 9) = w_fi ws (n_v vs 0) 11 := congrArg v_iv f2
  have hK_0_1 := elq_7 hD hth cr_0_1
  have kz_0_10 := fdq_43 hD hth r0
  have kz_0_11 := fdq_237 hD hth r0
  have kz_0_157 := fdq_35 hD hth r0
  obtain ⟨x, ex, hx⟩ := iv_ex (ta := ta) (lo := 0) (hi := 4001) (z := 0 + (1 * v_iv (n_v vs 10) + 0)) (by omega) (by omega) (by omega) (by omega)
  have ex2 : v_iv (Value.int x) = 0 + (1 * v_iv (n_v vs 10) + 0) := ex
  have ex3 : 0 ≤ v_iv (Value.int x) ∧ v_iv (Value.int x) ≤ 4001 := tv_rng hx
  have e_0 : n_v (vs ++ [Value.int x]) 0 = n_v vs 0 := n_v_old (by rw [hl]; decide)
  have e_2 : n_v (vs ++ [Value.int x]) 2 = n_v vs 2 := n_v_old (by rw [hl]; decide)
  have e_6 : n_v (vs ++ [Value.int x]) 6 = n_v vs 6 := n_v_old (by rw [hl]; decide)
  have e_15 : n_v (vs ++ [Value.int x]) 15 = n_v vs 15 := n_v_old (by rw [hl]; decide)
  have e_16 : n_v (vs ++ [Value.int x]) 16 = Value.int x := n_v_new hl
  have nf0 : fc_1 PRD (20, [2, 6, 15], [50, 2, 0, 157, 11, 2, 7, 0, 3, 2, 0, 157, 1, 1, 2, 7, 0, 2, 1, 1, 2, 0, 11, 3, 6, 1, 2, 1, 2, 0, 0, 3, 6, 1, 2, 1, 2, 0, 4, 0, 6, 4, 2, 1, 1, 0, 1, 2, 0, 11]) ws (vs ++ [Value.int x]) := by
    refine ⟨nf_inA hl rfl, sgq_1326 ?_⟩
    · show (w_fi ws (n_v (vs ++ [Value.int x]) 2) 157 ≤ v_iv (n_v (vs ++ [Value.int x]) 6)) ∧ ((v_iv (n_v (vs ++ [Value.int x]) 6) ≤ w_fi ws (n_v (vs ++ [Value.int x]) 2) 11) ∧ ((v_iv (n_v (vs ++ [Value.int x]) 15) = 0) ∨ ((v_iv (n_v (vs ++ [Value.int x]) 15) = 4) ∨ ((v_iv (n_v (vs ++ [Value.int x]) 6) + 1) ≤ w_fi ws (n_v (vs ++ [Value.int x]) 2) 11))))
      simp only [e_2, e_6, e_15, q2]
      exact vc_Mo_styleTokens_23_0 (v_iv (n_v vs 6)) (v_iv (n_v vs 9)) (v_iv (n_v vs 13)) (v_iv (n_v vs 15)) (w_fi ws (n_v vs 0) 11) (w_ei ws (w_ar ws (n_v vs 0) 1)) (w_fi ws (n_v vs 0) 10) (w_fi ws (n_v vs 0) 157) k6 k9 k13 k15 f1 g2 f5 kz_0_10 kz_0_11 kz_0_157
  have nf1 : fc_1 PRD (20, [16, 6], [30, -4001, -1, 0, 0, -2, 0, 0]) ws (vs ++ [Value.int x]) := by
    refine ⟨nf_inA hl rfl, sgq_1327 ?_⟩
    · show (-1) * v_iv (n_v (vs ++ [Value.int x]) 16) + ((-2) * v_iv (n_v (vs ++ [Value.int x]) 6) + 0) ≤ (-4001)
      simp only [e_6, e_16]
      exact vc_Mo_styleTokens_23_1 (v_iv (n_v vs 6)) (v_iv (n_v vs 9)) (v_iv (n_v vs 10)) (v_iv (n_v vs 13)) (w_fi ws (n_v vs 0) 11) (v_iv (Value.int x)) k6 k9 k10 k13 f1 g2 f6 kz_0_11 ex2
  have nf2 : fc_1 PRD (24, [0, 2], []) ws (vs ++ [Value.int x]) := by
    refine ⟨nf_inA hl rfl, sgq_5 ?_⟩
    · show n_v (vs ++ [Value.int x]) 0 = n_v (vs ++ [Value.int x]) 2
      first | rfl | simp only [e_0, e_2, q2]
  obtain ⟨x0, e0, _, _⟩ := tv_int t10 rfl
  have e1 : v_iv (n_v vs 10) = x0.toInt := by rw [e0]; rfl
  have ho : sy_ofs (vs ++ [Value.int x]) (16, 10, 0, 0) := by
    refine ⟨x, x0, by rw [List.getElem?_append_right (by rw [hl]; decide), hl]; rfl, ?_, ?_, ?_⟩
    · rw [List.getElem?_append_left (by rw [hl]; decide)]; exact n_v_some (by rw [hl]; decide) e0
    · show x0.toInt + 0 ≤ x.toInt; omega
    · show x.toInt ≤ x0.toInt + 0; omega
  exact ⟨(fun _ h => (by cases h)), [Value.int x], ag_one hx, List.forall_mem_cons.mpr ⟨⟨show (20 : Nat) < 100 from by decide, nf0⟩, List.forall_mem_cons.mpr ⟨⟨show (20 : Nat) < 100 from by decide, nf1⟩, List.forall_mem_cons.mpr ⟨⟨show (24 : Nat) < 100 from by decide, nf2⟩, (fun _ h => (by cases h))⟩⟩⟩, List.forall_mem_cons.mpr ⟨ho, (fun _ h => (by cases h))⟩⟩
set_option maxHeartbeats 4000000 in
theorem vc_Mo_styleTokens_24_0 (x6 : Int) (x9 : Int) (x11 : Int) (x13 : Int) (x15 : Int) (pos_0 : Int) (tape_0 : Int → Int) (limit_0 : Int) (tokens_0 : Int) (k6 : 0 ≤ x6 ∧ x6 ≤ 1999) (k9 : 0 ≤ x9 ∧ x9 ≤ 2000) (k11 : (-1) ≤ x11 ∧ x11 ≤ (-1)) (k13 : 0 ≤ x13 ∧ x13 ≤ 4) (k15 : 2 ≤ x15 ∧ x15 ≤ 2) (f1 : x13 = x9 - x6) (g2 : x9 = pos_0) (f3 : ((x9 + 1) ≤ limit_0) → (x11 = (tape_0 (x9) % 256))) (f4 : (limit_0 ≤ x9) → (x11 = (-1))) (f5 : (tokens_0 ≤ x6) ∧ ((x6 ≤ pos_0) ∧ (((x6 + 1) ≤ pos_0) ∨ ((pos_0 = x6) ∧ (((x6 + 1) ≤ limit_0) ∧ ((48 ≤ (tape_0 (x6) % 256)) ∧ ((tape_0 (x6) % 256) ≤ 57))))))) (kz_0_10 : 0 ≤ limit_0 ∧ limit_0 ≤ 2000) (kz_0_11 : 0 ≤ pos_0 ∧ pos_0 ≤ 2000) (kz_0_157 : 0 ≤ tokens_0 ∧ tokens_0 ≤ 2010) : (tokens_0 ≤ x6) ∧ ((x6 ≤ pos_0) ∧ ((x15 = 0) ∨ ((x15 = 4) ∨ ((x6 + 1) ≤ pos_0)))) := by
  first | assumption | omega | grind
set_option maxHeartbeats 4000000 in
theorem vc_Mo_styleTokens_24_1 (x6 : Int) (x9 : Int) (x10 : Int) (x13 : Int) (pos_0 : Int) (gx : Int) (k6 : 0 ≤ x6 ∧ x6 ≤ 1999) (k9 : 0 ≤ x9 ∧ x9 ≤ 2000) (k10 : 0 ≤ x10 ∧ x10 ≤ 4001) (k13 : 0 ≤ x13 ∧ x13 ≤ 4) (f1 : x13 = x9 - x6) (g2 : x9 = pos_0) (f6 : (-1) * x10 + ((-2) * x6 + 0) ≤ (-4001)) (kz_0_11 : 0 ≤ pos_0 ∧ pos_0 ≤ 2000) (ex2 : gx = 0 + (1 * x10 + 0)) : (-1) * gx + ((-2) * x6 + 0) ≤ (-4001) := by
  first | assumption | omega | grind
def o_Mo_styleTokens_24 : or_T := (363, 16, [(0, (2, 0, 0, [165])), (2, (2, 0, 0, [165])), (6, (0, 0, 1999, [])), (9, (0, 0, 2000, [])), (10, (0, 0, 4001, [])), (11, (0, -1, -1, [])), (13, (0, 0, 4, [])), (14, (0, 4, 4, [])), (15, (0, 2, 2, []))], [(7, [13, 14], [5]), (2, [13, 9, 6], []), (9, [9, 2], [11]), (20, [9, 2, 11], [50, 1, 1, 1010, 1001, 4, 11, 0, 6, 4, 2, 1, 0, 0, 1, 2, 1, 10, 1, 2, 1, 2, 9, 5, 3, 1, 1, 1, 0, 0, 256]), (20, [2, 9, 11], [50, 1, 0, 10, 4, 7, 0, 3, 2, 0, 10, 1, 1, 1, 2, 1, 2, 0, -1]), (20, [2, 6], [50, 3, 1, 157, 11, 10, 1, 2, 7, 0, 3, 2, 0, 157, 1, 1, 2, 7, 0, 2, 1, 1, 2, 0, 11, 3, 11, 0, 6, 4, 2, 1, 1, 0, 1, 2, 0, 11, 2, 7, 1, 3, 2, 0, 11, 1, 1, 2, 11, 0, 6, 4, 2, 1, 1, 0, 1, 2, 0, 10, 2, 13, 0, 2, 0, 48, 9, 5, 3, 0, 1, 1, 1, 0, 256, 0, 9, 9, 5, 3, 0, 1, 1, 1, 0, 256, 0, 57]), (20, [10, 6], [30, -4001, -1, 0, 0, -2, 0, 0]), (24, [0, 2], [])], [], [(0, 0, 4001, [])], [(20, [2, 6, 15], [50, 2, 0, 157, 11, 2, 7, 0, 3, 2, 0, 157, 1, 1, 2, 7, 0, 2, 1, 1, 2, 0, 11, 3, 6, 1, 2, 1, 2, 0, 0, 3, 6, 1, 2, 1, 2, 0, 4, 0, 6, 4, 2, 1, 1, 0, 1, 2, 0, 11]), (20, [16, 6], [30, -4001, -1, 0, 0, -2, 0, 0]), (24, [0, 2], [])], [(16, 10, 0, 0)], [(13, 9, -1999, 0), (6, 9, -4294967296, 0)])
theorem oo_Mo_styleTokens_24 {kA : Nat → ClassId} : or_ok PRD kA GG o_Mo_styleTokens_24 := by
  refine or_mk fun A ta ws vs hD hth hl => ?_
  intro t0 r0 t2 r2 t6 k6 t9 k9 t10 k10 t11 k11 t13 k13 t14 k14 t15 k15 d0 d1 f0 f1 f2 f3 f4 f5 f6 f7
  replace f0 := shm_24 f0
  replace f1 := shm_14 f1
  replace f2 := shm_116 f2
  replace f3 := shm_541 f3
  replace f4 := shm_542 f4
  replace f5 := shm_1329 f5
  replace f6 := shm_1327 f6
  replace f7 := shm_5 f7
  have q2 : n_v vs 2 = n_v vs 0 := f7.symm
  simp only [q2] at f2 f3 f4 f5
  have cr_0_1 := fdq_39 hD hth r0
  have g2 : v_iv (n_v vs 9) = w_fi ws (n_v vs 0) 11 := congrArg v_iv f2
  have hK_0_1 := elq_7 hD hth cr_0_1
  have kz_0_10 := fdq_43 hD hth r0
  have kz_0_11 := fdq_237 hD hth r0
  have kz_0_157 := fdq_35 hD hth r0
  obtain ⟨x, ex, hx⟩ := iv_ex (ta := ta) (lo := 0) (hi := 4001) (z := 0 + (1 * v_iv (n_v vs 10) + 0)) (by omega) (by omega) (by omega) (by omega)
  have ex2 : v_iv (Value.int x) = 0 + (1 * v_iv (n_v vs 10) + 0) := ex
  have ex3 : 0 ≤ v_iv (Value.int x) ∧ v_iv (Value.int x) ≤ 4001 := tv_rng hx
  have e_0 : n_v (vs ++ [Value.int x]) 0 = n_v vs 0 := n_v_old (by rw [hl]; decide)
  have e_2 : n_v (vs ++ [Value.int x]) 2 = n_v vs 2 := n_v_old (by rw [hl]; decide)
  have e_6 : n_v (vs ++ [Value.int x]) 6 = n_v vs 6 := n_v_old (by rw [hl]; decide)
  have e_15 : n_v (vs ++ [Value.int x]) 15 = n_v vs 15 := n_v_old (by rw [hl]; decide)
  have e_16 : n_v (vs ++ [Value.int x]) 16 = Value.int x := n_v_new hl
  have nf0 : fc_1 PRD (20, [2, 6, 15], [50, 2, 0, 157, 11, 2, 7, 0, 3, 2, 0, 157, 1, 1, 2, 7, 0, 2, 1, 1, 2, 0, 11, 3, 6, 1, 2, 1, 2, 0, 0, 3, 6, 1, 2, 1, 2, 0, 4, 0, 6, 4, 2, 1, 1, 0, 1, 2, 0, 11]) ws (vs ++ [Value.int x]) := by
    refine ⟨nf_inA hl rfl, sgq_1326 ?_⟩
    · show (w_fi ws (n_v (vs ++ [Value.int x]) 2) 157 ≤ v_iv (n_v (vs ++ [Value.int x]) 6)) ∧ ((v_iv (n_v (vs ++ [Value.int x]) 6) ≤ w_fi ws (n_v (vs ++ [Value.int x]) 2) 11) ∧ ((v_iv (n_v (vs ++ [Value.int x]) 15) = 0) ∨ ((v_iv (n_v (vs ++ [Value.int x]) 15) = 4) ∨ ((v_iv (n_v (vs ++ [Value.int x]) 6) + 1) ≤ w_fi ws (n_v (vs ++ [Value.int x]) 2) 11))))
      simp only [e_2, e_6, e_15, q2]
      exact vc_Mo_styleTokens_24_0 (v_iv (n_v vs 6)) (v_iv (n_v vs 9)) (v_iv (n_v vs 11)) (v_iv (n_v vs 13)) (v_iv (n_v vs 15)) (w_fi ws (n_v vs 0) 11) (w_ei ws (w_ar ws (n_v vs 0) 1)) (w_fi ws (n_v vs 0) 10) (w_fi ws (n_v vs 0) 157) k6 k9 k11 k13 k15 f1 g2 f3 f4 f5 kz_0_10 kz_0_11 kz_0_157
  have nf1 : fc_1 PRD (20, [16, 6], [30, -4001, -1, 0, 0, -2, 0, 0]) ws (vs ++ [Value.int x]) := by
    refine ⟨nf_inA hl rfl, sgq_1327 ?_⟩
    · show (-1) * v_iv (n_v (vs ++ [Value.int x]) 16) + ((-2) * v_iv (n_v (vs ++ [Value.int x]) 6) + 0) ≤ (-4001)
      simp only [e_6, e_16]
      exact vc_Mo_styleTokens_24_1 (v_iv (n_v vs 6)) (v_iv (n_v vs 9)) (v_iv (n_v vs 10)) (v_iv (n_v vs 13)) (w_fi ws (n_v vs 0) 11) (v_iv (Value.int x)) k6 k9 k10 k13 f1 g2 f6 kz_0_11 ex2
  have nf2 : fc_1 PRD (24, [0, 2], []) ws (vs ++ [Value.int x]) := by
    refine ⟨nf_inA hl rfl, sgq_5 ?_⟩
    · show n_v (vs ++ [Value.int x]) 0 = n_v (vs ++ [Value.int x]) 2
      first | rfl | simp only [e_0, e_2, q2]
  obtain ⟨x0, e0, _, _⟩ := tv_int t10 rfl
  have e1 : v_iv (n_v vs 10) = x0.toInt := by rw [e0]; rfl
  have ho : sy_ofs (vs ++ [Value.int x]) (16, 10, 0, 0) := by
    refine ⟨x, x0, by rw [List.getElem?_append_right (by rw [hl]; decide), hl]; rfl, ?_, ?_, ?_⟩
    · rw [List.getElem?_append_left (by rw [hl]; decide)]; exact n_v_some (by rw [hl]; decide) e0
    · show x0.toInt + 0 ≤ x.toInt; omega
    · show x.toInt ≤ x0.toInt + 0; omega
  exact ⟨(fun _ h => (by cases h)), [Value.int x], ag_one hx, List.forall_mem_cons.mpr ⟨⟨show (20 : Nat) < 100 from by decide, nf0⟩, List.forall_mem_cons.mpr ⟨⟨show (20 : Nat) < 100 from by decide, nf1⟩, List.forall_mem_cons.mpr ⟨⟨show (24 : Nat) < 100 from by decide, nf2⟩, (fun _ h => (by cases h))⟩⟩⟩, List.forall_mem_cons.mpr ⟨ho, (fun _ h => (by cases h))⟩⟩
set_option maxHeartbeats 4000000 in
theorem vc_Mo_styleTokens_25_0 (x6 : Int) (x9 : Int) (x13 : Int) (x15 : Int) (pos_0 : Int) (tape_0 : Int → Int) (limit_0 : Int) (tokens_0 : Int) (k6 : 0 ≤ x6 ∧ x6 ≤ 1999) (k9 : 5 ≤ x9 ∧ x9 ≤ 1999) (k13 : 5 ≤ x13 ∧ x13 ≤ 1999) (k15 : 4 ≤ x15 ∧ x15 ≤ 4) (f1 : x13 = x9 - x6) (g2 : x9 = pos_0) (f5 : (tokens_0 ≤ x6) ∧ ((x6 ≤ pos_0) ∧ (((x6 + 1) ≤ pos_0) ∨ ((pos_0 = x6) ∧ (((x6 + 1) ≤ limit_0) ∧ ((48 ≤ (tape_0 (x6) % 256)) ∧ ((tape_0 (x6) % 256) ≤ 57))))))) (kz_0_10 : 0 ≤ limit_0 ∧ limit_0 ≤ 2000) (kz_0_11 : 0 ≤ pos_0 ∧ pos_0 ≤ 2000) (kz_0_157 : 0 ≤ tokens_0 ∧ tokens_0 ≤ 2010) : (tokens_0 ≤ x6) ∧ ((x6 ≤ pos_0) ∧ ((x15 = 0) ∨ ((x15 = 4) ∨ ((x6 + 1) ≤ pos_0)))) := by
  first | assumption | omega | grind
set_option maxHeartbeats 4000000 in
theorem vc_Mo_styleTokens_25_1 (x6 : Int) (x9 : Int) (x10 : Int) (x13 : Int) (pos_0 : Int) (gx : Int) (k6 : 0 ≤ x6 ∧ x6 ≤ 1999) (k9 : 5 ≤ x9 ∧ x9 ≤ 1999) (k10 : 0 ≤ x10 ∧ x10 ≤ 4001) (k13 : 5 ≤ x13 ∧ x13 ≤ 1999) (f1 : x13 = x9 - x6) (g2 : x9 = pos_0) (f6 : (-1) * x10 + ((-2) * x6 + 0) ≤ (-4001)) (kz_0_11 : 0 ≤ pos_0 ∧ pos_0 ≤ 2000) (ex2 : gx = 0 + (1 * x10 + 0)) : (-1) * gx + ((-2) * x6 + 0) ≤ (-4001) := by
  first | assumption | omega | grind
def o_Mo_styleTokens_25 : or_T := (363, 16, [(0, (2, 0, 0, [165])), (2, (2, 0, 0, [165])), (6, (0, 0, 1999, [])), (9, (0, 5, 1999, [])), (10, (0, 0, 4001, [])), (11, (0, 0, 47, [])), (13, (0, 5, 1999, [])), (14, (0, 4, 4, [])), (15, (0, 4, 4, []))], [(7, [13, 14], [4]), (2, [13, 9, 6], []), (9, [9, 2], [11]), (20, [9, 2, 11], [50, 1, 1, 1010, 1001, 4, 11, 0, 6, 4, 2, 1, 0, 0, 1, 2, 1, 10, 1, 2, 1, 2, 9, 5, 3, 1, 1, 1, 0, 0, 256]), (20, [2, 9, 11], [50, 1, 0, 10, 4, 7, 0, 3, 2, 0, 10, 1, 1, 1, 2, 1, 2, 0, -1]), (20, [2, 6], [50, 3, 1, 157, 11, 10, 1, 2, 7, 0, 3, 2, 0, 157, 1, 1, 2, 7, 0, 2, 1, 1, 2, 0, 11, 3, 11, 0, 6, 4, 2, 1, 1, 0, 1, 2, 0, 11, 2, 7, 1, 3, 2, 0, 11, 1, 1, 2, 11, 0, 6, 4, 2, 1, 1, 0, 1, 2, 0, 10, 2, 13, 0, 2, 0, 48, 9, 5, 3, 0, 1, 1, 1, 0, 256, 0, 9, 9, 5, 3, 0, 1, 1, 1, 0, 256, 0, 57]), (20, [10, 6], [30, -4001, -1, 0, 0, -2, 0, 0]), (24, [0, 2], [])], [], [(0, 0, 4001, [])], [(20, [2, 6, 15], [50, 2, 0, 157, 11, 2, 7, 0, 3, 2, 0, 157, 1, 1, 2, 7, 0, 2, 1, 1, 2, 0, 11, 3, 6, 1, 2, 1, 2, 0, 0, 3, 6, 1, 2, 1, 2, 0, 4, 0, 6, 4, 2, 1, 1, 0, 1, 2, 0, 11]), (20, [16, 6], [30, -4001, -1, 0, 0, -2, 0, 0]), (24, [0, 2], [])], [(16, 10, 0, 0)], [(13, 9, -1999, 0), (6, 9, -4294967296, 0)])
theorem oo_Mo_styleTokens_25 {kA : Nat → ClassId} : or_ok PRD kA GG o_Mo_styleTokens_25 := by
  refine or_mk fun A ta ws vs hD hth hl => ?_
  intro t0 r0 t2 r2 t6 k6 t9 k9 t10 k10 t11 k11 t13 k13 t14 k14 t15 k15 d0 d1 f0 f1 f2 f3 f4 f5 f6 f7
  replace f0 := shm_21 f0
  replace f1 := shm_14 f1
  replace f2 := shm_116 f2
  replace f3 := shm_541 f3
  replace f4 := shm_542 f4
  replace f5 := shm_1329 f5
  replace f6 := shm_1327 f6
  replace f7 := shm_5 f7
  have q2 : n_v vs 2 = n_v vs 0 := f7.symm
  simp only [q2] at f2 f3 f4 f5
  have cr_0_1 := fdq_39 hD hth r0
  have g2 : v_iv (n_v vs 9) = w_fi ws (n_v vs 0) 11 := congrArg v_iv f2
  have hK_0_1 := elq_7 hD hth cr_0_1
  have kz_0_10 := fdq_43 hD hth r0
  have kz_0_11 := fdq_237 hD hth r0
  have kz_0_157 := fdq_35 hD hth r0
  obtain ⟨x, ex, hx⟩ := iv_ex (ta := ta) (lo := 0) (hi := 4001) (z := 0 + (1 * v_iv (n_v vs 10) + 0)) (by omega) (by omega) (by omega) (by omega)
  have ex2 : v_iv (Value.int x) = 0 + (1 * v_iv (n_v vs 10) + 0) := ex
  have ex3 : 0 ≤ v_iv (Value.int x) ∧ v_iv (Value.int x) ≤ 4001 := tv_rng hx
  have e_0 : n_v (vs ++ [Value.int x]) 0 = n_v vs 0 := n_v_old (by rw [hl]; decide)
  have e_2 : n_v (vs ++ [Value.int x]) 2 = n_v vs 2 := n_v_old (by rw [hl]; decide)
  have e_6 : n_v (vs ++ [Value.int x]) 6 = n_v vs 6 := n_v_old (by rw [hl]; decide)
  have e_15 : n_v (vs ++ [Value.int x]) 15 = n_v vs 15 := n_v_old (by rw [hl]; decide)
  have e_16 : n_v (vs ++ [Value.int x]) 16 = Value.int x := n_v_new hl
  have nf0 : fc_1 PRD (20, [2, 6, 15], [50, 2, 0, 157, 11, 2, 7, 0, 3, 2, 0, 157, 1, 1, 2, 7, 0, 2, 1, 1, 2, 0, 11, 3, 6, 1, 2, 1, 2, 0, 0, 3, 6, 1, 2, 1, 2, 0, 4, 0, 6, 4, 2, 1, 1, 0, 1, 2, 0, 11]) ws (vs ++ [Value.int x]) := by
    refine ⟨nf_inA hl rfl, sgq_1326 ?_⟩
    · show (w_fi ws (n_v (vs ++ [Value.int x]) 2) 157 ≤ v_iv (n_v (vs ++ [Value.int x]) 6)) ∧ ((v_iv (n_v (vs ++ [Value.int x]) 6) ≤ w_fi ws (n_v (vs ++ [Value.int x]) 2) 11) ∧ ((v_iv (n_v (vs ++ [Value.int x]) 15) = 0) ∨ ((v_iv (n_v (vs ++ [Value.int x]) 15) = 4) ∨ ((v_iv (n_v (vs ++ [Value.int x]) 6) + 1) ≤ w_fi ws (n_v (vs ++ [Value.int x]) 2) 11))))
      simp only [e_2, e_6, e_15, q2]
      exact vc_Mo_styleTokens_25_0 (v_iv (n_v vs 6)) (v_iv (n_v vs 9)) (v_iv (n_v vs 13)) (v_iv (n_v vs 15)) (w_fi ws (n_v vs 0) 11) (w_ei ws (w_ar ws (n_v vs 0) 1)) (w_fi ws (n_v vs 0) 10) (w_fi ws (n_v vs 0) 157) k6 k9 k13 k15 f1 g2 f5 kz_0_10 kz_0_11 kz_0_157
  have nf1 : fc_1 PRD (20, [16, 6], [30, -4001, -1, 0, 0, -2, 0, 0]) ws (vs ++ [Value.int x]) := by
    refine ⟨nf_inA hl rfl, sgq_1327 ?_⟩
    · show (-1) * v_iv (n_v (vs ++ [Value.int x]) 16) + ((-2) * v_iv (n_v (vs ++ [Value.int x]) 6) + 0) ≤ (-4001)
      simp only [e_6, e_16]
      exact vc_Mo_styleTokens_25_1 (v_iv (n_v vs 6)) (v_iv (n_v vs 9)) (v_iv (n_v vs 10)) (v_iv (n_v vs 13)) (w_fi ws (n_v vs 0) 11) (v_iv (Value.int x)) k6 k9 k10 k13 f1 g2 f6 kz_0_11 ex2
  have nf2 : fc_1 PRD (24, [0, 2], []) ws (vs ++ [Value.int x]) := by
    refine ⟨nf_inA hl rfl, sgq_5 ?_⟩
    · show n_v (vs ++ [Value.int x]) 0 = n_v (vs ++ [Value.int x]) 2
      first | rfl | simp only [e_0, e_2, q2]
  obtain ⟨x0, e0, _, _⟩ := tv_int t10 rfl
  have e1 : v_iv (n_v vs 10) = x0.toInt := by rw [e0]; rfl
  have ho : sy_ofs (vs ++ [Value.int x]) (16, 10, 0, 0) := by
    refine ⟨x, x0, by rw [List.getElem?_append_right (by rw [hl]; decide), hl]; rfl, ?_, ?_, ?_⟩
    · rw [List.getElem?_append_left (by rw [hl]; decide)]; exact n_v_some (by rw [hl]; decide) e0
    · show x0.toInt + 0 ≤ x.toInt; omega
    · show x.toInt ≤ x0.toInt + 0; omega
  exact ⟨(fun _ h => (by cases h)), [Value.int x], ag_one hx, List.forall_mem_cons.mpr ⟨⟨show (20 : Nat) < 100 from by decide, nf0⟩, List.forall_mem_cons.mpr ⟨⟨show (20 : Nat) < 100 from by decide, nf1⟩, List.forall_mem_cons.mpr ⟨⟨show (24 : Nat) < 100 from by decide, nf2⟩, (fun _ h => (by cases h))⟩⟩⟩, List.forall_mem_cons.mpr ⟨ho, (fun _ h => (by cases h))⟩⟩
set_option maxHeartbeats 4000000 in
theorem vc_Mo_styleTokens_26_0 (x6 : Int) (x9 : Int) (x11 : Int) (x15 : Int) (pos_0 : Int) (tape_0 : Int → Int) (limit_0 : Int) (tokens_0 : Int) (k6 : 0 ≤ x6 ∧ x6 ≤ 1999) (k9 : 0 ≤ x9 ∧ x9 ≤ 1999) (k11 : 0 ≤ x11 ∧ x11 ≤ 47) (k15 : 2 ≤ x15 ∧ x15 ≤ 2) (d1 : x9 + (-4294967296) ≤ x6 ∧ x6 ≤ x9 + 0) (g2 : x9 = pos_0) (f3 : ((x9 + 1) ≤ limit_0) → (x11 = (tape_0 (x9) % 256))) (f5 : (tokens_0 ≤ x6) ∧ ((x6 ≤ pos_0) ∧ (((x6 + 1) ≤ pos_0) ∨ ((pos_0 = x6) ∧ (((x6 + 1) ≤ limit_0) ∧ ((48 ≤ (tape_0 (x6) % 256)) ∧ ((tape_0 (x6) % 256) ≤ 57))))))) (kz_0_10 : 0 ≤ limit_0 ∧ limit_0 ≤ 2000) (kz_0_11 : 0 ≤ pos_0 ∧ pos_0 ≤ 2000) (kz_0_157 : 0 ≤ tokens_0 ∧ tokens_0 ≤ 2010) : (tokens_0 ≤ x6) ∧ ((x6 ≤ pos_0) ∧ ((x15 = 0) ∨ ((x15 = 4) ∨ ((x6 + 1) ≤ pos_0)))) := by
  first | assumption | omega | grind
set_option maxHeartbeats 4000000 in
theorem vc_Mo_styleTokens_26_1 (x6 : Int) (x9 : Int) (x10 : Int) (x13 : Int) (pos_0 : Int) (gx : Int) (k6 : 0 ≤ x6 ∧ x6 ≤ 1999) (k9 : 0 ≤ x9 ∧ x9 ≤ 1999) (k10 : 0 ≤ x10 ∧ x10 ≤ 4001) (k13 : 0 ≤ x13 ∧ x13 ≤ 4) (f1 : x13 = x9 - x6) (g2 : x9 = pos_0) (f6 : (-1) * x10 + ((-2) * x6 + 0) ≤ (-4001)) (kz_0_11 : 0 ≤ pos_0 ∧ pos_0 ≤ 2000) (ex2 : gx = 0 + (1 * x10 + 0)) : (-1) * gx + ((-2) * x6 + 0) ≤ (-4001) := by
  first | assumption | omega | grind
def o_Mo_styleTokens_26 : or_T := (363, 16, [(0, (2, 0, 0, [165])), (2, (2, 0, 0, [165])), (6, (0, 0, 1999, [])), (9, (0, 0, 1999, [])), (10, (0, 0, 4001, [])), (11, (0, 0, 47, [])), (13, (0, 0, 4, [])), (14, (0, 4, 4, [])), (15, (0, 2, 2, []))], [(7, [13, 14], [5]), (2, [13, 9, 6], []), (9, [9, 2], [11]), (20, [9, 2, 11], [50, 1, 1, 1010, 1001, 4, 11, 0, 6, 4, 2, 1, 0, 0, 1, 2, 1, 10, 1, 2, 1, 2, 9, 5, 3, 1, 1, 1, 0, 0, 256]), (20, [2, 9, 11], [50, 1, 0, 10, 4, 7, 0, 3, 2, 0, 10, 1, 1, 1, 2, 1, 2, 0, -1]), (20, [2, 6], [50, 3, 1, 157, 11, 10, 1, 2, 7, 0, 3, 2, 0, 157, 1, 1, 2, 7, 0, 2, 1, 1, 2, 0, 11, 3, 11, 0, 6, 4, 2, 1, 1, 0, 1, 2, 0, 11, 2, 7, 1, 3, 2, 0, 11, 1, 1, 2, 11, 0, 6, 4, 2, 1, 1, 0, 1, 2, 0, 10, 2, 13, 0, 2, 0, 48, 9, 5, 3, 0, 1, 1, 1, 0, 256, 0, 9, 9, 5, 3, 0, 1, 1, 1, 0, 256, 0, 57]), (20, [10, 6], [30, -4001, -1, 0, 0, -2, 0, 0]), (24, [0, 2], [])], [], [(0, 0, 4001, [])], [(20, [2, 6, 15], [50, 2, 0, 157, 11, 2, 7, 0, 3, 2, 0, 157, 1, 1, 2, 7, 0, 2, 1, 1, 2, 0, 11, 3, 6, 1, 2, 1, 2, 0, 0, 3, 6, 1, 2, 1, 2, 0, 4, 0, 6, 4, 2, 1, 1, 0, 1, 2, 0, 11]), (20, [16, 6], [30, -4001, -1, 0, 0, -2, 0, 0]), (24, [0, 2], [])], [(16, 10, 0, 0)], [(13, 9, -1999, 0), (6, 9, -4294967296, 0)])
theorem oo_Mo_styleTokens_26 {kA : Nat → ClassId} : or_ok PRD kA GG o_Mo_styleTokens_26 := by
  refine or_mk fun A ta ws vs hD hth hl => ?_
  intro t0 r0 t2 r2 t6 k6 t9 k9 t10 k10 t11 k11 t13 k13 t14 k14 t15 k15 d0 d1 f0 f1 f2 f3 f4 f5 f6 f7
  replace f0 := shm_24 f0
  replace f1 := shm_14 f1
  replace f2 := shm_116 f2
  replace f3 := shm_541 f3
  replace f4 := shm_542 f4
  replace f5 := shm_1329 f5
  replace f6 := shm_1327 f6
  replace f7 := shm_5 f7
  have q2 : n_v vs 2 = n_v vs 0 := f7.symm
  simp only [q2] at f2 f3 f4 f5
  have cr_0_1 := fdq_39 hD hth r0
  have g2 : v_iv (n_v vs 9) = w_fi ws (n_v vs 0) 11 := congrArg v_iv f2
  have hK_0_1 := elq_7 hD hth cr_0_1
  have kz_0_10 := fdq_43 hD hth r0
  have kz_0_11 := fdq_237 hD hth r0
  have kz_0_157 := fdq_35 hD hth r0
  obtain ⟨x, ex, hx⟩ := iv_ex (ta := ta) (lo := 0) (hi := 4001) (z := 0 + (1 * v_iv (n_v vs 10) + 0)) (by omega) (by omega) (by omega) (by omega)
  have ex2 : v_iv (Value.int x) = 0 + (1 * v_iv (n_v vs 10) + 0) := ex
  have ex3 : 0 ≤ v_iv (Value.int x) ∧ v_iv (Value.int x) ≤ 4001 := tv_rng hx
  have e_0 : n_v (vs ++ [Value.int x]) 0 = n_v vs 0 := n_v_old (by rw [hl]; decide)
  have e_2 : n_v (vs ++ [Value.int x]) 2 = n_v vs 2 := n_v_old (by rw [hl]; decide)
  have e_6 : n_v (vs ++ [Value.int x]) 6 = n_v vs 6 := n_v_old (by rw [hl]; decide)
  have e_15 : n_v (vs ++ [Value.int x]) 15 = n_v vs 15 := n_v_old (by rw [hl]; decide)
  have e_16 : n_v (vs ++ [Value.int x]) 16 = Value.int x := n_v_new hl
  have nf0 : fc_1 PRD (20, [2, 6, 15], [50, 2, 0, 157, 11, 2, 7, 0, 3, 2, 0, 157, 1, 1, 2, 7, 0, 2, 1, 1, 2, 0, 11, 3, 6, 1, 2, 1, 2, 0, 0, 3, 6, 1, 2, 1, 2, 0, 4, 0, 6, 4, 2, 1, 1, 0, 1, 2, 0, 11]) ws (vs ++ [Value.int x]) := by
    refine ⟨nf_inA hl rfl, sgq_1326 ?_⟩
    · show (w_fi ws (n_v (vs ++ [Value.int x]) 2) 157 ≤ v_iv (n_v (vs ++ [Value.int x]) 6)) ∧ ((v_iv (n_v (vs ++ [Value.int x]) 6) ≤ w_fi ws (n_v (vs ++ [Value.int x]) 2) 11) ∧ ((v_iv (n_v (vs ++ [Value.int x]) 15) = 0) ∨ ((v_iv (n_v (vs ++ [Value.int x]) 15) = 4) ∨ ((v_iv (n_v (vs ++ [Value.int x]) 6) + 1) ≤ w_fi ws (n_v (vs ++ [Value.int x]) 2) 11))))
      simp only [e_2, e_6, e_15, q2]
      exact vc_Mo_styleTokens_26_0 (v_iv (n_v vs 6)) (v_iv (n_v vs 9)) (v_iv (n_v vs 11)) (v_iv (n_v vs 15)) (w_fi ws (n_v vs 0) 11) (w_ei ws (w_ar ws (n_v vs 0) 1)) (w_fi ws (n_v vs 0) 10) (w_fi ws (n_v vs 0) 157) k6 k9 k11 k15 d1 g2 f3 f5 kz_0_10 kz_0_11 kz_0_157
  have nf1 : fc_1 PRD (20, [16, 6], [30, -4001, -1, 0, 0, -2, 0, 0]) ws (vs ++ [Value.int x]) := by
    refine ⟨nf_inA hl rfl, sgq_1327 ?_⟩
    · show (-1) * v_iv (n_v (vs ++ [Value.int x]) 16) + ((-2) * v_iv (n_v (vs ++ [Value.int x]) 6) + 0) ≤ (-4001)
      simp only [e_6, e_16]
      exact vc_Mo_styleTokens_26_1 (v_iv (n_v vs 6)) (v_iv (n_v vs 9)) (v_iv (n_v vs 10)) (v_iv (n_v vs 13)) (w_fi ws (n_v vs 0) 11) (v_iv (Value.int x)) k6 k9 k10 k13 f1 g2 f6 kz_0_11 ex2
  have nf2 : fc_1 PRD (24, [0, 2], []) ws (vs ++ [Value.int x]) := by
    refine ⟨nf_inA hl rfl, sgq_5 ?_⟩
    · show n_v (vs ++ [Value.int x]) 0 = n_v (vs ++ [Value.int x]) 2
      first | rfl | simp only [e_0, e_2, q2]
  obtain ⟨x0, e0, _, _⟩ := tv_int t10 rfl
  have e1 : v_iv (n_v vs 10) = x0.toInt := by rw [e0]; rfl
  have ho : sy_ofs (vs ++ [Value.int x]) (16, 10, 0, 0) := by
    refine ⟨x, x0, by rw [List.getElem?_append_right (by rw [hl]; decide), hl]; rfl, ?_, ?_, ?_⟩
    · rw [List.getElem?_append_left (by rw [hl]; decide)]; exact n_v_some (by rw [hl]; decide) e0
    · show x0.toInt + 0 ≤ x.toInt; omega
    · show x.toInt ≤ x0.toInt + 0; omega
  exact ⟨(fun _ h => (by cases h)), [Value.int x], ag_one hx, List.forall_mem_cons.mpr ⟨⟨show (20 : Nat) < 100 from by decide, nf0⟩, List.forall_mem_cons.mpr ⟨⟨show (20 : Nat) < 100 from by decide, nf1⟩, List.forall_mem_cons.mpr ⟨⟨show (24 : Nat) < 100 from by decide, nf2⟩, (fun _ h => (by cases h))⟩⟩⟩, List.forall_mem_cons.mpr ⟨ho, (fun _ h => (by cases h))⟩⟩
set_option maxHeartbeats 4000000 in
theorem vc_Mo_styleTokens_27_0 (x6 : Int) (x9 : Int) (x13 : Int) (x15 : Int) (pos_0 : Int) (tape_0 : Int → Int) (limit_0 : Int) (tokens_0 : Int) (k6 : 0 ≤ x6 ∧ x6 ≤ 1999) (k9 : 5 ≤ x9 ∧ x9 ≤ 1999) (k13 : 5 ≤ x13 ∧ x13 ≤ 1999) (k15 : 4 ≤ x15 ∧ x15 ≤ 4) (f1 : x13 = x9 - x6) (g2 : x9 = pos_0) (f5 : (tokens_0 ≤ x6) ∧ ((x6 ≤ pos_0) ∧ (((x6 + 1) ≤ pos_0) ∨ ((pos_0 = x6) ∧ (((x6 + 1) ≤ limit_0) ∧ ((48 ≤ (tape_0 (x6) % 256)) ∧ ((tape_0 (x6) % 256) ≤ 57))))))) (kz_0_10 : 0 ≤ limit_0 ∧ limit_0 ≤ 2000) (kz_0_11 : 0 ≤ pos_0 ∧ pos_0 ≤ 2000) (kz_0_157 : 0 ≤ tokens_0 ∧ tokens_0 ≤ 2010) : (tokens_0 ≤ x6) ∧ ((x6 ≤ pos_0) ∧ ((x15 = 0) ∨ ((x15 = 4) ∨ ((x6 + 1) ≤ pos_0)))) := by
  first | assumption | omega | grind
set_option maxHeartbeats 4000000 in
theorem vc_Mo_styleTokens_27_1 (x6 : Int) (x9 : Int) (x10 : Int) (x13 : Int) (pos_0 : Int) (gx : Int) (k6 : 0 ≤ x6 ∧ x6 ≤ 1999) (k9 : 5 ≤ x9 ∧ x9 ≤ 1999) (k10 : 0 ≤ x10 ∧ x10 ≤ 4001) (k13 : 5 ≤ x13 ∧ x13 ≤ 1999) (f1 : x13 = x9 - x6) (g2 : x9 = pos_0) (f6 : (-1) * x10 + ((-2) * x6 + 0) ≤ (-4001)) (kz_0_11 : 0 ≤ pos_0 ∧ pos_0 ≤ 2000) (ex2 : gx = 0 + (1 * x10 + 0)) : (-1) * gx + ((-2) * x6 + 0) ≤ (-4001) := by
  first | assumption | omega | grind
def o_Mo_styleTokens_27 : or_T := (363, 16, [(0, (2, 0, 0, [165])), (2, (2, 0, 0, [165])), (6, (0, 0, 1999, [])), (9, (0, 5, 1999, [])), (10, (0, 0, 4001, [])), (11, (0, 58, 255, [])), (13, (0, 5, 1999, [])), (14, (0, 4, 4, [])), (15, (0, 4, 4, []))], [(7, [13, 14], [4]), (2, [13, 9, 6], []), (9, [9, 2], [11]), (20, [9, 2, 11], [50, 1, 1, 1010, 1001, 4, 11, 0, 6, 4, 2, 1, 0, 0, 1, 2, 1, 10, 1, 2, 1, 2, 9, 5, 3, 1, 1, 1, 0, 0, 256]), (20, [2, 9, 11], [50, 1, 0, 10, 4, 7, 0, 3, 2, 0, 10, 1, 1, 1, 2, 1, 2, 0, -1]), (20, [2, 6], [50, 3, 1, 157, 11, 10, 1, 2, 7, 0, 3, 2, 0, 157, 1, 1, 2, 7, 0, 2, 1, 1, 2, 0, 11, 3, 11, 0, 6, 4, 2, 1, 1, 0, 1, 2, 0, 11, 2, 7, 1, 3, 2, 0, 11, 1, 1, 2, 11, 0, 6, 4, 2, 1, 1, 0, 1, 2, 0, 10, 2, 13, 0, 2, 0, 48, 9, 5, 3, 0, 1, 1, 1, 0, 256, 0, 9, 9, 5, 3, 0, 1, 1, 1, 0, 256, 0, 57]), (20, [10, 6], [30, -4001, -1, 0, 0, -2, 0, 0]), (24, [0, 2], [])], [], [(0, 0, 4001, [])], [(20, [2, 6, 15], [50, 2, 0, 157, 11, 2, 7, 0, 3, 2, 0, 157, 1, 1, 2, 7, 0, 2, 1, 1, 2, 0, 11, 3, 6, 1, 2, 1, 2, 0, 0, 3, 6, 1, 2, 1, 2, 0, 4, 0, 6, 4, 2, 1, 1, 0, 1, 2, 0, 11]), (20, [16, 6], [30, -4001, -1, 0, 0, -2, 0, 0]), (24, [0, 2], [])], [(16, 10, 0, 0)], [(13, 9, -1999, 0), (6, 9, -4294967296, 0)])
theorem oo_Mo_styleTokens_27 {kA : Nat → ClassId} : or_ok PRD kA GG o_Mo_styleTokens_27 := by
  refine or_mk fun A ta ws vs hD hth hl => ?_
  intro t0 r0 t2 r2 t6 k6 t9 k9 t10 k10 t11 k11 t13 k13 t14 k14 t15 k15 d0 d1 f0 f1 f2 f3 f4 f5 f6 f7
  replace f0 := shm_21 f0
  replace f1 := shm_14 f1
  replace f2 := shm_116 f2
  replace f3 := shm_541 f3
  replace f4 := shm_542 f4
  replace f5 := shm_1329 f5
  replace f6 := shm_1327 f6
  replace f7 := shm_5 f7
  have q2 : n_v vs 2 = n_v vs 0 := f7.symm
  simp only [q2] at f2 f3 f4 f5
  have cr_0_1 := fdq_39 hD hth r0
  have g2 : v_iv (n_v vs 9) = w_fi ws (n_v vs 0) 11 := congrArg v_iv f2
  have hK_0_1 := elq_7 hD hth cr_0_1
  have kz_0_10 := fdq_43 hD hth r0
  have kz_0_11 := fdq_237 hD hth r0
  have kz_0_157 := fdq_35 hD hth r0
  obtain ⟨x, ex, hx⟩ := iv_ex (ta := ta) (lo := 0) (hi := 4001) (z := 0 + (1 * v_iv (n_v vs 10) + 0)) (by omega) (by omega) (by omega) (by omega)
  have ex2 : v_iv (Value.int x) = 0 + (1 * v_iv (n_v vs 10) + 0) := ex
  have ex3 : 0 ≤ v_iv (Value.int x) ∧ v_iv (Value.int x) ≤ 4001 := tv_rng hx
  have e_0 : n_v (vs ++ [Value.int x]) 0 = n_v vs 0 := n_v_old (by rw [hl]; decide)
  have e_2 : n_v (vs ++ [Value.int x]) 2 = n_v vs 2 := n_v_old (by rw [hl]; decide)
  have e_6 : n_v (vs ++ [Value.int x]) 6 = n_v vs 6 := n_v_old (by rw [hl]; decide)
  have e_15 : n_v (vs ++ [Value.int x]) 15 = n_v vs 15 := n_v_old (by rw [hl]; decide)
  have e_16 : n_v (vs ++ [Value.int x]) 16 = Value.int x := n_v_new hl
  have nf0 : fc_1 PRD (20, [2, 6, 15], [50, 2, 0, 157, 11, 2, 7, 0, 3, 2, 0, 157, 1, 1, 2, 7, 0, 2, 1, 1, 2, 0, 11, 3, 6, 1, 2, 1, 2, 0, 0, 3, 6, 1, 2, 1, 2, 0, 4, 0, 6, 4, 2, 1, 1, 0, 1, 2, 0, 11]) ws (vs ++ [Value.int x]) := by
    refine ⟨nf_inA hl rfl, sgq_1326 ?_⟩
    · show (w_fi ws (n_v (vs ++ [Value.int x]) 2) 157 ≤ v_iv (n_v (vs ++ [Value.int x]) 6)) ∧ ((v_iv (n_v (vs ++ [Value.int x]) 6) ≤ w_fi ws (n_v (vs ++ [Value.int x]) 2) 11) ∧ ((v_iv (n_v (vs ++ [Value.int x]) 15) = 0) ∨ ((v_iv (n_v (vs ++ [Value.int x]) 15) = 4) ∨ ((v_iv (n_v (vs ++ [Value.int x]) 6) + 1) ≤ w_fi ws (n_v (vs ++ [Value.int x]) 2) 11))))
      simp only [e_2, e_6, e_15, q2]
      exact vc_Mo_styleTokens_27_0 (v_iv (n_v vs 6)) (v_iv (n_v vs 9)) (v_iv (n_v vs 13)) (v_iv (n_v vs 15)) (w_fi ws (n_v vs 0) 11) (w_ei ws (w_ar ws (n_v vs 0) 1)) (w_fi ws (n_v vs 0) 10) (w_fi ws (n_v vs 0) 157) k6 k9 k13 k15 f1 g2 f5 kz_0_10 kz_0_11 kz_0_157
  have nf1 : fc_1 PRD (20, [16, 6], [30, -4001, -1, 0, 0, -2, 0, 0]) ws (vs ++ [Value.int x]) := by
    refine ⟨nf_inA hl rfl, sgq_1327 ?_⟩
    · show (-1) * v_iv (n_v (vs ++ [Value.int x]) 16) + ((-2) * v_iv (n_v (vs ++ [Value.int x]) 6) + 0) ≤ (-4001)
      simp only [e_6, e_16]
      exact vc_Mo_styleTokens_27_1 (v_iv (n_v vs 6)) (v_iv (n_v vs 9)) (v_iv (n_v vs 10)) (v_iv (n_v vs 13)) (w_fi ws (n_v vs 0) 11) (v_iv (Value.int x)) k6 k9 k10 k13 f1 g2 f6 kz_0_11 ex2
  have nf2 : fc_1 PRD (24, [0, 2], []) ws (vs ++ [Value.int x]) := by
    refine ⟨nf_inA hl rfl, sgq_5 ?_⟩
    · show n_v (vs ++ [Value.int x]) 0 = n_v (vs ++ [Value.int x]) 2
      first | rfl | simp only [e_0, e_2, q2]
  obtain ⟨x0, e0, _, _⟩ := tv_int t10 rfl
  have e1 : v_iv (n_v vs 10) = x0.toInt := by rw [e0]; rfl
  have ho : sy_ofs (vs ++ [Value.int x]) (16, 10, 0, 0) := by
    refine ⟨x, x0, by rw [List.getElem?_append_right (by rw [hl]; decide), hl]; rfl, ?_, ?_, ?_⟩
    · rw [List.getElem?_append_left (by rw [hl]; decide)]; exact n_v_some (by rw [hl]; decide) e0
    · show x0.toInt + 0 ≤ x.toInt; omega
    · show x.toInt ≤ x0.toInt + 0; omega
  exact ⟨(fun _ h => (by cases h)), [Value.int x], ag_one hx, List.forall_mem_cons.mpr ⟨⟨show (20 : Nat) < 100 from by decide, nf0⟩, List.forall_mem_cons.mpr ⟨⟨show (20 : Nat) < 100 from by decide, nf1⟩, List.forall_mem_cons.mpr ⟨⟨show (24 : Nat) < 100 from by decide, nf2⟩, (fun _ h => (by cases h))⟩⟩⟩, List.forall_mem_cons.mpr ⟨ho, (fun _ h => (by cases h))⟩⟩
set_option maxHeartbeats 4000000 in
theorem vc_Mo_styleTokens_28_0 (x6 : Int) (x9 : Int) (x11 : Int) (x15 : Int) (pos_0 : Int) (tape_0 : Int → Int) (limit_0 : Int) (tokens_0 : Int) (k6 : 0 ≤ x6 ∧ x6 ≤ 1999) (k9 : 0 ≤ x9 ∧ x9 ≤ 1999) (k11 : 58 ≤ x11 ∧ x11 ≤ 255) (k15 : 2 ≤ x15 ∧ x15 ≤ 2) (d1 : x9 + (-4294967296) ≤ x6 ∧ x6 ≤ x9 + 0) (g2 : x9 = pos_0) (f3 : ((x9 + 1) ≤ limit_0) → (x11 = (tape_0 (x9) % 256))) (f5 : (tokens_0 ≤ x6) ∧ ((x6 ≤ pos_0) ∧ (((x6 + 1) ≤ pos_0) ∨ ((pos_0 = x6) ∧ (((x6 + 1) ≤ limit_0) ∧ ((48 ≤ (tape_0 (x6) % 256)) ∧ ((tape_0 (x6) % 256) ≤ 57))))))) (kz_0_10 : 0 ≤ limit_0 ∧ limit_0 ≤ 2000) (kz_0_11 : 0 ≤ pos_0 ∧ pos_0 ≤ 2000) (kz_0_157 : 0 ≤ tokens_0 ∧ tokens_0 ≤ 2010) : (tokens_0 ≤ x6) ∧ ((x6 ≤ pos_0) ∧ ((x15 = 0) ∨ ((x15 = 4) ∨ ((x6 + 1) ≤ pos_0)))) := by
  first | assumption | omega | grind
set_option maxHeartbeats 4000000 in
theorem vc_Mo_styleTokens_28_1 (x6 : Int) (x9 : Int) (x10 : Int) (x13 : Int) (pos_0 : Int) (gx : Int) (k6 : 0 ≤ x6 ∧ x6 ≤ 1999) (k9 : 0 ≤ x9 ∧ x9 ≤ 1999) (k10 : 0 ≤ x10 ∧ x10 ≤ 4001) (k13 : 0 ≤ x13 ∧ x13 ≤ 4) (f1 : x13 = x9 - x6) (g2 : x9 = pos_0) (f6 : (-1) * x10 + ((-2) * x6 + 0) ≤ (-4001)) (kz_0_11 : 0 ≤ pos_0 ∧ pos_0 ≤ 2000) (ex2 : gx = 0 + (1 * x10 + 0)) : (-1) * gx + ((-2) * x6 + 0) ≤ (-4001) := by
  first | assumption | omega | grind
def o_Mo_styleTokens_28 : or_T := (363, 16, [(0, (2, 0, 0, [165])), (2, (2, 0, 0, [165])), (6, (0, 0, 1999, [])), (9, (0, 0, 1999, [])), (10, (0, 0, 4001, [])), (11, (0, 58, 255, [])), (13, (0, 0, 4, [])), (14, (0, 4, 4, [])), (15, (0, 2, 2, []))], [(7, [13, 14], [5]), (2, [13, 9, 6], []), (9, [9, 2], [11]), (20, [9, 2, 11], [50, 1, 1, 1010, 1001, 4, 11, 0, 6, 4, 2, 1, 0, 0, 1, 2, 1, 10, 1, 2, 1, 2, 9, 5, 3, 1, 1, 1, 0, 0, 256]), (20, [2, 9, 11], [50, 1, 0, 10, 4, 7, 0, 3, 2, 0, 10, 1, 1, 1, 2, 1, 2, 0, -1]), (20, [2, 6], [50, 3, 1, 157, 11, 10, 1, 2, 7, 0, 3, 2, 0, 157, 1, 1, 2, 7, 0, 2, 1, 1, 2, 0, 11, 3, 11, 0, 6, 4, 2, 1, 1, 0, 1, 2, 0, 11, 2, 7, 1, 3, 2, 0, 11, 1, 1, 2, 11, 0, 6, 4, 2, 1, 1, 0, 1, 2, 0, 10, 2, 13, 0, 2, 0, 48, 9, 5, 3, 0, 1, 1, 1, 0, 256, 0, 9, 9, 5, 3, 0, 1, 1, 1, 0, 256, 0, 57]), (20, [10, 6], [30, -4001, -1, 0, 0, -2, 0, 0]), (24, [0, 2], [])], [], [(0, 0, 4001, [])], [(20, [2, 6, 15], [50, 2, 0, 157, 11, 2, 7, 0, 3, 2, 0, 157, 1, 1, 2, 7, 0, 2, 1, 1, 2, 0, 11, 3, 6, 1, 2, 1, 2, 0, 0, 3, 6, 1, 2, 1, 2, 0, 4, 0, 6, 4, 2, 1, 1, 0, 1, 2, 0, 11]), (20, [16, 6], [30, -4001, -1, 0, 0, -2, 0, 0]), (24, [0, 2], [])], [(16, 10, 0, 0)], [(13, 9, -1999, 0), (6, 9, -4294967296, 0)])
theorem oo_Mo_styleTokens_28 {kA : Nat → ClassId} : or_ok PRD kA GG o_Mo_styleTokens_28 := by
  refine or_mk fun A ta ws vs hD hth hl => ?_
  intro t0 r0 t2 r2 t6 k6 t9 k9 t10 k10 t11 k11 t13 k13 t14 k14 t15 k15 d0 d1 f0 f1 f2 f3 f4 f5 f6 f7
  replace f0 := shm_24 f0
  replace f1 := shm_14 f1
  replace f2 := shm_116 f2
  replace f3 := shm_541 f3
  replace f4 := shm_542 f4
  replace f5 := shm_1329 f5
  replace f6 := shm_1327 f6
  replace f7 := shm_5 f7
  have q2 : n_v vs 2 = n_v vs 0 := f7.symm
  simp only [q2] at f2 f3 f4 f5
  have cr_0_1 := fdq_39 hD hth r0
  have g2 : v_iv (n_v vs 9) = w_fi ws (n_v vs 0) 11 := congrArg v_iv f2
  have hK_0_1 := elq_7 hD hth cr_0_1
  have kz_0_10 := fdq_43 hD hth r0
  have kz_0_11 := fdq_237 hD hth r0
  have kz_0_157 := fdq_35 hD hth r0
  obtain ⟨x, ex, hx⟩ := iv_ex (ta := ta) (lo := 0) (hi := 4001) (z := 0 + (1 * v_iv (n_v vs 10) + 0)) (by omega) (by omega) (by omega) (by omega)
  have ex2 : v_iv (Value.int x) = 0 + (1 * v_iv (n_v vs 10) + 0) := ex
  have ex3 : 0 ≤ v_iv (Value.int x) ∧ v_iv (Value.int x) ≤ 4001 := tv_rng hx
  have e_0 : n_v (vs ++ [Value.int x]) 0 = n_v vs 0 := n_v_old (by rw [hl]; decide)
  have e_2 : n_v (vs ++ [Value.int x]) 2 = n_v vs 2 := n_v_old (by rw [hl]; decide)
  have e_6 : n_v (vs ++ [Value.int x]) 6 = n_v vs 6 := n_v_old (by rw [hl]; decide)
  have e_15 : n_v (vs ++ [Value.int x]) 15 = n_v vs 15 := n_v_old (by rw [hl]; decide)
  have e_16 : n_v (vs ++ [Value.int x]) 16 = Value.int x := n_v_new hl
  have nf0 : fc_1 PRD (20, [2, 6, 15], [50, 2, 0, 157, 11, 2, 7, 0, 3, 2, 0, 157, 1, 1, 2, 7, 0, 2, 1, 1, 2, 0, 11, 3, 6, 1, 2, 1, 2, 0, 0, 3, 6, 1, 2, 1, 2, 0, 4, 0, 6, 4, 2, 1, 1, 0, 1, 2, 0, 11]) ws (vs ++ [Value.int x]) := by
    refine ⟨nf_inA hl rfl, sgq_1326 ?_⟩
    · show (w_fi ws (n_v (vs ++ [Value.int x]) 2) 157 ≤ v_iv (n_v (vs ++ [Value.int x]) 6)) ∧ ((v_iv (n_v (vs ++ [Value.int x]) 6) ≤ w_fi ws (n_v (vs ++ [Value.int x]) 2) 11) ∧ ((v_iv (n_v (vs ++ [Value.int x]) 15) = 0) ∨ ((v_iv (n_v (vs ++ [Value.int x]) 15) = 4) ∨ ((v_iv (n_v (vs ++ [Value.int x]) 6) + 1) ≤ w_fi ws (n_v (vs ++ [Value.int x]) 2) 11))))
      simp only [e_2, e_6, e_15, q2]
      exact vc_Mo_styleTokens_28_0 (v_iv (n_v vs 6)) (v_iv (n_v vs 9)) (v_iv (n_v vs 11)) (v_iv (n_v vs 15)) (w_fi ws (n_v vs 0) 11) (w_ei ws (w_ar ws (n_v vs 0) 1)) (w_fi ws (n_v vs 0) 10) (w_fi ws (n_v vs 0) 157) k6 k9 k11 k15 d1 g2 f3 f5 kz_0_10 kz_0_11 kz_0_157
  have nf1 : fc_1 PRD (20, [16, 6], [30, -4001, -1, 0, 0, -2, 0, 0]) ws (vs ++ [Value.int x]) := by
    refine ⟨nf_inA hl rfl, sgq_1327 ?_⟩
    · show (-1) * v_iv (n_v (vs ++ [Value.int x]) 16) + ((-2) * v_iv (n_v (vs ++ [Value.int x]) 6) + 0) ≤ (-4001)
      simp only [e_6, e_16]
      exact vc_Mo_styleTokens_28_1 (v_iv (n_v vs 6)) (v_iv (n_v vs 9)) (v_iv (n_v vs 10)) (v_iv (n_v vs 13)) (w_fi ws (n_v vs 0) 11) (v_iv (Value.int x)) k6 k9 k10 k13 f1 g2 f6 kz_0_11 ex2
  have nf2 : fc_1 PRD (24, [0, 2], []) ws (vs ++ [Value.int x]) := by
    refine ⟨nf_inA hl rfl, sgq_5 ?_⟩
    · show n_v (vs ++ [Value.int x]) 0 = n_v (vs ++ [Value.int x]) 2
      first | rfl | simp only [e_0, e_2, q2]
  obtain ⟨x0, e0, _, _⟩ := tv_int t10 rfl
  have e1 : v_iv (n_v vs 10) = x0.toInt := by rw [e0]; rfl
  have ho : sy_ofs (vs ++ [Value.int x]) (16, 10, 0, 0) := by
    refine ⟨x, x0, by rw [List.getElem?_append_right (by rw [hl]; decide), hl]; rfl, ?_, ?_, ?_⟩
    · rw [List.getElem?_append_left (by rw [hl]; decide)]; exact n_v_some (by rw [hl]; decide) e0
    · show x0.toInt + 0 ≤ x.toInt; omega
    · show x.toInt ≤ x0.toInt + 0; omega
  exact ⟨(fun _ h => (by cases h)), [Value.int x], ag_one hx, List.forall_mem_cons.mpr ⟨⟨show (20 : Nat) < 100 from by decide, nf0⟩, List.forall_mem_cons.mpr ⟨⟨show (20 : Nat) < 100 from by decide, nf1⟩, List.forall_mem_cons.mpr ⟨⟨show (24 : Nat) < 100 from by decide, nf2⟩, (fun _ h => (by cases h))⟩⟩⟩, List.forall_mem_cons.mpr ⟨ho, (fun _ h => (by cases h))⟩⟩
set_option maxHeartbeats 4000000 in
theorem vc_Mo_styleTokens_29_0 (x6 : Int) (x9 : Int) (x22 : Int) (tape_0 : Int → Int) (limit_0 : Int) (pos_1 : Int) (tape_1 : Int → Int) (limit_1 : Int) (tokens_1 : Int) (pos_0 : Int) (tokens_0 : Int) (k6 : 0 ≤ x6 ∧ x6 ≤ 1999) (k9 : 0 ≤ x9 ∧ x9 ≤ 1999) (k22 : 1 ≤ x22 ∧ x22 ≤ 2000) (d0 : x9 + 1 ≤ x22 ∧ x22 ≤ x9 + 1) (d1 : x9 + (-4294967296) ≤ x6 ∧ x6 ≤ x9 + 0) (g9 : x9 = pos_1) (f15 : (tokens_1 ≤ x6) ∧ ((x6 ≤ pos_1) ∧ (((x6 + 1) ≤ pos_1) ∨ ((pos_1 = x6) ∧ (((x6 + 1) ≤ limit_1) ∧ ((48 ≤ (tape_1 (x6) % 256)) ∧ ((tape_1 (x6) % 256) ≤ 57))))))) (fe_0_10_1 : limit_0 = limit_1) (fe_0_11_1 : pos_0 = x22) (fe_0_157_1 : tokens_0 = tokens_1) (hE_0_1_1 : ∀ j : Int, tape_0 j = tape_1 j) (kz_0_10 : 0 ≤ limit_0 ∧ limit_0 ≤ 2000) (kz_0_11 : 0 ≤ pos_0 ∧ pos_0 ≤ 2000) (kz_0_157 : 0 ≤ tokens_0 ∧ tokens_0 ≤ 2010) : (tokens_0 ≤ x6) ∧ ((x6 ≤ pos_0) ∧ (((x6 + 1) ≤ pos_0) ∨ ((pos_0 = x6) ∧ (((x6 + 1) ≤ limit_0) ∧ ((48 ≤ (tape_0 (x6) % 256)) ∧ ((tape_0 (x6) % 256) ≤ 57)))))) := by
  subst fe_0_10_1
  subst fe_0_157_1
  have e_hE_0_1_1 := funext hE_0_1_1; subst e_hE_0_1_1
  first | assumption | omega | grind
def o_Mo_styleTokens_29 : or_T := (166, 23, [(0, (2, 0, 0, [165])), (2, (2, 0, 0, [165])), (6, (0, 0, 1999, [])), (9, (0, 0, 1999, [])), (10, (0, 0, 4001, [])), (11, (0, 48, 57, [])), (16, (0, -1, -1, [])), (17, (1, -1, -1, [])), (21, (0, 1, 1, [])), (22, (0, 1, 2000, []))], [(22, [17, 16], []), (20, [9, 2, 16], [50, 1, 1, 1010, 1001, 4, 11, 0, 6, 4, 2, 1, 0, 0, 1, 2, 1, 10, 1, 2, 1, 2, 9, 5, 3, 1, 1, 1, 0, 0, 256]), (20, [2, 9, 16], [50, 1, 0, 10, 4, 7, 0, 3, 2, 0, 10, 1, 1, 1, 2, 1, 2, 0, -1]), (20, [9, 2, 11], [50, 1, 1, 1010, 1001, 4, 11, 0, 6, 4, 2, 1, 0, 0, 1, 2, 1, 10, 1, 2, 1, 2, 9, 5, 3, 1, 1, 1, 0, 0, 256]), (20, [2, 9, 11], [50, 1, 0, 10, 4, 7, 0, 3, 2, 0, 10, 1, 1, 1, 2, 1, 2, 0, -1]), (20, [10, 6], [30, -4001, -1, 0, 0, -2, 0, 0]), (24, [0, 2], []), (101, [2, 22], [11]), (1, [22, 9, 21], []), (9, [9, 2], [11]), (22, [17, 16], []), (20, [9, 2, 16], [50, 1, 1, 1010, 1001, 4, 11, 0, 6, 4, 2, 1, 0, 0, 1, 2, 1, 10, 1, 2, 1, 2, 9, 5, 3, 1, 1, 1, 0, 0, 256]), (20, [2, 9, 16], [50, 1, 0, 10, 4, 7, 0, 3, 2, 0, 10, 1, 1, 1, 2, 1, 2, 0, -1]), (20, [9, 2, 11], [50, 1, 1, 1010, 1001, 4, 11, 0, 6, 4, 2, 1, 0, 0, 1, 2, 1, 10, 1, 2, 1, 2, 9, 5, 3, 1, 1, 1, 0, 0, 256]), (20, [2, 9, 11], [50, 1, 0, 10, 4, 7, 0, 3, 2, 0, 10, 1, 1, 1, 2, 1, 2, 0, -1]), (20, [2, 6], [50, 3, 1, 157, 11, 10, 1, 2, 7, 0, 3, 2, 0, 157, 1, 1, 2, 7, 0, 2, 1, 1, 2, 0, 11, 3, 11, 0, 6, 4, 2, 1, 1, 0, 1, 2, 0, 11, 2, 7, 1, 3, 2, 0, 11, 1, 1, 2, 11, 0, 6, 4, 2, 1, 1, 0, 1, 2, 0, 10, 2, 13, 0, 2, 0, 48, 9, 5, 3, 0, 1, 1, 1, 0, 256, 0, 9, 9, 5, 3, 0, 1, 1, 1, 0, 256, 0, 57]), (20, [10, 6], [30, -4001, -1, 0, 0, -2, 0, 0])], [], [], [(20, [2, 6], [50, 3, 1, 157, 11, 10, 1, 2, 7, 0, 3, 2, 0, 157, 1, 1, 2, 7, 0, 2, 1, 1, 2, 0, 11, 3, 11, 0, 6, 4, 2, 1, 1, 0, 1, 2, 0, 11, 2, 7, 1, 3, 2, 0, 11, 1, 1, 2, 11, 0, 6, 4, 2, 1, 1, 0, 1, 2, 0, 10, 2, 13, 0, 2, 0, 48, 9, 5, 3, 0, 1, 1, 1, 0, 256, 0, 9, 9, 5, 3, 0, 1, 1, 1, 0, 256, 0, 57])], [], [(22, 9, 1, 1), (6, 9, -4294967296, 0)])
theorem oo_Mo_styleTokens_29 {kA : Nat → ClassId} : or_ok PRD kA GG o_Mo_styleTokens_29 := by
  refine or_mk fun A ta ws vs hD hth hl => ?_
  intro t0 r0 t2 r2 t6 k6 t9 k9 t10 k10 t11 k11 t16 k16 t17 k17 t21 k21 t22 k22 d0 d1 f0 f1 f2 f3 f4 f5 f6 ta1 w1 le1 s1 f8 f9 f10 f11 f12 f13 f14 f15 f16
  replace f6 := shm_5 f6
  have s1 : (∀ b j, w_el ws b j = w_el w1 b j) ∧ ∀ b j, w_fd ws b j = if b = v_ad (n_v vs 2) ∧ j = 11 then n_v vs 22 else w_fd w1 b j := s1.2
  replace f9 := shm_116 f9
  replace f15 := shm_1329 f15
  have q2 : n_v vs 2 = n_v vs 0 := f6.symm
  rw [q2] at s1
  simp only [q2] at f9 f15
  have ar_0_1_1 : w_ar w1 (n_v vs 0) 1 = w_ar ws (n_v vs 0) 1 := by show v_ad (w_fd w1 _ _) = v_ad (w_fd ws _ _); rw [s1.2, if_neg (fun e => absurd e.2 (by decide))]
  have g9 : v_iv (n_v vs 9) = w_fi w1 (n_v vs 0) 11 := congrArg v_iv f9
  simp only [ar_0_1_1] at f15
  have fe_0_10_1 : w_fi ws (n_v vs 0) 10 = w_fi w1 (n_v vs 0) 10 := by show v_iv (w_fd _ _ _) = v_iv (w_fd _ _ _); rw [s1.2, if_neg (fun e => absurd e.2 (by decide))]
  have fe_0_11_1 : w_fi ws (n_v vs 0) 11 = v_iv (n_v vs 22) := by show v_iv (w_fd _ _ _) = _; rw [s1.2, if_pos ⟨rfl, rfl⟩]
  have fe_0_157_1 : w_fi ws (n_v vs 0) 157 = w_fi w1 (n_v vs 0) 157 := by show v_iv (w_fd _ _ _) = v_iv (w_fd _ _ _); rw [s1.2, if_neg (fun e => absurd e.2 (by decide))]
  have hE_0_1_1 : ∀ j : Int, w_ei ws (w_ar ws (n_v vs 0) 1) j = w_ei w1 (w_ar ws (n_v vs 0) 1) j := fun j => s1.1 _ _
  have kz_0_10 := fdq_43 hD hth r0
  have kz_0_11 := fdq_237 hD hth r0
  have kz_0_157 := fdq_35 hD hth r0
  have nf0 : fc_1 PRD (20, [2, 6], [50, 3, 1, 157, 11, 10, 1, 2, 7, 0, 3, 2, 0, 157, 1, 1, 2, 7, 0, 2, 1, 1, 2, 0, 11, 3, 11, 0, 6, 4, 2, 1, 1, 0, 1, 2, 0, 11, 2, 7, 1, 3, 2, 0, 11, 1, 1, 2, 11, 0, 6, 4, 2, 1, 1, 0, 1, 2, 0, 10, 2, 13, 0, 2, 0, 48, 9, 5, 3, 0, 1, 1, 1, 0, 256, 0, 9, 9, 5, 3, 0, 1, 1, 1, 0, 256, 0, 57]) ws (vs) := by
    refine ⟨nf_in hl rfl, sgq_1329 ?_⟩
    · show (w_fi ws (n_v vs 2) 157 ≤ v_iv (n_v vs 6)) ∧ ((v_iv (n_v vs 6) ≤ w_fi ws (n_v vs 2) 11) ∧ (((v_iv (n_v vs 6) + 1) ≤ w_fi ws (n_v vs 2) 11) ∨ ((w_fi ws (n_v vs 2) 11 = v_iv (n_v vs 6)) ∧ (((v_iv (n_v vs 6) + 1) ≤ w_fi ws (n_v vs 2) 10) ∧ ((48 ≤ (w_ei ws (w_ar ws (n_v vs 2) 1) (v_iv (n_v vs 6)) % 256)) ∧ ((w_ei ws (w_ar ws (n_v vs 2) 1) (v_iv (n_v vs 6)) % 256) ≤ 57))))))
      rw [q2]
      exact vc_Mo_styleTokens_29_0 (v_iv (n_v vs 6)) (v_iv (n_v vs 9)) (v_iv (n_v vs 22)) (w_ei ws (w_ar ws (n_v vs 0) 1)) (w_fi ws (n_v vs 0) 10) (w_fi w1 (n_v vs 0) 11) (w_ei w1 (w_ar ws (n_v vs 0) 1)) (w_fi w1 (n_v vs 0) 10) (w_fi w1 (n_v vs 0) 157) (w_fi ws (n_v vs 0) 11) (w_fi ws (n_v vs 0) 157) k6 k9 k22 d0 d1 g9 f15 fe_0_10_1 fe_0_11_1 fe_0_157_1 hE_0_1_1 kz_0_10 kz_0_11 kz_0_157
  refine ⟨(fun _ h => (by cases h)), [], trivial, ?_, (fun _ h => (by cases h))⟩
  rw [List.append_nil]
  exact List.forall_mem_cons.mpr ⟨⟨show (20 : Nat) < 100 from by decide, nf0⟩, (fun _ h => (by cases h))⟩
set_option maxHeartbeats 4000000 in
theorem vc_Mo_styleTokens_30_0 (x6 : Int) (x9 : Int) (x22 : Int) (tape_0 : Int → Int) (limit_0 : Int) (pos_1 : Int) (tape_1 : Int → Int) (limit_1 : Int) (tokens_1 : Int) (pos_0 : Int) (tokens_0 : Int) (k6 : 0 ≤ x6 ∧ x6 ≤ 1999) (k9 : 0 ≤ x9 ∧ x9 ≤ 1999) (k22 : 1 ≤ x22 ∧ x22 ≤ 2000) (d0 : x9 + 1 ≤ x22 ∧ x22 ≤ x9 + 1) (d1 : x9 + (-4294967296) ≤ x6 ∧ x6 ≤ x9 + 0) (g9 : x9 = pos_1) (f15 : (tokens_1 ≤ x6) ∧ ((x6 ≤ pos_1) ∧ (((x6 + 1) ≤ pos_1) ∨ ((pos_1 = x6) ∧ (((x6 + 1) ≤ limit_1) ∧ ((48 ≤ (tape_1 (x6) % 256)) ∧ ((tape_1 (x6) % 256) ≤ 57))))))) (fe_0_10_1 : limit_0 = limit_1) (fe_0_11_1 : pos_0 = x22) (fe_0_157_1 : tokens_0 = tokens_1) (hE_0_1_1 : ∀ j : Int, tape_0 j = tape_1 j) (kz_0_10 : 0 ≤ limit_0 ∧ limit_0 ≤ 2000) (kz_0_11 : 0 ≤ pos_0 ∧ pos_0 ≤ 2000) (kz_0_157 : 0 ≤ tokens_0 ∧ tokens_0 ≤ 2010) : (tokens_0 ≤ x6) ∧ ((x6 ≤ pos_0) ∧ (((x6 + 1) ≤ pos_0) ∨ ((pos_0 = x6) ∧ (((x6 + 1) ≤ limit_0) ∧ ((48 ≤ (tape_0 (x6) % 256)) ∧ ((tape_0 (x6) % 256) ≤ 57)))))) := by
  subst fe_0_10_1
  subst fe_0_157_1
  have e_hE_0_1_1 := funext hE_0_1_1; subst e_hE_0_1_1
  first | assumption | omega | grind
def o_Mo_styleTokens_30 : or_T := (166, 23, [(0, (2, 0, 0, [165])), (2, (2, 0, 0, [165])), (6, (0, 0, 1999, [])), (9, (0, 0, 1999, [])), (10, (0, 0, 4001, [])), (11, (0, 48, 57, [])), (16, (0, 0, 255, [])), (17, (1, 0, 255, [])), (21, (0, 1, 1, [])), (22, (0, 1, 2000, []))], [(22, [17, 16], []), (20, [9, 2, 16], [50, 1, 1, 1010, 1001, 4, 11, 0, 6, 4, 2, 1, 0, 0, 1, 2, 1, 10, 1, 2, 1, 2, 9, 5, 3, 1, 1, 1, 0, 0, 256]), (20, [2, 9, 16], [50, 1, 0, 10, 4, 7, 0, 3, 2, 0, 10, 1, 1, 1, 2, 1, 2, 0, -1]), (20, [9, 2, 11], [50, 1, 1, 1010, 1001, 4, 11, 0, 6, 4, 2, 1, 0, 0, 1, 2, 1, 10, 1, 2, 1, 2, 9, 5, 3, 1, 1, 1, 0, 0, 256]), (20, [2, 9, 11], [50, 1, 0, 10, 4, 7, 0, 3, 2, 0, 10, 1, 1, 1, 2, 1, 2, 0, -1]), (20, [10, 6], [30, -4001, -1, 0, 0, -2, 0, 0]), (24, [0, 2], []), (101, [2, 22], [11]), (1, [22, 9, 21], []), (9, [9, 2], [11]), (22, [17, 16], []), (20, [9, 2, 16], [50, 1, 1, 1010, 1001, 4, 11, 0, 6, 4, 2, 1, 0, 0, 1, 2, 1, 10, 1, 2, 1, 2, 9, 5, 3, 1, 1, 1, 0, 0, 256]), (20, [2, 9, 16], [50, 1, 0, 10, 4, 7, 0, 3, 2, 0, 10, 1, 1, 1, 2, 1, 2, 0, -1]), (20, [9, 2, 11], [50, 1, 1, 1010, 1001, 4, 11, 0, 6, 4, 2, 1, 0, 0, 1, 2, 1, 10, 1, 2, 1, 2, 9, 5, 3, 1, 1, 1, 0, 0, 256]), (20, [2, 9, 11], [50, 1, 0, 10, 4, 7, 0, 3, 2, 0, 10, 1, 1, 1, 2, 1, 2, 0, -1]), (20, [2, 6], [50, 3, 1, 157, 11, 10, 1, 2, 7, 0, 3, 2, 0, 157, 1, 1, 2, 7, 0, 2, 1, 1, 2, 0, 11, 3, 11, 0, 6, 4, 2, 1, 1, 0, 1, 2, 0, 11, 2, 7, 1, 3, 2, 0, 11, 1, 1, 2, 11, 0, 6, 4, 2, 1, 1, 0, 1, 2, 0, 10, 2, 13, 0, 2, 0, 48, 9, 5, 3, 0, 1, 1, 1, 0, 256, 0, 9, 9, 5, 3, 0, 1, 1, 1, 0, 256, 0, 57]), (20, [10, 6], [30, -4001, -1, 0, 0, -2, 0, 0])], [], [], [(20, [2, 6], [50, 3, 1, 157, 11, 10, 1, 2, 7, 0, 3, 2, 0, 157, 1, 1, 2, 7, 0, 2, 1, 1, 2, 0, 11, 3, 11, 0, 6, 4, 2, 1, 1, 0, 1, 2, 0, 11, 2, 7, 1, 3, 2, 0, 11, 1, 1, 2, 11, 0, 6, 4, 2, 1, 1, 0, 1, 2, 0, 10, 2, 13, 0, 2, 0, 48, 9, 5, 3, 0, 1, 1, 1, 0, 256, 0, 9, 9, 5, 3, 0, 1, 1, 1, 0, 256, 0, 57])], [], [(22, 9, 1, 1), (6, 9, -4294967296, 0)])
theorem oo_Mo_styleTokens_30 {kA : Nat → ClassId} : or_ok PRD kA GG o_Mo_styleTokens_30 := by
  refine or_mk fun A ta ws vs hD hth hl => ?_
  intro t0 r0 t2 r2 t6 k6 t9 k9 t10 k10 t11 k11 t16 k16 t17 k17 t21 k21 t22 k22 d0 d1 f0 f1 f2 f3 f4 f5 f6 ta1 w1 le1 s1 f8 f9 f10 f11 f12 f13 f14 f15 f16
  replace f6 := shm_5 f6
  have s1 : (∀ b j, w_el ws b j = w_el w1 b j) ∧ ∀ b j, w_fd ws b j = if b = v_ad (n_v vs 2) ∧ j = 11 then n_v vs 22 else w_fd w1 b j := s1.2
  replace f9 := shm_116 f9
  replace f15 := shm_1329 f15
  have q2 : n_v vs 2 = n_v vs 0 := f6.symm
  rw [q2] at s1
  simp only [q2] at f9 f15
  have ar_0_1_1 : w_ar w1 (n_v vs 0) 1 = w_ar ws (n_v vs 0) 1 := by show v_ad (w_fd w1 _ _) = v_ad (w_fd ws _ _); rw [s1.2, if_neg (fun e => absurd e.2 (by decide))]
  have g9 : v_iv (n_v vs 9) = w_fi w1 (n_v vs 0) 11 := congrArg v_iv f9
  simp only [ar_0_1_1] at f15
  have fe_0_10_1 : w_fi ws (n_v vs 0) 10 = w_fi w1 (n_v vs 0) 10 := by show v_iv (w_fd _ _ _) = v_iv (w_fd _ _ _); rw [s1.2, if_neg (fun e => absurd e.2 (by decide))]
  have fe_0_11_1 : w_fi ws (n_v vs 0) 11 = v_iv (n_v vs 22) := by show v_iv (w_fd _ _ _) = _; rw [s1.2, if_pos ⟨rfl, rfl⟩]
  have fe_0_157_1 : w_fi ws (n_v vs 0) 157 = w_fi w1 (n_v vs 0) 157 := by show v_iv (w_fd _ _ _) = v_iv (w_fd _ _ _); rw [s1.2, if_neg (fun e => absurd e.2 (by decide))]
  have hE_0_1_1 : ∀ j : Int, w_ei ws (w_ar ws (n_v vs 0) 1) j = w_ei w1 (w_ar ws (n_v vs 0) 1) j := fun j => s1.1 _ _
  have kz_0_10 := fdq_43 hD hth r0
  have kz_0_11 := fdq_237 hD hth r0
  have kz_0_157 := fdq_35 hD hth r0
  have nf0 : fc_1 PRD (20, [2, 6], [50, 3, 1, 157, 11, 10, 1, 2, 7, 0, 3, 2, 0, 157, 1, 1, 2, 7, 0, 2, 1, 1, 2, 0, 11, 3, 11, 0, 6, 4, 2, 1, 1, 0, 1, 2, 0, 11, 2, 7, 1, 3, 2, 0, 11, 1, 1, 2, 11, 0, 6, 4, 2, 1, 1, 0, 1, 2, 0, 10, 2, 13, 0, 2, 0, 48, 9, 5, 3, 0, 1, 1, 1, 0, 256, 0, 9, 9, 5, 3, 0, 1, 1, 1, 0, 256, 0, 57]) ws (vs) := by
    refine ⟨nf_in hl rfl, sgq_1329 ?_⟩
    · show (w_fi ws (n_v vs 2) 157 ≤ v_iv (n_v vs 6)) ∧ ((v_iv (n_v vs 6) ≤ w_fi ws (n_v vs 2) 11) ∧ (((v_iv (n_v vs 6) + 1) ≤ w_fi ws (n_v vs 2) 11) ∨ ((w_fi ws (n_v vs 2) 11 = v_iv (n_v vs 6)) ∧ (((v_iv (n_v vs 6) + 1) ≤ w_fi ws (n_v vs 2) 10) ∧ ((48 ≤ (w_ei ws (w_ar ws (n_v vs 2) 1) (v_iv (n_v vs 6)) % 256)) ∧ ((w_ei ws (w_ar ws (n_v vs 2) 1) (v_iv (n_v vs 6)) % 256) ≤ 57))))))
      rw [q2]
      exact vc_Mo_styleTokens_30_0 (v_iv (n_v vs 6)) (v_iv (n_v vs 9)) (v_iv (n_v vs 22)) (w_ei ws (w_ar ws (n_v vs 0) 1)) (w_fi ws (n_v vs 0) 10) (w_fi w1 (n_v vs 0) 11) (w_ei w1 (w_ar ws (n_v vs 0) 1)) (w_fi w1 (n_v vs 0) 10) (w_fi w1 (n_v vs 0) 157) (w_fi ws (n_v vs 0) 11) (w_fi ws (n_v vs 0) 157) k6 k9 k22 d0 d1 g9 f15 fe_0_10_1 fe_0_11_1 fe_0_157_1 hE_0_1_1 kz_0_10 kz_0_11 kz_0_157
  refine ⟨(fun _ h => (by cases h)), [], trivial, ?_, (fun _ h => (by cases h))⟩
  rw [List.append_nil]
  exact List.forall_mem_cons.mpr ⟨⟨show (20 : Nat) < 100 from by decide, nf0⟩, (fun _ h => (by cases h))⟩
set_option maxHeartbeats 4000000 in
theorem vc_Mo_styleTokens_31_0 (x6 : Int) (x9 : Int) (x15 : Int) (tape_0 : Int → Int) (limit_0 : Int) (pos_1 : Int) (tape_1 : Int → Int) (limit_1 : Int) (tokens_1 : Int) (pos_0 : Int) (tokens_0 : Int) (k6 : 0 ≤ x6 ∧ x6 ≤ 1999) (k9 : 0 ≤ x9 ∧ x9 ≤ 1999) (k15 : 1 ≤ x15 ∧ x15 ≤ 2000) (d0 : x9 + 1 ≤ x15 ∧ x15 ≤ x9 + 1) (d1 : x9 + (-4294967296) ≤ x6 ∧ x6 ≤ x9 + 0) (g6 : x9 = pos_1) (f9 : (tokens_1 ≤ x6) ∧ ((x6 ≤ pos_1) ∧ (((x6 + 1) ≤ pos_1) ∨ ((pos_1 = x6) ∧ (((x6 + 1) ≤ limit_1) ∧ ((48 ≤ (tape_1 (x6) % 256)) ∧ ((tape_1 (x6) % 256) ≤ 57))))))) (fe_0_10_1 : limit_0 = limit_1) (fe_0_11_1 : pos_0 = x15) (fe_0_157_1 : tokens_0 = tokens_1) (hE_0_1_1 : ∀ j : Int, tape_0 j = tape_1 j) (kz_0_10 : 0 ≤ limit_0 ∧ limit_0 ≤ 2000) (kz_0_11 : 0 ≤ pos_0 ∧ pos_0 ≤ 2000) (kz_0_157 : 0 ≤ tokens_0 ∧ tokens_0 ≤ 2010) : (tokens_0 ≤ x6) ∧ ((x6 ≤ pos_0) ∧ (((x6 + 1) ≤ pos_0) ∨ ((pos_0 = x6) ∧ (((x6 + 1) ≤ limit_0) ∧ ((48 ≤ (tape_0 (x6) % 256)) ∧ ((tape_0 (x6) % 256) ≤ 57)))))) := by
  subst fe_0_10_1
  subst fe_0_157_1
  have e_hE_0_1_1 := funext hE_0_1_1; subst e_hE_0_1_1
  first | assumption | omega | grind
def o_Mo_styleTokens_31 : or_T := (166, 16, [(0, (2, 0, 0, [165])), (6, (0, 0, 1999, [])), (9, (0, 0, 1999, [])), (15, (0, 1, 2000, []))], [(24, [0, 2], []), (101, [2, 15], [11]), (9, [9, 2], [11]), (20, [2, 6], [50, 3, 1, 157, 11, 10, 1, 2, 7, 0, 3, 2, 0, 157, 1, 1, 2, 7, 0, 2, 1, 1, 2, 0, 11, 3, 11, 0, 6, 4, 2, 1, 1, 0, 1, 2, 0, 11, 2, 7, 1, 3, 2, 0, 11, 1, 1, 2, 11, 0, 6, 4, 2, 1, 1, 0, 1, 2, 0, 10, 2, 13, 0, 2, 0, 48, 9, 5, 3, 0, 1, 1, 1, 0, 256, 0, 9, 9, 5, 3, 0, 1, 1, 1, 0, 256, 0, 57])], [], [], [(20, [2, 6], [50, 3, 1, 157, 11, 10, 1, 2, 7, 0, 3, 2, 0, 157, 1, 1, 2, 7, 0, 2, 1, 1, 2, 0, 11, 3, 11, 0, 6, 4, 2, 1, 1, 0, 1, 2, 0, 11, 2, 7, 1, 3, 2, 0, 11, 1, 1, 2, 11, 0, 6, 4, 2, 1, 1, 0, 1, 2, 0, 10, 2, 13, 0, 2, 0, 48, 9, 5, 3, 0, 1, 1, 1, 0, 256, 0, 9, 9, 5, 3, 0, 1, 1, 1, 0, 256, 0, 57])], [], [(15, 9, 1, 1), (6, 9, -4294967296, 0)])
theorem oo_Mo_styleTokens_31 {kA : Nat → ClassId} : or_ok PRD kA GG o_Mo_styleTokens_31 := by
  refine or_mk fun A ta ws vs hD hth hl => ?_
  intro t0 r0 t6 k6 t9 k9 t15 k15 d0 d1 f3 ta1 w1 le1 s1 f6 f9
  replace f3 := shm_5 f3
  have s1 : (∀ b j, w_el ws b j = w_el w1 b j) ∧ ∀ b j, w_fd ws b j = if b = v_ad (n_v vs 2) ∧ j = 11 then n_v vs 15 else w_fd w1 b j := s1.2
  replace f6 := shm_116 f6
  replace f9 := shm_1329 f9
  have q2 : n_v vs 2 = n_v vs 0 := f3.symm
  rw [q2] at s1
  simp only [q2] at f6 f9
  have ar_0_1_1 : w_ar w1 (n_v vs 0) 1 = w_ar ws (n_v vs 0) 1 := by show v_ad (w_fd w1 _ _) = v_ad (w_fd ws _ _); rw [s1.2, if_neg (fun e => absurd e.2 (by decide))]
  have g6 : v_iv (n_v vs 9) = w_fi w1 (n_v vs 0) 11 := congrArg v_iv f6
  simp only [ar_0_1_1] at f9
  have fe_0_10_1 : w_fi ws (n_v vs 0) 10 = w_fi w1 (n_v vs 0) 10 := by show v_iv (w_fd _ _ _) = v_iv (w_fd _ _ _); rw [s1.2, if_neg (fun e => absurd e.2 (by decide))]
  have fe_0_11_1 : w_fi ws (n_v vs 0) 11 = v_iv (n_v vs 15) := by show v_iv (w_fd _ _ _) = _; rw [s1.2, if_pos ⟨rfl, rfl⟩]
  have fe_0_157_1 : w_fi ws (n_v vs 0) 157 = w_fi w1 (n_v vs 0) 157 := by show v_iv (w_fd _ _ _) = v_iv (w_fd _ _ _); rw [s1.2, if_neg (fun e => absurd e.2 (by decide))]
  have hE_0_1_1 : ∀ j : Int, w_ei ws (w_ar ws (n_v vs 0) 1) j = w_ei w1 (w_ar ws (n_v vs 0) 1) j := fun j => s1.1 _ _
  have kz_0_10 := fdq_43 hD hth r0
  have kz_0_11 := fdq_237 hD hth r0
  have kz_0_157 := fdq_35 hD hth r0
  have nf0 : fc_1 PRD (20, [2, 6], [50, 3, 1, 157, 11, 10, 1, 2, 7, 0, 3, 2, 0, 157, 1, 1, 2, 7, 0, 2, 1, 1, 2, 0, 11, 3, 11, 0, 6, 4, 2, 1, 1, 0, 1, 2, 0, 11, 2, 7, 1, 3, 2, 0, 11, 1, 1, 2, 11, 0, 6, 4, 2, 1, 1, 0, 1, 2, 0, 10, 2, 13, 0, 2, 0, 48, 9, 5, 3, 0, 1, 1, 1, 0, 256, 0, 9, 9, 5, 3, 0, 1, 1, 1, 0, 256, 0, 57]) ws (vs) := by
    refine ⟨nf_in hl rfl, sgq_1329 ?_⟩
    · show (w_fi ws (n_v vs 2) 157 ≤ v_iv (n_v vs 6)) ∧ ((v_iv (n_v vs 6) ≤ w_fi ws (n_v vs 2) 11) ∧ (((v_iv (n_v vs 6) + 1) ≤ w_fi ws (n_v vs 2) 11) ∨ ((w_fi ws (n_v vs 2) 11 = v_iv (n_v vs 6)) ∧ (((v_iv (n_v vs 6) + 1) ≤ w_fi ws (n_v vs 2) 10) ∧ ((48 ≤ (w_ei ws (w_ar ws (n_v vs 2) 1) (v_iv (n_v vs 6)) % 256)) ∧ ((w_ei ws (w_ar ws (n_v vs 2) 1) (v_iv (n_v vs 6)) % 256) ≤ 57))))))
      rw [q2]
      exact vc_Mo_styleTokens_31_0 (v_iv (n_v vs 6)) (v_iv (n_v vs 9)) (v_iv (n_v vs 15)) (w_ei ws (w_ar ws (n_v vs 0) 1)) (w_fi ws (n_v vs 0) 10) (w_fi w1 (n_v vs 0) 11) (w_ei w1 (w_ar ws (n_v vs 0) 1)) (w_fi w1 (n_v vs 0) 10) (w_fi w1 (n_v vs 0) 157) (w_fi ws (n_v vs 0) 11) (w_fi ws (n_v vs 0) 157) k6 k9 k15 d0 d1 g6 f9 fe_0_10_1 fe_0_11_1 fe_0_157_1 hE_0_1_1 kz_0_10 kz_0_11 kz_0_157
  refine ⟨(fun _ h => (by cases h)), [], trivial, ?_, (fun _ h => (by cases h))⟩
  rw [List.append_nil]
  exact List.forall_mem_cons.mpr ⟨⟨show (20 : Nat) < 100 from by decide, nf0⟩, (fun _ h => (by cases h))⟩
set_option maxHeartbeats 4000000 in
theorem vc_Mo_styleTokens_32_0 (x6 : Int) (tokens_0 : Int) (pos_0 : Int) (k6 : 0 ≤ x6 ∧ x6 ≤ 1999) (f0 : (tokens_0 ≤ x6) ∧ (pos_0 = x6)) (kz_0_11 : 0 ≤ pos_0 ∧ pos_0 ≤ 2000) (kz_0_157 : 0 ≤ tokens_0 ∧ tokens_0 ≤ 2010) : (tokens_0 ≤ x6) ∧ (pos_0 = x6) := by
  first | assumption | omega | grind
set_option maxHeartbeats 4000000 in
theorem vc_Mo_styleTokens_32_1 (x6 : Int) (x10 : Int) (tokens_0 : Int) (pos_0 : Int) (gx : Int) (k6 : 0 ≤ x6 ∧ x6 ≤ 1999) (k10 : 0 ≤ x10 ∧ x10 ≤ 4001) (f0 : (tokens_0 ≤ x6) ∧ (pos_0 = x6)) (f1 : (-1) * x10 + ((-2) * x6 + 0) ≤ (-4001)) (kz_0_11 : 0 ≤ pos_0 ∧ pos_0 ≤ 2000) (kz_0_157 : 0 ≤ tokens_0 ∧ tokens_0 ≤ 2010) (ex2 : gx = 0 + (1 * x10 + 0)) : (-1) * gx + ((-2) * x6 + 0) ≤ (-4001) := by
  first | assumption | omega | grind
def o_Mo_styleTokens_32 : or_T := (334, 12, [(0, (2, 0, 0, [165])), (2, (2, 0, 0, [165])), (6, (0, 0, 1999, [])), (10, (0, 0, 4001, []))], [(20, [2, 6], [50, 2, 0, 157, 11, 2, 7, 0, 3, 2, 0, 157, 1, 1, 1, 3, 2, 0, 11, 1, 1]), (20, [10, 6], [30, -4001, -1, 0, 0, -2, 0, 0]), (24, [0, 2], [])], [], [(0, 0, 4001, [])], [(20, [2, 6], [50, 2, 0, 157, 11, 2, 7, 0, 3, 2, 0, 157, 1, 1, 1, 3, 2, 0, 11, 1, 1]), (20, [12, 6], [30, -4001, -1, 0, 0, -2, 0, 0]), (24, [0, 2], [])], [(12, 10, 0, 0)], [])
theorem oo_Mo_styleTokens_32 {kA : Nat → ClassId} : or_ok PRD kA GG o_Mo_styleTokens_32 := by
  refine or_mk fun A ta ws vs hD hth hl => ?_
  intro t0 r0 t2 r2 t6 k6 t10 k10 f0 f1 f2
  replace f0 := shm_1328 f0
  replace f1 := shm_1327 f1
  replace f2 := shm_5 f2
  have q2 : n_v vs 2 = n_v vs 0 := f2.symm
  simp only [q2] at f0
  have kz_0_11 := fdq_237 hD hth r0
  have kz_0_157 := fdq_35 hD hth r0
  obtain ⟨x, ex, hx⟩ := iv_ex (ta := ta) (lo := 0) (hi := 4001) (z := 0 + (1 * v_iv (n_v vs 10) + 0)) (by omega) (by omega) (by omega) (by omega)
  have ex2 : v_iv (Value.int x) = 0 + (1 * v_iv (n_v vs 10) + 0) := ex
  have ex3 : 0 ≤ v_iv (Value.int x) ∧ v_iv (Value.int x) ≤ 4001 := tv_rng hx
  have e_0 : n_v (vs ++ [Value.int x]) 0 = n_v vs 0 := n_v_old (by rw [hl]; decide)
  have e_2 : n_v (vs ++ [Value.int x]) 2 = n_v vs 2 := n_v_old (by rw [hl]; decide)
  have e_6 : n_v (vs ++ [Value.int x]) 6 = n_v vs 6 := n_v_old (by rw [hl]; decide)
  have e_12 : n_v (vs ++ [Value.int x]) 12 = Value.int x := n_v_new hl
  have nf0 : fc_1 PRD (20, [2, 6], [50, 2, 0, 157, 11, 2, 7, 0, 3, 2, 0, 157, 1, 1, 1, 3, 2, 0, 11, 1, 1]) ws (vs ++ [Value.int x]) := by
    refine ⟨nf_inA hl rfl, sgq_1328 ?_⟩
    · show (w_fi ws (n_v (vs ++ [Value.int x]) 2) 157 ≤ v_iv (n_v (vs ++ [Value.int x]) 6)) ∧ (w_fi ws (n_v (vs ++ [Value.int x]) 2) 11 = v_iv (n_v (vs ++ [Value.int x]) 6))
      simp only [e_2, e_6, q2]
      exact vc_Mo_styleTokens_32_0 (v_iv (n_v vs 6)) (w_fi ws (n_v vs 0) 157) (w_fi ws (n_v vs 0) 11) k6 f0 kz_0_11 kz_0_157
  have nf1 : fc_1 PRD (20, [12, 6], [30, -4001, -1, 0, 0, -2, 0, 0]) ws (vs ++ [Value.int x]) := by
    refine ⟨nf_inA hl rfl, sgq_1327 ?_⟩
    · show (-1) * v_iv (n_v (vs ++ [Value.int x]) 12) + ((-2) * v_iv (n_v (vs ++ [Value.int x]) 6) + 0) ≤ (-4001)
      simp only [e_6, e_12]
      exact vc_Mo_styleTokens_32_1 (v_iv (n_v vs 6)) (v_iv (n_v vs 10)) (w_fi ws (n_v vs 0) 157) (w_fi ws (n_v vs 0) 11) (v_iv (Value.int x)) k6 k10 f0 f1 kz_0_11 kz_0_157 ex2
  have nf2 : fc_1 PRD (24, [0, 2], []) ws (vs ++ [Value.int x]) := by
    refine ⟨nf_inA hl rfl, sgq_5 ?_⟩
    · show n_v (vs ++ [Value.int x]) 0 = n_v (vs ++ [Value.int x]) 2
      first | rfl | simp only [e_0, e_2, q2]
  obtain ⟨x0, e0, _, _⟩ := tv_int t10 rfl
  have e1 : v_iv (n_v vs 10) = x0.toInt := by rw [e0]; rfl
  have ho : sy_ofs (vs ++ [Value.int x]) (12, 10, 0, 0) := by
    refine ⟨x, x0, by rw [List.getElem?_append_right (by rw [hl]; decide), hl]; rfl, ?_, ?_, ?_⟩
    · rw [List.getElem?_append_left (by rw [hl]; decide)]; exact n_v_some (by rw [hl]; decide) e0
    · show x0.toInt + 0 ≤ x.toInt; omega
    · show x.toInt ≤ x0.toInt + 0; omega
  exact ⟨(fun _ h => (by cases h)), [Value.int x], ag_one hx, List.forall_mem_cons.mpr ⟨⟨show (20 : Nat) < 100 from by decide, nf0⟩, List.forall_mem_cons.mpr ⟨⟨show (20 : Nat) < 100 from by decide, nf1⟩, List.forall_mem_cons.mpr ⟨⟨show (24 : Nat) < 100 from by decide, nf2⟩, (fun _ h => (by cases h))⟩⟩⟩, List.forall_mem_cons.mpr ⟨ho, (fun _ h => (by cases h))⟩⟩
set_option maxHeartbeats 4000000 in
theorem vc_Mo_styleTokens_33_0 (x6 : Int) (tokens_0 : Int) (pos_0 : Int) (k6 : 0 ≤ x6 ∧ x6 ≤ 1999) (f0 : (tokens_0 ≤ x6) ∧ (pos_0 = x6)) (kz_0_11 : 0 ≤ pos_0 ∧ pos_0 ≤ 2000) (kz_0_157 : 0 ≤ tokens_0 ∧ tokens_0 ≤ 2010) : (tokens_0 ≤ x6) ∧ (pos_0 = x6) := by
  first | assumption | omega | grind
set_option maxHeartbeats 4000000 in
theorem vc_Mo_styleTokens_33_1 (x6 : Int) (x10 : Int) (tokens_0 : Int) (pos_0 : Int) (gx : Int) (k6 : 0 ≤ x6 ∧ x6 ≤ 1999) (k10 : 0 ≤ x10 ∧ x10 ≤ 4001) (f0 : (tokens_0 ≤ x6) ∧ (pos_0 = x6)) (f1 : (-1) * x10 + ((-2) * x6 + 0) ≤ (-4001)) (kz_0_11 : 0 ≤ pos_0 ∧ pos_0 ≤ 2000) (kz_0_157 : 0 ≤ tokens_0 ∧ tokens_0 ≤ 2010) (ex2 : gx = 0 + (1 * x10 + 0)) : (-1) * gx + ((-2) * x6 + 0) ≤ (-4001) := by
  first | assumption | omega | grind
def o_Mo_styleTokens_33 : or_T := (334, 13, [(0, (2, 0, 0, [165])), (2, (2, 0, 0, [165])), (6, (0, 0, 1999, [])), (10, (0, 0, 4001, []))], [(20, [2, 6], [50, 2, 0, 157, 11, 2, 7, 0, 3, 2, 0, 157, 1, 1, 1, 3, 2, 0, 11, 1, 1]), (20, [10, 6], [30, -4001, -1, 0, 0, -2, 0, 0]), (24, [0, 2], [])], [], [(0, 0, 4001, [])], [(20, [2, 6], [50, 2, 0, 157, 11, 2, 7, 0, 3, 2, 0, 157, 1, 1, 1, 3, 2, 0, 11, 1, 1]), (20, [13, 6], [30, -4001, -1, 0, 0, -2, 0, 0]), (24, [0, 2], [])], [(13, 10, 0, 0)], [])
theorem oo_Mo_styleTokens_33 {kA : Nat → ClassId} : or_ok PRD kA GG o_Mo_styleTokens_33 := by
  refine or_mk fun A ta ws vs hD hth hl => ?_
  intro t0 r0 t2 r2 t6 k6 t10 k10 f0 f1 f2
  replace f0 := shm_1328 f0
  replace f1 := shm_1327 f1
  replace f2 := shm_5 f2
  have q2 : n_v vs 2 = n_v vs 0 := f2.symm
  simp only [q2] at f0
  have kz_0_11 := fdq_237 hD hth r0
  have kz_0_157 := fdq_35 hD hth r0
  obtain ⟨x, ex, hx⟩ := iv_ex (ta := ta) (lo := 0) (hi := 4001) (z := 0 + (1 * v_iv (n_v vs 10) + 0)) (by omega) (by omega) (by omega) (by omega)
  have ex2 : v_iv (Value.int x) = 0 + (1 * v_iv (n_v vs 10) + 0) := ex
  have ex3 : 0 ≤ v_iv (Value.int x) ∧ v_iv (Value.int x) ≤ 4001 := tv_rng hx
  have e_0 : n_v (vs ++ [Value.int x]) 0 = n_v vs 0 := n_v_old (by rw [hl]; decide)
  have e_2 : n_v (vs ++ [Value.int x]) 2 = n_v vs 2 := n_v_old (by rw [hl]; decide)
  have e_6 : n_v (vs ++ [Value.int x]) 6 = n_v vs 6 := n_v_old (by rw [hl]; decide)
  have e_13 : n_v (vs ++ [Value.int x]) 13 = Value.int x := n_v_new hl
  have nf0 : fc_1 PRD (20, [2, 6], [50, 2, 0, 157, 11, 2, 7, 0, 3, 2, 0, 157, 1, 1, 1, 3, 2, 0, 11, 1, 1]) ws (vs ++ [Value.int x]) := by
    refine ⟨nf_inA hl rfl, sgq_1328 ?_⟩
    · show (w_fi ws (n_v (vs ++ [Value.int x]) 2) 157 ≤ v_iv (n_v (vs ++ [Value.int x]) 6)) ∧ (w_fi ws (n_v (vs ++ [Value.int x]) 2) 11 = v_iv (n_v (vs ++ [Value.int x]) 6))
      simp only [e_2, e_6, q2]
      exact vc_Mo_styleTokens_33_0 (v_iv (n_v vs 6)) (w_fi ws (n_v vs 0) 157) (w_fi ws (n_v vs 0) 11) k6 f0 kz_0_11 kz_0_157
  have nf1 : fc_1 PRD (20, [13, 6], [30, -4001, -1, 0, 0, -2, 0, 0]) ws (vs ++ [Value.int x]) := by
    refine ⟨nf_inA hl rfl, sgq_1327 ?_⟩
    · show (-1) * v_iv (n_v (vs ++ [Value.int x]) 13) + ((-2) * v_iv (n_v (vs ++ [Value.int x]) 6) + 0) ≤ (-4001)
      simp only [e_6, e_13]
      exact vc_Mo_styleTokens_33_1 (v_iv (n_v vs 6)) (v_iv (n_v vs 10)) (w_fi ws (n_v vs 0) 157) (w_fi ws (n_v vs 0) 11) (v_iv (Value.int x)) k6 k10 f0 f1 kz_0_11 kz_0_157 ex2
  have nf2 : fc_1 PRD (24, [0, 2], []) ws (vs ++ [Value.int x]) := by
    refine ⟨nf_inA hl rfl, sgq_5 ?_⟩
    · show n_v (vs ++ [Value.int x]) 0 = n_v (vs ++ [Value.int x]) 2
      first | rfl | simp only [e_0, e_2, q2]
  obtain ⟨x0, e0, _, _⟩ := tv_int t10 rfl
  have e1 : v_iv (n_v vs 10) = x0.toInt := by rw [e0]; rfl
  have ho : sy_ofs (vs ++ [Value.int x]) (13, 10, 0, 0) := by
    refine ⟨x, x0, by rw [List.getElem?_append_right (by rw [hl]; decide), hl]; rfl, ?_, ?_, ?_⟩
    · rw [List.getElem?_append_left (by rw [hl]; decide)]; exact n_v_some (by rw [hl]; decide) e0
    · show x0.toInt + 0 ≤ x.toInt; omega
    · show x.toInt ≤ x0.toInt + 0; omega
  exact ⟨(fun _ h => (by cases h)), [Value.int x], ag_one hx, List.forall_mem_cons.mpr ⟨⟨show (20 : Nat) < 100 from by decide, nf0⟩, List.forall_mem_cons.mpr ⟨⟨show (20 : Nat) < 100 from by decide, nf1⟩, List.forall_mem_cons.mpr ⟨⟨show (24 : Nat) < 100 from by decide, nf2⟩, (fun _ h => (by cases h))⟩⟩⟩, List.forall_mem_cons.mpr ⟨ho, (fun _ h => (by cases h))⟩⟩
set_option maxHeartbeats 4000000 in
theorem vc_Mo_styleTokens_34_0 (x6 : Int) (tokens_0 : Int) (pos_0 : Int) (k6 : 0 ≤ x6 ∧ x6 ≤ 1999) (f0 : (tokens_0 ≤ x6) ∧ (pos_0 = x6)) (kz_0_11 : 0 ≤ pos_0 ∧ pos_0 ≤ 2000) (kz_0_157 : 0 ≤ tokens_0 ∧ tokens_0 ≤ 2010) : (tokens_0 ≤ x6) ∧ (pos_0 = x6) := by
  first | assumption | omega | grind
set_option maxHeartbeats 4000000 in
theorem vc_Mo_styleTokens_34_1 (x6 : Int) (x10 : Int) (tokens_0 : Int) (pos_0 : Int) (gx : Int) (k6 : 0 ≤ x6 ∧ x6 ≤ 1999) (k10 : 0 ≤ x10 ∧ x10 ≤ 4001) (f0 : (tokens_0 ≤ x6) ∧ (pos_0 = x6)) (f1 : (-1) * x10 + ((-2) * x6 + 0) ≤ (-4001)) (kz_0_11 : 0 ≤ pos_0 ∧ pos_0 ≤ 2000) (kz_0_157 : 0 ≤ tokens_0 ∧ tokens_0 ≤ 2010) (ex2 : gx = 0 + (1 * x10 + 0)) : (-1) * gx + ((-2) * x6 + 0) ≤ (-4001) := by
  first | assumption | omega | grind
def o_Mo_styleTokens_34 : or_T := (334, 14, [(0, (2, 0, 0, [165])), (2, (2, 0, 0, [165])), (6, (0, 0, 1999, [])), (10, (0, 0, 4001, []))], [(20, [2, 6], [50, 2, 0, 157, 11, 2, 7, 0, 3, 2, 0, 157, 1, 1, 1, 3, 2, 0, 11, 1, 1]), (20, [10, 6], [30, -4001, -1, 0, 0, -2, 0, 0]), (24, [0, 2], [])], [], [(0, 0, 4001, [])], [(20, [2, 6], [50, 2, 0, 157, 11, 2, 7, 0, 3, 2, 0, 157, 1, 1, 1, 3, 2, 0, 11, 1, 1]), (20, [14, 6], [30, -4001, -1, 0, 0, -2, 0, 0]), (24, [0, 2], [])], [(14, 10, 0, 0)], [])
theorem oo_Mo_styleTokens_34 {kA : Nat → ClassId} : or_ok PRD kA GG o_Mo_styleTokens_34 := by
  refine or_mk fun A ta ws vs hD hth hl => ?_
  intro t0 r0 t2 r2 t6 k6 t10 k10 f0 f1 f2
  replace f0 := shm_1328 f0
  replace f1 := shm_1327 f1
  replace f2 := shm_5 f2
  have q2 : n_v vs 2 = n_v vs 0 := f2.symm
  simp only [q2] at f0
  have kz_0_11 := fdq_237 hD hth r0
  have kz_0_157 := fdq_35 hD hth r0
  obtain ⟨x, ex, hx⟩ := iv_ex (ta := ta) (lo := 0) (hi := 4001) (z := 0 + (1 * v_iv (n_v vs 10) + 0)) (by omega) (by omega) (by omega) (by omega)
  have ex2 : v_iv (Value.int x) = 0 + (1 * v_iv (n_v vs 10) + 0) := ex
  have ex3 : 0 ≤ v_iv (Value.int x) ∧ v_iv (Value.int x) ≤ 4001 := tv_rng hx
  have e_0 : n_v (vs ++ [Value.int x]) 0 = n_v vs 0 := n_v_old (by rw [hl]; decide)
  have e_2 : n_v (vs ++ [Value.int x]) 2 = n_v vs 2 := n_v_old (by rw [hl]; decide)
  have e_6 : n_v (vs ++ [Value.int x]) 6 = n_v vs 6 := n_v_old (by rw [hl]; decide)
  have e_14 : n_v (vs ++ [Value.int x]) 14 = Value.int x := n_v_new hl
  have nf0 : fc_1 PRD (20, [2, 6], [50, 2, 0, 157, 11, 2, 7, 0, 3, 2, 0, 157, 1, 1, 1, 3, 2, 0, 11, 1, 1]) ws (vs ++ [Value.int x]) := by
    refine ⟨nf_inA hl rfl, sgq_1328 ?_⟩
    · show (w_fi ws (n_v (vs ++ [Value.int x]) 2) 157 ≤ v_iv (n_v (vs ++ [Value.int x]) 6)) ∧ (w_fi ws (n_v (vs ++ [Value.int x]) 2) 11 = v_iv (n_v (vs ++ [Value.int x]) 6))
      simp only [e_2, e_6, q2]
      exact vc_Mo_styleTokens_34_0 (v_iv (n_v vs 6)) (w_fi ws (n_v vs 0) 157) (w_fi ws (n_v vs 0) 11) k6 f0 kz_0_11 kz_0_157
  have nf1 : fc_1 PRD (20, [14, 6], [30, -4001, -1, 0, 0, -2, 0, 0]) ws (vs ++ [Value.int x]) := by
    refine ⟨nf_inA hl rfl, sgq_1327 ?_⟩
    · show (-1) * v_iv (n_v (vs ++ [Value.int x]) 14) + ((-2) * v_iv (n_v (vs ++ [Value.int x]) 6) + 0) ≤ (-4001)
      simp only [e_6, e_14]
      exact vc_Mo_styleTokens_34_1 (v_iv (n_v vs 6)) (v_iv (n_v vs 10)) (w_fi ws (n_v vs 0) 157) (w_fi ws (n_v vs 0) 11) (v_iv (Value.int x)) k6 k10 f0 f1 kz_0_11 kz_0_157 ex2
  have nf2 : fc_1 PRD (24, [0, 2], []) ws (vs ++ [Value.int x]) := by
    refine ⟨nf_inA hl rfl, sgq_5 ?_⟩
    · show n_v (vs ++ [Value.int x]) 0 = n_v (vs ++ [Value.int x]) 2
      first | rfl | simp only [e_0, e_2, q2]
  obtain ⟨x0, e0, _, _⟩ := tv_int t10 rfl
  have e1 : v_iv (n_v vs 10) = x0.toInt := by rw [e0]; rfl
  have ho : sy_ofs (vs ++ [Value.int x]) (14, 10, 0, 0) := by
    refine ⟨x, x0, by rw [List.getElem?_append_right (by rw [hl]; decide), hl]; rfl, ?_, ?_, ?_⟩
    · rw [List.getElem?_append_left (by rw [hl]; decide)]; exact n_v_some (by rw [hl]; decide) e0
    · show x0.toInt + 0 ≤ x.toInt; omega
    · show x.toInt ≤ x0.toInt + 0; omega
  exact ⟨(fun _ h => (by cases h)), [Value.int x], ag_one hx, List.forall_mem_cons.mpr ⟨⟨show (20 : Nat) < 100 from by decide, nf0⟩, List.forall_mem_cons.mpr ⟨⟨show (20 : Nat) < 100 from by decide, nf1⟩, List.forall_mem_cons.mpr ⟨⟨show (24 : Nat) < 100 from by decide, nf2⟩, (fun _ h => (by cases h))⟩⟩⟩, List.forall_mem_cons.mpr ⟨ho, (fun _ h => (by cases h))⟩⟩
set_option maxHeartbeats 4000000 in
theorem vc_Mo_styleTokens_35_0 (x6 : Int) (tokens_0 : Int) (pos_0 : Int) (k6 : 0 ≤ x6 ∧ x6 ≤ 1999) (f0 : (tokens_0 ≤ x6) ∧ (pos_0 = x6)) (kz_0_11 : 0 ≤ pos_0 ∧ pos_0 ≤ 2000) (kz_0_157 : 0 ≤ tokens_0 ∧ tokens_0 ≤ 2010) : (tokens_0 ≤ x6) ∧ (pos_0 = x6) := by
  first | assumption | omega | grind
set_option maxHeartbeats 4000000 in
theorem vc_Mo_styleTokens_35_1 (x6 : Int) (x10 : Int) (tokens_0 : Int) (pos_0 : Int) (gx : Int) (k6 : 0 ≤ x6 ∧ x6 ≤ 1999) (k10 : 0 ≤ x10 ∧ x10 ≤ 4001) (f0 : (tokens_0 ≤ x6) ∧ (pos_0 = x6)) (f1 : (-1) * x10 + ((-2) * x6 + 0) ≤ (-4001)) (kz_0_11 : 0 ≤ pos_0 ∧ pos_0 ≤ 2000) (kz_0_157 : 0 ≤ tokens_0 ∧ tokens_0 ≤ 2010) (ex2 : gx = 0 + (1 * x10 + 0)) : (-1) * gx + ((-2) * x6 + 0) ≤ (-4001) := by
  first | assumption | omega | grind
def o_Mo_styleTokens_35 : or_T := (334, 15, [(0, (2, 0, 0, [165])), (2, (2, 0, 0, [165])), (6, (0, 0, 1999, [])), (10, (0, 0, 4001, []))], [(20, [2, 6], [50, 2, 0, 157, 11, 2, 7, 0, 3, 2, 0, 157, 1, 1, 1, 3, 2, 0, 11, 1, 1]), (20, [10, 6], [30, -4001, -1, 0, 0, -2, 0, 0]), (24, [0, 2], [])], [], [(0, 0, 4001, [])], [(20, [2, 6], [50, 2, 0, 157, 11, 2, 7, 0, 3, 2, 0, 157, 1, 1, 1, 3, 2, 0, 11, 1, 1]), (20, [15, 6], [30, -4001, -1, 0, 0, -2, 0, 0]), (24, [0, 2], [])], [(15, 10, 0, 0)], [])
theorem oo_Mo_styleTokens_35 {kA : Nat → ClassId} : or_ok PRD kA GG o_Mo_styleTokens_35 := by
  refine or_mk fun A ta ws vs hD hth hl => ?_
  intro t0 r0 t2 r2 t6 k6 t10 k10 f0 f1 f2
  replace f0 := shm_1328 f0
  replace f1 := shm_1327 f1
  replace f2 := shm_5 f2
  have q2 : n_v vs 2 = n_v vs 0 := f2.symm
  simp only [q2] at f0
  have kz_0_11 := fdq_237 hD hth r0
  have kz_0_157 := fdq_35 hD hth r0
  obtain ⟨x, ex, hx⟩ := iv_ex (ta := ta) (lo := 0) (hi := 4001) (z := 0 + (1 * v_iv (n_v vs 10) + 0)) (by omega) (by omega) (by omega) (by omega)
  have ex2 : v_iv (Value.int x) = 0 + (1 * v_iv (n_v vs 10) + 0) := ex
  have ex3 : 0 ≤ v_iv (Value.int x) ∧ v_iv (Value.int x) ≤ 4001 := tv_rng hx
  have e_0 : n_v (vs ++ [Value.int x]) 0 = n_v vs 0 := n_v_old (by rw [hl]; decide)
  have e_2 : n_v (vs ++ [Value.int x]) 2 = n_v vs 2 := n_v_old (by rw [hl]; decide)
  have e_6 : n_v (vs ++ [Value.int x]) 6 = n_v vs 6 := n_v_old (by rw [hl]; decide)
  have e_15 : n_v (vs ++ [Value.int x]) 15 = Value.int x := n_v_new hl
  have nf0 : fc_1 PRD (20, [2, 6], [50, 2, 0, 157, 11, 2, 7, 0, 3, 2, 0, 157, 1, 1, 1, 3, 2, 0, 11, 1, 1]) ws (vs ++ [Value.int x]) := by
    refine ⟨nf_inA hl rfl, sgq_1328 ?_⟩
    · show (w_fi ws (n_v (vs ++ [Value.int x]) 2) 157 ≤ v_iv (n_v (vs ++ [Value.int x]) 6)) ∧ (w_fi ws (n_v (vs ++ [Value.int x]) 2) 11 = v_iv (n_v (vs ++ [Value.int x]) 6))
      simp only [e_2, e_6, q2]
      exact vc_Mo_styleTokens_35_0 (v_iv (n_v vs 6)) (w_fi ws (n_v vs 0) 157) (w_fi ws (n_v vs 0) 11) k6 f0 kz_0_11 kz_0_157
  have nf1 : fc_1 PRD (20, [15, 6], [30, -4001, -1, 0, 0, -2, 0, 0]) ws (vs ++ [Value.int x]) := by
    refine ⟨nf_inA hl rfl, sgq_1327 ?_⟩
    · show (-1) * v_iv (n_v (vs ++ [Value.int x]) 15) + ((-2) * v_iv (n_v (vs ++ [Value.int x]) 6) + 0) ≤ (-4001)
      simp only [e_6, e_15]
      exact vc_Mo_styleTokens_35_1 (v_iv (n_v vs 6)) (v_iv (n_v vs 10)) (w_fi ws (n_v vs 0) 157) (w_fi ws (n_v vs 0) 11) (v_iv (Value.int x)) k6 k10 f0 f1 kz_0_11 kz_0_157 ex2
  have nf2 : fc_1 PRD (24, [0, 2], []) ws (vs ++ [Value.int x]) := by
    refine ⟨nf_inA hl rfl, sgq_5 ?_⟩
    · show n_v (vs ++ [Value.int x]) 0 = n_v (vs ++ [Value.int x]) 2
      first | rfl | simp only [e_0, e_2, q2]
  obtain ⟨x0, e0, _, _⟩ := tv_int t10 rfl
  have e1 : v_iv (n_v vs 10) = x0.toInt := by rw [e0]; rfl
  have ho : sy_ofs (vs ++ [Value.int x]) (15, 10, 0, 0) := by
    refine ⟨x, x0, by rw [List.getElem?_append_right (by rw [hl]; decide), hl]; rfl, ?_, ?_, ?_⟩
    · rw [List.getElem?_append_left (by rw [hl]; decide)]; exact n_v_some (by rw [hl]; decide) e0
    · show x0.toInt + 0 ≤ x.toInt; omega
    · show x.toInt ≤ x0.toInt + 0; omega
  exact ⟨(fun _ h => (by cases h)), [Value.int x], ag_one hx, List.forall_mem_cons.mpr ⟨⟨show (20 : Nat) < 100 from by decide, nf0⟩, List.forall_mem_cons.mpr ⟨⟨show (20 : Nat) < 100 from by decide, nf1⟩, List.forall_mem_cons.mpr ⟨⟨show (24 : Nat) < 100 from by decide, nf2⟩, (fun _ h => (by cases h))⟩⟩⟩, List.forall_mem_cons.mpr ⟨ho, (fun _ h => (by cases h))⟩⟩
set_option maxHeartbeats 4000000 in
theorem vc_Mo_styleTokens_36_0 (x6 : Int) (tokens_0 : Int) (pos_0 : Int) (k6 : 0 ≤ x6 ∧ x6 ≤ 1999) (f0 : (tokens_0 ≤ x6) ∧ (pos_0 = x6)) (kz_0_11 : 0 ≤ pos_0 ∧ pos_0 ≤ 2000) (kz_0_157 : 0 ≤ tokens_0 ∧ tokens_0 ≤ 2010) : (tokens_0 ≤ x6) ∧ (pos_0 = x6) := by
  first | assumption | omega | grind
set_option maxHeartbeats 4000000 in
theorem vc_Mo_styleTokens_36_1 (x6 : Int) (x10 : Int) (tokens_0 : Int) (pos_0 : Int) (gx : Int) (k6 : 0 ≤ x6 ∧ x6 ≤ 1999) (k10 : 0 ≤ x10 ∧ x10 ≤ 4001) (f0 : (tokens_0 ≤ x6) ∧ (pos_0 = x6)) (f1 : (-1) * x10 + ((-2) * x6 + 0) ≤ (-4001)) (kz_0_11 : 0 ≤ pos_0 ∧ pos_0 ≤ 2000) (kz_0_157 : 0 ≤ tokens_0 ∧ tokens_0 ≤ 2010) (ex2 : gx = 0 + (1 * x10 + 0)) : (-1) * gx + ((-2) * x6 + 0) ≤ (-4001) := by
  first | assumption | omega | grind
def o_Mo_styleTokens_36 : or_T := (334, 16, [(0, (2, 0, 0, [165])), (2, (2, 0, 0, [165])), (6, (0, 0, 1999, [])), (10, (0, 0, 4001, []))], [(20, [2, 6], [50, 2, 0, 157, 11, 2, 7, 0, 3, 2, 0, 157, 1, 1, 1, 3, 2, 0, 11, 1, 1]), (20, [10, 6], [30, -4001, -1, 0, 0, -2, 0, 0]), (24, [0, 2], [])], [], [(0, 0, 4001, [])], [(20, [2, 6], [50, 2, 0, 157, 11, 2, 7, 0, 3, 2, 0, 157, 1, 1, 1, 3, 2, 0, 11, 1, 1]), (20, [16, 6], [30, -4001, -1, 0, 0, -2, 0, 0]), (24, [0, 2], [])], [(16, 10, 0, 0)], [])
theorem oo_Mo_styleTokens_36 {kA : Nat → ClassId} : or_ok PRD kA GG o_Mo_styleTokens_36 := by
  refine or_mk fun A ta ws vs hD hth hl => ?_
  intro t0 r0 t2 r2 t6 k6 t10 k10 f0 f1 f2
  replace f0 := shm_1328 f0
  replace f1 := shm_1327 f1
  replace f2 := shm_5 f2
  have q2 : n_v vs 2 = n_v vs 0 := f2.symm
  simp only [q2] at f0
  have kz_0_11 := fdq_237 hD hth r0
  have kz_0_157 := fdq_35 hD hth r0
  obtain ⟨x, ex, hx⟩ := iv_ex (ta := ta) (lo := 0) (hi := 4001) (z := 0 + (1 * v_iv (n_v vs 10) + 0)) (by omega) (by omega) (by omega) (by omega)
  have ex2 : v_iv (Value.int x) = 0 + (1 * v_iv (n_v vs 10) + 0) := ex
  have ex3 : 0 ≤ v_iv (Value.int x) ∧ v_iv (Value.int x) ≤ 4001 := tv_rng hx
  have e_0 : n_v (vs ++ [Value.int x]) 0 = n_v vs 0 := n_v_old (by rw [hl]; decide)
  have e_2 : n_v (vs ++ [Value.int x]) 2 = n_v vs 2 := n_v_old (by rw [hl]; decide)
  have e_6 : n_v (vs ++ [Value.int x]) 6 = n_v vs 6 := n_v_old (by rw [hl]; decide)
  have e_16 : n_v (vs ++ [Value.int x]) 16 = Value.int x := n_v_new hl
  have nf0 : fc_1 PRD (20, [2, 6], [50, 2, 0, 157, 11, 2, 7, 0, 3, 2, 0, 157, 1, 1, 1, 3, 2, 0, 11, 1, 1]) ws (vs ++ [Value.int x]) := by
    refine ⟨nf_inA hl rfl, sgq_1328 ?_⟩
    · show (w_fi ws (n_v (vs ++ [Value.int x]) 2) 157 ≤ v_iv (n_v (vs ++ [Value.int x]) 6)) ∧ (w_fi ws (n_v (vs ++ [Value.int x]) 2) 11 = v_iv (n_v (vs ++ [Value.int x]) 6))
      simp only [e_2, e_6, q2]
      exact vc_Mo_styleTokens_36_0 (v_iv (n_v vs 6)) (w_fi ws (n_v vs 0) 157) (w_fi ws (n_v vs 0) 11) k6 f0 kz_0_11 kz_0_157
  have nf1 : fc_1 PRD (20, [16, 6], [30, -4001, -1, 0, 0, -2, 0, 0]) ws (vs ++ [Value.int x]) := by
    refine ⟨nf_inA hl rfl, sgq_1327 ?_⟩
    · show (-1) * v_iv (n_v (vs ++ [Value.int x]) 16) + ((-2) * v_iv (n_v (vs ++ [Value.int x]) 6) + 0) ≤ (-4001)
      simp only [e_6, e_16]
      exact vc_Mo_styleTokens_36_1 (v_iv (n_v vs 6)) (v_iv (n_v vs 10)) (w_fi ws (n_v vs 0) 157) (w_fi ws (n_v vs 0) 11) (v_iv (Value.int x)) k6 k10 f0 f1 kz_0_11 kz_0_157 ex2
  have nf2 : fc_1 PRD (24, [0, 2], []) ws (vs ++ [Value.int x]) := by
    refine ⟨nf_inA hl rfl, sgq_5 ?_⟩
    · show n_v (vs ++ [Value.int x]) 0 = n_v (vs ++ [Value.int x]) 2
      first | rfl | simp only [e_0, e_2, q2]
  obtain ⟨x0, e0, _, _⟩ := tv_int t10 rfl
  have e1 : v_iv (n_v vs 10) = x0.toInt := by rw [e0]; rfl
  have ho : sy_ofs (vs ++ [Value.int x]) (16, 10, 0, 0) := by
    refine ⟨x, x0, by rw [List.getElem?_append_right (by rw [hl]; decide), hl]; rfl, ?_, ?_, ?_⟩
    · rw [List.getElem?_append_left (by rw [hl]; decide)]; exact n_v_some (by rw [hl]; decide) e0
    · show x0.toInt + 0 ≤ x.toInt; omega
    · show x.toInt ≤ x0.toInt + 0; omega
  exact ⟨(fun _ h => (by cases h)), [Value.int x], ag_one hx, List.forall_mem_cons.mpr ⟨⟨show (20 : Nat) < 100 from by decide, nf0⟩, List.forall_mem_cons.mpr ⟨⟨show (20 : Nat) < 100 from by decide, nf1⟩, List.forall_mem_cons.mpr ⟨⟨show (24 : Nat) < 100 from by decide, nf2⟩, (fun _ h => (by cases h))⟩⟩⟩, List.forall_mem_cons.mpr ⟨ho, (fun _ h => (by cases h))⟩⟩
set_option maxHeartbeats 4000000 in
theorem vc_Mo_styleTokens_37_0 (x6 : Int) (tokens_0 : Int) (pos_0 : Int) (k6 : 0 ≤ x6 ∧ x6 ≤ 1999) (f0 : (tokens_0 ≤ x6) ∧ (pos_0 = x6)) (kz_0_11 : 0 ≤ pos_0 ∧ pos_0 ≤ 2000) (kz_0_157 : 0 ≤ tokens_0 ∧ tokens_0 ≤ 2010) : (tokens_0 ≤ x6) ∧ (pos_0 = x6) := by
  first | assumption | omega | grind
set_option maxHeartbeats 4000000 in
theorem vc_Mo_styleTokens_37_1 (x6 : Int) (x10 : Int) (tokens_0 : Int) (pos_0 : Int) (gx : Int) (k6 : 0 ≤ x6 ∧ x6 ≤ 1999) (k10 : 0 ≤ x10 ∧ x10 ≤ 4001) (f0 : (tokens_0 ≤ x6) ∧ (pos_0 = x6)) (f1 : (-1) * x10 + ((-2) * x6 + 0) ≤ (-4001)) (kz_0_11 : 0 ≤ pos_0 ∧ pos_0 ≤ 2000) (kz_0_157 : 0 ≤ tokens_0 ∧ tokens_0 ≤ 2010) (ex2 : gx = 0 + (1 * x10 + 0)) : (-1) * gx + ((-2) * x6 + 0) ≤ (-4001) := by
  first | assumption | omega | grind
def o_Mo_styleTokens_37 : or_T := (334, 17, [(0, (2, 0, 0, [165])), (2, (2, 0, 0, [165])), (6, (0, 0, 1999, [])), (10, (0, 0, 4001, []))], [(20, [2, 6], [50, 2, 0, 157, 11, 2, 7, 0, 3, 2, 0, 157, 1, 1, 1, 3, 2, 0, 11, 1, 1]), (20, [10, 6], [30, -4001, -1, 0, 0, -2, 0, 0]), (24, [0, 2], [])], [], [(0, 0, 4001, [])], [(20, [2, 6], [50, 2, 0, 157, 11, 2, 7, 0, 3, 2, 0, 157, 1, 1, 1, 3, 2, 0, 11, 1, 1]), (20, [17, 6], [30, -4001, -1, 0, 0, -2, 0, 0]), (24, [0, 2], [])], [(17, 10, 0, 0)], [])
theorem oo_Mo_styleTokens_37 {kA : Nat → ClassId} : or_ok PRD kA GG o_Mo_styleTokens_37 := by
  refine or_mk fun A ta ws vs hD hth hl => ?_
  intro t0 r0 t2 r2 t6 k6 t10 k10 f0 f1 f2
  replace f0 := shm_1328 f0
  replace f1 := shm_1327 f1
  replace f2 := shm_5 f2
  have q2 : n_v vs 2 = n_v vs 0 := f2.symm
  simp only [q2] at f0
  have kz_0_11 := fdq_237 hD hth r0
  have kz_0_157 := fdq_35 hD hth r0
  obtain ⟨x, ex, hx⟩ := iv_ex (ta := ta) (lo := 0) (hi := 4001) (z := 0 + (1 * v_iv (n_v vs 10) + 0)) (by omega) (by omega) (by omega) (by omega)
  have ex2 : v_iv (Value.int x) = 0 + (1 * v_iv (n_v vs 10) + 0) := ex
  have ex3 : 0 ≤ v_iv (Value.int x) ∧ v_iv (Value.int x) ≤ 4001 := tv_rng hx
  have e_0 : n_v (vs ++ [Value.int x]) 0 = n_v vs 0 := n_v_old (by rw [hl]; decide)
  have e_2 : n_v (vs ++ [Value.int x]) 2 = n_v vs 2 := n_v_old (by rw [hl]; decide)
  have e_6 : n_v (vs ++ [Value.int x]) 6 = n_v vs 6 := n_v_old (by rw [hl]; decide)
  have e_17 : n_v (vs ++ [Value.int x]) 17 = Value.int x := n_v_new hl
  have nf0 : fc_1 PRD (20, [2, 6], [50, 2, 0, 157, 11, 2, 7, 0, 3, 2, 0, 157, 1, 1, 1, 3, 2, 0, 11, 1, 1]) ws (vs ++ [Value.int x]) := by
    refine ⟨nf_inA hl rfl, sgq_1328 ?_⟩
    · show (w_fi ws (n_v (vs ++ [Value.int x]) 2) 157 ≤ v_iv (n_v (vs ++ [Value.int x]) 6)) ∧ (w_fi ws (n_v (vs ++ [Value.int x]) 2) 11 = v_iv (n_v (vs ++ [Value.int x]) 6))
      simp only [e_2, e_6, q2]
      exact vc_Mo_styleTokens_37_0 (v_iv (n_v vs 6)) (w_fi ws (n_v vs 0) 157) (w_fi ws (n_v vs 0) 11) k6 f0 kz_0_11 kz_0_157
  have nf1 : fc_1 PRD (20, [17, 6], [30, -4001, -1, 0, 0, -2, 0, 0]) ws (vs ++ [Value.int x]) := by
    refine ⟨nf_inA hl rfl, sgq_1327 ?_⟩
    · show (-1) * v_iv (n_v (vs ++ [Value.int x]) 17) + ((-2) * v_iv (n_v (vs ++ [Value.int x]) 6) + 0) ≤ (-4001)
      simp only [e_6, e_17]
      exact vc_Mo_styleTokens_37_1 (v_iv (n_v vs 6)) (v_iv (n_v vs 10)) (w_fi ws (n_v vs 0) 157) (w_fi ws (n_v vs 0) 11) (v_iv (Value.int x)) k6 k10 f0 f1 kz_0_11 kz_0_157 ex2
  have nf2 : fc_1 PRD (24, [0, 2], []) ws (vs ++ [Value.int x]) := by
    refine ⟨nf_inA hl rfl, sgq_5 ?_⟩
    · show n_v (vs ++ [Value.int x]) 0 = n_v (vs ++ [Value.int x]) 2
      first | rfl | simp only [e_0, e_2, q2]
  obtain ⟨x0, e0, _, _⟩ := tv_int t10 rfl
  have e1 : v_iv (n_v vs 10) = x0.toInt := by rw [e0]; rfl
  have ho : sy_ofs (vs ++ [Value.int x]) (17, 10, 0, 0) := by
    refine ⟨x, x0, by rw [List.getElem?_append_right (by rw [hl]; decide), hl]; rfl, ?_, ?_, ?_⟩
    · rw [List.getElem?_append_left (by rw [hl]; decide)]; exact n_v_some (by rw [hl]; decide) e0
    · show x0.toInt + 0 ≤ x.toInt; omega
    · show x.toInt ≤ x0.toInt + 0; omega
  exact ⟨(fun _ h => (by cases h)), [Value.int x], ag_one hx, List.forall_mem_cons.mpr ⟨⟨show (20 : Nat) < 100 from by decide, nf0⟩, List.forall_mem_cons.mpr ⟨⟨show (20 : Nat) < 100 from by decide, nf1⟩, List.forall_mem_cons.mpr ⟨⟨show (24 : Nat) < 100 from by decide, nf2⟩, (fun _ h => (by cases h))⟩⟩⟩, List.forall_mem_cons.mpr ⟨ho, (fun _ h => (by cases h))⟩⟩

set_option maxHeartbeats 4000000 in
theorem vc_Mo_styleTokens_38_0 (x6 : Int) (tokens_0 : Int) (pos_0 : Int) (k6 : 0 ≤ x6 ∧ x6 ≤ 1999) (f0 : (tokens_0 ≤ x6) ∧ (pos_0 = x6)) (kz_0_11 : 0 ≤ pos_0 ∧ pos_0 ≤ 2000) (kz_0_157 : 0 ≤ tokens_0 ∧ tokens_0 ≤ 2010) : (tokens_0 ≤ x6) ∧ (pos_0 = x6) := by
  first | assumption | omega | grind
set_option maxHeartbeats 4000000 in
theorem vc_Mo_styleTokens_38_1 (x6 : Int) (x10 : Int) (tokens_0 : Int) (pos_0 : Int) (gx : Int) (k6 : 0 ≤ x6 ∧ x6 ≤ 1999) (k10 : 0 ≤ x10 ∧ x10 ≤ 4001) (f0 : (tokens_0 ≤ x6) ∧ (pos_0 = x6)) (f1 : (-1) * x10 + ((-2) * x6 + 0) ≤ (-4001)) (kz_0_11 : 0 ≤ pos_0 ∧ pos_0 ≤ 2000) (kz_0_157 : 0 ≤ tokens_0 ∧ tokens_0 ≤ 2010) (ex2 : gx = 0 + (1 * x10 + 0)) : (-1) * gx + ((-2) * x6 + 0) ≤ (-4001) := by
  first | assumption | omega | grind
def o_Mo_styleTokens_38 : or_T := (334, 18, [(0, (2, 0, 0, [165])), (2, (2, 0, 0, [165])), (6, (0, 0, 1999, [])), (10, (0, 0, 4001, []))], [(20, [2, 6], [50, 2, 0, 157, 11, 2, 7, 0, 3, 2, 0, 157, 1, 1, 1, 3, 2, 0, 11, 1, 1]), (20, [10, 6], [30, -4001, -1, 0, 0, -2, 0, 0]), (24, [0, 2], [])], [], [(0, 0, 4001, [])], [(20, [2, 6], [50, 2, 0, 157, 11, 2, 7, 0, 3, 2, 0, 157, 1, 1, 1, 3, 2, 0, 11, 1, 1]), (20, [18, 6], [30, -4001, -1, 0, 0, -2, 0, 0]), (24, [0, 2], [])], [(18, 10, 0, 0)], [])
theorem oo_Mo_styleTokens_38 {kA : Nat → ClassId} : or_ok PRD kA GG o_Mo_styleTokens_38 := by
  refine or_mk fun A ta ws vs hD hth hl => ?_
  intro t0 r0 t2 r2 t6 k6 t10 k10 f0 f1 f2
  replace f0 := shm_1328 f0
  replace f1 := shm_1327 f1
  replace f2 := shm_5 f2
  have q2 : n_v vs 2 = n_v vs 0 := f2.symm
  simp only [q2] at f0
  have kz_0_11 := fdq_237 hD hth r0
  have kz_0_157 := fdq_35 hD hth r0
  obtain ⟨x, ex, hx⟩ := iv_ex (ta := ta) (lo := 0) (hi := 4001) (z := 0 + (1 * v_iv (n_v vs 10) + 0)) (by omega) (by omega) (by omega) (by omega)
  have ex2 : v_iv (Value.int x) = 0 + (1 * v_iv (n_v vs 10) + 0) := ex
  have ex3 : 0 ≤ v_iv (Value.int x) ∧ v_iv (Value.int x) ≤ 4001 := tv_rng hx
  have e_0 : n_v (vs ++ [Value.int x]) 0 = n_v vs 0 := n_v_old (by rw [hl]; decide)
  have e_2 : n_v (vs ++ [Value.int x]) 2 = n_v vs 2 := n_v_old (by rw [hl]; decide)
  have e_6 : n_v (vs ++ [Value.int x]) 6 = n_v vs 6 := n_v_old (by rw [hl]; decide)
  have e_18 : n_v (vs ++ [Value.int x]) 18 = Value.int x := n_v_new hl
  have nf0 : fc_1 PRD (20, [2, 6], [50, 2, 0, 157, 11, 2, 7, 0, 3, 2, 0, 157, 1, 1, 1, 3, 2, 0, 11, 1, 1]) ws (vs ++ [Value.int x]) := by
    refine ⟨nf_inA hl rfl, sgq_1328 ?_⟩
    · show (w_fi ws (n_v (vs ++ [Value.int x]) 2) 157 ≤ v_iv (n_v (vs ++ [Value.int x]) 6)) ∧ (w_fi ws (n_v (vs ++ [Value.int x]) 2) 11 = v_iv (n_v (vs ++ [Value.int x]) 6))
      simp only [e_2, e_6, q2]
      exact vc_Mo_styleTokens_38_0 (v_iv (n_v vs 6)) (w_fi ws (n_v vs 0) 157) (w_fi ws (n_v vs 0) 11) k6 f0 kz_0_11 kz_0_157
  have nf1 : fc_1 PRD (20, [18, 6], [30, -4001, -1, 0, 0, -2, 0, 0]) ws (vs ++ [Value.int x]) := by
    refine ⟨nf_inA hl rfl, sgq_1327 ?_⟩
    · show (-1) * v_iv (n_v (vs ++ [Value.int x]) 18) + ((-2) * v_iv (n_v (vs ++ [Value.int x]) 6) + 0) ≤ (-4001)
      simp only [e_6, e_18]
      exact vc_Mo_styleTokens_38_1 (v_iv (n_v vs 6)) (v_iv (n_v vs 10)) (w_fi ws (n_v vs 0) 157) (w_fi ws (n_v vs 0) 11) (v_iv (Value.int x)) k6 k10 f0 f1 kz_0_11 kz_0_157 ex2
  have nf2 : fc_1 PRD (24, [0, 2], []) ws (vs ++ [Value.int x]) := by
    refine ⟨nf_inA hl rfl, sgq_5 ?_⟩
    · show n_v (vs ++ [Value.int x]) 0 = n_v (vs ++ [Value.int x]) 2
      first | rfl | simp only [e_0, e_2, q2]
  obtain ⟨x0, e0, _, _⟩ := tv_int t10 rfl
  have e1 : v_iv (n_v vs 10) = x0.toInt := by rw [e0]; rfl
  have ho : sy_ofs (vs ++ [Value.int x]) (18, 10, 0, 0) := by
    refine ⟨x, x0, by rw [List.getElem?_append_right (by rw [hl]; decide), hl]; rfl, ?_, ?_, ?_⟩
    · rw [List.getElem?_append_left (by rw [hl]; decide)]; exact n_v_some (by rw [hl]; decide) e0
    · show x0.toInt + 0 ≤ x.toInt; omega
    · show x.toInt ≤ x0.toInt + 0; omega
  exact ⟨(fun _ h => (by cases h)), [Value.int x], ag_one hx, List.forall_mem_cons.mpr ⟨⟨show (20 : Nat) < 100 from by decide, nf0⟩, List.forall_mem_cons.mpr ⟨⟨show (20 : Nat) < 100 from by decide, nf1⟩, List.forall_mem_cons.mpr ⟨⟨show (24 : Nat) < 100 from by decide, nf2⟩, (fun _ h => (by cases h))⟩⟩⟩, List.forall_mem_cons.mpr ⟨ho, (fun _ h => (by cases h))⟩⟩
set_option maxHeartbeats 4000000 in
theorem vc_Mo_styleTokens_39_0 (x6 : Int) (tokens_0 : Int) (pos_0 : Int) (k6 : 0 ≤ x6 ∧ x6 ≤ 1999) (f0 : (tokens_0 ≤ x6) ∧ (pos_0 = x6)) (kz_0_11 : 0 ≤ pos_0 ∧ pos_0 ≤ 2000) (kz_0_157 : 0 ≤ tokens_0 ∧ tokens_0 ≤ 2010) : (tokens_0 ≤ x6) ∧ (pos_0 = x6) := by
  first | assumption | omega | grind
set_option maxHeartbeats 4000000 in
theorem vc_Mo_styleTokens_39_1 (x6 : Int) (x10 : Int) (tokens_0 : Int) (pos_0 : Int) (gx : Int) (k6 : 0 ≤ x6 ∧ x6 ≤ 1999) (k10 : 0 ≤ x10 ∧ x10 ≤ 4001) (f0 : (tokens_0 ≤ x6) ∧ (pos_0 = x6)) (f1 : (-1) * x10 + ((-2) * x6 + 0) ≤ (-4001)) (kz_0_11 : 0 ≤ pos_0 ∧ pos_0 ≤ 2000) (kz_0_157 : 0 ≤ tokens_0 ∧ tokens_0 ≤ 2010) (ex2 : gx = 0 + (1 * x10 + 0)) : (-1) * gx + ((-2) * x6 + 0) ≤ (-4001) := by
  first | assumption | omega | grind
def o_Mo_styleTokens_39 : or_T := (334, 19, [(0, (2, 0, 0, [165])), (2, (2, 0, 0, [165])), (6, (0, 0, 1999, [])), (10, (0, 0, 4001, []))], [(20, [2, 6], [50, 2, 0, 157, 11, 2, 7, 0, 3, 2, 0, 157, 1, 1, 1, 3, 2, 0, 11, 1, 1]), (20, [10, 6], [30, -4001, -1, 0, 0, -2, 0, 0]), (24, [0, 2], [])], [], [(0, 0, 4001, [])], [(20, [2, 6], [50, 2, 0, 157, 11, 2, 7, 0, 3, 2, 0, 157, 1, 1, 1, 3, 2, 0, 11, 1, 1]), (20, [19, 6], [30, -4001, -1, 0, 0, -2, 0, 0]), (24, [0, 2], [])], [(19, 10, 0, 0)], [])
theorem oo_Mo_styleTokens_39 {kA : Nat → ClassId} : or_ok PRD kA GG o_Mo_styleTokens_39 := by
  refine or_mk fun A ta ws vs hD hth hl => ?_
  intro t0 r0 t2 r2 t6 k6 t10 k10 f0 f1 f2
  replace f0 := shm_1328 f0
  replace f1 := shm_1327 f1
  replace f2 := shm_5 f2
  have q2 : n_v vs 2 = n_v vs 0 := f2.symm
  simp only [q2] at f0
  have kz_0_11 := fdq_237 hD hth r0
  have kz_0_157 := fdq_35 hD hth r0
  obtain ⟨x, ex, hx⟩ := iv_ex (ta := ta) (lo := 0) (hi := 4001) (z := 0 + (1 * v_iv (n_v vs 10) + 0)) (by omega) (by omega) (by omega) (by omega)
  have ex2 : v_iv (Value.int x) = 0 + (1 * v_iv (n_v vs 10) + 0) := ex
  have ex3 : 0 ≤ v_iv (Value.int x) ∧ v_iv (Value.int x) ≤ 4001 := tv_rng hx
  have e_0 : n_v (vs ++ [Value.int x]) 0 = n_v vs 0 := n_v_old (by rw [hl]; decide)
  have e_2 : n_v (vs ++ [Value.int x]) 2 = n_v vs 2 := n_v_old (by rw [hl]; decide)
  have e_6 : n_v (vs ++ [Value.int x]) 6 = n_v vs 6 := n_v_old (by rw [hl]; decide)
  have e_19 : n_v (vs ++ [Value.int x]) 19 = Value.int x := n_v_new hl
  have nf0 : fc_1 PRD (20, [2, 6], [50, 2, 0, 157, 11, 2, 7, 0, 3, 2, 0, 157, 1, 1, 1, 3, 2, 0, 11, 1, 1]) ws (vs ++ [Value.int x]) := by
    refine ⟨nf_inA hl rfl, sgq_1328 ?_⟩
    · show (w_fi ws (n_v (vs ++ [Value.int x]) 2) 157 ≤ v_iv (n_v (vs ++ [Value.int x]) 6)) ∧ (w_fi ws (n_v (vs ++ [Value.int x]) 2) 11 = v_iv (n_v (vs ++ [Value.int x]) 6))
      simp only [e_2, e_6, q2]
      exact vc_Mo_styleTokens_39_0 (v_iv (n_v vs 6)) (w_fi ws (n_v vs 0) 157) (w_fi ws (n_v vs 0) 11) k6 f0 kz_0_11 kz_0_157
  have nf1 : fc_1 PRD (20, [19, 6], [30, -4001, -1, 0, 0, -2, 0, 0]) ws (vs ++ [Value.int x]) := by
    refine ⟨nf_inA hl rfl, sgq_1327 ?_⟩
    · show (-1) * v_iv (n_v (vs ++ [Value.int x]) 19) + ((-2) * v_iv (n_v (vs ++ [Value.int x]) 6) + 0) ≤ (-4001)
      simp only [e_6, e_19]
      exact vc_Mo_styleTokens_39_1 (v_iv (n_v vs 6)) (v_iv (n_v vs 10)) (w_fi ws (n_v vs 0) 157) (w_fi ws (n_v vs 0) 11) (v_iv (Value.int x)) k6 k10 f0 f1 kz_0_11 kz_0_157 ex2
  have nf2 : fc_1 PRD (24, [0, 2], []) ws (vs ++ [Value.int x]) := by
    refine ⟨nf_inA hl rfl, sgq_5 ?_⟩
    · show n_v (vs ++ [Value.int x]) 0 = n_v (vs ++ [Value.int x]) 2
      first | rfl | simp only [e_0, e_2, q2]
  obtain ⟨x0, e0, _, _⟩ := tv_int t10 rfl
  have e1 : v_iv (n_v vs 10) = x0.toInt := by rw [e0]; rfl
  have ho : sy_ofs (vs ++ [Value.int x]) (19, 10, 0, 0) := by
    refine ⟨x, x0, by rw [List.getElem?_append_right (by rw [hl]; decide), hl]; rfl, ?_, ?_, ?_⟩
    · rw [List.getElem?_append_left (by rw [hl]; decide)]; exact n_v_some (by rw [hl]; decide) e0
    · show x0.toInt + 0 ≤ x.toInt; omega
    · show x.toInt ≤ x0.toInt + 0; omega
  exact ⟨(fun _ h => (by cases h)), [Value.int x], ag_one hx, List.forall_mem_cons.mpr ⟨⟨show (20 : Nat) < 100 from by decide, nf0⟩, List.forall_mem_cons.mpr ⟨⟨show (20 : Nat) < 100 from by decide, nf1⟩, List.forall_mem_cons.mpr ⟨⟨show (24 : Nat) < 100 from by decide, nf2⟩, (fun _ h => (by cases h))⟩⟩⟩, List.forall_mem_cons.mpr ⟨ho, (fun _ h => (by cases h))⟩⟩
set_option maxHeartbeats 4000000 in
theorem vc_Mo_styleTokens_40_0 (x6 : Int) (tokens_0 : Int) (pos_0 : Int) (k6 : 0 ≤ x6 ∧ x6 ≤ 1999) (f0 : (tokens_0 ≤ x6) ∧ (pos_0 = x6)) (kz_0_11 : 0 ≤ pos_0 ∧ pos_0 ≤ 2000) (kz_0_157 : 0 ≤ tokens_0 ∧ tokens_0 ≤ 2010) : (tokens_0 ≤ x6) ∧ (pos_0 = x6) := by
  first | assumption | omega | grind
set_option maxHeartbeats 4000000 in
theorem vc_Mo_styleTokens_40_1 (x6 : Int) (x10 : Int) (tokens_0 : Int) (pos_0 : Int) (gx : Int) (k6 : 0 ≤ x6 ∧ x6 ≤ 1999) (k10 : 0 ≤ x10 ∧ x10 ≤ 4001) (f0 : (tokens_0 ≤ x6) ∧ (pos_0 = x6)) (f1 : (-1) * x10 + ((-2) * x6 + 0) ≤ (-4001)) (kz_0_11 : 0 ≤ pos_0 ∧ pos_0 ≤ 2000) (kz_0_157 : 0 ≤ tokens_0 ∧ tokens_0 ≤ 2010) (ex2 : gx = 0 + (1 * x10 + 0)) : (-1) * gx + ((-2) * x6 + 0) ≤ (-4001) := by
  first | assumption | omega | grind
def o_Mo_styleTokens_40 : or_T := (334, 20, [(0, (2, 0, 0, [165])), (2, (2, 0, 0, [165])), (6, (0, 0, 1999, [])), (10, (0, 0, 4001, []))], [(20, [2, 6], [50, 2, 0, 157, 11, 2, 7, 0, 3, 2, 0, 157, 1, 1, 1, 3, 2, 0, 11, 1, 1]), (20, [10, 6], [30, -4001, -1, 0, 0, -2, 0, 0]), (24, [0, 2], [])], [], [(0, 0, 4001, [])], [(20, [2, 6], [50, 2, 0, 157, 11, 2, 7, 0, 3, 2, 0, 157, 1, 1, 1, 3, 2, 0, 11, 1, 1]), (20, [20, 6], [30, -4001, -1, 0, 0, -2, 0, 0]), (24, [0, 2], [])], [(20, 10, 0, 0)], [])
theorem oo_Mo_styleTokens_40 {kA : Nat → ClassId} : or_ok PRD kA GG o_Mo_styleTokens_40 := by
  refine or_mk fun A ta ws vs hD hth hl => ?_
  intro t0 r0 t2 r2 t6 k6 t10 k10 f0 f1 f2
  replace f0 := shm_1328 f0
  replace f1 := shm_1327 f1
  replace f2 := shm_5 f2
  have q2 : n_v vs 2 = n_v vs 0 := f2.symm
  simp only [q2] at f0
  have kz_0_11 := fdq_237 hD hth r0
  have kz_0_157 := fdq_35 hD hth r0
  obtain ⟨x, ex, hx⟩ := iv_ex (ta := ta) (lo := 0) (hi := 4001) (z := 0 + (1 * v_iv (n_v vs 10) + 0)) (by omega) (by omega) (by omega) (by omega)
  have ex2 : v_iv (Value.int x) = 0 + (1 * v_iv (n_v vs 10) + 0) := ex
  have ex3 : 0 ≤ v_iv (Value.int x) ∧ v_iv (Value.int x) ≤ 4001 := tv_rng hx
  have e_0 : n_v (vs ++ [Value.int x]) 0 = n_v vs 0 := n_v_old (by rw [hl]; decide)
  have e_2 : n_v (vs ++ [Value.int x]) 2 = n_v vs 2 := n_v_old (by rw [hl]; decide)
  have e_6 : n_v (vs ++ [Value.int x]) 6 = n_v vs 6 := n_v_old (by rw [hl]; decide)
  have e_20 : n_v (vs ++ [Value.int x]) 20 = Value.int x := n_v_new hl
  have nf0 : fc_1 PRD (20, [2, 6], [50, 2, 0, 157, 11, 2, 7, 0, 3, 2, 0, 157, 1, 1, 1, 3, 2, 0, 11, 1, 1]) ws (vs ++ [Value.int x]) := by
    refine ⟨nf_inA hl rfl, sgq_1328 ?_⟩
    · show (w_fi ws (n_v (vs ++ [Value.int x]) 2) 157 ≤ v_iv (n_v (vs ++ [Value.int x]) 6)) ∧ (w_fi ws (n_v (vs ++ [Value.int x]) 2) 11 = v_iv (n_v (vs ++ [Value.int x]) 6))
      simp only [e_2, e_6, q2]
      exact vc_Mo_styleTokens_40_0 (v_iv (n_v vs 6)) (w_fi ws (n_v vs 0) 157) (w_fi ws (n_v vs 0) 11) k6 f0 kz_0_11 kz_0_157
  have nf1 : fc_1 PRD (20, [20, 6], [30, -4001, -1, 0, 0, -2, 0, 0]) ws (vs ++ [Value.int x]) := by
    refine ⟨nf_inA hl rfl, sgq_1327 ?_⟩
    · show (-1) * v_iv (n_v (vs ++ [Value.int x]) 20) + ((-2) * v_iv (n_v (vs ++ [Value.int x]) 6) + 0) ≤ (-4001)
      simp only [e_6, e_20]
      exact vc_Mo_styleTokens_40_1 (v_iv (n_v vs 6)) (v_iv (n_v vs 10)) (w_fi ws (n_v vs 0) 157) (w_fi ws (n_v vs 0) 11) (v_iv (Value.int x)) k6 k10 f0 f1 kz_0_11 kz_0_157 ex2
  have nf2 : fc_1 PRD (24, [0, 2], []) ws (vs ++ [Value.int x]) := by
    refine ⟨nf_inA hl rfl, sgq_5 ?_⟩
    · show n_v (vs ++ [Value.int x]) 0 = n_v (vs ++ [Value.int x]) 2
      first | rfl | simp only [e_0, e_2, q2]
  obtain ⟨x0, e0, _, _⟩ := tv_int t10 rfl
  have e1 : v_iv (n_v vs 10) = x0.toInt := by rw [e0]; rfl
  have ho : sy_ofs (vs ++ [Value.int x]) (20, 10, 0, 0) := by
    refine ⟨x, x0, by rw [List.getElem?_append_right (by rw [hl]; decide), hl]; rfl, ?_, ?_, ?_⟩
    · rw [List.getElem?_append_left (by rw [hl]; decide)]; exact n_v_some (by rw [hl]; decide) e0
    · show x0.toInt + 0 ≤ x.toInt; omega
    · show x.toInt ≤ x0.toInt + 0; omega
  exact ⟨(fun _ h => (by cases h)), [Value.int x], ag_one hx, List.forall_mem_cons.mpr ⟨⟨show (20 : Nat) < 100 from by decide, nf0⟩, List.forall_mem_cons.mpr ⟨⟨show (20 : Nat) < 100 from by decide, nf1⟩, List.forall_mem_cons.mpr ⟨⟨show (24 : Nat) < 100 from by decide, nf2⟩, (fun _ h => (by cases h))⟩⟩⟩, List.forall_mem_cons.mpr ⟨ho, (fun _ h => (by cases h))⟩⟩
set_option maxHeartbeats 4000000 in
theorem vc_Mo_styleTokens_41_0 (x6 : Int) (tokens_0 : Int) (pos_0 : Int) (k6 : 0 ≤ x6 ∧ x6 ≤ 1999) (f0 : (tokens_0 ≤ x6) ∧ (pos_0 = x6)) (kz_0_11 : 0 ≤ pos_0 ∧ pos_0 ≤ 2000) (kz_0_157 : 0 ≤ tokens_0 ∧ tokens_0 ≤ 2010) : (tokens_0 ≤ x6) ∧ (pos_0 = x6) := by
  first | assumption | omega | grind
set_option maxHeartbeats 4000000 in
theorem vc_Mo_styleTokens_41_1 (x6 : Int) (x10 : Int) (tokens_0 : Int) (pos_0 : Int) (gx : Int) (k6 : 0 ≤ x6 ∧ x6 ≤ 1999) (k10 : 0 ≤ x10 ∧ x10 ≤ 4001) (f0 : (tokens_0 ≤ x6) ∧ (pos_0 = x6)) (f1 : (-1) * x10 + ((-2) * x6 + 0) ≤ (-4001)) (kz_0_11 : 0 ≤ pos_0 ∧ pos_0 ≤ 2000) (kz_0_157 : 0 ≤ tokens_0 ∧ tokens_0 ≤ 2010) (ex2 : gx = 0 + (1 * x10 + 0)) : (-1) * gx + ((-2) * x6 + 0) ≤ (-4001) := by
  first | assumption | omega | grind
def o_Mo_styleTokens_41 : or_T := (334, 21, [(0, (2, 0, 0, [165])), (2, (2, 0, 0, [165])), (6, (0, 0, 1999, [])), (10, (0, 0, 4001, []))], [(20, [2, 6], [50, 2, 0, 157, 11, 2, 7, 0, 3, 2, 0, 157, 1, 1, 1, 3, 2, 0, 11, 1, 1]), (20, [10, 6], [30, -4001, -1, 0, 0, -2, 0, 0]), (24, [0, 2], [])], [], [(0, 0, 4001, [])], [(20, [2, 6], [50, 2, 0, 157, 11, 2, 7, 0, 3, 2, 0, 157, 1, 1, 1, 3, 2, 0, 11, 1, 1]), (20, [21, 6], [30, -4001, -1, 0, 0, -2, 0, 0]), (24, [0, 2], [])], [(21, 10, 0, 0)], [])
theorem oo_Mo_styleTokens_41 {kA : Nat → ClassId} : or_ok PRD kA GG o_Mo_styleTokens_41 := by
  refine or_mk fun A ta ws vs hD hth hl => ?_
  intro t0 r0 t2 r2 t6 k6 t10 k10 f0 f1 f2
  replace f0 := shm_1328 f0
  replace f1 := shm_1327 f1
  replace f2 := shm_5 f2
  have q2 : n_v vs 2 = n_v vs 0 := f2.symm
  simp only [q2] at f0
  have kz_0_11 := fdq_237 hD hth r0
  have kz_0_157 := fdq_35 hD hth r0
  obtain ⟨x, ex, hx⟩ := iv_ex (ta := ta) (lo := 0) (hi := 4001) (z := 0 + (1 * v_iv (n_v vs 10) + 0)) (by omega) (by omega) (by omega) (by omega)
  have ex2 : v_iv (Value.int x) = 0 + (1 * v_iv (n_v vs 10) + 0) := ex
  have ex3 : 0 ≤ v_iv (Value.int x) ∧ v_iv (Value.int x) ≤ 4001 := tv_rng hx
  have e_0 : n_v (vs ++ [Value.int x]) 0 = n_v vs 0 := n_v_old (by rw [hl]; decide)
  have e_2 : n_v (vs ++ [Value.int x]) 2 = n_v vs 2 := n_v_old (by rw [hl]; decide)
  have e_6 : n_v (vs ++ [Value.int x]) 6 = n_v vs 6 := n_v_old (by rw [hl]; decide)
  have e_21 : n_v (vs ++ [Value.int x]) 21 = Value.int x := n_v_new hl
  have nf0 : fc_1 PRD (20, [2, 6], [50, 2, 0, 157, 11, 2, 7, 0, 3, 2, 0, 157, 1, 1, 1, 3, 2, 0, 11, 1, 1]) ws (vs ++ [Value.int x]) := by
    refine ⟨nf_inA hl rfl, sgq_1328 ?_⟩
    · show (w_fi ws (n_v (vs ++ [Value.int x]) 2) 157 ≤ v_iv (n_v (vs ++ [Value.int x]) 6)) ∧ (w_fi ws (n_v (vs ++ [Value.int x]) 2) 11 = v_iv (n_v (vs ++ [Value.int x]) 6))
      simp only [e_2, e_6, q2]
      exact vc_Mo_styleTokens_41_0 (v_iv (n_v vs 6)) (w_fi ws (n_v vs 0) 157) (w_fi ws (n_v vs 0) 11) k6 f0 kz_0_11 kz_0_157
  have nf1 : fc_1 PRD (20, [21, 6], [30, -4001, -1, 0, 0, -2, 0, 0]) ws (vs ++ [Value.int x]) := by
    refine ⟨nf_inA hl rfl, sgq_1327 ?_⟩
    · show (-1) * v_iv (n_v (vs ++ [Value.int x]) 21) + ((-2) * v_iv (n_v (vs ++ [Value.int x]) 6) + 0) ≤ (-4001)
      simp only [e_6, e_21]
      exact vc_Mo_styleTokens_41_1 (v_iv (n_v vs 6)) (v_iv (n_v vs 10)) (w_fi ws (n_v vs 0) 157) (w_fi ws (n_v vs 0) 11) (v_iv (Value.int x)) k6 k10 f0 f1 kz_0_11 kz_0_157 ex2
  have nf2 : fc_1 PRD (24, [0, 2], []) ws (vs ++ [Value.int x]) := by
    refine ⟨nf_inA hl rfl, sgq_5 ?_⟩
    · show n_v (vs ++ [Value.int x]) 0 = n_v (vs ++ [Value.int x]) 2
      first | rfl | simp only [e_0, e_2, q2]
  obtain ⟨x0, e0, _, _⟩ := tv_int t10 rfl
  have e1 : v_iv (n_v vs 10) = x0.toInt := by rw [e0]; rfl
  have ho : sy_ofs (vs ++ [Value.int x]) (21, 10, 0, 0) := by
    refine ⟨x, x0, by rw [List.getElem?_append_right (by rw [hl]; decide), hl]; rfl, ?_, ?_, ?_⟩
    · rw [List.getElem?_append_left (by rw [hl]; decide)]; exact n_v_some (by rw [hl]; decide) e0
    · show x0.toInt + 0 ≤ x.toInt; omega
    · show x.toInt ≤ x0.toInt + 0; omega
  exact ⟨(fun _ h => (by cases h)), [Value.int x], ag_one hx, List.forall_mem_cons.mpr ⟨⟨show (20 : Nat) < 100 from by decide, nf0⟩, List.forall_mem_cons.mpr ⟨⟨show (20 : Nat) < 100 from by decide, nf1⟩, List.forall_mem_cons.mpr ⟨⟨show (24 : Nat) < 100 from by decide, nf2⟩, (fun _ h => (by cases h))⟩⟩⟩, List.forall_mem_cons.mpr ⟨ho, (fun _ h => (by cases h))⟩⟩
set_option maxHeartbeats 4000000 in
theorem vc_Mo_styleTokens_42_0 (x6 : Int) (tokens_0 : Int) (pos_0 : Int) (k6 : 0 ≤ x6 ∧ x6 ≤ 1999) (f0 : (tokens_0 ≤ x6) ∧ (pos_0 = x6)) (kz_0_11 : 0 ≤ pos_0 ∧ pos_0 ≤ 2000) (kz_0_157 : 0 ≤ tokens_0 ∧ tokens_0 ≤ 2010) : (tokens_0 ≤ x6) ∧ (pos_0 = x6) := by
  first | assumption | omega | grind
set_option maxHeartbeats 4000000 in
theorem vc_Mo_styleTokens_42_1 (x6 : Int) (x10 : Int) (tokens_0 : Int) (pos_0 : Int) (gx : Int) (k6 : 0 ≤ x6 ∧ x6 ≤ 1999) (k10 : 0 ≤ x10 ∧ x10 ≤ 4001) (f0 : (tokens_0 ≤ x6) ∧ (pos_0 = x6)) (f1 : (-1) * x10 + ((-2) * x6 + 0) ≤ (-4001)) (kz_0_11 : 0 ≤ pos_0 ∧ pos_0 ≤ 2000) (kz_0_157 : 0 ≤ tokens_0 ∧ tokens_0 ≤ 2010) (ex2 : gx = 0 + (1 * x10 + 0)) : (-1) * gx + ((-2) * x6 + 0) ≤ (-4001) := by
  first | assumption | omega | grind
def o_Mo_styleTokens_42 : or_T := (334, 22, [(0, (2, 0, 0, [165])), (2, (2, 0, 0, [165])), (6, (0, 0, 1999, [])), (10, (0, 0, 4001, []))], [(20, [2, 6], [50, 2, 0, 157, 11, 2, 7, 0, 3, 2, 0, 157, 1, 1, 1, 3, 2, 0, 11, 1, 1]), (20, [10, 6], [30, -4001, -1, 0, 0, -2, 0, 0]), (24, [0, 2], [])], [], [(0, 0, 4001, [])], [(20, [2, 6], [50, 2, 0, 157, 11, 2, 7, 0, 3, 2, 0, 157, 1, 1, 1, 3, 2, 0, 11, 1, 1]), (20, [22, 6], [30, -4001, -1, 0, 0, -2, 0, 0]), (24, [0, 2], [])], [(22, 10, 0, 0)], [])
theorem oo_Mo_styleTokens_42 {kA : Nat → ClassId} : or_ok PRD kA GG o_Mo_styleTokens_42 := by
  refine or_mk fun A ta ws vs hD hth hl => ?_
  intro t0 r0 t2 r2 t6 k6 t10 k10 f0 f1 f2
  replace f0 := shm_1328 f0
  replace f1 := shm_1327 f1
  replace f2 := shm_5 f2
  have q2 : n_v vs 2 = n_v vs 0 := f2.symm
  simp only [q2] at f0
  have kz_0_11 := fdq_237 hD hth r0
  have kz_0_157 := fdq_35 hD hth r0
  obtain ⟨x, ex, hx⟩ := iv_ex (ta := ta) (lo := 0) (hi := 4001) (z := 0 + (1 * v_iv (n_v vs 10) + 0)) (by omega) (by omega) (by omega) (by omega)
  have ex2 : v_iv (Value.int x) = 0 + (1 * v_iv (n_v vs 10) + 0) := ex
  have ex3 : 0 ≤ v_iv (Value.int x) ∧ v_iv (Value.int x) ≤ 4001 := tv_rng hx
  have e_0 : n_v (vs ++ [Value.int x]) 0 = n_v vs 0 := n_v_old (by rw [hl]; decide)
  have e_2 : n_v (vs ++ [Value.int x]) 2 = n_v vs 2 := n_v_old (by rw [hl]; decide)
  have e_6 : n_v (vs ++ [Value.int x]) 6 = n_v vs 6 := n_v_old (by rw [hl]; decide)
  have e_22 : n_v (vs ++ [Value.int x]) 22 = Value.int x := n_v_new hl
  have nf0 : fc_1 PRD (20, [2, 6], [50, 2, 0, 157, 11, 2, 7, 0, 3, 2, 0, 157, 1, 1, 1, 3, 2, 0, 11, 1, 1]) ws (vs ++ [Value.int x]) := by
    refine ⟨nf_inA hl rfl, sgq_1328 ?_⟩
    · show (w_fi ws (n_v (vs ++ [Value.int x]) 2) 157 ≤ v_iv (n_v (vs ++ [Value.int x]) 6)) ∧ (w_fi ws (n_v (vs ++ [Value.int x]) 2) 11 = v_iv (n_v (vs ++ [Value.int x]) 6))
      simp only [e_2, e_6, q2]
      exact vc_Mo_styleTokens_42_0 (v_iv (n_v vs 6)) (w_fi ws (n_v vs 0) 157) (w_fi ws (n_v vs 0) 11) k6 f0 kz_0_11 kz_0_157
  have nf1 : fc_1 PRD (20, [22, 6], [30, -4001, -1, 0, 0, -2, 0, 0]) ws (vs ++ [Value.int x]) := by
    refine ⟨nf_inA hl rfl, sgq_1327 ?_⟩
    · show (-1) * v_iv (n_v (vs ++ [Value.int x]) 22) + ((-2) * v_iv (n_v (vs ++ [Value.int x]) 6) + 0) ≤ (-4001)
      simp only [e_6, e_22]
      exact vc_Mo_styleTokens_42_1 (v_iv (n_v vs 6)) (v_iv (n_v vs 10)) (w_fi ws (n_v vs 0) 157) (w_fi ws (n_v vs 0) 11) (v_iv (Value.int x)) k6 k10 f0 f1 kz_0_11 kz_0_157 ex2
  have nf2 : fc_1 PRD (24, [0, 2], []) ws (vs ++ [Value.int x]) := by
    refine ⟨nf_inA hl rfl, sgq_5 ?_⟩
    · show n_v (vs ++ [Value.int x]) 0 = n_v (vs ++ [Value.int x]) 2
      first | rfl | simp only [e_0, e_2, q2]
  obtain ⟨x0, e0, _, _⟩ := tv_int t10 rfl
  have e1 : v_iv (n_v vs 10) = x0.toInt := by rw [e0]; rfl
  have ho : sy_ofs (vs ++ [Value.int x]) (22, 10, 0, 0) := by
    refine ⟨x, x0, by rw [List.getElem?_append_right (by rw [hl]; decide), hl]; rfl, ?_, ?_, ?_⟩
    · rw [List.getElem?_append_left (by rw [hl]; decide)]; exact n_v_some (by rw [hl]; decide) e0
    · show x0.toInt + 0 ≤ x.toInt; omega
    · show x.toInt ≤ x0.toInt + 0; omega
  exact ⟨(fun _ h => (by cases h)), [Value.int x], ag_one hx, List.forall_mem_cons.mpr ⟨⟨show (20 : Nat) < 100 from by decide, nf0⟩, List.forall_mem_cons.mpr ⟨⟨show (20 : Nat) < 100 from by decide, nf1⟩, List.forall_mem_cons.mpr ⟨⟨show (24 : Nat) < 100 from by decide, nf2⟩, (fun _ h => (by cases h))⟩⟩⟩, List.forall_mem_cons.mpr ⟨ho, (fun _ h => (by cases h))⟩⟩
set_option maxHeartbeats 4000000 in
theorem vc_Mo_styleTokens_43_0 (x6 : Int) (tokens_0 : Int) (pos_0 : Int) (k6 : 0 ≤ x6 ∧ x6 ≤ 1999) (f0 : (tokens_0 ≤ x6) ∧ (pos_0 = x6)) (kz_0_11 : 0 ≤ pos_0 ∧ pos_0 ≤ 2000) (kz_0_157 : 0 ≤ tokens_0 ∧ tokens_0 ≤ 2010) : (tokens_0 ≤ x6) ∧ (pos_0 = x6) := by
  first | assumption | omega | grind
set_option maxHeartbeats 4000000 in
theorem vc_Mo_styleTokens_43_1 (x6 : Int) (x10 : Int) (tokens_0 : Int) (pos_0 : Int) (gx : Int) (k6 : 0 ≤ x6 ∧ x6 ≤ 1999) (k10 : 0 ≤ x10 ∧ x10 ≤ 4001) (f0 : (tokens_0 ≤ x6) ∧ (pos_0 = x6)) (f1 : (-1) * x10 + ((-2) * x6 + 0) ≤ (-4001)) (kz_0_11 : 0 ≤ pos_0 ∧ pos_0 ≤ 2000) (kz_0_157 : 0 ≤ tokens_0 ∧ tokens_0 ≤ 2010) (ex2 : gx = 0 + (1 * x10 + 0)) : (-1) * gx + ((-2) * x6 + 0) ≤ (-4001) := by
  first | assumption | omega | grind
def o_Mo_styleTokens_43 : or_T := (334, 23, [(0, (2, 0, 0, [165])), (2, (2, 0, 0, [165])), (6, (0, 0, 1999, [])), (10, (0, 0, 4001, []))], [(20, [2, 6], [50, 2, 0, 157, 11, 2, 7, 0, 3, 2, 0, 157, 1, 1, 1, 3, 2, 0, 11, 1, 1]), (20, [10, 6], [30, -4001, -1, 0, 0, -2, 0, 0]), (24, [0, 2], [])], [], [(0, 0, 4001, [])], [(20, [2, 6], [50, 2, 0, 157, 11, 2, 7, 0, 3, 2, 0, 157, 1, 1, 1, 3, 2, 0, 11, 1, 1]), (20, [23, 6], [30, -4001, -1, 0, 0, -2, 0, 0]), (24, [0, 2], [])], [(23, 10, 0, 0)], [])
theorem oo_Mo_styleTokens_43 {kA : Nat → ClassId} : or_ok PRD kA GG o_Mo_styleTokens_43 := by
  refine or_mk fun A ta ws vs hD hth hl => ?_
  intro t0 r0 t2 r2 t6 k6 t10 k10 f0 f1 f2
  replace f0 := shm_1328 f0
  replace f1 := shm_1327 f1
  replace f2 := shm_5 f2
  have q2 : n_v vs 2 = n_v vs 0 := f2.symm
  simp only [q2] at f0
  have kz_0_11 := fdq_237 hD hth r0
  have kz_0_157 := fdq_35 hD hth r0
  obtain ⟨x, ex, hx⟩ := iv_ex (ta := ta) (lo := 0) (hi := 4001) (z := 0 + (1 * v_iv (n_v vs 10) + 0)) (by omega) (by omega) (by omega) (by omega)
  have ex2 : v_iv (Value.int x) = 0 + (1 * v_iv (n_v vs 10) + 0) := ex
  have ex3 : 0 ≤ v_iv (Value.int x) ∧ v_iv (Value.int x) ≤ 4001 := tv_rng hx
  have e_0 : n_v (vs ++ [Value.int x]) 0 = n_v vs 0 := n_v_old (by rw [hl]; decide)
  have e_2 : n_v (vs ++ [Value.int x]) 2 = n_v vs 2 := n_v_old (by rw [hl]; decide)
  have e_6 : n_v (vs ++ [Value.int x]) 6 = n_v vs 6 := n_v_old (by rw [hl]; decide)
  have e_23 : n_v (vs ++ [Value.int x]) 23 = Value.int x := n_v_new hl
  have nf0 : fc_1 PRD (20, [2, 6], [50, 2, 0, 157, 11, 2, 7, 0, 3, 2, 0, 157, 1, 1, 1, 3, 2, 0, 11, 1, 1]) ws (vs ++ [Value.int x]) := by
    refine ⟨nf_inA hl rfl, sgq_1328 ?_⟩
    · show (w_fi ws (n_v (vs ++ [Value.int x]) 2) 157 ≤ v_iv (n_v (vs ++ [Value.int x]) 6)) ∧ (w_fi ws (n_v (vs ++ [Value.int x]) 2) 11 = v_iv (n_v (vs ++ [Value.int x]) 6))
      simp only [e_2, e_6, q2]
      exact vc_Mo_styleTokens_43_0 (v_iv (n_v vs 6)) (w_fi ws (n_v vs 0) 157) (w_fi ws (n_v vs 0) 11) k6 f0 kz_0_11 kz_0_157
  have nf1 : fc_1 PRD (20, [23, 6], [30, -4001, -1, 0, 0, -2, 0, 0]) ws (vs ++ [Value.int x]) := by
    refine ⟨nf_inA hl rfl, sgq_1327 ?_⟩
    · show (-1) * v_iv (n_v (vs ++ [Value.int x]) 23) + ((-2) * v_iv (n_v (vs ++ [Value.int x]) 6) + 0) ≤ (-4001)
      simp only [e_6, e_23]
      exact vc_Mo_styleTokens_43_1 (v_iv (n_v vs 6)) (v_iv (n_v vs 10)) (w_fi ws (n_v vs 0) 157) (w_fi ws (n_v vs 0) 11) (v_iv (Value.int x)) k6 k10 f0 f1 kz_0_11 kz_0_157 ex2
  have nf2 : fc_1 PRD (24, [0, 2], []) ws (vs ++ [Value.int x]) := by
    refine ⟨nf_inA hl rfl, sgq_5 ?_⟩
    · show n_v (vs ++ [Value.int x]) 0 = n_v (vs ++ [Value.int x]) 2
      first | rfl | simp only [e_0, e_2, q2]
  obtain ⟨x0, e0, _, _⟩ := tv_int t10 rfl
  have e1 : v_iv (n_v vs 10) = x0.toInt := by rw [e0]; rfl
  have ho : sy_ofs (vs ++ [Value.int x]) (23, 10, 0, 0) := by
    refine ⟨x, x0, by rw [List.getElem?_append_right (by rw [hl]; decide), hl]; rfl, ?_, ?_, ?_⟩
    · rw [List.getElem?_append_left (by rw [hl]; decide)]; exact n_v_some (by rw [hl]; decide) e0
    · show x0.toInt + 0 ≤ x.toInt; omega
    · show x.toInt ≤ x0.toInt + 0; omega
  exact ⟨(fun _ h => (by cases h)), [Value.int x], ag_one hx, List.forall_mem_cons.mpr ⟨⟨show (20 : Nat) < 100 from by decide, nf0⟩, List.forall_mem_cons.mpr ⟨⟨show (20 : Nat) < 100 from by decide, nf1⟩, List.forall_mem_cons.mpr ⟨⟨show (24 : Nat) < 100 from by decide, nf2⟩, (fun _ h => (by cases h))⟩⟩⟩, List.forall_mem_cons.mpr ⟨ho, (fun _ h => (by cases h))⟩⟩
set_option maxHeartbeats 4000000 in
theorem vc_Mo_styleTokens_44_0 (x6 : Int) (tokens_0 : Int) (pos_0 : Int) (k6 : 0 ≤ x6 ∧ x6 ≤ 1999) (f0 : (tokens_0 ≤ x6) ∧ (pos_0 = x6)) (kz_0_11 : 0 ≤ pos_0 ∧ pos_0 ≤ 2000) (kz_0_157 : 0 ≤ tokens_0 ∧ tokens_0 ≤ 2010) : (tokens_0 ≤ x6) ∧ (pos_0 = x6) := by
  first | assumption | omega | grind
set_option maxHeartbeats 4000000 in
theorem vc_Mo_styleTokens_44_1 (x6 : Int) (x10 : Int) (tokens_0 : Int) (pos_0 : Int) (gx : Int) (k6 : 0 ≤ x6 ∧ x6 ≤ 1999) (k10 : 0 ≤ x10 ∧ x10 ≤ 4001) (f0 : (tokens_0 ≤ x6) ∧ (pos_0 = x6)) (f1 : (-1) * x10 + ((-2) * x6 + 0) ≤ (-4001)) (kz_0_11 : 0 ≤ pos_0 ∧ pos_0 ≤ 2000) (kz_0_157 : 0 ≤ tokens_0 ∧ tokens_0 ≤ 2010) (ex2 : gx = 0 + (1 * x10 + 0)) : (-1) * gx + ((-2) * x6 + 0) ≤ (-4001) := by
  first | assumption | omega | grind
def o_Mo_styleTokens_44 : or_T := (334, 24, [(0, (2, 0, 0, [165])), (2, (2, 0, 0, [165])), (6, (0, 0, 1999, [])), (10, (0, 0, 4001, []))], [(20, [2, 6], [50, 2, 0, 157, 11, 2, 7, 0, 3, 2, 0, 157, 1, 1, 1, 3, 2, 0, 11, 1, 1]), (20, [10, 6], [30, -4001, -1, 0, 0, -2, 0, 0]), (24, [0, 2], [])], [], [(0, 0, 4001, [])], [(20, [2, 6], [50, 2, 0, 157, 11, 2, 7, 0, 3, 2, 0, 157, 1, 1, 1, 3, 2, 0, 11, 1, 1]), (20, [24, 6], [30, -4001, -1, 0, 0, -2, 0, 0]), (24, [0, 2], [])], [(24, 10, 0, 0)], [])
theorem oo_Mo_styleTokens_44 {kA : Nat → ClassId} : or_ok PRD kA GG o_Mo_styleTokens_44 := by
  refine or_mk fun A ta ws vs hD hth hl => ?_
  intro t0 r0 t2 r2 t6 k6 t10 k10 f0 f1 f2
  replace f0 := shm_1328 f0
  replace f1 := shm_1327 f1
  replace f2 := shm_5 f2
  have q2 : n_v vs 2 = n_v vs 0 := f2.symm
  simp only [q2] at f0
  have kz_0_11 := fdq_237 hD hth r0
  have kz_0_157 := fdq_35 hD hth r0
  obtain ⟨x, ex, hx⟩ := iv_ex (ta := ta) (lo := 0) (hi := 4001) (z := 0 + (1 * v_iv (n_v vs 10) + 0)) (by omega) (by omega) (by omega) (by omega)
  have ex2 : v_iv (Value.int x) = 0 + (1 * v_iv (n_v vs 10) + 0) := ex
  have ex3 : 0 ≤ v_iv (Value.int x) ∧ v_iv (Value.int x) ≤ 4001 := tv_rng hx
  have e_0 : n_v (vs ++ [Value.int x]) 0 = n_v vs 0 := n_v_old (by rw [hl]; decide)
  have e_2 : n_v (vs ++ [Value.int x]) 2 = n_v vs 2 := n_v_old (by rw [hl]; decide)
  have e_6 : n_v (vs ++ [Value.int x]) 6 = n_v vs 6 := n_v_old (by rw [hl]; decide)
  have e_24 : n_v (vs ++ [Value.int x]) 24 = Value.int x := n_v_new hl
  have nf0 : fc_1 PRD (20, [2, 6], [50, 2, 0, 157, 11, 2, 7, 0, 3, 2, 0, 157, 1, 1, 1, 3, 2, 0, 11, 1, 1]) ws (vs ++ [Value.int x]) := by
    refine ⟨nf_inA hl rfl, sgq_1328 ?_⟩
    · show (w_fi ws (n_v (vs ++ [Value.int x]) 2) 157 ≤ v_iv (n_v (vs ++ [Value.int x]) 6)) ∧ (w_fi ws (n_v (vs ++ [Value.int x]) 2) 11 = v_iv (n_v (vs ++ [Value.int x]) 6))
      simp only [e_2, e_6, q2]
      exact vc_Mo_styleTokens_44_0 (v_iv (n_v vs 6)) (w_fi ws (n_v vs 0) 157) (w_fi ws (n_v vs 0) 11) k6 f0 kz_0_11 kz_0_157
  have nf1 : fc_1 PRD (20, [24, 6], [30, -4001, -1, 0, 0, -2, 0, 0]) ws (vs ++ [Value.int x]) := by
    refine ⟨nf_inA hl rfl, sgq_1327 ?_⟩
    · show (-1) * v_iv (n_v (vs ++ [Value.int x]) 24) + ((-2) * v_iv (n_v (vs ++ [Value.int x]) 6) + 0) ≤ (-4001)
      simp only [e_6, e_24]
      exact vc_Mo_styleTokens_44_1 (v_iv (n_v vs 6)) (v_iv (n_v vs 10)) (w_fi ws (n_v vs 0) 157) (w_fi ws (n_v vs 0) 11) (v_iv (Value.int x)) k6 k10 f0 f1 kz_0_11 kz_0_157 ex2
  have nf2 : fc_1 PRD (24, [0, 2], []) ws (vs ++ [Value.int x]) := by
    refine ⟨nf_inA hl rfl, sgq_5 ?_⟩
    · show n_v (vs ++ [Value.int x]) 0 = n_v (vs ++ [Value.int x]) 2
      first | rfl | simp only [e_0, e_2, q2]
  obtain ⟨x0, e0, _, _⟩ := tv_int t10 rfl
  have e1 : v_iv (n_v vs 10) = x0.toInt := by rw [e0]; rfl
  have ho : sy_ofs (vs ++ [Value.int x]) (24, 10, 0, 0) := by
    refine ⟨x, x0, by rw [List.getElem?_append_right (by rw [hl]; decide), hl]; rfl, ?_, ?_, ?_⟩
    · rw [List.getElem?_append_left (by rw [hl]; decide)]; exact n_v_some (by rw [hl]; decide) e0
    · show x0.toInt + 0 ≤ x.toInt; omega
    · show x.toInt ≤ x0.toInt + 0; omega
  exact ⟨(fun _ h => (by cases h)), [Value.int x], ag_one hx, List.forall_mem_cons.mpr ⟨⟨show (20 : Nat) < 100 from by decide, nf0⟩, List.forall_mem_cons.mpr ⟨⟨show (20 : Nat) < 100 from by decide, nf1⟩, List.forall_mem_cons.mpr ⟨⟨show (24 : Nat) < 100 from by decide, nf2⟩, (fun _ h => (by cases h))⟩⟩⟩, List.forall_mem_cons.mpr ⟨ho, (fun _ h => (by cases h))⟩⟩
set_option maxHeartbeats 4000000 in
theorem vc_Mo_styleTokens_45_0 (x6 : Int) (tokens_0 : Int) (pos_0 : Int) (k6 : 0 ≤ x6 ∧ x6 ≤ 1999) (f0 : (tokens_0 ≤ x6) ∧ (pos_0 = x6)) (kz_0_11 : 0 ≤ pos_0 ∧ pos_0 ≤ 2000) (kz_0_157 : 0 ≤ tokens_0 ∧ tokens_0 ≤ 2010) : (tokens_0 ≤ x6) ∧ (pos_0 = x6) := by
  first | assumption | omega | grind
set_option maxHeartbeats 4000000 in
theorem vc_Mo_styleTokens_45_1 (x6 : Int) (x10 : Int) (tokens_0 : Int) (pos_0 : Int) (gx : Int) (k6 : 0 ≤ x6 ∧ x6 ≤ 1999) (k10 : 0 ≤ x10 ∧ x10 ≤ 4001) (f0 : (tokens_0 ≤ x6) ∧ (pos_0 = x6)) (f1 : (-1) * x10 + ((-2) * x6 + 0) ≤ (-4001)) (kz_0_11 : 0 ≤ pos_0 ∧ pos_0 ≤ 2000) (kz_0_157 : 0 ≤ tokens_0 ∧ tokens_0 ≤ 2010) (ex2 : gx = 0 + (1 * x10 + 0)) : (-1) * gx + ((-2) * x6 + 0) ≤ (-4001) := by
  first | assumption | omega | grind
def o_Mo_styleTokens_45 : or_T := (339, 26, [(0, (2, 0, 0, [165])), (2, (2, 0, 0, [165])), (6, (0, 0, 1999, [])), (10, (0, 0, 4001, []))], [(20, [2, 6], [50, 2, 0, 157, 11, 2, 7, 0, 3, 2, 0, 157, 1, 1, 1, 3, 2, 0, 11, 1, 1]), (20, [10, 6], [30, -4001, -1, 0, 0, -2, 0, 0]), (24, [0, 2], [])], [], [(0, 0, 4001, [])], [(20, [2, 6], [50, 2, 0, 157, 11, 2, 7, 0, 3, 2, 0, 157, 1, 1, 1, 3, 2, 0, 11, 1, 1]), (20, [26, 6], [30, -4001, -1, 0, 0, -2, 0, 0]), (24, [0, 2], [])], [(26, 10, 0, 0)], [])
theorem oo_Mo_styleTokens_45 {kA : Nat → ClassId} : or_ok PRD kA GG o_Mo_styleTokens_45 := by
  refine or_mk fun A ta ws vs hD hth hl => ?_
  intro t0 r0 t2 r2 t6 k6 t10 k10 f0 f1 f2
  replace f0 := shm_1328 f0
  replace f1 := shm_1327 f1
  replace f2 := shm_5 f2
  have q2 : n_v vs 2 = n_v vs 0 := f2.symm
  simp only [q2] at f0
  have kz_0_11 := fdq_237 hD hth r0
  have kz_0_157 := fdq_35 hD hth r0
  obtain ⟨x, ex, hx⟩ := iv_ex (ta := ta) (lo := 0) (hi := 4001) (z := 0 + (1 * v_iv (n_v vs 10) + 0)) (by omega) (by omega) (by omega) (by omega)
  have ex2 : v_iv (Value.int x) = 0 + (1 * v_iv (n_v vs 10) + 0) := ex
  have ex3 : 0 ≤ v_iv (Value.int x) ∧ v_iv (Value.int x) ≤ 4001 := tv_rng hx
  have e_0 : n_v (vs ++ [Value.int x]) 0 = n_v vs 0 := n_v_old (by rw [hl]; decide)
  have e_2 : n_v (vs ++ [Value.int x]) 2 = n_v vs 2 := n_v_old (by rw [hl]; decide)
  have e_6 : n_v (vs ++ [Value.int x]) 6 = n_v vs 6 := n_v_old (by rw [hl]; decide)
  have e_26 : n_v (vs ++ [Value.int x]) 26 = Value.int x := n_v_new hl
  have nf0 : fc_1 PRD (20, [2, 6], [50, 2, 0, 157, 11, 2, 7, 0, 3, 2, 0, 157, 1, 1, 1, 3, 2, 0, 11, 1, 1]) ws (vs ++ [Value.int x]) := by
    refine ⟨nf_inA hl rfl, sgq_1328 ?_⟩
    · show (w_fi ws (n_v (vs ++ [Value.int x]) 2) 157 ≤ v_iv (n_v (vs ++ [Value.int x]) 6)) ∧ (w_fi ws (n_v (vs ++ [Value.int x]) 2) 11 = v_iv (n_v (vs ++ [Value.int x]) 6))
      simp only [e_2, e_6, q2]
      exact vc_Mo_styleTokens_45_0 (v_iv (n_v vs 6)) (w_fi ws (n_v vs 0) 157) (w_fi ws (n_v vs 0) 11) k6 f0 kz_0_11 kz_0_157
  have nf1 : fc_1 PRD (20, [26, 6], [30, -4001, -1, 0, 0, -2, 0, 0]) ws (vs ++ [Value.int x]) := by
    refine ⟨nf_inA hl rfl, sgq_1327 ?_⟩
    · show (-1) * v_iv (n_v (vs ++ [Value.int x]) 26) + ((-2) * v_iv (n_v (vs ++ [Value.int x]) 6) + 0) ≤ (-4001)
      simp only [e_6, e_26]
      exact vc_Mo_styleTokens_45_1 (v_iv (n_v vs 6)) (v_iv (n_v vs 10)) (w_fi ws (n_v vs 0) 157) (w_fi ws (n_v vs 0) 11) (v_iv (Value.int x)) k6 k10 f0 f1 kz_0_11 kz_0_157 ex2
  have nf2 : fc_1 PRD (24, [0, 2], []) ws (vs ++ [Value.int x]) := by
    refine ⟨nf_inA hl rfl, sgq_5 ?_⟩
    · show n_v (vs ++ [Value.int x]) 0 = n_v (vs ++ [Value.int x]) 2
      first | rfl | simp only [e_0, e_2, q2]
  obtain ⟨x0, e0, _, _⟩ := tv_int t10 rfl
  have e1 : v_iv (n_v vs 10) = x0.toInt := by rw [e0]; rfl
  have ho : sy_ofs (vs ++ [Value.int x]) (26, 10, 0, 0) := by
    refine ⟨x, x0, by rw [List.getElem?_append_right (by rw [hl]; decide), hl]; rfl, ?_, ?_, ?_⟩
    · rw [List.getElem?_append_left (by rw [hl]; decide)]; exact n_v_some (by rw [hl]; decide) e0
    · show x0.toInt + 0 ≤ x.toInt; omega
    · show x.toInt ≤ x0.toInt + 0; omega
  exact ⟨(fun _ h => (by cases h)), [Value.int x], ag_one hx, List.forall_mem_cons.mpr ⟨⟨show (20 : Nat) < 100 from by decide, nf0⟩, List.forall_mem_cons.mpr ⟨⟨show (20 : Nat) < 100 from by decide, nf1⟩, List.forall_mem_cons.mpr ⟨⟨show (24 : Nat) < 100 from by decide, nf2⟩, (fun _ h => (by cases h))⟩⟩⟩, List.forall_mem_cons.mpr ⟨ho, (fun _ h => (by cases h))⟩⟩
set_option maxHeartbeats 4000000 in
theorem vc_Mo_styleTokens_46_0 (x6 : Int) (tokens_0 : Int) (pos_0 : Int) (k6 : 0 ≤ x6 ∧ x6 ≤ 1999) (f0 : (tokens_0 ≤ x6) ∧ (pos_0 = x6)) (kz_0_11 : 0 ≤ pos_0 ∧ pos_0 ≤ 2000) (kz_0_157 : 0 ≤ tokens_0 ∧ tokens_0 ≤ 2010) : (tokens_0 ≤ x6) ∧ (pos_0 = x6) := by
  first | assumption | omega | grind
set_option maxHeartbeats 4000000 in
theorem vc_Mo_styleTokens_46_1 (x6 : Int) (x10 : Int) (tokens_0 : Int) (pos_0 : Int) (gx : Int) (k6 : 0 ≤ x6 ∧ x6 ≤ 1999) (k10 : 0 ≤ x10 ∧ x10 ≤ 4001) (f0 : (tokens_0 ≤ x6) ∧ (pos_0 = x6)) (f1 : (-1) * x10 + ((-2) * x6 + 0) ≤ (-4001)) (kz_0_11 : 0 ≤ pos_0 ∧ pos_0 ≤ 2000) (kz_0_157 : 0 ≤ tokens_0 ∧ tokens_0 ≤ 2010) (ex2 : gx = 0 + (1 * x10 + 0)) : (-1) * gx + ((-2) * x6 + 0) ≤ (-4001) := by
  first | assumption | omega | grind
def o_Mo_styleTokens_46 : or_T := (334, 25, [(0, (2, 0, 0, [165])), (2, (2, 0, 0, [165])), (6, (0, 0, 1999, [])), (10, (0, 0, 4001, []))], [(20, [2, 6], [50, 2, 0, 157, 11, 2, 7, 0, 3, 2, 0, 157, 1, 1, 1, 3, 2, 0, 11, 1, 1]), (20, [10, 6], [30, -4001, -1, 0, 0, -2, 0, 0]), (24, [0, 2], [])], [], [(0, 0, 4001, [])], [(20, [2, 6], [50, 2, 0, 157, 11, 2, 7, 0, 3, 2, 0, 157, 1, 1, 1, 3, 2, 0, 11, 1, 1]), (20, [25, 6], [30, -4001, -1, 0, 0, -2, 0, 0]), (24, [0, 2], [])], [(25, 10, 0, 0)], [])
theorem oo_Mo_styleTokens_46 {kA : Nat → ClassId} : or_ok PRD kA GG o_Mo_styleTokens_46 := by
  refine or_mk fun A ta ws vs hD hth hl => ?_
  intro t0 r0 t2 r2 t6 k6 t10 k10 f0 f1 f2
  replace f0 := shm_1328 f0
  replace f1 := shm_1327 f1
  replace f2 := shm_5 f2
  have q2 : n_v vs 2 = n_v vs 0 := f2.symm
  simp only [q2] at f0
  have kz_0_11 := fdq_237 hD hth r0
  have kz_0_157 := fdq_35 hD hth r0
  obtain ⟨x, ex, hx⟩ := iv_ex (ta := ta) (lo := 0) (hi := 4001) (z := 0 + (1 * v_iv (n_v vs 10) + 0)) (by omega) (by omega) (by omega) (by omega)
  have ex2 : v_iv (Value.int x) = 0 + (1 * v_iv (n_v vs 10) + 0) := ex
  have ex3 : 0 ≤ v_iv (Value.int x) ∧ v_iv (Value.int x) ≤ 4001 := tv_rng hx
  have e_0 : n_v (vs ++ [Value.int x]) 0 = n_v vs 0 := n_v_old (by rw [hl]; decide)
  have e_2 : n_v (vs ++ [Value.int x]) 2 = n_v vs 2 := n_v_old (by rw [hl]; decide)
  have e_6 : n_v (vs ++ [Value.int x]) 6 = n_v vs 6 := n_v_old (by rw [hl]; decide)
  have e_25 : n_v (vs ++ [Value.int x]) 25 = Value.int x := n_v_new hl
  have nf0 : fc_1 PRD (20, [2, 6], [50, 2, 0, 157, 11, 2, 7, 0, 3, 2, 0, 157, 1, 1, 1, 3, 2, 0, 11, 1, 1]) ws (vs ++ [Value.int x]) := by
    refine ⟨nf_inA hl rfl, sgq_1328 ?_⟩
    · show (w_fi ws (n_v (vs ++ [Value.int x]) 2) 157 ≤ v_iv (n_v (vs ++ [Value.int x]) 6)) ∧ (w_fi ws (n_v (vs ++ [Value.int x]) 2) 11 = v_iv (n_v (vs ++ [Value.int x]) 6))
      simp only [e_2, e_6, q2]
      exact vc_Mo_styleTokens_46_0 (v_iv (n_v vs 6)) (w_fi ws (n_v vs 0) 157) (w_fi ws (n_v vs 0) 11) k6 f0 kz_0_11 kz_0_157
  have nf1 : fc_1 PRD (20, [25, 6], [30, -4001, -1, 0, 0, -2, 0, 0]) ws (vs ++ [Value.int x]) := by
    refine ⟨nf_inA hl rfl, sgq_1327 ?_⟩
    · show (-1) * v_iv (n_v (vs ++ [Value.int x]) 25) + ((-2) * v_iv (n_v (vs ++ [Value.int x]) 6) + 0) ≤ (-4001)
      simp only [e_6, e_25]
      exact vc_Mo_styleTokens_46_1 (v_iv (n_v vs 6)) (v_iv (n_v vs 10)) (w_fi ws (n_v vs 0) 157) (w_fi ws (n_v vs 0) 11) (v_iv (Value.int x)) k6 k10 f0 f1 kz_0_11 kz_0_157 ex2
  have nf2 : fc_1 PRD (24, [0, 2], []) ws (vs ++ [Value.int x]) := by
    refine ⟨nf_inA hl rfl, sgq_5 ?_⟩
    · show n_v (vs ++ [Value.int x]) 0 = n_v (vs ++ [Value.int x]) 2
      first | rfl | simp only [e_0, e_2, q2]
  obtain ⟨x0, e0, _, _⟩ := tv_int t10 rfl
  have e1 : v_iv (n_v vs 10) = x0.toInt := by rw [e0]; rfl
  have ho : sy_ofs (vs ++ [Value.int x]) (25, 10, 0, 0) := by
    refine ⟨x, x0, by rw [List.getElem?_append_right (by rw [hl]; decide), hl]; rfl, ?_, ?_, ?_⟩
    · rw [List.getElem?_append_left (by rw [hl]; decide)]; exact n_v_some (by rw [hl]; decide) e0
    · show x0.toInt + 0 ≤ x.toInt; omega
    · show x.toInt ≤ x0.toInt + 0; omega
  exact ⟨(fun _ h => (by cases h)), [Value.int x], ag_one hx, List.forall_mem_cons.mpr ⟨⟨show (20 : Nat) < 100 from by decide, nf0⟩, List.forall_mem_cons.mpr ⟨⟨show (20 : Nat) < 100 from by decide, nf1⟩, List.forall_mem_cons.mpr ⟨⟨show (24 : Nat) < 100 from by decide, nf2⟩, (fun _ h => (by cases h))⟩⟩⟩, List.forall_mem_cons.mpr ⟨ho, (fun _ h => (by cases h))⟩⟩
set_option maxHeartbeats 4000000 in
theorem vc_Mo_styleTokens_47_0 (x6 : Int) (tokens_0 : Int) (pos_0 : Int) (k6 : 0 ≤ x6 ∧ x6 ≤ 1999) (f0 : (tokens_0 ≤ x6) ∧ (pos_0 = x6)) (kz_0_11 : 0 ≤ pos_0 ∧ pos_0 ≤ 2000) (kz_0_157 : 0 ≤ tokens_0 ∧ tokens_0 ≤ 2010) : (tokens_0 ≤ x6) ∧ (pos_0 = x6) := by
  first | assumption | omega | grind
set_option maxHeartbeats 4000000 in
theorem vc_Mo_styleTokens_47_1 (x6 : Int) (x10 : Int) (tokens_0 : Int) (pos_0 : Int) (gx : Int) (k6 : 0 ≤ x6 ∧ x6 ≤ 1999) (k10 : 0 ≤ x10 ∧ x10 ≤ 4001) (f0 : (tokens_0 ≤ x6) ∧ (pos_0 = x6)) (f1 : (-1) * x10 + ((-2) * x6 + 0) ≤ (-4001)) (kz_0_11 : 0 ≤ pos_0 ∧ pos_0 ≤ 2000) (kz_0_157 : 0 ≤ tokens_0 ∧ tokens_0 ≤ 2010) (ex2 : gx = 0 + (1 * x10 + 0)) : (-1) * gx + ((-2) * x6 + 0) ≤ (-4001) := by
  first | assumption | omega | grind
def o_Mo_styleTokens_47 : or_T := (339, 12, [(0, (2, 0, 0, [165])), (2, (2, 0, 0, [165])), (6, (0, 0, 1999, [])), (10, (0, 0, 4001, []))], [(20, [2, 6], [50, 2, 0, 157, 11, 2, 7, 0, 3, 2, 0, 157, 1, 1, 1, 3, 2, 0, 11, 1, 1]), (20, [10, 6], [30, -4001, -1, 0, 0, -2, 0, 0]), (24, [0, 2], [])], [], [(0, 0, 4001, [])], [(20, [2, 6], [50, 2, 0, 157, 11, 2, 7, 0, 3, 2, 0, 157, 1, 1, 1, 3, 2, 0, 11, 1, 1]), (20, [12, 6], [30, -4001, -1, 0, 0, -2, 0, 0]), (24, [0, 2], [])], [(12, 10, 0, 0)], [])
theorem oo_Mo_styleTokens_47 {kA : Nat → ClassId} : or_ok PRD kA GG o_Mo_styleTokens_47 := by
  refine or_mk fun A ta ws vs hD hth hl => ?_
  intro t0 r0 t2 r2 t6 k6 t10 k10 f0 f1 f2
  replace f0 := shm_1328 f0
  replace f1 := shm_1327 f1
  replace f2 := shm_5 f2
  have q2 : n_v vs 2 = n_v vs 0 := f2.symm
  simp only [q2] at f0
  have kz_0_11 := fdq_237 hD hth r0
  have kz_0_157 := fdq_35 hD hth r0
  obtain ⟨x, ex, hx⟩ := iv_ex (ta := ta) (lo := 0) (hi := 4001) (z := 0 + (1 * v_iv (n_v vs 10) + 0)) (by omega) (by omega) (by omega) (by omega)
  have ex2 : v_iv (Value.int x) = 0 + (1 * v_iv (n_v vs 10) + 0) := ex
  have ex3 : 0 ≤ v_iv (Value.int x) ∧ v_iv (Value.int x) ≤ 4001 := tv_rng hx
  have e_0 : n_v (vs ++ [Value.int x]) 0 = n_v vs 0 := n_v_old (by rw [hl]; decide)
  have e_2 : n_v (vs ++ [Value.int x]) 2 = n_v vs 2 := n_v_old (by rw [hl]; decide)
  have e_6 : n_v (vs ++ [Value.int x]) 6 = n_v vs 6 := n_v_old (by rw [hl]; decide)
  have e_12 : n_v (vs ++ [Value.int x]) 12 = Value.int x := n_v_new hl
  have nf0 : fc_1 PRD (20, [2, 6], [50, 2, 0, 157, 11, 2, 7, 0, 3, 2, 0, 157, 1, 1, 1, 3, 2, 0, 11, 1, 1]) ws (vs ++ [Value.int x]) := by
    refine ⟨nf_inA hl rfl, sgq_1328 ?_⟩
    · show (w_fi ws (n_v (vs ++ [Value.int x]) 2) 157 ≤ v_iv (n_v (vs ++ [Value.int x]) 6)) ∧ (w_fi ws (n_v (vs ++ [Value.int x]) 2) 11 = v_iv (n_v (vs ++ [Value.int x]) 6))
      simp only [e_2, e_6, q2]
      exact vc_Mo_styleTokens_47_0 (v_iv (n_v vs 6)) (w_fi ws (n_v vs 0) 157) (w_fi ws (n_v vs 0) 11) k6 f0 kz_0_11 kz_0_157
  have nf1 : fc_1 PRD (20, [12, 6], [30, -4001, -1, 0, 0, -2, 0, 0]) ws (vs ++ [Value.int x]) := by
    refine ⟨nf_inA hl rfl, sgq_1327 ?_⟩
    · show (-1) * v_iv (n_v (vs ++ [Value.int x]) 12) + ((-2) * v_iv (n_v (vs ++ [Value.int x]) 6) + 0) ≤ (-4001)
      simp only [e_6, e_12]
      exact vc_Mo_styleTokens_47_1 (v_iv (n_v vs 6)) (v_iv (n_v vs 10)) (w_fi ws (n_v vs 0) 157) (w_fi ws (n_v vs 0) 11) (v_iv (Value.int x)) k6 k10 f0 f1 kz_0_11 kz_0_157 ex2
  have nf2 : fc_1 PRD (24, [0, 2], []) ws (vs ++ [Value.int x]) := by
    refine ⟨nf_inA hl rfl, sgq_5 ?_⟩
    · show n_v (vs ++ [Value.int x]) 0 = n_v (vs ++ [Value.int x]) 2
      first | rfl | simp only [e_0, e_2, q2]
  obtain ⟨x0, e0, _, _⟩ := tv_int t10 rfl
  have e1 : v_iv (n_v vs 10) = x0.toInt := by rw [e0]; rfl
  have ho : sy_ofs (vs ++ [Value.int x]) (12, 10, 0, 0) := by
    refine ⟨x, x0, by rw [List.getElem?_append_right (by rw [hl]; decide), hl]; rfl, ?_, ?_, ?_⟩
    · rw [List.getElem?_append_left (by rw [hl]; decide)]; exact n_v_some (by rw [hl]; decide) e0
    · show x0.toInt + 0 ≤ x.toInt; omega
    · show x.toInt ≤ x0.toInt + 0; omega
  exact ⟨(fun _ h => (by cases h)), [Value.int x], ag_one hx, List.forall_mem_cons.mpr ⟨⟨show (20 : Nat) < 100 from by decide, nf0⟩, List.forall_mem_cons.mpr ⟨⟨show (20 : Nat) < 100 from by decide, nf1⟩, List.forall_mem_cons.mpr ⟨⟨show (24 : Nat) < 100 from by decide, nf2⟩, (fun _ h => (by cases h))⟩⟩⟩, List.forall_mem_cons.mpr ⟨ho, (fun _ h => (by cases h))⟩⟩
set_option maxHeartbeats 4000000 in
theorem vc_Mo_styleTokens_48_0 (x6 : Int) (x10 : Int) (x12 : Int) (x14 : Int) (pos_1 : Int) (tokens_1 : Int) (pos_0 : Int) (tokens_0 : Int) (k6 : 0 ≤ x6 ∧ x6 ≤ 1999) (k10 : 0 ≤ x10 ∧ x10 ≤ 1999) (k12 : 4 ≤ x12 ∧ x12 ≤ 4) (k14 : 1 ≤ x14 ∧ x14 ≤ 2000) (d0 : x10 + 1 ≤ x14 ∧ x14 ≤ x10 + 1) (d1 : x6 + (-4294967296) ≤ x14 ∧ x14 ≤ x6 + 1) (d2 : x10 + (-4294967296) ≤ x6 ∧ x6 ≤ x10 + 0) (g4 : x10 = pos_1) (f5 : (tokens_1 ≤ x6) ∧ (pos_1 = x6)) (fe_0_11_1 : pos_0 = x14) (fe_0_157_1 : tokens_0 = tokens_1) (kz_0_11 : 0 ≤ pos_0 ∧ pos_0 ≤ 2000) (kz_0_157 : 0 ≤ tokens_0 ∧ tokens_0 ≤ 2010) : (tokens_0 ≤ x6) ∧ ((x6 ≤ pos_0) ∧ ((x12 = 0) ∨ ((x12 = 4) ∨ ((x6 + 1) ≤ pos_0)))) := by
  subst fe_0_157_1
  first | assumption | omega | grind
set_option maxHeartbeats 4000000 in
theorem vc_Mo_styleTokens_48_1 (x6 : Int) (x10 : Int) (x11 : Int) (x14 : Int) (pos_1 : Int) (tokens_1 : Int) (pos_0 : Int) (tokens_0 : Int) (gx : Int) (k6 : 0 ≤ x6 ∧ x6 ≤ 1999) (k10 : 0 ≤ x10 ∧ x10 ≤ 1999) (k11 : 0 ≤ x11 ∧ x11 ≤ 4001) (k14 : 1 ≤ x14 ∧ x14 ≤ 2000) (d0 : x10 + 1 ≤ x14 ∧ x14 ≤ x10 + 1) (d1 : x6 + (-4294967296) ≤ x14 ∧ x14 ≤ x6 + 1) (d2 : x10 + (-4294967296) ≤ x6 ∧ x6 ≤ x10 + 0) (f0 : (-1) * x11 + ((-2) * x6 + 0) ≤ (-4001)) (g4 : x10 = pos_1) (fe_0_11_1 : pos_0 = x14) (fe_0_157_1 : tokens_0 = tokens_1) (kz_0_11 : 0 ≤ pos_0 ∧ pos_0 ≤ 2000) (kz_0_157 : 0 ≤ tokens_0 ∧ tokens_0 ≤ 2010) (ex2 : gx = 0 + (1 * x11 + 0)) : (-1) * gx + ((-2) * x6 + 0) ≤ (-4001) := by
  subst fe_0_157_1
  first | assumption | omega | grind
def o_Mo_styleTokens_48 : or_T := (363, 15, [(0, (2, 0, 0, [165])), (2, (2, 0, 0, [165])), (6, (0, 0, 1999, [])), (10, (0, 0, 1999, [])), (11, (0, 0, 4001, [])), (12, (0, 4, 4, [])), (13, (0, 1, 1, [])), (14, (0, 1, 2000, []))], [(20, [11, 6], [30, -4001, -1, 0, 0, -2, 0, 0]), (24, [0, 2], []), (101, [2, 14], [11]), (1, [14, 10, 13], []), (9, [10, 2], [11]), (20, [2, 6], [50, 2, 0, 157, 11, 2, 7, 0, 3, 2, 0, 157, 1, 1, 1, 3, 2, 0, 11, 1, 1]), (20, [11, 6], [30, -4001, -1, 0, 0, -2, 0, 0])], [], [(0, 0, 4001, [])], [(20, [2, 6, 12], [50, 2, 0, 157, 11, 2, 7, 0, 3, 2, 0, 157, 1, 1, 2, 7, 0, 2, 1, 1, 2, 0, 11, 3, 6, 1, 2, 1, 2, 0, 0, 3, 6, 1, 2, 1, 2, 0, 4, 0, 6, 4, 2, 1, 1, 0, 1, 2, 0, 11]), (20, [15, 6], [30, -4001, -1, 0, 0, -2, 0, 0]), (24, [0, 2], [])], [(15, 11, 0, 0)], [(14, 10, 1, 1), (14, 6, -4294967296, 1), (6, 10, -4294967296, 0), (10, 6, -4294967296, 0)])
theorem oo_Mo_styleTokens_48 {kA : Nat → ClassId} : or_ok PRD kA GG o_Mo_styleTokens_48 := by
  refine or_mk fun A ta ws vs hD hth hl => ?_
  intro t0 r0 t2 r2 t6 k6 t10 k10 t11 k11 t12 k12 t13 k13 t14 k14 d0 d1 d2 d3 f0 f1 ta1 w1 le1 s1 f3 f4 f5 f6
  replace f0 := shm_1327 f0
  replace f1 := shm_5 f1
  have s1 : (∀ b j, w_el ws b j = w_el w1 b j) ∧ ∀ b j, w_fd ws b j = if b = v_ad (n_v vs 2) ∧ j = 11 then n_v vs 14 else w_fd w1 b j := s1.2
  replace f3 := shm_12 f3
  replace f4 := shm_116 f4
  replace f5 := shm_1328 f5
  replace f6 := shm_1327 f6
  have q2 : n_v vs 2 = n_v vs 0 := f1.symm
  rw [q2] at s1
  simp only [q2] at f4 f5
  have g4 : v_iv (n_v vs 10) = w_fi w1 (n_v vs 0) 11 := congrArg v_iv f4
  have fe_0_11_1 : w_fi ws (n_v vs 0) 11 = v_iv (n_v vs 14) := by show v_iv (w_fd _ _ _) = _; rw [s1.2, if_pos ⟨rfl, rfl⟩]
  have fe_0_157_1 : w_fi ws (n_v vs 0) 157 = w_fi w1 (n_v vs 0) 157 := by show v_iv (w_fd _ _ _) = v_iv (w_fd _ _ _); rw [s1.2, if_neg (fun e => absurd e.2 (by decide))]
  have kz_0_11 := fdq_237 hD hth r0
  have kz_0_157 := fdq_35 hD hth r0
  obtain ⟨x, ex, hx⟩ := iv_ex (ta := ta) (lo := 0) (hi := 4001) (z := 0 + (1 * v_iv (n_v vs 11) + 0)) (by omega) (by omega) (by omega) (by omega)
  have ex2 : v_iv (Value.int x) = 0 + (1 * v_iv (n_v vs 11) + 0) := ex
  have ex3 : 0 ≤ v_iv (Value.int x) ∧ v_iv (Value.int x) ≤ 4001 := tv_rng hx
  have e_0 : n_v (vs ++ [Value.int x]) 0 = n_v vs 0 := n_v_old (by rw [hl]; decide)
  have e_2 : n_v (vs ++ [Value.int x]) 2 = n_v vs 2 := n_v_old (by rw [hl]; decide)
  have e_6 : n_v (vs ++ [Value.int x]) 6 = n_v vs 6 := n_v_old (by rw [hl]; decide)
  have e_12 : n_v (vs ++ [Value.int x]) 12 = n_v vs 12 := n_v_old (by rw [hl]; decide)
  have e_15 : n_v (vs ++ [Value.int x]) 15 = Value.int x := n_v_new hl
  have nf0 : fc_1 PRD (20, [2, 6, 12], [50, 2, 0, 157, 11, 2, 7, 0, 3, 2, 0, 157, 1, 1, 2, 7, 0, 2, 1, 1, 2, 0, 11, 3, 6, 1, 2, 1, 2, 0, 0, 3, 6, 1, 2, 1, 2, 0, 4, 0, 6, 4, 2, 1, 1, 0, 1, 2, 0, 11]) ws (vs ++ [Value.int x]) := by
    refine ⟨nf_inA hl rfl, sgq_1326 ?_⟩
    · show (w_fi ws (n_v (vs ++ [Value.int x]) 2) 157 ≤ v_iv (n_v (vs ++ [Value.int x]) 6)) ∧ ((v_iv (n_v (vs ++ [Value.int x]) 6) ≤ w_fi ws (n_v (vs ++ [Value.int x]) 2) 11) ∧ ((v_iv (n_v (vs ++ [Value.int x]) 12) = 0) ∨ ((v_iv (n_v (vs ++ [Value.int x]) 12) = 4) ∨ ((v_iv (n_v (vs ++ [Value.int x]) 6) + 1) ≤ w_fi ws (n_v (vs ++ [Value.int x]) 2) 11))))
      simp only [e_2, e_6, e_12, q2]
      exact vc_Mo_styleTokens_48_0 (v_iv (n_v vs 6)) (v_iv (n_v vs 10)) (v_iv (n_v vs 12)) (v_iv (n_v vs 14)) (w_fi w1 (n_v vs 0) 11) (w_fi w1 (n_v vs 0) 157) (w_fi ws (n_v vs 0) 11) (w_fi ws (n_v vs 0) 157) k6 k10 k12 k14 d0 d1 d2 g4 f5 fe_0_11_1 fe_0_157_1 kz_0_11 kz_0_157
  have nf1 : fc_1 PRD (20, [15, 6], [30, -4001, -1, 0, 0, -2, 0, 0]) ws (vs ++ [Value.int x]) := by
    refine ⟨nf_inA hl rfl, sgq_1327 ?_⟩
    · show (-1) * v_iv (n_v (vs ++ [Value.int x]) 15) + ((-2) * v_iv (n_v (vs ++ [Value.int x]) 6) + 0) ≤ (-4001)
      simp only [e_6, e_15]
      exact vc_Mo_styleTokens_48_1 (v_iv (n_v vs 6)) (v_iv (n_v vs 10)) (v_iv (n_v vs 11)) (v_iv (n_v vs 14)) (w_fi w1 (n_v vs 0) 11) (w_fi w1 (n_v vs 0) 157) (w_fi ws (n_v vs 0) 11) (w_fi ws (n_v vs 0) 157) (v_iv (Value.int x)) k6 k10 k11 k14 d0 d1 d2 f0 g4 fe_0_11_1 fe_0_157_1 kz_0_11 kz_0_157 ex2
  have nf2 : fc_1 PRD (24, [0, 2], []) ws (vs ++ [Value.int x]) := by
    refine ⟨nf_inA hl rfl, sgq_5 ?_⟩
    · show n_v (vs ++ [Value.int x]) 0 = n_v (vs ++ [Value.int x]) 2
      first | rfl | simp only [e_0, e_2, q2]
  obtain ⟨x0, e0, _, _⟩ := tv_int t11 rfl
  have e1 : v_iv (n_v vs 11) = x0.toInt := by rw [e0]; rfl
  have ho : sy_ofs (vs ++ [Value.int x]) (15, 11, 0, 0) := by
    refine ⟨x, x0, by rw [List.getElem?_append_right (by rw [hl]; decide), hl]; rfl, ?_, ?_, ?_⟩
    · rw [List.getElem?_append_left (by rw [hl]; decide)]; exact n_v_some (by rw [hl]; decide) e0
    · show x0.toInt + 0 ≤ x.toInt; omega
    · show x.toInt ≤ x0.toInt + 0; omega
  exact ⟨(fun _ h => (by cases h)), [Value.int x], ag_one hx, List.forall_mem_cons.mpr ⟨⟨show (20 : Nat) < 100 from by decide, nf0⟩, List.forall_mem_cons.mpr ⟨⟨show (20 : Nat) < 100 from by decide, nf1⟩, List.forall_mem_cons.mpr ⟨⟨show (24 : Nat) < 100 from by decide, nf2⟩, (fun _ h => (by cases h))⟩⟩⟩, List.forall_mem_cons.mpr ⟨ho, (fun _ h => (by cases h))⟩⟩
end
section

set_option maxHeartbeats 4000000 in
theorem vc_Mo_styleTokens_49_0 (x6 : Int) (x10 : Int) (x12 : Int) (x14 : Int) (pos_1 : Int) (tokens_1 : Int) (pos_0 : Int) (tokens_0 : Int) (k6 : 0 ≤ x6 ∧ x6 ≤ 1999) (k10 : 0 ≤ x10 ∧ x10 ≤ 1999) (k12 : 3 ≤ x12 ∧ x12 ≤ 3) (k14 : 1 ≤ x14 ∧ x14 ≤ 2000) (d0 : x10 + 1 ≤ x14 ∧ x14 ≤ x10 + 1) (d1 : x6 + (-4294967296) ≤ x14 ∧ x14 ≤ x6 + 1) (d2 : x10 + (-4294967296) ≤ x6 ∧ x6 ≤ x10 + 0) (g4 : x10 = pos_1) (f5 : (tokens_1 ≤ x6) ∧ (pos_1 = x6)) (fe_0_11_1 : pos_0 = x14) (fe_0_157_1 : tokens_0 = tokens_1) (kz_0_11 : 0 ≤ pos_0 ∧ pos_0 ≤ 2000) (kz_0_157 : 0 ≤ tokens_0 ∧ tokens_0 ≤ 2010) : (tokens_0 ≤ x6) ∧ ((x6 ≤ pos_0) ∧ ((x12 = 0) ∨ ((x12 = 4) ∨ ((x6 + 1) ≤ pos_0)))) := by
  subst fe_0_157_1
  first | assumption | omega | grind
set_option maxHeartbeats 4000000 in
theorem vc_Mo_styleTokens_49_1 (x6 : Int) (x10 : Int) (x11 : Int) (x14 : Int) (pos_1 : Int) (tokens_1 : Int) (pos_0 : Int) (tokens_0 : Int) (gx : Int) (k6 : 0 ≤ x6 ∧ x6 ≤ 1999) (k10 : 0 ≤ x10 ∧ x10 ≤ 1999) (k11 : 0 ≤ x11 ∧ x11 ≤ 4001) (k14 : 1 ≤ x14 ∧ x14 ≤ 2000) (d0 : x10 + 1 ≤ x14 ∧ x14 ≤ x10 + 1) (d1 : x6 + (-4294967296) ≤ x14 ∧ x14 ≤ x6 + 1) (d2 : x10 + (-4294967296) ≤ x6 ∧ x6 ≤ x10 + 0) (f0 : (-1) * x11 + ((-2) * x6 + 0) ≤ (-4001)) (g4 : x10 = pos_1) (fe_0_11_1 : pos_0 = x14) (fe_0_157_1 : tokens_0 = tokens_1) (kz_0_11 : 0 ≤ pos_0 ∧ pos_0 ≤ 2000) (kz_0_157 : 0 ≤ tokens_0 ∧ tokens_0 ≤ 2010) (ex2 : gx = 0 + (1 * x11 + 0)) : (-1) * gx + ((-2) * x6 + 0) ≤ (-4001) := by
  subst fe_0_157_1
  first | assumption | omega | grind
def o_Mo_styleTokens_49 : or_T := (363, 15, [(0, (2, 0, 0, [165])), (2, (2, 0, 0, [165])), (6, (0, 0, 1999, [])), (10, (0, 0, 1999, [])), (11, (0, 0, 4001, [])), (12, (0, 3, 3, [])), (13, (0, 1, 1, [])), (14, (0, 1, 2000, []))], [(20, [11, 6], [30, -4001, -1, 0, 0, -2, 0, 0]), (24, [0, 2], []), (101, [2, 14], [11]), (1, [14, 10, 13], []), (9, [10, 2], [11]), (20, [2, 6], [50, 2, 0, 157, 11, 2, 7, 0, 3, 2, 0, 157, 1, 1, 1, 3, 2, 0, 11, 1, 1]), (20, [11, 6], [30, -4001, -1, 0, 0, -2, 0, 0])], [], [(0, 0, 4001, [])], [(20, [2, 6, 12], [50, 2, 0, 157, 11, 2, 7, 0, 3, 2, 0, 157, 1, 1, 2, 7, 0, 2, 1, 1, 2, 0, 11, 3, 6, 1, 2, 1, 2, 0, 0, 3, 6, 1, 2, 1, 2, 0, 4, 0, 6, 4, 2, 1, 1, 0, 1, 2, 0, 11]), (20, [15, 6], [30, -4001, -1, 0, 0, -2, 0, 0]), (24, [0, 2], [])], [(15, 11, 0, 0)], [(14, 10, 1, 1), (14, 6, -4294967296, 1), (6, 10, -4294967296, 0), (10, 6, -4294967296, 0)])
theorem oo_Mo_styleTokens_49 {kA : Nat → ClassId} : or_ok PRD kA GG o_Mo_styleTokens_49 := by
  refine or_mk fun A ta ws vs hD hth hl => ?_
  intro t0 r0 t2 r2 t6 k6 t10 k10 t11 k11 t12 k12 t13 k13 t14 k14 d0 d1 d2 d3 f0 f1 ta1 w1 le1 s1 f3 f4 f5 f6
  replace f0 := shm_1327 f0
  replace f1 := shm_5 f1
  have s1 : (∀ b j, w_el ws b j = w_el w1 b j) ∧ ∀ b j, w_fd ws b j = if b = v_ad (n_v vs 2) ∧ j = 11 then n_v vs 14 else w_fd w1 b j := s1.2
  replace f3 := shm_12 f3
  replace f4 := shm_116 f4
  replace f5 := shm_1328 f5
  replace f6 := shm_1327 f6
  have q2 : n_v vs 2 = n_v vs 0 := f1.symm
  rw [q2] at s1
  simp only [q2] at f4 f5
  have g4 : v_iv (n_v vs 10) = w_fi w1 (n_v vs 0) 11 := congrArg v_iv f4
  have fe_0_11_1 : w_fi ws (n_v vs 0) 11 = v_iv (n_v vs 14) := by show v_iv (w_fd _ _ _) = _; rw [s1.2, if_pos ⟨rfl, rfl⟩]
  have fe_0_157_1 : w_fi ws (n_v vs 0) 157 = w_fi w1 (n_v vs 0) 157 := by show v_iv (w_fd _ _ _) = v_iv (w_fd _ _ _); rw [s1.2, if_neg (fun e => absurd e.2 (by decide))]
  have kz_0_11 := fdq_237 hD hth r0
  have kz_0_157 := fdq_35 hD hth r0
  obtain ⟨x, ex, hx⟩ := iv_ex (ta := ta) (lo := 0) (hi := 4001) (z := 0 + (1 * v_iv (n_v vs 11) + 0)) (by omega) (by omega) (by omega) (by omega)
  have ex2 : v_iv (Value.int x) = 0 + (1 * v_iv (n_v vs 11) + 0) := ex
  have ex3 : 0 ≤ v_iv (Value.int x) ∧ v_iv (Value.int x) ≤ 4001 := tv_rng hx
  have e_0 : n_v (vs ++ [Value.int x]) 0 = n_v vs 0 := n_v_old (by rw [hl]; decide)
  have e_2 : n_v (vs ++ [Value.int x]) 2 = n_v vs 2 := n_v_old (by rw [hl]; decide)
  have e_6 : n_v (vs ++ [Value.int x]) 6 = n_v vs 6 := n_v_old (by rw [hl]; decide)
  have e_12 : n_v (vs ++ [Value.int x]) 12 = n_v vs 12 := n_v_old (by rw [hl]; decide)
  have e_15 : n_v (vs ++ [Value.int x]) 15 = Value.int x := n_v_new hl
  have nf0 : fc_1 PRD (20, [2, 6, 12], [50, 2, 0, 157, 11, 2, 7, 0, 3, 2, 0, 157, 1, 1, 2, 7, 0, 2, 1, 1, 2, 0, 11, 3, 6, 1, 2, 1, 2, 0, 0, 3, 6, 1, 2, 1, 2, 0, 4, 0, 6, 4, 2, 1, 1, 0, 1, 2, 0, 11]) ws (vs ++ [Value.int x]) := by
    refine ⟨nf_inA hl rfl, sgq_1326 ?_⟩
    · show (w_fi ws (n_v (vs ++ [Value.int x]) 2) 157 ≤ v_iv (n_v (vs ++ [Value.int x]) 6)) ∧ ((v_iv (n_v (vs ++ [Value.int x]) 6) ≤ w_fi ws (n_v (vs ++ [Value.int x]) 2) 11) ∧ ((v_iv (n_v (vs ++ [Value.int x]) 12) = 0) ∨ ((v_iv (n_v (vs ++ [Value.int x]) 12) = 4) ∨ ((v_iv (n_v (vs ++ [Value.int x]) 6) + 1) ≤ w_fi ws (n_v (vs ++ [Value.int x]) 2) 11))))
      simp only [e_2, e_6, e_12, q2]
      exact vc_Mo_styleTokens_49_0 (v_iv (n_v vs 6)) (v_iv (n_v vs 10)) (v_iv (n_v vs 12)) (v_iv (n_v vs 14)) (w_fi w1 (n_v vs 0) 11) (w_fi w1 (n_v vs 0) 157) (w_fi ws (n_v vs 0) 11) (w_fi ws (n_v vs 0) 157) k6 k10 k12 k14 d0 d1 d2 g4 f5 fe_0_11_1 fe_0_157_1 kz_0_11 kz_0_157
  have nf1 : fc_1 PRD (20, [15, 6], [30, -4001, -1, 0, 0, -2, 0, 0]) ws (vs ++ [Value.int x]) := by
    refine ⟨nf_inA hl rfl, sgq_1327 ?_⟩
    · show (-1) * v_iv (n_v (vs ++ [Value.int x]) 15) + ((-2) * v_iv (n_v (vs ++ [Value.int x]) 6) + 0) ≤ (-4001)
      simp only [e_6, e_15]
      exact vc_Mo_styleTokens_49_1 (v_iv (n_v vs 6)) (v_iv (n_v vs 10)) (v_iv (n_v vs 11)) (v_iv (n_v vs 14)) (w_fi w1 (n_v vs 0) 11) (w_fi w1 (n_v vs 0) 157) (w_fi ws (n_v vs 0) 11) (w_fi ws (n_v vs 0) 157) (v_iv (Value.int x)) k6 k10 k11 k14 d0 d1 d2 f0 g4 fe_0_11_1 fe_0_157_1 kz_0_11 kz_0_157 ex2
  have nf2 : fc_1 PRD (24, [0, 2], []) ws (vs ++ [Value.int x]) := by
    refine ⟨nf_inA hl rfl, sgq_5 ?_⟩
    · show n_v (vs ++ [Value.int x]) 0 = n_v (vs ++ [Value.int x]) 2
      first | rfl | simp only [e_0, e_2, q2]
  obtain ⟨x0, e0, _, _⟩ := tv_int t11 rfl
  have e1 : v_iv (n_v vs 11) = x0.toInt := by rw [e0]; rfl
  have ho : sy_ofs (vs ++ [Value.int x]) (15, 11, 0, 0) := by
    refine ⟨x, x0, by rw [List.getElem?_append_right (by rw [hl]; decide), hl]; rfl, ?_, ?_, ?_⟩
    · rw [List.getElem?_append_left (by rw [hl]; decide)]; exact n_v_some (by rw [hl]; decide) e0
    · show x0.toInt + 0 ≤ x.toInt; omega
    · show x.toInt ≤ x0.toInt + 0; omega
  exact ⟨(fun _ h => (by cases h)), [Value.int x], ag_one hx, List.forall_mem_cons.mpr ⟨⟨show (20 : Nat) < 100 from by decide, nf0⟩, List.forall_mem_cons.mpr ⟨⟨show (20 : Nat) < 100 from by decide, nf1⟩, List.forall_mem_cons.mpr ⟨⟨show (24 : Nat) < 100 from by decide, nf2⟩, (fun _ h => (by cases h))⟩⟩⟩, List.forall_mem_cons.mpr ⟨ho, (fun _ h => (by cases h))⟩⟩
set_option maxHeartbeats 4000000 in
theorem vc_Mo_styleTokens_50_r0 (x6 : Int) (x7 : Int) (x12 : Int) (tokens_0 : Int) (pos_0 : Int) (k6 : 0 ≤ x6 ∧ x6 ≤ 2000) (k7 : 0 ≤ x7 ∧ x7 ≤ 4) (k12 : 0 ≤ x12 ∧ x12 ≤ 2010) (g0 : x12 = tokens_0) (f1 : (tokens_0 ≤ x6) ∧ ((x6 ≤ pos_0) ∧ ((x7 = 0) ∨ ((x7 = 4) ∨ ((x6 + 1) ≤ pos_0))))) (kz_0_11 : 0 ≤ pos_0 ∧ pos_0 ≤ 2000) (kz_0_157 : 0 ≤ tokens_0 ∧ tokens_0 ≤ 2010) : 0 ≤ x12 ∧ x12 ≤ 2000 := by
  first | assumption | omega | grind
def o_Mo_styleTokens_50 : or_T := (373, 13, [(0, (2, 0, 0, [165])), (2, (2, 0, 0, [165])), (6, (0, 0, 2000, [])), (7, (0, 0, 4, [])), (10, (0, 0, 4001, [])), (12, (0, 0, 2010, []))], [(9, [12, 2], [157]), (20, [2, 6, 7], [50, 2, 0, 157, 11, 2, 7, 0, 3, 2, 0, 157, 1, 1, 2, 7, 0, 2, 1, 1, 2, 0, 11, 3, 6, 1, 2, 1, 2, 0, 0, 3, 6, 1, 2, 1, 2, 0, 4, 0, 6, 4, 2, 1, 1, 0, 1, 2, 0, 11]), (20, [10, 6], [30, -4001, -1, 0, 0, -2, 0, 0]), (24, [0, 2], [])], [(12, (0, 0, 2000, []))], [], [], [], [])
theorem oo_Mo_styleTokens_50 {kA : Nat → ClassId} : or_ok PRD kA GG o_Mo_styleTokens_50 := by
  refine or_mk fun A ta ws vs hD hth hl => ?_
  intro t0 r0 t2 r2 t6 k6 t7 k7 t10 k10 t12 k12 f0 f1 f2 f3
  replace f0 := shm_1331 f0
  replace f1 := shm_1326 f1
  replace f3 := shm_5 f3
  have q2 : n_v vs 2 = n_v vs 0 := f3.symm
  simp only [q2] at f0 f1
  have g0 : v_iv (n_v vs 12) = w_fi ws (n_v vs 0) 157 := congrArg v_iv f0
  have kz_0_11 := fdq_237 hD hth r0
  have kz_0_157 := fdq_35 hD hth r0
  have hrf0 : 0 ≤ v_iv (n_v vs 12) ∧ v_iv (n_v vs 12) ≤ 2000 := vc_Mo_styleTokens_50_r0 (v_iv (n_v vs 6)) (v_iv (n_v vs 7)) (v_iv (n_v vs 12)) (w_fi ws (n_v vs 0) 157) (w_fi ws (n_v vs 0) 11) k6 k7 k12 g0 f1 kz_0_11 kz_0_157
  have rf12 : tv_ok ta (0, 0, 2000, []) (n_v vs 12) := tv_in t12 (by first | omega | grind) (by first | omega | grind)
  refine ⟨List.forall_mem_cons.mpr ⟨rf12, (fun _ h => (by cases h))⟩, [], trivial, ?_, (fun _ h => (by cases h))⟩
  rw [List.append_nil]
  exact (fun _ h => (by cases h))
set_option maxHeartbeats 4000000 in
theorem vc_Mo_styleTokens_51_0 (x6 : Int) (x7 : Int) (x9 : Int) (x12 : Int) (x17 : Int) (x18 : Int) (tokens_1 : Int) (pos_1 : Int) (pos_2 : Int) (tokens_2 : Int) (tokens_3 : Int) (pos_3 : Int) (tokens_4 : Int) (pos_4 : Int) (tokens_5 : Int) (pos_5 : Int) (pos_0 : Int) (tokens_0 : Int) (tokenKind_0 : Int → Int) (tokenKind_1 : Int → Int) (tokenKind_2 : Int → Int) (tokenKind_3 : Int → Int) (tokenKind_4 : Int → Int) (tokenKind_5 : Int → Int) (k6 : 0 ≤ x6 ∧ x6 ≤ 2000) (k7 : 0 ≤ x7 ∧ x7 ≤ 0) (k9 : 0 ≤ x9 ∧ x9 ≤ 2000) (k12 : 0 ≤ x12 ∧ x12 ≤ 2000) (k17 : 1 ≤ x17 ∧ x17 ≤ 2001) (k18 : 0 ≤ x18 ∧ x18 ≤ 0) (d0 : x12 + 1 ≤ x17 ∧ x17 ≤ x12 + 1) (g5 : x12 = tokens_1) (f6 : (tokens_1 ≤ x6) ∧ ((x6 ≤ pos_1) ∧ ((x7 = 0) ∨ ((x7 = 4) ∨ ((x6 + 1) ≤ pos_1))))) (g9 : x9 = pos_2) (fe_0_11_1 : pos_0 = pos_1) (fe_0_157_1 : tokens_0 = x17) (fe_0_11_2 : pos_1 = pos_2) (fe_0_157_2 : tokens_1 = tokens_2) (fe_0_11_3 : pos_2 = pos_3) (fe_0_157_3 : tokens_2 = tokens_3) (fe_0_11_4 : pos_3 = pos_4) (fe_0_157_4 : tokens_3 = tokens_4) (fe_0_11_5 : pos_4 = pos_5) (fe_0_157_5 : tokens_4 = tokens_5) (hE_0_160_1 : ∀ j : Int, tokenKind_0 j = tokenKind_1 j) (hE_0_160_2 : ∀ j : Int, tokenKind_1 j = tokenKind_2 j) (hE_0_160_3 : ∀ j : Int, tokenKind_2 j = tokenKind_3 j) (hE_0_160_4 : ∀ j : Int, tokenKind_3 j = tokenKind_4 j) (hE_0_160_5 : ∀ j : Int, 0 ≤ j → (j = x12 → tokenKind_4 j = x7) ∧ (j ≠ x12 → tokenKind_4 j = tokenKind_5 j)) (kz_0_11 : 0 ≤ pos_0 ∧ pos_0 ≤ 2000) (kz_0_157 : 0 ≤ tokens_0 ∧ tokens_0 ≤ 2010) : ((tokens_0 + x18) ≤ (pos_0 + 1)) ∧ ((x18 = 1) ∨ ((1 ≤ tokens_0) ∧ ((tokenKind_0 ((tokens_0 - 1)) = 0) ∨ (tokenKind_0 ((tokens_0 - 1)) = 4)))) := by
  subst fe_0_11_1
  subst fe_0_11_2
  subst fe_0_157_2
  subst fe_0_11_3
  subst fe_0_157_3
  subst fe_0_11_4
  subst fe_0_157_4
  subst fe_0_11_5
  subst fe_0_157_5
  have e_hE_0_160_1 := funext hE_0_160_1; subst e_hE_0_160_1
  have e_hE_0_160_2 := funext hE_0_160_2; subst e_hE_0_160_2
  have e_hE_0_160_3 := funext hE_0_160_3; subst e_hE_0_160_3
  have e_hE_0_160_4 := funext hE_0_160_4; subst e_hE_0_160_4
  first | assumption | omega | grind
set_option maxHeartbeats 4000000 in
theorem vc_Mo_styleTokens_51_2 (x18 : Int) (tokens_1 : Int) (pos_1 : Int) (pos_2 : Int) (tokens_2 : Int) (tokens_3 : Int) (pos_3 : Int) (tokens_4 : Int) (pos_4 : Int) (tokens_5 : Int) (pos_5 : Int) (pos_0 : Int) (tokenKind_0 : Int → Int) (tokenKind_1 : Int → Int) (tokenKind_2 : Int → Int) (tokenKind_3 : Int → Int) (tokenKind_4 : Int → Int) (gx : Int) (k18 : 0 ≤ x18 ∧ x18 ≤ 0) (fe_0_11_1 : pos_0 = pos_1) (fe_0_11_2 : pos_1 = pos_2) (fe_0_157_2 : tokens_1 = tokens_2) (fe_0_11_3 : pos_2 = pos_3) (fe_0_157_3 : tokens_2 = tokens_3) (fe_0_11_4 : pos_3 = pos_4) (fe_0_157_4 : tokens_3 = tokens_4) (fe_0_11_5 : pos_4 = pos_5) (fe_0_157_5 : tokens_4 = tokens_5) (hE_0_160_1 : ∀ j : Int, tokenKind_0 j = tokenKind_1 j) (hE_0_160_2 : ∀ j : Int, tokenKind_1 j = tokenKind_2 j) (hE_0_160_3 : ∀ j : Int, tokenKind_2 j = tokenKind_3 j) (hE_0_160_4 : ∀ j : Int, tokenKind_3 j = tokenKind_4 j) (kz_0_11 : 0 ≤ pos_0 ∧ pos_0 ≤ 2000) (ex2 : gx = 4000 + ((-2) * pos_0 + (1 * x18 + 0))) : 1 * gx + (2 * pos_0 + ((-1) * x18 + 0)) ≤ 4000 := by
  subst fe_0_11_1
  subst fe_0_11_2
  subst fe_0_157_2
  subst fe_0_11_3
  subst fe_0_157_3
  subst fe_0_11_4
  subst fe_0_157_4
  subst fe_0_11_5
  subst fe_0_157_5
  have e_hE_0_160_1 := funext hE_0_160_1; subst e_hE_0_160_1
  have e_hE_0_160_2 := funext hE_0_160_2; subst e_hE_0_160_2
  have e_hE_0_160_3 := funext hE_0_160_3; subst e_hE_0_160_3
  have e_hE_0_160_4 := funext hE_0_160_4; subst e_hE_0_160_4
  first | assumption | omega | grind
set_option maxHeartbeats 4000000 in
theorem vc_Mo_styleTokens_51_3 (x18 : Int) (tokens_1 : Int) (pos_1 : Int) (pos_2 : Int) (tokens_2 : Int) (tokens_3 : Int) (pos_3 : Int) (tokens_4 : Int) (pos_4 : Int) (tokens_5 : Int) (pos_5 : Int) (pos_0 : Int) (tokenKind_0 : Int → Int) (tokenKind_1 : Int → Int) (tokenKind_2 : Int → Int) (tokenKind_3 : Int → Int) (tokenKind_4 : Int → Int) (gx : Int) (k18 : 0 ≤ x18 ∧ x18 ≤ 0) (fe_0_11_1 : pos_0 = pos_1) (fe_0_11_2 : pos_1 = pos_2) (fe_0_157_2 : tokens_1 = tokens_2) (fe_0_11_3 : pos_2 = pos_3) (fe_0_157_3 : tokens_2 = tokens_3) (fe_0_11_4 : pos_3 = pos_4) (fe_0_157_4 : tokens_3 = tokens_4) (fe_0_11_5 : pos_4 = pos_5) (fe_0_157_5 : tokens_4 = tokens_5) (hE_0_160_1 : ∀ j : Int, tokenKind_0 j = tokenKind_1 j) (hE_0_160_2 : ∀ j : Int, tokenKind_1 j = tokenKind_2 j) (hE_0_160_3 : ∀ j : Int, tokenKind_2 j = tokenKind_3 j) (hE_0_160_4 : ∀ j : Int, tokenKind_3 j = tokenKind_4 j) (kz_0_11 : 0 ≤ pos_0 ∧ pos_0 ≤ 2000) (ex2 : gx = 4000 + ((-2) * pos_0 + (1 * x18 + 0))) : (-1) * gx + ((-2) * pos_0 + (1 * x18 + 0)) ≤ (-4000) := by
  subst fe_0_11_1
  subst fe_0_11_2
  subst fe_0_157_2
  subst fe_0_11_3
  subst fe_0_157_3
  subst fe_0_11_4
  subst fe_0_157_4
  subst fe_0_11_5
  subst fe_0_157_5
  have e_hE_0_160_1 := funext hE_0_160_1; subst e_hE_0_160_1
  have e_hE_0_160_2 := funext hE_0_160_2; subst e_hE_0_160_2
  have e_hE_0_160_3 := funext hE_0_160_3; subst e_hE_0_160_3
  have e_hE_0_160_4 := funext hE_0_160_4; subst e_hE_0_160_4
  first | assumption | omega | grind
def o_Mo_styleTokens_51 : or_T := (17, 19, [(0, (2, 0, 0, [165])), (2, (2, 0, 0, [165])), (6, (0, 0, 2000, [])), (7, (0, 0, 0, [])), (9, (0, 0, 2000, [])), (10, (0, 0, 4001, [])), (11, (2, 0, 0, [274])), (12, (0, 0, 2000, [])), (13, (2, 0, 0, [275])), (14, (2, 0, 0, [276])), (15, (2, 0, 0, [277])), (16, (0, 1, 1, [])), (17, (0, 1, 2001, [])), (18, (0, 0, 0, []))], [(8, [7], [0]), (20, [10, 6], [30, -4001, -1, 0, 0, -2, 0, 0]), (24, [0, 2], []), (101, [2, 17], [157]), (1, [17, 12, 16], []), (9, [12, 2], [157]), (20, [2, 6, 7], [50, 2, 0, 157, 11, 2, 7, 0, 3, 2, 0, 157, 1, 1, 2, 7, 0, 2, 1, 1, 2, 0, 11, 3, 6, 1, 2, 1, 2, 0, 0, 3, 6, 1, 2, 1, 2, 0, 4, 0, 6, 4, 2, 1, 1, 0, 1, 2, 0, 11]), (20, [10, 6], [30, -4001, -1, 0, 0, -2, 0, 0]), (100, [15, 12, 9], []), (9, [9, 2], [11]), (9, [15, 2], [163]), (20, [2, 6, 7], [50, 2, 0, 157, 11, 2, 7, 0, 3, 2, 0, 157, 1, 1, 2, 7, 0, 2, 1, 1, 2, 0, 11, 3, 6, 1, 2, 1, 2, 0, 0, 3, 6, 1, 2, 1, 2, 0, 4, 0, 6, 4, 2, 1, 1, 0, 1, 2, 0, 11]), (20, [10, 6], [30, -4001, -1, 0, 0, -2, 0, 0]), (100, [14, 12, 6], []), (9, [14, 2], [162]), (20, [2, 6, 7], [50, 2, 0, 157, 11, 2, 7, 0, 3, 2, 0, 157, 1, 1, 2, 7, 0, 2, 1, 1, 2, 0, 11, 3, 6, 1, 2, 1, 2, 0, 0, 3, 6, 1, 2, 1, 2, 0, 4, 0, 6, 4, 2, 1, 1, 0, 1, 2, 0, 11]), (20, [10, 6], [30, -4001, -1, 0, 0, -2, 0, 0]), (100, [13, 12, 8], []), (9, [13, 2], [161]), (20, [2, 6, 7], [50, 2, 0, 157, 11, 2, 7, 0, 3, 2, 0, 157, 1, 1, 2, 7, 0, 2, 1, 1, 2, 0, 11, 3, 6, 1, 2, 1, 2, 0, 0, 3, 6, 1, 2, 1, 2, 0, 4, 0, 6, 4, 2, 1, 1, 0, 1, 2, 0, 11]), (20, [10, 6], [30, -4001, -1, 0, 0, -2, 0, 0]), (100, [11, 12, 7], []), (9, [11, 2], [160]), (20, [2, 6, 7], [50, 2, 0, 157, 11, 2, 7, 0, 3, 2, 0, 157, 1, 1, 2, 7, 0, 2, 1, 1, 2, 0, 11, 3, 6, 1, 2, 1, 2, 0, 0, 3, 6, 1, 2, 1, 2, 0, 4, 0, 6, 4, 2, 1, 1, 0, 1, 2, 0, 11]), (20, [10, 6], [30, -4001, -1, 0, 0, -2, 0, 0])], [], [(0, 0, 4001, [])], [(20, [2, 18], [50, 2, 1, 157, 11, 160, 2, 16, 0, 7, 4, 3, 2, 0, 157, 1, 1, 4, 3, 2, 0, 11, 0, 1, 3, 6, 1, 2, 1, 1, 0, 1, 2, 7, 0, 2, 0, 1, 2, 0, 157, 3, 14, 1, 10, 3, 0, 160, 5, 3, 2, 0, 157, 0, 1, 0, 0, 1, 10, 3, 0, 160, 5, 3, 2, 0, 157, 0, 1, 0, 4]), (24, [0, 2], []), (20, [19, 2, 18], [30, 4000, 1, 0, 0, 2, 1, 11, -1, 0, 0]), (20, [19, 2, 18], [30, -4000, -1, 0, 0, -2, 1, 11, 1, 0, 0])], [(19, 10, -1000000000000, -1)], [(17, 12, 1, 1)])
theorem oo_Mo_styleTokens_51 {kA : Nat → ClassId} : or_ok PRD kA GG o_Mo_styleTokens_51 := by
  refine or_mk fun A ta ws vs hD hth hl => ?_
  intro t0 r0 t2 r2 t6 k6 t7 k7 t9 k9 t10 k10 t11 r11 t12 k12 t13 r13 t14 r14 t15 r15 t16 k16 t17 k17 t18 k18 d0 f0 f1 f2 ta1 w1 le1 s1 f4 f5 f6 f7 ta2 w2 le2 s2 f9 f10 f11 f12 ta3 w3 le3 s3 f14 f15 f16 ta4 w4 le4 s4 f18 f19 f20 ta5 w5 le5 s5 f22 f23 f24
  replace f0 := shm_192 f0
  replace f1 := shm_1327 f1
  replace f2 := shm_5 f2
  have s1 : (∀ b j, w_el ws b j = w_el w1 b j) ∧ ∀ b j, w_fd ws b j = if b = v_ad (n_v vs 2) ∧ j = 157 then n_v vs 17 else w_fd w1 b j := s1.2
  replace f4 := shm_12 f4
  replace f5 := shm_1331 f5
  replace f6 := shm_1326 f6
  replace f7 := shm_1327 f7
  have s2 : (∀ b j, w_el w1 b j = if b = v_ad (n_v vs 15) ∧ j = (v_iv (n_v vs 12)).toNat then v_iv (n_v vs 9) else w_el w2 b j) ∧ ∀ b k, w_fd w1 b k = w_fd w2 b k := s2.2
  replace f9 := shm_116 f9
  replace f10 := shm_1332 f10
  replace f11 := shm_1326 f11
  replace f12 := shm_1327 f12
  have s3 : (∀ b j, w_el w2 b j = if b = v_ad (n_v vs 14) ∧ j = (v_iv (n_v vs 12)).toNat then v_iv (n_v vs 6) else w_el w3 b j) ∧ ∀ b k, w_fd w2 b k = w_fd w3 b k := s3.2
  replace f14 := shm_301 f14
  replace f15 := shm_1326 f15
  replace f16 := shm_1327 f16
  have s4 : (∀ b j, w_el w3 b j = if b = v_ad (n_v vs 13) ∧ j = (v_iv (n_v vs 12)).toNat then v_iv (n_v vs 8) else w_el w4 b j) ∧ ∀ b k, w_fd w3 b k = w_fd w4 b k := s4.2
  replace f18 := shm_336 f18
  replace f19 := shm_1326 f19
  replace f20 := shm_1327 f20
  have s5 : (∀ b j, w_el w4 b j = if b = v_ad (n_v vs 11) ∧ j = (v_iv (n_v vs 12)).toNat then v_iv (n_v vs 7) else w_el w5 b j) ∧ ∀ b k, w_fd w4 b k = w_fd w5 b k := s5.2
  replace f22 := shm_327 f22
  replace f23 := shm_1326 f23
  replace f24 := shm_1327 f24
  have q2 : n_v vs 2 = n_v vs 0 := f2.symm
  rw [q2] at s1
  simp only [q2] at f5 f6 f9 f10 f11 f14 f15 f18 f19 f22 f23
  have ar_0_160_1 : w_ar w1 (n_v vs 0) 160 = w_ar ws (n_v vs 0) 160 := by show v_ad (w_fd w1 _ _) = v_ad (w_fd ws _ _); rw [s1.2, if_neg (fun e => absurd e.2 (by decide))]
  have ar_0_160_2 : w_ar w2 (n_v vs 0) 160 = w_ar ws (n_v vs 0) 160 := by rw [← ar_0_160_1]; show v_ad (w_fd w2 _ _) = v_ad (w_fd w1 _ _); rw [s2.2]
  have ar_0_160_3 : w_ar w3 (n_v vs 0) 160 = w_ar ws (n_v vs 0) 160 := by rw [← ar_0_160_2]; show v_ad (w_fd w3 _ _) = v_ad (w_fd w2 _ _); rw [s3.2]
  have ar_0_160_4 : w_ar w4 (n_v vs 0) 160 = w_ar ws (n_v vs 0) 160 := by rw [← ar_0_160_3]; show v_ad (w_fd w4 _ _) = v_ad (w_fd w3 _ _); rw [s4.2]
  have ar_0_160_5 : w_ar w5 (n_v vs 0) 160 = w_ar ws (n_v vs 0) 160 := by rw [← ar_0_160_4]; show v_ad (w_fd w5 _ _) = v_ad (w_fd w4 _ _); rw [s5.2]
  have cr_0_160 := fdq_33 hD hth r0
  have ar_0_161_1 : w_ar w1 (n_v vs 0) 161 = w_ar ws (n_v vs 0) 161 := by show v_ad (w_fd w1 _ _) = v_ad (w_fd ws _ _); rw [s1.2, if_neg (fun e => absurd e.2 (by decide))]
  have ar_0_161_2 : w_ar w2 (n_v vs 0) 161 = w_ar ws (n_v vs 0) 161 := by rw [← ar_0_161_1]; show v_ad (w_fd w2 _ _) = v_ad (w_fd w1 _ _); rw [s2.2]
  have ar_0_161_3 : w_ar w3 (n_v vs 0) 161 = w_ar ws (n_v vs 0) 161 := by rw [← ar_0_161_2]; show v_ad (w_fd w3 _ _) = v_ad (w_fd w2 _ _); rw [s3.2]
  have ar_0_161_4 : w_ar w4 (n_v vs 0) 161 = w_ar ws (n_v vs 0) 161 := by rw [← ar_0_161_3]; show v_ad (w_fd w4 _ _) = v_ad (w_fd w3 _ _); rw [s4.2]
  have ar_0_161_5 : w_ar w5 (n_v vs 0) 161 = w_ar ws (n_v vs 0) 161 := by rw [← ar_0_161_4]; show v_ad (w_fd w5 _ _) = v_ad (w_fd w4 _ _); rw [s5.2]
  have cr_0_161 := fdq_40 hD hth r0
  have ar_0_162_1 : w_ar w1 (n_v vs 0) 162 = w_ar ws (n_v vs 0) 162 := by show v_ad (w_fd w1 _ _) = v_ad (w_fd ws _ _); rw [s1.2, if_neg (fun e => absurd e.2 (by decide))]
  have ar_0_162_2 : w_ar w2 (n_v vs 0) 162 = w_ar ws (n_v vs 0) 162 := by rw [← ar_0_162_1]; show v_ad (w_fd w2 _ _) = v_ad (w_fd w1 _ _); rw [s2.2]
  have ar_0_162_3 : w_ar w3 (n_v vs 0) 162 = w_ar ws (n_v vs 0) 162 := by rw [← ar_0_162_2]; show v_ad (w_fd w3 _ _) = v_ad (w_fd w2 _ _); rw [s3.2]
  have ar_0_162_4 : w_ar w4 (n_v vs 0) 162 = w_ar ws (n_v vs 0) 162 := by rw [← ar_0_162_3]; show v_ad (w_fd w4 _ _) = v_ad (w_fd w3 _ _); rw [s4.2]
  have ar_0_162_5 : w_ar w5 (n_v vs 0) 162 = w_ar ws (n_v vs 0) 162 := by rw [← ar_0_162_4]; show v_ad (w_fd w5 _ _) = v_ad (w_fd w4 _ _); rw [s5.2]
  have cr_0_162 := fdq_41 hD hth r0
  have ar_0_163_1 : w_ar w1 (n_v vs 0) 163 = w_ar ws (n_v vs 0) 163 := by show v_ad (w_fd w1 _ _) = v_ad (w_fd ws _ _); rw [s1.2, if_neg (fun e => absurd e.2 (by decide))]
  have ar_0_163_2 : w_ar w2 (n_v vs 0) 163 = w_ar ws (n_v vs 0) 163 := by rw [← ar_0_163_1]; show v_ad (w_fd w2 _ _) = v_ad (w_fd w1 _ _); rw [s2.2]
  have ar_0_163_3 : w_ar w3 (n_v vs 0) 163 = w_ar ws (n_v vs 0) 163 := by rw [← ar_0_163_2]; show v_ad (w_fd w3 _ _) = v_ad (w_fd w2 _ _); rw [s3.2]
  have ar_0_163_4 : w_ar w4 (n_v vs 0) 163 = w_ar ws (n_v vs 0) 163 := by rw [← ar_0_163_3]; show v_ad (w_fd w4 _ _) = v_ad (w_fd w3 _ _); rw [s4.2]
  have ar_0_163_5 : w_ar w5 (n_v vs 0) 163 = w_ar ws (n_v vs 0) 163 := by rw [← ar_0_163_4]; show v_ad (w_fd w5 _ _) = v_ad (w_fd w4 _ _); rw [s5.2]
  have cr_0_163 := fdq_42 hD hth r0
  have ad_15 : v_ad (n_v vs 15) = w_ar ws (n_v vs 0) 163 := (congrArg v_ad f10).trans ar_0_163_2
  have ad_14 : v_ad (n_v vs 14) = w_ar ws (n_v vs 0) 162 := (congrArg v_ad f14).trans ar_0_162_3
  have ad_13 : v_ad (n_v vs 13) = w_ar ws (n_v vs 0) 161 := (congrArg v_ad f18).trans ar_0_161_4
  have ad_11 : v_ad (n_v vs 11) = w_ar ws (n_v vs 0) 160 := (congrArg v_ad f22).trans ar_0_160_5
  have g5 : v_iv (n_v vs 12) = w_fi w1 (n_v vs 0) 157 := congrArg v_iv f5
  have g9 : v_iv (n_v vs 9) = w_fi w2 (n_v vs 0) 11 := congrArg v_iv f9
  have fe_0_11_1 : w_fi ws (n_v vs 0) 11 = w_fi w1 (n_v vs 0) 11 := by show v_iv (w_fd _ _ _) = v_iv (w_fd _ _ _); rw [s1.2, if_neg (fun e => absurd e.2 (by decide))]
  have fe_0_157_1 : w_fi ws (n_v vs 0) 157 = v_iv (n_v vs 17) := by show v_iv (w_fd _ _ _) = _; rw [s1.2, if_pos ⟨rfl, rfl⟩]
  have fe_0_11_2 : w_fi w1 (n_v vs 0) 11 = w_fi w2 (n_v vs 0) 11 := congrArg v_iv (s2.2 _ _)
  have fe_0_157_2 : w_fi w1 (n_v vs 0) 157 = w_fi w2 (n_v vs 0) 157 := congrArg v_iv (s2.2 _ _)
  have fe_0_11_3 : w_fi w2 (n_v vs 0) 11 = w_fi w3 (n_v vs 0) 11 := congrArg v_iv (s3.2 _ _)
  have fe_0_157_3 : w_fi w2 (n_v vs 0) 157 = w_fi w3 (n_v vs 0) 157 := congrArg v_iv (s3.2 _ _)
  have fe_0_11_4 : w_fi w3 (n_v vs 0) 11 = w_fi w4 (n_v vs 0) 11 := congrArg v_iv (s4.2 _ _)
  have fe_0_157_4 : w_fi w3 (n_v vs 0) 157 = w_fi w4 (n_v vs 0) 157 := congrArg v_iv (s4.2 _ _)
  have fe_0_11_5 : w_fi w4 (n_v vs 0) 11 = w_fi w5 (n_v vs 0) 11 := congrArg v_iv (s5.2 _ _)
  have fe_0_157_5 : w_fi w4 (n_v vs 0) 157 = w_fi w5 (n_v vs 0) 157 := congrArg v_iv (s5.2 _ _)
  have hE_0_160_1 : ∀ j : Int, w_ei ws (w_ar ws (n_v vs 0) 160) j = w_ei w1 (w_ar ws (n_v vs 0) 160) j := fun j => s1.1 _ _
  have hE_0_160_2 : ∀ j : Int, w_ei w1 (w_ar ws (n_v vs 0) 160) j = w_ei w2 (w_ar ws (n_v vs 0) 160) j := el_kp s2.1 r15 cr_0_160 (by decide)
  have hE_0_160_3 : ∀ j : Int, w_ei w2 (w_ar ws (n_v vs 0) 160) j = w_ei w3 (w_ar ws (n_v vs 0) 160) j := el_kp s3.1 r14 cr_0_160 (by decide)
  have hE_0_160_4 : ∀ j : Int, w_ei w3 (w_ar ws (n_v vs 0) 160) j = w_ei w4 (w_ar ws (n_v vs 0) 160) j := el_kp s4.1 r13 cr_0_160 (by decide)
  have hE_0_160_5 : ∀ j : Int, 0 ≤ j → (j = v_iv (n_v vs 12) → w_ei w4 (w_ar ws (n_v vs 0) 160) j = v_iv (n_v vs 7)) ∧ (j ≠ v_iv (n_v vs 12) → w_ei w4 (w_ar ws (n_v vs 0) 160) j = w_ei w5 (w_ar ws (n_v vs 0) 160) j) := fun j hj => ⟨fun h => by unfold w_ei; rw [s5.1, if_pos ⟨ad_11.symm, by rw [h]⟩], fun h => by unfold w_ei; rw [s5.1, if_neg (fun e => h (by have := e.2; omega))]⟩
  have hK_0_160 := elq_6 hD hth cr_0_160
  have kz_0_11 := fdq_237 hD hth r0
  have kz_0_157 := fdq_35 hD hth r0
  have kb_0_11 := fdq_237 hD hth r0
  obtain ⟨x, ex, hx⟩ := iv_ex (ta := ta) (lo := 0) (hi := 4001) (z := 4000 + ((-2) * w_fi ws (n_v vs 0) 11 + (1 * v_iv (n_v vs 18) + 0))) (by omega) (by omega) (by omega) (by omega)
  have ex2 : v_iv (Value.int x) = 4000 + ((-2) * w_fi ws (n_v vs 0) 11 + (1 * v_iv (n_v vs 18) + 0)) := ex
  have ex3 : 0 ≤ v_iv (Value.int x) ∧ v_iv (Value.int x) ≤ 4001 := tv_rng hx
  have e_0 : n_v (vs ++ [Value.int x]) 0 = n_v vs 0 := n_v_old (by rw [hl]; decide)
  have e_2 : n_v (vs ++ [Value.int x]) 2 = n_v vs 2 := n_v_old (by rw [hl]; decide)
  have e_18 : n_v (vs ++ [Value.int x]) 18 = n_v vs 18 := n_v_old (by rw [hl]; decide)
  have e_19 : n_v (vs ++ [Value.int x]) 19 = Value.int x := n_v_new hl
  have nf0 : fc_1 PRD (20, [2, 18], [50, 2, 1, 157, 11, 160, 2, 16, 0, 7, 4, 3, 2, 0, 157, 1, 1, 4, 3, 2, 0, 11, 0, 1, 3, 6, 1, 2, 1, 1, 0, 1, 2, 7, 0, 2, 0, 1, 2, 0, 157, 3, 14, 1, 10, 3, 0, 160, 5, 3, 2, 0, 157, 0, 1, 0, 0, 1, 10, 3, 0, 160, 5, 3, 2, 0, 157, 0, 1, 0, 4]) ws (vs ++ [Value.int x]) := by
    refine ⟨nf_inA hl rfl, sgq_1319 ?_⟩
    · show ((w_fi ws (n_v (vs ++ [Value.int x]) 2) 157 + v_iv (n_v (vs ++ [Value.int x]) 18)) ≤ (w_fi ws (n_v (vs ++ [Value.int x]) 2) 11 + 1)) ∧ ((v_iv (n_v (vs ++ [Value.int x]) 18) = 1) ∨ ((1 ≤ w_fi ws (n_v (vs ++ [Value.int x]) 2) 157) ∧ ((w_ei ws (w_ar ws (n_v (vs ++ [Value.int x]) 2) 160) ((w_fi ws (n_v (vs ++ [Value.int x]) 2) 157 - 1)) = 0) ∨ (w_ei ws (w_ar ws (n_v (vs ++ [Value.int x]) 2) 160) ((w_fi ws (n_v (vs ++ [Value.int x]) 2) 157 - 1)) = 4))))
      simp only [e_2, e_18, q2]
      exact vc_Mo_styleTokens_51_0 (v_iv (n_v vs 6)) (v_iv (n_v vs 7)) (v_iv (n_v vs 9)) (v_iv (n_v vs 12)) (v_iv (n_v vs 17)) (v_iv (n_v vs 18)) (w_fi w1 (n_v vs 0) 157) (w_fi w1 (n_v vs 0) 11) (w_fi w2 (n_v vs 0) 11) (w_fi w2 (n_v vs 0) 157) (w_fi w3 (n_v vs 0) 157) (w_fi w3 (n_v vs 0) 11) (w_fi w4 (n_v vs 0) 157) (w_fi w4 (n_v vs 0) 11) (w_fi w5 (n_v vs 0) 157) (w_fi w5 (n_v vs 0) 11) (w_fi ws (n_v vs 0) 11) (w_fi ws (n_v vs 0) 157) (w_ei ws (w_ar ws (n_v vs 0) 160)) (w_ei w1 (w_ar ws (n_v vs 0) 160)) (w_ei w2 (w_ar ws (n_v vs 0) 160)) (w_ei w3 (w_ar ws (n_v vs 0) 160)) (w_ei w4 (w_ar ws (n_v vs 0) 160)) (w_ei w5 (w_ar ws (n_v vs 0) 160)) k6 k7 k9 k12 k17 k18 d0 g5 f6 g9 fe_0_11_1 fe_0_157_1 fe_0_11_2 fe_0_157_2 fe_0_11_3 fe_0_157_3 fe_0_11_4 fe_0_157_4 fe_0_11_5 fe_0_157_5 hE_0_160_1 hE_0_160_2 hE_0_160_3 hE_0_160_4 hE_0_160_5 kz_0_11 kz_0_157
  have nf1 : fc_1 PRD (24, [0, 2], []) ws (vs ++ [Value.int x]) := by
    refine ⟨nf_inA hl rfl, sgq_5 ?_⟩
    · show n_v (vs ++ [Value.int x]) 0 = n_v (vs ++ [Value.int x]) 2
      first | rfl | simp only [e_0, e_2, q2]
  have nf2 : fc_1 PRD (20, [19, 2, 18], [30, 4000, 1, 0, 0, 2, 1, 11, -1, 0, 0]) ws (vs ++ [Value.int x]) := by
    refine ⟨nf_inA hl rfl, sgq_1320 ?_⟩
    · show 1 * v_iv (n_v (vs ++ [Value.int x]) 19) + (2 * w_fi ws (n_v (vs ++ [Value.int x]) 2) 11 + ((-1) * v_iv (n_v (vs ++ [Value.int x]) 18) + 0)) ≤ 4000
      simp only [e_2, e_18, e_19, q2]
      exact vc_Mo_styleTokens_51_2 (v_iv (n_v vs 18)) (w_fi w1 (n_v vs 0) 157) (w_fi w1 (n_v vs 0) 11) (w_fi w2 (n_v vs 0) 11) (w_fi w2 (n_v vs 0) 157) (w_fi w3 (n_v vs 0) 157) (w_fi w3 (n_v vs 0) 11) (w_fi w4 (n_v vs 0) 157) (w_fi w4 (n_v vs 0) 11) (w_fi w5 (n_v vs 0) 157) (w_fi w5 (n_v vs 0) 11) (w_fi ws (n_v vs 0) 11) (w_ei ws (w_ar ws (n_v vs 0) 160)) (w_ei w1 (w_ar ws (n_v vs 0) 160)) (w_ei w2 (w_ar ws (n_v vs 0) 160)) (w_ei w3 (w_ar ws (n_v vs 0) 160)) (w_ei w4 (w_ar ws (n_v vs 0) 160)) (v_iv (Value.int x)) k18 fe_0_11_1 fe_0_11_2 fe_0_157_2 fe_0_11_3 fe_0_157_3 fe_0_11_4 fe_0_157_4 fe_0_11_5 fe_0_157_5 hE_0_160_1 hE_0_160_2 hE_0_160_3 hE_0_160_4 kz_0_11 ex2
  have nf3 : fc_1 PRD (20, [19, 2, 18], [30, -4000, -1, 0, 0, -2, 1, 11, 1, 0, 0]) ws (vs ++ [Value.int x]) := by
    refine ⟨nf_inA hl rfl, sgq_1321 ?_⟩
    · show (-1) * v_iv (n_v (vs ++ [Value.int x]) 19) + ((-2) * w_fi ws (n_v (vs ++ [Value.int x]) 2) 11 + (1 * v_iv (n_v (vs ++ [Value.int x]) 18) + 0)) ≤ (-4000)
      simp only [e_2, e_18, e_19, q2]
      exact vc_Mo_styleTokens_51_3 (v_iv (n_v vs 18)) (w_fi w1 (n_v vs 0) 157) (w_fi w1 (n_v vs 0) 11) (w_fi w2 (n_v vs 0) 11) (w_fi w2 (n_v vs 0) 157) (w_fi w3 (n_v vs 0) 157) (w_fi w3 (n_v vs 0) 11) (w_fi w4 (n_v vs 0) 157) (w_fi w4 (n_v vs 0) 11) (w_fi w5 (n_v vs 0) 157) (w_fi w5 (n_v vs 0) 11) (w_fi ws (n_v vs 0) 11) (w_ei ws (w_ar ws (n_v vs 0) 160)) (w_ei w1 (w_ar ws (n_v vs 0) 160)) (w_ei w2 (w_ar ws (n_v vs 0) 160)) (w_ei w3 (w_ar ws (n_v vs 0) 160)) (w_ei w4 (w_ar ws (n_v vs 0) 160)) (v_iv (Value.int x)) k18 fe_0_11_1 fe_0_11_2 fe_0_157_2 fe_0_11_3 fe_0_157_3 fe_0_11_4 fe_0_157_4 fe_0_11_5 fe_0_157_5 hE_0_160_1 hE_0_160_2 hE_0_160_3 hE_0_160_4 kz_0_11 ex2
  obtain ⟨x0, e0, _, _⟩ := tv_int t10 rfl
  have e1 : v_iv (n_v vs 10) = x0.toInt := by rw [e0]; rfl
  have ho : sy_ofs (vs ++ [Value.int x]) (19, 10, -1000000000000, -1) := by
    refine ⟨x, x0, by rw [List.getElem?_append_right (by rw [hl]; decide), hl]; rfl, ?_, ?_, ?_⟩
    · rw [List.getElem?_append_left (by rw [hl]; decide)]; exact n_v_some (by rw [hl]; decide) e0
    · show x0.toInt + (-1000000000000) ≤ x.toInt; omega
    · show x.toInt ≤ x0.toInt + (-1); omega
  exact ⟨(fun _ h => (by cases h)), [Value.int x], ag_one hx, List.forall_mem_cons.mpr ⟨⟨show (20 : Nat) < 100 from by decide, nf0⟩, List.forall_mem_cons.mpr ⟨⟨show (24 : Nat) < 100 from by decide, nf1⟩, List.forall_mem_cons.mpr ⟨⟨show (20 : Nat) < 100 from by decide, nf2⟩, List.forall_mem_cons.mpr ⟨⟨show (20 : Nat) < 100 from by decide, nf3⟩, (fun _ h => (by cases h))⟩⟩⟩⟩, List.forall_mem_cons.mpr ⟨ho, (fun _ h => (by cases h))⟩⟩
set_option maxHeartbeats 4000000 in
theorem vc_Mo_styleTokens_52_0 (x6 : Int) (x7 : Int) (x9 : Int) (x12 : Int) (x17 : Int) (x18 : Int) (x19 : Int) (tokens_1 : Int) (pos_1 : Int) (pos_2 : Int) (tokens_2 : Int) (tokens_3 : Int) (pos_3 : Int) (tokens_4 : Int) (pos_4 : Int) (tokens_5 : Int) (pos_5 : Int) (pos_0 : Int) (tokens_0 : Int) (tokenKind_0 : Int → Int) (tokenKind_1 : Int → Int) (tokenKind_2 : Int → Int) (tokenKind_3 : Int → Int) (tokenKind_4 : Int → Int) (tokenKind_5 : Int → Int) (k6 : 0 ≤ x6 ∧ x6 ≤ 2000) (k7 : 4 ≤ x7 ∧ x7 ≤ 4) (k9 : 0 ≤ x9 ∧ x9 ≤ 2000) (k12 : 0 ≤ x12 ∧ x12 ≤ 2000) (k17 : 1 ≤ x17 ∧ x17 ≤ 2001) (k18 : 4 ≤ x18 ∧ x18 ≤ 4) (k19 : 0 ≤ x19 ∧ x19 ≤ 0) (d0 : x12 + 1 ≤ x17 ∧ x17 ≤ x12 + 1) (g6 : x12 = tokens_1) (f7 : (tokens_1 ≤ x6) ∧ ((x6 ≤ pos_1) ∧ ((x7 = 0) ∨ ((x7 = 4) ∨ ((x6 + 1) ≤ pos_1))))) (g10 : x9 = pos_2) (fe_0_11_1 : pos_0 = pos_1) (fe_0_157_1 : tokens_0 = x17) (fe_0_11_2 : pos_1 = pos_2) (fe_0_157_2 : tokens_1 = tokens_2) (fe_0_11_3 : pos_2 = pos_3) (fe_0_157_3 : tokens_2 = tokens_3) (fe_0_11_4 : pos_3 = pos_4) (fe_0_157_4 : tokens_3 = tokens_4) (fe_0_11_5 : pos_4 = pos_5) (fe_0_157_5 : tokens_4 = tokens_5) (hE_0_160_1 : ∀ j : Int, tokenKind_0 j = tokenKind_1 j) (hE_0_160_2 : ∀ j : Int, tokenKind_1 j = tokenKind_2 j) (hE_0_160_3 : ∀ j : Int, tokenKind_2 j = tokenKind_3 j) (hE_0_160_4 : ∀ j : Int, tokenKind_3 j = tokenKind_4 j) (hE_0_160_5 : ∀ j : Int, 0 ≤ j → (j = x12 → tokenKind_4 j = x7) ∧ (j ≠ x12 → tokenKind_4 j = tokenKind_5 j)) (kz_0_11 : 0 ≤ pos_0 ∧ pos_0 ≤ 2000) (kz_0_157 : 0 ≤ tokens_0 ∧ tokens_0 ≤ 2010) : ((tokens_0 + x19) ≤ (pos_0 + 1)) ∧ ((x19 = 1) ∨ ((1 ≤ tokens_0) ∧ ((tokenKind_0 ((tokens_0 - 1)) = 0) ∨ (tokenKind_0 ((tokens_0 - 1)) = 4)))) := by
  subst fe_0_11_1
  subst fe_0_11_2
  subst fe_0_157_2
  subst fe_0_11_3
  subst fe_0_157_3
  subst fe_0_11_4
  subst fe_0_157_4
  subst fe_0_11_5
  subst fe_0_157_5
  have e_hE_0_160_1 := funext hE_0_160_1; subst e_hE_0_160_1
  have e_hE_0_160_2 := funext hE_0_160_2; subst e_hE_0_160_2
  have e_hE_0_160_3 := funext hE_0_160_3; subst e_hE_0_160_3
  have e_hE_0_160_4 := funext hE_0_160_4; subst e_hE_0_160_4
  first | assumption | omega | grind
set_option maxHeartbeats 4000000 in
theorem vc_Mo_styleTokens_52_2 (x19 : Int) (tokens_1 : Int) (pos_1 : Int) (pos_2 : Int) (tokens_2 : Int) (tokens_3 : Int) (pos_3 : Int) (tokens_4 : Int) (pos_4 : Int) (tokens_5 : Int) (pos_5 : Int) (pos_0 : Int) (tokenKind_0 : Int → Int) (tokenKind_1 : Int → Int) (tokenKind_2 : Int → Int) (tokenKind_3 : Int → Int) (tokenKind_4 : Int → Int) (gx : Int) (k19 : 0 ≤ x19 ∧ x19 ≤ 0) (fe_0_11_1 : pos_0 = pos_1) (fe_0_11_2 : pos_1 = pos_2) (fe_0_157_2 : tokens_1 = tokens_2) (fe_0_11_3 : pos_2 = pos_3) (fe_0_157_3 : tokens_2 = tokens_3) (fe_0_11_4 : pos_3 = pos_4) (fe_0_157_4 : tokens_3 = tokens_4) (fe_0_11_5 : pos_4 = pos_5) (fe_0_157_5 : tokens_4 = tokens_5) (hE_0_160_1 : ∀ j : Int, tokenKind_0 j = tokenKind_1 j) (hE_0_160_2 : ∀ j : Int, tokenKind_1 j = tokenKind_2 j) (hE_0_160_3 : ∀ j : Int, tokenKind_2 j = tokenKind_3 j) (hE_0_160_4 : ∀ j : Int, tokenKind_3 j = tokenKind_4 j) (kz_0_11 : 0 ≤ pos_0 ∧ pos_0 ≤ 2000) (ex2 : gx = 4000 + ((-2) * pos_0 + (1 * x19 + 0))) : 1 * gx + (2 * pos_0 + ((-1) * x19 + 0)) ≤ 4000 := by
  subst fe_0_11_1
  subst fe_0_11_2
  subst fe_0_157_2
  subst fe_0_11_3
  subst fe_0_157_3
  subst fe_0_11_4
  subst fe_0_157_4
  subst fe_0_11_5
  subst fe_0_157_5
  have e_hE_0_160_1 := funext hE_0_160_1; subst e_hE_0_160_1
  have e_hE_0_160_2 := funext hE_0_160_2; subst e_hE_0_160_2
  have e_hE_0_160_3 := funext hE_0_160_3; subst e_hE_0_160_3
  have e_hE_0_160_4 := funext hE_0_160_4; subst e_hE_0_160_4
  first | assumption | omega | grind
set_option maxHeartbeats 4000000 in
theorem vc_Mo_styleTokens_52_3 (x19 : Int) (tokens_1 : Int) (pos_1 : Int) (pos_2 : Int) (tokens_2 : Int) (tokens_3 : Int) (pos_3 : Int) (tokens_4 : Int) (pos_4 : Int) (tokens_5 : Int) (pos_5 : Int) (pos_0 : Int) (tokenKind_0 : Int → Int) (tokenKind_1 : Int → Int) (tokenKind_2 : Int → Int) (tokenKind_3 : Int → Int) (tokenKind_4 : Int → Int) (gx : Int) (k19 : 0 ≤ x19 ∧ x19 ≤ 0) (fe_0_11_1 : pos_0 = pos_1) (fe_0_11_2 : pos_1 = pos_2) (fe_0_157_2 : tokens_1 = tokens_2) (fe_0_11_3 : pos_2 = pos_3) (fe_0_157_3 : tokens_2 = tokens_3) (fe_0_11_4 : pos_3 = pos_4) (fe_0_157_4 : tokens_3 = tokens_4) (fe_0_11_5 : pos_4 = pos_5) (fe_0_157_5 : tokens_4 = tokens_5) (hE_0_160_1 : ∀ j : Int, tokenKind_0 j = tokenKind_1 j) (hE_0_160_2 : ∀ j : Int, tokenKind_1 j = tokenKind_2 j) (hE_0_160_3 : ∀ j : Int, tokenKind_2 j = tokenKind_3 j) (hE_0_160_4 : ∀ j : Int, tokenKind_3 j = tokenKind_4 j) (kz_0_11 : 0 ≤ pos_0 ∧ pos_0 ≤ 2000) (ex2 : gx = 4000 + ((-2) * pos_0 + (1 * x19 + 0))) : (-1) * gx + ((-2) * pos_0 + (1 * x19 + 0)) ≤ (-4000) := by
  subst fe_0_11_1
  subst fe_0_11_2
  subst fe_0_157_2
  subst fe_0_11_3
  subst fe_0_157_3
  subst fe_0_11_4
  subst fe_0_157_4
  subst fe_0_11_5
  subst fe_0_157_5
  have e_hE_0_160_1 := funext hE_0_160_1; subst e_hE_0_160_1
  have e_hE_0_160_2 := funext hE_0_160_2; subst e_hE_0_160_2
  have e_hE_0_160_3 := funext hE_0_160_3; subst e_hE_0_160_3
  have e_hE_0_160_4 := funext hE_0_160_4; subst e_hE_0_160_4
  first | assumption | omega | grind
def o_Mo_styleTokens_52 : or_T := (17, 20, [(0, (2, 0, 0, [165])), (2, (2, 0, 0, [165])), (6, (0, 0, 2000, [])), (7, (0, 4, 4, [])), (9, (0, 0, 2000, [])), (10, (0, 0, 4001, [])), (11, (2, 0, 0, [274])), (12, (0, 0, 2000, [])), (13, (2, 0, 0, [275])), (14, (2, 0, 0, [276])), (15, (2, 0, 0, [277])), (16, (0, 1, 1, [])), (17, (0, 1, 2001, [])), (18, (0, 4, 4, [])), (19, (0, 0, 0, []))], [(7, [7, 18], [0]), (8, [7], [1]), (20, [10, 6], [30, -4001, -1, 0, 0, -2, 0, 0]), (24, [0, 2], []), (101, [2, 17], [157]), (1, [17, 12, 16], []), (9, [12, 2], [157]), (20, [2, 6, 7], [50, 2, 0, 157, 11, 2, 7, 0, 3, 2, 0, 157, 1, 1, 2, 7, 0, 2, 1, 1, 2, 0, 11, 3, 6, 1, 2, 1, 2, 0, 0, 3, 6, 1, 2, 1, 2, 0, 4, 0, 6, 4, 2, 1, 1, 0, 1, 2, 0, 11]), (20, [10, 6], [30, -4001, -1, 0, 0, -2, 0, 0]), (100, [15, 12, 9], []), (9, [9, 2], [11]), (9, [15, 2], [163]), (20, [2, 6, 7], [50, 2, 0, 157, 11, 2, 7, 0, 3, 2, 0, 157, 1, 1, 2, 7, 0, 2, 1, 1, 2, 0, 11, 3, 6, 1, 2, 1, 2, 0, 0, 3, 6, 1, 2, 1, 2, 0, 4, 0, 6, 4, 2, 1, 1, 0, 1, 2, 0, 11]), (20, [10, 6], [30, -4001, -1, 0, 0, -2, 0, 0]), (100, [14, 12, 6], []), (9, [14, 2], [162]), (20, [2, 6, 7], [50, 2, 0, 157, 11, 2, 7, 0, 3, 2, 0, 157, 1, 1, 2, 7, 0, 2, 1, 1, 2, 0, 11, 3, 6, 1, 2, 1, 2, 0, 0, 3, 6, 1, 2, 1, 2, 0, 4, 0, 6, 4, 2, 1, 1, 0, 1, 2, 0, 11]), (20, [10, 6], [30, -4001, -1, 0, 0, -2, 0, 0]), (100, [13, 12, 8], []), (9, [13, 2], [161]), (20, [2, 6, 7], [50, 2, 0, 157, 11, 2, 7, 0, 3, 2, 0, 157, 1, 1, 2, 7, 0, 2, 1, 1, 2, 0, 11, 3, 6, 1, 2, 1, 2, 0, 0, 3, 6, 1, 2, 1, 2, 0, 4, 0, 6, 4, 2, 1, 1, 0, 1, 2, 0, 11]), (20, [10, 6], [30, -4001, -1, 0, 0, -2, 0, 0]), (100, [11, 12, 7], []), (9, [11, 2], [160]), (20, [2, 6, 7], [50, 2, 0, 157, 11, 2, 7, 0, 3, 2, 0, 157, 1, 1, 2, 7, 0, 2, 1, 1, 2, 0, 11, 3, 6, 1, 2, 1, 2, 0, 0, 3, 6, 1, 2, 1, 2, 0, 4, 0, 6, 4, 2, 1, 1, 0, 1, 2, 0, 11]), (20, [10, 6], [30, -4001, -1, 0, 0, -2, 0, 0])], [], [(0, 0, 4001, [])], [(20, [2, 19], [50, 2, 1, 157, 11, 160, 2, 16, 0, 7, 4, 3, 2, 0, 157, 1, 1, 4, 3, 2, 0, 11, 0, 1, 3, 6, 1, 2, 1, 1, 0, 1, 2, 7, 0, 2, 0, 1, 2, 0, 157, 3, 14, 1, 10, 3, 0, 160, 5, 3, 2, 0, 157, 0, 1, 0, 0, 1, 10, 3, 0, 160, 5, 3, 2, 0, 157, 0, 1, 0, 4]), (24, [0, 2], []), (20, [20, 2, 19], [30, 4000, 1, 0, 0, 2, 1, 11, -1, 0, 0]), (20, [20, 2, 19], [30, -4000, -1, 0, 0, -2, 1, 11, 1, 0, 0])], [(20, 10, -1000000000000, -1)], [(17, 12, 1, 1)])
theorem oo_Mo_styleTokens_52 {kA : Nat → ClassId} : or_ok PRD kA GG o_Mo_styleTokens_52 := by
  refine or_mk fun A ta ws vs hD hth hl => ?_
  intro t0 r0 t2 r2 t6 k6 t7 k7 t9 k9 t10 k10 t11 r11 t12 k12 t13 r13 t14 r14 t15 r15 t16 k16 t17 k17 t18 k18 t19 k19 d0 f0 f1 f2 f3 ta1 w1 le1 s1 f5 f6 f7 f8 ta2 w2 le2 s2 f10 f11 f12 f13 ta3 w3 le3 s3 f15 f16 f17 ta4 w4 le4 s4 f19 f20 f21 ta5 w5 le5 s5 f23 f24 f25
  replace f0 := shm_37 f0
  replace f1 := shm_142 f1
  replace f2 := shm_1327 f2
  replace f3 := shm_5 f3
  have s1 : (∀ b j, w_el ws b j = w_el w1 b j) ∧ ∀ b j, w_fd ws b j = if b = v_ad (n_v vs 2) ∧ j = 157 then n_v vs 17 else w_fd w1 b j := s1.2
  replace f5 := shm_12 f5
  replace f6 := shm_1331 f6
  replace f7 := shm_1326 f7
  replace f8 := shm_1327 f8
  have s2 : (∀ b j, w_el w1 b j = if b = v_ad (n_v vs 15) ∧ j = (v_iv (n_v vs 12)).toNat then v_iv (n_v vs 9) else w_el w2 b j) ∧ ∀ b k, w_fd w1 b k = w_fd w2 b k := s2.2
  replace f10 := shm_116 f10
  replace f11 := shm_1332 f11
  replace f12 := shm_1326 f12
  replace f13 := shm_1327 f13
  have s3 : (∀ b j, w_el w2 b j = if b = v_ad (n_v vs 14) ∧ j = (v_iv (n_v vs 12)).toNat then v_iv (n_v vs 6) else w_el w3 b j) ∧ ∀ b k, w_fd w2 b k = w_fd w3 b k := s3.2
  replace f15 := shm_301 f15
  replace f16 := shm_1326 f16
  replace f17 := shm_1327 f17
  have s4 : (∀ b j, w_el w3 b j = if b = v_ad (n_v vs 13) ∧ j = (v_iv (n_v vs 12)).toNat then v_iv (n_v vs 8) else w_el w4 b j) ∧ ∀ b k, w_fd w3 b k = w_fd w4 b k := s4.2
  replace f19 := shm_336 f19
  replace f20 := shm_1326 f20
  replace f21 := shm_1327 f21
  have s5 : (∀ b j, w_el w4 b j = if b = v_ad (n_v vs 11) ∧ j = (v_iv (n_v vs 12)).toNat then v_iv (n_v vs 7) else w_el w5 b j) ∧ ∀ b k, w_fd w4 b k = w_fd w5 b k := s5.2
  replace f23 := shm_327 f23
  replace f24 := shm_1326 f24
  replace f25 := shm_1327 f25
  have q2 : n_v vs 2 = n_v vs 0 := f3.symm
  rw [q2] at s1
  simp only [q2] at f6 f7 f10 f11 f12 f15 f16 f19 f20 f23 f24
  have ar_0_160_1 : w_ar w1 (n_v vs 0) 160 = w_ar ws (n_v vs 0) 160 := by show v_ad (w_fd w1 _ _) = v_ad (w_fd ws _ _); rw [s1.2, if_neg (fun e => absurd e.2 (by decide))]
  have ar_0_160_2 : w_ar w2 (n_v vs 0) 160 = w_ar ws (n_v vs 0) 160 := by rw [← ar_0_160_1]; show v_ad (w_fd w2 _ _) = v_ad (w_fd w1 _ _); rw [s2.2]
  have ar_0_160_3 : w_ar w3 (n_v vs 0) 160 = w_ar ws (n_v vs 0) 160 := by rw [← ar_0_160_2]; show v_ad (w_fd w3 _ _) = v_ad (w_fd w2 _ _); rw [s3.2]
  have ar_0_160_4 : w_ar w4 (n_v vs 0) 160 = w_ar ws (n_v vs 0) 160 := by rw [← ar_0_160_3]; show v_ad (w_fd w4 _ _) = v_ad (w_fd w3 _ _); rw [s4.2]
  have ar_0_160_5 : w_ar w5 (n_v vs 0) 160 = w_ar ws (n_v vs 0) 160 := by rw [← ar_0_160_4]; show v_ad (w_fd w5 _ _) = v_ad (w_fd w4 _ _); rw [s5.2]
  have cr_0_160 := fdq_33 hD hth r0
  have ar_0_161_1 : w_ar w1 (n_v vs 0) 161 = w_ar ws (n_v vs 0) 161 := by show v_ad (w_fd w1 _ _) = v_ad (w_fd ws _ _); rw [s1.2, if_neg (fun e => absurd e.2 (by decide))]
  have ar_0_161_2 : w_ar w2 (n_v vs 0) 161 = w_ar ws (n_v vs 0) 161 := by rw [← ar_0_161_1]; show v_ad (w_fd w2 _ _) = v_ad (w_fd w1 _ _); rw [s2.2]
  have ar_0_161_3 : w_ar w3 (n_v vs 0) 161 = w_ar ws (n_v vs 0) 161 := by rw [← ar_0_161_2]; show v_ad (w_fd w3 _ _) = v_ad (w_fd w2 _ _); rw [s3.2]
  have ar_0_161_4 : w_ar w4 (n_v vs 0) 161 = w_ar ws (n_v vs 0) 161 := by rw [← ar_0_161_3]; show v_ad (w_fd w4 _ _) = v_ad (w_fd w3 _ _); rw [s4.2]
  have ar_0_161_5 : w_ar w5 (n_v vs 0) 161 = w_ar ws (n_v vs 0) 161 := by rw [← ar_0_161_4]; show v_ad (w_fd w5 _ _) = v_ad (w_fd w4 _ _); rw [s5.2]
  have cr_0_161 := fdq_40 hD hth r0
  have ar_0_162_1 : w_ar w1 (n_v vs 0) 162 = w_ar ws (n_v vs 0) 162 := by show v_ad (w_fd w1 _ _) = v_ad (w_fd ws _ _); rw [s1.2, if_neg (fun e => absurd e.2 (by decide))]
  have ar_0_162_2 : w_ar w2 (n_v vs 0) 162 = w_ar ws (n_v vs 0) 162 := by rw [← ar_0_162_1]; show v_ad (w_fd w2 _ _) = v_ad (w_fd w1 _ _); rw [s2.2]
  have ar_0_162_3 : w_ar w3 (n_v vs 0) 162 = w_ar ws (n_v vs 0) 162 := by rw [← ar_0_162_2]; show v_ad (w_fd w3 _ _) = v_ad (w_fd w2 _ _); rw [s3.2]
  have ar_0_162_4 : w_ar w4 (n_v vs 0) 162 = w_ar ws (n_v vs 0) 162 := by rw [← ar_0_162_3]; show v_ad (w_fd w4 _ _) = v_ad (w_fd w3 _ _); rw [s4.2]
  have ar_0_162_5 : w_ar w5 (n_v vs 0) 162 = w_ar ws (n_v vs 0) 162 := by rw [← ar_0_162_4]; show v_ad (w_fd w5 _ _) = v_ad (w_fd w4 _ _); rw [s5.2]
  have cr_0_162 := fdq_41 hD hth r0
  have ar_0_163_1 : w_ar w1 (n_v vs 0) 163 = w_ar ws (n_v vs 0) 163 := by show v_ad (w_fd w1 _ _) = v_ad (w_fd ws _ _); rw [s1.2, if_neg (fun e => absurd e.2 (by decide))]
  have ar_0_163_2 : w_ar w2 (n_v vs 0) 163 = w_ar ws (n_v vs 0) 163 := by rw [← ar_0_163_1]; show v_ad (w_fd w2 _ _) = v_ad (w_fd w1 _ _); rw [s2.2]
  have ar_0_163_3 : w_ar w3 (n_v vs 0) 163 = w_ar ws (n_v vs 0) 163 := by rw [← ar_0_163_2]; show v_ad (w_fd w3 _ _) = v_ad (w_fd w2 _ _); rw [s3.2]
  have ar_0_163_4 : w_ar w4 (n_v vs 0) 163 = w_ar ws (n_v vs 0) 163 := by rw [← ar_0_163_3]; show v_ad (w_fd w4 _ _) = v_ad (w_fd w3 _ _); rw [s4.2]
  have ar_0_163_5 : w_ar w5 (n_v vs 0) 163 = w_ar ws (n_v vs 0) 163 := by rw [← ar_0_163_4]; show v_ad (w_fd w5 _ _) = v_ad (w_fd w4 _ _); rw [s5.2]
  have cr_0_163 := fdq_42 hD hth r0
  have ad_15 : v_ad (n_v vs 15) = w_ar ws (n_v vs 0) 163 := (congrArg v_ad f11).trans ar_0_163_2
  have ad_14 : v_ad (n_v vs 14) = w_ar ws (n_v vs 0) 162 := (congrArg v_ad f15).trans ar_0_162_3
  have ad_13 : v_ad (n_v vs 13) = w_ar ws (n_v vs 0) 161 := (congrArg v_ad f19).trans ar_0_161_4
  have ad_11 : v_ad (n_v vs 11) = w_ar ws (n_v vs 0) 160 := (congrArg v_ad f23).trans ar_0_160_5
  have g6 : v_iv (n_v vs 12) = w_fi w1 (n_v vs 0) 157 := congrArg v_iv f6
  have g10 : v_iv (n_v vs 9) = w_fi w2 (n_v vs 0) 11 := congrArg v_iv f10
  have fe_0_11_1 : w_fi ws (n_v vs 0) 11 = w_fi w1 (n_v vs 0) 11 := by show v_iv (w_fd _ _ _) = v_iv (w_fd _ _ _); rw [s1.2, if_neg (fun e => absurd e.2 (by decide))]
  have fe_0_157_1 : w_fi ws (n_v vs 0) 157 = v_iv (n_v vs 17) := by show v_iv (w_fd _ _ _) = _; rw [s1.2, if_pos ⟨rfl, rfl⟩]
  have fe_0_11_2 : w_fi w1 (n_v vs 0) 11 = w_fi w2 (n_v vs 0) 11 := congrArg v_iv (s2.2 _ _)
  have fe_0_157_2 : w_fi w1 (n_v vs 0) 157 = w_fi w2 (n_v vs 0) 157 := congrArg v_iv (s2.2 _ _)
  have fe_0_11_3 : w_fi w2 (n_v vs 0) 11 = w_fi w3 (n_v vs 0) 11 := congrArg v_iv (s3.2 _ _)
  have fe_0_157_3 : w_fi w2 (n_v vs 0) 157 = w_fi w3 (n_v vs 0) 157 := congrArg v_iv (s3.2 _ _)
  have fe_0_11_4 : w_fi w3 (n_v vs 0) 11 = w_fi w4 (n_v vs 0) 11 := congrArg v_iv (s4.2 _ _)
  have fe_0_157_4 : w_fi w3 (n_v vs 0) 157 = w_fi w4 (n_v vs 0) 157 := congrArg v_iv (s4.2 _ _)
  have fe_0_11_5 : w_fi w4 (n_v vs 0) 11 = w_fi w5 (n_v vs 0) 11 := congrArg v_iv (s5.2 _ _)
  have fe_0_157_5 : w_fi w4 (n_v vs 0) 157 = w_fi w5 (n_v vs 0) 157 := congrArg v_iv (s5.2 _ _)
  have hE_0_160_1 : ∀ j : Int, w_ei ws (w_ar ws (n_v vs 0) 160) j = w_ei w1 (w_ar ws (n_v vs 0) 160) j := fun j => s1.1 _ _
  have hE_0_160_2 : ∀ j : Int, w_ei w1 (w_ar ws (n_v vs 0) 160) j = w_ei w2 (w_ar ws (n_v vs 0) 160) j := el_kp s2.1 r15 cr_0_160 (by decide)
  have hE_0_160_3 : ∀ j : Int, w_ei w2 (w_ar ws (n_v vs 0) 160) j = w_ei w3 (w_ar ws (n_v vs 0) 160) j := el_kp s3.1 r14 cr_0_160 (by decide)
  have hE_0_160_4 : ∀ j : Int, w_ei w3 (w_ar ws (n_v vs 0) 160) j = w_ei w4 (w_ar ws (n_v vs 0) 160) j := el_kp s4.1 r13 cr_0_160 (by decide)
  have hE_0_160_5 : ∀ j : Int, 0 ≤ j → (j = v_iv (n_v vs 12) → w_ei w4 (w_ar ws (n_v vs 0) 160) j = v_iv (n_v vs 7)) ∧ (j ≠ v_iv (n_v vs 12) → w_ei w4 (w_ar ws (n_v vs 0) 160) j = w_ei w5 (w_ar ws (n_v vs 0) 160) j) := fun j hj => ⟨fun h => by unfold w_ei; rw [s5.1, if_pos ⟨ad_11.symm, by rw [h]⟩], fun h => by unfold w_ei; rw [s5.1, if_neg (fun e => h (by have := e.2; omega))]⟩
  have hK_0_160 := elq_6 hD hth cr_0_160
  have kz_0_11 := fdq_237 hD hth r0
  have kz_0_157 := fdq_35 hD hth r0
  have kb_0_11 := fdq_237 hD hth r0
  obtain ⟨x, ex, hx⟩ := iv_ex (ta := ta) (lo := 0) (hi := 4001) (z := 4000 + ((-2) * w_fi ws (n_v vs 0) 11 + (1 * v_iv (n_v vs 19) + 0))) (by omega) (by omega) (by omega) (by omega)
  have ex2 : v_iv (Value.int x) = 4000 + ((-2) * w_fi ws (n_v vs 0) 11 + (1 * v_iv (n_v vs 19) + 0)) := ex
  have ex3 : 0 ≤ v_iv (Value.int x) ∧ v_iv (Value.int x) ≤ 4001 := tv_rng hx
  have e_0 : n_v (vs ++ [Value.int x]) 0 = n_v vs 0 := n_v_old (by rw [hl]; decide)
  have e_2 : n_v (vs ++ [Value.int x]) 2 = n_v vs 2 := n_v_old (by rw [hl]; decide)
  have e_19 : n_v (vs ++ [Value.int x]) 19 = n_v vs 19 := n_v_old (by rw [hl]; decide)
  have e_20 : n_v (vs ++ [Value.int x]) 20 = Value.int x := n_v_new hl
  have nf0 : fc_1 PRD (20, [2, 19], [50, 2, 1, 157, 11, 160, 2, 16, 0, 7, 4, 3, 2, 0, 157, 1, 1, 4, 3, 2, 0, 11, 0, 1, 3, 6, 1, 2, 1, 1, 0, 1, 2, 7, 0, 2, 0, 1, 2, 0, 157, 3, 14, 1, 10, 3, 0, 160, 5, 3, 2, 0, 157, 0, 1, 0, 0, 1, 10, 3, 0, 160, 5, 3, 2, 0, 157, 0, 1, 0, 4]) ws (vs ++ [Value.int x]) := by
    refine ⟨nf_inA hl rfl, sgq_1319 ?_⟩
    · show ((w_fi ws (n_v (vs ++ [Value.int x]) 2) 157 + v_iv (n_v (vs ++ [Value.int x]) 19)) ≤ (w_fi ws (n_v (vs ++ [Value.int x]) 2) 11 + 1)) ∧ ((v_iv (n_v (vs ++ [Value.int x]) 19) = 1) ∨ ((1 ≤ w_fi ws (n_v (vs ++ [Value.int x]) 2) 157) ∧ ((w_ei ws (w_ar ws (n_v (vs ++ [Value.int x]) 2) 160) ((w_fi ws (n_v (vs ++ [Value.int x]) 2) 157 - 1)) = 0) ∨ (w_ei ws (w_ar ws (n_v (vs ++ [Value.int x]) 2) 160) ((w_fi ws (n_v (vs ++ [Value.int x]) 2) 157 - 1)) = 4))))
      simp only [e_2, e_19, q2]
      exact vc_Mo_styleTokens_52_0 (v_iv (n_v vs 6)) (v_iv (n_v vs 7)) (v_iv (n_v vs 9)) (v_iv (n_v vs 12)) (v_iv (n_v vs 17)) (v_iv (n_v vs 18)) (v_iv (n_v vs 19)) (w_fi w1 (n_v vs 0) 157) (w_fi w1 (n_v vs 0) 11) (w_fi w2 (n_v vs 0) 11) (w_fi w2 (n_v vs 0) 157) (w_fi w3 (n_v vs 0) 157) (w_fi w3 (n_v vs 0) 11) (w_fi w4 (n_v vs 0) 157) (w_fi w4 (n_v vs 0) 11) (w_fi w5 (n_v vs 0) 157) (w_fi w5 (n_v vs 0) 11) (w_fi ws (n_v vs 0) 11) (w_fi ws (n_v vs 0) 157) (w_ei ws (w_ar ws (n_v vs 0) 160)) (w_ei w1 (w_ar ws (n_v vs 0) 160)) (w_ei w2 (w_ar ws (n_v vs 0) 160)) (w_ei w3 (w_ar ws (n_v vs 0) 160)) (w_ei w4 (w_ar ws (n_v vs 0) 160)) (w_ei w5 (w_ar ws (n_v vs 0) 160)) k6 k7 k9 k12 k17 k18 k19 d0 g6 f7 g10 fe_0_11_1 fe_0_157_1 fe_0_11_2 fe_0_157_2 fe_0_11_3 fe_0_157_3 fe_0_11_4 fe_0_157_4 fe_0_11_5 fe_0_157_5 hE_0_160_1 hE_0_160_2 hE_0_160_3 hE_0_160_4 hE_0_160_5 kz_0_11 kz_0_157
  have nf1 : fc_1 PRD (24, [0, 2], []) ws (vs ++ [Value.int x]) := by
    refine ⟨nf_inA hl rfl, sgq_5 ?_⟩
    · show n_v (vs ++ [Value.int x]) 0 = n_v (vs ++ [Value.int x]) 2
      first | rfl | simp only [e_0, e_2, q2]
  have nf2 : fc_1 PRD (20, [20, 2, 19], [30, 4000, 1, 0, 0, 2, 1, 11, -1, 0, 0]) ws (vs ++ [Value.int x]) := by
    refine ⟨nf_inA hl rfl, sgq_1320 ?_⟩
    · show 1 * v_iv (n_v (vs ++ [Value.int x]) 20) + (2 * w_fi ws (n_v (vs ++ [Value.int x]) 2) 11 + ((-1) * v_iv (n_v (vs ++ [Value.int x]) 19) + 0)) ≤ 4000
      simp only [e_2, e_19, e_20, q2]
      exact vc_Mo_styleTokens_52_2 (v_iv (n_v vs 19)) (w_fi w1 (n_v vs 0) 157) (w_fi w1 (n_v vs 0) 11) (w_fi w2 (n_v vs 0) 11) (w_fi w2 (n_v vs 0) 157) (w_fi w3 (n_v vs 0) 157) (w_fi w3 (n_v vs 0) 11) (w_fi w4 (n_v vs 0) 157) (w_fi w4 (n_v vs 0) 11) (w_fi w5 (n_v vs 0) 157) (w_fi w5 (n_v vs 0) 11) (w_fi ws (n_v vs 0) 11) (w_ei ws (w_ar ws (n_v vs 0) 160)) (w_ei w1 (w_ar ws (n_v vs 0) 160)) (w_ei w2 (w_ar ws (n_v vs 0) 160)) (w_ei w3 (w_ar ws (n_v vs 0) 160)) (w_ei w4 (w_ar ws (n_v vs 0) 160)) (v_iv (Value.int x)) k19 fe_0_11_1 fe_0_11_2 fe_0_157_2 fe_0_11_3 fe_0_157_3 fe_0_11_4 fe_0_157_4 fe_0_11_5 fe_0_157_5 hE_0_160_1 hE_0_160_2 hE_0_160_3 hE_0_160_4 kz_0_11 ex2
  have nf3 : fc_1 PRD (20, [20, 2, 19], [30, -4000, -1, 0, 0, -2, 1, 11, 1, 0, 0]) ws (vs ++ [Value.int x]) := by
    refine ⟨nf_inA hl rfl, sgq_1321 ?_⟩
    · show (-1) * v_iv (n_v (vs ++ [Value.int x]) 20) + ((-2) * w_fi ws (n_v (vs ++ [Value.int x]) 2) 11 + (1 * v_iv (n_v (vs ++ [Value.int x]) 19) + 0)) ≤ (-4000)
      simp only [e_2, e_19, e_20, q2]
      exact vc_Mo_styleTokens_52_3 (v_iv (n_v vs 19)) (w_fi w1 (n_v vs 0) 157) (w_fi w1 (n_v vs 0) 11) (w_fi w2 (n_v vs 0) 11) (w_fi w2 (n_v vs 0) 157) (w_fi w3 (n_v vs 0) 157) (w_fi w3 (n_v vs 0) 11) (w_fi w4 (n_v vs 0) 157) (w_fi w4 (n_v vs 0) 11) (w_fi w5 (n_v vs 0) 157) (w_fi w5 (n_v vs 0) 11) (w_fi ws (n_v vs 0) 11) (w_ei ws (w_ar ws (n_v vs 0) 160)) (w_ei w1 (w_ar ws (n_v vs 0) 160)) (w_ei w2 (w_ar ws (n_v vs 0) 160)) (w_ei w3 (w_ar ws (n_v vs 0) 160)) (w_ei w4 (w_ar ws (n_v vs 0) 160)) (v_iv (Value.int x)) k19 fe_0_11_1 fe_0_11_2 fe_0_157_2 fe_0_11_3 fe_0_157_3 fe_0_11_4 fe_0_157_4 fe_0_11_5 fe_0_157_5 hE_0_160_1 hE_0_160_2 hE_0_160_3 hE_0_160_4 kz_0_11 ex2
  obtain ⟨x0, e0, _, _⟩ := tv_int t10 rfl
  have e1 : v_iv (n_v vs 10) = x0.toInt := by rw [e0]; rfl
  have ho : sy_ofs (vs ++ [Value.int x]) (20, 10, -1000000000000, -1) := by
    refine ⟨x, x0, by rw [List.getElem?_append_right (by rw [hl]; decide), hl]; rfl, ?_, ?_, ?_⟩
    · rw [List.getElem?_append_left (by rw [hl]; decide)]; exact n_v_some (by rw [hl]; decide) e0
    · show x0.toInt + (-1000000000000) ≤ x.toInt; omega
    · show x.toInt ≤ x0.toInt + (-1); omega
  exact ⟨(fun _ h => (by cases h)), [Value.int x], ag_one hx, List.forall_mem_cons.mpr ⟨⟨show (20 : Nat) < 100 from by decide, nf0⟩, List.forall_mem_cons.mpr ⟨⟨show (24 : Nat) < 100 from by decide, nf1⟩, List.forall_mem_cons.mpr ⟨⟨show (20 : Nat) < 100 from by decide, nf2⟩, List.forall_mem_cons.mpr ⟨⟨show (20 : Nat) < 100 from by decide, nf3⟩, (fun _ h => (by cases h))⟩⟩⟩⟩, List.forall_mem_cons.mpr ⟨ho, (fun _ h => (by cases h))⟩⟩
set_option maxHeartbeats 4000000 in
theorem vc_Mo_styleTokens_53_0 (x6 : Int) (x7 : Int) (x12 : Int) (x17 : Int) (x19 : Int) (tokens_1 : Int) (pos_1 : Int) (pos_2 : Int) (tokens_2 : Int) (tokens_3 : Int) (pos_3 : Int) (tokens_4 : Int) (pos_4 : Int) (tokens_5 : Int) (pos_5 : Int) (pos_0 : Int) (tokens_0 : Int) (tokenKind_0 : Int → Int) (tokenKind_1 : Int → Int) (tokenKind_2 : Int → Int) (tokenKind_3 : Int → Int) (tokenKind_4 : Int → Int) (k6 : 0 ≤ x6 ∧ x6 ≤ 2000) (k7 : 1 ≤ x7 ∧ x7 ≤ 3) (k12 : 0 ≤ x12 ∧ x12 ≤ 2000) (k17 : 1 ≤ x17 ∧ x17 ≤ 2001) (k19 : 1 ≤ x19 ∧ x19 ≤ 1) (d0 : x12 + 1 ≤ x17 ∧ x17 ≤ x12 + 1) (g6 : x12 = tokens_1) (f7 : (tokens_1 ≤ x6) ∧ ((x6 ≤ pos_1) ∧ ((x7 = 0) ∨ ((x7 = 4) ∨ ((x6 + 1) ≤ pos_1))))) (f24 : (tokens_5 ≤ x6) ∧ ((x6 ≤ pos_5) ∧ ((x7 = 0) ∨ ((x7 = 4) ∨ ((x6 + 1) ≤ pos_5))))) (fe_0_11_1 : pos_0 = pos_1) (fe_0_157_1 : tokens_0 = x17) (fe_0_11_2 : pos_1 = pos_2) (fe_0_157_2 : tokens_1 = tokens_2) (fe_0_11_3 : pos_2 = pos_3) (fe_0_157_3 : tokens_2 = tokens_3) (fe_0_11_4 : pos_3 = pos_4) (fe_0_157_4 : tokens_3 = tokens_4) (fe_0_11_5 : pos_4 = pos_5) (fe_0_157_5 : tokens_4 = tokens_5) (hE_0_160_1 : ∀ j : Int, tokenKind_0 j = tokenKind_1 j) (hE_0_160_2 : ∀ j : Int, tokenKind_1 j = tokenKind_2 j) (hE_0_160_3 : ∀ j : Int, tokenKind_2 j = tokenKind_3 j) (hE_0_160_4 : ∀ j : Int, tokenKind_3 j = tokenKind_4 j) (kz_0_11 : 0 ≤ pos_0 ∧ pos_0 ≤ 2000) (kz_0_157 : 0 ≤ tokens_0 ∧ tokens_0 ≤ 2010) : ((tokens_0 + x19) ≤ (pos_0 + 1)) ∧ ((x19 = 1) ∨ ((1 ≤ tokens_0) ∧ ((tokenKind_0 ((tokens_0 - 1)) = 0) ∨ (tokenKind_0 ((tokens_0 - 1)) = 4)))) := by
  subst fe_0_11_1
  subst fe_0_11_2
  subst fe_0_157_2
  subst fe_0_11_3
  subst fe_0_157_3
  subst fe_0_11_4
  subst fe_0_157_4
  subst fe_0_11_5
  subst fe_0_157_5
  have e_hE_0_160_1 := funext hE_0_160_1; subst e_hE_0_160_1
  have e_hE_0_160_2 := funext hE_0_160_2; subst e_hE_0_160_2
  have e_hE_0_160_3 := funext hE_0_160_3; subst e_hE_0_160_3
  have e_hE_0_160_4 := funext hE_0_160_4; subst e_hE_0_160_4
  first | assumption | omega | grind
set_option maxHeartbeats 4000000 in
theorem vc_Mo_styleTokens_53_2 (x19 : Int) (tokens_1 : Int) (pos_1 : Int) (pos_2 : Int) (tokens_2 : Int) (tokens_3 : Int) (pos_3 : Int) (tokens_4 : Int) (pos_4 : Int) (tokens_5 : Int) (pos_5 : Int) (pos_0 : Int) (tokenKind_0 : Int → Int) (tokenKind_1 : Int → Int) (tokenKind_2 : Int → Int) (tokenKind_3 : Int → Int) (tokenKind_4 : Int → Int) (gx : Int) (k19 : 1 ≤ x19 ∧ x19 ≤ 1) (fe_0_11_1 : pos_0 = pos_1) (fe_0_11_2 : pos_1 = pos_2) (fe_0_157_2 : tokens_1 = tokens_2) (fe_0_11_3 : pos_2 = pos_3) (fe_0_157_3 : tokens_2 = tokens_3) (fe_0_11_4 : pos_3 = pos_4) (fe_0_157_4 : tokens_3 = tokens_4) (fe_0_11_5 : pos_4 = pos_5) (fe_0_157_5 : tokens_4 = tokens_5) (hE_0_160_1 : ∀ j : Int, tokenKind_0 j = tokenKind_1 j) (hE_0_160_2 : ∀ j : Int, tokenKind_1 j = tokenKind_2 j) (hE_0_160_3 : ∀ j : Int, tokenKind_2 j = tokenKind_3 j) (hE_0_160_4 : ∀ j : Int, tokenKind_3 j = tokenKind_4 j) (kz_0_11 : 0 ≤ pos_0 ∧ pos_0 ≤ 2000) (ex2 : gx = 4000 + ((-2) * pos_0 + (1 * x19 + 0))) : 1 * gx + (2 * pos_0 + ((-1) * x19 + 0)) ≤ 4000 := by
  subst fe_0_11_1
  subst fe_0_11_2
  subst fe_0_157_2
  subst fe_0_11_3
  subst fe_0_157_3
  subst fe_0_11_4
  subst fe_0_157_4
  subst fe_0_11_5
  subst fe_0_157_5
  have e_hE_0_160_1 := funext hE_0_160_1; subst e_hE_0_160_1
  have e_hE_0_160_2 := funext hE_0_160_2; subst e_hE_0_160_2
  have e_hE_0_160_3 := funext hE_0_160_3; subst e_hE_0_160_3
  have e_hE_0_160_4 := funext hE_0_160_4; subst e_hE_0_160_4
  first | assumption | omega | grind
set_option maxHeartbeats 4000000 in
theorem vc_Mo_styleTokens_53_3 (x19 : Int) (tokens_1 : Int) (pos_1 : Int) (pos_2 : Int) (tokens_2 : Int) (tokens_3 : Int) (pos_3 : Int) (tokens_4 : Int) (pos_4 : Int) (tokens_5 : Int) (pos_5 : Int) (pos_0 : Int) (tokenKind_0 : Int → Int) (tokenKind_1 : Int → Int) (tokenKind_2 : Int → Int) (tokenKind_3 : Int → Int) (tokenKind_4 : Int → Int) (gx : Int) (k19 : 1 ≤ x19 ∧ x19 ≤ 1) (fe_0_11_1 : pos_0 = pos_1) (fe_0_11_2 : pos_1 = pos_2) (fe_0_157_2 : tokens_1 = tokens_2) (fe_0_11_3 : pos_2 = pos_3) (fe_0_157_3 : tokens_2 = tokens_3) (fe_0_11_4 : pos_3 = pos_4) (fe_0_157_4 : tokens_3 = tokens_4) (fe_0_11_5 : pos_4 = pos_5) (fe_0_157_5 : tokens_4 = tokens_5) (hE_0_160_1 : ∀ j : Int, tokenKind_0 j = tokenKind_1 j) (hE_0_160_2 : ∀ j : Int, tokenKind_1 j = tokenKind_2 j) (hE_0_160_3 : ∀ j : Int, tokenKind_2 j = tokenKind_3 j) (hE_0_160_4 : ∀ j : Int, tokenKind_3 j = tokenKind_4 j) (kz_0_11 : 0 ≤ pos_0 ∧ pos_0 ≤ 2000) (ex2 : gx = 4000 + ((-2) * pos_0 + (1 * x19 + 0))) : (-1) * gx + ((-2) * pos_0 + (1 * x19 + 0)) ≤ (-4000) := by
  subst fe_0_11_1
  subst fe_0_11_2
  subst fe_0_157_2
  subst fe_0_11_3
  subst fe_0_157_3
  subst fe_0_11_4
  subst fe_0_157_4
  subst fe_0_11_5
  subst fe_0_157_5
  have e_hE_0_160_1 := funext hE_0_160_1; subst e_hE_0_160_1
  have e_hE_0_160_2 := funext hE_0_160_2; subst e_hE_0_160_2
  have e_hE_0_160_3 := funext hE_0_160_3; subst e_hE_0_160_3
  have e_hE_0_160_4 := funext hE_0_160_4; subst e_hE_0_160_4
  first | assumption | omega | grind
def o_Mo_styleTokens_53 : or_T := (17, 20, [(0, (2, 0, 0, [165])), (2, (2, 0, 0, [165])), (6, (0, 0, 2000, [])), (7, (0, 1, 3, [])), (9, (0, 0, 2000, [])), (10, (0, 0, 4001, [])), (11, (2, 0, 0, [274])), (12, (0, 0, 2000, [])), (13, (2, 0, 0, [275])), (14, (2, 0, 0, [276])), (15, (2, 0, 0, [277])), (16, (0, 1, 1, [])), (17, (0, 1, 2001, [])), (18, (0, 4, 4, [])), (19, (0, 1, 1, []))], [(7, [7, 18], [1]), (8, [7], [1]), (20, [10, 6], [30, -4001, -1, 0, 0, -2, 0, 0]), (24, [0, 2], []), (101, [2, 17], [157]), (1, [17, 12, 16], []), (9, [12, 2], [157]), (20, [2, 6, 7], [50, 2, 0, 157, 11, 2, 7, 0, 3, 2, 0, 157, 1, 1, 2, 7, 0, 2, 1, 1, 2, 0, 11, 3, 6, 1, 2, 1, 2, 0, 0, 3, 6, 1, 2, 1, 2, 0, 4, 0, 6, 4, 2, 1, 1, 0, 1, 2, 0, 11]), (20, [10, 6], [30, -4001, -1, 0, 0, -2, 0, 0]), (100, [15, 12, 9], []), (9, [9, 2], [11]), (9, [15, 2], [163]), (20, [2, 6, 7], [50, 2, 0, 157, 11, 2, 7, 0, 3, 2, 0, 157, 1, 1, 2, 7, 0, 2, 1, 1, 2, 0, 11, 3, 6, 1, 2, 1, 2, 0, 0, 3, 6, 1, 2, 1, 2, 0, 4, 0, 6, 4, 2, 1, 1, 0, 1, 2, 0, 11]), (20, [10, 6], [30, -4001, -1, 0, 0, -2, 0, 0]), (100, [14, 12, 6], []), (9, [14, 2], [162]), (20, [2, 6, 7], [50, 2, 0, 157, 11, 2, 7, 0, 3, 2, 0, 157, 1, 1, 2, 7, 0, 2, 1, 1, 2, 0, 11, 3, 6, 1, 2, 1, 2, 0, 0, 3, 6, 1, 2, 1, 2, 0, 4, 0, 6, 4, 2, 1, 1, 0, 1, 2, 0, 11]), (20, [10, 6], [30, -4001, -1, 0, 0, -2, 0, 0]), (100, [13, 12, 8], []), (9, [13, 2], [161]), (20, [2, 6, 7], [50, 2, 0, 157, 11, 2, 7, 0, 3, 2, 0, 157, 1, 1, 2, 7, 0, 2, 1, 1, 2, 0, 11, 3, 6, 1, 2, 1, 2, 0, 0, 3, 6, 1, 2, 1, 2, 0, 4, 0, 6, 4, 2, 1, 1, 0, 1, 2, 0, 11]), (20, [10, 6], [30, -4001, -1, 0, 0, -2, 0, 0]), (100, [11, 12, 7], []), (9, [11, 2], [160]), (20, [2, 6, 7], [50, 2, 0, 157, 11, 2, 7, 0, 3, 2, 0, 157, 1, 1, 2, 7, 0, 2, 1, 1, 2, 0, 11, 3, 6, 1, 2, 1, 2, 0, 0, 3, 6, 1, 2, 1, 2, 0, 4, 0, 6, 4, 2, 1, 1, 0, 1, 2, 0, 11]), (20, [10, 6], [30, -4001, -1, 0, 0, -2, 0, 0])], [], [(0, 0, 4001, [])], [(20, [2, 19], [50, 2, 1, 157, 11, 160, 2, 16, 0, 7, 4, 3, 2, 0, 157, 1, 1, 4, 3, 2, 0, 11, 0, 1, 3, 6, 1, 2, 1, 1, 0, 1, 2, 7, 0, 2, 0, 1, 2, 0, 157, 3, 14, 1, 10, 3, 0, 160, 5, 3, 2, 0, 157, 0, 1, 0, 0, 1, 10, 3, 0, 160, 5, 3, 2, 0, 157, 0, 1, 0, 4]), (24, [0, 2], []), (20, [20, 2, 19], [30, 4000, 1, 0, 0, 2, 1, 11, -1, 0, 0]), (20, [20, 2, 19], [30, -4000, -1, 0, 0, -2, 1, 11, 1, 0, 0])], [(20, 10, -1000000000000, -1)], [(17, 12, 1, 1)])
theorem oo_Mo_styleTokens_53 {kA : Nat → ClassId} : or_ok PRD kA GG o_Mo_styleTokens_53 := by
  refine or_mk fun A ta ws vs hD hth hl => ?_
  intro t0 r0 t2 r2 t6 k6 t7 k7 t9 k9 t10 k10 t11 r11 t12 k12 t13 r13 t14 r14 t15 r15 t16 k16 t17 k17 t18 k18 t19 k19 d0 f0 f1 f2 f3 ta1 w1 le1 s1 f5 f6 f7 f8 ta2 w2 le2 s2 f10 f11 f12 f13 ta3 w3 le3 s3 f15 f16 f17 ta4 w4 le4 s4 f19 f20 f21 ta5 w5 le5 s5 f23 f24 f25
  replace f0 := shm_40 f0
  replace f1 := shm_142 f1
  replace f2 := shm_1327 f2
  replace f3 := shm_5 f3
  have s1 : (∀ b j, w_el ws b j = w_el w1 b j) ∧ ∀ b j, w_fd ws b j = if b = v_ad (n_v vs 2) ∧ j = 157 then n_v vs 17 else w_fd w1 b j := s1.2
  replace f5 := shm_12 f5
  replace f6 := shm_1331 f6
  replace f7 := shm_1326 f7
  replace f8 := shm_1327 f8
  have s2 : (∀ b j, w_el w1 b j = if b = v_ad (n_v vs 15) ∧ j = (v_iv (n_v vs 12)).toNat then v_iv (n_v vs 9) else w_el w2 b j) ∧ ∀ b k, w_fd w1 b k = w_fd w2 b k := s2.2
  replace f10 := shm_116 f10
  replace f11 := shm_1332 f11
  replace f12 := shm_1326 f12
  replace f13 := shm_1327 f13
  have s3 : (∀ b j, w_el w2 b j = if b = v_ad (n_v vs 14) ∧ j = (v_iv (n_v vs 12)).toNat then v_iv (n_v vs 6) else w_el w3 b j) ∧ ∀ b k, w_fd w2 b k = w_fd w3 b k := s3.2
  replace f15 := shm_301 f15
  replace f16 := shm_1326 f16
  replace f17 := shm_1327 f17
  have s4 : (∀ b j, w_el w3 b j = if b = v_ad (n_v vs 13) ∧ j = (v_iv (n_v vs 12)).toNat then v_iv (n_v vs 8) else w_el w4 b j) ∧ ∀ b k, w_fd w3 b k = w_fd w4 b k := s4.2
  replace f19 := shm_336 f19
  replace f20 := shm_1326 f20
  replace f21 := shm_1327 f21
  have s5 : (∀ b j, w_el w4 b j = if b = v_ad (n_v vs 11) ∧ j = (v_iv (n_v vs 12)).toNat then v_iv (n_v vs 7) else w_el w5 b j) ∧ ∀ b k, w_fd w4 b k = w_fd w5 b k := s5.2
  replace f23 := shm_327 f23
  replace f24 := shm_1326 f24
  replace f25 := shm_1327 f25
  have q2 : n_v vs 2 = n_v vs 0 := f3.symm
  rw [q2] at s1
  simp only [q2] at f6 f7 f10 f11 f12 f15 f16 f19 f20 f23 f24
  have ar_0_160_1 : w_ar w1 (n_v vs 0) 160 = w_ar ws (n_v vs 0) 160 := by show v_ad (w_fd w1 _ _) = v_ad (w_fd ws _ _); rw [s1.2, if_neg (fun e => absurd e.2 (by decide))]
  have ar_0_160_2 : w_ar w2 (n_v vs 0) 160 = w_ar ws (n_v vs 0) 160 := by rw [← ar_0_160_1]; show v_ad (w_fd w2 _ _) = v_ad (w_fd w1 _ _); rw [s2.2]
  have ar_0_160_3 : w_ar w3 (n_v vs 0) 160 = w_ar ws (n_v vs 0) 160 := by rw [← ar_0_160_2]; show v_ad (w_fd w3 _ _) = v_ad (w_fd w2 _ _); rw [s3.2]
  have ar_0_160_4 : w_ar w4 (n_v vs 0) 160 = w_ar ws (n_v vs 0) 160 := by rw [← ar_0_160_3]; show v_ad (w_fd w4 _ _) = v_ad (w_fd w3 _ _); rw [s4.2]
  have ar_0_160_5 : w_ar w5 (n_v vs 0) 160 = w_ar ws (n_v vs 0) 160 := by rw [← ar_0_160_4]; show v_ad (w_fd w5 _ _) = v_ad (w_fd w4 _ _); rw [s5.2]
  have cr_0_160 := fdq_33 hD hth r0
  have ar_0_161_1 : w_ar w1 (n_v vs 0) 161 = w_ar ws (n_v vs 0) 161 := by show v_ad (w_fd w1 _ _) = v_ad (w_fd ws _ _); rw [s1.2, if_neg (fun e => absurd e.2 (by decide))]
  have ar_0_161_2 : w_ar w2 (n_v vs 0) 161 = w_ar ws (n_v vs 0) 161 := by rw [← ar_0_161_1]; show v_ad (w_fd w2 _ _) = v_ad (w_fd w1 _ _); rw [s2.2]
  have ar_0_161_3 : w_ar w3 (n_v vs 0) 161 = w_ar ws (n_v vs 0) 161 := by rw [← ar_0_161_2]; show v_ad (w_fd w3 _ _) = v_ad (w_fd w2 _ _); rw [s3.2]
  have ar_0_161_4 : w_ar w4 (n_v vs 0) 161 = w_ar ws (n_v vs 0) 161 := by rw [← ar_0_161_3]; show v_ad (w_fd w4 _ _) = v_ad (w_fd w3 _ _); rw [s4.2]
  have ar_0_161_5 : w_ar w5 (n_v vs 0) 161 = w_ar ws (n_v vs 0) 161 := by rw [← ar_0_161_4]; show v_ad (w_fd w5 _ _) = v_ad (w_fd w4 _ _); rw [s5.2]
  have cr_0_161 := fdq_40 hD hth r0
  have ar_0_162_1 : w_ar w1 (n_v vs 0) 162 = w_ar ws (n_v vs 0) 162 := by show v_ad (w_fd w1 _ _) = v_ad (w_fd ws _ _); rw [s1.2, if_neg (fun e => absurd e.2 (by decide))]
  have ar_0_162_2 : w_ar w2 (n_v vs 0) 162 = w_ar ws (n_v vs 0) 162 := by rw [← ar_0_162_1]; show v_ad (w_fd w2 _ _) = v_ad (w_fd w1 _ _); rw [s2.2]
  have ar_0_162_3 : w_ar w3 (n_v vs 0) 162 = w_ar ws (n_v vs 0) 162 := by rw [← ar_0_162_2]; show v_ad (w_fd w3 _ _) = v_ad (w_fd w2 _ _); rw [s3.2]
  have ar_0_162_4 : w_ar w4 (n_v vs 0) 162 = w_ar ws (n_v vs 0) 162 := by rw [← ar_0_162_3]; show v_ad (w_fd w4 _ _) = v_ad (w_fd w3 _ _); rw [s4.2]
  have ar_0_162_5 : w_ar w5 (n_v vs 0) 162 = w_ar ws (n_v vs 0) 162 := by rw [← ar_0_162_4]; show v_ad (w_fd w5 _ _) = v_ad (w_fd w4 _ _); rw [s5.2]
  have cr_0_162 := fdq_41 hD hth r0
  have ar_0_163_1 : w_ar w1 (n_v vs 0) 163 = w_ar ws (n_v vs 0) 163 := by show v_ad (w_fd w1 _ _) = v_ad (w_fd ws _ _); rw [s1.2, if_neg (fun e => absurd e.2 (by decide))]
  have ar_0_163_2 : w_ar w2 (n_v vs 0) 163 = w_ar ws (n_v vs 0) 163 := by rw [← ar_0_163_1]; show v_ad (w_fd w2 _ _) = v_ad (w_fd w1 _ _); rw [s2.2]
  have ar_0_163_3 : w_ar w3 (n_v vs 0) 163 = w_ar ws (n_v vs 0) 163 := by rw [← ar_0_163_2]; show v_ad (w_fd w3 _ _) = v_ad (w_fd w2 _ _); rw [s3.2]
  have ar_0_163_4 : w_ar w4 (n_v vs 0) 163 = w_ar ws (n_v vs 0) 163 := by rw [← ar_0_163_3]; show v_ad (w_fd w4 _ _) = v_ad (w_fd w3 _ _); rw [s4.2]
  have ar_0_163_5 : w_ar w5 (n_v vs 0) 163 = w_ar ws (n_v vs 0) 163 := by rw [← ar_0_163_4]; show v_ad (w_fd w5 _ _) = v_ad (w_fd w4 _ _); rw [s5.2]
  have cr_0_163 := fdq_42 hD hth r0
  have ad_15 : v_ad (n_v vs 15) = w_ar ws (n_v vs 0) 163 := (congrArg v_ad f11).trans ar_0_163_2
  have ad_14 : v_ad (n_v vs 14) = w_ar ws (n_v vs 0) 162 := (congrArg v_ad f15).trans ar_0_162_3
  have ad_13 : v_ad (n_v vs 13) = w_ar ws (n_v vs 0) 161 := (congrArg v_ad f19).trans ar_0_161_4
  have ad_11 : v_ad (n_v vs 11) = w_ar ws (n_v vs 0) 160 := (congrArg v_ad f23).trans ar_0_160_5
  have g6 : v_iv (n_v vs 12) = w_fi w1 (n_v vs 0) 157 := congrArg v_iv f6
  have g10 : v_iv (n_v vs 9) = w_fi w2 (n_v vs 0) 11 := congrArg v_iv f10
  have fe_0_11_1 : w_fi ws (n_v vs 0) 11 = w_fi w1 (n_v vs 0) 11 := by show v_iv (w_fd _ _ _) = v_iv (w_fd _ _ _); rw [s1.2, if_neg (fun e => absurd e.2 (by decide))]
  have fe_0_157_1 : w_fi ws (n_v vs 0) 157 = v_iv (n_v vs 17) := by show v_iv (w_fd _ _ _) = _; rw [s1.2, if_pos ⟨rfl, rfl⟩]
  have fe_0_11_2 : w_fi w1 (n_v vs 0) 11 = w_fi w2 (n_v vs 0) 11 := congrArg v_iv (s2.2 _ _)
  have fe_0_157_2 : w_fi w1 (n_v vs 0) 157 = w_fi w2 (n_v vs 0) 157 := congrArg v_iv (s2.2 _ _)
  have fe_0_11_3 : w_fi w2 (n_v vs 0) 11 = w_fi w3 (n_v vs 0) 11 := congrArg v_iv (s3.2 _ _)
  have fe_0_157_3 : w_fi w2 (n_v vs 0) 157 = w_fi w3 (n_v vs 0) 157 := congrArg v_iv (s3.2 _ _)
  have fe_0_11_4 : w_fi w3 (n_v vs 0) 11 = w_fi w4 (n_v vs 0) 11 := congrArg v_iv (s4.2 _ _)
  have fe_0_157_4 : w_fi w3 (n_v vs 0) 157 = w_fi w4 (n_v vs 0) 157 := congrArg v_iv (s4.2 _ _)
  have fe_0_11_5 : w_fi w4 (n_v vs 0) 11 = w_fi w5 (n_v vs 0) 11 := congrArg v_iv (s5.2 _ _)
  have fe_0_157_5 : w_fi w4 (n_v vs 0) 157 = w_fi w5 (n_v vs 0) 157 := congrArg v_iv (s5.2 _ _)
  have hE_0_160_1 : ∀ j : Int, w_ei ws (w_ar ws (n_v vs 0) 160) j = w_ei w1 (w_ar ws (n_v vs 0) 160) j := fun j => s1.1 _ _
  have hE_0_160_2 : ∀ j : Int, w_ei w1 (w_ar ws (n_v vs 0) 160) j = w_ei w2 (w_ar ws (n_v vs 0) 160) j := el_kp s2.1 r15 cr_0_160 (by decide)
  have hE_0_160_3 : ∀ j : Int, w_ei w2 (w_ar ws (n_v vs 0) 160) j = w_ei w3 (w_ar ws (n_v vs 0) 160) j := el_kp s3.1 r14 cr_0_160 (by decide)
  have hE_0_160_4 : ∀ j : Int, w_ei w3 (w_ar ws (n_v vs 0) 160) j = w_ei w4 (w_ar ws (n_v vs 0) 160) j := el_kp s4.1 r13 cr_0_160 (by decide)
  have hE_0_160_5 : ∀ j : Int, 0 ≤ j → (j = v_iv (n_v vs 12) → w_ei w4 (w_ar ws (n_v vs 0) 160) j = v_iv (n_v vs 7)) ∧ (j ≠ v_iv (n_v vs 12) → w_ei w4 (w_ar ws (n_v vs 0) 160) j = w_ei w5 (w_ar ws (n_v vs 0) 160) j) := fun j hj => ⟨fun h => by unfold w_ei; rw [s5.1, if_pos ⟨ad_11.symm, by rw [h]⟩], fun h => by unfold w_ei; rw [s5.1, if_neg (fun e => h (by have := e.2; omega))]⟩
  have hK_0_160 := elq_6 hD hth cr_0_160
  have kz_0_11 := fdq_237 hD hth r0
  have kz_0_157 := fdq_35 hD hth r0
  have kb_0_11 := fdq_237 hD hth r0
  obtain ⟨x, ex, hx⟩ := iv_ex (ta := ta) (lo := 0) (hi := 4001) (z := 4000 + ((-2) * w_fi ws (n_v vs 0) 11 + (1 * v_iv (n_v vs 19) + 0))) (by omega) (by omega) (by omega) (by omega)
  have ex2 : v_iv (Value.int x) = 4000 + ((-2) * w_fi ws (n_v vs 0) 11 + (1 * v_iv (n_v vs 19) + 0)) := ex
  have ex3 : 0 ≤ v_iv (Value.int x) ∧ v_iv (Value.int x) ≤ 4001 := tv_rng hx
  have e_0 : n_v (vs ++ [Value.int x]) 0 = n_v vs 0 := n_v_old (by rw [hl]; decide)
  have e_2 : n_v (vs ++ [Value.int x]) 2 = n_v vs 2 := n_v_old (by rw [hl]; decide)
  have e_19 : n_v (vs ++ [Value.int x]) 19 = n_v vs 19 := n_v_old (by rw [hl]; decide)
  have e_20 : n_v (vs ++ [Value.int x]) 20 = Value.int x := n_v_new hl
  have nf0 : fc_1 PRD (20, [2, 19], [50, 2, 1, 157, 11, 160, 2, 16, 0, 7, 4, 3, 2, 0, 157, 1, 1, 4, 3, 2, 0, 11, 0, 1, 3, 6, 1, 2, 1, 1, 0, 1, 2, 7, 0, 2, 0, 1, 2, 0, 157, 3, 14, 1, 10, 3, 0, 160, 5, 3, 2, 0, 157, 0, 1, 0, 0, 1, 10, 3, 0, 160, 5, 3, 2, 0, 157, 0, 1, 0, 4]) ws (vs ++ [Value.int x]) := by
    refine ⟨nf_inA hl rfl, sgq_1319 ?_⟩
    · show ((w_fi ws (n_v (vs ++ [Value.int x]) 2) 157 + v_iv (n_v (vs ++ [Value.int x]) 19)) ≤ (w_fi ws (n_v (vs ++ [Value.int x]) 2) 11 + 1)) ∧ ((v_iv (n_v (vs ++ [Value.int x]) 19) = 1) ∨ ((1 ≤ w_fi ws (n_v (vs ++ [Value.int x]) 2) 157) ∧ ((w_ei ws (w_ar ws (n_v (vs ++ [Value.int x]) 2) 160) ((w_fi ws (n_v (vs ++ [Value.int x]) 2) 157 - 1)) = 0) ∨ (w_ei ws (w_ar ws (n_v (vs ++ [Value.int x]) 2) 160) ((w_fi ws (n_v (vs ++ [Value.int x]) 2) 157 - 1)) = 4))))
      simp only [e_2, e_19, q2]
      exact vc_Mo_styleTokens_53_0 (v_iv (n_v vs 6)) (v_iv (n_v vs 7)) (v_iv (n_v vs 12)) (v_iv (n_v vs 17)) (v_iv (n_v vs 19)) (w_fi w1 (n_v vs 0) 157) (w_fi w1 (n_v vs 0) 11) (w_fi w2 (n_v vs 0) 11) (w_fi w2 (n_v vs 0) 157) (w_fi w3 (n_v vs 0) 157) (w_fi w3 (n_v vs 0) 11) (w_fi w4 (n_v vs 0) 157) (w_fi w4 (n_v vs 0) 11) (w_fi w5 (n_v vs 0) 157) (w_fi w5 (n_v vs 0) 11) (w_fi ws (n_v vs 0) 11) (w_fi ws (n_v vs 0) 157) (w_ei ws (w_ar ws (n_v vs 0) 160)) (w_ei w1 (w_ar ws (n_v vs 0) 160)) (w_ei w2 (w_ar ws (n_v vs 0) 160)) (w_ei w3 (w_ar ws (n_v vs 0) 160)) (w_ei w4 (w_ar ws (n_v vs 0) 160)) k6 k7 k12 k17 k19 d0 g6 f7 f24 fe_0_11_1 fe_0_157_1 fe_0_11_2 fe_0_157_2 fe_0_11_3 fe_0_157_3 fe_0_11_4 fe_0_157_4 fe_0_11_5 fe_0_157_5 hE_0_160_1 hE_0_160_2 hE_0_160_3 hE_0_160_4 kz_0_11 kz_0_157
  have nf1 : fc_1 PRD (24, [0, 2], []) ws (vs ++ [Value.int x]) := by
    refine ⟨nf_inA hl rfl, sgq_5 ?_⟩
    · show n_v (vs ++ [Value.int x]) 0 = n_v (vs ++ [Value.int x]) 2
      first | rfl | simp only [e_0, e_2, q2]
  have nf2 : fc_1 PRD (20, [20, 2, 19], [30, 4000, 1, 0, 0, 2, 1, 11, -1, 0, 0]) ws (vs ++ [Value.int x]) := by
    refine ⟨nf_inA hl rfl, sgq_1320 ?_⟩
    · show 1 * v_iv (n_v (vs ++ [Value.int x]) 20) + (2 * w_fi ws (n_v (vs ++ [Value.int x]) 2) 11 + ((-1) * v_iv (n_v (vs ++ [Value.int x]) 19) + 0)) ≤ 4000
      simp only [e_2, e_19, e_20, q2]
      exact vc_Mo_styleTokens_53_2 (v_iv (n_v vs 19)) (w_fi w1 (n_v vs 0) 157) (w_fi w1 (n_v vs 0) 11) (w_fi w2 (n_v vs 0) 11) (w_fi w2 (n_v vs 0) 157) (w_fi w3 (n_v vs 0) 157) (w_fi w3 (n_v vs 0) 11) (w_fi w4 (n_v vs 0) 157) (w_fi w4 (n_v vs 0) 11) (w_fi w5 (n_v vs 0) 157) (w_fi w5 (n_v vs 0) 11) (w_fi ws (n_v vs 0) 11) (w_ei ws (w_ar ws (n_v vs 0) 160)) (w_ei w1 (w_ar ws (n_v vs 0) 160)) (w_ei w2 (w_ar ws (n_v vs 0) 160)) (w_ei w3 (w_ar ws (n_v vs 0) 160)) (w_ei w4 (w_ar ws (n_v vs 0) 160)) (v_iv (Value.int x)) k19 fe_0_11_1 fe_0_11_2 fe_0_157_2 fe_0_11_3 fe_0_157_3 fe_0_11_4 fe_0_157_4 fe_0_11_5 fe_0_157_5 hE_0_160_1 hE_0_160_2 hE_0_160_3 hE_0_160_4 kz_0_11 ex2
  have nf3 : fc_1 PRD (20, [20, 2, 19], [30, -4000, -1, 0, 0, -2, 1, 11, 1, 0, 0]) ws (vs ++ [Value.int x]) := by
    refine ⟨nf_inA hl rfl, sgq_1321 ?_⟩
    · show (-1) * v_iv (n_v (vs ++ [Value.int x]) 20) + ((-2) * w_fi ws (n_v (vs ++ [Value.int x]) 2) 11 + (1 * v_iv (n_v (vs ++ [Value.int x]) 19) + 0)) ≤ (-4000)
      simp only [e_2, e_19, e_20, q2]
      exact vc_Mo_styleTokens_53_3 (v_iv (n_v vs 19)) (w_fi w1 (n_v vs 0) 157) (w_fi w1 (n_v vs 0) 11) (w_fi w2 (n_v vs 0) 11) (w_fi w2 (n_v vs 0) 157) (w_fi w3 (n_v vs 0) 157) (w_fi w3 (n_v vs 0) 11) (w_fi w4 (n_v vs 0) 157) (w_fi w4 (n_v vs 0) 11) (w_fi w5 (n_v vs 0) 157) (w_fi w5 (n_v vs 0) 11) (w_fi ws (n_v vs 0) 11) (w_ei ws (w_ar ws (n_v vs 0) 160)) (w_ei w1 (w_ar ws (n_v vs 0) 160)) (w_ei w2 (w_ar ws (n_v vs 0) 160)) (w_ei w3 (w_ar ws (n_v vs 0) 160)) (w_ei w4 (w_ar ws (n_v vs 0) 160)) (v_iv (Value.int x)) k19 fe_0_11_1 fe_0_11_2 fe_0_157_2 fe_0_11_3 fe_0_157_3 fe_0_11_4 fe_0_157_4 fe_0_11_5 fe_0_157_5 hE_0_160_1 hE_0_160_2 hE_0_160_3 hE_0_160_4 kz_0_11 ex2
  obtain ⟨x0, e0, _, _⟩ := tv_int t10 rfl
  have e1 : v_iv (n_v vs 10) = x0.toInt := by rw [e0]; rfl
  have ho : sy_ofs (vs ++ [Value.int x]) (20, 10, -1000000000000, -1) := by
    refine ⟨x, x0, by rw [List.getElem?_append_right (by rw [hl]; decide), hl]; rfl, ?_, ?_, ?_⟩
    · rw [List.getElem?_append_left (by rw [hl]; decide)]; exact n_v_some (by rw [hl]; decide) e0
    · show x0.toInt + (-1000000000000) ≤ x.toInt; omega
    · show x.toInt ≤ x0.toInt + (-1); omega
  exact ⟨(fun _ h => (by cases h)), [Value.int x], ag_one hx, List.forall_mem_cons.mpr ⟨⟨show (20 : Nat) < 100 from by decide, nf0⟩, List.forall_mem_cons.mpr ⟨⟨show (24 : Nat) < 100 from by decide, nf1⟩, List.forall_mem_cons.mpr ⟨⟨show (20 : Nat) < 100 from by decide, nf2⟩, List.forall_mem_cons.mpr ⟨⟨show (20 : Nat) < 100 from by decide, nf3⟩, (fun _ h => (by cases h))⟩⟩⟩⟩, List.forall_mem_cons.mpr ⟨ho, (fun _ h => (by cases h))⟩⟩
def n_Mo_styleTokens_an : List an_T := [(17, [(0, (2, 0, 0, [165])), (1, (0, 0, 2000, [])), (2, (0, 0, 1, []))], [], (0, 0), [(0, 0, 99983), (2, 7, 0), (0, 0, 100000), (0, 0, 0), (0, 0, 0)], [(1, 3, (Int.negSucc 999999999999), 0), (3, 1, (Int.negSucc 999999999999), 0)], [((0, 11), (0, 0, 2000, [])), ((0, 157), (0, 0, 2001, []))], [(2, 0, 0, [165]), (0, 0, 2000, [])], 0, [(0, 0, 4001, [])], [(20, [2, 4], [50, 2, 1, 157, 11, 160, 2, 16, 0, 7, 4, 3, 2, 0, 157, 1, 1, 4, 3, 2, 0, 11, 0, 1, 3, 6, 1, 2, 1, 1, 0, 1, 2, 7, 0, 2, 0, 1, 2, 0, 157, 3, 14, 1, 10, 3, 0, 160, 5, 3, 2, 0, 157, 0, 1, 0, 0, 1, 10, 3, 0, 160, 5, 3, 2, 0, 157, 0, 1, 0, 4]), (24, [0, 2], []), (20, [7, 2, 4], [30, 4000, 1, 0, 0, 2, 1, 11, (Int.negSucc 0), 0, 0]), (20, [7, 2, 4], [30, (Int.negSucc 3999), (Int.negSucc 0), 0, 0, (Int.negSucc 1), 1, 11, 1, 0, 0])]), (21, [(0, (2, 0, 0, [165])), (1, (0, 0, 2000, [])), (2, (0, 1, 1, []))], [], (0, 0), [(0, 0, 99983), (2, 6, 0), (0, 0, 99979), (1, 5, 2000), (0, 0, 100000)], [(1, 3, (Int.negSucc 999999999999), 0), (3, 1, (Int.negSucc 999999999999), 0)], [((0, 11), (0, 0, 2000, []))], [(2, 0, 0, [165]), (0, 0, 2000, [])], 0, [(0, 0, 4001, [])], [(20, [2], [50, 2, 0, 157, 11, 0, 3, 2, 0, 157, 2, 0, 11]), (20, [6, 2], [30, (Int.negSucc 4000), (Int.negSucc 0), 0, 0, (Int.negSucc 1), 1, 11]), (24, [0, 2], [])]), (60, [(0, (2, 0, 0, [165])), (1, (0, 0, 2000, [])), (2, (0, 1, 1, []))], [], (0, 0), [(0, 0, 99983), (2, 6, 0), (0, 0, 99940), (0, 0, 0), (0, 0, 0)], [(1, 3, (Int.negSucc 999999999999), 0), (3, 1, (Int.negSucc 999999999999), 0)], [((0, 11), (0, 0, 2000, []))], [(2, 0, 0, [165]), (0, 0, 2000, [])], 0, [(0, 0, 4001, [])], [(20, [2], [50, 2, 0, 157, 11, 0, 3, 2, 0, 157, 2, 0, 11]), (20, [6, 2], [30, (Int.negSucc 4000), (Int.negSucc 0), 0, 0, (Int.negSucc 1), 1, 11]), (24, [0, 2], [])]), (103, [(0, (2, 0, 0, [165])), (1, (0, 0, 2000, [])), (2, (0, 1, 1, [])), (3, (0, 97, 122, [])), (4, (0, 0, 1999, [])), (5, (0, 4, 4, [])), (6, (1, 0, 255, []))], [], (0, 0), [(0, 0, 99983), (2, 10, 0), (0, 0, 99897), (1, 9, 2000), (0, 0, 100000)], [(1, 3, (Int.negSucc 999999999999), 0), (3, 1, (Int.negSucc 999999999999), 0), (6, 9, (Int.negSucc 999999999999), 0)], [((0, 11), (0, 0, 2000, []))], [(2, 0, 0, [165]), (0, 0, 2000, [])], 0, [(0, 0, 4001, [])], [(20, [2, 6], [50, 3, 1, 157, 11, 10, 1, 2, 7, 0, 3, 2, 0, 157, 1, 1, 2, 7, 0, 2, 1, 1, 2, 0, 11, 3, 11, 0, 6, 4, 2, 1, 1, 0, 1, 2, 0, 11, 2, 7, 1, 3, 2, 0, 11, 1, 1, 2, 11, 0, 6, 4, 2, 1, 1, 0, 1, 2, 0, 10, 2, 13, 0, 2, 0, 97, 9, 5, 3, 0, 1, 1, 1, 0, 256, 0, 9, 9, 5, 3, 0, 1, 1, 1, 0, 256, 0, 122]), (20, [10, 6], [30, (Int.negSucc 4000), (Int.negSucc 0), 0, 0, (Int.negSucc 1), 0, 0]), (24, [0, 2], [])]), (166, [(0, (2, 0, 0, [165])), (1, (0, 0, 2000, [])), (2, (0, 1, 1, [])), (3, (0, 48, 57, [])), (4, (0, 0, 1999, [])), (5, (0, 4, 4, [])), (6, (1, (Int.negSucc 9223372036854775807), 9223372036854775807, []))], [], (0, 0), [(0, 0, 99983), (2, 10, 0), (0, 0, 99834), (1, 9, 2000), (0, 0, 100000)], [(1, 3, (Int.negSucc 999999999999), 0), (3, 1, (Int.negSucc 999999999999), 0), (6, 9, (Int.negSucc 999999999999), 0)], [((0, 11), (0, 0, 2000, []))], [(2, 0, 0, [165]), (0, 0, 2000, [])], 0, [(0, 0, 4001, [])], [(20, [2, 6], [50, 3, 1, 157, 11, 10, 1, 2, 7, 0, 3, 2, 0, 157, 1, 1, 2, 7, 0, 2, 1, 1, 2, 0, 11, 3, 11, 0, 6, 4, 2, 1, 1, 0, 1, 2, 0, 11, 2, 7, 1, 3, 2, 0, 11, 1, 1, 2, 11, 0, 6, 4, 2, 1, 1, 0, 1, 2, 0, 10, 2, 13, 0, 2, 0, 48, 9, 5, 3, 0, 1, 1, 1, 0, 256, 0, 9, 9, 5, 3, 0, 1, 1, 1, 0, 256, 0, 57]), (20, [10, 6], [30, (Int.negSucc 4000), (Int.negSucc 0), 0, 0, (Int.negSucc 1), 0, 0]), (24, [0, 2], [])]), (250, [(0, (2, 0, 0, [165])), (1, (0, 0, 2000, [])), (2, (0, 1, 1, [])), (3, (0, 0, 255, [])), (4, (0, 0, 1999, [])), (5, (0, 4, 4, [])), (6, (1, 0, 255, []))], [], (0, 0), [(0, 0, 99983), (2, 10, 0), (0, 0, 99750), (0, 0, 0), (0, 0, 0)], [(1, 3, (Int.negSucc 999999999999), 0), (3, 1, (Int.negSucc 999999999999), 0), (6, 9, (Int.negSucc 999999999999), 0), (9, 6, (Int.negSucc 999999999999), 0)], [((0, 11), (0, 0, 1999, []))], [(2, 0, 0, [165]), (0, 0, 2000, [])], 0, [(0, 0, 4001, [])], [(20, [2, 6], [50, 2, 0, 157, 11, 2, 7, 0, 3, 2, 0, 157, 1, 1, 1, 3, 2, 0, 11, 1, 1]), (20, [10, 6], [30, (Int.negSucc 4000), (Int.negSucc 0), 0, 0, (Int.negSucc 1), 0, 0]), (24, [0, 2], [])]), (334, [(0, (2, 0, 0, [165])), (1, (0, 0, 2000, [])), (2, (0, 1, 1, [])), (3, (0, 40, 125, [])), (4, (0, 0, 1999, [])), (5, (0, 4, 4, [])), (6, (1, 0, 255, []))], [], (0, 0), [(0, 0, 99983), (2, 10, 0), (0, 0, 99666), (0, 0, 0), (0, 0, 0)], [(1, 3, (Int.negSucc 999999999999), 0), (3, 1, (Int.negSucc 999999999999), 0), (6, 9, (Int.negSucc 999999999999), 0), (9, 6, (Int.negSucc 999999999999), 0)], [((0, 11), (0, 0, 1999, []))], [(2, 0, 0, [165]), (0, 0, 2000, [])], 0, [(0, 0, 4001, [])], [(20, [2, 6], [50, 2, 0, 157, 11, 2, 7, 0, 3, 2, 0, 157, 1, 1, 1, 3, 2, 0, 11, 1, 1]), (20, [10, 6], [30, (Int.negSucc 4000), (Int.negSucc 0), 0, 0, (Int.negSucc 1), 0, 0]), (24, [0, 2], [])]), (339, [(0, (2, 0, 0, [165])), (1, (0, 0, 2000, [])), (2, (0, 1, 1, [])), (3, (0, 0, 255, [])), (4, (0, 0, 1999, [])), (5, (0, 4, 4, [])), (6, (1, 0, 255, []))], [(0, 0, 1, [])], (0, 0), [(0, 0, 99983), (2, 11, 0), (0, 0, 99661), (0, 0, 0), (0, 0, 0)], [(1, 3, (Int.negSucc 999999999999), 0), (3, 1, (Int.negSucc 999999999999), 0), (6, 10, (Int.negSucc 999999999999), 0), (9, 5, (Int.negSucc 999999999999), 0), (10, 6, (Int.negSucc 999999999999), 0)], [((0, 11), (0, 0, 1999, []))], [(2, 0, 0, [165]), (0, 0, 2000, [])], 0, [(0, 0, 4001, [])], [(20, [2, 6], [50, 2, 0, 157, 11, 2, 7, 0, 3, 2, 0, 157, 1, 1, 1, 3, 2, 0, 11, 1, 1]), (20, [11, 6], [30, (Int.negSucc 4000), (Int.negSucc 0), 0, 0, (Int.negSucc 1), 0, 0]), (24, [0, 2], [])]), (363, [(0, (2, 0, 0, [165])), (1, (0, 0, 2000, [])), (2, (0, 1, 1, [])), (3, (0, (Int.negSucc 0), 255, [])), (4, (0, 0, 2000, [])), (5, (0, 0, 4, [])), (6, (1, (Int.negSucc 9223372036854775807), 9223372036854775807, []))], [], (0, 0), [(0, 0, 99983), (2, 10, 0), (0, 0, 99637), (0, 0, 0), (0, 0, 0)], [(1, 3, (Int.negSucc 999999999999), 0), (3, 1, (Int.negSucc 999999999999), 0), (7, 5, (Int.negSucc 999999999999), 4)], [((0, 11), (0, 0, 2000, []))], [(2, 0, 0, [165]), (0, 0, 2000, [])], 0, [(0, 0, 4001, [])], [(20, [2, 6, 7], [50, 2, 0, 157, 11, 2, 7, 0, 3, 2, 0, 157, 1, 1, 2, 7, 0, 2, 1, 1, 2, 0, 11, 3, 6, 1, 2, 1, 2, 0, 0, 3, 6, 1, 2, 1, 2, 0, 4, 0, 6, 4, 2, 1, 1, 0, 1, 2, 0, 11]), (20, [10, 6], [30, (Int.negSucc 4000), (Int.negSucc 0), 0, 0, (Int.negSucc 1), 0, 0]), (24, [0, 2], [])])]
def t_Mo_styleTokens_ct : ct_L := [(0, 387, e_Mo_in), (0, 444, e_Mo_isDigit), (1, 425, e_Mo_byteAt)]
end
