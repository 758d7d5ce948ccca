section

set_option maxHeartbeats 4000000 in
theorem vc_Mo_rule_at_f0_60_1 (x1 : Int) (x5 : Int) (x6 : Int) (x11 : Int) (x12 : Int) (x13 : Int) (x14 : Int) (x15 : Int) (tokenKind_0 : Int → Int) (tokenValue_0 : Int → Int) (tokenPlace_0 : Int → Int) (tokenEnd_0 : Int → Int) (tape_0 : Int → Int) (styleKind_0 : Int) (limit_0 : Int) (styleOne_0 : Int) (opened_0 : Int) (cur_0 : Int) (tokens_0 : Int) (fault_0 : Int) (gx : Int) (gy : Int) (gu : Int) (k1 : 0 ≤ x1 ∧ x1 ≤ 2009) (k5 : 0 ≤ x5 ∧ x5 ≤ 2009) (k6 : 0 ≤ x6 ∧ x6 ≤ 2010) (k11 : 1 ≤ x11 ∧ x11 ≤ 1) (k12 : 1 ≤ x12 ∧ x12 ≤ 2009) (k13 : 61 ≤ x13 ∧ x13 ≤ 61) (k14 : 0 ≤ x14 ∧ x14 ≤ 2009) (k15 : 0 ≤ x15 ∧ x15 ≤ 5) (d0 : x5 + 1 ≤ x12 ∧ x12 ≤ x5 + 1) (f0 : 1 * x1 + ((-1) * x14 + 0) ≤ 0) (f1 : (-1) * x6 + ((-1) * x14 + 0) ≤ (-2011)) (f2 : RB1 (styleKind_0) (limit_0) (tokenKind_0) (tokenValue_0) (tokenPlace_0) (tokenEnd_0) (tape_0) (x14) (x15) (x1)) (f3 : (styleKind_0 = 0) → (styleOne_0 ≤ 23)) (f4 : 1 * opened_0 + 0 ≤ 0) (f5 : (-1) * opened_0 + 0 ≤ 0) (f7 : ((cur_0 + 1) ≤ tokens_0) ∧ ((tokens_0 ≤ 2010) ∧ ((tokenKind_0 ((tokens_0 - 1)) = 0) ∨ (tokenKind_0 ((tokens_0 - 1)) = 4)))) (f8 : 1 * x14 + ((-1) * cur_0 + 0) ≤ 0) (f9 : SND (fault_0) (cur_0) (tokenKind_0) (tokenValue_0) (x13) (x14) (x15)) (f11 : 1 * x1 + ((-1) * x14 + 0) ≤ 0) (f12 : (-1) * x6 + ((-1) * x14 + 0) ≤ (-2011)) (f14 : x12 = x5 + x11) (hK_0_1 : ∀ j : Int, 0 ≤ j → j < 2000 → (-128) ≤ tape_0 j ∧ tape_0 j ≤ 127) (hK_0_160 : ∀ j : Int, 0 ≤ j → j < 2010 → 0 ≤ tokenKind_0 j ∧ tokenKind_0 j ≤ 4) (hK_0_162 : ∀ j : Int, 0 ≤ j → j < 2010 → 0 ≤ tokenPlace_0 j ∧ tokenPlace_0 j ≤ 2000) (hK_0_163 : ∀ j : Int, 0 ≤ j → j < 2010 → 0 ≤ tokenEnd_0 j ∧ tokenEnd_0 j ≤ 2000) (kz_0_8 : 0 ≤ fault_0 ∧ fault_0 ≤ 5) (kz_0_10 : 0 ≤ limit_0 ∧ limit_0 ≤ 2000) (kz_0_157 : 0 ≤ tokens_0 ∧ tokens_0 ≤ 2010) (kz_0_158 : 0 ≤ cur_0 ∧ cur_0 ≤ 2009) (kz_0_159 : 0 ≤ opened_0 ∧ opened_0 ≤ 13) (kz_0_164 : 0 ≤ styleKind_0 ∧ styleKind_0 ≤ 1) (kz_0_165 : (-1) ≤ styleOne_0 ∧ styleOne_0 ≤ 47) (ex2 : gx = cur_0) (ex3 : 0 ≤ gx ∧ gx ≤ 2009) (ey2 : gy = fault_0) (ey3 : 0 ≤ gy ∧ gy ≤ 5) (eu2 : gu = opened_0) (eu3 : 0 ≤ gu ∧ gu ≤ 13) : 1 * cur_0 + ((-1) * gx + 0) ≤ 0 := by
  first | with_reducible assumption | ((have f7_c0 := f7.1); (have f7_c1 := f7.2.1); (have f7_c2 := f7.2.2); (try and_intros) <;> first | with_reducible assumption | (clear f7_c2 f7 hK_0_1 hK_0_160 hK_0_162 hK_0_163 f3; omega)) | ((have f7_c0 := f7.1); (have f7_c1 := f7.2.1); (have f7_c2 := f7.2.2); (first | have f3_b := f3 (by clear f7_c2 f7 hK_0_1 hK_0_160 hK_0_162 hK_0_163 f3; omega) | skip); (first | have f3_d := f3 (by with_reducible assumption) | skip); (try and_intros) <;> first | with_reducible assumption | (clear f7_c2 f7 hK_0_1 hK_0_160 hK_0_162 hK_0_163 f3; omega)) | ((have f7_c0 := f7.1); (have f7_c1 := f7.2.1); (have f7_c2 := f7.2.2); (first | have f3_b := f3 (by clear f7_c2 f7 hK_0_1 hK_0_160 hK_0_162 hK_0_163 f3; omega) | skip); (first | have f3_d := f3 (by with_reducible assumption) | skip); (first | have f7_q := tk_nx0 f7 (by clear f7_c2 f7 hK_0_1 hK_0_160 hK_0_162 hK_0_163 f3; omega) | skip); (try and_intros) <;> first | with_reducible assumption | (clear f7_c2 f7 hK_0_1 hK_0_160 hK_0_162 hK_0_163 f3; omega)) | omega
set_option maxHeartbeats 4000000 in
theorem vc_Mo_rule_at_f0_60_2 (x1 : Int) (x5 : Int) (x6 : Int) (x11 : Int) (x12 : Int) (x13 : Int) (x14 : Int) (x15 : Int) (tokenKind_0 : Int → Int) (tokenValue_0 : Int → Int) (tokenPlace_0 : Int → Int) (tokenEnd_0 : Int → Int) (tape_0 : Int → Int) (styleKind_0 : Int) (limit_0 : Int) (styleOne_0 : Int) (opened_0 : Int) (cur_0 : Int) (tokens_0 : Int) (fault_0 : Int) (gx : Int) (gy : Int) (gu : Int) (k1 : 0 ≤ x1 ∧ x1 ≤ 2009) (k5 : 0 ≤ x5 ∧ x5 ≤ 2009) (k6 : 0 ≤ x6 ∧ x6 ≤ 2010) (k11 : 1 ≤ x11 ∧ x11 ≤ 1) (k12 : 1 ≤ x12 ∧ x12 ≤ 2009) (k13 : 61 ≤ x13 ∧ x13 ≤ 61) (k14 : 0 ≤ x14 ∧ x14 ≤ 2009) (k15 : 0 ≤ x15 ∧ x15 ≤ 5) (d0 : x5 + 1 ≤ x12 ∧ x12 ≤ x5 + 1) (f0 : 1 * x1 + ((-1) * x14 + 0) ≤ 0) (f1 : (-1) * x6 + ((-1) * x14 + 0) ≤ (-2011)) (f2 : RB1 (styleKind_0) (limit_0) (tokenKind_0) (tokenValue_0) (tokenPlace_0) (tokenEnd_0) (tape_0) (x14) (x15) (x1)) (f3 : (styleKind_0 = 0) → (styleOne_0 ≤ 23)) (f4 : 1 * opened_0 + 0 ≤ 0) (f5 : (-1) * opened_0 + 0 ≤ 0) (f7 : ((cur_0 + 1) ≤ tokens_0) ∧ ((tokens_0 ≤ 2010) ∧ ((tokenKind_0 ((tokens_0 - 1)) = 0) ∨ (tokenKind_0 ((tokens_0 - 1)) = 4)))) (f8 : 1 * x14 + ((-1) * cur_0 + 0) ≤ 0) (f9 : SND (fault_0) (cur_0) (tokenKind_0) (tokenValue_0) (x13) (x14) (x15)) (f11 : 1 * x1 + ((-1) * x14 + 0) ≤ 0) (f12 : (-1) * x6 + ((-1) * x14 + 0) ≤ (-2011)) (f14 : x12 = x5 + x11) (hK_0_1 : ∀ j : Int, 0 ≤ j → j < 2000 → (-128) ≤ tape_0 j ∧ tape_0 j ≤ 127) (hK_0_160 : ∀ j : Int, 0 ≤ j → j < 2010 → 0 ≤ tokenKind_0 j ∧ tokenKind_0 j ≤ 4) (hK_0_162 : ∀ j : Int, 0 ≤ j → j < 2010 → 0 ≤ tokenPlace_0 j ∧ tokenPlace_0 j ≤ 2000) (hK_0_163 : ∀ j : Int, 0 ≤ j → j < 2010 → 0 ≤ tokenEnd_0 j ∧ tokenEnd_0 j ≤ 2000) (kz_0_8 : 0 ≤ fault_0 ∧ fault_0 ≤ 5) (kz_0_10 : 0 ≤ limit_0 ∧ limit_0 ≤ 2000) (kz_0_157 : 0 ≤ tokens_0 ∧ tokens_0 ≤ 2010) (kz_0_158 : 0 ≤ cur_0 ∧ cur_0 ≤ 2009) (kz_0_159 : 0 ≤ opened_0 ∧ opened_0 ≤ 13) (kz_0_164 : 0 ≤ styleKind_0 ∧ styleKind_0 ≤ 1) (kz_0_165 : (-1) ≤ styleOne_0 ∧ styleOne_0 ≤ 47) (ex2 : gx = cur_0) (ex3 : 0 ≤ gx ∧ gx ≤ 2009) (ey2 : gy = fault_0) (ey3 : 0 ≤ gy ∧ gy ≤ 5) (eu2 : gu = opened_0) (eu3 : 0 ≤ gu ∧ gu ≤ 13) : (-1) * cur_0 + (1 * gx + 0) ≤ 0 := by
  first | with_reducible assumption | ((have f7_c0 := f7.1); (have f7_c1 := f7.2.1); (have f7_c2 := f7.2.2); (try and_intros) <;> first | with_reducible assumption | (clear f7_c2 f7 hK_0_1 hK_0_160 hK_0_162 hK_0_163 f3; omega)) | ((have f7_c0 := f7.1); (have f7_c1 := f7.2.1); (have f7_c2 := f7.2.2); (first | have f3_b := f3 (by clear f7_c2 f7 hK_0_1 hK_0_160 hK_0_162 hK_0_163 f3; omega) | skip); (first | have f3_d := f3 (by with_reducible assumption) | skip); (try and_intros) <;> first | with_reducible assumption | (clear f7_c2 f7 hK_0_1 hK_0_160 hK_0_162 hK_0_163 f3; omega)) | ((have f7_c0 := f7.1); (have f7_c1 := f7.2.1); (have f7_c2 := f7.2.2); (first | have f3_b := f3 (by clear f7_c2 f7 hK_0_1 hK_0_160 hK_0_162 hK_0_163 f3; omega) | skip); (first | have f3_d := f3 (by with_reducible assumption) | skip); (first | have f7_q := tk_nx0 f7 (by clear f7_c2 f7 hK_0_1 hK_0_160 hK_0_162 hK_0_163 f3; omega) | skip); (try and_intros) <;> first | with_reducible assumption | (clear f7_c2 f7 hK_0_1 hK_0_160 hK_0_162 hK_0_163 f3; omega)) | omega
set_option maxHeartbeats 4000000 in
theorem vc_Mo_rule_at_f0_60_3 (x1 : Int) (x5 : Int) (x6 : Int) (x11 : Int) (x12 : Int) (x13 : Int) (x14 : Int) (x15 : Int) (tokenKind_0 : Int → Int) (tokenValue_0 : Int → Int) (tokenPlace_0 : Int → Int) (tokenEnd_0 : Int → Int) (tape_0 : Int → Int) (styleKind_0 : Int) (limit_0 : Int) (styleOne_0 : Int) (opened_0 : Int) (cur_0 : Int) (tokens_0 : Int) (fault_0 : Int) (gx : Int) (gy : Int) (gu : Int) (k1 : 0 ≤ x1 ∧ x1 ≤ 2009) (k5 : 0 ≤ x5 ∧ x5 ≤ 2009) (k6 : 0 ≤ x6 ∧ x6 ≤ 2010) (k11 : 1 ≤ x11 ∧ x11 ≤ 1) (k12 : 1 ≤ x12 ∧ x12 ≤ 2009) (k13 : 61 ≤ x13 ∧ x13 ≤ 61) (k14 : 0 ≤ x14 ∧ x14 ≤ 2009) (k15 : 0 ≤ x15 ∧ x15 ≤ 5) (d0 : x5 + 1 ≤ x12 ∧ x12 ≤ x5 + 1) (f0 : 1 * x1 + ((-1) * x14 + 0) ≤ 0) (f1 : (-1) * x6 + ((-1) * x14 + 0) ≤ (-2011)) (f2 : RB1 (styleKind_0) (limit_0) (tokenKind_0) (tokenValue_0) (tokenPlace_0) (tokenEnd_0) (tape_0) (x14) (x15) (x1)) (f3 : (styleKind_0 = 0) → (styleOne_0 ≤ 23)) (f4 : 1 * opened_0 + 0 ≤ 0) (f5 : (-1) * opened_0 + 0 ≤ 0) (f7 : ((cur_0 + 1) ≤ tokens_0) ∧ ((tokens_0 ≤ 2010) ∧ ((tokenKind_0 ((tokens_0 - 1)) = 0) ∨ (tokenKind_0 ((tokens_0 - 1)) = 4)))) (f8 : 1 * x14 + ((-1) * cur_0 + 0) ≤ 0) (f9 : SND (fault_0) (cur_0) (tokenKind_0) (tokenValue_0) (x13) (x14) (x15)) (f11 : 1 * x1 + ((-1) * x14 + 0) ≤ 0) (f12 : (-1) * x6 + ((-1) * x14 + 0) ≤ (-2011)) (f14 : x12 = x5 + x11) (hK_0_1 : ∀ j : Int, 0 ≤ j → j < 2000 → (-128) ≤ tape_0 j ∧ tape_0 j ≤ 127) (hK_0_160 : ∀ j : Int, 0 ≤ j → j < 2010 → 0 ≤ tokenKind_0 j ∧ tokenKind_0 j ≤ 4) (hK_0_162 : ∀ j : Int, 0 ≤ j → j < 2010 → 0 ≤ tokenPlace_0 j ∧ tokenPlace_0 j ≤ 2000) (hK_0_163 : ∀ j : Int, 0 ≤ j → j < 2010 → 0 ≤ tokenEnd_0 j ∧ tokenEnd_0 j ≤ 2000) (kz_0_8 : 0 ≤ fault_0 ∧ fault_0 ≤ 5) (kz_0_10 : 0 ≤ limit_0 ∧ limit_0 ≤ 2000) (kz_0_157 : 0 ≤ tokens_0 ∧ tokens_0 ≤ 2010) (kz_0_158 : 0 ≤ cur_0 ∧ cur_0 ≤ 2009) (kz_0_159 : 0 ≤ opened_0 ∧ opened_0 ≤ 13) (kz_0_164 : 0 ≤ styleKind_0 ∧ styleKind_0 ≤ 1) (kz_0_165 : (-1) ≤ styleOne_0 ∧ styleOne_0 ≤ 47) (ex2 : gx = cur_0) (ex3 : 0 ≤ gx ∧ gx ≤ 2009) (ey2 : gy = fault_0) (ey3 : 0 ≤ gy ∧ gy ≤ 5) (eu2 : gu = opened_0) (eu3 : 0 ≤ gu ∧ gu ≤ 13) : (styleKind_0 = 0) → (styleOne_0 ≤ 23) := by
  first | with_reducible assumption | ((have f7_c0 := f7.1); (have f7_c1 := f7.2.1); (have f7_c2 := f7.2.2); (try and_intros) <;> first | with_reducible assumption | (clear f7_c2 f7 hK_0_1 hK_0_160 hK_0_162 hK_0_163 f3; omega)) | ((have f7_c0 := f7.1); (have f7_c1 := f7.2.1); (have f7_c2 := f7.2.2); (first | have f3_b := f3 (by clear f7_c2 f7 hK_0_1 hK_0_160 hK_0_162 hK_0_163 f3; omega) | skip); (first | have f3_d := f3 (by with_reducible assumption) | skip); (try and_intros) <;> first | with_reducible assumption | (clear f7_c2 f7 hK_0_1 hK_0_160 hK_0_162 hK_0_163 f3; omega)) | ((have f7_c0 := f7.1); (have f7_c1 := f7.2.1); (have f7_c2 := f7.2.2); (first | have f3_b := f3 (by clear f7_c2 f7 hK_0_1 hK_0_160 hK_0_162 hK_0_163 f3; omega) | skip); (first | have f3_d := f3 (by with_reducible assumption) | skip); (first | have f7_q := tk_nx0 f7 (by clear f7_c2 f7 hK_0_1 hK_0_160 hK_0_162 hK_0_163 f3; omega) | skip); (try and_intros) <;> first | with_reducible assumption | (clear f7_c2 f7 hK_0_1 hK_0_160 hK_0_162 hK_0_163 f3; omega)) | (intro hG; (first | have f3_g := f3 hG | skip); (have f7_c0 := f7.1); (have f7_c1 := f7.2.1); (have f7_c2 := f7.2.2); (first | have f3_b := f3 (by clear f7_c2 f7 hK_0_1 hK_0_160 hK_0_162 hK_0_163 f3; omega) | skip); (try and_intros) <;> first | with_reducible assumption | (clear f7_c2 f7 hK_0_1 hK_0_160 hK_0_162 hK_0_163 f3 hG; omega)) | omega
set_option maxHeartbeats 4000000 in
theorem vc_Mo_rule_at_f0_60_4 (x1 : Int) (x5 : Int) (x6 : Int) (x11 : Int) (x12 : Int) (x13 : Int) (x14 : Int) (x15 : Int) (tokenKind_0 : Int → Int) (tokenValue_0 : Int → Int) (tokenPlace_0 : Int → Int) (tokenEnd_0 : Int → Int) (tape_0 : Int → Int) (styleKind_0 : Int) (limit_0 : Int) (styleOne_0 : Int) (opened_0 : Int) (cur_0 : Int) (tokens_0 : Int) (fault_0 : Int) (gx : Int) (gy : Int) (gu : Int) (k1 : 0 ≤ x1 ∧ x1 ≤ 2009) (k5 : 0 ≤ x5 ∧ x5 ≤ 2009) (k6 : 0 ≤ x6 ∧ x6 ≤ 2010) (k11 : 1 ≤ x11 ∧ x11 ≤ 1) (k12 : 1 ≤ x12 ∧ x12 ≤ 2009) (k13 : 61 ≤ x13 ∧ x13 ≤ 61) (k14 : 0 ≤ x14 ∧ x14 ≤ 2009) (k15 : 0 ≤ x15 ∧ x15 ≤ 5) (d0 : x5 + 1 ≤ x12 ∧ x12 ≤ x5 + 1) (f0 : 1 * x1 + ((-1) * x14 + 0) ≤ 0) (f1 : (-1) * x6 + ((-1) * x14 + 0) ≤ (-2011)) (f2 : RB1 (styleKind_0) (limit_0) (tokenKind_0) (tokenValue_0) (tokenPlace_0) (tokenEnd_0) (tape_0) (x14) (x15) (x1)) (f3 : (styleKind_0 = 0) → (styleOne_0 ≤ 23)) (f4 : 1 * opened_0 + 0 ≤ 0) (f5 : (-1) * opened_0 + 0 ≤ 0) (f7 : ((cur_0 + 1) ≤ tokens_0) ∧ ((tokens_0 ≤ 2010) ∧ ((tokenKind_0 ((tokens_0 - 1)) = 0) ∨ (tokenKind_0 ((tokens_0 - 1)) = 4)))) (f8 : 1 * x14 + ((-1) * cur_0 + 0) ≤ 0) (f9 : SND (fault_0) (cur_0) (tokenKind_0) (tokenValue_0) (x13) (x14) (x15)) (f11 : 1 * x1 + ((-1) * x14 + 0) ≤ 0) (f12 : (-1) * x6 + ((-1) * x14 + 0) ≤ (-2011)) (f14 : x12 = x5 + x11) (hK_0_1 : ∀ j : Int, 0 ≤ j → j < 2000 → (-128) ≤ tape_0 j ∧ tape_0 j ≤ 127) (hK_0_160 : ∀ j : Int, 0 ≤ j → j < 2010 → 0 ≤ tokenKind_0 j ∧ tokenKind_0 j ≤ 4) (hK_0_162 : ∀ j : Int, 0 ≤ j → j < 2010 → 0 ≤ tokenPlace_0 j ∧ tokenPlace_0 j ≤ 2000) (hK_0_163 : ∀ j : Int, 0 ≤ j → j < 2010 → 0 ≤ tokenEnd_0 j ∧ tokenEnd_0 j ≤ 2000) (kz_0_8 : 0 ≤ fault_0 ∧ fault_0 ≤ 5) (kz_0_10 : 0 ≤ limit_0 ∧ limit_0 ≤ 2000) (kz_0_157 : 0 ≤ tokens_0 ∧ tokens_0 ≤ 2010) (kz_0_158 : 0 ≤ cur_0 ∧ cur_0 ≤ 2009) (kz_0_159 : 0 ≤ opened_0 ∧ opened_0 ≤ 13) (kz_0_164 : 0 ≤ styleKind_0 ∧ styleKind_0 ≤ 1) (kz_0_165 : (-1) ≤ styleOne_0 ∧ styleOne_0 ≤ 47) (ex2 : gx = cur_0) (ex3 : 0 ≤ gx ∧ gx ≤ 2009) (ey2 : gy = fault_0) (ey3 : 0 ≤ gy ∧ gy ≤ 5) (eu2 : gu = opened_0) (eu3 : 0 ≤ gu ∧ gu ≤ 13) : 1 * opened_0 + 0 ≤ 0 := by
  first | with_reducible assumption | ((have f7_c0 := f7.1); (have f7_c1 := f7.2.1); (have f7_c2 := f7.2.2); (try and_intros) <;> first | with_reducible assumption | (clear f7_c2 f7 hK_0_1 hK_0_160 hK_0_162 hK_0_163 f3; omega)) | ((have f7_c0 := f7.1); (have f7_c1 := f7.2.1); (have f7_c2 := f7.2.2); (first | have f3_b := f3 (by clear f7_c2 f7 hK_0_1 hK_0_160 hK_0_162 hK_0_163 f3; omega) | skip); (first | have f3_d := f3 (by with_reducible assumption) | skip); (try and_intros) <;> first | with_reducible assumption | (clear f7_c2 f7 hK_0_1 hK_0_160 hK_0_162 hK_0_163 f3; omega)) | ((have f7_c0 := f7.1); (have f7_c1 := f7.2.1); (have f7_c2 := f7.2.2); (first | have f3_b := f3 (by clear f7_c2 f7 hK_0_1 hK_0_160 hK_0_162 hK_0_163 f3; omega) | skip); (first | have f3_d := f3 (by with_reducible assumption) | skip); (first | have f7_q := tk_nx0 f7 (by clear f7_c2 f7 hK_0_1 hK_0_160 hK_0_162 hK_0_163 f3; omega) | skip); (try and_intros) <;> first | with_reducible assumption | (clear f7_c2 f7 hK_0_1 hK_0_160 hK_0_162 hK_0_163 f3; omega)) | omega
set_option maxHeartbeats 4000000 in
theorem vc_Mo_rule_at_f0_60_5 (x1 : Int) (x5 : Int) (x6 : Int) (x11 : Int) (x12 : Int) (x13 : Int) (x14 : Int) (x15 : Int) (tokenKind_0 : Int → Int) (tokenValue_0 : Int → Int) (tokenPlace_0 : Int → Int) (tokenEnd_0 : Int → Int) (tape_0 : Int → Int) (styleKind_0 : Int) (limit_0 : Int) (styleOne_0 : Int) (opened_0 : Int) (cur_0 : Int) (tokens_0 : Int) (fault_0 : Int) (gx : Int) (gy : Int) (gu : Int) (k1 : 0 ≤ x1 ∧ x1 ≤ 2009) (k5 : 0 ≤ x5 ∧ x5 ≤ 2009) (k6 : 0 ≤ x6 ∧ x6 ≤ 2010) (k11 : 1 ≤ x11 ∧ x11 ≤ 1) (k12 : 1 ≤ x12 ∧ x12 ≤ 2009) (k13 : 61 ≤ x13 ∧ x13 ≤ 61) (k14 : 0 ≤ x14 ∧ x14 ≤ 2009) (k15 : 0 ≤ x15 ∧ x15 ≤ 5) (d0 : x5 + 1 ≤ x12 ∧ x12 ≤ x5 + 1) (f0 : 1 * x1 + ((-1) * x14 + 0) ≤ 0) (f1 : (-1) * x6 + ((-1) * x14 + 0) ≤ (-2011)) (f2 : RB1 (styleKind_0) (limit_0) (tokenKind_0) (tokenValue_0) (tokenPlace_0) (tokenEnd_0) (tape_0) (x14) (x15) (x1)) (f3 : (styleKind_0 = 0) → (styleOne_0 ≤ 23)) (f4 : 1 * opened_0 + 0 ≤ 0) (f5 : (-1) * opened_0 + 0 ≤ 0) (f7 : ((cur_0 + 1) ≤ tokens_0) ∧ ((tokens_0 ≤ 2010) ∧ ((tokenKind_0 ((tokens_0 - 1)) = 0) ∨ (tokenKind_0 ((tokens_0 - 1)) = 4)))) (f8 : 1 * x14 + ((-1) * cur_0 + 0) ≤ 0) (f9 : SND (fault_0) (cur_0) (tokenKind_0) (tokenValue_0) (x13) (x14) (x15)) (f11 : 1 * x1 + ((-1) * x14 + 0) ≤ 0) (f12 : (-1) * x6 + ((-1) * x14 + 0) ≤ (-2011)) (f14 : x12 = x5 + x11) (hK_0_1 : ∀ j : Int, 0 ≤ j → j < 2000 → (-128) ≤ tape_0 j ∧ tape_0 j ≤ 127) (hK_0_160 : ∀ j : Int, 0 ≤ j → j < 2010 → 0 ≤ tokenKind_0 j ∧ tokenKind_0 j ≤ 4) (hK_0_162 : ∀ j : Int, 0 ≤ j → j < 2010 → 0 ≤ tokenPlace_0 j ∧ tokenPlace_0 j ≤ 2000) (hK_0_163 : ∀ j : Int, 0 ≤ j → j < 2010 → 0 ≤ tokenEnd_0 j ∧ tokenEnd_0 j ≤ 2000) (kz_0_8 : 0 ≤ fault_0 ∧ fault_0 ≤ 5) (kz_0_10 : 0 ≤ limit_0 ∧ limit_0 ≤ 2000) (kz_0_157 : 0 ≤ tokens_0 ∧ tokens_0 ≤ 2010) (kz_0_158 : 0 ≤ cur_0 ∧ cur_0 ≤ 2009) (kz_0_159 : 0 ≤ opened_0 ∧ opened_0 ≤ 13) (kz_0_164 : 0 ≤ styleKind_0 ∧ styleKind_0 ≤ 1) (kz_0_165 : (-1) ≤ styleOne_0 ∧ styleOne_0 ≤ 47) (ex2 : gx = cur_0) (ex3 : 0 ≤ gx ∧ gx ≤ 2009) (ey2 : gy = fault_0) (ey3 : 0 ≤ gy ∧ gy ≤ 5) (eu2 : gu = opened_0) (eu3 : 0 ≤ gu ∧ gu ≤ 13) : (-1) * opened_0 + 0 ≤ 0 := by
  first | with_reducible assumption | ((have f7_c0 := f7.1); (have f7_c1 := f7.2.1); (have f7_c2 := f7.2.2); (try and_intros) <;> first | with_reducible assumption | (clear f7_c2 f7 hK_0_1 hK_0_160 hK_0_162 hK_0_163 f3; omega)) | ((have f7_c0 := f7.1); (have f7_c1 := f7.2.1); (have f7_c2 := f7.2.2); (first | have f3_b := f3 (by clear f7_c2 f7 hK_0_1 hK_0_160 hK_0_162 hK_0_163 f3; omega) | skip); (first | have f3_d := f3 (by with_reducible assumption) | skip); (try and_intros) <;> first | with_reducible assumption | (clear f7_c2 f7 hK_0_1 hK_0_160 hK_0_162 hK_0_163 f3; omega)) | ((have f7_c0 := f7.1); (have f7_c1 := f7.2.1); (have f7_c2 := f7.2.2); (first | have f3_b := f3 (by clear f7_c2 f7 hK_0_1 hK_0_160 hK_0_162 hK_0_163 f3; omega) | skip); (first | have f3_d := f3 (by with_reducible assumption) | skip); (first | have f7_q := tk_nx0 f7 (by clear f7_c2 f7 hK_0_1 hK_0_160 hK_0_162 hK_0_163 f3; omega) | skip); (try and_intros) <;> first | with_reducible assumption | (clear f7_c2 f7 hK_0_1 hK_0_160 hK_0_162 hK_0_163 f3; omega)) | omega
set_option maxHeartbeats 4000000 in
theorem vc_Mo_rule_at_f0_60_6 (x1 : Int) (x5 : Int) (x6 : Int) (x11 : Int) (x12 : Int) (x13 : Int) (x14 : Int) (x15 : Int) (tokenKind_0 : Int → Int) (tokenValue_0 : Int → Int) (tokenPlace_0 : Int → Int) (tokenEnd_0 : Int → Int) (tape_0 : Int → Int) (styleKind_0 : Int) (limit_0 : Int) (styleOne_0 : Int) (opened_0 : Int) (cur_0 : Int) (tokens_0 : Int) (fault_0 : Int) (gx : Int) (gy : Int) (gu : Int) (k1 : 0 ≤ x1 ∧ x1 ≤ 2009) (k5 : 0 ≤ x5 ∧ x5 ≤ 2009) (k6 : 0 ≤ x6 ∧ x6 ≤ 2010) (k11 : 1 ≤ x11 ∧ x11 ≤ 1) (k12 : 1 ≤ x12 ∧ x12 ≤ 2009) (k13 : 61 ≤ x13 ∧ x13 ≤ 61) (k14 : 0 ≤ x14 ∧ x14 ≤ 2009) (k15 : 0 ≤ x15 ∧ x15 ≤ 5) (d0 : x5 + 1 ≤ x12 ∧ x12 ≤ x5 + 1) (f0 : 1 * x1 + ((-1) * x14 + 0) ≤ 0) (f1 : (-1) * x6 + ((-1) * x14 + 0) ≤ (-2011)) (f2 : RB1 (styleKind_0) (limit_0) (tokenKind_0) (tokenValue_0) (tokenPlace_0) (tokenEnd_0) (tape_0) (x14) (x15) (x1)) (f3 : (styleKind_0 = 0) → (styleOne_0 ≤ 23)) (f4 : 1 * opened_0 + 0 ≤ 0) (f5 : (-1) * opened_0 + 0 ≤ 0) (f7 : ((cur_0 + 1) ≤ tokens_0) ∧ ((tokens_0 ≤ 2010) ∧ ((tokenKind_0 ((tokens_0 - 1)) = 0) ∨ (tokenKind_0 ((tokens_0 - 1)) = 4)))) (f8 : 1 * x14 + ((-1) * cur_0 + 0) ≤ 0) (f9 : SND (fault_0) (cur_0) (tokenKind_0) (tokenValue_0) (x13) (x14) (x15)) (f11 : 1 * x1 + ((-1) * x14 + 0) ≤ 0) (f12 : (-1) * x6 + ((-1) * x14 + 0) ≤ (-2011)) (f14 : x12 = x5 + x11) (hK_0_1 : ∀ j : Int, 0 ≤ j → j < 2000 → (-128) ≤ tape_0 j ∧ tape_0 j ≤ 127) (hK_0_160 : ∀ j : Int, 0 ≤ j → j < 2010 → 0 ≤ tokenKind_0 j ∧ tokenKind_0 j ≤ 4) (hK_0_162 : ∀ j : Int, 0 ≤ j → j < 2010 → 0 ≤ tokenPlace_0 j ∧ tokenPlace_0 j ≤ 2000) (hK_0_163 : ∀ j : Int, 0 ≤ j → j < 2010 → 0 ≤ tokenEnd_0 j ∧ tokenEnd_0 j ≤ 2000) (kz_0_8 : 0 ≤ fault_0 ∧ fault_0 ≤ 5) (kz_0_10 : 0 ≤ limit_0 ∧ limit_0 ≤ 2000) (kz_0_157 : 0 ≤ tokens_0 ∧ tokens_0 ≤ 2010) (kz_0_158 : 0 ≤ cur_0 ∧ cur_0 ≤ 2009) (kz_0_159 : 0 ≤ opened_0 ∧ opened_0 ≤ 13) (kz_0_164 : 0 ≤ styleKind_0 ∧ styleKind_0 ≤ 1) (kz_0_165 : (-1) ≤ styleOne_0 ∧ styleOne_0 ≤ 47) (ex2 : gx = cur_0) (ex3 : 0 ≤ gx ∧ gx ≤ 2009) (ey2 : gy = fault_0) (ey3 : 0 ≤ gy ∧ gy ≤ 5) (eu2 : gu = opened_0) (eu3 : 0 ≤ gu ∧ gu ≤ 13) : fault_0 = gy := by
  first | with_reducible assumption | ((have f7_c0 := f7.1); (have f7_c1 := f7.2.1); (have f7_c2 := f7.2.2); (try and_intros) <;> first | with_reducible assumption | (clear f7_c2 f7 hK_0_1 hK_0_160 hK_0_162 hK_0_163 f3; omega)) | ((have f7_c0 := f7.1); (have f7_c1 := f7.2.1); (have f7_c2 := f7.2.2); (first | have f3_b := f3 (by clear f7_c2 f7 hK_0_1 hK_0_160 hK_0_162 hK_0_163 f3; omega) | skip); (first | have f3_d := f3 (by with_reducible assumption) | skip); (try and_intros) <;> first | with_reducible assumption | (clear f7_c2 f7 hK_0_1 hK_0_160 hK_0_162 hK_0_163 f3; omega)) | ((have f7_c0 := f7.1); (have f7_c1 := f7.2.1); (have f7_c2 := f7.2.2); (first | have f3_b := f3 (by clear f7_c2 f7 hK_0_1 hK_0_160 hK_0_162 hK_0_163 f3; omega) | skip); (first | have f3_d := f3 (by with_reducible assumption) | skip); (first | have f7_q := tk_nx0 f7 (by clear f7_c2 f7 hK_0_1 hK_0_160 hK_0_162 hK_0_163 f3; omega) | skip); (try and_intros) <;> first | with_reducible assumption | (clear f7_c2 f7 hK_0_1 hK_0_160 hK_0_162 hK_0_163 f3; omega)) | omega
set_option maxHeartbeats 4000000 in
theorem vc_Mo_rule_at_f0_60_7 (x1 : Int) (x5 : Int) (x6 : Int) (x11 : Int) (x12 : Int) (x13 : Int) (x14 : Int) (x15 : Int) (tokenKind_0 : Int → Int) (tokenValue_0 : Int → Int) (tokenPlace_0 : Int → Int) (tokenEnd_0 : Int → Int) (tape_0 : Int → Int) (styleKind_0 : Int) (limit_0 : Int) (styleOne_0 : Int) (opened_0 : Int) (cur_0 : Int) (tokens_0 : Int) (fault_0 : Int) (gx : Int) (gy : Int) (gu : Int) (k1 : 0 ≤ x1 ∧ x1 ≤ 2009) (k5 : 0 ≤ x5 ∧ x5 ≤ 2009) (k6 : 0 ≤ x6 ∧ x6 ≤ 2010) (k11 : 1 ≤ x11 ∧ x11 ≤ 1) (k12 : 1 ≤ x12 ∧ x12 ≤ 2009) (k13 : 61 ≤ x13 ∧ x13 ≤ 61) (k14 : 0 ≤ x14 ∧ x14 ≤ 2009) (k15 : 0 ≤ x15 ∧ x15 ≤ 5) (d0 : x5 + 1 ≤ x12 ∧ x12 ≤ x5 + 1) (f0 : 1 * x1 + ((-1) * x14 + 0) ≤ 0) (f1 : (-1) * x6 + ((-1) * x14 + 0) ≤ (-2011)) (f2 : RB1 (styleKind_0) (limit_0) (tokenKind_0) (tokenValue_0) (tokenPlace_0) (tokenEnd_0) (tape_0) (x14) (x15) (x1)) (f3 : (styleKind_0 = 0) → (styleOne_0 ≤ 23)) (f4 : 1 * opened_0 + 0 ≤ 0) (f5 : (-1) * opened_0 + 0 ≤ 0) (f7 : ((cur_0 + 1) ≤ tokens_0) ∧ ((tokens_0 ≤ 2010) ∧ ((tokenKind_0 ((tokens_0 - 1)) = 0) ∨ (tokenKind_0 ((tokens_0 - 1)) = 4)))) (f8 : 1 * x14 + ((-1) * cur_0 + 0) ≤ 0) (f9 : SND (fault_0) (cur_0) (tokenKind_0) (tokenValue_0) (x13) (x14) (x15)) (f11 : 1 * x1 + ((-1) * x14 + 0) ≤ 0) (f12 : (-1) * x6 + ((-1) * x14 + 0) ≤ (-2011)) (f14 : x12 = x5 + x11) (hK_0_1 : ∀ j : Int, 0 ≤ j → j < 2000 → (-128) ≤ tape_0 j ∧ tape_0 j ≤ 127) (hK_0_160 : ∀ j : Int, 0 ≤ j → j < 2010 → 0 ≤ tokenKind_0 j ∧ tokenKind_0 j ≤ 4) (hK_0_162 : ∀ j : Int, 0 ≤ j → j < 2010 → 0 ≤ tokenPlace_0 j ∧ tokenPlace_0 j ≤ 2000) (hK_0_163 : ∀ j : Int, 0 ≤ j → j < 2010 → 0 ≤ tokenEnd_0 j ∧ tokenEnd_0 j ≤ 2000) (kz_0_8 : 0 ≤ fault_0 ∧ fault_0 ≤ 5) (kz_0_10 : 0 ≤ limit_0 ∧ limit_0 ≤ 2000) (kz_0_157 : 0 ≤ tokens_0 ∧ tokens_0 ≤ 2010) (kz_0_158 : 0 ≤ cur_0 ∧ cur_0 ≤ 2009) (kz_0_159 : 0 ≤ opened_0 ∧ opened_0 ≤ 13) (kz_0_164 : 0 ≤ styleKind_0 ∧ styleKind_0 ≤ 1) (kz_0_165 : (-1) ≤ styleOne_0 ∧ styleOne_0 ≤ 47) (ex2 : gx = cur_0) (ex3 : 0 ≤ gx ∧ gx ≤ 2009) (ey2 : gy = fault_0) (ey3 : 0 ≤ gy ∧ gy ≤ 5) (eu2 : gu = opened_0) (eu3 : 0 ≤ gu ∧ gu ≤ 13) : opened_0 = gu := by
  first | with_reducible assumption | ((have f7_c0 := f7.1); (have f7_c1 := f7.2.1); (have f7_c2 := f7.2.2); (try and_intros) <;> first | with_reducible assumption | (clear f7_c2 f7 hK_0_1 hK_0_160 hK_0_162 hK_0_163 f3; omega)) | ((have f7_c0 := f7.1); (have f7_c1 := f7.2.1); (have f7_c2 := f7.2.2); (first | have f3_b := f3 (by clear f7_c2 f7 hK_0_1 hK_0_160 hK_0_162 hK_0_163 f3; omega) | skip); (first | have f3_d := f3 (by with_reducible assumption) | skip); (try and_intros) <;> first | with_reducible assumption | (clear f7_c2 f7 hK_0_1 hK_0_160 hK_0_162 hK_0_163 f3; omega)) | ((have f7_c0 := f7.1); (have f7_c1 := f7.2.1); (have f7_c2 := f7.2.2); (first | have f3_b := f3 (by clear f7_c2 f7 hK_0_1 hK_0_160 hK_0_162 hK_0_163 f3; omega) | skip); (first | have f3_d := f3 (by with_reducible assumption) | skip); (first | have f7_q := tk_nx0 f7 (by clear f7_c2 f7 hK_0_1 hK_0_160 hK_0_162 hK_0_163 f3; omega) | skip); (try and_intros) <;> first | with_reducible assumption | (clear f7_c2 f7 hK_0_1 hK_0_160 hK_0_162 hK_0_163 f3; omega)) | omega
set_option maxHeartbeats 4000000 in
theorem vc_Mo_rule_at_f0_60_8 (x1 : Int) (x5 : Int) (x6 : Int) (x11 : Int) (x12 : Int) (x13 : Int) (x14 : Int) (x15 : Int) (tokenKind_0 : Int → Int) (tokenValue_0 : Int → Int) (tokenPlace_0 : Int → Int) (tokenEnd_0 : Int → Int) (tape_0 : Int → Int) (styleKind_0 : Int) (limit_0 : Int) (styleOne_0 : Int) (opened_0 : Int) (cur_0 : Int) (tokens_0 : Int) (fault_0 : Int) (gx : Int) (gy : Int) (gu : Int) (k1 : 0 ≤ x1 ∧ x1 ≤ 2009) (k5 : 0 ≤ x5 ∧ x5 ≤ 2009) (k6 : 0 ≤ x6 ∧ x6 ≤ 2010) (k11 : 1 ≤ x11 ∧ x11 ≤ 1) (k12 : 1 ≤ x12 ∧ x12 ≤ 2009) (k13 : 61 ≤ x13 ∧ x13 ≤ 61) (k14 : 0 ≤ x14 ∧ x14 ≤ 2009) (k15 : 0 ≤ x15 ∧ x15 ≤ 5) (d0 : x5 + 1 ≤ x12 ∧ x12 ≤ x5 + 1) (f0 : 1 * x1 + ((-1) * x14 + 0) ≤ 0) (f1 : (-1) * x6 + ((-1) * x14 + 0) ≤ (-2011)) (f2 : RB1 (styleKind_0) (limit_0) (tokenKind_0) (tokenValue_0) (tokenPlace_0) (tokenEnd_0) (tape_0) (x14) (x15) (x1)) (f3 : (styleKind_0 = 0) → (styleOne_0 ≤ 23)) (f4 : 1 * opened_0 + 0 ≤ 0) (f5 : (-1) * opened_0 + 0 ≤ 0) (f7 : ((cur_0 + 1) ≤ tokens_0) ∧ ((tokens_0 ≤ 2010) ∧ ((tokenKind_0 ((tokens_0 - 1)) = 0) ∨ (tokenKind_0 ((tokens_0 - 1)) = 4)))) (f8 : 1 * x14 + ((-1) * cur_0 + 0) ≤ 0) (f9 : SND (fault_0) (cur_0) (tokenKind_0) (tokenValue_0) (x13) (x14) (x15)) (f11 : 1 * x1 + ((-1) * x14 + 0) ≤ 0) (f12 : (-1) * x6 + ((-1) * x14 + 0) ≤ (-2011)) (f14 : x12 = x5 + x11) (hK_0_1 : ∀ j : Int, 0 ≤ j → j < 2000 → (-128) ≤ tape_0 j ∧ tape_0 j ≤ 127) (hK_0_160 : ∀ j : Int, 0 ≤ j → j < 2010 → 0 ≤ tokenKind_0 j ∧ tokenKind_0 j ≤ 4) (hK_0_162 : ∀ j : Int, 0 ≤ j → j < 2010 → 0 ≤ tokenPlace_0 j ∧ tokenPlace_0 j ≤ 2000) (hK_0_163 : ∀ j : Int, 0 ≤ j → j < 2010 → 0 ≤ tokenEnd_0 j ∧ tokenEnd_0 j ≤ 2000) (kz_0_8 : 0 ≤ fault_0 ∧ fault_0 ≤ 5) (kz_0_10 : 0 ≤ limit_0 ∧ limit_0 ≤ 2000) (kz_0_157 : 0 ≤ tokens_0 ∧ tokens_0 ≤ 2010) (kz_0_158 : 0 ≤ cur_0 ∧ cur_0 ≤ 2009) (kz_0_159 : 0 ≤ opened_0 ∧ opened_0 ≤ 13) (kz_0_164 : 0 ≤ styleKind_0 ∧ styleKind_0 ≤ 1) (kz_0_165 : (-1) ≤ styleOne_0 ∧ styleOne_0 ≤ 47) (ex2 : gx = cur_0) (ex3 : 0 ≤ gx ∧ gx ≤ 2009) (ey2 : gy = fault_0) (ey3 : 0 ≤ gy ∧ gy ≤ 5) (eu2 : gu = opened_0) (eu3 : 0 ≤ gu ∧ gu ≤ 13) : 1 * x1 + ((-1) * gx + 0) ≤ 0 := by
  first | with_reducible assumption | ((have f7_c0 := f7.1); (have f7_c1 := f7.2.1); (have f7_c2 := f7.2.2); (try and_intros) <;> first | with_reducible assumption | (clear f7_c2 f7 hK_0_1 hK_0_160 hK_0_162 hK_0_163 f3; omega)) | ((have f7_c0 := f7.1); (have f7_c1 := f7.2.1); (have f7_c2 := f7.2.2); (first | have f3_b := f3 (by clear f7_c2 f7 hK_0_1 hK_0_160 hK_0_162 hK_0_163 f3; omega) | skip); (first | have f3_d := f3 (by with_reducible assumption) | skip); (try and_intros) <;> first | with_reducible assumption | (clear f7_c2 f7 hK_0_1 hK_0_160 hK_0_162 hK_0_163 f3; omega)) | ((have f7_c0 := f7.1); (have f7_c1 := f7.2.1); (have f7_c2 := f7.2.2); (first | have f3_b := f3 (by clear f7_c2 f7 hK_0_1 hK_0_160 hK_0_162 hK_0_163 f3; omega) | skip); (first | have f3_d := f3 (by with_reducible assumption) | skip); (first | have f7_q := tk_nx0 f7 (by clear f7_c2 f7 hK_0_1 hK_0_160 hK_0_162 hK_0_163 f3; omega) | skip); (try and_intros) <;> first | with_reducible assumption | (clear f7_c2 f7 hK_0_1 hK_0_160 hK_0_162 hK_0_163 f3; omega)) | omega
set_option maxHeartbeats 4000000 in
theorem vc_Mo_rule_at_f0_60_9 (x1 : Int) (x5 : Int) (x6 : Int) (x11 : Int) (x12 : Int) (x13 : Int) (x14 : Int) (x15 : Int) (tokenKind_0 : Int → Int) (tokenValue_0 : Int → Int) (tokenPlace_0 : Int → Int) (tokenEnd_0 : Int → Int) (tape_0 : Int → Int) (styleKind_0 : Int) (limit_0 : Int) (styleOne_0 : Int) (opened_0 : Int) (cur_0 : Int) (tokens_0 : Int) (fault_0 : Int) (gx : Int) (gy : Int) (gu : Int) (k1 : 0 ≤ x1 ∧ x1 ≤ 2009) (k5 : 0 ≤ x5 ∧ x5 ≤ 2009) (k6 : 0 ≤ x6 ∧ x6 ≤ 2010) (k11 : 1 ≤ x11 ∧ x11 ≤ 1) (k12 : 1 ≤ x12 ∧ x12 ≤ 2009) (k13 : 61 ≤ x13 ∧ x13 ≤ 61) (k14 : 0 ≤ x14 ∧ x14 ≤ 2009) (k15 : 0 ≤ x15 ∧ x15 ≤ 5) (d0 : x5 + 1 ≤ x12 ∧ x12 ≤ x5 + 1) (f0 : 1 * x1 + ((-1) * x14 + 0) ≤ 0) (f1 : (-1) * x6 + ((-1) * x14 + 0) ≤ (-2011)) (f2 : RB1 (styleKind_0) (limit_0) (tokenKind_0) (tokenValue_0) (tokenPlace_0) (tokenEnd_0) (tape_0) (x14) (x15) (x1)) (f3 : (styleKind_0 = 0) → (styleOne_0 ≤ 23)) (f4 : 1 * opened_0 + 0 ≤ 0) (f5 : (-1) * opened_0 + 0 ≤ 0) (f7 : ((cur_0 + 1) ≤ tokens_0) ∧ ((tokens_0 ≤ 2010) ∧ ((tokenKind_0 ((tokens_0 - 1)) = 0) ∨ (tokenKind_0 ((tokens_0 - 1)) = 4)))) (f8 : 1 * x14 + ((-1) * cur_0 + 0) ≤ 0) (f9 : SND (fault_0) (cur_0) (tokenKind_0) (tokenValue_0) (x13) (x14) (x15)) (f11 : 1 * x1 + ((-1) * x14 + 0) ≤ 0) (f12 : (-1) * x6 + ((-1) * x14 + 0) ≤ (-2011)) (f14 : x12 = x5 + x11) (hK_0_1 : ∀ j : Int, 0 ≤ j → j < 2000 → (-128) ≤ tape_0 j ∧ tape_0 j ≤ 127) (hK_0_160 : ∀ j : Int, 0 ≤ j → j < 2010 → 0 ≤ tokenKind_0 j ∧ tokenKind_0 j ≤ 4) (hK_0_162 : ∀ j : Int, 0 ≤ j → j < 2010 → 0 ≤ tokenPlace_0 j ∧ tokenPlace_0 j ≤ 2000) (hK_0_163 : ∀ j : Int, 0 ≤ j → j < 2010 → 0 ≤ tokenEnd_0 j ∧ tokenEnd_0 j ≤ 2000) (kz_0_8 : 0 ≤ fault_0 ∧ fault_0 ≤ 5) (kz_0_10 : 0 ≤ limit_0 ∧ limit_0 ≤ 2000) (kz_0_157 : 0 ≤ tokens_0 ∧ tokens_0 ≤ 2010) (kz_0_158 : 0 ≤ cur_0 ∧ cur_0 ≤ 2009) (kz_0_159 : 0 ≤ opened_0 ∧ opened_0 ≤ 13) (kz_0_164 : 0 ≤ styleKind_0 ∧ styleKind_0 ≤ 1) (kz_0_165 : (-1) ≤ styleOne_0 ∧ styleOne_0 ≤ 47) (ex2 : gx = cur_0) (ex3 : 0 ≤ gx ∧ gx ≤ 2009) (ey2 : gy = fault_0) (ey3 : 0 ≤ gy ∧ gy ≤ 5) (eu2 : gu = opened_0) (eu3 : 0 ≤ gu ∧ gu ≤ 13) : (-1) * x6 + ((-1) * gx + 0) ≤ (-2011) := by
  first | with_reducible assumption | ((have f7_c0 := f7.1); (have f7_c1 := f7.2.1); (have f7_c2 := f7.2.2); (try and_intros) <;> first | with_reducible assumption | (clear f7_c2 f7 hK_0_1 hK_0_160 hK_0_162 hK_0_163 f3; omega)) | ((have f7_c0 := f7.1); (have f7_c1 := f7.2.1); (have f7_c2 := f7.2.2); (first | have f3_b := f3 (by clear f7_c2 f7 hK_0_1 hK_0_160 hK_0_162 hK_0_163 f3; omega) | skip); (first | have f3_d := f3 (by with_reducible assumption) | skip); (try and_intros) <;> first | with_reducible assumption | (clear f7_c2 f7 hK_0_1 hK_0_160 hK_0_162 hK_0_163 f3; omega)) | ((have f7_c0 := f7.1); (have f7_c1 := f7.2.1); (have f7_c2 := f7.2.2); (first | have f3_b := f3 (by clear f7_c2 f7 hK_0_1 hK_0_160 hK_0_162 hK_0_163 f3; omega) | skip); (first | have f3_d := f3 (by with_reducible assumption) | skip); (first | have f7_q := tk_nx0 f7 (by clear f7_c2 f7 hK_0_1 hK_0_160 hK_0_162 hK_0_163 f3; omega) | skip); (try and_intros) <;> first | with_reducible assumption | (clear f7_c2 f7 hK_0_1 hK_0_160 hK_0_162 hK_0_163 f3; omega)) | omega
set_option maxHeartbeats 4000000 in
theorem vc_Mo_rule_at_f0_60_10 (x1 : Int) (x5 : Int) (x6 : Int) (x11 : Int) (x12 : Int) (x13 : Int) (x14 : Int) (x15 : Int) (tokenKind_0 : Int → Int) (tokenValue_0 : Int → Int) (tokenPlace_0 : Int → Int) (tokenEnd_0 : Int → Int) (tape_0 : Int → Int) (styleKind_0 : Int) (limit_0 : Int) (styleOne_0 : Int) (opened_0 : Int) (cur_0 : Int) (tokens_0 : Int) (fault_0 : Int) (gx : Int) (gy : Int) (gu : Int) (k1 : 0 ≤ x1 ∧ x1 ≤ 2009) (k5 : 0 ≤ x5 ∧ x5 ≤ 2009) (k6 : 0 ≤ x6 ∧ x6 ≤ 2010) (k11 : 1 ≤ x11 ∧ x11 ≤ 1) (k12 : 1 ≤ x12 ∧ x12 ≤ 2009) (k13 : 61 ≤ x13 ∧ x13 ≤ 61) (k14 : 0 ≤ x14 ∧ x14 ≤ 2009) (k15 : 0 ≤ x15 ∧ x15 ≤ 5) (d0 : x5 + 1 ≤ x12 ∧ x12 ≤ x5 + 1) (f0 : 1 * x1 + ((-1) * x14 + 0) ≤ 0) (f1 : (-1) * x6 + ((-1) * x14 + 0) ≤ (-2011)) (f2 : RB1 (styleKind_0) (limit_0) (tokenKind_0) (tokenValue_0) (tokenPlace_0) (tokenEnd_0) (tape_0) (x14) (x15) (x1)) (f3 : (styleKind_0 = 0) → (styleOne_0 ≤ 23)) (f4 : 1 * opened_0 + 0 ≤ 0) (f5 : (-1) * opened_0 + 0 ≤ 0) (f7 : ((cur_0 + 1) ≤ tokens_0) ∧ ((tokens_0 ≤ 2010) ∧ ((tokenKind_0 ((tokens_0 - 1)) = 0) ∨ (tokenKind_0 ((tokens_0 - 1)) = 4)))) (f8 : 1 * x14 + ((-1) * cur_0 + 0) ≤ 0) (f9 : SND (fault_0) (cur_0) (tokenKind_0) (tokenValue_0) (x13) (x14) (x15)) (f11 : 1 * x1 + ((-1) * x14 + 0) ≤ 0) (f12 : (-1) * x6 + ((-1) * x14 + 0) ≤ (-2011)) (f14 : x12 = x5 + x11) (hK_0_1 : ∀ j : Int, 0 ≤ j → j < 2000 → (-128) ≤ tape_0 j ∧ tape_0 j ≤ 127) (hK_0_160 : ∀ j : Int, 0 ≤ j → j < 2010 → 0 ≤ tokenKind_0 j ∧ tokenKind_0 j ≤ 4) (hK_0_162 : ∀ j : Int, 0 ≤ j → j < 2010 → 0 ≤ tokenPlace_0 j ∧ tokenPlace_0 j ≤ 2000) (hK_0_163 : ∀ j : Int, 0 ≤ j → j < 2010 → 0 ≤ tokenEnd_0 j ∧ tokenEnd_0 j ≤ 2000) (kz_0_8 : 0 ≤ fault_0 ∧ fault_0 ≤ 5) (kz_0_10 : 0 ≤ limit_0 ∧ limit_0 ≤ 2000) (kz_0_157 : 0 ≤ tokens_0 ∧ tokens_0 ≤ 2010) (kz_0_158 : 0 ≤ cur_0 ∧ cur_0 ≤ 2009) (kz_0_159 : 0 ≤ opened_0 ∧ opened_0 ≤ 13) (kz_0_164 : 0 ≤ styleKind_0 ∧ styleKind_0 ≤ 1) (kz_0_165 : (-1) ≤ styleOne_0 ∧ styleOne_0 ≤ 47) (ex2 : gx = cur_0) (ex3 : 0 ≤ gx ∧ gx ≤ 2009) (ey2 : gy = fault_0) (ey3 : 0 ≤ gy ∧ gy ≤ 5) (eu2 : gu = opened_0) (eu3 : 0 ≤ gu ∧ gu ≤ 13) : RB2 (styleKind_0) (limit_0) (tokenKind_0) (tokenValue_0) (tokenPlace_0) (tokenEnd_0) (tape_0) (gx) (gy) (gu) (x1) := by
  first
    | exact rb1_go (‹RB1 _ _ _ _ _ _ _ _ _ _›) (‹SND _ _ _ _ _ _ _›) (by omega) (by omega) (by omega) (by omega) (by omega)
  
def o_Mo_rule_at_f0_60 : or_T := (193, 16, [(0, (2, 0, 0, [165])), (1, (0, 0, 2009, [])), (5, (0, 0, 2009, [])), (6, (0, 0, 2010, [])), (11, (0, 1, 1, [])), (12, (0, 1, 2009, [])), (13, (0, 61, 61, [])), (14, (0, 0, 2009, [])), (15, (0, 0, 5, []))], [(23, [1, 14], [0, 1, -1]), (23, [6, 14], [-2011, -1, -1]), (20, [2, 14, 15, 1], [60, 2, 5, 62, 164, 10, 160, 161, 162, 163, 1]), (20, [2], [50, 2, 0, 164, 165, 4, 7, 1, 3, 2, 0, 164, 0, 0, 0, 3, 2, 0, 165, 0, 23]), (20, [2], [30, 0, 1, 1, 159]), (20, [2], [30, 0, -1, 1, 159]), (24, [0, 2], []), (20, [2], [50, 2, 1, 158, 157, 160, 2, 12, 0, 7, 4, 3, 2, 0, 158, 0, 1, 2, 0, 157, 2, 7, 0, 3, 2, 0, 157, 0, 2010, 3, 14, 1, 10, 3, 0, 160, 5, 3, 2, 0, 157, 0, 1, 0, 0, 1, 10, 3, 0, 160, 5, 3, 2, 0, 157, 0, 1, 0, 4]), (20, [14, 2], [30, 0, 1, 0, 0, -1, 1, 158]), (20, [2, 13, 14, 15], [60, 2, 2, 15, 8, 158, 160, 161]), (102, [15], [0, 165008, 165009, 165158]), (23, [1, 14], [0, 1, -1]), (23, [6, 14], [-2011, -1, -1]), (101, [2, 12], [158]), (1, [12, 5, 11], [])], [], [(0, 0, 2009, []), (0, 0, 5, []), (0, 0, 13, [])], [(20, [2], [50, 2, 1, 158, 157, 160, 2, 12, 0, 7, 4, 3, 2, 0, 158, 0, 1, 2, 0, 157, 2, 7, 0, 3, 2, 0, 157, 0, 2010, 3, 14, 1, 10, 3, 0, 160, 5, 3, 2, 0, 157, 0, 1, 0, 0, 1, 10, 3, 0, 160, 5, 3, 2, 0, 157, 0, 1, 0, 4]), (20, [2, 16], [30, 0, 1, 1, 158, -1, 0, 0]), (20, [2, 16], [30, 0, -1, 1, 158, 1, 0, 0]), (20, [2], [50, 2, 0, 164, 165, 4, 7, 1, 3, 2, 0, 164, 0, 0, 0, 3, 2, 0, 165, 0, 23]), (20, [2], [30, 0, 1, 1, 159]), (20, [2], [30, 0, -1, 1, 159]), (20, [2, 17], [50, 1, 0, 8, 1, 3, 2, 0, 8, 1, 1]), (20, [2, 18], [50, 1, 0, 159, 1, 3, 2, 0, 159, 1, 1]), (23, [1, 16], [0, 1, -1]), (23, [6, 16], [-2011, -1, -1]), (20, [2, 16, 17, 18, 1], [60, 2, 5, 60, 164, 10, 160, 161, 162, 163, 1])], [], [(12, 5, 1, 1)])
theorem oo_Mo_rule_at_f0_60 {kA : Nat → ClassId} : or_ok PRD kA GG o_Mo_rule_at_f0_60 := by
  refine or_mk fun A ta ws vs hD hth hl => ?_
  intro t0 r0 t1 k1 t5 k5 t6 k6 t11 k11 t12 k12 t13 k13 t14 k14 t15 k15 d0 f0 f1 f2 f3 f4 f5 f6 f7 f8 f9 ta1 w1 le1 s1 f11 f12 ta2 w2 le2 s2 f14
  replace f0 := shm_7 f0
  replace f1 := shm_290 f1
  replace f2 := shm_2270 f2
  replace f3 := shm_274 f3
  replace f4 := shm_1029 f4
  replace f5 := shm_1030 f5
  replace f6 := shm_5 f6
  replace f7 := shm_271 f7
  replace f8 := shm_281 f8
  replace f9 := shm_318 f9
  replace f11 := shm_7 f11
  replace f12 := shm_290 f12
  replace f14 := shm_12 f14
  have q2 : n_v vs 2 = n_v vs 0 := f6.symm
  simp only [q2] at f2 f3 f4 f5 f7 f8 f9
  have cr_0_1 := fdq_39 hD hth r0
  have cr_0_160 := fdq_33 hD hth r0
  have cr_0_162 := fdq_41 hD hth r0
  have cr_0_163 := fdq_42 hD hth r0
  have hK_0_1 := elq_7 hD hth cr_0_1
  have hK_0_160 := elq_6 hD hth cr_0_160
  have hK_0_162 := elq_8 hD hth cr_0_162
  have hK_0_163 := elq_9 hD hth cr_0_163
  have kz_0_8 := fdq_34 hD hth r0
  have kz_0_10 := fdq_43 hD hth r0
  have kz_0_157 := fdq_35 hD hth r0
  have kz_0_158 := fdq_36 hD hth r0
  have kz_0_159 := fdq_37 hD hth r0
  have kz_0_164 := fdq_38 hD hth r0
  have kz_0_165 := fdq_27 hD hth r0
  obtain ⟨x, ex, hx⟩ := iv_ex (ta := ta) (lo := 0) (hi := 2009) (z := w_fi ws (n_v vs 0) 158) (by omega) (by omega) (by omega) (by omega)
  have ex2 : v_iv (Value.int x) = w_fi ws (n_v vs 0) 158 := ex
  have ex3 : 0 ≤ v_iv (Value.int x) ∧ v_iv (Value.int x) ≤ 2009 := tv_rng hx
  obtain ⟨y, ey, hy⟩ := iv_ex (ta := ta) (lo := 0) (hi := 5) (z := w_fi ws (n_v vs 0) 8) (by omega) (by omega) (by omega) (by omega)
  have ey2 : v_iv (Value.int y) = w_fi ws (n_v vs 0) 8 := ey
  have ey3 : 0 ≤ v_iv (Value.int y) ∧ v_iv (Value.int y) ≤ 5 := tv_rng hy
  obtain ⟨u, eu, hu⟩ := iv_ex (ta := ta) (lo := 0) (hi := 13) (z := w_fi ws (n_v vs 0) 159) (by omega) (by omega) (by omega) (by omega)
  have eu2 : v_iv (Value.int u) = w_fi ws (n_v vs 0) 159 := eu
  have eu3 : 0 ≤ v_iv (Value.int u) ∧ v_iv (Value.int u) ≤ 13 := tv_rng hu
  have e_1 : n_v (vs ++ [Value.int x, Value.int y, Value.int u]) 1 = n_v vs 1 := n_v_old (by rw [hl]; decide)
  have e_2 : n_v (vs ++ [Value.int x, Value.int y, Value.int u]) 2 = n_v vs 2 := n_v_old (by rw [hl]; decide)
  have e_6 : n_v (vs ++ [Value.int x, Value.int y, Value.int u]) 6 = n_v vs 6 := n_v_old (by rw [hl]; decide)
  have e_16 : n_v (vs ++ [Value.int x, Value.int y, Value.int u]) 16 = Value.int x := n_v_newk (k := 0) hl rfl
  have e_17 : n_v (vs ++ [Value.int x, Value.int y, Value.int u]) 17 = Value.int y := n_v_newk (k := 1) hl rfl
  have e_18 : n_v (vs ++ [Value.int x, Value.int y, Value.int u]) 18 = Value.int u := n_v_newk (k := 2) hl rfl
  have nf0 : fc_1 PRD (20, [2], [50, 2, 1, 158, 157, 160, 2, 12, 0, 7, 4, 3, 2, 0, 158, 0, 1, 2, 0, 157, 2, 7, 0, 3, 2, 0, 157, 0, 2010, 3, 14, 1, 10, 3, 0, 160, 5, 3, 2, 0, 157, 0, 1, 0, 0, 1, 10, 3, 0, 160, 5, 3, 2, 0, 157, 0, 1, 0, 4]) ws (vs ++ [Value.int x, Value.int y, Value.int u]) := by
    refine ⟨nf_inA hl rfl, sgq_271 ?_⟩
    · show ((w_fi ws (n_v (vs ++ [Value.int x, Value.int y, Value.int u]) 2) 158 + 1) ≤ w_fi ws (n_v (vs ++ [Value.int x, Value.int y, Value.int u]) 2) 157) ∧ ((w_fi ws (n_v (vs ++ [Value.int x, Value.int y, Value.int u]) 2) 157 ≤ 2010) ∧ ((w_ei ws (w_ar ws (n_v (vs ++ [Value.int x, Value.int y, Value.int u]) 2) 160) ((w_fi ws (n_v (vs ++ [Value.int x, Value.int y, Value.int u]) 2) 157 - 1)) = 0) ∨ (w_ei ws (w_ar ws (n_v (vs ++ [Value.int x, Value.int y, Value.int u]) 2) 160) ((w_fi ws (n_v (vs ++ [Value.int x, Value.int y, Value.int u]) 2) 157 - 1)) = 4)))
      simp only [e_2, q2]
      exact vc_Mo_rule_at_f0_60_0 (v_iv (n_v vs 1)) (v_iv (n_v vs 5)) (v_iv (n_v vs 6)) (v_iv (n_v vs 11)) (v_iv (n_v vs 12)) (v_iv (n_v vs 13)) (v_iv (n_v vs 14)) (v_iv (n_v vs 15)) (w_ei ws (w_ar ws (n_v vs 0) 160)) (w_ei ws (w_ar ws (n_v vs 0) 161)) (w_ei ws (w_ar ws (n_v vs 0) 162)) (w_ei ws (w_ar ws (n_v vs 0) 163)) (w_ei ws (w_ar ws (n_v vs 0) 1)) (w_fi ws (n_v vs 0) 164) (w_fi ws (n_v vs 0) 10) (w_fi ws (n_v vs 0) 165) (w_fi ws (n_v vs 0) 159) (w_fi ws (n_v vs 0) 158) (w_fi ws (n_v vs 0) 157) (w_fi ws (n_v vs 0) 8) (v_iv (Value.int x)) (v_iv (Value.int y)) (v_iv (Value.int u)) k1 k5 k6 k11 k12 k13 k14 k15 d0 f0 f1 f2 f3 f4 f5 f7 f8 f9 f11 f12 f14 hK_0_1 hK_0_160 hK_0_162 hK_0_163 kz_0_8 kz_0_10 kz_0_157 kz_0_158 kz_0_159 kz_0_164 kz_0_165 ex2 ex3 ey2 ey3 eu2 eu3
  have nf1 : fc_1 PRD (20, [2, 16], [30, 0, 1, 1, 158, -1, 0, 0]) ws (vs ++ [Value.int x, Value.int y, Value.int u]) := by
    refine ⟨nf_inA hl rfl, sgq_272 ?_⟩
    · show 1 * w_fi ws (n_v (vs ++ [Value.int x, Value.int y, Value.int u]) 2) 158 + ((-1) * v_iv (n_v (vs ++ [Value.int x, Value.int y, Value.int u]) 16) + 0) ≤ 0
      simp only [e_2, e_16, q2]
      exact vc_Mo_rule_at_f0_60_1 (v_iv (n_v vs 1)) (v_iv (n_v vs 5)) (v_iv (n_v vs 6)) (v_iv (n_v vs 11)) (v_iv (n_v vs 12)) (v_iv (n_v vs 13)) (v_iv (n_v vs 14)) (v_iv (n_v vs 15)) (w_ei ws (w_ar ws (n_v vs 0) 160)) (w_ei ws (w_ar ws (n_v vs 0) 161)) (w_ei ws (w_ar ws (n_v vs 0) 162)) (w_ei ws (w_ar ws (n_v vs 0) 163)) (w_ei ws (w_ar ws (n_v vs 0) 1)) (w_fi ws (n_v vs 0) 164) (w_fi ws (n_v vs 0) 10) (w_fi ws (n_v vs 0) 165) (w_fi ws (n_v vs 0) 159) (w_fi ws (n_v vs 0) 158) (w_fi ws (n_v vs 0) 157) (w_fi ws (n_v vs 0) 8) (v_iv (Value.int x)) (v_iv (Value.int y)) (v_iv (Value.int u)) k1 k5 k6 k11 k12 k13 k14 k15 d0 f0 f1 f2 f3 f4 f5 f7 f8 f9 f11 f12 f14 hK_0_1 hK_0_160 hK_0_162 hK_0_163 kz_0_8 kz_0_10 kz_0_157 kz_0_158 kz_0_159 kz_0_164 kz_0_165 ex2 ex3 ey2 ey3 eu2 eu3
  have nf2 : fc_1 PRD (20, [2, 16], [30, 0, -1, 1, 158, 1, 0, 0]) ws (vs ++ [Value.int x, Value.int y, Value.int u]) := by
    refine ⟨nf_inA hl rfl, sgq_273 ?_⟩
    · show (-1) * w_fi ws (n_v (vs ++ [Value.int x, Value.int y, Value.int u]) 2) 158 + (1 * v_iv (n_v (vs ++ [Value.int x, Value.int y, Value.int u]) 16) + 0) ≤ 0
      simp only [e_2, e_16, q2]
      exact vc_Mo_rule_at_f0_60_2 (v_iv (n_v vs 1)) (v_iv (n_v vs 5)) (v_iv (n_v vs 6)) (v_iv (n_v vs 11)) (v_iv (n_v vs 12)) (v_iv (n_v vs 13)) (v_iv (n_v vs 14)) (v_iv (n_v vs 15)) (w_ei ws (w_ar ws (n_v vs 0) 160)) (w_ei ws (w_ar ws (n_v vs 0) 161)) (w_ei ws (w_ar ws (n_v vs 0) 162)) (w_ei ws (w_ar ws (n_v vs 0) 163)) (w_ei ws (w_ar ws (n_v vs 0) 1)) (w_fi ws (n_v vs 0) 164) (w_fi ws (n_v vs 0) 10) (w_fi ws (n_v vs 0) 165) (w_fi ws (n_v vs 0) 159) (w_fi ws (n_v vs 0) 158) (w_fi ws (n_v vs 0) 157) (w_fi ws (n_v vs 0) 8) (v_iv (Value.int x)) (v_iv (Value.int y)) (v_iv (Value.int u)) k1 k5 k6 k11 k12 k13 k14 k15 d0 f0 f1 f2 f3 f4 f5 f7 f8 f9 f11 f12 f14 hK_0_1 hK_0_160 hK_0_162 hK_0_163 kz_0_8 kz_0_10 kz_0_157 kz_0_158 kz_0_159 kz_0_164 kz_0_165 ex2 ex3 ey2 ey3 eu2 eu3
  have nf3 : fc_1 PRD (20, [2], [50, 2, 0, 164, 165, 4, 7, 1, 3, 2, 0, 164, 0, 0, 0, 3, 2, 0, 165, 0, 23]) ws (vs ++ [Value.int x, Value.int y, Value.int u]) := by
    refine ⟨nf_inA hl rfl, sgq_274 ?_⟩
    · show (w_fi ws (n_v (vs ++ [Value.int x, Value.int y, Value.int u]) 2) 164 = 0) → (w_fi ws (n_v (vs ++ [Value.int x, Value.int y, Value.int u]) 2) 165 ≤ 23)
      simp only [e_2, q2]
      exact vc_Mo_rule_at_f0_60_3 (v_iv (n_v vs 1)) (v_iv (n_v vs 5)) (v_iv (n_v vs 6)) (v_iv (n_v vs 11)) (v_iv (n_v vs 12)) (v_iv (n_v vs 13)) (v_iv (n_v vs 14)) (v_iv (n_v vs 15)) (w_ei ws (w_ar ws (n_v vs 0) 160)) (w_ei ws (w_ar ws (n_v vs 0) 161)) (w_ei ws (w_ar ws (n_v vs 0) 162)) (w_ei ws (w_ar ws (n_v vs 0) 163)) (w_ei ws (w_ar ws (n_v vs 0) 1)) (w_fi ws (n_v vs 0) 164) (w_fi ws (n_v vs 0) 10) (w_fi ws (n_v vs 0) 165) (w_fi ws (n_v vs 0) 159) (w_fi ws (n_v vs 0) 158) (w_fi ws (n_v vs 0) 157) (w_fi ws (n_v vs 0) 8) (v_iv (Value.int x)) (v_iv (Value.int y)) (v_iv (Value.int u)) k1 k5 k6 k11 k12 k13 k14 k15 d0 f0 f1 f2 f3 f4 f5 f7 f8 f9 f11 f12 f14 hK_0_1 hK_0_160 hK_0_162 hK_0_163 kz_0_8 kz_0_10 kz_0_157 kz_0_158 kz_0_159 kz_0_164 kz_0_165 ex2 ex3 ey2 ey3 eu2 eu3
  have nf4 : fc_1 PRD (20, [2], [30, 0, 1, 1, 159]) ws (vs ++ [Value.int x, Value.int y, Value.int u]) := by
    refine ⟨nf_inA hl rfl, sgq_1029 ?_⟩
    · show 1 * w_fi ws (n_v (vs ++ [Value.int x, Value.int y, Value.int u]) 2) 159 + 0 ≤ 0
      simp only [e_2, q2]
      exact vc_Mo_rule_at_f0_60_4 (v_iv (n_v vs 1)) (v_iv (n_v vs 5)) (v_iv (n_v vs 6)) (v_iv (n_v vs 11)) (v_iv (n_v vs 12)) (v_iv (n_v vs 13)) (v_iv (n_v vs 14)) (v_iv (n_v vs 15)) (w_ei ws (w_ar ws (n_v vs 0) 160)) (w_ei ws (w_ar ws (n_v vs 0) 161)) (w_ei ws (w_ar ws (n_v vs 0) 162)) (w_ei ws (w_ar ws (n_v vs 0) 163)) (w_ei ws (w_ar ws (n_v vs 0) 1)) (w_fi ws (n_v vs 0) 164) (w_fi ws (n_v vs 0) 10) (w_fi ws (n_v vs 0) 165) (w_fi ws (n_v vs 0) 159) (w_fi ws (n_v vs 0) 158) (w_fi ws (n_v vs 0) 157) (w_fi ws (n_v vs 0) 8) (v_iv (Value.int x)) (v_iv (Value.int y)) (v_iv (Value.int u)) k1 k5 k6 k11 k12 k13 k14 k15 d0 f0 f1 f2 f3 f4 f5 f7 f8 f9 f11 f12 f14 hK_0_1 hK_0_160 hK_0_162 hK_0_163 kz_0_8 kz_0_10 kz_0_157 kz_0_158 kz_0_159 kz_0_164 kz_0_165 ex2 ex3 ey2 ey3 eu2 eu3
  have nf5 : fc_1 PRD (20, [2], [30, 0, -1, 1, 159]) ws (vs ++ [Value.int x, Value.int y, Value.int u]) := by
    refine ⟨nf_inA hl rfl, sgq_1030 ?_⟩
    · show (-1) * w_fi ws (n_v (vs ++ [Value.int x, Value.int y, Value.int u]) 2) 159 + 0 ≤ 0
      simp only [e_2, q2]
      exact vc_Mo_rule_at_f0_60_5 (v_iv (n_v vs 1)) (v_iv (n_v vs 5)) (v_iv (n_v vs 6)) (v_iv (n_v vs 11)) (v_iv (n_v vs 12)) (v_iv (n_v vs 13)) (v_iv (n_v vs 14)) (v_iv (n_v vs 15)) (w_ei ws (w_ar ws (n_v vs 0) 160)) (w_ei ws (w_ar ws (n_v vs 0) 161)) (w_ei ws (w_ar ws (n_v vs 0) 162)) (w_ei ws (w_ar ws (n_v vs 0) 163)) (w_ei ws (w_ar ws (n_v vs 0) 1)) (w_fi ws (n_v vs 0) 164) (w_fi ws (n_v vs 0) 10) (w_fi ws (n_v vs 0) 165) (w_fi ws (n_v vs 0) 159) (w_fi ws (n_v vs 0) 158) (w_fi ws (n_v vs 0) 157) (w_fi ws (n_v vs 0) 8) (v_iv (Value.int x)) (v_iv (Value.int y)) (v_iv (Value.int u)) k1 k5 k6 k11 k12 k13 k14 k15 d0 f0 f1 f2 f3 f4 f5 f7 f8 f9 f11 f12 f14 hK_0_1 hK_0_160 hK_0_162 hK_0_163 kz_0_8 kz_0_10 kz_0_157 kz_0_158 kz_0_159 kz_0_164 kz_0_165 ex2 ex3 ey2 ey3 eu2 eu3
  have nf6 : fc_1 PRD (20, [2, 17], [50, 1, 0, 8, 1, 3, 2, 0, 8, 1, 1]) ws (vs ++ [Value.int x, Value.int y, Value.int u]) := by
    refine ⟨nf_inA hl rfl, sgq_277 ?_⟩
    · show w_fi ws (n_v (vs ++ [Value.int x, Value.int y, Value.int u]) 2) 8 = v_iv (n_v (vs ++ [Value.int x, Value.int y, Value.int u]) 17)
      simp only [e_2, e_17, q2]
      exact vc_Mo_rule_at_f0_60_6 (v_iv (n_v vs 1)) (v_iv (n_v vs 5)) (v_iv (n_v vs 6)) (v_iv (n_v vs 11)) (v_iv (n_v vs 12)) (v_iv (n_v vs 13)) (v_iv (n_v vs 14)) (v_iv (n_v vs 15)) (w_ei ws (w_ar ws (n_v vs 0) 160)) (w_ei ws (w_ar ws (n_v vs 0) 161)) (w_ei ws (w_ar ws (n_v vs 0) 162)) (w_ei ws (w_ar ws (n_v vs 0) 163)) (w_ei ws (w_ar ws (n_v vs 0) 1)) (w_fi ws (n_v vs 0) 164) (w_fi ws (n_v vs 0) 10) (w_fi ws (n_v vs 0) 165) (w_fi ws (n_v vs 0) 159) (w_fi ws (n_v vs 0) 158) (w_fi ws (n_v vs 0) 157) (w_fi ws (n_v vs 0) 8) (v_iv (Value.int x)) (v_iv (Value.int y)) (v_iv (Value.int u)) k1 k5 k6 k11 k12 k13 k14 k15 d0 f0 f1 f2 f3 f4 f5 f7 f8 f9 f11 f12 f14 hK_0_1 hK_0_160 hK_0_162 hK_0_163 kz_0_8 kz_0_10 kz_0_157 kz_0_158 kz_0_159 kz_0_164 kz_0_165 ex2 ex3 ey2 ey3 eu2 eu3
  have nf7 : fc_1 PRD (20, [2, 18], [50, 1, 0, 159, 1, 3, 2, 0, 159, 1, 1]) ws (vs ++ [Value.int x, Value.int y, Value.int u]) := by
    refine ⟨nf_inA hl rfl, sgq_278 ?_⟩
    · show w_fi ws (n_v (vs ++ [Value.int x, Value.int y, Value.int u]) 2) 159 = v_iv (n_v (vs ++ [Value.int x, Value.int y, Value.int u]) 18)
      simp only [e_2, e_18, q2]
      exact vc_Mo_rule_at_f0_60_7 (v_iv (n_v vs 1)) (v_iv (n_v vs 5)) (v_iv (n_v vs 6)) (v_iv (n_v vs 11)) (v_iv (n_v vs 12)) (v_iv (n_v vs 13)) (v_iv (n_v vs 14)) (v_iv (n_v vs 15)) (w_ei ws (w_ar ws (n_v vs 0) 160)) (w_ei ws (w_ar ws (n_v vs 0) 161)) (w_ei ws (w_ar ws (n_v vs 0) 162)) (w_ei ws (w_ar ws (n_v vs 0) 163)) (w_ei ws (w_ar ws (n_v vs 0) 1)) (w_fi ws (n_v vs 0) 164) (w_fi ws (n_v vs 0) 10) (w_fi ws (n_v vs 0) 165) (w_fi ws (n_v vs 0) 159) (w_fi ws (n_v vs 0) 158) (w_fi ws (n_v vs 0) 157) (w_fi ws (n_v vs 0) 8) (v_iv (Value.int x)) (v_iv (Value.int y)) (v_iv (Value.int u)) k1 k5 k6 k11 k12 k13 k14 k15 d0 f0 f1 f2 f3 f4 f5 f7 f8 f9 f11 f12 f14 hK_0_1 hK_0_160 hK_0_162 hK_0_163 kz_0_8 kz_0_10 kz_0_157 kz_0_158 kz_0_159 kz_0_164 kz_0_165 ex2 ex3 ey2 ey3 eu2 eu3
  have nf8 : fc_1 PRD (23, [1, 16], [0, 1, -1]) ws (vs ++ [Value.int x, Value.int y, Value.int u]) := by
    refine ⟨nf_inA hl rfl, sgq_7 ?_⟩
    · show 1 * v_iv (n_v (vs ++ [Value.int x, Value.int y, Value.int u]) 1) + ((-1) * v_iv (n_v (vs ++ [Value.int x, Value.int y, Value.int u]) 16) + 0) ≤ 0
      simp only [e_1, e_16]
      exact vc_Mo_rule_at_f0_60_8 (v_iv (n_v vs 1)) (v_iv (n_v vs 5)) (v_iv (n_v vs 6)) (v_iv (n_v vs 11)) (v_iv (n_v vs 12)) (v_iv (n_v vs 13)) (v_iv (n_v vs 14)) (v_iv (n_v vs 15)) (w_ei ws (w_ar ws (n_v vs 0) 160)) (w_ei ws (w_ar ws (n_v vs 0) 161)) (w_ei ws (w_ar ws (n_v vs 0) 162)) (w_ei ws (w_ar ws (n_v vs 0) 163)) (w_ei ws (w_ar ws (n_v vs 0) 1)) (w_fi ws (n_v vs 0) 164) (w_fi ws (n_v vs 0) 10) (w_fi ws (n_v vs 0) 165) (w_fi ws (n_v vs 0) 159) (w_fi ws (n_v vs 0) 158) (w_fi ws (n_v vs 0) 157) (w_fi ws (n_v vs 0) 8) (v_iv (Value.int x)) (v_iv (Value.int y)) (v_iv (Value.int u)) k1 k5 k6 k11 k12 k13 k14 k15 d0 f0 f1 f2 f3 f4 f5 f7 f8 f9 f11 f12 f14 hK_0_1 hK_0_160 hK_0_162 hK_0_163 kz_0_8 kz_0_10 kz_0_157 kz_0_158 kz_0_159 kz_0_164 kz_0_165 ex2 ex3 ey2 ey3 eu2 eu3
  have nf9 : fc_1 PRD (23, [6, 16], [-2011, -1, -1]) ws (vs ++ [Value.int x, Value.int y, Value.int u]) := by
    refine ⟨nf_inA hl rfl, sgq_290 ?_⟩
    · show (-1) * v_iv (n_v (vs ++ [Value.int x, Value.int y, Value.int u]) 6) + ((-1) * v_iv (n_v (vs ++ [Value.int x, Value.int y, Value.int u]) 16) + 0) ≤ (-2011)
      simp only [e_6, e_16]
      exact vc_Mo_rule_at_f0_60_9 (v_iv (n_v vs 1)) (v_iv (n_v vs 5)) (v_iv (n_v vs 6)) (v_iv (n_v vs 11)) (v_iv (n_v vs 12)) (v_iv (n_v vs 13)) (v_iv (n_v vs 14)) (v_iv (n_v vs 15)) (w_ei ws (w_ar ws (n_v vs 0) 160)) (w_ei ws (w_ar ws (n_v vs 0) 161)) (w_ei ws (w_ar ws (n_v vs 0) 162)) (w_ei ws (w_ar ws (n_v vs 0) 163)) (w_ei ws (w_ar ws (n_v vs 0) 1)) (w_fi ws (n_v vs 0) 164) (w_fi ws (n_v vs 0) 10) (w_fi ws (n_v vs 0) 165) (w_fi ws (n_v vs 0) 159) (w_fi ws (n_v vs 0) 158) (w_fi ws (n_v vs 0) 157) (w_fi ws (n_v vs 0) 8) (v_iv (Value.int x)) (v_iv (Value.int y)) (v_iv (Value.int u)) k1 k5 k6 k11 k12 k13 k14 k15 d0 f0 f1 f2 f3 f4 f5 f7 f8 f9 f11 f12 f14 hK_0_1 hK_0_160 hK_0_162 hK_0_163 kz_0_8 kz_0_10 kz_0_157 kz_0_158 kz_0_159 kz_0_164 kz_0_165 ex2 ex3 ey2 ey3 eu2 eu3
  have nf10 : fc_1 PRD (20, [2, 16, 17, 18, 1], [60, 2, 5, 60, 164, 10, 160, 161, 162, 163, 1]) ws (vs ++ [Value.int x, Value.int y, Value.int u]) := by
    refine ⟨nf_inA hl rfl, sgq_2271 ?_⟩
    · show RB2 (w_fi ws (n_v (vs ++ [Value.int x, Value.int y, Value.int u]) 2) 164) (w_fi ws (n_v (vs ++ [Value.int x, Value.int y, Value.int u]) 2) 10) (w_ei ws (w_ar ws (n_v (vs ++ [Value.int x, Value.int y, Value.int u]) 2) 160)) (w_ei ws (w_ar ws (n_v (vs ++ [Value.int x, Value.int y, Value.int u]) 2) 161)) (w_ei ws (w_ar ws (n_v (vs ++ [Value.int x, Value.int y, Value.int u]) 2) 162)) (w_ei ws (w_ar ws (n_v (vs ++ [Value.int x, Value.int y, Value.int u]) 2) 163)) (w_ei ws (w_ar ws (n_v (vs ++ [Value.int x, Value.int y, Value.int u]) 2) 1)) (v_iv (n_v (vs ++ [Value.int x, Value.int y, Value.int u]) 16)) (v_iv (n_v (vs ++ [Value.int x, Value.int y, Value.int u]) 17)) (v_iv (n_v (vs ++ [Value.int x, Value.int y, Value.int u]) 18)) (v_iv (n_v (vs ++ [Value.int x, Value.int y, Value.int u]) 1))
      simp only [e_1, e_2, e_16, e_17, e_18, q2]
      exact vc_Mo_rule_at_f0_60_10 (v_iv (n_v vs 1)) (v_iv (n_v vs 5)) (v_iv (n_v vs 6)) (v_iv (n_v vs 11)) (v_iv (n_v vs 12)) (v_iv (n_v vs 13)) (v_iv (n_v vs 14)) (v_iv (n_v vs 15)) (w_ei ws (w_ar ws (n_v vs 0) 160)) (w_ei ws (w_ar ws (n_v vs 0) 161)) (w_ei ws (w_ar ws (n_v vs 0) 162)) (w_ei ws (w_ar ws (n_v vs 0) 163)) (w_ei ws (w_ar ws (n_v vs 0) 1)) (w_fi ws (n_v vs 0) 164) (w_fi ws (n_v vs 0) 10) (w_fi ws (n_v vs 0) 165) (w_fi ws (n_v vs 0) 159) (w_fi ws (n_v vs 0) 158) (w_fi ws (n_v vs 0) 157) (w_fi ws (n_v vs 0) 8) (v_iv (Value.int x)) (v_iv (Value.int y)) (v_iv (Value.int u)) k1 k5 k6 k11 k12 k13 k14 k15 d0 f0 f1 f2 f3 f4 f5 f7 f8 f9 f11 f12 f14 hK_0_1 hK_0_160 hK_0_162 hK_0_163 kz_0_8 kz_0_10 kz_0_157 kz_0_158 kz_0_159 kz_0_164 kz_0_165 ex2 ex3 ey2 ey3 eu2 eu3
  exact ⟨(fun _ h => (by cases h)), [Value.int x, Value.int y, Value.int u], ag_three hx hy hu, List.forall_mem_cons.mpr ⟨⟨show (20 : Nat) < 100 from by decide, nf0⟩, List.forall_mem_cons.mpr ⟨⟨show (20 : Nat) < 100 from by decide, nf1⟩, List.forall_mem_cons.mpr ⟨⟨show (20 : Nat) < 100 from by decide, nf2⟩, List.forall_mem_cons.mpr ⟨⟨show (20 : Nat) < 100 from by decide, nf3⟩, List.forall_mem_cons.mpr ⟨⟨show (20 : Nat) < 100 from by decide, nf4⟩, List.forall_mem_cons.mpr ⟨⟨show (20 : Nat) < 100 from by decide, nf5⟩, List.forall_mem_cons.mpr ⟨⟨show (20 : Nat) < 100 from by decide, nf6⟩, List.forall_mem_cons.mpr ⟨⟨show (20 : Nat) < 100 from by decide, nf7⟩, List.forall_mem_cons.mpr ⟨⟨show (23 : Nat) < 100 from by decide, nf8⟩, List.forall_mem_cons.mpr ⟨⟨show (23 : Nat) < 100 from by decide, nf9⟩, List.forall_mem_cons.mpr ⟨⟨show (20 : Nat) < 100 from by decide, nf10⟩, (fun _ h => (by cases h))⟩⟩⟩⟩⟩⟩⟩⟩⟩⟩⟩, (fun _ h => (by cases h))⟩
set_option maxHeartbeats 4000000 in
theorem vc_Mo_rule_at_f0_61_0 (x1 : Int) (x5 : Int) (x6 : Int) (x11 : Int) (x12 : Int) (x14 : Int) (x15 : Int) (x16 : Int) (x17 : Int) (x18 : Int) (x20 : Int) (fault_0 : Int) (styleKind_0 : Int) (styleOne_0 : Int) (tokenKind_0 : Int → Int) (tokenValue_0 : Int → Int) (tokenPlace_0 : Int → Int) (tokenEnd_0 : Int → Int) (tape_0 : Int → Int) (limit_0 : Int) (cur_0 : Int) (tokens_0 : Int) (opened_0 : Int) (gx : Int) (k1 : 0 ≤ x1 ∧ x1 ≤ 2009) (k5 : 0 ≤ x5 ∧ x5 ≤ 2009) (k6 : 0 ≤ x6 ∧ x6 ≤ 2010) (k11 : 1 ≤ x11 ∧ x11 ≤ 1) (k12 : 1 ≤ x12 ∧ x12 ≤ 2009) (k14 : 0 ≤ x14 ∧ x14 ≤ 2009) (k15 : 0 ≤ x15 ∧ x15 ≤ 5) (k16 : 0 ≤ x16 ∧ x16 ≤ 2009) (k17 : 0 ≤ x17 ∧ x17 ≤ 5) (k18 : 0 ≤ x18 ∧ x18 ≤ 13) (k20 : 1 ≤ x20 ∧ x20 ≤ 5) (d0 : x5 + 1 ≤ x12 ∧ x12 ≤ x5 + 1) (f0 : x20 ≠ 0) (g1 : x20 = fault_0) (f2 : (styleKind_0 = 0) → (styleOne_0 ≤ 23)) (f3 : 1 * x1 + ((-1) * x16 + 0) ≤ 0) (f4 : (-1) * x6 + ((-1) * x16 + 0) ≤ (-2011)) (f5 : RB2 (styleKind_0) (limit_0) (tokenKind_0) (tokenValue_0) (tokenPlace_0) (tokenEnd_0) (tape_0) (x16) (x17) (x18) (x1)) (f6 : 1 * x1 + ((-1) * x14 + 0) ≤ 0) (f7 : (-1) * x6 + ((-1) * x14 + 0) ≤ (-2011)) (f8 : RB1 (styleKind_0) (limit_0) (tokenKind_0) (tokenValue_0) (tokenPlace_0) (tokenEnd_0) (tape_0) (x14) (x15) (x1)) (f9 : (styleKind_0 = 0) → (styleOne_0 ≤ 23)) (f11 : ((cur_0 + 1) ≤ tokens_0) ∧ ((tokens_0 ≤ 2010) ∧ ((tokenKind_0 ((tokens_0 - 1)) = 0) ∨ (tokenKind_0 ((tokens_0 - 1)) = 4)))) (f12 : 1 * x16 + ((-1) * cur_0 + 0) ≤ 0) (f13 : 1 * opened_0 + 0 ≤ 0) (f14 : (-1) * opened_0 + 0 ≤ 0) (f15 : SSM (fault_0) (cur_0) (styleKind_0) (limit_0) (tokenKind_0) (tokenValue_0) (tokenPlace_0) (tokenEnd_0) (tape_0) (x16) (x17) (x18)) (f17 : 1 * x1 + ((-1) * x16 + 0) ≤ 0) (f18 : (-1) * x6 + ((-1) * x16 + 0) ≤ (-2011)) (f19 : 1 * x1 + ((-1) * x14 + 0) ≤ 0) (f20 : (-1) * x6 + ((-1) * x14 + 0) ≤ (-2011)) (f22 : 1 * x1 + ((-1) * x14 + 0) ≤ 0) (f23 : (-1) * x6 + ((-1) * x14 + 0) ≤ (-2011)) (f25 : x12 = x5 + x11) (hK_0_1 : ∀ j : Int, 0 ≤ j → j < 2000 → (-128) ≤ tape_0 j ∧ tape_0 j ≤ 127) (hK_0_160 : ∀ j : Int, 0 ≤ j → j < 2010 → 0 ≤ tokenKind_0 j ∧ tokenKind_0 j ≤ 4) (hK_0_162 : ∀ j : Int, 0 ≤ j → j < 2010 → 0 ≤ tokenPlace_0 j ∧ tokenPlace_0 j ≤ 2000) (hK_0_163 : ∀ j : Int, 0 ≤ j → j < 2010 → 0 ≤ tokenEnd_0 j ∧ tokenEnd_0 j ≤ 2000) (kz_0_8 : 0 ≤ fault_0 ∧ fault_0 ≤ 5) (kz_0_10 : 0 ≤ limit_0 ∧ limit_0 ≤ 2000) (kz_0_157 : 0 ≤ tokens_0 ∧ tokens_0 ≤ 2010) (kz_0_158 : 0 ≤ cur_0 ∧ cur_0 ≤ 2009) (kz_0_159 : 0 ≤ opened_0 ∧ opened_0 ≤ 13) (kz_0_164 : 0 ≤ styleKind_0 ∧ styleKind_0 ≤ 1) (kz_0_165 : (-1) ≤ styleOne_0 ∧ styleOne_0 ≤ 47) (ex2 : gx = 0 + (1 * x6 + 0)) (ex3 : 0 ≤ gx ∧ gx ≤ 2010) : ((cur_0 + 1) ≤ tokens_0) ∧ ((tokens_0 ≤ 2010) ∧ ((tokenKind_0 ((tokens_0 - 1)) = 0) ∨ (tokenKind_0 ((tokens_0 - 1)) = 4))) := by
  first | with_reducible assumption | ((have f11_c0 := f11.1); (have f11_c1 := f11.2.1); (have f11_c2 := f11.2.2); (try and_intros) <;> first | with_reducible assumption | (clear f11_c2 f11 hK_0_1 hK_0_160 hK_0_162 hK_0_163 f2 f9; omega)) | ((have f11_c0 := f11.1); (have f11_c1 := f11.2.1); (have f11_c2 := f11.2.2); (first | have f2_b := f2 (by clear f11_c2 f11 hK_0_1 hK_0_160 hK_0_162 hK_0_163 f2 f9; omega) | skip); (first | have f9_b := f9 (by clear f11_c2 f11 hK_0_1 hK_0_160 hK_0_162 hK_0_163 f2 f9; omega) | skip); (first | have f2_d := f2 (by with_reducible assumption) | skip); (first | have f9_d := f9 (by with_reducible assumption) | skip); (try and_intros) <;> first | with_reducible assumption | (clear f11_c2 f11 hK_0_1 hK_0_160 hK_0_162 hK_0_163 f2 f9; omega)) | ((have f11_c0 := f11.1); (have f11_c1 := f11.2.1); (have f11_c2 := f11.2.2); (first | have f2_b := f2 (by clear f11_c2 f11 hK_0_1 hK_0_160 hK_0_162 hK_0_163 f2 f9; omega) | skip); (first | have f9_b := f9 (by clear f11_c2 f11 hK_0_1 hK_0_160 hK_0_162 hK_0_163 f2 f9; omega) | skip); (first | have f2_d := f2 (by with_reducible assumption) | skip); (first | have f9_d := f9 (by with_reducible assumption) | skip); (first | have f11_q := tk_nx0 f11 (by clear f11_c2 f11 hK_0_1 hK_0_160 hK_0_162 hK_0_163 f2 f9; omega) | skip); (try and_intros) <;> first | with_reducible assumption | (clear f11_c2 f11 hK_0_1 hK_0_160 hK_0_162 hK_0_163 f2 f9; omega)) | omega
set_option maxHeartbeats 4000000 in
theorem vc_Mo_rule_at_f0_61_1 (x1 : Int) (x5 : Int) (x6 : Int) (x11 : Int) (x12 : Int) (x14 : Int) (x15 : Int) (x16 : Int) (x17 : Int) (x18 : Int) (x20 : Int) (fault_0 : Int) (styleKind_0 : Int) (styleOne_0 : Int) (tokenKind_0 : Int → Int) (tokenValue_0 : Int → Int) (tokenPlace_0 : Int → Int) (tokenEnd_0 : Int → Int) (tape_0 : Int → Int) (limit_0 : Int) (cur_0 : Int) (tokens_0 : Int) (opened_0 : Int) (gx : Int) (k1 : 0 ≤ x1 ∧ x1 ≤ 2009) (k5 : 0 ≤ x5 ∧ x5 ≤ 2009) (k6 : 0 ≤ x6 ∧ x6 ≤ 2010) (k11 : 1 ≤ x11 ∧ x11 ≤ 1) (k12 : 1 ≤ x12 ∧ x12 ≤ 2009) (k14 : 0 ≤ x14 ∧ x14 ≤ 2009) (k15 : 0 ≤ x15 ∧ x15 ≤ 5) (k16 : 0 ≤ x16 ∧ x16 ≤ 2009) (k17 : 0 ≤ x17 ∧ x17 ≤ 5) (k18 : 0 ≤ x18 ∧ x18 ≤ 13) (k20 : 1 ≤ x20 ∧ x20 ≤ 5) (d0 : x5 + 1 ≤ x12 ∧ x12 ≤ x5 + 1) (f0 : x20 ≠ 0) (g1 : x20 = fault_0) (f2 : (styleKind_0 = 0) → (styleOne_0 ≤ 23)) (f3 : 1 * x1 + ((-1) * x16 + 0) ≤ 0) (f4 : (-1) * x6 + ((-1) * x16 + 0) ≤ (-2011)) (f5 : RB2 (styleKind_0) (limit_0) (tokenKind_0) (tokenValue_0) (tokenPlace_0) (tokenEnd_0) (tape_0) (x16) (x17) (x18) (x1)) (f6 : 1 * x1 + ((-1) * x14 + 0) ≤ 0) (f7 : (-1) * x6 + ((-1) * x14 + 0) ≤ (-2011)) (f8 : RB1 (styleKind_0) (limit_0) (tokenKind_0) (tokenValue_0) (tokenPlace_0) (tokenEnd_0) (tape_0) (x14) (x15) (x1)) (f9 : (styleKind_0 = 0) → (styleOne_0 ≤ 23)) (f11 : ((cur_0 + 1) ≤ tokens_0) ∧ ((tokens_0 ≤ 2010) ∧ ((tokenKind_0 ((tokens_0 - 1)) = 0) ∨ (tokenKind_0 ((tokens_0 - 1)) = 4)))) (f12 : 1 * x16 + ((-1) * cur_0 + 0) ≤ 0) (f13 : 1 * opened_0 + 0 ≤ 0) (f14 : (-1) * opened_0 + 0 ≤ 0) (f15 : SSM (fault_0) (cur_0) (styleKind_0) (limit_0) (tokenKind_0) (tokenValue_0) (tokenPlace_0) (tokenEnd_0) (tape_0) (x16) (x17) (x18)) (f17 : 1 * x1 + ((-1) * x16 + 0) ≤ 0) (f18 : (-1) * x6 + ((-1) * x16 + 0) ≤ (-2011)) (f19 : 1 * x1 + ((-1) * x14 + 0) ≤ 0) (f20 : (-1) * x6 + ((-1) * x14 + 0) ≤ (-2011)) (f22 : 1 * x1 + ((-1) * x14 + 0) ≤ 0) (f23 : (-1) * x6 + ((-1) * x14 + 0) ≤ (-2011)) (f25 : x12 = x5 + x11) (hK_0_1 : ∀ j : Int, 0 ≤ j → j < 2000 → (-128) ≤ tape_0 j ∧ tape_0 j ≤ 127) (hK_0_160 : ∀ j : Int, 0 ≤ j → j < 2010 → 0 ≤ tokenKind_0 j ∧ tokenKind_0 j ≤ 4) (hK_0_162 : ∀ j : Int, 0 ≤ j → j < 2010 → 0 ≤ tokenPlace_0 j ∧ tokenPlace_0 j ≤ 2000) (hK_0_163 : ∀ j : Int, 0 ≤ j → j < 2010 → 0 ≤ tokenEnd_0 j ∧ tokenEnd_0 j ≤ 2000) (kz_0_8 : 0 ≤ fault_0 ∧ fault_0 ≤ 5) (kz_0_10 : 0 ≤ limit_0 ∧ limit_0 ≤ 2000) (kz_0_157 : 0 ≤ tokens_0 ∧ tokens_0 ≤ 2010) (kz_0_158 : 0 ≤ cur_0 ∧ cur_0 ≤ 2009) (kz_0_159 : 0 ≤ opened_0 ∧ opened_0 ≤ 13) (kz_0_164 : 0 ≤ styleKind_0 ∧ styleKind_0 ≤ 1) (kz_0_165 : (-1) ≤ styleOne_0 ∧ styleOne_0 ≤ 47) (ex2 : gx = 0 + (1 * x6 + 0)) (ex3 : 0 ≤ gx ∧ gx ≤ 2010) : 1 * x1 + ((-1) * cur_0 + 0) ≤ 0 := by
  first | with_reducible assumption | ((have f11_c0 := f11.1); (have f11_c1 := f11.2.1); (have f11_c2 := f11.2.2); (try and_intros) <;> first | with_reducible assumption | (clear f11_c2 f11 hK_0_1 hK_0_160 hK_0_162 hK_0_163 f2 f9; omega)) | ((have f11_c0 := f11.1); (have f11_c1 := f11.2.1); (have f11_c2 := f11.2.2); (first | have f2_b := f2 (by clear f11_c2 f11 hK_0_1 hK_0_160 hK_0_162 hK_0_163 f2 f9; omega) | skip); (first | have f9_b := f9 (by clear f11_c2 f11 hK_0_1 hK_0_160 hK_0_162 hK_0_163 f2 f9; omega) | skip); (first | have f2_d := f2 (by with_reducible assumption) | skip); (first | have f9_d := f9 (by with_reducible assumption) | skip); (try and_intros) <;> first | with_reducible assumption | (clear f11_c2 f11 hK_0_1 hK_0_160 hK_0_162 hK_0_163 f2 f9; omega)) | ((have f11_c0 := f11.1); (have f11_c1 := f11.2.1); (have f11_c2 := f11.2.2); (first | have f2_b := f2 (by clear f11_c2 f11 hK_0_1 hK_0_160 hK_0_162 hK_0_163 f2 f9; omega) | skip); (first | have f9_b := f9 (by clear f11_c2 f11 hK_0_1 hK_0_160 hK_0_162 hK_0_163 f2 f9; omega) | skip); (first | have f2_d := f2 (by with_reducible assumption) | skip); (first | have f9_d := f9 (by with_reducible assumption) | skip); (first | have f11_q := tk_nx0 f11 (by clear f11_c2 f11 hK_0_1 hK_0_160 hK_0_162 hK_0_163 f2 f9; omega) | skip); (try and_intros) <;> first | with_reducible assumption | (clear f11_c2 f11 hK_0_1 hK_0_160 hK_0_162 hK_0_163 f2 f9; omega)) | omega
set_option maxHeartbeats 4000000 in
theorem vc_Mo_rule_at_f0_61_2 (x1 : Int) (x5 : Int) (x6 : Int) (x11 : Int) (x12 : Int) (x14 : Int) (x15 : Int) (x16 : Int) (x17 : Int) (x18 : Int) (x20 : Int) (fault_0 : Int) (styleKind_0 : Int) (styleOne_0 : Int) (tokenKind_0 : Int → Int) (tokenValue_0 : Int → Int) (tokenPlace_0 : Int → Int) (tokenEnd_0 : Int → Int) (tape_0 : Int → Int) (limit_0 : Int) (cur_0 : Int) (tokens_0 : Int) (opened_0 : Int) (gx : Int) (k1 : 0 ≤ x1 ∧ x1 ≤ 2009) (k5 : 0 ≤ x5 ∧ x5 ≤ 2009) (k6 : 0 ≤ x6 ∧ x6 ≤ 2010) (k11 : 1 ≤ x11 ∧ x11 ≤ 1) (k12 : 1 ≤ x12 ∧ x12 ≤ 2009) (k14 : 0 ≤ x14 ∧ x14 ≤ 2009) (k15 : 0 ≤ x15 ∧ x15 ≤ 5) (k16 : 0 ≤ x16 ∧ x16 ≤ 2009) (k17 : 0 ≤ x17 ∧ x17 ≤ 5) (k18 : 0 ≤ x18 ∧ x18 ≤ 13) (k20 : 1 ≤ x20 ∧ x20 ≤ 5) (d0 : x5 + 1 ≤ x12 ∧ x12 ≤ x5 + 1) (f0 : x20 ≠ 0) (g1 : x20 = fault_0) (f2 : (styleKind_0 = 0) → (styleOne_0 ≤ 23)) (f3 : 1 * x1 + ((-1) * x16 + 0) ≤ 0) (f4 : (-1) * x6 + ((-1) * x16 + 0) ≤ (-2011)) (f5 : RB2 (styleKind_0) (limit_0) (tokenKind_0) (tokenValue_0) (tokenPlace_0) (tokenEnd_0) (tape_0) (x16) (x17) (x18) (x1)) (f6 : 1 * x1 + ((-1) * x14 + 0) ≤ 0) (f7 : (-1) * x6 + ((-1) * x14 + 0) ≤ (-2011)) (f8 : RB1 (styleKind_0) (limit_0) (tokenKind_0) (tokenValue_0) (tokenPlace_0) (tokenEnd_0) (tape_0) (x14) (x15) (x1)) (f9 : (styleKind_0 = 0) → (styleOne_0 ≤ 23)) (f11 : ((cur_0 + 1) ≤ tokens_0) ∧ ((tokens_0 ≤ 2010) ∧ ((tokenKind_0 ((tokens_0 - 1)) = 0) ∨ (tokenKind_0 ((tokens_0 - 1)) = 4)))) (f12 : 1 * x16 + ((-1) * cur_0 + 0) ≤ 0) (f13 : 1 * opened_0 + 0 ≤ 0) (f14 : (-1) * opened_0 + 0 ≤ 0) (f15 : SSM (fault_0) (cur_0) (styleKind_0) (limit_0) (tokenKind_0) (tokenValue_0) (tokenPlace_0) (tokenEnd_0) (tape_0) (x16) (x17) (x18)) (f17 : 1 * x1 + ((-1) * x16 + 0) ≤ 0) (f18 : (-1) * x6 + ((-1) * x16 + 0) ≤ (-2011)) (f19 : 1 * x1 + ((-1) * x14 + 0) ≤ 0) (f20 : (-1) * x6 + ((-1) * x14 + 0) ≤ (-2011)) (f22 : 1 * x1 + ((-1) * x14 + 0) ≤ 0) (f23 : (-1) * x6 + ((-1) * x14 + 0) ≤ (-2011)) (f25 : x12 = x5 + x11) (hK_0_1 : ∀ j : Int, 0 ≤ j → j < 2000 → (-128) ≤ tape_0 j ∧ tape_0 j ≤ 127) (hK_0_160 : ∀ j : Int, 0 ≤ j → j < 2010 → 0 ≤ tokenKind_0 j ∧ tokenKind_0 j ≤ 4) (hK_0_162 : ∀ j : Int, 0 ≤ j → j < 2010 → 0 ≤ tokenPlace_0 j ∧ tokenPlace_0 j ≤ 2000) (hK_0_163 : ∀ j : Int, 0 ≤ j → j < 2010 → 0 ≤ tokenEnd_0 j ∧ tokenEnd_0 j ≤ 2000) (kz_0_8 : 0 ≤ fault_0 ∧ fault_0 ≤ 5) (kz_0_10 : 0 ≤ limit_0 ∧ limit_0 ≤ 2000) (kz_0_157 : 0 ≤ tokens_0 ∧ tokens_0 ≤ 2010) (kz_0_158 : 0 ≤ cur_0 ∧ cur_0 ≤ 2009) (kz_0_159 : 0 ≤ opened_0 ∧ opened_0 ≤ 13) (kz_0_164 : 0 ≤ styleKind_0 ∧ styleKind_0 ≤ 1) (kz_0_165 : (-1) ≤ styleOne_0 ∧ styleOne_0 ≤ 47) (ex2 : gx = 0 + (1 * x6 + 0)) (ex3 : 0 ≤ gx ∧ gx ≤ 2010) : (styleKind_0 = 0) → (styleOne_0 ≤ 23) := by
  first | with_reducible assumption | ((have f11_c0 := f11.1); (have f11_c1 := f11.2.1); (have f11_c2 := f11.2.2); (try and_intros) <;> first | with_reducible assumption | (clear f11_c2 f11 hK_0_1 hK_0_160 hK_0_162 hK_0_163 f2 f9; omega)) | ((have f11_c0 := f11.1); (have f11_c1 := f11.2.1); (have f11_c2 := f11.2.2); (first | have f2_b := f2 (by clear f11_c2 f11 hK_0_1 hK_0_160 hK_0_162 hK_0_163 f2 f9; omega) | skip); (first | have f9_b := f9 (by clear f11_c2 f11 hK_0_1 hK_0_160 hK_0_162 hK_0_163 f2 f9; omega) | skip); (first | have f2_d := f2 (by with_reducible assumption) | skip); (first | have f9_d := f9 (by with_reducible assumption) | skip); (try and_intros) <;> first | with_reducible assumption | (clear f11_c2 f11 hK_0_1 hK_0_160 hK_0_162 hK_0_163 f2 f9; omega)) | ((have f11_c0 := f11.1); (have f11_c1 := f11.2.1); (have f11_c2 := f11.2.2); (first | have f2_b := f2 (by clear f11_c2 f11 hK_0_1 hK_0_160 hK_0_162 hK_0_163 f2 f9; omega) | skip); (first | have f9_b := f9 (by clear f11_c2 f11 hK_0_1 hK_0_160 hK_0_162 hK_0_163 f2 f9; omega) | skip); (first | have f2_d := f2 (by with_reducible assumption) | skip); (first | have f9_d := f9 (by with_reducible assumption) | skip); (first | have f11_q := tk_nx0 f11 (by clear f11_c2 f11 hK_0_1 hK_0_160 hK_0_162 hK_0_163 f2 f9; omega) | skip); (try and_intros) <;> first | with_reducible assumption | (clear f11_c2 f11 hK_0_1 hK_0_160 hK_0_162 hK_0_163 f2 f9; omega)) | (intro hG; (first | have f2_g := f2 hG | skip); (first | have f9_g := f9 hG | skip); (have f11_c0 := f11.1); (have f11_c1 := f11.2.1); (have f11_c2 := f11.2.2); (first | have f2_b := f2 (by clear f11_c2 f11 hK_0_1 hK_0_160 hK_0_162 hK_0_163 f2 f9; omega) | skip); (first | have f9_b := f9 (by clear f11_c2 f11 hK_0_1 hK_0_160 hK_0_162 hK_0_163 f2 f9; omega) | skip); (try and_intros) <;> first | with_reducible assumption | (clear f11_c2 f11 hK_0_1 hK_0_160 hK_0_162 hK_0_163 f2 f9 hG; omega)) | omega
set_option maxHeartbeats 4000000 in
theorem vc_Mo_rule_at_f0_61_3 (x1 : Int) (x5 : Int) (x6 : Int) (x11 : Int) (x12 : Int) (x14 : Int) (x15 : Int) (x16 : Int) (x17 : Int) (x18 : Int) (x20 : Int) (fault_0 : Int) (styleKind_0 : Int) (styleOne_0 : Int) (tokenKind_0 : Int → Int) (tokenValue_0 : Int → Int) (tokenPlace_0 : Int → Int) (tokenEnd_0 : Int → Int) (tape_0 : Int → Int) (limit_0 : Int) (cur_0 : Int) (tokens_0 : Int) (opened_0 : Int) (gx : Int) (k1 : 0 ≤ x1 ∧ x1 ≤ 2009) (k5 : 0 ≤ x5 ∧ x5 ≤ 2009) (k6 : 0 ≤ x6 ∧ x6 ≤ 2010) (k11 : 1 ≤ x11 ∧ x11 ≤ 1) (k12 : 1 ≤ x12 ∧ x12 ≤ 2009) (k14 : 0 ≤ x14 ∧ x14 ≤ 2009) (k15 : 0 ≤ x15 ∧ x15 ≤ 5) (k16 : 0 ≤ x16 ∧ x16 ≤ 2009) (k17 : 0 ≤ x17 ∧ x17 ≤ 5) (k18 : 0 ≤ x18 ∧ x18 ≤ 13) (k20 : 1 ≤ x20 ∧ x20 ≤ 5) (d0 : x5 + 1 ≤ x12 ∧ x12 ≤ x5 + 1) (f0 : x20 ≠ 0) (g1 : x20 = fault_0) (f2 : (styleKind_0 = 0) → (styleOne_0 ≤ 23)) (f3 : 1 * x1 + ((-1) * x16 + 0) ≤ 0) (f4 : (-1) * x6 + ((-1) * x16 + 0) ≤ (-2011)) (f5 : RB2 (styleKind_0) (limit_0) (tokenKind_0) (tokenValue_0) (tokenPlace_0) (tokenEnd_0) (tape_0) (x16) (x17) (x18) (x1)) (f6 : 1 * x1 + ((-1) * x14 + 0) ≤ 0) (f7 : (-1) * x6 + ((-1) * x14 + 0) ≤ (-2011)) (f8 : RB1 (styleKind_0) (limit_0) (tokenKind_0) (tokenValue_0) (tokenPlace_0) (tokenEnd_0) (tape_0) (x14) (x15) (x1)) (f9 : (styleKind_0 = 0) → (styleOne_0 ≤ 23)) (f11 : ((cur_0 + 1) ≤ tokens_0) ∧ ((tokens_0 ≤ 2010) ∧ ((tokenKind_0 ((tokens_0 - 1)) = 0) ∨ (tokenKind_0 ((tokens_0 - 1)) = 4)))) (f12 : 1 * x16 + ((-1) * cur_0 + 0) ≤ 0) (f13 : 1 * opened_0 + 0 ≤ 0) (f14 : (-1) * opened_0 + 0 ≤ 0) (f15 : SSM (fault_0) (cur_0) (styleKind_0) (limit_0) (tokenKind_0) (tokenValue_0) (tokenPlace_0) (tokenEnd_0) (tape_0) (x16) (x17) (x18)) (f17 : 1 * x1 + ((-1) * x16 + 0) ≤ 0) (f18 : (-1) * x6 + ((-1) * x16 + 0) ≤ (-2011)) (f19 : 1 * x1 + ((-1) * x14 + 0) ≤ 0) (f20 : (-1) * x6 + ((-1) * x14 + 0) ≤ (-2011)) (f22 : 1 * x1 + ((-1) * x14 + 0) ≤ 0) (f23 : (-1) * x6 + ((-1) * x14 + 0) ≤ (-2011)) (f25 : x12 = x5 + x11) (hK_0_1 : ∀ j : Int, 0 ≤ j → j < 2000 → (-128) ≤ tape_0 j ∧ tape_0 j ≤ 127) (hK_0_160 : ∀ j : Int, 0 ≤ j → j < 2010 → 0 ≤ tokenKind_0 j ∧ tokenKind_0 j ≤ 4) (hK_0_162 : ∀ j : Int, 0 ≤ j → j < 2010 → 0 ≤ tokenPlace_0 j ∧ tokenPlace_0 j ≤ 2000) (hK_0_163 : ∀ j : Int, 0 ≤ j → j < 2010 → 0 ≤ tokenEnd_0 j ∧ tokenEnd_0 j ≤ 2000) (kz_0_8 : 0 ≤ fault_0 ∧ fault_0 ≤ 5) (kz_0_10 : 0 ≤ limit_0 ∧ limit_0 ≤ 2000) (kz_0_157 : 0 ≤ tokens_0 ∧ tokens_0 ≤ 2010) (kz_0_158 : 0 ≤ cur_0 ∧ cur_0 ≤ 2009) (kz_0_159 : 0 ≤ opened_0 ∧ opened_0 ≤ 13) (kz_0_164 : 0 ≤ styleKind_0 ∧ styleKind_0 ≤ 1) (kz_0_165 : (-1) ≤ styleOne_0 ∧ styleOne_0 ≤ 47) (ex2 : gx = 0 + (1 * x6 + 0)) (ex3 : 0 ≤ gx ∧ gx ≤ 2010) : 1 * opened_0 + 0 ≤ 0 := by
  first | with_reducible assumption | ((have f11_c0 := f11.1); (have f11_c1 := f11.2.1); (have f11_c2 := f11.2.2); (try and_intros) <;> first | with_reducible assumption | (clear f11_c2 f11 hK_0_1 hK_0_160 hK_0_162 hK_0_163 f2 f9; omega)) | ((have f11_c0 := f11.1); (have f11_c1 := f11.2.1); (have f11_c2 := f11.2.2); (first | have f2_b := f2 (by clear f11_c2 f11 hK_0_1 hK_0_160 hK_0_162 hK_0_163 f2 f9; omega) | skip); (first | have f9_b := f9 (by clear f11_c2 f11 hK_0_1 hK_0_160 hK_0_162 hK_0_163 f2 f9; omega) | skip); (first | have f2_d := f2 (by with_reducible assumption) | skip); (first | have f9_d := f9 (by with_reducible assumption) | skip); (try and_intros) <;> first | with_reducible assumption | (clear f11_c2 f11 hK_0_1 hK_0_160 hK_0_162 hK_0_163 f2 f9; omega)) | ((have f11_c0 := f11.1); (have f11_c1 := f11.2.1); (have f11_c2 := f11.2.2); (first | have f2_b := f2 (by clear f11_c2 f11 hK_0_1 hK_0_160 hK_0_162 hK_0_163 f2 f9; omega) | skip); (first | have f9_b := f9 (by clear f11_c2 f11 hK_0_1 hK_0_160 hK_0_162 hK_0_163 f2 f9; omega) | skip); (first | have f2_d := f2 (by with_reducible assumption) | skip); (first | have f9_d := f9 (by with_reducible assumption) | skip); (first | have f11_q := tk_nx0 f11 (by clear f11_c2 f11 hK_0_1 hK_0_160 hK_0_162 hK_0_163 f2 f9; omega) | skip); (try and_intros) <;> first | with_reducible assumption | (clear f11_c2 f11 hK_0_1 hK_0_160 hK_0_162 hK_0_163 f2 f9; omega)) | omega
set_option maxHeartbeats 4000000 in
theorem vc_Mo_rule_at_f0_61_4 (x1 : Int) (x5 : Int) (x6 : Int) (x11 : Int) (x12 : Int) (x14 : Int) (x15 : Int) (x16 : Int) (x17 : Int) (x18 : Int) (x20 : Int) (fault_0 : Int) (styleKind_0 : Int) (styleOne_0 : Int) (tokenKind_0 : Int → Int) (tokenValue_0 : Int → Int) (tokenPlace_0 : Int → Int) (tokenEnd_0 : Int → Int) (tape_0 : Int → Int) (limit_0 : Int) (cur_0 : Int) (tokens_0 : Int) (opened_0 : Int) (gx : Int) (k1 : 0 ≤ x1 ∧ x1 ≤ 2009) (k5 : 0 ≤ x5 ∧ x5 ≤ 2009) (k6 : 0 ≤ x6 ∧ x6 ≤ 2010) (k11 : 1 ≤ x11 ∧ x11 ≤ 1) (k12 : 1 ≤ x12 ∧ x12 ≤ 2009) (k14 : 0 ≤ x14 ∧ x14 ≤ 2009) (k15 : 0 ≤ x15 ∧ x15 ≤ 5) (k16 : 0 ≤ x16 ∧ x16 ≤ 2009) (k17 : 0 ≤ x17 ∧ x17 ≤ 5) (k18 : 0 ≤ x18 ∧ x18 ≤ 13) (k20 : 1 ≤ x20 ∧ x20 ≤ 5) (d0 : x5 + 1 ≤ x12 ∧ x12 ≤ x5 + 1) (f0 : x20 ≠ 0) (g1 : x20 = fault_0) (f2 : (styleKind_0 = 0) → (styleOne_0 ≤ 23)) (f3 : 1 * x1 + ((-1) * x16 + 0) ≤ 0) (f4 : (-1) * x6 + ((-1) * x16 + 0) ≤ (-2011)) (f5 : RB2 (styleKind_0) (limit_0) (tokenKind_0) (tokenValue_0) (tokenPlace_0) (tokenEnd_0) (tape_0) (x16) (x17) (x18) (x1)) (f6 : 1 * x1 + ((-1) * x14 + 0) ≤ 0) (f7 : (-1) * x6 + ((-1) * x14 + 0) ≤ (-2011)) (f8 : RB1 (styleKind_0) (limit_0) (tokenKind_0) (tokenValue_0) (tokenPlace_0) (tokenEnd_0) (tape_0) (x14) (x15) (x1)) (f9 : (styleKind_0 = 0) → (styleOne_0 ≤ 23)) (f11 : ((cur_0 + 1) ≤ tokens_0) ∧ ((tokens_0 ≤ 2010) ∧ ((tokenKind_0 ((tokens_0 - 1)) = 0) ∨ (tokenKind_0 ((tokens_0 - 1)) = 4)))) (f12 : 1 * x16 + ((-1) * cur_0 + 0) ≤ 0) (f13 : 1 * opened_0 + 0 ≤ 0) (f14 : (-1) * opened_0 + 0 ≤ 0) (f15 : SSM (fault_0) (cur_0) (styleKind_0) (limit_0) (tokenKind_0) (tokenValue_0) (tokenPlace_0) (tokenEnd_0) (tape_0) (x16) (x17) (x18)) (f17 : 1 * x1 + ((-1) * x16 + 0) ≤ 0) (f18 : (-1) * x6 + ((-1) * x16 + 0) ≤ (-2011)) (f19 : 1 * x1 + ((-1) * x14 + 0) ≤ 0) (f20 : (-1) * x6 + ((-1) * x14 + 0) ≤ (-2011)) (f22 : 1 * x1 + ((-1) * x14 + 0) ≤ 0) (f23 : (-1) * x6 + ((-1) * x14 + 0) ≤ (-2011)) (f25 : x12 = x5 + x11) (hK_0_1 : ∀ j : Int, 0 ≤ j → j < 2000 → (-128) ≤ tape_0 j ∧ tape_0 j ≤ 127) (hK_0_160 : ∀ j : Int, 0 ≤ j → j < 2010 → 0 ≤ tokenKind_0 j ∧ tokenKind_0 j ≤ 4) (hK_0_162 : ∀ j : Int, 0 ≤ j → j < 2010 → 0 ≤ tokenPlace_0 j ∧ tokenPlace_0 j ≤ 2000) (hK_0_163 : ∀ j : Int, 0 ≤ j → j < 2010 → 0 ≤ tokenEnd_0 j ∧ tokenEnd_0 j ≤ 2000) (kz_0_8 : 0 ≤ fault_0 ∧ fault_0 ≤ 5) (kz_0_10 : 0 ≤ limit_0 ∧ limit_0 ≤ 2000) (kz_0_157 : 0 ≤ tokens_0 ∧ tokens_0 ≤ 2010) (kz_0_158 : 0 ≤ cur_0 ∧ cur_0 ≤ 2009) (kz_0_159 : 0 ≤ opened_0 ∧ opened_0 ≤ 13) (kz_0_164 : 0 ≤ styleKind_0 ∧ styleKind_0 ≤ 1) (kz_0_165 : (-1) ≤ styleOne_0 ∧ styleOne_0 ≤ 47) (ex2 : gx = 0 + (1 * x6 + 0)) (ex3 : 0 ≤ gx ∧ gx ≤ 2010) : (-1) * opened_0 + 0 ≤ 0 := by
  first | with_reducible assumption | ((have f11_c0 := f11.1); (have f11_c1 := f11.2.1); (have f11_c2 := f11.2.2); (try and_intros) <;> first | with_reducible assumption | (clear f11_c2 f11 hK_0_1 hK_0_160 hK_0_162 hK_0_163 f2 f9; omega)) | ((have f11_c0 := f11.1); (have f11_c1 := f11.2.1); (have f11_c2 := f11.2.2); (first | have f2_b := f2 (by clear f11_c2 f11 hK_0_1 hK_0_160 hK_0_162 hK_0_163 f2 f9; omega) | skip); (first | have f9_b := f9 (by clear f11_c2 f11 hK_0_1 hK_0_160 hK_0_162 hK_0_163 f2 f9; omega) | skip); (first | have f2_d := f2 (by with_reducible assumption) | skip); (first | have f9_d := f9 (by with_reducible assumption) | skip); (try and_intros) <;> first | with_reducible assumption | (clear f11_c2 f11 hK_0_1 hK_0_160 hK_0_162 hK_0_163 f2 f9; omega)) | ((have f11_c0 := f11.1); (have f11_c1 := f11.2.1); (have f11_c2 := f11.2.2); (first | have f2_b := f2 (by clear f11_c2 f11 hK_0_1 hK_0_160 hK_0_162 hK_0_163 f2 f9; omega) | skip); (first | have f9_b := f9 (by clear f11_c2 f11 hK_0_1 hK_0_160 hK_0_162 hK_0_163 f2 f9; omega) | skip); (first | have f2_d := f2 (by with_reducible assumption) | skip); (first | have f9_d := f9 (by with_reducible assumption) | skip); (first | have f11_q := tk_nx0 f11 (by clear f11_c2 f11 hK_0_1 hK_0_160 hK_0_162 hK_0_163 f2 f9; omega) | skip); (try and_intros) <;> first | with_reducible assumption | (clear f11_c2 f11 hK_0_1 hK_0_160 hK_0_162 hK_0_163 f2 f9; omega)) | omega
set_option maxHeartbeats 4000000 in
theorem vc_Mo_rule_at_f0_61_5 (x1 : Int) (x5 : Int) (x6 : Int) (x11 : Int) (x12 : Int) (x14 : Int) (x15 : Int) (x16 : Int) (x17 : Int) (x18 : Int) (x20 : Int) (fault_0 : Int) (styleKind_0 : Int) (styleOne_0 : Int) (tokenKind_0 : Int → Int) (tokenValue_0 : Int → Int) (tokenPlace_0 : Int → Int) (tokenEnd_0 : Int → Int) (tape_0 : Int → Int) (limit_0 : Int) (cur_0 : Int) (tokens_0 : Int) (opened_0 : Int) (gx : Int) (k1 : 0 ≤ x1 ∧ x1 ≤ 2009) (k5 : 0 ≤ x5 ∧ x5 ≤ 2009) (k6 : 0 ≤ x6 ∧ x6 ≤ 2010) (k11 : 1 ≤ x11 ∧ x11 ≤ 1) (k12 : 1 ≤ x12 ∧ x12 ≤ 2009) (k14 : 0 ≤ x14 ∧ x14 ≤ 2009) (k15 : 0 ≤ x15 ∧ x15 ≤ 5) (k16 : 0 ≤ x16 ∧ x16 ≤ 2009) (k17 : 0 ≤ x17 ∧ x17 ≤ 5) (k18 : 0 ≤ x18 ∧ x18 ≤ 13) (k20 : 1 ≤ x20 ∧ x20 ≤ 5) (d0 : x5 + 1 ≤ x12 ∧ x12 ≤ x5 + 1) (f0 : x20 ≠ 0) (g1 : x20 = fault_0) (f2 : (styleKind_0 = 0) → (styleOne_0 ≤ 23)) (f3 : 1 * x1 + ((-1) * x16 + 0) ≤ 0) (f4 : (-1) * x6 + ((-1) * x16 + 0) ≤ (-2011)) (f5 : RB2 (styleKind_0) (limit_0) (tokenKind_0) (tokenValue_0) (tokenPlace_0) (tokenEnd_0) (tape_0) (x16) (x17) (x18) (x1)) (f6 : 1 * x1 + ((-1) * x14 + 0) ≤ 0) (f7 : (-1) * x6 + ((-1) * x14 + 0) ≤ (-2011)) (f8 : RB1 (styleKind_0) (limit_0) (tokenKind_0) (tokenValue_0) (tokenPlace_0) (tokenEnd_0) (tape_0) (x14) (x15) (x1)) (f9 : (styleKind_0 = 0) → (styleOne_0 ≤ 23)) (f11 : ((cur_0 + 1) ≤ tokens_0) ∧ ((tokens_0 ≤ 2010) ∧ ((tokenKind_0 ((tokens_0 - 1)) = 0) ∨ (tokenKind_0 ((tokens_0 - 1)) = 4)))) (f12 : 1 * x16 + ((-1) * cur_0 + 0) ≤ 0) (f13 : 1 * opened_0 + 0 ≤ 0) (f14 : (-1) * opened_0 + 0 ≤ 0) (f15 : SSM (fault_0) (cur_0) (styleKind_0) (limit_0) (tokenKind_0) (tokenValue_0) (tokenPlace_0) (tokenEnd_0) (tape_0) (x16) (x17) (x18)) (f17 : 1 * x1 + ((-1) * x16 + 0) ≤ 0) (f18 : (-1) * x6 + ((-1) * x16 + 0) ≤ (-2011)) (f19 : 1 * x1 + ((-1) * x14 + 0) ≤ 0) (f20 : (-1) * x6 + ((-1) * x14 + 0) ≤ (-2011)) (f22 : 1 * x1 + ((-1) * x14 + 0) ≤ 0) (f23 : (-1) * x6 + ((-1) * x14 + 0) ≤ (-2011)) (f25 : x12 = x5 + x11) (hK_0_1 : ∀ j : Int, 0 ≤ j → j < 2000 → (-128) ≤ tape_0 j ∧ tape_0 j ≤ 127) (hK_0_160 : ∀ j : Int, 0 ≤ j → j < 2010 → 0 ≤ tokenKind_0 j ∧ tokenKind_0 j ≤ 4) (hK_0_162 : ∀ j : Int, 0 ≤ j → j < 2010 → 0 ≤ tokenPlace_0 j ∧ tokenPlace_0 j ≤ 2000) (hK_0_163 : ∀ j : Int, 0 ≤ j → j < 2010 → 0 ≤ tokenEnd_0 j ∧ tokenEnd_0 j ≤ 2000) (kz_0_8 : 0 ≤ fault_0 ∧ fault_0 ≤ 5) (kz_0_10 : 0 ≤ limit_0 ∧ limit_0 ≤ 2000) (kz_0_157 : 0 ≤ tokens_0 ∧ tokens_0 ≤ 2010) (kz_0_158 : 0 ≤ cur_0 ∧ cur_0 ≤ 2009) (kz_0_159 : 0 ≤ opened_0 ∧ opened_0 ≤ 13) (kz_0_164 : 0 ≤ styleKind_0 ∧ styleKind_0 ≤ 1) (kz_0_165 : (-1) ≤ styleOne_0 ∧ styleOne_0 ≤ 47) (ex2 : gx = 0 + (1 * x6 + 0)) (ex3 : 0 ≤ gx ∧ gx ≤ 2010) : (-1) * gx + ((-1) * cur_0 + 0) ≤ (-2011) := by
  first | with_reducible assumption | ((have f11_c0 := f11.1); (have f11_c1 := f11.2.1); (have f11_c2 := f11.2.2); (try and_intros) <;> first | with_reducible assumption | (clear f11_c2 f11 hK_0_1 hK_0_160 hK_0_162 hK_0_163 f2 f9; omega)) | ((have f11_c0 := f11.1); (have f11_c1 := f11.2.1); (have f11_c2 := f11.2.2); (first | have f2_b := f2 (by clear f11_c2 f11 hK_0_1 hK_0_160 hK_0_162 hK_0_163 f2 f9; omega) | skip); (first | have f9_b := f9 (by clear f11_c2 f11 hK_0_1 hK_0_160 hK_0_162 hK_0_163 f2 f9; omega) | skip); (first | have f2_d := f2 (by with_reducible assumption) | skip); (first | have f9_d := f9 (by with_reducible assumption) | skip); (try and_intros) <;> first | with_reducible assumption | (clear f11_c2 f11 hK_0_1 hK_0_160 hK_0_162 hK_0_163 f2 f9; omega)) | ((have f11_c0 := f11.1); (have f11_c1 := f11.2.1); (have f11_c2 := f11.2.2); (first | have f2_b := f2 (by clear f11_c2 f11 hK_0_1 hK_0_160 hK_0_162 hK_0_163 f2 f9; omega) | skip); (first | have f9_b := f9 (by clear f11_c2 f11 hK_0_1 hK_0_160 hK_0_162 hK_0_163 f2 f9; omega) | skip); (first | have f2_d := f2 (by with_reducible assumption) | skip); (first | have f9_d := f9 (by with_reducible assumption) | skip); (first | have f11_q := tk_nx0 f11 (by clear f11_c2 f11 hK_0_1 hK_0_160 hK_0_162 hK_0_163 f2 f9; omega) | skip); (try and_intros) <;> first | with_reducible assumption | (clear f11_c2 f11 hK_0_1 hK_0_160 hK_0_162 hK_0_163 f2 f9; omega)) | omega
set_option maxHeartbeats 4000000 in
theorem vc_Mo_rule_at_f0_61_6 (x1 : Int) (x5 : Int) (x6 : Int) (x11 : Int) (x12 : Int) (x14 : Int) (x15 : Int) (x16 : Int) (x17 : Int) (x18 : Int) (x20 : Int) (fault_0 : Int) (styleKind_0 : Int) (styleOne_0 : Int) (tokenKind_0 : Int → Int) (tokenValue_0 : Int → Int) (tokenPlace_0 : Int → Int) (tokenEnd_0 : Int → Int) (tape_0 : Int → Int) (limit_0 : Int) (cur_0 : Int) (tokens_0 : Int) (opened_0 : Int) (gx : Int) (k1 : 0 ≤ x1 ∧ x1 ≤ 2009) (k5 : 0 ≤ x5 ∧ x5 ≤ 2009) (k6 : 0 ≤ x6 ∧ x6 ≤ 2010) (k11 : 1 ≤ x11 ∧ x11 ≤ 1) (k12 : 1 ≤ x12 ∧ x12 ≤ 2009) (k14 : 0 ≤ x14 ∧ x14 ≤ 2009) (k15 : 0 ≤ x15 ∧ x15 ≤ 5) (k16 : 0 ≤ x16 ∧ x16 ≤ 2009) (k17 : 0 ≤ x17 ∧ x17 ≤ 5) (k18 : 0 ≤ x18 ∧ x18 ≤ 13) (k20 : 1 ≤ x20 ∧ x20 ≤ 5) (d0 : x5 + 1 ≤ x12 ∧ x12 ≤ x5 + 1) (f0 : x20 ≠ 0) (g1 : x20 = fault_0) (f2 : (styleKind_0 = 0) → (styleOne_0 ≤ 23)) (f3 : 1 * x1 + ((-1) * x16 + 0) ≤ 0) (f4 : (-1) * x6 + ((-1) * x16 + 0) ≤ (-2011)) (f5 : RB2 (styleKind_0) (limit_0) (tokenKind_0) (tokenValue_0) (tokenPlace_0) (tokenEnd_0) (tape_0) (x16) (x17) (x18) (x1)) (f6 : 1 * x1 + ((-1) * x14 + 0) ≤ 0) (f7 : (-1) * x6 + ((-1) * x14 + 0) ≤ (-2011)) (f8 : RB1 (styleKind_0) (limit_0) (tokenKind_0) (tokenValue_0) (tokenPlace_0) (tokenEnd_0) (tape_0) (x14) (x15) (x1)) (f9 : (styleKind_0 = 0) → (styleOne_0 ≤ 23)) (f11 : ((cur_0 + 1) ≤ tokens_0) ∧ ((tokens_0 ≤ 2010) ∧ ((tokenKind_0 ((tokens_0 - 1)) = 0) ∨ (tokenKind_0 ((tokens_0 - 1)) = 4)))) (f12 : 1 * x16 + ((-1) * cur_0 + 0) ≤ 0) (f13 : 1 * opened_0 + 0 ≤ 0) (f14 : (-1) * opened_0 + 0 ≤ 0) (f15 : SSM (fault_0) (cur_0) (styleKind_0) (limit_0) (tokenKind_0) (tokenValue_0) (tokenPlace_0) (tokenEnd_0) (tape_0) (x16) (x17) (x18)) (f17 : 1 * x1 + ((-1) * x16 + 0) ≤ 0) (f18 : (-1) * x6 + ((-1) * x16 + 0) ≤ (-2011)) (f19 : 1 * x1 + ((-1) * x14 + 0) ≤ 0) (f20 : (-1) * x6 + ((-1) * x14 + 0) ≤ (-2011)) (f22 : 1 * x1 + ((-1) * x14 + 0) ≤ 0) (f23 : (-1) * x6 + ((-1) * x14 + 0) ≤ (-2011)) (f25 : x12 = x5 + x11) (hK_0_1 : ∀ j : Int, 0 ≤ j → j < 2000 → (-128) ≤ tape_0 j ∧ tape_0 j ≤ 127) (hK_0_160 : ∀ j : Int, 0 ≤ j → j < 2010 → 0 ≤ tokenKind_0 j ∧ tokenKind_0 j ≤ 4) (hK_0_162 : ∀ j : Int, 0 ≤ j → j < 2010 → 0 ≤ tokenPlace_0 j ∧ tokenPlace_0 j ≤ 2000) (hK_0_163 : ∀ j : Int, 0 ≤ j → j < 2010 → 0 ≤ tokenEnd_0 j ∧ tokenEnd_0 j ≤ 2000) (kz_0_8 : 0 ≤ fault_0 ∧ fault_0 ≤ 5) (kz_0_10 : 0 ≤ limit_0 ∧ limit_0 ≤ 2000) (kz_0_157 : 0 ≤ tokens_0 ∧ tokens_0 ≤ 2010) (kz_0_158 : 0 ≤ cur_0 ∧ cur_0 ≤ 2009) (kz_0_159 : 0 ≤ opened_0 ∧ opened_0 ≤ 13) (kz_0_164 : 0 ≤ styleKind_0 ∧ styleKind_0 ≤ 1) (kz_0_165 : (-1) ≤ styleOne_0 ∧ styleOne_0 ≤ 47) (ex2 : gx = 0 + (1 * x6 + 0)) (ex3 : 0 ≤ gx ∧ gx ≤ 2010) : RDL (fault_0) (cur_0) (styleKind_0) (limit_0) (tokenKind_0) (tokenValue_0) (tokenPlace_0) (tokenEnd_0) (tape_0) (x1) := by
  first
    | exact rb2_go (‹RB2 _ _ _ _ _ _ _ _ _ _ _›) (‹SSM _ _ _ _ _ _ _ _ _ _ _ _›) (by omega)
    | assumption
  
def o_Mo_rule_at_f0_61 : or_T := (275, 21, [(0, (2, 0, 0, [165])), (1, (0, 0, 2009, [])), (2, (2, 0, 0, [165])), (5, (0, 0, 2009, [])), (6, (0, 0, 2010, [])), (11, (0, 1, 1, [])), (12, (0, 1, 2009, [])), (14, (0, 0, 2009, [])), (15, (0, 0, 5, [])), (16, (0, 0, 2009, [])), (17, (0, 0, 5, [])), (18, (0, 0, 13, [])), (20, (0, 1, 5, []))], [(8, [20], [1]), (9, [20, 2], [8]), (20, [2], [50, 2, 0, 164, 165, 4, 7, 1, 3, 2, 0, 164, 0, 0, 0, 3, 2, 0, 165, 0, 23]), (23, [1, 16], [0, 1, -1]), (23, [6, 16], [-2011, -1, -1]), (20, [2, 16, 17, 18, 1], [60, 2, 5, 60, 164, 10, 160, 161, 162, 163, 1]), (23, [1, 14], [0, 1, -1]), (23, [6, 14], [-2011, -1, -1]), (20, [2, 14, 15, 1], [60, 2, 5, 62, 164, 10, 160, 161, 162, 163, 1]), (20, [2], [50, 2, 0, 164, 165, 4, 7, 1, 3, 2, 0, 164, 0, 0, 0, 3, 2, 0, 165, 0, 23]), (24, [0, 2], []), (20, [2], [50, 2, 1, 158, 157, 160, 2, 12, 0, 7, 4, 3, 2, 0, 158, 0, 1, 2, 0, 157, 2, 7, 0, 3, 2, 0, 157, 0, 2010, 3, 14, 1, 10, 3, 0, 160, 5, 3, 2, 0, 157, 0, 1, 0, 0, 1, 10, 3, 0, 160, 5, 3, 2, 0, 157, 0, 1, 0, 4]), (20, [16, 2], [30, 0, 1, 0, 0, -1, 1, 158]), (20, [2], [30, 0, 1, 1, 159]), (20, [2], [30, 0, -1, 1, 159]), (20, [2, 16, 17, 18], [60, 4, 5, 2, 8, 158, 164, 10, 160, 161, 162, 163, 1]), (102, [18], [0, 165008, 165009, 165158, 165159]), (23, [1, 16], [0, 1, -1]), (23, [6, 16], [-2011, -1, -1]), (23, [1, 14], [0, 1, -1]), (23, [6, 14], [-2011, -1, -1]), (102, [15], [0, 165008, 165009, 165158]), (23, [1, 14], [0, 1, -1]), (23, [6, 14], [-2011, -1, -1]), (101, [2, 12], [158]), (1, [12, 5, 11], [])], [], [(0, 0, 2010, [])], [(20, [2], [50, 2, 1, 158, 157, 160, 2, 12, 0, 7, 4, 3, 2, 0, 158, 0, 1, 2, 0, 157, 2, 7, 0, 3, 2, 0, 157, 0, 2010, 3, 14, 1, 10, 3, 0, 160, 5, 3, 2, 0, 157, 0, 1, 0, 0, 1, 10, 3, 0, 160, 5, 3, 2, 0, 157, 0, 1, 0, 4]), (20, [1, 2], [30, 0, 1, 0, 0, -1, 1, 158]), (20, [2], [50, 2, 0, 164, 165, 4, 7, 1, 3, 2, 0, 164, 0, 0, 0, 3, 2, 0, 165, 0, 23]), (20, [2], [30, 0, 1, 1, 159]), (20, [2], [30, 0, -1, 1, 159]), (20, [21, 2], [30, -2011, -1, 0, 0, -1, 1, 158]), (20, [2, 1], [60, 4, 5, 68, 8, 158, 164, 10, 160, 161, 162, 163, 1]), (24, [0, 2], [])], [(21, 6, 0, 0)], [(12, 5, 1, 1)])
theorem oo_Mo_rule_at_f0_61 {kA : Nat → ClassId} : or_ok PRD kA GG o_Mo_rule_at_f0_61 := by
  refine or_mk fun A ta ws vs hD hth hl => ?_
  intro t0 r0 t1 k1 t2 r2 t5 k5 t6 k6 t11 k11 t12 k12 t14 k14 t15 k15 t16 k16 t17 k17 t18 k18 t20 k20 d0 f0 f1 f2 f3 f4 f5 f6 f7 f8 f9 f10 f11 f12 f13 f14 f15 ta1 w1 le1 s1 f17 f18 f19 f20 ta2 w2 le2 s2 f22 f23 ta3 w3 le3 s3 f25
  replace f0 := shm_142 f0
  replace f1 := shm_293 f1
  replace f2 := shm_274 f2
  replace f3 := shm_7 f3
  replace f4 := shm_290 f4
  replace f5 := shm_2271 f5
  replace f6 := shm_7 f6
  replace f7 := shm_290 f7
  replace f8 := shm_2270 f8
  replace f9 := shm_274 f9
  replace f10 := shm_5 f10
  replace f11 := shm_271 f11
  replace f12 := shm_281 f12
  replace f13 := shm_1029 f13
  replace f14 := shm_1030 f14
  replace f15 := shm_299 f15
  replace f17 := shm_7 f17
  replace f18 := shm_290 f18
  replace f19 := shm_7 f19
  replace f20 := shm_290 f20
  replace f22 := shm_7 f22
  replace f23 := shm_290 f23
  have s3 : (∀ b j, w_el w2 b j = w_el w3 b j) ∧ ∀ b j, w_fd w2 b j = if b = v_ad (n_v vs 2) ∧ j = 158 then n_v vs 12 else w_fd w3 b j := s3.2
  replace f25 := shm_12 f25
  have q2 : n_v vs 2 = n_v vs 0 := f10.symm
  simp only [q2] at f1 f2 f5 f8 f9 f11 f12 f13 f14 f15
  rw [q2] at s3
  have cr_0_1 := fdq_39 hD hth r0
  have cr_0_160 := fdq_33 hD hth r0
  have cr_0_161 := fdq_40 hD hth r0
  have cr_0_162 := fdq_41 hD hth r0
  have cr_0_163 := fdq_42 hD hth r0
  have g1 : v_iv (n_v vs 20) = w_fi ws (n_v vs 0) 8 := congrArg v_iv f1
  have hK_0_1 := elq_7 hD hth cr_0_1
  have hK_0_160 := elq_6 hD hth cr_0_160
  have hK_0_162 := elq_8 hD hth cr_0_162
  have hK_0_163 := elq_9 hD hth cr_0_163
  have kz_0_8 := fdq_34 hD hth r0
  have kz_0_10 := fdq_43 hD hth r0
  have kz_0_157 := fdq_35 hD hth r0
  have kz_0_158 := fdq_36 hD hth r0
  have kz_0_159 := fdq_37 hD hth r0
  have kz_0_164 := fdq_38 hD hth r0
  have kz_0_165 := fdq_27 hD hth r0
  obtain ⟨x, ex, hx⟩ := iv_ex (ta := ta) (lo := 0) (hi := 2010) (z := 0 + (1 * v_iv (n_v vs 6) + 0)) (by omega) (by omega) (by omega) (by omega)
  have ex2 : v_iv (Value.int x) = 0 + (1 * v_iv (n_v vs 6) + 0) := ex
  have ex3 : 0 ≤ v_iv (Value.int x) ∧ v_iv (Value.int x) ≤ 2010 := tv_rng hx
  have e_0 : n_v (vs ++ [Value.int x]) 0 = n_v vs 0 := n_v_old (by rw [hl]; decide)
  have e_1 : n_v (vs ++ [Value.int x]) 1 = n_v vs 1 := n_v_old (by rw [hl]; decide)
  have e_2 : n_v (vs ++ [Value.int x]) 2 = n_v vs 2 := n_v_old (by rw [hl]; decide)
  have e_21 : n_v (vs ++ [Value.int x]) 21 = Value.int x := n_v_new hl
  have nf0 : fc_1 PRD (20, [2], [50, 2, 1, 158, 157, 160, 2, 12, 0, 7, 4, 3, 2, 0, 158, 0, 1, 2, 0, 157, 2, 7, 0, 3, 2, 0, 157, 0, 2010, 3, 14, 1, 10, 3, 0, 160, 5, 3, 2, 0, 157, 0, 1, 0, 0, 1, 10, 3, 0, 160, 5, 3, 2, 0, 157, 0, 1, 0, 4]) ws (vs ++ [Value.int x]) := by
    refine ⟨nf_inA hl rfl, sgq_271 ?_⟩
    · show ((w_fi ws (n_v (vs ++ [Value.int x]) 2) 158 + 1) ≤ w_fi ws (n_v (vs ++ [Value.int x]) 2) 157) ∧ ((w_fi ws (n_v (vs ++ [Value.int x]) 2) 157 ≤ 2010) ∧ ((w_ei ws (w_ar ws (n_v (vs ++ [Value.int x]) 2) 160) ((w_fi ws (n_v (vs ++ [Value.int x]) 2) 157 - 1)) = 0) ∨ (w_ei ws (w_ar ws (n_v (vs ++ [Value.int x]) 2) 160) ((w_fi ws (n_v (vs ++ [Value.int x]) 2) 157 - 1)) = 4)))
      simp only [e_2, q2]
      exact vc_Mo_rule_at_f0_61_0 (v_iv (n_v vs 1)) (v_iv (n_v vs 5)) (v_iv (n_v vs 6)) (v_iv (n_v vs 11)) (v_iv (n_v vs 12)) (v_iv (n_v vs 14)) (v_iv (n_v vs 15)) (v_iv (n_v vs 16)) (v_iv (n_v vs 17)) (v_iv (n_v vs 18)) (v_iv (n_v vs 20)) (w_fi ws (n_v vs 0) 8) (w_fi ws (n_v vs 0) 164) (w_fi ws (n_v vs 0) 165) (w_ei ws (w_ar ws (n_v vs 0) 160)) (w_ei ws (w_ar ws (n_v vs 0) 161)) (w_ei ws (w_ar ws (n_v vs 0) 162)) (w_ei ws (w_ar ws (n_v vs 0) 163)) (w_ei ws (w_ar ws (n_v vs 0) 1)) (w_fi ws (n_v vs 0) 10) (w_fi ws (n_v vs 0) 158) (w_fi ws (n_v vs 0) 157) (w_fi ws (n_v vs 0) 159) (v_iv (Value.int x)) k1 k5 k6 k11 k12 k14 k15 k16 k17 k18 k20 d0 f0 g1 f2 f3 f4 f5 f6 f7 f8 f9 f11 f12 f13 f14 f15 f17 f18 f19 f20 f22 f23 f25 hK_0_1 hK_0_160 hK_0_162 hK_0_163 kz_0_8 kz_0_10 kz_0_157 kz_0_158 kz_0_159 kz_0_164 kz_0_165 ex2 ex3
  have nf1 : fc_1 PRD (20, [1, 2], [30, 0, 1, 0, 0, -1, 1, 158]) ws (vs ++ [Value.int x]) := by
    refine ⟨nf_inA hl rfl, sgq_281 ?_⟩
    · show 1 * v_iv (n_v (vs ++ [Value.int x]) 1) + ((-1) * w_fi ws (n_v (vs ++ [Value.int x]) 2) 158 + 0) ≤ 0
      simp only [e_1, e_2, q2]
      exact vc_Mo_rule_at_f0_61_1 (v_iv (n_v vs 1)) (v_iv (n_v vs 5)) (v_iv (n_v vs 6)) (v_iv (n_v vs 11)) (v_iv (n_v vs 12)) (v_iv (n_v vs 14)) (v_iv (n_v vs 15)) (v_iv (n_v vs 16)) (v_iv (n_v vs 17)) (v_iv (n_v vs 18)) (v_iv (n_v vs 20)) (w_fi ws (n_v vs 0) 8) (w_fi ws (n_v vs 0) 164) (w_fi ws (n_v vs 0) 165) (w_ei ws (w_ar ws (n_v vs 0) 160)) (w_ei ws (w_ar ws (n_v vs 0) 161)) (w_ei ws (w_ar ws (n_v vs 0) 162)) (w_ei ws (w_ar ws (n_v vs 0) 163)) (w_ei ws (w_ar ws (n_v vs 0) 1)) (w_fi ws (n_v vs 0) 10) (w_fi ws (n_v vs 0) 158) (w_fi ws (n_v vs 0) 157) (w_fi ws (n_v vs 0) 159) (v_iv (Value.int x)) k1 k5 k6 k11 k12 k14 k15 k16 k17 k18 k20 d0 f0 g1 f2 f3 f4 f5 f6 f7 f8 f9 f11 f12 f13 f14 f15 f17 f18 f19 f20 f22 f23 f25 hK_0_1 hK_0_160 hK_0_162 hK_0_163 kz_0_8 kz_0_10 kz_0_157 kz_0_158 kz_0_159 kz_0_164 kz_0_165 ex2 ex3
  have nf2 : fc_1 PRD (20, [2], [50, 2, 0, 164, 165, 4, 7, 1, 3, 2, 0, 164, 0, 0, 0, 3, 2, 0, 165, 0, 23]) ws (vs ++ [Value.int x]) := by
    refine ⟨nf_inA hl rfl, sgq_274 ?_⟩
    · show (w_fi ws (n_v (vs ++ [Value.int x]) 2) 164 = 0) → (w_fi ws (n_v (vs ++ [Value.int x]) 2) 165 ≤ 23)
      simp only [e_2, q2]
      exact vc_Mo_rule_at_f0_61_2 (v_iv (n_v vs 1)) (v_iv (n_v vs 5)) (v_iv (n_v vs 6)) (v_iv (n_v vs 11)) (v_iv (n_v vs 12)) (v_iv (n_v vs 14)) (v_iv (n_v vs 15)) (v_iv (n_v vs 16)) (v_iv (n_v vs 17)) (v_iv (n_v vs 18)) (v_iv (n_v vs 20)) (w_fi ws (n_v vs 0) 8) (w_fi ws (n_v vs 0) 164) (w_fi ws (n_v vs 0) 165) (w_ei ws (w_ar ws (n_v vs 0) 160)) (w_ei ws (w_ar ws (n_v vs 0) 161)) (w_ei ws (w_ar ws (n_v vs 0) 162)) (w_ei ws (w_ar ws (n_v vs 0) 163)) (w_ei ws (w_ar ws (n_v vs 0) 1)) (w_fi ws (n_v vs 0) 10) (w_fi ws (n_v vs 0) 158) (w_fi ws (n_v vs 0) 157) (w_fi ws (n_v vs 0) 159) (v_iv (Value.int x)) k1 k5 k6 k11 k12 k14 k15 k16 k17 k18 k20 d0 f0 g1 f2 f3 f4 f5 f6 f7 f8 f9 f11 f12 f13 f14 f15 f17 f18 f19 f20 f22 f23 f25 hK_0_1 hK_0_160 hK_0_162 hK_0_163 kz_0_8 kz_0_10 kz_0_157 kz_0_158 kz_0_159 kz_0_164 kz_0_165 ex2 ex3
  have nf3 : fc_1 PRD (20, [2], [30, 0, 1, 1, 159]) ws (vs ++ [Value.int x]) := by
    refine ⟨nf_inA hl rfl, sgq_1029 ?_⟩
    · show 1 * w_fi ws (n_v (vs ++ [Value.int x]) 2) 159 + 0 ≤ 0
      simp only [e_2, q2]
      exact vc_Mo_rule_at_f0_61_3 (v_iv (n_v vs 1)) (v_iv (n_v vs 5)) (v_iv (n_v vs 6)) (v_iv (n_v vs 11)) (v_iv (n_v vs 12)) (v_iv (n_v vs 14)) (v_iv (n_v vs 15)) (v_iv (n_v vs 16)) (v_iv (n_v vs 17)) (v_iv (n_v vs 18)) (v_iv (n_v vs 20)) (w_fi ws (n_v vs 0) 8) (w_fi ws (n_v vs 0) 164) (w_fi ws (n_v vs 0) 165) (w_ei ws (w_ar ws (n_v vs 0) 160)) (w_ei ws (w_ar ws (n_v vs 0) 161)) (w_ei ws (w_ar ws (n_v vs 0) 162)) (w_ei ws (w_ar ws (n_v vs 0) 163)) (w_ei ws (w_ar ws (n_v vs 0) 1)) (w_fi ws (n_v vs 0) 10) (w_fi ws (n_v vs 0) 158) (w_fi ws (n_v vs 0) 157) (w_fi ws (n_v vs 0) 159) (v_iv (Value.int x)) k1 k5 k6 k11 k12 k14 k15 k16 k17 k18 k20 d0 f0 g1 f2 f3 f4 f5 f6 f7 f8 f9 f11 f12 f13 f14 f15 f17 f18 f19 f20 f22 f23 f25 hK_0_1 hK_0_160 hK_0_162 hK_0_163 kz_0_8 kz_0_10 kz_0_157 kz_0_158 kz_0_159 kz_0_164 kz_0_165 ex2 ex3
  have nf4 : fc_1 PRD (20, [2], [30, 0, -1, 1, 159]) ws (vs ++ [Value.int x]) := by
    refine ⟨nf_inA hl rfl, sgq_1030 ?_⟩
    · show (-1) * w_fi ws (n_v (vs ++ [Value.int x]) 2) 159 + 0 ≤ 0
      simp only [e_2, q2]
      exact vc_Mo_rule_at_f0_61_4 (v_iv (n_v vs 1)) (v_iv (n_v vs 5)) (v_iv (n_v vs 6)) (v_iv (n_v vs 11)) (v_iv (n_v vs 12)) (v_iv (n_v vs 14)) (v_iv (n_v vs 15)) (v_iv (n_v vs 16)) (v_iv (n_v vs 17)) (v_iv (n_v vs 18)) (v_iv (n_v vs 20)) (w_fi ws (n_v vs 0) 8) (w_fi ws (n_v vs 0) 164) (w_fi ws (n_v vs 0) 165) (w_ei ws (w_ar ws (n_v vs 0) 160)) (w_ei ws (w_ar ws (n_v vs 0) 161)) (w_ei ws (w_ar ws (n_v vs 0) 162)) (w_ei ws (w_ar ws (n_v vs 0) 163)) (w_ei ws (w_ar ws (n_v vs 0) 1)) (w_fi ws (n_v vs 0) 10) (w_fi ws (n_v vs 0) 158) (w_fi ws (n_v vs 0) 157) (w_fi ws (n_v vs 0) 159) (v_iv (Value.int x)) k1 k5 k6 k11 k12 k14 k15 k16 k17 k18 k20 d0 f0 g1 f2 f3 f4 f5 f6 f7 f8 f9 f11 f12 f13 f14 f15 f17 f18 f19 f20 f22 f23 f25 hK_0_1 hK_0_160 hK_0_162 hK_0_163 kz_0_8 kz_0_10 kz_0_157 kz_0_158 kz_0_159 kz_0_164 kz_0_165 ex2 ex3
  have nf5 : fc_1 PRD (20, [21, 2], [30, -2011, -1, 0, 0, -1, 1, 158]) ws (vs ++ [Value.int x]) := by
    refine ⟨nf_inA hl rfl, sgq_292 ?_⟩
    · show (-1) * v_iv (n_v (vs ++ [Value.int x]) 21) + ((-1) * w_fi ws (n_v (vs ++ [Value.int x]) 2) 158 + 0) ≤ (-2011)
      simp only [e_2, e_21, q2]
      exact vc_Mo_rule_at_f0_61_5 (v_iv (n_v vs 1)) (v_iv (n_v vs 5)) (v_iv (n_v vs 6)) (v_iv (n_v vs 11)) (v_iv (n_v vs 12)) (v_iv (n_v vs 14)) (v_iv (n_v vs 15)) (v_iv (n_v vs 16)) (v_iv (n_v vs 17)) (v_iv (n_v vs 18)) (v_iv (n_v vs 20)) (w_fi ws (n_v vs 0) 8) (w_fi ws (n_v vs 0) 164) (w_fi ws (n_v vs 0) 165) (w_ei ws (w_ar ws (n_v vs 0) 160)) (w_ei ws (w_ar ws (n_v vs 0) 161)) (w_ei ws (w_ar ws (n_v vs 0) 162)) (w_ei ws (w_ar ws (n_v vs 0) 163)) (w_ei ws (w_ar ws (n_v vs 0) 1)) (w_fi ws (n_v vs 0) 10) (w_fi ws (n_v vs 0) 158) (w_fi ws (n_v vs 0) 157) (w_fi ws (n_v vs 0) 159) (v_iv (Value.int x)) k1 k5 k6 k11 k12 k14 k15 k16 k17 k18 k20 d0 f0 g1 f2 f3 f4 f5 f6 f7 f8 f9 f11 f12 f13 f14 f15 f17 f18 f19 f20 f22 f23 f25 hK_0_1 hK_0_160 hK_0_162 hK_0_163 kz_0_8 kz_0_10 kz_0_157 kz_0_158 kz_0_159 kz_0_164 kz_0_165 ex2 ex3
  have nf6 : fc_1 PRD (20, [2, 1], [60, 4, 5, 68, 8, 158, 164, 10, 160, 161, 162, 163, 1]) ws (vs ++ [Value.int x]) := by
    refine ⟨nf_inA hl rfl, sgq_2272 ?_⟩
    · show RDL (w_fi ws (n_v (vs ++ [Value.int x]) 2) 8) (w_fi ws (n_v (vs ++ [Value.int x]) 2) 158) (w_fi ws (n_v (vs ++ [Value.int x]) 2) 164) (w_fi ws (n_v (vs ++ [Value.int x]) 2) 10) (w_ei ws (w_ar ws (n_v (vs ++ [Value.int x]) 2) 160)) (w_ei ws (w_ar ws (n_v (vs ++ [Value.int x]) 2) 161)) (w_ei ws (w_ar ws (n_v (vs ++ [Value.int x]) 2) 162)) (w_ei ws (w_ar ws (n_v (vs ++ [Value.int x]) 2) 163)) (w_ei ws (w_ar ws (n_v (vs ++ [Value.int x]) 2) 1)) (v_iv (n_v (vs ++ [Value.int x]) 1))
      simp only [e_1, e_2, q2]
      exact vc_Mo_rule_at_f0_61_6 (v_iv (n_v vs 1)) (v_iv (n_v vs 5)) (v_iv (n_v vs 6)) (v_iv (n_v vs 11)) (v_iv (n_v vs 12)) (v_iv (n_v vs 14)) (v_iv (n_v vs 15)) (v_iv (n_v vs 16)) (v_iv (n_v vs 17)) (v_iv (n_v vs 18)) (v_iv (n_v vs 20)) (w_fi ws (n_v vs 0) 8) (w_fi ws (n_v vs 0) 164) (w_fi ws (n_v vs 0) 165) (w_ei ws (w_ar ws (n_v vs 0) 160)) (w_ei ws (w_ar ws (n_v vs 0) 161)) (w_ei ws (w_ar ws (n_v vs 0) 162)) (w_ei ws (w_ar ws (n_v vs 0) 163)) (w_ei ws (w_ar ws (n_v vs 0) 1)) (w_fi ws (n_v vs 0) 10) (w_fi ws (n_v vs 0) 158) (w_fi ws (n_v vs 0) 157) (w_fi ws (n_v vs 0) 159) (v_iv (Value.int x)) k1 k5 k6 k11 k12 k14 k15 k16 k17 k18 k20 d0 f0 g1 f2 f3 f4 f5 f6 f7 f8 f9 f11 f12 f13 f14 f15 f17 f18 f19 f20 f22 f23 f25 hK_0_1 hK_0_160 hK_0_162 hK_0_163 kz_0_8 kz_0_10 kz_0_157 kz_0_158 kz_0_159 kz_0_164 kz_0_165 ex2 ex3
  have nf7 : fc_1 PRD (24, [0, 2], []) ws (vs ++ [Value.int x]) := by
    refine ⟨nf_inA hl rfl, sgq_5 ?_⟩
    · show n_v (vs ++ [Value.int x]) 0 = n_v (vs ++ [Value.int x]) 2
      first | rfl | simp only [e_0, e_2, q2]
  obtain ⟨x0, e0, _, _⟩ := tv_int t6 rfl
  have e1 : v_iv (n_v vs 6) = x0.toInt := by rw [e0]; rfl
  have ho : sy_ofs (vs ++ [Value.int x]) (21, 6, 0, 0) := by
    refine ⟨x, x0, by rw [List.getElem?_append_right (by rw [hl]; decide), hl]; rfl, ?_, ?_, ?_⟩
    · rw [List.getElem?_append_left (by rw [hl]; decide)]; exact n_v_some (by rw [hl]; decide) e0
    · show x0.toInt + 0 ≤ x.toInt; omega
    · show x.toInt ≤ x0.toInt + 0; omega
  exact ⟨(fun _ h => (by cases h)), [Value.int x], ag_one hx, List.forall_mem_cons.mpr ⟨⟨show (20 : Nat) < 100 from by decide, nf0⟩, List.forall_mem_cons.mpr ⟨⟨show (20 : Nat) < 100 from by decide, nf1⟩, List.forall_mem_cons.mpr ⟨⟨show (20 : Nat) < 100 from by decide, nf2⟩, List.forall_mem_cons.mpr ⟨⟨show (20 : Nat) < 100 from by decide, nf3⟩, List.forall_mem_cons.mpr ⟨⟨show (20 : Nat) < 100 from by decide, nf4⟩, List.forall_mem_cons.mpr ⟨⟨show (20 : Nat) < 100 from by decide, nf5⟩, List.forall_mem_cons.mpr ⟨⟨show (20 : Nat) < 100 from by decide, nf6⟩, List.forall_mem_cons.mpr ⟨⟨show (24 : Nat) < 100 from by decide, nf7⟩, (fun _ h => (by cases h))⟩⟩⟩⟩⟩⟩⟩⟩, List.forall_mem_cons.mpr ⟨ho, (fun _ h => (by cases h))⟩⟩
set_option maxHeartbeats 4000000 in
theorem vc_Mo_rule_at_f0_62_0 (x1 : Int) (x5 : Int) (x6 : Int) (x11 : Int) (x12 : Int) (x14 : Int) (x15 : Int) (x16 : Int) (x17 : Int) (x18 : Int) (x20 : Int) (x21 : Int) (styleOne_0 : Int) (fault_0 : Int) (styleKind_0 : Int) (tokenKind_0 : Int → Int) (tokenValue_0 : Int → Int) (tokenPlace_0 : Int → Int) (tokenEnd_0 : Int → Int) (tape_0 : Int → Int) (limit_0 : Int) (cur_0 : Int) (tokens_0 : Int) (opened_0 : Int) (gx : Int) (k1 : 0 ≤ x1 ∧ x1 ≤ 2009) (k5 : 0 ≤ x5 ∧ x5 ≤ 2009) (k6 : 0 ≤ x6 ∧ x6 ≤ 2010) (k11 : 1 ≤ x11 ∧ x11 ≤ 1) (k12 : 1 ≤ x12 ∧ x12 ≤ 2009) (k14 : 0 ≤ x14 ∧ x14 ≤ 2009) (k15 : 0 ≤ x15 ∧ x15 ≤ 5) (k16 : 0 ≤ x16 ∧ x16 ≤ 2009) (k17 : 0 ≤ x17 ∧ x17 ≤ 5) (k18 : 0 ≤ x18 ∧ x18 ≤ 13) (k20 : 0 ≤ x20 ∧ x20 ≤ 0) (k21 : (-1) ≤ x21 ∧ x21 ≤ (-1)) (d0 : x5 + 1 ≤ x12 ∧ x12 ≤ x5 + 1) (f0 : x21 < 0) (g1 : x21 = styleOne_0) (f2 : x20 = 0) (g3 : x20 = fault_0) (f4 : (styleKind_0 = 0) → (styleOne_0 ≤ 23)) (f5 : 1 * x1 + ((-1) * x16 + 0) ≤ 0) (f6 : (-1) * x6 + ((-1) * x16 + 0) ≤ (-2011)) (f7 : RB2 (styleKind_0) (limit_0) (tokenKind_0) (tokenValue_0) (tokenPlace_0) (tokenEnd_0) (tape_0) (x16) (x17) (x18) (x1)) (f8 : 1 * x1 + ((-1) * x14 + 0) ≤ 0) (f9 : (-1) * x6 + ((-1) * x14 + 0) ≤ (-2011)) (f10 : RB1 (styleKind_0) (limit_0) (tokenKind_0) (tokenValue_0) (tokenPlace_0) (tokenEnd_0) (tape_0) (x14) (x15) (x1)) (f11 : (styleKind_0 = 0) → (styleOne_0 ≤ 23)) (f13 : ((cur_0 + 1) ≤ tokens_0) ∧ ((tokens_0 ≤ 2010) ∧ ((tokenKind_0 ((tokens_0 - 1)) = 0) ∨ (tokenKind_0 ((tokens_0 - 1)) = 4)))) (f14 : 1 * x16 + ((-1) * cur_0 + 0) ≤ 0) (f15 : 1 * opened_0 + 0 ≤ 0) (f16 : (-1) * opened_0 + 0 ≤ 0) (f17 : SSM (fault_0) (cur_0) (styleKind_0) (limit_0) (tokenKind_0) (tokenValue_0) (tokenPlace_0) (tokenEnd_0) (tape_0) (x16) (x17) (x18)) (f19 : 1 * x1 + ((-1) * x16 + 0) ≤ 0) (f20 : (-1) * x6 + ((-1) * x16 + 0) ≤ (-2011)) (f21 : 1 * x1 + ((-1) * x14 + 0) ≤ 0) (f22 : (-1) * x6 + ((-1) * x14 + 0) ≤ (-2011)) (f24 : 1 * x1 + ((-1) * x14 + 0) ≤ 0) (f25 : (-1) * x6 + ((-1) * x14 + 0) ≤ (-2011)) (f27 : x12 = x5 + x11) (hK_0_1 : ∀ j : Int, 0 ≤ j → j < 2000 → (-128) ≤ tape_0 j ∧ tape_0 j ≤ 127) (hK_0_160 : ∀ j : Int, 0 ≤ j → j < 2010 → 0 ≤ tokenKind_0 j ∧ tokenKind_0 j ≤ 4) (hK_0_162 : ∀ j : Int, 0 ≤ j → j < 2010 → 0 ≤ tokenPlace_0 j ∧ tokenPlace_0 j ≤ 2000) (hK_0_163 : ∀ j : Int, 0 ≤ j → j < 2010 → 0 ≤ tokenEnd_0 j ∧ tokenEnd_0 j ≤ 2000) (kz_0_8 : 0 ≤ fault_0 ∧ fault_0 ≤ 5) (kz_0_10 : 0 ≤ limit_0 ∧ limit_0 ≤ 2000) (kz_0_157 : 0 ≤ tokens_0 ∧ tokens_0 ≤ 2010) (kz_0_158 : 0 ≤ cur_0 ∧ cur_0 ≤ 2009) (kz_0_159 : 0 ≤ opened_0 ∧ opened_0 ≤ 13) (kz_0_164 : 0 ≤ styleKind_0 ∧ styleKind_0 ≤ 1) (kz_0_165 : (-1) ≤ styleOne_0 ∧ styleOne_0 ≤ 47) (ex2 : gx = 0 + (1 * x6 + 0)) (ex3 : 0 ≤ gx ∧ gx ≤ 2010) : ((cur_0 + 1) ≤ tokens_0) ∧ ((tokens_0 ≤ 2010) ∧ ((tokenKind_0 ((tokens_0 - 1)) = 0) ∨ (tokenKind_0 ((tokens_0 - 1)) = 4))) := by
  first | with_reducible assumption | ((have f13_c0 := f13.1); (have f13_c1 := f13.2.1); (have f13_c2 := f13.2.2); (try and_intros) <;> first | with_reducible assumption | (clear f13_c2 f13 hK_0_1 hK_0_160 hK_0_162 hK_0_163 f4 f11; omega)) | ((have f13_c0 := f13.1); (have f13_c1 := f13.2.1); (have f13_c2 := f13.2.2); (first | have f4_b := f4 (by clear f13_c2 f13 hK_0_1 hK_0_160 hK_0_162 hK_0_163 f4 f11; omega) | skip); (first | have f11_b := f11 (by clear f13_c2 f13 hK_0_1 hK_0_160 hK_0_162 hK_0_163 f4 f11; omega) | skip); (first | have f4_d := f4 (by with_reducible assumption) | skip); (first | have f11_d := f11 (by with_reducible assumption) | skip); (try and_intros) <;> first | with_reducible assumption | (clear f13_c2 f13 hK_0_1 hK_0_160 hK_0_162 hK_0_163 f4 f11; omega)) | ((have f13_c0 := f13.1); (have f13_c1 := f13.2.1); (have f13_c2 := f13.2.2); (first | have f4_b := f4 (by clear f13_c2 f13 hK_0_1 hK_0_160 hK_0_162 hK_0_163 f4 f11; omega) | skip); (first | have f11_b := f11 (by clear f13_c2 f13 hK_0_1 hK_0_160 hK_0_162 hK_0_163 f4 f11; omega) | skip); (first | have f4_d := f4 (by with_reducible assumption) | skip); (first | have f11_d := f11 (by with_reducible assumption) | skip); (first | have f13_q := tk_nx0 f13 (by clear f13_c2 f13 hK_0_1 hK_0_160 hK_0_162 hK_0_163 f4 f11; omega) | skip); (try and_intros) <;> first | with_reducible assumption | (clear f13_c2 f13 hK_0_1 hK_0_160 hK_0_162 hK_0_163 f4 f11; omega)) | omega
set_option maxHeartbeats 4000000 in
theorem vc_Mo_rule_at_f0_62_1 (x1 : Int) (x5 : Int) (x6 : Int) (x11 : Int) (x12 : Int) (x14 : Int) (x15 : Int) (x16 : Int) (x17 : Int) (x18 : Int) (x20 : Int) (x21 : Int) (styleOne_0 : Int) (fault_0 : Int) (styleKind_0 : Int) (tokenKind_0 : Int → Int) (tokenValue_0 : Int → Int) (tokenPlace_0 : Int → Int) (tokenEnd_0 : Int → Int) (tape_0 : Int → Int) (limit_0 : Int) (cur_0 : Int) (tokens_0 : Int) (opened_0 : Int) (gx : Int) (k1 : 0 ≤ x1 ∧ x1 ≤ 2009) (k5 : 0 ≤ x5 ∧ x5 ≤ 2009) (k6 : 0 ≤ x6 ∧ x6 ≤ 2010) (k11 : 1 ≤ x11 ∧ x11 ≤ 1) (k12 : 1 ≤ x12 ∧ x12 ≤ 2009) (k14 : 0 ≤ x14 ∧ x14 ≤ 2009) (k15 : 0 ≤ x15 ∧ x15 ≤ 5) (k16 : 0 ≤ x16 ∧ x16 ≤ 2009) (k17 : 0 ≤ x17 ∧ x17 ≤ 5) (k18 : 0 ≤ x18 ∧ x18 ≤ 13) (k20 : 0 ≤ x20 ∧ x20 ≤ 0) (k21 : (-1) ≤ x21 ∧ x21 ≤ (-1)) (d0 : x5 + 1 ≤ x12 ∧ x12 ≤ x5 + 1) (f0 : x21 < 0) (g1 : x21 = styleOne_0) (f2 : x20 = 0) (g3 : x20 = fault_0) (f4 : (styleKind_0 = 0) → (styleOne_0 ≤ 23)) (f5 : 1 * x1 + ((-1) * x16 + 0) ≤ 0) (f6 : (-1) * x6 + ((-1) * x16 + 0) ≤ (-2011)) (f7 : RB2 (styleKind_0) (limit_0) (tokenKind_0) (tokenValue_0) (tokenPlace_0) (tokenEnd_0) (tape_0) (x16) (x17) (x18) (x1)) (f8 : 1 * x1 + ((-1) * x14 + 0) ≤ 0) (f9 : (-1) * x6 + ((-1) * x14 + 0) ≤ (-2011)) (f10 : RB1 (styleKind_0) (limit_0) (tokenKind_0) (tokenValue_0) (tokenPlace_0) (tokenEnd_0) (tape_0) (x14) (x15) (x1)) (f11 : (styleKind_0 = 0) → (styleOne_0 ≤ 23)) (f13 : ((cur_0 + 1) ≤ tokens_0) ∧ ((tokens_0 ≤ 2010) ∧ ((tokenKind_0 ((tokens_0 - 1)) = 0) ∨ (tokenKind_0 ((tokens_0 - 1)) = 4)))) (f14 : 1 * x16 + ((-1) * cur_0 + 0) ≤ 0) (f15 : 1 * opened_0 + 0 ≤ 0) (f16 : (-1) * opened_0 + 0 ≤ 0) (f17 : SSM (fault_0) (cur_0) (styleKind_0) (limit_0) (tokenKind_0) (tokenValue_0) (tokenPlace_0) (tokenEnd_0) (tape_0) (x16) (x17) (x18)) (f19 : 1 * x1 + ((-1) * x16 + 0) ≤ 0) (f20 : (-1) * x6 + ((-1) * x16 + 0) ≤ (-2011)) (f21 : 1 * x1 + ((-1) * x14 + 0) ≤ 0) (f22 : (-1) * x6 + ((-1) * x14 + 0) ≤ (-2011)) (f24 : 1 * x1 + ((-1) * x14 + 0) ≤ 0) (f25 : (-1) * x6 + ((-1) * x14 + 0) ≤ (-2011)) (f27 : x12 = x5 + x11) (hK_0_1 : ∀ j : Int, 0 ≤ j → j < 2000 → (-128) ≤ tape_0 j ∧ tape_0 j ≤ 127) (hK_0_160 : ∀ j : Int, 0 ≤ j → j < 2010 → 0 ≤ tokenKind_0 j ∧ tokenKind_0 j ≤ 4) (hK_0_162 : ∀ j : Int, 0 ≤ j → j < 2010 → 0 ≤ tokenPlace_0 j ∧ tokenPlace_0 j ≤ 2000) (hK_0_163 : ∀ j : Int, 0 ≤ j → j < 2010 → 0 ≤ tokenEnd_0 j ∧ tokenEnd_0 j ≤ 2000) (kz_0_8 : 0 ≤ fault_0 ∧ fault_0 ≤ 5) (kz_0_10 : 0 ≤ limit_0 ∧ limit_0 ≤ 2000) (kz_0_157 : 0 ≤ tokens_0 ∧ tokens_0 ≤ 2010) (kz_0_158 : 0 ≤ cur_0 ∧ cur_0 ≤ 2009) (kz_0_159 : 0 ≤ opened_0 ∧ opened_0 ≤ 13) (kz_0_164 : 0 ≤ styleKind_0 ∧ styleKind_0 ≤ 1) (kz_0_165 : (-1) ≤ styleOne_0 ∧ styleOne_0 ≤ 47) (ex2 : gx = 0 + (1 * x6 + 0)) (ex3 : 0 ≤ gx ∧ gx ≤ 2010) : 1 * x1 + ((-1) * cur_0 + 0) ≤ 0 := by
  first | with_reducible assumption | ((have f13_c0 := f13.1); (have f13_c1 := f13.2.1); (have f13_c2 := f13.2.2); (try and_intros) <;> first | with_reducible assumption | (clear f13_c2 f13 hK_0_1 hK_0_160 hK_0_162 hK_0_163 f4 f11; omega)) | ((have f13_c0 := f13.1); (have f13_c1 := f13.2.1); (have f13_c2 := f13.2.2); (first | have f4_b := f4 (by clear f13_c2 f13 hK_0_1 hK_0_160 hK_0_162 hK_0_163 f4 f11; omega) | skip); (first | have f11_b := f11 (by clear f13_c2 f13 hK_0_1 hK_0_160 hK_0_162 hK_0_163 f4 f11; omega) | skip); (first | have f4_d := f4 (by with_reducible assumption) | skip); (first | have f11_d := f11 (by with_reducible assumption) | skip); (try and_intros) <;> first | with_reducible assumption | (clear f13_c2 f13 hK_0_1 hK_0_160 hK_0_162 hK_0_163 f4 f11; omega)) | ((have f13_c0 := f13.1); (have f13_c1 := f13.2.1); (have f13_c2 := f13.2.2); (first | have f4_b := f4 (by clear f13_c2 f13 hK_0_1 hK_0_160 hK_0_162 hK_0_163 f4 f11; omega) | skip); (first | have f11_b := f11 (by clear f13_c2 f13 hK_0_1 hK_0_160 hK_0_162 hK_0_163 f4 f11; omega) | skip); (first | have f4_d := f4 (by with_reducible assumption) | skip); (first | have f11_d := f11 (by with_reducible assumption) | skip); (first | have f13_q := tk_nx0 f13 (by clear f13_c2 f13 hK_0_1 hK_0_160 hK_0_162 hK_0_163 f4 f11; omega) | skip); (try and_intros) <;> first | with_reducible assumption | (clear f13_c2 f13 hK_0_1 hK_0_160 hK_0_162 hK_0_163 f4 f11; omega)) | omega
set_option maxHeartbeats 4000000 in
theorem vc_Mo_rule_at_f0_62_2 (x1 : Int) (x5 : Int) (x6 : Int) (x11 : Int) (x12 : Int) (x14 : Int) (x15 : Int) (x16 : Int) (x17 : Int) (x18 : Int) (x20 : Int) (x21 : Int) (styleOne_0 : Int) (fault_0 : Int) (styleKind_0 : Int) (tokenKind_0 : Int → Int) (tokenValue_0 : Int → Int) (tokenPlace_0 : Int → Int) (tokenEnd_0 : Int → Int) (tape_0 : Int → Int) (limit_0 : Int) (cur_0 : Int) (tokens_0 : Int) (opened_0 : Int) (gx : Int) (k1 : 0 ≤ x1 ∧ x1 ≤ 2009) (k5 : 0 ≤ x5 ∧ x5 ≤ 2009) (k6 : 0 ≤ x6 ∧ x6 ≤ 2010) (k11 : 1 ≤ x11 ∧ x11 ≤ 1) (k12 : 1 ≤ x12 ∧ x12 ≤ 2009) (k14 : 0 ≤ x14 ∧ x14 ≤ 2009) (k15 : 0 ≤ x15 ∧ x15 ≤ 5) (k16 : 0 ≤ x16 ∧ x16 ≤ 2009) (k17 : 0 ≤ x17 ∧ x17 ≤ 5) (k18 : 0 ≤ x18 ∧ x18 ≤ 13) (k20 : 0 ≤ x20 ∧ x20 ≤ 0) (k21 : (-1) ≤ x21 ∧ x21 ≤ (-1)) (d0 : x5 + 1 ≤ x12 ∧ x12 ≤ x5 + 1) (f0 : x21 < 0) (g1 : x21 = styleOne_0) (f2 : x20 = 0) (g3 : x20 = fault_0) (f4 : (styleKind_0 = 0) → (styleOne_0 ≤ 23)) (f5 : 1 * x1 + ((-1) * x16 + 0) ≤ 0) (f6 : (-1) * x6 + ((-1) * x16 + 0) ≤ (-2011)) (f7 : RB2 (styleKind_0) (limit_0) (tokenKind_0) (tokenValue_0) (tokenPlace_0) (tokenEnd_0) (tape_0) (x16) (x17) (x18) (x1)) (f8 : 1 * x1 + ((-1) * x14 + 0) ≤ 0) (f9 : (-1) * x6 + ((-1) * x14 + 0) ≤ (-2011)) (f10 : RB1 (styleKind_0) (limit_0) (tokenKind_0) (tokenValue_0) (tokenPlace_0) (tokenEnd_0) (tape_0) (x14) (x15) (x1)) (f11 : (styleKind_0 = 0) → (styleOne_0 ≤ 23)) (f13 : ((cur_0 + 1) ≤ tokens_0) ∧ ((tokens_0 ≤ 2010) ∧ ((tokenKind_0 ((tokens_0 - 1)) = 0) ∨ (tokenKind_0 ((tokens_0 - 1)) = 4)))) (f14 : 1 * x16 + ((-1) * cur_0 + 0) ≤ 0) (f15 : 1 * opened_0 + 0 ≤ 0) (f16 : (-1) * opened_0 + 0 ≤ 0) (f17 : SSM (fault_0) (cur_0) (styleKind_0) (limit_0) (tokenKind_0) (tokenValue_0) (tokenPlace_0) (tokenEnd_0) (tape_0) (x16) (x17) (x18)) (f19 : 1 * x1 + ((-1) * x16 + 0) ≤ 0) (f20 : (-1) * x6 + ((-1) * x16 + 0) ≤ (-2011)) (f21 : 1 * x1 + ((-1) * x14 + 0) ≤ 0) (f22 : (-1) * x6 + ((-1) * x14 + 0) ≤ (-2011)) (f24 : 1 * x1 + ((-1) * x14 + 0) ≤ 0) (f25 : (-1) * x6 + ((-1) * x14 + 0) ≤ (-2011)) (f27 : x12 = x5 + x11) (hK_0_1 : ∀ j : Int, 0 ≤ j → j < 2000 → (-128) ≤ tape_0 j ∧ tape_0 j ≤ 127) (hK_0_160 : ∀ j : Int, 0 ≤ j → j < 2010 → 0 ≤ tokenKind_0 j ∧ tokenKind_0 j ≤ 4) (hK_0_162 : ∀ j : Int, 0 ≤ j → j < 2010 → 0 ≤ tokenPlace_0 j ∧ tokenPlace_0 j ≤ 2000) (hK_0_163 : ∀ j : Int, 0 ≤ j → j < 2010 → 0 ≤ tokenEnd_0 j ∧ tokenEnd_0 j ≤ 2000) (kz_0_8 : 0 ≤ fault_0 ∧ fault_0 ≤ 5) (kz_0_10 : 0 ≤ limit_0 ∧ limit_0 ≤ 2000) (kz_0_157 : 0 ≤ tokens_0 ∧ tokens_0 ≤ 2010) (kz_0_158 : 0 ≤ cur_0 ∧ cur_0 ≤ 2009) (kz_0_159 : 0 ≤ opened_0 ∧ opened_0 ≤ 13) (kz_0_164 : 0 ≤ styleKind_0 ∧ styleKind_0 ≤ 1) (kz_0_165 : (-1) ≤ styleOne_0 ∧ styleOne_0 ≤ 47) (ex2 : gx = 0 + (1 * x6 + 0)) (ex3 : 0 ≤ gx ∧ gx ≤ 2010) : (styleKind_0 = 0) → (styleOne_0 ≤ 23) := by
  first | with_reducible assumption | ((have f13_c0 := f13.1); (have f13_c1 := f13.2.1); (have f13_c2 := f13.2.2); (try and_intros) <;> first | with_reducible assumption | (clear f13_c2 f13 hK_0_1 hK_0_160 hK_0_162 hK_0_163 f4 f11; omega)) | ((have f13_c0 := f13.1); (have f13_c1 := f13.2.1); (have f13_c2 := f13.2.2); (first | have f4_b := f4 (by clear f13_c2 f13 hK_0_1 hK_0_160 hK_0_162 hK_0_163 f4 f11; omega) | skip); (first | have f11_b := f11 (by clear f13_c2 f13 hK_0_1 hK_0_160 hK_0_162 hK_0_163 f4 f11; omega) | skip); (first | have f4_d := f4 (by with_reducible assumption) | skip); (first | have f11_d := f11 (by with_reducible assumption) | skip); (try and_intros) <;> first | with_reducible assumption | (clear f13_c2 f13 hK_0_1 hK_0_160 hK_0_162 hK_0_163 f4 f11; omega)) | ((have f13_c0 := f13.1); (have f13_c1 := f13.2.1); (have f13_c2 := f13.2.2); (first | have f4_b := f4 (by clear f13_c2 f13 hK_0_1 hK_0_160 hK_0_162 hK_0_163 f4 f11; omega) | skip); (first | have f11_b := f11 (by clear f13_c2 f13 hK_0_1 hK_0_160 hK_0_162 hK_0_163 f4 f11; omega) | skip); (first | have f4_d := f4 (by with_reducible assumption) | skip); (first | have f11_d := f11 (by with_reducible assumption) | skip); (first | have f13_q := tk_nx0 f13 (by clear f13_c2 f13 hK_0_1 hK_0_160 hK_0_162 hK_0_163 f4 f11; omega) | skip); (try and_intros) <;> first | with_reducible assumption | (clear f13_c2 f13 hK_0_1 hK_0_160 hK_0_162 hK_0_163 f4 f11; omega)) | (intro hG; (first | have f4_g := f4 hG | skip); (first | have f11_g := f11 hG | skip); (have f13_c0 := f13.1); (have f13_c1 := f13.2.1); (have f13_c2 := f13.2.2); (first | have f4_b := f4 (by clear f13_c2 f13 hK_0_1 hK_0_160 hK_0_162 hK_0_163 f4 f11; omega) | skip); (first | have f11_b := f11 (by clear f13_c2 f13 hK_0_1 hK_0_160 hK_0_162 hK_0_163 f4 f11; omega) | skip); (try and_intros) <;> first | with_reducible assumption | (clear f13_c2 f13 hK_0_1 hK_0_160 hK_0_162 hK_0_163 f4 f11 hG; omega)) | omega
set_option maxHeartbeats 4000000 in
theorem vc_Mo_rule_at_f0_62_3 (x1 : Int) (x5 : Int) (x6 : Int) (x11 : Int) (x12 : Int) (x14 : Int) (x15 : Int) (x16 : Int) (x17 : Int) (x18 : Int) (x20 : Int) (x21 : Int) (styleOne_0 : Int) (fault_0 : Int) (styleKind_0 : Int) (tokenKind_0 : Int → Int) (tokenValue_0 : Int → Int) (tokenPlace_0 : Int → Int) (tokenEnd_0 : Int → Int) (tape_0 : Int → Int) (limit_0 : Int) (cur_0 : Int) (tokens_0 : Int) (opened_0 : Int) (gx : Int) (k1 : 0 ≤ x1 ∧ x1 ≤ 2009) (k5 : 0 ≤ x5 ∧ x5 ≤ 2009) (k6 : 0 ≤ x6 ∧ x6 ≤ 2010) (k11 : 1 ≤ x11 ∧ x11 ≤ 1) (k12 : 1 ≤ x12 ∧ x12 ≤ 2009) (k14 : 0 ≤ x14 ∧ x14 ≤ 2009) (k15 : 0 ≤ x15 ∧ x15 ≤ 5) (k16 : 0 ≤ x16 ∧ x16 ≤ 2009) (k17 : 0 ≤ x17 ∧ x17 ≤ 5) (k18 : 0 ≤ x18 ∧ x18 ≤ 13) (k20 : 0 ≤ x20 ∧ x20 ≤ 0) (k21 : (-1) ≤ x21 ∧ x21 ≤ (-1)) (d0 : x5 + 1 ≤ x12 ∧ x12 ≤ x5 + 1) (f0 : x21 < 0) (g1 : x21 = styleOne_0) (f2 : x20 = 0) (g3 : x20 = fault_0) (f4 : (styleKind_0 = 0) → (styleOne_0 ≤ 23)) (f5 : 1 * x1 + ((-1) * x16 + 0) ≤ 0) (f6 : (-1) * x6 + ((-1) * x16 + 0) ≤ (-2011)) (f7 : RB2 (styleKind_0) (limit_0) (tokenKind_0) (tokenValue_0) (tokenPlace_0) (tokenEnd_0) (tape_0) (x16) (x17) (x18) (x1)) (f8 : 1 * x1 + ((-1) * x14 + 0) ≤ 0) (f9 : (-1) * x6 + ((-1) * x14 + 0) ≤ (-2011)) (f10 : RB1 (styleKind_0) (limit_0) (tokenKind_0) (tokenValue_0) (tokenPlace_0) (tokenEnd_0) (tape_0) (x14) (x15) (x1)) (f11 : (styleKind_0 = 0) → (styleOne_0 ≤ 23)) (f13 : ((cur_0 + 1) ≤ tokens_0) ∧ ((tokens_0 ≤ 2010) ∧ ((tokenKind_0 ((tokens_0 - 1)) = 0) ∨ (tokenKind_0 ((tokens_0 - 1)) = 4)))) (f14 : 1 * x16 + ((-1) * cur_0 + 0) ≤ 0) (f15 : 1 * opened_0 + 0 ≤ 0) (f16 : (-1) * opened_0 + 0 ≤ 0) (f17 : SSM (fault_0) (cur_0) (styleKind_0) (limit_0) (tokenKind_0) (tokenValue_0) (tokenPlace_0) (tokenEnd_0) (tape_0) (x16) (x17) (x18)) (f19 : 1 * x1 + ((-1) * x16 + 0) ≤ 0) (f20 : (-1) * x6 + ((-1) * x16 + 0) ≤ (-2011)) (f21 : 1 * x1 + ((-1) * x14 + 0) ≤ 0) (f22 : (-1) * x6 + ((-1) * x14 + 0) ≤ (-2011)) (f24 : 1 * x1 + ((-1) * x14 + 0) ≤ 0) (f25 : (-1) * x6 + ((-1) * x14 + 0) ≤ (-2011)) (f27 : x12 = x5 + x11) (hK_0_1 : ∀ j : Int, 0 ≤ j → j < 2000 → (-128) ≤ tape_0 j ∧ tape_0 j ≤ 127) (hK_0_160 : ∀ j : Int, 0 ≤ j → j < 2010 → 0 ≤ tokenKind_0 j ∧ tokenKind_0 j ≤ 4) (hK_0_162 : ∀ j : Int, 0 ≤ j → j < 2010 → 0 ≤ tokenPlace_0 j ∧ tokenPlace_0 j ≤ 2000) (hK_0_163 : ∀ j : Int, 0 ≤ j → j < 2010 → 0 ≤ tokenEnd_0 j ∧ tokenEnd_0 j ≤ 2000) (kz_0_8 : 0 ≤ fault_0 ∧ fault_0 ≤ 5) (kz_0_10 : 0 ≤ limit_0 ∧ limit_0 ≤ 2000) (kz_0_157 : 0 ≤ tokens_0 ∧ tokens_0 ≤ 2010) (kz_0_158 : 0 ≤ cur_0 ∧ cur_0 ≤ 2009) (kz_0_159 : 0 ≤ opened_0 ∧ opened_0 ≤ 13) (kz_0_164 : 0 ≤ styleKind_0 ∧ styleKind_0 ≤ 1) (kz_0_165 : (-1) ≤ styleOne_0 ∧ styleOne_0 ≤ 47) (ex2 : gx = 0 + (1 * x6 + 0)) (ex3 : 0 ≤ gx ∧ gx ≤ 2010) : 1 * opened_0 + 0 ≤ 0 := by
  first | with_reducible assumption | ((have f13_c0 := f13.1); (have f13_c1 := f13.2.1); (have f13_c2 := f13.2.2); (try and_intros) <;> first | with_reducible assumption | (clear f13_c2 f13 hK_0_1 hK_0_160 hK_0_162 hK_0_163 f4 f11; omega)) | ((have f13_c0 := f13.1); (have f13_c1 := f13.2.1); (have f13_c2 := f13.2.2); (first | have f4_b := f4 (by clear f13_c2 f13 hK_0_1 hK_0_160 hK_0_162 hK_0_163 f4 f11; omega) | skip); (first | have f11_b := f11 (by clear f13_c2 f13 hK_0_1 hK_0_160 hK_0_162 hK_0_163 f4 f11; omega) | skip); (first | have f4_d := f4 (by with_reducible assumption) | skip); (first | have f11_d := f11 (by with_reducible assumption) | skip); (try and_intros) <;> first | with_reducible assumption | (clear f13_c2 f13 hK_0_1 hK_0_160 hK_0_162 hK_0_163 f4 f11; omega)) | ((have f13_c0 := f13.1); (have f13_c1 := f13.2.1); (have f13_c2 := f13.2.2); (first | have f4_b := f4 (by clear f13_c2 f13 hK_0_1 hK_0_160 hK_0_162 hK_0_163 f4 f11; omega) | skip); (first | have f11_b := f11 (by clear f13_c2 f13 hK_0_1 hK_0_160 hK_0_162 hK_0_163 f4 f11; omega) | skip); (first | have f4_d := f4 (by with_reducible assumption) | skip); (first | have f11_d := f11 (by with_reducible assumption) | skip); (first | have f13_q := tk_nx0 f13 (by clear f13_c2 f13 hK_0_1 hK_0_160 hK_0_162 hK_0_163 f4 f11; omega) | skip); (try and_intros) <;> first | with_reducible assumption | (clear f13_c2 f13 hK_0_1 hK_0_160 hK_0_162 hK_0_163 f4 f11; omega)) | omega
set_option maxHeartbeats 4000000 in
theorem vc_Mo_rule_at_f0_62_4 (x1 : Int) (x5 : Int) (x6 : Int) (x11 : Int) (x12 : Int) (x14 : Int) (x15 : Int) (x16 : Int) (x17 : Int) (x18 : Int) (x20 : Int) (x21 : Int) (styleOne_0 : Int) (fault_0 : Int) (styleKind_0 : Int) (tokenKind_0 : Int → Int) (tokenValue_0 : Int → Int) (tokenPlace_0 : Int → Int) (tokenEnd_0 : Int → Int) (tape_0 : Int → Int) (limit_0 : Int) (cur_0 : Int) (tokens_0 : Int) (opened_0 : Int) (gx : Int) (k1 : 0 ≤ x1 ∧ x1 ≤ 2009) (k5 : 0 ≤ x5 ∧ x5 ≤ 2009) (k6 : 0 ≤ x6 ∧ x6 ≤ 2010) (k11 : 1 ≤ x11 ∧ x11 ≤ 1) (k12 : 1 ≤ x12 ∧ x12 ≤ 2009) (k14 : 0 ≤ x14 ∧ x14 ≤ 2009) (k15 : 0 ≤ x15 ∧ x15 ≤ 5) (k16 : 0 ≤ x16 ∧ x16 ≤ 2009) (k17 : 0 ≤ x17 ∧ x17 ≤ 5) (k18 : 0 ≤ x18 ∧ x18 ≤ 13) (k20 : 0 ≤ x20 ∧ x20 ≤ 0) (k21 : (-1) ≤ x21 ∧ x21 ≤ (-1)) (d0 : x5 + 1 ≤ x12 ∧ x12 ≤ x5 + 1) (f0 : x21 < 0) (g1 : x21 = styleOne_0) (f2 : x20 = 0) (g3 : x20 = fault_0) (f4 : (styleKind_0 = 0) → (styleOne_0 ≤ 23)) (f5 : 1 * x1 + ((-1) * x16 + 0) ≤ 0) (f6 : (-1) * x6 + ((-1) * x16 + 0) ≤ (-2011)) (f7 : RB2 (styleKind_0) (limit_0) (tokenKind_0) (tokenValue_0) (tokenPlace_0) (tokenEnd_0) (tape_0) (x16) (x17) (x18) (x1)) (f8 : 1 * x1 + ((-1) * x14 + 0) ≤ 0) (f9 : (-1) * x6 + ((-1) * x14 + 0) ≤ (-2011)) (f10 : RB1 (styleKind_0) (limit_0) (tokenKind_0) (tokenValue_0) (tokenPlace_0) (tokenEnd_0) (tape_0) (x14) (x15) (x1)) (f11 : (styleKind_0 = 0) → (styleOne_0 ≤ 23)) (f13 : ((cur_0 + 1) ≤ tokens_0) ∧ ((tokens_0 ≤ 2010) ∧ ((tokenKind_0 ((tokens_0 - 1)) = 0) ∨ (tokenKind_0 ((tokens_0 - 1)) = 4)))) (f14 : 1 * x16 + ((-1) * cur_0 + 0) ≤ 0) (f15 : 1 * opened_0 + 0 ≤ 0) (f16 : (-1) * opened_0 + 0 ≤ 0) (f17 : SSM (fault_0) (cur_0) (styleKind_0) (limit_0) (tokenKind_0) (tokenValue_0) (tokenPlace_0) (tokenEnd_0) (tape_0) (x16) (x17) (x18)) (f19 : 1 * x1 + ((-1) * x16 + 0) ≤ 0) (f20 : (-1) * x6 + ((-1) * x16 + 0) ≤ (-2011)) (f21 : 1 * x1 + ((-1) * x14 + 0) ≤ 0) (f22 : (-1) * x6 + ((-1) * x14 + 0) ≤ (-2011)) (f24 : 1 * x1 + ((-1) * x14 + 0) ≤ 0) (f25 : (-1) * x6 + ((-1) * x14 + 0) ≤ (-2011)) (f27 : x12 = x5 + x11) (hK_0_1 : ∀ j : Int, 0 ≤ j → j < 2000 → (-128) ≤ tape_0 j ∧ tape_0 j ≤ 127) (hK_0_160 : ∀ j : Int, 0 ≤ j → j < 2010 → 0 ≤ tokenKind_0 j ∧ tokenKind_0 j ≤ 4) (hK_0_162 : ∀ j : Int, 0 ≤ j → j < 2010 → 0 ≤ tokenPlace_0 j ∧ tokenPlace_0 j ≤ 2000) (hK_0_163 : ∀ j : Int, 0 ≤ j → j < 2010 → 0 ≤ tokenEnd_0 j ∧ tokenEnd_0 j ≤ 2000) (kz_0_8 : 0 ≤ fault_0 ∧ fault_0 ≤ 5) (kz_0_10 : 0 ≤ limit_0 ∧ limit_0 ≤ 2000) (kz_0_157 : 0 ≤ tokens_0 ∧ tokens_0 ≤ 2010) (kz_0_158 : 0 ≤ cur_0 ∧ cur_0 ≤ 2009) (kz_0_159 : 0 ≤ opened_0 ∧ opened_0 ≤ 13) (kz_0_164 : 0 ≤ styleKind_0 ∧ styleKind_0 ≤ 1) (kz_0_165 : (-1) ≤ styleOne_0 ∧ styleOne_0 ≤ 47) (ex2 : gx = 0 + (1 * x6 + 0)) (ex3 : 0 ≤ gx ∧ gx ≤ 2010) : (-1) * opened_0 + 0 ≤ 0 := by
  first | with_reducible assumption | ((have f13_c0 := f13.1); (have f13_c1 := f13.2.1); (have f13_c2 := f13.2.2); (try and_intros) <;> first | with_reducible assumption | (clear f13_c2 f13 hK_0_1 hK_0_160 hK_0_162 hK_0_163 f4 f11; omega)) | ((have f13_c0 := f13.1); (have f13_c1 := f13.2.1); (have f13_c2 := f13.2.2); (first | have f4_b := f4 (by clear f13_c2 f13 hK_0_1 hK_0_160 hK_0_162 hK_0_163 f4 f11; omega) | skip); (first | have f11_b := f11 (by clear f13_c2 f13 hK_0_1 hK_0_160 hK_0_162 hK_0_163 f4 f11; omega) | skip); (first | have f4_d := f4 (by with_reducible assumption) | skip); (first | have f11_d := f11 (by with_reducible assumption) | skip); (try and_intros) <;> first | with_reducible assumption | (clear f13_c2 f13 hK_0_1 hK_0_160 hK_0_162 hK_0_163 f4 f11; omega)) | ((have f13_c0 := f13.1); (have f13_c1 := f13.2.1); (have f13_c2 := f13.2.2); (first | have f4_b := f4 (by clear f13_c2 f13 hK_0_1 hK_0_160 hK_0_162 hK_0_163 f4 f11; omega) | skip); (first | have f11_b := f11 (by clear f13_c2 f13 hK_0_1 hK_0_160 hK_0_162 hK_0_163 f4 f11; omega) | skip); (first | have f4_d := f4 (by with_reducible assumption) | skip); (first | have f11_d := f11 (by with_reducible assumption) | skip); (first | have f13_q := tk_nx0 f13 (by clear f13_c2 f13 hK_0_1 hK_0_160 hK_0_162 hK_0_163 f4 f11; omega) | skip); (try and_intros) <;> first | with_reducible assumption | (clear f13_c2 f13 hK_0_1 hK_0_160 hK_0_162 hK_0_163 f4 f11; omega)) | omega
set_option maxHeartbeats 4000000 in
theorem vc_Mo_rule_at_f0_62_5 (x1 : Int) (x5 : Int) (x6 : Int) (x11 : Int) (x12 : Int) (x14 : Int) (x15 : Int) (x16 : Int) (x17 : Int) (x18 : Int) (x20 : Int) (x21 : Int) (styleOne_0 : Int) (fault_0 : Int) (styleKind_0 : Int) (tokenKind_0 : Int → Int) (tokenValue_0 : Int → Int) (tokenPlace_0 : Int → Int) (tokenEnd_0 : Int → Int) (tape_0 : Int → Int) (limit_0 : Int) (cur_0 : Int) (tokens_0 : Int) (opened_0 : Int) (gx : Int) (k1 : 0 ≤ x1 ∧ x1 ≤ 2009) (k5 : 0 ≤ x5 ∧ x5 ≤ 2009) (k6 : 0 ≤ x6 ∧ x6 ≤ 2010) (k11 : 1 ≤ x11 ∧ x11 ≤ 1) (k12 : 1 ≤ x12 ∧ x12 ≤ 2009) (k14 : 0 ≤ x14 ∧ x14 ≤ 2009) (k15 : 0 ≤ x15 ∧ x15 ≤ 5) (k16 : 0 ≤ x16 ∧ x16 ≤ 2009) (k17 : 0 ≤ x17 ∧ x17 ≤ 5) (k18 : 0 ≤ x18 ∧ x18 ≤ 13) (k20 : 0 ≤ x20 ∧ x20 ≤ 0) (k21 : (-1) ≤ x21 ∧ x21 ≤ (-1)) (d0 : x5 + 1 ≤ x12 ∧ x12 ≤ x5 + 1) (f0 : x21 < 0) (g1 : x21 = styleOne_0) (f2 : x20 = 0) (g3 : x20 = fault_0) (f4 : (styleKind_0 = 0) → (styleOne_0 ≤ 23)) (f5 : 1 * x1 + ((-1) * x16 + 0) ≤ 0) (f6 : (-1) * x6 + ((-1) * x16 + 0) ≤ (-2011)) (f7 : RB2 (styleKind_0) (limit_0) (tokenKind_0) (tokenValue_0) (tokenPlace_0) (tokenEnd_0) (tape_0) (x16) (x17) (x18) (x1)) (f8 : 1 * x1 + ((-1) * x14 + 0) ≤ 0) (f9 : (-1) * x6 + ((-1) * x14 + 0) ≤ (-2011)) (f10 : RB1 (styleKind_0) (limit_0) (tokenKind_0) (tokenValue_0) (tokenPlace_0) (tokenEnd_0) (tape_0) (x14) (x15) (x1)) (f11 : (styleKind_0 = 0) → (styleOne_0 ≤ 23)) (f13 : ((cur_0 + 1) ≤ tokens_0) ∧ ((tokens_0 ≤ 2010) ∧ ((tokenKind_0 ((tokens_0 - 1)) = 0) ∨ (tokenKind_0 ((tokens_0 - 1)) = 4)))) (f14 : 1 * x16 + ((-1) * cur_0 + 0) ≤ 0) (f15 : 1 * opened_0 + 0 ≤ 0) (f16 : (-1) * opened_0 + 0 ≤ 0) (f17 : SSM (fault_0) (cur_0) (styleKind_0) (limit_0) (tokenKind_0) (tokenValue_0) (tokenPlace_0) (tokenEnd_0) (tape_0) (x16) (x17) (x18)) (f19 : 1 * x1 + ((-1) * x16 + 0) ≤ 0) (f20 : (-1) * x6 + ((-1) * x16 + 0) ≤ (-2011)) (f21 : 1 * x1 + ((-1) * x14 + 0) ≤ 0) (f22 : (-1) * x6 + ((-1) * x14 + 0) ≤ (-2011)) (f24 : 1 * x1 + ((-1) * x14 + 0) ≤ 0) (f25 : (-1) * x6 + ((-1) * x14 + 0) ≤ (-2011)) (f27 : x12 = x5 + x11) (hK_0_1 : ∀ j : Int, 0 ≤ j → j < 2000 → (-128) ≤ tape_0 j ∧ tape_0 j ≤ 127) (hK_0_160 : ∀ j : Int, 0 ≤ j → j < 2010 → 0 ≤ tokenKind_0 j ∧ tokenKind_0 j ≤ 4) (hK_0_162 : ∀ j : Int, 0 ≤ j → j < 2010 → 0 ≤ tokenPlace_0 j ∧ tokenPlace_0 j ≤ 2000) (hK_0_163 : ∀ j : Int, 0 ≤ j → j < 2010 → 0 ≤ tokenEnd_0 j ∧ tokenEnd_0 j ≤ 2000) (kz_0_8 : 0 ≤ fault_0 ∧ fault_0 ≤ 5) (kz_0_10 : 0 ≤ limit_0 ∧ limit_0 ≤ 2000) (kz_0_157 : 0 ≤ tokens_0 ∧ tokens_0 ≤ 2010) (kz_0_158 : 0 ≤ cur_0 ∧ cur_0 ≤ 2009) (kz_0_159 : 0 ≤ opened_0 ∧ opened_0 ≤ 13) (kz_0_164 : 0 ≤ styleKind_0 ∧ styleKind_0 ≤ 1) (kz_0_165 : (-1) ≤ styleOne_0 ∧ styleOne_0 ≤ 47) (ex2 : gx = 0 + (1 * x6 + 0)) (ex3 : 0 ≤ gx ∧ gx ≤ 2010) : (-1) * gx + ((-1) * cur_0 + 0) ≤ (-2011) := by
  first | with_reducible assumption | ((have f13_c0 := f13.1); (have f13_c1 := f13.2.1); (have f13_c2 := f13.2.2); (try and_intros) <;> first | with_reducible assumption | (clear f13_c2 f13 hK_0_1 hK_0_160 hK_0_162 hK_0_163 f4 f11; omega)) | ((have f13_c0 := f13.1); (have f13_c1 := f13.2.1); (have f13_c2 := f13.2.2); (first | have f4_b := f4 (by clear f13_c2 f13 hK_0_1 hK_0_160 hK_0_162 hK_0_163 f4 f11; omega) | skip); (first | have f11_b := f11 (by clear f13_c2 f13 hK_0_1 hK_0_160 hK_0_162 hK_0_163 f4 f11; omega) | skip); (first | have f4_d := f4 (by with_reducible assumption) | skip); (first | have f11_d := f11 (by with_reducible assumption) | skip); (try and_intros) <;> first | with_reducible assumption | (clear f13_c2 f13 hK_0_1 hK_0_160 hK_0_162 hK_0_163 f4 f11; omega)) | ((have f13_c0 := f13.1); (have f13_c1 := f13.2.1); (have f13_c2 := f13.2.2); (first | have f4_b := f4 (by clear f13_c2 f13 hK_0_1 hK_0_160 hK_0_162 hK_0_163 f4 f11; omega) | skip); (first | have f11_b := f11 (by clear f13_c2 f13 hK_0_1 hK_0_160 hK_0_162 hK_0_163 f4 f11; omega) | skip); (first | have f4_d := f4 (by with_reducible assumption) | skip); (first | have f11_d := f11 (by with_reducible assumption) | skip); (first | have f13_q := tk_nx0 f13 (by clear f13_c2 f13 hK_0_1 hK_0_160 hK_0_162 hK_0_163 f4 f11; omega) | skip); (try and_intros) <;> first | with_reducible assumption | (clear f13_c2 f13 hK_0_1 hK_0_160 hK_0_162 hK_0_163 f4 f11; omega)) | omega
set_option maxHeartbeats 4000000 in
theorem vc_Mo_rule_at_f0_62_6 (x1 : Int) (x5 : Int) (x6 : Int) (x11 : Int) (x12 : Int) (x14 : Int) (x15 : Int) (x16 : Int) (x17 : Int) (x18 : Int) (x20 : Int) (x21 : Int) (styleOne_0 : Int) (fault_0 : Int) (styleKind_0 : Int) (tokenKind_0 : Int → Int) (tokenValue_0 : Int → Int) (tokenPlace_0 : Int → Int) (tokenEnd_0 : Int → Int) (tape_0 : Int → Int) (limit_0 : Int) (cur_0 : Int) (tokens_0 : Int) (opened_0 : Int) (gx : Int) (k1 : 0 ≤ x1 ∧ x1 ≤ 2009) (k5 : 0 ≤ x5 ∧ x5 ≤ 2009) (k6 : 0 ≤ x6 ∧ x6 ≤ 2010) (k11 : 1 ≤ x11 ∧ x11 ≤ 1) (k12 : 1 ≤ x12 ∧ x12 ≤ 2009) (k14 : 0 ≤ x14 ∧ x14 ≤ 2009) (k15 : 0 ≤ x15 ∧ x15 ≤ 5) (k16 : 0 ≤ x16 ∧ x16 ≤ 2009) (k17 : 0 ≤ x17 ∧ x17 ≤ 5) (k18 : 0 ≤ x18 ∧ x18 ≤ 13) (k20 : 0 ≤ x20 ∧ x20 ≤ 0) (k21 : (-1) ≤ x21 ∧ x21 ≤ (-1)) (d0 : x5 + 1 ≤ x12 ∧ x12 ≤ x5 + 1) (f0 : x21 < 0) (g1 : x21 = styleOne_0) (f2 : x20 = 0) (g3 : x20 = fault_0) (f4 : (styleKind_0 = 0) → (styleOne_0 ≤ 23)) (f5 : 1 * x1 + ((-1) * x16 + 0) ≤ 0) (f6 : (-1) * x6 + ((-1) * x16 + 0) ≤ (-2011)) (f7 : RB2 (styleKind_0) (limit_0) (tokenKind_0) (tokenValue_0) (tokenPlace_0) (tokenEnd_0) (tape_0) (x16) (x17) (x18) (x1)) (f8 : 1 * x1 + ((-1) * x14 + 0) ≤ 0) (f9 : (-1) * x6 + ((-1) * x14 + 0) ≤ (-2011)) (f10 : RB1 (styleKind_0) (limit_0) (tokenKind_0) (tokenValue_0) (tokenPlace_0) (tokenEnd_0) (tape_0) (x14) (x15) (x1)) (f11 : (styleKind_0 = 0) → (styleOne_0 ≤ 23)) (f13 : ((cur_0 + 1) ≤ tokens_0) ∧ ((tokens_0 ≤ 2010) ∧ ((tokenKind_0 ((tokens_0 - 1)) = 0) ∨ (tokenKind_0 ((tokens_0 - 1)) = 4)))) (f14 : 1 * x16 + ((-1) * cur_0 + 0) ≤ 0) (f15 : 1 * opened_0 + 0 ≤ 0) (f16 : (-1) * opened_0 + 0 ≤ 0) (f17 : SSM (fault_0) (cur_0) (styleKind_0) (limit_0) (tokenKind_0) (tokenValue_0) (tokenPlace_0) (tokenEnd_0) (tape_0) (x16) (x17) (x18)) (f19 : 1 * x1 + ((-1) * x16 + 0) ≤ 0) (f20 : (-1) * x6 + ((-1) * x16 + 0) ≤ (-2011)) (f21 : 1 * x1 + ((-1) * x14 + 0) ≤ 0) (f22 : (-1) * x6 + ((-1) * x14 + 0) ≤ (-2011)) (f24 : 1 * x1 + ((-1) * x14 + 0) ≤ 0) (f25 : (-1) * x6 + ((-1) * x14 + 0) ≤ (-2011)) (f27 : x12 = x5 + x11) (hK_0_1 : ∀ j : Int, 0 ≤ j → j < 2000 → (-128) ≤ tape_0 j ∧ tape_0 j ≤ 127) (hK_0_160 : ∀ j : Int, 0 ≤ j → j < 2010 → 0 ≤ tokenKind_0 j ∧ tokenKind_0 j ≤ 4) (hK_0_162 : ∀ j : Int, 0 ≤ j → j < 2010 → 0 ≤ tokenPlace_0 j ∧ tokenPlace_0 j ≤ 2000) (hK_0_163 : ∀ j : Int, 0 ≤ j → j < 2010 → 0 ≤ tokenEnd_0 j ∧ tokenEnd_0 j ≤ 2000) (kz_0_8 : 0 ≤ fault_0 ∧ fault_0 ≤ 5) (kz_0_10 : 0 ≤ limit_0 ∧ limit_0 ≤ 2000) (kz_0_157 : 0 ≤ tokens_0 ∧ tokens_0 ≤ 2010) (kz_0_158 : 0 ≤ cur_0 ∧ cur_0 ≤ 2009) (kz_0_159 : 0 ≤ opened_0 ∧ opened_0 ≤ 13) (kz_0_164 : 0 ≤ styleKind_0 ∧ styleKind_0 ≤ 1) (kz_0_165 : (-1) ≤ styleOne_0 ∧ styleOne_0 ≤ 47) (ex2 : gx = 0 + (1 * x6 + 0)) (ex3 : 0 ≤ gx ∧ gx ≤ 2010) : RDL (fault_0) (cur_0) (styleKind_0) (limit_0) (tokenKind_0) (tokenValue_0) (tokenPlace_0) (tokenEnd_0) (tape_0) (x1) := by
  first
    | exact rb2_go (‹RB2 _ _ _ _ _ _ _ _ _ _ _›) (‹SSM _ _ _ _ _ _ _ _ _ _ _ _›) (by omega)
    | assumption
  
def o_Mo_rule_at_f0_62 : or_T := (275, 22, [(0, (2, 0, 0, [165])), (1, (0, 0, 2009, [])), (2, (2, 0, 0, [165])), (5, (0, 0, 2009, [])), (6, (0, 0, 2010, [])), (11, (0, 1, 1, [])), (12, (0, 1, 2009, [])), (14, (0, 0, 2009, [])), (15, (0, 0, 5, [])), (16, (0, 0, 2009, [])), (17, (0, 0, 5, [])), (18, (0, 0, 13, [])), (20, (0, 0, 0, [])), (21, (0, -1, -1, []))], [(8, [21], [2]), (9, [21, 2], [165]), (8, [20], [0]), (9, [20, 2], [8]), (20, [2], [50, 2, 0, 164, 165, 4, 7, 1, 3, 2, 0, 164, 0, 0, 0, 3, 2, 0, 165, 0, 23]), (23, [1, 16], [0, 1, -1]), (23, [6, 16], [-2011, -1, -1]), (20, [2, 16, 17, 18, 1], [60, 2, 5, 60, 164, 10, 160, 161, 162, 163, 1]), (23, [1, 14], [0, 1, -1]), (23, [6, 14], [-2011, -1, -1]), (20, [2, 14, 15, 1], [60, 2, 5, 62, 164, 10, 160, 161, 162, 163, 1]), (20, [2], [50, 2, 0, 164, 165, 4, 7, 1, 3, 2, 0, 164, 0, 0, 0, 3, 2, 0, 165, 0, 23]), (24, [0, 2], []), (20, [2], [50, 2, 1, 158, 157, 160, 2, 12, 0, 7, 4, 3, 2, 0, 158, 0, 1, 2, 0, 157, 2, 7, 0, 3, 2, 0, 157, 0, 2010, 3, 14, 1, 10, 3, 0, 160, 5, 3, 2, 0, 157, 0, 1, 0, 0, 1, 10, 3, 0, 160, 5, 3, 2, 0, 157, 0, 1, 0, 4]), (20, [16, 2], [30, 0, 1, 0, 0, -1, 1, 158]), (20, [2], [30, 0, 1, 1, 159]), (20, [2], [30, 0, -1, 1, 159]), (20, [2, 16, 17, 18], [60, 4, 5, 2, 8, 158, 164, 10, 160, 161, 162, 163, 1]), (102, [18], [0, 165008, 165009, 165158, 165159]), (23, [1, 16], [0, 1, -1]), (23, [6, 16], [-2011, -1, -1]), (23, [1, 14], [0, 1, -1]), (23, [6, 14], [-2011, -1, -1]), (102, [15], [0, 165008, 165009, 165158]), (23, [1, 14], [0, 1, -1]), (23, [6, 14], [-2011, -1, -1]), (101, [2, 12], [158]), (1, [12, 5, 11], [])], [], [(0, 0, 2010, [])], [(20, [2], [50, 2, 1, 158, 157, 160, 2, 12, 0, 7, 4, 3, 2, 0, 158, 0, 1, 2, 0, 157, 2, 7, 0, 3, 2, 0, 157, 0, 2010, 3, 14, 1, 10, 3, 0, 160, 5, 3, 2, 0, 157, 0, 1, 0, 0, 1, 10, 3, 0, 160, 5, 3, 2, 0, 157, 0, 1, 0, 4]), (20, [1, 2], [30, 0, 1, 0, 0, -1, 1, 158]), (20, [2], [50, 2, 0, 164, 165, 4, 7, 1, 3, 2, 0, 164, 0, 0, 0, 3, 2, 0, 165, 0, 23]), (20, [2], [30, 0, 1, 1, 159]), (20, [2], [30, 0, -1, 1, 159]), (20, [22, 2], [30, -2011, -1, 0, 0, -1, 1, 158]), (20, [2, 1], [60, 4, 5, 68, 8, 158, 164, 10, 160, 161, 162, 163, 1]), (24, [0, 2], [])], [(22, 6, 0, 0)], [(12, 5, 1, 1)])
theorem oo_Mo_rule_at_f0_62 {kA : Nat → ClassId} : or_ok PRD kA GG o_Mo_rule_at_f0_62 := by
  refine or_mk fun A ta ws vs hD hth hl => ?_
  intro t0 r0 t1 k1 t2 r2 t5 k5 t6 k6 t11 k11 t12 k12 t14 k14 t15 k15 t16 k16 t17 k17 t18 k18 t20 k20 t21 k21 d0 f0 f1 f2 f3 f4 f5 f6 f7 f8 f9 f10 f11 f12 f13 f14 f15 f16 f17 ta1 w1 le1 s1 f19 f20 f21 f22 ta2 w2 le2 s2 f24 f25 ta3 w3 le3 s3 f27
  replace f0 := shm_39 f0
  replace f1 := shm_195 f1
  replace f2 := shm_192 f2
  replace f3 := shm_293 f3
  replace f4 := shm_274 f4
  replace f5 := shm_7 f5
  replace f6 := shm_290 f6
  replace f7 := shm_2271 f7
  replace f8 := shm_7 f8
  replace f9 := shm_290 f9
  replace f10 := shm_2270 f10
  replace f11 := shm_274 f11
  replace f12 := shm_5 f12
  replace f13 := shm_271 f13
  replace f14 := shm_281 f14
  replace f15 := shm_1029 f15
  replace f16 := shm_1030 f16
  replace f17 := shm_299 f17
  replace f19 := shm_7 f19
  replace f20 := shm_290 f20
  replace f21 := shm_7 f21
  replace f22 := shm_290 f22
  replace f24 := shm_7 f24
  replace f25 := shm_290 f25
  have s3 : (∀ b j, w_el w2 b j = w_el w3 b j) ∧ ∀ b j, w_fd w2 b j = if b = v_ad (n_v vs 2) ∧ j = 158 then n_v vs 12 else w_fd w3 b j := s3.2
  replace f27 := shm_12 f27
  have q2 : n_v vs 2 = n_v vs 0 := f12.symm
  simp only [q2] at f1 f3 f4 f7 f10 f11 f13 f14 f15 f16 f17
  rw [q2] at s3
  have cr_0_1 := fdq_39 hD hth r0
  have cr_0_160 := fdq_33 hD hth r0
  have cr_0_161 := fdq_40 hD hth r0
  have cr_0_162 := fdq_41 hD hth r0
  have cr_0_163 := fdq_42 hD hth r0
  have g1 : v_iv (n_v vs 21) = w_fi ws (n_v vs 0) 165 := congrArg v_iv f1
  have g3 : v_iv (n_v vs 20) = w_fi ws (n_v vs 0) 8 := congrArg v_iv f3
  have hK_0_1 := elq_7 hD hth cr_0_1
  have hK_0_160 := elq_6 hD hth cr_0_160
  have hK_0_162 := elq_8 hD hth cr_0_162
  have hK_0_163 := elq_9 hD hth cr_0_163
  have kz_0_8 := fdq_34 hD hth r0
  have kz_0_10 := fdq_43 hD hth r0
  have kz_0_157 := fdq_35 hD hth r0
  have kz_0_158 := fdq_36 hD hth r0
  have kz_0_159 := fdq_37 hD hth r0
  have kz_0_164 := fdq_38 hD hth r0
  have kz_0_165 := fdq_27 hD hth r0
  obtain ⟨x, ex, hx⟩ := iv_ex (ta := ta) (lo := 0) (hi := 2010) (z := 0 + (1 * v_iv (n_v vs 6) + 0)) (by omega) (by omega) (by omega) (by omega)
  have ex2 : v_iv (Value.int x) = 0 + (1 * v_iv (n_v vs 6) + 0) := ex
  have ex3 : 0 ≤ v_iv (Value.int x) ∧ v_iv (Value.int x) ≤ 2010 := tv_rng hx
  have e_0 : n_v (vs ++ [Value.int x]) 0 = n_v vs 0 := n_v_old (by rw [hl]; decide)
  have e_1 : n_v (vs ++ [Value.int x]) 1 = n_v vs 1 := n_v_old (by rw [hl]; decide)
  have e_2 : n_v (vs ++ [Value.int x]) 2 = n_v vs 2 := n_v_old (by rw [hl]; decide)
  have e_22 : n_v (vs ++ [Value.int x]) 22 = Value.int x := n_v_new hl
  have nf0 : fc_1 PRD (20, [2], [50, 2, 1, 158, 157, 160, 2, 12, 0, 7, 4, 3, 2, 0, 158, 0, 1, 2, 0, 157, 2, 7, 0, 3, 2, 0, 157, 0, 2010, 3, 14, 1, 10, 3, 0, 160, 5, 3, 2, 0, 157, 0, 1, 0, 0, 1, 10, 3, 0, 160, 5, 3, 2, 0, 157, 0, 1, 0, 4]) ws (vs ++ [Value.int x]) := by
    refine ⟨nf_inA hl rfl, sgq_271 ?_⟩
    · show ((w_fi ws (n_v (vs ++ [Value.int x]) 2) 158 + 1) ≤ w_fi ws (n_v (vs ++ [Value.int x]) 2) 157) ∧ ((w_fi ws (n_v (vs ++ [Value.int x]) 2) 157 ≤ 2010) ∧ ((w_ei ws (w_ar ws (n_v (vs ++ [Value.int x]) 2) 160) ((w_fi ws (n_v (vs ++ [Value.int x]) 2) 157 - 1)) = 0) ∨ (w_ei ws (w_ar ws (n_v (vs ++ [Value.int x]) 2) 160) ((w_fi ws (n_v (vs ++ [Value.int x]) 2) 157 - 1)) = 4)))
      simp only [e_2, q2]
      exact vc_Mo_rule_at_f0_62_0 (v_iv (n_v vs 1)) (v_iv (n_v vs 5)) (v_iv (n_v vs 6)) (v_iv (n_v vs 11)) (v_iv (n_v vs 12)) (v_iv (n_v vs 14)) (v_iv (n_v vs 15)) (v_iv (n_v vs 16)) (v_iv (n_v vs 17)) (v_iv (n_v vs 18)) (v_iv (n_v vs 20)) (v_iv (n_v vs 21)) (w_fi ws (n_v vs 0) 165) (w_fi ws (n_v vs 0) 8) (w_fi ws (n_v vs 0) 164) (w_ei ws (w_ar ws (n_v vs 0) 160)) (w_ei ws (w_ar ws (n_v vs 0) 161)) (w_ei ws (w_ar ws (n_v vs 0) 162)) (w_ei ws (w_ar ws (n_v vs 0) 163)) (w_ei ws (w_ar ws (n_v vs 0) 1)) (w_fi ws (n_v vs 0) 10) (w_fi ws (n_v vs 0) 158) (w_fi ws (n_v vs 0) 157) (w_fi ws (n_v vs 0) 159) (v_iv (Value.int x)) k1 k5 k6 k11 k12 k14 k15 k16 k17 k18 k20 k21 d0 f0 g1 f2 g3 f4 f5 f6 f7 f8 f9 f10 f11 f13 f14 f15 f16 f17 f19 f20 f21 f22 f24 f25 f27 hK_0_1 hK_0_160 hK_0_162 hK_0_163 kz_0_8 kz_0_10 kz_0_157 kz_0_158 kz_0_159 kz_0_164 kz_0_165 ex2 ex3
  have nf1 : fc_1 PRD (20, [1, 2], [30, 0, 1, 0, 0, -1, 1, 158]) ws (vs ++ [Value.int x]) := by
    refine ⟨nf_inA hl rfl, sgq_281 ?_⟩
    · show 1 * v_iv (n_v (vs ++ [Value.int x]) 1) + ((-1) * w_fi ws (n_v (vs ++ [Value.int x]) 2) 158 + 0) ≤ 0
      simp only [e_1, e_2, q2]
      exact vc_Mo_rule_at_f0_62_1 (v_iv (n_v vs 1)) (v_iv (n_v vs 5)) (v_iv (n_v vs 6)) (v_iv (n_v vs 11)) (v_iv (n_v vs 12)) (v_iv (n_v vs 14)) (v_iv (n_v vs 15)) (v_iv (n_v vs 16)) (v_iv (n_v vs 17)) (v_iv (n_v vs 18)) (v_iv (n_v vs 20)) (v_iv (n_v vs 21)) (w_fi ws (n_v vs 0) 165) (w_fi ws (n_v vs 0) 8) (w_fi ws (n_v vs 0) 164) (w_ei ws (w_ar ws (n_v vs 0) 160)) (w_ei ws (w_ar ws (n_v vs 0) 161)) (w_ei ws (w_ar ws (n_v vs 0) 162)) (w_ei ws (w_ar ws (n_v vs 0) 163)) (w_ei ws (w_ar ws (n_v vs 0) 1)) (w_fi ws (n_v vs 0) 10) (w_fi ws (n_v vs 0) 158) (w_fi ws (n_v vs 0) 157) (w_fi ws (n_v vs 0) 159) (v_iv (Value.int x)) k1 k5 k6 k11 k12 k14 k15 k16 k17 k18 k20 k21 d0 f0 g1 f2 g3 f4 f5 f6 f7 f8 f9 f10 f11 f13 f14 f15 f16 f17 f19 f20 f21 f22 f24 f25 f27 hK_0_1 hK_0_160 hK_0_162 hK_0_163 kz_0_8 kz_0_10 kz_0_157 kz_0_158 kz_0_159 kz_0_164 kz_0_165 ex2 ex3
  have nf2 : fc_1 PRD (20, [2], [50, 2, 0, 164, 165, 4, 7, 1, 3, 2, 0, 164, 0, 0, 0, 3, 2, 0, 165, 0, 23]) ws (vs ++ [Value.int x]) := by
    refine ⟨nf_inA hl rfl, sgq_274 ?_⟩
    · show (w_fi ws (n_v (vs ++ [Value.int x]) 2) 164 = 0) → (w_fi ws (n_v (vs ++ [Value.int x]) 2) 165 ≤ 23)
      simp only [e_2, q2]
      exact vc_Mo_rule_at_f0_62_2 (v_iv (n_v vs 1)) (v_iv (n_v vs 5)) (v_iv (n_v vs 6)) (v_iv (n_v vs 11)) (v_iv (n_v vs 12)) (v_iv (n_v vs 14)) (v_iv (n_v vs 15)) (v_iv (n_v vs 16)) (v_iv (n_v vs 17)) (v_iv (n_v vs 18)) (v_iv (n_v vs 20)) (v_iv (n_v vs 21)) (w_fi ws (n_v vs 0) 165) (w_fi ws (n_v vs 0) 8) (w_fi ws (n_v vs 0) 164) (w_ei ws (w_ar ws (n_v vs 0) 160)) (w_ei ws (w_ar ws (n_v vs 0) 161)) (w_ei ws (w_ar ws (n_v vs 0) 162)) (w_ei ws (w_ar ws (n_v vs 0) 163)) (w_ei ws (w_ar ws (n_v vs 0) 1)) (w_fi ws (n_v vs 0) 10) (w_fi ws (n_v vs 0) 158) (w_fi ws (n_v vs 0) 157) (w_fi ws (n_v vs 0) 159) (v_iv (Value.int x)) k1 k5 k6 k11 k12 k14 k15 k16 k17 k18 k20 k21 d0 f0 g1 f2 g3 f4 f5 f6 f7 f8 f9 f10 f11 f13 f14 f15 f16 f17 f19 f20 f21 f22 f24 f25 f27 hK_0_1 hK_0_160 hK_0_162 hK_0_163 kz_0_8 kz_0_10 kz_0_157 kz_0_158 kz_0_159 kz_0_164 kz_0_165 ex2 ex3
  have nf3 : fc_1 PRD (20, [2], [30, 0, 1, 1, 159]) ws (vs ++ [Value.int x]) := by
    refine ⟨nf_inA hl rfl, sgq_1029 ?_⟩
    · show 1 * w_fi ws (n_v (vs ++ [Value.int x]) 2) 159 + 0 ≤ 0
      simp only [e_2, q2]
      exact vc_Mo_rule_at_f0_62_3 (v_iv (n_v vs 1)) (v_iv (n_v vs 5)) (v_iv (n_v vs 6)) (v_iv (n_v vs 11)) (v_iv (n_v vs 12)) (v_iv (n_v vs 14)) (v_iv (n_v vs 15)) (v_iv (n_v vs 16)) (v_iv (n_v vs 17)) (v_iv (n_v vs 18)) (v_iv (n_v vs 20)) (v_iv (n_v vs 21)) (w_fi ws (n_v vs 0) 165) (w_fi ws (n_v vs 0) 8) (w_fi ws (n_v vs 0) 164) (w_ei ws (w_ar ws (n_v vs 0) 160)) (w_ei ws (w_ar ws (n_v vs 0) 161)) (w_ei ws (w_ar ws (n_v vs 0) 162)) (w_ei ws (w_ar ws (n_v vs 0) 163)) (w_ei ws (w_ar ws (n_v vs 0) 1)) (w_fi ws (n_v vs 0) 10) (w_fi ws (n_v vs 0) 158) (w_fi ws (n_v vs 0) 157) (w_fi ws (n_v vs 0) 159) (v_iv (Value.int x)) k1 k5 k6 k11 k12 k14 k15 k16 k17 k18 k20 k21 d0 f0 g1 f2 g3 f4 f5 f6 f7 f8 f9 f10 f11 f13 f14 f15 f16 f17 f19 f20 f21 f22 f24 f25 f27 hK_0_1 hK_0_160 hK_0_162 hK_0_163 kz_0_8 kz_0_10 kz_0_157 kz_0_158 kz_0_159 kz_0_164 kz_0_165 ex2 ex3
  have nf4 : fc_1 PRD (20, [2], [30, 0, -1, 1, 159]) ws (vs ++ [Value.int x]) := by
    refine ⟨nf_inA hl rfl, sgq_1030 ?_⟩
    · show (-1) * w_fi ws (n_v (vs ++ [Value.int x]) 2) 159 + 0 ≤ 0
      simp only [e_2, q2]
      exact vc_Mo_rule_at_f0_62_4 (v_iv (n_v vs 1)) (v_iv (n_v vs 5)) (v_iv (n_v vs 6)) (v_iv (n_v vs 11)) (v_iv (n_v vs 12)) (v_iv (n_v vs 14)) (v_iv (n_v vs 15)) (v_iv (n_v vs 16)) (v_iv (n_v vs 17)) (v_iv (n_v vs 18)) (v_iv (n_v vs 20)) (v_iv (n_v vs 21)) (w_fi ws (n_v vs 0) 165) (w_fi ws (n_v vs 0) 8) (w_fi ws (n_v vs 0) 164) (w_ei ws (w_ar ws (n_v vs 0) 160)) (w_ei ws (w_ar ws (n_v vs 0) 161)) (w_ei ws (w_ar ws (n_v vs 0) 162)) (w_ei ws (w_ar ws (n_v vs 0) 163)) (w_ei ws (w_ar ws (n_v vs 0) 1)) (w_fi ws (n_v vs 0) 10) (w_fi ws (n_v vs 0) 158) (w_fi ws (n_v vs 0) 157) (w_fi ws (n_v vs 0) 159) (v_iv (Value.int x)) k1 k5 k6 k11 k12 k14 k15 k16 k17 k18 k20 k21 d0 f0 g1 f2 g3 f4 f5 f6 f7 f8 f9 f10 f11 f13 f14 f15 f16 f17 f19 f20 f21 f22 f24 f25 f27 hK_0_1 hK_0_160 hK_0_162 hK_0_163 kz_0_8 kz_0_10 kz_0_157 kz_0_158 kz_0_159 kz_0_164 kz_0_165 ex2 ex3
  have nf5 : fc_1 PRD (20, [22, 2], [30, -2011, -1, 0, 0, -1, 1, 158]) ws (vs ++ [Value.int x]) := by
    refine ⟨nf_inA hl rfl, sgq_292 ?_⟩
    · show (-1) * v_iv (n_v (vs ++ [Value.int x]) 22) + ((-1) * w_fi ws (n_v (vs ++ [Value.int x]) 2) 158 + 0) ≤ (-2011)
      simp only [e_2, e_22, q2]
      exact vc_Mo_rule_at_f0_62_5 (v_iv (n_v vs 1)) (v_iv (n_v vs 5)) (v_iv (n_v vs 6)) (v_iv (n_v vs 11)) (v_iv (n_v vs 12)) (v_iv (n_v vs 14)) (v_iv (n_v vs 15)) (v_iv (n_v vs 16)) (v_iv (n_v vs 17)) (v_iv (n_v vs 18)) (v_iv (n_v vs 20)) (v_iv (n_v vs 21)) (w_fi ws (n_v vs 0) 165) (w_fi ws (n_v vs 0) 8) (w_fi ws (n_v vs 0) 164) (w_ei ws (w_ar ws (n_v vs 0) 160)) (w_ei ws (w_ar ws (n_v vs 0) 161)) (w_ei ws (w_ar ws (n_v vs 0) 162)) (w_ei ws (w_ar ws (n_v vs 0) 163)) (w_ei ws (w_ar ws (n_v vs 0) 1)) (w_fi ws (n_v vs 0) 10) (w_fi ws (n_v vs 0) 158) (w_fi ws (n_v vs 0) 157) (w_fi ws (n_v vs 0) 159) (v_iv (Value.int x)) k1 k5 k6 k11 k12 k14 k15 k16 k17 k18 k20 k21 d0 f0 g1 f2 g3 f4 f5 f6 f7 f8 f9 f10 f11 f13 f14 f15 f16 f17 f19 f20 f21 f22 f24 f25 f27 hK_0_1 hK_0_160 hK_0_162 hK_0_163 kz_0_8 kz_0_10 kz_0_157 kz_0_158 kz_0_159 kz_0_164 kz_0_165 ex2 ex3
  have nf6 : fc_1 PRD (20, [2, 1], [60, 4, 5, 68, 8, 158, 164, 10, 160, 161, 162, 163, 1]) ws (vs ++ [Value.int x]) := by
    refine ⟨nf_inA hl rfl, sgq_2272 ?_⟩
    · show RDL (w_fi ws (n_v (vs ++ [Value.int x]) 2) 8) (w_fi ws (n_v (vs ++ [Value.int x]) 2) 158) (w_fi ws (n_v (vs ++ [Value.int x]) 2) 164) (w_fi ws (n_v (vs ++ [Value.int x]) 2) 10) (w_ei ws (w_ar ws (n_v (vs ++ [Value.int x]) 2) 160)) (w_ei ws (w_ar ws (n_v (vs ++ [Value.int x]) 2) 161)) (w_ei ws (w_ar ws (n_v (vs ++ [Value.int x]) 2) 162)) (w_ei ws (w_ar ws (n_v (vs ++ [Value.int x]) 2) 163)) (w_ei ws (w_ar ws (n_v (vs ++ [Value.int x]) 2) 1)) (v_iv (n_v (vs ++ [Value.int x]) 1))
      simp only [e_1, e_2, q2]
      exact vc_Mo_rule_at_f0_62_6 (v_iv (n_v vs 1)) (v_iv (n_v vs 5)) (v_iv (n_v vs 6)) (v_iv (n_v vs 11)) (v_iv (n_v vs 12)) (v_iv (n_v vs 14)) (v_iv (n_v vs 15)) (v_iv (n_v vs 16)) (v_iv (n_v vs 17)) (v_iv (n_v vs 18)) (v_iv (n_v vs 20)) (v_iv (n_v vs 21)) (w_fi ws (n_v vs 0) 165) (w_fi ws (n_v vs 0) 8) (w_fi ws (n_v vs 0) 164) (w_ei ws (w_ar ws (n_v vs 0) 160)) (w_ei ws (w_ar ws (n_v vs 0) 161)) (w_ei ws (w_ar ws (n_v vs 0) 162)) (w_ei ws (w_ar ws (n_v vs 0) 163)) (w_ei ws (w_ar ws (n_v vs 0) 1)) (w_fi ws (n_v vs 0) 10) (w_fi ws (n_v vs 0) 158) (w_fi ws (n_v vs 0) 157) (w_fi ws (n_v vs 0) 159) (v_iv (Value.int x)) k1 k5 k6 k11 k12 k14 k15 k16 k17 k18 k20 k21 d0 f0 g1 f2 g3 f4 f5 f6 f7 f8 f9 f10 f11 f13 f14 f15 f16 f17 f19 f20 f21 f22 f24 f25 f27 hK_0_1 hK_0_160 hK_0_162 hK_0_163 kz_0_8 kz_0_10 kz_0_157 kz_0_158 kz_0_159 kz_0_164 kz_0_165 ex2 ex3
  have nf7 : fc_1 PRD (24, [0, 2], []) ws (vs ++ [Value.int x]) := by
    refine ⟨nf_inA hl rfl, sgq_5 ?_⟩
    · show n_v (vs ++ [Value.int x]) 0 = n_v (vs ++ [Value.int x]) 2
      first | rfl | simp only [e_0, e_2, q2]
  obtain ⟨x0, e0, _, _⟩ := tv_int t6 rfl
  have e1 : v_iv (n_v vs 6) = x0.toInt := by rw [e0]; rfl
  have ho : sy_ofs (vs ++ [Value.int x]) (22, 6, 0, 0) := by
    refine ⟨x, x0, by rw [List.getElem?_append_right (by rw [hl]; decide), hl]; rfl, ?_, ?_, ?_⟩
    · rw [List.getElem?_append_left (by rw [hl]; decide)]; exact n_v_some (by rw [hl]; decide) e0
    · show x0.toInt + 0 ≤ x.toInt; omega
    · show x.toInt ≤ x0.toInt + 0; omega
  exact ⟨(fun _ h => (by cases h)), [Value.int x], ag_one hx, List.forall_mem_cons.mpr ⟨⟨show (20 : Nat) < 100 from by decide, nf0⟩, List.forall_mem_cons.mpr ⟨⟨show (20 : Nat) < 100 from by decide, nf1⟩, List.forall_mem_cons.mpr ⟨⟨show (20 : Nat) < 100 from by decide, nf2⟩, List.forall_mem_cons.mpr ⟨⟨show (20 : Nat) < 100 from by decide, nf3⟩, List.forall_mem_cons.mpr ⟨⟨show (20 : Nat) < 100 from by decide, nf4⟩, List.forall_mem_cons.mpr ⟨⟨show (20 : Nat) < 100 from by decide, nf5⟩, List.forall_mem_cons.mpr ⟨⟨show (20 : Nat) < 100 from by decide, nf6⟩, List.forall_mem_cons.mpr ⟨⟨show (24 : Nat) < 100 from by decide, nf7⟩, (fun _ h => (by cases h))⟩⟩⟩⟩⟩⟩⟩⟩, List.forall_mem_cons.mpr ⟨ho, (fun _ h => (by cases h))⟩⟩
set_option maxHeartbeats 4000000 in
theorem vc_Mo_rule_at_f0_63_0 (x1 : Int) (x5 : Int) (x6 : Int) (x11 : Int) (x12 : Int) (x14 : Int) (x15 : Int) (x16 : Int) (x17 : Int) (x18 : Int) (x20 : Int) (x21 : Int) (styleOne_0 : Int) (fault_0 : Int) (styleKind_0 : Int) (tokenKind_0 : Int → Int) (tokenValue_0 : Int → Int) (tokenPlace_0 : Int → Int) (tokenEnd_0 : Int → Int) (tape_0 : Int → Int) (limit_0 : Int) (cur_0 : Int) (tokens_0 : Int) (opened_0 : Int) (gx : Int) (k1 : 0 ≤ x1 ∧ x1 ≤ 2009) (k5 : 0 ≤ x5 ∧ x5 ≤ 2009) (k6 : 0 ≤ x6 ∧ x6 ≤ 2010) (k11 : 1 ≤ x11 ∧ x11 ≤ 1) (k12 : 1 ≤ x12 ∧ x12 ≤ 2009) (k14 : 0 ≤ x14 ∧ x14 ≤ 2009) (k15 : 0 ≤ x15 ∧ x15 ≤ 5) (k16 : 0 ≤ x16 ∧ x16 ≤ 2009) (k17 : 0 ≤ x17 ∧ x17 ≤ 5) (k18 : 0 ≤ x18 ∧ x18 ≤ 13) (k20 : 0 ≤ x20 ∧ x20 ≤ 0) (k21 : 0 ≤ x21 ∧ x21 ≤ 47) (d0 : x5 + 1 ≤ x12 ∧ x12 ≤ x5 + 1) (f0 : 0 ≤ x21) (g1 : x21 = styleOne_0) (f2 : x20 = 0) (g3 : x20 = fault_0) (f4 : (styleKind_0 = 0) → (styleOne_0 ≤ 23)) (f5 : 1 * x1 + ((-1) * x16 + 0) ≤ 0) (f6 : (-1) * x6 + ((-1) * x16 + 0) ≤ (-2011)) (f7 : RB2 (styleKind_0) (limit_0) (tokenKind_0) (tokenValue_0) (tokenPlace_0) (tokenEnd_0) (tape_0) (x16) (x17) (x18) (x1)) (f8 : 1 * x1 + ((-1) * x14 + 0) ≤ 0) (f9 : (-1) * x6 + ((-1) * x14 + 0) ≤ (-2011)) (f10 : RB1 (styleKind_0) (limit_0) (tokenKind_0) (tokenValue_0) (tokenPlace_0) (tokenEnd_0) (tape_0) (x14) (x15) (x1)) (f11 : (styleKind_0 = 0) → (styleOne_0 ≤ 23)) (f13 : ((cur_0 + 1) ≤ tokens_0) ∧ ((tokens_0 ≤ 2010) ∧ ((tokenKind_0 ((tokens_0 - 1)) = 0) ∨ (tokenKind_0 ((tokens_0 - 1)) = 4)))) (f14 : 1 * x16 + ((-1) * cur_0 + 0) ≤ 0) (f15 : 1 * opened_0 + 0 ≤ 0) (f16 : (-1) * opened_0 + 0 ≤ 0) (f17 : SSM (fault_0) (cur_0) (styleKind_0) (limit_0) (tokenKind_0) (tokenValue_0) (tokenPlace_0) (tokenEnd_0) (tape_0) (x16) (x17) (x18)) (f19 : 1 * x1 + ((-1) * x16 + 0) ≤ 0) (f20 : (-1) * x6 + ((-1) * x16 + 0) ≤ (-2011)) (f21 : 1 * x1 + ((-1) * x14 + 0) ≤ 0) (f22 : (-1) * x6 + ((-1) * x14 + 0) ≤ (-2011)) (f24 : 1 * x1 + ((-1) * x14 + 0) ≤ 0) (f25 : (-1) * x6 + ((-1) * x14 + 0) ≤ (-2011)) (f27 : x12 = x5 + x11) (hK_0_1 : ∀ j : Int, 0 ≤ j → j < 2000 → (-128) ≤ tape_0 j ∧ tape_0 j ≤ 127) (hK_0_160 : ∀ j : Int, 0 ≤ j → j < 2010 → 0 ≤ tokenKind_0 j ∧ tokenKind_0 j ≤ 4) (hK_0_162 : ∀ j : Int, 0 ≤ j → j < 2010 → 0 ≤ tokenPlace_0 j ∧ tokenPlace_0 j ≤ 2000) (hK_0_163 : ∀ j : Int, 0 ≤ j → j < 2010 → 0 ≤ tokenEnd_0 j ∧ tokenEnd_0 j ≤ 2000) (kz_0_8 : 0 ≤ fault_0 ∧ fault_0 ≤ 5) (kz_0_10 : 0 ≤ limit_0 ∧ limit_0 ≤ 2000) (kz_0_157 : 0 ≤ tokens_0 ∧ tokens_0 ≤ 2010) (kz_0_158 : 0 ≤ cur_0 ∧ cur_0 ≤ 2009) (kz_0_159 : 0 ≤ opened_0 ∧ opened_0 ≤ 13) (kz_0_164 : 0 ≤ styleKind_0 ∧ styleKind_0 ≤ 1) (kz_0_165 : (-1) ≤ styleOne_0 ∧ styleOne_0 ≤ 47) (ex2 : gx = 0 + (1 * x6 + 0)) (ex3 : 0 ≤ gx ∧ gx ≤ 2010) : ((cur_0 + 1) ≤ tokens_0) ∧ ((tokens_0 ≤ 2010) ∧ ((tokenKind_0 ((tokens_0 - 1)) = 0) ∨ (tokenKind_0 ((tokens_0 - 1)) = 4))) := by
  first | with_reducible assumption | ((have f13_c0 := f13.1); (have f13_c1 := f13.2.1); (have f13_c2 := f13.2.2); (try and_intros) <;> first | with_reducible assumption | (clear f13_c2 f13 hK_0_1 hK_0_160 hK_0_162 hK_0_163 f4 f11; omega)) | ((have f13_c0 := f13.1); (have f13_c1 := f13.2.1); (have f13_c2 := f13.2.2); (first | have f4_b := f4 (by clear f13_c2 f13 hK_0_1 hK_0_160 hK_0_162 hK_0_163 f4 f11; omega) | skip); (first | have f11_b := f11 (by clear f13_c2 f13 hK_0_1 hK_0_160 hK_0_162 hK_0_163 f4 f11; omega) | skip); (first | have f4_d := f4 (by with_reducible assumption) | skip); (first | have f11_d := f11 (by with_reducible assumption) | skip); (try and_intros) <;> first | with_reducible assumption | (clear f13_c2 f13 hK_0_1 hK_0_160 hK_0_162 hK_0_163 f4 f11; omega)) | ((have f13_c0 := f13.1); (have f13_c1 := f13.2.1); (have f13_c2 := f13.2.2); (first | have f4_b := f4 (by clear f13_c2 f13 hK_0_1 hK_0_160 hK_0_162 hK_0_163 f4 f11; omega) | skip); (first | have f11_b := f11 (by clear f13_c2 f13 hK_0_1 hK_0_160 hK_0_162 hK_0_163 f4 f11; omega) | skip); (first | have f4_d := f4 (by with_reducible assumption) | skip); (first | have f11_d := f11 (by with_reducible assumption) | skip); (first | have f13_q := tk_nx0 f13 (by clear f13_c2 f13 hK_0_1 hK_0_160 hK_0_162 hK_0_163 f4 f11; omega) | skip); (try and_intros) <;> first | with_reducible assumption | (clear f13_c2 f13 hK_0_1 hK_0_160 hK_0_162 hK_0_163 f4 f11; omega)) | omega
set_option maxHeartbeats 4000000 in
theorem vc_Mo_rule_at_f0_63_1 (x1 : Int) (x5 : Int) (x6 : Int) (x11 : Int) (x12 : Int) (x14 : Int) (x15 : Int) (x16 : Int) (x17 : Int) (x18 : Int) (x20 : Int) (x21 : Int) (styleOne_0 : Int) (fault_0 : Int) (styleKind_0 : Int) (tokenKind_0 : Int → Int) (tokenValue_0 : Int → Int) (tokenPlace_0 : Int → Int) (tokenEnd_0 : Int → Int) (tape_0 : Int → Int) (limit_0 : Int) (cur_0 : Int) (tokens_0 : Int) (opened_0 : Int) (gx : Int) (k1 : 0 ≤ x1 ∧ x1 ≤ 2009) (k5 : 0 ≤ x5 ∧ x5 ≤ 2009) (k6 : 0 ≤ x6 ∧ x6 ≤ 2010) (k11 : 1 ≤ x11 ∧ x11 ≤ 1) (k12 : 1 ≤ x12 ∧ x12 ≤ 2009) (k14 : 0 ≤ x14 ∧ x14 ≤ 2009) (k15 : 0 ≤ x15 ∧ x15 ≤ 5) (k16 : 0 ≤ x16 ∧ x16 ≤ 2009) (k17 : 0 ≤ x17 ∧ x17 ≤ 5) (k18 : 0 ≤ x18 ∧ x18 ≤ 13) (k20 : 0 ≤ x20 ∧ x20 ≤ 0) (k21 : 0 ≤ x21 ∧ x21 ≤ 47) (d0 : x5 + 1 ≤ x12 ∧ x12 ≤ x5 + 1) (f0 : 0 ≤ x21) (g1 : x21 = styleOne_0) (f2 : x20 = 0) (g3 : x20 = fault_0) (f4 : (styleKind_0 = 0) → (styleOne_0 ≤ 23)) (f5 : 1 * x1 + ((-1) * x16 + 0) ≤ 0) (f6 : (-1) * x6 + ((-1) * x16 + 0) ≤ (-2011)) (f7 : RB2 (styleKind_0) (limit_0) (tokenKind_0) (tokenValue_0) (tokenPlace_0) (tokenEnd_0) (tape_0) (x16) (x17) (x18) (x1)) (f8 : 1 * x1 + ((-1) * x14 + 0) ≤ 0) (f9 : (-1) * x6 + ((-1) * x14 + 0) ≤ (-2011)) (f10 : RB1 (styleKind_0) (limit_0) (tokenKind_0) (tokenValue_0) (tokenPlace_0) (tokenEnd_0) (tape_0) (x14) (x15) (x1)) (f11 : (styleKind_0 = 0) → (styleOne_0 ≤ 23)) (f13 : ((cur_0 + 1) ≤ tokens_0) ∧ ((tokens_0 ≤ 2010) ∧ ((tokenKind_0 ((tokens_0 - 1)) = 0) ∨ (tokenKind_0 ((tokens_0 - 1)) = 4)))) (f14 : 1 * x16 + ((-1) * cur_0 + 0) ≤ 0) (f15 : 1 * opened_0 + 0 ≤ 0) (f16 : (-1) * opened_0 + 0 ≤ 0) (f17 : SSM (fault_0) (cur_0) (styleKind_0) (limit_0) (tokenKind_0) (tokenValue_0) (tokenPlace_0) (tokenEnd_0) (tape_0) (x16) (x17) (x18)) (f19 : 1 * x1 + ((-1) * x16 + 0) ≤ 0) (f20 : (-1) * x6 + ((-1) * x16 + 0) ≤ (-2011)) (f21 : 1 * x1 + ((-1) * x14 + 0) ≤ 0) (f22 : (-1) * x6 + ((-1) * x14 + 0) ≤ (-2011)) (f24 : 1 * x1 + ((-1) * x14 + 0) ≤ 0) (f25 : (-1) * x6 + ((-1) * x14 + 0) ≤ (-2011)) (f27 : x12 = x5 + x11) (hK_0_1 : ∀ j : Int, 0 ≤ j → j < 2000 → (-128) ≤ tape_0 j ∧ tape_0 j ≤ 127) (hK_0_160 : ∀ j : Int, 0 ≤ j → j < 2010 → 0 ≤ tokenKind_0 j ∧ tokenKind_0 j ≤ 4) (hK_0_162 : ∀ j : Int, 0 ≤ j → j < 2010 → 0 ≤ tokenPlace_0 j ∧ tokenPlace_0 j ≤ 2000) (hK_0_163 : ∀ j : Int, 0 ≤ j → j < 2010 → 0 ≤ tokenEnd_0 j ∧ tokenEnd_0 j ≤ 2000) (kz_0_8 : 0 ≤ fault_0 ∧ fault_0 ≤ 5) (kz_0_10 : 0 ≤ limit_0 ∧ limit_0 ≤ 2000) (kz_0_157 : 0 ≤ tokens_0 ∧ tokens_0 ≤ 2010) (kz_0_158 : 0 ≤ cur_0 ∧ cur_0 ≤ 2009) (kz_0_159 : 0 ≤ opened_0 ∧ opened_0 ≤ 13) (kz_0_164 : 0 ≤ styleKind_0 ∧ styleKind_0 ≤ 1) (kz_0_165 : (-1) ≤ styleOne_0 ∧ styleOne_0 ≤ 47) (ex2 : gx = 0 + (1 * x6 + 0)) (ex3 : 0 ≤ gx ∧ gx ≤ 2010) : 1 * x1 + ((-1) * cur_0 + 0) ≤ 0 := by
  first | with_reducible assumption | ((have f13_c0 := f13.1); (have f13_c1 := f13.2.1); (have f13_c2 := f13.2.2); (try and_intros) <;> first | with_reducible assumption | (clear f13_c2 f13 hK_0_1 hK_0_160 hK_0_162 hK_0_163 f4 f11; omega)) | ((have f13_c0 := f13.1); (have f13_c1 := f13.2.1); (have f13_c2 := f13.2.2); (first | have f4_b := f4 (by clear f13_c2 f13 hK_0_1 hK_0_160 hK_0_162 hK_0_163 f4 f11; omega) | skip); (first | have f11_b := f11 (by clear f13_c2 f13 hK_0_1 hK_0_160 hK_0_162 hK_0_163 f4 f11; omega) | skip); (first | have f4_d := f4 (by with_reducible assumption) | skip); (first | have f11_d := f11 (by with_reducible assumption) | skip); (try and_intros) <;> first | with_reducible assumption | (clear f13_c2 f13 hK_0_1 hK_0_160 hK_0_162 hK_0_163 f4 f11; omega)) | ((have f13_c0 := f13.1); (have f13_c1 := f13.2.1); (have f13_c2 := f13.2.2); (first | have f4_b := f4 (by clear f13_c2 f13 hK_0_1 hK_0_160 hK_0_162 hK_0_163 f4 f11; omega) | skip); (first | have f11_b := f11 (by clear f13_c2 f13 hK_0_1 hK_0_160 hK_0_162 hK_0_163 f4 f11; omega) | skip); (first | have f4_d := f4 (by with_reducible assumption) | skip); (first | have f11_d := f11 (by with_reducible assumption) | skip); (first | have f13_q := tk_nx0 f13 (by clear f13_c2 f13 hK_0_1 hK_0_160 hK_0_162 hK_0_163 f4 f11; omega) | skip); (try and_intros) <;> first | with_reducible assumption | (clear f13_c2 f13 hK_0_1 hK_0_160 hK_0_162 hK_0_163 f4 f11; omega)) | omega
set_option maxHeartbeats 4000000 in
theorem vc_Mo_rule_at_f0_63_2 (x1 : Int) (x5 : Int) (x6 : Int) (x11 : Int) (x12 : Int) (x14 : Int) (x15 : Int) (x16 : Int) (x17 : Int) (x18 : Int) (x20 : Int) (x21 : Int) (styleOne_0 : Int) (fault_0 : Int) (styleKind_0 : Int) (tokenKind_0 : Int → Int) (tokenValue_0 : Int → Int) (tokenPlace_0 : Int → Int) (tokenEnd_0 : Int → Int) (tape_0 : Int → Int) (limit_0 : Int) (cur_0 : Int) (tokens_0 : Int) (opened_0 : Int) (gx : Int) (k1 : 0 ≤ x1 ∧ x1 ≤ 2009) (k5 : 0 ≤ x5 ∧ x5 ≤ 2009) (k6 : 0 ≤ x6 ∧ x6 ≤ 2010) (k11 : 1 ≤ x11 ∧ x11 ≤ 1) (k12 : 1 ≤ x12 ∧ x12 ≤ 2009) (k14 : 0 ≤ x14 ∧ x14 ≤ 2009) (k15 : 0 ≤ x15 ∧ x15 ≤ 5) (k16 : 0 ≤ x16 ∧ x16 ≤ 2009) (k17 : 0 ≤ x17 ∧ x17 ≤ 5) (k18 : 0 ≤ x18 ∧ x18 ≤ 13) (k20 : 0 ≤ x20 ∧ x20 ≤ 0) (k21 : 0 ≤ x21 ∧ x21 ≤ 47) (d0 : x5 + 1 ≤ x12 ∧ x12 ≤ x5 + 1) (f0 : 0 ≤ x21) (g1 : x21 = styleOne_0) (f2 : x20 = 0) (g3 : x20 = fault_0) (f4 : (styleKind_0 = 0) → (styleOne_0 ≤ 23)) (f5 : 1 * x1 + ((-1) * x16 + 0) ≤ 0) (f6 : (-1) * x6 + ((-1) * x16 + 0) ≤ (-2011)) (f7 : RB2 (styleKind_0) (limit_0) (tokenKind_0) (tokenValue_0) (tokenPlace_0) (tokenEnd_0) (tape_0) (x16) (x17) (x18) (x1)) (f8 : 1 * x1 + ((-1) * x14 + 0) ≤ 0) (f9 : (-1) * x6 + ((-1) * x14 + 0) ≤ (-2011)) (f10 : RB1 (styleKind_0) (limit_0) (tokenKind_0) (tokenValue_0) (tokenPlace_0) (tokenEnd_0) (tape_0) (x14) (x15) (x1)) (f11 : (styleKind_0 = 0) → (styleOne_0 ≤ 23)) (f13 : ((cur_0 + 1) ≤ tokens_0) ∧ ((tokens_0 ≤ 2010) ∧ ((tokenKind_0 ((tokens_0 - 1)) = 0) ∨ (tokenKind_0 ((tokens_0 - 1)) = 4)))) (f14 : 1 * x16 + ((-1) * cur_0 + 0) ≤ 0) (f15 : 1 * opened_0 + 0 ≤ 0) (f16 : (-1) * opened_0 + 0 ≤ 0) (f17 : SSM (fault_0) (cur_0) (styleKind_0) (limit_0) (tokenKind_0) (tokenValue_0) (tokenPlace_0) (tokenEnd_0) (tape_0) (x16) (x17) (x18)) (f19 : 1 * x1 + ((-1) * x16 + 0) ≤ 0) (f20 : (-1) * x6 + ((-1) * x16 + 0) ≤ (-2011)) (f21 : 1 * x1 + ((-1) * x14 + 0) ≤ 0) (f22 : (-1) * x6 + ((-1) * x14 + 0) ≤ (-2011)) (f24 : 1 * x1 + ((-1) * x14 + 0) ≤ 0) (f25 : (-1) * x6 + ((-1) * x14 + 0) ≤ (-2011)) (f27 : x12 = x5 + x11) (hK_0_1 : ∀ j : Int, 0 ≤ j → j < 2000 → (-128) ≤ tape_0 j ∧ tape_0 j ≤ 127) (hK_0_160 : ∀ j : Int, 0 ≤ j → j < 2010 → 0 ≤ tokenKind_0 j ∧ tokenKind_0 j ≤ 4) (hK_0_162 : ∀ j : Int, 0 ≤ j → j < 2010 → 0 ≤ tokenPlace_0 j ∧ tokenPlace_0 j ≤ 2000) (hK_0_163 : ∀ j : Int, 0 ≤ j → j < 2010 → 0 ≤ tokenEnd_0 j ∧ tokenEnd_0 j ≤ 2000) (kz_0_8 : 0 ≤ fault_0 ∧ fault_0 ≤ 5) (kz_0_10 : 0 ≤ limit_0 ∧ limit_0 ≤ 2000) (kz_0_157 : 0 ≤ tokens_0 ∧ tokens_0 ≤ 2010) (kz_0_158 : 0 ≤ cur_0 ∧ cur_0 ≤ 2009) (kz_0_159 : 0 ≤ opened_0 ∧ opened_0 ≤ 13) (kz_0_164 : 0 ≤ styleKind_0 ∧ styleKind_0 ≤ 1) (kz_0_165 : (-1) ≤ styleOne_0 ∧ styleOne_0 ≤ 47) (ex2 : gx = 0 + (1 * x6 + 0)) (ex3 : 0 ≤ gx ∧ gx ≤ 2010) : (styleKind_0 = 0) → (styleOne_0 ≤ 23) := by
  first | with_reducible assumption | ((have f13_c0 := f13.1); (have f13_c1 := f13.2.1); (have f13_c2 := f13.2.2); (try and_intros) <;> first | with_reducible assumption | (clear f13_c2 f13 hK_0_1 hK_0_160 hK_0_162 hK_0_163 f4 f11; omega)) | ((have f13_c0 := f13.1); (have f13_c1 := f13.2.1); (have f13_c2 := f13.2.2); (first | have f4_b := f4 (by clear f13_c2 f13 hK_0_1 hK_0_160 hK_0_162 hK_0_163 f4 f11; omega) | skip); (first | have f11_b := f11 (by clear f13_c2 f13 hK_0_1 hK_0_160 hK_0_162 hK_0_163 f4 f11; omega) | skip); (first | have f4_d := f4 (by with_reducible assumption) | skip); (first | have f11_d := f11 (by with_reducible assumption) | skip); (try and_intros) <;> first | with_reducible assumption | (clear f13_c2 f13 hK_0_1 hK_0_160 hK_0_162 hK_0_163 f4 f11; omega)) | ((have f13_c0 := f13.1); (have f13_c1 := f13.2.1); (have f13_c2 := f13.2.2); (first | have f4_b := f4 (by clear f13_c2 f13 hK_0_1 hK_0_160 hK_0_162 hK_0_163 f4 f11; omega) | skip); (first | have f11_b := f11 (by clear f13_c2 f13 hK_0_1 hK_0_160 hK_0_162 hK_0_163 f4 f11; omega) | skip); (first | have f4_d := f4 (by with_reducible assumption) | skip); (first | have f11_d := f11 (by with_reducible assumption) | skip); (first | have f13_q := tk_nx0 f13 (by clear f13_c2 f13 hK_0_1 hK_0_160 hK_0_162 hK_0_163 f4 f11; omega) | skip); (try and_intros) <;> first | with_reducible assumption | (clear f13_c2 f13 hK_0_1 hK_0_160 hK_0_162 hK_0_163 f4 f11; omega)) | (intro hG; (first | have f4_g := f4 hG | skip); (first | have f11_g := f11 hG | skip); (have f13_c0 := f13.1); (have f13_c1 := f13.2.1); (have f13_c2 := f13.2.2); (first | have f4_b := f4 (by clear f13_c2 f13 hK_0_1 hK_0_160 hK_0_162 hK_0_163 f4 f11; omega) | skip); (first | have f11_b := f11 (by clear f13_c2 f13 hK_0_1 hK_0_160 hK_0_162 hK_0_163 f4 f11; omega) | skip); (try and_intros) <;> first | with_reducible assumption | (clear f13_c2 f13 hK_0_1 hK_0_160 hK_0_162 hK_0_163 f4 f11 hG; omega)) | omega
set_option maxHeartbeats 4000000 in
theorem vc_Mo_rule_at_f0_63_3 (x1 : Int) (x5 : Int) (x6 : Int) (x11 : Int) (x12 : Int) (x14 : Int) (x15 : Int) (x16 : Int) (x17 : Int) (x18 : Int) (x20 : Int) (x21 : Int) (styleOne_0 : Int) (fault_0 : Int) (styleKind_0 : Int) (tokenKind_0 : Int → Int) (tokenValue_0 : Int → Int) (tokenPlace_0 : Int → Int) (tokenEnd_0 : Int → Int) (tape_0 : Int → Int) (limit_0 : Int) (cur_0 : Int) (tokens_0 : Int) (opened_0 : Int) (gx : Int) (k1 : 0 ≤ x1 ∧ x1 ≤ 2009) (k5 : 0 ≤ x5 ∧ x5 ≤ 2009) (k6 : 0 ≤ x6 ∧ x6 ≤ 2010) (k11 : 1 ≤ x11 ∧ x11 ≤ 1) (k12 : 1 ≤ x12 ∧ x12 ≤ 2009) (k14 : 0 ≤ x14 ∧ x14 ≤ 2009) (k15 : 0 ≤ x15 ∧ x15 ≤ 5) (k16 : 0 ≤ x16 ∧ x16 ≤ 2009) (k17 : 0 ≤ x17 ∧ x17 ≤ 5) (k18 : 0 ≤ x18 ∧ x18 ≤ 13) (k20 : 0 ≤ x20 ∧ x20 ≤ 0) (k21 : 0 ≤ x21 ∧ x21 ≤ 47) (d0 : x5 + 1 ≤ x12 ∧ x12 ≤ x5 + 1) (f0 : 0 ≤ x21) (g1 : x21 = styleOne_0) (f2 : x20 = 0) (g3 : x20 = fault_0) (f4 : (styleKind_0 = 0) → (styleOne_0 ≤ 23)) (f5 : 1 * x1 + ((-1) * x16 + 0) ≤ 0) (f6 : (-1) * x6 + ((-1) * x16 + 0) ≤ (-2011)) (f7 : RB2 (styleKind_0) (limit_0) (tokenKind_0) (tokenValue_0) (tokenPlace_0) (tokenEnd_0) (tape_0) (x16) (x17) (x18) (x1)) (f8 : 1 * x1 + ((-1) * x14 + 0) ≤ 0) (f9 : (-1) * x6 + ((-1) * x14 + 0) ≤ (-2011)) (f10 : RB1 (styleKind_0) (limit_0) (tokenKind_0) (tokenValue_0) (tokenPlace_0) (tokenEnd_0) (tape_0) (x14) (x15) (x1)) (f11 : (styleKind_0 = 0) → (styleOne_0 ≤ 23)) (f13 : ((cur_0 + 1) ≤ tokens_0) ∧ ((tokens_0 ≤ 2010) ∧ ((tokenKind_0 ((tokens_0 - 1)) = 0) ∨ (tokenKind_0 ((tokens_0 - 1)) = 4)))) (f14 : 1 * x16 + ((-1) * cur_0 + 0) ≤ 0) (f15 : 1 * opened_0 + 0 ≤ 0) (f16 : (-1) * opened_0 + 0 ≤ 0) (f17 : SSM (fault_0) (cur_0) (styleKind_0) (limit_0) (tokenKind_0) (tokenValue_0) (tokenPlace_0) (tokenEnd_0) (tape_0) (x16) (x17) (x18)) (f19 : 1 * x1 + ((-1) * x16 + 0) ≤ 0) (f20 : (-1) * x6 + ((-1) * x16 + 0) ≤ (-2011)) (f21 : 1 * x1 + ((-1) * x14 + 0) ≤ 0) (f22 : (-1) * x6 + ((-1) * x14 + 0) ≤ (-2011)) (f24 : 1 * x1 + ((-1) * x14 + 0) ≤ 0) (f25 : (-1) * x6 + ((-1) * x14 + 0) ≤ (-2011)) (f27 : x12 = x5 + x11) (hK_0_1 : ∀ j : Int, 0 ≤ j → j < 2000 → (-128) ≤ tape_0 j ∧ tape_0 j ≤ 127) (hK_0_160 : ∀ j : Int, 0 ≤ j → j < 2010 → 0 ≤ tokenKind_0 j ∧ tokenKind_0 j ≤ 4) (hK_0_162 : ∀ j : Int, 0 ≤ j → j < 2010 → 0 ≤ tokenPlace_0 j ∧ tokenPlace_0 j ≤ 2000) (hK_0_163 : ∀ j : Int, 0 ≤ j → j < 2010 → 0 ≤ tokenEnd_0 j ∧ tokenEnd_0 j ≤ 2000) (kz_0_8 : 0 ≤ fault_0 ∧ fault_0 ≤ 5) (kz_0_10 : 0 ≤ limit_0 ∧ limit_0 ≤ 2000) (kz_0_157 : 0 ≤ tokens_0 ∧ tokens_0 ≤ 2010) (kz_0_158 : 0 ≤ cur_0 ∧ cur_0 ≤ 2009) (kz_0_159 : 0 ≤ opened_0 ∧ opened_0 ≤ 13) (kz_0_164 : 0 ≤ styleKind_0 ∧ styleKind_0 ≤ 1) (kz_0_165 : (-1) ≤ styleOne_0 ∧ styleOne_0 ≤ 47) (ex2 : gx = 0 + (1 * x6 + 0)) (ex3 : 0 ≤ gx ∧ gx ≤ 2010) : 1 * opened_0 + 0 ≤ 0 := by
  first | with_reducible assumption | ((have f13_c0 := f13.1); (have f13_c1 := f13.2.1); (have f13_c2 := f13.2.2); (try and_intros) <;> first | with_reducible assumption | (clear f13_c2 f13 hK_0_1 hK_0_160 hK_0_162 hK_0_163 f4 f11; omega)) | ((have f13_c0 := f13.1); (have f13_c1 := f13.2.1); (have f13_c2 := f13.2.2); (first | have f4_b := f4 (by clear f13_c2 f13 hK_0_1 hK_0_160 hK_0_162 hK_0_163 f4 f11; omega) | skip); (first | have f11_b := f11 (by clear f13_c2 f13 hK_0_1 hK_0_160 hK_0_162 hK_0_163 f4 f11; omega) | skip); (first | have f4_d := f4 (by with_reducible assumption) | skip); (first | have f11_d := f11 (by with_reducible assumption) | skip); (try and_intros) <;> first | with_reducible assumption | (clear f13_c2 f13 hK_0_1 hK_0_160 hK_0_162 hK_0_163 f4 f11; omega)) | ((have f13_c0 := f13.1); (have f13_c1 := f13.2.1); (have f13_c2 := f13.2.2); (first | have f4_b := f4 (by clear f13_c2 f13 hK_0_1 hK_0_160 hK_0_162 hK_0_163 f4 f11; omega) | skip); (first | have f11_b := f11 (by clear f13_c2 f13 hK_0_1 hK_0_160 hK_0_162 hK_0_163 f4 f11; omega) | skip); (first | have f4_d := f4 (by with_reducible assumption) | skip); (first | have f11_d := f11 (by with_reducible assumption) | skip); (first | have f13_q := tk_nx0 f13 (by clear f13_c2 f13 hK_0_1 hK_0_160 hK_0_162 hK_0_163 f4 f11; omega) | skip); (try and_intros) <;> first | with_reducible assumption | (clear f13_c2 f13 hK_0_1 hK_0_160 hK_0_162 hK_0_163 f4 f11; omega)) | omega
set_option maxHeartbeats 4000000 in
theorem vc_Mo_rule_at_f0_63_4 (x1 : Int) (x5 : Int) (x6 : Int) (x11 : Int) (x12 : Int) (x14 : Int) (x15 : Int) (x16 : Int) (x17 : Int) (x18 : Int) (x20 : Int) (x21 : Int) (styleOne_0 : Int) (fault_0 : Int) (styleKind_0 : Int) (tokenKind_0 : Int → Int) (tokenValue_0 : Int → Int) (tokenPlace_0 : Int → Int) (tokenEnd_0 : Int → Int) (tape_0 : Int → Int) (limit_0 : Int) (cur_0 : Int) (tokens_0 : Int) (opened_0 : Int) (gx : Int) (k1 : 0 ≤ x1 ∧ x1 ≤ 2009) (k5 : 0 ≤ x5 ∧ x5 ≤ 2009) (k6 : 0 ≤ x6 ∧ x6 ≤ 2010) (k11 : 1 ≤ x11 ∧ x11 ≤ 1) (k12 : 1 ≤ x12 ∧ x12 ≤ 2009) (k14 : 0 ≤ x14 ∧ x14 ≤ 2009) (k15 : 0 ≤ x15 ∧ x15 ≤ 5) (k16 : 0 ≤ x16 ∧ x16 ≤ 2009) (k17 : 0 ≤ x17 ∧ x17 ≤ 5) (k18 : 0 ≤ x18 ∧ x18 ≤ 13) (k20 : 0 ≤ x20 ∧ x20 ≤ 0) (k21 : 0 ≤ x21 ∧ x21 ≤ 47) (d0 : x5 + 1 ≤ x12 ∧ x12 ≤ x5 + 1) (f0 : 0 ≤ x21) (g1 : x21 = styleOne_0) (f2 : x20 = 0) (g3 : x20 = fault_0) (f4 : (styleKind_0 = 0) → (styleOne_0 ≤ 23)) (f5 : 1 * x1 + ((-1) * x16 + 0) ≤ 0) (f6 : (-1) * x6 + ((-1) * x16 + 0) ≤ (-2011)) (f7 : RB2 (styleKind_0) (limit_0) (tokenKind_0) (tokenValue_0) (tokenPlace_0) (tokenEnd_0) (tape_0) (x16) (x17) (x18) (x1)) (f8 : 1 * x1 + ((-1) * x14 + 0) ≤ 0) (f9 : (-1) * x6 + ((-1) * x14 + 0) ≤ (-2011)) (f10 : RB1 (styleKind_0) (limit_0) (tokenKind_0) (tokenValue_0) (tokenPlace_0) (tokenEnd_0) (tape_0) (x14) (x15) (x1)) (f11 : (styleKind_0 = 0) → (styleOne_0 ≤ 23)) (f13 : ((cur_0 + 1) ≤ tokens_0) ∧ ((tokens_0 ≤ 2010) ∧ ((tokenKind_0 ((tokens_0 - 1)) = 0) ∨ (tokenKind_0 ((tokens_0 - 1)) = 4)))) (f14 : 1 * x16 + ((-1) * cur_0 + 0) ≤ 0) (f15 : 1 * opened_0 + 0 ≤ 0) (f16 : (-1) * opened_0 + 0 ≤ 0) (f17 : SSM (fault_0) (cur_0) (styleKind_0) (limit_0) (tokenKind_0) (tokenValue_0) (tokenPlace_0) (tokenEnd_0) (tape_0) (x16) (x17) (x18)) (f19 : 1 * x1 + ((-1) * x16 + 0) ≤ 0) (f20 : (-1) * x6 + ((-1) * x16 + 0) ≤ (-2011)) (f21 : 1 * x1 + ((-1) * x14 + 0) ≤ 0) (f22 : (-1) * x6 + ((-1) * x14 + 0) ≤ (-2011)) (f24 : 1 * x1 + ((-1) * x14 + 0) ≤ 0) (f25 : (-1) * x6 + ((-1) * x14 + 0) ≤ (-2011)) (f27 : x12 = x5 + x11) (hK_0_1 : ∀ j : Int, 0 ≤ j → j < 2000 → (-128) ≤ tape_0 j ∧ tape_0 j ≤ 127) (hK_0_160 : ∀ j : Int, 0 ≤ j → j < 2010 → 0 ≤ tokenKind_0 j ∧ tokenKind_0 j ≤ 4) (hK_0_162 : ∀ j : Int, 0 ≤ j → j < 2010 → 0 ≤ tokenPlace_0 j ∧ tokenPlace_0 j ≤ 2000) (hK_0_163 : ∀ j : Int, 0 ≤ j → j < 2010 → 0 ≤ tokenEnd_0 j ∧ tokenEnd_0 j ≤ 2000) (kz_0_8 : 0 ≤ fault_0 ∧ fault_0 ≤ 5) (kz_0_10 : 0 ≤ limit_0 ∧ limit_0 ≤ 2000) (kz_0_157 : 0 ≤ tokens_0 ∧ tokens_0 ≤ 2010) (kz_0_158 : 0 ≤ cur_0 ∧ cur_0 ≤ 2009) (kz_0_159 : 0 ≤ opened_0 ∧ opened_0 ≤ 13) (kz_0_164 : 0 ≤ styleKind_0 ∧ styleKind_0 ≤ 1) (kz_0_165 : (-1) ≤ styleOne_0 ∧ styleOne_0 ≤ 47) (ex2 : gx = 0 + (1 * x6 + 0)) (ex3 : 0 ≤ gx ∧ gx ≤ 2010) : (-1) * opened_0 + 0 ≤ 0 := by
  first | with_reducible assumption | ((have f13_c0 := f13.1); (have f13_c1 := f13.2.1); (have f13_c2 := f13.2.2); (try and_intros) <;> first | with_reducible assumption | (clear f13_c2 f13 hK_0_1 hK_0_160 hK_0_162 hK_0_163 f4 f11; omega)) | ((have f13_c0 := f13.1); (have f13_c1 := f13.2.1); (have f13_c2 := f13.2.2); (first | have f4_b := f4 (by clear f13_c2 f13 hK_0_1 hK_0_160 hK_0_162 hK_0_163 f4 f11; omega) | skip); (first | have f11_b := f11 (by clear f13_c2 f13 hK_0_1 hK_0_160 hK_0_162 hK_0_163 f4 f11; omega) | skip); (first | have f4_d := f4 (by with_reducible assumption) | skip); (first | have f11_d := f11 (by with_reducible assumption) | skip); (try and_intros) <;> first | with_reducible assumption | (clear f13_c2 f13 hK_0_1 hK_0_160 hK_0_162 hK_0_163 f4 f11; omega)) | ((have f13_c0 := f13.1); (have f13_c1 := f13.2.1); (have f13_c2 := f13.2.2); (first | have f4_b := f4 (by clear f13_c2 f13 hK_0_1 hK_0_160 hK_0_162 hK_0_163 f4 f11; omega) | skip); (first | have f11_b := f11 (by clear f13_c2 f13 hK_0_1 hK_0_160 hK_0_162 hK_0_163 f4 f11; omega) | skip); (first | have f4_d := f4 (by with_reducible assumption) | skip); (first | have f11_d := f11 (by with_reducible assumption) | skip); (first | have f13_q := tk_nx0 f13 (by clear f13_c2 f13 hK_0_1 hK_0_160 hK_0_162 hK_0_163 f4 f11; omega) | skip); (try and_intros) <;> first | with_reducible assumption | (clear f13_c2 f13 hK_0_1 hK_0_160 hK_0_162 hK_0_163 f4 f11; omega)) | omega
set_option maxHeartbeats 4000000 in
theorem vc_Mo_rule_at_f0_63_5 (x1 : Int) (x5 : Int) (x6 : Int) (x11 : Int) (x12 : Int) (x14 : Int) (x15 : Int) (x16 : Int) (x17 : Int) (x18 : Int) (x20 : Int) (x21 : Int) (styleOne_0 : Int) (fault_0 : Int) (styleKind_0 : Int) (tokenKind_0 : Int → Int) (tokenValue_0 : Int → Int) (tokenPlace_0 : Int → Int) (tokenEnd_0 : Int → Int) (tape_0 : Int → Int) (limit_0 : Int) (cur_0 : Int) (tokens_0 : Int) (opened_0 : Int) (gx : Int) (k1 : 0 ≤ x1 ∧ x1 ≤ 2009) (k5 : 0 ≤ x5 ∧ x5 ≤ 2009) (k6 : 0 ≤ x6 ∧ x6 ≤ 2010) (k11 : 1 ≤ x11 ∧ x11 ≤ 1) (k12 : 1 ≤ x12 ∧ x12 ≤ 2009) (k14 : 0 ≤ x14 ∧ x14 ≤ 2009) (k15 : 0 ≤ x15 ∧ x15 ≤ 5) (k16 : 0 ≤ x16 ∧ x16 ≤ 2009) (k17 : 0 ≤ x17 ∧ x17 ≤ 5) (k18 : 0 ≤ x18 ∧ x18 ≤ 13) (k20 : 0 ≤ x20 ∧ x20 ≤ 0) (k21 : 0 ≤ x21 ∧ x21 ≤ 47) (d0 : x5 + 1 ≤ x12 ∧ x12 ≤ x5 + 1) (f0 : 0 ≤ x21) (g1 : x21 = styleOne_0) (f2 : x20 = 0) (g3 : x20 = fault_0) (f4 : (styleKind_0 = 0) → (styleOne_0 ≤ 23)) (f5 : 1 * x1 + ((-1) * x16 + 0) ≤ 0) (f6 : (-1) * x6 + ((-1) * x16 + 0) ≤ (-2011)) (f7 : RB2 (styleKind_0) (limit_0) (tokenKind_0) (tokenValue_0) (tokenPlace_0) (tokenEnd_0) (tape_0) (x16) (x17) (x18) (x1)) (f8 : 1 * x1 + ((-1) * x14 + 0) ≤ 0) (f9 : (-1) * x6 + ((-1) * x14 + 0) ≤ (-2011)) (f10 : RB1 (styleKind_0) (limit_0) (tokenKind_0) (tokenValue_0) (tokenPlace_0) (tokenEnd_0) (tape_0) (x14) (x15) (x1)) (f11 : (styleKind_0 = 0) → (styleOne_0 ≤ 23)) (f13 : ((cur_0 + 1) ≤ tokens_0) ∧ ((tokens_0 ≤ 2010) ∧ ((tokenKind_0 ((tokens_0 - 1)) = 0) ∨ (tokenKind_0 ((tokens_0 - 1)) = 4)))) (f14 : 1 * x16 + ((-1) * cur_0 + 0) ≤ 0) (f15 : 1 * opened_0 + 0 ≤ 0) (f16 : (-1) * opened_0 + 0 ≤ 0) (f17 : SSM (fault_0) (cur_0) (styleKind_0) (limit_0) (tokenKind_0) (tokenValue_0) (tokenPlace_0) (tokenEnd_0) (tape_0) (x16) (x17) (x18)) (f19 : 1 * x1 + ((-1) * x16 + 0) ≤ 0) (f20 : (-1) * x6 + ((-1) * x16 + 0) ≤ (-2011)) (f21 : 1 * x1 + ((-1) * x14 + 0) ≤ 0) (f22 : (-1) * x6 + ((-1) * x14 + 0) ≤ (-2011)) (f24 : 1 * x1 + ((-1) * x14 + 0) ≤ 0) (f25 : (-1) * x6 + ((-1) * x14 + 0) ≤ (-2011)) (f27 : x12 = x5 + x11) (hK_0_1 : ∀ j : Int, 0 ≤ j → j < 2000 → (-128) ≤ tape_0 j ∧ tape_0 j ≤ 127) (hK_0_160 : ∀ j : Int, 0 ≤ j → j < 2010 → 0 ≤ tokenKind_0 j ∧ tokenKind_0 j ≤ 4) (hK_0_162 : ∀ j : Int, 0 ≤ j → j < 2010 → 0 ≤ tokenPlace_0 j ∧ tokenPlace_0 j ≤ 2000) (hK_0_163 : ∀ j : Int, 0 ≤ j → j < 2010 → 0 ≤ tokenEnd_0 j ∧ tokenEnd_0 j ≤ 2000) (kz_0_8 : 0 ≤ fault_0 ∧ fault_0 ≤ 5) (kz_0_10 : 0 ≤ limit_0 ∧ limit_0 ≤ 2000) (kz_0_157 : 0 ≤ tokens_0 ∧ tokens_0 ≤ 2010) (kz_0_158 : 0 ≤ cur_0 ∧ cur_0 ≤ 2009) (kz_0_159 : 0 ≤ opened_0 ∧ opened_0 ≤ 13) (kz_0_164 : 0 ≤ styleKind_0 ∧ styleKind_0 ≤ 1) (kz_0_165 : (-1) ≤ styleOne_0 ∧ styleOne_0 ≤ 47) (ex2 : gx = 0 + (1 * x6 + 0)) (ex3 : 0 ≤ gx ∧ gx ≤ 2010) : (-1) * gx + ((-1) * cur_0 + 0) ≤ (-2011) := by
  first | with_reducible assumption | ((have f13_c0 := f13.1); (have f13_c1 := f13.2.1); (have f13_c2 := f13.2.2); (try and_intros) <;> first | with_reducible assumption | (clear f13_c2 f13 hK_0_1 hK_0_160 hK_0_162 hK_0_163 f4 f11; omega)) | ((have f13_c0 := f13.1); (have f13_c1 := f13.2.1); (have f13_c2 := f13.2.2); (first | have f4_b := f4 (by clear f13_c2 f13 hK_0_1 hK_0_160 hK_0_162 hK_0_163 f4 f11; omega) | skip); (first | have f11_b := f11 (by clear f13_c2 f13 hK_0_1 hK_0_160 hK_0_162 hK_0_163 f4 f11; omega) | skip); (first | have f4_d := f4 (by with_reducible assumption) | skip); (first | have f11_d := f11 (by with_reducible assumption) | skip); (try and_intros) <;> first | with_reducible assumption | (clear f13_c2 f13 hK_0_1 hK_0_160 hK_0_162 hK_0_163 f4 f11; omega)) | ((have f13_c0 := f13.1); (have f13_c1 := f13.2.1); (have f13_c2 := f13.2.2); (first | have f4_b := f4 (by clear f13_c2 f13 hK_0_1 hK_0_160 hK_0_162 hK_0_163 f4 f11; omega) | skip); (first | have f11_b := f11 (by clear f13_c2 f13 hK_0_1 hK_0_160 hK_0_162 hK_0_163 f4 f11; omega) | skip); (first | have f4_d := f4 (by with_reducible assumption) | skip); (first | have f11_d := f11 (by with_reducible assumption) | skip); (first | have f13_q := tk_nx0 f13 (by clear f13_c2 f13 hK_0_1 hK_0_160 hK_0_162 hK_0_163 f4 f11; omega) | skip); (try and_intros) <;> first | with_reducible assumption | (clear f13_c2 f13 hK_0_1 hK_0_160 hK_0_162 hK_0_163 f4 f11; omega)) | omega
set_option maxHeartbeats 4000000 in
theorem vc_Mo_rule_at_f0_63_6 (x1 : Int) (x5 : Int) (x6 : Int) (x11 : Int) (x12 : Int) (x14 : Int) (x15 : Int) (x16 : Int) (x17 : Int) (x18 : Int) (x20 : Int) (x21 : Int) (styleOne_0 : Int) (fault_0 : Int) (styleKind_0 : Int) (tokenKind_0 : Int → Int) (tokenValue_0 : Int → Int) (tokenPlace_0 : Int → Int) (tokenEnd_0 : Int → Int) (tape_0 : Int → Int) (limit_0 : Int) (cur_0 : Int) (tokens_0 : Int) (opened_0 : Int) (gx : Int) (k1 : 0 ≤ x1 ∧ x1 ≤ 2009) (k5 : 0 ≤ x5 ∧ x5 ≤ 2009) (k6 : 0 ≤ x6 ∧ x6 ≤ 2010) (k11 : 1 ≤ x11 ∧ x11 ≤ 1) (k12 : 1 ≤ x12 ∧ x12 ≤ 2009) (k14 : 0 ≤ x14 ∧ x14 ≤ 2009) (k15 : 0 ≤ x15 ∧ x15 ≤ 5) (k16 : 0 ≤ x16 ∧ x16 ≤ 2009) (k17 : 0 ≤ x17 ∧ x17 ≤ 5) (k18 : 0 ≤ x18 ∧ x18 ≤ 13) (k20 : 0 ≤ x20 ∧ x20 ≤ 0) (k21 : 0 ≤ x21 ∧ x21 ≤ 47) (d0 : x5 + 1 ≤ x12 ∧ x12 ≤ x5 + 1) (f0 : 0 ≤ x21) (g1 : x21 = styleOne_0) (f2 : x20 = 0) (g3 : x20 = fault_0) (f4 : (styleKind_0 = 0) → (styleOne_0 ≤ 23)) (f5 : 1 * x1 + ((-1) * x16 + 0) ≤ 0) (f6 : (-1) * x6 + ((-1) * x16 + 0) ≤ (-2011)) (f7 : RB2 (styleKind_0) (limit_0) (tokenKind_0) (tokenValue_0) (tokenPlace_0) (tokenEnd_0) (tape_0) (x16) (x17) (x18) (x1)) (f8 : 1 * x1 + ((-1) * x14 + 0) ≤ 0) (f9 : (-1) * x6 + ((-1) * x14 + 0) ≤ (-2011)) (f10 : RB1 (styleKind_0) (limit_0) (tokenKind_0) (tokenValue_0) (tokenPlace_0) (tokenEnd_0) (tape_0) (x14) (x15) (x1)) (f11 : (styleKind_0 = 0) → (styleOne_0 ≤ 23)) (f13 : ((cur_0 + 1) ≤ tokens_0) ∧ ((tokens_0 ≤ 2010) ∧ ((tokenKind_0 ((tokens_0 - 1)) = 0) ∨ (tokenKind_0 ((tokens_0 - 1)) = 4)))) (f14 : 1 * x16 + ((-1) * cur_0 + 0) ≤ 0) (f15 : 1 * opened_0 + 0 ≤ 0) (f16 : (-1) * opened_0 + 0 ≤ 0) (f17 : SSM (fault_0) (cur_0) (styleKind_0) (limit_0) (tokenKind_0) (tokenValue_0) (tokenPlace_0) (tokenEnd_0) (tape_0) (x16) (x17) (x18)) (f19 : 1 * x1 + ((-1) * x16 + 0) ≤ 0) (f20 : (-1) * x6 + ((-1) * x16 + 0) ≤ (-2011)) (f21 : 1 * x1 + ((-1) * x14 + 0) ≤ 0) (f22 : (-1) * x6 + ((-1) * x14 + 0) ≤ (-2011)) (f24 : 1 * x1 + ((-1) * x14 + 0) ≤ 0) (f25 : (-1) * x6 + ((-1) * x14 + 0) ≤ (-2011)) (f27 : x12 = x5 + x11) (hK_0_1 : ∀ j : Int, 0 ≤ j → j < 2000 → (-128) ≤ tape_0 j ∧ tape_0 j ≤ 127) (hK_0_160 : ∀ j : Int, 0 ≤ j → j < 2010 → 0 ≤ tokenKind_0 j ∧ tokenKind_0 j ≤ 4) (hK_0_162 : ∀ j : Int, 0 ≤ j → j < 2010 → 0 ≤ tokenPlace_0 j ∧ tokenPlace_0 j ≤ 2000) (hK_0_163 : ∀ j : Int, 0 ≤ j → j < 2010 → 0 ≤ tokenEnd_0 j ∧ tokenEnd_0 j ≤ 2000) (kz_0_8 : 0 ≤ fault_0 ∧ fault_0 ≤ 5) (kz_0_10 : 0 ≤ limit_0 ∧ limit_0 ≤ 2000) (kz_0_157 : 0 ≤ tokens_0 ∧ tokens_0 ≤ 2010) (kz_0_158 : 0 ≤ cur_0 ∧ cur_0 ≤ 2009) (kz_0_159 : 0 ≤ opened_0 ∧ opened_0 ≤ 13) (kz_0_164 : 0 ≤ styleKind_0 ∧ styleKind_0 ≤ 1) (kz_0_165 : (-1) ≤ styleOne_0 ∧ styleOne_0 ≤ 47) (ex2 : gx = 0 + (1 * x6 + 0)) (ex3 : 0 ≤ gx ∧ gx ≤ 2010) : RDL (fault_0) (cur_0) (styleKind_0) (limit_0) (tokenKind_0) (tokenValue_0) (tokenPlace_0) (tokenEnd_0) (tape_0) (x1) := by
  first
    | exact rb2_go (‹RB2 _ _ _ _ _ _ _ _ _ _ _›) (‹SSM _ _ _ _ _ _ _ _ _ _ _ _›) (by omega)
    | assumption
  
def o_Mo_rule_at_f0_63 : or_T := (275, 22, [(0, (2, 0, 0, [165])), (1, (0, 0, 2009, [])), (2, (2, 0, 0, [165])), (5, (0, 0, 2009, [])), (6, (0, 0, 2010, [])), (11, (0, 1, 1, [])), (12, (0, 1, 2009, [])), (14, (0, 0, 2009, [])), (15, (0, 0, 5, [])), (16, (0, 0, 2009, [])), (17, (0, 0, 5, [])), (18, (0, 0, 13, [])), (20, (0, 0, 0, [])), (21, (0, 0, 47, []))], [(8, [21], [3]), (9, [21, 2], [165]), (8, [20], [0]), (9, [20, 2], [8]), (20, [2], [50, 2, 0, 164, 165, 4, 7, 1, 3, 2, 0, 164, 0, 0, 0, 3, 2, 0, 165, 0, 23]), (23, [1, 16], [0, 1, -1]), (23, [6, 16], [-2011, -1, -1]), (20, [2, 16, 17, 18, 1], [60, 2, 5, 60, 164, 10, 160, 161, 162, 163, 1]), (23, [1, 14], [0, 1, -1]), (23, [6, 14], [-2011, -1, -1]), (20, [2, 14, 15, 1], [60, 2, 5, 62, 164, 10, 160, 161, 162, 163, 1]), (20, [2], [50, 2, 0, 164, 165, 4, 7, 1, 3, 2, 0, 164, 0, 0, 0, 3, 2, 0, 165, 0, 23]), (24, [0, 2], []), (20, [2], [50, 2, 1, 158, 157, 160, 2, 12, 0, 7, 4, 3, 2, 0, 158, 0, 1, 2, 0, 157, 2, 7, 0, 3, 2, 0, 157, 0, 2010, 3, 14, 1, 10, 3, 0, 160, 5, 3, 2, 0, 157, 0, 1, 0, 0, 1, 10, 3, 0, 160, 5, 3, 2, 0, 157, 0, 1, 0, 4]), (20, [16, 2], [30, 0, 1, 0, 0, -1, 1, 158]), (20, [2], [30, 0, 1, 1, 159]), (20, [2], [30, 0, -1, 1, 159]), (20, [2, 16, 17, 18], [60, 4, 5, 2, 8, 158, 164, 10, 160, 161, 162, 163, 1]), (102, [18], [0, 165008, 165009, 165158, 165159]), (23, [1, 16], [0, 1, -1]), (23, [6, 16], [-2011, -1, -1]), (23, [1, 14], [0, 1, -1]), (23, [6, 14], [-2011, -1, -1]), (102, [15], [0, 165008, 165009, 165158]), (23, [1, 14], [0, 1, -1]), (23, [6, 14], [-2011, -1, -1]), (101, [2, 12], [158]), (1, [12, 5, 11], [])], [], [(0, 0, 2010, [])], [(20, [2], [50, 2, 1, 158, 157, 160, 2, 12, 0, 7, 4, 3, 2, 0, 158, 0, 1, 2, 0, 157, 2, 7, 0, 3, 2, 0, 157, 0, 2010, 3, 14, 1, 10, 3, 0, 160, 5, 3, 2, 0, 157, 0, 1, 0, 0, 1, 10, 3, 0, 160, 5, 3, 2, 0, 157, 0, 1, 0, 4]), (20, [1, 2], [30, 0, 1, 0, 0, -1, 1, 158]), (20, [2], [50, 2, 0, 164, 165, 4, 7, 1, 3, 2, 0, 164, 0, 0, 0, 3, 2, 0, 165, 0, 23]), (20, [2], [30, 0, 1, 1, 159]), (20, [2], [30, 0, -1, 1, 159]), (20, [22, 2], [30, -2011, -1, 0, 0, -1, 1, 158]), (20, [2, 1], [60, 4, 5, 68, 8, 158, 164, 10, 160, 161, 162, 163, 1]), (24, [0, 2], [])], [(22, 6, 0, 0)], [(12, 5, 1, 1)])
theorem oo_Mo_rule_at_f0_63 {kA : Nat → ClassId} : or_ok PRD kA GG o_Mo_rule_at_f0_63 := by
  refine or_mk fun A ta ws vs hD hth hl => ?_
  intro t0 r0 t1 k1 t2 r2 t5 k5 t6 k6 t11 k11 t12 k12 t14 k14 t15 k15 t16 k16 t17 k17 t18 k18 t20 k20 t21 k21 d0 f0 f1 f2 f3 f4 f5 f6 f7 f8 f9 f10 f11 f12 f13 f14 f15 f16 f17 ta1 w1 le1 s1 f19 f20 f21 f22 ta2 w2 le2 s2 f24 f25 ta3 w3 le3 s3 f27
  replace f0 := shm_32 f0
  replace f1 := shm_195 f1
  replace f2 := shm_192 f2
  replace f3 := shm_293 f3
  replace f4 := shm_274 f4
  replace f5 := shm_7 f5
  replace f6 := shm_290 f6
  replace f7 := shm_2271 f7
  replace f8 := shm_7 f8
  replace f9 := shm_290 f9
  replace f10 := shm_2270 f10
  replace f11 := shm_274 f11
  replace f12 := shm_5 f12
  replace f13 := shm_271 f13
  replace f14 := shm_281 f14
  replace f15 := shm_1029 f15
  replace f16 := shm_1030 f16
  replace f17 := shm_299 f17
  replace f19 := shm_7 f19
  replace f20 := shm_290 f20
  replace f21 := shm_7 f21
  replace f22 := shm_290 f22
  replace f24 := shm_7 f24
  replace f25 := shm_290 f25
  have s3 : (∀ b j, w_el w2 b j = w_el w3 b j) ∧ ∀ b j, w_fd w2 b j = if b = v_ad (n_v vs 2) ∧ j = 158 then n_v vs 12 else w_fd w3 b j := s3.2
  replace f27 := shm_12 f27
  have q2 : n_v vs 2 = n_v vs 0 := f12.symm
  simp only [q2] at f1 f3 f4 f7 f10 f11 f13 f14 f15 f16 f17
  rw [q2] at s3
  have cr_0_1 := fdq_39 hD hth r0
  have cr_0_160 := fdq_33 hD hth r0
  have cr_0_161 := fdq_40 hD hth r0
  have cr_0_162 := fdq_41 hD hth r0
  have cr_0_163 := fdq_42 hD hth r0
  have g1 : v_iv (n_v vs 21) = w_fi ws (n_v vs 0) 165 := congrArg v_iv f1
  have g3 : v_iv (n_v vs 20) = w_fi ws (n_v vs 0) 8 := congrArg v_iv f3
  have hK_0_1 := elq_7 hD hth cr_0_1
  have hK_0_160 := elq_6 hD hth cr_0_160
  have hK_0_162 := elq_8 hD hth cr_0_162
  have hK_0_163 := elq_9 hD hth cr_0_163
  have kz_0_8 := fdq_34 hD hth r0
  have kz_0_10 := fdq_43 hD hth r0
  have kz_0_157 := fdq_35 hD hth r0
  have kz_0_158 := fdq_36 hD hth r0
  have kz_0_159 := fdq_37 hD hth r0
  have kz_0_164 := fdq_38 hD hth r0
  have kz_0_165 := fdq_27 hD hth r0
  obtain ⟨x, ex, hx⟩ := iv_ex (ta := ta) (lo := 0) (hi := 2010) (z := 0 + (1 * v_iv (n_v vs 6) + 0)) (by omega) (by omega) (by omega) (by omega)
  have ex2 : v_iv (Value.int x) = 0 + (1 * v_iv (n_v vs 6) + 0) := ex
  have ex3 : 0 ≤ v_iv (Value.int x) ∧ v_iv (Value.int x) ≤ 2010 := tv_rng hx
  have e_0 : n_v (vs ++ [Value.int x]) 0 = n_v vs 0 := n_v_old (by rw [hl]; decide)
  have e_1 : n_v (vs ++ [Value.int x]) 1 = n_v vs 1 := n_v_old (by rw [hl]; decide)
  have e_2 : n_v (vs ++ [Value.int x]) 2 = n_v vs 2 := n_v_old (by rw [hl]; decide)
  have e_22 : n_v (vs ++ [Value.int x]) 22 = Value.int x := n_v_new hl
  have nf0 : fc_1 PRD (20, [2], [50, 2, 1, 158, 157, 160, 2, 12, 0, 7, 4, 3, 2, 0, 158, 0, 1, 2, 0, 157, 2, 7, 0, 3, 2, 0, 157, 0, 2010, 3, 14, 1, 10, 3, 0, 160, 5, 3, 2, 0, 157, 0, 1, 0, 0, 1, 10, 3, 0, 160, 5, 3, 2, 0, 157, 0, 1, 0, 4]) ws (vs ++ [Value.int x]) := by
    refine ⟨nf_inA hl rfl, sgq_271 ?_⟩
    · show ((w_fi ws (n_v (vs ++ [Value.int x]) 2) 158 + 1) ≤ w_fi ws (n_v (vs ++ [Value.int x]) 2) 157) ∧ ((w_fi ws (n_v (vs ++ [Value.int x]) 2) 157 ≤ 2010) ∧ ((w_ei ws (w_ar ws (n_v (vs ++ [Value.int x]) 2) 160) ((w_fi ws (n_v (vs ++ [Value.int x]) 2) 157 - 1)) = 0) ∨ (w_ei ws (w_ar ws (n_v (vs ++ [Value.int x]) 2) 160) ((w_fi ws (n_v (vs ++ [Value.int x]) 2) 157 - 1)) = 4)))
      simp only [e_2, q2]
      exact vc_Mo_rule_at_f0_63_0 (v_iv (n_v vs 1)) (v_iv (n_v vs 5)) (v_iv (n_v vs 6)) (v_iv (n_v vs 11)) (v_iv (n_v vs 12)) (v_iv (n_v vs 14)) (v_iv (n_v vs 15)) (v_iv (n_v vs 16)) (v_iv (n_v vs 17)) (v_iv (n_v vs 18)) (v_iv (n_v vs 20)) (v_iv (n_v vs 21)) (w_fi ws (n_v vs 0) 165) (w_fi ws (n_v vs 0) 8) (w_fi ws (n_v vs 0) 164) (w_ei ws (w_ar ws (n_v vs 0) 160)) (w_ei ws (w_ar ws (n_v vs 0) 161)) (w_ei ws (w_ar ws (n_v vs 0) 162)) (w_ei ws (w_ar ws (n_v vs 0) 163)) (w_ei ws (w_ar ws (n_v vs 0) 1)) (w_fi ws (n_v vs 0) 10) (w_fi ws (n_v vs 0) 158) (w_fi ws (n_v vs 0) 157) (w_fi ws (n_v vs 0) 159) (v_iv (Value.int x)) k1 k5 k6 k11 k12 k14 k15 k16 k17 k18 k20 k21 d0 f0 g1 f2 g3 f4 f5 f6 f7 f8 f9 f10 f11 f13 f14 f15 f16 f17 f19 f20 f21 f22 f24 f25 f27 hK_0_1 hK_0_160 hK_0_162 hK_0_163 kz_0_8 kz_0_10 kz_0_157 kz_0_158 kz_0_159 kz_0_164 kz_0_165 ex2 ex3
  have nf1 : fc_1 PRD (20, [1, 2], [30, 0, 1, 0, 0, -1, 1, 158]) ws (vs ++ [Value.int x]) := by
    refine ⟨nf_inA hl rfl, sgq_281 ?_⟩
    · show 1 * v_iv (n_v (vs ++ [Value.int x]) 1) + ((-1) * w_fi ws (n_v (vs ++ [Value.int x]) 2) 158 + 0) ≤ 0
      simp only [e_1, e_2, q2]
      exact vc_Mo_rule_at_f0_63_1 (v_iv (n_v vs 1)) (v_iv (n_v vs 5)) (v_iv (n_v vs 6)) (v_iv (n_v vs 11)) (v_iv (n_v vs 12)) (v_iv (n_v vs 14)) (v_iv (n_v vs 15)) (v_iv (n_v vs 16)) (v_iv (n_v vs 17)) (v_iv (n_v vs 18)) (v_iv (n_v vs 20)) (v_iv (n_v vs 21)) (w_fi ws (n_v vs 0) 165) (w_fi ws (n_v vs 0) 8) (w_fi ws (n_v vs 0) 164) (w_ei ws (w_ar ws (n_v vs 0) 160)) (w_ei ws (w_ar ws (n_v vs 0) 161)) (w_ei ws (w_ar ws (n_v vs 0) 162)) (w_ei ws (w_ar ws (n_v vs 0) 163)) (w_ei ws (w_ar ws (n_v vs 0) 1)) (w_fi ws (n_v vs 0) 10) (w_fi ws (n_v vs 0) 158) (w_fi ws (n_v vs 0) 157) (w_fi ws (n_v vs 0) 159) (v_iv (Value.int x)) k1 k5 k6 k11 k12 k14 k15 k16 k17 k18 k20 k21 d0 f0 g1 f2 g3 f4 f5 f6 f7 f8 f9 f10 f11 f13 f14 f15 f16 f17 f19 f20 f21 f22 f24 f25 f27 hK_0_1 hK_0_160 hK_0_162 hK_0_163 kz_0_8 kz_0_10 kz_0_157 kz_0_158 kz_0_159 kz_0_164 kz_0_165 ex2 ex3
  have nf2 : fc_1 PRD (20, [2], [50, 2, 0, 164, 165, 4, 7, 1, 3, 2, 0, 164, 0, 0, 0, 3, 2, 0, 165, 0, 23]) ws (vs ++ [Value.int x]) := by
    refine ⟨nf_inA hl rfl, sgq_274 ?_⟩
    · show (w_fi ws (n_v (vs ++ [Value.int x]) 2) 164 = 0) → (w_fi ws (n_v (vs ++ [Value.int x]) 2) 165 ≤ 23)
      simp only [e_2, q2]
      exact vc_Mo_rule_at_f0_63_2 (v_iv (n_v vs 1)) (v_iv (n_v vs 5)) (v_iv (n_v vs 6)) (v_iv (n_v vs 11)) (v_iv (n_v vs 12)) (v_iv (n_v vs 14)) (v_iv (n_v vs 15)) (v_iv (n_v vs 16)) (v_iv (n_v vs 17)) (v_iv (n_v vs 18)) (v_iv (n_v vs 20)) (v_iv (n_v vs 21)) (w_fi ws (n_v vs 0) 165) (w_fi ws (n_v vs 0) 8) (w_fi ws (n_v vs 0) 164) (w_ei ws (w_ar ws (n_v vs 0) 160)) (w_ei ws (w_ar ws (n_v vs 0) 161)) (w_ei ws (w_ar ws (n_v vs 0) 162)) (w_ei ws (w_ar ws (n_v vs 0) 163)) (w_ei ws (w_ar ws (n_v vs 0) 1)) (w_fi ws (n_v vs 0) 10) (w_fi ws (n_v vs 0) 158) (w_fi ws (n_v vs 0) 157) (w_fi ws (n_v vs 0) 159) (v_iv (Value.int x)) k1 k5 k6 k11 k12 k14 k15 k16 k17 k18 k20 k21 d0 f0 g1 f2 g3 f4 f5 f6 f7 f8 f9 f10 f11 f13 f14 f15 f16 f17 f19 f20 f21 f22 f24 f25 f27 hK_0_1 hK_0_160 hK_0_162 hK_0_163 kz_0_8 kz_0_10 kz_0_157 kz_0_158 kz_0_159 kz_0_164 kz_0_165 ex2 ex3
  have nf3 : fc_1 PRD (20, [2], [30, 0, 1, 1, 159]) ws (vs ++ [Value.int x]) := by
    refine ⟨nf_inA hl rfl, sgq_1029 ?_⟩
    · show 1 * w_fi ws (n_v (vs ++ [Value.int x]) 2) 159 + 0 ≤ 0
      simp only [e_2, q2]
      exact vc_Mo_rule_at_f0_63_3 (v_iv (n_v vs 1)) (v_iv (n_v vs 5)) (v_iv (n_v vs 6)) (v_iv (n_v vs 11)) (v_iv (n_v vs 12)) (v_iv (n_v vs 14)) (v_iv (n_v vs 15)) (v_iv (n_v vs 16)) (v_iv (n_v vs 17)) (v_iv (n_v vs 18)) (v_iv (n_v vs 20)) (v_iv (n_v vs 21)) (w_fi ws (n_v vs 0) 165) (w_fi ws (n_v vs 0) 8) (w_fi ws (n_v vs 0) 164) (w_ei ws (w_ar ws (n_v vs 0) 160)) (w_ei ws (w_ar ws (n_v vs 0) 161)) (w_ei ws (w_ar ws (n_v vs 0) 162)) (w_ei ws (w_ar ws (n_v vs 0) 163)) (w_ei ws (w_ar ws (n_v vs 0) 1)) (w_fi ws (n_v vs 0) 10) (w_fi ws (n_v vs 0) 158) (w_fi ws (n_v vs 0) 157) (w_fi ws (n_v vs 0) 159) (v_iv (Value.int x)) k1 k5 k6 k11 k12 k14 k15 k16 k17 k18 k20 k21 d0 f0 g1 f2 g3 f4 f5 f6 f7 f8 f9 f10 f11 f13 f14 f15 f16 f17 f19 f20 f21 f22 f24 f25 f27 hK_0_1 hK_0_160 hK_0_162 hK_0_163 kz_0_8 kz_0_10 kz_0_157 kz_0_158 kz_0_159 kz_0_164 kz_0_165 ex2 ex3
  have nf4 : fc_1 PRD (20, [2], [30, 0, -1, 1, 159]) ws (vs ++ [Value.int x]) := by
    refine ⟨nf_inA hl rfl, sgq_1030 ?_⟩
    · show (-1) * w_fi ws (n_v (vs ++ [Value.int x]) 2) 159 + 0 ≤ 0
      simp only [e_2, q2]
      exact vc_Mo_rule_at_f0_63_4 (v_iv (n_v vs 1)) (v_iv (n_v vs 5)) (v_iv (n_v vs 6)) (v_iv (n_v vs 11)) (v_iv (n_v vs 12)) (v_iv (n_v vs 14)) (v_iv (n_v vs 15)) (v_iv (n_v vs 16)) (v_iv (n_v vs 17)) (v_iv (n_v vs 18)) (v_iv (n_v vs 20)) (v_iv (n_v vs 21)) (w_fi ws (n_v vs 0) 165) (w_fi ws (n_v vs 0) 8) (w_fi ws (n_v vs 0) 164) (w_ei ws (w_ar ws (n_v vs 0) 160)) (w_ei ws (w_ar ws (n_v vs 0) 161)) (w_ei ws (w_ar ws (n_v vs 0) 162)) (w_ei ws (w_ar ws (n_v vs 0) 163)) (w_ei ws (w_ar ws (n_v vs 0) 1)) (w_fi ws (n_v vs 0) 10) (w_fi ws (n_v vs 0) 158) (w_fi ws (n_v vs 0) 157) (w_fi ws (n_v vs 0) 159) (v_iv (Value.int x)) k1 k5 k6 k11 k12 k14 k15 k16 k17 k18 k20 k21 d0 f0 g1 f2 g3 f4 f5 f6 f7 f8 f9 f10 f11 f13 f14 f15 f16 f17 f19 f20 f21 f22 f24 f25 f27 hK_0_1 hK_0_160 hK_0_162 hK_0_163 kz_0_8 kz_0_10 kz_0_157 kz_0_158 kz_0_159 kz_0_164 kz_0_165 ex2 ex3
  have nf5 : fc_1 PRD (20, [22, 2], [30, -2011, -1, 0, 0, -1, 1, 158]) ws (vs ++ [Value.int x]) := by
    refine ⟨nf_inA hl rfl, sgq_292 ?_⟩
    · show (-1) * v_iv (n_v (vs ++ [Value.int x]) 22) + ((-1) * w_fi ws (n_v (vs ++ [Value.int x]) 2) 158 + 0) ≤ (-2011)
      simp only [e_2, e_22, q2]
      exact vc_Mo_rule_at_f0_63_5 (v_iv (n_v vs 1)) (v_iv (n_v vs 5)) (v_iv (n_v vs 6)) (v_iv (n_v vs 11)) (v_iv (n_v vs 12)) (v_iv (n_v vs 14)) (v_iv (n_v vs 15)) (v_iv (n_v vs 16)) (v_iv (n_v vs 17)) (v_iv (n_v vs 18)) (v_iv (n_v vs 20)) (v_iv (n_v vs 21)) (w_fi ws (n_v vs 0) 165) (w_fi ws (n_v vs 0) 8) (w_fi ws (n_v vs 0) 164) (w_ei ws (w_ar ws (n_v vs 0) 160)) (w_ei ws (w_ar ws (n_v vs 0) 161)) (w_ei ws (w_ar ws (n_v vs 0) 162)) (w_ei ws (w_ar ws (n_v vs 0) 163)) (w_ei ws (w_ar ws (n_v vs 0) 1)) (w_fi ws (n_v vs 0) 10) (w_fi ws (n_v vs 0) 158) (w_fi ws (n_v vs 0) 157) (w_fi ws (n_v vs 0) 159) (v_iv (Value.int x)) k1 k5 k6 k11 k12 k14 k15 k16 k17 k18 k20 k21 d0 f0 g1 f2 g3 f4 f5 f6 f7 f8 f9 f10 f11 f13 f14 f15 f16 f17 f19 f20 f21 f22 f24 f25 f27 hK_0_1 hK_0_160 hK_0_162 hK_0_163 kz_0_8 kz_0_10 kz_0_157 kz_0_158 kz_0_159 kz_0_164 kz_0_165 ex2 ex3
  have nf6 : fc_1 PRD (20, [2, 1], [60, 4, 5, 68, 8, 158, 164, 10, 160, 161, 162, 163, 1]) ws (vs ++ [Value.int x]) := by
    refine ⟨nf_inA hl rfl, sgq_2272 ?_⟩
    · show RDL (w_fi ws (n_v (vs ++ [Value.int x]) 2) 8) (w_fi ws (n_v (vs ++ [Value.int x]) 2) 158) (w_fi ws (n_v (vs ++ [Value.int x]) 2) 164) (w_fi ws (n_v (vs ++ [Value.int x]) 2) 10) (w_ei ws (w_ar ws (n_v (vs ++ [Value.int x]) 2) 160)) (w_ei ws (w_ar ws (n_v (vs ++ [Value.int x]) 2) 161)) (w_ei ws (w_ar ws (n_v (vs ++ [Value.int x]) 2) 162)) (w_ei ws (w_ar ws (n_v (vs ++ [Value.int x]) 2) 163)) (w_ei ws (w_ar ws (n_v (vs ++ [Value.int x]) 2) 1)) (v_iv (n_v (vs ++ [Value.int x]) 1))
      simp only [e_1, e_2, q2]
      exact vc_Mo_rule_at_f0_63_6 (v_iv (n_v vs 1)) (v_iv (n_v vs 5)) (v_iv (n_v vs 6)) (v_iv (n_v vs 11)) (v_iv (n_v vs 12)) (v_iv (n_v vs 14)) (v_iv (n_v vs 15)) (v_iv (n_v vs 16)) (v_iv (n_v vs 17)) (v_iv (n_v vs 18)) (v_iv (n_v vs 20)) (v_iv (n_v vs 21)) (w_fi ws (n_v vs 0) 165) (w_fi ws (n_v vs 0) 8) (w_fi ws (n_v vs 0) 164) (w_ei ws (w_ar ws (n_v vs 0) 160)) (w_ei ws (w_ar ws (n_v vs 0) 161)) (w_ei ws (w_ar ws (n_v vs 0) 162)) (w_ei ws (w_ar ws (n_v vs 0) 163)) (w_ei ws (w_ar ws (n_v vs 0) 1)) (w_fi ws (n_v vs 0) 10) (w_fi ws (n_v vs 0) 158) (w_fi ws (n_v vs 0) 157) (w_fi ws (n_v vs 0) 159) (v_iv (Value.int x)) k1 k5 k6 k11 k12 k14 k15 k16 k17 k18 k20 k21 d0 f0 g1 f2 g3 f4 f5 f6 f7 f8 f9 f10 f11 f13 f14 f15 f16 f17 f19 f20 f21 f22 f24 f25 f27 hK_0_1 hK_0_160 hK_0_162 hK_0_163 kz_0_8 kz_0_10 kz_0_157 kz_0_158 kz_0_159 kz_0_164 kz_0_165 ex2 ex3
  have nf7 : fc_1 PRD (24, [0, 2], []) ws (vs ++ [Value.int x]) := by
    refine ⟨nf_inA hl rfl, sgq_5 ?_⟩
    · show n_v (vs ++ [Value.int x]) 0 = n_v (vs ++ [Value.int x]) 2
      first | rfl | simp only [e_0, e_2, q2]
  obtain ⟨x0, e0, _, _⟩ := tv_int t6 rfl
  have e1 : v_iv (n_v vs 6) = x0.toInt := by rw [e0]; rfl
  have ho : sy_ofs (vs ++ [Value.int x]) (22, 6, 0, 0) := by
    refine ⟨x, x0, by rw [List.getElem?_append_right (by rw [hl]; decide), hl]; rfl, ?_, ?_, ?_⟩
    · rw [List.getElem?_append_left (by rw [hl]; decide)]; exact n_v_some (by rw [hl]; decide) e0
    · show x0.toInt + 0 ≤ x.toInt; omega
    · show x.toInt ≤ x0.toInt + 0; omega
  exact ⟨(fun _ h => (by cases h)), [Value.int x], ag_one hx, List.forall_mem_cons.mpr ⟨⟨show (20 : Nat) < 100 from by decide, nf0⟩, List.forall_mem_cons.mpr ⟨⟨show (20 : Nat) < 100 from by decide, nf1⟩, List.forall_mem_cons.mpr ⟨⟨show (20 : Nat) < 100 from by decide, nf2⟩, List.forall_mem_cons.mpr ⟨⟨show (20 : Nat) < 100 from by decide, nf3⟩, List.forall_mem_cons.mpr ⟨⟨show (20 : Nat) < 100 from by decide, nf4⟩, List.forall_mem_cons.mpr ⟨⟨show (20 : Nat) < 100 from by decide, nf5⟩, List.forall_mem_cons.mpr ⟨⟨show (20 : Nat) < 100 from by decide, nf6⟩, List.forall_mem_cons.mpr ⟨⟨show (24 : Nat) < 100 from by decide, nf7⟩, (fun _ h => (by cases h))⟩⟩⟩⟩⟩⟩⟩⟩, List.forall_mem_cons.mpr ⟨ho, (fun _ h => (by cases h))⟩⟩
set_option maxHeartbeats 4000000 in
theorem vc_Mo_rule_at_f0_64_0 (x1 : Int) (x5 : Int) (x6 : Int) (x11 : Int) (x12 : Int) (x14 : Int) (x15 : Int) (x16 : Int) (x17 : Int) (x18 : Int) (x20 : Int) (x21 : Int) (x27 : Int) (x33 : Int) (styleKind_0 : Int) (styleOne_0 : Int) (fault_0 : Int) (tokenKind_0 : Int → Int) (tokenValue_0 : Int → Int) (tokenPlace_0 : Int → Int) (tokenEnd_0 : Int → Int) (tape_0 : Int → Int) (limit_0 : Int) (cur_0 : Int) (tokens_0 : Int) (opened_0 : Int) (styleKind_1 : Int) (styleOne_1 : Int) (tokenKind_1 : Int → Int) (tokenValue_1 : Int → Int) (tokenPlace_1 : Int → Int) (tokenEnd_1 : Int → Int) (tape_1 : Int → Int) (limit_1 : Int) (cur_1 : Int) (tokens_1 : Int) (opened_1 : Int) (fault_1 : Int) (shades_0 : Int → Int) (shades_1 : Int → Int) (x36 : Int) (gx : Int) (k1 : 0 ≤ x1 ∧ x1 ≤ 2009) (k5 : 0 ≤ x5 ∧ x5 ≤ 2009) (k6 : 0 ≤ x6 ∧ x6 ≤ 2010) (k11 : 1 ≤ x11 ∧ x11 ≤ 1) (k12 : 1 ≤ x12 ∧ x12 ≤ 2009) (k14 : 0 ≤ x14 ∧ x14 ≤ 2009) (k15 : 0 ≤ x15 ∧ x15 ≤ 5) (k16 : 0 ≤ x16 ∧ x16 ≤ 2009) (k17 : 0 ≤ x17 ∧ x17 ≤ 5) (k18 : 0 ≤ x18 ∧ x18 ≤ 13) (k20 : 0 ≤ x20 ∧ x20 ≤ 0) (k21 : 0 ≤ x21 ∧ x21 ≤ 47) (k27 : 0 ≤ x27 ∧ x27 ≤ 1) (k33 : 0 ≤ x33 ∧ x33 ≤ 861) (d0 : x5 + 1 ≤ x12 ∧ x12 ≤ x5 + 1) (g0 : x27 = styleKind_0) (g2 : x21 = styleOne_0) (g3 : x20 = fault_0) (f4 : (styleKind_0 = 0) → (styleOne_0 ≤ 23)) (f5 : 1 * x1 + ((-1) * x16 + 0) ≤ 0) (f6 : (-1) * x6 + ((-1) * x16 + 0) ≤ (-2011)) (f7 : RB2 (styleKind_0) (limit_0) (tokenKind_0) (tokenValue_0) (tokenPlace_0) (tokenEnd_0) (tape_0) (x16) (x17) (x18) (x1)) (f8 : 1 * x1 + ((-1) * x14 + 0) ≤ 0) (f9 : (-1) * x6 + ((-1) * x14 + 0) ≤ (-2011)) (f10 : RB1 (styleKind_0) (limit_0) (tokenKind_0) (tokenValue_0) (tokenPlace_0) (tokenEnd_0) (tape_0) (x14) (x15) (x1)) (f11 : (styleKind_0 = 0) → (styleOne_0 ≤ 23)) (f13 : ((cur_0 + 1) ≤ tokens_0) ∧ ((tokens_0 ≤ 2010) ∧ ((tokenKind_0 ((tokens_0 - 1)) = 0) ∨ (tokenKind_0 ((tokens_0 - 1)) = 4)))) (f14 : 1 * x16 + ((-1) * cur_0 + 0) ≤ 0) (f15 : 1 * opened_0 + 0 ≤ 0) (f16 : (-1) * opened_0 + 0 ≤ 0) (f17 : SSM (fault_0) (cur_0) (styleKind_0) (limit_0) (tokenKind_0) (tokenValue_0) (tokenPlace_0) (tokenEnd_0) (tape_0) (x16) (x17) (x18)) (f19 : 0 ≤ x21) (f20 : x20 = 0) (f21 : (styleKind_1 = 0) → (styleOne_1 ≤ 23)) (f22 : 1 * x1 + ((-1) * x16 + 0) ≤ 0) (f23 : (-1) * x6 + ((-1) * x16 + 0) ≤ (-2011)) (f24 : RB2 (styleKind_1) (limit_1) (tokenKind_1) (tokenValue_1) (tokenPlace_1) (tokenEnd_1) (tape_1) (x16) (x17) (x18) (x1)) (f25 : 1 * x1 + ((-1) * x14 + 0) ≤ 0) (f26 : (-1) * x6 + ((-1) * x14 + 0) ≤ (-2011)) (f27 : RB1 (styleKind_1) (limit_1) (tokenKind_1) (tokenValue_1) (tokenPlace_1) (tokenEnd_1) (tape_1) (x14) (x15) (x1)) (f28 : (styleKind_1 = 0) → (styleOne_1 ≤ 23)) (f29 : ((cur_1 + 1) ≤ tokens_1) ∧ ((tokens_1 ≤ 2010) ∧ ((tokenKind_1 ((tokens_1 - 1)) = 0) ∨ (tokenKind_1 ((tokens_1 - 1)) = 4)))) (f30 : 1 * x16 + ((-1) * cur_1 + 0) ≤ 0) (f31 : 1 * opened_1 + 0 ≤ 0) (f32 : (-1) * opened_1 + 0 ≤ 0) (f33 : SSM (fault_1) (cur_1) (styleKind_1) (limit_1) (tokenKind_1) (tokenValue_1) (tokenPlace_1) (tokenEnd_1) (tape_1) (x16) (x17) (x18)) (f35 : 1 * x1 + ((-1) * x16 + 0) ≤ 0) (f36 : (-1) * x6 + ((-1) * x16 + 0) ≤ (-2011)) (f37 : 1 * x1 + ((-1) * x14 + 0) ≤ 0) (f38 : (-1) * x6 + ((-1) * x14 + 0) ≤ (-2011)) (f40 : 1 * x1 + ((-1) * x14 + 0) ≤ 0) (f41 : (-1) * x6 + ((-1) * x14 + 0) ≤ (-2011)) (f43 : x12 = x5 + x11) (fe_0_8_1 : fault_0 = fault_1) (fe_0_10_1 : limit_0 = limit_1) (fe_0_157_1 : tokens_0 = tokens_1) (fe_0_158_1 : cur_0 = cur_1) (fe_0_159_1 : opened_0 = opened_1) (fe_0_164_1 : styleKind_0 = styleKind_1) (fe_0_165_1 : styleOne_0 = styleOne_1) (hE_0_1_1 : ∀ j : Int, tape_0 j = tape_1 j) (hK_0_1 : ∀ j : Int, 0 ≤ j → j < 2000 → (-128) ≤ tape_0 j ∧ tape_0 j ≤ 127) (hE_0_73_1 : ∀ j : Int, 0 ≤ j → (j = x33 → shades_0 j = x36) ∧ (j ≠ x33 → shades_0 j = shades_1 j)) (hK_0_73 : ∀ j : Int, 0 ≤ j → j < 864 → 0 ≤ shades_0 j ∧ shades_0 j ≤ 255) (hE_0_160_1 : ∀ j : Int, tokenKind_0 j = tokenKind_1 j) (hK_0_160 : ∀ j : Int, 0 ≤ j → j < 2010 → 0 ≤ tokenKind_0 j ∧ tokenKind_0 j ≤ 4) (hE_0_161_1 : ∀ j : Int, tokenValue_0 j = tokenValue_1 j) (hE_0_162_1 : ∀ j : Int, tokenPlace_0 j = tokenPlace_1 j) (hK_0_162 : ∀ j : Int, 0 ≤ j → j < 2010 → 0 ≤ tokenPlace_0 j ∧ tokenPlace_0 j ≤ 2000) (hE_0_163_1 : ∀ j : Int, tokenEnd_0 j = tokenEnd_1 j) (hK_0_163 : ∀ j : Int, 0 ≤ j → j < 2010 → 0 ≤ tokenEnd_0 j ∧ tokenEnd_0 j ≤ 2000) (kz_0_8 : 0 ≤ fault_0 ∧ fault_0 ≤ 5) (kz_0_10 : 0 ≤ limit_0 ∧ limit_0 ≤ 2000) (kz_0_157 : 0 ≤ tokens_0 ∧ tokens_0 ≤ 2010) (kz_0_158 : 0 ≤ cur_0 ∧ cur_0 ≤ 2009) (kz_0_159 : 0 ≤ opened_0 ∧ opened_0 ≤ 13) (kz_0_164 : 0 ≤ styleKind_0 ∧ styleKind_0 ≤ 1) (kz_0_165 : (-1) ≤ styleOne_0 ∧ styleOne_0 ≤ 47) (ex2 : gx = 0 + (1 * x6 + 0)) (ex3 : 0 ≤ gx ∧ gx ≤ 2010) : ((cur_0 + 1) ≤ tokens_0) ∧ ((tokens_0 ≤ 2010) ∧ ((tokenKind_0 ((tokens_0 - 1)) = 0) ∨ (tokenKind_0 ((tokens_0 - 1)) = 4))) := by
  subst fe_0_8_1
  subst fe_0_10_1
  subst fe_0_157_1
  subst fe_0_158_1
  subst fe_0_159_1
  subst fe_0_164_1
  subst fe_0_165_1
  have e_hE_0_1_1 := funext hE_0_1_1; subst e_hE_0_1_1
  have e_hE_0_160_1 := funext hE_0_160_1; subst e_hE_0_160_1
  have e_hE_0_161_1 := funext hE_0_161_1; subst e_hE_0_161_1
  have e_hE_0_162_1 := funext hE_0_162_1; subst e_hE_0_162_1
  have e_hE_0_163_1 := funext hE_0_163_1; subst e_hE_0_163_1
  first | with_reducible assumption | ((have f13_c0 := f13.1); (have f13_c1 := f13.2.1); (have f13_c2 := f13.2.2); (have f29_c0 := f29.1); (have f29_c1 := f29.2.1); (have f29_c2 := f29.2.2); (try and_intros) <;> first | with_reducible assumption | (clear f13_c2 f13 f29_c2 f29 hE_0_1_1 hK_0_1 hE_0_73_1 hK_0_73 hE_0_160_1 hK_0_160 hE_0_161_1 hE_0_162_1 hK_0_162 hE_0_163_1 hK_0_163 f4 f11 f21 f28; omega)) | ((have f13_c0 := f13.1); (have f13_c1 := f13.2.1); (have f13_c2 := f13.2.2); (have f29_c0 := f29.1); (have f29_c1 := f29.2.1); (have f29_c2 := f29.2.2); (first | have f4_b := f4 (by clear f13_c2 f13 f29_c2 f29 hE_0_1_1 hK_0_1 hE_0_73_1 hK_0_73 hE_0_160_1 hK_0_160 hE_0_161_1 hE_0_162_1 hK_0_162 hE_0_163_1 hK_0_163 f4 f11 f21 f28; omega) | skip); (first | have f11_b := f11 (by clear f13_c2 f13 f29_c2 f29 hE_0_1_1 hK_0_1 hE_0_73_1 hK_0_73 hE_0_160_1 hK_0_160 hE_0_161_1 hE_0_162_1 hK_0_162 hE_0_163_1 hK_0_163 f4 f11 f21 f28; omega) | skip); (first | have f21_b := f21 (by clear f13_c2 f13 f29_c2 f29 hE_0_1_1 hK_0_1 hE_0_73_1 hK_0_73 hE_0_160_1 hK_0_160 hE_0_161_1 hE_0_162_1 hK_0_162 hE_0_163_1 hK_0_163 f4 f11 f21 f28; omega) | skip); (first | have f28_b := f28 (by clear f13_c2 f13 f29_c2 f29 hE_0_1_1 hK_0_1 hE_0_73_1 hK_0_73 hE_0_160_1 hK_0_160 hE_0_161_1 hE_0_162_1 hK_0_162 hE_0_163_1 hK_0_163 f4 f11 f21 f28; omega) | skip); (first | have f4_d := f4 (by with_reducible assumption) | skip); (first | have f11_d := f11 (by with_reducible assumption) | skip); (first | have f21_d := f21 (by with_reducible assumption) | skip); (first | have f28_d := f28 (by with_reducible assumption) | skip); (try and_intros) <;> first | with_reducible assumption | (clear f13_c2 f13 f29_c2 f29 hE_0_1_1 hK_0_1 hE_0_73_1 hK_0_73 hE_0_160_1 hK_0_160 hE_0_161_1 hE_0_162_1 hK_0_162 hE_0_163_1 hK_0_163 f4 f11 f21 f28; omega)) | ((have f13_c0 := f13.1); (have f13_c1 := f13.2.1); (have f13_c2 := f13.2.2); (have f29_c0 := f29.1); (have f29_c1 := f29.2.1); (have f29_c2 := f29.2.2); (first | have f4_b := f4 (by clear f13_c2 f13 f29_c2 f29 hE_0_1_1 hK_0_1 hE_0_73_1 hK_0_73 hE_0_160_1 hK_0_160 hE_0_161_1 hE_0_162_1 hK_0_162 hE_0_163_1 hK_0_163 f4 f11 f21 f28; omega) | skip); (first | have f11_b := f11 (by clear f13_c2 f13 f29_c2 f29 hE_0_1_1 hK_0_1 hE_0_73_1 hK_0_73 hE_0_160_1 hK_0_160 hE_0_161_1 hE_0_162_1 hK_0_162 hE_0_163_1 hK_0_163 f4 f11 f21 f28; omega) | skip); (first | have f21_b := f21 (by clear f13_c2 f13 f29_c2 f29 hE_0_1_1 hK_0_1 hE_0_73_1 hK_0_73 hE_0_160_1 hK_0_160 hE_0_161_1 hE_0_162_1 hK_0_162 hE_0_163_1 hK_0_163 f4 f11 f21 f28; omega) | skip); (first | have f28_b := f28 (by clear f13_c2 f13 f29_c2 f29 hE_0_1_1 hK_0_1 hE_0_73_1 hK_0_73 hE_0_160_1 hK_0_160 hE_0_161_1 hE_0_162_1 hK_0_162 hE_0_163_1 hK_0_163 f4 f11 f21 f28; omega) | skip); (first | have f4_d := f4 (by with_reducible assumption) | skip); (first | have f11_d := f11 (by with_reducible assumption) | skip); (first | have f21_d := f21 (by with_reducible assumption) | skip); (first | have f28_d := f28 (by with_reducible assumption) | skip); (first | have f13_q := tk_nx0 f13 (by clear f13_c2 f13 f29_c2 f29 hE_0_1_1 hK_0_1 hE_0_73_1 hK_0_73 hE_0_160_1 hK_0_160 hE_0_161_1 hE_0_162_1 hK_0_162 hE_0_163_1 hK_0_163 f4 f11 f21 f28; omega) | skip); (first | have f29_q := tk_nx0 f29 (by clear f13_c2 f13 f29_c2 f29 hE_0_1_1 hK_0_1 hE_0_73_1 hK_0_73 hE_0_160_1 hK_0_160 hE_0_161_1 hE_0_162_1 hK_0_162 hE_0_163_1 hK_0_163 f4 f11 f21 f28; omega) | skip); (try and_intros) <;> first | with_reducible assumption | (clear f13_c2 f13 f29_c2 f29 hE_0_1_1 hK_0_1 hE_0_73_1 hK_0_73 hE_0_160_1 hK_0_160 hE_0_161_1 hE_0_162_1 hK_0_162 hE_0_163_1 hK_0_163 f4 f11 f21 f28; omega)) | omega
set_option maxHeartbeats 4000000 in
theorem vc_Mo_rule_at_f0_64_1 (x1 : Int) (x5 : Int) (x6 : Int) (x11 : Int) (x12 : Int) (x14 : Int) (x15 : Int) (x16 : Int) (x17 : Int) (x18 : Int) (x20 : Int) (x21 : Int) (x27 : Int) (x33 : Int) (styleKind_0 : Int) (styleOne_0 : Int) (fault_0 : Int) (tokenKind_0 : Int → Int) (tokenValue_0 : Int → Int) (tokenPlace_0 : Int → Int) (tokenEnd_0 : Int → Int) (tape_0 : Int → Int) (limit_0 : Int) (cur_0 : Int) (tokens_0 : Int) (opened_0 : Int) (styleKind_1 : Int) (styleOne_1 : Int) (tokenKind_1 : Int → Int) (tokenValue_1 : Int → Int) (tokenPlace_1 : Int → Int) (tokenEnd_1 : Int → Int) (tape_1 : Int → Int) (limit_1 : Int) (cur_1 : Int) (tokens_1 : Int) (opened_1 : Int) (fault_1 : Int) (shades_0 : Int → Int) (shades_1 : Int → Int) (x36 : Int) (gx : Int) (k1 : 0 ≤ x1 ∧ x1 ≤ 2009) (k5 : 0 ≤ x5 ∧ x5 ≤ 2009) (k6 : 0 ≤ x6 ∧ x6 ≤ 2010) (k11 : 1 ≤ x11 ∧ x11 ≤ 1) (k12 : 1 ≤ x12 ∧ x12 ≤ 2009) (k14 : 0 ≤ x14 ∧ x14 ≤ 2009) (k15 : 0 ≤ x15 ∧ x15 ≤ 5) (k16 : 0 ≤ x16 ∧ x16 ≤ 2009) (k17 : 0 ≤ x17 ∧ x17 ≤ 5) (k18 : 0 ≤ x18 ∧ x18 ≤ 13) (k20 : 0 ≤ x20 ∧ x20 ≤ 0) (k21 : 0 ≤ x21 ∧ x21 ≤ 47) (k27 : 0 ≤ x27 ∧ x27 ≤ 1) (k33 : 0 ≤ x33 ∧ x33 ≤ 861) (d0 : x5 + 1 ≤ x12 ∧ x12 ≤ x5 + 1) (g0 : x27 = styleKind_0) (g2 : x21 = styleOne_0) (g3 : x20 = fault_0) (f4 : (styleKind_0 = 0) → (styleOne_0 ≤ 23)) (f5 : 1 * x1 + ((-1) * x16 + 0) ≤ 0) (f6 : (-1) * x6 + ((-1) * x16 + 0) ≤ (-2011)) (f7 : RB2 (styleKind_0) (limit_0) (tokenKind_0) (tokenValue_0) (tokenPlace_0) (tokenEnd_0) (tape_0) (x16) (x17) (x18) (x1)) (f8 : 1 * x1 + ((-1) * x14 + 0) ≤ 0) (f9 : (-1) * x6 + ((-1) * x14 + 0) ≤ (-2011)) (f10 : RB1 (styleKind_0) (limit_0) (tokenKind_0) (tokenValue_0) (tokenPlace_0) (tokenEnd_0) (tape_0) (x14) (x15) (x1)) (f11 : (styleKind_0 = 0) → (styleOne_0 ≤ 23)) (f13 : ((cur_0 + 1) ≤ tokens_0) ∧ ((tokens_0 ≤ 2010) ∧ ((tokenKind_0 ((tokens_0 - 1)) = 0) ∨ (tokenKind_0 ((tokens_0 - 1)) = 4)))) (f14 : 1 * x16 + ((-1) * cur_0 + 0) ≤ 0) (f15 : 1 * opened_0 + 0 ≤ 0) (f16 : (-1) * opened_0 + 0 ≤ 0) (f17 : SSM (fault_0) (cur_0) (styleKind_0) (limit_0) (tokenKind_0) (tokenValue_0) (tokenPlace_0) (tokenEnd_0) (tape_0) (x16) (x17) (x18)) (f19 : 0 ≤ x21) (f20 : x20 = 0) (f21 : (styleKind_1 = 0) → (styleOne_1 ≤ 23)) (f22 : 1 * x1 + ((-1) * x16 + 0) ≤ 0) (f23 : (-1) * x6 + ((-1) * x16 + 0) ≤ (-2011)) (f24 : RB2 (styleKind_1) (limit_1) (tokenKind_1) (tokenValue_1) (tokenPlace_1) (tokenEnd_1) (tape_1) (x16) (x17) (x18) (x1)) (f25 : 1 * x1 + ((-1) * x14 + 0) ≤ 0) (f26 : (-1) * x6 + ((-1) * x14 + 0) ≤ (-2011)) (f27 : RB1 (styleKind_1) (limit_1) (tokenKind_1) (tokenValue_1) (tokenPlace_1) (tokenEnd_1) (tape_1) (x14) (x15) (x1)) (f28 : (styleKind_1 = 0) → (styleOne_1 ≤ 23)) (f29 : ((cur_1 + 1) ≤ tokens_1) ∧ ((tokens_1 ≤ 2010) ∧ ((tokenKind_1 ((tokens_1 - 1)) = 0) ∨ (tokenKind_1 ((tokens_1 - 1)) = 4)))) (f30 : 1 * x16 + ((-1) * cur_1 + 0) ≤ 0) (f31 : 1 * opened_1 + 0 ≤ 0) (f32 : (-1) * opened_1 + 0 ≤ 0) (f33 : SSM (fault_1) (cur_1) (styleKind_1) (limit_1) (tokenKind_1) (tokenValue_1) (tokenPlace_1) (tokenEnd_1) (tape_1) (x16) (x17) (x18)) (f35 : 1 * x1 + ((-1) * x16 + 0) ≤ 0) (f36 : (-1) * x6 + ((-1) * x16 + 0) ≤ (-2011)) (f37 : 1 * x1 + ((-1) * x14 + 0) ≤ 0) (f38 : (-1) * x6 + ((-1) * x14 + 0) ≤ (-2011)) (f40 : 1 * x1 + ((-1) * x14 + 0) ≤ 0) (f41 : (-1) * x6 + ((-1) * x14 + 0) ≤ (-2011)) (f43 : x12 = x5 + x11) (fe_0_8_1 : fault_0 = fault_1) (fe_0_10_1 : limit_0 = limit_1) (fe_0_157_1 : tokens_0 = tokens_1) (fe_0_158_1 : cur_0 = cur_1) (fe_0_159_1 : opened_0 = opened_1) (fe_0_164_1 : styleKind_0 = styleKind_1) (fe_0_165_1 : styleOne_0 = styleOne_1) (hE_0_1_1 : ∀ j : Int, tape_0 j = tape_1 j) (hK_0_1 : ∀ j : Int, 0 ≤ j → j < 2000 → (-128) ≤ tape_0 j ∧ tape_0 j ≤ 127) (hE_0_73_1 : ∀ j : Int, 0 ≤ j → (j = x33 → shades_0 j = x36) ∧ (j ≠ x33 → shades_0 j = shades_1 j)) (hK_0_73 : ∀ j : Int, 0 ≤ j → j < 864 → 0 ≤ shades_0 j ∧ shades_0 j ≤ 255) (hE_0_160_1 : ∀ j : Int, tokenKind_0 j = tokenKind_1 j) (hK_0_160 : ∀ j : Int, 0 ≤ j → j < 2010 → 0 ≤ tokenKind_0 j ∧ tokenKind_0 j ≤ 4) (hE_0_161_1 : ∀ j : Int, tokenValue_0 j = tokenValue_1 j) (hE_0_162_1 : ∀ j : Int, tokenPlace_0 j = tokenPlace_1 j) (hK_0_162 : ∀ j : Int, 0 ≤ j → j < 2010 → 0 ≤ tokenPlace_0 j ∧ tokenPlace_0 j ≤ 2000) (hE_0_163_1 : ∀ j : Int, tokenEnd_0 j = tokenEnd_1 j) (hK_0_163 : ∀ j : Int, 0 ≤ j → j < 2010 → 0 ≤ tokenEnd_0 j ∧ tokenEnd_0 j ≤ 2000) (kz_0_8 : 0 ≤ fault_0 ∧ fault_0 ≤ 5) (kz_0_10 : 0 ≤ limit_0 ∧ limit_0 ≤ 2000) (kz_0_157 : 0 ≤ tokens_0 ∧ tokens_0 ≤ 2010) (kz_0_158 : 0 ≤ cur_0 ∧ cur_0 ≤ 2009) (kz_0_159 : 0 ≤ opened_0 ∧ opened_0 ≤ 13) (kz_0_164 : 0 ≤ styleKind_0 ∧ styleKind_0 ≤ 1) (kz_0_165 : (-1) ≤ styleOne_0 ∧ styleOne_0 ≤ 47) (ex2 : gx = 0 + (1 * x6 + 0)) (ex3 : 0 ≤ gx ∧ gx ≤ 2010) : 1 * x1 + ((-1) * cur_0 + 0) ≤ 0 := by
  subst fe_0_8_1
  subst fe_0_10_1
  subst fe_0_157_1
  subst fe_0_158_1
  subst fe_0_159_1
  subst fe_0_164_1
  subst fe_0_165_1
  have e_hE_0_1_1 := funext hE_0_1_1; subst e_hE_0_1_1
  have e_hE_0_160_1 := funext hE_0_160_1; subst e_hE_0_160_1
  have e_hE_0_161_1 := funext hE_0_161_1; subst e_hE_0_161_1
  have e_hE_0_162_1 := funext hE_0_162_1; subst e_hE_0_162_1
  have e_hE_0_163_1 := funext hE_0_163_1; subst e_hE_0_163_1
  first | with_reducible assumption | ((have f13_c0 := f13.1); (have f13_c1 := f13.2.1); (have f13_c2 := f13.2.2); (have f29_c0 := f29.1); (have f29_c1 := f29.2.1); (have f29_c2 := f29.2.2); (try and_intros) <;> first | with_reducible assumption | (clear f13_c2 f13 f29_c2 f29 hE_0_1_1 hK_0_1 hE_0_73_1 hK_0_73 hE_0_160_1 hK_0_160 hE_0_161_1 hE_0_162_1 hK_0_162 hE_0_163_1 hK_0_163 f4 f11 f21 f28; omega)) | ((have f13_c0 := f13.1); (have f13_c1 := f13.2.1); (have f13_c2 := f13.2.2); (have f29_c0 := f29.1); (have f29_c1 := f29.2.1); (have f29_c2 := f29.2.2); (first | have f4_b := f4 (by clear f13_c2 f13 f29_c2 f29 hE_0_1_1 hK_0_1 hE_0_73_1 hK_0_73 hE_0_160_1 hK_0_160 hE_0_161_1 hE_0_162_1 hK_0_162 hE_0_163_1 hK_0_163 f4 f11 f21 f28; omega) | skip); (first | have f11_b := f11 (by clear f13_c2 f13 f29_c2 f29 hE_0_1_1 hK_0_1 hE_0_73_1 hK_0_73 hE_0_160_1 hK_0_160 hE_0_161_1 hE_0_162_1 hK_0_162 hE_0_163_1 hK_0_163 f4 f11 f21 f28; omega) | skip); (first | have f21_b := f21 (by clear f13_c2 f13 f29_c2 f29 hE_0_1_1 hK_0_1 hE_0_73_1 hK_0_73 hE_0_160_1 hK_0_160 hE_0_161_1 hE_0_162_1 hK_0_162 hE_0_163_1 hK_0_163 f4 f11 f21 f28; omega) | skip); (first | have f28_b := f28 (by clear f13_c2 f13 f29_c2 f29 hE_0_1_1 hK_0_1 hE_0_73_1 hK_0_73 hE_0_160_1 hK_0_160 hE_0_161_1 hE_0_162_1 hK_0_162 hE_0_163_1 hK_0_163 f4 f11 f21 f28; omega) | skip); (first | have f4_d := f4 (by with_reducible assumption) | skip); (first | have f11_d := f11 (by with_reducible assumption) | skip); (first | have f21_d := f21 (by with_reducible assumption) | skip); (first | have f28_d := f28 (by with_reducible assumption) | skip); (try and_intros) <;> first | with_reducible assumption | (clear f13_c2 f13 f29_c2 f29 hE_0_1_1 hK_0_1 hE_0_73_1 hK_0_73 hE_0_160_1 hK_0_160 hE_0_161_1 hE_0_162_1 hK_0_162 hE_0_163_1 hK_0_163 f4 f11 f21 f28; omega)) | ((have f13_c0 := f13.1); (have f13_c1 := f13.2.1); (have f13_c2 := f13.2.2); (have f29_c0 := f29.1); (have f29_c1 := f29.2.1); (have f29_c2 := f29.2.2); (first | have f4_b := f4 (by clear f13_c2 f13 f29_c2 f29 hE_0_1_1 hK_0_1 hE_0_73_1 hK_0_73 hE_0_160_1 hK_0_160 hE_0_161_1 hE_0_162_1 hK_0_162 hE_0_163_1 hK_0_163 f4 f11 f21 f28; omega) | skip); (first | have f11_b := f11 (by clear f13_c2 f13 f29_c2 f29 hE_0_1_1 hK_0_1 hE_0_73_1 hK_0_73 hE_0_160_1 hK_0_160 hE_0_161_1 hE_0_162_1 hK_0_162 hE_0_163_1 hK_0_163 f4 f11 f21 f28; omega) | skip); (first | have f21_b := f21 (by clear f13_c2 f13 f29_c2 f29 hE_0_1_1 hK_0_1 hE_0_73_1 hK_0_73 hE_0_160_1 hK_0_160 hE_0_161_1 hE_0_162_1 hK_0_162 hE_0_163_1 hK_0_163 f4 f11 f21 f28; omega) | skip); (first | have f28_b := f28 (by clear f13_c2 f13 f29_c2 f29 hE_0_1_1 hK_0_1 hE_0_73_1 hK_0_73 hE_0_160_1 hK_0_160 hE_0_161_1 hE_0_162_1 hK_0_162 hE_0_163_1 hK_0_163 f4 f11 f21 f28; omega) | skip); (first | have f4_d := f4 (by with_reducible assumption) | skip); (first | have f11_d := f11 (by with_reducible assumption) | skip); (first | have f21_d := f21 (by with_reducible assumption) | skip); (first | have f28_d := f28 (by with_reducible assumption) | skip); (first | have f13_q := tk_nx0 f13 (by clear f13_c2 f13 f29_c2 f29 hE_0_1_1 hK_0_1 hE_0_73_1 hK_0_73 hE_0_160_1 hK_0_160 hE_0_161_1 hE_0_162_1 hK_0_162 hE_0_163_1 hK_0_163 f4 f11 f21 f28; omega) | skip); (first | have f29_q := tk_nx0 f29 (by clear f13_c2 f13 f29_c2 f29 hE_0_1_1 hK_0_1 hE_0_73_1 hK_0_73 hE_0_160_1 hK_0_160 hE_0_161_1 hE_0_162_1 hK_0_162 hE_0_163_1 hK_0_163 f4 f11 f21 f28; omega) | skip); (try and_intros) <;> first | with_reducible assumption | (clear f13_c2 f13 f29_c2 f29 hE_0_1_1 hK_0_1 hE_0_73_1 hK_0_73 hE_0_160_1 hK_0_160 hE_0_161_1 hE_0_162_1 hK_0_162 hE_0_163_1 hK_0_163 f4 f11 f21 f28; omega)) | omega
set_option maxHeartbeats 4000000 in
theorem vc_Mo_rule_at_f0_64_2 (x1 : Int) (x5 : Int) (x6 : Int) (x11 : Int) (x12 : Int) (x14 : Int) (x15 : Int) (x16 : Int) (x17 : Int) (x18 : Int) (x20 : Int) (x21 : Int) (x27 : Int) (x33 : Int) (styleKind_0 : Int) (styleOne_0 : Int) (fault_0 : Int) (tokenKind_0 : Int → Int) (tokenValue_0 : Int → Int) (tokenPlace_0 : Int → Int) (tokenEnd_0 : Int → Int) (tape_0 : Int → Int) (limit_0 : Int) (cur_0 : Int) (tokens_0 : Int) (opened_0 : Int) (styleKind_1 : Int) (styleOne_1 : Int) (tokenKind_1 : Int → Int) (tokenValue_1 : Int → Int) (tokenPlace_1 : Int → Int) (tokenEnd_1 : Int → Int) (tape_1 : Int → Int) (limit_1 : Int) (cur_1 : Int) (tokens_1 : Int) (opened_1 : Int) (fault_1 : Int) (shades_0 : Int → Int) (shades_1 : Int → Int) (x36 : Int) (gx : Int) (k1 : 0 ≤ x1 ∧ x1 ≤ 2009) (k5 : 0 ≤ x5 ∧ x5 ≤ 2009) (k6 : 0 ≤ x6 ∧ x6 ≤ 2010) (k11 : 1 ≤ x11 ∧ x11 ≤ 1) (k12 : 1 ≤ x12 ∧ x12 ≤ 2009) (k14 : 0 ≤ x14 ∧ x14 ≤ 2009) (k15 : 0 ≤ x15 ∧ x15 ≤ 5) (k16 : 0 ≤ x16 ∧ x16 ≤ 2009) (k17 : 0 ≤ x17 ∧ x17 ≤ 5) (k18 : 0 ≤ x18 ∧ x18 ≤ 13) (k20 : 0 ≤ x20 ∧ x20 ≤ 0) (k21 : 0 ≤ x21 ∧ x21 ≤ 47) (k27 : 0 ≤ x27 ∧ x27 ≤ 1) (k33 : 0 ≤ x33 ∧ x33 ≤ 861) (d0 : x5 + 1 ≤ x12 ∧ x12 ≤ x5 + 1) (g0 : x27 = styleKind_0) (g2 : x21 = styleOne_0) (g3 : x20 = fault_0) (f4 : (styleKind_0 = 0) → (styleOne_0 ≤ 23)) (f5 : 1 * x1 + ((-1) * x16 + 0) ≤ 0) (f6 : (-1) * x6 + ((-1) * x16 + 0) ≤ (-2011)) (f7 : RB2 (styleKind_0) (limit_0) (tokenKind_0) (tokenValue_0) (tokenPlace_0) (tokenEnd_0) (tape_0) (x16) (x17) (x18) (x1)) (f8 : 1 * x1 + ((-1) * x14 + 0) ≤ 0) (f9 : (-1) * x6 + ((-1) * x14 + 0) ≤ (-2011)) (f10 : RB1 (styleKind_0) (limit_0) (tokenKind_0) (tokenValue_0) (tokenPlace_0) (tokenEnd_0) (tape_0) (x14) (x15) (x1)) (f11 : (styleKind_0 = 0) → (styleOne_0 ≤ 23)) (f13 : ((cur_0 + 1) ≤ tokens_0) ∧ ((tokens_0 ≤ 2010) ∧ ((tokenKind_0 ((tokens_0 - 1)) = 0) ∨ (tokenKind_0 ((tokens_0 - 1)) = 4)))) (f14 : 1 * x16 + ((-1) * cur_0 + 0) ≤ 0) (f15 : 1 * opened_0 + 0 ≤ 0) (f16 : (-1) * opened_0 + 0 ≤ 0) (f17 : SSM (fault_0) (cur_0) (styleKind_0) (limit_0) (tokenKind_0) (tokenValue_0) (tokenPlace_0) (tokenEnd_0) (tape_0) (x16) (x17) (x18)) (f19 : 0 ≤ x21) (f20 : x20 = 0) (f21 : (styleKind_1 = 0) → (styleOne_1 ≤ 23)) (f22 : 1 * x1 + ((-1) * x16 + 0) ≤ 0) (f23 : (-1) * x6 + ((-1) * x16 + 0) ≤ (-2011)) (f24 : RB2 (styleKind_1) (limit_1) (tokenKind_1) (tokenValue_1) (tokenPlace_1) (tokenEnd_1) (tape_1) (x16) (x17) (x18) (x1)) (f25 : 1 * x1 + ((-1) * x14 + 0) ≤ 0) (f26 : (-1) * x6 + ((-1) * x14 + 0) ≤ (-2011)) (f27 : RB1 (styleKind_1) (limit_1) (tokenKind_1) (tokenValue_1) (tokenPlace_1) (tokenEnd_1) (tape_1) (x14) (x15) (x1)) (f28 : (styleKind_1 = 0) → (styleOne_1 ≤ 23)) (f29 : ((cur_1 + 1) ≤ tokens_1) ∧ ((tokens_1 ≤ 2010) ∧ ((tokenKind_1 ((tokens_1 - 1)) = 0) ∨ (tokenKind_1 ((tokens_1 - 1)) = 4)))) (f30 : 1 * x16 + ((-1) * cur_1 + 0) ≤ 0) (f31 : 1 * opened_1 + 0 ≤ 0) (f32 : (-1) * opened_1 + 0 ≤ 0) (f33 : SSM (fault_1) (cur_1) (styleKind_1) (limit_1) (tokenKind_1) (tokenValue_1) (tokenPlace_1) (tokenEnd_1) (tape_1) (x16) (x17) (x18)) (f35 : 1 * x1 + ((-1) * x16 + 0) ≤ 0) (f36 : (-1) * x6 + ((-1) * x16 + 0) ≤ (-2011)) (f37 : 1 * x1 + ((-1) * x14 + 0) ≤ 0) (f38 : (-1) * x6 + ((-1) * x14 + 0) ≤ (-2011)) (f40 : 1 * x1 + ((-1) * x14 + 0) ≤ 0) (f41 : (-1) * x6 + ((-1) * x14 + 0) ≤ (-2011)) (f43 : x12 = x5 + x11) (fe_0_8_1 : fault_0 = fault_1) (fe_0_10_1 : limit_0 = limit_1) (fe_0_157_1 : tokens_0 = tokens_1) (fe_0_158_1 : cur_0 = cur_1) (fe_0_159_1 : opened_0 = opened_1) (fe_0_164_1 : styleKind_0 = styleKind_1) (fe_0_165_1 : styleOne_0 = styleOne_1) (hE_0_1_1 : ∀ j : Int, tape_0 j = tape_1 j) (hK_0_1 : ∀ j : Int, 0 ≤ j → j < 2000 → (-128) ≤ tape_0 j ∧ tape_0 j ≤ 127) (hE_0_73_1 : ∀ j : Int, 0 ≤ j → (j = x33 → shades_0 j = x36) ∧ (j ≠ x33 → shades_0 j = shades_1 j)) (hK_0_73 : ∀ j : Int, 0 ≤ j → j < 864 → 0 ≤ shades_0 j ∧ shades_0 j ≤ 255) (hE_0_160_1 : ∀ j : Int, tokenKind_0 j = tokenKind_1 j) (hK_0_160 : ∀ j : Int, 0 ≤ j → j < 2010 → 0 ≤ tokenKind_0 j ∧ tokenKind_0 j ≤ 4) (hE_0_161_1 : ∀ j : Int, tokenValue_0 j = tokenValue_1 j) (hE_0_162_1 : ∀ j : Int, tokenPlace_0 j = tokenPlace_1 j) (hK_0_162 : ∀ j : Int, 0 ≤ j → j < 2010 → 0 ≤ tokenPlace_0 j ∧ tokenPlace_0 j ≤ 2000) (hE_0_163_1 : ∀ j : Int, tokenEnd_0 j = tokenEnd_1 j) (hK_0_163 : ∀ j : Int, 0 ≤ j → j < 2010 → 0 ≤ tokenEnd_0 j ∧ tokenEnd_0 j ≤ 2000) (kz_0_8 : 0 ≤ fault_0 ∧ fault_0 ≤ 5) (kz_0_10 : 0 ≤ limit_0 ∧ limit_0 ≤ 2000) (kz_0_157 : 0 ≤ tokens_0 ∧ tokens_0 ≤ 2010) (kz_0_158 : 0 ≤ cur_0 ∧ cur_0 ≤ 2009) (kz_0_159 : 0 ≤ opened_0 ∧ opened_0 ≤ 13) (kz_0_164 : 0 ≤ styleKind_0 ∧ styleKind_0 ≤ 1) (kz_0_165 : (-1) ≤ styleOne_0 ∧ styleOne_0 ≤ 47) (ex2 : gx = 0 + (1 * x6 + 0)) (ex3 : 0 ≤ gx ∧ gx ≤ 2010) : (styleKind_0 = 0) → (styleOne_0 ≤ 23) := by
  subst fe_0_8_1
  subst fe_0_10_1
  subst fe_0_157_1
  subst fe_0_158_1
  subst fe_0_159_1
  subst fe_0_164_1
  subst fe_0_165_1
  have e_hE_0_1_1 := funext hE_0_1_1; subst e_hE_0_1_1
  have e_hE_0_160_1 := funext hE_0_160_1; subst e_hE_0_160_1
  have e_hE_0_161_1 := funext hE_0_161_1; subst e_hE_0_161_1
  have e_hE_0_162_1 := funext hE_0_162_1; subst e_hE_0_162_1
  have e_hE_0_163_1 := funext hE_0_163_1; subst e_hE_0_163_1
  first | with_reducible assumption | ((have f13_c0 := f13.1); (have f13_c1 := f13.2.1); (have f13_c2 := f13.2.2); (have f29_c0 := f29.1); (have f29_c1 := f29.2.1); (have f29_c2 := f29.2.2); (try and_intros) <;> first | with_reducible assumption | (clear f13_c2 f13 f29_c2 f29 hE_0_1_1 hK_0_1 hE_0_73_1 hK_0_73 hE_0_160_1 hK_0_160 hE_0_161_1 hE_0_162_1 hK_0_162 hE_0_163_1 hK_0_163 f4 f11 f21 f28; omega)) | ((have f13_c0 := f13.1); (have f13_c1 := f13.2.1); (have f13_c2 := f13.2.2); (have f29_c0 := f29.1); (have f29_c1 := f29.2.1); (have f29_c2 := f29.2.2); (first | have f4_b := f4 (by clear f13_c2 f13 f29_c2 f29 hE_0_1_1 hK_0_1 hE_0_73_1 hK_0_73 hE_0_160_1 hK_0_160 hE_0_161_1 hE_0_162_1 hK_0_162 hE_0_163_1 hK_0_163 f4 f11 f21 f28; omega) | skip); (first | have f11_b := f11 (by clear f13_c2 f13 f29_c2 f29 hE_0_1_1 hK_0_1 hE_0_73_1 hK_0_73 hE_0_160_1 hK_0_160 hE_0_161_1 hE_0_162_1 hK_0_162 hE_0_163_1 hK_0_163 f4 f11 f21 f28; omega) | skip); (first | have f21_b := f21 (by clear f13_c2 f13 f29_c2 f29 hE_0_1_1 hK_0_1 hE_0_73_1 hK_0_73 hE_0_160_1 hK_0_160 hE_0_161_1 hE_0_162_1 hK_0_162 hE_0_163_1 hK_0_163 f4 f11 f21 f28; omega) | skip); (first | have f28_b := f28 (by clear f13_c2 f13 f29_c2 f29 hE_0_1_1 hK_0_1 hE_0_73_1 hK_0_73 hE_0_160_1 hK_0_160 hE_0_161_1 hE_0_162_1 hK_0_162 hE_0_163_1 hK_0_163 f4 f11 f21 f28; omega) | skip); (first | have f4_d := f4 (by with_reducible assumption) | skip); (first | have f11_d := f11 (by with_reducible assumption) | skip); (first | have f21_d := f21 (by with_reducible assumption) | skip); (first | have f28_d := f28 (by with_reducible assumption) | skip); (try and_intros) <;> first | with_reducible assumption | (clear f13_c2 f13 f29_c2 f29 hE_0_1_1 hK_0_1 hE_0_73_1 hK_0_73 hE_0_160_1 hK_0_160 hE_0_161_1 hE_0_162_1 hK_0_162 hE_0_163_1 hK_0_163 f4 f11 f21 f28; omega)) | ((have f13_c0 := f13.1); (have f13_c1 := f13.2.1); (have f13_c2 := f13.2.2); (have f29_c0 := f29.1); (have f29_c1 := f29.2.1); (have f29_c2 := f29.2.2); (first | have f4_b := f4 (by clear f13_c2 f13 f29_c2 f29 hE_0_1_1 hK_0_1 hE_0_73_1 hK_0_73 hE_0_160_1 hK_0_160 hE_0_161_1 hE_0_162_1 hK_0_162 hE_0_163_1 hK_0_163 f4 f11 f21 f28; omega) | skip); (first | have f11_b := f11 (by clear f13_c2 f13 f29_c2 f29 hE_0_1_1 hK_0_1 hE_0_73_1 hK_0_73 hE_0_160_1 hK_0_160 hE_0_161_1 hE_0_162_1 hK_0_162 hE_0_163_1 hK_0_163 f4 f11 f21 f28; omega) | skip); (first | have f21_b := f21 (by clear f13_c2 f13 f29_c2 f29 hE_0_1_1 hK_0_1 hE_0_73_1 hK_0_73 hE_0_160_1 hK_0_160 hE_0_161_1 hE_0_162_1 hK_0_162 hE_0_163_1 hK_0_163 f4 f11 f21 f28; omega) | skip); (first | have f28_b := f28 (by clear f13_c2 f13 f29_c2 f29 hE_0_1_1 hK_0_1 hE_0_73_1 hK_0_73 hE_0_160_1 hK_0_160 hE_0_161_1 hE_0_162_1 hK_0_162 hE_0_163_1 hK_0_163 f4 f11 f21 f28; omega) | skip); (first | have f4_d := f4 (by with_reducible assumption) | skip); (first | have f11_d := f11 (by with_reducible assumption) | skip); (first | have f21_d := f21 (by with_reducible assumption) | skip); (first | have f28_d := f28 (by with_reducible assumption) | skip); (first | have f13_q := tk_nx0 f13 (by clear f13_c2 f13 f29_c2 f29 hE_0_1_1 hK_0_1 hE_0_73_1 hK_0_73 hE_0_160_1 hK_0_160 hE_0_161_1 hE_0_162_1 hK_0_162 hE_0_163_1 hK_0_163 f4 f11 f21 f28; omega) | skip); (first | have f29_q := tk_nx0 f29 (by clear f13_c2 f13 f29_c2 f29 hE_0_1_1 hK_0_1 hE_0_73_1 hK_0_73 hE_0_160_1 hK_0_160 hE_0_161_1 hE_0_162_1 hK_0_162 hE_0_163_1 hK_0_163 f4 f11 f21 f28; omega) | skip); (try and_intros) <;> first | with_reducible assumption | (clear f13_c2 f13 f29_c2 f29 hE_0_1_1 hK_0_1 hE_0_73_1 hK_0_73 hE_0_160_1 hK_0_160 hE_0_161_1 hE_0_162_1 hK_0_162 hE_0_163_1 hK_0_163 f4 f11 f21 f28; omega)) | (intro hG; (first | have f4_g := f4 hG | skip); (first | have f11_g := f11 hG | skip); (first | have f21_g := f21 hG | skip); (first | have f28_g := f28 hG | skip); (have f13_c0 := f13.1); (have f13_c1 := f13.2.1); (have f13_c2 := f13.2.2); (have f29_c0 := f29.1); (have f29_c1 := f29.2.1); (have f29_c2 := f29.2.2); (first | have f4_b := f4 (by clear f13_c2 f13 f29_c2 f29 hE_0_1_1 hK_0_1 hE_0_73_1 hK_0_73 hE_0_160_1 hK_0_160 hE_0_161_1 hE_0_162_1 hK_0_162 hE_0_163_1 hK_0_163 f4 f11 f21 f28; omega) | skip); (first | have f11_b := f11 (by clear f13_c2 f13 f29_c2 f29 hE_0_1_1 hK_0_1 hE_0_73_1 hK_0_73 hE_0_160_1 hK_0_160 hE_0_161_1 hE_0_162_1 hK_0_162 hE_0_163_1 hK_0_163 f4 f11 f21 f28; omega) | skip); (first | have f21_b := f21 (by clear f13_c2 f13 f29_c2 f29 hE_0_1_1 hK_0_1 hE_0_73_1 hK_0_73 hE_0_160_1 hK_0_160 hE_0_161_1 hE_0_162_1 hK_0_162 hE_0_163_1 hK_0_163 f4 f11 f21 f28; omega) | skip); (first | have f28_b := f28 (by clear f13_c2 f13 f29_c2 f29 hE_0_1_1 hK_0_1 hE_0_73_1 hK_0_73 hE_0_160_1 hK_0_160 hE_0_161_1 hE_0_162_1 hK_0_162 hE_0_163_1 hK_0_163 f4 f11 f21 f28; omega) | skip); (try and_intros) <;> first | with_reducible assumption | (clear f13_c2 f13 f29_c2 f29 hE_0_1_1 hK_0_1 hE_0_73_1 hK_0_73 hE_0_160_1 hK_0_160 hE_0_161_1 hE_0_162_1 hK_0_162 hE_0_163_1 hK_0_163 f4 f11 f21 f28 hG; omega)) | omega
set_option maxHeartbeats 4000000 in
theorem vc_Mo_rule_at_f0_64_3 (x1 : Int) (x5 : Int) (x6 : Int) (x11 : Int) (x12 : Int) (x14 : Int) (x15 : Int) (x16 : Int) (x17 : Int) (x18 : Int) (x20 : Int) (x21 : Int) (x27 : Int) (x33 : Int) (styleKind_0 : Int) (styleOne_0 : Int) (fault_0 : Int) (tokenKind_0 : Int → Int) (tokenValue_0 : Int → Int) (tokenPlace_0 : Int → Int) (tokenEnd_0 : Int → Int) (tape_0 : Int → Int) (limit_0 : Int) (cur_0 : Int) (tokens_0 : Int) (opened_0 : Int) (styleKind_1 : Int) (styleOne_1 : Int) (tokenKind_1 : Int → Int) (tokenValue_1 : Int → Int) (tokenPlace_1 : Int → Int) (tokenEnd_1 : Int → Int) (tape_1 : Int → Int) (limit_1 : Int) (cur_1 : Int) (tokens_1 : Int) (opened_1 : Int) (fault_1 : Int) (shades_0 : Int → Int) (shades_1 : Int → Int) (x36 : Int) (gx : Int) (k1 : 0 ≤ x1 ∧ x1 ≤ 2009) (k5 : 0 ≤ x5 ∧ x5 ≤ 2009) (k6 : 0 ≤ x6 ∧ x6 ≤ 2010) (k11 : 1 ≤ x11 ∧ x11 ≤ 1) (k12 : 1 ≤ x12 ∧ x12 ≤ 2009) (k14 : 0 ≤ x14 ∧ x14 ≤ 2009) (k15 : 0 ≤ x15 ∧ x15 ≤ 5) (k16 : 0 ≤ x16 ∧ x16 ≤ 2009) (k17 : 0 ≤ x17 ∧ x17 ≤ 5) (k18 : 0 ≤ x18 ∧ x18 ≤ 13) (k20 : 0 ≤ x20 ∧ x20 ≤ 0) (k21 : 0 ≤ x21 ∧ x21 ≤ 47) (k27 : 0 ≤ x27 ∧ x27 ≤ 1) (k33 : 0 ≤ x33 ∧ x33 ≤ 861) (d0 : x5 + 1 ≤ x12 ∧ x12 ≤ x5 + 1) (g0 : x27 = styleKind_0) (g2 : x21 = styleOne_0) (g3 : x20 = fault_0) (f4 : (styleKind_0 = 0) → (styleOne_0 ≤ 23)) (f5 : 1 * x1 + ((-1) * x16 + 0) ≤ 0) (f6 : (-1) * x6 + ((-1) * x16 + 0) ≤ (-2011)) (f7 : RB2 (styleKind_0) (limit_0) (tokenKind_0) (tokenValue_0) (tokenPlace_0) (tokenEnd_0) (tape_0) (x16) (x17) (x18) (x1)) (f8 : 1 * x1 + ((-1) * x14 + 0) ≤ 0) (f9 : (-1) * x6 + ((-1) * x14 + 0) ≤ (-2011)) (f10 : RB1 (styleKind_0) (limit_0) (tokenKind_0) (tokenValue_0) (tokenPlace_0) (tokenEnd_0) (tape_0) (x14) (x15) (x1)) (f11 : (styleKind_0 = 0) → (styleOne_0 ≤ 23)) (f13 : ((cur_0 + 1) ≤ tokens_0) ∧ ((tokens_0 ≤ 2010) ∧ ((tokenKind_0 ((tokens_0 - 1)) = 0) ∨ (tokenKind_0 ((tokens_0 - 1)) = 4)))) (f14 : 1 * x16 + ((-1) * cur_0 + 0) ≤ 0) (f15 : 1 * opened_0 + 0 ≤ 0) (f16 : (-1) * opened_0 + 0 ≤ 0) (f17 : SSM (fault_0) (cur_0) (styleKind_0) (limit_0) (tokenKind_0) (tokenValue_0) (tokenPlace_0) (tokenEnd_0) (tape_0) (x16) (x17) (x18)) (f19 : 0 ≤ x21) (f20 : x20 = 0) (f21 : (styleKind_1 = 0) → (styleOne_1 ≤ 23)) (f22 : 1 * x1 + ((-1) * x16 + 0) ≤ 0) (f23 : (-1) * x6 + ((-1) * x16 + 0) ≤ (-2011)) (f24 : RB2 (styleKind_1) (limit_1) (tokenKind_1) (tokenValue_1) (tokenPlace_1) (tokenEnd_1) (tape_1) (x16) (x17) (x18) (x1)) (f25 : 1 * x1 + ((-1) * x14 + 0) ≤ 0) (f26 : (-1) * x6 + ((-1) * x14 + 0) ≤ (-2011)) (f27 : RB1 (styleKind_1) (limit_1) (tokenKind_1) (tokenValue_1) (tokenPlace_1) (tokenEnd_1) (tape_1) (x14) (x15) (x1)) (f28 : (styleKind_1 = 0) → (styleOne_1 ≤ 23)) (f29 : ((cur_1 + 1) ≤ tokens_1) ∧ ((tokens_1 ≤ 2010) ∧ ((tokenKind_1 ((tokens_1 - 1)) = 0) ∨ (tokenKind_1 ((tokens_1 - 1)) = 4)))) (f30 : 1 * x16 + ((-1) * cur_1 + 0) ≤ 0) (f31 : 1 * opened_1 + 0 ≤ 0) (f32 : (-1) * opened_1 + 0 ≤ 0) (f33 : SSM (fault_1) (cur_1) (styleKind_1) (limit_1) (tokenKind_1) (tokenValue_1) (tokenPlace_1) (tokenEnd_1) (tape_1) (x16) (x17) (x18)) (f35 : 1 * x1 + ((-1) * x16 + 0) ≤ 0) (f36 : (-1) * x6 + ((-1) * x16 + 0) ≤ (-2011)) (f37 : 1 * x1 + ((-1) * x14 + 0) ≤ 0) (f38 : (-1) * x6 + ((-1) * x14 + 0) ≤ (-2011)) (f40 : 1 * x1 + ((-1) * x14 + 0) ≤ 0) (f41 : (-1) * x6 + ((-1) * x14 + 0) ≤ (-2011)) (f43 : x12 = x5 + x11) (fe_0_8_1 : fault_0 = fault_1) (fe_0_10_1 : limit_0 = limit_1) (fe_0_157_1 : tokens_0 = tokens_1) (fe_0_158_1 : cur_0 = cur_1) (fe_0_159_1 : opened_0 = opened_1) (fe_0_164_1 : styleKind_0 = styleKind_1) (fe_0_165_1 : styleOne_0 = styleOne_1) (hE_0_1_1 : ∀ j : Int, tape_0 j = tape_1 j) (hK_0_1 : ∀ j : Int, 0 ≤ j → j < 2000 → (-128) ≤ tape_0 j ∧ tape_0 j ≤ 127) (hE_0_73_1 : ∀ j : Int, 0 ≤ j → (j = x33 → shades_0 j = x36) ∧ (j ≠ x33 → shades_0 j = shades_1 j)) (hK_0_73 : ∀ j : Int, 0 ≤ j → j < 864 → 0 ≤ shades_0 j ∧ shades_0 j ≤ 255) (hE_0_160_1 : ∀ j : Int, tokenKind_0 j = tokenKind_1 j) (hK_0_160 : ∀ j : Int, 0 ≤ j → j < 2010 → 0 ≤ tokenKind_0 j ∧ tokenKind_0 j ≤ 4) (hE_0_161_1 : ∀ j : Int, tokenValue_0 j = tokenValue_1 j) (hE_0_162_1 : ∀ j : Int, tokenPlace_0 j = tokenPlace_1 j) (hK_0_162 : ∀ j : Int, 0 ≤ j → j < 2010 → 0 ≤ tokenPlace_0 j ∧ tokenPlace_0 j ≤ 2000) (hE_0_163_1 : ∀ j : Int, tokenEnd_0 j = tokenEnd_1 j) (hK_0_163 : ∀ j : Int, 0 ≤ j → j < 2010 → 0 ≤ tokenEnd_0 j ∧ tokenEnd_0 j ≤ 2000) (kz_0_8 : 0 ≤ fault_0 ∧ fault_0 ≤ 5) (kz_0_10 : 0 ≤ limit_0 ∧ limit_0 ≤ 2000) (kz_0_157 : 0 ≤ tokens_0 ∧ tokens_0 ≤ 2010) (kz_0_158 : 0 ≤ cur_0 ∧ cur_0 ≤ 2009) (kz_0_159 : 0 ≤ opened_0 ∧ opened_0 ≤ 13) (kz_0_164 : 0 ≤ styleKind_0 ∧ styleKind_0 ≤ 1) (kz_0_165 : (-1) ≤ styleOne_0 ∧ styleOne_0 ≤ 47) (ex2 : gx = 0 + (1 * x6 + 0)) (ex3 : 0 ≤ gx ∧ gx ≤ 2010) : 1 * opened_0 + 0 ≤ 0 := by
  subst fe_0_8_1
  subst fe_0_10_1
  subst fe_0_157_1
  subst fe_0_158_1
  subst fe_0_159_1
  subst fe_0_164_1
  subst fe_0_165_1
  have e_hE_0_1_1 := funext hE_0_1_1; subst e_hE_0_1_1
  have e_hE_0_160_1 := funext hE_0_160_1; subst e_hE_0_160_1
  have e_hE_0_161_1 := funext hE_0_161_1; subst e_hE_0_161_1
  have e_hE_0_162_1 := funext hE_0_162_1; subst e_hE_0_162_1
  have e_hE_0_163_1 := funext hE_0_163_1; subst e_hE_0_163_1
  first | with_reducible assumption | ((have f13_c0 := f13.1); (have f13_c1 := f13.2.1); (have f13_c2 := f13.2.2); (have f29_c0 := f29.1); (have f29_c1 := f29.2.1); (have f29_c2 := f29.2.2); (try and_intros) <;> first | with_reducible assumption | (clear f13_c2 f13 f29_c2 f29 hE_0_1_1 hK_0_1 hE_0_73_1 hK_0_73 hE_0_160_1 hK_0_160 hE_0_161_1 hE_0_162_1 hK_0_162 hE_0_163_1 hK_0_163 f4 f11 f21 f28; omega)) | ((have f13_c0 := f13.1); (have f13_c1 := f13.2.1); (have f13_c2 := f13.2.2); (have f29_c0 := f29.1); (have f29_c1 := f29.2.1); (have f29_c2 := f29.2.2); (first | have f4_b := f4 (by clear f13_c2 f13 f29_c2 f29 hE_0_1_1 hK_0_1 hE_0_73_1 hK_0_73 hE_0_160_1 hK_0_160 hE_0_161_1 hE_0_162_1 hK_0_162 hE_0_163_1 hK_0_163 f4 f11 f21 f28; omega) | skip); (first | have f11_b := f11 (by clear f13_c2 f13 f29_c2 f29 hE_0_1_1 hK_0_1 hE_0_73_1 hK_0_73 hE_0_160_1 hK_0_160 hE_0_161_1 hE_0_162_1 hK_0_162 hE_0_163_1 hK_0_163 f4 f11 f21 f28; omega) | skip); (first | have f21_b := f21 (by clear f13_c2 f13 f29_c2 f29 hE_0_1_1 hK_0_1 hE_0_73_1 hK_0_73 hE_0_160_1 hK_0_160 hE_0_161_1 hE_0_162_1 hK_0_162 hE_0_163_1 hK_0_163 f4 f11 f21 f28; omega) | skip); (first | have f28_b := f28 (by clear f13_c2 f13 f29_c2 f29 hE_0_1_1 hK_0_1 hE_0_73_1 hK_0_73 hE_0_160_1 hK_0_160 hE_0_161_1 hE_0_162_1 hK_0_162 hE_0_163_1 hK_0_163 f4 f11 f21 f28; omega) | skip); (first | have f4_d := f4 (by with_reducible assumption) | skip); (first | have f11_d := f11 (by with_reducible assumption) | skip); (first | have f21_d := f21 (by with_reducible assumption) | skip); (first | have f28_d := f28 (by with_reducible assumption) | skip); (try and_intros) <;> first | with_reducible assumption | (clear f13_c2 f13 f29_c2 f29 hE_0_1_1 hK_0_1 hE_0_73_1 hK_0_73 hE_0_160_1 hK_0_160 hE_0_161_1 hE_0_162_1 hK_0_162 hE_0_163_1 hK_0_163 f4 f11 f21 f28; omega)) | ((have f13_c0 := f13.1); (have f13_c1 := f13.2.1); (have f13_c2 := f13.2.2); (have f29_c0 := f29.1); (have f29_c1 := f29.2.1); (have f29_c2 := f29.2.2); (first | have f4_b := f4 (by clear f13_c2 f13 f29_c2 f29 hE_0_1_1 hK_0_1 hE_0_73_1 hK_0_73 hE_0_160_1 hK_0_160 hE_0_161_1 hE_0_162_1 hK_0_162 hE_0_163_1 hK_0_163 f4 f11 f21 f28; omega) | skip); (first | have f11_b := f11 (by clear f13_c2 f13 f29_c2 f29 hE_0_1_1 hK_0_1 hE_0_73_1 hK_0_73 hE_0_160_1 hK_0_160 hE_0_161_1 hE_0_162_1 hK_0_162 hE_0_163_1 hK_0_163 f4 f11 f21 f28; omega) | skip); (first | have f21_b := f21 (by clear f13_c2 f13 f29_c2 f29 hE_0_1_1 hK_0_1 hE_0_73_1 hK_0_73 hE_0_160_1 hK_0_160 hE_0_161_1 hE_0_162_1 hK_0_162 hE_0_163_1 hK_0_163 f4 f11 f21 f28; omega) | skip); (first | have f28_b := f28 (by clear f13_c2 f13 f29_c2 f29 hE_0_1_1 hK_0_1 hE_0_73_1 hK_0_73 hE_0_160_1 hK_0_160 hE_0_161_1 hE_0_162_1 hK_0_162 hE_0_163_1 hK_0_163 f4 f11 f21 f28; omega) | skip); (first | have f4_d := f4 (by with_reducible assumption) | skip); (first | have f11_d := f11 (by with_reducible assumption) | skip); (first | have f21_d := f21 (by with_reducible assumption) | skip); (first | have f28_d := f28 (by with_reducible assumption) | skip); (first | have f13_q := tk_nx0 f13 (by clear f13_c2 f13 f29_c2 f29 hE_0_1_1 hK_0_1 hE_0_73_1 hK_0_73 hE_0_160_1 hK_0_160 hE_0_161_1 hE_0_162_1 hK_0_162 hE_0_163_1 hK_0_163 f4 f11 f21 f28; omega) | skip); (first | have f29_q := tk_nx0 f29 (by clear f13_c2 f13 f29_c2 f29 hE_0_1_1 hK_0_1 hE_0_73_1 hK_0_73 hE_0_160_1 hK_0_160 hE_0_161_1 hE_0_162_1 hK_0_162 hE_0_163_1 hK_0_163 f4 f11 f21 f28; omega) | skip); (try and_intros) <;> first | with_reducible assumption | (clear f13_c2 f13 f29_c2 f29 hE_0_1_1 hK_0_1 hE_0_73_1 hK_0_73 hE_0_160_1 hK_0_160 hE_0_161_1 hE_0_162_1 hK_0_162 hE_0_163_1 hK_0_163 f4 f11 f21 f28; omega)) | omega
set_option maxHeartbeats 4000000 in
theorem vc_Mo_rule_at_f0_64_4 (x1 : Int) (x5 : Int) (x6 : Int) (x11 : Int) (x12 : Int) (x14 : Int) (x15 : Int) (x16 : Int) (x17 : Int) (x18 : Int) (x20 : Int) (x21 : Int) (x27 : Int) (x33 : Int) (styleKind_0 : Int) (styleOne_0 : Int) (fault_0 : Int) (tokenKind_0 : Int → Int) (tokenValue_0 : Int → Int) (tokenPlace_0 : Int → Int) (tokenEnd_0 : Int → Int) (tape_0 : Int → Int) (limit_0 : Int) (cur_0 : Int) (tokens_0 : Int) (opened_0 : Int) (styleKind_1 : Int) (styleOne_1 : Int) (tokenKind_1 : Int → Int) (tokenValue_1 : Int → Int) (tokenPlace_1 : Int → Int) (tokenEnd_1 : Int → Int) (tape_1 : Int → Int) (limit_1 : Int) (cur_1 : Int) (tokens_1 : Int) (opened_1 : Int) (fault_1 : Int) (shades_0 : Int → Int) (shades_1 : Int → Int) (x36 : Int) (gx : Int) (k1 : 0 ≤ x1 ∧ x1 ≤ 2009) (k5 : 0 ≤ x5 ∧ x5 ≤ 2009) (k6 : 0 ≤ x6 ∧ x6 ≤ 2010) (k11 : 1 ≤ x11 ∧ x11 ≤ 1) (k12 : 1 ≤ x12 ∧ x12 ≤ 2009) (k14 : 0 ≤ x14 ∧ x14 ≤ 2009) (k15 : 0 ≤ x15 ∧ x15 ≤ 5) (k16 : 0 ≤ x16 ∧ x16 ≤ 2009) (k17 : 0 ≤ x17 ∧ x17 ≤ 5) (k18 : 0 ≤ x18 ∧ x18 ≤ 13) (k20 : 0 ≤ x20 ∧ x20 ≤ 0) (k21 : 0 ≤ x21 ∧ x21 ≤ 47) (k27 : 0 ≤ x27 ∧ x27 ≤ 1) (k33 : 0 ≤ x33 ∧ x33 ≤ 861) (d0 : x5 + 1 ≤ x12 ∧ x12 ≤ x5 + 1) (g0 : x27 = styleKind_0) (g2 : x21 = styleOne_0) (g3 : x20 = fault_0) (f4 : (styleKind_0 = 0) → (styleOne_0 ≤ 23)) (f5 : 1 * x1 + ((-1) * x16 + 0) ≤ 0) (f6 : (-1) * x6 + ((-1) * x16 + 0) ≤ (-2011)) (f7 : RB2 (styleKind_0) (limit_0) (tokenKind_0) (tokenValue_0) (tokenPlace_0) (tokenEnd_0) (tape_0) (x16) (x17) (x18) (x1)) (f8 : 1 * x1 + ((-1) * x14 + 0) ≤ 0) (f9 : (-1) * x6 + ((-1) * x14 + 0) ≤ (-2011)) (f10 : RB1 (styleKind_0) (limit_0) (tokenKind_0) (tokenValue_0) (tokenPlace_0) (tokenEnd_0) (tape_0) (x14) (x15) (x1)) (f11 : (styleKind_0 = 0) → (styleOne_0 ≤ 23)) (f13 : ((cur_0 + 1) ≤ tokens_0) ∧ ((tokens_0 ≤ 2010) ∧ ((tokenKind_0 ((tokens_0 - 1)) = 0) ∨ (tokenKind_0 ((tokens_0 - 1)) = 4)))) (f14 : 1 * x16 + ((-1) * cur_0 + 0) ≤ 0) (f15 : 1 * opened_0 + 0 ≤ 0) (f16 : (-1) * opened_0 + 0 ≤ 0) (f17 : SSM (fault_0) (cur_0) (styleKind_0) (limit_0) (tokenKind_0) (tokenValue_0) (tokenPlace_0) (tokenEnd_0) (tape_0) (x16) (x17) (x18)) (f19 : 0 ≤ x21) (f20 : x20 = 0) (f21 : (styleKind_1 = 0) → (styleOne_1 ≤ 23)) (f22 : 1 * x1 + ((-1) * x16 + 0) ≤ 0) (f23 : (-1) * x6 + ((-1) * x16 + 0) ≤ (-2011)) (f24 : RB2 (styleKind_1) (limit_1) (tokenKind_1) (tokenValue_1) (tokenPlace_1) (tokenEnd_1) (tape_1) (x16) (x17) (x18) (x1)) (f25 : 1 * x1 + ((-1) * x14 + 0) ≤ 0) (f26 : (-1) * x6 + ((-1) * x14 + 0) ≤ (-2011)) (f27 : RB1 (styleKind_1) (limit_1) (tokenKind_1) (tokenValue_1) (tokenPlace_1) (tokenEnd_1) (tape_1) (x14) (x15) (x1)) (f28 : (styleKind_1 = 0) → (styleOne_1 ≤ 23)) (f29 : ((cur_1 + 1) ≤ tokens_1) ∧ ((tokens_1 ≤ 2010) ∧ ((tokenKind_1 ((tokens_1 - 1)) = 0) ∨ (tokenKind_1 ((tokens_1 - 1)) = 4)))) (f30 : 1 * x16 + ((-1) * cur_1 + 0) ≤ 0) (f31 : 1 * opened_1 + 0 ≤ 0) (f32 : (-1) * opened_1 + 0 ≤ 0) (f33 : SSM (fault_1) (cur_1) (styleKind_1) (limit_1) (tokenKind_1) (tokenValue_1) (tokenPlace_1) (tokenEnd_1) (tape_1) (x16) (x17) (x18)) (f35 : 1 * x1 + ((-1) * x16 + 0) ≤ 0) (f36 : (-1) * x6 + ((-1) * x16 + 0) ≤ (-2011)) (f37 : 1 * x1 + ((-1) * x14 + 0) ≤ 0) (f38 : (-1) * x6 + ((-1) * x14 + 0) ≤ (-2011)) (f40 : 1 * x1 + ((-1) * x14 + 0) ≤ 0) (f41 : (-1) * x6 + ((-1) * x14 + 0) ≤ (-2011)) (f43 : x12 = x5 + x11) (fe_0_8_1 : fault_0 = fault_1) (fe_0_10_1 : limit_0 = limit_1) (fe_0_157_1 : tokens_0 = tokens_1) (fe_0_158_1 : cur_0 = cur_1) (fe_0_159_1 : opened_0 = opened_1) (fe_0_164_1 : styleKind_0 = styleKind_1) (fe_0_165_1 : styleOne_0 = styleOne_1) (hE_0_1_1 : ∀ j : Int, tape_0 j = tape_1 j) (hK_0_1 : ∀ j : Int, 0 ≤ j → j < 2000 → (-128) ≤ tape_0 j ∧ tape_0 j ≤ 127) (hE_0_73_1 : ∀ j : Int, 0 ≤ j → (j = x33 → shades_0 j = x36) ∧ (j ≠ x33 → shades_0 j = shades_1 j)) (hK_0_73 : ∀ j : Int, 0 ≤ j → j < 864 → 0 ≤ shades_0 j ∧ shades_0 j ≤ 255) (hE_0_160_1 : ∀ j : Int, tokenKind_0 j = tokenKind_1 j) (hK_0_160 : ∀ j : Int, 0 ≤ j → j < 2010 → 0 ≤ tokenKind_0 j ∧ tokenKind_0 j ≤ 4) (hE_0_161_1 : ∀ j : Int, tokenValue_0 j = tokenValue_1 j) (hE_0_162_1 : ∀ j : Int, tokenPlace_0 j = tokenPlace_1 j) (hK_0_162 : ∀ j : Int, 0 ≤ j → j < 2010 → 0 ≤ tokenPlace_0 j ∧ tokenPlace_0 j ≤ 2000) (hE_0_163_1 : ∀ j : Int, tokenEnd_0 j = tokenEnd_1 j) (hK_0_163 : ∀ j : Int, 0 ≤ j → j < 2010 → 0 ≤ tokenEnd_0 j ∧ tokenEnd_0 j ≤ 2000) (kz_0_8 : 0 ≤ fault_0 ∧ fault_0 ≤ 5) (kz_0_10 : 0 ≤ limit_0 ∧ limit_0 ≤ 2000) (kz_0_157 : 0 ≤ tokens_0 ∧ tokens_0 ≤ 2010) (kz_0_158 : 0 ≤ cur_0 ∧ cur_0 ≤ 2009) (kz_0_159 : 0 ≤ opened_0 ∧ opened_0 ≤ 13) (kz_0_164 : 0 ≤ styleKind_0 ∧ styleKind_0 ≤ 1) (kz_0_165 : (-1) ≤ styleOne_0 ∧ styleOne_0 ≤ 47) (ex2 : gx = 0 + (1 * x6 + 0)) (ex3 : 0 ≤ gx ∧ gx ≤ 2010) : (-1) * opened_0 + 0 ≤ 0 := by
  subst fe_0_8_1
  subst fe_0_10_1
  subst fe_0_157_1
  subst fe_0_158_1
  subst fe_0_159_1
  subst fe_0_164_1
  subst fe_0_165_1
  have e_hE_0_1_1 := funext hE_0_1_1; subst e_hE_0_1_1
  have e_hE_0_160_1 := funext hE_0_160_1; subst e_hE_0_160_1
  have e_hE_0_161_1 := funext hE_0_161_1; subst e_hE_0_161_1
  have e_hE_0_162_1 := funext hE_0_162_1; subst e_hE_0_162_1
  have e_hE_0_163_1 := funext hE_0_163_1; subst e_hE_0_163_1
  first | with_reducible assumption | ((have f13_c0 := f13.1); (have f13_c1 := f13.2.1); (have f13_c2 := f13.2.2); (have f29_c0 := f29.1); (have f29_c1 := f29.2.1); (have f29_c2 := f29.2.2); (try and_intros) <;> first | with_reducible assumption | (clear f13_c2 f13 f29_c2 f29 hE_0_1_1 hK_0_1 hE_0_73_1 hK_0_73 hE_0_160_1 hK_0_160 hE_0_161_1 hE_0_162_1 hK_0_162 hE_0_163_1 hK_0_163 f4 f11 f21 f28; omega)) | ((have f13_c0 := f13.1); (have f13_c1 := f13.2.1); (have f13_c2 := f13.2.2); (have f29_c0 := f29.1); (have f29_c1 := f29.2.1); (have f29_c2 := f29.2.2); (first | have f4_b := f4 (by clear f13_c2 f13 f29_c2 f29 hE_0_1_1 hK_0_1 hE_0_73_1 hK_0_73 hE_0_160_1 hK_0_160 hE_0_161_1 hE_0_162_1 hK_0_162 hE_0_163_1 hK_0_163 f4 f11 f21 f28; omega) | skip); (first | have f11_b := f11 (by clear f13_c2 f13 f29_c2 f29 hE_0_1_1 hK_0_1 hE_0_73_1 hK_0_73 hE_0_160_1 hK_0_160 hE_0_161_1 hE_0_162_1 hK_0_162 hE_0_163_1 hK_0_163 f4 f11 f21 f28; omega) | skip); (first | have f21_b := f21 (by clear f13_c2 f13 f29_c2 f29 hE_0_1_1 hK_0_1 hE_0_73_1 hK_0_73 hE_0_160_1 hK_0_160 hE_0_161_1 hE_0_162_1 hK_0_162 hE_0_163_1 hK_0_163 f4 f11 f21 f28; omega) | skip); (first | have f28_b := f28 (by clear f13_c2 f13 f29_c2 f29 hE_0_1_1 hK_0_1 hE_0_73_1 hK_0_73 hE_0_160_1 hK_0_160 hE_0_161_1 hE_0_162_1 hK_0_162 hE_0_163_1 hK_0_163 f4 f11 f21 f28; omega) | skip); (first | have f4_d := f4 (by with_reducible assumption) | skip); (first | have f11_d := f11 (by with_reducible assumption) | skip); (first | have f21_d := f21 (by with_reducible assumption) | skip); (first | have f28_d := f28 (by with_reducible assumption) | skip); (try and_intros) <;> first | with_reducible assumption | (clear f13_c2 f13 f29_c2 f29 hE_0_1_1 hK_0_1 hE_0_73_1 hK_0_73 hE_0_160_1 hK_0_160 hE_0_161_1 hE_0_162_1 hK_0_162 hE_0_163_1 hK_0_163 f4 f11 f21 f28; omega)) | ((have f13_c0 := f13.1); (have f13_c1 := f13.2.1); (have f13_c2 := f13.2.2); (have f29_c0 := f29.1); (have f29_c1 := f29.2.1); (have f29_c2 := f29.2.2); (first | have f4_b := f4 (by clear f13_c2 f13 f29_c2 f29 hE_0_1_1 hK_0_1 hE_0_73_1 hK_0_73 hE_0_160_1 hK_0_160 hE_0_161_1 hE_0_162_1 hK_0_162 hE_0_163_1 hK_0_163 f4 f11 f21 f28; omega) | skip); (first | have f11_b := f11 (by clear f13_c2 f13 f29_c2 f29 hE_0_1_1 hK_0_1 hE_0_73_1 hK_0_73 hE_0_160_1 hK_0_160 hE_0_161_1 hE_0_162_1 hK_0_162 hE_0_163_1 hK_0_163 f4 f11 f21 f28; omega) | skip); (first | have f21_b := f21 (by clear f13_c2 f13 f29_c2 f29 hE_0_1_1 hK_0_1 hE_0_73_1 hK_0_73 hE_0_160_1 hK_0_160 hE_0_161_1 hE_0_162_1 hK_0_162 hE_0_163_1 hK_0_163 f4 f11 f21 f28; omega) | skip); (first | have f28_b := f28 (by clear f13_c2 f13 f29_c2 f29 hE_0_1_1 hK_0_1 hE_0_73_1 hK_0_73 hE_0_160_1 hK_0_160 hE_0_161_1 hE_0_162_1 hK_0_162 hE_0_163_1 hK_0_163 f4 f11 f21 f28; omega) | skip); (first | have f4_d := f4 (by with_reducible assumption) | skip); (first | have f11_d := f11 (by with_reducible assumption) | skip); (first | have f21_d := f21 (by with_reducible assumption) | skip); (first | have f28_d := f28 (by with_reducible assumption) | skip); (first | have f13_q := tk_nx0 f13 (by clear f13_c2 f13 f29_c2 f29 hE_0_1_1 hK_0_1 hE_0_73_1 hK_0_73 hE_0_160_1 hK_0_160 hE_0_161_1 hE_0_162_1 hK_0_162 hE_0_163_1 hK_0_163 f4 f11 f21 f28; omega) | skip); (first | have f29_q := tk_nx0 f29 (by clear f13_c2 f13 f29_c2 f29 hE_0_1_1 hK_0_1 hE_0_73_1 hK_0_73 hE_0_160_1 hK_0_160 hE_0_161_1 hE_0_162_1 hK_0_162 hE_0_163_1 hK_0_163 f4 f11 f21 f28; omega) | skip); (try and_intros) <;> first | with_reducible assumption | (clear f13_c2 f13 f29_c2 f29 hE_0_1_1 hK_0_1 hE_0_73_1 hK_0_73 hE_0_160_1 hK_0_160 hE_0_161_1 hE_0_162_1 hK_0_162 hE_0_163_1 hK_0_163 f4 f11 f21 f28; omega)) | omega
set_option maxHeartbeats 4000000 in
theorem vc_Mo_rule_at_f0_64_5 (x1 : Int) (x5 : Int) (x6 : Int) (x11 : Int) (x12 : Int) (x14 : Int) (x15 : Int) (x16 : Int) (x17 : Int) (x18 : Int) (x20 : Int) (x21 : Int) (x27 : Int) (x33 : Int) (styleKind_0 : Int) (styleOne_0 : Int) (fault_0 : Int) (tokenKind_0 : Int → Int) (tokenValue_0 : Int → Int) (tokenPlace_0 : Int → Int) (tokenEnd_0 : Int → Int) (tape_0 : Int → Int) (limit_0 : Int) (cur_0 : Int) (tokens_0 : Int) (opened_0 : Int) (styleKind_1 : Int) (styleOne_1 : Int) (tokenKind_1 : Int → Int) (tokenValue_1 : Int → Int) (tokenPlace_1 : Int → Int) (tokenEnd_1 : Int → Int) (tape_1 : Int → Int) (limit_1 : Int) (cur_1 : Int) (tokens_1 : Int) (opened_1 : Int) (fault_1 : Int) (shades_0 : Int → Int) (shades_1 : Int → Int) (x36 : Int) (gx : Int) (k1 : 0 ≤ x1 ∧ x1 ≤ 2009) (k5 : 0 ≤ x5 ∧ x5 ≤ 2009) (k6 : 0 ≤ x6 ∧ x6 ≤ 2010) (k11 : 1 ≤ x11 ∧ x11 ≤ 1) (k12 : 1 ≤ x12 ∧ x12 ≤ 2009) (k14 : 0 ≤ x14 ∧ x14 ≤ 2009) (k15 : 0 ≤ x15 ∧ x15 ≤ 5) (k16 : 0 ≤ x16 ∧ x16 ≤ 2009) (k17 : 0 ≤ x17 ∧ x17 ≤ 5) (k18 : 0 ≤ x18 ∧ x18 ≤ 13) (k20 : 0 ≤ x20 ∧ x20 ≤ 0) (k21 : 0 ≤ x21 ∧ x21 ≤ 47) (k27 : 0 ≤ x27 ∧ x27 ≤ 1) (k33 : 0 ≤ x33 ∧ x33 ≤ 861) (d0 : x5 + 1 ≤ x12 ∧ x12 ≤ x5 + 1) (g0 : x27 = styleKind_0) (g2 : x21 = styleOne_0) (g3 : x20 = fault_0) (f4 : (styleKind_0 = 0) → (styleOne_0 ≤ 23)) (f5 : 1 * x1 + ((-1) * x16 + 0) ≤ 0) (f6 : (-1) * x6 + ((-1) * x16 + 0) ≤ (-2011)) (f7 : RB2 (styleKind_0) (limit_0) (tokenKind_0) (tokenValue_0) (tokenPlace_0) (tokenEnd_0) (tape_0) (x16) (x17) (x18) (x1)) (f8 : 1 * x1 + ((-1) * x14 + 0) ≤ 0) (f9 : (-1) * x6 + ((-1) * x14 + 0) ≤ (-2011)) (f10 : RB1 (styleKind_0) (limit_0) (tokenKind_0) (tokenValue_0) (tokenPlace_0) (tokenEnd_0) (tape_0) (x14) (x15) (x1)) (f11 : (styleKind_0 = 0) → (styleOne_0 ≤ 23)) (f13 : ((cur_0 + 1) ≤ tokens_0) ∧ ((tokens_0 ≤ 2010) ∧ ((tokenKind_0 ((tokens_0 - 1)) = 0) ∨ (tokenKind_0 ((tokens_0 - 1)) = 4)))) (f14 : 1 * x16 + ((-1) * cur_0 + 0) ≤ 0) (f15 : 1 * opened_0 + 0 ≤ 0) (f16 : (-1) * opened_0 + 0 ≤ 0) (f17 : SSM (fault_0) (cur_0) (styleKind_0) (limit_0) (tokenKind_0) (tokenValue_0) (tokenPlace_0) (tokenEnd_0) (tape_0) (x16) (x17) (x18)) (f19 : 0 ≤ x21) (f20 : x20 = 0) (f21 : (styleKind_1 = 0) → (styleOne_1 ≤ 23)) (f22 : 1 * x1 + ((-1) * x16 + 0) ≤ 0) (f23 : (-1) * x6 + ((-1) * x16 + 0) ≤ (-2011)) (f24 : RB2 (styleKind_1) (limit_1) (tokenKind_1) (tokenValue_1) (tokenPlace_1) (tokenEnd_1) (tape_1) (x16) (x17) (x18) (x1)) (f25 : 1 * x1 + ((-1) * x14 + 0) ≤ 0) (f26 : (-1) * x6 + ((-1) * x14 + 0) ≤ (-2011)) (f27 : RB1 (styleKind_1) (limit_1) (tokenKind_1) (tokenValue_1) (tokenPlace_1) (tokenEnd_1) (tape_1) (x14) (x15) (x1)) (f28 : (styleKind_1 = 0) → (styleOne_1 ≤ 23)) (f29 : ((cur_1 + 1) ≤ tokens_1) ∧ ((tokens_1 ≤ 2010) ∧ ((tokenKind_1 ((tokens_1 - 1)) = 0) ∨ (tokenKind_1 ((tokens_1 - 1)) = 4)))) (f30 : 1 * x16 + ((-1) * cur_1 + 0) ≤ 0) (f31 : 1 * opened_1 + 0 ≤ 0) (f32 : (-1) * opened_1 + 0 ≤ 0) (f33 : SSM (fault_1) (cur_1) (styleKind_1) (limit_1) (tokenKind_1) (tokenValue_1) (tokenPlace_1) (tokenEnd_1) (tape_1) (x16) (x17) (x18)) (f35 : 1 * x1 + ((-1) * x16 + 0) ≤ 0) (f36 : (-1) * x6 + ((-1) * x16 + 0) ≤ (-2011)) (f37 : 1 * x1 + ((-1) * x14 + 0) ≤ 0) (f38 : (-1) * x6 + ((-1) * x14 + 0) ≤ (-2011)) (f40 : 1 * x1 + ((-1) * x14 + 0) ≤ 0) (f41 : (-1) * x6 + ((-1) * x14 + 0) ≤ (-2011)) (f43 : x12 = x5 + x11) (fe_0_8_1 : fault_0 = fault_1) (fe_0_10_1 : limit_0 = limit_1) (fe_0_157_1 : tokens_0 = tokens_1) (fe_0_158_1 : cur_0 = cur_1) (fe_0_159_1 : opened_0 = opened_1) (fe_0_164_1 : styleKind_0 = styleKind_1) (fe_0_165_1 : styleOne_0 = styleOne_1) (hE_0_1_1 : ∀ j : Int, tape_0 j = tape_1 j) (hK_0_1 : ∀ j : Int, 0 ≤ j → j < 2000 → (-128) ≤ tape_0 j ∧ tape_0 j ≤ 127) (hE_0_73_1 : ∀ j : Int, 0 ≤ j → (j = x33 → shades_0 j = x36) ∧ (j ≠ x33 → shades_0 j = shades_1 j)) (hK_0_73 : ∀ j : Int, 0 ≤ j → j < 864 → 0 ≤ shades_0 j ∧ shades_0 j ≤ 255) (hE_0_160_1 : ∀ j : Int, tokenKind_0 j = tokenKind_1 j) (hK_0_160 : ∀ j : Int, 0 ≤ j → j < 2010 → 0 ≤ tokenKind_0 j ∧ tokenKind_0 j ≤ 4) (hE_0_161_1 : ∀ j : Int, tokenValue_0 j = tokenValue_1 j) (hE_0_162_1 : ∀ j : Int, tokenPlace_0 j = tokenPlace_1 j) (hK_0_162 : ∀ j : Int, 0 ≤ j → j < 2010 → 0 ≤ tokenPlace_0 j ∧ tokenPlace_0 j ≤ 2000) (hE_0_163_1 : ∀ j : Int, tokenEnd_0 j = tokenEnd_1 j) (hK_0_163 : ∀ j : Int, 0 ≤ j → j < 2010 → 0 ≤ tokenEnd_0 j ∧ tokenEnd_0 j ≤ 2000) (kz_0_8 : 0 ≤ fault_0 ∧ fault_0 ≤ 5) (kz_0_10 : 0 ≤ limit_0 ∧ limit_0 ≤ 2000) (kz_0_157 : 0 ≤ tokens_0 ∧ tokens_0 ≤ 2010) (kz_0_158 : 0 ≤ cur_0 ∧ cur_0 ≤ 2009) (kz_0_159 : 0 ≤ opened_0 ∧ opened_0 ≤ 13) (kz_0_164 : 0 ≤ styleKind_0 ∧ styleKind_0 ≤ 1) (kz_0_165 : (-1) ≤ styleOne_0 ∧ styleOne_0 ≤ 47) (ex2 : gx = 0 + (1 * x6 + 0)) (ex3 : 0 ≤ gx ∧ gx ≤ 2010) : (-1) * gx + ((-1) * cur_0 + 0) ≤ (-2011) := by
  subst fe_0_8_1
  subst fe_0_10_1
  subst fe_0_157_1
  subst fe_0_158_1
  subst fe_0_159_1
  subst fe_0_164_1
  subst fe_0_165_1
  have e_hE_0_1_1 := funext hE_0_1_1; subst e_hE_0_1_1
  have e_hE_0_160_1 := funext hE_0_160_1; subst e_hE_0_160_1
  have e_hE_0_161_1 := funext hE_0_161_1; subst e_hE_0_161_1
  have e_hE_0_162_1 := funext hE_0_162_1; subst e_hE_0_162_1
  have e_hE_0_163_1 := funext hE_0_163_1; subst e_hE_0_163_1
  first | with_reducible assumption | ((have f13_c0 := f13.1); (have f13_c1 := f13.2.1); (have f13_c2 := f13.2.2); (have f29_c0 := f29.1); (have f29_c1 := f29.2.1); (have f29_c2 := f29.2.2); (try and_intros) <;> first | with_reducible assumption | (clear f13_c2 f13 f29_c2 f29 hE_0_1_1 hK_0_1 hE_0_73_1 hK_0_73 hE_0_160_1 hK_0_160 hE_0_161_1 hE_0_162_1 hK_0_162 hE_0_163_1 hK_0_163 f4 f11 f21 f28; omega)) | ((have f13_c0 := f13.1); (have f13_c1 := f13.2.1); (have f13_c2 := f13.2.2); (have f29_c0 := f29.1); (have f29_c1 := f29.2.1); (have f29_c2 := f29.2.2); (first | have f4_b := f4 (by clear f13_c2 f13 f29_c2 f29 hE_0_1_1 hK_0_1 hE_0_73_1 hK_0_73 hE_0_160_1 hK_0_160 hE_0_161_1 hE_0_162_1 hK_0_162 hE_0_163_1 hK_0_163 f4 f11 f21 f28; omega) | skip); (first | have f11_b := f11 (by clear f13_c2 f13 f29_c2 f29 hE_0_1_1 hK_0_1 hE_0_73_1 hK_0_73 hE_0_160_1 hK_0_160 hE_0_161_1 hE_0_162_1 hK_0_162 hE_0_163_1 hK_0_163 f4 f11 f21 f28; omega) | skip); (first | have f21_b := f21 (by clear f13_c2 f13 f29_c2 f29 hE_0_1_1 hK_0_1 hE_0_73_1 hK_0_73 hE_0_160_1 hK_0_160 hE_0_161_1 hE_0_162_1 hK_0_162 hE_0_163_1 hK_0_163 f4 f11 f21 f28; omega) | skip); (first | have f28_b := f28 (by clear f13_c2 f13 f29_c2 f29 hE_0_1_1 hK_0_1 hE_0_73_1 hK_0_73 hE_0_160_1 hK_0_160 hE_0_161_1 hE_0_162_1 hK_0_162 hE_0_163_1 hK_0_163 f4 f11 f21 f28; omega) | skip); (first | have f4_d := f4 (by with_reducible assumption) | skip); (first | have f11_d := f11 (by with_reducible assumption) | skip); (first | have f21_d := f21 (by with_reducible assumption) | skip); (first | have f28_d := f28 (by with_reducible assumption) | skip); (try and_intros) <;> first | with_reducible assumption | (clear f13_c2 f13 f29_c2 f29 hE_0_1_1 hK_0_1 hE_0_73_1 hK_0_73 hE_0_160_1 hK_0_160 hE_0_161_1 hE_0_162_1 hK_0_162 hE_0_163_1 hK_0_163 f4 f11 f21 f28; omega)) | ((have f13_c0 := f13.1); (have f13_c1 := f13.2.1); (have f13_c2 := f13.2.2); (have f29_c0 := f29.1); (have f29_c1 := f29.2.1); (have f29_c2 := f29.2.2); (first | have f4_b := f4 (by clear f13_c2 f13 f29_c2 f29 hE_0_1_1 hK_0_1 hE_0_73_1 hK_0_73 hE_0_160_1 hK_0_160 hE_0_161_1 hE_0_162_1 hK_0_162 hE_0_163_1 hK_0_163 f4 f11 f21 f28; omega) | skip); (first | have f11_b := f11 (by clear f13_c2 f13 f29_c2 f29 hE_0_1_1 hK_0_1 hE_0_73_1 hK_0_73 hE_0_160_1 hK_0_160 hE_0_161_1 hE_0_162_1 hK_0_162 hE_0_163_1 hK_0_163 f4 f11 f21 f28; omega) | skip); (first | have f21_b := f21 (by clear f13_c2 f13 f29_c2 f29 hE_0_1_1 hK_0_1 hE_0_73_1 hK_0_73 hE_0_160_1 hK_0_160 hE_0_161_1 hE_0_162_1 hK_0_162 hE_0_163_1 hK_0_163 f4 f11 f21 f28; omega) | skip); (first | have f28_b := f28 (by clear f13_c2 f13 f29_c2 f29 hE_0_1_1 hK_0_1 hE_0_73_1 hK_0_73 hE_0_160_1 hK_0_160 hE_0_161_1 hE_0_162_1 hK_0_162 hE_0_163_1 hK_0_163 f4 f11 f21 f28; omega) | skip); (first | have f4_d := f4 (by with_reducible assumption) | skip); (first | have f11_d := f11 (by with_reducible assumption) | skip); (first | have f21_d := f21 (by with_reducible assumption) | skip); (first | have f28_d := f28 (by with_reducible assumption) | skip); (first | have f13_q := tk_nx0 f13 (by clear f13_c2 f13 f29_c2 f29 hE_0_1_1 hK_0_1 hE_0_73_1 hK_0_73 hE_0_160_1 hK_0_160 hE_0_161_1 hE_0_162_1 hK_0_162 hE_0_163_1 hK_0_163 f4 f11 f21 f28; omega) | skip); (first | have f29_q := tk_nx0 f29 (by clear f13_c2 f13 f29_c2 f29 hE_0_1_1 hK_0_1 hE_0_73_1 hK_0_73 hE_0_160_1 hK_0_160 hE_0_161_1 hE_0_162_1 hK_0_162 hE_0_163_1 hK_0_163 f4 f11 f21 f28; omega) | skip); (try and_intros) <;> first | with_reducible assumption | (clear f13_c2 f13 f29_c2 f29 hE_0_1_1 hK_0_1 hE_0_73_1 hK_0_73 hE_0_160_1 hK_0_160 hE_0_161_1 hE_0_162_1 hK_0_162 hE_0_163_1 hK_0_163 f4 f11 f21 f28; omega)) | omega
set_option maxHeartbeats 4000000 in
theorem vc_Mo_rule_at_f0_64_6 (x1 : Int) (x5 : Int) (x6 : Int) (x11 : Int) (x12 : Int) (x14 : Int) (x15 : Int) (x16 : Int) (x17 : Int) (x18 : Int) (x20 : Int) (x21 : Int) (x27 : Int) (x33 : Int) (styleKind_0 : Int) (styleOne_0 : Int) (fault_0 : Int) (tokenKind_0 : Int → Int) (tokenValue_0 : Int → Int) (tokenPlace_0 : Int → Int) (tokenEnd_0 : Int → Int) (tape_0 : Int → Int) (limit_0 : Int) (cur_0 : Int) (tokens_0 : Int) (opened_0 : Int) (styleKind_1 : Int) (styleOne_1 : Int) (tokenKind_1 : Int → Int) (tokenValue_1 : Int → Int) (tokenPlace_1 : Int → Int) (tokenEnd_1 : Int → Int) (tape_1 : Int → Int) (limit_1 : Int) (cur_1 : Int) (tokens_1 : Int) (opened_1 : Int) (fault_1 : Int) (shades_0 : Int → Int) (shades_1 : Int → Int) (x36 : Int) (gx : Int) (k1 : 0 ≤ x1 ∧ x1 ≤ 2009) (k5 : 0 ≤ x5 ∧ x5 ≤ 2009) (k6 : 0 ≤ x6 ∧ x6 ≤ 2010) (k11 : 1 ≤ x11 ∧ x11 ≤ 1) (k12 : 1 ≤ x12 ∧ x12 ≤ 2009) (k14 : 0 ≤ x14 ∧ x14 ≤ 2009) (k15 : 0 ≤ x15 ∧ x15 ≤ 5) (k16 : 0 ≤ x16 ∧ x16 ≤ 2009) (k17 : 0 ≤ x17 ∧ x17 ≤ 5) (k18 : 0 ≤ x18 ∧ x18 ≤ 13) (k20 : 0 ≤ x20 ∧ x20 ≤ 0) (k21 : 0 ≤ x21 ∧ x21 ≤ 47) (k27 : 0 ≤ x27 ∧ x27 ≤ 1) (k33 : 0 ≤ x33 ∧ x33 ≤ 861) (d0 : x5 + 1 ≤ x12 ∧ x12 ≤ x5 + 1) (g0 : x27 = styleKind_0) (g2 : x21 = styleOne_0) (g3 : x20 = fault_0) (f4 : (styleKind_0 = 0) → (styleOne_0 ≤ 23)) (f5 : 1 * x1 + ((-1) * x16 + 0) ≤ 0) (f6 : (-1) * x6 + ((-1) * x16 + 0) ≤ (-2011)) (f7 : RB2 (styleKind_0) (limit_0) (tokenKind_0) (tokenValue_0) (tokenPlace_0) (tokenEnd_0) (tape_0) (x16) (x17) (x18) (x1)) (f8 : 1 * x1 + ((-1) * x14 + 0) ≤ 0) (f9 : (-1) * x6 + ((-1) * x14 + 0) ≤ (-2011)) (f10 : RB1 (styleKind_0) (limit_0) (tokenKind_0) (tokenValue_0) (tokenPlace_0) (tokenEnd_0) (tape_0) (x14) (x15) (x1)) (f11 : (styleKind_0 = 0) → (styleOne_0 ≤ 23)) (f13 : ((cur_0 + 1) ≤ tokens_0) ∧ ((tokens_0 ≤ 2010) ∧ ((tokenKind_0 ((tokens_0 - 1)) = 0) ∨ (tokenKind_0 ((tokens_0 - 1)) = 4)))) (f14 : 1 * x16 + ((-1) * cur_0 + 0) ≤ 0) (f15 : 1 * opened_0 + 0 ≤ 0) (f16 : (-1) * opened_0 + 0 ≤ 0) (f17 : SSM (fault_0) (cur_0) (styleKind_0) (limit_0) (tokenKind_0) (tokenValue_0) (tokenPlace_0) (tokenEnd_0) (tape_0) (x16) (x17) (x18)) (f19 : 0 ≤ x21) (f20 : x20 = 0) (f21 : (styleKind_1 = 0) → (styleOne_1 ≤ 23)) (f22 : 1 * x1 + ((-1) * x16 + 0) ≤ 0) (f23 : (-1) * x6 + ((-1) * x16 + 0) ≤ (-2011)) (f24 : RB2 (styleKind_1) (limit_1) (tokenKind_1) (tokenValue_1) (tokenPlace_1) (tokenEnd_1) (tape_1) (x16) (x17) (x18) (x1)) (f25 : 1 * x1 + ((-1) * x14 + 0) ≤ 0) (f26 : (-1) * x6 + ((-1) * x14 + 0) ≤ (-2011)) (f27 : RB1 (styleKind_1) (limit_1) (tokenKind_1) (tokenValue_1) (tokenPlace_1) (tokenEnd_1) (tape_1) (x14) (x15) (x1)) (f28 : (styleKind_1 = 0) → (styleOne_1 ≤ 23)) (f29 : ((cur_1 + 1) ≤ tokens_1) ∧ ((tokens_1 ≤ 2010) ∧ ((tokenKind_1 ((tokens_1 - 1)) = 0) ∨ (tokenKind_1 ((tokens_1 - 1)) = 4)))) (f30 : 1 * x16 + ((-1) * cur_1 + 0) ≤ 0) (f31 : 1 * opened_1 + 0 ≤ 0) (f32 : (-1) * opened_1 + 0 ≤ 0) (f33 : SSM (fault_1) (cur_1) (styleKind_1) (limit_1) (tokenKind_1) (tokenValue_1) (tokenPlace_1) (tokenEnd_1) (tape_1) (x16) (x17) (x18)) (f35 : 1 * x1 + ((-1) * x16 + 0) ≤ 0) (f36 : (-1) * x6 + ((-1) * x16 + 0) ≤ (-2011)) (f37 : 1 * x1 + ((-1) * x14 + 0) ≤ 0) (f38 : (-1) * x6 + ((-1) * x14 + 0) ≤ (-2011)) (f40 : 1 * x1 + ((-1) * x14 + 0) ≤ 0) (f41 : (-1) * x6 + ((-1) * x14 + 0) ≤ (-2011)) (f43 : x12 = x5 + x11) (fe_0_8_1 : fault_0 = fault_1) (fe_0_10_1 : limit_0 = limit_1) (fe_0_157_1 : tokens_0 = tokens_1) (fe_0_158_1 : cur_0 = cur_1) (fe_0_159_1 : opened_0 = opened_1) (fe_0_164_1 : styleKind_0 = styleKind_1) (fe_0_165_1 : styleOne_0 = styleOne_1) (hE_0_1_1 : ∀ j : Int, tape_0 j = tape_1 j) (hK_0_1 : ∀ j : Int, 0 ≤ j → j < 2000 → (-128) ≤ tape_0 j ∧ tape_0 j ≤ 127) (hE_0_73_1 : ∀ j : Int, 0 ≤ j → (j = x33 → shades_0 j = x36) ∧ (j ≠ x33 → shades_0 j = shades_1 j)) (hK_0_73 : ∀ j : Int, 0 ≤ j → j < 864 → 0 ≤ shades_0 j ∧ shades_0 j ≤ 255) (hE_0_160_1 : ∀ j : Int, tokenKind_0 j = tokenKind_1 j) (hK_0_160 : ∀ j : Int, 0 ≤ j → j < 2010 → 0 ≤ tokenKind_0 j ∧ tokenKind_0 j ≤ 4) (hE_0_161_1 : ∀ j : Int, tokenValue_0 j = tokenValue_1 j) (hE_0_162_1 : ∀ j : Int, tokenPlace_0 j = tokenPlace_1 j) (hK_0_162 : ∀ j : Int, 0 ≤ j → j < 2010 → 0 ≤ tokenPlace_0 j ∧ tokenPlace_0 j ≤ 2000) (hE_0_163_1 : ∀ j : Int, tokenEnd_0 j = tokenEnd_1 j) (hK_0_163 : ∀ j : Int, 0 ≤ j → j < 2010 → 0 ≤ tokenEnd_0 j ∧ tokenEnd_0 j ≤ 2000) (kz_0_8 : 0 ≤ fault_0 ∧ fault_0 ≤ 5) (kz_0_10 : 0 ≤ limit_0 ∧ limit_0 ≤ 2000) (kz_0_157 : 0 ≤ tokens_0 ∧ tokens_0 ≤ 2010) (kz_0_158 : 0 ≤ cur_0 ∧ cur_0 ≤ 2009) (kz_0_159 : 0 ≤ opened_0 ∧ opened_0 ≤ 13) (kz_0_164 : 0 ≤ styleKind_0 ∧ styleKind_0 ≤ 1) (kz_0_165 : (-1) ≤ styleOne_0 ∧ styleOne_0 ≤ 47) (ex2 : gx = 0 + (1 * x6 + 0)) (ex3 : 0 ≤ gx ∧ gx ≤ 2010) : RDL (fault_0) (cur_0) (styleKind_0) (limit_0) (tokenKind_0) (tokenValue_0) (tokenPlace_0) (tokenEnd_0) (tape_0) (x1) := by
  subst fe_0_8_1
  subst fe_0_10_1
  subst fe_0_157_1
  subst fe_0_158_1
  subst fe_0_159_1
  subst fe_0_164_1
  subst fe_0_165_1
  have e_hE_0_1_1 := funext hE_0_1_1; subst e_hE_0_1_1
  have e_hE_0_160_1 := funext hE_0_160_1; subst e_hE_0_160_1
  have e_hE_0_161_1 := funext hE_0_161_1; subst e_hE_0_161_1
  have e_hE_0_162_1 := funext hE_0_162_1; subst e_hE_0_162_1
  have e_hE_0_163_1 := funext hE_0_163_1; subst e_hE_0_163_1
  first
    | exact rb2_go (‹RB2 _ _ _ _ _ _ _ _ _ _ _›) (‹SSM _ _ _ _ _ _ _ _ _ _ _ _›) (by omega)
    | assumption
  
def o_Mo_rule_at_f0_64 : or_T := (275, 37, [(0, (2, 0, 0, [165])), (1, (0, 0, 2009, [])), (2, (2, 0, 0, [165])), (5, (0, 0, 2009, [])), (6, (0, 0, 2010, [])), (11, (0, 1, 1, [])), (12, (0, 1, 2009, [])), (14, (0, 0, 2009, [])), (15, (0, 0, 5, [])), (16, (0, 0, 2009, [])), (17, (0, 0, 5, [])), (18, (0, 0, 13, [])), (20, (0, 0, 0, [])), (21, (0, 0, 47, [])), (22, (2, 0, 0, [213])), (27, (0, 0, 1, [])), (33, (0, 0, 861, []))], [(9, [27, 2], [164]), (9, [22, 2], [73]), (9, [21, 2], [165]), (9, [20, 2], [8]), (20, [2], [50, 2, 0, 164, 165, 4, 7, 1, 3, 2, 0, 164, 0, 0, 0, 3, 2, 0, 165, 0, 23]), (23, [1, 16], [0, 1, -1]), (23, [6, 16], [-2011, -1, -1]), (20, [2, 16, 17, 18, 1], [60, 2, 5, 60, 164, 10, 160, 161, 162, 163, 1]), (23, [1, 14], [0, 1, -1]), (23, [6, 14], [-2011, -1, -1]), (20, [2, 14, 15, 1], [60, 2, 5, 62, 164, 10, 160, 161, 162, 163, 1]), (20, [2], [50, 2, 0, 164, 165, 4, 7, 1, 3, 2, 0, 164, 0, 0, 0, 3, 2, 0, 165, 0, 23]), (24, [0, 2], []), (20, [2], [50, 2, 1, 158, 157, 160, 2, 12, 0, 7, 4, 3, 2, 0, 158, 0, 1, 2, 0, 157, 2, 7, 0, 3, 2, 0, 157, 0, 2010, 3, 14, 1, 10, 3, 0, 160, 5, 3, 2, 0, 157, 0, 1, 0, 0, 1, 10, 3, 0, 160, 5, 3, 2, 0, 157, 0, 1, 0, 4]), (20, [16, 2], [30, 0, 1, 0, 0, -1, 1, 158]), (20, [2], [30, 0, 1, 1, 159]), (20, [2], [30, 0, -1, 1, 159]), (20, [2, 16, 17, 18], [60, 4, 5, 2, 8, 158, 164, 10, 160, 161, 162, 163, 1]), (100, [22, 33, 36], []), (8, [21], [3]), (8, [20], [0]), (20, [2], [50, 2, 0, 164, 165, 4, 7, 1, 3, 2, 0, 164, 0, 0, 0, 3, 2, 0, 165, 0, 23]), (23, [1, 16], [0, 1, -1]), (23, [6, 16], [-2011, -1, -1]), (20, [2, 16, 17, 18, 1], [60, 2, 5, 60, 164, 10, 160, 161, 162, 163, 1]), (23, [1, 14], [0, 1, -1]), (23, [6, 14], [-2011, -1, -1]), (20, [2, 14, 15, 1], [60, 2, 5, 62, 164, 10, 160, 161, 162, 163, 1]), (20, [2], [50, 2, 0, 164, 165, 4, 7, 1, 3, 2, 0, 164, 0, 0, 0, 3, 2, 0, 165, 0, 23]), (20, [2], [50, 2, 1, 158, 157, 160, 2, 12, 0, 7, 4, 3, 2, 0, 158, 0, 1, 2, 0, 157, 2, 7, 0, 3, 2, 0, 157, 0, 2010, 3, 14, 1, 10, 3, 0, 160, 5, 3, 2, 0, 157, 0, 1, 0, 0, 1, 10, 3, 0, 160, 5, 3, 2, 0, 157, 0, 1, 0, 4]), (20, [16, 2], [30, 0, 1, 0, 0, -1, 1, 158]), (20, [2], [30, 0, 1, 1, 159]), (20, [2], [30, 0, -1, 1, 159]), (20, [2, 16, 17, 18], [60, 4, 5, 2, 8, 158, 164, 10, 160, 161, 162, 163, 1]), (102, [18], [0, 165008, 165009, 165158, 165159]), (23, [1, 16], [0, 1, -1]), (23, [6, 16], [-2011, -1, -1]), (23, [1, 14], [0, 1, -1]), (23, [6, 14], [-2011, -1, -1]), (102, [15], [0, 165008, 165009, 165158]), (23, [1, 14], [0, 1, -1]), (23, [6, 14], [-2011, -1, -1]), (101, [2, 12], [158]), (1, [12, 5, 11], [])], [], [(0, 0, 2010, [])], [(20, [2], [50, 2, 1, 158, 157, 160, 2, 12, 0, 7, 4, 3, 2, 0, 158, 0, 1, 2, 0, 157, 2, 7, 0, 3, 2, 0, 157, 0, 2010, 3, 14, 1, 10, 3, 0, 160, 5, 3, 2, 0, 157, 0, 1, 0, 0, 1, 10, 3, 0, 160, 5, 3, 2, 0, 157, 0, 1, 0, 4]), (20, [1, 2], [30, 0, 1, 0, 0, -1, 1, 158]), (20, [2], [50, 2, 0, 164, 165, 4, 7, 1, 3, 2, 0, 164, 0, 0, 0, 3, 2, 0, 165, 0, 23]), (20, [2], [30, 0, 1, 1, 159]), (20, [2], [30, 0, -1, 1, 159]), (20, [37, 2], [30, -2011, -1, 0, 0, -1, 1, 158]), (20, [2, 1], [60, 4, 5, 68, 8, 158, 164, 10, 160, 161, 162, 163, 1]), (24, [0, 2], [])], [(37, 6, 0, 0)], [(12, 5, 1, 1)])
theorem oo_Mo_rule_at_f0_64 {kA : Nat → ClassId} : or_ok PRD kA GG o_Mo_rule_at_f0_64 := by
  refine or_mk fun A ta ws vs hD hth hl => ?_
  intro t0 r0 t1 k1 t2 r2 t5 k5 t6 k6 t11 k11 t12 k12 t14 k14 t15 k15 t16 k16 t17 k17 t18 k18 t20 k20 t21 k21 t22 r22 t27 k27 t33 k33 d0 f0 f1 f2 f3 f4 f5 f6 f7 f8 f9 f10 f11 f12 f13 f14 f15 f16 f17 ta1 w1 le1 s1 f19 f20 f21 f22 f23 f24 f25 f26 f27 f28 f29 f30 f31 f32 f33 ta2 w2 le2 s2 f35 f36 f37 f38 ta3 w3 le3 s3 f40 f41 ta4 w4 le4 s4 f43
  replace f0 := shm_329 f0
  replace f1 := shm_2273 f1
  replace f2 := shm_195 f2
  replace f3 := shm_293 f3
  replace f4 := shm_274 f4
  replace f5 := shm_7 f5
  replace f6 := shm_290 f6
  replace f7 := shm_2271 f7
  replace f8 := shm_7 f8
  replace f9 := shm_290 f9
  replace f10 := shm_2270 f10
  replace f11 := shm_274 f11
  replace f12 := shm_5 f12
  replace f13 := shm_271 f13
  replace f14 := shm_281 f14
  replace f15 := shm_1029 f15
  replace f16 := shm_1030 f16
  replace f17 := shm_299 f17
  have s1 : (∀ b j, w_el ws b j = if b = v_ad (n_v vs 22) ∧ j = (v_iv (n_v vs 33)).toNat then v_iv (n_v vs 36) else w_el w1 b j) ∧ ∀ b k, w_fd ws b k = w_fd w1 b k := s1.2
  replace f19 := shm_32 f19
  replace f20 := shm_192 f20
  replace f21 := shm_274 f21
  replace f22 := shm_7 f22
  replace f23 := shm_290 f23
  replace f24 := shm_2271 f24
  replace f25 := shm_7 f25
  replace f26 := shm_290 f26
  replace f27 := shm_2270 f27
  replace f28 := shm_274 f28
  replace f29 := shm_271 f29
  replace f30 := shm_281 f30
  replace f31 := shm_1029 f31
  replace f32 := shm_1030 f32
  replace f33 := shm_299 f33
  replace f35 := shm_7 f35
  replace f36 := shm_290 f36
  replace f37 := shm_7 f37
  replace f38 := shm_290 f38
  replace f40 := shm_7 f40
  replace f41 := shm_290 f41
  have s4 : (∀ b j, w_el w3 b j = w_el w4 b j) ∧ ∀ b j, w_fd w3 b j = if b = v_ad (n_v vs 2) ∧ j = 158 then n_v vs 12 else w_fd w4 b j := s4.2
  replace f43 := shm_12 f43
  have q2 : n_v vs 2 = n_v vs 0 := f12.symm
  simp only [q2] at f0 f1 f2 f3 f4 f7 f10 f11 f13 f14 f15 f16 f17 f21 f24 f27 f28 f29 f30 f31 f32 f33
  rw [q2] at s4
  have ar_0_1_1 : w_ar w1 (n_v vs 0) 1 = w_ar ws (n_v vs 0) 1 := congrArg v_ad (s1.2 _ _).symm
  have cr_0_1 := fdq_39 hD hth r0
  have ar_0_73_1 : w_ar w1 (n_v vs 0) 73 = w_ar ws (n_v vs 0) 73 := congrArg v_ad (s1.2 _ _).symm
  have cr_0_73 := fdq_333 hD hth r0
  have ar_0_160_1 : w_ar w1 (n_v vs 0) 160 = w_ar ws (n_v vs 0) 160 := congrArg v_ad (s1.2 _ _).symm
  have cr_0_160 := fdq_33 hD hth r0
  have ar_0_161_1 : w_ar w1 (n_v vs 0) 161 = w_ar ws (n_v vs 0) 161 := congrArg v_ad (s1.2 _ _).symm
  have cr_0_161 := fdq_40 hD hth r0
  have ar_0_162_1 : w_ar w1 (n_v vs 0) 162 = w_ar ws (n_v vs 0) 162 := congrArg v_ad (s1.2 _ _).symm
  have cr_0_162 := fdq_41 hD hth r0
  have ar_0_163_1 : w_ar w1 (n_v vs 0) 163 = w_ar ws (n_v vs 0) 163 := congrArg v_ad (s1.2 _ _).symm
  have cr_0_163 := fdq_42 hD hth r0
  have ad_22 : v_ad (n_v vs 22) = w_ar ws (n_v vs 0) 73 := congrArg v_ad f1
  have g0 : v_iv (n_v vs 27) = w_fi ws (n_v vs 0) 164 := congrArg v_iv f0
  have g2 : v_iv (n_v vs 21) = w_fi ws (n_v vs 0) 165 := congrArg v_iv f2
  have g3 : v_iv (n_v vs 20) = w_fi ws (n_v vs 0) 8 := congrArg v_iv f3
  simp only [ar_0_1_1, ar_0_160_1, ar_0_161_1, ar_0_162_1, ar_0_163_1] at f24 f27 f29 f33
  have fe_0_8_1 : w_fi ws (n_v vs 0) 8 = w_fi w1 (n_v vs 0) 8 := congrArg v_iv (s1.2 _ _)
  have fe_0_10_1 : w_fi ws (n_v vs 0) 10 = w_fi w1 (n_v vs 0) 10 := congrArg v_iv (s1.2 _ _)
  have fe_0_157_1 : w_fi ws (n_v vs 0) 157 = w_fi w1 (n_v vs 0) 157 := congrArg v_iv (s1.2 _ _)
  have fe_0_158_1 : w_fi ws (n_v vs 0) 158 = w_fi w1 (n_v vs 0) 158 := congrArg v_iv (s1.2 _ _)
  have fe_0_159_1 : w_fi ws (n_v vs 0) 159 = w_fi w1 (n_v vs 0) 159 := congrArg v_iv (s1.2 _ _)
  have fe_0_164_1 : w_fi ws (n_v vs 0) 164 = w_fi w1 (n_v vs 0) 164 := congrArg v_iv (s1.2 _ _)
  have fe_0_165_1 : w_fi ws (n_v vs 0) 165 = w_fi w1 (n_v vs 0) 165 := congrArg v_iv (s1.2 _ _)
  have hE_0_1_1 : ∀ j : Int, w_ei ws (w_ar ws (n_v vs 0) 1) j = w_ei w1 (w_ar ws (n_v vs 0) 1) j := el_kp s1.1 r22 cr_0_1 (by decide)
  have hK_0_1 := elq_7 hD hth cr_0_1
  have hE_0_73_1 : ∀ j : Int, 0 ≤ j → (j = v_iv (n_v vs 33) → w_ei ws (w_ar ws (n_v vs 0) 73) j = v_iv (n_v vs 36)) ∧ (j ≠ v_iv (n_v vs 33) → w_ei ws (w_ar ws (n_v vs 0) 73) j = w_ei w1 (w_ar ws (n_v vs 0) 73) j) := fun j hj => ⟨fun h => by unfold w_ei; rw [s1.1, if_pos ⟨ad_22.symm, by rw [h]⟩], fun h => by unfold w_ei; rw [s1.1, if_neg (fun e => h (by have := e.2; omega))]⟩
  have hK_0_73 := elq_203 hD hth cr_0_73
  have hE_0_160_1 : ∀ j : Int, w_ei ws (w_ar ws (n_v vs 0) 160) j = w_ei w1 (w_ar ws (n_v vs 0) 160) j := el_kp s1.1 r22 cr_0_160 (by decide)
  have hK_0_160 := elq_6 hD hth cr_0_160
  have hE_0_161_1 : ∀ j : Int, w_ei ws (w_ar ws (n_v vs 0) 161) j = w_ei w1 (w_ar ws (n_v vs 0) 161) j := el_kp s1.1 r22 cr_0_161 (by decide)
  have hE_0_162_1 : ∀ j : Int, w_ei ws (w_ar ws (n_v vs 0) 162) j = w_ei w1 (w_ar ws (n_v vs 0) 162) j := el_kp s1.1 r22 cr_0_162 (by decide)
  have hK_0_162 := elq_8 hD hth cr_0_162
  have hE_0_163_1 : ∀ j : Int, w_ei ws (w_ar ws (n_v vs 0) 163) j = w_ei w1 (w_ar ws (n_v vs 0) 163) j := el_kp s1.1 r22 cr_0_163 (by decide)
  have hK_0_163 := elq_9 hD hth cr_0_163
  have kz_0_8 := fdq_34 hD hth r0
  have kz_0_10 := fdq_43 hD hth r0
  have kz_0_157 := fdq_35 hD hth r0
  have kz_0_158 := fdq_36 hD hth r0
  have kz_0_159 := fdq_37 hD hth r0
  have kz_0_164 := fdq_38 hD hth r0
  have kz_0_165 := fdq_27 hD hth r0
  obtain ⟨x, ex, hx⟩ := iv_ex (ta := ta) (lo := 0) (hi := 2010) (z := 0 + (1 * v_iv (n_v vs 6) + 0)) (by omega) (by omega) (by omega) (by omega)
  have ex2 : v_iv (Value.int x) = 0 + (1 * v_iv (n_v vs 6) + 0) := ex
  have ex3 : 0 ≤ v_iv (Value.int x) ∧ v_iv (Value.int x) ≤ 2010 := tv_rng hx
  have e_0 : n_v (vs ++ [Value.int x]) 0 = n_v vs 0 := n_v_old (by rw [hl]; decide)
  have e_1 : n_v (vs ++ [Value.int x]) 1 = n_v vs 1 := n_v_old (by rw [hl]; decide)
  have e_2 : n_v (vs ++ [Value.int x]) 2 = n_v vs 2 := n_v_old (by rw [hl]; decide)
  have e_37 : n_v (vs ++ [Value.int x]) 37 = Value.int x := n_v_new hl
  have nf0 : fc_1 PRD (20, [2], [50, 2, 1, 158, 157, 160, 2, 12, 0, 7, 4, 3, 2, 0, 158, 0, 1, 2, 0, 157, 2, 7, 0, 3, 2, 0, 157, 0, 2010, 3, 14, 1, 10, 3, 0, 160, 5, 3, 2, 0, 157, 0, 1, 0, 0, 1, 10, 3, 0, 160, 5, 3, 2, 0, 157, 0, 1, 0, 4]) ws (vs ++ [Value.int x]) := by
    refine ⟨nf_inA hl rfl, sgq_271 ?_⟩
    · show ((w_fi ws (n_v (vs ++ [Value.int x]) 2) 158 + 1) ≤ w_fi ws (n_v (vs ++ [Value.int x]) 2) 157) ∧ ((w_fi ws (n_v (vs ++ [Value.int x]) 2) 157 ≤ 2010) ∧ ((w_ei ws (w_ar ws (n_v (vs ++ [Value.int x]) 2) 160) ((w_fi ws (n_v (vs ++ [Value.int x]) 2) 157 - 1)) = 0) ∨ (w_ei ws (w_ar ws (n_v (vs ++ [Value.int x]) 2) 160) ((w_fi ws (n_v (vs ++ [Value.int x]) 2) 157 - 1)) = 4)))
      simp only [e_2, q2]
      exact vc_Mo_rule_at_f0_64_0 (v_iv (n_v vs 1)) (v_iv (n_v vs 5)) (v_iv (n_v vs 6)) (v_iv (n_v vs 11)) (v_iv (n_v vs 12)) (v_iv (n_v vs 14)) (v_iv (n_v vs 15)) (v_iv (n_v vs 16)) (v_iv (n_v vs 17)) (v_iv (n_v vs 18)) (v_iv (n_v vs 20)) (v_iv (n_v vs 21)) (v_iv (n_v vs 27)) (v_iv (n_v vs 33)) (w_fi ws (n_v vs 0) 164) (w_fi ws (n_v vs 0) 165) (w_fi ws (n_v vs 0) 8) (w_ei ws (w_ar ws (n_v vs 0) 160)) (w_ei ws (w_ar ws (n_v vs 0) 161)) (w_ei ws (w_ar ws (n_v vs 0) 162)) (w_ei ws (w_ar ws (n_v vs 0) 163)) (w_ei ws (w_ar ws (n_v vs 0) 1)) (w_fi ws (n_v vs 0) 10) (w_fi ws (n_v vs 0) 158) (w_fi ws (n_v vs 0) 157) (w_fi ws (n_v vs 0) 159) (w_fi w1 (n_v vs 0) 164) (w_fi w1 (n_v vs 0) 165) (w_ei w1 (w_ar ws (n_v vs 0) 160)) (w_ei w1 (w_ar ws (n_v vs 0) 161)) (w_ei w1 (w_ar ws (n_v vs 0) 162)) (w_ei w1 (w_ar ws (n_v vs 0) 163)) (w_ei w1 (w_ar ws (n_v vs 0) 1)) (w_fi w1 (n_v vs 0) 10) (w_fi w1 (n_v vs 0) 158) (w_fi w1 (n_v vs 0) 157) (w_fi w1 (n_v vs 0) 159) (w_fi w1 (n_v vs 0) 8) (w_ei ws (w_ar ws (n_v vs 0) 73)) (w_ei w1 (w_ar ws (n_v vs 0) 73)) (v_iv (n_v vs 36)) (v_iv (Value.int x)) k1 k5 k6 k11 k12 k14 k15 k16 k17 k18 k20 k21 k27 k33 d0 g0 g2 g3 f4 f5 f6 f7 f8 f9 f10 f11 f13 f14 f15 f16 f17 f19 f20 f21 f22 f23 f24 f25 f26 f27 f28 f29 f30 f31 f32 f33 f35 f36 f37 f38 f40 f41 f43 fe_0_8_1 fe_0_10_1 fe_0_157_1 fe_0_158_1 fe_0_159_1 fe_0_164_1 fe_0_165_1 hE_0_1_1 hK_0_1 hE_0_73_1 hK_0_73 hE_0_160_1 hK_0_160 hE_0_161_1 hE_0_162_1 hK_0_162 hE_0_163_1 hK_0_163 kz_0_8 kz_0_10 kz_0_157 kz_0_158 kz_0_159 kz_0_164 kz_0_165 ex2 ex3
  have nf1 : fc_1 PRD (20, [1, 2], [30, 0, 1, 0, 0, -1, 1, 158]) ws (vs ++ [Value.int x]) := by
    refine ⟨nf_inA hl rfl, sgq_281 ?_⟩
    · show 1 * v_iv (n_v (vs ++ [Value.int x]) 1) + ((-1) * w_fi ws (n_v (vs ++ [Value.int x]) 2) 158 + 0) ≤ 0
      simp only [e_1, e_2, q2]
      exact vc_Mo_rule_at_f0_64_1 (v_iv (n_v vs 1)) (v_iv (n_v vs 5)) (v_iv (n_v vs 6)) (v_iv (n_v vs 11)) (v_iv (n_v vs 12)) (v_iv (n_v vs 14)) (v_iv (n_v vs 15)) (v_iv (n_v vs 16)) (v_iv (n_v vs 17)) (v_iv (n_v vs 18)) (v_iv (n_v vs 20)) (v_iv (n_v vs 21)) (v_iv (n_v vs 27)) (v_iv (n_v vs 33)) (w_fi ws (n_v vs 0) 164) (w_fi ws (n_v vs 0) 165) (w_fi ws (n_v vs 0) 8) (w_ei ws (w_ar ws (n_v vs 0) 160)) (w_ei ws (w_ar ws (n_v vs 0) 161)) (w_ei ws (w_ar ws (n_v vs 0) 162)) (w_ei ws (w_ar ws (n_v vs 0) 163)) (w_ei ws (w_ar ws (n_v vs 0) 1)) (w_fi ws (n_v vs 0) 10) (w_fi ws (n_v vs 0) 158) (w_fi ws (n_v vs 0) 157) (w_fi ws (n_v vs 0) 159) (w_fi w1 (n_v vs 0) 164) (w_fi w1 (n_v vs 0) 165) (w_ei w1 (w_ar ws (n_v vs 0) 160)) (w_ei w1 (w_ar ws (n_v vs 0) 161)) (w_ei w1 (w_ar ws (n_v vs 0) 162)) (w_ei w1 (w_ar ws (n_v vs 0) 163)) (w_ei w1 (w_ar ws (n_v vs 0) 1)) (w_fi w1 (n_v vs 0) 10) (w_fi w1 (n_v vs 0) 158) (w_fi w1 (n_v vs 0) 157) (w_fi w1 (n_v vs 0) 159) (w_fi w1 (n_v vs 0) 8) (w_ei ws (w_ar ws (n_v vs 0) 73)) (w_ei w1 (w_ar ws (n_v vs 0) 73)) (v_iv (n_v vs 36)) (v_iv (Value.int x)) k1 k5 k6 k11 k12 k14 k15 k16 k17 k18 k20 k21 k27 k33 d0 g0 g2 g3 f4 f5 f6 f7 f8 f9 f10 f11 f13 f14 f15 f16 f17 f19 f20 f21 f22 f23 f24 f25 f26 f27 f28 f29 f30 f31 f32 f33 f35 f36 f37 f38 f40 f41 f43 fe_0_8_1 fe_0_10_1 fe_0_157_1 fe_0_158_1 fe_0_159_1 fe_0_164_1 fe_0_165_1 hE_0_1_1 hK_0_1 hE_0_73_1 hK_0_73 hE_0_160_1 hK_0_160 hE_0_161_1 hE_0_162_1 hK_0_162 hE_0_163_1 hK_0_163 kz_0_8 kz_0_10 kz_0_157 kz_0_158 kz_0_159 kz_0_164 kz_0_165 ex2 ex3
  have nf2 : fc_1 PRD (20, [2], [50, 2, 0, 164, 165, 4, 7, 1, 3, 2, 0, 164, 0, 0, 0, 3, 2, 0, 165, 0, 23]) ws (vs ++ [Value.int x]) := by
    refine ⟨nf_inA hl rfl, sgq_274 ?_⟩
    · show (w_fi ws (n_v (vs ++ [Value.int x]) 2) 164 = 0) → (w_fi ws (n_v (vs ++ [Value.int x]) 2) 165 ≤ 23)
      simp only [e_2, q2]
      exact vc_Mo_rule_at_f0_64_2 (v_iv (n_v vs 1)) (v_iv (n_v vs 5)) (v_iv (n_v vs 6)) (v_iv (n_v vs 11)) (v_iv (n_v vs 12)) (v_iv (n_v vs 14)) (v_iv (n_v vs 15)) (v_iv (n_v vs 16)) (v_iv (n_v vs 17)) (v_iv (n_v vs 18)) (v_iv (n_v vs 20)) (v_iv (n_v vs 21)) (v_iv (n_v vs 27)) (v_iv (n_v vs 33)) (w_fi ws (n_v vs 0) 164) (w_fi ws (n_v vs 0) 165) (w_fi ws (n_v vs 0) 8) (w_ei ws (w_ar ws (n_v vs 0) 160)) (w_ei ws (w_ar ws (n_v vs 0) 161)) (w_ei ws (w_ar ws (n_v vs 0) 162)) (w_ei ws (w_ar ws (n_v vs 0) 163)) (w_ei ws (w_ar ws (n_v vs 0) 1)) (w_fi ws (n_v vs 0) 10) (w_fi ws (n_v vs 0) 158) (w_fi ws (n_v vs 0) 157) (w_fi ws (n_v vs 0) 159) (w_fi w1 (n_v vs 0) 164) (w_fi w1 (n_v vs 0) 165) (w_ei w1 (w_ar ws (n_v vs 0) 160)) (w_ei w1 (w_ar ws (n_v vs 0) 161)) (w_ei w1 (w_ar ws (n_v vs 0) 162)) (w_ei w1 (w_ar ws (n_v vs 0) 163)) (w_ei w1 (w_ar ws (n_v vs 0) 1)) (w_fi w1 (n_v vs 0) 10) (w_fi w1 (n_v vs 0) 158) (w_fi w1 (n_v vs 0) 157) (w_fi w1 (n_v vs 0) 159) (w_fi w1 (n_v vs 0) 8) (w_ei ws (w_ar ws (n_v vs 0) 73)) (w_ei w1 (w_ar ws (n_v vs 0) 73)) (v_iv (n_v vs 36)) (v_iv (Value.int x)) k1 k5 k6 k11 k12 k14 k15 k16 k17 k18 k20 k21 k27 k33 d0 g0 g2 g3 f4 f5 f6 f7 f8 f9 f10 f11 f13 f14 f15 f16 f17 f19 f20 f21 f22 f23 f24 f25 f26 f27 f28 f29 f30 f31 f32 f33 f35 f36 f37 f38 f40 f41 f43 fe_0_8_1 fe_0_10_1 fe_0_157_1 fe_0_158_1 fe_0_159_1 fe_0_164_1 fe_0_165_1 hE_0_1_1 hK_0_1 hE_0_73_1 hK_0_73 hE_0_160_1 hK_0_160 hE_0_161_1 hE_0_162_1 hK_0_162 hE_0_163_1 hK_0_163 kz_0_8 kz_0_10 kz_0_157 kz_0_158 kz_0_159 kz_0_164 kz_0_165 ex2 ex3
  have nf3 : fc_1 PRD (20, [2], [30, 0, 1, 1, 159]) ws (vs ++ [Value.int x]) := by
    refine ⟨nf_inA hl rfl, sgq_1029 ?_⟩
    · show 1 * w_fi ws (n_v (vs ++ [Value.int x]) 2) 159 + 0 ≤ 0
      simp only [e_2, q2]
      exact vc_Mo_rule_at_f0_64_3 (v_iv (n_v vs 1)) (v_iv (n_v vs 5)) (v_iv (n_v vs 6)) (v_iv (n_v vs 11)) (v_iv (n_v vs 12)) (v_iv (n_v vs 14)) (v_iv (n_v vs 15)) (v_iv (n_v vs 16)) (v_iv (n_v vs 17)) (v_iv (n_v vs 18)) (v_iv (n_v vs 20)) (v_iv (n_v vs 21)) (v_iv (n_v vs 27)) (v_iv (n_v vs 33)) (w_fi ws (n_v vs 0) 164) (w_fi ws (n_v vs 0) 165) (w_fi ws (n_v vs 0) 8) (w_ei ws (w_ar ws (n_v vs 0) 160)) (w_ei ws (w_ar ws (n_v vs 0) 161)) (w_ei ws (w_ar ws (n_v vs 0) 162)) (w_ei ws (w_ar ws (n_v vs 0) 163)) (w_ei ws (w_ar ws (n_v vs 0) 1)) (w_fi ws (n_v vs 0) 10) (w_fi ws (n_v vs 0) 158) (w_fi ws (n_v vs 0) 157) (w_fi ws (n_v vs 0) 159) (w_fi w1 (n_v vs 0) 164) (w_fi w1 (n_v vs 0) 165) (w_ei w1 (w_ar ws (n_v vs 0) 160)) (w_ei w1 (w_ar ws (n_v vs 0) 161)) (w_ei w1 (w_ar ws (n_v vs 0) 162)) (w_ei w1 (w_ar ws (n_v vs 0) 163)) (w_ei w1 (w_ar ws (n_v vs 0) 1)) (w_fi w1 (n_v vs 0) 10) (w_fi w1 (n_v vs 0) 158) (w_fi w1 (n_v vs 0) 157) (w_fi w1 (n_v vs 0) 159) (w_fi w1 (n_v vs 0) 8) (w_ei ws (w_ar ws (n_v vs 0) 73)) (w_ei w1 (w_ar ws (n_v vs 0) 73)) (v_iv (n_v vs 36)) (v_iv (Value.int x)) k1 k5 k6 k11 k12 k14 k15 k16 k17 k18 k20 k21 k27 k33 d0 g0 g2 g3 f4 f5 f6 f7 f8 f9 f10 f11 f13 f14 f15 f16 f17 f19 f20 f21 f22 f23 f24 f25 f26 f27 f28 f29 f30 f31 f32 f33 f35 f36 f37 f38 f40 f41 f43 fe_0_8_1 fe_0_10_1 fe_0_157_1 fe_0_158_1 fe_0_159_1 fe_0_164_1 fe_0_165_1 hE_0_1_1 hK_0_1 hE_0_73_1 hK_0_73 hE_0_160_1 hK_0_160 hE_0_161_1 hE_0_162_1 hK_0_162 hE_0_163_1 hK_0_163 kz_0_8 kz_0_10 kz_0_157 kz_0_158 kz_0_159 kz_0_164 kz_0_165 ex2 ex3
  have nf4 : fc_1 PRD (20, [2], [30, 0, -1, 1, 159]) ws (vs ++ [Value.int x]) := by
    refine ⟨nf_inA hl rfl, sgq_1030 ?_⟩
    · show (-1) * w_fi ws (n_v (vs ++ [Value.int x]) 2) 159 + 0 ≤ 0
      simp only [e_2, q2]
      exact vc_Mo_rule_at_f0_64_4 (v_iv (n_v vs 1)) (v_iv (n_v vs 5)) (v_iv (n_v vs 6)) (v_iv (n_v vs 11)) (v_iv (n_v vs 12)) (v_iv (n_v vs 14)) (v_iv (n_v vs 15)) (v_iv (n_v vs 16)) (v_iv (n_v vs 17)) (v_iv (n_v vs 18)) (v_iv (n_v vs 20)) (v_iv (n_v vs 21)) (v_iv (n_v vs 27)) (v_iv (n_v vs 33)) (w_fi ws (n_v vs 0) 164) (w_fi ws (n_v vs 0) 165) (w_fi ws (n_v vs 0) 8) (w_ei ws (w_ar ws (n_v vs 0) 160)) (w_ei ws (w_ar ws (n_v vs 0) 161)) (w_ei ws (w_ar ws (n_v vs 0) 162)) (w_ei ws (w_ar ws (n_v vs 0) 163)) (w_ei ws (w_ar ws (n_v vs 0) 1)) (w_fi ws (n_v vs 0) 10) (w_fi ws (n_v vs 0) 158) (w_fi ws (n_v vs 0) 157) (w_fi ws (n_v vs 0) 159) (w_fi w1 (n_v vs 0) 164) (w_fi w1 (n_v vs 0) 165) (w_ei w1 (w_ar ws (n_v vs 0) 160)) (w_ei w1 (w_ar ws (n_v vs 0) 161)) (w_ei w1 (w_ar ws (n_v vs 0) 162)) (w_ei w1 (w_ar ws (n_v vs 0) 163)) (w_ei w1 (w_ar ws (n_v vs 0) 1)) (w_fi w1 (n_v vs 0) 10) (w_fi w1 (n_v vs 0) 158) (w_fi w1 (n_v vs 0) 157) (w_fi w1 (n_v vs 0) 159) (w_fi w1 (n_v vs 0) 8) (w_ei ws (w_ar ws (n_v vs 0) 73)) (w_ei w1 (w_ar ws (n_v vs 0) 73)) (v_iv (n_v vs 36)) (v_iv (Value.int x)) k1 k5 k6 k11 k12 k14 k15 k16 k17 k18 k20 k21 k27 k33 d0 g0 g2 g3 f4 f5 f6 f7 f8 f9 f10 f11 f13 f14 f15 f16 f17 f19 f20 f21 f22 f23 f24 f25 f26 f27 f28 f29 f30 f31 f32 f33 f35 f36 f37 f38 f40 f41 f43 fe_0_8_1 fe_0_10_1 fe_0_157_1 fe_0_158_1 fe_0_159_1 fe_0_164_1 fe_0_165_1 hE_0_1_1 hK_0_1 hE_0_73_1 hK_0_73 hE_0_160_1 hK_0_160 hE_0_161_1 hE_0_162_1 hK_0_162 hE_0_163_1 hK_0_163 kz_0_8 kz_0_10 kz_0_157 kz_0_158 kz_0_159 kz_0_164 kz_0_165 ex2 ex3
  have nf5 : fc_1 PRD (20, [37, 2], [30, -2011, -1, 0, 0, -1, 1, 158]) ws (vs ++ [Value.int x]) := by
    refine ⟨nf_inA hl rfl, sgq_292 ?_⟩
    · show (-1) * v_iv (n_v (vs ++ [Value.int x]) 37) + ((-1) * w_fi ws (n_v (vs ++ [Value.int x]) 2) 158 + 0) ≤ (-2011)
      simp only [e_2, e_37, q2]
      exact vc_Mo_rule_at_f0_64_5 (v_iv (n_v vs 1)) (v_iv (n_v vs 5)) (v_iv (n_v vs 6)) (v_iv (n_v vs 11)) (v_iv (n_v vs 12)) (v_iv (n_v vs 14)) (v_iv (n_v vs 15)) (v_iv (n_v vs 16)) (v_iv (n_v vs 17)) (v_iv (n_v vs 18)) (v_iv (n_v vs 20)) (v_iv (n_v vs 21)) (v_iv (n_v vs 27)) (v_iv (n_v vs 33)) (w_fi ws (n_v vs 0) 164) (w_fi ws (n_v vs 0) 165) (w_fi ws (n_v vs 0) 8) (w_ei ws (w_ar ws (n_v vs 0) 160)) (w_ei ws (w_ar ws (n_v vs 0) 161)) (w_ei ws (w_ar ws (n_v vs 0) 162)) (w_ei ws (w_ar ws (n_v vs 0) 163)) (w_ei ws (w_ar ws (n_v vs 0) 1)) (w_fi ws (n_v vs 0) 10) (w_fi ws (n_v vs 0) 158) (w_fi ws (n_v vs 0) 157) (w_fi ws (n_v vs 0) 159) (w_fi w1 (n_v vs 0) 164) (w_fi w1 (n_v vs 0) 165) (w_ei w1 (w_ar ws (n_v vs 0) 160)) (w_ei w1 (w_ar ws (n_v vs 0) 161)) (w_ei w1 (w_ar ws (n_v vs 0) 162)) (w_ei w1 (w_ar ws (n_v vs 0) 163)) (w_ei w1 (w_ar ws (n_v vs 0) 1)) (w_fi w1 (n_v vs 0) 10) (w_fi w1 (n_v vs 0) 158) (w_fi w1 (n_v vs 0) 157) (w_fi w1 (n_v vs 0) 159) (w_fi w1 (n_v vs 0) 8) (w_ei ws (w_ar ws (n_v vs 0) 73)) (w_ei w1 (w_ar ws (n_v vs 0) 73)) (v_iv (n_v vs 36)) (v_iv (Value.int x)) k1 k5 k6 k11 k12 k14 k15 k16 k17 k18 k20 k21 k27 k33 d0 g0 g2 g3 f4 f5 f6 f7 f8 f9 f10 f11 f13 f14 f15 f16 f17 f19 f20 f21 f22 f23 f24 f25 f26 f27 f28 f29 f30 f31 f32 f33 f35 f36 f37 f38 f40 f41 f43 fe_0_8_1 fe_0_10_1 fe_0_157_1 fe_0_158_1 fe_0_159_1 fe_0_164_1 fe_0_165_1 hE_0_1_1 hK_0_1 hE_0_73_1 hK_0_73 hE_0_160_1 hK_0_160 hE_0_161_1 hE_0_162_1 hK_0_162 hE_0_163_1 hK_0_163 kz_0_8 kz_0_10 kz_0_157 kz_0_158 kz_0_159 kz_0_164 kz_0_165 ex2 ex3
  have nf6 : fc_1 PRD (20, [2, 1], [60, 4, 5, 68, 8, 158, 164, 10, 160, 161, 162, 163, 1]) ws (vs ++ [Value.int x]) := by
    refine ⟨nf_inA hl rfl, sgq_2272 ?_⟩
    · show RDL (w_fi ws (n_v (vs ++ [Value.int x]) 2) 8) (w_fi ws (n_v (vs ++ [Value.int x]) 2) 158) (w_fi ws (n_v (vs ++ [Value.int x]) 2) 164) (w_fi ws (n_v (vs ++ [Value.int x]) 2) 10) (w_ei ws (w_ar ws (n_v (vs ++ [Value.int x]) 2) 160)) (w_ei ws (w_ar ws (n_v (vs ++ [Value.int x]) 2) 161)) (w_ei ws (w_ar ws (n_v (vs ++ [Value.int x]) 2) 162)) (w_ei ws (w_ar ws (n_v (vs ++ [Value.int x]) 2) 163)) (w_ei ws (w_ar ws (n_v (vs ++ [Value.int x]) 2) 1)) (v_iv (n_v (vs ++ [Value.int x]) 1))
      simp only [e_1, e_2, q2]
      exact vc_Mo_rule_at_f0_64_6 (v_iv (n_v vs 1)) (v_iv (n_v vs 5)) (v_iv (n_v vs 6)) (v_iv (n_v vs 11)) (v_iv (n_v vs 12)) (v_iv (n_v vs 14)) (v_iv (n_v vs 15)) (v_iv (n_v vs 16)) (v_iv (n_v vs 17)) (v_iv (n_v vs 18)) (v_iv (n_v vs 20)) (v_iv (n_v vs 21)) (v_iv (n_v vs 27)) (v_iv (n_v vs 33)) (w_fi ws (n_v vs 0) 164) (w_fi ws (n_v vs 0) 165) (w_fi ws (n_v vs 0) 8) (w_ei ws (w_ar ws (n_v vs 0) 160)) (w_ei ws (w_ar ws (n_v vs 0) 161)) (w_ei ws (w_ar ws (n_v vs 0) 162)) (w_ei ws (w_ar ws (n_v vs 0) 163)) (w_ei ws (w_ar ws (n_v vs 0) 1)) (w_fi ws (n_v vs 0) 10) (w_fi ws (n_v vs 0) 158) (w_fi ws (n_v vs 0) 157) (w_fi ws (n_v vs 0) 159) (w_fi w1 (n_v vs 0) 164) (w_fi w1 (n_v vs 0) 165) (w_ei w1 (w_ar ws (n_v vs 0) 160)) (w_ei w1 (w_ar ws (n_v vs 0) 161)) (w_ei w1 (w_ar ws (n_v vs 0) 162)) (w_ei w1 (w_ar ws (n_v vs 0) 163)) (w_ei w1 (w_ar ws (n_v vs 0) 1)) (w_fi w1 (n_v vs 0) 10) (w_fi w1 (n_v vs 0) 158) (w_fi w1 (n_v vs 0) 157) (w_fi w1 (n_v vs 0) 159) (w_fi w1 (n_v vs 0) 8) (w_ei ws (w_ar ws (n_v vs 0) 73)) (w_ei w1 (w_ar ws (n_v vs 0) 73)) (v_iv (n_v vs 36)) (v_iv (Value.int x)) k1 k5 k6 k11 k12 k14 k15 k16 k17 k18 k20 k21 k27 k33 d0 g0 g2 g3 f4 f5 f6 f7 f8 f9 f10 f11 f13 f14 f15 f16 f17 f19 f20 f21 f22 f23 f24 f25 f26 f27 f28 f29 f30 f31 f32 f33 f35 f36 f37 f38 f40 f41 f43 fe_0_8_1 fe_0_10_1 fe_0_157_1 fe_0_158_1 fe_0_159_1 fe_0_164_1 fe_0_165_1 hE_0_1_1 hK_0_1 hE_0_73_1 hK_0_73 hE_0_160_1 hK_0_160 hE_0_161_1 hE_0_162_1 hK_0_162 hE_0_163_1 hK_0_163 kz_0_8 kz_0_10 kz_0_157 kz_0_158 kz_0_159 kz_0_164 kz_0_165 ex2 ex3
  have nf7 : fc_1 PRD (24, [0, 2], []) ws (vs ++ [Value.int x]) := by
    refine ⟨nf_inA hl rfl, sgq_5 ?_⟩
    · show n_v (vs ++ [Value.int x]) 0 = n_v (vs ++ [Value.int x]) 2
      first | rfl | simp only [e_0, e_2, q2]
  obtain ⟨x0, e0, _, _⟩ := tv_int t6 rfl
  have e1 : v_iv (n_v vs 6) = x0.toInt := by rw [e0]; rfl
  have ho : sy_ofs (vs ++ [Value.int x]) (37, 6, 0, 0) := by
    refine ⟨x, x0, by rw [List.getElem?_append_right (by rw [hl]; decide), hl]; rfl, ?_, ?_, ?_⟩
    · rw [List.getElem?_append_left (by rw [hl]; decide)]; exact n_v_some (by rw [hl]; decide) e0
    · show x0.toInt + 0 ≤ x.toInt; omega
    · show x.toInt ≤ x0.toInt + 0; omega
  exact ⟨(fun _ h => (by cases h)), [Value.int x], ag_one hx, List.forall_mem_cons.mpr ⟨⟨show (20 : Nat) < 100 from by decide, nf0⟩, List.forall_mem_cons.mpr ⟨⟨show (20 : Nat) < 100 from by decide, nf1⟩, List.forall_mem_cons.mpr ⟨⟨show (20 : Nat) < 100 from by decide, nf2⟩, List.forall_mem_cons.mpr ⟨⟨show (20 : Nat) < 100 from by decide, nf3⟩, List.forall_mem_cons.mpr ⟨⟨show (20 : Nat) < 100 from by decide, nf4⟩, List.forall_mem_cons.mpr ⟨⟨show (20 : Nat) < 100 from by decide, nf5⟩, List.forall_mem_cons.mpr ⟨⟨show (20 : Nat) < 100 from by decide, nf6⟩, List.forall_mem_cons.mpr ⟨⟨show (24 : Nat) < 100 from by decide, nf7⟩, (fun _ h => (by cases h))⟩⟩⟩⟩⟩⟩⟩⟩, List.forall_mem_cons.mpr ⟨ho, (fun _ h => (by cases h))⟩⟩
set_option maxHeartbeats 4000000 in
theorem vc_Mo_rule_at_f0_65_0 (x1 : Int) (x5 : Int) (x6 : Int) (x11 : Int) (x12 : Int) (x14 : Int) (x15 : Int) (x16 : Int) (x17 : Int) (x18 : Int) (x20 : Int) (x21 : Int) (x27 : Int) (x33 : Int) (styleKind_0 : Int) (styleOne_0 : Int) (fault_0 : Int) (tokenKind_0 : Int → Int) (tokenValue_0 : Int → Int) (tokenPlace_0 : Int → Int) (tokenEnd_0 : Int → Int) (tape_0 : Int → Int) (limit_0 : Int) (cur_0 : Int) (tokens_0 : Int) (opened_0 : Int) (styleKind_1 : Int) (styleOne_1 : Int) (tokenKind_1 : Int → Int) (tokenValue_1 : Int → Int) (tokenPlace_1 : Int → Int) (tokenEnd_1 : Int → Int) (tape_1 : Int → Int) (limit_1 : Int) (cur_1 : Int) (tokens_1 : Int) (opened_1 : Int) (fault_1 : Int) (shades_0 : Int → Int) (shades_1 : Int → Int) (x35 : Int) (gx : Int) (k1 : 0 ≤ x1 ∧ x1 ≤ 2009) (k5 : 0 ≤ x5 ∧ x5 ≤ 2009) (k6 : 0 ≤ x6 ∧ x6 ≤ 2010) (k11 : 1 ≤ x11 ∧ x11 ≤ 1) (k12 : 1 ≤ x12 ∧ x12 ≤ 2009) (k14 : 0 ≤ x14 ∧ x14 ≤ 2009) (k15 : 0 ≤ x15 ∧ x15 ≤ 5) (k16 : 0 ≤ x16 ∧ x16 ≤ 2009) (k17 : 0 ≤ x17 ∧ x17 ≤ 5) (k18 : 0 ≤ x18 ∧ x18 ≤ 13) (k20 : 0 ≤ x20 ∧ x20 ≤ 0) (k21 : 0 ≤ x21 ∧ x21 ≤ 47) (k27 : 0 ≤ x27 ∧ x27 ≤ 1) (k33 : 0 ≤ x33 ∧ x33 ≤ 861) (d0 : x5 + 1 ≤ x12 ∧ x12 ≤ x5 + 1) (g0 : x27 = styleKind_0) (g2 : x21 = styleOne_0) (g3 : x20 = fault_0) (f4 : (styleKind_0 = 0) → (styleOne_0 ≤ 23)) (f5 : 1 * x1 + ((-1) * x16 + 0) ≤ 0) (f6 : (-1) * x6 + ((-1) * x16 + 0) ≤ (-2011)) (f7 : RB2 (styleKind_0) (limit_0) (tokenKind_0) (tokenValue_0) (tokenPlace_0) (tokenEnd_0) (tape_0) (x16) (x17) (x18) (x1)) (f8 : 1 * x1 + ((-1) * x14 + 0) ≤ 0) (f9 : (-1) * x6 + ((-1) * x14 + 0) ≤ (-2011)) (f10 : RB1 (styleKind_0) (limit_0) (tokenKind_0) (tokenValue_0) (tokenPlace_0) (tokenEnd_0) (tape_0) (x14) (x15) (x1)) (f11 : (styleKind_0 = 0) → (styleOne_0 ≤ 23)) (f13 : ((cur_0 + 1) ≤ tokens_0) ∧ ((tokens_0 ≤ 2010) ∧ ((tokenKind_0 ((tokens_0 - 1)) = 0) ∨ (tokenKind_0 ((tokens_0 - 1)) = 4)))) (f14 : 1 * x16 + ((-1) * cur_0 + 0) ≤ 0) (f15 : 1 * opened_0 + 0 ≤ 0) (f16 : (-1) * opened_0 + 0 ≤ 0) (f17 : SSM (fault_0) (cur_0) (styleKind_0) (limit_0) (tokenKind_0) (tokenValue_0) (tokenPlace_0) (tokenEnd_0) (tape_0) (x16) (x17) (x18)) (f19 : 0 ≤ x21) (f20 : x20 = 0) (f21 : (styleKind_1 = 0) → (styleOne_1 ≤ 23)) (f22 : 1 * x1 + ((-1) * x16 + 0) ≤ 0) (f23 : (-1) * x6 + ((-1) * x16 + 0) ≤ (-2011)) (f24 : RB2 (styleKind_1) (limit_1) (tokenKind_1) (tokenValue_1) (tokenPlace_1) (tokenEnd_1) (tape_1) (x16) (x17) (x18) (x1)) (f25 : 1 * x1 + ((-1) * x14 + 0) ≤ 0) (f26 : (-1) * x6 + ((-1) * x14 + 0) ≤ (-2011)) (f27 : RB1 (styleKind_1) (limit_1) (tokenKind_1) (tokenValue_1) (tokenPlace_1) (tokenEnd_1) (tape_1) (x14) (x15) (x1)) (f28 : (styleKind_1 = 0) → (styleOne_1 ≤ 23)) (f29 : ((cur_1 + 1) ≤ tokens_1) ∧ ((tokens_1 ≤ 2010) ∧ ((tokenKind_1 ((tokens_1 - 1)) = 0) ∨ (tokenKind_1 ((tokens_1 - 1)) = 4)))) (f30 : 1 * x16 + ((-1) * cur_1 + 0) ≤ 0) (f31 : 1 * opened_1 + 0 ≤ 0) (f32 : (-1) * opened_1 + 0 ≤ 0) (f33 : SSM (fault_1) (cur_1) (styleKind_1) (limit_1) (tokenKind_1) (tokenValue_1) (tokenPlace_1) (tokenEnd_1) (tape_1) (x16) (x17) (x18)) (f35 : 1 * x1 + ((-1) * x16 + 0) ≤ 0) (f36 : (-1) * x6 + ((-1) * x16 + 0) ≤ (-2011)) (f37 : 1 * x1 + ((-1) * x14 + 0) ≤ 0) (f38 : (-1) * x6 + ((-1) * x14 + 0) ≤ (-2011)) (f40 : 1 * x1 + ((-1) * x14 + 0) ≤ 0) (f41 : (-1) * x6 + ((-1) * x14 + 0) ≤ (-2011)) (f43 : x12 = x5 + x11) (fe_0_8_1 : fault_0 = fault_1) (fe_0_10_1 : limit_0 = limit_1) (fe_0_157_1 : tokens_0 = tokens_1) (fe_0_158_1 : cur_0 = cur_1) (fe_0_159_1 : opened_0 = opened_1) (fe_0_164_1 : styleKind_0 = styleKind_1) (fe_0_165_1 : styleOne_0 = styleOne_1) (hE_0_1_1 : ∀ j : Int, tape_0 j = tape_1 j) (hK_0_1 : ∀ j : Int, 0 ≤ j → j < 2000 → (-128) ≤ tape_0 j ∧ tape_0 j ≤ 127) (hE_0_73_1 : ∀ j : Int, 0 ≤ j → (j = x33 → shades_0 j = x35) ∧ (j ≠ x33 → shades_0 j = shades_1 j)) (hK_0_73 : ∀ j : Int, 0 ≤ j → j < 864 → 0 ≤ shades_0 j ∧ shades_0 j ≤ 255) (hE_0_160_1 : ∀ j : Int, tokenKind_0 j = tokenKind_1 j) (hK_0_160 : ∀ j : Int, 0 ≤ j → j < 2010 → 0 ≤ tokenKind_0 j ∧ tokenKind_0 j ≤ 4) (hE_0_161_1 : ∀ j : Int, tokenValue_0 j = tokenValue_1 j) (hE_0_162_1 : ∀ j : Int, tokenPlace_0 j = tokenPlace_1 j) (hK_0_162 : ∀ j : Int, 0 ≤ j → j < 2010 → 0 ≤ tokenPlace_0 j ∧ tokenPlace_0 j ≤ 2000) (hE_0_163_1 : ∀ j : Int, tokenEnd_0 j = tokenEnd_1 j) (hK_0_163 : ∀ j : Int, 0 ≤ j → j < 2010 → 0 ≤ tokenEnd_0 j ∧ tokenEnd_0 j ≤ 2000) (kz_0_8 : 0 ≤ fault_0 ∧ fault_0 ≤ 5) (kz_0_10 : 0 ≤ limit_0 ∧ limit_0 ≤ 2000) (kz_0_157 : 0 ≤ tokens_0 ∧ tokens_0 ≤ 2010) (kz_0_158 : 0 ≤ cur_0 ∧ cur_0 ≤ 2009) (kz_0_159 : 0 ≤ opened_0 ∧ opened_0 ≤ 13) (kz_0_164 : 0 ≤ styleKind_0 ∧ styleKind_0 ≤ 1) (kz_0_165 : (-1) ≤ styleOne_0 ∧ styleOne_0 ≤ 47) (ex2 : gx = 0 + (1 * x6 + 0)) (ex3 : 0 ≤ gx ∧ gx ≤ 2010) : ((cur_0 + 1) ≤ tokens_0) ∧ ((tokens_0 ≤ 2010) ∧ ((tokenKind_0 ((tokens_0 - 1)) = 0) ∨ (tokenKind_0 ((tokens_0 - 1)) = 4))) := by
  subst fe_0_8_1
  subst fe_0_10_1
  subst fe_0_157_1
  subst fe_0_158_1
  subst fe_0_159_1
  subst fe_0_164_1
  subst fe_0_165_1
  have e_hE_0_1_1 := funext hE_0_1_1; subst e_hE_0_1_1
  have e_hE_0_160_1 := funext hE_0_160_1; subst e_hE_0_160_1
  have e_hE_0_161_1 := funext hE_0_161_1; subst e_hE_0_161_1
  have e_hE_0_162_1 := funext hE_0_162_1; subst e_hE_0_162_1
  have e_hE_0_163_1 := funext hE_0_163_1; subst e_hE_0_163_1
  first | with_reducible assumption | ((have f13_c0 := f13.1); (have f13_c1 := f13.2.1); (have f13_c2 := f13.2.2); (have f29_c0 := f29.1); (have f29_c1 := f29.2.1); (have f29_c2 := f29.2.2); (try and_intros) <;> first | with_reducible assumption | (clear f13_c2 f13 f29_c2 f29 hE_0_1_1 hK_0_1 hE_0_73_1 hK_0_73 hE_0_160_1 hK_0_160 hE_0_161_1 hE_0_162_1 hK_0_162 hE_0_163_1 hK_0_163 f4 f11 f21 f28; omega)) | ((have f13_c0 := f13.1); (have f13_c1 := f13.2.1); (have f13_c2 := f13.2.2); (have f29_c0 := f29.1); (have f29_c1 := f29.2.1); (have f29_c2 := f29.2.2); (first | have f4_b := f4 (by clear f13_c2 f13 f29_c2 f29 hE_0_1_1 hK_0_1 hE_0_73_1 hK_0_73 hE_0_160_1 hK_0_160 hE_0_161_1 hE_0_162_1 hK_0_162 hE_0_163_1 hK_0_163 f4 f11 f21 f28; omega) | skip); (first | have f11_b := f11 (by clear f13_c2 f13 f29_c2 f29 hE_0_1_1 hK_0_1 hE_0_73_1 hK_0_73 hE_0_160_1 hK_0_160 hE_0_161_1 hE_0_162_1 hK_0_162 hE_0_163_1 hK_0_163 f4 f11 f21 f28; omega) | skip); (first | have f21_b := f21 (by clear f13_c2 f13 f29_c2 f29 hE_0_1_1 hK_0_1 hE_0_73_1 hK_0_73 hE_0_160_1 hK_0_160 hE_0_161_1 hE_0_162_1 hK_0_162 hE_0_163_1 hK_0_163 f4 f11 f21 f28; omega) | skip); (first | have f28_b := f28 (by clear f13_c2 f13 f29_c2 f29 hE_0_1_1 hK_0_1 hE_0_73_1 hK_0_73 hE_0_160_1 hK_0_160 hE_0_161_1 hE_0_162_1 hK_0_162 hE_0_163_1 hK_0_163 f4 f11 f21 f28; omega) | skip); (first | have f4_d := f4 (by with_reducible assumption) | skip); (first | have f11_d := f11 (by with_reducible assumption) | skip); (first | have f21_d := f21 (by with_reducible assumption) | skip); (first | have f28_d := f28 (by with_reducible assumption) | skip); (try and_intros) <;> first | with_reducible assumption | (clear f13_c2 f13 f29_c2 f29 hE_0_1_1 hK_0_1 hE_0_73_1 hK_0_73 hE_0_160_1 hK_0_160 hE_0_161_1 hE_0_162_1 hK_0_162 hE_0_163_1 hK_0_163 f4 f11 f21 f28; omega)) | ((have f13_c0 := f13.1); (have f13_c1 := f13.2.1); (have f13_c2 := f13.2.2); (have f29_c0 := f29.1); (have f29_c1 := f29.2.1); (have f29_c2 := f29.2.2); (first | have f4_b := f4 (by clear f13_c2 f13 f29_c2 f29 hE_0_1_1 hK_0_1 hE_0_73_1 hK_0_73 hE_0_160_1 hK_0_160 hE_0_161_1 hE_0_162_1 hK_0_162 hE_0_163_1 hK_0_163 f4 f11 f21 f28; omega) | skip); (first | have f11_b := f11 (by clear f13_c2 f13 f29_c2 f29 hE_0_1_1 hK_0_1 hE_0_73_1 hK_0_73 hE_0_160_1 hK_0_160 hE_0_161_1 hE_0_162_1 hK_0_162 hE_0_163_1 hK_0_163 f4 f11 f21 f28; omega) | skip); (first | have f21_b := f21 (by clear f13_c2 f13 f29_c2 f29 hE_0_1_1 hK_0_1 hE_0_73_1 hK_0_73 hE_0_160_1 hK_0_160 hE_0_161_1 hE_0_162_1 hK_0_162 hE_0_163_1 hK_0_163 f4 f11 f21 f28; omega) | skip); (first | have f28_b := f28 (by clear f13_c2 f13 f29_c2 f29 hE_0_1_1 hK_0_1 hE_0_73_1 hK_0_73 hE_0_160_1 hK_0_160 hE_0_161_1 hE_0_162_1 hK_0_162 hE_0_163_1 hK_0_163 f4 f11 f21 f28; omega) | skip); (first | have f4_d := f4 (by with_reducible assumption) | skip); (first | have f11_d := f11 (by with_reducible assumption) | skip); (first | have f21_d := f21 (by with_reducible assumption) | skip); (first | have f28_d := f28 (by with_reducible assumption) | skip); (first | have f13_q := tk_nx0 f13 (by clear f13_c2 f13 f29_c2 f29 hE_0_1_1 hK_0_1 hE_0_73_1 hK_0_73 hE_0_160_1 hK_0_160 hE_0_161_1 hE_0_162_1 hK_0_162 hE_0_163_1 hK_0_163 f4 f11 f21 f28; omega) | skip); (first | have f29_q := tk_nx0 f29 (by clear f13_c2 f13 f29_c2 f29 hE_0_1_1 hK_0_1 hE_0_73_1 hK_0_73 hE_0_160_1 hK_0_160 hE_0_161_1 hE_0_162_1 hK_0_162 hE_0_163_1 hK_0_163 f4 f11 f21 f28; omega) | skip); (try and_intros) <;> first | with_reducible assumption | (clear f13_c2 f13 f29_c2 f29 hE_0_1_1 hK_0_1 hE_0_73_1 hK_0_73 hE_0_160_1 hK_0_160 hE_0_161_1 hE_0_162_1 hK_0_162 hE_0_163_1 hK_0_163 f4 f11 f21 f28; omega)) | omega
set_option maxHeartbeats 4000000 in
theorem vc_Mo_rule_at_f0_65_1 (x1 : Int) (x5 : Int) (x6 : Int) (x11 : Int) (x12 : Int) (x14 : Int) (x15 : Int) (x16 : Int) (x17 : Int) (x18 : Int) (x20 : Int) (x21 : Int) (x27 : Int) (x33 : Int) (styleKind_0 : Int) (styleOne_0 : Int) (fault_0 : Int) (tokenKind_0 : Int → Int) (tokenValue_0 : Int → Int) (tokenPlace_0 : Int → Int) (tokenEnd_0 : Int → Int) (tape_0 : Int → Int) (limit_0 : Int) (cur_0 : Int) (tokens_0 : Int) (opened_0 : Int) (styleKind_1 : Int) (styleOne_1 : Int) (tokenKind_1 : Int → Int) (tokenValue_1 : Int → Int) (tokenPlace_1 : Int → Int) (tokenEnd_1 : Int → Int) (tape_1 : Int → Int) (limit_1 : Int) (cur_1 : Int) (tokens_1 : Int) (opened_1 : Int) (fault_1 : Int) (shades_0 : Int → Int) (shades_1 : Int → Int) (x35 : Int) (gx : Int) (k1 : 0 ≤ x1 ∧ x1 ≤ 2009) (k5 : 0 ≤ x5 ∧ x5 ≤ 2009) (k6 : 0 ≤ x6 ∧ x6 ≤ 2010) (k11 : 1 ≤ x11 ∧ x11 ≤ 1) (k12 : 1 ≤ x12 ∧ x12 ≤ 2009) (k14 : 0 ≤ x14 ∧ x14 ≤ 2009) (k15 : 0 ≤ x15 ∧ x15 ≤ 5) (k16 : 0 ≤ x16 ∧ x16 ≤ 2009) (k17 : 0 ≤ x17 ∧ x17 ≤ 5) (k18 : 0 ≤ x18 ∧ x18 ≤ 13) (k20 : 0 ≤ x20 ∧ x20 ≤ 0) (k21 : 0 ≤ x21 ∧ x21 ≤ 47) (k27 : 0 ≤ x27 ∧ x27 ≤ 1) (k33 : 0 ≤ x33 ∧ x33 ≤ 861) (d0 : x5 + 1 ≤ x12 ∧ x12 ≤ x5 + 1) (g0 : x27 = styleKind_0) (g2 : x21 = styleOne_0) (g3 : x20 = fault_0) (f4 : (styleKind_0 = 0) → (styleOne_0 ≤ 23)) (f5 : 1 * x1 + ((-1) * x16 + 0) ≤ 0) (f6 : (-1) * x6 + ((-1) * x16 + 0) ≤ (-2011)) (f7 : RB2 (styleKind_0) (limit_0) (tokenKind_0) (tokenValue_0) (tokenPlace_0) (tokenEnd_0) (tape_0) (x16) (x17) (x18) (x1)) (f8 : 1 * x1 + ((-1) * x14 + 0) ≤ 0) (f9 : (-1) * x6 + ((-1) * x14 + 0) ≤ (-2011)) (f10 : RB1 (styleKind_0) (limit_0) (tokenKind_0) (tokenValue_0) (tokenPlace_0) (tokenEnd_0) (tape_0) (x14) (x15) (x1)) (f11 : (styleKind_0 = 0) → (styleOne_0 ≤ 23)) (f13 : ((cur_0 + 1) ≤ tokens_0) ∧ ((tokens_0 ≤ 2010) ∧ ((tokenKind_0 ((tokens_0 - 1)) = 0) ∨ (tokenKind_0 ((tokens_0 - 1)) = 4)))) (f14 : 1 * x16 + ((-1) * cur_0 + 0) ≤ 0) (f15 : 1 * opened_0 + 0 ≤ 0) (f16 : (-1) * opened_0 + 0 ≤ 0) (f17 : SSM (fault_0) (cur_0) (styleKind_0) (limit_0) (tokenKind_0) (tokenValue_0) (tokenPlace_0) (tokenEnd_0) (tape_0) (x16) (x17) (x18)) (f19 : 0 ≤ x21) (f20 : x20 = 0) (f21 : (styleKind_1 = 0) → (styleOne_1 ≤ 23)) (f22 : 1 * x1 + ((-1) * x16 + 0) ≤ 0) (f23 : (-1) * x6 + ((-1) * x16 + 0) ≤ (-2011)) (f24 : RB2 (styleKind_1) (limit_1) (tokenKind_1) (tokenValue_1) (tokenPlace_1) (tokenEnd_1) (tape_1) (x16) (x17) (x18) (x1)) (f25 : 1 * x1 + ((-1) * x14 + 0) ≤ 0) (f26 : (-1) * x6 + ((-1) * x14 + 0) ≤ (-2011)) (f27 : RB1 (styleKind_1) (limit_1) (tokenKind_1) (tokenValue_1) (tokenPlace_1) (tokenEnd_1) (tape_1) (x14) (x15) (x1)) (f28 : (styleKind_1 = 0) → (styleOne_1 ≤ 23)) (f29 : ((cur_1 + 1) ≤ tokens_1) ∧ ((tokens_1 ≤ 2010) ∧ ((tokenKind_1 ((tokens_1 - 1)) = 0) ∨ (tokenKind_1 ((tokens_1 - 1)) = 4)))) (f30 : 1 * x16 + ((-1) * cur_1 + 0) ≤ 0) (f31 : 1 * opened_1 + 0 ≤ 0) (f32 : (-1) * opened_1 + 0 ≤ 0) (f33 : SSM (fault_1) (cur_1) (styleKind_1) (limit_1) (tokenKind_1) (tokenValue_1) (tokenPlace_1) (tokenEnd_1) (tape_1) (x16) (x17) (x18)) (f35 : 1 * x1 + ((-1) * x16 + 0) ≤ 0) (f36 : (-1) * x6 + ((-1) * x16 + 0) ≤ (-2011)) (f37 : 1 * x1 + ((-1) * x14 + 0) ≤ 0) (f38 : (-1) * x6 + ((-1) * x14 + 0) ≤ (-2011)) (f40 : 1 * x1 + ((-1) * x14 + 0) ≤ 0) (f41 : (-1) * x6 + ((-1) * x14 + 0) ≤ (-2011)) (f43 : x12 = x5 + x11) (fe_0_8_1 : fault_0 = fault_1) (fe_0_10_1 : limit_0 = limit_1) (fe_0_157_1 : tokens_0 = tokens_1) (fe_0_158_1 : cur_0 = cur_1) (fe_0_159_1 : opened_0 = opened_1) (fe_0_164_1 : styleKind_0 = styleKind_1) (fe_0_165_1 : styleOne_0 = styleOne_1) (hE_0_1_1 : ∀ j : Int, tape_0 j = tape_1 j) (hK_0_1 : ∀ j : Int, 0 ≤ j → j < 2000 → (-128) ≤ tape_0 j ∧ tape_0 j ≤ 127) (hE_0_73_1 : ∀ j : Int, 0 ≤ j → (j = x33 → shades_0 j = x35) ∧ (j ≠ x33 → shades_0 j = shades_1 j)) (hK_0_73 : ∀ j : Int, 0 ≤ j → j < 864 → 0 ≤ shades_0 j ∧ shades_0 j ≤ 255) (hE_0_160_1 : ∀ j : Int, tokenKind_0 j = tokenKind_1 j) (hK_0_160 : ∀ j : Int, 0 ≤ j → j < 2010 → 0 ≤ tokenKind_0 j ∧ tokenKind_0 j ≤ 4) (hE_0_161_1 : ∀ j : Int, tokenValue_0 j = tokenValue_1 j) (hE_0_162_1 : ∀ j : Int, tokenPlace_0 j = tokenPlace_1 j) (hK_0_162 : ∀ j : Int, 0 ≤ j → j < 2010 → 0 ≤ tokenPlace_0 j ∧ tokenPlace_0 j ≤ 2000) (hE_0_163_1 : ∀ j : Int, tokenEnd_0 j = tokenEnd_1 j) (hK_0_163 : ∀ j : Int, 0 ≤ j → j < 2010 → 0 ≤ tokenEnd_0 j ∧ tokenEnd_0 j ≤ 2000) (kz_0_8 : 0 ≤ fault_0 ∧ fault_0 ≤ 5) (kz_0_10 : 0 ≤ limit_0 ∧ limit_0 ≤ 2000) (kz_0_157 : 0 ≤ tokens_0 ∧ tokens_0 ≤ 2010) (kz_0_158 : 0 ≤ cur_0 ∧ cur_0 ≤ 2009) (kz_0_159 : 0 ≤ opened_0 ∧ opened_0 ≤ 13) (kz_0_164 : 0 ≤ styleKind_0 ∧ styleKind_0 ≤ 1) (kz_0_165 : (-1) ≤ styleOne_0 ∧ styleOne_0 ≤ 47) (ex2 : gx = 0 + (1 * x6 + 0)) (ex3 : 0 ≤ gx ∧ gx ≤ 2010) : 1 * x1 + ((-1) * cur_0 + 0) ≤ 0 := by
  subst fe_0_8_1
  subst fe_0_10_1
  subst fe_0_157_1
  subst fe_0_158_1
  subst fe_0_159_1
  subst fe_0_164_1
  subst fe_0_165_1
  have e_hE_0_1_1 := funext hE_0_1_1; subst e_hE_0_1_1
  have e_hE_0_160_1 := funext hE_0_160_1; subst e_hE_0_160_1
  have e_hE_0_161_1 := funext hE_0_161_1; subst e_hE_0_161_1
  have e_hE_0_162_1 := funext hE_0_162_1; subst e_hE_0_162_1
  have e_hE_0_163_1 := funext hE_0_163_1; subst e_hE_0_163_1
  first | with_reducible assumption | ((have f13_c0 := f13.1); (have f13_c1 := f13.2.1); (have f13_c2 := f13.2.2); (have f29_c0 := f29.1); (have f29_c1 := f29.2.1); (have f29_c2 := f29.2.2); (try and_intros) <;> first | with_reducible assumption | (clear f13_c2 f13 f29_c2 f29 hE_0_1_1 hK_0_1 hE_0_73_1 hK_0_73 hE_0_160_1 hK_0_160 hE_0_161_1 hE_0_162_1 hK_0_162 hE_0_163_1 hK_0_163 f4 f11 f21 f28; omega)) | ((have f13_c0 := f13.1); (have f13_c1 := f13.2.1); (have f13_c2 := f13.2.2); (have f29_c0 := f29.1); (have f29_c1 := f29.2.1); (have f29_c2 := f29.2.2); (first | have f4_b := f4 (by clear f13_c2 f13 f29_c2 f29 hE_0_1_1 hK_0_1 hE_0_73_1 hK_0_73 hE_0_160_1 hK_0_160 hE_0_161_1 hE_0_162_1 hK_0_162 hE_0_163_1 hK_0_163 f4 f11 f21 f28; omega) | skip); (first | have f11_b := f11 (by clear f13_c2 f13 f29_c2 f29 hE_0_1_1 hK_0_1 hE_0_73_1 hK_0_73 hE_0_160_1 hK_0_160 hE_0_161_1 hE_0_162_1 hK_0_162 hE_0_163_1 hK_0_163 f4 f11 f21 f28; omega) | skip); (first | have f21_b := f21 (by clear f13_c2 f13 f29_c2 f29 hE_0_1_1 hK_0_1 hE_0_73_1 hK_0_73 hE_0_160_1 hK_0_160 hE_0_161_1 hE_0_162_1 hK_0_162 hE_0_163_1 hK_0_163 f4 f11 f21 f28; omega) | skip); (first | have f28_b := f28 (by clear f13_c2 f13 f29_c2 f29 hE_0_1_1 hK_0_1 hE_0_73_1 hK_0_73 hE_0_160_1 hK_0_160 hE_0_161_1 hE_0_162_1 hK_0_162 hE_0_163_1 hK_0_163 f4 f11 f21 f28; omega) | skip); (first | have f4_d := f4 (by with_reducible assumption) | skip); (first | have f11_d := f11 (by with_reducible assumption) | skip); (first | have f21_d := f21 (by with_reducible assumption) | skip); (first | have f28_d := f28 (by with_reducible assumption) | skip); (try and_intros) <;> first | with_reducible assumption | (clear f13_c2 f13 f29_c2 f29 hE_0_1_1 hK_0_1 hE_0_73_1 hK_0_73 hE_0_160_1 hK_0_160 hE_0_161_1 hE_0_162_1 hK_0_162 hE_0_163_1 hK_0_163 f4 f11 f21 f28; omega)) | ((have f13_c0 := f13.1); (have f13_c1 := f13.2.1); (have f13_c2 := f13.2.2); (have f29_c0 := f29.1); (have f29_c1 := f29.2.1); (have f29_c2 := f29.2.2); (first | have f4_b := f4 (by clear f13_c2 f13 f29_c2 f29 hE_0_1_1 hK_0_1 hE_0_73_1 hK_0_73 hE_0_160_1 hK_0_160 hE_0_161_1 hE_0_162_1 hK_0_162 hE_0_163_1 hK_0_163 f4 f11 f21 f28; omega) | skip); (first | have f11_b := f11 (by clear f13_c2 f13 f29_c2 f29 hE_0_1_1 hK_0_1 hE_0_73_1 hK_0_73 hE_0_160_1 hK_0_160 hE_0_161_1 hE_0_162_1 hK_0_162 hE_0_163_1 hK_0_163 f4 f11 f21 f28; omega) | skip); (first | have f21_b := f21 (by clear f13_c2 f13 f29_c2 f29 hE_0_1_1 hK_0_1 hE_0_73_1 hK_0_73 hE_0_160_1 hK_0_160 hE_0_161_1 hE_0_162_1 hK_0_162 hE_0_163_1 hK_0_163 f4 f11 f21 f28; omega) | skip); (first | have f28_b := f28 (by clear f13_c2 f13 f29_c2 f29 hE_0_1_1 hK_0_1 hE_0_73_1 hK_0_73 hE_0_160_1 hK_0_160 hE_0_161_1 hE_0_162_1 hK_0_162 hE_0_163_1 hK_0_163 f4 f11 f21 f28; omega) | skip); (first | have f4_d := f4 (by with_reducible assumption) | skip); (first | have f11_d := f11 (by with_reducible assumption) | skip); (first | have f21_d := f21 (by with_reducible assumption) | skip); (first | have f28_d := f28 (by with_reducible assumption) | skip); (first | have f13_q := tk_nx0 f13 (by clear f13_c2 f13 f29_c2 f29 hE_0_1_1 hK_0_1 hE_0_73_1 hK_0_73 hE_0_160_1 hK_0_160 hE_0_161_1 hE_0_162_1 hK_0_162 hE_0_163_1 hK_0_163 f4 f11 f21 f28; omega) | skip); (first | have f29_q := tk_nx0 f29 (by clear f13_c2 f13 f29_c2 f29 hE_0_1_1 hK_0_1 hE_0_73_1 hK_0_73 hE_0_160_1 hK_0_160 hE_0_161_1 hE_0_162_1 hK_0_162 hE_0_163_1 hK_0_163 f4 f11 f21 f28; omega) | skip); (try and_intros) <;> first | with_reducible assumption | (clear f13_c2 f13 f29_c2 f29 hE_0_1_1 hK_0_1 hE_0_73_1 hK_0_73 hE_0_160_1 hK_0_160 hE_0_161_1 hE_0_162_1 hK_0_162 hE_0_163_1 hK_0_163 f4 f11 f21 f28; omega)) | omega
set_option maxHeartbeats 4000000 in
theorem vc_Mo_rule_at_f0_65_2 (x1 : Int) (x5 : Int) (x6 : Int) (x11 : Int) (x12 : Int) (x14 : Int) (x15 : Int) (x16 : Int) (x17 : Int) (x18 : Int) (x20 : Int) (x21 : Int) (x27 : Int) (x33 : Int) (styleKind_0 : Int) (styleOne_0 : Int) (fault_0 : Int) (tokenKind_0 : Int → Int) (tokenValue_0 : Int → Int) (tokenPlace_0 : Int → Int) (tokenEnd_0 : Int → Int) (tape_0 : Int → Int) (limit_0 : Int) (cur_0 : Int) (tokens_0 : Int) (opened_0 : Int) (styleKind_1 : Int) (styleOne_1 : Int) (tokenKind_1 : Int → Int) (tokenValue_1 : Int → Int) (tokenPlace_1 : Int → Int) (tokenEnd_1 : Int → Int) (tape_1 : Int → Int) (limit_1 : Int) (cur_1 : Int) (tokens_1 : Int) (opened_1 : Int) (fault_1 : Int) (shades_0 : Int → Int) (shades_1 : Int → Int) (x35 : Int) (gx : Int) (k1 : 0 ≤ x1 ∧ x1 ≤ 2009) (k5 : 0 ≤ x5 ∧ x5 ≤ 2009) (k6 : 0 ≤ x6 ∧ x6 ≤ 2010) (k11 : 1 ≤ x11 ∧ x11 ≤ 1) (k12 : 1 ≤ x12 ∧ x12 ≤ 2009) (k14 : 0 ≤ x14 ∧ x14 ≤ 2009) (k15 : 0 ≤ x15 ∧ x15 ≤ 5) (k16 : 0 ≤ x16 ∧ x16 ≤ 2009) (k17 : 0 ≤ x17 ∧ x17 ≤ 5) (k18 : 0 ≤ x18 ∧ x18 ≤ 13) (k20 : 0 ≤ x20 ∧ x20 ≤ 0) (k21 : 0 ≤ x21 ∧ x21 ≤ 47) (k27 : 0 ≤ x27 ∧ x27 ≤ 1) (k33 : 0 ≤ x33 ∧ x33 ≤ 861) (d0 : x5 + 1 ≤ x12 ∧ x12 ≤ x5 + 1) (g0 : x27 = styleKind_0) (g2 : x21 = styleOne_0) (g3 : x20 = fault_0) (f4 : (styleKind_0 = 0) → (styleOne_0 ≤ 23)) (f5 : 1 * x1 + ((-1) * x16 + 0) ≤ 0) (f6 : (-1) * x6 + ((-1) * x16 + 0) ≤ (-2011)) (f7 : RB2 (styleKind_0) (limit_0) (tokenKind_0) (tokenValue_0) (tokenPlace_0) (tokenEnd_0) (tape_0) (x16) (x17) (x18) (x1)) (f8 : 1 * x1 + ((-1) * x14 + 0) ≤ 0) (f9 : (-1) * x6 + ((-1) * x14 + 0) ≤ (-2011)) (f10 : RB1 (styleKind_0) (limit_0) (tokenKind_0) (tokenValue_0) (tokenPlace_0) (tokenEnd_0) (tape_0) (x14) (x15) (x1)) (f11 : (styleKind_0 = 0) → (styleOne_0 ≤ 23)) (f13 : ((cur_0 + 1) ≤ tokens_0) ∧ ((tokens_0 ≤ 2010) ∧ ((tokenKind_0 ((tokens_0 - 1)) = 0) ∨ (tokenKind_0 ((tokens_0 - 1)) = 4)))) (f14 : 1 * x16 + ((-1) * cur_0 + 0) ≤ 0) (f15 : 1 * opened_0 + 0 ≤ 0) (f16 : (-1) * opened_0 + 0 ≤ 0) (f17 : SSM (fault_0) (cur_0) (styleKind_0) (limit_0) (tokenKind_0) (tokenValue_0) (tokenPlace_0) (tokenEnd_0) (tape_0) (x16) (x17) (x18)) (f19 : 0 ≤ x21) (f20 : x20 = 0) (f21 : (styleKind_1 = 0) → (styleOne_1 ≤ 23)) (f22 : 1 * x1 + ((-1) * x16 + 0) ≤ 0) (f23 : (-1) * x6 + ((-1) * x16 + 0) ≤ (-2011)) (f24 : RB2 (styleKind_1) (limit_1) (tokenKind_1) (tokenValue_1) (tokenPlace_1) (tokenEnd_1) (tape_1) (x16) (x17) (x18) (x1)) (f25 : 1 * x1 + ((-1) * x14 + 0) ≤ 0) (f26 : (-1) * x6 + ((-1) * x14 + 0) ≤ (-2011)) (f27 : RB1 (styleKind_1) (limit_1) (tokenKind_1) (tokenValue_1) (tokenPlace_1) (tokenEnd_1) (tape_1) (x14) (x15) (x1)) (f28 : (styleKind_1 = 0) → (styleOne_1 ≤ 23)) (f29 : ((cur_1 + 1) ≤ tokens_1) ∧ ((tokens_1 ≤ 2010) ∧ ((tokenKind_1 ((tokens_1 - 1)) = 0) ∨ (tokenKind_1 ((tokens_1 - 1)) = 4)))) (f30 : 1 * x16 + ((-1) * cur_1 + 0) ≤ 0) (f31 : 1 * opened_1 + 0 ≤ 0) (f32 : (-1) * opened_1 + 0 ≤ 0) (f33 : SSM (fault_1) (cur_1) (styleKind_1) (limit_1) (tokenKind_1) (tokenValue_1) (tokenPlace_1) (tokenEnd_1) (tape_1) (x16) (x17) (x18)) (f35 : 1 * x1 + ((-1) * x16 + 0) ≤ 0) (f36 : (-1) * x6 + ((-1) * x16 + 0) ≤ (-2011)) (f37 : 1 * x1 + ((-1) * x14 + 0) ≤ 0) (f38 : (-1) * x6 + ((-1) * x14 + 0) ≤ (-2011)) (f40 : 1 * x1 + ((-1) * x14 + 0) ≤ 0) (f41 : (-1) * x6 + ((-1) * x14 + 0) ≤ (-2011)) (f43 : x12 = x5 + x11) (fe_0_8_1 : fault_0 = fault_1) (fe_0_10_1 : limit_0 = limit_1) (fe_0_157_1 : tokens_0 = tokens_1) (fe_0_158_1 : cur_0 = cur_1) (fe_0_159_1 : opened_0 = opened_1) (fe_0_164_1 : styleKind_0 = styleKind_1) (fe_0_165_1 : styleOne_0 = styleOne_1) (hE_0_1_1 : ∀ j : Int, tape_0 j = tape_1 j) (hK_0_1 : ∀ j : Int, 0 ≤ j → j < 2000 → (-128) ≤ tape_0 j ∧ tape_0 j ≤ 127) (hE_0_73_1 : ∀ j : Int, 0 ≤ j → (j = x33 → shades_0 j = x35) ∧ (j ≠ x33 → shades_0 j = shades_1 j)) (hK_0_73 : ∀ j : Int, 0 ≤ j → j < 864 → 0 ≤ shades_0 j ∧ shades_0 j ≤ 255) (hE_0_160_1 : ∀ j : Int, tokenKind_0 j = tokenKind_1 j) (hK_0_160 : ∀ j : Int, 0 ≤ j → j < 2010 → 0 ≤ tokenKind_0 j ∧ tokenKind_0 j ≤ 4) (hE_0_161_1 : ∀ j : Int, tokenValue_0 j = tokenValue_1 j) (hE_0_162_1 : ∀ j : Int, tokenPlace_0 j = tokenPlace_1 j) (hK_0_162 : ∀ j : Int, 0 ≤ j → j < 2010 → 0 ≤ tokenPlace_0 j ∧ tokenPlace_0 j ≤ 2000) (hE_0_163_1 : ∀ j : Int, tokenEnd_0 j = tokenEnd_1 j) (hK_0_163 : ∀ j : Int, 0 ≤ j → j < 2010 → 0 ≤ tokenEnd_0 j ∧ tokenEnd_0 j ≤ 2000) (kz_0_8 : 0 ≤ fault_0 ∧ fault_0 ≤ 5) (kz_0_10 : 0 ≤ limit_0 ∧ limit_0 ≤ 2000) (kz_0_157 : 0 ≤ tokens_0 ∧ tokens_0 ≤ 2010) (kz_0_158 : 0 ≤ cur_0 ∧ cur_0 ≤ 2009) (kz_0_159 : 0 ≤ opened_0 ∧ opened_0 ≤ 13) (kz_0_164 : 0 ≤ styleKind_0 ∧ styleKind_0 ≤ 1) (kz_0_165 : (-1) ≤ styleOne_0 ∧ styleOne_0 ≤ 47) (ex2 : gx = 0 + (1 * x6 + 0)) (ex3 : 0 ≤ gx ∧ gx ≤ 2010) : (styleKind_0 = 0) → (styleOne_0 ≤ 23) := by
  subst fe_0_8_1
  subst fe_0_10_1
  subst fe_0_157_1
  subst fe_0_158_1
  subst fe_0_159_1
  subst fe_0_164_1
  subst fe_0_165_1
  have e_hE_0_1_1 := funext hE_0_1_1; subst e_hE_0_1_1
  have e_hE_0_160_1 := funext hE_0_160_1; subst e_hE_0_160_1
  have e_hE_0_161_1 := funext hE_0_161_1; subst e_hE_0_161_1
  have e_hE_0_162_1 := funext hE_0_162_1; subst e_hE_0_162_1
  have e_hE_0_163_1 := funext hE_0_163_1; subst e_hE_0_163_1
  first | with_reducible assumption | ((have f13_c0 := f13.1); (have f13_c1 := f13.2.1); (have f13_c2 := f13.2.2); (have f29_c0 := f29.1); (have f29_c1 := f29.2.1); (have f29_c2 := f29.2.2); (try and_intros) <;> first | with_reducible assumption | (clear f13_c2 f13 f29_c2 f29 hE_0_1_1 hK_0_1 hE_0_73_1 hK_0_73 hE_0_160_1 hK_0_160 hE_0_161_1 hE_0_162_1 hK_0_162 hE_0_163_1 hK_0_163 f4 f11 f21 f28; omega)) | ((have f13_c0 := f13.1); (have f13_c1 := f13.2.1); (have f13_c2 := f13.2.2); (have f29_c0 := f29.1); (have f29_c1 := f29.2.1); (have f29_c2 := f29.2.2); (first | have f4_b := f4 (by clear f13_c2 f13 f29_c2 f29 hE_0_1_1 hK_0_1 hE_0_73_1 hK_0_73 hE_0_160_1 hK_0_160 hE_0_161_1 hE_0_162_1 hK_0_162 hE_0_163_1 hK_0_163 f4 f11 f21 f28; omega) | skip); (first | have f11_b := f11 (by clear f13_c2 f13 f29_c2 f29 hE_0_1_1 hK_0_1 hE_0_73_1 hK_0_73 hE_0_160_1 hK_0_160 hE_0_161_1 hE_0_162_1 hK_0_162 hE_0_163_1 hK_0_163 f4 f11 f21 f28; omega) | skip); (first | have f21_b := f21 (by clear f13_c2 f13 f29_c2 f29 hE_0_1_1 hK_0_1 hE_0_73_1 hK_0_73 hE_0_160_1 hK_0_160 hE_0_161_1 hE_0_162_1 hK_0_162 hE_0_163_1 hK_0_163 f4 f11 f21 f28; omega) | skip); (first | have f28_b := f28 (by clear f13_c2 f13 f29_c2 f29 hE_0_1_1 hK_0_1 hE_0_73_1 hK_0_73 hE_0_160_1 hK_0_160 hE_0_161_1 hE_0_162_1 hK_0_162 hE_0_163_1 hK_0_163 f4 f11 f21 f28; omega) | skip); (first | have f4_d := f4 (by with_reducible assumption) | skip); (first | have f11_d := f11 (by with_reducible assumption) | skip); (first | have f21_d := f21 (by with_reducible assumption) | skip); (first | have f28_d := f28 (by with_reducible assumption) | skip); (try and_intros) <;> first | with_reducible assumption | (clear f13_c2 f13 f29_c2 f29 hE_0_1_1 hK_0_1 hE_0_73_1 hK_0_73 hE_0_160_1 hK_0_160 hE_0_161_1 hE_0_162_1 hK_0_162 hE_0_163_1 hK_0_163 f4 f11 f21 f28; omega)) | ((have f13_c0 := f13.1); (have f13_c1 := f13.2.1); (have f13_c2 := f13.2.2); (have f29_c0 := f29.1); (have f29_c1 := f29.2.1); (have f29_c2 := f29.2.2); (first | have f4_b := f4 (by clear f13_c2 f13 f29_c2 f29 hE_0_1_1 hK_0_1 hE_0_73_1 hK_0_73 hE_0_160_1 hK_0_160 hE_0_161_1 hE_0_162_1 hK_0_162 hE_0_163_1 hK_0_163 f4 f11 f21 f28; omega) | skip); (first | have f11_b := f11 (by clear f13_c2 f13 f29_c2 f29 hE_0_1_1 hK_0_1 hE_0_73_1 hK_0_73 hE_0_160_1 hK_0_160 hE_0_161_1 hE_0_162_1 hK_0_162 hE_0_163_1 hK_0_163 f4 f11 f21 f28; omega) | skip); (first | have f21_b := f21 (by clear f13_c2 f13 f29_c2 f29 hE_0_1_1 hK_0_1 hE_0_73_1 hK_0_73 hE_0_160_1 hK_0_160 hE_0_161_1 hE_0_162_1 hK_0_162 hE_0_163_1 hK_0_163 f4 f11 f21 f28; omega) | skip); (first | have f28_b := f28 (by clear f13_c2 f13 f29_c2 f29 hE_0_1_1 hK_0_1 hE_0_73_1 hK_0_73 hE_0_160_1 hK_0_160 hE_0_161_1 hE_0_162_1 hK_0_162 hE_0_163_1 hK_0_163 f4 f11 f21 f28; omega) | skip); (first | have f4_d := f4 (by with_reducible assumption) | skip); (first | have f11_d := f11 (by with_reducible assumption) | skip); (first | have f21_d := f21 (by with_reducible assumption) | skip); (first | have f28_d := f28 (by with_reducible assumption) | skip); (first | have f13_q := tk_nx0 f13 (by clear f13_c2 f13 f29_c2 f29 hE_0_1_1 hK_0_1 hE_0_73_1 hK_0_73 hE_0_160_1 hK_0_160 hE_0_161_1 hE_0_162_1 hK_0_162 hE_0_163_1 hK_0_163 f4 f11 f21 f28; omega) | skip); (first | have f29_q := tk_nx0 f29 (by clear f13_c2 f13 f29_c2 f29 hE_0_1_1 hK_0_1 hE_0_73_1 hK_0_73 hE_0_160_1 hK_0_160 hE_0_161_1 hE_0_162_1 hK_0_162 hE_0_163_1 hK_0_163 f4 f11 f21 f28; omega) | skip); (try and_intros) <;> first | with_reducible assumption | (clear f13_c2 f13 f29_c2 f29 hE_0_1_1 hK_0_1 hE_0_73_1 hK_0_73 hE_0_160_1 hK_0_160 hE_0_161_1 hE_0_162_1 hK_0_162 hE_0_163_1 hK_0_163 f4 f11 f21 f28; omega)) | (intro hG; (first | have f4_g := f4 hG | skip); (first | have f11_g := f11 hG | skip); (first | have f21_g := f21 hG | skip); (first | have f28_g := f28 hG | skip); (have f13_c0 := f13.1); (have f13_c1 := f13.2.1); (have f13_c2 := f13.2.2); (have f29_c0 := f29.1); (have f29_c1 := f29.2.1); (have f29_c2 := f29.2.2); (first | have f4_b := f4 (by clear f13_c2 f13 f29_c2 f29 hE_0_1_1 hK_0_1 hE_0_73_1 hK_0_73 hE_0_160_1 hK_0_160 hE_0_161_1 hE_0_162_1 hK_0_162 hE_0_163_1 hK_0_163 f4 f11 f21 f28; omega) | skip); (first | have f11_b := f11 (by clear f13_c2 f13 f29_c2 f29 hE_0_1_1 hK_0_1 hE_0_73_1 hK_0_73 hE_0_160_1 hK_0_160 hE_0_161_1 hE_0_162_1 hK_0_162 hE_0_163_1 hK_0_163 f4 f11 f21 f28; omega) | skip); (first | have f21_b := f21 (by clear f13_c2 f13 f29_c2 f29 hE_0_1_1 hK_0_1 hE_0_73_1 hK_0_73 hE_0_160_1 hK_0_160 hE_0_161_1 hE_0_162_1 hK_0_162 hE_0_163_1 hK_0_163 f4 f11 f21 f28; omega) | skip); (first | have f28_b := f28 (by clear f13_c2 f13 f29_c2 f29 hE_0_1_1 hK_0_1 hE_0_73_1 hK_0_73 hE_0_160_1 hK_0_160 hE_0_161_1 hE_0_162_1 hK_0_162 hE_0_163_1 hK_0_163 f4 f11 f21 f28; omega) | skip); (try and_intros) <;> first | with_reducible assumption | (clear f13_c2 f13 f29_c2 f29 hE_0_1_1 hK_0_1 hE_0_73_1 hK_0_73 hE_0_160_1 hK_0_160 hE_0_161_1 hE_0_162_1 hK_0_162 hE_0_163_1 hK_0_163 f4 f11 f21 f28 hG; omega)) | omega
set_option maxHeartbeats 4000000 in
theorem vc_Mo_rule_at_f0_65_3 (x1 : Int) (x5 : Int) (x6 : Int) (x11 : Int) (x12 : Int) (x14 : Int) (x15 : Int) (x16 : Int) (x17 : Int) (x18 : Int) (x20 : Int) (x21 : Int) (x27 : Int) (x33 : Int) (styleKind_0 : Int) (styleOne_0 : Int) (fault_0 : Int) (tokenKind_0 : Int → Int) (tokenValue_0 : Int → Int) (tokenPlace_0 : Int → Int) (tokenEnd_0 : Int → Int) (tape_0 : Int → Int) (limit_0 : Int) (cur_0 : Int) (tokens_0 : Int) (opened_0 : Int) (styleKind_1 : Int) (styleOne_1 : Int) (tokenKind_1 : Int → Int) (tokenValue_1 : Int → Int) (tokenPlace_1 : Int → Int) (tokenEnd_1 : Int → Int) (tape_1 : Int → Int) (limit_1 : Int) (cur_1 : Int) (tokens_1 : Int) (opened_1 : Int) (fault_1 : Int) (shades_0 : Int → Int) (shades_1 : Int → Int) (x35 : Int) (gx : Int) (k1 : 0 ≤ x1 ∧ x1 ≤ 2009) (k5 : 0 ≤ x5 ∧ x5 ≤ 2009) (k6 : 0 ≤ x6 ∧ x6 ≤ 2010) (k11 : 1 ≤ x11 ∧ x11 ≤ 1) (k12 : 1 ≤ x12 ∧ x12 ≤ 2009) (k14 : 0 ≤ x14 ∧ x14 ≤ 2009) (k15 : 0 ≤ x15 ∧ x15 ≤ 5) (k16 : 0 ≤ x16 ∧ x16 ≤ 2009) (k17 : 0 ≤ x17 ∧ x17 ≤ 5) (k18 : 0 ≤ x18 ∧ x18 ≤ 13) (k20 : 0 ≤ x20 ∧ x20 ≤ 0) (k21 : 0 ≤ x21 ∧ x21 ≤ 47) (k27 : 0 ≤ x27 ∧ x27 ≤ 1) (k33 : 0 ≤ x33 ∧ x33 ≤ 861) (d0 : x5 + 1 ≤ x12 ∧ x12 ≤ x5 + 1) (g0 : x27 = styleKind_0) (g2 : x21 = styleOne_0) (g3 : x20 = fault_0) (f4 : (styleKind_0 = 0) → (styleOne_0 ≤ 23)) (f5 : 1 * x1 + ((-1) * x16 + 0) ≤ 0) (f6 : (-1) * x6 + ((-1) * x16 + 0) ≤ (-2011)) (f7 : RB2 (styleKind_0) (limit_0) (tokenKind_0) (tokenValue_0) (tokenPlace_0) (tokenEnd_0) (tape_0) (x16) (x17) (x18) (x1)) (f8 : 1 * x1 + ((-1) * x14 + 0) ≤ 0) (f9 : (-1) * x6 + ((-1) * x14 + 0) ≤ (-2011)) (f10 : RB1 (styleKind_0) (limit_0) (tokenKind_0) (tokenValue_0) (tokenPlace_0) (tokenEnd_0) (tape_0) (x14) (x15) (x1)) (f11 : (styleKind_0 = 0) → (styleOne_0 ≤ 23)) (f13 : ((cur_0 + 1) ≤ tokens_0) ∧ ((tokens_0 ≤ 2010) ∧ ((tokenKind_0 ((tokens_0 - 1)) = 0) ∨ (tokenKind_0 ((tokens_0 - 1)) = 4)))) (f14 : 1 * x16 + ((-1) * cur_0 + 0) ≤ 0) (f15 : 1 * opened_0 + 0 ≤ 0) (f16 : (-1) * opened_0 + 0 ≤ 0) (f17 : SSM (fault_0) (cur_0) (styleKind_0) (limit_0) (tokenKind_0) (tokenValue_0) (tokenPlace_0) (tokenEnd_0) (tape_0) (x16) (x17) (x18)) (f19 : 0 ≤ x21) (f20 : x20 = 0) (f21 : (styleKind_1 = 0) → (styleOne_1 ≤ 23)) (f22 : 1 * x1 + ((-1) * x16 + 0) ≤ 0) (f23 : (-1) * x6 + ((-1) * x16 + 0) ≤ (-2011)) (f24 : RB2 (styleKind_1) (limit_1) (tokenKind_1) (tokenValue_1) (tokenPlace_1) (tokenEnd_1) (tape_1) (x16) (x17) (x18) (x1)) (f25 : 1 * x1 + ((-1) * x14 + 0) ≤ 0) (f26 : (-1) * x6 + ((-1) * x14 + 0) ≤ (-2011)) (f27 : RB1 (styleKind_1) (limit_1) (tokenKind_1) (tokenValue_1) (tokenPlace_1) (tokenEnd_1) (tape_1) (x14) (x15) (x1)) (f28 : (styleKind_1 = 0) → (styleOne_1 ≤ 23)) (f29 : ((cur_1 + 1) ≤ tokens_1) ∧ ((tokens_1 ≤ 2010) ∧ ((tokenKind_1 ((tokens_1 - 1)) = 0) ∨ (tokenKind_1 ((tokens_1 - 1)) = 4)))) (f30 : 1 * x16 + ((-1) * cur_1 + 0) ≤ 0) (f31 : 1 * opened_1 + 0 ≤ 0) (f32 : (-1) * opened_1 + 0 ≤ 0) (f33 : SSM (fault_1) (cur_1) (styleKind_1) (limit_1) (tokenKind_1) (tokenValue_1) (tokenPlace_1) (tokenEnd_1) (tape_1) (x16) (x17) (x18)) (f35 : 1 * x1 + ((-1) * x16 + 0) ≤ 0) (f36 : (-1) * x6 + ((-1) * x16 + 0) ≤ (-2011)) (f37 : 1 * x1 + ((-1) * x14 + 0) ≤ 0) (f38 : (-1) * x6 + ((-1) * x14 + 0) ≤ (-2011)) (f40 : 1 * x1 + ((-1) * x14 + 0) ≤ 0) (f41 : (-1) * x6 + ((-1) * x14 + 0) ≤ (-2011)) (f43 : x12 = x5 + x11) (fe_0_8_1 : fault_0 = fault_1) (fe_0_10_1 : limit_0 = limit_1) (fe_0_157_1 : tokens_0 = tokens_1) (fe_0_158_1 : cur_0 = cur_1) (fe_0_159_1 : opened_0 = opened_1) (fe_0_164_1 : styleKind_0 = styleKind_1) (fe_0_165_1 : styleOne_0 = styleOne_1) (hE_0_1_1 : ∀ j : Int, tape_0 j = tape_1 j) (hK_0_1 : ∀ j : Int, 0 ≤ j → j < 2000 → (-128) ≤ tape_0 j ∧ tape_0 j ≤ 127) (hE_0_73_1 : ∀ j : Int, 0 ≤ j → (j = x33 → shades_0 j = x35) ∧ (j ≠ x33 → shades_0 j = shades_1 j)) (hK_0_73 : ∀ j : Int, 0 ≤ j → j < 864 → 0 ≤ shades_0 j ∧ shades_0 j ≤ 255) (hE_0_160_1 : ∀ j : Int, tokenKind_0 j = tokenKind_1 j) (hK_0_160 : ∀ j : Int, 0 ≤ j → j < 2010 → 0 ≤ tokenKind_0 j ∧ tokenKind_0 j ≤ 4) (hE_0_161_1 : ∀ j : Int, tokenValue_0 j = tokenValue_1 j) (hE_0_162_1 : ∀ j : Int, tokenPlace_0 j = tokenPlace_1 j) (hK_0_162 : ∀ j : Int, 0 ≤ j → j < 2010 → 0 ≤ tokenPlace_0 j ∧ tokenPlace_0 j ≤ 2000) (hE_0_163_1 : ∀ j : Int, tokenEnd_0 j = tokenEnd_1 j) (hK_0_163 : ∀ j : Int, 0 ≤ j → j < 2010 → 0 ≤ tokenEnd_0 j ∧ tokenEnd_0 j ≤ 2000) (kz_0_8 : 0 ≤ fault_0 ∧ fault_0 ≤ 5) (kz_0_10 : 0 ≤ limit_0 ∧ limit_0 ≤ 2000) (kz_0_157 : 0 ≤ tokens_0 ∧ tokens_0 ≤ 2010) (kz_0_158 : 0 ≤ cur_0 ∧ cur_0 ≤ 2009) (kz_0_159 : 0 ≤ opened_0 ∧ opened_0 ≤ 13) (kz_0_164 : 0 ≤ styleKind_0 ∧ styleKind_0 ≤ 1) (kz_0_165 : (-1) ≤ styleOne_0 ∧ styleOne_0 ≤ 47) (ex2 : gx = 0 + (1 * x6 + 0)) (ex3 : 0 ≤ gx ∧ gx ≤ 2010) : 1 * opened_0 + 0 ≤ 0 := by
  subst fe_0_8_1
  subst fe_0_10_1
  subst fe_0_157_1
  subst fe_0_158_1
  subst fe_0_159_1
  subst fe_0_164_1
  subst fe_0_165_1
  have e_hE_0_1_1 := funext hE_0_1_1; subst e_hE_0_1_1
  have e_hE_0_160_1 := funext hE_0_160_1; subst e_hE_0_160_1
  have e_hE_0_161_1 := funext hE_0_161_1; subst e_hE_0_161_1
  have e_hE_0_162_1 := funext hE_0_162_1; subst e_hE_0_162_1
  have e_hE_0_163_1 := funext hE_0_163_1; subst e_hE_0_163_1
  first | with_reducible assumption | ((have f13_c0 := f13.1); (have f13_c1 := f13.2.1); (have f13_c2 := f13.2.2); (have f29_c0 := f29.1); (have f29_c1 := f29.2.1); (have f29_c2 := f29.2.2); (try and_intros) <;> first | with_reducible assumption | (clear f13_c2 f13 f29_c2 f29 hE_0_1_1 hK_0_1 hE_0_73_1 hK_0_73 hE_0_160_1 hK_0_160 hE_0_161_1 hE_0_162_1 hK_0_162 hE_0_163_1 hK_0_163 f4 f11 f21 f28; omega)) | ((have f13_c0 := f13.1); (have f13_c1 := f13.2.1); (have f13_c2 := f13.2.2); (have f29_c0 := f29.1); (have f29_c1 := f29.2.1); (have f29_c2 := f29.2.2); (first | have f4_b := f4 (by clear f13_c2 f13 f29_c2 f29 hE_0_1_1 hK_0_1 hE_0_73_1 hK_0_73 hE_0_160_1 hK_0_160 hE_0_161_1 hE_0_162_1 hK_0_162 hE_0_163_1 hK_0_163 f4 f11 f21 f28; omega) | skip); (first | have f11_b := f11 (by clear f13_c2 f13 f29_c2 f29 hE_0_1_1 hK_0_1 hE_0_73_1 hK_0_73 hE_0_160_1 hK_0_160 hE_0_161_1 hE_0_162_1 hK_0_162 hE_0_163_1 hK_0_163 f4 f11 f21 f28; omega) | skip); (first | have f21_b := f21 (by clear f13_c2 f13 f29_c2 f29 hE_0_1_1 hK_0_1 hE_0_73_1 hK_0_73 hE_0_160_1 hK_0_160 hE_0_161_1 hE_0_162_1 hK_0_162 hE_0_163_1 hK_0_163 f4 f11 f21 f28; omega) | skip); (first | have f28_b := f28 (by clear f13_c2 f13 f29_c2 f29 hE_0_1_1 hK_0_1 hE_0_73_1 hK_0_73 hE_0_160_1 hK_0_160 hE_0_161_1 hE_0_162_1 hK_0_162 hE_0_163_1 hK_0_163 f4 f11 f21 f28; omega) | skip); (first | have f4_d := f4 (by with_reducible assumption) | skip); (first | have f11_d := f11 (by with_reducible assumption) | skip); (first | have f21_d := f21 (by with_reducible assumption) | skip); (first | have f28_d := f28 (by with_reducible assumption) | skip); (try and_intros) <;> first | with_reducible assumption | (clear f13_c2 f13 f29_c2 f29 hE_0_1_1 hK_0_1 hE_0_73_1 hK_0_73 hE_0_160_1 hK_0_160 hE_0_161_1 hE_0_162_1 hK_0_162 hE_0_163_1 hK_0_163 f4 f11 f21 f28; omega)) | ((have f13_c0 := f13.1); (have f13_c1 := f13.2.1); (have f13_c2 := f13.2.2); (have f29_c0 := f29.1); (have f29_c1 := f29.2.1); (have f29_c2 := f29.2.2); (first | have f4_b := f4 (by clear f13_c2 f13 f29_c2 f29 hE_0_1_1 hK_0_1 hE_0_73_1 hK_0_73 hE_0_160_1 hK_0_160 hE_0_161_1 hE_0_162_1 hK_0_162 hE_0_163_1 hK_0_163 f4 f11 f21 f28; omega) | skip); (first | have f11_b := f11 (by clear f13_c2 f13 f29_c2 f29 hE_0_1_1 hK_0_1 hE_0_73_1 hK_0_73 hE_0_160_1 hK_0_160 hE_0_161_1 hE_0_162_1 hK_0_162 hE_0_163_1 hK_0_163 f4 f11 f21 f28; omega) | skip); (first | have f21_b := f21 (by clear f13_c2 f13 f29_c2 f29 hE_0_1_1 hK_0_1 hE_0_73_1 hK_0_73 hE_0_160_1 hK_0_160 hE_0_161_1 hE_0_162_1 hK_0_162 hE_0_163_1 hK_0_163 f4 f11 f21 f28; omega) | skip); (first | have f28_b := f28 (by clear f13_c2 f13 f29_c2 f29 hE_0_1_1 hK_0_1 hE_0_73_1 hK_0_73 hE_0_160_1 hK_0_160 hE_0_161_1 hE_0_162_1 hK_0_162 hE_0_163_1 hK_0_163 f4 f11 f21 f28; omega) | skip); (first | have f4_d := f4 (by with_reducible assumption) | skip); (first | have f11_d := f11 (by with_reducible assumption) | skip); (first | have f21_d := f21 (by with_reducible assumption) | skip); (first | have f28_d := f28 (by with_reducible assumption) | skip); (first | have f13_q := tk_nx0 f13 (by clear f13_c2 f13 f29_c2 f29 hE_0_1_1 hK_0_1 hE_0_73_1 hK_0_73 hE_0_160_1 hK_0_160 hE_0_161_1 hE_0_162_1 hK_0_162 hE_0_163_1 hK_0_163 f4 f11 f21 f28; omega) | skip); (first | have f29_q := tk_nx0 f29 (by clear f13_c2 f13 f29_c2 f29 hE_0_1_1 hK_0_1 hE_0_73_1 hK_0_73 hE_0_160_1 hK_0_160 hE_0_161_1 hE_0_162_1 hK_0_162 hE_0_163_1 hK_0_163 f4 f11 f21 f28; omega) | skip); (try and_intros) <;> first | with_reducible assumption | (clear f13_c2 f13 f29_c2 f29 hE_0_1_1 hK_0_1 hE_0_73_1 hK_0_73 hE_0_160_1 hK_0_160 hE_0_161_1 hE_0_162_1 hK_0_162 hE_0_163_1 hK_0_163 f4 f11 f21 f28; omega)) | omega
set_option maxHeartbeats 4000000 in
theorem vc_Mo_rule_at_f0_65_4 (x1 : Int) (x5 : Int) (x6 : Int) (x11 : Int) (x12 : Int) (x14 : Int) (x15 : Int) (x16 : Int) (x17 : Int) (x18 : Int) (x20 : Int) (x21 : Int) (x27 : Int) (x33 : Int) (styleKind_0 : Int) (styleOne_0 : Int) (fault_0 : Int) (tokenKind_0 : Int → Int) (tokenValue_0 : Int → Int) (tokenPlace_0 : Int → Int) (tokenEnd_0 : Int → Int) (tape_0 : Int → Int) (limit_0 : Int) (cur_0 : Int) (tokens_0 : Int) (opened_0 : Int) (styleKind_1 : Int) (styleOne_1 : Int) (tokenKind_1 : Int → Int) (tokenValue_1 : Int → Int) (tokenPlace_1 : Int → Int) (tokenEnd_1 : Int → Int) (tape_1 : Int → Int) (limit_1 : Int) (cur_1 : Int) (tokens_1 : Int) (opened_1 : Int) (fault_1 : Int) (shades_0 : Int → Int) (shades_1 : Int → Int) (x35 : Int) (gx : Int) (k1 : 0 ≤ x1 ∧ x1 ≤ 2009) (k5 : 0 ≤ x5 ∧ x5 ≤ 2009) (k6 : 0 ≤ x6 ∧ x6 ≤ 2010) (k11 : 1 ≤ x11 ∧ x11 ≤ 1) (k12 : 1 ≤ x12 ∧ x12 ≤ 2009) (k14 : 0 ≤ x14 ∧ x14 ≤ 2009) (k15 : 0 ≤ x15 ∧ x15 ≤ 5) (k16 : 0 ≤ x16 ∧ x16 ≤ 2009) (k17 : 0 ≤ x17 ∧ x17 ≤ 5) (k18 : 0 ≤ x18 ∧ x18 ≤ 13) (k20 : 0 ≤ x20 ∧ x20 ≤ 0) (k21 : 0 ≤ x21 ∧ x21 ≤ 47) (k27 : 0 ≤ x27 ∧ x27 ≤ 1) (k33 : 0 ≤ x33 ∧ x33 ≤ 861) (d0 : x5 + 1 ≤ x12 ∧ x12 ≤ x5 + 1) (g0 : x27 = styleKind_0) (g2 : x21 = styleOne_0) (g3 : x20 = fault_0) (f4 : (styleKind_0 = 0) → (styleOne_0 ≤ 23)) (f5 : 1 * x1 + ((-1) * x16 + 0) ≤ 0) (f6 : (-1) * x6 + ((-1) * x16 + 0) ≤ (-2011)) (f7 : RB2 (styleKind_0) (limit_0) (tokenKind_0) (tokenValue_0) (tokenPlace_0) (tokenEnd_0) (tape_0) (x16) (x17) (x18) (x1)) (f8 : 1 * x1 + ((-1) * x14 + 0) ≤ 0) (f9 : (-1) * x6 + ((-1) * x14 + 0) ≤ (-2011)) (f10 : RB1 (styleKind_0) (limit_0) (tokenKind_0) (tokenValue_0) (tokenPlace_0) (tokenEnd_0) (tape_0) (x14) (x15) (x1)) (f11 : (styleKind_0 = 0) → (styleOne_0 ≤ 23)) (f13 : ((cur_0 + 1) ≤ tokens_0) ∧ ((tokens_0 ≤ 2010) ∧ ((tokenKind_0 ((tokens_0 - 1)) = 0) ∨ (tokenKind_0 ((tokens_0 - 1)) = 4)))) (f14 : 1 * x16 + ((-1) * cur_0 + 0) ≤ 0) (f15 : 1 * opened_0 + 0 ≤ 0) (f16 : (-1) * opened_0 + 0 ≤ 0) (f17 : SSM (fault_0) (cur_0) (styleKind_0) (limit_0) (tokenKind_0) (tokenValue_0) (tokenPlace_0) (tokenEnd_0) (tape_0) (x16) (x17) (x18)) (f19 : 0 ≤ x21) (f20 : x20 = 0) (f21 : (styleKind_1 = 0) → (styleOne_1 ≤ 23)) (f22 : 1 * x1 + ((-1) * x16 + 0) ≤ 0) (f23 : (-1) * x6 + ((-1) * x16 + 0) ≤ (-2011)) (f24 : RB2 (styleKind_1) (limit_1) (tokenKind_1) (tokenValue_1) (tokenPlace_1) (tokenEnd_1) (tape_1) (x16) (x17) (x18) (x1)) (f25 : 1 * x1 + ((-1) * x14 + 0) ≤ 0) (f26 : (-1) * x6 + ((-1) * x14 + 0) ≤ (-2011)) (f27 : RB1 (styleKind_1) (limit_1) (tokenKind_1) (tokenValue_1) (tokenPlace_1) (tokenEnd_1) (tape_1) (x14) (x15) (x1)) (f28 : (styleKind_1 = 0) → (styleOne_1 ≤ 23)) (f29 : ((cur_1 + 1) ≤ tokens_1) ∧ ((tokens_1 ≤ 2010) ∧ ((tokenKind_1 ((tokens_1 - 1)) = 0) ∨ (tokenKind_1 ((tokens_1 - 1)) = 4)))) (f30 : 1 * x16 + ((-1) * cur_1 + 0) ≤ 0) (f31 : 1 * opened_1 + 0 ≤ 0) (f32 : (-1) * opened_1 + 0 ≤ 0) (f33 : SSM (fault_1) (cur_1) (styleKind_1) (limit_1) (tokenKind_1) (tokenValue_1) (tokenPlace_1) (tokenEnd_1) (tape_1) (x16) (x17) (x18)) (f35 : 1 * x1 + ((-1) * x16 + 0) ≤ 0) (f36 : (-1) * x6 + ((-1) * x16 + 0) ≤ (-2011)) (f37 : 1 * x1 + ((-1) * x14 + 0) ≤ 0) (f38 : (-1) * x6 + ((-1) * x14 + 0) ≤ (-2011)) (f40 : 1 * x1 + ((-1) * x14 + 0) ≤ 0) (f41 : (-1) * x6 + ((-1) * x14 + 0) ≤ (-2011)) (f43 : x12 = x5 + x11) (fe_0_8_1 : fault_0 = fault_1) (fe_0_10_1 : limit_0 = limit_1) (fe_0_157_1 : tokens_0 = tokens_1) (fe_0_158_1 : cur_0 = cur_1) (fe_0_159_1 : opened_0 = opened_1) (fe_0_164_1 : styleKind_0 = styleKind_1) (fe_0_165_1 : styleOne_0 = styleOne_1) (hE_0_1_1 : ∀ j : Int, tape_0 j = tape_1 j) (hK_0_1 : ∀ j : Int, 0 ≤ j → j < 2000 → (-128) ≤ tape_0 j ∧ tape_0 j ≤ 127) (hE_0_73_1 : ∀ j : Int, 0 ≤ j → (j = x33 → shades_0 j = x35) ∧ (j ≠ x33 → shades_0 j = shades_1 j)) (hK_0_73 : ∀ j : Int, 0 ≤ j → j < 864 → 0 ≤ shades_0 j ∧ shades_0 j ≤ 255) (hE_0_160_1 : ∀ j : Int, tokenKind_0 j = tokenKind_1 j) (hK_0_160 : ∀ j : Int, 0 ≤ j → j < 2010 → 0 ≤ tokenKind_0 j ∧ tokenKind_0 j ≤ 4) (hE_0_161_1 : ∀ j : Int, tokenValue_0 j = tokenValue_1 j) (hE_0_162_1 : ∀ j : Int, tokenPlace_0 j = tokenPlace_1 j) (hK_0_162 : ∀ j : Int, 0 ≤ j → j < 2010 → 0 ≤ tokenPlace_0 j ∧ tokenPlace_0 j ≤ 2000) (hE_0_163_1 : ∀ j : Int, tokenEnd_0 j = tokenEnd_1 j) (hK_0_163 : ∀ j : Int, 0 ≤ j → j < 2010 → 0 ≤ tokenEnd_0 j ∧ tokenEnd_0 j ≤ 2000) (kz_0_8 : 0 ≤ fault_0 ∧ fault_0 ≤ 5) (kz_0_10 : 0 ≤ limit_0 ∧ limit_0 ≤ 2000) (kz_0_157 : 0 ≤ tokens_0 ∧ tokens_0 ≤ 2010) (kz_0_158 : 0 ≤ cur_0 ∧ cur_0 ≤ 2009) (kz_0_159 : 0 ≤ opened_0 ∧ opened_0 ≤ 13) (kz_0_164 : 0 ≤ styleKind_0 ∧ styleKind_0 ≤ 1) (kz_0_165 : (-1) ≤ styleOne_0 ∧ styleOne_0 ≤ 47) (ex2 : gx = 0 + (1 * x6 + 0)) (ex3 : 0 ≤ gx ∧ gx ≤ 2010) : (-1) * opened_0 + 0 ≤ 0 := by
  subst fe_0_8_1
  subst fe_0_10_1
  subst fe_0_157_1
  subst fe_0_158_1
  subst fe_0_159_1
  subst fe_0_164_1
  subst fe_0_165_1
  have e_hE_0_1_1 := funext hE_0_1_1; subst e_hE_0_1_1
  have e_hE_0_160_1 := funext hE_0_160_1; subst e_hE_0_160_1
  have e_hE_0_161_1 := funext hE_0_161_1; subst e_hE_0_161_1
  have e_hE_0_162_1 := funext hE_0_162_1; subst e_hE_0_162_1
  have e_hE_0_163_1 := funext hE_0_163_1; subst e_hE_0_163_1
  first | with_reducible assumption | ((have f13_c0 := f13.1); (have f13_c1 := f13.2.1); (have f13_c2 := f13.2.2); (have f29_c0 := f29.1); (have f29_c1 := f29.2.1); (have f29_c2 := f29.2.2); (try and_intros) <;> first | with_reducible assumption | (clear f13_c2 f13 f29_c2 f29 hE_0_1_1 hK_0_1 hE_0_73_1 hK_0_73 hE_0_160_1 hK_0_160 hE_0_161_1 hE_0_162_1 hK_0_162 hE_0_163_1 hK_0_163 f4 f11 f21 f28; omega)) | ((have f13_c0 := f13.1); (have f13_c1 := f13.2.1); (have f13_c2 := f13.2.2); (have f29_c0 := f29.1); (have f29_c1 := f29.2.1); (have f29_c2 := f29.2.2); (first | have f4_b := f4 (by clear f13_c2 f13 f29_c2 f29 hE_0_1_1 hK_0_1 hE_0_73_1 hK_0_73 hE_0_160_1 hK_0_160 hE_0_161_1 hE_0_162_1 hK_0_162 hE_0_163_1 hK_0_163 f4 f11 f21 f28; omega) | skip); (first | have f11_b := f11 (by clear f13_c2 f13 f29_c2 f29 hE_0_1_1 hK_0_1 hE_0_73_1 hK_0_73 hE_0_160_1 hK_0_160 hE_0_161_1 hE_0_162_1 hK_0_162 hE_0_163_1 hK_0_163 f4 f11 f21 f28; omega) | skip); (first | have f21_b := f21 (by clear f13_c2 f13 f29_c2 f29 hE_0_1_1 hK_0_1 hE_0_73_1 hK_0_73 hE_0_160_1 hK_0_160 hE_0_161_1 hE_0_162_1 hK_0_162 hE_0_163_1 hK_0_163 f4 f11 f21 f28; omega) | skip); (first | have f28_b := f28 (by clear f13_c2 f13 f29_c2 f29 hE_0_1_1 hK_0_1 hE_0_73_1 hK_0_73 hE_0_160_1 hK_0_160 hE_0_161_1 hE_0_162_1 hK_0_162 hE_0_163_1 hK_0_163 f4 f11 f21 f28; omega) | skip); (first | have f4_d := f4 (by with_reducible assumption) | skip); (first | have f11_d := f11 (by with_reducible assumption) | skip); (first | have f21_d := f21 (by with_reducible assumption) | skip); (first | have f28_d := f28 (by with_reducible assumption) | skip); (try and_intros) <;> first | with_reducible assumption | (clear f13_c2 f13 f29_c2 f29 hE_0_1_1 hK_0_1 hE_0_73_1 hK_0_73 hE_0_160_1 hK_0_160 hE_0_161_1 hE_0_162_1 hK_0_162 hE_0_163_1 hK_0_163 f4 f11 f21 f28; omega)) | ((have f13_c0 := f13.1); (have f13_c1 := f13.2.1); (have f13_c2 := f13.2.2); (have f29_c0 := f29.1); (have f29_c1 := f29.2.1); (have f29_c2 := f29.2.2); (first | have f4_b := f4 (by clear f13_c2 f13 f29_c2 f29 hE_0_1_1 hK_0_1 hE_0_73_1 hK_0_73 hE_0_160_1 hK_0_160 hE_0_161_1 hE_0_162_1 hK_0_162 hE_0_163_1 hK_0_163 f4 f11 f21 f28; omega) | skip); (first | have f11_b := f11 (by clear f13_c2 f13 f29_c2 f29 hE_0_1_1 hK_0_1 hE_0_73_1 hK_0_73 hE_0_160_1 hK_0_160 hE_0_161_1 hE_0_162_1 hK_0_162 hE_0_163_1 hK_0_163 f4 f11 f21 f28; omega) | skip); (first | have f21_b := f21 (by clear f13_c2 f13 f29_c2 f29 hE_0_1_1 hK_0_1 hE_0_73_1 hK_0_73 hE_0_160_1 hK_0_160 hE_0_161_1 hE_0_162_1 hK_0_162 hE_0_163_1 hK_0_163 f4 f11 f21 f28; omega) | skip); (first | have f28_b := f28 (by clear f13_c2 f13 f29_c2 f29 hE_0_1_1 hK_0_1 hE_0_73_1 hK_0_73 hE_0_160_1 hK_0_160 hE_0_161_1 hE_0_162_1 hK_0_162 hE_0_163_1 hK_0_163 f4 f11 f21 f28; omega) | skip); (first | have f4_d := f4 (by with_reducible assumption) | skip); (first | have f11_d := f11 (by with_reducible assumption) | skip); (first | have f21_d := f21 (by with_reducible assumption) | skip); (first | have f28_d := f28 (by with_reducible assumption) | skip); (first | have f13_q := tk_nx0 f13 (by clear f13_c2 f13 f29_c2 f29 hE_0_1_1 hK_0_1 hE_0_73_1 hK_0_73 hE_0_160_1 hK_0_160 hE_0_161_1 hE_0_162_1 hK_0_162 hE_0_163_1 hK_0_163 f4 f11 f21 f28; omega) | skip); (first | have f29_q := tk_nx0 f29 (by clear f13_c2 f13 f29_c2 f29 hE_0_1_1 hK_0_1 hE_0_73_1 hK_0_73 hE_0_160_1 hK_0_160 hE_0_161_1 hE_0_162_1 hK_0_162 hE_0_163_1 hK_0_163 f4 f11 f21 f28; omega) | skip); (try and_intros) <;> first | with_reducible assumption | (clear f13_c2 f13 f29_c2 f29 hE_0_1_1 hK_0_1 hE_0_73_1 hK_0_73 hE_0_160_1 hK_0_160 hE_0_161_1 hE_0_162_1 hK_0_162 hE_0_163_1 hK_0_163 f4 f11 f21 f28; omega)) | omega
set_option maxHeartbeats 4000000 in
theorem vc_Mo_rule_at_f0_65_5 (x1 : Int) (x5 : Int) (x6 : Int) (x11 : Int) (x12 : Int) (x14 : Int) (x15 : Int) (x16 : Int) (x17 : Int) (x18 : Int) (x20 : Int) (x21 : Int) (x27 : Int) (x33 : Int) (styleKind_0 : Int) (styleOne_0 : Int) (fault_0 : Int) (tokenKind_0 : Int → Int) (tokenValue_0 : Int → Int) (tokenPlace_0 : Int → Int) (tokenEnd_0 : Int → Int) (tape_0 : Int → Int) (limit_0 : Int) (cur_0 : Int) (tokens_0 : Int) (opened_0 : Int) (styleKind_1 : Int) (styleOne_1 : Int) (tokenKind_1 : Int → Int) (tokenValue_1 : Int → Int) (tokenPlace_1 : Int → Int) (tokenEnd_1 : Int → Int) (tape_1 : Int → Int) (limit_1 : Int) (cur_1 : Int) (tokens_1 : Int) (opened_1 : Int) (fault_1 : Int) (shades_0 : Int → Int) (shades_1 : Int → Int) (x35 : Int) (gx : Int) (k1 : 0 ≤ x1 ∧ x1 ≤ 2009) (k5 : 0 ≤ x5 ∧ x5 ≤ 2009) (k6 : 0 ≤ x6 ∧ x6 ≤ 2010) (k11 : 1 ≤ x11 ∧ x11 ≤ 1) (k12 : 1 ≤ x12 ∧ x12 ≤ 2009) (k14 : 0 ≤ x14 ∧ x14 ≤ 2009) (k15 : 0 ≤ x15 ∧ x15 ≤ 5) (k16 : 0 ≤ x16 ∧ x16 ≤ 2009) (k17 : 0 ≤ x17 ∧ x17 ≤ 5) (k18 : 0 ≤ x18 ∧ x18 ≤ 13) (k20 : 0 ≤ x20 ∧ x20 ≤ 0) (k21 : 0 ≤ x21 ∧ x21 ≤ 47) (k27 : 0 ≤ x27 ∧ x27 ≤ 1) (k33 : 0 ≤ x33 ∧ x33 ≤ 861) (d0 : x5 + 1 ≤ x12 ∧ x12 ≤ x5 + 1) (g0 : x27 = styleKind_0) (g2 : x21 = styleOne_0) (g3 : x20 = fault_0) (f4 : (styleKind_0 = 0) → (styleOne_0 ≤ 23)) (f5 : 1 * x1 + ((-1) * x16 + 0) ≤ 0) (f6 : (-1) * x6 + ((-1) * x16 + 0) ≤ (-2011)) (f7 : RB2 (styleKind_0) (limit_0) (tokenKind_0) (tokenValue_0) (tokenPlace_0) (tokenEnd_0) (tape_0) (x16) (x17) (x18) (x1)) (f8 : 1 * x1 + ((-1) * x14 + 0) ≤ 0) (f9 : (-1) * x6 + ((-1) * x14 + 0) ≤ (-2011)) (f10 : RB1 (styleKind_0) (limit_0) (tokenKind_0) (tokenValue_0) (tokenPlace_0) (tokenEnd_0) (tape_0) (x14) (x15) (x1)) (f11 : (styleKind_0 = 0) → (styleOne_0 ≤ 23)) (f13 : ((cur_0 + 1) ≤ tokens_0) ∧ ((tokens_0 ≤ 2010) ∧ ((tokenKind_0 ((tokens_0 - 1)) = 0) ∨ (tokenKind_0 ((tokens_0 - 1)) = 4)))) (f14 : 1 * x16 + ((-1) * cur_0 + 0) ≤ 0) (f15 : 1 * opened_0 + 0 ≤ 0) (f16 : (-1) * opened_0 + 0 ≤ 0) (f17 : SSM (fault_0) (cur_0) (styleKind_0) (limit_0) (tokenKind_0) (tokenValue_0) (tokenPlace_0) (tokenEnd_0) (tape_0) (x16) (x17) (x18)) (f19 : 0 ≤ x21) (f20 : x20 = 0) (f21 : (styleKind_1 = 0) → (styleOne_1 ≤ 23)) (f22 : 1 * x1 + ((-1) * x16 + 0) ≤ 0) (f23 : (-1) * x6 + ((-1) * x16 + 0) ≤ (-2011)) (f24 : RB2 (styleKind_1) (limit_1) (tokenKind_1) (tokenValue_1) (tokenPlace_1) (tokenEnd_1) (tape_1) (x16) (x17) (x18) (x1)) (f25 : 1 * x1 + ((-1) * x14 + 0) ≤ 0) (f26 : (-1) * x6 + ((-1) * x14 + 0) ≤ (-2011)) (f27 : RB1 (styleKind_1) (limit_1) (tokenKind_1) (tokenValue_1) (tokenPlace_1) (tokenEnd_1) (tape_1) (x14) (x15) (x1)) (f28 : (styleKind_1 = 0) → (styleOne_1 ≤ 23)) (f29 : ((cur_1 + 1) ≤ tokens_1) ∧ ((tokens_1 ≤ 2010) ∧ ((tokenKind_1 ((tokens_1 - 1)) = 0) ∨ (tokenKind_1 ((tokens_1 - 1)) = 4)))) (f30 : 1 * x16 + ((-1) * cur_1 + 0) ≤ 0) (f31 : 1 * opened_1 + 0 ≤ 0) (f32 : (-1) * opened_1 + 0 ≤ 0) (f33 : SSM (fault_1) (cur_1) (styleKind_1) (limit_1) (tokenKind_1) (tokenValue_1) (tokenPlace_1) (tokenEnd_1) (tape_1) (x16) (x17) (x18)) (f35 : 1 * x1 + ((-1) * x16 + 0) ≤ 0) (f36 : (-1) * x6 + ((-1) * x16 + 0) ≤ (-2011)) (f37 : 1 * x1 + ((-1) * x14 + 0) ≤ 0) (f38 : (-1) * x6 + ((-1) * x14 + 0) ≤ (-2011)) (f40 : 1 * x1 + ((-1) * x14 + 0) ≤ 0) (f41 : (-1) * x6 + ((-1) * x14 + 0) ≤ (-2011)) (f43 : x12 = x5 + x11) (fe_0_8_1 : fault_0 = fault_1) (fe_0_10_1 : limit_0 = limit_1) (fe_0_157_1 : tokens_0 = tokens_1) (fe_0_158_1 : cur_0 = cur_1) (fe_0_159_1 : opened_0 = opened_1) (fe_0_164_1 : styleKind_0 = styleKind_1) (fe_0_165_1 : styleOne_0 = styleOne_1) (hE_0_1_1 : ∀ j : Int, tape_0 j = tape_1 j) (hK_0_1 : ∀ j : Int, 0 ≤ j → j < 2000 → (-128) ≤ tape_0 j ∧ tape_0 j ≤ 127) (hE_0_73_1 : ∀ j : Int, 0 ≤ j → (j = x33 → shades_0 j = x35) ∧ (j ≠ x33 → shades_0 j = shades_1 j)) (hK_0_73 : ∀ j : Int, 0 ≤ j → j < 864 → 0 ≤ shades_0 j ∧ shades_0 j ≤ 255) (hE_0_160_1 : ∀ j : Int, tokenKind_0 j = tokenKind_1 j) (hK_0_160 : ∀ j : Int, 0 ≤ j → j < 2010 → 0 ≤ tokenKind_0 j ∧ tokenKind_0 j ≤ 4) (hE_0_161_1 : ∀ j : Int, tokenValue_0 j = tokenValue_1 j) (hE_0_162_1 : ∀ j : Int, tokenPlace_0 j = tokenPlace_1 j) (hK_0_162 : ∀ j : Int, 0 ≤ j → j < 2010 → 0 ≤ tokenPlace_0 j ∧ tokenPlace_0 j ≤ 2000) (hE_0_163_1 : ∀ j : Int, tokenEnd_0 j = tokenEnd_1 j) (hK_0_163 : ∀ j : Int, 0 ≤ j → j < 2010 → 0 ≤ tokenEnd_0 j ∧ tokenEnd_0 j ≤ 2000) (kz_0_8 : 0 ≤ fault_0 ∧ fault_0 ≤ 5) (kz_0_10 : 0 ≤ limit_0 ∧ limit_0 ≤ 2000) (kz_0_157 : 0 ≤ tokens_0 ∧ tokens_0 ≤ 2010) (kz_0_158 : 0 ≤ cur_0 ∧ cur_0 ≤ 2009) (kz_0_159 : 0 ≤ opened_0 ∧ opened_0 ≤ 13) (kz_0_164 : 0 ≤ styleKind_0 ∧ styleKind_0 ≤ 1) (kz_0_165 : (-1) ≤ styleOne_0 ∧ styleOne_0 ≤ 47) (ex2 : gx = 0 + (1 * x6 + 0)) (ex3 : 0 ≤ gx ∧ gx ≤ 2010) : (-1) * gx + ((-1) * cur_0 + 0) ≤ (-2011) := by
  subst fe_0_8_1
  subst fe_0_10_1
  subst fe_0_157_1
  subst fe_0_158_1
  subst fe_0_159_1
  subst fe_0_164_1
  subst fe_0_165_1
  have e_hE_0_1_1 := funext hE_0_1_1; subst e_hE_0_1_1
  have e_hE_0_160_1 := funext hE_0_160_1; subst e_hE_0_160_1
  have e_hE_0_161_1 := funext hE_0_161_1; subst e_hE_0_161_1
  have e_hE_0_162_1 := funext hE_0_162_1; subst e_hE_0_162_1
  have e_hE_0_163_1 := funext hE_0_163_1; subst e_hE_0_163_1
  first | with_reducible assumption | ((have f13_c0 := f13.1); (have f13_c1 := f13.2.1); (have f13_c2 := f13.2.2); (have f29_c0 := f29.1); (have f29_c1 := f29.2.1); (have f29_c2 := f29.2.2); (try and_intros) <;> first | with_reducible assumption | (clear f13_c2 f13 f29_c2 f29 hE_0_1_1 hK_0_1 hE_0_73_1 hK_0_73 hE_0_160_1 hK_0_160 hE_0_161_1 hE_0_162_1 hK_0_162 hE_0_163_1 hK_0_163 f4 f11 f21 f28; omega)) | ((have f13_c0 := f13.1); (have f13_c1 := f13.2.1); (have f13_c2 := f13.2.2); (have f29_c0 := f29.1); (have f29_c1 := f29.2.1); (have f29_c2 := f29.2.2); (first | have f4_b := f4 (by clear f13_c2 f13 f29_c2 f29 hE_0_1_1 hK_0_1 hE_0_73_1 hK_0_73 hE_0_160_1 hK_0_160 hE_0_161_1 hE_0_162_1 hK_0_162 hE_0_163_1 hK_0_163 f4 f11 f21 f28; omega) | skip); (first | have f11_b := f11 (by clear f13_c2 f13 f29_c2 f29 hE_0_1_1 hK_0_1 hE_0_73_1 hK_0_73 hE_0_160_1 hK_0_160 hE_0_161_1 hE_0_162_1 hK_0_162 hE_0_163_1 hK_0_163 f4 f11 f21 f28; omega) | skip); (first | have f21_b := f21 (by clear f13_c2 f13 f29_c2 f29 hE_0_1_1 hK_0_1 hE_0_73_1 hK_0_73 hE_0_160_1 hK_0_160 hE_0_161_1 hE_0_162_1 hK_0_162 hE_0_163_1 hK_0_163 f4 f11 f21 f28; omega) | skip); (first | have f28_b := f28 (by clear f13_c2 f13 f29_c2 f29 hE_0_1_1 hK_0_1 hE_0_73_1 hK_0_73 hE_0_160_1 hK_0_160 hE_0_161_1 hE_0_162_1 hK_0_162 hE_0_163_1 hK_0_163 f4 f11 f21 f28; omega) | skip); (first | have f4_d := f4 (by with_reducible assumption) | skip); (first | have f11_d := f11 (by with_reducible assumption) | skip); (first | have f21_d := f21 (by with_reducible assumption) | skip); (first | have f28_d := f28 (by with_reducible assumption) | skip); (try and_intros) <;> first | with_reducible assumption | (clear f13_c2 f13 f29_c2 f29 hE_0_1_1 hK_0_1 hE_0_73_1 hK_0_73 hE_0_160_1 hK_0_160 hE_0_161_1 hE_0_162_1 hK_0_162 hE_0_163_1 hK_0_163 f4 f11 f21 f28; omega)) | ((have f13_c0 := f13.1); (have f13_c1 := f13.2.1); (have f13_c2 := f13.2.2); (have f29_c0 := f29.1); (have f29_c1 := f29.2.1); (have f29_c2 := f29.2.2); (first | have f4_b := f4 (by clear f13_c2 f13 f29_c2 f29 hE_0_1_1 hK_0_1 hE_0_73_1 hK_0_73 hE_0_160_1 hK_0_160 hE_0_161_1 hE_0_162_1 hK_0_162 hE_0_163_1 hK_0_163 f4 f11 f21 f28; omega) | skip); (first | have f11_b := f11 (by clear f13_c2 f13 f29_c2 f29 hE_0_1_1 hK_0_1 hE_0_73_1 hK_0_73 hE_0_160_1 hK_0_160 hE_0_161_1 hE_0_162_1 hK_0_162 hE_0_163_1 hK_0_163 f4 f11 f21 f28; omega) | skip); (first | have f21_b := f21 (by clear f13_c2 f13 f29_c2 f29 hE_0_1_1 hK_0_1 hE_0_73_1 hK_0_73 hE_0_160_1 hK_0_160 hE_0_161_1 hE_0_162_1 hK_0_162 hE_0_163_1 hK_0_163 f4 f11 f21 f28; omega) | skip); (first | have f28_b := f28 (by clear f13_c2 f13 f29_c2 f29 hE_0_1_1 hK_0_1 hE_0_73_1 hK_0_73 hE_0_160_1 hK_0_160 hE_0_161_1 hE_0_162_1 hK_0_162 hE_0_163_1 hK_0_163 f4 f11 f21 f28; omega) | skip); (first | have f4_d := f4 (by with_reducible assumption) | skip); (first | have f11_d := f11 (by with_reducible assumption) | skip); (first | have f21_d := f21 (by with_reducible assumption) | skip); (first | have f28_d := f28 (by with_reducible assumption) | skip); (first | have f13_q := tk_nx0 f13 (by clear f13_c2 f13 f29_c2 f29 hE_0_1_1 hK_0_1 hE_0_73_1 hK_0_73 hE_0_160_1 hK_0_160 hE_0_161_1 hE_0_162_1 hK_0_162 hE_0_163_1 hK_0_163 f4 f11 f21 f28; omega) | skip); (first | have f29_q := tk_nx0 f29 (by clear f13_c2 f13 f29_c2 f29 hE_0_1_1 hK_0_1 hE_0_73_1 hK_0_73 hE_0_160_1 hK_0_160 hE_0_161_1 hE_0_162_1 hK_0_162 hE_0_163_1 hK_0_163 f4 f11 f21 f28; omega) | skip); (try and_intros) <;> first | with_reducible assumption | (clear f13_c2 f13 f29_c2 f29 hE_0_1_1 hK_0_1 hE_0_73_1 hK_0_73 hE_0_160_1 hK_0_160 hE_0_161_1 hE_0_162_1 hK_0_162 hE_0_163_1 hK_0_163 f4 f11 f21 f28; omega)) | omega
set_option maxHeartbeats 4000000 in
theorem vc_Mo_rule_at_f0_65_6 (x1 : Int) (x5 : Int) (x6 : Int) (x11 : Int) (x12 : Int) (x14 : Int) (x15 : Int) (x16 : Int) (x17 : Int) (x18 : Int) (x20 : Int) (x21 : Int) (x27 : Int) (x33 : Int) (styleKind_0 : Int) (styleOne_0 : Int) (fault_0 : Int) (tokenKind_0 : Int → Int) (tokenValue_0 : Int → Int) (tokenPlace_0 : Int → Int) (tokenEnd_0 : Int → Int) (tape_0 : Int → Int) (limit_0 : Int) (cur_0 : Int) (tokens_0 : Int) (opened_0 : Int) (styleKind_1 : Int) (styleOne_1 : Int) (tokenKind_1 : Int → Int) (tokenValue_1 : Int → Int) (tokenPlace_1 : Int → Int) (tokenEnd_1 : Int → Int) (tape_1 : Int → Int) (limit_1 : Int) (cur_1 : Int) (tokens_1 : Int) (opened_1 : Int) (fault_1 : Int) (shades_0 : Int → Int) (shades_1 : Int → Int) (x35 : Int) (gx : Int) (k1 : 0 ≤ x1 ∧ x1 ≤ 2009) (k5 : 0 ≤ x5 ∧ x5 ≤ 2009) (k6 : 0 ≤ x6 ∧ x6 ≤ 2010) (k11 : 1 ≤ x11 ∧ x11 ≤ 1) (k12 : 1 ≤ x12 ∧ x12 ≤ 2009) (k14 : 0 ≤ x14 ∧ x14 ≤ 2009) (k15 : 0 ≤ x15 ∧ x15 ≤ 5) (k16 : 0 ≤ x16 ∧ x16 ≤ 2009) (k17 : 0 ≤ x17 ∧ x17 ≤ 5) (k18 : 0 ≤ x18 ∧ x18 ≤ 13) (k20 : 0 ≤ x20 ∧ x20 ≤ 0) (k21 : 0 ≤ x21 ∧ x21 ≤ 47) (k27 : 0 ≤ x27 ∧ x27 ≤ 1) (k33 : 0 ≤ x33 ∧ x33 ≤ 861) (d0 : x5 + 1 ≤ x12 ∧ x12 ≤ x5 + 1) (g0 : x27 = styleKind_0) (g2 : x21 = styleOne_0) (g3 : x20 = fault_0) (f4 : (styleKind_0 = 0) → (styleOne_0 ≤ 23)) (f5 : 1 * x1 + ((-1) * x16 + 0) ≤ 0) (f6 : (-1) * x6 + ((-1) * x16 + 0) ≤ (-2011)) (f7 : RB2 (styleKind_0) (limit_0) (tokenKind_0) (tokenValue_0) (tokenPlace_0) (tokenEnd_0) (tape_0) (x16) (x17) (x18) (x1)) (f8 : 1 * x1 + ((-1) * x14 + 0) ≤ 0) (f9 : (-1) * x6 + ((-1) * x14 + 0) ≤ (-2011)) (f10 : RB1 (styleKind_0) (limit_0) (tokenKind_0) (tokenValue_0) (tokenPlace_0) (tokenEnd_0) (tape_0) (x14) (x15) (x1)) (f11 : (styleKind_0 = 0) → (styleOne_0 ≤ 23)) (f13 : ((cur_0 + 1) ≤ tokens_0) ∧ ((tokens_0 ≤ 2010) ∧ ((tokenKind_0 ((tokens_0 - 1)) = 0) ∨ (tokenKind_0 ((tokens_0 - 1)) = 4)))) (f14 : 1 * x16 + ((-1) * cur_0 + 0) ≤ 0) (f15 : 1 * opened_0 + 0 ≤ 0) (f16 : (-1) * opened_0 + 0 ≤ 0) (f17 : SSM (fault_0) (cur_0) (styleKind_0) (limit_0) (tokenKind_0) (tokenValue_0) (tokenPlace_0) (tokenEnd_0) (tape_0) (x16) (x17) (x18)) (f19 : 0 ≤ x21) (f20 : x20 = 0) (f21 : (styleKind_1 = 0) → (styleOne_1 ≤ 23)) (f22 : 1 * x1 + ((-1) * x16 + 0) ≤ 0) (f23 : (-1) * x6 + ((-1) * x16 + 0) ≤ (-2011)) (f24 : RB2 (styleKind_1) (limit_1) (tokenKind_1) (tokenValue_1) (tokenPlace_1) (tokenEnd_1) (tape_1) (x16) (x17) (x18) (x1)) (f25 : 1 * x1 + ((-1) * x14 + 0) ≤ 0) (f26 : (-1) * x6 + ((-1) * x14 + 0) ≤ (-2011)) (f27 : RB1 (styleKind_1) (limit_1) (tokenKind_1) (tokenValue_1) (tokenPlace_1) (tokenEnd_1) (tape_1) (x14) (x15) (x1)) (f28 : (styleKind_1 = 0) → (styleOne_1 ≤ 23)) (f29 : ((cur_1 + 1) ≤ tokens_1) ∧ ((tokens_1 ≤ 2010) ∧ ((tokenKind_1 ((tokens_1 - 1)) = 0) ∨ (tokenKind_1 ((tokens_1 - 1)) = 4)))) (f30 : 1 * x16 + ((-1) * cur_1 + 0) ≤ 0) (f31 : 1 * opened_1 + 0 ≤ 0) (f32 : (-1) * opened_1 + 0 ≤ 0) (f33 : SSM (fault_1) (cur_1) (styleKind_1) (limit_1) (tokenKind_1) (tokenValue_1) (tokenPlace_1) (tokenEnd_1) (tape_1) (x16) (x17) (x18)) (f35 : 1 * x1 + ((-1) * x16 + 0) ≤ 0) (f36 : (-1) * x6 + ((-1) * x16 + 0) ≤ (-2011)) (f37 : 1 * x1 + ((-1) * x14 + 0) ≤ 0) (f38 : (-1) * x6 + ((-1) * x14 + 0) ≤ (-2011)) (f40 : 1 * x1 + ((-1) * x14 + 0) ≤ 0) (f41 : (-1) * x6 + ((-1) * x14 + 0) ≤ (-2011)) (f43 : x12 = x5 + x11) (fe_0_8_1 : fault_0 = fault_1) (fe_0_10_1 : limit_0 = limit_1) (fe_0_157_1 : tokens_0 = tokens_1) (fe_0_158_1 : cur_0 = cur_1) (fe_0_159_1 : opened_0 = opened_1) (fe_0_164_1 : styleKind_0 = styleKind_1) (fe_0_165_1 : styleOne_0 = styleOne_1) (hE_0_1_1 : ∀ j : Int, tape_0 j = tape_1 j) (hK_0_1 : ∀ j : Int, 0 ≤ j → j < 2000 → (-128) ≤ tape_0 j ∧ tape_0 j ≤ 127) (hE_0_73_1 : ∀ j : Int, 0 ≤ j → (j = x33 → shades_0 j = x35) ∧ (j ≠ x33 → shades_0 j = shades_1 j)) (hK_0_73 : ∀ j : Int, 0 ≤ j → j < 864 → 0 ≤ shades_0 j ∧ shades_0 j ≤ 255) (hE_0_160_1 : ∀ j : Int, tokenKind_0 j = tokenKind_1 j) (hK_0_160 : ∀ j : Int, 0 ≤ j → j < 2010 → 0 ≤ tokenKind_0 j ∧ tokenKind_0 j ≤ 4) (hE_0_161_1 : ∀ j : Int, tokenValue_0 j = tokenValue_1 j) (hE_0_162_1 : ∀ j : Int, tokenPlace_0 j = tokenPlace_1 j) (hK_0_162 : ∀ j : Int, 0 ≤ j → j < 2010 → 0 ≤ tokenPlace_0 j ∧ tokenPlace_0 j ≤ 2000) (hE_0_163_1 : ∀ j : Int, tokenEnd_0 j = tokenEnd_1 j) (hK_0_163 : ∀ j : Int, 0 ≤ j → j < 2010 → 0 ≤ tokenEnd_0 j ∧ tokenEnd_0 j ≤ 2000) (kz_0_8 : 0 ≤ fault_0 ∧ fault_0 ≤ 5) (kz_0_10 : 0 ≤ limit_0 ∧ limit_0 ≤ 2000) (kz_0_157 : 0 ≤ tokens_0 ∧ tokens_0 ≤ 2010) (kz_0_158 : 0 ≤ cur_0 ∧ cur_0 ≤ 2009) (kz_0_159 : 0 ≤ opened_0 ∧ opened_0 ≤ 13) (kz_0_164 : 0 ≤ styleKind_0 ∧ styleKind_0 ≤ 1) (kz_0_165 : (-1) ≤ styleOne_0 ∧ styleOne_0 ≤ 47) (ex2 : gx = 0 + (1 * x6 + 0)) (ex3 : 0 ≤ gx ∧ gx ≤ 2010) : RDL (fault_0) (cur_0) (styleKind_0) (limit_0) (tokenKind_0) (tokenValue_0) (tokenPlace_0) (tokenEnd_0) (tape_0) (x1) := by
  subst fe_0_8_1
  subst fe_0_10_1
  subst fe_0_157_1
  subst fe_0_158_1
  subst fe_0_159_1
  subst fe_0_164_1
  subst fe_0_165_1
  have e_hE_0_1_1 := funext hE_0_1_1; subst e_hE_0_1_1
  have e_hE_0_160_1 := funext hE_0_160_1; subst e_hE_0_160_1
  have e_hE_0_161_1 := funext hE_0_161_1; subst e_hE_0_161_1
  have e_hE_0_162_1 := funext hE_0_162_1; subst e_hE_0_162_1
  have e_hE_0_163_1 := funext hE_0_163_1; subst e_hE_0_163_1
  first
    | exact rb2_go (‹RB2 _ _ _ _ _ _ _ _ _ _ _›) (‹SSM _ _ _ _ _ _ _ _ _ _ _ _›) (by omega)
    | assumption
  
def o_Mo_rule_at_f0_65 : or_T := (275, 36, [(0, (2, 0, 0, [165])), (1, (0, 0, 2009, [])), (2, (2, 0, 0, [165])), (5, (0, 0, 2009, [])), (6, (0, 0, 2010, [])), (11, (0, 1, 1, [])), (12, (0, 1, 2009, [])), (14, (0, 0, 2009, [])), (15, (0, 0, 5, [])), (16, (0, 0, 2009, [])), (17, (0, 0, 5, [])), (18, (0, 0, 13, [])), (20, (0, 0, 0, [])), (21, (0, 0, 47, [])), (22, (2, 0, 0, [213])), (27, (0, 0, 1, [])), (33, (0, 0, 861, []))], [(9, [27, 2], [164]), (9, [22, 2], [73]), (9, [21, 2], [165]), (9, [20, 2], [8]), (20, [2], [50, 2, 0, 164, 165, 4, 7, 1, 3, 2, 0, 164, 0, 0, 0, 3, 2, 0, 165, 0, 23]), (23, [1, 16], [0, 1, -1]), (23, [6, 16], [-2011, -1, -1]), (20, [2, 16, 17, 18, 1], [60, 2, 5, 60, 164, 10, 160, 161, 162, 163, 1]), (23, [1, 14], [0, 1, -1]), (23, [6, 14], [-2011, -1, -1]), (20, [2, 14, 15, 1], [60, 2, 5, 62, 164, 10, 160, 161, 162, 163, 1]), (20, [2], [50, 2, 0, 164, 165, 4, 7, 1, 3, 2, 0, 164, 0, 0, 0, 3, 2, 0, 165, 0, 23]), (24, [0, 2], []), (20, [2], [50, 2, 1, 158, 157, 160, 2, 12, 0, 7, 4, 3, 2, 0, 158, 0, 1, 2, 0, 157, 2, 7, 0, 3, 2, 0, 157, 0, 2010, 3, 14, 1, 10, 3, 0, 160, 5, 3, 2, 0, 157, 0, 1, 0, 0, 1, 10, 3, 0, 160, 5, 3, 2, 0, 157, 0, 1, 0, 4]), (20, [16, 2], [30, 0, 1, 0, 0, -1, 1, 158]), (20, [2], [30, 0, 1, 1, 159]), (20, [2], [30, 0, -1, 1, 159]), (20, [2, 16, 17, 18], [60, 4, 5, 2, 8, 158, 164, 10, 160, 161, 162, 163, 1]), (100, [22, 33, 35], []), (8, [21], [3]), (8, [20], [0]), (20, [2], [50, 2, 0, 164, 165, 4, 7, 1, 3, 2, 0, 164, 0, 0, 0, 3, 2, 0, 165, 0, 23]), (23, [1, 16], [0, 1, -1]), (23, [6, 16], [-2011, -1, -1]), (20, [2, 16, 17, 18, 1], [60, 2, 5, 60, 164, 10, 160, 161, 162, 163, 1]), (23, [1, 14], [0, 1, -1]), (23, [6, 14], [-2011, -1, -1]), (20, [2, 14, 15, 1], [60, 2, 5, 62, 164, 10, 160, 161, 162, 163, 1]), (20, [2], [50, 2, 0, 164, 165, 4, 7, 1, 3, 2, 0, 164, 0, 0, 0, 3, 2, 0, 165, 0, 23]), (20, [2], [50, 2, 1, 158, 157, 160, 2, 12, 0, 7, 4, 3, 2, 0, 158, 0, 1, 2, 0, 157, 2, 7, 0, 3, 2, 0, 157, 0, 2010, 3, 14, 1, 10, 3, 0, 160, 5, 3, 2, 0, 157, 0, 1, 0, 0, 1, 10, 3, 0, 160, 5, 3, 2, 0, 157, 0, 1, 0, 4]), (20, [16, 2], [30, 0, 1, 0, 0, -1, 1, 158]), (20, [2], [30, 0, 1, 1, 159]), (20, [2], [30, 0, -1, 1, 159]), (20, [2, 16, 17, 18], [60, 4, 5, 2, 8, 158, 164, 10, 160, 161, 162, 163, 1]), (102, [18], [0, 165008, 165009, 165158, 165159]), (23, [1, 16], [0, 1, -1]), (23, [6, 16], [-2011, -1, -1]), (23, [1, 14], [0, 1, -1]), (23, [6, 14], [-2011, -1, -1]), (102, [15], [0, 165008, 165009, 165158]), (23, [1, 14], [0, 1, -1]), (23, [6, 14], [-2011, -1, -1]), (101, [2, 12], [158]), (1, [12, 5, 11], [])], [], [(0, 0, 2010, [])], [(20, [2], [50, 2, 1, 158, 157, 160, 2, 12, 0, 7, 4, 3, 2, 0, 158, 0, 1, 2, 0, 157, 2, 7, 0, 3, 2, 0, 157, 0, 2010, 3, 14, 1, 10, 3, 0, 160, 5, 3, 2, 0, 157, 0, 1, 0, 0, 1, 10, 3, 0, 160, 5, 3, 2, 0, 157, 0, 1, 0, 4]), (20, [1, 2], [30, 0, 1, 0, 0, -1, 1, 158]), (20, [2], [50, 2, 0, 164, 165, 4, 7, 1, 3, 2, 0, 164, 0, 0, 0, 3, 2, 0, 165, 0, 23]), (20, [2], [30, 0, 1, 1, 159]), (20, [2], [30, 0, -1, 1, 159]), (20, [36, 2], [30, -2011, -1, 0, 0, -1, 1, 158]), (20, [2, 1], [60, 4, 5, 68, 8, 158, 164, 10, 160, 161, 162, 163, 1]), (24, [0, 2], [])], [(36, 6, 0, 0)], [(12, 5, 1, 1)])
theorem oo_Mo_rule_at_f0_65 {kA : Nat → ClassId} : or_ok PRD kA GG o_Mo_rule_at_f0_65 := by
  refine or_mk fun A ta ws vs hD hth hl => ?_
  intro t0 r0 t1 k1 t2 r2 t5 k5 t6 k6 t11 k11 t12 k12 t14 k14 t15 k15 t16 k16 t17 k17 t18 k18 t20 k20 t21 k21 t22 r22 t27 k27 t33 k33 d0 f0 f1 f2 f3 f4 f5 f6 f7 f8 f9 f10 f11 f12 f13 f14 f15 f16 f17 ta1 w1 le1 s1 f19 f20 f21 f22 f23 f24 f25 f26 f27 f28 f29 f30 f31 f32 f33 ta2 w2 le2 s2 f35 f36 f37 f38 ta3 w3 le3 s3 f40 f41 ta4 w4 le4 s4 f43
  replace f0 := shm_329 f0
  replace f1 := shm_2273 f1
  replace f2 := shm_195 f2
  replace f3 := shm_293 f3
  replace f4 := shm_274 f4
  replace f5 := shm_7 f5
  replace f6 := shm_290 f6
  replace f7 := shm_2271 f7
  replace f8 := shm_7 f8
  replace f9 := shm_290 f9
  replace f10 := shm_2270 f10
  replace f11 := shm_274 f11
  replace f12 := shm_5 f12
  replace f13 := shm_271 f13
  replace f14 := shm_281 f14
  replace f15 := shm_1029 f15
  replace f16 := shm_1030 f16
  replace f17 := shm_299 f17
  have s1 : (∀ b j, w_el ws b j = if b = v_ad (n_v vs 22) ∧ j = (v_iv (n_v vs 33)).toNat then v_iv (n_v vs 35) else w_el w1 b j) ∧ ∀ b k, w_fd ws b k = w_fd w1 b k := s1.2
  replace f19 := shm_32 f19
  replace f20 := shm_192 f20
  replace f21 := shm_274 f21
  replace f22 := shm_7 f22
  replace f23 := shm_290 f23
  replace f24 := shm_2271 f24
  replace f25 := shm_7 f25
  replace f26 := shm_290 f26
  replace f27 := shm_2270 f27
  replace f28 := shm_274 f28
  replace f29 := shm_271 f29
  replace f30 := shm_281 f30
  replace f31 := shm_1029 f31
  replace f32 := shm_1030 f32
  replace f33 := shm_299 f33
  replace f35 := shm_7 f35
  replace f36 := shm_290 f36
  replace f37 := shm_7 f37
  replace f38 := shm_290 f38
  replace f40 := shm_7 f40
  replace f41 := shm_290 f41
  have s4 : (∀ b j, w_el w3 b j = w_el w4 b j) ∧ ∀ b j, w_fd w3 b j = if b = v_ad (n_v vs 2) ∧ j = 158 then n_v vs 12 else w_fd w4 b j := s4.2
  replace f43 := shm_12 f43
  have q2 : n_v vs 2 = n_v vs 0 := f12.symm
  simp only [q2] at f0 f1 f2 f3 f4 f7 f10 f11 f13 f14 f15 f16 f17 f21 f24 f27 f28 f29 f30 f31 f32 f33
  rw [q2] at s4
  have ar_0_1_1 : w_ar w1 (n_v vs 0) 1 = w_ar ws (n_v vs 0) 1 := congrArg v_ad (s1.2 _ _).symm
  have cr_0_1 := fdq_39 hD hth r0
  have ar_0_73_1 : w_ar w1 (n_v vs 0) 73 = w_ar ws (n_v vs 0) 73 := congrArg v_ad (s1.2 _ _).symm
  have cr_0_73 := fdq_333 hD hth r0
  have ar_0_160_1 : w_ar w1 (n_v vs 0) 160 = w_ar ws (n_v vs 0) 160 := congrArg v_ad (s1.2 _ _).symm
  have cr_0_160 := fdq_33 hD hth r0
  have ar_0_161_1 : w_ar w1 (n_v vs 0) 161 = w_ar ws (n_v vs 0) 161 := congrArg v_ad (s1.2 _ _).symm
  have cr_0_161 := fdq_40 hD hth r0
  have ar_0_162_1 : w_ar w1 (n_v vs 0) 162 = w_ar ws (n_v vs 0) 162 := congrArg v_ad (s1.2 _ _).symm
  have cr_0_162 := fdq_41 hD hth r0
  have ar_0_163_1 : w_ar w1 (n_v vs 0) 163 = w_ar ws (n_v vs 0) 163 := congrArg v_ad (s1.2 _ _).symm
  have cr_0_163 := fdq_42 hD hth r0
  have ad_22 : v_ad (n_v vs 22) = w_ar ws (n_v vs 0) 73 := congrArg v_ad f1
  have g0 : v_iv (n_v vs 27) = w_fi ws (n_v vs 0) 164 := congrArg v_iv f0
  have g2 : v_iv (n_v vs 21) = w_fi ws (n_v vs 0) 165 := congrArg v_iv f2
  have g3 : v_iv (n_v vs 20) = w_fi ws (n_v vs 0) 8 := congrArg v_iv f3
  simp only [ar_0_1_1, ar_0_160_1, ar_0_161_1, ar_0_162_1, ar_0_163_1] at f24 f27 f29 f33
  have fe_0_8_1 : w_fi ws (n_v vs 0) 8 = w_fi w1 (n_v vs 0) 8 := congrArg v_iv (s1.2 _ _)
  have fe_0_10_1 : w_fi ws (n_v vs 0) 10 = w_fi w1 (n_v vs 0) 10 := congrArg v_iv (s1.2 _ _)
  have fe_0_157_1 : w_fi ws (n_v vs 0) 157 = w_fi w1 (n_v vs 0) 157 := congrArg v_iv (s1.2 _ _)
  have fe_0_158_1 : w_fi ws (n_v vs 0) 158 = w_fi w1 (n_v vs 0) 158 := congrArg v_iv (s1.2 _ _)
  have fe_0_159_1 : w_fi ws (n_v vs 0) 159 = w_fi w1 (n_v vs 0) 159 := congrArg v_iv (s1.2 _ _)
  have fe_0_164_1 : w_fi ws (n_v vs 0) 164 = w_fi w1 (n_v vs 0) 164 := congrArg v_iv (s1.2 _ _)
  have fe_0_165_1 : w_fi ws (n_v vs 0) 165 = w_fi w1 (n_v vs 0) 165 := congrArg v_iv (s1.2 _ _)
  have hE_0_1_1 : ∀ j : Int, w_ei ws (w_ar ws (n_v vs 0) 1) j = w_ei w1 (w_ar ws (n_v vs 0) 1) j := el_kp s1.1 r22 cr_0_1 (by decide)
  have hK_0_1 := elq_7 hD hth cr_0_1
  have hE_0_73_1 : ∀ j : Int, 0 ≤ j → (j = v_iv (n_v vs 33) → w_ei ws (w_ar ws (n_v vs 0) 73) j = v_iv (n_v vs 35)) ∧ (j ≠ v_iv (n_v vs 33) → w_ei ws (w_ar ws (n_v vs 0) 73) j = w_ei w1 (w_ar ws (n_v vs 0) 73) j) := fun j hj => ⟨fun h => by unfold w_ei; rw [s1.1, if_pos ⟨ad_22.symm, by rw [h]⟩], fun h => by unfold w_ei; rw [s1.1, if_neg (fun e => h (by have := e.2; omega))]⟩
  have hK_0_73 := elq_203 hD hth cr_0_73
  have hE_0_160_1 : ∀ j : Int, w_ei ws (w_ar ws (n_v vs 0) 160) j = w_ei w1 (w_ar ws (n_v vs 0) 160) j := el_kp s1.1 r22 cr_0_160 (by decide)
  have hK_0_160 := elq_6 hD hth cr_0_160
  have hE_0_161_1 : ∀ j : Int, w_ei ws (w_ar ws (n_v vs 0) 161) j = w_ei w1 (w_ar ws (n_v vs 0) 161) j := el_kp s1.1 r22 cr_0_161 (by decide)
  have hE_0_162_1 : ∀ j : Int, w_ei ws (w_ar ws (n_v vs 0) 162) j = w_ei w1 (w_ar ws (n_v vs 0) 162) j := el_kp s1.1 r22 cr_0_162 (by decide)
  have hK_0_162 := elq_8 hD hth cr_0_162
  have hE_0_163_1 : ∀ j : Int, w_ei ws (w_ar ws (n_v vs 0) 163) j = w_ei w1 (w_ar ws (n_v vs 0) 163) j := el_kp s1.1 r22 cr_0_163 (by decide)
  have hK_0_163 := elq_9 hD hth cr_0_163
  have kz_0_8 := fdq_34 hD hth r0
  have kz_0_10 := fdq_43 hD hth r0
  have kz_0_157 := fdq_35 hD hth r0
  have kz_0_158 := fdq_36 hD hth r0
  have kz_0_159 := fdq_37 hD hth r0
  have kz_0_164 := fdq_38 hD hth r0
  have kz_0_165 := fdq_27 hD hth r0
  obtain ⟨x, ex, hx⟩ := iv_ex (ta := ta) (lo := 0) (hi := 2010) (z := 0 + (1 * v_iv (n_v vs 6) + 0)) (by omega) (by omega) (by omega) (by omega)
  have ex2 : v_iv (Value.int x) = 0 + (1 * v_iv (n_v vs 6) + 0) := ex
  have ex3 : 0 ≤ v_iv (Value.int x) ∧ v_iv (Value.int x) ≤ 2010 := tv_rng hx
  have e_0 : n_v (vs ++ [Value.int x]) 0 = n_v vs 0 := n_v_old (by rw [hl]; decide)
  have e_1 : n_v (vs ++ [Value.int x]) 1 = n_v vs 1 := n_v_old (by rw [hl]; decide)
  have e_2 : n_v (vs ++ [Value.int x]) 2 = n_v vs 2 := n_v_old (by rw [hl]; decide)
  have e_36 : n_v (vs ++ [Value.int x]) 36 = Value.int x := n_v_new hl
  have nf0 : fc_1 PRD (20, [2], [50, 2, 1, 158, 157, 160, 2, 12, 0, 7, 4, 3, 2, 0, 158, 0, 1, 2, 0, 157, 2, 7, 0, 3, 2, 0, 157, 0, 2010, 3, 14, 1, 10, 3, 0, 160, 5, 3, 2, 0, 157, 0, 1, 0, 0, 1, 10, 3, 0, 160, 5, 3, 2, 0, 157, 0, 1, 0, 4]) ws (vs ++ [Value.int x]) := by
    refine ⟨nf_inA hl rfl, sgq_271 ?_⟩
    · show ((w_fi ws (n_v (vs ++ [Value.int x]) 2) 158 + 1) ≤ w_fi ws (n_v (vs ++ [Value.int x]) 2) 157) ∧ ((w_fi ws (n_v (vs ++ [Value.int x]) 2) 157 ≤ 2010) ∧ ((w_ei ws (w_ar ws (n_v (vs ++ [Value.int x]) 2) 160) ((w_fi ws (n_v (vs ++ [Value.int x]) 2) 157 - 1)) = 0) ∨ (w_ei ws (w_ar ws (n_v (vs ++ [Value.int x]) 2) 160) ((w_fi ws (n_v (vs ++ [Value.int x]) 2) 157 - 1)) = 4)))
      simp only [e_2, q2]
      exact vc_Mo_rule_at_f0_65_0 (v_iv (n_v vs 1)) (v_iv (n_v vs 5)) (v_iv (n_v vs 6)) (v_iv (n_v vs 11)) (v_iv (n_v vs 12)) (v_iv (n_v vs 14)) (v_iv (n_v vs 15)) (v_iv (n_v vs 16)) (v_iv (n_v vs 17)) (v_iv (n_v vs 18)) (v_iv (n_v vs 20)) (v_iv (n_v vs 21)) (v_iv (n_v vs 27)) (v_iv (n_v vs 33)) (w_fi ws (n_v vs 0) 164) (w_fi ws (n_v vs 0) 165) (w_fi ws (n_v vs 0) 8) (w_ei ws (w_ar ws (n_v vs 0) 160)) (w_ei ws (w_ar ws (n_v vs 0) 161)) (w_ei ws (w_ar ws (n_v vs 0) 162)) (w_ei ws (w_ar ws (n_v vs 0) 163)) (w_ei ws (w_ar ws (n_v vs 0) 1)) (w_fi ws (n_v vs 0) 10) (w_fi ws (n_v vs 0) 158) (w_fi ws (n_v vs 0) 157) (w_fi ws (n_v vs 0) 159) (w_fi w1 (n_v vs 0) 164) (w_fi w1 (n_v vs 0) 165) (w_ei w1 (w_ar ws (n_v vs 0) 160)) (w_ei w1 (w_ar ws (n_v vs 0) 161)) (w_ei w1 (w_ar ws (n_v vs 0) 162)) (w_ei w1 (w_ar ws (n_v vs 0) 163)) (w_ei w1 (w_ar ws (n_v vs 0) 1)) (w_fi w1 (n_v vs 0) 10) (w_fi w1 (n_v vs 0) 158) (w_fi w1 (n_v vs 0) 157) (w_fi w1 (n_v vs 0) 159) (w_fi w1 (n_v vs 0) 8) (w_ei ws (w_ar ws (n_v vs 0) 73)) (w_ei w1 (w_ar ws (n_v vs 0) 73)) (v_iv (n_v vs 35)) (v_iv (Value.int x)) k1 k5 k6 k11 k12 k14 k15 k16 k17 k18 k20 k21 k27 k33 d0 g0 g2 g3 f4 f5 f6 f7 f8 f9 f10 f11 f13 f14 f15 f16 f17 f19 f20 f21 f22 f23 f24 f25 f26 f27 f28 f29 f30 f31 f32 f33 f35 f36 f37 f38 f40 f41 f43 fe_0_8_1 fe_0_10_1 fe_0_157_1 fe_0_158_1 fe_0_159_1 fe_0_164_1 fe_0_165_1 hE_0_1_1 hK_0_1 hE_0_73_1 hK_0_73 hE_0_160_1 hK_0_160 hE_0_161_1 hE_0_162_1 hK_0_162 hE_0_163_1 hK_0_163 kz_0_8 kz_0_10 kz_0_157 kz_0_158 kz_0_159 kz_0_164 kz_0_165 ex2 ex3
  have nf1 : fc_1 PRD (20, [1, 2], [30, 0, 1, 0, 0, -1, 1, 158]) ws (vs ++ [Value.int x]) := by
    refine ⟨nf_inA hl rfl, sgq_281 ?_⟩
    · show 1 * v_iv (n_v (vs ++ [Value.int x]) 1) + ((-1) * w_fi ws (n_v (vs ++ [Value.int x]) 2) 158 + 0) ≤ 0
      simp only [e_1, e_2, q2]
      exact vc_Mo_rule_at_f0_65_1 (v_iv (n_v vs 1)) (v_iv (n_v vs 5)) (v_iv (n_v vs 6)) (v_iv (n_v vs 11)) (v_iv (n_v vs 12)) (v_iv (n_v vs 14)) (v_iv (n_v vs 15)) (v_iv (n_v vs 16)) (v_iv (n_v vs 17)) (v_iv (n_v vs 18)) (v_iv (n_v vs 20)) (v_iv (n_v vs 21)) (v_iv (n_v vs 27)) (v_iv (n_v vs 33)) (w_fi ws (n_v vs 0) 164) (w_fi ws (n_v vs 0) 165) (w_fi ws (n_v vs 0) 8) (w_ei ws (w_ar ws (n_v vs 0) 160)) (w_ei ws (w_ar ws (n_v vs 0) 161)) (w_ei ws (w_ar ws (n_v vs 0) 162)) (w_ei ws (w_ar ws (n_v vs 0) 163)) (w_ei ws (w_ar ws (n_v vs 0) 1)) (w_fi ws (n_v vs 0) 10) (w_fi ws (n_v vs 0) 158) (w_fi ws (n_v vs 0) 157) (w_fi ws (n_v vs 0) 159) (w_fi w1 (n_v vs 0) 164) (w_fi w1 (n_v vs 0) 165) (w_ei w1 (w_ar ws (n_v vs 0) 160)) (w_ei w1 (w_ar ws (n_v vs 0) 161)) (w_ei w1 (w_ar ws (n_v vs 0) 162)) (w_ei w1 (w_ar ws (n_v vs 0) 163)) (w_ei w1 (w_ar ws (n_v vs 0) 1)) (w_fi w1 (n_v vs 0) 10) (w_fi w1 (n_v vs 0) 158) (w_fi w1 (n_v vs 0) 157) (w_fi w1 (n_v vs 0) 159) (w_fi w1 (n_v vs 0) 8) (w_ei ws (w_ar ws (n_v vs 0) 73)) (w_ei w1 (w_ar ws (n_v vs 0) 73)) (v_iv (n_v vs 35)) (v_iv (Value.int x)) k1 k5 k6 k11 k12 k14 k15 k16 k17 k18 k20 k21 k27 k33 d0 g0 g2 g3 f4 f5 f6 f7 f8 f9 f10 f11 f13 f14 f15 f16 f17 f19 f20 f21 f22 f23 f24 f25 f26 f27 f28 f29 f30 f31 f32 f33 f35 f36 f37 f38 f40 f41 f43 fe_0_8_1 fe_0_10_1 fe_0_157_1 fe_0_158_1 fe_0_159_1 fe_0_164_1 fe_0_165_1 hE_0_1_1 hK_0_1 hE_0_73_1 hK_0_73 hE_0_160_1 hK_0_160 hE_0_161_1 hE_0_162_1 hK_0_162 hE_0_163_1 hK_0_163 kz_0_8 kz_0_10 kz_0_157 kz_0_158 kz_0_159 kz_0_164 kz_0_165 ex2 ex3
  have nf2 : fc_1 PRD (20, [2], [50, 2, 0, 164, 165, 4, 7, 1, 3, 2, 0, 164, 0, 0, 0, 3, 2, 0, 165, 0, 23]) ws (vs ++ [Value.int x]) := by
    refine ⟨nf_inA hl rfl, sgq_274 ?_⟩
    · show (w_fi ws (n_v (vs ++ [Value.int x]) 2) 164 = 0) → (w_fi ws (n_v (vs ++ [Value.int x]) 2) 165 ≤ 23)
      simp only [e_2, q2]
      exact vc_Mo_rule_at_f0_65_2 (v_iv (n_v vs 1)) (v_iv (n_v vs 5)) (v_iv (n_v vs 6)) (v_iv (n_v vs 11)) (v_iv (n_v vs 12)) (v_iv (n_v vs 14)) (v_iv (n_v vs 15)) (v_iv (n_v vs 16)) (v_iv (n_v vs 17)) (v_iv (n_v vs 18)) (v_iv (n_v vs 20)) (v_iv (n_v vs 21)) (v_iv (n_v vs 27)) (v_iv (n_v vs 33)) (w_fi ws (n_v vs 0) 164) (w_fi ws (n_v vs 0) 165) (w_fi ws (n_v vs 0) 8) (w_ei ws (w_ar ws (n_v vs 0) 160)) (w_ei ws (w_ar ws (n_v vs 0) 161)) (w_ei ws (w_ar ws (n_v vs 0) 162)) (w_ei ws (w_ar ws (n_v vs 0) 163)) (w_ei ws (w_ar ws (n_v vs 0) 1)) (w_fi ws (n_v vs 0) 10) (w_fi ws (n_v vs 0) 158) (w_fi ws (n_v vs 0) 157) (w_fi ws (n_v vs 0) 159) (w_fi w1 (n_v vs 0) 164) (w_fi w1 (n_v vs 0) 165) (w_ei w1 (w_ar ws (n_v vs 0) 160)) (w_ei w1 (w_ar ws (n_v vs 0) 161)) (w_ei w1 (w_ar ws (n_v vs 0) 162)) (w_ei w1 (w_ar ws (n_v vs 0) 163)) (w_ei w1 (w_ar ws (n_v vs 0) 1)) (w_fi w1 (n_v vs 0) 10) (w_fi w1 (n_v vs 0) 158) (w_fi w1 (n_v vs 0) 157) (w_fi w1 (n_v vs 0) 159) (w_fi w1 (n_v vs 0) 8) (w_ei ws (w_ar ws (n_v vs 0) 73)) (w_ei w1 (w_ar ws (n_v vs 0) 73)) (v_iv (n_v vs 35)) (v_iv (Value.int x)) k1 k5 k6 k11 k12 k14 k15 k16 k17 k18 k20 k21 k27 k33 d0 g0 g2 g3 f4 f5 f6 f7 f8 f9 f10 f11 f13 f14 f15 f16 f17 f19 f20 f21 f22 f23 f24 f25 f26 f27 f28 f29 f30 f31 f32 f33 f35 f36 f37 f38 f40 f41 f43 fe_0_8_1 fe_0_10_1 fe_0_157_1 fe_0_158_1 fe_0_159_1 fe_0_164_1 fe_0_165_1 hE_0_1_1 hK_0_1 hE_0_73_1 hK_0_73 hE_0_160_1 hK_0_160 hE_0_161_1 hE_0_162_1 hK_0_162 hE_0_163_1 hK_0_163 kz_0_8 kz_0_10 kz_0_157 kz_0_158 kz_0_159 kz_0_164 kz_0_165 ex2 ex3
  have nf3 : fc_1 PRD (20, [2], [30, 0, 1, 1, 159]) ws (vs ++ [Value.int x]) := by
    refine ⟨nf_inA hl rfl, sgq_1029 ?_⟩
    · show 1 * w_fi ws (n_v (vs ++ [Value.int x]) 2) 159 + 0 ≤ 0
      simp only [e_2, q2]
      exact vc_Mo_rule_at_f0_65_3 (v_iv (n_v vs 1)) (v_iv (n_v vs 5)) (v_iv (n_v vs 6)) (v_iv (n_v vs 11)) (v_iv (n_v vs 12)) (v_iv (n_v vs 14)) (v_iv (n_v vs 15)) (v_iv (n_v vs 16)) (v_iv (n_v vs 17)) (v_iv (n_v vs 18)) (v_iv (n_v vs 20)) (v_iv (n_v vs 21)) (v_iv (n_v vs 27)) (v_iv (n_v vs 33)) (w_fi ws (n_v vs 0) 164) (w_fi ws (n_v vs 0) 165) (w_fi ws (n_v vs 0) 8) (w_ei ws (w_ar ws (n_v vs 0) 160)) (w_ei ws (w_ar ws (n_v vs 0) 161)) (w_ei ws (w_ar ws (n_v vs 0) 162)) (w_ei ws (w_ar ws (n_v vs 0) 163)) (w_ei ws (w_ar ws (n_v vs 0) 1)) (w_fi ws (n_v vs 0) 10) (w_fi ws (n_v vs 0) 158) (w_fi ws (n_v vs 0) 157) (w_fi ws (n_v vs 0) 159) (w_fi w1 (n_v vs 0) 164) (w_fi w1 (n_v vs 0) 165) (w_ei w1 (w_ar ws (n_v vs 0) 160)) (w_ei w1 (w_ar ws (n_v vs 0) 161)) (w_ei w1 (w_ar ws (n_v vs 0) 162)) (w_ei w1 (w_ar ws (n_v vs 0) 163)) (w_ei w1 (w_ar ws (n_v vs 0) 1)) (w_fi w1 (n_v vs 0) 10) (w_fi w1 (n_v vs 0) 158) (w_fi w1 (n_v vs 0) 157) (w_fi w1 (n_v vs 0) 159) (w_fi w1 (n_v vs 0) 8) (w_ei ws (w_ar ws (n_v vs 0) 73)) (w_ei w1 (w_ar ws (n_v vs 0) 73)) (v_iv (n_v vs 35)) (v_iv (Value.int x)) k1 k5 k6 k11 k12 k14 k15 k16 k17 k18 k20 k21 k27 k33 d0 g0 g2 g3 f4 f5 f6 f7 f8 f9 f10 f11 f13 f14 f15 f16 f17 f19 f20 f21 f22 f23 f24 f25 f26 f27 f28 f29 f30 f31 f32 f33 f35 f36 f37 f38 f40 f41 f43 fe_0_8_1 fe_0_10_1 fe_0_157_1 fe_0_158_1 fe_0_159_1 fe_0_164_1 fe_0_165_1 hE_0_1_1 hK_0_1 hE_0_73_1 hK_0_73 hE_0_160_1 hK_0_160 hE_0_161_1 hE_0_162_1 hK_0_162 hE_0_163_1 hK_0_163 kz_0_8 kz_0_10 kz_0_157 kz_0_158 kz_0_159 kz_0_164 kz_0_165 ex2 ex3
  have nf4 : fc_1 PRD (20, [2], [30, 0, -1, 1, 159]) ws (vs ++ [Value.int x]) := by
    refine ⟨nf_inA hl rfl, sgq_1030 ?_⟩
    · show (-1) * w_fi ws (n_v (vs ++ [Value.int x]) 2) 159 + 0 ≤ 0
      simp only [e_2, q2]
      exact vc_Mo_rule_at_f0_65_4 (v_iv (n_v vs 1)) (v_iv (n_v vs 5)) (v_iv (n_v vs 6)) (v_iv (n_v vs 11)) (v_iv (n_v vs 12)) (v_iv (n_v vs 14)) (v_iv (n_v vs 15)) (v_iv (n_v vs 16)) (v_iv (n_v vs 17)) (v_iv (n_v vs 18)) (v_iv (n_v vs 20)) (v_iv (n_v vs 21)) (v_iv (n_v vs 27)) (v_iv (n_v vs 33)) (w_fi ws (n_v vs 0) 164) (w_fi ws (n_v vs 0) 165) (w_fi ws (n_v vs 0) 8) (w_ei ws (w_ar ws (n_v vs 0) 160)) (w_ei ws (w_ar ws (n_v vs 0) 161)) (w_ei ws (w_ar ws (n_v vs 0) 162)) (w_ei ws (w_ar ws (n_v vs 0) 163)) (w_ei ws (w_ar ws (n_v vs 0) 1)) (w_fi ws (n_v vs 0) 10) (w_fi ws (n_v vs 0) 158) (w_fi ws (n_v vs 0) 157) (w_fi ws (n_v vs 0) 159) (w_fi w1 (n_v vs 0) 164) (w_fi w1 (n_v vs 0) 165) (w_ei w1 (w_ar ws (n_v vs 0) 160)) (w_ei w1 (w_ar ws (n_v vs 0) 161)) (w_ei w1 (w_ar ws (n_v vs 0) 162)) (w_ei w1 (w_ar ws (n_v vs 0) 163)) (w_ei w1 (w_ar ws (n_v vs 0) 1)) (w_fi w1 (n_v vs 0) 10) (w_fi w1 (n_v vs 0) 158) (w_fi w1 (n_v vs 0) 157) (w_fi w1 (n_v vs 0) 159) (w_fi w1 (n_v vs 0) 8) (w_ei ws (w_ar ws (n_v vs 0) 73)) (w_ei w1 (w_ar ws (n_v vs 0) 73)) (v_iv (n_v vs 35)) (v_iv (Value.int x)) k1 k5 k6 k11 k12 k14 k15 k16 k17 k18 k20 k21 k27 k33 d0 g0 g2 g3 f4 f5 f6 f7 f8 f9 f10 f11 f13 f14 f15 f16 f17 f19 f20 f21 f22 f23 f24 f25 f26 f27 f28 f29 f30 f31 f32 f33 f35 f36 f37 f38 f40 f41 f43 fe_0_8_1 fe_0_10_1 fe_0_157_1 fe_0_158_1 fe_0_159_1 fe_0_164_1 fe_0_165_1 hE_0_1_1 hK_0_1 hE_0_73_1 hK_0_73 hE_0_160_1 hK_0_160 hE_0_161_1 hE_0_162_1 hK_0_162 hE_0_163_1 hK_0_163 kz_0_8 kz_0_10 kz_0_157 kz_0_158 kz_0_159 kz_0_164 kz_0_165 ex2 ex3
  have nf5 : fc_1 PRD (20, [36, 2], [30, -2011, -1, 0, 0, -1, 1, 158]) ws (vs ++ [Value.int x]) := by
    refine ⟨nf_inA hl rfl, sgq_292 ?_⟩
    · show (-1) * v_iv (n_v (vs ++ [Value.int x]) 36) + ((-1) * w_fi ws (n_v (vs ++ [Value.int x]) 2) 158 + 0) ≤ (-2011)
      simp only [e_2, e_36, q2]
      exact vc_Mo_rule_at_f0_65_5 (v_iv (n_v vs 1)) (v_iv (n_v vs 5)) (v_iv (n_v vs 6)) (v_iv (n_v vs 11)) (v_iv (n_v vs 12)) (v_iv (n_v vs 14)) (v_iv (n_v vs 15)) (v_iv (n_v vs 16)) (v_iv (n_v vs 17)) (v_iv (n_v vs 18)) (v_iv (n_v vs 20)) (v_iv (n_v vs 21)) (v_iv (n_v vs 27)) (v_iv (n_v vs 33)) (w_fi ws (n_v vs 0) 164) (w_fi ws (n_v vs 0) 165) (w_fi ws (n_v vs 0) 8) (w_ei ws (w_ar ws (n_v vs 0) 160)) (w_ei ws (w_ar ws (n_v vs 0) 161)) (w_ei ws (w_ar ws (n_v vs 0) 162)) (w_ei ws (w_ar ws (n_v vs 0) 163)) (w_ei ws (w_ar ws (n_v vs 0) 1)) (w_fi ws (n_v vs 0) 10) (w_fi ws (n_v vs 0) 158) (w_fi ws (n_v vs 0) 157) (w_fi ws (n_v vs 0) 159) (w_fi w1 (n_v vs 0) 164) (w_fi w1 (n_v vs 0) 165) (w_ei w1 (w_ar ws (n_v vs 0) 160)) (w_ei w1 (w_ar ws (n_v vs 0) 161)) (w_ei w1 (w_ar ws (n_v vs 0) 162)) (w_ei w1 (w_ar ws (n_v vs 0) 163)) (w_ei w1 (w_ar ws (n_v vs 0) 1)) (w_fi w1 (n_v vs 0) 10) (w_fi w1 (n_v vs 0) 158) (w_fi w1 (n_v vs 0) 157) (w_fi w1 (n_v vs 0) 159) (w_fi w1 (n_v vs 0) 8) (w_ei ws (w_ar ws (n_v vs 0) 73)) (w_ei w1 (w_ar ws (n_v vs 0) 73)) (v_iv (n_v vs 35)) (v_iv (Value.int x)) k1 k5 k6 k11 k12 k14 k15 k16 k17 k18 k20 k21 k27 k33 d0 g0 g2 g3 f4 f5 f6 f7 f8 f9 f10 f11 f13 f14 f15 f16 f17 f19 f20 f21 f22 f23 f24 f25 f26 f27 f28 f29 f30 f31 f32 f33 f35 f36 f37 f38 f40 f41 f43 fe_0_8_1 fe_0_10_1 fe_0_157_1 fe_0_158_1 fe_0_159_1 fe_0_164_1 fe_0_165_1 hE_0_1_1 hK_0_1 hE_0_73_1 hK_0_73 hE_0_160_1 hK_0_160 hE_0_161_1 hE_0_162_1 hK_0_162 hE_0_163_1 hK_0_163 kz_0_8 kz_0_10 kz_0_157 kz_0_158 kz_0_159 kz_0_164 kz_0_165 ex2 ex3
  have nf6 : fc_1 PRD (20, [2, 1], [60, 4, 5, 68, 8, 158, 164, 10, 160, 161, 162, 163, 1]) ws (vs ++ [Value.int x]) := by
    refine ⟨nf_inA hl rfl, sgq_2272 ?_⟩
    · show RDL (w_fi ws (n_v (vs ++ [Value.int x]) 2) 8) (w_fi ws (n_v (vs ++ [Value.int x]) 2) 158) (w_fi ws (n_v (vs ++ [Value.int x]) 2) 164) (w_fi ws (n_v (vs ++ [Value.int x]) 2) 10) (w_ei ws (w_ar ws (n_v (vs ++ [Value.int x]) 2) 160)) (w_ei ws (w_ar ws (n_v (vs ++ [Value.int x]) 2) 161)) (w_ei ws (w_ar ws (n_v (vs ++ [Value.int x]) 2) 162)) (w_ei ws (w_ar ws (n_v (vs ++ [Value.int x]) 2) 163)) (w_ei ws (w_ar ws (n_v (vs ++ [Value.int x]) 2) 1)) (v_iv (n_v (vs ++ [Value.int x]) 1))
      simp only [e_1, e_2, q2]
      exact vc_Mo_rule_at_f0_65_6 (v_iv (n_v vs 1)) (v_iv (n_v vs 5)) (v_iv (n_v vs 6)) (v_iv (n_v vs 11)) (v_iv (n_v vs 12)) (v_iv (n_v vs 14)) (v_iv (n_v vs 15)) (v_iv (n_v vs 16)) (v_iv (n_v vs 17)) (v_iv (n_v vs 18)) (v_iv (n_v vs 20)) (v_iv (n_v vs 21)) (v_iv (n_v vs 27)) (v_iv (n_v vs 33)) (w_fi ws (n_v vs 0) 164) (w_fi ws (n_v vs 0) 165) (w_fi ws (n_v vs 0) 8) (w_ei ws (w_ar ws (n_v vs 0) 160)) (w_ei ws (w_ar ws (n_v vs 0) 161)) (w_ei ws (w_ar ws (n_v vs 0) 162)) (w_ei ws (w_ar ws (n_v vs 0) 163)) (w_ei ws (w_ar ws (n_v vs 0) 1)) (w_fi ws (n_v vs 0) 10) (w_fi ws (n_v vs 0) 158) (w_fi ws (n_v vs 0) 157) (w_fi ws (n_v vs 0) 159) (w_fi w1 (n_v vs 0) 164) (w_fi w1 (n_v vs 0) 165) (w_ei w1 (w_ar ws (n_v vs 0) 160)) (w_ei w1 (w_ar ws (n_v vs 0) 161)) (w_ei w1 (w_ar ws (n_v vs 0) 162)) (w_ei w1 (w_ar ws (n_v vs 0) 163)) (w_ei w1 (w_ar ws (n_v vs 0) 1)) (w_fi w1 (n_v vs 0) 10) (w_fi w1 (n_v vs 0) 158) (w_fi w1 (n_v vs 0) 157) (w_fi w1 (n_v vs 0) 159) (w_fi w1 (n_v vs 0) 8) (w_ei ws (w_ar ws (n_v vs 0) 73)) (w_ei w1 (w_ar ws (n_v vs 0) 73)) (v_iv (n_v vs 35)) (v_iv (Value.int x)) k1 k5 k6 k11 k12 k14 k15 k16 k17 k18 k20 k21 k27 k33 d0 g0 g2 g3 f4 f5 f6 f7 f8 f9 f10 f11 f13 f14 f15 f16 f17 f19 f20 f21 f22 f23 f24 f25 f26 f27 f28 f29 f30 f31 f32 f33 f35 f36 f37 f38 f40 f41 f43 fe_0_8_1 fe_0_10_1 fe_0_157_1 fe_0_158_1 fe_0_159_1 fe_0_164_1 fe_0_165_1 hE_0_1_1 hK_0_1 hE_0_73_1 hK_0_73 hE_0_160_1 hK_0_160 hE_0_161_1 hE_0_162_1 hK_0_162 hE_0_163_1 hK_0_163 kz_0_8 kz_0_10 kz_0_157 kz_0_158 kz_0_159 kz_0_164 kz_0_165 ex2 ex3
  have nf7 : fc_1 PRD (24, [0, 2], []) ws (vs ++ [Value.int x]) := by
    refine ⟨nf_inA hl rfl, sgq_5 ?_⟩
    · show n_v (vs ++ [Value.int x]) 0 = n_v (vs ++ [Value.int x]) 2
      first | rfl | simp only [e_0, e_2, q2]
  obtain ⟨x0, e0, _, _⟩ := tv_int t6 rfl
  have e1 : v_iv (n_v vs 6) = x0.toInt := by rw [e0]; rfl
  have ho : sy_ofs (vs ++ [Value.int x]) (36, 6, 0, 0) := by
    refine ⟨x, x0, by rw [List.getElem?_append_right (by rw [hl]; decide), hl]; rfl, ?_, ?_, ?_⟩
    · rw [List.getElem?_append_left (by rw [hl]; decide)]; exact n_v_some (by rw [hl]; decide) e0
    · show x0.toInt + 0 ≤ x.toInt; omega
    · show x.toInt ≤ x0.toInt + 0; omega
  exact ⟨(fun _ h => (by cases h)), [Value.int x], ag_one hx, List.forall_mem_cons.mpr ⟨⟨show (20 : Nat) < 100 from by decide, nf0⟩, List.forall_mem_cons.mpr ⟨⟨show (20 : Nat) < 100 from by decide, nf1⟩, List.forall_mem_cons.mpr ⟨⟨show (20 : Nat) < 100 from by decide, nf2⟩, List.forall_mem_cons.mpr ⟨⟨show (20 : Nat) < 100 from by decide, nf3⟩, List.forall_mem_cons.mpr ⟨⟨show (20 : Nat) < 100 from by decide, nf4⟩, List.forall_mem_cons.mpr ⟨⟨show (20 : Nat) < 100 from by decide, nf5⟩, List.forall_mem_cons.mpr ⟨⟨show (20 : Nat) < 100 from by decide, nf6⟩, List.forall_mem_cons.mpr ⟨⟨show (24 : Nat) < 100 from by decide, nf7⟩, (fun _ h => (by cases h))⟩⟩⟩⟩⟩⟩⟩⟩, List.forall_mem_cons.mpr ⟨ho, (fun _ h => (by cases h))⟩⟩
set_option maxHeartbeats 4000000 in
theorem vc_Mo_rule_at_f0_66_0 (x1 : Int) (x5 : Int) (x6 : Int) (x8 : Int) (x10 : Int) (cur_0 : Int) (fault_0 : Int) (tokenKind_0 : Int → Int) (tokens_0 : Int) (styleKind_0 : Int) (styleOne_0 : Int) (opened_0 : Int) (tokenValue_0 : Int → Int) (tokenPlace_0 : Int → Int) (tokenEnd_0 : Int → Int) (tape_0 : Int → Int) (limit_0 : Int) (k1 : 0 ≤ x1 ∧ x1 ≤ 2009) (k5 : 0 ≤ x5 ∧ x5 ≤ 2009) (k6 : 0 ≤ x6 ∧ x6 ≤ 2010) (k8 : 1 ≤ x8 ∧ x8 ≤ 1) (k10 : 1 ≤ x10 ∧ x10 ≤ 5) (g0 : x5 = cur_0) (f1 : 0 < x10) (g2 : x10 = fault_0) (f3 : x8 ≠ 0) (f4 : ((cur_0 + 1) ≤ tokens_0) ∧ ((tokens_0 ≤ 2010) ∧ ((tokenKind_0 ((tokens_0 - 1)) = 0) ∨ (tokenKind_0 ((tokens_0 - 1)) = 4)))) (f5 : 1 * x1 + ((-1) * cur_0 + 0) ≤ 0) (f6 : (styleKind_0 = 0) → (styleOne_0 ≤ 23)) (f7 : 1 * opened_0 + 0 ≤ 0) (f8 : (-1) * opened_0 + 0 ≤ 0) (f9 : RDW (fault_0) (cur_0) (styleKind_0) (limit_0) (tokenKind_0) (tokenValue_0) (tokenPlace_0) (tokenEnd_0) (tape_0) (x1)) (f11 : 1 * x6 + (1 * cur_0 + 0) ≤ 2010) (f12 : (-1) * x6 + ((-1) * cur_0 + 0) ≤ (-2010)) (f13 : (x8 = 1) → (tokenKind_0 (cur_0) = 1)) (f14 : Wqcolor (fault_0) (cur_0) (limit_0) (tokenKind_0) (tokenPlace_0) (tokenEnd_0) (tape_0) (x8)) (hK_0_1 : ∀ j : Int, 0 ≤ j → j < 2000 → (-128) ≤ tape_0 j ∧ tape_0 j ≤ 127) (hK_0_160 : ∀ j : Int, 0 ≤ j → j < 2010 → 0 ≤ tokenKind_0 j ∧ tokenKind_0 j ≤ 4) (hK_0_162 : ∀ j : Int, 0 ≤ j → j < 2010 → 0 ≤ tokenPlace_0 j ∧ tokenPlace_0 j ≤ 2000) (hK_0_163 : ∀ j : Int, 0 ≤ j → j < 2010 → 0 ≤ tokenEnd_0 j ∧ tokenEnd_0 j ≤ 2000) (kz_0_8 : 0 ≤ fault_0 ∧ fault_0 ≤ 5) (kz_0_10 : 0 ≤ limit_0 ∧ limit_0 ≤ 2000) (kz_0_157 : 0 ≤ tokens_0 ∧ tokens_0 ≤ 2010) (kz_0_158 : 0 ≤ cur_0 ∧ cur_0 ≤ 2009) (kz_0_159 : 0 ≤ opened_0 ∧ opened_0 ≤ 13) (kz_0_164 : 0 ≤ styleKind_0 ∧ styleKind_0 ≤ 1) (kz_0_165 : (-1) ≤ styleOne_0 ∧ styleOne_0 ≤ 47) : ((cur_0 + 1) ≤ tokens_0) ∧ ((tokens_0 ≤ 2010) ∧ ((tokenKind_0 ((tokens_0 - 1)) = 0) ∨ (tokenKind_0 ((tokens_0 - 1)) = 4))) := by
  first | with_reducible assumption | ((have f4_c0 := f4.1); (have f4_c1 := f4.2.1); (have f4_c2 := f4.2.2); (try and_intros) <;> first | with_reducible assumption | (clear f4_c2 f4 hK_0_1 hK_0_160 hK_0_162 hK_0_163 f6 f13; omega)) | ((have f4_c0 := f4.1); (have f4_c1 := f4.2.1); (have f4_c2 := f4.2.2); (first | have f6_b := f6 (by clear f4_c2 f4 hK_0_1 hK_0_160 hK_0_162 hK_0_163 f6 f13; omega) | skip); (first | have f13_b := f13 (by clear f4_c2 f4 hK_0_1 hK_0_160 hK_0_162 hK_0_163 f6 f13; omega) | skip); (first | have f6_d := f6 (by with_reducible assumption) | skip); (first | have f13_d := f13 (by with_reducible assumption) | skip); (try and_intros) <;> first | with_reducible assumption | (clear f4_c2 f4 hK_0_1 hK_0_160 hK_0_162 hK_0_163 f6 f13; omega)) | ((have f4_c0 := f4.1); (have f4_c1 := f4.2.1); (have f4_c2 := f4.2.2); (first | have f6_b := f6 (by clear f4_c2 f4 hK_0_1 hK_0_160 hK_0_162 hK_0_163 f6 f13; omega) | skip); (first | have f13_b := f13 (by clear f4_c2 f4 hK_0_1 hK_0_160 hK_0_162 hK_0_163 f6 f13; omega) | skip); (first | have f6_d := f6 (by with_reducible assumption) | skip); (first | have f13_d := f13 (by with_reducible assumption) | skip); (first | have f4_q := tk_nx0 f4 (by clear f4_c2 f4 hK_0_1 hK_0_160 hK_0_162 hK_0_163 f6 f13; omega) | skip); (try and_intros) <;> first | with_reducible assumption | (clear f4_c2 f4 hK_0_1 hK_0_160 hK_0_162 hK_0_163 f6 f13; omega)) | ((have f4_c0 := f4.1); (have f4_c1 := f4.2.1); (have f4_c2 := f4.2.2); (first | have f6_b := f6 (by clear f4_c2 f4 hK_0_1 hK_0_160 hK_0_162 hK_0_163 f6 f13; omega) | skip); (first | have f13_b := f13 (by clear f4_c2 f4 hK_0_1 hK_0_160 hK_0_162 hK_0_163 f6 f13; omega) | skip); (first | have f6_d := f6 (by with_reducible assumption) | skip); (first | have f13_d := f13 (by with_reducible assumption) | skip); (first | have f4_q := tk_nx0 f4 (by clear f4_c2 f4 hK_0_1 hK_0_160 hK_0_162 hK_0_163 f6 f13; omega) | skip); (first | have f4_r0 := tk_nx1 (c := cur_0) f4.2 (by clear f4_c2 f4 hK_0_1 hK_0_160 hK_0_162 hK_0_163 f6 f13; omega) (by clear f4_c2 f4 hK_0_1 hK_0_160 hK_0_162 hK_0_163 f6 f13; omega) | skip); (try and_intros) <;> first | with_reducible assumption | (clear f4_c2 f4 hK_0_1 hK_0_160 hK_0_162 hK_0_163 f6 f13; omega)) | omega
set_option maxHeartbeats 4000000 in
theorem vc_Mo_rule_at_f0_66_1 (x1 : Int) (x5 : Int) (x6 : Int) (x8 : Int) (x10 : Int) (cur_0 : Int) (fault_0 : Int) (tokenKind_0 : Int → Int) (tokens_0 : Int) (styleKind_0 : Int) (styleOne_0 : Int) (opened_0 : Int) (tokenValue_0 : Int → Int) (tokenPlace_0 : Int → Int) (tokenEnd_0 : Int → Int) (tape_0 : Int → Int) (limit_0 : Int) (k1 : 0 ≤ x1 ∧ x1 ≤ 2009) (k5 : 0 ≤ x5 ∧ x5 ≤ 2009) (k6 : 0 ≤ x6 ∧ x6 ≤ 2010) (k8 : 1 ≤ x8 ∧ x8 ≤ 1) (k10 : 1 ≤ x10 ∧ x10 ≤ 5) (g0 : x5 = cur_0) (f1 : 0 < x10) (g2 : x10 = fault_0) (f3 : x8 ≠ 0) (f4 : ((cur_0 + 1) ≤ tokens_0) ∧ ((tokens_0 ≤ 2010) ∧ ((tokenKind_0 ((tokens_0 - 1)) = 0) ∨ (tokenKind_0 ((tokens_0 - 1)) = 4)))) (f5 : 1 * x1 + ((-1) * cur_0 + 0) ≤ 0) (f6 : (styleKind_0 = 0) → (styleOne_0 ≤ 23)) (f7 : 1 * opened_0 + 0 ≤ 0) (f8 : (-1) * opened_0 + 0 ≤ 0) (f9 : RDW (fault_0) (cur_0) (styleKind_0) (limit_0) (tokenKind_0) (tokenValue_0) (tokenPlace_0) (tokenEnd_0) (tape_0) (x1)) (f11 : 1 * x6 + (1 * cur_0 + 0) ≤ 2010) (f12 : (-1) * x6 + ((-1) * cur_0 + 0) ≤ (-2010)) (f13 : (x8 = 1) → (tokenKind_0 (cur_0) = 1)) (f14 : Wqcolor (fault_0) (cur_0) (limit_0) (tokenKind_0) (tokenPlace_0) (tokenEnd_0) (tape_0) (x8)) (hK_0_1 : ∀ j : Int, 0 ≤ j → j < 2000 → (-128) ≤ tape_0 j ∧ tape_0 j ≤ 127) (hK_0_160 : ∀ j : Int, 0 ≤ j → j < 2010 → 0 ≤ tokenKind_0 j ∧ tokenKind_0 j ≤ 4) (hK_0_162 : ∀ j : Int, 0 ≤ j → j < 2010 → 0 ≤ tokenPlace_0 j ∧ tokenPlace_0 j ≤ 2000) (hK_0_163 : ∀ j : Int, 0 ≤ j → j < 2010 → 0 ≤ tokenEnd_0 j ∧ tokenEnd_0 j ≤ 2000) (kz_0_8 : 0 ≤ fault_0 ∧ fault_0 ≤ 5) (kz_0_10 : 0 ≤ limit_0 ∧ limit_0 ≤ 2000) (kz_0_157 : 0 ≤ tokens_0 ∧ tokens_0 ≤ 2010) (kz_0_158 : 0 ≤ cur_0 ∧ cur_0 ≤ 2009) (kz_0_159 : 0 ≤ opened_0 ∧ opened_0 ≤ 13) (kz_0_164 : 0 ≤ styleKind_0 ∧ styleKind_0 ≤ 1) (kz_0_165 : (-1) ≤ styleOne_0 ∧ styleOne_0 ≤ 47) : 1 * x1 + ((-1) * cur_0 + 0) ≤ 0 := by
  first | with_reducible assumption | ((have f4_c0 := f4.1); (have f4_c1 := f4.2.1); (have f4_c2 := f4.2.2); (try and_intros) <;> first | with_reducible assumption | (clear f4_c2 f4 hK_0_1 hK_0_160 hK_0_162 hK_0_163 f6 f13; omega)) | ((have f4_c0 := f4.1); (have f4_c1 := f4.2.1); (have f4_c2 := f4.2.2); (first | have f6_b := f6 (by clear f4_c2 f4 hK_0_1 hK_0_160 hK_0_162 hK_0_163 f6 f13; omega) | skip); (first | have f13_b := f13 (by clear f4_c2 f4 hK_0_1 hK_0_160 hK_0_162 hK_0_163 f6 f13; omega) | skip); (first | have f6_d := f6 (by with_reducible assumption) | skip); (first | have f13_d := f13 (by with_reducible assumption) | skip); (try and_intros) <;> first | with_reducible assumption | (clear f4_c2 f4 hK_0_1 hK_0_160 hK_0_162 hK_0_163 f6 f13; omega)) | ((have f4_c0 := f4.1); (have f4_c1 := f4.2.1); (have f4_c2 := f4.2.2); (first | have f6_b := f6 (by clear f4_c2 f4 hK_0_1 hK_0_160 hK_0_162 hK_0_163 f6 f13; omega) | skip); (first | have f13_b := f13 (by clear f4_c2 f4 hK_0_1 hK_0_160 hK_0_162 hK_0_163 f6 f13; omega) | skip); (first | have f6_d := f6 (by with_reducible assumption) | skip); (first | have f13_d := f13 (by with_reducible assumption) | skip); (first | have f4_q := tk_nx0 f4 (by clear f4_c2 f4 hK_0_1 hK_0_160 hK_0_162 hK_0_163 f6 f13; omega) | skip); (try and_intros) <;> first | with_reducible assumption | (clear f4_c2 f4 hK_0_1 hK_0_160 hK_0_162 hK_0_163 f6 f13; omega)) | ((have f4_c0 := f4.1); (have f4_c1 := f4.2.1); (have f4_c2 := f4.2.2); (first | have f6_b := f6 (by clear f4_c2 f4 hK_0_1 hK_0_160 hK_0_162 hK_0_163 f6 f13; omega) | skip); (first | have f13_b := f13 (by clear f4_c2 f4 hK_0_1 hK_0_160 hK_0_162 hK_0_163 f6 f13; omega) | skip); (first | have f6_d := f6 (by with_reducible assumption) | skip); (first | have f13_d := f13 (by with_reducible assumption) | skip); (first | have f4_q := tk_nx0 f4 (by clear f4_c2 f4 hK_0_1 hK_0_160 hK_0_162 hK_0_163 f6 f13; omega) | skip); (first | have f4_r0 := tk_nx1 (c := cur_0) f4.2 (by clear f4_c2 f4 hK_0_1 hK_0_160 hK_0_162 hK_0_163 f6 f13; omega) (by clear f4_c2 f4 hK_0_1 hK_0_160 hK_0_162 hK_0_163 f6 f13; omega) | skip); (try and_intros) <;> first | with_reducible assumption | (clear f4_c2 f4 hK_0_1 hK_0_160 hK_0_162 hK_0_163 f6 f13; omega)) | omega
set_option maxHeartbeats 4000000 in
theorem vc_Mo_rule_at_f0_66_2 (x1 : Int) (x5 : Int) (x6 : Int) (x8 : Int) (x10 : Int) (cur_0 : Int) (fault_0 : Int) (tokenKind_0 : Int → Int) (tokens_0 : Int) (styleKind_0 : Int) (styleOne_0 : Int) (opened_0 : Int) (tokenValue_0 : Int → Int) (tokenPlace_0 : Int → Int) (tokenEnd_0 : Int → Int) (tape_0 : Int → Int) (limit_0 : Int) (k1 : 0 ≤ x1 ∧ x1 ≤ 2009) (k5 : 0 ≤ x5 ∧ x5 ≤ 2009) (k6 : 0 ≤ x6 ∧ x6 ≤ 2010) (k8 : 1 ≤ x8 ∧ x8 ≤ 1) (k10 : 1 ≤ x10 ∧ x10 ≤ 5) (g0 : x5 = cur_0) (f1 : 0 < x10) (g2 : x10 = fault_0) (f3 : x8 ≠ 0) (f4 : ((cur_0 + 1) ≤ tokens_0) ∧ ((tokens_0 ≤ 2010) ∧ ((tokenKind_0 ((tokens_0 - 1)) = 0) ∨ (tokenKind_0 ((tokens_0 - 1)) = 4)))) (f5 : 1 * x1 + ((-1) * cur_0 + 0) ≤ 0) (f6 : (styleKind_0 = 0) → (styleOne_0 ≤ 23)) (f7 : 1 * opened_0 + 0 ≤ 0) (f8 : (-1) * opened_0 + 0 ≤ 0) (f9 : RDW (fault_0) (cur_0) (styleKind_0) (limit_0) (tokenKind_0) (tokenValue_0) (tokenPlace_0) (tokenEnd_0) (tape_0) (x1)) (f11 : 1 * x6 + (1 * cur_0 + 0) ≤ 2010) (f12 : (-1) * x6 + ((-1) * cur_0 + 0) ≤ (-2010)) (f13 : (x8 = 1) → (tokenKind_0 (cur_0) = 1)) (f14 : Wqcolor (fault_0) (cur_0) (limit_0) (tokenKind_0) (tokenPlace_0) (tokenEnd_0) (tape_0) (x8)) (hK_0_1 : ∀ j : Int, 0 ≤ j → j < 2000 → (-128) ≤ tape_0 j ∧ tape_0 j ≤ 127) (hK_0_160 : ∀ j : Int, 0 ≤ j → j < 2010 → 0 ≤ tokenKind_0 j ∧ tokenKind_0 j ≤ 4) (hK_0_162 : ∀ j : Int, 0 ≤ j → j < 2010 → 0 ≤ tokenPlace_0 j ∧ tokenPlace_0 j ≤ 2000) (hK_0_163 : ∀ j : Int, 0 ≤ j → j < 2010 → 0 ≤ tokenEnd_0 j ∧ tokenEnd_0 j ≤ 2000) (kz_0_8 : 0 ≤ fault_0 ∧ fault_0 ≤ 5) (kz_0_10 : 0 ≤ limit_0 ∧ limit_0 ≤ 2000) (kz_0_157 : 0 ≤ tokens_0 ∧ tokens_0 ≤ 2010) (kz_0_158 : 0 ≤ cur_0 ∧ cur_0 ≤ 2009) (kz_0_159 : 0 ≤ opened_0 ∧ opened_0 ≤ 13) (kz_0_164 : 0 ≤ styleKind_0 ∧ styleKind_0 ≤ 1) (kz_0_165 : (-1) ≤ styleOne_0 ∧ styleOne_0 ≤ 47) : 1 * opened_0 + 0 ≤ 0 := by
  first | with_reducible assumption | ((have f4_c0 := f4.1); (have f4_c1 := f4.2.1); (have f4_c2 := f4.2.2); (try and_intros) <;> first | with_reducible assumption | (clear f4_c2 f4 hK_0_1 hK_0_160 hK_0_162 hK_0_163 f6 f13; omega)) | ((have f4_c0 := f4.1); (have f4_c1 := f4.2.1); (have f4_c2 := f4.2.2); (first | have f6_b := f6 (by clear f4_c2 f4 hK_0_1 hK_0_160 hK_0_162 hK_0_163 f6 f13; omega) | skip); (first | have f13_b := f13 (by clear f4_c2 f4 hK_0_1 hK_0_160 hK_0_162 hK_0_163 f6 f13; omega) | skip); (first | have f6_d := f6 (by with_reducible assumption) | skip); (first | have f13_d := f13 (by with_reducible assumption) | skip); (try and_intros) <;> first | with_reducible assumption | (clear f4_c2 f4 hK_0_1 hK_0_160 hK_0_162 hK_0_163 f6 f13; omega)) | ((have f4_c0 := f4.1); (have f4_c1 := f4.2.1); (have f4_c2 := f4.2.2); (first | have f6_b := f6 (by clear f4_c2 f4 hK_0_1 hK_0_160 hK_0_162 hK_0_163 f6 f13; omega) | skip); (first | have f13_b := f13 (by clear f4_c2 f4 hK_0_1 hK_0_160 hK_0_162 hK_0_163 f6 f13; omega) | skip); (first | have f6_d := f6 (by with_reducible assumption) | skip); (first | have f13_d := f13 (by with_reducible assumption) | skip); (first | have f4_q := tk_nx0 f4 (by clear f4_c2 f4 hK_0_1 hK_0_160 hK_0_162 hK_0_163 f6 f13; omega) | skip); (try and_intros) <;> first | with_reducible assumption | (clear f4_c2 f4 hK_0_1 hK_0_160 hK_0_162 hK_0_163 f6 f13; omega)) | ((have f4_c0 := f4.1); (have f4_c1 := f4.2.1); (have f4_c2 := f4.2.2); (first | have f6_b := f6 (by clear f4_c2 f4 hK_0_1 hK_0_160 hK_0_162 hK_0_163 f6 f13; omega) | skip); (first | have f13_b := f13 (by clear f4_c2 f4 hK_0_1 hK_0_160 hK_0_162 hK_0_163 f6 f13; omega) | skip); (first | have f6_d := f6 (by with_reducible assumption) | skip); (first | have f13_d := f13 (by with_reducible assumption) | skip); (first | have f4_q := tk_nx0 f4 (by clear f4_c2 f4 hK_0_1 hK_0_160 hK_0_162 hK_0_163 f6 f13; omega) | skip); (first | have f4_r0 := tk_nx1 (c := cur_0) f4.2 (by clear f4_c2 f4 hK_0_1 hK_0_160 hK_0_162 hK_0_163 f6 f13; omega) (by clear f4_c2 f4 hK_0_1 hK_0_160 hK_0_162 hK_0_163 f6 f13; omega) | skip); (try and_intros) <;> first | with_reducible assumption | (clear f4_c2 f4 hK_0_1 hK_0_160 hK_0_162 hK_0_163 f6 f13; omega)) | omega
set_option maxHeartbeats 4000000 in
theorem vc_Mo_rule_at_f0_66_3 (x1 : Int) (x5 : Int) (x6 : Int) (x8 : Int) (x10 : Int) (cur_0 : Int) (fault_0 : Int) (tokenKind_0 : Int → Int) (tokens_0 : Int) (styleKind_0 : Int) (styleOne_0 : Int) (opened_0 : Int) (tokenValue_0 : Int → Int) (tokenPlace_0 : Int → Int) (tokenEnd_0 : Int → Int) (tape_0 : Int → Int) (limit_0 : Int) (k1 : 0 ≤ x1 ∧ x1 ≤ 2009) (k5 : 0 ≤ x5 ∧ x5 ≤ 2009) (k6 : 0 ≤ x6 ∧ x6 ≤ 2010) (k8 : 1 ≤ x8 ∧ x8 ≤ 1) (k10 : 1 ≤ x10 ∧ x10 ≤ 5) (g0 : x5 = cur_0) (f1 : 0 < x10) (g2 : x10 = fault_0) (f3 : x8 ≠ 0) (f4 : ((cur_0 + 1) ≤ tokens_0) ∧ ((tokens_0 ≤ 2010) ∧ ((tokenKind_0 ((tokens_0 - 1)) = 0) ∨ (tokenKind_0 ((tokens_0 - 1)) = 4)))) (f5 : 1 * x1 + ((-1) * cur_0 + 0) ≤ 0) (f6 : (styleKind_0 = 0) → (styleOne_0 ≤ 23)) (f7 : 1 * opened_0 + 0 ≤ 0) (f8 : (-1) * opened_0 + 0 ≤ 0) (f9 : RDW (fault_0) (cur_0) (styleKind_0) (limit_0) (tokenKind_0) (tokenValue_0) (tokenPlace_0) (tokenEnd_0) (tape_0) (x1)) (f11 : 1 * x6 + (1 * cur_0 + 0) ≤ 2010) (f12 : (-1) * x6 + ((-1) * cur_0 + 0) ≤ (-2010)) (f13 : (x8 = 1) → (tokenKind_0 (cur_0) = 1)) (f14 : Wqcolor (fault_0) (cur_0) (limit_0) (tokenKind_0) (tokenPlace_0) (tokenEnd_0) (tape_0) (x8)) (hK_0_1 : ∀ j : Int, 0 ≤ j → j < 2000 → (-128) ≤ tape_0 j ∧ tape_0 j ≤ 127) (hK_0_160 : ∀ j : Int, 0 ≤ j → j < 2010 → 0 ≤ tokenKind_0 j ∧ tokenKind_0 j ≤ 4) (hK_0_162 : ∀ j : Int, 0 ≤ j → j < 2010 → 0 ≤ tokenPlace_0 j ∧ tokenPlace_0 j ≤ 2000) (hK_0_163 : ∀ j : Int, 0 ≤ j → j < 2010 → 0 ≤ tokenEnd_0 j ∧ tokenEnd_0 j ≤ 2000) (kz_0_8 : 0 ≤ fault_0 ∧ fault_0 ≤ 5) (kz_0_10 : 0 ≤ limit_0 ∧ limit_0 ≤ 2000) (kz_0_157 : 0 ≤ tokens_0 ∧ tokens_0 ≤ 2010) (kz_0_158 : 0 ≤ cur_0 ∧ cur_0 ≤ 2009) (kz_0_159 : 0 ≤ opened_0 ∧ opened_0 ≤ 13) (kz_0_164 : 0 ≤ styleKind_0 ∧ styleKind_0 ≤ 1) (kz_0_165 : (-1) ≤ styleOne_0 ∧ styleOne_0 ≤ 47) : (-1) * opened_0 + 0 ≤ 0 := by
  first | with_reducible assumption | ((have f4_c0 := f4.1); (have f4_c1 := f4.2.1); (have f4_c2 := f4.2.2); (try and_intros) <;> first | with_reducible assumption | (clear f4_c2 f4 hK_0_1 hK_0_160 hK_0_162 hK_0_163 f6 f13; omega)) | ((have f4_c0 := f4.1); (have f4_c1 := f4.2.1); (have f4_c2 := f4.2.2); (first | have f6_b := f6 (by clear f4_c2 f4 hK_0_1 hK_0_160 hK_0_162 hK_0_163 f6 f13; omega) | skip); (first | have f13_b := f13 (by clear f4_c2 f4 hK_0_1 hK_0_160 hK_0_162 hK_0_163 f6 f13; omega) | skip); (first | have f6_d := f6 (by with_reducible assumption) | skip); (first | have f13_d := f13 (by with_reducible assumption) | skip); (try and_intros) <;> first | with_reducible assumption | (clear f4_c2 f4 hK_0_1 hK_0_160 hK_0_162 hK_0_163 f6 f13; omega)) | ((have f4_c0 := f4.1); (have f4_c1 := f4.2.1); (have f4_c2 := f4.2.2); (first | have f6_b := f6 (by clear f4_c2 f4 hK_0_1 hK_0_160 hK_0_162 hK_0_163 f6 f13; omega) | skip); (first | have f13_b := f13 (by clear f4_c2 f4 hK_0_1 hK_0_160 hK_0_162 hK_0_163 f6 f13; omega) | skip); (first | have f6_d := f6 (by with_reducible assumption) | skip); (first | have f13_d := f13 (by with_reducible assumption) | skip); (first | have f4_q := tk_nx0 f4 (by clear f4_c2 f4 hK_0_1 hK_0_160 hK_0_162 hK_0_163 f6 f13; omega) | skip); (try and_intros) <;> first | with_reducible assumption | (clear f4_c2 f4 hK_0_1 hK_0_160 hK_0_162 hK_0_163 f6 f13; omega)) | ((have f4_c0 := f4.1); (have f4_c1 := f4.2.1); (have f4_c2 := f4.2.2); (first | have f6_b := f6 (by clear f4_c2 f4 hK_0_1 hK_0_160 hK_0_162 hK_0_163 f6 f13; omega) | skip); (first | have f13_b := f13 (by clear f4_c2 f4 hK_0_1 hK_0_160 hK_0_162 hK_0_163 f6 f13; omega) | skip); (first | have f6_d := f6 (by with_reducible assumption) | skip); (first | have f13_d := f13 (by with_reducible assumption) | skip); (first | have f4_q := tk_nx0 f4 (by clear f4_c2 f4 hK_0_1 hK_0_160 hK_0_162 hK_0_163 f6 f13; omega) | skip); (first | have f4_r0 := tk_nx1 (c := cur_0) f4.2 (by clear f4_c2 f4 hK_0_1 hK_0_160 hK_0_162 hK_0_163 f6 f13; omega) (by clear f4_c2 f4 hK_0_1 hK_0_160 hK_0_162 hK_0_163 f6 f13; omega) | skip); (try and_intros) <;> first | with_reducible assumption | (clear f4_c2 f4 hK_0_1 hK_0_160 hK_0_162 hK_0_163 f6 f13; omega)) | omega
set_option maxHeartbeats 4000000 in
theorem vc_Mo_rule_at_f0_66_4 (x1 : Int) (x5 : Int) (x6 : Int) (x8 : Int) (x10 : Int) (cur_0 : Int) (fault_0 : Int) (tokenKind_0 : Int → Int) (tokens_0 : Int) (styleKind_0 : Int) (styleOne_0 : Int) (opened_0 : Int) (tokenValue_0 : Int → Int) (tokenPlace_0 : Int → Int) (tokenEnd_0 : Int → Int) (tape_0 : Int → Int) (limit_0 : Int) (k1 : 0 ≤ x1 ∧ x1 ≤ 2009) (k5 : 0 ≤ x5 ∧ x5 ≤ 2009) (k6 : 0 ≤ x6 ∧ x6 ≤ 2010) (k8 : 1 ≤ x8 ∧ x8 ≤ 1) (k10 : 1 ≤ x10 ∧ x10 ≤ 5) (g0 : x5 = cur_0) (f1 : 0 < x10) (g2 : x10 = fault_0) (f3 : x8 ≠ 0) (f4 : ((cur_0 + 1) ≤ tokens_0) ∧ ((tokens_0 ≤ 2010) ∧ ((tokenKind_0 ((tokens_0 - 1)) = 0) ∨ (tokenKind_0 ((tokens_0 - 1)) = 4)))) (f5 : 1 * x1 + ((-1) * cur_0 + 0) ≤ 0) (f6 : (styleKind_0 = 0) → (styleOne_0 ≤ 23)) (f7 : 1 * opened_0 + 0 ≤ 0) (f8 : (-1) * opened_0 + 0 ≤ 0) (f9 : RDW (fault_0) (cur_0) (styleKind_0) (limit_0) (tokenKind_0) (tokenValue_0) (tokenPlace_0) (tokenEnd_0) (tape_0) (x1)) (f11 : 1 * x6 + (1 * cur_0 + 0) ≤ 2010) (f12 : (-1) * x6 + ((-1) * cur_0 + 0) ≤ (-2010)) (f13 : (x8 = 1) → (tokenKind_0 (cur_0) = 1)) (f14 : Wqcolor (fault_0) (cur_0) (limit_0) (tokenKind_0) (tokenPlace_0) (tokenEnd_0) (tape_0) (x8)) (hK_0_1 : ∀ j : Int, 0 ≤ j → j < 2000 → (-128) ≤ tape_0 j ∧ tape_0 j ≤ 127) (hK_0_160 : ∀ j : Int, 0 ≤ j → j < 2010 → 0 ≤ tokenKind_0 j ∧ tokenKind_0 j ≤ 4) (hK_0_162 : ∀ j : Int, 0 ≤ j → j < 2010 → 0 ≤ tokenPlace_0 j ∧ tokenPlace_0 j ≤ 2000) (hK_0_163 : ∀ j : Int, 0 ≤ j → j < 2010 → 0 ≤ tokenEnd_0 j ∧ tokenEnd_0 j ≤ 2000) (kz_0_8 : 0 ≤ fault_0 ∧ fault_0 ≤ 5) (kz_0_10 : 0 ≤ limit_0 ∧ limit_0 ≤ 2000) (kz_0_157 : 0 ≤ tokens_0 ∧ tokens_0 ≤ 2010) (kz_0_158 : 0 ≤ cur_0 ∧ cur_0 ≤ 2009) (kz_0_159 : 0 ≤ opened_0 ∧ opened_0 ≤ 13) (kz_0_164 : 0 ≤ styleKind_0 ∧ styleKind_0 ≤ 1) (kz_0_165 : (-1) ≤ styleOne_0 ∧ styleOne_0 ≤ 47) : ((-1) * fault_0 + 0 ≤ (-1)) ∨ (1 * x1 + ((-1) * cur_0 + 0) ≤ (-1)) := by
  first | with_reducible assumption | ((have f4_c0 := f4.1); (have f4_c1 := f4.2.1); (have f4_c2 := f4.2.2); (try and_intros) <;> first | with_reducible assumption | (clear f4_c2 f4 hK_0_1 hK_0_160 hK_0_162 hK_0_163 f6 f13; omega)) | ((have f4_c0 := f4.1); (have f4_c1 := f4.2.1); (have f4_c2 := f4.2.2); (first | have f6_b := f6 (by clear f4_c2 f4 hK_0_1 hK_0_160 hK_0_162 hK_0_163 f6 f13; omega) | skip); (first | have f13_b := f13 (by clear f4_c2 f4 hK_0_1 hK_0_160 hK_0_162 hK_0_163 f6 f13; omega) | skip); (first | have f6_d := f6 (by with_reducible assumption) | skip); (first | have f13_d := f13 (by with_reducible assumption) | skip); (try and_intros) <;> first | with_reducible assumption | (clear f4_c2 f4 hK_0_1 hK_0_160 hK_0_162 hK_0_163 f6 f13; omega)) | ((have f4_c0 := f4.1); (have f4_c1 := f4.2.1); (have f4_c2 := f4.2.2); (first | have f6_b := f6 (by clear f4_c2 f4 hK_0_1 hK_0_160 hK_0_162 hK_0_163 f6 f13; omega) | skip); (first | have f13_b := f13 (by clear f4_c2 f4 hK_0_1 hK_0_160 hK_0_162 hK_0_163 f6 f13; omega) | skip); (first | have f6_d := f6 (by with_reducible assumption) | skip); (first | have f13_d := f13 (by with_reducible assumption) | skip); (first | have f4_q := tk_nx0 f4 (by clear f4_c2 f4 hK_0_1 hK_0_160 hK_0_162 hK_0_163 f6 f13; omega) | skip); (try and_intros) <;> first | with_reducible assumption | (clear f4_c2 f4 hK_0_1 hK_0_160 hK_0_162 hK_0_163 f6 f13; omega)) | ((have f4_c0 := f4.1); (have f4_c1 := f4.2.1); (have f4_c2 := f4.2.2); (first | have f6_b := f6 (by clear f4_c2 f4 hK_0_1 hK_0_160 hK_0_162 hK_0_163 f6 f13; omega) | skip); (first | have f13_b := f13 (by clear f4_c2 f4 hK_0_1 hK_0_160 hK_0_162 hK_0_163 f6 f13; omega) | skip); (first | have f6_d := f6 (by with_reducible assumption) | skip); (first | have f13_d := f13 (by with_reducible assumption) | skip); (first | have f4_q := tk_nx0 f4 (by clear f4_c2 f4 hK_0_1 hK_0_160 hK_0_162 hK_0_163 f6 f13; omega) | skip); (first | have f4_r0 := tk_nx1 (c := cur_0) f4.2 (by clear f4_c2 f4 hK_0_1 hK_0_160 hK_0_162 hK_0_163 f6 f13; omega) (by clear f4_c2 f4 hK_0_1 hK_0_160 hK_0_162 hK_0_163 f6 f13; omega) | skip); (try and_intros) <;> first | with_reducible assumption | (clear f4_c2 f4 hK_0_1 hK_0_160 hK_0_162 hK_0_163 f6 f13; omega)) | omega
set_option maxHeartbeats 4000000 in
theorem vc_Mo_rule_at_f0_66_5 (x1 : Int) (x5 : Int) (x6 : Int) (x8 : Int) (x10 : Int) (cur_0 : Int) (fault_0 : Int) (tokenKind_0 : Int → Int) (tokens_0 : Int) (styleKind_0 : Int) (styleOne_0 : Int) (opened_0 : Int) (tokenValue_0 : Int → Int) (tokenPlace_0 : Int → Int) (tokenEnd_0 : Int → Int) (tape_0 : Int → Int) (limit_0 : Int) (k1 : 0 ≤ x1 ∧ x1 ≤ 2009) (k5 : 0 ≤ x5 ∧ x5 ≤ 2009) (k6 : 0 ≤ x6 ∧ x6 ≤ 2010) (k8 : 1 ≤ x8 ∧ x8 ≤ 1) (k10 : 1 ≤ x10 ∧ x10 ≤ 5) (g0 : x5 = cur_0) (f1 : 0 < x10) (g2 : x10 = fault_0) (f3 : x8 ≠ 0) (f4 : ((cur_0 + 1) ≤ tokens_0) ∧ ((tokens_0 ≤ 2010) ∧ ((tokenKind_0 ((tokens_0 - 1)) = 0) ∨ (tokenKind_0 ((tokens_0 - 1)) = 4)))) (f5 : 1 * x1 + ((-1) * cur_0 + 0) ≤ 0) (f6 : (styleKind_0 = 0) → (styleOne_0 ≤ 23)) (f7 : 1 * opened_0 + 0 ≤ 0) (f8 : (-1) * opened_0 + 0 ≤ 0) (f9 : RDW (fault_0) (cur_0) (styleKind_0) (limit_0) (tokenKind_0) (tokenValue_0) (tokenPlace_0) (tokenEnd_0) (tape_0) (x1)) (f11 : 1 * x6 + (1 * cur_0 + 0) ≤ 2010) (f12 : (-1) * x6 + ((-1) * cur_0 + 0) ≤ (-2010)) (f13 : (x8 = 1) → (tokenKind_0 (cur_0) = 1)) (f14 : Wqcolor (fault_0) (cur_0) (limit_0) (tokenKind_0) (tokenPlace_0) (tokenEnd_0) (tape_0) (x8)) (hK_0_1 : ∀ j : Int, 0 ≤ j → j < 2000 → (-128) ≤ tape_0 j ∧ tape_0 j ≤ 127) (hK_0_160 : ∀ j : Int, 0 ≤ j → j < 2010 → 0 ≤ tokenKind_0 j ∧ tokenKind_0 j ≤ 4) (hK_0_162 : ∀ j : Int, 0 ≤ j → j < 2010 → 0 ≤ tokenPlace_0 j ∧ tokenPlace_0 j ≤ 2000) (hK_0_163 : ∀ j : Int, 0 ≤ j → j < 2010 → 0 ≤ tokenEnd_0 j ∧ tokenEnd_0 j ≤ 2000) (kz_0_8 : 0 ≤ fault_0 ∧ fault_0 ≤ 5) (kz_0_10 : 0 ≤ limit_0 ∧ limit_0 ≤ 2000) (kz_0_157 : 0 ≤ tokens_0 ∧ tokens_0 ≤ 2010) (kz_0_158 : 0 ≤ cur_0 ∧ cur_0 ≤ 2009) (kz_0_159 : 0 ≤ opened_0 ∧ opened_0 ≤ 13) (kz_0_164 : 0 ≤ styleKind_0 ∧ styleKind_0 ≤ 1) (kz_0_165 : (-1) ≤ styleOne_0 ∧ styleOne_0 ≤ 47) : RUL (fault_0) (cur_0) (limit_0) (tokenKind_0) (tokenValue_0) (tokenPlace_0) (tokenEnd_0) (tape_0) (x1) := by
  first
    | exact ru0_go (‹RU0 _ _ _ _ _ _ _›) (by omega)
    | exact ru3_go (‹RU3 _ _ _ _ _ _ _ _ _›) (‹SND _ _ _ _ _ _ _›) (by omega)
    | (exfalso; have h := (wdq_y (‹Wqcolor _ _ _ _ _ _ _ _›) (by omega)).1; omega)
    | (exfalso; have h := (wdq_y (‹Wqwidth _ _ _ _ _ _ _ _›) (by omega)).1; omega)
    | (exfalso; have h := (wdq_y (‹Wqform _ _ _ _ _ _ _ _›) (by omega)).1; omega)
  
def o_Mo_rule_at_f0_66 : or_T := (175, 11, [(0, (2, 0, 0, [165])), (1, (0, 0, 2009, [])), (5, (0, 0, 2009, [])), (6, (0, 0, 2010, [])), (8, (0, 1, 1, [])), (10, (0, 1, 5, []))], [(9, [5, 2], [158]), (8, [10], [4]), (9, [10, 2], [8]), (8, [8], [1]), (20, [2], [50, 2, 1, 158, 157, 160, 2, 12, 0, 7, 4, 3, 2, 0, 158, 0, 1, 2, 0, 157, 2, 7, 0, 3, 2, 0, 157, 0, 2010, 3, 14, 1, 10, 3, 0, 160, 5, 3, 2, 0, 157, 0, 1, 0, 0, 1, 10, 3, 0, 160, 5, 3, 2, 0, 157, 0, 1, 0, 4]), (20, [1, 2], [30, 0, 1, 0, 0, -1, 1, 158]), (20, [2], [50, 2, 0, 164, 165, 4, 7, 1, 3, 2, 0, 164, 0, 0, 0, 3, 2, 0, 165, 0, 23]), (20, [2], [30, 0, 1, 1, 159]), (20, [2], [30, 0, -1, 1, 159]), (20, [2, 1], [60, 4, 5, 67, 8, 158, 164, 10, 160, 161, 162, 163, 1]), (24, [0, 2], []), (20, [6, 2], [30, 2010, 1, 0, 0, 1, 1, 158]), (20, [6, 2], [30, -2010, -1, 0, 0, -1, 1, 158]), (20, [8, 2], [50, 1, 1, 1158, 1160, 4, 6, 1, 2, 1, 0, 0, 1, 1, 6, 3, 1, 160, 2, 1, 158, 0, 1]), (20, [2, 8], [60, 3, 4, 22, 8, 158, 10, 160, 162, 163, 1])], [], [], [(20, [0], [50, 2, 1, 158, 157, 160, 2, 12, 0, 7, 4, 3, 2, 0, 158, 0, 1, 2, 0, 157, 2, 7, 0, 3, 2, 0, 157, 0, 2010, 3, 14, 1, 10, 3, 0, 160, 5, 3, 2, 0, 157, 0, 1, 0, 0, 1, 10, 3, 0, 160, 5, 3, 2, 0, 157, 0, 1, 0, 4]), (20, [1, 0], [30, 0, 1, 0, 0, -1, 1, 158]), (20, [0], [30, 0, 1, 1, 159]), (20, [0], [30, 0, -1, 1, 159]), (20, [0, 1, 0], [31, 1, -1, -1, 1, 8, -1, 1, 0, 0, -1, 1, 158]), (20, [0, 1], [60, 3, 5, 64, 8, 158, 10, 160, 161, 162, 163, 1])], [], [])
theorem oo_Mo_rule_at_f0_66 {kA : Nat → ClassId} : or_ok PRD kA GG o_Mo_rule_at_f0_66 := by
  refine or_mk fun A ta ws vs hD hth hl => ?_
  intro t0 r0 t1 k1 t5 k5 t6 k6 t8 k8 t10 k10 f0 f1 f2 f3 f4 f5 f6 f7 f8 f9 f10 f11 f12 f13 f14
  replace f0 := shm_286 f0
  replace f2 := shm_293 f2
  replace f4 := shm_271 f4
  replace f5 := shm_281 f5
  replace f6 := shm_274 f6
  replace f7 := shm_1029 f7
  replace f8 := shm_1030 f8
  replace f9 := shm_2266 f9
  replace f10 := shm_5 f10
  replace f11 := shm_284 f11
  replace f12 := shm_285 f12
  replace f13 := shm_287 f13
  replace f14 := shm_1884 f14
  have q2 : n_v vs 2 = n_v vs 0 := f10.symm
  simp only [q2] at f0 f2 f4 f5 f6 f7 f8 f9 f11 f12 f13 f14
  have cr_0_1 := fdq_39 hD hth r0
  have cr_0_160 := fdq_33 hD hth r0
  have cr_0_162 := fdq_41 hD hth r0
  have cr_0_163 := fdq_42 hD hth r0
  have g0 : v_iv (n_v vs 5) = w_fi ws (n_v vs 0) 158 := congrArg v_iv f0
  have g2 : v_iv (n_v vs 10) = w_fi ws (n_v vs 0) 8 := congrArg v_iv f2
  have hK_0_1 := elq_7 hD hth cr_0_1
  have hK_0_160 := elq_6 hD hth cr_0_160
  have hK_0_162 := elq_8 hD hth cr_0_162
  have hK_0_163 := elq_9 hD hth cr_0_163
  have kz_0_8 := fdq_34 hD hth r0
  have kz_0_10 := fdq_43 hD hth r0
  have kz_0_157 := fdq_35 hD hth r0
  have kz_0_158 := fdq_36 hD hth r0
  have kz_0_159 := fdq_37 hD hth r0
  have kz_0_164 := fdq_38 hD hth r0
  have kz_0_165 := fdq_27 hD hth r0
  have nf0 : fc_1 PRD (20, [0], [50, 2, 1, 158, 157, 160, 2, 12, 0, 7, 4, 3, 2, 0, 158, 0, 1, 2, 0, 157, 2, 7, 0, 3, 2, 0, 157, 0, 2010, 3, 14, 1, 10, 3, 0, 160, 5, 3, 2, 0, 157, 0, 1, 0, 0, 1, 10, 3, 0, 160, 5, 3, 2, 0, 157, 0, 1, 0, 4]) ws (vs) := ⟨nf_in hl rfl, sgq_271 (vc_Mo_rule_at_f0_66_0 (v_iv (n_v vs 1)) (v_iv (n_v vs 5)) (v_iv (n_v vs 6)) (v_iv (n_v vs 8)) (v_iv (n_v vs 10)) (w_fi ws (n_v vs 0) 158) (w_fi ws (n_v vs 0) 8) (w_ei ws (w_ar ws (n_v vs 0) 160)) (w_fi ws (n_v vs 0) 157) (w_fi ws (n_v vs 0) 164) (w_fi ws (n_v vs 0) 165) (w_fi ws (n_v vs 0) 159) (w_ei ws (w_ar ws (n_v vs 0) 161)) (w_ei ws (w_ar ws (n_v vs 0) 162)) (w_ei ws (w_ar ws (n_v vs 0) 163)) (w_ei ws (w_ar ws (n_v vs 0) 1)) (w_fi ws (n_v vs 0) 10) k1 k5 k6 k8 k10 g0 (shm_308 f1) g2 (shm_142 f3) f4 f5 f6 f7 f8 f9 f11 f12 f13 f14 hK_0_1 hK_0_160 hK_0_162 hK_0_163 kz_0_8 kz_0_10 kz_0_157 kz_0_158 kz_0_159 kz_0_164 kz_0_165)⟩
  have nf1 : fc_1 PRD (20, [1, 0], [30, 0, 1, 0, 0, -1, 1, 158]) ws (vs) := ⟨nf_in hl rfl, sgq_281 (vc_Mo_rule_at_f0_66_1 (v_iv (n_v vs 1)) (v_iv (n_v vs 5)) (v_iv (n_v vs 6)) (v_iv (n_v vs 8)) (v_iv (n_v vs 10)) (w_fi ws (n_v vs 0) 158) (w_fi ws (n_v vs 0) 8) (w_ei ws (w_ar ws (n_v vs 0) 160)) (w_fi ws (n_v vs 0) 157) (w_fi ws (n_v vs 0) 164) (w_fi ws (n_v vs 0) 165) (w_fi ws (n_v vs 0) 159) (w_ei ws (w_ar ws (n_v vs 0) 161)) (w_ei ws (w_ar ws (n_v vs 0) 162)) (w_ei ws (w_ar ws (n_v vs 0) 163)) (w_ei ws (w_ar ws (n_v vs 0) 1)) (w_fi ws (n_v vs 0) 10) k1 k5 k6 k8 k10 g0 (shm_308 f1) g2 (shm_142 f3) f4 f5 f6 f7 f8 f9 f11 f12 f13 f14 hK_0_1 hK_0_160 hK_0_162 hK_0_163 kz_0_8 kz_0_10 kz_0_157 kz_0_158 kz_0_159 kz_0_164 kz_0_165)⟩
  have nf2 : fc_1 PRD (20, [0], [30, 0, 1, 1, 159]) ws (vs) := ⟨nf_in hl rfl, sgq_1029 (vc_Mo_rule_at_f0_66_2 (v_iv (n_v vs 1)) (v_iv (n_v vs 5)) (v_iv (n_v vs 6)) (v_iv (n_v vs 8)) (v_iv (n_v vs 10)) (w_fi ws (n_v vs 0) 158) (w_fi ws (n_v vs 0) 8) (w_ei ws (w_ar ws (n_v vs 0) 160)) (w_fi ws (n_v vs 0) 157) (w_fi ws (n_v vs 0) 164) (w_fi ws (n_v vs 0) 165) (w_fi ws (n_v vs 0) 159) (w_ei ws (w_ar ws (n_v vs 0) 161)) (w_ei ws (w_ar ws (n_v vs 0) 162)) (w_ei ws (w_ar ws (n_v vs 0) 163)) (w_ei ws (w_ar ws (n_v vs 0) 1)) (w_fi ws (n_v vs 0) 10) k1 k5 k6 k8 k10 g0 (shm_308 f1) g2 (shm_142 f3) f4 f5 f6 f7 f8 f9 f11 f12 f13 f14 hK_0_1 hK_0_160 hK_0_162 hK_0_163 kz_0_8 kz_0_10 kz_0_157 kz_0_158 kz_0_159 kz_0_164 kz_0_165)⟩
  have nf3 : fc_1 PRD (20, [0], [30, 0, -1, 1, 159]) ws (vs) := ⟨nf_in hl rfl, sgq_1030 (vc_Mo_rule_at_f0_66_3 (v_iv (n_v vs 1)) (v_iv (n_v vs 5)) (v_iv (n_v vs 6)) (v_iv (n_v vs 8)) (v_iv (n_v vs 10)) (w_fi ws (n_v vs 0) 158) (w_fi ws (n_v vs 0) 8) (w_ei ws (w_ar ws (n_v vs 0) 160)) (w_fi ws (n_v vs 0) 157) (w_fi ws (n_v vs 0) 164) (w_fi ws (n_v vs 0) 165) (w_fi ws (n_v vs 0) 159) (w_ei ws (w_ar ws (n_v vs 0) 161)) (w_ei ws (w_ar ws (n_v vs 0) 162)) (w_ei ws (w_ar ws (n_v vs 0) 163)) (w_ei ws (w_ar ws (n_v vs 0) 1)) (w_fi ws (n_v vs 0) 10) k1 k5 k6 k8 k10 g0 (shm_308 f1) g2 (shm_142 f3) f4 f5 f6 f7 f8 f9 f11 f12 f13 f14 hK_0_1 hK_0_160 hK_0_162 hK_0_163 kz_0_8 kz_0_10 kz_0_157 kz_0_158 kz_0_159 kz_0_164 kz_0_165)⟩
  have nf4 : fc_1 PRD (20, [0, 1, 0], [31, 1, -1, -1, 1, 8, -1, 1, 0, 0, -1, 1, 158]) ws (vs) := ⟨nf_in hl rfl, sgq_2268 (vc_Mo_rule_at_f0_66_4 (v_iv (n_v vs 1)) (v_iv (n_v vs 5)) (v_iv (n_v vs 6)) (v_iv (n_v vs 8)) (v_iv (n_v vs 10)) (w_fi ws (n_v vs 0) 158) (w_fi ws (n_v vs 0) 8) (w_ei ws (w_ar ws (n_v vs 0) 160)) (w_fi ws (n_v vs 0) 157) (w_fi ws (n_v vs 0) 164) (w_fi ws (n_v vs 0) 165) (w_fi ws (n_v vs 0) 159) (w_ei ws (w_ar ws (n_v vs 0) 161)) (w_ei ws (w_ar ws (n_v vs 0) 162)) (w_ei ws (w_ar ws (n_v vs 0) 163)) (w_ei ws (w_ar ws (n_v vs 0) 1)) (w_fi ws (n_v vs 0) 10) k1 k5 k6 k8 k10 g0 (shm_308 f1) g2 (shm_142 f3) f4 f5 f6 f7 f8 f9 f11 f12 f13 f14 hK_0_1 hK_0_160 hK_0_162 hK_0_163 kz_0_8 kz_0_10 kz_0_157 kz_0_158 kz_0_159 kz_0_164 kz_0_165)⟩
  have nf5 : fc_1 PRD (20, [0, 1], [60, 3, 5, 64, 8, 158, 10, 160, 161, 162, 163, 1]) ws (vs) := ⟨nf_in hl rfl, sgq_2269 (vc_Mo_rule_at_f0_66_5 (v_iv (n_v vs 1)) (v_iv (n_v vs 5)) (v_iv (n_v vs 6)) (v_iv (n_v vs 8)) (v_iv (n_v vs 10)) (w_fi ws (n_v vs 0) 158) (w_fi ws (n_v vs 0) 8) (w_ei ws (w_ar ws (n_v vs 0) 160)) (w_fi ws (n_v vs 0) 157) (w_fi ws (n_v vs 0) 164) (w_fi ws (n_v vs 0) 165) (w_fi ws (n_v vs 0) 159) (w_ei ws (w_ar ws (n_v vs 0) 161)) (w_ei ws (w_ar ws (n_v vs 0) 162)) (w_ei ws (w_ar ws (n_v vs 0) 163)) (w_ei ws (w_ar ws (n_v vs 0) 1)) (w_fi ws (n_v vs 0) 10) k1 k5 k6 k8 k10 g0 (shm_308 f1) g2 (shm_142 f3) f4 f5 f6 f7 f8 f9 f11 f12 f13 f14 hK_0_1 hK_0_160 hK_0_162 hK_0_163 kz_0_8 kz_0_10 kz_0_157 kz_0_158 kz_0_159 kz_0_164 kz_0_165)⟩
  refine ⟨(fun _ h => (by cases h)), [], trivial, ?_, (fun _ h => (by cases h))⟩
  rw [List.append_nil]
  exact List.forall_mem_cons.mpr ⟨⟨show (20 : Nat) < 100 from by decide, nf0⟩, List.forall_mem_cons.mpr ⟨⟨show (20 : Nat) < 100 from by decide, nf1⟩, List.forall_mem_cons.mpr ⟨⟨show (20 : Nat) < 100 from by decide, nf2⟩, List.forall_mem_cons.mpr ⟨⟨show (20 : Nat) < 100 from by decide, nf3⟩, List.forall_mem_cons.mpr ⟨⟨show (20 : Nat) < 100 from by decide, nf4⟩, List.forall_mem_cons.mpr ⟨⟨show (20 : Nat) < 100 from by decide, nf5⟩, (fun _ h => (by cases h))⟩⟩⟩⟩⟩⟩
set_option maxHeartbeats 4000000 in
theorem vc_Mo_rule_at_f0_67_0 (x1 : Int) (x7 : Int) (x8 : Int) (fault_0 : Int) (tokenKind_0 : Int → Int) (cur_0 : Int) (tokens_0 : Int) (styleKind_0 : Int) (styleOne_0 : Int) (opened_0 : Int) (tokenValue_0 : Int → Int) (tokenPlace_0 : Int → Int) (tokenEnd_0 : Int → Int) (tape_0 : Int → Int) (limit_0 : Int) (gx : Int) (gy : Int) (k1 : 0 ≤ x1 ∧ x1 ≤ 2009) (k7 : 0 ≤ x7 ∧ x7 ≤ 5) (k8 : 0 ≤ x8 ∧ x8 ≤ 2010) (g0 : x7 = fault_0) (f1 : ((cur_0 + 1) ≤ tokens_0) ∧ ((tokens_0 ≤ 2010) ∧ ((tokenKind_0 ((tokens_0 - 1)) = 0) ∨ (tokenKind_0 ((tokens_0 - 1)) = 4)))) (f2 : 1 * x1 + ((-1) * cur_0 + 0) ≤ 0) (f3 : (styleKind_0 = 0) → (styleOne_0 ≤ 23)) (f4 : 1 * opened_0 + 0 ≤ 0) (f5 : (-1) * opened_0 + 0 ≤ 0) (f6 : (-1) * x8 + ((-1) * cur_0 + 0) ≤ (-2011)) (f7 : RDL (fault_0) (cur_0) (styleKind_0) (limit_0) (tokenKind_0) (tokenValue_0) (tokenPlace_0) (tokenEnd_0) (tape_0) (x1)) (hK_0_1 : ∀ j : Int, 0 ≤ j → j < 2000 → (-128) ≤ tape_0 j ∧ tape_0 j ≤ 127) (hK_0_160 : ∀ j : Int, 0 ≤ j → j < 2010 → 0 ≤ tokenKind_0 j ∧ tokenKind_0 j ≤ 4) (hK_0_162 : ∀ j : Int, 0 ≤ j → j < 2010 → 0 ≤ tokenPlace_0 j ∧ tokenPlace_0 j ≤ 2000) (hK_0_163 : ∀ j : Int, 0 ≤ j → j < 2010 → 0 ≤ tokenEnd_0 j ∧ tokenEnd_0 j ≤ 2000) (kz_0_8 : 0 ≤ fault_0 ∧ fault_0 ≤ 5) (kz_0_10 : 0 ≤ limit_0 ∧ limit_0 ≤ 2000) (kz_0_157 : 0 ≤ tokens_0 ∧ tokens_0 ≤ 2010) (kz_0_158 : 0 ≤ cur_0 ∧ cur_0 ≤ 2009) (kz_0_159 : 0 ≤ opened_0 ∧ opened_0 ≤ 13) (kz_0_164 : 0 ≤ styleKind_0 ∧ styleKind_0 ≤ 1) (kz_0_165 : (-1) ≤ styleOne_0 ∧ styleOne_0 ≤ 47) (ex2 : gx = cur_0) (ex3 : 0 ≤ gx ∧ gx ≤ 2009) (ey2 : gy = fault_0) (ey3 : 0 ≤ gy ∧ gy ≤ 5) : ((cur_0 + 1) ≤ tokens_0) ∧ ((tokens_0 ≤ 2010) ∧ ((tokenKind_0 ((tokens_0 - 1)) = 0) ∨ (tokenKind_0 ((tokens_0 - 1)) = 4))) := by
  first | with_reducible assumption | ((have f1_c0 := f1.1); (have f1_c1 := f1.2.1); (have f1_c2 := f1.2.2); (try and_intros) <;> first | with_reducible assumption | (clear f1_c2 f1 hK_0_1 hK_0_160 hK_0_162 hK_0_163 f3; omega)) | ((have f1_c0 := f1.1); (have f1_c1 := f1.2.1); (have f1_c2 := f1.2.2); (first | have f3_b := f3 (by clear f1_c2 f1 hK_0_1 hK_0_160 hK_0_162 hK_0_163 f3; omega) | skip); (first | have f3_d := f3 (by with_reducible assumption) | skip); (try and_intros) <;> first | with_reducible assumption | (clear f1_c2 f1 hK_0_1 hK_0_160 hK_0_162 hK_0_163 f3; omega)) | ((have f1_c0 := f1.1); (have f1_c1 := f1.2.1); (have f1_c2 := f1.2.2); (first | have f3_b := f3 (by clear f1_c2 f1 hK_0_1 hK_0_160 hK_0_162 hK_0_163 f3; omega) | skip); (first | have f3_d := f3 (by with_reducible assumption) | skip); (first | have f1_q := tk_nx0 f1 (by clear f1_c2 f1 hK_0_1 hK_0_160 hK_0_162 hK_0_163 f3; omega) | skip); (try and_intros) <;> first | with_reducible assumption | (clear f1_c2 f1 hK_0_1 hK_0_160 hK_0_162 hK_0_163 f3; omega)) | omega
set_option maxHeartbeats 4000000 in
theorem vc_Mo_rule_at_f0_67_1 (x1 : Int) (x7 : Int) (x8 : Int) (fault_0 : Int) (tokenKind_0 : Int → Int) (cur_0 : Int) (tokens_0 : Int) (styleKind_0 : Int) (styleOne_0 : Int) (opened_0 : Int) (tokenValue_0 : Int → Int) (tokenPlace_0 : Int → Int) (tokenEnd_0 : Int → Int) (tape_0 : Int → Int) (limit_0 : Int) (gx : Int) (gy : Int) (k1 : 0 ≤ x1 ∧ x1 ≤ 2009) (k7 : 0 ≤ x7 ∧ x7 ≤ 5) (k8 : 0 ≤ x8 ∧ x8 ≤ 2010) (g0 : x7 = fault_0) (f1 : ((cur_0 + 1) ≤ tokens_0) ∧ ((tokens_0 ≤ 2010) ∧ ((tokenKind_0 ((tokens_0 - 1)) = 0) ∨ (tokenKind_0 ((tokens_0 - 1)) = 4)))) (f2 : 1 * x1 + ((-1) * cur_0 + 0) ≤ 0) (f3 : (styleKind_0 = 0) → (styleOne_0 ≤ 23)) (f4 : 1 * opened_0 + 0 ≤ 0) (f5 : (-1) * opened_0 + 0 ≤ 0) (f6 : (-1) * x8 + ((-1) * cur_0 + 0) ≤ (-2011)) (f7 : RDL (fault_0) (cur_0) (styleKind_0) (limit_0) (tokenKind_0) (tokenValue_0) (tokenPlace_0) (tokenEnd_0) (tape_0) (x1)) (hK_0_1 : ∀ j : Int, 0 ≤ j → j < 2000 → (-128) ≤ tape_0 j ∧ tape_0 j ≤ 127) (hK_0_160 : ∀ j : Int, 0 ≤ j → j < 2010 → 0 ≤ tokenKind_0 j ∧ tokenKind_0 j ≤ 4) (hK_0_162 : ∀ j : Int, 0 ≤ j → j < 2010 → 0 ≤ tokenPlace_0 j ∧ tokenPlace_0 j ≤ 2000) (hK_0_163 : ∀ j : Int, 0 ≤ j → j < 2010 → 0 ≤ tokenEnd_0 j ∧ tokenEnd_0 j ≤ 2000) (kz_0_8 : 0 ≤ fault_0 ∧ fault_0 ≤ 5) (kz_0_10 : 0 ≤ limit_0 ∧ limit_0 ≤ 2000) (kz_0_157 : 0 ≤ tokens_0 ∧ tokens_0 ≤ 2010) (kz_0_158 : 0 ≤ cur_0 ∧ cur_0 ≤ 2009) (kz_0_159 : 0 ≤ opened_0 ∧ opened_0 ≤ 13) (kz_0_164 : 0 ≤ styleKind_0 ∧ styleKind_0 ≤ 1) (kz_0_165 : (-1) ≤ styleOne_0 ∧ styleOne_0 ≤ 47) (ex2 : gx = cur_0) (ex3 : 0 ≤ gx ∧ gx ≤ 2009) (ey2 : gy = fault_0) (ey3 : 0 ≤ gy ∧ gy ≤ 5) : 1 * cur_0 + ((-1) * gx + 0) ≤ 0 := by
  first | with_reducible assumption | ((have f1_c0 := f1.1); (have f1_c1 := f1.2.1); (have f1_c2 := f1.2.2); (try and_intros) <;> first | with_reducible assumption | (clear f1_c2 f1 hK_0_1 hK_0_160 hK_0_162 hK_0_163 f3; omega)) | ((have f1_c0 := f1.1); (have f1_c1 := f1.2.1); (have f1_c2 := f1.2.2); (first | have f3_b := f3 (by clear f1_c2 f1 hK_0_1 hK_0_160 hK_0_162 hK_0_163 f3; omega) | skip); (first | have f3_d := f3 (by with_reducible assumption) | skip); (try and_intros) <;> first | with_reducible assumption | (clear f1_c2 f1 hK_0_1 hK_0_160 hK_0_162 hK_0_163 f3; omega)) | ((have f1_c0 := f1.1); (have f1_c1 := f1.2.1); (have f1_c2 := f1.2.2); (first | have f3_b := f3 (by clear f1_c2 f1 hK_0_1 hK_0_160 hK_0_162 hK_0_163 f3; omega) | skip); (first | have f3_d := f3 (by with_reducible assumption) | skip); (first | have f1_q := tk_nx0 f1 (by clear f1_c2 f1 hK_0_1 hK_0_160 hK_0_162 hK_0_163 f3; omega) | skip); (try and_intros) <;> first | with_reducible assumption | (clear f1_c2 f1 hK_0_1 hK_0_160 hK_0_162 hK_0_163 f3; omega)) | omega
set_option maxHeartbeats 4000000 in
theorem vc_Mo_rule_at_f0_67_2 (x1 : Int) (x7 : Int) (x8 : Int) (fault_0 : Int) (tokenKind_0 : Int → Int) (cur_0 : Int) (tokens_0 : Int) (styleKind_0 : Int) (styleOne_0 : Int) (opened_0 : Int) (tokenValue_0 : Int → Int) (tokenPlace_0 : Int → Int) (tokenEnd_0 : Int → Int) (tape_0 : Int → Int) (limit_0 : Int) (gx : Int) (gy : Int) (k1 : 0 ≤ x1 ∧ x1 ≤ 2009) (k7 : 0 ≤ x7 ∧ x7 ≤ 5) (k8 : 0 ≤ x8 ∧ x8 ≤ 2010) (g0 : x7 = fault_0) (f1 : ((cur_0 + 1) ≤ tokens_0) ∧ ((tokens_0 ≤ 2010) ∧ ((tokenKind_0 ((tokens_0 - 1)) = 0) ∨ (tokenKind_0 ((tokens_0 - 1)) = 4)))) (f2 : 1 * x1 + ((-1) * cur_0 + 0) ≤ 0) (f3 : (styleKind_0 = 0) → (styleOne_0 ≤ 23)) (f4 : 1 * opened_0 + 0 ≤ 0) (f5 : (-1) * opened_0 + 0 ≤ 0) (f6 : (-1) * x8 + ((-1) * cur_0 + 0) ≤ (-2011)) (f7 : RDL (fault_0) (cur_0) (styleKind_0) (limit_0) (tokenKind_0) (tokenValue_0) (tokenPlace_0) (tokenEnd_0) (tape_0) (x1)) (hK_0_1 : ∀ j : Int, 0 ≤ j → j < 2000 → (-128) ≤ tape_0 j ∧ tape_0 j ≤ 127) (hK_0_160 : ∀ j : Int, 0 ≤ j → j < 2010 → 0 ≤ tokenKind_0 j ∧ tokenKind_0 j ≤ 4) (hK_0_162 : ∀ j : Int, 0 ≤ j → j < 2010 → 0 ≤ tokenPlace_0 j ∧ tokenPlace_0 j ≤ 2000) (hK_0_163 : ∀ j : Int, 0 ≤ j → j < 2010 → 0 ≤ tokenEnd_0 j ∧ tokenEnd_0 j ≤ 2000) (kz_0_8 : 0 ≤ fault_0 ∧ fault_0 ≤ 5) (kz_0_10 : 0 ≤ limit_0 ∧ limit_0 ≤ 2000) (kz_0_157 : 0 ≤ tokens_0 ∧ tokens_0 ≤ 2010) (kz_0_158 : 0 ≤ cur_0 ∧ cur_0 ≤ 2009) (kz_0_159 : 0 ≤ opened_0 ∧ opened_0 ≤ 13) (kz_0_164 : 0 ≤ styleKind_0 ∧ styleKind_0 ≤ 1) (kz_0_165 : (-1) ≤ styleOne_0 ∧ styleOne_0 ≤ 47) (ex2 : gx = cur_0) (ex3 : 0 ≤ gx ∧ gx ≤ 2009) (ey2 : gy = fault_0) (ey3 : 0 ≤ gy ∧ gy ≤ 5) : (-1) * cur_0 + (1 * gx + 0) ≤ 0 := by
  first | with_reducible assumption | ((have f1_c0 := f1.1); (have f1_c1 := f1.2.1); (have f1_c2 := f1.2.2); (try and_intros) <;> first | with_reducible assumption | (clear f1_c2 f1 hK_0_1 hK_0_160 hK_0_162 hK_0_163 f3; omega)) | ((have f1_c0 := f1.1); (have f1_c1 := f1.2.1); (have f1_c2 := f1.2.2); (first | have f3_b := f3 (by clear f1_c2 f1 hK_0_1 hK_0_160 hK_0_162 hK_0_163 f3; omega) | skip); (first | have f3_d := f3 (by with_reducible assumption) | skip); (try and_intros) <;> first | with_reducible assumption | (clear f1_c2 f1 hK_0_1 hK_0_160 hK_0_162 hK_0_163 f3; omega)) | ((have f1_c0 := f1.1); (have f1_c1 := f1.2.1); (have f1_c2 := f1.2.2); (first | have f3_b := f3 (by clear f1_c2 f1 hK_0_1 hK_0_160 hK_0_162 hK_0_163 f3; omega) | skip); (first | have f3_d := f3 (by with_reducible assumption) | skip); (first | have f1_q := tk_nx0 f1 (by clear f1_c2 f1 hK_0_1 hK_0_160 hK_0_162 hK_0_163 f3; omega) | skip); (try and_intros) <;> first | with_reducible assumption | (clear f1_c2 f1 hK_0_1 hK_0_160 hK_0_162 hK_0_163 f3; omega)) | omega
set_option maxHeartbeats 4000000 in
theorem vc_Mo_rule_at_f0_67_3 (x1 : Int) (x7 : Int) (x8 : Int) (fault_0 : Int) (tokenKind_0 : Int → Int) (cur_0 : Int) (tokens_0 : Int) (styleKind_0 : Int) (styleOne_0 : Int) (opened_0 : Int) (tokenValue_0 : Int → Int) (tokenPlace_0 : Int → Int) (tokenEnd_0 : Int → Int) (tape_0 : Int → Int) (limit_0 : Int) (gx : Int) (gy : Int) (k1 : 0 ≤ x1 ∧ x1 ≤ 2009) (k7 : 0 ≤ x7 ∧ x7 ≤ 5) (k8 : 0 ≤ x8 ∧ x8 ≤ 2010) (g0 : x7 = fault_0) (f1 : ((cur_0 + 1) ≤ tokens_0) ∧ ((tokens_0 ≤ 2010) ∧ ((tokenKind_0 ((tokens_0 - 1)) = 0) ∨ (tokenKind_0 ((tokens_0 - 1)) = 4)))) (f2 : 1 * x1 + ((-1) * cur_0 + 0) ≤ 0) (f3 : (styleKind_0 = 0) → (styleOne_0 ≤ 23)) (f4 : 1 * opened_0 + 0 ≤ 0) (f5 : (-1) * opened_0 + 0 ≤ 0) (f6 : (-1) * x8 + ((-1) * cur_0 + 0) ≤ (-2011)) (f7 : RDL (fault_0) (cur_0) (styleKind_0) (limit_0) (tokenKind_0) (tokenValue_0) (tokenPlace_0) (tokenEnd_0) (tape_0) (x1)) (hK_0_1 : ∀ j : Int, 0 ≤ j → j < 2000 → (-128) ≤ tape_0 j ∧ tape_0 j ≤ 127) (hK_0_160 : ∀ j : Int, 0 ≤ j → j < 2010 → 0 ≤ tokenKind_0 j ∧ tokenKind_0 j ≤ 4) (hK_0_162 : ∀ j : Int, 0 ≤ j → j < 2010 → 0 ≤ tokenPlace_0 j ∧ tokenPlace_0 j ≤ 2000) (hK_0_163 : ∀ j : Int, 0 ≤ j → j < 2010 → 0 ≤ tokenEnd_0 j ∧ tokenEnd_0 j ≤ 2000) (kz_0_8 : 0 ≤ fault_0 ∧ fault_0 ≤ 5) (kz_0_10 : 0 ≤ limit_0 ∧ limit_0 ≤ 2000) (kz_0_157 : 0 ≤ tokens_0 ∧ tokens_0 ≤ 2010) (kz_0_158 : 0 ≤ cur_0 ∧ cur_0 ≤ 2009) (kz_0_159 : 0 ≤ opened_0 ∧ opened_0 ≤ 13) (kz_0_164 : 0 ≤ styleKind_0 ∧ styleKind_0 ≤ 1) (kz_0_165 : (-1) ≤ styleOne_0 ∧ styleOne_0 ≤ 47) (ex2 : gx = cur_0) (ex3 : 0 ≤ gx ∧ gx ≤ 2009) (ey2 : gy = fault_0) (ey3 : 0 ≤ gy ∧ gy ≤ 5) : fault_0 = gy := by
  first | with_reducible assumption | ((have f1_c0 := f1.1); (have f1_c1 := f1.2.1); (have f1_c2 := f1.2.2); (try and_intros) <;> first | with_reducible assumption | (clear f1_c2 f1 hK_0_1 hK_0_160 hK_0_162 hK_0_163 f3; omega)) | ((have f1_c0 := f1.1); (have f1_c1 := f1.2.1); (have f1_c2 := f1.2.2); (first | have f3_b := f3 (by clear f1_c2 f1 hK_0_1 hK_0_160 hK_0_162 hK_0_163 f3; omega) | skip); (first | have f3_d := f3 (by with_reducible assumption) | skip); (try and_intros) <;> first | with_reducible assumption | (clear f1_c2 f1 hK_0_1 hK_0_160 hK_0_162 hK_0_163 f3; omega)) | ((have f1_c0 := f1.1); (have f1_c1 := f1.2.1); (have f1_c2 := f1.2.2); (first | have f3_b := f3 (by clear f1_c2 f1 hK_0_1 hK_0_160 hK_0_162 hK_0_163 f3; omega) | skip); (first | have f3_d := f3 (by with_reducible assumption) | skip); (first | have f1_q := tk_nx0 f1 (by clear f1_c2 f1 hK_0_1 hK_0_160 hK_0_162 hK_0_163 f3; omega) | skip); (try and_intros) <;> first | with_reducible assumption | (clear f1_c2 f1 hK_0_1 hK_0_160 hK_0_162 hK_0_163 f3; omega)) | omega
set_option maxHeartbeats 4000000 in
theorem vc_Mo_rule_at_f0_67_4 (x1 : Int) (x7 : Int) (x8 : Int) (fault_0 : Int) (tokenKind_0 : Int → Int) (cur_0 : Int) (tokens_0 : Int) (styleKind_0 : Int) (styleOne_0 : Int) (opened_0 : Int) (tokenValue_0 : Int → Int) (tokenPlace_0 : Int → Int) (tokenEnd_0 : Int → Int) (tape_0 : Int → Int) (limit_0 : Int) (gx : Int) (gy : Int) (k1 : 0 ≤ x1 ∧ x1 ≤ 2009) (k7 : 0 ≤ x7 ∧ x7 ≤ 5) (k8 : 0 ≤ x8 ∧ x8 ≤ 2010) (g0 : x7 = fault_0) (f1 : ((cur_0 + 1) ≤ tokens_0) ∧ ((tokens_0 ≤ 2010) ∧ ((tokenKind_0 ((tokens_0 - 1)) = 0) ∨ (tokenKind_0 ((tokens_0 - 1)) = 4)))) (f2 : 1 * x1 + ((-1) * cur_0 + 0) ≤ 0) (f3 : (styleKind_0 = 0) → (styleOne_0 ≤ 23)) (f4 : 1 * opened_0 + 0 ≤ 0) (f5 : (-1) * opened_0 + 0 ≤ 0) (f6 : (-1) * x8 + ((-1) * cur_0 + 0) ≤ (-2011)) (f7 : RDL (fault_0) (cur_0) (styleKind_0) (limit_0) (tokenKind_0) (tokenValue_0) (tokenPlace_0) (tokenEnd_0) (tape_0) (x1)) (hK_0_1 : ∀ j : Int, 0 ≤ j → j < 2000 → (-128) ≤ tape_0 j ∧ tape_0 j ≤ 127) (hK_0_160 : ∀ j : Int, 0 ≤ j → j < 2010 → 0 ≤ tokenKind_0 j ∧ tokenKind_0 j ≤ 4) (hK_0_162 : ∀ j : Int, 0 ≤ j → j < 2010 → 0 ≤ tokenPlace_0 j ∧ tokenPlace_0 j ≤ 2000) (hK_0_163 : ∀ j : Int, 0 ≤ j → j < 2010 → 0 ≤ tokenEnd_0 j ∧ tokenEnd_0 j ≤ 2000) (kz_0_8 : 0 ≤ fault_0 ∧ fault_0 ≤ 5) (kz_0_10 : 0 ≤ limit_0 ∧ limit_0 ≤ 2000) (kz_0_157 : 0 ≤ tokens_0 ∧ tokens_0 ≤ 2010) (kz_0_158 : 0 ≤ cur_0 ∧ cur_0 ≤ 2009) (kz_0_159 : 0 ≤ opened_0 ∧ opened_0 ≤ 13) (kz_0_164 : 0 ≤ styleKind_0 ∧ styleKind_0 ≤ 1) (kz_0_165 : (-1) ≤ styleOne_0 ∧ styleOne_0 ≤ 47) (ex2 : gx = cur_0) (ex3 : 0 ≤ gx ∧ gx ≤ 2009) (ey2 : gy = fault_0) (ey3 : 0 ≤ gy ∧ gy ≤ 5) : 1 * x1 + ((-1) * gx + 0) ≤ 0 := by
  first | with_reducible assumption | ((have f1_c0 := f1.1); (have f1_c1 := f1.2.1); (have f1_c2 := f1.2.2); (try and_intros) <;> first | with_reducible assumption | (clear f1_c2 f1 hK_0_1 hK_0_160 hK_0_162 hK_0_163 f3; omega)) | ((have f1_c0 := f1.1); (have f1_c1 := f1.2.1); (have f1_c2 := f1.2.2); (first | have f3_b := f3 (by clear f1_c2 f1 hK_0_1 hK_0_160 hK_0_162 hK_0_163 f3; omega) | skip); (first | have f3_d := f3 (by with_reducible assumption) | skip); (try and_intros) <;> first | with_reducible assumption | (clear f1_c2 f1 hK_0_1 hK_0_160 hK_0_162 hK_0_163 f3; omega)) | ((have f1_c0 := f1.1); (have f1_c1 := f1.2.1); (have f1_c2 := f1.2.2); (first | have f3_b := f3 (by clear f1_c2 f1 hK_0_1 hK_0_160 hK_0_162 hK_0_163 f3; omega) | skip); (first | have f3_d := f3 (by with_reducible assumption) | skip); (first | have f1_q := tk_nx0 f1 (by clear f1_c2 f1 hK_0_1 hK_0_160 hK_0_162 hK_0_163 f3; omega) | skip); (try and_intros) <;> first | with_reducible assumption | (clear f1_c2 f1 hK_0_1 hK_0_160 hK_0_162 hK_0_163 f3; omega)) | omega
set_option maxHeartbeats 4000000 in
theorem vc_Mo_rule_at_f0_67_5 (x1 : Int) (x7 : Int) (x8 : Int) (fault_0 : Int) (tokenKind_0 : Int → Int) (cur_0 : Int) (tokens_0 : Int) (styleKind_0 : Int) (styleOne_0 : Int) (opened_0 : Int) (tokenValue_0 : Int → Int) (tokenPlace_0 : Int → Int) (tokenEnd_0 : Int → Int) (tape_0 : Int → Int) (limit_0 : Int) (gx : Int) (gy : Int) (k1 : 0 ≤ x1 ∧ x1 ≤ 2009) (k7 : 0 ≤ x7 ∧ x7 ≤ 5) (k8 : 0 ≤ x8 ∧ x8 ≤ 2010) (g0 : x7 = fault_0) (f1 : ((cur_0 + 1) ≤ tokens_0) ∧ ((tokens_0 ≤ 2010) ∧ ((tokenKind_0 ((tokens_0 - 1)) = 0) ∨ (tokenKind_0 ((tokens_0 - 1)) = 4)))) (f2 : 1 * x1 + ((-1) * cur_0 + 0) ≤ 0) (f3 : (styleKind_0 = 0) → (styleOne_0 ≤ 23)) (f4 : 1 * opened_0 + 0 ≤ 0) (f5 : (-1) * opened_0 + 0 ≤ 0) (f6 : (-1) * x8 + ((-1) * cur_0 + 0) ≤ (-2011)) (f7 : RDL (fault_0) (cur_0) (styleKind_0) (limit_0) (tokenKind_0) (tokenValue_0) (tokenPlace_0) (tokenEnd_0) (tape_0) (x1)) (hK_0_1 : ∀ j : Int, 0 ≤ j → j < 2000 → (-128) ≤ tape_0 j ∧ tape_0 j ≤ 127) (hK_0_160 : ∀ j : Int, 0 ≤ j → j < 2010 → 0 ≤ tokenKind_0 j ∧ tokenKind_0 j ≤ 4) (hK_0_162 : ∀ j : Int, 0 ≤ j → j < 2010 → 0 ≤ tokenPlace_0 j ∧ tokenPlace_0 j ≤ 2000) (hK_0_163 : ∀ j : Int, 0 ≤ j → j < 2010 → 0 ≤ tokenEnd_0 j ∧ tokenEnd_0 j ≤ 2000) (kz_0_8 : 0 ≤ fault_0 ∧ fault_0 ≤ 5) (kz_0_10 : 0 ≤ limit_0 ∧ limit_0 ≤ 2000) (kz_0_157 : 0 ≤ tokens_0 ∧ tokens_0 ≤ 2010) (kz_0_158 : 0 ≤ cur_0 ∧ cur_0 ≤ 2009) (kz_0_159 : 0 ≤ opened_0 ∧ opened_0 ≤ 13) (kz_0_164 : 0 ≤ styleKind_0 ∧ styleKind_0 ≤ 1) (kz_0_165 : (-1) ≤ styleOne_0 ∧ styleOne_0 ≤ 47) (ex2 : gx = cur_0) (ex3 : 0 ≤ gx ∧ gx ≤ 2009) (ey2 : gy = fault_0) (ey3 : 0 ≤ gy ∧ gy ≤ 5) : (-1) * x8 + ((-1) * gx + 0) ≤ (-2011) := by
  first | with_reducible assumption | ((have f1_c0 := f1.1); (have f1_c1 := f1.2.1); (have f1_c2 := f1.2.2); (try and_intros) <;> first | with_reducible assumption | (clear f1_c2 f1 hK_0_1 hK_0_160 hK_0_162 hK_0_163 f3; omega)) | ((have f1_c0 := f1.1); (have f1_c1 := f1.2.1); (have f1_c2 := f1.2.2); (first | have f3_b := f3 (by clear f1_c2 f1 hK_0_1 hK_0_160 hK_0_162 hK_0_163 f3; omega) | skip); (first | have f3_d := f3 (by with_reducible assumption) | skip); (try and_intros) <;> first | with_reducible assumption | (clear f1_c2 f1 hK_0_1 hK_0_160 hK_0_162 hK_0_163 f3; omega)) | ((have f1_c0 := f1.1); (have f1_c1 := f1.2.1); (have f1_c2 := f1.2.2); (first | have f3_b := f3 (by clear f1_c2 f1 hK_0_1 hK_0_160 hK_0_162 hK_0_163 f3; omega) | skip); (first | have f3_d := f3 (by with_reducible assumption) | skip); (first | have f1_q := tk_nx0 f1 (by clear f1_c2 f1 hK_0_1 hK_0_160 hK_0_162 hK_0_163 f3; omega) | skip); (try and_intros) <;> first | with_reducible assumption | (clear f1_c2 f1 hK_0_1 hK_0_160 hK_0_162 hK_0_163 f3; omega)) | omega
set_option maxHeartbeats 4000000 in
theorem vc_Mo_rule_at_f0_67_6 (x1 : Int) (x7 : Int) (x8 : Int) (fault_0 : Int) (tokenKind_0 : Int → Int) (cur_0 : Int) (tokens_0 : Int) (styleKind_0 : Int) (styleOne_0 : Int) (opened_0 : Int) (tokenValue_0 : Int → Int) (tokenPlace_0 : Int → Int) (tokenEnd_0 : Int → Int) (tape_0 : Int → Int) (limit_0 : Int) (gx : Int) (gy : Int) (k1 : 0 ≤ x1 ∧ x1 ≤ 2009) (k7 : 0 ≤ x7 ∧ x7 ≤ 5) (k8 : 0 ≤ x8 ∧ x8 ≤ 2010) (g0 : x7 = fault_0) (f1 : ((cur_0 + 1) ≤ tokens_0) ∧ ((tokens_0 ≤ 2010) ∧ ((tokenKind_0 ((tokens_0 - 1)) = 0) ∨ (tokenKind_0 ((tokens_0 - 1)) = 4)))) (f2 : 1 * x1 + ((-1) * cur_0 + 0) ≤ 0) (f3 : (styleKind_0 = 0) → (styleOne_0 ≤ 23)) (f4 : 1 * opened_0 + 0 ≤ 0) (f5 : (-1) * opened_0 + 0 ≤ 0) (f6 : (-1) * x8 + ((-1) * cur_0 + 0) ≤ (-2011)) (f7 : RDL (fault_0) (cur_0) (styleKind_0) (limit_0) (tokenKind_0) (tokenValue_0) (tokenPlace_0) (tokenEnd_0) (tape_0) (x1)) (hK_0_1 : ∀ j : Int, 0 ≤ j → j < 2000 → (-128) ≤ tape_0 j ∧ tape_0 j ≤ 127) (hK_0_160 : ∀ j : Int, 0 ≤ j → j < 2010 → 0 ≤ tokenKind_0 j ∧ tokenKind_0 j ≤ 4) (hK_0_162 : ∀ j : Int, 0 ≤ j → j < 2010 → 0 ≤ tokenPlace_0 j ∧ tokenPlace_0 j ≤ 2000) (hK_0_163 : ∀ j : Int, 0 ≤ j → j < 2010 → 0 ≤ tokenEnd_0 j ∧ tokenEnd_0 j ≤ 2000) (kz_0_8 : 0 ≤ fault_0 ∧ fault_0 ≤ 5) (kz_0_10 : 0 ≤ limit_0 ∧ limit_0 ≤ 2000) (kz_0_157 : 0 ≤ tokens_0 ∧ tokens_0 ≤ 2010) (kz_0_158 : 0 ≤ cur_0 ∧ cur_0 ≤ 2009) (kz_0_159 : 0 ≤ opened_0 ∧ opened_0 ≤ 13) (kz_0_164 : 0 ≤ styleKind_0 ∧ styleKind_0 ≤ 1) (kz_0_165 : (-1) ≤ styleOne_0 ∧ styleOne_0 ≤ 47) (ex2 : gx = cur_0) (ex3 : 0 ≤ gx ∧ gx ≤ 2009) (ey2 : gy = fault_0) (ey3 : 0 ≤ gy ∧ gy ≤ 5) : RDz (styleKind_0) (limit_0) (tokenKind_0) (tokenValue_0) (tokenPlace_0) (tokenEnd_0) (tape_0) (gx) (gy) (x1) := by
  first
    | exact rd3_of (‹RDL _ _ _ _ _ _ _ _ _ _›) (by omega) (by omega)
  
def o_Mo_rule_at_f0_67 : or_T := (276, 9, [(0, (2, 0, 0, [165])), (1, (0, 0, 2009, [])), (7, (0, 0, 5, [])), (8, (0, 0, 2010, []))], [(9, [7, 2], [8]), (20, [2], [50, 2, 1, 158, 157, 160, 2, 12, 0, 7, 4, 3, 2, 0, 158, 0, 1, 2, 0, 157, 2, 7, 0, 3, 2, 0, 157, 0, 2010, 3, 14, 1, 10, 3, 0, 160, 5, 3, 2, 0, 157, 0, 1, 0, 0, 1, 10, 3, 0, 160, 5, 3, 2, 0, 157, 0, 1, 0, 4]), (20, [1, 2], [30, 0, 1, 0, 0, -1, 1, 158]), (20, [2], [50, 2, 0, 164, 165, 4, 7, 1, 3, 2, 0, 164, 0, 0, 0, 3, 2, 0, 165, 0, 23]), (20, [2], [30, 0, 1, 1, 159]), (20, [2], [30, 0, -1, 1, 159]), (20, [8, 2], [30, -2011, -1, 0, 0, -1, 1, 158]), (20, [2, 1], [60, 4, 5, 68, 8, 158, 164, 10, 160, 161, 162, 163, 1]), (24, [0, 2], [])], [], [(0, 0, 2009, []), (0, 0, 5, [])], [(20, [2], [50, 2, 1, 158, 157, 160, 2, 12, 0, 7, 4, 3, 2, 0, 158, 0, 1, 2, 0, 157, 2, 7, 0, 3, 2, 0, 157, 0, 2010, 3, 14, 1, 10, 3, 0, 160, 5, 3, 2, 0, 157, 0, 1, 0, 0, 1, 10, 3, 0, 160, 5, 3, 2, 0, 157, 0, 1, 0, 4]), (20, [2, 9], [30, 0, 1, 1, 158, -1, 0, 0]), (20, [2, 9], [30, 0, -1, 1, 158, 1, 0, 0]), (20, [2, 10], [50, 1, 0, 8, 1, 3, 2, 0, 8, 1, 1]), (23, [1, 9], [0, 1, -1]), (23, [8, 9], [-2011, -1, -1]), (20, [2, 9, 10, 1], [60, 2, 5, 63, 164, 10, 160, 161, 162, 163, 1])], [], [])
theorem oo_Mo_rule_at_f0_67 {kA : Nat → ClassId} : or_ok PRD kA GG o_Mo_rule_at_f0_67 := by
  refine or_mk fun A ta ws vs hD hth hl => ?_
  intro t0 r0 t1 k1 t7 k7 t8 k8 f0 f1 f2 f3 f4 f5 f6 f7 f8
  replace f0 := shm_293 f0
  replace f1 := shm_271 f1
  replace f2 := shm_281 f2
  replace f3 := shm_274 f3
  replace f4 := shm_1029 f4
  replace f5 := shm_1030 f5
  replace f6 := shm_292 f6
  replace f7 := shm_2272 f7
  replace f8 := shm_5 f8
  have q2 : n_v vs 2 = n_v vs 0 := f8.symm
  simp only [q2] at f0 f1 f2 f3 f4 f5 f6 f7
  have cr_0_1 := fdq_39 hD hth r0
  have cr_0_160 := fdq_33 hD hth r0
  have cr_0_162 := fdq_41 hD hth r0
  have cr_0_163 := fdq_42 hD hth r0
  have g0 : v_iv (n_v vs 7) = w_fi ws (n_v vs 0) 8 := congrArg v_iv f0
  have hK_0_1 := elq_7 hD hth cr_0_1
  have hK_0_160 := elq_6 hD hth cr_0_160
  have hK_0_162 := elq_8 hD hth cr_0_162
  have hK_0_163 := elq_9 hD hth cr_0_163
  have kz_0_8 := fdq_34 hD hth r0
  have kz_0_10 := fdq_43 hD hth r0
  have kz_0_157 := fdq_35 hD hth r0
  have kz_0_158 := fdq_36 hD hth r0
  have kz_0_159 := fdq_37 hD hth r0
  have kz_0_164 := fdq_38 hD hth r0
  have kz_0_165 := fdq_27 hD hth r0
  obtain ⟨x, ex, hx⟩ := iv_ex (ta := ta) (lo := 0) (hi := 2009) (z := w_fi ws (n_v vs 0) 158) (by omega) (by omega) (by omega) (by omega)
  have ex2 : v_iv (Value.int x) = w_fi ws (n_v vs 0) 158 := ex
  have ex3 : 0 ≤ v_iv (Value.int x) ∧ v_iv (Value.int x) ≤ 2009 := tv_rng hx
  obtain ⟨y, ey, hy⟩ := iv_ex (ta := ta) (lo := 0) (hi := 5) (z := w_fi ws (n_v vs 0) 8) (by omega) (by omega) (by omega) (by omega)
  have ey2 : v_iv (Value.int y) = w_fi ws (n_v vs 0) 8 := ey
  have ey3 : 0 ≤ v_iv (Value.int y) ∧ v_iv (Value.int y) ≤ 5 := tv_rng hy
  have e_1 : n_v (vs ++ [Value.int x, Value.int y]) 1 = n_v vs 1 := n_v_old (by rw [hl]; decide)
  have e_2 : n_v (vs ++ [Value.int x, Value.int y]) 2 = n_v vs 2 := n_v_old (by rw [hl]; decide)
  have e_8 : n_v (vs ++ [Value.int x, Value.int y]) 8 = n_v vs 8 := n_v_old (by rw [hl]; decide)
  have e_9 : n_v (vs ++ [Value.int x, Value.int y]) 9 = Value.int x := n_v_new0 hl
  have e_10 : n_v (vs ++ [Value.int x, Value.int y]) 10 = Value.int y := n_v_new1 hl
  have nf0 : fc_1 PRD (20, [2], [50, 2, 1, 158, 157, 160, 2, 12, 0, 7, 4, 3, 2, 0, 158, 0, 1, 2, 0, 157, 2, 7, 0, 3, 2, 0, 157, 0, 2010, 3, 14, 1, 10, 3, 0, 160, 5, 3, 2, 0, 157, 0, 1, 0, 0, 1, 10, 3, 0, 160, 5, 3, 2, 0, 157, 0, 1, 0, 4]) ws (vs ++ [Value.int x, Value.int y]) := by
    refine ⟨nf_inA hl rfl, sgq_271 ?_⟩
    · show ((w_fi ws (n_v (vs ++ [Value.int x, Value.int y]) 2) 158 + 1) ≤ w_fi ws (n_v (vs ++ [Value.int x, Value.int y]) 2) 157) ∧ ((w_fi ws (n_v (vs ++ [Value.int x, Value.int y]) 2) 157 ≤ 2010) ∧ ((w_ei ws (w_ar ws (n_v (vs ++ [Value.int x, Value.int y]) 2) 160) ((w_fi ws (n_v (vs ++ [Value.int x, Value.int y]) 2) 157 - 1)) = 0) ∨ (w_ei ws (w_ar ws (n_v (vs ++ [Value.int x, Value.int y]) 2) 160) ((w_fi ws (n_v (vs ++ [Value.int x, Value.int y]) 2) 157 - 1)) = 4)))
      simp only [e_2, q2]
      exact vc_Mo_rule_at_f0_67_0 (v_iv (n_v vs 1)) (v_iv (n_v vs 7)) (v_iv (n_v vs 8)) (w_fi ws (n_v vs 0) 8) (w_ei ws (w_ar ws (n_v vs 0) 160)) (w_fi ws (n_v vs 0) 158) (w_fi ws (n_v vs 0) 157) (w_fi ws (n_v vs 0) 164) (w_fi ws (n_v vs 0) 165) (w_fi ws (n_v vs 0) 159) (w_ei ws (w_ar ws (n_v vs 0) 161)) (w_ei ws (w_ar ws (n_v vs 0) 162)) (w_ei ws (w_ar ws (n_v vs 0) 163)) (w_ei ws (w_ar ws (n_v vs 0) 1)) (w_fi ws (n_v vs 0) 10) (v_iv (Value.int x)) (v_iv (Value.int y)) k1 k7 k8 g0 f1 f2 f3 f4 f5 f6 f7 hK_0_1 hK_0_160 hK_0_162 hK_0_163 kz_0_8 kz_0_10 kz_0_157 kz_0_158 kz_0_159 kz_0_164 kz_0_165 ex2 ex3 ey2 ey3
  have nf1 : fc_1 PRD (20, [2, 9], [30, 0, 1, 1, 158, -1, 0, 0]) ws (vs ++ [Value.int x, Value.int y]) := by
    refine ⟨nf_inA hl rfl, sgq_272 ?_⟩
    · show 1 * w_fi ws (n_v (vs ++ [Value.int x, Value.int y]) 2) 158 + ((-1) * v_iv (n_v (vs ++ [Value.int x, Value.int y]) 9) + 0) ≤ 0
      simp only [e_2, e_9, q2]
      exact vc_Mo_rule_at_f0_67_1 (v_iv (n_v vs 1)) (v_iv (n_v vs 7)) (v_iv (n_v vs 8)) (w_fi ws (n_v vs 0) 8) (w_ei ws (w_ar ws (n_v vs 0) 160)) (w_fi ws (n_v vs 0) 158) (w_fi ws (n_v vs 0) 157) (w_fi ws (n_v vs 0) 164) (w_fi ws (n_v vs 0) 165) (w_fi ws (n_v vs 0) 159) (w_ei ws (w_ar ws (n_v vs 0) 161)) (w_ei ws (w_ar ws (n_v vs 0) 162)) (w_ei ws (w_ar ws (n_v vs 0) 163)) (w_ei ws (w_ar ws (n_v vs 0) 1)) (w_fi ws (n_v vs 0) 10) (v_iv (Value.int x)) (v_iv (Value.int y)) k1 k7 k8 g0 f1 f2 f3 f4 f5 f6 f7 hK_0_1 hK_0_160 hK_0_162 hK_0_163 kz_0_8 kz_0_10 kz_0_157 kz_0_158 kz_0_159 kz_0_164 kz_0_165 ex2 ex3 ey2 ey3
  have nf2 : fc_1 PRD (20, [2, 9], [30, 0, -1, 1, 158, 1, 0, 0]) ws (vs ++ [Value.int x, Value.int y]) := by
    refine ⟨nf_inA hl rfl, sgq_273 ?_⟩
    · show (-1) * w_fi ws (n_v (vs ++ [Value.int x, Value.int y]) 2) 158 + (1 * v_iv (n_v (vs ++ [Value.int x, Value.int y]) 9) + 0) ≤ 0
      simp only [e_2, e_9, q2]
      exact vc_Mo_rule_at_f0_67_2 (v_iv (n_v vs 1)) (v_iv (n_v vs 7)) (v_iv (n_v vs 8)) (w_fi ws (n_v vs 0) 8) (w_ei ws (w_ar ws (n_v vs 0) 160)) (w_fi ws (n_v vs 0) 158) (w_fi ws (n_v vs 0) 157) (w_fi ws (n_v vs 0) 164) (w_fi ws (n_v vs 0) 165) (w_fi ws (n_v vs 0) 159) (w_ei ws (w_ar ws (n_v vs 0) 161)) (w_ei ws (w_ar ws (n_v vs 0) 162)) (w_ei ws (w_ar ws (n_v vs 0) 163)) (w_ei ws (w_ar ws (n_v vs 0) 1)) (w_fi ws (n_v vs 0) 10) (v_iv (Value.int x)) (v_iv (Value.int y)) k1 k7 k8 g0 f1 f2 f3 f4 f5 f6 f7 hK_0_1 hK_0_160 hK_0_162 hK_0_163 kz_0_8 kz_0_10 kz_0_157 kz_0_158 kz_0_159 kz_0_164 kz_0_165 ex2 ex3 ey2 ey3
  have nf3 : fc_1 PRD (20, [2, 10], [50, 1, 0, 8, 1, 3, 2, 0, 8, 1, 1]) ws (vs ++ [Value.int x, Value.int y]) := by
    refine ⟨nf_inA hl rfl, sgq_277 ?_⟩
    · show w_fi ws (n_v (vs ++ [Value.int x, Value.int y]) 2) 8 = v_iv (n_v (vs ++ [Value.int x, Value.int y]) 10)
      simp only [e_2, e_10, q2]
      exact vc_Mo_rule_at_f0_67_3 (v_iv (n_v vs 1)) (v_iv (n_v vs 7)) (v_iv (n_v vs 8)) (w_fi ws (n_v vs 0) 8) (w_ei ws (w_ar ws (n_v vs 0) 160)) (w_fi ws (n_v vs 0) 158) (w_fi ws (n_v vs 0) 157) (w_fi ws (n_v vs 0) 164) (w_fi ws (n_v vs 0) 165) (w_fi ws (n_v vs 0) 159) (w_ei ws (w_ar ws (n_v vs 0) 161)) (w_ei ws (w_ar ws (n_v vs 0) 162)) (w_ei ws (w_ar ws (n_v vs 0) 163)) (w_ei ws (w_ar ws (n_v vs 0) 1)) (w_fi ws (n_v vs 0) 10) (v_iv (Value.int x)) (v_iv (Value.int y)) k1 k7 k8 g0 f1 f2 f3 f4 f5 f6 f7 hK_0_1 hK_0_160 hK_0_162 hK_0_163 kz_0_8 kz_0_10 kz_0_157 kz_0_158 kz_0_159 kz_0_164 kz_0_165 ex2 ex3 ey2 ey3
  have nf4 : fc_1 PRD (23, [1, 9], [0, 1, -1]) ws (vs ++ [Value.int x, Value.int y]) := by
    refine ⟨nf_inA hl rfl, sgq_7 ?_⟩
    · show 1 * v_iv (n_v (vs ++ [Value.int x, Value.int y]) 1) + ((-1) * v_iv (n_v (vs ++ [Value.int x, Value.int y]) 9) + 0) ≤ 0
      simp only [e_1, e_9]
      exact vc_Mo_rule_at_f0_67_4 (v_iv (n_v vs 1)) (v_iv (n_v vs 7)) (v_iv (n_v vs 8)) (w_fi ws (n_v vs 0) 8) (w_ei ws (w_ar ws (n_v vs 0) 160)) (w_fi ws (n_v vs 0) 158) (w_fi ws (n_v vs 0) 157) (w_fi ws (n_v vs 0) 164) (w_fi ws (n_v vs 0) 165) (w_fi ws (n_v vs 0) 159) (w_ei ws (w_ar ws (n_v vs 0) 161)) (w_ei ws (w_ar ws (n_v vs 0) 162)) (w_ei ws (w_ar ws (n_v vs 0) 163)) (w_ei ws (w_ar ws (n_v vs 0) 1)) (w_fi ws (n_v vs 0) 10) (v_iv (Value.int x)) (v_iv (Value.int y)) k1 k7 k8 g0 f1 f2 f3 f4 f5 f6 f7 hK_0_1 hK_0_160 hK_0_162 hK_0_163 kz_0_8 kz_0_10 kz_0_157 kz_0_158 kz_0_159 kz_0_164 kz_0_165 ex2 ex3 ey2 ey3
  have nf5 : fc_1 PRD (23, [8, 9], [-2011, -1, -1]) ws (vs ++ [Value.int x, Value.int y]) := by
    refine ⟨nf_inA hl rfl, sgq_290 ?_⟩
    · show (-1) * v_iv (n_v (vs ++ [Value.int x, Value.int y]) 8) + ((-1) * v_iv (n_v (vs ++ [Value.int x, Value.int y]) 9) + 0) ≤ (-2011)
      simp only [e_8, e_9]
      exact vc_Mo_rule_at_f0_67_5 (v_iv (n_v vs 1)) (v_iv (n_v vs 7)) (v_iv (n_v vs 8)) (w_fi ws (n_v vs 0) 8) (w_ei ws (w_ar ws (n_v vs 0) 160)) (w_fi ws (n_v vs 0) 158) (w_fi ws (n_v vs 0) 157) (w_fi ws (n_v vs 0) 164) (w_fi ws (n_v vs 0) 165) (w_fi ws (n_v vs 0) 159) (w_ei ws (w_ar ws (n_v vs 0) 161)) (w_ei ws (w_ar ws (n_v vs 0) 162)) (w_ei ws (w_ar ws (n_v vs 0) 163)) (w_ei ws (w_ar ws (n_v vs 0) 1)) (w_fi ws (n_v vs 0) 10) (v_iv (Value.int x)) (v_iv (Value.int y)) k1 k7 k8 g0 f1 f2 f3 f4 f5 f6 f7 hK_0_1 hK_0_160 hK_0_162 hK_0_163 kz_0_8 kz_0_10 kz_0_157 kz_0_158 kz_0_159 kz_0_164 kz_0_165 ex2 ex3 ey2 ey3
  have nf6 : fc_1 PRD (20, [2, 9, 10, 1], [60, 2, 5, 63, 164, 10, 160, 161, 162, 163, 1]) ws (vs ++ [Value.int x, Value.int y]) := by
    refine ⟨nf_inA hl rfl, sgq_2274 ?_⟩
    · show RDz (w_fi ws (n_v (vs ++ [Value.int x, Value.int y]) 2) 164) (w_fi ws (n_v (vs ++ [Value.int x, Value.int y]) 2) 10) (w_ei ws (w_ar ws (n_v (vs ++ [Value.int x, Value.int y]) 2) 160)) (w_ei ws (w_ar ws (n_v (vs ++ [Value.int x, Value.int y]) 2) 161)) (w_ei ws (w_ar ws (n_v (vs ++ [Value.int x, Value.int y]) 2) 162)) (w_ei ws (w_ar ws (n_v (vs ++ [Value.int x, Value.int y]) 2) 163)) (w_ei ws (w_ar ws (n_v (vs ++ [Value.int x, Value.int y]) 2) 1)) (v_iv (n_v (vs ++ [Value.int x, Value.int y]) 9)) (v_iv (n_v (vs ++ [Value.int x, Value.int y]) 10)) (v_iv (n_v (vs ++ [Value.int x, Value.int y]) 1))
      simp only [e_1, e_2, e_9, e_10, q2]
      exact vc_Mo_rule_at_f0_67_6 (v_iv (n_v vs 1)) (v_iv (n_v vs 7)) (v_iv (n_v vs 8)) (w_fi ws (n_v vs 0) 8) (w_ei ws (w_ar ws (n_v vs 0) 160)) (w_fi ws (n_v vs 0) 158) (w_fi ws (n_v vs 0) 157) (w_fi ws (n_v vs 0) 164) (w_fi ws (n_v vs 0) 165) (w_fi ws (n_v vs 0) 159) (w_ei ws (w_ar ws (n_v vs 0) 161)) (w_ei ws (w_ar ws (n_v vs 0) 162)) (w_ei ws (w_ar ws (n_v vs 0) 163)) (w_ei ws (w_ar ws (n_v vs 0) 1)) (w_fi ws (n_v vs 0) 10) (v_iv (Value.int x)) (v_iv (Value.int y)) k1 k7 k8 g0 f1 f2 f3 f4 f5 f6 f7 hK_0_1 hK_0_160 hK_0_162 hK_0_163 kz_0_8 kz_0_10 kz_0_157 kz_0_158 kz_0_159 kz_0_164 kz_0_165 ex2 ex3 ey2 ey3
  exact ⟨(fun _ h => (by cases h)), [Value.int x, Value.int y], ag_two hx hy, List.forall_mem_cons.mpr ⟨⟨show (20 : Nat) < 100 from by decide, nf0⟩, List.forall_mem_cons.mpr ⟨⟨show (20 : Nat) < 100 from by decide, nf1⟩, List.forall_mem_cons.mpr ⟨⟨show (20 : Nat) < 100 from by decide, nf2⟩, List.forall_mem_cons.mpr ⟨⟨show (20 : Nat) < 100 from by decide, nf3⟩, List.forall_mem_cons.mpr ⟨⟨show (23 : Nat) < 100 from by decide, nf4⟩, List.forall_mem_cons.mpr ⟨⟨show (23 : Nat) < 100 from by decide, nf5⟩, List.forall_mem_cons.mpr ⟨⟨show (20 : Nat) < 100 from by decide, nf6⟩, (fun _ h => (by cases h))⟩⟩⟩⟩⟩⟩⟩, (fun _ h => (by cases h))⟩

set_option maxHeartbeats 4000000 in
theorem vc_Mo_rule_at_f0_68_0 (x1 : Int) (x7 : Int) (x8 : Int) (x9 : Int) (x10 : Int) (x11 : Int) (fault_0 : Int) (tokenKind_0 : Int → Int) (tokenValue_0 : Int → Int) (tokenPlace_0 : Int → Int) (tokenEnd_0 : Int → Int) (tape_0 : Int → Int) (styleKind_0 : Int) (limit_0 : Int) (styleOne_0 : Int) (opened_0 : Int) (cur_0 : Int) (tokens_0 : Int) (gx : Int) (k1 : 0 ≤ x1 ∧ x1 ≤ 2009) (k7 : 0 ≤ x7 ∧ x7 ≤ 5) (k8 : 0 ≤ x8 ∧ x8 ≤ 2010) (k9 : 0 ≤ x9 ∧ x9 ≤ 2009) (k10 : 0 ≤ x10 ∧ x10 ≤ 5) (k11 : 1 ≤ x11 ∧ x11 ≤ 1) (g0 : x7 = fault_0) (f1 : x11 ≠ 0) (f2 : fault_0 = x10) (f3 : 1 * x1 + ((-1) * x9 + 0) ≤ 0) (f4 : (-1) * x8 + ((-1) * x9 + 0) ≤ (-2011)) (f5 : RDz (styleKind_0) (limit_0) (tokenKind_0) (tokenValue_0) (tokenPlace_0) (tokenEnd_0) (tape_0) (x9) (x10) (x1)) (f6 : (styleKind_0 = 0) → (styleOne_0 ≤ 23)) (f7 : 1 * opened_0 + 0 ≤ 0) (f8 : (-1) * opened_0 + 0 ≤ 0) (f10 : ((cur_0 + 1) ≤ tokens_0) ∧ ((tokens_0 ≤ 2010) ∧ ((tokenKind_0 ((tokens_0 - 1)) = 0) ∨ (tokenKind_0 ((tokens_0 - 1)) = 4)))) (f11 : 1 * x9 + (1 * x11 + ((-1) * cur_0 + 0)) ≤ 0) (f12 : CMA (cur_0) (tokenKind_0) (tokenValue_0) (x11) (x9) (x10)) (f14 : 1 * x1 + ((-1) * x9 + 0) ≤ 0) (f15 : (-1) * x8 + ((-1) * x9 + 0) ≤ (-2011)) (hK_0_1 : ∀ j : Int, 0 ≤ j → j < 2000 → (-128) ≤ tape_0 j ∧ tape_0 j ≤ 127) (hK_0_160 : ∀ j : Int, 0 ≤ j → j < 2010 → 0 ≤ tokenKind_0 j ∧ tokenKind_0 j ≤ 4) (hK_0_162 : ∀ j : Int, 0 ≤ j → j < 2010 → 0 ≤ tokenPlace_0 j ∧ tokenPlace_0 j ≤ 2000) (hK_0_163 : ∀ j : Int, 0 ≤ j → j < 2010 → 0 ≤ tokenEnd_0 j ∧ tokenEnd_0 j ≤ 2000) (kz_0_8 : 0 ≤ fault_0 ∧ fault_0 ≤ 5) (kz_0_10 : 0 ≤ limit_0 ∧ limit_0 ≤ 2000) (kz_0_157 : 0 ≤ tokens_0 ∧ tokens_0 ≤ 2010) (kz_0_158 : 0 ≤ cur_0 ∧ cur_0 ≤ 2009) (kz_0_159 : 0 ≤ opened_0 ∧ opened_0 ≤ 13) (kz_0_164 : 0 ≤ styleKind_0 ∧ styleKind_0 ≤ 1) (kz_0_165 : (-1) ≤ styleOne_0 ∧ styleOne_0 ≤ 47) (ex2 : gx = 2010 + ((-1) * cur_0 + 0)) (ex3 : 0 ≤ gx ∧ gx ≤ 2010) : ((cur_0 + 1) ≤ tokens_0) ∧ ((tokens_0 ≤ 2010) ∧ ((tokenKind_0 ((tokens_0 - 1)) = 0) ∨ (tokenKind_0 ((tokens_0 - 1)) = 4))) := by
  first | with_reducible assumption | ((have f10_c0 := f10.1); (have f10_c1 := f10.2.1); (have f10_c2 := f10.2.2); (try and_intros) <;> first | with_reducible assumption | (clear f10_c2 f10 hK_0_1 hK_0_160 hK_0_162 hK_0_163 f6; omega)) | ((have f10_c0 := f10.1); (have f10_c1 := f10.2.1); (have f10_c2 := f10.2.2); (first | have f6_b := f6 (by clear f10_c2 f10 hK_0_1 hK_0_160 hK_0_162 hK_0_163 f6; omega) | skip); (first | have f6_d := f6 (by with_reducible assumption) | skip); (try and_intros) <;> first | with_reducible assumption | (clear f10_c2 f10 hK_0_1 hK_0_160 hK_0_162 hK_0_163 f6; omega)) | ((have f10_c0 := f10.1); (have f10_c1 := f10.2.1); (have f10_c2 := f10.2.2); (first | have f6_b := f6 (by clear f10_c2 f10 hK_0_1 hK_0_160 hK_0_162 hK_0_163 f6; omega) | skip); (first | have f6_d := f6 (by with_reducible assumption) | skip); (first | have f10_q := tk_nx0 f10 (by clear f10_c2 f10 hK_0_1 hK_0_160 hK_0_162 hK_0_163 f6; omega) | skip); (try and_intros) <;> first | with_reducible assumption | (clear f10_c2 f10 hK_0_1 hK_0_160 hK_0_162 hK_0_163 f6; omega)) | omega
set_option maxHeartbeats 4000000 in
theorem vc_Mo_rule_at_f0_68_1 (x1 : Int) (x7 : Int) (x8 : Int) (x9 : Int) (x10 : Int) (x11 : Int) (fault_0 : Int) (tokenKind_0 : Int → Int) (tokenValue_0 : Int → Int) (tokenPlace_0 : Int → Int) (tokenEnd_0 : Int → Int) (tape_0 : Int → Int) (styleKind_0 : Int) (limit_0 : Int) (styleOne_0 : Int) (opened_0 : Int) (cur_0 : Int) (tokens_0 : Int) (gx : Int) (k1 : 0 ≤ x1 ∧ x1 ≤ 2009) (k7 : 0 ≤ x7 ∧ x7 ≤ 5) (k8 : 0 ≤ x8 ∧ x8 ≤ 2010) (k9 : 0 ≤ x9 ∧ x9 ≤ 2009) (k10 : 0 ≤ x10 ∧ x10 ≤ 5) (k11 : 1 ≤ x11 ∧ x11 ≤ 1) (g0 : x7 = fault_0) (f1 : x11 ≠ 0) (f2 : fault_0 = x10) (f3 : 1 * x1 + ((-1) * x9 + 0) ≤ 0) (f4 : (-1) * x8 + ((-1) * x9 + 0) ≤ (-2011)) (f5 : RDz (styleKind_0) (limit_0) (tokenKind_0) (tokenValue_0) (tokenPlace_0) (tokenEnd_0) (tape_0) (x9) (x10) (x1)) (f6 : (styleKind_0 = 0) → (styleOne_0 ≤ 23)) (f7 : 1 * opened_0 + 0 ≤ 0) (f8 : (-1) * opened_0 + 0 ≤ 0) (f10 : ((cur_0 + 1) ≤ tokens_0) ∧ ((tokens_0 ≤ 2010) ∧ ((tokenKind_0 ((tokens_0 - 1)) = 0) ∨ (tokenKind_0 ((tokens_0 - 1)) = 4)))) (f11 : 1 * x9 + (1 * x11 + ((-1) * cur_0 + 0)) ≤ 0) (f12 : CMA (cur_0) (tokenKind_0) (tokenValue_0) (x11) (x9) (x10)) (f14 : 1 * x1 + ((-1) * x9 + 0) ≤ 0) (f15 : (-1) * x8 + ((-1) * x9 + 0) ≤ (-2011)) (hK_0_1 : ∀ j : Int, 0 ≤ j → j < 2000 → (-128) ≤ tape_0 j ∧ tape_0 j ≤ 127) (hK_0_160 : ∀ j : Int, 0 ≤ j → j < 2010 → 0 ≤ tokenKind_0 j ∧ tokenKind_0 j ≤ 4) (hK_0_162 : ∀ j : Int, 0 ≤ j → j < 2010 → 0 ≤ tokenPlace_0 j ∧ tokenPlace_0 j ≤ 2000) (hK_0_163 : ∀ j : Int, 0 ≤ j → j < 2010 → 0 ≤ tokenEnd_0 j ∧ tokenEnd_0 j ≤ 2000) (kz_0_8 : 0 ≤ fault_0 ∧ fault_0 ≤ 5) (kz_0_10 : 0 ≤ limit_0 ∧ limit_0 ≤ 2000) (kz_0_157 : 0 ≤ tokens_0 ∧ tokens_0 ≤ 2010) (kz_0_158 : 0 ≤ cur_0 ∧ cur_0 ≤ 2009) (kz_0_159 : 0 ≤ opened_0 ∧ opened_0 ≤ 13) (kz_0_164 : 0 ≤ styleKind_0 ∧ styleKind_0 ≤ 1) (kz_0_165 : (-1) ≤ styleOne_0 ∧ styleOne_0 ≤ 47) (ex2 : gx = 2010 + ((-1) * cur_0 + 0)) (ex3 : 0 ≤ gx ∧ gx ≤ 2010) : 1 * x1 + ((-1) * cur_0 + 0) ≤ 0 := by
  first | with_reducible assumption | ((have f10_c0 := f10.1); (have f10_c1 := f10.2.1); (have f10_c2 := f10.2.2); (try and_intros) <;> first | with_reducible assumption | (clear f10_c2 f10 hK_0_1 hK_0_160 hK_0_162 hK_0_163 f6; omega)) | ((have f10_c0 := f10.1); (have f10_c1 := f10.2.1); (have f10_c2 := f10.2.2); (first | have f6_b := f6 (by clear f10_c2 f10 hK_0_1 hK_0_160 hK_0_162 hK_0_163 f6; omega) | skip); (first | have f6_d := f6 (by with_reducible assumption) | skip); (try and_intros) <;> first | with_reducible assumption | (clear f10_c2 f10 hK_0_1 hK_0_160 hK_0_162 hK_0_163 f6; omega)) | ((have f10_c0 := f10.1); (have f10_c1 := f10.2.1); (have f10_c2 := f10.2.2); (first | have f6_b := f6 (by clear f10_c2 f10 hK_0_1 hK_0_160 hK_0_162 hK_0_163 f6; omega) | skip); (first | have f6_d := f6 (by with_reducible assumption) | skip); (first | have f10_q := tk_nx0 f10 (by clear f10_c2 f10 hK_0_1 hK_0_160 hK_0_162 hK_0_163 f6; omega) | skip); (try and_intros) <;> first | with_reducible assumption | (clear f10_c2 f10 hK_0_1 hK_0_160 hK_0_162 hK_0_163 f6; omega)) | omega
set_option maxHeartbeats 4000000 in
theorem vc_Mo_rule_at_f0_68_2 (x1 : Int) (x7 : Int) (x8 : Int) (x9 : Int) (x10 : Int) (x11 : Int) (fault_0 : Int) (tokenKind_0 : Int → Int) (tokenValue_0 : Int → Int) (tokenPlace_0 : Int → Int) (tokenEnd_0 : Int → Int) (tape_0 : Int → Int) (styleKind_0 : Int) (limit_0 : Int) (styleOne_0 : Int) (opened_0 : Int) (cur_0 : Int) (tokens_0 : Int) (gx : Int) (k1 : 0 ≤ x1 ∧ x1 ≤ 2009) (k7 : 0 ≤ x7 ∧ x7 ≤ 5) (k8 : 0 ≤ x8 ∧ x8 ≤ 2010) (k9 : 0 ≤ x9 ∧ x9 ≤ 2009) (k10 : 0 ≤ x10 ∧ x10 ≤ 5) (k11 : 1 ≤ x11 ∧ x11 ≤ 1) (g0 : x7 = fault_0) (f1 : x11 ≠ 0) (f2 : fault_0 = x10) (f3 : 1 * x1 + ((-1) * x9 + 0) ≤ 0) (f4 : (-1) * x8 + ((-1) * x9 + 0) ≤ (-2011)) (f5 : RDz (styleKind_0) (limit_0) (tokenKind_0) (tokenValue_0) (tokenPlace_0) (tokenEnd_0) (tape_0) (x9) (x10) (x1)) (f6 : (styleKind_0 = 0) → (styleOne_0 ≤ 23)) (f7 : 1 * opened_0 + 0 ≤ 0) (f8 : (-1) * opened_0 + 0 ≤ 0) (f10 : ((cur_0 + 1) ≤ tokens_0) ∧ ((tokens_0 ≤ 2010) ∧ ((tokenKind_0 ((tokens_0 - 1)) = 0) ∨ (tokenKind_0 ((tokens_0 - 1)) = 4)))) (f11 : 1 * x9 + (1 * x11 + ((-1) * cur_0 + 0)) ≤ 0) (f12 : CMA (cur_0) (tokenKind_0) (tokenValue_0) (x11) (x9) (x10)) (f14 : 1 * x1 + ((-1) * x9 + 0) ≤ 0) (f15 : (-1) * x8 + ((-1) * x9 + 0) ≤ (-2011)) (hK_0_1 : ∀ j : Int, 0 ≤ j → j < 2000 → (-128) ≤ tape_0 j ∧ tape_0 j ≤ 127) (hK_0_160 : ∀ j : Int, 0 ≤ j → j < 2010 → 0 ≤ tokenKind_0 j ∧ tokenKind_0 j ≤ 4) (hK_0_162 : ∀ j : Int, 0 ≤ j → j < 2010 → 0 ≤ tokenPlace_0 j ∧ tokenPlace_0 j ≤ 2000) (hK_0_163 : ∀ j : Int, 0 ≤ j → j < 2010 → 0 ≤ tokenEnd_0 j ∧ tokenEnd_0 j ≤ 2000) (kz_0_8 : 0 ≤ fault_0 ∧ fault_0 ≤ 5) (kz_0_10 : 0 ≤ limit_0 ∧ limit_0 ≤ 2000) (kz_0_157 : 0 ≤ tokens_0 ∧ tokens_0 ≤ 2010) (kz_0_158 : 0 ≤ cur_0 ∧ cur_0 ≤ 2009) (kz_0_159 : 0 ≤ opened_0 ∧ opened_0 ≤ 13) (kz_0_164 : 0 ≤ styleKind_0 ∧ styleKind_0 ≤ 1) (kz_0_165 : (-1) ≤ styleOne_0 ∧ styleOne_0 ≤ 47) (ex2 : gx = 2010 + ((-1) * cur_0 + 0)) (ex3 : 0 ≤ gx ∧ gx ≤ 2010) : (styleKind_0 = 0) → (styleOne_0 ≤ 23) := by
  first | with_reducible assumption | ((have f10_c0 := f10.1); (have f10_c1 := f10.2.1); (have f10_c2 := f10.2.2); (try and_intros) <;> first | with_reducible assumption | (clear f10_c2 f10 hK_0_1 hK_0_160 hK_0_162 hK_0_163 f6; omega)) | ((have f10_c0 := f10.1); (have f10_c1 := f10.2.1); (have f10_c2 := f10.2.2); (first | have f6_b := f6 (by clear f10_c2 f10 hK_0_1 hK_0_160 hK_0_162 hK_0_163 f6; omega) | skip); (first | have f6_d := f6 (by with_reducible assumption) | skip); (try and_intros) <;> first | with_reducible assumption | (clear f10_c2 f10 hK_0_1 hK_0_160 hK_0_162 hK_0_163 f6; omega)) | ((have f10_c0 := f10.1); (have f10_c1 := f10.2.1); (have f10_c2 := f10.2.2); (first | have f6_b := f6 (by clear f10_c2 f10 hK_0_1 hK_0_160 hK_0_162 hK_0_163 f6; omega) | skip); (first | have f6_d := f6 (by with_reducible assumption) | skip); (first | have f10_q := tk_nx0 f10 (by clear f10_c2 f10 hK_0_1 hK_0_160 hK_0_162 hK_0_163 f6; omega) | skip); (try and_intros) <;> first | with_reducible assumption | (clear f10_c2 f10 hK_0_1 hK_0_160 hK_0_162 hK_0_163 f6; omega)) | (intro hG; (first | have f6_g := f6 hG | skip); (have f10_c0 := f10.1); (have f10_c1 := f10.2.1); (have f10_c2 := f10.2.2); (first | have f6_b := f6 (by clear f10_c2 f10 hK_0_1 hK_0_160 hK_0_162 hK_0_163 f6; omega) | skip); (try and_intros) <;> first | with_reducible assumption | (clear f10_c2 f10 hK_0_1 hK_0_160 hK_0_162 hK_0_163 f6 hG; omega)) | omega
set_option maxHeartbeats 4000000 in
theorem vc_Mo_rule_at_f0_68_3 (x1 : Int) (x7 : Int) (x8 : Int) (x9 : Int) (x10 : Int) (x11 : Int) (fault_0 : Int) (tokenKind_0 : Int → Int) (tokenValue_0 : Int → Int) (tokenPlace_0 : Int → Int) (tokenEnd_0 : Int → Int) (tape_0 : Int → Int) (styleKind_0 : Int) (limit_0 : Int) (styleOne_0 : Int) (opened_0 : Int) (cur_0 : Int) (tokens_0 : Int) (gx : Int) (k1 : 0 ≤ x1 ∧ x1 ≤ 2009) (k7 : 0 ≤ x7 ∧ x7 ≤ 5) (k8 : 0 ≤ x8 ∧ x8 ≤ 2010) (k9 : 0 ≤ x9 ∧ x9 ≤ 2009) (k10 : 0 ≤ x10 ∧ x10 ≤ 5) (k11 : 1 ≤ x11 ∧ x11 ≤ 1) (g0 : x7 = fault_0) (f1 : x11 ≠ 0) (f2 : fault_0 = x10) (f3 : 1 * x1 + ((-1) * x9 + 0) ≤ 0) (f4 : (-1) * x8 + ((-1) * x9 + 0) ≤ (-2011)) (f5 : RDz (styleKind_0) (limit_0) (tokenKind_0) (tokenValue_0) (tokenPlace_0) (tokenEnd_0) (tape_0) (x9) (x10) (x1)) (f6 : (styleKind_0 = 0) → (styleOne_0 ≤ 23)) (f7 : 1 * opened_0 + 0 ≤ 0) (f8 : (-1) * opened_0 + 0 ≤ 0) (f10 : ((cur_0 + 1) ≤ tokens_0) ∧ ((tokens_0 ≤ 2010) ∧ ((tokenKind_0 ((tokens_0 - 1)) = 0) ∨ (tokenKind_0 ((tokens_0 - 1)) = 4)))) (f11 : 1 * x9 + (1 * x11 + ((-1) * cur_0 + 0)) ≤ 0) (f12 : CMA (cur_0) (tokenKind_0) (tokenValue_0) (x11) (x9) (x10)) (f14 : 1 * x1 + ((-1) * x9 + 0) ≤ 0) (f15 : (-1) * x8 + ((-1) * x9 + 0) ≤ (-2011)) (hK_0_1 : ∀ j : Int, 0 ≤ j → j < 2000 → (-128) ≤ tape_0 j ∧ tape_0 j ≤ 127) (hK_0_160 : ∀ j : Int, 0 ≤ j → j < 2010 → 0 ≤ tokenKind_0 j ∧ tokenKind_0 j ≤ 4) (hK_0_162 : ∀ j : Int, 0 ≤ j → j < 2010 → 0 ≤ tokenPlace_0 j ∧ tokenPlace_0 j ≤ 2000) (hK_0_163 : ∀ j : Int, 0 ≤ j → j < 2010 → 0 ≤ tokenEnd_0 j ∧ tokenEnd_0 j ≤ 2000) (kz_0_8 : 0 ≤ fault_0 ∧ fault_0 ≤ 5) (kz_0_10 : 0 ≤ limit_0 ∧ limit_0 ≤ 2000) (kz_0_157 : 0 ≤ tokens_0 ∧ tokens_0 ≤ 2010) (kz_0_158 : 0 ≤ cur_0 ∧ cur_0 ≤ 2009) (kz_0_159 : 0 ≤ opened_0 ∧ opened_0 ≤ 13) (kz_0_164 : 0 ≤ styleKind_0 ∧ styleKind_0 ≤ 1) (kz_0_165 : (-1) ≤ styleOne_0 ∧ styleOne_0 ≤ 47) (ex2 : gx = 2010 + ((-1) * cur_0 + 0)) (ex3 : 0 ≤ gx ∧ gx ≤ 2010) : 1 * opened_0 + 0 ≤ 0 := by
  first | with_reducible assumption | ((have f10_c0 := f10.1); (have f10_c1 := f10.2.1); (have f10_c2 := f10.2.2); (try and_intros) <;> first | with_reducible assumption | (clear f10_c2 f10 hK_0_1 hK_0_160 hK_0_162 hK_0_163 f6; omega)) | ((have f10_c0 := f10.1); (have f10_c1 := f10.2.1); (have f10_c2 := f10.2.2); (first | have f6_b := f6 (by clear f10_c2 f10 hK_0_1 hK_0_160 hK_0_162 hK_0_163 f6; omega) | skip); (first | have f6_d := f6 (by with_reducible assumption) | skip); (try and_intros) <;> first | with_reducible assumption | (clear f10_c2 f10 hK_0_1 hK_0_160 hK_0_162 hK_0_163 f6; omega)) | ((have f10_c0 := f10.1); (have f10_c1 := f10.2.1); (have f10_c2 := f10.2.2); (first | have f6_b := f6 (by clear f10_c2 f10 hK_0_1 hK_0_160 hK_0_162 hK_0_163 f6; omega) | skip); (first | have f6_d := f6 (by with_reducible assumption) | skip); (first | have f10_q := tk_nx0 f10 (by clear f10_c2 f10 hK_0_1 hK_0_160 hK_0_162 hK_0_163 f6; omega) | skip); (try and_intros) <;> first | with_reducible assumption | (clear f10_c2 f10 hK_0_1 hK_0_160 hK_0_162 hK_0_163 f6; omega)) | omega
set_option maxHeartbeats 4000000 in
theorem vc_Mo_rule_at_f0_68_4 (x1 : Int) (x7 : Int) (x8 : Int) (x9 : Int) (x10 : Int) (x11 : Int) (fault_0 : Int) (tokenKind_0 : Int → Int) (tokenValue_0 : Int → Int) (tokenPlace_0 : Int → Int) (tokenEnd_0 : Int → Int) (tape_0 : Int → Int) (styleKind_0 : Int) (limit_0 : Int) (styleOne_0 : Int) (opened_0 : Int) (cur_0 : Int) (tokens_0 : Int) (gx : Int) (k1 : 0 ≤ x1 ∧ x1 ≤ 2009) (k7 : 0 ≤ x7 ∧ x7 ≤ 5) (k8 : 0 ≤ x8 ∧ x8 ≤ 2010) (k9 : 0 ≤ x9 ∧ x9 ≤ 2009) (k10 : 0 ≤ x10 ∧ x10 ≤ 5) (k11 : 1 ≤ x11 ∧ x11 ≤ 1) (g0 : x7 = fault_0) (f1 : x11 ≠ 0) (f2 : fault_0 = x10) (f3 : 1 * x1 + ((-1) * x9 + 0) ≤ 0) (f4 : (-1) * x8 + ((-1) * x9 + 0) ≤ (-2011)) (f5 : RDz (styleKind_0) (limit_0) (tokenKind_0) (tokenValue_0) (tokenPlace_0) (tokenEnd_0) (tape_0) (x9) (x10) (x1)) (f6 : (styleKind_0 = 0) → (styleOne_0 ≤ 23)) (f7 : 1 * opened_0 + 0 ≤ 0) (f8 : (-1) * opened_0 + 0 ≤ 0) (f10 : ((cur_0 + 1) ≤ tokens_0) ∧ ((tokens_0 ≤ 2010) ∧ ((tokenKind_0 ((tokens_0 - 1)) = 0) ∨ (tokenKind_0 ((tokens_0 - 1)) = 4)))) (f11 : 1 * x9 + (1 * x11 + ((-1) * cur_0 + 0)) ≤ 0) (f12 : CMA (cur_0) (tokenKind_0) (tokenValue_0) (x11) (x9) (x10)) (f14 : 1 * x1 + ((-1) * x9 + 0) ≤ 0) (f15 : (-1) * x8 + ((-1) * x9 + 0) ≤ (-2011)) (hK_0_1 : ∀ j : Int, 0 ≤ j → j < 2000 → (-128) ≤ tape_0 j ∧ tape_0 j ≤ 127) (hK_0_160 : ∀ j : Int, 0 ≤ j → j < 2010 → 0 ≤ tokenKind_0 j ∧ tokenKind_0 j ≤ 4) (hK_0_162 : ∀ j : Int, 0 ≤ j → j < 2010 → 0 ≤ tokenPlace_0 j ∧ tokenPlace_0 j ≤ 2000) (hK_0_163 : ∀ j : Int, 0 ≤ j → j < 2010 → 0 ≤ tokenEnd_0 j ∧ tokenEnd_0 j ≤ 2000) (kz_0_8 : 0 ≤ fault_0 ∧ fault_0 ≤ 5) (kz_0_10 : 0 ≤ limit_0 ∧ limit_0 ≤ 2000) (kz_0_157 : 0 ≤ tokens_0 ∧ tokens_0 ≤ 2010) (kz_0_158 : 0 ≤ cur_0 ∧ cur_0 ≤ 2009) (kz_0_159 : 0 ≤ opened_0 ∧ opened_0 ≤ 13) (kz_0_164 : 0 ≤ styleKind_0 ∧ styleKind_0 ≤ 1) (kz_0_165 : (-1) ≤ styleOne_0 ∧ styleOne_0 ≤ 47) (ex2 : gx = 2010 + ((-1) * cur_0 + 0)) (ex3 : 0 ≤ gx ∧ gx ≤ 2010) : (-1) * opened_0 + 0 ≤ 0 := by
  first | with_reducible assumption | ((have f10_c0 := f10.1); (have f10_c1 := f10.2.1); (have f10_c2 := f10.2.2); (try and_intros) <;> first | with_reducible assumption | (clear f10_c2 f10 hK_0_1 hK_0_160 hK_0_162 hK_0_163 f6; omega)) | ((have f10_c0 := f10.1); (have f10_c1 := f10.2.1); (have f10_c2 := f10.2.2); (first | have f6_b := f6 (by clear f10_c2 f10 hK_0_1 hK_0_160 hK_0_162 hK_0_163 f6; omega) | skip); (first | have f6_d := f6 (by with_reducible assumption) | skip); (try and_intros) <;> first | with_reducible assumption | (clear f10_c2 f10 hK_0_1 hK_0_160 hK_0_162 hK_0_163 f6; omega)) | ((have f10_c0 := f10.1); (have f10_c1 := f10.2.1); (have f10_c2 := f10.2.2); (first | have f6_b := f6 (by clear f10_c2 f10 hK_0_1 hK_0_160 hK_0_162 hK_0_163 f6; omega) | skip); (first | have f6_d := f6 (by with_reducible assumption) | skip); (first | have f10_q := tk_nx0 f10 (by clear f10_c2 f10 hK_0_1 hK_0_160 hK_0_162 hK_0_163 f6; omega) | skip); (try and_intros) <;> first | with_reducible assumption | (clear f10_c2 f10 hK_0_1 hK_0_160 hK_0_162 hK_0_163 f6; omega)) | omega
set_option maxHeartbeats 4000000 in
theorem vc_Mo_rule_at_f0_68_5 (x1 : Int) (x7 : Int) (x8 : Int) (x9 : Int) (x10 : Int) (x11 : Int) (fault_0 : Int) (tokenKind_0 : Int → Int) (tokenValue_0 : Int → Int) (tokenPlace_0 : Int → Int) (tokenEnd_0 : Int → Int) (tape_0 : Int → Int) (styleKind_0 : Int) (limit_0 : Int) (styleOne_0 : Int) (opened_0 : Int) (cur_0 : Int) (tokens_0 : Int) (gx : Int) (k1 : 0 ≤ x1 ∧ x1 ≤ 2009) (k7 : 0 ≤ x7 ∧ x7 ≤ 5) (k8 : 0 ≤ x8 ∧ x8 ≤ 2010) (k9 : 0 ≤ x9 ∧ x9 ≤ 2009) (k10 : 0 ≤ x10 ∧ x10 ≤ 5) (k11 : 1 ≤ x11 ∧ x11 ≤ 1) (g0 : x7 = fault_0) (f1 : x11 ≠ 0) (f2 : fault_0 = x10) (f3 : 1 * x1 + ((-1) * x9 + 0) ≤ 0) (f4 : (-1) * x8 + ((-1) * x9 + 0) ≤ (-2011)) (f5 : RDz (styleKind_0) (limit_0) (tokenKind_0) (tokenValue_0) (tokenPlace_0) (tokenEnd_0) (tape_0) (x9) (x10) (x1)) (f6 : (styleKind_0 = 0) → (styleOne_0 ≤ 23)) (f7 : 1 * opened_0 + 0 ≤ 0) (f8 : (-1) * opened_0 + 0 ≤ 0) (f10 : ((cur_0 + 1) ≤ tokens_0) ∧ ((tokens_0 ≤ 2010) ∧ ((tokenKind_0 ((tokens_0 - 1)) = 0) ∨ (tokenKind_0 ((tokens_0 - 1)) = 4)))) (f11 : 1 * x9 + (1 * x11 + ((-1) * cur_0 + 0)) ≤ 0) (f12 : CMA (cur_0) (tokenKind_0) (tokenValue_0) (x11) (x9) (x10)) (f14 : 1 * x1 + ((-1) * x9 + 0) ≤ 0) (f15 : (-1) * x8 + ((-1) * x9 + 0) ≤ (-2011)) (hK_0_1 : ∀ j : Int, 0 ≤ j → j < 2000 → (-128) ≤ tape_0 j ∧ tape_0 j ≤ 127) (hK_0_160 : ∀ j : Int, 0 ≤ j → j < 2010 → 0 ≤ tokenKind_0 j ∧ tokenKind_0 j ≤ 4) (hK_0_162 : ∀ j : Int, 0 ≤ j → j < 2010 → 0 ≤ tokenPlace_0 j ∧ tokenPlace_0 j ≤ 2000) (hK_0_163 : ∀ j : Int, 0 ≤ j → j < 2010 → 0 ≤ tokenEnd_0 j ∧ tokenEnd_0 j ≤ 2000) (kz_0_8 : 0 ≤ fault_0 ∧ fault_0 ≤ 5) (kz_0_10 : 0 ≤ limit_0 ∧ limit_0 ≤ 2000) (kz_0_157 : 0 ≤ tokens_0 ∧ tokens_0 ≤ 2010) (kz_0_158 : 0 ≤ cur_0 ∧ cur_0 ≤ 2009) (kz_0_159 : 0 ≤ opened_0 ∧ opened_0 ≤ 13) (kz_0_164 : 0 ≤ styleKind_0 ∧ styleKind_0 ≤ 1) (kz_0_165 : (-1) ≤ styleOne_0 ∧ styleOne_0 ≤ 47) (ex2 : gx = 2010 + ((-1) * cur_0 + 0)) (ex3 : 0 ≤ gx ∧ gx ≤ 2010) : RDW (fault_0) (cur_0) (styleKind_0) (limit_0) (tokenKind_0) (tokenValue_0) (tokenPlace_0) (tokenEnd_0) (tape_0) (x1) := by
  first
    | exact ru2_go (‹RU2 _ _ _ _ _ _ _ _ _ _›) (‹SND _ _ _ _ _ _ _›) (by omega) (by omega)
    | exact rd3_on (‹RDz _ _ _ _ _ _ _ _ _ _›) (‹CMA _ _ _ _ _ _›) (by omega) (by omega) (by omega) (by omega)
  
set_option maxHeartbeats 4000000 in
theorem vc_Mo_rule_at_f0_68_7 (x1 : Int) (x7 : Int) (x8 : Int) (x9 : Int) (x10 : Int) (x11 : Int) (fault_0 : Int) (tokenKind_0 : Int → Int) (tokenValue_0 : Int → Int) (tokenPlace_0 : Int → Int) (tokenEnd_0 : Int → Int) (tape_0 : Int → Int) (styleKind_0 : Int) (limit_0 : Int) (styleOne_0 : Int) (opened_0 : Int) (cur_0 : Int) (tokens_0 : Int) (gx : Int) (k1 : 0 ≤ x1 ∧ x1 ≤ 2009) (k7 : 0 ≤ x7 ∧ x7 ≤ 5) (k8 : 0 ≤ x8 ∧ x8 ≤ 2010) (k9 : 0 ≤ x9 ∧ x9 ≤ 2009) (k10 : 0 ≤ x10 ∧ x10 ≤ 5) (k11 : 1 ≤ x11 ∧ x11 ≤ 1) (g0 : x7 = fault_0) (f1 : x11 ≠ 0) (f2 : fault_0 = x10) (f3 : 1 * x1 + ((-1) * x9 + 0) ≤ 0) (f4 : (-1) * x8 + ((-1) * x9 + 0) ≤ (-2011)) (f5 : RDz (styleKind_0) (limit_0) (tokenKind_0) (tokenValue_0) (tokenPlace_0) (tokenEnd_0) (tape_0) (x9) (x10) (x1)) (f6 : (styleKind_0 = 0) → (styleOne_0 ≤ 23)) (f7 : 1 * opened_0 + 0 ≤ 0) (f8 : (-1) * opened_0 + 0 ≤ 0) (f10 : ((cur_0 + 1) ≤ tokens_0) ∧ ((tokens_0 ≤ 2010) ∧ ((tokenKind_0 ((tokens_0 - 1)) = 0) ∨ (tokenKind_0 ((tokens_0 - 1)) = 4)))) (f11 : 1 * x9 + (1 * x11 + ((-1) * cur_0 + 0)) ≤ 0) (f12 : CMA (cur_0) (tokenKind_0) (tokenValue_0) (x11) (x9) (x10)) (f14 : 1 * x1 + ((-1) * x9 + 0) ≤ 0) (f15 : (-1) * x8 + ((-1) * x9 + 0) ≤ (-2011)) (hK_0_1 : ∀ j : Int, 0 ≤ j → j < 2000 → (-128) ≤ tape_0 j ∧ tape_0 j ≤ 127) (hK_0_160 : ∀ j : Int, 0 ≤ j → j < 2010 → 0 ≤ tokenKind_0 j ∧ tokenKind_0 j ≤ 4) (hK_0_162 : ∀ j : Int, 0 ≤ j → j < 2010 → 0 ≤ tokenPlace_0 j ∧ tokenPlace_0 j ≤ 2000) (hK_0_163 : ∀ j : Int, 0 ≤ j → j < 2010 → 0 ≤ tokenEnd_0 j ∧ tokenEnd_0 j ≤ 2000) (kz_0_8 : 0 ≤ fault_0 ∧ fault_0 ≤ 5) (kz_0_10 : 0 ≤ limit_0 ∧ limit_0 ≤ 2000) (kz_0_157 : 0 ≤ tokens_0 ∧ tokens_0 ≤ 2010) (kz_0_158 : 0 ≤ cur_0 ∧ cur_0 ≤ 2009) (kz_0_159 : 0 ≤ opened_0 ∧ opened_0 ≤ 13) (kz_0_164 : 0 ≤ styleKind_0 ∧ styleKind_0 ≤ 1) (kz_0_165 : (-1) ≤ styleOne_0 ∧ styleOne_0 ≤ 47) (ex2 : gx = 2010 + ((-1) * cur_0 + 0)) (ex3 : 0 ≤ gx ∧ gx ≤ 2010) : 1 * gx + (1 * cur_0 + 0) ≤ 2010 := by
  first | with_reducible assumption | ((have f10_c0 := f10.1); (have f10_c1 := f10.2.1); (have f10_c2 := f10.2.2); (try and_intros) <;> first | with_reducible assumption | (clear f10_c2 f10 hK_0_1 hK_0_160 hK_0_162 hK_0_163 f6; omega)) | ((have f10_c0 := f10.1); (have f10_c1 := f10.2.1); (have f10_c2 := f10.2.2); (first | have f6_b := f6 (by clear f10_c2 f10 hK_0_1 hK_0_160 hK_0_162 hK_0_163 f6; omega) | skip); (first | have f6_d := f6 (by with_reducible assumption) | skip); (try and_intros) <;> first | with_reducible assumption | (clear f10_c2 f10 hK_0_1 hK_0_160 hK_0_162 hK_0_163 f6; omega)) | ((have f10_c0 := f10.1); (have f10_c1 := f10.2.1); (have f10_c2 := f10.2.2); (first | have f6_b := f6 (by clear f10_c2 f10 hK_0_1 hK_0_160 hK_0_162 hK_0_163 f6; omega) | skip); (first | have f6_d := f6 (by with_reducible assumption) | skip); (first | have f10_q := tk_nx0 f10 (by clear f10_c2 f10 hK_0_1 hK_0_160 hK_0_162 hK_0_163 f6; omega) | skip); (try and_intros) <;> first | with_reducible assumption | (clear f10_c2 f10 hK_0_1 hK_0_160 hK_0_162 hK_0_163 f6; omega)) | omega
set_option maxHeartbeats 4000000 in
theorem vc_Mo_rule_at_f0_68_8 (x1 : Int) (x7 : Int) (x8 : Int) (x9 : Int) (x10 : Int) (x11 : Int) (fault_0 : Int) (tokenKind_0 : Int → Int) (tokenValue_0 : Int → Int) (tokenPlace_0 : Int → Int) (tokenEnd_0 : Int → Int) (tape_0 : Int → Int) (styleKind_0 : Int) (limit_0 : Int) (styleOne_0 : Int) (opened_0 : Int) (cur_0 : Int) (tokens_0 : Int) (gx : Int) (k1 : 0 ≤ x1 ∧ x1 ≤ 2009) (k7 : 0 ≤ x7 ∧ x7 ≤ 5) (k8 : 0 ≤ x8 ∧ x8 ≤ 2010) (k9 : 0 ≤ x9 ∧ x9 ≤ 2009) (k10 : 0 ≤ x10 ∧ x10 ≤ 5) (k11 : 1 ≤ x11 ∧ x11 ≤ 1) (g0 : x7 = fault_0) (f1 : x11 ≠ 0) (f2 : fault_0 = x10) (f3 : 1 * x1 + ((-1) * x9 + 0) ≤ 0) (f4 : (-1) * x8 + ((-1) * x9 + 0) ≤ (-2011)) (f5 : RDz (styleKind_0) (limit_0) (tokenKind_0) (tokenValue_0) (tokenPlace_0) (tokenEnd_0) (tape_0) (x9) (x10) (x1)) (f6 : (styleKind_0 = 0) → (styleOne_0 ≤ 23)) (f7 : 1 * opened_0 + 0 ≤ 0) (f8 : (-1) * opened_0 + 0 ≤ 0) (f10 : ((cur_0 + 1) ≤ tokens_0) ∧ ((tokens_0 ≤ 2010) ∧ ((tokenKind_0 ((tokens_0 - 1)) = 0) ∨ (tokenKind_0 ((tokens_0 - 1)) = 4)))) (f11 : 1 * x9 + (1 * x11 + ((-1) * cur_0 + 0)) ≤ 0) (f12 : CMA (cur_0) (tokenKind_0) (tokenValue_0) (x11) (x9) (x10)) (f14 : 1 * x1 + ((-1) * x9 + 0) ≤ 0) (f15 : (-1) * x8 + ((-1) * x9 + 0) ≤ (-2011)) (hK_0_1 : ∀ j : Int, 0 ≤ j → j < 2000 → (-128) ≤ tape_0 j ∧ tape_0 j ≤ 127) (hK_0_160 : ∀ j : Int, 0 ≤ j → j < 2010 → 0 ≤ tokenKind_0 j ∧ tokenKind_0 j ≤ 4) (hK_0_162 : ∀ j : Int, 0 ≤ j → j < 2010 → 0 ≤ tokenPlace_0 j ∧ tokenPlace_0 j ≤ 2000) (hK_0_163 : ∀ j : Int, 0 ≤ j → j < 2010 → 0 ≤ tokenEnd_0 j ∧ tokenEnd_0 j ≤ 2000) (kz_0_8 : 0 ≤ fault_0 ∧ fault_0 ≤ 5) (kz_0_10 : 0 ≤ limit_0 ∧ limit_0 ≤ 2000) (kz_0_157 : 0 ≤ tokens_0 ∧ tokens_0 ≤ 2010) (kz_0_158 : 0 ≤ cur_0 ∧ cur_0 ≤ 2009) (kz_0_159 : 0 ≤ opened_0 ∧ opened_0 ≤ 13) (kz_0_164 : 0 ≤ styleKind_0 ∧ styleKind_0 ≤ 1) (kz_0_165 : (-1) ≤ styleOne_0 ∧ styleOne_0 ≤ 47) (ex2 : gx = 2010 + ((-1) * cur_0 + 0)) (ex3 : 0 ≤ gx ∧ gx ≤ 2010) : (-1) * gx + ((-1) * cur_0 + 0) ≤ (-2010) := by
  first | with_reducible assumption | ((have f10_c0 := f10.1); (have f10_c1 := f10.2.1); (have f10_c2 := f10.2.2); (try and_intros) <;> first | with_reducible assumption | (clear f10_c2 f10 hK_0_1 hK_0_160 hK_0_162 hK_0_163 f6; omega)) | ((have f10_c0 := f10.1); (have f10_c1 := f10.2.1); (have f10_c2 := f10.2.2); (first | have f6_b := f6 (by clear f10_c2 f10 hK_0_1 hK_0_160 hK_0_162 hK_0_163 f6; omega) | skip); (first | have f6_d := f6 (by with_reducible assumption) | skip); (try and_intros) <;> first | with_reducible assumption | (clear f10_c2 f10 hK_0_1 hK_0_160 hK_0_162 hK_0_163 f6; omega)) | ((have f10_c0 := f10.1); (have f10_c1 := f10.2.1); (have f10_c2 := f10.2.2); (first | have f6_b := f6 (by clear f10_c2 f10 hK_0_1 hK_0_160 hK_0_162 hK_0_163 f6; omega) | skip); (first | have f6_d := f6 (by with_reducible assumption) | skip); (first | have f10_q := tk_nx0 f10 (by clear f10_c2 f10 hK_0_1 hK_0_160 hK_0_162 hK_0_163 f6; omega) | skip); (try and_intros) <;> first | with_reducible assumption | (clear f10_c2 f10 hK_0_1 hK_0_160 hK_0_162 hK_0_163 f6; omega)) | omega
def o_Mo_rule_at_f0_68 : or_T := (106, 12, [(0, (2, 0, 0, [165])), (1, (0, 0, 2009, [])), (2, (2, 0, 0, [165])), (7, (0, 0, 5, [])), (8, (0, 0, 2010, [])), (9, (0, 0, 2009, [])), (10, (0, 0, 5, [])), (11, (0, 1, 1, []))], [(9, [7, 2], [8]), (8, [11], [1]), (20, [2, 10], [50, 1, 0, 8, 1, 3, 2, 0, 8, 1, 1]), (23, [1, 9], [0, 1, -1]), (23, [8, 9], [-2011, -1, -1]), (20, [2, 9, 10, 1], [60, 2, 5, 63, 164, 10, 160, 161, 162, 163, 1]), (20, [2], [50, 2, 0, 164, 165, 4, 7, 1, 3, 2, 0, 164, 0, 0, 0, 3, 2, 0, 165, 0, 23]), (20, [2], [30, 0, 1, 1, 159]), (20, [2], [30, 0, -1, 1, 159]), (24, [0, 2], []), (20, [2], [50, 2, 1, 158, 157, 160, 2, 12, 0, 7, 4, 3, 2, 0, 158, 0, 1, 2, 0, 157, 2, 7, 0, 3, 2, 0, 157, 0, 2010, 3, 14, 1, 10, 3, 0, 160, 5, 3, 2, 0, 157, 0, 1, 0, 0, 1, 10, 3, 0, 160, 5, 3, 2, 0, 157, 0, 1, 0, 4]), (20, [9, 11, 2], [30, 0, 1, 0, 0, 1, 0, 0, -1, 1, 158]), (20, [2, 11, 9, 10], [60, 1, 2, 69, 158, 160, 161]), (102, [10], [0, 165158]), (23, [1, 9], [0, 1, -1]), (23, [8, 9], [-2011, -1, -1])], [], [(0, 0, 2010, [])], [(20, [2], [50, 2, 1, 158, 157, 160, 2, 12, 0, 7, 4, 3, 2, 0, 158, 0, 1, 2, 0, 157, 2, 7, 0, 3, 2, 0, 157, 0, 2010, 3, 14, 1, 10, 3, 0, 160, 5, 3, 2, 0, 157, 0, 1, 0, 0, 1, 10, 3, 0, 160, 5, 3, 2, 0, 157, 0, 1, 0, 4]), (20, [1, 2], [30, 0, 1, 0, 0, -1, 1, 158]), (20, [2], [50, 2, 0, 164, 165, 4, 7, 1, 3, 2, 0, 164, 0, 0, 0, 3, 2, 0, 165, 0, 23]), (20, [2], [30, 0, 1, 1, 159]), (20, [2], [30, 0, -1, 1, 159]), (20, [2, 1], [60, 4, 5, 67, 8, 158, 164, 10, 160, 161, 162, 163, 1]), (24, [0, 2], []), (20, [12, 2], [30, 2010, 1, 0, 0, 1, 1, 158]), (20, [12, 2], [30, -2010, -1, 0, 0, -1, 1, 158])], [(12, 8, -1000000000000, -1)], [])
theorem oo_Mo_rule_at_f0_68 {kA : Nat → ClassId} : or_ok PRD kA GG o_Mo_rule_at_f0_68 := by
  refine or_mk fun A ta ws vs hD hth hl => ?_
  intro t0 r0 t1 k1 t2 r2 t7 k7 t8 k8 t9 k9 t10 k10 t11 k11 f0 f1 f2 f3 f4 f5 f6 f7 f8 f9 f10 f11 f12 ta1 w1 le1 s1 f14 f15
  replace f0 := shm_293 f0
  replace f1 := shm_142 f1
  replace f2 := shm_277 f2
  replace f3 := shm_7 f3
  replace f4 := shm_290 f4
  replace f5 := shm_2274 f5
  replace f6 := shm_274 f6
  replace f7 := shm_1029 f7
  replace f8 := shm_1030 f8
  replace f9 := shm_5 f9
  replace f10 := shm_271 f10
  replace f11 := shm_977 f11
  replace f12 := shm_978 f12
  replace f14 := shm_7 f14
  replace f15 := shm_290 f15
  have q2 : n_v vs 2 = n_v vs 0 := f9.symm
  simp only [q2] at f0 f2 f5 f6 f7 f8 f10 f11 f12
  have cr_0_1 := fdq_39 hD hth r0
  have cr_0_160 := fdq_33 hD hth r0
  have cr_0_161 := fdq_40 hD hth r0
  have cr_0_162 := fdq_41 hD hth r0
  have cr_0_163 := fdq_42 hD hth r0
  have g0 : v_iv (n_v vs 7) = w_fi ws (n_v vs 0) 8 := congrArg v_iv f0
  have hK_0_1 := elq_7 hD hth cr_0_1
  have hK_0_160 := elq_6 hD hth cr_0_160
  have hK_0_162 := elq_8 hD hth cr_0_162
  have hK_0_163 := elq_9 hD hth cr_0_163
  have kz_0_8 := fdq_34 hD hth r0
  have kz_0_10 := fdq_43 hD hth r0
  have kz_0_157 := fdq_35 hD hth r0
  have kz_0_158 := fdq_36 hD hth r0
  have kz_0_159 := fdq_37 hD hth r0
  have kz_0_164 := fdq_38 hD hth r0
  have kz_0_165 := fdq_27 hD hth r0
  have kb_0_158 := fdq_36 hD hth r0
  obtain ⟨x, ex, hx⟩ := iv_ex (ta := ta) (lo := 0) (hi := 2010) (z := 2010 + ((-1) * w_fi ws (n_v vs 0) 158 + 0)) (by omega) (by omega) (by omega) (by omega)
  have ex2 : v_iv (Value.int x) = 2010 + ((-1) * w_fi ws (n_v vs 0) 158 + 0) := ex
  have ex3 : 0 ≤ v_iv (Value.int x) ∧ v_iv (Value.int x) ≤ 2010 := tv_rng hx
  have e_0 : n_v (vs ++ [Value.int x]) 0 = n_v vs 0 := n_v_old (by rw [hl]; decide)
  have e_1 : n_v (vs ++ [Value.int x]) 1 = n_v vs 1 := n_v_old (by rw [hl]; decide)
  have e_2 : n_v (vs ++ [Value.int x]) 2 = n_v vs 2 := n_v_old (by rw [hl]; decide)
  have e_12 : n_v (vs ++ [Value.int x]) 12 = Value.int x := n_v_new hl
  have nf0 : fc_1 PRD (20, [2], [50, 2, 1, 158, 157, 160, 2, 12, 0, 7, 4, 3, 2, 0, 158, 0, 1, 2, 0, 157, 2, 7, 0, 3, 2, 0, 157, 0, 2010, 3, 14, 1, 10, 3, 0, 160, 5, 3, 2, 0, 157, 0, 1, 0, 0, 1, 10, 3, 0, 160, 5, 3, 2, 0, 157, 0, 1, 0, 4]) ws (vs ++ [Value.int x]) := by
    refine ⟨nf_inA hl rfl, sgq_271 ?_⟩
    · show ((w_fi ws (n_v (vs ++ [Value.int x]) 2) 158 + 1) ≤ w_fi ws (n_v (vs ++ [Value.int x]) 2) 157) ∧ ((w_fi ws (n_v (vs ++ [Value.int x]) 2) 157 ≤ 2010) ∧ ((w_ei ws (w_ar ws (n_v (vs ++ [Value.int x]) 2) 160) ((w_fi ws (n_v (vs ++ [Value.int x]) 2) 157 - 1)) = 0) ∨ (w_ei ws (w_ar ws (n_v (vs ++ [Value.int x]) 2) 160) ((w_fi ws (n_v (vs ++ [Value.int x]) 2) 157 - 1)) = 4)))
      simp only [e_2, q2]
      exact vc_Mo_rule_at_f0_68_0 (v_iv (n_v vs 1)) (v_iv (n_v vs 7)) (v_iv (n_v vs 8)) (v_iv (n_v vs 9)) (v_iv (n_v vs 10)) (v_iv (n_v vs 11)) (w_fi ws (n_v vs 0) 8) (w_ei ws (w_ar ws (n_v vs 0) 160)) (w_ei ws (w_ar ws (n_v vs 0) 161)) (w_ei ws (w_ar ws (n_v vs 0) 162)) (w_ei ws (w_ar ws (n_v vs 0) 163)) (w_ei ws (w_ar ws (n_v vs 0) 1)) (w_fi ws (n_v vs 0) 164) (w_fi ws (n_v vs 0) 10) (w_fi ws (n_v vs 0) 165) (w_fi ws (n_v vs 0) 159) (w_fi ws (n_v vs 0) 158) (w_fi ws (n_v vs 0) 157) (v_iv (Value.int x)) k1 k7 k8 k9 k10 k11 g0 f1 f2 f3 f4 f5 f6 f7 f8 f10 f11 f12 f14 f15 hK_0_1 hK_0_160 hK_0_162 hK_0_163 kz_0_8 kz_0_10 kz_0_157 kz_0_158 kz_0_159 kz_0_164 kz_0_165 ex2 ex3
  have nf1 : fc_1 PRD (20, [1, 2], [30, 0, 1, 0, 0, -1, 1, 158]) ws (vs ++ [Value.int x]) := by
    refine ⟨nf_inA hl rfl, sgq_281 ?_⟩
    · show 1 * v_iv (n_v (vs ++ [Value.int x]) 1) + ((-1) * w_fi ws (n_v (vs ++ [Value.int x]) 2) 158 + 0) ≤ 0
      simp only [e_1, e_2, q2]
      exact vc_Mo_rule_at_f0_68_1 (v_iv (n_v vs 1)) (v_iv (n_v vs 7)) (v_iv (n_v vs 8)) (v_iv (n_v vs 9)) (v_iv (n_v vs 10)) (v_iv (n_v vs 11)) (w_fi ws (n_v vs 0) 8) (w_ei ws (w_ar ws (n_v vs 0) 160)) (w_ei ws (w_ar ws (n_v vs 0) 161)) (w_ei ws (w_ar ws (n_v vs 0) 162)) (w_ei ws (w_ar ws (n_v vs 0) 163)) (w_ei ws (w_ar ws (n_v vs 0) 1)) (w_fi ws (n_v vs 0) 164) (w_fi ws (n_v vs 0) 10) (w_fi ws (n_v vs 0) 165) (w_fi ws (n_v vs 0) 159) (w_fi ws (n_v vs 0) 158) (w_fi ws (n_v vs 0) 157) (v_iv (Value.int x)) k1 k7 k8 k9 k10 k11 g0 f1 f2 f3 f4 f5 f6 f7 f8 f10 f11 f12 f14 f15 hK_0_1 hK_0_160 hK_0_162 hK_0_163 kz_0_8 kz_0_10 kz_0_157 kz_0_158 kz_0_159 kz_0_164 kz_0_165 ex2 ex3
  have nf2 : fc_1 PRD (20, [2], [50, 2, 0, 164, 165, 4, 7, 1, 3, 2, 0, 164, 0, 0, 0, 3, 2, 0, 165, 0, 23]) ws (vs ++ [Value.int x]) := by
    refine ⟨nf_inA hl rfl, sgq_274 ?_⟩
    · show (w_fi ws (n_v (vs ++ [Value.int x]) 2) 164 = 0) → (w_fi ws (n_v (vs ++ [Value.int x]) 2) 165 ≤ 23)
      simp only [e_2, q2]
      exact vc_Mo_rule_at_f0_68_2 (v_iv (n_v vs 1)) (v_iv (n_v vs 7)) (v_iv (n_v vs 8)) (v_iv (n_v vs 9)) (v_iv (n_v vs 10)) (v_iv (n_v vs 11)) (w_fi ws (n_v vs 0) 8) (w_ei ws (w_ar ws (n_v vs 0) 160)) (w_ei ws (w_ar ws (n_v vs 0) 161)) (w_ei ws (w_ar ws (n_v vs 0) 162)) (w_ei ws (w_ar ws (n_v vs 0) 163)) (w_ei ws (w_ar ws (n_v vs 0) 1)) (w_fi ws (n_v vs 0) 164) (w_fi ws (n_v vs 0) 10) (w_fi ws (n_v vs 0) 165) (w_fi ws (n_v vs 0) 159) (w_fi ws (n_v vs 0) 158) (w_fi ws (n_v vs 0) 157) (v_iv (Value.int x)) k1 k7 k8 k9 k10 k11 g0 f1 f2 f3 f4 f5 f6 f7 f8 f10 f11 f12 f14 f15 hK_0_1 hK_0_160 hK_0_162 hK_0_163 kz_0_8 kz_0_10 kz_0_157 kz_0_158 kz_0_159 kz_0_164 kz_0_165 ex2 ex3
  have nf3 : fc_1 PRD (20, [2], [30, 0, 1, 1, 159]) ws (vs ++ [Value.int x]) := by
    refine ⟨nf_inA hl rfl, sgq_1029 ?_⟩
    · show 1 * w_fi ws (n_v (vs ++ [Value.int x]) 2) 159 + 0 ≤ 0
      simp only [e_2, q2]
      exact vc_Mo_rule_at_f0_68_3 (v_iv (n_v vs 1)) (v_iv (n_v vs 7)) (v_iv (n_v vs 8)) (v_iv (n_v vs 9)) (v_iv (n_v vs 10)) (v_iv (n_v vs 11)) (w_fi ws (n_v vs 0) 8) (w_ei ws (w_ar ws (n_v vs 0) 160)) (w_ei ws (w_ar ws (n_v vs 0) 161)) (w_ei ws (w_ar ws (n_v vs 0) 162)) (w_ei ws (w_ar ws (n_v vs 0) 163)) (w_ei ws (w_ar ws (n_v vs 0) 1)) (w_fi ws (n_v vs 0) 164) (w_fi ws (n_v vs 0) 10) (w_fi ws (n_v vs 0) 165) (w_fi ws (n_v vs 0) 159) (w_fi ws (n_v vs 0) 158) (w_fi ws (n_v vs 0) 157) (v_iv (Value.int x)) k1 k7 k8 k9 k10 k11 g0 f1 f2 f3 f4 f5 f6 f7 f8 f10 f11 f12 f14 f15 hK_0_1 hK_0_160 hK_0_162 hK_0_163 kz_0_8 kz_0_10 kz_0_157 kz_0_158 kz_0_159 kz_0_164 kz_0_165 ex2 ex3
  have nf4 : fc_1 PRD (20, [2], [30, 0, -1, 1, 159]) ws (vs ++ [Value.int x]) := by
    refine ⟨nf_inA hl rfl, sgq_1030 ?_⟩
    · show (-1) * w_fi ws (n_v (vs ++ [Value.int x]) 2) 159 + 0 ≤ 0
      simp only [e_2, q2]
      exact vc_Mo_rule_at_f0_68_4 (v_iv (n_v vs 1)) (v_iv (n_v vs 7)) (v_iv (n_v vs 8)) (v_iv (n_v vs 9)) (v_iv (n_v vs 10)) (v_iv (n_v vs 11)) (w_fi ws (n_v vs 0) 8) (w_ei ws (w_ar ws (n_v vs 0) 160)) (w_ei ws (w_ar ws (n_v vs 0) 161)) (w_ei ws (w_ar ws (n_v vs 0) 162)) (w_ei ws (w_ar ws (n_v vs 0) 163)) (w_ei ws (w_ar ws (n_v vs 0) 1)) (w_fi ws (n_v vs 0) 164) (w_fi ws (n_v vs 0) 10) (w_fi ws (n_v vs 0) 165) (w_fi ws (n_v vs 0) 159) (w_fi ws (n_v vs 0) 158) (w_fi ws (n_v vs 0) 157) (v_iv (Value.int x)) k1 k7 k8 k9 k10 k11 g0 f1 f2 f3 f4 f5 f6 f7 f8 f10 f11 f12 f14 f15 hK_0_1 hK_0_160 hK_0_162 hK_0_163 kz_0_8 kz_0_10 kz_0_157 kz_0_158 kz_0_159 kz_0_164 kz_0_165 ex2 ex3
  have nf5 : fc_1 PRD (20, [2, 1], [60, 4, 5, 67, 8, 158, 164, 10, 160, 161, 162, 163, 1]) ws (vs ++ [Value.int x]) := by
    refine ⟨nf_inA hl rfl, sgq_2266 ?_⟩
    · show RDW (w_fi ws (n_v (vs ++ [Value.int x]) 2) 8) (w_fi ws (n_v (vs ++ [Value.int x]) 2) 158) (w_fi ws (n_v (vs ++ [Value.int x]) 2) 164) (w_fi ws (n_v (vs ++ [Value.int x]) 2) 10) (w_ei ws (w_ar ws (n_v (vs ++ [Value.int x]) 2) 160)) (w_ei ws (w_ar ws (n_v (vs ++ [Value.int x]) 2) 161)) (w_ei ws (w_ar ws (n_v (vs ++ [Value.int x]) 2) 162)) (w_ei ws (w_ar ws (n_v (vs ++ [Value.int x]) 2) 163)) (w_ei ws (w_ar ws (n_v (vs ++ [Value.int x]) 2) 1)) (v_iv (n_v (vs ++ [Value.int x]) 1))
      simp only [e_1, e_2, q2]
      exact vc_Mo_rule_at_f0_68_5 (v_iv (n_v vs 1)) (v_iv (n_v vs 7)) (v_iv (n_v vs 8)) (v_iv (n_v vs 9)) (v_iv (n_v vs 10)) (v_iv (n_v vs 11)) (w_fi ws (n_v vs 0) 8) (w_ei ws (w_ar ws (n_v vs 0) 160)) (w_ei ws (w_ar ws (n_v vs 0) 161)) (w_ei ws (w_ar ws (n_v vs 0) 162)) (w_ei ws (w_ar ws (n_v vs 0) 163)) (w_ei ws (w_ar ws (n_v vs 0) 1)) (w_fi ws (n_v vs 0) 164) (w_fi ws (n_v vs 0) 10) (w_fi ws (n_v vs 0) 165) (w_fi ws (n_v vs 0) 159) (w_fi ws (n_v vs 0) 158) (w_fi ws (n_v vs 0) 157) (v_iv (Value.int x)) k1 k7 k8 k9 k10 k11 g0 f1 f2 f3 f4 f5 f6 f7 f8 f10 f11 f12 f14 f15 hK_0_1 hK_0_160 hK_0_162 hK_0_163 kz_0_8 kz_0_10 kz_0_157 kz_0_158 kz_0_159 kz_0_164 kz_0_165 ex2 ex3
  have nf6 : fc_1 PRD (24, [0, 2], []) ws (vs ++ [Value.int x]) := by
    refine ⟨nf_inA hl rfl, sgq_5 ?_⟩
    · show n_v (vs ++ [Value.int x]) 0 = n_v (vs ++ [Value.int x]) 2
      first | rfl | simp only [e_0, e_2, q2]
  have nf7 : fc_1 PRD (20, [12, 2], [30, 2010, 1, 0, 0, 1, 1, 158]) ws (vs ++ [Value.int x]) := by
    refine ⟨nf_inA hl rfl, sgq_284 ?_⟩
    · show 1 * v_iv (n_v (vs ++ [Value.int x]) 12) + (1 * w_fi ws (n_v (vs ++ [Value.int x]) 2) 158 + 0) ≤ 2010
      simp only [e_2, e_12, q2]
      exact vc_Mo_rule_at_f0_68_7 (v_iv (n_v vs 1)) (v_iv (n_v vs 7)) (v_iv (n_v vs 8)) (v_iv (n_v vs 9)) (v_iv (n_v vs 10)) (v_iv (n_v vs 11)) (w_fi ws (n_v vs 0) 8) (w_ei ws (w_ar ws (n_v vs 0) 160)) (w_ei ws (w_ar ws (n_v vs 0) 161)) (w_ei ws (w_ar ws (n_v vs 0) 162)) (w_ei ws (w_ar ws (n_v vs 0) 163)) (w_ei ws (w_ar ws (n_v vs 0) 1)) (w_fi ws (n_v vs 0) 164) (w_fi ws (n_v vs 0) 10) (w_fi ws (n_v vs 0) 165) (w_fi ws (n_v vs 0) 159) (w_fi ws (n_v vs 0) 158) (w_fi ws (n_v vs 0) 157) (v_iv (Value.int x)) k1 k7 k8 k9 k10 k11 g0 f1 f2 f3 f4 f5 f6 f7 f8 f10 f11 f12 f14 f15 hK_0_1 hK_0_160 hK_0_162 hK_0_163 kz_0_8 kz_0_10 kz_0_157 kz_0_158 kz_0_159 kz_0_164 kz_0_165 ex2 ex3
  have nf8 : fc_1 PRD (20, [12, 2], [30, -2010, -1, 0, 0, -1, 1, 158]) ws (vs ++ [Value.int x]) := by
    refine ⟨nf_inA hl rfl, sgq_285 ?_⟩
    · show (-1) * v_iv (n_v (vs ++ [Value.int x]) 12) + ((-1) * w_fi ws (n_v (vs ++ [Value.int x]) 2) 158 + 0) ≤ (-2010)
      simp only [e_2, e_12, q2]
      exact vc_Mo_rule_at_f0_68_8 (v_iv (n_v vs 1)) (v_iv (n_v vs 7)) (v_iv (n_v vs 8)) (v_iv (n_v vs 9)) (v_iv (n_v vs 10)) (v_iv (n_v vs 11)) (w_fi ws (n_v vs 0) 8) (w_ei ws (w_ar ws (n_v vs 0) 160)) (w_ei ws (w_ar ws (n_v vs 0) 161)) (w_ei ws (w_ar ws (n_v vs 0) 162)) (w_ei ws (w_ar ws (n_v vs 0) 163)) (w_ei ws (w_ar ws (n_v vs 0) 1)) (w_fi ws (n_v vs 0) 164) (w_fi ws (n_v vs 0) 10) (w_fi ws (n_v vs 0) 165) (w_fi ws (n_v vs 0) 159) (w_fi ws (n_v vs 0) 158) (w_fi ws (n_v vs 0) 157) (v_iv (Value.int x)) k1 k7 k8 k9 k10 k11 g0 f1 f2 f3 f4 f5 f6 f7 f8 f10 f11 f12 f14 f15 hK_0_1 hK_0_160 hK_0_162 hK_0_163 kz_0_8 kz_0_10 kz_0_157 kz_0_158 kz_0_159 kz_0_164 kz_0_165 ex2 ex3
  obtain ⟨x0, e0, _, _⟩ := tv_int t8 rfl
  have e1 : v_iv (n_v vs 8) = x0.toInt := by rw [e0]; rfl
  have ho : sy_ofs (vs ++ [Value.int x]) (12, 8, -1000000000000, -1) := by
    refine ⟨x, x0, by rw [List.getElem?_append_right (by rw [hl]; decide), hl]; rfl, ?_, ?_, ?_⟩
    · rw [List.getElem?_append_left (by rw [hl]; decide)]; exact n_v_some (by rw [hl]; decide) e0
    · show x0.toInt + (-1000000000000) ≤ x.toInt; omega
    · show x.toInt ≤ x0.toInt + (-1); omega
  exact ⟨(fun _ h => (by cases h)), [Value.int x], ag_one hx, List.forall_mem_cons.mpr ⟨⟨show (20 : Nat) < 100 from by decide, nf0⟩, List.forall_mem_cons.mpr ⟨⟨show (20 : Nat) < 100 from by decide, nf1⟩, List.forall_mem_cons.mpr ⟨⟨show (20 : Nat) < 100 from by decide, nf2⟩, List.forall_mem_cons.mpr ⟨⟨show (20 : Nat) < 100 from by decide, nf3⟩, List.forall_mem_cons.mpr ⟨⟨show (20 : Nat) < 100 from by decide, nf4⟩, List.forall_mem_cons.mpr ⟨⟨show (20 : Nat) < 100 from by decide, nf5⟩, List.forall_mem_cons.mpr ⟨⟨show (24 : Nat) < 100 from by decide, nf6⟩, List.forall_mem_cons.mpr ⟨⟨show (20 : Nat) < 100 from by decide, nf7⟩, List.forall_mem_cons.mpr ⟨⟨show (20 : Nat) < 100 from by decide, nf8⟩, (fun _ h => (by cases h))⟩⟩⟩⟩⟩⟩⟩⟩⟩, List.forall_mem_cons.mpr ⟨ho, (fun _ h => (by cases h))⟩⟩
set_option maxHeartbeats 4000000 in
theorem vc_Mo_rule_at_f0_69_0 (x1 : Int) (x7 : Int) (x8 : Int) (x9 : Int) (x10 : Int) (x11 : Int) (fault_0 : Int) (tokenKind_0 : Int → Int) (tokenValue_0 : Int → Int) (tokenPlace_0 : Int → Int) (tokenEnd_0 : Int → Int) (tape_0 : Int → Int) (styleKind_0 : Int) (limit_0 : Int) (styleOne_0 : Int) (opened_0 : Int) (cur_0 : Int) (tokens_0 : Int) (gx : Int) (gy : Int) (k1 : 0 ≤ x1 ∧ x1 ≤ 2009) (k7 : 0 ≤ x7 ∧ x7 ≤ 5) (k8 : 0 ≤ x8 ∧ x8 ≤ 2010) (k9 : 0 ≤ x9 ∧ x9 ≤ 2009) (k10 : 0 ≤ x10 ∧ x10 ≤ 5) (k11 : 0 ≤ x11 ∧ x11 ≤ 0) (g0 : x7 = fault_0) (f1 : x11 = 0) (f2 : fault_0 = x10) (f3 : 1 * x1 + ((-1) * x9 + 0) ≤ 0) (f4 : (-1) * x8 + ((-1) * x9 + 0) ≤ (-2011)) (f5 : RDz (styleKind_0) (limit_0) (tokenKind_0) (tokenValue_0) (tokenPlace_0) (tokenEnd_0) (tape_0) (x9) (x10) (x1)) (f6 : (styleKind_0 = 0) → (styleOne_0 ≤ 23)) (f7 : 1 * opened_0 + 0 ≤ 0) (f8 : (-1) * opened_0 + 0 ≤ 0) (f10 : ((cur_0 + 1) ≤ tokens_0) ∧ ((tokens_0 ≤ 2010) ∧ ((tokenKind_0 ((tokens_0 - 1)) = 0) ∨ (tokenKind_0 ((tokens_0 - 1)) = 4)))) (f11 : 1 * x9 + (1 * x11 + ((-1) * cur_0 + 0)) ≤ 0) (f12 : CMA (cur_0) (tokenKind_0) (tokenValue_0) (x11) (x9) (x10)) (f14 : 1 * x1 + ((-1) * x9 + 0) ≤ 0) (f15 : (-1) * x8 + ((-1) * x9 + 0) ≤ (-2011)) (hK_0_1 : ∀ j : Int, 0 ≤ j → j < 2000 → (-128) ≤ tape_0 j ∧ tape_0 j ≤ 127) (hK_0_160 : ∀ j : Int, 0 ≤ j → j < 2010 → 0 ≤ tokenKind_0 j ∧ tokenKind_0 j ≤ 4) (hK_0_162 : ∀ j : Int, 0 ≤ j → j < 2010 → 0 ≤ tokenPlace_0 j ∧ tokenPlace_0 j ≤ 2000) (hK_0_163 : ∀ j : Int, 0 ≤ j → j < 2010 → 0 ≤ tokenEnd_0 j ∧ tokenEnd_0 j ≤ 2000) (kz_0_8 : 0 ≤ fault_0 ∧ fault_0 ≤ 5) (kz_0_10 : 0 ≤ limit_0 ∧ limit_0 ≤ 2000) (kz_0_157 : 0 ≤ tokens_0 ∧ tokens_0 ≤ 2010) (kz_0_158 : 0 ≤ cur_0 ∧ cur_0 ≤ 2009) (kz_0_159 : 0 ≤ opened_0 ∧ opened_0 ≤ 13) (kz_0_164 : 0 ≤ styleKind_0 ∧ styleKind_0 ≤ 1) (kz_0_165 : (-1) ≤ styleOne_0 ∧ styleOne_0 ≤ 47) (ex2 : gx = cur_0) (ex3 : 0 ≤ gx ∧ gx ≤ 2009) (ey2 : gy = fault_0) (ey3 : 0 ≤ gy ∧ gy ≤ 5) : ((cur_0 + 1) ≤ tokens_0) ∧ ((tokens_0 ≤ 2010) ∧ ((tokenKind_0 ((tokens_0 - 1)) = 0) ∨ (tokenKind_0 ((tokens_0 - 1)) = 4))) := by
  first | with_reducible assumption | ((have f10_c0 := f10.1); (have f10_c1 := f10.2.1); (have f10_c2 := f10.2.2); (try and_intros) <;> first | with_reducible assumption | (clear f10_c2 f10 hK_0_1 hK_0_160 hK_0_162 hK_0_163 f6; omega)) | ((have f10_c0 := f10.1); (have f10_c1 := f10.2.1); (have f10_c2 := f10.2.2); (first | have f6_b := f6 (by clear f10_c2 f10 hK_0_1 hK_0_160 hK_0_162 hK_0_163 f6; omega) | skip); (first | have f6_d := f6 (by with_reducible assumption) | skip); (try and_intros) <;> first | with_reducible assumption | (clear f10_c2 f10 hK_0_1 hK_0_160 hK_0_162 hK_0_163 f6; omega)) | ((have f10_c0 := f10.1); (have f10_c1 := f10.2.1); (have f10_c2 := f10.2.2); (first | have f6_b := f6 (by clear f10_c2 f10 hK_0_1 hK_0_160 hK_0_162 hK_0_163 f6; omega) | skip); (first | have f6_d := f6 (by with_reducible assumption) | skip); (first | have f10_q := tk_nx0 f10 (by clear f10_c2 f10 hK_0_1 hK_0_160 hK_0_162 hK_0_163 f6; omega) | skip); (try and_intros) <;> first | with_reducible assumption | (clear f10_c2 f10 hK_0_1 hK_0_160 hK_0_162 hK_0_163 f6; omega)) | omega
set_option maxHeartbeats 4000000 in
theorem vc_Mo_rule_at_f0_69_1 (x1 : Int) (x7 : Int) (x8 : Int) (x9 : Int) (x10 : Int) (x11 : Int) (fault_0 : Int) (tokenKind_0 : Int → Int) (tokenValue_0 : Int → Int) (tokenPlace_0 : Int → Int) (tokenEnd_0 : Int → Int) (tape_0 : Int → Int) (styleKind_0 : Int) (limit_0 : Int) (styleOne_0 : Int) (opened_0 : Int) (cur_0 : Int) (tokens_0 : Int) (gx : Int) (gy : Int) (k1 : 0 ≤ x1 ∧ x1 ≤ 2009) (k7 : 0 ≤ x7 ∧ x7 ≤ 5) (k8 : 0 ≤ x8 ∧ x8 ≤ 2010) (k9 : 0 ≤ x9 ∧ x9 ≤ 2009) (k10 : 0 ≤ x10 ∧ x10 ≤ 5) (k11 : 0 ≤ x11 ∧ x11 ≤ 0) (g0 : x7 = fault_0) (f1 : x11 = 0) (f2 : fault_0 = x10) (f3 : 1 * x1 + ((-1) * x9 + 0) ≤ 0) (f4 : (-1) * x8 + ((-1) * x9 + 0) ≤ (-2011)) (f5 : RDz (styleKind_0) (limit_0) (tokenKind_0) (tokenValue_0) (tokenPlace_0) (tokenEnd_0) (tape_0) (x9) (x10) (x1)) (f6 : (styleKind_0 = 0) → (styleOne_0 ≤ 23)) (f7 : 1 * opened_0 + 0 ≤ 0) (f8 : (-1) * opened_0 + 0 ≤ 0) (f10 : ((cur_0 + 1) ≤ tokens_0) ∧ ((tokens_0 ≤ 2010) ∧ ((tokenKind_0 ((tokens_0 - 1)) = 0) ∨ (tokenKind_0 ((tokens_0 - 1)) = 4)))) (f11 : 1 * x9 + (1 * x11 + ((-1) * cur_0 + 0)) ≤ 0) (f12 : CMA (cur_0) (tokenKind_0) (tokenValue_0) (x11) (x9) (x10)) (f14 : 1 * x1 + ((-1) * x9 + 0) ≤ 0) (f15 : (-1) * x8 + ((-1) * x9 + 0) ≤ (-2011)) (hK_0_1 : ∀ j : Int, 0 ≤ j → j < 2000 → (-128) ≤ tape_0 j ∧ tape_0 j ≤ 127) (hK_0_160 : ∀ j : Int, 0 ≤ j → j < 2010 → 0 ≤ tokenKind_0 j ∧ tokenKind_0 j ≤ 4) (hK_0_162 : ∀ j : Int, 0 ≤ j → j < 2010 → 0 ≤ tokenPlace_0 j ∧ tokenPlace_0 j ≤ 2000) (hK_0_163 : ∀ j : Int, 0 ≤ j → j < 2010 → 0 ≤ tokenEnd_0 j ∧ tokenEnd_0 j ≤ 2000) (kz_0_8 : 0 ≤ fault_0 ∧ fault_0 ≤ 5) (kz_0_10 : 0 ≤ limit_0 ∧ limit_0 ≤ 2000) (kz_0_157 : 0 ≤ tokens_0 ∧ tokens_0 ≤ 2010) (kz_0_158 : 0 ≤ cur_0 ∧ cur_0 ≤ 2009) (kz_0_159 : 0 ≤ opened_0 ∧ opened_0 ≤ 13) (kz_0_164 : 0 ≤ styleKind_0 ∧ styleKind_0 ≤ 1) (kz_0_165 : (-1) ≤ styleOne_0 ∧ styleOne_0 ≤ 47) (ex2 : gx = cur_0) (ex3 : 0 ≤ gx ∧ gx ≤ 2009) (ey2 : gy = fault_0) (ey3 : 0 ≤ gy ∧ gy ≤ 5) : 1 * cur_0 + ((-1) * gx + 0) ≤ 0 := by
  first | with_reducible assumption | ((have f10_c0 := f10.1); (have f10_c1 := f10.2.1); (have f10_c2 := f10.2.2); (try and_intros) <;> first | with_reducible assumption | (clear f10_c2 f10 hK_0_1 hK_0_160 hK_0_162 hK_0_163 f6; omega)) | ((have f10_c0 := f10.1); (have f10_c1 := f10.2.1); (have f10_c2 := f10.2.2); (first | have f6_b := f6 (by clear f10_c2 f10 hK_0_1 hK_0_160 hK_0_162 hK_0_163 f6; omega) | skip); (first | have f6_d := f6 (by with_reducible assumption) | skip); (try and_intros) <;> first | with_reducible assumption | (clear f10_c2 f10 hK_0_1 hK_0_160 hK_0_162 hK_0_163 f6; omega)) | ((have f10_c0 := f10.1); (have f10_c1 := f10.2.1); (have f10_c2 := f10.2.2); (first | have f6_b := f6 (by clear f10_c2 f10 hK_0_1 hK_0_160 hK_0_162 hK_0_163 f6; omega) | skip); (first | have f6_d := f6 (by with_reducible assumption) | skip); (first | have f10_q := tk_nx0 f10 (by clear f10_c2 f10 hK_0_1 hK_0_160 hK_0_162 hK_0_163 f6; omega) | skip); (try and_intros) <;> first | with_reducible assumption | (clear f10_c2 f10 hK_0_1 hK_0_160 hK_0_162 hK_0_163 f6; omega)) | omega
set_option maxHeartbeats 4000000 in
theorem vc_Mo_rule_at_f0_69_2 (x1 : Int) (x7 : Int) (x8 : Int) (x9 : Int) (x10 : Int) (x11 : Int) (fault_0 : Int) (tokenKind_0 : Int → Int) (tokenValue_0 : Int → Int) (tokenPlace_0 : Int → Int) (tokenEnd_0 : Int → Int) (tape_0 : Int → Int) (styleKind_0 : Int) (limit_0 : Int) (styleOne_0 : Int) (opened_0 : Int) (cur_0 : Int) (tokens_0 : Int) (gx : Int) (gy : Int) (k1 : 0 ≤ x1 ∧ x1 ≤ 2009) (k7 : 0 ≤ x7 ∧ x7 ≤ 5) (k8 : 0 ≤ x8 ∧ x8 ≤ 2010) (k9 : 0 ≤ x9 ∧ x9 ≤ 2009) (k10 : 0 ≤ x10 ∧ x10 ≤ 5) (k11 : 0 ≤ x11 ∧ x11 ≤ 0) (g0 : x7 = fault_0) (f1 : x11 = 0) (f2 : fault_0 = x10) (f3 : 1 * x1 + ((-1) * x9 + 0) ≤ 0) (f4 : (-1) * x8 + ((-1) * x9 + 0) ≤ (-2011)) (f5 : RDz (styleKind_0) (limit_0) (tokenKind_0) (tokenValue_0) (tokenPlace_0) (tokenEnd_0) (tape_0) (x9) (x10) (x1)) (f6 : (styleKind_0 = 0) → (styleOne_0 ≤ 23)) (f7 : 1 * opened_0 + 0 ≤ 0) (f8 : (-1) * opened_0 + 0 ≤ 0) (f10 : ((cur_0 + 1) ≤ tokens_0) ∧ ((tokens_0 ≤ 2010) ∧ ((tokenKind_0 ((tokens_0 - 1)) = 0) ∨ (tokenKind_0 ((tokens_0 - 1)) = 4)))) (f11 : 1 * x9 + (1 * x11 + ((-1) * cur_0 + 0)) ≤ 0) (f12 : CMA (cur_0) (tokenKind_0) (tokenValue_0) (x11) (x9) (x10)) (f14 : 1 * x1 + ((-1) * x9 + 0) ≤ 0) (f15 : (-1) * x8 + ((-1) * x9 + 0) ≤ (-2011)) (hK_0_1 : ∀ j : Int, 0 ≤ j → j < 2000 → (-128) ≤ tape_0 j ∧ tape_0 j ≤ 127) (hK_0_160 : ∀ j : Int, 0 ≤ j → j < 2010 → 0 ≤ tokenKind_0 j ∧ tokenKind_0 j ≤ 4) (hK_0_162 : ∀ j : Int, 0 ≤ j → j < 2010 → 0 ≤ tokenPlace_0 j ∧ tokenPlace_0 j ≤ 2000) (hK_0_163 : ∀ j : Int, 0 ≤ j → j < 2010 → 0 ≤ tokenEnd_0 j ∧ tokenEnd_0 j ≤ 2000) (kz_0_8 : 0 ≤ fault_0 ∧ fault_0 ≤ 5) (kz_0_10 : 0 ≤ limit_0 ∧ limit_0 ≤ 2000) (kz_0_157 : 0 ≤ tokens_0 ∧ tokens_0 ≤ 2010) (kz_0_158 : 0 ≤ cur_0 ∧ cur_0 ≤ 2009) (kz_0_159 : 0 ≤ opened_0 ∧ opened_0 ≤ 13) (kz_0_164 : 0 ≤ styleKind_0 ∧ styleKind_0 ≤ 1) (kz_0_165 : (-1) ≤ styleOne_0 ∧ styleOne_0 ≤ 47) (ex2 : gx = cur_0) (ex3 : 0 ≤ gx ∧ gx ≤ 2009) (ey2 : gy = fault_0) (ey3 : 0 ≤ gy ∧ gy ≤ 5) : (-1) * cur_0 + (1 * gx + 0) ≤ 0 := by
  first | with_reducible assumption | ((have f10_c0 := f10.1); (have f10_c1 := f10.2.1); (have f10_c2 := f10.2.2); (try and_intros) <;> first | with_reducible assumption | (clear f10_c2 f10 hK_0_1 hK_0_160 hK_0_162 hK_0_163 f6; omega)) | ((have f10_c0 := f10.1); (have f10_c1 := f10.2.1); (have f10_c2 := f10.2.2); (first | have f6_b := f6 (by clear f10_c2 f10 hK_0_1 hK_0_160 hK_0_162 hK_0_163 f6; omega) | skip); (first | have f6_d := f6 (by with_reducible assumption) | skip); (try and_intros) <;> first | with_reducible assumption | (clear f10_c2 f10 hK_0_1 hK_0_160 hK_0_162 hK_0_163 f6; omega)) | ((have f10_c0 := f10.1); (have f10_c1 := f10.2.1); (have f10_c2 := f10.2.2); (first | have f6_b := f6 (by clear f10_c2 f10 hK_0_1 hK_0_160 hK_0_162 hK_0_163 f6; omega) | skip); (first | have f6_d := f6 (by with_reducible assumption) | skip); (first | have f10_q := tk_nx0 f10 (by clear f10_c2 f10 hK_0_1 hK_0_160 hK_0_162 hK_0_163 f6; omega) | skip); (try and_intros) <;> first | with_reducible assumption | (clear f10_c2 f10 hK_0_1 hK_0_160 hK_0_162 hK_0_163 f6; omega)) | omega
set_option maxHeartbeats 4000000 in
theorem vc_Mo_rule_at_f0_69_3 (x1 : Int) (x7 : Int) (x8 : Int) (x9 : Int) (x10 : Int) (x11 : Int) (fault_0 : Int) (tokenKind_0 : Int → Int) (tokenValue_0 : Int → Int) (tokenPlace_0 : Int → Int) (tokenEnd_0 : Int → Int) (tape_0 : Int → Int) (styleKind_0 : Int) (limit_0 : Int) (styleOne_0 : Int) (opened_0 : Int) (cur_0 : Int) (tokens_0 : Int) (gx : Int) (gy : Int) (k1 : 0 ≤ x1 ∧ x1 ≤ 2009) (k7 : 0 ≤ x7 ∧ x7 ≤ 5) (k8 : 0 ≤ x8 ∧ x8 ≤ 2010) (k9 : 0 ≤ x9 ∧ x9 ≤ 2009) (k10 : 0 ≤ x10 ∧ x10 ≤ 5) (k11 : 0 ≤ x11 ∧ x11 ≤ 0) (g0 : x7 = fault_0) (f1 : x11 = 0) (f2 : fault_0 = x10) (f3 : 1 * x1 + ((-1) * x9 + 0) ≤ 0) (f4 : (-1) * x8 + ((-1) * x9 + 0) ≤ (-2011)) (f5 : RDz (styleKind_0) (limit_0) (tokenKind_0) (tokenValue_0) (tokenPlace_0) (tokenEnd_0) (tape_0) (x9) (x10) (x1)) (f6 : (styleKind_0 = 0) → (styleOne_0 ≤ 23)) (f7 : 1 * opened_0 + 0 ≤ 0) (f8 : (-1) * opened_0 + 0 ≤ 0) (f10 : ((cur_0 + 1) ≤ tokens_0) ∧ ((tokens_0 ≤ 2010) ∧ ((tokenKind_0 ((tokens_0 - 1)) = 0) ∨ (tokenKind_0 ((tokens_0 - 1)) = 4)))) (f11 : 1 * x9 + (1 * x11 + ((-1) * cur_0 + 0)) ≤ 0) (f12 : CMA (cur_0) (tokenKind_0) (tokenValue_0) (x11) (x9) (x10)) (f14 : 1 * x1 + ((-1) * x9 + 0) ≤ 0) (f15 : (-1) * x8 + ((-1) * x9 + 0) ≤ (-2011)) (hK_0_1 : ∀ j : Int, 0 ≤ j → j < 2000 → (-128) ≤ tape_0 j ∧ tape_0 j ≤ 127) (hK_0_160 : ∀ j : Int, 0 ≤ j → j < 2010 → 0 ≤ tokenKind_0 j ∧ tokenKind_0 j ≤ 4) (hK_0_162 : ∀ j : Int, 0 ≤ j → j < 2010 → 0 ≤ tokenPlace_0 j ∧ tokenPlace_0 j ≤ 2000) (hK_0_163 : ∀ j : Int, 0 ≤ j → j < 2010 → 0 ≤ tokenEnd_0 j ∧ tokenEnd_0 j ≤ 2000) (kz_0_8 : 0 ≤ fault_0 ∧ fault_0 ≤ 5) (kz_0_10 : 0 ≤ limit_0 ∧ limit_0 ≤ 2000) (kz_0_157 : 0 ≤ tokens_0 ∧ tokens_0 ≤ 2010) (kz_0_158 : 0 ≤ cur_0 ∧ cur_0 ≤ 2009) (kz_0_159 : 0 ≤ opened_0 ∧ opened_0 ≤ 13) (kz_0_164 : 0 ≤ styleKind_0 ∧ styleKind_0 ≤ 1) (kz_0_165 : (-1) ≤ styleOne_0 ∧ styleOne_0 ≤ 47) (ex2 : gx = cur_0) (ex3 : 0 ≤ gx ∧ gx ≤ 2009) (ey2 : gy = fault_0) (ey3 : 0 ≤ gy ∧ gy ≤ 5) : fault_0 = gy := by
  first | with_reducible assumption | ((have f10_c0 := f10.1); (have f10_c1 := f10.2.1); (have f10_c2 := f10.2.2); (try and_intros) <;> first | with_reducible assumption | (clear f10_c2 f10 hK_0_1 hK_0_160 hK_0_162 hK_0_163 f6; omega)) | ((have f10_c0 := f10.1); (have f10_c1 := f10.2.1); (have f10_c2 := f10.2.2); (first | have f6_b := f6 (by clear f10_c2 f10 hK_0_1 hK_0_160 hK_0_162 hK_0_163 f6; omega) | skip); (first | have f6_d := f6 (by with_reducible assumption) | skip); (try and_intros) <;> first | with_reducible assumption | (clear f10_c2 f10 hK_0_1 hK_0_160 hK_0_162 hK_0_163 f6; omega)) | ((have f10_c0 := f10.1); (have f10_c1 := f10.2.1); (have f10_c2 := f10.2.2); (first | have f6_b := f6 (by clear f10_c2 f10 hK_0_1 hK_0_160 hK_0_162 hK_0_163 f6; omega) | skip); (first | have f6_d := f6 (by with_reducible assumption) | skip); (first | have f10_q := tk_nx0 f10 (by clear f10_c2 f10 hK_0_1 hK_0_160 hK_0_162 hK_0_163 f6; omega) | skip); (try and_intros) <;> first | with_reducible assumption | (clear f10_c2 f10 hK_0_1 hK_0_160 hK_0_162 hK_0_163 f6; omega)) | omega
set_option maxHeartbeats 4000000 in
theorem vc_Mo_rule_at_f0_69_4 (x1 : Int) (x7 : Int) (x8 : Int) (x9 : Int) (x10 : Int) (x11 : Int) (fault_0 : Int) (tokenKind_0 : Int → Int) (tokenValue_0 : Int → Int) (tokenPlace_0 : Int → Int) (tokenEnd_0 : Int → Int) (tape_0 : Int → Int) (styleKind_0 : Int) (limit_0 : Int) (styleOne_0 : Int) (opened_0 : Int) (cur_0 : Int) (tokens_0 : Int) (gx : Int) (gy : Int) (k1 : 0 ≤ x1 ∧ x1 ≤ 2009) (k7 : 0 ≤ x7 ∧ x7 ≤ 5) (k8 : 0 ≤ x8 ∧ x8 ≤ 2010) (k9 : 0 ≤ x9 ∧ x9 ≤ 2009) (k10 : 0 ≤ x10 ∧ x10 ≤ 5) (k11 : 0 ≤ x11 ∧ x11 ≤ 0) (g0 : x7 = fault_0) (f1 : x11 = 0) (f2 : fault_0 = x10) (f3 : 1 * x1 + ((-1) * x9 + 0) ≤ 0) (f4 : (-1) * x8 + ((-1) * x9 + 0) ≤ (-2011)) (f5 : RDz (styleKind_0) (limit_0) (tokenKind_0) (tokenValue_0) (tokenPlace_0) (tokenEnd_0) (tape_0) (x9) (x10) (x1)) (f6 : (styleKind_0 = 0) → (styleOne_0 ≤ 23)) (f7 : 1 * opened_0 + 0 ≤ 0) (f8 : (-1) * opened_0 + 0 ≤ 0) (f10 : ((cur_0 + 1) ≤ tokens_0) ∧ ((tokens_0 ≤ 2010) ∧ ((tokenKind_0 ((tokens_0 - 1)) = 0) ∨ (tokenKind_0 ((tokens_0 - 1)) = 4)))) (f11 : 1 * x9 + (1 * x11 + ((-1) * cur_0 + 0)) ≤ 0) (f12 : CMA (cur_0) (tokenKind_0) (tokenValue_0) (x11) (x9) (x10)) (f14 : 1 * x1 + ((-1) * x9 + 0) ≤ 0) (f15 : (-1) * x8 + ((-1) * x9 + 0) ≤ (-2011)) (hK_0_1 : ∀ j : Int, 0 ≤ j → j < 2000 → (-128) ≤ tape_0 j ∧ tape_0 j ≤ 127) (hK_0_160 : ∀ j : Int, 0 ≤ j → j < 2010 → 0 ≤ tokenKind_0 j ∧ tokenKind_0 j ≤ 4) (hK_0_162 : ∀ j : Int, 0 ≤ j → j < 2010 → 0 ≤ tokenPlace_0 j ∧ tokenPlace_0 j ≤ 2000) (hK_0_163 : ∀ j : Int, 0 ≤ j → j < 2010 → 0 ≤ tokenEnd_0 j ∧ tokenEnd_0 j ≤ 2000) (kz_0_8 : 0 ≤ fault_0 ∧ fault_0 ≤ 5) (kz_0_10 : 0 ≤ limit_0 ∧ limit_0 ≤ 2000) (kz_0_157 : 0 ≤ tokens_0 ∧ tokens_0 ≤ 2010) (kz_0_158 : 0 ≤ cur_0 ∧ cur_0 ≤ 2009) (kz_0_159 : 0 ≤ opened_0 ∧ opened_0 ≤ 13) (kz_0_164 : 0 ≤ styleKind_0 ∧ styleKind_0 ≤ 1) (kz_0_165 : (-1) ≤ styleOne_0 ∧ styleOne_0 ≤ 47) (ex2 : gx = cur_0) (ex3 : 0 ≤ gx ∧ gx ≤ 2009) (ey2 : gy = fault_0) (ey3 : 0 ≤ gy ∧ gy ≤ 5) : 1 * x1 + ((-1) * gx + 0) ≤ 0 := by
  first | with_reducible assumption | ((have f10_c0 := f10.1); (have f10_c1 := f10.2.1); (have f10_c2 := f10.2.2); (try and_intros) <;> first | with_reducible assumption | (clear f10_c2 f10 hK_0_1 hK_0_160 hK_0_162 hK_0_163 f6; omega)) | ((have f10_c0 := f10.1); (have f10_c1 := f10.2.1); (have f10_c2 := f10.2.2); (first | have f6_b := f6 (by clear f10_c2 f10 hK_0_1 hK_0_160 hK_0_162 hK_0_163 f6; omega) | skip); (first | have f6_d := f6 (by with_reducible assumption) | skip); (try and_intros) <;> first | with_reducible assumption | (clear f10_c2 f10 hK_0_1 hK_0_160 hK_0_162 hK_0_163 f6; omega)) | ((have f10_c0 := f10.1); (have f10_c1 := f10.2.1); (have f10_c2 := f10.2.2); (first | have f6_b := f6 (by clear f10_c2 f10 hK_0_1 hK_0_160 hK_0_162 hK_0_163 f6; omega) | skip); (first | have f6_d := f6 (by with_reducible assumption) | skip); (first | have f10_q := tk_nx0 f10 (by clear f10_c2 f10 hK_0_1 hK_0_160 hK_0_162 hK_0_163 f6; omega) | skip); (try and_intros) <;> first | with_reducible assumption | (clear f10_c2 f10 hK_0_1 hK_0_160 hK_0_162 hK_0_163 f6; omega)) | omega
set_option maxHeartbeats 4000000 in
theorem vc_Mo_rule_at_f0_69_5 (x1 : Int) (x7 : Int) (x8 : Int) (x9 : Int) (x10 : Int) (x11 : Int) (fault_0 : Int) (tokenKind_0 : Int → Int) (tokenValue_0 : Int → Int) (tokenPlace_0 : Int → Int) (tokenEnd_0 : Int → Int) (tape_0 : Int → Int) (styleKind_0 : Int) (limit_0 : Int) (styleOne_0 : Int) (opened_0 : Int) (cur_0 : Int) (tokens_0 : Int) (gx : Int) (gy : Int) (k1 : 0 ≤ x1 ∧ x1 ≤ 2009) (k7 : 0 ≤ x7 ∧ x7 ≤ 5) (k8 : 0 ≤ x8 ∧ x8 ≤ 2010) (k9 : 0 ≤ x9 ∧ x9 ≤ 2009) (k10 : 0 ≤ x10 ∧ x10 ≤ 5) (k11 : 0 ≤ x11 ∧ x11 ≤ 0) (g0 : x7 = fault_0) (f1 : x11 = 0) (f2 : fault_0 = x10) (f3 : 1 * x1 + ((-1) * x9 + 0) ≤ 0) (f4 : (-1) * x8 + ((-1) * x9 + 0) ≤ (-2011)) (f5 : RDz (styleKind_0) (limit_0) (tokenKind_0) (tokenValue_0) (tokenPlace_0) (tokenEnd_0) (tape_0) (x9) (x10) (x1)) (f6 : (styleKind_0 = 0) → (styleOne_0 ≤ 23)) (f7 : 1 * opened_0 + 0 ≤ 0) (f8 : (-1) * opened_0 + 0 ≤ 0) (f10 : ((cur_0 + 1) ≤ tokens_0) ∧ ((tokens_0 ≤ 2010) ∧ ((tokenKind_0 ((tokens_0 - 1)) = 0) ∨ (tokenKind_0 ((tokens_0 - 1)) = 4)))) (f11 : 1 * x9 + (1 * x11 + ((-1) * cur_0 + 0)) ≤ 0) (f12 : CMA (cur_0) (tokenKind_0) (tokenValue_0) (x11) (x9) (x10)) (f14 : 1 * x1 + ((-1) * x9 + 0) ≤ 0) (f15 : (-1) * x8 + ((-1) * x9 + 0) ≤ (-2011)) (hK_0_1 : ∀ j : Int, 0 ≤ j → j < 2000 → (-128) ≤ tape_0 j ∧ tape_0 j ≤ 127) (hK_0_160 : ∀ j : Int, 0 ≤ j → j < 2010 → 0 ≤ tokenKind_0 j ∧ tokenKind_0 j ≤ 4) (hK_0_162 : ∀ j : Int, 0 ≤ j → j < 2010 → 0 ≤ tokenPlace_0 j ∧ tokenPlace_0 j ≤ 2000) (hK_0_163 : ∀ j : Int, 0 ≤ j → j < 2010 → 0 ≤ tokenEnd_0 j ∧ tokenEnd_0 j ≤ 2000) (kz_0_8 : 0 ≤ fault_0 ∧ fault_0 ≤ 5) (kz_0_10 : 0 ≤ limit_0 ∧ limit_0 ≤ 2000) (kz_0_157 : 0 ≤ tokens_0 ∧ tokens_0 ≤ 2010) (kz_0_158 : 0 ≤ cur_0 ∧ cur_0 ≤ 2009) (kz_0_159 : 0 ≤ opened_0 ∧ opened_0 ≤ 13) (kz_0_164 : 0 ≤ styleKind_0 ∧ styleKind_0 ≤ 1) (kz_0_165 : (-1) ≤ styleOne_0 ∧ styleOne_0 ≤ 47) (ex2 : gx = cur_0) (ex3 : 0 ≤ gx ∧ gx ≤ 2009) (ey2 : gy = fault_0) (ey3 : 0 ≤ gy ∧ gy ≤ 5) : RU3 (limit_0) (tokenKind_0) (tokenValue_0) (tokenPlace_0) (tokenEnd_0) (tape_0) (gx) (gy) (x1) := by
  first
    | exact rd3_off (‹RDz _ _ _ _ _ _ _ _ _ _›) (‹CMA _ _ _ _ _ _›) (by omega) (by omega) (by omega) (by omega)
  
def o_Mo_rule_at_f0_69 : or_T := (285, 13, [(0, (2, 0, 0, [165])), (1, (0, 0, 2009, [])), (7, (0, 0, 5, [])), (8, (0, 0, 2010, [])), (9, (0, 0, 2009, [])), (10, (0, 0, 5, [])), (11, (0, 0, 0, []))], [(9, [7, 2], [8]), (8, [11], [0]), (20, [2, 10], [50, 1, 0, 8, 1, 3, 2, 0, 8, 1, 1]), (23, [1, 9], [0, 1, -1]), (23, [8, 9], [-2011, -1, -1]), (20, [2, 9, 10, 1], [60, 2, 5, 63, 164, 10, 160, 161, 162, 163, 1]), (20, [2], [50, 2, 0, 164, 165, 4, 7, 1, 3, 2, 0, 164, 0, 0, 0, 3, 2, 0, 165, 0, 23]), (20, [2], [30, 0, 1, 1, 159]), (20, [2], [30, 0, -1, 1, 159]), (24, [0, 2], []), (20, [2], [50, 2, 1, 158, 157, 160, 2, 12, 0, 7, 4, 3, 2, 0, 158, 0, 1, 2, 0, 157, 2, 7, 0, 3, 2, 0, 157, 0, 2010, 3, 14, 1, 10, 3, 0, 160, 5, 3, 2, 0, 157, 0, 1, 0, 0, 1, 10, 3, 0, 160, 5, 3, 2, 0, 157, 0, 1, 0, 4]), (20, [9, 11, 2], [30, 0, 1, 0, 0, 1, 0, 0, -1, 1, 158]), (20, [2, 11, 9, 10], [60, 1, 2, 69, 158, 160, 161]), (102, [10], [0, 165158]), (23, [1, 9], [0, 1, -1]), (23, [8, 9], [-2011, -1, -1])], [], [(0, 0, 2009, []), (0, 0, 5, [])], [(20, [2], [50, 2, 1, 158, 157, 160, 2, 12, 0, 7, 4, 3, 2, 0, 158, 0, 1, 2, 0, 157, 2, 7, 0, 3, 2, 0, 157, 0, 2010, 3, 14, 1, 10, 3, 0, 160, 5, 3, 2, 0, 157, 0, 1, 0, 0, 1, 10, 3, 0, 160, 5, 3, 2, 0, 157, 0, 1, 0, 4]), (20, [2, 13], [30, 0, 1, 1, 158, -1, 0, 0]), (20, [2, 13], [30, 0, -1, 1, 158, 1, 0, 0]), (20, [2, 14], [50, 1, 0, 8, 1, 3, 2, 0, 8, 1, 1]), (23, [1, 13], [0, 1, -1]), (20, [2, 13, 14, 1], [60, 1, 5, 66, 10, 160, 161, 162, 163, 1])], [], [])
theorem oo_Mo_rule_at_f0_69 {kA : Nat → ClassId} : or_ok PRD kA GG o_Mo_rule_at_f0_69 := by
  refine or_mk fun A ta ws vs hD hth hl => ?_
  intro t0 r0 t1 k1 t7 k7 t8 k8 t9 k9 t10 k10 t11 k11 f0 f1 f2 f3 f4 f5 f6 f7 f8 f9 f10 f11 f12 ta1 w1 le1 s1 f14 f15
  replace f0 := shm_293 f0
  replace f1 := shm_192 f1
  replace f2 := shm_277 f2
  replace f3 := shm_7 f3
  replace f4 := shm_290 f4
  replace f5 := shm_2274 f5
  replace f6 := shm_274 f6
  replace f7 := shm_1029 f7
  replace f8 := shm_1030 f8
  replace f9 := shm_5 f9
  replace f10 := shm_271 f10
  replace f11 := shm_977 f11
  replace f12 := shm_978 f12
  replace f14 := shm_7 f14
  replace f15 := shm_290 f15
  have q2 : n_v vs 2 = n_v vs 0 := f9.symm
  simp only [q2] at f0 f2 f5 f6 f7 f8 f10 f11 f12
  have cr_0_1 := fdq_39 hD hth r0
  have cr_0_160 := fdq_33 hD hth r0
  have cr_0_162 := fdq_41 hD hth r0
  have cr_0_163 := fdq_42 hD hth r0
  have g0 : v_iv (n_v vs 7) = w_fi ws (n_v vs 0) 8 := congrArg v_iv f0
  have hK_0_1 := elq_7 hD hth cr_0_1
  have hK_0_160 := elq_6 hD hth cr_0_160
  have hK_0_162 := elq_8 hD hth cr_0_162
  have hK_0_163 := elq_9 hD hth cr_0_163
  have kz_0_8 := fdq_34 hD hth r0
  have kz_0_10 := fdq_43 hD hth r0
  have kz_0_157 := fdq_35 hD hth r0
  have kz_0_158 := fdq_36 hD hth r0
  have kz_0_159 := fdq_37 hD hth r0
  have kz_0_164 := fdq_38 hD hth r0
  have kz_0_165 := fdq_27 hD hth r0
  obtain ⟨x, ex, hx⟩ := iv_ex (ta := ta) (lo := 0) (hi := 2009) (z := w_fi ws (n_v vs 0) 158) (by omega) (by omega) (by omega) (by omega)
  have ex2 : v_iv (Value.int x) = w_fi ws (n_v vs 0) 158 := ex
  have ex3 : 0 ≤ v_iv (Value.int x) ∧ v_iv (Value.int x) ≤ 2009 := tv_rng hx
  obtain ⟨y, ey, hy⟩ := iv_ex (ta := ta) (lo := 0) (hi := 5) (z := w_fi ws (n_v vs 0) 8) (by omega) (by omega) (by omega) (by omega)
  have ey2 : v_iv (Value.int y) = w_fi ws (n_v vs 0) 8 := ey
  have ey3 : 0 ≤ v_iv (Value.int y) ∧ v_iv (Value.int y) ≤ 5 := tv_rng hy
  have e_1 : n_v (vs ++ [Value.int x, Value.int y]) 1 = n_v vs 1 := n_v_old (by rw [hl]; decide)
  have e_2 : n_v (vs ++ [Value.int x, Value.int y]) 2 = n_v vs 2 := n_v_old (by rw [hl]; decide)
  have e_13 : n_v (vs ++ [Value.int x, Value.int y]) 13 = Value.int x := n_v_new0 hl
  have e_14 : n_v (vs ++ [Value.int x, Value.int y]) 14 = Value.int y := n_v_new1 hl
  have nf0 : fc_1 PRD (20, [2], [50, 2, 1, 158, 157, 160, 2, 12, 0, 7, 4, 3, 2, 0, 158, 0, 1, 2, 0, 157, 2, 7, 0, 3, 2, 0, 157, 0, 2010, 3, 14, 1, 10, 3, 0, 160, 5, 3, 2, 0, 157, 0, 1, 0, 0, 1, 10, 3, 0, 160, 5, 3, 2, 0, 157, 0, 1, 0, 4]) ws (vs ++ [Value.int x, Value.int y]) := by
    refine ⟨nf_inA hl rfl, sgq_271 ?_⟩
    · show ((w_fi ws (n_v (vs ++ [Value.int x, Value.int y]) 2) 158 + 1) ≤ w_fi ws (n_v (vs ++ [Value.int x, Value.int y]) 2) 157) ∧ ((w_fi ws (n_v (vs ++ [Value.int x, Value.int y]) 2) 157 ≤ 2010) ∧ ((w_ei ws (w_ar ws (n_v (vs ++ [Value.int x, Value.int y]) 2) 160) ((w_fi ws (n_v (vs ++ [Value.int x, Value.int y]) 2) 157 - 1)) = 0) ∨ (w_ei ws (w_ar ws (n_v (vs ++ [Value.int x, Value.int y]) 2) 160) ((w_fi ws (n_v (vs ++ [Value.int x, Value.int y]) 2) 157 - 1)) = 4)))
      simp only [e_2, q2]
      exact vc_Mo_rule_at_f0_69_0 (v_iv (n_v vs 1)) (v_iv (n_v vs 7)) (v_iv (n_v vs 8)) (v_iv (n_v vs 9)) (v_iv (n_v vs 10)) (v_iv (n_v vs 11)) (w_fi ws (n_v vs 0) 8) (w_ei ws (w_ar ws (n_v vs 0) 160)) (w_ei ws (w_ar ws (n_v vs 0) 161)) (w_ei ws (w_ar ws (n_v vs 0) 162)) (w_ei ws (w_ar ws (n_v vs 0) 163)) (w_ei ws (w_ar ws (n_v vs 0) 1)) (w_fi ws (n_v vs 0) 164) (w_fi ws (n_v vs 0) 10) (w_fi ws (n_v vs 0) 165) (w_fi ws (n_v vs 0) 159) (w_fi ws (n_v vs 0) 158) (w_fi ws (n_v vs 0) 157) (v_iv (Value.int x)) (v_iv (Value.int y)) k1 k7 k8 k9 k10 k11 g0 f1 f2 f3 f4 f5 f6 f7 f8 f10 f11 f12 f14 f15 hK_0_1 hK_0_160 hK_0_162 hK_0_163 kz_0_8 kz_0_10 kz_0_157 kz_0_158 kz_0_159 kz_0_164 kz_0_165 ex2 ex3 ey2 ey3
  have nf1 : fc_1 PRD (20, [2, 13], [30, 0, 1, 1, 158, -1, 0, 0]) ws (vs ++ [Value.int x, Value.int y]) := by
    refine ⟨nf_inA hl rfl, sgq_272 ?_⟩
    · show 1 * w_fi ws (n_v (vs ++ [Value.int x, Value.int y]) 2) 158 + ((-1) * v_iv (n_v (vs ++ [Value.int x, Value.int y]) 13) + 0) ≤ 0
      simp only [e_2, e_13, q2]
      exact vc_Mo_rule_at_f0_69_1 (v_iv (n_v vs 1)) (v_iv (n_v vs 7)) (v_iv (n_v vs 8)) (v_iv (n_v vs 9)) (v_iv (n_v vs 10)) (v_iv (n_v vs 11)) (w_fi ws (n_v vs 0) 8) (w_ei ws (w_ar ws (n_v vs 0) 160)) (w_ei ws (w_ar ws (n_v vs 0) 161)) (w_ei ws (w_ar ws (n_v vs 0) 162)) (w_ei ws (w_ar ws (n_v vs 0) 163)) (w_ei ws (w_ar ws (n_v vs 0) 1)) (w_fi ws (n_v vs 0) 164) (w_fi ws (n_v vs 0) 10) (w_fi ws (n_v vs 0) 165) (w_fi ws (n_v vs 0) 159) (w_fi ws (n_v vs 0) 158) (w_fi ws (n_v vs 0) 157) (v_iv (Value.int x)) (v_iv (Value.int y)) k1 k7 k8 k9 k10 k11 g0 f1 f2 f3 f4 f5 f6 f7 f8 f10 f11 f12 f14 f15 hK_0_1 hK_0_160 hK_0_162 hK_0_163 kz_0_8 kz_0_10 kz_0_157 kz_0_158 kz_0_159 kz_0_164 kz_0_165 ex2 ex3 ey2 ey3
  have nf2 : fc_1 PRD (20, [2, 13], [30, 0, -1, 1, 158, 1, 0, 0]) ws (vs ++ [Value.int x, Value.int y]) := by
    refine ⟨nf_inA hl rfl, sgq_273 ?_⟩
    · show (-1) * w_fi ws (n_v (vs ++ [Value.int x, Value.int y]) 2) 158 + (1 * v_iv (n_v (vs ++ [Value.int x, Value.int y]) 13) + 0) ≤ 0
      simp only [e_2, e_13, q2]
      exact vc_Mo_rule_at_f0_69_2 (v_iv (n_v vs 1)) (v_iv (n_v vs 7)) (v_iv (n_v vs 8)) (v_iv (n_v vs 9)) (v_iv (n_v vs 10)) (v_iv (n_v vs 11)) (w_fi ws (n_v vs 0) 8) (w_ei ws (w_ar ws (n_v vs 0) 160)) (w_ei ws (w_ar ws (n_v vs 0) 161)) (w_ei ws (w_ar ws (n_v vs 0) 162)) (w_ei ws (w_ar ws (n_v vs 0) 163)) (w_ei ws (w_ar ws (n_v vs 0) 1)) (w_fi ws (n_v vs 0) 164) (w_fi ws (n_v vs 0) 10) (w_fi ws (n_v vs 0) 165) (w_fi ws (n_v vs 0) 159) (w_fi ws (n_v vs 0) 158) (w_fi ws (n_v vs 0) 157) (v_iv (Value.int x)) (v_iv (Value.int y)) k1 k7 k8 k9 k10 k11 g0 f1 f2 f3 f4 f5 f6 f7 f8 f10 f11 f12 f14 f15 hK_0_1 hK_0_160 hK_0_162 hK_0_163 kz_0_8 kz_0_10 kz_0_157 kz_0_158 kz_0_159 kz_0_164 kz_0_165 ex2 ex3 ey2 ey3
  have nf3 : fc_1 PRD (20, [2, 14], [50, 1, 0, 8, 1, 3, 2, 0, 8, 1, 1]) ws (vs ++ [Value.int x, Value.int y]) := by
    refine ⟨nf_inA hl rfl, sgq_277 ?_⟩
    · show w_fi ws (n_v (vs ++ [Value.int x, Value.int y]) 2) 8 = v_iv (n_v (vs ++ [Value.int x, Value.int y]) 14)
      simp only [e_2, e_14, q2]
      exact vc_Mo_rule_at_f0_69_3 (v_iv (n_v vs 1)) (v_iv (n_v vs 7)) (v_iv (n_v vs 8)) (v_iv (n_v vs 9)) (v_iv (n_v vs 10)) (v_iv (n_v vs 11)) (w_fi ws (n_v vs 0) 8) (w_ei ws (w_ar ws (n_v vs 0) 160)) (w_ei ws (w_ar ws (n_v vs 0) 161)) (w_ei ws (w_ar ws (n_v vs 0) 162)) (w_ei ws (w_ar ws (n_v vs 0) 163)) (w_ei ws (w_ar ws (n_v vs 0) 1)) (w_fi ws (n_v vs 0) 164) (w_fi ws (n_v vs 0) 10) (w_fi ws (n_v vs 0) 165) (w_fi ws (n_v vs 0) 159) (w_fi ws (n_v vs 0) 158) (w_fi ws (n_v vs 0) 157) (v_iv (Value.int x)) (v_iv (Value.int y)) k1 k7 k8 k9 k10 k11 g0 f1 f2 f3 f4 f5 f6 f7 f8 f10 f11 f12 f14 f15 hK_0_1 hK_0_160 hK_0_162 hK_0_163 kz_0_8 kz_0_10 kz_0_157 kz_0_158 kz_0_159 kz_0_164 kz_0_165 ex2 ex3 ey2 ey3
  have nf4 : fc_1 PRD (23, [1, 13], [0, 1, -1]) ws (vs ++ [Value.int x, Value.int y]) := by
    refine ⟨nf_inA hl rfl, sgq_7 ?_⟩
    · show 1 * v_iv (n_v (vs ++ [Value.int x, Value.int y]) 1) + ((-1) * v_iv (n_v (vs ++ [Value.int x, Value.int y]) 13) + 0) ≤ 0
      simp only [e_1, e_13]
      exact vc_Mo_rule_at_f0_69_4 (v_iv (n_v vs 1)) (v_iv (n_v vs 7)) (v_iv (n_v vs 8)) (v_iv (n_v vs 9)) (v_iv (n_v vs 10)) (v_iv (n_v vs 11)) (w_fi ws (n_v vs 0) 8) (w_ei ws (w_ar ws (n_v vs 0) 160)) (w_ei ws (w_ar ws (n_v vs 0) 161)) (w_ei ws (w_ar ws (n_v vs 0) 162)) (w_ei ws (w_ar ws (n_v vs 0) 163)) (w_ei ws (w_ar ws (n_v vs 0) 1)) (w_fi ws (n_v vs 0) 164) (w_fi ws (n_v vs 0) 10) (w_fi ws (n_v vs 0) 165) (w_fi ws (n_v vs 0) 159) (w_fi ws (n_v vs 0) 158) (w_fi ws (n_v vs 0) 157) (v_iv (Value.int x)) (v_iv (Value.int y)) k1 k7 k8 k9 k10 k11 g0 f1 f2 f3 f4 f5 f6 f7 f8 f10 f11 f12 f14 f15 hK_0_1 hK_0_160 hK_0_162 hK_0_163 kz_0_8 kz_0_10 kz_0_157 kz_0_158 kz_0_159 kz_0_164 kz_0_165 ex2 ex3 ey2 ey3
  have nf5 : fc_1 PRD (20, [2, 13, 14, 1], [60, 1, 5, 66, 10, 160, 161, 162, 163, 1]) ws (vs ++ [Value.int x, Value.int y]) := by
    refine ⟨nf_inA hl rfl, sgq_2275 ?_⟩
    · show RU3 (w_fi ws (n_v (vs ++ [Value.int x, Value.int y]) 2) 10) (w_ei ws (w_ar ws (n_v (vs ++ [Value.int x, Value.int y]) 2) 160)) (w_ei ws (w_ar ws (n_v (vs ++ [Value.int x, Value.int y]) 2) 161)) (w_ei ws (w_ar ws (n_v (vs ++ [Value.int x, Value.int y]) 2) 162)) (w_ei ws (w_ar ws (n_v (vs ++ [Value.int x, Value.int y]) 2) 163)) (w_ei ws (w_ar ws (n_v (vs ++ [Value.int x, Value.int y]) 2) 1)) (v_iv (n_v (vs ++ [Value.int x, Value.int y]) 13)) (v_iv (n_v (vs ++ [Value.int x, Value.int y]) 14)) (v_iv (n_v (vs ++ [Value.int x, Value.int y]) 1))
      simp only [e_1, e_2, e_13, e_14, q2]
      exact vc_Mo_rule_at_f0_69_5 (v_iv (n_v vs 1)) (v_iv (n_v vs 7)) (v_iv (n_v vs 8)) (v_iv (n_v vs 9)) (v_iv (n_v vs 10)) (v_iv (n_v vs 11)) (w_fi ws (n_v vs 0) 8) (w_ei ws (w_ar ws (n_v vs 0) 160)) (w_ei ws (w_ar ws (n_v vs 0) 161)) (w_ei ws (w_ar ws (n_v vs 0) 162)) (w_ei ws (w_ar ws (n_v vs 0) 163)) (w_ei ws (w_ar ws (n_v vs 0) 1)) (w_fi ws (n_v vs 0) 164) (w_fi ws (n_v vs 0) 10) (w_fi ws (n_v vs 0) 165) (w_fi ws (n_v vs 0) 159) (w_fi ws (n_v vs 0) 158) (w_fi ws (n_v vs 0) 157) (v_iv (Value.int x)) (v_iv (Value.int y)) k1 k7 k8 k9 k10 k11 g0 f1 f2 f3 f4 f5 f6 f7 f8 f10 f11 f12 f14 f15 hK_0_1 hK_0_160 hK_0_162 hK_0_163 kz_0_8 kz_0_10 kz_0_157 kz_0_158 kz_0_159 kz_0_164 kz_0_165 ex2 ex3 ey2 ey3
  exact ⟨(fun _ h => (by cases h)), [Value.int x, Value.int y], ag_two hx hy, List.forall_mem_cons.mpr ⟨⟨show (20 : Nat) < 100 from by decide, nf0⟩, List.forall_mem_cons.mpr ⟨⟨show (20 : Nat) < 100 from by decide, nf1⟩, List.forall_mem_cons.mpr ⟨⟨show (20 : Nat) < 100 from by decide, nf2⟩, List.forall_mem_cons.mpr ⟨⟨show (20 : Nat) < 100 from by decide, nf3⟩, List.forall_mem_cons.mpr ⟨⟨show (23 : Nat) < 100 from by decide, nf4⟩, List.forall_mem_cons.mpr ⟨⟨show (20 : Nat) < 100 from by decide, nf5⟩, (fun _ h => (by cases h))⟩⟩⟩⟩⟩⟩, (fun _ h => (by cases h))⟩
set_option maxHeartbeats 4000000 in
theorem vc_Mo_rule_at_f0_70_5 (x1 : Int) (x8 : Int) (x9 : Int) (x10 : Int) (x12 : Int) (x13 : Int) (x14 : Int) (tokenKind_0 : Int → Int) (tokenValue_0 : Int → Int) (tokenPlace_0 : Int → Int) (tokenEnd_0 : Int → Int) (tape_0 : Int → Int) (limit_0 : Int) (styleKind_0 : Int) (styleOne_0 : Int) (opened_0 : Int) (cur_0 : Int) (tokens_0 : Int) (fault_0 : Int) (k1 : 0 ≤ x1 ∧ x1 ≤ 2009) (k8 : 0 ≤ x8 ∧ x8 ≤ 2010) (k9 : 0 ≤ x9 ∧ x9 ≤ 2009) (k10 : 0 ≤ x10 ∧ x10 ≤ 5) (k12 : 59 ≤ x12 ∧ x12 ≤ 59) (k13 : 0 ≤ x13 ∧ x13 ≤ 2009) (k14 : 0 ≤ x14 ∧ x14 ≤ 5) (f0 : 1 * x1 + ((-1) * x13 + 0) ≤ 0) (f1 : RU3 (limit_0) (tokenKind_0) (tokenValue_0) (tokenPlace_0) (tokenEnd_0) (tape_0) (x13) (x14) (x1)) (f2 : 1 * x1 + ((-1) * x9 + 0) ≤ 0) (f3 : (-1) * x8 + ((-1) * x9 + 0) ≤ (-2011)) (f4 : RDz (styleKind_0) (limit_0) (tokenKind_0) (tokenValue_0) (tokenPlace_0) (tokenEnd_0) (tape_0) (x9) (x10) (x1)) (f5 : (styleKind_0 = 0) → (styleOne_0 ≤ 23)) (f6 : 1 * opened_0 + 0 ≤ 0) (f7 : (-1) * opened_0 + 0 ≤ 0) (f9 : ((cur_0 + 1) ≤ tokens_0) ∧ ((tokens_0 ≤ 2010) ∧ ((tokenKind_0 ((tokens_0 - 1)) = 0) ∨ (tokenKind_0 ((tokens_0 - 1)) = 4)))) (f10 : 1 * x13 + ((-1) * cur_0 + 0) ≤ 0) (f11 : SND (fault_0) (cur_0) (tokenKind_0) (tokenValue_0) (x12) (x13) (x14)) (f13 : 1 * x1 + ((-1) * x13 + 0) ≤ 0) (f14 : 1 * x1 + ((-1) * x9 + 0) ≤ 0) (f15 : (-1) * x8 + ((-1) * x9 + 0) ≤ (-2011)) (f17 : 1 * x1 + ((-1) * x9 + 0) ≤ 0) (f18 : (-1) * x8 + ((-1) * x9 + 0) ≤ (-2011)) (hK_0_1 : ∀ j : Int, 0 ≤ j → j < 2000 → (-128) ≤ tape_0 j ∧ tape_0 j ≤ 127) (hK_0_160 : ∀ j : Int, 0 ≤ j → j < 2010 → 0 ≤ tokenKind_0 j ∧ tokenKind_0 j ≤ 4) (hK_0_162 : ∀ j : Int, 0 ≤ j → j < 2010 → 0 ≤ tokenPlace_0 j ∧ tokenPlace_0 j ≤ 2000) (hK_0_163 : ∀ j : Int, 0 ≤ j → j < 2010 → 0 ≤ tokenEnd_0 j ∧ tokenEnd_0 j ≤ 2000) (kz_0_8 : 0 ≤ fault_0 ∧ fault_0 ≤ 5) (kz_0_10 : 0 ≤ limit_0 ∧ limit_0 ≤ 2000) (kz_0_157 : 0 ≤ tokens_0 ∧ tokens_0 ≤ 2010) (kz_0_158 : 0 ≤ cur_0 ∧ cur_0 ≤ 2009) (kz_0_159 : 0 ≤ opened_0 ∧ opened_0 ≤ 13) (kz_0_164 : 0 ≤ styleKind_0 ∧ styleKind_0 ≤ 1) (kz_0_165 : (-1) ≤ styleOne_0 ∧ styleOne_0 ≤ 47) : RUL (fault_0) (cur_0) (limit_0) (tokenKind_0) (tokenValue_0) (tokenPlace_0) (tokenEnd_0) (tape_0) (x1) := by
  first
    | exact ru0_go (‹RU0 _ _ _ _ _ _ _›) (by omega)
    | exact ru3_go (‹RU3 _ _ _ _ _ _ _ _ _›) (‹SND _ _ _ _ _ _ _›) (by omega)
    | (exfalso; have h := (wdq_y (‹Wqcolor _ _ _ _ _ _ _ _›) (by omega)).1; omega)
    | (exfalso; have h := (wdq_y (‹Wqwidth _ _ _ _ _ _ _ _›) (by omega)).1; omega)
    | (exfalso; have h := (wdq_y (‹Wqform _ _ _ _ _ _ _ _›) (by omega)).1; omega)
  
def o_Mo_rule_at_f0_70 : or_T := (288, 15, [(0, (2, 0, 0, [165])), (1, (0, 0, 2009, [])), (2, (2, 0, 0, [165])), (8, (0, 0, 2010, [])), (9, (0, 0, 2009, [])), (10, (0, 0, 5, [])), (12, (0, 59, 59, [])), (13, (0, 0, 2009, [])), (14, (0, 0, 5, []))], [(23, [1, 13], [0, 1, -1]), (20, [2, 13, 14, 1], [60, 1, 5, 66, 10, 160, 161, 162, 163, 1]), (23, [1, 9], [0, 1, -1]), (23, [8, 9], [-2011, -1, -1]), (20, [2, 9, 10, 1], [60, 2, 5, 63, 164, 10, 160, 161, 162, 163, 1]), (20, [2], [50, 2, 0, 164, 165, 4, 7, 1, 3, 2, 0, 164, 0, 0, 0, 3, 2, 0, 165, 0, 23]), (20, [2], [30, 0, 1, 1, 159]), (20, [2], [30, 0, -1, 1, 159]), (24, [0, 2], []), (20, [2], [50, 2, 1, 158, 157, 160, 2, 12, 0, 7, 4, 3, 2, 0, 158, 0, 1, 2, 0, 157, 2, 7, 0, 3, 2, 0, 157, 0, 2010, 3, 14, 1, 10, 3, 0, 160, 5, 3, 2, 0, 157, 0, 1, 0, 0, 1, 10, 3, 0, 160, 5, 3, 2, 0, 157, 0, 1, 0, 4]), (20, [13, 2], [30, 0, 1, 0, 0, -1, 1, 158]), (20, [2, 12, 13, 14], [60, 2, 2, 15, 8, 158, 160, 161]), (102, [14], [0, 165008, 165009, 165158]), (23, [1, 13], [0, 1, -1]), (23, [1, 9], [0, 1, -1]), (23, [8, 9], [-2011, -1, -1]), (102, [10], [0, 165158]), (23, [1, 9], [0, 1, -1]), (23, [8, 9], [-2011, -1, -1])], [], [], [(20, [0], [50, 2, 1, 158, 157, 160, 2, 12, 0, 7, 4, 3, 2, 0, 158, 0, 1, 2, 0, 157, 2, 7, 0, 3, 2, 0, 157, 0, 2010, 3, 14, 1, 10, 3, 0, 160, 5, 3, 2, 0, 157, 0, 1, 0, 0, 1, 10, 3, 0, 160, 5, 3, 2, 0, 157, 0, 1, 0, 4]), (20, [1, 0], [30, 0, 1, 0, 0, -1, 1, 158]), (20, [0], [30, 0, 1, 1, 159]), (20, [0], [30, 0, -1, 1, 159]), (20, [0, 1, 0], [31, 1, -1, -1, 1, 8, -1, 1, 0, 0, -1, 1, 158]), (20, [0, 1], [60, 3, 5, 64, 8, 158, 10, 160, 161, 162, 163, 1])], [], [])
theorem oo_Mo_rule_at_f0_70 {kA : Nat → ClassId} : or_ok PRD kA GG o_Mo_rule_at_f0_70 := by
  refine or_mk fun A ta ws vs hD hth hl => ?_
  intro t0 r0 t1 k1 t2 r2 t8 k8 t9 k9 t10 k10 t12 k12 t13 k13 t14 k14 f0 f1 f2 f3 f4 f5 f6 f7 f8 f9 f10 f11 ta1 w1 le1 s1 f13 f14 f15 ta2 w2 le2 s2 f17 f18
  replace f0 := shm_7 f0
  replace f1 := shm_2275 f1
  replace f2 := shm_7 f2
  replace f3 := shm_290 f3
  replace f4 := shm_2274 f4
  replace f5 := shm_274 f5
  replace f6 := shm_1029 f6
  replace f7 := shm_1030 f7
  replace f8 := shm_5 f8
  replace f9 := shm_271 f9
  replace f10 := shm_281 f10
  replace f11 := shm_318 f11
  replace f13 := shm_7 f13
  replace f14 := shm_7 f14
  replace f15 := shm_290 f15
  replace f17 := shm_7 f17
  replace f18 := shm_290 f18
  have q2 : n_v vs 2 = n_v vs 0 := f8.symm
  simp only [q2] at f1 f4 f5 f6 f7 f9 f10 f11
  have cr_0_1 := fdq_39 hD hth r0
  have cr_0_160 := fdq_33 hD hth r0
  have cr_0_161 := fdq_40 hD hth r0
  have cr_0_162 := fdq_41 hD hth r0
  have cr_0_163 := fdq_42 hD hth r0
  have hK_0_1 := elq_7 hD hth cr_0_1
  have hK_0_160 := elq_6 hD hth cr_0_160
  have hK_0_162 := elq_8 hD hth cr_0_162
  have hK_0_163 := elq_9 hD hth cr_0_163
  have kz_0_8 := fdq_34 hD hth r0
  have kz_0_10 := fdq_43 hD hth r0
  have kz_0_157 := fdq_35 hD hth r0
  have kz_0_158 := fdq_36 hD hth r0
  have kz_0_159 := fdq_37 hD hth r0
  have kz_0_164 := fdq_38 hD hth r0
  have kz_0_165 := fdq_27 hD hth r0
  first | have hN := snd_dj ‹SND _ _ _ _ _ _ _› | skip
  have nf0 : fc_1 PRD (20, [0], [50, 2, 1, 158, 157, 160, 2, 12, 0, 7, 4, 3, 2, 0, 158, 0, 1, 2, 0, 157, 2, 7, 0, 3, 2, 0, 157, 0, 2010, 3, 14, 1, 10, 3, 0, 160, 5, 3, 2, 0, 157, 0, 1, 0, 0, 1, 10, 3, 0, 160, 5, 3, 2, 0, 157, 0, 1, 0, 4]) ws (vs) := by
    refine ⟨nf_in hl rfl, sgq_271 ?_⟩
    · show ((w_fi ws (n_v vs 0) 158 + 1) ≤ w_fi ws (n_v vs 0) 157) ∧ ((w_fi ws (n_v vs 0) 157 ≤ 2010) ∧ ((w_ei ws (w_ar ws (n_v vs 0) 160) ((w_fi ws (n_v vs 0) 157 - 1)) = 0) ∨ (w_ei ws (w_ar ws (n_v vs 0) 160) ((w_fi ws (n_v vs 0) 157 - 1)) = 4)))
      first | omega | grind
  have nf1 : fc_1 PRD (20, [1, 0], [30, 0, 1, 0, 0, -1, 1, 158]) ws (vs) := by
    refine ⟨nf_in hl rfl, sgq_281 ?_⟩
    · show 1 * v_iv (n_v vs 1) + ((-1) * w_fi ws (n_v vs 0) 158 + 0) ≤ 0
      omega
  have nf2 : fc_1 PRD (20, [0], [30, 0, 1, 1, 159]) ws (vs) := by
    refine ⟨nf_in hl rfl, sgq_1029 ?_⟩
    · show 1 * w_fi ws (n_v vs 0) 159 + 0 ≤ 0
      omega
  have nf3 : fc_1 PRD (20, [0], [30, 0, -1, 1, 159]) ws (vs) := by
    refine ⟨nf_in hl rfl, sgq_1030 ?_⟩
    · show (-1) * w_fi ws (n_v vs 0) 159 + 0 ≤ 0
      omega
  have nf4 : fc_1 PRD (20, [0, 1, 0], [31, 1, -1, -1, 1, 8, -1, 1, 0, 0, -1, 1, 158]) ws (vs) := by
    refine ⟨nf_in hl rfl, sgq_2268 ?_⟩
    · show ((-1) * w_fi ws (n_v vs 0) 8 + 0 ≤ (-1)) ∨ (1 * v_iv (n_v vs 1) + ((-1) * w_fi ws (n_v vs 0) 158 + 0) ≤ (-1))
      omega
  have nf5 : fc_1 PRD (20, [0, 1], [60, 3, 5, 64, 8, 158, 10, 160, 161, 162, 163, 1]) ws (vs) := ⟨nf_in hl rfl, sgq_2269 (vc_Mo_rule_at_f0_70_5 (v_iv (n_v vs 1)) (v_iv (n_v vs 8)) (v_iv (n_v vs 9)) (v_iv (n_v vs 10)) (v_iv (n_v vs 12)) (v_iv (n_v vs 13)) (v_iv (n_v vs 14)) (w_ei ws (w_ar ws (n_v vs 0) 160)) (w_ei ws (w_ar ws (n_v vs 0) 161)) (w_ei ws (w_ar ws (n_v vs 0) 162)) (w_ei ws (w_ar ws (n_v vs 0) 163)) (w_ei ws (w_ar ws (n_v vs 0) 1)) (w_fi ws (n_v vs 0) 10) (w_fi ws (n_v vs 0) 164) (w_fi ws (n_v vs 0) 165) (w_fi ws (n_v vs 0) 159) (w_fi ws (n_v vs 0) 158) (w_fi ws (n_v vs 0) 157) (w_fi ws (n_v vs 0) 8) k1 k8 k9 k10 k12 k13 k14 f0 f1 f2 f3 f4 f5 f6 f7 f9 f10 f11 f13 f14 f15 f17 f18 hK_0_1 hK_0_160 hK_0_162 hK_0_163 kz_0_8 kz_0_10 kz_0_157 kz_0_158 kz_0_159 kz_0_164 kz_0_165)⟩
  refine ⟨(fun _ h => (by cases h)), [], trivial, ?_, (fun _ h => (by cases h))⟩
  rw [List.append_nil]
  exact List.forall_mem_cons.mpr ⟨⟨show (20 : Nat) < 100 from by decide, nf0⟩, List.forall_mem_cons.mpr ⟨⟨show (20 : Nat) < 100 from by decide, nf1⟩, List.forall_mem_cons.mpr ⟨⟨show (20 : Nat) < 100 from by decide, nf2⟩, List.forall_mem_cons.mpr ⟨⟨show (20 : Nat) < 100 from by decide, nf3⟩, List.forall_mem_cons.mpr ⟨⟨show (20 : Nat) < 100 from by decide, nf4⟩, List.forall_mem_cons.mpr ⟨⟨show (20 : Nat) < 100 from by decide, nf5⟩, (fun _ h => (by cases h))⟩⟩⟩⟩⟩⟩
def n_Mo_rule_at_f0_an : List an_T := [(106, [(0, (2, 0, 0, [165])), (1, (0, 0, 1, [])), (2, (0, 0, 1, []))], [], (0, 0), [(0, 0, 99894), (2, 6, 0), (0, 0, 100000)], [], [((0, 158), (0, 0, 2009, []))], [(2, 0, 0, [165]), (0, 0, 2009, [])], 0, [(0, 0, 2010, [])], [(20, [2], [50, 2, 1, 158, 157, 160, 2, 12, 0, 7, 4, 3, 2, 0, 158, 0, 1, 2, 0, 157, 2, 7, 0, 3, 2, 0, 157, 0, 2010, 3, 14, 1, 10, 3, 0, 160, 5, 3, 2, 0, 157, 0, 1, 0, 0, 1, 10, 3, 0, 160, 5, 3, 2, 0, 157, 0, 1, 0, 4]), (20, [1, 2], [30, 0, 1, 0, 0, (Int.negSucc 0), 1, 158]), (20, [2], [50, 2, 0, 164, 165, 4, 7, 1, 3, 2, 0, 164, 0, 0, 0, 3, 2, 0, 165, 0, 23]), (20, [2], [30, 0, 1, 1, 159]), (20, [2], [30, 0, (Int.negSucc 0), 1, 159]), (20, [2, 1], [60, 4, 5, 67, 8, 158, 164, 10, 160, 161, 162, 163, 1]), (24, [0, 2], []), (20, [6, 2], [30, 2010, 1, 0, 0, 1, 1, 158]), (20, [6, 2], [30, (Int.negSucc 2009), (Int.negSucc 0), 0, 0, (Int.negSucc 0), 1, 158])]), (275, [(0, (2, 0, 0, [165])), (1, (0, 0, 1, [])), (2, (0, 0, 1, [])), (3, (0, (Int.negSucc 0), 2, [])), (4, (1, (Int.negSucc 9223372036854775807), 9223372036854775807, []))], [], (0, 0), [(0, 0, 99894), (2, 8, 0), (0, 0, 99725)], [], [((0, 8), (0, 0, 5, []))], [(2, 0, 0, [165]), (0, 0, 2009, [])], 0, [(0, 0, 2010, [])], [(20, [2], [50, 2, 1, 158, 157, 160, 2, 12, 0, 7, 4, 3, 2, 0, 158, 0, 1, 2, 0, 157, 2, 7, 0, 3, 2, 0, 157, 0, 2010, 3, 14, 1, 10, 3, 0, 160, 5, 3, 2, 0, 157, 0, 1, 0, 0, 1, 10, 3, 0, 160, 5, 3, 2, 0, 157, 0, 1, 0, 4]), (20, [1, 2], [30, 0, 1, 0, 0, (Int.negSucc 0), 1, 158]), (20, [2], [50, 2, 0, 164, 165, 4, 7, 1, 3, 2, 0, 164, 0, 0, 0, 3, 2, 0, 165, 0, 23]), (20, [2], [30, 0, 1, 1, 159]), (20, [2], [30, 0, (Int.negSucc 0), 1, 159]), (20, [8, 2], [30, (Int.negSucc 2010), (Int.negSucc 0), 0, 0, (Int.negSucc 0), 1, 158]), (20, [2, 1], [60, 4, 5, 68, 8, 158, 164, 10, 160, 161, 162, 163, 1]), (24, [0, 2], [])])]
def t_Mo_rule_at_f0_ct : ct_L := [(1, 463, e_Mo_wrong), (1, 1203, e_Mo_styleNeed), (1, 1217, e_Mo_comma), (16, 1190, e_Mo_word_at_s5000), (52, 1190, e_Mo_word_at_s5022), (196, 1190, e_Mo_word_at_s5023), (292, 1200, e_Mo_test_at_f0), (334, 1190, e_Mo_word_at_s5042), (376, 1190, e_Mo_word_at_s5043), (418, 1190, e_Mo_word_at_s5044), (583, 1212, e_Mo_sum_at_f0), (1000001, 467, en_ro [] (2, 0, 0, [5000])), (1000001, 1193, en_ro [] (2, 0, 0, [5022])), (1000001, 1198, en_ro [] (2, 0, 0, [5023])), (1000001, 1206, en_ro [] (2, 0, 0, [5042])), (1000001, 1208, en_ro [] (2, 0, 0, [5043])), (1000001, 1210, en_ro [] (2, 0, 0, [5044]))]
end
section

set_option maxRecDepth 100000 in
theorem c_Mo_rule_at_f0 {l : Launch} {D : va_G} {kA : Nat → ClassId} (h_Mo_comma : ct_ok PRD l D kA GG y_Mo_comma z_Mo_comma e_Mo_comma) (h_Mo_styleNeed : ct_ok PRD l D kA GG y_Mo_styleNeed z_Mo_styleNeed e_Mo_styleNeed) (h_Mo_sum_at_f0 : ct_ok PRD l D kA GG y_Mo_sum_at_f0 z_Mo_sum_at_f0 e_Mo_sum_at_f0) (h_Mo_test_at_f0 : ct_ok PRD l D kA GG y_Mo_test_at_f0 z_Mo_test_at_f0 e_Mo_test_at_f0) (h_Mo_word_at_s5000 : ct_ok PRD l D kA GG y_Mo_word_at_s5000 z_Mo_word_at_s5000 e_Mo_word_at_s5000) (h_Mo_word_at_s5022 : ct_ok PRD l D kA GG y_Mo_word_at_s5022 z_Mo_word_at_s5022 e_Mo_word_at_s5022) (h_Mo_word_at_s5023 : ct_ok PRD l D kA GG y_Mo_word_at_s5023 z_Mo_word_at_s5023 e_Mo_word_at_s5023) (h_Mo_word_at_s5042 : ct_ok PRD l D kA GG y_Mo_word_at_s5042 z_Mo_word_at_s5042 e_Mo_word_at_s5042) (h_Mo_word_at_s5043 : ct_ok PRD l D kA GG y_Mo_word_at_s5043 z_Mo_word_at_s5043 e_Mo_word_at_s5043) (h_Mo_word_at_s5044 : ct_ok PRD l D kA GG y_Mo_word_at_s5044 z_Mo_word_at_s5044 e_Mo_word_at_s5044) (h_Mo_wrong : ct_ok PRD l D kA GG y_Mo_wrong z_Mo_wrong e_Mo_wrong) : ct_ok PRD l D kA GG y_Mo_rule_at_f0 z_Mo_rule_at_f0 e_Mo_rule_at_f0 := chk_all_ok (FT := [(156, 13, 73), (348, 13, 162), (413, 13, 8), (1020, 13, 139), (1169, 13, 158), (1181, 13, 165), (1195, 13, 164)]) (PT := [(1169, 13, 158, .int), (1195, 13, 164, .int)]) (CT := t_Mo_rule_at_f0_ct) (KT := [(2, 1215, .long (255), (1, 255, 255, []))]) (NT := []) (AN := n_Mo_rule_at_f0_an) (OT := [o_Mo_rule_at_f0_0, o_Mo_rule_at_f0_1, o_Mo_rule_at_f0_2, o_Mo_rule_at_f0_3, o_Mo_rule_at_f0_4, o_Mo_rule_at_f0_5, o_Mo_rule_at_f0_6, o_Mo_rule_at_f0_7, o_Mo_rule_at_f0_8, o_Mo_rule_at_f0_9, o_Mo_rule_at_f0_10, o_Mo_rule_at_f0_11, o_Mo_rule_at_f0_12, o_Mo_rule_at_f0_13, o_Mo_rule_at_f0_14, o_Mo_rule_at_f0_15, o_Mo_rule_at_f0_16, o_Mo_rule_at_f0_17, o_Mo_rule_at_f0_18, o_Mo_rule_at_f0_19, o_Mo_rule_at_f0_20, o_Mo_rule_at_f0_21, o_Mo_rule_at_f0_22, o_Mo_rule_at_f0_23, o_Mo_rule_at_f0_24, o_Mo_rule_at_f0_25, o_Mo_rule_at_f0_26, o_Mo_rule_at_f0_27, o_Mo_rule_at_f0_28, o_Mo_rule_at_f0_29, o_Mo_rule_at_f0_30, o_Mo_rule_at_f0_31, o_Mo_rule_at_f0_32, o_Mo_rule_at_f0_33, o_Mo_rule_at_f0_34, o_Mo_rule_at_f0_35, o_Mo_rule_at_f0_36, o_Mo_rule_at_f0_37, o_Mo_rule_at_f0_38, o_Mo_rule_at_f0_39, o_Mo_rule_at_f0_40, o_Mo_rule_at_f0_41, o_Mo_rule_at_f0_42, o_Mo_rule_at_f0_43, o_Mo_rule_at_f0_44, o_Mo_rule_at_f0_45, o_Mo_rule_at_f0_46, o_Mo_rule_at_f0_47, o_Mo_rule_at_f0_48, o_Mo_rule_at_f0_49, o_Mo_rule_at_f0_50, o_Mo_rule_at_f0_51, o_Mo_rule_at_f0_52, o_Mo_rule_at_f0_53, o_Mo_rule_at_f0_54, o_Mo_rule_at_f0_55, o_Mo_rule_at_f0_56, o_Mo_rule_at_f0_57, o_Mo_rule_at_f0_58, o_Mo_rule_at_f0_59, o_Mo_rule_at_f0_60, o_Mo_rule_at_f0_61, o_Mo_rule_at_f0_62, o_Mo_rule_at_f0_63, o_Mo_rule_at_f0_64, o_Mo_rule_at_f0_65, o_Mo_rule_at_f0_66, o_Mo_rule_at_f0_67, o_Mo_rule_at_f0_68, o_Mo_rule_at_f0_69, o_Mo_rule_at_f0_70]) 3 1464 (List.forall_mem_cons.mpr ⟨oo_Mo_rule_at_f0_0, List.forall_mem_cons.mpr ⟨oo_Mo_rule_at_f0_1, List.forall_mem_cons.mpr ⟨oo_Mo_rule_at_f0_2, List.forall_mem_cons.mpr ⟨oo_Mo_rule_at_f0_3, List.forall_mem_cons.mpr ⟨oo_Mo_rule_at_f0_4, List.forall_mem_cons.mpr ⟨oo_Mo_rule_at_f0_5, List.forall_mem_cons.mpr ⟨oo_Mo_rule_at_f0_6, List.forall_mem_cons.mpr ⟨oo_Mo_rule_at_f0_7, List.forall_mem_cons.mpr ⟨oo_Mo_rule_at_f0_8, List.forall_mem_cons.mpr ⟨oo_Mo_rule_at_f0_9, List.forall_mem_cons.mpr ⟨oo_Mo_rule_at_f0_10, List.forall_mem_cons.mpr ⟨oo_Mo_rule_at_f0_11, List.forall_mem_cons.mpr ⟨oo_Mo_rule_at_f0_12, List.forall_mem_cons.mpr ⟨oo_Mo_rule_at_f0_13, List.forall_mem_cons.mpr ⟨oo_Mo_rule_at_f0_14, List.forall_mem_cons.mpr ⟨oo_Mo_rule_at_f0_15, List.forall_mem_cons.mpr ⟨oo_Mo_rule_at_f0_16, List.forall_mem_cons.mpr ⟨oo_Mo_rule_at_f0_17, List.forall_mem_cons.mpr ⟨oo_Mo_rule_at_f0_18, List.forall_mem_cons.mpr ⟨oo_Mo_rule_at_f0_19, List.forall_mem_cons.mpr ⟨oo_Mo_rule_at_f0_20, List.forall_mem_cons.mpr ⟨oo_Mo_rule_at_f0_21, List.forall_mem_cons.mpr ⟨oo_Mo_rule_at_f0_22, List.forall_mem_cons.mpr ⟨oo_Mo_rule_at_f0_23, List.forall_mem_cons.mpr ⟨oo_Mo_rule_at_f0_24, List.forall_mem_cons.mpr ⟨oo_Mo_rule_at_f0_25, List.forall_mem_cons.mpr ⟨oo_Mo_rule_at_f0_26, List.forall_mem_cons.mpr ⟨oo_Mo_rule_at_f0_27, List.forall_mem_cons.mpr ⟨oo_Mo_rule_at_f0_28, List.forall_mem_cons.mpr ⟨oo_Mo_rule_at_f0_29, List.forall_mem_cons.mpr ⟨oo_Mo_rule_at_f0_30, List.forall_mem_cons.mpr ⟨oo_Mo_rule_at_f0_31, List.forall_mem_cons.mpr ⟨oo_Mo_rule_at_f0_32, List.forall_mem_cons.mpr ⟨oo_Mo_rule_at_f0_33, List.forall_mem_cons.mpr ⟨oo_Mo_rule_at_f0_34, List.forall_mem_cons.mpr ⟨oo_Mo_rule_at_f0_35, List.forall_mem_cons.mpr ⟨oo_Mo_rule_at_f0_36, List.forall_mem_cons.mpr ⟨oo_Mo_rule_at_f0_37, List.forall_mem_cons.mpr ⟨oo_Mo_rule_at_f0_38, List.forall_mem_cons.mpr ⟨oo_Mo_rule_at_f0_39, List.forall_mem_cons.mpr ⟨oo_Mo_rule_at_f0_40, List.forall_mem_cons.mpr ⟨oo_Mo_rule_at_f0_41, List.forall_mem_cons.mpr ⟨oo_Mo_rule_at_f0_42, List.forall_mem_cons.mpr ⟨oo_Mo_rule_at_f0_43, List.forall_mem_cons.mpr ⟨oo_Mo_rule_at_f0_44, List.forall_mem_cons.mpr ⟨oo_Mo_rule_at_f0_45, List.forall_mem_cons.mpr ⟨oo_Mo_rule_at_f0_46, List.forall_mem_cons.mpr ⟨oo_Mo_rule_at_f0_47, List.forall_mem_cons.mpr ⟨oo_Mo_rule_at_f0_48, List.forall_mem_cons.mpr ⟨oo_Mo_rule_at_f0_49, List.forall_mem_cons.mpr ⟨oo_Mo_rule_at_f0_50, List.forall_mem_cons.mpr ⟨oo_Mo_rule_at_f0_51, List.forall_mem_cons.mpr ⟨oo_Mo_rule_at_f0_52, List.forall_mem_cons.mpr ⟨oo_Mo_rule_at_f0_53, List.forall_mem_cons.mpr ⟨oo_Mo_rule_at_f0_54, List.forall_mem_cons.mpr ⟨oo_Mo_rule_at_f0_55, List.forall_mem_cons.mpr ⟨oo_Mo_rule_at_f0_56, List.forall_mem_cons.mpr ⟨oo_Mo_rule_at_f0_57, List.forall_mem_cons.mpr ⟨oo_Mo_rule_at_f0_58, List.forall_mem_cons.mpr ⟨oo_Mo_rule_at_f0_59, List.forall_mem_cons.mpr ⟨oo_Mo_rule_at_f0_60, List.forall_mem_cons.mpr ⟨oo_Mo_rule_at_f0_61, List.forall_mem_cons.mpr ⟨oo_Mo_rule_at_f0_62, List.forall_mem_cons.mpr ⟨oo_Mo_rule_at_f0_63, List.forall_mem_cons.mpr ⟨oo_Mo_rule_at_f0_64, List.forall_mem_cons.mpr ⟨oo_Mo_rule_at_f0_65, List.forall_mem_cons.mpr ⟨oo_Mo_rule_at_f0_66, List.forall_mem_cons.mpr ⟨oo_Mo_rule_at_f0_67, List.forall_mem_cons.mpr ⟨oo_Mo_rule_at_f0_68, List.forall_mem_cons.mpr ⟨oo_Mo_rule_at_f0_69, List.forall_mem_cons.mpr ⟨oo_Mo_rule_at_f0_70, List.forall_mem_nil _⟩⟩⟩⟩⟩⟩⟩⟩⟩⟩⟩⟩⟩⟩⟩⟩⟩⟩⟩⟩⟩⟩⟩⟩⟩⟩⟩⟩⟩⟩⟩⟩⟩⟩⟩⟩⟩⟩⟩⟩⟩⟩⟩⟩⟩⟩⟩⟩⟩⟩⟩⟩⟩⟩⟩⟩⟩⟩⟩⟩⟩⟩⟩⟩⟩⟩⟩⟩⟩⟩⟩) (by decide +kernel) ⟨List.forall_mem_cons.mpr ⟨gf_Mo_156, List.forall_mem_cons.mpr ⟨gf_Mo_348, List.forall_mem_cons.mpr ⟨gf_Mo_413, List.forall_mem_cons.mpr ⟨gf_Mo_1020, List.forall_mem_cons.mpr ⟨gf_Mo_1169, List.forall_mem_cons.mpr ⟨gf_Mo_1181, List.forall_mem_cons.mpr ⟨gf_Mo_1195, List.forall_mem_nil _⟩⟩⟩⟩⟩⟩⟩, List.forall_mem_cons.mpr ⟨pf_Mo_1169, List.forall_mem_cons.mpr ⟨pf_Mo_1195, List.forall_mem_nil _⟩⟩, List.forall_mem_cons.mpr ⟨cl_virtual (y := y_Mo_wrong) (ci := 13) rfl rfl ⟨_, _, rfl⟩ (by decide +kernel) h_Mo_wrong wm_3017 wm_9 wm_3014 wm_3016 wv_13_1 ⟨by decide, by decide, by decide +kernel⟩ (by decide), List.forall_mem_cons.mpr ⟨cl_virtual (y := y_Mo_styleNeed) (ci := 13) rfl rfl ⟨_, _, rfl⟩ (by decide +kernel) h_Mo_styleNeed wm_3836 wm_9 wm_3833 wm_3835 wv_23_12 ⟨by decide, by decide, by decide +kernel⟩ (by decide), List.forall_mem_cons.mpr ⟨cl_virtual (y := y_Mo_comma) (ci := 13) rfl rfl ⟨_, _, rfl⟩ (by decide +kernel) h_Mo_comma wm_3889 wm_9 wm_3886 wm_3888 wv_24_4 ⟨by decide, by decide, by decide +kernel⟩ (by decide), List.forall_mem_cons.mpr ⟨cl_virtual (y := y_Mo_word_at_s5000) (ci := 13) rfl rfl ⟨_, _, rfl⟩ (by decide +kernel) h_Mo_word_at_s5000 wm_3809 wm_9 wm_3806 wm_3808 wv_23_6 ⟨by decide, by decide, by decide +kernel⟩ (by decide), List.forall_mem_cons.mpr ⟨cl_virtual (y := y_Mo_word_at_s5022) (ci := 13) rfl rfl ⟨_, _, rfl⟩ (by decide +kernel) h_Mo_word_at_s5022 wm_3809 wm_9 wm_3806 wm_3808 wv_23_6 ⟨by decide, by decide, by decide +kernel⟩ (by decide), List.forall_mem_cons.mpr ⟨cl_virtual (y := y_Mo_word_at_s5023) (ci := 13) rfl rfl ⟨_, _, rfl⟩ (by decide +kernel) h_Mo_word_at_s5023 wm_3809 wm_9 wm_3806 wm_3808 wv_23_6 ⟨by decide, by decide, by decide +kernel⟩ (by decide), List.forall_mem_cons.mpr ⟨cl_virtual (y := y_Mo_test_at_f0) (ci := 13) rfl rfl ⟨_, _, rfl⟩ (by decide +kernel) h_Mo_test_at_f0 wm_3815 wm_9 wm_3812 wm_3814 wv_23_7 ⟨by decide, by decide, by decide +kernel⟩ (by decide), List.forall_mem_cons.mpr ⟨cl_virtual (y := y_Mo_word_at_s5042) (ci := 13) rfl rfl ⟨_, _, rfl⟩ (by decide +kernel) h_Mo_word_at_s5042 wm_3809 wm_9 wm_3806 wm_3808 wv_23_6 ⟨by decide, by decide, by decide +kernel⟩ (by decide), List.forall_mem_cons.mpr ⟨cl_virtual (y := y_Mo_word_at_s5043) (ci := 13) rfl rfl ⟨_, _, rfl⟩ (by decide +kernel) h_Mo_word_at_s5043 wm_3809 wm_9 wm_3806 wm_3808 wv_23_6 ⟨by decide, by decide, by decide +kernel⟩ (by decide), List.forall_mem_cons.mpr ⟨cl_virtual (y := y_Mo_word_at_s5044) (ci := 13) rfl rfl ⟨_, _, rfl⟩ (by decide +kernel) h_Mo_word_at_s5044 wm_3809 wm_9 wm_3806 wm_3808 wv_23_6 ⟨by decide, by decide, by decide +kernel⟩ (by decide), List.forall_mem_cons.mpr ⟨cl_virtual (y := y_Mo_sum_at_f0) (ci := 13) rfl rfl ⟨_, _, rfl⟩ (by decide +kernel) h_Mo_sum_at_f0 wm_3840 wm_9 wm_3837 wm_3839 wv_23_13 ⟨by decide, by decide, by decide +kernel⟩ (by decide), List.forall_mem_cons.mpr ⟨cl_ldcw (own := "DrawingHouseModel") (idx := 467) (i := 0) (tx := "node") (by decide +kernel) (by decide +kernel) (by decide +kernel), List.forall_mem_cons.mpr ⟨cl_ldcw (own := "DrawingHouseModel") (idx := 1193) (i := 22) (tx := "edge") (by decide +kernel) (by decide +kernel) (by decide +kernel), List.forall_mem_cons.mpr ⟨cl_ldcw (own := "DrawingHouseModel") (idx := 1198) (i := 23) (tx := "if") (by decide +kernel) (by decide +kernel) (by decide +kernel), List.forall_mem_cons.mpr ⟨cl_ldcw (own := "DrawingHouseModel") (idx := 1206) (i := 42) (tx := "color") (by decide +kernel) (by decide +kernel) (by decide +kernel), List.forall_mem_cons.mpr ⟨cl_ldcw (own := "DrawingHouseModel") (idx := 1208) (i := 43) (tx := "width") (by decide +kernel) (by decide +kernel) (by decide +kernel), List.forall_mem_cons.mpr ⟨cl_ldcw (own := "DrawingHouseModel") (idx := 1210) (i := 44) (tx := "form") (by decide +kernel) (by decide +kernel) (by decide +kernel), List.forall_mem_nil _⟩⟩⟩⟩⟩⟩⟩⟩⟩⟩⟩⟩⟩⟩⟩⟩⟩, List.forall_mem_cons.mpr ⟨⟨kt_mk2 wm_3885, fun _ => Or.inr (Or.inl ⟨rfl, _, rfl, by decide, by decide⟩)⟩, List.forall_mem_nil _⟩, List.forall_mem_nil _, GG_pl⟩ (by decide +kernel)
set_option maxHeartbeats 4000000 in
theorem vc_Mo_turn_0_0 (x1 : Int) (all_0 : Int → Int) (now_0 : Int → Int) (latest_0 : Int → Int) (r_0 : Int) (k1 : 0 ≤ x1 ∧ x1 ≤ 3) (f0 : ROWS (all_0) (now_0) (latest_0)) (f1 : r_0 = ((16709 * x1) + (539 * now_0 (x1)))) : SGR (r_0) (all_0) := by
  exact rows_at (g := x1) ‹ROWS _ _ _› (by omega) (by omega) (by omega)
def o_Mo_turn_0 : or_T := (24, 9, [(1, (0, 0, 3, []))], [(20, [0], [60, 0, 3, 198, 2, 3, 4]), (20, [0, 1], [50, 1, 1, 5, 3, 1, 3, 2, 0, 5, 4, 6, 6, 2, 0, 16709, 1, 1, 6, 2, 0, 539, 3, 0, 3, 1, 1])], [], [], [(20, [0], [60, 1, 1, 197, 5, 2])], [], [])
theorem oo_Mo_turn_0 {kA : Nat → ClassId} : or_ok PRD kA GG o_Mo_turn_0 := by
  refine or_mk fun A ta ws vs hD hth hl => ?_
  intro t1 k1 f0 f1
  have nf0 : fc_1 PRD (20, [0], [60, 1, 1, 197, 5, 2]) ws (vs) := ⟨nf_in hl rfl, sgq_1452 (vc_Mo_turn_0_0 (v_iv (n_v vs 1)) (w_ei ws (w_ar ws (n_v vs 0) 2)) (w_ei ws (w_ar ws (n_v vs 0) 3)) (w_ei ws (w_ar ws (n_v vs 0) 4)) (w_fi ws (n_v vs 0) 5) k1 (shm_1230 f0) (shm_1037 f1))⟩
  refine ⟨(fun _ h => (by cases h)), [], trivial, ?_, (fun _ h => (by cases h))⟩
  rw [List.append_nil]
  exact List.forall_mem_cons.mpr ⟨⟨show (20 : Nat) < 100 from by decide, nf0⟩, (fun _ h => (by cases h))⟩
set_option maxHeartbeats 4000000 in
theorem vc_Mo_turn_1_0 (x9 : Int) (pt_0 : Int → Int) (ph_0 : Int → Int) (pn_0 : Int) (pm_0 : Int) (alive_0 : Int → Int) (blockOf_0 : Int → Int) (rotMany_0 : Int → Int) (rot_0 : Int → Int) (k9 : 1 ≤ x9 ∧ x9 ≤ 1) (f5 : EMQ (pn_0) (pm_0) (pt_0) (ph_0) (alive_0) (blockOf_0) (rotMany_0) (rot_0) (x9)) (kz_0_31 : 0 ≤ pn_0 ∧ pn_0 ≤ 25) (kz_0_32 : 0 ≤ pm_0 ∧ pm_0 ≤ 80) : EML (pn_0) (pm_0) (pt_0) (ph_0) (alive_0) (rotMany_0) (rot_0) := by
  obtain ⟨many, b, h1, h2, h3⟩ := ‹EMQ _ _ _ _ _ _ _ _ _› (by omega)
  exact eml_of h1 h2 h3
def o_Mo_turn_1 : or_T := (133, 13, [(0, (2, 0, 0, [165])), (9, (0, 1, 1, []))], [(20, [0, 9], [60, 2, 6, 184, 31, 32, 33, 34, 35, 17, 36, 37])], [], [], [(20, [0], [60, 2, 5, 187, 31, 32, 33, 34, 35, 36, 37])], [], [])
theorem oo_Mo_turn_1 {kA : Nat → ClassId} : or_ok PRD kA GG o_Mo_turn_1 := by
  refine or_mk fun A ta ws vs hD hth hl => ?_
  intro t0 r0 t9 k9 f5
  have kz_0_31 := fdq_145 hD hth r0
  have kz_0_32 := fdq_140 hD hth r0
  have nf0 : fc_1 PRD (20, [0], [60, 2, 5, 187, 31, 32, 33, 34, 35, 36, 37]) ws (vs) := ⟨nf_in hl rfl, sgq_1012 (vc_Mo_turn_1_0 (v_iv (n_v vs 9)) (w_ei ws (w_ar ws (n_v vs 0) 33)) (w_ei ws (w_ar ws (n_v vs 0) 34)) (w_fi ws (n_v vs 0) 31) (w_fi ws (n_v vs 0) 32) (w_ei ws (w_ar ws (n_v vs 0) 35)) (w_ei ws (w_ar ws (n_v vs 0) 17)) (w_ei ws (w_ar ws (n_v vs 0) 36)) (w_ei ws (w_ar ws (n_v vs 0) 37)) k9 (shm_2095 f5) kz_0_31 kz_0_32)⟩
  refine ⟨(fun _ h => (by cases h)), [], trivial, ?_, (fun _ h => (by cases h))⟩
  rw [List.append_nil]
  exact List.forall_mem_cons.mpr ⟨⟨show (20 : Nat) < 100 from by decide, nf0⟩, (fun _ h => (by cases h))⟩
set_option maxHeartbeats 4000000 in
theorem vc_Mo_turn_2_r0 (x3 : Int) (x4 : Int) (x21 : Int) (x22 : Int) (x23 : Int) (x24 : Int) (x26 : Int) (x29 : Int) (x30 : Int) (roundBegin_0 : Int → Int) (k3 : 0 ≤ x3 ∧ x3 ≤ 159) (k4 : 0 ≤ x4 ∧ x4 ≤ 159) (k21 : 1 ≤ x21 ∧ x21 ≤ 160) (k22 : 0 ≤ x22 ∧ x22 ≤ 160) (k23 : 0 ≤ x23 ∧ x23 ≤ 160) (k24 : (-160) ≤ x24 ∧ x24 ≤ 160) (k26 : (-161) ≤ x26 ∧ x26 ≤ 159) (k29 : 0 ≤ x29 ∧ x29 ≤ 160) (k30 : 0 ≤ x30 ∧ x30 ≤ 319) (d3 : x26 + (-4294967296) ≤ x4 ∧ x4 ≤ x26 + 0) (d4 : x24 + (-1) ≤ x26 ∧ x26 ≤ x24 + (-1)) (f0 : x30 = x29 + x4) (h1 : x29 = roundBegin_0 (x3)) (f5 : x24 = x22 - x23) (h6 : x23 = roundBegin_0 (x3)) (h7 : x22 = roundBegin_0 (x21)) : 0 ≤ x30 ∧ x30 ≤ 159 := by
  omega
def o_Mo_turn_2 : or_T := (192, 31, [(0, (2, 0, 0, [165])), (1, (0, 0, 3, [])), (3, (0, 0, 159, [])), (4, (0, 0, 159, [])), (9, (0, 1, 1, [])), (11, (0, 0, 0, [])), (14, (0, 0, 160, [])), (15, (0, 1, 1, [])), (16, (0, -1, 159, [])), (19, (2, 0, 0, [198])), (20, (0, 1, 1, [])), (21, (0, 1, 160, [])), (22, (0, 0, 160, [])), (23, (0, 0, 160, [])), (24, (0, -160, 160, [])), (25, (0, 1, 1, [])), (26, (0, -161, 159, [])), (28, (2, 0, 0, [199])), (29, (0, 0, 160, [])), (30, (0, 0, 319, []))], [(1, [30, 29, 4], []), (10, [29, 19, 3], []), (9, [19, 0], [56]), (9, [28, 0], [57]), (2, [26, 24, 25], []), (2, [24, 22, 23], []), (10, [23, 19, 3], []), (10, [22, 19, 21], []), (1, [21, 3, 20], []), (2, [16, 14, 15], []), (9, [14, 0], [53]), (20, [0], [60, 2, 5, 187, 31, 32, 33, 34, 35, 36, 37]), (20, [0], [60, 1, 1, 197, 5, 2]), (20, [0], [60, 0, 3, 198, 2, 3, 4]), (20, [0, 1], [50, 1, 1, 5, 3, 1, 3, 2, 0, 5, 4, 6, 6, 2, 0, 16709, 1, 1, 6, 2, 0, 539, 3, 0, 3, 1, 1]), (20, [0], [60, 2, 2, 75, 31, 32, 33, 34]), (20, [0, 9], [60, 2, 6, 184, 31, 32, 33, 34, 35, 17, 36, 37]), (20, [0], [60, 3, 4, 201, 5, 31, 32, 2, 33, 34, 35]), (20, [0], [60, 2, 8, 193, 32, 53, 33, 34, 35, 36, 37, 54, 56, 57]), (102, [12], [1305637160960429598877844200027194614549289932448519178682368, 165053]), (7, [9, 11], [1])], [(30, (0, 0, 159, []))], [], [], [], [(30, 4, 0, 160), (30, 26, -4294967296, 160), (30, 29, 0, 159), (4, 26, -4294967296, 0), (26, 24, -1, -1), (26, 22, -161, -1), (24, 22, -160, 0), (21, 3, 1, 1), (21, 16, -4294967296, 1), (3, 16, -4294967296, 0), (16, 14, -1, -1)])
theorem oo_Mo_turn_2 {kA : Nat → ClassId} : or_ok PRD kA GG o_Mo_turn_2 := by
  refine or_mk fun A ta ws vs hD hth hl => ?_
  intro t0 r0 t1 k1 t3 k3 t4 k4 t9 k9 t11 k11 t14 k14 t15 k15 t16 k16 t19 r19 t20 k20 t21 k21 t22 k22 t23 k23 t24 k24 t25 k25 t26 k26 t28 r28 t29 k29 t30 k30 d0 d1 d2 d3 d4 d5 d6 d7 d8 d9 d10 f0 f1 f2 f3 f4 f5 f6 f7 f8 f9 f10 f11 f12 f13 f14 f15 f16 f17 f18 ta1 w1 le1 s1 f20
  replace f1 := shm_107 f1
  replace f2 := shm_1133 f2
  replace f6 := shm_107 f6
  replace f7 := shm_107 f7
  have ad_19 : v_ad (n_v vs 19) = w_ar ws (n_v vs 0) 56 := congrArg v_ad f2
  simp only [ad_19] at f1
  have h1 : v_iv (n_v vs 29) = w_ei ws (w_ar ws (n_v vs 0) 56) (v_iv (n_v vs 3)) := f1
  simp only [ad_19] at f6
  have h6 : v_iv (n_v vs 23) = w_ei ws (w_ar ws (n_v vs 0) 56) (v_iv (n_v vs 3)) := f6
  simp only [ad_19] at f7
  have h7 : v_iv (n_v vs 22) = w_ei ws (w_ar ws (n_v vs 0) 56) (v_iv (n_v vs 21)) := f7
  have hrf0 : 0 ≤ v_iv (n_v vs 30) ∧ v_iv (n_v vs 30) ≤ 159 := vc_Mo_turn_2_r0 (v_iv (n_v vs 3)) (v_iv (n_v vs 4)) (v_iv (n_v vs 21)) (v_iv (n_v vs 22)) (v_iv (n_v vs 23)) (v_iv (n_v vs 24)) (v_iv (n_v vs 26)) (v_iv (n_v vs 29)) (v_iv (n_v vs 30)) (w_ei ws (w_ar ws (n_v vs 0) 56)) k3 k4 k21 k22 k23 k24 k26 k29 k30 d3 d4 (shm_12 f0) h1 (shm_14 f5) h6 h7
  have rf30 : tv_ok ta (0, 0, 159, []) (n_v vs 30) := tv_in t30 (by first | omega | grind) (by first | omega | grind)
  refine ⟨List.forall_mem_cons.mpr ⟨rf30, (fun _ h => (by cases h))⟩, [], trivial, ?_, (fun _ h => (by cases h))⟩
  rw [List.append_nil]
  exact (fun _ h => (by cases h))
def n_Mo_turn_an : List an_T := []
def t_Mo_turn_ct : ct_L := [(0, 387, e_Mo_in), (0, 521, e_Mo_isPlace), (1, 527, e_Mo_take), (1, 704, e_Mo_isPlanar), (1, 707, e_Mo_goRound), (1, 710, e_Mo_bar), (1, 713, e_Mo_fromOf)]
set_option maxRecDepth 100000 in
theorem c_Mo_turn {l : Launch} {D : va_G} {kA : Nat → ClassId} (h_Mo_bar : ct_ok PRD l D kA GG y_Mo_bar z_Mo_bar e_Mo_bar) (h_Mo_fromOf : ct_ok PRD l D kA GG y_Mo_fromOf z_Mo_fromOf e_Mo_fromOf) (h_Mo_goRound : ct_ok PRD l D kA GG y_Mo_goRound z_Mo_goRound e_Mo_goRound) (h_Mo_in : ct_ok PRD l D kA GG y_Mo_in z_Mo_in e_Mo_in) (h_Mo_isPlace : ct_ok PRD l D kA GG y_Mo_isPlace z_Mo_isPlace e_Mo_isPlace) (h_Mo_isPlanar : ct_ok PRD l D kA GG y_Mo_isPlanar z_Mo_isPlanar e_Mo_isPlanar) (h_Mo_take : ct_ok PRD l D kA GG y_Mo_take z_Mo_take e_Mo_take) : ct_ok PRD l D kA GG y_Mo_turn z_Mo_turn e_Mo_turn := chk_all_ok (FT := [(66, 13, 36), (69, 13, 37), (111, 13, 56), (114, 13, 57), (117, 13, 60), (594, 13, 31), (683, 13, 53), (695, 13, 58)]) (PT := []) (CT := t_Mo_turn_ct) (KT := []) (NT := []) (AN := n_Mo_turn_an) (OT := [o_Mo_turn_0, o_Mo_turn_1, o_Mo_turn_2]) 0 640 (List.forall_mem_cons.mpr ⟨oo_Mo_turn_0, List.forall_mem_cons.mpr ⟨oo_Mo_turn_1, List.forall_mem_cons.mpr ⟨oo_Mo_turn_2, List.forall_mem_nil _⟩⟩⟩) (by decide +kernel) ⟨List.forall_mem_cons.mpr ⟨gf_Mo_66, List.forall_mem_cons.mpr ⟨gf_Mo_69, List.forall_mem_cons.mpr ⟨gf_Mo_111, List.forall_mem_cons.mpr ⟨gf_Mo_114, List.forall_mem_cons.mpr ⟨gf_Mo_117, List.forall_mem_cons.mpr ⟨gf_Mo_594, List.forall_mem_cons.mpr ⟨gf_Mo_683, List.forall_mem_cons.mpr ⟨gf_Mo_695, List.forall_mem_nil _⟩⟩⟩⟩⟩⟩⟩⟩, List.forall_mem_nil _, List.forall_mem_cons.mpr ⟨cl_static (y := y_Mo_in) h_Mo_in wm_2971 wm_9 wm_2969 wm_2970 ⟨by decide, by decide, by decide +kernel⟩ (by decide), List.forall_mem_cons.mpr ⟨cl_static (y := y_Mo_isPlace) h_Mo_isPlace wm_2978 wm_9 wm_2976 wm_2977 ⟨by decide, by decide, by decide +kernel⟩ (by decide), List.forall_mem_cons.mpr ⟨cl_virtual (y := y_Mo_take) (ci := 13) rfl rfl ⟨_, _, rfl⟩ (by decide +kernel) h_Mo_take wm_3091 wm_9 wm_3088 wm_3090 wv_14_2 ⟨by decide, by decide, by decide +kernel⟩ (by decide), List.forall_mem_cons.mpr ⟨cl_virtual (y := y_Mo_isPlanar) (ci := 13) rfl rfl ⟨_, _, rfl⟩ (by decide +kernel) h_Mo_isPlanar wm_3251 wm_9 wm_3248 wm_3250 wv_16_5 ⟨by decide, by decide, by decide +kernel⟩ (by decide), List.forall_mem_cons.mpr ⟨cl_virtual (y := y_Mo_goRound) (ci := 13) rfl rfl ⟨_, _, rfl⟩ (by decide +kernel) h_Mo_goRound wm_3255 wm_9 wm_3252 wm_3254 wv_16_6 ⟨by decide, by decide, by decide +kernel⟩ (by decide), List.forall_mem_cons.mpr ⟨cl_virtual (y := y_Mo_bar) (ci := 13) rfl rfl ⟨_, _, rfl⟩ (by decide +kernel) h_Mo_bar wm_3267 wm_9 wm_3264 wm_3266 wv_16_9 ⟨by decide, by decide, by decide +kernel⟩ (by decide), List.forall_mem_cons.mpr ⟨cl_virtual (y := y_Mo_fromOf) (ci := 13) rfl rfl ⟨_, _, rfl⟩ (by decide +kernel) h_Mo_fromOf wm_3275 wm_9 wm_3272 wm_3274 wv_16_10 ⟨by decide, by decide, by decide +kernel⟩ (by decide), List.forall_mem_nil _⟩⟩⟩⟩⟩⟩⟩, List.forall_mem_nil _, List.forall_mem_nil _, GG_pl⟩ (by decide +kernel)
set_option maxHeartbeats 4000000 in
theorem vc_Ho_read_0_0 (x1 : Int) (x2 : Int) (x4 : Int) (length_0o3 : Int) (k1 : (-2147483648) ≤ x1 ∧ x1 ≤ (-1)) (k2 : (-2147483648) ≤ x2 ∧ x2 ≤ 2147483647) (k4 : 0 ≤ x4 ∧ x4 ≤ 2000) (f0 : ((0 ≤ x1) ∧ ((x1 ≤ 3) ∧ ((0 ≤ x2) ∧ ((x2 ≤ length_0o3) ∧ (x4 = 0))))) ∨ (((x1 ≤ (-1)) ∨ ((4 ≤ x1) ∨ ((x2 ≤ (-1)) ∨ ((length_0o3 + 1) ≤ x2)))) ∧ (x4 = length_0o3))) (kz_3_1 : 0 ≤ length_0o3 ∧ length_0o3 ≤ 2000) : length_0o3 = x4 := by
  first
    | omega
  
set_option maxHeartbeats 4000000 in
theorem vc_Ho_read_0_1 (x1 : Int) (x2 : Int) (x4 : Int) (x5 : Int) (x7 : Int) (length_0o3 : Int) (tape_0o3 : Int → Int) (fault_0o3 : Int) (faultPlace_0o3 : Int) (k1 : (-2147483648) ≤ x1 ∧ x1 ≤ (-1)) (k2 : (-2147483648) ≤ x2 ∧ x2 ≤ 2147483647) (k4 : 0 ≤ x4 ∧ x4 ≤ 2000) (k5 : 0 ≤ x5 ∧ x5 ≤ 2000) (k7 : (-2) ≤ x7 ∧ x7 ≤ (-2)) (f0 : ((0 ≤ x1) ∧ ((x1 ≤ 3) ∧ ((0 ≤ x2) ∧ ((x2 ≤ length_0o3) ∧ (x4 = 0))))) ∨ (((x1 ≤ (-1)) ∨ ((4 ≤ x1) ∨ ((x2 ≤ (-1)) ∨ ((length_0o3 + 1) ≤ x2)))) ∧ (x4 = length_0o3))) (f1 : length_0o3 = x5) (hK_3_0 : ∀ j : Int, 0 ≤ j → j < 2000 → (-128) ≤ tape_0o3 j ∧ tape_0o3 j ≤ 127) (kz_3_1 : 0 ≤ length_0o3 ∧ length_0o3 ≤ 2000) (kz_3_2 : (-1) ≤ fault_0o3 ∧ fault_0o3 ≤ 5) (kz_3_3 : (-1) ≤ faultPlace_0o3 ∧ faultPlace_0o3 ≤ 2000) : RDY (fault_0o3) (faultPlace_0o3) (tape_0o3) (x1) (x2) (x5) (x7) := by
  exact rdc_2 (by omega) (by omega)
def o_Ho_read_0 : or_T := (24, 8, [(1, (0, -2147483648, -1, [])), (2, (0, -2147483648, 2147483647, [])), (3, (2, 0, 0, [8])), (4, (0, 0, 2000, [])), (5, (0, 0, 2000, [])), (7, (0, -2, -2, []))], [(20, [1, 2, 3, 4], [50, 1, 0, 2001, 3, 39, 2, 6, 0, 2, 0, 0, 1, 0, 2, 6, 0, 2, 1, 0, 0, 3, 2, 6, 0, 2, 0, 0, 1, 1, 2, 7, 0, 2, 1, 1, 2, 2, 1, 1, 2, 1, 3, 0, 0, 2, 35, 3, 6, 0, 2, 1, 0, 0, -1, 3, 6, 0, 2, 0, 4, 1, 0, 3, 6, 0, 2, 1, 1, 0, -1, 0, 7, 4, 3, 2, 2, 1, 0, 1, 1, 1, 1, 2, 1, 3, 2, 2, 1]), (20, [3, 5], [50, 1, 0, 1, 1, 3, 2, 0, 1, 1, 1])], [], [], [(20, [3, 4], [50, 1, 0, 1, 1, 3, 2, 0, 1, 1, 1]), (20, [3, 1, 2, 5, 7], [60, 2, 1, 1110, 2, 3, 0])], [], [])
theorem oo_Ho_read_0 {kA : Nat → ClassId} : or_ok PRD kA GG o_Ho_read_0 := by
  refine or_mk fun A ta ws vs hD hth hl => ?_
  intro t1 k1 t2 k2 t3 r3 t4 k4 t5 k5 t7 k7 f0 f1
  have cr_3_0 := fdq_95 hD hth r3
  have hK_3_0 := elq_33 hD hth cr_3_0
  have kz_3_1 := fdq_96 hD hth r3
  have kz_3_2 := fdq_97 hD hth r3
  have kz_3_3 := fdq_98 hD hth r3
  have nf0 : fc_1 PRD (20, [3, 4], [50, 1, 0, 1, 1, 3, 2, 0, 1, 1, 1]) ws (vs) := ⟨nf_in hl rfl, sgq_790 (vc_Ho_read_0_0 (v_iv (n_v vs 1)) (v_iv (n_v vs 2)) (v_iv (n_v vs 4)) (w_fi ws (n_v vs 3) 1) k1 k2 k4 (shm_2276 f0) kz_3_1)⟩
  have nf1 : fc_1 PRD (20, [3, 1, 2, 5, 7], [60, 2, 1, 1110, 2, 3, 0]) ws (vs) := ⟨nf_in hl rfl, sgq_2277 (vc_Ho_read_0_1 (v_iv (n_v vs 1)) (v_iv (n_v vs 2)) (v_iv (n_v vs 4)) (v_iv (n_v vs 5)) (v_iv (n_v vs 7)) (w_fi ws (n_v vs 3) 1) (w_ei ws (w_ar ws (n_v vs 3) 0)) (w_fi ws (n_v vs 3) 2) (w_fi ws (n_v vs 3) 3) k1 k2 k4 k5 k7 (shm_2276 f0) (shm_790 f1) hK_3_0 kz_3_1 kz_3_2 kz_3_3)⟩
  refine ⟨(fun _ h => (by cases h)), [], trivial, ?_, (fun _ h => (by cases h))⟩
  rw [List.append_nil]
  exact List.forall_mem_cons.mpr ⟨⟨show (20 : Nat) < 100 from by decide, nf0⟩, List.forall_mem_cons.mpr ⟨⟨show (20 : Nat) < 100 from by decide, nf1⟩, (fun _ h => (by cases h))⟩⟩
set_option maxHeartbeats 4000000 in
theorem vc_Ho_read_1_0 (x1 : Int) (x2 : Int) (x4 : Int) (length_0o3 : Int) (k1 : 4 ≤ x1 ∧ x1 ≤ 2147483647) (k2 : (-2147483648) ≤ x2 ∧ x2 ≤ 2147483647) (k4 : 0 ≤ x4 ∧ x4 ≤ 2000) (f0 : ((0 ≤ x1) ∧ ((x1 ≤ 3) ∧ ((0 ≤ x2) ∧ ((x2 ≤ length_0o3) ∧ (x4 = 0))))) ∨ (((x1 ≤ (-1)) ∨ ((4 ≤ x1) ∨ ((x2 ≤ (-1)) ∨ ((length_0o3 + 1) ≤ x2)))) ∧ (x4 = length_0o3))) (kz_3_1 : 0 ≤ length_0o3 ∧ length_0o3 ≤ 2000) : length_0o3 = x4 := by
  first
    | omega
  
set_option maxHeartbeats 4000000 in
theorem vc_Ho_read_1_1 (x1 : Int) (x2 : Int) (x4 : Int) (x5 : Int) (x7 : Int) (length_0o3 : Int) (tape_0o3 : Int → Int) (fault_0o3 : Int) (faultPlace_0o3 : Int) (k1 : 4 ≤ x1 ∧ x1 ≤ 2147483647) (k2 : (-2147483648) ≤ x2 ∧ x2 ≤ 2147483647) (k4 : 0 ≤ x4 ∧ x4 ≤ 2000) (k5 : 0 ≤ x5 ∧ x5 ≤ 2000) (k7 : (-2) ≤ x7 ∧ x7 ≤ (-2)) (f0 : ((0 ≤ x1) ∧ ((x1 ≤ 3) ∧ ((0 ≤ x2) ∧ ((x2 ≤ length_0o3) ∧ (x4 = 0))))) ∨ (((x1 ≤ (-1)) ∨ ((4 ≤ x1) ∨ ((x2 ≤ (-1)) ∨ ((length_0o3 + 1) ≤ x2)))) ∧ (x4 = length_0o3))) (f1 : length_0o3 = x5) (hK_3_0 : ∀ j : Int, 0 ≤ j → j < 2000 → (-128) ≤ tape_0o3 j ∧ tape_0o3 j ≤ 127) (kz_3_1 : 0 ≤ length_0o3 ∧ length_0o3 ≤ 2000) (kz_3_2 : (-1) ≤ fault_0o3 ∧ fault_0o3 ≤ 5) (kz_3_3 : (-1) ≤ faultPlace_0o3 ∧ faultPlace_0o3 ≤ 2000) : RDY (fault_0o3) (faultPlace_0o3) (tape_0o3) (x1) (x2) (x5) (x7) := by
  exact rdc_2 (by omega) (by omega)
def o_Ho_read_1 : or_T := (24, 8, [(1, (0, 4, 2147483647, [])), (2, (0, -2147483648, 2147483647, [])), (3, (2, 0, 0, [8])), (4, (0, 0, 2000, [])), (5, (0, 0, 2000, [])), (7, (0, -2, -2, []))], [(20, [1, 2, 3, 4], [50, 1, 0, 2001, 3, 39, 2, 6, 0, 2, 0, 0, 1, 0, 2, 6, 0, 2, 1, 0, 0, 3, 2, 6, 0, 2, 0, 0, 1, 1, 2, 7, 0, 2, 1, 1, 2, 2, 1, 1, 2, 1, 3, 0, 0, 2, 35, 3, 6, 0, 2, 1, 0, 0, -1, 3, 6, 0, 2, 0, 4, 1, 0, 3, 6, 0, 2, 1, 1, 0, -1, 0, 7, 4, 3, 2, 2, 1, 0, 1, 1, 1, 1, 2, 1, 3, 2, 2, 1]), (20, [3, 5], [50, 1, 0, 1, 1, 3, 2, 0, 1, 1, 1])], [], [], [(20, [3, 4], [50, 1, 0, 1, 1, 3, 2, 0, 1, 1, 1]), (20, [3, 1, 2, 5, 7], [60, 2, 1, 1110, 2, 3, 0])], [], [])
theorem oo_Ho_read_1 {kA : Nat → ClassId} : or_ok PRD kA GG o_Ho_read_1 := by
  refine or_mk fun A ta ws vs hD hth hl => ?_
  intro t1 k1 t2 k2 t3 r3 t4 k4 t5 k5 t7 k7 f0 f1
  have cr_3_0 := fdq_95 hD hth r3
  have hK_3_0 := elq_33 hD hth cr_3_0
  have kz_3_1 := fdq_96 hD hth r3
  have kz_3_2 := fdq_97 hD hth r3
  have kz_3_3 := fdq_98 hD hth r3
  have nf0 : fc_1 PRD (20, [3, 4], [50, 1, 0, 1, 1, 3, 2, 0, 1, 1, 1]) ws (vs) := ⟨nf_in hl rfl, sgq_790 (vc_Ho_read_1_0 (v_iv (n_v vs 1)) (v_iv (n_v vs 2)) (v_iv (n_v vs 4)) (w_fi ws (n_v vs 3) 1) k1 k2 k4 (shm_2276 f0) kz_3_1)⟩
  have nf1 : fc_1 PRD (20, [3, 1, 2, 5, 7], [60, 2, 1, 1110, 2, 3, 0]) ws (vs) := ⟨nf_in hl rfl, sgq_2277 (vc_Ho_read_1_1 (v_iv (n_v vs 1)) (v_iv (n_v vs 2)) (v_iv (n_v vs 4)) (v_iv (n_v vs 5)) (v_iv (n_v vs 7)) (w_fi ws (n_v vs 3) 1) (w_ei ws (w_ar ws (n_v vs 3) 0)) (w_fi ws (n_v vs 3) 2) (w_fi ws (n_v vs 3) 3) k1 k2 k4 k5 k7 (shm_2276 f0) (shm_790 f1) hK_3_0 kz_3_1 kz_3_2 kz_3_3)⟩
  refine ⟨(fun _ h => (by cases h)), [], trivial, ?_, (fun _ h => (by cases h))⟩
  rw [List.append_nil]
  exact List.forall_mem_cons.mpr ⟨⟨show (20 : Nat) < 100 from by decide, nf0⟩, List.forall_mem_cons.mpr ⟨⟨show (20 : Nat) < 100 from by decide, nf1⟩, (fun _ h => (by cases h))⟩⟩
set_option maxHeartbeats 4000000 in
theorem vc_Ho_read_2_0 (x1 : Int) (x2 : Int) (x4 : Int) (length_0o3 : Int) (k1 : 0 ≤ x1 ∧ x1 ≤ 3) (k2 : (-2147483648) ≤ x2 ∧ x2 ≤ (-1)) (k4 : 0 ≤ x4 ∧ x4 ≤ 2000) (f1 : ((0 ≤ x1) ∧ ((x1 ≤ 3) ∧ ((0 ≤ x2) ∧ ((x2 ≤ length_0o3) ∧ (x4 = 0))))) ∨ (((x1 ≤ (-1)) ∨ ((4 ≤ x1) ∨ ((x2 ≤ (-1)) ∨ ((length_0o3 + 1) ≤ x2)))) ∧ (x4 = length_0o3))) (kz_3_1 : 0 ≤ length_0o3 ∧ length_0o3 ≤ 2000) : length_0o3 = x4 := by
  first
    | omega
  
set_option maxHeartbeats 4000000 in
theorem vc_Ho_read_2_1 (x1 : Int) (x2 : Int) (x4 : Int) (x5 : Int) (x7 : Int) (length_0o3 : Int) (tape_0o3 : Int → Int) (fault_0o3 : Int) (faultPlace_0o3 : Int) (k1 : 0 ≤ x1 ∧ x1 ≤ 3) (k2 : (-2147483648) ≤ x2 ∧ x2 ≤ (-1)) (k4 : 0 ≤ x4 ∧ x4 ≤ 2000) (k5 : 0 ≤ x5 ∧ x5 ≤ 2000) (k7 : (-2) ≤ x7 ∧ x7 ≤ (-2)) (f0 : x2 < 0) (f1 : ((0 ≤ x1) ∧ ((x1 ≤ 3) ∧ ((0 ≤ x2) ∧ ((x2 ≤ length_0o3) ∧ (x4 = 0))))) ∨ (((x1 ≤ (-1)) ∨ ((4 ≤ x1) ∨ ((x2 ≤ (-1)) ∨ ((length_0o3 + 1) ≤ x2)))) ∧ (x4 = length_0o3))) (f2 : length_0o3 = x5) (hK_3_0 : ∀ j : Int, 0 ≤ j → j < 2000 → (-128) ≤ tape_0o3 j ∧ tape_0o3 j ≤ 127) (kz_3_1 : 0 ≤ length_0o3 ∧ length_0o3 ≤ 2000) (kz_3_2 : (-1) ≤ fault_0o3 ∧ fault_0o3 ≤ 5) (kz_3_3 : (-1) ≤ faultPlace_0o3 ∧ faultPlace_0o3 ≤ 2000) : RDY (fault_0o3) (faultPlace_0o3) (tape_0o3) (x1) (x2) (x5) (x7) := by
  exact rdc_2 (by omega) (by omega)
def o_Ho_read_2 : or_T := (24, 8, [(1, (0, 0, 3, [])), (2, (0, -2147483648, -1, [])), (3, (2, 0, 0, [8])), (4, (0, 0, 2000, [])), (5, (0, 0, 2000, [])), (7, (0, -2, -2, []))], [(8, [2], [2]), (20, [1, 2, 3, 4], [50, 1, 0, 2001, 3, 39, 2, 6, 0, 2, 0, 0, 1, 0, 2, 6, 0, 2, 1, 0, 0, 3, 2, 6, 0, 2, 0, 0, 1, 1, 2, 7, 0, 2, 1, 1, 2, 2, 1, 1, 2, 1, 3, 0, 0, 2, 35, 3, 6, 0, 2, 1, 0, 0, -1, 3, 6, 0, 2, 0, 4, 1, 0, 3, 6, 0, 2, 1, 1, 0, -1, 0, 7, 4, 3, 2, 2, 1, 0, 1, 1, 1, 1, 2, 1, 3, 2, 2, 1]), (20, [3, 5], [50, 1, 0, 1, 1, 3, 2, 0, 1, 1, 1])], [], [], [(20, [3, 4], [50, 1, 0, 1, 1, 3, 2, 0, 1, 1, 1]), (20, [3, 1, 2, 5, 7], [60, 2, 1, 1110, 2, 3, 0])], [], [])
theorem oo_Ho_read_2 {kA : Nat → ClassId} : or_ok PRD kA GG o_Ho_read_2 := by
  refine or_mk fun A ta ws vs hD hth hl => ?_
  intro t1 k1 t2 k2 t3 r3 t4 k4 t5 k5 t7 k7 f0 f1 f2
  have cr_3_0 := fdq_95 hD hth r3
  have hK_3_0 := elq_33 hD hth cr_3_0
  have kz_3_1 := fdq_96 hD hth r3
  have kz_3_2 := fdq_97 hD hth r3
  have kz_3_3 := fdq_98 hD hth r3
  have nf0 : fc_1 PRD (20, [3, 4], [50, 1, 0, 1, 1, 3, 2, 0, 1, 1, 1]) ws (vs) := ⟨nf_in hl rfl, sgq_790 (vc_Ho_read_2_0 (v_iv (n_v vs 1)) (v_iv (n_v vs 2)) (v_iv (n_v vs 4)) (w_fi ws (n_v vs 3) 1) k1 k2 k4 (shm_2276 f1) kz_3_1)⟩
  have nf1 : fc_1 PRD (20, [3, 1, 2, 5, 7], [60, 2, 1, 1110, 2, 3, 0]) ws (vs) := ⟨nf_in hl rfl, sgq_2277 (vc_Ho_read_2_1 (v_iv (n_v vs 1)) (v_iv (n_v vs 2)) (v_iv (n_v vs 4)) (v_iv (n_v vs 5)) (v_iv (n_v vs 7)) (w_fi ws (n_v vs 3) 1) (w_ei ws (w_ar ws (n_v vs 3) 0)) (w_fi ws (n_v vs 3) 2) (w_fi ws (n_v vs 3) 3) k1 k2 k4 k5 k7 (shm_39 f0) (shm_2276 f1) (shm_790 f2) hK_3_0 kz_3_1 kz_3_2 kz_3_3)⟩
  refine ⟨(fun _ h => (by cases h)), [], trivial, ?_, (fun _ h => (by cases h))⟩
  rw [List.append_nil]
  exact List.forall_mem_cons.mpr ⟨⟨show (20 : Nat) < 100 from by decide, nf0⟩, List.forall_mem_cons.mpr ⟨⟨show (20 : Nat) < 100 from by decide, nf1⟩, (fun _ h => (by cases h))⟩⟩
set_option maxHeartbeats 4000000 in
theorem vc_Ho_read_3_0 (x1 : Int) (x2 : Int) (x4 : Int) (x7 : Int) (length_0o3 : Int) (k1 : 0 ≤ x1 ∧ x1 ≤ 3) (k2 : 0 ≤ x2 ∧ x2 ≤ 2000) (k4 : 0 ≤ x4 ∧ x4 ≤ 2000) (k7 : 0 ≤ x7 ∧ x7 ≤ 2000) (d0 : x7 + (-4294967296) ≤ x2 ∧ x2 ≤ x7 + 0) (g1 : x7 = length_0o3) (f3 : ((0 ≤ x1) ∧ ((x1 ≤ 3) ∧ ((0 ≤ x2) ∧ ((x2 ≤ length_0o3) ∧ (x4 = 0))))) ∨ (((x1 ≤ (-1)) ∨ ((4 ≤ x1) ∨ ((x2 ≤ (-1)) ∨ ((length_0o3 + 1) ≤ x2)))) ∧ (x4 = length_0o3))) (kz_3_1 : 0 ≤ length_0o3 ∧ length_0o3 ≤ 2000) : 1 * x4 + 0 ≤ 0 := by
  first
    | omega
  
set_option maxHeartbeats 4000000 in
theorem vc_Ho_read_3_1 (x4 : Int) (k4 : 0 ≤ x4 ∧ x4 ≤ 2000) : (-1) * x4 + 0 ≤ 0 := by
  first
    | omega
  
set_option maxHeartbeats 4000000 in
theorem vc_Ho_read_3_2 (x1 : Int) (x2 : Int) (x4 : Int) (x5 : Int) (x7 : Int) (length_0o3 : Int) (k1 : 0 ≤ x1 ∧ x1 ≤ 3) (k2 : 0 ≤ x2 ∧ x2 ≤ 2000) (k4 : 0 ≤ x4 ∧ x4 ≤ 2000) (k5 : 0 ≤ x5 ∧ x5 ≤ 2000) (k7 : 0 ≤ x7 ∧ x7 ≤ 2000) (d0 : x7 + (-4294967296) ≤ x2 ∧ x2 ≤ x7 + 0) (f0 : x2 ≤ x7) (g1 : x7 = length_0o3) (f2 : 0 ≤ x2) (f3 : ((0 ≤ x1) ∧ ((x1 ≤ 3) ∧ ((0 ≤ x2) ∧ ((x2 ≤ length_0o3) ∧ (x4 = 0))))) ∨ (((x1 ≤ (-1)) ∨ ((4 ≤ x1) ∨ ((x2 ≤ (-1)) ∨ ((length_0o3 + 1) ≤ x2)))) ∧ (x4 = length_0o3))) (f4 : length_0o3 = x5) (kz_3_1 : 0 ≤ length_0o3 ∧ length_0o3 ≤ 2000) : (0 ≤ x1) ∧ ((x1 ≤ 3) ∧ ((0 ≤ x2) ∧ (x2 ≤ x5))) := by
  first
    | omega
  
def o_Ho_read_3 : or_T := (25, 8, [(1, (0, 0, 3, [])), (2, (0, 0, 2000, [])), (3, (2, 0, 0, [8])), (4, (0, 0, 2000, [])), (5, (0, 0, 2000, [])), (7, (0, 0, 2000, []))], [(7, [2, 7], [5]), (9, [7, 3], [1]), (8, [2], [3]), (20, [1, 2, 3, 4], [50, 1, 0, 2001, 3, 39, 2, 6, 0, 2, 0, 0, 1, 0, 2, 6, 0, 2, 1, 0, 0, 3, 2, 6, 0, 2, 0, 0, 1, 1, 2, 7, 0, 2, 1, 1, 2, 2, 1, 1, 2, 1, 3, 0, 0, 2, 35, 3, 6, 0, 2, 1, 0, 0, -1, 3, 6, 0, 2, 0, 4, 1, 0, 3, 6, 0, 2, 1, 1, 0, -1, 0, 7, 4, 3, 2, 2, 1, 0, 1, 1, 1, 1, 2, 1, 3, 2, 2, 1]), (20, [3, 5], [50, 1, 0, 1, 1, 3, 2, 0, 1, 1, 1])], [], [], [(23, [4], [0, 1]), (23, [4], [0, -1]), (20, [1, 2, 5], [50, 0, 0, 2, 6, 0, 2, 0, 0, 1, 0, 2, 6, 0, 2, 1, 0, 0, 3, 2, 6, 0, 2, 0, 0, 1, 1, 0, 2, 1, 1, 1, 2])], [], [(2, 7, -4294967296, 0)])
theorem oo_Ho_read_3 {kA : Nat → ClassId} : or_ok PRD kA GG o_Ho_read_3 := by
  refine or_mk fun A ta ws vs hD hth hl => ?_
  intro t1 k1 t2 k2 t3 r3 t4 k4 t5 k5 t7 k7 d0 f0 f1 f2 f3 f4
  replace f1 := shm_215 f1
  have g1 : v_iv (n_v vs 7) = w_fi ws (n_v vs 3) 1 := congrArg v_iv f1
  have kz_3_1 := fdq_96 hD hth r3
  have nf0 : fc_1 PRD (23, [4], [0, 1]) ws (vs) := ⟨nf_in hl rfl, sgq_1540 (vc_Ho_read_3_0 (v_iv (n_v vs 1)) (v_iv (n_v vs 2)) (v_iv (n_v vs 4)) (v_iv (n_v vs 7)) (w_fi ws (n_v vs 3) 1) k1 k2 k4 k7 d0 g1 (shm_2276 f3) kz_3_1)⟩
  have nf1 : fc_1 PRD (23, [4], [0, -1]) ws (vs) := ⟨nf_in hl rfl, sgq_1043 (vc_Ho_read_3_1 (v_iv (n_v vs 4)) k4)⟩
  have nf2 : fc_1 PRD (20, [1, 2, 5], [50, 0, 0, 2, 6, 0, 2, 0, 0, 1, 0, 2, 6, 0, 2, 1, 0, 0, 3, 2, 6, 0, 2, 0, 0, 1, 1, 0, 2, 1, 1, 1, 2]) ws (vs) := ⟨nf_in hl rfl, sgq_2248 (vc_Ho_read_3_2 (v_iv (n_v vs 1)) (v_iv (n_v vs 2)) (v_iv (n_v vs 4)) (v_iv (n_v vs 5)) (v_iv (n_v vs 7)) (w_fi ws (n_v vs 3) 1) k1 k2 k4 k5 k7 d0 (shm_24 f0) g1 (shm_32 f2) (shm_2276 f3) (shm_790 f4) kz_3_1)⟩
  refine ⟨(fun _ h => (by cases h)), [], trivial, ?_, (fun _ h => (by cases h))⟩
  rw [List.append_nil]
  exact List.forall_mem_cons.mpr ⟨⟨show (23 : Nat) < 100 from by decide, nf0⟩, List.forall_mem_cons.mpr ⟨⟨show (23 : Nat) < 100 from by decide, nf1⟩, List.forall_mem_cons.mpr ⟨⟨show (20 : Nat) < 100 from by decide, nf2⟩, (fun _ h => (by cases h))⟩⟩⟩
def o_Ho_read_4 : or_T := (30, 8, [(0, (2, 0, 0, [12]))], [(20, [0], [62, 0])], [], [(2, 0, 0, [12])], [(24, [0, 8], []), (20, [8], [62, 0])], [], [])
theorem oo_Ho_read_4 {kA : Nat → ClassId} : or_ok PRD kA GG o_Ho_read_4 := by
  refine or_mk fun A ta ws vs hD hth hl => ?_
  intro t0 r0 f6
  replace f6 := shm_1176 f6
  have e_0 : n_v (vs ++ [n_v vs 0]) 0 = n_v vs 0 := n_v_old (by rw [hl]; decide)
  have e_8 : n_v (vs ++ [n_v vs 0]) 8 = n_v vs 0 := n_v_new hl
  have nf0 : fc_1 PRD (24, [0, 8], []) ws (vs ++ [n_v vs 0]) := by
    refine ⟨nf_inA hl rfl, sgq_5 ?_⟩
    · show n_v (vs ++ [n_v vs 0]) 0 = n_v (vs ++ [n_v vs 0]) 8
      first | rfl | simp only [e_0, e_8]
  have nf1 : fc_1 PRD (20, [8], [62, 0]) ws (vs ++ [n_v vs 0]) := by
    refine ⟨nf_inA hl rfl, sgq_1176 ?_⟩
    · show WQF 0 [n_v (vs ++ [n_v vs 0]) 8] ws
      rw [e_8]
      have zw := f6
      exact zw
  exact ⟨(fun _ h => (by cases h)), [n_v vs 0], ag_one t0, List.forall_mem_cons.mpr ⟨⟨show (24 : Nat) < 100 from by decide, nf0⟩, List.forall_mem_cons.mpr ⟨⟨show (20 : Nat) < 100 from by decide, nf1⟩, (fun _ h => (by cases h))⟩⟩, (fun _ h => (by cases h))⟩
set_option maxHeartbeats 4000000 in
theorem vc_Ho_read_5_0 (x4 : Int) (x11 : Int) (length_0o3 : Int) (near_0o9 : Int → Int) (tail_0o9 : Int → Int) (head_0o9 : Int → Int) (nodes_0o9 : Int) (edges_0o9 : Int) (tape_0o3 : Int → Int) (end_0o3 : Int) (fault_0o3 : Int) (faultPlace_0o3 : Int) (near_1o9 : Int → Int) (tail_1o9 : Int → Int) (head_1o9 : Int → Int) (nodes_1o9 : Int) (edges_1o9 : Int) (tape_1o3 : Int → Int) (end_1o3 : Int) (fault_1o3 : Int) (faultPlace_1o3 : Int) (k4 : 0 ≤ x4 ∧ x4 ≤ 2000) (k11 : 0 ≤ x11 ∧ x11 ≤ 0) (g0 : x11 = length_0o3) (f2 : 1 * x4 + 0 ≤ 0) (fe_3_2_1 : fault_0o3 = fault_1o3) (fe_3_3_1 : faultPlace_0o3 = faultPlace_1o3) (fe_3_5_1 : end_0o3 = end_1o3) (fe_9_0_1 : nodes_0o9 = nodes_1o9) (fe_9_1_1 : edges_0o9 = edges_1o9) (hE_3_0_1 : ∀ j : Int, tape_0o3 j = tape_1o3 j) (hE_9_7_1 : ∀ j : Int, tail_0o9 j = tail_1o9 j) (hE_9_8_1 : ∀ j : Int, head_0o9 j = head_1o9 j) (hE_9_14_1 : ∀ j : Int, near_0o9 j = near_1o9 j) (kz_3_1 : 0 ≤ length_0o3 ∧ length_0o3 ≤ 2000) (kz_3_2 : (-1) ≤ fault_0o3 ∧ fault_0o3 ≤ 5) (kz_3_3 : (-1) ≤ faultPlace_0o3 ∧ faultPlace_0o3 ≤ 2000) (kz_3_5 : 0 ≤ end_0o3 ∧ end_0o3 ≤ 2000) (kz_9_0 : 0 ≤ nodes_0o9 ∧ nodes_0o9 ≤ 24) (kz_9_1 : 0 ≤ edges_0o9 ∧ edges_0o9 ≤ 48) : length_0o3 = x4 := by
  subst fe_3_2_1
  subst fe_3_3_1
  subst fe_3_5_1
  subst fe_9_0_1
  subst fe_9_1_1
  have e_hE_3_0_1 := funext hE_3_0_1; subst e_hE_3_0_1
  have e_hE_9_7_1 := funext hE_9_7_1; subst e_hE_9_7_1
  have e_hE_9_8_1 := funext hE_9_8_1; subst e_hE_9_8_1
  have e_hE_9_14_1 := funext hE_9_14_1; subst e_hE_9_14_1
  first
    | omega
  
def o_Ho_read_5 : or_T := (42, 12, [(3, (2, 0, 0, [8])), (4, (0, 0, 2000, [])), (9, (2, 0, 0, [164])), (11, (0, 0, 0, []))], [(9, [11, 3], [1]), (23, [4], [0, 1]), (101, [3, 11], [1])], [], [], [(20, [3, 4], [50, 1, 0, 1, 1, 3, 2, 0, 1, 1, 1])], [], [])
theorem oo_Ho_read_5 {kA : Nat → ClassId} : or_ok PRD kA GG o_Ho_read_5 := by
  refine or_mk fun A ta ws vs hD hth hl => ?_
  intro t3 r3 t4 k4 t9 r9 t11 k11 f0 f2 ta1 w1 le1 s1
  replace f0 := shm_215 f0
  have s1 : (∀ b j, w_el ws b j = w_el w1 b j) ∧ ∀ b j, w_fd ws b j = if b = v_ad (n_v vs 3) ∧ j = 1 then n_v vs 11 else w_fd w1 b j := s1.2
  have g0 : v_iv (n_v vs 11) = w_fi ws (n_v vs 3) 1 := congrArg v_iv f0
  have fe_3_2_1 : w_fi ws (n_v vs 3) 2 = w_fi w1 (n_v vs 3) 2 := by show v_iv (w_fd _ _ _) = v_iv (w_fd _ _ _); rw [s1.2, if_neg (fun e => absurd e.2 (by decide))]
  have fe_3_3_1 : w_fi ws (n_v vs 3) 3 = w_fi w1 (n_v vs 3) 3 := by show v_iv (w_fd _ _ _) = v_iv (w_fd _ _ _); rw [s1.2, if_neg (fun e => absurd e.2 (by decide))]
  have fe_3_5_1 : w_fi ws (n_v vs 3) 5 = w_fi w1 (n_v vs 3) 5 := by show v_iv (w_fd _ _ _) = v_iv (w_fd _ _ _); rw [s1.2, if_neg (fun e => absurd e.2 (by decide))]
  have fe_9_0_1 : w_fi ws (n_v vs 9) 0 = w_fi w1 (n_v vs 9) 0 := by show v_iv (w_fd _ _ _) = v_iv (w_fd _ _ _); rw [s1.2, if_neg (fun e => absurd e.2 (by decide))]
  have fe_9_1_1 : w_fi ws (n_v vs 9) 1 = w_fi w1 (n_v vs 9) 1 := by show v_iv (w_fd _ _ _) = v_iv (w_fd _ _ _); rw [s1.2, if_neg (fun e => by have e1 := e.1; have e2 := r9; rw [e1, r3] at e2; exact absurd (Option.some.inj e2) (by decide))]
  have hE_3_0_1 : ∀ j : Int, w_ei ws (w_ar ws (n_v vs 3) 0) j = w_ei w1 (w_ar ws (n_v vs 3) 0) j := fun j => s1.1 _ _
  have hE_9_7_1 : ∀ j : Int, w_ei ws (w_ar ws (n_v vs 9) 7) j = w_ei w1 (w_ar ws (n_v vs 9) 7) j := fun j => s1.1 _ _
  have hE_9_8_1 : ∀ j : Int, w_ei ws (w_ar ws (n_v vs 9) 8) j = w_ei w1 (w_ar ws (n_v vs 9) 8) j := fun j => s1.1 _ _
  have hE_9_14_1 : ∀ j : Int, w_ei ws (w_ar ws (n_v vs 9) 14) j = w_ei w1 (w_ar ws (n_v vs 9) 14) j := fun j => s1.1 _ _
  have kz_3_1 := fdq_96 hD hth r3
  have kz_3_2 := fdq_97 hD hth r3
  have kz_3_3 := fdq_98 hD hth r3
  have kz_3_5 := fdq_207 hD hth r3
  have kz_9_0 := fdq_73 hD hth r9
  have kz_9_1 := fdq_74 hD hth r9
  have nf0 : fc_1 PRD (20, [3, 4], [50, 1, 0, 1, 1, 3, 2, 0, 1, 1, 1]) ws (vs) := ⟨nf_in hl rfl, sgq_790 (vc_Ho_read_5_0 (v_iv (n_v vs 4)) (v_iv (n_v vs 11)) (w_fi ws (n_v vs 3) 1) (w_ei ws (w_ar ws (n_v vs 9) 14)) (w_ei ws (w_ar ws (n_v vs 9) 7)) (w_ei ws (w_ar ws (n_v vs 9) 8)) (w_fi ws (n_v vs 9) 0) (w_fi ws (n_v vs 9) 1) (w_ei ws (w_ar ws (n_v vs 3) 0)) (w_fi ws (n_v vs 3) 5) (w_fi ws (n_v vs 3) 2) (w_fi ws (n_v vs 3) 3) (w_ei w1 (w_ar ws (n_v vs 9) 14)) (w_ei w1 (w_ar ws (n_v vs 9) 7)) (w_ei w1 (w_ar ws (n_v vs 9) 8)) (w_fi w1 (n_v vs 9) 0) (w_fi w1 (n_v vs 9) 1) (w_ei w1 (w_ar ws (n_v vs 3) 0)) (w_fi w1 (n_v vs 3) 5) (w_fi w1 (n_v vs 3) 2) (w_fi w1 (n_v vs 3) 3) k4 k11 g0 (shm_1540 f2) fe_3_2_1 fe_3_3_1 fe_3_5_1 fe_9_0_1 fe_9_1_1 hE_3_0_1 hE_9_7_1 hE_9_8_1 hE_9_14_1 kz_3_1 kz_3_2 kz_3_3 kz_3_5 kz_9_0 kz_9_1)⟩
  refine ⟨(fun _ h => (by cases h)), [], trivial, ?_, (fun _ h => (by cases h))⟩
  rw [List.append_nil]
  exact List.forall_mem_cons.mpr ⟨⟨show (20 : Nat) < 100 from by decide, nf0⟩, (fun _ h => (by cases h))⟩
def o_Ho_read_6 : or_T := (54, 14, [(0, (2, 0, 0, [12])), (1, (0, 0, 3, [])), (2, (0, 0, 2000, [])), (3, (2, 0, 0, [8])), (4, (0, 0, 2000, [])), (5, (0, 0, 2000, [])), (7, (0, 0, 2000, [])), (8, (2, 0, 0, [12])), (9, (2, 0, 0, [164])), (10, (0, 1, 1, [])), (11, (0, 0, 0, [])), (12, (2, 0, 0, [131])), (13, (2, 0, 0, [3]))], [(9, [11, 3], [1]), (14, [13, 12, 1], []), (9, [12, 0], [0]), (8, [10], [1]), (20, [3, 4], [50, 1, 0, 1, 1, 3, 2, 0, 1, 1, 1]), (24, [0, 8], []), (23, [4], [0, 1]), (23, [4], [0, -1]), (20, [1, 2, 5], [50, 0, 0, 2, 6, 0, 2, 0, 0, 1, 0, 2, 6, 0, 2, 1, 0, 0, 3, 2, 6, 0, 2, 0, 0, 1, 1, 0, 2, 1, 1, 1, 2]), (20, [0], [62, 0]), (20, [9], [60, 2, 3, 670, 0, 1, 14, 7, 8]), (20, [9], [60, 2, 2, 596, 0, 1, 7, 8]), (20, [3, 9, 2, 10], [60, 4, 1, 1084, 5, 2, 3, 1000, 0]), (101, [3, 11], [1]), (23, [4], [0, 1]), (23, [4], [0, -1]), (20, [1, 2, 5], [50, 0, 0, 2, 6, 0, 2, 0, 0, 1, 0, 2, 6, 0, 2, 1, 0, 0, 3, 2, 6, 0, 2, 0, 0, 1, 1, 0, 2, 1, 1, 1, 2]), (20, [1, 2, 3, 4], [50, 1, 0, 2001, 3, 39, 2, 6, 0, 2, 0, 0, 1, 0, 2, 6, 0, 2, 1, 0, 0, 3, 2, 6, 0, 2, 0, 0, 1, 1, 2, 7, 0, 2, 1, 1, 2, 2, 1, 1, 2, 1, 3, 0, 0, 2, 35, 3, 6, 0, 2, 1, 0, 0, -1, 3, 6, 0, 2, 0, 4, 1, 0, 3, 6, 0, 2, 1, 1, 0, -1, 0, 7, 4, 3, 2, 2, 1, 0, 1, 1, 1, 1, 2, 1, 3, 2, 2, 1]), (20, [3, 5], [50, 1, 0, 1, 1, 3, 2, 0, 1, 1, 1]), (20, [9], [60, 2, 3, 670, 0, 1, 14, 7, 8]), (20, [9], [60, 2, 2, 596, 0, 1, 7, 8]), (20, [3, 9, 2, 10], [60, 4, 1, 1084, 5, 2, 3, 1000, 0]), (102, [8], [11690585850954518683822635009467721794735159902208, 8002, 8003, 8005, 8006, 8007, 8008, 8009, 8011, 164000, 164001, 164002, 164017, 164018]), (23, [4], [0, 1]), (23, [4], [0, -1]), (7, [2, 7], [5]), (8, [2], [3])], [], [], [(20, [0, 1, 13], [62, 71])], [], [(2, 7, -4294967296, 0)])
theorem oo_Ho_read_6 {kA : Nat → ClassId} : or_ok PRD kA GG o_Ho_read_6 := by
  refine or_mk fun A ta ws vs hD hth hl => ?_
  intro t0 r0 t1 k1 t2 k2 t3 r3 t4 k4 t5 k5 t7 k7 t8 r8 t9 r9 t10 k10 t11 k11 t12 r12 t13 r13 d0 f0 f1 f2 f3 f4 f5 f6 f7 f8 f9 f10 f11 f12 ta1 w1 le1 s1 f14 f15 f16 f17 f18 f19 f20 f21 ta2 w2 le2 s2 f23 f24 f25 f26
  replace f0 := shm_215 f0
  replace f1 := shm_793 f1
  replace f2 := shm_163 f2
  replace f3 := shm_142 f3
  replace f4 := shm_790 f4
  replace f5 := shm_5 f5
  replace f6 := shm_1540 f6
  replace f7 := shm_1043 f7
  replace f8 := shm_2248 f8
  replace f9 := shm_1176 f9
  replace f10 := shm_825 f10
  replace f11 := shm_386 f11
  replace f12 := shm_2165 f12
  have s1 : (∀ b j, w_el ws b j = w_el w1 b j) ∧ ∀ b j, w_fd ws b j = if b = v_ad (n_v vs 3) ∧ j = 1 then n_v vs 11 else w_fd w1 b j := s1.2
  replace f14 := shm_1540 f14
  replace f15 := shm_1043 f15
  replace f16 := shm_2248 f16
  replace f17 := shm_2276 f17
  replace f18 := shm_790 f18
  replace f19 := shm_825 f19
  replace f20 := shm_386 f20
  replace f21 := shm_2165 f21
  replace f23 := shm_1540 f23
  replace f24 := shm_1043 f24
  replace f25 := shm_24 f25
  replace f26 := shm_32 f26
  have q8 : n_v vs 8 = n_v vs 0 := f5.symm
  have ar_0_0_1 : w_ar w1 (n_v vs 0) 0 = w_ar ws (n_v vs 0) 0 := by show v_ad (w_fd w1 _ _) = v_ad (w_fd ws _ _); rw [s1.2, if_neg (fun e => absurd e.2 (by decide))]
  have cr_0_0 := fdq_311 hD hth r0
  have ar_3_0_1 : w_ar w1 (n_v vs 3) 0 = w_ar ws (n_v vs 3) 0 := by show v_ad (w_fd w1 _ _) = v_ad (w_fd ws _ _); rw [s1.2, if_neg (fun e => absurd e.2 (by decide))]
  have cr_3_0 := fdq_95 hD hth r3
  have ar_9_7_1 : w_ar w1 (n_v vs 9) 7 = w_ar ws (n_v vs 9) 7 := by show v_ad (w_fd w1 _ _) = v_ad (w_fd ws _ _); rw [s1.2, if_neg (fun e => absurd e.2 (by decide))]
  have cr_9_7 := fdq_70 hD hth r9
  have ar_9_8_1 : w_ar w1 (n_v vs 9) 8 = w_ar ws (n_v vs 9) 8 := by show v_ad (w_fd w1 _ _) = v_ad (w_fd ws _ _); rw [s1.2, if_neg (fun e => absurd e.2 (by decide))]
  have cr_9_8 := fdq_71 hD hth r9
  have ar_9_14_1 : w_ar w1 (n_v vs 9) 14 = w_ar ws (n_v vs 9) 14 := by show v_ad (w_fd w1 _ _) = v_ad (w_fd ws _ _); rw [s1.2, if_neg (fun e => absurd e.2 (by decide))]
  have cr_9_14 := fdq_72 hD hth r9
  have ad_12 : v_ad (n_v vs 12) = w_ar ws (n_v vs 0) 0 := congrArg v_ad f2
  have g0 : v_iv (n_v vs 11) = w_fi ws (n_v vs 3) 1 := congrArg v_iv f0
  simp only [ar_9_7_1, ar_9_8_1, ar_9_14_1, ar_3_0_1] at f19 f20 f21
  have fe_3_1_1 : w_fi ws (n_v vs 3) 1 = v_iv (n_v vs 11) := by show v_iv (w_fd _ _ _) = _; rw [s1.2, if_pos ⟨rfl, rfl⟩]
  have fe_3_2_1 : w_fi ws (n_v vs 3) 2 = w_fi w1 (n_v vs 3) 2 := by show v_iv (w_fd _ _ _) = v_iv (w_fd _ _ _); rw [s1.2, if_neg (fun e => absurd e.2 (by decide))]
  have fe_3_3_1 : w_fi ws (n_v vs 3) 3 = w_fi w1 (n_v vs 3) 3 := by show v_iv (w_fd _ _ _) = v_iv (w_fd _ _ _); rw [s1.2, if_neg (fun e => absurd e.2 (by decide))]
  have fe_3_5_1 : w_fi ws (n_v vs 3) 5 = w_fi w1 (n_v vs 3) 5 := by show v_iv (w_fd _ _ _) = v_iv (w_fd _ _ _); rw [s1.2, if_neg (fun e => absurd e.2 (by decide))]
  have fe_9_0_1 : w_fi ws (n_v vs 9) 0 = w_fi w1 (n_v vs 9) 0 := by show v_iv (w_fd _ _ _) = v_iv (w_fd _ _ _); rw [s1.2, if_neg (fun e => absurd e.2 (by decide))]
  have fe_9_1_1 : w_fi ws (n_v vs 9) 1 = w_fi w1 (n_v vs 9) 1 := by show v_iv (w_fd _ _ _) = v_iv (w_fd _ _ _); rw [s1.2, if_neg (fun e => by have e1 := e.1; have e2 := r9; rw [e1, r3] at e2; exact absurd (Option.some.inj e2) (by decide))]
  have hE_0_0_1 : ∀ j : Int, w_ei ws (w_ar ws (n_v vs 0) 0) j = w_ei w1 (w_ar ws (n_v vs 0) 0) j := fun j => s1.1 _ _
  have hE_3_0_1 : ∀ j : Int, w_ei ws (w_ar ws (n_v vs 3) 0) j = w_ei w1 (w_ar ws (n_v vs 3) 0) j := fun j => s1.1 _ _
  have hK_3_0 := elq_33 hD hth cr_3_0
  have hE_9_7_1 : ∀ j : Int, w_ei ws (w_ar ws (n_v vs 9) 7) j = w_ei w1 (w_ar ws (n_v vs 9) 7) j := fun j => s1.1 _ _
  have hK_9_7 := elq_35 hD hth cr_9_7
  have hE_9_8_1 : ∀ j : Int, w_ei ws (w_ar ws (n_v vs 9) 8) j = w_ei w1 (w_ar ws (n_v vs 9) 8) j := fun j => s1.1 _ _
  have hK_9_8 := elq_36 hD hth cr_9_8
  have hE_9_14_1 : ∀ j : Int, w_ei ws (w_ar ws (n_v vs 9) 14) j = w_ei w1 (w_ar ws (n_v vs 9) 14) j := fun j => s1.1 _ _
  have hK_9_14 := elq_37 hD hth cr_9_14
  have kz_3_1 := fdq_96 hD hth r3
  have kz_3_2 := fdq_97 hD hth r3
  have kz_3_3 := fdq_98 hD hth r3
  have kz_3_5 := fdq_207 hD hth r3
  have kz_9_0 := fdq_73 hD hth r9
  have kz_9_1 := fdq_74 hD hth r9
  have nf0 : fc_1 PRD (20, [0, 1, 13], [62, 71]) ws (vs) := by
    refine ⟨nf_in hl rfl, sgq_1819 ?_⟩
    · show WQF 71 [n_v vs 0, n_v vs 1, n_v vs 13] ws
      have zw := f9
      exact wq_in (zw) (by omega) (by omega) ⟨rfl, rfl⟩ ⟨Or.inr (pO_of f2 f1), trivial⟩
  refine ⟨(fun _ h => (by cases h)), [], trivial, ?_, (fun _ h => (by cases h))⟩
  rw [List.append_nil]
  exact List.forall_mem_cons.mpr ⟨⟨show (20 : Nat) < 100 from by decide, nf0⟩, (fun _ h => (by cases h))⟩
set_option maxHeartbeats 4000000 in
theorem vc_Ho_read_7_1 (x1 : Int) (near_0o9 : Int → Int) (tail_0o9 : Int → Int) (head_0o9 : Int → Int) (nodes_0o9 : Int) (edges_0o9 : Int) (tape_0o3 : Int → Int) (end_0o3 : Int) (fault_0o3 : Int) (faultPlace_0o3 : Int) (near_1o9 : Int → Int) (tail_1o9 : Int → Int) (head_1o9 : Int → Int) (nodes_1o9 : Int) (edges_1o9 : Int) (tape_1o3 : Int → Int) (end_1o3 : Int) (fault_1o3 : Int) (faultPlace_1o3 : Int) (gy : Int) (k1 : 0 ≤ x1 ∧ x1 ≤ 3) (fe_3_2_1 : fault_0o3 = fault_1o3) (fe_3_3_1 : faultPlace_0o3 = faultPlace_1o3) (fe_3_5_1 : end_0o3 = end_1o3) (fe_9_0_1 : nodes_0o9 = nodes_1o9) (fe_9_1_1 : edges_0o9 = edges_1o9) (hE_3_0_1 : ∀ j : Int, tape_0o3 j = tape_1o3 j) (hE_9_7_1 : ∀ j : Int, tail_0o9 j = tail_1o9 j) (hE_9_8_1 : ∀ j : Int, head_0o9 j = head_1o9 j) (hE_9_14_1 : ∀ j : Int, near_0o9 j = near_1o9 j) (kz_3_2 : (-1) ≤ fault_0o3 ∧ fault_0o3 ≤ 5) (kz_3_3 : (-1) ≤ faultPlace_0o3 ∧ faultPlace_0o3 ≤ 2000) (kz_3_5 : 0 ≤ end_0o3 ∧ end_0o3 ≤ 2000) (kz_9_0 : 0 ≤ nodes_0o9 ∧ nodes_0o9 ≤ 24) (kz_9_1 : 0 ≤ edges_0o9 ∧ edges_0o9 ≤ 48) (ey2 : gy = x1) : 1 * gy + ((-1) * x1 + 0) ≤ 0 := by
  subst fe_3_2_1
  subst fe_3_3_1
  subst fe_3_5_1
  subst fe_9_0_1
  subst fe_9_1_1
  have e_hE_3_0_1 := funext hE_3_0_1; subst e_hE_3_0_1
  have e_hE_9_7_1 := funext hE_9_7_1; subst e_hE_9_7_1
  have e_hE_9_8_1 := funext hE_9_8_1; subst e_hE_9_8_1
  have e_hE_9_14_1 := funext hE_9_14_1; subst e_hE_9_14_1
  first
    | omega
  
set_option maxHeartbeats 4000000 in
theorem vc_Ho_read_7_2 (x1 : Int) (x2 : Int) (x4 : Int) (x5 : Int) (x7 : Int) (x10 : Int) (x11 : Int) (length_0o3 : Int) (near_0o9 : Int → Int) (tail_0o9 : Int → Int) (head_0o9 : Int → Int) (nodes_0o9 : Int) (edges_0o9 : Int) (tape_0o3 : Int → Int) (end_0o3 : Int) (fault_0o3 : Int) (faultPlace_0o3 : Int) (length_1o3 : Int) (near_1o9 : Int → Int) (tail_1o9 : Int → Int) (head_1o9 : Int → Int) (nodes_1o9 : Int) (edges_1o9 : Int) (tape_1o3 : Int → Int) (end_1o3 : Int) (fault_1o3 : Int) (faultPlace_1o3 : Int) (gy : Int) (k1 : 0 ≤ x1 ∧ x1 ≤ 3) (k2 : 0 ≤ x2 ∧ x2 ≤ 2000) (k4 : 0 ≤ x4 ∧ x4 ≤ 2000) (k5 : 0 ≤ x5 ∧ x5 ≤ 2000) (k7 : 0 ≤ x7 ∧ x7 ≤ 2000) (k10 : 1 ≤ x10 ∧ x10 ≤ 1) (k11 : 0 ≤ x11 ∧ x11 ≤ 0) (d0 : x7 + (-4294967296) ≤ x2 ∧ x2 ≤ x7 + 0) (g0 : x11 = length_0o3) (f2 : x10 ≠ 0) (f3 : length_0o3 = x4) (f5 : 1 * x4 + 0 ≤ 0) (f6 : (-1) * x4 + 0 ≤ 0) (f7 : (0 ≤ x1) ∧ ((x1 ≤ 3) ∧ ((0 ≤ x2) ∧ (x2 ≤ x5)))) (f8 : GNB (nodes_0o9) (edges_0o9) (near_0o9) (tail_0o9) (head_0o9)) (f9 : GKE (nodes_0o9) (edges_0o9) (tail_0o9) (head_0o9)) (f10 : CRG (end_0o3) (fault_0o3) (faultPlace_0o3) (nodes_0o9) (tape_0o3) (x2) (x10)) (f12 : 1 * x4 + 0 ≤ 0) (f13 : (-1) * x4 + 0 ≤ 0) (f14 : (0 ≤ x1) ∧ ((x1 ≤ 3) ∧ ((0 ≤ x2) ∧ (x2 ≤ x5)))) (f15 : ((0 ≤ x1) ∧ ((x1 ≤ 3) ∧ ((0 ≤ x2) ∧ ((x2 ≤ length_1o3) ∧ (x4 = 0))))) ∨ (((x1 ≤ (-1)) ∨ ((4 ≤ x1) ∨ ((x2 ≤ (-1)) ∨ ((length_1o3 + 1) ≤ x2)))) ∧ (x4 = length_1o3))) (f16 : length_1o3 = x5) (f17 : GNB (nodes_1o9) (edges_1o9) (near_1o9) (tail_1o9) (head_1o9)) (f18 : GKE (nodes_1o9) (edges_1o9) (tail_1o9) (head_1o9)) (f19 : CRG (end_1o3) (fault_1o3) (faultPlace_1o3) (nodes_1o9) (tape_1o3) (x2) (x10)) (f21 : 1 * x4 + 0 ≤ 0) (f22 : (-1) * x4 + 0 ≤ 0) (f23 : x2 ≤ x7) (f24 : 0 ≤ x2) (fe_3_1_1 : length_0o3 = x11) (fe_3_2_1 : fault_0o3 = fault_1o3) (fe_3_3_1 : faultPlace_0o3 = faultPlace_1o3) (fe_3_5_1 : end_0o3 = end_1o3) (fe_9_0_1 : nodes_0o9 = nodes_1o9) (fe_9_1_1 : edges_0o9 = edges_1o9) (hE_3_0_1 : ∀ j : Int, tape_0o3 j = tape_1o3 j) (hK_3_0 : ∀ j : Int, 0 ≤ j → j < 2000 → (-128) ≤ tape_0o3 j ∧ tape_0o3 j ≤ 127) (hE_9_7_1 : ∀ j : Int, tail_0o9 j = tail_1o9 j) (hK_9_7 : ∀ j : Int, 0 ≤ j → j < 48 → 0 ≤ tail_0o9 j ∧ tail_0o9 j ≤ 23) (hE_9_8_1 : ∀ j : Int, head_0o9 j = head_1o9 j) (hK_9_8 : ∀ j : Int, 0 ≤ j → j < 48 → 0 ≤ head_0o9 j ∧ head_0o9 j ≤ 23) (hE_9_14_1 : ∀ j : Int, near_0o9 j = near_1o9 j) (hK_9_14 : ∀ j : Int, 0 ≤ j → j < 24 → 0 ≤ near_0o9 j ∧ near_0o9 j ≤ 16777215) (kz_3_1 : 0 ≤ length_0o3 ∧ length_0o3 ≤ 2000) (kz_3_2 : (-1) ≤ fault_0o3 ∧ fault_0o3 ≤ 5) (kz_3_3 : (-1) ≤ faultPlace_0o3 ∧ faultPlace_0o3 ≤ 2000) (kz_3_5 : 0 ≤ end_0o3 ∧ end_0o3 ≤ 2000) (kz_9_0 : 0 ≤ nodes_0o9 ∧ nodes_0o9 ≤ 24) (kz_9_1 : 0 ≤ edges_0o9 ∧ edges_0o9 ≤ 48) (ey2 : gy = x1) (ey3 : 0 ≤ gy ∧ gy ≤ 3) : (-1) * gy + (1 * x1 + 0) ≤ 0 := by
  subst fe_3_2_1
  subst fe_3_3_1
  subst fe_3_5_1
  subst fe_9_0_1
  subst fe_9_1_1
  have e_hE_3_0_1 := funext hE_3_0_1; subst e_hE_3_0_1
  have e_hE_9_7_1 := funext hE_9_7_1; subst e_hE_9_7_1
  have e_hE_9_8_1 := funext hE_9_8_1; subst e_hE_9_8_1
  have e_hE_9_14_1 := funext hE_9_14_1; subst e_hE_9_14_1
  first
    | omega
  
set_option maxHeartbeats 4000000 in
theorem vc_Ho_read_7_4 (x1 : Int) (x2 : Int) (x4 : Int) (x5 : Int) (x7 : Int) (x10 : Int) (x11 : Int) (length_0o3 : Int) (near_0o9 : Int → Int) (tail_0o9 : Int → Int) (head_0o9 : Int → Int) (nodes_0o9 : Int) (edges_0o9 : Int) (tape_0o3 : Int → Int) (end_0o3 : Int) (fault_0o3 : Int) (faultPlace_0o3 : Int) (length_1o3 : Int) (near_1o9 : Int → Int) (tail_1o9 : Int → Int) (head_1o9 : Int → Int) (nodes_1o9 : Int) (edges_1o9 : Int) (tape_1o3 : Int → Int) (end_1o3 : Int) (fault_1o3 : Int) (faultPlace_1o3 : Int) (gy : Int) (k1 : 0 ≤ x1 ∧ x1 ≤ 3) (k2 : 0 ≤ x2 ∧ x2 ≤ 2000) (k4 : 0 ≤ x4 ∧ x4 ≤ 2000) (k5 : 0 ≤ x5 ∧ x5 ≤ 2000) (k7 : 0 ≤ x7 ∧ x7 ≤ 2000) (k10 : 1 ≤ x10 ∧ x10 ≤ 1) (k11 : 0 ≤ x11 ∧ x11 ≤ 0) (d0 : x7 + (-4294967296) ≤ x2 ∧ x2 ≤ x7 + 0) (g0 : x11 = length_0o3) (f2 : x10 ≠ 0) (f3 : length_0o3 = x4) (f5 : 1 * x4 + 0 ≤ 0) (f6 : (-1) * x4 + 0 ≤ 0) (f7 : (0 ≤ x1) ∧ ((x1 ≤ 3) ∧ ((0 ≤ x2) ∧ (x2 ≤ x5)))) (f8 : GNB (nodes_0o9) (edges_0o9) (near_0o9) (tail_0o9) (head_0o9)) (f9 : GKE (nodes_0o9) (edges_0o9) (tail_0o9) (head_0o9)) (f10 : CRG (end_0o3) (fault_0o3) (faultPlace_0o3) (nodes_0o9) (tape_0o3) (x2) (x10)) (f12 : 1 * x4 + 0 ≤ 0) (f13 : (-1) * x4 + 0 ≤ 0) (f14 : (0 ≤ x1) ∧ ((x1 ≤ 3) ∧ ((0 ≤ x2) ∧ (x2 ≤ x5)))) (f15 : ((0 ≤ x1) ∧ ((x1 ≤ 3) ∧ ((0 ≤ x2) ∧ ((x2 ≤ length_1o3) ∧ (x4 = 0))))) ∨ (((x1 ≤ (-1)) ∨ ((4 ≤ x1) ∨ ((x2 ≤ (-1)) ∨ ((length_1o3 + 1) ≤ x2)))) ∧ (x4 = length_1o3))) (f16 : length_1o3 = x5) (f17 : GNB (nodes_1o9) (edges_1o9) (near_1o9) (tail_1o9) (head_1o9)) (f18 : GKE (nodes_1o9) (edges_1o9) (tail_1o9) (head_1o9)) (f19 : CRG (end_1o3) (fault_1o3) (faultPlace_1o3) (nodes_1o9) (tape_1o3) (x2) (x10)) (f21 : 1 * x4 + 0 ≤ 0) (f22 : (-1) * x4 + 0 ≤ 0) (f23 : x2 ≤ x7) (f24 : 0 ≤ x2) (fe_3_1_1 : length_0o3 = x11) (fe_3_2_1 : fault_0o3 = fault_1o3) (fe_3_3_1 : faultPlace_0o3 = faultPlace_1o3) (fe_3_5_1 : end_0o3 = end_1o3) (fe_9_0_1 : nodes_0o9 = nodes_1o9) (fe_9_1_1 : edges_0o9 = edges_1o9) (hE_3_0_1 : ∀ j : Int, tape_0o3 j = tape_1o3 j) (hK_3_0 : ∀ j : Int, 0 ≤ j → j < 2000 → (-128) ≤ tape_0o3 j ∧ tape_0o3 j ≤ 127) (hE_9_7_1 : ∀ j : Int, tail_0o9 j = tail_1o9 j) (hK_9_7 : ∀ j : Int, 0 ≤ j → j < 48 → 0 ≤ tail_0o9 j ∧ tail_0o9 j ≤ 23) (hE_9_8_1 : ∀ j : Int, head_0o9 j = head_1o9 j) (hK_9_8 : ∀ j : Int, 0 ≤ j → j < 48 → 0 ≤ head_0o9 j ∧ head_0o9 j ≤ 23) (hE_9_14_1 : ∀ j : Int, near_0o9 j = near_1o9 j) (hK_9_14 : ∀ j : Int, 0 ≤ j → j < 24 → 0 ≤ near_0o9 j ∧ near_0o9 j ≤ 16777215) (kz_3_1 : 0 ≤ length_0o3 ∧ length_0o3 ≤ 2000) (kz_3_2 : (-1) ≤ fault_0o3 ∧ fault_0o3 ≤ 5) (kz_3_3 : (-1) ≤ faultPlace_0o3 ∧ faultPlace_0o3 ≤ 2000) (kz_3_5 : 0 ≤ end_0o3 ∧ end_0o3 ≤ 2000) (kz_9_0 : 0 ≤ nodes_0o9 ∧ nodes_0o9 ≤ 24) (kz_9_1 : 0 ≤ edges_0o9 ∧ edges_0o9 ≤ 48) (ey2 : gy = x1) (ey3 : 0 ≤ gy ∧ gy ≤ 3) : GKE (nodes_0o9) (edges_0o9) (tail_0o9) (head_0o9) := by
  subst fe_3_2_1
  subst fe_3_3_1
  subst fe_3_5_1
  subst fe_9_0_1
  subst fe_9_1_1
  have e_hE_3_0_1 := funext hE_3_0_1; subst e_hE_3_0_1
  have e_hE_9_7_1 := funext hE_9_7_1; subst e_hE_9_7_1
  have e_hE_9_8_1 := funext hE_9_8_1; subst e_hE_9_8_1
  have e_hE_9_14_1 := funext hE_9_14_1; subst e_hE_9_14_1
  first
    | assumption
  
def o_Ho_read_7 : or_T := (61, 14, [(0, (2, 0, 0, [12])), (1, (0, 0, 3, [])), (2, (0, 0, 2000, [])), (3, (2, 0, 0, [8])), (4, (0, 0, 2000, [])), (5, (0, 0, 2000, [])), (7, (0, 0, 2000, [])), (9, (2, 0, 0, [164])), (10, (0, 1, 1, [])), (11, (0, 0, 0, []))], [(9, [11, 3], [1]), (20, [0, 1, 13], [62, 71]), (8, [10], [1]), (20, [3, 4], [50, 1, 0, 1, 1, 3, 2, 0, 1, 1, 1]), (24, [0, 8], []), (23, [4], [0, 1]), (23, [4], [0, -1]), (20, [1, 2, 5], [50, 0, 0, 2, 6, 0, 2, 0, 0, 1, 0, 2, 6, 0, 2, 1, 0, 0, 3, 2, 6, 0, 2, 0, 0, 1, 1, 0, 2, 1, 1, 1, 2]), (20, [9], [60, 2, 3, 670, 0, 1, 14, 7, 8]), (20, [9], [60, 2, 2, 596, 0, 1, 7, 8]), (20, [3, 9, 2, 10], [60, 4, 1, 1084, 5, 2, 3, 1000, 0]), (101, [3, 11], [1]), (23, [4], [0, 1]), (23, [4], [0, -1]), (20, [1, 2, 5], [50, 0, 0, 2, 6, 0, 2, 0, 0, 1, 0, 2, 6, 0, 2, 1, 0, 0, 3, 2, 6, 0, 2, 0, 0, 1, 1, 0, 2, 1, 1, 1, 2]), (20, [1, 2, 3, 4], [50, 1, 0, 2001, 3, 39, 2, 6, 0, 2, 0, 0, 1, 0, 2, 6, 0, 2, 1, 0, 0, 3, 2, 6, 0, 2, 0, 0, 1, 1, 2, 7, 0, 2, 1, 1, 2, 2, 1, 1, 2, 1, 3, 0, 0, 2, 35, 3, 6, 0, 2, 1, 0, 0, -1, 3, 6, 0, 2, 0, 4, 1, 0, 3, 6, 0, 2, 1, 1, 0, -1, 0, 7, 4, 3, 2, 2, 1, 0, 1, 1, 1, 1, 2, 1, 3, 2, 2, 1]), (20, [3, 5], [50, 1, 0, 1, 1, 3, 2, 0, 1, 1, 1]), (20, [9], [60, 2, 3, 670, 0, 1, 14, 7, 8]), (20, [9], [60, 2, 2, 596, 0, 1, 7, 8]), (20, [3, 9, 2, 10], [60, 4, 1, 1084, 5, 2, 3, 1000, 0]), (102, [8], [11690585850954518683822635009467721794735159902208, 8002, 8003, 8005, 8006, 8007, 8008, 8009, 8011, 164000, 164001, 164002, 164017, 164018]), (23, [4], [0, 1]), (23, [4], [0, -1]), (7, [2, 7], [5]), (8, [2], [3])], [], [(2, 0, 0, [12]), (0, 0, 3, [])], [(24, [0, 14], []), (23, [15, 1], [0, 1, -1]), (23, [15, 1], [0, -1, 1]), (20, [14, 15, 13], [62, 71]), (20, [9], [60, 2, 2, 596, 0, 1, 7, 8])], [], [(2, 7, -4294967296, 0)])
theorem oo_Ho_read_7 {kA : Nat → ClassId} : or_ok PRD kA GG o_Ho_read_7 := by
  refine or_mk fun A ta ws vs hD hth hl => ?_
  intro t0 r0 t1 k1 t2 k2 t3 r3 t4 k4 t5 k5 t7 k7 t9 r9 t10 k10 t11 k11 d0 f0 f1 f2 f3 f4 f5 f6 f7 f8 f9 f10 ta1 w1 le1 s1 f12 f13 f14 f15 f16 f17 f18 f19 ta2 w2 le2 s2 f21 f22 f23 f24
  replace f0 := shm_215 f0
  replace f1 := shm_1819 f1
  replace f2 := shm_142 f2
  replace f3 := shm_790 f3
  replace f4 := shm_5 f4
  replace f5 := shm_1540 f5
  replace f6 := shm_1043 f6
  replace f7 := shm_2248 f7
  replace f8 := shm_825 f8
  replace f9 := shm_386 f9
  replace f10 := shm_2165 f10
  have s1 : (∀ b j, w_el ws b j = w_el w1 b j) ∧ ∀ b j, w_fd ws b j = if b = v_ad (n_v vs 3) ∧ j = 1 then n_v vs 11 else w_fd w1 b j := s1.2
  replace f12 := shm_1540 f12
  replace f13 := shm_1043 f13
  replace f14 := shm_2248 f14
  replace f15 := shm_2276 f15
  replace f16 := shm_790 f16
  replace f17 := shm_825 f17
  replace f18 := shm_386 f18
  replace f19 := shm_2165 f19
  replace f21 := shm_1540 f21
  replace f22 := shm_1043 f22
  replace f23 := shm_24 f23
  replace f24 := shm_32 f24
  have q8 : n_v vs 8 = n_v vs 0 := f4.symm
  have ar_3_0_1 : w_ar w1 (n_v vs 3) 0 = w_ar ws (n_v vs 3) 0 := by show v_ad (w_fd w1 _ _) = v_ad (w_fd ws _ _); rw [s1.2, if_neg (fun e => absurd e.2 (by decide))]
  have cr_3_0 := fdq_95 hD hth r3
  have ar_9_7_1 : w_ar w1 (n_v vs 9) 7 = w_ar ws (n_v vs 9) 7 := by show v_ad (w_fd w1 _ _) = v_ad (w_fd ws _ _); rw [s1.2, if_neg (fun e => absurd e.2 (by decide))]
  have cr_9_7 := fdq_70 hD hth r9
  have ar_9_8_1 : w_ar w1 (n_v vs 9) 8 = w_ar ws (n_v vs 9) 8 := by show v_ad (w_fd w1 _ _) = v_ad (w_fd ws _ _); rw [s1.2, if_neg (fun e => absurd e.2 (by decide))]
  have cr_9_8 := fdq_71 hD hth r9
  have ar_9_14_1 : w_ar w1 (n_v vs 9) 14 = w_ar ws (n_v vs 9) 14 := by show v_ad (w_fd w1 _ _) = v_ad (w_fd ws _ _); rw [s1.2, if_neg (fun e => absurd e.2 (by decide))]
  have cr_9_14 := fdq_72 hD hth r9
  have g0 : v_iv (n_v vs 11) = w_fi ws (n_v vs 3) 1 := congrArg v_iv f0
  simp only [ar_9_7_1, ar_9_8_1, ar_9_14_1, ar_3_0_1] at f17 f18 f19
  have fe_3_1_1 : w_fi ws (n_v vs 3) 1 = v_iv (n_v vs 11) := by show v_iv (w_fd _ _ _) = _; rw [s1.2, if_pos ⟨rfl, rfl⟩]
  have fe_3_2_1 : w_fi ws (n_v vs 3) 2 = w_fi w1 (n_v vs 3) 2 := by show v_iv (w_fd _ _ _) = v_iv (w_fd _ _ _); rw [s1.2, if_neg (fun e => absurd e.2 (by decide))]
  have fe_3_3_1 : w_fi ws (n_v vs 3) 3 = w_fi w1 (n_v vs 3) 3 := by show v_iv (w_fd _ _ _) = v_iv (w_fd _ _ _); rw [s1.2, if_neg (fun e => absurd e.2 (by decide))]
  have fe_3_5_1 : w_fi ws (n_v vs 3) 5 = w_fi w1 (n_v vs 3) 5 := by show v_iv (w_fd _ _ _) = v_iv (w_fd _ _ _); rw [s1.2, if_neg (fun e => absurd e.2 (by decide))]
  have fe_9_0_1 : w_fi ws (n_v vs 9) 0 = w_fi w1 (n_v vs 9) 0 := by show v_iv (w_fd _ _ _) = v_iv (w_fd _ _ _); rw [s1.2, if_neg (fun e => absurd e.2 (by decide))]
  have fe_9_1_1 : w_fi ws (n_v vs 9) 1 = w_fi w1 (n_v vs 9) 1 := by show v_iv (w_fd _ _ _) = v_iv (w_fd _ _ _); rw [s1.2, if_neg (fun e => by have e1 := e.1; have e2 := r9; rw [e1, r3] at e2; exact absurd (Option.some.inj e2) (by decide))]
  have hE_3_0_1 : ∀ j : Int, w_ei ws (w_ar ws (n_v vs 3) 0) j = w_ei w1 (w_ar ws (n_v vs 3) 0) j := fun j => s1.1 _ _
  have hK_3_0 := elq_33 hD hth cr_3_0
  have hE_9_7_1 : ∀ j : Int, w_ei ws (w_ar ws (n_v vs 9) 7) j = w_ei w1 (w_ar ws (n_v vs 9) 7) j := fun j => s1.1 _ _
  have hK_9_7 := elq_35 hD hth cr_9_7
  have hE_9_8_1 : ∀ j : Int, w_ei ws (w_ar ws (n_v vs 9) 8) j = w_ei w1 (w_ar ws (n_v vs 9) 8) j := fun j => s1.1 _ _
  have hK_9_8 := elq_36 hD hth cr_9_8
  have hE_9_14_1 : ∀ j : Int, w_ei ws (w_ar ws (n_v vs 9) 14) j = w_ei w1 (w_ar ws (n_v vs 9) 14) j := fun j => s1.1 _ _
  have hK_9_14 := elq_37 hD hth cr_9_14
  have kz_3_1 := fdq_96 hD hth r3
  have kz_3_2 := fdq_97 hD hth r3
  have kz_3_3 := fdq_98 hD hth r3
  have kz_3_5 := fdq_207 hD hth r3
  have kz_9_0 := fdq_73 hD hth r9
  have kz_9_1 := fdq_74 hD hth r9
  obtain ⟨y, ey, hy⟩ := iv_ex (ta := ta) (lo := 0) (hi := 3) (z := v_iv (n_v vs 1)) (by omega) (by omega) (by omega) (by omega)
  have ey2 : v_iv (Value.int y) = v_iv (n_v vs 1) := ey
  have ey3 : 0 ≤ v_iv (Value.int y) ∧ v_iv (Value.int y) ≤ 3 := tv_rng hy
  have e_0 : n_v (vs ++ [n_v vs 0, Value.int y]) 0 = n_v vs 0 := n_v_old (by rw [hl]; decide)
  have e_1 : n_v (vs ++ [n_v vs 0, Value.int y]) 1 = n_v vs 1 := n_v_old (by rw [hl]; decide)
  have e_9 : n_v (vs ++ [n_v vs 0, Value.int y]) 9 = n_v vs 9 := n_v_old (by rw [hl]; decide)
  have e_13 : n_v (vs ++ [n_v vs 0, Value.int y]) 13 = n_v vs 13 := n_v_old (by rw [hl]; decide)
  have e_14 : n_v (vs ++ [n_v vs 0, Value.int y]) 14 = n_v vs 0 := n_v_new0 hl
  have e_15 : n_v (vs ++ [n_v vs 0, Value.int y]) 15 = Value.int y := n_v_new1 hl
  have nf0 : fc_1 PRD (24, [0, 14], []) ws (vs ++ [n_v vs 0, Value.int y]) := by
    refine ⟨nf_inA hl rfl, sgq_5 ?_⟩
    · show n_v (vs ++ [n_v vs 0, Value.int y]) 0 = n_v (vs ++ [n_v vs 0, Value.int y]) 14
      first | rfl | simp only [e_0, e_14, q8]
  have nf1 : fc_1 PRD (23, [15, 1], [0, 1, -1]) ws (vs ++ [n_v vs 0, Value.int y]) := by
    refine ⟨nf_inA hl rfl, sgq_7 ?_⟩
    · show 1 * v_iv (n_v (vs ++ [n_v vs 0, Value.int y]) 15) + ((-1) * v_iv (n_v (vs ++ [n_v vs 0, Value.int y]) 1) + 0) ≤ 0
      simp only [e_1, e_15]
      exact vc_Ho_read_7_1 (v_iv (n_v vs 1)) (w_ei ws (w_ar ws (n_v vs 9) 14)) (w_ei ws (w_ar ws (n_v vs 9) 7)) (w_ei ws (w_ar ws (n_v vs 9) 8)) (w_fi ws (n_v vs 9) 0) (w_fi ws (n_v vs 9) 1) (w_ei ws (w_ar ws (n_v vs 3) 0)) (w_fi ws (n_v vs 3) 5) (w_fi ws (n_v vs 3) 2) (w_fi ws (n_v vs 3) 3) (w_ei w1 (w_ar ws (n_v vs 9) 14)) (w_ei w1 (w_ar ws (n_v vs 9) 7)) (w_ei w1 (w_ar ws (n_v vs 9) 8)) (w_fi w1 (n_v vs 9) 0) (w_fi w1 (n_v vs 9) 1) (w_ei w1 (w_ar ws (n_v vs 3) 0)) (w_fi w1 (n_v vs 3) 5) (w_fi w1 (n_v vs 3) 2) (w_fi w1 (n_v vs 3) 3) (v_iv (Value.int y)) k1 fe_3_2_1 fe_3_3_1 fe_3_5_1 fe_9_0_1 fe_9_1_1 hE_3_0_1 hE_9_7_1 hE_9_8_1 hE_9_14_1 kz_3_2 kz_3_3 kz_3_5 kz_9_0 kz_9_1 ey2
  have nf2 : fc_1 PRD (23, [15, 1], [0, -1, 1]) ws (vs ++ [n_v vs 0, Value.int y]) := by
    refine ⟨nf_inA hl rfl, sgq_22 ?_⟩
    · show (-1) * v_iv (n_v (vs ++ [n_v vs 0, Value.int y]) 15) + (1 * v_iv (n_v (vs ++ [n_v vs 0, Value.int y]) 1) + 0) ≤ 0
      simp only [e_1, e_15]
      exact vc_Ho_read_7_2 (v_iv (n_v vs 1)) (v_iv (n_v vs 2)) (v_iv (n_v vs 4)) (v_iv (n_v vs 5)) (v_iv (n_v vs 7)) (v_iv (n_v vs 10)) (v_iv (n_v vs 11)) (w_fi ws (n_v vs 3) 1) (w_ei ws (w_ar ws (n_v vs 9) 14)) (w_ei ws (w_ar ws (n_v vs 9) 7)) (w_ei ws (w_ar ws (n_v vs 9) 8)) (w_fi ws (n_v vs 9) 0) (w_fi ws (n_v vs 9) 1) (w_ei ws (w_ar ws (n_v vs 3) 0)) (w_fi ws (n_v vs 3) 5) (w_fi ws (n_v vs 3) 2) (w_fi ws (n_v vs 3) 3) (w_fi w1 (n_v vs 3) 1) (w_ei w1 (w_ar ws (n_v vs 9) 14)) (w_ei w1 (w_ar ws (n_v vs 9) 7)) (w_ei w1 (w_ar ws (n_v vs 9) 8)) (w_fi w1 (n_v vs 9) 0) (w_fi w1 (n_v vs 9) 1) (w_ei w1 (w_ar ws (n_v vs 3) 0)) (w_fi w1 (n_v vs 3) 5) (w_fi w1 (n_v vs 3) 2) (w_fi w1 (n_v vs 3) 3) (v_iv (Value.int y)) k1 k2 k4 k5 k7 k10 k11 d0 g0 f2 f3 f5 f6 f7 f8 f9 f10 f12 f13 f14 f15 f16 f17 f18 f19 f21 f22 f23 f24 fe_3_1_1 fe_3_2_1 fe_3_3_1 fe_3_5_1 fe_9_0_1 fe_9_1_1 hE_3_0_1 hK_3_0 hE_9_7_1 hK_9_7 hE_9_8_1 hK_9_8 hE_9_14_1 hK_9_14 kz_3_1 kz_3_2 kz_3_3 kz_3_5 kz_9_0 kz_9_1 ey2 ey3
  have nf3 : fc_1 PRD (20, [14, 15, 13], [62, 71]) ws (vs ++ [n_v vs 0, Value.int y]) := by
    refine ⟨nf_inA hl rfl, sgq_1819 ?_⟩
    · show WQF 71 [n_v (vs ++ [n_v vs 0, Value.int y]) 14, n_v (vs ++ [n_v vs 0, Value.int y]) 15, n_v (vs ++ [n_v vs 0, Value.int y]) 13] ws
      simp only [e_13, e_14, e_15]
      have zw := f1
      exact WQF_int (zw) ey2
  have nf4 : fc_1 PRD (20, [9], [60, 2, 2, 596, 0, 1, 7, 8]) ws (vs ++ [n_v vs 0, Value.int y]) := by
    refine ⟨nf_inA hl rfl, sgq_386 ?_⟩
    · show GKE (w_fi ws (n_v (vs ++ [n_v vs 0, Value.int y]) 9) 0) (w_fi ws (n_v (vs ++ [n_v vs 0, Value.int y]) 9) 1) (w_ei ws (w_ar ws (n_v (vs ++ [n_v vs 0, Value.int y]) 9) 7)) (w_ei ws (w_ar ws (n_v (vs ++ [n_v vs 0, Value.int y]) 9) 8))
      rw [e_9]
      exact vc_Ho_read_7_4 (v_iv (n_v vs 1)) (v_iv (n_v vs 2)) (v_iv (n_v vs 4)) (v_iv (n_v vs 5)) (v_iv (n_v vs 7)) (v_iv (n_v vs 10)) (v_iv (n_v vs 11)) (w_fi ws (n_v vs 3) 1) (w_ei ws (w_ar ws (n_v vs 9) 14)) (w_ei ws (w_ar ws (n_v vs 9) 7)) (w_ei ws (w_ar ws (n_v vs 9) 8)) (w_fi ws (n_v vs 9) 0) (w_fi ws (n_v vs 9) 1) (w_ei ws (w_ar ws (n_v vs 3) 0)) (w_fi ws (n_v vs 3) 5) (w_fi ws (n_v vs 3) 2) (w_fi ws (n_v vs 3) 3) (w_fi w1 (n_v vs 3) 1) (w_ei w1 (w_ar ws (n_v vs 9) 14)) (w_ei w1 (w_ar ws (n_v vs 9) 7)) (w_ei w1 (w_ar ws (n_v vs 9) 8)) (w_fi w1 (n_v vs 9) 0) (w_fi w1 (n_v vs 9) 1) (w_ei w1 (w_ar ws (n_v vs 3) 0)) (w_fi w1 (n_v vs 3) 5) (w_fi w1 (n_v vs 3) 2) (w_fi w1 (n_v vs 3) 3) (v_iv (Value.int y)) k1 k2 k4 k5 k7 k10 k11 d0 g0 f2 f3 f5 f6 f7 f8 f9 f10 f12 f13 f14 f15 f16 f17 f18 f19 f21 f22 f23 f24 fe_3_1_1 fe_3_2_1 fe_3_3_1 fe_3_5_1 fe_9_0_1 fe_9_1_1 hE_3_0_1 hK_3_0 hE_9_7_1 hK_9_7 hE_9_8_1 hK_9_8 hE_9_14_1 hK_9_14 kz_3_1 kz_3_2 kz_3_3 kz_3_5 kz_9_0 kz_9_1 ey2 ey3
  exact ⟨(fun _ h => (by cases h)), [n_v vs 0, Value.int y], ag_two t0 hy, List.forall_mem_cons.mpr ⟨⟨show (24 : Nat) < 100 from by decide, nf0⟩, List.forall_mem_cons.mpr ⟨⟨show (23 : Nat) < 100 from by decide, nf1⟩, List.forall_mem_cons.mpr ⟨⟨show (23 : Nat) < 100 from by decide, nf2⟩, List.forall_mem_cons.mpr ⟨⟨show (20 : Nat) < 100 from by decide, nf3⟩, List.forall_mem_cons.mpr ⟨⟨show (20 : Nat) < 100 from by decide, nf4⟩, (fun _ h => (by cases h))⟩⟩⟩⟩⟩, (fun _ h => (by cases h))⟩
def o_Ho_read_8 : or_T := (64, 20, [(0, (2, 0, 0, [12]))], [(24, [0, 14], []), (23, [15, 1], [0, 1, -1]), (23, [15, 1], [0, -1, 1]), (20, [14, 15], [62, 1]), (102, [15], [2305561534236983296, 3000, 3001, 3002, 3017, 3018]), (20, [0, 1, 13], [62, 71])], [], [], [(20, [0, 1, 13], [62, 65])], [], [])
theorem oo_Ho_read_8 {kA : Nat → ClassId} : or_ok PRD kA GG o_Ho_read_8 := by
  refine or_mk fun A ta ws vs hD hth hl => ?_
  intro t0 r0 f0 f1 f2 f3 ta1 w1 le1 s1 f5
  replace f0 := shm_5 f0
  replace f1 := shm_7 f1
  replace f2 := shm_22 f2
  replace f3 := shm_1172 f3
  replace s1 := s1.2
  replace f5 := shm_1819 f5
  have nf0 : fc_1 PRD (20, [0, 1, 13], [62, 65]) ws (vs) := by
    refine ⟨nf_in hl rfl, sgq_2278 ?_⟩
    · show WQF 65 [n_v vs 0, n_v vs 1, n_v vs 13] ws
      obtain ⟨aH, _, eH, _⟩ := tv_ref t0 rfl
      have hH0 := s1.2.2.1 15 List.mem_cons_self 0 (by decide) aH eH
      exact wq_step2 f3 (hd_call hD hth (by decide +kernel) le1 r0 (by rw [eH]; exact hH0) s1 (by decide +kernel)) f5 (by decide) (Eq.symm f0) (wq_e1 f1 f2)
  refine ⟨(fun _ h => (by cases h)), [], trivial, ?_, (fun _ h => (by cases h))⟩
  rw [List.append_nil]
  exact List.forall_mem_cons.mpr ⟨⟨show (20 : Nat) < 100 from by decide, nf0⟩, (fun _ h => (by cases h))⟩
set_option maxHeartbeats 4000000 in
theorem vc_Ho_read_9_1 (x1 : Int) (x2 : Int) (x4 : Int) (x5 : Int) (x7 : Int) (x10 : Int) (x11 : Int) (x15 : Int) (x18 : Int) (x19 : Int) (edges_0o9 : Int) (nodes_0o9 : Int) (length_0o3 : Int) (tail_0o9 : Int → Int) (head_0o9 : Int → Int) (near_0o9 : Int → Int) (tape_0o3 : Int → Int) (end_0o3 : Int) (fault_0o3 : Int) (faultPlace_0o3 : Int) (nodes_0o13 : Int) (k1 : 0 ≤ x1 ∧ x1 ≤ 3) (k2 : 0 ≤ x2 ∧ x2 ≤ 2000) (k4 : 0 ≤ x4 ∧ x4 ≤ 2000) (k5 : 0 ≤ x5 ∧ x5 ≤ 2000) (k7 : 0 ≤ x7 ∧ x7 ≤ 2000) (k10 : 1 ≤ x10 ∧ x10 ≤ 1) (k11 : 0 ≤ x11 ∧ x11 ≤ 0) (k15 : 0 ≤ x15 ∧ x15 ≤ 3) (k18 : 0 ≤ x18 ∧ x18 ≤ 24) (k19 : 0 ≤ x19 ∧ x19 ≤ 48) (d0 : x7 + (-4294967296) ≤ x2 ∧ x2 ≤ x7 + 0) (g0 : x19 = edges_0o9) (g1 : x18 = nodes_0o9) (g4 : x11 = length_0o3) (f6 : 1 * x15 + ((-1) * x1 + 0) ≤ 0) (f7 : (-1) * x15 + (1 * x1 + 0) ≤ 0) (f8 : GKE (nodes_0o9) (edges_0o9) (tail_0o9) (head_0o9)) (f9 : length_0o3 = x4) (f11 : 1 * x4 + 0 ≤ 0) (f12 : (-1) * x4 + 0 ≤ 0) (f13 : (0 ≤ x1) ∧ ((x1 ≤ 3) ∧ ((0 ≤ x2) ∧ (x2 ≤ x5)))) (f14 : GNB (nodes_0o9) (edges_0o9) (near_0o9) (tail_0o9) (head_0o9)) (f15 : GKE (nodes_0o9) (edges_0o9) (tail_0o9) (head_0o9)) (f16 : CRG (end_0o3) (fault_0o3) (faultPlace_0o3) (nodes_0o9) (tape_0o3) (x2) (x10)) (f18 : nodes_0o13 = x18) (f20 : 1 * x15 + ((-1) * x1 + 0) ≤ 0) (f21 : (-1) * x15 + (1 * x1 + 0) ≤ 0) (f22 : x10 ≠ 0) (f23 : 1 * x4 + 0 ≤ 0) (f24 : (-1) * x4 + 0 ≤ 0) (f26 : 1 * x4 + 0 ≤ 0) (f27 : (-1) * x4 + 0 ≤ 0) (f29 : 1 * x4 + 0 ≤ 0) (f30 : (-1) * x4 + 0 ≤ 0) (f31 : x2 ≤ x7) (f32 : 0 ≤ x2) (hK_3_0 : ∀ j : Int, 0 ≤ j → j < 2000 → (-128) ≤ tape_0o3 j ∧ tape_0o3 j ≤ 127) (hK_9_7 : ∀ j : Int, 0 ≤ j → j < 48 → 0 ≤ tail_0o9 j ∧ tail_0o9 j ≤ 23) (hK_9_8 : ∀ j : Int, 0 ≤ j → j < 48 → 0 ≤ head_0o9 j ∧ head_0o9 j ≤ 23) (hK_9_14 : ∀ j : Int, 0 ≤ j → j < 24 → 0 ≤ near_0o9 j ∧ near_0o9 j ≤ 16777215) (kz_3_1 : 0 ≤ length_0o3 ∧ length_0o3 ≤ 2000) (kz_3_2 : (-1) ≤ fault_0o3 ∧ fault_0o3 ≤ 5) (kz_3_3 : (-1) ≤ faultPlace_0o3 ∧ faultPlace_0o3 ≤ 2000) (kz_3_5 : 0 ≤ end_0o3 ∧ end_0o3 ≤ 2000) (kz_9_0 : 0 ≤ nodes_0o9 ∧ nodes_0o9 ≤ 24) (kz_9_1 : 0 ≤ edges_0o9 ∧ edges_0o9 ≤ 48) (kz_13_0 : 0 ≤ nodes_0o13 ∧ nodes_0o13 ≤ 24) : (0 ≤ x1) ∧ (x1 ≤ 3) := by
  first
    | omega
  
def o_Ho_read_9 : or_T := (66, 20, [(0, (2, 0, 0, [12])), (1, (0, 0, 3, [])), (2, (0, 0, 2000, [])), (3, (2, 0, 0, [8])), (4, (0, 0, 2000, [])), (5, (0, 0, 2000, [])), (7, (0, 0, 2000, [])), (8, (2, 0, 0, [12])), (9, (2, 0, 0, [164])), (10, (0, 1, 1, [])), (11, (0, 0, 0, [])), (13, (2, 0, 0, [3])), (14, (2, 0, 0, [12])), (15, (0, 0, 3, [])), (16, (2, 0, 0, [154])), (17, (2, 0, 0, [155])), (18, (0, 0, 24, [])), (19, (0, 0, 48, []))], [(9, [19, 9], [1]), (9, [18, 9], [0]), (9, [17, 9], [8]), (9, [16, 9], [7]), (9, [11, 3], [1]), (24, [0, 14], []), (23, [15, 1], [0, 1, -1]), (23, [15, 1], [0, -1, 1]), (20, [9], [60, 2, 2, 596, 0, 1, 7, 8]), (20, [3, 4], [50, 1, 0, 1, 1, 3, 2, 0, 1, 1, 1]), (24, [0, 8], []), (23, [4], [0, 1]), (23, [4], [0, -1]), (20, [1, 2, 5], [50, 0, 0, 2, 6, 0, 2, 0, 0, 1, 0, 2, 6, 0, 2, 1, 0, 0, 3, 2, 6, 0, 2, 0, 0, 1, 1, 0, 2, 1, 1, 1, 2]), (20, [9], [60, 2, 3, 670, 0, 1, 14, 7, 8]), (20, [9], [60, 2, 2, 596, 0, 1, 7, 8]), (20, [3, 9, 2, 10], [60, 4, 1, 1084, 5, 2, 3, 1000, 0]), (20, [14, 15], [62, 1]), (20, [13, 18], [50, 1, 0, 0, 1, 3, 2, 0, 0, 1, 1]), (102, [15], [2305561534236983296, 3000, 3001, 3002, 3017, 3018]), (23, [15, 1], [0, 1, -1]), (23, [15, 1], [0, -1, 1]), (8, [10], [1]), (23, [4], [0, 1]), (23, [4], [0, -1]), (101, [3, 11], [1]), (23, [4], [0, 1]), (23, [4], [0, -1]), (102, [8], [11690585850954518683822635009467721794735159902208, 8002, 8003, 8005, 8006, 8007, 8008, 8009, 8011, 164000, 164001, 164002, 164017, 164018]), (23, [4], [0, 1]), (23, [4], [0, -1]), (7, [2, 7], [5]), (8, [2], [3])], [], [], [(20, [0, 1], [62, 1]), (20, [1], [50, 0, 0, 2, 6, 0, 2, 0, 0, 1, 0, 0, 2, 1, 0, 0, 3])], [], [(2, 7, -4294967296, 0)])
theorem oo_Ho_read_9 {kA : Nat → ClassId} : or_ok PRD kA GG o_Ho_read_9 := by
  refine or_mk fun A ta ws vs hD hth hl => ?_
  intro t0 r0 t1 k1 t2 k2 t3 r3 t4 k4 t5 k5 t7 k7 t8 r8 t9 r9 t10 k10 t11 k11 t13 r13 t14 r14 t15 k15 t16 r16 t17 r17 t18 k18 t19 k19 d0 f0 f1 f2 f3 f4 f5 f6 f7 f8 f9 f10 f11 f12 f13 f14 f15 f16 f17 f18 ta1 w1 le1 s1 f20 f21 f22 f23 f24 ta2 w2 le2 s2 f26 f27 ta3 w3 le3 s3 f29 f30 f31 f32
  replace f0 := shm_215 f0
  replace f1 := shm_163 f1
  replace f2 := shm_293 f2
  replace f3 := shm_198 f3
  replace f4 := shm_215 f4
  replace f5 := shm_5 f5
  replace f6 := shm_7 f6
  replace f7 := shm_22 f7
  replace f8 := shm_386 f8
  replace f9 := shm_790 f9
  replace f10 := shm_5 f10
  replace f11 := shm_1540 f11
  replace f12 := shm_1043 f12
  replace f13 := shm_2248 f13
  replace f14 := shm_825 f14
  replace f15 := shm_386 f15
  replace f16 := shm_2165 f16
  replace f17 := shm_1172 f17
  replace f18 := shm_570 f18
  replace f20 := shm_7 f20
  replace f21 := shm_22 f21
  replace f22 := shm_142 f22
  replace f23 := shm_1540 f23
  replace f24 := shm_1043 f24
  have s2 : (∀ b j, w_el w1 b j = w_el w2 b j) ∧ ∀ b j, w_fd w1 b j = if b = v_ad (n_v vs 3) ∧ j = 1 then n_v vs 11 else w_fd w2 b j := s2.2
  replace f26 := shm_1540 f26
  replace f27 := shm_1043 f27
  replace f29 := shm_1540 f29
  replace f30 := shm_1043 f30
  replace f31 := shm_24 f31
  replace f32 := shm_32 f32
  have q14 : n_v vs 14 = n_v vs 0 := f5.symm
  have q8 : n_v vs 8 = n_v vs 0 := f10.symm
  simp only [q14] at f17
  have cr_3_0 := fdq_95 hD hth r3
  have cr_9_7 := fdq_70 hD hth r9
  have cr_9_8 := fdq_71 hD hth r9
  have cr_9_14 := fdq_72 hD hth r9
  have ad_17 : v_ad (n_v vs 17) = w_ar ws (n_v vs 9) 8 := congrArg v_ad f2
  have ad_16 : v_ad (n_v vs 16) = w_ar ws (n_v vs 9) 7 := congrArg v_ad f3
  have g0 : v_iv (n_v vs 19) = w_fi ws (n_v vs 9) 1 := congrArg v_iv f0
  have g1 : v_iv (n_v vs 18) = w_fi ws (n_v vs 9) 0 := congrArg v_iv f1
  have g4 : v_iv (n_v vs 11) = w_fi ws (n_v vs 3) 1 := congrArg v_iv f4
  have hK_3_0 := elq_33 hD hth cr_3_0
  have hK_9_7 := elq_35 hD hth cr_9_7
  have hK_9_8 := elq_36 hD hth cr_9_8
  have hK_9_14 := elq_37 hD hth cr_9_14
  have kz_3_1 := fdq_96 hD hth r3
  have kz_3_2 := fdq_97 hD hth r3
  have kz_3_3 := fdq_98 hD hth r3
  have kz_3_5 := fdq_207 hD hth r3
  have kz_9_0 := fdq_73 hD hth r9
  have kz_9_1 := fdq_74 hD hth r9
  have kz_13_0 := fdq_21 hD hth r13
  have nf0 : fc_1 PRD (20, [0, 1], [62, 1]) ws (vs) := by
    refine ⟨nf_in hl rfl, sgq_1172 ?_⟩
    · show WQF 1 [n_v vs 0, n_v vs 1] ws
      have zw := f17
      first | rw [show n_v vs 14 = n_v vs 0 from (by first | exact f5 | exact f5.symm)] at zw | skip
      exact WQF_int zw (show v_iv (n_v vs 1) = v_iv (n_v vs 15) by omega)
  have nf1 : fc_1 PRD (20, [1], [50, 0, 0, 2, 6, 0, 2, 0, 0, 1, 0, 0, 2, 1, 0, 0, 3]) ws (vs) := ⟨nf_in hl rfl, sgq_1174 (vc_Ho_read_9_1 (v_iv (n_v vs 1)) (v_iv (n_v vs 2)) (v_iv (n_v vs 4)) (v_iv (n_v vs 5)) (v_iv (n_v vs 7)) (v_iv (n_v vs 10)) (v_iv (n_v vs 11)) (v_iv (n_v vs 15)) (v_iv (n_v vs 18)) (v_iv (n_v vs 19)) (w_fi ws (n_v vs 9) 1) (w_fi ws (n_v vs 9) 0) (w_fi ws (n_v vs 3) 1) (w_ei ws (w_ar ws (n_v vs 9) 7)) (w_ei ws (w_ar ws (n_v vs 9) 8)) (w_ei ws (w_ar ws (n_v vs 9) 14)) (w_ei ws (w_ar ws (n_v vs 3) 0)) (w_fi ws (n_v vs 3) 5) (w_fi ws (n_v vs 3) 2) (w_fi ws (n_v vs 3) 3) (w_fi ws (n_v vs 13) 0) k1 k2 k4 k5 k7 k10 k11 k15 k18 k19 d0 g0 g1 g4 f6 f7 f8 f9 f11 f12 f13 f14 f15 f16 f18 f20 f21 f22 f23 f24 f26 f27 f29 f30 f31 f32 hK_3_0 hK_9_7 hK_9_8 hK_9_14 kz_3_1 kz_3_2 kz_3_3 kz_3_5 kz_9_0 kz_9_1 kz_13_0)⟩
  refine ⟨(fun _ h => (by cases h)), [], trivial, ?_, (fun _ h => (by cases h))⟩
  rw [List.append_nil]
  exact List.forall_mem_cons.mpr ⟨⟨show (20 : Nat) < 100 from by decide, nf0⟩, List.forall_mem_cons.mpr ⟨⟨show (20 : Nat) < 100 from by decide, nf1⟩, (fun _ h => (by cases h))⟩⟩
def o_Ho_read_10 : or_T := (69, 20, [(0, (2, 0, 0, [12]))], [(20, [0], [62, 0]), (102, [19], [8388608, 1, 2000, 5000, 5001, 5002, 5003]), (20, [0, 1, 13], [62, 65])], [], [], [(20, [0, 1, 13], [62, 71])], [], [])
theorem oo_Ho_read_10 {kA : Nat → ClassId} : or_ok PRD kA GG o_Ho_read_10 := by
  refine or_mk fun A ta ws vs hD hth hl => ?_
  intro t0 r0 f0 ta1 w1 le1 s1 f2
  replace f0 := shm_1176 f0
  replace s1 := s1.2
  replace f2 := shm_2278 f2
  have nf0 : fc_1 PRD (20, [0, 1, 13], [62, 71]) ws (vs) := by
    refine ⟨nf_in hl rfl, sgq_1819 ?_⟩
    · show WQF 71 [n_v vs 0, n_v vs 1, n_v vs 13] ws
      obtain ⟨aH, _, eH, _⟩ := tv_ref t0 rfl
      have hH0 := s1.2.2.1 19 List.mem_cons_self 0 (by decide) aH eH
      exact wq_step f0 (hd_call hD hth (by decide +kernel) le1 r0 (by rw [eH]; exact hH0) s1 (by decide +kernel)) f2 (by decide)
  refine ⟨(fun _ h => (by cases h)), [], trivial, ?_, (fun _ h => (by cases h))⟩
  rw [List.append_nil]
  exact List.forall_mem_cons.mpr ⟨⟨show (20 : Nat) < 100 from by decide, nf0⟩, (fun _ h => (by cases h))⟩
def o_Ho_read_11 : or_T := (75, 21, [(13, (2, 0, 0, [3])), (20, (2, 0, 0, [3]))], [(14, [20, 12, 1], []), (9, [12, 0], [0]), (20, [0, 1, 13], [62, 71])], [], [], [(24, [13, 20], [])], [], [])
theorem oo_Ho_read_11 {kA : Nat → ClassId} : or_ok PRD kA GG o_Ho_read_11 := by
  refine or_mk fun A ta ws vs hD hth hl => ?_
  intro t13 r13 t20 r20 f0 f1 f2
  replace f0 := shm_793 f0
  replace f1 := shm_163 f1
  replace f2 := shm_1819 f2
  have nf0 : fc_1 PRD (24, [13, 20], []) ws (vs) := by
    refine ⟨nf_in hl rfl, sgq_5 ?_⟩
    · show n_v vs 13 = n_v vs 20
      exact ref_same t13 t20 rfl rfl ((wl_0 (wq_wl f2) (by decide)).trans (pO_of f1 f0).symm)
  refine ⟨(fun _ h => (by cases h)), [], trivial, ?_, (fun _ h => (by cases h))⟩
  rw [List.append_nil]
  exact List.forall_mem_cons.mpr ⟨⟨show (24 : Nat) < 100 from by decide, nf0⟩, (fun _ h => (by cases h))⟩
set_option maxHeartbeats 4000000 in
theorem vc_Ho_read_12_0 (x1 : Int) (x2 : Int) (x4 : Int) (x5 : Int) (x7 : Int) (x10 : Int) (x11 : Int) (x15 : Int) (x18 : Int) (x19 : Int) (x21 : Int) (edges_0o9 : Int) (nodes_0o9 : Int) (length_0o3 : Int) (nodes_0o13 : Int) (tail_0o9 : Int → Int) (head_0o9 : Int → Int) (near_0o9 : Int → Int) (tape_0o3 : Int → Int) (end_0o3 : Int) (fault_0o3 : Int) (faultPlace_0o3 : Int) (k1 : 0 ≤ x1 ∧ x1 ≤ 3) (k2 : 0 ≤ x2 ∧ x2 ≤ 2000) (k4 : 0 ≤ x4 ∧ x4 ≤ 2000) (k5 : 0 ≤ x5 ∧ x5 ≤ 2000) (k7 : 0 ≤ x7 ∧ x7 ≤ 2000) (k10 : 1 ≤ x10 ∧ x10 ≤ 1) (k11 : 0 ≤ x11 ∧ x11 ≤ 0) (k15 : 0 ≤ x15 ∧ x15 ≤ 3) (k18 : 0 ≤ x18 ∧ x18 ≤ 24) (k19 : 0 ≤ x19 ∧ x19 ≤ 48) (k21 : 0 ≤ x21 ∧ x21 ≤ 24) (d0 : x7 + (-4294967296) ≤ x2 ∧ x2 ≤ x7 + 0) (g0 : x19 = edges_0o9) (g1 : x18 = nodes_0o9) (g4 : x11 = length_0o3) (g5 : x21 = nodes_0o13) (f7 : (0 ≤ x1) ∧ (x1 ≤ 3)) (f9 : 1 * x15 + ((-1) * x1 + 0) ≤ 0) (f10 : (-1) * x15 + (1 * x1 + 0) ≤ 0) (f11 : GKE (nodes_0o9) (edges_0o9) (tail_0o9) (head_0o9)) (f12 : length_0o3 = x4) (f14 : 1 * x4 + 0 ≤ 0) (f15 : (-1) * x4 + 0 ≤ 0) (f16 : (0 ≤ x1) ∧ ((x1 ≤ 3) ∧ ((0 ≤ x2) ∧ (x2 ≤ x5)))) (f17 : GNB (nodes_0o9) (edges_0o9) (near_0o9) (tail_0o9) (head_0o9)) (f18 : GKE (nodes_0o9) (edges_0o9) (tail_0o9) (head_0o9)) (f19 : CRG (end_0o3) (fault_0o3) (faultPlace_0o3) (nodes_0o9) (tape_0o3) (x2) (x10)) (f20 : nodes_0o13 = x18) (f22 : 1 * x15 + ((-1) * x1 + 0) ≤ 0) (f23 : (-1) * x15 + (1 * x1 + 0) ≤ 0) (f24 : 1 * x4 + 0 ≤ 0) (f25 : (-1) * x4 + 0 ≤ 0) (f27 : 1 * x15 + ((-1) * x1 + 0) ≤ 0) (f28 : (-1) * x15 + (1 * x1 + 0) ≤ 0) (f29 : x10 ≠ 0) (f30 : 1 * x4 + 0 ≤ 0) (f31 : (-1) * x4 + 0 ≤ 0) (f33 : 1 * x4 + 0 ≤ 0) (f34 : (-1) * x4 + 0 ≤ 0) (f36 : 1 * x4 + 0 ≤ 0) (f37 : (-1) * x4 + 0 ≤ 0) (f38 : x2 ≤ x7) (f39 : 0 ≤ x2) (hK_3_0 : ∀ j : Int, 0 ≤ j → j < 2000 → (-128) ≤ tape_0o3 j ∧ tape_0o3 j ≤ 127) (hK_9_7 : ∀ j : Int, 0 ≤ j → j < 48 → 0 ≤ tail_0o9 j ∧ tail_0o9 j ≤ 23) (hK_9_8 : ∀ j : Int, 0 ≤ j → j < 48 → 0 ≤ head_0o9 j ∧ head_0o9 j ≤ 23) (hK_9_14 : ∀ j : Int, 0 ≤ j → j < 24 → 0 ≤ near_0o9 j ∧ near_0o9 j ≤ 16777215) (kz_3_1 : 0 ≤ length_0o3 ∧ length_0o3 ≤ 2000) (kz_3_2 : (-1) ≤ fault_0o3 ∧ fault_0o3 ≤ 5) (kz_3_3 : (-1) ≤ faultPlace_0o3 ∧ faultPlace_0o3 ≤ 2000) (kz_3_5 : 0 ≤ end_0o3 ∧ end_0o3 ≤ 2000) (kz_9_0 : 0 ≤ nodes_0o9 ∧ nodes_0o9 ≤ 24) (kz_9_1 : 0 ≤ edges_0o9 ∧ edges_0o9 ≤ 48) (kz_13_0 : 0 ≤ nodes_0o13 ∧ nodes_0o13 ≤ 24) : RDY (fault_0o3) (faultPlace_0o3) (tape_0o3) (x1) (x2) (x5) (x21) := by
  first | subst g0 | skip
  first | subst g1 | skip
  first | subst g4 | skip
  first | subst g5 | skip
  exact rdc_t ‹CRG _ _ _ _ _ _ _› (by omega) (by omega) (by omega) (by omega)
def o_Ho_read_12 : or_T := (78, 22, [(1, (0, 0, 3, [])), (2, (0, 0, 2000, [])), (3, (2, 0, 0, [8])), (4, (0, 0, 2000, [])), (5, (0, 0, 2000, [])), (7, (0, 0, 2000, [])), (9, (2, 0, 0, [164])), (10, (0, 1, 1, [])), (11, (0, 0, 0, [])), (13, (2, 0, 0, [3])), (15, (0, 0, 3, [])), (18, (0, 0, 24, [])), (19, (0, 0, 48, [])), (21, (0, 0, 24, []))], [(9, [19, 9], [1]), (9, [18, 9], [0]), (9, [11, 3], [1]), (9, [21, 20], [0]), (24, [13, 20], []), (20, [1], [50, 0, 0, 2, 6, 0, 2, 0, 0, 1, 0, 0, 2, 1, 0, 0, 3]), (23, [15, 1], [0, 1, -1]), (23, [15, 1], [0, -1, 1]), (20, [9], [60, 2, 2, 596, 0, 1, 7, 8]), (20, [3, 4], [50, 1, 0, 1, 1, 3, 2, 0, 1, 1, 1]), (23, [4], [0, 1]), (23, [4], [0, -1]), (20, [1, 2, 5], [50, 0, 0, 2, 6, 0, 2, 0, 0, 1, 0, 2, 6, 0, 2, 1, 0, 0, 3, 2, 6, 0, 2, 0, 0, 1, 1, 0, 2, 1, 1, 1, 2]), (20, [9], [60, 2, 3, 670, 0, 1, 14, 7, 8]), (20, [9], [60, 2, 2, 596, 0, 1, 7, 8]), (20, [3, 9, 2, 10], [60, 4, 1, 1084, 5, 2, 3, 1000, 0]), (20, [13, 18], [50, 1, 0, 0, 1, 3, 2, 0, 0, 1, 1]), (102, [19], [8388608, 1, 2000, 5000, 5001, 5002, 5003]), (23, [15, 1], [0, 1, -1]), (23, [15, 1], [0, -1, 1]), (23, [4], [0, 1]), (23, [4], [0, -1]), (102, [15], [2305561534236983296, 3000, 3001, 3002, 3017, 3018]), (23, [15, 1], [0, 1, -1]), (23, [15, 1], [0, -1, 1]), (8, [10], [1]), (23, [4], [0, 1]), (23, [4], [0, -1]), (101, [3, 11], [1]), (23, [4], [0, 1]), (23, [4], [0, -1]), (102, [8], [11690585850954518683822635009467721794735159902208, 8002, 8003, 8005, 8006, 8007, 8008, 8009, 8011, 164000, 164001, 164002, 164017, 164018]), (23, [4], [0, 1]), (23, [4], [0, -1]), (7, [2, 7], [5]), (8, [2], [3])], [], [], [(20, [3, 1, 2, 5, 21], [60, 2, 1, 1110, 2, 3, 0])], [], [(2, 7, -4294967296, 0)])
theorem oo_Ho_read_12 {kA : Nat → ClassId} : or_ok PRD kA GG o_Ho_read_12 := by
  refine or_mk fun A ta ws vs hD hth hl => ?_
  intro t1 k1 t2 k2 t3 r3 t4 k4 t5 k5 t7 k7 t9 r9 t10 k10 t11 k11 t13 r13 t15 k15 t18 k18 t19 k19 t21 k21 d0 f0 f1 f4 f5 f6 f7 f9 f10 f11 f12 f14 f15 f16 f17 f18 f19 f20 ta1 w1 le1 s1 f22 f23 f24 f25 ta2 w2 le2 s2 f27 f28 f29 f30 f31 ta3 w3 le3 s3 f33 f34 ta4 w4 le4 s4 f36 f37 f38 f39
  replace f0 := shm_215 f0
  replace f1 := shm_163 f1
  replace f4 := shm_215 f4
  replace f5 := shm_163 f5
  replace f6 := shm_5 f6
  have q20 : n_v vs 20 = n_v vs 13 := f6.symm
  simp only [q20] at f5
  have cr_3_0 := fdq_95 hD hth r3
  have cr_9_7 := fdq_70 hD hth r9
  have cr_9_8 := fdq_71 hD hth r9
  have cr_9_14 := fdq_72 hD hth r9
  have g0 : v_iv (n_v vs 19) = w_fi ws (n_v vs 9) 1 := congrArg v_iv f0
  have g1 : v_iv (n_v vs 18) = w_fi ws (n_v vs 9) 0 := congrArg v_iv f1
  have g4 : v_iv (n_v vs 11) = w_fi ws (n_v vs 3) 1 := congrArg v_iv f4
  have g5 : v_iv (n_v vs 21) = w_fi ws (n_v vs 13) 0 := congrArg v_iv f5
  have hK_3_0 := elq_33 hD hth cr_3_0
  have hK_9_7 := elq_35 hD hth cr_9_7
  have hK_9_8 := elq_36 hD hth cr_9_8
  have hK_9_14 := elq_37 hD hth cr_9_14
  have kz_3_1 := fdq_96 hD hth r3
  have kz_3_2 := fdq_97 hD hth r3
  have kz_3_3 := fdq_98 hD hth r3
  have kz_3_5 := fdq_207 hD hth r3
  have kz_9_0 := fdq_73 hD hth r9
  have kz_9_1 := fdq_74 hD hth r9
  have kz_13_0 := fdq_21 hD hth r13
  have nf0 : fc_1 PRD (20, [3, 1, 2, 5, 21], [60, 2, 1, 1110, 2, 3, 0]) ws (vs) := ⟨nf_in hl rfl, sgq_2277 (vc_Ho_read_12_0 (v_iv (n_v vs 1)) (v_iv (n_v vs 2)) (v_iv (n_v vs 4)) (v_iv (n_v vs 5)) (v_iv (n_v vs 7)) (v_iv (n_v vs 10)) (v_iv (n_v vs 11)) (v_iv (n_v vs 15)) (v_iv (n_v vs 18)) (v_iv (n_v vs 19)) (v_iv (n_v vs 21)) (w_fi ws (n_v vs 9) 1) (w_fi ws (n_v vs 9) 0) (w_fi ws (n_v vs 3) 1) (w_fi ws (n_v vs 13) 0) (w_ei ws (w_ar ws (n_v vs 9) 7)) (w_ei ws (w_ar ws (n_v vs 9) 8)) (w_ei ws (w_ar ws (n_v vs 9) 14)) (w_ei ws (w_ar ws (n_v vs 3) 0)) (w_fi ws (n_v vs 3) 5) (w_fi ws (n_v vs 3) 2) (w_fi ws (n_v vs 3) 3) k1 k2 k4 k5 k7 k10 k11 k15 k18 k19 k21 d0 g0 g1 g4 g5 (shm_1174 f7) (shm_7 f9) (shm_22 f10) (shm_386 f11) (shm_790 f12) (shm_1540 f14) (shm_1043 f15) (shm_2248 f16) (shm_825 f17) (shm_386 f18) (shm_2165 f19) (shm_570 f20) (shm_7 f22) (shm_22 f23) (shm_1540 f24) (shm_1043 f25) (shm_7 f27) (shm_22 f28) (shm_142 f29) (shm_1540 f30) (shm_1043 f31) (shm_1540 f33) (shm_1043 f34) (shm_1540 f36) (shm_1043 f37) (shm_24 f38) (shm_32 f39) hK_3_0 hK_9_7 hK_9_8 hK_9_14 kz_3_1 kz_3_2 kz_3_3 kz_3_5 kz_9_0 kz_9_1 kz_13_0)⟩
  refine ⟨(fun _ h => (by cases h)), [], trivial, ?_, (fun _ h => (by cases h))⟩
  rw [List.append_nil]
  exact List.forall_mem_cons.mpr ⟨⟨show (20 : Nat) < 100 from by decide, nf0⟩, (fun _ h => (by cases h))⟩
set_option maxHeartbeats 4000000 in
theorem vc_Ho_read_13_0 (x1 : Int) (x2 : Int) (x4 : Int) (x5 : Int) (x7 : Int) (x10 : Int) (x11 : Int) (x12 : Int) (length_0o3 : Int) (near_0o9 : Int → Int) (tail_0o9 : Int → Int) (head_0o9 : Int → Int) (nodes_0o9 : Int) (edges_0o9 : Int) (tape_0o3 : Int → Int) (end_0o3 : Int) (fault_0o3 : Int) (faultPlace_0o3 : Int) (length_1o3 : Int) (near_1o9 : Int → Int) (tail_1o9 : Int → Int) (head_1o9 : Int → Int) (nodes_1o9 : Int) (edges_1o9 : Int) (tape_1o3 : Int → Int) (end_1o3 : Int) (fault_1o3 : Int) (faultPlace_1o3 : Int) (k1 : 0 ≤ x1 ∧ x1 ≤ 3) (k2 : 0 ≤ x2 ∧ x2 ≤ 2000) (k4 : 0 ≤ x4 ∧ x4 ≤ 2000) (k5 : 0 ≤ x5 ∧ x5 ≤ 2000) (k7 : 0 ≤ x7 ∧ x7 ≤ 2000) (k10 : 0 ≤ x10 ∧ x10 ≤ 0) (k11 : 0 ≤ x11 ∧ x11 ≤ 0) (k12 : (-1) ≤ x12 ∧ x12 ≤ (-1)) (d0 : x7 + (-4294967296) ≤ x2 ∧ x2 ≤ x7 + 0) (g0 : x11 = length_0o3) (f1 : x10 = 0) (f2 : length_0o3 = x4) (f4 : 1 * x4 + 0 ≤ 0) (f5 : (-1) * x4 + 0 ≤ 0) (f6 : (0 ≤ x1) ∧ ((x1 ≤ 3) ∧ ((0 ≤ x2) ∧ (x2 ≤ x5)))) (f7 : GNB (nodes_0o9) (edges_0o9) (near_0o9) (tail_0o9) (head_0o9)) (f8 : GKE (nodes_0o9) (edges_0o9) (tail_0o9) (head_0o9)) (f9 : CRG (end_0o3) (fault_0o3) (faultPlace_0o3) (nodes_0o9) (tape_0o3) (x2) (x10)) (f11 : 1 * x4 + 0 ≤ 0) (f12 : (-1) * x4 + 0 ≤ 0) (f13 : (0 ≤ x1) ∧ ((x1 ≤ 3) ∧ ((0 ≤ x2) ∧ (x2 ≤ x5)))) (f14 : ((0 ≤ x1) ∧ ((x1 ≤ 3) ∧ ((0 ≤ x2) ∧ ((x2 ≤ length_1o3) ∧ (x4 = 0))))) ∨ (((x1 ≤ (-1)) ∨ ((4 ≤ x1) ∨ ((x2 ≤ (-1)) ∨ ((length_1o3 + 1) ≤ x2)))) ∧ (x4 = length_1o3))) (f15 : length_1o3 = x5) (f16 : GNB (nodes_1o9) (edges_1o9) (near_1o9) (tail_1o9) (head_1o9)) (f17 : GKE (nodes_1o9) (edges_1o9) (tail_1o9) (head_1o9)) (f18 : CRG (end_1o3) (fault_1o3) (faultPlace_1o3) (nodes_1o9) (tape_1o3) (x2) (x10)) (f20 : 1 * x4 + 0 ≤ 0) (f21 : (-1) * x4 + 0 ≤ 0) (f22 : x2 ≤ x7) (f23 : 0 ≤ x2) (fe_3_1_1 : length_0o3 = x11) (fe_3_2_1 : fault_0o3 = fault_1o3) (fe_3_3_1 : faultPlace_0o3 = faultPlace_1o3) (fe_3_5_1 : end_0o3 = end_1o3) (fe_9_0_1 : nodes_0o9 = nodes_1o9) (fe_9_1_1 : edges_0o9 = edges_1o9) (hE_3_0_1 : ∀ j : Int, tape_0o3 j = tape_1o3 j) (hK_3_0 : ∀ j : Int, 0 ≤ j → j < 2000 → (-128) ≤ tape_0o3 j ∧ tape_0o3 j ≤ 127) (hE_9_7_1 : ∀ j : Int, tail_0o9 j = tail_1o9 j) (hK_9_7 : ∀ j : Int, 0 ≤ j → j < 48 → 0 ≤ tail_0o9 j ∧ tail_0o9 j ≤ 23) (hE_9_8_1 : ∀ j : Int, head_0o9 j = head_1o9 j) (hK_9_8 : ∀ j : Int, 0 ≤ j → j < 48 → 0 ≤ head_0o9 j ∧ head_0o9 j ≤ 23) (hE_9_14_1 : ∀ j : Int, near_0o9 j = near_1o9 j) (hK_9_14 : ∀ j : Int, 0 ≤ j → j < 24 → 0 ≤ near_0o9 j ∧ near_0o9 j ≤ 16777215) (kz_3_1 : 0 ≤ length_0o3 ∧ length_0o3 ≤ 2000) (kz_3_2 : (-1) ≤ fault_0o3 ∧ fault_0o3 ≤ 5) (kz_3_3 : (-1) ≤ faultPlace_0o3 ∧ faultPlace_0o3 ≤ 2000) (kz_3_5 : 0 ≤ end_0o3 ∧ end_0o3 ≤ 2000) (kz_9_0 : 0 ≤ nodes_0o9 ∧ nodes_0o9 ≤ 24) (kz_9_1 : 0 ≤ edges_0o9 ∧ edges_0o9 ≤ 48) : RDY (fault_0o3) (faultPlace_0o3) (tape_0o3) (x1) (x2) (x5) (x12) := by
  subst fe_3_2_1
  subst fe_3_3_1
  subst fe_3_5_1
  subst fe_9_0_1
  subst fe_9_1_1
  have e_hE_3_0_1 := funext hE_3_0_1; subst e_hE_3_0_1
  have e_hE_9_7_1 := funext hE_9_7_1; subst e_hE_9_7_1
  have e_hE_9_8_1 := funext hE_9_8_1; subst e_hE_9_8_1
  have e_hE_9_14_1 := funext hE_9_14_1; subst e_hE_9_14_1
  first | subst g0 | skip
  exact rdc_f ‹CRG _ _ _ _ _ _ _› (by omega) (by omega) (by omega) (by omega)
def o_Ho_read_13 : or_T := (47, 13, [(1, (0, 0, 3, [])), (2, (0, 0, 2000, [])), (3, (2, 0, 0, [8])), (4, (0, 0, 2000, [])), (5, (0, 0, 2000, [])), (7, (0, 0, 2000, [])), (9, (2, 0, 0, [164])), (10, (0, 0, 0, [])), (11, (0, 0, 0, [])), (12, (0, -1, -1, []))], [(9, [11, 3], [1]), (8, [10], [0]), (20, [3, 4], [50, 1, 0, 1, 1, 3, 2, 0, 1, 1, 1]), (23, [4], [0, 1]), (23, [4], [0, -1]), (20, [1, 2, 5], [50, 0, 0, 2, 6, 0, 2, 0, 0, 1, 0, 2, 6, 0, 2, 1, 0, 0, 3, 2, 6, 0, 2, 0, 0, 1, 1, 0, 2, 1, 1, 1, 2]), (20, [9], [60, 2, 3, 670, 0, 1, 14, 7, 8]), (20, [9], [60, 2, 2, 596, 0, 1, 7, 8]), (20, [3, 9, 2, 10], [60, 4, 1, 1084, 5, 2, 3, 1000, 0]), (101, [3, 11], [1]), (23, [4], [0, 1]), (23, [4], [0, -1]), (20, [1, 2, 5], [50, 0, 0, 2, 6, 0, 2, 0, 0, 1, 0, 2, 6, 0, 2, 1, 0, 0, 3, 2, 6, 0, 2, 0, 0, 1, 1, 0, 2, 1, 1, 1, 2]), (20, [1, 2, 3, 4], [50, 1, 0, 2001, 3, 39, 2, 6, 0, 2, 0, 0, 1, 0, 2, 6, 0, 2, 1, 0, 0, 3, 2, 6, 0, 2, 0, 0, 1, 1, 2, 7, 0, 2, 1, 1, 2, 2, 1, 1, 2, 1, 3, 0, 0, 2, 35, 3, 6, 0, 2, 1, 0, 0, -1, 3, 6, 0, 2, 0, 4, 1, 0, 3, 6, 0, 2, 1, 1, 0, -1, 0, 7, 4, 3, 2, 2, 1, 0, 1, 1, 1, 1, 2, 1, 3, 2, 2, 1]), (20, [3, 5], [50, 1, 0, 1, 1, 3, 2, 0, 1, 1, 1]), (20, [9], [60, 2, 3, 670, 0, 1, 14, 7, 8]), (20, [9], [60, 2, 2, 596, 0, 1, 7, 8]), (20, [3, 9, 2, 10], [60, 4, 1, 1084, 5, 2, 3, 1000, 0]), (102, [8], [11690585850954518683822635009467721794735159902208, 8002, 8003, 8005, 8006, 8007, 8008, 8009, 8011, 164000, 164001, 164002, 164017, 164018]), (23, [4], [0, 1]), (23, [4], [0, -1]), (7, [2, 7], [5]), (8, [2], [3])], [], [], [(20, [3, 1, 2, 5, 12], [60, 2, 1, 1110, 2, 3, 0])], [], [(2, 7, -4294967296, 0)])
theorem oo_Ho_read_13 {kA : Nat → ClassId} : or_ok PRD kA GG o_Ho_read_13 := by
  refine or_mk fun A ta ws vs hD hth hl => ?_
  intro t1 k1 t2 k2 t3 r3 t4 k4 t5 k5 t7 k7 t9 r9 t10 k10 t11 k11 t12 k12 d0 f0 f1 f2 f4 f5 f6 f7 f8 f9 ta1 w1 le1 s1 f11 f12 f13 f14 f15 f16 f17 f18 ta2 w2 le2 s2 f20 f21 f22 f23
  replace f0 := shm_215 f0
  have s1 : (∀ b j, w_el ws b j = w_el w1 b j) ∧ ∀ b j, w_fd ws b j = if b = v_ad (n_v vs 3) ∧ j = 1 then n_v vs 11 else w_fd w1 b j := s1.2
  replace f16 := shm_825 f16
  replace f17 := shm_386 f17
  replace f18 := shm_2165 f18
  have ar_3_0_1 : w_ar w1 (n_v vs 3) 0 = w_ar ws (n_v vs 3) 0 := by show v_ad (w_fd w1 _ _) = v_ad (w_fd ws _ _); rw [s1.2, if_neg (fun e => absurd e.2 (by decide))]
  have cr_3_0 := fdq_95 hD hth r3
  have ar_9_7_1 : w_ar w1 (n_v vs 9) 7 = w_ar ws (n_v vs 9) 7 := by show v_ad (w_fd w1 _ _) = v_ad (w_fd ws _ _); rw [s1.2, if_neg (fun e => absurd e.2 (by decide))]
  have cr_9_7 := fdq_70 hD hth r9
  have ar_9_8_1 : w_ar w1 (n_v vs 9) 8 = w_ar ws (n_v vs 9) 8 := by show v_ad (w_fd w1 _ _) = v_ad (w_fd ws _ _); rw [s1.2, if_neg (fun e => absurd e.2 (by decide))]
  have cr_9_8 := fdq_71 hD hth r9
  have ar_9_14_1 : w_ar w1 (n_v vs 9) 14 = w_ar ws (n_v vs 9) 14 := by show v_ad (w_fd w1 _ _) = v_ad (w_fd ws _ _); rw [s1.2, if_neg (fun e => absurd e.2 (by decide))]
  have cr_9_14 := fdq_72 hD hth r9
  have g0 : v_iv (n_v vs 11) = w_fi ws (n_v vs 3) 1 := congrArg v_iv f0
  simp only [ar_9_7_1, ar_9_8_1, ar_9_14_1, ar_3_0_1] at f16 f17 f18
  have fe_3_1_1 : w_fi ws (n_v vs 3) 1 = v_iv (n_v vs 11) := by show v_iv (w_fd _ _ _) = _; rw [s1.2, if_pos ⟨rfl, rfl⟩]
  have fe_3_2_1 : w_fi ws (n_v vs 3) 2 = w_fi w1 (n_v vs 3) 2 := by show v_iv (w_fd _ _ _) = v_iv (w_fd _ _ _); rw [s1.2, if_neg (fun e => absurd e.2 (by decide))]
  have fe_3_3_1 : w_fi ws (n_v vs 3) 3 = w_fi w1 (n_v vs 3) 3 := by show v_iv (w_fd _ _ _) = v_iv (w_fd _ _ _); rw [s1.2, if_neg (fun e => absurd e.2 (by decide))]
  have fe_3_5_1 : w_fi ws (n_v vs 3) 5 = w_fi w1 (n_v vs 3) 5 := by show v_iv (w_fd _ _ _) = v_iv (w_fd _ _ _); rw [s1.2, if_neg (fun e => absurd e.2 (by decide))]
  have fe_9_0_1 : w_fi ws (n_v vs 9) 0 = w_fi w1 (n_v vs 9) 0 := by show v_iv (w_fd _ _ _) = v_iv (w_fd _ _ _); rw [s1.2, if_neg (fun e => absurd e.2 (by decide))]
  have fe_9_1_1 : w_fi ws (n_v vs 9) 1 = w_fi w1 (n_v vs 9) 1 := by show v_iv (w_fd _ _ _) = v_iv (w_fd _ _ _); rw [s1.2, if_neg (fun e => by have e1 := e.1; have e2 := r9; rw [e1, r3] at e2; exact absurd (Option.some.inj e2) (by decide))]
  have hE_3_0_1 : ∀ j : Int, w_ei ws (w_ar ws (n_v vs 3) 0) j = w_ei w1 (w_ar ws (n_v vs 3) 0) j := fun j => s1.1 _ _
  have hK_3_0 := elq_33 hD hth cr_3_0
  have hE_9_7_1 : ∀ j : Int, w_ei ws (w_ar ws (n_v vs 9) 7) j = w_ei w1 (w_ar ws (n_v vs 9) 7) j := fun j => s1.1 _ _
  have hK_9_7 := elq_35 hD hth cr_9_7
  have hE_9_8_1 : ∀ j : Int, w_ei ws (w_ar ws (n_v vs 9) 8) j = w_ei w1 (w_ar ws (n_v vs 9) 8) j := fun j => s1.1 _ _
  have hK_9_8 := elq_36 hD hth cr_9_8
  have hE_9_14_1 : ∀ j : Int, w_ei ws (w_ar ws (n_v vs 9) 14) j = w_ei w1 (w_ar ws (n_v vs 9) 14) j := fun j => s1.1 _ _
  have hK_9_14 := elq_37 hD hth cr_9_14
  have kz_3_1 := fdq_96 hD hth r3
  have kz_3_2 := fdq_97 hD hth r3
  have kz_3_3 := fdq_98 hD hth r3
  have kz_3_5 := fdq_207 hD hth r3
  have kz_9_0 := fdq_73 hD hth r9
  have kz_9_1 := fdq_74 hD hth r9
  have nf0 : fc_1 PRD (20, [3, 1, 2, 5, 12], [60, 2, 1, 1110, 2, 3, 0]) ws (vs) := ⟨nf_in hl rfl, sgq_2277 (vc_Ho_read_13_0 (v_iv (n_v vs 1)) (v_iv (n_v vs 2)) (v_iv (n_v vs 4)) (v_iv (n_v vs 5)) (v_iv (n_v vs 7)) (v_iv (n_v vs 10)) (v_iv (n_v vs 11)) (v_iv (n_v vs 12)) (w_fi ws (n_v vs 3) 1) (w_ei ws (w_ar ws (n_v vs 9) 14)) (w_ei ws (w_ar ws (n_v vs 9) 7)) (w_ei ws (w_ar ws (n_v vs 9) 8)) (w_fi ws (n_v vs 9) 0) (w_fi ws (n_v vs 9) 1) (w_ei ws (w_ar ws (n_v vs 3) 0)) (w_fi ws (n_v vs 3) 5) (w_fi ws (n_v vs 3) 2) (w_fi ws (n_v vs 3) 3) (w_fi w1 (n_v vs 3) 1) (w_ei w1 (w_ar ws (n_v vs 9) 14)) (w_ei w1 (w_ar ws (n_v vs 9) 7)) (w_ei w1 (w_ar ws (n_v vs 9) 8)) (w_fi w1 (n_v vs 9) 0) (w_fi w1 (n_v vs 9) 1) (w_ei w1 (w_ar ws (n_v vs 3) 0)) (w_fi w1 (n_v vs 3) 5) (w_fi w1 (n_v vs 3) 2) (w_fi w1 (n_v vs 3) 3) k1 k2 k4 k5 k7 k10 k11 k12 d0 g0 (shm_192 f1) (shm_790 f2) (shm_1540 f4) (shm_1043 f5) (shm_2248 f6) (shm_825 f7) (shm_386 f8) (shm_2165 f9) (shm_1540 f11) (shm_1043 f12) (shm_2248 f13) (shm_2276 f14) (shm_790 f15) f16 f17 f18 (shm_1540 f20) (shm_1043 f21) (shm_24 f22) (shm_32 f23) fe_3_1_1 fe_3_2_1 fe_3_3_1 fe_3_5_1 fe_9_0_1 fe_9_1_1 hE_3_0_1 hK_3_0 hE_9_7_1 hK_9_7 hE_9_8_1 hK_9_8 hE_9_14_1 hK_9_14 kz_3_1 kz_3_2 kz_3_3 kz_3_5 kz_9_0 kz_9_1)⟩
  refine ⟨(fun _ h => (by cases h)), [], trivial, ?_, (fun _ h => (by cases h))⟩
  rw [List.append_nil]
  exact List.forall_mem_cons.mpr ⟨⟨show (20 : Nat) < 100 from by decide, nf0⟩, (fun _ h => (by cases h))⟩
set_option maxHeartbeats 4000000 in
theorem vc_Ho_read_14_0 (x1 : Int) (x2 : Int) (x4 : Int) (x5 : Int) (x7 : Int) (x8 : Int) (length_0o3 : Int) (tape_0o3 : Int → Int) (fault_0o3 : Int) (faultPlace_0o3 : Int) (k1 : 0 ≤ x1 ∧ x1 ≤ 3) (k2 : 1 ≤ x2 ∧ x2 ≤ 2147483647) (k4 : 0 ≤ x4 ∧ x4 ≤ 2000) (k5 : 0 ≤ x5 ∧ x5 ≤ 2000) (k7 : 0 ≤ x7 ∧ x7 ≤ 2000) (k8 : (-2) ≤ x8 ∧ x8 ≤ (-2)) (d0 : x7 + 1 ≤ x2 ∧ x2 ≤ x7 + 4294967296) (f0 : x7 < x2) (g1 : x7 = length_0o3) (f2 : 0 ≤ x2) (f3 : ((0 ≤ x1) ∧ ((x1 ≤ 3) ∧ ((0 ≤ x2) ∧ ((x2 ≤ length_0o3) ∧ (x4 = 0))))) ∨ (((x1 ≤ (-1)) ∨ ((4 ≤ x1) ∨ ((x2 ≤ (-1)) ∨ ((length_0o3 + 1) ≤ x2)))) ∧ (x4 = length_0o3))) (f4 : length_0o3 = x5) (hK_3_0 : ∀ j : Int, 0 ≤ j → j < 2000 → (-128) ≤ tape_0o3 j ∧ tape_0o3 j ≤ 127) (kz_3_1 : 0 ≤ length_0o3 ∧ length_0o3 ≤ 2000) (kz_3_2 : (-1) ≤ fault_0o3 ∧ fault_0o3 ≤ 5) (kz_3_3 : (-1) ≤ faultPlace_0o3 ∧ faultPlace_0o3 ≤ 2000) : length_0o3 = x4 := by
  first
    | omega
  
set_option maxHeartbeats 4000000 in
theorem vc_Ho_read_14_1 (x1 : Int) (x2 : Int) (x4 : Int) (x5 : Int) (x7 : Int) (x8 : Int) (length_0o3 : Int) (tape_0o3 : Int → Int) (fault_0o3 : Int) (faultPlace_0o3 : Int) (k1 : 0 ≤ x1 ∧ x1 ≤ 3) (k2 : 1 ≤ x2 ∧ x2 ≤ 2147483647) (k4 : 0 ≤ x4 ∧ x4 ≤ 2000) (k5 : 0 ≤ x5 ∧ x5 ≤ 2000) (k7 : 0 ≤ x7 ∧ x7 ≤ 2000) (k8 : (-2) ≤ x8 ∧ x8 ≤ (-2)) (d0 : x7 + 1 ≤ x2 ∧ x2 ≤ x7 + 4294967296) (f0 : x7 < x2) (g1 : x7 = length_0o3) (f2 : 0 ≤ x2) (f3 : ((0 ≤ x1) ∧ ((x1 ≤ 3) ∧ ((0 ≤ x2) ∧ ((x2 ≤ length_0o3) ∧ (x4 = 0))))) ∨ (((x1 ≤ (-1)) ∨ ((4 ≤ x1) ∨ ((x2 ≤ (-1)) ∨ ((length_0o3 + 1) ≤ x2)))) ∧ (x4 = length_0o3))) (f4 : length_0o3 = x5) (hK_3_0 : ∀ j : Int, 0 ≤ j → j < 2000 → (-128) ≤ tape_0o3 j ∧ tape_0o3 j ≤ 127) (kz_3_1 : 0 ≤ length_0o3 ∧ length_0o3 ≤ 2000) (kz_3_2 : (-1) ≤ fault_0o3 ∧ fault_0o3 ≤ 5) (kz_3_3 : (-1) ≤ faultPlace_0o3 ∧ faultPlace_0o3 ≤ 2000) : RDY (fault_0o3) (faultPlace_0o3) (tape_0o3) (x1) (x2) (x5) (x8) := by
  exact rdc_2 (by omega) (by omega)
def o_Ho_read_14 : or_T := (24, 9, [(1, (0, 0, 3, [])), (2, (0, 1, 2147483647, [])), (3, (2, 0, 0, [8])), (4, (0, 0, 2000, [])), (5, (0, 0, 2000, [])), (7, (0, 0, 2000, [])), (8, (0, -2, -2, []))], [(7, [2, 7], [4]), (9, [7, 3], [1]), (8, [2], [3]), (20, [1, 2, 3, 4], [50, 1, 0, 2001, 3, 39, 2, 6, 0, 2, 0, 0, 1, 0, 2, 6, 0, 2, 1, 0, 0, 3, 2, 6, 0, 2, 0, 0, 1, 1, 2, 7, 0, 2, 1, 1, 2, 2, 1, 1, 2, 1, 3, 0, 0, 2, 35, 3, 6, 0, 2, 1, 0, 0, -1, 3, 6, 0, 2, 0, 4, 1, 0, 3, 6, 0, 2, 1, 1, 0, -1, 0, 7, 4, 3, 2, 2, 1, 0, 1, 1, 1, 1, 2, 1, 3, 2, 2, 1]), (20, [3, 5], [50, 1, 0, 1, 1, 3, 2, 0, 1, 1, 1])], [], [], [(20, [3, 4], [50, 1, 0, 1, 1, 3, 2, 0, 1, 1, 1]), (20, [3, 1, 2, 5, 8], [60, 2, 1, 1110, 2, 3, 0])], [], [(2, 7, 1, 4294967296)])
theorem oo_Ho_read_14 {kA : Nat → ClassId} : or_ok PRD kA GG o_Ho_read_14 := by
  refine or_mk fun A ta ws vs hD hth hl => ?_
  intro t1 k1 t2 k2 t3 r3 t4 k4 t5 k5 t7 k7 t8 k8 d0 f0 f1 f2 f3 f4
  replace f1 := shm_215 f1
  have cr_3_0 := fdq_95 hD hth r3
  have g1 : v_iv (n_v vs 7) = w_fi ws (n_v vs 3) 1 := congrArg v_iv f1
  have hK_3_0 := elq_33 hD hth cr_3_0
  have kz_3_1 := fdq_96 hD hth r3
  have kz_3_2 := fdq_97 hD hth r3
  have kz_3_3 := fdq_98 hD hth r3
  have nf0 : fc_1 PRD (20, [3, 4], [50, 1, 0, 1, 1, 3, 2, 0, 1, 1, 1]) ws (vs) := ⟨nf_in hl rfl, sgq_790 (vc_Ho_read_14_0 (v_iv (n_v vs 1)) (v_iv (n_v vs 2)) (v_iv (n_v vs 4)) (v_iv (n_v vs 5)) (v_iv (n_v vs 7)) (v_iv (n_v vs 8)) (w_fi ws (n_v vs 3) 1) (w_ei ws (w_ar ws (n_v vs 3) 0)) (w_fi ws (n_v vs 3) 2) (w_fi ws (n_v vs 3) 3) k1 k2 k4 k5 k7 k8 d0 (shm_21 f0) g1 (shm_32 f2) (shm_2276 f3) (shm_790 f4) hK_3_0 kz_3_1 kz_3_2 kz_3_3)⟩
  have nf1 : fc_1 PRD (20, [3, 1, 2, 5, 8], [60, 2, 1, 1110, 2, 3, 0]) ws (vs) := ⟨nf_in hl rfl, sgq_2277 (vc_Ho_read_14_1 (v_iv (n_v vs 1)) (v_iv (n_v vs 2)) (v_iv (n_v vs 4)) (v_iv (n_v vs 5)) (v_iv (n_v vs 7)) (v_iv (n_v vs 8)) (w_fi ws (n_v vs 3) 1) (w_ei ws (w_ar ws (n_v vs 3) 0)) (w_fi ws (n_v vs 3) 2) (w_fi ws (n_v vs 3) 3) k1 k2 k4 k5 k7 k8 d0 (shm_21 f0) g1 (shm_32 f2) (shm_2276 f3) (shm_790 f4) hK_3_0 kz_3_1 kz_3_2 kz_3_3)⟩
  refine ⟨(fun _ h => (by cases h)), [], trivial, ?_, (fun _ h => (by cases h))⟩
  rw [List.append_nil]
  exact List.forall_mem_cons.mpr ⟨⟨show (20 : Nat) < 100 from by decide, nf0⟩, List.forall_mem_cons.mpr ⟨⟨show (20 : Nat) < 100 from by decide, nf1⟩, (fun _ h => (by cases h))⟩⟩
def n_Ho_read_an : List an_T := []
def t_Ho_read_ct : ct_L := [(0, 115, e_Ho_isPlace), (1, 129, e_Ho_forget), (94, 119, e_Re_readGraph_f), (187, 126, e_Gr_copyFrom_f)]
set_option maxRecDepth 100000 in
theorem c_Ho_read {l : Launch} {D : va_G} {kA : Nat → ClassId} (h_Gr_copyFrom : ct_ok PRD l D kA GG y_Gr_copyFrom z_Gr_copyFrom e_Gr_copyFrom) (h_Ho_forget : ct_ok PRD l D kA GG y_Ho_forget z_Ho_forget e_Ho_forget) (h_Ho_isPlace : ct_ok PRD l D kA GG y_Ho_isPlace z_Ho_isPlace e_Ho_isPlace) (h_Re_readGraph : ct_ok PRD l D kA GG y_Re_readGraph z_Re_readGraph e_Re_readGraph) : ct_ok PRD l D kA GG y_Ho_read z_Ho_read e_Ho_read := chk_all_ok (FT := [(13, 12, 0), (38, 12, 4), (108, 8, 1), (122, 8, 4), (132, 3, 0)]) (PT := [(108, 8, 1, .int)]) (CT := t_Ho_read_ct) (KT := []) (NT := []) (AN := n_Ho_read_an) (OT := [o_Ho_read_0, o_Ho_read_1, o_Ho_read_2, o_Ho_read_3, o_Ho_read_4, o_Ho_read_5, o_Ho_read_6, o_Ho_read_7, o_Ho_read_8, o_Ho_read_9, o_Ho_read_10, o_Ho_read_11, o_Ho_read_12, o_Ho_read_13, o_Ho_read_14]) 0 200 (List.forall_mem_cons.mpr ⟨oo_Ho_read_0, List.forall_mem_cons.mpr ⟨oo_Ho_read_1, List.forall_mem_cons.mpr ⟨oo_Ho_read_2, List.forall_mem_cons.mpr ⟨oo_Ho_read_3, List.forall_mem_cons.mpr ⟨oo_Ho_read_4, List.forall_mem_cons.mpr ⟨oo_Ho_read_5, List.forall_mem_cons.mpr ⟨oo_Ho_read_6, List.forall_mem_cons.mpr ⟨oo_Ho_read_7, List.forall_mem_cons.mpr ⟨oo_Ho_read_8, List.forall_mem_cons.mpr ⟨oo_Ho_read_9, List.forall_mem_cons.mpr ⟨oo_Ho_read_10, List.forall_mem_cons.mpr ⟨oo_Ho_read_11, List.forall_mem_cons.mpr ⟨oo_Ho_read_12, List.forall_mem_cons.mpr ⟨oo_Ho_read_13, List.forall_mem_cons.mpr ⟨oo_Ho_read_14, List.forall_mem_nil _⟩⟩⟩⟩⟩⟩⟩⟩⟩⟩⟩⟩⟩⟩⟩) (by decide +kernel) ⟨List.forall_mem_cons.mpr ⟨gf_Ho_13, List.forall_mem_cons.mpr ⟨gf_Ho_38, List.forall_mem_cons.mpr ⟨gf_Ho_108, List.forall_mem_cons.mpr ⟨gf_Ho_122, List.forall_mem_cons.mpr ⟨gf_Ho_132, List.forall_mem_nil _⟩⟩⟩⟩⟩, List.forall_mem_cons.mpr ⟨pf_Ho_108, List.forall_mem_nil _⟩, List.forall_mem_cons.mpr ⟨cl_static (y := y_Ho_isPlace) h_Ho_isPlace wm_633 wm_1 wm_631 wm_632 ⟨by decide, by decide, by decide +kernel⟩ (by decide), List.forall_mem_cons.mpr ⟨cl_virtual (y := y_Ho_forget) (ci := 12) rfl rfl ⟨_, _, rfl⟩ (by decide +kernel) h_Ho_forget wm_789 wm_1 wm_786 wm_788 wv_1_13 ⟨by decide, by decide, by decide +kernel⟩ (by decide), List.forall_mem_cons.mpr ⟨cl_virtual (y := y_Re_readGraph) (ci := 8) rfl rfl ⟨_, _, rfl⟩ (by decide +kernel) (cf_Re_readGraph h_Re_readGraph) wm_637 wm_2 wm_634 wm_635 wm_636 ⟨by decide, by decide, by decide +kernel⟩ (by decide), List.forall_mem_cons.mpr ⟨cl_virtual (y := y_Gr_copyFrom) (ci := 3) rfl rfl ⟨_, _, rfl⟩ (by decide +kernel) (cf_Gr_copyFrom h_Gr_copyFrom) wm_781 wm_3 wm_778 wm_779 wm_780 ⟨by decide, by decide, by decide +kernel⟩ (by decide), List.forall_mem_nil _⟩⟩⟩⟩, List.forall_mem_nil _, List.forall_mem_nil _, GG_pl⟩ (by decide +kernel)
set_option maxHeartbeats 4000000 in
theorem vc_La_lay_0_0 (x7 : Int) (tail_0o1 : Int → Int) (head_0o1 : Int → Int) (nodes_0o1 : Int) (edges_0o1 : Int) (turned_0o2 : Int → Int) (layerOf_0 : Int → Int) (firstJoint_0 : Int → Int) (items_0 : Int) (layerCount_0 : Int) (k7 : 1 ≤ x7 ∧ x7 ≤ 1) (f5 : MIA (items_0) (layerCount_0) (nodes_0o1) (edges_0o1) (layerOf_0) (firstJoint_0) (tail_0o1) (head_0o1) (turned_0o2) (x7)) (kz_0_2 : 0 ≤ layerCount_0 ∧ layerCount_0 ≤ 24) (kz_0_3 : 0 ≤ items_0 ∧ items_0 ≤ 72) (kz_1_0 : 0 ≤ nodes_0o1 ∧ nodes_0o1 ≤ 24) (kz_1_1 : 0 ≤ edges_0o1 ∧ edges_0o1 ≤ 48) : MIT (items_0) (layerCount_0) (nodes_0o1) (edges_0o1) (layerOf_0) (firstJoint_0) (tail_0o1) (head_0o1) (turned_0o2) := by
  first
    | assumption
    | (rcases (‹MIA _ _ _ _ _ _ _ _ _ _›) with q | q; omega; exact q)
  
set_option maxHeartbeats 4000000 in
theorem vc_La_lay_0_1 (x7 : Int) (tail_0o1 : Int → Int) (head_0o1 : Int → Int) (nodes_0o1 : Int) (edges_0o1 : Int) (turned_0o2 : Int → Int) (layerOf_0 : Int → Int) (firstJoint_0 : Int → Int) (items_0 : Int) (layerCount_0 : Int) (k7 : 1 ≤ x7 ∧ x7 ≤ 1) (f3 : 1 ≤ nodes_0o1) (f5 : MIA (items_0) (layerCount_0) (nodes_0o1) (edges_0o1) (layerOf_0) (firstJoint_0) (tail_0o1) (head_0o1) (turned_0o2) (x7)) (kz_0_2 : 0 ≤ layerCount_0 ∧ layerCount_0 ≤ 24) (kz_0_3 : 0 ≤ items_0 ∧ items_0 ≤ 72) (kz_1_0 : 0 ≤ nodes_0o1 ∧ nodes_0o1 ≤ 24) (kz_1_1 : 0 ≤ edges_0o1 ∧ edges_0o1 ≤ 48) : 1 ≤ layerCount_0 := by
  first
    | omega
    | (rcases (‹MIA _ _ _ _ _ _ _ _ _ _›) with q | q; omega; have := q.1.2.2.2.1; omega)
  
def o_La_lay_0 : or_T := (23, 8, [(0, (2, 0, 0, [4])), (1, (2, 0, 0, [3])), (7, (0, 1, 1, []))], [(20, [1], [50, 1, 0, 0, 0, 2, 0, 1, 2, 0, 0]), (20, [0, 1, 2, 7], [60, 4, 5, 665, 3, 2, 1000, 1001, 4, 5, 1007, 1008, 2009])], [], [], [(20, [0, 1, 2], [60, 4, 5, 664, 3, 2, 1000, 1001, 4, 5, 1007, 1008, 2009]), (20, [0], [50, 1, 0, 2, 0, 2, 0, 1, 2, 0, 2])], [], [])
theorem oo_La_lay_0 {kA : Nat → ClassId} : or_ok PRD kA GG o_La_lay_0 := by
  refine or_mk fun A ta ws vs hD hth hl => ?_
  intro t0 r0 t1 r1 t7 k7 f3 f5
  have kz_0_2 := fdq_77 hD hth r0
  have kz_0_3 := fdq_218 hD hth r0
  have kz_1_0 := fdq_21 hD hth r1
  have kz_1_1 := fdq_30 hD hth r1
  have nf0 : fc_1 PRD (20, [0, 1, 2], [60, 4, 5, 664, 3, 2, 1000, 1001, 4, 5, 1007, 1008, 2009]) ws (vs) := ⟨nf_in hl rfl, sgq_1091 (vc_La_lay_0_0 (v_iv (n_v vs 7)) (w_ei ws (w_ar ws (n_v vs 1) 7)) (w_ei ws (w_ar ws (n_v vs 1) 8)) (w_fi ws (n_v vs 1) 0) (w_fi ws (n_v vs 1) 1) (w_ei ws (w_ar ws (n_v vs 2) 9)) (w_ei ws (w_ar ws (n_v vs 0) 4)) (w_ei ws (w_ar ws (n_v vs 0) 5)) (w_fi ws (n_v vs 0) 3) (w_fi ws (n_v vs 0) 2) k7 (shm_1089 f5) kz_0_2 kz_0_3 kz_1_0 kz_1_1)⟩
  have nf1 : fc_1 PRD (20, [0], [50, 1, 0, 2, 0, 2, 0, 1, 2, 0, 2]) ws (vs) := ⟨nf_in hl rfl, sgq_1092 (vc_La_lay_0_1 (v_iv (n_v vs 7)) (w_ei ws (w_ar ws (n_v vs 1) 7)) (w_ei ws (w_ar ws (n_v vs 1) 8)) (w_fi ws (n_v vs 1) 0) (w_fi ws (n_v vs 1) 1) (w_ei ws (w_ar ws (n_v vs 2) 9)) (w_ei ws (w_ar ws (n_v vs 0) 4)) (w_ei ws (w_ar ws (n_v vs 0) 5)) (w_fi ws (n_v vs 0) 3) (w_fi ws (n_v vs 0) 2) k7 (shm_1220 f3) (shm_1089 f5) kz_0_2 kz_0_3 kz_1_0 kz_1_1)⟩
  refine ⟨(fun _ h => (by cases h)), [], trivial, ?_, (fun _ h => (by cases h))⟩
  rw [List.append_nil]
  exact List.forall_mem_cons.mpr ⟨⟨show (20 : Nat) < 100 from by decide, nf0⟩, List.forall_mem_cons.mpr ⟨⟨show (20 : Nat) < 100 from by decide, nf1⟩, (fun _ h => (by cases h))⟩⟩
set_option maxHeartbeats 4000000 in
theorem vc_La_lay_1_0 (layerCount_0 : Int) (f1 : 1 ≤ layerCount_0) (kz_0_2 : 0 ≤ layerCount_0 ∧ layerCount_0 ≤ 24) : (-1) * layerCount_0 + 0 ≤ (-1) := by
  first
    | omega
    | (rcases (‹MIA _ _ _ _ _ _ _ _ _ _›) with q | q; omega; have := q.1.2.2.2.1; omega)
  
def o_La_lay_1 : or_T := (51, 10, [(0, (2, 0, 0, [4])), (1, (2, 0, 0, [3])), (2, (2, 0, 0, [2])), (7, (0, 1, 1, [])), (8, (0, 7, 72, [])), (9, (0, 6, 6, []))], [(20, [0, 1, 2], [60, 4, 5, 664, 3, 2, 1000, 1001, 4, 5, 1007, 1008, 2009]), (20, [0], [50, 1, 0, 2, 0, 2, 0, 1, 2, 0, 2]), (20, [1], [60, 2, 2, 596, 0, 1, 7, 8]), (20, [1, 2], [60, 1, 3, 658, 1, 7, 8, 1009]), (20, [1], [50, 1, 0, 0, 0, 2, 0, 1, 2, 0, 0]), (20, [0], [60, 0, 1, 648, 17]), (20, [0, 1, 2, 7], [60, 4, 5, 665, 3, 2, 1000, 1001, 4, 5, 1007, 1008, 2009]), (20, [0], [60, 2, 2, 668, 3, 2, 7, 9]), (20, [0, 8], [60, 1, 1, 635, 2, 10]), (20, [0, 8], [60, 2, 2, 691, 3, 2, 4, 12]), (102, [9], [36008044431881044754432]), (7, [8, 9], [4]), (102, [7], [9149585060559937601536]), (102, [7], [276701161105643274240]), (8, [7], [1])], [], [], [(20, [0], [30, -1, -1, 1, 2])], [], [])
theorem oo_La_lay_1 {kA : Nat → ClassId} : or_ok PRD kA GG o_La_lay_1 := by
  refine or_mk fun A ta ws vs hD hth hl => ?_
  intro t0 r0 t1 r1 t2 r2 t7 k7 t8 k8 t9 k9 f0 f1 f2 f3 f4 f5 f6 f7 f8 f9 ta1 w1 le1 s1 f11 ta2 w2 le2 s2 ta3 w3 le3 s3 f14
  have kz_0_2 := fdq_77 hD hth r0
  have nf0 : fc_1 PRD (20, [0], [30, -1, -1, 1, 2]) ws (vs) := ⟨nf_in hl rfl, sgq_1887 (vc_La_lay_1_0 (w_fi ws (n_v vs 0) 2) (shm_1092 f1) kz_0_2)⟩
  refine ⟨(fun _ h => (by cases h)), [], trivial, ?_, (fun _ h => (by cases h))⟩
  rw [List.append_nil]
  exact List.forall_mem_cons.mpr ⟨⟨show (20 : Nat) < 100 from by decide, nf0⟩, (fun _ h => (by cases h))⟩
set_option maxHeartbeats 4000000 in
theorem vc_La_lay_2_1 (x6 : Int) (gy : Int) (k6 : 0 ≤ x6 ∧ x6 ≤ 3072) (ey2 : gy = x6) : 1 * gy + ((-1) * x6 + 0) ≤ 0 := by
  first
    | omega
    | (rcases (‹MIA _ _ _ _ _ _ _ _ _ _›) with q | q; omega; have := q.1.2.2.2.1; omega)
  
set_option maxHeartbeats 4000000 in
theorem vc_La_lay_2_2 (x6 : Int) (gy : Int) (k6 : 0 ≤ x6 ∧ x6 ≤ 3072) (ey2 : gy = x6) : (-1) * gy + (1 * x6 + 0) ≤ 0 := by
  first
    | omega
    | (rcases (‹MIA _ _ _ _ _ _ _ _ _ _›) with q | q; omega; have := q.1.2.2.2.1; omega)
  
set_option maxHeartbeats 4000000 in
theorem vc_La_lay_2_3 (layerCount_0 : Int) (layerOf_0 : Int → Int) (firstJoint_0 : Int → Int) (tail_0o1 : Int → Int) (head_0o1 : Int → Int) (turned_0o2 : Int → Int) (items_0 : Int) (nodes_0o1 : Int) (edges_0o1 : Int) (f1 : MIT (items_0) (layerCount_0) (nodes_0o1) (edges_0o1) (layerOf_0) (firstJoint_0) (tail_0o1) (head_0o1) (turned_0o2)) (kz_0_2 : 0 ≤ layerCount_0 ∧ layerCount_0 ≤ 24) (kz_0_3 : 0 ≤ items_0 ∧ items_0 ≤ 72) (kz_1_0 : 0 ≤ nodes_0o1 ∧ nodes_0o1 ≤ 24) (kz_1_1 : 0 ≤ edges_0o1 ∧ edges_0o1 ≤ 48) : MIT (items_0) (layerCount_0) (nodes_0o1) (edges_0o1) (layerOf_0) (firstJoint_0) (tail_0o1) (head_0o1) (turned_0o2) := by
  first
    | assumption
    | (rcases (‹MIA _ _ _ _ _ _ _ _ _ _›) with q | q; omega; exact q)
  
set_option maxHeartbeats 4000000 in
theorem vc_La_lay_2_4 (place_0o4 : Int → Int) (f12 : PBZ (place_0o4)) : PBZ (place_0o4) := by
  assumption
def o_La_lay_2 : or_T := (57, 10, [(0, (2, 0, 0, [4])), (1, (2, 0, 0, [3])), (2, (2, 0, 0, [2])), (4, (2, 0, 0, [10])), (5, (2, 0, 0, [12])), (6, (0, 0, 3072, [])), (7, (0, 1, 1, [])), (8, (0, 7, 72, [])), (9, (0, 6, 6, []))], [(20, [0], [30, -1, -1, 1, 2]), (20, [0, 1, 2], [60, 4, 5, 664, 3, 2, 1000, 1001, 4, 5, 1007, 1008, 2009]), (20, [0], [50, 1, 0, 2, 0, 2, 0, 1, 2, 0, 2]), (20, [1], [60, 2, 2, 596, 0, 1, 7, 8]), (20, [1, 2], [60, 1, 3, 658, 1, 7, 8, 1009]), (20, [1], [50, 1, 0, 0, 0, 2, 0, 1, 2, 0, 0]), (20, [0], [60, 0, 1, 648, 17]), (20, [5, 6], [62, 2000000]), (20, [0, 1, 2, 7], [60, 4, 5, 665, 3, 2, 1000, 1001, 4, 5, 1007, 1008, 2009]), (20, [0], [60, 2, 2, 668, 3, 2, 7, 9]), (20, [0, 8], [60, 1, 1, 635, 2, 10]), (20, [0, 8], [60, 2, 2, 691, 3, 2, 4, 12]), (20, [4], [60, 0, 1, 543, 6]), (102, [9], [42202988866171078964695874163900940288, 10000, 10001]), (102, [9], [36008044431881044754432]), (7, [8, 9], [4]), (102, [7], [9149585060559937601536]), (102, [7], [276701161105643274240]), (8, [7], [1])], [], [(2, 0, 0, [12]), (0, 0, 3072, [])], [(24, [5, 10], []), (23, [11, 6], [0, 1, -1]), (23, [11, 6], [0, -1, 1]), (20, [0, 1, 2], [60, 4, 5, 664, 3, 2, 1000, 1001, 4, 5, 1007, 1008, 2009]), (20, [4], [60, 0, 1, 543, 6]), (20, [10, 11], [62, 2000000])], [], [])
theorem oo_La_lay_2 {kA : Nat → ClassId} : or_ok PRD kA GG o_La_lay_2 := by
  refine or_mk fun A ta ws vs hD hth hl => ?_
  intro t0 r0 t1 r1 t2 r2 t4 r4 t5 r5 t6 k6 t7 k7 t8 k8 t9 k9 f0 f1 f2 f3 f4 f5 f6 f7 f8 f9 f10 f11 f12 ta1 w1 le1 s1 ta2 w2 le2 s2 f15 ta3 w3 le3 s3 ta4 w4 le4 s4 f18
  replace f0 := shm_1887 f0
  replace f1 := shm_1091 f1
  replace f2 := shm_1092 f2
  replace f3 := shm_386 f3
  replace f4 := shm_1906 f4
  replace f5 := shm_1220 f5
  replace f6 := shm_1096 f6
  replace f7 := shm_161 f7
  replace f8 := shm_1089 f8
  replace f9 := shm_869 f9
  replace f10 := shm_875 f10
  replace f11 := shm_876 f11
  replace f12 := shm_1607 f12
  replace f15 := shm_21 f15
  replace f18 := shm_142 f18
  have cr_0_4 := fdq_219 hD hth r0
  have cr_0_5 := fdq_248 hD hth r0
  have cr_0_7 := fdq_215 hD hth r0
  have cr_0_9 := fdq_216 hD hth r0
  have cr_0_10 := fdq_5 hD hth r0
  have cr_0_12 := fdq_217 hD hth r0
  have cr_0_17 := fdq_251 hD hth r0
  have cr_1_7 := fdq_46 hD hth r1
  have cr_1_8 := fdq_47 hD hth r1
  have cr_2_9 := fdq_76 hD hth r2
  have cr_4_6 := fdq_115 hD hth r4
  have hK_0_4 := elq_131 hD hth cr_0_4
  have hK_0_5 := elq_155 hD hth cr_0_5
  have hK_0_7 := elq_128 hD hth cr_0_7
  have hK_0_9 := elq_129 hD hth cr_0_9
  have hK_0_10 := elq_39 hD hth cr_0_10
  have hK_0_12 := elq_130 hD hth cr_0_12
  have hK_0_17 := elq_158 hD hth cr_0_17
  have hK_1_7 := elq_11 hD hth cr_1_7
  have hK_1_8 := elq_12 hD hth cr_1_8
  have hK_2_9 := elq_38 hD hth cr_2_9
  have hK_4_6 := elq_58 hD hth cr_4_6
  have kz_0_2 := fdq_77 hD hth r0
  have kz_0_3 := fdq_218 hD hth r0
  have kz_1_0 := fdq_21 hD hth r1
  have kz_1_1 := fdq_30 hD hth r1
  obtain ⟨y, ey, hy⟩ := iv_ex (ta := ta) (lo := 0) (hi := 3072) (z := v_iv (n_v vs 6)) (by omega) (by omega) (by omega) (by omega)
  have ey2 : v_iv (Value.int y) = v_iv (n_v vs 6) := ey
  have ey3 : 0 ≤ v_iv (Value.int y) ∧ v_iv (Value.int y) ≤ 3072 := tv_rng hy
  have e_0 : n_v (vs ++ [n_v vs 5, Value.int y]) 0 = n_v vs 0 := n_v_old (by rw [hl]; decide)
  have e_1 : n_v (vs ++ [n_v vs 5, Value.int y]) 1 = n_v vs 1 := n_v_old (by rw [hl]; decide)
  have e_2 : n_v (vs ++ [n_v vs 5, Value.int y]) 2 = n_v vs 2 := n_v_old (by rw [hl]; decide)
  have e_4 : n_v (vs ++ [n_v vs 5, Value.int y]) 4 = n_v vs 4 := n_v_old (by rw [hl]; decide)
  have e_5 : n_v (vs ++ [n_v vs 5, Value.int y]) 5 = n_v vs 5 := n_v_old (by rw [hl]; decide)
  have e_6 : n_v (vs ++ [n_v vs 5, Value.int y]) 6 = n_v vs 6 := n_v_old (by rw [hl]; decide)
  have e_10 : n_v (vs ++ [n_v vs 5, Value.int y]) 10 = n_v vs 5 := n_v_new0 hl
  have e_11 : n_v (vs ++ [n_v vs 5, Value.int y]) 11 = Value.int y := n_v_new1 hl
  have nf0 : fc_1 PRD (24, [5, 10], []) ws (vs ++ [n_v vs 5, Value.int y]) := by
    refine ⟨nf_inA hl rfl, sgq_5 ?_⟩
    · show n_v (vs ++ [n_v vs 5, Value.int y]) 5 = n_v (vs ++ [n_v vs 5, Value.int y]) 10
      first | rfl | simp only [e_5, e_10]
  have nf1 : fc_1 PRD (23, [11, 6], [0, 1, -1]) ws (vs ++ [n_v vs 5, Value.int y]) := by
    refine ⟨nf_inA hl rfl, sgq_7 ?_⟩
    · show 1 * v_iv (n_v (vs ++ [n_v vs 5, Value.int y]) 11) + ((-1) * v_iv (n_v (vs ++ [n_v vs 5, Value.int y]) 6) + 0) ≤ 0
      simp only [e_6, e_11]
      exact vc_La_lay_2_1 (v_iv (n_v vs 6)) (v_iv (Value.int y)) k6 ey2
  have nf2 : fc_1 PRD (23, [11, 6], [0, -1, 1]) ws (vs ++ [n_v vs 5, Value.int y]) := by
    refine ⟨nf_inA hl rfl, sgq_22 ?_⟩
    · show (-1) * v_iv (n_v (vs ++ [n_v vs 5, Value.int y]) 11) + (1 * v_iv (n_v (vs ++ [n_v vs 5, Value.int y]) 6) + 0) ≤ 0
      simp only [e_6, e_11]
      exact vc_La_lay_2_2 (v_iv (n_v vs 6)) (v_iv (Value.int y)) k6 ey2
  have nf3 : fc_1 PRD (20, [0, 1, 2], [60, 4, 5, 664, 3, 2, 1000, 1001, 4, 5, 1007, 1008, 2009]) ws (vs ++ [n_v vs 5, Value.int y]) := by
    refine ⟨nf_inA hl rfl, sgq_1091 ?_⟩
    · show MIT (w_fi ws (n_v (vs ++ [n_v vs 5, Value.int y]) 0) 3) (w_fi ws (n_v (vs ++ [n_v vs 5, Value.int y]) 0) 2) (w_fi ws (n_v (vs ++ [n_v vs 5, Value.int y]) 1) 0) (w_fi ws (n_v (vs ++ [n_v vs 5, Value.int y]) 1) 1) (w_ei ws (w_ar ws (n_v (vs ++ [n_v vs 5, Value.int y]) 0) 4)) (w_ei ws (w_ar ws (n_v (vs ++ [n_v vs 5, Value.int y]) 0) 5)) (w_ei ws (w_ar ws (n_v (vs ++ [n_v vs 5, Value.int y]) 1) 7)) (w_ei ws (w_ar ws (n_v (vs ++ [n_v vs 5, Value.int y]) 1) 8)) (w_ei ws (w_ar ws (n_v (vs ++ [n_v vs 5, Value.int y]) 2) 9))
      simp only [e_0, e_1, e_2]
      exact vc_La_lay_2_3 (w_fi ws (n_v vs 0) 2) (w_ei ws (w_ar ws (n_v vs 0) 4)) (w_ei ws (w_ar ws (n_v vs 0) 5)) (w_ei ws (w_ar ws (n_v vs 1) 7)) (w_ei ws (w_ar ws (n_v vs 1) 8)) (w_ei ws (w_ar ws (n_v vs 2) 9)) (w_fi ws (n_v vs 0) 3) (w_fi ws (n_v vs 1) 0) (w_fi ws (n_v vs 1) 1) f1 kz_0_2 kz_0_3 kz_1_0 kz_1_1
  have nf4 : fc_1 PRD (20, [4], [60, 0, 1, 543, 6]) ws (vs ++ [n_v vs 5, Value.int y]) := by
    refine ⟨nf_inA hl rfl, sgq_1607 ?_⟩
    · show PBZ (w_ei ws (w_ar ws (n_v (vs ++ [n_v vs 5, Value.int y]) 4) 6))
      rw [e_4]
      exact vc_La_lay_2_4 (w_ei ws (w_ar ws (n_v vs 4) 6)) f12
  have nf5 : fc_1 PRD (20, [10, 11], [62, 2000000]) ws (vs ++ [n_v vs 5, Value.int y]) := by
    refine ⟨nf_inA hl rfl, sgq_161 ?_⟩
    · show HY ws (n_v (vs ++ [n_v vs 5, Value.int y]) 10) (v_iv (n_v (vs ++ [n_v vs 5, Value.int y]) 11) + (((2000000 : Nat) : Int) - 2000000))
      simp only [e_10, e_11]
      exact hy_le f7 (by omega)
  exact ⟨(fun _ h => (by cases h)), [n_v vs 5, Value.int y], ag_two t5 hy, List.forall_mem_cons.mpr ⟨⟨show (24 : Nat) < 100 from by decide, nf0⟩, List.forall_mem_cons.mpr ⟨⟨show (23 : Nat) < 100 from by decide, nf1⟩, List.forall_mem_cons.mpr ⟨⟨show (23 : Nat) < 100 from by decide, nf2⟩, List.forall_mem_cons.mpr ⟨⟨show (20 : Nat) < 100 from by decide, nf3⟩, List.forall_mem_cons.mpr ⟨⟨show (20 : Nat) < 100 from by decide, nf4⟩, List.forall_mem_cons.mpr ⟨⟨show (20 : Nat) < 100 from by decide, nf5⟩, (fun _ h => (by cases h))⟩⟩⟩⟩⟩⟩, (fun _ h => (by cases h))⟩
def o_La_lay_3 : or_T := (61, 13, [(0, (2, 0, 0, [4])), (1, (2, 0, 0, [3])), (2, (2, 0, 0, [2])), (4, (2, 0, 0, [10])), (5, (2, 0, 0, [12])), (6, (0, 0, 3072, [])), (7, (0, 1, 1, [])), (8, (0, 7, 72, [])), (9, (0, 6, 6, [])), (10, (2, 0, 0, [12])), (11, (0, 0, 3072, []))], [(24, [5, 10], []), (23, [11, 6], [0, 1, -1]), (23, [11, 6], [0, -1, 1]), (20, [0, 1, 2], [60, 4, 5, 664, 3, 2, 1000, 1001, 4, 5, 1007, 1008, 2009]), (20, [4], [60, 0, 1, 543, 6]), (20, [0], [30, -1, -1, 1, 2]), (20, [0, 1, 2], [60, 4, 5, 664, 3, 2, 1000, 1001, 4, 5, 1007, 1008, 2009]), (20, [0], [50, 1, 0, 2, 0, 2, 0, 1, 2, 0, 2]), (20, [1], [60, 2, 2, 596, 0, 1, 7, 8]), (20, [1, 2], [60, 1, 3, 658, 1, 7, 8, 1009]), (20, [1], [50, 1, 0, 0, 0, 2, 0, 1, 2, 0, 0]), (20, [0], [60, 0, 1, 648, 17]), (20, [0, 1, 2, 7], [60, 4, 5, 665, 3, 2, 1000, 1001, 4, 5, 1007, 1008, 2009]), (20, [0], [60, 2, 2, 668, 3, 2, 7, 9]), (20, [0, 8], [60, 1, 1, 635, 2, 10]), (20, [0, 8], [60, 2, 2, 691, 3, 2, 4, 12]), (20, [4], [60, 0, 1, 543, 6]), (20, [10, 11], [62, 2000000]), (102, [11], [2080768, 7, 8]), (23, [11, 6], [0, 1, -1]), (23, [11, 6], [0, -1, 1]), (102, [9], [42202988866171078964695874163900940288, 10000, 10001]), (102, [9], [36008044431881044754432]), (7, [8, 9], [4]), (102, [7], [9149585060559937601536]), (102, [7], [276701161105643274240]), (8, [7], [1])], [], [], [(20, [5, 6], [62, 2000000])], [], [])
theorem oo_La_lay_3 {kA : Nat → ClassId} : or_ok PRD kA GG o_La_lay_3 := by
  refine or_mk fun A ta ws vs hD hth hl => ?_
  intro t0 r0 t1 r1 t2 r2 t4 r4 t5 r5 t6 k6 t7 k7 t8 k8 t9 k9 t10 r10 t11 k11 f0 f1 f2 f3 f4 f5 f6 f7 f8 f9 f10 f11 f12 f13 f14 f15 f16 f17 ta1 w1 le1 s1 f19 f20 ta2 w2 le2 s2 ta3 w3 le3 s3 f23 ta4 w4 le4 s4 ta5 w5 le5 s5 f26
  replace f0 := shm_5 f0
  replace f1 := shm_7 f1
  replace f2 := shm_22 f2
  replace f3 := shm_1091 f3
  replace f4 := shm_1607 f4
  replace f5 := shm_1887 f5
  replace f6 := shm_1091 f6
  replace f7 := shm_1092 f7
  replace f8 := shm_386 f8
  replace f9 := shm_1906 f9
  replace f10 := shm_1220 f10
  replace f11 := shm_1096 f11
  replace f12 := shm_1089 f12
  replace f13 := shm_869 f13
  replace f14 := shm_875 f14
  replace f15 := shm_876 f15
  replace f16 := shm_1607 f16
  replace f17 := shm_161 f17
  replace f19 := shm_7 f19
  replace f20 := shm_22 f20
  replace f23 := shm_21 f23
  replace f26 := shm_142 f26
  have q10 : n_v vs 10 = n_v vs 5 := f0.symm
  simp only [q10] at f17
  have cr_0_4 := fdq_219 hD hth r0
  have cr_0_5 := fdq_248 hD hth r0
  have cr_0_7 := fdq_215 hD hth r0
  have cr_0_9 := fdq_216 hD hth r0
  have cr_0_10 := fdq_5 hD hth r0
  have cr_0_12 := fdq_217 hD hth r0
  have cr_0_17 := fdq_251 hD hth r0
  have cr_1_7 := fdq_46 hD hth r1
  have cr_1_8 := fdq_47 hD hth r1
  have cr_2_9 := fdq_76 hD hth r2
  have cr_4_6 := fdq_115 hD hth r4
  have hK_0_4 := elq_131 hD hth cr_0_4
  have hK_0_5 := elq_155 hD hth cr_0_5
  have hK_0_7 := elq_128 hD hth cr_0_7
  have hK_0_9 := elq_129 hD hth cr_0_9
  have hK_0_10 := elq_39 hD hth cr_0_10
  have hK_0_12 := elq_130 hD hth cr_0_12
  have hK_0_17 := elq_158 hD hth cr_0_17
  have hK_1_7 := elq_11 hD hth cr_1_7
  have hK_1_8 := elq_12 hD hth cr_1_8
  have hK_2_9 := elq_38 hD hth cr_2_9
  have hK_4_6 := elq_58 hD hth cr_4_6
  have kz_0_2 := fdq_77 hD hth r0
  have kz_0_3 := fdq_218 hD hth r0
  have kz_1_0 := fdq_21 hD hth r1
  have kz_1_1 := fdq_30 hD hth r1
  have nf0 : fc_1 PRD (20, [5, 6], [62, 2000000]) ws (vs) := by
    refine ⟨nf_in hl rfl, sgq_161 ?_⟩
    · show HY ws (n_v vs 5) (v_iv (n_v vs 6) + (((2000000 : Nat) : Int) - 2000000))
      exact hy_le f17 (by omega)
  refine ⟨(fun _ h => (by cases h)), [], trivial, ?_, (fun _ h => (by cases h))⟩
  rw [List.append_nil]
  exact List.forall_mem_cons.mpr ⟨⟨show (20 : Nat) < 100 from by decide, nf0⟩, (fun _ h => (by cases h))⟩
set_option maxHeartbeats 4000000 in
theorem vc_La_lay_4_0 (x8 : Int) (layerCount_0 : Int) (layerStart_0 : Int → Int) (k8 : 0 ≤ x8 ∧ x8 ≤ 6) (f9 : LST (layerCount_0) (layerStart_0) (x8)) (kz_0_2 : 0 ≤ layerCount_0 ∧ layerCount_0 ≤ 24) : LS6 (layerCount_0) (layerStart_0) := by
  first
    | exact ls6_of ‹LST _ _ _› (by omega)
  
set_option maxHeartbeats 4000000 in
theorem vc_La_lay_4_1 (x7 : Int) (x8 : Int) (layerOf_0 : Int → Int) (firstJoint_0 : Int → Int) (tail_0o1 : Int → Int) (head_0o1 : Int → Int) (turned_0o2 : Int → Int) (items_0 : Int) (layerCount_0 : Int) (nodes_0o1 : Int) (edges_0o1 : Int) (slot_0 : Int → Int) (k7 : 1 ≤ x7 ∧ x7 ≤ 1) (k8 : 0 ≤ x8 ∧ x8 ≤ 6) (f7 : MIA (items_0) (layerCount_0) (nodes_0o1) (edges_0o1) (layerOf_0) (firstJoint_0) (tail_0o1) (head_0o1) (turned_0o2) (x7)) (f10 : SLW (items_0) (layerCount_0) (layerOf_0) (slot_0) (x8)) (kz_0_2 : 0 ≤ layerCount_0 ∧ layerCount_0 ≤ 24) (kz_0_3 : 0 ≤ items_0 ∧ items_0 ≤ 72) (kz_1_0 : 0 ≤ nodes_0o1 ∧ nodes_0o1 ≤ 24) (kz_1_1 : 0 ≤ edges_0o1 ∧ edges_0o1 ≤ 48) : SLT (items_0) (slot_0) := by
  first
    | (rcases (‹MIA _ _ _ _ _ _ _ _ _ _›) with q | q; omega; exact slt_of ‹SLW _ _ _ _ _› q (by omega))
  
  
def o_La_lay_4 : or_T := (40, 10, [(0, (2, 0, 0, [4])), (1, (2, 0, 0, [3])), (7, (0, 1, 1, [])), (8, (0, 0, 6, []))], [(20, [0, 1, 2, 7], [60, 4, 5, 665, 3, 2, 1000, 1001, 4, 5, 1007, 1008, 2009]), (20, [0, 8], [60, 1, 1, 635, 2, 10]), (20, [0, 8], [60, 2, 2, 691, 3, 2, 4, 12])], [], [], [(20, [0], [60, 1, 1, 636, 2, 10]), (20, [0], [60, 1, 1, 688, 3, 12])], [], [])
theorem oo_La_lay_4 {kA : Nat → ClassId} : or_ok PRD kA GG o_La_lay_4 := by
  refine or_mk fun A ta ws vs hD hth hl => ?_
  intro t0 r0 t1 r1 t7 k7 t8 k8 f7 f9 f10
  have kz_0_2 := fdq_77 hD hth r0
  have kz_0_3 := fdq_218 hD hth r0
  have kz_1_0 := fdq_21 hD hth r1
  have kz_1_1 := fdq_30 hD hth r1
  have nf0 : fc_1 PRD (20, [0], [60, 1, 1, 636, 2, 10]) ws (vs) := ⟨nf_in hl rfl, sgq_397 (vc_La_lay_4_0 (v_iv (n_v vs 8)) (w_fi ws (n_v vs 0) 2) (w_ei ws (w_ar ws (n_v vs 0) 10)) k8 (shm_875 f9) kz_0_2)⟩
  have nf1 : fc_1 PRD (20, [0], [60, 1, 1, 688, 3, 12]) ws (vs) := ⟨nf_in hl rfl, sgq_870 (vc_La_lay_4_1 (v_iv (n_v vs 7)) (v_iv (n_v vs 8)) (w_ei ws (w_ar ws (n_v vs 0) 4)) (w_ei ws (w_ar ws (n_v vs 0) 5)) (w_ei ws (w_ar ws (n_v vs 1) 7)) (w_ei ws (w_ar ws (n_v vs 1) 8)) (w_ei ws (w_ar ws (n_v vs 2) 9)) (w_fi ws (n_v vs 0) 3) (w_fi ws (n_v vs 0) 2) (w_fi ws (n_v vs 1) 0) (w_fi ws (n_v vs 1) 1) (w_ei ws (w_ar ws (n_v vs 0) 12)) k7 k8 (shm_1089 f7) (shm_876 f10) kz_0_2 kz_0_3 kz_1_0 kz_1_1)⟩
  refine ⟨(fun _ h => (by cases h)), [], trivial, ?_, (fun _ h => (by cases h))⟩
  rw [List.append_nil]
  exact List.forall_mem_cons.mpr ⟨⟨show (20 : Nat) < 100 from by decide, nf0⟩, List.forall_mem_cons.mpr ⟨⟨show (20 : Nat) < 100 from by decide, nf1⟩, (fun _ h => (by cases h))⟩⟩
set_option maxHeartbeats 4000000 in
theorem vc_La_lay_5_0 (layerCount_0 : Int) (f3 : 1 ≤ layerCount_0) (kz_0_2 : 0 ≤ layerCount_0 ∧ layerCount_0 ≤ 24) : (-1) * layerCount_0 + 0 ≤ (-1) := by
  first
    | omega
    | (rcases (‹MIA _ _ _ _ _ _ _ _ _ _›) with q | q; omega; have := q.1.2.2.2.1; omega)
  
def o_La_lay_5 : or_T := (51, 10, [(0, (2, 0, 0, [4])), (1, (2, 0, 0, [3])), (2, (2, 0, 0, [2])), (7, (0, 1, 1, [])), (8, (0, 0, 6, [])), (9, (0, 6, 6, []))], [(20, [0], [60, 1, 1, 636, 2, 10]), (20, [0], [60, 1, 1, 688, 3, 12]), (20, [0, 1, 2], [60, 4, 5, 664, 3, 2, 1000, 1001, 4, 5, 1007, 1008, 2009]), (20, [0], [50, 1, 0, 2, 0, 2, 0, 1, 2, 0, 2]), (20, [1], [60, 2, 2, 596, 0, 1, 7, 8]), (20, [1, 2], [60, 1, 3, 658, 1, 7, 8, 1009]), (20, [1], [50, 1, 0, 0, 0, 2, 0, 1, 2, 0, 0]), (20, [0], [60, 0, 1, 648, 17]), (20, [0, 1, 2, 7], [60, 4, 5, 665, 3, 2, 1000, 1001, 4, 5, 1007, 1008, 2009]), (20, [0], [60, 2, 2, 668, 3, 2, 7, 9]), (20, [0, 8], [60, 1, 1, 635, 2, 10]), (20, [0, 8], [60, 2, 2, 691, 3, 2, 4, 12]), (102, [9], [535988595805704731754496]), (7, [8, 9], [5]), (102, [7], [9149585060559937601536]), (102, [7], [276701161105643274240]), (8, [7], [1])], [], [], [(20, [0], [30, -1, -1, 1, 2])], [], [])
theorem oo_La_lay_5 {kA : Nat → ClassId} : or_ok PRD kA GG o_La_lay_5 := by
  refine or_mk fun A ta ws vs hD hth hl => ?_
  intro t0 r0 t1 r1 t2 r2 t7 k7 t8 k8 t9 k9 f0 f1 f2 f3 f4 f5 f6 f7 f8 f9 f10 f11 ta1 w1 le1 s1 f13 ta2 w2 le2 s2 ta3 w3 le3 s3 f16
  have kz_0_2 := fdq_77 hD hth r0
  have nf0 : fc_1 PRD (20, [0], [30, -1, -1, 1, 2]) ws (vs) := ⟨nf_in hl rfl, sgq_1887 (vc_La_lay_5_0 (w_fi ws (n_v vs 0) 2) (shm_1092 f3) kz_0_2)⟩
  refine ⟨(fun _ h => (by cases h)), [], trivial, ?_, (fun _ h => (by cases h))⟩
  rw [List.append_nil]
  exact List.forall_mem_cons.mpr ⟨⟨show (20 : Nat) < 100 from by decide, nf0⟩, (fun _ h => (by cases h))⟩
set_option maxHeartbeats 4000000 in
theorem vc_La_lay_6_1 (x6 : Int) (gy : Int) (k6 : 0 ≤ x6 ∧ x6 ≤ 3072) (ey2 : gy = x6) : 1 * gy + ((-1) * x6 + 0) ≤ 0 := by
  first
    | omega
    | (rcases (‹MIA _ _ _ _ _ _ _ _ _ _›) with q | q; omega; have := q.1.2.2.2.1; omega)
  
set_option maxHeartbeats 4000000 in
theorem vc_La_lay_6_2 (x6 : Int) (gy : Int) (k6 : 0 ≤ x6 ∧ x6 ≤ 3072) (ey2 : gy = x6) : (-1) * gy + (1 * x6 + 0) ≤ 0 := by
  first
    | omega
    | (rcases (‹MIA _ _ _ _ _ _ _ _ _ _›) with q | q; omega; have := q.1.2.2.2.1; omega)
  
set_option maxHeartbeats 4000000 in
theorem vc_La_lay_6_3 (layerCount_0 : Int) (items_0 : Int) (layerOf_0 : Int → Int) (firstJoint_0 : Int → Int) (tail_0o1 : Int → Int) (head_0o1 : Int → Int) (turned_0o2 : Int → Int) (nodes_0o1 : Int) (edges_0o1 : Int) (f3 : MIT (items_0) (layerCount_0) (nodes_0o1) (edges_0o1) (layerOf_0) (firstJoint_0) (tail_0o1) (head_0o1) (turned_0o2)) (kz_0_2 : 0 ≤ layerCount_0 ∧ layerCount_0 ≤ 24) (kz_0_3 : 0 ≤ items_0 ∧ items_0 ≤ 72) (kz_1_0 : 0 ≤ nodes_0o1 ∧ nodes_0o1 ≤ 24) (kz_1_1 : 0 ≤ edges_0o1 ∧ edges_0o1 ≤ 48) : MIT (items_0) (layerCount_0) (nodes_0o1) (edges_0o1) (layerOf_0) (firstJoint_0) (tail_0o1) (head_0o1) (turned_0o2) := by
  first
    | assumption
    | (rcases (‹MIA _ _ _ _ _ _ _ _ _ _›) with q | q; omega; exact q)
  
set_option maxHeartbeats 4000000 in
theorem vc_La_lay_6_4 (place_0o4 : Int → Int) (f14 : PBZ (place_0o4)) : PBZ (place_0o4) := by
  assumption
def o_La_lay_6 : or_T := (57, 10, [(0, (2, 0, 0, [4])), (1, (2, 0, 0, [3])), (2, (2, 0, 0, [2])), (4, (2, 0, 0, [10])), (5, (2, 0, 0, [12])), (6, (0, 0, 3072, [])), (7, (0, 1, 1, [])), (8, (0, 0, 6, [])), (9, (0, 6, 6, []))], [(20, [0], [30, -1, -1, 1, 2]), (20, [0], [60, 1, 1, 636, 2, 10]), (20, [0], [60, 1, 1, 688, 3, 12]), (20, [0, 1, 2], [60, 4, 5, 664, 3, 2, 1000, 1001, 4, 5, 1007, 1008, 2009]), (20, [0], [50, 1, 0, 2, 0, 2, 0, 1, 2, 0, 2]), (20, [1], [60, 2, 2, 596, 0, 1, 7, 8]), (20, [1, 2], [60, 1, 3, 658, 1, 7, 8, 1009]), (20, [1], [50, 1, 0, 0, 0, 2, 0, 1, 2, 0, 0]), (20, [0], [60, 0, 1, 648, 17]), (20, [5, 6], [62, 2000000]), (20, [0, 1, 2, 7], [60, 4, 5, 665, 3, 2, 1000, 1001, 4, 5, 1007, 1008, 2009]), (20, [0], [60, 2, 2, 668, 3, 2, 7, 9]), (20, [0, 8], [60, 1, 1, 635, 2, 10]), (20, [0, 8], [60, 2, 2, 691, 3, 2, 4, 12]), (20, [4], [60, 0, 1, 543, 6]), (102, [9], [42202988866171078964695874163900940288, 10000, 10001]), (102, [9], [535988595805704731754496]), (7, [8, 9], [5]), (102, [7], [9149585060559937601536]), (102, [7], [276701161105643274240]), (8, [7], [1])], [], [(2, 0, 0, [12]), (0, 0, 3072, [])], [(24, [5, 10], []), (23, [11, 6], [0, 1, -1]), (23, [11, 6], [0, -1, 1]), (20, [0, 1, 2], [60, 4, 5, 664, 3, 2, 1000, 1001, 4, 5, 1007, 1008, 2009]), (20, [4], [60, 0, 1, 543, 6]), (20, [10, 11], [62, 2000000])], [], [])
theorem oo_La_lay_6 {kA : Nat → ClassId} : or_ok PRD kA GG o_La_lay_6 := by
  refine or_mk fun A ta ws vs hD hth hl => ?_
  intro t0 r0 t1 r1 t2 r2 t4 r4 t5 r5 t6 k6 t7 k7 t8 k8 t9 k9 f0 f1 f2 f3 f4 f5 f6 f7 f8 f9 f10 f11 f12 f13 f14 ta1 w1 le1 s1 ta2 w2 le2 s2 f17 ta3 w3 le3 s3 ta4 w4 le4 s4 f20
  replace f0 := shm_1887 f0
  replace f1 := shm_397 f1
  replace f2 := shm_870 f2
  replace f3 := shm_1091 f3
  replace f4 := shm_1092 f4
  replace f5 := shm_386 f5
  replace f6 := shm_1906 f6
  replace f7 := shm_1220 f7
  replace f8 := shm_1096 f8
  replace f9 := shm_161 f9
  replace f10 := shm_1089 f10
  replace f11 := shm_869 f11
  replace f12 := shm_875 f12
  replace f13 := shm_876 f13
  replace f14 := shm_1607 f14
  replace f17 := shm_24 f17
  replace f20 := shm_142 f20
  have cr_0_4 := fdq_219 hD hth r0
  have cr_0_5 := fdq_248 hD hth r0
  have cr_0_7 := fdq_215 hD hth r0
  have cr_0_9 := fdq_216 hD hth r0
  have cr_0_10 := fdq_5 hD hth r0
  have cr_0_12 := fdq_217 hD hth r0
  have cr_0_17 := fdq_251 hD hth r0
  have cr_1_7 := fdq_46 hD hth r1
  have cr_1_8 := fdq_47 hD hth r1
  have cr_2_9 := fdq_76 hD hth r2
  have cr_4_6 := fdq_115 hD hth r4
  have hK_0_4 := elq_131 hD hth cr_0_4
  have hK_0_5 := elq_155 hD hth cr_0_5
  have hK_0_7 := elq_128 hD hth cr_0_7
  have hK_0_9 := elq_129 hD hth cr_0_9
  have hK_0_10 := elq_39 hD hth cr_0_10
  have hK_0_12 := elq_130 hD hth cr_0_12
  have hK_0_17 := elq_158 hD hth cr_0_17
  have hK_1_7 := elq_11 hD hth cr_1_7
  have hK_1_8 := elq_12 hD hth cr_1_8
  have hK_2_9 := elq_38 hD hth cr_2_9
  have hK_4_6 := elq_58 hD hth cr_4_6
  have kz_0_2 := fdq_77 hD hth r0
  have kz_0_3 := fdq_218 hD hth r0
  have kz_1_0 := fdq_21 hD hth r1
  have kz_1_1 := fdq_30 hD hth r1
  obtain ⟨y, ey, hy⟩ := iv_ex (ta := ta) (lo := 0) (hi := 3072) (z := v_iv (n_v vs 6)) (by omega) (by omega) (by omega) (by omega)
  have ey2 : v_iv (Value.int y) = v_iv (n_v vs 6) := ey
  have ey3 : 0 ≤ v_iv (Value.int y) ∧ v_iv (Value.int y) ≤ 3072 := tv_rng hy
  have e_0 : n_v (vs ++ [n_v vs 5, Value.int y]) 0 = n_v vs 0 := n_v_old (by rw [hl]; decide)
  have e_1 : n_v (vs ++ [n_v vs 5, Value.int y]) 1 = n_v vs 1 := n_v_old (by rw [hl]; decide)
  have e_2 : n_v (vs ++ [n_v vs 5, Value.int y]) 2 = n_v vs 2 := n_v_old (by rw [hl]; decide)
  have e_4 : n_v (vs ++ [n_v vs 5, Value.int y]) 4 = n_v vs 4 := n_v_old (by rw [hl]; decide)
  have e_5 : n_v (vs ++ [n_v vs 5, Value.int y]) 5 = n_v vs 5 := n_v_old (by rw [hl]; decide)
  have e_6 : n_v (vs ++ [n_v vs 5, Value.int y]) 6 = n_v vs 6 := n_v_old (by rw [hl]; decide)
  have e_10 : n_v (vs ++ [n_v vs 5, Value.int y]) 10 = n_v vs 5 := n_v_new0 hl
  have e_11 : n_v (vs ++ [n_v vs 5, Value.int y]) 11 = Value.int y := n_v_new1 hl
  have nf0 : fc_1 PRD (24, [5, 10], []) ws (vs ++ [n_v vs 5, Value.int y]) := by
    refine ⟨nf_inA hl rfl, sgq_5 ?_⟩
    · show n_v (vs ++ [n_v vs 5, Value.int y]) 5 = n_v (vs ++ [n_v vs 5, Value.int y]) 10
      first | rfl | simp only [e_5, e_10]
  have nf1 : fc_1 PRD (23, [11, 6], [0, 1, -1]) ws (vs ++ [n_v vs 5, Value.int y]) := by
    refine ⟨nf_inA hl rfl, sgq_7 ?_⟩
    · show 1 * v_iv (n_v (vs ++ [n_v vs 5, Value.int y]) 11) + ((-1) * v_iv (n_v (vs ++ [n_v vs 5, Value.int y]) 6) + 0) ≤ 0
      simp only [e_6, e_11]
      exact vc_La_lay_6_1 (v_iv (n_v vs 6)) (v_iv (Value.int y)) k6 ey2
  have nf2 : fc_1 PRD (23, [11, 6], [0, -1, 1]) ws (vs ++ [n_v vs 5, Value.int y]) := by
    refine ⟨nf_inA hl rfl, sgq_22 ?_⟩
    · show (-1) * v_iv (n_v (vs ++ [n_v vs 5, Value.int y]) 11) + (1 * v_iv (n_v (vs ++ [n_v vs 5, Value.int y]) 6) + 0) ≤ 0
      simp only [e_6, e_11]
      exact vc_La_lay_6_2 (v_iv (n_v vs 6)) (v_iv (Value.int y)) k6 ey2
  have nf3 : fc_1 PRD (20, [0, 1, 2], [60, 4, 5, 664, 3, 2, 1000, 1001, 4, 5, 1007, 1008, 2009]) ws (vs ++ [n_v vs 5, Value.int y]) := by
    refine ⟨nf_inA hl rfl, sgq_1091 ?_⟩
    · show MIT (w_fi ws (n_v (vs ++ [n_v vs 5, Value.int y]) 0) 3) (w_fi ws (n_v (vs ++ [n_v vs 5, Value.int y]) 0) 2) (w_fi ws (n_v (vs ++ [n_v vs 5, Value.int y]) 1) 0) (w_fi ws (n_v (vs ++ [n_v vs 5, Value.int y]) 1) 1) (w_ei ws (w_ar ws (n_v (vs ++ [n_v vs 5, Value.int y]) 0) 4)) (w_ei ws (w_ar ws (n_v (vs ++ [n_v vs 5, Value.int y]) 0) 5)) (w_ei ws (w_ar ws (n_v (vs ++ [n_v vs 5, Value.int y]) 1) 7)) (w_ei ws (w_ar ws (n_v (vs ++ [n_v vs 5, Value.int y]) 1) 8)) (w_ei ws (w_ar ws (n_v (vs ++ [n_v vs 5, Value.int y]) 2) 9))
      simp only [e_0, e_1, e_2]
      exact vc_La_lay_6_3 (w_fi ws (n_v vs 0) 2) (w_fi ws (n_v vs 0) 3) (w_ei ws (w_ar ws (n_v vs 0) 4)) (w_ei ws (w_ar ws (n_v vs 0) 5)) (w_ei ws (w_ar ws (n_v vs 1) 7)) (w_ei ws (w_ar ws (n_v vs 1) 8)) (w_ei ws (w_ar ws (n_v vs 2) 9)) (w_fi ws (n_v vs 1) 0) (w_fi ws (n_v vs 1) 1) f3 kz_0_2 kz_0_3 kz_1_0 kz_1_1
  have nf4 : fc_1 PRD (20, [4], [60, 0, 1, 543, 6]) ws (vs ++ [n_v vs 5, Value.int y]) := by
    refine ⟨nf_inA hl rfl, sgq_1607 ?_⟩
    · show PBZ (w_ei ws (w_ar ws (n_v (vs ++ [n_v vs 5, Value.int y]) 4) 6))
      rw [e_4]
      exact vc_La_lay_6_4 (w_ei ws (w_ar ws (n_v vs 4) 6)) f14
  have nf5 : fc_1 PRD (20, [10, 11], [62, 2000000]) ws (vs ++ [n_v vs 5, Value.int y]) := by
    refine ⟨nf_inA hl rfl, sgq_161 ?_⟩
    · show HY ws (n_v (vs ++ [n_v vs 5, Value.int y]) 10) (v_iv (n_v (vs ++ [n_v vs 5, Value.int y]) 11) + (((2000000 : Nat) : Int) - 2000000))
      simp only [e_10, e_11]
      exact hy_le f9 (by omega)
  exact ⟨(fun _ h => (by cases h)), [n_v vs 5, Value.int y], ag_two t5 hy, List.forall_mem_cons.mpr ⟨⟨show (24 : Nat) < 100 from by decide, nf0⟩, List.forall_mem_cons.mpr ⟨⟨show (23 : Nat) < 100 from by decide, nf1⟩, List.forall_mem_cons.mpr ⟨⟨show (23 : Nat) < 100 from by decide, nf2⟩, List.forall_mem_cons.mpr ⟨⟨show (20 : Nat) < 100 from by decide, nf3⟩, List.forall_mem_cons.mpr ⟨⟨show (20 : Nat) < 100 from by decide, nf4⟩, List.forall_mem_cons.mpr ⟨⟨show (20 : Nat) < 100 from by decide, nf5⟩, (fun _ h => (by cases h))⟩⟩⟩⟩⟩⟩, (fun _ h => (by cases h))⟩
def o_La_lay_7 : or_T := (61, 13, [(0, (2, 0, 0, [4])), (1, (2, 0, 0, [3])), (2, (2, 0, 0, [2])), (4, (2, 0, 0, [10])), (5, (2, 0, 0, [12])), (6, (0, 0, 3072, [])), (7, (0, 1, 1, [])), (8, (0, 0, 6, [])), (9, (0, 6, 6, [])), (10, (2, 0, 0, [12])), (11, (0, 0, 3072, []))], [(24, [5, 10], []), (23, [11, 6], [0, 1, -1]), (23, [11, 6], [0, -1, 1]), (20, [0, 1, 2], [60, 4, 5, 664, 3, 2, 1000, 1001, 4, 5, 1007, 1008, 2009]), (20, [4], [60, 0, 1, 543, 6]), (20, [0], [30, -1, -1, 1, 2]), (20, [0], [60, 1, 1, 636, 2, 10]), (20, [0], [60, 1, 1, 688, 3, 12]), (20, [0, 1, 2], [60, 4, 5, 664, 3, 2, 1000, 1001, 4, 5, 1007, 1008, 2009]), (20, [0], [50, 1, 0, 2, 0, 2, 0, 1, 2, 0, 2]), (20, [1], [60, 2, 2, 596, 0, 1, 7, 8]), (20, [1, 2], [60, 1, 3, 658, 1, 7, 8, 1009]), (20, [1], [50, 1, 0, 0, 0, 2, 0, 1, 2, 0, 0]), (20, [0], [60, 0, 1, 648, 17]), (20, [0, 1, 2, 7], [60, 4, 5, 665, 3, 2, 1000, 1001, 4, 5, 1007, 1008, 2009]), (20, [0], [60, 2, 2, 668, 3, 2, 7, 9]), (20, [0, 8], [60, 1, 1, 635, 2, 10]), (20, [0, 8], [60, 2, 2, 691, 3, 2, 4, 12]), (20, [4], [60, 0, 1, 543, 6]), (20, [10, 11], [62, 2000000]), (102, [11], [2080768, 7, 8]), (23, [11, 6], [0, 1, -1]), (23, [11, 6], [0, -1, 1]), (102, [9], [42202988866171078964695874163900940288, 10000, 10001]), (102, [9], [535988595805704731754496]), (7, [8, 9], [5]), (102, [7], [9149585060559937601536]), (102, [7], [276701161105643274240]), (8, [7], [1])], [], [], [(20, [5, 6], [62, 2000000])], [], [])
theorem oo_La_lay_7 {kA : Nat → ClassId} : or_ok PRD kA GG o_La_lay_7 := by
  refine or_mk fun A ta ws vs hD hth hl => ?_
  intro t0 r0 t1 r1 t2 r2 t4 r4 t5 r5 t6 k6 t7 k7 t8 k8 t9 k9 t10 r10 t11 k11 f0 f1 f2 f3 f4 f5 f6 f7 f8 f9 f10 f11 f12 f13 f14 f15 f16 f17 f18 f19 ta1 w1 le1 s1 f21 f22 ta2 w2 le2 s2 ta3 w3 le3 s3 f25 ta4 w4 le4 s4 ta5 w5 le5 s5 f28
  replace f0 := shm_5 f0
  replace f1 := shm_7 f1
  replace f2 := shm_22 f2
  replace f3 := shm_1091 f3
  replace f4 := shm_1607 f4
  replace f5 := shm_1887 f5
  replace f6 := shm_397 f6
  replace f7 := shm_870 f7
  replace f8 := shm_1091 f8
  replace f9 := shm_1092 f9
  replace f10 := shm_386 f10
  replace f11 := shm_1906 f11
  replace f12 := shm_1220 f12
  replace f13 := shm_1096 f13
  replace f14 := shm_1089 f14
  replace f15 := shm_869 f15
  replace f16 := shm_875 f16
  replace f17 := shm_876 f17
  replace f18 := shm_1607 f18
  replace f19 := shm_161 f19
  replace f21 := shm_7 f21
  replace f22 := shm_22 f22
  replace f25 := shm_24 f25
  replace f28 := shm_142 f28
  have q10 : n_v vs 10 = n_v vs 5 := f0.symm
  simp only [q10] at f19
  have cr_0_4 := fdq_219 hD hth r0
  have cr_0_5 := fdq_248 hD hth r0
  have cr_0_7 := fdq_215 hD hth r0
  have cr_0_9 := fdq_216 hD hth r0
  have cr_0_10 := fdq_5 hD hth r0
  have cr_0_12 := fdq_217 hD hth r0
  have cr_0_17 := fdq_251 hD hth r0
  have cr_1_7 := fdq_46 hD hth r1
  have cr_1_8 := fdq_47 hD hth r1
  have cr_2_9 := fdq_76 hD hth r2
  have cr_4_6 := fdq_115 hD hth r4
  have hK_0_4 := elq_131 hD hth cr_0_4
  have hK_0_5 := elq_155 hD hth cr_0_5
  have hK_0_7 := elq_128 hD hth cr_0_7
  have hK_0_9 := elq_129 hD hth cr_0_9
  have hK_0_10 := elq_39 hD hth cr_0_10
  have hK_0_12 := elq_130 hD hth cr_0_12
  have hK_0_17 := elq_158 hD hth cr_0_17
  have hK_1_7 := elq_11 hD hth cr_1_7
  have hK_1_8 := elq_12 hD hth cr_1_8
  have hK_2_9 := elq_38 hD hth cr_2_9
  have hK_4_6 := elq_58 hD hth cr_4_6
  have kz_0_2 := fdq_77 hD hth r0
  have kz_0_3 := fdq_218 hD hth r0
  have kz_1_0 := fdq_21 hD hth r1
  have kz_1_1 := fdq_30 hD hth r1
  have nf0 : fc_1 PRD (20, [5, 6], [62, 2000000]) ws (vs) := by
    refine ⟨nf_in hl rfl, sgq_161 ?_⟩
    · show HY ws (n_v vs 5) (v_iv (n_v vs 6) + (((2000000 : Nat) : Int) - 2000000))
      exact hy_le f19 (by omega)
  refine ⟨(fun _ h => (by cases h)), [], trivial, ?_, (fun _ h => (by cases h))⟩
  rw [List.append_nil]
  exact List.forall_mem_cons.mpr ⟨⟨show (20 : Nat) < 100 from by decide, nf0⟩, (fun _ h => (by cases h))⟩
def n_La_lay_an : List an_T := []
def t_La_lay_ct : ct_L := [(1, 97, e_La_findLayers), (1, 101, e_La_makeItems), (1, 105, e_La_makePieces), (1, 108, e_La_listLayers), (1, 112, e_La_bestOrders), (1, 115, e_La_sweep), (1, 118, e_La_stretchRows), (1, 121, e_La_write)]
set_option maxRecDepth 100000 in
theorem c_La_lay {l : Launch} {D : va_G} {kA : Nat → ClassId} (h_La_bestOrders : ct_ok PRD l D kA GG y_La_bestOrders z_La_bestOrders e_La_bestOrders) (h_La_findLayers : ct_ok PRD l D kA GG y_La_findLayers z_La_findLayers e_La_findLayers) (h_La_listLayers : ct_ok PRD l D kA GG y_La_listLayers z_La_listLayers e_La_listLayers) (h_La_makeItems : ct_ok PRD l D kA GG y_La_makeItems z_La_makeItems e_La_makeItems) (h_La_makePieces : ct_ok PRD l D kA GG y_La_makePieces z_La_makePieces e_La_makePieces) (h_La_stretchRows : ct_ok PRD l D kA GG y_La_stretchRows z_La_stretchRows e_La_stretchRows) (h_La_sweep : ct_ok PRD l D kA GG y_La_sweep z_La_sweep e_La_sweep) (h_La_write : ct_ok PRD l D kA GG y_La_write z_La_write e_La_write) : ct_ok PRD l D kA GG y_La_lay z_La_lay e_La_lay := chk_all_ok (FT := []) (PT := [(18, 4, 1, .object "DrawingHouse$Graph")]) (CT := t_La_lay_ct) (KT := []) (NT := []) (AN := n_La_lay_an) (OT := [o_La_lay_0, o_La_lay_1, o_La_lay_2, o_La_lay_3, o_La_lay_4, o_La_lay_5, o_La_lay_6, o_La_lay_7]) 0 200 (List.forall_mem_cons.mpr ⟨oo_La_lay_0, List.forall_mem_cons.mpr ⟨oo_La_lay_1, List.forall_mem_cons.mpr ⟨oo_La_lay_2, List.forall_mem_cons.mpr ⟨oo_La_lay_3, List.forall_mem_cons.mpr ⟨oo_La_lay_4, List.forall_mem_cons.mpr ⟨oo_La_lay_5, List.forall_mem_cons.mpr ⟨oo_La_lay_6, List.forall_mem_cons.mpr ⟨oo_La_lay_7, List.forall_mem_nil _⟩⟩⟩⟩⟩⟩⟩⟩) (by decide +kernel) ⟨List.forall_mem_nil _, List.forall_mem_cons.mpr ⟨pf_La_18, List.forall_mem_nil _⟩, List.forall_mem_cons.mpr ⟨cl_virtual (y := y_La_findLayers) (ci := 4) rfl rfl ⟨_, _, rfl⟩ (by decide +kernel) h_La_findLayers wm_1313 wm_18 wm_1310 wm_1312 wv_4_8 ⟨by decide, by decide, by decide +kernel⟩ (by decide), List.forall_mem_cons.mpr ⟨cl_virtual (y := y_La_makeItems) (ci := 4) rfl rfl ⟨_, _, rfl⟩ (by decide +kernel) h_La_makeItems wm_1366 wm_18 wm_1363 wm_1365 wv_5_0 ⟨by decide, by decide, by decide +kernel⟩ (by decide), List.forall_mem_cons.mpr ⟨cl_virtual (y := y_La_makePieces) (ci := 4) rfl rfl ⟨_, _, rfl⟩ (by decide +kernel) h_La_makePieces wm_1370 wm_18 wm_1367 wm_1369 wv_5_1 ⟨by decide, by decide, by decide +kernel⟩ (by decide), List.forall_mem_cons.mpr ⟨cl_virtual (y := y_La_listLayers) (ci := 4) rfl rfl ⟨_, _, rfl⟩ (by decide +kernel) h_La_listLayers wm_1374 wm_18 wm_1371 wm_1373 wv_5_2 ⟨by decide, by decide, by decide +kernel⟩ (by decide), List.forall_mem_cons.mpr ⟨cl_virtual (y := y_La_bestOrders) (ci := 4) rfl rfl ⟨_, _, rfl⟩ (by decide +kernel) h_La_bestOrders wm_1378 wm_18 wm_1375 wm_1377 wv_5_3 ⟨by decide, by decide, by decide +kernel⟩ (by decide), List.forall_mem_cons.mpr ⟨cl_virtual (y := y_La_sweep) (ci := 4) rfl rfl ⟨_, _, rfl⟩ (by decide +kernel) h_La_sweep wm_1428 wm_18 wm_1425 wm_1427 wv_5_13 ⟨by decide, by decide, by decide +kernel⟩ (by decide), List.forall_mem_cons.mpr ⟨cl_virtual (y := y_La_stretchRows) (ci := 4) rfl rfl ⟨_, _, rfl⟩ (by decide +kernel) h_La_stretchRows wm_1444 wm_18 wm_1441 wm_1443 wv_6_1 ⟨by decide, by decide, by decide +kernel⟩ (by decide), List.forall_mem_cons.mpr ⟨cl_virtual (y := y_La_write) (ci := 4) rfl rfl ⟨_, _, rfl⟩ (by decide +kernel) h_La_write wm_1456 wm_18 wm_1453 wm_1455 wv_6_3 ⟨by decide, by decide, by decide +kernel⟩ (by decide), List.forall_mem_nil _⟩⟩⟩⟩⟩⟩⟩⟩, List.forall_mem_nil _, List.forall_mem_nil _, GG_pl⟩ (by decide +kernel)

set_option maxHeartbeats 4000000 in
theorem vc_Mo_bars_0_0 (x4 : Int) (pt_0 : Int → Int) (ph_0 : Int → Int) (pn_0 : Int) (pm_0 : Int) (alive_0 : Int → Int) (blockOf_0 : Int → Int) (rotMany_0 : Int → Int) (rot_0 : Int → Int) (k4 : 1 ≤ x4 ∧ x4 ≤ 1) (f0 : x4 ≠ 0) (f5 : EMQ (pn_0) (pm_0) (pt_0) (ph_0) (alive_0) (blockOf_0) (rotMany_0) (rot_0) (x4)) (kz_0_31 : 0 ≤ pn_0 ∧ pn_0 ≤ 25) (kz_0_32 : 0 ≤ pm_0 ∧ pm_0 ≤ 80) : EML (pn_0) (pm_0) (pt_0) (ph_0) (alive_0) (rotMany_0) (rot_0) := by
  obtain ⟨many, b, h1, h2, h3⟩ := ‹EMQ _ _ _ _ _ _ _ _ _› (by omega)
  exact eml_of h1 h2 h3
def o_Mo_bars_0 : or_T := (18, 5, [(0, (2, 0, 0, [165])), (4, (0, 1, 1, []))], [(8, [4], [1]), (20, [0, 4], [60, 2, 6, 184, 31, 32, 33, 34, 35, 17, 36, 37])], [], [], [(20, [0], [60, 2, 5, 187, 31, 32, 33, 34, 35, 36, 37])], [], [])
theorem oo_Mo_bars_0 {kA : Nat → ClassId} : or_ok PRD kA GG o_Mo_bars_0 := by
  refine or_mk fun A ta ws vs hD hth hl => ?_
  intro t0 r0 t4 k4 f0 f5
  have kz_0_31 := fdq_145 hD hth r0
  have kz_0_32 := fdq_140 hD hth r0
  have nf0 : fc_1 PRD (20, [0], [60, 2, 5, 187, 31, 32, 33, 34, 35, 36, 37]) ws (vs) := ⟨nf_in hl rfl, sgq_1012 (vc_Mo_bars_0_0 (v_iv (n_v vs 4)) (w_ei ws (w_ar ws (n_v vs 0) 33)) (w_ei ws (w_ar ws (n_v vs 0) 34)) (w_fi ws (n_v vs 0) 31) (w_fi ws (n_v vs 0) 32) (w_ei ws (w_ar ws (n_v vs 0) 35)) (w_ei ws (w_ar ws (n_v vs 0) 17)) (w_ei ws (w_ar ws (n_v vs 0) 36)) (w_ei ws (w_ar ws (n_v vs 0) 37)) k4 (shm_142 f0) (shm_2095 f5) kz_0_31 kz_0_32)⟩
  refine ⟨(fun _ h => (by cases h)), [], trivial, ?_, (fun _ h => (by cases h))⟩
  rw [List.append_nil]
  exact List.forall_mem_cons.mpr ⟨⟨show (20 : Nat) < 100 from by decide, nf0⟩, (fun _ h => (by cases h))⟩
set_option maxHeartbeats 4000000 in
theorem vc_Mo_bars_1_0 (x2 : Int) (x5 : Int) (pt_0 : Int → Int) (ph_0 : Int → Int) (alive_0 : Int → Int) (rotMany_0 : Int → Int) (rot_0 : Int → Int) (pn_0 : Int) (pm_0 : Int) (all_0 : Int → Int) (r_0 : Int) (blockOf_0 : Int → Int) (k2 : 3 ≤ x2 ∧ x2 ≤ 24) (k5 : 1 ≤ x5 ∧ x5 ≤ 1) (f1 : EML (pn_0) (pm_0) (pt_0) (ph_0) (alive_0) (rotMany_0) (rot_0)) (f2 : 1 * x2 + ((-1) * all_0 (r_0 + 0) + 0) ≤ 0) (f3 : (-1) * x2 + (1 * all_0 (r_0 + 0) + 0) ≤ 0) (f6 : PLN (r_0) (pn_0) (pm_0) (all_0) (pt_0) (ph_0) (alive_0)) (f7 : BK (pm_0) (pt_0) (ph_0) (alive_0) (blockOf_0) (x5)) (kz_0_31 : 0 ≤ pn_0 ∧ pn_0 ≤ 25) (kz_0_32 : 0 ≤ pm_0 ∧ pm_0 ≤ 80) : BRP (r_0) (pn_0) (pm_0) (all_0) (pt_0) (ph_0) (alive_0) (rotMany_0) (rot_0) (blockOf_0) := by
  first
    | assumption
    | (have h := ‹PLN _ _ _ _ _ _ _›
       have h1 := h.2.1
       exact brp_of h ‹EML _ _ _ _ _ _ _› ‹BK _ _ _ _ _ _› (by omega) (by simp only [Int.add_zero] at *; omega))
set_option maxHeartbeats 4000000 in
theorem vc_Mo_bars_1_1 (x3 : Int) (x7 : Int) (rotMany_0 : Int → Int) (k7 : 0 ≤ x7 ∧ x7 ≤ 0) : RMN (rotMany_0) (x7) := by
  first
    | (intro j a b; exfalso; omega)
    | (have h := ‹RMN _ _›
       intro j a b
       by_cases q : j = x3
       · rw [q]; omega
       · exact h j a (by omega))
set_option maxHeartbeats 4000000 in
theorem vc_Mo_bars_1_2 (x2 : Int) (x6 : Int) (x7 : Int) (pt_0 : Int → Int) (ph_0 : Int → Int) (alive_0 : Int → Int) (pn_0 : Int) (pm_0 : Int) (all_0 : Int → Int) (r_0 : Int) (k2 : 3 ≤ x2 ∧ x2 ≤ 24) (f2 : 1 * x2 + ((-1) * all_0 (r_0 + 0) + 0) ≤ 0) (f3 : (-1) * x2 + (1 * all_0 (r_0 + 0) + 0) ≤ 0) (f6 : PLN (r_0) (pn_0) (pm_0) (all_0) (pt_0) (ph_0) (alive_0)) (kz_0_31 : 0 ≤ pn_0 ∧ pn_0 ≤ 25) (kz_0_32 : 0 ≤ pm_0 ∧ pm_0 ≤ 80) : x2 = pn_0 := by
  first
    | omega
    | (have hR := brb_R ‹BRB _ _ _ _ _ _ _ _ _ _ _›; omega)
    | (have hR := brb_R ‹BRB _ _ _ _ _ _ _ _ _ _ _›
       have hx : bvp x8 = bvp x6 ^^^ bvp 1 := by rw [← (by omega : x7 = 1)]; assumption
       have e1 := xor_1 hx (by omega) (by omega) (by omega) (by omega)
       omega)
    | (have hR := brb_R ‹BRB _ _ _ _ _ _ _ _ _ _ _›
       have hx : bvp x12 = bvp x10 ^^^ bvp 1 := by rw [← (by omega : x11 = 1)]; assumption
       have e1 := xor_1 hx (by omega) (by omega) (by omega) (by omega)
       omega)
    | (have hR := brb_R ‹BRB _ _ _ _ _ _ _ _ _ _ _›
       have r1 := brb_ro (d := x8) ‹BRB _ _ _ _ _ _ _ _ _ _ _› (by omega) (by omega)
       omega)
    | (have hR := brb_R ‹BRB _ _ _ _ _ _ _ _ _ _ _›
       have r1 := brb_ro (d := x8) ‹BRB _ _ _ _ _ _ _ _ _ _ _› (by omega) (by omega)
       have hx : bvp x12 = bvp x10 ^^^ bvp 1 := by rw [← (by omega : x11 = 1)]; assumption
       have e1 := xor_1 hx (by omega) (by omega) (by omega) (by omega)
       have r2 := brb_ro (d := x12) ‹BRB _ _ _ _ _ _ _ _ _ _ _› (by omega) (by omega)
       omega)
    | (have hR := brb_R ‹BRB _ _ _ _ _ _ _ _ _ _ _›
       have r1 := brb_ro (d := x8) ‹BRB _ _ _ _ _ _ _ _ _ _ _› (by omega) (by omega)
       have hx : bvp x12 = bvp x10 ^^^ bvp 1 := by rw [← (by omega : x11 = 1)]; assumption
       have e1 := xor_1 hx (by omega) (by omega) (by omega) (by omega)
       have r2 := brb_ro (d := x12) ‹BRB _ _ _ _ _ _ _ _ _ _ _› (by omega) (by omega)
       have b1 := ‹LNE _ _ _ _› x9 (by omega) (by omega)
       have b2 := ‹LNE _ _ _ _› x13 (by omega) (by omega)
       omega)
    | (have h := ‹PLN _ _ _ _ _ _ _›
       have h1 := h.2.1
       simp only [Int.add_zero] at *
       omega)
def o_Mo_bars_1 : or_T := (30, 8, [(0, (2, 0, 0, [165])), (2, (0, 3, 24, [])), (5, (0, 1, 1, [])), (7, (0, 0, 0, []))], [(20, [0], [60, 2, 5, 187, 31, 32, 33, 34, 35, 36, 37]), (20, [2, 0], [30, 0, 1, 0, 0, -1, 3, 2005000]), (20, [2, 0], [30, 0, -1, 0, 0, 1, 3, 2005000]), (20, [0], [60, 3, 4, 201, 5, 31, 32, 2, 33, 34, 35]), (20, [0, 5], [60, 1, 4, 97, 32, 33, 34, 35, 17])], [], [], [(20, [0], [60, 3, 7, 318, 5, 31, 32, 2, 33, 34, 35, 36, 37, 17]), (20, [0, 7], [60, 0, 1, 315, 36]), (20, [2, 0], [50, 1, 0, 1031, 1, 2, 1, 0, 2, 1, 31])], [], [])
theorem oo_Mo_bars_1 {kA : Nat → ClassId} : or_ok PRD kA GG o_Mo_bars_1 := by
  refine or_mk fun A ta ws vs hD hth hl => ?_
  intro t0 r0 t2 k2 t5 k5 t7 k7 f1 f2 f3 f6 f7
  have kz_0_31 := fdq_145 hD hth r0
  have kz_0_32 := fdq_140 hD hth r0
  have nf0 : fc_1 PRD (20, [0], [60, 3, 7, 318, 5, 31, 32, 2, 33, 34, 35, 36, 37, 17]) ws (vs) := ⟨nf_in hl rfl, sgq_2279 (vc_Mo_bars_1_0 (v_iv (n_v vs 2)) (v_iv (n_v vs 5)) (w_ei ws (w_ar ws (n_v vs 0) 33)) (w_ei ws (w_ar ws (n_v vs 0) 34)) (w_ei ws (w_ar ws (n_v vs 0) 35)) (w_ei ws (w_ar ws (n_v vs 0) 36)) (w_ei ws (w_ar ws (n_v vs 0) 37)) (w_fi ws (n_v vs 0) 31) (w_fi ws (n_v vs 0) 32) (w_ei ws (w_ar ws (n_v vs 0) 2)) (w_fi ws (n_v vs 0) 5) (w_ei ws (w_ar ws (n_v vs 0) 17)) k2 k5 (shm_1012 f1) (shm_126 f2) (shm_127 f3) (shm_1454 f6) (shm_1544 f7) kz_0_31 kz_0_32)⟩
  have nf1 : fc_1 PRD (20, [0, 7], [60, 0, 1, 315, 36]) ws (vs) := ⟨nf_in hl rfl, sgq_2280 (vc_Mo_bars_1_1 (v_iv (n_v vs 3)) (v_iv (n_v vs 7)) (w_ei ws (w_ar ws (n_v vs 0) 36)) k7)⟩
  have nf2 : fc_1 PRD (20, [2, 0], [50, 1, 0, 1031, 1, 2, 1, 0, 2, 1, 31]) ws (vs) := ⟨nf_in hl rfl, sgq_2281 (vc_Mo_bars_1_2 (v_iv (n_v vs 2)) (v_iv (n_v vs 6)) (v_iv (n_v vs 7)) (w_ei ws (w_ar ws (n_v vs 0) 33)) (w_ei ws (w_ar ws (n_v vs 0) 34)) (w_ei ws (w_ar ws (n_v vs 0) 35)) (w_fi ws (n_v vs 0) 31) (w_fi ws (n_v vs 0) 32) (w_ei ws (w_ar ws (n_v vs 0) 2)) (w_fi ws (n_v vs 0) 5) k2 (shm_126 f2) (shm_127 f3) (shm_1454 f6) kz_0_31 kz_0_32)⟩
  refine ⟨(fun _ h => (by cases h)), [], trivial, ?_, (fun _ h => (by cases h))⟩
  rw [List.append_nil]
  exact List.forall_mem_cons.mpr ⟨⟨show (20 : Nat) < 100 from by decide, nf0⟩, List.forall_mem_cons.mpr ⟨⟨show (20 : Nat) < 100 from by decide, nf1⟩, List.forall_mem_cons.mpr ⟨⟨show (20 : Nat) < 100 from by decide, nf2⟩, (fun _ h => (by cases h))⟩⟩⟩
set_option maxHeartbeats 4000000 in
theorem vc_Mo_bars_2_0 (pt_0 : Int → Int) (ph_0 : Int → Int) (pn_0 : Int) (pm_0 : Int) (all_0 : Int → Int) (alive_0 : Int → Int) (r_0 : Int) (rotMany_0 : Int → Int) (rot_0 : Int → Int) (blockOf_0 : Int → Int) (f3 : BRP (r_0) (pn_0) (pm_0) (all_0) (pt_0) (ph_0) (alive_0) (rotMany_0) (rot_0) (blockOf_0)) (kz_0_31 : 0 ≤ pn_0 ∧ pn_0 ≤ 25) (kz_0_32 : 0 ≤ pm_0 ∧ pm_0 ≤ 80) : EML (pn_0) (pm_0) (pt_0) (ph_0) (alive_0) (rotMany_0) (rot_0) := by
  first
    | assumption
    | exact eml_rot.2 ‹BRP _ _ _ _ _ _ _ _ _ _›.2.1.2.2
def o_Mo_bars_2 : or_T := (54, 4, [(0, (2, 0, 0, [165]))], [(20, [0], [60, 3, 7, 318, 5, 31, 32, 2, 33, 34, 35, 36, 37, 17])], [], [], [(20, [0], [60, 2, 5, 187, 31, 32, 33, 34, 35, 36, 37])], [], [])
theorem oo_Mo_bars_2 {kA : Nat → ClassId} : or_ok PRD kA GG o_Mo_bars_2 := by
  refine or_mk fun A ta ws vs hD hth hl => ?_
  intro t0 r0 f3
  have kz_0_31 := fdq_145 hD hth r0
  have kz_0_32 := fdq_140 hD hth r0
  have nf0 : fc_1 PRD (20, [0], [60, 2, 5, 187, 31, 32, 33, 34, 35, 36, 37]) ws (vs) := ⟨nf_in hl rfl, sgq_1012 (vc_Mo_bars_2_0 (w_ei ws (w_ar ws (n_v vs 0) 33)) (w_ei ws (w_ar ws (n_v vs 0) 34)) (w_fi ws (n_v vs 0) 31) (w_fi ws (n_v vs 0) 32) (w_ei ws (w_ar ws (n_v vs 0) 2)) (w_ei ws (w_ar ws (n_v vs 0) 35)) (w_fi ws (n_v vs 0) 5) (w_ei ws (w_ar ws (n_v vs 0) 36)) (w_ei ws (w_ar ws (n_v vs 0) 37)) (w_ei ws (w_ar ws (n_v vs 0) 17)) (shm_2279 f3) kz_0_31 kz_0_32)⟩
  refine ⟨(fun _ h => (by cases h)), [], trivial, ?_, (fun _ h => (by cases h))⟩
  rw [List.append_nil]
  exact List.forall_mem_cons.mpr ⟨⟨show (20 : Nat) < 100 from by decide, nf0⟩, (fun _ h => (by cases h))⟩
set_option maxHeartbeats 4000000 in
theorem vc_Mo_bars_3_0 (x2 : Int) (x3 : Int) (pt_0 : Int → Int) (ph_0 : Int → Int) (alive_0 : Int → Int) (rotMany_0 : Int → Int) (rot_0 : Int → Int) (pn_0 : Int) (pm_0 : Int) (all_0 : Int → Int) (r_0 : Int) (blockOf_0 : Int → Int) (k2 : 3 ≤ x2 ∧ x2 ≤ 24) (k3 : 3 ≤ x3 ∧ x3 ≤ 24) (d0 : x2 + 0 ≤ x3 ∧ x3 ≤ x2 + 4294967296) (f3 : BRP (r_0) (pn_0) (pm_0) (all_0) (pt_0) (ph_0) (alive_0) (rotMany_0) (rot_0) (blockOf_0)) (f4 : RMN (rotMany_0) (x3)) (f5 : x2 = pn_0) (kz_0_31 : 0 ≤ pn_0 ∧ pn_0 ≤ 25) (kz_0_32 : 0 ≤ pm_0 ∧ pm_0 ≤ 80) : STB (pn_0) (pm_0) (pt_0) (ph_0) (alive_0) := by
  exact brp_stb ‹BRP _ _ _ _ _ _ _ _ _ _› ‹RMN _ _› (by omega)
def o_Mo_bars_3 : or_T := (58, 4, [(0, (2, 0, 0, [165])), (2, (0, 3, 24, [])), (3, (0, 3, 24, []))], [(20, [0], [60, 3, 7, 318, 5, 31, 32, 2, 33, 34, 35, 36, 37, 17]), (20, [0, 3], [60, 0, 1, 315, 36]), (20, [2, 0], [50, 1, 0, 1031, 1, 2, 1, 0, 2, 1, 31])], [], [], [(20, [0], [60, 2, 3, 297, 31, 32, 33, 34, 35])], [], [(3, 2, 0, 4294967296)])
theorem oo_Mo_bars_3 {kA : Nat → ClassId} : or_ok PRD kA GG o_Mo_bars_3 := by
  refine or_mk fun A ta ws vs hD hth hl => ?_
  intro t0 r0 t2 k2 t3 k3 d0 f3 f4 f5
  have kz_0_31 := fdq_145 hD hth r0
  have kz_0_32 := fdq_140 hD hth r0
  have nf0 : fc_1 PRD (20, [0], [60, 2, 3, 297, 31, 32, 33, 34, 35]) ws (vs) := ⟨nf_in hl rfl, sgq_1749 (vc_Mo_bars_3_0 (v_iv (n_v vs 2)) (v_iv (n_v vs 3)) (w_ei ws (w_ar ws (n_v vs 0) 33)) (w_ei ws (w_ar ws (n_v vs 0) 34)) (w_ei ws (w_ar ws (n_v vs 0) 35)) (w_ei ws (w_ar ws (n_v vs 0) 36)) (w_ei ws (w_ar ws (n_v vs 0) 37)) (w_fi ws (n_v vs 0) 31) (w_fi ws (n_v vs 0) 32) (w_ei ws (w_ar ws (n_v vs 0) 2)) (w_fi ws (n_v vs 0) 5) (w_ei ws (w_ar ws (n_v vs 0) 17)) k2 k3 d0 (shm_2279 f3) (shm_2280 f4) (shm_2281 f5) kz_0_31 kz_0_32)⟩
  refine ⟨(fun _ h => (by cases h)), [], trivial, ?_, (fun _ h => (by cases h))⟩
  rw [List.append_nil]
  exact List.forall_mem_cons.mpr ⟨⟨show (20 : Nat) < 100 from by decide, nf0⟩, (fun _ h => (by cases h))⟩
set_option maxHeartbeats 4000000 in
theorem vc_Mo_bars_4_0 (pt_0 : Int → Int) (ph_0 : Int → Int) (alive_0 : Int → Int) (pn_0 : Int) (pm_0 : Int) (rotMany_0 : Int → Int) (rot_0 : Int → Int) (all_0 : Int → Int) (r_0 : Int) (blockOf_0 : Int → Int) (roundOf_0 : Int → Int) (roundBegin_0 : Int → Int) (roundDart_0 : Int → Int) (rounds_0 : Int) (f0 : STB (pn_0) (pm_0) (pt_0) (ph_0) (alive_0)) (f4 : BRP (r_0) (pn_0) (pm_0) (all_0) (pt_0) (ph_0) (alive_0) (rotMany_0) (rot_0) (blockOf_0)) (f7 : GRD (pm_0) (rounds_0) (pt_0) (ph_0) (alive_0) (rotMany_0) (rot_0) (roundOf_0) (roundBegin_0) (roundDart_0)) (kz_0_31 : 0 ≤ pn_0 ∧ pn_0 ≤ 25) (kz_0_32 : 0 ≤ pm_0 ∧ pm_0 ≤ 80) (kz_0_53 : 0 ≤ rounds_0 ∧ rounds_0 ≤ 160) : BRB (pn_0) (pm_0) (rounds_0) (pt_0) (ph_0) (alive_0) (rotMany_0) (rot_0) (roundOf_0) (roundBegin_0) (roundDart_0) := by
  first
    | assumption
    | exact ⟨‹STB _ _ _ _ _›, ‹BRP _ _ _ _ _ _ _ _ _ _›.2.1, ‹GRD _ _ _ _ _ _ _ _ _ _›⟩
set_option maxHeartbeats 4000000 in
theorem vc_Mo_bars_4_1 (x4 : Int) (ny_0 : Int → Int) (k4 : 0 ≤ x4 ∧ x4 ≤ 0) : NY0 (ny_0) (x4) := by
  first
    | exact nbd_0 (by omega)
    | exact nbd_st ‹NY0 _ _› (by assumption) (by omega) (by omega) (by omega) (by omega) (by omega)
def o_Mo_bars_4 : or_T := (63, 5, [(0, (2, 0, 0, [165])), (4, (0, 0, 0, []))], [(20, [0], [60, 2, 3, 297, 31, 32, 33, 34, 35]), (20, [0], [60, 3, 7, 318, 5, 31, 32, 2, 33, 34, 35, 36, 37, 17]), (20, [0], [60, 2, 8, 193, 32, 53, 33, 34, 35, 36, 37, 54, 56, 57])], [], [], [(20, [0], [60, 3, 8, 316, 31, 32, 53, 33, 34, 35, 36, 37, 54, 56, 57]), (20, [0, 4], [60, 0, 1, 783, 75])], [], [])
theorem oo_Mo_bars_4 {kA : Nat → ClassId} : or_ok PRD kA GG o_Mo_bars_4 := by
  refine or_mk fun A ta ws vs hD hth hl => ?_
  intro t0 r0 t4 k4 f0 f4 f7
  have kz_0_31 := fdq_145 hD hth r0
  have kz_0_32 := fdq_140 hD hth r0
  have kz_0_53 := fdq_275 hD hth r0
  have nf0 : fc_1 PRD (20, [0], [60, 3, 8, 316, 31, 32, 53, 33, 34, 35, 36, 37, 54, 56, 57]) ws (vs) := ⟨nf_in hl rfl, sgq_1123 (vc_Mo_bars_4_0 (w_ei ws (w_ar ws (n_v vs 0) 33)) (w_ei ws (w_ar ws (n_v vs 0) 34)) (w_ei ws (w_ar ws (n_v vs 0) 35)) (w_fi ws (n_v vs 0) 31) (w_fi ws (n_v vs 0) 32) (w_ei ws (w_ar ws (n_v vs 0) 36)) (w_ei ws (w_ar ws (n_v vs 0) 37)) (w_ei ws (w_ar ws (n_v vs 0) 2)) (w_fi ws (n_v vs 0) 5) (w_ei ws (w_ar ws (n_v vs 0) 17)) (w_ei ws (w_ar ws (n_v vs 0) 54)) (w_ei ws (w_ar ws (n_v vs 0) 56)) (w_ei ws (w_ar ws (n_v vs 0) 57)) (w_fi ws (n_v vs 0) 53) (shm_1749 f0) (shm_2279 f4) (shm_1134 f7) kz_0_31 kz_0_32 kz_0_53)⟩
  have nf1 : fc_1 PRD (20, [0, 4], [60, 0, 1, 783, 75]) ws (vs) := ⟨nf_in hl rfl, sgq_2282 (vc_Mo_bars_4_1 (v_iv (n_v vs 4)) (w_ei ws (w_ar ws (n_v vs 0) 75)) k4)⟩
  refine ⟨(fun _ h => (by cases h)), [], trivial, ?_, (fun _ h => (by cases h))⟩
  rw [List.append_nil]
  exact List.forall_mem_cons.mpr ⟨⟨show (20 : Nat) < 100 from by decide, nf0⟩, List.forall_mem_cons.mpr ⟨⟨show (20 : Nat) < 100 from by decide, nf1⟩, (fun _ h => (by cases h))⟩⟩
set_option maxHeartbeats 4000000 in
theorem vc_Mo_bars_5_0 (x3 : Int) (x5 : Int) (x6 : Int) (rotMany_0 : Int → Int) (k3 : 0 ≤ x3 ∧ x3 ≤ 23) (k5 : 1 ≤ x5 ∧ x5 ≤ 80) (k6 : 1 ≤ x6 ∧ x6 ≤ 24) (d0 : x3 + 1 ≤ x6 ∧ x6 ≤ x3 + 1) (h2 : x5 = rotMany_0 (x3)) (f8 : RMN (rotMany_0) (x3)) : RMN (rotMany_0) (x6) := by
  first
    | (intro j a b; exfalso; omega)
    | (have h := ‹RMN _ _›
       intro j a b
       by_cases q : j = x3
       · rw [q]; omega
       · exact h j a (by omega))
def o_Mo_bars_5 : or_T := (30, 7, [(3, (0, 0, 23, [])), (5, (0, 1, 80, [])), (6, (0, 1, 24, []))], [(10, [5, 4, 3], []), (9, [4, 0], [36]), (20, [0, 3], [60, 0, 1, 315, 36])], [], [], [(20, [0, 6], [60, 0, 1, 315, 36])], [], [(6, 3, 1, 1)])
theorem oo_Mo_bars_5 {kA : Nat → ClassId} : or_ok PRD kA GG o_Mo_bars_5 := by
  refine or_mk fun A ta ws vs hD hth hl => ?_
  intro t3 k3 t5 k5 t6 k6 d0 f2 f3 f8
  replace f2 := shm_107 f2
  replace f3 := shm_684 f3
  have ad_4 : v_ad (n_v vs 4) = w_ar ws (n_v vs 0) 36 := congrArg v_ad f3
  simp only [ad_4] at f2
  have h2 : v_iv (n_v vs 5) = w_ei ws (w_ar ws (n_v vs 0) 36) (v_iv (n_v vs 3)) := f2
  have nf0 : fc_1 PRD (20, [0, 6], [60, 0, 1, 315, 36]) ws (vs) := ⟨nf_in hl rfl, sgq_2280 (vc_Mo_bars_5_0 (v_iv (n_v vs 3)) (v_iv (n_v vs 5)) (v_iv (n_v vs 6)) (w_ei ws (w_ar ws (n_v vs 0) 36)) k3 k5 k6 d0 h2 (shm_2280 f8))⟩
  refine ⟨(fun _ h => (by cases h)), [], trivial, ?_, (fun _ h => (by cases h))⟩
  rw [List.append_nil]
  exact List.forall_mem_cons.mpr ⟨⟨show (20 : Nat) < 100 from by decide, nf0⟩, (fun _ h => (by cases h))⟩
set_option maxHeartbeats 4000000 in
theorem vc_Mo_bars_6_0 (x2 : Int) (x3 : Int) (x4 : Int) (pn_0 : Int) (ny_0 : Int → Int) (k2 : 3 ≤ x2 ∧ x2 ≤ 24) (k3 : 3 ≤ x3 ∧ x3 ≤ 24) (k4 : 0 ≤ x4 ∧ x4 ≤ 0) (d0 : x2 + 0 ≤ x3 ∧ x3 ≤ x2 + 4294967296) (f2 : x2 = pn_0) (f3 : NY0 (ny_0) (x3)) (kz_0_31 : 0 ≤ pn_0 ∧ pn_0 ≤ 25) : NYQ (pn_0) (ny_0) (x4) := by
  first
    | exact nbd_le ‹NY0 _ _› (by omega) (by omega) (by omega)
    | (have hm := brb_R ‹BRB _ _ _ _ _ _ _ _ _ _ _›
       exact nbd_le ‹NYP _ _ _ _› (by omega) (by omega) (by omega))
def o_Mo_bars_6 : or_T := (95, 5, [(0, (2, 0, 0, [165])), (2, (0, 3, 24, [])), (3, (0, 3, 24, [])), (4, (0, 0, 0, []))], [(20, [2, 0], [50, 1, 0, 1031, 1, 2, 1, 0, 2, 1, 31]), (20, [0, 3], [60, 0, 1, 783, 75])], [], [], [(20, [0, 4], [60, 1, 1, 784, 31, 75])], [], [(3, 2, 0, 4294967296)])
theorem oo_Mo_bars_6 {kA : Nat → ClassId} : or_ok PRD kA GG o_Mo_bars_6 := by
  refine or_mk fun A ta ws vs hD hth hl => ?_
  intro t0 r0 t2 k2 t3 k3 t4 k4 d0 f2 f3
  have kz_0_31 := fdq_145 hD hth r0
  have nf0 : fc_1 PRD (20, [0, 4], [60, 1, 1, 784, 31, 75]) ws (vs) := ⟨nf_in hl rfl, sgq_2283 (vc_Mo_bars_6_0 (v_iv (n_v vs 2)) (v_iv (n_v vs 3)) (v_iv (n_v vs 4)) (w_fi ws (n_v vs 0) 31) (w_ei ws (w_ar ws (n_v vs 0) 75)) k2 k3 k4 d0 (shm_2281 f2) (shm_2282 f3) kz_0_31)⟩
  refine ⟨(fun _ h => (by cases h)), [], trivial, ?_, (fun _ h => (by cases h))⟩
  rw [List.append_nil]
  exact List.forall_mem_cons.mpr ⟨⟨show (20 : Nat) < 100 from by decide, nf0⟩, (fun _ h => (by cases h))⟩
set_option maxHeartbeats 4000000 in
theorem vc_Mo_bars_7_0 (x3 : Int) (x5 : Int) (x9 : Int) (pt_0 : Int → Int) (ph_0 : Int → Int) (alive_0 : Int → Int) (rotMany_0 : Int → Int) (rot_0 : Int → Int) (roundOf_0 : Int → Int) (roundBegin_0 : Int → Int) (roundDart_0 : Int → Int) (pn_0 : Int) (pm_0 : Int) (rounds_0 : Int) (pt_1 : Int → Int) (ph_1 : Int → Int) (alive_1 : Int → Int) (rotMany_1 : Int → Int) (rot_1 : Int → Int) (roundOf_1 : Int → Int) (roundBegin_1 : Int → Int) (roundDart_1 : Int → Int) (pn_1 : Int) (pm_1 : Int) (rounds_1 : Int) (pt_2 : Int → Int) (ph_2 : Int → Int) (alive_2 : Int → Int) (rotMany_2 : Int → Int) (rot_2 : Int → Int) (roundOf_2 : Int → Int) (roundBegin_2 : Int → Int) (roundDart_2 : Int → Int) (pn_2 : Int) (pm_2 : Int) (rounds_2 : Int) (ny_2 : Int → Int) (ny_0 : Int → Int) (ny_1 : Int → Int) (toldNumber_1 : Int → Int) (toldNumber_2 : Int → Int) (k3 : 0 ≤ x3 ∧ x3 ≤ 23) (k5 : 0 ≤ x5 ∧ x5 ≤ 0) (k9 : 1 ≤ x9 ∧ x9 ≤ 24) (d0 : x3 + 1 ≤ x9 ∧ x9 ≤ x3 + 1) (f12 : NY0 (ny_2) (x3)) (fe_0_31_1 : pn_0 = pn_1) (fe_0_32_1 : pm_0 = pm_1) (fe_0_53_1 : rounds_0 = rounds_1) (fe_0_31_2 : pn_1 = pn_2) (fe_0_32_2 : pm_1 = pm_2) (fe_0_53_2 : rounds_1 = rounds_2) (hE_0_33_1 : ∀ j : Int, pt_0 j = pt_1 j) (hE_0_33_2 : ∀ j : Int, pt_1 j = pt_2 j) (hE_0_34_1 : ∀ j : Int, ph_0 j = ph_1 j) (hE_0_34_2 : ∀ j : Int, ph_1 j = ph_2 j) (hE_0_35_1 : ∀ j : Int, alive_0 j = alive_1 j) (hE_0_35_2 : ∀ j : Int, alive_1 j = alive_2 j) (hE_0_36_1 : ∀ j : Int, rotMany_0 j = rotMany_1 j) (hE_0_36_2 : ∀ j : Int, rotMany_1 j = rotMany_2 j) (hE_0_37_1 : ∀ j : Int, rot_0 j = rot_1 j) (hE_0_37_2 : ∀ j : Int, rot_1 j = rot_2 j) (hE_0_54_1 : ∀ j : Int, roundOf_0 j = roundOf_1 j) (hE_0_54_2 : ∀ j : Int, roundOf_1 j = roundOf_2 j) (hE_0_56_1 : ∀ j : Int, roundBegin_0 j = roundBegin_1 j) (hE_0_56_2 : ∀ j : Int, roundBegin_1 j = roundBegin_2 j) (hE_0_57_1 : ∀ j : Int, roundDart_0 j = roundDart_1 j) (hE_0_57_2 : ∀ j : Int, roundDart_1 j = roundDart_2 j) (hE_0_75_1 : ∀ j : Int, ny_0 j = ny_1 j) (hE_0_75_2 : ∀ j : Int, 0 ≤ j → (j = x3 → ny_1 j = x5) ∧ (j ≠ x3 → ny_1 j = ny_2 j)) (hE_0_126_2 : ∀ j : Int, toldNumber_1 j = toldNumber_2 j) (kz_0_31 : 0 ≤ pn_0 ∧ pn_0 ≤ 25) (kz_0_32 : 0 ≤ pm_0 ∧ pm_0 ≤ 80) (kz_0_53 : 0 ≤ rounds_0 ∧ rounds_0 ≤ 160) : NY0 (ny_0) (x9) := by
  subst fe_0_31_1
  subst fe_0_32_1
  subst fe_0_53_1
  subst fe_0_31_2
  subst fe_0_32_2
  subst fe_0_53_2
  have e_hE_0_33_1 := funext hE_0_33_1; subst e_hE_0_33_1
  have e_hE_0_33_2 := funext hE_0_33_2; subst e_hE_0_33_2
  have e_hE_0_34_1 := funext hE_0_34_1; subst e_hE_0_34_1
  have e_hE_0_34_2 := funext hE_0_34_2; subst e_hE_0_34_2
  have e_hE_0_35_1 := funext hE_0_35_1; subst e_hE_0_35_1
  have e_hE_0_35_2 := funext hE_0_35_2; subst e_hE_0_35_2
  have e_hE_0_36_1 := funext hE_0_36_1; subst e_hE_0_36_1
  have e_hE_0_36_2 := funext hE_0_36_2; subst e_hE_0_36_2
  have e_hE_0_37_1 := funext hE_0_37_1; subst e_hE_0_37_1
  have e_hE_0_37_2 := funext hE_0_37_2; subst e_hE_0_37_2
  have e_hE_0_54_1 := funext hE_0_54_1; subst e_hE_0_54_1
  have e_hE_0_54_2 := funext hE_0_54_2; subst e_hE_0_54_2
  have e_hE_0_56_1 := funext hE_0_56_1; subst e_hE_0_56_1
  have e_hE_0_56_2 := funext hE_0_56_2; subst e_hE_0_56_2
  have e_hE_0_57_1 := funext hE_0_57_1; subst e_hE_0_57_1
  have e_hE_0_57_2 := funext hE_0_57_2; subst e_hE_0_57_2
  have e_hE_0_75_1 := funext hE_0_75_1; subst e_hE_0_75_1
  have e_hE_0_126_2 := funext hE_0_126_2; subst e_hE_0_126_2
  first
    | exact nbd_0 (by omega)
    | exact nbd_st ‹NY0 _ _› (by assumption) (by omega) (by omega) (by omega) (by omega) (by omega)
def o_Mo_bars_7 : or_T := (63, 10, [(0, (2, 0, 0, [165])), (3, (0, 0, 23, [])), (4, (2, 0, 0, [215])), (5, (0, 0, 0, [])), (6, (2, 0, 0, [256])), (9, (0, 1, 24, []))], [(100, [6, 3, 8], []), (100, [4, 3, 5], []), (9, [4, 0], [75]), (20, [0, 3], [60, 0, 1, 783, 75])], [], [], [(20, [0, 9], [60, 0, 1, 783, 75])], [], [(9, 3, 1, 1), (3, 2, -4294967296, -1)])
theorem oo_Mo_bars_7 {kA : Nat → ClassId} : or_ok PRD kA GG o_Mo_bars_7 := by
  refine or_mk fun A ta ws vs hD hth hl => ?_
  intro t0 r0 t3 k3 t4 r4 t5 k5 t6 r6 t9 k9 d0 d2 ta1 w1 le1 s1 ta2 w2 le2 s2 f8 f12
  have s1 : (∀ b j, w_el ws b j = if b = v_ad (n_v vs 6) ∧ j = (v_iv (n_v vs 3)).toNat then v_iv (n_v vs 8) else w_el w1 b j) ∧ ∀ b k, w_fd ws b k = w_fd w1 b k := s1.2
  have s2 : (∀ b j, w_el w1 b j = if b = v_ad (n_v vs 4) ∧ j = (v_iv (n_v vs 3)).toNat then v_iv (n_v vs 5) else w_el w2 b j) ∧ ∀ b k, w_fd w1 b k = w_fd w2 b k := s2.2
  replace f8 := shm_1251 f8
  replace f12 := shm_2282 f12
  have ar_0_33_1 : w_ar w1 (n_v vs 0) 33 = w_ar ws (n_v vs 0) 33 := congrArg v_ad (s1.2 _ _).symm
  have ar_0_33_2 : w_ar w2 (n_v vs 0) 33 = w_ar ws (n_v vs 0) 33 := by rw [← ar_0_33_1]; show v_ad (w_fd w2 _ _) = v_ad (w_fd w1 _ _); rw [s2.2]
  have cr_0_33 := fdq_117 hD hth r0
  have ar_0_34_1 : w_ar w1 (n_v vs 0) 34 = w_ar ws (n_v vs 0) 34 := congrArg v_ad (s1.2 _ _).symm
  have ar_0_34_2 : w_ar w2 (n_v vs 0) 34 = w_ar ws (n_v vs 0) 34 := by rw [← ar_0_34_1]; show v_ad (w_fd w2 _ _) = v_ad (w_fd w1 _ _); rw [s2.2]
  have cr_0_34 := fdq_118 hD hth r0
  have ar_0_35_1 : w_ar w1 (n_v vs 0) 35 = w_ar ws (n_v vs 0) 35 := congrArg v_ad (s1.2 _ _).symm
  have ar_0_35_2 : w_ar w2 (n_v vs 0) 35 = w_ar ws (n_v vs 0) 35 := by rw [← ar_0_35_1]; show v_ad (w_fd w2 _ _) = v_ad (w_fd w1 _ _); rw [s2.2]
  have cr_0_35 := fdq_132 hD hth r0
  have ar_0_36_1 : w_ar w1 (n_v vs 0) 36 = w_ar ws (n_v vs 0) 36 := congrArg v_ad (s1.2 _ _).symm
  have ar_0_36_2 : w_ar w2 (n_v vs 0) 36 = w_ar ws (n_v vs 0) 36 := by rw [← ar_0_36_1]; show v_ad (w_fd w2 _ _) = v_ad (w_fd w1 _ _); rw [s2.2]
  have cr_0_36 := fdq_167 hD hth r0
  have ar_0_37_1 : w_ar w1 (n_v vs 0) 37 = w_ar ws (n_v vs 0) 37 := congrArg v_ad (s1.2 _ _).symm
  have ar_0_37_2 : w_ar w2 (n_v vs 0) 37 = w_ar ws (n_v vs 0) 37 := by rw [← ar_0_37_1]; show v_ad (w_fd w2 _ _) = v_ad (w_fd w1 _ _); rw [s2.2]
  have cr_0_37 := fdq_168 hD hth r0
  have ar_0_54_1 : w_ar w1 (n_v vs 0) 54 = w_ar ws (n_v vs 0) 54 := congrArg v_ad (s1.2 _ _).symm
  have ar_0_54_2 : w_ar w2 (n_v vs 0) 54 = w_ar ws (n_v vs 0) 54 := by rw [← ar_0_54_1]; show v_ad (w_fd w2 _ _) = v_ad (w_fd w1 _ _); rw [s2.2]
  have cr_0_54 := fdq_272 hD hth r0
  have ar_0_56_1 : w_ar w1 (n_v vs 0) 56 = w_ar ws (n_v vs 0) 56 := congrArg v_ad (s1.2 _ _).symm
  have ar_0_56_2 : w_ar w2 (n_v vs 0) 56 = w_ar ws (n_v vs 0) 56 := by rw [← ar_0_56_1]; show v_ad (w_fd w2 _ _) = v_ad (w_fd w1 _ _); rw [s2.2]
  have cr_0_56 := fdq_273 hD hth r0
  have ar_0_57_1 : w_ar w1 (n_v vs 0) 57 = w_ar ws (n_v vs 0) 57 := congrArg v_ad (s1.2 _ _).symm
  have ar_0_57_2 : w_ar w2 (n_v vs 0) 57 = w_ar ws (n_v vs 0) 57 := by rw [← ar_0_57_1]; show v_ad (w_fd w2 _ _) = v_ad (w_fd w1 _ _); rw [s2.2]
  have cr_0_57 := fdq_274 hD hth r0
  have ar_0_75_1 : w_ar w1 (n_v vs 0) 75 = w_ar ws (n_v vs 0) 75 := congrArg v_ad (s1.2 _ _).symm
  have ar_0_75_2 : w_ar w2 (n_v vs 0) 75 = w_ar ws (n_v vs 0) 75 := by rw [← ar_0_75_1]; show v_ad (w_fd w2 _ _) = v_ad (w_fd w1 _ _); rw [s2.2]
  have cr_0_75 := fdq_165 hD hth r0
  have cr_0_126 := fdq_334 hD hth r0
  have ad_4 : v_ad (n_v vs 4) = w_ar ws (n_v vs 0) 75 := (congrArg v_ad f8).trans ar_0_75_2
  simp only [ar_0_33_1, ar_0_34_1, ar_0_35_1, ar_0_36_1, ar_0_37_1, ar_0_54_1, ar_0_56_1, ar_0_57_1, ar_0_33_2, ar_0_34_2, ar_0_35_2, ar_0_36_2, ar_0_37_2, ar_0_54_2, ar_0_56_2, ar_0_57_2, ar_0_75_2] at f12
  have fe_0_31_1 : w_fi ws (n_v vs 0) 31 = w_fi w1 (n_v vs 0) 31 := congrArg v_iv (s1.2 _ _)
  have fe_0_32_1 : w_fi ws (n_v vs 0) 32 = w_fi w1 (n_v vs 0) 32 := congrArg v_iv (s1.2 _ _)
  have fe_0_53_1 : w_fi ws (n_v vs 0) 53 = w_fi w1 (n_v vs 0) 53 := congrArg v_iv (s1.2 _ _)
  have fe_0_31_2 : w_fi w1 (n_v vs 0) 31 = w_fi w2 (n_v vs 0) 31 := congrArg v_iv (s2.2 _ _)
  have fe_0_32_2 : w_fi w1 (n_v vs 0) 32 = w_fi w2 (n_v vs 0) 32 := congrArg v_iv (s2.2 _ _)
  have fe_0_53_2 : w_fi w1 (n_v vs 0) 53 = w_fi w2 (n_v vs 0) 53 := congrArg v_iv (s2.2 _ _)
  have hE_0_33_1 : ∀ j : Int, w_ei ws (w_ar ws (n_v vs 0) 33) j = w_ei w1 (w_ar ws (n_v vs 0) 33) j := el_kp s1.1 r6 cr_0_33 (by decide)
  have hE_0_33_2 : ∀ j : Int, w_ei w1 (w_ar ws (n_v vs 0) 33) j = w_ei w2 (w_ar ws (n_v vs 0) 33) j := el_kp s2.1 r4 cr_0_33 (by decide)
  have hE_0_34_1 : ∀ j : Int, w_ei ws (w_ar ws (n_v vs 0) 34) j = w_ei w1 (w_ar ws (n_v vs 0) 34) j := el_kp s1.1 r6 cr_0_34 (by decide)
  have hE_0_34_2 : ∀ j : Int, w_ei w1 (w_ar ws (n_v vs 0) 34) j = w_ei w2 (w_ar ws (n_v vs 0) 34) j := el_kp s2.1 r4 cr_0_34 (by decide)
  have hE_0_35_1 : ∀ j : Int, w_ei ws (w_ar ws (n_v vs 0) 35) j = w_ei w1 (w_ar ws (n_v vs 0) 35) j := el_kp s1.1 r6 cr_0_35 (by decide)
  have hE_0_35_2 : ∀ j : Int, w_ei w1 (w_ar ws (n_v vs 0) 35) j = w_ei w2 (w_ar ws (n_v vs 0) 35) j := el_kp s2.1 r4 cr_0_35 (by decide)
  have hE_0_36_1 : ∀ j : Int, w_ei ws (w_ar ws (n_v vs 0) 36) j = w_ei w1 (w_ar ws (n_v vs 0) 36) j := el_kp s1.1 r6 cr_0_36 (by decide)
  have hE_0_36_2 : ∀ j : Int, w_ei w1 (w_ar ws (n_v vs 0) 36) j = w_ei w2 (w_ar ws (n_v vs 0) 36) j := el_kp s2.1 r4 cr_0_36 (by decide)
  have hE_0_37_1 : ∀ j : Int, w_ei ws (w_ar ws (n_v vs 0) 37) j = w_ei w1 (w_ar ws (n_v vs 0) 37) j := el_kp s1.1 r6 cr_0_37 (by decide)
  have hE_0_37_2 : ∀ j : Int, w_ei w1 (w_ar ws (n_v vs 0) 37) j = w_ei w2 (w_ar ws (n_v vs 0) 37) j := el_kp s2.1 r4 cr_0_37 (by decide)
  have hE_0_54_1 : ∀ j : Int, w_ei ws (w_ar ws (n_v vs 0) 54) j = w_ei w1 (w_ar ws (n_v vs 0) 54) j := el_kp s1.1 r6 cr_0_54 (by decide)
  have hE_0_54_2 : ∀ j : Int, w_ei w1 (w_ar ws (n_v vs 0) 54) j = w_ei w2 (w_ar ws (n_v vs 0) 54) j := el_kp s2.1 r4 cr_0_54 (by decide)
  have hE_0_56_1 : ∀ j : Int, w_ei ws (w_ar ws (n_v vs 0) 56) j = w_ei w1 (w_ar ws (n_v vs 0) 56) j := el_kp s1.1 r6 cr_0_56 (by decide)
  have hE_0_56_2 : ∀ j : Int, w_ei w1 (w_ar ws (n_v vs 0) 56) j = w_ei w2 (w_ar ws (n_v vs 0) 56) j := el_kp s2.1 r4 cr_0_56 (by decide)
  have hE_0_57_1 : ∀ j : Int, w_ei ws (w_ar ws (n_v vs 0) 57) j = w_ei w1 (w_ar ws (n_v vs 0) 57) j := el_kp s1.1 r6 cr_0_57 (by decide)
  have hE_0_57_2 : ∀ j : Int, w_ei w1 (w_ar ws (n_v vs 0) 57) j = w_ei w2 (w_ar ws (n_v vs 0) 57) j := el_kp s2.1 r4 cr_0_57 (by decide)
  have hE_0_75_1 : ∀ j : Int, w_ei ws (w_ar ws (n_v vs 0) 75) j = w_ei w1 (w_ar ws (n_v vs 0) 75) j := el_kp s1.1 r6 cr_0_75 (by decide)
  have hE_0_75_2 : ∀ j : Int, 0 ≤ j → (j = v_iv (n_v vs 3) → w_ei w1 (w_ar ws (n_v vs 0) 75) j = v_iv (n_v vs 5)) ∧ (j ≠ v_iv (n_v vs 3) → w_ei w1 (w_ar ws (n_v vs 0) 75) j = w_ei w2 (w_ar ws (n_v vs 0) 75) j) := fun j hj => ⟨fun h => by unfold w_ei; rw [s2.1, if_pos ⟨ad_4.symm, by rw [h]⟩], fun h => by unfold w_ei; rw [s2.1, if_neg (fun e => h (by have := e.2; omega))]⟩
  have hE_0_126_2 : ∀ j : Int, w_ei w1 (w_ar ws (n_v vs 0) 126) j = w_ei w2 (w_ar ws (n_v vs 0) 126) j := el_kp s2.1 r4 cr_0_126 (by decide)
  have kz_0_31 := fdq_145 hD hth r0
  have kz_0_32 := fdq_140 hD hth r0
  have kz_0_53 := fdq_275 hD hth r0
  have nf0 : fc_1 PRD (20, [0, 9], [60, 0, 1, 783, 75]) ws (vs) := ⟨nf_in hl rfl, sgq_2282 (vc_Mo_bars_7_0 (v_iv (n_v vs 3)) (v_iv (n_v vs 5)) (v_iv (n_v vs 9)) (w_ei ws (w_ar ws (n_v vs 0) 33)) (w_ei ws (w_ar ws (n_v vs 0) 34)) (w_ei ws (w_ar ws (n_v vs 0) 35)) (w_ei ws (w_ar ws (n_v vs 0) 36)) (w_ei ws (w_ar ws (n_v vs 0) 37)) (w_ei ws (w_ar ws (n_v vs 0) 54)) (w_ei ws (w_ar ws (n_v vs 0) 56)) (w_ei ws (w_ar ws (n_v vs 0) 57)) (w_fi ws (n_v vs 0) 31) (w_fi ws (n_v vs 0) 32) (w_fi ws (n_v vs 0) 53) (w_ei w1 (w_ar ws (n_v vs 0) 33)) (w_ei w1 (w_ar ws (n_v vs 0) 34)) (w_ei w1 (w_ar ws (n_v vs 0) 35)) (w_ei w1 (w_ar ws (n_v vs 0) 36)) (w_ei w1 (w_ar ws (n_v vs 0) 37)) (w_ei w1 (w_ar ws (n_v vs 0) 54)) (w_ei w1 (w_ar ws (n_v vs 0) 56)) (w_ei w1 (w_ar ws (n_v vs 0) 57)) (w_fi w1 (n_v vs 0) 31) (w_fi w1 (n_v vs 0) 32) (w_fi w1 (n_v vs 0) 53) (w_ei w2 (w_ar ws (n_v vs 0) 33)) (w_ei w2 (w_ar ws (n_v vs 0) 34)) (w_ei w2 (w_ar ws (n_v vs 0) 35)) (w_ei w2 (w_ar ws (n_v vs 0) 36)) (w_ei w2 (w_ar ws (n_v vs 0) 37)) (w_ei w2 (w_ar ws (n_v vs 0) 54)) (w_ei w2 (w_ar ws (n_v vs 0) 56)) (w_ei w2 (w_ar ws (n_v vs 0) 57)) (w_fi w2 (n_v vs 0) 31) (w_fi w2 (n_v vs 0) 32) (w_fi w2 (n_v vs 0) 53) (w_ei w2 (w_ar ws (n_v vs 0) 75)) (w_ei ws (w_ar ws (n_v vs 0) 75)) (w_ei w1 (w_ar ws (n_v vs 0) 75)) (w_ei w1 (w_ar ws (n_v vs 0) 126)) (w_ei w2 (w_ar ws (n_v vs 0) 126)) k3 k5 k9 d0 f12 fe_0_31_1 fe_0_32_1 fe_0_53_1 fe_0_31_2 fe_0_32_2 fe_0_53_2 hE_0_33_1 hE_0_33_2 hE_0_34_1 hE_0_34_2 hE_0_35_1 hE_0_35_2 hE_0_36_1 hE_0_36_2 hE_0_37_1 hE_0_37_2 hE_0_54_1 hE_0_54_2 hE_0_56_1 hE_0_56_2 hE_0_57_1 hE_0_57_2 hE_0_75_1 hE_0_75_2 hE_0_126_2 kz_0_31 kz_0_32 kz_0_53)⟩
  refine ⟨(fun _ h => (by cases h)), [], trivial, ?_, (fun _ h => (by cases h))⟩
  rw [List.append_nil]
  exact List.forall_mem_cons.mpr ⟨⟨show (20 : Nat) < 100 from by decide, nf0⟩, (fun _ h => (by cases h))⟩
set_option maxHeartbeats 4000000 in
theorem vc_Mo_bars_8_r0 (x5 : Int) (x6 : Int) (x7 : Int) (x8 : Int) (pt_0 : Int → Int) (ph_0 : Int → Int) (alive_0 : Int → Int) (rotMany_0 : Int → Int) (rot_0 : Int → Int) (roundOf_0 : Int → Int) (roundBegin_0 : Int → Int) (roundDart_0 : Int → Int) (pn_0 : Int) (pm_0 : Int) (rounds_0 : Int) (k5 : 0 ≤ x5 ∧ x5 ≤ 0) (k6 : 1 ≤ x6 ∧ x6 ≤ 159) (k7 : 1 ≤ x7 ∧ x7 ≤ 1) (k8 : 0 ≤ x8 ∧ x8 ≤ 255) (f0 : bvp (x8) = bvp (x6) ^^^ bvp (x7)) (f1 : 1 * x6 + ((-2) * x5 + 0) ≤ 1) (f5 : BRB (pn_0) (pm_0) (rounds_0) (pt_0) (ph_0) (alive_0) (rotMany_0) (rot_0) (roundOf_0) (roundBegin_0) (roundDart_0)) (kz_0_31 : 0 ≤ pn_0 ∧ pn_0 ≤ 25) (kz_0_32 : 0 ≤ pm_0 ∧ pm_0 ≤ 80) (kz_0_53 : 0 ≤ rounds_0 ∧ rounds_0 ≤ 160) : 0 ≤ x8 ∧ x8 ≤ 159 := by
  first
    | omega
    | (have hR := brb_R ‹BRB _ _ _ _ _ _ _ _ _ _ _›; omega)
    | (have hR := brb_R ‹BRB _ _ _ _ _ _ _ _ _ _ _›
       have hx : bvp x8 = bvp x6 ^^^ bvp 1 := by rw [← (by omega : x7 = 1)]; assumption
       have e1 := xor_1 hx (by omega) (by omega) (by omega) (by omega)
       omega)
    | (have hR := brb_R ‹BRB _ _ _ _ _ _ _ _ _ _ _›
       have hx : bvp x12 = bvp x10 ^^^ bvp 1 := by rw [← (by omega : x11 = 1)]; assumption
       have e1 := xor_1 hx (by omega) (by omega) (by omega) (by omega)
       omega)
    | (have hR := brb_R ‹BRB _ _ _ _ _ _ _ _ _ _ _›
       have r1 := brb_ro (d := x8) ‹BRB _ _ _ _ _ _ _ _ _ _ _› (by omega) (by omega)
       omega)
    | (have hR := brb_R ‹BRB _ _ _ _ _ _ _ _ _ _ _›
       have r1 := brb_ro (d := x8) ‹BRB _ _ _ _ _ _ _ _ _ _ _› (by omega) (by omega)
       have hx : bvp x12 = bvp x10 ^^^ bvp 1 := by rw [← (by omega : x11 = 1)]; assumption
       have e1 := xor_1 hx (by omega) (by omega) (by omega) (by omega)
       have r2 := brb_ro (d := x12) ‹BRB _ _ _ _ _ _ _ _ _ _ _› (by omega) (by omega)
       omega)
    | (have hR := brb_R ‹BRB _ _ _ _ _ _ _ _ _ _ _›
       have r1 := brb_ro (d := x8) ‹BRB _ _ _ _ _ _ _ _ _ _ _› (by omega) (by omega)
       have hx : bvp x12 = bvp x10 ^^^ bvp 1 := by rw [← (by omega : x11 = 1)]; assumption
       have e1 := xor_1 hx (by omega) (by omega) (by omega) (by omega)
       have r2 := brb_ro (d := x12) ‹BRB _ _ _ _ _ _ _ _ _ _ _› (by omega) (by omega)
       have b1 := ‹LNE _ _ _ _› x9 (by omega) (by omega)
       have b2 := ‹LNE _ _ _ _› x13 (by omega) (by omega)
       omega)
    | (have h := ‹PLN _ _ _ _ _ _ _›
       have h1 := h.2.1
       simp only [Int.add_zero] at *
       omega)
def o_Mo_bars_8 : or_T := (179, 9, [(0, (2, 0, 0, [165])), (2, (0, 3, 24, [])), (3, (0, 3, 24, [])), (4, (2, 0, 0, [196])), (5, (0, 0, 0, [])), (6, (0, 1, 159, [])), (7, (0, 1, 1, [])), (8, (0, 0, 255, []))], [(16, [8, 6, 7], [2]), (23, [6, 5], [1, 1, -2]), (23, [6, 5], [0, -1, 2]), (9, [4, 0], [54]), (7, [3, 2], [3]), (20, [0], [60, 3, 8, 316, 31, 32, 53, 33, 34, 35, 36, 37, 54, 56, 57]), (20, [2, 0], [50, 1, 0, 1031, 1, 2, 1, 0, 2, 1, 31]), (20, [0, 3], [60, 1, 1, 784, 31, 75])], [(8, (0, 0, 159, []))], [], [], [], [(3, 2, 0, 4294967296)])
theorem oo_Mo_bars_8 {kA : Nat → ClassId} : or_ok PRD kA GG o_Mo_bars_8 := by
  refine or_mk fun A ta ws vs hD hth hl => ?_
  intro t0 r0 t2 k2 t3 k3 t4 r4 t5 k5 t6 k6 t7 k7 t8 k8 d0 f0 f1 f2 f3 f4 f5 f6 f7
  have kz_0_31 := fdq_145 hD hth r0
  have kz_0_32 := fdq_140 hD hth r0
  have kz_0_53 := fdq_275 hD hth r0
  have hrf0 : 0 ≤ v_iv (n_v vs 8) ∧ v_iv (n_v vs 8) ≤ 159 := vc_Mo_bars_8_r0 (v_iv (n_v vs 5)) (v_iv (n_v vs 6)) (v_iv (n_v vs 7)) (v_iv (n_v vs 8)) (w_ei ws (w_ar ws (n_v vs 0) 33)) (w_ei ws (w_ar ws (n_v vs 0) 34)) (w_ei ws (w_ar ws (n_v vs 0) 35)) (w_ei ws (w_ar ws (n_v vs 0) 36)) (w_ei ws (w_ar ws (n_v vs 0) 37)) (w_ei ws (w_ar ws (n_v vs 0) 54)) (w_ei ws (w_ar ws (n_v vs 0) 56)) (w_ei ws (w_ar ws (n_v vs 0) 57)) (w_fi ws (n_v vs 0) 31) (w_fi ws (n_v vs 0) 32) (w_fi ws (n_v vs 0) 53) k5 k6 k7 k8 (shm_33 f0) (shm_143 f1) (shm_1123 f5) kz_0_31 kz_0_32 kz_0_53
  have rf8 : tv_ok ta (0, 0, 159, []) (n_v vs 8) := tv_in t8 (by first | omega | grind) (by first | omega | grind)
  refine ⟨List.forall_mem_cons.mpr ⟨rf8, (fun _ h => (by cases h))⟩, [], trivial, ?_, (fun _ h => (by cases h))⟩
  rw [List.append_nil]
  exact (fun _ h => (by cases h))
set_option maxHeartbeats 4000000 in
theorem vc_Mo_bars_9_0 (x10 : Int) (line_0 : Int → Int) (k10 : 0 ≤ x10 ∧ x10 ≤ 0) : LN0 (line_0) (x10) := by
  first
    | (intro f a b; exfalso; omega)
    | exact ln0_step ‹LN0 _ _› (by omega) (by assumption) (by omega) (by omega) (by omega)
set_option maxHeartbeats 4000000 in
theorem vc_Mo_bars_9_1 (x3 : Int) (pn_0 : Int) (ny_0 : Int → Int) (k3 : 3 ≤ x3 ∧ x3 ≤ 24) (f8 : NYQ (pn_0) (ny_0) (x3)) (kz_0_31 : 0 ≤ pn_0 ∧ pn_0 ≤ 25) : NYH (pn_0) (ny_0) := by
  first
    | assumption
    | exact nbd_le ‹NYQ _ _ _› (by omega) (by omega) (by omega)
def o_Mo_bars_9 : or_T := (184, 11, [(0, (2, 0, 0, [165])), (2, (0, 3, 24, [])), (3, (0, 3, 24, [])), (4, (2, 0, 0, [196])), (5, (0, 0, 0, [])), (6, (0, 1, 159, [])), (7, (0, 1, 1, [])), (8, (0, 0, 159, [])), (9, (0, -1, 159, [])), (10, (0, 0, 0, []))], [(10, [9, 4, 8], []), (16, [8, 6, 7], [2]), (23, [6, 5], [1, 1, -2]), (23, [6, 5], [0, -1, 2]), (9, [4, 0], [54]), (7, [3, 2], [3]), (20, [0], [60, 3, 8, 316, 31, 32, 53, 33, 34, 35, 36, 37, 54, 56, 57]), (20, [2, 0], [50, 1, 0, 1031, 1, 2, 1, 0, 2, 1, 31]), (20, [0, 3], [60, 1, 1, 784, 31, 75])], [], [], [(20, [0, 10], [60, 0, 1, 319, 20]), (20, [0], [60, 1, 1, 786, 31, 75])], [], [(3, 2, 0, 4294967296)])
theorem oo_Mo_bars_9 {kA : Nat → ClassId} : or_ok PRD kA GG o_Mo_bars_9 := by
  refine or_mk fun A ta ws vs hD hth hl => ?_
  intro t0 r0 t2 k2 t3 k3 t4 r4 t5 k5 t6 k6 t7 k7 t8 k8 t9 k9 t10 k10 d0 f0 f1 f2 f3 f4 f5 f6 f7 f8
  have kz_0_31 := fdq_145 hD hth r0
  have nf0 : fc_1 PRD (20, [0, 10], [60, 0, 1, 319, 20]) ws (vs) := ⟨nf_in hl rfl, sgq_2285 (vc_Mo_bars_9_0 (v_iv (n_v vs 10)) (w_ei ws (w_ar ws (n_v vs 0) 20)) k10)⟩
  have nf1 : fc_1 PRD (20, [0], [60, 1, 1, 786, 31, 75]) ws (vs) := ⟨nf_in hl rfl, sgq_2286 (vc_Mo_bars_9_1 (v_iv (n_v vs 3)) (w_fi ws (n_v vs 0) 31) (w_ei ws (w_ar ws (n_v vs 0) 75)) k3 (shm_2283 f8) kz_0_31)⟩
  refine ⟨(fun _ h => (by cases h)), [], trivial, ?_, (fun _ h => (by cases h))⟩
  rw [List.append_nil]
  exact List.forall_mem_cons.mpr ⟨⟨show (20 : Nat) < 100 from by decide, nf0⟩, List.forall_mem_cons.mpr ⟨⟨show (20 : Nat) < 100 from by decide, nf1⟩, (fun _ h => (by cases h))⟩⟩
set_option maxHeartbeats 4000000 in
theorem vc_Mo_bars_10_r0 (x5 : Int) (x6 : Int) (x7 : Int) (x8 : Int) (pt_0 : Int → Int) (ph_0 : Int → Int) (alive_0 : Int → Int) (rotMany_0 : Int → Int) (rot_0 : Int → Int) (roundOf_0 : Int → Int) (roundBegin_0 : Int → Int) (roundDart_0 : Int → Int) (pn_0 : Int) (pm_0 : Int) (rounds_0 : Int) (k5 : 0 ≤ x5 ∧ x5 ≤ 0) (k6 : 0 ≤ x6 ∧ x6 ≤ 158) (k7 : 1 ≤ x7 ∧ x7 ≤ 1) (k8 : 0 ≤ x8 ∧ x8 ≤ 255) (f0 : bvp (x8) = bvp (x6) ^^^ bvp (x7)) (f1 : 1 * x6 + ((-2) * x5 + 0) ≤ 1) (f5 : BRB (pn_0) (pm_0) (rounds_0) (pt_0) (ph_0) (alive_0) (rotMany_0) (rot_0) (roundOf_0) (roundBegin_0) (roundDart_0)) (kz_0_31 : 0 ≤ pn_0 ∧ pn_0 ≤ 25) (kz_0_32 : 0 ≤ pm_0 ∧ pm_0 ≤ 80) (kz_0_53 : 0 ≤ rounds_0 ∧ rounds_0 ≤ 160) : 0 ≤ x8 ∧ x8 ≤ 159 := by
  first
    | omega
    | (have hR := brb_R ‹BRB _ _ _ _ _ _ _ _ _ _ _›; omega)
    | (have hR := brb_R ‹BRB _ _ _ _ _ _ _ _ _ _ _›
       have hx : bvp x8 = bvp x6 ^^^ bvp 1 := by rw [← (by omega : x7 = 1)]; assumption
       have e1 := xor_1 hx (by omega) (by omega) (by omega) (by omega)
       omega)
    | (have hR := brb_R ‹BRB _ _ _ _ _ _ _ _ _ _ _›
       have hx : bvp x12 = bvp x10 ^^^ bvp 1 := by rw [← (by omega : x11 = 1)]; assumption
       have e1 := xor_1 hx (by omega) (by omega) (by omega) (by omega)
       omega)
    | (have hR := brb_R ‹BRB _ _ _ _ _ _ _ _ _ _ _›
       have r1 := brb_ro (d := x8) ‹BRB _ _ _ _ _ _ _ _ _ _ _› (by omega) (by omega)
       omega)
    | (have hR := brb_R ‹BRB _ _ _ _ _ _ _ _ _ _ _›
       have r1 := brb_ro (d := x8) ‹BRB _ _ _ _ _ _ _ _ _ _ _› (by omega) (by omega)
       have hx : bvp x12 = bvp x10 ^^^ bvp 1 := by rw [← (by omega : x11 = 1)]; assumption
       have e1 := xor_1 hx (by omega) (by omega) (by omega) (by omega)
       have r2 := brb_ro (d := x12) ‹BRB _ _ _ _ _ _ _ _ _ _ _› (by omega) (by omega)
       omega)
    | (have hR := brb_R ‹BRB _ _ _ _ _ _ _ _ _ _ _›
       have r1 := brb_ro (d := x8) ‹BRB _ _ _ _ _ _ _ _ _ _ _› (by omega) (by omega)
       have hx : bvp x12 = bvp x10 ^^^ bvp 1 := by rw [← (by omega : x11 = 1)]; assumption
       have e1 := xor_1 hx (by omega) (by omega) (by omega) (by omega)
       have r2 := brb_ro (d := x12) ‹BRB _ _ _ _ _ _ _ _ _ _ _› (by omega) (by omega)
       have b1 := ‹LNE _ _ _ _› x9 (by omega) (by omega)
       have b2 := ‹LNE _ _ _ _› x13 (by omega) (by omega)
       omega)
    | (have h := ‹PLN _ _ _ _ _ _ _›
       have h1 := h.2.1
       simp only [Int.add_zero] at *
       omega)
def o_Mo_bars_10 : or_T := (179, 9, [(0, (2, 0, 0, [165])), (2, (0, 3, 24, [])), (3, (0, 3, 24, [])), (4, (2, 0, 0, [196])), (5, (0, 0, 0, [])), (6, (0, 0, 158, [])), (7, (0, 1, 1, [])), (8, (0, 0, 255, []))], [(16, [8, 6, 7], [2]), (23, [6, 5], [1, 1, -2]), (23, [6, 5], [0, -1, 2]), (9, [4, 0], [54]), (7, [3, 2], [3]), (20, [0], [60, 3, 8, 316, 31, 32, 53, 33, 34, 35, 36, 37, 54, 56, 57]), (20, [2, 0], [50, 1, 0, 1031, 1, 2, 1, 0, 2, 1, 31]), (20, [0, 3], [60, 1, 1, 784, 31, 75])], [(8, (0, 0, 159, []))], [], [], [], [(3, 2, 0, 4294967296)])
theorem oo_Mo_bars_10 {kA : Nat → ClassId} : or_ok PRD kA GG o_Mo_bars_10 := by
  refine or_mk fun A ta ws vs hD hth hl => ?_
  intro t0 r0 t2 k2 t3 k3 t4 r4 t5 k5 t6 k6 t7 k7 t8 k8 d0 f0 f1 f2 f3 f4 f5 f6 f7
  have kz_0_31 := fdq_145 hD hth r0
  have kz_0_32 := fdq_140 hD hth r0
  have kz_0_53 := fdq_275 hD hth r0
  have hrf0 : 0 ≤ v_iv (n_v vs 8) ∧ v_iv (n_v vs 8) ≤ 159 := vc_Mo_bars_10_r0 (v_iv (n_v vs 5)) (v_iv (n_v vs 6)) (v_iv (n_v vs 7)) (v_iv (n_v vs 8)) (w_ei ws (w_ar ws (n_v vs 0) 33)) (w_ei ws (w_ar ws (n_v vs 0) 34)) (w_ei ws (w_ar ws (n_v vs 0) 35)) (w_ei ws (w_ar ws (n_v vs 0) 36)) (w_ei ws (w_ar ws (n_v vs 0) 37)) (w_ei ws (w_ar ws (n_v vs 0) 54)) (w_ei ws (w_ar ws (n_v vs 0) 56)) (w_ei ws (w_ar ws (n_v vs 0) 57)) (w_fi ws (n_v vs 0) 31) (w_fi ws (n_v vs 0) 32) (w_fi ws (n_v vs 0) 53) k5 k6 k7 k8 (shm_33 f0) (shm_143 f1) (shm_1123 f5) kz_0_31 kz_0_32 kz_0_53
  have rf8 : tv_ok ta (0, 0, 159, []) (n_v vs 8) := tv_in t8 (by first | omega | grind) (by first | omega | grind)
  refine ⟨List.forall_mem_cons.mpr ⟨rf8, (fun _ h => (by cases h))⟩, [], trivial, ?_, (fun _ h => (by cases h))⟩
  rw [List.append_nil]
  exact (fun _ h => (by cases h))
set_option maxHeartbeats 4000000 in
theorem vc_Mo_bars_11_0 (x10 : Int) (line_0 : Int → Int) (k10 : 0 ≤ x10 ∧ x10 ≤ 0) : LN0 (line_0) (x10) := by
  first
    | (intro f a b; exfalso; omega)
    | exact ln0_step ‹LN0 _ _› (by omega) (by assumption) (by omega) (by omega) (by omega)
set_option maxHeartbeats 4000000 in
theorem vc_Mo_bars_11_1 (x3 : Int) (pn_0 : Int) (ny_0 : Int → Int) (k3 : 3 ≤ x3 ∧ x3 ≤ 24) (f8 : NYQ (pn_0) (ny_0) (x3)) (kz_0_31 : 0 ≤ pn_0 ∧ pn_0 ≤ 25) : NYH (pn_0) (ny_0) := by
  first
    | assumption
    | exact nbd_le ‹NYQ _ _ _› (by omega) (by omega) (by omega)
def o_Mo_bars_11 : or_T := (184, 11, [(0, (2, 0, 0, [165])), (2, (0, 3, 24, [])), (3, (0, 3, 24, [])), (4, (2, 0, 0, [196])), (5, (0, 0, 0, [])), (6, (0, 0, 158, [])), (7, (0, 1, 1, [])), (8, (0, 0, 159, [])), (9, (0, -1, 159, [])), (10, (0, 0, 0, []))], [(10, [9, 4, 8], []), (16, [8, 6, 7], [2]), (23, [6, 5], [1, 1, -2]), (23, [6, 5], [0, -1, 2]), (9, [4, 0], [54]), (7, [3, 2], [3]), (20, [0], [60, 3, 8, 316, 31, 32, 53, 33, 34, 35, 36, 37, 54, 56, 57]), (20, [2, 0], [50, 1, 0, 1031, 1, 2, 1, 0, 2, 1, 31]), (20, [0, 3], [60, 1, 1, 784, 31, 75])], [], [], [(20, [0, 10], [60, 0, 1, 319, 20]), (20, [0], [60, 1, 1, 786, 31, 75])], [], [(3, 2, 0, 4294967296)])
theorem oo_Mo_bars_11 {kA : Nat → ClassId} : or_ok PRD kA GG o_Mo_bars_11 := by
  refine or_mk fun A ta ws vs hD hth hl => ?_
  intro t0 r0 t2 k2 t3 k3 t4 r4 t5 k5 t6 k6 t7 k7 t8 k8 t9 k9 t10 k10 d0 f0 f1 f2 f3 f4 f5 f6 f7 f8
  have kz_0_31 := fdq_145 hD hth r0
  have nf0 : fc_1 PRD (20, [0, 10], [60, 0, 1, 319, 20]) ws (vs) := ⟨nf_in hl rfl, sgq_2285 (vc_Mo_bars_11_0 (v_iv (n_v vs 10)) (w_ei ws (w_ar ws (n_v vs 0) 20)) k10)⟩
  have nf1 : fc_1 PRD (20, [0], [60, 1, 1, 786, 31, 75]) ws (vs) := ⟨nf_in hl rfl, sgq_2286 (vc_Mo_bars_11_1 (v_iv (n_v vs 3)) (w_fi ws (n_v vs 0) 31) (w_ei ws (w_ar ws (n_v vs 0) 75)) k3 (shm_2283 f8) kz_0_31)⟩
  refine ⟨(fun _ h => (by cases h)), [], trivial, ?_, (fun _ h => (by cases h))⟩
  rw [List.append_nil]
  exact List.forall_mem_cons.mpr ⟨⟨show (20 : Nat) < 100 from by decide, nf0⟩, List.forall_mem_cons.mpr ⟨⟨show (20 : Nat) < 100 from by decide, nf1⟩, (fun _ h => (by cases h))⟩⟩
set_option maxHeartbeats 4000000 in
theorem vc_Mo_bars_12_0 (x3 : Int) (x4 : Int) (pn_0 : Int) (ny_0 : Int → Int) (k3 : 0 ≤ x3 ∧ x3 ≤ 23) (k4 : 0 ≤ x4 ∧ x4 ≤ 0) (f3 : NYQ (pn_0) (ny_0) (x3)) (kz_0_31 : 0 ≤ pn_0 ∧ pn_0 ≤ 25) : NYP (pn_0) (ny_0) (x3) (x4) := by
  first
    | exact nbd_le ‹NYQ _ _ _› (by omega) (by omega) (by omega)
    | (have g := low_rng ‹BRB _ _ _ _ _ _ _ _ _ _ _› ‹LWE _ _ _ _› ‹ACR _ _ _ _ _› (by omega) (by omega)
       have h1 := ‹NYP _ _ _ _› x6 (by omega) (by omega)
       have h2 := ‹NYP _ _ _ _› x7 (by omega) (by omega)
       exact nbd_st ‹NYP _ _ _ _› (by assumption) (by omega) (by omega) (by omega) (by omega) (by omega))
def o_Mo_bars_12 : or_T := (103, 5, [(0, (2, 0, 0, [165])), (3, (0, 0, 23, [])), (4, (0, 0, 0, []))], [(20, [0, 3], [60, 1, 1, 784, 31, 75])], [], [], [(20, [0, 3, 4], [60, 1, 1, 785, 31, 75])], [], [])
theorem oo_Mo_bars_12 {kA : Nat → ClassId} : or_ok PRD kA GG o_Mo_bars_12 := by
  refine or_mk fun A ta ws vs hD hth hl => ?_
  intro t0 r0 t3 k3 t4 k4 f3
  have kz_0_31 := fdq_145 hD hth r0
  have nf0 : fc_1 PRD (20, [0, 3, 4], [60, 1, 1, 785, 31, 75]) ws (vs) := ⟨nf_in hl rfl, sgq_2287 (vc_Mo_bars_12_0 (v_iv (n_v vs 3)) (v_iv (n_v vs 4)) (w_fi ws (n_v vs 0) 31) (w_ei ws (w_ar ws (n_v vs 0) 75)) k3 k4 (shm_2283 f3) kz_0_31)⟩
  refine ⟨(fun _ h => (by cases h)), [], trivial, ?_, (fun _ h => (by cases h))⟩
  rw [List.append_nil]
  exact List.forall_mem_cons.mpr ⟨⟨show (20 : Nat) < 100 from by decide, nf0⟩, (fun _ h => (by cases h))⟩
set_option maxHeartbeats 4000000 in
theorem vc_Mo_bars_13_0 (x3 : Int) (x4 : Int) (x6 : Int) (pm_0 : Int) (pt_0 : Int → Int) (ph_0 : Int → Int) (alive_0 : Int → Int) (rotMany_0 : Int → Int) (rot_0 : Int → Int) (roundOf_0 : Int → Int) (roundBegin_0 : Int → Int) (roundDart_0 : Int → Int) (pn_0 : Int) (rounds_0 : Int) (ny_0 : Int → Int) (k3 : 0 ≤ x3 ∧ x3 ≤ 23) (k4 : 0 ≤ x4 ∧ x4 ≤ 80) (k6 : 1 ≤ x6 ∧ x6 ≤ 24) (d0 : x3 + 1 ≤ x6 ∧ x6 ≤ x3 + 1) (f3 : BRB (pn_0) (pm_0) (rounds_0) (pt_0) (ph_0) (alive_0) (rotMany_0) (rot_0) (roundOf_0) (roundBegin_0) (roundDart_0)) (f5 : NYP (pn_0) (ny_0) (x3) (x4)) (kz_0_31 : 0 ≤ pn_0 ∧ pn_0 ≤ 25) (kz_0_32 : 0 ≤ pm_0 ∧ pm_0 ≤ 80) (kz_0_53 : 0 ≤ rounds_0 ∧ rounds_0 ≤ 160) : NYQ (pn_0) (ny_0) (x6) := by
  first
    | exact nbd_le ‹NY0 _ _› (by omega) (by omega) (by omega)
    | (have hm := brb_R ‹BRB _ _ _ _ _ _ _ _ _ _ _›
       exact nbd_le ‹NYP _ _ _ _› (by omega) (by omega) (by omega))
def o_Mo_bars_13 : or_T := (95, 7, [(0, (2, 0, 0, [165])), (3, (0, 0, 23, [])), (4, (0, 0, 80, [])), (6, (0, 1, 24, []))], [(20, [0], [60, 3, 8, 316, 31, 32, 53, 33, 34, 35, 36, 37, 54, 56, 57]), (20, [0, 3, 4], [60, 1, 1, 785, 31, 75])], [], [], [(20, [0, 6], [60, 1, 1, 784, 31, 75])], [], [(6, 3, 1, 1)])
theorem oo_Mo_bars_13 {kA : Nat → ClassId} : or_ok PRD kA GG o_Mo_bars_13 := by
  refine or_mk fun A ta ws vs hD hth hl => ?_
  intro t0 r0 t3 k3 t4 k4 t6 k6 d0 f3 f5
  have kz_0_31 := fdq_145 hD hth r0
  have kz_0_32 := fdq_140 hD hth r0
  have kz_0_53 := fdq_275 hD hth r0
  have nf0 : fc_1 PRD (20, [0, 6], [60, 1, 1, 784, 31, 75]) ws (vs) := ⟨nf_in hl rfl, sgq_2283 (vc_Mo_bars_13_0 (v_iv (n_v vs 3)) (v_iv (n_v vs 4)) (v_iv (n_v vs 6)) (w_fi ws (n_v vs 0) 32) (w_ei ws (w_ar ws (n_v vs 0) 33)) (w_ei ws (w_ar ws (n_v vs 0) 34)) (w_ei ws (w_ar ws (n_v vs 0) 35)) (w_ei ws (w_ar ws (n_v vs 0) 36)) (w_ei ws (w_ar ws (n_v vs 0) 37)) (w_ei ws (w_ar ws (n_v vs 0) 54)) (w_ei ws (w_ar ws (n_v vs 0) 56)) (w_ei ws (w_ar ws (n_v vs 0) 57)) (w_fi ws (n_v vs 0) 31) (w_fi ws (n_v vs 0) 53) (w_ei ws (w_ar ws (n_v vs 0) 75)) k3 k4 k6 d0 (shm_1123 f3) (shm_2287 f5) kz_0_31 kz_0_32 kz_0_53)⟩
  refine ⟨(fun _ h => (by cases h)), [], trivial, ?_, (fun _ h => (by cases h))⟩
  rw [List.append_nil]
  exact List.forall_mem_cons.mpr ⟨⟨show (20 : Nat) < 100 from by decide, nf0⟩, (fun _ h => (by cases h))⟩
set_option maxHeartbeats 4000000 in
theorem vc_Mo_bars_14_r0 (x3 : Int) (x4 : Int) (x5 : Int) (x6 : Int) (x7 : Int) (x10 : Int) (x12 : Int) (ny_0 : Int → Int) (pt_0 : Int → Int) (ph_0 : Int → Int) (pm_0 : Int) (alive_0 : Int → Int) (rotMany_0 : Int → Int) (rot_0 : Int → Int) (roundOf_0 : Int → Int) (roundBegin_0 : Int → Int) (roundDart_0 : Int → Int) (pn_0 : Int) (rounds_0 : Int) (k3 : 0 ≤ x3 ∧ x3 ≤ 23) (k4 : 0 ≤ x4 ∧ x4 ≤ 79) (k5 : 1 ≤ x5 ∧ x5 ≤ 80) (k6 : 0 ≤ x6 ∧ x6 ≤ 24) (k7 : 0 ≤ x7 ∧ x7 ≤ 24) (k10 : (-300000000) ≤ x10 ∧ x10 ≤ 300000000) (k12 : (-299999999) ≤ x12 ∧ x12 ≤ 300000001) (d1 : x10 + 1 ≤ x12 ∧ x12 ≤ x10 + 1) (d2 : x5 + (-4294967296) ≤ x4 ∧ x4 ≤ x5 + (-1)) (h3 : x10 = ny_0 (x6)) (f6 : ACR (pt_0) (ph_0) (x4) (x6) (x7)) (f7 : LWE (pt_0) (ph_0) (x4) (x6)) (g9 : x5 = pm_0) (f10 : BRB (pn_0) (pm_0) (rounds_0) (pt_0) (ph_0) (alive_0) (rotMany_0) (rot_0) (roundOf_0) (roundBegin_0) (roundDart_0)) (f12 : NYP (pn_0) (ny_0) (x3) (x4)) (kz_0_31 : 0 ≤ pn_0 ∧ pn_0 ≤ 25) (kz_0_32 : 0 ≤ pm_0 ∧ pm_0 ≤ 80) (kz_0_53 : 0 ≤ rounds_0 ∧ rounds_0 ≤ 160) : 0 ≤ x12 ∧ x12 ≤ 2000 := by
  have g := low_rng ‹BRB _ _ _ _ _ _ _ _ _ _ _› ‹LWE _ _ _ _› ‹ACR _ _ _ _ _› (by omega) (by omega)
  have g2 := brb_R ‹BRB _ _ _ _ _ _ _ _ _ _ _›
  have h1 := ‹NYP _ _ _ _› x6 (by omega) (by omega)
  have h2 := ‹NYP _ _ _ _› x7 (by omega) (by omega)
  omega
def o_Mo_bars_14 : or_T := (155, 13, [(0, (2, 0, 0, [165])), (2, (0, 3, 24, [])), (3, (0, 0, 23, [])), (4, (0, 0, 79, [])), (5, (0, 1, 80, [])), (6, (0, 0, 24, [])), (7, (0, 0, 24, [])), (8, (2, 0, 0, [215])), (9, (0, -300000000, 300000000, [])), (10, (0, -300000000, 300000000, [])), (11, (0, 1, 1, [])), (12, (0, -299999999, 300000001, []))], [(7, [9, 12], [5]), (7, [12, 12], [5]), (1, [12, 10, 11], []), (10, [10, 8, 6], []), (9, [8, 0], [75]), (10, [9, 8, 7], []), (20, [0, 4, 6, 7], [60, 0, 2, 84, 33, 34]), (20, [0, 4, 6], [60, 0, 2, 788, 33, 34]), (7, [4, 5], [2]), (9, [5, 0], [32]), (20, [0], [60, 3, 8, 316, 31, 32, 53, 33, 34, 35, 36, 37, 54, 56, 57]), (20, [2, 0], [50, 1, 0, 1031, 1, 2, 1, 0, 2, 1, 31]), (20, [0, 3, 4], [60, 1, 1, 785, 31, 75])], [(12, (0, 0, 2000, []))], [], [], [], [(9, 12, -4294967296, 0), (12, 10, 1, 1), (4, 5, -4294967296, -1), (3, 2, -4294967296, -1)])
theorem oo_Mo_bars_14 {kA : Nat → ClassId} : or_ok PRD kA GG o_Mo_bars_14 := by
  refine or_mk fun A ta ws vs hD hth hl => ?_
  intro t0 r0 t2 k2 t3 k3 t4 k4 t5 k5 t6 k6 t7 k7 t8 r8 t9 k9 t10 k10 t11 k11 t12 k12 d0 d1 d2 d3 f0 f1 f2 f3 f4 f5 f6 f7 f8 f9 f10 f11 f12
  replace f3 := shm_107 f3
  replace f4 := shm_1251 f4
  replace f9 := shm_525 f9
  have ad_8 : v_ad (n_v vs 8) = w_ar ws (n_v vs 0) 75 := congrArg v_ad f4
  simp only [ad_8] at f3
  have h3 : v_iv (n_v vs 10) = w_ei ws (w_ar ws (n_v vs 0) 75) (v_iv (n_v vs 6)) := f3
  have g9 : v_iv (n_v vs 5) = w_fi ws (n_v vs 0) 32 := congrArg v_iv f9
  have kz_0_31 := fdq_145 hD hth r0
  have kz_0_32 := fdq_140 hD hth r0
  have kz_0_53 := fdq_275 hD hth r0
  have hrf0 : 0 ≤ v_iv (n_v vs 12) ∧ v_iv (n_v vs 12) ≤ 2000 := vc_Mo_bars_14_r0 (v_iv (n_v vs 3)) (v_iv (n_v vs 4)) (v_iv (n_v vs 5)) (v_iv (n_v vs 6)) (v_iv (n_v vs 7)) (v_iv (n_v vs 10)) (v_iv (n_v vs 12)) (w_ei ws (w_ar ws (n_v vs 0) 75)) (w_ei ws (w_ar ws (n_v vs 0) 33)) (w_ei ws (w_ar ws (n_v vs 0) 34)) (w_fi ws (n_v vs 0) 32) (w_ei ws (w_ar ws (n_v vs 0) 35)) (w_ei ws (w_ar ws (n_v vs 0) 36)) (w_ei ws (w_ar ws (n_v vs 0) 37)) (w_ei ws (w_ar ws (n_v vs 0) 54)) (w_ei ws (w_ar ws (n_v vs 0) 56)) (w_ei ws (w_ar ws (n_v vs 0) 57)) (w_fi ws (n_v vs 0) 31) (w_fi ws (n_v vs 0) 53) k3 k4 k5 k6 k7 k10 k12 d1 d2 h3 (shm_495 f6) (shm_637 f7) g9 (shm_1123 f10) (shm_2287 f12) kz_0_31 kz_0_32 kz_0_53
  have rf12 : tv_ok ta (0, 0, 2000, []) (n_v vs 12) := tv_in t12 (by first | omega | grind) (by first | omega | grind)
  refine ⟨List.forall_mem_cons.mpr ⟨rf12, (fun _ h => (by cases h))⟩, [], trivial, ?_, (fun _ h => (by cases h))⟩
  rw [List.append_nil]
  exact (fun _ h => (by cases h))
set_option maxHeartbeats 4000000 in
theorem vc_Mo_bars_15_0 (x3 : Int) (x4 : Int) (x5 : Int) (x6 : Int) (x7 : Int) (x10 : Int) (x12 : Int) (x13 : Int) (pt_0 : Int → Int) (ph_0 : Int → Int) (alive_0 : Int → Int) (rotMany_0 : Int → Int) (rot_0 : Int → Int) (roundOf_0 : Int → Int) (roundBegin_0 : Int → Int) (roundDart_0 : Int → Int) (pn_0 : Int) (pm_0 : Int) (rounds_0 : Int) (ny_1 : Int → Int) (pt_1 : Int → Int) (ph_1 : Int → Int) (pm_1 : Int) (alive_1 : Int → Int) (rotMany_1 : Int → Int) (rot_1 : Int → Int) (roundOf_1 : Int → Int) (roundBegin_1 : Int → Int) (roundDart_1 : Int → Int) (pn_1 : Int) (rounds_1 : Int) (ny_0 : Int → Int) (k3 : 0 ≤ x3 ∧ x3 ≤ 23) (k4 : 0 ≤ x4 ∧ x4 ≤ 79) (k5 : 1 ≤ x5 ∧ x5 ≤ 80) (k6 : 0 ≤ x6 ∧ x6 ≤ 24) (k7 : 0 ≤ x7 ∧ x7 ≤ 24) (k10 : (-300000000) ≤ x10 ∧ x10 ≤ 300000000) (k12 : 0 ≤ x12 ∧ x12 ≤ 2000) (k13 : 1 ≤ x13 ∧ x13 ≤ 80) (d0 : x4 + 1 ≤ x13 ∧ x13 ≤ x4 + 1) (d1 : x5 + (-4294967296) ≤ x13 ∧ x13 ≤ x5 + 0) (d3 : x10 + 1 ≤ x12 ∧ x12 ≤ x10 + 1) (d4 : x5 + (-4294967296) ≤ x4 ∧ x4 ≤ x5 + (-1)) (h9 : x10 = ny_1 (x6)) (f12 : ACR (pt_1) (ph_1) (x4) (x6) (x7)) (f13 : LWE (pt_1) (ph_1) (x4) (x6)) (g15 : x5 = pm_1) (f16 : BRB (pn_1) (pm_1) (rounds_1) (pt_1) (ph_1) (alive_1) (rotMany_1) (rot_1) (roundOf_1) (roundBegin_1) (roundDart_1)) (f18 : NYP (pn_1) (ny_1) (x3) (x4)) (fe_0_31_1 : pn_0 = pn_1) (fe_0_32_1 : pm_0 = pm_1) (fe_0_53_1 : rounds_0 = rounds_1) (hE_0_33_1 : ∀ j : Int, pt_0 j = pt_1 j) (hE_0_34_1 : ∀ j : Int, ph_0 j = ph_1 j) (hE_0_35_1 : ∀ j : Int, alive_0 j = alive_1 j) (hE_0_36_1 : ∀ j : Int, rotMany_0 j = rotMany_1 j) (hE_0_37_1 : ∀ j : Int, rot_0 j = rot_1 j) (hE_0_54_1 : ∀ j : Int, roundOf_0 j = roundOf_1 j) (hE_0_56_1 : ∀ j : Int, roundBegin_0 j = roundBegin_1 j) (hE_0_57_1 : ∀ j : Int, roundDart_0 j = roundDart_1 j) (hE_0_75_1 : ∀ j : Int, 0 ≤ j → (j = x7 → ny_0 j = x12) ∧ (j ≠ x7 → ny_0 j = ny_1 j)) (kz_0_31 : 0 ≤ pn_0 ∧ pn_0 ≤ 25) (kz_0_32 : 0 ≤ pm_0 ∧ pm_0 ≤ 80) (kz_0_53 : 0 ≤ rounds_0 ∧ rounds_0 ≤ 160) : NYP (pn_0) (ny_0) (x3) (x13) := by
  subst fe_0_31_1
  subst fe_0_32_1
  subst fe_0_53_1
  have e_hE_0_33_1 := funext hE_0_33_1; subst e_hE_0_33_1
  have e_hE_0_34_1 := funext hE_0_34_1; subst e_hE_0_34_1
  have e_hE_0_35_1 := funext hE_0_35_1; subst e_hE_0_35_1
  have e_hE_0_36_1 := funext hE_0_36_1; subst e_hE_0_36_1
  have e_hE_0_37_1 := funext hE_0_37_1; subst e_hE_0_37_1
  have e_hE_0_54_1 := funext hE_0_54_1; subst e_hE_0_54_1
  have e_hE_0_56_1 := funext hE_0_56_1; subst e_hE_0_56_1
  have e_hE_0_57_1 := funext hE_0_57_1; subst e_hE_0_57_1
  first
    | exact nbd_le ‹NYQ _ _ _› (by omega) (by omega) (by omega)
    | (have g := low_rng ‹BRB _ _ _ _ _ _ _ _ _ _ _› ‹LWE _ _ _ _› ‹ACR _ _ _ _ _› (by omega) (by omega)
       have h1 := ‹NYP _ _ _ _› x6 (by omega) (by omega)
       have h2 := ‹NYP _ _ _ _› x7 (by omega) (by omega)
       exact nbd_st ‹NYP _ _ _ _› (by assumption) (by omega) (by omega) (by omega) (by omega) (by omega))
def o_Mo_bars_15 : or_T := (103, 14, [(0, (2, 0, 0, [165])), (2, (0, 3, 24, [])), (3, (0, 0, 23, [])), (4, (0, 0, 79, [])), (5, (0, 1, 80, [])), (6, (0, 0, 24, [])), (7, (0, 0, 24, [])), (8, (2, 0, 0, [215])), (9, (0, -300000000, 300000000, [])), (10, (0, -300000000, 300000000, [])), (11, (0, 1, 1, [])), (12, (0, 0, 2000, [])), (13, (0, 1, 80, []))], [(6, [13, 4], [1]), (20, [0, 4, 6, 7], [60, 0, 2, 84, 33, 34]), (20, [0, 4, 6], [60, 0, 2, 788, 33, 34]), (20, [0], [60, 3, 8, 316, 31, 32, 53, 33, 34, 35, 36, 37, 54, 56, 57]), (20, [2, 0], [50, 1, 0, 1031, 1, 2, 1, 0, 2, 1, 31]), (100, [8, 7, 12], []), (7, [9, 12], [5]), (7, [12, 12], [5]), (1, [12, 10, 11], []), (10, [10, 8, 6], []), (9, [8, 0], [75]), (10, [9, 8, 7], []), (20, [0, 4, 6, 7], [60, 0, 2, 84, 33, 34]), (20, [0, 4, 6], [60, 0, 2, 788, 33, 34]), (7, [4, 5], [2]), (9, [5, 0], [32]), (20, [0], [60, 3, 8, 316, 31, 32, 53, 33, 34, 35, 36, 37, 54, 56, 57]), (20, [2, 0], [50, 1, 0, 1031, 1, 2, 1, 0, 2, 1, 31]), (20, [0, 3, 4], [60, 1, 1, 785, 31, 75])], [], [], [(20, [0, 3, 13], [60, 1, 1, 785, 31, 75])], [], [(13, 4, 1, 1), (13, 5, -4294967296, 0), (9, 12, -4294967296, 0), (12, 10, 1, 1), (4, 5, -4294967296, -1), (3, 2, -4294967296, -1)])
theorem oo_Mo_bars_15 {kA : Nat → ClassId} : or_ok PRD kA GG o_Mo_bars_15 := by
  refine or_mk fun A ta ws vs hD hth hl => ?_
  intro t0 r0 t2 k2 t3 k3 t4 k4 t5 k5 t6 k6 t7 k7 t8 r8 t9 k9 t10 k10 t11 k11 t12 k12 t13 k13 d0 d1 d2 d3 d4 d5 f0 f1 f2 f3 f4 ta1 w1 le1 s1 f6 f7 f8 f9 f10 f11 f12 f13 f14 f15 f16 f17 f18
  have s1 : (∀ b j, w_el ws b j = if b = v_ad (n_v vs 8) ∧ j = (v_iv (n_v vs 7)).toNat then v_iv (n_v vs 12) else w_el w1 b j) ∧ ∀ b k, w_fd ws b k = w_fd w1 b k := s1.2
  replace f9 := shm_107 f9
  replace f10 := shm_1251 f10
  replace f12 := shm_495 f12
  replace f13 := shm_637 f13
  replace f15 := shm_525 f15
  replace f16 := shm_1123 f16
  replace f18 := shm_2287 f18
  have ar_0_33_1 : w_ar w1 (n_v vs 0) 33 = w_ar ws (n_v vs 0) 33 := congrArg v_ad (s1.2 _ _).symm
  have cr_0_33 := fdq_117 hD hth r0
  have ar_0_34_1 : w_ar w1 (n_v vs 0) 34 = w_ar ws (n_v vs 0) 34 := congrArg v_ad (s1.2 _ _).symm
  have cr_0_34 := fdq_118 hD hth r0
  have ar_0_35_1 : w_ar w1 (n_v vs 0) 35 = w_ar ws (n_v vs 0) 35 := congrArg v_ad (s1.2 _ _).symm
  have cr_0_35 := fdq_132 hD hth r0
  have ar_0_36_1 : w_ar w1 (n_v vs 0) 36 = w_ar ws (n_v vs 0) 36 := congrArg v_ad (s1.2 _ _).symm
  have cr_0_36 := fdq_167 hD hth r0
  have ar_0_37_1 : w_ar w1 (n_v vs 0) 37 = w_ar ws (n_v vs 0) 37 := congrArg v_ad (s1.2 _ _).symm
  have cr_0_37 := fdq_168 hD hth r0
  have ar_0_54_1 : w_ar w1 (n_v vs 0) 54 = w_ar ws (n_v vs 0) 54 := congrArg v_ad (s1.2 _ _).symm
  have cr_0_54 := fdq_272 hD hth r0
  have ar_0_56_1 : w_ar w1 (n_v vs 0) 56 = w_ar ws (n_v vs 0) 56 := congrArg v_ad (s1.2 _ _).symm
  have cr_0_56 := fdq_273 hD hth r0
  have ar_0_57_1 : w_ar w1 (n_v vs 0) 57 = w_ar ws (n_v vs 0) 57 := congrArg v_ad (s1.2 _ _).symm
  have cr_0_57 := fdq_274 hD hth r0
  have ar_0_75_1 : w_ar w1 (n_v vs 0) 75 = w_ar ws (n_v vs 0) 75 := congrArg v_ad (s1.2 _ _).symm
  have ad_8 : v_ad (n_v vs 8) = w_ar ws (n_v vs 0) 75 := (congrArg v_ad f10).trans ar_0_75_1
  simp only [ad_8] at f9
  have h9 : v_iv (n_v vs 10) = w_ei w1 (w_ar ws (n_v vs 0) 75) (v_iv (n_v vs 6)) := f9
  simp only [ar_0_33_1, ar_0_34_1] at f12 f13
  have g15 : v_iv (n_v vs 5) = w_fi w1 (n_v vs 0) 32 := congrArg v_iv f15
  simp only [ar_0_33_1, ar_0_34_1, ar_0_35_1, ar_0_36_1, ar_0_37_1, ar_0_54_1, ar_0_56_1, ar_0_57_1, ar_0_75_1] at f16 f18
  have fe_0_31_1 : w_fi ws (n_v vs 0) 31 = w_fi w1 (n_v vs 0) 31 := congrArg v_iv (s1.2 _ _)
  have fe_0_32_1 : w_fi ws (n_v vs 0) 32 = w_fi w1 (n_v vs 0) 32 := congrArg v_iv (s1.2 _ _)
  have fe_0_53_1 : w_fi ws (n_v vs 0) 53 = w_fi w1 (n_v vs 0) 53 := congrArg v_iv (s1.2 _ _)
  have hE_0_33_1 : ∀ j : Int, w_ei ws (w_ar ws (n_v vs 0) 33) j = w_ei w1 (w_ar ws (n_v vs 0) 33) j := el_kp s1.1 r8 cr_0_33 (by decide)
  have hE_0_34_1 : ∀ j : Int, w_ei ws (w_ar ws (n_v vs 0) 34) j = w_ei w1 (w_ar ws (n_v vs 0) 34) j := el_kp s1.1 r8 cr_0_34 (by decide)
  have hE_0_35_1 : ∀ j : Int, w_ei ws (w_ar ws (n_v vs 0) 35) j = w_ei w1 (w_ar ws (n_v vs 0) 35) j := el_kp s1.1 r8 cr_0_35 (by decide)
  have hE_0_36_1 : ∀ j : Int, w_ei ws (w_ar ws (n_v vs 0) 36) j = w_ei w1 (w_ar ws (n_v vs 0) 36) j := el_kp s1.1 r8 cr_0_36 (by decide)
  have hE_0_37_1 : ∀ j : Int, w_ei ws (w_ar ws (n_v vs 0) 37) j = w_ei w1 (w_ar ws (n_v vs 0) 37) j := el_kp s1.1 r8 cr_0_37 (by decide)
  have hE_0_54_1 : ∀ j : Int, w_ei ws (w_ar ws (n_v vs 0) 54) j = w_ei w1 (w_ar ws (n_v vs 0) 54) j := el_kp s1.1 r8 cr_0_54 (by decide)
  have hE_0_56_1 : ∀ j : Int, w_ei ws (w_ar ws (n_v vs 0) 56) j = w_ei w1 (w_ar ws (n_v vs 0) 56) j := el_kp s1.1 r8 cr_0_56 (by decide)
  have hE_0_57_1 : ∀ j : Int, w_ei ws (w_ar ws (n_v vs 0) 57) j = w_ei w1 (w_ar ws (n_v vs 0) 57) j := el_kp s1.1 r8 cr_0_57 (by decide)
  have hE_0_75_1 : ∀ j : Int, 0 ≤ j → (j = v_iv (n_v vs 7) → w_ei ws (w_ar ws (n_v vs 0) 75) j = v_iv (n_v vs 12)) ∧ (j ≠ v_iv (n_v vs 7) → w_ei ws (w_ar ws (n_v vs 0) 75) j = w_ei w1 (w_ar ws (n_v vs 0) 75) j) := fun j hj => ⟨fun h => by unfold w_ei; rw [s1.1, if_pos ⟨ad_8.symm, by rw [h]⟩], fun h => by unfold w_ei; rw [s1.1, if_neg (fun e => h (by have := e.2; omega))]⟩
  have kz_0_31 := fdq_145 hD hth r0
  have kz_0_32 := fdq_140 hD hth r0
  have kz_0_53 := fdq_275 hD hth r0
  have nf0 : fc_1 PRD (20, [0, 3, 13], [60, 1, 1, 785, 31, 75]) ws (vs) := ⟨nf_in hl rfl, sgq_2287 (vc_Mo_bars_15_0 (v_iv (n_v vs 3)) (v_iv (n_v vs 4)) (v_iv (n_v vs 5)) (v_iv (n_v vs 6)) (v_iv (n_v vs 7)) (v_iv (n_v vs 10)) (v_iv (n_v vs 12)) (v_iv (n_v vs 13)) (w_ei ws (w_ar ws (n_v vs 0) 33)) (w_ei ws (w_ar ws (n_v vs 0) 34)) (w_ei ws (w_ar ws (n_v vs 0) 35)) (w_ei ws (w_ar ws (n_v vs 0) 36)) (w_ei ws (w_ar ws (n_v vs 0) 37)) (w_ei ws (w_ar ws (n_v vs 0) 54)) (w_ei ws (w_ar ws (n_v vs 0) 56)) (w_ei ws (w_ar ws (n_v vs 0) 57)) (w_fi ws (n_v vs 0) 31) (w_fi ws (n_v vs 0) 32) (w_fi ws (n_v vs 0) 53) (w_ei w1 (w_ar ws (n_v vs 0) 75)) (w_ei w1 (w_ar ws (n_v vs 0) 33)) (w_ei w1 (w_ar ws (n_v vs 0) 34)) (w_fi w1 (n_v vs 0) 32) (w_ei w1 (w_ar ws (n_v vs 0) 35)) (w_ei w1 (w_ar ws (n_v vs 0) 36)) (w_ei w1 (w_ar ws (n_v vs 0) 37)) (w_ei w1 (w_ar ws (n_v vs 0) 54)) (w_ei w1 (w_ar ws (n_v vs 0) 56)) (w_ei w1 (w_ar ws (n_v vs 0) 57)) (w_fi w1 (n_v vs 0) 31) (w_fi w1 (n_v vs 0) 53) (w_ei ws (w_ar ws (n_v vs 0) 75)) k3 k4 k5 k6 k7 k10 k12 k13 d0 d1 d3 d4 h9 f12 f13 g15 f16 f18 fe_0_31_1 fe_0_32_1 fe_0_53_1 hE_0_33_1 hE_0_34_1 hE_0_35_1 hE_0_36_1 hE_0_37_1 hE_0_54_1 hE_0_56_1 hE_0_57_1 hE_0_75_1 kz_0_31 kz_0_32 kz_0_53)⟩
  refine ⟨(fun _ h => (by cases h)), [], trivial, ?_, (fun _ h => (by cases h))⟩
  rw [List.append_nil]
  exact List.forall_mem_cons.mpr ⟨⟨show (20 : Nat) < 100 from by decide, nf0⟩, (fun _ h => (by cases h))⟩
set_option maxHeartbeats 4000000 in
theorem vc_Mo_bars_16_r0 (x3 : Int) (x4 : Int) (x5 : Int) (x6 : Int) (x7 : Int) (x9 : Int) (ny_0 : Int → Int) (pt_0 : Int → Int) (ph_0 : Int → Int) (pm_0 : Int) (alive_0 : Int → Int) (rotMany_0 : Int → Int) (rot_0 : Int → Int) (roundOf_0 : Int → Int) (roundBegin_0 : Int → Int) (roundDart_0 : Int → Int) (pn_0 : Int) (rounds_0 : Int) (k3 : 0 ≤ x3 ∧ x3 ≤ 23) (k4 : 0 ≤ x4 ∧ x4 ≤ 79) (k5 : 1 ≤ x5 ∧ x5 ≤ 80) (k6 : 0 ≤ x6 ∧ x6 ≤ 24) (k7 : 0 ≤ x7 ∧ x7 ≤ 24) (k9 : (-299999998) ≤ x9 ∧ x9 ≤ 300000000) (d2 : x5 + (-4294967296) ≤ x4 ∧ x4 ≤ x5 + (-1)) (h5 : x9 = ny_0 (x7)) (f6 : ACR (pt_0) (ph_0) (x4) (x6) (x7)) (f7 : LWE (pt_0) (ph_0) (x4) (x6)) (g9 : x5 = pm_0) (f10 : BRB (pn_0) (pm_0) (rounds_0) (pt_0) (ph_0) (alive_0) (rotMany_0) (rot_0) (roundOf_0) (roundBegin_0) (roundDart_0)) (f12 : NYP (pn_0) (ny_0) (x3) (x4)) (kz_0_31 : 0 ≤ pn_0 ∧ pn_0 ≤ 25) (kz_0_32 : 0 ≤ pm_0 ∧ pm_0 ≤ 80) (kz_0_53 : 0 ≤ rounds_0 ∧ rounds_0 ≤ 160) : 0 ≤ x9 ∧ x9 ≤ 2000 := by
  have g := low_rng ‹BRB _ _ _ _ _ _ _ _ _ _ _› ‹LWE _ _ _ _› ‹ACR _ _ _ _ _› (by omega) (by omega)
  have g2 := brb_R ‹BRB _ _ _ _ _ _ _ _ _ _ _›
  have h1 := ‹NYP _ _ _ _› x6 (by omega) (by omega)
  have h2 := ‹NYP _ _ _ _› x7 (by omega) (by omega)
  omega
def o_Mo_bars_16 : or_T := (155, 13, [(0, (2, 0, 0, [165])), (2, (0, 3, 24, [])), (3, (0, 0, 23, [])), (4, (0, 0, 79, [])), (5, (0, 1, 80, [])), (6, (0, 0, 24, [])), (7, (0, 0, 24, [])), (8, (2, 0, 0, [215])), (9, (0, -299999998, 300000000, [])), (10, (0, -300000000, 300000000, [])), (11, (0, 1, 1, [])), (12, (0, -299999999, 299999999, []))], [(7, [9, 9], [5]), (7, [12, 9], [5]), (1, [12, 10, 11], []), (10, [10, 8, 6], []), (9, [8, 0], [75]), (10, [9, 8, 7], []), (20, [0, 4, 6, 7], [60, 0, 2, 84, 33, 34]), (20, [0, 4, 6], [60, 0, 2, 788, 33, 34]), (7, [4, 5], [2]), (9, [5, 0], [32]), (20, [0], [60, 3, 8, 316, 31, 32, 53, 33, 34, 35, 36, 37, 54, 56, 57]), (20, [2, 0], [50, 1, 0, 1031, 1, 2, 1, 0, 2, 1, 31]), (20, [0, 3, 4], [60, 1, 1, 785, 31, 75])], [(9, (0, 0, 2000, []))], [], [], [], [(9, 12, 1, 4294967296), (12, 10, 1, 1), (4, 5, -4294967296, -1), (3, 2, -4294967296, -1)])
theorem oo_Mo_bars_16 {kA : Nat → ClassId} : or_ok PRD kA GG o_Mo_bars_16 := by
  refine or_mk fun A ta ws vs hD hth hl => ?_
  intro t0 r0 t2 k2 t3 k3 t4 k4 t5 k5 t6 k6 t7 k7 t8 r8 t9 k9 t10 k10 t11 k11 t12 k12 d0 d1 d2 d3 f0 f1 f2 f3 f4 f5 f6 f7 f8 f9 f10 f11 f12
  replace f4 := shm_1251 f4
  replace f5 := shm_107 f5
  replace f9 := shm_525 f9
  have ad_8 : v_ad (n_v vs 8) = w_ar ws (n_v vs 0) 75 := congrArg v_ad f4
  simp only [ad_8] at f5
  have h5 : v_iv (n_v vs 9) = w_ei ws (w_ar ws (n_v vs 0) 75) (v_iv (n_v vs 7)) := f5
  have g9 : v_iv (n_v vs 5) = w_fi ws (n_v vs 0) 32 := congrArg v_iv f9
  have kz_0_31 := fdq_145 hD hth r0
  have kz_0_32 := fdq_140 hD hth r0
  have kz_0_53 := fdq_275 hD hth r0
  have hrf0 : 0 ≤ v_iv (n_v vs 9) ∧ v_iv (n_v vs 9) ≤ 2000 := vc_Mo_bars_16_r0 (v_iv (n_v vs 3)) (v_iv (n_v vs 4)) (v_iv (n_v vs 5)) (v_iv (n_v vs 6)) (v_iv (n_v vs 7)) (v_iv (n_v vs 9)) (w_ei ws (w_ar ws (n_v vs 0) 75)) (w_ei ws (w_ar ws (n_v vs 0) 33)) (w_ei ws (w_ar ws (n_v vs 0) 34)) (w_fi ws (n_v vs 0) 32) (w_ei ws (w_ar ws (n_v vs 0) 35)) (w_ei ws (w_ar ws (n_v vs 0) 36)) (w_ei ws (w_ar ws (n_v vs 0) 37)) (w_ei ws (w_ar ws (n_v vs 0) 54)) (w_ei ws (w_ar ws (n_v vs 0) 56)) (w_ei ws (w_ar ws (n_v vs 0) 57)) (w_fi ws (n_v vs 0) 31) (w_fi ws (n_v vs 0) 53) k3 k4 k5 k6 k7 k9 d2 h5 (shm_495 f6) (shm_637 f7) g9 (shm_1123 f10) (shm_2287 f12) kz_0_31 kz_0_32 kz_0_53
  have rf9 : tv_ok ta (0, 0, 2000, []) (n_v vs 9) := tv_in t9 (by first | omega | grind) (by first | omega | grind)
  refine ⟨List.forall_mem_cons.mpr ⟨rf9, (fun _ h => (by cases h))⟩, [], trivial, ?_, (fun _ h => (by cases h))⟩
  rw [List.append_nil]
  exact (fun _ h => (by cases h))
set_option maxHeartbeats 4000000 in
theorem vc_Mo_bars_17_0 (x3 : Int) (x4 : Int) (x5 : Int) (x6 : Int) (x7 : Int) (x9 : Int) (x13 : Int) (pt_0 : Int → Int) (ph_0 : Int → Int) (alive_0 : Int → Int) (rotMany_0 : Int → Int) (rot_0 : Int → Int) (roundOf_0 : Int → Int) (roundBegin_0 : Int → Int) (roundDart_0 : Int → Int) (pn_0 : Int) (pm_0 : Int) (rounds_0 : Int) (ny_1 : Int → Int) (pt_1 : Int → Int) (ph_1 : Int → Int) (pm_1 : Int) (alive_1 : Int → Int) (rotMany_1 : Int → Int) (rot_1 : Int → Int) (roundOf_1 : Int → Int) (roundBegin_1 : Int → Int) (roundDart_1 : Int → Int) (pn_1 : Int) (rounds_1 : Int) (ny_0 : Int → Int) (k3 : 0 ≤ x3 ∧ x3 ≤ 23) (k4 : 0 ≤ x4 ∧ x4 ≤ 79) (k5 : 1 ≤ x5 ∧ x5 ≤ 80) (k6 : 0 ≤ x6 ∧ x6 ≤ 24) (k7 : 0 ≤ x7 ∧ x7 ≤ 24) (k9 : 0 ≤ x9 ∧ x9 ≤ 2000) (k13 : 1 ≤ x13 ∧ x13 ≤ 80) (d0 : x4 + 1 ≤ x13 ∧ x13 ≤ x4 + 1) (d1 : x5 + (-4294967296) ≤ x13 ∧ x13 ≤ x5 + 0) (d4 : x5 + (-4294967296) ≤ x4 ∧ x4 ≤ x5 + (-1)) (h11 : x9 = ny_1 (x7)) (f12 : ACR (pt_1) (ph_1) (x4) (x6) (x7)) (f13 : LWE (pt_1) (ph_1) (x4) (x6)) (g15 : x5 = pm_1) (f16 : BRB (pn_1) (pm_1) (rounds_1) (pt_1) (ph_1) (alive_1) (rotMany_1) (rot_1) (roundOf_1) (roundBegin_1) (roundDart_1)) (f18 : NYP (pn_1) (ny_1) (x3) (x4)) (fe_0_31_1 : pn_0 = pn_1) (fe_0_32_1 : pm_0 = pm_1) (fe_0_53_1 : rounds_0 = rounds_1) (hE_0_33_1 : ∀ j : Int, pt_0 j = pt_1 j) (hE_0_34_1 : ∀ j : Int, ph_0 j = ph_1 j) (hE_0_35_1 : ∀ j : Int, alive_0 j = alive_1 j) (hE_0_36_1 : ∀ j : Int, rotMany_0 j = rotMany_1 j) (hE_0_37_1 : ∀ j : Int, rot_0 j = rot_1 j) (hE_0_54_1 : ∀ j : Int, roundOf_0 j = roundOf_1 j) (hE_0_56_1 : ∀ j : Int, roundBegin_0 j = roundBegin_1 j) (hE_0_57_1 : ∀ j : Int, roundDart_0 j = roundDart_1 j) (hE_0_75_1 : ∀ j : Int, 0 ≤ j → (j = x7 → ny_0 j = x9) ∧ (j ≠ x7 → ny_0 j = ny_1 j)) (kz_0_31 : 0 ≤ pn_0 ∧ pn_0 ≤ 25) (kz_0_32 : 0 ≤ pm_0 ∧ pm_0 ≤ 80) (kz_0_53 : 0 ≤ rounds_0 ∧ rounds_0 ≤ 160) : NYP (pn_0) (ny_0) (x3) (x13) := by
  subst fe_0_31_1
  subst fe_0_32_1
  subst fe_0_53_1
  have e_hE_0_33_1 := funext hE_0_33_1; subst e_hE_0_33_1
  have e_hE_0_34_1 := funext hE_0_34_1; subst e_hE_0_34_1
  have e_hE_0_35_1 := funext hE_0_35_1; subst e_hE_0_35_1
  have e_hE_0_36_1 := funext hE_0_36_1; subst e_hE_0_36_1
  have e_hE_0_37_1 := funext hE_0_37_1; subst e_hE_0_37_1
  have e_hE_0_54_1 := funext hE_0_54_1; subst e_hE_0_54_1
  have e_hE_0_56_1 := funext hE_0_56_1; subst e_hE_0_56_1
  have e_hE_0_57_1 := funext hE_0_57_1; subst e_hE_0_57_1
  first
    | exact nbd_le ‹NYQ _ _ _› (by omega) (by omega) (by omega)
    | (have g := low_rng ‹BRB _ _ _ _ _ _ _ _ _ _ _› ‹LWE _ _ _ _› ‹ACR _ _ _ _ _› (by omega) (by omega)
       have h1 := ‹NYP _ _ _ _› x6 (by omega) (by omega)
       have h2 := ‹NYP _ _ _ _› x7 (by omega) (by omega)
       exact nbd_st ‹NYP _ _ _ _› (by assumption) (by omega) (by omega) (by omega) (by omega) (by omega))
def o_Mo_bars_17 : or_T := (103, 14, [(0, (2, 0, 0, [165])), (2, (0, 3, 24, [])), (3, (0, 0, 23, [])), (4, (0, 0, 79, [])), (5, (0, 1, 80, [])), (6, (0, 0, 24, [])), (7, (0, 0, 24, [])), (8, (2, 0, 0, [215])), (9, (0, 0, 2000, [])), (10, (0, -300000000, 300000000, [])), (11, (0, 1, 1, [])), (12, (0, -299999999, 299999999, [])), (13, (0, 1, 80, []))], [(6, [13, 4], [1]), (20, [0, 4, 6, 7], [60, 0, 2, 84, 33, 34]), (20, [0, 4, 6], [60, 0, 2, 788, 33, 34]), (20, [0], [60, 3, 8, 316, 31, 32, 53, 33, 34, 35, 36, 37, 54, 56, 57]), (20, [2, 0], [50, 1, 0, 1031, 1, 2, 1, 0, 2, 1, 31]), (100, [8, 7, 9], []), (7, [9, 9], [5]), (7, [12, 9], [5]), (1, [12, 10, 11], []), (10, [10, 8, 6], []), (9, [8, 0], [75]), (10, [9, 8, 7], []), (20, [0, 4, 6, 7], [60, 0, 2, 84, 33, 34]), (20, [0, 4, 6], [60, 0, 2, 788, 33, 34]), (7, [4, 5], [2]), (9, [5, 0], [32]), (20, [0], [60, 3, 8, 316, 31, 32, 53, 33, 34, 35, 36, 37, 54, 56, 57]), (20, [2, 0], [50, 1, 0, 1031, 1, 2, 1, 0, 2, 1, 31]), (20, [0, 3, 4], [60, 1, 1, 785, 31, 75])], [], [], [(20, [0, 3, 13], [60, 1, 1, 785, 31, 75])], [], [(13, 4, 1, 1), (13, 5, -4294967296, 0), (9, 12, 1, 4294967296), (12, 10, 1, 1), (4, 5, -4294967296, -1), (3, 2, -4294967296, -1)])
theorem oo_Mo_bars_17 {kA : Nat → ClassId} : or_ok PRD kA GG o_Mo_bars_17 := by
  refine or_mk fun A ta ws vs hD hth hl => ?_
  intro t0 r0 t2 k2 t3 k3 t4 k4 t5 k5 t6 k6 t7 k7 t8 r8 t9 k9 t10 k10 t11 k11 t12 k12 t13 k13 d0 d1 d2 d3 d4 d5 f0 f1 f2 f3 f4 ta1 w1 le1 s1 f6 f7 f8 f9 f10 f11 f12 f13 f14 f15 f16 f17 f18
  have s1 : (∀ b j, w_el ws b j = if b = v_ad (n_v vs 8) ∧ j = (v_iv (n_v vs 7)).toNat then v_iv (n_v vs 9) else w_el w1 b j) ∧ ∀ b k, w_fd ws b k = w_fd w1 b k := s1.2
  replace f10 := shm_1251 f10
  replace f11 := shm_107 f11
  replace f12 := shm_495 f12
  replace f13 := shm_637 f13
  replace f15 := shm_525 f15
  replace f16 := shm_1123 f16
  replace f18 := shm_2287 f18
  have ar_0_33_1 : w_ar w1 (n_v vs 0) 33 = w_ar ws (n_v vs 0) 33 := congrArg v_ad (s1.2 _ _).symm
  have cr_0_33 := fdq_117 hD hth r0
  have ar_0_34_1 : w_ar w1 (n_v vs 0) 34 = w_ar ws (n_v vs 0) 34 := congrArg v_ad (s1.2 _ _).symm
  have cr_0_34 := fdq_118 hD hth r0
  have ar_0_35_1 : w_ar w1 (n_v vs 0) 35 = w_ar ws (n_v vs 0) 35 := congrArg v_ad (s1.2 _ _).symm
  have cr_0_35 := fdq_132 hD hth r0
  have ar_0_36_1 : w_ar w1 (n_v vs 0) 36 = w_ar ws (n_v vs 0) 36 := congrArg v_ad (s1.2 _ _).symm
  have cr_0_36 := fdq_167 hD hth r0
  have ar_0_37_1 : w_ar w1 (n_v vs 0) 37 = w_ar ws (n_v vs 0) 37 := congrArg v_ad (s1.2 _ _).symm
  have cr_0_37 := fdq_168 hD hth r0
  have ar_0_54_1 : w_ar w1 (n_v vs 0) 54 = w_ar ws (n_v vs 0) 54 := congrArg v_ad (s1.2 _ _).symm
  have cr_0_54 := fdq_272 hD hth r0
  have ar_0_56_1 : w_ar w1 (n_v vs 0) 56 = w_ar ws (n_v vs 0) 56 := congrArg v_ad (s1.2 _ _).symm
  have cr_0_56 := fdq_273 hD hth r0
  have ar_0_57_1 : w_ar w1 (n_v vs 0) 57 = w_ar ws (n_v vs 0) 57 := congrArg v_ad (s1.2 _ _).symm
  have cr_0_57 := fdq_274 hD hth r0
  have ar_0_75_1 : w_ar w1 (n_v vs 0) 75 = w_ar ws (n_v vs 0) 75 := congrArg v_ad (s1.2 _ _).symm
  have ad_8 : v_ad (n_v vs 8) = w_ar ws (n_v vs 0) 75 := (congrArg v_ad f10).trans ar_0_75_1
  simp only [ad_8] at f11
  have h11 : v_iv (n_v vs 9) = w_ei w1 (w_ar ws (n_v vs 0) 75) (v_iv (n_v vs 7)) := f11
  simp only [ar_0_33_1, ar_0_34_1] at f12 f13
  have g15 : v_iv (n_v vs 5) = w_fi w1 (n_v vs 0) 32 := congrArg v_iv f15
  simp only [ar_0_33_1, ar_0_34_1, ar_0_35_1, ar_0_36_1, ar_0_37_1, ar_0_54_1, ar_0_56_1, ar_0_57_1, ar_0_75_1] at f16 f18
  have fe_0_31_1 : w_fi ws (n_v vs 0) 31 = w_fi w1 (n_v vs 0) 31 := congrArg v_iv (s1.2 _ _)
  have fe_0_32_1 : w_fi ws (n_v vs 0) 32 = w_fi w1 (n_v vs 0) 32 := congrArg v_iv (s1.2 _ _)
  have fe_0_53_1 : w_fi ws (n_v vs 0) 53 = w_fi w1 (n_v vs 0) 53 := congrArg v_iv (s1.2 _ _)
  have hE_0_33_1 : ∀ j : Int, w_ei ws (w_ar ws (n_v vs 0) 33) j = w_ei w1 (w_ar ws (n_v vs 0) 33) j := el_kp s1.1 r8 cr_0_33 (by decide)
  have hE_0_34_1 : ∀ j : Int, w_ei ws (w_ar ws (n_v vs 0) 34) j = w_ei w1 (w_ar ws (n_v vs 0) 34) j := el_kp s1.1 r8 cr_0_34 (by decide)
  have hE_0_35_1 : ∀ j : Int, w_ei ws (w_ar ws (n_v vs 0) 35) j = w_ei w1 (w_ar ws (n_v vs 0) 35) j := el_kp s1.1 r8 cr_0_35 (by decide)
  have hE_0_36_1 : ∀ j : Int, w_ei ws (w_ar ws (n_v vs 0) 36) j = w_ei w1 (w_ar ws (n_v vs 0) 36) j := el_kp s1.1 r8 cr_0_36 (by decide)
  have hE_0_37_1 : ∀ j : Int, w_ei ws (w_ar ws (n_v vs 0) 37) j = w_ei w1 (w_ar ws (n_v vs 0) 37) j := el_kp s1.1 r8 cr_0_37 (by decide)
  have hE_0_54_1 : ∀ j : Int, w_ei ws (w_ar ws (n_v vs 0) 54) j = w_ei w1 (w_ar ws (n_v vs 0) 54) j := el_kp s1.1 r8 cr_0_54 (by decide)
  have hE_0_56_1 : ∀ j : Int, w_ei ws (w_ar ws (n_v vs 0) 56) j = w_ei w1 (w_ar ws (n_v vs 0) 56) j := el_kp s1.1 r8 cr_0_56 (by decide)
  have hE_0_57_1 : ∀ j : Int, w_ei ws (w_ar ws (n_v vs 0) 57) j = w_ei w1 (w_ar ws (n_v vs 0) 57) j := el_kp s1.1 r8 cr_0_57 (by decide)
  have hE_0_75_1 : ∀ j : Int, 0 ≤ j → (j = v_iv (n_v vs 7) → w_ei ws (w_ar ws (n_v vs 0) 75) j = v_iv (n_v vs 9)) ∧ (j ≠ v_iv (n_v vs 7) → w_ei ws (w_ar ws (n_v vs 0) 75) j = w_ei w1 (w_ar ws (n_v vs 0) 75) j) := fun j hj => ⟨fun h => by unfold w_ei; rw [s1.1, if_pos ⟨ad_8.symm, by rw [h]⟩], fun h => by unfold w_ei; rw [s1.1, if_neg (fun e => h (by have := e.2; omega))]⟩
  have kz_0_31 := fdq_145 hD hth r0
  have kz_0_32 := fdq_140 hD hth r0
  have kz_0_53 := fdq_275 hD hth r0
  have nf0 : fc_1 PRD (20, [0, 3, 13], [60, 1, 1, 785, 31, 75]) ws (vs) := ⟨nf_in hl rfl, sgq_2287 (vc_Mo_bars_17_0 (v_iv (n_v vs 3)) (v_iv (n_v vs 4)) (v_iv (n_v vs 5)) (v_iv (n_v vs 6)) (v_iv (n_v vs 7)) (v_iv (n_v vs 9)) (v_iv (n_v vs 13)) (w_ei ws (w_ar ws (n_v vs 0) 33)) (w_ei ws (w_ar ws (n_v vs 0) 34)) (w_ei ws (w_ar ws (n_v vs 0) 35)) (w_ei ws (w_ar ws (n_v vs 0) 36)) (w_ei ws (w_ar ws (n_v vs 0) 37)) (w_ei ws (w_ar ws (n_v vs 0) 54)) (w_ei ws (w_ar ws (n_v vs 0) 56)) (w_ei ws (w_ar ws (n_v vs 0) 57)) (w_fi ws (n_v vs 0) 31) (w_fi ws (n_v vs 0) 32) (w_fi ws (n_v vs 0) 53) (w_ei w1 (w_ar ws (n_v vs 0) 75)) (w_ei w1 (w_ar ws (n_v vs 0) 33)) (w_ei w1 (w_ar ws (n_v vs 0) 34)) (w_fi w1 (n_v vs 0) 32) (w_ei w1 (w_ar ws (n_v vs 0) 35)) (w_ei w1 (w_ar ws (n_v vs 0) 36)) (w_ei w1 (w_ar ws (n_v vs 0) 37)) (w_ei w1 (w_ar ws (n_v vs 0) 54)) (w_ei w1 (w_ar ws (n_v vs 0) 56)) (w_ei w1 (w_ar ws (n_v vs 0) 57)) (w_fi w1 (n_v vs 0) 31) (w_fi w1 (n_v vs 0) 53) (w_ei ws (w_ar ws (n_v vs 0) 75)) k3 k4 k5 k6 k7 k9 k13 d0 d1 d4 h11 f12 f13 g15 f16 f18 fe_0_31_1 fe_0_32_1 fe_0_53_1 hE_0_33_1 hE_0_34_1 hE_0_35_1 hE_0_36_1 hE_0_37_1 hE_0_54_1 hE_0_56_1 hE_0_57_1 hE_0_75_1 kz_0_31 kz_0_32 kz_0_53)⟩
  refine ⟨(fun _ h => (by cases h)), [], trivial, ?_, (fun _ h => (by cases h))⟩
  rw [List.append_nil]
  exact List.forall_mem_cons.mpr ⟨⟨show (20 : Nat) < 100 from by decide, nf0⟩, (fun _ h => (by cases h))⟩
set_option maxHeartbeats 4000000 in
theorem vc_Mo_bars_18_0 (x4 : Int) (x5 : Int) (x6 : Int) (rounds_0 : Int) (line_0 : Int → Int) (k4 : 0 ≤ x4 ∧ x4 ≤ 100) (k5 : 0 ≤ x5 ∧ x5 ≤ 100) (k6 : 0 ≤ x6 ∧ x6 ≤ 0) (d0 : x5 + 0 ≤ x4 ∧ x4 ≤ x5 + 4294967296) (g1 : x5 = rounds_0) (f4 : LN0 (line_0) (x4)) (kz_0_53 : 0 ≤ rounds_0 ∧ rounds_0 ≤ 160) : LNR (rounds_0) (line_0) (x6) := by
  first
    | (intro f a b
       have h := ‹LN0 _ _› f a (by omega)
       omega)
    | (have hR := brb_R ‹BRB _ _ _ _ _ _ _ _ _ _ _›
       exact lnb_le ‹LNE _ _ _ _› (by omega))
def o_Mo_bars_18 : or_T := (222, 7, [(0, (2, 0, 0, [165])), (4, (0, 0, 100, [])), (5, (0, 0, 100, [])), (6, (0, 0, 0, []))], [(9, [5, 0], [53]), (20, [0, 4], [60, 0, 1, 319, 20])], [], [], [(20, [0, 6], [60, 1, 1, 320, 53, 20])], [], [(4, 5, 0, 4294967296)])
theorem oo_Mo_bars_18 {kA : Nat → ClassId} : or_ok PRD kA GG o_Mo_bars_18 := by
  refine or_mk fun A ta ws vs hD hth hl => ?_
  intro t0 r0 t4 k4 t5 k5 t6 k6 d0 f1 f4
  replace f1 := shm_1132 f1
  have g1 : v_iv (n_v vs 5) = w_fi ws (n_v vs 0) 53 := congrArg v_iv f1
  have kz_0_53 := fdq_275 hD hth r0
  have nf0 : fc_1 PRD (20, [0, 6], [60, 1, 1, 320, 53, 20]) ws (vs) := ⟨nf_in hl rfl, sgq_2288 (vc_Mo_bars_18_0 (v_iv (n_v vs 4)) (v_iv (n_v vs 5)) (v_iv (n_v vs 6)) (w_fi ws (n_v vs 0) 53) (w_ei ws (w_ar ws (n_v vs 0) 20)) k4 k5 k6 d0 g1 (shm_2285 f4) kz_0_53)⟩
  refine ⟨(fun _ h => (by cases h)), [], trivial, ?_, (fun _ h => (by cases h))⟩
  rw [List.append_nil]
  exact List.forall_mem_cons.mpr ⟨⟨show (20 : Nat) < 100 from by decide, nf0⟩, (fun _ h => (by cases h))⟩
set_option maxHeartbeats 4000000 in
theorem vc_Mo_bars_19_r0 (x4 : Int) (x5 : Int) (rounds_0 : Int) (pt_0 : Int → Int) (ph_0 : Int → Int) (alive_0 : Int → Int) (rotMany_0 : Int → Int) (rot_0 : Int → Int) (roundOf_0 : Int → Int) (roundBegin_0 : Int → Int) (roundDart_0 : Int → Int) (pn_0 : Int) (pm_0 : Int) (k4 : 0 ≤ x4 ∧ x4 ≤ 100) (k5 : 1 ≤ x5 ∧ x5 ≤ 160) (d0 : x5 + (-4294967296) ≤ x4 ∧ x4 ≤ x5 + (-1)) (g3 : x5 = rounds_0) (f4 : BRB (pn_0) (pm_0) (rounds_0) (pt_0) (ph_0) (alive_0) (rotMany_0) (rot_0) (roundOf_0) (roundBegin_0) (roundDart_0)) (kz_0_31 : 0 ≤ pn_0 ∧ pn_0 ≤ 25) (kz_0_32 : 0 ≤ pm_0 ∧ pm_0 ≤ 80) (kz_0_53 : 0 ≤ rounds_0 ∧ rounds_0 ≤ 160) : 0 ≤ x4 ∧ x4 ≤ 99 := by
  first
    | omega
    | (have hR := brb_R ‹BRB _ _ _ _ _ _ _ _ _ _ _›; omega)
    | (have hR := brb_R ‹BRB _ _ _ _ _ _ _ _ _ _ _›
       have hx : bvp x8 = bvp x6 ^^^ bvp 1 := by rw [← (by omega : x7 = 1)]; assumption
       have e1 := xor_1 hx (by omega) (by omega) (by omega) (by omega)
       omega)
    | (have hR := brb_R ‹BRB _ _ _ _ _ _ _ _ _ _ _›
       have hx : bvp x12 = bvp x10 ^^^ bvp 1 := by rw [← (by omega : x11 = 1)]; assumption
       have e1 := xor_1 hx (by omega) (by omega) (by omega) (by omega)
       omega)
    | (have hR := brb_R ‹BRB _ _ _ _ _ _ _ _ _ _ _›
       have r1 := brb_ro (d := x8) ‹BRB _ _ _ _ _ _ _ _ _ _ _› (by omega) (by omega)
       omega)
    | (have hR := brb_R ‹BRB _ _ _ _ _ _ _ _ _ _ _›
       have r1 := brb_ro (d := x8) ‹BRB _ _ _ _ _ _ _ _ _ _ _› (by omega) (by omega)
       have hx : bvp x12 = bvp x10 ^^^ bvp 1 := by rw [← (by omega : x11 = 1)]; assumption
       have e1 := xor_1 hx (by omega) (by omega) (by omega) (by omega)
       have r2 := brb_ro (d := x12) ‹BRB _ _ _ _ _ _ _ _ _ _ _› (by omega) (by omega)
       omega)
    | (have hR := brb_R ‹BRB _ _ _ _ _ _ _ _ _ _ _›
       have r1 := brb_ro (d := x8) ‹BRB _ _ _ _ _ _ _ _ _ _ _› (by omega) (by omega)
       have hx : bvp x12 = bvp x10 ^^^ bvp 1 := by rw [← (by omega : x11 = 1)]; assumption
       have e1 := xor_1 hx (by omega) (by omega) (by omega) (by omega)
       have r2 := brb_ro (d := x12) ‹BRB _ _ _ _ _ _ _ _ _ _ _› (by omega) (by omega)
       have b1 := ‹LNE _ _ _ _› x9 (by omega) (by omega)
       have b2 := ‹LNE _ _ _ _› x13 (by omega) (by omega)
       omega)
    | (have h := ‹PLN _ _ _ _ _ _ _›
       have h1 := h.2.1
       simp only [Int.add_zero] at *
       omega)
def o_Mo_bars_19 : or_T := (212, 8, [(0, (2, 0, 0, [165])), (2, (0, 3, 24, [])), (3, (0, -1, 159, [])), (4, (0, 0, 100, [])), (5, (0, 1, 160, [])), (6, (2, 0, 0, [175]))], [(7, [4, 3], [1]), (9, [6, 0], [20]), (7, [4, 5], [2]), (9, [5, 0], [53]), (20, [0], [60, 3, 8, 316, 31, 32, 53, 33, 34, 35, 36, 37, 54, 56, 57]), (20, [2, 0], [50, 1, 0, 1031, 1, 2, 1, 0, 2, 1, 31]), (20, [0, 4], [60, 0, 1, 319, 20]), (20, [0], [60, 1, 1, 786, 31, 75])], [(4, (0, 0, 99, []))], [], [], [], [(4, 5, -4294967296, -1)])
theorem oo_Mo_bars_19 {kA : Nat → ClassId} : or_ok PRD kA GG o_Mo_bars_19 := by
  refine or_mk fun A ta ws vs hD hth hl => ?_
  intro t0 r0 t2 k2 t3 k3 t4 k4 t5 k5 t6 r6 d0 f0 f1 f2 f3 f4 f5 f6 f7
  replace f3 := shm_1132 f3
  have g3 : v_iv (n_v vs 5) = w_fi ws (n_v vs 0) 53 := congrArg v_iv f3
  have kz_0_31 := fdq_145 hD hth r0
  have kz_0_32 := fdq_140 hD hth r0
  have kz_0_53 := fdq_275 hD hth r0
  have hrf0 : 0 ≤ v_iv (n_v vs 4) ∧ v_iv (n_v vs 4) ≤ 99 := vc_Mo_bars_19_r0 (v_iv (n_v vs 4)) (v_iv (n_v vs 5)) (w_fi ws (n_v vs 0) 53) (w_ei ws (w_ar ws (n_v vs 0) 33)) (w_ei ws (w_ar ws (n_v vs 0) 34)) (w_ei ws (w_ar ws (n_v vs 0) 35)) (w_ei ws (w_ar ws (n_v vs 0) 36)) (w_ei ws (w_ar ws (n_v vs 0) 37)) (w_ei ws (w_ar ws (n_v vs 0) 54)) (w_ei ws (w_ar ws (n_v vs 0) 56)) (w_ei ws (w_ar ws (n_v vs 0) 57)) (w_fi ws (n_v vs 0) 31) (w_fi ws (n_v vs 0) 32) k4 k5 d0 g3 (shm_1123 f4) kz_0_31 kz_0_32 kz_0_53
  have rf4 : tv_ok ta (0, 0, 99, []) (n_v vs 4) := tv_in t4 (by first | omega | grind) (by first | omega | grind)
  refine ⟨List.forall_mem_cons.mpr ⟨rf4, (fun _ h => (by cases h))⟩, [], trivial, ?_, (fun _ h => (by cases h))⟩
  rw [List.append_nil]
  exact (fun _ h => (by cases h))
set_option maxHeartbeats 4000000 in
theorem vc_Mo_bars_20_0 (x4 : Int) (x7 : Int) (x8 : Int) (pt_0 : Int → Int) (ph_0 : Int → Int) (alive_0 : Int → Int) (rotMany_0 : Int → Int) (rot_0 : Int → Int) (roundOf_0 : Int → Int) (roundBegin_0 : Int → Int) (roundDart_0 : Int → Int) (pn_0 : Int) (pm_0 : Int) (rounds_0 : Int) (ny_0 : Int → Int) (rounds_1 : Int) (pt_1 : Int → Int) (ph_1 : Int → Int) (alive_1 : Int → Int) (rotMany_1 : Int → Int) (rot_1 : Int → Int) (roundOf_1 : Int → Int) (roundBegin_1 : Int → Int) (roundDart_1 : Int → Int) (pn_1 : Int) (pm_1 : Int) (line_1 : Int → Int) (ny_1 : Int → Int) (line_0 : Int → Int) (k4 : 0 ≤ x4 ∧ x4 ≤ 99) (k7 : (-1000000) ≤ x7 ∧ x7 ≤ (-1000000)) (k8 : 1 ≤ x8 ∧ x8 ≤ 100) (f0 : x8 = x4 + 1) (f11 : LN0 (line_1) (x4)) (fe_0_31_1 : pn_0 = pn_1) (fe_0_32_1 : pm_0 = pm_1) (fe_0_53_1 : rounds_0 = rounds_1) (hE_0_20_1 : ∀ j : Int, 0 ≤ j → (j = x4 → line_0 j = x7) ∧ (j ≠ x4 → line_0 j = line_1 j)) (hE_0_33_1 : ∀ j : Int, pt_0 j = pt_1 j) (hE_0_34_1 : ∀ j : Int, ph_0 j = ph_1 j) (hE_0_35_1 : ∀ j : Int, alive_0 j = alive_1 j) (hE_0_36_1 : ∀ j : Int, rotMany_0 j = rotMany_1 j) (hE_0_37_1 : ∀ j : Int, rot_0 j = rot_1 j) (hE_0_54_1 : ∀ j : Int, roundOf_0 j = roundOf_1 j) (hE_0_56_1 : ∀ j : Int, roundBegin_0 j = roundBegin_1 j) (hE_0_57_1 : ∀ j : Int, roundDart_0 j = roundDart_1 j) (hE_0_75_1 : ∀ j : Int, ny_0 j = ny_1 j) (kz_0_31 : 0 ≤ pn_0 ∧ pn_0 ≤ 25) (kz_0_32 : 0 ≤ pm_0 ∧ pm_0 ≤ 80) (kz_0_53 : 0 ≤ rounds_0 ∧ rounds_0 ≤ 160) : LN0 (line_0) (x8) := by
  subst fe_0_31_1
  subst fe_0_32_1
  subst fe_0_53_1
  have e_hE_0_33_1 := funext hE_0_33_1; subst e_hE_0_33_1
  have e_hE_0_34_1 := funext hE_0_34_1; subst e_hE_0_34_1
  have e_hE_0_35_1 := funext hE_0_35_1; subst e_hE_0_35_1
  have e_hE_0_36_1 := funext hE_0_36_1; subst e_hE_0_36_1
  have e_hE_0_37_1 := funext hE_0_37_1; subst e_hE_0_37_1
  have e_hE_0_54_1 := funext hE_0_54_1; subst e_hE_0_54_1
  have e_hE_0_56_1 := funext hE_0_56_1; subst e_hE_0_56_1
  have e_hE_0_57_1 := funext hE_0_57_1; subst e_hE_0_57_1
  have e_hE_0_75_1 := funext hE_0_75_1; subst e_hE_0_75_1
  first
    | (intro f a b; exfalso; omega)
    | exact ln0_step ‹LN0 _ _› (by omega) (by assumption) (by omega) (by omega) (by omega)
def o_Mo_bars_20 : or_T := (184, 9, [(0, (2, 0, 0, [165])), (2, (0, 3, 24, [])), (3, (0, -1, 159, [])), (4, (0, 0, 99, [])), (5, (0, 1, 160, [])), (6, (2, 0, 0, [175])), (7, (0, -1000000, -1000000, [])), (8, (0, 1, 100, []))], [(6, [8, 4], [1]), (20, [0], [60, 3, 8, 316, 31, 32, 53, 33, 34, 35, 36, 37, 54, 56, 57]), (20, [2, 0], [50, 1, 0, 1031, 1, 2, 1, 0, 2, 1, 31]), (20, [0], [60, 1, 1, 786, 31, 75]), (100, [6, 4, 7], []), (7, [4, 3], [1]), (9, [6, 0], [20]), (7, [4, 5], [2]), (9, [5, 0], [53]), (20, [0], [60, 3, 8, 316, 31, 32, 53, 33, 34, 35, 36, 37, 54, 56, 57]), (20, [2, 0], [50, 1, 0, 1031, 1, 2, 1, 0, 2, 1, 31]), (20, [0, 4], [60, 0, 1, 319, 20]), (20, [0], [60, 1, 1, 786, 31, 75])], [], [], [(20, [0, 8], [60, 0, 1, 319, 20])], [], [(8, 4, 1, 1), (8, 5, -4294967296, 0), (4, 5, -4294967296, -1)])
theorem oo_Mo_bars_20 {kA : Nat → ClassId} : or_ok PRD kA GG o_Mo_bars_20 := by
  refine or_mk fun A ta ws vs hD hth hl => ?_
  intro t0 r0 t2 k2 t3 k3 t4 k4 t5 k5 t6 r6 t7 k7 t8 k8 d0 d1 d2 f0 f1 f2 f3 ta1 w1 le1 s1 f5 f6 f7 f8 f9 f10 f11 f12
  have s1 : (∀ b j, w_el ws b j = if b = v_ad (n_v vs 6) ∧ j = (v_iv (n_v vs 4)).toNat then v_iv (n_v vs 7) else w_el w1 b j) ∧ ∀ b k, w_fd ws b k = w_fd w1 b k := s1.2
  replace f6 := shm_740 f6
  replace f11 := shm_2285 f11
  have ar_0_20_1 : w_ar w1 (n_v vs 0) 20 = w_ar ws (n_v vs 0) 20 := congrArg v_ad (s1.2 _ _).symm
  have ar_0_33_1 : w_ar w1 (n_v vs 0) 33 = w_ar ws (n_v vs 0) 33 := congrArg v_ad (s1.2 _ _).symm
  have cr_0_33 := fdq_117 hD hth r0
  have ar_0_34_1 : w_ar w1 (n_v vs 0) 34 = w_ar ws (n_v vs 0) 34 := congrArg v_ad (s1.2 _ _).symm
  have cr_0_34 := fdq_118 hD hth r0
  have ar_0_35_1 : w_ar w1 (n_v vs 0) 35 = w_ar ws (n_v vs 0) 35 := congrArg v_ad (s1.2 _ _).symm
  have cr_0_35 := fdq_132 hD hth r0
  have ar_0_36_1 : w_ar w1 (n_v vs 0) 36 = w_ar ws (n_v vs 0) 36 := congrArg v_ad (s1.2 _ _).symm
  have cr_0_36 := fdq_167 hD hth r0
  have ar_0_37_1 : w_ar w1 (n_v vs 0) 37 = w_ar ws (n_v vs 0) 37 := congrArg v_ad (s1.2 _ _).symm
  have cr_0_37 := fdq_168 hD hth r0
  have ar_0_54_1 : w_ar w1 (n_v vs 0) 54 = w_ar ws (n_v vs 0) 54 := congrArg v_ad (s1.2 _ _).symm
  have cr_0_54 := fdq_272 hD hth r0
  have ar_0_56_1 : w_ar w1 (n_v vs 0) 56 = w_ar ws (n_v vs 0) 56 := congrArg v_ad (s1.2 _ _).symm
  have cr_0_56 := fdq_273 hD hth r0
  have ar_0_57_1 : w_ar w1 (n_v vs 0) 57 = w_ar ws (n_v vs 0) 57 := congrArg v_ad (s1.2 _ _).symm
  have cr_0_57 := fdq_274 hD hth r0
  have ar_0_75_1 : w_ar w1 (n_v vs 0) 75 = w_ar ws (n_v vs 0) 75 := congrArg v_ad (s1.2 _ _).symm
  have cr_0_75 := fdq_165 hD hth r0
  have ad_6 : v_ad (n_v vs 6) = w_ar ws (n_v vs 0) 20 := (congrArg v_ad f6).trans ar_0_20_1
  simp only [ar_0_33_1, ar_0_34_1, ar_0_35_1, ar_0_36_1, ar_0_37_1, ar_0_54_1, ar_0_56_1, ar_0_57_1, ar_0_20_1, ar_0_75_1] at f11
  have fe_0_31_1 : w_fi ws (n_v vs 0) 31 = w_fi w1 (n_v vs 0) 31 := congrArg v_iv (s1.2 _ _)
  have fe_0_32_1 : w_fi ws (n_v vs 0) 32 = w_fi w1 (n_v vs 0) 32 := congrArg v_iv (s1.2 _ _)
  have fe_0_53_1 : w_fi ws (n_v vs 0) 53 = w_fi w1 (n_v vs 0) 53 := congrArg v_iv (s1.2 _ _)
  have hE_0_20_1 : ∀ j : Int, 0 ≤ j → (j = v_iv (n_v vs 4) → w_ei ws (w_ar ws (n_v vs 0) 20) j = v_iv (n_v vs 7)) ∧ (j ≠ v_iv (n_v vs 4) → w_ei ws (w_ar ws (n_v vs 0) 20) j = w_ei w1 (w_ar ws (n_v vs 0) 20) j) := fun j hj => ⟨fun h => by unfold w_ei; rw [s1.1, if_pos ⟨ad_6.symm, by rw [h]⟩], fun h => by unfold w_ei; rw [s1.1, if_neg (fun e => h (by have := e.2; omega))]⟩
  have hE_0_33_1 : ∀ j : Int, w_ei ws (w_ar ws (n_v vs 0) 33) j = w_ei w1 (w_ar ws (n_v vs 0) 33) j := el_kp s1.1 r6 cr_0_33 (by decide)
  have hE_0_34_1 : ∀ j : Int, w_ei ws (w_ar ws (n_v vs 0) 34) j = w_ei w1 (w_ar ws (n_v vs 0) 34) j := el_kp s1.1 r6 cr_0_34 (by decide)
  have hE_0_35_1 : ∀ j : Int, w_ei ws (w_ar ws (n_v vs 0) 35) j = w_ei w1 (w_ar ws (n_v vs 0) 35) j := el_kp s1.1 r6 cr_0_35 (by decide)
  have hE_0_36_1 : ∀ j : Int, w_ei ws (w_ar ws (n_v vs 0) 36) j = w_ei w1 (w_ar ws (n_v vs 0) 36) j := el_kp s1.1 r6 cr_0_36 (by decide)
  have hE_0_37_1 : ∀ j : Int, w_ei ws (w_ar ws (n_v vs 0) 37) j = w_ei w1 (w_ar ws (n_v vs 0) 37) j := el_kp s1.1 r6 cr_0_37 (by decide)
  have hE_0_54_1 : ∀ j : Int, w_ei ws (w_ar ws (n_v vs 0) 54) j = w_ei w1 (w_ar ws (n_v vs 0) 54) j := el_kp s1.1 r6 cr_0_54 (by decide)
  have hE_0_56_1 : ∀ j : Int, w_ei ws (w_ar ws (n_v vs 0) 56) j = w_ei w1 (w_ar ws (n_v vs 0) 56) j := el_kp s1.1 r6 cr_0_56 (by decide)
  have hE_0_57_1 : ∀ j : Int, w_ei ws (w_ar ws (n_v vs 0) 57) j = w_ei w1 (w_ar ws (n_v vs 0) 57) j := el_kp s1.1 r6 cr_0_57 (by decide)
  have hE_0_75_1 : ∀ j : Int, w_ei ws (w_ar ws (n_v vs 0) 75) j = w_ei w1 (w_ar ws (n_v vs 0) 75) j := el_kp s1.1 r6 cr_0_75 (by decide)
  have kz_0_31 := fdq_145 hD hth r0
  have kz_0_32 := fdq_140 hD hth r0
  have kz_0_53 := fdq_275 hD hth r0
  have nf0 : fc_1 PRD (20, [0, 8], [60, 0, 1, 319, 20]) ws (vs) := ⟨nf_in hl rfl, sgq_2285 (vc_Mo_bars_20_0 (v_iv (n_v vs 4)) (v_iv (n_v vs 7)) (v_iv (n_v vs 8)) (w_ei ws (w_ar ws (n_v vs 0) 33)) (w_ei ws (w_ar ws (n_v vs 0) 34)) (w_ei ws (w_ar ws (n_v vs 0) 35)) (w_ei ws (w_ar ws (n_v vs 0) 36)) (w_ei ws (w_ar ws (n_v vs 0) 37)) (w_ei ws (w_ar ws (n_v vs 0) 54)) (w_ei ws (w_ar ws (n_v vs 0) 56)) (w_ei ws (w_ar ws (n_v vs 0) 57)) (w_fi ws (n_v vs 0) 31) (w_fi ws (n_v vs 0) 32) (w_fi ws (n_v vs 0) 53) (w_ei ws (w_ar ws (n_v vs 0) 75)) (w_fi w1 (n_v vs 0) 53) (w_ei w1 (w_ar ws (n_v vs 0) 33)) (w_ei w1 (w_ar ws (n_v vs 0) 34)) (w_ei w1 (w_ar ws (n_v vs 0) 35)) (w_ei w1 (w_ar ws (n_v vs 0) 36)) (w_ei w1 (w_ar ws (n_v vs 0) 37)) (w_ei w1 (w_ar ws (n_v vs 0) 54)) (w_ei w1 (w_ar ws (n_v vs 0) 56)) (w_ei w1 (w_ar ws (n_v vs 0) 57)) (w_fi w1 (n_v vs 0) 31) (w_fi w1 (n_v vs 0) 32) (w_ei w1 (w_ar ws (n_v vs 0) 20)) (w_ei w1 (w_ar ws (n_v vs 0) 75)) (w_ei ws (w_ar ws (n_v vs 0) 20)) k4 k7 k8 (shm_4 f0) f11 fe_0_31_1 fe_0_32_1 fe_0_53_1 hE_0_20_1 hE_0_33_1 hE_0_34_1 hE_0_35_1 hE_0_36_1 hE_0_37_1 hE_0_54_1 hE_0_56_1 hE_0_57_1 hE_0_75_1 kz_0_31 kz_0_32 kz_0_53)⟩
  refine ⟨(fun _ h => (by cases h)), [], trivial, ?_, (fun _ h => (by cases h))⟩
  rw [List.append_nil]
  exact List.forall_mem_cons.mpr ⟨⟨show (20 : Nat) < 100 from by decide, nf0⟩, (fun _ h => (by cases h))⟩
set_option maxHeartbeats 4000000 in
theorem vc_Mo_bars_21_r0 (x4 : Int) (x5 : Int) (rounds_0 : Int) (pt_0 : Int → Int) (ph_0 : Int → Int) (alive_0 : Int → Int) (rotMany_0 : Int → Int) (rot_0 : Int → Int) (roundOf_0 : Int → Int) (roundBegin_0 : Int → Int) (roundDart_0 : Int → Int) (pn_0 : Int) (pm_0 : Int) (k4 : 0 ≤ x4 ∧ x4 ≤ 100) (k5 : 1 ≤ x5 ∧ x5 ≤ 160) (d1 : x5 + (-4294967296) ≤ x4 ∧ x4 ≤ x5 + (-1)) (g3 : x5 = rounds_0) (f4 : BRB (pn_0) (pm_0) (rounds_0) (pt_0) (ph_0) (alive_0) (rotMany_0) (rot_0) (roundOf_0) (roundBegin_0) (roundDart_0)) (kz_0_31 : 0 ≤ pn_0 ∧ pn_0 ≤ 25) (kz_0_32 : 0 ≤ pm_0 ∧ pm_0 ≤ 80) (kz_0_53 : 0 ≤ rounds_0 ∧ rounds_0 ≤ 160) : 0 ≤ x4 ∧ x4 ≤ 99 := by
  first
    | omega
    | (have hR := brb_R ‹BRB _ _ _ _ _ _ _ _ _ _ _›; omega)
    | (have hR := brb_R ‹BRB _ _ _ _ _ _ _ _ _ _ _›
       have hx : bvp x8 = bvp x6 ^^^ bvp 1 := by rw [← (by omega : x7 = 1)]; assumption
       have e1 := xor_1 hx (by omega) (by omega) (by omega) (by omega)
       omega)
    | (have hR := brb_R ‹BRB _ _ _ _ _ _ _ _ _ _ _›
       have hx : bvp x12 = bvp x10 ^^^ bvp 1 := by rw [← (by omega : x11 = 1)]; assumption
       have e1 := xor_1 hx (by omega) (by omega) (by omega) (by omega)
       omega)
    | (have hR := brb_R ‹BRB _ _ _ _ _ _ _ _ _ _ _›
       have r1 := brb_ro (d := x8) ‹BRB _ _ _ _ _ _ _ _ _ _ _› (by omega) (by omega)
       omega)
    | (have hR := brb_R ‹BRB _ _ _ _ _ _ _ _ _ _ _›
       have r1 := brb_ro (d := x8) ‹BRB _ _ _ _ _ _ _ _ _ _ _› (by omega) (by omega)
       have hx : bvp x12 = bvp x10 ^^^ bvp 1 := by rw [← (by omega : x11 = 1)]; assumption
       have e1 := xor_1 hx (by omega) (by omega) (by omega) (by omega)
       have r2 := brb_ro (d := x12) ‹BRB _ _ _ _ _ _ _ _ _ _ _› (by omega) (by omega)
       omega)
    | (have hR := brb_R ‹BRB _ _ _ _ _ _ _ _ _ _ _›
       have r1 := brb_ro (d := x8) ‹BRB _ _ _ _ _ _ _ _ _ _ _› (by omega) (by omega)
       have hx : bvp x12 = bvp x10 ^^^ bvp 1 := by rw [← (by omega : x11 = 1)]; assumption
       have e1 := xor_1 hx (by omega) (by omega) (by omega) (by omega)
       have r2 := brb_ro (d := x12) ‹BRB _ _ _ _ _ _ _ _ _ _ _› (by omega) (by omega)
       have b1 := ‹LNE _ _ _ _› x9 (by omega) (by omega)
       have b2 := ‹LNE _ _ _ _› x13 (by omega) (by omega)
       omega)
    | (have h := ‹PLN _ _ _ _ _ _ _›
       have h1 := h.2.1
       simp only [Int.add_zero] at *
       omega)
def o_Mo_bars_21 : or_T := (212, 8, [(0, (2, 0, 0, [165])), (2, (0, 3, 24, [])), (3, (0, 0, 100, [])), (4, (0, 0, 100, [])), (5, (0, 1, 160, [])), (6, (2, 0, 0, [175]))], [(7, [4, 3], [0]), (9, [6, 0], [20]), (7, [4, 5], [2]), (9, [5, 0], [53]), (20, [0], [60, 3, 8, 316, 31, 32, 53, 33, 34, 35, 36, 37, 54, 56, 57]), (20, [2, 0], [50, 1, 0, 1031, 1, 2, 1, 0, 2, 1, 31]), (20, [0, 4], [60, 0, 1, 319, 20]), (20, [0], [60, 1, 1, 786, 31, 75])], [(4, (0, 0, 99, []))], [], [], [], [(4, 3, 0, 0), (4, 5, -4294967296, -1)])
theorem oo_Mo_bars_21 {kA : Nat → ClassId} : or_ok PRD kA GG o_Mo_bars_21 := by
  refine or_mk fun A ta ws vs hD hth hl => ?_
  intro t0 r0 t2 k2 t3 k3 t4 k4 t5 k5 t6 r6 d0 d1 f0 f1 f2 f3 f4 f5 f6 f7
  replace f3 := shm_1132 f3
  have g3 : v_iv (n_v vs 5) = w_fi ws (n_v vs 0) 53 := congrArg v_iv f3
  have kz_0_31 := fdq_145 hD hth r0
  have kz_0_32 := fdq_140 hD hth r0
  have kz_0_53 := fdq_275 hD hth r0
  have hrf0 : 0 ≤ v_iv (n_v vs 4) ∧ v_iv (n_v vs 4) ≤ 99 := vc_Mo_bars_21_r0 (v_iv (n_v vs 4)) (v_iv (n_v vs 5)) (w_fi ws (n_v vs 0) 53) (w_ei ws (w_ar ws (n_v vs 0) 33)) (w_ei ws (w_ar ws (n_v vs 0) 34)) (w_ei ws (w_ar ws (n_v vs 0) 35)) (w_ei ws (w_ar ws (n_v vs 0) 36)) (w_ei ws (w_ar ws (n_v vs 0) 37)) (w_ei ws (w_ar ws (n_v vs 0) 54)) (w_ei ws (w_ar ws (n_v vs 0) 56)) (w_ei ws (w_ar ws (n_v vs 0) 57)) (w_fi ws (n_v vs 0) 31) (w_fi ws (n_v vs 0) 32) k4 k5 d1 g3 (shm_1123 f4) kz_0_31 kz_0_32 kz_0_53
  have rf4 : tv_ok ta (0, 0, 99, []) (n_v vs 4) := tv_in t4 (by first | omega | grind) (by first | omega | grind)
  refine ⟨List.forall_mem_cons.mpr ⟨rf4, (fun _ h => (by cases h))⟩, [], trivial, ?_, (fun _ h => (by cases h))⟩
  rw [List.append_nil]
  exact (fun _ h => (by cases h))
set_option maxHeartbeats 4000000 in
theorem vc_Mo_bars_22_0 (x4 : Int) (x7 : Int) (x8 : Int) (pt_0 : Int → Int) (ph_0 : Int → Int) (alive_0 : Int → Int) (rotMany_0 : Int → Int) (rot_0 : Int → Int) (roundOf_0 : Int → Int) (roundBegin_0 : Int → Int) (roundDart_0 : Int → Int) (pn_0 : Int) (pm_0 : Int) (rounds_0 : Int) (ny_0 : Int → Int) (rounds_1 : Int) (pt_1 : Int → Int) (ph_1 : Int → Int) (alive_1 : Int → Int) (rotMany_1 : Int → Int) (rot_1 : Int → Int) (roundOf_1 : Int → Int) (roundBegin_1 : Int → Int) (roundDart_1 : Int → Int) (pn_1 : Int) (pm_1 : Int) (line_1 : Int → Int) (ny_1 : Int → Int) (line_0 : Int → Int) (k4 : 0 ≤ x4 ∧ x4 ≤ 99) (k7 : 0 ≤ x7 ∧ x7 ≤ 0) (k8 : 1 ≤ x8 ∧ x8 ≤ 100) (f0 : x8 = x4 + 1) (f11 : LN0 (line_1) (x4)) (fe_0_31_1 : pn_0 = pn_1) (fe_0_32_1 : pm_0 = pm_1) (fe_0_53_1 : rounds_0 = rounds_1) (hE_0_20_1 : ∀ j : Int, 0 ≤ j → (j = x4 → line_0 j = x7) ∧ (j ≠ x4 → line_0 j = line_1 j)) (hE_0_33_1 : ∀ j : Int, pt_0 j = pt_1 j) (hE_0_34_1 : ∀ j : Int, ph_0 j = ph_1 j) (hE_0_35_1 : ∀ j : Int, alive_0 j = alive_1 j) (hE_0_36_1 : ∀ j : Int, rotMany_0 j = rotMany_1 j) (hE_0_37_1 : ∀ j : Int, rot_0 j = rot_1 j) (hE_0_54_1 : ∀ j : Int, roundOf_0 j = roundOf_1 j) (hE_0_56_1 : ∀ j : Int, roundBegin_0 j = roundBegin_1 j) (hE_0_57_1 : ∀ j : Int, roundDart_0 j = roundDart_1 j) (hE_0_75_1 : ∀ j : Int, ny_0 j = ny_1 j) (kz_0_31 : 0 ≤ pn_0 ∧ pn_0 ≤ 25) (kz_0_32 : 0 ≤ pm_0 ∧ pm_0 ≤ 80) (kz_0_53 : 0 ≤ rounds_0 ∧ rounds_0 ≤ 160) : LN0 (line_0) (x8) := by
  subst fe_0_31_1
  subst fe_0_32_1
  subst fe_0_53_1
  have e_hE_0_33_1 := funext hE_0_33_1; subst e_hE_0_33_1
  have e_hE_0_34_1 := funext hE_0_34_1; subst e_hE_0_34_1
  have e_hE_0_35_1 := funext hE_0_35_1; subst e_hE_0_35_1
  have e_hE_0_36_1 := funext hE_0_36_1; subst e_hE_0_36_1
  have e_hE_0_37_1 := funext hE_0_37_1; subst e_hE_0_37_1
  have e_hE_0_54_1 := funext hE_0_54_1; subst e_hE_0_54_1
  have e_hE_0_56_1 := funext hE_0_56_1; subst e_hE_0_56_1
  have e_hE_0_57_1 := funext hE_0_57_1; subst e_hE_0_57_1
  have e_hE_0_75_1 := funext hE_0_75_1; subst e_hE_0_75_1
  first
    | (intro f a b; exfalso; omega)
    | exact ln0_step ‹LN0 _ _› (by omega) (by assumption) (by omega) (by omega) (by omega)
def o_Mo_bars_22 : or_T := (184, 9, [(0, (2, 0, 0, [165])), (2, (0, 3, 24, [])), (3, (0, 0, 100, [])), (4, (0, 0, 99, [])), (5, (0, 1, 160, [])), (6, (2, 0, 0, [175])), (7, (0, 0, 0, [])), (8, (0, 1, 100, []))], [(6, [8, 4], [1]), (20, [0], [60, 3, 8, 316, 31, 32, 53, 33, 34, 35, 36, 37, 54, 56, 57]), (20, [2, 0], [50, 1, 0, 1031, 1, 2, 1, 0, 2, 1, 31]), (20, [0], [60, 1, 1, 786, 31, 75]), (100, [6, 4, 7], []), (7, [4, 3], [0]), (9, [6, 0], [20]), (7, [4, 5], [2]), (9, [5, 0], [53]), (20, [0], [60, 3, 8, 316, 31, 32, 53, 33, 34, 35, 36, 37, 54, 56, 57]), (20, [2, 0], [50, 1, 0, 1031, 1, 2, 1, 0, 2, 1, 31]), (20, [0, 4], [60, 0, 1, 319, 20]), (20, [0], [60, 1, 1, 786, 31, 75])], [], [], [(20, [0, 8], [60, 0, 1, 319, 20])], [], [(8, 4, 1, 1), (8, 3, 1, 1), (8, 5, -4294967296, 0), (4, 3, 0, 0), (4, 5, -4294967296, -1)])
theorem oo_Mo_bars_22 {kA : Nat → ClassId} : or_ok PRD kA GG o_Mo_bars_22 := by
  refine or_mk fun A ta ws vs hD hth hl => ?_
  intro t0 r0 t2 k2 t3 k3 t4 k4 t5 k5 t6 r6 t7 k7 t8 k8 d0 d1 d2 d3 d4 f0 f1 f2 f3 ta1 w1 le1 s1 f5 f6 f7 f8 f9 f10 f11 f12
  have s1 : (∀ b j, w_el ws b j = if b = v_ad (n_v vs 6) ∧ j = (v_iv (n_v vs 4)).toNat then v_iv (n_v vs 7) else w_el w1 b j) ∧ ∀ b k, w_fd ws b k = w_fd w1 b k := s1.2
  replace f6 := shm_740 f6
  replace f11 := shm_2285 f11
  have ar_0_20_1 : w_ar w1 (n_v vs 0) 20 = w_ar ws (n_v vs 0) 20 := congrArg v_ad (s1.2 _ _).symm
  have ar_0_33_1 : w_ar w1 (n_v vs 0) 33 = w_ar ws (n_v vs 0) 33 := congrArg v_ad (s1.2 _ _).symm
  have cr_0_33 := fdq_117 hD hth r0
  have ar_0_34_1 : w_ar w1 (n_v vs 0) 34 = w_ar ws (n_v vs 0) 34 := congrArg v_ad (s1.2 _ _).symm
  have cr_0_34 := fdq_118 hD hth r0
  have ar_0_35_1 : w_ar w1 (n_v vs 0) 35 = w_ar ws (n_v vs 0) 35 := congrArg v_ad (s1.2 _ _).symm
  have cr_0_35 := fdq_132 hD hth r0
  have ar_0_36_1 : w_ar w1 (n_v vs 0) 36 = w_ar ws (n_v vs 0) 36 := congrArg v_ad (s1.2 _ _).symm
  have cr_0_36 := fdq_167 hD hth r0
  have ar_0_37_1 : w_ar w1 (n_v vs 0) 37 = w_ar ws (n_v vs 0) 37 := congrArg v_ad (s1.2 _ _).symm
  have cr_0_37 := fdq_168 hD hth r0
  have ar_0_54_1 : w_ar w1 (n_v vs 0) 54 = w_ar ws (n_v vs 0) 54 := congrArg v_ad (s1.2 _ _).symm
  have cr_0_54 := fdq_272 hD hth r0
  have ar_0_56_1 : w_ar w1 (n_v vs 0) 56 = w_ar ws (n_v vs 0) 56 := congrArg v_ad (s1.2 _ _).symm
  have cr_0_56 := fdq_273 hD hth r0
  have ar_0_57_1 : w_ar w1 (n_v vs 0) 57 = w_ar ws (n_v vs 0) 57 := congrArg v_ad (s1.2 _ _).symm
  have cr_0_57 := fdq_274 hD hth r0
  have ar_0_75_1 : w_ar w1 (n_v vs 0) 75 = w_ar ws (n_v vs 0) 75 := congrArg v_ad (s1.2 _ _).symm
  have cr_0_75 := fdq_165 hD hth r0
  have ad_6 : v_ad (n_v vs 6) = w_ar ws (n_v vs 0) 20 := (congrArg v_ad f6).trans ar_0_20_1
  simp only [ar_0_33_1, ar_0_34_1, ar_0_35_1, ar_0_36_1, ar_0_37_1, ar_0_54_1, ar_0_56_1, ar_0_57_1, ar_0_20_1, ar_0_75_1] at f11
  have fe_0_31_1 : w_fi ws (n_v vs 0) 31 = w_fi w1 (n_v vs 0) 31 := congrArg v_iv (s1.2 _ _)
  have fe_0_32_1 : w_fi ws (n_v vs 0) 32 = w_fi w1 (n_v vs 0) 32 := congrArg v_iv (s1.2 _ _)
  have fe_0_53_1 : w_fi ws (n_v vs 0) 53 = w_fi w1 (n_v vs 0) 53 := congrArg v_iv (s1.2 _ _)
  have hE_0_20_1 : ∀ j : Int, 0 ≤ j → (j = v_iv (n_v vs 4) → w_ei ws (w_ar ws (n_v vs 0) 20) j = v_iv (n_v vs 7)) ∧ (j ≠ v_iv (n_v vs 4) → w_ei ws (w_ar ws (n_v vs 0) 20) j = w_ei w1 (w_ar ws (n_v vs 0) 20) j) := fun j hj => ⟨fun h => by unfold w_ei; rw [s1.1, if_pos ⟨ad_6.symm, by rw [h]⟩], fun h => by unfold w_ei; rw [s1.1, if_neg (fun e => h (by have := e.2; omega))]⟩
  have hE_0_33_1 : ∀ j : Int, w_ei ws (w_ar ws (n_v vs 0) 33) j = w_ei w1 (w_ar ws (n_v vs 0) 33) j := el_kp s1.1 r6 cr_0_33 (by decide)
  have hE_0_34_1 : ∀ j : Int, w_ei ws (w_ar ws (n_v vs 0) 34) j = w_ei w1 (w_ar ws (n_v vs 0) 34) j := el_kp s1.1 r6 cr_0_34 (by decide)
  have hE_0_35_1 : ∀ j : Int, w_ei ws (w_ar ws (n_v vs 0) 35) j = w_ei w1 (w_ar ws (n_v vs 0) 35) j := el_kp s1.1 r6 cr_0_35 (by decide)
  have hE_0_36_1 : ∀ j : Int, w_ei ws (w_ar ws (n_v vs 0) 36) j = w_ei w1 (w_ar ws (n_v vs 0) 36) j := el_kp s1.1 r6 cr_0_36 (by decide)
  have hE_0_37_1 : ∀ j : Int, w_ei ws (w_ar ws (n_v vs 0) 37) j = w_ei w1 (w_ar ws (n_v vs 0) 37) j := el_kp s1.1 r6 cr_0_37 (by decide)
  have hE_0_54_1 : ∀ j : Int, w_ei ws (w_ar ws (n_v vs 0) 54) j = w_ei w1 (w_ar ws (n_v vs 0) 54) j := el_kp s1.1 r6 cr_0_54 (by decide)
  have hE_0_56_1 : ∀ j : Int, w_ei ws (w_ar ws (n_v vs 0) 56) j = w_ei w1 (w_ar ws (n_v vs 0) 56) j := el_kp s1.1 r6 cr_0_56 (by decide)
  have hE_0_57_1 : ∀ j : Int, w_ei ws (w_ar ws (n_v vs 0) 57) j = w_ei w1 (w_ar ws (n_v vs 0) 57) j := el_kp s1.1 r6 cr_0_57 (by decide)
  have hE_0_75_1 : ∀ j : Int, w_ei ws (w_ar ws (n_v vs 0) 75) j = w_ei w1 (w_ar ws (n_v vs 0) 75) j := el_kp s1.1 r6 cr_0_75 (by decide)
  have kz_0_31 := fdq_145 hD hth r0
  have kz_0_32 := fdq_140 hD hth r0
  have kz_0_53 := fdq_275 hD hth r0
  have nf0 : fc_1 PRD (20, [0, 8], [60, 0, 1, 319, 20]) ws (vs) := ⟨nf_in hl rfl, sgq_2285 (vc_Mo_bars_22_0 (v_iv (n_v vs 4)) (v_iv (n_v vs 7)) (v_iv (n_v vs 8)) (w_ei ws (w_ar ws (n_v vs 0) 33)) (w_ei ws (w_ar ws (n_v vs 0) 34)) (w_ei ws (w_ar ws (n_v vs 0) 35)) (w_ei ws (w_ar ws (n_v vs 0) 36)) (w_ei ws (w_ar ws (n_v vs 0) 37)) (w_ei ws (w_ar ws (n_v vs 0) 54)) (w_ei ws (w_ar ws (n_v vs 0) 56)) (w_ei ws (w_ar ws (n_v vs 0) 57)) (w_fi ws (n_v vs 0) 31) (w_fi ws (n_v vs 0) 32) (w_fi ws (n_v vs 0) 53) (w_ei ws (w_ar ws (n_v vs 0) 75)) (w_fi w1 (n_v vs 0) 53) (w_ei w1 (w_ar ws (n_v vs 0) 33)) (w_ei w1 (w_ar ws (n_v vs 0) 34)) (w_ei w1 (w_ar ws (n_v vs 0) 35)) (w_ei w1 (w_ar ws (n_v vs 0) 36)) (w_ei w1 (w_ar ws (n_v vs 0) 37)) (w_ei w1 (w_ar ws (n_v vs 0) 54)) (w_ei w1 (w_ar ws (n_v vs 0) 56)) (w_ei w1 (w_ar ws (n_v vs 0) 57)) (w_fi w1 (n_v vs 0) 31) (w_fi w1 (n_v vs 0) 32) (w_ei w1 (w_ar ws (n_v vs 0) 20)) (w_ei w1 (w_ar ws (n_v vs 0) 75)) (w_ei ws (w_ar ws (n_v vs 0) 20)) k4 k7 k8 (shm_4 f0) f11 fe_0_31_1 fe_0_32_1 fe_0_53_1 hE_0_20_1 hE_0_33_1 hE_0_34_1 hE_0_35_1 hE_0_36_1 hE_0_37_1 hE_0_54_1 hE_0_56_1 hE_0_57_1 hE_0_75_1 kz_0_31 kz_0_32 kz_0_53)⟩
  refine ⟨(fun _ h => (by cases h)), [], trivial, ?_, (fun _ h => (by cases h))⟩
  rw [List.append_nil]
  exact List.forall_mem_cons.mpr ⟨⟨show (20 : Nat) < 100 from by decide, nf0⟩, (fun _ h => (by cases h))⟩
set_option maxHeartbeats 4000000 in
theorem vc_Mo_bars_23_0 (x4 : Int) (x6 : Int) (rounds_0 : Int) (line_0 : Int → Int) (k4 : 0 ≤ x4 ∧ x4 ≤ 159) (k6 : 1 ≤ x6 ∧ x6 ≤ 1) (f4 : LNR (rounds_0) (line_0) (x4)) (kz_0_53 : 0 ≤ rounds_0 ∧ rounds_0 ≤ 160) : LNE (rounds_0) (line_0) (x4) (x6) := by
  first
    | exact lnb_le ‹LNR _ _ _› (by omega)
    | exact lnb_le ‹LNE _ _ _ _› (by omega)
    | (have hR := brb_R ‹BRB _ _ _ _ _ _ _ _ _ _ _›
       have r1 := brb_ro (d := x8) ‹BRB _ _ _ _ _ _ _ _ _ _ _› (by omega) (by omega)
       have hx : bvp x12 = bvp x10 ^^^ bvp 1 := by rw [← (by omega : x11 = 1)]; assumption
       have e1 := xor_1 hx (by omega) (by omega) (by omega) (by omega)
       have r2 := brb_ro (d := x12) ‹BRB _ _ _ _ _ _ _ _ _ _ _› (by omega) (by omega)
       have b1 := ‹LNE _ _ _ _› x9 (by omega) (by omega)
       have b2 := ‹LNE _ _ _ _› x13 (by omega) (by omega)
       exact lnb_step ‹LNE _ _ _ _› (by omega) (by assumption) (by omega) (by omega))
def o_Mo_bars_23 : or_T := (234, 7, [(0, (2, 0, 0, [165])), (4, (0, 0, 159, [])), (6, (0, 1, 1, []))], [(20, [0, 4], [60, 1, 1, 320, 53, 20])], [], [], [(20, [0, 4, 6], [60, 1, 1, 321, 53, 20])], [], [])
theorem oo_Mo_bars_23 {kA : Nat → ClassId} : or_ok PRD kA GG o_Mo_bars_23 := by
  refine or_mk fun A ta ws vs hD hth hl => ?_
  intro t0 r0 t4 k4 t6 k6 f4
  have kz_0_53 := fdq_275 hD hth r0
  have nf0 : fc_1 PRD (20, [0, 4, 6], [60, 1, 1, 321, 53, 20]) ws (vs) := ⟨nf_in hl rfl, sgq_2289 (vc_Mo_bars_23_0 (v_iv (n_v vs 4)) (v_iv (n_v vs 6)) (w_fi ws (n_v vs 0) 53) (w_ei ws (w_ar ws (n_v vs 0) 20)) k4 k6 (shm_2288 f4) kz_0_53)⟩
  refine ⟨(fun _ h => (by cases h)), [], trivial, ?_, (fun _ h => (by cases h))⟩
  rw [List.append_nil]
  exact List.forall_mem_cons.mpr ⟨⟨show (20 : Nat) < 100 from by decide, nf0⟩, (fun _ h => (by cases h))⟩
set_option maxHeartbeats 4000000 in
theorem vc_Mo_bars_24_0 (x4 : Int) (x5 : Int) (x7 : Int) (pm_0 : Int) (pt_0 : Int → Int) (ph_0 : Int → Int) (alive_0 : Int → Int) (rotMany_0 : Int → Int) (rot_0 : Int → Int) (roundOf_0 : Int → Int) (roundBegin_0 : Int → Int) (roundDart_0 : Int → Int) (pn_0 : Int) (rounds_0 : Int) (line_0 : Int → Int) (k4 : 0 ≤ x4 ∧ x4 ≤ 159) (k5 : 1 ≤ x5 ∧ x5 ≤ 80) (k7 : 1 ≤ x7 ∧ x7 ≤ 160) (d0 : x4 + 1 ≤ x7 ∧ x7 ≤ x4 + 1) (f3 : BRB (pn_0) (pm_0) (rounds_0) (pt_0) (ph_0) (alive_0) (rotMany_0) (rot_0) (roundOf_0) (roundBegin_0) (roundDart_0)) (f5 : LNE (rounds_0) (line_0) (x4) (x5)) (kz_0_31 : 0 ≤ pn_0 ∧ pn_0 ≤ 25) (kz_0_32 : 0 ≤ pm_0 ∧ pm_0 ≤ 80) (kz_0_53 : 0 ≤ rounds_0 ∧ rounds_0 ≤ 160) : LNR (rounds_0) (line_0) (x7) := by
  first
    | (intro f a b
       have h := ‹LN0 _ _› f a (by omega)
       omega)
    | (have hR := brb_R ‹BRB _ _ _ _ _ _ _ _ _ _ _›
       exact lnb_le ‹LNE _ _ _ _› (by omega))
def o_Mo_bars_24 : or_T := (222, 8, [(0, (2, 0, 0, [165])), (4, (0, 0, 159, [])), (5, (0, 1, 80, [])), (7, (0, 1, 160, []))], [(20, [0], [60, 3, 8, 316, 31, 32, 53, 33, 34, 35, 36, 37, 54, 56, 57]), (20, [0, 4, 5], [60, 1, 1, 321, 53, 20])], [], [], [(20, [0, 7], [60, 1, 1, 320, 53, 20])], [], [(7, 4, 1, 1)])
theorem oo_Mo_bars_24 {kA : Nat → ClassId} : or_ok PRD kA GG o_Mo_bars_24 := by
  refine or_mk fun A ta ws vs hD hth hl => ?_
  intro t0 r0 t4 k4 t5 k5 t7 k7 d0 f3 f5
  have kz_0_31 := fdq_145 hD hth r0
  have kz_0_32 := fdq_140 hD hth r0
  have kz_0_53 := fdq_275 hD hth r0
  have nf0 : fc_1 PRD (20, [0, 7], [60, 1, 1, 320, 53, 20]) ws (vs) := ⟨nf_in hl rfl, sgq_2288 (vc_Mo_bars_24_0 (v_iv (n_v vs 4)) (v_iv (n_v vs 5)) (v_iv (n_v vs 7)) (w_fi ws (n_v vs 0) 32) (w_ei ws (w_ar ws (n_v vs 0) 33)) (w_ei ws (w_ar ws (n_v vs 0) 34)) (w_ei ws (w_ar ws (n_v vs 0) 35)) (w_ei ws (w_ar ws (n_v vs 0) 36)) (w_ei ws (w_ar ws (n_v vs 0) 37)) (w_ei ws (w_ar ws (n_v vs 0) 54)) (w_ei ws (w_ar ws (n_v vs 0) 56)) (w_ei ws (w_ar ws (n_v vs 0) 57)) (w_fi ws (n_v vs 0) 31) (w_fi ws (n_v vs 0) 53) (w_ei ws (w_ar ws (n_v vs 0) 20)) k4 k5 k7 d0 (shm_1123 f3) (shm_2289 f5) kz_0_31 kz_0_32 kz_0_53)⟩
  refine ⟨(fun _ h => (by cases h)), [], trivial, ?_, (fun _ h => (by cases h))⟩
  rw [List.append_nil]
  exact List.forall_mem_cons.mpr ⟨⟨show (20 : Nat) < 100 from by decide, nf0⟩, (fun _ h => (by cases h))⟩
set_option maxHeartbeats 4000000 in
theorem vc_Mo_bars_25_r0 (x6 : Int) (x8 : Int) (x9 : Int) (x10 : Int) (x11 : Int) (x12 : Int) (roundOf_0 : Int → Int) (pm_0 : Int) (pt_0 : Int → Int) (ph_0 : Int → Int) (alive_0 : Int → Int) (rotMany_0 : Int → Int) (rot_0 : Int → Int) (roundBegin_0 : Int → Int) (roundDart_0 : Int → Int) (pn_0 : Int) (rounds_0 : Int) (k10 : 1 ≤ x10 ∧ x10 ≤ 159) (k11 : 1 ≤ x11 ∧ x11 ≤ 1) (k12 : 0 ≤ x12 ∧ x12 ≤ 255) (f0 : bvp (x12) = bvp (x10) ^^^ bvp (x11)) (f9 : BRB (pn_0) (pm_0) (rounds_0) (pt_0) (ph_0) (alive_0) (rotMany_0) (rot_0) (roundOf_0) (roundBegin_0) (roundDart_0)) (kz_0_31 : 0 ≤ pn_0 ∧ pn_0 ≤ 25) (kz_0_32 : 0 ≤ pm_0 ∧ pm_0 ≤ 80) (kz_0_53 : 0 ≤ rounds_0 ∧ rounds_0 ≤ 160) : 0 ≤ x12 ∧ x12 ≤ 159 := by
  first
    | omega
    | (have hR := brb_R ‹BRB _ _ _ _ _ _ _ _ _ _ _›; omega)
    | (have hR := brb_R ‹BRB _ _ _ _ _ _ _ _ _ _ _›
       have hx : bvp x8 = bvp x6 ^^^ bvp 1 := by rw [← (by omega : x7 = 1)]; assumption
       have e1 := xor_1 hx (by omega) (by omega) (by omega) (by omega)
       omega)
    | (have hR := brb_R ‹BRB _ _ _ _ _ _ _ _ _ _ _›
       have hx : bvp x12 = bvp x10 ^^^ bvp 1 := by rw [← (by omega : x11 = 1)]; assumption
       have e1 := xor_1 hx (by omega) (by omega) (by omega) (by omega)
       omega)
    | (have hR := brb_R ‹BRB _ _ _ _ _ _ _ _ _ _ _›
       have r1 := brb_ro (d := x8) ‹BRB _ _ _ _ _ _ _ _ _ _ _› (by omega) (by omega)
       omega)
    | (have hR := brb_R ‹BRB _ _ _ _ _ _ _ _ _ _ _›
       have r1 := brb_ro (d := x8) ‹BRB _ _ _ _ _ _ _ _ _ _ _› (by omega) (by omega)
       have hx : bvp x12 = bvp x10 ^^^ bvp 1 := by rw [← (by omega : x11 = 1)]; assumption
       have e1 := xor_1 hx (by omega) (by omega) (by omega) (by omega)
       have r2 := brb_ro (d := x12) ‹BRB _ _ _ _ _ _ _ _ _ _ _› (by omega) (by omega)
       omega)
    | (have hR := brb_R ‹BRB _ _ _ _ _ _ _ _ _ _ _›
       have r1 := brb_ro (d := x8) ‹BRB _ _ _ _ _ _ _ _ _ _ _› (by omega) (by omega)
       have hx : bvp x12 = bvp x10 ^^^ bvp 1 := by rw [← (by omega : x11 = 1)]; assumption
       have e1 := xor_1 hx (by omega) (by omega) (by omega) (by omega)
       have r2 := brb_ro (d := x12) ‹BRB _ _ _ _ _ _ _ _ _ _ _› (by omega) (by omega)
       have b1 := ‹LNE _ _ _ _› x9 (by omega) (by omega)
       have b2 := ‹LNE _ _ _ _› x13 (by omega) (by omega)
       omega)
    | (have h := ‹PLN _ _ _ _ _ _ _›
       have h1 := h.2.1
       simp only [Int.add_zero] at *
       omega)
def o_Mo_bars_25 : or_T := (268, 13, [(0, (2, 0, 0, [165])), (2, (0, 3, 24, [])), (4, (0, 0, 159, [])), (5, (0, 1, 79, [])), (6, (0, 2, 80, [])), (7, (2, 0, 0, [196])), (8, (0, 1, 159, [])), (9, (0, -1, 159, [])), (10, (0, 1, 159, [])), (11, (0, 1, 1, [])), (12, (0, 0, 255, []))], [(16, [12, 10, 11], [2]), (23, [10, 5], [1, 1, -2]), (23, [10, 5], [0, -1, 2]), (9, [7, 0], [54]), (10, [9, 7, 8], []), (23, [8, 5], [1, 1, -2]), (23, [8, 5], [0, -1, 2]), (7, [5, 6], [2]), (9, [6, 0], [32]), (20, [0], [60, 3, 8, 316, 31, 32, 53, 33, 34, 35, 36, 37, 54, 56, 57]), (20, [2, 0], [50, 1, 0, 1031, 1, 2, 1, 0, 2, 1, 31]), (20, [0, 4, 5], [60, 1, 1, 321, 53, 20]), (20, [0], [60, 1, 1, 786, 31, 75])], [(12, (0, 0, 159, []))], [], [], [], [(5, 6, -4294967296, -1)])
theorem oo_Mo_bars_25 {kA : Nat → ClassId} : or_ok PRD kA GG o_Mo_bars_25 := by
  refine or_mk fun A ta ws vs hD hth hl => ?_
  intro t0 r0 t2 k2 t4 k4 t5 k5 t6 k6 t7 r7 t8 k8 t9 k9 t10 k10 t11 k11 t12 k12 d0 f0 f1 f2 f3 f4 f5 f6 f7 f8 f9 f10 f11 f12
  have kz_0_31 := fdq_145 hD hth r0
  have kz_0_32 := fdq_140 hD hth r0
  have kz_0_53 := fdq_275 hD hth r0
  have hrf0 : 0 ≤ v_iv (n_v vs 12) ∧ v_iv (n_v vs 12) ≤ 159 := vc_Mo_bars_25_r0 (v_iv (n_v vs 6)) (v_iv (n_v vs 8)) (v_iv (n_v vs 9)) (v_iv (n_v vs 10)) (v_iv (n_v vs 11)) (v_iv (n_v vs 12)) (w_ei ws (w_ar ws (n_v vs 0) 54)) (w_fi ws (n_v vs 0) 32) (w_ei ws (w_ar ws (n_v vs 0) 33)) (w_ei ws (w_ar ws (n_v vs 0) 34)) (w_ei ws (w_ar ws (n_v vs 0) 35)) (w_ei ws (w_ar ws (n_v vs 0) 36)) (w_ei ws (w_ar ws (n_v vs 0) 37)) (w_ei ws (w_ar ws (n_v vs 0) 56)) (w_ei ws (w_ar ws (n_v vs 0) 57)) (w_fi ws (n_v vs 0) 31) (w_fi ws (n_v vs 0) 53) k10 k11 k12 (shm_33 f0) (shm_1123 f9) kz_0_31 kz_0_32 kz_0_53
  have rf12 : tv_ok ta (0, 0, 159, []) (n_v vs 12) := tv_in t12 (by first | omega | grind) (by first | omega | grind)
  refine ⟨List.forall_mem_cons.mpr ⟨rf12, (fun _ h => (by cases h))⟩, [], trivial, ?_, (fun _ h => (by cases h))⟩
  rw [List.append_nil]
  exact (fun _ h => (by cases h))
set_option maxHeartbeats 4000000 in
theorem vc_Mo_bars_26_r0 (x5 : Int) (x6 : Int) (x8 : Int) (x9 : Int) (x10 : Int) (x11 : Int) (x12 : Int) (x13 : Int) (roundOf_0 : Int → Int) (pm_0 : Int) (pt_0 : Int → Int) (ph_0 : Int → Int) (alive_0 : Int → Int) (rotMany_0 : Int → Int) (rot_0 : Int → Int) (roundBegin_0 : Int → Int) (roundDart_0 : Int → Int) (pn_0 : Int) (rounds_0 : Int) (k5 : 1 ≤ x5 ∧ x5 ≤ 79) (k6 : 2 ≤ x6 ∧ x6 ≤ 80) (k8 : 1 ≤ x8 ∧ x8 ≤ 159) (k9 : (-1) ≤ x9 ∧ x9 ≤ 159) (k12 : 0 ≤ x12 ∧ x12 ≤ 159) (k13 : (-1) ≤ x13 ∧ x13 ≤ 159) (d0 : x6 + (-4294967296) ≤ x5 ∧ x5 ≤ x6 + (-1)) (h1 : x13 = roundOf_0 (x12)) (h6 : x9 = roundOf_0 (x8)) (f7 : 1 * x8 + ((-2) * x5 + 0) ≤ 1) (f8 : (-1) * x8 + (2 * x5 + 0) ≤ 0) (g10 : x6 = pm_0) (f11 : BRB (pn_0) (pm_0) (rounds_0) (pt_0) (ph_0) (alive_0) (rotMany_0) (rot_0) (roundOf_0) (roundBegin_0) (roundDart_0)) (kz_0_31 : 0 ≤ pn_0 ∧ pn_0 ≤ 25) (kz_0_32 : 0 ≤ pm_0 ∧ pm_0 ≤ 80) (kz_0_53 : 0 ≤ rounds_0 ∧ rounds_0 ≤ 160) : 0 ≤ x9 ∧ x9 ≤ 99 := by
  first
    | omega
    | (have hR := brb_R ‹BRB _ _ _ _ _ _ _ _ _ _ _›; omega)
    | (have hR := brb_R ‹BRB _ _ _ _ _ _ _ _ _ _ _›
       have hx : bvp x8 = bvp x6 ^^^ bvp 1 := by rw [← (by omega : x7 = 1)]; assumption
       have e1 := xor_1 hx (by omega) (by omega) (by omega) (by omega)
       omega)
    | (have hR := brb_R ‹BRB _ _ _ _ _ _ _ _ _ _ _›
       have hx : bvp x12 = bvp x10 ^^^ bvp 1 := by rw [← (by omega : x11 = 1)]; assumption
       have e1 := xor_1 hx (by omega) (by omega) (by omega) (by omega)
       omega)
    | (have hR := brb_R ‹BRB _ _ _ _ _ _ _ _ _ _ _›
       have r1 := brb_ro (d := x8) ‹BRB _ _ _ _ _ _ _ _ _ _ _› (by omega) (by omega)
       omega)
    | (have hR := brb_R ‹BRB _ _ _ _ _ _ _ _ _ _ _›
       have r1 := brb_ro (d := x8) ‹BRB _ _ _ _ _ _ _ _ _ _ _› (by omega) (by omega)
       have hx : bvp x12 = bvp x10 ^^^ bvp 1 := by rw [← (by omega : x11 = 1)]; assumption
       have e1 := xor_1 hx (by omega) (by omega) (by omega) (by omega)
       have r2 := brb_ro (d := x12) ‹BRB _ _ _ _ _ _ _ _ _ _ _› (by omega) (by omega)
       omega)
    | (have hR := brb_R ‹BRB _ _ _ _ _ _ _ _ _ _ _›
       have r1 := brb_ro (d := x8) ‹BRB _ _ _ _ _ _ _ _ _ _ _› (by omega) (by omega)
       have hx : bvp x12 = bvp x10 ^^^ bvp 1 := by rw [← (by omega : x11 = 1)]; assumption
       have e1 := xor_1 hx (by omega) (by omega) (by omega) (by omega)
       have r2 := brb_ro (d := x12) ‹BRB _ _ _ _ _ _ _ _ _ _ _› (by omega) (by omega)
       have b1 := ‹LNE _ _ _ _› x9 (by omega) (by omega)
       have b2 := ‹LNE _ _ _ _› x13 (by omega) (by omega)
       omega)
    | (have h := ‹PLN _ _ _ _ _ _ _›
       have h1 := h.2.1
       simp only [Int.add_zero] at *
       omega)
def o_Mo_bars_26 : or_T := (277, 15, [(0, (2, 0, 0, [165])), (2, (0, 3, 24, [])), (4, (0, 0, 159, [])), (5, (0, 1, 79, [])), (6, (0, 2, 80, [])), (7, (2, 0, 0, [196])), (8, (0, 1, 159, [])), (9, (0, -1, 159, [])), (10, (0, 1, 159, [])), (11, (0, 1, 1, [])), (12, (0, 0, 159, [])), (13, (0, -1, 159, [])), (14, (2, 0, 0, [175]))], [(9, [14, 0], [20]), (10, [13, 7, 12], []), (16, [12, 10, 11], [2]), (23, [10, 5], [1, 1, -2]), (23, [10, 5], [0, -1, 2]), (9, [7, 0], [54]), (10, [9, 7, 8], []), (23, [8, 5], [1, 1, -2]), (23, [8, 5], [0, -1, 2]), (7, [5, 6], [2]), (9, [6, 0], [32]), (20, [0], [60, 3, 8, 316, 31, 32, 53, 33, 34, 35, 36, 37, 54, 56, 57]), (20, [2, 0], [50, 1, 0, 1031, 1, 2, 1, 0, 2, 1, 31]), (20, [0, 4, 5], [60, 1, 1, 321, 53, 20]), (20, [0], [60, 1, 1, 786, 31, 75])], [(9, (0, 0, 99, []))], [], [], [], [(5, 6, -4294967296, -1)])
theorem oo_Mo_bars_26 {kA : Nat → ClassId} : or_ok PRD kA GG o_Mo_bars_26 := by
  refine or_mk fun A ta ws vs hD hth hl => ?_
  intro t0 r0 t2 k2 t4 k4 t5 k5 t6 k6 t7 r7 t8 k8 t9 k9 t10 k10 t11 k11 t12 k12 t13 k13 t14 r14 d0 f0 f1 f2 f3 f4 f5 f6 f7 f8 f9 f10 f11 f12 f13 f14
  replace f1 := shm_107 f1
  replace f5 := shm_1122 f5
  replace f6 := shm_107 f6
  replace f10 := shm_525 f10
  have ad_7 : v_ad (n_v vs 7) = w_ar ws (n_v vs 0) 54 := congrArg v_ad f5
  simp only [ad_7] at f1
  have h1 : v_iv (n_v vs 13) = w_ei ws (w_ar ws (n_v vs 0) 54) (v_iv (n_v vs 12)) := f1
  simp only [ad_7] at f6
  have h6 : v_iv (n_v vs 9) = w_ei ws (w_ar ws (n_v vs 0) 54) (v_iv (n_v vs 8)) := f6
  have g10 : v_iv (n_v vs 6) = w_fi ws (n_v vs 0) 32 := congrArg v_iv f10
  have kz_0_31 := fdq_145 hD hth r0
  have kz_0_32 := fdq_140 hD hth r0
  have kz_0_53 := fdq_275 hD hth r0
  have hrf0 : 0 ≤ v_iv (n_v vs 9) ∧ v_iv (n_v vs 9) ≤ 99 := vc_Mo_bars_26_r0 (v_iv (n_v vs 5)) (v_iv (n_v vs 6)) (v_iv (n_v vs 8)) (v_iv (n_v vs 9)) (v_iv (n_v vs 10)) (v_iv (n_v vs 11)) (v_iv (n_v vs 12)) (v_iv (n_v vs 13)) (w_ei ws (w_ar ws (n_v vs 0) 54)) (w_fi ws (n_v vs 0) 32) (w_ei ws (w_ar ws (n_v vs 0) 33)) (w_ei ws (w_ar ws (n_v vs 0) 34)) (w_ei ws (w_ar ws (n_v vs 0) 35)) (w_ei ws (w_ar ws (n_v vs 0) 36)) (w_ei ws (w_ar ws (n_v vs 0) 37)) (w_ei ws (w_ar ws (n_v vs 0) 56)) (w_ei ws (w_ar ws (n_v vs 0) 57)) (w_fi ws (n_v vs 0) 31) (w_fi ws (n_v vs 0) 53) k5 k6 k8 k9 k12 k13 d0 h1 h6 (shm_143 f7) (shm_144 f8) g10 (shm_1123 f11) kz_0_31 kz_0_32 kz_0_53
  have rf9 : tv_ok ta (0, 0, 99, []) (n_v vs 9) := tv_in t9 (by first | omega | grind) (by first | omega | grind)
  refine ⟨List.forall_mem_cons.mpr ⟨rf9, (fun _ h => (by cases h))⟩, [], trivial, ?_, (fun _ h => (by cases h))⟩
  rw [List.append_nil]
  exact (fun _ h => (by cases h))
set_option maxHeartbeats 4000000 in
theorem vc_Mo_bars_27_0 (x4 : Int) (x5 : Int) (x8 : Int) (x9 : Int) (x10 : Int) (x11 : Int) (x12 : Int) (x13 : Int) (x16 : Int) (line_0 : Int → Int) (rounds_0 : Int) (k4 : 0 ≤ x4 ∧ x4 ≤ 159) (k5 : 1 ≤ x5 ∧ x5 ≤ 79) (k16 : 2 ≤ x16 ∧ x16 ≤ 80) (d0 : x5 + 1 ≤ x16 ∧ x16 ≤ x5 + 1) (f16 : LNE (rounds_0) (line_0) (x4) (x5)) (kz_0_53 : 0 ≤ rounds_0 ∧ rounds_0 ≤ 160) : LNE (rounds_0) (line_0) (x4) (x16) := by
  first
    | exact lnb_le ‹LNR _ _ _› (by omega)
    | exact lnb_le ‹LNE _ _ _ _› (by omega)
    | (have hR := brb_R ‹BRB _ _ _ _ _ _ _ _ _ _ _›
       have r1 := brb_ro (d := x8) ‹BRB _ _ _ _ _ _ _ _ _ _ _› (by omega) (by omega)
       have hx : bvp x12 = bvp x10 ^^^ bvp 1 := by rw [← (by omega : x11 = 1)]; assumption
       have e1 := xor_1 hx (by omega) (by omega) (by omega) (by omega)
       have r2 := brb_ro (d := x12) ‹BRB _ _ _ _ _ _ _ _ _ _ _› (by omega) (by omega)
       have b1 := ‹LNE _ _ _ _› x9 (by omega) (by omega)
       have b2 := ‹LNE _ _ _ _› x13 (by omega) (by omega)
       exact lnb_step ‹LNE _ _ _ _› (by omega) (by assumption) (by omega) (by omega))
def o_Mo_bars_27 : or_T := (234, 17, [(0, (2, 0, 0, [165])), (2, (0, 3, 24, [])), (4, (0, 0, 159, [])), (5, (0, 1, 79, [])), (6, (0, 2, 80, [])), (7, (2, 0, 0, [196])), (8, (0, 1, 159, [])), (9, (0, 0, 99, [])), (10, (0, 1, 159, [])), (11, (0, 1, 1, [])), (12, (0, 0, 159, [])), (13, (0, -1, 159, [])), (14, (2, 0, 0, [175])), (15, (0, -1000000, -1, [])), (16, (0, 2, 80, []))], [(6, [16, 5], [1]), (8, [15], [2]), (10, [15, 14, 9], []), (9, [14, 0], [20]), (10, [13, 7, 12], []), (16, [12, 10, 11], [2]), (23, [10, 5], [1, 1, -2]), (23, [10, 5], [0, -1, 2]), (9, [7, 0], [54]), (10, [9, 7, 8], []), (23, [8, 5], [1, 1, -2]), (23, [8, 5], [0, -1, 2]), (7, [5, 6], [2]), (9, [6, 0], [32]), (20, [0], [60, 3, 8, 316, 31, 32, 53, 33, 34, 35, 36, 37, 54, 56, 57]), (20, [2, 0], [50, 1, 0, 1031, 1, 2, 1, 0, 2, 1, 31]), (20, [0, 4, 5], [60, 1, 1, 321, 53, 20]), (20, [0], [60, 1, 1, 786, 31, 75])], [], [], [(20, [0, 4, 16], [60, 1, 1, 321, 53, 20])], [], [(16, 5, 1, 1), (16, 6, -4294967296, 0), (5, 6, -4294967296, -1)])
theorem oo_Mo_bars_27 {kA : Nat → ClassId} : or_ok PRD kA GG o_Mo_bars_27 := by
  refine or_mk fun A ta ws vs hD hth hl => ?_
  intro t0 r0 t2 k2 t4 k4 t5 k5 t6 k6 t7 r7 t8 k8 t9 k9 t10 k10 t11 k11 t12 k12 t13 k13 t14 r14 t15 k15 t16 k16 d0 d1 d2 f0 f1 f2 f3 f4 f5 f6 f7 f8 f9 f10 f11 f12 f13 f14 f15 f16 f17
  have kz_0_53 := fdq_275 hD hth r0
  have nf0 : fc_1 PRD (20, [0, 4, 16], [60, 1, 1, 321, 53, 20]) ws (vs) := ⟨nf_in hl rfl, sgq_2289 (vc_Mo_bars_27_0 (v_iv (n_v vs 4)) (v_iv (n_v vs 5)) (v_iv (n_v vs 8)) (v_iv (n_v vs 9)) (v_iv (n_v vs 10)) (v_iv (n_v vs 11)) (v_iv (n_v vs 12)) (v_iv (n_v vs 13)) (v_iv (n_v vs 16)) (w_ei ws (w_ar ws (n_v vs 0) 20)) (w_fi ws (n_v vs 0) 53) k4 k5 k16 d0 (shm_2289 f16) kz_0_53)⟩
  refine ⟨(fun _ h => (by cases h)), [], trivial, ?_, (fun _ h => (by cases h))⟩
  rw [List.append_nil]
  exact List.forall_mem_cons.mpr ⟨⟨show (20 : Nat) < 100 from by decide, nf0⟩, (fun _ h => (by cases h))⟩
set_option maxHeartbeats 4000000 in
theorem vc_Mo_bars_28_r0 (x5 : Int) (x6 : Int) (x8 : Int) (x9 : Int) (x10 : Int) (x11 : Int) (x12 : Int) (x13 : Int) (roundOf_0 : Int → Int) (pm_0 : Int) (pt_0 : Int → Int) (ph_0 : Int → Int) (alive_0 : Int → Int) (rotMany_0 : Int → Int) (rot_0 : Int → Int) (roundBegin_0 : Int → Int) (roundDart_0 : Int → Int) (pn_0 : Int) (rounds_0 : Int) (k5 : 1 ≤ x5 ∧ x5 ≤ 79) (k6 : 2 ≤ x6 ∧ x6 ≤ 80) (k8 : 1 ≤ x8 ∧ x8 ≤ 159) (k10 : 1 ≤ x10 ∧ x10 ≤ 159) (k11 : 1 ≤ x11 ∧ x11 ≤ 1) (k12 : 0 ≤ x12 ∧ x12 ≤ 159) (k13 : (-1) ≤ x13 ∧ x13 ≤ 159) (d0 : x6 + (-4294967296) ≤ x5 ∧ x5 ≤ x6 + (-1)) (h3 : x13 = roundOf_0 (x12)) (f4 : bvp (x12) = bvp (x10) ^^^ bvp (x11)) (f5 : 1 * x10 + ((-2) * x5 + 0) ≤ 1) (f6 : (-1) * x10 + (2 * x5 + 0) ≤ 0) (f9 : 1 * x8 + ((-2) * x5 + 0) ≤ 1) (f10 : (-1) * x8 + (2 * x5 + 0) ≤ 0) (g12 : x6 = pm_0) (f13 : BRB (pn_0) (pm_0) (rounds_0) (pt_0) (ph_0) (alive_0) (rotMany_0) (rot_0) (roundOf_0) (roundBegin_0) (roundDart_0)) (kz_0_31 : 0 ≤ pn_0 ∧ pn_0 ≤ 25) (kz_0_32 : 0 ≤ pm_0 ∧ pm_0 ≤ 80) (kz_0_53 : 0 ≤ rounds_0 ∧ rounds_0 ≤ 160) : 0 ≤ x13 ∧ x13 ≤ 99 := by
  first
    | omega
    | (have hR := brb_R ‹BRB _ _ _ _ _ _ _ _ _ _ _›; omega)
    | (have hR := brb_R ‹BRB _ _ _ _ _ _ _ _ _ _ _›
       have hx : bvp x8 = bvp x6 ^^^ bvp 1 := by rw [← (by omega : x7 = 1)]; assumption
       have e1 := xor_1 hx (by omega) (by omega) (by omega) (by omega)
       omega)
    | (have hR := brb_R ‹BRB _ _ _ _ _ _ _ _ _ _ _›
       have hx : bvp x12 = bvp x10 ^^^ bvp 1 := by rw [← (by omega : x11 = 1)]; assumption
       have e1 := xor_1 hx (by omega) (by omega) (by omega) (by omega)
       omega)
    | (have hR := brb_R ‹BRB _ _ _ _ _ _ _ _ _ _ _›
       have r1 := brb_ro (d := x8) ‹BRB _ _ _ _ _ _ _ _ _ _ _› (by omega) (by omega)
       omega)
    | (have hR := brb_R ‹BRB _ _ _ _ _ _ _ _ _ _ _›
       have r1 := brb_ro (d := x8) ‹BRB _ _ _ _ _ _ _ _ _ _ _› (by omega) (by omega)
       have hx : bvp x12 = bvp x10 ^^^ bvp 1 := by rw [← (by omega : x11 = 1)]; assumption
       have e1 := xor_1 hx (by omega) (by omega) (by omega) (by omega)
       have r2 := brb_ro (d := x12) ‹BRB _ _ _ _ _ _ _ _ _ _ _› (by omega) (by omega)
       omega)
    | (have hR := brb_R ‹BRB _ _ _ _ _ _ _ _ _ _ _›
       have r1 := brb_ro (d := x8) ‹BRB _ _ _ _ _ _ _ _ _ _ _› (by omega) (by omega)
       have hx : bvp x12 = bvp x10 ^^^ bvp 1 := by rw [← (by omega : x11 = 1)]; assumption
       have e1 := xor_1 hx (by omega) (by omega) (by omega) (by omega)
       have r2 := brb_ro (d := x12) ‹BRB _ _ _ _ _ _ _ _ _ _ _› (by omega) (by omega)
       have b1 := ‹LNE _ _ _ _› x9 (by omega) (by omega)
       have b2 := ‹LNE _ _ _ _› x13 (by omega) (by omega)
       omega)
    | (have h := ‹PLN _ _ _ _ _ _ _›
       have h1 := h.2.1
       simp only [Int.add_zero] at *
       omega)
def o_Mo_bars_28 : or_T := (293, 16, [(0, (2, 0, 0, [165])), (2, (0, 3, 24, [])), (4, (0, 0, 159, [])), (5, (0, 1, 79, [])), (6, (0, 2, 80, [])), (7, (2, 0, 0, [196])), (8, (0, 1, 159, [])), (9, (0, 0, 99, [])), (10, (0, 1, 159, [])), (11, (0, 1, 1, [])), (12, (0, 0, 159, [])), (13, (0, -1, 159, [])), (14, (2, 0, 0, [175])), (15, (0, 0, 1000000, []))], [(9, [14, 0], [20]), (8, [15], [3]), (10, [15, 14, 9], []), (10, [13, 7, 12], []), (16, [12, 10, 11], [2]), (23, [10, 5], [1, 1, -2]), (23, [10, 5], [0, -1, 2]), (9, [7, 0], [54]), (10, [9, 7, 8], []), (23, [8, 5], [1, 1, -2]), (23, [8, 5], [0, -1, 2]), (7, [5, 6], [2]), (9, [6, 0], [32]), (20, [0], [60, 3, 8, 316, 31, 32, 53, 33, 34, 35, 36, 37, 54, 56, 57]), (20, [2, 0], [50, 1, 0, 1031, 1, 2, 1, 0, 2, 1, 31]), (20, [0, 4, 5], [60, 1, 1, 321, 53, 20]), (20, [0], [60, 1, 1, 786, 31, 75])], [(13, (0, 0, 99, []))], [], [], [], [(5, 6, -4294967296, -1)])
theorem oo_Mo_bars_28 {kA : Nat → ClassId} : or_ok PRD kA GG o_Mo_bars_28 := by
  refine or_mk fun A ta ws vs hD hth hl => ?_
  intro t0 r0 t2 k2 t4 k4 t5 k5 t6 k6 t7 r7 t8 k8 t9 k9 t10 k10 t11 k11 t12 k12 t13 k13 t14 r14 t15 k15 d0 f0 f1 f2 f3 f4 f5 f6 f7 f8 f9 f10 f11 f12 f13 f14 f15 f16
  replace f3 := shm_107 f3
  replace f7 := shm_1122 f7
  replace f12 := shm_525 f12
  have ad_7 : v_ad (n_v vs 7) = w_ar ws (n_v vs 0) 54 := congrArg v_ad f7
  simp only [ad_7] at f3
  have h3 : v_iv (n_v vs 13) = w_ei ws (w_ar ws (n_v vs 0) 54) (v_iv (n_v vs 12)) := f3
  have g12 : v_iv (n_v vs 6) = w_fi ws (n_v vs 0) 32 := congrArg v_iv f12
  have kz_0_31 := fdq_145 hD hth r0
  have kz_0_32 := fdq_140 hD hth r0
  have kz_0_53 := fdq_275 hD hth r0
  have hrf0 : 0 ≤ v_iv (n_v vs 13) ∧ v_iv (n_v vs 13) ≤ 99 := vc_Mo_bars_28_r0 (v_iv (n_v vs 5)) (v_iv (n_v vs 6)) (v_iv (n_v vs 8)) (v_iv (n_v vs 9)) (v_iv (n_v vs 10)) (v_iv (n_v vs 11)) (v_iv (n_v vs 12)) (v_iv (n_v vs 13)) (w_ei ws (w_ar ws (n_v vs 0) 54)) (w_fi ws (n_v vs 0) 32) (w_ei ws (w_ar ws (n_v vs 0) 33)) (w_ei ws (w_ar ws (n_v vs 0) 34)) (w_ei ws (w_ar ws (n_v vs 0) 35)) (w_ei ws (w_ar ws (n_v vs 0) 36)) (w_ei ws (w_ar ws (n_v vs 0) 37)) (w_ei ws (w_ar ws (n_v vs 0) 56)) (w_ei ws (w_ar ws (n_v vs 0) 57)) (w_fi ws (n_v vs 0) 31) (w_fi ws (n_v vs 0) 53) k5 k6 k8 k10 k11 k12 k13 d0 h3 (shm_33 f4) (shm_143 f5) (shm_144 f6) (shm_143 f9) (shm_144 f10) g12 (shm_1123 f13) kz_0_31 kz_0_32 kz_0_53
  have rf13 : tv_ok ta (0, 0, 99, []) (n_v vs 13) := tv_in t13 (by first | omega | grind) (by first | omega | grind)
  refine ⟨List.forall_mem_cons.mpr ⟨rf13, (fun _ h => (by cases h))⟩, [], trivial, ?_, (fun _ h => (by cases h))⟩
  rw [List.append_nil]
  exact (fun _ h => (by cases h))
set_option maxHeartbeats 4000000 in
theorem vc_Mo_bars_29_r0 (x4 : Int) (x5 : Int) (x6 : Int) (x8 : Int) (x9 : Int) (x10 : Int) (x11 : Int) (x12 : Int) (x13 : Int) (x15 : Int) (x17 : Int) (x19 : Int) (line_0 : Int → Int) (roundOf_0 : Int → Int) (pm_0 : Int) (pt_0 : Int → Int) (ph_0 : Int → Int) (alive_0 : Int → Int) (rotMany_0 : Int → Int) (rot_0 : Int → Int) (roundBegin_0 : Int → Int) (roundDart_0 : Int → Int) (pn_0 : Int) (rounds_0 : Int) (k4 : 0 ≤ x4 ∧ x4 ≤ 159) (k5 : 1 ≤ x5 ∧ x5 ≤ 79) (k6 : 2 ≤ x6 ∧ x6 ≤ 80) (k8 : 1 ≤ x8 ∧ x8 ≤ 159) (k9 : 0 ≤ x9 ∧ x9 ≤ 99) (k10 : 1 ≤ x10 ∧ x10 ≤ 159) (k11 : 1 ≤ x11 ∧ x11 ≤ 1) (k12 : 0 ≤ x12 ∧ x12 ≤ 159) (k13 : 0 ≤ x13 ∧ x13 ≤ 99) (k15 : 0 ≤ x15 ∧ x15 ≤ 1000000) (k17 : (-1000000) ≤ x17 ∧ x17 ≤ 1000000) (k19 : (-999999) ≤ x19 ∧ x19 ≤ 1000001) (d1 : x17 + 1 ≤ x19 ∧ x19 ≤ x17 + 1) (d2 : x6 + (-4294967296) ≤ x5 ∧ x5 ≤ x6 + (-1)) (h3 : x17 = line_0 (x9)) (h7 : x15 = line_0 (x9)) (h8 : x13 = roundOf_0 (x12)) (f9 : bvp (x12) = bvp (x10) ^^^ bvp (x11)) (f10 : 1 * x10 + ((-2) * x5 + 0) ≤ 1) (f11 : (-1) * x10 + (2 * x5 + 0) ≤ 0) (h13 : x9 = roundOf_0 (x8)) (f14 : 1 * x8 + ((-2) * x5 + 0) ≤ 1) (f15 : (-1) * x8 + (2 * x5 + 0) ≤ 0) (g17 : x6 = pm_0) (f18 : BRB (pn_0) (pm_0) (rounds_0) (pt_0) (ph_0) (alive_0) (rotMany_0) (rot_0) (roundOf_0) (roundBegin_0) (roundDart_0)) (f20 : LNE (rounds_0) (line_0) (x4) (x5)) (kz_0_31 : 0 ≤ pn_0 ∧ pn_0 ≤ 25) (kz_0_32 : 0 ≤ pm_0 ∧ pm_0 ≤ 80) (kz_0_53 : 0 ≤ rounds_0 ∧ rounds_0 ≤ 160) : (-999999) ≤ x19 ∧ x19 ≤ 1000000 := by
  first
    | omega
    | (have hR := brb_R ‹BRB _ _ _ _ _ _ _ _ _ _ _›; omega)
    | (have hR := brb_R ‹BRB _ _ _ _ _ _ _ _ _ _ _›
       have hx : bvp x8 = bvp x6 ^^^ bvp 1 := by rw [← (by omega : x7 = 1)]; assumption
       have e1 := xor_1 hx (by omega) (by omega) (by omega) (by omega)
       omega)
    | (have hR := brb_R ‹BRB _ _ _ _ _ _ _ _ _ _ _›
       have hx : bvp x12 = bvp x10 ^^^ bvp 1 := by rw [← (by omega : x11 = 1)]; assumption
       have e1 := xor_1 hx (by omega) (by omega) (by omega) (by omega)
       omega)
    | (have hR := brb_R ‹BRB _ _ _ _ _ _ _ _ _ _ _›
       have r1 := brb_ro (d := x8) ‹BRB _ _ _ _ _ _ _ _ _ _ _› (by omega) (by omega)
       omega)
    | (have hR := brb_R ‹BRB _ _ _ _ _ _ _ _ _ _ _›
       have r1 := brb_ro (d := x8) ‹BRB _ _ _ _ _ _ _ _ _ _ _› (by omega) (by omega)
       have hx : bvp x12 = bvp x10 ^^^ bvp 1 := by rw [← (by omega : x11 = 1)]; assumption
       have e1 := xor_1 hx (by omega) (by omega) (by omega) (by omega)
       have r2 := brb_ro (d := x12) ‹BRB _ _ _ _ _ _ _ _ _ _ _› (by omega) (by omega)
       omega)
    | (have hR := brb_R ‹BRB _ _ _ _ _ _ _ _ _ _ _›
       have r1 := brb_ro (d := x8) ‹BRB _ _ _ _ _ _ _ _ _ _ _› (by omega) (by omega)
       have hx : bvp x12 = bvp x10 ^^^ bvp 1 := by rw [← (by omega : x11 = 1)]; assumption
       have e1 := xor_1 hx (by omega) (by omega) (by omega) (by omega)
       have r2 := brb_ro (d := x12) ‹BRB _ _ _ _ _ _ _ _ _ _ _› (by omega) (by omega)
       have b1 := ‹LNE _ _ _ _› x9 (by omega) (by omega)
       have b2 := ‹LNE _ _ _ _› x13 (by omega) (by omega)
       omega)
    | (have h := ‹PLN _ _ _ _ _ _ _›
       have h1 := h.2.1
       simp only [Int.add_zero] at *
       omega)
def o_Mo_bars_29 : or_T := (306, 20, [(0, (2, 0, 0, [165])), (2, (0, 3, 24, [])), (4, (0, 0, 159, [])), (5, (0, 1, 79, [])), (6, (0, 2, 80, [])), (7, (2, 0, 0, [196])), (8, (0, 1, 159, [])), (9, (0, 0, 99, [])), (10, (0, 1, 159, [])), (11, (0, 1, 1, [])), (12, (0, 0, 159, [])), (13, (0, 0, 99, [])), (14, (2, 0, 0, [175])), (15, (0, 0, 1000000, [])), (16, (0, -1000000, 1000000, [])), (17, (0, -1000000, 1000000, [])), (18, (0, 1, 1, [])), (19, (0, -999999, 1000001, []))], [(7, [16, 19], [5]), (7, [19, 19], [5]), (1, [19, 17, 18], []), (10, [17, 14, 9], []), (9, [14, 0], [20]), (10, [16, 14, 13], []), (8, [15], [3]), (10, [15, 14, 9], []), (10, [13, 7, 12], []), (16, [12, 10, 11], [2]), (23, [10, 5], [1, 1, -2]), (23, [10, 5], [0, -1, 2]), (9, [7, 0], [54]), (10, [9, 7, 8], []), (23, [8, 5], [1, 1, -2]), (23, [8, 5], [0, -1, 2]), (7, [5, 6], [2]), (9, [6, 0], [32]), (20, [0], [60, 3, 8, 316, 31, 32, 53, 33, 34, 35, 36, 37, 54, 56, 57]), (20, [2, 0], [50, 1, 0, 1031, 1, 2, 1, 0, 2, 1, 31]), (20, [0, 4, 5], [60, 1, 1, 321, 53, 20]), (20, [0], [60, 1, 1, 786, 31, 75])], [(19, (0, -999999, 1000000, []))], [], [], [], [(16, 19, -4294967296, 0), (19, 17, 1, 1), (5, 6, -4294967296, -1)])
theorem oo_Mo_bars_29 {kA : Nat → ClassId} : or_ok PRD kA GG o_Mo_bars_29 := by
  refine or_mk fun A ta ws vs hD hth hl => ?_
  intro t0 r0 t2 k2 t4 k4 t5 k5 t6 k6 t7 r7 t8 k8 t9 k9 t10 k10 t11 k11 t12 k12 t13 k13 t14 r14 t15 k15 t16 k16 t17 k17 t18 k18 t19 k19 d0 d1 d2 f0 f1 f2 f3 f4 f5 f6 f7 f8 f9 f10 f11 f12 f13 f14 f15 f16 f17 f18 f19 f20 f21
  replace f3 := shm_107 f3
  replace f4 := shm_740 f4
  replace f7 := shm_107 f7
  replace f8 := shm_107 f8
  replace f12 := shm_1122 f12
  replace f13 := shm_107 f13
  replace f17 := shm_525 f17
  have ad_14 : v_ad (n_v vs 14) = w_ar ws (n_v vs 0) 20 := congrArg v_ad f4
  have ad_7 : v_ad (n_v vs 7) = w_ar ws (n_v vs 0) 54 := congrArg v_ad f12
  simp only [ad_14] at f3
  have h3 : v_iv (n_v vs 17) = w_ei ws (w_ar ws (n_v vs 0) 20) (v_iv (n_v vs 9)) := f3
  simp only [ad_14] at f7
  have h7 : v_iv (n_v vs 15) = w_ei ws (w_ar ws (n_v vs 0) 20) (v_iv (n_v vs 9)) := f7
  simp only [ad_7] at f8
  have h8 : v_iv (n_v vs 13) = w_ei ws (w_ar ws (n_v vs 0) 54) (v_iv (n_v vs 12)) := f8
  simp only [ad_7] at f13
  have h13 : v_iv (n_v vs 9) = w_ei ws (w_ar ws (n_v vs 0) 54) (v_iv (n_v vs 8)) := f13
  have g17 : v_iv (n_v vs 6) = w_fi ws (n_v vs 0) 32 := congrArg v_iv f17
  have kz_0_31 := fdq_145 hD hth r0
  have kz_0_32 := fdq_140 hD hth r0
  have kz_0_53 := fdq_275 hD hth r0
  have hrf0 : (-999999) ≤ v_iv (n_v vs 19) ∧ v_iv (n_v vs 19) ≤ 1000000 := vc_Mo_bars_29_r0 (v_iv (n_v vs 4)) (v_iv (n_v vs 5)) (v_iv (n_v vs 6)) (v_iv (n_v vs 8)) (v_iv (n_v vs 9)) (v_iv (n_v vs 10)) (v_iv (n_v vs 11)) (v_iv (n_v vs 12)) (v_iv (n_v vs 13)) (v_iv (n_v vs 15)) (v_iv (n_v vs 17)) (v_iv (n_v vs 19)) (w_ei ws (w_ar ws (n_v vs 0) 20)) (w_ei ws (w_ar ws (n_v vs 0) 54)) (w_fi ws (n_v vs 0) 32) (w_ei ws (w_ar ws (n_v vs 0) 33)) (w_ei ws (w_ar ws (n_v vs 0) 34)) (w_ei ws (w_ar ws (n_v vs 0) 35)) (w_ei ws (w_ar ws (n_v vs 0) 36)) (w_ei ws (w_ar ws (n_v vs 0) 37)) (w_ei ws (w_ar ws (n_v vs 0) 56)) (w_ei ws (w_ar ws (n_v vs 0) 57)) (w_fi ws (n_v vs 0) 31) (w_fi ws (n_v vs 0) 53) k4 k5 k6 k8 k9 k10 k11 k12 k13 k15 k17 k19 d1 d2 h3 h7 h8 (shm_33 f9) (shm_143 f10) (shm_144 f11) h13 (shm_143 f14) (shm_144 f15) g17 (shm_1123 f18) (shm_2289 f20) kz_0_31 kz_0_32 kz_0_53
  have rf19 : tv_ok ta (0, -999999, 1000000, []) (n_v vs 19) := tv_in t19 (by first | omega | grind) (by first | omega | grind)
  refine ⟨List.forall_mem_cons.mpr ⟨rf19, (fun _ h => (by cases h))⟩, [], trivial, ?_, (fun _ h => (by cases h))⟩
  rw [List.append_nil]
  exact (fun _ h => (by cases h))
set_option maxHeartbeats 4000000 in
theorem vc_Mo_bars_30_0 (x4 : Int) (x5 : Int) (x6 : Int) (x8 : Int) (x9 : Int) (x10 : Int) (x11 : Int) (x12 : Int) (x13 : Int) (x15 : Int) (x17 : Int) (x19 : Int) (x20 : Int) (pt_0 : Int → Int) (ph_0 : Int → Int) (alive_0 : Int → Int) (rotMany_0 : Int → Int) (rot_0 : Int → Int) (roundOf_0 : Int → Int) (roundBegin_0 : Int → Int) (roundDart_0 : Int → Int) (pn_0 : Int) (pm_0 : Int) (rounds_0 : Int) (ny_0 : Int → Int) (line_1 : Int → Int) (roundOf_1 : Int → Int) (pm_1 : Int) (pt_1 : Int → Int) (ph_1 : Int → Int) (alive_1 : Int → Int) (rotMany_1 : Int → Int) (rot_1 : Int → Int) (roundBegin_1 : Int → Int) (roundDart_1 : Int → Int) (pn_1 : Int) (rounds_1 : Int) (ny_1 : Int → Int) (line_0 : Int → Int) (k4 : 0 ≤ x4 ∧ x4 ≤ 159) (k5 : 1 ≤ x5 ∧ x5 ≤ 79) (k6 : 2 ≤ x6 ∧ x6 ≤ 80) (k8 : 1 ≤ x8 ∧ x8 ≤ 159) (k9 : 0 ≤ x9 ∧ x9 ≤ 99) (k10 : 1 ≤ x10 ∧ x10 ≤ 159) (k11 : 1 ≤ x11 ∧ x11 ≤ 1) (k12 : 0 ≤ x12 ∧ x12 ≤ 159) (k13 : 0 ≤ x13 ∧ x13 ≤ 99) (k15 : 0 ≤ x15 ∧ x15 ≤ 1000000) (k17 : (-1000000) ≤ x17 ∧ x17 ≤ 1000000) (k19 : (-999999) ≤ x19 ∧ x19 ≤ 1000000) (k20 : 2 ≤ x20 ∧ x20 ≤ 80) (d0 : x5 + 1 ≤ x20 ∧ x20 ≤ x5 + 1) (d1 : x6 + (-4294967296) ≤ x20 ∧ x20 ≤ x6 + 0) (d3 : x17 + 1 ≤ x19 ∧ x19 ≤ x17 + 1) (d4 : x6 + (-4294967296) ≤ x5 ∧ x5 ≤ x6 + (-1)) (f1 : 1 * x10 + ((-2) * x5 + 0) ≤ 1) (f2 : (-1) * x10 + (2 * x5 + 0) ≤ 0) (f3 : 1 * x8 + ((-2) * x5 + 0) ≤ 1) (f4 : (-1) * x8 + (2 * x5 + 0) ≤ 0) (h12 : x17 = line_1 (x9)) (h16 : x15 = line_1 (x9)) (h17 : x13 = roundOf_1 (x12)) (f18 : bvp (x12) = bvp (x10) ^^^ bvp (x11)) (h22 : x9 = roundOf_1 (x8)) (g26 : x6 = pm_1) (f27 : BRB (pn_1) (pm_1) (rounds_1) (pt_1) (ph_1) (alive_1) (rotMany_1) (rot_1) (roundOf_1) (roundBegin_1) (roundDart_1)) (f29 : LNE (rounds_1) (line_1) (x4) (x5)) (fe_0_31_1 : pn_0 = pn_1) (fe_0_32_1 : pm_0 = pm_1) (fe_0_53_1 : rounds_0 = rounds_1) (hE_0_20_1 : ∀ j : Int, 0 ≤ j → (j = x13 → line_0 j = x19) ∧ (j ≠ x13 → line_0 j = line_1 j)) (hE_0_33_1 : ∀ j : Int, pt_0 j = pt_1 j) (hE_0_34_1 : ∀ j : Int, ph_0 j = ph_1 j) (hE_0_35_1 : ∀ j : Int, alive_0 j = alive_1 j) (hE_0_36_1 : ∀ j : Int, rotMany_0 j = rotMany_1 j) (hE_0_37_1 : ∀ j : Int, rot_0 j = rot_1 j) (hE_0_54_1 : ∀ j : Int, roundOf_0 j = roundOf_1 j) (hE_0_56_1 : ∀ j : Int, roundBegin_0 j = roundBegin_1 j) (hE_0_57_1 : ∀ j : Int, roundDart_0 j = roundDart_1 j) (hE_0_75_1 : ∀ j : Int, ny_0 j = ny_1 j) (kz_0_31 : 0 ≤ pn_0 ∧ pn_0 ≤ 25) (kz_0_32 : 0 ≤ pm_0 ∧ pm_0 ≤ 80) (kz_0_53 : 0 ≤ rounds_0 ∧ rounds_0 ≤ 160) : LNE (rounds_0) (line_0) (x4) (x20) := by
  subst fe_0_31_1
  subst fe_0_32_1
  subst fe_0_53_1
  have e_hE_0_33_1 := funext hE_0_33_1; subst e_hE_0_33_1
  have e_hE_0_34_1 := funext hE_0_34_1; subst e_hE_0_34_1
  have e_hE_0_35_1 := funext hE_0_35_1; subst e_hE_0_35_1
  have e_hE_0_36_1 := funext hE_0_36_1; subst e_hE_0_36_1
  have e_hE_0_37_1 := funext hE_0_37_1; subst e_hE_0_37_1
  have e_hE_0_54_1 := funext hE_0_54_1; subst e_hE_0_54_1
  have e_hE_0_56_1 := funext hE_0_56_1; subst e_hE_0_56_1
  have e_hE_0_57_1 := funext hE_0_57_1; subst e_hE_0_57_1
  have e_hE_0_75_1 := funext hE_0_75_1; subst e_hE_0_75_1
  first
    | exact lnb_le ‹LNR _ _ _› (by omega)
    | exact lnb_le ‹LNE _ _ _ _› (by omega)
    | (have hR := brb_R ‹BRB _ _ _ _ _ _ _ _ _ _ _›
       have r1 := brb_ro (d := x8) ‹BRB _ _ _ _ _ _ _ _ _ _ _› (by omega) (by omega)
       have hx : bvp x12 = bvp x10 ^^^ bvp 1 := by rw [← (by omega : x11 = 1)]; assumption
       have e1 := xor_1 hx (by omega) (by omega) (by omega) (by omega)
       have r2 := brb_ro (d := x12) ‹BRB _ _ _ _ _ _ _ _ _ _ _› (by omega) (by omega)
       have b1 := ‹LNE _ _ _ _› x9 (by omega) (by omega)
       have b2 := ‹LNE _ _ _ _› x13 (by omega) (by omega)
       exact lnb_step ‹LNE _ _ _ _› (by omega) (by assumption) (by omega) (by omega))
def o_Mo_bars_30 : or_T := (234, 21, [(0, (2, 0, 0, [165])), (2, (0, 3, 24, [])), (4, (0, 0, 159, [])), (5, (0, 1, 79, [])), (6, (0, 2, 80, [])), (7, (2, 0, 0, [196])), (8, (0, 1, 159, [])), (9, (0, 0, 99, [])), (10, (0, 1, 159, [])), (11, (0, 1, 1, [])), (12, (0, 0, 159, [])), (13, (0, 0, 99, [])), (14, (2, 0, 0, [175])), (15, (0, 0, 1000000, [])), (16, (0, -1000000, 1000000, [])), (17, (0, -1000000, 1000000, [])), (18, (0, 1, 1, [])), (19, (0, -999999, 1000000, [])), (20, (0, 2, 80, []))], [(6, [20, 5], [1]), (23, [10, 5], [1, 1, -2]), (23, [10, 5], [0, -1, 2]), (23, [8, 5], [1, 1, -2]), (23, [8, 5], [0, -1, 2]), (20, [0], [60, 3, 8, 316, 31, 32, 53, 33, 34, 35, 36, 37, 54, 56, 57]), (20, [2, 0], [50, 1, 0, 1031, 1, 2, 1, 0, 2, 1, 31]), (20, [0], [60, 1, 1, 786, 31, 75]), (100, [14, 13, 19], []), (7, [16, 19], [5]), (7, [19, 19], [5]), (1, [19, 17, 18], []), (10, [17, 14, 9], []), (9, [14, 0], [20]), (10, [16, 14, 13], []), (8, [15], [3]), (10, [15, 14, 9], []), (10, [13, 7, 12], []), (16, [12, 10, 11], [2]), (23, [10, 5], [1, 1, -2]), (23, [10, 5], [0, -1, 2]), (9, [7, 0], [54]), (10, [9, 7, 8], []), (23, [8, 5], [1, 1, -2]), (23, [8, 5], [0, -1, 2]), (7, [5, 6], [2]), (9, [6, 0], [32]), (20, [0], [60, 3, 8, 316, 31, 32, 53, 33, 34, 35, 36, 37, 54, 56, 57]), (20, [2, 0], [50, 1, 0, 1031, 1, 2, 1, 0, 2, 1, 31]), (20, [0, 4, 5], [60, 1, 1, 321, 53, 20]), (20, [0], [60, 1, 1, 786, 31, 75])], [], [], [(20, [0, 4, 20], [60, 1, 1, 321, 53, 20])], [], [(20, 5, 1, 1), (20, 6, -4294967296, 0), (16, 19, -4294967296, 0), (19, 17, 1, 1), (5, 6, -4294967296, -1)])
theorem oo_Mo_bars_30 {kA : Nat → ClassId} : or_ok PRD kA GG o_Mo_bars_30 := by
  refine or_mk fun A ta ws vs hD hth hl => ?_
  intro t0 r0 t2 k2 t4 k4 t5 k5 t6 k6 t7 r7 t8 k8 t9 k9 t10 k10 t11 k11 t12 k12 t13 k13 t14 r14 t15 k15 t16 k16 t17 k17 t18 k18 t19 k19 t20 k20 d0 d1 d2 d3 d4 f0 f1 f2 f3 f4 f5 f6 f7 ta1 w1 le1 s1 f9 f10 f11 f12 f13 f14 f15 f16 f17 f18 f19 f20 f21 f22 f23 f24 f25 f26 f27 f28 f29 f30
  have s1 : (∀ b j, w_el ws b j = if b = v_ad (n_v vs 14) ∧ j = (v_iv (n_v vs 13)).toNat then v_iv (n_v vs 19) else w_el w1 b j) ∧ ∀ b k, w_fd ws b k = w_fd w1 b k := s1.2
  replace f12 := shm_107 f12
  replace f13 := shm_740 f13
  replace f16 := shm_107 f16
  replace f17 := shm_107 f17
  replace f21 := shm_1122 f21
  replace f22 := shm_107 f22
  replace f26 := shm_525 f26
  replace f27 := shm_1123 f27
  replace f29 := shm_2289 f29
  have ar_0_20_1 : w_ar w1 (n_v vs 0) 20 = w_ar ws (n_v vs 0) 20 := congrArg v_ad (s1.2 _ _).symm
  have ar_0_33_1 : w_ar w1 (n_v vs 0) 33 = w_ar ws (n_v vs 0) 33 := congrArg v_ad (s1.2 _ _).symm
  have cr_0_33 := fdq_117 hD hth r0
  have ar_0_34_1 : w_ar w1 (n_v vs 0) 34 = w_ar ws (n_v vs 0) 34 := congrArg v_ad (s1.2 _ _).symm
  have cr_0_34 := fdq_118 hD hth r0
  have ar_0_35_1 : w_ar w1 (n_v vs 0) 35 = w_ar ws (n_v vs 0) 35 := congrArg v_ad (s1.2 _ _).symm
  have cr_0_35 := fdq_132 hD hth r0
  have ar_0_36_1 : w_ar w1 (n_v vs 0) 36 = w_ar ws (n_v vs 0) 36 := congrArg v_ad (s1.2 _ _).symm
  have cr_0_36 := fdq_167 hD hth r0
  have ar_0_37_1 : w_ar w1 (n_v vs 0) 37 = w_ar ws (n_v vs 0) 37 := congrArg v_ad (s1.2 _ _).symm
  have cr_0_37 := fdq_168 hD hth r0
  have ar_0_54_1 : w_ar w1 (n_v vs 0) 54 = w_ar ws (n_v vs 0) 54 := congrArg v_ad (s1.2 _ _).symm
  have cr_0_54 := fdq_272 hD hth r0
  have ar_0_56_1 : w_ar w1 (n_v vs 0) 56 = w_ar ws (n_v vs 0) 56 := congrArg v_ad (s1.2 _ _).symm
  have cr_0_56 := fdq_273 hD hth r0
  have ar_0_57_1 : w_ar w1 (n_v vs 0) 57 = w_ar ws (n_v vs 0) 57 := congrArg v_ad (s1.2 _ _).symm
  have cr_0_57 := fdq_274 hD hth r0
  have ar_0_75_1 : w_ar w1 (n_v vs 0) 75 = w_ar ws (n_v vs 0) 75 := congrArg v_ad (s1.2 _ _).symm
  have cr_0_75 := fdq_165 hD hth r0
  have ad_14 : v_ad (n_v vs 14) = w_ar ws (n_v vs 0) 20 := (congrArg v_ad f13).trans ar_0_20_1
  have ad_7 : v_ad (n_v vs 7) = w_ar ws (n_v vs 0) 54 := (congrArg v_ad f21).trans ar_0_54_1
  simp only [ad_14] at f12
  have h12 : v_iv (n_v vs 17) = w_ei w1 (w_ar ws (n_v vs 0) 20) (v_iv (n_v vs 9)) := f12
  simp only [ad_14] at f16
  have h16 : v_iv (n_v vs 15) = w_ei w1 (w_ar ws (n_v vs 0) 20) (v_iv (n_v vs 9)) := f16
  simp only [ad_7] at f17
  have h17 : v_iv (n_v vs 13) = w_ei w1 (w_ar ws (n_v vs 0) 54) (v_iv (n_v vs 12)) := f17
  simp only [ad_7] at f22
  have h22 : v_iv (n_v vs 9) = w_ei w1 (w_ar ws (n_v vs 0) 54) (v_iv (n_v vs 8)) := f22
  have g26 : v_iv (n_v vs 6) = w_fi w1 (n_v vs 0) 32 := congrArg v_iv f26
  simp only [ar_0_33_1, ar_0_34_1, ar_0_35_1, ar_0_36_1, ar_0_37_1, ar_0_54_1, ar_0_56_1, ar_0_57_1, ar_0_20_1, ar_0_75_1] at f27 f29
  have fe_0_31_1 : w_fi ws (n_v vs 0) 31 = w_fi w1 (n_v vs 0) 31 := congrArg v_iv (s1.2 _ _)
  have fe_0_32_1 : w_fi ws (n_v vs 0) 32 = w_fi w1 (n_v vs 0) 32 := congrArg v_iv (s1.2 _ _)
  have fe_0_53_1 : w_fi ws (n_v vs 0) 53 = w_fi w1 (n_v vs 0) 53 := congrArg v_iv (s1.2 _ _)
  have hE_0_20_1 : ∀ j : Int, 0 ≤ j → (j = v_iv (n_v vs 13) → w_ei ws (w_ar ws (n_v vs 0) 20) j = v_iv (n_v vs 19)) ∧ (j ≠ v_iv (n_v vs 13) → w_ei ws (w_ar ws (n_v vs 0) 20) j = w_ei w1 (w_ar ws (n_v vs 0) 20) j) := fun j hj => ⟨fun h => by unfold w_ei; rw [s1.1, if_pos ⟨ad_14.symm, by rw [h]⟩], fun h => by unfold w_ei; rw [s1.1, if_neg (fun e => h (by have := e.2; omega))]⟩
  have hE_0_33_1 : ∀ j : Int, w_ei ws (w_ar ws (n_v vs 0) 33) j = w_ei w1 (w_ar ws (n_v vs 0) 33) j := el_kp s1.1 r14 cr_0_33 (by decide)
  have hE_0_34_1 : ∀ j : Int, w_ei ws (w_ar ws (n_v vs 0) 34) j = w_ei w1 (w_ar ws (n_v vs 0) 34) j := el_kp s1.1 r14 cr_0_34 (by decide)
  have hE_0_35_1 : ∀ j : Int, w_ei ws (w_ar ws (n_v vs 0) 35) j = w_ei w1 (w_ar ws (n_v vs 0) 35) j := el_kp s1.1 r14 cr_0_35 (by decide)
  have hE_0_36_1 : ∀ j : Int, w_ei ws (w_ar ws (n_v vs 0) 36) j = w_ei w1 (w_ar ws (n_v vs 0) 36) j := el_kp s1.1 r14 cr_0_36 (by decide)
  have hE_0_37_1 : ∀ j : Int, w_ei ws (w_ar ws (n_v vs 0) 37) j = w_ei w1 (w_ar ws (n_v vs 0) 37) j := el_kp s1.1 r14 cr_0_37 (by decide)
  have hE_0_54_1 : ∀ j : Int, w_ei ws (w_ar ws (n_v vs 0) 54) j = w_ei w1 (w_ar ws (n_v vs 0) 54) j := el_kp s1.1 r14 cr_0_54 (by decide)
  have hE_0_56_1 : ∀ j : Int, w_ei ws (w_ar ws (n_v vs 0) 56) j = w_ei w1 (w_ar ws (n_v vs 0) 56) j := el_kp s1.1 r14 cr_0_56 (by decide)
  have hE_0_57_1 : ∀ j : Int, w_ei ws (w_ar ws (n_v vs 0) 57) j = w_ei w1 (w_ar ws (n_v vs 0) 57) j := el_kp s1.1 r14 cr_0_57 (by decide)
  have hE_0_75_1 : ∀ j : Int, w_ei ws (w_ar ws (n_v vs 0) 75) j = w_ei w1 (w_ar ws (n_v vs 0) 75) j := el_kp s1.1 r14 cr_0_75 (by decide)
  have kz_0_31 := fdq_145 hD hth r0
  have kz_0_32 := fdq_140 hD hth r0
  have kz_0_53 := fdq_275 hD hth r0
  have nf0 : fc_1 PRD (20, [0, 4, 20], [60, 1, 1, 321, 53, 20]) ws (vs) := ⟨nf_in hl rfl, sgq_2289 (vc_Mo_bars_30_0 (v_iv (n_v vs 4)) (v_iv (n_v vs 5)) (v_iv (n_v vs 6)) (v_iv (n_v vs 8)) (v_iv (n_v vs 9)) (v_iv (n_v vs 10)) (v_iv (n_v vs 11)) (v_iv (n_v vs 12)) (v_iv (n_v vs 13)) (v_iv (n_v vs 15)) (v_iv (n_v vs 17)) (v_iv (n_v vs 19)) (v_iv (n_v vs 20)) (w_ei ws (w_ar ws (n_v vs 0) 33)) (w_ei ws (w_ar ws (n_v vs 0) 34)) (w_ei ws (w_ar ws (n_v vs 0) 35)) (w_ei ws (w_ar ws (n_v vs 0) 36)) (w_ei ws (w_ar ws (n_v vs 0) 37)) (w_ei ws (w_ar ws (n_v vs 0) 54)) (w_ei ws (w_ar ws (n_v vs 0) 56)) (w_ei ws (w_ar ws (n_v vs 0) 57)) (w_fi ws (n_v vs 0) 31) (w_fi ws (n_v vs 0) 32) (w_fi ws (n_v vs 0) 53) (w_ei ws (w_ar ws (n_v vs 0) 75)) (w_ei w1 (w_ar ws (n_v vs 0) 20)) (w_ei w1 (w_ar ws (n_v vs 0) 54)) (w_fi w1 (n_v vs 0) 32) (w_ei w1 (w_ar ws (n_v vs 0) 33)) (w_ei w1 (w_ar ws (n_v vs 0) 34)) (w_ei w1 (w_ar ws (n_v vs 0) 35)) (w_ei w1 (w_ar ws (n_v vs 0) 36)) (w_ei w1 (w_ar ws (n_v vs 0) 37)) (w_ei w1 (w_ar ws (n_v vs 0) 56)) (w_ei w1 (w_ar ws (n_v vs 0) 57)) (w_fi w1 (n_v vs 0) 31) (w_fi w1 (n_v vs 0) 53) (w_ei w1 (w_ar ws (n_v vs 0) 75)) (w_ei ws (w_ar ws (n_v vs 0) 20)) k4 k5 k6 k8 k9 k10 k11 k12 k13 k15 k17 k19 k20 d0 d1 d3 d4 (shm_143 f1) (shm_144 f2) (shm_143 f3) (shm_144 f4) h12 h16 h17 (shm_33 f18) h22 g26 f27 f29 fe_0_31_1 fe_0_32_1 fe_0_53_1 hE_0_20_1 hE_0_33_1 hE_0_34_1 hE_0_35_1 hE_0_36_1 hE_0_37_1 hE_0_54_1 hE_0_56_1 hE_0_57_1 hE_0_75_1 kz_0_31 kz_0_32 kz_0_53)⟩
  refine ⟨(fun _ h => (by cases h)), [], trivial, ?_, (fun _ h => (by cases h))⟩
  rw [List.append_nil]
  exact List.forall_mem_cons.mpr ⟨⟨show (20 : Nat) < 100 from by decide, nf0⟩, (fun _ h => (by cases h))⟩
set_option maxHeartbeats 4000000 in
theorem vc_Mo_bars_31_0 (x4 : Int) (x5 : Int) (x6 : Int) (x8 : Int) (x9 : Int) (x10 : Int) (x11 : Int) (x12 : Int) (x13 : Int) (x16 : Int) (x20 : Int) (pt_0 : Int → Int) (ph_0 : Int → Int) (alive_0 : Int → Int) (rotMany_0 : Int → Int) (rot_0 : Int → Int) (roundOf_0 : Int → Int) (roundBegin_0 : Int → Int) (roundDart_0 : Int → Int) (pn_0 : Int) (pm_0 : Int) (rounds_0 : Int) (ny_0 : Int → Int) (line_1 : Int → Int) (roundOf_1 : Int → Int) (pm_1 : Int) (pt_1 : Int → Int) (ph_1 : Int → Int) (alive_1 : Int → Int) (rotMany_1 : Int → Int) (rot_1 : Int → Int) (roundBegin_1 : Int → Int) (roundDart_1 : Int → Int) (pn_1 : Int) (rounds_1 : Int) (ny_1 : Int → Int) (line_0 : Int → Int) (k4 : 0 ≤ x4 ∧ x4 ≤ 159) (k5 : 1 ≤ x5 ∧ x5 ≤ 79) (k6 : 2 ≤ x6 ∧ x6 ≤ 80) (k8 : 1 ≤ x8 ∧ x8 ≤ 159) (k9 : 0 ≤ x9 ∧ x9 ≤ 99) (k10 : 1 ≤ x10 ∧ x10 ≤ 159) (k11 : 1 ≤ x11 ∧ x11 ≤ 1) (k12 : 0 ≤ x12 ∧ x12 ≤ 159) (k13 : 0 ≤ x13 ∧ x13 ≤ 99) (k16 : (-999998) ≤ x16 ∧ x16 ≤ 1000000) (k20 : 2 ≤ x20 ∧ x20 ≤ 80) (d0 : x5 + 1 ≤ x20 ∧ x20 ≤ x5 + 1) (d1 : x6 + (-4294967296) ≤ x20 ∧ x20 ≤ x6 + 0) (d4 : x6 + (-4294967296) ≤ x5 ∧ x5 ≤ x6 + (-1)) (f1 : 1 * x10 + ((-2) * x5 + 0) ≤ 1) (f2 : (-1) * x10 + (2 * x5 + 0) ≤ 0) (f3 : 1 * x8 + ((-2) * x5 + 0) ≤ 1) (f4 : (-1) * x8 + (2 * x5 + 0) ≤ 0) (h14 : x16 = line_1 (x13)) (h17 : x13 = roundOf_1 (x12)) (f18 : bvp (x12) = bvp (x10) ^^^ bvp (x11)) (h22 : x9 = roundOf_1 (x8)) (g26 : x6 = pm_1) (f27 : BRB (pn_1) (pm_1) (rounds_1) (pt_1) (ph_1) (alive_1) (rotMany_1) (rot_1) (roundOf_1) (roundBegin_1) (roundDart_1)) (f29 : LNE (rounds_1) (line_1) (x4) (x5)) (fe_0_31_1 : pn_0 = pn_1) (fe_0_32_1 : pm_0 = pm_1) (fe_0_53_1 : rounds_0 = rounds_1) (hE_0_20_1 : ∀ j : Int, 0 ≤ j → (j = x13 → line_0 j = x16) ∧ (j ≠ x13 → line_0 j = line_1 j)) (hE_0_33_1 : ∀ j : Int, pt_0 j = pt_1 j) (hE_0_34_1 : ∀ j : Int, ph_0 j = ph_1 j) (hE_0_35_1 : ∀ j : Int, alive_0 j = alive_1 j) (hE_0_36_1 : ∀ j : Int, rotMany_0 j = rotMany_1 j) (hE_0_37_1 : ∀ j : Int, rot_0 j = rot_1 j) (hE_0_54_1 : ∀ j : Int, roundOf_0 j = roundOf_1 j) (hE_0_56_1 : ∀ j : Int, roundBegin_0 j = roundBegin_1 j) (hE_0_57_1 : ∀ j : Int, roundDart_0 j = roundDart_1 j) (hE_0_75_1 : ∀ j : Int, ny_0 j = ny_1 j) (kz_0_31 : 0 ≤ pn_0 ∧ pn_0 ≤ 25) (kz_0_32 : 0 ≤ pm_0 ∧ pm_0 ≤ 80) (kz_0_53 : 0 ≤ rounds_0 ∧ rounds_0 ≤ 160) : LNE (rounds_0) (line_0) (x4) (x20) := by
  subst fe_0_31_1
  subst fe_0_32_1
  subst fe_0_53_1
  have e_hE_0_33_1 := funext hE_0_33_1; subst e_hE_0_33_1
  have e_hE_0_34_1 := funext hE_0_34_1; subst e_hE_0_34_1
  have e_hE_0_35_1 := funext hE_0_35_1; subst e_hE_0_35_1
  have e_hE_0_36_1 := funext hE_0_36_1; subst e_hE_0_36_1
  have e_hE_0_37_1 := funext hE_0_37_1; subst e_hE_0_37_1
  have e_hE_0_54_1 := funext hE_0_54_1; subst e_hE_0_54_1
  have e_hE_0_56_1 := funext hE_0_56_1; subst e_hE_0_56_1
  have e_hE_0_57_1 := funext hE_0_57_1; subst e_hE_0_57_1
  have e_hE_0_75_1 := funext hE_0_75_1; subst e_hE_0_75_1
  first
    | exact lnb_le ‹LNR _ _ _› (by omega)
    | exact lnb_le ‹LNE _ _ _ _› (by omega)
    | (have hR := brb_R ‹BRB _ _ _ _ _ _ _ _ _ _ _›
       have r1 := brb_ro (d := x8) ‹BRB _ _ _ _ _ _ _ _ _ _ _› (by omega) (by omega)
       have hx : bvp x12 = bvp x10 ^^^ bvp 1 := by rw [← (by omega : x11 = 1)]; assumption
       have e1 := xor_1 hx (by omega) (by omega) (by omega) (by omega)
       have r2 := brb_ro (d := x12) ‹BRB _ _ _ _ _ _ _ _ _ _ _› (by omega) (by omega)
       have b1 := ‹LNE _ _ _ _› x9 (by omega) (by omega)
       have b2 := ‹LNE _ _ _ _› x13 (by omega) (by omega)
       exact lnb_step ‹LNE _ _ _ _› (by omega) (by assumption) (by omega) (by omega))
def o_Mo_bars_31 : or_T := (234, 21, [(0, (2, 0, 0, [165])), (2, (0, 3, 24, [])), (4, (0, 0, 159, [])), (5, (0, 1, 79, [])), (6, (0, 2, 80, [])), (7, (2, 0, 0, [196])), (8, (0, 1, 159, [])), (9, (0, 0, 99, [])), (10, (0, 1, 159, [])), (11, (0, 1, 1, [])), (12, (0, 0, 159, [])), (13, (0, 0, 99, [])), (14, (2, 0, 0, [175])), (15, (0, 0, 1000000, [])), (16, (0, -999998, 1000000, [])), (17, (0, -1000000, 1000000, [])), (18, (0, 1, 1, [])), (19, (0, -999999, 999999, [])), (20, (0, 2, 80, []))], [(6, [20, 5], [1]), (23, [10, 5], [1, 1, -2]), (23, [10, 5], [0, -1, 2]), (23, [8, 5], [1, 1, -2]), (23, [8, 5], [0, -1, 2]), (20, [0], [60, 3, 8, 316, 31, 32, 53, 33, 34, 35, 36, 37, 54, 56, 57]), (20, [2, 0], [50, 1, 0, 1031, 1, 2, 1, 0, 2, 1, 31]), (20, [0], [60, 1, 1, 786, 31, 75]), (100, [14, 13, 16], []), (7, [16, 16], [5]), (7, [19, 16], [5]), (1, [19, 17, 18], []), (10, [17, 14, 9], []), (9, [14, 0], [20]), (10, [16, 14, 13], []), (8, [15], [3]), (10, [15, 14, 9], []), (10, [13, 7, 12], []), (16, [12, 10, 11], [2]), (23, [10, 5], [1, 1, -2]), (23, [10, 5], [0, -1, 2]), (9, [7, 0], [54]), (10, [9, 7, 8], []), (23, [8, 5], [1, 1, -2]), (23, [8, 5], [0, -1, 2]), (7, [5, 6], [2]), (9, [6, 0], [32]), (20, [0], [60, 3, 8, 316, 31, 32, 53, 33, 34, 35, 36, 37, 54, 56, 57]), (20, [2, 0], [50, 1, 0, 1031, 1, 2, 1, 0, 2, 1, 31]), (20, [0, 4, 5], [60, 1, 1, 321, 53, 20]), (20, [0], [60, 1, 1, 786, 31, 75])], [], [], [(20, [0, 4, 20], [60, 1, 1, 321, 53, 20])], [], [(20, 5, 1, 1), (20, 6, -4294967296, 0), (16, 19, 1, 4294967296), (19, 17, 1, 1), (5, 6, -4294967296, -1)])
theorem oo_Mo_bars_31 {kA : Nat → ClassId} : or_ok PRD kA GG o_Mo_bars_31 := by
  refine or_mk fun A ta ws vs hD hth hl => ?_
  intro t0 r0 t2 k2 t4 k4 t5 k5 t6 k6 t7 r7 t8 k8 t9 k9 t10 k10 t11 k11 t12 k12 t13 k13 t14 r14 t15 k15 t16 k16 t17 k17 t18 k18 t19 k19 t20 k20 d0 d1 d2 d3 d4 f0 f1 f2 f3 f4 f5 f6 f7 ta1 w1 le1 s1 f9 f10 f11 f12 f13 f14 f15 f16 f17 f18 f19 f20 f21 f22 f23 f24 f25 f26 f27 f28 f29 f30
  have s1 : (∀ b j, w_el ws b j = if b = v_ad (n_v vs 14) ∧ j = (v_iv (n_v vs 13)).toNat then v_iv (n_v vs 16) else w_el w1 b j) ∧ ∀ b k, w_fd ws b k = w_fd w1 b k := s1.2
  replace f13 := shm_740 f13
  replace f14 := shm_107 f14
  replace f17 := shm_107 f17
  replace f21 := shm_1122 f21
  replace f22 := shm_107 f22
  replace f26 := shm_525 f26
  replace f27 := shm_1123 f27
  replace f29 := shm_2289 f29
  have ar_0_20_1 : w_ar w1 (n_v vs 0) 20 = w_ar ws (n_v vs 0) 20 := congrArg v_ad (s1.2 _ _).symm
  have ar_0_33_1 : w_ar w1 (n_v vs 0) 33 = w_ar ws (n_v vs 0) 33 := congrArg v_ad (s1.2 _ _).symm
  have cr_0_33 := fdq_117 hD hth r0
  have ar_0_34_1 : w_ar w1 (n_v vs 0) 34 = w_ar ws (n_v vs 0) 34 := congrArg v_ad (s1.2 _ _).symm
  have cr_0_34 := fdq_118 hD hth r0
  have ar_0_35_1 : w_ar w1 (n_v vs 0) 35 = w_ar ws (n_v vs 0) 35 := congrArg v_ad (s1.2 _ _).symm
  have cr_0_35 := fdq_132 hD hth r0
  have ar_0_36_1 : w_ar w1 (n_v vs 0) 36 = w_ar ws (n_v vs 0) 36 := congrArg v_ad (s1.2 _ _).symm
  have cr_0_36 := fdq_167 hD hth r0
  have ar_0_37_1 : w_ar w1 (n_v vs 0) 37 = w_ar ws (n_v vs 0) 37 := congrArg v_ad (s1.2 _ _).symm
  have cr_0_37 := fdq_168 hD hth r0
  have ar_0_54_1 : w_ar w1 (n_v vs 0) 54 = w_ar ws (n_v vs 0) 54 := congrArg v_ad (s1.2 _ _).symm
  have cr_0_54 := fdq_272 hD hth r0
  have ar_0_56_1 : w_ar w1 (n_v vs 0) 56 = w_ar ws (n_v vs 0) 56 := congrArg v_ad (s1.2 _ _).symm
  have cr_0_56 := fdq_273 hD hth r0
  have ar_0_57_1 : w_ar w1 (n_v vs 0) 57 = w_ar ws (n_v vs 0) 57 := congrArg v_ad (s1.2 _ _).symm
  have cr_0_57 := fdq_274 hD hth r0
  have ar_0_75_1 : w_ar w1 (n_v vs 0) 75 = w_ar ws (n_v vs 0) 75 := congrArg v_ad (s1.2 _ _).symm
  have cr_0_75 := fdq_165 hD hth r0
  have ad_14 : v_ad (n_v vs 14) = w_ar ws (n_v vs 0) 20 := (congrArg v_ad f13).trans ar_0_20_1
  have ad_7 : v_ad (n_v vs 7) = w_ar ws (n_v vs 0) 54 := (congrArg v_ad f21).trans ar_0_54_1
  simp only [ad_14] at f14
  have h14 : v_iv (n_v vs 16) = w_ei w1 (w_ar ws (n_v vs 0) 20) (v_iv (n_v vs 13)) := f14
  simp only [ad_7] at f17
  have h17 : v_iv (n_v vs 13) = w_ei w1 (w_ar ws (n_v vs 0) 54) (v_iv (n_v vs 12)) := f17
  simp only [ad_7] at f22
  have h22 : v_iv (n_v vs 9) = w_ei w1 (w_ar ws (n_v vs 0) 54) (v_iv (n_v vs 8)) := f22
  have g26 : v_iv (n_v vs 6) = w_fi w1 (n_v vs 0) 32 := congrArg v_iv f26
  simp only [ar_0_33_1, ar_0_34_1, ar_0_35_1, ar_0_36_1, ar_0_37_1, ar_0_54_1, ar_0_56_1, ar_0_57_1, ar_0_20_1, ar_0_75_1] at f27 f29
  have fe_0_31_1 : w_fi ws (n_v vs 0) 31 = w_fi w1 (n_v vs 0) 31 := congrArg v_iv (s1.2 _ _)
  have fe_0_32_1 : w_fi ws (n_v vs 0) 32 = w_fi w1 (n_v vs 0) 32 := congrArg v_iv (s1.2 _ _)
  have fe_0_53_1 : w_fi ws (n_v vs 0) 53 = w_fi w1 (n_v vs 0) 53 := congrArg v_iv (s1.2 _ _)
  have hE_0_20_1 : ∀ j : Int, 0 ≤ j → (j = v_iv (n_v vs 13) → w_ei ws (w_ar ws (n_v vs 0) 20) j = v_iv (n_v vs 16)) ∧ (j ≠ v_iv (n_v vs 13) → w_ei ws (w_ar ws (n_v vs 0) 20) j = w_ei w1 (w_ar ws (n_v vs 0) 20) j) := fun j hj => ⟨fun h => by unfold w_ei; rw [s1.1, if_pos ⟨ad_14.symm, by rw [h]⟩], fun h => by unfold w_ei; rw [s1.1, if_neg (fun e => h (by have := e.2; omega))]⟩
  have hE_0_33_1 : ∀ j : Int, w_ei ws (w_ar ws (n_v vs 0) 33) j = w_ei w1 (w_ar ws (n_v vs 0) 33) j := el_kp s1.1 r14 cr_0_33 (by decide)
  have hE_0_34_1 : ∀ j : Int, w_ei ws (w_ar ws (n_v vs 0) 34) j = w_ei w1 (w_ar ws (n_v vs 0) 34) j := el_kp s1.1 r14 cr_0_34 (by decide)
  have hE_0_35_1 : ∀ j : Int, w_ei ws (w_ar ws (n_v vs 0) 35) j = w_ei w1 (w_ar ws (n_v vs 0) 35) j := el_kp s1.1 r14 cr_0_35 (by decide)
  have hE_0_36_1 : ∀ j : Int, w_ei ws (w_ar ws (n_v vs 0) 36) j = w_ei w1 (w_ar ws (n_v vs 0) 36) j := el_kp s1.1 r14 cr_0_36 (by decide)
  have hE_0_37_1 : ∀ j : Int, w_ei ws (w_ar ws (n_v vs 0) 37) j = w_ei w1 (w_ar ws (n_v vs 0) 37) j := el_kp s1.1 r14 cr_0_37 (by decide)
  have hE_0_54_1 : ∀ j : Int, w_ei ws (w_ar ws (n_v vs 0) 54) j = w_ei w1 (w_ar ws (n_v vs 0) 54) j := el_kp s1.1 r14 cr_0_54 (by decide)
  have hE_0_56_1 : ∀ j : Int, w_ei ws (w_ar ws (n_v vs 0) 56) j = w_ei w1 (w_ar ws (n_v vs 0) 56) j := el_kp s1.1 r14 cr_0_56 (by decide)
  have hE_0_57_1 : ∀ j : Int, w_ei ws (w_ar ws (n_v vs 0) 57) j = w_ei w1 (w_ar ws (n_v vs 0) 57) j := el_kp s1.1 r14 cr_0_57 (by decide)
  have hE_0_75_1 : ∀ j : Int, w_ei ws (w_ar ws (n_v vs 0) 75) j = w_ei w1 (w_ar ws (n_v vs 0) 75) j := el_kp s1.1 r14 cr_0_75 (by decide)
  have kz_0_31 := fdq_145 hD hth r0
  have kz_0_32 := fdq_140 hD hth r0
  have kz_0_53 := fdq_275 hD hth r0
  have nf0 : fc_1 PRD (20, [0, 4, 20], [60, 1, 1, 321, 53, 20]) ws (vs) := ⟨nf_in hl rfl, sgq_2289 (vc_Mo_bars_31_0 (v_iv (n_v vs 4)) (v_iv (n_v vs 5)) (v_iv (n_v vs 6)) (v_iv (n_v vs 8)) (v_iv (n_v vs 9)) (v_iv (n_v vs 10)) (v_iv (n_v vs 11)) (v_iv (n_v vs 12)) (v_iv (n_v vs 13)) (v_iv (n_v vs 16)) (v_iv (n_v vs 20)) (w_ei ws (w_ar ws (n_v vs 0) 33)) (w_ei ws (w_ar ws (n_v vs 0) 34)) (w_ei ws (w_ar ws (n_v vs 0) 35)) (w_ei ws (w_ar ws (n_v vs 0) 36)) (w_ei ws (w_ar ws (n_v vs 0) 37)) (w_ei ws (w_ar ws (n_v vs 0) 54)) (w_ei ws (w_ar ws (n_v vs 0) 56)) (w_ei ws (w_ar ws (n_v vs 0) 57)) (w_fi ws (n_v vs 0) 31) (w_fi ws (n_v vs 0) 32) (w_fi ws (n_v vs 0) 53) (w_ei ws (w_ar ws (n_v vs 0) 75)) (w_ei w1 (w_ar ws (n_v vs 0) 20)) (w_ei w1 (w_ar ws (n_v vs 0) 54)) (w_fi w1 (n_v vs 0) 32) (w_ei w1 (w_ar ws (n_v vs 0) 33)) (w_ei w1 (w_ar ws (n_v vs 0) 34)) (w_ei w1 (w_ar ws (n_v vs 0) 35)) (w_ei w1 (w_ar ws (n_v vs 0) 36)) (w_ei w1 (w_ar ws (n_v vs 0) 37)) (w_ei w1 (w_ar ws (n_v vs 0) 56)) (w_ei w1 (w_ar ws (n_v vs 0) 57)) (w_fi w1 (n_v vs 0) 31) (w_fi w1 (n_v vs 0) 53) (w_ei w1 (w_ar ws (n_v vs 0) 75)) (w_ei ws (w_ar ws (n_v vs 0) 20)) k4 k5 k6 k8 k9 k10 k11 k12 k13 k16 k20 d0 d1 d4 (shm_143 f1) (shm_144 f2) (shm_143 f3) (shm_144 f4) h14 h17 (shm_33 f18) h22 g26 f27 f29 fe_0_31_1 fe_0_32_1 fe_0_53_1 hE_0_20_1 hE_0_33_1 hE_0_34_1 hE_0_35_1 hE_0_36_1 hE_0_37_1 hE_0_54_1 hE_0_56_1 hE_0_57_1 hE_0_75_1 kz_0_31 kz_0_32 kz_0_53)⟩
  refine ⟨(fun _ h => (by cases h)), [], trivial, ?_, (fun _ h => (by cases h))⟩
  rw [List.append_nil]
  exact List.forall_mem_cons.mpr ⟨⟨show (20 : Nat) < 100 from by decide, nf0⟩, (fun _ h => (by cases h))⟩
set_option maxHeartbeats 4000000 in
theorem vc_Mo_bars_32_r0 (x6 : Int) (x8 : Int) (x9 : Int) (x10 : Int) (x11 : Int) (x12 : Int) (roundOf_0 : Int → Int) (pm_0 : Int) (pt_0 : Int → Int) (ph_0 : Int → Int) (alive_0 : Int → Int) (rotMany_0 : Int → Int) (rot_0 : Int → Int) (roundBegin_0 : Int → Int) (roundDart_0 : Int → Int) (pn_0 : Int) (rounds_0 : Int) (k10 : 0 ≤ x10 ∧ x10 ≤ 158) (k11 : 1 ≤ x11 ∧ x11 ≤ 1) (k12 : 0 ≤ x12 ∧ x12 ≤ 255) (f0 : bvp (x12) = bvp (x10) ^^^ bvp (x11)) (f9 : BRB (pn_0) (pm_0) (rounds_0) (pt_0) (ph_0) (alive_0) (rotMany_0) (rot_0) (roundOf_0) (roundBegin_0) (roundDart_0)) (kz_0_31 : 0 ≤ pn_0 ∧ pn_0 ≤ 25) (kz_0_32 : 0 ≤ pm_0 ∧ pm_0 ≤ 80) (kz_0_53 : 0 ≤ rounds_0 ∧ rounds_0 ≤ 160) : 0 ≤ x12 ∧ x12 ≤ 159 := by
  first
    | omega
    | (have hR := brb_R ‹BRB _ _ _ _ _ _ _ _ _ _ _›; omega)
    | (have hR := brb_R ‹BRB _ _ _ _ _ _ _ _ _ _ _›
       have hx : bvp x8 = bvp x6 ^^^ bvp 1 := by rw [← (by omega : x7 = 1)]; assumption
       have e1 := xor_1 hx (by omega) (by omega) (by omega) (by omega)
       omega)
    | (have hR := brb_R ‹BRB _ _ _ _ _ _ _ _ _ _ _›
       have hx : bvp x12 = bvp x10 ^^^ bvp 1 := by rw [← (by omega : x11 = 1)]; assumption
       have e1 := xor_1 hx (by omega) (by omega) (by omega) (by omega)
       omega)
    | (have hR := brb_R ‹BRB _ _ _ _ _ _ _ _ _ _ _›
       have r1 := brb_ro (d := x8) ‹BRB _ _ _ _ _ _ _ _ _ _ _› (by omega) (by omega)
       omega)
    | (have hR := brb_R ‹BRB _ _ _ _ _ _ _ _ _ _ _›
       have r1 := brb_ro (d := x8) ‹BRB _ _ _ _ _ _ _ _ _ _ _› (by omega) (by omega)
       have hx : bvp x12 = bvp x10 ^^^ bvp 1 := by rw [← (by omega : x11 = 1)]; assumption
       have e1 := xor_1 hx (by omega) (by omega) (by omega) (by omega)
       have r2 := brb_ro (d := x12) ‹BRB _ _ _ _ _ _ _ _ _ _ _› (by omega) (by omega)
       omega)
    | (have hR := brb_R ‹BRB _ _ _ _ _ _ _ _ _ _ _›
       have r1 := brb_ro (d := x8) ‹BRB _ _ _ _ _ _ _ _ _ _ _› (by omega) (by omega)
       have hx : bvp x12 = bvp x10 ^^^ bvp 1 := by rw [← (by omega : x11 = 1)]; assumption
       have e1 := xor_1 hx (by omega) (by omega) (by omega) (by omega)
       have r2 := brb_ro (d := x12) ‹BRB _ _ _ _ _ _ _ _ _ _ _› (by omega) (by omega)
       have b1 := ‹LNE _ _ _ _› x9 (by omega) (by omega)
       have b2 := ‹LNE _ _ _ _› x13 (by omega) (by omega)
       omega)
    | (have h := ‹PLN _ _ _ _ _ _ _›
       have h1 := h.2.1
       simp only [Int.add_zero] at *
       omega)

def o_Mo_bars_32 : or_T := (268, 13, [(0, (2, 0, 0, [165])), (2, (0, 3, 24, [])), (4, (0, 0, 159, [])), (5, (0, 1, 79, [])), (6, (0, 2, 80, [])), (7, (2, 0, 0, [196])), (8, (0, 1, 159, [])), (9, (0, -1, 159, [])), (10, (0, 0, 158, [])), (11, (0, 1, 1, [])), (12, (0, 0, 255, []))], [(16, [12, 10, 11], [2]), (23, [10, 5], [1, 1, -2]), (23, [10, 5], [0, -1, 2]), (9, [7, 0], [54]), (10, [9, 7, 8], []), (23, [8, 5], [1, 1, -2]), (23, [8, 5], [0, -1, 2]), (7, [5, 6], [2]), (9, [6, 0], [32]), (20, [0], [60, 3, 8, 316, 31, 32, 53, 33, 34, 35, 36, 37, 54, 56, 57]), (20, [2, 0], [50, 1, 0, 1031, 1, 2, 1, 0, 2, 1, 31]), (20, [0, 4, 5], [60, 1, 1, 321, 53, 20]), (20, [0], [60, 1, 1, 786, 31, 75])], [(12, (0, 0, 159, []))], [], [], [], [(5, 6, -4294967296, -1)])
theorem oo_Mo_bars_32 {kA : Nat → ClassId} : or_ok PRD kA GG o_Mo_bars_32 := by
  refine or_mk fun A ta ws vs hD hth hl => ?_
  intro t0 r0 t2 k2 t4 k4 t5 k5 t6 k6 t7 r7 t8 k8 t9 k9 t10 k10 t11 k11 t12 k12 d0 f0 f1 f2 f3 f4 f5 f6 f7 f8 f9 f10 f11 f12
  have kz_0_31 := fdq_145 hD hth r0
  have kz_0_32 := fdq_140 hD hth r0
  have kz_0_53 := fdq_275 hD hth r0
  have hrf0 : 0 ≤ v_iv (n_v vs 12) ∧ v_iv (n_v vs 12) ≤ 159 := vc_Mo_bars_32_r0 (v_iv (n_v vs 6)) (v_iv (n_v vs 8)) (v_iv (n_v vs 9)) (v_iv (n_v vs 10)) (v_iv (n_v vs 11)) (v_iv (n_v vs 12)) (w_ei ws (w_ar ws (n_v vs 0) 54)) (w_fi ws (n_v vs 0) 32) (w_ei ws (w_ar ws (n_v vs 0) 33)) (w_ei ws (w_ar ws (n_v vs 0) 34)) (w_ei ws (w_ar ws (n_v vs 0) 35)) (w_ei ws (w_ar ws (n_v vs 0) 36)) (w_ei ws (w_ar ws (n_v vs 0) 37)) (w_ei ws (w_ar ws (n_v vs 0) 56)) (w_ei ws (w_ar ws (n_v vs 0) 57)) (w_fi ws (n_v vs 0) 31) (w_fi ws (n_v vs 0) 53) k10 k11 k12 (shm_33 f0) (shm_1123 f9) kz_0_31 kz_0_32 kz_0_53
  have rf12 : tv_ok ta (0, 0, 159, []) (n_v vs 12) := tv_in t12 (by first | omega | grind) (by first | omega | grind)
  refine ⟨List.forall_mem_cons.mpr ⟨rf12, (fun _ h => (by cases h))⟩, [], trivial, ?_, (fun _ h => (by cases h))⟩
  rw [List.append_nil]
  exact (fun _ h => (by cases h))
set_option maxHeartbeats 4000000 in
theorem vc_Mo_bars_33_r0 (x5 : Int) (x6 : Int) (x8 : Int) (x9 : Int) (x10 : Int) (x11 : Int) (x12 : Int) (x13 : Int) (roundOf_0 : Int → Int) (pm_0 : Int) (pt_0 : Int → Int) (ph_0 : Int → Int) (alive_0 : Int → Int) (rotMany_0 : Int → Int) (rot_0 : Int → Int) (roundBegin_0 : Int → Int) (roundDart_0 : Int → Int) (pn_0 : Int) (rounds_0 : Int) (k5 : 1 ≤ x5 ∧ x5 ≤ 79) (k6 : 2 ≤ x6 ∧ x6 ≤ 80) (k8 : 1 ≤ x8 ∧ x8 ≤ 159) (k9 : (-1) ≤ x9 ∧ x9 ≤ 159) (k12 : 0 ≤ x12 ∧ x12 ≤ 159) (k13 : (-1) ≤ x13 ∧ x13 ≤ 159) (d0 : x6 + (-4294967296) ≤ x5 ∧ x5 ≤ x6 + (-1)) (h1 : x13 = roundOf_0 (x12)) (h6 : x9 = roundOf_0 (x8)) (f7 : 1 * x8 + ((-2) * x5 + 0) ≤ 1) (f8 : (-1) * x8 + (2 * x5 + 0) ≤ 0) (g10 : x6 = pm_0) (f11 : BRB (pn_0) (pm_0) (rounds_0) (pt_0) (ph_0) (alive_0) (rotMany_0) (rot_0) (roundOf_0) (roundBegin_0) (roundDart_0)) (kz_0_31 : 0 ≤ pn_0 ∧ pn_0 ≤ 25) (kz_0_32 : 0 ≤ pm_0 ∧ pm_0 ≤ 80) (kz_0_53 : 0 ≤ rounds_0 ∧ rounds_0 ≤ 160) : 0 ≤ x9 ∧ x9 ≤ 99 := by
  first
    | omega
    | (have hR := brb_R ‹BRB _ _ _ _ _ _ _ _ _ _ _›; omega)
    | (have hR := brb_R ‹BRB _ _ _ _ _ _ _ _ _ _ _›
       have hx : bvp x8 = bvp x6 ^^^ bvp 1 := by rw [← (by omega : x7 = 1)]; assumption
       have e1 := xor_1 hx (by omega) (by omega) (by omega) (by omega)
       omega)
    | (have hR := brb_R ‹BRB _ _ _ _ _ _ _ _ _ _ _›
       have hx : bvp x12 = bvp x10 ^^^ bvp 1 := by rw [← (by omega : x11 = 1)]; assumption
       have e1 := xor_1 hx (by omega) (by omega) (by omega) (by omega)
       omega)
    | (have hR := brb_R ‹BRB _ _ _ _ _ _ _ _ _ _ _›
       have r1 := brb_ro (d := x8) ‹BRB _ _ _ _ _ _ _ _ _ _ _› (by omega) (by omega)
       omega)
    | (have hR := brb_R ‹BRB _ _ _ _ _ _ _ _ _ _ _›
       have r1 := brb_ro (d := x8) ‹BRB _ _ _ _ _ _ _ _ _ _ _› (by omega) (by omega)
       have hx : bvp x12 = bvp x10 ^^^ bvp 1 := by rw [← (by omega : x11 = 1)]; assumption
       have e1 := xor_1 hx (by omega) (by omega) (by omega) (by omega)
       have r2 := brb_ro (d := x12) ‹BRB _ _ _ _ _ _ _ _ _ _ _› (by omega) (by omega)
       omega)
    | (have hR := brb_R ‹BRB _ _ _ _ _ _ _ _ _ _ _›
       have r1 := brb_ro (d := x8) ‹BRB _ _ _ _ _ _ _ _ _ _ _› (by omega) (by omega)
       have hx : bvp x12 = bvp x10 ^^^ bvp 1 := by rw [← (by omega : x11 = 1)]; assumption
       have e1 := xor_1 hx (by omega) (by omega) (by omega) (by omega)
       have r2 := brb_ro (d := x12) ‹BRB _ _ _ _ _ _ _ _ _ _ _› (by omega) (by omega)
       have b1 := ‹LNE _ _ _ _› x9 (by omega) (by omega)
       have b2 := ‹LNE _ _ _ _› x13 (by omega) (by omega)
       omega)
    | (have h := ‹PLN _ _ _ _ _ _ _›
       have h1 := h.2.1
       simp only [Int.add_zero] at *
       omega)
def o_Mo_bars_33 : or_T := (277, 15, [(0, (2, 0, 0, [165])), (2, (0, 3, 24, [])), (4, (0, 0, 159, [])), (5, (0, 1, 79, [])), (6, (0, 2, 80, [])), (7, (2, 0, 0, [196])), (8, (0, 1, 159, [])), (9, (0, -1, 159, [])), (10, (0, 0, 158, [])), (11, (0, 1, 1, [])), (12, (0, 0, 159, [])), (13, (0, -1, 159, [])), (14, (2, 0, 0, [175]))], [(9, [14, 0], [20]), (10, [13, 7, 12], []), (16, [12, 10, 11], [2]), (23, [10, 5], [1, 1, -2]), (23, [10, 5], [0, -1, 2]), (9, [7, 0], [54]), (10, [9, 7, 8], []), (23, [8, 5], [1, 1, -2]), (23, [8, 5], [0, -1, 2]), (7, [5, 6], [2]), (9, [6, 0], [32]), (20, [0], [60, 3, 8, 316, 31, 32, 53, 33, 34, 35, 36, 37, 54, 56, 57]), (20, [2, 0], [50, 1, 0, 1031, 1, 2, 1, 0, 2, 1, 31]), (20, [0, 4, 5], [60, 1, 1, 321, 53, 20]), (20, [0], [60, 1, 1, 786, 31, 75])], [(9, (0, 0, 99, []))], [], [], [], [(5, 6, -4294967296, -1)])
theorem oo_Mo_bars_33 {kA : Nat → ClassId} : or_ok PRD kA GG o_Mo_bars_33 := by
  refine or_mk fun A ta ws vs hD hth hl => ?_
  intro t0 r0 t2 k2 t4 k4 t5 k5 t6 k6 t7 r7 t8 k8 t9 k9 t10 k10 t11 k11 t12 k12 t13 k13 t14 r14 d0 f0 f1 f2 f3 f4 f5 f6 f7 f8 f9 f10 f11 f12 f13 f14
  replace f1 := shm_107 f1
  replace f5 := shm_1122 f5
  replace f6 := shm_107 f6
  replace f10 := shm_525 f10
  have ad_7 : v_ad (n_v vs 7) = w_ar ws (n_v vs 0) 54 := congrArg v_ad f5
  simp only [ad_7] at f1
  have h1 : v_iv (n_v vs 13) = w_ei ws (w_ar ws (n_v vs 0) 54) (v_iv (n_v vs 12)) := f1
  simp only [ad_7] at f6
  have h6 : v_iv (n_v vs 9) = w_ei ws (w_ar ws (n_v vs 0) 54) (v_iv (n_v vs 8)) := f6
  have g10 : v_iv (n_v vs 6) = w_fi ws (n_v vs 0) 32 := congrArg v_iv f10
  have kz_0_31 := fdq_145 hD hth r0
  have kz_0_32 := fdq_140 hD hth r0
  have kz_0_53 := fdq_275 hD hth r0
  have hrf0 : 0 ≤ v_iv (n_v vs 9) ∧ v_iv (n_v vs 9) ≤ 99 := vc_Mo_bars_33_r0 (v_iv (n_v vs 5)) (v_iv (n_v vs 6)) (v_iv (n_v vs 8)) (v_iv (n_v vs 9)) (v_iv (n_v vs 10)) (v_iv (n_v vs 11)) (v_iv (n_v vs 12)) (v_iv (n_v vs 13)) (w_ei ws (w_ar ws (n_v vs 0) 54)) (w_fi ws (n_v vs 0) 32) (w_ei ws (w_ar ws (n_v vs 0) 33)) (w_ei ws (w_ar ws (n_v vs 0) 34)) (w_ei ws (w_ar ws (n_v vs 0) 35)) (w_ei ws (w_ar ws (n_v vs 0) 36)) (w_ei ws (w_ar ws (n_v vs 0) 37)) (w_ei ws (w_ar ws (n_v vs 0) 56)) (w_ei ws (w_ar ws (n_v vs 0) 57)) (w_fi ws (n_v vs 0) 31) (w_fi ws (n_v vs 0) 53) k5 k6 k8 k9 k12 k13 d0 h1 h6 (shm_143 f7) (shm_144 f8) g10 (shm_1123 f11) kz_0_31 kz_0_32 kz_0_53
  have rf9 : tv_ok ta (0, 0, 99, []) (n_v vs 9) := tv_in t9 (by first | omega | grind) (by first | omega | grind)
  refine ⟨List.forall_mem_cons.mpr ⟨rf9, (fun _ h => (by cases h))⟩, [], trivial, ?_, (fun _ h => (by cases h))⟩
  rw [List.append_nil]
  exact (fun _ h => (by cases h))
set_option maxHeartbeats 4000000 in
theorem vc_Mo_bars_34_0 (x4 : Int) (x5 : Int) (x8 : Int) (x9 : Int) (x10 : Int) (x11 : Int) (x12 : Int) (x13 : Int) (x16 : Int) (line_0 : Int → Int) (rounds_0 : Int) (k4 : 0 ≤ x4 ∧ x4 ≤ 159) (k5 : 1 ≤ x5 ∧ x5 ≤ 79) (k16 : 2 ≤ x16 ∧ x16 ≤ 80) (d0 : x5 + 1 ≤ x16 ∧ x16 ≤ x5 + 1) (f16 : LNE (rounds_0) (line_0) (x4) (x5)) (kz_0_53 : 0 ≤ rounds_0 ∧ rounds_0 ≤ 160) : LNE (rounds_0) (line_0) (x4) (x16) := by
  first
    | exact lnb_le ‹LNR _ _ _› (by omega)
    | exact lnb_le ‹LNE _ _ _ _› (by omega)
    | (have hR := brb_R ‹BRB _ _ _ _ _ _ _ _ _ _ _›
       have r1 := brb_ro (d := x8) ‹BRB _ _ _ _ _ _ _ _ _ _ _› (by omega) (by omega)
       have hx : bvp x12 = bvp x10 ^^^ bvp 1 := by rw [← (by omega : x11 = 1)]; assumption
       have e1 := xor_1 hx (by omega) (by omega) (by omega) (by omega)
       have r2 := brb_ro (d := x12) ‹BRB _ _ _ _ _ _ _ _ _ _ _› (by omega) (by omega)
       have b1 := ‹LNE _ _ _ _› x9 (by omega) (by omega)
       have b2 := ‹LNE _ _ _ _› x13 (by omega) (by omega)
       exact lnb_step ‹LNE _ _ _ _› (by omega) (by assumption) (by omega) (by omega))
def o_Mo_bars_34 : or_T := (234, 17, [(0, (2, 0, 0, [165])), (2, (0, 3, 24, [])), (4, (0, 0, 159, [])), (5, (0, 1, 79, [])), (6, (0, 2, 80, [])), (7, (2, 0, 0, [196])), (8, (0, 1, 159, [])), (9, (0, 0, 99, [])), (10, (0, 0, 158, [])), (11, (0, 1, 1, [])), (12, (0, 0, 159, [])), (13, (0, -1, 159, [])), (14, (2, 0, 0, [175])), (15, (0, -1000000, -1, [])), (16, (0, 2, 80, []))], [(6, [16, 5], [1]), (8, [15], [2]), (10, [15, 14, 9], []), (9, [14, 0], [20]), (10, [13, 7, 12], []), (16, [12, 10, 11], [2]), (23, [10, 5], [1, 1, -2]), (23, [10, 5], [0, -1, 2]), (9, [7, 0], [54]), (10, [9, 7, 8], []), (23, [8, 5], [1, 1, -2]), (23, [8, 5], [0, -1, 2]), (7, [5, 6], [2]), (9, [6, 0], [32]), (20, [0], [60, 3, 8, 316, 31, 32, 53, 33, 34, 35, 36, 37, 54, 56, 57]), (20, [2, 0], [50, 1, 0, 1031, 1, 2, 1, 0, 2, 1, 31]), (20, [0, 4, 5], [60, 1, 1, 321, 53, 20]), (20, [0], [60, 1, 1, 786, 31, 75])], [], [], [(20, [0, 4, 16], [60, 1, 1, 321, 53, 20])], [], [(16, 5, 1, 1), (16, 6, -4294967296, 0), (5, 6, -4294967296, -1)])
theorem oo_Mo_bars_34 {kA : Nat → ClassId} : or_ok PRD kA GG o_Mo_bars_34 := by
  refine or_mk fun A ta ws vs hD hth hl => ?_
  intro t0 r0 t2 k2 t4 k4 t5 k5 t6 k6 t7 r7 t8 k8 t9 k9 t10 k10 t11 k11 t12 k12 t13 k13 t14 r14 t15 k15 t16 k16 d0 d1 d2 f0 f1 f2 f3 f4 f5 f6 f7 f8 f9 f10 f11 f12 f13 f14 f15 f16 f17
  have kz_0_53 := fdq_275 hD hth r0
  have nf0 : fc_1 PRD (20, [0, 4, 16], [60, 1, 1, 321, 53, 20]) ws (vs) := ⟨nf_in hl rfl, sgq_2289 (vc_Mo_bars_34_0 (v_iv (n_v vs 4)) (v_iv (n_v vs 5)) (v_iv (n_v vs 8)) (v_iv (n_v vs 9)) (v_iv (n_v vs 10)) (v_iv (n_v vs 11)) (v_iv (n_v vs 12)) (v_iv (n_v vs 13)) (v_iv (n_v vs 16)) (w_ei ws (w_ar ws (n_v vs 0) 20)) (w_fi ws (n_v vs 0) 53) k4 k5 k16 d0 (shm_2289 f16) kz_0_53)⟩
  refine ⟨(fun _ h => (by cases h)), [], trivial, ?_, (fun _ h => (by cases h))⟩
  rw [List.append_nil]
  exact List.forall_mem_cons.mpr ⟨⟨show (20 : Nat) < 100 from by decide, nf0⟩, (fun _ h => (by cases h))⟩
set_option maxHeartbeats 4000000 in
theorem vc_Mo_bars_35_r0 (x5 : Int) (x6 : Int) (x8 : Int) (x9 : Int) (x10 : Int) (x11 : Int) (x12 : Int) (x13 : Int) (roundOf_0 : Int → Int) (pm_0 : Int) (pt_0 : Int → Int) (ph_0 : Int → Int) (alive_0 : Int → Int) (rotMany_0 : Int → Int) (rot_0 : Int → Int) (roundBegin_0 : Int → Int) (roundDart_0 : Int → Int) (pn_0 : Int) (rounds_0 : Int) (k5 : 1 ≤ x5 ∧ x5 ≤ 79) (k6 : 2 ≤ x6 ∧ x6 ≤ 80) (k8 : 1 ≤ x8 ∧ x8 ≤ 159) (k10 : 0 ≤ x10 ∧ x10 ≤ 158) (k11 : 1 ≤ x11 ∧ x11 ≤ 1) (k12 : 0 ≤ x12 ∧ x12 ≤ 159) (k13 : (-1) ≤ x13 ∧ x13 ≤ 159) (d0 : x6 + (-4294967296) ≤ x5 ∧ x5 ≤ x6 + (-1)) (h3 : x13 = roundOf_0 (x12)) (f4 : bvp (x12) = bvp (x10) ^^^ bvp (x11)) (f5 : 1 * x10 + ((-2) * x5 + 0) ≤ 1) (f6 : (-1) * x10 + (2 * x5 + 0) ≤ 0) (f9 : 1 * x8 + ((-2) * x5 + 0) ≤ 1) (f10 : (-1) * x8 + (2 * x5 + 0) ≤ 0) (g12 : x6 = pm_0) (f13 : BRB (pn_0) (pm_0) (rounds_0) (pt_0) (ph_0) (alive_0) (rotMany_0) (rot_0) (roundOf_0) (roundBegin_0) (roundDart_0)) (kz_0_31 : 0 ≤ pn_0 ∧ pn_0 ≤ 25) (kz_0_32 : 0 ≤ pm_0 ∧ pm_0 ≤ 80) (kz_0_53 : 0 ≤ rounds_0 ∧ rounds_0 ≤ 160) : 0 ≤ x13 ∧ x13 ≤ 99 := by
  first
    | omega
    | (have hR := brb_R ‹BRB _ _ _ _ _ _ _ _ _ _ _›; omega)
    | (have hR := brb_R ‹BRB _ _ _ _ _ _ _ _ _ _ _›
       have hx : bvp x8 = bvp x6 ^^^ bvp 1 := by rw [← (by omega : x7 = 1)]; assumption
       have e1 := xor_1 hx (by omega) (by omega) (by omega) (by omega)
       omega)
    | (have hR := brb_R ‹BRB _ _ _ _ _ _ _ _ _ _ _›
       have hx : bvp x12 = bvp x10 ^^^ bvp 1 := by rw [← (by omega : x11 = 1)]; assumption
       have e1 := xor_1 hx (by omega) (by omega) (by omega) (by omega)
       omega)
    | (have hR := brb_R ‹BRB _ _ _ _ _ _ _ _ _ _ _›
       have r1 := brb_ro (d := x8) ‹BRB _ _ _ _ _ _ _ _ _ _ _› (by omega) (by omega)
       omega)
    | (have hR := brb_R ‹BRB _ _ _ _ _ _ _ _ _ _ _›
       have r1 := brb_ro (d := x8) ‹BRB _ _ _ _ _ _ _ _ _ _ _› (by omega) (by omega)
       have hx : bvp x12 = bvp x10 ^^^ bvp 1 := by rw [← (by omega : x11 = 1)]; assumption
       have e1 := xor_1 hx (by omega) (by omega) (by omega) (by omega)
       have r2 := brb_ro (d := x12) ‹BRB _ _ _ _ _ _ _ _ _ _ _› (by omega) (by omega)
       omega)
    | (have hR := brb_R ‹BRB _ _ _ _ _ _ _ _ _ _ _›
       have r1 := brb_ro (d := x8) ‹BRB _ _ _ _ _ _ _ _ _ _ _› (by omega) (by omega)
       have hx : bvp x12 = bvp x10 ^^^ bvp 1 := by rw [← (by omega : x11 = 1)]; assumption
       have e1 := xor_1 hx (by omega) (by omega) (by omega) (by omega)
       have r2 := brb_ro (d := x12) ‹BRB _ _ _ _ _ _ _ _ _ _ _› (by omega) (by omega)
       have b1 := ‹LNE _ _ _ _› x9 (by omega) (by omega)
       have b2 := ‹LNE _ _ _ _› x13 (by omega) (by omega)
       omega)
    | (have h := ‹PLN _ _ _ _ _ _ _›
       have h1 := h.2.1
       simp only [Int.add_zero] at *
       omega)
def o_Mo_bars_35 : or_T := (293, 16, [(0, (2, 0, 0, [165])), (2, (0, 3, 24, [])), (4, (0, 0, 159, [])), (5, (0, 1, 79, [])), (6, (0, 2, 80, [])), (7, (2, 0, 0, [196])), (8, (0, 1, 159, [])), (9, (0, 0, 99, [])), (10, (0, 0, 158, [])), (11, (0, 1, 1, [])), (12, (0, 0, 159, [])), (13, (0, -1, 159, [])), (14, (2, 0, 0, [175])), (15, (0, 0, 1000000, []))], [(9, [14, 0], [20]), (8, [15], [3]), (10, [15, 14, 9], []), (10, [13, 7, 12], []), (16, [12, 10, 11], [2]), (23, [10, 5], [1, 1, -2]), (23, [10, 5], [0, -1, 2]), (9, [7, 0], [54]), (10, [9, 7, 8], []), (23, [8, 5], [1, 1, -2]), (23, [8, 5], [0, -1, 2]), (7, [5, 6], [2]), (9, [6, 0], [32]), (20, [0], [60, 3, 8, 316, 31, 32, 53, 33, 34, 35, 36, 37, 54, 56, 57]), (20, [2, 0], [50, 1, 0, 1031, 1, 2, 1, 0, 2, 1, 31]), (20, [0, 4, 5], [60, 1, 1, 321, 53, 20]), (20, [0], [60, 1, 1, 786, 31, 75])], [(13, (0, 0, 99, []))], [], [], [], [(5, 6, -4294967296, -1)])
theorem oo_Mo_bars_35 {kA : Nat → ClassId} : or_ok PRD kA GG o_Mo_bars_35 := by
  refine or_mk fun A ta ws vs hD hth hl => ?_
  intro t0 r0 t2 k2 t4 k4 t5 k5 t6 k6 t7 r7 t8 k8 t9 k9 t10 k10 t11 k11 t12 k12 t13 k13 t14 r14 t15 k15 d0 f0 f1 f2 f3 f4 f5 f6 f7 f8 f9 f10 f11 f12 f13 f14 f15 f16
  replace f3 := shm_107 f3
  replace f7 := shm_1122 f7
  replace f12 := shm_525 f12
  have ad_7 : v_ad (n_v vs 7) = w_ar ws (n_v vs 0) 54 := congrArg v_ad f7
  simp only [ad_7] at f3
  have h3 : v_iv (n_v vs 13) = w_ei ws (w_ar ws (n_v vs 0) 54) (v_iv (n_v vs 12)) := f3
  have g12 : v_iv (n_v vs 6) = w_fi ws (n_v vs 0) 32 := congrArg v_iv f12
  have kz_0_31 := fdq_145 hD hth r0
  have kz_0_32 := fdq_140 hD hth r0
  have kz_0_53 := fdq_275 hD hth r0
  have hrf0 : 0 ≤ v_iv (n_v vs 13) ∧ v_iv (n_v vs 13) ≤ 99 := vc_Mo_bars_35_r0 (v_iv (n_v vs 5)) (v_iv (n_v vs 6)) (v_iv (n_v vs 8)) (v_iv (n_v vs 9)) (v_iv (n_v vs 10)) (v_iv (n_v vs 11)) (v_iv (n_v vs 12)) (v_iv (n_v vs 13)) (w_ei ws (w_ar ws (n_v vs 0) 54)) (w_fi ws (n_v vs 0) 32) (w_ei ws (w_ar ws (n_v vs 0) 33)) (w_ei ws (w_ar ws (n_v vs 0) 34)) (w_ei ws (w_ar ws (n_v vs 0) 35)) (w_ei ws (w_ar ws (n_v vs 0) 36)) (w_ei ws (w_ar ws (n_v vs 0) 37)) (w_ei ws (w_ar ws (n_v vs 0) 56)) (w_ei ws (w_ar ws (n_v vs 0) 57)) (w_fi ws (n_v vs 0) 31) (w_fi ws (n_v vs 0) 53) k5 k6 k8 k10 k11 k12 k13 d0 h3 (shm_33 f4) (shm_143 f5) (shm_144 f6) (shm_143 f9) (shm_144 f10) g12 (shm_1123 f13) kz_0_31 kz_0_32 kz_0_53
  have rf13 : tv_ok ta (0, 0, 99, []) (n_v vs 13) := tv_in t13 (by first | omega | grind) (by first | omega | grind)
  refine ⟨List.forall_mem_cons.mpr ⟨rf13, (fun _ h => (by cases h))⟩, [], trivial, ?_, (fun _ h => (by cases h))⟩
  rw [List.append_nil]
  exact (fun _ h => (by cases h))
set_option maxHeartbeats 4000000 in
theorem vc_Mo_bars_36_r0 (x4 : Int) (x5 : Int) (x6 : Int) (x8 : Int) (x9 : Int) (x10 : Int) (x11 : Int) (x12 : Int) (x13 : Int) (x15 : Int) (x17 : Int) (x19 : Int) (line_0 : Int → Int) (roundOf_0 : Int → Int) (pm_0 : Int) (pt_0 : Int → Int) (ph_0 : Int → Int) (alive_0 : Int → Int) (rotMany_0 : Int → Int) (rot_0 : Int → Int) (roundBegin_0 : Int → Int) (roundDart_0 : Int → Int) (pn_0 : Int) (rounds_0 : Int) (k4 : 0 ≤ x4 ∧ x4 ≤ 159) (k5 : 1 ≤ x5 ∧ x5 ≤ 79) (k6 : 2 ≤ x6 ∧ x6 ≤ 80) (k8 : 1 ≤ x8 ∧ x8 ≤ 159) (k9 : 0 ≤ x9 ∧ x9 ≤ 99) (k10 : 0 ≤ x10 ∧ x10 ≤ 158) (k11 : 1 ≤ x11 ∧ x11 ≤ 1) (k12 : 0 ≤ x12 ∧ x12 ≤ 159) (k13 : 0 ≤ x13 ∧ x13 ≤ 99) (k15 : 0 ≤ x15 ∧ x15 ≤ 1000000) (k17 : (-1000000) ≤ x17 ∧ x17 ≤ 1000000) (k19 : (-999999) ≤ x19 ∧ x19 ≤ 1000001) (d1 : x17 + 1 ≤ x19 ∧ x19 ≤ x17 + 1) (d2 : x6 + (-4294967296) ≤ x5 ∧ x5 ≤ x6 + (-1)) (h3 : x17 = line_0 (x9)) (h7 : x15 = line_0 (x9)) (h8 : x13 = roundOf_0 (x12)) (f9 : bvp (x12) = bvp (x10) ^^^ bvp (x11)) (f10 : 1 * x10 + ((-2) * x5 + 0) ≤ 1) (f11 : (-1) * x10 + (2 * x5 + 0) ≤ 0) (h13 : x9 = roundOf_0 (x8)) (f14 : 1 * x8 + ((-2) * x5 + 0) ≤ 1) (f15 : (-1) * x8 + (2 * x5 + 0) ≤ 0) (g17 : x6 = pm_0) (f18 : BRB (pn_0) (pm_0) (rounds_0) (pt_0) (ph_0) (alive_0) (rotMany_0) (rot_0) (roundOf_0) (roundBegin_0) (roundDart_0)) (f20 : LNE (rounds_0) (line_0) (x4) (x5)) (kz_0_31 : 0 ≤ pn_0 ∧ pn_0 ≤ 25) (kz_0_32 : 0 ≤ pm_0 ∧ pm_0 ≤ 80) (kz_0_53 : 0 ≤ rounds_0 ∧ rounds_0 ≤ 160) : (-999999) ≤ x19 ∧ x19 ≤ 1000000 := by
  first
    | omega
    | (have hR := brb_R ‹BRB _ _ _ _ _ _ _ _ _ _ _›; omega)
    | (have hR := brb_R ‹BRB _ _ _ _ _ _ _ _ _ _ _›
       have hx : bvp x8 = bvp x6 ^^^ bvp 1 := by rw [← (by omega : x7 = 1)]; assumption
       have e1 := xor_1 hx (by omega) (by omega) (by omega) (by omega)
       omega)
    | (have hR := brb_R ‹BRB _ _ _ _ _ _ _ _ _ _ _›
       have hx : bvp x12 = bvp x10 ^^^ bvp 1 := by rw [← (by omega : x11 = 1)]; assumption
       have e1 := xor_1 hx (by omega) (by omega) (by omega) (by omega)
       omega)
    | (have hR := brb_R ‹BRB _ _ _ _ _ _ _ _ _ _ _›
       have r1 := brb_ro (d := x8) ‹BRB _ _ _ _ _ _ _ _ _ _ _› (by omega) (by omega)
       omega)
    | (have hR := brb_R ‹BRB _ _ _ _ _ _ _ _ _ _ _›
       have r1 := brb_ro (d := x8) ‹BRB _ _ _ _ _ _ _ _ _ _ _› (by omega) (by omega)
       have hx : bvp x12 = bvp x10 ^^^ bvp 1 := by rw [← (by omega : x11 = 1)]; assumption
       have e1 := xor_1 hx (by omega) (by omega) (by omega) (by omega)
       have r2 := brb_ro (d := x12) ‹BRB _ _ _ _ _ _ _ _ _ _ _› (by omega) (by omega)
       omega)
    | (have hR := brb_R ‹BRB _ _ _ _ _ _ _ _ _ _ _›
       have r1 := brb_ro (d := x8) ‹BRB _ _ _ _ _ _ _ _ _ _ _› (by omega) (by omega)
       have hx : bvp x12 = bvp x10 ^^^ bvp 1 := by rw [← (by omega : x11 = 1)]; assumption
       have e1 := xor_1 hx (by omega) (by omega) (by omega) (by omega)
       have r2 := brb_ro (d := x12) ‹BRB _ _ _ _ _ _ _ _ _ _ _› (by omega) (by omega)
       have b1 := ‹LNE _ _ _ _› x9 (by omega) (by omega)
       have b2 := ‹LNE _ _ _ _› x13 (by omega) (by omega)
       omega)
    | (have h := ‹PLN _ _ _ _ _ _ _›
       have h1 := h.2.1
       simp only [Int.add_zero] at *
       omega)
def o_Mo_bars_36 : or_T := (306, 20, [(0, (2, 0, 0, [165])), (2, (0, 3, 24, [])), (4, (0, 0, 159, [])), (5, (0, 1, 79, [])), (6, (0, 2, 80, [])), (7, (2, 0, 0, [196])), (8, (0, 1, 159, [])), (9, (0, 0, 99, [])), (10, (0, 0, 158, [])), (11, (0, 1, 1, [])), (12, (0, 0, 159, [])), (13, (0, 0, 99, [])), (14, (2, 0, 0, [175])), (15, (0, 0, 1000000, [])), (16, (0, -1000000, 1000000, [])), (17, (0, -1000000, 1000000, [])), (18, (0, 1, 1, [])), (19, (0, -999999, 1000001, []))], [(7, [16, 19], [5]), (7, [19, 19], [5]), (1, [19, 17, 18], []), (10, [17, 14, 9], []), (9, [14, 0], [20]), (10, [16, 14, 13], []), (8, [15], [3]), (10, [15, 14, 9], []), (10, [13, 7, 12], []), (16, [12, 10, 11], [2]), (23, [10, 5], [1, 1, -2]), (23, [10, 5], [0, -1, 2]), (9, [7, 0], [54]), (10, [9, 7, 8], []), (23, [8, 5], [1, 1, -2]), (23, [8, 5], [0, -1, 2]), (7, [5, 6], [2]), (9, [6, 0], [32]), (20, [0], [60, 3, 8, 316, 31, 32, 53, 33, 34, 35, 36, 37, 54, 56, 57]), (20, [2, 0], [50, 1, 0, 1031, 1, 2, 1, 0, 2, 1, 31]), (20, [0, 4, 5], [60, 1, 1, 321, 53, 20]), (20, [0], [60, 1, 1, 786, 31, 75])], [(19, (0, -999999, 1000000, []))], [], [], [], [(16, 19, -4294967296, 0), (19, 17, 1, 1), (5, 6, -4294967296, -1)])
theorem oo_Mo_bars_36 {kA : Nat → ClassId} : or_ok PRD kA GG o_Mo_bars_36 := by
  refine or_mk fun A ta ws vs hD hth hl => ?_
  intro t0 r0 t2 k2 t4 k4 t5 k5 t6 k6 t7 r7 t8 k8 t9 k9 t10 k10 t11 k11 t12 k12 t13 k13 t14 r14 t15 k15 t16 k16 t17 k17 t18 k18 t19 k19 d0 d1 d2 f0 f1 f2 f3 f4 f5 f6 f7 f8 f9 f10 f11 f12 f13 f14 f15 f16 f17 f18 f19 f20 f21
  replace f3 := shm_107 f3
  replace f4 := shm_740 f4
  replace f7 := shm_107 f7
  replace f8 := shm_107 f8
  replace f12 := shm_1122 f12
  replace f13 := shm_107 f13
  replace f17 := shm_525 f17
  have ad_14 : v_ad (n_v vs 14) = w_ar ws (n_v vs 0) 20 := congrArg v_ad f4
  have ad_7 : v_ad (n_v vs 7) = w_ar ws (n_v vs 0) 54 := congrArg v_ad f12
  simp only [ad_14] at f3
  have h3 : v_iv (n_v vs 17) = w_ei ws (w_ar ws (n_v vs 0) 20) (v_iv (n_v vs 9)) := f3
  simp only [ad_14] at f7
  have h7 : v_iv (n_v vs 15) = w_ei ws (w_ar ws (n_v vs 0) 20) (v_iv (n_v vs 9)) := f7
  simp only [ad_7] at f8
  have h8 : v_iv (n_v vs 13) = w_ei ws (w_ar ws (n_v vs 0) 54) (v_iv (n_v vs 12)) := f8
  simp only [ad_7] at f13
  have h13 : v_iv (n_v vs 9) = w_ei ws (w_ar ws (n_v vs 0) 54) (v_iv (n_v vs 8)) := f13
  have g17 : v_iv (n_v vs 6) = w_fi ws (n_v vs 0) 32 := congrArg v_iv f17
  have kz_0_31 := fdq_145 hD hth r0
  have kz_0_32 := fdq_140 hD hth r0
  have kz_0_53 := fdq_275 hD hth r0
  have hrf0 : (-999999) ≤ v_iv (n_v vs 19) ∧ v_iv (n_v vs 19) ≤ 1000000 := vc_Mo_bars_36_r0 (v_iv (n_v vs 4)) (v_iv (n_v vs 5)) (v_iv (n_v vs 6)) (v_iv (n_v vs 8)) (v_iv (n_v vs 9)) (v_iv (n_v vs 10)) (v_iv (n_v vs 11)) (v_iv (n_v vs 12)) (v_iv (n_v vs 13)) (v_iv (n_v vs 15)) (v_iv (n_v vs 17)) (v_iv (n_v vs 19)) (w_ei ws (w_ar ws (n_v vs 0) 20)) (w_ei ws (w_ar ws (n_v vs 0) 54)) (w_fi ws (n_v vs 0) 32) (w_ei ws (w_ar ws (n_v vs 0) 33)) (w_ei ws (w_ar ws (n_v vs 0) 34)) (w_ei ws (w_ar ws (n_v vs 0) 35)) (w_ei ws (w_ar ws (n_v vs 0) 36)) (w_ei ws (w_ar ws (n_v vs 0) 37)) (w_ei ws (w_ar ws (n_v vs 0) 56)) (w_ei ws (w_ar ws (n_v vs 0) 57)) (w_fi ws (n_v vs 0) 31) (w_fi ws (n_v vs 0) 53) k4 k5 k6 k8 k9 k10 k11 k12 k13 k15 k17 k19 d1 d2 h3 h7 h8 (shm_33 f9) (shm_143 f10) (shm_144 f11) h13 (shm_143 f14) (shm_144 f15) g17 (shm_1123 f18) (shm_2289 f20) kz_0_31 kz_0_32 kz_0_53
  have rf19 : tv_ok ta (0, -999999, 1000000, []) (n_v vs 19) := tv_in t19 (by first | omega | grind) (by first | omega | grind)
  refine ⟨List.forall_mem_cons.mpr ⟨rf19, (fun _ h => (by cases h))⟩, [], trivial, ?_, (fun _ h => (by cases h))⟩
  rw [List.append_nil]
  exact (fun _ h => (by cases h))
set_option maxHeartbeats 4000000 in
theorem vc_Mo_bars_37_0 (x4 : Int) (x5 : Int) (x6 : Int) (x8 : Int) (x9 : Int) (x10 : Int) (x11 : Int) (x12 : Int) (x13 : Int) (x15 : Int) (x17 : Int) (x19 : Int) (x20 : Int) (pt_0 : Int → Int) (ph_0 : Int → Int) (alive_0 : Int → Int) (rotMany_0 : Int → Int) (rot_0 : Int → Int) (roundOf_0 : Int → Int) (roundBegin_0 : Int → Int) (roundDart_0 : Int → Int) (pn_0 : Int) (pm_0 : Int) (rounds_0 : Int) (ny_0 : Int → Int) (line_1 : Int → Int) (roundOf_1 : Int → Int) (pm_1 : Int) (pt_1 : Int → Int) (ph_1 : Int → Int) (alive_1 : Int → Int) (rotMany_1 : Int → Int) (rot_1 : Int → Int) (roundBegin_1 : Int → Int) (roundDart_1 : Int → Int) (pn_1 : Int) (rounds_1 : Int) (ny_1 : Int → Int) (line_0 : Int → Int) (k4 : 0 ≤ x4 ∧ x4 ≤ 159) (k5 : 1 ≤ x5 ∧ x5 ≤ 79) (k6 : 2 ≤ x6 ∧ x6 ≤ 80) (k8 : 1 ≤ x8 ∧ x8 ≤ 159) (k9 : 0 ≤ x9 ∧ x9 ≤ 99) (k10 : 0 ≤ x10 ∧ x10 ≤ 158) (k11 : 1 ≤ x11 ∧ x11 ≤ 1) (k12 : 0 ≤ x12 ∧ x12 ≤ 159) (k13 : 0 ≤ x13 ∧ x13 ≤ 99) (k15 : 0 ≤ x15 ∧ x15 ≤ 1000000) (k17 : (-1000000) ≤ x17 ∧ x17 ≤ 1000000) (k19 : (-999999) ≤ x19 ∧ x19 ≤ 1000000) (k20 : 2 ≤ x20 ∧ x20 ≤ 80) (d0 : x5 + 1 ≤ x20 ∧ x20 ≤ x5 + 1) (d1 : x6 + (-4294967296) ≤ x20 ∧ x20 ≤ x6 + 0) (d3 : x17 + 1 ≤ x19 ∧ x19 ≤ x17 + 1) (d4 : x6 + (-4294967296) ≤ x5 ∧ x5 ≤ x6 + (-1)) (f1 : 1 * x10 + ((-2) * x5 + 0) ≤ 1) (f2 : (-1) * x10 + (2 * x5 + 0) ≤ 0) (f3 : 1 * x8 + ((-2) * x5 + 0) ≤ 1) (f4 : (-1) * x8 + (2 * x5 + 0) ≤ 0) (h12 : x17 = line_1 (x9)) (h16 : x15 = line_1 (x9)) (h17 : x13 = roundOf_1 (x12)) (f18 : bvp (x12) = bvp (x10) ^^^ bvp (x11)) (h22 : x9 = roundOf_1 (x8)) (g26 : x6 = pm_1) (f27 : BRB (pn_1) (pm_1) (rounds_1) (pt_1) (ph_1) (alive_1) (rotMany_1) (rot_1) (roundOf_1) (roundBegin_1) (roundDart_1)) (f29 : LNE (rounds_1) (line_1) (x4) (x5)) (fe_0_31_1 : pn_0 = pn_1) (fe_0_32_1 : pm_0 = pm_1) (fe_0_53_1 : rounds_0 = rounds_1) (hE_0_20_1 : ∀ j : Int, 0 ≤ j → (j = x13 → line_0 j = x19) ∧ (j ≠ x13 → line_0 j = line_1 j)) (hE_0_33_1 : ∀ j : Int, pt_0 j = pt_1 j) (hE_0_34_1 : ∀ j : Int, ph_0 j = ph_1 j) (hE_0_35_1 : ∀ j : Int, alive_0 j = alive_1 j) (hE_0_36_1 : ∀ j : Int, rotMany_0 j = rotMany_1 j) (hE_0_37_1 : ∀ j : Int, rot_0 j = rot_1 j) (hE_0_54_1 : ∀ j : Int, roundOf_0 j = roundOf_1 j) (hE_0_56_1 : ∀ j : Int, roundBegin_0 j = roundBegin_1 j) (hE_0_57_1 : ∀ j : Int, roundDart_0 j = roundDart_1 j) (hE_0_75_1 : ∀ j : Int, ny_0 j = ny_1 j) (kz_0_31 : 0 ≤ pn_0 ∧ pn_0 ≤ 25) (kz_0_32 : 0 ≤ pm_0 ∧ pm_0 ≤ 80) (kz_0_53 : 0 ≤ rounds_0 ∧ rounds_0 ≤ 160) : LNE (rounds_0) (line_0) (x4) (x20) := by
  subst fe_0_31_1
  subst fe_0_32_1
  subst fe_0_53_1
  have e_hE_0_33_1 := funext hE_0_33_1; subst e_hE_0_33_1
  have e_hE_0_34_1 := funext hE_0_34_1; subst e_hE_0_34_1
  have e_hE_0_35_1 := funext hE_0_35_1; subst e_hE_0_35_1
  have e_hE_0_36_1 := funext hE_0_36_1; subst e_hE_0_36_1
  have e_hE_0_37_1 := funext hE_0_37_1; subst e_hE_0_37_1
  have e_hE_0_54_1 := funext hE_0_54_1; subst e_hE_0_54_1
  have e_hE_0_56_1 := funext hE_0_56_1; subst e_hE_0_56_1
  have e_hE_0_57_1 := funext hE_0_57_1; subst e_hE_0_57_1
  have e_hE_0_75_1 := funext hE_0_75_1; subst e_hE_0_75_1
  first
    | exact lnb_le ‹LNR _ _ _› (by omega)
    | exact lnb_le ‹LNE _ _ _ _› (by omega)
    | (have hR := brb_R ‹BRB _ _ _ _ _ _ _ _ _ _ _›
       have r1 := brb_ro (d := x8) ‹BRB _ _ _ _ _ _ _ _ _ _ _› (by omega) (by omega)
       have hx : bvp x12 = bvp x10 ^^^ bvp 1 := by rw [← (by omega : x11 = 1)]; assumption
       have e1 := xor_1 hx (by omega) (by omega) (by omega) (by omega)
       have r2 := brb_ro (d := x12) ‹BRB _ _ _ _ _ _ _ _ _ _ _› (by omega) (by omega)
       have b1 := ‹LNE _ _ _ _› x9 (by omega) (by omega)
       have b2 := ‹LNE _ _ _ _› x13 (by omega) (by omega)
       exact lnb_step ‹LNE _ _ _ _› (by omega) (by assumption) (by omega) (by omega))
def o_Mo_bars_37 : or_T := (234, 21, [(0, (2, 0, 0, [165])), (2, (0, 3, 24, [])), (4, (0, 0, 159, [])), (5, (0, 1, 79, [])), (6, (0, 2, 80, [])), (7, (2, 0, 0, [196])), (8, (0, 1, 159, [])), (9, (0, 0, 99, [])), (10, (0, 0, 158, [])), (11, (0, 1, 1, [])), (12, (0, 0, 159, [])), (13, (0, 0, 99, [])), (14, (2, 0, 0, [175])), (15, (0, 0, 1000000, [])), (16, (0, -1000000, 1000000, [])), (17, (0, -1000000, 1000000, [])), (18, (0, 1, 1, [])), (19, (0, -999999, 1000000, [])), (20, (0, 2, 80, []))], [(6, [20, 5], [1]), (23, [10, 5], [1, 1, -2]), (23, [10, 5], [0, -1, 2]), (23, [8, 5], [1, 1, -2]), (23, [8, 5], [0, -1, 2]), (20, [0], [60, 3, 8, 316, 31, 32, 53, 33, 34, 35, 36, 37, 54, 56, 57]), (20, [2, 0], [50, 1, 0, 1031, 1, 2, 1, 0, 2, 1, 31]), (20, [0], [60, 1, 1, 786, 31, 75]), (100, [14, 13, 19], []), (7, [16, 19], [5]), (7, [19, 19], [5]), (1, [19, 17, 18], []), (10, [17, 14, 9], []), (9, [14, 0], [20]), (10, [16, 14, 13], []), (8, [15], [3]), (10, [15, 14, 9], []), (10, [13, 7, 12], []), (16, [12, 10, 11], [2]), (23, [10, 5], [1, 1, -2]), (23, [10, 5], [0, -1, 2]), (9, [7, 0], [54]), (10, [9, 7, 8], []), (23, [8, 5], [1, 1, -2]), (23, [8, 5], [0, -1, 2]), (7, [5, 6], [2]), (9, [6, 0], [32]), (20, [0], [60, 3, 8, 316, 31, 32, 53, 33, 34, 35, 36, 37, 54, 56, 57]), (20, [2, 0], [50, 1, 0, 1031, 1, 2, 1, 0, 2, 1, 31]), (20, [0, 4, 5], [60, 1, 1, 321, 53, 20]), (20, [0], [60, 1, 1, 786, 31, 75])], [], [], [(20, [0, 4, 20], [60, 1, 1, 321, 53, 20])], [], [(20, 5, 1, 1), (20, 6, -4294967296, 0), (16, 19, -4294967296, 0), (19, 17, 1, 1), (5, 6, -4294967296, -1)])
theorem oo_Mo_bars_37 {kA : Nat → ClassId} : or_ok PRD kA GG o_Mo_bars_37 := by
  refine or_mk fun A ta ws vs hD hth hl => ?_
  intro t0 r0 t2 k2 t4 k4 t5 k5 t6 k6 t7 r7 t8 k8 t9 k9 t10 k10 t11 k11 t12 k12 t13 k13 t14 r14 t15 k15 t16 k16 t17 k17 t18 k18 t19 k19 t20 k20 d0 d1 d2 d3 d4 f0 f1 f2 f3 f4 f5 f6 f7 ta1 w1 le1 s1 f9 f10 f11 f12 f13 f14 f15 f16 f17 f18 f19 f20 f21 f22 f23 f24 f25 f26 f27 f28 f29 f30
  have s1 : (∀ b j, w_el ws b j = if b = v_ad (n_v vs 14) ∧ j = (v_iv (n_v vs 13)).toNat then v_iv (n_v vs 19) else w_el w1 b j) ∧ ∀ b k, w_fd ws b k = w_fd w1 b k := s1.2
  replace f12 := shm_107 f12
  replace f13 := shm_740 f13
  replace f16 := shm_107 f16
  replace f17 := shm_107 f17
  replace f21 := shm_1122 f21
  replace f22 := shm_107 f22
  replace f26 := shm_525 f26
  replace f27 := shm_1123 f27
  replace f29 := shm_2289 f29
  have ar_0_20_1 : w_ar w1 (n_v vs 0) 20 = w_ar ws (n_v vs 0) 20 := congrArg v_ad (s1.2 _ _).symm
  have ar_0_33_1 : w_ar w1 (n_v vs 0) 33 = w_ar ws (n_v vs 0) 33 := congrArg v_ad (s1.2 _ _).symm
  have cr_0_33 := fdq_117 hD hth r0
  have ar_0_34_1 : w_ar w1 (n_v vs 0) 34 = w_ar ws (n_v vs 0) 34 := congrArg v_ad (s1.2 _ _).symm
  have cr_0_34 := fdq_118 hD hth r0
  have ar_0_35_1 : w_ar w1 (n_v vs 0) 35 = w_ar ws (n_v vs 0) 35 := congrArg v_ad (s1.2 _ _).symm
  have cr_0_35 := fdq_132 hD hth r0
  have ar_0_36_1 : w_ar w1 (n_v vs 0) 36 = w_ar ws (n_v vs 0) 36 := congrArg v_ad (s1.2 _ _).symm
  have cr_0_36 := fdq_167 hD hth r0
  have ar_0_37_1 : w_ar w1 (n_v vs 0) 37 = w_ar ws (n_v vs 0) 37 := congrArg v_ad (s1.2 _ _).symm
  have cr_0_37 := fdq_168 hD hth r0
  have ar_0_54_1 : w_ar w1 (n_v vs 0) 54 = w_ar ws (n_v vs 0) 54 := congrArg v_ad (s1.2 _ _).symm
  have cr_0_54 := fdq_272 hD hth r0
  have ar_0_56_1 : w_ar w1 (n_v vs 0) 56 = w_ar ws (n_v vs 0) 56 := congrArg v_ad (s1.2 _ _).symm
  have cr_0_56 := fdq_273 hD hth r0
  have ar_0_57_1 : w_ar w1 (n_v vs 0) 57 = w_ar ws (n_v vs 0) 57 := congrArg v_ad (s1.2 _ _).symm
  have cr_0_57 := fdq_274 hD hth r0
  have ar_0_75_1 : w_ar w1 (n_v vs 0) 75 = w_ar ws (n_v vs 0) 75 := congrArg v_ad (s1.2 _ _).symm
  have cr_0_75 := fdq_165 hD hth r0
  have ad_14 : v_ad (n_v vs 14) = w_ar ws (n_v vs 0) 20 := (congrArg v_ad f13).trans ar_0_20_1
  have ad_7 : v_ad (n_v vs 7) = w_ar ws (n_v vs 0) 54 := (congrArg v_ad f21).trans ar_0_54_1
  simp only [ad_14] at f12
  have h12 : v_iv (n_v vs 17) = w_ei w1 (w_ar ws (n_v vs 0) 20) (v_iv (n_v vs 9)) := f12
  simp only [ad_14] at f16
  have h16 : v_iv (n_v vs 15) = w_ei w1 (w_ar ws (n_v vs 0) 20) (v_iv (n_v vs 9)) := f16
  simp only [ad_7] at f17
  have h17 : v_iv (n_v vs 13) = w_ei w1 (w_ar ws (n_v vs 0) 54) (v_iv (n_v vs 12)) := f17
  simp only [ad_7] at f22
  have h22 : v_iv (n_v vs 9) = w_ei w1 (w_ar ws (n_v vs 0) 54) (v_iv (n_v vs 8)) := f22
  have g26 : v_iv (n_v vs 6) = w_fi w1 (n_v vs 0) 32 := congrArg v_iv f26
  simp only [ar_0_33_1, ar_0_34_1, ar_0_35_1, ar_0_36_1, ar_0_37_1, ar_0_54_1, ar_0_56_1, ar_0_57_1, ar_0_20_1, ar_0_75_1] at f27 f29
  have fe_0_31_1 : w_fi ws (n_v vs 0) 31 = w_fi w1 (n_v vs 0) 31 := congrArg v_iv (s1.2 _ _)
  have fe_0_32_1 : w_fi ws (n_v vs 0) 32 = w_fi w1 (n_v vs 0) 32 := congrArg v_iv (s1.2 _ _)
  have fe_0_53_1 : w_fi ws (n_v vs 0) 53 = w_fi w1 (n_v vs 0) 53 := congrArg v_iv (s1.2 _ _)
  have hE_0_20_1 : ∀ j : Int, 0 ≤ j → (j = v_iv (n_v vs 13) → w_ei ws (w_ar ws (n_v vs 0) 20) j = v_iv (n_v vs 19)) ∧ (j ≠ v_iv (n_v vs 13) → w_ei ws (w_ar ws (n_v vs 0) 20) j = w_ei w1 (w_ar ws (n_v vs 0) 20) j) := fun j hj => ⟨fun h => by unfold w_ei; rw [s1.1, if_pos ⟨ad_14.symm, by rw [h]⟩], fun h => by unfold w_ei; rw [s1.1, if_neg (fun e => h (by have := e.2; omega))]⟩
  have hE_0_33_1 : ∀ j : Int, w_ei ws (w_ar ws (n_v vs 0) 33) j = w_ei w1 (w_ar ws (n_v vs 0) 33) j := el_kp s1.1 r14 cr_0_33 (by decide)
  have hE_0_34_1 : ∀ j : Int, w_ei ws (w_ar ws (n_v vs 0) 34) j = w_ei w1 (w_ar ws (n_v vs 0) 34) j := el_kp s1.1 r14 cr_0_34 (by decide)
  have hE_0_35_1 : ∀ j : Int, w_ei ws (w_ar ws (n_v vs 0) 35) j = w_ei w1 (w_ar ws (n_v vs 0) 35) j := el_kp s1.1 r14 cr_0_35 (by decide)
  have hE_0_36_1 : ∀ j : Int, w_ei ws (w_ar ws (n_v vs 0) 36) j = w_ei w1 (w_ar ws (n_v vs 0) 36) j := el_kp s1.1 r14 cr_0_36 (by decide)
  have hE_0_37_1 : ∀ j : Int, w_ei ws (w_ar ws (n_v vs 0) 37) j = w_ei w1 (w_ar ws (n_v vs 0) 37) j := el_kp s1.1 r14 cr_0_37 (by decide)
  have hE_0_54_1 : ∀ j : Int, w_ei ws (w_ar ws (n_v vs 0) 54) j = w_ei w1 (w_ar ws (n_v vs 0) 54) j := el_kp s1.1 r14 cr_0_54 (by decide)
  have hE_0_56_1 : ∀ j : Int, w_ei ws (w_ar ws (n_v vs 0) 56) j = w_ei w1 (w_ar ws (n_v vs 0) 56) j := el_kp s1.1 r14 cr_0_56 (by decide)
  have hE_0_57_1 : ∀ j : Int, w_ei ws (w_ar ws (n_v vs 0) 57) j = w_ei w1 (w_ar ws (n_v vs 0) 57) j := el_kp s1.1 r14 cr_0_57 (by decide)
  have hE_0_75_1 : ∀ j : Int, w_ei ws (w_ar ws (n_v vs 0) 75) j = w_ei w1 (w_ar ws (n_v vs 0) 75) j := el_kp s1.1 r14 cr_0_75 (by decide)
  have kz_0_31 := fdq_145 hD hth r0
  have kz_0_32 := fdq_140 hD hth r0
  have kz_0_53 := fdq_275 hD hth r0
  have nf0 : fc_1 PRD (20, [0, 4, 20], [60, 1, 1, 321, 53, 20]) ws (vs) := ⟨nf_in hl rfl, sgq_2289 (vc_Mo_bars_37_0 (v_iv (n_v vs 4)) (v_iv (n_v vs 5)) (v_iv (n_v vs 6)) (v_iv (n_v vs 8)) (v_iv (n_v vs 9)) (v_iv (n_v vs 10)) (v_iv (n_v vs 11)) (v_iv (n_v vs 12)) (v_iv (n_v vs 13)) (v_iv (n_v vs 15)) (v_iv (n_v vs 17)) (v_iv (n_v vs 19)) (v_iv (n_v vs 20)) (w_ei ws (w_ar ws (n_v vs 0) 33)) (w_ei ws (w_ar ws (n_v vs 0) 34)) (w_ei ws (w_ar ws (n_v vs 0) 35)) (w_ei ws (w_ar ws (n_v vs 0) 36)) (w_ei ws (w_ar ws (n_v vs 0) 37)) (w_ei ws (w_ar ws (n_v vs 0) 54)) (w_ei ws (w_ar ws (n_v vs 0) 56)) (w_ei ws (w_ar ws (n_v vs 0) 57)) (w_fi ws (n_v vs 0) 31) (w_fi ws (n_v vs 0) 32) (w_fi ws (n_v vs 0) 53) (w_ei ws (w_ar ws (n_v vs 0) 75)) (w_ei w1 (w_ar ws (n_v vs 0) 20)) (w_ei w1 (w_ar ws (n_v vs 0) 54)) (w_fi w1 (n_v vs 0) 32) (w_ei w1 (w_ar ws (n_v vs 0) 33)) (w_ei w1 (w_ar ws (n_v vs 0) 34)) (w_ei w1 (w_ar ws (n_v vs 0) 35)) (w_ei w1 (w_ar ws (n_v vs 0) 36)) (w_ei w1 (w_ar ws (n_v vs 0) 37)) (w_ei w1 (w_ar ws (n_v vs 0) 56)) (w_ei w1 (w_ar ws (n_v vs 0) 57)) (w_fi w1 (n_v vs 0) 31) (w_fi w1 (n_v vs 0) 53) (w_ei w1 (w_ar ws (n_v vs 0) 75)) (w_ei ws (w_ar ws (n_v vs 0) 20)) k4 k5 k6 k8 k9 k10 k11 k12 k13 k15 k17 k19 k20 d0 d1 d3 d4 (shm_143 f1) (shm_144 f2) (shm_143 f3) (shm_144 f4) h12 h16 h17 (shm_33 f18) h22 g26 f27 f29 fe_0_31_1 fe_0_32_1 fe_0_53_1 hE_0_20_1 hE_0_33_1 hE_0_34_1 hE_0_35_1 hE_0_36_1 hE_0_37_1 hE_0_54_1 hE_0_56_1 hE_0_57_1 hE_0_75_1 kz_0_31 kz_0_32 kz_0_53)⟩
  refine ⟨(fun _ h => (by cases h)), [], trivial, ?_, (fun _ h => (by cases h))⟩
  rw [List.append_nil]
  exact List.forall_mem_cons.mpr ⟨⟨show (20 : Nat) < 100 from by decide, nf0⟩, (fun _ h => (by cases h))⟩
set_option maxHeartbeats 4000000 in
theorem vc_Mo_bars_38_0 (x4 : Int) (x5 : Int) (x6 : Int) (x8 : Int) (x9 : Int) (x10 : Int) (x11 : Int) (x12 : Int) (x13 : Int) (x16 : Int) (x20 : Int) (pt_0 : Int → Int) (ph_0 : Int → Int) (alive_0 : Int → Int) (rotMany_0 : Int → Int) (rot_0 : Int → Int) (roundOf_0 : Int → Int) (roundBegin_0 : Int → Int) (roundDart_0 : Int → Int) (pn_0 : Int) (pm_0 : Int) (rounds_0 : Int) (ny_0 : Int → Int) (line_1 : Int → Int) (roundOf_1 : Int → Int) (pm_1 : Int) (pt_1 : Int → Int) (ph_1 : Int → Int) (alive_1 : Int → Int) (rotMany_1 : Int → Int) (rot_1 : Int → Int) (roundBegin_1 : Int → Int) (roundDart_1 : Int → Int) (pn_1 : Int) (rounds_1 : Int) (ny_1 : Int → Int) (line_0 : Int → Int) (k4 : 0 ≤ x4 ∧ x4 ≤ 159) (k5 : 1 ≤ x5 ∧ x5 ≤ 79) (k6 : 2 ≤ x6 ∧ x6 ≤ 80) (k8 : 1 ≤ x8 ∧ x8 ≤ 159) (k9 : 0 ≤ x9 ∧ x9 ≤ 99) (k10 : 0 ≤ x10 ∧ x10 ≤ 158) (k11 : 1 ≤ x11 ∧ x11 ≤ 1) (k12 : 0 ≤ x12 ∧ x12 ≤ 159) (k13 : 0 ≤ x13 ∧ x13 ≤ 99) (k16 : (-999998) ≤ x16 ∧ x16 ≤ 1000000) (k20 : 2 ≤ x20 ∧ x20 ≤ 80) (d0 : x5 + 1 ≤ x20 ∧ x20 ≤ x5 + 1) (d1 : x6 + (-4294967296) ≤ x20 ∧ x20 ≤ x6 + 0) (d4 : x6 + (-4294967296) ≤ x5 ∧ x5 ≤ x6 + (-1)) (f1 : 1 * x10 + ((-2) * x5 + 0) ≤ 1) (f2 : (-1) * x10 + (2 * x5 + 0) ≤ 0) (f3 : 1 * x8 + ((-2) * x5 + 0) ≤ 1) (f4 : (-1) * x8 + (2 * x5 + 0) ≤ 0) (h14 : x16 = line_1 (x13)) (h17 : x13 = roundOf_1 (x12)) (f18 : bvp (x12) = bvp (x10) ^^^ bvp (x11)) (h22 : x9 = roundOf_1 (x8)) (g26 : x6 = pm_1) (f27 : BRB (pn_1) (pm_1) (rounds_1) (pt_1) (ph_1) (alive_1) (rotMany_1) (rot_1) (roundOf_1) (roundBegin_1) (roundDart_1)) (f29 : LNE (rounds_1) (line_1) (x4) (x5)) (fe_0_31_1 : pn_0 = pn_1) (fe_0_32_1 : pm_0 = pm_1) (fe_0_53_1 : rounds_0 = rounds_1) (hE_0_20_1 : ∀ j : Int, 0 ≤ j → (j = x13 → line_0 j = x16) ∧ (j ≠ x13 → line_0 j = line_1 j)) (hE_0_33_1 : ∀ j : Int, pt_0 j = pt_1 j) (hE_0_34_1 : ∀ j : Int, ph_0 j = ph_1 j) (hE_0_35_1 : ∀ j : Int, alive_0 j = alive_1 j) (hE_0_36_1 : ∀ j : Int, rotMany_0 j = rotMany_1 j) (hE_0_37_1 : ∀ j : Int, rot_0 j = rot_1 j) (hE_0_54_1 : ∀ j : Int, roundOf_0 j = roundOf_1 j) (hE_0_56_1 : ∀ j : Int, roundBegin_0 j = roundBegin_1 j) (hE_0_57_1 : ∀ j : Int, roundDart_0 j = roundDart_1 j) (hE_0_75_1 : ∀ j : Int, ny_0 j = ny_1 j) (kz_0_31 : 0 ≤ pn_0 ∧ pn_0 ≤ 25) (kz_0_32 : 0 ≤ pm_0 ∧ pm_0 ≤ 80) (kz_0_53 : 0 ≤ rounds_0 ∧ rounds_0 ≤ 160) : LNE (rounds_0) (line_0) (x4) (x20) := by
  subst fe_0_31_1
  subst fe_0_32_1
  subst fe_0_53_1
  have e_hE_0_33_1 := funext hE_0_33_1; subst e_hE_0_33_1
  have e_hE_0_34_1 := funext hE_0_34_1; subst e_hE_0_34_1
  have e_hE_0_35_1 := funext hE_0_35_1; subst e_hE_0_35_1
  have e_hE_0_36_1 := funext hE_0_36_1; subst e_hE_0_36_1
  have e_hE_0_37_1 := funext hE_0_37_1; subst e_hE_0_37_1
  have e_hE_0_54_1 := funext hE_0_54_1; subst e_hE_0_54_1
  have e_hE_0_56_1 := funext hE_0_56_1; subst e_hE_0_56_1
  have e_hE_0_57_1 := funext hE_0_57_1; subst e_hE_0_57_1
  have e_hE_0_75_1 := funext hE_0_75_1; subst e_hE_0_75_1
  first
    | exact lnb_le ‹LNR _ _ _› (by omega)
    | exact lnb_le ‹LNE _ _ _ _› (by omega)
    | (have hR := brb_R ‹BRB _ _ _ _ _ _ _ _ _ _ _›
       have r1 := brb_ro (d := x8) ‹BRB _ _ _ _ _ _ _ _ _ _ _› (by omega) (by omega)
       have hx : bvp x12 = bvp x10 ^^^ bvp 1 := by rw [← (by omega : x11 = 1)]; assumption
       have e1 := xor_1 hx (by omega) (by omega) (by omega) (by omega)
       have r2 := brb_ro (d := x12) ‹BRB _ _ _ _ _ _ _ _ _ _ _› (by omega) (by omega)
       have b1 := ‹LNE _ _ _ _› x9 (by omega) (by omega)
       have b2 := ‹LNE _ _ _ _› x13 (by omega) (by omega)
       exact lnb_step ‹LNE _ _ _ _› (by omega) (by assumption) (by omega) (by omega))
def o_Mo_bars_38 : or_T := (234, 21, [(0, (2, 0, 0, [165])), (2, (0, 3, 24, [])), (4, (0, 0, 159, [])), (5, (0, 1, 79, [])), (6, (0, 2, 80, [])), (7, (2, 0, 0, [196])), (8, (0, 1, 159, [])), (9, (0, 0, 99, [])), (10, (0, 0, 158, [])), (11, (0, 1, 1, [])), (12, (0, 0, 159, [])), (13, (0, 0, 99, [])), (14, (2, 0, 0, [175])), (15, (0, 0, 1000000, [])), (16, (0, -999998, 1000000, [])), (17, (0, -1000000, 1000000, [])), (18, (0, 1, 1, [])), (19, (0, -999999, 999999, [])), (20, (0, 2, 80, []))], [(6, [20, 5], [1]), (23, [10, 5], [1, 1, -2]), (23, [10, 5], [0, -1, 2]), (23, [8, 5], [1, 1, -2]), (23, [8, 5], [0, -1, 2]), (20, [0], [60, 3, 8, 316, 31, 32, 53, 33, 34, 35, 36, 37, 54, 56, 57]), (20, [2, 0], [50, 1, 0, 1031, 1, 2, 1, 0, 2, 1, 31]), (20, [0], [60, 1, 1, 786, 31, 75]), (100, [14, 13, 16], []), (7, [16, 16], [5]), (7, [19, 16], [5]), (1, [19, 17, 18], []), (10, [17, 14, 9], []), (9, [14, 0], [20]), (10, [16, 14, 13], []), (8, [15], [3]), (10, [15, 14, 9], []), (10, [13, 7, 12], []), (16, [12, 10, 11], [2]), (23, [10, 5], [1, 1, -2]), (23, [10, 5], [0, -1, 2]), (9, [7, 0], [54]), (10, [9, 7, 8], []), (23, [8, 5], [1, 1, -2]), (23, [8, 5], [0, -1, 2]), (7, [5, 6], [2]), (9, [6, 0], [32]), (20, [0], [60, 3, 8, 316, 31, 32, 53, 33, 34, 35, 36, 37, 54, 56, 57]), (20, [2, 0], [50, 1, 0, 1031, 1, 2, 1, 0, 2, 1, 31]), (20, [0, 4, 5], [60, 1, 1, 321, 53, 20]), (20, [0], [60, 1, 1, 786, 31, 75])], [], [], [(20, [0, 4, 20], [60, 1, 1, 321, 53, 20])], [], [(20, 5, 1, 1), (20, 6, -4294967296, 0), (16, 19, 1, 4294967296), (19, 17, 1, 1), (5, 6, -4294967296, -1)])
theorem oo_Mo_bars_38 {kA : Nat → ClassId} : or_ok PRD kA GG o_Mo_bars_38 := by
  refine or_mk fun A ta ws vs hD hth hl => ?_
  intro t0 r0 t2 k2 t4 k4 t5 k5 t6 k6 t7 r7 t8 k8 t9 k9 t10 k10 t11 k11 t12 k12 t13 k13 t14 r14 t15 k15 t16 k16 t17 k17 t18 k18 t19 k19 t20 k20 d0 d1 d2 d3 d4 f0 f1 f2 f3 f4 f5 f6 f7 ta1 w1 le1 s1 f9 f10 f11 f12 f13 f14 f15 f16 f17 f18 f19 f20 f21 f22 f23 f24 f25 f26 f27 f28 f29 f30
  have s1 : (∀ b j, w_el ws b j = if b = v_ad (n_v vs 14) ∧ j = (v_iv (n_v vs 13)).toNat then v_iv (n_v vs 16) else w_el w1 b j) ∧ ∀ b k, w_fd ws b k = w_fd w1 b k := s1.2
  replace f13 := shm_740 f13
  replace f14 := shm_107 f14
  replace f17 := shm_107 f17
  replace f21 := shm_1122 f21
  replace f22 := shm_107 f22
  replace f26 := shm_525 f26
  replace f27 := shm_1123 f27
  replace f29 := shm_2289 f29
  have ar_0_20_1 : w_ar w1 (n_v vs 0) 20 = w_ar ws (n_v vs 0) 20 := congrArg v_ad (s1.2 _ _).symm
  have ar_0_33_1 : w_ar w1 (n_v vs 0) 33 = w_ar ws (n_v vs 0) 33 := congrArg v_ad (s1.2 _ _).symm
  have cr_0_33 := fdq_117 hD hth r0
  have ar_0_34_1 : w_ar w1 (n_v vs 0) 34 = w_ar ws (n_v vs 0) 34 := congrArg v_ad (s1.2 _ _).symm
  have cr_0_34 := fdq_118 hD hth r0
  have ar_0_35_1 : w_ar w1 (n_v vs 0) 35 = w_ar ws (n_v vs 0) 35 := congrArg v_ad (s1.2 _ _).symm
  have cr_0_35 := fdq_132 hD hth r0
  have ar_0_36_1 : w_ar w1 (n_v vs 0) 36 = w_ar ws (n_v vs 0) 36 := congrArg v_ad (s1.2 _ _).symm
  have cr_0_36 := fdq_167 hD hth r0
  have ar_0_37_1 : w_ar w1 (n_v vs 0) 37 = w_ar ws (n_v vs 0) 37 := congrArg v_ad (s1.2 _ _).symm
  have cr_0_37 := fdq_168 hD hth r0
  have ar_0_54_1 : w_ar w1 (n_v vs 0) 54 = w_ar ws (n_v vs 0) 54 := congrArg v_ad (s1.2 _ _).symm
  have cr_0_54 := fdq_272 hD hth r0
  have ar_0_56_1 : w_ar w1 (n_v vs 0) 56 = w_ar ws (n_v vs 0) 56 := congrArg v_ad (s1.2 _ _).symm
  have cr_0_56 := fdq_273 hD hth r0
  have ar_0_57_1 : w_ar w1 (n_v vs 0) 57 = w_ar ws (n_v vs 0) 57 := congrArg v_ad (s1.2 _ _).symm
  have cr_0_57 := fdq_274 hD hth r0
  have ar_0_75_1 : w_ar w1 (n_v vs 0) 75 = w_ar ws (n_v vs 0) 75 := congrArg v_ad (s1.2 _ _).symm
  have cr_0_75 := fdq_165 hD hth r0
  have ad_14 : v_ad (n_v vs 14) = w_ar ws (n_v vs 0) 20 := (congrArg v_ad f13).trans ar_0_20_1
  have ad_7 : v_ad (n_v vs 7) = w_ar ws (n_v vs 0) 54 := (congrArg v_ad f21).trans ar_0_54_1
  simp only [ad_14] at f14
  have h14 : v_iv (n_v vs 16) = w_ei w1 (w_ar ws (n_v vs 0) 20) (v_iv (n_v vs 13)) := f14
  simp only [ad_7] at f17
  have h17 : v_iv (n_v vs 13) = w_ei w1 (w_ar ws (n_v vs 0) 54) (v_iv (n_v vs 12)) := f17
  simp only [ad_7] at f22
  have h22 : v_iv (n_v vs 9) = w_ei w1 (w_ar ws (n_v vs 0) 54) (v_iv (n_v vs 8)) := f22
  have g26 : v_iv (n_v vs 6) = w_fi w1 (n_v vs 0) 32 := congrArg v_iv f26
  simp only [ar_0_33_1, ar_0_34_1, ar_0_35_1, ar_0_36_1, ar_0_37_1, ar_0_54_1, ar_0_56_1, ar_0_57_1, ar_0_20_1, ar_0_75_1] at f27 f29
  have fe_0_31_1 : w_fi ws (n_v vs 0) 31 = w_fi w1 (n_v vs 0) 31 := congrArg v_iv (s1.2 _ _)
  have fe_0_32_1 : w_fi ws (n_v vs 0) 32 = w_fi w1 (n_v vs 0) 32 := congrArg v_iv (s1.2 _ _)
  have fe_0_53_1 : w_fi ws (n_v vs 0) 53 = w_fi w1 (n_v vs 0) 53 := congrArg v_iv (s1.2 _ _)
  have hE_0_20_1 : ∀ j : Int, 0 ≤ j → (j = v_iv (n_v vs 13) → w_ei ws (w_ar ws (n_v vs 0) 20) j = v_iv (n_v vs 16)) ∧ (j ≠ v_iv (n_v vs 13) → w_ei ws (w_ar ws (n_v vs 0) 20) j = w_ei w1 (w_ar ws (n_v vs 0) 20) j) := fun j hj => ⟨fun h => by unfold w_ei; rw [s1.1, if_pos ⟨ad_14.symm, by rw [h]⟩], fun h => by unfold w_ei; rw [s1.1, if_neg (fun e => h (by have := e.2; omega))]⟩
  have hE_0_33_1 : ∀ j : Int, w_ei ws (w_ar ws (n_v vs 0) 33) j = w_ei w1 (w_ar ws (n_v vs 0) 33) j := el_kp s1.1 r14 cr_0_33 (by decide)
  have hE_0_34_1 : ∀ j : Int, w_ei ws (w_ar ws (n_v vs 0) 34) j = w_ei w1 (w_ar ws (n_v vs 0) 34) j := el_kp s1.1 r14 cr_0_34 (by decide)
  have hE_0_35_1 : ∀ j : Int, w_ei ws (w_ar ws (n_v vs 0) 35) j = w_ei w1 (w_ar ws (n_v vs 0) 35) j := el_kp s1.1 r14 cr_0_35 (by decide)
  have hE_0_36_1 : ∀ j : Int, w_ei ws (w_ar ws (n_v vs 0) 36) j = w_ei w1 (w_ar ws (n_v vs 0) 36) j := el_kp s1.1 r14 cr_0_36 (by decide)
  have hE_0_37_1 : ∀ j : Int, w_ei ws (w_ar ws (n_v vs 0) 37) j = w_ei w1 (w_ar ws (n_v vs 0) 37) j := el_kp s1.1 r14 cr_0_37 (by decide)
  have hE_0_54_1 : ∀ j : Int, w_ei ws (w_ar ws (n_v vs 0) 54) j = w_ei w1 (w_ar ws (n_v vs 0) 54) j := el_kp s1.1 r14 cr_0_54 (by decide)
  have hE_0_56_1 : ∀ j : Int, w_ei ws (w_ar ws (n_v vs 0) 56) j = w_ei w1 (w_ar ws (n_v vs 0) 56) j := el_kp s1.1 r14 cr_0_56 (by decide)
  have hE_0_57_1 : ∀ j : Int, w_ei ws (w_ar ws (n_v vs 0) 57) j = w_ei w1 (w_ar ws (n_v vs 0) 57) j := el_kp s1.1 r14 cr_0_57 (by decide)
  have hE_0_75_1 : ∀ j : Int, w_ei ws (w_ar ws (n_v vs 0) 75) j = w_ei w1 (w_ar ws (n_v vs 0) 75) j := el_kp s1.1 r14 cr_0_75 (by decide)
  have kz_0_31 := fdq_145 hD hth r0
  have kz_0_32 := fdq_140 hD hth r0
  have kz_0_53 := fdq_275 hD hth r0
  have nf0 : fc_1 PRD (20, [0, 4, 20], [60, 1, 1, 321, 53, 20]) ws (vs) := ⟨nf_in hl rfl, sgq_2289 (vc_Mo_bars_38_0 (v_iv (n_v vs 4)) (v_iv (n_v vs 5)) (v_iv (n_v vs 6)) (v_iv (n_v vs 8)) (v_iv (n_v vs 9)) (v_iv (n_v vs 10)) (v_iv (n_v vs 11)) (v_iv (n_v vs 12)) (v_iv (n_v vs 13)) (v_iv (n_v vs 16)) (v_iv (n_v vs 20)) (w_ei ws (w_ar ws (n_v vs 0) 33)) (w_ei ws (w_ar ws (n_v vs 0) 34)) (w_ei ws (w_ar ws (n_v vs 0) 35)) (w_ei ws (w_ar ws (n_v vs 0) 36)) (w_ei ws (w_ar ws (n_v vs 0) 37)) (w_ei ws (w_ar ws (n_v vs 0) 54)) (w_ei ws (w_ar ws (n_v vs 0) 56)) (w_ei ws (w_ar ws (n_v vs 0) 57)) (w_fi ws (n_v vs 0) 31) (w_fi ws (n_v vs 0) 32) (w_fi ws (n_v vs 0) 53) (w_ei ws (w_ar ws (n_v vs 0) 75)) (w_ei w1 (w_ar ws (n_v vs 0) 20)) (w_ei w1 (w_ar ws (n_v vs 0) 54)) (w_fi w1 (n_v vs 0) 32) (w_ei w1 (w_ar ws (n_v vs 0) 33)) (w_ei w1 (w_ar ws (n_v vs 0) 34)) (w_ei w1 (w_ar ws (n_v vs 0) 35)) (w_ei w1 (w_ar ws (n_v vs 0) 36)) (w_ei w1 (w_ar ws (n_v vs 0) 37)) (w_ei w1 (w_ar ws (n_v vs 0) 56)) (w_ei w1 (w_ar ws (n_v vs 0) 57)) (w_fi w1 (n_v vs 0) 31) (w_fi w1 (n_v vs 0) 53) (w_ei w1 (w_ar ws (n_v vs 0) 75)) (w_ei ws (w_ar ws (n_v vs 0) 20)) k4 k5 k6 k8 k9 k10 k11 k12 k13 k16 k20 d0 d1 d4 (shm_143 f1) (shm_144 f2) (shm_143 f3) (shm_144 f4) h14 h17 (shm_33 f18) h22 g26 f27 f29 fe_0_31_1 fe_0_32_1 fe_0_53_1 hE_0_20_1 hE_0_33_1 hE_0_34_1 hE_0_35_1 hE_0_36_1 hE_0_37_1 hE_0_54_1 hE_0_56_1 hE_0_57_1 hE_0_75_1 kz_0_31 kz_0_32 kz_0_53)⟩
  refine ⟨(fun _ h => (by cases h)), [], trivial, ?_, (fun _ h => (by cases h))⟩
  rw [List.append_nil]
  exact List.forall_mem_cons.mpr ⟨⟨show (20 : Nat) < 100 from by decide, nf0⟩, (fun _ h => (by cases h))⟩
set_option maxHeartbeats 4000000 in
theorem vc_Mo_bars_39_r0 (x6 : Int) (x8 : Int) (x9 : Int) (x10 : Int) (x11 : Int) (x12 : Int) (roundOf_0 : Int → Int) (pm_0 : Int) (pt_0 : Int → Int) (ph_0 : Int → Int) (alive_0 : Int → Int) (rotMany_0 : Int → Int) (rot_0 : Int → Int) (roundBegin_0 : Int → Int) (roundDart_0 : Int → Int) (pn_0 : Int) (rounds_0 : Int) (k10 : 1 ≤ x10 ∧ x10 ≤ 159) (k11 : 1 ≤ x11 ∧ x11 ≤ 1) (k12 : 0 ≤ x12 ∧ x12 ≤ 255) (f0 : bvp (x12) = bvp (x10) ^^^ bvp (x11)) (f9 : BRB (pn_0) (pm_0) (rounds_0) (pt_0) (ph_0) (alive_0) (rotMany_0) (rot_0) (roundOf_0) (roundBegin_0) (roundDart_0)) (kz_0_31 : 0 ≤ pn_0 ∧ pn_0 ≤ 25) (kz_0_32 : 0 ≤ pm_0 ∧ pm_0 ≤ 80) (kz_0_53 : 0 ≤ rounds_0 ∧ rounds_0 ≤ 160) : 0 ≤ x12 ∧ x12 ≤ 159 := by
  first
    | omega
    | (have hR := brb_R ‹BRB _ _ _ _ _ _ _ _ _ _ _›; omega)
    | (have hR := brb_R ‹BRB _ _ _ _ _ _ _ _ _ _ _›
       have hx : bvp x8 = bvp x6 ^^^ bvp 1 := by rw [← (by omega : x7 = 1)]; assumption
       have e1 := xor_1 hx (by omega) (by omega) (by omega) (by omega)
       omega)
    | (have hR := brb_R ‹BRB _ _ _ _ _ _ _ _ _ _ _›
       have hx : bvp x12 = bvp x10 ^^^ bvp 1 := by rw [← (by omega : x11 = 1)]; assumption
       have e1 := xor_1 hx (by omega) (by omega) (by omega) (by omega)
       omega)
    | (have hR := brb_R ‹BRB _ _ _ _ _ _ _ _ _ _ _›
       have r1 := brb_ro (d := x8) ‹BRB _ _ _ _ _ _ _ _ _ _ _› (by omega) (by omega)
       omega)
    | (have hR := brb_R ‹BRB _ _ _ _ _ _ _ _ _ _ _›
       have r1 := brb_ro (d := x8) ‹BRB _ _ _ _ _ _ _ _ _ _ _› (by omega) (by omega)
       have hx : bvp x12 = bvp x10 ^^^ bvp 1 := by rw [← (by omega : x11 = 1)]; assumption
       have e1 := xor_1 hx (by omega) (by omega) (by omega) (by omega)
       have r2 := brb_ro (d := x12) ‹BRB _ _ _ _ _ _ _ _ _ _ _› (by omega) (by omega)
       omega)
    | (have hR := brb_R ‹BRB _ _ _ _ _ _ _ _ _ _ _›
       have r1 := brb_ro (d := x8) ‹BRB _ _ _ _ _ _ _ _ _ _ _› (by omega) (by omega)
       have hx : bvp x12 = bvp x10 ^^^ bvp 1 := by rw [← (by omega : x11 = 1)]; assumption
       have e1 := xor_1 hx (by omega) (by omega) (by omega) (by omega)
       have r2 := brb_ro (d := x12) ‹BRB _ _ _ _ _ _ _ _ _ _ _› (by omega) (by omega)
       have b1 := ‹LNE _ _ _ _› x9 (by omega) (by omega)
       have b2 := ‹LNE _ _ _ _› x13 (by omega) (by omega)
       omega)
    | (have h := ‹PLN _ _ _ _ _ _ _›
       have h1 := h.2.1
       simp only [Int.add_zero] at *
       omega)
def o_Mo_bars_39 : or_T := (268, 13, [(0, (2, 0, 0, [165])), (2, (0, 3, 24, [])), (4, (0, 0, 159, [])), (5, (0, 1, 79, [])), (6, (0, 2, 80, [])), (7, (2, 0, 0, [196])), (8, (0, 0, 158, [])), (9, (0, -1, 159, [])), (10, (0, 1, 159, [])), (11, (0, 1, 1, [])), (12, (0, 0, 255, []))], [(16, [12, 10, 11], [2]), (23, [10, 5], [1, 1, -2]), (23, [10, 5], [0, -1, 2]), (9, [7, 0], [54]), (10, [9, 7, 8], []), (23, [8, 5], [1, 1, -2]), (23, [8, 5], [0, -1, 2]), (7, [5, 6], [2]), (9, [6, 0], [32]), (20, [0], [60, 3, 8, 316, 31, 32, 53, 33, 34, 35, 36, 37, 54, 56, 57]), (20, [2, 0], [50, 1, 0, 1031, 1, 2, 1, 0, 2, 1, 31]), (20, [0, 4, 5], [60, 1, 1, 321, 53, 20]), (20, [0], [60, 1, 1, 786, 31, 75])], [(12, (0, 0, 159, []))], [], [], [], [(5, 6, -4294967296, -1)])
theorem oo_Mo_bars_39 {kA : Nat → ClassId} : or_ok PRD kA GG o_Mo_bars_39 := by
  refine or_mk fun A ta ws vs hD hth hl => ?_
  intro t0 r0 t2 k2 t4 k4 t5 k5 t6 k6 t7 r7 t8 k8 t9 k9 t10 k10 t11 k11 t12 k12 d0 f0 f1 f2 f3 f4 f5 f6 f7 f8 f9 f10 f11 f12
  have kz_0_31 := fdq_145 hD hth r0
  have kz_0_32 := fdq_140 hD hth r0
  have kz_0_53 := fdq_275 hD hth r0
  have hrf0 : 0 ≤ v_iv (n_v vs 12) ∧ v_iv (n_v vs 12) ≤ 159 := vc_Mo_bars_39_r0 (v_iv (n_v vs 6)) (v_iv (n_v vs 8)) (v_iv (n_v vs 9)) (v_iv (n_v vs 10)) (v_iv (n_v vs 11)) (v_iv (n_v vs 12)) (w_ei ws (w_ar ws (n_v vs 0) 54)) (w_fi ws (n_v vs 0) 32) (w_ei ws (w_ar ws (n_v vs 0) 33)) (w_ei ws (w_ar ws (n_v vs 0) 34)) (w_ei ws (w_ar ws (n_v vs 0) 35)) (w_ei ws (w_ar ws (n_v vs 0) 36)) (w_ei ws (w_ar ws (n_v vs 0) 37)) (w_ei ws (w_ar ws (n_v vs 0) 56)) (w_ei ws (w_ar ws (n_v vs 0) 57)) (w_fi ws (n_v vs 0) 31) (w_fi ws (n_v vs 0) 53) k10 k11 k12 (shm_33 f0) (shm_1123 f9) kz_0_31 kz_0_32 kz_0_53
  have rf12 : tv_ok ta (0, 0, 159, []) (n_v vs 12) := tv_in t12 (by first | omega | grind) (by first | omega | grind)
  refine ⟨List.forall_mem_cons.mpr ⟨rf12, (fun _ h => (by cases h))⟩, [], trivial, ?_, (fun _ h => (by cases h))⟩
  rw [List.append_nil]
  exact (fun _ h => (by cases h))
set_option maxHeartbeats 4000000 in
theorem vc_Mo_bars_40_r0 (x5 : Int) (x6 : Int) (x8 : Int) (x9 : Int) (x10 : Int) (x11 : Int) (x12 : Int) (x13 : Int) (roundOf_0 : Int → Int) (pm_0 : Int) (pt_0 : Int → Int) (ph_0 : Int → Int) (alive_0 : Int → Int) (rotMany_0 : Int → Int) (rot_0 : Int → Int) (roundBegin_0 : Int → Int) (roundDart_0 : Int → Int) (pn_0 : Int) (rounds_0 : Int) (k5 : 1 ≤ x5 ∧ x5 ≤ 79) (k6 : 2 ≤ x6 ∧ x6 ≤ 80) (k8 : 0 ≤ x8 ∧ x8 ≤ 158) (k9 : (-1) ≤ x9 ∧ x9 ≤ 159) (k12 : 0 ≤ x12 ∧ x12 ≤ 159) (k13 : (-1) ≤ x13 ∧ x13 ≤ 159) (d0 : x6 + (-4294967296) ≤ x5 ∧ x5 ≤ x6 + (-1)) (h1 : x13 = roundOf_0 (x12)) (h6 : x9 = roundOf_0 (x8)) (f7 : 1 * x8 + ((-2) * x5 + 0) ≤ 1) (f8 : (-1) * x8 + (2 * x5 + 0) ≤ 0) (g10 : x6 = pm_0) (f11 : BRB (pn_0) (pm_0) (rounds_0) (pt_0) (ph_0) (alive_0) (rotMany_0) (rot_0) (roundOf_0) (roundBegin_0) (roundDart_0)) (kz_0_31 : 0 ≤ pn_0 ∧ pn_0 ≤ 25) (kz_0_32 : 0 ≤ pm_0 ∧ pm_0 ≤ 80) (kz_0_53 : 0 ≤ rounds_0 ∧ rounds_0 ≤ 160) : 0 ≤ x9 ∧ x9 ≤ 99 := by
  first
    | omega
    | (have hR := brb_R ‹BRB _ _ _ _ _ _ _ _ _ _ _›; omega)
    | (have hR := brb_R ‹BRB _ _ _ _ _ _ _ _ _ _ _›
       have hx : bvp x8 = bvp x6 ^^^ bvp 1 := by rw [← (by omega : x7 = 1)]; assumption
       have e1 := xor_1 hx (by omega) (by omega) (by omega) (by omega)
       omega)
    | (have hR := brb_R ‹BRB _ _ _ _ _ _ _ _ _ _ _›
       have hx : bvp x12 = bvp x10 ^^^ bvp 1 := by rw [← (by omega : x11 = 1)]; assumption
       have e1 := xor_1 hx (by omega) (by omega) (by omega) (by omega)
       omega)
    | (have hR := brb_R ‹BRB _ _ _ _ _ _ _ _ _ _ _›
       have r1 := brb_ro (d := x8) ‹BRB _ _ _ _ _ _ _ _ _ _ _› (by omega) (by omega)
       omega)
    | (have hR := brb_R ‹BRB _ _ _ _ _ _ _ _ _ _ _›
       have r1 := brb_ro (d := x8) ‹BRB _ _ _ _ _ _ _ _ _ _ _› (by omega) (by omega)
       have hx : bvp x12 = bvp x10 ^^^ bvp 1 := by rw [← (by omega : x11 = 1)]; assumption
       have e1 := xor_1 hx (by omega) (by omega) (by omega) (by omega)
       have r2 := brb_ro (d := x12) ‹BRB _ _ _ _ _ _ _ _ _ _ _› (by omega) (by omega)
       omega)
    | (have hR := brb_R ‹BRB _ _ _ _ _ _ _ _ _ _ _›
       have r1 := brb_ro (d := x8) ‹BRB _ _ _ _ _ _ _ _ _ _ _› (by omega) (by omega)
       have hx : bvp x12 = bvp x10 ^^^ bvp 1 := by rw [← (by omega : x11 = 1)]; assumption
       have e1 := xor_1 hx (by omega) (by omega) (by omega) (by omega)
       have r2 := brb_ro (d := x12) ‹BRB _ _ _ _ _ _ _ _ _ _ _› (by omega) (by omega)
       have b1 := ‹LNE _ _ _ _› x9 (by omega) (by omega)
       have b2 := ‹LNE _ _ _ _› x13 (by omega) (by omega)
       omega)
    | (have h := ‹PLN _ _ _ _ _ _ _›
       have h1 := h.2.1
       simp only [Int.add_zero] at *
       omega)
def o_Mo_bars_40 : or_T := (277, 15, [(0, (2, 0, 0, [165])), (2, (0, 3, 24, [])), (4, (0, 0, 159, [])), (5, (0, 1, 79, [])), (6, (0, 2, 80, [])), (7, (2, 0, 0, [196])), (8, (0, 0, 158, [])), (9, (0, -1, 159, [])), (10, (0, 1, 159, [])), (11, (0, 1, 1, [])), (12, (0, 0, 159, [])), (13, (0, -1, 159, [])), (14, (2, 0, 0, [175]))], [(9, [14, 0], [20]), (10, [13, 7, 12], []), (16, [12, 10, 11], [2]), (23, [10, 5], [1, 1, -2]), (23, [10, 5], [0, -1, 2]), (9, [7, 0], [54]), (10, [9, 7, 8], []), (23, [8, 5], [1, 1, -2]), (23, [8, 5], [0, -1, 2]), (7, [5, 6], [2]), (9, [6, 0], [32]), (20, [0], [60, 3, 8, 316, 31, 32, 53, 33, 34, 35, 36, 37, 54, 56, 57]), (20, [2, 0], [50, 1, 0, 1031, 1, 2, 1, 0, 2, 1, 31]), (20, [0, 4, 5], [60, 1, 1, 321, 53, 20]), (20, [0], [60, 1, 1, 786, 31, 75])], [(9, (0, 0, 99, []))], [], [], [], [(5, 6, -4294967296, -1)])
theorem oo_Mo_bars_40 {kA : Nat → ClassId} : or_ok PRD kA GG o_Mo_bars_40 := by
  refine or_mk fun A ta ws vs hD hth hl => ?_
  intro t0 r0 t2 k2 t4 k4 t5 k5 t6 k6 t7 r7 t8 k8 t9 k9 t10 k10 t11 k11 t12 k12 t13 k13 t14 r14 d0 f0 f1 f2 f3 f4 f5 f6 f7 f8 f9 f10 f11 f12 f13 f14
  replace f1 := shm_107 f1
  replace f5 := shm_1122 f5
  replace f6 := shm_107 f6
  replace f10 := shm_525 f10
  have ad_7 : v_ad (n_v vs 7) = w_ar ws (n_v vs 0) 54 := congrArg v_ad f5
  simp only [ad_7] at f1
  have h1 : v_iv (n_v vs 13) = w_ei ws (w_ar ws (n_v vs 0) 54) (v_iv (n_v vs 12)) := f1
  simp only [ad_7] at f6
  have h6 : v_iv (n_v vs 9) = w_ei ws (w_ar ws (n_v vs 0) 54) (v_iv (n_v vs 8)) := f6
  have g10 : v_iv (n_v vs 6) = w_fi ws (n_v vs 0) 32 := congrArg v_iv f10
  have kz_0_31 := fdq_145 hD hth r0
  have kz_0_32 := fdq_140 hD hth r0
  have kz_0_53 := fdq_275 hD hth r0
  have hrf0 : 0 ≤ v_iv (n_v vs 9) ∧ v_iv (n_v vs 9) ≤ 99 := vc_Mo_bars_40_r0 (v_iv (n_v vs 5)) (v_iv (n_v vs 6)) (v_iv (n_v vs 8)) (v_iv (n_v vs 9)) (v_iv (n_v vs 10)) (v_iv (n_v vs 11)) (v_iv (n_v vs 12)) (v_iv (n_v vs 13)) (w_ei ws (w_ar ws (n_v vs 0) 54)) (w_fi ws (n_v vs 0) 32) (w_ei ws (w_ar ws (n_v vs 0) 33)) (w_ei ws (w_ar ws (n_v vs 0) 34)) (w_ei ws (w_ar ws (n_v vs 0) 35)) (w_ei ws (w_ar ws (n_v vs 0) 36)) (w_ei ws (w_ar ws (n_v vs 0) 37)) (w_ei ws (w_ar ws (n_v vs 0) 56)) (w_ei ws (w_ar ws (n_v vs 0) 57)) (w_fi ws (n_v vs 0) 31) (w_fi ws (n_v vs 0) 53) k5 k6 k8 k9 k12 k13 d0 h1 h6 (shm_143 f7) (shm_144 f8) g10 (shm_1123 f11) kz_0_31 kz_0_32 kz_0_53
  have rf9 : tv_ok ta (0, 0, 99, []) (n_v vs 9) := tv_in t9 (by first | omega | grind) (by first | omega | grind)
  refine ⟨List.forall_mem_cons.mpr ⟨rf9, (fun _ h => (by cases h))⟩, [], trivial, ?_, (fun _ h => (by cases h))⟩
  rw [List.append_nil]
  exact (fun _ h => (by cases h))
set_option maxHeartbeats 4000000 in
theorem vc_Mo_bars_41_0 (x4 : Int) (x5 : Int) (x8 : Int) (x9 : Int) (x10 : Int) (x11 : Int) (x12 : Int) (x13 : Int) (x16 : Int) (line_0 : Int → Int) (rounds_0 : Int) (k4 : 0 ≤ x4 ∧ x4 ≤ 159) (k5 : 1 ≤ x5 ∧ x5 ≤ 79) (k16 : 2 ≤ x16 ∧ x16 ≤ 80) (d0 : x5 + 1 ≤ x16 ∧ x16 ≤ x5 + 1) (f16 : LNE (rounds_0) (line_0) (x4) (x5)) (kz_0_53 : 0 ≤ rounds_0 ∧ rounds_0 ≤ 160) : LNE (rounds_0) (line_0) (x4) (x16) := by
  first
    | exact lnb_le ‹LNR _ _ _› (by omega)
    | exact lnb_le ‹LNE _ _ _ _› (by omega)
    | (have hR := brb_R ‹BRB _ _ _ _ _ _ _ _ _ _ _›
       have r1 := brb_ro (d := x8) ‹BRB _ _ _ _ _ _ _ _ _ _ _› (by omega) (by omega)
       have hx : bvp x12 = bvp x10 ^^^ bvp 1 := by rw [← (by omega : x11 = 1)]; assumption
       have e1 := xor_1 hx (by omega) (by omega) (by omega) (by omega)
       have r2 := brb_ro (d := x12) ‹BRB _ _ _ _ _ _ _ _ _ _ _› (by omega) (by omega)
       have b1 := ‹LNE _ _ _ _› x9 (by omega) (by omega)
       have b2 := ‹LNE _ _ _ _› x13 (by omega) (by omega)
       exact lnb_step ‹LNE _ _ _ _› (by omega) (by assumption) (by omega) (by omega))
def o_Mo_bars_41 : or_T := (234, 17, [(0, (2, 0, 0, [165])), (2, (0, 3, 24, [])), (4, (0, 0, 159, [])), (5, (0, 1, 79, [])), (6, (0, 2, 80, [])), (7, (2, 0, 0, [196])), (8, (0, 0, 158, [])), (9, (0, 0, 99, [])), (10, (0, 1, 159, [])), (11, (0, 1, 1, [])), (12, (0, 0, 159, [])), (13, (0, -1, 159, [])), (14, (2, 0, 0, [175])), (15, (0, -1000000, -1, [])), (16, (0, 2, 80, []))], [(6, [16, 5], [1]), (8, [15], [2]), (10, [15, 14, 9], []), (9, [14, 0], [20]), (10, [13, 7, 12], []), (16, [12, 10, 11], [2]), (23, [10, 5], [1, 1, -2]), (23, [10, 5], [0, -1, 2]), (9, [7, 0], [54]), (10, [9, 7, 8], []), (23, [8, 5], [1, 1, -2]), (23, [8, 5], [0, -1, 2]), (7, [5, 6], [2]), (9, [6, 0], [32]), (20, [0], [60, 3, 8, 316, 31, 32, 53, 33, 34, 35, 36, 37, 54, 56, 57]), (20, [2, 0], [50, 1, 0, 1031, 1, 2, 1, 0, 2, 1, 31]), (20, [0, 4, 5], [60, 1, 1, 321, 53, 20]), (20, [0], [60, 1, 1, 786, 31, 75])], [], [], [(20, [0, 4, 16], [60, 1, 1, 321, 53, 20])], [], [(16, 5, 1, 1), (16, 6, -4294967296, 0), (5, 6, -4294967296, -1)])
theorem oo_Mo_bars_41 {kA : Nat → ClassId} : or_ok PRD kA GG o_Mo_bars_41 := by
  refine or_mk fun A ta ws vs hD hth hl => ?_
  intro t0 r0 t2 k2 t4 k4 t5 k5 t6 k6 t7 r7 t8 k8 t9 k9 t10 k10 t11 k11 t12 k12 t13 k13 t14 r14 t15 k15 t16 k16 d0 d1 d2 f0 f1 f2 f3 f4 f5 f6 f7 f8 f9 f10 f11 f12 f13 f14 f15 f16 f17
  have kz_0_53 := fdq_275 hD hth r0
  have nf0 : fc_1 PRD (20, [0, 4, 16], [60, 1, 1, 321, 53, 20]) ws (vs) := ⟨nf_in hl rfl, sgq_2289 (vc_Mo_bars_41_0 (v_iv (n_v vs 4)) (v_iv (n_v vs 5)) (v_iv (n_v vs 8)) (v_iv (n_v vs 9)) (v_iv (n_v vs 10)) (v_iv (n_v vs 11)) (v_iv (n_v vs 12)) (v_iv (n_v vs 13)) (v_iv (n_v vs 16)) (w_ei ws (w_ar ws (n_v vs 0) 20)) (w_fi ws (n_v vs 0) 53) k4 k5 k16 d0 (shm_2289 f16) kz_0_53)⟩
  refine ⟨(fun _ h => (by cases h)), [], trivial, ?_, (fun _ h => (by cases h))⟩
  rw [List.append_nil]
  exact List.forall_mem_cons.mpr ⟨⟨show (20 : Nat) < 100 from by decide, nf0⟩, (fun _ h => (by cases h))⟩
set_option maxHeartbeats 4000000 in
theorem vc_Mo_bars_42_r0 (x5 : Int) (x6 : Int) (x8 : Int) (x9 : Int) (x10 : Int) (x11 : Int) (x12 : Int) (x13 : Int) (roundOf_0 : Int → Int) (pm_0 : Int) (pt_0 : Int → Int) (ph_0 : Int → Int) (alive_0 : Int → Int) (rotMany_0 : Int → Int) (rot_0 : Int → Int) (roundBegin_0 : Int → Int) (roundDart_0 : Int → Int) (pn_0 : Int) (rounds_0 : Int) (k5 : 1 ≤ x5 ∧ x5 ≤ 79) (k6 : 2 ≤ x6 ∧ x6 ≤ 80) (k8 : 0 ≤ x8 ∧ x8 ≤ 158) (k10 : 1 ≤ x10 ∧ x10 ≤ 159) (k11 : 1 ≤ x11 ∧ x11 ≤ 1) (k12 : 0 ≤ x12 ∧ x12 ≤ 159) (k13 : (-1) ≤ x13 ∧ x13 ≤ 159) (d0 : x6 + (-4294967296) ≤ x5 ∧ x5 ≤ x6 + (-1)) (h3 : x13 = roundOf_0 (x12)) (f4 : bvp (x12) = bvp (x10) ^^^ bvp (x11)) (f5 : 1 * x10 + ((-2) * x5 + 0) ≤ 1) (f6 : (-1) * x10 + (2 * x5 + 0) ≤ 0) (f9 : 1 * x8 + ((-2) * x5 + 0) ≤ 1) (f10 : (-1) * x8 + (2 * x5 + 0) ≤ 0) (g12 : x6 = pm_0) (f13 : BRB (pn_0) (pm_0) (rounds_0) (pt_0) (ph_0) (alive_0) (rotMany_0) (rot_0) (roundOf_0) (roundBegin_0) (roundDart_0)) (kz_0_31 : 0 ≤ pn_0 ∧ pn_0 ≤ 25) (kz_0_32 : 0 ≤ pm_0 ∧ pm_0 ≤ 80) (kz_0_53 : 0 ≤ rounds_0 ∧ rounds_0 ≤ 160) : 0 ≤ x13 ∧ x13 ≤ 99 := by
  first
    | omega
    | (have hR := brb_R ‹BRB _ _ _ _ _ _ _ _ _ _ _›; omega)
    | (have hR := brb_R ‹BRB _ _ _ _ _ _ _ _ _ _ _›
       have hx : bvp x8 = bvp x6 ^^^ bvp 1 := by rw [← (by omega : x7 = 1)]; assumption
       have e1 := xor_1 hx (by omega) (by omega) (by omega) (by omega)
       omega)
    | (have hR := brb_R ‹BRB _ _ _ _ _ _ _ _ _ _ _›
       have hx : bvp x12 = bvp x10 ^^^ bvp 1 := by rw [← (by omega : x11 = 1)]; assumption
       have e1 := xor_1 hx (by omega) (by omega) (by omega) (by omega)
       omega)
    | (have hR := brb_R ‹BRB _ _ _ _ _ _ _ _ _ _ _›
       have r1 := brb_ro (d := x8) ‹BRB _ _ _ _ _ _ _ _ _ _ _› (by omega) (by omega)
       omega)
    | (have hR := brb_R ‹BRB _ _ _ _ _ _ _ _ _ _ _›
       have r1 := brb_ro (d := x8) ‹BRB _ _ _ _ _ _ _ _ _ _ _› (by omega) (by omega)
       have hx : bvp x12 = bvp x10 ^^^ bvp 1 := by rw [← (by omega : x11 = 1)]; assumption
       have e1 := xor_1 hx (by omega) (by omega) (by omega) (by omega)
       have r2 := brb_ro (d := x12) ‹BRB _ _ _ _ _ _ _ _ _ _ _› (by omega) (by omega)
       omega)
    | (have hR := brb_R ‹BRB _ _ _ _ _ _ _ _ _ _ _›
       have r1 := brb_ro (d := x8) ‹BRB _ _ _ _ _ _ _ _ _ _ _› (by omega) (by omega)
       have hx : bvp x12 = bvp x10 ^^^ bvp 1 := by rw [← (by omega : x11 = 1)]; assumption
       have e1 := xor_1 hx (by omega) (by omega) (by omega) (by omega)
       have r2 := brb_ro (d := x12) ‹BRB _ _ _ _ _ _ _ _ _ _ _› (by omega) (by omega)
       have b1 := ‹LNE _ _ _ _› x9 (by omega) (by omega)
       have b2 := ‹LNE _ _ _ _› x13 (by omega) (by omega)
       omega)
    | (have h := ‹PLN _ _ _ _ _ _ _›
       have h1 := h.2.1
       simp only [Int.add_zero] at *
       omega)
def o_Mo_bars_42 : or_T := (293, 16, [(0, (2, 0, 0, [165])), (2, (0, 3, 24, [])), (4, (0, 0, 159, [])), (5, (0, 1, 79, [])), (6, (0, 2, 80, [])), (7, (2, 0, 0, [196])), (8, (0, 0, 158, [])), (9, (0, 0, 99, [])), (10, (0, 1, 159, [])), (11, (0, 1, 1, [])), (12, (0, 0, 159, [])), (13, (0, -1, 159, [])), (14, (2, 0, 0, [175])), (15, (0, 0, 1000000, []))], [(9, [14, 0], [20]), (8, [15], [3]), (10, [15, 14, 9], []), (10, [13, 7, 12], []), (16, [12, 10, 11], [2]), (23, [10, 5], [1, 1, -2]), (23, [10, 5], [0, -1, 2]), (9, [7, 0], [54]), (10, [9, 7, 8], []), (23, [8, 5], [1, 1, -2]), (23, [8, 5], [0, -1, 2]), (7, [5, 6], [2]), (9, [6, 0], [32]), (20, [0], [60, 3, 8, 316, 31, 32, 53, 33, 34, 35, 36, 37, 54, 56, 57]), (20, [2, 0], [50, 1, 0, 1031, 1, 2, 1, 0, 2, 1, 31]), (20, [0, 4, 5], [60, 1, 1, 321, 53, 20]), (20, [0], [60, 1, 1, 786, 31, 75])], [(13, (0, 0, 99, []))], [], [], [], [(5, 6, -4294967296, -1)])
theorem oo_Mo_bars_42 {kA : Nat → ClassId} : or_ok PRD kA GG o_Mo_bars_42 := by
  refine or_mk fun A ta ws vs hD hth hl => ?_
  intro t0 r0 t2 k2 t4 k4 t5 k5 t6 k6 t7 r7 t8 k8 t9 k9 t10 k10 t11 k11 t12 k12 t13 k13 t14 r14 t15 k15 d0 f0 f1 f2 f3 f4 f5 f6 f7 f8 f9 f10 f11 f12 f13 f14 f15 f16
  replace f3 := shm_107 f3
  replace f7 := shm_1122 f7
  replace f12 := shm_525 f12
  have ad_7 : v_ad (n_v vs 7) = w_ar ws (n_v vs 0) 54 := congrArg v_ad f7
  simp only [ad_7] at f3
  have h3 : v_iv (n_v vs 13) = w_ei ws (w_ar ws (n_v vs 0) 54) (v_iv (n_v vs 12)) := f3
  have g12 : v_iv (n_v vs 6) = w_fi ws (n_v vs 0) 32 := congrArg v_iv f12
  have kz_0_31 := fdq_145 hD hth r0
  have kz_0_32 := fdq_140 hD hth r0
  have kz_0_53 := fdq_275 hD hth r0
  have hrf0 : 0 ≤ v_iv (n_v vs 13) ∧ v_iv (n_v vs 13) ≤ 99 := vc_Mo_bars_42_r0 (v_iv (n_v vs 5)) (v_iv (n_v vs 6)) (v_iv (n_v vs 8)) (v_iv (n_v vs 9)) (v_iv (n_v vs 10)) (v_iv (n_v vs 11)) (v_iv (n_v vs 12)) (v_iv (n_v vs 13)) (w_ei ws (w_ar ws (n_v vs 0) 54)) (w_fi ws (n_v vs 0) 32) (w_ei ws (w_ar ws (n_v vs 0) 33)) (w_ei ws (w_ar ws (n_v vs 0) 34)) (w_ei ws (w_ar ws (n_v vs 0) 35)) (w_ei ws (w_ar ws (n_v vs 0) 36)) (w_ei ws (w_ar ws (n_v vs 0) 37)) (w_ei ws (w_ar ws (n_v vs 0) 56)) (w_ei ws (w_ar ws (n_v vs 0) 57)) (w_fi ws (n_v vs 0) 31) (w_fi ws (n_v vs 0) 53) k5 k6 k8 k10 k11 k12 k13 d0 h3 (shm_33 f4) (shm_143 f5) (shm_144 f6) (shm_143 f9) (shm_144 f10) g12 (shm_1123 f13) kz_0_31 kz_0_32 kz_0_53
  have rf13 : tv_ok ta (0, 0, 99, []) (n_v vs 13) := tv_in t13 (by first | omega | grind) (by first | omega | grind)
  refine ⟨List.forall_mem_cons.mpr ⟨rf13, (fun _ h => (by cases h))⟩, [], trivial, ?_, (fun _ h => (by cases h))⟩
  rw [List.append_nil]
  exact (fun _ h => (by cases h))
set_option maxHeartbeats 4000000 in
theorem vc_Mo_bars_43_r0 (x4 : Int) (x5 : Int) (x6 : Int) (x8 : Int) (x9 : Int) (x10 : Int) (x11 : Int) (x12 : Int) (x13 : Int) (x15 : Int) (x17 : Int) (x19 : Int) (line_0 : Int → Int) (roundOf_0 : Int → Int) (pm_0 : Int) (pt_0 : Int → Int) (ph_0 : Int → Int) (alive_0 : Int → Int) (rotMany_0 : Int → Int) (rot_0 : Int → Int) (roundBegin_0 : Int → Int) (roundDart_0 : Int → Int) (pn_0 : Int) (rounds_0 : Int) (k4 : 0 ≤ x4 ∧ x4 ≤ 159) (k5 : 1 ≤ x5 ∧ x5 ≤ 79) (k6 : 2 ≤ x6 ∧ x6 ≤ 80) (k8 : 0 ≤ x8 ∧ x8 ≤ 158) (k9 : 0 ≤ x9 ∧ x9 ≤ 99) (k10 : 1 ≤ x10 ∧ x10 ≤ 159) (k11 : 1 ≤ x11 ∧ x11 ≤ 1) (k12 : 0 ≤ x12 ∧ x12 ≤ 159) (k13 : 0 ≤ x13 ∧ x13 ≤ 99) (k15 : 0 ≤ x15 ∧ x15 ≤ 1000000) (k17 : (-1000000) ≤ x17 ∧ x17 ≤ 1000000) (k19 : (-999999) ≤ x19 ∧ x19 ≤ 1000001) (d1 : x17 + 1 ≤ x19 ∧ x19 ≤ x17 + 1) (d2 : x6 + (-4294967296) ≤ x5 ∧ x5 ≤ x6 + (-1)) (h3 : x17 = line_0 (x9)) (h7 : x15 = line_0 (x9)) (h8 : x13 = roundOf_0 (x12)) (f9 : bvp (x12) = bvp (x10) ^^^ bvp (x11)) (f10 : 1 * x10 + ((-2) * x5 + 0) ≤ 1) (f11 : (-1) * x10 + (2 * x5 + 0) ≤ 0) (h13 : x9 = roundOf_0 (x8)) (f14 : 1 * x8 + ((-2) * x5 + 0) ≤ 1) (f15 : (-1) * x8 + (2 * x5 + 0) ≤ 0) (g17 : x6 = pm_0) (f18 : BRB (pn_0) (pm_0) (rounds_0) (pt_0) (ph_0) (alive_0) (rotMany_0) (rot_0) (roundOf_0) (roundBegin_0) (roundDart_0)) (f20 : LNE (rounds_0) (line_0) (x4) (x5)) (kz_0_31 : 0 ≤ pn_0 ∧ pn_0 ≤ 25) (kz_0_32 : 0 ≤ pm_0 ∧ pm_0 ≤ 80) (kz_0_53 : 0 ≤ rounds_0 ∧ rounds_0 ≤ 160) : (-999999) ≤ x19 ∧ x19 ≤ 1000000 := by
  first
    | omega
    | (have hR := brb_R ‹BRB _ _ _ _ _ _ _ _ _ _ _›; omega)
    | (have hR := brb_R ‹BRB _ _ _ _ _ _ _ _ _ _ _›
       have hx : bvp x8 = bvp x6 ^^^ bvp 1 := by rw [← (by omega : x7 = 1)]; assumption
       have e1 := xor_1 hx (by omega) (by omega) (by omega) (by omega)
       omega)
    | (have hR := brb_R ‹BRB _ _ _ _ _ _ _ _ _ _ _›
       have hx : bvp x12 = bvp x10 ^^^ bvp 1 := by rw [← (by omega : x11 = 1)]; assumption
       have e1 := xor_1 hx (by omega) (by omega) (by omega) (by omega)
       omega)
    | (have hR := brb_R ‹BRB _ _ _ _ _ _ _ _ _ _ _›
       have r1 := brb_ro (d := x8) ‹BRB _ _ _ _ _ _ _ _ _ _ _› (by omega) (by omega)
       omega)
    | (have hR := brb_R ‹BRB _ _ _ _ _ _ _ _ _ _ _›
       have r1 := brb_ro (d := x8) ‹BRB _ _ _ _ _ _ _ _ _ _ _› (by omega) (by omega)
       have hx : bvp x12 = bvp x10 ^^^ bvp 1 := by rw [← (by omega : x11 = 1)]; assumption
       have e1 := xor_1 hx (by omega) (by omega) (by omega) (by omega)
       have r2 := brb_ro (d := x12) ‹BRB _ _ _ _ _ _ _ _ _ _ _› (by omega) (by omega)
       omega)
    | (have hR := brb_R ‹BRB _ _ _ _ _ _ _ _ _ _ _›
       have r1 := brb_ro (d := x8) ‹BRB _ _ _ _ _ _ _ _ _ _ _› (by omega) (by omega)
       have hx : bvp x12 = bvp x10 ^^^ bvp 1 := by rw [← (by omega : x11 = 1)]; assumption
       have e1 := xor_1 hx (by omega) (by omega) (by omega) (by omega)
       have r2 := brb_ro (d := x12) ‹BRB _ _ _ _ _ _ _ _ _ _ _› (by omega) (by omega)
       have b1 := ‹LNE _ _ _ _› x9 (by omega) (by omega)
       have b2 := ‹LNE _ _ _ _› x13 (by omega) (by omega)
       omega)
    | (have h := ‹PLN _ _ _ _ _ _ _›
       have h1 := h.2.1
       simp only [Int.add_zero] at *
       omega)
def o_Mo_bars_43 : or_T := (306, 20, [(0, (2, 0, 0, [165])), (2, (0, 3, 24, [])), (4, (0, 0, 159, [])), (5, (0, 1, 79, [])), (6, (0, 2, 80, [])), (7, (2, 0, 0, [196])), (8, (0, 0, 158, [])), (9, (0, 0, 99, [])), (10, (0, 1, 159, [])), (11, (0, 1, 1, [])), (12, (0, 0, 159, [])), (13, (0, 0, 99, [])), (14, (2, 0, 0, [175])), (15, (0, 0, 1000000, [])), (16, (0, -1000000, 1000000, [])), (17, (0, -1000000, 1000000, [])), (18, (0, 1, 1, [])), (19, (0, -999999, 1000001, []))], [(7, [16, 19], [5]), (7, [19, 19], [5]), (1, [19, 17, 18], []), (10, [17, 14, 9], []), (9, [14, 0], [20]), (10, [16, 14, 13], []), (8, [15], [3]), (10, [15, 14, 9], []), (10, [13, 7, 12], []), (16, [12, 10, 11], [2]), (23, [10, 5], [1, 1, -2]), (23, [10, 5], [0, -1, 2]), (9, [7, 0], [54]), (10, [9, 7, 8], []), (23, [8, 5], [1, 1, -2]), (23, [8, 5], [0, -1, 2]), (7, [5, 6], [2]), (9, [6, 0], [32]), (20, [0], [60, 3, 8, 316, 31, 32, 53, 33, 34, 35, 36, 37, 54, 56, 57]), (20, [2, 0], [50, 1, 0, 1031, 1, 2, 1, 0, 2, 1, 31]), (20, [0, 4, 5], [60, 1, 1, 321, 53, 20]), (20, [0], [60, 1, 1, 786, 31, 75])], [(19, (0, -999999, 1000000, []))], [], [], [], [(16, 19, -4294967296, 0), (19, 17, 1, 1), (5, 6, -4294967296, -1)])
theorem oo_Mo_bars_43 {kA : Nat → ClassId} : or_ok PRD kA GG o_Mo_bars_43 := by
  refine or_mk fun A ta ws vs hD hth hl => ?_
  intro t0 r0 t2 k2 t4 k4 t5 k5 t6 k6 t7 r7 t8 k8 t9 k9 t10 k10 t11 k11 t12 k12 t13 k13 t14 r14 t15 k15 t16 k16 t17 k17 t18 k18 t19 k19 d0 d1 d2 f0 f1 f2 f3 f4 f5 f6 f7 f8 f9 f10 f11 f12 f13 f14 f15 f16 f17 f18 f19 f20 f21
  replace f3 := shm_107 f3
  replace f4 := shm_740 f4
  replace f7 := shm_107 f7
  replace f8 := shm_107 f8
  replace f12 := shm_1122 f12
  replace f13 := shm_107 f13
  replace f17 := shm_525 f17
  have ad_14 : v_ad (n_v vs 14) = w_ar ws (n_v vs 0) 20 := congrArg v_ad f4
  have ad_7 : v_ad (n_v vs 7) = w_ar ws (n_v vs 0) 54 := congrArg v_ad f12
  simp only [ad_14] at f3
  have h3 : v_iv (n_v vs 17) = w_ei ws (w_ar ws (n_v vs 0) 20) (v_iv (n_v vs 9)) := f3
  simp only [ad_14] at f7
  have h7 : v_iv (n_v vs 15) = w_ei ws (w_ar ws (n_v vs 0) 20) (v_iv (n_v vs 9)) := f7
  simp only [ad_7] at f8
  have h8 : v_iv (n_v vs 13) = w_ei ws (w_ar ws (n_v vs 0) 54) (v_iv (n_v vs 12)) := f8
  simp only [ad_7] at f13
  have h13 : v_iv (n_v vs 9) = w_ei ws (w_ar ws (n_v vs 0) 54) (v_iv (n_v vs 8)) := f13
  have g17 : v_iv (n_v vs 6) = w_fi ws (n_v vs 0) 32 := congrArg v_iv f17
  have kz_0_31 := fdq_145 hD hth r0
  have kz_0_32 := fdq_140 hD hth r0
  have kz_0_53 := fdq_275 hD hth r0
  have hrf0 : (-999999) ≤ v_iv (n_v vs 19) ∧ v_iv (n_v vs 19) ≤ 1000000 := vc_Mo_bars_43_r0 (v_iv (n_v vs 4)) (v_iv (n_v vs 5)) (v_iv (n_v vs 6)) (v_iv (n_v vs 8)) (v_iv (n_v vs 9)) (v_iv (n_v vs 10)) (v_iv (n_v vs 11)) (v_iv (n_v vs 12)) (v_iv (n_v vs 13)) (v_iv (n_v vs 15)) (v_iv (n_v vs 17)) (v_iv (n_v vs 19)) (w_ei ws (w_ar ws (n_v vs 0) 20)) (w_ei ws (w_ar ws (n_v vs 0) 54)) (w_fi ws (n_v vs 0) 32) (w_ei ws (w_ar ws (n_v vs 0) 33)) (w_ei ws (w_ar ws (n_v vs 0) 34)) (w_ei ws (w_ar ws (n_v vs 0) 35)) (w_ei ws (w_ar ws (n_v vs 0) 36)) (w_ei ws (w_ar ws (n_v vs 0) 37)) (w_ei ws (w_ar ws (n_v vs 0) 56)) (w_ei ws (w_ar ws (n_v vs 0) 57)) (w_fi ws (n_v vs 0) 31) (w_fi ws (n_v vs 0) 53) k4 k5 k6 k8 k9 k10 k11 k12 k13 k15 k17 k19 d1 d2 h3 h7 h8 (shm_33 f9) (shm_143 f10) (shm_144 f11) h13 (shm_143 f14) (shm_144 f15) g17 (shm_1123 f18) (shm_2289 f20) kz_0_31 kz_0_32 kz_0_53
  have rf19 : tv_ok ta (0, -999999, 1000000, []) (n_v vs 19) := tv_in t19 (by first | omega | grind) (by first | omega | grind)
  refine ⟨List.forall_mem_cons.mpr ⟨rf19, (fun _ h => (by cases h))⟩, [], trivial, ?_, (fun _ h => (by cases h))⟩
  rw [List.append_nil]
  exact (fun _ h => (by cases h))
set_option maxHeartbeats 4000000 in
theorem vc_Mo_bars_44_0 (x4 : Int) (x5 : Int) (x6 : Int) (x8 : Int) (x9 : Int) (x10 : Int) (x11 : Int) (x12 : Int) (x13 : Int) (x15 : Int) (x17 : Int) (x19 : Int) (x20 : Int) (pt_0 : Int → Int) (ph_0 : Int → Int) (alive_0 : Int → Int) (rotMany_0 : Int → Int) (rot_0 : Int → Int) (roundOf_0 : Int → Int) (roundBegin_0 : Int → Int) (roundDart_0 : Int → Int) (pn_0 : Int) (pm_0 : Int) (rounds_0 : Int) (ny_0 : Int → Int) (line_1 : Int → Int) (roundOf_1 : Int → Int) (pm_1 : Int) (pt_1 : Int → Int) (ph_1 : Int → Int) (alive_1 : Int → Int) (rotMany_1 : Int → Int) (rot_1 : Int → Int) (roundBegin_1 : Int → Int) (roundDart_1 : Int → Int) (pn_1 : Int) (rounds_1 : Int) (ny_1 : Int → Int) (line_0 : Int → Int) (k4 : 0 ≤ x4 ∧ x4 ≤ 159) (k5 : 1 ≤ x5 ∧ x5 ≤ 79) (k6 : 2 ≤ x6 ∧ x6 ≤ 80) (k8 : 0 ≤ x8 ∧ x8 ≤ 158) (k9 : 0 ≤ x9 ∧ x9 ≤ 99) (k10 : 1 ≤ x10 ∧ x10 ≤ 159) (k11 : 1 ≤ x11 ∧ x11 ≤ 1) (k12 : 0 ≤ x12 ∧ x12 ≤ 159) (k13 : 0 ≤ x13 ∧ x13 ≤ 99) (k15 : 0 ≤ x15 ∧ x15 ≤ 1000000) (k17 : (-1000000) ≤ x17 ∧ x17 ≤ 1000000) (k19 : (-999999) ≤ x19 ∧ x19 ≤ 1000000) (k20 : 2 ≤ x20 ∧ x20 ≤ 80) (d0 : x5 + 1 ≤ x20 ∧ x20 ≤ x5 + 1) (d1 : x6 + (-4294967296) ≤ x20 ∧ x20 ≤ x6 + 0) (d3 : x17 + 1 ≤ x19 ∧ x19 ≤ x17 + 1) (d4 : x6 + (-4294967296) ≤ x5 ∧ x5 ≤ x6 + (-1)) (f1 : 1 * x10 + ((-2) * x5 + 0) ≤ 1) (f2 : (-1) * x10 + (2 * x5 + 0) ≤ 0) (f3 : 1 * x8 + ((-2) * x5 + 0) ≤ 1) (f4 : (-1) * x8 + (2 * x5 + 0) ≤ 0) (h12 : x17 = line_1 (x9)) (h16 : x15 = line_1 (x9)) (h17 : x13 = roundOf_1 (x12)) (f18 : bvp (x12) = bvp (x10) ^^^ bvp (x11)) (h22 : x9 = roundOf_1 (x8)) (g26 : x6 = pm_1) (f27 : BRB (pn_1) (pm_1) (rounds_1) (pt_1) (ph_1) (alive_1) (rotMany_1) (rot_1) (roundOf_1) (roundBegin_1) (roundDart_1)) (f29 : LNE (rounds_1) (line_1) (x4) (x5)) (fe_0_31_1 : pn_0 = pn_1) (fe_0_32_1 : pm_0 = pm_1) (fe_0_53_1 : rounds_0 = rounds_1) (hE_0_20_1 : ∀ j : Int, 0 ≤ j → (j = x13 → line_0 j = x19) ∧ (j ≠ x13 → line_0 j = line_1 j)) (hE_0_33_1 : ∀ j : Int, pt_0 j = pt_1 j) (hE_0_34_1 : ∀ j : Int, ph_0 j = ph_1 j) (hE_0_35_1 : ∀ j : Int, alive_0 j = alive_1 j) (hE_0_36_1 : ∀ j : Int, rotMany_0 j = rotMany_1 j) (hE_0_37_1 : ∀ j : Int, rot_0 j = rot_1 j) (hE_0_54_1 : ∀ j : Int, roundOf_0 j = roundOf_1 j) (hE_0_56_1 : ∀ j : Int, roundBegin_0 j = roundBegin_1 j) (hE_0_57_1 : ∀ j : Int, roundDart_0 j = roundDart_1 j) (hE_0_75_1 : ∀ j : Int, ny_0 j = ny_1 j) (kz_0_31 : 0 ≤ pn_0 ∧ pn_0 ≤ 25) (kz_0_32 : 0 ≤ pm_0 ∧ pm_0 ≤ 80) (kz_0_53 : 0 ≤ rounds_0 ∧ rounds_0 ≤ 160) : LNE (rounds_0) (line_0) (x4) (x20) := by
  subst fe_0_31_1
  subst fe_0_32_1
  subst fe_0_53_1
  have e_hE_0_33_1 := funext hE_0_33_1; subst e_hE_0_33_1
  have e_hE_0_34_1 := funext hE_0_34_1; subst e_hE_0_34_1
  have e_hE_0_35_1 := funext hE_0_35_1; subst e_hE_0_35_1
  have e_hE_0_36_1 := funext hE_0_36_1; subst e_hE_0_36_1
  have e_hE_0_37_1 := funext hE_0_37_1; subst e_hE_0_37_1
  have e_hE_0_54_1 := funext hE_0_54_1; subst e_hE_0_54_1
  have e_hE_0_56_1 := funext hE_0_56_1; subst e_hE_0_56_1
  have e_hE_0_57_1 := funext hE_0_57_1; subst e_hE_0_57_1
  have e_hE_0_75_1 := funext hE_0_75_1; subst e_hE_0_75_1
  first
    | exact lnb_le ‹LNR _ _ _› (by omega)
    | exact lnb_le ‹LNE _ _ _ _› (by omega)
    | (have hR := brb_R ‹BRB _ _ _ _ _ _ _ _ _ _ _›
       have r1 := brb_ro (d := x8) ‹BRB _ _ _ _ _ _ _ _ _ _ _› (by omega) (by omega)
       have hx : bvp x12 = bvp x10 ^^^ bvp 1 := by rw [← (by omega : x11 = 1)]; assumption
       have e1 := xor_1 hx (by omega) (by omega) (by omega) (by omega)
       have r2 := brb_ro (d := x12) ‹BRB _ _ _ _ _ _ _ _ _ _ _› (by omega) (by omega)
       have b1 := ‹LNE _ _ _ _› x9 (by omega) (by omega)
       have b2 := ‹LNE _ _ _ _› x13 (by omega) (by omega)
       exact lnb_step ‹LNE _ _ _ _› (by omega) (by assumption) (by omega) (by omega))
def o_Mo_bars_44 : or_T := (234, 21, [(0, (2, 0, 0, [165])), (2, (0, 3, 24, [])), (4, (0, 0, 159, [])), (5, (0, 1, 79, [])), (6, (0, 2, 80, [])), (7, (2, 0, 0, [196])), (8, (0, 0, 158, [])), (9, (0, 0, 99, [])), (10, (0, 1, 159, [])), (11, (0, 1, 1, [])), (12, (0, 0, 159, [])), (13, (0, 0, 99, [])), (14, (2, 0, 0, [175])), (15, (0, 0, 1000000, [])), (16, (0, -1000000, 1000000, [])), (17, (0, -1000000, 1000000, [])), (18, (0, 1, 1, [])), (19, (0, -999999, 1000000, [])), (20, (0, 2, 80, []))], [(6, [20, 5], [1]), (23, [10, 5], [1, 1, -2]), (23, [10, 5], [0, -1, 2]), (23, [8, 5], [1, 1, -2]), (23, [8, 5], [0, -1, 2]), (20, [0], [60, 3, 8, 316, 31, 32, 53, 33, 34, 35, 36, 37, 54, 56, 57]), (20, [2, 0], [50, 1, 0, 1031, 1, 2, 1, 0, 2, 1, 31]), (20, [0], [60, 1, 1, 786, 31, 75]), (100, [14, 13, 19], []), (7, [16, 19], [5]), (7, [19, 19], [5]), (1, [19, 17, 18], []), (10, [17, 14, 9], []), (9, [14, 0], [20]), (10, [16, 14, 13], []), (8, [15], [3]), (10, [15, 14, 9], []), (10, [13, 7, 12], []), (16, [12, 10, 11], [2]), (23, [10, 5], [1, 1, -2]), (23, [10, 5], [0, -1, 2]), (9, [7, 0], [54]), (10, [9, 7, 8], []), (23, [8, 5], [1, 1, -2]), (23, [8, 5], [0, -1, 2]), (7, [5, 6], [2]), (9, [6, 0], [32]), (20, [0], [60, 3, 8, 316, 31, 32, 53, 33, 34, 35, 36, 37, 54, 56, 57]), (20, [2, 0], [50, 1, 0, 1031, 1, 2, 1, 0, 2, 1, 31]), (20, [0, 4, 5], [60, 1, 1, 321, 53, 20]), (20, [0], [60, 1, 1, 786, 31, 75])], [], [], [(20, [0, 4, 20], [60, 1, 1, 321, 53, 20])], [], [(20, 5, 1, 1), (20, 6, -4294967296, 0), (16, 19, -4294967296, 0), (19, 17, 1, 1), (5, 6, -4294967296, -1)])
theorem oo_Mo_bars_44 {kA : Nat → ClassId} : or_ok PRD kA GG o_Mo_bars_44 := by
  refine or_mk fun A ta ws vs hD hth hl => ?_
  intro t0 r0 t2 k2 t4 k4 t5 k5 t6 k6 t7 r7 t8 k8 t9 k9 t10 k10 t11 k11 t12 k12 t13 k13 t14 r14 t15 k15 t16 k16 t17 k17 t18 k18 t19 k19 t20 k20 d0 d1 d2 d3 d4 f0 f1 f2 f3 f4 f5 f6 f7 ta1 w1 le1 s1 f9 f10 f11 f12 f13 f14 f15 f16 f17 f18 f19 f20 f21 f22 f23 f24 f25 f26 f27 f28 f29 f30
  have s1 : (∀ b j, w_el ws b j = if b = v_ad (n_v vs 14) ∧ j = (v_iv (n_v vs 13)).toNat then v_iv (n_v vs 19) else w_el w1 b j) ∧ ∀ b k, w_fd ws b k = w_fd w1 b k := s1.2
  replace f12 := shm_107 f12
  replace f13 := shm_740 f13
  replace f16 := shm_107 f16
  replace f17 := shm_107 f17
  replace f21 := shm_1122 f21
  replace f22 := shm_107 f22
  replace f26 := shm_525 f26
  replace f27 := shm_1123 f27
  replace f29 := shm_2289 f29
  have ar_0_20_1 : w_ar w1 (n_v vs 0) 20 = w_ar ws (n_v vs 0) 20 := congrArg v_ad (s1.2 _ _).symm
  have ar_0_33_1 : w_ar w1 (n_v vs 0) 33 = w_ar ws (n_v vs 0) 33 := congrArg v_ad (s1.2 _ _).symm
  have cr_0_33 := fdq_117 hD hth r0
  have ar_0_34_1 : w_ar w1 (n_v vs 0) 34 = w_ar ws (n_v vs 0) 34 := congrArg v_ad (s1.2 _ _).symm
  have cr_0_34 := fdq_118 hD hth r0
  have ar_0_35_1 : w_ar w1 (n_v vs 0) 35 = w_ar ws (n_v vs 0) 35 := congrArg v_ad (s1.2 _ _).symm
  have cr_0_35 := fdq_132 hD hth r0
  have ar_0_36_1 : w_ar w1 (n_v vs 0) 36 = w_ar ws (n_v vs 0) 36 := congrArg v_ad (s1.2 _ _).symm
  have cr_0_36 := fdq_167 hD hth r0
  have ar_0_37_1 : w_ar w1 (n_v vs 0) 37 = w_ar ws (n_v vs 0) 37 := congrArg v_ad (s1.2 _ _).symm
  have cr_0_37 := fdq_168 hD hth r0
  have ar_0_54_1 : w_ar w1 (n_v vs 0) 54 = w_ar ws (n_v vs 0) 54 := congrArg v_ad (s1.2 _ _).symm
  have cr_0_54 := fdq_272 hD hth r0
  have ar_0_56_1 : w_ar w1 (n_v vs 0) 56 = w_ar ws (n_v vs 0) 56 := congrArg v_ad (s1.2 _ _).symm
  have cr_0_56 := fdq_273 hD hth r0
  have ar_0_57_1 : w_ar w1 (n_v vs 0) 57 = w_ar ws (n_v vs 0) 57 := congrArg v_ad (s1.2 _ _).symm
  have cr_0_57 := fdq_274 hD hth r0
  have ar_0_75_1 : w_ar w1 (n_v vs 0) 75 = w_ar ws (n_v vs 0) 75 := congrArg v_ad (s1.2 _ _).symm
  have cr_0_75 := fdq_165 hD hth r0
  have ad_14 : v_ad (n_v vs 14) = w_ar ws (n_v vs 0) 20 := (congrArg v_ad f13).trans ar_0_20_1
  have ad_7 : v_ad (n_v vs 7) = w_ar ws (n_v vs 0) 54 := (congrArg v_ad f21).trans ar_0_54_1
  simp only [ad_14] at f12
  have h12 : v_iv (n_v vs 17) = w_ei w1 (w_ar ws (n_v vs 0) 20) (v_iv (n_v vs 9)) := f12
  simp only [ad_14] at f16
  have h16 : v_iv (n_v vs 15) = w_ei w1 (w_ar ws (n_v vs 0) 20) (v_iv (n_v vs 9)) := f16
  simp only [ad_7] at f17
  have h17 : v_iv (n_v vs 13) = w_ei w1 (w_ar ws (n_v vs 0) 54) (v_iv (n_v vs 12)) := f17
  simp only [ad_7] at f22
  have h22 : v_iv (n_v vs 9) = w_ei w1 (w_ar ws (n_v vs 0) 54) (v_iv (n_v vs 8)) := f22
  have g26 : v_iv (n_v vs 6) = w_fi w1 (n_v vs 0) 32 := congrArg v_iv f26
  simp only [ar_0_33_1, ar_0_34_1, ar_0_35_1, ar_0_36_1, ar_0_37_1, ar_0_54_1, ar_0_56_1, ar_0_57_1, ar_0_20_1, ar_0_75_1] at f27 f29
  have fe_0_31_1 : w_fi ws (n_v vs 0) 31 = w_fi w1 (n_v vs 0) 31 := congrArg v_iv (s1.2 _ _)
  have fe_0_32_1 : w_fi ws (n_v vs 0) 32 = w_fi w1 (n_v vs 0) 32 := congrArg v_iv (s1.2 _ _)
  have fe_0_53_1 : w_fi ws (n_v vs 0) 53 = w_fi w1 (n_v vs 0) 53 := congrArg v_iv (s1.2 _ _)
  have hE_0_20_1 : ∀ j : Int, 0 ≤ j → (j = v_iv (n_v vs 13) → w_ei ws (w_ar ws (n_v vs 0) 20) j = v_iv (n_v vs 19)) ∧ (j ≠ v_iv (n_v vs 13) → w_ei ws (w_ar ws (n_v vs 0) 20) j = w_ei w1 (w_ar ws (n_v vs 0) 20) j) := fun j hj => ⟨fun h => by unfold w_ei; rw [s1.1, if_pos ⟨ad_14.symm, by rw [h]⟩], fun h => by unfold w_ei; rw [s1.1, if_neg (fun e => h (by have := e.2; omega))]⟩
  have hE_0_33_1 : ∀ j : Int, w_ei ws (w_ar ws (n_v vs 0) 33) j = w_ei w1 (w_ar ws (n_v vs 0) 33) j := el_kp s1.1 r14 cr_0_33 (by decide)
  have hE_0_34_1 : ∀ j : Int, w_ei ws (w_ar ws (n_v vs 0) 34) j = w_ei w1 (w_ar ws (n_v vs 0) 34) j := el_kp s1.1 r14 cr_0_34 (by decide)
  have hE_0_35_1 : ∀ j : Int, w_ei ws (w_ar ws (n_v vs 0) 35) j = w_ei w1 (w_ar ws (n_v vs 0) 35) j := el_kp s1.1 r14 cr_0_35 (by decide)
  have hE_0_36_1 : ∀ j : Int, w_ei ws (w_ar ws (n_v vs 0) 36) j = w_ei w1 (w_ar ws (n_v vs 0) 36) j := el_kp s1.1 r14 cr_0_36 (by decide)
  have hE_0_37_1 : ∀ j : Int, w_ei ws (w_ar ws (n_v vs 0) 37) j = w_ei w1 (w_ar ws (n_v vs 0) 37) j := el_kp s1.1 r14 cr_0_37 (by decide)
  have hE_0_54_1 : ∀ j : Int, w_ei ws (w_ar ws (n_v vs 0) 54) j = w_ei w1 (w_ar ws (n_v vs 0) 54) j := el_kp s1.1 r14 cr_0_54 (by decide)
  have hE_0_56_1 : ∀ j : Int, w_ei ws (w_ar ws (n_v vs 0) 56) j = w_ei w1 (w_ar ws (n_v vs 0) 56) j := el_kp s1.1 r14 cr_0_56 (by decide)
  have hE_0_57_1 : ∀ j : Int, w_ei ws (w_ar ws (n_v vs 0) 57) j = w_ei w1 (w_ar ws (n_v vs 0) 57) j := el_kp s1.1 r14 cr_0_57 (by decide)
  have hE_0_75_1 : ∀ j : Int, w_ei ws (w_ar ws (n_v vs 0) 75) j = w_ei w1 (w_ar ws (n_v vs 0) 75) j := el_kp s1.1 r14 cr_0_75 (by decide)
  have kz_0_31 := fdq_145 hD hth r0
  have kz_0_32 := fdq_140 hD hth r0
  have kz_0_53 := fdq_275 hD hth r0
  have nf0 : fc_1 PRD (20, [0, 4, 20], [60, 1, 1, 321, 53, 20]) ws (vs) := ⟨nf_in hl rfl, sgq_2289 (vc_Mo_bars_44_0 (v_iv (n_v vs 4)) (v_iv (n_v vs 5)) (v_iv (n_v vs 6)) (v_iv (n_v vs 8)) (v_iv (n_v vs 9)) (v_iv (n_v vs 10)) (v_iv (n_v vs 11)) (v_iv (n_v vs 12)) (v_iv (n_v vs 13)) (v_iv (n_v vs 15)) (v_iv (n_v vs 17)) (v_iv (n_v vs 19)) (v_iv (n_v vs 20)) (w_ei ws (w_ar ws (n_v vs 0) 33)) (w_ei ws (w_ar ws (n_v vs 0) 34)) (w_ei ws (w_ar ws (n_v vs 0) 35)) (w_ei ws (w_ar ws (n_v vs 0) 36)) (w_ei ws (w_ar ws (n_v vs 0) 37)) (w_ei ws (w_ar ws (n_v vs 0) 54)) (w_ei ws (w_ar ws (n_v vs 0) 56)) (w_ei ws (w_ar ws (n_v vs 0) 57)) (w_fi ws (n_v vs 0) 31) (w_fi ws (n_v vs 0) 32) (w_fi ws (n_v vs 0) 53) (w_ei ws (w_ar ws (n_v vs 0) 75)) (w_ei w1 (w_ar ws (n_v vs 0) 20)) (w_ei w1 (w_ar ws (n_v vs 0) 54)) (w_fi w1 (n_v vs 0) 32) (w_ei w1 (w_ar ws (n_v vs 0) 33)) (w_ei w1 (w_ar ws (n_v vs 0) 34)) (w_ei w1 (w_ar ws (n_v vs 0) 35)) (w_ei w1 (w_ar ws (n_v vs 0) 36)) (w_ei w1 (w_ar ws (n_v vs 0) 37)) (w_ei w1 (w_ar ws (n_v vs 0) 56)) (w_ei w1 (w_ar ws (n_v vs 0) 57)) (w_fi w1 (n_v vs 0) 31) (w_fi w1 (n_v vs 0) 53) (w_ei w1 (w_ar ws (n_v vs 0) 75)) (w_ei ws (w_ar ws (n_v vs 0) 20)) k4 k5 k6 k8 k9 k10 k11 k12 k13 k15 k17 k19 k20 d0 d1 d3 d4 (shm_143 f1) (shm_144 f2) (shm_143 f3) (shm_144 f4) h12 h16 h17 (shm_33 f18) h22 g26 f27 f29 fe_0_31_1 fe_0_32_1 fe_0_53_1 hE_0_20_1 hE_0_33_1 hE_0_34_1 hE_0_35_1 hE_0_36_1 hE_0_37_1 hE_0_54_1 hE_0_56_1 hE_0_57_1 hE_0_75_1 kz_0_31 kz_0_32 kz_0_53)⟩
  refine ⟨(fun _ h => (by cases h)), [], trivial, ?_, (fun _ h => (by cases h))⟩
  rw [List.append_nil]
  exact List.forall_mem_cons.mpr ⟨⟨show (20 : Nat) < 100 from by decide, nf0⟩, (fun _ h => (by cases h))⟩
set_option maxHeartbeats 4000000 in
theorem vc_Mo_bars_45_0 (x4 : Int) (x5 : Int) (x6 : Int) (x8 : Int) (x9 : Int) (x10 : Int) (x11 : Int) (x12 : Int) (x13 : Int) (x16 : Int) (x20 : Int) (pt_0 : Int → Int) (ph_0 : Int → Int) (alive_0 : Int → Int) (rotMany_0 : Int → Int) (rot_0 : Int → Int) (roundOf_0 : Int → Int) (roundBegin_0 : Int → Int) (roundDart_0 : Int → Int) (pn_0 : Int) (pm_0 : Int) (rounds_0 : Int) (ny_0 : Int → Int) (line_1 : Int → Int) (roundOf_1 : Int → Int) (pm_1 : Int) (pt_1 : Int → Int) (ph_1 : Int → Int) (alive_1 : Int → Int) (rotMany_1 : Int → Int) (rot_1 : Int → Int) (roundBegin_1 : Int → Int) (roundDart_1 : Int → Int) (pn_1 : Int) (rounds_1 : Int) (ny_1 : Int → Int) (line_0 : Int → Int) (k4 : 0 ≤ x4 ∧ x4 ≤ 159) (k5 : 1 ≤ x5 ∧ x5 ≤ 79) (k6 : 2 ≤ x6 ∧ x6 ≤ 80) (k8 : 0 ≤ x8 ∧ x8 ≤ 158) (k9 : 0 ≤ x9 ∧ x9 ≤ 99) (k10 : 1 ≤ x10 ∧ x10 ≤ 159) (k11 : 1 ≤ x11 ∧ x11 ≤ 1) (k12 : 0 ≤ x12 ∧ x12 ≤ 159) (k13 : 0 ≤ x13 ∧ x13 ≤ 99) (k16 : (-999998) ≤ x16 ∧ x16 ≤ 1000000) (k20 : 2 ≤ x20 ∧ x20 ≤ 80) (d0 : x5 + 1 ≤ x20 ∧ x20 ≤ x5 + 1) (d1 : x6 + (-4294967296) ≤ x20 ∧ x20 ≤ x6 + 0) (d4 : x6 + (-4294967296) ≤ x5 ∧ x5 ≤ x6 + (-1)) (f1 : 1 * x10 + ((-2) * x5 + 0) ≤ 1) (f2 : (-1) * x10 + (2 * x5 + 0) ≤ 0) (f3 : 1 * x8 + ((-2) * x5 + 0) ≤ 1) (f4 : (-1) * x8 + (2 * x5 + 0) ≤ 0) (h14 : x16 = line_1 (x13)) (h17 : x13 = roundOf_1 (x12)) (f18 : bvp (x12) = bvp (x10) ^^^ bvp (x11)) (h22 : x9 = roundOf_1 (x8)) (g26 : x6 = pm_1) (f27 : BRB (pn_1) (pm_1) (rounds_1) (pt_1) (ph_1) (alive_1) (rotMany_1) (rot_1) (roundOf_1) (roundBegin_1) (roundDart_1)) (f29 : LNE (rounds_1) (line_1) (x4) (x5)) (fe_0_31_1 : pn_0 = pn_1) (fe_0_32_1 : pm_0 = pm_1) (fe_0_53_1 : rounds_0 = rounds_1) (hE_0_20_1 : ∀ j : Int, 0 ≤ j → (j = x13 → line_0 j = x16) ∧ (j ≠ x13 → line_0 j = line_1 j)) (hE_0_33_1 : ∀ j : Int, pt_0 j = pt_1 j) (hE_0_34_1 : ∀ j : Int, ph_0 j = ph_1 j) (hE_0_35_1 : ∀ j : Int, alive_0 j = alive_1 j) (hE_0_36_1 : ∀ j : Int, rotMany_0 j = rotMany_1 j) (hE_0_37_1 : ∀ j : Int, rot_0 j = rot_1 j) (hE_0_54_1 : ∀ j : Int, roundOf_0 j = roundOf_1 j) (hE_0_56_1 : ∀ j : Int, roundBegin_0 j = roundBegin_1 j) (hE_0_57_1 : ∀ j : Int, roundDart_0 j = roundDart_1 j) (hE_0_75_1 : ∀ j : Int, ny_0 j = ny_1 j) (kz_0_31 : 0 ≤ pn_0 ∧ pn_0 ≤ 25) (kz_0_32 : 0 ≤ pm_0 ∧ pm_0 ≤ 80) (kz_0_53 : 0 ≤ rounds_0 ∧ rounds_0 ≤ 160) : LNE (rounds_0) (line_0) (x4) (x20) := by
  subst fe_0_31_1
  subst fe_0_32_1
  subst fe_0_53_1
  have e_hE_0_33_1 := funext hE_0_33_1; subst e_hE_0_33_1
  have e_hE_0_34_1 := funext hE_0_34_1; subst e_hE_0_34_1
  have e_hE_0_35_1 := funext hE_0_35_1; subst e_hE_0_35_1
  have e_hE_0_36_1 := funext hE_0_36_1; subst e_hE_0_36_1
  have e_hE_0_37_1 := funext hE_0_37_1; subst e_hE_0_37_1
  have e_hE_0_54_1 := funext hE_0_54_1; subst e_hE_0_54_1
  have e_hE_0_56_1 := funext hE_0_56_1; subst e_hE_0_56_1
  have e_hE_0_57_1 := funext hE_0_57_1; subst e_hE_0_57_1
  have e_hE_0_75_1 := funext hE_0_75_1; subst e_hE_0_75_1
  first
    | exact lnb_le ‹LNR _ _ _› (by omega)
    | exact lnb_le ‹LNE _ _ _ _› (by omega)
    | (have hR := brb_R ‹BRB _ _ _ _ _ _ _ _ _ _ _›
       have r1 := brb_ro (d := x8) ‹BRB _ _ _ _ _ _ _ _ _ _ _› (by omega) (by omega)
       have hx : bvp x12 = bvp x10 ^^^ bvp 1 := by rw [← (by omega : x11 = 1)]; assumption
       have e1 := xor_1 hx (by omega) (by omega) (by omega) (by omega)
       have r2 := brb_ro (d := x12) ‹BRB _ _ _ _ _ _ _ _ _ _ _› (by omega) (by omega)
       have b1 := ‹LNE _ _ _ _› x9 (by omega) (by omega)
       have b2 := ‹LNE _ _ _ _› x13 (by omega) (by omega)
       exact lnb_step ‹LNE _ _ _ _› (by omega) (by assumption) (by omega) (by omega))
def o_Mo_bars_45 : or_T := (234, 21, [(0, (2, 0, 0, [165])), (2, (0, 3, 24, [])), (4, (0, 0, 159, [])), (5, (0, 1, 79, [])), (6, (0, 2, 80, [])), (7, (2, 0, 0, [196])), (8, (0, 0, 158, [])), (9, (0, 0, 99, [])), (10, (0, 1, 159, [])), (11, (0, 1, 1, [])), (12, (0, 0, 159, [])), (13, (0, 0, 99, [])), (14, (2, 0, 0, [175])), (15, (0, 0, 1000000, [])), (16, (0, -999998, 1000000, [])), (17, (0, -1000000, 1000000, [])), (18, (0, 1, 1, [])), (19, (0, -999999, 999999, [])), (20, (0, 2, 80, []))], [(6, [20, 5], [1]), (23, [10, 5], [1, 1, -2]), (23, [10, 5], [0, -1, 2]), (23, [8, 5], [1, 1, -2]), (23, [8, 5], [0, -1, 2]), (20, [0], [60, 3, 8, 316, 31, 32, 53, 33, 34, 35, 36, 37, 54, 56, 57]), (20, [2, 0], [50, 1, 0, 1031, 1, 2, 1, 0, 2, 1, 31]), (20, [0], [60, 1, 1, 786, 31, 75]), (100, [14, 13, 16], []), (7, [16, 16], [5]), (7, [19, 16], [5]), (1, [19, 17, 18], []), (10, [17, 14, 9], []), (9, [14, 0], [20]), (10, [16, 14, 13], []), (8, [15], [3]), (10, [15, 14, 9], []), (10, [13, 7, 12], []), (16, [12, 10, 11], [2]), (23, [10, 5], [1, 1, -2]), (23, [10, 5], [0, -1, 2]), (9, [7, 0], [54]), (10, [9, 7, 8], []), (23, [8, 5], [1, 1, -2]), (23, [8, 5], [0, -1, 2]), (7, [5, 6], [2]), (9, [6, 0], [32]), (20, [0], [60, 3, 8, 316, 31, 32, 53, 33, 34, 35, 36, 37, 54, 56, 57]), (20, [2, 0], [50, 1, 0, 1031, 1, 2, 1, 0, 2, 1, 31]), (20, [0, 4, 5], [60, 1, 1, 321, 53, 20]), (20, [0], [60, 1, 1, 786, 31, 75])], [], [], [(20, [0, 4, 20], [60, 1, 1, 321, 53, 20])], [], [(20, 5, 1, 1), (20, 6, -4294967296, 0), (16, 19, 1, 4294967296), (19, 17, 1, 1), (5, 6, -4294967296, -1)])
theorem oo_Mo_bars_45 {kA : Nat → ClassId} : or_ok PRD kA GG o_Mo_bars_45 := by
  refine or_mk fun A ta ws vs hD hth hl => ?_
  intro t0 r0 t2 k2 t4 k4 t5 k5 t6 k6 t7 r7 t8 k8 t9 k9 t10 k10 t11 k11 t12 k12 t13 k13 t14 r14 t15 k15 t16 k16 t17 k17 t18 k18 t19 k19 t20 k20 d0 d1 d2 d3 d4 f0 f1 f2 f3 f4 f5 f6 f7 ta1 w1 le1 s1 f9 f10 f11 f12 f13 f14 f15 f16 f17 f18 f19 f20 f21 f22 f23 f24 f25 f26 f27 f28 f29 f30
  have s1 : (∀ b j, w_el ws b j = if b = v_ad (n_v vs 14) ∧ j = (v_iv (n_v vs 13)).toNat then v_iv (n_v vs 16) else w_el w1 b j) ∧ ∀ b k, w_fd ws b k = w_fd w1 b k := s1.2
  replace f13 := shm_740 f13
  replace f14 := shm_107 f14
  replace f17 := shm_107 f17
  replace f21 := shm_1122 f21
  replace f22 := shm_107 f22
  replace f26 := shm_525 f26
  replace f27 := shm_1123 f27
  replace f29 := shm_2289 f29
  have ar_0_20_1 : w_ar w1 (n_v vs 0) 20 = w_ar ws (n_v vs 0) 20 := congrArg v_ad (s1.2 _ _).symm
  have ar_0_33_1 : w_ar w1 (n_v vs 0) 33 = w_ar ws (n_v vs 0) 33 := congrArg v_ad (s1.2 _ _).symm
  have cr_0_33 := fdq_117 hD hth r0
  have ar_0_34_1 : w_ar w1 (n_v vs 0) 34 = w_ar ws (n_v vs 0) 34 := congrArg v_ad (s1.2 _ _).symm
  have cr_0_34 := fdq_118 hD hth r0
  have ar_0_35_1 : w_ar w1 (n_v vs 0) 35 = w_ar ws (n_v vs 0) 35 := congrArg v_ad (s1.2 _ _).symm
  have cr_0_35 := fdq_132 hD hth r0
  have ar_0_36_1 : w_ar w1 (n_v vs 0) 36 = w_ar ws (n_v vs 0) 36 := congrArg v_ad (s1.2 _ _).symm
  have cr_0_36 := fdq_167 hD hth r0
  have ar_0_37_1 : w_ar w1 (n_v vs 0) 37 = w_ar ws (n_v vs 0) 37 := congrArg v_ad (s1.2 _ _).symm
  have cr_0_37 := fdq_168 hD hth r0
  have ar_0_54_1 : w_ar w1 (n_v vs 0) 54 = w_ar ws (n_v vs 0) 54 := congrArg v_ad (s1.2 _ _).symm
  have cr_0_54 := fdq_272 hD hth r0
  have ar_0_56_1 : w_ar w1 (n_v vs 0) 56 = w_ar ws (n_v vs 0) 56 := congrArg v_ad (s1.2 _ _).symm
  have cr_0_56 := fdq_273 hD hth r0
  have ar_0_57_1 : w_ar w1 (n_v vs 0) 57 = w_ar ws (n_v vs 0) 57 := congrArg v_ad (s1.2 _ _).symm
  have cr_0_57 := fdq_274 hD hth r0
  have ar_0_75_1 : w_ar w1 (n_v vs 0) 75 = w_ar ws (n_v vs 0) 75 := congrArg v_ad (s1.2 _ _).symm
  have cr_0_75 := fdq_165 hD hth r0
  have ad_14 : v_ad (n_v vs 14) = w_ar ws (n_v vs 0) 20 := (congrArg v_ad f13).trans ar_0_20_1
  have ad_7 : v_ad (n_v vs 7) = w_ar ws (n_v vs 0) 54 := (congrArg v_ad f21).trans ar_0_54_1
  simp only [ad_14] at f14
  have h14 : v_iv (n_v vs 16) = w_ei w1 (w_ar ws (n_v vs 0) 20) (v_iv (n_v vs 13)) := f14
  simp only [ad_7] at f17
  have h17 : v_iv (n_v vs 13) = w_ei w1 (w_ar ws (n_v vs 0) 54) (v_iv (n_v vs 12)) := f17
  simp only [ad_7] at f22
  have h22 : v_iv (n_v vs 9) = w_ei w1 (w_ar ws (n_v vs 0) 54) (v_iv (n_v vs 8)) := f22
  have g26 : v_iv (n_v vs 6) = w_fi w1 (n_v vs 0) 32 := congrArg v_iv f26
  simp only [ar_0_33_1, ar_0_34_1, ar_0_35_1, ar_0_36_1, ar_0_37_1, ar_0_54_1, ar_0_56_1, ar_0_57_1, ar_0_20_1, ar_0_75_1] at f27 f29
  have fe_0_31_1 : w_fi ws (n_v vs 0) 31 = w_fi w1 (n_v vs 0) 31 := congrArg v_iv (s1.2 _ _)
  have fe_0_32_1 : w_fi ws (n_v vs 0) 32 = w_fi w1 (n_v vs 0) 32 := congrArg v_iv (s1.2 _ _)
  have fe_0_53_1 : w_fi ws (n_v vs 0) 53 = w_fi w1 (n_v vs 0) 53 := congrArg v_iv (s1.2 _ _)
  have hE_0_20_1 : ∀ j : Int, 0 ≤ j → (j = v_iv (n_v vs 13) → w_ei ws (w_ar ws (n_v vs 0) 20) j = v_iv (n_v vs 16)) ∧ (j ≠ v_iv (n_v vs 13) → w_ei ws (w_ar ws (n_v vs 0) 20) j = w_ei w1 (w_ar ws (n_v vs 0) 20) j) := fun j hj => ⟨fun h => by unfold w_ei; rw [s1.1, if_pos ⟨ad_14.symm, by rw [h]⟩], fun h => by unfold w_ei; rw [s1.1, if_neg (fun e => h (by have := e.2; omega))]⟩
  have hE_0_33_1 : ∀ j : Int, w_ei ws (w_ar ws (n_v vs 0) 33) j = w_ei w1 (w_ar ws (n_v vs 0) 33) j := el_kp s1.1 r14 cr_0_33 (by decide)
  have hE_0_34_1 : ∀ j : Int, w_ei ws (w_ar ws (n_v vs 0) 34) j = w_ei w1 (w_ar ws (n_v vs 0) 34) j := el_kp s1.1 r14 cr_0_34 (by decide)
  have hE_0_35_1 : ∀ j : Int, w_ei ws (w_ar ws (n_v vs 0) 35) j = w_ei w1 (w_ar ws (n_v vs 0) 35) j := el_kp s1.1 r14 cr_0_35 (by decide)
  have hE_0_36_1 : ∀ j : Int, w_ei ws (w_ar ws (n_v vs 0) 36) j = w_ei w1 (w_ar ws (n_v vs 0) 36) j := el_kp s1.1 r14 cr_0_36 (by decide)
  have hE_0_37_1 : ∀ j : Int, w_ei ws (w_ar ws (n_v vs 0) 37) j = w_ei w1 (w_ar ws (n_v vs 0) 37) j := el_kp s1.1 r14 cr_0_37 (by decide)
  have hE_0_54_1 : ∀ j : Int, w_ei ws (w_ar ws (n_v vs 0) 54) j = w_ei w1 (w_ar ws (n_v vs 0) 54) j := el_kp s1.1 r14 cr_0_54 (by decide)
  have hE_0_56_1 : ∀ j : Int, w_ei ws (w_ar ws (n_v vs 0) 56) j = w_ei w1 (w_ar ws (n_v vs 0) 56) j := el_kp s1.1 r14 cr_0_56 (by decide)
  have hE_0_57_1 : ∀ j : Int, w_ei ws (w_ar ws (n_v vs 0) 57) j = w_ei w1 (w_ar ws (n_v vs 0) 57) j := el_kp s1.1 r14 cr_0_57 (by decide)
  have hE_0_75_1 : ∀ j : Int, w_ei ws (w_ar ws (n_v vs 0) 75) j = w_ei w1 (w_ar ws (n_v vs 0) 75) j := el_kp s1.1 r14 cr_0_75 (by decide)
  have kz_0_31 := fdq_145 hD hth r0
  have kz_0_32 := fdq_140 hD hth r0
  have kz_0_53 := fdq_275 hD hth r0
  have nf0 : fc_1 PRD (20, [0, 4, 20], [60, 1, 1, 321, 53, 20]) ws (vs) := ⟨nf_in hl rfl, sgq_2289 (vc_Mo_bars_45_0 (v_iv (n_v vs 4)) (v_iv (n_v vs 5)) (v_iv (n_v vs 6)) (v_iv (n_v vs 8)) (v_iv (n_v vs 9)) (v_iv (n_v vs 10)) (v_iv (n_v vs 11)) (v_iv (n_v vs 12)) (v_iv (n_v vs 13)) (v_iv (n_v vs 16)) (v_iv (n_v vs 20)) (w_ei ws (w_ar ws (n_v vs 0) 33)) (w_ei ws (w_ar ws (n_v vs 0) 34)) (w_ei ws (w_ar ws (n_v vs 0) 35)) (w_ei ws (w_ar ws (n_v vs 0) 36)) (w_ei ws (w_ar ws (n_v vs 0) 37)) (w_ei ws (w_ar ws (n_v vs 0) 54)) (w_ei ws (w_ar ws (n_v vs 0) 56)) (w_ei ws (w_ar ws (n_v vs 0) 57)) (w_fi ws (n_v vs 0) 31) (w_fi ws (n_v vs 0) 32) (w_fi ws (n_v vs 0) 53) (w_ei ws (w_ar ws (n_v vs 0) 75)) (w_ei w1 (w_ar ws (n_v vs 0) 20)) (w_ei w1 (w_ar ws (n_v vs 0) 54)) (w_fi w1 (n_v vs 0) 32) (w_ei w1 (w_ar ws (n_v vs 0) 33)) (w_ei w1 (w_ar ws (n_v vs 0) 34)) (w_ei w1 (w_ar ws (n_v vs 0) 35)) (w_ei w1 (w_ar ws (n_v vs 0) 36)) (w_ei w1 (w_ar ws (n_v vs 0) 37)) (w_ei w1 (w_ar ws (n_v vs 0) 56)) (w_ei w1 (w_ar ws (n_v vs 0) 57)) (w_fi w1 (n_v vs 0) 31) (w_fi w1 (n_v vs 0) 53) (w_ei w1 (w_ar ws (n_v vs 0) 75)) (w_ei ws (w_ar ws (n_v vs 0) 20)) k4 k5 k6 k8 k9 k10 k11 k12 k13 k16 k20 d0 d1 d4 (shm_143 f1) (shm_144 f2) (shm_143 f3) (shm_144 f4) h14 h17 (shm_33 f18) h22 g26 f27 f29 fe_0_31_1 fe_0_32_1 fe_0_53_1 hE_0_20_1 hE_0_33_1 hE_0_34_1 hE_0_35_1 hE_0_36_1 hE_0_37_1 hE_0_54_1 hE_0_56_1 hE_0_57_1 hE_0_75_1 kz_0_31 kz_0_32 kz_0_53)⟩
  refine ⟨(fun _ h => (by cases h)), [], trivial, ?_, (fun _ h => (by cases h))⟩
  rw [List.append_nil]
  exact List.forall_mem_cons.mpr ⟨⟨show (20 : Nat) < 100 from by decide, nf0⟩, (fun _ h => (by cases h))⟩
set_option maxHeartbeats 4000000 in
theorem vc_Mo_bars_46_r0 (x6 : Int) (x8 : Int) (x9 : Int) (x10 : Int) (x11 : Int) (x12 : Int) (roundOf_0 : Int → Int) (pm_0 : Int) (pt_0 : Int → Int) (ph_0 : Int → Int) (alive_0 : Int → Int) (rotMany_0 : Int → Int) (rot_0 : Int → Int) (roundBegin_0 : Int → Int) (roundDart_0 : Int → Int) (pn_0 : Int) (rounds_0 : Int) (k10 : 0 ≤ x10 ∧ x10 ≤ 158) (k11 : 1 ≤ x11 ∧ x11 ≤ 1) (k12 : 0 ≤ x12 ∧ x12 ≤ 255) (f0 : bvp (x12) = bvp (x10) ^^^ bvp (x11)) (f9 : BRB (pn_0) (pm_0) (rounds_0) (pt_0) (ph_0) (alive_0) (rotMany_0) (rot_0) (roundOf_0) (roundBegin_0) (roundDart_0)) (kz_0_31 : 0 ≤ pn_0 ∧ pn_0 ≤ 25) (kz_0_32 : 0 ≤ pm_0 ∧ pm_0 ≤ 80) (kz_0_53 : 0 ≤ rounds_0 ∧ rounds_0 ≤ 160) : 0 ≤ x12 ∧ x12 ≤ 159 := by
  first
    | omega
    | (have hR := brb_R ‹BRB _ _ _ _ _ _ _ _ _ _ _›; omega)
    | (have hR := brb_R ‹BRB _ _ _ _ _ _ _ _ _ _ _›
       have hx : bvp x8 = bvp x6 ^^^ bvp 1 := by rw [← (by omega : x7 = 1)]; assumption
       have e1 := xor_1 hx (by omega) (by omega) (by omega) (by omega)
       omega)
    | (have hR := brb_R ‹BRB _ _ _ _ _ _ _ _ _ _ _›
       have hx : bvp x12 = bvp x10 ^^^ bvp 1 := by rw [← (by omega : x11 = 1)]; assumption
       have e1 := xor_1 hx (by omega) (by omega) (by omega) (by omega)
       omega)
    | (have hR := brb_R ‹BRB _ _ _ _ _ _ _ _ _ _ _›
       have r1 := brb_ro (d := x8) ‹BRB _ _ _ _ _ _ _ _ _ _ _› (by omega) (by omega)
       omega)
    | (have hR := brb_R ‹BRB _ _ _ _ _ _ _ _ _ _ _›
       have r1 := brb_ro (d := x8) ‹BRB _ _ _ _ _ _ _ _ _ _ _› (by omega) (by omega)
       have hx : bvp x12 = bvp x10 ^^^ bvp 1 := by rw [← (by omega : x11 = 1)]; assumption
       have e1 := xor_1 hx (by omega) (by omega) (by omega) (by omega)
       have r2 := brb_ro (d := x12) ‹BRB _ _ _ _ _ _ _ _ _ _ _› (by omega) (by omega)
       omega)
    | (have hR := brb_R ‹BRB _ _ _ _ _ _ _ _ _ _ _›
       have r1 := brb_ro (d := x8) ‹BRB _ _ _ _ _ _ _ _ _ _ _› (by omega) (by omega)
       have hx : bvp x12 = bvp x10 ^^^ bvp 1 := by rw [← (by omega : x11 = 1)]; assumption
       have e1 := xor_1 hx (by omega) (by omega) (by omega) (by omega)
       have r2 := brb_ro (d := x12) ‹BRB _ _ _ _ _ _ _ _ _ _ _› (by omega) (by omega)
       have b1 := ‹LNE _ _ _ _› x9 (by omega) (by omega)
       have b2 := ‹LNE _ _ _ _› x13 (by omega) (by omega)
       omega)
    | (have h := ‹PLN _ _ _ _ _ _ _›
       have h1 := h.2.1
       simp only [Int.add_zero] at *
       omega)
def o_Mo_bars_46 : or_T := (268, 13, [(0, (2, 0, 0, [165])), (2, (0, 3, 24, [])), (4, (0, 0, 159, [])), (5, (0, 1, 79, [])), (6, (0, 2, 80, [])), (7, (2, 0, 0, [196])), (8, (0, 0, 158, [])), (9, (0, -1, 159, [])), (10, (0, 0, 158, [])), (11, (0, 1, 1, [])), (12, (0, 0, 255, []))], [(16, [12, 10, 11], [2]), (23, [10, 5], [1, 1, -2]), (23, [10, 5], [0, -1, 2]), (9, [7, 0], [54]), (10, [9, 7, 8], []), (23, [8, 5], [1, 1, -2]), (23, [8, 5], [0, -1, 2]), (7, [5, 6], [2]), (9, [6, 0], [32]), (20, [0], [60, 3, 8, 316, 31, 32, 53, 33, 34, 35, 36, 37, 54, 56, 57]), (20, [2, 0], [50, 1, 0, 1031, 1, 2, 1, 0, 2, 1, 31]), (20, [0, 4, 5], [60, 1, 1, 321, 53, 20]), (20, [0], [60, 1, 1, 786, 31, 75])], [(12, (0, 0, 159, []))], [], [], [], [(5, 6, -4294967296, -1)])
theorem oo_Mo_bars_46 {kA : Nat → ClassId} : or_ok PRD kA GG o_Mo_bars_46 := by
  refine or_mk fun A ta ws vs hD hth hl => ?_
  intro t0 r0 t2 k2 t4 k4 t5 k5 t6 k6 t7 r7 t8 k8 t9 k9 t10 k10 t11 k11 t12 k12 d0 f0 f1 f2 f3 f4 f5 f6 f7 f8 f9 f10 f11 f12
  have kz_0_31 := fdq_145 hD hth r0
  have kz_0_32 := fdq_140 hD hth r0
  have kz_0_53 := fdq_275 hD hth r0
  have hrf0 : 0 ≤ v_iv (n_v vs 12) ∧ v_iv (n_v vs 12) ≤ 159 := vc_Mo_bars_46_r0 (v_iv (n_v vs 6)) (v_iv (n_v vs 8)) (v_iv (n_v vs 9)) (v_iv (n_v vs 10)) (v_iv (n_v vs 11)) (v_iv (n_v vs 12)) (w_ei ws (w_ar ws (n_v vs 0) 54)) (w_fi ws (n_v vs 0) 32) (w_ei ws (w_ar ws (n_v vs 0) 33)) (w_ei ws (w_ar ws (n_v vs 0) 34)) (w_ei ws (w_ar ws (n_v vs 0) 35)) (w_ei ws (w_ar ws (n_v vs 0) 36)) (w_ei ws (w_ar ws (n_v vs 0) 37)) (w_ei ws (w_ar ws (n_v vs 0) 56)) (w_ei ws (w_ar ws (n_v vs 0) 57)) (w_fi ws (n_v vs 0) 31) (w_fi ws (n_v vs 0) 53) k10 k11 k12 (shm_33 f0) (shm_1123 f9) kz_0_31 kz_0_32 kz_0_53
  have rf12 : tv_ok ta (0, 0, 159, []) (n_v vs 12) := tv_in t12 (by first | omega | grind) (by first | omega | grind)
  refine ⟨List.forall_mem_cons.mpr ⟨rf12, (fun _ h => (by cases h))⟩, [], trivial, ?_, (fun _ h => (by cases h))⟩
  rw [List.append_nil]
  exact (fun _ h => (by cases h))
set_option maxHeartbeats 4000000 in
theorem vc_Mo_bars_47_r0 (x5 : Int) (x6 : Int) (x8 : Int) (x9 : Int) (x10 : Int) (x11 : Int) (x12 : Int) (x13 : Int) (roundOf_0 : Int → Int) (pm_0 : Int) (pt_0 : Int → Int) (ph_0 : Int → Int) (alive_0 : Int → Int) (rotMany_0 : Int → Int) (rot_0 : Int → Int) (roundBegin_0 : Int → Int) (roundDart_0 : Int → Int) (pn_0 : Int) (rounds_0 : Int) (k5 : 1 ≤ x5 ∧ x5 ≤ 79) (k6 : 2 ≤ x6 ∧ x6 ≤ 80) (k8 : 0 ≤ x8 ∧ x8 ≤ 158) (k9 : (-1) ≤ x9 ∧ x9 ≤ 159) (k12 : 0 ≤ x12 ∧ x12 ≤ 159) (k13 : (-1) ≤ x13 ∧ x13 ≤ 159) (d0 : x6 + (-4294967296) ≤ x5 ∧ x5 ≤ x6 + (-1)) (h1 : x13 = roundOf_0 (x12)) (h6 : x9 = roundOf_0 (x8)) (f7 : 1 * x8 + ((-2) * x5 + 0) ≤ 1) (f8 : (-1) * x8 + (2 * x5 + 0) ≤ 0) (g10 : x6 = pm_0) (f11 : BRB (pn_0) (pm_0) (rounds_0) (pt_0) (ph_0) (alive_0) (rotMany_0) (rot_0) (roundOf_0) (roundBegin_0) (roundDart_0)) (kz_0_31 : 0 ≤ pn_0 ∧ pn_0 ≤ 25) (kz_0_32 : 0 ≤ pm_0 ∧ pm_0 ≤ 80) (kz_0_53 : 0 ≤ rounds_0 ∧ rounds_0 ≤ 160) : 0 ≤ x9 ∧ x9 ≤ 99 := by
  first
    | omega
    | (have hR := brb_R ‹BRB _ _ _ _ _ _ _ _ _ _ _›; omega)
    | (have hR := brb_R ‹BRB _ _ _ _ _ _ _ _ _ _ _›
       have hx : bvp x8 = bvp x6 ^^^ bvp 1 := by rw [← (by omega : x7 = 1)]; assumption
       have e1 := xor_1 hx (by omega) (by omega) (by omega) (by omega)
       omega)
    | (have hR := brb_R ‹BRB _ _ _ _ _ _ _ _ _ _ _›
       have hx : bvp x12 = bvp x10 ^^^ bvp 1 := by rw [← (by omega : x11 = 1)]; assumption
       have e1 := xor_1 hx (by omega) (by omega) (by omega) (by omega)
       omega)
    | (have hR := brb_R ‹BRB _ _ _ _ _ _ _ _ _ _ _›
       have r1 := brb_ro (d := x8) ‹BRB _ _ _ _ _ _ _ _ _ _ _› (by omega) (by omega)
       omega)
    | (have hR := brb_R ‹BRB _ _ _ _ _ _ _ _ _ _ _›
       have r1 := brb_ro (d := x8) ‹BRB _ _ _ _ _ _ _ _ _ _ _› (by omega) (by omega)
       have hx : bvp x12 = bvp x10 ^^^ bvp 1 := by rw [← (by omega : x11 = 1)]; assumption
       have e1 := xor_1 hx (by omega) (by omega) (by omega) (by omega)
       have r2 := brb_ro (d := x12) ‹BRB _ _ _ _ _ _ _ _ _ _ _› (by omega) (by omega)
       omega)
    | (have hR := brb_R ‹BRB _ _ _ _ _ _ _ _ _ _ _›
       have r1 := brb_ro (d := x8) ‹BRB _ _ _ _ _ _ _ _ _ _ _› (by omega) (by omega)
       have hx : bvp x12 = bvp x10 ^^^ bvp 1 := by rw [← (by omega : x11 = 1)]; assumption
       have e1 := xor_1 hx (by omega) (by omega) (by omega) (by omega)
       have r2 := brb_ro (d := x12) ‹BRB _ _ _ _ _ _ _ _ _ _ _› (by omega) (by omega)
       have b1 := ‹LNE _ _ _ _› x9 (by omega) (by omega)
       have b2 := ‹LNE _ _ _ _› x13 (by omega) (by omega)
       omega)
    | (have h := ‹PLN _ _ _ _ _ _ _›
       have h1 := h.2.1
       simp only [Int.add_zero] at *
       omega)
def o_Mo_bars_47 : or_T := (277, 15, [(0, (2, 0, 0, [165])), (2, (0, 3, 24, [])), (4, (0, 0, 159, [])), (5, (0, 1, 79, [])), (6, (0, 2, 80, [])), (7, (2, 0, 0, [196])), (8, (0, 0, 158, [])), (9, (0, -1, 159, [])), (10, (0, 0, 158, [])), (11, (0, 1, 1, [])), (12, (0, 0, 159, [])), (13, (0, -1, 159, [])), (14, (2, 0, 0, [175]))], [(9, [14, 0], [20]), (10, [13, 7, 12], []), (16, [12, 10, 11], [2]), (23, [10, 5], [1, 1, -2]), (23, [10, 5], [0, -1, 2]), (9, [7, 0], [54]), (10, [9, 7, 8], []), (23, [8, 5], [1, 1, -2]), (23, [8, 5], [0, -1, 2]), (7, [5, 6], [2]), (9, [6, 0], [32]), (20, [0], [60, 3, 8, 316, 31, 32, 53, 33, 34, 35, 36, 37, 54, 56, 57]), (20, [2, 0], [50, 1, 0, 1031, 1, 2, 1, 0, 2, 1, 31]), (20, [0, 4, 5], [60, 1, 1, 321, 53, 20]), (20, [0], [60, 1, 1, 786, 31, 75])], [(9, (0, 0, 99, []))], [], [], [], [(5, 6, -4294967296, -1)])
theorem oo_Mo_bars_47 {kA : Nat → ClassId} : or_ok PRD kA GG o_Mo_bars_47 := by
  refine or_mk fun A ta ws vs hD hth hl => ?_
  intro t0 r0 t2 k2 t4 k4 t5 k5 t6 k6 t7 r7 t8 k8 t9 k9 t10 k10 t11 k11 t12 k12 t13 k13 t14 r14 d0 f0 f1 f2 f3 f4 f5 f6 f7 f8 f9 f10 f11 f12 f13 f14
  replace f1 := shm_107 f1
  replace f5 := shm_1122 f5
  replace f6 := shm_107 f6
  replace f10 := shm_525 f10
  have ad_7 : v_ad (n_v vs 7) = w_ar ws (n_v vs 0) 54 := congrArg v_ad f5
  simp only [ad_7] at f1
  have h1 : v_iv (n_v vs 13) = w_ei ws (w_ar ws (n_v vs 0) 54) (v_iv (n_v vs 12)) := f1
  simp only [ad_7] at f6
  have h6 : v_iv (n_v vs 9) = w_ei ws (w_ar ws (n_v vs 0) 54) (v_iv (n_v vs 8)) := f6
  have g10 : v_iv (n_v vs 6) = w_fi ws (n_v vs 0) 32 := congrArg v_iv f10
  have kz_0_31 := fdq_145 hD hth r0
  have kz_0_32 := fdq_140 hD hth r0
  have kz_0_53 := fdq_275 hD hth r0
  have hrf0 : 0 ≤ v_iv (n_v vs 9) ∧ v_iv (n_v vs 9) ≤ 99 := vc_Mo_bars_47_r0 (v_iv (n_v vs 5)) (v_iv (n_v vs 6)) (v_iv (n_v vs 8)) (v_iv (n_v vs 9)) (v_iv (n_v vs 10)) (v_iv (n_v vs 11)) (v_iv (n_v vs 12)) (v_iv (n_v vs 13)) (w_ei ws (w_ar ws (n_v vs 0) 54)) (w_fi ws (n_v vs 0) 32) (w_ei ws (w_ar ws (n_v vs 0) 33)) (w_ei ws (w_ar ws (n_v vs 0) 34)) (w_ei ws (w_ar ws (n_v vs 0) 35)) (w_ei ws (w_ar ws (n_v vs 0) 36)) (w_ei ws (w_ar ws (n_v vs 0) 37)) (w_ei ws (w_ar ws (n_v vs 0) 56)) (w_ei ws (w_ar ws (n_v vs 0) 57)) (w_fi ws (n_v vs 0) 31) (w_fi ws (n_v vs 0) 53) k5 k6 k8 k9 k12 k13 d0 h1 h6 (shm_143 f7) (shm_144 f8) g10 (shm_1123 f11) kz_0_31 kz_0_32 kz_0_53
  have rf9 : tv_ok ta (0, 0, 99, []) (n_v vs 9) := tv_in t9 (by first | omega | grind) (by first | omega | grind)
  refine ⟨List.forall_mem_cons.mpr ⟨rf9, (fun _ h => (by cases h))⟩, [], trivial, ?_, (fun _ h => (by cases h))⟩
  rw [List.append_nil]
  exact (fun _ h => (by cases h))
set_option maxHeartbeats 4000000 in
theorem vc_Mo_bars_48_0 (x4 : Int) (x5 : Int) (x8 : Int) (x9 : Int) (x10 : Int) (x11 : Int) (x12 : Int) (x13 : Int) (x16 : Int) (line_0 : Int → Int) (rounds_0 : Int) (k4 : 0 ≤ x4 ∧ x4 ≤ 159) (k5 : 1 ≤ x5 ∧ x5 ≤ 79) (k16 : 2 ≤ x16 ∧ x16 ≤ 80) (d0 : x5 + 1 ≤ x16 ∧ x16 ≤ x5 + 1) (f16 : LNE (rounds_0) (line_0) (x4) (x5)) (kz_0_53 : 0 ≤ rounds_0 ∧ rounds_0 ≤ 160) : LNE (rounds_0) (line_0) (x4) (x16) := by
  first
    | exact lnb_le ‹LNR _ _ _› (by omega)
    | exact lnb_le ‹LNE _ _ _ _› (by omega)
    | (have hR := brb_R ‹BRB _ _ _ _ _ _ _ _ _ _ _›
       have r1 := brb_ro (d := x8) ‹BRB _ _ _ _ _ _ _ _ _ _ _› (by omega) (by omega)
       have hx : bvp x12 = bvp x10 ^^^ bvp 1 := by rw [← (by omega : x11 = 1)]; assumption
       have e1 := xor_1 hx (by omega) (by omega) (by omega) (by omega)
       have r2 := brb_ro (d := x12) ‹BRB _ _ _ _ _ _ _ _ _ _ _› (by omega) (by omega)
       have b1 := ‹LNE _ _ _ _› x9 (by omega) (by omega)
       have b2 := ‹LNE _ _ _ _› x13 (by omega) (by omega)
       exact lnb_step ‹LNE _ _ _ _› (by omega) (by assumption) (by omega) (by omega))
def o_Mo_bars_48 : or_T := (234, 17, [(0, (2, 0, 0, [165])), (2, (0, 3, 24, [])), (4, (0, 0, 159, [])), (5, (0, 1, 79, [])), (6, (0, 2, 80, [])), (7, (2, 0, 0, [196])), (8, (0, 0, 158, [])), (9, (0, 0, 99, [])), (10, (0, 0, 158, [])), (11, (0, 1, 1, [])), (12, (0, 0, 159, [])), (13, (0, -1, 159, [])), (14, (2, 0, 0, [175])), (15, (0, -1000000, -1, [])), (16, (0, 2, 80, []))], [(6, [16, 5], [1]), (8, [15], [2]), (10, [15, 14, 9], []), (9, [14, 0], [20]), (10, [13, 7, 12], []), (16, [12, 10, 11], [2]), (23, [10, 5], [1, 1, -2]), (23, [10, 5], [0, -1, 2]), (9, [7, 0], [54]), (10, [9, 7, 8], []), (23, [8, 5], [1, 1, -2]), (23, [8, 5], [0, -1, 2]), (7, [5, 6], [2]), (9, [6, 0], [32]), (20, [0], [60, 3, 8, 316, 31, 32, 53, 33, 34, 35, 36, 37, 54, 56, 57]), (20, [2, 0], [50, 1, 0, 1031, 1, 2, 1, 0, 2, 1, 31]), (20, [0, 4, 5], [60, 1, 1, 321, 53, 20]), (20, [0], [60, 1, 1, 786, 31, 75])], [], [], [(20, [0, 4, 16], [60, 1, 1, 321, 53, 20])], [], [(16, 5, 1, 1), (16, 6, -4294967296, 0), (5, 6, -4294967296, -1)])
theorem oo_Mo_bars_48 {kA : Nat → ClassId} : or_ok PRD kA GG o_Mo_bars_48 := by
  refine or_mk fun A ta ws vs hD hth hl => ?_
  intro t0 r0 t2 k2 t4 k4 t5 k5 t6 k6 t7 r7 t8 k8 t9 k9 t10 k10 t11 k11 t12 k12 t13 k13 t14 r14 t15 k15 t16 k16 d0 d1 d2 f0 f1 f2 f3 f4 f5 f6 f7 f8 f9 f10 f11 f12 f13 f14 f15 f16 f17
  have kz_0_53 := fdq_275 hD hth r0
  have nf0 : fc_1 PRD (20, [0, 4, 16], [60, 1, 1, 321, 53, 20]) ws (vs) := ⟨nf_in hl rfl, sgq_2289 (vc_Mo_bars_48_0 (v_iv (n_v vs 4)) (v_iv (n_v vs 5)) (v_iv (n_v vs 8)) (v_iv (n_v vs 9)) (v_iv (n_v vs 10)) (v_iv (n_v vs 11)) (v_iv (n_v vs 12)) (v_iv (n_v vs 13)) (v_iv (n_v vs 16)) (w_ei ws (w_ar ws (n_v vs 0) 20)) (w_fi ws (n_v vs 0) 53) k4 k5 k16 d0 (shm_2289 f16) kz_0_53)⟩
  refine ⟨(fun _ h => (by cases h)), [], trivial, ?_, (fun _ h => (by cases h))⟩
  rw [List.append_nil]
  exact List.forall_mem_cons.mpr ⟨⟨show (20 : Nat) < 100 from by decide, nf0⟩, (fun _ h => (by cases h))⟩
set_option maxHeartbeats 4000000 in
theorem vc_Mo_bars_49_r0 (x5 : Int) (x6 : Int) (x8 : Int) (x9 : Int) (x10 : Int) (x11 : Int) (x12 : Int) (x13 : Int) (roundOf_0 : Int → Int) (pm_0 : Int) (pt_0 : Int → Int) (ph_0 : Int → Int) (alive_0 : Int → Int) (rotMany_0 : Int → Int) (rot_0 : Int → Int) (roundBegin_0 : Int → Int) (roundDart_0 : Int → Int) (pn_0 : Int) (rounds_0 : Int) (k5 : 1 ≤ x5 ∧ x5 ≤ 79) (k6 : 2 ≤ x6 ∧ x6 ≤ 80) (k8 : 0 ≤ x8 ∧ x8 ≤ 158) (k10 : 0 ≤ x10 ∧ x10 ≤ 158) (k11 : 1 ≤ x11 ∧ x11 ≤ 1) (k12 : 0 ≤ x12 ∧ x12 ≤ 159) (k13 : (-1) ≤ x13 ∧ x13 ≤ 159) (d0 : x6 + (-4294967296) ≤ x5 ∧ x5 ≤ x6 + (-1)) (h3 : x13 = roundOf_0 (x12)) (f4 : bvp (x12) = bvp (x10) ^^^ bvp (x11)) (f5 : 1 * x10 + ((-2) * x5 + 0) ≤ 1) (f6 : (-1) * x10 + (2 * x5 + 0) ≤ 0) (f9 : 1 * x8 + ((-2) * x5 + 0) ≤ 1) (f10 : (-1) * x8 + (2 * x5 + 0) ≤ 0) (g12 : x6 = pm_0) (f13 : BRB (pn_0) (pm_0) (rounds_0) (pt_0) (ph_0) (alive_0) (rotMany_0) (rot_0) (roundOf_0) (roundBegin_0) (roundDart_0)) (kz_0_31 : 0 ≤ pn_0 ∧ pn_0 ≤ 25) (kz_0_32 : 0 ≤ pm_0 ∧ pm_0 ≤ 80) (kz_0_53 : 0 ≤ rounds_0 ∧ rounds_0 ≤ 160) : 0 ≤ x13 ∧ x13 ≤ 99 := by
  first
    | omega
    | (have hR := brb_R ‹BRB _ _ _ _ _ _ _ _ _ _ _›; omega)
    | (have hR := brb_R ‹BRB _ _ _ _ _ _ _ _ _ _ _›
       have hx : bvp x8 = bvp x6 ^^^ bvp 1 := by rw [← (by omega : x7 = 1)]; assumption
       have e1 := xor_1 hx (by omega) (by omega) (by omega) (by omega)
       omega)
    | (have hR := brb_R ‹BRB _ _ _ _ _ _ _ _ _ _ _›
       have hx : bvp x12 = bvp x10 ^^^ bvp 1 := by rw [← (by omega : x11 = 1)]; assumption
       have e1 := xor_1 hx (by omega) (by omega) (by omega) (by omega)
       omega)
    | (have hR := brb_R ‹BRB _ _ _ _ _ _ _ _ _ _ _›
       have r1 := brb_ro (d := x8) ‹BRB _ _ _ _ _ _ _ _ _ _ _› (by omega) (by omega)
       omega)
    | (have hR := brb_R ‹BRB _ _ _ _ _ _ _ _ _ _ _›
       have r1 := brb_ro (d := x8) ‹BRB _ _ _ _ _ _ _ _ _ _ _› (by omega) (by omega)
       have hx : bvp x12 = bvp x10 ^^^ bvp 1 := by rw [← (by omega : x11 = 1)]; assumption
       have e1 := xor_1 hx (by omega) (by omega) (by omega) (by omega)
       have r2 := brb_ro (d := x12) ‹BRB _ _ _ _ _ _ _ _ _ _ _› (by omega) (by omega)
       omega)
    | (have hR := brb_R ‹BRB _ _ _ _ _ _ _ _ _ _ _›
       have r1 := brb_ro (d := x8) ‹BRB _ _ _ _ _ _ _ _ _ _ _› (by omega) (by omega)
       have hx : bvp x12 = bvp x10 ^^^ bvp 1 := by rw [← (by omega : x11 = 1)]; assumption
       have e1 := xor_1 hx (by omega) (by omega) (by omega) (by omega)
       have r2 := brb_ro (d := x12) ‹BRB _ _ _ _ _ _ _ _ _ _ _› (by omega) (by omega)
       have b1 := ‹LNE _ _ _ _› x9 (by omega) (by omega)
       have b2 := ‹LNE _ _ _ _› x13 (by omega) (by omega)
       omega)
    | (have h := ‹PLN _ _ _ _ _ _ _›
       have h1 := h.2.1
       simp only [Int.add_zero] at *
       omega)
def o_Mo_bars_49 : or_T := (293, 16, [(0, (2, 0, 0, [165])), (2, (0, 3, 24, [])), (4, (0, 0, 159, [])), (5, (0, 1, 79, [])), (6, (0, 2, 80, [])), (7, (2, 0, 0, [196])), (8, (0, 0, 158, [])), (9, (0, 0, 99, [])), (10, (0, 0, 158, [])), (11, (0, 1, 1, [])), (12, (0, 0, 159, [])), (13, (0, -1, 159, [])), (14, (2, 0, 0, [175])), (15, (0, 0, 1000000, []))], [(9, [14, 0], [20]), (8, [15], [3]), (10, [15, 14, 9], []), (10, [13, 7, 12], []), (16, [12, 10, 11], [2]), (23, [10, 5], [1, 1, -2]), (23, [10, 5], [0, -1, 2]), (9, [7, 0], [54]), (10, [9, 7, 8], []), (23, [8, 5], [1, 1, -2]), (23, [8, 5], [0, -1, 2]), (7, [5, 6], [2]), (9, [6, 0], [32]), (20, [0], [60, 3, 8, 316, 31, 32, 53, 33, 34, 35, 36, 37, 54, 56, 57]), (20, [2, 0], [50, 1, 0, 1031, 1, 2, 1, 0, 2, 1, 31]), (20, [0, 4, 5], [60, 1, 1, 321, 53, 20]), (20, [0], [60, 1, 1, 786, 31, 75])], [(13, (0, 0, 99, []))], [], [], [], [(5, 6, -4294967296, -1)])
theorem oo_Mo_bars_49 {kA : Nat → ClassId} : or_ok PRD kA GG o_Mo_bars_49 := by
  refine or_mk fun A ta ws vs hD hth hl => ?_
  intro t0 r0 t2 k2 t4 k4 t5 k5 t6 k6 t7 r7 t8 k8 t9 k9 t10 k10 t11 k11 t12 k12 t13 k13 t14 r14 t15 k15 d0 f0 f1 f2 f3 f4 f5 f6 f7 f8 f9 f10 f11 f12 f13 f14 f15 f16
  replace f3 := shm_107 f3
  replace f7 := shm_1122 f7
  replace f12 := shm_525 f12
  have ad_7 : v_ad (n_v vs 7) = w_ar ws (n_v vs 0) 54 := congrArg v_ad f7
  simp only [ad_7] at f3
  have h3 : v_iv (n_v vs 13) = w_ei ws (w_ar ws (n_v vs 0) 54) (v_iv (n_v vs 12)) := f3
  have g12 : v_iv (n_v vs 6) = w_fi ws (n_v vs 0) 32 := congrArg v_iv f12
  have kz_0_31 := fdq_145 hD hth r0
  have kz_0_32 := fdq_140 hD hth r0
  have kz_0_53 := fdq_275 hD hth r0
  have hrf0 : 0 ≤ v_iv (n_v vs 13) ∧ v_iv (n_v vs 13) ≤ 99 := vc_Mo_bars_49_r0 (v_iv (n_v vs 5)) (v_iv (n_v vs 6)) (v_iv (n_v vs 8)) (v_iv (n_v vs 9)) (v_iv (n_v vs 10)) (v_iv (n_v vs 11)) (v_iv (n_v vs 12)) (v_iv (n_v vs 13)) (w_ei ws (w_ar ws (n_v vs 0) 54)) (w_fi ws (n_v vs 0) 32) (w_ei ws (w_ar ws (n_v vs 0) 33)) (w_ei ws (w_ar ws (n_v vs 0) 34)) (w_ei ws (w_ar ws (n_v vs 0) 35)) (w_ei ws (w_ar ws (n_v vs 0) 36)) (w_ei ws (w_ar ws (n_v vs 0) 37)) (w_ei ws (w_ar ws (n_v vs 0) 56)) (w_ei ws (w_ar ws (n_v vs 0) 57)) (w_fi ws (n_v vs 0) 31) (w_fi ws (n_v vs 0) 53) k5 k6 k8 k10 k11 k12 k13 d0 h3 (shm_33 f4) (shm_143 f5) (shm_144 f6) (shm_143 f9) (shm_144 f10) g12 (shm_1123 f13) kz_0_31 kz_0_32 kz_0_53
  have rf13 : tv_ok ta (0, 0, 99, []) (n_v vs 13) := tv_in t13 (by first | omega | grind) (by first | omega | grind)
  refine ⟨List.forall_mem_cons.mpr ⟨rf13, (fun _ h => (by cases h))⟩, [], trivial, ?_, (fun _ h => (by cases h))⟩
  rw [List.append_nil]
  exact (fun _ h => (by cases h))
set_option maxHeartbeats 4000000 in
theorem vc_Mo_bars_50_r0 (x4 : Int) (x5 : Int) (x6 : Int) (x8 : Int) (x9 : Int) (x10 : Int) (x11 : Int) (x12 : Int) (x13 : Int) (x15 : Int) (x17 : Int) (x19 : Int) (line_0 : Int → Int) (roundOf_0 : Int → Int) (pm_0 : Int) (pt_0 : Int → Int) (ph_0 : Int → Int) (alive_0 : Int → Int) (rotMany_0 : Int → Int) (rot_0 : Int → Int) (roundBegin_0 : Int → Int) (roundDart_0 : Int → Int) (pn_0 : Int) (rounds_0 : Int) (k4 : 0 ≤ x4 ∧ x4 ≤ 159) (k5 : 1 ≤ x5 ∧ x5 ≤ 79) (k6 : 2 ≤ x6 ∧ x6 ≤ 80) (k8 : 0 ≤ x8 ∧ x8 ≤ 158) (k9 : 0 ≤ x9 ∧ x9 ≤ 99) (k10 : 0 ≤ x10 ∧ x10 ≤ 158) (k11 : 1 ≤ x11 ∧ x11 ≤ 1) (k12 : 0 ≤ x12 ∧ x12 ≤ 159) (k13 : 0 ≤ x13 ∧ x13 ≤ 99) (k15 : 0 ≤ x15 ∧ x15 ≤ 1000000) (k17 : (-1000000) ≤ x17 ∧ x17 ≤ 1000000) (k19 : (-999999) ≤ x19 ∧ x19 ≤ 1000001) (d1 : x17 + 1 ≤ x19 ∧ x19 ≤ x17 + 1) (d2 : x6 + (-4294967296) ≤ x5 ∧ x5 ≤ x6 + (-1)) (h3 : x17 = line_0 (x9)) (h7 : x15 = line_0 (x9)) (h8 : x13 = roundOf_0 (x12)) (f9 : bvp (x12) = bvp (x10) ^^^ bvp (x11)) (f10 : 1 * x10 + ((-2) * x5 + 0) ≤ 1) (f11 : (-1) * x10 + (2 * x5 + 0) ≤ 0) (h13 : x9 = roundOf_0 (x8)) (f14 : 1 * x8 + ((-2) * x5 + 0) ≤ 1) (f15 : (-1) * x8 + (2 * x5 + 0) ≤ 0) (g17 : x6 = pm_0) (f18 : BRB (pn_0) (pm_0) (rounds_0) (pt_0) (ph_0) (alive_0) (rotMany_0) (rot_0) (roundOf_0) (roundBegin_0) (roundDart_0)) (f20 : LNE (rounds_0) (line_0) (x4) (x5)) (kz_0_31 : 0 ≤ pn_0 ∧ pn_0 ≤ 25) (kz_0_32 : 0 ≤ pm_0 ∧ pm_0 ≤ 80) (kz_0_53 : 0 ≤ rounds_0 ∧ rounds_0 ≤ 160) : (-999999) ≤ x19 ∧ x19 ≤ 1000000 := by
  first
    | omega
    | (have hR := brb_R ‹BRB _ _ _ _ _ _ _ _ _ _ _›; omega)
    | (have hR := brb_R ‹BRB _ _ _ _ _ _ _ _ _ _ _›
       have hx : bvp x8 = bvp x6 ^^^ bvp 1 := by rw [← (by omega : x7 = 1)]; assumption
       have e1 := xor_1 hx (by omega) (by omega) (by omega) (by omega)
       omega)
    | (have hR := brb_R ‹BRB _ _ _ _ _ _ _ _ _ _ _›
       have hx : bvp x12 = bvp x10 ^^^ bvp 1 := by rw [← (by omega : x11 = 1)]; assumption
       have e1 := xor_1 hx (by omega) (by omega) (by omega) (by omega)
       omega)
    | (have hR := brb_R ‹BRB _ _ _ _ _ _ _ _ _ _ _›
       have r1 := brb_ro (d := x8) ‹BRB _ _ _ _ _ _ _ _ _ _ _› (by omega) (by omega)
       omega)
    | (have hR := brb_R ‹BRB _ _ _ _ _ _ _ _ _ _ _›
       have r1 := brb_ro (d := x8) ‹BRB _ _ _ _ _ _ _ _ _ _ _› (by omega) (by omega)
       have hx : bvp x12 = bvp x10 ^^^ bvp 1 := by rw [← (by omega : x11 = 1)]; assumption
       have e1 := xor_1 hx (by omega) (by omega) (by omega) (by omega)
       have r2 := brb_ro (d := x12) ‹BRB _ _ _ _ _ _ _ _ _ _ _› (by omega) (by omega)
       omega)
    | (have hR := brb_R ‹BRB _ _ _ _ _ _ _ _ _ _ _›
       have r1 := brb_ro (d := x8) ‹BRB _ _ _ _ _ _ _ _ _ _ _› (by omega) (by omega)
       have hx : bvp x12 = bvp x10 ^^^ bvp 1 := by rw [← (by omega : x11 = 1)]; assumption
       have e1 := xor_1 hx (by omega) (by omega) (by omega) (by omega)
       have r2 := brb_ro (d := x12) ‹BRB _ _ _ _ _ _ _ _ _ _ _› (by omega) (by omega)
       have b1 := ‹LNE _ _ _ _› x9 (by omega) (by omega)
       have b2 := ‹LNE _ _ _ _› x13 (by omega) (by omega)
       omega)
    | (have h := ‹PLN _ _ _ _ _ _ _›
       have h1 := h.2.1
       simp only [Int.add_zero] at *
       omega)
def o_Mo_bars_50 : or_T := (306, 20, [(0, (2, 0, 0, [165])), (2, (0, 3, 24, [])), (4, (0, 0, 159, [])), (5, (0, 1, 79, [])), (6, (0, 2, 80, [])), (7, (2, 0, 0, [196])), (8, (0, 0, 158, [])), (9, (0, 0, 99, [])), (10, (0, 0, 158, [])), (11, (0, 1, 1, [])), (12, (0, 0, 159, [])), (13, (0, 0, 99, [])), (14, (2, 0, 0, [175])), (15, (0, 0, 1000000, [])), (16, (0, -1000000, 1000000, [])), (17, (0, -1000000, 1000000, [])), (18, (0, 1, 1, [])), (19, (0, -999999, 1000001, []))], [(7, [16, 19], [5]), (7, [19, 19], [5]), (1, [19, 17, 18], []), (10, [17, 14, 9], []), (9, [14, 0], [20]), (10, [16, 14, 13], []), (8, [15], [3]), (10, [15, 14, 9], []), (10, [13, 7, 12], []), (16, [12, 10, 11], [2]), (23, [10, 5], [1, 1, -2]), (23, [10, 5], [0, -1, 2]), (9, [7, 0], [54]), (10, [9, 7, 8], []), (23, [8, 5], [1, 1, -2]), (23, [8, 5], [0, -1, 2]), (7, [5, 6], [2]), (9, [6, 0], [32]), (20, [0], [60, 3, 8, 316, 31, 32, 53, 33, 34, 35, 36, 37, 54, 56, 57]), (20, [2, 0], [50, 1, 0, 1031, 1, 2, 1, 0, 2, 1, 31]), (20, [0, 4, 5], [60, 1, 1, 321, 53, 20]), (20, [0], [60, 1, 1, 786, 31, 75])], [(19, (0, -999999, 1000000, []))], [], [], [], [(16, 19, -4294967296, 0), (19, 17, 1, 1), (5, 6, -4294967296, -1)])
theorem oo_Mo_bars_50 {kA : Nat → ClassId} : or_ok PRD kA GG o_Mo_bars_50 := by
  refine or_mk fun A ta ws vs hD hth hl => ?_
  intro t0 r0 t2 k2 t4 k4 t5 k5 t6 k6 t7 r7 t8 k8 t9 k9 t10 k10 t11 k11 t12 k12 t13 k13 t14 r14 t15 k15 t16 k16 t17 k17 t18 k18 t19 k19 d0 d1 d2 f0 f1 f2 f3 f4 f5 f6 f7 f8 f9 f10 f11 f12 f13 f14 f15 f16 f17 f18 f19 f20 f21
  replace f3 := shm_107 f3
  replace f4 := shm_740 f4
  replace f7 := shm_107 f7
  replace f8 := shm_107 f8
  replace f12 := shm_1122 f12
  replace f13 := shm_107 f13
  replace f17 := shm_525 f17
  have ad_14 : v_ad (n_v vs 14) = w_ar ws (n_v vs 0) 20 := congrArg v_ad f4
  have ad_7 : v_ad (n_v vs 7) = w_ar ws (n_v vs 0) 54 := congrArg v_ad f12
  simp only [ad_14] at f3
  have h3 : v_iv (n_v vs 17) = w_ei ws (w_ar ws (n_v vs 0) 20) (v_iv (n_v vs 9)) := f3
  simp only [ad_14] at f7
  have h7 : v_iv (n_v vs 15) = w_ei ws (w_ar ws (n_v vs 0) 20) (v_iv (n_v vs 9)) := f7
  simp only [ad_7] at f8
  have h8 : v_iv (n_v vs 13) = w_ei ws (w_ar ws (n_v vs 0) 54) (v_iv (n_v vs 12)) := f8
  simp only [ad_7] at f13
  have h13 : v_iv (n_v vs 9) = w_ei ws (w_ar ws (n_v vs 0) 54) (v_iv (n_v vs 8)) := f13
  have g17 : v_iv (n_v vs 6) = w_fi ws (n_v vs 0) 32 := congrArg v_iv f17
  have kz_0_31 := fdq_145 hD hth r0
  have kz_0_32 := fdq_140 hD hth r0
  have kz_0_53 := fdq_275 hD hth r0
  have hrf0 : (-999999) ≤ v_iv (n_v vs 19) ∧ v_iv (n_v vs 19) ≤ 1000000 := vc_Mo_bars_50_r0 (v_iv (n_v vs 4)) (v_iv (n_v vs 5)) (v_iv (n_v vs 6)) (v_iv (n_v vs 8)) (v_iv (n_v vs 9)) (v_iv (n_v vs 10)) (v_iv (n_v vs 11)) (v_iv (n_v vs 12)) (v_iv (n_v vs 13)) (v_iv (n_v vs 15)) (v_iv (n_v vs 17)) (v_iv (n_v vs 19)) (w_ei ws (w_ar ws (n_v vs 0) 20)) (w_ei ws (w_ar ws (n_v vs 0) 54)) (w_fi ws (n_v vs 0) 32) (w_ei ws (w_ar ws (n_v vs 0) 33)) (w_ei ws (w_ar ws (n_v vs 0) 34)) (w_ei ws (w_ar ws (n_v vs 0) 35)) (w_ei ws (w_ar ws (n_v vs 0) 36)) (w_ei ws (w_ar ws (n_v vs 0) 37)) (w_ei ws (w_ar ws (n_v vs 0) 56)) (w_ei ws (w_ar ws (n_v vs 0) 57)) (w_fi ws (n_v vs 0) 31) (w_fi ws (n_v vs 0) 53) k4 k5 k6 k8 k9 k10 k11 k12 k13 k15 k17 k19 d1 d2 h3 h7 h8 (shm_33 f9) (shm_143 f10) (shm_144 f11) h13 (shm_143 f14) (shm_144 f15) g17 (shm_1123 f18) (shm_2289 f20) kz_0_31 kz_0_32 kz_0_53
  have rf19 : tv_ok ta (0, -999999, 1000000, []) (n_v vs 19) := tv_in t19 (by first | omega | grind) (by first | omega | grind)
  refine ⟨List.forall_mem_cons.mpr ⟨rf19, (fun _ h => (by cases h))⟩, [], trivial, ?_, (fun _ h => (by cases h))⟩
  rw [List.append_nil]
  exact (fun _ h => (by cases h))
set_option maxHeartbeats 4000000 in
theorem vc_Mo_bars_51_0 (x4 : Int) (x5 : Int) (x6 : Int) (x8 : Int) (x9 : Int) (x10 : Int) (x11 : Int) (x12 : Int) (x13 : Int) (x15 : Int) (x17 : Int) (x19 : Int) (x20 : Int) (pt_0 : Int → Int) (ph_0 : Int → Int) (alive_0 : Int → Int) (rotMany_0 : Int → Int) (rot_0 : Int → Int) (roundOf_0 : Int → Int) (roundBegin_0 : Int → Int) (roundDart_0 : Int → Int) (pn_0 : Int) (pm_0 : Int) (rounds_0 : Int) (ny_0 : Int → Int) (line_1 : Int → Int) (roundOf_1 : Int → Int) (pm_1 : Int) (pt_1 : Int → Int) (ph_1 : Int → Int) (alive_1 : Int → Int) (rotMany_1 : Int → Int) (rot_1 : Int → Int) (roundBegin_1 : Int → Int) (roundDart_1 : Int → Int) (pn_1 : Int) (rounds_1 : Int) (ny_1 : Int → Int) (line_0 : Int → Int) (k4 : 0 ≤ x4 ∧ x4 ≤ 159) (k5 : 1 ≤ x5 ∧ x5 ≤ 79) (k6 : 2 ≤ x6 ∧ x6 ≤ 80) (k8 : 0 ≤ x8 ∧ x8 ≤ 158) (k9 : 0 ≤ x9 ∧ x9 ≤ 99) (k10 : 0 ≤ x10 ∧ x10 ≤ 158) (k11 : 1 ≤ x11 ∧ x11 ≤ 1) (k12 : 0 ≤ x12 ∧ x12 ≤ 159) (k13 : 0 ≤ x13 ∧ x13 ≤ 99) (k15 : 0 ≤ x15 ∧ x15 ≤ 1000000) (k17 : (-1000000) ≤ x17 ∧ x17 ≤ 1000000) (k19 : (-999999) ≤ x19 ∧ x19 ≤ 1000000) (k20 : 2 ≤ x20 ∧ x20 ≤ 80) (d0 : x5 + 1 ≤ x20 ∧ x20 ≤ x5 + 1) (d1 : x6 + (-4294967296) ≤ x20 ∧ x20 ≤ x6 + 0) (d3 : x17 + 1 ≤ x19 ∧ x19 ≤ x17 + 1) (d4 : x6 + (-4294967296) ≤ x5 ∧ x5 ≤ x6 + (-1)) (f1 : 1 * x10 + ((-2) * x5 + 0) ≤ 1) (f2 : (-1) * x10 + (2 * x5 + 0) ≤ 0) (f3 : 1 * x8 + ((-2) * x5 + 0) ≤ 1) (f4 : (-1) * x8 + (2 * x5 + 0) ≤ 0) (h12 : x17 = line_1 (x9)) (h16 : x15 = line_1 (x9)) (h17 : x13 = roundOf_1 (x12)) (f18 : bvp (x12) = bvp (x10) ^^^ bvp (x11)) (h22 : x9 = roundOf_1 (x8)) (g26 : x6 = pm_1) (f27 : BRB (pn_1) (pm_1) (rounds_1) (pt_1) (ph_1) (alive_1) (rotMany_1) (rot_1) (roundOf_1) (roundBegin_1) (roundDart_1)) (f29 : LNE (rounds_1) (line_1) (x4) (x5)) (fe_0_31_1 : pn_0 = pn_1) (fe_0_32_1 : pm_0 = pm_1) (fe_0_53_1 : rounds_0 = rounds_1) (hE_0_20_1 : ∀ j : Int, 0 ≤ j → (j = x13 → line_0 j = x19) ∧ (j ≠ x13 → line_0 j = line_1 j)) (hE_0_33_1 : ∀ j : Int, pt_0 j = pt_1 j) (hE_0_34_1 : ∀ j : Int, ph_0 j = ph_1 j) (hE_0_35_1 : ∀ j : Int, alive_0 j = alive_1 j) (hE_0_36_1 : ∀ j : Int, rotMany_0 j = rotMany_1 j) (hE_0_37_1 : ∀ j : Int, rot_0 j = rot_1 j) (hE_0_54_1 : ∀ j : Int, roundOf_0 j = roundOf_1 j) (hE_0_56_1 : ∀ j : Int, roundBegin_0 j = roundBegin_1 j) (hE_0_57_1 : ∀ j : Int, roundDart_0 j = roundDart_1 j) (hE_0_75_1 : ∀ j : Int, ny_0 j = ny_1 j) (kz_0_31 : 0 ≤ pn_0 ∧ pn_0 ≤ 25) (kz_0_32 : 0 ≤ pm_0 ∧ pm_0 ≤ 80) (kz_0_53 : 0 ≤ rounds_0 ∧ rounds_0 ≤ 160) : LNE (rounds_0) (line_0) (x4) (x20) := by
  subst fe_0_31_1
  subst fe_0_32_1
  subst fe_0_53_1
  have e_hE_0_33_1 := funext hE_0_33_1; subst e_hE_0_33_1
  have e_hE_0_34_1 := funext hE_0_34_1; subst e_hE_0_34_1
  have e_hE_0_35_1 := funext hE_0_35_1; subst e_hE_0_35_1
  have e_hE_0_36_1 := funext hE_0_36_1; subst e_hE_0_36_1
  have e_hE_0_37_1 := funext hE_0_37_1; subst e_hE_0_37_1
  have e_hE_0_54_1 := funext hE_0_54_1; subst e_hE_0_54_1
  have e_hE_0_56_1 := funext hE_0_56_1; subst e_hE_0_56_1
  have e_hE_0_57_1 := funext hE_0_57_1; subst e_hE_0_57_1
  have e_hE_0_75_1 := funext hE_0_75_1; subst e_hE_0_75_1
  first
    | exact lnb_le ‹LNR _ _ _› (by omega)
    | exact lnb_le ‹LNE _ _ _ _› (by omega)
    | (have hR := brb_R ‹BRB _ _ _ _ _ _ _ _ _ _ _›
       have r1 := brb_ro (d := x8) ‹BRB _ _ _ _ _ _ _ _ _ _ _› (by omega) (by omega)
       have hx : bvp x12 = bvp x10 ^^^ bvp 1 := by rw [← (by omega : x11 = 1)]; assumption
       have e1 := xor_1 hx (by omega) (by omega) (by omega) (by omega)
       have r2 := brb_ro (d := x12) ‹BRB _ _ _ _ _ _ _ _ _ _ _› (by omega) (by omega)
       have b1 := ‹LNE _ _ _ _› x9 (by omega) (by omega)
       have b2 := ‹LNE _ _ _ _› x13 (by omega) (by omega)
       exact lnb_step ‹LNE _ _ _ _› (by omega) (by assumption) (by omega) (by omega))
def o_Mo_bars_51 : or_T := (234, 21, [(0, (2, 0, 0, [165])), (2, (0, 3, 24, [])), (4, (0, 0, 159, [])), (5, (0, 1, 79, [])), (6, (0, 2, 80, [])), (7, (2, 0, 0, [196])), (8, (0, 0, 158, [])), (9, (0, 0, 99, [])), (10, (0, 0, 158, [])), (11, (0, 1, 1, [])), (12, (0, 0, 159, [])), (13, (0, 0, 99, [])), (14, (2, 0, 0, [175])), (15, (0, 0, 1000000, [])), (16, (0, -1000000, 1000000, [])), (17, (0, -1000000, 1000000, [])), (18, (0, 1, 1, [])), (19, (0, -999999, 1000000, [])), (20, (0, 2, 80, []))], [(6, [20, 5], [1]), (23, [10, 5], [1, 1, -2]), (23, [10, 5], [0, -1, 2]), (23, [8, 5], [1, 1, -2]), (23, [8, 5], [0, -1, 2]), (20, [0], [60, 3, 8, 316, 31, 32, 53, 33, 34, 35, 36, 37, 54, 56, 57]), (20, [2, 0], [50, 1, 0, 1031, 1, 2, 1, 0, 2, 1, 31]), (20, [0], [60, 1, 1, 786, 31, 75]), (100, [14, 13, 19], []), (7, [16, 19], [5]), (7, [19, 19], [5]), (1, [19, 17, 18], []), (10, [17, 14, 9], []), (9, [14, 0], [20]), (10, [16, 14, 13], []), (8, [15], [3]), (10, [15, 14, 9], []), (10, [13, 7, 12], []), (16, [12, 10, 11], [2]), (23, [10, 5], [1, 1, -2]), (23, [10, 5], [0, -1, 2]), (9, [7, 0], [54]), (10, [9, 7, 8], []), (23, [8, 5], [1, 1, -2]), (23, [8, 5], [0, -1, 2]), (7, [5, 6], [2]), (9, [6, 0], [32]), (20, [0], [60, 3, 8, 316, 31, 32, 53, 33, 34, 35, 36, 37, 54, 56, 57]), (20, [2, 0], [50, 1, 0, 1031, 1, 2, 1, 0, 2, 1, 31]), (20, [0, 4, 5], [60, 1, 1, 321, 53, 20]), (20, [0], [60, 1, 1, 786, 31, 75])], [], [], [(20, [0, 4, 20], [60, 1, 1, 321, 53, 20])], [], [(20, 5, 1, 1), (20, 6, -4294967296, 0), (16, 19, -4294967296, 0), (19, 17, 1, 1), (5, 6, -4294967296, -1)])
theorem oo_Mo_bars_51 {kA : Nat → ClassId} : or_ok PRD kA GG o_Mo_bars_51 := by
  refine or_mk fun A ta ws vs hD hth hl => ?_
  intro t0 r0 t2 k2 t4 k4 t5 k5 t6 k6 t7 r7 t8 k8 t9 k9 t10 k10 t11 k11 t12 k12 t13 k13 t14 r14 t15 k15 t16 k16 t17 k17 t18 k18 t19 k19 t20 k20 d0 d1 d2 d3 d4 f0 f1 f2 f3 f4 f5 f6 f7 ta1 w1 le1 s1 f9 f10 f11 f12 f13 f14 f15 f16 f17 f18 f19 f20 f21 f22 f23 f24 f25 f26 f27 f28 f29 f30
  have s1 : (∀ b j, w_el ws b j = if b = v_ad (n_v vs 14) ∧ j = (v_iv (n_v vs 13)).toNat then v_iv (n_v vs 19) else w_el w1 b j) ∧ ∀ b k, w_fd ws b k = w_fd w1 b k := s1.2
  replace f12 := shm_107 f12
  replace f13 := shm_740 f13
  replace f16 := shm_107 f16
  replace f17 := shm_107 f17
  replace f21 := shm_1122 f21
  replace f22 := shm_107 f22
  replace f26 := shm_525 f26
  replace f27 := shm_1123 f27
  replace f29 := shm_2289 f29
  have ar_0_20_1 : w_ar w1 (n_v vs 0) 20 = w_ar ws (n_v vs 0) 20 := congrArg v_ad (s1.2 _ _).symm
  have ar_0_33_1 : w_ar w1 (n_v vs 0) 33 = w_ar ws (n_v vs 0) 33 := congrArg v_ad (s1.2 _ _).symm
  have cr_0_33 := fdq_117 hD hth r0
  have ar_0_34_1 : w_ar w1 (n_v vs 0) 34 = w_ar ws (n_v vs 0) 34 := congrArg v_ad (s1.2 _ _).symm
  have cr_0_34 := fdq_118 hD hth r0
  have ar_0_35_1 : w_ar w1 (n_v vs 0) 35 = w_ar ws (n_v vs 0) 35 := congrArg v_ad (s1.2 _ _).symm
  have cr_0_35 := fdq_132 hD hth r0
  have ar_0_36_1 : w_ar w1 (n_v vs 0) 36 = w_ar ws (n_v vs 0) 36 := congrArg v_ad (s1.2 _ _).symm
  have cr_0_36 := fdq_167 hD hth r0
  have ar_0_37_1 : w_ar w1 (n_v vs 0) 37 = w_ar ws (n_v vs 0) 37 := congrArg v_ad (s1.2 _ _).symm
  have cr_0_37 := fdq_168 hD hth r0
  have ar_0_54_1 : w_ar w1 (n_v vs 0) 54 = w_ar ws (n_v vs 0) 54 := congrArg v_ad (s1.2 _ _).symm
  have cr_0_54 := fdq_272 hD hth r0
  have ar_0_56_1 : w_ar w1 (n_v vs 0) 56 = w_ar ws (n_v vs 0) 56 := congrArg v_ad (s1.2 _ _).symm
  have cr_0_56 := fdq_273 hD hth r0
  have ar_0_57_1 : w_ar w1 (n_v vs 0) 57 = w_ar ws (n_v vs 0) 57 := congrArg v_ad (s1.2 _ _).symm
  have cr_0_57 := fdq_274 hD hth r0
  have ar_0_75_1 : w_ar w1 (n_v vs 0) 75 = w_ar ws (n_v vs 0) 75 := congrArg v_ad (s1.2 _ _).symm
  have cr_0_75 := fdq_165 hD hth r0
  have ad_14 : v_ad (n_v vs 14) = w_ar ws (n_v vs 0) 20 := (congrArg v_ad f13).trans ar_0_20_1
  have ad_7 : v_ad (n_v vs 7) = w_ar ws (n_v vs 0) 54 := (congrArg v_ad f21).trans ar_0_54_1
  simp only [ad_14] at f12
  have h12 : v_iv (n_v vs 17) = w_ei w1 (w_ar ws (n_v vs 0) 20) (v_iv (n_v vs 9)) := f12
  simp only [ad_14] at f16
  have h16 : v_iv (n_v vs 15) = w_ei w1 (w_ar ws (n_v vs 0) 20) (v_iv (n_v vs 9)) := f16
  simp only [ad_7] at f17
  have h17 : v_iv (n_v vs 13) = w_ei w1 (w_ar ws (n_v vs 0) 54) (v_iv (n_v vs 12)) := f17
  simp only [ad_7] at f22
  have h22 : v_iv (n_v vs 9) = w_ei w1 (w_ar ws (n_v vs 0) 54) (v_iv (n_v vs 8)) := f22
  have g26 : v_iv (n_v vs 6) = w_fi w1 (n_v vs 0) 32 := congrArg v_iv f26
  simp only [ar_0_33_1, ar_0_34_1, ar_0_35_1, ar_0_36_1, ar_0_37_1, ar_0_54_1, ar_0_56_1, ar_0_57_1, ar_0_20_1, ar_0_75_1] at f27 f29
  have fe_0_31_1 : w_fi ws (n_v vs 0) 31 = w_fi w1 (n_v vs 0) 31 := congrArg v_iv (s1.2 _ _)
  have fe_0_32_1 : w_fi ws (n_v vs 0) 32 = w_fi w1 (n_v vs 0) 32 := congrArg v_iv (s1.2 _ _)
  have fe_0_53_1 : w_fi ws (n_v vs 0) 53 = w_fi w1 (n_v vs 0) 53 := congrArg v_iv (s1.2 _ _)
  have hE_0_20_1 : ∀ j : Int, 0 ≤ j → (j = v_iv (n_v vs 13) → w_ei ws (w_ar ws (n_v vs 0) 20) j = v_iv (n_v vs 19)) ∧ (j ≠ v_iv (n_v vs 13) → w_ei ws (w_ar ws (n_v vs 0) 20) j = w_ei w1 (w_ar ws (n_v vs 0) 20) j) := fun j hj => ⟨fun h => by unfold w_ei; rw [s1.1, if_pos ⟨ad_14.symm, by rw [h]⟩], fun h => by unfold w_ei; rw [s1.1, if_neg (fun e => h (by have := e.2; omega))]⟩
  have hE_0_33_1 : ∀ j : Int, w_ei ws (w_ar ws (n_v vs 0) 33) j = w_ei w1 (w_ar ws (n_v vs 0) 33) j := el_kp s1.1 r14 cr_0_33 (by decide)
  have hE_0_34_1 : ∀ j : Int, w_ei ws (w_ar ws (n_v vs 0) 34) j = w_ei w1 (w_ar ws (n_v vs 0) 34) j := el_kp s1.1 r14 cr_0_34 (by decide)
  have hE_0_35_1 : ∀ j : Int, w_ei ws (w_ar ws (n_v vs 0) 35) j = w_ei w1 (w_ar ws (n_v vs 0) 35) j := el_kp s1.1 r14 cr_0_35 (by decide)
  have hE_0_36_1 : ∀ j : Int, w_ei ws (w_ar ws (n_v vs 0) 36) j = w_ei w1 (w_ar ws (n_v vs 0) 36) j := el_kp s1.1 r14 cr_0_36 (by decide)
  have hE_0_37_1 : ∀ j : Int, w_ei ws (w_ar ws (n_v vs 0) 37) j = w_ei w1 (w_ar ws (n_v vs 0) 37) j := el_kp s1.1 r14 cr_0_37 (by decide)
  have hE_0_54_1 : ∀ j : Int, w_ei ws (w_ar ws (n_v vs 0) 54) j = w_ei w1 (w_ar ws (n_v vs 0) 54) j := el_kp s1.1 r14 cr_0_54 (by decide)
  have hE_0_56_1 : ∀ j : Int, w_ei ws (w_ar ws (n_v vs 0) 56) j = w_ei w1 (w_ar ws (n_v vs 0) 56) j := el_kp s1.1 r14 cr_0_56 (by decide)
  have hE_0_57_1 : ∀ j : Int, w_ei ws (w_ar ws (n_v vs 0) 57) j = w_ei w1 (w_ar ws (n_v vs 0) 57) j := el_kp s1.1 r14 cr_0_57 (by decide)
  have hE_0_75_1 : ∀ j : Int, w_ei ws (w_ar ws (n_v vs 0) 75) j = w_ei w1 (w_ar ws (n_v vs 0) 75) j := el_kp s1.1 r14 cr_0_75 (by decide)
  have kz_0_31 := fdq_145 hD hth r0
  have kz_0_32 := fdq_140 hD hth r0
  have kz_0_53 := fdq_275 hD hth r0
  have nf0 : fc_1 PRD (20, [0, 4, 20], [60, 1, 1, 321, 53, 20]) ws (vs) := ⟨nf_in hl rfl, sgq_2289 (vc_Mo_bars_51_0 (v_iv (n_v vs 4)) (v_iv (n_v vs 5)) (v_iv (n_v vs 6)) (v_iv (n_v vs 8)) (v_iv (n_v vs 9)) (v_iv (n_v vs 10)) (v_iv (n_v vs 11)) (v_iv (n_v vs 12)) (v_iv (n_v vs 13)) (v_iv (n_v vs 15)) (v_iv (n_v vs 17)) (v_iv (n_v vs 19)) (v_iv (n_v vs 20)) (w_ei ws (w_ar ws (n_v vs 0) 33)) (w_ei ws (w_ar ws (n_v vs 0) 34)) (w_ei ws (w_ar ws (n_v vs 0) 35)) (w_ei ws (w_ar ws (n_v vs 0) 36)) (w_ei ws (w_ar ws (n_v vs 0) 37)) (w_ei ws (w_ar ws (n_v vs 0) 54)) (w_ei ws (w_ar ws (n_v vs 0) 56)) (w_ei ws (w_ar ws (n_v vs 0) 57)) (w_fi ws (n_v vs 0) 31) (w_fi ws (n_v vs 0) 32) (w_fi ws (n_v vs 0) 53) (w_ei ws (w_ar ws (n_v vs 0) 75)) (w_ei w1 (w_ar ws (n_v vs 0) 20)) (w_ei w1 (w_ar ws (n_v vs 0) 54)) (w_fi w1 (n_v vs 0) 32) (w_ei w1 (w_ar ws (n_v vs 0) 33)) (w_ei w1 (w_ar ws (n_v vs 0) 34)) (w_ei w1 (w_ar ws (n_v vs 0) 35)) (w_ei w1 (w_ar ws (n_v vs 0) 36)) (w_ei w1 (w_ar ws (n_v vs 0) 37)) (w_ei w1 (w_ar ws (n_v vs 0) 56)) (w_ei w1 (w_ar ws (n_v vs 0) 57)) (w_fi w1 (n_v vs 0) 31) (w_fi w1 (n_v vs 0) 53) (w_ei w1 (w_ar ws (n_v vs 0) 75)) (w_ei ws (w_ar ws (n_v vs 0) 20)) k4 k5 k6 k8 k9 k10 k11 k12 k13 k15 k17 k19 k20 d0 d1 d3 d4 (shm_143 f1) (shm_144 f2) (shm_143 f3) (shm_144 f4) h12 h16 h17 (shm_33 f18) h22 g26 f27 f29 fe_0_31_1 fe_0_32_1 fe_0_53_1 hE_0_20_1 hE_0_33_1 hE_0_34_1 hE_0_35_1 hE_0_36_1 hE_0_37_1 hE_0_54_1 hE_0_56_1 hE_0_57_1 hE_0_75_1 kz_0_31 kz_0_32 kz_0_53)⟩
  refine ⟨(fun _ h => (by cases h)), [], trivial, ?_, (fun _ h => (by cases h))⟩
  rw [List.append_nil]
  exact List.forall_mem_cons.mpr ⟨⟨show (20 : Nat) < 100 from by decide, nf0⟩, (fun _ h => (by cases h))⟩
set_option maxHeartbeats 4000000 in
theorem vc_Mo_bars_52_0 (x4 : Int) (x5 : Int) (x6 : Int) (x8 : Int) (x9 : Int) (x10 : Int) (x11 : Int) (x12 : Int) (x13 : Int) (x16 : Int) (x20 : Int) (pt_0 : Int → Int) (ph_0 : Int → Int) (alive_0 : Int → Int) (rotMany_0 : Int → Int) (rot_0 : Int → Int) (roundOf_0 : Int → Int) (roundBegin_0 : Int → Int) (roundDart_0 : Int → Int) (pn_0 : Int) (pm_0 : Int) (rounds_0 : Int) (ny_0 : Int → Int) (line_1 : Int → Int) (roundOf_1 : Int → Int) (pm_1 : Int) (pt_1 : Int → Int) (ph_1 : Int → Int) (alive_1 : Int → Int) (rotMany_1 : Int → Int) (rot_1 : Int → Int) (roundBegin_1 : Int → Int) (roundDart_1 : Int → Int) (pn_1 : Int) (rounds_1 : Int) (ny_1 : Int → Int) (line_0 : Int → Int) (k4 : 0 ≤ x4 ∧ x4 ≤ 159) (k5 : 1 ≤ x5 ∧ x5 ≤ 79) (k6 : 2 ≤ x6 ∧ x6 ≤ 80) (k8 : 0 ≤ x8 ∧ x8 ≤ 158) (k9 : 0 ≤ x9 ∧ x9 ≤ 99) (k10 : 0 ≤ x10 ∧ x10 ≤ 158) (k11 : 1 ≤ x11 ∧ x11 ≤ 1) (k12 : 0 ≤ x12 ∧ x12 ≤ 159) (k13 : 0 ≤ x13 ∧ x13 ≤ 99) (k16 : (-999998) ≤ x16 ∧ x16 ≤ 1000000) (k20 : 2 ≤ x20 ∧ x20 ≤ 80) (d0 : x5 + 1 ≤ x20 ∧ x20 ≤ x5 + 1) (d1 : x6 + (-4294967296) ≤ x20 ∧ x20 ≤ x6 + 0) (d4 : x6 + (-4294967296) ≤ x5 ∧ x5 ≤ x6 + (-1)) (f1 : 1 * x10 + ((-2) * x5 + 0) ≤ 1) (f2 : (-1) * x10 + (2 * x5 + 0) ≤ 0) (f3 : 1 * x8 + ((-2) * x5 + 0) ≤ 1) (f4 : (-1) * x8 + (2 * x5 + 0) ≤ 0) (h14 : x16 = line_1 (x13)) (h17 : x13 = roundOf_1 (x12)) (f18 : bvp (x12) = bvp (x10) ^^^ bvp (x11)) (h22 : x9 = roundOf_1 (x8)) (g26 : x6 = pm_1) (f27 : BRB (pn_1) (pm_1) (rounds_1) (pt_1) (ph_1) (alive_1) (rotMany_1) (rot_1) (roundOf_1) (roundBegin_1) (roundDart_1)) (f29 : LNE (rounds_1) (line_1) (x4) (x5)) (fe_0_31_1 : pn_0 = pn_1) (fe_0_32_1 : pm_0 = pm_1) (fe_0_53_1 : rounds_0 = rounds_1) (hE_0_20_1 : ∀ j : Int, 0 ≤ j → (j = x13 → line_0 j = x16) ∧ (j ≠ x13 → line_0 j = line_1 j)) (hE_0_33_1 : ∀ j : Int, pt_0 j = pt_1 j) (hE_0_34_1 : ∀ j : Int, ph_0 j = ph_1 j) (hE_0_35_1 : ∀ j : Int, alive_0 j = alive_1 j) (hE_0_36_1 : ∀ j : Int, rotMany_0 j = rotMany_1 j) (hE_0_37_1 : ∀ j : Int, rot_0 j = rot_1 j) (hE_0_54_1 : ∀ j : Int, roundOf_0 j = roundOf_1 j) (hE_0_56_1 : ∀ j : Int, roundBegin_0 j = roundBegin_1 j) (hE_0_57_1 : ∀ j : Int, roundDart_0 j = roundDart_1 j) (hE_0_75_1 : ∀ j : Int, ny_0 j = ny_1 j) (kz_0_31 : 0 ≤ pn_0 ∧ pn_0 ≤ 25) (kz_0_32 : 0 ≤ pm_0 ∧ pm_0 ≤ 80) (kz_0_53 : 0 ≤ rounds_0 ∧ rounds_0 ≤ 160) : LNE (rounds_0) (line_0) (x4) (x20) := by
  subst fe_0_31_1
  subst fe_0_32_1
  subst fe_0_53_1
  have e_hE_0_33_1 := funext hE_0_33_1; subst e_hE_0_33_1
  have e_hE_0_34_1 := funext hE_0_34_1; subst e_hE_0_34_1
  have e_hE_0_35_1 := funext hE_0_35_1; subst e_hE_0_35_1
  have e_hE_0_36_1 := funext hE_0_36_1; subst e_hE_0_36_1
  have e_hE_0_37_1 := funext hE_0_37_1; subst e_hE_0_37_1
  have e_hE_0_54_1 := funext hE_0_54_1; subst e_hE_0_54_1
  have e_hE_0_56_1 := funext hE_0_56_1; subst e_hE_0_56_1
  have e_hE_0_57_1 := funext hE_0_57_1; subst e_hE_0_57_1
  have e_hE_0_75_1 := funext hE_0_75_1; subst e_hE_0_75_1
  first
    | exact lnb_le ‹LNR _ _ _› (by omega)
    | exact lnb_le ‹LNE _ _ _ _› (by omega)
    | (have hR := brb_R ‹BRB _ _ _ _ _ _ _ _ _ _ _›
       have r1 := brb_ro (d := x8) ‹BRB _ _ _ _ _ _ _ _ _ _ _› (by omega) (by omega)
       have hx : bvp x12 = bvp x10 ^^^ bvp 1 := by rw [← (by omega : x11 = 1)]; assumption
       have e1 := xor_1 hx (by omega) (by omega) (by omega) (by omega)
       have r2 := brb_ro (d := x12) ‹BRB _ _ _ _ _ _ _ _ _ _ _› (by omega) (by omega)
       have b1 := ‹LNE _ _ _ _› x9 (by omega) (by omega)
       have b2 := ‹LNE _ _ _ _› x13 (by omega) (by omega)
       exact lnb_step ‹LNE _ _ _ _› (by omega) (by assumption) (by omega) (by omega))
def o_Mo_bars_52 : or_T := (234, 21, [(0, (2, 0, 0, [165])), (2, (0, 3, 24, [])), (4, (0, 0, 159, [])), (5, (0, 1, 79, [])), (6, (0, 2, 80, [])), (7, (2, 0, 0, [196])), (8, (0, 0, 158, [])), (9, (0, 0, 99, [])), (10, (0, 0, 158, [])), (11, (0, 1, 1, [])), (12, (0, 0, 159, [])), (13, (0, 0, 99, [])), (14, (2, 0, 0, [175])), (15, (0, 0, 1000000, [])), (16, (0, -999998, 1000000, [])), (17, (0, -1000000, 1000000, [])), (18, (0, 1, 1, [])), (19, (0, -999999, 999999, [])), (20, (0, 2, 80, []))], [(6, [20, 5], [1]), (23, [10, 5], [1, 1, -2]), (23, [10, 5], [0, -1, 2]), (23, [8, 5], [1, 1, -2]), (23, [8, 5], [0, -1, 2]), (20, [0], [60, 3, 8, 316, 31, 32, 53, 33, 34, 35, 36, 37, 54, 56, 57]), (20, [2, 0], [50, 1, 0, 1031, 1, 2, 1, 0, 2, 1, 31]), (20, [0], [60, 1, 1, 786, 31, 75]), (100, [14, 13, 16], []), (7, [16, 16], [5]), (7, [19, 16], [5]), (1, [19, 17, 18], []), (10, [17, 14, 9], []), (9, [14, 0], [20]), (10, [16, 14, 13], []), (8, [15], [3]), (10, [15, 14, 9], []), (10, [13, 7, 12], []), (16, [12, 10, 11], [2]), (23, [10, 5], [1, 1, -2]), (23, [10, 5], [0, -1, 2]), (9, [7, 0], [54]), (10, [9, 7, 8], []), (23, [8, 5], [1, 1, -2]), (23, [8, 5], [0, -1, 2]), (7, [5, 6], [2]), (9, [6, 0], [32]), (20, [0], [60, 3, 8, 316, 31, 32, 53, 33, 34, 35, 36, 37, 54, 56, 57]), (20, [2, 0], [50, 1, 0, 1031, 1, 2, 1, 0, 2, 1, 31]), (20, [0, 4, 5], [60, 1, 1, 321, 53, 20]), (20, [0], [60, 1, 1, 786, 31, 75])], [], [], [(20, [0, 4, 20], [60, 1, 1, 321, 53, 20])], [], [(20, 5, 1, 1), (20, 6, -4294967296, 0), (16, 19, 1, 4294967296), (19, 17, 1, 1), (5, 6, -4294967296, -1)])
theorem oo_Mo_bars_52 {kA : Nat → ClassId} : or_ok PRD kA GG o_Mo_bars_52 := by
  refine or_mk fun A ta ws vs hD hth hl => ?_
  intro t0 r0 t2 k2 t4 k4 t5 k5 t6 k6 t7 r7 t8 k8 t9 k9 t10 k10 t11 k11 t12 k12 t13 k13 t14 r14 t15 k15 t16 k16 t17 k17 t18 k18 t19 k19 t20 k20 d0 d1 d2 d3 d4 f0 f1 f2 f3 f4 f5 f6 f7 ta1 w1 le1 s1 f9 f10 f11 f12 f13 f14 f15 f16 f17 f18 f19 f20 f21 f22 f23 f24 f25 f26 f27 f28 f29 f30
  have s1 : (∀ b j, w_el ws b j = if b = v_ad (n_v vs 14) ∧ j = (v_iv (n_v vs 13)).toNat then v_iv (n_v vs 16) else w_el w1 b j) ∧ ∀ b k, w_fd ws b k = w_fd w1 b k := s1.2
  replace f13 := shm_740 f13
  replace f14 := shm_107 f14
  replace f17 := shm_107 f17
  replace f21 := shm_1122 f21
  replace f22 := shm_107 f22
  replace f26 := shm_525 f26
  replace f27 := shm_1123 f27
  replace f29 := shm_2289 f29
  have ar_0_20_1 : w_ar w1 (n_v vs 0) 20 = w_ar ws (n_v vs 0) 20 := congrArg v_ad (s1.2 _ _).symm
  have ar_0_33_1 : w_ar w1 (n_v vs 0) 33 = w_ar ws (n_v vs 0) 33 := congrArg v_ad (s1.2 _ _).symm
  have cr_0_33 := fdq_117 hD hth r0
  have ar_0_34_1 : w_ar w1 (n_v vs 0) 34 = w_ar ws (n_v vs 0) 34 := congrArg v_ad (s1.2 _ _).symm
  have cr_0_34 := fdq_118 hD hth r0
  have ar_0_35_1 : w_ar w1 (n_v vs 0) 35 = w_ar ws (n_v vs 0) 35 := congrArg v_ad (s1.2 _ _).symm
  have cr_0_35 := fdq_132 hD hth r0
  have ar_0_36_1 : w_ar w1 (n_v vs 0) 36 = w_ar ws (n_v vs 0) 36 := congrArg v_ad (s1.2 _ _).symm
  have cr_0_36 := fdq_167 hD hth r0
  have ar_0_37_1 : w_ar w1 (n_v vs 0) 37 = w_ar ws (n_v vs 0) 37 := congrArg v_ad (s1.2 _ _).symm
  have cr_0_37 := fdq_168 hD hth r0
  have ar_0_54_1 : w_ar w1 (n_v vs 0) 54 = w_ar ws (n_v vs 0) 54 := congrArg v_ad (s1.2 _ _).symm
  have cr_0_54 := fdq_272 hD hth r0
  have ar_0_56_1 : w_ar w1 (n_v vs 0) 56 = w_ar ws (n_v vs 0) 56 := congrArg v_ad (s1.2 _ _).symm
  have cr_0_56 := fdq_273 hD hth r0
  have ar_0_57_1 : w_ar w1 (n_v vs 0) 57 = w_ar ws (n_v vs 0) 57 := congrArg v_ad (s1.2 _ _).symm
  have cr_0_57 := fdq_274 hD hth r0
  have ar_0_75_1 : w_ar w1 (n_v vs 0) 75 = w_ar ws (n_v vs 0) 75 := congrArg v_ad (s1.2 _ _).symm
  have cr_0_75 := fdq_165 hD hth r0
  have ad_14 : v_ad (n_v vs 14) = w_ar ws (n_v vs 0) 20 := (congrArg v_ad f13).trans ar_0_20_1
  have ad_7 : v_ad (n_v vs 7) = w_ar ws (n_v vs 0) 54 := (congrArg v_ad f21).trans ar_0_54_1
  simp only [ad_14] at f14
  have h14 : v_iv (n_v vs 16) = w_ei w1 (w_ar ws (n_v vs 0) 20) (v_iv (n_v vs 13)) := f14
  simp only [ad_7] at f17
  have h17 : v_iv (n_v vs 13) = w_ei w1 (w_ar ws (n_v vs 0) 54) (v_iv (n_v vs 12)) := f17
  simp only [ad_7] at f22
  have h22 : v_iv (n_v vs 9) = w_ei w1 (w_ar ws (n_v vs 0) 54) (v_iv (n_v vs 8)) := f22
  have g26 : v_iv (n_v vs 6) = w_fi w1 (n_v vs 0) 32 := congrArg v_iv f26
  simp only [ar_0_33_1, ar_0_34_1, ar_0_35_1, ar_0_36_1, ar_0_37_1, ar_0_54_1, ar_0_56_1, ar_0_57_1, ar_0_20_1, ar_0_75_1] at f27 f29
  have fe_0_31_1 : w_fi ws (n_v vs 0) 31 = w_fi w1 (n_v vs 0) 31 := congrArg v_iv (s1.2 _ _)
  have fe_0_32_1 : w_fi ws (n_v vs 0) 32 = w_fi w1 (n_v vs 0) 32 := congrArg v_iv (s1.2 _ _)
  have fe_0_53_1 : w_fi ws (n_v vs 0) 53 = w_fi w1 (n_v vs 0) 53 := congrArg v_iv (s1.2 _ _)
  have hE_0_20_1 : ∀ j : Int, 0 ≤ j → (j = v_iv (n_v vs 13) → w_ei ws (w_ar ws (n_v vs 0) 20) j = v_iv (n_v vs 16)) ∧ (j ≠ v_iv (n_v vs 13) → w_ei ws (w_ar ws (n_v vs 0) 20) j = w_ei w1 (w_ar ws (n_v vs 0) 20) j) := fun j hj => ⟨fun h => by unfold w_ei; rw [s1.1, if_pos ⟨ad_14.symm, by rw [h]⟩], fun h => by unfold w_ei; rw [s1.1, if_neg (fun e => h (by have := e.2; omega))]⟩
  have hE_0_33_1 : ∀ j : Int, w_ei ws (w_ar ws (n_v vs 0) 33) j = w_ei w1 (w_ar ws (n_v vs 0) 33) j := el_kp s1.1 r14 cr_0_33 (by decide)
  have hE_0_34_1 : ∀ j : Int, w_ei ws (w_ar ws (n_v vs 0) 34) j = w_ei w1 (w_ar ws (n_v vs 0) 34) j := el_kp s1.1 r14 cr_0_34 (by decide)
  have hE_0_35_1 : ∀ j : Int, w_ei ws (w_ar ws (n_v vs 0) 35) j = w_ei w1 (w_ar ws (n_v vs 0) 35) j := el_kp s1.1 r14 cr_0_35 (by decide)
  have hE_0_36_1 : ∀ j : Int, w_ei ws (w_ar ws (n_v vs 0) 36) j = w_ei w1 (w_ar ws (n_v vs 0) 36) j := el_kp s1.1 r14 cr_0_36 (by decide)
  have hE_0_37_1 : ∀ j : Int, w_ei ws (w_ar ws (n_v vs 0) 37) j = w_ei w1 (w_ar ws (n_v vs 0) 37) j := el_kp s1.1 r14 cr_0_37 (by decide)
  have hE_0_54_1 : ∀ j : Int, w_ei ws (w_ar ws (n_v vs 0) 54) j = w_ei w1 (w_ar ws (n_v vs 0) 54) j := el_kp s1.1 r14 cr_0_54 (by decide)
  have hE_0_56_1 : ∀ j : Int, w_ei ws (w_ar ws (n_v vs 0) 56) j = w_ei w1 (w_ar ws (n_v vs 0) 56) j := el_kp s1.1 r14 cr_0_56 (by decide)
  have hE_0_57_1 : ∀ j : Int, w_ei ws (w_ar ws (n_v vs 0) 57) j = w_ei w1 (w_ar ws (n_v vs 0) 57) j := el_kp s1.1 r14 cr_0_57 (by decide)
  have hE_0_75_1 : ∀ j : Int, w_ei ws (w_ar ws (n_v vs 0) 75) j = w_ei w1 (w_ar ws (n_v vs 0) 75) j := el_kp s1.1 r14 cr_0_75 (by decide)
  have kz_0_31 := fdq_145 hD hth r0
  have kz_0_32 := fdq_140 hD hth r0
  have kz_0_53 := fdq_275 hD hth r0
  have nf0 : fc_1 PRD (20, [0, 4, 20], [60, 1, 1, 321, 53, 20]) ws (vs) := ⟨nf_in hl rfl, sgq_2289 (vc_Mo_bars_52_0 (v_iv (n_v vs 4)) (v_iv (n_v vs 5)) (v_iv (n_v vs 6)) (v_iv (n_v vs 8)) (v_iv (n_v vs 9)) (v_iv (n_v vs 10)) (v_iv (n_v vs 11)) (v_iv (n_v vs 12)) (v_iv (n_v vs 13)) (v_iv (n_v vs 16)) (v_iv (n_v vs 20)) (w_ei ws (w_ar ws (n_v vs 0) 33)) (w_ei ws (w_ar ws (n_v vs 0) 34)) (w_ei ws (w_ar ws (n_v vs 0) 35)) (w_ei ws (w_ar ws (n_v vs 0) 36)) (w_ei ws (w_ar ws (n_v vs 0) 37)) (w_ei ws (w_ar ws (n_v vs 0) 54)) (w_ei ws (w_ar ws (n_v vs 0) 56)) (w_ei ws (w_ar ws (n_v vs 0) 57)) (w_fi ws (n_v vs 0) 31) (w_fi ws (n_v vs 0) 32) (w_fi ws (n_v vs 0) 53) (w_ei ws (w_ar ws (n_v vs 0) 75)) (w_ei w1 (w_ar ws (n_v vs 0) 20)) (w_ei w1 (w_ar ws (n_v vs 0) 54)) (w_fi w1 (n_v vs 0) 32) (w_ei w1 (w_ar ws (n_v vs 0) 33)) (w_ei w1 (w_ar ws (n_v vs 0) 34)) (w_ei w1 (w_ar ws (n_v vs 0) 35)) (w_ei w1 (w_ar ws (n_v vs 0) 36)) (w_ei w1 (w_ar ws (n_v vs 0) 37)) (w_ei w1 (w_ar ws (n_v vs 0) 56)) (w_ei w1 (w_ar ws (n_v vs 0) 57)) (w_fi w1 (n_v vs 0) 31) (w_fi w1 (n_v vs 0) 53) (w_ei w1 (w_ar ws (n_v vs 0) 75)) (w_ei ws (w_ar ws (n_v vs 0) 20)) k4 k5 k6 k8 k9 k10 k11 k12 k13 k16 k20 d0 d1 d4 (shm_143 f1) (shm_144 f2) (shm_143 f3) (shm_144 f4) h14 h17 (shm_33 f18) h22 g26 f27 f29 fe_0_31_1 fe_0_32_1 fe_0_53_1 hE_0_20_1 hE_0_33_1 hE_0_34_1 hE_0_35_1 hE_0_36_1 hE_0_37_1 hE_0_54_1 hE_0_56_1 hE_0_57_1 hE_0_75_1 kz_0_31 kz_0_32 kz_0_53)⟩
  refine ⟨(fun _ h => (by cases h)), [], trivial, ?_, (fun _ h => (by cases h))⟩
  rw [List.append_nil]
  exact List.forall_mem_cons.mpr ⟨⟨show (20 : Nat) < 100 from by decide, nf0⟩, (fun _ h => (by cases h))⟩
set_option maxHeartbeats 4000000 in
theorem vc_Mo_bars_53_0 (x6 : Int) (pn_0 : Int) (ny_0 : Int → Int) (k6 : 0 ≤ x6 ∧ x6 ≤ 0) (f4 : NYH (pn_0) (ny_0)) (kz_0_31 : 0 ≤ pn_0 ∧ pn_0 ≤ 25) : NYI (pn_0) (ny_0) (x6) := by
  first
    | exact ⟨nbd_le ‹NYH _ _› (by omega) (by omega) (by omega), fun j a b c => (‹NYH _ _› j b c).2⟩
    | exact nyi_step ‹NYI _ _ _› (by omega) (by assumption) (by omega) (by omega) (by omega)
def o_Mo_bars_53 : or_T := (451, 7, [(0, (2, 0, 0, [165])), (6, (0, 0, 0, []))], [(20, [0], [60, 1, 1, 786, 31, 75])], [], [], [(20, [0, 6], [60, 1, 1, 787, 31, 75])], [], [])
theorem oo_Mo_bars_53 {kA : Nat → ClassId} : or_ok PRD kA GG o_Mo_bars_53 := by
  refine or_mk fun A ta ws vs hD hth hl => ?_
  intro t0 r0 t6 k6 f4
  have kz_0_31 := fdq_145 hD hth r0
  have nf0 : fc_1 PRD (20, [0, 6], [60, 1, 1, 787, 31, 75]) ws (vs) := ⟨nf_in hl rfl, sgq_2290 (vc_Mo_bars_53_0 (v_iv (n_v vs 6)) (w_fi ws (n_v vs 0) 31) (w_ei ws (w_ar ws (n_v vs 0) 75)) k6 (shm_2286 f4) kz_0_31)⟩
  refine ⟨(fun _ h => (by cases h)), [], trivial, ?_, (fun _ h => (by cases h))⟩
  rw [List.append_nil]
  exact List.forall_mem_cons.mpr ⟨⟨show (20 : Nat) < 100 from by decide, nf0⟩, (fun _ h => (by cases h))⟩
set_option maxHeartbeats 4000000 in
theorem vc_Mo_bars_54_r0 (x4 : Int) (x5 : Int) (pm_0 : Int) (pt_0 : Int → Int) (ph_0 : Int → Int) (alive_0 : Int → Int) (rotMany_0 : Int → Int) (rot_0 : Int → Int) (roundOf_0 : Int → Int) (roundBegin_0 : Int → Int) (roundDart_0 : Int → Int) (pn_0 : Int) (rounds_0 : Int) (k4 : 0 ≤ x4 ∧ x4 ≤ 48) (k5 : 1 ≤ x5 ∧ x5 ≤ 80) (d0 : x5 + (-4294967296) ≤ x4 ∧ x4 ≤ x5 + (-1)) (g1 : x5 = pm_0) (f2 : BRB (pn_0) (pm_0) (rounds_0) (pt_0) (ph_0) (alive_0) (rotMany_0) (rot_0) (roundOf_0) (roundBegin_0) (roundDart_0)) (kz_0_31 : 0 ≤ pn_0 ∧ pn_0 ≤ 25) (kz_0_32 : 0 ≤ pm_0 ∧ pm_0 ≤ 80) (kz_0_53 : 0 ≤ rounds_0 ∧ rounds_0 ≤ 160) : 0 ≤ x4 ∧ x4 ≤ 47 := by
  first
    | omega
    | (have hR := brb_R ‹BRB _ _ _ _ _ _ _ _ _ _ _›; omega)
    | (have hR := brb_R ‹BRB _ _ _ _ _ _ _ _ _ _ _›
       have hx : bvp x8 = bvp x6 ^^^ bvp 1 := by rw [← (by omega : x7 = 1)]; assumption
       have e1 := xor_1 hx (by omega) (by omega) (by omega) (by omega)
       omega)
    | (have hR := brb_R ‹BRB _ _ _ _ _ _ _ _ _ _ _›
       have hx : bvp x12 = bvp x10 ^^^ bvp 1 := by rw [← (by omega : x11 = 1)]; assumption
       have e1 := xor_1 hx (by omega) (by omega) (by omega) (by omega)
       omega)
    | (have hR := brb_R ‹BRB _ _ _ _ _ _ _ _ _ _ _›
       have r1 := brb_ro (d := x8) ‹BRB _ _ _ _ _ _ _ _ _ _ _› (by omega) (by omega)
       omega)
    | (have hR := brb_R ‹BRB _ _ _ _ _ _ _ _ _ _ _›
       have r1 := brb_ro (d := x8) ‹BRB _ _ _ _ _ _ _ _ _ _ _› (by omega) (by omega)
       have hx : bvp x12 = bvp x10 ^^^ bvp 1 := by rw [← (by omega : x11 = 1)]; assumption
       have e1 := xor_1 hx (by omega) (by omega) (by omega) (by omega)
       have r2 := brb_ro (d := x12) ‹BRB _ _ _ _ _ _ _ _ _ _ _› (by omega) (by omega)
       omega)
    | (have hR := brb_R ‹BRB _ _ _ _ _ _ _ _ _ _ _›
       have r1 := brb_ro (d := x8) ‹BRB _ _ _ _ _ _ _ _ _ _ _› (by omega) (by omega)
       have hx : bvp x12 = bvp x10 ^^^ bvp 1 := by rw [← (by omega : x11 = 1)]; assumption
       have e1 := xor_1 hx (by omega) (by omega) (by omega) (by omega)
       have r2 := brb_ro (d := x12) ‹BRB _ _ _ _ _ _ _ _ _ _ _› (by omega) (by omega)
       have b1 := ‹LNE _ _ _ _› x9 (by omega) (by omega)
       have b2 := ‹LNE _ _ _ _› x13 (by omega) (by omega)
       omega)
    | (have h := ‹PLN _ _ _ _ _ _ _›
       have h1 := h.2.1
       simp only [Int.add_zero] at *
       omega)
  
def o_Mo_bars_54 : or_T := (352, 6, [(0, (2, 0, 0, [165])), (2, (0, 3, 24, [])), (4, (0, 0, 48, [])), (5, (0, 1, 80, []))], [(7, [4, 5], [2]), (9, [5, 0], [32]), (20, [0], [60, 3, 8, 316, 31, 32, 53, 33, 34, 35, 36, 37, 54, 56, 57]), (20, [2, 0], [50, 1, 0, 1031, 1, 2, 1, 0, 2, 1, 31]), (20, [0], [60, 1, 1, 786, 31, 75])], [(4, (0, 0, 47, []))], [], [], [], [(4, 5, -4294967296, -1)])
theorem oo_Mo_bars_54 {kA : Nat → ClassId} : or_ok PRD kA GG o_Mo_bars_54 := by
  refine or_mk fun A ta ws vs hD hth hl => ?_
  intro t0 r0 t2 k2 t4 k4 t5 k5 d0 f0 f1 f2 f3 f4
  replace f1 := shm_525 f1
  have g1 : v_iv (n_v vs 5) = w_fi ws (n_v vs 0) 32 := congrArg v_iv f1
  have kz_0_31 := fdq_145 hD hth r0
  have kz_0_32 := fdq_140 hD hth r0
  have kz_0_53 := fdq_275 hD hth r0
  have hrf0 : 0 ≤ v_iv (n_v vs 4) ∧ v_iv (n_v vs 4) ≤ 47 := vc_Mo_bars_54_r0 (v_iv (n_v vs 4)) (v_iv (n_v vs 5)) (w_fi ws (n_v vs 0) 32) (w_ei ws (w_ar ws (n_v vs 0) 33)) (w_ei ws (w_ar ws (n_v vs 0) 34)) (w_ei ws (w_ar ws (n_v vs 0) 35)) (w_ei ws (w_ar ws (n_v vs 0) 36)) (w_ei ws (w_ar ws (n_v vs 0) 37)) (w_ei ws (w_ar ws (n_v vs 0) 54)) (w_ei ws (w_ar ws (n_v vs 0) 56)) (w_ei ws (w_ar ws (n_v vs 0) 57)) (w_fi ws (n_v vs 0) 31) (w_fi ws (n_v vs 0) 53) k4 k5 d0 g1 (shm_1123 f2) kz_0_31 kz_0_32 kz_0_53
  have rf4 : tv_ok ta (0, 0, 47, []) (n_v vs 4) := tv_in t4 (by first | omega | grind) (by first | omega | grind)
  refine ⟨List.forall_mem_cons.mpr ⟨rf4, (fun _ h => (by cases h))⟩, [], trivial, ?_, (fun _ h => (by cases h))⟩
  rw [List.append_nil]
  exact (fun _ h => (by cases h))
set_option maxHeartbeats 4000000 in
theorem vc_Mo_bars_55_0 (x4 : Int) (x5 : Int) (pt_0 : Int → Int) (ph_0 : Int → Int) (alive_0 : Int → Int) (rotMany_0 : Int → Int) (rot_0 : Int → Int) (roundOf_0 : Int → Int) (roundBegin_0 : Int → Int) (roundDart_0 : Int → Int) (pn_0 : Int) (pm_0 : Int) (rounds_0 : Int) (ny_0 : Int → Int) (pm_1 : Int) (pt_1 : Int → Int) (ph_1 : Int → Int) (alive_1 : Int → Int) (rotMany_1 : Int → Int) (rot_1 : Int → Int) (roundOf_1 : Int → Int) (roundBegin_1 : Int → Int) (roundDart_1 : Int → Int) (pn_1 : Int) (rounds_1 : Int) (ny_1 : Int → Int) (x7 : Int) (k4 : 0 ≤ x4 ∧ x4 ≤ 47) (k5 : 1 ≤ x5 ∧ x5 ≤ 80) (d0 : x5 + (-4294967296) ≤ x4 ∧ x4 ≤ x5 + (-1)) (g6 : x5 = pm_1) (fe_0_31_1 : pn_0 = pn_1) (fe_0_32_1 : pm_0 = pm_1) (fe_0_53_1 : rounds_0 = rounds_1) (hE_0_33_1 : ∀ j : Int, pt_0 j = pt_1 j) (hE_0_34_1 : ∀ j : Int, ph_0 j = ph_1 j) (hE_0_35_1 : ∀ j : Int, alive_0 j = alive_1 j) (hE_0_36_1 : ∀ j : Int, rotMany_0 j = rotMany_1 j) (hE_0_37_1 : ∀ j : Int, rot_0 j = rot_1 j) (hE_0_54_1 : ∀ j : Int, roundOf_0 j = roundOf_1 j) (hE_0_56_1 : ∀ j : Int, roundBegin_0 j = roundBegin_1 j) (hE_0_57_1 : ∀ j : Int, roundDart_0 j = roundDart_1 j) (hE_0_75_1 : ∀ j : Int, ny_0 j = ny_1 j) (kz_0_31 : 0 ≤ pn_0 ∧ pn_0 ≤ 25) (kz_0_32 : 0 ≤ pm_0 ∧ pm_0 ≤ 80) (kz_0_53 : 0 ≤ rounds_0 ∧ rounds_0 ≤ 160) : 1 * x4 + ((-1) * pm_0 + 0) ≤ (-1) := by
  subst fe_0_31_1
  subst fe_0_32_1
  subst fe_0_53_1
  have e_hE_0_33_1 := funext hE_0_33_1; subst e_hE_0_33_1
  have e_hE_0_34_1 := funext hE_0_34_1; subst e_hE_0_34_1
  have e_hE_0_35_1 := funext hE_0_35_1; subst e_hE_0_35_1
  have e_hE_0_36_1 := funext hE_0_36_1; subst e_hE_0_36_1
  have e_hE_0_37_1 := funext hE_0_37_1; subst e_hE_0_37_1
  have e_hE_0_54_1 := funext hE_0_54_1; subst e_hE_0_54_1
  have e_hE_0_56_1 := funext hE_0_56_1; subst e_hE_0_56_1
  have e_hE_0_57_1 := funext hE_0_57_1; subst e_hE_0_57_1
  have e_hE_0_75_1 := funext hE_0_75_1; subst e_hE_0_75_1
  first
    | omega
    | (have hR := brb_R ‹BRB _ _ _ _ _ _ _ _ _ _ _›; omega)
    | (have hR := brb_R ‹BRB _ _ _ _ _ _ _ _ _ _ _›
       have hx : bvp x8 = bvp x6 ^^^ bvp 1 := by rw [← (by omega : x7 = 1)]; assumption
       have e1 := xor_1 hx (by omega) (by omega) (by omega) (by omega)
       omega)
    | (have hR := brb_R ‹BRB _ _ _ _ _ _ _ _ _ _ _›
       have hx : bvp x12 = bvp x10 ^^^ bvp 1 := by rw [← (by omega : x11 = 1)]; assumption
       have e1 := xor_1 hx (by omega) (by omega) (by omega) (by omega)
       omega)
    | (have hR := brb_R ‹BRB _ _ _ _ _ _ _ _ _ _ _›
       have r1 := brb_ro (d := x8) ‹BRB _ _ _ _ _ _ _ _ _ _ _› (by omega) (by omega)
       omega)
    | (have hR := brb_R ‹BRB _ _ _ _ _ _ _ _ _ _ _›
       have r1 := brb_ro (d := x8) ‹BRB _ _ _ _ _ _ _ _ _ _ _› (by omega) (by omega)
       have hx : bvp x12 = bvp x10 ^^^ bvp 1 := by rw [← (by omega : x11 = 1)]; assumption
       have e1 := xor_1 hx (by omega) (by omega) (by omega) (by omega)
       have r2 := brb_ro (d := x12) ‹BRB _ _ _ _ _ _ _ _ _ _ _› (by omega) (by omega)
       omega)
    | (have hR := brb_R ‹BRB _ _ _ _ _ _ _ _ _ _ _›
       have r1 := brb_ro (d := x8) ‹BRB _ _ _ _ _ _ _ _ _ _ _› (by omega) (by omega)
       have hx : bvp x12 = bvp x10 ^^^ bvp 1 := by rw [← (by omega : x11 = 1)]; assumption
       have e1 := xor_1 hx (by omega) (by omega) (by omega) (by omega)
       have r2 := brb_ro (d := x12) ‹BRB _ _ _ _ _ _ _ _ _ _ _› (by omega) (by omega)
       have b1 := ‹LNE _ _ _ _› x9 (by omega) (by omega)
       have b2 := ‹LNE _ _ _ _› x13 (by omega) (by omega)
       omega)
    | (have h := ‹PLN _ _ _ _ _ _ _›
       have h1 := h.2.1
       simp only [Int.add_zero] at *
       omega)
def o_Mo_bars_55 : or_T := (372, 11, [(0, (2, 0, 0, [165])), (4, (0, 0, 47, [])), (5, (0, 1, 80, [])), (6, (2, 0, 0, [216]))], [(100, [6, 4, 7], []), (9, [5, 0], [32])], [], [], [(20, [4, 0], [30, -1, 1, 0, 0, -1, 1, 32])], [], [(4, 5, -4294967296, -1)])
theorem oo_Mo_bars_55 {kA : Nat → ClassId} : or_ok PRD kA GG o_Mo_bars_55 := by
  refine or_mk fun A ta ws vs hD hth hl => ?_
  intro t0 r0 t4 k4 t5 k5 t6 r6 d0 ta1 w1 le1 s1 f6
  have s1 : (∀ b j, w_el ws b j = if b = v_ad (n_v vs 6) ∧ j = (v_iv (n_v vs 4)).toNat then v_iv (n_v vs 7) else w_el w1 b j) ∧ ∀ b k, w_fd ws b k = w_fd w1 b k := s1.2
  replace f6 := shm_525 f6
  have cr_0_33 := fdq_117 hD hth r0
  have cr_0_34 := fdq_118 hD hth r0
  have cr_0_35 := fdq_132 hD hth r0
  have cr_0_36 := fdq_167 hD hth r0
  have cr_0_37 := fdq_168 hD hth r0
  have cr_0_54 := fdq_272 hD hth r0
  have cr_0_56 := fdq_273 hD hth r0
  have cr_0_57 := fdq_274 hD hth r0
  have cr_0_75 := fdq_165 hD hth r0
  have g6 : v_iv (n_v vs 5) = w_fi w1 (n_v vs 0) 32 := congrArg v_iv f6
  have fe_0_31_1 : w_fi ws (n_v vs 0) 31 = w_fi w1 (n_v vs 0) 31 := congrArg v_iv (s1.2 _ _)
  have fe_0_32_1 : w_fi ws (n_v vs 0) 32 = w_fi w1 (n_v vs 0) 32 := congrArg v_iv (s1.2 _ _)
  have fe_0_53_1 : w_fi ws (n_v vs 0) 53 = w_fi w1 (n_v vs 0) 53 := congrArg v_iv (s1.2 _ _)
  have hE_0_33_1 : ∀ j : Int, w_ei ws (w_ar ws (n_v vs 0) 33) j = w_ei w1 (w_ar ws (n_v vs 0) 33) j := el_kp s1.1 r6 cr_0_33 (by decide)
  have hE_0_34_1 : ∀ j : Int, w_ei ws (w_ar ws (n_v vs 0) 34) j = w_ei w1 (w_ar ws (n_v vs 0) 34) j := el_kp s1.1 r6 cr_0_34 (by decide)
  have hE_0_35_1 : ∀ j : Int, w_ei ws (w_ar ws (n_v vs 0) 35) j = w_ei w1 (w_ar ws (n_v vs 0) 35) j := el_kp s1.1 r6 cr_0_35 (by decide)
  have hE_0_36_1 : ∀ j : Int, w_ei ws (w_ar ws (n_v vs 0) 36) j = w_ei w1 (w_ar ws (n_v vs 0) 36) j := el_kp s1.1 r6 cr_0_36 (by decide)
  have hE_0_37_1 : ∀ j : Int, w_ei ws (w_ar ws (n_v vs 0) 37) j = w_ei w1 (w_ar ws (n_v vs 0) 37) j := el_kp s1.1 r6 cr_0_37 (by decide)
  have hE_0_54_1 : ∀ j : Int, w_ei ws (w_ar ws (n_v vs 0) 54) j = w_ei w1 (w_ar ws (n_v vs 0) 54) j := el_kp s1.1 r6 cr_0_54 (by decide)
  have hE_0_56_1 : ∀ j : Int, w_ei ws (w_ar ws (n_v vs 0) 56) j = w_ei w1 (w_ar ws (n_v vs 0) 56) j := el_kp s1.1 r6 cr_0_56 (by decide)
  have hE_0_57_1 : ∀ j : Int, w_ei ws (w_ar ws (n_v vs 0) 57) j = w_ei w1 (w_ar ws (n_v vs 0) 57) j := el_kp s1.1 r6 cr_0_57 (by decide)
  have hE_0_75_1 : ∀ j : Int, w_ei ws (w_ar ws (n_v vs 0) 75) j = w_ei w1 (w_ar ws (n_v vs 0) 75) j := el_kp s1.1 r6 cr_0_75 (by decide)
  have kz_0_31 := fdq_145 hD hth r0
  have kz_0_32 := fdq_140 hD hth r0
  have kz_0_53 := fdq_275 hD hth r0
  have nf0 : fc_1 PRD (20, [4, 0], [30, -1, 1, 0, 0, -1, 1, 32]) ws (vs) := ⟨nf_in hl rfl, sgq_975 (vc_Mo_bars_55_0 (v_iv (n_v vs 4)) (v_iv (n_v vs 5)) (w_ei ws (w_ar ws (n_v vs 0) 33)) (w_ei ws (w_ar ws (n_v vs 0) 34)) (w_ei ws (w_ar ws (n_v vs 0) 35)) (w_ei ws (w_ar ws (n_v vs 0) 36)) (w_ei ws (w_ar ws (n_v vs 0) 37)) (w_ei ws (w_ar ws (n_v vs 0) 54)) (w_ei ws (w_ar ws (n_v vs 0) 56)) (w_ei ws (w_ar ws (n_v vs 0) 57)) (w_fi ws (n_v vs 0) 31) (w_fi ws (n_v vs 0) 32) (w_fi ws (n_v vs 0) 53) (w_ei ws (w_ar ws (n_v vs 0) 75)) (w_fi w1 (n_v vs 0) 32) (w_ei w1 (w_ar ws (n_v vs 0) 33)) (w_ei w1 (w_ar ws (n_v vs 0) 34)) (w_ei w1 (w_ar ws (n_v vs 0) 35)) (w_ei w1 (w_ar ws (n_v vs 0) 36)) (w_ei w1 (w_ar ws (n_v vs 0) 37)) (w_ei w1 (w_ar ws (n_v vs 0) 54)) (w_ei w1 (w_ar ws (n_v vs 0) 56)) (w_ei w1 (w_ar ws (n_v vs 0) 57)) (w_fi w1 (n_v vs 0) 31) (w_fi w1 (n_v vs 0) 53) (w_ei w1 (w_ar ws (n_v vs 0) 75)) (v_iv (n_v vs 7)) k4 k5 d0 g6 fe_0_31_1 fe_0_32_1 fe_0_53_1 hE_0_33_1 hE_0_34_1 hE_0_35_1 hE_0_36_1 hE_0_37_1 hE_0_54_1 hE_0_56_1 hE_0_57_1 hE_0_75_1 kz_0_31 kz_0_32 kz_0_53)⟩
  refine ⟨(fun _ h => (by cases h)), [], trivial, ?_, (fun _ h => (by cases h))⟩
  rw [List.append_nil]
  exact List.forall_mem_cons.mpr ⟨⟨show (20 : Nat) < 100 from by decide, nf0⟩, (fun _ h => (by cases h))⟩

set_option maxHeartbeats 4000000 in
theorem vc_Mo_bars_56_r0 (x2 : Int) (x4 : Int) (x7 : Int) (ny_0 : Int → Int) (pn_0 : Int) (k2 : 3 ≤ x2 ∧ x2 ≤ 24) (k4 : 0 ≤ x4 ∧ x4 ≤ 23) (k7 : (-300000000) ≤ x7 ∧ x7 ≤ 300000000) (d0 : x2 + (-4294967296) ≤ x4 ∧ x4 ≤ x2 + (-1)) (h0 : x7 = ny_0 (x4)) (f4 : x2 = pn_0) (f5 : NYI (pn_0) (ny_0) (x4)) (kz_0_31 : 0 ≤ pn_0 ∧ pn_0 ≤ 25) : 0 ≤ x7 ∧ x7 ≤ 2000 := by
  have h1 := ‹NYI _ _ _›.1 x4 (by omega) (by omega)
  have h2 := ‹NYI _ _ _›.2 x4 (by omega) (by omega) (by omega)
  omega
def o_Mo_bars_56 : or_T := (471, 8, [(0, (2, 0, 0, [165])), (2, (0, 3, 24, [])), (4, (0, 0, 23, [])), (5, (2, 0, 0, [215])), (7, (0, -300000000, 300000000, []))], [(10, [7, 5, 4], []), (9, [5, 0], [75]), (7, [4, 2], [2]), (20, [0], [60, 3, 8, 316, 31, 32, 53, 33, 34, 35, 36, 37, 54, 56, 57]), (20, [2, 0], [50, 1, 0, 1031, 1, 2, 1, 0, 2, 1, 31]), (20, [0, 4], [60, 1, 1, 787, 31, 75])], [(7, (0, 0, 2000, []))], [], [], [], [(4, 2, -4294967296, -1)])
theorem oo_Mo_bars_56 {kA : Nat → ClassId} : or_ok PRD kA GG o_Mo_bars_56 := by
  refine or_mk fun A ta ws vs hD hth hl => ?_
  intro t0 r0 t2 k2 t4 k4 t5 r5 t7 k7 d0 f0 f1 f2 f3 f4 f5
  replace f0 := shm_107 f0
  replace f1 := shm_1251 f1
  have ad_5 : v_ad (n_v vs 5) = w_ar ws (n_v vs 0) 75 := congrArg v_ad f1
  simp only [ad_5] at f0
  have h0 : v_iv (n_v vs 7) = w_ei ws (w_ar ws (n_v vs 0) 75) (v_iv (n_v vs 4)) := f0
  have kz_0_31 := fdq_145 hD hth r0
  have hrf0 : 0 ≤ v_iv (n_v vs 7) ∧ v_iv (n_v vs 7) ≤ 2000 := vc_Mo_bars_56_r0 (v_iv (n_v vs 2)) (v_iv (n_v vs 4)) (v_iv (n_v vs 7)) (w_ei ws (w_ar ws (n_v vs 0) 75)) (w_fi ws (n_v vs 0) 31) k2 k4 k7 d0 h0 (shm_2281 f4) (shm_2290 f5) kz_0_31
  have rf7 : tv_ok ta (0, 0, 2000, []) (n_v vs 7) := tv_in t7 (by first | omega | grind) (by first | omega | grind)
  refine ⟨List.forall_mem_cons.mpr ⟨rf7, (fun _ h => (by cases h))⟩, [], trivial, ?_, (fun _ h => (by cases h))⟩
  rw [List.append_nil]
  exact (fun _ h => (by cases h))
set_option maxHeartbeats 4000000 in
theorem vc_Mo_bars_57_0 (x4 : Int) (x7 : Int) (x8 : Int) (x15 : Int) (pt_0 : Int → Int) (ph_0 : Int → Int) (alive_0 : Int → Int) (rotMany_0 : Int → Int) (rot_0 : Int → Int) (roundOf_0 : Int → Int) (roundBegin_0 : Int → Int) (roundDart_0 : Int → Int) (pn_0 : Int) (pm_0 : Int) (rounds_0 : Int) (pt_1 : Int → Int) (ph_1 : Int → Int) (alive_1 : Int → Int) (rotMany_1 : Int → Int) (rot_1 : Int → Int) (roundOf_1 : Int → Int) (roundBegin_1 : Int → Int) (roundDart_1 : Int → Int) (pn_1 : Int) (pm_1 : Int) (rounds_1 : Int) (ny_2 : Int → Int) (pt_2 : Int → Int) (ph_2 : Int → Int) (alive_2 : Int → Int) (rotMany_2 : Int → Int) (rot_2 : Int → Int) (roundOf_2 : Int → Int) (roundBegin_2 : Int → Int) (roundDart_2 : Int → Int) (pn_2 : Int) (pm_2 : Int) (rounds_2 : Int) (toldLayer_1 : Int → Int) (toldLayer_2 : Int → Int) (ny_0 : Int → Int) (ny_1 : Int → Int) (k4 : 0 ≤ x4 ∧ x4 ≤ 23) (k7 : 0 ≤ x7 ∧ x7 ≤ 2000) (k8 : 0 ≤ x8 ∧ x8 ≤ 6000) (k15 : 1 ≤ x15 ∧ x15 ≤ 24) (f0 : x15 = x4 + 1) (f8 : x8 = 3 * x7) (h9 : x7 = ny_2 (x4)) (f14 : NYI (pn_2) (ny_2) (x4)) (fe_0_31_1 : pn_0 = pn_1) (fe_0_32_1 : pm_0 = pm_1) (fe_0_53_1 : rounds_0 = rounds_1) (fe_0_31_2 : pn_1 = pn_2) (fe_0_32_2 : pm_1 = pm_2) (fe_0_53_2 : rounds_1 = rounds_2) (hE_0_33_1 : ∀ j : Int, pt_0 j = pt_1 j) (hE_0_33_2 : ∀ j : Int, pt_1 j = pt_2 j) (hE_0_34_1 : ∀ j : Int, ph_0 j = ph_1 j) (hE_0_34_2 : ∀ j : Int, ph_1 j = ph_2 j) (hE_0_35_1 : ∀ j : Int, alive_0 j = alive_1 j) (hE_0_35_2 : ∀ j : Int, alive_1 j = alive_2 j) (hE_0_36_1 : ∀ j : Int, rotMany_0 j = rotMany_1 j) (hE_0_36_2 : ∀ j : Int, rotMany_1 j = rotMany_2 j) (hE_0_37_1 : ∀ j : Int, rot_0 j = rot_1 j) (hE_0_37_2 : ∀ j : Int, rot_1 j = rot_2 j) (hE_0_54_1 : ∀ j : Int, roundOf_0 j = roundOf_1 j) (hE_0_54_2 : ∀ j : Int, roundOf_1 j = roundOf_2 j) (hE_0_56_1 : ∀ j : Int, roundBegin_0 j = roundBegin_1 j) (hE_0_56_2 : ∀ j : Int, roundBegin_1 j = roundBegin_2 j) (hE_0_57_1 : ∀ j : Int, roundDart_0 j = roundDart_1 j) (hE_0_57_2 : ∀ j : Int, roundDart_1 j = roundDart_2 j) (hE_0_69_2 : ∀ j : Int, toldLayer_1 j = toldLayer_2 j) (hE_0_75_1 : ∀ j : Int, ny_0 j = ny_1 j) (hE_0_75_2 : ∀ j : Int, 0 ≤ j → (j = x4 → ny_1 j = x8) ∧ (j ≠ x4 → ny_1 j = ny_2 j)) (kz_0_31 : 0 ≤ pn_0 ∧ pn_0 ≤ 25) (kz_0_32 : 0 ≤ pm_0 ∧ pm_0 ≤ 80) (kz_0_53 : 0 ≤ rounds_0 ∧ rounds_0 ≤ 160) : NYI (pn_0) (ny_0) (x15) := by
  subst fe_0_31_1
  subst fe_0_32_1
  subst fe_0_53_1
  subst fe_0_31_2
  subst fe_0_32_2
  subst fe_0_53_2
  have e_hE_0_33_1 := funext hE_0_33_1; subst e_hE_0_33_1
  have e_hE_0_33_2 := funext hE_0_33_2; subst e_hE_0_33_2
  have e_hE_0_34_1 := funext hE_0_34_1; subst e_hE_0_34_1
  have e_hE_0_34_2 := funext hE_0_34_2; subst e_hE_0_34_2
  have e_hE_0_35_1 := funext hE_0_35_1; subst e_hE_0_35_1
  have e_hE_0_35_2 := funext hE_0_35_2; subst e_hE_0_35_2
  have e_hE_0_36_1 := funext hE_0_36_1; subst e_hE_0_36_1
  have e_hE_0_36_2 := funext hE_0_36_2; subst e_hE_0_36_2
  have e_hE_0_37_1 := funext hE_0_37_1; subst e_hE_0_37_1
  have e_hE_0_37_2 := funext hE_0_37_2; subst e_hE_0_37_2
  have e_hE_0_54_1 := funext hE_0_54_1; subst e_hE_0_54_1
  have e_hE_0_54_2 := funext hE_0_54_2; subst e_hE_0_54_2
  have e_hE_0_56_1 := funext hE_0_56_1; subst e_hE_0_56_1
  have e_hE_0_56_2 := funext hE_0_56_2; subst e_hE_0_56_2
  have e_hE_0_57_1 := funext hE_0_57_1; subst e_hE_0_57_1
  have e_hE_0_57_2 := funext hE_0_57_2; subst e_hE_0_57_2
  have e_hE_0_69_2 := funext hE_0_69_2; subst e_hE_0_69_2
  have e_hE_0_75_1 := funext hE_0_75_1; subst e_hE_0_75_1
  first
    | exact ⟨nbd_le ‹NYH _ _› (by omega) (by omega) (by omega), fun j a b c => (‹NYH _ _› j b c).2⟩
    | exact nyi_step ‹NYI _ _ _› (by omega) (by assumption) (by omega) (by omega) (by omega)
def o_Mo_bars_57 : or_T := (451, 16, [(0, (2, 0, 0, [165])), (4, (0, 0, 23, [])), (5, (2, 0, 0, [215])), (6, (0, 3, 3, [])), (7, (0, 0, 2000, [])), (8, (0, 0, 6000, [])), (9, (2, 0, 0, [209])), (15, (0, 1, 24, []))], [(6, [15, 4], [1]), (100, [9, 12, 14], []), (100, [5, 4, 8], []), (3, [8, 6, 7], []), (10, [7, 5, 4], []), (9, [5, 0], [75]), (20, [0, 4], [60, 1, 1, 787, 31, 75])], [], [], [(20, [0, 15], [60, 1, 1, 787, 31, 75])], [], [(15, 4, 1, 1), (12, 4, 0, 72), (4, 2, -4294967296, -1)])
theorem oo_Mo_bars_57 {kA : Nat → ClassId} : or_ok PRD kA GG o_Mo_bars_57 := by
  refine or_mk fun A ta ws vs hD hth hl => ?_
  intro t0 r0 t4 k4 t5 r5 t6 k6 t7 k7 t8 k8 t9 r9 t15 k15 d0 d2 d4 f0 ta1 w1 le1 s1 ta2 w2 le2 s2 f8 f9 f10 f14
  have s1 : (∀ b j, w_el ws b j = if b = v_ad (n_v vs 9) ∧ j = (v_iv (n_v vs 12)).toNat then v_iv (n_v vs 14) else w_el w1 b j) ∧ ∀ b k, w_fd ws b k = w_fd w1 b k := s1.2
  have s2 : (∀ b j, w_el w1 b j = if b = v_ad (n_v vs 5) ∧ j = (v_iv (n_v vs 4)).toNat then v_iv (n_v vs 8) else w_el w2 b j) ∧ ∀ b k, w_fd w1 b k = w_fd w2 b k := s2.2
  replace f8 := shm_38 f8
  rw [show v_iv (n_v vs 6) = 3 from by omega] at f8
  replace f9 := shm_107 f9
  replace f10 := shm_1251 f10
  replace f14 := shm_2290 f14
  have ar_0_33_1 : w_ar w1 (n_v vs 0) 33 = w_ar ws (n_v vs 0) 33 := congrArg v_ad (s1.2 _ _).symm
  have ar_0_33_2 : w_ar w2 (n_v vs 0) 33 = w_ar ws (n_v vs 0) 33 := by rw [← ar_0_33_1]; show v_ad (w_fd w2 _ _) = v_ad (w_fd w1 _ _); rw [s2.2]
  have cr_0_33 := fdq_117 hD hth r0
  have ar_0_34_1 : w_ar w1 (n_v vs 0) 34 = w_ar ws (n_v vs 0) 34 := congrArg v_ad (s1.2 _ _).symm
  have ar_0_34_2 : w_ar w2 (n_v vs 0) 34 = w_ar ws (n_v vs 0) 34 := by rw [← ar_0_34_1]; show v_ad (w_fd w2 _ _) = v_ad (w_fd w1 _ _); rw [s2.2]
  have cr_0_34 := fdq_118 hD hth r0
  have ar_0_35_1 : w_ar w1 (n_v vs 0) 35 = w_ar ws (n_v vs 0) 35 := congrArg v_ad (s1.2 _ _).symm
  have ar_0_35_2 : w_ar w2 (n_v vs 0) 35 = w_ar ws (n_v vs 0) 35 := by rw [← ar_0_35_1]; show v_ad (w_fd w2 _ _) = v_ad (w_fd w1 _ _); rw [s2.2]
  have cr_0_35 := fdq_132 hD hth r0
  have ar_0_36_1 : w_ar w1 (n_v vs 0) 36 = w_ar ws (n_v vs 0) 36 := congrArg v_ad (s1.2 _ _).symm
  have ar_0_36_2 : w_ar w2 (n_v vs 0) 36 = w_ar ws (n_v vs 0) 36 := by rw [← ar_0_36_1]; show v_ad (w_fd w2 _ _) = v_ad (w_fd w1 _ _); rw [s2.2]
  have cr_0_36 := fdq_167 hD hth r0
  have ar_0_37_1 : w_ar w1 (n_v vs 0) 37 = w_ar ws (n_v vs 0) 37 := congrArg v_ad (s1.2 _ _).symm
  have ar_0_37_2 : w_ar w2 (n_v vs 0) 37 = w_ar ws (n_v vs 0) 37 := by rw [← ar_0_37_1]; show v_ad (w_fd w2 _ _) = v_ad (w_fd w1 _ _); rw [s2.2]
  have cr_0_37 := fdq_168 hD hth r0
  have ar_0_54_1 : w_ar w1 (n_v vs 0) 54 = w_ar ws (n_v vs 0) 54 := congrArg v_ad (s1.2 _ _).symm
  have ar_0_54_2 : w_ar w2 (n_v vs 0) 54 = w_ar ws (n_v vs 0) 54 := by rw [← ar_0_54_1]; show v_ad (w_fd w2 _ _) = v_ad (w_fd w1 _ _); rw [s2.2]
  have cr_0_54 := fdq_272 hD hth r0
  have ar_0_56_1 : w_ar w1 (n_v vs 0) 56 = w_ar ws (n_v vs 0) 56 := congrArg v_ad (s1.2 _ _).symm
  have ar_0_56_2 : w_ar w2 (n_v vs 0) 56 = w_ar ws (n_v vs 0) 56 := by rw [← ar_0_56_1]; show v_ad (w_fd w2 _ _) = v_ad (w_fd w1 _ _); rw [s2.2]
  have cr_0_56 := fdq_273 hD hth r0
  have ar_0_57_1 : w_ar w1 (n_v vs 0) 57 = w_ar ws (n_v vs 0) 57 := congrArg v_ad (s1.2 _ _).symm
  have ar_0_57_2 : w_ar w2 (n_v vs 0) 57 = w_ar ws (n_v vs 0) 57 := by rw [← ar_0_57_1]; show v_ad (w_fd w2 _ _) = v_ad (w_fd w1 _ _); rw [s2.2]
  have cr_0_57 := fdq_274 hD hth r0
  have cr_0_69 := fdq_335 hD hth r0
  have ar_0_75_1 : w_ar w1 (n_v vs 0) 75 = w_ar ws (n_v vs 0) 75 := congrArg v_ad (s1.2 _ _).symm
  have ar_0_75_2 : w_ar w2 (n_v vs 0) 75 = w_ar ws (n_v vs 0) 75 := by rw [← ar_0_75_1]; show v_ad (w_fd w2 _ _) = v_ad (w_fd w1 _ _); rw [s2.2]
  have cr_0_75 := fdq_165 hD hth r0
  have ad_5 : v_ad (n_v vs 5) = w_ar ws (n_v vs 0) 75 := (congrArg v_ad f10).trans ar_0_75_2
  simp only [ar_0_33_1, ar_0_34_1, ar_0_35_1, ar_0_36_1, ar_0_37_1, ar_0_54_1, ar_0_56_1, ar_0_57_1, ad_5] at f9
  have h9 : v_iv (n_v vs 7) = w_ei w2 (w_ar ws (n_v vs 0) 75) (v_iv (n_v vs 4)) := f9
  simp only [ar_0_33_2, ar_0_34_2, ar_0_35_2, ar_0_36_2, ar_0_37_2, ar_0_54_2, ar_0_56_2, ar_0_57_2, ar_0_75_2] at f14
  have fe_0_31_1 : w_fi ws (n_v vs 0) 31 = w_fi w1 (n_v vs 0) 31 := congrArg v_iv (s1.2 _ _)
  have fe_0_32_1 : w_fi ws (n_v vs 0) 32 = w_fi w1 (n_v vs 0) 32 := congrArg v_iv (s1.2 _ _)
  have fe_0_53_1 : w_fi ws (n_v vs 0) 53 = w_fi w1 (n_v vs 0) 53 := congrArg v_iv (s1.2 _ _)
  have fe_0_31_2 : w_fi w1 (n_v vs 0) 31 = w_fi w2 (n_v vs 0) 31 := congrArg v_iv (s2.2 _ _)
  have fe_0_32_2 : w_fi w1 (n_v vs 0) 32 = w_fi w2 (n_v vs 0) 32 := congrArg v_iv (s2.2 _ _)
  have fe_0_53_2 : w_fi w1 (n_v vs 0) 53 = w_fi w2 (n_v vs 0) 53 := congrArg v_iv (s2.2 _ _)
  have hE_0_33_1 : ∀ j : Int, w_ei ws (w_ar ws (n_v vs 0) 33) j = w_ei w1 (w_ar ws (n_v vs 0) 33) j := el_kp s1.1 r9 cr_0_33 (by decide)
  have hE_0_33_2 : ∀ j : Int, w_ei w1 (w_ar ws (n_v vs 0) 33) j = w_ei w2 (w_ar ws (n_v vs 0) 33) j := el_kp s2.1 r5 cr_0_33 (by decide)
  have hE_0_34_1 : ∀ j : Int, w_ei ws (w_ar ws (n_v vs 0) 34) j = w_ei w1 (w_ar ws (n_v vs 0) 34) j := el_kp s1.1 r9 cr_0_34 (by decide)
  have hE_0_34_2 : ∀ j : Int, w_ei w1 (w_ar ws (n_v vs 0) 34) j = w_ei w2 (w_ar ws (n_v vs 0) 34) j := el_kp s2.1 r5 cr_0_34 (by decide)
  have hE_0_35_1 : ∀ j : Int, w_ei ws (w_ar ws (n_v vs 0) 35) j = w_ei w1 (w_ar ws (n_v vs 0) 35) j := el_kp s1.1 r9 cr_0_35 (by decide)
  have hE_0_35_2 : ∀ j : Int, w_ei w1 (w_ar ws (n_v vs 0) 35) j = w_ei w2 (w_ar ws (n_v vs 0) 35) j := el_kp s2.1 r5 cr_0_35 (by decide)
  have hE_0_36_1 : ∀ j : Int, w_ei ws (w_ar ws (n_v vs 0) 36) j = w_ei w1 (w_ar ws (n_v vs 0) 36) j := el_kp s1.1 r9 cr_0_36 (by decide)
  have hE_0_36_2 : ∀ j : Int, w_ei w1 (w_ar ws (n_v vs 0) 36) j = w_ei w2 (w_ar ws (n_v vs 0) 36) j := el_kp s2.1 r5 cr_0_36 (by decide)
  have hE_0_37_1 : ∀ j : Int, w_ei ws (w_ar ws (n_v vs 0) 37) j = w_ei w1 (w_ar ws (n_v vs 0) 37) j := el_kp s1.1 r9 cr_0_37 (by decide)
  have hE_0_37_2 : ∀ j : Int, w_ei w1 (w_ar ws (n_v vs 0) 37) j = w_ei w2 (w_ar ws (n_v vs 0) 37) j := el_kp s2.1 r5 cr_0_37 (by decide)
  have hE_0_54_1 : ∀ j : Int, w_ei ws (w_ar ws (n_v vs 0) 54) j = w_ei w1 (w_ar ws (n_v vs 0) 54) j := el_kp s1.1 r9 cr_0_54 (by decide)
  have hE_0_54_2 : ∀ j : Int, w_ei w1 (w_ar ws (n_v vs 0) 54) j = w_ei w2 (w_ar ws (n_v vs 0) 54) j := el_kp s2.1 r5 cr_0_54 (by decide)
  have hE_0_56_1 : ∀ j : Int, w_ei ws (w_ar ws (n_v vs 0) 56) j = w_ei w1 (w_ar ws (n_v vs 0) 56) j := el_kp s1.1 r9 cr_0_56 (by decide)
  have hE_0_56_2 : ∀ j : Int, w_ei w1 (w_ar ws (n_v vs 0) 56) j = w_ei w2 (w_ar ws (n_v vs 0) 56) j := el_kp s2.1 r5 cr_0_56 (by decide)
  have hE_0_57_1 : ∀ j : Int, w_ei ws (w_ar ws (n_v vs 0) 57) j = w_ei w1 (w_ar ws (n_v vs 0) 57) j := el_kp s1.1 r9 cr_0_57 (by decide)
  have hE_0_57_2 : ∀ j : Int, w_ei w1 (w_ar ws (n_v vs 0) 57) j = w_ei w2 (w_ar ws (n_v vs 0) 57) j := el_kp s2.1 r5 cr_0_57 (by decide)
  have hE_0_69_2 : ∀ j : Int, w_ei w1 (w_ar ws (n_v vs 0) 69) j = w_ei w2 (w_ar ws (n_v vs 0) 69) j := el_kp s2.1 r5 cr_0_69 (by decide)
  have hE_0_75_1 : ∀ j : Int, w_ei ws (w_ar ws (n_v vs 0) 75) j = w_ei w1 (w_ar ws (n_v vs 0) 75) j := el_kp s1.1 r9 cr_0_75 (by decide)
  have hE_0_75_2 : ∀ j : Int, 0 ≤ j → (j = v_iv (n_v vs 4) → w_ei w1 (w_ar ws (n_v vs 0) 75) j = v_iv (n_v vs 8)) ∧ (j ≠ v_iv (n_v vs 4) → w_ei w1 (w_ar ws (n_v vs 0) 75) j = w_ei w2 (w_ar ws (n_v vs 0) 75) j) := fun j hj => ⟨fun h => by unfold w_ei; rw [s2.1, if_pos ⟨ad_5.symm, by rw [h]⟩], fun h => by unfold w_ei; rw [s2.1, if_neg (fun e => h (by have := e.2; omega))]⟩
  have kz_0_31 := fdq_145 hD hth r0
  have kz_0_32 := fdq_140 hD hth r0
  have kz_0_53 := fdq_275 hD hth r0
  have nf0 : fc_1 PRD (20, [0, 15], [60, 1, 1, 787, 31, 75]) ws (vs) := ⟨nf_in hl rfl, sgq_2290 (vc_Mo_bars_57_0 (v_iv (n_v vs 4)) (v_iv (n_v vs 7)) (v_iv (n_v vs 8)) (v_iv (n_v vs 15)) (w_ei ws (w_ar ws (n_v vs 0) 33)) (w_ei ws (w_ar ws (n_v vs 0) 34)) (w_ei ws (w_ar ws (n_v vs 0) 35)) (w_ei ws (w_ar ws (n_v vs 0) 36)) (w_ei ws (w_ar ws (n_v vs 0) 37)) (w_ei ws (w_ar ws (n_v vs 0) 54)) (w_ei ws (w_ar ws (n_v vs 0) 56)) (w_ei ws (w_ar ws (n_v vs 0) 57)) (w_fi ws (n_v vs 0) 31) (w_fi ws (n_v vs 0) 32) (w_fi ws (n_v vs 0) 53) (w_ei w1 (w_ar ws (n_v vs 0) 33)) (w_ei w1 (w_ar ws (n_v vs 0) 34)) (w_ei w1 (w_ar ws (n_v vs 0) 35)) (w_ei w1 (w_ar ws (n_v vs 0) 36)) (w_ei w1 (w_ar ws (n_v vs 0) 37)) (w_ei w1 (w_ar ws (n_v vs 0) 54)) (w_ei w1 (w_ar ws (n_v vs 0) 56)) (w_ei w1 (w_ar ws (n_v vs 0) 57)) (w_fi w1 (n_v vs 0) 31) (w_fi w1 (n_v vs 0) 32) (w_fi w1 (n_v vs 0) 53) (w_ei w2 (w_ar ws (n_v vs 0) 75)) (w_ei w2 (w_ar ws (n_v vs 0) 33)) (w_ei w2 (w_ar ws (n_v vs 0) 34)) (w_ei w2 (w_ar ws (n_v vs 0) 35)) (w_ei w2 (w_ar ws (n_v vs 0) 36)) (w_ei w2 (w_ar ws (n_v vs 0) 37)) (w_ei w2 (w_ar ws (n_v vs 0) 54)) (w_ei w2 (w_ar ws (n_v vs 0) 56)) (w_ei w2 (w_ar ws (n_v vs 0) 57)) (w_fi w2 (n_v vs 0) 31) (w_fi w2 (n_v vs 0) 32) (w_fi w2 (n_v vs 0) 53) (w_ei w1 (w_ar ws (n_v vs 0) 69)) (w_ei w2 (w_ar ws (n_v vs 0) 69)) (w_ei ws (w_ar ws (n_v vs 0) 75)) (w_ei w1 (w_ar ws (n_v vs 0) 75)) k4 k7 k8 k15 (shm_4 f0) f8 h9 f14 fe_0_31_1 fe_0_32_1 fe_0_53_1 fe_0_31_2 fe_0_32_2 fe_0_53_2 hE_0_33_1 hE_0_33_2 hE_0_34_1 hE_0_34_2 hE_0_35_1 hE_0_35_2 hE_0_36_1 hE_0_36_2 hE_0_37_1 hE_0_37_2 hE_0_54_1 hE_0_54_2 hE_0_56_1 hE_0_56_2 hE_0_57_1 hE_0_57_2 hE_0_69_2 hE_0_75_1 hE_0_75_2 kz_0_31 kz_0_32 kz_0_53)⟩
  refine ⟨(fun _ h => (by cases h)), [], trivial, ?_, (fun _ h => (by cases h))⟩
  rw [List.append_nil]
  exact List.forall_mem_cons.mpr ⟨⟨show (20 : Nat) < 100 from by decide, nf0⟩, (fun _ h => (by cases h))⟩
def t_Mo_bars_ct : ct_L := [(0, 855, e_Mo_max), (1, 394, e_Mo_tail), (1, 398, e_Mo_head), (1, 475, e_Mo_nodes), (1, 603, e_Mo_across1), (1, 668, e_Mo_blocks), (1, 704, e_Mo_isPlanar), (1, 707, e_Mo_goRound), (1, 916, e_Mo_stOrder), (1, 919, e_Mo_low), (1, 922, e_Mo_dart), (1, 925, e_Mo_middle), (1, 928, e_Mo_barX)]
def n_Mo_bars_a0 : an_T := (30, [(0, (2, 0, 0, [165])), (1, (0, 0, 3, [])), (2, (0, 3, 24, [])), (3, (0, 0, 24, []))], [], (0, 0), [(0, 0, 99970), (1, 3, 24), (0, 0, 100000), (0, 0, 0), (0, 0, 0)], [], [], [], 0, [], [(20, [0], [60, 2, 2, 75, 31, 32, 33, 34]), (20, [0], [60, 3, 4, 201, 5, 31, 32, 2, 33, 34, 35]), (20, [0], [60, 3, 7, 318, 5, 31, 32, 2, 33, 34, 35, 36, 37, 17]), (20, [0, 3], [60, 0, 1, 315, 36]), (20, [2, 0], [50, 1, 0, 1031, 1, 2, 1, 0, 2, 1, 31])])
def n_Mo_bars_a1 : an_T := (63, [(0, (2, 0, 0, [165])), (1, (0, 0, 3, [])), (2, (0, 3, 24, [])), (3, (0, 0, 24, []))], [], (0, 0), [(0, 0, 99937), (1, 3, 24), (0, 0, 100000), (0, 0, 0), (0, 0, 0)], [], [], [], 0, [], [(20, [0], [60, 3, 8, 316, 31, 32, 53, 33, 34, 35, 36, 37, 54, 56, 57]), (20, [2, 0], [50, 1, 0, 1031, 1, 2, 1, 0, 2, 1, 31]), (20, [0, 3], [60, 0, 1, 783, 75])])
def n_Mo_bars_a2 : an_T := (95, [(0, (2, 0, 0, [165])), (1, (0, 0, 3, [])), (2, (0, 3, 24, [])), (3, (0, 0, 24, []))], [], (0, 0), [(0, 0, 99905), (1, 3, 24), (0, 0, 100000), (0, 0, 0), (0, 0, 0)], [], [], [], 0, [], [(20, [0], [60, 3, 8, 316, 31, 32, 53, 33, 34, 35, 36, 37, 54, 56, 57]), (20, [2, 0], [50, 1, 0, 1031, 1, 2, 1, 0, 2, 1, 31]), (20, [0, 3], [60, 1, 1, 784, 31, 75])])
def n_Mo_bars_a3 : an_T := (103, [(0, (2, 0, 0, [165])), (1, (0, 0, 3, [])), (2, (0, 3, 24, [])), (3, (0, 0, 23, [])), (4, (0, 0, 80, []))], [], (0, 0), [(0, 0, 99905), (1, 3, 24), (0, 0, 99897), (1, 4, 80), (0, 0, 100000)], [(3, 2, (Int.negSucc 999999999999), (Int.negSucc 0))], [], [], 0, [], [(20, [0], [60, 3, 8, 316, 31, 32, 53, 33, 34, 35, 36, 37, 54, 56, 57]), (20, [2, 0], [50, 1, 0, 1031, 1, 2, 1, 0, 2, 1, 31]), (20, [0, 3, 4], [60, 1, 1, 785, 31, 75])])
def n_Mo_bars_a4 : an_T := (184, [(0, (2, 0, 0, [165])), (1, (0, 0, 3, [])), (2, (0, 3, 24, [])), (3, (0, (Int.negSucc 0), 159, [])), (4, (0, 0, 100, []))], [], (0, 0), [(0, 0, 99816), (1, 4, 100), (0, 0, 100000), (0, 0, 0), (0, 0, 0)], [], [], [], 0, [], [(20, [0], [60, 3, 8, 316, 31, 32, 53, 33, 34, 35, 36, 37, 54, 56, 57]), (20, [2, 0], [50, 1, 0, 1031, 1, 2, 1, 0, 2, 1, 31]), (20, [0, 4], [60, 0, 1, 319, 20]), (20, [0], [60, 1, 1, 786, 31, 75])])
def n_Mo_bars_a5 : an_T := (222, [(0, (2, 0, 0, [165])), (1, (0, 0, 3, [])), (2, (0, 3, 24, [])), (3, (0, (Int.negSucc 0), 159, [])), (4, (0, 0, 160, []))], [], (0, 0), [(0, 0, 99778), (1, 4, 160), (0, 0, 100000), (0, 0, 0), (0, 0, 0)], [], [], [], 0, [], [(20, [0], [60, 3, 8, 316, 31, 32, 53, 33, 34, 35, 36, 37, 54, 56, 57]), (20, [2, 0], [50, 1, 0, 1031, 1, 2, 1, 0, 2, 1, 31]), (20, [0, 4], [60, 1, 1, 320, 53, 20]), (20, [0], [60, 1, 1, 786, 31, 75])])
def n_Mo_bars_a6 : an_T := (234, [(0, (2, 0, 0, [165])), (1, (0, 0, 3, [])), (2, (0, 3, 24, [])), (3, (0, (Int.negSucc 0), 159, [])), (4, (0, 0, 159, [])), (5, (0, 1, 80, []))], [], (0, 0), [(0, 0, 99778), (1, 4, 160), (0, 0, 99766), (1, 5, 80), (0, 0, 100000)], [], [], [], 0, [], [(20, [0], [60, 3, 8, 316, 31, 32, 53, 33, 34, 35, 36, 37, 54, 56, 57]), (20, [2, 0], [50, 1, 0, 1031, 1, 2, 1, 0, 2, 1, 31]), (20, [0, 4, 5], [60, 1, 1, 321, 53, 20]), (20, [0], [60, 1, 1, 786, 31, 75])])
def n_Mo_bars_a7 : an_T := (322, [(0, (2, 0, 0, [165])), (1, (0, 0, 3, [])), (2, (0, 3, 24, [])), (3, (0, (Int.negSucc 0), 159, [])), (4, (0, 0, 24, []))], [], (0, 0), [(0, 0, 99678), (1, 4, 24), (0, 0, 100000), (0, 0, 0), (0, 0, 0)], [], [], [], 0, [], [(20, [0], [60, 3, 8, 316, 31, 32, 53, 33, 34, 35, 36, 37, 54, 56, 57]), (20, [2, 0], [50, 1, 0, 1031, 1, 2, 1, 0, 2, 1, 31]), (20, [0], [60, 1, 1, 786, 31, 75])])
def n_Mo_bars_a8 : an_T := (343, [(0, (2, 0, 0, [165])), (1, (0, 0, 3, [])), (2, (0, 3, 24, [])), (3, (0, (Int.negSucc 0), 159, [])), (4, (0, 0, 48, []))], [], (0, 0), [(0, 0, 99657), (1, 4, 48), (0, 0, 100000), (0, 0, 0), (0, 0, 0)], [], [], [], 0, [], [(20, [0], [60, 3, 8, 316, 31, 32, 53, 33, 34, 35, 36, 37, 54, 56, 57]), (20, [2, 0], [50, 1, 0, 1031, 1, 2, 1, 0, 2, 1, 31]), (20, [0], [60, 1, 1, 786, 31, 75])])
def n_Mo_bars_a9 : an_T := (451, [(0, (2, 0, 0, [165])), (1, (0, 0, 3, [])), (2, (0, 3, 24, [])), (3, (0, (Int.negSucc 0), 159, [])), (4, (0, 0, 24, []))], [], (0, 0), [(0, 0, 99549), (1, 4, 24), (0, 0, 100000), (0, 0, 0), (0, 0, 0)], [], [], [], 0, [], [(20, [0], [60, 3, 8, 316, 31, 32, 53, 33, 34, 35, 36, 37, 54, 56, 57]), (20, [2, 0], [50, 1, 0, 1031, 1, 2, 1, 0, 2, 1, 31]), (20, [0, 4], [60, 1, 1, 787, 31, 75])])
def n_Mo_bars_an : List an_T := [n_Mo_bars_a0, n_Mo_bars_a1, n_Mo_bars_a2, n_Mo_bars_a3, n_Mo_bars_a4, n_Mo_bars_a5, n_Mo_bars_a6, n_Mo_bars_a7, n_Mo_bars_a8, n_Mo_bars_a9]
def x_Mo_bars_ft : ft_L := [(41, 13, 20), (66, 13, 36), (105, 13, 54), (144, 13, 69), (162, 13, 75), (165, 13, 76), (168, 13, 77), (171, 13, 78), (284, 13, 124), (287, 13, 126), (597, 13, 32), (683, 13, 53)]
def x_Mo_bars_pt : pt_L := []
def x_Mo_bars_kt : kt_L := [(1, 776, .int (Int32.ofInt (-1000000)), (0, -1000000, -1000000, []))]
def x_Mo_bars_nt : nt_L := []
def x_Mo_bars_ot : List or_T := [o_Mo_bars_0, o_Mo_bars_1, o_Mo_bars_2, o_Mo_bars_3, o_Mo_bars_4, o_Mo_bars_5, o_Mo_bars_6, o_Mo_bars_7, o_Mo_bars_8, o_Mo_bars_9, o_Mo_bars_10, o_Mo_bars_11, o_Mo_bars_12, o_Mo_bars_13, o_Mo_bars_14, o_Mo_bars_15, o_Mo_bars_16, o_Mo_bars_17, o_Mo_bars_18, o_Mo_bars_19, o_Mo_bars_20, o_Mo_bars_21, o_Mo_bars_22, o_Mo_bars_23, o_Mo_bars_24, o_Mo_bars_25, o_Mo_bars_26, o_Mo_bars_27, o_Mo_bars_28, o_Mo_bars_29, o_Mo_bars_30, o_Mo_bars_31, o_Mo_bars_32, o_Mo_bars_33, o_Mo_bars_34, o_Mo_bars_35, o_Mo_bars_36, o_Mo_bars_37, o_Mo_bars_38, o_Mo_bars_39, o_Mo_bars_40, o_Mo_bars_41, o_Mo_bars_42, o_Mo_bars_43, o_Mo_bars_44, o_Mo_bars_45, o_Mo_bars_46, o_Mo_bars_47, o_Mo_bars_48, o_Mo_bars_49, o_Mo_bars_50, o_Mo_bars_51, o_Mo_bars_52, o_Mo_bars_53, o_Mo_bars_54, o_Mo_bars_55, o_Mo_bars_56, o_Mo_bars_57]
set_option maxRecDepth 100000 in
theorem g_Mo_bars_0 : chk_an b_Mo_bars 8 (some .int) e_Mo_bars GG x_Mo_bars_ft x_Mo_bars_pt t_Mo_bars_ct x_Mo_bars_kt x_Mo_bars_nt n_Mo_bars_an x_Mo_bars_ot 5 1760 n_Mo_bars_a0 = true := by decide +kernel
set_option maxRecDepth 100000 in
theorem g_Mo_bars_1 : chk_an b_Mo_bars 8 (some .int) e_Mo_bars GG x_Mo_bars_ft x_Mo_bars_pt t_Mo_bars_ct x_Mo_bars_kt x_Mo_bars_nt n_Mo_bars_an x_Mo_bars_ot 5 1760 n_Mo_bars_a1 = true := by decide +kernel
set_option maxRecDepth 100000 in
theorem g_Mo_bars_2 : chk_an b_Mo_bars 8 (some .int) e_Mo_bars GG x_Mo_bars_ft x_Mo_bars_pt t_Mo_bars_ct x_Mo_bars_kt x_Mo_bars_nt n_Mo_bars_an x_Mo_bars_ot 5 1760 n_Mo_bars_a2 = true := by decide +kernel
set_option maxRecDepth 100000 in
theorem g_Mo_bars_3 : chk_an b_Mo_bars 8 (some .int) e_Mo_bars GG x_Mo_bars_ft x_Mo_bars_pt t_Mo_bars_ct x_Mo_bars_kt x_Mo_bars_nt n_Mo_bars_an x_Mo_bars_ot 5 1760 n_Mo_bars_a3 = true := by decide +kernel
set_option maxRecDepth 100000 in
theorem g_Mo_bars_4 : chk_an b_Mo_bars 8 (some .int) e_Mo_bars GG x_Mo_bars_ft x_Mo_bars_pt t_Mo_bars_ct x_Mo_bars_kt x_Mo_bars_nt n_Mo_bars_an x_Mo_bars_ot 5 1760 n_Mo_bars_a4 = true := by decide +kernel
set_option maxRecDepth 100000 in
theorem g_Mo_bars_5 : chk_an b_Mo_bars 8 (some .int) e_Mo_bars GG x_Mo_bars_ft x_Mo_bars_pt t_Mo_bars_ct x_Mo_bars_kt x_Mo_bars_nt n_Mo_bars_an x_Mo_bars_ot 5 1760 n_Mo_bars_a5 = true := by decide +kernel
set_option maxRecDepth 100000 in
theorem g_Mo_bars_6 : chk_an b_Mo_bars 8 (some .int) e_Mo_bars GG x_Mo_bars_ft x_Mo_bars_pt t_Mo_bars_ct x_Mo_bars_kt x_Mo_bars_nt n_Mo_bars_an x_Mo_bars_ot 5 1760 n_Mo_bars_a6 = true := by decide +kernel
set_option maxRecDepth 100000 in
theorem g_Mo_bars_7 : chk_an b_Mo_bars 8 (some .int) e_Mo_bars GG x_Mo_bars_ft x_Mo_bars_pt t_Mo_bars_ct x_Mo_bars_kt x_Mo_bars_nt n_Mo_bars_an x_Mo_bars_ot 5 1760 n_Mo_bars_a7 = true := by decide +kernel
set_option maxRecDepth 100000 in
theorem g_Mo_bars_8 : chk_an b_Mo_bars 8 (some .int) e_Mo_bars GG x_Mo_bars_ft x_Mo_bars_pt t_Mo_bars_ct x_Mo_bars_kt x_Mo_bars_nt n_Mo_bars_an x_Mo_bars_ot 5 1760 n_Mo_bars_a8 = true := by decide +kernel
set_option maxRecDepth 100000 in
theorem g_Mo_bars_9 : chk_an b_Mo_bars 8 (some .int) e_Mo_bars GG x_Mo_bars_ft x_Mo_bars_pt t_Mo_bars_ct x_Mo_bars_kt x_Mo_bars_nt n_Mo_bars_an x_Mo_bars_ot 5 1760 n_Mo_bars_a9 = true := by decide +kernel
set_option maxRecDepth 100000 in
theorem g_Mo_bars_s : chk b_Mo_bars 8 (some .int) e_Mo_bars GG x_Mo_bars_ft x_Mo_bars_pt t_Mo_bars_ct x_Mo_bars_kt x_Mo_bars_nt n_Mo_bars_an x_Mo_bars_ot 100000 (List.replicate 5 me_0) 1760 true (0, en_y e_Mo_bars, 0, 0, an_fs x_Mo_bars_ot e_Mo_bars.2.2.2.2.2.2.2.2.2.2.1) = true := by decide +kernel
end
