
set_option maxHeartbeats 4000000 in
theorem vc_Mo_test_f_0_7 (k : Int) (hk0 : 0 ≤ k) (hk1 : k ≤ 12) (x1 : Int) (x2 : Int) (x3 : Int) (tokenKind_0 : Int → Int) (cur_0 : Int) (tokens_0 : Int) (styleKind_0 : Int) (styleOne_0 : Int) (opened_0 : Int) (fault_0 : Int) (gx : Int) (gy : Int) (gu : Int) (k1 : 0 ≤ x1 ∧ x1 ≤ 2009) (k2 : 0 ≤ x2 ∧ x2 ≤ 5) (k3 : 0 ≤ x3 ∧ x3 ≤ 13) (f0 : ((cur_0 + 1) ≤ tokens_0) ∧ ((tokens_0 ≤ 2010) ∧ ((tokenKind_0 ((tokens_0 - 1)) = 0) ∨ (tokenKind_0 ((tokens_0 - 1)) = 4)))) (f1 : 1 * cur_0 + ((-1) * x1 + 0) ≤ 0) (f2 : (-1) * cur_0 + (1 * x1 + 0) ≤ 0) (f3 : (styleKind_0 = 0) → (styleOne_0 ≤ 23)) (f4 : 1 * opened_0 + 0 ≤ k) (f5 : (-1) * opened_0 + 0 ≤ ((-k))) (f6 : fault_0 = x2) (f7 : opened_0 = x3) (hK_0_160 : ∀ j : Int, 0 ≤ j → j < 2010 → 0 ≤ tokenKind_0 j ∧ tokenKind_0 j ≤ 4) (kz_0_8 : 0 ≤ fault_0 ∧ fault_0 ≤ 5) (kz_0_157 : 0 ≤ tokens_0 ∧ tokens_0 ≤ 2010) (kz_0_158 : 0 ≤ cur_0 ∧ cur_0 ≤ 2009) (kz_0_159 : 0 ≤ opened_0 ∧ opened_0 ≤ 13) (kz_0_164 : 0 ≤ styleKind_0 ∧ styleKind_0 ≤ 1) (kz_0_165 : (-1) ≤ styleOne_0 ∧ styleOne_0 ≤ 47) (ex2 : gx = cur_0) (ex3 : 0 ≤ gx ∧ gx ≤ 2009) (ey2 : gy = fault_0) (ey3 : 0 ≤ gy ∧ gy ≤ 5) (eu2 : gu = opened_0) (eu3 : 0 ≤ gu ∧ gu ≤ 13) : (-1) * opened_0 + 0 ≤ ((-k)) := by
  first | with_reducible assumption | ((have f0_c0 := f0.1); (have f0_c1 := f0.2.1); (have f0_c2 := f0.2.2); (try and_intros) <;> first | with_reducible assumption | (clear f0_c2 f0 hK_0_160 f3; omega)) | ((have f0_c0 := f0.1); (have f0_c1 := f0.2.1); (have f0_c2 := f0.2.2); (first | have f3_b := f3 (by clear f0_c2 f0 hK_0_160 f3; omega) | skip); (first | have f3_d := f3 (by with_reducible assumption) | skip); (try and_intros) <;> first | with_reducible assumption | (clear f0_c2 f0 hK_0_160 f3; omega)) | ((have f0_c0 := f0.1); (have f0_c1 := f0.2.1); (have f0_c2 := f0.2.2); (first | have f3_b := f3 (by clear f0_c2 f0 hK_0_160 f3; omega) | skip); (first | have f3_d := f3 (by with_reducible assumption) | skip); (first | have f0_q := tk_nx0 f0 (by clear f0_c2 f0 hK_0_160 f3; omega) | skip); (try and_intros) <;> first | with_reducible assumption | (clear f0_c2 f0 hK_0_160 f3; omega)) | omega
set_option maxHeartbeats 4000000 in
theorem vc_Mo_test_f_0_8 (k : Int) (hk0 : 0 ≤ k) (hk1 : k ≤ 12) (x1 : Int) (x2 : Int) (x3 : Int) (tokenKind_0 : Int → Int) (cur_0 : Int) (tokens_0 : Int) (styleKind_0 : Int) (styleOne_0 : Int) (opened_0 : Int) (fault_0 : Int) (gx : Int) (gy : Int) (gu : Int) (k1 : 0 ≤ x1 ∧ x1 ≤ 2009) (k2 : 0 ≤ x2 ∧ x2 ≤ 5) (k3 : 0 ≤ x3 ∧ x3 ≤ 13) (f0 : ((cur_0 + 1) ≤ tokens_0) ∧ ((tokens_0 ≤ 2010) ∧ ((tokenKind_0 ((tokens_0 - 1)) = 0) ∨ (tokenKind_0 ((tokens_0 - 1)) = 4)))) (f1 : 1 * cur_0 + ((-1) * x1 + 0) ≤ 0) (f2 : (-1) * cur_0 + (1 * x1 + 0) ≤ 0) (f3 : (styleKind_0 = 0) → (styleOne_0 ≤ 23)) (f4 : 1 * opened_0 + 0 ≤ k) (f5 : (-1) * opened_0 + 0 ≤ ((-k))) (f6 : fault_0 = x2) (f7 : opened_0 = x3) (hK_0_160 : ∀ j : Int, 0 ≤ j → j < 2010 → 0 ≤ tokenKind_0 j ∧ tokenKind_0 j ≤ 4) (kz_0_8 : 0 ≤ fault_0 ∧ fault_0 ≤ 5) (kz_0_157 : 0 ≤ tokens_0 ∧ tokens_0 ≤ 2010) (kz_0_158 : 0 ≤ cur_0 ∧ cur_0 ≤ 2009) (kz_0_159 : 0 ≤ opened_0 ∧ opened_0 ≤ 13) (kz_0_164 : 0 ≤ styleKind_0 ∧ styleKind_0 ≤ 1) (kz_0_165 : (-1) ≤ styleOne_0 ∧ styleOne_0 ≤ 47) (ex2 : gx = cur_0) (ex3 : 0 ≤ gx ∧ gx ≤ 2009) (ey2 : gy = fault_0) (ey3 : 0 ≤ gy ∧ gy ≤ 5) (eu2 : gu = opened_0) (eu3 : 0 ≤ gu ∧ gu ≤ 13) : fault_0 = gy := by
  first | with_reducible assumption | ((have f0_c0 := f0.1); (have f0_c1 := f0.2.1); (have f0_c2 := f0.2.2); (try and_intros) <;> first | with_reducible assumption | (clear f0_c2 f0 hK_0_160 f3; omega)) | ((have f0_c0 := f0.1); (have f0_c1 := f0.2.1); (have f0_c2 := f0.2.2); (first | have f3_b := f3 (by clear f0_c2 f0 hK_0_160 f3; omega) | skip); (first | have f3_d := f3 (by with_reducible assumption) | skip); (try and_intros) <;> first | with_reducible assumption | (clear f0_c2 f0 hK_0_160 f3; omega)) | ((have f0_c0 := f0.1); (have f0_c1 := f0.2.1); (have f0_c2 := f0.2.2); (first | have f3_b := f3 (by clear f0_c2 f0 hK_0_160 f3; omega) | skip); (first | have f3_d := f3 (by with_reducible assumption) | skip); (first | have f0_q := tk_nx0 f0 (by clear f0_c2 f0 hK_0_160 f3; omega) | skip); (try and_intros) <;> first | with_reducible assumption | (clear f0_c2 f0 hK_0_160 f3; omega)) | omega
set_option maxHeartbeats 4000000 in
theorem vc_Mo_test_f_0_9 (k : Int) (hk0 : 0 ≤ k) (hk1 : k ≤ 12) (x1 : Int) (x2 : Int) (x3 : Int) (tokenKind_0 : Int → Int) (cur_0 : Int) (tokens_0 : Int) (styleKind_0 : Int) (styleOne_0 : Int) (opened_0 : Int) (fault_0 : Int) (gx : Int) (gy : Int) (gu : Int) (k1 : 0 ≤ x1 ∧ x1 ≤ 2009) (k2 : 0 ≤ x2 ∧ x2 ≤ 5) (k3 : 0 ≤ x3 ∧ x3 ≤ 13) (f0 : ((cur_0 + 1) ≤ tokens_0) ∧ ((tokens_0 ≤ 2010) ∧ ((tokenKind_0 ((tokens_0 - 1)) = 0) ∨ (tokenKind_0 ((tokens_0 - 1)) = 4)))) (f1 : 1 * cur_0 + ((-1) * x1 + 0) ≤ 0) (f2 : (-1) * cur_0 + (1 * x1 + 0) ≤ 0) (f3 : (styleKind_0 = 0) → (styleOne_0 ≤ 23)) (f4 : 1 * opened_0 + 0 ≤ k) (f5 : (-1) * opened_0 + 0 ≤ ((-k))) (f6 : fault_0 = x2) (f7 : opened_0 = x3) (hK_0_160 : ∀ j : Int, 0 ≤ j → j < 2010 → 0 ≤ tokenKind_0 j ∧ tokenKind_0 j ≤ 4) (kz_0_8 : 0 ≤ fault_0 ∧ fault_0 ≤ 5) (kz_0_157 : 0 ≤ tokens_0 ∧ tokens_0 ≤ 2010) (kz_0_158 : 0 ≤ cur_0 ∧ cur_0 ≤ 2009) (kz_0_159 : 0 ≤ opened_0 ∧ opened_0 ≤ 13) (kz_0_164 : 0 ≤ styleKind_0 ∧ styleKind_0 ≤ 1) (kz_0_165 : (-1) ≤ styleOne_0 ∧ styleOne_0 ≤ 47) (ex2 : gx = cur_0) (ex3 : 0 ≤ gx ∧ gx ≤ 2009) (ey2 : gy = fault_0) (ey3 : 0 ≤ gy ∧ gy ≤ 5) (eu2 : gu = opened_0) (eu3 : 0 ≤ gu ∧ gu ≤ 13) : opened_0 = gu := by
  first | with_reducible assumption | ((have f0_c0 := f0.1); (have f0_c1 := f0.2.1); (have f0_c2 := f0.2.2); (try and_intros) <;> first | with_reducible assumption | (clear f0_c2 f0 hK_0_160 f3; omega)) | ((have f0_c0 := f0.1); (have f0_c1 := f0.2.1); (have f0_c2 := f0.2.2); (first | have f3_b := f3 (by clear f0_c2 f0 hK_0_160 f3; omega) | skip); (first | have f3_d := f3 (by with_reducible assumption) | skip); (try and_intros) <;> first | with_reducible assumption | (clear f0_c2 f0 hK_0_160 f3; omega)) | ((have f0_c0 := f0.1); (have f0_c1 := f0.2.1); (have f0_c2 := f0.2.2); (first | have f3_b := f3 (by clear f0_c2 f0 hK_0_160 f3; omega) | skip); (first | have f3_d := f3 (by with_reducible assumption) | skip); (first | have f0_q := tk_nx0 f0 (by clear f0_c2 f0 hK_0_160 f3; omega) | skip); (try and_intros) <;> first | with_reducible assumption | (clear f0_c2 f0 hK_0_160 f3; omega)) | omega
set_option maxHeartbeats 4000000 in
theorem vc_Mo_test_f_0_10 (k : Int) (hk0 : 0 ≤ k) (hk1 : k ≤ 12) (x1 : Int) (x2 : Int) (x3 : Int) (tokenKind_0 : Int → Int) (cur_0 : Int) (tokens_0 : Int) (styleKind_0 : Int) (styleOne_0 : Int) (opened_0 : Int) (fault_0 : Int) (gx : Int) (gy : Int) (gu : Int) (k1 : 0 ≤ x1 ∧ x1 ≤ 2009) (k2 : 0 ≤ x2 ∧ x2 ≤ 5) (k3 : 0 ≤ x3 ∧ x3 ≤ 13) (f0 : ((cur_0 + 1) ≤ tokens_0) ∧ ((tokens_0 ≤ 2010) ∧ ((tokenKind_0 ((tokens_0 - 1)) = 0) ∨ (tokenKind_0 ((tokens_0 - 1)) = 4)))) (f1 : 1 * cur_0 + ((-1) * x1 + 0) ≤ 0) (f2 : (-1) * cur_0 + (1 * x1 + 0) ≤ 0) (f3 : (styleKind_0 = 0) → (styleOne_0 ≤ 23)) (f4 : 1 * opened_0 + 0 ≤ k) (f5 : (-1) * opened_0 + 0 ≤ ((-k))) (f6 : fault_0 = x2) (f7 : opened_0 = x3) (hK_0_160 : ∀ j : Int, 0 ≤ j → j < 2010 → 0 ≤ tokenKind_0 j ∧ tokenKind_0 j ≤ 4) (kz_0_8 : 0 ≤ fault_0 ∧ fault_0 ≤ 5) (kz_0_157 : 0 ≤ tokens_0 ∧ tokens_0 ≤ 2010) (kz_0_158 : 0 ≤ cur_0 ∧ cur_0 ≤ 2009) (kz_0_159 : 0 ≤ opened_0 ∧ opened_0 ≤ 13) (kz_0_164 : 0 ≤ styleKind_0 ∧ styleKind_0 ≤ 1) (kz_0_165 : (-1) ≤ styleOne_0 ∧ styleOne_0 ≤ 47) (ex2 : gx = cur_0) (ex3 : 0 ≤ gx ∧ gx ≤ 2009) (ey2 : gy = fault_0) (ey3 : 0 ≤ gy ∧ gy ≤ 5) (eu2 : gu = opened_0) (eu3 : 0 ≤ gu ∧ gu ≤ 13) : 1 * x1 + ((-1) * gx + 0) ≤ 0 := by
  first | with_reducible assumption | ((have f0_c0 := f0.1); (have f0_c1 := f0.2.1); (have f0_c2 := f0.2.2); (try and_intros) <;> first | with_reducible assumption | (clear f0_c2 f0 hK_0_160 f3; omega)) | ((have f0_c0 := f0.1); (have f0_c1 := f0.2.1); (have f0_c2 := f0.2.2); (first | have f3_b := f3 (by clear f0_c2 f0 hK_0_160 f3; omega) | skip); (first | have f3_d := f3 (by with_reducible assumption) | skip); (try and_intros) <;> first | with_reducible assumption | (clear f0_c2 f0 hK_0_160 f3; omega)) | ((have f0_c0 := f0.1); (have f0_c1 := f0.2.1); (have f0_c2 := f0.2.2); (first | have f3_b := f3 (by clear f0_c2 f0 hK_0_160 f3; omega) | skip); (first | have f3_d := f3 (by with_reducible assumption) | skip); (first | have f0_q := tk_nx0 f0 (by clear f0_c2 f0 hK_0_160 f3; omega) | skip); (try and_intros) <;> first | with_reducible assumption | (clear f0_c2 f0 hK_0_160 f3; omega)) | omega
set_option maxHeartbeats 4000000 in
theorem vc_Mo_test_f_0_11 (k : Int) (hk0 : 0 ≤ k) (hk1 : k ≤ 12) (x1 : Int) (x2 : Int) (x3 : Int) (tokenKind_0 : Int → Int) (cur_0 : Int) (tokens_0 : Int) (styleKind_0 : Int) (styleOne_0 : Int) (opened_0 : Int) (fault_0 : Int) (gx : Int) (gy : Int) (gu : Int) (k1 : 0 ≤ x1 ∧ x1 ≤ 2009) (k2 : 0 ≤ x2 ∧ x2 ≤ 5) (k3 : 0 ≤ x3 ∧ x3 ≤ 13) (f0 : ((cur_0 + 1) ≤ tokens_0) ∧ ((tokens_0 ≤ 2010) ∧ ((tokenKind_0 ((tokens_0 - 1)) = 0) ∨ (tokenKind_0 ((tokens_0 - 1)) = 4)))) (f1 : 1 * cur_0 + ((-1) * x1 + 0) ≤ 0) (f2 : (-1) * cur_0 + (1 * x1 + 0) ≤ 0) (f3 : (styleKind_0 = 0) → (styleOne_0 ≤ 23)) (f4 : 1 * opened_0 + 0 ≤ k) (f5 : (-1) * opened_0 + 0 ≤ ((-k))) (f6 : fault_0 = x2) (f7 : opened_0 = x3) (hK_0_160 : ∀ j : Int, 0 ≤ j → j < 2010 → 0 ≤ tokenKind_0 j ∧ tokenKind_0 j ≤ 4) (kz_0_8 : 0 ≤ fault_0 ∧ fault_0 ≤ 5) (kz_0_157 : 0 ≤ tokens_0 ∧ tokens_0 ≤ 2010) (kz_0_158 : 0 ≤ cur_0 ∧ cur_0 ≤ 2009) (kz_0_159 : 0 ≤ opened_0 ∧ opened_0 ≤ 13) (kz_0_164 : 0 ≤ styleKind_0 ∧ styleKind_0 ≤ 1) (kz_0_165 : (-1) ≤ styleOne_0 ∧ styleOne_0 ≤ 47) (ex2 : gx = cur_0) (ex3 : 0 ≤ gx ∧ gx ≤ 2009) (ey2 : gy = fault_0) (ey3 : 0 ≤ gy ∧ gy ≤ 5) (eu2 : gu = opened_0) (eu3 : 0 ≤ gu ∧ gu ≤ 13) : gx = x1 := by
  first | with_reducible assumption | ((have f0_c0 := f0.1); (have f0_c1 := f0.2.1); (have f0_c2 := f0.2.2); (try and_intros) <;> first | with_reducible assumption | (clear f0_c2 f0 hK_0_160 f3; omega)) | ((have f0_c0 := f0.1); (have f0_c1 := f0.2.1); (have f0_c2 := f0.2.2); (first | have f3_b := f3 (by clear f0_c2 f0 hK_0_160 f3; omega) | skip); (first | have f3_d := f3 (by with_reducible assumption) | skip); (try and_intros) <;> first | with_reducible assumption | (clear f0_c2 f0 hK_0_160 f3; omega)) | ((have f0_c0 := f0.1); (have f0_c1 := f0.2.1); (have f0_c2 := f0.2.2); (first | have f3_b := f3 (by clear f0_c2 f0 hK_0_160 f3; omega) | skip); (first | have f3_d := f3 (by with_reducible assumption) | skip); (first | have f0_q := tk_nx0 f0 (by clear f0_c2 f0 hK_0_160 f3; omega) | skip); (try and_intros) <;> first | with_reducible assumption | (clear f0_c2 f0 hK_0_160 f3; omega)) | omega
set_option maxHeartbeats 4000000 in
theorem vc_Mo_test_f_0_12 (k : Int) (hk0 : 0 ≤ k) (hk1 : k ≤ 12) (x1 : Int) (x2 : Int) (x3 : Int) (tokenKind_0 : Int → Int) (cur_0 : Int) (tokens_0 : Int) (styleKind_0 : Int) (styleOne_0 : Int) (opened_0 : Int) (fault_0 : Int) (gx : Int) (gy : Int) (gu : Int) (k1 : 0 ≤ x1 ∧ x1 ≤ 2009) (k2 : 0 ≤ x2 ∧ x2 ≤ 5) (k3 : 0 ≤ x3 ∧ x3 ≤ 13) (f0 : ((cur_0 + 1) ≤ tokens_0) ∧ ((tokens_0 ≤ 2010) ∧ ((tokenKind_0 ((tokens_0 - 1)) = 0) ∨ (tokenKind_0 ((tokens_0 - 1)) = 4)))) (f1 : 1 * cur_0 + ((-1) * x1 + 0) ≤ 0) (f2 : (-1) * cur_0 + (1 * x1 + 0) ≤ 0) (f3 : (styleKind_0 = 0) → (styleOne_0 ≤ 23)) (f4 : 1 * opened_0 + 0 ≤ k) (f5 : (-1) * opened_0 + 0 ≤ ((-k))) (f6 : fault_0 = x2) (f7 : opened_0 = x3) (hK_0_160 : ∀ j : Int, 0 ≤ j → j < 2010 → 0 ≤ tokenKind_0 j ∧ tokenKind_0 j ≤ 4) (kz_0_8 : 0 ≤ fault_0 ∧ fault_0 ≤ 5) (kz_0_157 : 0 ≤ tokens_0 ∧ tokens_0 ≤ 2010) (kz_0_158 : 0 ≤ cur_0 ∧ cur_0 ≤ 2009) (kz_0_159 : 0 ≤ opened_0 ∧ opened_0 ≤ 13) (kz_0_164 : 0 ≤ styleKind_0 ∧ styleKind_0 ≤ 1) (kz_0_165 : (-1) ≤ styleOne_0 ∧ styleOne_0 ≤ 47) (ex2 : gx = cur_0) (ex3 : 0 ≤ gx ∧ gx ≤ 2009) (ey2 : gy = fault_0) (ey3 : 0 ≤ gy ∧ gy ≤ 5) (eu2 : gu = opened_0) (eu3 : 0 ≤ gu ∧ gu ≤ 13) : gy = x2 := by
  first | with_reducible assumption | ((have f0_c0 := f0.1); (have f0_c1 := f0.2.1); (have f0_c2 := f0.2.2); (try and_intros) <;> first | with_reducible assumption | (clear f0_c2 f0 hK_0_160 f3; omega)) | ((have f0_c0 := f0.1); (have f0_c1 := f0.2.1); (have f0_c2 := f0.2.2); (first | have f3_b := f3 (by clear f0_c2 f0 hK_0_160 f3; omega) | skip); (first | have f3_d := f3 (by with_reducible assumption) | skip); (try and_intros) <;> first | with_reducible assumption | (clear f0_c2 f0 hK_0_160 f3; omega)) | ((have f0_c0 := f0.1); (have f0_c1 := f0.2.1); (have f0_c2 := f0.2.2); (first | have f3_b := f3 (by clear f0_c2 f0 hK_0_160 f3; omega) | skip); (first | have f3_d := f3 (by with_reducible assumption) | skip); (first | have f0_q := tk_nx0 f0 (by clear f0_c2 f0 hK_0_160 f3; omega) | skip); (try and_intros) <;> first | with_reducible assumption | (clear f0_c2 f0 hK_0_160 f3; omega)) | omega
set_option maxHeartbeats 4000000 in
theorem vc_Mo_test_f_0_13 (k : Int) (hk0 : 0 ≤ k) (hk1 : k ≤ 12) (x1 : Int) (x2 : Int) (x3 : Int) (tokenKind_0 : Int → Int) (cur_0 : Int) (tokens_0 : Int) (styleKind_0 : Int) (styleOne_0 : Int) (opened_0 : Int) (fault_0 : Int) (gx : Int) (gy : Int) (gu : Int) (k1 : 0 ≤ x1 ∧ x1 ≤ 2009) (k2 : 0 ≤ x2 ∧ x2 ≤ 5) (k3 : 0 ≤ x3 ∧ x3 ≤ 13) (f0 : ((cur_0 + 1) ≤ tokens_0) ∧ ((tokens_0 ≤ 2010) ∧ ((tokenKind_0 ((tokens_0 - 1)) = 0) ∨ (tokenKind_0 ((tokens_0 - 1)) = 4)))) (f1 : 1 * cur_0 + ((-1) * x1 + 0) ≤ 0) (f2 : (-1) * cur_0 + (1 * x1 + 0) ≤ 0) (f3 : (styleKind_0 = 0) → (styleOne_0 ≤ 23)) (f4 : 1 * opened_0 + 0 ≤ k) (f5 : (-1) * opened_0 + 0 ≤ ((-k))) (f6 : fault_0 = x2) (f7 : opened_0 = x3) (hK_0_160 : ∀ j : Int, 0 ≤ j → j < 2010 → 0 ≤ tokenKind_0 j ∧ tokenKind_0 j ≤ 4) (kz_0_8 : 0 ≤ fault_0 ∧ fault_0 ≤ 5) (kz_0_157 : 0 ≤ tokens_0 ∧ tokens_0 ≤ 2010) (kz_0_158 : 0 ≤ cur_0 ∧ cur_0 ≤ 2009) (kz_0_159 : 0 ≤ opened_0 ∧ opened_0 ≤ 13) (kz_0_164 : 0 ≤ styleKind_0 ∧ styleKind_0 ≤ 1) (kz_0_165 : (-1) ≤ styleOne_0 ∧ styleOne_0 ≤ 47) (ex2 : gx = cur_0) (ex3 : 0 ≤ gx ∧ gx ≤ 2009) (ey2 : gy = fault_0) (ey3 : 0 ≤ gy ∧ gy ≤ 5) (eu2 : gu = opened_0) (eu3 : 0 ≤ gu ∧ gu ≤ 13) : gu = x3 := by
  first | with_reducible assumption | ((have f0_c0 := f0.1); (have f0_c1 := f0.2.1); (have f0_c2 := f0.2.2); (try and_intros) <;> first | with_reducible assumption | (clear f0_c2 f0 hK_0_160 f3; omega)) | ((have f0_c0 := f0.1); (have f0_c1 := f0.2.1); (have f0_c2 := f0.2.2); (first | have f3_b := f3 (by clear f0_c2 f0 hK_0_160 f3; omega) | skip); (first | have f3_d := f3 (by with_reducible assumption) | skip); (try and_intros) <;> first | with_reducible assumption | (clear f0_c2 f0 hK_0_160 f3; omega)) | ((have f0_c0 := f0.1); (have f0_c1 := f0.2.1); (have f0_c2 := f0.2.2); (first | have f3_b := f3 (by clear f0_c2 f0 hK_0_160 f3; omega) | skip); (first | have f3_d := f3 (by with_reducible assumption) | skip); (first | have f0_q := tk_nx0 f0 (by clear f0_c2 f0 hK_0_160 f3; omega) | skip); (try and_intros) <;> first | with_reducible assumption | (clear f0_c2 f0 hK_0_160 f3; omega)) | omega
def o_Mo_test_f_0 (k : Int) : or_T := (1, 4, [(0, (2, 0, 0, [165])), (1, (0, 0, 2009, [])), (2, (0, 0, 5, [])), (3, (0, 0, 13, []))], [(20, [0], [50, 2, 1, 158, 157, 160, 2, 12, 0, 7, 4, 3, 2, 0, 158, 0, 1, 2, 0, 157, 2, 7, 0, 3, 2, 0, 157, 0, 2010, 3, 14, 1, 10, 3, 0, 160, 5, 3, 2, 0, 157, 0, 1, 0, 0, 1, 10, 3, 0, 160, 5, 3, 2, 0, 157, 0, 1, 0, 4]), (20, [0, 1], [30, 0, 1, 1, 158, -1, 0, 0]), (20, [0, 1], [30, 0, -1, 1, 158, 1, 0, 0]), (20, [0], [50, 2, 0, 164, 165, 4, 7, 1, 3, 2, 0, 164, 0, 0, 0, 3, 2, 0, 165, 0, 23]), (20, [0], [30, k, 1, 1, 159]), (20, [0], [30, (-k), -1, 1, 159]), (20, [0, 2], [50, 1, 0, 8, 1, 3, 2, 0, 8, 1, 1]), (20, [0, 3], [50, 1, 0, 159, 1, 3, 2, 0, 159, 1, 1])], [], [(0, 0, 2009, []), (0, 0, 5, []), (0, 0, 13, [])], [(23, [3], [k, 1]), (23, [3], [(-k), -1]), (20, [0], [50, 2, 1, 158, 157, 160, 2, 12, 0, 7, 4, 3, 2, 0, 158, 0, 1, 2, 0, 157, 2, 7, 0, 3, 2, 0, 157, 0, 2010, 3, 14, 1, 10, 3, 0, 160, 5, 3, 2, 0, 157, 0, 1, 0, 0, 1, 10, 3, 0, 160, 5, 3, 2, 0, 157, 0, 1, 0, 4]), (20, [0, 4], [30, 0, 1, 1, 158, -1, 0, 0]), (20, [0, 4], [30, 0, -1, 1, 158, 1, 0, 0]), (20, [0], [50, 2, 0, 164, 165, 4, 7, 1, 3, 2, 0, 164, 0, 0, 0, 3, 2, 0, 165, 0, 23]), (20, [0], [30, k, 1, 1, 159]), (20, [0], [30, (-k), -1, 1, 159]), (20, [0, 5], [50, 1, 0, 8, 1, 3, 2, 0, 8, 1, 1]), (20, [0, 6], [50, 1, 0, 159, 1, 3, 2, 0, 159, 1, 1]), (23, [1, 4], [0, 1, -1]), (20, [4, 1], [50, 0, 0, 1, 2, 1, 0, 1, 1]), (20, [5, 2], [50, 0, 0, 1, 2, 1, 0, 1, 1]), (20, [6, 3], [50, 0, 0, 1, 2, 1, 0, 1, 1])], [], [])
theorem oo_Mo_test_f_0 {kA : Nat → ClassId} (k : Int) (hk0 : 0 ≤ k) (hk1 : k ≤ 12) : or_ok PRD kA GG (o_Mo_test_f_0 k) := by
  refine or_mk fun A ta ws vs hD hth hl => ?_
  intro t0 r0 t1 k1 t2 k2 t3 k3 f0 f1 f2 f3 f4 f5 f6 f7
  replace f0 := shm_271 f0
  replace f1 := shm_272 f1
  replace f2 := shm_273 f2
  replace f3 := shm_274 f3
  replace f4 := shm_275 f4
  replace f5 := shm_276 f5
  replace f6 := shm_277 f6
  replace f7 := shm_278 f7
  have cr_0_160 := fdq_33 hD hth r0
  have hK_0_160 := elq_6 hD hth cr_0_160
  have kz_0_8 := fdq_34 hD hth r0
  have kz_0_157 := fdq_35 hD hth r0
  have kz_0_158 := fdq_36 hD hth r0
  have kz_0_159 := fdq_37 hD hth r0
  have kz_0_164 := fdq_38 hD hth r0
  have kz_0_165 := fdq_27 hD hth r0
  obtain ⟨x, ex, hx⟩ := iv_ex (ta := ta) (lo := 0) (hi := 2009) (z := w_fi ws (n_v vs 0) 158) (by omega) (by omega) (by omega) (by omega)
  have ex2 : v_iv (Value.int x) = w_fi ws (n_v vs 0) 158 := ex
  have ex3 : 0 ≤ v_iv (Value.int x) ∧ v_iv (Value.int x) ≤ 2009 := tv_rng hx
  obtain ⟨y, ey, hy⟩ := iv_ex (ta := ta) (lo := 0) (hi := 5) (z := w_fi ws (n_v vs 0) 8) (by omega) (by omega) (by omega) (by omega)
  have ey2 : v_iv (Value.int y) = w_fi ws (n_v vs 0) 8 := ey
  have ey3 : 0 ≤ v_iv (Value.int y) ∧ v_iv (Value.int y) ≤ 5 := tv_rng hy
  obtain ⟨u, eu, hu⟩ := iv_ex (ta := ta) (lo := 0) (hi := 13) (z := w_fi ws (n_v vs 0) 159) (by omega) (by omega) (by omega) (by omega)
  have eu2 : v_iv (Value.int u) = w_fi ws (n_v vs 0) 159 := eu
  have eu3 : 0 ≤ v_iv (Value.int u) ∧ v_iv (Value.int u) ≤ 13 := tv_rng hu
  have e_0 : n_v (vs ++ [Value.int x, Value.int y, Value.int u]) 0 = n_v vs 0 := n_v_old (by rw [hl]; decide)
  have e_1 : n_v (vs ++ [Value.int x, Value.int y, Value.int u]) 1 = n_v vs 1 := n_v_old (by rw [hl]; decide)
  have e_2 : n_v (vs ++ [Value.int x, Value.int y, Value.int u]) 2 = n_v vs 2 := n_v_old (by rw [hl]; decide)
  have e_3 : n_v (vs ++ [Value.int x, Value.int y, Value.int u]) 3 = n_v vs 3 := n_v_old (by rw [hl]; decide)
  have e_4 : n_v (vs ++ [Value.int x, Value.int y, Value.int u]) 4 = Value.int x := n_v_newk (k := 0) hl rfl
  have e_5 : n_v (vs ++ [Value.int x, Value.int y, Value.int u]) 5 = Value.int y := n_v_newk (k := 1) hl rfl
  have e_6 : n_v (vs ++ [Value.int x, Value.int y, Value.int u]) 6 = Value.int u := n_v_newk (k := 2) hl rfl
  have nf0 : fc_1 PRD (23, [3], [k, 1]) ws (vs ++ [Value.int x, Value.int y, Value.int u]) := by
    refine ⟨nf_inA hl rfl, sgq_279 ?_⟩
    · show 1 * v_iv (n_v (vs ++ [Value.int x, Value.int y, Value.int u]) 3) + 0 ≤ k
      rw [e_3]
      exact vc_Mo_test_f_0_0 k hk0 hk1 (v_iv (n_v vs 1)) (v_iv (n_v vs 2)) (v_iv (n_v vs 3)) (w_ei ws (w_ar ws (n_v vs 0) 160)) (w_fi ws (n_v vs 0) 158) (w_fi ws (n_v vs 0) 157) (w_fi ws (n_v vs 0) 164) (w_fi ws (n_v vs 0) 165) (w_fi ws (n_v vs 0) 159) (w_fi ws (n_v vs 0) 8) (v_iv (Value.int x)) (v_iv (Value.int y)) (v_iv (Value.int u)) k1 k2 k3 f0 f1 f2 f3 f4 f5 f6 f7 hK_0_160 kz_0_8 kz_0_157 kz_0_158 kz_0_159 kz_0_164 kz_0_165 ex2 ex3 ey2 ey3 eu2 eu3
  have nf1 : fc_1 PRD (23, [3], [(-k), -1]) ws (vs ++ [Value.int x, Value.int y, Value.int u]) := by
    refine ⟨nf_inA hl rfl, sgq_280 ?_⟩
    · show (-1) * v_iv (n_v (vs ++ [Value.int x, Value.int y, Value.int u]) 3) + 0 ≤ ((-k))
      rw [e_3]
      exact vc_Mo_test_f_0_1 k hk0 hk1 (v_iv (n_v vs 1)) (v_iv (n_v vs 2)) (v_iv (n_v vs 3)) (w_ei ws (w_ar ws (n_v vs 0) 160)) (w_fi ws (n_v vs 0) 158) (w_fi ws (n_v vs 0) 157) (w_fi ws (n_v vs 0) 164) (w_fi ws (n_v vs 0) 165) (w_fi ws (n_v vs 0) 159) (w_fi ws (n_v vs 0) 8) (v_iv (Value.int x)) (v_iv (Value.int y)) (v_iv (Value.int u)) k1 k2 k3 f0 f1 f2 f3 f4 f5 f6 f7 hK_0_160 kz_0_8 kz_0_157 kz_0_158 kz_0_159 kz_0_164 kz_0_165 ex2 ex3 ey2 ey3 eu2 eu3
  have nf2 : fc_1 PRD (20, [0], [50, 2, 1, 158, 157, 160, 2, 12, 0, 7, 4, 3, 2, 0, 158, 0, 1, 2, 0, 157, 2, 7, 0, 3, 2, 0, 157, 0, 2010, 3, 14, 1, 10, 3, 0, 160, 5, 3, 2, 0, 157, 0, 1, 0, 0, 1, 10, 3, 0, 160, 5, 3, 2, 0, 157, 0, 1, 0, 4]) ws (vs ++ [Value.int x, Value.int y, Value.int u]) := by
    refine ⟨nf_inA hl rfl, sgq_271 ?_⟩
    · show ((w_fi ws (n_v (vs ++ [Value.int x, Value.int y, Value.int u]) 0) 158 + 1) ≤ w_fi ws (n_v (vs ++ [Value.int x, Value.int y, Value.int u]) 0) 157) ∧ ((w_fi ws (n_v (vs ++ [Value.int x, Value.int y, Value.int u]) 0) 157 ≤ 2010) ∧ ((w_ei ws (w_ar ws (n_v (vs ++ [Value.int x, Value.int y, Value.int u]) 0) 160) ((w_fi ws (n_v (vs ++ [Value.int x, Value.int y, Value.int u]) 0) 157 - 1)) = 0) ∨ (w_ei ws (w_ar ws (n_v (vs ++ [Value.int x, Value.int y, Value.int u]) 0) 160) ((w_fi ws (n_v (vs ++ [Value.int x, Value.int y, Value.int u]) 0) 157 - 1)) = 4)))
      rw [e_0]
      exact vc_Mo_test_f_0_2 k hk0 hk1 (v_iv (n_v vs 1)) (v_iv (n_v vs 2)) (v_iv (n_v vs 3)) (w_ei ws (w_ar ws (n_v vs 0) 160)) (w_fi ws (n_v vs 0) 158) (w_fi ws (n_v vs 0) 157) (w_fi ws (n_v vs 0) 164) (w_fi ws (n_v vs 0) 165) (w_fi ws (n_v vs 0) 159) (w_fi ws (n_v vs 0) 8) (v_iv (Value.int x)) (v_iv (Value.int y)) (v_iv (Value.int u)) k1 k2 k3 f0 f1 f2 f3 f4 f5 f6 f7 hK_0_160 kz_0_8 kz_0_157 kz_0_158 kz_0_159 kz_0_164 kz_0_165 ex2 ex3 ey2 ey3 eu2 eu3
  have nf3 : fc_1 PRD (20, [0, 4], [30, 0, 1, 1, 158, -1, 0, 0]) ws (vs ++ [Value.int x, Value.int y, Value.int u]) := by
    refine ⟨nf_inA hl rfl, sgq_272 ?_⟩
    · show 1 * w_fi ws (n_v (vs ++ [Value.int x, Value.int y, Value.int u]) 0) 158 + ((-1) * v_iv (n_v (vs ++ [Value.int x, Value.int y, Value.int u]) 4) + 0) ≤ 0
      simp only [e_0, e_4]
      exact vc_Mo_test_f_0_3 k hk0 hk1 (v_iv (n_v vs 1)) (v_iv (n_v vs 2)) (v_iv (n_v vs 3)) (w_ei ws (w_ar ws (n_v vs 0) 160)) (w_fi ws (n_v vs 0) 158) (w_fi ws (n_v vs 0) 157) (w_fi ws (n_v vs 0) 164) (w_fi ws (n_v vs 0) 165) (w_fi ws (n_v vs 0) 159) (w_fi ws (n_v vs 0) 8) (v_iv (Value.int x)) (v_iv (Value.int y)) (v_iv (Value.int u)) k1 k2 k3 f0 f1 f2 f3 f4 f5 f6 f7 hK_0_160 kz_0_8 kz_0_157 kz_0_158 kz_0_159 kz_0_164 kz_0_165 ex2 ex3 ey2 ey3 eu2 eu3
  have nf4 : fc_1 PRD (20, [0, 4], [30, 0, -1, 1, 158, 1, 0, 0]) ws (vs ++ [Value.int x, Value.int y, Value.int u]) := by
    refine ⟨nf_inA hl rfl, sgq_273 ?_⟩
    · show (-1) * w_fi ws (n_v (vs ++ [Value.int x, Value.int y, Value.int u]) 0) 158 + (1 * v_iv (n_v (vs ++ [Value.int x, Value.int y, Value.int u]) 4) + 0) ≤ 0
      simp only [e_0, e_4]
      exact vc_Mo_test_f_0_4 k hk0 hk1 (v_iv (n_v vs 1)) (v_iv (n_v vs 2)) (v_iv (n_v vs 3)) (w_ei ws (w_ar ws (n_v vs 0) 160)) (w_fi ws (n_v vs 0) 158) (w_fi ws (n_v vs 0) 157) (w_fi ws (n_v vs 0) 164) (w_fi ws (n_v vs 0) 165) (w_fi ws (n_v vs 0) 159) (w_fi ws (n_v vs 0) 8) (v_iv (Value.int x)) (v_iv (Value.int y)) (v_iv (Value.int u)) k1 k2 k3 f0 f1 f2 f3 f4 f5 f6 f7 hK_0_160 kz_0_8 kz_0_157 kz_0_158 kz_0_159 kz_0_164 kz_0_165 ex2 ex3 ey2 ey3 eu2 eu3
  have nf5 : fc_1 PRD (20, [0], [50, 2, 0, 164, 165, 4, 7, 1, 3, 2, 0, 164, 0, 0, 0, 3, 2, 0, 165, 0, 23]) ws (vs ++ [Value.int x, Value.int y, Value.int u]) := by
    refine ⟨nf_inA hl rfl, sgq_274 ?_⟩
    · show (w_fi ws (n_v (vs ++ [Value.int x, Value.int y, Value.int u]) 0) 164 = 0) → (w_fi ws (n_v (vs ++ [Value.int x, Value.int y, Value.int u]) 0) 165 ≤ 23)
      rw [e_0]
      exact vc_Mo_test_f_0_5 k hk0 hk1 (v_iv (n_v vs 1)) (v_iv (n_v vs 2)) (v_iv (n_v vs 3)) (w_ei ws (w_ar ws (n_v vs 0) 160)) (w_fi ws (n_v vs 0) 158) (w_fi ws (n_v vs 0) 157) (w_fi ws (n_v vs 0) 164) (w_fi ws (n_v vs 0) 165) (w_fi ws (n_v vs 0) 159) (w_fi ws (n_v vs 0) 8) (v_iv (Value.int x)) (v_iv (Value.int y)) (v_iv (Value.int u)) k1 k2 k3 f0 f1 f2 f3 f4 f5 f6 f7 hK_0_160 kz_0_8 kz_0_157 kz_0_158 kz_0_159 kz_0_164 kz_0_165 ex2 ex3 ey2 ey3 eu2 eu3
  have nf6 : fc_1 PRD (20, [0], [30, k, 1, 1, 159]) ws (vs ++ [Value.int x, Value.int y, Value.int u]) := by
    refine ⟨nf_inA hl rfl, sgq_275 ?_⟩
    · show 1 * w_fi ws (n_v (vs ++ [Value.int x, Value.int y, Value.int u]) 0) 159 + 0 ≤ k
      rw [e_0]
      exact vc_Mo_test_f_0_6 k hk0 hk1 (v_iv (n_v vs 1)) (v_iv (n_v vs 2)) (v_iv (n_v vs 3)) (w_ei ws (w_ar ws (n_v vs 0) 160)) (w_fi ws (n_v vs 0) 158) (w_fi ws (n_v vs 0) 157) (w_fi ws (n_v vs 0) 164) (w_fi ws (n_v vs 0) 165) (w_fi ws (n_v vs 0) 159) (w_fi ws (n_v vs 0) 8) (v_iv (Value.int x)) (v_iv (Value.int y)) (v_iv (Value.int u)) k1 k2 k3 f0 f1 f2 f3 f4 f5 f6 f7 hK_0_160 kz_0_8 kz_0_157 kz_0_158 kz_0_159 kz_0_164 kz_0_165 ex2 ex3 ey2 ey3 eu2 eu3
  have nf7 : fc_1 PRD (20, [0], [30, (-k), -1, 1, 159]) ws (vs ++ [Value.int x, Value.int y, Value.int u]) := by
    refine ⟨nf_inA hl rfl, sgq_276 ?_⟩
    · show (-1) * w_fi ws (n_v (vs ++ [Value.int x, Value.int y, Value.int u]) 0) 159 + 0 ≤ ((-k))
      rw [e_0]
      exact vc_Mo_test_f_0_7 k hk0 hk1 (v_iv (n_v vs 1)) (v_iv (n_v vs 2)) (v_iv (n_v vs 3)) (w_ei ws (w_ar ws (n_v vs 0) 160)) (w_fi ws (n_v vs 0) 158) (w_fi ws (n_v vs 0) 157) (w_fi ws (n_v vs 0) 164) (w_fi ws (n_v vs 0) 165) (w_fi ws (n_v vs 0) 159) (w_fi ws (n_v vs 0) 8) (v_iv (Value.int x)) (v_iv (Value.int y)) (v_iv (Value.int u)) k1 k2 k3 f0 f1 f2 f3 f4 f5 f6 f7 hK_0_160 kz_0_8 kz_0_157 kz_0_158 kz_0_159 kz_0_164 kz_0_165 ex2 ex3 ey2 ey3 eu2 eu3
  have nf8 : fc_1 PRD (20, [0, 5], [50, 1, 0, 8, 1, 3, 2, 0, 8, 1, 1]) ws (vs ++ [Value.int x, Value.int y, Value.int u]) := by
    refine ⟨nf_inA hl rfl, sgq_277 ?_⟩
    · show w_fi ws (n_v (vs ++ [Value.int x, Value.int y, Value.int u]) 0) 8 = v_iv (n_v (vs ++ [Value.int x, Value.int y, Value.int u]) 5)
      simp only [e_0, e_5]
      exact vc_Mo_test_f_0_8 k hk0 hk1 (v_iv (n_v vs 1)) (v_iv (n_v vs 2)) (v_iv (n_v vs 3)) (w_ei ws (w_ar ws (n_v vs 0) 160)) (w_fi ws (n_v vs 0) 158) (w_fi ws (n_v vs 0) 157) (w_fi ws (n_v vs 0) 164) (w_fi ws (n_v vs 0) 165) (w_fi ws (n_v vs 0) 159) (w_fi ws (n_v vs 0) 8) (v_iv (Value.int x)) (v_iv (Value.int y)) (v_iv (Value.int u)) k1 k2 k3 f0 f1 f2 f3 f4 f5 f6 f7 hK_0_160 kz_0_8 kz_0_157 kz_0_158 kz_0_159 kz_0_164 kz_0_165 ex2 ex3 ey2 ey3 eu2 eu3
  have nf9 : fc_1 PRD (20, [0, 6], [50, 1, 0, 159, 1, 3, 2, 0, 159, 1, 1]) ws (vs ++ [Value.int x, Value.int y, Value.int u]) := by
    refine ⟨nf_inA hl rfl, sgq_278 ?_⟩
    · show w_fi ws (n_v (vs ++ [Value.int x, Value.int y, Value.int u]) 0) 159 = v_iv (n_v (vs ++ [Value.int x, Value.int y, Value.int u]) 6)
      simp only [e_0, e_6]
      exact vc_Mo_test_f_0_9 k hk0 hk1 (v_iv (n_v vs 1)) (v_iv (n_v vs 2)) (v_iv (n_v vs 3)) (w_ei ws (w_ar ws (n_v vs 0) 160)) (w_fi ws (n_v vs 0) 158) (w_fi ws (n_v vs 0) 157) (w_fi ws (n_v vs 0) 164) (w_fi ws (n_v vs 0) 165) (w_fi ws (n_v vs 0) 159) (w_fi ws (n_v vs 0) 8) (v_iv (Value.int x)) (v_iv (Value.int y)) (v_iv (Value.int u)) k1 k2 k3 f0 f1 f2 f3 f4 f5 f6 f7 hK_0_160 kz_0_8 kz_0_157 kz_0_158 kz_0_159 kz_0_164 kz_0_165 ex2 ex3 ey2 ey3 eu2 eu3
  have nf10 : fc_1 PRD (23, [1, 4], [0, 1, -1]) ws (vs ++ [Value.int x, Value.int y, Value.int u]) := by
    refine ⟨nf_inA hl rfl, sgq_7 ?_⟩
    · show 1 * v_iv (n_v (vs ++ [Value.int x, Value.int y, Value.int u]) 1) + ((-1) * v_iv (n_v (vs ++ [Value.int x, Value.int y, Value.int u]) 4) + 0) ≤ 0
      simp only [e_1, e_4]
      exact vc_Mo_test_f_0_10 k hk0 hk1 (v_iv (n_v vs 1)) (v_iv (n_v vs 2)) (v_iv (n_v vs 3)) (w_ei ws (w_ar ws (n_v vs 0) 160)) (w_fi ws (n_v vs 0) 158) (w_fi ws (n_v vs 0) 157) (w_fi ws (n_v vs 0) 164) (w_fi ws (n_v vs 0) 165) (w_fi ws (n_v vs 0) 159) (w_fi ws (n_v vs 0) 8) (v_iv (Value.int x)) (v_iv (Value.int y)) (v_iv (Value.int u)) k1 k2 k3 f0 f1 f2 f3 f4 f5 f6 f7 hK_0_160 kz_0_8 kz_0_157 kz_0_158 kz_0_159 kz_0_164 kz_0_165 ex2 ex3 ey2 ey3 eu2 eu3
  have nf11 : fc_1 PRD (20, [4, 1], [50, 0, 0, 1, 2, 1, 0, 1, 1]) ws (vs ++ [Value.int x, Value.int y, Value.int u]) := by
    refine ⟨nf_inA hl rfl, sgq_48 ?_⟩
    · show v_iv (n_v (vs ++ [Value.int x, Value.int y, Value.int u]) 4) = v_iv (n_v (vs ++ [Value.int x, Value.int y, Value.int u]) 1)
      simp only [e_1, e_4]
      exact vc_Mo_test_f_0_11 k hk0 hk1 (v_iv (n_v vs 1)) (v_iv (n_v vs 2)) (v_iv (n_v vs 3)) (w_ei ws (w_ar ws (n_v vs 0) 160)) (w_fi ws (n_v vs 0) 158) (w_fi ws (n_v vs 0) 157) (w_fi ws (n_v vs 0) 164) (w_fi ws (n_v vs 0) 165) (w_fi ws (n_v vs 0) 159) (w_fi ws (n_v vs 0) 8) (v_iv (Value.int x)) (v_iv (Value.int y)) (v_iv (Value.int u)) k1 k2 k3 f0 f1 f2 f3 f4 f5 f6 f7 hK_0_160 kz_0_8 kz_0_157 kz_0_158 kz_0_159 kz_0_164 kz_0_165 ex2 ex3 ey2 ey3 eu2 eu3
  have nf12 : fc_1 PRD (20, [5, 2], [50, 0, 0, 1, 2, 1, 0, 1, 1]) ws (vs ++ [Value.int x, Value.int y, Value.int u]) := by
    refine ⟨nf_inA hl rfl, sgq_48 ?_⟩
    · show v_iv (n_v (vs ++ [Value.int x, Value.int y, Value.int u]) 5) = v_iv (n_v (vs ++ [Value.int x, Value.int y, Value.int u]) 2)
      simp only [e_2, e_5]
      exact vc_Mo_test_f_0_12 k hk0 hk1 (v_iv (n_v vs 1)) (v_iv (n_v vs 2)) (v_iv (n_v vs 3)) (w_ei ws (w_ar ws (n_v vs 0) 160)) (w_fi ws (n_v vs 0) 158) (w_fi ws (n_v vs 0) 157) (w_fi ws (n_v vs 0) 164) (w_fi ws (n_v vs 0) 165) (w_fi ws (n_v vs 0) 159) (w_fi ws (n_v vs 0) 8) (v_iv (Value.int x)) (v_iv (Value.int y)) (v_iv (Value.int u)) k1 k2 k3 f0 f1 f2 f3 f4 f5 f6 f7 hK_0_160 kz_0_8 kz_0_157 kz_0_158 kz_0_159 kz_0_164 kz_0_165 ex2 ex3 ey2 ey3 eu2 eu3
  have nf13 : fc_1 PRD (20, [6, 3], [50, 0, 0, 1, 2, 1, 0, 1, 1]) ws (vs ++ [Value.int x, Value.int y, Value.int u]) := by
    refine ⟨nf_inA hl rfl, sgq_48 ?_⟩
    · show v_iv (n_v (vs ++ [Value.int x, Value.int y, Value.int u]) 6) = v_iv (n_v (vs ++ [Value.int x, Value.int y, Value.int u]) 3)
      simp only [e_3, e_6]
      exact vc_Mo_test_f_0_13 k hk0 hk1 (v_iv (n_v vs 1)) (v_iv (n_v vs 2)) (v_iv (n_v vs 3)) (w_ei ws (w_ar ws (n_v vs 0) 160)) (w_fi ws (n_v vs 0) 158) (w_fi ws (n_v vs 0) 157) (w_fi ws (n_v vs 0) 164) (w_fi ws (n_v vs 0) 165) (w_fi ws (n_v vs 0) 159) (w_fi ws (n_v vs 0) 8) (v_iv (Value.int x)) (v_iv (Value.int y)) (v_iv (Value.int u)) k1 k2 k3 f0 f1 f2 f3 f4 f5 f6 f7 hK_0_160 kz_0_8 kz_0_157 kz_0_158 kz_0_159 kz_0_164 kz_0_165 ex2 ex3 ey2 ey3 eu2 eu3
  exact ⟨(fun _ h => (by cases h)), [Value.int x, Value.int y, Value.int u], ag_three hx hy hu, List.forall_mem_cons.mpr ⟨⟨show (23 : Nat) < 100 from by decide, nf0⟩, List.forall_mem_cons.mpr ⟨⟨show (23 : Nat) < 100 from by decide, nf1⟩, List.forall_mem_cons.mpr ⟨⟨show (20 : Nat) < 100 from by decide, nf2⟩, List.forall_mem_cons.mpr ⟨⟨show (20 : Nat) < 100 from by decide, nf3⟩, List.forall_mem_cons.mpr ⟨⟨show (20 : Nat) < 100 from by decide, nf4⟩, List.forall_mem_cons.mpr ⟨⟨show (20 : Nat) < 100 from by decide, nf5⟩, List.forall_mem_cons.mpr ⟨⟨show (20 : Nat) < 100 from by decide, nf6⟩, List.forall_mem_cons.mpr ⟨⟨show (20 : Nat) < 100 from by decide, nf7⟩, List.forall_mem_cons.mpr ⟨⟨show (20 : Nat) < 100 from by decide, nf8⟩, List.forall_mem_cons.mpr ⟨⟨show (20 : Nat) < 100 from by decide, nf9⟩, List.forall_mem_cons.mpr ⟨⟨show (23 : Nat) < 100 from by decide, nf10⟩, List.forall_mem_cons.mpr ⟨⟨show (20 : Nat) < 100 from by decide, nf11⟩, List.forall_mem_cons.mpr ⟨⟨show (20 : Nat) < 100 from by decide, nf12⟩, List.forall_mem_cons.mpr ⟨⟨show (20 : Nat) < 100 from by decide, nf13⟩, (fun _ h => (by cases h))⟩⟩⟩⟩⟩⟩⟩⟩⟩⟩⟩⟩⟩⟩, (fun _ h => (by cases h))⟩
set_option maxHeartbeats 4000000 in
theorem vc_Mo_test_f_1_0 (k : Int) (hk0 : 0 ≤ k) (hk1 : k ≤ 12) (x1 : Int) (x2 : Int) (x3 : Int) (x4 : Int) (x5 : Int) (x6 : Int) (styleKind_0 : Int) (styleOne_0 : Int) (tokenKind_0 : Int → Int) (cur_0 : Int) (tokens_0 : Int) (opened_0 : Int) (tokenValue_0 : Int → Int) (tokenPlace_0 : Int → Int) (tokenEnd_0 : Int → Int) (tape_0 : Int → Int) (fault_0 : Int) (limit_0 : Int) (gx : Int) (k1 : 0 ≤ x1 ∧ x1 ≤ 2009) (k2 : 0 ≤ x2 ∧ x2 ≤ 5) (k3 : 0 ≤ x3 ∧ x3 ≤ 13) (k4 : 0 ≤ x4 ∧ x4 ≤ 2009) (k5 : 0 ≤ x5 ∧ x5 ≤ 5) (k6 : 0 ≤ x6 ∧ x6 ≤ 13) (f0 : 1 * x3 + 0 ≤ k) (f1 : (-1) * x3 + 0 ≤ ((-k))) (f2 : (styleKind_0 = 0) → (styleOne_0 ≤ 23)) (f3 : 1 * x1 + ((-1) * x4 + 0) ≤ 0) (f4 : x4 = x1) (f5 : x5 = x2) (f6 : x6 = x3) (f7 : (styleKind_0 = 0) → (styleOne_0 ≤ 23)) (f8 : ((cur_0 + 1) ≤ tokens_0) ∧ ((tokens_0 ≤ 2010) ∧ ((tokenKind_0 ((tokens_0 - 1)) = 0) ∨ (tokenKind_0 ((tokens_0 - 1)) = 4)))) (f9 : 1 * x4 + ((-1) * cur_0 + 0) ≤ 0) (f10 : 1 * opened_0 + 0 ≤ k) (f11 : (-1) * opened_0 + 0 ≤ ((-k))) (f12 : SBO (fault_0) (cur_0) (styleKind_0) (limit_0) (tokenKind_0) (tokenValue_0) (tokenPlace_0) (tokenEnd_0) (tape_0) (x4) (x5) (x6)) (f14 : 1 * x3 + 0 ≤ k) (f15 : (-1) * x3 + 0 ≤ ((-k))) (f16 : 1 * x1 + ((-1) * x4 + 0) ≤ 0) (hK_0_1 : ∀ j : Int, 0 ≤ j → j < 2000 → (-128) ≤ tape_0 j ∧ tape_0 j ≤ 127) (hK_0_160 : ∀ j : Int, 0 ≤ j → j < 2010 → 0 ≤ tokenKind_0 j ∧ tokenKind_0 j ≤ 4) (hK_0_162 : ∀ j : Int, 0 ≤ j → j < 2010 → 0 ≤ tokenPlace_0 j ∧ tokenPlace_0 j ≤ 2000) (hK_0_163 : ∀ j : Int, 0 ≤ j → j < 2010 → 0 ≤ tokenEnd_0 j ∧ tokenEnd_0 j ≤ 2000) (kz_0_8 : 0 ≤ fault_0 ∧ fault_0 ≤ 5) (kz_0_10 : 0 ≤ limit_0 ∧ limit_0 ≤ 2000) (kz_0_157 : 0 ≤ tokens_0 ∧ tokens_0 ≤ 2010) (kz_0_158 : 0 ≤ cur_0 ∧ cur_0 ≤ 2009) (kz_0_159 : 0 ≤ opened_0 ∧ opened_0 ≤ 13) (kz_0_164 : 0 ≤ styleKind_0 ∧ styleKind_0 ≤ 1) (kz_0_165 : (-1) ≤ styleOne_0 ∧ styleOne_0 ≤ 47) (ex2 : gx = 2010 + ((-1) * cur_0 + 0)) (ex3 : 0 ≤ gx ∧ gx ≤ 2010) : ((cur_0 + 1) ≤ tokens_0) ∧ ((tokens_0 ≤ 2010) ∧ ((tokenKind_0 ((tokens_0 - 1)) = 0) ∨ (tokenKind_0 ((tokens_0 - 1)) = 4))) := by
  first | with_reducible assumption | ((have f8_c0 := f8.1); (have f8_c1 := f8.2.1); (have f8_c2 := f8.2.2); (try and_intros) <;> first | with_reducible assumption | (clear f8_c2 f8 hK_0_1 hK_0_160 hK_0_162 hK_0_163 f2 f7; omega)) | ((have f8_c0 := f8.1); (have f8_c1 := f8.2.1); (have f8_c2 := f8.2.2); (first | have f2_b := f2 (by clear f8_c2 f8 hK_0_1 hK_0_160 hK_0_162 hK_0_163 f2 f7; omega) | skip); (first | have f7_b := f7 (by clear f8_c2 f8 hK_0_1 hK_0_160 hK_0_162 hK_0_163 f2 f7; omega) | skip); (first | have f2_d := f2 (by with_reducible assumption) | skip); (first | have f7_d := f7 (by with_reducible assumption) | skip); (try and_intros) <;> first | with_reducible assumption | (clear f8_c2 f8 hK_0_1 hK_0_160 hK_0_162 hK_0_163 f2 f7; omega)) | ((have f8_c0 := f8.1); (have f8_c1 := f8.2.1); (have f8_c2 := f8.2.2); (first | have f2_b := f2 (by clear f8_c2 f8 hK_0_1 hK_0_160 hK_0_162 hK_0_163 f2 f7; omega) | skip); (first | have f7_b := f7 (by clear f8_c2 f8 hK_0_1 hK_0_160 hK_0_162 hK_0_163 f2 f7; omega) | skip); (first | have f2_d := f2 (by with_reducible assumption) | skip); (first | have f7_d := f7 (by with_reducible assumption) | skip); (first | have f8_q := tk_nx0 f8 (by clear f8_c2 f8 hK_0_1 hK_0_160 hK_0_162 hK_0_163 f2 f7; omega) | skip); (try and_intros) <;> first | with_reducible assumption | (clear f8_c2 f8 hK_0_1 hK_0_160 hK_0_162 hK_0_163 f2 f7; omega)) | omega
set_option maxHeartbeats 4000000 in
theorem vc_Mo_test_f_1_1 (k : Int) (hk0 : 0 ≤ k) (hk1 : k ≤ 12) (x1 : Int) (x2 : Int) (x3 : Int) (x4 : Int) (x5 : Int) (x6 : Int) (styleKind_0 : Int) (styleOne_0 : Int) (tokenKind_0 : Int → Int) (cur_0 : Int) (tokens_0 : Int) (opened_0 : Int) (tokenValue_0 : Int → Int) (tokenPlace_0 : Int → Int) (tokenEnd_0 : Int → Int) (tape_0 : Int → Int) (fault_0 : Int) (limit_0 : Int) (gx : Int) (k1 : 0 ≤ x1 ∧ x1 ≤ 2009) (k2 : 0 ≤ x2 ∧ x2 ≤ 5) (k3 : 0 ≤ x3 ∧ x3 ≤ 13) (k4 : 0 ≤ x4 ∧ x4 ≤ 2009) (k5 : 0 ≤ x5 ∧ x5 ≤ 5) (k6 : 0 ≤ x6 ∧ x6 ≤ 13) (f0 : 1 * x3 + 0 ≤ k) (f1 : (-1) * x3 + 0 ≤ ((-k))) (f2 : (styleKind_0 = 0) → (styleOne_0 ≤ 23)) (f3 : 1 * x1 + ((-1) * x4 + 0) ≤ 0) (f4 : x4 = x1) (f5 : x5 = x2) (f6 : x6 = x3) (f7 : (styleKind_0 = 0) → (styleOne_0 ≤ 23)) (f8 : ((cur_0 + 1) ≤ tokens_0) ∧ ((tokens_0 ≤ 2010) ∧ ((tokenKind_0 ((tokens_0 - 1)) = 0) ∨ (tokenKind_0 ((tokens_0 - 1)) = 4)))) (f9 : 1 * x4 + ((-1) * cur_0 + 0) ≤ 0) (f10 : 1 * opened_0 + 0 ≤ k) (f11 : (-1) * opened_0 + 0 ≤ ((-k))) (f12 : SBO (fault_0) (cur_0) (styleKind_0) (limit_0) (tokenKind_0) (tokenValue_0) (tokenPlace_0) (tokenEnd_0) (tape_0) (x4) (x5) (x6)) (f14 : 1 * x3 + 0 ≤ k) (f15 : (-1) * x3 + 0 ≤ ((-k))) (f16 : 1 * x1 + ((-1) * x4 + 0) ≤ 0) (hK_0_1 : ∀ j : Int, 0 ≤ j → j < 2000 → (-128) ≤ tape_0 j ∧ tape_0 j ≤ 127) (hK_0_160 : ∀ j : Int, 0 ≤ j → j < 2010 → 0 ≤ tokenKind_0 j ∧ tokenKind_0 j ≤ 4) (hK_0_162 : ∀ j : Int, 0 ≤ j → j < 2010 → 0 ≤ tokenPlace_0 j ∧ tokenPlace_0 j ≤ 2000) (hK_0_163 : ∀ j : Int, 0 ≤ j → j < 2010 → 0 ≤ tokenEnd_0 j ∧ tokenEnd_0 j ≤ 2000) (kz_0_8 : 0 ≤ fault_0 ∧ fault_0 ≤ 5) (kz_0_10 : 0 ≤ limit_0 ∧ limit_0 ≤ 2000) (kz_0_157 : 0 ≤ tokens_0 ∧ tokens_0 ≤ 2010) (kz_0_158 : 0 ≤ cur_0 ∧ cur_0 ≤ 2009) (kz_0_159 : 0 ≤ opened_0 ∧ opened_0 ≤ 13) (kz_0_164 : 0 ≤ styleKind_0 ∧ styleKind_0 ≤ 1) (kz_0_165 : (-1) ≤ styleOne_0 ∧ styleOne_0 ≤ 47) (ex2 : gx = 2010 + ((-1) * cur_0 + 0)) (ex3 : 0 ≤ gx ∧ gx ≤ 2010) : 1 * x1 + ((-1) * cur_0 + 0) ≤ 0 := by
  first | with_reducible assumption | ((have f8_c0 := f8.1); (have f8_c1 := f8.2.1); (have f8_c2 := f8.2.2); (try and_intros) <;> first | with_reducible assumption | (clear f8_c2 f8 hK_0_1 hK_0_160 hK_0_162 hK_0_163 f2 f7; omega)) | ((have f8_c0 := f8.1); (have f8_c1 := f8.2.1); (have f8_c2 := f8.2.2); (first | have f2_b := f2 (by clear f8_c2 f8 hK_0_1 hK_0_160 hK_0_162 hK_0_163 f2 f7; omega) | skip); (first | have f7_b := f7 (by clear f8_c2 f8 hK_0_1 hK_0_160 hK_0_162 hK_0_163 f2 f7; omega) | skip); (first | have f2_d := f2 (by with_reducible assumption) | skip); (first | have f7_d := f7 (by with_reducible assumption) | skip); (try and_intros) <;> first | with_reducible assumption | (clear f8_c2 f8 hK_0_1 hK_0_160 hK_0_162 hK_0_163 f2 f7; omega)) | ((have f8_c0 := f8.1); (have f8_c1 := f8.2.1); (have f8_c2 := f8.2.2); (first | have f2_b := f2 (by clear f8_c2 f8 hK_0_1 hK_0_160 hK_0_162 hK_0_163 f2 f7; omega) | skip); (first | have f7_b := f7 (by clear f8_c2 f8 hK_0_1 hK_0_160 hK_0_162 hK_0_163 f2 f7; omega) | skip); (first | have f2_d := f2 (by with_reducible assumption) | skip); (first | have f7_d := f7 (by with_reducible assumption) | skip); (first | have f8_q := tk_nx0 f8 (by clear f8_c2 f8 hK_0_1 hK_0_160 hK_0_162 hK_0_163 f2 f7; omega) | skip); (try and_intros) <;> first | with_reducible assumption | (clear f8_c2 f8 hK_0_1 hK_0_160 hK_0_162 hK_0_163 f2 f7; omega)) | omega
set_option maxHeartbeats 4000000 in
theorem vc_Mo_test_f_1_2 (k : Int) (hk0 : 0 ≤ k) (hk1 : k ≤ 12) (x1 : Int) (x2 : Int) (x3 : Int) (x4 : Int) (x5 : Int) (x6 : Int) (styleKind_0 : Int) (styleOne_0 : Int) (tokenKind_0 : Int → Int) (cur_0 : Int) (tokens_0 : Int) (opened_0 : Int) (tokenValue_0 : Int → Int) (tokenPlace_0 : Int → Int) (tokenEnd_0 : Int → Int) (tape_0 : Int → Int) (fault_0 : Int) (limit_0 : Int) (gx : Int) (k1 : 0 ≤ x1 ∧ x1 ≤ 2009) (k2 : 0 ≤ x2 ∧ x2 ≤ 5) (k3 : 0 ≤ x3 ∧ x3 ≤ 13) (k4 : 0 ≤ x4 ∧ x4 ≤ 2009) (k5 : 0 ≤ x5 ∧ x5 ≤ 5) (k6 : 0 ≤ x6 ∧ x6 ≤ 13) (f0 : 1 * x3 + 0 ≤ k) (f1 : (-1) * x3 + 0 ≤ ((-k))) (f2 : (styleKind_0 = 0) → (styleOne_0 ≤ 23)) (f3 : 1 * x1 + ((-1) * x4 + 0) ≤ 0) (f4 : x4 = x1) (f5 : x5 = x2) (f6 : x6 = x3) (f7 : (styleKind_0 = 0) → (styleOne_0 ≤ 23)) (f8 : ((cur_0 + 1) ≤ tokens_0) ∧ ((tokens_0 ≤ 2010) ∧ ((tokenKind_0 ((tokens_0 - 1)) = 0) ∨ (tokenKind_0 ((tokens_0 - 1)) = 4)))) (f9 : 1 * x4 + ((-1) * cur_0 + 0) ≤ 0) (f10 : 1 * opened_0 + 0 ≤ k) (f11 : (-1) * opened_0 + 0 ≤ ((-k))) (f12 : SBO (fault_0) (cur_0) (styleKind_0) (limit_0) (tokenKind_0) (tokenValue_0) (tokenPlace_0) (tokenEnd_0) (tape_0) (x4) (x5) (x6)) (f14 : 1 * x3 + 0 ≤ k) (f15 : (-1) * x3 + 0 ≤ ((-k))) (f16 : 1 * x1 + ((-1) * x4 + 0) ≤ 0) (hK_0_1 : ∀ j : Int, 0 ≤ j → j < 2000 → (-128) ≤ tape_0 j ∧ tape_0 j ≤ 127) (hK_0_160 : ∀ j : Int, 0 ≤ j → j < 2010 → 0 ≤ tokenKind_0 j ∧ tokenKind_0 j ≤ 4) (hK_0_162 : ∀ j : Int, 0 ≤ j → j < 2010 → 0 ≤ tokenPlace_0 j ∧ tokenPlace_0 j ≤ 2000) (hK_0_163 : ∀ j : Int, 0 ≤ j → j < 2010 → 0 ≤ tokenEnd_0 j ∧ tokenEnd_0 j ≤ 2000) (kz_0_8 : 0 ≤ fault_0 ∧ fault_0 ≤ 5) (kz_0_10 : 0 ≤ limit_0 ∧ limit_0 ≤ 2000) (kz_0_157 : 0 ≤ tokens_0 ∧ tokens_0 ≤ 2010) (kz_0_158 : 0 ≤ cur_0 ∧ cur_0 ≤ 2009) (kz_0_159 : 0 ≤ opened_0 ∧ opened_0 ≤ 13) (kz_0_164 : 0 ≤ styleKind_0 ∧ styleKind_0 ≤ 1) (kz_0_165 : (-1) ≤ styleOne_0 ∧ styleOne_0 ≤ 47) (ex2 : gx = 2010 + ((-1) * cur_0 + 0)) (ex3 : 0 ≤ gx ∧ gx ≤ 2010) : (styleKind_0 = 0) → (styleOne_0 ≤ 23) := by
  first | with_reducible assumption | ((have f8_c0 := f8.1); (have f8_c1 := f8.2.1); (have f8_c2 := f8.2.2); (try and_intros) <;> first | with_reducible assumption | (clear f8_c2 f8 hK_0_1 hK_0_160 hK_0_162 hK_0_163 f2 f7; omega)) | ((have f8_c0 := f8.1); (have f8_c1 := f8.2.1); (have f8_c2 := f8.2.2); (first | have f2_b := f2 (by clear f8_c2 f8 hK_0_1 hK_0_160 hK_0_162 hK_0_163 f2 f7; omega) | skip); (first | have f7_b := f7 (by clear f8_c2 f8 hK_0_1 hK_0_160 hK_0_162 hK_0_163 f2 f7; omega) | skip); (first | have f2_d := f2 (by with_reducible assumption) | skip); (first | have f7_d := f7 (by with_reducible assumption) | skip); (try and_intros) <;> first | with_reducible assumption | (clear f8_c2 f8 hK_0_1 hK_0_160 hK_0_162 hK_0_163 f2 f7; omega)) | ((have f8_c0 := f8.1); (have f8_c1 := f8.2.1); (have f8_c2 := f8.2.2); (first | have f2_b := f2 (by clear f8_c2 f8 hK_0_1 hK_0_160 hK_0_162 hK_0_163 f2 f7; omega) | skip); (first | have f7_b := f7 (by clear f8_c2 f8 hK_0_1 hK_0_160 hK_0_162 hK_0_163 f2 f7; omega) | skip); (first | have f2_d := f2 (by with_reducible assumption) | skip); (first | have f7_d := f7 (by with_reducible assumption) | skip); (first | have f8_q := tk_nx0 f8 (by clear f8_c2 f8 hK_0_1 hK_0_160 hK_0_162 hK_0_163 f2 f7; omega) | skip); (try and_intros) <;> first | with_reducible assumption | (clear f8_c2 f8 hK_0_1 hK_0_160 hK_0_162 hK_0_163 f2 f7; omega)) | (intro hG; (first | have f2_g := f2 hG | skip); (first | have f7_g := f7 hG | skip); (have f8_c0 := f8.1); (have f8_c1 := f8.2.1); (have f8_c2 := f8.2.2); (first | have f2_b := f2 (by clear f8_c2 f8 hK_0_1 hK_0_160 hK_0_162 hK_0_163 f2 f7; omega) | skip); (first | have f7_b := f7 (by clear f8_c2 f8 hK_0_1 hK_0_160 hK_0_162 hK_0_163 f2 f7; omega) | skip); (try and_intros) <;> first | with_reducible assumption | (clear f8_c2 f8 hK_0_1 hK_0_160 hK_0_162 hK_0_163 f2 f7 hG; omega)) | omega
set_option maxHeartbeats 4000000 in
theorem vc_Mo_test_f_1_3 (k : Int) (hk0 : 0 ≤ k) (hk1 : k ≤ 12) (x1 : Int) (x2 : Int) (x3 : Int) (x4 : Int) (x5 : Int) (x6 : Int) (styleKind_0 : Int) (styleOne_0 : Int) (tokenKind_0 : Int → Int) (cur_0 : Int) (tokens_0 : Int) (opened_0 : Int) (tokenValue_0 : Int → Int) (tokenPlace_0 : Int → Int) (tokenEnd_0 : Int → Int) (tape_0 : Int → Int) (fault_0 : Int) (limit_0 : Int) (gx : Int) (k1 : 0 ≤ x1 ∧ x1 ≤ 2009) (k2 : 0 ≤ x2 ∧ x2 ≤ 5) (k3 : 0 ≤ x3 ∧ x3 ≤ 13) (k4 : 0 ≤ x4 ∧ x4 ≤ 2009) (k5 : 0 ≤ x5 ∧ x5 ≤ 5) (k6 : 0 ≤ x6 ∧ x6 ≤ 13) (f0 : 1 * x3 + 0 ≤ k) (f1 : (-1) * x3 + 0 ≤ ((-k))) (f2 : (styleKind_0 = 0) → (styleOne_0 ≤ 23)) (f3 : 1 * x1 + ((-1) * x4 + 0) ≤ 0) (f4 : x4 = x1) (f5 : x5 = x2) (f6 : x6 = x3) (f7 : (styleKind_0 = 0) → (styleOne_0 ≤ 23)) (f8 : ((cur_0 + 1) ≤ tokens_0) ∧ ((tokens_0 ≤ 2010) ∧ ((tokenKind_0 ((tokens_0 - 1)) = 0) ∨ (tokenKind_0 ((tokens_0 - 1)) = 4)))) (f9 : 1 * x4 + ((-1) * cur_0 + 0) ≤ 0) (f10 : 1 * opened_0 + 0 ≤ k) (f11 : (-1) * opened_0 + 0 ≤ ((-k))) (f12 : SBO (fault_0) (cur_0) (styleKind_0) (limit_0) (tokenKind_0) (tokenValue_0) (tokenPlace_0) (tokenEnd_0) (tape_0) (x4) (x5) (x6)) (f14 : 1 * x3 + 0 ≤ k) (f15 : (-1) * x3 + 0 ≤ ((-k))) (f16 : 1 * x1 + ((-1) * x4 + 0) ≤ 0) (hK_0_1 : ∀ j : Int, 0 ≤ j → j < 2000 → (-128) ≤ tape_0 j ∧ tape_0 j ≤ 127) (hK_0_160 : ∀ j : Int, 0 ≤ j → j < 2010 → 0 ≤ tokenKind_0 j ∧ tokenKind_0 j ≤ 4) (hK_0_162 : ∀ j : Int, 0 ≤ j → j < 2010 → 0 ≤ tokenPlace_0 j ∧ tokenPlace_0 j ≤ 2000) (hK_0_163 : ∀ j : Int, 0 ≤ j → j < 2010 → 0 ≤ tokenEnd_0 j ∧ tokenEnd_0 j ≤ 2000) (kz_0_8 : 0 ≤ fault_0 ∧ fault_0 ≤ 5) (kz_0_10 : 0 ≤ limit_0 ∧ limit_0 ≤ 2000) (kz_0_157 : 0 ≤ tokens_0 ∧ tokens_0 ≤ 2010) (kz_0_158 : 0 ≤ cur_0 ∧ cur_0 ≤ 2009) (kz_0_159 : 0 ≤ opened_0 ∧ opened_0 ≤ 13) (kz_0_164 : 0 ≤ styleKind_0 ∧ styleKind_0 ≤ 1) (kz_0_165 : (-1) ≤ styleOne_0 ∧ styleOne_0 ≤ 47) (ex2 : gx = 2010 + ((-1) * cur_0 + 0)) (ex3 : 0 ≤ gx ∧ gx ≤ 2010) : 1 * opened_0 + 0 ≤ k := by
  first | with_reducible assumption | ((have f8_c0 := f8.1); (have f8_c1 := f8.2.1); (have f8_c2 := f8.2.2); (try and_intros) <;> first | with_reducible assumption | (clear f8_c2 f8 hK_0_1 hK_0_160 hK_0_162 hK_0_163 f2 f7; omega)) | ((have f8_c0 := f8.1); (have f8_c1 := f8.2.1); (have f8_c2 := f8.2.2); (first | have f2_b := f2 (by clear f8_c2 f8 hK_0_1 hK_0_160 hK_0_162 hK_0_163 f2 f7; omega) | skip); (first | have f7_b := f7 (by clear f8_c2 f8 hK_0_1 hK_0_160 hK_0_162 hK_0_163 f2 f7; omega) | skip); (first | have f2_d := f2 (by with_reducible assumption) | skip); (first | have f7_d := f7 (by with_reducible assumption) | skip); (try and_intros) <;> first | with_reducible assumption | (clear f8_c2 f8 hK_0_1 hK_0_160 hK_0_162 hK_0_163 f2 f7; omega)) | ((have f8_c0 := f8.1); (have f8_c1 := f8.2.1); (have f8_c2 := f8.2.2); (first | have f2_b := f2 (by clear f8_c2 f8 hK_0_1 hK_0_160 hK_0_162 hK_0_163 f2 f7; omega) | skip); (first | have f7_b := f7 (by clear f8_c2 f8 hK_0_1 hK_0_160 hK_0_162 hK_0_163 f2 f7; omega) | skip); (first | have f2_d := f2 (by with_reducible assumption) | skip); (first | have f7_d := f7 (by with_reducible assumption) | skip); (first | have f8_q := tk_nx0 f8 (by clear f8_c2 f8 hK_0_1 hK_0_160 hK_0_162 hK_0_163 f2 f7; omega) | skip); (try and_intros) <;> first | with_reducible assumption | (clear f8_c2 f8 hK_0_1 hK_0_160 hK_0_162 hK_0_163 f2 f7; omega)) | omega
set_option maxHeartbeats 4000000 in
theorem vc_Mo_test_f_1_4 (k : Int) (hk0 : 0 ≤ k) (hk1 : k ≤ 12) (x1 : Int) (x2 : Int) (x3 : Int) (x4 : Int) (x5 : Int) (x6 : Int) (styleKind_0 : Int) (styleOne_0 : Int) (tokenKind_0 : Int → Int) (cur_0 : Int) (tokens_0 : Int) (opened_0 : Int) (tokenValue_0 : Int → Int) (tokenPlace_0 : Int → Int) (tokenEnd_0 : Int → Int) (tape_0 : Int → Int) (fault_0 : Int) (limit_0 : Int) (gx : Int) (k1 : 0 ≤ x1 ∧ x1 ≤ 2009) (k2 : 0 ≤ x2 ∧ x2 ≤ 5) (k3 : 0 ≤ x3 ∧ x3 ≤ 13) (k4 : 0 ≤ x4 ∧ x4 ≤ 2009) (k5 : 0 ≤ x5 ∧ x5 ≤ 5) (k6 : 0 ≤ x6 ∧ x6 ≤ 13) (f0 : 1 * x3 + 0 ≤ k) (f1 : (-1) * x3 + 0 ≤ ((-k))) (f2 : (styleKind_0 = 0) → (styleOne_0 ≤ 23)) (f3 : 1 * x1 + ((-1) * x4 + 0) ≤ 0) (f4 : x4 = x1) (f5 : x5 = x2) (f6 : x6 = x3) (f7 : (styleKind_0 = 0) → (styleOne_0 ≤ 23)) (f8 : ((cur_0 + 1) ≤ tokens_0) ∧ ((tokens_0 ≤ 2010) ∧ ((tokenKind_0 ((tokens_0 - 1)) = 0) ∨ (tokenKind_0 ((tokens_0 - 1)) = 4)))) (f9 : 1 * x4 + ((-1) * cur_0 + 0) ≤ 0) (f10 : 1 * opened_0 + 0 ≤ k) (f11 : (-1) * opened_0 + 0 ≤ ((-k))) (f12 : SBO (fault_0) (cur_0) (styleKind_0) (limit_0) (tokenKind_0) (tokenValue_0) (tokenPlace_0) (tokenEnd_0) (tape_0) (x4) (x5) (x6)) (f14 : 1 * x3 + 0 ≤ k) (f15 : (-1) * x3 + 0 ≤ ((-k))) (f16 : 1 * x1 + ((-1) * x4 + 0) ≤ 0) (hK_0_1 : ∀ j : Int, 0 ≤ j → j < 2000 → (-128) ≤ tape_0 j ∧ tape_0 j ≤ 127) (hK_0_160 : ∀ j : Int, 0 ≤ j → j < 2010 → 0 ≤ tokenKind_0 j ∧ tokenKind_0 j ≤ 4) (hK_0_162 : ∀ j : Int, 0 ≤ j → j < 2010 → 0 ≤ tokenPlace_0 j ∧ tokenPlace_0 j ≤ 2000) (hK_0_163 : ∀ j : Int, 0 ≤ j → j < 2010 → 0 ≤ tokenEnd_0 j ∧ tokenEnd_0 j ≤ 2000) (kz_0_8 : 0 ≤ fault_0 ∧ fault_0 ≤ 5) (kz_0_10 : 0 ≤ limit_0 ∧ limit_0 ≤ 2000) (kz_0_157 : 0 ≤ tokens_0 ∧ tokens_0 ≤ 2010) (kz_0_158 : 0 ≤ cur_0 ∧ cur_0 ≤ 2009) (kz_0_159 : 0 ≤ opened_0 ∧ opened_0 ≤ 13) (kz_0_164 : 0 ≤ styleKind_0 ∧ styleKind_0 ≤ 1) (kz_0_165 : (-1) ≤ styleOne_0 ∧ styleOne_0 ≤ 47) (ex2 : gx = 2010 + ((-1) * cur_0 + 0)) (ex3 : 0 ≤ gx ∧ gx ≤ 2010) : (-1) * opened_0 + 0 ≤ ((-k)) := by
  first | with_reducible assumption | ((have f8_c0 := f8.1); (have f8_c1 := f8.2.1); (have f8_c2 := f8.2.2); (try and_intros) <;> first | with_reducible assumption | (clear f8_c2 f8 hK_0_1 hK_0_160 hK_0_162 hK_0_163 f2 f7; omega)) | ((have f8_c0 := f8.1); (have f8_c1 := f8.2.1); (have f8_c2 := f8.2.2); (first | have f2_b := f2 (by clear f8_c2 f8 hK_0_1 hK_0_160 hK_0_162 hK_0_163 f2 f7; omega) | skip); (first | have f7_b := f7 (by clear f8_c2 f8 hK_0_1 hK_0_160 hK_0_162 hK_0_163 f2 f7; omega) | skip); (first | have f2_d := f2 (by with_reducible assumption) | skip); (first | have f7_d := f7 (by with_reducible assumption) | skip); (try and_intros) <;> first | with_reducible assumption | (clear f8_c2 f8 hK_0_1 hK_0_160 hK_0_162 hK_0_163 f2 f7; omega)) | ((have f8_c0 := f8.1); (have f8_c1 := f8.2.1); (have f8_c2 := f8.2.2); (first | have f2_b := f2 (by clear f8_c2 f8 hK_0_1 hK_0_160 hK_0_162 hK_0_163 f2 f7; omega) | skip); (first | have f7_b := f7 (by clear f8_c2 f8 hK_0_1 hK_0_160 hK_0_162 hK_0_163 f2 f7; omega) | skip); (first | have f2_d := f2 (by with_reducible assumption) | skip); (first | have f7_d := f7 (by with_reducible assumption) | skip); (first | have f8_q := tk_nx0 f8 (by clear f8_c2 f8 hK_0_1 hK_0_160 hK_0_162 hK_0_163 f2 f7; omega) | skip); (try and_intros) <;> first | with_reducible assumption | (clear f8_c2 f8 hK_0_1 hK_0_160 hK_0_162 hK_0_163 f2 f7; omega)) | omega
set_option maxHeartbeats 4000000 in
theorem vc_Mo_test_f_1_5 (k : Int) (hk0 : 0 ≤ k) (hk1 : k ≤ 12) (x1 : Int) (x2 : Int) (x3 : Int) (x4 : Int) (x5 : Int) (x6 : Int) (styleKind_0 : Int) (styleOne_0 : Int) (tokenKind_0 : Int → Int) (cur_0 : Int) (tokens_0 : Int) (opened_0 : Int) (tokenValue_0 : Int → Int) (tokenPlace_0 : Int → Int) (tokenEnd_0 : Int → Int) (tape_0 : Int → Int) (fault_0 : Int) (limit_0 : Int) (gx : Int) (k1 : 0 ≤ x1 ∧ x1 ≤ 2009) (k2 : 0 ≤ x2 ∧ x2 ≤ 5) (k3 : 0 ≤ x3 ∧ x3 ≤ 13) (k4 : 0 ≤ x4 ∧ x4 ≤ 2009) (k5 : 0 ≤ x5 ∧ x5 ≤ 5) (k6 : 0 ≤ x6 ∧ x6 ≤ 13) (f0 : 1 * x3 + 0 ≤ k) (f1 : (-1) * x3 + 0 ≤ ((-k))) (f2 : (styleKind_0 = 0) → (styleOne_0 ≤ 23)) (f3 : 1 * x1 + ((-1) * x4 + 0) ≤ 0) (f4 : x4 = x1) (f5 : x5 = x2) (f6 : x6 = x3) (f7 : (styleKind_0 = 0) → (styleOne_0 ≤ 23)) (f8 : ((cur_0 + 1) ≤ tokens_0) ∧ ((tokens_0 ≤ 2010) ∧ ((tokenKind_0 ((tokens_0 - 1)) = 0) ∨ (tokenKind_0 ((tokens_0 - 1)) = 4)))) (f9 : 1 * x4 + ((-1) * cur_0 + 0) ≤ 0) (f10 : 1 * opened_0 + 0 ≤ k) (f11 : (-1) * opened_0 + 0 ≤ ((-k))) (f12 : SBO (fault_0) (cur_0) (styleKind_0) (limit_0) (tokenKind_0) (tokenValue_0) (tokenPlace_0) (tokenEnd_0) (tape_0) (x4) (x5) (x6)) (f14 : 1 * x3 + 0 ≤ k) (f15 : (-1) * x3 + 0 ≤ ((-k))) (f16 : 1 * x1 + ((-1) * x4 + 0) ≤ 0) (hK_0_1 : ∀ j : Int, 0 ≤ j → j < 2000 → (-128) ≤ tape_0 j ∧ tape_0 j ≤ 127) (hK_0_160 : ∀ j : Int, 0 ≤ j → j < 2010 → 0 ≤ tokenKind_0 j ∧ tokenKind_0 j ≤ 4) (hK_0_162 : ∀ j : Int, 0 ≤ j → j < 2010 → 0 ≤ tokenPlace_0 j ∧ tokenPlace_0 j ≤ 2000) (hK_0_163 : ∀ j : Int, 0 ≤ j → j < 2010 → 0 ≤ tokenEnd_0 j ∧ tokenEnd_0 j ≤ 2000) (kz_0_8 : 0 ≤ fault_0 ∧ fault_0 ≤ 5) (kz_0_10 : 0 ≤ limit_0 ∧ limit_0 ≤ 2000) (kz_0_157 : 0 ≤ tokens_0 ∧ tokens_0 ≤ 2010) (kz_0_158 : 0 ≤ cur_0 ∧ cur_0 ≤ 2009) (kz_0_159 : 0 ≤ opened_0 ∧ opened_0 ≤ 13) (kz_0_164 : 0 ≤ styleKind_0 ∧ styleKind_0 ≤ 1) (kz_0_165 : (-1) ≤ styleOne_0 ∧ styleOne_0 ≤ 47) (ex2 : gx = 2010 + ((-1) * cur_0 + 0)) (ex3 : 0 ≤ gx ∧ gx ≤ 2010) : STL (fault_0) (cur_0) (styleKind_0) (limit_0) (tokenKind_0) (tokenValue_0) (tokenPlace_0) (tokenEnd_0) (tape_0) (x1) (x2) (x3) := by
  first
    | exact stl_start (‹SBO _ _ _ _ _ _ _ _ _ _ _ _›) (by omega) (by omega) (by omega) (by omega)
    | exact stl_go (‹GTL _ _ _ _ _ _ _ _ _ _ _ _›) (‹SBO _ _ _ _ _ _ _ _ _ _ _ _›) (by omega) (by omega) (by omega)
    | assumption
  
set_option maxHeartbeats 4000000 in
theorem vc_Mo_test_f_1_6 (k : Int) (hk0 : 0 ≤ k) (hk1 : k ≤ 12) (x1 : Int) (x2 : Int) (x3 : Int) (x4 : Int) (x5 : Int) (x6 : Int) (styleKind_0 : Int) (styleOne_0 : Int) (tokenKind_0 : Int → Int) (cur_0 : Int) (tokens_0 : Int) (opened_0 : Int) (tokenValue_0 : Int → Int) (tokenPlace_0 : Int → Int) (tokenEnd_0 : Int → Int) (tape_0 : Int → Int) (fault_0 : Int) (limit_0 : Int) (gx : Int) (k1 : 0 ≤ x1 ∧ x1 ≤ 2009) (k2 : 0 ≤ x2 ∧ x2 ≤ 5) (k3 : 0 ≤ x3 ∧ x3 ≤ 13) (k4 : 0 ≤ x4 ∧ x4 ≤ 2009) (k5 : 0 ≤ x5 ∧ x5 ≤ 5) (k6 : 0 ≤ x6 ∧ x6 ≤ 13) (f0 : 1 * x3 + 0 ≤ k) (f1 : (-1) * x3 + 0 ≤ ((-k))) (f2 : (styleKind_0 = 0) → (styleOne_0 ≤ 23)) (f3 : 1 * x1 + ((-1) * x4 + 0) ≤ 0) (f4 : x4 = x1) (f5 : x5 = x2) (f6 : x6 = x3) (f7 : (styleKind_0 = 0) → (styleOne_0 ≤ 23)) (f8 : ((cur_0 + 1) ≤ tokens_0) ∧ ((tokens_0 ≤ 2010) ∧ ((tokenKind_0 ((tokens_0 - 1)) = 0) ∨ (tokenKind_0 ((tokens_0 - 1)) = 4)))) (f9 : 1 * x4 + ((-1) * cur_0 + 0) ≤ 0) (f10 : 1 * opened_0 + 0 ≤ k) (f11 : (-1) * opened_0 + 0 ≤ ((-k))) (f12 : SBO (fault_0) (cur_0) (styleKind_0) (limit_0) (tokenKind_0) (tokenValue_0) (tokenPlace_0) (tokenEnd_0) (tape_0) (x4) (x5) (x6)) (f14 : 1 * x3 + 0 ≤ k) (f15 : (-1) * x3 + 0 ≤ ((-k))) (f16 : 1 * x1 + ((-1) * x4 + 0) ≤ 0) (hK_0_1 : ∀ j : Int, 0 ≤ j → j < 2000 → (-128) ≤ tape_0 j ∧ tape_0 j ≤ 127) (hK_0_160 : ∀ j : Int, 0 ≤ j → j < 2010 → 0 ≤ tokenKind_0 j ∧ tokenKind_0 j ≤ 4) (hK_0_162 : ∀ j : Int, 0 ≤ j → j < 2010 → 0 ≤ tokenPlace_0 j ∧ tokenPlace_0 j ≤ 2000) (hK_0_163 : ∀ j : Int, 0 ≤ j → j < 2010 → 0 ≤ tokenEnd_0 j ∧ tokenEnd_0 j ≤ 2000) (kz_0_8 : 0 ≤ fault_0 ∧ fault_0 ≤ 5) (kz_0_10 : 0 ≤ limit_0 ∧ limit_0 ≤ 2000) (kz_0_157 : 0 ≤ tokens_0 ∧ tokens_0 ≤ 2010) (kz_0_158 : 0 ≤ cur_0 ∧ cur_0 ≤ 2009) (kz_0_159 : 0 ≤ opened_0 ∧ opened_0 ≤ 13) (kz_0_164 : 0 ≤ styleKind_0 ∧ styleKind_0 ≤ 1) (kz_0_165 : (-1) ≤ styleOne_0 ∧ styleOne_0 ≤ 47) (ex2 : gx = 2010 + ((-1) * cur_0 + 0)) (ex3 : 0 ≤ gx ∧ gx ≤ 2010) : 1 * x3 + 0 ≤ k := by
  first | with_reducible assumption | ((have f8_c0 := f8.1); (have f8_c1 := f8.2.1); (have f8_c2 := f8.2.2); (try and_intros) <;> first | with_reducible assumption | (clear f8_c2 f8 hK_0_1 hK_0_160 hK_0_162 hK_0_163 f2 f7; omega)) | ((have f8_c0 := f8.1); (have f8_c1 := f8.2.1); (have f8_c2 := f8.2.2); (first | have f2_b := f2 (by clear f8_c2 f8 hK_0_1 hK_0_160 hK_0_162 hK_0_163 f2 f7; omega) | skip); (first | have f7_b := f7 (by clear f8_c2 f8 hK_0_1 hK_0_160 hK_0_162 hK_0_163 f2 f7; omega) | skip); (first | have f2_d := f2 (by with_reducible assumption) | skip); (first | have f7_d := f7 (by with_reducible assumption) | skip); (try and_intros) <;> first | with_reducible assumption | (clear f8_c2 f8 hK_0_1 hK_0_160 hK_0_162 hK_0_163 f2 f7; omega)) | ((have f8_c0 := f8.1); (have f8_c1 := f8.2.1); (have f8_c2 := f8.2.2); (first | have f2_b := f2 (by clear f8_c2 f8 hK_0_1 hK_0_160 hK_0_162 hK_0_163 f2 f7; omega) | skip); (first | have f7_b := f7 (by clear f8_c2 f8 hK_0_1 hK_0_160 hK_0_162 hK_0_163 f2 f7; omega) | skip); (first | have f2_d := f2 (by with_reducible assumption) | skip); (first | have f7_d := f7 (by with_reducible assumption) | skip); (first | have f8_q := tk_nx0 f8 (by clear f8_c2 f8 hK_0_1 hK_0_160 hK_0_162 hK_0_163 f2 f7; omega) | skip); (try and_intros) <;> first | with_reducible assumption | (clear f8_c2 f8 hK_0_1 hK_0_160 hK_0_162 hK_0_163 f2 f7; omega)) | omega
set_option maxHeartbeats 4000000 in
theorem vc_Mo_test_f_1_7 (k : Int) (hk0 : 0 ≤ k) (hk1 : k ≤ 12) (x1 : Int) (x2 : Int) (x3 : Int) (x4 : Int) (x5 : Int) (x6 : Int) (styleKind_0 : Int) (styleOne_0 : Int) (tokenKind_0 : Int → Int) (cur_0 : Int) (tokens_0 : Int) (opened_0 : Int) (tokenValue_0 : Int → Int) (tokenPlace_0 : Int → Int) (tokenEnd_0 : Int → Int) (tape_0 : Int → Int) (fault_0 : Int) (limit_0 : Int) (gx : Int) (k1 : 0 ≤ x1 ∧ x1 ≤ 2009) (k2 : 0 ≤ x2 ∧ x2 ≤ 5) (k3 : 0 ≤ x3 ∧ x3 ≤ 13) (k4 : 0 ≤ x4 ∧ x4 ≤ 2009) (k5 : 0 ≤ x5 ∧ x5 ≤ 5) (k6 : 0 ≤ x6 ∧ x6 ≤ 13) (f0 : 1 * x3 + 0 ≤ k) (f1 : (-1) * x3 + 0 ≤ ((-k))) (f2 : (styleKind_0 = 0) → (styleOne_0 ≤ 23)) (f3 : 1 * x1 + ((-1) * x4 + 0) ≤ 0) (f4 : x4 = x1) (f5 : x5 = x2) (f6 : x6 = x3) (f7 : (styleKind_0 = 0) → (styleOne_0 ≤ 23)) (f8 : ((cur_0 + 1) ≤ tokens_0) ∧ ((tokens_0 ≤ 2010) ∧ ((tokenKind_0 ((tokens_0 - 1)) = 0) ∨ (tokenKind_0 ((tokens_0 - 1)) = 4)))) (f9 : 1 * x4 + ((-1) * cur_0 + 0) ≤ 0) (f10 : 1 * opened_0 + 0 ≤ k) (f11 : (-1) * opened_0 + 0 ≤ ((-k))) (f12 : SBO (fault_0) (cur_0) (styleKind_0) (limit_0) (tokenKind_0) (tokenValue_0) (tokenPlace_0) (tokenEnd_0) (tape_0) (x4) (x5) (x6)) (f14 : 1 * x3 + 0 ≤ k) (f15 : (-1) * x3 + 0 ≤ ((-k))) (f16 : 1 * x1 + ((-1) * x4 + 0) ≤ 0) (hK_0_1 : ∀ j : Int, 0 ≤ j → j < 2000 → (-128) ≤ tape_0 j ∧ tape_0 j ≤ 127) (hK_0_160 : ∀ j : Int, 0 ≤ j → j < 2010 → 0 ≤ tokenKind_0 j ∧ tokenKind_0 j ≤ 4) (hK_0_162 : ∀ j : Int, 0 ≤ j → j < 2010 → 0 ≤ tokenPlace_0 j ∧ tokenPlace_0 j ≤ 2000) (hK_0_163 : ∀ j : Int, 0 ≤ j → j < 2010 → 0 ≤ tokenEnd_0 j ∧ tokenEnd_0 j ≤ 2000) (kz_0_8 : 0 ≤ fault_0 ∧ fault_0 ≤ 5) (kz_0_10 : 0 ≤ limit_0 ∧ limit_0 ≤ 2000) (kz_0_157 : 0 ≤ tokens_0 ∧ tokens_0 ≤ 2010) (kz_0_158 : 0 ≤ cur_0 ∧ cur_0 ≤ 2009) (kz_0_159 : 0 ≤ opened_0 ∧ opened_0 ≤ 13) (kz_0_164 : 0 ≤ styleKind_0 ∧ styleKind_0 ≤ 1) (kz_0_165 : (-1) ≤ styleOne_0 ∧ styleOne_0 ≤ 47) (ex2 : gx = 2010 + ((-1) * cur_0 + 0)) (ex3 : 0 ≤ gx ∧ gx ≤ 2010) : (-1) * x3 + 0 ≤ ((-k)) := by
  first | with_reducible assumption | ((have f8_c0 := f8.1); (have f8_c1 := f8.2.1); (have f8_c2 := f8.2.2); (try and_intros) <;> first | with_reducible assumption | (clear f8_c2 f8 hK_0_1 hK_0_160 hK_0_162 hK_0_163 f2 f7; omega)) | ((have f8_c0 := f8.1); (have f8_c1 := f8.2.1); (have f8_c2 := f8.2.2); (first | have f2_b := f2 (by clear f8_c2 f8 hK_0_1 hK_0_160 hK_0_162 hK_0_163 f2 f7; omega) | skip); (first | have f7_b := f7 (by clear f8_c2 f8 hK_0_1 hK_0_160 hK_0_162 hK_0_163 f2 f7; omega) | skip); (first | have f2_d := f2 (by with_reducible assumption) | skip); (first | have f7_d := f7 (by with_reducible assumption) | skip); (try and_intros) <;> first | with_reducible assumption | (clear f8_c2 f8 hK_0_1 hK_0_160 hK_0_162 hK_0_163 f2 f7; omega)) | ((have f8_c0 := f8.1); (have f8_c1 := f8.2.1); (have f8_c2 := f8.2.2); (first | have f2_b := f2 (by clear f8_c2 f8 hK_0_1 hK_0_160 hK_0_162 hK_0_163 f2 f7; omega) | skip); (first | have f7_b := f7 (by clear f8_c2 f8 hK_0_1 hK_0_160 hK_0_162 hK_0_163 f2 f7; omega) | skip); (first | have f2_d := f2 (by with_reducible assumption) | skip); (first | have f7_d := f7 (by with_reducible assumption) | skip); (first | have f8_q := tk_nx0 f8 (by clear f8_c2 f8 hK_0_1 hK_0_160 hK_0_162 hK_0_163 f2 f7; omega) | skip); (try and_intros) <;> first | with_reducible assumption | (clear f8_c2 f8 hK_0_1 hK_0_160 hK_0_162 hK_0_163 f2 f7; omega)) | omega
set_option maxHeartbeats 4000000 in
theorem vc_Mo_test_f_1_9 (k : Int) (hk0 : 0 ≤ k) (hk1 : k ≤ 12) (x1 : Int) (x2 : Int) (x3 : Int) (x4 : Int) (x5 : Int) (x6 : Int) (styleKind_0 : Int) (styleOne_0 : Int) (tokenKind_0 : Int → Int) (cur_0 : Int) (tokens_0 : Int) (opened_0 : Int) (tokenValue_0 : Int → Int) (tokenPlace_0 : Int → Int) (tokenEnd_0 : Int → Int) (tape_0 : Int → Int) (fault_0 : Int) (limit_0 : Int) (gx : Int) (k1 : 0 ≤ x1 ∧ x1 ≤ 2009) (k2 : 0 ≤ x2 ∧ x2 ≤ 5) (k3 : 0 ≤ x3 ∧ x3 ≤ 13) (k4 : 0 ≤ x4 ∧ x4 ≤ 2009) (k5 : 0 ≤ x5 ∧ x5 ≤ 5) (k6 : 0 ≤ x6 ∧ x6 ≤ 13) (f0 : 1 * x3 + 0 ≤ k) (f1 : (-1) * x3 + 0 ≤ ((-k))) (f2 : (styleKind_0 = 0) → (styleOne_0 ≤ 23)) (f3 : 1 * x1 + ((-1) * x4 + 0) ≤ 0) (f4 : x4 = x1) (f5 : x5 = x2) (f6 : x6 = x3) (f7 : (styleKind_0 = 0) → (styleOne_0 ≤ 23)) (f8 : ((cur_0 + 1) ≤ tokens_0) ∧ ((tokens_0 ≤ 2010) ∧ ((tokenKind_0 ((tokens_0 - 1)) = 0) ∨ (tokenKind_0 ((tokens_0 - 1)) = 4)))) (f9 : 1 * x4 + ((-1) * cur_0 + 0) ≤ 0) (f10 : 1 * opened_0 + 0 ≤ k) (f11 : (-1) * opened_0 + 0 ≤ ((-k))) (f12 : SBO (fault_0) (cur_0) (styleKind_0) (limit_0) (tokenKind_0) (tokenValue_0) (tokenPlace_0) (tokenEnd_0) (tape_0) (x4) (x5) (x6)) (f14 : 1 * x3 + 0 ≤ k) (f15 : (-1) * x3 + 0 ≤ ((-k))) (f16 : 1 * x1 + ((-1) * x4 + 0) ≤ 0) (hK_0_1 : ∀ j : Int, 0 ≤ j → j < 2000 → (-128) ≤ tape_0 j ∧ tape_0 j ≤ 127) (hK_0_160 : ∀ j : Int, 0 ≤ j → j < 2010 → 0 ≤ tokenKind_0 j ∧ tokenKind_0 j ≤ 4) (hK_0_162 : ∀ j : Int, 0 ≤ j → j < 2010 → 0 ≤ tokenPlace_0 j ∧ tokenPlace_0 j ≤ 2000) (hK_0_163 : ∀ j : Int, 0 ≤ j → j < 2010 → 0 ≤ tokenEnd_0 j ∧ tokenEnd_0 j ≤ 2000) (kz_0_8 : 0 ≤ fault_0 ∧ fault_0 ≤ 5) (kz_0_10 : 0 ≤ limit_0 ∧ limit_0 ≤ 2000) (kz_0_157 : 0 ≤ tokens_0 ∧ tokens_0 ≤ 2010) (kz_0_158 : 0 ≤ cur_0 ∧ cur_0 ≤ 2009) (kz_0_159 : 0 ≤ opened_0 ∧ opened_0 ≤ 13) (kz_0_164 : 0 ≤ styleKind_0 ∧ styleKind_0 ≤ 1) (kz_0_165 : (-1) ≤ styleOne_0 ∧ styleOne_0 ≤ 47) (ex2 : gx = 2010 + ((-1) * cur_0 + 0)) (ex3 : 0 ≤ gx ∧ gx ≤ 2010) : 1 * gx + (1 * cur_0 + 0) ≤ 2010 := by
  first | with_reducible assumption | ((have f8_c0 := f8.1); (have f8_c1 := f8.2.1); (have f8_c2 := f8.2.2); (try and_intros) <;> first | with_reducible assumption | (clear f8_c2 f8 hK_0_1 hK_0_160 hK_0_162 hK_0_163 f2 f7; omega)) | ((have f8_c0 := f8.1); (have f8_c1 := f8.2.1); (have f8_c2 := f8.2.2); (first | have f2_b := f2 (by clear f8_c2 f8 hK_0_1 hK_0_160 hK_0_162 hK_0_163 f2 f7; omega) | skip); (first | have f7_b := f7 (by clear f8_c2 f8 hK_0_1 hK_0_160 hK_0_162 hK_0_163 f2 f7; omega) | skip); (first | have f2_d := f2 (by with_reducible assumption) | skip); (first | have f7_d := f7 (by with_reducible assumption) | skip); (try and_intros) <;> first | with_reducible assumption | (clear f8_c2 f8 hK_0_1 hK_0_160 hK_0_162 hK_0_163 f2 f7; omega)) | ((have f8_c0 := f8.1); (have f8_c1 := f8.2.1); (have f8_c2 := f8.2.2); (first | have f2_b := f2 (by clear f8_c2 f8 hK_0_1 hK_0_160 hK_0_162 hK_0_163 f2 f7; omega) | skip); (first | have f7_b := f7 (by clear f8_c2 f8 hK_0_1 hK_0_160 hK_0_162 hK_0_163 f2 f7; omega) | skip); (first | have f2_d := f2 (by with_reducible assumption) | skip); (first | have f7_d := f7 (by with_reducible assumption) | skip); (first | have f8_q := tk_nx0 f8 (by clear f8_c2 f8 hK_0_1 hK_0_160 hK_0_162 hK_0_163 f2 f7; omega) | skip); (try and_intros) <;> first | with_reducible assumption | (clear f8_c2 f8 hK_0_1 hK_0_160 hK_0_162 hK_0_163 f2 f7; omega)) | omega
set_option maxHeartbeats 4000000 in
theorem vc_Mo_test_f_1_10 (k : Int) (hk0 : 0 ≤ k) (hk1 : k ≤ 12) (x1 : Int) (x2 : Int) (x3 : Int) (x4 : Int) (x5 : Int) (x6 : Int) (styleKind_0 : Int) (styleOne_0 : Int) (tokenKind_0 : Int → Int) (cur_0 : Int) (tokens_0 : Int) (opened_0 : Int) (tokenValue_0 : Int → Int) (tokenPlace_0 : Int → Int) (tokenEnd_0 : Int → Int) (tape_0 : Int → Int) (fault_0 : Int) (limit_0 : Int) (gx : Int) (k1 : 0 ≤ x1 ∧ x1 ≤ 2009) (k2 : 0 ≤ x2 ∧ x2 ≤ 5) (k3 : 0 ≤ x3 ∧ x3 ≤ 13) (k4 : 0 ≤ x4 ∧ x4 ≤ 2009) (k5 : 0 ≤ x5 ∧ x5 ≤ 5) (k6 : 0 ≤ x6 ∧ x6 ≤ 13) (f0 : 1 * x3 + 0 ≤ k) (f1 : (-1) * x3 + 0 ≤ ((-k))) (f2 : (styleKind_0 = 0) → (styleOne_0 ≤ 23)) (f3 : 1 * x1 + ((-1) * x4 + 0) ≤ 0) (f4 : x4 = x1) (f5 : x5 = x2) (f6 : x6 = x3) (f7 : (styleKind_0 = 0) → (styleOne_0 ≤ 23)) (f8 : ((cur_0 + 1) ≤ tokens_0) ∧ ((tokens_0 ≤ 2010) ∧ ((tokenKind_0 ((tokens_0 - 1)) = 0) ∨ (tokenKind_0 ((tokens_0 - 1)) = 4)))) (f9 : 1 * x4 + ((-1) * cur_0 + 0) ≤ 0) (f10 : 1 * opened_0 + 0 ≤ k) (f11 : (-1) * opened_0 + 0 ≤ ((-k))) (f12 : SBO (fault_0) (cur_0) (styleKind_0) (limit_0) (tokenKind_0) (tokenValue_0) (tokenPlace_0) (tokenEnd_0) (tape_0) (x4) (x5) (x6)) (f14 : 1 * x3 + 0 ≤ k) (f15 : (-1) * x3 + 0 ≤ ((-k))) (f16 : 1 * x1 + ((-1) * x4 + 0) ≤ 0) (hK_0_1 : ∀ j : Int, 0 ≤ j → j < 2000 → (-128) ≤ tape_0 j ∧ tape_0 j ≤ 127) (hK_0_160 : ∀ j : Int, 0 ≤ j → j < 2010 → 0 ≤ tokenKind_0 j ∧ tokenKind_0 j ≤ 4) (hK_0_162 : ∀ j : Int, 0 ≤ j → j < 2010 → 0 ≤ tokenPlace_0 j ∧ tokenPlace_0 j ≤ 2000) (hK_0_163 : ∀ j : Int, 0 ≤ j → j < 2010 → 0 ≤ tokenEnd_0 j ∧ tokenEnd_0 j ≤ 2000) (kz_0_8 : 0 ≤ fault_0 ∧ fault_0 ≤ 5) (kz_0_10 : 0 ≤ limit_0 ∧ limit_0 ≤ 2000) (kz_0_157 : 0 ≤ tokens_0 ∧ tokens_0 ≤ 2010) (kz_0_158 : 0 ≤ cur_0 ∧ cur_0 ≤ 2009) (kz_0_159 : 0 ≤ opened_0 ∧ opened_0 ≤ 13) (kz_0_164 : 0 ≤ styleKind_0 ∧ styleKind_0 ≤ 1) (kz_0_165 : (-1) ≤ styleOne_0 ∧ styleOne_0 ≤ 47) (ex2 : gx = 2010 + ((-1) * cur_0 + 0)) (ex3 : 0 ≤ gx ∧ gx ≤ 2010) : (-1) * gx + ((-1) * cur_0 + 0) ≤ (-2010) := by
  first | with_reducible assumption | ((have f8_c0 := f8.1); (have f8_c1 := f8.2.1); (have f8_c2 := f8.2.2); (try and_intros) <;> first | with_reducible assumption | (clear f8_c2 f8 hK_0_1 hK_0_160 hK_0_162 hK_0_163 f2 f7; omega)) | ((have f8_c0 := f8.1); (have f8_c1 := f8.2.1); (have f8_c2 := f8.2.2); (first | have f2_b := f2 (by clear f8_c2 f8 hK_0_1 hK_0_160 hK_0_162 hK_0_163 f2 f7; omega) | skip); (first | have f7_b := f7 (by clear f8_c2 f8 hK_0_1 hK_0_160 hK_0_162 hK_0_163 f2 f7; omega) | skip); (first | have f2_d := f2 (by with_reducible assumption) | skip); (first | have f7_d := f7 (by with_reducible assumption) | skip); (try and_intros) <;> first | with_reducible assumption | (clear f8_c2 f8 hK_0_1 hK_0_160 hK_0_162 hK_0_163 f2 f7; omega)) | ((have f8_c0 := f8.1); (have f8_c1 := f8.2.1); (have f8_c2 := f8.2.2); (first | have f2_b := f2 (by clear f8_c2 f8 hK_0_1 hK_0_160 hK_0_162 hK_0_163 f2 f7; omega) | skip); (first | have f7_b := f7 (by clear f8_c2 f8 hK_0_1 hK_0_160 hK_0_162 hK_0_163 f2 f7; omega) | skip); (first | have f2_d := f2 (by with_reducible assumption) | skip); (first | have f7_d := f7 (by with_reducible assumption) | skip); (first | have f8_q := tk_nx0 f8 (by clear f8_c2 f8 hK_0_1 hK_0_160 hK_0_162 hK_0_163 f2 f7; omega) | skip); (try and_intros) <;> first | with_reducible assumption | (clear f8_c2 f8 hK_0_1 hK_0_160 hK_0_162 hK_0_163 f2 f7; omega)) | omega
def o_Mo_test_f_1 (k : Int) : or_T := (5, 8, [(0, (2, 0, 0, [165])), (1, (0, 0, 2009, [])), (2, (0, 0, 5, [])), (3, (0, 0, 13, [])), (4, (0, 0, 2009, [])), (5, (0, 0, 5, [])), (6, (0, 0, 13, []))], [(23, [3], [k, 1]), (23, [3], [(-k), -1]), (20, [0], [50, 2, 0, 164, 165, 4, 7, 1, 3, 2, 0, 164, 0, 0, 0, 3, 2, 0, 165, 0, 23]), (23, [1, 4], [0, 1, -1]), (20, [4, 1], [50, 0, 0, 1, 2, 1, 0, 1, 1]), (20, [5, 2], [50, 0, 0, 1, 2, 1, 0, 1, 1]), (20, [6, 3], [50, 0, 0, 1, 2, 1, 0, 1, 1]), (20, [0], [50, 2, 0, 164, 165, 4, 7, 1, 3, 2, 0, 164, 0, 0, 0, 3, 2, 0, 165, 0, 23]), (20, [0], [50, 2, 1, 158, 157, 160, 2, 12, 0, 7, 4, 3, 2, 0, 158, 0, 1, 2, 0, 157, 2, 7, 0, 3, 2, 0, 157, 0, 2010, 3, 14, 1, 10, 3, 0, 160, 5, 3, 2, 0, 157, 0, 1, 0, 0, 1, 10, 3, 0, 160, 5, 3, 2, 0, 157, 0, 1, 0, 4]), (20, [4, 0], [30, 0, 1, 0, 0, -1, 1, 158]), (20, [0], [30, k, 1, 1, 159]), (20, [0], [30, (-k), -1, 1, 159]), (20, [0, 4, 5, 6], [60, 4, 5, 4, 8, 158, 164, 10, 160, 161, 162, 163, 1]), (102, [6], [0, 165008, 165009, 165158, 165159]), (23, [3], [k, 1]), (23, [3], [(-k), -1]), (23, [1, 4], [0, 1, -1])], [], [(0, 0, 2010, [])], [(20, [0], [50, 2, 1, 158, 157, 160, 2, 12, 0, 7, 4, 3, 2, 0, 158, 0, 1, 2, 0, 157, 2, 7, 0, 3, 2, 0, 157, 0, 2010, 3, 14, 1, 10, 3, 0, 160, 5, 3, 2, 0, 157, 0, 1, 0, 0, 1, 10, 3, 0, 160, 5, 3, 2, 0, 157, 0, 1, 0, 4]), (20, [1, 0], [30, 0, 1, 0, 0, -1, 1, 158]), (20, [0], [50, 2, 0, 164, 165, 4, 7, 1, 3, 2, 0, 164, 0, 0, 0, 3, 2, 0, 165, 0, 23]), (20, [0], [30, k, 1, 1, 159]), (20, [0], [30, (-k), -1, 1, 159]), (20, [0, 1, 2, 3], [60, 4, 5, 9, 8, 158, 164, 10, 160, 161, 162, 163, 1]), (23, [3], [k, 1]), (23, [3], [(-k), -1]), (24, [0, 0], []), (20, [8, 0], [30, 2010, 1, 0, 0, 1, 1, 158]), (20, [8, 0], [30, -2010, -1, 0, 0, -1, 1, 158])], [], [])
theorem oo_Mo_test_f_1 {kA : Nat → ClassId} (k : Int) (hk0 : 0 ≤ k) (hk1 : k ≤ 12) : or_ok PRD kA GG (o_Mo_test_f_1 k) := by
  refine or_mk fun A ta ws vs hD hth hl => ?_
  intro t0 r0 t1 k1 t2 k2 t3 k3 t4 k4 t5 k5 t6 k6 f0 f1 f2 f3 f4 f5 f6 f7 f8 f9 f10 f11 f12 ta1 w1 le1 s1 f14 f15 f16
  replace f0 := shm_279 f0
  replace f1 := shm_280 f1
  replace f2 := shm_274 f2
  replace f3 := shm_7 f3
  replace f4 := shm_48 f4
  replace f5 := shm_48 f5
  replace f6 := shm_48 f6
  replace f7 := shm_274 f7
  replace f8 := shm_271 f8
  replace f9 := shm_281 f9
  replace f10 := shm_275 f10
  replace f11 := shm_276 f11
  replace f12 := shm_289 f12
  replace f14 := shm_279 f14
  replace f15 := shm_280 f15
  replace f16 := shm_7 f16
  have cr_0_1 := fdq_39 hD hth r0
  have cr_0_160 := fdq_33 hD hth r0
  have cr_0_162 := fdq_41 hD hth r0
  have cr_0_163 := fdq_42 hD hth r0
  have hK_0_1 := elq_7 hD hth cr_0_1
  have hK_0_160 := elq_6 hD hth cr_0_160
  have hK_0_162 := elq_8 hD hth cr_0_162
  have hK_0_163 := elq_9 hD hth cr_0_163
  have kz_0_8 := fdq_34 hD hth r0
  have kz_0_10 := fdq_43 hD hth r0
  have kz_0_157 := fdq_35 hD hth r0
  have kz_0_158 := fdq_36 hD hth r0
  have kz_0_159 := fdq_37 hD hth r0
  have kz_0_164 := fdq_38 hD hth r0
  have kz_0_165 := fdq_27 hD hth r0
  obtain ⟨x, ex, hx⟩ := iv_ex (ta := ta) (lo := 0) (hi := 2010) (z := 2010 + ((-1) * w_fi ws (n_v vs 0) 158 + 0)) (by omega) (by omega) (by omega) (by omega)
  have ex2 : v_iv (Value.int x) = 2010 + ((-1) * w_fi ws (n_v vs 0) 158 + 0) := ex
  have ex3 : 0 ≤ v_iv (Value.int x) ∧ v_iv (Value.int x) ≤ 2010 := tv_rng hx
  have e_0 : n_v (vs ++ [Value.int x]) 0 = n_v vs 0 := n_v_old (by rw [hl]; decide)
  have e_1 : n_v (vs ++ [Value.int x]) 1 = n_v vs 1 := n_v_old (by rw [hl]; decide)
  have e_2 : n_v (vs ++ [Value.int x]) 2 = n_v vs 2 := n_v_old (by rw [hl]; decide)
  have e_3 : n_v (vs ++ [Value.int x]) 3 = n_v vs 3 := n_v_old (by rw [hl]; decide)
  have e_8 : n_v (vs ++ [Value.int x]) 8 = Value.int x := n_v_new hl
  have nf0 : fc_1 PRD (20, [0], [50, 2, 1, 158, 157, 160, 2, 12, 0, 7, 4, 3, 2, 0, 158, 0, 1, 2, 0, 157, 2, 7, 0, 3, 2, 0, 157, 0, 2010, 3, 14, 1, 10, 3, 0, 160, 5, 3, 2, 0, 157, 0, 1, 0, 0, 1, 10, 3, 0, 160, 5, 3, 2, 0, 157, 0, 1, 0, 4]) ws (vs ++ [Value.int x]) := by
    refine ⟨nf_inA hl rfl, sgq_271 ?_⟩
    · show ((w_fi ws (n_v (vs ++ [Value.int x]) 0) 158 + 1) ≤ w_fi ws (n_v (vs ++ [Value.int x]) 0) 157) ∧ ((w_fi ws (n_v (vs ++ [Value.int x]) 0) 157 ≤ 2010) ∧ ((w_ei ws (w_ar ws (n_v (vs ++ [Value.int x]) 0) 160) ((w_fi ws (n_v (vs ++ [Value.int x]) 0) 157 - 1)) = 0) ∨ (w_ei ws (w_ar ws (n_v (vs ++ [Value.int x]) 0) 160) ((w_fi ws (n_v (vs ++ [Value.int x]) 0) 157 - 1)) = 4)))
      rw [e_0]
      exact vc_Mo_test_f_1_0 k hk0 hk1 (v_iv (n_v vs 1)) (v_iv (n_v vs 2)) (v_iv (n_v vs 3)) (v_iv (n_v vs 4)) (v_iv (n_v vs 5)) (v_iv (n_v vs 6)) (w_fi ws (n_v vs 0) 164) (w_fi ws (n_v vs 0) 165) (w_ei ws (w_ar ws (n_v vs 0) 160)) (w_fi ws (n_v vs 0) 158) (w_fi ws (n_v vs 0) 157) (w_fi ws (n_v vs 0) 159) (w_ei ws (w_ar ws (n_v vs 0) 161)) (w_ei ws (w_ar ws (n_v vs 0) 162)) (w_ei ws (w_ar ws (n_v vs 0) 163)) (w_ei ws (w_ar ws (n_v vs 0) 1)) (w_fi ws (n_v vs 0) 8) (w_fi ws (n_v vs 0) 10) (v_iv (Value.int x)) k1 k2 k3 k4 k5 k6 f0 f1 f2 f3 f4 f5 f6 f7 f8 f9 f10 f11 f12 f14 f15 f16 hK_0_1 hK_0_160 hK_0_162 hK_0_163 kz_0_8 kz_0_10 kz_0_157 kz_0_158 kz_0_159 kz_0_164 kz_0_165 ex2 ex3
  have nf1 : fc_1 PRD (20, [1, 0], [30, 0, 1, 0, 0, -1, 1, 158]) ws (vs ++ [Value.int x]) := by
    refine ⟨nf_inA hl rfl, sgq_281 ?_⟩
    · show 1 * v_iv (n_v (vs ++ [Value.int x]) 1) + ((-1) * w_fi ws (n_v (vs ++ [Value.int x]) 0) 158 + 0) ≤ 0
      simp only [e_0, e_1]
      exact vc_Mo_test_f_1_1 k hk0 hk1 (v_iv (n_v vs 1)) (v_iv (n_v vs 2)) (v_iv (n_v vs 3)) (v_iv (n_v vs 4)) (v_iv (n_v vs 5)) (v_iv (n_v vs 6)) (w_fi ws (n_v vs 0) 164) (w_fi ws (n_v vs 0) 165) (w_ei ws (w_ar ws (n_v vs 0) 160)) (w_fi ws (n_v vs 0) 158) (w_fi ws (n_v vs 0) 157) (w_fi ws (n_v vs 0) 159) (w_ei ws (w_ar ws (n_v vs 0) 161)) (w_ei ws (w_ar ws (n_v vs 0) 162)) (w_ei ws (w_ar ws (n_v vs 0) 163)) (w_ei ws (w_ar ws (n_v vs 0) 1)) (w_fi ws (n_v vs 0) 8) (w_fi ws (n_v vs 0) 10) (v_iv (Value.int x)) k1 k2 k3 k4 k5 k6 f0 f1 f2 f3 f4 f5 f6 f7 f8 f9 f10 f11 f12 f14 f15 f16 hK_0_1 hK_0_160 hK_0_162 hK_0_163 kz_0_8 kz_0_10 kz_0_157 kz_0_158 kz_0_159 kz_0_164 kz_0_165 ex2 ex3
  have nf2 : fc_1 PRD (20, [0], [50, 2, 0, 164, 165, 4, 7, 1, 3, 2, 0, 164, 0, 0, 0, 3, 2, 0, 165, 0, 23]) ws (vs ++ [Value.int x]) := by
    refine ⟨nf_inA hl rfl, sgq_274 ?_⟩
    · show (w_fi ws (n_v (vs ++ [Value.int x]) 0) 164 = 0) → (w_fi ws (n_v (vs ++ [Value.int x]) 0) 165 ≤ 23)
      rw [e_0]
      exact vc_Mo_test_f_1_2 k hk0 hk1 (v_iv (n_v vs 1)) (v_iv (n_v vs 2)) (v_iv (n_v vs 3)) (v_iv (n_v vs 4)) (v_iv (n_v vs 5)) (v_iv (n_v vs 6)) (w_fi ws (n_v vs 0) 164) (w_fi ws (n_v vs 0) 165) (w_ei ws (w_ar ws (n_v vs 0) 160)) (w_fi ws (n_v vs 0) 158) (w_fi ws (n_v vs 0) 157) (w_fi ws (n_v vs 0) 159) (w_ei ws (w_ar ws (n_v vs 0) 161)) (w_ei ws (w_ar ws (n_v vs 0) 162)) (w_ei ws (w_ar ws (n_v vs 0) 163)) (w_ei ws (w_ar ws (n_v vs 0) 1)) (w_fi ws (n_v vs 0) 8) (w_fi ws (n_v vs 0) 10) (v_iv (Value.int x)) k1 k2 k3 k4 k5 k6 f0 f1 f2 f3 f4 f5 f6 f7 f8 f9 f10 f11 f12 f14 f15 f16 hK_0_1 hK_0_160 hK_0_162 hK_0_163 kz_0_8 kz_0_10 kz_0_157 kz_0_158 kz_0_159 kz_0_164 kz_0_165 ex2 ex3
  have nf3 : fc_1 PRD (20, [0], [30, k, 1, 1, 159]) ws (vs ++ [Value.int x]) := by
    refine ⟨nf_inA hl rfl, sgq_275 ?_⟩
    · show 1 * w_fi ws (n_v (vs ++ [Value.int x]) 0) 159 + 0 ≤ k
      rw [e_0]
      exact vc_Mo_test_f_1_3 k hk0 hk1 (v_iv (n_v vs 1)) (v_iv (n_v vs 2)) (v_iv (n_v vs 3)) (v_iv (n_v vs 4)) (v_iv (n_v vs 5)) (v_iv (n_v vs 6)) (w_fi ws (n_v vs 0) 164) (w_fi ws (n_v vs 0) 165) (w_ei ws (w_ar ws (n_v vs 0) 160)) (w_fi ws (n_v vs 0) 158) (w_fi ws (n_v vs 0) 157) (w_fi ws (n_v vs 0) 159) (w_ei ws (w_ar ws (n_v vs 0) 161)) (w_ei ws (w_ar ws (n_v vs 0) 162)) (w_ei ws (w_ar ws (n_v vs 0) 163)) (w_ei ws (w_ar ws (n_v vs 0) 1)) (w_fi ws (n_v vs 0) 8) (w_fi ws (n_v vs 0) 10) (v_iv (Value.int x)) k1 k2 k3 k4 k5 k6 f0 f1 f2 f3 f4 f5 f6 f7 f8 f9 f10 f11 f12 f14 f15 f16 hK_0_1 hK_0_160 hK_0_162 hK_0_163 kz_0_8 kz_0_10 kz_0_157 kz_0_158 kz_0_159 kz_0_164 kz_0_165 ex2 ex3
  have nf4 : fc_1 PRD (20, [0], [30, (-k), -1, 1, 159]) ws (vs ++ [Value.int x]) := by
    refine ⟨nf_inA hl rfl, sgq_276 ?_⟩
    · show (-1) * w_fi ws (n_v (vs ++ [Value.int x]) 0) 159 + 0 ≤ ((-k))
      rw [e_0]
      exact vc_Mo_test_f_1_4 k hk0 hk1 (v_iv (n_v vs 1)) (v_iv (n_v vs 2)) (v_iv (n_v vs 3)) (v_iv (n_v vs 4)) (v_iv (n_v vs 5)) (v_iv (n_v vs 6)) (w_fi ws (n_v vs 0) 164) (w_fi ws (n_v vs 0) 165) (w_ei ws (w_ar ws (n_v vs 0) 160)) (w_fi ws (n_v vs 0) 158) (w_fi ws (n_v vs 0) 157) (w_fi ws (n_v vs 0) 159) (w_ei ws (w_ar ws (n_v vs 0) 161)) (w_ei ws (w_ar ws (n_v vs 0) 162)) (w_ei ws (w_ar ws (n_v vs 0) 163)) (w_ei ws (w_ar ws (n_v vs 0) 1)) (w_fi ws (n_v vs 0) 8) (w_fi ws (n_v vs 0) 10) (v_iv (Value.int x)) k1 k2 k3 k4 k5 k6 f0 f1 f2 f3 f4 f5 f6 f7 f8 f9 f10 f11 f12 f14 f15 f16 hK_0_1 hK_0_160 hK_0_162 hK_0_163 kz_0_8 kz_0_10 kz_0_157 kz_0_158 kz_0_159 kz_0_164 kz_0_165 ex2 ex3
  have nf5 : fc_1 PRD (20, [0, 1, 2, 3], [60, 4, 5, 9, 8, 158, 164, 10, 160, 161, 162, 163, 1]) ws (vs ++ [Value.int x]) := by
    refine ⟨nf_inA hl rfl, sgq_339 ?_⟩
    · show STL (w_fi ws (n_v (vs ++ [Value.int x]) 0) 8) (w_fi ws (n_v (vs ++ [Value.int x]) 0) 158) (w_fi ws (n_v (vs ++ [Value.int x]) 0) 164) (w_fi ws (n_v (vs ++ [Value.int x]) 0) 10) (w_ei ws (w_ar ws (n_v (vs ++ [Value.int x]) 0) 160)) (w_ei ws (w_ar ws (n_v (vs ++ [Value.int x]) 0) 161)) (w_ei ws (w_ar ws (n_v (vs ++ [Value.int x]) 0) 162)) (w_ei ws (w_ar ws (n_v (vs ++ [Value.int x]) 0) 163)) (w_ei ws (w_ar ws (n_v (vs ++ [Value.int x]) 0) 1)) (v_iv (n_v (vs ++ [Value.int x]) 1)) (v_iv (n_v (vs ++ [Value.int x]) 2)) (v_iv (n_v (vs ++ [Value.int x]) 3))
      simp only [e_0, e_1, e_2, e_3]
      exact vc_Mo_test_f_1_5 k hk0 hk1 (v_iv (n_v vs 1)) (v_iv (n_v vs 2)) (v_iv (n_v vs 3)) (v_iv (n_v vs 4)) (v_iv (n_v vs 5)) (v_iv (n_v vs 6)) (w_fi ws (n_v vs 0) 164) (w_fi ws (n_v vs 0) 165) (w_ei ws (w_ar ws (n_v vs 0) 160)) (w_fi ws (n_v vs 0) 158) (w_fi ws (n_v vs 0) 157) (w_fi ws (n_v vs 0) 159) (w_ei ws (w_ar ws (n_v vs 0) 161)) (w_ei ws (w_ar ws (n_v vs 0) 162)) (w_ei ws (w_ar ws (n_v vs 0) 163)) (w_ei ws (w_ar ws (n_v vs 0) 1)) (w_fi ws (n_v vs 0) 8) (w_fi ws (n_v vs 0) 10) (v_iv (Value.int x)) k1 k2 k3 k4 k5 k6 f0 f1 f2 f3 f4 f5 f6 f7 f8 f9 f10 f11 f12 f14 f15 f16 hK_0_1 hK_0_160 hK_0_162 hK_0_163 kz_0_8 kz_0_10 kz_0_157 kz_0_158 kz_0_159 kz_0_164 kz_0_165 ex2 ex3
  have nf6 : fc_1 PRD (23, [3], [k, 1]) ws (vs ++ [Value.int x]) := by
    refine ⟨nf_inA hl rfl, sgq_279 ?_⟩
    · show 1 * v_iv (n_v (vs ++ [Value.int x]) 3) + 0 ≤ k
      rw [e_3]
      exact vc_Mo_test_f_1_6 k hk0 hk1 (v_iv (n_v vs 1)) (v_iv (n_v vs 2)) (v_iv (n_v vs 3)) (v_iv (n_v vs 4)) (v_iv (n_v vs 5)) (v_iv (n_v vs 6)) (w_fi ws (n_v vs 0) 164) (w_fi ws (n_v vs 0) 165) (w_ei ws (w_ar ws (n_v vs 0) 160)) (w_fi ws (n_v vs 0) 158) (w_fi ws (n_v vs 0) 157) (w_fi ws (n_v vs 0) 159) (w_ei ws (w_ar ws (n_v vs 0) 161)) (w_ei ws (w_ar ws (n_v vs 0) 162)) (w_ei ws (w_ar ws (n_v vs 0) 163)) (w_ei ws (w_ar ws (n_v vs 0) 1)) (w_fi ws (n_v vs 0) 8) (w_fi ws (n_v vs 0) 10) (v_iv (Value.int x)) k1 k2 k3 k4 k5 k6 f0 f1 f2 f3 f4 f5 f6 f7 f8 f9 f10 f11 f12 f14 f15 f16 hK_0_1 hK_0_160 hK_0_162 hK_0_163 kz_0_8 kz_0_10 kz_0_157 kz_0_158 kz_0_159 kz_0_164 kz_0_165 ex2 ex3
  have nf7 : fc_1 PRD (23, [3], [(-k), -1]) ws (vs ++ [Value.int x]) := by
    refine ⟨nf_inA hl rfl, sgq_280 ?_⟩
    · show (-1) * v_iv (n_v (vs ++ [Value.int x]) 3) + 0 ≤ ((-k))
      rw [e_3]
      exact vc_Mo_test_f_1_7 k hk0 hk1 (v_iv (n_v vs 1)) (v_iv (n_v vs 2)) (v_iv (n_v vs 3)) (v_iv (n_v vs 4)) (v_iv (n_v vs 5)) (v_iv (n_v vs 6)) (w_fi ws (n_v vs 0) 164) (w_fi ws (n_v vs 0) 165) (w_ei ws (w_ar ws (n_v vs 0) 160)) (w_fi ws (n_v vs 0) 158) (w_fi ws (n_v vs 0) 157) (w_fi ws (n_v vs 0) 159) (w_ei ws (w_ar ws (n_v vs 0) 161)) (w_ei ws (w_ar ws (n_v vs 0) 162)) (w_ei ws (w_ar ws (n_v vs 0) 163)) (w_ei ws (w_ar ws (n_v vs 0) 1)) (w_fi ws (n_v vs 0) 8) (w_fi ws (n_v vs 0) 10) (v_iv (Value.int x)) k1 k2 k3 k4 k5 k6 f0 f1 f2 f3 f4 f5 f6 f7 f8 f9 f10 f11 f12 f14 f15 f16 hK_0_1 hK_0_160 hK_0_162 hK_0_163 kz_0_8 kz_0_10 kz_0_157 kz_0_158 kz_0_159 kz_0_164 kz_0_165 ex2 ex3
  have nf8 : fc_1 PRD (24, [0, 0], []) ws (vs ++ [Value.int x]) := by
    refine ⟨nf_inA hl rfl, sgq_1 ?_⟩
    · show n_v (vs ++ [Value.int x]) 0 = n_v (vs ++ [Value.int x]) 0
      first | rfl | simp only [e_0]
  have nf9 : fc_1 PRD (20, [8, 0], [30, 2010, 1, 0, 0, 1, 1, 158]) ws (vs ++ [Value.int x]) := by
    refine ⟨nf_inA hl rfl, sgq_284 ?_⟩
    · show 1 * v_iv (n_v (vs ++ [Value.int x]) 8) + (1 * w_fi ws (n_v (vs ++ [Value.int x]) 0) 158 + 0) ≤ 2010
      simp only [e_0, e_8]
      exact vc_Mo_test_f_1_9 k hk0 hk1 (v_iv (n_v vs 1)) (v_iv (n_v vs 2)) (v_iv (n_v vs 3)) (v_iv (n_v vs 4)) (v_iv (n_v vs 5)) (v_iv (n_v vs 6)) (w_fi ws (n_v vs 0) 164) (w_fi ws (n_v vs 0) 165) (w_ei ws (w_ar ws (n_v vs 0) 160)) (w_fi ws (n_v vs 0) 158) (w_fi ws (n_v vs 0) 157) (w_fi ws (n_v vs 0) 159) (w_ei ws (w_ar ws (n_v vs 0) 161)) (w_ei ws (w_ar ws (n_v vs 0) 162)) (w_ei ws (w_ar ws (n_v vs 0) 163)) (w_ei ws (w_ar ws (n_v vs 0) 1)) (w_fi ws (n_v vs 0) 8) (w_fi ws (n_v vs 0) 10) (v_iv (Value.int x)) k1 k2 k3 k4 k5 k6 f0 f1 f2 f3 f4 f5 f6 f7 f8 f9 f10 f11 f12 f14 f15 f16 hK_0_1 hK_0_160 hK_0_162 hK_0_163 kz_0_8 kz_0_10 kz_0_157 kz_0_158 kz_0_159 kz_0_164 kz_0_165 ex2 ex3
  have nf10 : fc_1 PRD (20, [8, 0], [30, -2010, -1, 0, 0, -1, 1, 158]) ws (vs ++ [Value.int x]) := by
    refine ⟨nf_inA hl rfl, sgq_285 ?_⟩
    · show (-1) * v_iv (n_v (vs ++ [Value.int x]) 8) + ((-1) * w_fi ws (n_v (vs ++ [Value.int x]) 0) 158 + 0) ≤ (-2010)
      simp only [e_0, e_8]
      exact vc_Mo_test_f_1_10 k hk0 hk1 (v_iv (n_v vs 1)) (v_iv (n_v vs 2)) (v_iv (n_v vs 3)) (v_iv (n_v vs 4)) (v_iv (n_v vs 5)) (v_iv (n_v vs 6)) (w_fi ws (n_v vs 0) 164) (w_fi ws (n_v vs 0) 165) (w_ei ws (w_ar ws (n_v vs 0) 160)) (w_fi ws (n_v vs 0) 158) (w_fi ws (n_v vs 0) 157) (w_fi ws (n_v vs 0) 159) (w_ei ws (w_ar ws (n_v vs 0) 161)) (w_ei ws (w_ar ws (n_v vs 0) 162)) (w_ei ws (w_ar ws (n_v vs 0) 163)) (w_ei ws (w_ar ws (n_v vs 0) 1)) (w_fi ws (n_v vs 0) 8) (w_fi ws (n_v vs 0) 10) (v_iv (Value.int x)) k1 k2 k3 k4 k5 k6 f0 f1 f2 f3 f4 f5 f6 f7 f8 f9 f10 f11 f12 f14 f15 f16 hK_0_1 hK_0_160 hK_0_162 hK_0_163 kz_0_8 kz_0_10 kz_0_157 kz_0_158 kz_0_159 kz_0_164 kz_0_165 ex2 ex3
  exact ⟨(fun _ h => (by cases h)), [Value.int x], ag_one hx, List.forall_mem_cons.mpr ⟨⟨show (20 : Nat) < 100 from by decide, nf0⟩, List.forall_mem_cons.mpr ⟨⟨show (20 : Nat) < 100 from by decide, nf1⟩, List.forall_mem_cons.mpr ⟨⟨show (20 : Nat) < 100 from by decide, nf2⟩, List.forall_mem_cons.mpr ⟨⟨show (20 : Nat) < 100 from by decide, nf3⟩, List.forall_mem_cons.mpr ⟨⟨show (20 : Nat) < 100 from by decide, nf4⟩, List.forall_mem_cons.mpr ⟨⟨show (20 : Nat) < 100 from by decide, nf5⟩, List.forall_mem_cons.mpr ⟨⟨show (23 : Nat) < 100 from by decide, nf6⟩, List.forall_mem_cons.mpr ⟨⟨show (23 : Nat) < 100 from by decide, nf7⟩, List.forall_mem_cons.mpr ⟨⟨show (24 : Nat) < 100 from by decide, nf8⟩, List.forall_mem_cons.mpr ⟨⟨show (20 : Nat) < 100 from by decide, nf9⟩, List.forall_mem_cons.mpr ⟨⟨show (20 : Nat) < 100 from by decide, nf10⟩, (fun _ h => (by cases h))⟩⟩⟩⟩⟩⟩⟩⟩⟩⟩⟩, (fun _ h => (by cases h))⟩
set_option maxHeartbeats 4000000 in
theorem vc_Mo_test_f_2_0 (k : Int) (hk0 : 0 ≤ k) (hk1 : k ≤ 12) (x1 : Int) (x2 : Int) (x3 : Int) (x6 : Int) (x7 : Int) (x9 : Int) (cur_0 : Int) (tokenKind_0 : Int → Int) (tokens_0 : Int) (styleKind_0 : Int) (styleOne_0 : Int) (opened_0 : Int) (tokenValue_0 : Int → Int) (tokenPlace_0 : Int → Int) (tokenEnd_0 : Int → Int) (tape_0 : Int → Int) (fault_0 : Int) (limit_0 : Int) (k1 : 0 ≤ x1 ∧ x1 ≤ 2009) (k2 : 0 ≤ x2 ∧ x2 ≤ 5) (k3 : 0 ≤ x3 ∧ x3 ≤ 13) (k6 : 0 ≤ x6 ∧ x6 ≤ 2009) (k7 : 0 ≤ x7 ∧ x7 ≤ 2010) (k9 : 0 ≤ x9 ∧ x9 ≤ 0) (g0 : x6 = cur_0) (f1 : x9 = 0) (f2 : ((cur_0 + 1) ≤ tokens_0) ∧ ((tokens_0 ≤ 2010) ∧ ((tokenKind_0 ((tokens_0 - 1)) = 0) ∨ (tokenKind_0 ((tokens_0 - 1)) = 4)))) (f3 : 1 * x1 + ((-1) * cur_0 + 0) ≤ 0) (f4 : (styleKind_0 = 0) → (styleOne_0 ≤ 23)) (f5 : 1 * opened_0 + 0 ≤ k) (f6 : (-1) * opened_0 + 0 ≤ ((-k))) (f7 : STL (fault_0) (cur_0) (styleKind_0) (limit_0) (tokenKind_0) (tokenValue_0) (tokenPlace_0) (tokenEnd_0) (tape_0) (x1) (x2) (x3)) (f8 : 1 * x3 + 0 ≤ k) (f9 : (-1) * x3 + 0 ≤ ((-k))) (f11 : 1 * x7 + (1 * cur_0 + 0) ≤ 2010) (f12 : (-1) * x7 + ((-1) * cur_0 + 0) ≤ (-2010)) (f13 : (x9 = 1) → (tokenKind_0 (cur_0) = 1)) (f14 : Wqor (fault_0) (cur_0) (limit_0) (tokenKind_0) (tokenPlace_0) (tokenEnd_0) (tape_0) (x9)) (f16 : 1 * x3 + 0 ≤ k) (f17 : (-1) * x3 + 0 ≤ ((-k))) (hK_0_1 : ∀ j : Int, 0 ≤ j → j < 2000 → (-128) ≤ tape_0 j ∧ tape_0 j ≤ 127) (hK_0_160 : ∀ j : Int, 0 ≤ j → j < 2010 → 0 ≤ tokenKind_0 j ∧ tokenKind_0 j ≤ 4) (hK_0_162 : ∀ j : Int, 0 ≤ j → j < 2010 → 0 ≤ tokenPlace_0 j ∧ tokenPlace_0 j ≤ 2000) (hK_0_163 : ∀ j : Int, 0 ≤ j → j < 2010 → 0 ≤ tokenEnd_0 j ∧ tokenEnd_0 j ≤ 2000) (kz_0_8 : 0 ≤ fault_0 ∧ fault_0 ≤ 5) (kz_0_10 : 0 ≤ limit_0 ∧ limit_0 ≤ 2000) (kz_0_157 : 0 ≤ tokens_0 ∧ tokens_0 ≤ 2010) (kz_0_158 : 0 ≤ cur_0 ∧ cur_0 ≤ 2009) (kz_0_159 : 0 ≤ opened_0 ∧ opened_0 ≤ 13) (kz_0_164 : 0 ≤ styleKind_0 ∧ styleKind_0 ≤ 1) (kz_0_165 : (-1) ≤ styleOne_0 ∧ styleOne_0 ≤ 47) : ((cur_0 + 1) ≤ tokens_0) ∧ ((tokens_0 ≤ 2010) ∧ ((tokenKind_0 ((tokens_0 - 1)) = 0) ∨ (tokenKind_0 ((tokens_0 - 1)) = 4))) := by
  first | with_reducible assumption | ((have f2_c0 := f2.1); (have f2_c1 := f2.2.1); (have f2_c2 := f2.2.2); (try and_intros) <;> first | with_reducible assumption | (clear f2_c2 f2 hK_0_1 hK_0_160 hK_0_162 hK_0_163 f4 f13; omega)) | ((have f2_c0 := f2.1); (have f2_c1 := f2.2.1); (have f2_c2 := f2.2.2); (first | have f4_b := f4 (by clear f2_c2 f2 hK_0_1 hK_0_160 hK_0_162 hK_0_163 f4 f13; omega) | skip); (first | have f13_b := f13 (by clear f2_c2 f2 hK_0_1 hK_0_160 hK_0_162 hK_0_163 f4 f13; omega) | skip); (first | have f4_d := f4 (by with_reducible assumption) | skip); (first | have f13_d := f13 (by with_reducible assumption) | skip); (try and_intros) <;> first | with_reducible assumption | (clear f2_c2 f2 hK_0_1 hK_0_160 hK_0_162 hK_0_163 f4 f13; omega)) | ((have f2_c0 := f2.1); (have f2_c1 := f2.2.1); (have f2_c2 := f2.2.2); (first | have f4_b := f4 (by clear f2_c2 f2 hK_0_1 hK_0_160 hK_0_162 hK_0_163 f4 f13; omega) | skip); (first | have f13_b := f13 (by clear f2_c2 f2 hK_0_1 hK_0_160 hK_0_162 hK_0_163 f4 f13; omega) | skip); (first | have f4_d := f4 (by with_reducible assumption) | skip); (first | have f13_d := f13 (by with_reducible assumption) | skip); (first | have f2_q := tk_nx0 f2 (by clear f2_c2 f2 hK_0_1 hK_0_160 hK_0_162 hK_0_163 f4 f13; omega) | skip); (try and_intros) <;> first | with_reducible assumption | (clear f2_c2 f2 hK_0_1 hK_0_160 hK_0_162 hK_0_163 f4 f13; omega)) | ((have f2_c0 := f2.1); (have f2_c1 := f2.2.1); (have f2_c2 := f2.2.2); (first | have f4_b := f4 (by clear f2_c2 f2 hK_0_1 hK_0_160 hK_0_162 hK_0_163 f4 f13; omega) | skip); (first | have f13_b := f13 (by clear f2_c2 f2 hK_0_1 hK_0_160 hK_0_162 hK_0_163 f4 f13; omega) | skip); (first | have f4_d := f4 (by with_reducible assumption) | skip); (first | have f13_d := f13 (by with_reducible assumption) | skip); (first | have f2_q := tk_nx0 f2 (by clear f2_c2 f2 hK_0_1 hK_0_160 hK_0_162 hK_0_163 f4 f13; omega) | skip); (first | have f2_r0 := tk_nx1 (c := cur_0) f2.2 (by clear f2_c2 f2 hK_0_1 hK_0_160 hK_0_162 hK_0_163 f4 f13; omega) (by clear f2_c2 f2 hK_0_1 hK_0_160 hK_0_162 hK_0_163 f4 f13; omega) | skip); (try and_intros) <;> first | with_reducible assumption | (clear f2_c2 f2 hK_0_1 hK_0_160 hK_0_162 hK_0_163 f4 f13; omega)) | omega
set_option maxHeartbeats 4000000 in
theorem vc_Mo_test_f_2_1 (k : Int) (hk0 : 0 ≤ k) (hk1 : k ≤ 12) (x1 : Int) (x2 : Int) (x3 : Int) (x6 : Int) (x7 : Int) (x9 : Int) (cur_0 : Int) (tokenKind_0 : Int → Int) (tokens_0 : Int) (styleKind_0 : Int) (styleOne_0 : Int) (opened_0 : Int) (tokenValue_0 : Int → Int) (tokenPlace_0 : Int → Int) (tokenEnd_0 : Int → Int) (tape_0 : Int → Int) (fault_0 : Int) (limit_0 : Int) (k1 : 0 ≤ x1 ∧ x1 ≤ 2009) (k2 : 0 ≤ x2 ∧ x2 ≤ 5) (k3 : 0 ≤ x3 ∧ x3 ≤ 13) (k6 : 0 ≤ x6 ∧ x6 ≤ 2009) (k7 : 0 ≤ x7 ∧ x7 ≤ 2010) (k9 : 0 ≤ x9 ∧ x9 ≤ 0) (g0 : x6 = cur_0) (f1 : x9 = 0) (f2 : ((cur_0 + 1) ≤ tokens_0) ∧ ((tokens_0 ≤ 2010) ∧ ((tokenKind_0 ((tokens_0 - 1)) = 0) ∨ (tokenKind_0 ((tokens_0 - 1)) = 4)))) (f3 : 1 * x1 + ((-1) * cur_0 + 0) ≤ 0) (f4 : (styleKind_0 = 0) → (styleOne_0 ≤ 23)) (f5 : 1 * opened_0 + 0 ≤ k) (f6 : (-1) * opened_0 + 0 ≤ ((-k))) (f7 : STL (fault_0) (cur_0) (styleKind_0) (limit_0) (tokenKind_0) (tokenValue_0) (tokenPlace_0) (tokenEnd_0) (tape_0) (x1) (x2) (x3)) (f8 : 1 * x3 + 0 ≤ k) (f9 : (-1) * x3 + 0 ≤ ((-k))) (f11 : 1 * x7 + (1 * cur_0 + 0) ≤ 2010) (f12 : (-1) * x7 + ((-1) * cur_0 + 0) ≤ (-2010)) (f13 : (x9 = 1) → (tokenKind_0 (cur_0) = 1)) (f14 : Wqor (fault_0) (cur_0) (limit_0) (tokenKind_0) (tokenPlace_0) (tokenEnd_0) (tape_0) (x9)) (f16 : 1 * x3 + 0 ≤ k) (f17 : (-1) * x3 + 0 ≤ ((-k))) (hK_0_1 : ∀ j : Int, 0 ≤ j → j < 2000 → (-128) ≤ tape_0 j ∧ tape_0 j ≤ 127) (hK_0_160 : ∀ j : Int, 0 ≤ j → j < 2010 → 0 ≤ tokenKind_0 j ∧ tokenKind_0 j ≤ 4) (hK_0_162 : ∀ j : Int, 0 ≤ j → j < 2010 → 0 ≤ tokenPlace_0 j ∧ tokenPlace_0 j ≤ 2000) (hK_0_163 : ∀ j : Int, 0 ≤ j → j < 2010 → 0 ≤ tokenEnd_0 j ∧ tokenEnd_0 j ≤ 2000) (kz_0_8 : 0 ≤ fault_0 ∧ fault_0 ≤ 5) (kz_0_10 : 0 ≤ limit_0 ∧ limit_0 ≤ 2000) (kz_0_157 : 0 ≤ tokens_0 ∧ tokens_0 ≤ 2010) (kz_0_158 : 0 ≤ cur_0 ∧ cur_0 ≤ 2009) (kz_0_159 : 0 ≤ opened_0 ∧ opened_0 ≤ 13) (kz_0_164 : 0 ≤ styleKind_0 ∧ styleKind_0 ≤ 1) (kz_0_165 : (-1) ≤ styleOne_0 ∧ styleOne_0 ≤ 47) : 1 * x1 + ((-1) * cur_0 + 0) ≤ 0 := by
  first | with_reducible assumption | ((have f2_c0 := f2.1); (have f2_c1 := f2.2.1); (have f2_c2 := f2.2.2); (try and_intros) <;> first | with_reducible assumption | (clear f2_c2 f2 hK_0_1 hK_0_160 hK_0_162 hK_0_163 f4 f13; omega)) | ((have f2_c0 := f2.1); (have f2_c1 := f2.2.1); (have f2_c2 := f2.2.2); (first | have f4_b := f4 (by clear f2_c2 f2 hK_0_1 hK_0_160 hK_0_162 hK_0_163 f4 f13; omega) | skip); (first | have f13_b := f13 (by clear f2_c2 f2 hK_0_1 hK_0_160 hK_0_162 hK_0_163 f4 f13; omega) | skip); (first | have f4_d := f4 (by with_reducible assumption) | skip); (first | have f13_d := f13 (by with_reducible assumption) | skip); (try and_intros) <;> first | with_reducible assumption | (clear f2_c2 f2 hK_0_1 hK_0_160 hK_0_162 hK_0_163 f4 f13; omega)) | ((have f2_c0 := f2.1); (have f2_c1 := f2.2.1); (have f2_c2 := f2.2.2); (first | have f4_b := f4 (by clear f2_c2 f2 hK_0_1 hK_0_160 hK_0_162 hK_0_163 f4 f13; omega) | skip); (first | have f13_b := f13 (by clear f2_c2 f2 hK_0_1 hK_0_160 hK_0_162 hK_0_163 f4 f13; omega) | skip); (first | have f4_d := f4 (by with_reducible assumption) | skip); (first | have f13_d := f13 (by with_reducible assumption) | skip); (first | have f2_q := tk_nx0 f2 (by clear f2_c2 f2 hK_0_1 hK_0_160 hK_0_162 hK_0_163 f4 f13; omega) | skip); (try and_intros) <;> first | with_reducible assumption | (clear f2_c2 f2 hK_0_1 hK_0_160 hK_0_162 hK_0_163 f4 f13; omega)) | ((have f2_c0 := f2.1); (have f2_c1 := f2.2.1); (have f2_c2 := f2.2.2); (first | have f4_b := f4 (by clear f2_c2 f2 hK_0_1 hK_0_160 hK_0_162 hK_0_163 f4 f13; omega) | skip); (first | have f13_b := f13 (by clear f2_c2 f2 hK_0_1 hK_0_160 hK_0_162 hK_0_163 f4 f13; omega) | skip); (first | have f4_d := f4 (by with_reducible assumption) | skip); (first | have f13_d := f13 (by with_reducible assumption) | skip); (first | have f2_q := tk_nx0 f2 (by clear f2_c2 f2 hK_0_1 hK_0_160 hK_0_162 hK_0_163 f4 f13; omega) | skip); (first | have f2_r0 := tk_nx1 (c := cur_0) f2.2 (by clear f2_c2 f2 hK_0_1 hK_0_160 hK_0_162 hK_0_163 f4 f13; omega) (by clear f2_c2 f2 hK_0_1 hK_0_160 hK_0_162 hK_0_163 f4 f13; omega) | skip); (try and_intros) <;> first | with_reducible assumption | (clear f2_c2 f2 hK_0_1 hK_0_160 hK_0_162 hK_0_163 f4 f13; omega)) | omega
set_option maxHeartbeats 4000000 in
theorem vc_Mo_test_f_2_2 (k : Int) (hk0 : 0 ≤ k) (hk1 : k ≤ 12) (x1 : Int) (x2 : Int) (x3 : Int) (x6 : Int) (x7 : Int) (x9 : Int) (cur_0 : Int) (tokenKind_0 : Int → Int) (tokens_0 : Int) (styleKind_0 : Int) (styleOne_0 : Int) (opened_0 : Int) (tokenValue_0 : Int → Int) (tokenPlace_0 : Int → Int) (tokenEnd_0 : Int → Int) (tape_0 : Int → Int) (fault_0 : Int) (limit_0 : Int) (k1 : 0 ≤ x1 ∧ x1 ≤ 2009) (k2 : 0 ≤ x2 ∧ x2 ≤ 5) (k3 : 0 ≤ x3 ∧ x3 ≤ 13) (k6 : 0 ≤ x6 ∧ x6 ≤ 2009) (k7 : 0 ≤ x7 ∧ x7 ≤ 2010) (k9 : 0 ≤ x9 ∧ x9 ≤ 0) (g0 : x6 = cur_0) (f1 : x9 = 0) (f2 : ((cur_0 + 1) ≤ tokens_0) ∧ ((tokens_0 ≤ 2010) ∧ ((tokenKind_0 ((tokens_0 - 1)) = 0) ∨ (tokenKind_0 ((tokens_0 - 1)) = 4)))) (f3 : 1 * x1 + ((-1) * cur_0 + 0) ≤ 0) (f4 : (styleKind_0 = 0) → (styleOne_0 ≤ 23)) (f5 : 1 * opened_0 + 0 ≤ k) (f6 : (-1) * opened_0 + 0 ≤ ((-k))) (f7 : STL (fault_0) (cur_0) (styleKind_0) (limit_0) (tokenKind_0) (tokenValue_0) (tokenPlace_0) (tokenEnd_0) (tape_0) (x1) (x2) (x3)) (f8 : 1 * x3 + 0 ≤ k) (f9 : (-1) * x3 + 0 ≤ ((-k))) (f11 : 1 * x7 + (1 * cur_0 + 0) ≤ 2010) (f12 : (-1) * x7 + ((-1) * cur_0 + 0) ≤ (-2010)) (f13 : (x9 = 1) → (tokenKind_0 (cur_0) = 1)) (f14 : Wqor (fault_0) (cur_0) (limit_0) (tokenKind_0) (tokenPlace_0) (tokenEnd_0) (tape_0) (x9)) (f16 : 1 * x3 + 0 ≤ k) (f17 : (-1) * x3 + 0 ≤ ((-k))) (hK_0_1 : ∀ j : Int, 0 ≤ j → j < 2000 → (-128) ≤ tape_0 j ∧ tape_0 j ≤ 127) (hK_0_160 : ∀ j : Int, 0 ≤ j → j < 2010 → 0 ≤ tokenKind_0 j ∧ tokenKind_0 j ≤ 4) (hK_0_162 : ∀ j : Int, 0 ≤ j → j < 2010 → 0 ≤ tokenPlace_0 j ∧ tokenPlace_0 j ≤ 2000) (hK_0_163 : ∀ j : Int, 0 ≤ j → j < 2010 → 0 ≤ tokenEnd_0 j ∧ tokenEnd_0 j ≤ 2000) (kz_0_8 : 0 ≤ fault_0 ∧ fault_0 ≤ 5) (kz_0_10 : 0 ≤ limit_0 ∧ limit_0 ≤ 2000) (kz_0_157 : 0 ≤ tokens_0 ∧ tokens_0 ≤ 2010) (kz_0_158 : 0 ≤ cur_0 ∧ cur_0 ≤ 2009) (kz_0_159 : 0 ≤ opened_0 ∧ opened_0 ≤ 13) (kz_0_164 : 0 ≤ styleKind_0 ∧ styleKind_0 ≤ 1) (kz_0_165 : (-1) ≤ styleOne_0 ∧ styleOne_0 ≤ 47) : 1 * opened_0 + 0 ≤ k := by
  first | with_reducible assumption | ((have f2_c0 := f2.1); (have f2_c1 := f2.2.1); (have f2_c2 := f2.2.2); (try and_intros) <;> first | with_reducible assumption | (clear f2_c2 f2 hK_0_1 hK_0_160 hK_0_162 hK_0_163 f4 f13; omega)) | ((have f2_c0 := f2.1); (have f2_c1 := f2.2.1); (have f2_c2 := f2.2.2); (first | have f4_b := f4 (by clear f2_c2 f2 hK_0_1 hK_0_160 hK_0_162 hK_0_163 f4 f13; omega) | skip); (first | have f13_b := f13 (by clear f2_c2 f2 hK_0_1 hK_0_160 hK_0_162 hK_0_163 f4 f13; omega) | skip); (first | have f4_d := f4 (by with_reducible assumption) | skip); (first | have f13_d := f13 (by with_reducible assumption) | skip); (try and_intros) <;> first | with_reducible assumption | (clear f2_c2 f2 hK_0_1 hK_0_160 hK_0_162 hK_0_163 f4 f13; omega)) | ((have f2_c0 := f2.1); (have f2_c1 := f2.2.1); (have f2_c2 := f2.2.2); (first | have f4_b := f4 (by clear f2_c2 f2 hK_0_1 hK_0_160 hK_0_162 hK_0_163 f4 f13; omega) | skip); (first | have f13_b := f13 (by clear f2_c2 f2 hK_0_1 hK_0_160 hK_0_162 hK_0_163 f4 f13; omega) | skip); (first | have f4_d := f4 (by with_reducible assumption) | skip); (first | have f13_d := f13 (by with_reducible assumption) | skip); (first | have f2_q := tk_nx0 f2 (by clear f2_c2 f2 hK_0_1 hK_0_160 hK_0_162 hK_0_163 f4 f13; omega) | skip); (try and_intros) <;> first | with_reducible assumption | (clear f2_c2 f2 hK_0_1 hK_0_160 hK_0_162 hK_0_163 f4 f13; omega)) | ((have f2_c0 := f2.1); (have f2_c1 := f2.2.1); (have f2_c2 := f2.2.2); (first | have f4_b := f4 (by clear f2_c2 f2 hK_0_1 hK_0_160 hK_0_162 hK_0_163 f4 f13; omega) | skip); (first | have f13_b := f13 (by clear f2_c2 f2 hK_0_1 hK_0_160 hK_0_162 hK_0_163 f4 f13; omega) | skip); (first | have f4_d := f4 (by with_reducible assumption) | skip); (first | have f13_d := f13 (by with_reducible assumption) | skip); (first | have f2_q := tk_nx0 f2 (by clear f2_c2 f2 hK_0_1 hK_0_160 hK_0_162 hK_0_163 f4 f13; omega) | skip); (first | have f2_r0 := tk_nx1 (c := cur_0) f2.2 (by clear f2_c2 f2 hK_0_1 hK_0_160 hK_0_162 hK_0_163 f4 f13; omega) (by clear f2_c2 f2 hK_0_1 hK_0_160 hK_0_162 hK_0_163 f4 f13; omega) | skip); (try and_intros) <;> first | with_reducible assumption | (clear f2_c2 f2 hK_0_1 hK_0_160 hK_0_162 hK_0_163 f4 f13; omega)) | omega
set_option maxHeartbeats 4000000 in
theorem vc_Mo_test_f_2_3 (k : Int) (hk0 : 0 ≤ k) (hk1 : k ≤ 12) (x1 : Int) (x2 : Int) (x3 : Int) (x6 : Int) (x7 : Int) (x9 : Int) (cur_0 : Int) (tokenKind_0 : Int → Int) (tokens_0 : Int) (styleKind_0 : Int) (styleOne_0 : Int) (opened_0 : Int) (tokenValue_0 : Int → Int) (tokenPlace_0 : Int → Int) (tokenEnd_0 : Int → Int) (tape_0 : Int → Int) (fault_0 : Int) (limit_0 : Int) (k1 : 0 ≤ x1 ∧ x1 ≤ 2009) (k2 : 0 ≤ x2 ∧ x2 ≤ 5) (k3 : 0 ≤ x3 ∧ x3 ≤ 13) (k6 : 0 ≤ x6 ∧ x6 ≤ 2009) (k7 : 0 ≤ x7 ∧ x7 ≤ 2010) (k9 : 0 ≤ x9 ∧ x9 ≤ 0) (g0 : x6 = cur_0) (f1 : x9 = 0) (f2 : ((cur_0 + 1) ≤ tokens_0) ∧ ((tokens_0 ≤ 2010) ∧ ((tokenKind_0 ((tokens_0 - 1)) = 0) ∨ (tokenKind_0 ((tokens_0 - 1)) = 4)))) (f3 : 1 * x1 + ((-1) * cur_0 + 0) ≤ 0) (f4 : (styleKind_0 = 0) → (styleOne_0 ≤ 23)) (f5 : 1 * opened_0 + 0 ≤ k) (f6 : (-1) * opened_0 + 0 ≤ ((-k))) (f7 : STL (fault_0) (cur_0) (styleKind_0) (limit_0) (tokenKind_0) (tokenValue_0) (tokenPlace_0) (tokenEnd_0) (tape_0) (x1) (x2) (x3)) (f8 : 1 * x3 + 0 ≤ k) (f9 : (-1) * x3 + 0 ≤ ((-k))) (f11 : 1 * x7 + (1 * cur_0 + 0) ≤ 2010) (f12 : (-1) * x7 + ((-1) * cur_0 + 0) ≤ (-2010)) (f13 : (x9 = 1) → (tokenKind_0 (cur_0) = 1)) (f14 : Wqor (fault_0) (cur_0) (limit_0) (tokenKind_0) (tokenPlace_0) (tokenEnd_0) (tape_0) (x9)) (f16 : 1 * x3 + 0 ≤ k) (f17 : (-1) * x3 + 0 ≤ ((-k))) (hK_0_1 : ∀ j : Int, 0 ≤ j → j < 2000 → (-128) ≤ tape_0 j ∧ tape_0 j ≤ 127) (hK_0_160 : ∀ j : Int, 0 ≤ j → j < 2010 → 0 ≤ tokenKind_0 j ∧ tokenKind_0 j ≤ 4) (hK_0_162 : ∀ j : Int, 0 ≤ j → j < 2010 → 0 ≤ tokenPlace_0 j ∧ tokenPlace_0 j ≤ 2000) (hK_0_163 : ∀ j : Int, 0 ≤ j → j < 2010 → 0 ≤ tokenEnd_0 j ∧ tokenEnd_0 j ≤ 2000) (kz_0_8 : 0 ≤ fault_0 ∧ fault_0 ≤ 5) (kz_0_10 : 0 ≤ limit_0 ∧ limit_0 ≤ 2000) (kz_0_157 : 0 ≤ tokens_0 ∧ tokens_0 ≤ 2010) (kz_0_158 : 0 ≤ cur_0 ∧ cur_0 ≤ 2009) (kz_0_159 : 0 ≤ opened_0 ∧ opened_0 ≤ 13) (kz_0_164 : 0 ≤ styleKind_0 ∧ styleKind_0 ≤ 1) (kz_0_165 : (-1) ≤ styleOne_0 ∧ styleOne_0 ≤ 47) : (-1) * opened_0 + 0 ≤ ((-k)) := by
  first | with_reducible assumption | ((have f2_c0 := f2.1); (have f2_c1 := f2.2.1); (have f2_c2 := f2.2.2); (try and_intros) <;> first | with_reducible assumption | (clear f2_c2 f2 hK_0_1 hK_0_160 hK_0_162 hK_0_163 f4 f13; omega)) | ((have f2_c0 := f2.1); (have f2_c1 := f2.2.1); (have f2_c2 := f2.2.2); (first | have f4_b := f4 (by clear f2_c2 f2 hK_0_1 hK_0_160 hK_0_162 hK_0_163 f4 f13; omega) | skip); (first | have f13_b := f13 (by clear f2_c2 f2 hK_0_1 hK_0_160 hK_0_162 hK_0_163 f4 f13; omega) | skip); (first | have f4_d := f4 (by with_reducible assumption) | skip); (first | have f13_d := f13 (by with_reducible assumption) | skip); (try and_intros) <;> first | with_reducible assumption | (clear f2_c2 f2 hK_0_1 hK_0_160 hK_0_162 hK_0_163 f4 f13; omega)) | ((have f2_c0 := f2.1); (have f2_c1 := f2.2.1); (have f2_c2 := f2.2.2); (first | have f4_b := f4 (by clear f2_c2 f2 hK_0_1 hK_0_160 hK_0_162 hK_0_163 f4 f13; omega) | skip); (first | have f13_b := f13 (by clear f2_c2 f2 hK_0_1 hK_0_160 hK_0_162 hK_0_163 f4 f13; omega) | skip); (first | have f4_d := f4 (by with_reducible assumption) | skip); (first | have f13_d := f13 (by with_reducible assumption) | skip); (first | have f2_q := tk_nx0 f2 (by clear f2_c2 f2 hK_0_1 hK_0_160 hK_0_162 hK_0_163 f4 f13; omega) | skip); (try and_intros) <;> first | with_reducible assumption | (clear f2_c2 f2 hK_0_1 hK_0_160 hK_0_162 hK_0_163 f4 f13; omega)) | ((have f2_c0 := f2.1); (have f2_c1 := f2.2.1); (have f2_c2 := f2.2.2); (first | have f4_b := f4 (by clear f2_c2 f2 hK_0_1 hK_0_160 hK_0_162 hK_0_163 f4 f13; omega) | skip); (first | have f13_b := f13 (by clear f2_c2 f2 hK_0_1 hK_0_160 hK_0_162 hK_0_163 f4 f13; omega) | skip); (first | have f4_d := f4 (by with_reducible assumption) | skip); (first | have f13_d := f13 (by with_reducible assumption) | skip); (first | have f2_q := tk_nx0 f2 (by clear f2_c2 f2 hK_0_1 hK_0_160 hK_0_162 hK_0_163 f4 f13; omega) | skip); (first | have f2_r0 := tk_nx1 (c := cur_0) f2.2 (by clear f2_c2 f2 hK_0_1 hK_0_160 hK_0_162 hK_0_163 f4 f13; omega) (by clear f2_c2 f2 hK_0_1 hK_0_160 hK_0_162 hK_0_163 f4 f13; omega) | skip); (try and_intros) <;> first | with_reducible assumption | (clear f2_c2 f2 hK_0_1 hK_0_160 hK_0_162 hK_0_163 f4 f13; omega)) | omega
set_option maxHeartbeats 4000000 in
theorem vc_Mo_test_f_2_4 (k : Int) (hk0 : 0 ≤ k) (hk1 : k ≤ 12) (x1 : Int) (x2 : Int) (x3 : Int) (x6 : Int) (x7 : Int) (x9 : Int) (cur_0 : Int) (tokenKind_0 : Int → Int) (tokens_0 : Int) (styleKind_0 : Int) (styleOne_0 : Int) (opened_0 : Int) (tokenValue_0 : Int → Int) (tokenPlace_0 : Int → Int) (tokenEnd_0 : Int → Int) (tape_0 : Int → Int) (fault_0 : Int) (limit_0 : Int) (k1 : 0 ≤ x1 ∧ x1 ≤ 2009) (k2 : 0 ≤ x2 ∧ x2 ≤ 5) (k3 : 0 ≤ x3 ∧ x3 ≤ 13) (k6 : 0 ≤ x6 ∧ x6 ≤ 2009) (k7 : 0 ≤ x7 ∧ x7 ≤ 2010) (k9 : 0 ≤ x9 ∧ x9 ≤ 0) (g0 : x6 = cur_0) (f1 : x9 = 0) (f2 : ((cur_0 + 1) ≤ tokens_0) ∧ ((tokens_0 ≤ 2010) ∧ ((tokenKind_0 ((tokens_0 - 1)) = 0) ∨ (tokenKind_0 ((tokens_0 - 1)) = 4)))) (f3 : 1 * x1 + ((-1) * cur_0 + 0) ≤ 0) (f4 : (styleKind_0 = 0) → (styleOne_0 ≤ 23)) (f5 : 1 * opened_0 + 0 ≤ k) (f6 : (-1) * opened_0 + 0 ≤ ((-k))) (f7 : STL (fault_0) (cur_0) (styleKind_0) (limit_0) (tokenKind_0) (tokenValue_0) (tokenPlace_0) (tokenEnd_0) (tape_0) (x1) (x2) (x3)) (f8 : 1 * x3 + 0 ≤ k) (f9 : (-1) * x3 + 0 ≤ ((-k))) (f11 : 1 * x7 + (1 * cur_0 + 0) ≤ 2010) (f12 : (-1) * x7 + ((-1) * cur_0 + 0) ≤ (-2010)) (f13 : (x9 = 1) → (tokenKind_0 (cur_0) = 1)) (f14 : Wqor (fault_0) (cur_0) (limit_0) (tokenKind_0) (tokenPlace_0) (tokenEnd_0) (tape_0) (x9)) (f16 : 1 * x3 + 0 ≤ k) (f17 : (-1) * x3 + 0 ≤ ((-k))) (hK_0_1 : ∀ j : Int, 0 ≤ j → j < 2000 → (-128) ≤ tape_0 j ∧ tape_0 j ≤ 127) (hK_0_160 : ∀ j : Int, 0 ≤ j → j < 2010 → 0 ≤ tokenKind_0 j ∧ tokenKind_0 j ≤ 4) (hK_0_162 : ∀ j : Int, 0 ≤ j → j < 2010 → 0 ≤ tokenPlace_0 j ∧ tokenPlace_0 j ≤ 2000) (hK_0_163 : ∀ j : Int, 0 ≤ j → j < 2010 → 0 ≤ tokenEnd_0 j ∧ tokenEnd_0 j ≤ 2000) (kz_0_8 : 0 ≤ fault_0 ∧ fault_0 ≤ 5) (kz_0_10 : 0 ≤ limit_0 ∧ limit_0 ≤ 2000) (kz_0_157 : 0 ≤ tokens_0 ∧ tokens_0 ≤ 2010) (kz_0_158 : 0 ≤ cur_0 ∧ cur_0 ≤ 2009) (kz_0_159 : 0 ≤ opened_0 ∧ opened_0 ≤ 13) (kz_0_164 : 0 ≤ styleKind_0 ∧ styleKind_0 ≤ 1) (kz_0_165 : (-1) ≤ styleOne_0 ∧ styleOne_0 ≤ 47) : STE (fault_0) (cur_0) (styleKind_0) (limit_0) (tokenKind_0) (tokenValue_0) (tokenPlace_0) (tokenEnd_0) (tape_0) (x1) (x2) (x3) := by
  first
    | exact ste_of (‹STL _ _ _ _ _ _ _ _ _ _ _ _›) (fun z y => wdq_n (‹Wqor _ _ _ _ _ _ _ _›) (by omega) ⟨z, y⟩) (by omega)
  
def o_Mo_test_f_2 (k : Int) : or_T := (48, 10, [(0, (2, 0, 0, [165])), (1, (0, 0, 2009, [])), (2, (0, 0, 5, [])), (3, (0, 0, 13, [])), (4, (2, 0, 0, [165])), (6, (0, 0, 2009, [])), (7, (0, 0, 2010, [])), (9, (0, 0, 0, []))], [(9, [6, 4], [158]), (8, [9], [0]), (20, [4], [50, 2, 1, 158, 157, 160, 2, 12, 0, 7, 4, 3, 2, 0, 158, 0, 1, 2, 0, 157, 2, 7, 0, 3, 2, 0, 157, 0, 2010, 3, 14, 1, 10, 3, 0, 160, 5, 3, 2, 0, 157, 0, 1, 0, 0, 1, 10, 3, 0, 160, 5, 3, 2, 0, 157, 0, 1, 0, 4]), (20, [1, 4], [30, 0, 1, 0, 0, -1, 1, 158]), (20, [4], [50, 2, 0, 164, 165, 4, 7, 1, 3, 2, 0, 164, 0, 0, 0, 3, 2, 0, 165, 0, 23]), (20, [4], [30, k, 1, 1, 159]), (20, [4], [30, (-k), -1, 1, 159]), (20, [4, 1, 2, 3], [60, 4, 5, 9, 8, 158, 164, 10, 160, 161, 162, 163, 1]), (23, [3], [k, 1]), (23, [3], [(-k), -1]), (24, [0, 4], []), (20, [7, 4], [30, 2010, 1, 0, 0, 1, 1, 158]), (20, [7, 4], [30, -2010, -1, 0, 0, -1, 1, 158]), (20, [9, 4], [50, 1, 1, 1158, 1160, 4, 6, 1, 2, 1, 0, 0, 1, 1, 6, 3, 1, 160, 2, 1, 158, 0, 1]), (20, [4, 9], [60, 3, 4, 25, 8, 158, 10, 160, 162, 163, 1]), (102, [8], [0]), (23, [3], [k, 1]), (23, [3], [(-k), -1])], [], [], [(20, [0], [50, 2, 1, 158, 157, 160, 2, 12, 0, 7, 4, 3, 2, 0, 158, 0, 1, 2, 0, 157, 2, 7, 0, 3, 2, 0, 157, 0, 2010, 3, 14, 1, 10, 3, 0, 160, 5, 3, 2, 0, 157, 0, 1, 0, 0, 1, 10, 3, 0, 160, 5, 3, 2, 0, 157, 0, 1, 0, 4]), (20, [1, 0], [30, 0, 1, 0, 0, -1, 1, 158]), (20, [0], [30, k, 1, 1, 159]), (20, [0], [30, (-k), -1, 1, 159]), (20, [0, 1, 2, 3], [60, 4, 5, 5, 8, 158, 164, 10, 160, 161, 162, 163, 1])], [], [])
theorem oo_Mo_test_f_2 {kA : Nat → ClassId} (k : Int) (hk0 : 0 ≤ k) (hk1 : k ≤ 12) : or_ok PRD kA GG (o_Mo_test_f_2 k) := by
  refine or_mk fun A ta ws vs hD hth hl => ?_
  intro t0 r0 t1 k1 t2 k2 t3 k3 t4 r4 t6 k6 t7 k7 t9 k9 f0 f1 f2 f3 f4 f5 f6 f7 f8 f9 f10 f11 f12 f13 f14 ta1 w1 le1 s1 f16 f17
  replace f0 := shm_286 f0
  replace f2 := shm_271 f2
  replace f3 := shm_281 f3
  replace f4 := shm_274 f4
  replace f5 := shm_275 f5
  replace f6 := shm_276 f6
  replace f7 := shm_339 f7
  replace f10 := shm_5 f10
  replace f11 := shm_284 f11
  replace f12 := shm_285 f12
  replace f13 := shm_287 f13
  replace f14 := shm_340 f14
  have q4 : n_v vs 4 = n_v vs 0 := f10.symm
  simp only [q4] at f0 f2 f3 f4 f5 f6 f7 f11 f12 f13 f14
  have cr_0_1 := fdq_39 hD hth r0
  have cr_0_160 := fdq_33 hD hth r0
  have cr_0_162 := fdq_41 hD hth r0
  have cr_0_163 := fdq_42 hD hth r0
  have g0 : v_iv (n_v vs 6) = w_fi ws (n_v vs 0) 158 := congrArg v_iv f0
  have hK_0_1 := elq_7 hD hth cr_0_1
  have hK_0_160 := elq_6 hD hth cr_0_160
  have hK_0_162 := elq_8 hD hth cr_0_162
  have hK_0_163 := elq_9 hD hth cr_0_163
  have kz_0_8 := fdq_34 hD hth r0
  have kz_0_10 := fdq_43 hD hth r0
  have kz_0_157 := fdq_35 hD hth r0
  have kz_0_158 := fdq_36 hD hth r0
  have kz_0_159 := fdq_37 hD hth r0
  have kz_0_164 := fdq_38 hD hth r0
  have kz_0_165 := fdq_27 hD hth r0
  have nf0 : fc_1 PRD (20, [0], [50, 2, 1, 158, 157, 160, 2, 12, 0, 7, 4, 3, 2, 0, 158, 0, 1, 2, 0, 157, 2, 7, 0, 3, 2, 0, 157, 0, 2010, 3, 14, 1, 10, 3, 0, 160, 5, 3, 2, 0, 157, 0, 1, 0, 0, 1, 10, 3, 0, 160, 5, 3, 2, 0, 157, 0, 1, 0, 4]) ws (vs) := ⟨nf_in hl rfl, sgq_271 (vc_Mo_test_f_2_0 k hk0 hk1 (v_iv (n_v vs 1)) (v_iv (n_v vs 2)) (v_iv (n_v vs 3)) (v_iv (n_v vs 6)) (v_iv (n_v vs 7)) (v_iv (n_v vs 9)) (w_fi ws (n_v vs 0) 158) (w_ei ws (w_ar ws (n_v vs 0) 160)) (w_fi ws (n_v vs 0) 157) (w_fi ws (n_v vs 0) 164) (w_fi ws (n_v vs 0) 165) (w_fi ws (n_v vs 0) 159) (w_ei ws (w_ar ws (n_v vs 0) 161)) (w_ei ws (w_ar ws (n_v vs 0) 162)) (w_ei ws (w_ar ws (n_v vs 0) 163)) (w_ei ws (w_ar ws (n_v vs 0) 1)) (w_fi ws (n_v vs 0) 8) (w_fi ws (n_v vs 0) 10) k1 k2 k3 k6 k7 k9 g0 (shm_192 f1) f2 f3 f4 f5 f6 f7 (shm_279 f8) (shm_280 f9) f11 f12 f13 f14 (shm_279 f16) (shm_280 f17) hK_0_1 hK_0_160 hK_0_162 hK_0_163 kz_0_8 kz_0_10 kz_0_157 kz_0_158 kz_0_159 kz_0_164 kz_0_165)⟩
  have nf1 : fc_1 PRD (20, [1, 0], [30, 0, 1, 0, 0, -1, 1, 158]) ws (vs) := ⟨nf_in hl rfl, sgq_281 (vc_Mo_test_f_2_1 k hk0 hk1 (v_iv (n_v vs 1)) (v_iv (n_v vs 2)) (v_iv (n_v vs 3)) (v_iv (n_v vs 6)) (v_iv (n_v vs 7)) (v_iv (n_v vs 9)) (w_fi ws (n_v vs 0) 158) (w_ei ws (w_ar ws (n_v vs 0) 160)) (w_fi ws (n_v vs 0) 157) (w_fi ws (n_v vs 0) 164) (w_fi ws (n_v vs 0) 165) (w_fi ws (n_v vs 0) 159) (w_ei ws (w_ar ws (n_v vs 0) 161)) (w_ei ws (w_ar ws (n_v vs 0) 162)) (w_ei ws (w_ar ws (n_v vs 0) 163)) (w_ei ws (w_ar ws (n_v vs 0) 1)) (w_fi ws (n_v vs 0) 8) (w_fi ws (n_v vs 0) 10) k1 k2 k3 k6 k7 k9 g0 (shm_192 f1) f2 f3 f4 f5 f6 f7 (shm_279 f8) (shm_280 f9) f11 f12 f13 f14 (shm_279 f16) (shm_280 f17) hK_0_1 hK_0_160 hK_0_162 hK_0_163 kz_0_8 kz_0_10 kz_0_157 kz_0_158 kz_0_159 kz_0_164 kz_0_165)⟩
  have nf2 : fc_1 PRD (20, [0], [30, k, 1, 1, 159]) ws (vs) := ⟨nf_in hl rfl, sgq_275 (vc_Mo_test_f_2_2 k hk0 hk1 (v_iv (n_v vs 1)) (v_iv (n_v vs 2)) (v_iv (n_v vs 3)) (v_iv (n_v vs 6)) (v_iv (n_v vs 7)) (v_iv (n_v vs 9)) (w_fi ws (n_v vs 0) 158) (w_ei ws (w_ar ws (n_v vs 0) 160)) (w_fi ws (n_v vs 0) 157) (w_fi ws (n_v vs 0) 164) (w_fi ws (n_v vs 0) 165) (w_fi ws (n_v vs 0) 159) (w_ei ws (w_ar ws (n_v vs 0) 161)) (w_ei ws (w_ar ws (n_v vs 0) 162)) (w_ei ws (w_ar ws (n_v vs 0) 163)) (w_ei ws (w_ar ws (n_v vs 0) 1)) (w_fi ws (n_v vs 0) 8) (w_fi ws (n_v vs 0) 10) k1 k2 k3 k6 k7 k9 g0 (shm_192 f1) f2 f3 f4 f5 f6 f7 (shm_279 f8) (shm_280 f9) f11 f12 f13 f14 (shm_279 f16) (shm_280 f17) hK_0_1 hK_0_160 hK_0_162 hK_0_163 kz_0_8 kz_0_10 kz_0_157 kz_0_158 kz_0_159 kz_0_164 kz_0_165)⟩
  have nf3 : fc_1 PRD (20, [0], [30, (-k), -1, 1, 159]) ws (vs) := ⟨nf_in hl rfl, sgq_276 (vc_Mo_test_f_2_3 k hk0 hk1 (v_iv (n_v vs 1)) (v_iv (n_v vs 2)) (v_iv (n_v vs 3)) (v_iv (n_v vs 6)) (v_iv (n_v vs 7)) (v_iv (n_v vs 9)) (w_fi ws (n_v vs 0) 158) (w_ei ws (w_ar ws (n_v vs 0) 160)) (w_fi ws (n_v vs 0) 157) (w_fi ws (n_v vs 0) 164) (w_fi ws (n_v vs 0) 165) (w_fi ws (n_v vs 0) 159) (w_ei ws (w_ar ws (n_v vs 0) 161)) (w_ei ws (w_ar ws (n_v vs 0) 162)) (w_ei ws (w_ar ws (n_v vs 0) 163)) (w_ei ws (w_ar ws (n_v vs 0) 1)) (w_fi ws (n_v vs 0) 8) (w_fi ws (n_v vs 0) 10) k1 k2 k3 k6 k7 k9 g0 (shm_192 f1) f2 f3 f4 f5 f6 f7 (shm_279 f8) (shm_280 f9) f11 f12 f13 f14 (shm_279 f16) (shm_280 f17) hK_0_1 hK_0_160 hK_0_162 hK_0_163 kz_0_8 kz_0_10 kz_0_157 kz_0_158 kz_0_159 kz_0_164 kz_0_165)⟩
  have nf4 : fc_1 PRD (20, [0, 1, 2, 3], [60, 4, 5, 5, 8, 158, 164, 10, 160, 161, 162, 163, 1]) ws (vs) := ⟨nf_in hl rfl, sgq_315 (vc_Mo_test_f_2_4 k hk0 hk1 (v_iv (n_v vs 1)) (v_iv (n_v vs 2)) (v_iv (n_v vs 3)) (v_iv (n_v vs 6)) (v_iv (n_v vs 7)) (v_iv (n_v vs 9)) (w_fi ws (n_v vs 0) 158) (w_ei ws (w_ar ws (n_v vs 0) 160)) (w_fi ws (n_v vs 0) 157) (w_fi ws (n_v vs 0) 164) (w_fi ws (n_v vs 0) 165) (w_fi ws (n_v vs 0) 159) (w_ei ws (w_ar ws (n_v vs 0) 161)) (w_ei ws (w_ar ws (n_v vs 0) 162)) (w_ei ws (w_ar ws (n_v vs 0) 163)) (w_ei ws (w_ar ws (n_v vs 0) 1)) (w_fi ws (n_v vs 0) 8) (w_fi ws (n_v vs 0) 10) k1 k2 k3 k6 k7 k9 g0 (shm_192 f1) f2 f3 f4 f5 f6 f7 (shm_279 f8) (shm_280 f9) f11 f12 f13 f14 (shm_279 f16) (shm_280 f17) hK_0_1 hK_0_160 hK_0_162 hK_0_163 kz_0_8 kz_0_10 kz_0_157 kz_0_158 kz_0_159 kz_0_164 kz_0_165)⟩
  refine ⟨(fun _ h => (by cases h)), [], trivial, ?_, (fun _ h => (by cases h))⟩
  rw [List.append_nil]
  exact List.forall_mem_cons.mpr ⟨⟨show (20 : Nat) < 100 from by decide, nf0⟩, List.forall_mem_cons.mpr ⟨⟨show (20 : Nat) < 100 from by decide, nf1⟩, List.forall_mem_cons.mpr ⟨⟨show (20 : Nat) < 100 from by decide, nf2⟩, List.forall_mem_cons.mpr ⟨⟨show (20 : Nat) < 100 from by decide, nf3⟩, List.forall_mem_cons.mpr ⟨⟨show (20 : Nat) < 100 from by decide, nf4⟩, (fun _ h => (by cases h))⟩⟩⟩⟩⟩
set_option maxHeartbeats 4000000 in
theorem vc_Mo_test_f_3_r0 (k : Int) (hk0 : 0 ≤ k) (hk1 : k ≤ 12) (x1 : Int) (x2 : Int) (x3 : Int) (x6 : Int) (x7 : Int) (x9 : Int) (x10 : Int) (x11 : Int) (cur_0 : Int) (tokenKind_0 : Int → Int) (tokens_0 : Int) (styleKind_0 : Int) (styleOne_0 : Int) (tokenValue_0 : Int → Int) (tokenPlace_0 : Int → Int) (tokenEnd_0 : Int → Int) (tape_0 : Int → Int) (fault_0 : Int) (limit_0 : Int) (k1 : 0 ≤ x1 ∧ x1 ≤ 2009) (k2 : 0 ≤ x2 ∧ x2 ≤ 5) (k3 : 0 ≤ x3 ∧ x3 ≤ 13) (k6 : 0 ≤ x6 ∧ x6 ≤ 2009) (k7 : 0 ≤ x7 ∧ x7 ≤ 2010) (k9 : 1 ≤ x9 ∧ x9 ≤ 1) (k10 : 1 ≤ x10 ∧ x10 ≤ 1) (k11 : 1 ≤ x11 ∧ x11 ≤ 2010) (d0 : x6 + 1 ≤ x11 ∧ x11 ≤ x6 + 1) (f0 : x11 = x6 + x10) (g1 : x6 = cur_0) (f2 : x9 ≠ 0) (f3 : ((cur_0 + 1) ≤ tokens_0) ∧ ((tokens_0 ≤ 2010) ∧ ((tokenKind_0 ((tokens_0 - 1)) = 0) ∨ (tokenKind_0 ((tokens_0 - 1)) = 4)))) (f4 : 1 * x1 + ((-1) * cur_0 + 0) ≤ 0) (f5 : (styleKind_0 = 0) → (styleOne_0 ≤ 23)) (f6 : STL (fault_0) (cur_0) (styleKind_0) (limit_0) (tokenKind_0) (tokenValue_0) (tokenPlace_0) (tokenEnd_0) (tape_0) (x1) (x2) (x3)) (f7 : 1 * x3 + 0 ≤ k) (f8 : (-1) * x3 + 0 ≤ ((-k))) (f10 : 1 * x7 + (1 * cur_0 + 0) ≤ 2010) (f11 : (-1) * x7 + ((-1) * cur_0 + 0) ≤ (-2010)) (f12 : (x9 = 1) → (tokenKind_0 (cur_0) = 1)) (f13 : Wqor (fault_0) (cur_0) (limit_0) (tokenKind_0) (tokenPlace_0) (tokenEnd_0) (tape_0) (x9)) (f15 : 1 * x3 + 0 ≤ k) (f16 : (-1) * x3 + 0 ≤ ((-k))) (hK_0_1 : ∀ j : Int, 0 ≤ j → j < 2000 → (-128) ≤ tape_0 j ∧ tape_0 j ≤ 127) (hK_0_160 : ∀ j : Int, 0 ≤ j → j < 2010 → 0 ≤ tokenKind_0 j ∧ tokenKind_0 j ≤ 4) (hK_0_162 : ∀ j : Int, 0 ≤ j → j < 2010 → 0 ≤ tokenPlace_0 j ∧ tokenPlace_0 j ≤ 2000) (hK_0_163 : ∀ j : Int, 0 ≤ j → j < 2010 → 0 ≤ tokenEnd_0 j ∧ tokenEnd_0 j ≤ 2000) (kz_0_8 : 0 ≤ fault_0 ∧ fault_0 ≤ 5) (kz_0_10 : 0 ≤ limit_0 ∧ limit_0 ≤ 2000) (kz_0_157 : 0 ≤ tokens_0 ∧ tokens_0 ≤ 2010) (kz_0_158 : 0 ≤ cur_0 ∧ cur_0 ≤ 2009) (kz_0_164 : 0 ≤ styleKind_0 ∧ styleKind_0 ≤ 1) (kz_0_165 : (-1) ≤ styleOne_0 ∧ styleOne_0 ≤ 47) : 1 ≤ x11 ∧ x11 ≤ 2009 := by
  first | with_reducible assumption | ((have f3_c0 := f3.1); (have f3_c1 := f3.2.1); (have f3_c2 := f3.2.2); (try and_intros) <;> first | with_reducible assumption | (clear f3_c2 f3 hK_0_1 hK_0_160 hK_0_162 hK_0_163 f5 f12; omega)) | ((have f3_c0 := f3.1); (have f3_c1 := f3.2.1); (have f3_c2 := f3.2.2); (first | have f5_b := f5 (by clear f3_c2 f3 hK_0_1 hK_0_160 hK_0_162 hK_0_163 f5 f12; omega) | skip); (first | have f12_b := f12 (by clear f3_c2 f3 hK_0_1 hK_0_160 hK_0_162 hK_0_163 f5 f12; omega) | skip); (first | have f5_d := f5 (by with_reducible assumption) | skip); (first | have f12_d := f12 (by with_reducible assumption) | skip); (try and_intros) <;> first | with_reducible assumption | (clear f3_c2 f3 hK_0_1 hK_0_160 hK_0_162 hK_0_163 f5 f12; omega)) | ((have f3_c0 := f3.1); (have f3_c1 := f3.2.1); (have f3_c2 := f3.2.2); (first | have f5_b := f5 (by clear f3_c2 f3 hK_0_1 hK_0_160 hK_0_162 hK_0_163 f5 f12; omega) | skip); (first | have f12_b := f12 (by clear f3_c2 f3 hK_0_1 hK_0_160 hK_0_162 hK_0_163 f5 f12; omega) | skip); (first | have f5_d := f5 (by with_reducible assumption) | skip); (first | have f12_d := f12 (by with_reducible assumption) | skip); (first | have f3_q := tk_nx0 f3 (by clear f3_c2 f3 hK_0_1 hK_0_160 hK_0_162 hK_0_163 f5 f12; omega) | skip); (try and_intros) <;> first | with_reducible assumption | (clear f3_c2 f3 hK_0_1 hK_0_160 hK_0_162 hK_0_163 f5 f12; omega)) | ((have f3_c0 := f3.1); (have f3_c1 := f3.2.1); (have f3_c2 := f3.2.2); (first | have f5_b := f5 (by clear f3_c2 f3 hK_0_1 hK_0_160 hK_0_162 hK_0_163 f5 f12; omega) | skip); (first | have f12_b := f12 (by clear f3_c2 f3 hK_0_1 hK_0_160 hK_0_162 hK_0_163 f5 f12; omega) | skip); (first | have f5_d := f5 (by with_reducible assumption) | skip); (first | have f12_d := f12 (by with_reducible assumption) | skip); (first | have f3_q := tk_nx0 f3 (by clear f3_c2 f3 hK_0_1 hK_0_160 hK_0_162 hK_0_163 f5 f12; omega) | skip); (first | have f3_r0 := tk_nx1 (c := cur_0) f3.2 (by clear f3_c2 f3 hK_0_1 hK_0_160 hK_0_162 hK_0_163 f5 f12; omega) (by clear f3_c2 f3 hK_0_1 hK_0_160 hK_0_162 hK_0_163 f5 f12; omega) | skip); (try and_intros) <;> first | with_reducible assumption | (clear f3_c2 f3 hK_0_1 hK_0_160 hK_0_162 hK_0_163 f5 f12; omega)) | omega
def o_Mo_test_f_3 (k : Int) : or_T := (22, 12, [(0, (2, 0, 0, [165])), (1, (0, 0, 2009, [])), (2, (0, 0, 5, [])), (3, (0, 0, 13, [])), (4, (2, 0, 0, [165])), (6, (0, 0, 2009, [])), (7, (0, 0, 2010, [])), (9, (0, 1, 1, [])), (10, (0, 1, 1, [])), (11, (0, 1, 2010, []))], [(1, [11, 6, 10], []), (9, [6, 4], [158]), (8, [9], [1]), (20, [4], [50, 2, 1, 158, 157, 160, 2, 12, 0, 7, 4, 3, 2, 0, 158, 0, 1, 2, 0, 157, 2, 7, 0, 3, 2, 0, 157, 0, 2010, 3, 14, 1, 10, 3, 0, 160, 5, 3, 2, 0, 157, 0, 1, 0, 0, 1, 10, 3, 0, 160, 5, 3, 2, 0, 157, 0, 1, 0, 4]), (20, [1, 4], [30, 0, 1, 0, 0, -1, 1, 158]), (20, [4], [50, 2, 0, 164, 165, 4, 7, 1, 3, 2, 0, 164, 0, 0, 0, 3, 2, 0, 165, 0, 23]), (20, [4, 1, 2, 3], [60, 4, 5, 9, 8, 158, 164, 10, 160, 161, 162, 163, 1]), (23, [3], [k, 1]), (23, [3], [(-k), -1]), (24, [0, 4], []), (20, [7, 4], [30, 2010, 1, 0, 0, 1, 1, 158]), (20, [7, 4], [30, -2010, -1, 0, 0, -1, 1, 158]), (20, [9, 4], [50, 1, 1, 1158, 1160, 4, 6, 1, 2, 1, 0, 0, 1, 1, 6, 3, 1, 160, 2, 1, 158, 0, 1]), (20, [4, 9], [60, 3, 4, 25, 8, 158, 10, 160, 162, 163, 1]), (102, [8], [0]), (23, [3], [k, 1]), (23, [3], [(-k), -1])], [(11, (0, 1, 2009, []))], [], [], [], [(11, 6, 1, 1)])
theorem oo_Mo_test_f_3 {kA : Nat → ClassId} (k : Int) (hk0 : 0 ≤ k) (hk1 : k ≤ 12) : or_ok PRD kA GG (o_Mo_test_f_3 k) := by
  refine or_mk fun A ta ws vs hD hth hl => ?_
  intro t0 r0 t1 k1 t2 k2 t3 k3 t4 r4 t6 k6 t7 k7 t9 k9 t10 k10 t11 k11 d0 f0 f1 f2 f3 f4 f5 f6 f7 f8 f9 f10 f11 f12 f13 ta1 w1 le1 s1 f15 f16
  replace f1 := shm_286 f1
  replace f3 := shm_271 f3
  replace f4 := shm_281 f4
  replace f5 := shm_274 f5
  replace f6 := shm_339 f6
  replace f9 := shm_5 f9
  replace f10 := shm_284 f10
  replace f11 := shm_285 f11
  replace f12 := shm_287 f12
  replace f13 := shm_340 f13
  have q4 : n_v vs 4 = n_v vs 0 := f9.symm
  simp only [q4] at f1 f3 f4 f5 f6 f10 f11 f12 f13
  have cr_0_1 := fdq_39 hD hth r0
  have cr_0_160 := fdq_33 hD hth r0
  have cr_0_162 := fdq_41 hD hth r0
  have cr_0_163 := fdq_42 hD hth r0
  have g1 : v_iv (n_v vs 6) = w_fi ws (n_v vs 0) 158 := congrArg v_iv f1
  have hK_0_1 := elq_7 hD hth cr_0_1
  have hK_0_160 := elq_6 hD hth cr_0_160
  have hK_0_162 := elq_8 hD hth cr_0_162
  have hK_0_163 := elq_9 hD hth cr_0_163
  have kz_0_8 := fdq_34 hD hth r0
  have kz_0_10 := fdq_43 hD hth r0
  have kz_0_157 := fdq_35 hD hth r0
  have kz_0_158 := fdq_36 hD hth r0
  have kz_0_164 := fdq_38 hD hth r0
  have kz_0_165 := fdq_27 hD hth r0
  have hrf0 : 1 ≤ v_iv (n_v vs 11) ∧ v_iv (n_v vs 11) ≤ 2009 := vc_Mo_test_f_3_r0 k hk0 hk1 (v_iv (n_v vs 1)) (v_iv (n_v vs 2)) (v_iv (n_v vs 3)) (v_iv (n_v vs 6)) (v_iv (n_v vs 7)) (v_iv (n_v vs 9)) (v_iv (n_v vs 10)) (v_iv (n_v vs 11)) (w_fi ws (n_v vs 0) 158) (w_ei ws (w_ar ws (n_v vs 0) 160)) (w_fi ws (n_v vs 0) 157) (w_fi ws (n_v vs 0) 164) (w_fi ws (n_v vs 0) 165) (w_ei ws (w_ar ws (n_v vs 0) 161)) (w_ei ws (w_ar ws (n_v vs 0) 162)) (w_ei ws (w_ar ws (n_v vs 0) 163)) (w_ei ws (w_ar ws (n_v vs 0) 1)) (w_fi ws (n_v vs 0) 8) (w_fi ws (n_v vs 0) 10) k1 k2 k3 k6 k7 k9 k10 k11 d0 (shm_12 f0) g1 (shm_142 f2) f3 f4 f5 f6 (shm_279 f7) (shm_280 f8) f10 f11 f12 f13 (shm_279 f15) (shm_280 f16) hK_0_1 hK_0_160 hK_0_162 hK_0_163 kz_0_8 kz_0_10 kz_0_157 kz_0_158 kz_0_164 kz_0_165
  have rf11 : tv_ok ta (0, 1, 2009, []) (n_v vs 11) := tv_in t11 (by first | omega | grind) (by first | omega | grind)
  refine ⟨List.forall_mem_cons.mpr ⟨rf11, (fun _ h => (by cases h))⟩, [], trivial, ?_, (fun _ h => (by cases h))⟩
  rw [List.append_nil]
  exact (fun _ h => (by cases h))
set_option maxHeartbeats 4000000 in
theorem vc_Mo_test_f_4_0 (k : Int) (hk0 : 0 ≤ k) (hk1 : k ≤ 12) (x1 : Int) (x2 : Int) (x3 : Int) (x6 : Int) (x7 : Int) (x9 : Int) (x10 : Int) (x11 : Int) (cur_0 : Int) (styleKind_0 : Int) (styleOne_0 : Int) (opened_0 : Int) (cur_1 : Int) (tokenKind_1 : Int → Int) (tokens_1 : Int) (styleKind_1 : Int) (styleOne_1 : Int) (opened_1 : Int) (tokenValue_1 : Int → Int) (tokenPlace_1 : Int → Int) (tokenEnd_1 : Int → Int) (tape_1 : Int → Int) (fault_1 : Int) (limit_1 : Int) (fault_0 : Int) (limit_0 : Int) (tokens_0 : Int) (tape_0 : Int → Int) (tokenKind_0 : Int → Int) (tokenValue_0 : Int → Int) (tokenPlace_0 : Int → Int) (tokenEnd_0 : Int → Int) (gx : Int) (gy : Int) (gu : Int) (k1 : 0 ≤ x1 ∧ x1 ≤ 2009) (k2 : 0 ≤ x2 ∧ x2 ≤ 5) (k3 : 0 ≤ x3 ∧ x3 ≤ 13) (k6 : 0 ≤ x6 ∧ x6 ≤ 2009) (k7 : 0 ≤ x7 ∧ x7 ≤ 2010) (k9 : 1 ≤ x9 ∧ x9 ≤ 1) (k10 : 1 ≤ x10 ∧ x10 ≤ 1) (k11 : 1 ≤ x11 ∧ x11 ≤ 2009) (d0 : x6 + 1 ≤ x11 ∧ x11 ≤ x6 + 1) (g0 : x11 = cur_0) (f1 : (styleKind_0 = 0) → (styleOne_0 ≤ 23)) (f2 : 1 * opened_0 + 0 ≤ k) (f3 : (-1) * opened_0 + 0 ≤ ((-k))) (f4 : 1 * x3 + 0 ≤ k) (f5 : (-1) * x3 + 0 ≤ ((-k))) (f8 : x11 = x6 + x10) (g9 : x6 = cur_1) (f10 : x9 ≠ 0) (f11 : ((cur_1 + 1) ≤ tokens_1) ∧ ((tokens_1 ≤ 2010) ∧ ((tokenKind_1 ((tokens_1 - 1)) = 0) ∨ (tokenKind_1 ((tokens_1 - 1)) = 4)))) (f12 : 1 * x1 + ((-1) * cur_1 + 0) ≤ 0) (f13 : (styleKind_1 = 0) → (styleOne_1 ≤ 23)) (f14 : 1 * opened_1 + 0 ≤ k) (f15 : (-1) * opened_1 + 0 ≤ ((-k))) (f16 : STL (fault_1) (cur_1) (styleKind_1) (limit_1) (tokenKind_1) (tokenValue_1) (tokenPlace_1) (tokenEnd_1) (tape_1) (x1) (x2) (x3)) (f17 : 1 * x3 + 0 ≤ k) (f18 : (-1) * x3 + 0 ≤ ((-k))) (f19 : 1 * x7 + (1 * cur_1 + 0) ≤ 2010) (f20 : (-1) * x7 + ((-1) * cur_1 + 0) ≤ (-2010)) (f21 : (x9 = 1) → (tokenKind_1 (cur_1) = 1)) (f22 : Wqor (fault_1) (cur_1) (limit_1) (tokenKind_1) (tokenPlace_1) (tokenEnd_1) (tape_1) (x9)) (f24 : 1 * x3 + 0 ≤ k) (f25 : (-1) * x3 + 0 ≤ ((-k))) (fe_0_8_1 : fault_0 = fault_1) (fe_0_10_1 : limit_0 = limit_1) (fe_0_157_1 : tokens_0 = tokens_1) (fe_0_158_1 : cur_0 = x11) (fe_0_159_1 : opened_0 = opened_1) (fe_0_164_1 : styleKind_0 = styleKind_1) (fe_0_165_1 : styleOne_0 = styleOne_1) (hE_0_1_1 : ∀ j : Int, tape_0 j = tape_1 j) (hK_0_1 : ∀ j : Int, 0 ≤ j → j < 2000 → (-128) ≤ tape_0 j ∧ tape_0 j ≤ 127) (hE_0_160_1 : ∀ j : Int, tokenKind_0 j = tokenKind_1 j) (hK_0_160 : ∀ j : Int, 0 ≤ j → j < 2010 → 0 ≤ tokenKind_0 j ∧ tokenKind_0 j ≤ 4) (hE_0_161_1 : ∀ j : Int, tokenValue_0 j = tokenValue_1 j) (hE_0_162_1 : ∀ j : Int, tokenPlace_0 j = tokenPlace_1 j) (hK_0_162 : ∀ j : Int, 0 ≤ j → j < 2010 → 0 ≤ tokenPlace_0 j ∧ tokenPlace_0 j ≤ 2000) (hE_0_163_1 : ∀ j : Int, tokenEnd_0 j = tokenEnd_1 j) (hK_0_163 : ∀ j : Int, 0 ≤ j → j < 2010 → 0 ≤ tokenEnd_0 j ∧ tokenEnd_0 j ≤ 2000) (kz_0_8 : 0 ≤ fault_0 ∧ fault_0 ≤ 5) (kz_0_10 : 0 ≤ limit_0 ∧ limit_0 ≤ 2000) (kz_0_157 : 0 ≤ tokens_0 ∧ tokens_0 ≤ 2010) (kz_0_158 : 0 ≤ cur_0 ∧ cur_0 ≤ 2009) (kz_0_159 : 0 ≤ opened_0 ∧ opened_0 ≤ 13) (kz_0_164 : 0 ≤ styleKind_0 ∧ styleKind_0 ≤ 1) (kz_0_165 : (-1) ≤ styleOne_0 ∧ styleOne_0 ≤ 47) (ex2 : gx = cur_0) (ex3 : 0 ≤ gx ∧ gx ≤ 2009) (ey2 : gy = fault_0) (ey3 : 0 ≤ gy ∧ gy ≤ 5) (eu2 : gu = opened_0) (eu3 : 0 ≤ gu ∧ gu ≤ 13) : ((cur_0 + 1) ≤ tokens_0) ∧ ((tokens_0 ≤ 2010) ∧ ((tokenKind_0 ((tokens_0 - 1)) = 0) ∨ (tokenKind_0 ((tokens_0 - 1)) = 4))) := by
  subst fe_0_8_1
  subst fe_0_10_1
  subst fe_0_157_1
  subst fe_0_159_1
  subst fe_0_164_1
  subst fe_0_165_1
  have e_hE_0_1_1 := funext hE_0_1_1; subst e_hE_0_1_1
  have e_hE_0_160_1 := funext hE_0_160_1; subst e_hE_0_160_1
  have e_hE_0_161_1 := funext hE_0_161_1; subst e_hE_0_161_1
  have e_hE_0_162_1 := funext hE_0_162_1; subst e_hE_0_162_1
  have e_hE_0_163_1 := funext hE_0_163_1; subst e_hE_0_163_1
  first | with_reducible assumption | ((have f11_c0 := f11.1); (have f11_c1 := f11.2.1); (have f11_c2 := f11.2.2); (try and_intros) <;> first | with_reducible assumption | (clear f11_c2 f11 hE_0_1_1 hK_0_1 hE_0_160_1 hK_0_160 hE_0_161_1 hE_0_162_1 hK_0_162 hE_0_163_1 hK_0_163 f1 f13 f21; omega)) | ((have f11_c0 := f11.1); (have f11_c1 := f11.2.1); (have f11_c2 := f11.2.2); (first | have f1_b := f1 (by clear f11_c2 f11 hE_0_1_1 hK_0_1 hE_0_160_1 hK_0_160 hE_0_161_1 hE_0_162_1 hK_0_162 hE_0_163_1 hK_0_163 f1 f13 f21; omega) | skip); (first | have f13_b := f13 (by clear f11_c2 f11 hE_0_1_1 hK_0_1 hE_0_160_1 hK_0_160 hE_0_161_1 hE_0_162_1 hK_0_162 hE_0_163_1 hK_0_163 f1 f13 f21; omega) | skip); (first | have f21_b := f21 (by clear f11_c2 f11 hE_0_1_1 hK_0_1 hE_0_160_1 hK_0_160 hE_0_161_1 hE_0_162_1 hK_0_162 hE_0_163_1 hK_0_163 f1 f13 f21; omega) | skip); (first | have f1_d := f1 (by with_reducible assumption) | skip); (first | have f13_d := f13 (by with_reducible assumption) | skip); (first | have f21_d := f21 (by with_reducible assumption) | skip); (try and_intros) <;> first | with_reducible assumption | (clear f11_c2 f11 hE_0_1_1 hK_0_1 hE_0_160_1 hK_0_160 hE_0_161_1 hE_0_162_1 hK_0_162 hE_0_163_1 hK_0_163 f1 f13 f21; omega)) | ((have f11_c0 := f11.1); (have f11_c1 := f11.2.1); (have f11_c2 := f11.2.2); (first | have f1_b := f1 (by clear f11_c2 f11 hE_0_1_1 hK_0_1 hE_0_160_1 hK_0_160 hE_0_161_1 hE_0_162_1 hK_0_162 hE_0_163_1 hK_0_163 f1 f13 f21; omega) | skip); (first | have f13_b := f13 (by clear f11_c2 f11 hE_0_1_1 hK_0_1 hE_0_160_1 hK_0_160 hE_0_161_1 hE_0_162_1 hK_0_162 hE_0_163_1 hK_0_163 f1 f13 f21; omega) | skip); (first | have f21_b := f21 (by clear f11_c2 f11 hE_0_1_1 hK_0_1 hE_0_160_1 hK_0_160 hE_0_161_1 hE_0_162_1 hK_0_162 hE_0_163_1 hK_0_163 f1 f13 f21; omega) | skip); (first | have f1_d := f1 (by with_reducible assumption) | skip); (first | have f13_d := f13 (by with_reducible assumption) | skip); (first | have f21_d := f21 (by with_reducible assumption) | skip); (first | have f11_q := tk_nx0 f11 (by clear f11_c2 f11 hE_0_1_1 hK_0_1 hE_0_160_1 hK_0_160 hE_0_161_1 hE_0_162_1 hK_0_162 hE_0_163_1 hK_0_163 f1 f13 f21; omega) | skip); (try and_intros) <;> first | with_reducible assumption | (clear f11_c2 f11 hE_0_1_1 hK_0_1 hE_0_160_1 hK_0_160 hE_0_161_1 hE_0_162_1 hK_0_162 hE_0_163_1 hK_0_163 f1 f13 f21; omega)) | ((have f11_c0 := f11.1); (have f11_c1 := f11.2.1); (have f11_c2 := f11.2.2); (first | have f1_b := f1 (by clear f11_c2 f11 hE_0_1_1 hK_0_1 hE_0_160_1 hK_0_160 hE_0_161_1 hE_0_162_1 hK_0_162 hE_0_163_1 hK_0_163 f1 f13 f21; omega) | skip); (first | have f13_b := f13 (by clear f11_c2 f11 hE_0_1_1 hK_0_1 hE_0_160_1 hK_0_160 hE_0_161_1 hE_0_162_1 hK_0_162 hE_0_163_1 hK_0_163 f1 f13 f21; omega) | skip); (first | have f21_b := f21 (by clear f11_c2 f11 hE_0_1_1 hK_0_1 hE_0_160_1 hK_0_160 hE_0_161_1 hE_0_162_1 hK_0_162 hE_0_163_1 hK_0_163 f1 f13 f21; omega) | skip); (first | have f1_d := f1 (by with_reducible assumption) | skip); (first | have f13_d := f13 (by with_reducible assumption) | skip); (first | have f21_d := f21 (by with_reducible assumption) | skip); (first | have f11_q := tk_nx0 f11 (by clear f11_c2 f11 hE_0_1_1 hK_0_1 hE_0_160_1 hK_0_160 hE_0_161_1 hE_0_162_1 hK_0_162 hE_0_163_1 hK_0_163 f1 f13 f21; omega) | skip); (first | have f11_r0 := tk_nx1 (c := cur_1) f11.2 (by clear f11_c2 f11 hE_0_1_1 hK_0_1 hE_0_160_1 hK_0_160 hE_0_161_1 hE_0_162_1 hK_0_162 hE_0_163_1 hK_0_163 f1 f13 f21; omega) (by clear f11_c2 f11 hE_0_1_1 hK_0_1 hE_0_160_1 hK_0_160 hE_0_161_1 hE_0_162_1 hK_0_162 hE_0_163_1 hK_0_163 f1 f13 f21; omega) | skip); (try and_intros) <;> first | with_reducible assumption | (clear f11_c2 f11 hE_0_1_1 hK_0_1 hE_0_160_1 hK_0_160 hE_0_161_1 hE_0_162_1 hK_0_162 hE_0_163_1 hK_0_163 f1 f13 f21; omega)) | omega
set_option maxHeartbeats 4000000 in
theorem vc_Mo_test_f_4_1 (k : Int) (hk0 : 0 ≤ k) (hk1 : k ≤ 12) (x1 : Int) (x2 : Int) (x3 : Int) (x6 : Int) (x7 : Int) (x9 : Int) (x10 : Int) (x11 : Int) (cur_0 : Int) (styleKind_0 : Int) (styleOne_0 : Int) (opened_0 : Int) (cur_1 : Int) (tokenKind_1 : Int → Int) (tokens_1 : Int) (styleKind_1 : Int) (styleOne_1 : Int) (opened_1 : Int) (tokenValue_1 : Int → Int) (tokenPlace_1 : Int → Int) (tokenEnd_1 : Int → Int) (tape_1 : Int → Int) (fault_1 : Int) (limit_1 : Int) (fault_0 : Int) (limit_0 : Int) (tokens_0 : Int) (tape_0 : Int → Int) (tokenKind_0 : Int → Int) (tokenValue_0 : Int → Int) (tokenPlace_0 : Int → Int) (tokenEnd_0 : Int → Int) (gx : Int) (gy : Int) (gu : Int) (k1 : 0 ≤ x1 ∧ x1 ≤ 2009) (k2 : 0 ≤ x2 ∧ x2 ≤ 5) (k3 : 0 ≤ x3 ∧ x3 ≤ 13) (k6 : 0 ≤ x6 ∧ x6 ≤ 2009) (k7 : 0 ≤ x7 ∧ x7 ≤ 2010) (k9 : 1 ≤ x9 ∧ x9 ≤ 1) (k10 : 1 ≤ x10 ∧ x10 ≤ 1) (k11 : 1 ≤ x11 ∧ x11 ≤ 2009) (d0 : x6 + 1 ≤ x11 ∧ x11 ≤ x6 + 1) (g0 : x11 = cur_0) (f1 : (styleKind_0 = 0) → (styleOne_0 ≤ 23)) (f2 : 1 * opened_0 + 0 ≤ k) (f3 : (-1) * opened_0 + 0 ≤ ((-k))) (f4 : 1 * x3 + 0 ≤ k) (f5 : (-1) * x3 + 0 ≤ ((-k))) (f8 : x11 = x6 + x10) (g9 : x6 = cur_1) (f10 : x9 ≠ 0) (f11 : ((cur_1 + 1) ≤ tokens_1) ∧ ((tokens_1 ≤ 2010) ∧ ((tokenKind_1 ((tokens_1 - 1)) = 0) ∨ (tokenKind_1 ((tokens_1 - 1)) = 4)))) (f12 : 1 * x1 + ((-1) * cur_1 + 0) ≤ 0) (f13 : (styleKind_1 = 0) → (styleOne_1 ≤ 23)) (f14 : 1 * opened_1 + 0 ≤ k) (f15 : (-1) * opened_1 + 0 ≤ ((-k))) (f16 : STL (fault_1) (cur_1) (styleKind_1) (limit_1) (tokenKind_1) (tokenValue_1) (tokenPlace_1) (tokenEnd_1) (tape_1) (x1) (x2) (x3)) (f17 : 1 * x3 + 0 ≤ k) (f18 : (-1) * x3 + 0 ≤ ((-k))) (f19 : 1 * x7 + (1 * cur_1 + 0) ≤ 2010) (f20 : (-1) * x7 + ((-1) * cur_1 + 0) ≤ (-2010)) (f21 : (x9 = 1) → (tokenKind_1 (cur_1) = 1)) (f22 : Wqor (fault_1) (cur_1) (limit_1) (tokenKind_1) (tokenPlace_1) (tokenEnd_1) (tape_1) (x9)) (f24 : 1 * x3 + 0 ≤ k) (f25 : (-1) * x3 + 0 ≤ ((-k))) (fe_0_8_1 : fault_0 = fault_1) (fe_0_10_1 : limit_0 = limit_1) (fe_0_157_1 : tokens_0 = tokens_1) (fe_0_158_1 : cur_0 = x11) (fe_0_159_1 : opened_0 = opened_1) (fe_0_164_1 : styleKind_0 = styleKind_1) (fe_0_165_1 : styleOne_0 = styleOne_1) (hE_0_1_1 : ∀ j : Int, tape_0 j = tape_1 j) (hK_0_1 : ∀ j : Int, 0 ≤ j → j < 2000 → (-128) ≤ tape_0 j ∧ tape_0 j ≤ 127) (hE_0_160_1 : ∀ j : Int, tokenKind_0 j = tokenKind_1 j) (hK_0_160 : ∀ j : Int, 0 ≤ j → j < 2010 → 0 ≤ tokenKind_0 j ∧ tokenKind_0 j ≤ 4) (hE_0_161_1 : ∀ j : Int, tokenValue_0 j = tokenValue_1 j) (hE_0_162_1 : ∀ j : Int, tokenPlace_0 j = tokenPlace_1 j) (hK_0_162 : ∀ j : Int, 0 ≤ j → j < 2010 → 0 ≤ tokenPlace_0 j ∧ tokenPlace_0 j ≤ 2000) (hE_0_163_1 : ∀ j : Int, tokenEnd_0 j = tokenEnd_1 j) (hK_0_163 : ∀ j : Int, 0 ≤ j → j < 2010 → 0 ≤ tokenEnd_0 j ∧ tokenEnd_0 j ≤ 2000) (kz_0_8 : 0 ≤ fault_0 ∧ fault_0 ≤ 5) (kz_0_10 : 0 ≤ limit_0 ∧ limit_0 ≤ 2000) (kz_0_157 : 0 ≤ tokens_0 ∧ tokens_0 ≤ 2010) (kz_0_158 : 0 ≤ cur_0 ∧ cur_0 ≤ 2009) (kz_0_159 : 0 ≤ opened_0 ∧ opened_0 ≤ 13) (kz_0_164 : 0 ≤ styleKind_0 ∧ styleKind_0 ≤ 1) (kz_0_165 : (-1) ≤ styleOne_0 ∧ styleOne_0 ≤ 47) (ex2 : gx = cur_0) (ex3 : 0 ≤ gx ∧ gx ≤ 2009) (ey2 : gy = fault_0) (ey3 : 0 ≤ gy ∧ gy ≤ 5) (eu2 : gu = opened_0) (eu3 : 0 ≤ gu ∧ gu ≤ 13) : 1 * cur_0 + ((-1) * gx + 0) ≤ 0 := by
  subst fe_0_8_1
  subst fe_0_10_1
  subst fe_0_157_1
  subst fe_0_159_1
  subst fe_0_164_1
  subst fe_0_165_1
  have e_hE_0_1_1 := funext hE_0_1_1; subst e_hE_0_1_1
  have e_hE_0_160_1 := funext hE_0_160_1; subst e_hE_0_160_1
  have e_hE_0_161_1 := funext hE_0_161_1; subst e_hE_0_161_1
  have e_hE_0_162_1 := funext hE_0_162_1; subst e_hE_0_162_1
  have e_hE_0_163_1 := funext hE_0_163_1; subst e_hE_0_163_1
  first | with_reducible assumption | ((have f11_c0 := f11.1); (have f11_c1 := f11.2.1); (have f11_c2 := f11.2.2); (try and_intros) <;> first | with_reducible assumption | (clear f11_c2 f11 hE_0_1_1 hK_0_1 hE_0_160_1 hK_0_160 hE_0_161_1 hE_0_162_1 hK_0_162 hE_0_163_1 hK_0_163 f1 f13 f21; omega)) | ((have f11_c0 := f11.1); (have f11_c1 := f11.2.1); (have f11_c2 := f11.2.2); (first | have f1_b := f1 (by clear f11_c2 f11 hE_0_1_1 hK_0_1 hE_0_160_1 hK_0_160 hE_0_161_1 hE_0_162_1 hK_0_162 hE_0_163_1 hK_0_163 f1 f13 f21; omega) | skip); (first | have f13_b := f13 (by clear f11_c2 f11 hE_0_1_1 hK_0_1 hE_0_160_1 hK_0_160 hE_0_161_1 hE_0_162_1 hK_0_162 hE_0_163_1 hK_0_163 f1 f13 f21; omega) | skip); (first | have f21_b := f21 (by clear f11_c2 f11 hE_0_1_1 hK_0_1 hE_0_160_1 hK_0_160 hE_0_161_1 hE_0_162_1 hK_0_162 hE_0_163_1 hK_0_163 f1 f13 f21; omega) | skip); (first | have f1_d := f1 (by with_reducible assumption) | skip); (first | have f13_d := f13 (by with_reducible assumption) | skip); (first | have f21_d := f21 (by with_reducible assumption) | skip); (try and_intros) <;> first | with_reducible assumption | (clear f11_c2 f11 hE_0_1_1 hK_0_1 hE_0_160_1 hK_0_160 hE_0_161_1 hE_0_162_1 hK_0_162 hE_0_163_1 hK_0_163 f1 f13 f21; omega)) | ((have f11_c0 := f11.1); (have f11_c1 := f11.2.1); (have f11_c2 := f11.2.2); (first | have f1_b := f1 (by clear f11_c2 f11 hE_0_1_1 hK_0_1 hE_0_160_1 hK_0_160 hE_0_161_1 hE_0_162_1 hK_0_162 hE_0_163_1 hK_0_163 f1 f13 f21; omega) | skip); (first | have f13_b := f13 (by clear f11_c2 f11 hE_0_1_1 hK_0_1 hE_0_160_1 hK_0_160 hE_0_161_1 hE_0_162_1 hK_0_162 hE_0_163_1 hK_0_163 f1 f13 f21; omega) | skip); (first | have f21_b := f21 (by clear f11_c2 f11 hE_0_1_1 hK_0_1 hE_0_160_1 hK_0_160 hE_0_161_1 hE_0_162_1 hK_0_162 hE_0_163_1 hK_0_163 f1 f13 f21; omega) | skip); (first | have f1_d := f1 (by with_reducible assumption) | skip); (first | have f13_d := f13 (by with_reducible assumption) | skip); (first | have f21_d := f21 (by with_reducible assumption) | skip); (first | have f11_q := tk_nx0 f11 (by clear f11_c2 f11 hE_0_1_1 hK_0_1 hE_0_160_1 hK_0_160 hE_0_161_1 hE_0_162_1 hK_0_162 hE_0_163_1 hK_0_163 f1 f13 f21; omega) | skip); (try and_intros) <;> first | with_reducible assumption | (clear f11_c2 f11 hE_0_1_1 hK_0_1 hE_0_160_1 hK_0_160 hE_0_161_1 hE_0_162_1 hK_0_162 hE_0_163_1 hK_0_163 f1 f13 f21; omega)) | ((have f11_c0 := f11.1); (have f11_c1 := f11.2.1); (have f11_c2 := f11.2.2); (first | have f1_b := f1 (by clear f11_c2 f11 hE_0_1_1 hK_0_1 hE_0_160_1 hK_0_160 hE_0_161_1 hE_0_162_1 hK_0_162 hE_0_163_1 hK_0_163 f1 f13 f21; omega) | skip); (first | have f13_b := f13 (by clear f11_c2 f11 hE_0_1_1 hK_0_1 hE_0_160_1 hK_0_160 hE_0_161_1 hE_0_162_1 hK_0_162 hE_0_163_1 hK_0_163 f1 f13 f21; omega) | skip); (first | have f21_b := f21 (by clear f11_c2 f11 hE_0_1_1 hK_0_1 hE_0_160_1 hK_0_160 hE_0_161_1 hE_0_162_1 hK_0_162 hE_0_163_1 hK_0_163 f1 f13 f21; omega) | skip); (first | have f1_d := f1 (by with_reducible assumption) | skip); (first | have f13_d := f13 (by with_reducible assumption) | skip); (first | have f21_d := f21 (by with_reducible assumption) | skip); (first | have f11_q := tk_nx0 f11 (by clear f11_c2 f11 hE_0_1_1 hK_0_1 hE_0_160_1 hK_0_160 hE_0_161_1 hE_0_162_1 hK_0_162 hE_0_163_1 hK_0_163 f1 f13 f21; omega) | skip); (first | have f11_r0 := tk_nx1 (c := cur_1) f11.2 (by clear f11_c2 f11 hE_0_1_1 hK_0_1 hE_0_160_1 hK_0_160 hE_0_161_1 hE_0_162_1 hK_0_162 hE_0_163_1 hK_0_163 f1 f13 f21; omega) (by clear f11_c2 f11 hE_0_1_1 hK_0_1 hE_0_160_1 hK_0_160 hE_0_161_1 hE_0_162_1 hK_0_162 hE_0_163_1 hK_0_163 f1 f13 f21; omega) | skip); (try and_intros) <;> first | with_reducible assumption | (clear f11_c2 f11 hE_0_1_1 hK_0_1 hE_0_160_1 hK_0_160 hE_0_161_1 hE_0_162_1 hK_0_162 hE_0_163_1 hK_0_163 f1 f13 f21; omega)) | omega
set_option maxHeartbeats 4000000 in
theorem vc_Mo_test_f_4_2 (k : Int) (hk0 : 0 ≤ k) (hk1 : k ≤ 12) (x1 : Int) (x2 : Int) (x3 : Int) (x6 : Int) (x7 : Int) (x9 : Int) (x10 : Int) (x11 : Int) (cur_0 : Int) (styleKind_0 : Int) (styleOne_0 : Int) (opened_0 : Int) (cur_1 : Int) (tokenKind_1 : Int → Int) (tokens_1 : Int) (styleKind_1 : Int) (styleOne_1 : Int) (opened_1 : Int) (tokenValue_1 : Int → Int) (tokenPlace_1 : Int → Int) (tokenEnd_1 : Int → Int) (tape_1 : Int → Int) (fault_1 : Int) (limit_1 : Int) (fault_0 : Int) (limit_0 : Int) (tokens_0 : Int) (tape_0 : Int → Int) (tokenKind_0 : Int → Int) (tokenValue_0 : Int → Int) (tokenPlace_0 : Int → Int) (tokenEnd_0 : Int → Int) (gx : Int) (gy : Int) (gu : Int) (k1 : 0 ≤ x1 ∧ x1 ≤ 2009) (k2 : 0 ≤ x2 ∧ x2 ≤ 5) (k3 : 0 ≤ x3 ∧ x3 ≤ 13) (k6 : 0 ≤ x6 ∧ x6 ≤ 2009) (k7 : 0 ≤ x7 ∧ x7 ≤ 2010) (k9 : 1 ≤ x9 ∧ x9 ≤ 1) (k10 : 1 ≤ x10 ∧ x10 ≤ 1) (k11 : 1 ≤ x11 ∧ x11 ≤ 2009) (d0 : x6 + 1 ≤ x11 ∧ x11 ≤ x6 + 1) (g0 : x11 = cur_0) (f1 : (styleKind_0 = 0) → (styleOne_0 ≤ 23)) (f2 : 1 * opened_0 + 0 ≤ k) (f3 : (-1) * opened_0 + 0 ≤ ((-k))) (f4 : 1 * x3 + 0 ≤ k) (f5 : (-1) * x3 + 0 ≤ ((-k))) (f8 : x11 = x6 + x10) (g9 : x6 = cur_1) (f10 : x9 ≠ 0) (f11 : ((cur_1 + 1) ≤ tokens_1) ∧ ((tokens_1 ≤ 2010) ∧ ((tokenKind_1 ((tokens_1 - 1)) = 0) ∨ (tokenKind_1 ((tokens_1 - 1)) = 4)))) (f12 : 1 * x1 + ((-1) * cur_1 + 0) ≤ 0) (f13 : (styleKind_1 = 0) → (styleOne_1 ≤ 23)) (f14 : 1 * opened_1 + 0 ≤ k) (f15 : (-1) * opened_1 + 0 ≤ ((-k))) (f16 : STL (fault_1) (cur_1) (styleKind_1) (limit_1) (tokenKind_1) (tokenValue_1) (tokenPlace_1) (tokenEnd_1) (tape_1) (x1) (x2) (x3)) (f17 : 1 * x3 + 0 ≤ k) (f18 : (-1) * x3 + 0 ≤ ((-k))) (f19 : 1 * x7 + (1 * cur_1 + 0) ≤ 2010) (f20 : (-1) * x7 + ((-1) * cur_1 + 0) ≤ (-2010)) (f21 : (x9 = 1) → (tokenKind_1 (cur_1) = 1)) (f22 : Wqor (fault_1) (cur_1) (limit_1) (tokenKind_1) (tokenPlace_1) (tokenEnd_1) (tape_1) (x9)) (f24 : 1 * x3 + 0 ≤ k) (f25 : (-1) * x3 + 0 ≤ ((-k))) (fe_0_8_1 : fault_0 = fault_1) (fe_0_10_1 : limit_0 = limit_1) (fe_0_157_1 : tokens_0 = tokens_1) (fe_0_158_1 : cur_0 = x11) (fe_0_159_1 : opened_0 = opened_1) (fe_0_164_1 : styleKind_0 = styleKind_1) (fe_0_165_1 : styleOne_0 = styleOne_1) (hE_0_1_1 : ∀ j : Int, tape_0 j = tape_1 j) (hK_0_1 : ∀ j : Int, 0 ≤ j → j < 2000 → (-128) ≤ tape_0 j ∧ tape_0 j ≤ 127) (hE_0_160_1 : ∀ j : Int, tokenKind_0 j = tokenKind_1 j) (hK_0_160 : ∀ j : Int, 0 ≤ j → j < 2010 → 0 ≤ tokenKind_0 j ∧ tokenKind_0 j ≤ 4) (hE_0_161_1 : ∀ j : Int, tokenValue_0 j = tokenValue_1 j) (hE_0_162_1 : ∀ j : Int, tokenPlace_0 j = tokenPlace_1 j) (hK_0_162 : ∀ j : Int, 0 ≤ j → j < 2010 → 0 ≤ tokenPlace_0 j ∧ tokenPlace_0 j ≤ 2000) (hE_0_163_1 : ∀ j : Int, tokenEnd_0 j = tokenEnd_1 j) (hK_0_163 : ∀ j : Int, 0 ≤ j → j < 2010 → 0 ≤ tokenEnd_0 j ∧ tokenEnd_0 j ≤ 2000) (kz_0_8 : 0 ≤ fault_0 ∧ fault_0 ≤ 5) (kz_0_10 : 0 ≤ limit_0 ∧ limit_0 ≤ 2000) (kz_0_157 : 0 ≤ tokens_0 ∧ tokens_0 ≤ 2010) (kz_0_158 : 0 ≤ cur_0 ∧ cur_0 ≤ 2009) (kz_0_159 : 0 ≤ opened_0 ∧ opened_0 ≤ 13) (kz_0_164 : 0 ≤ styleKind_0 ∧ styleKind_0 ≤ 1) (kz_0_165 : (-1) ≤ styleOne_0 ∧ styleOne_0 ≤ 47) (ex2 : gx = cur_0) (ex3 : 0 ≤ gx ∧ gx ≤ 2009) (ey2 : gy = fault_0) (ey3 : 0 ≤ gy ∧ gy ≤ 5) (eu2 : gu = opened_0) (eu3 : 0 ≤ gu ∧ gu ≤ 13) : (-1) * cur_0 + (1 * gx + 0) ≤ 0 := by
  subst fe_0_8_1
  subst fe_0_10_1
  subst fe_0_157_1
  subst fe_0_159_1
  subst fe_0_164_1
  subst fe_0_165_1
  have e_hE_0_1_1 := funext hE_0_1_1; subst e_hE_0_1_1
  have e_hE_0_160_1 := funext hE_0_160_1; subst e_hE_0_160_1
  have e_hE_0_161_1 := funext hE_0_161_1; subst e_hE_0_161_1
  have e_hE_0_162_1 := funext hE_0_162_1; subst e_hE_0_162_1
  have e_hE_0_163_1 := funext hE_0_163_1; subst e_hE_0_163_1
  first | with_reducible assumption | ((have f11_c0 := f11.1); (have f11_c1 := f11.2.1); (have f11_c2 := f11.2.2); (try and_intros) <;> first | with_reducible assumption | (clear f11_c2 f11 hE_0_1_1 hK_0_1 hE_0_160_1 hK_0_160 hE_0_161_1 hE_0_162_1 hK_0_162 hE_0_163_1 hK_0_163 f1 f13 f21; omega)) | ((have f11_c0 := f11.1); (have f11_c1 := f11.2.1); (have f11_c2 := f11.2.2); (first | have f1_b := f1 (by clear f11_c2 f11 hE_0_1_1 hK_0_1 hE_0_160_1 hK_0_160 hE_0_161_1 hE_0_162_1 hK_0_162 hE_0_163_1 hK_0_163 f1 f13 f21; omega) | skip); (first | have f13_b := f13 (by clear f11_c2 f11 hE_0_1_1 hK_0_1 hE_0_160_1 hK_0_160 hE_0_161_1 hE_0_162_1 hK_0_162 hE_0_163_1 hK_0_163 f1 f13 f21; omega) | skip); (first | have f21_b := f21 (by clear f11_c2 f11 hE_0_1_1 hK_0_1 hE_0_160_1 hK_0_160 hE_0_161_1 hE_0_162_1 hK_0_162 hE_0_163_1 hK_0_163 f1 f13 f21; omega) | skip); (first | have f1_d := f1 (by with_reducible assumption) | skip); (first | have f13_d := f13 (by with_reducible assumption) | skip); (first | have f21_d := f21 (by with_reducible assumption) | skip); (try and_intros) <;> first | with_reducible assumption | (clear f11_c2 f11 hE_0_1_1 hK_0_1 hE_0_160_1 hK_0_160 hE_0_161_1 hE_0_162_1 hK_0_162 hE_0_163_1 hK_0_163 f1 f13 f21; omega)) | ((have f11_c0 := f11.1); (have f11_c1 := f11.2.1); (have f11_c2 := f11.2.2); (first | have f1_b := f1 (by clear f11_c2 f11 hE_0_1_1 hK_0_1 hE_0_160_1 hK_0_160 hE_0_161_1 hE_0_162_1 hK_0_162 hE_0_163_1 hK_0_163 f1 f13 f21; omega) | skip); (first | have f13_b := f13 (by clear f11_c2 f11 hE_0_1_1 hK_0_1 hE_0_160_1 hK_0_160 hE_0_161_1 hE_0_162_1 hK_0_162 hE_0_163_1 hK_0_163 f1 f13 f21; omega) | skip); (first | have f21_b := f21 (by clear f11_c2 f11 hE_0_1_1 hK_0_1 hE_0_160_1 hK_0_160 hE_0_161_1 hE_0_162_1 hK_0_162 hE_0_163_1 hK_0_163 f1 f13 f21; omega) | skip); (first | have f1_d := f1 (by with_reducible assumption) | skip); (first | have f13_d := f13 (by with_reducible assumption) | skip); (first | have f21_d := f21 (by with_reducible assumption) | skip); (first | have f11_q := tk_nx0 f11 (by clear f11_c2 f11 hE_0_1_1 hK_0_1 hE_0_160_1 hK_0_160 hE_0_161_1 hE_0_162_1 hK_0_162 hE_0_163_1 hK_0_163 f1 f13 f21; omega) | skip); (try and_intros) <;> first | with_reducible assumption | (clear f11_c2 f11 hE_0_1_1 hK_0_1 hE_0_160_1 hK_0_160 hE_0_161_1 hE_0_162_1 hK_0_162 hE_0_163_1 hK_0_163 f1 f13 f21; omega)) | ((have f11_c0 := f11.1); (have f11_c1 := f11.2.1); (have f11_c2 := f11.2.2); (first | have f1_b := f1 (by clear f11_c2 f11 hE_0_1_1 hK_0_1 hE_0_160_1 hK_0_160 hE_0_161_1 hE_0_162_1 hK_0_162 hE_0_163_1 hK_0_163 f1 f13 f21; omega) | skip); (first | have f13_b := f13 (by clear f11_c2 f11 hE_0_1_1 hK_0_1 hE_0_160_1 hK_0_160 hE_0_161_1 hE_0_162_1 hK_0_162 hE_0_163_1 hK_0_163 f1 f13 f21; omega) | skip); (first | have f21_b := f21 (by clear f11_c2 f11 hE_0_1_1 hK_0_1 hE_0_160_1 hK_0_160 hE_0_161_1 hE_0_162_1 hK_0_162 hE_0_163_1 hK_0_163 f1 f13 f21; omega) | skip); (first | have f1_d := f1 (by with_reducible assumption) | skip); (first | have f13_d := f13 (by with_reducible assumption) | skip); (first | have f21_d := f21 (by with_reducible assumption) | skip); (first | have f11_q := tk_nx0 f11 (by clear f11_c2 f11 hE_0_1_1 hK_0_1 hE_0_160_1 hK_0_160 hE_0_161_1 hE_0_162_1 hK_0_162 hE_0_163_1 hK_0_163 f1 f13 f21; omega) | skip); (first | have f11_r0 := tk_nx1 (c := cur_1) f11.2 (by clear f11_c2 f11 hE_0_1_1 hK_0_1 hE_0_160_1 hK_0_160 hE_0_161_1 hE_0_162_1 hK_0_162 hE_0_163_1 hK_0_163 f1 f13 f21; omega) (by clear f11_c2 f11 hE_0_1_1 hK_0_1 hE_0_160_1 hK_0_160 hE_0_161_1 hE_0_162_1 hK_0_162 hE_0_163_1 hK_0_163 f1 f13 f21; omega) | skip); (try and_intros) <;> first | with_reducible assumption | (clear f11_c2 f11 hE_0_1_1 hK_0_1 hE_0_160_1 hK_0_160 hE_0_161_1 hE_0_162_1 hK_0_162 hE_0_163_1 hK_0_163 f1 f13 f21; omega)) | omega
set_option maxHeartbeats 4000000 in
theorem vc_Mo_test_f_4_3 (k : Int) (hk0 : 0 ≤ k) (hk1 : k ≤ 12) (x1 : Int) (x2 : Int) (x3 : Int) (x6 : Int) (x7 : Int) (x9 : Int) (x10 : Int) (x11 : Int) (cur_0 : Int) (styleKind_0 : Int) (styleOne_0 : Int) (opened_0 : Int) (cur_1 : Int) (tokenKind_1 : Int → Int) (tokens_1 : Int) (styleKind_1 : Int) (styleOne_1 : Int) (opened_1 : Int) (tokenValue_1 : Int → Int) (tokenPlace_1 : Int → Int) (tokenEnd_1 : Int → Int) (tape_1 : Int → Int) (fault_1 : Int) (limit_1 : Int) (fault_0 : Int) (limit_0 : Int) (tokens_0 : Int) (tape_0 : Int → Int) (tokenKind_0 : Int → Int) (tokenValue_0 : Int → Int) (tokenPlace_0 : Int → Int) (tokenEnd_0 : Int → Int) (gx : Int) (gy : Int) (gu : Int) (k1 : 0 ≤ x1 ∧ x1 ≤ 2009) (k2 : 0 ≤ x2 ∧ x2 ≤ 5) (k3 : 0 ≤ x3 ∧ x3 ≤ 13) (k6 : 0 ≤ x6 ∧ x6 ≤ 2009) (k7 : 0 ≤ x7 ∧ x7 ≤ 2010) (k9 : 1 ≤ x9 ∧ x9 ≤ 1) (k10 : 1 ≤ x10 ∧ x10 ≤ 1) (k11 : 1 ≤ x11 ∧ x11 ≤ 2009) (d0 : x6 + 1 ≤ x11 ∧ x11 ≤ x6 + 1) (g0 : x11 = cur_0) (f1 : (styleKind_0 = 0) → (styleOne_0 ≤ 23)) (f2 : 1 * opened_0 + 0 ≤ k) (f3 : (-1) * opened_0 + 0 ≤ ((-k))) (f4 : 1 * x3 + 0 ≤ k) (f5 : (-1) * x3 + 0 ≤ ((-k))) (f8 : x11 = x6 + x10) (g9 : x6 = cur_1) (f10 : x9 ≠ 0) (f11 : ((cur_1 + 1) ≤ tokens_1) ∧ ((tokens_1 ≤ 2010) ∧ ((tokenKind_1 ((tokens_1 - 1)) = 0) ∨ (tokenKind_1 ((tokens_1 - 1)) = 4)))) (f12 : 1 * x1 + ((-1) * cur_1 + 0) ≤ 0) (f13 : (styleKind_1 = 0) → (styleOne_1 ≤ 23)) (f14 : 1 * opened_1 + 0 ≤ k) (f15 : (-1) * opened_1 + 0 ≤ ((-k))) (f16 : STL (fault_1) (cur_1) (styleKind_1) (limit_1) (tokenKind_1) (tokenValue_1) (tokenPlace_1) (tokenEnd_1) (tape_1) (x1) (x2) (x3)) (f17 : 1 * x3 + 0 ≤ k) (f18 : (-1) * x3 + 0 ≤ ((-k))) (f19 : 1 * x7 + (1 * cur_1 + 0) ≤ 2010) (f20 : (-1) * x7 + ((-1) * cur_1 + 0) ≤ (-2010)) (f21 : (x9 = 1) → (tokenKind_1 (cur_1) = 1)) (f22 : Wqor (fault_1) (cur_1) (limit_1) (tokenKind_1) (tokenPlace_1) (tokenEnd_1) (tape_1) (x9)) (f24 : 1 * x3 + 0 ≤ k) (f25 : (-1) * x3 + 0 ≤ ((-k))) (fe_0_8_1 : fault_0 = fault_1) (fe_0_10_1 : limit_0 = limit_1) (fe_0_157_1 : tokens_0 = tokens_1) (fe_0_158_1 : cur_0 = x11) (fe_0_159_1 : opened_0 = opened_1) (fe_0_164_1 : styleKind_0 = styleKind_1) (fe_0_165_1 : styleOne_0 = styleOne_1) (hE_0_1_1 : ∀ j : Int, tape_0 j = tape_1 j) (hK_0_1 : ∀ j : Int, 0 ≤ j → j < 2000 → (-128) ≤ tape_0 j ∧ tape_0 j ≤ 127) (hE_0_160_1 : ∀ j : Int, tokenKind_0 j = tokenKind_1 j) (hK_0_160 : ∀ j : Int, 0 ≤ j → j < 2010 → 0 ≤ tokenKind_0 j ∧ tokenKind_0 j ≤ 4) (hE_0_161_1 : ∀ j : Int, tokenValue_0 j = tokenValue_1 j) (hE_0_162_1 : ∀ j : Int, tokenPlace_0 j = tokenPlace_1 j) (hK_0_162 : ∀ j : Int, 0 ≤ j → j < 2010 → 0 ≤ tokenPlace_0 j ∧ tokenPlace_0 j ≤ 2000) (hE_0_163_1 : ∀ j : Int, tokenEnd_0 j = tokenEnd_1 j) (hK_0_163 : ∀ j : Int, 0 ≤ j → j < 2010 → 0 ≤ tokenEnd_0 j ∧ tokenEnd_0 j ≤ 2000) (kz_0_8 : 0 ≤ fault_0 ∧ fault_0 ≤ 5) (kz_0_10 : 0 ≤ limit_0 ∧ limit_0 ≤ 2000) (kz_0_157 : 0 ≤ tokens_0 ∧ tokens_0 ≤ 2010) (kz_0_158 : 0 ≤ cur_0 ∧ cur_0 ≤ 2009) (kz_0_159 : 0 ≤ opened_0 ∧ opened_0 ≤ 13) (kz_0_164 : 0 ≤ styleKind_0 ∧ styleKind_0 ≤ 1) (kz_0_165 : (-1) ≤ styleOne_0 ∧ styleOne_0 ≤ 47) (ex2 : gx = cur_0) (ex3 : 0 ≤ gx ∧ gx ≤ 2009) (ey2 : gy = fault_0) (ey3 : 0 ≤ gy ∧ gy ≤ 5) (eu2 : gu = opened_0) (eu3 : 0 ≤ gu ∧ gu ≤ 13) : (styleKind_0 = 0) → (styleOne_0 ≤ 23) := by
  subst fe_0_8_1
  subst fe_0_10_1
  subst fe_0_157_1
  subst fe_0_159_1
  subst fe_0_164_1
  subst fe_0_165_1
  have e_hE_0_1_1 := funext hE_0_1_1; subst e_hE_0_1_1
  have e_hE_0_160_1 := funext hE_0_160_1; subst e_hE_0_160_1
  have e_hE_0_161_1 := funext hE_0_161_1; subst e_hE_0_161_1
  have e_hE_0_162_1 := funext hE_0_162_1; subst e_hE_0_162_1
  have e_hE_0_163_1 := funext hE_0_163_1; subst e_hE_0_163_1
  first | with_reducible assumption | ((have f11_c0 := f11.1); (have f11_c1 := f11.2.1); (have f11_c2 := f11.2.2); (try and_intros) <;> first | with_reducible assumption | (clear f11_c2 f11 hE_0_1_1 hK_0_1 hE_0_160_1 hK_0_160 hE_0_161_1 hE_0_162_1 hK_0_162 hE_0_163_1 hK_0_163 f1 f13 f21; omega)) | ((have f11_c0 := f11.1); (have f11_c1 := f11.2.1); (have f11_c2 := f11.2.2); (first | have f1_b := f1 (by clear f11_c2 f11 hE_0_1_1 hK_0_1 hE_0_160_1 hK_0_160 hE_0_161_1 hE_0_162_1 hK_0_162 hE_0_163_1 hK_0_163 f1 f13 f21; omega) | skip); (first | have f13_b := f13 (by clear f11_c2 f11 hE_0_1_1 hK_0_1 hE_0_160_1 hK_0_160 hE_0_161_1 hE_0_162_1 hK_0_162 hE_0_163_1 hK_0_163 f1 f13 f21; omega) | skip); (first | have f21_b := f21 (by clear f11_c2 f11 hE_0_1_1 hK_0_1 hE_0_160_1 hK_0_160 hE_0_161_1 hE_0_162_1 hK_0_162 hE_0_163_1 hK_0_163 f1 f13 f21; omega) | skip); (first | have f1_d := f1 (by with_reducible assumption) | skip); (first | have f13_d := f13 (by with_reducible assumption) | skip); (first | have f21_d := f21 (by with_reducible assumption) | skip); (try and_intros) <;> first | with_reducible assumption | (clear f11_c2 f11 hE_0_1_1 hK_0_1 hE_0_160_1 hK_0_160 hE_0_161_1 hE_0_162_1 hK_0_162 hE_0_163_1 hK_0_163 f1 f13 f21; omega)) | ((have f11_c0 := f11.1); (have f11_c1 := f11.2.1); (have f11_c2 := f11.2.2); (first | have f1_b := f1 (by clear f11_c2 f11 hE_0_1_1 hK_0_1 hE_0_160_1 hK_0_160 hE_0_161_1 hE_0_162_1 hK_0_162 hE_0_163_1 hK_0_163 f1 f13 f21; omega) | skip); (first | have f13_b := f13 (by clear f11_c2 f11 hE_0_1_1 hK_0_1 hE_0_160_1 hK_0_160 hE_0_161_1 hE_0_162_1 hK_0_162 hE_0_163_1 hK_0_163 f1 f13 f21; omega) | skip); (first | have f21_b := f21 (by clear f11_c2 f11 hE_0_1_1 hK_0_1 hE_0_160_1 hK_0_160 hE_0_161_1 hE_0_162_1 hK_0_162 hE_0_163_1 hK_0_163 f1 f13 f21; omega) | skip); (first | have f1_d := f1 (by with_reducible assumption) | skip); (first | have f13_d := f13 (by with_reducible assumption) | skip); (first | have f21_d := f21 (by with_reducible assumption) | skip); (first | have f11_q := tk_nx0 f11 (by clear f11_c2 f11 hE_0_1_1 hK_0_1 hE_0_160_1 hK_0_160 hE_0_161_1 hE_0_162_1 hK_0_162 hE_0_163_1 hK_0_163 f1 f13 f21; omega) | skip); (try and_intros) <;> first | with_reducible assumption | (clear f11_c2 f11 hE_0_1_1 hK_0_1 hE_0_160_1 hK_0_160 hE_0_161_1 hE_0_162_1 hK_0_162 hE_0_163_1 hK_0_163 f1 f13 f21; omega)) | ((have f11_c0 := f11.1); (have f11_c1 := f11.2.1); (have f11_c2 := f11.2.2); (first | have f1_b := f1 (by clear f11_c2 f11 hE_0_1_1 hK_0_1 hE_0_160_1 hK_0_160 hE_0_161_1 hE_0_162_1 hK_0_162 hE_0_163_1 hK_0_163 f1 f13 f21; omega) | skip); (first | have f13_b := f13 (by clear f11_c2 f11 hE_0_1_1 hK_0_1 hE_0_160_1 hK_0_160 hE_0_161_1 hE_0_162_1 hK_0_162 hE_0_163_1 hK_0_163 f1 f13 f21; omega) | skip); (first | have f21_b := f21 (by clear f11_c2 f11 hE_0_1_1 hK_0_1 hE_0_160_1 hK_0_160 hE_0_161_1 hE_0_162_1 hK_0_162 hE_0_163_1 hK_0_163 f1 f13 f21; omega) | skip); (first | have f1_d := f1 (by with_reducible assumption) | skip); (first | have f13_d := f13 (by with_reducible assumption) | skip); (first | have f21_d := f21 (by with_reducible assumption) | skip); (first | have f11_q := tk_nx0 f11 (by clear f11_c2 f11 hE_0_1_1 hK_0_1 hE_0_160_1 hK_0_160 hE_0_161_1 hE_0_162_1 hK_0_162 hE_0_163_1 hK_0_163 f1 f13 f21; omega) | skip); (first | have f11_r0 := tk_nx1 (c := cur_1) f11.2 (by clear f11_c2 f11 hE_0_1_1 hK_0_1 hE_0_160_1 hK_0_160 hE_0_161_1 hE_0_162_1 hK_0_162 hE_0_163_1 hK_0_163 f1 f13 f21; omega) (by clear f11_c2 f11 hE_0_1_1 hK_0_1 hE_0_160_1 hK_0_160 hE_0_161_1 hE_0_162_1 hK_0_162 hE_0_163_1 hK_0_163 f1 f13 f21; omega) | skip); (try and_intros) <;> first | with_reducible assumption | (clear f11_c2 f11 hE_0_1_1 hK_0_1 hE_0_160_1 hK_0_160 hE_0_161_1 hE_0_162_1 hK_0_162 hE_0_163_1 hK_0_163 f1 f13 f21; omega)) | (intro hG; (first | have f1_g := f1 hG | skip); (first | have f13_g := f13 hG | skip); (first | have f21_g := f21 hG | skip); (have f11_c0 := f11.1); (have f11_c1 := f11.2.1); (have f11_c2 := f11.2.2); (first | have f1_b := f1 (by clear f11_c2 f11 hE_0_1_1 hK_0_1 hE_0_160_1 hK_0_160 hE_0_161_1 hE_0_162_1 hK_0_162 hE_0_163_1 hK_0_163 f1 f13 f21; omega) | skip); (first | have f13_b := f13 (by clear f11_c2 f11 hE_0_1_1 hK_0_1 hE_0_160_1 hK_0_160 hE_0_161_1 hE_0_162_1 hK_0_162 hE_0_163_1 hK_0_163 f1 f13 f21; omega) | skip); (first | have f21_b := f21 (by clear f11_c2 f11 hE_0_1_1 hK_0_1 hE_0_160_1 hK_0_160 hE_0_161_1 hE_0_162_1 hK_0_162 hE_0_163_1 hK_0_163 f1 f13 f21; omega) | skip); (try and_intros) <;> first | with_reducible assumption | (clear f11_c2 f11 hE_0_1_1 hK_0_1 hE_0_160_1 hK_0_160 hE_0_161_1 hE_0_162_1 hK_0_162 hE_0_163_1 hK_0_163 f1 f13 f21 hG; omega)) | omega
set_option maxHeartbeats 4000000 in
theorem vc_Mo_test_f_4_4 (k : Int) (hk0 : 0 ≤ k) (hk1 : k ≤ 12) (x1 : Int) (x2 : Int) (x3 : Int) (x6 : Int) (x7 : Int) (x9 : Int) (x10 : Int) (x11 : Int) (cur_0 : Int) (styleKind_0 : Int) (styleOne_0 : Int) (opened_0 : Int) (cur_1 : Int) (tokenKind_1 : Int → Int) (tokens_1 : Int) (styleKind_1 : Int) (styleOne_1 : Int) (opened_1 : Int) (tokenValue_1 : Int → Int) (tokenPlace_1 : Int → Int) (tokenEnd_1 : Int → Int) (tape_1 : Int → Int) (fault_1 : Int) (limit_1 : Int) (fault_0 : Int) (limit_0 : Int) (tokens_0 : Int) (tape_0 : Int → Int) (tokenKind_0 : Int → Int) (tokenValue_0 : Int → Int) (tokenPlace_0 : Int → Int) (tokenEnd_0 : Int → Int) (gx : Int) (gy : Int) (gu : Int) (k1 : 0 ≤ x1 ∧ x1 ≤ 2009) (k2 : 0 ≤ x2 ∧ x2 ≤ 5) (k3 : 0 ≤ x3 ∧ x3 ≤ 13) (k6 : 0 ≤ x6 ∧ x6 ≤ 2009) (k7 : 0 ≤ x7 ∧ x7 ≤ 2010) (k9 : 1 ≤ x9 ∧ x9 ≤ 1) (k10 : 1 ≤ x10 ∧ x10 ≤ 1) (k11 : 1 ≤ x11 ∧ x11 ≤ 2009) (d0 : x6 + 1 ≤ x11 ∧ x11 ≤ x6 + 1) (g0 : x11 = cur_0) (f1 : (styleKind_0 = 0) → (styleOne_0 ≤ 23)) (f2 : 1 * opened_0 + 0 ≤ k) (f3 : (-1) * opened_0 + 0 ≤ ((-k))) (f4 : 1 * x3 + 0 ≤ k) (f5 : (-1) * x3 + 0 ≤ ((-k))) (f8 : x11 = x6 + x10) (g9 : x6 = cur_1) (f10 : x9 ≠ 0) (f11 : ((cur_1 + 1) ≤ tokens_1) ∧ ((tokens_1 ≤ 2010) ∧ ((tokenKind_1 ((tokens_1 - 1)) = 0) ∨ (tokenKind_1 ((tokens_1 - 1)) = 4)))) (f12 : 1 * x1 + ((-1) * cur_1 + 0) ≤ 0) (f13 : (styleKind_1 = 0) → (styleOne_1 ≤ 23)) (f14 : 1 * opened_1 + 0 ≤ k) (f15 : (-1) * opened_1 + 0 ≤ ((-k))) (f16 : STL (fault_1) (cur_1) (styleKind_1) (limit_1) (tokenKind_1) (tokenValue_1) (tokenPlace_1) (tokenEnd_1) (tape_1) (x1) (x2) (x3)) (f17 : 1 * x3 + 0 ≤ k) (f18 : (-1) * x3 + 0 ≤ ((-k))) (f19 : 1 * x7 + (1 * cur_1 + 0) ≤ 2010) (f20 : (-1) * x7 + ((-1) * cur_1 + 0) ≤ (-2010)) (f21 : (x9 = 1) → (tokenKind_1 (cur_1) = 1)) (f22 : Wqor (fault_1) (cur_1) (limit_1) (tokenKind_1) (tokenPlace_1) (tokenEnd_1) (tape_1) (x9)) (f24 : 1 * x3 + 0 ≤ k) (f25 : (-1) * x3 + 0 ≤ ((-k))) (fe_0_8_1 : fault_0 = fault_1) (fe_0_10_1 : limit_0 = limit_1) (fe_0_157_1 : tokens_0 = tokens_1) (fe_0_158_1 : cur_0 = x11) (fe_0_159_1 : opened_0 = opened_1) (fe_0_164_1 : styleKind_0 = styleKind_1) (fe_0_165_1 : styleOne_0 = styleOne_1) (hE_0_1_1 : ∀ j : Int, tape_0 j = tape_1 j) (hK_0_1 : ∀ j : Int, 0 ≤ j → j < 2000 → (-128) ≤ tape_0 j ∧ tape_0 j ≤ 127) (hE_0_160_1 : ∀ j : Int, tokenKind_0 j = tokenKind_1 j) (hK_0_160 : ∀ j : Int, 0 ≤ j → j < 2010 → 0 ≤ tokenKind_0 j ∧ tokenKind_0 j ≤ 4) (hE_0_161_1 : ∀ j : Int, tokenValue_0 j = tokenValue_1 j) (hE_0_162_1 : ∀ j : Int, tokenPlace_0 j = tokenPlace_1 j) (hK_0_162 : ∀ j : Int, 0 ≤ j → j < 2010 → 0 ≤ tokenPlace_0 j ∧ tokenPlace_0 j ≤ 2000) (hE_0_163_1 : ∀ j : Int, tokenEnd_0 j = tokenEnd_1 j) (hK_0_163 : ∀ j : Int, 0 ≤ j → j < 2010 → 0 ≤ tokenEnd_0 j ∧ tokenEnd_0 j ≤ 2000) (kz_0_8 : 0 ≤ fault_0 ∧ fault_0 ≤ 5) (kz_0_10 : 0 ≤ limit_0 ∧ limit_0 ≤ 2000) (kz_0_157 : 0 ≤ tokens_0 ∧ tokens_0 ≤ 2010) (kz_0_158 : 0 ≤ cur_0 ∧ cur_0 ≤ 2009) (kz_0_159 : 0 ≤ opened_0 ∧ opened_0 ≤ 13) (kz_0_164 : 0 ≤ styleKind_0 ∧ styleKind_0 ≤ 1) (kz_0_165 : (-1) ≤ styleOne_0 ∧ styleOne_0 ≤ 47) (ex2 : gx = cur_0) (ex3 : 0 ≤ gx ∧ gx ≤ 2009) (ey2 : gy = fault_0) (ey3 : 0 ≤ gy ∧ gy ≤ 5) (eu2 : gu = opened_0) (eu3 : 0 ≤ gu ∧ gu ≤ 13) : 1 * opened_0 + 0 ≤ k := by
  subst fe_0_8_1
  subst fe_0_10_1
  subst fe_0_157_1
  subst fe_0_159_1
  subst fe_0_164_1
  subst fe_0_165_1
  have e_hE_0_1_1 := funext hE_0_1_1; subst e_hE_0_1_1
  have e_hE_0_160_1 := funext hE_0_160_1; subst e_hE_0_160_1
  have e_hE_0_161_1 := funext hE_0_161_1; subst e_hE_0_161_1
  have e_hE_0_162_1 := funext hE_0_162_1; subst e_hE_0_162_1
  have e_hE_0_163_1 := funext hE_0_163_1; subst e_hE_0_163_1
  first | with_reducible assumption | ((have f11_c0 := f11.1); (have f11_c1 := f11.2.1); (have f11_c2 := f11.2.2); (try and_intros) <;> first | with_reducible assumption | (clear f11_c2 f11 hE_0_1_1 hK_0_1 hE_0_160_1 hK_0_160 hE_0_161_1 hE_0_162_1 hK_0_162 hE_0_163_1 hK_0_163 f1 f13 f21; omega)) | ((have f11_c0 := f11.1); (have f11_c1 := f11.2.1); (have f11_c2 := f11.2.2); (first | have f1_b := f1 (by clear f11_c2 f11 hE_0_1_1 hK_0_1 hE_0_160_1 hK_0_160 hE_0_161_1 hE_0_162_1 hK_0_162 hE_0_163_1 hK_0_163 f1 f13 f21; omega) | skip); (first | have f13_b := f13 (by clear f11_c2 f11 hE_0_1_1 hK_0_1 hE_0_160_1 hK_0_160 hE_0_161_1 hE_0_162_1 hK_0_162 hE_0_163_1 hK_0_163 f1 f13 f21; omega) | skip); (first | have f21_b := f21 (by clear f11_c2 f11 hE_0_1_1 hK_0_1 hE_0_160_1 hK_0_160 hE_0_161_1 hE_0_162_1 hK_0_162 hE_0_163_1 hK_0_163 f1 f13 f21; omega) | skip); (first | have f1_d := f1 (by with_reducible assumption) | skip); (first | have f13_d := f13 (by with_reducible assumption) | skip); (first | have f21_d := f21 (by with_reducible assumption) | skip); (try and_intros) <;> first | with_reducible assumption | (clear f11_c2 f11 hE_0_1_1 hK_0_1 hE_0_160_1 hK_0_160 hE_0_161_1 hE_0_162_1 hK_0_162 hE_0_163_1 hK_0_163 f1 f13 f21; omega)) | ((have f11_c0 := f11.1); (have f11_c1 := f11.2.1); (have f11_c2 := f11.2.2); (first | have f1_b := f1 (by clear f11_c2 f11 hE_0_1_1 hK_0_1 hE_0_160_1 hK_0_160 hE_0_161_1 hE_0_162_1 hK_0_162 hE_0_163_1 hK_0_163 f1 f13 f21; omega) | skip); (first | have f13_b := f13 (by clear f11_c2 f11 hE_0_1_1 hK_0_1 hE_0_160_1 hK_0_160 hE_0_161_1 hE_0_162_1 hK_0_162 hE_0_163_1 hK_0_163 f1 f13 f21; omega) | skip); (first | have f21_b := f21 (by clear f11_c2 f11 hE_0_1_1 hK_0_1 hE_0_160_1 hK_0_160 hE_0_161_1 hE_0_162_1 hK_0_162 hE_0_163_1 hK_0_163 f1 f13 f21; omega) | skip); (first | have f1_d := f1 (by with_reducible assumption) | skip); (first | have f13_d := f13 (by with_reducible assumption) | skip); (first | have f21_d := f21 (by with_reducible assumption) | skip); (first | have f11_q := tk_nx0 f11 (by clear f11_c2 f11 hE_0_1_1 hK_0_1 hE_0_160_1 hK_0_160 hE_0_161_1 hE_0_162_1 hK_0_162 hE_0_163_1 hK_0_163 f1 f13 f21; omega) | skip); (try and_intros) <;> first | with_reducible assumption | (clear f11_c2 f11 hE_0_1_1 hK_0_1 hE_0_160_1 hK_0_160 hE_0_161_1 hE_0_162_1 hK_0_162 hE_0_163_1 hK_0_163 f1 f13 f21; omega)) | ((have f11_c0 := f11.1); (have f11_c1 := f11.2.1); (have f11_c2 := f11.2.2); (first | have f1_b := f1 (by clear f11_c2 f11 hE_0_1_1 hK_0_1 hE_0_160_1 hK_0_160 hE_0_161_1 hE_0_162_1 hK_0_162 hE_0_163_1 hK_0_163 f1 f13 f21; omega) | skip); (first | have f13_b := f13 (by clear f11_c2 f11 hE_0_1_1 hK_0_1 hE_0_160_1 hK_0_160 hE_0_161_1 hE_0_162_1 hK_0_162 hE_0_163_1 hK_0_163 f1 f13 f21; omega) | skip); (first | have f21_b := f21 (by clear f11_c2 f11 hE_0_1_1 hK_0_1 hE_0_160_1 hK_0_160 hE_0_161_1 hE_0_162_1 hK_0_162 hE_0_163_1 hK_0_163 f1 f13 f21; omega) | skip); (first | have f1_d := f1 (by with_reducible assumption) | skip); (first | have f13_d := f13 (by with_reducible assumption) | skip); (first | have f21_d := f21 (by with_reducible assumption) | skip); (first | have f11_q := tk_nx0 f11 (by clear f11_c2 f11 hE_0_1_1 hK_0_1 hE_0_160_1 hK_0_160 hE_0_161_1 hE_0_162_1 hK_0_162 hE_0_163_1 hK_0_163 f1 f13 f21; omega) | skip); (first | have f11_r0 := tk_nx1 (c := cur_1) f11.2 (by clear f11_c2 f11 hE_0_1_1 hK_0_1 hE_0_160_1 hK_0_160 hE_0_161_1 hE_0_162_1 hK_0_162 hE_0_163_1 hK_0_163 f1 f13 f21; omega) (by clear f11_c2 f11 hE_0_1_1 hK_0_1 hE_0_160_1 hK_0_160 hE_0_161_1 hE_0_162_1 hK_0_162 hE_0_163_1 hK_0_163 f1 f13 f21; omega) | skip); (try and_intros) <;> first | with_reducible assumption | (clear f11_c2 f11 hE_0_1_1 hK_0_1 hE_0_160_1 hK_0_160 hE_0_161_1 hE_0_162_1 hK_0_162 hE_0_163_1 hK_0_163 f1 f13 f21; omega)) | omega
set_option maxHeartbeats 4000000 in
theorem vc_Mo_test_f_4_5 (k : Int) (hk0 : 0 ≤ k) (hk1 : k ≤ 12) (x1 : Int) (x2 : Int) (x3 : Int) (x6 : Int) (x7 : Int) (x9 : Int) (x10 : Int) (x11 : Int) (cur_0 : Int) (styleKind_0 : Int) (styleOne_0 : Int) (opened_0 : Int) (cur_1 : Int) (tokenKind_1 : Int → Int) (tokens_1 : Int) (styleKind_1 : Int) (styleOne_1 : Int) (opened_1 : Int) (tokenValue_1 : Int → Int) (tokenPlace_1 : Int → Int) (tokenEnd_1 : Int → Int) (tape_1 : Int → Int) (fault_1 : Int) (limit_1 : Int) (fault_0 : Int) (limit_0 : Int) (tokens_0 : Int) (tape_0 : Int → Int) (tokenKind_0 : Int → Int) (tokenValue_0 : Int → Int) (tokenPlace_0 : Int → Int) (tokenEnd_0 : Int → Int) (gx : Int) (gy : Int) (gu : Int) (k1 : 0 ≤ x1 ∧ x1 ≤ 2009) (k2 : 0 ≤ x2 ∧ x2 ≤ 5) (k3 : 0 ≤ x3 ∧ x3 ≤ 13) (k6 : 0 ≤ x6 ∧ x6 ≤ 2009) (k7 : 0 ≤ x7 ∧ x7 ≤ 2010) (k9 : 1 ≤ x9 ∧ x9 ≤ 1) (k10 : 1 ≤ x10 ∧ x10 ≤ 1) (k11 : 1 ≤ x11 ∧ x11 ≤ 2009) (d0 : x6 + 1 ≤ x11 ∧ x11 ≤ x6 + 1) (g0 : x11 = cur_0) (f1 : (styleKind_0 = 0) → (styleOne_0 ≤ 23)) (f2 : 1 * opened_0 + 0 ≤ k) (f3 : (-1) * opened_0 + 0 ≤ ((-k))) (f4 : 1 * x3 + 0 ≤ k) (f5 : (-1) * x3 + 0 ≤ ((-k))) (f8 : x11 = x6 + x10) (g9 : x6 = cur_1) (f10 : x9 ≠ 0) (f11 : ((cur_1 + 1) ≤ tokens_1) ∧ ((tokens_1 ≤ 2010) ∧ ((tokenKind_1 ((tokens_1 - 1)) = 0) ∨ (tokenKind_1 ((tokens_1 - 1)) = 4)))) (f12 : 1 * x1 + ((-1) * cur_1 + 0) ≤ 0) (f13 : (styleKind_1 = 0) → (styleOne_1 ≤ 23)) (f14 : 1 * opened_1 + 0 ≤ k) (f15 : (-1) * opened_1 + 0 ≤ ((-k))) (f16 : STL (fault_1) (cur_1) (styleKind_1) (limit_1) (tokenKind_1) (tokenValue_1) (tokenPlace_1) (tokenEnd_1) (tape_1) (x1) (x2) (x3)) (f17 : 1 * x3 + 0 ≤ k) (f18 : (-1) * x3 + 0 ≤ ((-k))) (f19 : 1 * x7 + (1 * cur_1 + 0) ≤ 2010) (f20 : (-1) * x7 + ((-1) * cur_1 + 0) ≤ (-2010)) (f21 : (x9 = 1) → (tokenKind_1 (cur_1) = 1)) (f22 : Wqor (fault_1) (cur_1) (limit_1) (tokenKind_1) (tokenPlace_1) (tokenEnd_1) (tape_1) (x9)) (f24 : 1 * x3 + 0 ≤ k) (f25 : (-1) * x3 + 0 ≤ ((-k))) (fe_0_8_1 : fault_0 = fault_1) (fe_0_10_1 : limit_0 = limit_1) (fe_0_157_1 : tokens_0 = tokens_1) (fe_0_158_1 : cur_0 = x11) (fe_0_159_1 : opened_0 = opened_1) (fe_0_164_1 : styleKind_0 = styleKind_1) (fe_0_165_1 : styleOne_0 = styleOne_1) (hE_0_1_1 : ∀ j : Int, tape_0 j = tape_1 j) (hK_0_1 : ∀ j : Int, 0 ≤ j → j < 2000 → (-128) ≤ tape_0 j ∧ tape_0 j ≤ 127) (hE_0_160_1 : ∀ j : Int, tokenKind_0 j = tokenKind_1 j) (hK_0_160 : ∀ j : Int, 0 ≤ j → j < 2010 → 0 ≤ tokenKind_0 j ∧ tokenKind_0 j ≤ 4) (hE_0_161_1 : ∀ j : Int, tokenValue_0 j = tokenValue_1 j) (hE_0_162_1 : ∀ j : Int, tokenPlace_0 j = tokenPlace_1 j) (hK_0_162 : ∀ j : Int, 0 ≤ j → j < 2010 → 0 ≤ tokenPlace_0 j ∧ tokenPlace_0 j ≤ 2000) (hE_0_163_1 : ∀ j : Int, tokenEnd_0 j = tokenEnd_1 j) (hK_0_163 : ∀ j : Int, 0 ≤ j → j < 2010 → 0 ≤ tokenEnd_0 j ∧ tokenEnd_0 j ≤ 2000) (kz_0_8 : 0 ≤ fault_0 ∧ fault_0 ≤ 5) (kz_0_10 : 0 ≤ limit_0 ∧ limit_0 ≤ 2000) (kz_0_157 : 0 ≤ tokens_0 ∧ tokens_0 ≤ 2010) (kz_0_158 : 0 ≤ cur_0 ∧ cur_0 ≤ 2009) (kz_0_159 : 0 ≤ opened_0 ∧ opened_0 ≤ 13) (kz_0_164 : 0 ≤ styleKind_0 ∧ styleKind_0 ≤ 1) (kz_0_165 : (-1) ≤ styleOne_0 ∧ styleOne_0 ≤ 47) (ex2 : gx = cur_0) (ex3 : 0 ≤ gx ∧ gx ≤ 2009) (ey2 : gy = fault_0) (ey3 : 0 ≤ gy ∧ gy ≤ 5) (eu2 : gu = opened_0) (eu3 : 0 ≤ gu ∧ gu ≤ 13) : (-1) * opened_0 + 0 ≤ ((-k)) := by
  subst fe_0_8_1
  subst fe_0_10_1
  subst fe_0_157_1
  subst fe_0_159_1
  subst fe_0_164_1
  subst fe_0_165_1
  have e_hE_0_1_1 := funext hE_0_1_1; subst e_hE_0_1_1
  have e_hE_0_160_1 := funext hE_0_160_1; subst e_hE_0_160_1
  have e_hE_0_161_1 := funext hE_0_161_1; subst e_hE_0_161_1
  have e_hE_0_162_1 := funext hE_0_162_1; subst e_hE_0_162_1
  have e_hE_0_163_1 := funext hE_0_163_1; subst e_hE_0_163_1
  first | with_reducible assumption | ((have f11_c0 := f11.1); (have f11_c1 := f11.2.1); (have f11_c2 := f11.2.2); (try and_intros) <;> first | with_reducible assumption | (clear f11_c2 f11 hE_0_1_1 hK_0_1 hE_0_160_1 hK_0_160 hE_0_161_1 hE_0_162_1 hK_0_162 hE_0_163_1 hK_0_163 f1 f13 f21; omega)) | ((have f11_c0 := f11.1); (have f11_c1 := f11.2.1); (have f11_c2 := f11.2.2); (first | have f1_b := f1 (by clear f11_c2 f11 hE_0_1_1 hK_0_1 hE_0_160_1 hK_0_160 hE_0_161_1 hE_0_162_1 hK_0_162 hE_0_163_1 hK_0_163 f1 f13 f21; omega) | skip); (first | have f13_b := f13 (by clear f11_c2 f11 hE_0_1_1 hK_0_1 hE_0_160_1 hK_0_160 hE_0_161_1 hE_0_162_1 hK_0_162 hE_0_163_1 hK_0_163 f1 f13 f21; omega) | skip); (first | have f21_b := f21 (by clear f11_c2 f11 hE_0_1_1 hK_0_1 hE_0_160_1 hK_0_160 hE_0_161_1 hE_0_162_1 hK_0_162 hE_0_163_1 hK_0_163 f1 f13 f21; omega) | skip); (first | have f1_d := f1 (by with_reducible assumption) | skip); (first | have f13_d := f13 (by with_reducible assumption) | skip); (first | have f21_d := f21 (by with_reducible assumption) | skip); (try and_intros) <;> first | with_reducible assumption | (clear f11_c2 f11 hE_0_1_1 hK_0_1 hE_0_160_1 hK_0_160 hE_0_161_1 hE_0_162_1 hK_0_162 hE_0_163_1 hK_0_163 f1 f13 f21; omega)) | ((have f11_c0 := f11.1); (have f11_c1 := f11.2.1); (have f11_c2 := f11.2.2); (first | have f1_b := f1 (by clear f11_c2 f11 hE_0_1_1 hK_0_1 hE_0_160_1 hK_0_160 hE_0_161_1 hE_0_162_1 hK_0_162 hE_0_163_1 hK_0_163 f1 f13 f21; omega) | skip); (first | have f13_b := f13 (by clear f11_c2 f11 hE_0_1_1 hK_0_1 hE_0_160_1 hK_0_160 hE_0_161_1 hE_0_162_1 hK_0_162 hE_0_163_1 hK_0_163 f1 f13 f21; omega) | skip); (first | have f21_b := f21 (by clear f11_c2 f11 hE_0_1_1 hK_0_1 hE_0_160_1 hK_0_160 hE_0_161_1 hE_0_162_1 hK_0_162 hE_0_163_1 hK_0_163 f1 f13 f21; omega) | skip); (first | have f1_d := f1 (by with_reducible assumption) | skip); (first | have f13_d := f13 (by with_reducible assumption) | skip); (first | have f21_d := f21 (by with_reducible assumption) | skip); (first | have f11_q := tk_nx0 f11 (by clear f11_c2 f11 hE_0_1_1 hK_0_1 hE_0_160_1 hK_0_160 hE_0_161_1 hE_0_162_1 hK_0_162 hE_0_163_1 hK_0_163 f1 f13 f21; omega) | skip); (try and_intros) <;> first | with_reducible assumption | (clear f11_c2 f11 hE_0_1_1 hK_0_1 hE_0_160_1 hK_0_160 hE_0_161_1 hE_0_162_1 hK_0_162 hE_0_163_1 hK_0_163 f1 f13 f21; omega)) | ((have f11_c0 := f11.1); (have f11_c1 := f11.2.1); (have f11_c2 := f11.2.2); (first | have f1_b := f1 (by clear f11_c2 f11 hE_0_1_1 hK_0_1 hE_0_160_1 hK_0_160 hE_0_161_1 hE_0_162_1 hK_0_162 hE_0_163_1 hK_0_163 f1 f13 f21; omega) | skip); (first | have f13_b := f13 (by clear f11_c2 f11 hE_0_1_1 hK_0_1 hE_0_160_1 hK_0_160 hE_0_161_1 hE_0_162_1 hK_0_162 hE_0_163_1 hK_0_163 f1 f13 f21; omega) | skip); (first | have f21_b := f21 (by clear f11_c2 f11 hE_0_1_1 hK_0_1 hE_0_160_1 hK_0_160 hE_0_161_1 hE_0_162_1 hK_0_162 hE_0_163_1 hK_0_163 f1 f13 f21; omega) | skip); (first | have f1_d := f1 (by with_reducible assumption) | skip); (first | have f13_d := f13 (by with_reducible assumption) | skip); (first | have f21_d := f21 (by with_reducible assumption) | skip); (first | have f11_q := tk_nx0 f11 (by clear f11_c2 f11 hE_0_1_1 hK_0_1 hE_0_160_1 hK_0_160 hE_0_161_1 hE_0_162_1 hK_0_162 hE_0_163_1 hK_0_163 f1 f13 f21; omega) | skip); (first | have f11_r0 := tk_nx1 (c := cur_1) f11.2 (by clear f11_c2 f11 hE_0_1_1 hK_0_1 hE_0_160_1 hK_0_160 hE_0_161_1 hE_0_162_1 hK_0_162 hE_0_163_1 hK_0_163 f1 f13 f21; omega) (by clear f11_c2 f11 hE_0_1_1 hK_0_1 hE_0_160_1 hK_0_160 hE_0_161_1 hE_0_162_1 hK_0_162 hE_0_163_1 hK_0_163 f1 f13 f21; omega) | skip); (try and_intros) <;> first | with_reducible assumption | (clear f11_c2 f11 hE_0_1_1 hK_0_1 hE_0_160_1 hK_0_160 hE_0_161_1 hE_0_162_1 hK_0_162 hE_0_163_1 hK_0_163 f1 f13 f21; omega)) | omega
set_option maxHeartbeats 4000000 in
theorem vc_Mo_test_f_4_6 (k : Int) (hk0 : 0 ≤ k) (hk1 : k ≤ 12) (x1 : Int) (x2 : Int) (x3 : Int) (x6 : Int) (x7 : Int) (x9 : Int) (x10 : Int) (x11 : Int) (cur_0 : Int) (styleKind_0 : Int) (styleOne_0 : Int) (opened_0 : Int) (cur_1 : Int) (tokenKind_1 : Int → Int) (tokens_1 : Int) (styleKind_1 : Int) (styleOne_1 : Int) (opened_1 : Int) (tokenValue_1 : Int → Int) (tokenPlace_1 : Int → Int) (tokenEnd_1 : Int → Int) (tape_1 : Int → Int) (fault_1 : Int) (limit_1 : Int) (fault_0 : Int) (limit_0 : Int) (tokens_0 : Int) (tape_0 : Int → Int) (tokenKind_0 : Int → Int) (tokenValue_0 : Int → Int) (tokenPlace_0 : Int → Int) (tokenEnd_0 : Int → Int) (gx : Int) (gy : Int) (gu : Int) (k1 : 0 ≤ x1 ∧ x1 ≤ 2009) (k2 : 0 ≤ x2 ∧ x2 ≤ 5) (k3 : 0 ≤ x3 ∧ x3 ≤ 13) (k6 : 0 ≤ x6 ∧ x6 ≤ 2009) (k7 : 0 ≤ x7 ∧ x7 ≤ 2010) (k9 : 1 ≤ x9 ∧ x9 ≤ 1) (k10 : 1 ≤ x10 ∧ x10 ≤ 1) (k11 : 1 ≤ x11 ∧ x11 ≤ 2009) (d0 : x6 + 1 ≤ x11 ∧ x11 ≤ x6 + 1) (g0 : x11 = cur_0) (f1 : (styleKind_0 = 0) → (styleOne_0 ≤ 23)) (f2 : 1 * opened_0 + 0 ≤ k) (f3 : (-1) * opened_0 + 0 ≤ ((-k))) (f4 : 1 * x3 + 0 ≤ k) (f5 : (-1) * x3 + 0 ≤ ((-k))) (f8 : x11 = x6 + x10) (g9 : x6 = cur_1) (f10 : x9 ≠ 0) (f11 : ((cur_1 + 1) ≤ tokens_1) ∧ ((tokens_1 ≤ 2010) ∧ ((tokenKind_1 ((tokens_1 - 1)) = 0) ∨ (tokenKind_1 ((tokens_1 - 1)) = 4)))) (f12 : 1 * x1 + ((-1) * cur_1 + 0) ≤ 0) (f13 : (styleKind_1 = 0) → (styleOne_1 ≤ 23)) (f14 : 1 * opened_1 + 0 ≤ k) (f15 : (-1) * opened_1 + 0 ≤ ((-k))) (f16 : STL (fault_1) (cur_1) (styleKind_1) (limit_1) (tokenKind_1) (tokenValue_1) (tokenPlace_1) (tokenEnd_1) (tape_1) (x1) (x2) (x3)) (f17 : 1 * x3 + 0 ≤ k) (f18 : (-1) * x3 + 0 ≤ ((-k))) (f19 : 1 * x7 + (1 * cur_1 + 0) ≤ 2010) (f20 : (-1) * x7 + ((-1) * cur_1 + 0) ≤ (-2010)) (f21 : (x9 = 1) → (tokenKind_1 (cur_1) = 1)) (f22 : Wqor (fault_1) (cur_1) (limit_1) (tokenKind_1) (tokenPlace_1) (tokenEnd_1) (tape_1) (x9)) (f24 : 1 * x3 + 0 ≤ k) (f25 : (-1) * x3 + 0 ≤ ((-k))) (fe_0_8_1 : fault_0 = fault_1) (fe_0_10_1 : limit_0 = limit_1) (fe_0_157_1 : tokens_0 = tokens_1) (fe_0_158_1 : cur_0 = x11) (fe_0_159_1 : opened_0 = opened_1) (fe_0_164_1 : styleKind_0 = styleKind_1) (fe_0_165_1 : styleOne_0 = styleOne_1) (hE_0_1_1 : ∀ j : Int, tape_0 j = tape_1 j) (hK_0_1 : ∀ j : Int, 0 ≤ j → j < 2000 → (-128) ≤ tape_0 j ∧ tape_0 j ≤ 127) (hE_0_160_1 : ∀ j : Int, tokenKind_0 j = tokenKind_1 j) (hK_0_160 : ∀ j : Int, 0 ≤ j → j < 2010 → 0 ≤ tokenKind_0 j ∧ tokenKind_0 j ≤ 4) (hE_0_161_1 : ∀ j : Int, tokenValue_0 j = tokenValue_1 j) (hE_0_162_1 : ∀ j : Int, tokenPlace_0 j = tokenPlace_1 j) (hK_0_162 : ∀ j : Int, 0 ≤ j → j < 2010 → 0 ≤ tokenPlace_0 j ∧ tokenPlace_0 j ≤ 2000) (hE_0_163_1 : ∀ j : Int, tokenEnd_0 j = tokenEnd_1 j) (hK_0_163 : ∀ j : Int, 0 ≤ j → j < 2010 → 0 ≤ tokenEnd_0 j ∧ tokenEnd_0 j ≤ 2000) (kz_0_8 : 0 ≤ fault_0 ∧ fault_0 ≤ 5) (kz_0_10 : 0 ≤ limit_0 ∧ limit_0 ≤ 2000) (kz_0_157 : 0 ≤ tokens_0 ∧ tokens_0 ≤ 2010) (kz_0_158 : 0 ≤ cur_0 ∧ cur_0 ≤ 2009) (kz_0_159 : 0 ≤ opened_0 ∧ opened_0 ≤ 13) (kz_0_164 : 0 ≤ styleKind_0 ∧ styleKind_0 ≤ 1) (kz_0_165 : (-1) ≤ styleOne_0 ∧ styleOne_0 ≤ 47) (ex2 : gx = cur_0) (ex3 : 0 ≤ gx ∧ gx ≤ 2009) (ey2 : gy = fault_0) (ey3 : 0 ≤ gy ∧ gy ≤ 5) (eu2 : gu = opened_0) (eu3 : 0 ≤ gu ∧ gu ≤ 13) : fault_0 = gy := by
  subst fe_0_8_1
  subst fe_0_10_1
  subst fe_0_157_1
  subst fe_0_159_1
  subst fe_0_164_1
  subst fe_0_165_1
  have e_hE_0_1_1 := funext hE_0_1_1; subst e_hE_0_1_1
  have e_hE_0_160_1 := funext hE_0_160_1; subst e_hE_0_160_1
  have e_hE_0_161_1 := funext hE_0_161_1; subst e_hE_0_161_1
  have e_hE_0_162_1 := funext hE_0_162_1; subst e_hE_0_162_1
  have e_hE_0_163_1 := funext hE_0_163_1; subst e_hE_0_163_1
  first | with_reducible assumption | ((have f11_c0 := f11.1); (have f11_c1 := f11.2.1); (have f11_c2 := f11.2.2); (try and_intros) <;> first | with_reducible assumption | (clear f11_c2 f11 hE_0_1_1 hK_0_1 hE_0_160_1 hK_0_160 hE_0_161_1 hE_0_162_1 hK_0_162 hE_0_163_1 hK_0_163 f1 f13 f21; omega)) | ((have f11_c0 := f11.1); (have f11_c1 := f11.2.1); (have f11_c2 := f11.2.2); (first | have f1_b := f1 (by clear f11_c2 f11 hE_0_1_1 hK_0_1 hE_0_160_1 hK_0_160 hE_0_161_1 hE_0_162_1 hK_0_162 hE_0_163_1 hK_0_163 f1 f13 f21; omega) | skip); (first | have f13_b := f13 (by clear f11_c2 f11 hE_0_1_1 hK_0_1 hE_0_160_1 hK_0_160 hE_0_161_1 hE_0_162_1 hK_0_162 hE_0_163_1 hK_0_163 f1 f13 f21; omega) | skip); (first | have f21_b := f21 (by clear f11_c2 f11 hE_0_1_1 hK_0_1 hE_0_160_1 hK_0_160 hE_0_161_1 hE_0_162_1 hK_0_162 hE_0_163_1 hK_0_163 f1 f13 f21; omega) | skip); (first | have f1_d := f1 (by with_reducible assumption) | skip); (first | have f13_d := f13 (by with_reducible assumption) | skip); (first | have f21_d := f21 (by with_reducible assumption) | skip); (try and_intros) <;> first | with_reducible assumption | (clear f11_c2 f11 hE_0_1_1 hK_0_1 hE_0_160_1 hK_0_160 hE_0_161_1 hE_0_162_1 hK_0_162 hE_0_163_1 hK_0_163 f1 f13 f21; omega)) | ((have f11_c0 := f11.1); (have f11_c1 := f11.2.1); (have f11_c2 := f11.2.2); (first | have f1_b := f1 (by clear f11_c2 f11 hE_0_1_1 hK_0_1 hE_0_160_1 hK_0_160 hE_0_161_1 hE_0_162_1 hK_0_162 hE_0_163_1 hK_0_163 f1 f13 f21; omega) | skip); (first | have f13_b := f13 (by clear f11_c2 f11 hE_0_1_1 hK_0_1 hE_0_160_1 hK_0_160 hE_0_161_1 hE_0_162_1 hK_0_162 hE_0_163_1 hK_0_163 f1 f13 f21; omega) | skip); (first | have f21_b := f21 (by clear f11_c2 f11 hE_0_1_1 hK_0_1 hE_0_160_1 hK_0_160 hE_0_161_1 hE_0_162_1 hK_0_162 hE_0_163_1 hK_0_163 f1 f13 f21; omega) | skip); (first | have f1_d := f1 (by with_reducible assumption) | skip); (first | have f13_d := f13 (by with_reducible assumption) | skip); (first | have f21_d := f21 (by with_reducible assumption) | skip); (first | have f11_q := tk_nx0 f11 (by clear f11_c2 f11 hE_0_1_1 hK_0_1 hE_0_160_1 hK_0_160 hE_0_161_1 hE_0_162_1 hK_0_162 hE_0_163_1 hK_0_163 f1 f13 f21; omega) | skip); (try and_intros) <;> first | with_reducible assumption | (clear f11_c2 f11 hE_0_1_1 hK_0_1 hE_0_160_1 hK_0_160 hE_0_161_1 hE_0_162_1 hK_0_162 hE_0_163_1 hK_0_163 f1 f13 f21; omega)) | ((have f11_c0 := f11.1); (have f11_c1 := f11.2.1); (have f11_c2 := f11.2.2); (first | have f1_b := f1 (by clear f11_c2 f11 hE_0_1_1 hK_0_1 hE_0_160_1 hK_0_160 hE_0_161_1 hE_0_162_1 hK_0_162 hE_0_163_1 hK_0_163 f1 f13 f21; omega) | skip); (first | have f13_b := f13 (by clear f11_c2 f11 hE_0_1_1 hK_0_1 hE_0_160_1 hK_0_160 hE_0_161_1 hE_0_162_1 hK_0_162 hE_0_163_1 hK_0_163 f1 f13 f21; omega) | skip); (first | have f21_b := f21 (by clear f11_c2 f11 hE_0_1_1 hK_0_1 hE_0_160_1 hK_0_160 hE_0_161_1 hE_0_162_1 hK_0_162 hE_0_163_1 hK_0_163 f1 f13 f21; omega) | skip); (first | have f1_d := f1 (by with_reducible assumption) | skip); (first | have f13_d := f13 (by with_reducible assumption) | skip); (first | have f21_d := f21 (by with_reducible assumption) | skip); (first | have f11_q := tk_nx0 f11 (by clear f11_c2 f11 hE_0_1_1 hK_0_1 hE_0_160_1 hK_0_160 hE_0_161_1 hE_0_162_1 hK_0_162 hE_0_163_1 hK_0_163 f1 f13 f21; omega) | skip); (first | have f11_r0 := tk_nx1 (c := cur_1) f11.2 (by clear f11_c2 f11 hE_0_1_1 hK_0_1 hE_0_160_1 hK_0_160 hE_0_161_1 hE_0_162_1 hK_0_162 hE_0_163_1 hK_0_163 f1 f13 f21; omega) (by clear f11_c2 f11 hE_0_1_1 hK_0_1 hE_0_160_1 hK_0_160 hE_0_161_1 hE_0_162_1 hK_0_162 hE_0_163_1 hK_0_163 f1 f13 f21; omega) | skip); (try and_intros) <;> first | with_reducible assumption | (clear f11_c2 f11 hE_0_1_1 hK_0_1 hE_0_160_1 hK_0_160 hE_0_161_1 hE_0_162_1 hK_0_162 hE_0_163_1 hK_0_163 f1 f13 f21; omega)) | omega
set_option maxHeartbeats 4000000 in
theorem vc_Mo_test_f_4_7 (k : Int) (hk0 : 0 ≤ k) (hk1 : k ≤ 12) (x1 : Int) (x2 : Int) (x3 : Int) (x6 : Int) (x7 : Int) (x9 : Int) (x10 : Int) (x11 : Int) (cur_0 : Int) (styleKind_0 : Int) (styleOne_0 : Int) (opened_0 : Int) (cur_1 : Int) (tokenKind_1 : Int → Int) (tokens_1 : Int) (styleKind_1 : Int) (styleOne_1 : Int) (opened_1 : Int) (tokenValue_1 : Int → Int) (tokenPlace_1 : Int → Int) (tokenEnd_1 : Int → Int) (tape_1 : Int → Int) (fault_1 : Int) (limit_1 : Int) (fault_0 : Int) (limit_0 : Int) (tokens_0 : Int) (tape_0 : Int → Int) (tokenKind_0 : Int → Int) (tokenValue_0 : Int → Int) (tokenPlace_0 : Int → Int) (tokenEnd_0 : Int → Int) (gx : Int) (gy : Int) (gu : Int) (k1 : 0 ≤ x1 ∧ x1 ≤ 2009) (k2 : 0 ≤ x2 ∧ x2 ≤ 5) (k3 : 0 ≤ x3 ∧ x3 ≤ 13) (k6 : 0 ≤ x6 ∧ x6 ≤ 2009) (k7 : 0 ≤ x7 ∧ x7 ≤ 2010) (k9 : 1 ≤ x9 ∧ x9 ≤ 1) (k10 : 1 ≤ x10 ∧ x10 ≤ 1) (k11 : 1 ≤ x11 ∧ x11 ≤ 2009) (d0 : x6 + 1 ≤ x11 ∧ x11 ≤ x6 + 1) (g0 : x11 = cur_0) (f1 : (styleKind_0 = 0) → (styleOne_0 ≤ 23)) (f2 : 1 * opened_0 + 0 ≤ k) (f3 : (-1) * opened_0 + 0 ≤ ((-k))) (f4 : 1 * x3 + 0 ≤ k) (f5 : (-1) * x3 + 0 ≤ ((-k))) (f8 : x11 = x6 + x10) (g9 : x6 = cur_1) (f10 : x9 ≠ 0) (f11 : ((cur_1 + 1) ≤ tokens_1) ∧ ((tokens_1 ≤ 2010) ∧ ((tokenKind_1 ((tokens_1 - 1)) = 0) ∨ (tokenKind_1 ((tokens_1 - 1)) = 4)))) (f12 : 1 * x1 + ((-1) * cur_1 + 0) ≤ 0) (f13 : (styleKind_1 = 0) → (styleOne_1 ≤ 23)) (f14 : 1 * opened_1 + 0 ≤ k) (f15 : (-1) * opened_1 + 0 ≤ ((-k))) (f16 : STL (fault_1) (cur_1) (styleKind_1) (limit_1) (tokenKind_1) (tokenValue_1) (tokenPlace_1) (tokenEnd_1) (tape_1) (x1) (x2) (x3)) (f17 : 1 * x3 + 0 ≤ k) (f18 : (-1) * x3 + 0 ≤ ((-k))) (f19 : 1 * x7 + (1 * cur_1 + 0) ≤ 2010) (f20 : (-1) * x7 + ((-1) * cur_1 + 0) ≤ (-2010)) (f21 : (x9 = 1) → (tokenKind_1 (cur_1) = 1)) (f22 : Wqor (fault_1) (cur_1) (limit_1) (tokenKind_1) (tokenPlace_1) (tokenEnd_1) (tape_1) (x9)) (f24 : 1 * x3 + 0 ≤ k) (f25 : (-1) * x3 + 0 ≤ ((-k))) (fe_0_8_1 : fault_0 = fault_1) (fe_0_10_1 : limit_0 = limit_1) (fe_0_157_1 : tokens_0 = tokens_1) (fe_0_158_1 : cur_0 = x11) (fe_0_159_1 : opened_0 = opened_1) (fe_0_164_1 : styleKind_0 = styleKind_1) (fe_0_165_1 : styleOne_0 = styleOne_1) (hE_0_1_1 : ∀ j : Int, tape_0 j = tape_1 j) (hK_0_1 : ∀ j : Int, 0 ≤ j → j < 2000 → (-128) ≤ tape_0 j ∧ tape_0 j ≤ 127) (hE_0_160_1 : ∀ j : Int, tokenKind_0 j = tokenKind_1 j) (hK_0_160 : ∀ j : Int, 0 ≤ j → j < 2010 → 0 ≤ tokenKind_0 j ∧ tokenKind_0 j ≤ 4) (hE_0_161_1 : ∀ j : Int, tokenValue_0 j = tokenValue_1 j) (hE_0_162_1 : ∀ j : Int, tokenPlace_0 j = tokenPlace_1 j) (hK_0_162 : ∀ j : Int, 0 ≤ j → j < 2010 → 0 ≤ tokenPlace_0 j ∧ tokenPlace_0 j ≤ 2000) (hE_0_163_1 : ∀ j : Int, tokenEnd_0 j = tokenEnd_1 j) (hK_0_163 : ∀ j : Int, 0 ≤ j → j < 2010 → 0 ≤ tokenEnd_0 j ∧ tokenEnd_0 j ≤ 2000) (kz_0_8 : 0 ≤ fault_0 ∧ fault_0 ≤ 5) (kz_0_10 : 0 ≤ limit_0 ∧ limit_0 ≤ 2000) (kz_0_157 : 0 ≤ tokens_0 ∧ tokens_0 ≤ 2010) (kz_0_158 : 0 ≤ cur_0 ∧ cur_0 ≤ 2009) (kz_0_159 : 0 ≤ opened_0 ∧ opened_0 ≤ 13) (kz_0_164 : 0 ≤ styleKind_0 ∧ styleKind_0 ≤ 1) (kz_0_165 : (-1) ≤ styleOne_0 ∧ styleOne_0 ≤ 47) (ex2 : gx = cur_0) (ex3 : 0 ≤ gx ∧ gx ≤ 2009) (ey2 : gy = fault_0) (ey3 : 0 ≤ gy ∧ gy ≤ 5) (eu2 : gu = opened_0) (eu3 : 0 ≤ gu ∧ gu ≤ 13) : opened_0 = gu := by
  subst fe_0_8_1
  subst fe_0_10_1
  subst fe_0_157_1
  subst fe_0_159_1
  subst fe_0_164_1
  subst fe_0_165_1
  have e_hE_0_1_1 := funext hE_0_1_1; subst e_hE_0_1_1
  have e_hE_0_160_1 := funext hE_0_160_1; subst e_hE_0_160_1
  have e_hE_0_161_1 := funext hE_0_161_1; subst e_hE_0_161_1
  have e_hE_0_162_1 := funext hE_0_162_1; subst e_hE_0_162_1
  have e_hE_0_163_1 := funext hE_0_163_1; subst e_hE_0_163_1
  first | with_reducible assumption | ((have f11_c0 := f11.1); (have f11_c1 := f11.2.1); (have f11_c2 := f11.2.2); (try and_intros) <;> first | with_reducible assumption | (clear f11_c2 f11 hE_0_1_1 hK_0_1 hE_0_160_1 hK_0_160 hE_0_161_1 hE_0_162_1 hK_0_162 hE_0_163_1 hK_0_163 f1 f13 f21; omega)) | ((have f11_c0 := f11.1); (have f11_c1 := f11.2.1); (have f11_c2 := f11.2.2); (first | have f1_b := f1 (by clear f11_c2 f11 hE_0_1_1 hK_0_1 hE_0_160_1 hK_0_160 hE_0_161_1 hE_0_162_1 hK_0_162 hE_0_163_1 hK_0_163 f1 f13 f21; omega) | skip); (first | have f13_b := f13 (by clear f11_c2 f11 hE_0_1_1 hK_0_1 hE_0_160_1 hK_0_160 hE_0_161_1 hE_0_162_1 hK_0_162 hE_0_163_1 hK_0_163 f1 f13 f21; omega) | skip); (first | have f21_b := f21 (by clear f11_c2 f11 hE_0_1_1 hK_0_1 hE_0_160_1 hK_0_160 hE_0_161_1 hE_0_162_1 hK_0_162 hE_0_163_1 hK_0_163 f1 f13 f21; omega) | skip); (first | have f1_d := f1 (by with_reducible assumption) | skip); (first | have f13_d := f13 (by with_reducible assumption) | skip); (first | have f21_d := f21 (by with_reducible assumption) | skip); (try and_intros) <;> first | with_reducible assumption | (clear f11_c2 f11 hE_0_1_1 hK_0_1 hE_0_160_1 hK_0_160 hE_0_161_1 hE_0_162_1 hK_0_162 hE_0_163_1 hK_0_163 f1 f13 f21; omega)) | ((have f11_c0 := f11.1); (have f11_c1 := f11.2.1); (have f11_c2 := f11.2.2); (first | have f1_b := f1 (by clear f11_c2 f11 hE_0_1_1 hK_0_1 hE_0_160_1 hK_0_160 hE_0_161_1 hE_0_162_1 hK_0_162 hE_0_163_1 hK_0_163 f1 f13 f21; omega) | skip); (first | have f13_b := f13 (by clear f11_c2 f11 hE_0_1_1 hK_0_1 hE_0_160_1 hK_0_160 hE_0_161_1 hE_0_162_1 hK_0_162 hE_0_163_1 hK_0_163 f1 f13 f21; omega) | skip); (first | have f21_b := f21 (by clear f11_c2 f11 hE_0_1_1 hK_0_1 hE_0_160_1 hK_0_160 hE_0_161_1 hE_0_162_1 hK_0_162 hE_0_163_1 hK_0_163 f1 f13 f21; omega) | skip); (first | have f1_d := f1 (by with_reducible assumption) | skip); (first | have f13_d := f13 (by with_reducible assumption) | skip); (first | have f21_d := f21 (by with_reducible assumption) | skip); (first | have f11_q := tk_nx0 f11 (by clear f11_c2 f11 hE_0_1_1 hK_0_1 hE_0_160_1 hK_0_160 hE_0_161_1 hE_0_162_1 hK_0_162 hE_0_163_1 hK_0_163 f1 f13 f21; omega) | skip); (try and_intros) <;> first | with_reducible assumption | (clear f11_c2 f11 hE_0_1_1 hK_0_1 hE_0_160_1 hK_0_160 hE_0_161_1 hE_0_162_1 hK_0_162 hE_0_163_1 hK_0_163 f1 f13 f21; omega)) | ((have f11_c0 := f11.1); (have f11_c1 := f11.2.1); (have f11_c2 := f11.2.2); (first | have f1_b := f1 (by clear f11_c2 f11 hE_0_1_1 hK_0_1 hE_0_160_1 hK_0_160 hE_0_161_1 hE_0_162_1 hK_0_162 hE_0_163_1 hK_0_163 f1 f13 f21; omega) | skip); (first | have f13_b := f13 (by clear f11_c2 f11 hE_0_1_1 hK_0_1 hE_0_160_1 hK_0_160 hE_0_161_1 hE_0_162_1 hK_0_162 hE_0_163_1 hK_0_163 f1 f13 f21; omega) | skip); (first | have f21_b := f21 (by clear f11_c2 f11 hE_0_1_1 hK_0_1 hE_0_160_1 hK_0_160 hE_0_161_1 hE_0_162_1 hK_0_162 hE_0_163_1 hK_0_163 f1 f13 f21; omega) | skip); (first | have f1_d := f1 (by with_reducible assumption) | skip); (first | have f13_d := f13 (by with_reducible assumption) | skip); (first | have f21_d := f21 (by with_reducible assumption) | skip); (first | have f11_q := tk_nx0 f11 (by clear f11_c2 f11 hE_0_1_1 hK_0_1 hE_0_160_1 hK_0_160 hE_0_161_1 hE_0_162_1 hK_0_162 hE_0_163_1 hK_0_163 f1 f13 f21; omega) | skip); (first | have f11_r0 := tk_nx1 (c := cur_1) f11.2 (by clear f11_c2 f11 hE_0_1_1 hK_0_1 hE_0_160_1 hK_0_160 hE_0_161_1 hE_0_162_1 hK_0_162 hE_0_163_1 hK_0_163 f1 f13 f21; omega) (by clear f11_c2 f11 hE_0_1_1 hK_0_1 hE_0_160_1 hK_0_160 hE_0_161_1 hE_0_162_1 hK_0_162 hE_0_163_1 hK_0_163 f1 f13 f21; omega) | skip); (try and_intros) <;> first | with_reducible assumption | (clear f11_c2 f11 hE_0_1_1 hK_0_1 hE_0_160_1 hK_0_160 hE_0_161_1 hE_0_162_1 hK_0_162 hE_0_163_1 hK_0_163 f1 f13 f21; omega)) | omega
set_option maxHeartbeats 4000000 in
theorem vc_Mo_test_f_4_8 (k : Int) (hk0 : 0 ≤ k) (hk1 : k ≤ 12) (x1 : Int) (x2 : Int) (x3 : Int) (x6 : Int) (x7 : Int) (x9 : Int) (x10 : Int) (x11 : Int) (cur_0 : Int) (styleKind_0 : Int) (styleOne_0 : Int) (opened_0 : Int) (cur_1 : Int) (tokenKind_1 : Int → Int) (tokens_1 : Int) (styleKind_1 : Int) (styleOne_1 : Int) (opened_1 : Int) (tokenValue_1 : Int → Int) (tokenPlace_1 : Int → Int) (tokenEnd_1 : Int → Int) (tape_1 : Int → Int) (fault_1 : Int) (limit_1 : Int) (fault_0 : Int) (limit_0 : Int) (tokens_0 : Int) (tape_0 : Int → Int) (tokenKind_0 : Int → Int) (tokenValue_0 : Int → Int) (tokenPlace_0 : Int → Int) (tokenEnd_0 : Int → Int) (gx : Int) (gy : Int) (gu : Int) (k1 : 0 ≤ x1 ∧ x1 ≤ 2009) (k2 : 0 ≤ x2 ∧ x2 ≤ 5) (k3 : 0 ≤ x3 ∧ x3 ≤ 13) (k6 : 0 ≤ x6 ∧ x6 ≤ 2009) (k7 : 0 ≤ x7 ∧ x7 ≤ 2010) (k9 : 1 ≤ x9 ∧ x9 ≤ 1) (k10 : 1 ≤ x10 ∧ x10 ≤ 1) (k11 : 1 ≤ x11 ∧ x11 ≤ 2009) (d0 : x6 + 1 ≤ x11 ∧ x11 ≤ x6 + 1) (g0 : x11 = cur_0) (f1 : (styleKind_0 = 0) → (styleOne_0 ≤ 23)) (f2 : 1 * opened_0 + 0 ≤ k) (f3 : (-1) * opened_0 + 0 ≤ ((-k))) (f4 : 1 * x3 + 0 ≤ k) (f5 : (-1) * x3 + 0 ≤ ((-k))) (f8 : x11 = x6 + x10) (g9 : x6 = cur_1) (f10 : x9 ≠ 0) (f11 : ((cur_1 + 1) ≤ tokens_1) ∧ ((tokens_1 ≤ 2010) ∧ ((tokenKind_1 ((tokens_1 - 1)) = 0) ∨ (tokenKind_1 ((tokens_1 - 1)) = 4)))) (f12 : 1 * x1 + ((-1) * cur_1 + 0) ≤ 0) (f13 : (styleKind_1 = 0) → (styleOne_1 ≤ 23)) (f14 : 1 * opened_1 + 0 ≤ k) (f15 : (-1) * opened_1 + 0 ≤ ((-k))) (f16 : STL (fault_1) (cur_1) (styleKind_1) (limit_1) (tokenKind_1) (tokenValue_1) (tokenPlace_1) (tokenEnd_1) (tape_1) (x1) (x2) (x3)) (f17 : 1 * x3 + 0 ≤ k) (f18 : (-1) * x3 + 0 ≤ ((-k))) (f19 : 1 * x7 + (1 * cur_1 + 0) ≤ 2010) (f20 : (-1) * x7 + ((-1) * cur_1 + 0) ≤ (-2010)) (f21 : (x9 = 1) → (tokenKind_1 (cur_1) = 1)) (f22 : Wqor (fault_1) (cur_1) (limit_1) (tokenKind_1) (tokenPlace_1) (tokenEnd_1) (tape_1) (x9)) (f24 : 1 * x3 + 0 ≤ k) (f25 : (-1) * x3 + 0 ≤ ((-k))) (fe_0_8_1 : fault_0 = fault_1) (fe_0_10_1 : limit_0 = limit_1) (fe_0_157_1 : tokens_0 = tokens_1) (fe_0_158_1 : cur_0 = x11) (fe_0_159_1 : opened_0 = opened_1) (fe_0_164_1 : styleKind_0 = styleKind_1) (fe_0_165_1 : styleOne_0 = styleOne_1) (hE_0_1_1 : ∀ j : Int, tape_0 j = tape_1 j) (hK_0_1 : ∀ j : Int, 0 ≤ j → j < 2000 → (-128) ≤ tape_0 j ∧ tape_0 j ≤ 127) (hE_0_160_1 : ∀ j : Int, tokenKind_0 j = tokenKind_1 j) (hK_0_160 : ∀ j : Int, 0 ≤ j → j < 2010 → 0 ≤ tokenKind_0 j ∧ tokenKind_0 j ≤ 4) (hE_0_161_1 : ∀ j : Int, tokenValue_0 j = tokenValue_1 j) (hE_0_162_1 : ∀ j : Int, tokenPlace_0 j = tokenPlace_1 j) (hK_0_162 : ∀ j : Int, 0 ≤ j → j < 2010 → 0 ≤ tokenPlace_0 j ∧ tokenPlace_0 j ≤ 2000) (hE_0_163_1 : ∀ j : Int, tokenEnd_0 j = tokenEnd_1 j) (hK_0_163 : ∀ j : Int, 0 ≤ j → j < 2010 → 0 ≤ tokenEnd_0 j ∧ tokenEnd_0 j ≤ 2000) (kz_0_8 : 0 ≤ fault_0 ∧ fault_0 ≤ 5) (kz_0_10 : 0 ≤ limit_0 ∧ limit_0 ≤ 2000) (kz_0_157 : 0 ≤ tokens_0 ∧ tokens_0 ≤ 2010) (kz_0_158 : 0 ≤ cur_0 ∧ cur_0 ≤ 2009) (kz_0_159 : 0 ≤ opened_0 ∧ opened_0 ≤ 13) (kz_0_164 : 0 ≤ styleKind_0 ∧ styleKind_0 ≤ 1) (kz_0_165 : (-1) ≤ styleOne_0 ∧ styleOne_0 ≤ 47) (ex2 : gx = cur_0) (ex3 : 0 ≤ gx ∧ gx ≤ 2009) (ey2 : gy = fault_0) (ey3 : 0 ≤ gy ∧ gy ≤ 5) (eu2 : gu = opened_0) (eu3 : 0 ≤ gu ∧ gu ≤ 13) : 1 * x1 + ((-1) * gx + 0) ≤ 0 := by
  subst fe_0_8_1
  subst fe_0_10_1
  subst fe_0_157_1
  subst fe_0_159_1
  subst fe_0_164_1
  subst fe_0_165_1
  have e_hE_0_1_1 := funext hE_0_1_1; subst e_hE_0_1_1
  have e_hE_0_160_1 := funext hE_0_160_1; subst e_hE_0_160_1
  have e_hE_0_161_1 := funext hE_0_161_1; subst e_hE_0_161_1
  have e_hE_0_162_1 := funext hE_0_162_1; subst e_hE_0_162_1
  have e_hE_0_163_1 := funext hE_0_163_1; subst e_hE_0_163_1
  first | with_reducible assumption | ((have f11_c0 := f11.1); (have f11_c1 := f11.2.1); (have f11_c2 := f11.2.2); (try and_intros) <;> first | with_reducible assumption | (clear f11_c2 f11 hE_0_1_1 hK_0_1 hE_0_160_1 hK_0_160 hE_0_161_1 hE_0_162_1 hK_0_162 hE_0_163_1 hK_0_163 f1 f13 f21; omega)) | ((have f11_c0 := f11.1); (have f11_c1 := f11.2.1); (have f11_c2 := f11.2.2); (first | have f1_b := f1 (by clear f11_c2 f11 hE_0_1_1 hK_0_1 hE_0_160_1 hK_0_160 hE_0_161_1 hE_0_162_1 hK_0_162 hE_0_163_1 hK_0_163 f1 f13 f21; omega) | skip); (first | have f13_b := f13 (by clear f11_c2 f11 hE_0_1_1 hK_0_1 hE_0_160_1 hK_0_160 hE_0_161_1 hE_0_162_1 hK_0_162 hE_0_163_1 hK_0_163 f1 f13 f21; omega) | skip); (first | have f21_b := f21 (by clear f11_c2 f11 hE_0_1_1 hK_0_1 hE_0_160_1 hK_0_160 hE_0_161_1 hE_0_162_1 hK_0_162 hE_0_163_1 hK_0_163 f1 f13 f21; omega) | skip); (first | have f1_d := f1 (by with_reducible assumption) | skip); (first | have f13_d := f13 (by with_reducible assumption) | skip); (first | have f21_d := f21 (by with_reducible assumption) | skip); (try and_intros) <;> first | with_reducible assumption | (clear f11_c2 f11 hE_0_1_1 hK_0_1 hE_0_160_1 hK_0_160 hE_0_161_1 hE_0_162_1 hK_0_162 hE_0_163_1 hK_0_163 f1 f13 f21; omega)) | ((have f11_c0 := f11.1); (have f11_c1 := f11.2.1); (have f11_c2 := f11.2.2); (first | have f1_b := f1 (by clear f11_c2 f11 hE_0_1_1 hK_0_1 hE_0_160_1 hK_0_160 hE_0_161_1 hE_0_162_1 hK_0_162 hE_0_163_1 hK_0_163 f1 f13 f21; omega) | skip); (first | have f13_b := f13 (by clear f11_c2 f11 hE_0_1_1 hK_0_1 hE_0_160_1 hK_0_160 hE_0_161_1 hE_0_162_1 hK_0_162 hE_0_163_1 hK_0_163 f1 f13 f21; omega) | skip); (first | have f21_b := f21 (by clear f11_c2 f11 hE_0_1_1 hK_0_1 hE_0_160_1 hK_0_160 hE_0_161_1 hE_0_162_1 hK_0_162 hE_0_163_1 hK_0_163 f1 f13 f21; omega) | skip); (first | have f1_d := f1 (by with_reducible assumption) | skip); (first | have f13_d := f13 (by with_reducible assumption) | skip); (first | have f21_d := f21 (by with_reducible assumption) | skip); (first | have f11_q := tk_nx0 f11 (by clear f11_c2 f11 hE_0_1_1 hK_0_1 hE_0_160_1 hK_0_160 hE_0_161_1 hE_0_162_1 hK_0_162 hE_0_163_1 hK_0_163 f1 f13 f21; omega) | skip); (try and_intros) <;> first | with_reducible assumption | (clear f11_c2 f11 hE_0_1_1 hK_0_1 hE_0_160_1 hK_0_160 hE_0_161_1 hE_0_162_1 hK_0_162 hE_0_163_1 hK_0_163 f1 f13 f21; omega)) | ((have f11_c0 := f11.1); (have f11_c1 := f11.2.1); (have f11_c2 := f11.2.2); (first | have f1_b := f1 (by clear f11_c2 f11 hE_0_1_1 hK_0_1 hE_0_160_1 hK_0_160 hE_0_161_1 hE_0_162_1 hK_0_162 hE_0_163_1 hK_0_163 f1 f13 f21; omega) | skip); (first | have f13_b := f13 (by clear f11_c2 f11 hE_0_1_1 hK_0_1 hE_0_160_1 hK_0_160 hE_0_161_1 hE_0_162_1 hK_0_162 hE_0_163_1 hK_0_163 f1 f13 f21; omega) | skip); (first | have f21_b := f21 (by clear f11_c2 f11 hE_0_1_1 hK_0_1 hE_0_160_1 hK_0_160 hE_0_161_1 hE_0_162_1 hK_0_162 hE_0_163_1 hK_0_163 f1 f13 f21; omega) | skip); (first | have f1_d := f1 (by with_reducible assumption) | skip); (first | have f13_d := f13 (by with_reducible assumption) | skip); (first | have f21_d := f21 (by with_reducible assumption) | skip); (first | have f11_q := tk_nx0 f11 (by clear f11_c2 f11 hE_0_1_1 hK_0_1 hE_0_160_1 hK_0_160 hE_0_161_1 hE_0_162_1 hK_0_162 hE_0_163_1 hK_0_163 f1 f13 f21; omega) | skip); (first | have f11_r0 := tk_nx1 (c := cur_1) f11.2 (by clear f11_c2 f11 hE_0_1_1 hK_0_1 hE_0_160_1 hK_0_160 hE_0_161_1 hE_0_162_1 hK_0_162 hE_0_163_1 hK_0_163 f1 f13 f21; omega) (by clear f11_c2 f11 hE_0_1_1 hK_0_1 hE_0_160_1 hK_0_160 hE_0_161_1 hE_0_162_1 hK_0_162 hE_0_163_1 hK_0_163 f1 f13 f21; omega) | skip); (try and_intros) <;> first | with_reducible assumption | (clear f11_c2 f11 hE_0_1_1 hK_0_1 hE_0_160_1 hK_0_160 hE_0_161_1 hE_0_162_1 hK_0_162 hE_0_163_1 hK_0_163 f1 f13 f21; omega)) | omega
set_option maxHeartbeats 4000000 in
theorem vc_Mo_test_f_4_9 (k : Int) (hk0 : 0 ≤ k) (hk1 : k ≤ 12) (x1 : Int) (x2 : Int) (x3 : Int) (x6 : Int) (x7 : Int) (x9 : Int) (x10 : Int) (x11 : Int) (cur_0 : Int) (styleKind_0 : Int) (styleOne_0 : Int) (opened_0 : Int) (cur_1 : Int) (tokenKind_1 : Int → Int) (tokens_1 : Int) (styleKind_1 : Int) (styleOne_1 : Int) (opened_1 : Int) (tokenValue_1 : Int → Int) (tokenPlace_1 : Int → Int) (tokenEnd_1 : Int → Int) (tape_1 : Int → Int) (fault_1 : Int) (limit_1 : Int) (fault_0 : Int) (limit_0 : Int) (tokens_0 : Int) (tape_0 : Int → Int) (tokenKind_0 : Int → Int) (tokenValue_0 : Int → Int) (tokenPlace_0 : Int → Int) (tokenEnd_0 : Int → Int) (gx : Int) (gy : Int) (gu : Int) (k1 : 0 ≤ x1 ∧ x1 ≤ 2009) (k2 : 0 ≤ x2 ∧ x2 ≤ 5) (k3 : 0 ≤ x3 ∧ x3 ≤ 13) (k6 : 0 ≤ x6 ∧ x6 ≤ 2009) (k7 : 0 ≤ x7 ∧ x7 ≤ 2010) (k9 : 1 ≤ x9 ∧ x9 ≤ 1) (k10 : 1 ≤ x10 ∧ x10 ≤ 1) (k11 : 1 ≤ x11 ∧ x11 ≤ 2009) (d0 : x6 + 1 ≤ x11 ∧ x11 ≤ x6 + 1) (g0 : x11 = cur_0) (f1 : (styleKind_0 = 0) → (styleOne_0 ≤ 23)) (f2 : 1 * opened_0 + 0 ≤ k) (f3 : (-1) * opened_0 + 0 ≤ ((-k))) (f4 : 1 * x3 + 0 ≤ k) (f5 : (-1) * x3 + 0 ≤ ((-k))) (f8 : x11 = x6 + x10) (g9 : x6 = cur_1) (f10 : x9 ≠ 0) (f11 : ((cur_1 + 1) ≤ tokens_1) ∧ ((tokens_1 ≤ 2010) ∧ ((tokenKind_1 ((tokens_1 - 1)) = 0) ∨ (tokenKind_1 ((tokens_1 - 1)) = 4)))) (f12 : 1 * x1 + ((-1) * cur_1 + 0) ≤ 0) (f13 : (styleKind_1 = 0) → (styleOne_1 ≤ 23)) (f14 : 1 * opened_1 + 0 ≤ k) (f15 : (-1) * opened_1 + 0 ≤ ((-k))) (f16 : STL (fault_1) (cur_1) (styleKind_1) (limit_1) (tokenKind_1) (tokenValue_1) (tokenPlace_1) (tokenEnd_1) (tape_1) (x1) (x2) (x3)) (f17 : 1 * x3 + 0 ≤ k) (f18 : (-1) * x3 + 0 ≤ ((-k))) (f19 : 1 * x7 + (1 * cur_1 + 0) ≤ 2010) (f20 : (-1) * x7 + ((-1) * cur_1 + 0) ≤ (-2010)) (f21 : (x9 = 1) → (tokenKind_1 (cur_1) = 1)) (f22 : Wqor (fault_1) (cur_1) (limit_1) (tokenKind_1) (tokenPlace_1) (tokenEnd_1) (tape_1) (x9)) (f24 : 1 * x3 + 0 ≤ k) (f25 : (-1) * x3 + 0 ≤ ((-k))) (fe_0_8_1 : fault_0 = fault_1) (fe_0_10_1 : limit_0 = limit_1) (fe_0_157_1 : tokens_0 = tokens_1) (fe_0_158_1 : cur_0 = x11) (fe_0_159_1 : opened_0 = opened_1) (fe_0_164_1 : styleKind_0 = styleKind_1) (fe_0_165_1 : styleOne_0 = styleOne_1) (hE_0_1_1 : ∀ j : Int, tape_0 j = tape_1 j) (hK_0_1 : ∀ j : Int, 0 ≤ j → j < 2000 → (-128) ≤ tape_0 j ∧ tape_0 j ≤ 127) (hE_0_160_1 : ∀ j : Int, tokenKind_0 j = tokenKind_1 j) (hK_0_160 : ∀ j : Int, 0 ≤ j → j < 2010 → 0 ≤ tokenKind_0 j ∧ tokenKind_0 j ≤ 4) (hE_0_161_1 : ∀ j : Int, tokenValue_0 j = tokenValue_1 j) (hE_0_162_1 : ∀ j : Int, tokenPlace_0 j = tokenPlace_1 j) (hK_0_162 : ∀ j : Int, 0 ≤ j → j < 2010 → 0 ≤ tokenPlace_0 j ∧ tokenPlace_0 j ≤ 2000) (hE_0_163_1 : ∀ j : Int, tokenEnd_0 j = tokenEnd_1 j) (hK_0_163 : ∀ j : Int, 0 ≤ j → j < 2010 → 0 ≤ tokenEnd_0 j ∧ tokenEnd_0 j ≤ 2000) (kz_0_8 : 0 ≤ fault_0 ∧ fault_0 ≤ 5) (kz_0_10 : 0 ≤ limit_0 ∧ limit_0 ≤ 2000) (kz_0_157 : 0 ≤ tokens_0 ∧ tokens_0 ≤ 2010) (kz_0_158 : 0 ≤ cur_0 ∧ cur_0 ≤ 2009) (kz_0_159 : 0 ≤ opened_0 ∧ opened_0 ≤ 13) (kz_0_164 : 0 ≤ styleKind_0 ∧ styleKind_0 ≤ 1) (kz_0_165 : (-1) ≤ styleOne_0 ∧ styleOne_0 ≤ 47) (ex2 : gx = cur_0) (ex3 : 0 ≤ gx ∧ gx ≤ 2009) (ey2 : gy = fault_0) (ey3 : 0 ≤ gy ∧ gy ≤ 5) (eu2 : gu = opened_0) (eu3 : 0 ≤ gu ∧ gu ≤ 13) : (-1) * x7 + ((-1) * gx + 0) ≤ (-2011) := by
  subst fe_0_8_1
  subst fe_0_10_1
  subst fe_0_157_1
  subst fe_0_159_1
  subst fe_0_164_1
  subst fe_0_165_1
  have e_hE_0_1_1 := funext hE_0_1_1; subst e_hE_0_1_1
  have e_hE_0_160_1 := funext hE_0_160_1; subst e_hE_0_160_1
  have e_hE_0_161_1 := funext hE_0_161_1; subst e_hE_0_161_1
  have e_hE_0_162_1 := funext hE_0_162_1; subst e_hE_0_162_1
  have e_hE_0_163_1 := funext hE_0_163_1; subst e_hE_0_163_1
  first | with_reducible assumption | ((have f11_c0 := f11.1); (have f11_c1 := f11.2.1); (have f11_c2 := f11.2.2); (try and_intros) <;> first | with_reducible assumption | (clear f11_c2 f11 hE_0_1_1 hK_0_1 hE_0_160_1 hK_0_160 hE_0_161_1 hE_0_162_1 hK_0_162 hE_0_163_1 hK_0_163 f1 f13 f21; omega)) | ((have f11_c0 := f11.1); (have f11_c1 := f11.2.1); (have f11_c2 := f11.2.2); (first | have f1_b := f1 (by clear f11_c2 f11 hE_0_1_1 hK_0_1 hE_0_160_1 hK_0_160 hE_0_161_1 hE_0_162_1 hK_0_162 hE_0_163_1 hK_0_163 f1 f13 f21; omega) | skip); (first | have f13_b := f13 (by clear f11_c2 f11 hE_0_1_1 hK_0_1 hE_0_160_1 hK_0_160 hE_0_161_1 hE_0_162_1 hK_0_162 hE_0_163_1 hK_0_163 f1 f13 f21; omega) | skip); (first | have f21_b := f21 (by clear f11_c2 f11 hE_0_1_1 hK_0_1 hE_0_160_1 hK_0_160 hE_0_161_1 hE_0_162_1 hK_0_162 hE_0_163_1 hK_0_163 f1 f13 f21; omega) | skip); (first | have f1_d := f1 (by with_reducible assumption) | skip); (first | have f13_d := f13 (by with_reducible assumption) | skip); (first | have f21_d := f21 (by with_reducible assumption) | skip); (try and_intros) <;> first | with_reducible assumption | (clear f11_c2 f11 hE_0_1_1 hK_0_1 hE_0_160_1 hK_0_160 hE_0_161_1 hE_0_162_1 hK_0_162 hE_0_163_1 hK_0_163 f1 f13 f21; omega)) | ((have f11_c0 := f11.1); (have f11_c1 := f11.2.1); (have f11_c2 := f11.2.2); (first | have f1_b := f1 (by clear f11_c2 f11 hE_0_1_1 hK_0_1 hE_0_160_1 hK_0_160 hE_0_161_1 hE_0_162_1 hK_0_162 hE_0_163_1 hK_0_163 f1 f13 f21; omega) | skip); (first | have f13_b := f13 (by clear f11_c2 f11 hE_0_1_1 hK_0_1 hE_0_160_1 hK_0_160 hE_0_161_1 hE_0_162_1 hK_0_162 hE_0_163_1 hK_0_163 f1 f13 f21; omega) | skip); (first | have f21_b := f21 (by clear f11_c2 f11 hE_0_1_1 hK_0_1 hE_0_160_1 hK_0_160 hE_0_161_1 hE_0_162_1 hK_0_162 hE_0_163_1 hK_0_163 f1 f13 f21; omega) | skip); (first | have f1_d := f1 (by with_reducible assumption) | skip); (first | have f13_d := f13 (by with_reducible assumption) | skip); (first | have f21_d := f21 (by with_reducible assumption) | skip); (first | have f11_q := tk_nx0 f11 (by clear f11_c2 f11 hE_0_1_1 hK_0_1 hE_0_160_1 hK_0_160 hE_0_161_1 hE_0_162_1 hK_0_162 hE_0_163_1 hK_0_163 f1 f13 f21; omega) | skip); (try and_intros) <;> first | with_reducible assumption | (clear f11_c2 f11 hE_0_1_1 hK_0_1 hE_0_160_1 hK_0_160 hE_0_161_1 hE_0_162_1 hK_0_162 hE_0_163_1 hK_0_163 f1 f13 f21; omega)) | ((have f11_c0 := f11.1); (have f11_c1 := f11.2.1); (have f11_c2 := f11.2.2); (first | have f1_b := f1 (by clear f11_c2 f11 hE_0_1_1 hK_0_1 hE_0_160_1 hK_0_160 hE_0_161_1 hE_0_162_1 hK_0_162 hE_0_163_1 hK_0_163 f1 f13 f21; omega) | skip); (first | have f13_b := f13 (by clear f11_c2 f11 hE_0_1_1 hK_0_1 hE_0_160_1 hK_0_160 hE_0_161_1 hE_0_162_1 hK_0_162 hE_0_163_1 hK_0_163 f1 f13 f21; omega) | skip); (first | have f21_b := f21 (by clear f11_c2 f11 hE_0_1_1 hK_0_1 hE_0_160_1 hK_0_160 hE_0_161_1 hE_0_162_1 hK_0_162 hE_0_163_1 hK_0_163 f1 f13 f21; omega) | skip); (first | have f1_d := f1 (by with_reducible assumption) | skip); (first | have f13_d := f13 (by with_reducible assumption) | skip); (first | have f21_d := f21 (by with_reducible assumption) | skip); (first | have f11_q := tk_nx0 f11 (by clear f11_c2 f11 hE_0_1_1 hK_0_1 hE_0_160_1 hK_0_160 hE_0_161_1 hE_0_162_1 hK_0_162 hE_0_163_1 hK_0_163 f1 f13 f21; omega) | skip); (first | have f11_r0 := tk_nx1 (c := cur_1) f11.2 (by clear f11_c2 f11 hE_0_1_1 hK_0_1 hE_0_160_1 hK_0_160 hE_0_161_1 hE_0_162_1 hK_0_162 hE_0_163_1 hK_0_163 f1 f13 f21; omega) (by clear f11_c2 f11 hE_0_1_1 hK_0_1 hE_0_160_1 hK_0_160 hE_0_161_1 hE_0_162_1 hK_0_162 hE_0_163_1 hK_0_163 f1 f13 f21; omega) | skip); (try and_intros) <;> first | with_reducible assumption | (clear f11_c2 f11 hE_0_1_1 hK_0_1 hE_0_160_1 hK_0_160 hE_0_161_1 hE_0_162_1 hK_0_162 hE_0_163_1 hK_0_163 f1 f13 f21; omega)) | omega
set_option maxHeartbeats 4000000 in
theorem vc_Mo_test_f_4_10 (k : Int) (hk0 : 0 ≤ k) (hk1 : k ≤ 12) (x1 : Int) (x2 : Int) (x3 : Int) (x6 : Int) (x7 : Int) (x9 : Int) (x10 : Int) (x11 : Int) (cur_0 : Int) (styleKind_0 : Int) (styleOne_0 : Int) (opened_0 : Int) (cur_1 : Int) (tokenKind_1 : Int → Int) (tokens_1 : Int) (styleKind_1 : Int) (styleOne_1 : Int) (opened_1 : Int) (tokenValue_1 : Int → Int) (tokenPlace_1 : Int → Int) (tokenEnd_1 : Int → Int) (tape_1 : Int → Int) (fault_1 : Int) (limit_1 : Int) (fault_0 : Int) (limit_0 : Int) (tokens_0 : Int) (tape_0 : Int → Int) (tokenKind_0 : Int → Int) (tokenValue_0 : Int → Int) (tokenPlace_0 : Int → Int) (tokenEnd_0 : Int → Int) (gx : Int) (gy : Int) (gu : Int) (k1 : 0 ≤ x1 ∧ x1 ≤ 2009) (k2 : 0 ≤ x2 ∧ x2 ≤ 5) (k3 : 0 ≤ x3 ∧ x3 ≤ 13) (k6 : 0 ≤ x6 ∧ x6 ≤ 2009) (k7 : 0 ≤ x7 ∧ x7 ≤ 2010) (k9 : 1 ≤ x9 ∧ x9 ≤ 1) (k10 : 1 ≤ x10 ∧ x10 ≤ 1) (k11 : 1 ≤ x11 ∧ x11 ≤ 2009) (d0 : x6 + 1 ≤ x11 ∧ x11 ≤ x6 + 1) (g0 : x11 = cur_0) (f1 : (styleKind_0 = 0) → (styleOne_0 ≤ 23)) (f2 : 1 * opened_0 + 0 ≤ k) (f3 : (-1) * opened_0 + 0 ≤ ((-k))) (f4 : 1 * x3 + 0 ≤ k) (f5 : (-1) * x3 + 0 ≤ ((-k))) (f8 : x11 = x6 + x10) (g9 : x6 = cur_1) (f10 : x9 ≠ 0) (f11 : ((cur_1 + 1) ≤ tokens_1) ∧ ((tokens_1 ≤ 2010) ∧ ((tokenKind_1 ((tokens_1 - 1)) = 0) ∨ (tokenKind_1 ((tokens_1 - 1)) = 4)))) (f12 : 1 * x1 + ((-1) * cur_1 + 0) ≤ 0) (f13 : (styleKind_1 = 0) → (styleOne_1 ≤ 23)) (f14 : 1 * opened_1 + 0 ≤ k) (f15 : (-1) * opened_1 + 0 ≤ ((-k))) (f16 : STL (fault_1) (cur_1) (styleKind_1) (limit_1) (tokenKind_1) (tokenValue_1) (tokenPlace_1) (tokenEnd_1) (tape_1) (x1) (x2) (x3)) (f17 : 1 * x3 + 0 ≤ k) (f18 : (-1) * x3 + 0 ≤ ((-k))) (f19 : 1 * x7 + (1 * cur_1 + 0) ≤ 2010) (f20 : (-1) * x7 + ((-1) * cur_1 + 0) ≤ (-2010)) (f21 : (x9 = 1) → (tokenKind_1 (cur_1) = 1)) (f22 : Wqor (fault_1) (cur_1) (limit_1) (tokenKind_1) (tokenPlace_1) (tokenEnd_1) (tape_1) (x9)) (f24 : 1 * x3 + 0 ≤ k) (f25 : (-1) * x3 + 0 ≤ ((-k))) (fe_0_8_1 : fault_0 = fault_1) (fe_0_10_1 : limit_0 = limit_1) (fe_0_157_1 : tokens_0 = tokens_1) (fe_0_158_1 : cur_0 = x11) (fe_0_159_1 : opened_0 = opened_1) (fe_0_164_1 : styleKind_0 = styleKind_1) (fe_0_165_1 : styleOne_0 = styleOne_1) (hE_0_1_1 : ∀ j : Int, tape_0 j = tape_1 j) (hK_0_1 : ∀ j : Int, 0 ≤ j → j < 2000 → (-128) ≤ tape_0 j ∧ tape_0 j ≤ 127) (hE_0_160_1 : ∀ j : Int, tokenKind_0 j = tokenKind_1 j) (hK_0_160 : ∀ j : Int, 0 ≤ j → j < 2010 → 0 ≤ tokenKind_0 j ∧ tokenKind_0 j ≤ 4) (hE_0_161_1 : ∀ j : Int, tokenValue_0 j = tokenValue_1 j) (hE_0_162_1 : ∀ j : Int, tokenPlace_0 j = tokenPlace_1 j) (hK_0_162 : ∀ j : Int, 0 ≤ j → j < 2010 → 0 ≤ tokenPlace_0 j ∧ tokenPlace_0 j ≤ 2000) (hE_0_163_1 : ∀ j : Int, tokenEnd_0 j = tokenEnd_1 j) (hK_0_163 : ∀ j : Int, 0 ≤ j → j < 2010 → 0 ≤ tokenEnd_0 j ∧ tokenEnd_0 j ≤ 2000) (kz_0_8 : 0 ≤ fault_0 ∧ fault_0 ≤ 5) (kz_0_10 : 0 ≤ limit_0 ∧ limit_0 ≤ 2000) (kz_0_157 : 0 ≤ tokens_0 ∧ tokens_0 ≤ 2010) (kz_0_158 : 0 ≤ cur_0 ∧ cur_0 ≤ 2009) (kz_0_159 : 0 ≤ opened_0 ∧ opened_0 ≤ 13) (kz_0_164 : 0 ≤ styleKind_0 ∧ styleKind_0 ≤ 1) (kz_0_165 : (-1) ≤ styleOne_0 ∧ styleOne_0 ≤ 47) (ex2 : gx = cur_0) (ex3 : 0 ≤ gx ∧ gx ≤ 2009) (ey2 : gy = fault_0) (ey3 : 0 ≤ gy ∧ gy ≤ 5) (eu2 : gu = opened_0) (eu3 : 0 ≤ gu ∧ gu ≤ 13) : GTL (styleKind_0) (limit_0) (tokenKind_0) (tokenValue_0) (tokenPlace_0) (tokenEnd_0) (tape_0) (gx) (gy) (x1) (x2) (x3) := by
  subst fe_0_8_1
  subst fe_0_10_1
  subst fe_0_157_1
  subst fe_0_159_1
  subst fe_0_164_1
  subst fe_0_165_1
  have e_hE_0_1_1 := funext hE_0_1_1; subst e_hE_0_1_1
  have e_hE_0_160_1 := funext hE_0_160_1; subst e_hE_0_160_1
  have e_hE_0_161_1 := funext hE_0_161_1; subst e_hE_0_161_1
  have e_hE_0_162_1 := funext hE_0_162_1; subst e_hE_0_162_1
  have e_hE_0_163_1 := funext hE_0_163_1; subst e_hE_0_163_1
  first
    | (have h := (wdq_y (‹Wqor _ _ _ _ _ _ _ _›) (by omega))
       have h1 := h.1
       exact gtl_of (‹STL _ _ _ _ _ _ _ _ _ _ _ _›) (by omega) h.2 (by omega) (by omega))
  
set_option maxHeartbeats 4000000 in
theorem vc_Mo_test_f_4_11 (k : Int) (hk0 : 0 ≤ k) (hk1 : k ≤ 12) (x1 : Int) (x2 : Int) (x3 : Int) (x6 : Int) (x7 : Int) (x9 : Int) (x10 : Int) (x11 : Int) (cur_0 : Int) (styleKind_0 : Int) (styleOne_0 : Int) (opened_0 : Int) (cur_1 : Int) (tokenKind_1 : Int → Int) (tokens_1 : Int) (styleKind_1 : Int) (styleOne_1 : Int) (opened_1 : Int) (tokenValue_1 : Int → Int) (tokenPlace_1 : Int → Int) (tokenEnd_1 : Int → Int) (tape_1 : Int → Int) (fault_1 : Int) (limit_1 : Int) (fault_0 : Int) (limit_0 : Int) (tokens_0 : Int) (tape_0 : Int → Int) (tokenKind_0 : Int → Int) (tokenValue_0 : Int → Int) (tokenPlace_0 : Int → Int) (tokenEnd_0 : Int → Int) (gx : Int) (gy : Int) (gu : Int) (k1 : 0 ≤ x1 ∧ x1 ≤ 2009) (k2 : 0 ≤ x2 ∧ x2 ≤ 5) (k3 : 0 ≤ x3 ∧ x3 ≤ 13) (k6 : 0 ≤ x6 ∧ x6 ≤ 2009) (k7 : 0 ≤ x7 ∧ x7 ≤ 2010) (k9 : 1 ≤ x9 ∧ x9 ≤ 1) (k10 : 1 ≤ x10 ∧ x10 ≤ 1) (k11 : 1 ≤ x11 ∧ x11 ≤ 2009) (d0 : x6 + 1 ≤ x11 ∧ x11 ≤ x6 + 1) (g0 : x11 = cur_0) (f1 : (styleKind_0 = 0) → (styleOne_0 ≤ 23)) (f2 : 1 * opened_0 + 0 ≤ k) (f3 : (-1) * opened_0 + 0 ≤ ((-k))) (f4 : 1 * x3 + 0 ≤ k) (f5 : (-1) * x3 + 0 ≤ ((-k))) (f8 : x11 = x6 + x10) (g9 : x6 = cur_1) (f10 : x9 ≠ 0) (f11 : ((cur_1 + 1) ≤ tokens_1) ∧ ((tokens_1 ≤ 2010) ∧ ((tokenKind_1 ((tokens_1 - 1)) = 0) ∨ (tokenKind_1 ((tokens_1 - 1)) = 4)))) (f12 : 1 * x1 + ((-1) * cur_1 + 0) ≤ 0) (f13 : (styleKind_1 = 0) → (styleOne_1 ≤ 23)) (f14 : 1 * opened_1 + 0 ≤ k) (f15 : (-1) * opened_1 + 0 ≤ ((-k))) (f16 : STL (fault_1) (cur_1) (styleKind_1) (limit_1) (tokenKind_1) (tokenValue_1) (tokenPlace_1) (tokenEnd_1) (tape_1) (x1) (x2) (x3)) (f17 : 1 * x3 + 0 ≤ k) (f18 : (-1) * x3 + 0 ≤ ((-k))) (f19 : 1 * x7 + (1 * cur_1 + 0) ≤ 2010) (f20 : (-1) * x7 + ((-1) * cur_1 + 0) ≤ (-2010)) (f21 : (x9 = 1) → (tokenKind_1 (cur_1) = 1)) (f22 : Wqor (fault_1) (cur_1) (limit_1) (tokenKind_1) (tokenPlace_1) (tokenEnd_1) (tape_1) (x9)) (f24 : 1 * x3 + 0 ≤ k) (f25 : (-1) * x3 + 0 ≤ ((-k))) (fe_0_8_1 : fault_0 = fault_1) (fe_0_10_1 : limit_0 = limit_1) (fe_0_157_1 : tokens_0 = tokens_1) (fe_0_158_1 : cur_0 = x11) (fe_0_159_1 : opened_0 = opened_1) (fe_0_164_1 : styleKind_0 = styleKind_1) (fe_0_165_1 : styleOne_0 = styleOne_1) (hE_0_1_1 : ∀ j : Int, tape_0 j = tape_1 j) (hK_0_1 : ∀ j : Int, 0 ≤ j → j < 2000 → (-128) ≤ tape_0 j ∧ tape_0 j ≤ 127) (hE_0_160_1 : ∀ j : Int, tokenKind_0 j = tokenKind_1 j) (hK_0_160 : ∀ j : Int, 0 ≤ j → j < 2010 → 0 ≤ tokenKind_0 j ∧ tokenKind_0 j ≤ 4) (hE_0_161_1 : ∀ j : Int, tokenValue_0 j = tokenValue_1 j) (hE_0_162_1 : ∀ j : Int, tokenPlace_0 j = tokenPlace_1 j) (hK_0_162 : ∀ j : Int, 0 ≤ j → j < 2010 → 0 ≤ tokenPlace_0 j ∧ tokenPlace_0 j ≤ 2000) (hE_0_163_1 : ∀ j : Int, tokenEnd_0 j = tokenEnd_1 j) (hK_0_163 : ∀ j : Int, 0 ≤ j → j < 2010 → 0 ≤ tokenEnd_0 j ∧ tokenEnd_0 j ≤ 2000) (kz_0_8 : 0 ≤ fault_0 ∧ fault_0 ≤ 5) (kz_0_10 : 0 ≤ limit_0 ∧ limit_0 ≤ 2000) (kz_0_157 : 0 ≤ tokens_0 ∧ tokens_0 ≤ 2010) (kz_0_158 : 0 ≤ cur_0 ∧ cur_0 ≤ 2009) (kz_0_159 : 0 ≤ opened_0 ∧ opened_0 ≤ 13) (kz_0_164 : 0 ≤ styleKind_0 ∧ styleKind_0 ≤ 1) (kz_0_165 : (-1) ≤ styleOne_0 ∧ styleOne_0 ≤ 47) (ex2 : gx = cur_0) (ex3 : 0 ≤ gx ∧ gx ≤ 2009) (ey2 : gy = fault_0) (ey3 : 0 ≤ gy ∧ gy ≤ 5) (eu2 : gu = opened_0) (eu3 : 0 ≤ gu ∧ gu ≤ 13) : 1 * gu + 0 ≤ k := by
  subst fe_0_8_1
  subst fe_0_10_1
  subst fe_0_157_1
  subst fe_0_159_1
  subst fe_0_164_1
  subst fe_0_165_1
  have e_hE_0_1_1 := funext hE_0_1_1; subst e_hE_0_1_1
  have e_hE_0_160_1 := funext hE_0_160_1; subst e_hE_0_160_1
  have e_hE_0_161_1 := funext hE_0_161_1; subst e_hE_0_161_1
  have e_hE_0_162_1 := funext hE_0_162_1; subst e_hE_0_162_1
  have e_hE_0_163_1 := funext hE_0_163_1; subst e_hE_0_163_1
  first | with_reducible assumption | ((have f11_c0 := f11.1); (have f11_c1 := f11.2.1); (have f11_c2 := f11.2.2); (try and_intros) <;> first | with_reducible assumption | (clear f11_c2 f11 hE_0_1_1 hK_0_1 hE_0_160_1 hK_0_160 hE_0_161_1 hE_0_162_1 hK_0_162 hE_0_163_1 hK_0_163 f1 f13 f21; omega)) | ((have f11_c0 := f11.1); (have f11_c1 := f11.2.1); (have f11_c2 := f11.2.2); (first | have f1_b := f1 (by clear f11_c2 f11 hE_0_1_1 hK_0_1 hE_0_160_1 hK_0_160 hE_0_161_1 hE_0_162_1 hK_0_162 hE_0_163_1 hK_0_163 f1 f13 f21; omega) | skip); (first | have f13_b := f13 (by clear f11_c2 f11 hE_0_1_1 hK_0_1 hE_0_160_1 hK_0_160 hE_0_161_1 hE_0_162_1 hK_0_162 hE_0_163_1 hK_0_163 f1 f13 f21; omega) | skip); (first | have f21_b := f21 (by clear f11_c2 f11 hE_0_1_1 hK_0_1 hE_0_160_1 hK_0_160 hE_0_161_1 hE_0_162_1 hK_0_162 hE_0_163_1 hK_0_163 f1 f13 f21; omega) | skip); (first | have f1_d := f1 (by with_reducible assumption) | skip); (first | have f13_d := f13 (by with_reducible assumption) | skip); (first | have f21_d := f21 (by with_reducible assumption) | skip); (try and_intros) <;> first | with_reducible assumption | (clear f11_c2 f11 hE_0_1_1 hK_0_1 hE_0_160_1 hK_0_160 hE_0_161_1 hE_0_162_1 hK_0_162 hE_0_163_1 hK_0_163 f1 f13 f21; omega)) | ((have f11_c0 := f11.1); (have f11_c1 := f11.2.1); (have f11_c2 := f11.2.2); (first | have f1_b := f1 (by clear f11_c2 f11 hE_0_1_1 hK_0_1 hE_0_160_1 hK_0_160 hE_0_161_1 hE_0_162_1 hK_0_162 hE_0_163_1 hK_0_163 f1 f13 f21; omega) | skip); (first | have f13_b := f13 (by clear f11_c2 f11 hE_0_1_1 hK_0_1 hE_0_160_1 hK_0_160 hE_0_161_1 hE_0_162_1 hK_0_162 hE_0_163_1 hK_0_163 f1 f13 f21; omega) | skip); (first | have f21_b := f21 (by clear f11_c2 f11 hE_0_1_1 hK_0_1 hE_0_160_1 hK_0_160 hE_0_161_1 hE_0_162_1 hK_0_162 hE_0_163_1 hK_0_163 f1 f13 f21; omega) | skip); (first | have f1_d := f1 (by with_reducible assumption) | skip); (first | have f13_d := f13 (by with_reducible assumption) | skip); (first | have f21_d := f21 (by with_reducible assumption) | skip); (first | have f11_q := tk_nx0 f11 (by clear f11_c2 f11 hE_0_1_1 hK_0_1 hE_0_160_1 hK_0_160 hE_0_161_1 hE_0_162_1 hK_0_162 hE_0_163_1 hK_0_163 f1 f13 f21; omega) | skip); (try and_intros) <;> first | with_reducible assumption | (clear f11_c2 f11 hE_0_1_1 hK_0_1 hE_0_160_1 hK_0_160 hE_0_161_1 hE_0_162_1 hK_0_162 hE_0_163_1 hK_0_163 f1 f13 f21; omega)) | ((have f11_c0 := f11.1); (have f11_c1 := f11.2.1); (have f11_c2 := f11.2.2); (first | have f1_b := f1 (by clear f11_c2 f11 hE_0_1_1 hK_0_1 hE_0_160_1 hK_0_160 hE_0_161_1 hE_0_162_1 hK_0_162 hE_0_163_1 hK_0_163 f1 f13 f21; omega) | skip); (first | have f13_b := f13 (by clear f11_c2 f11 hE_0_1_1 hK_0_1 hE_0_160_1 hK_0_160 hE_0_161_1 hE_0_162_1 hK_0_162 hE_0_163_1 hK_0_163 f1 f13 f21; omega) | skip); (first | have f21_b := f21 (by clear f11_c2 f11 hE_0_1_1 hK_0_1 hE_0_160_1 hK_0_160 hE_0_161_1 hE_0_162_1 hK_0_162 hE_0_163_1 hK_0_163 f1 f13 f21; omega) | skip); (first | have f1_d := f1 (by with_reducible assumption) | skip); (first | have f13_d := f13 (by with_reducible assumption) | skip); (first | have f21_d := f21 (by with_reducible assumption) | skip); (first | have f11_q := tk_nx0 f11 (by clear f11_c2 f11 hE_0_1_1 hK_0_1 hE_0_160_1 hK_0_160 hE_0_161_1 hE_0_162_1 hK_0_162 hE_0_163_1 hK_0_163 f1 f13 f21; omega) | skip); (first | have f11_r0 := tk_nx1 (c := cur_1) f11.2 (by clear f11_c2 f11 hE_0_1_1 hK_0_1 hE_0_160_1 hK_0_160 hE_0_161_1 hE_0_162_1 hK_0_162 hE_0_163_1 hK_0_163 f1 f13 f21; omega) (by clear f11_c2 f11 hE_0_1_1 hK_0_1 hE_0_160_1 hK_0_160 hE_0_161_1 hE_0_162_1 hK_0_162 hE_0_163_1 hK_0_163 f1 f13 f21; omega) | skip); (try and_intros) <;> first | with_reducible assumption | (clear f11_c2 f11 hE_0_1_1 hK_0_1 hE_0_160_1 hK_0_160 hE_0_161_1 hE_0_162_1 hK_0_162 hE_0_163_1 hK_0_163 f1 f13 f21; omega)) | omega
set_option maxHeartbeats 4000000 in
theorem vc_Mo_test_f_4_12 (k : Int) (hk0 : 0 ≤ k) (hk1 : k ≤ 12) (x1 : Int) (x2 : Int) (x3 : Int) (x6 : Int) (x7 : Int) (x9 : Int) (x10 : Int) (x11 : Int) (cur_0 : Int) (styleKind_0 : Int) (styleOne_0 : Int) (opened_0 : Int) (cur_1 : Int) (tokenKind_1 : Int → Int) (tokens_1 : Int) (styleKind_1 : Int) (styleOne_1 : Int) (opened_1 : Int) (tokenValue_1 : Int → Int) (tokenPlace_1 : Int → Int) (tokenEnd_1 : Int → Int) (tape_1 : Int → Int) (fault_1 : Int) (limit_1 : Int) (fault_0 : Int) (limit_0 : Int) (tokens_0 : Int) (tape_0 : Int → Int) (tokenKind_0 : Int → Int) (tokenValue_0 : Int → Int) (tokenPlace_0 : Int → Int) (tokenEnd_0 : Int → Int) (gx : Int) (gy : Int) (gu : Int) (k1 : 0 ≤ x1 ∧ x1 ≤ 2009) (k2 : 0 ≤ x2 ∧ x2 ≤ 5) (k3 : 0 ≤ x3 ∧ x3 ≤ 13) (k6 : 0 ≤ x6 ∧ x6 ≤ 2009) (k7 : 0 ≤ x7 ∧ x7 ≤ 2010) (k9 : 1 ≤ x9 ∧ x9 ≤ 1) (k10 : 1 ≤ x10 ∧ x10 ≤ 1) (k11 : 1 ≤ x11 ∧ x11 ≤ 2009) (d0 : x6 + 1 ≤ x11 ∧ x11 ≤ x6 + 1) (g0 : x11 = cur_0) (f1 : (styleKind_0 = 0) → (styleOne_0 ≤ 23)) (f2 : 1 * opened_0 + 0 ≤ k) (f3 : (-1) * opened_0 + 0 ≤ ((-k))) (f4 : 1 * x3 + 0 ≤ k) (f5 : (-1) * x3 + 0 ≤ ((-k))) (f8 : x11 = x6 + x10) (g9 : x6 = cur_1) (f10 : x9 ≠ 0) (f11 : ((cur_1 + 1) ≤ tokens_1) ∧ ((tokens_1 ≤ 2010) ∧ ((tokenKind_1 ((tokens_1 - 1)) = 0) ∨ (tokenKind_1 ((tokens_1 - 1)) = 4)))) (f12 : 1 * x1 + ((-1) * cur_1 + 0) ≤ 0) (f13 : (styleKind_1 = 0) → (styleOne_1 ≤ 23)) (f14 : 1 * opened_1 + 0 ≤ k) (f15 : (-1) * opened_1 + 0 ≤ ((-k))) (f16 : STL (fault_1) (cur_1) (styleKind_1) (limit_1) (tokenKind_1) (tokenValue_1) (tokenPlace_1) (tokenEnd_1) (tape_1) (x1) (x2) (x3)) (f17 : 1 * x3 + 0 ≤ k) (f18 : (-1) * x3 + 0 ≤ ((-k))) (f19 : 1 * x7 + (1 * cur_1 + 0) ≤ 2010) (f20 : (-1) * x7 + ((-1) * cur_1 + 0) ≤ (-2010)) (f21 : (x9 = 1) → (tokenKind_1 (cur_1) = 1)) (f22 : Wqor (fault_1) (cur_1) (limit_1) (tokenKind_1) (tokenPlace_1) (tokenEnd_1) (tape_1) (x9)) (f24 : 1 * x3 + 0 ≤ k) (f25 : (-1) * x3 + 0 ≤ ((-k))) (fe_0_8_1 : fault_0 = fault_1) (fe_0_10_1 : limit_0 = limit_1) (fe_0_157_1 : tokens_0 = tokens_1) (fe_0_158_1 : cur_0 = x11) (fe_0_159_1 : opened_0 = opened_1) (fe_0_164_1 : styleKind_0 = styleKind_1) (fe_0_165_1 : styleOne_0 = styleOne_1) (hE_0_1_1 : ∀ j : Int, tape_0 j = tape_1 j) (hK_0_1 : ∀ j : Int, 0 ≤ j → j < 2000 → (-128) ≤ tape_0 j ∧ tape_0 j ≤ 127) (hE_0_160_1 : ∀ j : Int, tokenKind_0 j = tokenKind_1 j) (hK_0_160 : ∀ j : Int, 0 ≤ j → j < 2010 → 0 ≤ tokenKind_0 j ∧ tokenKind_0 j ≤ 4) (hE_0_161_1 : ∀ j : Int, tokenValue_0 j = tokenValue_1 j) (hE_0_162_1 : ∀ j : Int, tokenPlace_0 j = tokenPlace_1 j) (hK_0_162 : ∀ j : Int, 0 ≤ j → j < 2010 → 0 ≤ tokenPlace_0 j ∧ tokenPlace_0 j ≤ 2000) (hE_0_163_1 : ∀ j : Int, tokenEnd_0 j = tokenEnd_1 j) (hK_0_163 : ∀ j : Int, 0 ≤ j → j < 2010 → 0 ≤ tokenEnd_0 j ∧ tokenEnd_0 j ≤ 2000) (kz_0_8 : 0 ≤ fault_0 ∧ fault_0 ≤ 5) (kz_0_10 : 0 ≤ limit_0 ∧ limit_0 ≤ 2000) (kz_0_157 : 0 ≤ tokens_0 ∧ tokens_0 ≤ 2010) (kz_0_158 : 0 ≤ cur_0 ∧ cur_0 ≤ 2009) (kz_0_159 : 0 ≤ opened_0 ∧ opened_0 ≤ 13) (kz_0_164 : 0 ≤ styleKind_0 ∧ styleKind_0 ≤ 1) (kz_0_165 : (-1) ≤ styleOne_0 ∧ styleOne_0 ≤ 47) (ex2 : gx = cur_0) (ex3 : 0 ≤ gx ∧ gx ≤ 2009) (ey2 : gy = fault_0) (ey3 : 0 ≤ gy ∧ gy ≤ 5) (eu2 : gu = opened_0) (eu3 : 0 ≤ gu ∧ gu ≤ 13) : (-1) * gu + 0 ≤ ((-k)) := by
  subst fe_0_8_1
  subst fe_0_10_1
  subst fe_0_157_1
  subst fe_0_159_1
  subst fe_0_164_1
  subst fe_0_165_1
  have e_hE_0_1_1 := funext hE_0_1_1; subst e_hE_0_1_1
  have e_hE_0_160_1 := funext hE_0_160_1; subst e_hE_0_160_1
  have e_hE_0_161_1 := funext hE_0_161_1; subst e_hE_0_161_1
  have e_hE_0_162_1 := funext hE_0_162_1; subst e_hE_0_162_1
  have e_hE_0_163_1 := funext hE_0_163_1; subst e_hE_0_163_1
  first | with_reducible assumption | ((have f11_c0 := f11.1); (have f11_c1 := f11.2.1); (have f11_c2 := f11.2.2); (try and_intros) <;> first | with_reducible assumption | (clear f11_c2 f11 hE_0_1_1 hK_0_1 hE_0_160_1 hK_0_160 hE_0_161_1 hE_0_162_1 hK_0_162 hE_0_163_1 hK_0_163 f1 f13 f21; omega)) | ((have f11_c0 := f11.1); (have f11_c1 := f11.2.1); (have f11_c2 := f11.2.2); (first | have f1_b := f1 (by clear f11_c2 f11 hE_0_1_1 hK_0_1 hE_0_160_1 hK_0_160 hE_0_161_1 hE_0_162_1 hK_0_162 hE_0_163_1 hK_0_163 f1 f13 f21; omega) | skip); (first | have f13_b := f13 (by clear f11_c2 f11 hE_0_1_1 hK_0_1 hE_0_160_1 hK_0_160 hE_0_161_1 hE_0_162_1 hK_0_162 hE_0_163_1 hK_0_163 f1 f13 f21; omega) | skip); (first | have f21_b := f21 (by clear f11_c2 f11 hE_0_1_1 hK_0_1 hE_0_160_1 hK_0_160 hE_0_161_1 hE_0_162_1 hK_0_162 hE_0_163_1 hK_0_163 f1 f13 f21; omega) | skip); (first | have f1_d := f1 (by with_reducible assumption) | skip); (first | have f13_d := f13 (by with_reducible assumption) | skip); (first | have f21_d := f21 (by with_reducible assumption) | skip); (try and_intros) <;> first | with_reducible assumption | (clear f11_c2 f11 hE_0_1_1 hK_0_1 hE_0_160_1 hK_0_160 hE_0_161_1 hE_0_162_1 hK_0_162 hE_0_163_1 hK_0_163 f1 f13 f21; omega)) | ((have f11_c0 := f11.1); (have f11_c1 := f11.2.1); (have f11_c2 := f11.2.2); (first | have f1_b := f1 (by clear f11_c2 f11 hE_0_1_1 hK_0_1 hE_0_160_1 hK_0_160 hE_0_161_1 hE_0_162_1 hK_0_162 hE_0_163_1 hK_0_163 f1 f13 f21; omega) | skip); (first | have f13_b := f13 (by clear f11_c2 f11 hE_0_1_1 hK_0_1 hE_0_160_1 hK_0_160 hE_0_161_1 hE_0_162_1 hK_0_162 hE_0_163_1 hK_0_163 f1 f13 f21; omega) | skip); (first | have f21_b := f21 (by clear f11_c2 f11 hE_0_1_1 hK_0_1 hE_0_160_1 hK_0_160 hE_0_161_1 hE_0_162_1 hK_0_162 hE_0_163_1 hK_0_163 f1 f13 f21; omega) | skip); (first | have f1_d := f1 (by with_reducible assumption) | skip); (first | have f13_d := f13 (by with_reducible assumption) | skip); (first | have f21_d := f21 (by with_reducible assumption) | skip); (first | have f11_q := tk_nx0 f11 (by clear f11_c2 f11 hE_0_1_1 hK_0_1 hE_0_160_1 hK_0_160 hE_0_161_1 hE_0_162_1 hK_0_162 hE_0_163_1 hK_0_163 f1 f13 f21; omega) | skip); (try and_intros) <;> first | with_reducible assumption | (clear f11_c2 f11 hE_0_1_1 hK_0_1 hE_0_160_1 hK_0_160 hE_0_161_1 hE_0_162_1 hK_0_162 hE_0_163_1 hK_0_163 f1 f13 f21; omega)) | ((have f11_c0 := f11.1); (have f11_c1 := f11.2.1); (have f11_c2 := f11.2.2); (first | have f1_b := f1 (by clear f11_c2 f11 hE_0_1_1 hK_0_1 hE_0_160_1 hK_0_160 hE_0_161_1 hE_0_162_1 hK_0_162 hE_0_163_1 hK_0_163 f1 f13 f21; omega) | skip); (first | have f13_b := f13 (by clear f11_c2 f11 hE_0_1_1 hK_0_1 hE_0_160_1 hK_0_160 hE_0_161_1 hE_0_162_1 hK_0_162 hE_0_163_1 hK_0_163 f1 f13 f21; omega) | skip); (first | have f21_b := f21 (by clear f11_c2 f11 hE_0_1_1 hK_0_1 hE_0_160_1 hK_0_160 hE_0_161_1 hE_0_162_1 hK_0_162 hE_0_163_1 hK_0_163 f1 f13 f21; omega) | skip); (first | have f1_d := f1 (by with_reducible assumption) | skip); (first | have f13_d := f13 (by with_reducible assumption) | skip); (first | have f21_d := f21 (by with_reducible assumption) | skip); (first | have f11_q := tk_nx0 f11 (by clear f11_c2 f11 hE_0_1_1 hK_0_1 hE_0_160_1 hK_0_160 hE_0_161_1 hE_0_162_1 hK_0_162 hE_0_163_1 hK_0_163 f1 f13 f21; omega) | skip); (first | have f11_r0 := tk_nx1 (c := cur_1) f11.2 (by clear f11_c2 f11 hE_0_1_1 hK_0_1 hE_0_160_1 hK_0_160 hE_0_161_1 hE_0_162_1 hK_0_162 hE_0_163_1 hK_0_163 f1 f13 f21; omega) (by clear f11_c2 f11 hE_0_1_1 hK_0_1 hE_0_160_1 hK_0_160 hE_0_161_1 hE_0_162_1 hK_0_162 hE_0_163_1 hK_0_163 f1 f13 f21; omega) | skip); (try and_intros) <;> first | with_reducible assumption | (clear f11_c2 f11 hE_0_1_1 hK_0_1 hE_0_160_1 hK_0_160 hE_0_161_1 hE_0_162_1 hK_0_162 hE_0_163_1 hK_0_163 f1 f13 f21; omega)) | omega
def o_Mo_test_f_4 (k : Int) : or_T := (26, 12, [(0, (2, 0, 0, [165])), (1, (0, 0, 2009, [])), (2, (0, 0, 5, [])), (3, (0, 0, 13, [])), (4, (2, 0, 0, [165])), (6, (0, 0, 2009, [])), (7, (0, 0, 2010, [])), (9, (0, 1, 1, [])), (10, (0, 1, 1, [])), (11, (0, 1, 2009, []))], [(9, [11, 4], [158]), (20, [4], [50, 2, 0, 164, 165, 4, 7, 1, 3, 2, 0, 164, 0, 0, 0, 3, 2, 0, 165, 0, 23]), (20, [4], [30, k, 1, 1, 159]), (20, [4], [30, (-k), -1, 1, 159]), (23, [3], [k, 1]), (23, [3], [(-k), -1]), (24, [0, 4], []), (101, [4, 11], [158]), (1, [11, 6, 10], []), (9, [6, 4], [158]), (8, [9], [1]), (20, [4], [50, 2, 1, 158, 157, 160, 2, 12, 0, 7, 4, 3, 2, 0, 158, 0, 1, 2, 0, 157, 2, 7, 0, 3, 2, 0, 157, 0, 2010, 3, 14, 1, 10, 3, 0, 160, 5, 3, 2, 0, 157, 0, 1, 0, 0, 1, 10, 3, 0, 160, 5, 3, 2, 0, 157, 0, 1, 0, 4]), (20, [1, 4], [30, 0, 1, 0, 0, -1, 1, 158]), (20, [4], [50, 2, 0, 164, 165, 4, 7, 1, 3, 2, 0, 164, 0, 0, 0, 3, 2, 0, 165, 0, 23]), (20, [4], [30, k, 1, 1, 159]), (20, [4], [30, (-k), -1, 1, 159]), (20, [4, 1, 2, 3], [60, 4, 5, 9, 8, 158, 164, 10, 160, 161, 162, 163, 1]), (23, [3], [k, 1]), (23, [3], [(-k), -1]), (20, [7, 4], [30, 2010, 1, 0, 0, 1, 1, 158]), (20, [7, 4], [30, -2010, -1, 0, 0, -1, 1, 158]), (20, [9, 4], [50, 1, 1, 1158, 1160, 4, 6, 1, 2, 1, 0, 0, 1, 1, 6, 3, 1, 160, 2, 1, 158, 0, 1]), (20, [4, 9], [60, 3, 4, 25, 8, 158, 10, 160, 162, 163, 1]), (102, [8], [0]), (23, [3], [k, 1]), (23, [3], [(-k), -1])], [], [(0, 0, 2009, []), (0, 0, 5, []), (0, 0, 13, [])], [(20, [4], [50, 2, 1, 158, 157, 160, 2, 12, 0, 7, 4, 3, 2, 0, 158, 0, 1, 2, 0, 157, 2, 7, 0, 3, 2, 0, 157, 0, 2010, 3, 14, 1, 10, 3, 0, 160, 5, 3, 2, 0, 157, 0, 1, 0, 0, 1, 10, 3, 0, 160, 5, 3, 2, 0, 157, 0, 1, 0, 4]), (20, [4, 12], [30, 0, 1, 1, 158, -1, 0, 0]), (20, [4, 12], [30, 0, -1, 1, 158, 1, 0, 0]), (20, [4], [50, 2, 0, 164, 165, 4, 7, 1, 3, 2, 0, 164, 0, 0, 0, 3, 2, 0, 165, 0, 23]), (20, [4], [30, k, 1, 1, 159]), (20, [4], [30, (-k), -1, 1, 159]), (20, [4, 13], [50, 1, 0, 8, 1, 3, 2, 0, 8, 1, 1]), (20, [4, 14], [50, 1, 0, 159, 1, 3, 2, 0, 159, 1, 1]), (23, [1, 12], [0, 1, -1]), (23, [7, 12], [-2011, -1, -1]), (20, [4, 12, 13, 1, 2, 3], [60, 2, 5, 13, 164, 10, 160, 161, 162, 163, 1]), (23, [14], [k, 1]), (23, [14], [(-k), -1])], [], [(11, 6, 1, 1)])
theorem oo_Mo_test_f_4 {kA : Nat → ClassId} (k : Int) (hk0 : 0 ≤ k) (hk1 : k ≤ 12) : or_ok PRD kA GG (o_Mo_test_f_4 k) := by
  refine or_mk fun A ta ws vs hD hth hl => ?_
  intro t0 r0 t1 k1 t2 k2 t3 k3 t4 r4 t6 k6 t7 k7 t9 k9 t10 k10 t11 k11 d0 f0 f1 f2 f3 f4 f5 f6 ta1 w1 le1 s1 f8 f9 f10 f11 f12 f13 f14 f15 f16 f17 f18 f19 f20 f21 f22 ta2 w2 le2 s2 f24 f25
  replace f0 := shm_286 f0
  replace f1 := shm_274 f1
  replace f2 := shm_275 f2
  replace f3 := shm_276 f3
  replace f4 := shm_279 f4
  replace f5 := shm_280 f5
  replace f6 := shm_5 f6
  have s1 : (∀ b j, w_el ws b j = w_el w1 b j) ∧ ∀ b j, w_fd ws b j = if b = v_ad (n_v vs 4) ∧ j = 158 then n_v vs 11 else w_fd w1 b j := s1.2
  replace f8 := shm_12 f8
  replace f9 := shm_286 f9
  replace f10 := shm_142 f10
  replace f11 := shm_271 f11
  replace f12 := shm_281 f12
  replace f13 := shm_274 f13
  replace f14 := shm_275 f14
  replace f15 := shm_276 f15
  replace f16 := shm_339 f16
  replace f17 := shm_279 f17
  replace f18 := shm_280 f18
  replace f19 := shm_284 f19
  replace f20 := shm_285 f20
  replace f21 := shm_287 f21
  replace f22 := shm_340 f22
  replace f24 := shm_279 f24
  replace f25 := shm_280 f25
  have q4 : n_v vs 4 = n_v vs 0 := f6.symm
  simp only [q4] at f0 f1 f2 f3
  rw [q4] at s1
  simp only [q4] at f9 f11 f12 f13 f14 f15 f16 f19 f20 f21 f22
  have ar_0_1_1 : w_ar w1 (n_v vs 0) 1 = w_ar ws (n_v vs 0) 1 := by show v_ad (w_fd w1 _ _) = v_ad (w_fd ws _ _); rw [s1.2, if_neg (fun e => absurd e.2 (by decide))]
  have cr_0_1 := fdq_39 hD hth r0
  have ar_0_160_1 : w_ar w1 (n_v vs 0) 160 = w_ar ws (n_v vs 0) 160 := by show v_ad (w_fd w1 _ _) = v_ad (w_fd ws _ _); rw [s1.2, if_neg (fun e => absurd e.2 (by decide))]
  have cr_0_160 := fdq_33 hD hth r0
  have ar_0_161_1 : w_ar w1 (n_v vs 0) 161 = w_ar ws (n_v vs 0) 161 := by show v_ad (w_fd w1 _ _) = v_ad (w_fd ws _ _); rw [s1.2, if_neg (fun e => absurd e.2 (by decide))]
  have ar_0_162_1 : w_ar w1 (n_v vs 0) 162 = w_ar ws (n_v vs 0) 162 := by show v_ad (w_fd w1 _ _) = v_ad (w_fd ws _ _); rw [s1.2, if_neg (fun e => absurd e.2 (by decide))]
  have cr_0_162 := fdq_41 hD hth r0
  have ar_0_163_1 : w_ar w1 (n_v vs 0) 163 = w_ar ws (n_v vs 0) 163 := by show v_ad (w_fd w1 _ _) = v_ad (w_fd ws _ _); rw [s1.2, if_neg (fun e => absurd e.2 (by decide))]
  have cr_0_163 := fdq_42 hD hth r0
  have g0 : v_iv (n_v vs 11) = w_fi ws (n_v vs 0) 158 := congrArg v_iv f0
  have g9 : v_iv (n_v vs 6) = w_fi w1 (n_v vs 0) 158 := congrArg v_iv f9
  simp only [ar_0_160_1, ar_0_1_1, ar_0_161_1, ar_0_162_1, ar_0_163_1] at f11 f16 f21 f22
  have fe_0_8_1 : w_fi ws (n_v vs 0) 8 = w_fi w1 (n_v vs 0) 8 := by show v_iv (w_fd _ _ _) = v_iv (w_fd _ _ _); rw [s1.2, if_neg (fun e => absurd e.2 (by decide))]
  have fe_0_10_1 : w_fi ws (n_v vs 0) 10 = w_fi w1 (n_v vs 0) 10 := by show v_iv (w_fd _ _ _) = v_iv (w_fd _ _ _); rw [s1.2, if_neg (fun e => absurd e.2 (by decide))]
  have fe_0_157_1 : w_fi ws (n_v vs 0) 157 = w_fi w1 (n_v vs 0) 157 := by show v_iv (w_fd _ _ _) = v_iv (w_fd _ _ _); rw [s1.2, if_neg (fun e => absurd e.2 (by decide))]
  have fe_0_158_1 : w_fi ws (n_v vs 0) 158 = v_iv (n_v vs 11) := by show v_iv (w_fd _ _ _) = _; rw [s1.2, if_pos ⟨rfl, rfl⟩]
  have fe_0_159_1 : w_fi ws (n_v vs 0) 159 = w_fi w1 (n_v vs 0) 159 := by show v_iv (w_fd _ _ _) = v_iv (w_fd _ _ _); rw [s1.2, if_neg (fun e => absurd e.2 (by decide))]
  have fe_0_164_1 : w_fi ws (n_v vs 0) 164 = w_fi w1 (n_v vs 0) 164 := by show v_iv (w_fd _ _ _) = v_iv (w_fd _ _ _); rw [s1.2, if_neg (fun e => absurd e.2 (by decide))]
  have fe_0_165_1 : w_fi ws (n_v vs 0) 165 = w_fi w1 (n_v vs 0) 165 := by show v_iv (w_fd _ _ _) = v_iv (w_fd _ _ _); rw [s1.2, if_neg (fun e => absurd e.2 (by decide))]
  have hE_0_1_1 : ∀ j : Int, w_ei ws (w_ar ws (n_v vs 0) 1) j = w_ei w1 (w_ar ws (n_v vs 0) 1) j := fun j => s1.1 _ _
  have hK_0_1 := elq_7 hD hth cr_0_1
  have hE_0_160_1 : ∀ j : Int, w_ei ws (w_ar ws (n_v vs 0) 160) j = w_ei w1 (w_ar ws (n_v vs 0) 160) j := fun j => s1.1 _ _
  have hK_0_160 := elq_6 hD hth cr_0_160
  have hE_0_161_1 : ∀ j : Int, w_ei ws (w_ar ws (n_v vs 0) 161) j = w_ei w1 (w_ar ws (n_v vs 0) 161) j := fun j => s1.1 _ _
  have hE_0_162_1 : ∀ j : Int, w_ei ws (w_ar ws (n_v vs 0) 162) j = w_ei w1 (w_ar ws (n_v vs 0) 162) j := fun j => s1.1 _ _
  have hK_0_162 := elq_8 hD hth cr_0_162
  have hE_0_163_1 : ∀ j : Int, w_ei ws (w_ar ws (n_v vs 0) 163) j = w_ei w1 (w_ar ws (n_v vs 0) 163) j := fun j => s1.1 _ _
  have hK_0_163 := elq_9 hD hth cr_0_163
  have kz_0_8 := fdq_34 hD hth r0
  have kz_0_10 := fdq_43 hD hth r0
  have kz_0_157 := fdq_35 hD hth r0
  have kz_0_158 := fdq_36 hD hth r0
  have kz_0_159 := fdq_37 hD hth r0
  have kz_0_164 := fdq_38 hD hth r0
  have kz_0_165 := fdq_27 hD hth r0
  obtain ⟨x, ex, hx⟩ := iv_ex (ta := ta) (lo := 0) (hi := 2009) (z := w_fi ws (n_v vs 0) 158) (by omega) (by omega) (by omega) (by omega)
  have ex2 : v_iv (Value.int x) = w_fi ws (n_v vs 0) 158 := ex
  have ex3 : 0 ≤ v_iv (Value.int x) ∧ v_iv (Value.int x) ≤ 2009 := tv_rng hx
  obtain ⟨y, ey, hy⟩ := iv_ex (ta := ta) (lo := 0) (hi := 5) (z := w_fi ws (n_v vs 0) 8) (by omega) (by omega) (by omega) (by omega)
  have ey2 : v_iv (Value.int y) = w_fi ws (n_v vs 0) 8 := ey
  have ey3 : 0 ≤ v_iv (Value.int y) ∧ v_iv (Value.int y) ≤ 5 := tv_rng hy
  obtain ⟨u, eu, hu⟩ := iv_ex (ta := ta) (lo := 0) (hi := 13) (z := w_fi ws (n_v vs 0) 159) (by omega) (by omega) (by omega) (by omega)
  have eu2 : v_iv (Value.int u) = w_fi ws (n_v vs 0) 159 := eu
  have eu3 : 0 ≤ v_iv (Value.int u) ∧ v_iv (Value.int u) ≤ 13 := tv_rng hu
  have e_1 : n_v (vs ++ [Value.int x, Value.int y, Value.int u]) 1 = n_v vs 1 := n_v_old (by rw [hl]; decide)
  have e_2 : n_v (vs ++ [Value.int x, Value.int y, Value.int u]) 2 = n_v vs 2 := n_v_old (by rw [hl]; decide)
  have e_3 : n_v (vs ++ [Value.int x, Value.int y, Value.int u]) 3 = n_v vs 3 := n_v_old (by rw [hl]; decide)
  have e_4 : n_v (vs ++ [Value.int x, Value.int y, Value.int u]) 4 = n_v vs 4 := n_v_old (by rw [hl]; decide)
  have e_7 : n_v (vs ++ [Value.int x, Value.int y, Value.int u]) 7 = n_v vs 7 := n_v_old (by rw [hl]; decide)
  have e_12 : n_v (vs ++ [Value.int x, Value.int y, Value.int u]) 12 = Value.int x := n_v_newk (k := 0) hl rfl
  have e_13 : n_v (vs ++ [Value.int x, Value.int y, Value.int u]) 13 = Value.int y := n_v_newk (k := 1) hl rfl
  have e_14 : n_v (vs ++ [Value.int x, Value.int y, Value.int u]) 14 = Value.int u := n_v_newk (k := 2) hl rfl
  have nf0 : fc_1 PRD (20, [4], [50, 2, 1, 158, 157, 160, 2, 12, 0, 7, 4, 3, 2, 0, 158, 0, 1, 2, 0, 157, 2, 7, 0, 3, 2, 0, 157, 0, 2010, 3, 14, 1, 10, 3, 0, 160, 5, 3, 2, 0, 157, 0, 1, 0, 0, 1, 10, 3, 0, 160, 5, 3, 2, 0, 157, 0, 1, 0, 4]) ws (vs ++ [Value.int x, Value.int y, Value.int u]) := by
    refine ⟨nf_inA hl rfl, sgq_271 ?_⟩
    · show ((w_fi ws (n_v (vs ++ [Value.int x, Value.int y, Value.int u]) 4) 158 + 1) ≤ w_fi ws (n_v (vs ++ [Value.int x, Value.int y, Value.int u]) 4) 157) ∧ ((w_fi ws (n_v (vs ++ [Value.int x, Value.int y, Value.int u]) 4) 157 ≤ 2010) ∧ ((w_ei ws (w_ar ws (n_v (vs ++ [Value.int x, Value.int y, Value.int u]) 4) 160) ((w_fi ws (n_v (vs ++ [Value.int x, Value.int y, Value.int u]) 4) 157 - 1)) = 0) ∨ (w_ei ws (w_ar ws (n_v (vs ++ [Value.int x, Value.int y, Value.int u]) 4) 160) ((w_fi ws (n_v (vs ++ [Value.int x, Value.int y, Value.int u]) 4) 157 - 1)) = 4)))
      simp only [e_4, q4]
      exact vc_Mo_test_f_4_0 k hk0 hk1 (v_iv (n_v vs 1)) (v_iv (n_v vs 2)) (v_iv (n_v vs 3)) (v_iv (n_v vs 6)) (v_iv (n_v vs 7)) (v_iv (n_v vs 9)) (v_iv (n_v vs 10)) (v_iv (n_v vs 11)) (w_fi ws (n_v vs 0) 158) (w_fi ws (n_v vs 0) 164) (w_fi ws (n_v vs 0) 165) (w_fi ws (n_v vs 0) 159) (w_fi w1 (n_v vs 0) 158) (w_ei w1 (w_ar ws (n_v vs 0) 160)) (w_fi w1 (n_v vs 0) 157) (w_fi w1 (n_v vs 0) 164) (w_fi w1 (n_v vs 0) 165) (w_fi w1 (n_v vs 0) 159) (w_ei w1 (w_ar ws (n_v vs 0) 161)) (w_ei w1 (w_ar ws (n_v vs 0) 162)) (w_ei w1 (w_ar ws (n_v vs 0) 163)) (w_ei w1 (w_ar ws (n_v vs 0) 1)) (w_fi w1 (n_v vs 0) 8) (w_fi w1 (n_v vs 0) 10) (w_fi ws (n_v vs 0) 8) (w_fi ws (n_v vs 0) 10) (w_fi ws (n_v vs 0) 157) (w_ei ws (w_ar ws (n_v vs 0) 1)) (w_ei ws (w_ar ws (n_v vs 0) 160)) (w_ei ws (w_ar ws (n_v vs 0) 161)) (w_ei ws (w_ar ws (n_v vs 0) 162)) (w_ei ws (w_ar ws (n_v vs 0) 163)) (v_iv (Value.int x)) (v_iv (Value.int y)) (v_iv (Value.int u)) k1 k2 k3 k6 k7 k9 k10 k11 d0 g0 f1 f2 f3 f4 f5 f8 g9 f10 f11 f12 f13 f14 f15 f16 f17 f18 f19 f20 f21 f22 f24 f25 fe_0_8_1 fe_0_10_1 fe_0_157_1 fe_0_158_1 fe_0_159_1 fe_0_164_1 fe_0_165_1 hE_0_1_1 hK_0_1 hE_0_160_1 hK_0_160 hE_0_161_1 hE_0_162_1 hK_0_162 hE_0_163_1 hK_0_163 kz_0_8 kz_0_10 kz_0_157 kz_0_158 kz_0_159 kz_0_164 kz_0_165 ex2 ex3 ey2 ey3 eu2 eu3
  have nf1 : fc_1 PRD (20, [4, 12], [30, 0, 1, 1, 158, -1, 0, 0]) ws (vs ++ [Value.int x, Value.int y, Value.int u]) := by
    refine ⟨nf_inA hl rfl, sgq_272 ?_⟩
    · show 1 * w_fi ws (n_v (vs ++ [Value.int x, Value.int y, Value.int u]) 4) 158 + ((-1) * v_iv (n_v (vs ++ [Value.int x, Value.int y, Value.int u]) 12) + 0) ≤ 0
      simp only [e_4, e_12, q4]
      exact vc_Mo_test_f_4_1 k hk0 hk1 (v_iv (n_v vs 1)) (v_iv (n_v vs 2)) (v_iv (n_v vs 3)) (v_iv (n_v vs 6)) (v_iv (n_v vs 7)) (v_iv (n_v vs 9)) (v_iv (n_v vs 10)) (v_iv (n_v vs 11)) (w_fi ws (n_v vs 0) 158) (w_fi ws (n_v vs 0) 164) (w_fi ws (n_v vs 0) 165) (w_fi ws (n_v vs 0) 159) (w_fi w1 (n_v vs 0) 158) (w_ei w1 (w_ar ws (n_v vs 0) 160)) (w_fi w1 (n_v vs 0) 157) (w_fi w1 (n_v vs 0) 164) (w_fi w1 (n_v vs 0) 165) (w_fi w1 (n_v vs 0) 159) (w_ei w1 (w_ar ws (n_v vs 0) 161)) (w_ei w1 (w_ar ws (n_v vs 0) 162)) (w_ei w1 (w_ar ws (n_v vs 0) 163)) (w_ei w1 (w_ar ws (n_v vs 0) 1)) (w_fi w1 (n_v vs 0) 8) (w_fi w1 (n_v vs 0) 10) (w_fi ws (n_v vs 0) 8) (w_fi ws (n_v vs 0) 10) (w_fi ws (n_v vs 0) 157) (w_ei ws (w_ar ws (n_v vs 0) 1)) (w_ei ws (w_ar ws (n_v vs 0) 160)) (w_ei ws (w_ar ws (n_v vs 0) 161)) (w_ei ws (w_ar ws (n_v vs 0) 162)) (w_ei ws (w_ar ws (n_v vs 0) 163)) (v_iv (Value.int x)) (v_iv (Value.int y)) (v_iv (Value.int u)) k1 k2 k3 k6 k7 k9 k10 k11 d0 g0 f1 f2 f3 f4 f5 f8 g9 f10 f11 f12 f13 f14 f15 f16 f17 f18 f19 f20 f21 f22 f24 f25 fe_0_8_1 fe_0_10_1 fe_0_157_1 fe_0_158_1 fe_0_159_1 fe_0_164_1 fe_0_165_1 hE_0_1_1 hK_0_1 hE_0_160_1 hK_0_160 hE_0_161_1 hE_0_162_1 hK_0_162 hE_0_163_1 hK_0_163 kz_0_8 kz_0_10 kz_0_157 kz_0_158 kz_0_159 kz_0_164 kz_0_165 ex2 ex3 ey2 ey3 eu2 eu3
  have nf2 : fc_1 PRD (20, [4, 12], [30, 0, -1, 1, 158, 1, 0, 0]) ws (vs ++ [Value.int x, Value.int y, Value.int u]) := by
    refine ⟨nf_inA hl rfl, sgq_273 ?_⟩
    · show (-1) * w_fi ws (n_v (vs ++ [Value.int x, Value.int y, Value.int u]) 4) 158 + (1 * v_iv (n_v (vs ++ [Value.int x, Value.int y, Value.int u]) 12) + 0) ≤ 0
      simp only [e_4, e_12, q4]
      exact vc_Mo_test_f_4_2 k hk0 hk1 (v_iv (n_v vs 1)) (v_iv (n_v vs 2)) (v_iv (n_v vs 3)) (v_iv (n_v vs 6)) (v_iv (n_v vs 7)) (v_iv (n_v vs 9)) (v_iv (n_v vs 10)) (v_iv (n_v vs 11)) (w_fi ws (n_v vs 0) 158) (w_fi ws (n_v vs 0) 164) (w_fi ws (n_v vs 0) 165) (w_fi ws (n_v vs 0) 159) (w_fi w1 (n_v vs 0) 158) (w_ei w1 (w_ar ws (n_v vs 0) 160)) (w_fi w1 (n_v vs 0) 157) (w_fi w1 (n_v vs 0) 164) (w_fi w1 (n_v vs 0) 165) (w_fi w1 (n_v vs 0) 159) (w_ei w1 (w_ar ws (n_v vs 0) 161)) (w_ei w1 (w_ar ws (n_v vs 0) 162)) (w_ei w1 (w_ar ws (n_v vs 0) 163)) (w_ei w1 (w_ar ws (n_v vs 0) 1)) (w_fi w1 (n_v vs 0) 8) (w_fi w1 (n_v vs 0) 10) (w_fi ws (n_v vs 0) 8) (w_fi ws (n_v vs 0) 10) (w_fi ws (n_v vs 0) 157) (w_ei ws (w_ar ws (n_v vs 0) 1)) (w_ei ws (w_ar ws (n_v vs 0) 160)) (w_ei ws (w_ar ws (n_v vs 0) 161)) (w_ei ws (w_ar ws (n_v vs 0) 162)) (w_ei ws (w_ar ws (n_v vs 0) 163)) (v_iv (Value.int x)) (v_iv (Value.int y)) (v_iv (Value.int u)) k1 k2 k3 k6 k7 k9 k10 k11 d0 g0 f1 f2 f3 f4 f5 f8 g9 f10 f11 f12 f13 f14 f15 f16 f17 f18 f19 f20 f21 f22 f24 f25 fe_0_8_1 fe_0_10_1 fe_0_157_1 fe_0_158_1 fe_0_159_1 fe_0_164_1 fe_0_165_1 hE_0_1_1 hK_0_1 hE_0_160_1 hK_0_160 hE_0_161_1 hE_0_162_1 hK_0_162 hE_0_163_1 hK_0_163 kz_0_8 kz_0_10 kz_0_157 kz_0_158 kz_0_159 kz_0_164 kz_0_165 ex2 ex3 ey2 ey3 eu2 eu3
  have nf3 : fc_1 PRD (20, [4], [50, 2, 0, 164, 165, 4, 7, 1, 3, 2, 0, 164, 0, 0, 0, 3, 2, 0, 165, 0, 23]) ws (vs ++ [Value.int x, Value.int y, Value.int u]) := by
    refine ⟨nf_inA hl rfl, sgq_274 ?_⟩
    · show (w_fi ws (n_v (vs ++ [Value.int x, Value.int y, Value.int u]) 4) 164 = 0) → (w_fi ws (n_v (vs ++ [Value.int x, Value.int y, Value.int u]) 4) 165 ≤ 23)
      simp only [e_4, q4]
      exact vc_Mo_test_f_4_3 k hk0 hk1 (v_iv (n_v vs 1)) (v_iv (n_v vs 2)) (v_iv (n_v vs 3)) (v_iv (n_v vs 6)) (v_iv (n_v vs 7)) (v_iv (n_v vs 9)) (v_iv (n_v vs 10)) (v_iv (n_v vs 11)) (w_fi ws (n_v vs 0) 158) (w_fi ws (n_v vs 0) 164) (w_fi ws (n_v vs 0) 165) (w_fi ws (n_v vs 0) 159) (w_fi w1 (n_v vs 0) 158) (w_ei w1 (w_ar ws (n_v vs 0) 160)) (w_fi w1 (n_v vs 0) 157) (w_fi w1 (n_v vs 0) 164) (w_fi w1 (n_v vs 0) 165) (w_fi w1 (n_v vs 0) 159) (w_ei w1 (w_ar ws (n_v vs 0) 161)) (w_ei w1 (w_ar ws (n_v vs 0) 162)) (w_ei w1 (w_ar ws (n_v vs 0) 163)) (w_ei w1 (w_ar ws (n_v vs 0) 1)) (w_fi w1 (n_v vs 0) 8) (w_fi w1 (n_v vs 0) 10) (w_fi ws (n_v vs 0) 8) (w_fi ws (n_v vs 0) 10) (w_fi ws (n_v vs 0) 157) (w_ei ws (w_ar ws (n_v vs 0) 1)) (w_ei ws (w_ar ws (n_v vs 0) 160)) (w_ei ws (w_ar ws (n_v vs 0) 161)) (w_ei ws (w_ar ws (n_v vs 0) 162)) (w_ei ws (w_ar ws (n_v vs 0) 163)) (v_iv (Value.int x)) (v_iv (Value.int y)) (v_iv (Value.int u)) k1 k2 k3 k6 k7 k9 k10 k11 d0 g0 f1 f2 f3 f4 f5 f8 g9 f10 f11 f12 f13 f14 f15 f16 f17 f18 f19 f20 f21 f22 f24 f25 fe_0_8_1 fe_0_10_1 fe_0_157_1 fe_0_158_1 fe_0_159_1 fe_0_164_1 fe_0_165_1 hE_0_1_1 hK_0_1 hE_0_160_1 hK_0_160 hE_0_161_1 hE_0_162_1 hK_0_162 hE_0_163_1 hK_0_163 kz_0_8 kz_0_10 kz_0_157 kz_0_158 kz_0_159 kz_0_164 kz_0_165 ex2 ex3 ey2 ey3 eu2 eu3
  have nf4 : fc_1 PRD (20, [4], [30, k, 1, 1, 159]) ws (vs ++ [Value.int x, Value.int y, Value.int u]) := by
    refine ⟨nf_inA hl rfl, sgq_275 ?_⟩
    · show 1 * w_fi ws (n_v (vs ++ [Value.int x, Value.int y, Value.int u]) 4) 159 + 0 ≤ k
      simp only [e_4, q4]
      exact vc_Mo_test_f_4_4 k hk0 hk1 (v_iv (n_v vs 1)) (v_iv (n_v vs 2)) (v_iv (n_v vs 3)) (v_iv (n_v vs 6)) (v_iv (n_v vs 7)) (v_iv (n_v vs 9)) (v_iv (n_v vs 10)) (v_iv (n_v vs 11)) (w_fi ws (n_v vs 0) 158) (w_fi ws (n_v vs 0) 164) (w_fi ws (n_v vs 0) 165) (w_fi ws (n_v vs 0) 159) (w_fi w1 (n_v vs 0) 158) (w_ei w1 (w_ar ws (n_v vs 0) 160)) (w_fi w1 (n_v vs 0) 157) (w_fi w1 (n_v vs 0) 164) (w_fi w1 (n_v vs 0) 165) (w_fi w1 (n_v vs 0) 159) (w_ei w1 (w_ar ws (n_v vs 0) 161)) (w_ei w1 (w_ar ws (n_v vs 0) 162)) (w_ei w1 (w_ar ws (n_v vs 0) 163)) (w_ei w1 (w_ar ws (n_v vs 0) 1)) (w_fi w1 (n_v vs 0) 8) (w_fi w1 (n_v vs 0) 10) (w_fi ws (n_v vs 0) 8) (w_fi ws (n_v vs 0) 10) (w_fi ws (n_v vs 0) 157) (w_ei ws (w_ar ws (n_v vs 0) 1)) (w_ei ws (w_ar ws (n_v vs 0) 160)) (w_ei ws (w_ar ws (n_v vs 0) 161)) (w_ei ws (w_ar ws (n_v vs 0) 162)) (w_ei ws (w_ar ws (n_v vs 0) 163)) (v_iv (Value.int x)) (v_iv (Value.int y)) (v_iv (Value.int u)) k1 k2 k3 k6 k7 k9 k10 k11 d0 g0 f1 f2 f3 f4 f5 f8 g9 f10 f11 f12 f13 f14 f15 f16 f17 f18 f19 f20 f21 f22 f24 f25 fe_0_8_1 fe_0_10_1 fe_0_157_1 fe_0_158_1 fe_0_159_1 fe_0_164_1 fe_0_165_1 hE_0_1_1 hK_0_1 hE_0_160_1 hK_0_160 hE_0_161_1 hE_0_162_1 hK_0_162 hE_0_163_1 hK_0_163 kz_0_8 kz_0_10 kz_0_157 kz_0_158 kz_0_159 kz_0_164 kz_0_165 ex2 ex3 ey2 ey3 eu2 eu3
  have nf5 : fc_1 PRD (20, [4], [30, (-k), -1, 1, 159]) ws (vs ++ [Value.int x, Value.int y, Value.int u]) := by
    refine ⟨nf_inA hl rfl, sgq_276 ?_⟩
    · show (-1) * w_fi ws (n_v (vs ++ [Value.int x, Value.int y, Value.int u]) 4) 159 + 0 ≤ ((-k))
      simp only [e_4, q4]
      exact vc_Mo_test_f_4_5 k hk0 hk1 (v_iv (n_v vs 1)) (v_iv (n_v vs 2)) (v_iv (n_v vs 3)) (v_iv (n_v vs 6)) (v_iv (n_v vs 7)) (v_iv (n_v vs 9)) (v_iv (n_v vs 10)) (v_iv (n_v vs 11)) (w_fi ws (n_v vs 0) 158) (w_fi ws (n_v vs 0) 164) (w_fi ws (n_v vs 0) 165) (w_fi ws (n_v vs 0) 159) (w_fi w1 (n_v vs 0) 158) (w_ei w1 (w_ar ws (n_v vs 0) 160)) (w_fi w1 (n_v vs 0) 157) (w_fi w1 (n_v vs 0) 164) (w_fi w1 (n_v vs 0) 165) (w_fi w1 (n_v vs 0) 159) (w_ei w1 (w_ar ws (n_v vs 0) 161)) (w_ei w1 (w_ar ws (n_v vs 0) 162)) (w_ei w1 (w_ar ws (n_v vs 0) 163)) (w_ei w1 (w_ar ws (n_v vs 0) 1)) (w_fi w1 (n_v vs 0) 8) (w_fi w1 (n_v vs 0) 10) (w_fi ws (n_v vs 0) 8) (w_fi ws (n_v vs 0) 10) (w_fi ws (n_v vs 0) 157) (w_ei ws (w_ar ws (n_v vs 0) 1)) (w_ei ws (w_ar ws (n_v vs 0) 160)) (w_ei ws (w_ar ws (n_v vs 0) 161)) (w_ei ws (w_ar ws (n_v vs 0) 162)) (w_ei ws (w_ar ws (n_v vs 0) 163)) (v_iv (Value.int x)) (v_iv (Value.int y)) (v_iv (Value.int u)) k1 k2 k3 k6 k7 k9 k10 k11 d0 g0 f1 f2 f3 f4 f5 f8 g9 f10 f11 f12 f13 f14 f15 f16 f17 f18 f19 f20 f21 f22 f24 f25 fe_0_8_1 fe_0_10_1 fe_0_157_1 fe_0_158_1 fe_0_159_1 fe_0_164_1 fe_0_165_1 hE_0_1_1 hK_0_1 hE_0_160_1 hK_0_160 hE_0_161_1 hE_0_162_1 hK_0_162 hE_0_163_1 hK_0_163 kz_0_8 kz_0_10 kz_0_157 kz_0_158 kz_0_159 kz_0_164 kz_0_165 ex2 ex3 ey2 ey3 eu2 eu3
  have nf6 : fc_1 PRD (20, [4, 13], [50, 1, 0, 8, 1, 3, 2, 0, 8, 1, 1]) ws (vs ++ [Value.int x, Value.int y, Value.int u]) := by
    refine ⟨nf_inA hl rfl, sgq_277 ?_⟩
    · show w_fi ws (n_v (vs ++ [Value.int x, Value.int y, Value.int u]) 4) 8 = v_iv (n_v (vs ++ [Value.int x, Value.int y, Value.int u]) 13)
      simp only [e_4, e_13, q4]
      exact vc_Mo_test_f_4_6 k hk0 hk1 (v_iv (n_v vs 1)) (v_iv (n_v vs 2)) (v_iv (n_v vs 3)) (v_iv (n_v vs 6)) (v_iv (n_v vs 7)) (v_iv (n_v vs 9)) (v_iv (n_v vs 10)) (v_iv (n_v vs 11)) (w_fi ws (n_v vs 0) 158) (w_fi ws (n_v vs 0) 164) (w_fi ws (n_v vs 0) 165) (w_fi ws (n_v vs 0) 159) (w_fi w1 (n_v vs 0) 158) (w_ei w1 (w_ar ws (n_v vs 0) 160)) (w_fi w1 (n_v vs 0) 157) (w_fi w1 (n_v vs 0) 164) (w_fi w1 (n_v vs 0) 165) (w_fi w1 (n_v vs 0) 159) (w_ei w1 (w_ar ws (n_v vs 0) 161)) (w_ei w1 (w_ar ws (n_v vs 0) 162)) (w_ei w1 (w_ar ws (n_v vs 0) 163)) (w_ei w1 (w_ar ws (n_v vs 0) 1)) (w_fi w1 (n_v vs 0) 8) (w_fi w1 (n_v vs 0) 10) (w_fi ws (n_v vs 0) 8) (w_fi ws (n_v vs 0) 10) (w_fi ws (n_v vs 0) 157) (w_ei ws (w_ar ws (n_v vs 0) 1)) (w_ei ws (w_ar ws (n_v vs 0) 160)) (w_ei ws (w_ar ws (n_v vs 0) 161)) (w_ei ws (w_ar ws (n_v vs 0) 162)) (w_ei ws (w_ar ws (n_v vs 0) 163)) (v_iv (Value.int x)) (v_iv (Value.int y)) (v_iv (Value.int u)) k1 k2 k3 k6 k7 k9 k10 k11 d0 g0 f1 f2 f3 f4 f5 f8 g9 f10 f11 f12 f13 f14 f15 f16 f17 f18 f19 f20 f21 f22 f24 f25 fe_0_8_1 fe_0_10_1 fe_0_157_1 fe_0_158_1 fe_0_159_1 fe_0_164_1 fe_0_165_1 hE_0_1_1 hK_0_1 hE_0_160_1 hK_0_160 hE_0_161_1 hE_0_162_1 hK_0_162 hE_0_163_1 hK_0_163 kz_0_8 kz_0_10 kz_0_157 kz_0_158 kz_0_159 kz_0_164 kz_0_165 ex2 ex3 ey2 ey3 eu2 eu3
  have nf7 : fc_1 PRD (20, [4, 14], [50, 1, 0, 159, 1, 3, 2, 0, 159, 1, 1]) ws (vs ++ [Value.int x, Value.int y, Value.int u]) := by
    refine ⟨nf_inA hl rfl, sgq_278 ?_⟩
    · show w_fi ws (n_v (vs ++ [Value.int x, Value.int y, Value.int u]) 4) 159 = v_iv (n_v (vs ++ [Value.int x, Value.int y, Value.int u]) 14)
      simp only [e_4, e_14, q4]
      exact vc_Mo_test_f_4_7 k hk0 hk1 (v_iv (n_v vs 1)) (v_iv (n_v vs 2)) (v_iv (n_v vs 3)) (v_iv (n_v vs 6)) (v_iv (n_v vs 7)) (v_iv (n_v vs 9)) (v_iv (n_v vs 10)) (v_iv (n_v vs 11)) (w_fi ws (n_v vs 0) 158) (w_fi ws (n_v vs 0) 164) (w_fi ws (n_v vs 0) 165) (w_fi ws (n_v vs 0) 159) (w_fi w1 (n_v vs 0) 158) (w_ei w1 (w_ar ws (n_v vs 0) 160)) (w_fi w1 (n_v vs 0) 157) (w_fi w1 (n_v vs 0) 164) (w_fi w1 (n_v vs 0) 165) (w_fi w1 (n_v vs 0) 159) (w_ei w1 (w_ar ws (n_v vs 0) 161)) (w_ei w1 (w_ar ws (n_v vs 0) 162)) (w_ei w1 (w_ar ws (n_v vs 0) 163)) (w_ei w1 (w_ar ws (n_v vs 0) 1)) (w_fi w1 (n_v vs 0) 8) (w_fi w1 (n_v vs 0) 10) (w_fi ws (n_v vs 0) 8) (w_fi ws (n_v vs 0) 10) (w_fi ws (n_v vs 0) 157) (w_ei ws (w_ar ws (n_v vs 0) 1)) (w_ei ws (w_ar ws (n_v vs 0) 160)) (w_ei ws (w_ar ws (n_v vs 0) 161)) (w_ei ws (w_ar ws (n_v vs 0) 162)) (w_ei ws (w_ar ws (n_v vs 0) 163)) (v_iv (Value.int x)) (v_iv (Value.int y)) (v_iv (Value.int u)) k1 k2 k3 k6 k7 k9 k10 k11 d0 g0 f1 f2 f3 f4 f5 f8 g9 f10 f11 f12 f13 f14 f15 f16 f17 f18 f19 f20 f21 f22 f24 f25 fe_0_8_1 fe_0_10_1 fe_0_157_1 fe_0_158_1 fe_0_159_1 fe_0_164_1 fe_0_165_1 hE_0_1_1 hK_0_1 hE_0_160_1 hK_0_160 hE_0_161_1 hE_0_162_1 hK_0_162 hE_0_163_1 hK_0_163 kz_0_8 kz_0_10 kz_0_157 kz_0_158 kz_0_159 kz_0_164 kz_0_165 ex2 ex3 ey2 ey3 eu2 eu3
  have nf8 : fc_1 PRD (23, [1, 12], [0, 1, -1]) ws (vs ++ [Value.int x, Value.int y, Value.int u]) := by
    refine ⟨nf_inA hl rfl, sgq_7 ?_⟩
    · show 1 * v_iv (n_v (vs ++ [Value.int x, Value.int y, Value.int u]) 1) + ((-1) * v_iv (n_v (vs ++ [Value.int x, Value.int y, Value.int u]) 12) + 0) ≤ 0
      simp only [e_1, e_12]
      exact vc_Mo_test_f_4_8 k hk0 hk1 (v_iv (n_v vs 1)) (v_iv (n_v vs 2)) (v_iv (n_v vs 3)) (v_iv (n_v vs 6)) (v_iv (n_v vs 7)) (v_iv (n_v vs 9)) (v_iv (n_v vs 10)) (v_iv (n_v vs 11)) (w_fi ws (n_v vs 0) 158) (w_fi ws (n_v vs 0) 164) (w_fi ws (n_v vs 0) 165) (w_fi ws (n_v vs 0) 159) (w_fi w1 (n_v vs 0) 158) (w_ei w1 (w_ar ws (n_v vs 0) 160)) (w_fi w1 (n_v vs 0) 157) (w_fi w1 (n_v vs 0) 164) (w_fi w1 (n_v vs 0) 165) (w_fi w1 (n_v vs 0) 159) (w_ei w1 (w_ar ws (n_v vs 0) 161)) (w_ei w1 (w_ar ws (n_v vs 0) 162)) (w_ei w1 (w_ar ws (n_v vs 0) 163)) (w_ei w1 (w_ar ws (n_v vs 0) 1)) (w_fi w1 (n_v vs 0) 8) (w_fi w1 (n_v vs 0) 10) (w_fi ws (n_v vs 0) 8) (w_fi ws (n_v vs 0) 10) (w_fi ws (n_v vs 0) 157) (w_ei ws (w_ar ws (n_v vs 0) 1)) (w_ei ws (w_ar ws (n_v vs 0) 160)) (w_ei ws (w_ar ws (n_v vs 0) 161)) (w_ei ws (w_ar ws (n_v vs 0) 162)) (w_ei ws (w_ar ws (n_v vs 0) 163)) (v_iv (Value.int x)) (v_iv (Value.int y)) (v_iv (Value.int u)) k1 k2 k3 k6 k7 k9 k10 k11 d0 g0 f1 f2 f3 f4 f5 f8 g9 f10 f11 f12 f13 f14 f15 f16 f17 f18 f19 f20 f21 f22 f24 f25 fe_0_8_1 fe_0_10_1 fe_0_157_1 fe_0_158_1 fe_0_159_1 fe_0_164_1 fe_0_165_1 hE_0_1_1 hK_0_1 hE_0_160_1 hK_0_160 hE_0_161_1 hE_0_162_1 hK_0_162 hE_0_163_1 hK_0_163 kz_0_8 kz_0_10 kz_0_157 kz_0_158 kz_0_159 kz_0_164 kz_0_165 ex2 ex3 ey2 ey3 eu2 eu3
  have nf9 : fc_1 PRD (23, [7, 12], [-2011, -1, -1]) ws (vs ++ [Value.int x, Value.int y, Value.int u]) := by
    refine ⟨nf_inA hl rfl, sgq_290 ?_⟩
    · show (-1) * v_iv (n_v (vs ++ [Value.int x, Value.int y, Value.int u]) 7) + ((-1) * v_iv (n_v (vs ++ [Value.int x, Value.int y, Value.int u]) 12) + 0) ≤ (-2011)
      simp only [e_7, e_12]
      exact vc_Mo_test_f_4_9 k hk0 hk1 (v_iv (n_v vs 1)) (v_iv (n_v vs 2)) (v_iv (n_v vs 3)) (v_iv (n_v vs 6)) (v_iv (n_v vs 7)) (v_iv (n_v vs 9)) (v_iv (n_v vs 10)) (v_iv (n_v vs 11)) (w_fi ws (n_v vs 0) 158) (w_fi ws (n_v vs 0) 164) (w_fi ws (n_v vs 0) 165) (w_fi ws (n_v vs 0) 159) (w_fi w1 (n_v vs 0) 158) (w_ei w1 (w_ar ws (n_v vs 0) 160)) (w_fi w1 (n_v vs 0) 157) (w_fi w1 (n_v vs 0) 164) (w_fi w1 (n_v vs 0) 165) (w_fi w1 (n_v vs 0) 159) (w_ei w1 (w_ar ws (n_v vs 0) 161)) (w_ei w1 (w_ar ws (n_v vs 0) 162)) (w_ei w1 (w_ar ws (n_v vs 0) 163)) (w_ei w1 (w_ar ws (n_v vs 0) 1)) (w_fi w1 (n_v vs 0) 8) (w_fi w1 (n_v vs 0) 10) (w_fi ws (n_v vs 0) 8) (w_fi ws (n_v vs 0) 10) (w_fi ws (n_v vs 0) 157) (w_ei ws (w_ar ws (n_v vs 0) 1)) (w_ei ws (w_ar ws (n_v vs 0) 160)) (w_ei ws (w_ar ws (n_v vs 0) 161)) (w_ei ws (w_ar ws (n_v vs 0) 162)) (w_ei ws (w_ar ws (n_v vs 0) 163)) (v_iv (Value.int x)) (v_iv (Value.int y)) (v_iv (Value.int u)) k1 k2 k3 k6 k7 k9 k10 k11 d0 g0 f1 f2 f3 f4 f5 f8 g9 f10 f11 f12 f13 f14 f15 f16 f17 f18 f19 f20 f21 f22 f24 f25 fe_0_8_1 fe_0_10_1 fe_0_157_1 fe_0_158_1 fe_0_159_1 fe_0_164_1 fe_0_165_1 hE_0_1_1 hK_0_1 hE_0_160_1 hK_0_160 hE_0_161_1 hE_0_162_1 hK_0_162 hE_0_163_1 hK_0_163 kz_0_8 kz_0_10 kz_0_157 kz_0_158 kz_0_159 kz_0_164 kz_0_165 ex2 ex3 ey2 ey3 eu2 eu3
  have nf10 : fc_1 PRD (20, [4, 12, 13, 1, 2, 3], [60, 2, 5, 13, 164, 10, 160, 161, 162, 163, 1]) ws (vs ++ [Value.int x, Value.int y, Value.int u]) := by
    refine ⟨nf_inA hl rfl, sgq_341 ?_⟩
    · show GTL (w_fi ws (n_v (vs ++ [Value.int x, Value.int y, Value.int u]) 4) 164) (w_fi ws (n_v (vs ++ [Value.int x, Value.int y, Value.int u]) 4) 10) (w_ei ws (w_ar ws (n_v (vs ++ [Value.int x, Value.int y, Value.int u]) 4) 160)) (w_ei ws (w_ar ws (n_v (vs ++ [Value.int x, Value.int y, Value.int u]) 4) 161)) (w_ei ws (w_ar ws (n_v (vs ++ [Value.int x, Value.int y, Value.int u]) 4) 162)) (w_ei ws (w_ar ws (n_v (vs ++ [Value.int x, Value.int y, Value.int u]) 4) 163)) (w_ei ws (w_ar ws (n_v (vs ++ [Value.int x, Value.int y, Value.int u]) 4) 1)) (v_iv (n_v (vs ++ [Value.int x, Value.int y, Value.int u]) 12)) (v_iv (n_v (vs ++ [Value.int x, Value.int y, Value.int u]) 13)) (v_iv (n_v (vs ++ [Value.int x, Value.int y, Value.int u]) 1)) (v_iv (n_v (vs ++ [Value.int x, Value.int y, Value.int u]) 2)) (v_iv (n_v (vs ++ [Value.int x, Value.int y, Value.int u]) 3))
      simp only [e_1, e_2, e_3, e_4, e_12, e_13, q4]
      exact vc_Mo_test_f_4_10 k hk0 hk1 (v_iv (n_v vs 1)) (v_iv (n_v vs 2)) (v_iv (n_v vs 3)) (v_iv (n_v vs 6)) (v_iv (n_v vs 7)) (v_iv (n_v vs 9)) (v_iv (n_v vs 10)) (v_iv (n_v vs 11)) (w_fi ws (n_v vs 0) 158) (w_fi ws (n_v vs 0) 164) (w_fi ws (n_v vs 0) 165) (w_fi ws (n_v vs 0) 159) (w_fi w1 (n_v vs 0) 158) (w_ei w1 (w_ar ws (n_v vs 0) 160)) (w_fi w1 (n_v vs 0) 157) (w_fi w1 (n_v vs 0) 164) (w_fi w1 (n_v vs 0) 165) (w_fi w1 (n_v vs 0) 159) (w_ei w1 (w_ar ws (n_v vs 0) 161)) (w_ei w1 (w_ar ws (n_v vs 0) 162)) (w_ei w1 (w_ar ws (n_v vs 0) 163)) (w_ei w1 (w_ar ws (n_v vs 0) 1)) (w_fi w1 (n_v vs 0) 8) (w_fi w1 (n_v vs 0) 10) (w_fi ws (n_v vs 0) 8) (w_fi ws (n_v vs 0) 10) (w_fi ws (n_v vs 0) 157) (w_ei ws (w_ar ws (n_v vs 0) 1)) (w_ei ws (w_ar ws (n_v vs 0) 160)) (w_ei ws (w_ar ws (n_v vs 0) 161)) (w_ei ws (w_ar ws (n_v vs 0) 162)) (w_ei ws (w_ar ws (n_v vs 0) 163)) (v_iv (Value.int x)) (v_iv (Value.int y)) (v_iv (Value.int u)) k1 k2 k3 k6 k7 k9 k10 k11 d0 g0 f1 f2 f3 f4 f5 f8 g9 f10 f11 f12 f13 f14 f15 f16 f17 f18 f19 f20 f21 f22 f24 f25 fe_0_8_1 fe_0_10_1 fe_0_157_1 fe_0_158_1 fe_0_159_1 fe_0_164_1 fe_0_165_1 hE_0_1_1 hK_0_1 hE_0_160_1 hK_0_160 hE_0_161_1 hE_0_162_1 hK_0_162 hE_0_163_1 hK_0_163 kz_0_8 kz_0_10 kz_0_157 kz_0_158 kz_0_159 kz_0_164 kz_0_165 ex2 ex3 ey2 ey3 eu2 eu3
  have nf11 : fc_1 PRD (23, [14], [k, 1]) ws (vs ++ [Value.int x, Value.int y, Value.int u]) := by
    refine ⟨nf_inA hl rfl, sgq_279 ?_⟩
    · show 1 * v_iv (n_v (vs ++ [Value.int x, Value.int y, Value.int u]) 14) + 0 ≤ k
      rw [e_14]
      exact vc_Mo_test_f_4_11 k hk0 hk1 (v_iv (n_v vs 1)) (v_iv (n_v vs 2)) (v_iv (n_v vs 3)) (v_iv (n_v vs 6)) (v_iv (n_v vs 7)) (v_iv (n_v vs 9)) (v_iv (n_v vs 10)) (v_iv (n_v vs 11)) (w_fi ws (n_v vs 0) 158) (w_fi ws (n_v vs 0) 164) (w_fi ws (n_v vs 0) 165) (w_fi ws (n_v vs 0) 159) (w_fi w1 (n_v vs 0) 158) (w_ei w1 (w_ar ws (n_v vs 0) 160)) (w_fi w1 (n_v vs 0) 157) (w_fi w1 (n_v vs 0) 164) (w_fi w1 (n_v vs 0) 165) (w_fi w1 (n_v vs 0) 159) (w_ei w1 (w_ar ws (n_v vs 0) 161)) (w_ei w1 (w_ar ws (n_v vs 0) 162)) (w_ei w1 (w_ar ws (n_v vs 0) 163)) (w_ei w1 (w_ar ws (n_v vs 0) 1)) (w_fi w1 (n_v vs 0) 8) (w_fi w1 (n_v vs 0) 10) (w_fi ws (n_v vs 0) 8) (w_fi ws (n_v vs 0) 10) (w_fi ws (n_v vs 0) 157) (w_ei ws (w_ar ws (n_v vs 0) 1)) (w_ei ws (w_ar ws (n_v vs 0) 160)) (w_ei ws (w_ar ws (n_v vs 0) 161)) (w_ei ws (w_ar ws (n_v vs 0) 162)) (w_ei ws (w_ar ws (n_v vs 0) 163)) (v_iv (Value.int x)) (v_iv (Value.int y)) (v_iv (Value.int u)) k1 k2 k3 k6 k7 k9 k10 k11 d0 g0 f1 f2 f3 f4 f5 f8 g9 f10 f11 f12 f13 f14 f15 f16 f17 f18 f19 f20 f21 f22 f24 f25 fe_0_8_1 fe_0_10_1 fe_0_157_1 fe_0_158_1 fe_0_159_1 fe_0_164_1 fe_0_165_1 hE_0_1_1 hK_0_1 hE_0_160_1 hK_0_160 hE_0_161_1 hE_0_162_1 hK_0_162 hE_0_163_1 hK_0_163 kz_0_8 kz_0_10 kz_0_157 kz_0_158 kz_0_159 kz_0_164 kz_0_165 ex2 ex3 ey2 ey3 eu2 eu3
  have nf12 : fc_1 PRD (23, [14], [(-k), -1]) ws (vs ++ [Value.int x, Value.int y, Value.int u]) := by
    refine ⟨nf_inA hl rfl, sgq_280 ?_⟩
    · show (-1) * v_iv (n_v (vs ++ [Value.int x, Value.int y, Value.int u]) 14) + 0 ≤ ((-k))
      rw [e_14]
      exact vc_Mo_test_f_4_12 k hk0 hk1 (v_iv (n_v vs 1)) (v_iv (n_v vs 2)) (v_iv (n_v vs 3)) (v_iv (n_v vs 6)) (v_iv (n_v vs 7)) (v_iv (n_v vs 9)) (v_iv (n_v vs 10)) (v_iv (n_v vs 11)) (w_fi ws (n_v vs 0) 158) (w_fi ws (n_v vs 0) 164) (w_fi ws (n_v vs 0) 165) (w_fi ws (n_v vs 0) 159) (w_fi w1 (n_v vs 0) 158) (w_ei w1 (w_ar ws (n_v vs 0) 160)) (w_fi w1 (n_v vs 0) 157) (w_fi w1 (n_v vs 0) 164) (w_fi w1 (n_v vs 0) 165) (w_fi w1 (n_v vs 0) 159) (w_ei w1 (w_ar ws (n_v vs 0) 161)) (w_ei w1 (w_ar ws (n_v vs 0) 162)) (w_ei w1 (w_ar ws (n_v vs 0) 163)) (w_ei w1 (w_ar ws (n_v vs 0) 1)) (w_fi w1 (n_v vs 0) 8) (w_fi w1 (n_v vs 0) 10) (w_fi ws (n_v vs 0) 8) (w_fi ws (n_v vs 0) 10) (w_fi ws (n_v vs 0) 157) (w_ei ws (w_ar ws (n_v vs 0) 1)) (w_ei ws (w_ar ws (n_v vs 0) 160)) (w_ei ws (w_ar ws (n_v vs 0) 161)) (w_ei ws (w_ar ws (n_v vs 0) 162)) (w_ei ws (w_ar ws (n_v vs 0) 163)) (v_iv (Value.int x)) (v_iv (Value.int y)) (v_iv (Value.int u)) k1 k2 k3 k6 k7 k9 k10 k11 d0 g0 f1 f2 f3 f4 f5 f8 g9 f10 f11 f12 f13 f14 f15 f16 f17 f18 f19 f20 f21 f22 f24 f25 fe_0_8_1 fe_0_10_1 fe_0_157_1 fe_0_158_1 fe_0_159_1 fe_0_164_1 fe_0_165_1 hE_0_1_1 hK_0_1 hE_0_160_1 hK_0_160 hE_0_161_1 hE_0_162_1 hK_0_162 hE_0_163_1 hK_0_163 kz_0_8 kz_0_10 kz_0_157 kz_0_158 kz_0_159 kz_0_164 kz_0_165 ex2 ex3 ey2 ey3 eu2 eu3
  exact ⟨(fun _ h => (by cases h)), [Value.int x, Value.int y, Value.int u], ag_three hx hy hu, List.forall_mem_cons.mpr ⟨⟨show (20 : Nat) < 100 from by decide, nf0⟩, List.forall_mem_cons.mpr ⟨⟨show (20 : Nat) < 100 from by decide, nf1⟩, List.forall_mem_cons.mpr ⟨⟨show (20 : Nat) < 100 from by decide, nf2⟩, List.forall_mem_cons.mpr ⟨⟨show (20 : Nat) < 100 from by decide, nf3⟩, List.forall_mem_cons.mpr ⟨⟨show (20 : Nat) < 100 from by decide, nf4⟩, List.forall_mem_cons.mpr ⟨⟨show (20 : Nat) < 100 from by decide, nf5⟩, List.forall_mem_cons.mpr ⟨⟨show (20 : Nat) < 100 from by decide, nf6⟩, List.forall_mem_cons.mpr ⟨⟨show (20 : Nat) < 100 from by decide, nf7⟩, List.forall_mem_cons.mpr ⟨⟨show (23 : Nat) < 100 from by decide, nf8⟩, List.forall_mem_cons.mpr ⟨⟨show (23 : Nat) < 100 from by decide, nf9⟩, List.forall_mem_cons.mpr ⟨⟨show (20 : Nat) < 100 from by decide, nf10⟩, List.forall_mem_cons.mpr ⟨⟨show (23 : Nat) < 100 from by decide, nf11⟩, List.forall_mem_cons.mpr ⟨⟨show (23 : Nat) < 100 from by decide, nf12⟩, (fun _ h => (by cases h))⟩⟩⟩⟩⟩⟩⟩⟩⟩⟩⟩⟩⟩, (fun _ h => (by cases h))⟩

set_option maxHeartbeats 4000000 in
theorem vc_Mo_test_f_5_0 (k : Int) (hk0 : 0 ≤ k) (hk1 : k ≤ 12) (x1 : Int) (x2 : Int) (x3 : Int) (x6 : Int) (x7 : Int) (x10 : Int) (x11 : Int) (x12 : Int) (x13 : Int) (x14 : Int) (styleKind_0 : Int) (styleOne_0 : Int) (tokenKind_0 : Int → Int) (tokenValue_0 : Int → Int) (tokenPlace_0 : Int → Int) (tokenEnd_0 : Int → Int) (tape_0 : Int → Int) (limit_0 : Int) (cur_0 : Int) (tokens_0 : Int) (opened_0 : Int) (fault_0 : Int) (gx : Int) (k1 : 0 ≤ x1 ∧ x1 ≤ 2009) (k2 : 0 ≤ x2 ∧ x2 ≤ 5) (k3 : 0 ≤ x3 ∧ x3 ≤ 13) (k6 : 0 ≤ x6 ∧ x6 ≤ 2009) (k7 : 0 ≤ x7 ∧ x7 ≤ 2010) (k10 : 1 ≤ x10 ∧ x10 ≤ 1) (k11 : 1 ≤ x11 ∧ x11 ≤ 2009) (k12 : 0 ≤ x12 ∧ x12 ≤ 2009) (k13 : 0 ≤ x13 ∧ x13 ≤ 5) (k14 : 0 ≤ x14 ∧ x14 ≤ 13) (d0 : x6 + 1 ≤ x11 ∧ x11 ≤ x6 + 1) (f0 : (styleKind_0 = 0) → (styleOne_0 ≤ 23)) (f1 : 1 * x1 + ((-1) * x12 + 0) ≤ 0) (f2 : (-1) * x7 + ((-1) * x12 + 0) ≤ (-2011)) (f3 : GTL (styleKind_0) (limit_0) (tokenKind_0) (tokenValue_0) (tokenPlace_0) (tokenEnd_0) (tape_0) (x12) (x13) (x1) (x2) (x3)) (f4 : 1 * x14 + 0 ≤ k) (f5 : (-1) * x14 + 0 ≤ ((-k))) (f6 : (styleKind_0 = 0) → (styleOne_0 ≤ 23)) (f7 : 1 * x3 + 0 ≤ k) (f8 : (-1) * x3 + 0 ≤ ((-k))) (f10 : ((cur_0 + 1) ≤ tokens_0) ∧ ((tokens_0 ≤ 2010) ∧ ((tokenKind_0 ((tokens_0 - 1)) = 0) ∨ (tokenKind_0 ((tokens_0 - 1)) = 4)))) (f11 : 1 * x12 + ((-1) * cur_0 + 0) ≤ 0) (f12 : 1 * opened_0 + 0 ≤ k) (f13 : (-1) * opened_0 + 0 ≤ ((-k))) (f14 : SBO (fault_0) (cur_0) (styleKind_0) (limit_0) (tokenKind_0) (tokenValue_0) (tokenPlace_0) (tokenEnd_0) (tape_0) (x12) (x13) (x14)) (f16 : 1 * x1 + ((-1) * x12 + 0) ≤ 0) (f17 : (-1) * x7 + ((-1) * x12 + 0) ≤ (-2011)) (f18 : 1 * x14 + 0 ≤ k) (f19 : (-1) * x14 + 0 ≤ ((-k))) (f20 : 1 * x3 + 0 ≤ k) (f21 : (-1) * x3 + 0 ≤ ((-k))) (f23 : x11 = x6 + x10) (f24 : 1 * x3 + 0 ≤ k) (f25 : (-1) * x3 + 0 ≤ ((-k))) (f27 : 1 * x3 + 0 ≤ k) (f28 : (-1) * x3 + 0 ≤ ((-k))) (hK_0_1 : ∀ j : Int, 0 ≤ j → j < 2000 → (-128) ≤ tape_0 j ∧ tape_0 j ≤ 127) (hK_0_160 : ∀ j : Int, 0 ≤ j → j < 2010 → 0 ≤ tokenKind_0 j ∧ tokenKind_0 j ≤ 4) (hK_0_162 : ∀ j : Int, 0 ≤ j → j < 2010 → 0 ≤ tokenPlace_0 j ∧ tokenPlace_0 j ≤ 2000) (hK_0_163 : ∀ j : Int, 0 ≤ j → j < 2010 → 0 ≤ tokenEnd_0 j ∧ tokenEnd_0 j ≤ 2000) (kz_0_8 : 0 ≤ fault_0 ∧ fault_0 ≤ 5) (kz_0_10 : 0 ≤ limit_0 ∧ limit_0 ≤ 2000) (kz_0_157 : 0 ≤ tokens_0 ∧ tokens_0 ≤ 2010) (kz_0_158 : 0 ≤ cur_0 ∧ cur_0 ≤ 2009) (kz_0_159 : 0 ≤ opened_0 ∧ opened_0 ≤ 13) (kz_0_164 : 0 ≤ styleKind_0 ∧ styleKind_0 ≤ 1) (kz_0_165 : (-1) ≤ styleOne_0 ∧ styleOne_0 ≤ 47) (ex2 : gx = 0 + (1 * x7 + 0)) (ex3 : 0 ≤ gx ∧ gx ≤ 2010) : ((cur_0 + 1) ≤ tokens_0) ∧ ((tokens_0 ≤ 2010) ∧ ((tokenKind_0 ((tokens_0 - 1)) = 0) ∨ (tokenKind_0 ((tokens_0 - 1)) = 4))) := by
  first | with_reducible assumption | ((have f10_c0 := f10.1); (have f10_c1 := f10.2.1); (have f10_c2 := f10.2.2); (try and_intros) <;> first | with_reducible assumption | (clear f10_c2 f10 hK_0_1 hK_0_160 hK_0_162 hK_0_163 f0 f6; omega)) | ((have f10_c0 := f10.1); (have f10_c1 := f10.2.1); (have f10_c2 := f10.2.2); (first | have f0_b := f0 (by clear f10_c2 f10 hK_0_1 hK_0_160 hK_0_162 hK_0_163 f0 f6; omega) | skip); (first | have f6_b := f6 (by clear f10_c2 f10 hK_0_1 hK_0_160 hK_0_162 hK_0_163 f0 f6; omega) | skip); (first | have f0_d := f0 (by with_reducible assumption) | skip); (first | have f6_d := f6 (by with_reducible assumption) | skip); (try and_intros) <;> first | with_reducible assumption | (clear f10_c2 f10 hK_0_1 hK_0_160 hK_0_162 hK_0_163 f0 f6; omega)) | ((have f10_c0 := f10.1); (have f10_c1 := f10.2.1); (have f10_c2 := f10.2.2); (first | have f0_b := f0 (by clear f10_c2 f10 hK_0_1 hK_0_160 hK_0_162 hK_0_163 f0 f6; omega) | skip); (first | have f6_b := f6 (by clear f10_c2 f10 hK_0_1 hK_0_160 hK_0_162 hK_0_163 f0 f6; omega) | skip); (first | have f0_d := f0 (by with_reducible assumption) | skip); (first | have f6_d := f6 (by with_reducible assumption) | skip); (first | have f10_q := tk_nx0 f10 (by clear f10_c2 f10 hK_0_1 hK_0_160 hK_0_162 hK_0_163 f0 f6; omega) | skip); (try and_intros) <;> first | with_reducible assumption | (clear f10_c2 f10 hK_0_1 hK_0_160 hK_0_162 hK_0_163 f0 f6; omega)) | omega
set_option maxHeartbeats 4000000 in
theorem vc_Mo_test_f_5_1 (k : Int) (hk0 : 0 ≤ k) (hk1 : k ≤ 12) (x1 : Int) (x2 : Int) (x3 : Int) (x6 : Int) (x7 : Int) (x10 : Int) (x11 : Int) (x12 : Int) (x13 : Int) (x14 : Int) (styleKind_0 : Int) (styleOne_0 : Int) (tokenKind_0 : Int → Int) (tokenValue_0 : Int → Int) (tokenPlace_0 : Int → Int) (tokenEnd_0 : Int → Int) (tape_0 : Int → Int) (limit_0 : Int) (cur_0 : Int) (tokens_0 : Int) (opened_0 : Int) (fault_0 : Int) (gx : Int) (k1 : 0 ≤ x1 ∧ x1 ≤ 2009) (k2 : 0 ≤ x2 ∧ x2 ≤ 5) (k3 : 0 ≤ x3 ∧ x3 ≤ 13) (k6 : 0 ≤ x6 ∧ x6 ≤ 2009) (k7 : 0 ≤ x7 ∧ x7 ≤ 2010) (k10 : 1 ≤ x10 ∧ x10 ≤ 1) (k11 : 1 ≤ x11 ∧ x11 ≤ 2009) (k12 : 0 ≤ x12 ∧ x12 ≤ 2009) (k13 : 0 ≤ x13 ∧ x13 ≤ 5) (k14 : 0 ≤ x14 ∧ x14 ≤ 13) (d0 : x6 + 1 ≤ x11 ∧ x11 ≤ x6 + 1) (f0 : (styleKind_0 = 0) → (styleOne_0 ≤ 23)) (f1 : 1 * x1 + ((-1) * x12 + 0) ≤ 0) (f2 : (-1) * x7 + ((-1) * x12 + 0) ≤ (-2011)) (f3 : GTL (styleKind_0) (limit_0) (tokenKind_0) (tokenValue_0) (tokenPlace_0) (tokenEnd_0) (tape_0) (x12) (x13) (x1) (x2) (x3)) (f4 : 1 * x14 + 0 ≤ k) (f5 : (-1) * x14 + 0 ≤ ((-k))) (f6 : (styleKind_0 = 0) → (styleOne_0 ≤ 23)) (f7 : 1 * x3 + 0 ≤ k) (f8 : (-1) * x3 + 0 ≤ ((-k))) (f10 : ((cur_0 + 1) ≤ tokens_0) ∧ ((tokens_0 ≤ 2010) ∧ ((tokenKind_0 ((tokens_0 - 1)) = 0) ∨ (tokenKind_0 ((tokens_0 - 1)) = 4)))) (f11 : 1 * x12 + ((-1) * cur_0 + 0) ≤ 0) (f12 : 1 * opened_0 + 0 ≤ k) (f13 : (-1) * opened_0 + 0 ≤ ((-k))) (f14 : SBO (fault_0) (cur_0) (styleKind_0) (limit_0) (tokenKind_0) (tokenValue_0) (tokenPlace_0) (tokenEnd_0) (tape_0) (x12) (x13) (x14)) (f16 : 1 * x1 + ((-1) * x12 + 0) ≤ 0) (f17 : (-1) * x7 + ((-1) * x12 + 0) ≤ (-2011)) (f18 : 1 * x14 + 0 ≤ k) (f19 : (-1) * x14 + 0 ≤ ((-k))) (f20 : 1 * x3 + 0 ≤ k) (f21 : (-1) * x3 + 0 ≤ ((-k))) (f23 : x11 = x6 + x10) (f24 : 1 * x3 + 0 ≤ k) (f25 : (-1) * x3 + 0 ≤ ((-k))) (f27 : 1 * x3 + 0 ≤ k) (f28 : (-1) * x3 + 0 ≤ ((-k))) (hK_0_1 : ∀ j : Int, 0 ≤ j → j < 2000 → (-128) ≤ tape_0 j ∧ tape_0 j ≤ 127) (hK_0_160 : ∀ j : Int, 0 ≤ j → j < 2010 → 0 ≤ tokenKind_0 j ∧ tokenKind_0 j ≤ 4) (hK_0_162 : ∀ j : Int, 0 ≤ j → j < 2010 → 0 ≤ tokenPlace_0 j ∧ tokenPlace_0 j ≤ 2000) (hK_0_163 : ∀ j : Int, 0 ≤ j → j < 2010 → 0 ≤ tokenEnd_0 j ∧ tokenEnd_0 j ≤ 2000) (kz_0_8 : 0 ≤ fault_0 ∧ fault_0 ≤ 5) (kz_0_10 : 0 ≤ limit_0 ∧ limit_0 ≤ 2000) (kz_0_157 : 0 ≤ tokens_0 ∧ tokens_0 ≤ 2010) (kz_0_158 : 0 ≤ cur_0 ∧ cur_0 ≤ 2009) (kz_0_159 : 0 ≤ opened_0 ∧ opened_0 ≤ 13) (kz_0_164 : 0 ≤ styleKind_0 ∧ styleKind_0 ≤ 1) (kz_0_165 : (-1) ≤ styleOne_0 ∧ styleOne_0 ≤ 47) (ex2 : gx = 0 + (1 * x7 + 0)) (ex3 : 0 ≤ gx ∧ gx ≤ 2010) : 1 * x1 + ((-1) * cur_0 + 0) ≤ 0 := by
  first | with_reducible assumption | ((have f10_c0 := f10.1); (have f10_c1 := f10.2.1); (have f10_c2 := f10.2.2); (try and_intros) <;> first | with_reducible assumption | (clear f10_c2 f10 hK_0_1 hK_0_160 hK_0_162 hK_0_163 f0 f6; omega)) | ((have f10_c0 := f10.1); (have f10_c1 := f10.2.1); (have f10_c2 := f10.2.2); (first | have f0_b := f0 (by clear f10_c2 f10 hK_0_1 hK_0_160 hK_0_162 hK_0_163 f0 f6; omega) | skip); (first | have f6_b := f6 (by clear f10_c2 f10 hK_0_1 hK_0_160 hK_0_162 hK_0_163 f0 f6; omega) | skip); (first | have f0_d := f0 (by with_reducible assumption) | skip); (first | have f6_d := f6 (by with_reducible assumption) | skip); (try and_intros) <;> first | with_reducible assumption | (clear f10_c2 f10 hK_0_1 hK_0_160 hK_0_162 hK_0_163 f0 f6; omega)) | ((have f10_c0 := f10.1); (have f10_c1 := f10.2.1); (have f10_c2 := f10.2.2); (first | have f0_b := f0 (by clear f10_c2 f10 hK_0_1 hK_0_160 hK_0_162 hK_0_163 f0 f6; omega) | skip); (first | have f6_b := f6 (by clear f10_c2 f10 hK_0_1 hK_0_160 hK_0_162 hK_0_163 f0 f6; omega) | skip); (first | have f0_d := f0 (by with_reducible assumption) | skip); (first | have f6_d := f6 (by with_reducible assumption) | skip); (first | have f10_q := tk_nx0 f10 (by clear f10_c2 f10 hK_0_1 hK_0_160 hK_0_162 hK_0_163 f0 f6; omega) | skip); (try and_intros) <;> first | with_reducible assumption | (clear f10_c2 f10 hK_0_1 hK_0_160 hK_0_162 hK_0_163 f0 f6; omega)) | omega
set_option maxHeartbeats 4000000 in
theorem vc_Mo_test_f_5_2 (k : Int) (hk0 : 0 ≤ k) (hk1 : k ≤ 12) (x1 : Int) (x2 : Int) (x3 : Int) (x6 : Int) (x7 : Int) (x10 : Int) (x11 : Int) (x12 : Int) (x13 : Int) (x14 : Int) (styleKind_0 : Int) (styleOne_0 : Int) (tokenKind_0 : Int → Int) (tokenValue_0 : Int → Int) (tokenPlace_0 : Int → Int) (tokenEnd_0 : Int → Int) (tape_0 : Int → Int) (limit_0 : Int) (cur_0 : Int) (tokens_0 : Int) (opened_0 : Int) (fault_0 : Int) (gx : Int) (k1 : 0 ≤ x1 ∧ x1 ≤ 2009) (k2 : 0 ≤ x2 ∧ x2 ≤ 5) (k3 : 0 ≤ x3 ∧ x3 ≤ 13) (k6 : 0 ≤ x6 ∧ x6 ≤ 2009) (k7 : 0 ≤ x7 ∧ x7 ≤ 2010) (k10 : 1 ≤ x10 ∧ x10 ≤ 1) (k11 : 1 ≤ x11 ∧ x11 ≤ 2009) (k12 : 0 ≤ x12 ∧ x12 ≤ 2009) (k13 : 0 ≤ x13 ∧ x13 ≤ 5) (k14 : 0 ≤ x14 ∧ x14 ≤ 13) (d0 : x6 + 1 ≤ x11 ∧ x11 ≤ x6 + 1) (f0 : (styleKind_0 = 0) → (styleOne_0 ≤ 23)) (f1 : 1 * x1 + ((-1) * x12 + 0) ≤ 0) (f2 : (-1) * x7 + ((-1) * x12 + 0) ≤ (-2011)) (f3 : GTL (styleKind_0) (limit_0) (tokenKind_0) (tokenValue_0) (tokenPlace_0) (tokenEnd_0) (tape_0) (x12) (x13) (x1) (x2) (x3)) (f4 : 1 * x14 + 0 ≤ k) (f5 : (-1) * x14 + 0 ≤ ((-k))) (f6 : (styleKind_0 = 0) → (styleOne_0 ≤ 23)) (f7 : 1 * x3 + 0 ≤ k) (f8 : (-1) * x3 + 0 ≤ ((-k))) (f10 : ((cur_0 + 1) ≤ tokens_0) ∧ ((tokens_0 ≤ 2010) ∧ ((tokenKind_0 ((tokens_0 - 1)) = 0) ∨ (tokenKind_0 ((tokens_0 - 1)) = 4)))) (f11 : 1 * x12 + ((-1) * cur_0 + 0) ≤ 0) (f12 : 1 * opened_0 + 0 ≤ k) (f13 : (-1) * opened_0 + 0 ≤ ((-k))) (f14 : SBO (fault_0) (cur_0) (styleKind_0) (limit_0) (tokenKind_0) (tokenValue_0) (tokenPlace_0) (tokenEnd_0) (tape_0) (x12) (x13) (x14)) (f16 : 1 * x1 + ((-1) * x12 + 0) ≤ 0) (f17 : (-1) * x7 + ((-1) * x12 + 0) ≤ (-2011)) (f18 : 1 * x14 + 0 ≤ k) (f19 : (-1) * x14 + 0 ≤ ((-k))) (f20 : 1 * x3 + 0 ≤ k) (f21 : (-1) * x3 + 0 ≤ ((-k))) (f23 : x11 = x6 + x10) (f24 : 1 * x3 + 0 ≤ k) (f25 : (-1) * x3 + 0 ≤ ((-k))) (f27 : 1 * x3 + 0 ≤ k) (f28 : (-1) * x3 + 0 ≤ ((-k))) (hK_0_1 : ∀ j : Int, 0 ≤ j → j < 2000 → (-128) ≤ tape_0 j ∧ tape_0 j ≤ 127) (hK_0_160 : ∀ j : Int, 0 ≤ j → j < 2010 → 0 ≤ tokenKind_0 j ∧ tokenKind_0 j ≤ 4) (hK_0_162 : ∀ j : Int, 0 ≤ j → j < 2010 → 0 ≤ tokenPlace_0 j ∧ tokenPlace_0 j ≤ 2000) (hK_0_163 : ∀ j : Int, 0 ≤ j → j < 2010 → 0 ≤ tokenEnd_0 j ∧ tokenEnd_0 j ≤ 2000) (kz_0_8 : 0 ≤ fault_0 ∧ fault_0 ≤ 5) (kz_0_10 : 0 ≤ limit_0 ∧ limit_0 ≤ 2000) (kz_0_157 : 0 ≤ tokens_0 ∧ tokens_0 ≤ 2010) (kz_0_158 : 0 ≤ cur_0 ∧ cur_0 ≤ 2009) (kz_0_159 : 0 ≤ opened_0 ∧ opened_0 ≤ 13) (kz_0_164 : 0 ≤ styleKind_0 ∧ styleKind_0 ≤ 1) (kz_0_165 : (-1) ≤ styleOne_0 ∧ styleOne_0 ≤ 47) (ex2 : gx = 0 + (1 * x7 + 0)) (ex3 : 0 ≤ gx ∧ gx ≤ 2010) : (styleKind_0 = 0) → (styleOne_0 ≤ 23) := by
  first | with_reducible assumption | ((have f10_c0 := f10.1); (have f10_c1 := f10.2.1); (have f10_c2 := f10.2.2); (try and_intros) <;> first | with_reducible assumption | (clear f10_c2 f10 hK_0_1 hK_0_160 hK_0_162 hK_0_163 f0 f6; omega)) | ((have f10_c0 := f10.1); (have f10_c1 := f10.2.1); (have f10_c2 := f10.2.2); (first | have f0_b := f0 (by clear f10_c2 f10 hK_0_1 hK_0_160 hK_0_162 hK_0_163 f0 f6; omega) | skip); (first | have f6_b := f6 (by clear f10_c2 f10 hK_0_1 hK_0_160 hK_0_162 hK_0_163 f0 f6; omega) | skip); (first | have f0_d := f0 (by with_reducible assumption) | skip); (first | have f6_d := f6 (by with_reducible assumption) | skip); (try and_intros) <;> first | with_reducible assumption | (clear f10_c2 f10 hK_0_1 hK_0_160 hK_0_162 hK_0_163 f0 f6; omega)) | ((have f10_c0 := f10.1); (have f10_c1 := f10.2.1); (have f10_c2 := f10.2.2); (first | have f0_b := f0 (by clear f10_c2 f10 hK_0_1 hK_0_160 hK_0_162 hK_0_163 f0 f6; omega) | skip); (first | have f6_b := f6 (by clear f10_c2 f10 hK_0_1 hK_0_160 hK_0_162 hK_0_163 f0 f6; omega) | skip); (first | have f0_d := f0 (by with_reducible assumption) | skip); (first | have f6_d := f6 (by with_reducible assumption) | skip); (first | have f10_q := tk_nx0 f10 (by clear f10_c2 f10 hK_0_1 hK_0_160 hK_0_162 hK_0_163 f0 f6; omega) | skip); (try and_intros) <;> first | with_reducible assumption | (clear f10_c2 f10 hK_0_1 hK_0_160 hK_0_162 hK_0_163 f0 f6; omega)) | (intro hG; (first | have f0_g := f0 hG | skip); (first | have f6_g := f6 hG | skip); (have f10_c0 := f10.1); (have f10_c1 := f10.2.1); (have f10_c2 := f10.2.2); (first | have f0_b := f0 (by clear f10_c2 f10 hK_0_1 hK_0_160 hK_0_162 hK_0_163 f0 f6; omega) | skip); (first | have f6_b := f6 (by clear f10_c2 f10 hK_0_1 hK_0_160 hK_0_162 hK_0_163 f0 f6; omega) | skip); (try and_intros) <;> first | with_reducible assumption | (clear f10_c2 f10 hK_0_1 hK_0_160 hK_0_162 hK_0_163 f0 f6 hG; omega)) | omega
set_option maxHeartbeats 4000000 in
theorem vc_Mo_test_f_5_3 (k : Int) (hk0 : 0 ≤ k) (hk1 : k ≤ 12) (x1 : Int) (x2 : Int) (x3 : Int) (x6 : Int) (x7 : Int) (x10 : Int) (x11 : Int) (x12 : Int) (x13 : Int) (x14 : Int) (styleKind_0 : Int) (styleOne_0 : Int) (tokenKind_0 : Int → Int) (tokenValue_0 : Int → Int) (tokenPlace_0 : Int → Int) (tokenEnd_0 : Int → Int) (tape_0 : Int → Int) (limit_0 : Int) (cur_0 : Int) (tokens_0 : Int) (opened_0 : Int) (fault_0 : Int) (gx : Int) (k1 : 0 ≤ x1 ∧ x1 ≤ 2009) (k2 : 0 ≤ x2 ∧ x2 ≤ 5) (k3 : 0 ≤ x3 ∧ x3 ≤ 13) (k6 : 0 ≤ x6 ∧ x6 ≤ 2009) (k7 : 0 ≤ x7 ∧ x7 ≤ 2010) (k10 : 1 ≤ x10 ∧ x10 ≤ 1) (k11 : 1 ≤ x11 ∧ x11 ≤ 2009) (k12 : 0 ≤ x12 ∧ x12 ≤ 2009) (k13 : 0 ≤ x13 ∧ x13 ≤ 5) (k14 : 0 ≤ x14 ∧ x14 ≤ 13) (d0 : x6 + 1 ≤ x11 ∧ x11 ≤ x6 + 1) (f0 : (styleKind_0 = 0) → (styleOne_0 ≤ 23)) (f1 : 1 * x1 + ((-1) * x12 + 0) ≤ 0) (f2 : (-1) * x7 + ((-1) * x12 + 0) ≤ (-2011)) (f3 : GTL (styleKind_0) (limit_0) (tokenKind_0) (tokenValue_0) (tokenPlace_0) (tokenEnd_0) (tape_0) (x12) (x13) (x1) (x2) (x3)) (f4 : 1 * x14 + 0 ≤ k) (f5 : (-1) * x14 + 0 ≤ ((-k))) (f6 : (styleKind_0 = 0) → (styleOne_0 ≤ 23)) (f7 : 1 * x3 + 0 ≤ k) (f8 : (-1) * x3 + 0 ≤ ((-k))) (f10 : ((cur_0 + 1) ≤ tokens_0) ∧ ((tokens_0 ≤ 2010) ∧ ((tokenKind_0 ((tokens_0 - 1)) = 0) ∨ (tokenKind_0 ((tokens_0 - 1)) = 4)))) (f11 : 1 * x12 + ((-1) * cur_0 + 0) ≤ 0) (f12 : 1 * opened_0 + 0 ≤ k) (f13 : (-1) * opened_0 + 0 ≤ ((-k))) (f14 : SBO (fault_0) (cur_0) (styleKind_0) (limit_0) (tokenKind_0) (tokenValue_0) (tokenPlace_0) (tokenEnd_0) (tape_0) (x12) (x13) (x14)) (f16 : 1 * x1 + ((-1) * x12 + 0) ≤ 0) (f17 : (-1) * x7 + ((-1) * x12 + 0) ≤ (-2011)) (f18 : 1 * x14 + 0 ≤ k) (f19 : (-1) * x14 + 0 ≤ ((-k))) (f20 : 1 * x3 + 0 ≤ k) (f21 : (-1) * x3 + 0 ≤ ((-k))) (f23 : x11 = x6 + x10) (f24 : 1 * x3 + 0 ≤ k) (f25 : (-1) * x3 + 0 ≤ ((-k))) (f27 : 1 * x3 + 0 ≤ k) (f28 : (-1) * x3 + 0 ≤ ((-k))) (hK_0_1 : ∀ j : Int, 0 ≤ j → j < 2000 → (-128) ≤ tape_0 j ∧ tape_0 j ≤ 127) (hK_0_160 : ∀ j : Int, 0 ≤ j → j < 2010 → 0 ≤ tokenKind_0 j ∧ tokenKind_0 j ≤ 4) (hK_0_162 : ∀ j : Int, 0 ≤ j → j < 2010 → 0 ≤ tokenPlace_0 j ∧ tokenPlace_0 j ≤ 2000) (hK_0_163 : ∀ j : Int, 0 ≤ j → j < 2010 → 0 ≤ tokenEnd_0 j ∧ tokenEnd_0 j ≤ 2000) (kz_0_8 : 0 ≤ fault_0 ∧ fault_0 ≤ 5) (kz_0_10 : 0 ≤ limit_0 ∧ limit_0 ≤ 2000) (kz_0_157 : 0 ≤ tokens_0 ∧ tokens_0 ≤ 2010) (kz_0_158 : 0 ≤ cur_0 ∧ cur_0 ≤ 2009) (kz_0_159 : 0 ≤ opened_0 ∧ opened_0 ≤ 13) (kz_0_164 : 0 ≤ styleKind_0 ∧ styleKind_0 ≤ 1) (kz_0_165 : (-1) ≤ styleOne_0 ∧ styleOne_0 ≤ 47) (ex2 : gx = 0 + (1 * x7 + 0)) (ex3 : 0 ≤ gx ∧ gx ≤ 2010) : 1 * opened_0 + 0 ≤ k := by
  first | with_reducible assumption | ((have f10_c0 := f10.1); (have f10_c1 := f10.2.1); (have f10_c2 := f10.2.2); (try and_intros) <;> first | with_reducible assumption | (clear f10_c2 f10 hK_0_1 hK_0_160 hK_0_162 hK_0_163 f0 f6; omega)) | ((have f10_c0 := f10.1); (have f10_c1 := f10.2.1); (have f10_c2 := f10.2.2); (first | have f0_b := f0 (by clear f10_c2 f10 hK_0_1 hK_0_160 hK_0_162 hK_0_163 f0 f6; omega) | skip); (first | have f6_b := f6 (by clear f10_c2 f10 hK_0_1 hK_0_160 hK_0_162 hK_0_163 f0 f6; omega) | skip); (first | have f0_d := f0 (by with_reducible assumption) | skip); (first | have f6_d := f6 (by with_reducible assumption) | skip); (try and_intros) <;> first | with_reducible assumption | (clear f10_c2 f10 hK_0_1 hK_0_160 hK_0_162 hK_0_163 f0 f6; omega)) | ((have f10_c0 := f10.1); (have f10_c1 := f10.2.1); (have f10_c2 := f10.2.2); (first | have f0_b := f0 (by clear f10_c2 f10 hK_0_1 hK_0_160 hK_0_162 hK_0_163 f0 f6; omega) | skip); (first | have f6_b := f6 (by clear f10_c2 f10 hK_0_1 hK_0_160 hK_0_162 hK_0_163 f0 f6; omega) | skip); (first | have f0_d := f0 (by with_reducible assumption) | skip); (first | have f6_d := f6 (by with_reducible assumption) | skip); (first | have f10_q := tk_nx0 f10 (by clear f10_c2 f10 hK_0_1 hK_0_160 hK_0_162 hK_0_163 f0 f6; omega) | skip); (try and_intros) <;> first | with_reducible assumption | (clear f10_c2 f10 hK_0_1 hK_0_160 hK_0_162 hK_0_163 f0 f6; omega)) | omega
set_option maxHeartbeats 4000000 in
theorem vc_Mo_test_f_5_4 (k : Int) (hk0 : 0 ≤ k) (hk1 : k ≤ 12) (x1 : Int) (x2 : Int) (x3 : Int) (x6 : Int) (x7 : Int) (x10 : Int) (x11 : Int) (x12 : Int) (x13 : Int) (x14 : Int) (styleKind_0 : Int) (styleOne_0 : Int) (tokenKind_0 : Int → Int) (tokenValue_0 : Int → Int) (tokenPlace_0 : Int → Int) (tokenEnd_0 : Int → Int) (tape_0 : Int → Int) (limit_0 : Int) (cur_0 : Int) (tokens_0 : Int) (opened_0 : Int) (fault_0 : Int) (gx : Int) (k1 : 0 ≤ x1 ∧ x1 ≤ 2009) (k2 : 0 ≤ x2 ∧ x2 ≤ 5) (k3 : 0 ≤ x3 ∧ x3 ≤ 13) (k6 : 0 ≤ x6 ∧ x6 ≤ 2009) (k7 : 0 ≤ x7 ∧ x7 ≤ 2010) (k10 : 1 ≤ x10 ∧ x10 ≤ 1) (k11 : 1 ≤ x11 ∧ x11 ≤ 2009) (k12 : 0 ≤ x12 ∧ x12 ≤ 2009) (k13 : 0 ≤ x13 ∧ x13 ≤ 5) (k14 : 0 ≤ x14 ∧ x14 ≤ 13) (d0 : x6 + 1 ≤ x11 ∧ x11 ≤ x6 + 1) (f0 : (styleKind_0 = 0) → (styleOne_0 ≤ 23)) (f1 : 1 * x1 + ((-1) * x12 + 0) ≤ 0) (f2 : (-1) * x7 + ((-1) * x12 + 0) ≤ (-2011)) (f3 : GTL (styleKind_0) (limit_0) (tokenKind_0) (tokenValue_0) (tokenPlace_0) (tokenEnd_0) (tape_0) (x12) (x13) (x1) (x2) (x3)) (f4 : 1 * x14 + 0 ≤ k) (f5 : (-1) * x14 + 0 ≤ ((-k))) (f6 : (styleKind_0 = 0) → (styleOne_0 ≤ 23)) (f7 : 1 * x3 + 0 ≤ k) (f8 : (-1) * x3 + 0 ≤ ((-k))) (f10 : ((cur_0 + 1) ≤ tokens_0) ∧ ((tokens_0 ≤ 2010) ∧ ((tokenKind_0 ((tokens_0 - 1)) = 0) ∨ (tokenKind_0 ((tokens_0 - 1)) = 4)))) (f11 : 1 * x12 + ((-1) * cur_0 + 0) ≤ 0) (f12 : 1 * opened_0 + 0 ≤ k) (f13 : (-1) * opened_0 + 0 ≤ ((-k))) (f14 : SBO (fault_0) (cur_0) (styleKind_0) (limit_0) (tokenKind_0) (tokenValue_0) (tokenPlace_0) (tokenEnd_0) (tape_0) (x12) (x13) (x14)) (f16 : 1 * x1 + ((-1) * x12 + 0) ≤ 0) (f17 : (-1) * x7 + ((-1) * x12 + 0) ≤ (-2011)) (f18 : 1 * x14 + 0 ≤ k) (f19 : (-1) * x14 + 0 ≤ ((-k))) (f20 : 1 * x3 + 0 ≤ k) (f21 : (-1) * x3 + 0 ≤ ((-k))) (f23 : x11 = x6 + x10) (f24 : 1 * x3 + 0 ≤ k) (f25 : (-1) * x3 + 0 ≤ ((-k))) (f27 : 1 * x3 + 0 ≤ k) (f28 : (-1) * x3 + 0 ≤ ((-k))) (hK_0_1 : ∀ j : Int, 0 ≤ j → j < 2000 → (-128) ≤ tape_0 j ∧ tape_0 j ≤ 127) (hK_0_160 : ∀ j : Int, 0 ≤ j → j < 2010 → 0 ≤ tokenKind_0 j ∧ tokenKind_0 j ≤ 4) (hK_0_162 : ∀ j : Int, 0 ≤ j → j < 2010 → 0 ≤ tokenPlace_0 j ∧ tokenPlace_0 j ≤ 2000) (hK_0_163 : ∀ j : Int, 0 ≤ j → j < 2010 → 0 ≤ tokenEnd_0 j ∧ tokenEnd_0 j ≤ 2000) (kz_0_8 : 0 ≤ fault_0 ∧ fault_0 ≤ 5) (kz_0_10 : 0 ≤ limit_0 ∧ limit_0 ≤ 2000) (kz_0_157 : 0 ≤ tokens_0 ∧ tokens_0 ≤ 2010) (kz_0_158 : 0 ≤ cur_0 ∧ cur_0 ≤ 2009) (kz_0_159 : 0 ≤ opened_0 ∧ opened_0 ≤ 13) (kz_0_164 : 0 ≤ styleKind_0 ∧ styleKind_0 ≤ 1) (kz_0_165 : (-1) ≤ styleOne_0 ∧ styleOne_0 ≤ 47) (ex2 : gx = 0 + (1 * x7 + 0)) (ex3 : 0 ≤ gx ∧ gx ≤ 2010) : (-1) * opened_0 + 0 ≤ ((-k)) := by
  first | with_reducible assumption | ((have f10_c0 := f10.1); (have f10_c1 := f10.2.1); (have f10_c2 := f10.2.2); (try and_intros) <;> first | with_reducible assumption | (clear f10_c2 f10 hK_0_1 hK_0_160 hK_0_162 hK_0_163 f0 f6; omega)) | ((have f10_c0 := f10.1); (have f10_c1 := f10.2.1); (have f10_c2 := f10.2.2); (first | have f0_b := f0 (by clear f10_c2 f10 hK_0_1 hK_0_160 hK_0_162 hK_0_163 f0 f6; omega) | skip); (first | have f6_b := f6 (by clear f10_c2 f10 hK_0_1 hK_0_160 hK_0_162 hK_0_163 f0 f6; omega) | skip); (first | have f0_d := f0 (by with_reducible assumption) | skip); (first | have f6_d := f6 (by with_reducible assumption) | skip); (try and_intros) <;> first | with_reducible assumption | (clear f10_c2 f10 hK_0_1 hK_0_160 hK_0_162 hK_0_163 f0 f6; omega)) | ((have f10_c0 := f10.1); (have f10_c1 := f10.2.1); (have f10_c2 := f10.2.2); (first | have f0_b := f0 (by clear f10_c2 f10 hK_0_1 hK_0_160 hK_0_162 hK_0_163 f0 f6; omega) | skip); (first | have f6_b := f6 (by clear f10_c2 f10 hK_0_1 hK_0_160 hK_0_162 hK_0_163 f0 f6; omega) | skip); (first | have f0_d := f0 (by with_reducible assumption) | skip); (first | have f6_d := f6 (by with_reducible assumption) | skip); (first | have f10_q := tk_nx0 f10 (by clear f10_c2 f10 hK_0_1 hK_0_160 hK_0_162 hK_0_163 f0 f6; omega) | skip); (try and_intros) <;> first | with_reducible assumption | (clear f10_c2 f10 hK_0_1 hK_0_160 hK_0_162 hK_0_163 f0 f6; omega)) | omega
set_option maxHeartbeats 4000000 in
theorem vc_Mo_test_f_5_5 (k : Int) (hk0 : 0 ≤ k) (hk1 : k ≤ 12) (x1 : Int) (x2 : Int) (x3 : Int) (x6 : Int) (x7 : Int) (x10 : Int) (x11 : Int) (x12 : Int) (x13 : Int) (x14 : Int) (styleKind_0 : Int) (styleOne_0 : Int) (tokenKind_0 : Int → Int) (tokenValue_0 : Int → Int) (tokenPlace_0 : Int → Int) (tokenEnd_0 : Int → Int) (tape_0 : Int → Int) (limit_0 : Int) (cur_0 : Int) (tokens_0 : Int) (opened_0 : Int) (fault_0 : Int) (gx : Int) (k1 : 0 ≤ x1 ∧ x1 ≤ 2009) (k2 : 0 ≤ x2 ∧ x2 ≤ 5) (k3 : 0 ≤ x3 ∧ x3 ≤ 13) (k6 : 0 ≤ x6 ∧ x6 ≤ 2009) (k7 : 0 ≤ x7 ∧ x7 ≤ 2010) (k10 : 1 ≤ x10 ∧ x10 ≤ 1) (k11 : 1 ≤ x11 ∧ x11 ≤ 2009) (k12 : 0 ≤ x12 ∧ x12 ≤ 2009) (k13 : 0 ≤ x13 ∧ x13 ≤ 5) (k14 : 0 ≤ x14 ∧ x14 ≤ 13) (d0 : x6 + 1 ≤ x11 ∧ x11 ≤ x6 + 1) (f0 : (styleKind_0 = 0) → (styleOne_0 ≤ 23)) (f1 : 1 * x1 + ((-1) * x12 + 0) ≤ 0) (f2 : (-1) * x7 + ((-1) * x12 + 0) ≤ (-2011)) (f3 : GTL (styleKind_0) (limit_0) (tokenKind_0) (tokenValue_0) (tokenPlace_0) (tokenEnd_0) (tape_0) (x12) (x13) (x1) (x2) (x3)) (f4 : 1 * x14 + 0 ≤ k) (f5 : (-1) * x14 + 0 ≤ ((-k))) (f6 : (styleKind_0 = 0) → (styleOne_0 ≤ 23)) (f7 : 1 * x3 + 0 ≤ k) (f8 : (-1) * x3 + 0 ≤ ((-k))) (f10 : ((cur_0 + 1) ≤ tokens_0) ∧ ((tokens_0 ≤ 2010) ∧ ((tokenKind_0 ((tokens_0 - 1)) = 0) ∨ (tokenKind_0 ((tokens_0 - 1)) = 4)))) (f11 : 1 * x12 + ((-1) * cur_0 + 0) ≤ 0) (f12 : 1 * opened_0 + 0 ≤ k) (f13 : (-1) * opened_0 + 0 ≤ ((-k))) (f14 : SBO (fault_0) (cur_0) (styleKind_0) (limit_0) (tokenKind_0) (tokenValue_0) (tokenPlace_0) (tokenEnd_0) (tape_0) (x12) (x13) (x14)) (f16 : 1 * x1 + ((-1) * x12 + 0) ≤ 0) (f17 : (-1) * x7 + ((-1) * x12 + 0) ≤ (-2011)) (f18 : 1 * x14 + 0 ≤ k) (f19 : (-1) * x14 + 0 ≤ ((-k))) (f20 : 1 * x3 + 0 ≤ k) (f21 : (-1) * x3 + 0 ≤ ((-k))) (f23 : x11 = x6 + x10) (f24 : 1 * x3 + 0 ≤ k) (f25 : (-1) * x3 + 0 ≤ ((-k))) (f27 : 1 * x3 + 0 ≤ k) (f28 : (-1) * x3 + 0 ≤ ((-k))) (hK_0_1 : ∀ j : Int, 0 ≤ j → j < 2000 → (-128) ≤ tape_0 j ∧ tape_0 j ≤ 127) (hK_0_160 : ∀ j : Int, 0 ≤ j → j < 2010 → 0 ≤ tokenKind_0 j ∧ tokenKind_0 j ≤ 4) (hK_0_162 : ∀ j : Int, 0 ≤ j → j < 2010 → 0 ≤ tokenPlace_0 j ∧ tokenPlace_0 j ≤ 2000) (hK_0_163 : ∀ j : Int, 0 ≤ j → j < 2010 → 0 ≤ tokenEnd_0 j ∧ tokenEnd_0 j ≤ 2000) (kz_0_8 : 0 ≤ fault_0 ∧ fault_0 ≤ 5) (kz_0_10 : 0 ≤ limit_0 ∧ limit_0 ≤ 2000) (kz_0_157 : 0 ≤ tokens_0 ∧ tokens_0 ≤ 2010) (kz_0_158 : 0 ≤ cur_0 ∧ cur_0 ≤ 2009) (kz_0_159 : 0 ≤ opened_0 ∧ opened_0 ≤ 13) (kz_0_164 : 0 ≤ styleKind_0 ∧ styleKind_0 ≤ 1) (kz_0_165 : (-1) ≤ styleOne_0 ∧ styleOne_0 ≤ 47) (ex2 : gx = 0 + (1 * x7 + 0)) (ex3 : 0 ≤ gx ∧ gx ≤ 2010) : (-1) * gx + ((-1) * cur_0 + 0) ≤ (-2011) := by
  first | with_reducible assumption | ((have f10_c0 := f10.1); (have f10_c1 := f10.2.1); (have f10_c2 := f10.2.2); (try and_intros) <;> first | with_reducible assumption | (clear f10_c2 f10 hK_0_1 hK_0_160 hK_0_162 hK_0_163 f0 f6; omega)) | ((have f10_c0 := f10.1); (have f10_c1 := f10.2.1); (have f10_c2 := f10.2.2); (first | have f0_b := f0 (by clear f10_c2 f10 hK_0_1 hK_0_160 hK_0_162 hK_0_163 f0 f6; omega) | skip); (first | have f6_b := f6 (by clear f10_c2 f10 hK_0_1 hK_0_160 hK_0_162 hK_0_163 f0 f6; omega) | skip); (first | have f0_d := f0 (by with_reducible assumption) | skip); (first | have f6_d := f6 (by with_reducible assumption) | skip); (try and_intros) <;> first | with_reducible assumption | (clear f10_c2 f10 hK_0_1 hK_0_160 hK_0_162 hK_0_163 f0 f6; omega)) | ((have f10_c0 := f10.1); (have f10_c1 := f10.2.1); (have f10_c2 := f10.2.2); (first | have f0_b := f0 (by clear f10_c2 f10 hK_0_1 hK_0_160 hK_0_162 hK_0_163 f0 f6; omega) | skip); (first | have f6_b := f6 (by clear f10_c2 f10 hK_0_1 hK_0_160 hK_0_162 hK_0_163 f0 f6; omega) | skip); (first | have f0_d := f0 (by with_reducible assumption) | skip); (first | have f6_d := f6 (by with_reducible assumption) | skip); (first | have f10_q := tk_nx0 f10 (by clear f10_c2 f10 hK_0_1 hK_0_160 hK_0_162 hK_0_163 f0 f6; omega) | skip); (try and_intros) <;> first | with_reducible assumption | (clear f10_c2 f10 hK_0_1 hK_0_160 hK_0_162 hK_0_163 f0 f6; omega)) | omega
set_option maxHeartbeats 4000000 in
theorem vc_Mo_test_f_5_6 (k : Int) (hk0 : 0 ≤ k) (hk1 : k ≤ 12) (x1 : Int) (x2 : Int) (x3 : Int) (x6 : Int) (x7 : Int) (x10 : Int) (x11 : Int) (x12 : Int) (x13 : Int) (x14 : Int) (styleKind_0 : Int) (styleOne_0 : Int) (tokenKind_0 : Int → Int) (tokenValue_0 : Int → Int) (tokenPlace_0 : Int → Int) (tokenEnd_0 : Int → Int) (tape_0 : Int → Int) (limit_0 : Int) (cur_0 : Int) (tokens_0 : Int) (opened_0 : Int) (fault_0 : Int) (gx : Int) (k1 : 0 ≤ x1 ∧ x1 ≤ 2009) (k2 : 0 ≤ x2 ∧ x2 ≤ 5) (k3 : 0 ≤ x3 ∧ x3 ≤ 13) (k6 : 0 ≤ x6 ∧ x6 ≤ 2009) (k7 : 0 ≤ x7 ∧ x7 ≤ 2010) (k10 : 1 ≤ x10 ∧ x10 ≤ 1) (k11 : 1 ≤ x11 ∧ x11 ≤ 2009) (k12 : 0 ≤ x12 ∧ x12 ≤ 2009) (k13 : 0 ≤ x13 ∧ x13 ≤ 5) (k14 : 0 ≤ x14 ∧ x14 ≤ 13) (d0 : x6 + 1 ≤ x11 ∧ x11 ≤ x6 + 1) (f0 : (styleKind_0 = 0) → (styleOne_0 ≤ 23)) (f1 : 1 * x1 + ((-1) * x12 + 0) ≤ 0) (f2 : (-1) * x7 + ((-1) * x12 + 0) ≤ (-2011)) (f3 : GTL (styleKind_0) (limit_0) (tokenKind_0) (tokenValue_0) (tokenPlace_0) (tokenEnd_0) (tape_0) (x12) (x13) (x1) (x2) (x3)) (f4 : 1 * x14 + 0 ≤ k) (f5 : (-1) * x14 + 0 ≤ ((-k))) (f6 : (styleKind_0 = 0) → (styleOne_0 ≤ 23)) (f7 : 1 * x3 + 0 ≤ k) (f8 : (-1) * x3 + 0 ≤ ((-k))) (f10 : ((cur_0 + 1) ≤ tokens_0) ∧ ((tokens_0 ≤ 2010) ∧ ((tokenKind_0 ((tokens_0 - 1)) = 0) ∨ (tokenKind_0 ((tokens_0 - 1)) = 4)))) (f11 : 1 * x12 + ((-1) * cur_0 + 0) ≤ 0) (f12 : 1 * opened_0 + 0 ≤ k) (f13 : (-1) * opened_0 + 0 ≤ ((-k))) (f14 : SBO (fault_0) (cur_0) (styleKind_0) (limit_0) (tokenKind_0) (tokenValue_0) (tokenPlace_0) (tokenEnd_0) (tape_0) (x12) (x13) (x14)) (f16 : 1 * x1 + ((-1) * x12 + 0) ≤ 0) (f17 : (-1) * x7 + ((-1) * x12 + 0) ≤ (-2011)) (f18 : 1 * x14 + 0 ≤ k) (f19 : (-1) * x14 + 0 ≤ ((-k))) (f20 : 1 * x3 + 0 ≤ k) (f21 : (-1) * x3 + 0 ≤ ((-k))) (f23 : x11 = x6 + x10) (f24 : 1 * x3 + 0 ≤ k) (f25 : (-1) * x3 + 0 ≤ ((-k))) (f27 : 1 * x3 + 0 ≤ k) (f28 : (-1) * x3 + 0 ≤ ((-k))) (hK_0_1 : ∀ j : Int, 0 ≤ j → j < 2000 → (-128) ≤ tape_0 j ∧ tape_0 j ≤ 127) (hK_0_160 : ∀ j : Int, 0 ≤ j → j < 2010 → 0 ≤ tokenKind_0 j ∧ tokenKind_0 j ≤ 4) (hK_0_162 : ∀ j : Int, 0 ≤ j → j < 2010 → 0 ≤ tokenPlace_0 j ∧ tokenPlace_0 j ≤ 2000) (hK_0_163 : ∀ j : Int, 0 ≤ j → j < 2010 → 0 ≤ tokenEnd_0 j ∧ tokenEnd_0 j ≤ 2000) (kz_0_8 : 0 ≤ fault_0 ∧ fault_0 ≤ 5) (kz_0_10 : 0 ≤ limit_0 ∧ limit_0 ≤ 2000) (kz_0_157 : 0 ≤ tokens_0 ∧ tokens_0 ≤ 2010) (kz_0_158 : 0 ≤ cur_0 ∧ cur_0 ≤ 2009) (kz_0_159 : 0 ≤ opened_0 ∧ opened_0 ≤ 13) (kz_0_164 : 0 ≤ styleKind_0 ∧ styleKind_0 ≤ 1) (kz_0_165 : (-1) ≤ styleOne_0 ∧ styleOne_0 ≤ 47) (ex2 : gx = 0 + (1 * x7 + 0)) (ex3 : 0 ≤ gx ∧ gx ≤ 2010) : STL (fault_0) (cur_0) (styleKind_0) (limit_0) (tokenKind_0) (tokenValue_0) (tokenPlace_0) (tokenEnd_0) (tape_0) (x1) (x2) (x3) := by
  first
    | exact stl_start (‹SBO _ _ _ _ _ _ _ _ _ _ _ _›) (by omega) (by omega) (by omega) (by omega)
    | exact stl_go (‹GTL _ _ _ _ _ _ _ _ _ _ _ _›) (‹SBO _ _ _ _ _ _ _ _ _ _ _ _›) (by omega) (by omega) (by omega)
    | assumption
  
set_option maxHeartbeats 4000000 in
theorem vc_Mo_test_f_5_7 (k : Int) (hk0 : 0 ≤ k) (hk1 : k ≤ 12) (x1 : Int) (x2 : Int) (x3 : Int) (x6 : Int) (x7 : Int) (x10 : Int) (x11 : Int) (x12 : Int) (x13 : Int) (x14 : Int) (styleKind_0 : Int) (styleOne_0 : Int) (tokenKind_0 : Int → Int) (tokenValue_0 : Int → Int) (tokenPlace_0 : Int → Int) (tokenEnd_0 : Int → Int) (tape_0 : Int → Int) (limit_0 : Int) (cur_0 : Int) (tokens_0 : Int) (opened_0 : Int) (fault_0 : Int) (gx : Int) (k1 : 0 ≤ x1 ∧ x1 ≤ 2009) (k2 : 0 ≤ x2 ∧ x2 ≤ 5) (k3 : 0 ≤ x3 ∧ x3 ≤ 13) (k6 : 0 ≤ x6 ∧ x6 ≤ 2009) (k7 : 0 ≤ x7 ∧ x7 ≤ 2010) (k10 : 1 ≤ x10 ∧ x10 ≤ 1) (k11 : 1 ≤ x11 ∧ x11 ≤ 2009) (k12 : 0 ≤ x12 ∧ x12 ≤ 2009) (k13 : 0 ≤ x13 ∧ x13 ≤ 5) (k14 : 0 ≤ x14 ∧ x14 ≤ 13) (d0 : x6 + 1 ≤ x11 ∧ x11 ≤ x6 + 1) (f0 : (styleKind_0 = 0) → (styleOne_0 ≤ 23)) (f1 : 1 * x1 + ((-1) * x12 + 0) ≤ 0) (f2 : (-1) * x7 + ((-1) * x12 + 0) ≤ (-2011)) (f3 : GTL (styleKind_0) (limit_0) (tokenKind_0) (tokenValue_0) (tokenPlace_0) (tokenEnd_0) (tape_0) (x12) (x13) (x1) (x2) (x3)) (f4 : 1 * x14 + 0 ≤ k) (f5 : (-1) * x14 + 0 ≤ ((-k))) (f6 : (styleKind_0 = 0) → (styleOne_0 ≤ 23)) (f7 : 1 * x3 + 0 ≤ k) (f8 : (-1) * x3 + 0 ≤ ((-k))) (f10 : ((cur_0 + 1) ≤ tokens_0) ∧ ((tokens_0 ≤ 2010) ∧ ((tokenKind_0 ((tokens_0 - 1)) = 0) ∨ (tokenKind_0 ((tokens_0 - 1)) = 4)))) (f11 : 1 * x12 + ((-1) * cur_0 + 0) ≤ 0) (f12 : 1 * opened_0 + 0 ≤ k) (f13 : (-1) * opened_0 + 0 ≤ ((-k))) (f14 : SBO (fault_0) (cur_0) (styleKind_0) (limit_0) (tokenKind_0) (tokenValue_0) (tokenPlace_0) (tokenEnd_0) (tape_0) (x12) (x13) (x14)) (f16 : 1 * x1 + ((-1) * x12 + 0) ≤ 0) (f17 : (-1) * x7 + ((-1) * x12 + 0) ≤ (-2011)) (f18 : 1 * x14 + 0 ≤ k) (f19 : (-1) * x14 + 0 ≤ ((-k))) (f20 : 1 * x3 + 0 ≤ k) (f21 : (-1) * x3 + 0 ≤ ((-k))) (f23 : x11 = x6 + x10) (f24 : 1 * x3 + 0 ≤ k) (f25 : (-1) * x3 + 0 ≤ ((-k))) (f27 : 1 * x3 + 0 ≤ k) (f28 : (-1) * x3 + 0 ≤ ((-k))) (hK_0_1 : ∀ j : Int, 0 ≤ j → j < 2000 → (-128) ≤ tape_0 j ∧ tape_0 j ≤ 127) (hK_0_160 : ∀ j : Int, 0 ≤ j → j < 2010 → 0 ≤ tokenKind_0 j ∧ tokenKind_0 j ≤ 4) (hK_0_162 : ∀ j : Int, 0 ≤ j → j < 2010 → 0 ≤ tokenPlace_0 j ∧ tokenPlace_0 j ≤ 2000) (hK_0_163 : ∀ j : Int, 0 ≤ j → j < 2010 → 0 ≤ tokenEnd_0 j ∧ tokenEnd_0 j ≤ 2000) (kz_0_8 : 0 ≤ fault_0 ∧ fault_0 ≤ 5) (kz_0_10 : 0 ≤ limit_0 ∧ limit_0 ≤ 2000) (kz_0_157 : 0 ≤ tokens_0 ∧ tokens_0 ≤ 2010) (kz_0_158 : 0 ≤ cur_0 ∧ cur_0 ≤ 2009) (kz_0_159 : 0 ≤ opened_0 ∧ opened_0 ≤ 13) (kz_0_164 : 0 ≤ styleKind_0 ∧ styleKind_0 ≤ 1) (kz_0_165 : (-1) ≤ styleOne_0 ∧ styleOne_0 ≤ 47) (ex2 : gx = 0 + (1 * x7 + 0)) (ex3 : 0 ≤ gx ∧ gx ≤ 2010) : 1 * x3 + 0 ≤ k := by
  first | with_reducible assumption | ((have f10_c0 := f10.1); (have f10_c1 := f10.2.1); (have f10_c2 := f10.2.2); (try and_intros) <;> first | with_reducible assumption | (clear f10_c2 f10 hK_0_1 hK_0_160 hK_0_162 hK_0_163 f0 f6; omega)) | ((have f10_c0 := f10.1); (have f10_c1 := f10.2.1); (have f10_c2 := f10.2.2); (first | have f0_b := f0 (by clear f10_c2 f10 hK_0_1 hK_0_160 hK_0_162 hK_0_163 f0 f6; omega) | skip); (first | have f6_b := f6 (by clear f10_c2 f10 hK_0_1 hK_0_160 hK_0_162 hK_0_163 f0 f6; omega) | skip); (first | have f0_d := f0 (by with_reducible assumption) | skip); (first | have f6_d := f6 (by with_reducible assumption) | skip); (try and_intros) <;> first | with_reducible assumption | (clear f10_c2 f10 hK_0_1 hK_0_160 hK_0_162 hK_0_163 f0 f6; omega)) | ((have f10_c0 := f10.1); (have f10_c1 := f10.2.1); (have f10_c2 := f10.2.2); (first | have f0_b := f0 (by clear f10_c2 f10 hK_0_1 hK_0_160 hK_0_162 hK_0_163 f0 f6; omega) | skip); (first | have f6_b := f6 (by clear f10_c2 f10 hK_0_1 hK_0_160 hK_0_162 hK_0_163 f0 f6; omega) | skip); (first | have f0_d := f0 (by with_reducible assumption) | skip); (first | have f6_d := f6 (by with_reducible assumption) | skip); (first | have f10_q := tk_nx0 f10 (by clear f10_c2 f10 hK_0_1 hK_0_160 hK_0_162 hK_0_163 f0 f6; omega) | skip); (try and_intros) <;> first | with_reducible assumption | (clear f10_c2 f10 hK_0_1 hK_0_160 hK_0_162 hK_0_163 f0 f6; omega)) | omega
set_option maxHeartbeats 4000000 in
theorem vc_Mo_test_f_5_8 (k : Int) (hk0 : 0 ≤ k) (hk1 : k ≤ 12) (x1 : Int) (x2 : Int) (x3 : Int) (x6 : Int) (x7 : Int) (x10 : Int) (x11 : Int) (x12 : Int) (x13 : Int) (x14 : Int) (styleKind_0 : Int) (styleOne_0 : Int) (tokenKind_0 : Int → Int) (tokenValue_0 : Int → Int) (tokenPlace_0 : Int → Int) (tokenEnd_0 : Int → Int) (tape_0 : Int → Int) (limit_0 : Int) (cur_0 : Int) (tokens_0 : Int) (opened_0 : Int) (fault_0 : Int) (gx : Int) (k1 : 0 ≤ x1 ∧ x1 ≤ 2009) (k2 : 0 ≤ x2 ∧ x2 ≤ 5) (k3 : 0 ≤ x3 ∧ x3 ≤ 13) (k6 : 0 ≤ x6 ∧ x6 ≤ 2009) (k7 : 0 ≤ x7 ∧ x7 ≤ 2010) (k10 : 1 ≤ x10 ∧ x10 ≤ 1) (k11 : 1 ≤ x11 ∧ x11 ≤ 2009) (k12 : 0 ≤ x12 ∧ x12 ≤ 2009) (k13 : 0 ≤ x13 ∧ x13 ≤ 5) (k14 : 0 ≤ x14 ∧ x14 ≤ 13) (d0 : x6 + 1 ≤ x11 ∧ x11 ≤ x6 + 1) (f0 : (styleKind_0 = 0) → (styleOne_0 ≤ 23)) (f1 : 1 * x1 + ((-1) * x12 + 0) ≤ 0) (f2 : (-1) * x7 + ((-1) * x12 + 0) ≤ (-2011)) (f3 : GTL (styleKind_0) (limit_0) (tokenKind_0) (tokenValue_0) (tokenPlace_0) (tokenEnd_0) (tape_0) (x12) (x13) (x1) (x2) (x3)) (f4 : 1 * x14 + 0 ≤ k) (f5 : (-1) * x14 + 0 ≤ ((-k))) (f6 : (styleKind_0 = 0) → (styleOne_0 ≤ 23)) (f7 : 1 * x3 + 0 ≤ k) (f8 : (-1) * x3 + 0 ≤ ((-k))) (f10 : ((cur_0 + 1) ≤ tokens_0) ∧ ((tokens_0 ≤ 2010) ∧ ((tokenKind_0 ((tokens_0 - 1)) = 0) ∨ (tokenKind_0 ((tokens_0 - 1)) = 4)))) (f11 : 1 * x12 + ((-1) * cur_0 + 0) ≤ 0) (f12 : 1 * opened_0 + 0 ≤ k) (f13 : (-1) * opened_0 + 0 ≤ ((-k))) (f14 : SBO (fault_0) (cur_0) (styleKind_0) (limit_0) (tokenKind_0) (tokenValue_0) (tokenPlace_0) (tokenEnd_0) (tape_0) (x12) (x13) (x14)) (f16 : 1 * x1 + ((-1) * x12 + 0) ≤ 0) (f17 : (-1) * x7 + ((-1) * x12 + 0) ≤ (-2011)) (f18 : 1 * x14 + 0 ≤ k) (f19 : (-1) * x14 + 0 ≤ ((-k))) (f20 : 1 * x3 + 0 ≤ k) (f21 : (-1) * x3 + 0 ≤ ((-k))) (f23 : x11 = x6 + x10) (f24 : 1 * x3 + 0 ≤ k) (f25 : (-1) * x3 + 0 ≤ ((-k))) (f27 : 1 * x3 + 0 ≤ k) (f28 : (-1) * x3 + 0 ≤ ((-k))) (hK_0_1 : ∀ j : Int, 0 ≤ j → j < 2000 → (-128) ≤ tape_0 j ∧ tape_0 j ≤ 127) (hK_0_160 : ∀ j : Int, 0 ≤ j → j < 2010 → 0 ≤ tokenKind_0 j ∧ tokenKind_0 j ≤ 4) (hK_0_162 : ∀ j : Int, 0 ≤ j → j < 2010 → 0 ≤ tokenPlace_0 j ∧ tokenPlace_0 j ≤ 2000) (hK_0_163 : ∀ j : Int, 0 ≤ j → j < 2010 → 0 ≤ tokenEnd_0 j ∧ tokenEnd_0 j ≤ 2000) (kz_0_8 : 0 ≤ fault_0 ∧ fault_0 ≤ 5) (kz_0_10 : 0 ≤ limit_0 ∧ limit_0 ≤ 2000) (kz_0_157 : 0 ≤ tokens_0 ∧ tokens_0 ≤ 2010) (kz_0_158 : 0 ≤ cur_0 ∧ cur_0 ≤ 2009) (kz_0_159 : 0 ≤ opened_0 ∧ opened_0 ≤ 13) (kz_0_164 : 0 ≤ styleKind_0 ∧ styleKind_0 ≤ 1) (kz_0_165 : (-1) ≤ styleOne_0 ∧ styleOne_0 ≤ 47) (ex2 : gx = 0 + (1 * x7 + 0)) (ex3 : 0 ≤ gx ∧ gx ≤ 2010) : (-1) * x3 + 0 ≤ ((-k)) := by
  first | with_reducible assumption | ((have f10_c0 := f10.1); (have f10_c1 := f10.2.1); (have f10_c2 := f10.2.2); (try and_intros) <;> first | with_reducible assumption | (clear f10_c2 f10 hK_0_1 hK_0_160 hK_0_162 hK_0_163 f0 f6; omega)) | ((have f10_c0 := f10.1); (have f10_c1 := f10.2.1); (have f10_c2 := f10.2.2); (first | have f0_b := f0 (by clear f10_c2 f10 hK_0_1 hK_0_160 hK_0_162 hK_0_163 f0 f6; omega) | skip); (first | have f6_b := f6 (by clear f10_c2 f10 hK_0_1 hK_0_160 hK_0_162 hK_0_163 f0 f6; omega) | skip); (first | have f0_d := f0 (by with_reducible assumption) | skip); (first | have f6_d := f6 (by with_reducible assumption) | skip); (try and_intros) <;> first | with_reducible assumption | (clear f10_c2 f10 hK_0_1 hK_0_160 hK_0_162 hK_0_163 f0 f6; omega)) | ((have f10_c0 := f10.1); (have f10_c1 := f10.2.1); (have f10_c2 := f10.2.2); (first | have f0_b := f0 (by clear f10_c2 f10 hK_0_1 hK_0_160 hK_0_162 hK_0_163 f0 f6; omega) | skip); (first | have f6_b := f6 (by clear f10_c2 f10 hK_0_1 hK_0_160 hK_0_162 hK_0_163 f0 f6; omega) | skip); (first | have f0_d := f0 (by with_reducible assumption) | skip); (first | have f6_d := f6 (by with_reducible assumption) | skip); (first | have f10_q := tk_nx0 f10 (by clear f10_c2 f10 hK_0_1 hK_0_160 hK_0_162 hK_0_163 f0 f6; omega) | skip); (try and_intros) <;> first | with_reducible assumption | (clear f10_c2 f10 hK_0_1 hK_0_160 hK_0_162 hK_0_163 f0 f6; omega)) | omega
def o_Mo_test_f_5 (k : Int) : or_T := (43, 17, [(0, (2, 0, 0, [165])), (1, (0, 0, 2009, [])), (2, (0, 0, 5, [])), (3, (0, 0, 13, [])), (4, (2, 0, 0, [165])), (6, (0, 0, 2009, [])), (7, (0, 0, 2010, [])), (10, (0, 1, 1, [])), (11, (0, 1, 2009, [])), (12, (0, 0, 2009, [])), (13, (0, 0, 5, [])), (14, (0, 0, 13, []))], [(20, [4], [50, 2, 0, 164, 165, 4, 7, 1, 3, 2, 0, 164, 0, 0, 0, 3, 2, 0, 165, 0, 23]), (23, [1, 12], [0, 1, -1]), (23, [7, 12], [-2011, -1, -1]), (20, [4, 12, 13, 1, 2, 3], [60, 2, 5, 13, 164, 10, 160, 161, 162, 163, 1]), (23, [14], [k, 1]), (23, [14], [(-k), -1]), (20, [4], [50, 2, 0, 164, 165, 4, 7, 1, 3, 2, 0, 164, 0, 0, 0, 3, 2, 0, 165, 0, 23]), (23, [3], [k, 1]), (23, [3], [(-k), -1]), (24, [0, 4], []), (20, [4], [50, 2, 1, 158, 157, 160, 2, 12, 0, 7, 4, 3, 2, 0, 158, 0, 1, 2, 0, 157, 2, 7, 0, 3, 2, 0, 157, 0, 2010, 3, 14, 1, 10, 3, 0, 160, 5, 3, 2, 0, 157, 0, 1, 0, 0, 1, 10, 3, 0, 160, 5, 3, 2, 0, 157, 0, 1, 0, 4]), (20, [12, 4], [30, 0, 1, 0, 0, -1, 1, 158]), (20, [4], [30, k, 1, 1, 159]), (20, [4], [30, (-k), -1, 1, 159]), (20, [4, 12, 13, 14], [60, 4, 5, 4, 8, 158, 164, 10, 160, 161, 162, 163, 1]), (102, [14], [0, 165008, 165009, 165158, 165159]), (23, [1, 12], [0, 1, -1]), (23, [7, 12], [-2011, -1, -1]), (23, [14], [k, 1]), (23, [14], [(-k), -1]), (23, [3], [k, 1]), (23, [3], [(-k), -1]), (101, [4, 11], [158]), (1, [11, 6, 10], []), (23, [3], [k, 1]), (23, [3], [(-k), -1]), (102, [8], [0]), (23, [3], [k, 1]), (23, [3], [(-k), -1])], [], [(0, 0, 2010, [])], [(20, [4], [50, 2, 1, 158, 157, 160, 2, 12, 0, 7, 4, 3, 2, 0, 158, 0, 1, 2, 0, 157, 2, 7, 0, 3, 2, 0, 157, 0, 2010, 3, 14, 1, 10, 3, 0, 160, 5, 3, 2, 0, 157, 0, 1, 0, 0, 1, 10, 3, 0, 160, 5, 3, 2, 0, 157, 0, 1, 0, 4]), (20, [1, 4], [30, 0, 1, 0, 0, -1, 1, 158]), (20, [4], [50, 2, 0, 164, 165, 4, 7, 1, 3, 2, 0, 164, 0, 0, 0, 3, 2, 0, 165, 0, 23]), (20, [4], [30, k, 1, 1, 159]), (20, [4], [30, (-k), -1, 1, 159]), (20, [17, 4], [30, -2011, -1, 0, 0, -1, 1, 158]), (20, [4, 1, 2, 3], [60, 4, 5, 9, 8, 158, 164, 10, 160, 161, 162, 163, 1]), (23, [3], [k, 1]), (23, [3], [(-k), -1]), (24, [0, 4], [])], [(17, 7, 0, 0)], [(11, 6, 1, 1)])
theorem oo_Mo_test_f_5 {kA : Nat → ClassId} (k : Int) (hk0 : 0 ≤ k) (hk1 : k ≤ 12) : or_ok PRD kA GG (o_Mo_test_f_5 k) := by
  refine or_mk fun A ta ws vs hD hth hl => ?_
  intro t0 r0 t1 k1 t2 k2 t3 k3 t4 r4 t6 k6 t7 k7 t10 k10 t11 k11 t12 k12 t13 k13 t14 k14 d0 f0 f1 f2 f3 f4 f5 f6 f7 f8 f9 f10 f11 f12 f13 f14 ta1 w1 le1 s1 f16 f17 f18 f19 f20 f21 ta2 w2 le2 s2 f23 f24 f25 ta3 w3 le3 s3 f27 f28
  replace f0 := shm_274 f0
  replace f1 := shm_7 f1
  replace f2 := shm_290 f2
  replace f3 := shm_341 f3
  replace f4 := shm_279 f4
  replace f5 := shm_280 f5
  replace f6 := shm_274 f6
  replace f7 := shm_279 f7
  replace f8 := shm_280 f8
  replace f9 := shm_5 f9
  replace f10 := shm_271 f10
  replace f11 := shm_281 f11
  replace f12 := shm_275 f12
  replace f13 := shm_276 f13
  replace f14 := shm_289 f14
  replace f16 := shm_7 f16
  replace f17 := shm_290 f17
  replace f18 := shm_279 f18
  replace f19 := shm_280 f19
  replace f20 := shm_279 f20
  replace f21 := shm_280 f21
  have s2 : (∀ b j, w_el w1 b j = w_el w2 b j) ∧ ∀ b j, w_fd w1 b j = if b = v_ad (n_v vs 4) ∧ j = 158 then n_v vs 11 else w_fd w2 b j := s2.2
  replace f23 := shm_12 f23
  replace f24 := shm_279 f24
  replace f25 := shm_280 f25
  replace f27 := shm_279 f27
  replace f28 := shm_280 f28
  have q4 : n_v vs 4 = n_v vs 0 := f9.symm
  simp only [q4] at f0 f3 f6 f10 f11 f12 f13 f14
  rw [q4] at s2
  have cr_0_1 := fdq_39 hD hth r0
  have cr_0_160 := fdq_33 hD hth r0
  have cr_0_161 := fdq_40 hD hth r0
  have cr_0_162 := fdq_41 hD hth r0
  have cr_0_163 := fdq_42 hD hth r0
  have hK_0_1 := elq_7 hD hth cr_0_1
  have hK_0_160 := elq_6 hD hth cr_0_160
  have hK_0_162 := elq_8 hD hth cr_0_162
  have hK_0_163 := elq_9 hD hth cr_0_163
  have kz_0_8 := fdq_34 hD hth r0
  have kz_0_10 := fdq_43 hD hth r0
  have kz_0_157 := fdq_35 hD hth r0
  have kz_0_158 := fdq_36 hD hth r0
  have kz_0_159 := fdq_37 hD hth r0
  have kz_0_164 := fdq_38 hD hth r0
  have kz_0_165 := fdq_27 hD hth r0
  obtain ⟨x, ex, hx⟩ := iv_ex (ta := ta) (lo := 0) (hi := 2010) (z := 0 + (1 * v_iv (n_v vs 7) + 0)) (by omega) (by omega) (by omega) (by omega)
  have ex2 : v_iv (Value.int x) = 0 + (1 * v_iv (n_v vs 7) + 0) := ex
  have ex3 : 0 ≤ v_iv (Value.int x) ∧ v_iv (Value.int x) ≤ 2010 := tv_rng hx
  have e_0 : n_v (vs ++ [Value.int x]) 0 = n_v vs 0 := n_v_old (by rw [hl]; decide)
  have e_1 : n_v (vs ++ [Value.int x]) 1 = n_v vs 1 := n_v_old (by rw [hl]; decide)
  have e_2 : n_v (vs ++ [Value.int x]) 2 = n_v vs 2 := n_v_old (by rw [hl]; decide)
  have e_3 : n_v (vs ++ [Value.int x]) 3 = n_v vs 3 := n_v_old (by rw [hl]; decide)
  have e_4 : n_v (vs ++ [Value.int x]) 4 = n_v vs 4 := n_v_old (by rw [hl]; decide)
  have e_17 : n_v (vs ++ [Value.int x]) 17 = Value.int x := n_v_new hl
  have nf0 : fc_1 PRD (20, [4], [50, 2, 1, 158, 157, 160, 2, 12, 0, 7, 4, 3, 2, 0, 158, 0, 1, 2, 0, 157, 2, 7, 0, 3, 2, 0, 157, 0, 2010, 3, 14, 1, 10, 3, 0, 160, 5, 3, 2, 0, 157, 0, 1, 0, 0, 1, 10, 3, 0, 160, 5, 3, 2, 0, 157, 0, 1, 0, 4]) ws (vs ++ [Value.int x]) := by
    refine ⟨nf_inA hl rfl, sgq_271 ?_⟩
    · show ((w_fi ws (n_v (vs ++ [Value.int x]) 4) 158 + 1) ≤ w_fi ws (n_v (vs ++ [Value.int x]) 4) 157) ∧ ((w_fi ws (n_v (vs ++ [Value.int x]) 4) 157 ≤ 2010) ∧ ((w_ei ws (w_ar ws (n_v (vs ++ [Value.int x]) 4) 160) ((w_fi ws (n_v (vs ++ [Value.int x]) 4) 157 - 1)) = 0) ∨ (w_ei ws (w_ar ws (n_v (vs ++ [Value.int x]) 4) 160) ((w_fi ws (n_v (vs ++ [Value.int x]) 4) 157 - 1)) = 4)))
      simp only [e_4, q4]
      exact vc_Mo_test_f_5_0 k hk0 hk1 (v_iv (n_v vs 1)) (v_iv (n_v vs 2)) (v_iv (n_v vs 3)) (v_iv (n_v vs 6)) (v_iv (n_v vs 7)) (v_iv (n_v vs 10)) (v_iv (n_v vs 11)) (v_iv (n_v vs 12)) (v_iv (n_v vs 13)) (v_iv (n_v vs 14)) (w_fi ws (n_v vs 0) 164) (w_fi ws (n_v vs 0) 165) (w_ei ws (w_ar ws (n_v vs 0) 160)) (w_ei ws (w_ar ws (n_v vs 0) 161)) (w_ei ws (w_ar ws (n_v vs 0) 162)) (w_ei ws (w_ar ws (n_v vs 0) 163)) (w_ei ws (w_ar ws (n_v vs 0) 1)) (w_fi ws (n_v vs 0) 10) (w_fi ws (n_v vs 0) 158) (w_fi ws (n_v vs 0) 157) (w_fi ws (n_v vs 0) 159) (w_fi ws (n_v vs 0) 8) (v_iv (Value.int x)) k1 k2 k3 k6 k7 k10 k11 k12 k13 k14 d0 f0 f1 f2 f3 f4 f5 f6 f7 f8 f10 f11 f12 f13 f14 f16 f17 f18 f19 f20 f21 f23 f24 f25 f27 f28 hK_0_1 hK_0_160 hK_0_162 hK_0_163 kz_0_8 kz_0_10 kz_0_157 kz_0_158 kz_0_159 kz_0_164 kz_0_165 ex2 ex3
  have nf1 : fc_1 PRD (20, [1, 4], [30, 0, 1, 0, 0, -1, 1, 158]) ws (vs ++ [Value.int x]) := by
    refine ⟨nf_inA hl rfl, sgq_281 ?_⟩
    · show 1 * v_iv (n_v (vs ++ [Value.int x]) 1) + ((-1) * w_fi ws (n_v (vs ++ [Value.int x]) 4) 158 + 0) ≤ 0
      simp only [e_1, e_4, q4]
      exact vc_Mo_test_f_5_1 k hk0 hk1 (v_iv (n_v vs 1)) (v_iv (n_v vs 2)) (v_iv (n_v vs 3)) (v_iv (n_v vs 6)) (v_iv (n_v vs 7)) (v_iv (n_v vs 10)) (v_iv (n_v vs 11)) (v_iv (n_v vs 12)) (v_iv (n_v vs 13)) (v_iv (n_v vs 14)) (w_fi ws (n_v vs 0) 164) (w_fi ws (n_v vs 0) 165) (w_ei ws (w_ar ws (n_v vs 0) 160)) (w_ei ws (w_ar ws (n_v vs 0) 161)) (w_ei ws (w_ar ws (n_v vs 0) 162)) (w_ei ws (w_ar ws (n_v vs 0) 163)) (w_ei ws (w_ar ws (n_v vs 0) 1)) (w_fi ws (n_v vs 0) 10) (w_fi ws (n_v vs 0) 158) (w_fi ws (n_v vs 0) 157) (w_fi ws (n_v vs 0) 159) (w_fi ws (n_v vs 0) 8) (v_iv (Value.int x)) k1 k2 k3 k6 k7 k10 k11 k12 k13 k14 d0 f0 f1 f2 f3 f4 f5 f6 f7 f8 f10 f11 f12 f13 f14 f16 f17 f18 f19 f20 f21 f23 f24 f25 f27 f28 hK_0_1 hK_0_160 hK_0_162 hK_0_163 kz_0_8 kz_0_10 kz_0_157 kz_0_158 kz_0_159 kz_0_164 kz_0_165 ex2 ex3
  have nf2 : fc_1 PRD (20, [4], [50, 2, 0, 164, 165, 4, 7, 1, 3, 2, 0, 164, 0, 0, 0, 3, 2, 0, 165, 0, 23]) ws (vs ++ [Value.int x]) := by
    refine ⟨nf_inA hl rfl, sgq_274 ?_⟩
    · show (w_fi ws (n_v (vs ++ [Value.int x]) 4) 164 = 0) → (w_fi ws (n_v (vs ++ [Value.int x]) 4) 165 ≤ 23)
      simp only [e_4, q4]
      exact vc_Mo_test_f_5_2 k hk0 hk1 (v_iv (n_v vs 1)) (v_iv (n_v vs 2)) (v_iv (n_v vs 3)) (v_iv (n_v vs 6)) (v_iv (n_v vs 7)) (v_iv (n_v vs 10)) (v_iv (n_v vs 11)) (v_iv (n_v vs 12)) (v_iv (n_v vs 13)) (v_iv (n_v vs 14)) (w_fi ws (n_v vs 0) 164) (w_fi ws (n_v vs 0) 165) (w_ei ws (w_ar ws (n_v vs 0) 160)) (w_ei ws (w_ar ws (n_v vs 0) 161)) (w_ei ws (w_ar ws (n_v vs 0) 162)) (w_ei ws (w_ar ws (n_v vs 0) 163)) (w_ei ws (w_ar ws (n_v vs 0) 1)) (w_fi ws (n_v vs 0) 10) (w_fi ws (n_v vs 0) 158) (w_fi ws (n_v vs 0) 157) (w_fi ws (n_v vs 0) 159) (w_fi ws (n_v vs 0) 8) (v_iv (Value.int x)) k1 k2 k3 k6 k7 k10 k11 k12 k13 k14 d0 f0 f1 f2 f3 f4 f5 f6 f7 f8 f10 f11 f12 f13 f14 f16 f17 f18 f19 f20 f21 f23 f24 f25 f27 f28 hK_0_1 hK_0_160 hK_0_162 hK_0_163 kz_0_8 kz_0_10 kz_0_157 kz_0_158 kz_0_159 kz_0_164 kz_0_165 ex2 ex3
  have nf3 : fc_1 PRD (20, [4], [30, k, 1, 1, 159]) ws (vs ++ [Value.int x]) := by
    refine ⟨nf_inA hl rfl, sgq_275 ?_⟩
    · show 1 * w_fi ws (n_v (vs ++ [Value.int x]) 4) 159 + 0 ≤ k
      simp only [e_4, q4]
      exact vc_Mo_test_f_5_3 k hk0 hk1 (v_iv (n_v vs 1)) (v_iv (n_v vs 2)) (v_iv (n_v vs 3)) (v_iv (n_v vs 6)) (v_iv (n_v vs 7)) (v_iv (n_v vs 10)) (v_iv (n_v vs 11)) (v_iv (n_v vs 12)) (v_iv (n_v vs 13)) (v_iv (n_v vs 14)) (w_fi ws (n_v vs 0) 164) (w_fi ws (n_v vs 0) 165) (w_ei ws (w_ar ws (n_v vs 0) 160)) (w_ei ws (w_ar ws (n_v vs 0) 161)) (w_ei ws (w_ar ws (n_v vs 0) 162)) (w_ei ws (w_ar ws (n_v vs 0) 163)) (w_ei ws (w_ar ws (n_v vs 0) 1)) (w_fi ws (n_v vs 0) 10) (w_fi ws (n_v vs 0) 158) (w_fi ws (n_v vs 0) 157) (w_fi ws (n_v vs 0) 159) (w_fi ws (n_v vs 0) 8) (v_iv (Value.int x)) k1 k2 k3 k6 k7 k10 k11 k12 k13 k14 d0 f0 f1 f2 f3 f4 f5 f6 f7 f8 f10 f11 f12 f13 f14 f16 f17 f18 f19 f20 f21 f23 f24 f25 f27 f28 hK_0_1 hK_0_160 hK_0_162 hK_0_163 kz_0_8 kz_0_10 kz_0_157 kz_0_158 kz_0_159 kz_0_164 kz_0_165 ex2 ex3
  have nf4 : fc_1 PRD (20, [4], [30, (-k), -1, 1, 159]) ws (vs ++ [Value.int x]) := by
    refine ⟨nf_inA hl rfl, sgq_276 ?_⟩
    · show (-1) * w_fi ws (n_v (vs ++ [Value.int x]) 4) 159 + 0 ≤ ((-k))
      simp only [e_4, q4]
      exact vc_Mo_test_f_5_4 k hk0 hk1 (v_iv (n_v vs 1)) (v_iv (n_v vs 2)) (v_iv (n_v vs 3)) (v_iv (n_v vs 6)) (v_iv (n_v vs 7)) (v_iv (n_v vs 10)) (v_iv (n_v vs 11)) (v_iv (n_v vs 12)) (v_iv (n_v vs 13)) (v_iv (n_v vs 14)) (w_fi ws (n_v vs 0) 164) (w_fi ws (n_v vs 0) 165) (w_ei ws (w_ar ws (n_v vs 0) 160)) (w_ei ws (w_ar ws (n_v vs 0) 161)) (w_ei ws (w_ar ws (n_v vs 0) 162)) (w_ei ws (w_ar ws (n_v vs 0) 163)) (w_ei ws (w_ar ws (n_v vs 0) 1)) (w_fi ws (n_v vs 0) 10) (w_fi ws (n_v vs 0) 158) (w_fi ws (n_v vs 0) 157) (w_fi ws (n_v vs 0) 159) (w_fi ws (n_v vs 0) 8) (v_iv (Value.int x)) k1 k2 k3 k6 k7 k10 k11 k12 k13 k14 d0 f0 f1 f2 f3 f4 f5 f6 f7 f8 f10 f11 f12 f13 f14 f16 f17 f18 f19 f20 f21 f23 f24 f25 f27 f28 hK_0_1 hK_0_160 hK_0_162 hK_0_163 kz_0_8 kz_0_10 kz_0_157 kz_0_158 kz_0_159 kz_0_164 kz_0_165 ex2 ex3
  have nf5 : fc_1 PRD (20, [17, 4], [30, -2011, -1, 0, 0, -1, 1, 158]) ws (vs ++ [Value.int x]) := by
    refine ⟨nf_inA hl rfl, sgq_292 ?_⟩
    · show (-1) * v_iv (n_v (vs ++ [Value.int x]) 17) + ((-1) * w_fi ws (n_v (vs ++ [Value.int x]) 4) 158 + 0) ≤ (-2011)
      simp only [e_4, e_17, q4]
      exact vc_Mo_test_f_5_5 k hk0 hk1 (v_iv (n_v vs 1)) (v_iv (n_v vs 2)) (v_iv (n_v vs 3)) (v_iv (n_v vs 6)) (v_iv (n_v vs 7)) (v_iv (n_v vs 10)) (v_iv (n_v vs 11)) (v_iv (n_v vs 12)) (v_iv (n_v vs 13)) (v_iv (n_v vs 14)) (w_fi ws (n_v vs 0) 164) (w_fi ws (n_v vs 0) 165) (w_ei ws (w_ar ws (n_v vs 0) 160)) (w_ei ws (w_ar ws (n_v vs 0) 161)) (w_ei ws (w_ar ws (n_v vs 0) 162)) (w_ei ws (w_ar ws (n_v vs 0) 163)) (w_ei ws (w_ar ws (n_v vs 0) 1)) (w_fi ws (n_v vs 0) 10) (w_fi ws (n_v vs 0) 158) (w_fi ws (n_v vs 0) 157) (w_fi ws (n_v vs 0) 159) (w_fi ws (n_v vs 0) 8) (v_iv (Value.int x)) k1 k2 k3 k6 k7 k10 k11 k12 k13 k14 d0 f0 f1 f2 f3 f4 f5 f6 f7 f8 f10 f11 f12 f13 f14 f16 f17 f18 f19 f20 f21 f23 f24 f25 f27 f28 hK_0_1 hK_0_160 hK_0_162 hK_0_163 kz_0_8 kz_0_10 kz_0_157 kz_0_158 kz_0_159 kz_0_164 kz_0_165 ex2 ex3
  have nf6 : fc_1 PRD (20, [4, 1, 2, 3], [60, 4, 5, 9, 8, 158, 164, 10, 160, 161, 162, 163, 1]) ws (vs ++ [Value.int x]) := by
    refine ⟨nf_inA hl rfl, sgq_339 ?_⟩
    · show STL (w_fi ws (n_v (vs ++ [Value.int x]) 4) 8) (w_fi ws (n_v (vs ++ [Value.int x]) 4) 158) (w_fi ws (n_v (vs ++ [Value.int x]) 4) 164) (w_fi ws (n_v (vs ++ [Value.int x]) 4) 10) (w_ei ws (w_ar ws (n_v (vs ++ [Value.int x]) 4) 160)) (w_ei ws (w_ar ws (n_v (vs ++ [Value.int x]) 4) 161)) (w_ei ws (w_ar ws (n_v (vs ++ [Value.int x]) 4) 162)) (w_ei ws (w_ar ws (n_v (vs ++ [Value.int x]) 4) 163)) (w_ei ws (w_ar ws (n_v (vs ++ [Value.int x]) 4) 1)) (v_iv (n_v (vs ++ [Value.int x]) 1)) (v_iv (n_v (vs ++ [Value.int x]) 2)) (v_iv (n_v (vs ++ [Value.int x]) 3))
      simp only [e_1, e_2, e_3, e_4, q4]
      exact vc_Mo_test_f_5_6 k hk0 hk1 (v_iv (n_v vs 1)) (v_iv (n_v vs 2)) (v_iv (n_v vs 3)) (v_iv (n_v vs 6)) (v_iv (n_v vs 7)) (v_iv (n_v vs 10)) (v_iv (n_v vs 11)) (v_iv (n_v vs 12)) (v_iv (n_v vs 13)) (v_iv (n_v vs 14)) (w_fi ws (n_v vs 0) 164) (w_fi ws (n_v vs 0) 165) (w_ei ws (w_ar ws (n_v vs 0) 160)) (w_ei ws (w_ar ws (n_v vs 0) 161)) (w_ei ws (w_ar ws (n_v vs 0) 162)) (w_ei ws (w_ar ws (n_v vs 0) 163)) (w_ei ws (w_ar ws (n_v vs 0) 1)) (w_fi ws (n_v vs 0) 10) (w_fi ws (n_v vs 0) 158) (w_fi ws (n_v vs 0) 157) (w_fi ws (n_v vs 0) 159) (w_fi ws (n_v vs 0) 8) (v_iv (Value.int x)) k1 k2 k3 k6 k7 k10 k11 k12 k13 k14 d0 f0 f1 f2 f3 f4 f5 f6 f7 f8 f10 f11 f12 f13 f14 f16 f17 f18 f19 f20 f21 f23 f24 f25 f27 f28 hK_0_1 hK_0_160 hK_0_162 hK_0_163 kz_0_8 kz_0_10 kz_0_157 kz_0_158 kz_0_159 kz_0_164 kz_0_165 ex2 ex3
  have nf7 : fc_1 PRD (23, [3], [k, 1]) ws (vs ++ [Value.int x]) := by
    refine ⟨nf_inA hl rfl, sgq_279 ?_⟩
    · show 1 * v_iv (n_v (vs ++ [Value.int x]) 3) + 0 ≤ k
      rw [e_3]
      exact vc_Mo_test_f_5_7 k hk0 hk1 (v_iv (n_v vs 1)) (v_iv (n_v vs 2)) (v_iv (n_v vs 3)) (v_iv (n_v vs 6)) (v_iv (n_v vs 7)) (v_iv (n_v vs 10)) (v_iv (n_v vs 11)) (v_iv (n_v vs 12)) (v_iv (n_v vs 13)) (v_iv (n_v vs 14)) (w_fi ws (n_v vs 0) 164) (w_fi ws (n_v vs 0) 165) (w_ei ws (w_ar ws (n_v vs 0) 160)) (w_ei ws (w_ar ws (n_v vs 0) 161)) (w_ei ws (w_ar ws (n_v vs 0) 162)) (w_ei ws (w_ar ws (n_v vs 0) 163)) (w_ei ws (w_ar ws (n_v vs 0) 1)) (w_fi ws (n_v vs 0) 10) (w_fi ws (n_v vs 0) 158) (w_fi ws (n_v vs 0) 157) (w_fi ws (n_v vs 0) 159) (w_fi ws (n_v vs 0) 8) (v_iv (Value.int x)) k1 k2 k3 k6 k7 k10 k11 k12 k13 k14 d0 f0 f1 f2 f3 f4 f5 f6 f7 f8 f10 f11 f12 f13 f14 f16 f17 f18 f19 f20 f21 f23 f24 f25 f27 f28 hK_0_1 hK_0_160 hK_0_162 hK_0_163 kz_0_8 kz_0_10 kz_0_157 kz_0_158 kz_0_159 kz_0_164 kz_0_165 ex2 ex3
  have nf8 : fc_1 PRD (23, [3], [(-k), -1]) ws (vs ++ [Value.int x]) := by
    refine ⟨nf_inA hl rfl, sgq_280 ?_⟩
    · show (-1) * v_iv (n_v (vs ++ [Value.int x]) 3) + 0 ≤ ((-k))
      rw [e_3]
      exact vc_Mo_test_f_5_8 k hk0 hk1 (v_iv (n_v vs 1)) (v_iv (n_v vs 2)) (v_iv (n_v vs 3)) (v_iv (n_v vs 6)) (v_iv (n_v vs 7)) (v_iv (n_v vs 10)) (v_iv (n_v vs 11)) (v_iv (n_v vs 12)) (v_iv (n_v vs 13)) (v_iv (n_v vs 14)) (w_fi ws (n_v vs 0) 164) (w_fi ws (n_v vs 0) 165) (w_ei ws (w_ar ws (n_v vs 0) 160)) (w_ei ws (w_ar ws (n_v vs 0) 161)) (w_ei ws (w_ar ws (n_v vs 0) 162)) (w_ei ws (w_ar ws (n_v vs 0) 163)) (w_ei ws (w_ar ws (n_v vs 0) 1)) (w_fi ws (n_v vs 0) 10) (w_fi ws (n_v vs 0) 158) (w_fi ws (n_v vs 0) 157) (w_fi ws (n_v vs 0) 159) (w_fi ws (n_v vs 0) 8) (v_iv (Value.int x)) k1 k2 k3 k6 k7 k10 k11 k12 k13 k14 d0 f0 f1 f2 f3 f4 f5 f6 f7 f8 f10 f11 f12 f13 f14 f16 f17 f18 f19 f20 f21 f23 f24 f25 f27 f28 hK_0_1 hK_0_160 hK_0_162 hK_0_163 kz_0_8 kz_0_10 kz_0_157 kz_0_158 kz_0_159 kz_0_164 kz_0_165 ex2 ex3
  have nf9 : fc_1 PRD (24, [0, 4], []) ws (vs ++ [Value.int x]) := by
    refine ⟨nf_inA hl rfl, sgq_5 ?_⟩
    · show n_v (vs ++ [Value.int x]) 0 = n_v (vs ++ [Value.int x]) 4
      first | rfl | simp only [e_0, e_4, q4]
  obtain ⟨x0, e0, _, _⟩ := tv_int t7 rfl
  have e1 : v_iv (n_v vs 7) = x0.toInt := by rw [e0]; rfl
  have ho : sy_ofs (vs ++ [Value.int x]) (17, 7, 0, 0) := by
    refine ⟨x, x0, by rw [List.getElem?_append_right (by rw [hl]; decide), hl]; rfl, ?_, ?_, ?_⟩
    · rw [List.getElem?_append_left (by rw [hl]; decide)]; exact n_v_some (by rw [hl]; decide) e0
    · show x0.toInt + 0 ≤ x.toInt; omega
    · show x.toInt ≤ x0.toInt + 0; omega
  exact ⟨(fun _ h => (by cases h)), [Value.int x], ag_one hx, List.forall_mem_cons.mpr ⟨⟨show (20 : Nat) < 100 from by decide, nf0⟩, List.forall_mem_cons.mpr ⟨⟨show (20 : Nat) < 100 from by decide, nf1⟩, List.forall_mem_cons.mpr ⟨⟨show (20 : Nat) < 100 from by decide, nf2⟩, List.forall_mem_cons.mpr ⟨⟨show (20 : Nat) < 100 from by decide, nf3⟩, List.forall_mem_cons.mpr ⟨⟨show (20 : Nat) < 100 from by decide, nf4⟩, List.forall_mem_cons.mpr ⟨⟨show (20 : Nat) < 100 from by decide, nf5⟩, List.forall_mem_cons.mpr ⟨⟨show (20 : Nat) < 100 from by decide, nf6⟩, List.forall_mem_cons.mpr ⟨⟨show (23 : Nat) < 100 from by decide, nf7⟩, List.forall_mem_cons.mpr ⟨⟨show (23 : Nat) < 100 from by decide, nf8⟩, List.forall_mem_cons.mpr ⟨⟨show (24 : Nat) < 100 from by decide, nf9⟩, (fun _ h => (by cases h))⟩⟩⟩⟩⟩⟩⟩⟩⟩⟩, List.forall_mem_cons.mpr ⟨ho, (fun _ h => (by cases h))⟩⟩
set_option maxHeartbeats 4000000 in
theorem vc_Mo_test_f_6_0 (k : Int) (hk0 : 0 ≤ k) (hk1 : k ≤ 12) (x1 : Int) (x2 : Int) (x3 : Int) (x8 : Int) (tokenKind_0 : Int → Int) (cur_0 : Int) (tokens_0 : Int) (styleKind_0 : Int) (styleOne_0 : Int) (opened_0 : Int) (tokenValue_0 : Int → Int) (tokenPlace_0 : Int → Int) (tokenEnd_0 : Int → Int) (tape_0 : Int → Int) (fault_0 : Int) (limit_0 : Int) (gx : Int) (k1 : 0 ≤ x1 ∧ x1 ≤ 2009) (k2 : 0 ≤ x2 ∧ x2 ≤ 5) (k3 : 0 ≤ x3 ∧ x3 ≤ 13) (k8 : 0 ≤ x8 ∧ x8 ≤ 2010) (f0 : ((cur_0 + 1) ≤ tokens_0) ∧ ((tokens_0 ≤ 2010) ∧ ((tokenKind_0 ((tokens_0 - 1)) = 0) ∨ (tokenKind_0 ((tokens_0 - 1)) = 4)))) (f1 : 1 * x1 + ((-1) * cur_0 + 0) ≤ 0) (f2 : (styleKind_0 = 0) → (styleOne_0 ≤ 23)) (f3 : 1 * opened_0 + 0 ≤ k) (f4 : (-1) * opened_0 + 0 ≤ ((-k))) (f5 : (-1) * x8 + ((-1) * cur_0 + 0) ≤ (-2011)) (f6 : STL (fault_0) (cur_0) (styleKind_0) (limit_0) (tokenKind_0) (tokenValue_0) (tokenPlace_0) (tokenEnd_0) (tape_0) (x1) (x2) (x3)) (f7 : 1 * x3 + 0 ≤ k) (f8 : (-1) * x3 + 0 ≤ ((-k))) (hK_0_1 : ∀ j : Int, 0 ≤ j → j < 2000 → (-128) ≤ tape_0 j ∧ tape_0 j ≤ 127) (hK_0_160 : ∀ j : Int, 0 ≤ j → j < 2010 → 0 ≤ tokenKind_0 j ∧ tokenKind_0 j ≤ 4) (hK_0_162 : ∀ j : Int, 0 ≤ j → j < 2010 → 0 ≤ tokenPlace_0 j ∧ tokenPlace_0 j ≤ 2000) (hK_0_163 : ∀ j : Int, 0 ≤ j → j < 2010 → 0 ≤ tokenEnd_0 j ∧ tokenEnd_0 j ≤ 2000) (kz_0_8 : 0 ≤ fault_0 ∧ fault_0 ≤ 5) (kz_0_10 : 0 ≤ limit_0 ∧ limit_0 ≤ 2000) (kz_0_157 : 0 ≤ tokens_0 ∧ tokens_0 ≤ 2010) (kz_0_158 : 0 ≤ cur_0 ∧ cur_0 ≤ 2009) (kz_0_159 : 0 ≤ opened_0 ∧ opened_0 ≤ 13) (kz_0_164 : 0 ≤ styleKind_0 ∧ styleKind_0 ≤ 1) (kz_0_165 : (-1) ≤ styleOne_0 ∧ styleOne_0 ≤ 47) (ex2 : gx = 2010 + ((-1) * cur_0 + 0)) (ex3 : 0 ≤ gx ∧ gx ≤ 2010) : ((cur_0 + 1) ≤ tokens_0) ∧ ((tokens_0 ≤ 2010) ∧ ((tokenKind_0 ((tokens_0 - 1)) = 0) ∨ (tokenKind_0 ((tokens_0 - 1)) = 4))) := by
  first | with_reducible assumption | ((have f0_c0 := f0.1); (have f0_c1 := f0.2.1); (have f0_c2 := f0.2.2); (try and_intros) <;> first | with_reducible assumption | (clear f0_c2 f0 hK_0_1 hK_0_160 hK_0_162 hK_0_163 f2; omega)) | ((have f0_c0 := f0.1); (have f0_c1 := f0.2.1); (have f0_c2 := f0.2.2); (first | have f2_b := f2 (by clear f0_c2 f0 hK_0_1 hK_0_160 hK_0_162 hK_0_163 f2; omega) | skip); (first | have f2_d := f2 (by with_reducible assumption) | skip); (try and_intros) <;> first | with_reducible assumption | (clear f0_c2 f0 hK_0_1 hK_0_160 hK_0_162 hK_0_163 f2; omega)) | ((have f0_c0 := f0.1); (have f0_c1 := f0.2.1); (have f0_c2 := f0.2.2); (first | have f2_b := f2 (by clear f0_c2 f0 hK_0_1 hK_0_160 hK_0_162 hK_0_163 f2; omega) | skip); (first | have f2_d := f2 (by with_reducible assumption) | skip); (first | have f0_q := tk_nx0 f0 (by clear f0_c2 f0 hK_0_1 hK_0_160 hK_0_162 hK_0_163 f2; omega) | skip); (try and_intros) <;> first | with_reducible assumption | (clear f0_c2 f0 hK_0_1 hK_0_160 hK_0_162 hK_0_163 f2; omega)) | omega
set_option maxHeartbeats 4000000 in
theorem vc_Mo_test_f_6_1 (k : Int) (hk0 : 0 ≤ k) (hk1 : k ≤ 12) (x1 : Int) (x2 : Int) (x3 : Int) (x8 : Int) (tokenKind_0 : Int → Int) (cur_0 : Int) (tokens_0 : Int) (styleKind_0 : Int) (styleOne_0 : Int) (opened_0 : Int) (tokenValue_0 : Int → Int) (tokenPlace_0 : Int → Int) (tokenEnd_0 : Int → Int) (tape_0 : Int → Int) (fault_0 : Int) (limit_0 : Int) (gx : Int) (k1 : 0 ≤ x1 ∧ x1 ≤ 2009) (k2 : 0 ≤ x2 ∧ x2 ≤ 5) (k3 : 0 ≤ x3 ∧ x3 ≤ 13) (k8 : 0 ≤ x8 ∧ x8 ≤ 2010) (f0 : ((cur_0 + 1) ≤ tokens_0) ∧ ((tokens_0 ≤ 2010) ∧ ((tokenKind_0 ((tokens_0 - 1)) = 0) ∨ (tokenKind_0 ((tokens_0 - 1)) = 4)))) (f1 : 1 * x1 + ((-1) * cur_0 + 0) ≤ 0) (f2 : (styleKind_0 = 0) → (styleOne_0 ≤ 23)) (f3 : 1 * opened_0 + 0 ≤ k) (f4 : (-1) * opened_0 + 0 ≤ ((-k))) (f5 : (-1) * x8 + ((-1) * cur_0 + 0) ≤ (-2011)) (f6 : STL (fault_0) (cur_0) (styleKind_0) (limit_0) (tokenKind_0) (tokenValue_0) (tokenPlace_0) (tokenEnd_0) (tape_0) (x1) (x2) (x3)) (f7 : 1 * x3 + 0 ≤ k) (f8 : (-1) * x3 + 0 ≤ ((-k))) (hK_0_1 : ∀ j : Int, 0 ≤ j → j < 2000 → (-128) ≤ tape_0 j ∧ tape_0 j ≤ 127) (hK_0_160 : ∀ j : Int, 0 ≤ j → j < 2010 → 0 ≤ tokenKind_0 j ∧ tokenKind_0 j ≤ 4) (hK_0_162 : ∀ j : Int, 0 ≤ j → j < 2010 → 0 ≤ tokenPlace_0 j ∧ tokenPlace_0 j ≤ 2000) (hK_0_163 : ∀ j : Int, 0 ≤ j → j < 2010 → 0 ≤ tokenEnd_0 j ∧ tokenEnd_0 j ≤ 2000) (kz_0_8 : 0 ≤ fault_0 ∧ fault_0 ≤ 5) (kz_0_10 : 0 ≤ limit_0 ∧ limit_0 ≤ 2000) (kz_0_157 : 0 ≤ tokens_0 ∧ tokens_0 ≤ 2010) (kz_0_158 : 0 ≤ cur_0 ∧ cur_0 ≤ 2009) (kz_0_159 : 0 ≤ opened_0 ∧ opened_0 ≤ 13) (kz_0_164 : 0 ≤ styleKind_0 ∧ styleKind_0 ≤ 1) (kz_0_165 : (-1) ≤ styleOne_0 ∧ styleOne_0 ≤ 47) (ex2 : gx = 2010 + ((-1) * cur_0 + 0)) (ex3 : 0 ≤ gx ∧ gx ≤ 2010) : 1 * x1 + ((-1) * cur_0 + 0) ≤ 0 := by
  first | with_reducible assumption | ((have f0_c0 := f0.1); (have f0_c1 := f0.2.1); (have f0_c2 := f0.2.2); (try and_intros) <;> first | with_reducible assumption | (clear f0_c2 f0 hK_0_1 hK_0_160 hK_0_162 hK_0_163 f2; omega)) | ((have f0_c0 := f0.1); (have f0_c1 := f0.2.1); (have f0_c2 := f0.2.2); (first | have f2_b := f2 (by clear f0_c2 f0 hK_0_1 hK_0_160 hK_0_162 hK_0_163 f2; omega) | skip); (first | have f2_d := f2 (by with_reducible assumption) | skip); (try and_intros) <;> first | with_reducible assumption | (clear f0_c2 f0 hK_0_1 hK_0_160 hK_0_162 hK_0_163 f2; omega)) | ((have f0_c0 := f0.1); (have f0_c1 := f0.2.1); (have f0_c2 := f0.2.2); (first | have f2_b := f2 (by clear f0_c2 f0 hK_0_1 hK_0_160 hK_0_162 hK_0_163 f2; omega) | skip); (first | have f2_d := f2 (by with_reducible assumption) | skip); (first | have f0_q := tk_nx0 f0 (by clear f0_c2 f0 hK_0_1 hK_0_160 hK_0_162 hK_0_163 f2; omega) | skip); (try and_intros) <;> first | with_reducible assumption | (clear f0_c2 f0 hK_0_1 hK_0_160 hK_0_162 hK_0_163 f2; omega)) | omega
set_option maxHeartbeats 4000000 in
theorem vc_Mo_test_f_6_2 (k : Int) (hk0 : 0 ≤ k) (hk1 : k ≤ 12) (x1 : Int) (x2 : Int) (x3 : Int) (x8 : Int) (tokenKind_0 : Int → Int) (cur_0 : Int) (tokens_0 : Int) (styleKind_0 : Int) (styleOne_0 : Int) (opened_0 : Int) (tokenValue_0 : Int → Int) (tokenPlace_0 : Int → Int) (tokenEnd_0 : Int → Int) (tape_0 : Int → Int) (fault_0 : Int) (limit_0 : Int) (gx : Int) (k1 : 0 ≤ x1 ∧ x1 ≤ 2009) (k2 : 0 ≤ x2 ∧ x2 ≤ 5) (k3 : 0 ≤ x3 ∧ x3 ≤ 13) (k8 : 0 ≤ x8 ∧ x8 ≤ 2010) (f0 : ((cur_0 + 1) ≤ tokens_0) ∧ ((tokens_0 ≤ 2010) ∧ ((tokenKind_0 ((tokens_0 - 1)) = 0) ∨ (tokenKind_0 ((tokens_0 - 1)) = 4)))) (f1 : 1 * x1 + ((-1) * cur_0 + 0) ≤ 0) (f2 : (styleKind_0 = 0) → (styleOne_0 ≤ 23)) (f3 : 1 * opened_0 + 0 ≤ k) (f4 : (-1) * opened_0 + 0 ≤ ((-k))) (f5 : (-1) * x8 + ((-1) * cur_0 + 0) ≤ (-2011)) (f6 : STL (fault_0) (cur_0) (styleKind_0) (limit_0) (tokenKind_0) (tokenValue_0) (tokenPlace_0) (tokenEnd_0) (tape_0) (x1) (x2) (x3)) (f7 : 1 * x3 + 0 ≤ k) (f8 : (-1) * x3 + 0 ≤ ((-k))) (hK_0_1 : ∀ j : Int, 0 ≤ j → j < 2000 → (-128) ≤ tape_0 j ∧ tape_0 j ≤ 127) (hK_0_160 : ∀ j : Int, 0 ≤ j → j < 2010 → 0 ≤ tokenKind_0 j ∧ tokenKind_0 j ≤ 4) (hK_0_162 : ∀ j : Int, 0 ≤ j → j < 2010 → 0 ≤ tokenPlace_0 j ∧ tokenPlace_0 j ≤ 2000) (hK_0_163 : ∀ j : Int, 0 ≤ j → j < 2010 → 0 ≤ tokenEnd_0 j ∧ tokenEnd_0 j ≤ 2000) (kz_0_8 : 0 ≤ fault_0 ∧ fault_0 ≤ 5) (kz_0_10 : 0 ≤ limit_0 ∧ limit_0 ≤ 2000) (kz_0_157 : 0 ≤ tokens_0 ∧ tokens_0 ≤ 2010) (kz_0_158 : 0 ≤ cur_0 ∧ cur_0 ≤ 2009) (kz_0_159 : 0 ≤ opened_0 ∧ opened_0 ≤ 13) (kz_0_164 : 0 ≤ styleKind_0 ∧ styleKind_0 ≤ 1) (kz_0_165 : (-1) ≤ styleOne_0 ∧ styleOne_0 ≤ 47) (ex2 : gx = 2010 + ((-1) * cur_0 + 0)) (ex3 : 0 ≤ gx ∧ gx ≤ 2010) : (styleKind_0 = 0) → (styleOne_0 ≤ 23) := by
  first | with_reducible assumption | ((have f0_c0 := f0.1); (have f0_c1 := f0.2.1); (have f0_c2 := f0.2.2); (try and_intros) <;> first | with_reducible assumption | (clear f0_c2 f0 hK_0_1 hK_0_160 hK_0_162 hK_0_163 f2; omega)) | ((have f0_c0 := f0.1); (have f0_c1 := f0.2.1); (have f0_c2 := f0.2.2); (first | have f2_b := f2 (by clear f0_c2 f0 hK_0_1 hK_0_160 hK_0_162 hK_0_163 f2; omega) | skip); (first | have f2_d := f2 (by with_reducible assumption) | skip); (try and_intros) <;> first | with_reducible assumption | (clear f0_c2 f0 hK_0_1 hK_0_160 hK_0_162 hK_0_163 f2; omega)) | ((have f0_c0 := f0.1); (have f0_c1 := f0.2.1); (have f0_c2 := f0.2.2); (first | have f2_b := f2 (by clear f0_c2 f0 hK_0_1 hK_0_160 hK_0_162 hK_0_163 f2; omega) | skip); (first | have f2_d := f2 (by with_reducible assumption) | skip); (first | have f0_q := tk_nx0 f0 (by clear f0_c2 f0 hK_0_1 hK_0_160 hK_0_162 hK_0_163 f2; omega) | skip); (try and_intros) <;> first | with_reducible assumption | (clear f0_c2 f0 hK_0_1 hK_0_160 hK_0_162 hK_0_163 f2; omega)) | (intro hG; (first | have f2_g := f2 hG | skip); (have f0_c0 := f0.1); (have f0_c1 := f0.2.1); (have f0_c2 := f0.2.2); (first | have f2_b := f2 (by clear f0_c2 f0 hK_0_1 hK_0_160 hK_0_162 hK_0_163 f2; omega) | skip); (try and_intros) <;> first | with_reducible assumption | (clear f0_c2 f0 hK_0_1 hK_0_160 hK_0_162 hK_0_163 f2 hG; omega)) | omega
set_option maxHeartbeats 4000000 in
theorem vc_Mo_test_f_6_3 (k : Int) (hk0 : 0 ≤ k) (hk1 : k ≤ 12) (x1 : Int) (x2 : Int) (x3 : Int) (x8 : Int) (tokenKind_0 : Int → Int) (cur_0 : Int) (tokens_0 : Int) (styleKind_0 : Int) (styleOne_0 : Int) (opened_0 : Int) (tokenValue_0 : Int → Int) (tokenPlace_0 : Int → Int) (tokenEnd_0 : Int → Int) (tape_0 : Int → Int) (fault_0 : Int) (limit_0 : Int) (gx : Int) (k1 : 0 ≤ x1 ∧ x1 ≤ 2009) (k2 : 0 ≤ x2 ∧ x2 ≤ 5) (k3 : 0 ≤ x3 ∧ x3 ≤ 13) (k8 : 0 ≤ x8 ∧ x8 ≤ 2010) (f0 : ((cur_0 + 1) ≤ tokens_0) ∧ ((tokens_0 ≤ 2010) ∧ ((tokenKind_0 ((tokens_0 - 1)) = 0) ∨ (tokenKind_0 ((tokens_0 - 1)) = 4)))) (f1 : 1 * x1 + ((-1) * cur_0 + 0) ≤ 0) (f2 : (styleKind_0 = 0) → (styleOne_0 ≤ 23)) (f3 : 1 * opened_0 + 0 ≤ k) (f4 : (-1) * opened_0 + 0 ≤ ((-k))) (f5 : (-1) * x8 + ((-1) * cur_0 + 0) ≤ (-2011)) (f6 : STL (fault_0) (cur_0) (styleKind_0) (limit_0) (tokenKind_0) (tokenValue_0) (tokenPlace_0) (tokenEnd_0) (tape_0) (x1) (x2) (x3)) (f7 : 1 * x3 + 0 ≤ k) (f8 : (-1) * x3 + 0 ≤ ((-k))) (hK_0_1 : ∀ j : Int, 0 ≤ j → j < 2000 → (-128) ≤ tape_0 j ∧ tape_0 j ≤ 127) (hK_0_160 : ∀ j : Int, 0 ≤ j → j < 2010 → 0 ≤ tokenKind_0 j ∧ tokenKind_0 j ≤ 4) (hK_0_162 : ∀ j : Int, 0 ≤ j → j < 2010 → 0 ≤ tokenPlace_0 j ∧ tokenPlace_0 j ≤ 2000) (hK_0_163 : ∀ j : Int, 0 ≤ j → j < 2010 → 0 ≤ tokenEnd_0 j ∧ tokenEnd_0 j ≤ 2000) (kz_0_8 : 0 ≤ fault_0 ∧ fault_0 ≤ 5) (kz_0_10 : 0 ≤ limit_0 ∧ limit_0 ≤ 2000) (kz_0_157 : 0 ≤ tokens_0 ∧ tokens_0 ≤ 2010) (kz_0_158 : 0 ≤ cur_0 ∧ cur_0 ≤ 2009) (kz_0_159 : 0 ≤ opened_0 ∧ opened_0 ≤ 13) (kz_0_164 : 0 ≤ styleKind_0 ∧ styleKind_0 ≤ 1) (kz_0_165 : (-1) ≤ styleOne_0 ∧ styleOne_0 ≤ 47) (ex2 : gx = 2010 + ((-1) * cur_0 + 0)) (ex3 : 0 ≤ gx ∧ gx ≤ 2010) : 1 * opened_0 + 0 ≤ k := by
  first | with_reducible assumption | ((have f0_c0 := f0.1); (have f0_c1 := f0.2.1); (have f0_c2 := f0.2.2); (try and_intros) <;> first | with_reducible assumption | (clear f0_c2 f0 hK_0_1 hK_0_160 hK_0_162 hK_0_163 f2; omega)) | ((have f0_c0 := f0.1); (have f0_c1 := f0.2.1); (have f0_c2 := f0.2.2); (first | have f2_b := f2 (by clear f0_c2 f0 hK_0_1 hK_0_160 hK_0_162 hK_0_163 f2; omega) | skip); (first | have f2_d := f2 (by with_reducible assumption) | skip); (try and_intros) <;> first | with_reducible assumption | (clear f0_c2 f0 hK_0_1 hK_0_160 hK_0_162 hK_0_163 f2; omega)) | ((have f0_c0 := f0.1); (have f0_c1 := f0.2.1); (have f0_c2 := f0.2.2); (first | have f2_b := f2 (by clear f0_c2 f0 hK_0_1 hK_0_160 hK_0_162 hK_0_163 f2; omega) | skip); (first | have f2_d := f2 (by with_reducible assumption) | skip); (first | have f0_q := tk_nx0 f0 (by clear f0_c2 f0 hK_0_1 hK_0_160 hK_0_162 hK_0_163 f2; omega) | skip); (try and_intros) <;> first | with_reducible assumption | (clear f0_c2 f0 hK_0_1 hK_0_160 hK_0_162 hK_0_163 f2; omega)) | omega
set_option maxHeartbeats 4000000 in
theorem vc_Mo_test_f_6_4 (k : Int) (hk0 : 0 ≤ k) (hk1 : k ≤ 12) (x1 : Int) (x2 : Int) (x3 : Int) (x8 : Int) (tokenKind_0 : Int → Int) (cur_0 : Int) (tokens_0 : Int) (styleKind_0 : Int) (styleOne_0 : Int) (opened_0 : Int) (tokenValue_0 : Int → Int) (tokenPlace_0 : Int → Int) (tokenEnd_0 : Int → Int) (tape_0 : Int → Int) (fault_0 : Int) (limit_0 : Int) (gx : Int) (k1 : 0 ≤ x1 ∧ x1 ≤ 2009) (k2 : 0 ≤ x2 ∧ x2 ≤ 5) (k3 : 0 ≤ x3 ∧ x3 ≤ 13) (k8 : 0 ≤ x8 ∧ x8 ≤ 2010) (f0 : ((cur_0 + 1) ≤ tokens_0) ∧ ((tokens_0 ≤ 2010) ∧ ((tokenKind_0 ((tokens_0 - 1)) = 0) ∨ (tokenKind_0 ((tokens_0 - 1)) = 4)))) (f1 : 1 * x1 + ((-1) * cur_0 + 0) ≤ 0) (f2 : (styleKind_0 = 0) → (styleOne_0 ≤ 23)) (f3 : 1 * opened_0 + 0 ≤ k) (f4 : (-1) * opened_0 + 0 ≤ ((-k))) (f5 : (-1) * x8 + ((-1) * cur_0 + 0) ≤ (-2011)) (f6 : STL (fault_0) (cur_0) (styleKind_0) (limit_0) (tokenKind_0) (tokenValue_0) (tokenPlace_0) (tokenEnd_0) (tape_0) (x1) (x2) (x3)) (f7 : 1 * x3 + 0 ≤ k) (f8 : (-1) * x3 + 0 ≤ ((-k))) (hK_0_1 : ∀ j : Int, 0 ≤ j → j < 2000 → (-128) ≤ tape_0 j ∧ tape_0 j ≤ 127) (hK_0_160 : ∀ j : Int, 0 ≤ j → j < 2010 → 0 ≤ tokenKind_0 j ∧ tokenKind_0 j ≤ 4) (hK_0_162 : ∀ j : Int, 0 ≤ j → j < 2010 → 0 ≤ tokenPlace_0 j ∧ tokenPlace_0 j ≤ 2000) (hK_0_163 : ∀ j : Int, 0 ≤ j → j < 2010 → 0 ≤ tokenEnd_0 j ∧ tokenEnd_0 j ≤ 2000) (kz_0_8 : 0 ≤ fault_0 ∧ fault_0 ≤ 5) (kz_0_10 : 0 ≤ limit_0 ∧ limit_0 ≤ 2000) (kz_0_157 : 0 ≤ tokens_0 ∧ tokens_0 ≤ 2010) (kz_0_158 : 0 ≤ cur_0 ∧ cur_0 ≤ 2009) (kz_0_159 : 0 ≤ opened_0 ∧ opened_0 ≤ 13) (kz_0_164 : 0 ≤ styleKind_0 ∧ styleKind_0 ≤ 1) (kz_0_165 : (-1) ≤ styleOne_0 ∧ styleOne_0 ≤ 47) (ex2 : gx = 2010 + ((-1) * cur_0 + 0)) (ex3 : 0 ≤ gx ∧ gx ≤ 2010) : (-1) * opened_0 + 0 ≤ ((-k)) := by
  first | with_reducible assumption | ((have f0_c0 := f0.1); (have f0_c1 := f0.2.1); (have f0_c2 := f0.2.2); (try and_intros) <;> first | with_reducible assumption | (clear f0_c2 f0 hK_0_1 hK_0_160 hK_0_162 hK_0_163 f2; omega)) | ((have f0_c0 := f0.1); (have f0_c1 := f0.2.1); (have f0_c2 := f0.2.2); (first | have f2_b := f2 (by clear f0_c2 f0 hK_0_1 hK_0_160 hK_0_162 hK_0_163 f2; omega) | skip); (first | have f2_d := f2 (by with_reducible assumption) | skip); (try and_intros) <;> first | with_reducible assumption | (clear f0_c2 f0 hK_0_1 hK_0_160 hK_0_162 hK_0_163 f2; omega)) | ((have f0_c0 := f0.1); (have f0_c1 := f0.2.1); (have f0_c2 := f0.2.2); (first | have f2_b := f2 (by clear f0_c2 f0 hK_0_1 hK_0_160 hK_0_162 hK_0_163 f2; omega) | skip); (first | have f2_d := f2 (by with_reducible assumption) | skip); (first | have f0_q := tk_nx0 f0 (by clear f0_c2 f0 hK_0_1 hK_0_160 hK_0_162 hK_0_163 f2; omega) | skip); (try and_intros) <;> first | with_reducible assumption | (clear f0_c2 f0 hK_0_1 hK_0_160 hK_0_162 hK_0_163 f2; omega)) | omega
set_option maxHeartbeats 4000000 in
theorem vc_Mo_test_f_6_5 (k : Int) (hk0 : 0 ≤ k) (hk1 : k ≤ 12) (x1 : Int) (x2 : Int) (x3 : Int) (x8 : Int) (tokenKind_0 : Int → Int) (cur_0 : Int) (tokens_0 : Int) (styleKind_0 : Int) (styleOne_0 : Int) (opened_0 : Int) (tokenValue_0 : Int → Int) (tokenPlace_0 : Int → Int) (tokenEnd_0 : Int → Int) (tape_0 : Int → Int) (fault_0 : Int) (limit_0 : Int) (gx : Int) (k1 : 0 ≤ x1 ∧ x1 ≤ 2009) (k2 : 0 ≤ x2 ∧ x2 ≤ 5) (k3 : 0 ≤ x3 ∧ x3 ≤ 13) (k8 : 0 ≤ x8 ∧ x8 ≤ 2010) (f0 : ((cur_0 + 1) ≤ tokens_0) ∧ ((tokens_0 ≤ 2010) ∧ ((tokenKind_0 ((tokens_0 - 1)) = 0) ∨ (tokenKind_0 ((tokens_0 - 1)) = 4)))) (f1 : 1 * x1 + ((-1) * cur_0 + 0) ≤ 0) (f2 : (styleKind_0 = 0) → (styleOne_0 ≤ 23)) (f3 : 1 * opened_0 + 0 ≤ k) (f4 : (-1) * opened_0 + 0 ≤ ((-k))) (f5 : (-1) * x8 + ((-1) * cur_0 + 0) ≤ (-2011)) (f6 : STL (fault_0) (cur_0) (styleKind_0) (limit_0) (tokenKind_0) (tokenValue_0) (tokenPlace_0) (tokenEnd_0) (tape_0) (x1) (x2) (x3)) (f7 : 1 * x3 + 0 ≤ k) (f8 : (-1) * x3 + 0 ≤ ((-k))) (hK_0_1 : ∀ j : Int, 0 ≤ j → j < 2000 → (-128) ≤ tape_0 j ∧ tape_0 j ≤ 127) (hK_0_160 : ∀ j : Int, 0 ≤ j → j < 2010 → 0 ≤ tokenKind_0 j ∧ tokenKind_0 j ≤ 4) (hK_0_162 : ∀ j : Int, 0 ≤ j → j < 2010 → 0 ≤ tokenPlace_0 j ∧ tokenPlace_0 j ≤ 2000) (hK_0_163 : ∀ j : Int, 0 ≤ j → j < 2010 → 0 ≤ tokenEnd_0 j ∧ tokenEnd_0 j ≤ 2000) (kz_0_8 : 0 ≤ fault_0 ∧ fault_0 ≤ 5) (kz_0_10 : 0 ≤ limit_0 ∧ limit_0 ≤ 2000) (kz_0_157 : 0 ≤ tokens_0 ∧ tokens_0 ≤ 2010) (kz_0_158 : 0 ≤ cur_0 ∧ cur_0 ≤ 2009) (kz_0_159 : 0 ≤ opened_0 ∧ opened_0 ≤ 13) (kz_0_164 : 0 ≤ styleKind_0 ∧ styleKind_0 ≤ 1) (kz_0_165 : (-1) ≤ styleOne_0 ∧ styleOne_0 ≤ 47) (ex2 : gx = 2010 + ((-1) * cur_0 + 0)) (ex3 : 0 ≤ gx ∧ gx ≤ 2010) : STL (fault_0) (cur_0) (styleKind_0) (limit_0) (tokenKind_0) (tokenValue_0) (tokenPlace_0) (tokenEnd_0) (tape_0) (x1) (x2) (x3) := by
  first
    | exact stl_start (‹SBO _ _ _ _ _ _ _ _ _ _ _ _›) (by omega) (by omega) (by omega) (by omega)
    | exact stl_go (‹GTL _ _ _ _ _ _ _ _ _ _ _ _›) (‹SBO _ _ _ _ _ _ _ _ _ _ _ _›) (by omega) (by omega) (by omega)
    | assumption
  
set_option maxHeartbeats 4000000 in
theorem vc_Mo_test_f_6_6 (k : Int) (hk0 : 0 ≤ k) (hk1 : k ≤ 12) (x1 : Int) (x2 : Int) (x3 : Int) (x8 : Int) (tokenKind_0 : Int → Int) (cur_0 : Int) (tokens_0 : Int) (styleKind_0 : Int) (styleOne_0 : Int) (opened_0 : Int) (tokenValue_0 : Int → Int) (tokenPlace_0 : Int → Int) (tokenEnd_0 : Int → Int) (tape_0 : Int → Int) (fault_0 : Int) (limit_0 : Int) (gx : Int) (k1 : 0 ≤ x1 ∧ x1 ≤ 2009) (k2 : 0 ≤ x2 ∧ x2 ≤ 5) (k3 : 0 ≤ x3 ∧ x3 ≤ 13) (k8 : 0 ≤ x8 ∧ x8 ≤ 2010) (f0 : ((cur_0 + 1) ≤ tokens_0) ∧ ((tokens_0 ≤ 2010) ∧ ((tokenKind_0 ((tokens_0 - 1)) = 0) ∨ (tokenKind_0 ((tokens_0 - 1)) = 4)))) (f1 : 1 * x1 + ((-1) * cur_0 + 0) ≤ 0) (f2 : (styleKind_0 = 0) → (styleOne_0 ≤ 23)) (f3 : 1 * opened_0 + 0 ≤ k) (f4 : (-1) * opened_0 + 0 ≤ ((-k))) (f5 : (-1) * x8 + ((-1) * cur_0 + 0) ≤ (-2011)) (f6 : STL (fault_0) (cur_0) (styleKind_0) (limit_0) (tokenKind_0) (tokenValue_0) (tokenPlace_0) (tokenEnd_0) (tape_0) (x1) (x2) (x3)) (f7 : 1 * x3 + 0 ≤ k) (f8 : (-1) * x3 + 0 ≤ ((-k))) (hK_0_1 : ∀ j : Int, 0 ≤ j → j < 2000 → (-128) ≤ tape_0 j ∧ tape_0 j ≤ 127) (hK_0_160 : ∀ j : Int, 0 ≤ j → j < 2010 → 0 ≤ tokenKind_0 j ∧ tokenKind_0 j ≤ 4) (hK_0_162 : ∀ j : Int, 0 ≤ j → j < 2010 → 0 ≤ tokenPlace_0 j ∧ tokenPlace_0 j ≤ 2000) (hK_0_163 : ∀ j : Int, 0 ≤ j → j < 2010 → 0 ≤ tokenEnd_0 j ∧ tokenEnd_0 j ≤ 2000) (kz_0_8 : 0 ≤ fault_0 ∧ fault_0 ≤ 5) (kz_0_10 : 0 ≤ limit_0 ∧ limit_0 ≤ 2000) (kz_0_157 : 0 ≤ tokens_0 ∧ tokens_0 ≤ 2010) (kz_0_158 : 0 ≤ cur_0 ∧ cur_0 ≤ 2009) (kz_0_159 : 0 ≤ opened_0 ∧ opened_0 ≤ 13) (kz_0_164 : 0 ≤ styleKind_0 ∧ styleKind_0 ≤ 1) (kz_0_165 : (-1) ≤ styleOne_0 ∧ styleOne_0 ≤ 47) (ex2 : gx = 2010 + ((-1) * cur_0 + 0)) (ex3 : 0 ≤ gx ∧ gx ≤ 2010) : 1 * x3 + 0 ≤ k := by
  first | with_reducible assumption | ((have f0_c0 := f0.1); (have f0_c1 := f0.2.1); (have f0_c2 := f0.2.2); (try and_intros) <;> first | with_reducible assumption | (clear f0_c2 f0 hK_0_1 hK_0_160 hK_0_162 hK_0_163 f2; omega)) | ((have f0_c0 := f0.1); (have f0_c1 := f0.2.1); (have f0_c2 := f0.2.2); (first | have f2_b := f2 (by clear f0_c2 f0 hK_0_1 hK_0_160 hK_0_162 hK_0_163 f2; omega) | skip); (first | have f2_d := f2 (by with_reducible assumption) | skip); (try and_intros) <;> first | with_reducible assumption | (clear f0_c2 f0 hK_0_1 hK_0_160 hK_0_162 hK_0_163 f2; omega)) | ((have f0_c0 := f0.1); (have f0_c1 := f0.2.1); (have f0_c2 := f0.2.2); (first | have f2_b := f2 (by clear f0_c2 f0 hK_0_1 hK_0_160 hK_0_162 hK_0_163 f2; omega) | skip); (first | have f2_d := f2 (by with_reducible assumption) | skip); (first | have f0_q := tk_nx0 f0 (by clear f0_c2 f0 hK_0_1 hK_0_160 hK_0_162 hK_0_163 f2; omega) | skip); (try and_intros) <;> first | with_reducible assumption | (clear f0_c2 f0 hK_0_1 hK_0_160 hK_0_162 hK_0_163 f2; omega)) | omega
set_option maxHeartbeats 4000000 in
theorem vc_Mo_test_f_6_7 (k : Int) (hk0 : 0 ≤ k) (hk1 : k ≤ 12) (x1 : Int) (x2 : Int) (x3 : Int) (x8 : Int) (tokenKind_0 : Int → Int) (cur_0 : Int) (tokens_0 : Int) (styleKind_0 : Int) (styleOne_0 : Int) (opened_0 : Int) (tokenValue_0 : Int → Int) (tokenPlace_0 : Int → Int) (tokenEnd_0 : Int → Int) (tape_0 : Int → Int) (fault_0 : Int) (limit_0 : Int) (gx : Int) (k1 : 0 ≤ x1 ∧ x1 ≤ 2009) (k2 : 0 ≤ x2 ∧ x2 ≤ 5) (k3 : 0 ≤ x3 ∧ x3 ≤ 13) (k8 : 0 ≤ x8 ∧ x8 ≤ 2010) (f0 : ((cur_0 + 1) ≤ tokens_0) ∧ ((tokens_0 ≤ 2010) ∧ ((tokenKind_0 ((tokens_0 - 1)) = 0) ∨ (tokenKind_0 ((tokens_0 - 1)) = 4)))) (f1 : 1 * x1 + ((-1) * cur_0 + 0) ≤ 0) (f2 : (styleKind_0 = 0) → (styleOne_0 ≤ 23)) (f3 : 1 * opened_0 + 0 ≤ k) (f4 : (-1) * opened_0 + 0 ≤ ((-k))) (f5 : (-1) * x8 + ((-1) * cur_0 + 0) ≤ (-2011)) (f6 : STL (fault_0) (cur_0) (styleKind_0) (limit_0) (tokenKind_0) (tokenValue_0) (tokenPlace_0) (tokenEnd_0) (tape_0) (x1) (x2) (x3)) (f7 : 1 * x3 + 0 ≤ k) (f8 : (-1) * x3 + 0 ≤ ((-k))) (hK_0_1 : ∀ j : Int, 0 ≤ j → j < 2000 → (-128) ≤ tape_0 j ∧ tape_0 j ≤ 127) (hK_0_160 : ∀ j : Int, 0 ≤ j → j < 2010 → 0 ≤ tokenKind_0 j ∧ tokenKind_0 j ≤ 4) (hK_0_162 : ∀ j : Int, 0 ≤ j → j < 2010 → 0 ≤ tokenPlace_0 j ∧ tokenPlace_0 j ≤ 2000) (hK_0_163 : ∀ j : Int, 0 ≤ j → j < 2010 → 0 ≤ tokenEnd_0 j ∧ tokenEnd_0 j ≤ 2000) (kz_0_8 : 0 ≤ fault_0 ∧ fault_0 ≤ 5) (kz_0_10 : 0 ≤ limit_0 ∧ limit_0 ≤ 2000) (kz_0_157 : 0 ≤ tokens_0 ∧ tokens_0 ≤ 2010) (kz_0_158 : 0 ≤ cur_0 ∧ cur_0 ≤ 2009) (kz_0_159 : 0 ≤ opened_0 ∧ opened_0 ≤ 13) (kz_0_164 : 0 ≤ styleKind_0 ∧ styleKind_0 ≤ 1) (kz_0_165 : (-1) ≤ styleOne_0 ∧ styleOne_0 ≤ 47) (ex2 : gx = 2010 + ((-1) * cur_0 + 0)) (ex3 : 0 ≤ gx ∧ gx ≤ 2010) : (-1) * x3 + 0 ≤ ((-k)) := by
  first | with_reducible assumption | ((have f0_c0 := f0.1); (have f0_c1 := f0.2.1); (have f0_c2 := f0.2.2); (try and_intros) <;> first | with_reducible assumption | (clear f0_c2 f0 hK_0_1 hK_0_160 hK_0_162 hK_0_163 f2; omega)) | ((have f0_c0 := f0.1); (have f0_c1 := f0.2.1); (have f0_c2 := f0.2.2); (first | have f2_b := f2 (by clear f0_c2 f0 hK_0_1 hK_0_160 hK_0_162 hK_0_163 f2; omega) | skip); (first | have f2_d := f2 (by with_reducible assumption) | skip); (try and_intros) <;> first | with_reducible assumption | (clear f0_c2 f0 hK_0_1 hK_0_160 hK_0_162 hK_0_163 f2; omega)) | ((have f0_c0 := f0.1); (have f0_c1 := f0.2.1); (have f0_c2 := f0.2.2); (first | have f2_b := f2 (by clear f0_c2 f0 hK_0_1 hK_0_160 hK_0_162 hK_0_163 f2; omega) | skip); (first | have f2_d := f2 (by with_reducible assumption) | skip); (first | have f0_q := tk_nx0 f0 (by clear f0_c2 f0 hK_0_1 hK_0_160 hK_0_162 hK_0_163 f2; omega) | skip); (try and_intros) <;> first | with_reducible assumption | (clear f0_c2 f0 hK_0_1 hK_0_160 hK_0_162 hK_0_163 f2; omega)) | omega
set_option maxHeartbeats 4000000 in
theorem vc_Mo_test_f_6_9 (k : Int) (hk0 : 0 ≤ k) (hk1 : k ≤ 12) (x1 : Int) (x2 : Int) (x3 : Int) (x8 : Int) (tokenKind_0 : Int → Int) (cur_0 : Int) (tokens_0 : Int) (styleKind_0 : Int) (styleOne_0 : Int) (opened_0 : Int) (tokenValue_0 : Int → Int) (tokenPlace_0 : Int → Int) (tokenEnd_0 : Int → Int) (tape_0 : Int → Int) (fault_0 : Int) (limit_0 : Int) (gx : Int) (k1 : 0 ≤ x1 ∧ x1 ≤ 2009) (k2 : 0 ≤ x2 ∧ x2 ≤ 5) (k3 : 0 ≤ x3 ∧ x3 ≤ 13) (k8 : 0 ≤ x8 ∧ x8 ≤ 2010) (f0 : ((cur_0 + 1) ≤ tokens_0) ∧ ((tokens_0 ≤ 2010) ∧ ((tokenKind_0 ((tokens_0 - 1)) = 0) ∨ (tokenKind_0 ((tokens_0 - 1)) = 4)))) (f1 : 1 * x1 + ((-1) * cur_0 + 0) ≤ 0) (f2 : (styleKind_0 = 0) → (styleOne_0 ≤ 23)) (f3 : 1 * opened_0 + 0 ≤ k) (f4 : (-1) * opened_0 + 0 ≤ ((-k))) (f5 : (-1) * x8 + ((-1) * cur_0 + 0) ≤ (-2011)) (f6 : STL (fault_0) (cur_0) (styleKind_0) (limit_0) (tokenKind_0) (tokenValue_0) (tokenPlace_0) (tokenEnd_0) (tape_0) (x1) (x2) (x3)) (f7 : 1 * x3 + 0 ≤ k) (f8 : (-1) * x3 + 0 ≤ ((-k))) (hK_0_1 : ∀ j : Int, 0 ≤ j → j < 2000 → (-128) ≤ tape_0 j ∧ tape_0 j ≤ 127) (hK_0_160 : ∀ j : Int, 0 ≤ j → j < 2010 → 0 ≤ tokenKind_0 j ∧ tokenKind_0 j ≤ 4) (hK_0_162 : ∀ j : Int, 0 ≤ j → j < 2010 → 0 ≤ tokenPlace_0 j ∧ tokenPlace_0 j ≤ 2000) (hK_0_163 : ∀ j : Int, 0 ≤ j → j < 2010 → 0 ≤ tokenEnd_0 j ∧ tokenEnd_0 j ≤ 2000) (kz_0_8 : 0 ≤ fault_0 ∧ fault_0 ≤ 5) (kz_0_10 : 0 ≤ limit_0 ∧ limit_0 ≤ 2000) (kz_0_157 : 0 ≤ tokens_0 ∧ tokens_0 ≤ 2010) (kz_0_158 : 0 ≤ cur_0 ∧ cur_0 ≤ 2009) (kz_0_159 : 0 ≤ opened_0 ∧ opened_0 ≤ 13) (kz_0_164 : 0 ≤ styleKind_0 ∧ styleKind_0 ≤ 1) (kz_0_165 : (-1) ≤ styleOne_0 ∧ styleOne_0 ≤ 47) (ex2 : gx = 2010 + ((-1) * cur_0 + 0)) (ex3 : 0 ≤ gx ∧ gx ≤ 2010) : 1 * gx + (1 * cur_0 + 0) ≤ 2010 := by
  first | with_reducible assumption | ((have f0_c0 := f0.1); (have f0_c1 := f0.2.1); (have f0_c2 := f0.2.2); (try and_intros) <;> first | with_reducible assumption | (clear f0_c2 f0 hK_0_1 hK_0_160 hK_0_162 hK_0_163 f2; omega)) | ((have f0_c0 := f0.1); (have f0_c1 := f0.2.1); (have f0_c2 := f0.2.2); (first | have f2_b := f2 (by clear f0_c2 f0 hK_0_1 hK_0_160 hK_0_162 hK_0_163 f2; omega) | skip); (first | have f2_d := f2 (by with_reducible assumption) | skip); (try and_intros) <;> first | with_reducible assumption | (clear f0_c2 f0 hK_0_1 hK_0_160 hK_0_162 hK_0_163 f2; omega)) | ((have f0_c0 := f0.1); (have f0_c1 := f0.2.1); (have f0_c2 := f0.2.2); (first | have f2_b := f2 (by clear f0_c2 f0 hK_0_1 hK_0_160 hK_0_162 hK_0_163 f2; omega) | skip); (first | have f2_d := f2 (by with_reducible assumption) | skip); (first | have f0_q := tk_nx0 f0 (by clear f0_c2 f0 hK_0_1 hK_0_160 hK_0_162 hK_0_163 f2; omega) | skip); (try and_intros) <;> first | with_reducible assumption | (clear f0_c2 f0 hK_0_1 hK_0_160 hK_0_162 hK_0_163 f2; omega)) | omega
set_option maxHeartbeats 4000000 in
theorem vc_Mo_test_f_6_10 (k : Int) (hk0 : 0 ≤ k) (hk1 : k ≤ 12) (x1 : Int) (x2 : Int) (x3 : Int) (x8 : Int) (tokenKind_0 : Int → Int) (cur_0 : Int) (tokens_0 : Int) (styleKind_0 : Int) (styleOne_0 : Int) (opened_0 : Int) (tokenValue_0 : Int → Int) (tokenPlace_0 : Int → Int) (tokenEnd_0 : Int → Int) (tape_0 : Int → Int) (fault_0 : Int) (limit_0 : Int) (gx : Int) (k1 : 0 ≤ x1 ∧ x1 ≤ 2009) (k2 : 0 ≤ x2 ∧ x2 ≤ 5) (k3 : 0 ≤ x3 ∧ x3 ≤ 13) (k8 : 0 ≤ x8 ∧ x8 ≤ 2010) (f0 : ((cur_0 + 1) ≤ tokens_0) ∧ ((tokens_0 ≤ 2010) ∧ ((tokenKind_0 ((tokens_0 - 1)) = 0) ∨ (tokenKind_0 ((tokens_0 - 1)) = 4)))) (f1 : 1 * x1 + ((-1) * cur_0 + 0) ≤ 0) (f2 : (styleKind_0 = 0) → (styleOne_0 ≤ 23)) (f3 : 1 * opened_0 + 0 ≤ k) (f4 : (-1) * opened_0 + 0 ≤ ((-k))) (f5 : (-1) * x8 + ((-1) * cur_0 + 0) ≤ (-2011)) (f6 : STL (fault_0) (cur_0) (styleKind_0) (limit_0) (tokenKind_0) (tokenValue_0) (tokenPlace_0) (tokenEnd_0) (tape_0) (x1) (x2) (x3)) (f7 : 1 * x3 + 0 ≤ k) (f8 : (-1) * x3 + 0 ≤ ((-k))) (hK_0_1 : ∀ j : Int, 0 ≤ j → j < 2000 → (-128) ≤ tape_0 j ∧ tape_0 j ≤ 127) (hK_0_160 : ∀ j : Int, 0 ≤ j → j < 2010 → 0 ≤ tokenKind_0 j ∧ tokenKind_0 j ≤ 4) (hK_0_162 : ∀ j : Int, 0 ≤ j → j < 2010 → 0 ≤ tokenPlace_0 j ∧ tokenPlace_0 j ≤ 2000) (hK_0_163 : ∀ j : Int, 0 ≤ j → j < 2010 → 0 ≤ tokenEnd_0 j ∧ tokenEnd_0 j ≤ 2000) (kz_0_8 : 0 ≤ fault_0 ∧ fault_0 ≤ 5) (kz_0_10 : 0 ≤ limit_0 ∧ limit_0 ≤ 2000) (kz_0_157 : 0 ≤ tokens_0 ∧ tokens_0 ≤ 2010) (kz_0_158 : 0 ≤ cur_0 ∧ cur_0 ≤ 2009) (kz_0_159 : 0 ≤ opened_0 ∧ opened_0 ≤ 13) (kz_0_164 : 0 ≤ styleKind_0 ∧ styleKind_0 ≤ 1) (kz_0_165 : (-1) ≤ styleOne_0 ∧ styleOne_0 ≤ 47) (ex2 : gx = 2010 + ((-1) * cur_0 + 0)) (ex3 : 0 ≤ gx ∧ gx ≤ 2010) : (-1) * gx + ((-1) * cur_0 + 0) ≤ (-2010) := by
  first | with_reducible assumption | ((have f0_c0 := f0.1); (have f0_c1 := f0.2.1); (have f0_c2 := f0.2.2); (try and_intros) <;> first | with_reducible assumption | (clear f0_c2 f0 hK_0_1 hK_0_160 hK_0_162 hK_0_163 f2; omega)) | ((have f0_c0 := f0.1); (have f0_c1 := f0.2.1); (have f0_c2 := f0.2.2); (first | have f2_b := f2 (by clear f0_c2 f0 hK_0_1 hK_0_160 hK_0_162 hK_0_163 f2; omega) | skip); (first | have f2_d := f2 (by with_reducible assumption) | skip); (try and_intros) <;> first | with_reducible assumption | (clear f0_c2 f0 hK_0_1 hK_0_160 hK_0_162 hK_0_163 f2; omega)) | ((have f0_c0 := f0.1); (have f0_c1 := f0.2.1); (have f0_c2 := f0.2.2); (first | have f2_b := f2 (by clear f0_c2 f0 hK_0_1 hK_0_160 hK_0_162 hK_0_163 f2; omega) | skip); (first | have f2_d := f2 (by with_reducible assumption) | skip); (first | have f0_q := tk_nx0 f0 (by clear f0_c2 f0 hK_0_1 hK_0_160 hK_0_162 hK_0_163 f2; omega) | skip); (try and_intros) <;> first | with_reducible assumption | (clear f0_c2 f0 hK_0_1 hK_0_160 hK_0_162 hK_0_163 f2; omega)) | omega
def o_Mo_test_f_6 (k : Int) : or_T := (5, 9, [(0, (2, 0, 0, [165])), (1, (0, 0, 2009, [])), (2, (0, 0, 5, [])), (3, (0, 0, 13, [])), (4, (2, 0, 0, [165])), (8, (0, 0, 2010, []))], [(20, [4], [50, 2, 1, 158, 157, 160, 2, 12, 0, 7, 4, 3, 2, 0, 158, 0, 1, 2, 0, 157, 2, 7, 0, 3, 2, 0, 157, 0, 2010, 3, 14, 1, 10, 3, 0, 160, 5, 3, 2, 0, 157, 0, 1, 0, 0, 1, 10, 3, 0, 160, 5, 3, 2, 0, 157, 0, 1, 0, 4]), (20, [1, 4], [30, 0, 1, 0, 0, -1, 1, 158]), (20, [4], [50, 2, 0, 164, 165, 4, 7, 1, 3, 2, 0, 164, 0, 0, 0, 3, 2, 0, 165, 0, 23]), (20, [4], [30, k, 1, 1, 159]), (20, [4], [30, (-k), -1, 1, 159]), (20, [8, 4], [30, -2011, -1, 0, 0, -1, 1, 158]), (20, [4, 1, 2, 3], [60, 4, 5, 9, 8, 158, 164, 10, 160, 161, 162, 163, 1]), (23, [3], [k, 1]), (23, [3], [(-k), -1]), (24, [0, 4], [])], [], [(0, 0, 2010, [])], [(20, [4], [50, 2, 1, 158, 157, 160, 2, 12, 0, 7, 4, 3, 2, 0, 158, 0, 1, 2, 0, 157, 2, 7, 0, 3, 2, 0, 157, 0, 2010, 3, 14, 1, 10, 3, 0, 160, 5, 3, 2, 0, 157, 0, 1, 0, 0, 1, 10, 3, 0, 160, 5, 3, 2, 0, 157, 0, 1, 0, 4]), (20, [1, 4], [30, 0, 1, 0, 0, -1, 1, 158]), (20, [4], [50, 2, 0, 164, 165, 4, 7, 1, 3, 2, 0, 164, 0, 0, 0, 3, 2, 0, 165, 0, 23]), (20, [4], [30, k, 1, 1, 159]), (20, [4], [30, (-k), -1, 1, 159]), (20, [4, 1, 2, 3], [60, 4, 5, 9, 8, 158, 164, 10, 160, 161, 162, 163, 1]), (23, [3], [k, 1]), (23, [3], [(-k), -1]), (24, [0, 4], []), (20, [9, 4], [30, 2010, 1, 0, 0, 1, 1, 158]), (20, [9, 4], [30, -2010, -1, 0, 0, -1, 1, 158])], [(9, 8, -1000000000000, -1)], [])
theorem oo_Mo_test_f_6 {kA : Nat → ClassId} (k : Int) (hk0 : 0 ≤ k) (hk1 : k ≤ 12) : or_ok PRD kA GG (o_Mo_test_f_6 k) := by
  refine or_mk fun A ta ws vs hD hth hl => ?_
  intro t0 r0 t1 k1 t2 k2 t3 k3 t4 r4 t8 k8 f0 f1 f2 f3 f4 f5 f6 f7 f8 f9
  replace f0 := shm_271 f0
  replace f1 := shm_281 f1
  replace f2 := shm_274 f2
  replace f3 := shm_275 f3
  replace f4 := shm_276 f4
  replace f5 := shm_292 f5
  replace f6 := shm_339 f6
  replace f7 := shm_279 f7
  replace f8 := shm_280 f8
  replace f9 := shm_5 f9
  have q4 : n_v vs 4 = n_v vs 0 := f9.symm
  simp only [q4] at f0 f1 f2 f3 f4 f5 f6
  have cr_0_1 := fdq_39 hD hth r0
  have cr_0_160 := fdq_33 hD hth r0
  have cr_0_161 := fdq_40 hD hth r0
  have cr_0_162 := fdq_41 hD hth r0
  have cr_0_163 := fdq_42 hD hth r0
  have hK_0_1 := elq_7 hD hth cr_0_1
  have hK_0_160 := elq_6 hD hth cr_0_160
  have hK_0_162 := elq_8 hD hth cr_0_162
  have hK_0_163 := elq_9 hD hth cr_0_163
  have kz_0_8 := fdq_34 hD hth r0
  have kz_0_10 := fdq_43 hD hth r0
  have kz_0_157 := fdq_35 hD hth r0
  have kz_0_158 := fdq_36 hD hth r0
  have kz_0_159 := fdq_37 hD hth r0
  have kz_0_164 := fdq_38 hD hth r0
  have kz_0_165 := fdq_27 hD hth r0
  have kb_0_158 := fdq_36 hD hth r0
  obtain ⟨x, ex, hx⟩ := iv_ex (ta := ta) (lo := 0) (hi := 2010) (z := 2010 + ((-1) * w_fi ws (n_v vs 0) 158 + 0)) (by omega) (by omega) (by omega) (by omega)
  have ex2 : v_iv (Value.int x) = 2010 + ((-1) * w_fi ws (n_v vs 0) 158 + 0) := ex
  have ex3 : 0 ≤ v_iv (Value.int x) ∧ v_iv (Value.int x) ≤ 2010 := tv_rng hx
  have e_0 : n_v (vs ++ [Value.int x]) 0 = n_v vs 0 := n_v_old (by rw [hl]; decide)
  have e_1 : n_v (vs ++ [Value.int x]) 1 = n_v vs 1 := n_v_old (by rw [hl]; decide)
  have e_2 : n_v (vs ++ [Value.int x]) 2 = n_v vs 2 := n_v_old (by rw [hl]; decide)
  have e_3 : n_v (vs ++ [Value.int x]) 3 = n_v vs 3 := n_v_old (by rw [hl]; decide)
  have e_4 : n_v (vs ++ [Value.int x]) 4 = n_v vs 4 := n_v_old (by rw [hl]; decide)
  have e_9 : n_v (vs ++ [Value.int x]) 9 = Value.int x := n_v_new hl
  have nf0 : fc_1 PRD (20, [4], [50, 2, 1, 158, 157, 160, 2, 12, 0, 7, 4, 3, 2, 0, 158, 0, 1, 2, 0, 157, 2, 7, 0, 3, 2, 0, 157, 0, 2010, 3, 14, 1, 10, 3, 0, 160, 5, 3, 2, 0, 157, 0, 1, 0, 0, 1, 10, 3, 0, 160, 5, 3, 2, 0, 157, 0, 1, 0, 4]) ws (vs ++ [Value.int x]) := by
    refine ⟨nf_inA hl rfl, sgq_271 ?_⟩
    · show ((w_fi ws (n_v (vs ++ [Value.int x]) 4) 158 + 1) ≤ w_fi ws (n_v (vs ++ [Value.int x]) 4) 157) ∧ ((w_fi ws (n_v (vs ++ [Value.int x]) 4) 157 ≤ 2010) ∧ ((w_ei ws (w_ar ws (n_v (vs ++ [Value.int x]) 4) 160) ((w_fi ws (n_v (vs ++ [Value.int x]) 4) 157 - 1)) = 0) ∨ (w_ei ws (w_ar ws (n_v (vs ++ [Value.int x]) 4) 160) ((w_fi ws (n_v (vs ++ [Value.int x]) 4) 157 - 1)) = 4)))
      simp only [e_4, q4]
      exact vc_Mo_test_f_6_0 k hk0 hk1 (v_iv (n_v vs 1)) (v_iv (n_v vs 2)) (v_iv (n_v vs 3)) (v_iv (n_v vs 8)) (w_ei ws (w_ar ws (n_v vs 0) 160)) (w_fi ws (n_v vs 0) 158) (w_fi ws (n_v vs 0) 157) (w_fi ws (n_v vs 0) 164) (w_fi ws (n_v vs 0) 165) (w_fi ws (n_v vs 0) 159) (w_ei ws (w_ar ws (n_v vs 0) 161)) (w_ei ws (w_ar ws (n_v vs 0) 162)) (w_ei ws (w_ar ws (n_v vs 0) 163)) (w_ei ws (w_ar ws (n_v vs 0) 1)) (w_fi ws (n_v vs 0) 8) (w_fi ws (n_v vs 0) 10) (v_iv (Value.int x)) k1 k2 k3 k8 f0 f1 f2 f3 f4 f5 f6 f7 f8 hK_0_1 hK_0_160 hK_0_162 hK_0_163 kz_0_8 kz_0_10 kz_0_157 kz_0_158 kz_0_159 kz_0_164 kz_0_165 ex2 ex3
  have nf1 : fc_1 PRD (20, [1, 4], [30, 0, 1, 0, 0, -1, 1, 158]) ws (vs ++ [Value.int x]) := by
    refine ⟨nf_inA hl rfl, sgq_281 ?_⟩
    · show 1 * v_iv (n_v (vs ++ [Value.int x]) 1) + ((-1) * w_fi ws (n_v (vs ++ [Value.int x]) 4) 158 + 0) ≤ 0
      simp only [e_1, e_4, q4]
      exact vc_Mo_test_f_6_1 k hk0 hk1 (v_iv (n_v vs 1)) (v_iv (n_v vs 2)) (v_iv (n_v vs 3)) (v_iv (n_v vs 8)) (w_ei ws (w_ar ws (n_v vs 0) 160)) (w_fi ws (n_v vs 0) 158) (w_fi ws (n_v vs 0) 157) (w_fi ws (n_v vs 0) 164) (w_fi ws (n_v vs 0) 165) (w_fi ws (n_v vs 0) 159) (w_ei ws (w_ar ws (n_v vs 0) 161)) (w_ei ws (w_ar ws (n_v vs 0) 162)) (w_ei ws (w_ar ws (n_v vs 0) 163)) (w_ei ws (w_ar ws (n_v vs 0) 1)) (w_fi ws (n_v vs 0) 8) (w_fi ws (n_v vs 0) 10) (v_iv (Value.int x)) k1 k2 k3 k8 f0 f1 f2 f3 f4 f5 f6 f7 f8 hK_0_1 hK_0_160 hK_0_162 hK_0_163 kz_0_8 kz_0_10 kz_0_157 kz_0_158 kz_0_159 kz_0_164 kz_0_165 ex2 ex3
  have nf2 : fc_1 PRD (20, [4], [50, 2, 0, 164, 165, 4, 7, 1, 3, 2, 0, 164, 0, 0, 0, 3, 2, 0, 165, 0, 23]) ws (vs ++ [Value.int x]) := by
    refine ⟨nf_inA hl rfl, sgq_274 ?_⟩
    · show (w_fi ws (n_v (vs ++ [Value.int x]) 4) 164 = 0) → (w_fi ws (n_v (vs ++ [Value.int x]) 4) 165 ≤ 23)
      simp only [e_4, q4]
      exact vc_Mo_test_f_6_2 k hk0 hk1 (v_iv (n_v vs 1)) (v_iv (n_v vs 2)) (v_iv (n_v vs 3)) (v_iv (n_v vs 8)) (w_ei ws (w_ar ws (n_v vs 0) 160)) (w_fi ws (n_v vs 0) 158) (w_fi ws (n_v vs 0) 157) (w_fi ws (n_v vs 0) 164) (w_fi ws (n_v vs 0) 165) (w_fi ws (n_v vs 0) 159) (w_ei ws (w_ar ws (n_v vs 0) 161)) (w_ei ws (w_ar ws (n_v vs 0) 162)) (w_ei ws (w_ar ws (n_v vs 0) 163)) (w_ei ws (w_ar ws (n_v vs 0) 1)) (w_fi ws (n_v vs 0) 8) (w_fi ws (n_v vs 0) 10) (v_iv (Value.int x)) k1 k2 k3 k8 f0 f1 f2 f3 f4 f5 f6 f7 f8 hK_0_1 hK_0_160 hK_0_162 hK_0_163 kz_0_8 kz_0_10 kz_0_157 kz_0_158 kz_0_159 kz_0_164 kz_0_165 ex2 ex3
  have nf3 : fc_1 PRD (20, [4], [30, k, 1, 1, 159]) ws (vs ++ [Value.int x]) := by
    refine ⟨nf_inA hl rfl, sgq_275 ?_⟩
    · show 1 * w_fi ws (n_v (vs ++ [Value.int x]) 4) 159 + 0 ≤ k
      simp only [e_4, q4]
      exact vc_Mo_test_f_6_3 k hk0 hk1 (v_iv (n_v vs 1)) (v_iv (n_v vs 2)) (v_iv (n_v vs 3)) (v_iv (n_v vs 8)) (w_ei ws (w_ar ws (n_v vs 0) 160)) (w_fi ws (n_v vs 0) 158) (w_fi ws (n_v vs 0) 157) (w_fi ws (n_v vs 0) 164) (w_fi ws (n_v vs 0) 165) (w_fi ws (n_v vs 0) 159) (w_ei ws (w_ar ws (n_v vs 0) 161)) (w_ei ws (w_ar ws (n_v vs 0) 162)) (w_ei ws (w_ar ws (n_v vs 0) 163)) (w_ei ws (w_ar ws (n_v vs 0) 1)) (w_fi ws (n_v vs 0) 8) (w_fi ws (n_v vs 0) 10) (v_iv (Value.int x)) k1 k2 k3 k8 f0 f1 f2 f3 f4 f5 f6 f7 f8 hK_0_1 hK_0_160 hK_0_162 hK_0_163 kz_0_8 kz_0_10 kz_0_157 kz_0_158 kz_0_159 kz_0_164 kz_0_165 ex2 ex3
  have nf4 : fc_1 PRD (20, [4], [30, (-k), -1, 1, 159]) ws (vs ++ [Value.int x]) := by
    refine ⟨nf_inA hl rfl, sgq_276 ?_⟩
    · show (-1) * w_fi ws (n_v (vs ++ [Value.int x]) 4) 159 + 0 ≤ ((-k))
      simp only [e_4, q4]
      exact vc_Mo_test_f_6_4 k hk0 hk1 (v_iv (n_v vs 1)) (v_iv (n_v vs 2)) (v_iv (n_v vs 3)) (v_iv (n_v vs 8)) (w_ei ws (w_ar ws (n_v vs 0) 160)) (w_fi ws (n_v vs 0) 158) (w_fi ws (n_v vs 0) 157) (w_fi ws (n_v vs 0) 164) (w_fi ws (n_v vs 0) 165) (w_fi ws (n_v vs 0) 159) (w_ei ws (w_ar ws (n_v vs 0) 161)) (w_ei ws (w_ar ws (n_v vs 0) 162)) (w_ei ws (w_ar ws (n_v vs 0) 163)) (w_ei ws (w_ar ws (n_v vs 0) 1)) (w_fi ws (n_v vs 0) 8) (w_fi ws (n_v vs 0) 10) (v_iv (Value.int x)) k1 k2 k3 k8 f0 f1 f2 f3 f4 f5 f6 f7 f8 hK_0_1 hK_0_160 hK_0_162 hK_0_163 kz_0_8 kz_0_10 kz_0_157 kz_0_158 kz_0_159 kz_0_164 kz_0_165 ex2 ex3
  have nf5 : fc_1 PRD (20, [4, 1, 2, 3], [60, 4, 5, 9, 8, 158, 164, 10, 160, 161, 162, 163, 1]) ws (vs ++ [Value.int x]) := by
    refine ⟨nf_inA hl rfl, sgq_339 ?_⟩
    · show STL (w_fi ws (n_v (vs ++ [Value.int x]) 4) 8) (w_fi ws (n_v (vs ++ [Value.int x]) 4) 158) (w_fi ws (n_v (vs ++ [Value.int x]) 4) 164) (w_fi ws (n_v (vs ++ [Value.int x]) 4) 10) (w_ei ws (w_ar ws (n_v (vs ++ [Value.int x]) 4) 160)) (w_ei ws (w_ar ws (n_v (vs ++ [Value.int x]) 4) 161)) (w_ei ws (w_ar ws (n_v (vs ++ [Value.int x]) 4) 162)) (w_ei ws (w_ar ws (n_v (vs ++ [Value.int x]) 4) 163)) (w_ei ws (w_ar ws (n_v (vs ++ [Value.int x]) 4) 1)) (v_iv (n_v (vs ++ [Value.int x]) 1)) (v_iv (n_v (vs ++ [Value.int x]) 2)) (v_iv (n_v (vs ++ [Value.int x]) 3))
      simp only [e_1, e_2, e_3, e_4, q4]
      exact vc_Mo_test_f_6_5 k hk0 hk1 (v_iv (n_v vs 1)) (v_iv (n_v vs 2)) (v_iv (n_v vs 3)) (v_iv (n_v vs 8)) (w_ei ws (w_ar ws (n_v vs 0) 160)) (w_fi ws (n_v vs 0) 158) (w_fi ws (n_v vs 0) 157) (w_fi ws (n_v vs 0) 164) (w_fi ws (n_v vs 0) 165) (w_fi ws (n_v vs 0) 159) (w_ei ws (w_ar ws (n_v vs 0) 161)) (w_ei ws (w_ar ws (n_v vs 0) 162)) (w_ei ws (w_ar ws (n_v vs 0) 163)) (w_ei ws (w_ar ws (n_v vs 0) 1)) (w_fi ws (n_v vs 0) 8) (w_fi ws (n_v vs 0) 10) (v_iv (Value.int x)) k1 k2 k3 k8 f0 f1 f2 f3 f4 f5 f6 f7 f8 hK_0_1 hK_0_160 hK_0_162 hK_0_163 kz_0_8 kz_0_10 kz_0_157 kz_0_158 kz_0_159 kz_0_164 kz_0_165 ex2 ex3
  have nf6 : fc_1 PRD (23, [3], [k, 1]) ws (vs ++ [Value.int x]) := by
    refine ⟨nf_inA hl rfl, sgq_279 ?_⟩
    · show 1 * v_iv (n_v (vs ++ [Value.int x]) 3) + 0 ≤ k
      rw [e_3]
      exact vc_Mo_test_f_6_6 k hk0 hk1 (v_iv (n_v vs 1)) (v_iv (n_v vs 2)) (v_iv (n_v vs 3)) (v_iv (n_v vs 8)) (w_ei ws (w_ar ws (n_v vs 0) 160)) (w_fi ws (n_v vs 0) 158) (w_fi ws (n_v vs 0) 157) (w_fi ws (n_v vs 0) 164) (w_fi ws (n_v vs 0) 165) (w_fi ws (n_v vs 0) 159) (w_ei ws (w_ar ws (n_v vs 0) 161)) (w_ei ws (w_ar ws (n_v vs 0) 162)) (w_ei ws (w_ar ws (n_v vs 0) 163)) (w_ei ws (w_ar ws (n_v vs 0) 1)) (w_fi ws (n_v vs 0) 8) (w_fi ws (n_v vs 0) 10) (v_iv (Value.int x)) k1 k2 k3 k8 f0 f1 f2 f3 f4 f5 f6 f7 f8 hK_0_1 hK_0_160 hK_0_162 hK_0_163 kz_0_8 kz_0_10 kz_0_157 kz_0_158 kz_0_159 kz_0_164 kz_0_165 ex2 ex3
  have nf7 : fc_1 PRD (23, [3], [(-k), -1]) ws (vs ++ [Value.int x]) := by
    refine ⟨nf_inA hl rfl, sgq_280 ?_⟩
    · show (-1) * v_iv (n_v (vs ++ [Value.int x]) 3) + 0 ≤ ((-k))
      rw [e_3]
      exact vc_Mo_test_f_6_7 k hk0 hk1 (v_iv (n_v vs 1)) (v_iv (n_v vs 2)) (v_iv (n_v vs 3)) (v_iv (n_v vs 8)) (w_ei ws (w_ar ws (n_v vs 0) 160)) (w_fi ws (n_v vs 0) 158) (w_fi ws (n_v vs 0) 157) (w_fi ws (n_v vs 0) 164) (w_fi ws (n_v vs 0) 165) (w_fi ws (n_v vs 0) 159) (w_ei ws (w_ar ws (n_v vs 0) 161)) (w_ei ws (w_ar ws (n_v vs 0) 162)) (w_ei ws (w_ar ws (n_v vs 0) 163)) (w_ei ws (w_ar ws (n_v vs 0) 1)) (w_fi ws (n_v vs 0) 8) (w_fi ws (n_v vs 0) 10) (v_iv (Value.int x)) k1 k2 k3 k8 f0 f1 f2 f3 f4 f5 f6 f7 f8 hK_0_1 hK_0_160 hK_0_162 hK_0_163 kz_0_8 kz_0_10 kz_0_157 kz_0_158 kz_0_159 kz_0_164 kz_0_165 ex2 ex3
  have nf8 : fc_1 PRD (24, [0, 4], []) ws (vs ++ [Value.int x]) := by
    refine ⟨nf_inA hl rfl, sgq_5 ?_⟩
    · show n_v (vs ++ [Value.int x]) 0 = n_v (vs ++ [Value.int x]) 4
      first | rfl | simp only [e_0, e_4, q4]
  have nf9 : fc_1 PRD (20, [9, 4], [30, 2010, 1, 0, 0, 1, 1, 158]) ws (vs ++ [Value.int x]) := by
    refine ⟨nf_inA hl rfl, sgq_284 ?_⟩
    · show 1 * v_iv (n_v (vs ++ [Value.int x]) 9) + (1 * w_fi ws (n_v (vs ++ [Value.int x]) 4) 158 + 0) ≤ 2010
      simp only [e_4, e_9, q4]
      exact vc_Mo_test_f_6_9 k hk0 hk1 (v_iv (n_v vs 1)) (v_iv (n_v vs 2)) (v_iv (n_v vs 3)) (v_iv (n_v vs 8)) (w_ei ws (w_ar ws (n_v vs 0) 160)) (w_fi ws (n_v vs 0) 158) (w_fi ws (n_v vs 0) 157) (w_fi ws (n_v vs 0) 164) (w_fi ws (n_v vs 0) 165) (w_fi ws (n_v vs 0) 159) (w_ei ws (w_ar ws (n_v vs 0) 161)) (w_ei ws (w_ar ws (n_v vs 0) 162)) (w_ei ws (w_ar ws (n_v vs 0) 163)) (w_ei ws (w_ar ws (n_v vs 0) 1)) (w_fi ws (n_v vs 0) 8) (w_fi ws (n_v vs 0) 10) (v_iv (Value.int x)) k1 k2 k3 k8 f0 f1 f2 f3 f4 f5 f6 f7 f8 hK_0_1 hK_0_160 hK_0_162 hK_0_163 kz_0_8 kz_0_10 kz_0_157 kz_0_158 kz_0_159 kz_0_164 kz_0_165 ex2 ex3
  have nf10 : fc_1 PRD (20, [9, 4], [30, -2010, -1, 0, 0, -1, 1, 158]) ws (vs ++ [Value.int x]) := by
    refine ⟨nf_inA hl rfl, sgq_285 ?_⟩
    · show (-1) * v_iv (n_v (vs ++ [Value.int x]) 9) + ((-1) * w_fi ws (n_v (vs ++ [Value.int x]) 4) 158 + 0) ≤ (-2010)
      simp only [e_4, e_9, q4]
      exact vc_Mo_test_f_6_10 k hk0 hk1 (v_iv (n_v vs 1)) (v_iv (n_v vs 2)) (v_iv (n_v vs 3)) (v_iv (n_v vs 8)) (w_ei ws (w_ar ws (n_v vs 0) 160)) (w_fi ws (n_v vs 0) 158) (w_fi ws (n_v vs 0) 157) (w_fi ws (n_v vs 0) 164) (w_fi ws (n_v vs 0) 165) (w_fi ws (n_v vs 0) 159) (w_ei ws (w_ar ws (n_v vs 0) 161)) (w_ei ws (w_ar ws (n_v vs 0) 162)) (w_ei ws (w_ar ws (n_v vs 0) 163)) (w_ei ws (w_ar ws (n_v vs 0) 1)) (w_fi ws (n_v vs 0) 8) (w_fi ws (n_v vs 0) 10) (v_iv (Value.int x)) k1 k2 k3 k8 f0 f1 f2 f3 f4 f5 f6 f7 f8 hK_0_1 hK_0_160 hK_0_162 hK_0_163 kz_0_8 kz_0_10 kz_0_157 kz_0_158 kz_0_159 kz_0_164 kz_0_165 ex2 ex3
  obtain ⟨x0, e0, _, _⟩ := tv_int t8 rfl
  have e1 : v_iv (n_v vs 8) = x0.toInt := by rw [e0]; rfl
  have ho : sy_ofs (vs ++ [Value.int x]) (9, 8, -1000000000000, -1) := by
    refine ⟨x, x0, by rw [List.getElem?_append_right (by rw [hl]; decide), hl]; rfl, ?_, ?_, ?_⟩
    · rw [List.getElem?_append_left (by rw [hl]; decide)]; exact n_v_some (by rw [hl]; decide) e0
    · show x0.toInt + (-1000000000000) ≤ x.toInt; omega
    · show x.toInt ≤ x0.toInt + (-1); omega
  exact ⟨(fun _ h => (by cases h)), [Value.int x], ag_one hx, List.forall_mem_cons.mpr ⟨⟨show (20 : Nat) < 100 from by decide, nf0⟩, List.forall_mem_cons.mpr ⟨⟨show (20 : Nat) < 100 from by decide, nf1⟩, List.forall_mem_cons.mpr ⟨⟨show (20 : Nat) < 100 from by decide, nf2⟩, List.forall_mem_cons.mpr ⟨⟨show (20 : Nat) < 100 from by decide, nf3⟩, List.forall_mem_cons.mpr ⟨⟨show (20 : Nat) < 100 from by decide, nf4⟩, List.forall_mem_cons.mpr ⟨⟨show (20 : Nat) < 100 from by decide, nf5⟩, List.forall_mem_cons.mpr ⟨⟨show (23 : Nat) < 100 from by decide, nf6⟩, List.forall_mem_cons.mpr ⟨⟨show (23 : Nat) < 100 from by decide, nf7⟩, List.forall_mem_cons.mpr ⟨⟨show (24 : Nat) < 100 from by decide, nf8⟩, List.forall_mem_cons.mpr ⟨⟨show (20 : Nat) < 100 from by decide, nf9⟩, List.forall_mem_cons.mpr ⟨⟨show (20 : Nat) < 100 from by decide, nf10⟩, (fun _ h => (by cases h))⟩⟩⟩⟩⟩⟩⟩⟩⟩⟩⟩, List.forall_mem_cons.mpr ⟨ho, (fun _ h => (by cases h))⟩⟩

set_option maxHeartbeats 4000000 in
theorem vc_Dr_addBend_at_gb_0_r0 (x1 : Int) (x4 : Int) (x6 : Int) (x7 : Int) (x9 : Int) (x10 : Int) (bends_0 : Int → Int) (k1 : 0 ≤ x1 ∧ x1 ≤ 47) (k4 : 0 ≤ x4 ∧ x4 ≤ 23) (k6 : 24 ≤ x6 ∧ x6 ≤ 24) (k7 : 0 ≤ x7 ∧ x7 ≤ 1128) (k9 : 0 ≤ x9 ∧ x9 ≤ 24) (k10 : 0 ≤ x10 ∧ x10 ≤ 1152) (d0 : x9 + 0 ≤ x10 ∧ x10 ≤ x9 + 1128) (d1 : x7 + 0 ≤ x10 ∧ x10 ≤ x7 + 24) (f0 : x10 = x7 + x9) (h1 : x9 = bends_0 (x1)) (f3 : x7 = x1 * 24) (f4 : 1 * bends_0 (x1) + ((-1) * x4 + 0) ≤ 0) (f5 : BNZ (bends_0) (x1)) (hK_0_4 : ∀ j : Int, 0 ≤ j → j < 48 → 0 ≤ bends_0 j ∧ bends_0 j ≤ 24) : 0 ≤ x10 ∧ x10 ≤ 1151 := by
  first
    | omega
    | (have q := (hE_0_4_1 x1 (by omega)).1 rfl; rw [q]; omega)
  
def o_Dr_addBend_at_gb_0 : or_T := (16, 11, [(0, (2, 0, 0, [0])), (1, (0, 0, 47, [])), (4, (0, 0, 23, [])), (6, (0, 24, 24, [])), (7, (0, 0, 1128, [])), (8, (2, 0, 0, [16])), (9, (0, 0, 24, [])), (10, (0, 0, 1152, []))], [(1, [10, 7, 9], []), (10, [9, 8, 1], []), (9, [8, 0], [4]), (3, [7, 1, 6], []), (20, [0, 1, 4], [30, 0, 1, 2, 4, -1, 0, 0]), (20, [0, 1], [60, 0, 1, 643, 4])], [(10, (0, 0, 1151, []))], [], [], [], [(10, 9, 0, 1128), (10, 7, 0, 24)])
theorem oo_Dr_addBend_at_gb_0 {kA : Nat → ClassId} : or_ok PRD kA GG o_Dr_addBend_at_gb_0 := by
  refine or_mk fun A ta ws vs hD hth hl => ?_
  intro t0 r0 t1 k1 t4 k4 t6 k6 t7 k7 t8 r8 t9 k9 t10 k10 d0 d1 f0 f1 f2 f3 f4 f5
  replace f1 := shm_107 f1
  replace f2 := shm_108 f2
  replace f3 := shm_38 f3
  rw [show v_iv (n_v vs 6) = 24 from by omega] at f3
  have cr_0_4 := fdq_1 hD hth r0
  have ad_8 : v_ad (n_v vs 8) = w_ar ws (n_v vs 0) 4 := congrArg v_ad f2
  simp only [ad_8] at f1
  have h1 : v_iv (n_v vs 9) = w_ei ws (w_ar ws (n_v vs 0) 4) (v_iv (n_v vs 1)) := f1
  have hK_0_4 := elq_0 hD hth cr_0_4
  have hrf0 : 0 ≤ v_iv (n_v vs 10) ∧ v_iv (n_v vs 10) ≤ 1151 := vc_Dr_addBend_at_gb_0_r0 (v_iv (n_v vs 1)) (v_iv (n_v vs 4)) (v_iv (n_v vs 6)) (v_iv (n_v vs 7)) (v_iv (n_v vs 9)) (v_iv (n_v vs 10)) (w_ei ws (w_ar ws (n_v vs 0) 4)) k1 k4 k6 k7 k9 k10 d0 d1 (shm_12 f0) h1 f3 (shm_109 f4) (shm_342 f5) hK_0_4
  have rf10 : tv_ok ta (0, 0, 1151, []) (n_v vs 10) := tv_in t10 (by first | omega | grind) (by first | omega | grind)
  refine ⟨List.forall_mem_cons.mpr ⟨rf10, (fun _ h => (by cases h))⟩, [], trivial, ?_, (fun _ h => (by cases h))⟩
  rw [List.append_nil]
  exact (fun _ h => (by cases h))
set_option maxHeartbeats 4000000 in
theorem vc_Dr_addBend_at_gb_1_r0 (x1 : Int) (x4 : Int) (x9 : Int) (x10 : Int) (x12 : Int) (x13 : Int) (x14 : Int) (x15 : Int) (bends_0 : Int → Int) (bends_1 : Int → Int) (bendX_0 : Int → Int) (bendX_1 : Int → Int) (x2 : Int) (k1 : 0 ≤ x1 ∧ x1 ≤ 47) (k4 : 0 ≤ x4 ∧ x4 ≤ 23) (k9 : 0 ≤ x9 ∧ x9 ≤ 24) (k10 : 0 ≤ x10 ∧ x10 ≤ 1151) (k12 : 24 ≤ x12 ∧ x12 ≤ 24) (k13 : 0 ≤ x13 ∧ x13 ≤ 1128) (k14 : 0 ≤ x14 ∧ x14 ≤ 24) (k15 : 0 ≤ x15 ∧ x15 ≤ 1152) (d0 : x14 + 0 ≤ x15 ∧ x15 ≤ x14 + 1128) (d1 : x13 + 0 ≤ x15 ∧ x15 ≤ x13 + 24) (d2 : x9 + 0 ≤ x10 ∧ x10 ≤ x9 + 1128) (f0 : x15 = x13 + x14) (h1 : x14 = bends_0 (x1)) (f3 : x13 = x1 * 24) (f4 : 1 * bends_0 (x1) + ((-1) * x4 + 0) ≤ 0) (f5 : BNZ (bends_0) (x1)) (h7 : x9 = bends_1 (x1)) (f9 : 1 * bends_1 (x1) + ((-1) * x4 + 0) ≤ 0) (f10 : BNZ (bends_1) (x1)) (hE_0_4_1 : ∀ j : Int, bends_0 j = bends_1 j) (hK_0_4 : ∀ j : Int, 0 ≤ j → j < 48 → 0 ≤ bends_0 j ∧ bends_0 j ≤ 24) (hE_0_5_1 : ∀ j : Int, 0 ≤ j → (j = x10 → bendX_0 j = x2) ∧ (j ≠ x10 → bendX_0 j = bendX_1 j)) (hK_0_5 : ∀ j : Int, 0 ≤ j → j < 1152 → (-41000000) ≤ bendX_0 j ∧ bendX_0 j ≤ 1001000000) : 0 ≤ x15 ∧ x15 ≤ 1151 := by
  have e_hE_0_4_1 := funext hE_0_4_1; subst e_hE_0_4_1
  first
    | omega
    | (have q := (hE_0_4_1 x1 (by omega)).1 rfl; rw [q]; omega)
  
def o_Dr_addBend_at_gb_1 : or_T := (33, 16, [(0, (2, 0, 0, [0])), (1, (0, 0, 47, [])), (4, (0, 0, 23, [])), (5, (2, 0, 0, [17])), (8, (2, 0, 0, [16])), (9, (0, 0, 24, [])), (10, (0, 0, 1151, [])), (12, (0, 24, 24, [])), (13, (0, 0, 1128, [])), (14, (0, 0, 24, [])), (15, (0, 0, 1152, []))], [(1, [15, 13, 14], []), (10, [14, 8, 1], []), (9, [8, 0], [4]), (3, [13, 1, 12], []), (20, [0, 1, 4], [30, 0, 1, 2, 4, -1, 0, 0]), (20, [0, 1], [60, 0, 1, 643, 4]), (100, [5, 10, 2], []), (10, [9, 8, 1], []), (9, [5, 0], [5]), (20, [0, 1, 4], [30, 0, 1, 2, 4, -1, 0, 0]), (20, [0, 1], [60, 0, 1, 643, 4])], [(15, (0, 0, 1151, []))], [], [], [], [(15, 14, 0, 1128), (15, 13, 0, 24), (10, 9, 0, 1128)])
theorem oo_Dr_addBend_at_gb_1 {kA : Nat → ClassId} : or_ok PRD kA GG o_Dr_addBend_at_gb_1 := by
  refine or_mk fun A ta ws vs hD hth hl => ?_
  intro t0 r0 t1 k1 t4 k4 t5 r5 t8 r8 t9 k9 t10 k10 t12 k12 t13 k13 t14 k14 t15 k15 d0 d1 d2 f0 f1 f2 f3 f4 f5 ta1 w1 le1 s1 f7 f8 f9 f10
  replace f1 := shm_107 f1
  replace f2 := shm_108 f2
  replace f3 := shm_38 f3
  rw [show v_iv (n_v vs 12) = 24 from by omega] at f3
  have s1 : (∀ b j, w_el ws b j = if b = v_ad (n_v vs 5) ∧ j = (v_iv (n_v vs 10)).toNat then v_iv (n_v vs 2) else w_el w1 b j) ∧ ∀ b k, w_fd ws b k = w_fd w1 b k := s1.2
  replace f7 := shm_107 f7
  replace f8 := shm_110 f8
  replace f9 := shm_109 f9
  replace f10 := shm_342 f10
  have ar_0_4_1 : w_ar w1 (n_v vs 0) 4 = w_ar ws (n_v vs 0) 4 := congrArg v_ad (s1.2 _ _).symm
  have cr_0_4 := fdq_1 hD hth r0
  have ar_0_5_1 : w_ar w1 (n_v vs 0) 5 = w_ar ws (n_v vs 0) 5 := congrArg v_ad (s1.2 _ _).symm
  have cr_0_5 := fdq_2 hD hth r0
  have ad_8 : v_ad (n_v vs 8) = w_ar ws (n_v vs 0) 4 := congrArg v_ad f2
  have ad_5 : v_ad (n_v vs 5) = w_ar ws (n_v vs 0) 5 := (congrArg v_ad f8).trans ar_0_5_1
  simp only [ad_8] at f1
  have h1 : v_iv (n_v vs 14) = w_ei ws (w_ar ws (n_v vs 0) 4) (v_iv (n_v vs 1)) := f1
  simp only [ad_8] at f7
  have h7 : v_iv (n_v vs 9) = w_ei w1 (w_ar ws (n_v vs 0) 4) (v_iv (n_v vs 1)) := f7
  simp only [ar_0_4_1] at f9 f10
  have hE_0_4_1 : ∀ j : Int, w_ei ws (w_ar ws (n_v vs 0) 4) j = w_ei w1 (w_ar ws (n_v vs 0) 4) j := el_kp s1.1 r5 cr_0_4 (by decide)
  have hK_0_4 := elq_0 hD hth cr_0_4
  have hE_0_5_1 : ∀ j : Int, 0 ≤ j → (j = v_iv (n_v vs 10) → w_ei ws (w_ar ws (n_v vs 0) 5) j = v_iv (n_v vs 2)) ∧ (j ≠ v_iv (n_v vs 10) → w_ei ws (w_ar ws (n_v vs 0) 5) j = w_ei w1 (w_ar ws (n_v vs 0) 5) j) := fun j hj => ⟨fun h => by unfold w_ei; rw [s1.1, if_pos ⟨ad_5.symm, by rw [h]⟩], fun h => by unfold w_ei; rw [s1.1, if_neg (fun e => h (by have := e.2; omega))]⟩
  have hK_0_5 := elq_1 hD hth cr_0_5
  have hrf0 : 0 ≤ v_iv (n_v vs 15) ∧ v_iv (n_v vs 15) ≤ 1151 := vc_Dr_addBend_at_gb_1_r0 (v_iv (n_v vs 1)) (v_iv (n_v vs 4)) (v_iv (n_v vs 9)) (v_iv (n_v vs 10)) (v_iv (n_v vs 12)) (v_iv (n_v vs 13)) (v_iv (n_v vs 14)) (v_iv (n_v vs 15)) (w_ei ws (w_ar ws (n_v vs 0) 4)) (w_ei w1 (w_ar ws (n_v vs 0) 4)) (w_ei ws (w_ar ws (n_v vs 0) 5)) (w_ei w1 (w_ar ws (n_v vs 0) 5)) (v_iv (n_v vs 2)) k1 k4 k9 k10 k12 k13 k14 k15 d0 d1 d2 (shm_12 f0) h1 f3 (shm_109 f4) (shm_342 f5) h7 f9 f10 hE_0_4_1 hK_0_4 hE_0_5_1 hK_0_5
  have rf15 : tv_ok ta (0, 0, 1151, []) (n_v vs 15) := tv_in t15 (by first | omega | grind) (by first | omega | grind)
  refine ⟨List.forall_mem_cons.mpr ⟨rf15, (fun _ h => (by cases h))⟩, [], trivial, ?_, (fun _ h => (by cases h))⟩
  rw [List.append_nil]
  exact (fun _ h => (by cases h))
set_option maxHeartbeats 4000000 in
theorem vc_Dr_addBend_at_gb_2_r0 (x1 : Int) (x4 : Int) (x9 : Int) (x10 : Int) (x14 : Int) (x15 : Int) (x16 : Int) (x17 : Int) (x18 : Int) (bends_0 : Int → Int) (bends_1 : Int → Int) (bends_2 : Int → Int) (bendX_0 : Int → Int) (bendX_1 : Int → Int) (bendX_2 : Int → Int) (x2 : Int) (bendY_0 : Int → Int) (bendY_1 : Int → Int) (x3 : Int) (bendY_2 : Int → Int) (k1 : 0 ≤ x1 ∧ x1 ≤ 47) (k4 : 0 ≤ x4 ∧ x4 ≤ 23) (k9 : 0 ≤ x9 ∧ x9 ≤ 24) (k10 : 0 ≤ x10 ∧ x10 ≤ 1151) (k14 : 0 ≤ x14 ∧ x14 ≤ 24) (k15 : 0 ≤ x15 ∧ x15 ≤ 1151) (k16 : 0 ≤ x16 ∧ x16 ≤ 24) (k17 : 1 ≤ x17 ∧ x17 ≤ 1) (k18 : 1 ≤ x18 ∧ x18 ≤ 25) (d0 : x16 + 1 ≤ x18 ∧ x18 ≤ x16 + 1) (d1 : x14 + 0 ≤ x15 ∧ x15 ≤ x14 + 1128) (d2 : x9 + 0 ≤ x10 ∧ x10 ≤ x9 + 1128) (f0 : x18 = x16 + x17) (h1 : x16 = bends_0 (x1)) (f3 : 1 * bends_0 (x1) + ((-1) * x4 + 0) ≤ 0) (f4 : BNZ (bends_0) (x1)) (h6 : x14 = bends_1 (x1)) (f8 : 1 * bends_1 (x1) + ((-1) * x4 + 0) ≤ 0) (f9 : BNZ (bends_1) (x1)) (h11 : x9 = bends_2 (x1)) (f13 : 1 * bends_2 (x1) + ((-1) * x4 + 0) ≤ 0) (f14 : BNZ (bends_2) (x1)) (hE_0_4_1 : ∀ j : Int, bends_0 j = bends_1 j) (hE_0_4_2 : ∀ j : Int, bends_1 j = bends_2 j) (hK_0_4 : ∀ j : Int, 0 ≤ j → j < 48 → 0 ≤ bends_0 j ∧ bends_0 j ≤ 24) (hE_0_5_1 : ∀ j : Int, bendX_0 j = bendX_1 j) (hE_0_5_2 : ∀ j : Int, 0 ≤ j → (j = x10 → bendX_1 j = x2) ∧ (j ≠ x10 → bendX_1 j = bendX_2 j)) (hK_0_5 : ∀ j : Int, 0 ≤ j → j < 1152 → (-41000000) ≤ bendX_0 j ∧ bendX_0 j ≤ 1001000000) (hE_0_6_1 : ∀ j : Int, 0 ≤ j → (j = x15 → bendY_0 j = x3) ∧ (j ≠ x15 → bendY_0 j = bendY_1 j)) (hE_0_6_2 : ∀ j : Int, bendY_1 j = bendY_2 j) (hK_0_6 : ∀ j : Int, 0 ≤ j → j < 1152 → (-41000000) ≤ bendY_0 j ∧ bendY_0 j ≤ 1001000000) : 1 ≤ x18 ∧ x18 ≤ 24 := by
  have e_hE_0_4_1 := funext hE_0_4_1; subst e_hE_0_4_1
  have e_hE_0_4_2 := funext hE_0_4_2; subst e_hE_0_4_2
  have e_hE_0_5_1 := funext hE_0_5_1; subst e_hE_0_5_1
  have e_hE_0_6_2 := funext hE_0_6_2; subst e_hE_0_6_2
  first
    | omega
    | (have q := (hE_0_4_1 x1 (by omega)).1 rfl; rw [q]; omega)
  
def o_Dr_addBend_at_gb_2 : or_T := (43, 19, [(0, (2, 0, 0, [0])), (1, (0, 0, 47, [])), (4, (0, 0, 23, [])), (5, (2, 0, 0, [17])), (8, (2, 0, 0, [16])), (9, (0, 0, 24, [])), (10, (0, 0, 1151, [])), (11, (2, 0, 0, [18])), (14, (0, 0, 24, [])), (15, (0, 0, 1151, [])), (16, (0, 0, 24, [])), (17, (0, 1, 1, [])), (18, (0, 1, 25, []))], [(1, [18, 16, 17], []), (10, [16, 8, 1], []), (9, [8, 0], [4]), (20, [0, 1, 4], [30, 0, 1, 2, 4, -1, 0, 0]), (20, [0, 1], [60, 0, 1, 643, 4]), (100, [11, 15, 3], []), (10, [14, 8, 1], []), (9, [11, 0], [6]), (20, [0, 1, 4], [30, 0, 1, 2, 4, -1, 0, 0]), (20, [0, 1], [60, 0, 1, 643, 4]), (100, [5, 10, 2], []), (10, [9, 8, 1], []), (9, [5, 0], [5]), (20, [0, 1, 4], [30, 0, 1, 2, 4, -1, 0, 0]), (20, [0, 1], [60, 0, 1, 643, 4])], [(18, (0, 1, 24, []))], [], [], [], [(18, 16, 1, 1), (15, 14, 0, 1128), (10, 9, 0, 1128)])
theorem oo_Dr_addBend_at_gb_2 {kA : Nat → ClassId} : or_ok PRD kA GG o_Dr_addBend_at_gb_2 := by
  refine or_mk fun A ta ws vs hD hth hl => ?_
  intro t0 r0 t1 k1 t4 k4 t5 r5 t8 r8 t9 k9 t10 k10 t11 r11 t14 k14 t15 k15 t16 k16 t17 k17 t18 k18 d0 d1 d2 f0 f1 f2 f3 f4 ta1 w1 le1 s1 f6 f7 f8 f9 ta2 w2 le2 s2 f11 f12 f13 f14
  replace f1 := shm_107 f1
  replace f2 := shm_108 f2
  have s1 : (∀ b j, w_el ws b j = if b = v_ad (n_v vs 11) ∧ j = (v_iv (n_v vs 15)).toNat then v_iv (n_v vs 3) else w_el w1 b j) ∧ ∀ b k, w_fd ws b k = w_fd w1 b k := s1.2
  replace f6 := shm_107 f6
  replace f7 := shm_111 f7
  replace f8 := shm_109 f8
  replace f9 := shm_342 f9
  have s2 : (∀ b j, w_el w1 b j = if b = v_ad (n_v vs 5) ∧ j = (v_iv (n_v vs 10)).toNat then v_iv (n_v vs 2) else w_el w2 b j) ∧ ∀ b k, w_fd w1 b k = w_fd w2 b k := s2.2
  replace f11 := shm_107 f11
  replace f12 := shm_110 f12
  replace f13 := shm_109 f13
  replace f14 := shm_342 f14
  have ar_0_4_1 : w_ar w1 (n_v vs 0) 4 = w_ar ws (n_v vs 0) 4 := congrArg v_ad (s1.2 _ _).symm
  have ar_0_4_2 : w_ar w2 (n_v vs 0) 4 = w_ar ws (n_v vs 0) 4 := by rw [← ar_0_4_1]; show v_ad (w_fd w2 _ _) = v_ad (w_fd w1 _ _); rw [s2.2]
  have cr_0_4 := fdq_1 hD hth r0
  have ar_0_5_1 : w_ar w1 (n_v vs 0) 5 = w_ar ws (n_v vs 0) 5 := congrArg v_ad (s1.2 _ _).symm
  have ar_0_5_2 : w_ar w2 (n_v vs 0) 5 = w_ar ws (n_v vs 0) 5 := by rw [← ar_0_5_1]; show v_ad (w_fd w2 _ _) = v_ad (w_fd w1 _ _); rw [s2.2]
  have cr_0_5 := fdq_2 hD hth r0
  have ar_0_6_1 : w_ar w1 (n_v vs 0) 6 = w_ar ws (n_v vs 0) 6 := congrArg v_ad (s1.2 _ _).symm
  have cr_0_6 := fdq_3 hD hth r0
  have ad_8 : v_ad (n_v vs 8) = w_ar ws (n_v vs 0) 4 := congrArg v_ad f2
  have ad_11 : v_ad (n_v vs 11) = w_ar ws (n_v vs 0) 6 := (congrArg v_ad f7).trans ar_0_6_1
  have ad_5 : v_ad (n_v vs 5) = w_ar ws (n_v vs 0) 5 := (congrArg v_ad f12).trans ar_0_5_2
  simp only [ad_8] at f1
  have h1 : v_iv (n_v vs 16) = w_ei ws (w_ar ws (n_v vs 0) 4) (v_iv (n_v vs 1)) := f1
  simp only [ad_8] at f6
  have h6 : v_iv (n_v vs 14) = w_ei w1 (w_ar ws (n_v vs 0) 4) (v_iv (n_v vs 1)) := f6
  simp only [ar_0_4_1, ad_8] at f8 f9 f11
  have h11 : v_iv (n_v vs 9) = w_ei w2 (w_ar ws (n_v vs 0) 4) (v_iv (n_v vs 1)) := f11
  simp only [ar_0_4_2] at f13 f14
  have hE_0_4_1 : ∀ j : Int, w_ei ws (w_ar ws (n_v vs 0) 4) j = w_ei w1 (w_ar ws (n_v vs 0) 4) j := el_kp s1.1 r11 cr_0_4 (by decide)
  have hE_0_4_2 : ∀ j : Int, w_ei w1 (w_ar ws (n_v vs 0) 4) j = w_ei w2 (w_ar ws (n_v vs 0) 4) j := el_kp s2.1 r5 cr_0_4 (by decide)
  have hK_0_4 := elq_0 hD hth cr_0_4
  have hE_0_5_1 : ∀ j : Int, w_ei ws (w_ar ws (n_v vs 0) 5) j = w_ei w1 (w_ar ws (n_v vs 0) 5) j := el_kp s1.1 r11 cr_0_5 (by decide)
  have hE_0_5_2 : ∀ j : Int, 0 ≤ j → (j = v_iv (n_v vs 10) → w_ei w1 (w_ar ws (n_v vs 0) 5) j = v_iv (n_v vs 2)) ∧ (j ≠ v_iv (n_v vs 10) → w_ei w1 (w_ar ws (n_v vs 0) 5) j = w_ei w2 (w_ar ws (n_v vs 0) 5) j) := fun j hj => ⟨fun h => by unfold w_ei; rw [s2.1, if_pos ⟨ad_5.symm, by rw [h]⟩], fun h => by unfold w_ei; rw [s2.1, if_neg (fun e => h (by have := e.2; omega))]⟩
  have hK_0_5 := elq_1 hD hth cr_0_5
  have hE_0_6_1 : ∀ j : Int, 0 ≤ j → (j = v_iv (n_v vs 15) → w_ei ws (w_ar ws (n_v vs 0) 6) j = v_iv (n_v vs 3)) ∧ (j ≠ v_iv (n_v vs 15) → w_ei ws (w_ar ws (n_v vs 0) 6) j = w_ei w1 (w_ar ws (n_v vs 0) 6) j) := fun j hj => ⟨fun h => by unfold w_ei; rw [s1.1, if_pos ⟨ad_11.symm, by rw [h]⟩], fun h => by unfold w_ei; rw [s1.1, if_neg (fun e => h (by have := e.2; omega))]⟩
  have hE_0_6_2 : ∀ j : Int, w_ei w1 (w_ar ws (n_v vs 0) 6) j = w_ei w2 (w_ar ws (n_v vs 0) 6) j := el_kp s2.1 r5 cr_0_6 (by decide)
  have hK_0_6 := elq_2 hD hth cr_0_6
  have hrf0 : 1 ≤ v_iv (n_v vs 18) ∧ v_iv (n_v vs 18) ≤ 24 := vc_Dr_addBend_at_gb_2_r0 (v_iv (n_v vs 1)) (v_iv (n_v vs 4)) (v_iv (n_v vs 9)) (v_iv (n_v vs 10)) (v_iv (n_v vs 14)) (v_iv (n_v vs 15)) (v_iv (n_v vs 16)) (v_iv (n_v vs 17)) (v_iv (n_v vs 18)) (w_ei ws (w_ar ws (n_v vs 0) 4)) (w_ei w1 (w_ar ws (n_v vs 0) 4)) (w_ei w2 (w_ar ws (n_v vs 0) 4)) (w_ei ws (w_ar ws (n_v vs 0) 5)) (w_ei w1 (w_ar ws (n_v vs 0) 5)) (w_ei w2 (w_ar ws (n_v vs 0) 5)) (v_iv (n_v vs 2)) (w_ei ws (w_ar ws (n_v vs 0) 6)) (w_ei w1 (w_ar ws (n_v vs 0) 6)) (v_iv (n_v vs 3)) (w_ei w2 (w_ar ws (n_v vs 0) 6)) k1 k4 k9 k10 k14 k15 k16 k17 k18 d0 d1 d2 (shm_12 f0) h1 (shm_109 f3) (shm_342 f4) h6 f8 f9 h11 f13 f14 hE_0_4_1 hE_0_4_2 hK_0_4 hE_0_5_1 hE_0_5_2 hK_0_5 hE_0_6_1 hE_0_6_2 hK_0_6
  have rf18 : tv_ok ta (0, 1, 24, []) (n_v vs 18) := tv_in t18 (by first | omega | grind) (by first | omega | grind)
  refine ⟨List.forall_mem_cons.mpr ⟨rf18, (fun _ h => (by cases h))⟩, [], trivial, ?_, (fun _ h => (by cases h))⟩
  rw [List.append_nil]
  exact (fun _ h => (by cases h))
set_option maxHeartbeats 4000000 in
theorem vc_Dr_addBend_at_gb_3_0 (x1 : Int) (x4 : Int) (x9 : Int) (x10 : Int) (x14 : Int) (x15 : Int) (x16 : Int) (x17 : Int) (x18 : Int) (bends_1 : Int → Int) (bends_2 : Int → Int) (bends_3 : Int → Int) (bends_0 : Int → Int) (bendX_0 : Int → Int) (bendX_1 : Int → Int) (bendX_2 : Int → Int) (bendX_3 : Int → Int) (x2 : Int) (bendY_0 : Int → Int) (bendY_1 : Int → Int) (bendY_2 : Int → Int) (x3 : Int) (bendY_3 : Int → Int) (k1 : 0 ≤ x1 ∧ x1 ≤ 47) (k4 : 0 ≤ x4 ∧ x4 ≤ 23) (k9 : 0 ≤ x9 ∧ x9 ≤ 24) (k10 : 0 ≤ x10 ∧ x10 ≤ 1151) (k14 : 0 ≤ x14 ∧ x14 ≤ 24) (k15 : 0 ≤ x15 ∧ x15 ≤ 1151) (k16 : 0 ≤ x16 ∧ x16 ≤ 24) (k17 : 1 ≤ x17 ∧ x17 ≤ 1) (k18 : 1 ≤ x18 ∧ x18 ≤ 24) (d0 : x16 + 1 ≤ x18 ∧ x18 ≤ x16 + 1) (d1 : x14 + 0 ≤ x15 ∧ x15 ≤ x14 + 1128) (d2 : x9 + 0 ≤ x10 ∧ x10 ≤ x9 + 1128) (f1 : x18 = x16 + x17) (h2 : x16 = bends_1 (x1)) (f4 : 1 * bends_1 (x1) + ((-1) * x4 + 0) ≤ 0) (f5 : BNZ (bends_1) (x1)) (h7 : x14 = bends_2 (x1)) (f9 : 1 * bends_2 (x1) + ((-1) * x4 + 0) ≤ 0) (f10 : BNZ (bends_2) (x1)) (h12 : x9 = bends_3 (x1)) (f14 : 1 * bends_3 (x1) + ((-1) * x4 + 0) ≤ 0) (f15 : BNZ (bends_3) (x1)) (hE_0_4_1 : ∀ j : Int, 0 ≤ j → (j = x1 → bends_0 j = x18) ∧ (j ≠ x1 → bends_0 j = bends_1 j)) (hE_0_4_2 : ∀ j : Int, bends_1 j = bends_2 j) (hE_0_4_3 : ∀ j : Int, bends_2 j = bends_3 j) (hK_0_4 : ∀ j : Int, 0 ≤ j → j < 48 → 0 ≤ bends_0 j ∧ bends_0 j ≤ 24) (hE_0_5_1 : ∀ j : Int, bendX_0 j = bendX_1 j) (hE_0_5_2 : ∀ j : Int, bendX_1 j = bendX_2 j) (hE_0_5_3 : ∀ j : Int, 0 ≤ j → (j = x10 → bendX_2 j = x2) ∧ (j ≠ x10 → bendX_2 j = bendX_3 j)) (hK_0_5 : ∀ j : Int, 0 ≤ j → j < 1152 → (-41000000) ≤ bendX_0 j ∧ bendX_0 j ≤ 1001000000) (hE_0_6_1 : ∀ j : Int, bendY_0 j = bendY_1 j) (hE_0_6_2 : ∀ j : Int, 0 ≤ j → (j = x15 → bendY_1 j = x3) ∧ (j ≠ x15 → bendY_1 j = bendY_2 j)) (hE_0_6_3 : ∀ j : Int, bendY_2 j = bendY_3 j) (hK_0_6 : ∀ j : Int, 0 ≤ j → j < 1152 → (-41000000) ≤ bendY_0 j ∧ bendY_0 j ≤ 1001000000) : 1 * bends_0 (x1) + ((-1) * x4 + 0) ≤ 1 := by
  have e_hE_0_4_2 := funext hE_0_4_2; subst e_hE_0_4_2
  have e_hE_0_4_3 := funext hE_0_4_3; subst e_hE_0_4_3
  have e_hE_0_5_1 := funext hE_0_5_1; subst e_hE_0_5_1
  have e_hE_0_5_2 := funext hE_0_5_2; subst e_hE_0_5_2
  have e_hE_0_6_1 := funext hE_0_6_1; subst e_hE_0_6_1
  have e_hE_0_6_3 := funext hE_0_6_3; subst e_hE_0_6_3
  first
    | omega
    | (have q := (hE_0_4_1 x1 (by omega)).1 rfl; rw [q]; omega)
  
set_option maxHeartbeats 4000000 in
theorem vc_Dr_addBend_at_gb_3_1 (x1 : Int) (x4 : Int) (x9 : Int) (x10 : Int) (x14 : Int) (x15 : Int) (x16 : Int) (x17 : Int) (x18 : Int) (bends_1 : Int → Int) (bends_2 : Int → Int) (bends_3 : Int → Int) (bends_0 : Int → Int) (bendX_0 : Int → Int) (bendX_1 : Int → Int) (bendX_2 : Int → Int) (bendX_3 : Int → Int) (x2 : Int) (bendY_0 : Int → Int) (bendY_1 : Int → Int) (bendY_2 : Int → Int) (x3 : Int) (bendY_3 : Int → Int) (k1 : 0 ≤ x1 ∧ x1 ≤ 47) (k4 : 0 ≤ x4 ∧ x4 ≤ 23) (k9 : 0 ≤ x9 ∧ x9 ≤ 24) (k10 : 0 ≤ x10 ∧ x10 ≤ 1151) (k14 : 0 ≤ x14 ∧ x14 ≤ 24) (k15 : 0 ≤ x15 ∧ x15 ≤ 1151) (k16 : 0 ≤ x16 ∧ x16 ≤ 24) (k17 : 1 ≤ x17 ∧ x17 ≤ 1) (k18 : 1 ≤ x18 ∧ x18 ≤ 24) (d0 : x16 + 1 ≤ x18 ∧ x18 ≤ x16 + 1) (d1 : x14 + 0 ≤ x15 ∧ x15 ≤ x14 + 1128) (d2 : x9 + 0 ≤ x10 ∧ x10 ≤ x9 + 1128) (f1 : x18 = x16 + x17) (h2 : x16 = bends_1 (x1)) (f4 : 1 * bends_1 (x1) + ((-1) * x4 + 0) ≤ 0) (f5 : BNZ (bends_1) (x1)) (h7 : x14 = bends_2 (x1)) (f9 : 1 * bends_2 (x1) + ((-1) * x4 + 0) ≤ 0) (f10 : BNZ (bends_2) (x1)) (h12 : x9 = bends_3 (x1)) (f14 : 1 * bends_3 (x1) + ((-1) * x4 + 0) ≤ 0) (f15 : BNZ (bends_3) (x1)) (hE_0_4_1 : ∀ j : Int, 0 ≤ j → (j = x1 → bends_0 j = x18) ∧ (j ≠ x1 → bends_0 j = bends_1 j)) (hE_0_4_2 : ∀ j : Int, bends_1 j = bends_2 j) (hE_0_4_3 : ∀ j : Int, bends_2 j = bends_3 j) (hK_0_4 : ∀ j : Int, 0 ≤ j → j < 48 → 0 ≤ bends_0 j ∧ bends_0 j ≤ 24) (hE_0_5_1 : ∀ j : Int, bendX_0 j = bendX_1 j) (hE_0_5_2 : ∀ j : Int, bendX_1 j = bendX_2 j) (hE_0_5_3 : ∀ j : Int, 0 ≤ j → (j = x10 → bendX_2 j = x2) ∧ (j ≠ x10 → bendX_2 j = bendX_3 j)) (hK_0_5 : ∀ j : Int, 0 ≤ j → j < 1152 → (-41000000) ≤ bendX_0 j ∧ bendX_0 j ≤ 1001000000) (hE_0_6_1 : ∀ j : Int, bendY_0 j = bendY_1 j) (hE_0_6_2 : ∀ j : Int, 0 ≤ j → (j = x15 → bendY_1 j = x3) ∧ (j ≠ x15 → bendY_1 j = bendY_2 j)) (hE_0_6_3 : ∀ j : Int, bendY_2 j = bendY_3 j) (hK_0_6 : ∀ j : Int, 0 ≤ j → j < 1152 → (-41000000) ≤ bendY_0 j ∧ bendY_0 j ≤ 1001000000) : BNZ (bends_0) (x1) := by
  have e_hE_0_4_2 := funext hE_0_4_2; subst e_hE_0_4_2
  have e_hE_0_4_3 := funext hE_0_4_3; subst e_hE_0_4_3
  have e_hE_0_5_1 := funext hE_0_5_1; subst e_hE_0_5_1
  have e_hE_0_5_2 := funext hE_0_5_2; subst e_hE_0_5_2
  have e_hE_0_6_1 := funext hE_0_6_1; subst e_hE_0_6_1
  have e_hE_0_6_3 := funext hE_0_6_3; subst e_hE_0_6_3
  first
    | assumption
    | exact bnz_set ‹BNZ _ _› (by assumption) rfl
  
def o_Dr_addBend_at_gb_3 : or_T := (44, 19, [(0, (2, 0, 0, [0])), (1, (0, 0, 47, [])), (4, (0, 0, 23, [])), (5, (2, 0, 0, [17])), (8, (2, 0, 0, [16])), (9, (0, 0, 24, [])), (10, (0, 0, 1151, [])), (11, (2, 0, 0, [18])), (14, (0, 0, 24, [])), (15, (0, 0, 1151, [])), (16, (0, 0, 24, [])), (17, (0, 1, 1, [])), (18, (0, 1, 24, []))], [(100, [8, 1, 18], []), (1, [18, 16, 17], []), (10, [16, 8, 1], []), (9, [8, 0], [4]), (20, [0, 1, 4], [30, 0, 1, 2, 4, -1, 0, 0]), (20, [0, 1], [60, 0, 1, 643, 4]), (100, [11, 15, 3], []), (10, [14, 8, 1], []), (9, [11, 0], [6]), (20, [0, 1, 4], [30, 0, 1, 2, 4, -1, 0, 0]), (20, [0, 1], [60, 0, 1, 643, 4]), (100, [5, 10, 2], []), (10, [9, 8, 1], []), (9, [5, 0], [5]), (20, [0, 1, 4], [30, 0, 1, 2, 4, -1, 0, 0]), (20, [0, 1], [60, 0, 1, 643, 4])], [], [], [(20, [0, 1, 4], [30, 1, 1, 2, 4, -1, 0, 0]), (20, [0, 1], [60, 0, 1, 643, 4])], [], [(18, 16, 1, 1), (15, 14, 0, 1128), (10, 9, 0, 1128)])
theorem oo_Dr_addBend_at_gb_3 {kA : Nat → ClassId} : or_ok PRD kA GG o_Dr_addBend_at_gb_3 := by
  refine or_mk fun A ta ws vs hD hth hl => ?_
  intro t0 r0 t1 k1 t4 k4 t5 r5 t8 r8 t9 k9 t10 k10 t11 r11 t14 k14 t15 k15 t16 k16 t17 k17 t18 k18 d0 d1 d2 ta1 w1 le1 s1 f1 f2 f3 f4 f5 ta2 w2 le2 s2 f7 f8 f9 f10 ta3 w3 le3 s3 f12 f13 f14 f15
  have s1 : (∀ b j, w_el ws b j = if b = v_ad (n_v vs 8) ∧ j = (v_iv (n_v vs 1)).toNat then v_iv (n_v vs 18) else w_el w1 b j) ∧ ∀ b k, w_fd ws b k = w_fd w1 b k := s1.2
  replace f2 := shm_107 f2
  replace f3 := shm_108 f3
  replace f4 := shm_109 f4
  replace f5 := shm_342 f5
  have s2 : (∀ b j, w_el w1 b j = if b = v_ad (n_v vs 11) ∧ j = (v_iv (n_v vs 15)).toNat then v_iv (n_v vs 3) else w_el w2 b j) ∧ ∀ b k, w_fd w1 b k = w_fd w2 b k := s2.2
  replace f7 := shm_107 f7
  replace f8 := shm_111 f8
  replace f9 := shm_109 f9
  replace f10 := shm_342 f10
  have s3 : (∀ b j, w_el w2 b j = if b = v_ad (n_v vs 5) ∧ j = (v_iv (n_v vs 10)).toNat then v_iv (n_v vs 2) else w_el w3 b j) ∧ ∀ b k, w_fd w2 b k = w_fd w3 b k := s3.2
  replace f12 := shm_107 f12
  replace f13 := shm_110 f13
  replace f14 := shm_109 f14
  replace f15 := shm_342 f15
  have ar_0_4_1 : w_ar w1 (n_v vs 0) 4 = w_ar ws (n_v vs 0) 4 := congrArg v_ad (s1.2 _ _).symm
  have ar_0_4_2 : w_ar w2 (n_v vs 0) 4 = w_ar ws (n_v vs 0) 4 := by rw [← ar_0_4_1]; show v_ad (w_fd w2 _ _) = v_ad (w_fd w1 _ _); rw [s2.2]
  have ar_0_4_3 : w_ar w3 (n_v vs 0) 4 = w_ar ws (n_v vs 0) 4 := by rw [← ar_0_4_2]; show v_ad (w_fd w3 _ _) = v_ad (w_fd w2 _ _); rw [s3.2]
  have cr_0_4 := fdq_1 hD hth r0
  have ar_0_5_1 : w_ar w1 (n_v vs 0) 5 = w_ar ws (n_v vs 0) 5 := congrArg v_ad (s1.2 _ _).symm
  have ar_0_5_2 : w_ar w2 (n_v vs 0) 5 = w_ar ws (n_v vs 0) 5 := by rw [← ar_0_5_1]; show v_ad (w_fd w2 _ _) = v_ad (w_fd w1 _ _); rw [s2.2]
  have ar_0_5_3 : w_ar w3 (n_v vs 0) 5 = w_ar ws (n_v vs 0) 5 := by rw [← ar_0_5_2]; show v_ad (w_fd w3 _ _) = v_ad (w_fd w2 _ _); rw [s3.2]
  have cr_0_5 := fdq_2 hD hth r0
  have ar_0_6_1 : w_ar w1 (n_v vs 0) 6 = w_ar ws (n_v vs 0) 6 := congrArg v_ad (s1.2 _ _).symm
  have ar_0_6_2 : w_ar w2 (n_v vs 0) 6 = w_ar ws (n_v vs 0) 6 := by rw [← ar_0_6_1]; show v_ad (w_fd w2 _ _) = v_ad (w_fd w1 _ _); rw [s2.2]
  have cr_0_6 := fdq_3 hD hth r0
  have ad_8 : v_ad (n_v vs 8) = w_ar ws (n_v vs 0) 4 := (congrArg v_ad f3).trans ar_0_4_1
  have ad_11 : v_ad (n_v vs 11) = w_ar ws (n_v vs 0) 6 := (congrArg v_ad f8).trans ar_0_6_2
  have ad_5 : v_ad (n_v vs 5) = w_ar ws (n_v vs 0) 5 := (congrArg v_ad f13).trans ar_0_5_3
  simp only [ad_8] at f2
  have h2 : v_iv (n_v vs 16) = w_ei w1 (w_ar ws (n_v vs 0) 4) (v_iv (n_v vs 1)) := f2
  simp only [ar_0_4_1, ad_8] at f4 f5 f7
  have h7 : v_iv (n_v vs 14) = w_ei w2 (w_ar ws (n_v vs 0) 4) (v_iv (n_v vs 1)) := f7
  simp only [ar_0_4_2, ad_8] at f9 f10 f12
  have h12 : v_iv (n_v vs 9) = w_ei w3 (w_ar ws (n_v vs 0) 4) (v_iv (n_v vs 1)) := f12
  simp only [ar_0_4_3] at f14 f15
  have hE_0_4_1 : ∀ j : Int, 0 ≤ j → (j = v_iv (n_v vs 1) → w_ei ws (w_ar ws (n_v vs 0) 4) j = v_iv (n_v vs 18)) ∧ (j ≠ v_iv (n_v vs 1) → w_ei ws (w_ar ws (n_v vs 0) 4) j = w_ei w1 (w_ar ws (n_v vs 0) 4) j) := fun j hj => ⟨fun h => by unfold w_ei; rw [s1.1, if_pos ⟨ad_8.symm, by rw [h]⟩], fun h => by unfold w_ei; rw [s1.1, if_neg (fun e => h (by have := e.2; omega))]⟩
  have hE_0_4_2 : ∀ j : Int, w_ei w1 (w_ar ws (n_v vs 0) 4) j = w_ei w2 (w_ar ws (n_v vs 0) 4) j := el_kp s2.1 r11 cr_0_4 (by decide)
  have hE_0_4_3 : ∀ j : Int, w_ei w2 (w_ar ws (n_v vs 0) 4) j = w_ei w3 (w_ar ws (n_v vs 0) 4) j := el_kp s3.1 r5 cr_0_4 (by decide)
  have hK_0_4 := elq_0 hD hth cr_0_4
  have hE_0_5_1 : ∀ j : Int, w_ei ws (w_ar ws (n_v vs 0) 5) j = w_ei w1 (w_ar ws (n_v vs 0) 5) j := el_kp s1.1 r8 cr_0_5 (by decide)
  have hE_0_5_2 : ∀ j : Int, w_ei w1 (w_ar ws (n_v vs 0) 5) j = w_ei w2 (w_ar ws (n_v vs 0) 5) j := el_kp s2.1 r11 cr_0_5 (by decide)
  have hE_0_5_3 : ∀ j : Int, 0 ≤ j → (j = v_iv (n_v vs 10) → w_ei w2 (w_ar ws (n_v vs 0) 5) j = v_iv (n_v vs 2)) ∧ (j ≠ v_iv (n_v vs 10) → w_ei w2 (w_ar ws (n_v vs 0) 5) j = w_ei w3 (w_ar ws (n_v vs 0) 5) j) := fun j hj => ⟨fun h => by unfold w_ei; rw [s3.1, if_pos ⟨ad_5.symm, by rw [h]⟩], fun h => by unfold w_ei; rw [s3.1, if_neg (fun e => h (by have := e.2; omega))]⟩
  have hK_0_5 := elq_1 hD hth cr_0_5
  have hE_0_6_1 : ∀ j : Int, w_ei ws (w_ar ws (n_v vs 0) 6) j = w_ei w1 (w_ar ws (n_v vs 0) 6) j := el_kp s1.1 r8 cr_0_6 (by decide)
  have hE_0_6_2 : ∀ j : Int, 0 ≤ j → (j = v_iv (n_v vs 15) → w_ei w1 (w_ar ws (n_v vs 0) 6) j = v_iv (n_v vs 3)) ∧ (j ≠ v_iv (n_v vs 15) → w_ei w1 (w_ar ws (n_v vs 0) 6) j = w_ei w2 (w_ar ws (n_v vs 0) 6) j) := fun j hj => ⟨fun h => by unfold w_ei; rw [s2.1, if_pos ⟨ad_11.symm, by rw [h]⟩], fun h => by unfold w_ei; rw [s2.1, if_neg (fun e => h (by have := e.2; omega))]⟩
  have hE_0_6_3 : ∀ j : Int, w_ei w2 (w_ar ws (n_v vs 0) 6) j = w_ei w3 (w_ar ws (n_v vs 0) 6) j := el_kp s3.1 r5 cr_0_6 (by decide)
  have hK_0_6 := elq_2 hD hth cr_0_6
  have nf0 : fc_1 PRD (20, [0, 1, 4], [30, 1, 1, 2, 4, -1, 0, 0]) ws (vs) := ⟨nf_in hl rfl, sgq_112 (vc_Dr_addBend_at_gb_3_0 (v_iv (n_v vs 1)) (v_iv (n_v vs 4)) (v_iv (n_v vs 9)) (v_iv (n_v vs 10)) (v_iv (n_v vs 14)) (v_iv (n_v vs 15)) (v_iv (n_v vs 16)) (v_iv (n_v vs 17)) (v_iv (n_v vs 18)) (w_ei w1 (w_ar ws (n_v vs 0) 4)) (w_ei w2 (w_ar ws (n_v vs 0) 4)) (w_ei w3 (w_ar ws (n_v vs 0) 4)) (w_ei ws (w_ar ws (n_v vs 0) 4)) (w_ei ws (w_ar ws (n_v vs 0) 5)) (w_ei w1 (w_ar ws (n_v vs 0) 5)) (w_ei w2 (w_ar ws (n_v vs 0) 5)) (w_ei w3 (w_ar ws (n_v vs 0) 5)) (v_iv (n_v vs 2)) (w_ei ws (w_ar ws (n_v vs 0) 6)) (w_ei w1 (w_ar ws (n_v vs 0) 6)) (w_ei w2 (w_ar ws (n_v vs 0) 6)) (v_iv (n_v vs 3)) (w_ei w3 (w_ar ws (n_v vs 0) 6)) k1 k4 k9 k10 k14 k15 k16 k17 k18 d0 d1 d2 (shm_12 f1) h2 f4 f5 h7 f9 f10 h12 f14 f15 hE_0_4_1 hE_0_4_2 hE_0_4_3 hK_0_4 hE_0_5_1 hE_0_5_2 hE_0_5_3 hK_0_5 hE_0_6_1 hE_0_6_2 hE_0_6_3 hK_0_6)⟩
  have nf1 : fc_1 PRD (20, [0, 1], [60, 0, 1, 643, 4]) ws (vs) := ⟨nf_in hl rfl, sgq_342 (vc_Dr_addBend_at_gb_3_1 (v_iv (n_v vs 1)) (v_iv (n_v vs 4)) (v_iv (n_v vs 9)) (v_iv (n_v vs 10)) (v_iv (n_v vs 14)) (v_iv (n_v vs 15)) (v_iv (n_v vs 16)) (v_iv (n_v vs 17)) (v_iv (n_v vs 18)) (w_ei w1 (w_ar ws (n_v vs 0) 4)) (w_ei w2 (w_ar ws (n_v vs 0) 4)) (w_ei w3 (w_ar ws (n_v vs 0) 4)) (w_ei ws (w_ar ws (n_v vs 0) 4)) (w_ei ws (w_ar ws (n_v vs 0) 5)) (w_ei w1 (w_ar ws (n_v vs 0) 5)) (w_ei w2 (w_ar ws (n_v vs 0) 5)) (w_ei w3 (w_ar ws (n_v vs 0) 5)) (v_iv (n_v vs 2)) (w_ei ws (w_ar ws (n_v vs 0) 6)) (w_ei w1 (w_ar ws (n_v vs 0) 6)) (w_ei w2 (w_ar ws (n_v vs 0) 6)) (v_iv (n_v vs 3)) (w_ei w3 (w_ar ws (n_v vs 0) 6)) k1 k4 k9 k10 k14 k15 k16 k17 k18 d0 d1 d2 (shm_12 f1) h2 f4 f5 h7 f9 f10 h12 f14 f15 hE_0_4_1 hE_0_4_2 hE_0_4_3 hK_0_4 hE_0_5_1 hE_0_5_2 hE_0_5_3 hK_0_5 hE_0_6_1 hE_0_6_2 hE_0_6_3 hK_0_6)⟩
  refine ⟨(fun _ h => (by cases h)), [], trivial, ?_, (fun _ h => (by cases h))⟩
  rw [List.append_nil]
  exact List.forall_mem_cons.mpr ⟨⟨show (20 : Nat) < 100 from by decide, nf0⟩, List.forall_mem_cons.mpr ⟨⟨show (20 : Nat) < 100 from by decide, nf1⟩, (fun _ h => (by cases h))⟩⟩
def n_Dr_addBend_at_gb_an : List an_T := []
def t_Dr_addBend_at_gb_ct : ct_L := []
set_option maxRecDepth 100000 in
theorem c_Dr_addBend_at_gb {l : Launch} {D : va_G} {kA : Nat → ClassId} : ct_ok PRD l D kA GG y_Dr_addBend_at_gb z_Dr_addBend_at_gb e_Dr_addBend_at_gb := chk_all_ok (FT := [(22, 0, 4), (25, 0, 5), (28, 0, 6)]) (PT := []) (CT := t_Dr_addBend_at_gb_ct) (KT := []) (NT := []) (AN := n_Dr_addBend_at_gb_an) (OT := [o_Dr_addBend_at_gb_0, o_Dr_addBend_at_gb_1, o_Dr_addBend_at_gb_2, o_Dr_addBend_at_gb_3]) 0 200 (List.forall_mem_cons.mpr ⟨oo_Dr_addBend_at_gb_0, List.forall_mem_cons.mpr ⟨oo_Dr_addBend_at_gb_1, List.forall_mem_cons.mpr ⟨oo_Dr_addBend_at_gb_2, List.forall_mem_cons.mpr ⟨oo_Dr_addBend_at_gb_3, List.forall_mem_nil _⟩⟩⟩⟩) (by decide +kernel) ⟨List.forall_mem_cons.mpr ⟨gf_Dr_22, List.forall_mem_cons.mpr ⟨gf_Dr_25, List.forall_mem_cons.mpr ⟨gf_Dr_28, List.forall_mem_nil _⟩⟩⟩, List.forall_mem_nil _, List.forall_mem_nil _, List.forall_mem_nil _, List.forall_mem_nil _, GG_pl⟩ (by decide +kernel)
set_option maxHeartbeats 4000000 in
theorem vc_Dr_addBend_at_gl_0_r0 (x1 : Int) (x4 : Int) (x6 : Int) (x7 : Int) (x9 : Int) (x10 : Int) (bends_0 : Int → Int) (k1 : 0 ≤ x1 ∧ x1 ≤ 47) (k4 : 0 ≤ x4 ∧ x4 ≤ 23) (k6 : 24 ≤ x6 ∧ x6 ≤ 24) (k7 : 0 ≤ x7 ∧ x7 ≤ 1128) (k9 : 0 ≤ x9 ∧ x9 ≤ 24) (k10 : 0 ≤ x10 ∧ x10 ≤ 1152) (d0 : x9 + 0 ≤ x10 ∧ x10 ≤ x9 + 1128) (d1 : x7 + 0 ≤ x10 ∧ x10 ≤ x7 + 24) (f0 : x10 = x7 + x9) (h1 : x9 = bends_0 (x1)) (f3 : x7 = x1 * 24) (f4 : 1 * bends_0 (x1) + ((-1) * x4 + 0) ≤ 0) (f5 : BNZ (bends_0) (x1)) (hK_0_4 : ∀ j : Int, 0 ≤ j → j < 48 → 0 ≤ bends_0 j ∧ bends_0 j ≤ 24) : 0 ≤ x10 ∧ x10 ≤ 1151 := by
  first
    | omega
    | (have q := (hE_0_4_1 x1 (by omega)).1 rfl; rw [q]; omega)
  
def o_Dr_addBend_at_gl_0 : or_T := (16, 11, [(0, (2, 0, 0, [0])), (1, (0, 0, 47, [])), (4, (0, 0, 23, [])), (6, (0, 24, 24, [])), (7, (0, 0, 1128, [])), (8, (2, 0, 0, [16])), (9, (0, 0, 24, [])), (10, (0, 0, 1152, []))], [(1, [10, 7, 9], []), (10, [9, 8, 1], []), (9, [8, 0], [4]), (3, [7, 1, 6], []), (20, [0, 1, 4], [30, 0, 1, 2, 4, -1, 0, 0]), (20, [0, 1], [60, 0, 1, 643, 4])], [(10, (0, 0, 1151, []))], [], [], [], [(10, 9, 0, 1128), (10, 7, 0, 24)])
theorem oo_Dr_addBend_at_gl_0 {kA : Nat → ClassId} : or_ok PRD kA GG o_Dr_addBend_at_gl_0 := by
  refine or_mk fun A ta ws vs hD hth hl => ?_
  intro t0 r0 t1 k1 t4 k4 t6 k6 t7 k7 t8 r8 t9 k9 t10 k10 d0 d1 f0 f1 f2 f3 f4 f5
  replace f1 := shm_107 f1
  replace f2 := shm_108 f2
  replace f3 := shm_38 f3
  rw [show v_iv (n_v vs 6) = 24 from by omega] at f3
  have cr_0_4 := fdq_1 hD hth r0
  have ad_8 : v_ad (n_v vs 8) = w_ar ws (n_v vs 0) 4 := congrArg v_ad f2
  simp only [ad_8] at f1
  have h1 : v_iv (n_v vs 9) = w_ei ws (w_ar ws (n_v vs 0) 4) (v_iv (n_v vs 1)) := f1
  have hK_0_4 := elq_0 hD hth cr_0_4
  have hrf0 : 0 ≤ v_iv (n_v vs 10) ∧ v_iv (n_v vs 10) ≤ 1151 := vc_Dr_addBend_at_gl_0_r0 (v_iv (n_v vs 1)) (v_iv (n_v vs 4)) (v_iv (n_v vs 6)) (v_iv (n_v vs 7)) (v_iv (n_v vs 9)) (v_iv (n_v vs 10)) (w_ei ws (w_ar ws (n_v vs 0) 4)) k1 k4 k6 k7 k9 k10 d0 d1 (shm_12 f0) h1 f3 (shm_109 f4) (shm_342 f5) hK_0_4
  have rf10 : tv_ok ta (0, 0, 1151, []) (n_v vs 10) := tv_in t10 (by first | omega | grind) (by first | omega | grind)
  refine ⟨List.forall_mem_cons.mpr ⟨rf10, (fun _ h => (by cases h))⟩, [], trivial, ?_, (fun _ h => (by cases h))⟩
  rw [List.append_nil]
  exact (fun _ h => (by cases h))
set_option maxHeartbeats 4000000 in
theorem vc_Dr_addBend_at_gl_1_r0 (x1 : Int) (x4 : Int) (x9 : Int) (x10 : Int) (x12 : Int) (x13 : Int) (x14 : Int) (x15 : Int) (bends_0 : Int → Int) (bends_1 : Int → Int) (bendX_0 : Int → Int) (bendX_1 : Int → Int) (x2 : Int) (k1 : 0 ≤ x1 ∧ x1 ≤ 47) (k4 : 0 ≤ x4 ∧ x4 ≤ 23) (k9 : 0 ≤ x9 ∧ x9 ≤ 24) (k10 : 0 ≤ x10 ∧ x10 ≤ 1151) (k12 : 24 ≤ x12 ∧ x12 ≤ 24) (k13 : 0 ≤ x13 ∧ x13 ≤ 1128) (k14 : 0 ≤ x14 ∧ x14 ≤ 24) (k15 : 0 ≤ x15 ∧ x15 ≤ 1152) (d0 : x14 + 0 ≤ x15 ∧ x15 ≤ x14 + 1128) (d1 : x13 + 0 ≤ x15 ∧ x15 ≤ x13 + 24) (d2 : x9 + 0 ≤ x10 ∧ x10 ≤ x9 + 1128) (f0 : x15 = x13 + x14) (h1 : x14 = bends_0 (x1)) (f3 : x13 = x1 * 24) (f4 : 1 * bends_0 (x1) + ((-1) * x4 + 0) ≤ 0) (f5 : BNZ (bends_0) (x1)) (h7 : x9 = bends_1 (x1)) (f9 : 1 * bends_1 (x1) + ((-1) * x4 + 0) ≤ 0) (f10 : BNZ (bends_1) (x1)) (hE_0_4_1 : ∀ j : Int, bends_0 j = bends_1 j) (hK_0_4 : ∀ j : Int, 0 ≤ j → j < 48 → 0 ≤ bends_0 j ∧ bends_0 j ≤ 24) (hE_0_5_1 : ∀ j : Int, 0 ≤ j → (j = x10 → bendX_0 j = x2) ∧ (j ≠ x10 → bendX_0 j = bendX_1 j)) (hK_0_5 : ∀ j : Int, 0 ≤ j → j < 1152 → (-41000000) ≤ bendX_0 j ∧ bendX_0 j ≤ 1001000000) : 0 ≤ x15 ∧ x15 ≤ 1151 := by
  have e_hE_0_4_1 := funext hE_0_4_1; subst e_hE_0_4_1
  first
    | omega
    | (have q := (hE_0_4_1 x1 (by omega)).1 rfl; rw [q]; omega)
  
def o_Dr_addBend_at_gl_1 : or_T := (33, 16, [(0, (2, 0, 0, [0])), (1, (0, 0, 47, [])), (4, (0, 0, 23, [])), (5, (2, 0, 0, [17])), (8, (2, 0, 0, [16])), (9, (0, 0, 24, [])), (10, (0, 0, 1151, [])), (12, (0, 24, 24, [])), (13, (0, 0, 1128, [])), (14, (0, 0, 24, [])), (15, (0, 0, 1152, []))], [(1, [15, 13, 14], []), (10, [14, 8, 1], []), (9, [8, 0], [4]), (3, [13, 1, 12], []), (20, [0, 1, 4], [30, 0, 1, 2, 4, -1, 0, 0]), (20, [0, 1], [60, 0, 1, 643, 4]), (100, [5, 10, 2], []), (10, [9, 8, 1], []), (9, [5, 0], [5]), (20, [0, 1, 4], [30, 0, 1, 2, 4, -1, 0, 0]), (20, [0, 1], [60, 0, 1, 643, 4])], [(15, (0, 0, 1151, []))], [], [], [], [(15, 14, 0, 1128), (15, 13, 0, 24), (10, 9, 0, 1128)])
theorem oo_Dr_addBend_at_gl_1 {kA : Nat → ClassId} : or_ok PRD kA GG o_Dr_addBend_at_gl_1 := by
  refine or_mk fun A ta ws vs hD hth hl => ?_
  intro t0 r0 t1 k1 t4 k4 t5 r5 t8 r8 t9 k9 t10 k10 t12 k12 t13 k13 t14 k14 t15 k15 d0 d1 d2 f0 f1 f2 f3 f4 f5 ta1 w1 le1 s1 f7 f8 f9 f10
  replace f1 := shm_107 f1
  replace f2 := shm_108 f2
  replace f3 := shm_38 f3
  rw [show v_iv (n_v vs 12) = 24 from by omega] at f3
  have s1 : (∀ b j, w_el ws b j = if b = v_ad (n_v vs 5) ∧ j = (v_iv (n_v vs 10)).toNat then v_iv (n_v vs 2) else w_el w1 b j) ∧ ∀ b k, w_fd ws b k = w_fd w1 b k := s1.2
  replace f7 := shm_107 f7
  replace f8 := shm_110 f8
  replace f9 := shm_109 f9
  replace f10 := shm_342 f10
  have ar_0_4_1 : w_ar w1 (n_v vs 0) 4 = w_ar ws (n_v vs 0) 4 := congrArg v_ad (s1.2 _ _).symm
  have cr_0_4 := fdq_1 hD hth r0
  have ar_0_5_1 : w_ar w1 (n_v vs 0) 5 = w_ar ws (n_v vs 0) 5 := congrArg v_ad (s1.2 _ _).symm
  have cr_0_5 := fdq_2 hD hth r0
  have ad_8 : v_ad (n_v vs 8) = w_ar ws (n_v vs 0) 4 := congrArg v_ad f2
  have ad_5 : v_ad (n_v vs 5) = w_ar ws (n_v vs 0) 5 := (congrArg v_ad f8).trans ar_0_5_1
  simp only [ad_8] at f1
  have h1 : v_iv (n_v vs 14) = w_ei ws (w_ar ws (n_v vs 0) 4) (v_iv (n_v vs 1)) := f1
  simp only [ad_8] at f7
  have h7 : v_iv (n_v vs 9) = w_ei w1 (w_ar ws (n_v vs 0) 4) (v_iv (n_v vs 1)) := f7
  simp only [ar_0_4_1] at f9 f10
  have hE_0_4_1 : ∀ j : Int, w_ei ws (w_ar ws (n_v vs 0) 4) j = w_ei w1 (w_ar ws (n_v vs 0) 4) j := el_kp s1.1 r5 cr_0_4 (by decide)
  have hK_0_4 := elq_0 hD hth cr_0_4
  have hE_0_5_1 : ∀ j : Int, 0 ≤ j → (j = v_iv (n_v vs 10) → w_ei ws (w_ar ws (n_v vs 0) 5) j = v_iv (n_v vs 2)) ∧ (j ≠ v_iv (n_v vs 10) → w_ei ws (w_ar ws (n_v vs 0) 5) j = w_ei w1 (w_ar ws (n_v vs 0) 5) j) := fun j hj => ⟨fun h => by unfold w_ei; rw [s1.1, if_pos ⟨ad_5.symm, by rw [h]⟩], fun h => by unfold w_ei; rw [s1.1, if_neg (fun e => h (by have := e.2; omega))]⟩
  have hK_0_5 := elq_1 hD hth cr_0_5
  have hrf0 : 0 ≤ v_iv (n_v vs 15) ∧ v_iv (n_v vs 15) ≤ 1151 := vc_Dr_addBend_at_gl_1_r0 (v_iv (n_v vs 1)) (v_iv (n_v vs 4)) (v_iv (n_v vs 9)) (v_iv (n_v vs 10)) (v_iv (n_v vs 12)) (v_iv (n_v vs 13)) (v_iv (n_v vs 14)) (v_iv (n_v vs 15)) (w_ei ws (w_ar ws (n_v vs 0) 4)) (w_ei w1 (w_ar ws (n_v vs 0) 4)) (w_ei ws (w_ar ws (n_v vs 0) 5)) (w_ei w1 (w_ar ws (n_v vs 0) 5)) (v_iv (n_v vs 2)) k1 k4 k9 k10 k12 k13 k14 k15 d0 d1 d2 (shm_12 f0) h1 f3 (shm_109 f4) (shm_342 f5) h7 f9 f10 hE_0_4_1 hK_0_4 hE_0_5_1 hK_0_5
  have rf15 : tv_ok ta (0, 0, 1151, []) (n_v vs 15) := tv_in t15 (by first | omega | grind) (by first | omega | grind)
  refine ⟨List.forall_mem_cons.mpr ⟨rf15, (fun _ h => (by cases h))⟩, [], trivial, ?_, (fun _ h => (by cases h))⟩
  rw [List.append_nil]
  exact (fun _ h => (by cases h))
set_option maxHeartbeats 4000000 in
theorem vc_Dr_addBend_at_gl_2_r0 (x1 : Int) (x4 : Int) (x9 : Int) (x10 : Int) (x14 : Int) (x15 : Int) (x16 : Int) (x17 : Int) (x18 : Int) (bends_0 : Int → Int) (bends_1 : Int → Int) (bends_2 : Int → Int) (bendX_0 : Int → Int) (bendX_1 : Int → Int) (bendX_2 : Int → Int) (x2 : Int) (bendY_0 : Int → Int) (bendY_1 : Int → Int) (x3 : Int) (bendY_2 : Int → Int) (k1 : 0 ≤ x1 ∧ x1 ≤ 47) (k4 : 0 ≤ x4 ∧ x4 ≤ 23) (k9 : 0 ≤ x9 ∧ x9 ≤ 24) (k10 : 0 ≤ x10 ∧ x10 ≤ 1151) (k14 : 0 ≤ x14 ∧ x14 ≤ 24) (k15 : 0 ≤ x15 ∧ x15 ≤ 1151) (k16 : 0 ≤ x16 ∧ x16 ≤ 24) (k17 : 1 ≤ x17 ∧ x17 ≤ 1) (k18 : 1 ≤ x18 ∧ x18 ≤ 25) (d0 : x16 + 1 ≤ x18 ∧ x18 ≤ x16 + 1) (d1 : x14 + 0 ≤ x15 ∧ x15 ≤ x14 + 1128) (d2 : x9 + 0 ≤ x10 ∧ x10 ≤ x9 + 1128) (f0 : x18 = x16 + x17) (h1 : x16 = bends_0 (x1)) (f3 : 1 * bends_0 (x1) + ((-1) * x4 + 0) ≤ 0) (f4 : BNZ (bends_0) (x1)) (h6 : x14 = bends_1 (x1)) (f8 : 1 * bends_1 (x1) + ((-1) * x4 + 0) ≤ 0) (f9 : BNZ (bends_1) (x1)) (h11 : x9 = bends_2 (x1)) (f13 : 1 * bends_2 (x1) + ((-1) * x4 + 0) ≤ 0) (f14 : BNZ (bends_2) (x1)) (hE_0_4_1 : ∀ j : Int, bends_0 j = bends_1 j) (hE_0_4_2 : ∀ j : Int, bends_1 j = bends_2 j) (hK_0_4 : ∀ j : Int, 0 ≤ j → j < 48 → 0 ≤ bends_0 j ∧ bends_0 j ≤ 24) (hE_0_5_1 : ∀ j : Int, bendX_0 j = bendX_1 j) (hE_0_5_2 : ∀ j : Int, 0 ≤ j → (j = x10 → bendX_1 j = x2) ∧ (j ≠ x10 → bendX_1 j = bendX_2 j)) (hK_0_5 : ∀ j : Int, 0 ≤ j → j < 1152 → (-41000000) ≤ bendX_0 j ∧ bendX_0 j ≤ 1001000000) (hE_0_6_1 : ∀ j : Int, 0 ≤ j → (j = x15 → bendY_0 j = x3) ∧ (j ≠ x15 → bendY_0 j = bendY_1 j)) (hE_0_6_2 : ∀ j : Int, bendY_1 j = bendY_2 j) (hK_0_6 : ∀ j : Int, 0 ≤ j → j < 1152 → (-41000000) ≤ bendY_0 j ∧ bendY_0 j ≤ 1001000000) : 1 ≤ x18 ∧ x18 ≤ 24 := by
  have e_hE_0_4_1 := funext hE_0_4_1; subst e_hE_0_4_1
  have e_hE_0_4_2 := funext hE_0_4_2; subst e_hE_0_4_2
  have e_hE_0_5_1 := funext hE_0_5_1; subst e_hE_0_5_1
  have e_hE_0_6_2 := funext hE_0_6_2; subst e_hE_0_6_2
  first
    | omega
    | (have q := (hE_0_4_1 x1 (by omega)).1 rfl; rw [q]; omega)
  
def o_Dr_addBend_at_gl_2 : or_T := (43, 19, [(0, (2, 0, 0, [0])), (1, (0, 0, 47, [])), (4, (0, 0, 23, [])), (5, (2, 0, 0, [17])), (8, (2, 0, 0, [16])), (9, (0, 0, 24, [])), (10, (0, 0, 1151, [])), (11, (2, 0, 0, [18])), (14, (0, 0, 24, [])), (15, (0, 0, 1151, [])), (16, (0, 0, 24, [])), (17, (0, 1, 1, [])), (18, (0, 1, 25, []))], [(1, [18, 16, 17], []), (10, [16, 8, 1], []), (9, [8, 0], [4]), (20, [0, 1, 4], [30, 0, 1, 2, 4, -1, 0, 0]), (20, [0, 1], [60, 0, 1, 643, 4]), (100, [11, 15, 3], []), (10, [14, 8, 1], []), (9, [11, 0], [6]), (20, [0, 1, 4], [30, 0, 1, 2, 4, -1, 0, 0]), (20, [0, 1], [60, 0, 1, 643, 4]), (100, [5, 10, 2], []), (10, [9, 8, 1], []), (9, [5, 0], [5]), (20, [0, 1, 4], [30, 0, 1, 2, 4, -1, 0, 0]), (20, [0, 1], [60, 0, 1, 643, 4])], [(18, (0, 1, 24, []))], [], [], [], [(18, 16, 1, 1), (15, 14, 0, 1128), (10, 9, 0, 1128)])
theorem oo_Dr_addBend_at_gl_2 {kA : Nat → ClassId} : or_ok PRD kA GG o_Dr_addBend_at_gl_2 := by
  refine or_mk fun A ta ws vs hD hth hl => ?_
  intro t0 r0 t1 k1 t4 k4 t5 r5 t8 r8 t9 k9 t10 k10 t11 r11 t14 k14 t15 k15 t16 k16 t17 k17 t18 k18 d0 d1 d2 f0 f1 f2 f3 f4 ta1 w1 le1 s1 f6 f7 f8 f9 ta2 w2 le2 s2 f11 f12 f13 f14
  replace f1 := shm_107 f1
  replace f2 := shm_108 f2
  have s1 : (∀ b j, w_el ws b j = if b = v_ad (n_v vs 11) ∧ j = (v_iv (n_v vs 15)).toNat then v_iv (n_v vs 3) else w_el w1 b j) ∧ ∀ b k, w_fd ws b k = w_fd w1 b k := s1.2
  replace f6 := shm_107 f6
  replace f7 := shm_111 f7
  replace f8 := shm_109 f8
  replace f9 := shm_342 f9
  have s2 : (∀ b j, w_el w1 b j = if b = v_ad (n_v vs 5) ∧ j = (v_iv (n_v vs 10)).toNat then v_iv (n_v vs 2) else w_el w2 b j) ∧ ∀ b k, w_fd w1 b k = w_fd w2 b k := s2.2
  replace f11 := shm_107 f11
  replace f12 := shm_110 f12
  replace f13 := shm_109 f13
  replace f14 := shm_342 f14
  have ar_0_4_1 : w_ar w1 (n_v vs 0) 4 = w_ar ws (n_v vs 0) 4 := congrArg v_ad (s1.2 _ _).symm
  have ar_0_4_2 : w_ar w2 (n_v vs 0) 4 = w_ar ws (n_v vs 0) 4 := by rw [← ar_0_4_1]; show v_ad (w_fd w2 _ _) = v_ad (w_fd w1 _ _); rw [s2.2]
  have cr_0_4 := fdq_1 hD hth r0
  have ar_0_5_1 : w_ar w1 (n_v vs 0) 5 = w_ar ws (n_v vs 0) 5 := congrArg v_ad (s1.2 _ _).symm
  have ar_0_5_2 : w_ar w2 (n_v vs 0) 5 = w_ar ws (n_v vs 0) 5 := by rw [← ar_0_5_1]; show v_ad (w_fd w2 _ _) = v_ad (w_fd w1 _ _); rw [s2.2]
  have cr_0_5 := fdq_2 hD hth r0
  have ar_0_6_1 : w_ar w1 (n_v vs 0) 6 = w_ar ws (n_v vs 0) 6 := congrArg v_ad (s1.2 _ _).symm
  have cr_0_6 := fdq_3 hD hth r0
  have ad_8 : v_ad (n_v vs 8) = w_ar ws (n_v vs 0) 4 := congrArg v_ad f2
  have ad_11 : v_ad (n_v vs 11) = w_ar ws (n_v vs 0) 6 := (congrArg v_ad f7).trans ar_0_6_1
  have ad_5 : v_ad (n_v vs 5) = w_ar ws (n_v vs 0) 5 := (congrArg v_ad f12).trans ar_0_5_2
  simp only [ad_8] at f1
  have h1 : v_iv (n_v vs 16) = w_ei ws (w_ar ws (n_v vs 0) 4) (v_iv (n_v vs 1)) := f1
  simp only [ad_8] at f6
  have h6 : v_iv (n_v vs 14) = w_ei w1 (w_ar ws (n_v vs 0) 4) (v_iv (n_v vs 1)) := f6
  simp only [ar_0_4_1, ad_8] at f8 f9 f11
  have h11 : v_iv (n_v vs 9) = w_ei w2 (w_ar ws (n_v vs 0) 4) (v_iv (n_v vs 1)) := f11
  simp only [ar_0_4_2] at f13 f14
  have hE_0_4_1 : ∀ j : Int, w_ei ws (w_ar ws (n_v vs 0) 4) j = w_ei w1 (w_ar ws (n_v vs 0) 4) j := el_kp s1.1 r11 cr_0_4 (by decide)
  have hE_0_4_2 : ∀ j : Int, w_ei w1 (w_ar ws (n_v vs 0) 4) j = w_ei w2 (w_ar ws (n_v vs 0) 4) j := el_kp s2.1 r5 cr_0_4 (by decide)
  have hK_0_4 := elq_0 hD hth cr_0_4
  have hE_0_5_1 : ∀ j : Int, w_ei ws (w_ar ws (n_v vs 0) 5) j = w_ei w1 (w_ar ws (n_v vs 0) 5) j := el_kp s1.1 r11 cr_0_5 (by decide)
  have hE_0_5_2 : ∀ j : Int, 0 ≤ j → (j = v_iv (n_v vs 10) → w_ei w1 (w_ar ws (n_v vs 0) 5) j = v_iv (n_v vs 2)) ∧ (j ≠ v_iv (n_v vs 10) → w_ei w1 (w_ar ws (n_v vs 0) 5) j = w_ei w2 (w_ar ws (n_v vs 0) 5) j) := fun j hj => ⟨fun h => by unfold w_ei; rw [s2.1, if_pos ⟨ad_5.symm, by rw [h]⟩], fun h => by unfold w_ei; rw [s2.1, if_neg (fun e => h (by have := e.2; omega))]⟩
  have hK_0_5 := elq_1 hD hth cr_0_5
  have hE_0_6_1 : ∀ j : Int, 0 ≤ j → (j = v_iv (n_v vs 15) → w_ei ws (w_ar ws (n_v vs 0) 6) j = v_iv (n_v vs 3)) ∧ (j ≠ v_iv (n_v vs 15) → w_ei ws (w_ar ws (n_v vs 0) 6) j = w_ei w1 (w_ar ws (n_v vs 0) 6) j) := fun j hj => ⟨fun h => by unfold w_ei; rw [s1.1, if_pos ⟨ad_11.symm, by rw [h]⟩], fun h => by unfold w_ei; rw [s1.1, if_neg (fun e => h (by have := e.2; omega))]⟩
  have hE_0_6_2 : ∀ j : Int, w_ei w1 (w_ar ws (n_v vs 0) 6) j = w_ei w2 (w_ar ws (n_v vs 0) 6) j := el_kp s2.1 r5 cr_0_6 (by decide)
  have hK_0_6 := elq_2 hD hth cr_0_6
  have hrf0 : 1 ≤ v_iv (n_v vs 18) ∧ v_iv (n_v vs 18) ≤ 24 := vc_Dr_addBend_at_gl_2_r0 (v_iv (n_v vs 1)) (v_iv (n_v vs 4)) (v_iv (n_v vs 9)) (v_iv (n_v vs 10)) (v_iv (n_v vs 14)) (v_iv (n_v vs 15)) (v_iv (n_v vs 16)) (v_iv (n_v vs 17)) (v_iv (n_v vs 18)) (w_ei ws (w_ar ws (n_v vs 0) 4)) (w_ei w1 (w_ar ws (n_v vs 0) 4)) (w_ei w2 (w_ar ws (n_v vs 0) 4)) (w_ei ws (w_ar ws (n_v vs 0) 5)) (w_ei w1 (w_ar ws (n_v vs 0) 5)) (w_ei w2 (w_ar ws (n_v vs 0) 5)) (v_iv (n_v vs 2)) (w_ei ws (w_ar ws (n_v vs 0) 6)) (w_ei w1 (w_ar ws (n_v vs 0) 6)) (v_iv (n_v vs 3)) (w_ei w2 (w_ar ws (n_v vs 0) 6)) k1 k4 k9 k10 k14 k15 k16 k17 k18 d0 d1 d2 (shm_12 f0) h1 (shm_109 f3) (shm_342 f4) h6 f8 f9 h11 f13 f14 hE_0_4_1 hE_0_4_2 hK_0_4 hE_0_5_1 hE_0_5_2 hK_0_5 hE_0_6_1 hE_0_6_2 hK_0_6
  have rf18 : tv_ok ta (0, 1, 24, []) (n_v vs 18) := tv_in t18 (by first | omega | grind) (by first | omega | grind)
  refine ⟨List.forall_mem_cons.mpr ⟨rf18, (fun _ h => (by cases h))⟩, [], trivial, ?_, (fun _ h => (by cases h))⟩
  rw [List.append_nil]
  exact (fun _ h => (by cases h))
set_option maxHeartbeats 4000000 in
theorem vc_Dr_addBend_at_gl_3_0 (x1 : Int) (x4 : Int) (x9 : Int) (x10 : Int) (x14 : Int) (x15 : Int) (x16 : Int) (x17 : Int) (x18 : Int) (bends_1 : Int → Int) (bends_2 : Int → Int) (bends_3 : Int → Int) (bends_0 : Int → Int) (bendX_0 : Int → Int) (bendX_1 : Int → Int) (bendX_2 : Int → Int) (bendX_3 : Int → Int) (x2 : Int) (bendY_0 : Int → Int) (bendY_1 : Int → Int) (bendY_2 : Int → Int) (x3 : Int) (bendY_3 : Int → Int) (k1 : 0 ≤ x1 ∧ x1 ≤ 47) (k4 : 0 ≤ x4 ∧ x4 ≤ 23) (k9 : 0 ≤ x9 ∧ x9 ≤ 24) (k10 : 0 ≤ x10 ∧ x10 ≤ 1151) (k14 : 0 ≤ x14 ∧ x14 ≤ 24) (k15 : 0 ≤ x15 ∧ x15 ≤ 1151) (k16 : 0 ≤ x16 ∧ x16 ≤ 24) (k17 : 1 ≤ x17 ∧ x17 ≤ 1) (k18 : 1 ≤ x18 ∧ x18 ≤ 24) (d0 : x16 + 1 ≤ x18 ∧ x18 ≤ x16 + 1) (d1 : x14 + 0 ≤ x15 ∧ x15 ≤ x14 + 1128) (d2 : x9 + 0 ≤ x10 ∧ x10 ≤ x9 + 1128) (f1 : x18 = x16 + x17) (h2 : x16 = bends_1 (x1)) (f4 : 1 * bends_1 (x1) + ((-1) * x4 + 0) ≤ 0) (f5 : BNZ (bends_1) (x1)) (h7 : x14 = bends_2 (x1)) (f9 : 1 * bends_2 (x1) + ((-1) * x4 + 0) ≤ 0) (f10 : BNZ (bends_2) (x1)) (h12 : x9 = bends_3 (x1)) (f14 : 1 * bends_3 (x1) + ((-1) * x4 + 0) ≤ 0) (f15 : BNZ (bends_3) (x1)) (hE_0_4_1 : ∀ j : Int, 0 ≤ j → (j = x1 → bends_0 j = x18) ∧ (j ≠ x1 → bends_0 j = bends_1 j)) (hE_0_4_2 : ∀ j : Int, bends_1 j = bends_2 j) (hE_0_4_3 : ∀ j : Int, bends_2 j = bends_3 j) (hK_0_4 : ∀ j : Int, 0 ≤ j → j < 48 → 0 ≤ bends_0 j ∧ bends_0 j ≤ 24) (hE_0_5_1 : ∀ j : Int, bendX_0 j = bendX_1 j) (hE_0_5_2 : ∀ j : Int, bendX_1 j = bendX_2 j) (hE_0_5_3 : ∀ j : Int, 0 ≤ j → (j = x10 → bendX_2 j = x2) ∧ (j ≠ x10 → bendX_2 j = bendX_3 j)) (hK_0_5 : ∀ j : Int, 0 ≤ j → j < 1152 → (-41000000) ≤ bendX_0 j ∧ bendX_0 j ≤ 1001000000) (hE_0_6_1 : ∀ j : Int, bendY_0 j = bendY_1 j) (hE_0_6_2 : ∀ j : Int, 0 ≤ j → (j = x15 → bendY_1 j = x3) ∧ (j ≠ x15 → bendY_1 j = bendY_2 j)) (hE_0_6_3 : ∀ j : Int, bendY_2 j = bendY_3 j) (hK_0_6 : ∀ j : Int, 0 ≤ j → j < 1152 → (-41000000) ≤ bendY_0 j ∧ bendY_0 j ≤ 1001000000) : 1 * bends_0 (x1) + ((-1) * x4 + 0) ≤ 1 := by
  have e_hE_0_4_2 := funext hE_0_4_2; subst e_hE_0_4_2
  have e_hE_0_4_3 := funext hE_0_4_3; subst e_hE_0_4_3
  have e_hE_0_5_1 := funext hE_0_5_1; subst e_hE_0_5_1
  have e_hE_0_5_2 := funext hE_0_5_2; subst e_hE_0_5_2
  have e_hE_0_6_1 := funext hE_0_6_1; subst e_hE_0_6_1
  have e_hE_0_6_3 := funext hE_0_6_3; subst e_hE_0_6_3
  first
    | omega
    | (have q := (hE_0_4_1 x1 (by omega)).1 rfl; rw [q]; omega)
  
set_option maxHeartbeats 4000000 in
theorem vc_Dr_addBend_at_gl_3_1 (x1 : Int) (x4 : Int) (x9 : Int) (x10 : Int) (x14 : Int) (x15 : Int) (x16 : Int) (x17 : Int) (x18 : Int) (bends_1 : Int → Int) (bends_2 : Int → Int) (bends_3 : Int → Int) (bends_0 : Int → Int) (bendX_0 : Int → Int) (bendX_1 : Int → Int) (bendX_2 : Int → Int) (bendX_3 : Int → Int) (x2 : Int) (bendY_0 : Int → Int) (bendY_1 : Int → Int) (bendY_2 : Int → Int) (x3 : Int) (bendY_3 : Int → Int) (k1 : 0 ≤ x1 ∧ x1 ≤ 47) (k4 : 0 ≤ x4 ∧ x4 ≤ 23) (k9 : 0 ≤ x9 ∧ x9 ≤ 24) (k10 : 0 ≤ x10 ∧ x10 ≤ 1151) (k14 : 0 ≤ x14 ∧ x14 ≤ 24) (k15 : 0 ≤ x15 ∧ x15 ≤ 1151) (k16 : 0 ≤ x16 ∧ x16 ≤ 24) (k17 : 1 ≤ x17 ∧ x17 ≤ 1) (k18 : 1 ≤ x18 ∧ x18 ≤ 24) (d0 : x16 + 1 ≤ x18 ∧ x18 ≤ x16 + 1) (d1 : x14 + 0 ≤ x15 ∧ x15 ≤ x14 + 1128) (d2 : x9 + 0 ≤ x10 ∧ x10 ≤ x9 + 1128) (f1 : x18 = x16 + x17) (h2 : x16 = bends_1 (x1)) (f4 : 1 * bends_1 (x1) + ((-1) * x4 + 0) ≤ 0) (f5 : BNZ (bends_1) (x1)) (h7 : x14 = bends_2 (x1)) (f9 : 1 * bends_2 (x1) + ((-1) * x4 + 0) ≤ 0) (f10 : BNZ (bends_2) (x1)) (h12 : x9 = bends_3 (x1)) (f14 : 1 * bends_3 (x1) + ((-1) * x4 + 0) ≤ 0) (f15 : BNZ (bends_3) (x1)) (hE_0_4_1 : ∀ j : Int, 0 ≤ j → (j = x1 → bends_0 j = x18) ∧ (j ≠ x1 → bends_0 j = bends_1 j)) (hE_0_4_2 : ∀ j : Int, bends_1 j = bends_2 j) (hE_0_4_3 : ∀ j : Int, bends_2 j = bends_3 j) (hK_0_4 : ∀ j : Int, 0 ≤ j → j < 48 → 0 ≤ bends_0 j ∧ bends_0 j ≤ 24) (hE_0_5_1 : ∀ j : Int, bendX_0 j = bendX_1 j) (hE_0_5_2 : ∀ j : Int, bendX_1 j = bendX_2 j) (hE_0_5_3 : ∀ j : Int, 0 ≤ j → (j = x10 → bendX_2 j = x2) ∧ (j ≠ x10 → bendX_2 j = bendX_3 j)) (hK_0_5 : ∀ j : Int, 0 ≤ j → j < 1152 → (-41000000) ≤ bendX_0 j ∧ bendX_0 j ≤ 1001000000) (hE_0_6_1 : ∀ j : Int, bendY_0 j = bendY_1 j) (hE_0_6_2 : ∀ j : Int, 0 ≤ j → (j = x15 → bendY_1 j = x3) ∧ (j ≠ x15 → bendY_1 j = bendY_2 j)) (hE_0_6_3 : ∀ j : Int, bendY_2 j = bendY_3 j) (hK_0_6 : ∀ j : Int, 0 ≤ j → j < 1152 → (-41000000) ≤ bendY_0 j ∧ bendY_0 j ≤ 1001000000) : BNZ (bends_0) (x1) := by
  have e_hE_0_4_2 := funext hE_0_4_2; subst e_hE_0_4_2
  have e_hE_0_4_3 := funext hE_0_4_3; subst e_hE_0_4_3
  have e_hE_0_5_1 := funext hE_0_5_1; subst e_hE_0_5_1
  have e_hE_0_5_2 := funext hE_0_5_2; subst e_hE_0_5_2
  have e_hE_0_6_1 := funext hE_0_6_1; subst e_hE_0_6_1
  have e_hE_0_6_3 := funext hE_0_6_3; subst e_hE_0_6_3
  first
    | assumption
    | exact bnz_set ‹BNZ _ _› (by assumption) rfl
  
def o_Dr_addBend_at_gl_3 : or_T := (44, 19, [(0, (2, 0, 0, [0])), (1, (0, 0, 47, [])), (4, (0, 0, 23, [])), (5, (2, 0, 0, [17])), (8, (2, 0, 0, [16])), (9, (0, 0, 24, [])), (10, (0, 0, 1151, [])), (11, (2, 0, 0, [18])), (14, (0, 0, 24, [])), (15, (0, 0, 1151, [])), (16, (0, 0, 24, [])), (17, (0, 1, 1, [])), (18, (0, 1, 24, []))], [(100, [8, 1, 18], []), (1, [18, 16, 17], []), (10, [16, 8, 1], []), (9, [8, 0], [4]), (20, [0, 1, 4], [30, 0, 1, 2, 4, -1, 0, 0]), (20, [0, 1], [60, 0, 1, 643, 4]), (100, [11, 15, 3], []), (10, [14, 8, 1], []), (9, [11, 0], [6]), (20, [0, 1, 4], [30, 0, 1, 2, 4, -1, 0, 0]), (20, [0, 1], [60, 0, 1, 643, 4]), (100, [5, 10, 2], []), (10, [9, 8, 1], []), (9, [5, 0], [5]), (20, [0, 1, 4], [30, 0, 1, 2, 4, -1, 0, 0]), (20, [0, 1], [60, 0, 1, 643, 4])], [], [], [(20, [0, 1, 4], [30, 1, 1, 2, 4, -1, 0, 0]), (20, [0, 1], [60, 0, 1, 643, 4])], [], [(18, 16, 1, 1), (15, 14, 0, 1128), (10, 9, 0, 1128)])
theorem oo_Dr_addBend_at_gl_3 {kA : Nat → ClassId} : or_ok PRD kA GG o_Dr_addBend_at_gl_3 := by
  refine or_mk fun A ta ws vs hD hth hl => ?_
  intro t0 r0 t1 k1 t4 k4 t5 r5 t8 r8 t9 k9 t10 k10 t11 r11 t14 k14 t15 k15 t16 k16 t17 k17 t18 k18 d0 d1 d2 ta1 w1 le1 s1 f1 f2 f3 f4 f5 ta2 w2 le2 s2 f7 f8 f9 f10 ta3 w3 le3 s3 f12 f13 f14 f15
  have s1 : (∀ b j, w_el ws b j = if b = v_ad (n_v vs 8) ∧ j = (v_iv (n_v vs 1)).toNat then v_iv (n_v vs 18) else w_el w1 b j) ∧ ∀ b k, w_fd ws b k = w_fd w1 b k := s1.2
  replace f2 := shm_107 f2
  replace f3 := shm_108 f3
  replace f4 := shm_109 f4
  replace f5 := shm_342 f5
  have s2 : (∀ b j, w_el w1 b j = if b = v_ad (n_v vs 11) ∧ j = (v_iv (n_v vs 15)).toNat then v_iv (n_v vs 3) else w_el w2 b j) ∧ ∀ b k, w_fd w1 b k = w_fd w2 b k := s2.2
  replace f7 := shm_107 f7
  replace f8 := shm_111 f8
  replace f9 := shm_109 f9
  replace f10 := shm_342 f10
  have s3 : (∀ b j, w_el w2 b j = if b = v_ad (n_v vs 5) ∧ j = (v_iv (n_v vs 10)).toNat then v_iv (n_v vs 2) else w_el w3 b j) ∧ ∀ b k, w_fd w2 b k = w_fd w3 b k := s3.2
  replace f12 := shm_107 f12
  replace f13 := shm_110 f13
  replace f14 := shm_109 f14
  replace f15 := shm_342 f15
  have ar_0_4_1 : w_ar w1 (n_v vs 0) 4 = w_ar ws (n_v vs 0) 4 := congrArg v_ad (s1.2 _ _).symm
  have ar_0_4_2 : w_ar w2 (n_v vs 0) 4 = w_ar ws (n_v vs 0) 4 := by rw [← ar_0_4_1]; show v_ad (w_fd w2 _ _) = v_ad (w_fd w1 _ _); rw [s2.2]
  have ar_0_4_3 : w_ar w3 (n_v vs 0) 4 = w_ar ws (n_v vs 0) 4 := by rw [← ar_0_4_2]; show v_ad (w_fd w3 _ _) = v_ad (w_fd w2 _ _); rw [s3.2]
  have cr_0_4 := fdq_1 hD hth r0
  have ar_0_5_1 : w_ar w1 (n_v vs 0) 5 = w_ar ws (n_v vs 0) 5 := congrArg v_ad (s1.2 _ _).symm
  have ar_0_5_2 : w_ar w2 (n_v vs 0) 5 = w_ar ws (n_v vs 0) 5 := by rw [← ar_0_5_1]; show v_ad (w_fd w2 _ _) = v_ad (w_fd w1 _ _); rw [s2.2]
  have ar_0_5_3 : w_ar w3 (n_v vs 0) 5 = w_ar ws (n_v vs 0) 5 := by rw [← ar_0_5_2]; show v_ad (w_fd w3 _ _) = v_ad (w_fd w2 _ _); rw [s3.2]
  have cr_0_5 := fdq_2 hD hth r0
  have ar_0_6_1 : w_ar w1 (n_v vs 0) 6 = w_ar ws (n_v vs 0) 6 := congrArg v_ad (s1.2 _ _).symm
  have ar_0_6_2 : w_ar w2 (n_v vs 0) 6 = w_ar ws (n_v vs 0) 6 := by rw [← ar_0_6_1]; show v_ad (w_fd w2 _ _) = v_ad (w_fd w1 _ _); rw [s2.2]
  have cr_0_6 := fdq_3 hD hth r0
  have ad_8 : v_ad (n_v vs 8) = w_ar ws (n_v vs 0) 4 := (congrArg v_ad f3).trans ar_0_4_1
  have ad_11 : v_ad (n_v vs 11) = w_ar ws (n_v vs 0) 6 := (congrArg v_ad f8).trans ar_0_6_2
  have ad_5 : v_ad (n_v vs 5) = w_ar ws (n_v vs 0) 5 := (congrArg v_ad f13).trans ar_0_5_3
  simp only [ad_8] at f2
  have h2 : v_iv (n_v vs 16) = w_ei w1 (w_ar ws (n_v vs 0) 4) (v_iv (n_v vs 1)) := f2
  simp only [ar_0_4_1, ad_8] at f4 f5 f7
  have h7 : v_iv (n_v vs 14) = w_ei w2 (w_ar ws (n_v vs 0) 4) (v_iv (n_v vs 1)) := f7
  simp only [ar_0_4_2, ad_8] at f9 f10 f12
  have h12 : v_iv (n_v vs 9) = w_ei w3 (w_ar ws (n_v vs 0) 4) (v_iv (n_v vs 1)) := f12
  simp only [ar_0_4_3] at f14 f15
  have hE_0_4_1 : ∀ j : Int, 0 ≤ j → (j = v_iv (n_v vs 1) → w_ei ws (w_ar ws (n_v vs 0) 4) j = v_iv (n_v vs 18)) ∧ (j ≠ v_iv (n_v vs 1) → w_ei ws (w_ar ws (n_v vs 0) 4) j = w_ei w1 (w_ar ws (n_v vs 0) 4) j) := fun j hj => ⟨fun h => by unfold w_ei; rw [s1.1, if_pos ⟨ad_8.symm, by rw [h]⟩], fun h => by unfold w_ei; rw [s1.1, if_neg (fun e => h (by have := e.2; omega))]⟩
  have hE_0_4_2 : ∀ j : Int, w_ei w1 (w_ar ws (n_v vs 0) 4) j = w_ei w2 (w_ar ws (n_v vs 0) 4) j := el_kp s2.1 r11 cr_0_4 (by decide)
  have hE_0_4_3 : ∀ j : Int, w_ei w2 (w_ar ws (n_v vs 0) 4) j = w_ei w3 (w_ar ws (n_v vs 0) 4) j := el_kp s3.1 r5 cr_0_4 (by decide)
  have hK_0_4 := elq_0 hD hth cr_0_4
  have hE_0_5_1 : ∀ j : Int, w_ei ws (w_ar ws (n_v vs 0) 5) j = w_ei w1 (w_ar ws (n_v vs 0) 5) j := el_kp s1.1 r8 cr_0_5 (by decide)
  have hE_0_5_2 : ∀ j : Int, w_ei w1 (w_ar ws (n_v vs 0) 5) j = w_ei w2 (w_ar ws (n_v vs 0) 5) j := el_kp s2.1 r11 cr_0_5 (by decide)
  have hE_0_5_3 : ∀ j : Int, 0 ≤ j → (j = v_iv (n_v vs 10) → w_ei w2 (w_ar ws (n_v vs 0) 5) j = v_iv (n_v vs 2)) ∧ (j ≠ v_iv (n_v vs 10) → w_ei w2 (w_ar ws (n_v vs 0) 5) j = w_ei w3 (w_ar ws (n_v vs 0) 5) j) := fun j hj => ⟨fun h => by unfold w_ei; rw [s3.1, if_pos ⟨ad_5.symm, by rw [h]⟩], fun h => by unfold w_ei; rw [s3.1, if_neg (fun e => h (by have := e.2; omega))]⟩
  have hK_0_5 := elq_1 hD hth cr_0_5
  have hE_0_6_1 : ∀ j : Int, w_ei ws (w_ar ws (n_v vs 0) 6) j = w_ei w1 (w_ar ws (n_v vs 0) 6) j := el_kp s1.1 r8 cr_0_6 (by decide)
  have hE_0_6_2 : ∀ j : Int, 0 ≤ j → (j = v_iv (n_v vs 15) → w_ei w1 (w_ar ws (n_v vs 0) 6) j = v_iv (n_v vs 3)) ∧ (j ≠ v_iv (n_v vs 15) → w_ei w1 (w_ar ws (n_v vs 0) 6) j = w_ei w2 (w_ar ws (n_v vs 0) 6) j) := fun j hj => ⟨fun h => by unfold w_ei; rw [s2.1, if_pos ⟨ad_11.symm, by rw [h]⟩], fun h => by unfold w_ei; rw [s2.1, if_neg (fun e => h (by have := e.2; omega))]⟩
  have hE_0_6_3 : ∀ j : Int, w_ei w2 (w_ar ws (n_v vs 0) 6) j = w_ei w3 (w_ar ws (n_v vs 0) 6) j := el_kp s3.1 r5 cr_0_6 (by decide)
  have hK_0_6 := elq_2 hD hth cr_0_6
  have nf0 : fc_1 PRD (20, [0, 1, 4], [30, 1, 1, 2, 4, -1, 0, 0]) ws (vs) := ⟨nf_in hl rfl, sgq_112 (vc_Dr_addBend_at_gl_3_0 (v_iv (n_v vs 1)) (v_iv (n_v vs 4)) (v_iv (n_v vs 9)) (v_iv (n_v vs 10)) (v_iv (n_v vs 14)) (v_iv (n_v vs 15)) (v_iv (n_v vs 16)) (v_iv (n_v vs 17)) (v_iv (n_v vs 18)) (w_ei w1 (w_ar ws (n_v vs 0) 4)) (w_ei w2 (w_ar ws (n_v vs 0) 4)) (w_ei w3 (w_ar ws (n_v vs 0) 4)) (w_ei ws (w_ar ws (n_v vs 0) 4)) (w_ei ws (w_ar ws (n_v vs 0) 5)) (w_ei w1 (w_ar ws (n_v vs 0) 5)) (w_ei w2 (w_ar ws (n_v vs 0) 5)) (w_ei w3 (w_ar ws (n_v vs 0) 5)) (v_iv (n_v vs 2)) (w_ei ws (w_ar ws (n_v vs 0) 6)) (w_ei w1 (w_ar ws (n_v vs 0) 6)) (w_ei w2 (w_ar ws (n_v vs 0) 6)) (v_iv (n_v vs 3)) (w_ei w3 (w_ar ws (n_v vs 0) 6)) k1 k4 k9 k10 k14 k15 k16 k17 k18 d0 d1 d2 (shm_12 f1) h2 f4 f5 h7 f9 f10 h12 f14 f15 hE_0_4_1 hE_0_4_2 hE_0_4_3 hK_0_4 hE_0_5_1 hE_0_5_2 hE_0_5_3 hK_0_5 hE_0_6_1 hE_0_6_2 hE_0_6_3 hK_0_6)⟩
  have nf1 : fc_1 PRD (20, [0, 1], [60, 0, 1, 643, 4]) ws (vs) := ⟨nf_in hl rfl, sgq_342 (vc_Dr_addBend_at_gl_3_1 (v_iv (n_v vs 1)) (v_iv (n_v vs 4)) (v_iv (n_v vs 9)) (v_iv (n_v vs 10)) (v_iv (n_v vs 14)) (v_iv (n_v vs 15)) (v_iv (n_v vs 16)) (v_iv (n_v vs 17)) (v_iv (n_v vs 18)) (w_ei w1 (w_ar ws (n_v vs 0) 4)) (w_ei w2 (w_ar ws (n_v vs 0) 4)) (w_ei w3 (w_ar ws (n_v vs 0) 4)) (w_ei ws (w_ar ws (n_v vs 0) 4)) (w_ei ws (w_ar ws (n_v vs 0) 5)) (w_ei w1 (w_ar ws (n_v vs 0) 5)) (w_ei w2 (w_ar ws (n_v vs 0) 5)) (w_ei w3 (w_ar ws (n_v vs 0) 5)) (v_iv (n_v vs 2)) (w_ei ws (w_ar ws (n_v vs 0) 6)) (w_ei w1 (w_ar ws (n_v vs 0) 6)) (w_ei w2 (w_ar ws (n_v vs 0) 6)) (v_iv (n_v vs 3)) (w_ei w3 (w_ar ws (n_v vs 0) 6)) k1 k4 k9 k10 k14 k15 k16 k17 k18 d0 d1 d2 (shm_12 f1) h2 f4 f5 h7 f9 f10 h12 f14 f15 hE_0_4_1 hE_0_4_2 hE_0_4_3 hK_0_4 hE_0_5_1 hE_0_5_2 hE_0_5_3 hK_0_5 hE_0_6_1 hE_0_6_2 hE_0_6_3 hK_0_6)⟩
  refine ⟨(fun _ h => (by cases h)), [], trivial, ?_, (fun _ h => (by cases h))⟩
  rw [List.append_nil]
  exact List.forall_mem_cons.mpr ⟨⟨show (20 : Nat) < 100 from by decide, nf0⟩, List.forall_mem_cons.mpr ⟨⟨show (20 : Nat) < 100 from by decide, nf1⟩, (fun _ h => (by cases h))⟩⟩
def n_Dr_addBend_at_gl_an : List an_T := []
def t_Dr_addBend_at_gl_ct : ct_L := []
set_option maxRecDepth 100000 in
theorem c_Dr_addBend_at_gl {l : Launch} {D : va_G} {kA : Nat → ClassId} : ct_ok PRD l D kA GG y_Dr_addBend_at_gl z_Dr_addBend_at_gl e_Dr_addBend_at_gl := chk_all_ok (FT := [(22, 0, 4), (25, 0, 5), (28, 0, 6)]) (PT := []) (CT := t_Dr_addBend_at_gl_ct) (KT := []) (NT := []) (AN := n_Dr_addBend_at_gl_an) (OT := [o_Dr_addBend_at_gl_0, o_Dr_addBend_at_gl_1, o_Dr_addBend_at_gl_2, o_Dr_addBend_at_gl_3]) 0 200 (List.forall_mem_cons.mpr ⟨oo_Dr_addBend_at_gl_0, List.forall_mem_cons.mpr ⟨oo_Dr_addBend_at_gl_1, List.forall_mem_cons.mpr ⟨oo_Dr_addBend_at_gl_2, List.forall_mem_cons.mpr ⟨oo_Dr_addBend_at_gl_3, List.forall_mem_nil _⟩⟩⟩⟩) (by decide +kernel) ⟨List.forall_mem_cons.mpr ⟨gf_Dr_22, List.forall_mem_cons.mpr ⟨gf_Dr_25, List.forall_mem_cons.mpr ⟨gf_Dr_28, List.forall_mem_nil _⟩⟩⟩, List.forall_mem_nil _, List.forall_mem_nil _, List.forall_mem_nil _, List.forall_mem_nil _, GG_pl⟩ (by decide +kernel)
set_option maxHeartbeats 4000000 in
theorem vc_Dr_pointX_0_0 (x1 : Int) (x2 : Int) (x5 : Int) (x8 : Int) (x9 : Int) (x_0 : Int → Int) (head_0o3 : Int → Int) (bends_0 : Int → Int) (bendX_0 : Int → Int) (tail_0o3 : Int → Int) (k1 : 0 ≤ x1 ∧ x1 ≤ 47) (k2 : 1 ≤ x2 ∧ x2 ≤ 25) (k5 : 0 ≤ x5 ∧ x5 ≤ 24) (k8 : 0 ≤ x8 ∧ x8 ≤ 23) (k9 : (-40000000) ≤ x9 ∧ x9 ≤ 690000000) (d0 : x5 + 1 ≤ x2 ∧ x2 ≤ x5 + 4294967296) (h0 : x9 = x_0 (x8)) (h1 : x8 = head_0o3 (x1)) (f4 : x5 < x2) (h5 : x5 = bends_0 (x1)) (f7 : x2 ≠ 0) (hK_0_2 : ∀ j : Int, 0 ≤ j → j < 24 → (-40000000) ≤ x_0 j ∧ x_0 j ≤ 690000000) (hK_0_4 : ∀ j : Int, 0 ≤ j → j < 48 → 0 ≤ bends_0 j ∧ bends_0 j ≤ 24) (hK_0_5 : ∀ j : Int, 0 ≤ j → j < 1152 → (-41000000) ≤ bendX_0 j ∧ bendX_0 j ≤ 1001000000) (hK_3_7 : ∀ j : Int, 0 ≤ j → j < 48 → 0 ≤ tail_0o3 j ∧ tail_0o3 j ≤ 23) (hK_3_8 : ∀ j : Int, 0 ≤ j → j < 48 → 0 ≤ head_0o3 j ∧ head_0o3 j ≤ 23) : PTX (x_0) (bends_0) (bendX_0) (tail_0o3) (head_0o3) (x1) (x2) (x9) := by
  first
    | exact Or.inl ⟨by omega, by rw [← ‹x6 = tail_0o3 x1›]; assumption⟩
    | exact Or.inr (Or.inr ⟨by omega, by omega, by rw [← ‹x8 = head_0o3 x1›]; assumption⟩)
    | exact Or.inr (Or.inl ⟨by omega, by omega, by rw [show 24 * x1 + x2 - 1 = x11 by omega]; assumption⟩)
  
def o_Dr_pointX_0 : or_T := (59, 10, [(0, (2, 0, 0, [0])), (1, (0, 0, 47, [])), (2, (0, 1, 25, [])), (3, (2, 0, 0, [3])), (5, (0, 0, 24, [])), (8, (0, 0, 23, [])), (9, (0, -40000000, 690000000, []))], [(10, [9, 6, 8], []), (10, [8, 7, 1], []), (9, [7, 3], [8]), (9, [6, 0], [2]), (7, [2, 5], [4]), (10, [5, 4, 1], []), (9, [4, 0], [4]), (8, [2], [1])], [], [], [(20, [0, 3, 1, 2, 9], [60, 0, 5, 933, 2, 4, 5, 1007, 1008])], [], [(2, 5, 1, 4294967296)])
theorem oo_Dr_pointX_0 {kA : Nat → ClassId} : or_ok PRD kA GG o_Dr_pointX_0 := by
  refine or_mk fun A ta ws vs hD hth hl => ?_
  intro t0 r0 t1 k1 t2 k2 t3 r3 t5 k5 t8 k8 t9 k9 d0 f0 f1 f2 f3 f4 f5 f6 f7
  replace f0 := shm_107 f0
  replace f1 := shm_107 f1
  replace f2 := shm_293 f2
  replace f3 := shm_120 f3
  replace f5 := shm_107 f5
  replace f6 := shm_108 f6
  have cr_0_2 := fdq_45 hD hth r0
  have cr_0_4 := fdq_1 hD hth r0
  have cr_0_5 := fdq_2 hD hth r0
  have cr_3_7 := fdq_46 hD hth r3
  have cr_3_8 := fdq_47 hD hth r3
  have ad_7 : v_ad (n_v vs 7) = w_ar ws (n_v vs 3) 8 := congrArg v_ad f2
  have ad_6 : v_ad (n_v vs 6) = w_ar ws (n_v vs 0) 2 := congrArg v_ad f3
  have ad_4 : v_ad (n_v vs 4) = w_ar ws (n_v vs 0) 4 := congrArg v_ad f6
  simp only [ad_6] at f0
  have h0 : v_iv (n_v vs 9) = w_ei ws (w_ar ws (n_v vs 0) 2) (v_iv (n_v vs 8)) := f0
  simp only [ad_7] at f1
  have h1 : v_iv (n_v vs 8) = w_ei ws (w_ar ws (n_v vs 3) 8) (v_iv (n_v vs 1)) := f1
  simp only [ad_4] at f5
  have h5 : v_iv (n_v vs 5) = w_ei ws (w_ar ws (n_v vs 0) 4) (v_iv (n_v vs 1)) := f5
  have hK_0_2 := elq_10 hD hth cr_0_2
  have hK_0_4 := elq_0 hD hth cr_0_4
  have hK_0_5 := elq_1 hD hth cr_0_5
  have hK_3_7 := elq_11 hD hth cr_3_7
  have hK_3_8 := elq_12 hD hth cr_3_8
  have nf0 : fc_1 PRD (20, [0, 3, 1, 2, 9], [60, 0, 5, 933, 2, 4, 5, 1007, 1008]) ws (vs) := ⟨nf_in hl rfl, sgq_343 (vc_Dr_pointX_0_0 (v_iv (n_v vs 1)) (v_iv (n_v vs 2)) (v_iv (n_v vs 5)) (v_iv (n_v vs 8)) (v_iv (n_v vs 9)) (w_ei ws (w_ar ws (n_v vs 0) 2)) (w_ei ws (w_ar ws (n_v vs 3) 8)) (w_ei ws (w_ar ws (n_v vs 0) 4)) (w_ei ws (w_ar ws (n_v vs 0) 5)) (w_ei ws (w_ar ws (n_v vs 3) 7)) k1 k2 k5 k8 k9 d0 h0 h1 (shm_21 f4) h5 (shm_142 f7) hK_0_2 hK_0_4 hK_0_5 hK_3_7 hK_3_8)⟩
  refine ⟨(fun _ h => (by cases h)), [], trivial, ?_, (fun _ h => (by cases h))⟩
  rw [List.append_nil]
  exact List.forall_mem_cons.mpr ⟨⟨show (20 : Nat) < 100 from by decide, nf0⟩, (fun _ h => (by cases h))⟩
set_option maxHeartbeats 4000000 in
theorem vc_Dr_pointX_1_0 (x1 : Int) (x2 : Int) (x5 : Int) (x7 : Int) (x8 : Int) (x9 : Int) (x10 : Int) (x11 : Int) (x12 : Int) (bendX_0 : Int → Int) (bends_0 : Int → Int) (x_0 : Int → Int) (tail_0o3 : Int → Int) (head_0o3 : Int → Int) (k1 : 0 ≤ x1 ∧ x1 ≤ 47) (k2 : 1 ≤ x2 ∧ x2 ≤ 24) (k5 : 1 ≤ x5 ∧ x5 ≤ 24) (k7 : 24 ≤ x7 ∧ x7 ≤ 24) (k8 : 0 ≤ x8 ∧ x8 ≤ 1128) (k9 : 1 ≤ x9 ∧ x9 ≤ 1152) (k10 : 1 ≤ x10 ∧ x10 ≤ 1) (k11 : 0 ≤ x11 ∧ x11 ≤ 1151) (k12 : (-41000000) ≤ x12 ∧ x12 ≤ 1001000000) (d0 : x9 + (-1) ≤ x11 ∧ x11 ≤ x9 + (-1)) (d1 : x2 + (-1) ≤ x11 ∧ x11 ≤ x2 + 1127) (d2 : x5 + (-4294967296) ≤ x11 ∧ x11 ≤ x5 + 1127) (d3 : x8 + 0 ≤ x11 ∧ x11 ≤ x8 + 23) (d4 : x2 + 0 ≤ x9 ∧ x9 ≤ x2 + 1128) (d5 : x5 + (-4294967296) ≤ x9 ∧ x9 ≤ x5 + 1128) (d6 : x8 + 1 ≤ x9 ∧ x9 ≤ x8 + 24) (d7 : x5 + (-4294967296) ≤ x2 ∧ x2 ≤ x5 + 0) (h0 : x12 = bendX_0 (x11)) (f1 : x11 = x9 - x10) (f2 : x9 = x8 + x2) (f3 : x8 = x1 * 24) (f5 : x2 ≤ x5) (h6 : x5 = bends_0 (x1)) (f8 : x2 ≠ 0) (hK_0_2 : ∀ j : Int, 0 ≤ j → j < 24 → (-40000000) ≤ x_0 j ∧ x_0 j ≤ 690000000) (hK_0_4 : ∀ j : Int, 0 ≤ j → j < 48 → 0 ≤ bends_0 j ∧ bends_0 j ≤ 24) (hK_0_5 : ∀ j : Int, 0 ≤ j → j < 1152 → (-41000000) ≤ bendX_0 j ∧ bendX_0 j ≤ 1001000000) (hK_3_7 : ∀ j : Int, 0 ≤ j → j < 48 → 0 ≤ tail_0o3 j ∧ tail_0o3 j ≤ 23) (hK_3_8 : ∀ j : Int, 0 ≤ j → j < 48 → 0 ≤ head_0o3 j ∧ head_0o3 j ≤ 23) : PTX (x_0) (bends_0) (bendX_0) (tail_0o3) (head_0o3) (x1) (x2) (x12) := by
  first
    | exact Or.inl ⟨by omega, by rw [← ‹x6 = tail_0o3 x1›]; assumption⟩
    | exact Or.inr (Or.inr ⟨by omega, by omega, by rw [← ‹x8 = head_0o3 x1›]; assumption⟩)
    | exact Or.inr (Or.inl ⟨by omega, by omega, by rw [show 24 * x1 + x2 - 1 = x11 by omega]; assumption⟩)
  
def o_Dr_pointX_1 : or_T := (59, 13, [(0, (2, 0, 0, [0])), (1, (0, 0, 47, [])), (2, (0, 1, 24, [])), (3, (2, 0, 0, [3])), (5, (0, 1, 24, [])), (7, (0, 24, 24, [])), (8, (0, 0, 1128, [])), (9, (0, 1, 1152, [])), (10, (0, 1, 1, [])), (11, (0, 0, 1151, [])), (12, (0, -41000000, 1001000000, []))], [(10, [12, 6, 11], []), (2, [11, 9, 10], []), (1, [9, 8, 2], []), (3, [8, 1, 7], []), (9, [6, 0], [5]), (7, [2, 5], [5]), (10, [5, 4, 1], []), (9, [4, 0], [4]), (8, [2], [1])], [], [], [(20, [0, 3, 1, 2, 12], [60, 0, 5, 933, 2, 4, 5, 1007, 1008])], [], [(11, 9, -1, -1), (11, 2, -1, 1127), (11, 5, -4294967296, 1127), (11, 8, 0, 23), (9, 2, 0, 1128), (9, 5, -4294967296, 1128), (9, 8, 1, 24), (2, 5, -4294967296, 0)])
theorem oo_Dr_pointX_1 {kA : Nat → ClassId} : or_ok PRD kA GG o_Dr_pointX_1 := by
  refine or_mk fun A ta ws vs hD hth hl => ?_
  intro t0 r0 t1 k1 t2 k2 t3 r3 t5 k5 t7 k7 t8 k8 t9 k9 t10 k10 t11 k11 t12 k12 d0 d1 d2 d3 d4 d5 d6 d7 f0 f1 f2 f3 f4 f5 f6 f7 f8
  replace f0 := shm_107 f0
  replace f3 := shm_38 f3
  rw [show v_iv (n_v vs 7) = 24 from by omega] at f3
  replace f4 := shm_110 f4
  replace f6 := shm_107 f6
  replace f7 := shm_108 f7
  have cr_0_2 := fdq_45 hD hth r0
  have cr_0_4 := fdq_1 hD hth r0
  have cr_0_5 := fdq_2 hD hth r0
  have cr_3_7 := fdq_46 hD hth r3
  have cr_3_8 := fdq_47 hD hth r3
  have ad_6 : v_ad (n_v vs 6) = w_ar ws (n_v vs 0) 5 := congrArg v_ad f4
  have ad_4 : v_ad (n_v vs 4) = w_ar ws (n_v vs 0) 4 := congrArg v_ad f7
  simp only [ad_6] at f0
  have h0 : v_iv (n_v vs 12) = w_ei ws (w_ar ws (n_v vs 0) 5) (v_iv (n_v vs 11)) := f0
  simp only [ad_4] at f6
  have h6 : v_iv (n_v vs 5) = w_ei ws (w_ar ws (n_v vs 0) 4) (v_iv (n_v vs 1)) := f6
  have hK_0_2 := elq_10 hD hth cr_0_2
  have hK_0_4 := elq_0 hD hth cr_0_4
  have hK_0_5 := elq_1 hD hth cr_0_5
  have hK_3_7 := elq_11 hD hth cr_3_7
  have hK_3_8 := elq_12 hD hth cr_3_8
  have nf0 : fc_1 PRD (20, [0, 3, 1, 2, 12], [60, 0, 5, 933, 2, 4, 5, 1007, 1008]) ws (vs) := ⟨nf_in hl rfl, sgq_343 (vc_Dr_pointX_1_0 (v_iv (n_v vs 1)) (v_iv (n_v vs 2)) (v_iv (n_v vs 5)) (v_iv (n_v vs 7)) (v_iv (n_v vs 8)) (v_iv (n_v vs 9)) (v_iv (n_v vs 10)) (v_iv (n_v vs 11)) (v_iv (n_v vs 12)) (w_ei ws (w_ar ws (n_v vs 0) 5)) (w_ei ws (w_ar ws (n_v vs 0) 4)) (w_ei ws (w_ar ws (n_v vs 0) 2)) (w_ei ws (w_ar ws (n_v vs 3) 7)) (w_ei ws (w_ar ws (n_v vs 3) 8)) k1 k2 k5 k7 k8 k9 k10 k11 k12 d0 d1 d2 d3 d4 d5 d6 d7 h0 (shm_14 f1) (shm_12 f2) f3 (shm_24 f5) h6 (shm_142 f8) hK_0_2 hK_0_4 hK_0_5 hK_3_7 hK_3_8)⟩
  refine ⟨(fun _ h => (by cases h)), [], trivial, ?_, (fun _ h => (by cases h))⟩
  rw [List.append_nil]
  exact List.forall_mem_cons.mpr ⟨⟨show (20 : Nat) < 100 from by decide, nf0⟩, (fun _ h => (by cases h))⟩
set_option maxHeartbeats 4000000 in
theorem vc_Dr_pointX_2_0 (x1 : Int) (x2 : Int) (x6 : Int) (x7 : Int) (x_0 : Int → Int) (tail_0o3 : Int → Int) (bends_0 : Int → Int) (bendX_0 : Int → Int) (head_0o3 : Int → Int) (k1 : 0 ≤ x1 ∧ x1 ≤ 47) (k2 : 0 ≤ x2 ∧ x2 ≤ 0) (k6 : 0 ≤ x6 ∧ x6 ≤ 23) (k7 : (-40000000) ≤ x7 ∧ x7 ≤ 690000000) (h0 : x7 = x_0 (x6)) (h1 : x6 = tail_0o3 (x1)) (f4 : x2 = 0) (hK_0_2 : ∀ j : Int, 0 ≤ j → j < 24 → (-40000000) ≤ x_0 j ∧ x_0 j ≤ 690000000) (hK_0_4 : ∀ j : Int, 0 ≤ j → j < 48 → 0 ≤ bends_0 j ∧ bends_0 j ≤ 24) (hK_0_5 : ∀ j : Int, 0 ≤ j → j < 1152 → (-41000000) ≤ bendX_0 j ∧ bendX_0 j ≤ 1001000000) (hK_3_7 : ∀ j : Int, 0 ≤ j → j < 48 → 0 ≤ tail_0o3 j ∧ tail_0o3 j ≤ 23) (hK_3_8 : ∀ j : Int, 0 ≤ j → j < 48 → 0 ≤ head_0o3 j ∧ head_0o3 j ≤ 23) : PTX (x_0) (bends_0) (bendX_0) (tail_0o3) (head_0o3) (x1) (x2) (x7) := by
  first
    | exact Or.inl ⟨by omega, by rw [← ‹x6 = tail_0o3 x1›]; assumption⟩
    | exact Or.inr (Or.inr ⟨by omega, by omega, by rw [← ‹x8 = head_0o3 x1›]; assumption⟩)
    | exact Or.inr (Or.inl ⟨by omega, by omega, by rw [show 24 * x1 + x2 - 1 = x11 by omega]; assumption⟩)
  
def o_Dr_pointX_2 : or_T := (18, 8, [(0, (2, 0, 0, [0])), (1, (0, 0, 47, [])), (2, (0, 0, 0, [])), (3, (2, 0, 0, [3])), (6, (0, 0, 23, [])), (7, (0, -40000000, 690000000, []))], [(10, [7, 4, 6], []), (10, [6, 5, 1], []), (9, [5, 3], [7]), (9, [4, 0], [2]), (8, [2], [0])], [], [], [(20, [0, 3, 1, 2, 7], [60, 0, 5, 933, 2, 4, 5, 1007, 1008])], [], [])
theorem oo_Dr_pointX_2 {kA : Nat → ClassId} : or_ok PRD kA GG o_Dr_pointX_2 := by
  refine or_mk fun A ta ws vs hD hth hl => ?_
  intro t0 r0 t1 k1 t2 k2 t3 r3 t6 k6 t7 k7 f0 f1 f2 f3 f4
  replace f0 := shm_107 f0
  replace f1 := shm_107 f1
  replace f2 := shm_198 f2
  replace f3 := shm_120 f3
  have cr_0_2 := fdq_45 hD hth r0
  have cr_0_4 := fdq_1 hD hth r0
  have cr_0_5 := fdq_2 hD hth r0
  have cr_3_7 := fdq_46 hD hth r3
  have cr_3_8 := fdq_47 hD hth r3
  have ad_5 : v_ad (n_v vs 5) = w_ar ws (n_v vs 3) 7 := congrArg v_ad f2
  have ad_4 : v_ad (n_v vs 4) = w_ar ws (n_v vs 0) 2 := congrArg v_ad f3
  simp only [ad_4] at f0
  have h0 : v_iv (n_v vs 7) = w_ei ws (w_ar ws (n_v vs 0) 2) (v_iv (n_v vs 6)) := f0
  simp only [ad_5] at f1
  have h1 : v_iv (n_v vs 6) = w_ei ws (w_ar ws (n_v vs 3) 7) (v_iv (n_v vs 1)) := f1
  have hK_0_2 := elq_10 hD hth cr_0_2
  have hK_0_4 := elq_0 hD hth cr_0_4
  have hK_0_5 := elq_1 hD hth cr_0_5
  have hK_3_7 := elq_11 hD hth cr_3_7
  have hK_3_8 := elq_12 hD hth cr_3_8
  have nf0 : fc_1 PRD (20, [0, 3, 1, 2, 7], [60, 0, 5, 933, 2, 4, 5, 1007, 1008]) ws (vs) := ⟨nf_in hl rfl, sgq_343 (vc_Dr_pointX_2_0 (v_iv (n_v vs 1)) (v_iv (n_v vs 2)) (v_iv (n_v vs 6)) (v_iv (n_v vs 7)) (w_ei ws (w_ar ws (n_v vs 0) 2)) (w_ei ws (w_ar ws (n_v vs 3) 7)) (w_ei ws (w_ar ws (n_v vs 0) 4)) (w_ei ws (w_ar ws (n_v vs 0) 5)) (w_ei ws (w_ar ws (n_v vs 3) 8)) k1 k2 k6 k7 h0 h1 (shm_192 f4) hK_0_2 hK_0_4 hK_0_5 hK_3_7 hK_3_8)⟩
  refine ⟨(fun _ h => (by cases h)), [], trivial, ?_, (fun _ h => (by cases h))⟩
  rw [List.append_nil]
  exact List.forall_mem_cons.mpr ⟨⟨show (20 : Nat) < 100 from by decide, nf0⟩, (fun _ h => (by cases h))⟩
def n_Dr_pointX_an : List an_T := []
def t_Dr_pointX_ct : ct_L := []
set_option maxRecDepth 100000 in
theorem c_Dr_pointX {l : Launch} {D : va_G} {kA : Nat → ClassId} : ct_ok PRD l D kA GG y_Dr_pointX z_Dr_pointX e_Dr_pointX := chk_all_ok (FT := [(15, 0, 2), (22, 0, 4), (25, 0, 5), (74, 0, 0), (106, 3, 7), (109, 3, 8)]) (PT := []) (CT := t_Dr_pointX_ct) (KT := []) (NT := []) (AN := n_Dr_pointX_an) (OT := [o_Dr_pointX_0, o_Dr_pointX_1, o_Dr_pointX_2]) 0 200 (List.forall_mem_cons.mpr ⟨oo_Dr_pointX_0, List.forall_mem_cons.mpr ⟨oo_Dr_pointX_1, List.forall_mem_cons.mpr ⟨oo_Dr_pointX_2, List.forall_mem_nil _⟩⟩⟩) (by decide +kernel) ⟨List.forall_mem_cons.mpr ⟨gf_Dr_15, List.forall_mem_cons.mpr ⟨gf_Dr_22, List.forall_mem_cons.mpr ⟨gf_Dr_25, List.forall_mem_cons.mpr ⟨gf_Dr_74, List.forall_mem_cons.mpr ⟨gf_Dr_106, List.forall_mem_cons.mpr ⟨gf_Dr_109, List.forall_mem_nil _⟩⟩⟩⟩⟩⟩, List.forall_mem_nil _, List.forall_mem_nil _, List.forall_mem_nil _, List.forall_mem_nil _, GG_pl⟩ (by decide +kernel)
set_option maxHeartbeats 4000000 in
theorem vc_Dr_pointY_0_0 (x1 : Int) (x2 : Int) (x5 : Int) (x8 : Int) (x9 : Int) (y_0 : Int → Int) (head_0o3 : Int → Int) (bends_0 : Int → Int) (bendY_0 : Int → Int) (tail_0o3 : Int → Int) (k1 : 0 ≤ x1 ∧ x1 ≤ 47) (k2 : 1 ≤ x2 ∧ x2 ≤ 25) (k5 : 0 ≤ x5 ∧ x5 ≤ 24) (k8 : 0 ≤ x8 ∧ x8 ≤ 23) (k9 : (-40000000) ≤ x9 ∧ x9 ≤ 690000000) (d0 : x5 + 1 ≤ x2 ∧ x2 ≤ x5 + 4294967296) (h0 : x9 = y_0 (x8)) (h1 : x8 = head_0o3 (x1)) (f4 : x5 < x2) (h5 : x5 = bends_0 (x1)) (f7 : x2 ≠ 0) (hK_0_3 : ∀ j : Int, 0 ≤ j → j < 24 → (-40000000) ≤ y_0 j ∧ y_0 j ≤ 690000000) (hK_0_4 : ∀ j : Int, 0 ≤ j → j < 48 → 0 ≤ bends_0 j ∧ bends_0 j ≤ 24) (hK_0_6 : ∀ j : Int, 0 ≤ j → j < 1152 → (-41000000) ≤ bendY_0 j ∧ bendY_0 j ≤ 1001000000) (hK_3_7 : ∀ j : Int, 0 ≤ j → j < 48 → 0 ≤ tail_0o3 j ∧ tail_0o3 j ≤ 23) (hK_3_8 : ∀ j : Int, 0 ≤ j → j < 48 → 0 ≤ head_0o3 j ∧ head_0o3 j ≤ 23) : PTY (y_0) (bends_0) (bendY_0) (tail_0o3) (head_0o3) (x1) (x2) (x9) := by
  first
    | exact Or.inl ⟨by omega, by rw [← ‹x6 = tail_0o3 x1›]; assumption⟩
    | exact Or.inr (Or.inr ⟨by omega, by omega, by rw [← ‹x8 = head_0o3 x1›]; assumption⟩)
    | exact Or.inr (Or.inl ⟨by omega, by omega, by rw [show 24 * x1 + x2 - 1 = x11 by omega]; assumption⟩)
  
def o_Dr_pointY_0 : or_T := (59, 10, [(0, (2, 0, 0, [0])), (1, (0, 0, 47, [])), (2, (0, 1, 25, [])), (3, (2, 0, 0, [3])), (5, (0, 0, 24, [])), (8, (0, 0, 23, [])), (9, (0, -40000000, 690000000, []))], [(10, [9, 6, 8], []), (10, [8, 7, 1], []), (9, [7, 3], [8]), (9, [6, 0], [3]), (7, [2, 5], [4]), (10, [5, 4, 1], []), (9, [4, 0], [4]), (8, [2], [1])], [], [], [(20, [0, 3, 1, 2, 9], [60, 0, 5, 940, 3, 4, 6, 1007, 1008])], [], [(2, 5, 1, 4294967296)])
theorem oo_Dr_pointY_0 {kA : Nat → ClassId} : or_ok PRD kA GG o_Dr_pointY_0 := by
  refine or_mk fun A ta ws vs hD hth hl => ?_
  intro t0 r0 t1 k1 t2 k2 t3 r3 t5 k5 t8 k8 t9 k9 d0 f0 f1 f2 f3 f4 f5 f6 f7
  replace f0 := shm_107 f0
  replace f1 := shm_107 f1
  replace f2 := shm_293 f2
  replace f3 := shm_137 f3
  replace f5 := shm_107 f5
  replace f6 := shm_108 f6
  have cr_0_3 := fdq_48 hD hth r0
  have cr_0_4 := fdq_1 hD hth r0
  have cr_0_6 := fdq_3 hD hth r0
  have cr_3_7 := fdq_46 hD hth r3
  have cr_3_8 := fdq_47 hD hth r3
  have ad_7 : v_ad (n_v vs 7) = w_ar ws (n_v vs 3) 8 := congrArg v_ad f2
  have ad_6 : v_ad (n_v vs 6) = w_ar ws (n_v vs 0) 3 := congrArg v_ad f3
  have ad_4 : v_ad (n_v vs 4) = w_ar ws (n_v vs 0) 4 := congrArg v_ad f6
  simp only [ad_6] at f0
  have h0 : v_iv (n_v vs 9) = w_ei ws (w_ar ws (n_v vs 0) 3) (v_iv (n_v vs 8)) := f0
  simp only [ad_7] at f1
  have h1 : v_iv (n_v vs 8) = w_ei ws (w_ar ws (n_v vs 3) 8) (v_iv (n_v vs 1)) := f1
  simp only [ad_4] at f5
  have h5 : v_iv (n_v vs 5) = w_ei ws (w_ar ws (n_v vs 0) 4) (v_iv (n_v vs 1)) := f5
  have hK_0_3 := elq_13 hD hth cr_0_3
  have hK_0_4 := elq_0 hD hth cr_0_4
  have hK_0_6 := elq_2 hD hth cr_0_6
  have hK_3_7 := elq_11 hD hth cr_3_7
  have hK_3_8 := elq_12 hD hth cr_3_8
  have nf0 : fc_1 PRD (20, [0, 3, 1, 2, 9], [60, 0, 5, 940, 3, 4, 6, 1007, 1008]) ws (vs) := ⟨nf_in hl rfl, sgq_344 (vc_Dr_pointY_0_0 (v_iv (n_v vs 1)) (v_iv (n_v vs 2)) (v_iv (n_v vs 5)) (v_iv (n_v vs 8)) (v_iv (n_v vs 9)) (w_ei ws (w_ar ws (n_v vs 0) 3)) (w_ei ws (w_ar ws (n_v vs 3) 8)) (w_ei ws (w_ar ws (n_v vs 0) 4)) (w_ei ws (w_ar ws (n_v vs 0) 6)) (w_ei ws (w_ar ws (n_v vs 3) 7)) k1 k2 k5 k8 k9 d0 h0 h1 (shm_21 f4) h5 (shm_142 f7) hK_0_3 hK_0_4 hK_0_6 hK_3_7 hK_3_8)⟩
  refine ⟨(fun _ h => (by cases h)), [], trivial, ?_, (fun _ h => (by cases h))⟩
  rw [List.append_nil]
  exact List.forall_mem_cons.mpr ⟨⟨show (20 : Nat) < 100 from by decide, nf0⟩, (fun _ h => (by cases h))⟩
set_option maxHeartbeats 4000000 in
theorem vc_Dr_pointY_1_0 (x1 : Int) (x2 : Int) (x5 : Int) (x7 : Int) (x8 : Int) (x9 : Int) (x10 : Int) (x11 : Int) (x12 : Int) (bendY_0 : Int → Int) (bends_0 : Int → Int) (y_0 : Int → Int) (tail_0o3 : Int → Int) (head_0o3 : Int → Int) (k1 : 0 ≤ x1 ∧ x1 ≤ 47) (k2 : 1 ≤ x2 ∧ x2 ≤ 24) (k5 : 1 ≤ x5 ∧ x5 ≤ 24) (k7 : 24 ≤ x7 ∧ x7 ≤ 24) (k8 : 0 ≤ x8 ∧ x8 ≤ 1128) (k9 : 1 ≤ x9 ∧ x9 ≤ 1152) (k10 : 1 ≤ x10 ∧ x10 ≤ 1) (k11 : 0 ≤ x11 ∧ x11 ≤ 1151) (k12 : (-41000000) ≤ x12 ∧ x12 ≤ 1001000000) (d0 : x9 + (-1) ≤ x11 ∧ x11 ≤ x9 + (-1)) (d1 : x2 + (-1) ≤ x11 ∧ x11 ≤ x2 + 1127) (d2 : x5 + (-4294967296) ≤ x11 ∧ x11 ≤ x5 + 1127) (d3 : x8 + 0 ≤ x11 ∧ x11 ≤ x8 + 23) (d4 : x2 + 0 ≤ x9 ∧ x9 ≤ x2 + 1128) (d5 : x5 + (-4294967296) ≤ x9 ∧ x9 ≤ x5 + 1128) (d6 : x8 + 1 ≤ x9 ∧ x9 ≤ x8 + 24) (d7 : x5 + (-4294967296) ≤ x2 ∧ x2 ≤ x5 + 0) (h0 : x12 = bendY_0 (x11)) (f1 : x11 = x9 - x10) (f2 : x9 = x8 + x2) (f3 : x8 = x1 * 24) (f5 : x2 ≤ x5) (h6 : x5 = bends_0 (x1)) (f8 : x2 ≠ 0) (hK_0_3 : ∀ j : Int, 0 ≤ j → j < 24 → (-40000000) ≤ y_0 j ∧ y_0 j ≤ 690000000) (hK_0_4 : ∀ j : Int, 0 ≤ j → j < 48 → 0 ≤ bends_0 j ∧ bends_0 j ≤ 24) (hK_0_6 : ∀ j : Int, 0 ≤ j → j < 1152 → (-41000000) ≤ bendY_0 j ∧ bendY_0 j ≤ 1001000000) (hK_3_7 : ∀ j : Int, 0 ≤ j → j < 48 → 0 ≤ tail_0o3 j ∧ tail_0o3 j ≤ 23) (hK_3_8 : ∀ j : Int, 0 ≤ j → j < 48 → 0 ≤ head_0o3 j ∧ head_0o3 j ≤ 23) : PTY (y_0) (bends_0) (bendY_0) (tail_0o3) (head_0o3) (x1) (x2) (x12) := by
  first
    | exact Or.inl ⟨by omega, by rw [← ‹x6 = tail_0o3 x1›]; assumption⟩
    | exact Or.inr (Or.inr ⟨by omega, by omega, by rw [← ‹x8 = head_0o3 x1›]; assumption⟩)
    | exact Or.inr (Or.inl ⟨by omega, by omega, by rw [show 24 * x1 + x2 - 1 = x11 by omega]; assumption⟩)
  
def o_Dr_pointY_1 : or_T := (59, 13, [(0, (2, 0, 0, [0])), (1, (0, 0, 47, [])), (2, (0, 1, 24, [])), (3, (2, 0, 0, [3])), (5, (0, 1, 24, [])), (7, (0, 24, 24, [])), (8, (0, 0, 1128, [])), (9, (0, 1, 1152, [])), (10, (0, 1, 1, [])), (11, (0, 0, 1151, [])), (12, (0, -41000000, 1001000000, []))], [(10, [12, 6, 11], []), (2, [11, 9, 10], []), (1, [9, 8, 2], []), (3, [8, 1, 7], []), (9, [6, 0], [6]), (7, [2, 5], [5]), (10, [5, 4, 1], []), (9, [4, 0], [4]), (8, [2], [1])], [], [], [(20, [0, 3, 1, 2, 12], [60, 0, 5, 940, 3, 4, 6, 1007, 1008])], [], [(11, 9, -1, -1), (11, 2, -1, 1127), (11, 5, -4294967296, 1127), (11, 8, 0, 23), (9, 2, 0, 1128), (9, 5, -4294967296, 1128), (9, 8, 1, 24), (2, 5, -4294967296, 0)])
theorem oo_Dr_pointY_1 {kA : Nat → ClassId} : or_ok PRD kA GG o_Dr_pointY_1 := by
  refine or_mk fun A ta ws vs hD hth hl => ?_
  intro t0 r0 t1 k1 t2 k2 t3 r3 t5 k5 t7 k7 t8 k8 t9 k9 t10 k10 t11 k11 t12 k12 d0 d1 d2 d3 d4 d5 d6 d7 f0 f1 f2 f3 f4 f5 f6 f7 f8
  replace f0 := shm_107 f0
  replace f3 := shm_38 f3
  rw [show v_iv (n_v vs 7) = 24 from by omega] at f3
  replace f4 := shm_111 f4
  replace f6 := shm_107 f6
  replace f7 := shm_108 f7
  have cr_0_3 := fdq_48 hD hth r0
  have cr_0_4 := fdq_1 hD hth r0
  have cr_0_6 := fdq_3 hD hth r0
  have cr_3_7 := fdq_46 hD hth r3
  have cr_3_8 := fdq_47 hD hth r3
  have ad_6 : v_ad (n_v vs 6) = w_ar ws (n_v vs 0) 6 := congrArg v_ad f4
  have ad_4 : v_ad (n_v vs 4) = w_ar ws (n_v vs 0) 4 := congrArg v_ad f7
  simp only [ad_6] at f0
  have h0 : v_iv (n_v vs 12) = w_ei ws (w_ar ws (n_v vs 0) 6) (v_iv (n_v vs 11)) := f0
  simp only [ad_4] at f6
  have h6 : v_iv (n_v vs 5) = w_ei ws (w_ar ws (n_v vs 0) 4) (v_iv (n_v vs 1)) := f6
  have hK_0_3 := elq_13 hD hth cr_0_3
  have hK_0_4 := elq_0 hD hth cr_0_4
  have hK_0_6 := elq_2 hD hth cr_0_6
  have hK_3_7 := elq_11 hD hth cr_3_7
  have hK_3_8 := elq_12 hD hth cr_3_8
  have nf0 : fc_1 PRD (20, [0, 3, 1, 2, 12], [60, 0, 5, 940, 3, 4, 6, 1007, 1008]) ws (vs) := ⟨nf_in hl rfl, sgq_344 (vc_Dr_pointY_1_0 (v_iv (n_v vs 1)) (v_iv (n_v vs 2)) (v_iv (n_v vs 5)) (v_iv (n_v vs 7)) (v_iv (n_v vs 8)) (v_iv (n_v vs 9)) (v_iv (n_v vs 10)) (v_iv (n_v vs 11)) (v_iv (n_v vs 12)) (w_ei ws (w_ar ws (n_v vs 0) 6)) (w_ei ws (w_ar ws (n_v vs 0) 4)) (w_ei ws (w_ar ws (n_v vs 0) 3)) (w_ei ws (w_ar ws (n_v vs 3) 7)) (w_ei ws (w_ar ws (n_v vs 3) 8)) k1 k2 k5 k7 k8 k9 k10 k11 k12 d0 d1 d2 d3 d4 d5 d6 d7 h0 (shm_14 f1) (shm_12 f2) f3 (shm_24 f5) h6 (shm_142 f8) hK_0_3 hK_0_4 hK_0_6 hK_3_7 hK_3_8)⟩
  refine ⟨(fun _ h => (by cases h)), [], trivial, ?_, (fun _ h => (by cases h))⟩
  rw [List.append_nil]
  exact List.forall_mem_cons.mpr ⟨⟨show (20 : Nat) < 100 from by decide, nf0⟩, (fun _ h => (by cases h))⟩
set_option maxHeartbeats 4000000 in
theorem vc_Dr_pointY_2_0 (x1 : Int) (x2 : Int) (x6 : Int) (x7 : Int) (y_0 : Int → Int) (tail_0o3 : Int → Int) (bends_0 : Int → Int) (bendY_0 : Int → Int) (head_0o3 : Int → Int) (k1 : 0 ≤ x1 ∧ x1 ≤ 47) (k2 : 0 ≤ x2 ∧ x2 ≤ 0) (k6 : 0 ≤ x6 ∧ x6 ≤ 23) (k7 : (-40000000) ≤ x7 ∧ x7 ≤ 690000000) (h0 : x7 = y_0 (x6)) (h1 : x6 = tail_0o3 (x1)) (f4 : x2 = 0) (hK_0_3 : ∀ j : Int, 0 ≤ j → j < 24 → (-40000000) ≤ y_0 j ∧ y_0 j ≤ 690000000) (hK_0_4 : ∀ j : Int, 0 ≤ j → j < 48 → 0 ≤ bends_0 j ∧ bends_0 j ≤ 24) (hK_0_6 : ∀ j : Int, 0 ≤ j → j < 1152 → (-41000000) ≤ bendY_0 j ∧ bendY_0 j ≤ 1001000000) (hK_3_7 : ∀ j : Int, 0 ≤ j → j < 48 → 0 ≤ tail_0o3 j ∧ tail_0o3 j ≤ 23) (hK_3_8 : ∀ j : Int, 0 ≤ j → j < 48 → 0 ≤ head_0o3 j ∧ head_0o3 j ≤ 23) : PTY (y_0) (bends_0) (bendY_0) (tail_0o3) (head_0o3) (x1) (x2) (x7) := by
  first
    | exact Or.inl ⟨by omega, by rw [← ‹x6 = tail_0o3 x1›]; assumption⟩
    | exact Or.inr (Or.inr ⟨by omega, by omega, by rw [← ‹x8 = head_0o3 x1›]; assumption⟩)
    | exact Or.inr (Or.inl ⟨by omega, by omega, by rw [show 24 * x1 + x2 - 1 = x11 by omega]; assumption⟩)
  
def o_Dr_pointY_2 : or_T := (18, 8, [(0, (2, 0, 0, [0])), (1, (0, 0, 47, [])), (2, (0, 0, 0, [])), (3, (2, 0, 0, [3])), (6, (0, 0, 23, [])), (7, (0, -40000000, 690000000, []))], [(10, [7, 4, 6], []), (10, [6, 5, 1], []), (9, [5, 3], [7]), (9, [4, 0], [3]), (8, [2], [0])], [], [], [(20, [0, 3, 1, 2, 7], [60, 0, 5, 940, 3, 4, 6, 1007, 1008])], [], [])
theorem oo_Dr_pointY_2 {kA : Nat → ClassId} : or_ok PRD kA GG o_Dr_pointY_2 := by
  refine or_mk fun A ta ws vs hD hth hl => ?_
  intro t0 r0 t1 k1 t2 k2 t3 r3 t6 k6 t7 k7 f0 f1 f2 f3 f4
  replace f0 := shm_107 f0
  replace f1 := shm_107 f1
  replace f2 := shm_198 f2
  replace f3 := shm_137 f3
  have cr_0_3 := fdq_48 hD hth r0
  have cr_0_4 := fdq_1 hD hth r0
  have cr_0_6 := fdq_3 hD hth r0
  have cr_3_7 := fdq_46 hD hth r3
  have cr_3_8 := fdq_47 hD hth r3
  have ad_5 : v_ad (n_v vs 5) = w_ar ws (n_v vs 3) 7 := congrArg v_ad f2
  have ad_4 : v_ad (n_v vs 4) = w_ar ws (n_v vs 0) 3 := congrArg v_ad f3
  simp only [ad_4] at f0
  have h0 : v_iv (n_v vs 7) = w_ei ws (w_ar ws (n_v vs 0) 3) (v_iv (n_v vs 6)) := f0
  simp only [ad_5] at f1
  have h1 : v_iv (n_v vs 6) = w_ei ws (w_ar ws (n_v vs 3) 7) (v_iv (n_v vs 1)) := f1
  have hK_0_3 := elq_13 hD hth cr_0_3
  have hK_0_4 := elq_0 hD hth cr_0_4
  have hK_0_6 := elq_2 hD hth cr_0_6
  have hK_3_7 := elq_11 hD hth cr_3_7
  have hK_3_8 := elq_12 hD hth cr_3_8
  have nf0 : fc_1 PRD (20, [0, 3, 1, 2, 7], [60, 0, 5, 940, 3, 4, 6, 1007, 1008]) ws (vs) := ⟨nf_in hl rfl, sgq_344 (vc_Dr_pointY_2_0 (v_iv (n_v vs 1)) (v_iv (n_v vs 2)) (v_iv (n_v vs 6)) (v_iv (n_v vs 7)) (w_ei ws (w_ar ws (n_v vs 0) 3)) (w_ei ws (w_ar ws (n_v vs 3) 7)) (w_ei ws (w_ar ws (n_v vs 0) 4)) (w_ei ws (w_ar ws (n_v vs 0) 6)) (w_ei ws (w_ar ws (n_v vs 3) 8)) k1 k2 k6 k7 h0 h1 (shm_192 f4) hK_0_3 hK_0_4 hK_0_6 hK_3_7 hK_3_8)⟩
  refine ⟨(fun _ h => (by cases h)), [], trivial, ?_, (fun _ h => (by cases h))⟩
  rw [List.append_nil]
  exact List.forall_mem_cons.mpr ⟨⟨show (20 : Nat) < 100 from by decide, nf0⟩, (fun _ h => (by cases h))⟩
def n_Dr_pointY_an : List an_T := []
def t_Dr_pointY_ct : ct_L := []
set_option maxRecDepth 100000 in
theorem c_Dr_pointY {l : Launch} {D : va_G} {kA : Nat → ClassId} : ct_ok PRD l D kA GG y_Dr_pointY z_Dr_pointY e_Dr_pointY := chk_all_ok (FT := [(19, 0, 3), (22, 0, 4), (28, 0, 6), (74, 0, 0), (106, 3, 7), (109, 3, 8)]) (PT := []) (CT := t_Dr_pointY_ct) (KT := []) (NT := []) (AN := n_Dr_pointY_an) (OT := [o_Dr_pointY_0, o_Dr_pointY_1, o_Dr_pointY_2]) 0 200 (List.forall_mem_cons.mpr ⟨oo_Dr_pointY_0, List.forall_mem_cons.mpr ⟨oo_Dr_pointY_1, List.forall_mem_cons.mpr ⟨oo_Dr_pointY_2, List.forall_mem_nil _⟩⟩⟩) (by decide +kernel) ⟨List.forall_mem_cons.mpr ⟨gf_Dr_19, List.forall_mem_cons.mpr ⟨gf_Dr_22, List.forall_mem_cons.mpr ⟨gf_Dr_28, List.forall_mem_cons.mpr ⟨gf_Dr_74, List.forall_mem_cons.mpr ⟨gf_Dr_106, List.forall_mem_cons.mpr ⟨gf_Dr_109, List.forall_mem_nil _⟩⟩⟩⟩⟩⟩, List.forall_mem_nil _, List.forall_mem_nil _, List.forall_mem_nil _, List.forall_mem_nil _, GG_pl⟩ (by decide +kernel)
set_option maxHeartbeats 4000000 in
theorem vc_Em_firstFit_0_0 (cycles_0 : Int) (kz_0_7 : 0 ≤ cycles_0 ∧ cycles_0 ≤ 50) : 0 ≤ cycles_0 := by
  first
    | omega
  
def o_Em_firstFit_0 : or_T := (2, 3, [(0, (2, 0, 0, [1]))], [], [], [], [(20, [0], [50, 1, 0, 7, 0, 2, 0, 0, 2, 0, 7]), (24, [0, 0], [])], [], [])
theorem oo_Em_firstFit_0 {kA : Nat → ClassId} : or_ok PRD kA GG o_Em_firstFit_0 := by
  refine or_mk fun A ta ws vs hD hth hl => ?_
  intro t0 r0
  have kz_0_7 := fdq_49 hD hth r0
  have nf0 : fc_1 PRD (20, [0], [50, 1, 0, 7, 0, 2, 0, 0, 2, 0, 7]) ws (vs) := ⟨nf_in hl rfl, sgq_345 (vc_Em_firstFit_0_0 (w_fi ws (n_v vs 0) 7) kz_0_7)⟩
  have nf1 : fc_1 PRD (24, [0, 0], []) ws (vs) := by
    refine ⟨nf_in hl rfl, sgq_1 ?_⟩
    · show n_v vs 0 = n_v vs 0
      first | rfl | simp only [true_and]
  refine ⟨(fun _ h => (by cases h)), [], trivial, ?_, (fun _ h => (by cases h))⟩
  rw [List.append_nil]
  exact List.forall_mem_cons.mpr ⟨⟨show (20 : Nat) < 100 from by decide, nf0⟩, List.forall_mem_cons.mpr ⟨⟨show (24 : Nat) < 100 from by decide, nf1⟩, (fun _ h => (by cases h))⟩⟩
set_option maxHeartbeats 4000000 in
theorem vc_Em_firstFit_1_0 (x4 : Int) (x5 : Int) (x6 : Int) (cycles_0 : Int) (k4 : 0 ≤ x4 ∧ x4 ≤ 50) (k5 : 0 ≤ x5 ∧ x5 ≤ 50) (k6 : 0 ≤ x6 ∧ x6 ≤ 0) (d0 : x5 + 0 ≤ x4 ∧ x4 ≤ x5 + 4294967296) (f0 : x5 ≤ x4) (g1 : x5 = cycles_0) (f2 : 0 ≤ cycles_0) (kz_0_7 : 0 ≤ cycles_0 ∧ cycles_0 ≤ 50) : (x6 = 0) ∨ ((x6 + 1) ≤ cycles_0) := by
  first
    | omega
  
def o_Em_firstFit_1 : or_T := (31, 7, [(0, (2, 0, 0, [1])), (4, (0, 0, 50, [])), (5, (0, 0, 50, [])), (6, (0, 0, 0, []))], [(7, [4, 5], [3]), (9, [5, 2], [7]), (20, [2], [50, 1, 0, 7, 0, 2, 0, 0, 2, 0, 7]), (24, [0, 2], [])], [], [], [(20, [6, 0], [50, 1, 0, 1007, 3, 6, 1, 2, 1, 0, 0, 0, 0, 6, 4, 2, 1, 0, 0, 1, 2, 1, 7])], [], [(4, 5, 0, 4294967296)])
theorem oo_Em_firstFit_1 {kA : Nat → ClassId} : or_ok PRD kA GG o_Em_firstFit_1 := by
  refine or_mk fun A ta ws vs hD hth hl => ?_
  intro t0 r0 t4 k4 t5 k5 t6 k6 d0 f0 f1 f2 f3
  replace f1 := shm_198 f1
  replace f2 := shm_345 f2
  replace f3 := shm_5 f3
  have q2 : n_v vs 2 = n_v vs 0 := f3.symm
  simp only [q2] at f1 f2
  have g1 : v_iv (n_v vs 5) = w_fi ws (n_v vs 0) 7 := congrArg v_iv f1
  have kz_0_7 := fdq_49 hD hth r0
  have nf0 : fc_1 PRD (20, [6, 0], [50, 1, 0, 1007, 3, 6, 1, 2, 1, 0, 0, 0, 0, 6, 4, 2, 1, 0, 0, 1, 2, 1, 7]) ws (vs) := ⟨nf_in hl rfl, sgq_346 (vc_Em_firstFit_1_0 (v_iv (n_v vs 4)) (v_iv (n_v vs 5)) (v_iv (n_v vs 6)) (w_fi ws (n_v vs 0) 7) k4 k5 k6 d0 (shm_2 f0) g1 f2 kz_0_7)⟩
  refine ⟨(fun _ h => (by cases h)), [], trivial, ?_, (fun _ h => (by cases h))⟩
  rw [List.append_nil]
  exact List.forall_mem_cons.mpr ⟨⟨show (20 : Nat) < 100 from by decide, nf0⟩, (fun _ h => (by cases h))⟩
set_option maxHeartbeats 4000000 in
theorem vc_Em_firstFit_2_0 (x4 : Int) (x5 : Int) (cycles_0 : Int) (k4 : 0 ≤ x4 ∧ x4 ≤ 49) (k5 : 1 ≤ x5 ∧ x5 ≤ 50) (d0 : x5 + (-4294967296) ≤ x4 ∧ x4 ≤ x5 + (-1)) (f0 : x4 < x5) (g1 : x5 = cycles_0) (f2 : 0 ≤ cycles_0) (kz_0_7 : 0 ≤ cycles_0 ∧ cycles_0 ≤ 50) : (x4 = 0) ∨ ((x4 + 1) ≤ cycles_0) := by
  first
    | omega
  
def o_Em_firstFit_2 : or_T := (23, 9, [(0, (2, 0, 0, [1])), (4, (0, 0, 49, [])), (5, (0, 1, 50, []))], [(7, [4, 5], [2]), (9, [5, 2], [7]), (20, [2], [50, 1, 0, 7, 0, 2, 0, 0, 2, 0, 7]), (24, [0, 2], [])], [], [], [(20, [4, 0], [50, 1, 0, 1007, 3, 6, 1, 2, 1, 0, 0, 0, 0, 6, 4, 2, 1, 0, 0, 1, 2, 1, 7])], [], [(4, 5, -4294967296, -1)])
theorem oo_Em_firstFit_2 {kA : Nat → ClassId} : or_ok PRD kA GG o_Em_firstFit_2 := by
  refine or_mk fun A ta ws vs hD hth hl => ?_
  intro t0 r0 t4 k4 t5 k5 d0 f0 f1 f2 f3
  replace f1 := shm_198 f1
  replace f2 := shm_345 f2
  replace f3 := shm_5 f3
  have q2 : n_v vs 2 = n_v vs 0 := f3.symm
  simp only [q2] at f1 f2
  have g1 : v_iv (n_v vs 5) = w_fi ws (n_v vs 0) 7 := congrArg v_iv f1
  have kz_0_7 := fdq_49 hD hth r0
  have nf0 : fc_1 PRD (20, [4, 0], [50, 1, 0, 1007, 3, 6, 1, 2, 1, 0, 0, 0, 0, 6, 4, 2, 1, 0, 0, 1, 2, 1, 7]) ws (vs) := ⟨nf_in hl rfl, sgq_346 (vc_Em_firstFit_2_0 (v_iv (n_v vs 4)) (v_iv (n_v vs 5)) (w_fi ws (n_v vs 0) 7) k4 k5 d0 (shm_6 f0) g1 f2 kz_0_7)⟩
  refine ⟨(fun _ h => (by cases h)), [], trivial, ?_, (fun _ h => (by cases h))⟩
  rw [List.append_nil]
  exact List.forall_mem_cons.mpr ⟨⟨show (20 : Nat) < 100 from by decide, nf0⟩, (fun _ h => (by cases h))⟩
def n_Em_firstFit_an : List an_T := [(2, [(0, (2, 0, 0, [1])), (1, (0, 0, 33554431, [])), (2, (0, 0, 50, []))], [], (0, 0), [(0, 0, 99998), (1, 4, 50), (0, 0, 100000)], [(1, 3, (Int.negSucc 999999999999), 0), (3, 1, (Int.negSucc 999999999999), 0)], [], [(2, 0, 0, [1]), (0, 0, 33554431, [])], 0, [], [(20, [2], [50, 1, 0, 7, 0, 2, 0, 0, 2, 0, 7]), (24, [0, 2], [])])]
def t_Em_firstFit_ct : ct_L := []
set_option maxRecDepth 100000 in
theorem c_Em_firstFit {l : Launch} {D : va_G} {kA : Nat → ClassId} : ct_ok PRD l D kA GG y_Em_firstFit z_Em_firstFit e_Em_firstFit := chk_all_ok (FT := [(39, 1, 7), (48, 1, 10)]) (PT := []) (CT := t_Em_firstFit_ct) (KT := []) (NT := []) (AN := n_Em_firstFit_an) (OT := [o_Em_firstFit_0, o_Em_firstFit_1, o_Em_firstFit_2]) 3 200 (List.forall_mem_cons.mpr ⟨oo_Em_firstFit_0, List.forall_mem_cons.mpr ⟨oo_Em_firstFit_1, List.forall_mem_cons.mpr ⟨oo_Em_firstFit_2, List.forall_mem_nil _⟩⟩⟩) (by decide +kernel) ⟨List.forall_mem_cons.mpr ⟨gf_Em_39, List.forall_mem_cons.mpr ⟨gf_Em_48, List.forall_mem_nil _⟩⟩, List.forall_mem_nil _, List.forall_mem_nil _, List.forall_mem_nil _, List.forall_mem_nil _, GG_pl⟩ (by decide +kernel)
set_option maxHeartbeats 4000000 in
theorem vc_Em_indexIn_0_0 (x1 : Int) (cycles_0 : Int) (k1 : 0 ≤ x1 ∧ x1 ≤ 49) (kz_0_7 : 0 ≤ cycles_0 ∧ cycles_0 ≤ 50) : 0 ≤ cycles_0 := by
  first
    | omega
  
def o_Em_indexIn_0 : or_T := (2, 4, [(0, (2, 0, 0, [1])), (1, (0, 0, 49, []))], [], [], [], [(20, [0], [50, 1, 0, 7, 0, 2, 0, 0, 2, 0, 7]), (24, [0, 0], []), (24, [1, 1], [])], [], [])
theorem oo_Em_indexIn_0 {kA : Nat → ClassId} : or_ok PRD kA GG o_Em_indexIn_0 := by
  refine or_mk fun A ta ws vs hD hth hl => ?_
  intro t0 r0 t1 k1
  have kz_0_7 := fdq_49 hD hth r0
  have nf0 : fc_1 PRD (20, [0], [50, 1, 0, 7, 0, 2, 0, 0, 2, 0, 7]) ws (vs) := ⟨nf_in hl rfl, sgq_345 (vc_Em_indexIn_0_0 (v_iv (n_v vs 1)) (w_fi ws (n_v vs 0) 7) k1 kz_0_7)⟩
  have nf1 : fc_1 PRD (24, [0, 0], []) ws (vs) := by
    refine ⟨nf_in hl rfl, sgq_1 ?_⟩
    · show n_v vs 0 = n_v vs 0
      first | rfl | simp only [true_and]
  have nf2 : fc_1 PRD (24, [1, 1], []) ws (vs) := by
    refine ⟨nf_in hl rfl, sgq_1 ?_⟩
    · show n_v vs 1 = n_v vs 1
      first | rfl | simp only [true_and]
  refine ⟨(fun _ h => (by cases h)), [], trivial, ?_, (fun _ h => (by cases h))⟩
  rw [List.append_nil]
  exact List.forall_mem_cons.mpr ⟨⟨show (20 : Nat) < 100 from by decide, nf0⟩, List.forall_mem_cons.mpr ⟨⟨show (24 : Nat) < 100 from by decide, nf1⟩, List.forall_mem_cons.mpr ⟨⟨show (24 : Nat) < 100 from by decide, nf2⟩, (fun _ h => (by cases h))⟩⟩⟩
set_option maxHeartbeats 4000000 in
theorem vc_Em_indexIn_1_0 (x1 : Int) (x4 : Int) (x6 : Int) (x8 : Int) (x9 : Int) (cycleLength_0 : Int → Int) (cycles_0 : Int) (k1 : 0 ≤ x1 ∧ x1 ≤ 49) (k4 : 0 ≤ x4 ∧ x4 ≤ 49) (k6 : 0 ≤ x6 ∧ x6 ≤ 25) (k8 : 0 ≤ x8 ∧ x8 ≤ 25) (k9 : 0 ≤ x9 ∧ x9 ≤ 0) (d0 : x8 + 0 ≤ x6 ∧ x6 ≤ x8 + 4294967296) (d1 : x4 + (-4294967296) ≤ x1 ∧ x1 ≤ x4 + 0) (d2 : x1 + (-4294967296) ≤ x4 ∧ x4 ≤ x1 + 0) (f0 : x8 ≤ x6) (h1 : x8 = cycleLength_0 (x1)) (f3 : 0 ≤ cycles_0) (hK_0_9 : ∀ j : Int, 0 ≤ j → j < 50 → 0 ≤ cycleLength_0 j ∧ cycleLength_0 j ≤ 25) (kz_0_7 : 0 ≤ cycles_0 ∧ cycles_0 ≤ 50) : (x9 = 0) ∨ ((x9 + 1) ≤ cycleLength_0 (x1)) := by
  first
    | omega
  
def o_Em_indexIn_1 : or_T := (36, 10, [(0, (2, 0, 0, [1])), (1, (0, 0, 49, [])), (4, (0, 0, 49, [])), (6, (0, 0, 25, [])), (8, (0, 0, 25, [])), (9, (0, 0, 0, []))], [(7, [6, 8], [3]), (10, [8, 7, 4], []), (9, [7, 3], [9]), (20, [3], [50, 1, 0, 7, 0, 2, 0, 0, 2, 0, 7]), (24, [0, 3], []), (24, [1, 4], [])], [], [], [(20, [9, 0, 1], [50, 0, 1, 1009, 3, 6, 1, 2, 1, 0, 0, 0, 0, 6, 4, 2, 1, 0, 0, 1, 3, 1, 9, 1, 2])], [], [(6, 8, 0, 4294967296), (1, 4, -4294967296, 0), (4, 1, -4294967296, 0)])
theorem oo_Em_indexIn_1 {kA : Nat → ClassId} : or_ok PRD kA GG o_Em_indexIn_1 := by
  refine or_mk fun A ta ws vs hD hth hl => ?_
  intro t0 r0 t1 k1 t4 k4 t6 k6 t8 k8 t9 k9 d0 d1 d2 f0 f1 f2 f3 f4 f5
  replace f1 := shm_107 f1
  replace f2 := shm_119 f2
  replace f3 := shm_345 f3
  replace f4 := shm_5 f4
  replace f5 := shm_5 f5
  have q3 : n_v vs 3 = n_v vs 0 := f4.symm
  have q4 : n_v vs 4 = n_v vs 1 := f5.symm
  simp only [q4, q3] at f1 f2 f3
  have cr_0_9 := fdq_50 hD hth r0
  have ad_7 : v_ad (n_v vs 7) = w_ar ws (n_v vs 0) 9 := congrArg v_ad f2
  simp only [ad_7] at f1
  have h1 : v_iv (n_v vs 8) = w_ei ws (w_ar ws (n_v vs 0) 9) (v_iv (n_v vs 1)) := f1
  have hK_0_9 := elq_14 hD hth cr_0_9
  have kz_0_7 := fdq_49 hD hth r0
  have nf0 : fc_1 PRD (20, [9, 0, 1], [50, 0, 1, 1009, 3, 6, 1, 2, 1, 0, 0, 0, 0, 6, 4, 2, 1, 0, 0, 1, 3, 1, 9, 1, 2]) ws (vs) := ⟨nf_in hl rfl, sgq_347 (vc_Em_indexIn_1_0 (v_iv (n_v vs 1)) (v_iv (n_v vs 4)) (v_iv (n_v vs 6)) (v_iv (n_v vs 8)) (v_iv (n_v vs 9)) (w_ei ws (w_ar ws (n_v vs 0) 9)) (w_fi ws (n_v vs 0) 7) k1 k4 k6 k8 k9 d0 d1 d2 (shm_2 f0) h1 f3 hK_0_9 kz_0_7)⟩
  refine ⟨(fun _ h => (by cases h)), [], trivial, ?_, (fun _ h => (by cases h))⟩
  rw [List.append_nil]
  exact List.forall_mem_cons.mpr ⟨⟨show (20 : Nat) < 100 from by decide, nf0⟩, (fun _ h => (by cases h))⟩
set_option maxHeartbeats 4000000 in
theorem vc_Em_indexIn_2_0 (x1 : Int) (x4 : Int) (x6 : Int) (x8 : Int) (cycleLength_0 : Int → Int) (cycles_0 : Int) (k1 : 0 ≤ x1 ∧ x1 ≤ 49) (k4 : 0 ≤ x4 ∧ x4 ≤ 49) (k6 : 0 ≤ x6 ∧ x6 ≤ 24) (k8 : 1 ≤ x8 ∧ x8 ≤ 25) (d0 : x8 + (-4294967296) ≤ x6 ∧ x6 ≤ x8 + (-1)) (d1 : x4 + (-4294967296) ≤ x1 ∧ x1 ≤ x4 + 0) (d2 : x1 + (-4294967296) ≤ x4 ∧ x4 ≤ x1 + 0) (f0 : x6 < x8) (h1 : x8 = cycleLength_0 (x1)) (f3 : 0 ≤ cycles_0) (hK_0_9 : ∀ j : Int, 0 ≤ j → j < 50 → 0 ≤ cycleLength_0 j ∧ cycleLength_0 j ≤ 25) (kz_0_7 : 0 ≤ cycles_0 ∧ cycles_0 ≤ 50) : (x6 = 0) ∨ ((x6 + 1) ≤ cycleLength_0 (x1)) := by
  first
    | omega
  
def o_Em_indexIn_2 : or_T := (28, 14, [(0, (2, 0, 0, [1])), (1, (0, 0, 49, [])), (4, (0, 0, 49, [])), (6, (0, 0, 24, [])), (8, (0, 1, 25, []))], [(7, [6, 8], [2]), (10, [8, 7, 4], []), (9, [7, 3], [9]), (20, [3], [50, 1, 0, 7, 0, 2, 0, 0, 2, 0, 7]), (24, [0, 3], []), (24, [1, 4], [])], [], [], [(20, [6, 0, 1], [50, 0, 1, 1009, 3, 6, 1, 2, 1, 0, 0, 0, 0, 6, 4, 2, 1, 0, 0, 1, 3, 1, 9, 1, 2])], [], [(6, 8, -4294967296, -1), (1, 4, -4294967296, 0), (4, 1, -4294967296, 0)])
theorem oo_Em_indexIn_2 {kA : Nat → ClassId} : or_ok PRD kA GG o_Em_indexIn_2 := by
  refine or_mk fun A ta ws vs hD hth hl => ?_
  intro t0 r0 t1 k1 t4 k4 t6 k6 t8 k8 d0 d1 d2 f0 f1 f2 f3 f4 f5
  replace f1 := shm_107 f1
  replace f2 := shm_119 f2
  replace f3 := shm_345 f3
  replace f4 := shm_5 f4
  replace f5 := shm_5 f5
  have q3 : n_v vs 3 = n_v vs 0 := f4.symm
  have q4 : n_v vs 4 = n_v vs 1 := f5.symm
  simp only [q4, q3] at f1 f2 f3
  have cr_0_9 := fdq_50 hD hth r0
  have ad_7 : v_ad (n_v vs 7) = w_ar ws (n_v vs 0) 9 := congrArg v_ad f2
  simp only [ad_7] at f1
  have h1 : v_iv (n_v vs 8) = w_ei ws (w_ar ws (n_v vs 0) 9) (v_iv (n_v vs 1)) := f1
  have hK_0_9 := elq_14 hD hth cr_0_9
  have kz_0_7 := fdq_49 hD hth r0
  have nf0 : fc_1 PRD (20, [6, 0, 1], [50, 0, 1, 1009, 3, 6, 1, 2, 1, 0, 0, 0, 0, 6, 4, 2, 1, 0, 0, 1, 3, 1, 9, 1, 2]) ws (vs) := ⟨nf_in hl rfl, sgq_347 (vc_Em_indexIn_2_0 (v_iv (n_v vs 1)) (v_iv (n_v vs 4)) (v_iv (n_v vs 6)) (v_iv (n_v vs 8)) (w_ei ws (w_ar ws (n_v vs 0) 9)) (w_fi ws (n_v vs 0) 7) k1 k4 k6 k8 d0 d1 d2 (shm_6 f0) h1 f3 hK_0_9 kz_0_7)⟩
  refine ⟨(fun _ h => (by cases h)), [], trivial, ?_, (fun _ h => (by cases h))⟩
  rw [List.append_nil]
  exact List.forall_mem_cons.mpr ⟨⟨show (20 : Nat) < 100 from by decide, nf0⟩, (fun _ h => (by cases h))⟩
def n_Em_indexIn_an : List an_T := [(2, [(0, (2, 0, 0, [1])), (1, (0, 0, 49, [])), (2, (0, 0, 24, [])), (3, (0, 0, 25, []))], [], (0, 0), [(0, 0, 99998), (1, 6, 25), (0, 0, 100000)], [(1, 4, (Int.negSucc 999999999999), 0), (2, 5, (Int.negSucc 999999999999), 0), (4, 1, (Int.negSucc 999999999999), 0), (5, 2, (Int.negSucc 999999999999), 0)], [], [(2, 0, 0, [1]), (0, 0, 49, []), (0, 0, 24, [])], 0, [], [(20, [3], [50, 1, 0, 7, 0, 2, 0, 0, 2, 0, 7]), (24, [0, 3], []), (24, [1, 4], [])])]
def t_Em_indexIn_ct : ct_L := []
set_option maxRecDepth 100000 in
theorem c_Em_indexIn {l : Launch} {D : va_G} {kA : Nat → ClassId} : ct_ok PRD l D kA GG y_Em_indexIn z_Em_indexIn e_Em_indexIn := chk_all_ok (FT := [(42, 1, 8), (45, 1, 9)]) (PT := []) (CT := t_Em_indexIn_ct) (KT := []) (NT := []) (AN := n_Em_indexIn_an) (OT := [o_Em_indexIn_0, o_Em_indexIn_1, o_Em_indexIn_2]) 3 200 (List.forall_mem_cons.mpr ⟨oo_Em_indexIn_0, List.forall_mem_cons.mpr ⟨oo_Em_indexIn_1, List.forall_mem_cons.mpr ⟨oo_Em_indexIn_2, List.forall_mem_nil _⟩⟩⟩) (by decide +kernel) ⟨List.forall_mem_cons.mpr ⟨gf_Em_42, List.forall_mem_cons.mpr ⟨gf_Em_45, List.forall_mem_nil _⟩⟩, List.forall_mem_nil _, List.forall_mem_nil _, List.forall_mem_nil _, List.forall_mem_nil _, GG_pl⟩ (by decide +kernel)
set_option maxHeartbeats 4000000 in
theorem vc_Em_layRing_0_0 (x1 : Int) (x3 : Int) (x4 : Int) (x5 : Int) (x6 : Int) (x7 : Int) (drawnNodes_0 : Int) (way_0 : Int → Int) (wayLength_0 : Int) (way_1 : Int → Int) (wayLength_1 : Int) (way_2 : Int → Int) (wayLength_2 : Int) (way_3 : Int → Int) (wayLength_3 : Int) (drawnNodes_1 : Int) (drawnNodes_2 : Int) (drawnNodes_3 : Int) (cycle_0 : Int → Int) (cycle_1 : Int → Int) (cycle_2 : Int → Int) (cycle_3 : Int → Int) (k1 : 0 ≤ x1 ∧ x1 ≤ 24) (k3 : 0 ≤ x3 ∧ x3 ≤ 0) (k4 : 25 ≤ x4 ∧ x4 ≤ 25) (k5 : 1 ≤ x5 ∧ x5 ≤ 1) (k6 : 1 ≤ x6 ∧ x6 ≤ 16777216) (k7 : 1 ≤ x7 ∧ x7 ≤ 1) (g0 : x6 = drawnNodes_0) (f2 : RNP (wayLength_0) (way_0) (x1)) (f4 : bvp (x6) = bvp (x5) <<< (x1).toNat) (f5 : RNP (wayLength_1) (way_1) (x1)) (f7 : RNP (wayLength_2) (way_2) (x1)) (f9 : RNP (wayLength_3) (way_3) (x1)) (fe_0_6_1 : drawnNodes_0 = x6) (fe_0_15_1 : wayLength_0 = wayLength_1) (fe_0_6_2 : drawnNodes_1 = drawnNodes_2) (fe_0_15_2 : wayLength_1 = wayLength_2) (fe_0_6_3 : drawnNodes_2 = drawnNodes_3) (fe_0_15_3 : wayLength_2 = wayLength_3) (hE_0_8_1 : ∀ j : Int, cycle_0 j = cycle_1 j) (hE_0_8_2 : ∀ j : Int, 0 ≤ j → (j = x4 → cycle_1 j = x1) ∧ (j ≠ x4 → cycle_1 j = cycle_2 j)) (hE_0_8_3 : ∀ j : Int, 0 ≤ j → (j = x3 → cycle_2 j = x1) ∧ (j ≠ x3 → cycle_2 j = cycle_3 j)) (hK_0_8 : ∀ j : Int, 0 ≤ j → j < 1250 → 0 ≤ cycle_0 j ∧ cycle_0 j ≤ 24) (hE_0_14_1 : ∀ j : Int, way_0 j = way_1 j) (hE_0_14_2 : ∀ j : Int, way_1 j = way_2 j) (hE_0_14_3 : ∀ j : Int, way_2 j = way_3 j) (hK_0_14 : ∀ j : Int, 0 ≤ j → j < 27 → 0 ≤ way_0 j ∧ way_0 j ≤ 24) (kz_0_6 : 0 ≤ drawnNodes_0 ∧ drawnNodes_0 ≤ 33554431) (kz_0_15 : 0 ≤ wayLength_0 ∧ wayLength_0 ≤ 27) : LRI (wayLength_0) (drawnNodes_0) (cycle_0) (way_0) (x1) (x7) := by
  subst fe_0_15_1
  subst fe_0_6_2
  subst fe_0_15_2
  subst fe_0_6_3
  subst fe_0_15_3
  have e_hE_0_8_1 := funext hE_0_8_1; subst e_hE_0_8_1
  have e_hE_0_14_1 := funext hE_0_14_1; subst e_hE_0_14_1
  have e_hE_0_14_2 := funext hE_0_14_2; subst e_hE_0_14_2
  have e_hE_0_14_3 := funext hE_0_14_3; subst e_hE_0_14_3
  first
    | (have o1 : x5 = 1 := by omega
       subst o1
       rw [← ‹x6 = drawnNodes_0›]
       exact lri_start (p1 := x3) (v1 := x1) (p2 := x4) (v2 := x1) ‹RNP _ _ _› (by omega) (by omega) (by omega) (by assumption) (by omega) rfl (by assumption) (by omega) rfl (by assumption))
    | (have o1 : x18 = 1 := by omega
       subst o1
       rw [← ‹x23 = drawnNodes_0›]
       have hl := (‹LRI _ _ _ _ _ _›)
       rw [← ‹x5 = drawnNodes_1›] at hl
       exact lri_step (w2 := 0) (p1 := x4) (v1 := x11) (p2 := x14) (v2 := x17) (x := x21) (q := x22) hl (by omega) (by assumption) rfl (by rw [show x4 - 1 = x10 by omega]; assumption) (by assumption) (by omega) (by rw [show x4 - 1 = x16 by omega]; assumption) (by rw [show x4 - 1 = x20 by omega]; assumption) (by assumption) (by assumption) (by omega) rfl)
  
def o_Em_layRing_0 : or_T := (24, 8, [(0, (2, 0, 0, [1])), (1, (0, 0, 24, [])), (2, (2, 0, 0, [29])), (3, (0, 0, 0, [])), (4, (0, 25, 25, [])), (5, (0, 1, 1, [])), (6, (0, 1, 16777216, [])), (7, (0, 1, 1, []))], [(9, [6, 0], [6]), (9, [2, 0], [8]), (20, [0, 1], [60, 1, 1, 604, 15, 14]), (101, [0, 6], [6]), (16, [6, 5, 1], [3]), (20, [0, 1], [60, 1, 1, 604, 15, 14]), (100, [2, 4, 1], []), (20, [0, 1], [60, 1, 1, 604, 15, 14]), (100, [2, 3, 1], []), (20, [0, 1], [60, 1, 1, 604, 15, 14])], [], [], [(20, [0, 1, 7], [60, 2, 2, 605, 15, 6, 8, 14]), (24, [0, 0], []), (24, [1, 1], [])], [], [])
theorem oo_Em_layRing_0 {kA : Nat → ClassId} : or_ok PRD kA GG o_Em_layRing_0 := by
  refine or_mk fun A ta ws vs hD hth hl => ?_
  intro t0 r0 t1 k1 t2 r2 t3 k3 t4 k4 t5 k5 t6 k6 t7 k7 f0 f1 f2 ta1 w1 le1 s1 f4 f5 ta2 w2 le2 s2 f7 ta3 w3 le3 s3 f9
  replace f0 := shm_111 f0
  replace f1 := shm_293 f1
  have s1 : (∀ b j, w_el ws b j = w_el w1 b j) ∧ ∀ b j, w_fd ws b j = if b = v_ad (n_v vs 0) ∧ j = 6 then n_v vs 6 else w_fd w1 b j := s1.2
  replace f5 := shm_348 f5
  have s2 : (∀ b j, w_el w1 b j = if b = v_ad (n_v vs 2) ∧ j = (v_iv (n_v vs 4)).toNat then v_iv (n_v vs 1) else w_el w2 b j) ∧ ∀ b k, w_fd w1 b k = w_fd w2 b k := s2.2
  replace f7 := shm_348 f7
  have s3 : (∀ b j, w_el w2 b j = if b = v_ad (n_v vs 2) ∧ j = (v_iv (n_v vs 3)).toNat then v_iv (n_v vs 1) else w_el w3 b j) ∧ ∀ b k, w_fd w2 b k = w_fd w3 b k := s3.2
  replace f9 := shm_348 f9
  have cr_0_8 := fdq_51 hD hth r0
  have ar_0_14_1 : w_ar w1 (n_v vs 0) 14 = w_ar ws (n_v vs 0) 14 := by show v_ad (w_fd w1 _ _) = v_ad (w_fd ws _ _); rw [s1.2, if_neg (fun e => absurd e.2 (by decide))]
  have ar_0_14_2 : w_ar w2 (n_v vs 0) 14 = w_ar ws (n_v vs 0) 14 := by rw [← ar_0_14_1]; show v_ad (w_fd w2 _ _) = v_ad (w_fd w1 _ _); rw [s2.2]
  have ar_0_14_3 : w_ar w3 (n_v vs 0) 14 = w_ar ws (n_v vs 0) 14 := by rw [← ar_0_14_2]; show v_ad (w_fd w3 _ _) = v_ad (w_fd w2 _ _); rw [s3.2]
  have cr_0_14 := fdq_52 hD hth r0
  have ad_2 : v_ad (n_v vs 2) = w_ar ws (n_v vs 0) 8 := congrArg v_ad f1
  have g0 : v_iv (n_v vs 6) = w_fi ws (n_v vs 0) 6 := congrArg v_iv f0
  simp only [ar_0_14_1, ar_0_14_2, ar_0_14_3] at f5 f7 f9
  have fe_0_6_1 : w_fi ws (n_v vs 0) 6 = v_iv (n_v vs 6) := by show v_iv (w_fd _ _ _) = _; rw [s1.2, if_pos ⟨rfl, rfl⟩]
  have fe_0_15_1 : w_fi ws (n_v vs 0) 15 = w_fi w1 (n_v vs 0) 15 := by show v_iv (w_fd _ _ _) = v_iv (w_fd _ _ _); rw [s1.2, if_neg (fun e => absurd e.2 (by decide))]
  have fe_0_6_2 : w_fi w1 (n_v vs 0) 6 = w_fi w2 (n_v vs 0) 6 := congrArg v_iv (s2.2 _ _)
  have fe_0_15_2 : w_fi w1 (n_v vs 0) 15 = w_fi w2 (n_v vs 0) 15 := congrArg v_iv (s2.2 _ _)
  have fe_0_6_3 : w_fi w2 (n_v vs 0) 6 = w_fi w3 (n_v vs 0) 6 := congrArg v_iv (s3.2 _ _)
  have fe_0_15_3 : w_fi w2 (n_v vs 0) 15 = w_fi w3 (n_v vs 0) 15 := congrArg v_iv (s3.2 _ _)
  have hE_0_8_1 : ∀ j : Int, w_ei ws (w_ar ws (n_v vs 0) 8) j = w_ei w1 (w_ar ws (n_v vs 0) 8) j := fun j => s1.1 _ _
  have hE_0_8_2 : ∀ j : Int, 0 ≤ j → (j = v_iv (n_v vs 4) → w_ei w1 (w_ar ws (n_v vs 0) 8) j = v_iv (n_v vs 1)) ∧ (j ≠ v_iv (n_v vs 4) → w_ei w1 (w_ar ws (n_v vs 0) 8) j = w_ei w2 (w_ar ws (n_v vs 0) 8) j) := fun j hj => ⟨fun h => by unfold w_ei; rw [s2.1, if_pos ⟨ad_2.symm, by rw [h]⟩], fun h => by unfold w_ei; rw [s2.1, if_neg (fun e => h (by have := e.2; omega))]⟩
  have hE_0_8_3 : ∀ j : Int, 0 ≤ j → (j = v_iv (n_v vs 3) → w_ei w2 (w_ar ws (n_v vs 0) 8) j = v_iv (n_v vs 1)) ∧ (j ≠ v_iv (n_v vs 3) → w_ei w2 (w_ar ws (n_v vs 0) 8) j = w_ei w3 (w_ar ws (n_v vs 0) 8) j) := fun j hj => ⟨fun h => by unfold w_ei; rw [s3.1, if_pos ⟨ad_2.symm, by rw [h]⟩], fun h => by unfold w_ei; rw [s3.1, if_neg (fun e => h (by have := e.2; omega))]⟩
  have hK_0_8 := elq_15 hD hth cr_0_8
  have hE_0_14_1 : ∀ j : Int, w_ei ws (w_ar ws (n_v vs 0) 14) j = w_ei w1 (w_ar ws (n_v vs 0) 14) j := fun j => s1.1 _ _
  have hE_0_14_2 : ∀ j : Int, w_ei w1 (w_ar ws (n_v vs 0) 14) j = w_ei w2 (w_ar ws (n_v vs 0) 14) j := el_kp s2.1 r2 cr_0_14 (by decide)
  have hE_0_14_3 : ∀ j : Int, w_ei w2 (w_ar ws (n_v vs 0) 14) j = w_ei w3 (w_ar ws (n_v vs 0) 14) j := el_kp s3.1 r2 cr_0_14 (by decide)
  have hK_0_14 := elq_16 hD hth cr_0_14
  have kz_0_6 := fdq_53 hD hth r0
  have kz_0_15 := fdq_54 hD hth r0
  have nf0 : fc_1 PRD (20, [0, 1, 7], [60, 2, 2, 605, 15, 6, 8, 14]) ws (vs) := ⟨nf_in hl rfl, sgq_350 (vc_Em_layRing_0_0 (v_iv (n_v vs 1)) (v_iv (n_v vs 3)) (v_iv (n_v vs 4)) (v_iv (n_v vs 5)) (v_iv (n_v vs 6)) (v_iv (n_v vs 7)) (w_fi ws (n_v vs 0) 6) (w_ei ws (w_ar ws (n_v vs 0) 14)) (w_fi ws (n_v vs 0) 15) (w_ei w1 (w_ar ws (n_v vs 0) 14)) (w_fi w1 (n_v vs 0) 15) (w_ei w2 (w_ar ws (n_v vs 0) 14)) (w_fi w2 (n_v vs 0) 15) (w_ei w3 (w_ar ws (n_v vs 0) 14)) (w_fi w3 (n_v vs 0) 15) (w_fi w1 (n_v vs 0) 6) (w_fi w2 (n_v vs 0) 6) (w_fi w3 (n_v vs 0) 6) (w_ei ws (w_ar ws (n_v vs 0) 8)) (w_ei w1 (w_ar ws (n_v vs 0) 8)) (w_ei w2 (w_ar ws (n_v vs 0) 8)) (w_ei w3 (w_ar ws (n_v vs 0) 8)) k1 k3 k4 k5 k6 k7 g0 (shm_348 f2) (shm_349 f4) f5 f7 f9 fe_0_6_1 fe_0_15_1 fe_0_6_2 fe_0_15_2 fe_0_6_3 fe_0_15_3 hE_0_8_1 hE_0_8_2 hE_0_8_3 hK_0_8 hE_0_14_1 hE_0_14_2 hE_0_14_3 hK_0_14 kz_0_6 kz_0_15)⟩
  have nf1 : fc_1 PRD (24, [0, 0], []) ws (vs) := by
    refine ⟨nf_in hl rfl, sgq_1 ?_⟩
    · show n_v vs 0 = n_v vs 0
      first | rfl | simp only [true_and]
  have nf2 : fc_1 PRD (24, [1, 1], []) ws (vs) := by
    refine ⟨nf_in hl rfl, sgq_1 ?_⟩
    · show n_v vs 1 = n_v vs 1
      first | rfl | simp only [true_and]
  refine ⟨(fun _ h => (by cases h)), [], trivial, ?_, (fun _ h => (by cases h))⟩
  rw [List.append_nil]
  exact List.forall_mem_cons.mpr ⟨⟨show (20 : Nat) < 100 from by decide, nf0⟩, List.forall_mem_cons.mpr ⟨⟨show (24 : Nat) < 100 from by decide, nf1⟩, List.forall_mem_cons.mpr ⟨⟨show (24 : Nat) < 100 from by decide, nf2⟩, (fun _ h => (by cases h))⟩⟩⟩
set_option maxHeartbeats 4000000 in
theorem vc_Em_layRing_1_r0 (x1 : Int) (x3 : Int) (x4 : Int) (x5 : Int) (x6 : Int) (drawnNodes_0 : Int) (wayLength_0 : Int) (cycle_0 : Int → Int) (way_0 : Int → Int) (cycle_1 : Int → Int) (way_1 : Int → Int) (wayLength_1 : Int) (drawnNodes_1 : Int) (k1 : 0 ≤ x1 ∧ x1 ≤ 24) (k3 : 0 ≤ x3 ∧ x3 ≤ 24) (k4 : 1 ≤ x4 ∧ x4 ≤ 27) (k5 : 0 ≤ x5 ∧ x5 ≤ 33554431) (k6 : 0 ≤ x6 ∧ x6 ≤ 27) (d0 : x6 + 0 ≤ x4 ∧ x4 ≤ x6 + 4294967296) (d1 : x3 + (-4294967296) ≤ x1 ∧ x1 ≤ x3 + 0) (d2 : x1 + (-4294967296) ≤ x3 ∧ x3 ≤ x1 + 0) (g0 : x5 = drawnNodes_0) (g1 : x6 = wayLength_0) (f2 : LRI (wayLength_0) (drawnNodes_0) (cycle_0) (way_0) (x1) (x4)) (f6 : x6 ≤ x4) (f7 : LRI (wayLength_1) (drawnNodes_1) (cycle_1) (way_1) (x1) (x4)) (fe_0_6_1 : drawnNodes_0 = drawnNodes_1) (fe_0_15_1 : wayLength_0 = wayLength_1) (hE_0_8_1 : ∀ j : Int, cycle_0 j = cycle_1 j) (hK_0_8 : ∀ j : Int, 0 ≤ j → j < 1250 → 0 ≤ cycle_0 j ∧ cycle_0 j ≤ 24) (hE_0_14_1 : ∀ j : Int, way_0 j = way_1 j) (hK_0_14 : ∀ j : Int, 0 ≤ j → j < 27 → 0 ≤ way_0 j ∧ way_0 j ≤ 24) (kz_0_6 : 0 ≤ drawnNodes_0 ∧ drawnNodes_0 ≤ 33554431) (kz_0_15 : 0 ≤ wayLength_0 ∧ wayLength_0 ≤ 27) : 0 ≤ x6 ∧ x6 ≤ 25 := by
  subst fe_0_6_1
  subst fe_0_15_1
  have e_hE_0_8_1 := funext hE_0_8_1; subst e_hE_0_8_1
  have e_hE_0_14_1 := funext hE_0_14_1; subst e_hE_0_14_1
  first
    | omega
    | (have q := rnp_le (‹LRI _ _ _ _ _ _›).1 (by omega) (by omega); omega)
  
def o_Em_layRing_1 : or_T := (107, 10, [(0, (2, 0, 0, [1])), (1, (0, 0, 24, [])), (2, (2, 0, 0, [1])), (3, (0, 0, 24, [])), (4, (0, 1, 27, [])), (5, (0, 0, 33554431, [])), (6, (0, 0, 27, []))], [(9, [5, 2], [6]), (9, [6, 2], [15]), (20, [2, 3, 4], [60, 2, 2, 605, 15, 6, 8, 14]), (24, [0, 2], []), (24, [1, 3], []), (101, [2, 7], [7]), (7, [4, 6], [3]), (20, [2, 3, 4], [60, 2, 2, 605, 15, 6, 8, 14])], [(6, (0, 0, 25, []))], [], [], [], [(4, 6, 0, 4294967296), (1, 3, -4294967296, 0), (3, 1, -4294967296, 0)])
theorem oo_Em_layRing_1 {kA : Nat → ClassId} : or_ok PRD kA GG o_Em_layRing_1 := by
  refine or_mk fun A ta ws vs hD hth hl => ?_
  intro t0 r0 t1 k1 t2 r2 t3 k3 t4 k4 t5 k5 t6 k6 d0 d1 d2 f0 f1 f2 f3 f4 ta1 w1 le1 s1 f6 f7
  replace f0 := shm_111 f0
  replace f1 := shm_177 f1
  replace f2 := shm_350 f2
  replace f3 := shm_5 f3
  replace f4 := shm_5 f4
  have s1 : (∀ b j, w_el ws b j = w_el w1 b j) ∧ ∀ b j, w_fd ws b j = if b = v_ad (n_v vs 2) ∧ j = 7 then n_v vs 7 else w_fd w1 b j := s1.2
  replace f7 := shm_350 f7
  have q2 : n_v vs 2 = n_v vs 0 := f3.symm
  have q3 : n_v vs 3 = n_v vs 1 := f4.symm
  simp only [q2, q3] at f0 f1 f2
  rw [q2] at s1
  simp only [q2, q3] at f7
  have ar_0_8_1 : w_ar w1 (n_v vs 0) 8 = w_ar ws (n_v vs 0) 8 := by show v_ad (w_fd w1 _ _) = v_ad (w_fd ws _ _); rw [s1.2, if_neg (fun e => absurd e.2 (by decide))]
  have cr_0_8 := fdq_51 hD hth r0
  have ar_0_14_1 : w_ar w1 (n_v vs 0) 14 = w_ar ws (n_v vs 0) 14 := by show v_ad (w_fd w1 _ _) = v_ad (w_fd ws _ _); rw [s1.2, if_neg (fun e => absurd e.2 (by decide))]
  have cr_0_14 := fdq_52 hD hth r0
  have g0 : v_iv (n_v vs 5) = w_fi ws (n_v vs 0) 6 := congrArg v_iv f0
  have g1 : v_iv (n_v vs 6) = w_fi ws (n_v vs 0) 15 := congrArg v_iv f1
  simp only [ar_0_8_1, ar_0_14_1] at f7
  have fe_0_6_1 : w_fi ws (n_v vs 0) 6 = w_fi w1 (n_v vs 0) 6 := by show v_iv (w_fd _ _ _) = v_iv (w_fd _ _ _); rw [s1.2, if_neg (fun e => absurd e.2 (by decide))]
  have fe_0_15_1 : w_fi ws (n_v vs 0) 15 = w_fi w1 (n_v vs 0) 15 := by show v_iv (w_fd _ _ _) = v_iv (w_fd _ _ _); rw [s1.2, if_neg (fun e => absurd e.2 (by decide))]
  have hE_0_8_1 : ∀ j : Int, w_ei ws (w_ar ws (n_v vs 0) 8) j = w_ei w1 (w_ar ws (n_v vs 0) 8) j := fun j => s1.1 _ _
  have hK_0_8 := elq_15 hD hth cr_0_8
  have hE_0_14_1 : ∀ j : Int, w_ei ws (w_ar ws (n_v vs 0) 14) j = w_ei w1 (w_ar ws (n_v vs 0) 14) j := fun j => s1.1 _ _
  have hK_0_14 := elq_16 hD hth cr_0_14
  have kz_0_6 := fdq_53 hD hth r0
  have kz_0_15 := fdq_54 hD hth r0
  have hrf0 : 0 ≤ v_iv (n_v vs 6) ∧ v_iv (n_v vs 6) ≤ 25 := vc_Em_layRing_1_r0 (v_iv (n_v vs 1)) (v_iv (n_v vs 3)) (v_iv (n_v vs 4)) (v_iv (n_v vs 5)) (v_iv (n_v vs 6)) (w_fi ws (n_v vs 0) 6) (w_fi ws (n_v vs 0) 15) (w_ei ws (w_ar ws (n_v vs 0) 8)) (w_ei ws (w_ar ws (n_v vs 0) 14)) (w_ei w1 (w_ar ws (n_v vs 0) 8)) (w_ei w1 (w_ar ws (n_v vs 0) 14)) (w_fi w1 (n_v vs 0) 15) (w_fi w1 (n_v vs 0) 6) k1 k3 k4 k5 k6 d0 d1 d2 g0 g1 f2 (shm_2 f6) f7 fe_0_6_1 fe_0_15_1 hE_0_8_1 hK_0_8 hE_0_14_1 hK_0_14 kz_0_6 kz_0_15
  have rf6 : tv_ok ta (0, 0, 25, []) (n_v vs 6) := tv_in t6 (by first | omega | grind) (by first | omega | grind)
  refine ⟨List.forall_mem_cons.mpr ⟨rf6, (fun _ h => (by cases h))⟩, [], trivial, ?_, (fun _ h => (by cases h))⟩
  rw [List.append_nil]
  exact (fun _ h => (by cases h))
set_option maxHeartbeats 4000000 in
theorem vc_Em_layRing_2_0 (x1 : Int) (x3 : Int) (x4 : Int) (x5 : Int) (x6 : Int) (x7 : Int) (x9 : Int) (x10 : Int) (x12 : Int) (x13 : Int) (cycles_0 : Int) (wayLength_0 : Int) (drawnNodes_0 : Int) (cycle_0 : Int → Int) (way_0 : Int → Int) (cycle_1 : Int → Int) (way_1 : Int → Int) (wayLength_1 : Int) (drawnNodes_1 : Int) (cycle_2 : Int → Int) (way_2 : Int → Int) (wayLength_2 : Int) (drawnNodes_2 : Int) (cycle_3 : Int → Int) (way_3 : Int → Int) (wayLength_3 : Int) (drawnNodes_3 : Int) (cycle_4 : Int → Int) (way_4 : Int → Int) (wayLength_4 : Int) (drawnNodes_4 : Int) (cycle_5 : Int → Int) (way_5 : Int → Int) (wayLength_5 : Int) (drawnNodes_5 : Int) (cycles_1 : Int) (cycles_2 : Int) (cycles_3 : Int) (cycles_4 : Int) (cycleLength_0 : Int → Int) (cycleLength_1 : Int → Int) (cycleLength_2 : Int → Int) (cycleLength_3 : Int → Int) (cycleLength_4 : Int → Int) (cycleLength_5 : Int → Int) (cycleNodes_0 : Int → Int) (cycleNodes_1 : Int → Int) (cycleNodes_2 : Int → Int) (cycleNodes_3 : Int → Int) (cycleNodes_4 : Int → Int) (cycleNodes_5 : Int → Int) (k1 : 0 ≤ x1 ∧ x1 ≤ 24) (k3 : 0 ≤ x3 ∧ x3 ≤ 24) (k4 : 1 ≤ x4 ∧ x4 ≤ 27) (k5 : 0 ≤ x5 ∧ x5 ≤ 33554431) (k6 : 0 ≤ x6 ∧ x6 ≤ 25) (k7 : 2 ≤ x7 ∧ x7 ≤ 2) (k9 : 0 ≤ x9 ∧ x9 ≤ 0) (k10 : 1 ≤ x10 ∧ x10 ≤ 1) (k12 : 0 ≤ x12 ∧ x12 ≤ 0) (k13 : 1 ≤ x13 ∧ x13 ≤ 1) (d0 : x6 + 0 ≤ x4 ∧ x4 ≤ x6 + 4294967296) (d1 : x3 + (-4294967296) ≤ x1 ∧ x1 ≤ x3 + 0) (d2 : x1 + (-4294967296) ≤ x3 ∧ x3 ≤ x1 + 0) (g2 : x7 = cycles_0) (g3 : x6 = wayLength_0) (g4 : x5 = drawnNodes_0) (f5 : LRI (wayLength_0) (drawnNodes_0) (cycle_0) (way_0) (x1) (x4)) (f9 : LRI (wayLength_1) (drawnNodes_1) (cycle_1) (way_1) (x1) (x4)) (f11 : LRI (wayLength_2) (drawnNodes_2) (cycle_2) (way_2) (x1) (x4)) (f13 : LRI (wayLength_3) (drawnNodes_3) (cycle_3) (way_3) (x1) (x4)) (f15 : LRI (wayLength_4) (drawnNodes_4) (cycle_4) (way_4) (x1) (x4)) (f17 : x6 ≤ x4) (f18 : LRI (wayLength_5) (drawnNodes_5) (cycle_5) (way_5) (x1) (x4)) (fe_0_6_1 : drawnNodes_0 = drawnNodes_1) (fe_0_7_1 : cycles_0 = cycles_1) (fe_0_15_1 : wayLength_0 = wayLength_1) (fe_0_6_2 : drawnNodes_1 = drawnNodes_2) (fe_0_7_2 : cycles_1 = cycles_2) (fe_0_15_2 : wayLength_1 = wayLength_2) (fe_0_6_3 : drawnNodes_2 = drawnNodes_3) (fe_0_7_3 : cycles_2 = cycles_3) (fe_0_15_3 : wayLength_2 = wayLength_3) (fe_0_6_4 : drawnNodes_3 = drawnNodes_4) (fe_0_7_4 : cycles_3 = cycles_4) (fe_0_15_4 : wayLength_3 = wayLength_4) (fe_0_6_5 : drawnNodes_4 = drawnNodes_5) (fe_0_7_5 : cycles_4 = x7) (fe_0_15_5 : wayLength_4 = wayLength_5) (hE_0_8_1 : ∀ j : Int, cycle_0 j = cycle_1 j) (hE_0_8_2 : ∀ j : Int, cycle_1 j = cycle_2 j) (hE_0_8_3 : ∀ j : Int, cycle_2 j = cycle_3 j) (hE_0_8_4 : ∀ j : Int, cycle_3 j = cycle_4 j) (hE_0_8_5 : ∀ j : Int, cycle_4 j = cycle_5 j) (hK_0_8 : ∀ j : Int, 0 ≤ j → j < 1250 → 0 ≤ cycle_0 j ∧ cycle_0 j ≤ 24) (hE_0_9_1 : ∀ j : Int, cycleLength_0 j = cycleLength_1 j) (hE_0_9_2 : ∀ j : Int, cycleLength_1 j = cycleLength_2 j) (hE_0_9_3 : ∀ j : Int, 0 ≤ j → (j = x10 → cycleLength_2 j = x6) ∧ (j ≠ x10 → cycleLength_2 j = cycleLength_3 j)) (hE_0_9_4 : ∀ j : Int, 0 ≤ j → (j = x9 → cycleLength_3 j = x6) ∧ (j ≠ x9 → cycleLength_3 j = cycleLength_4 j)) (hE_0_9_5 : ∀ j : Int, cycleLength_4 j = cycleLength_5 j) (hK_0_9 : ∀ j : Int, 0 ≤ j → j < 50 → 0 ≤ cycleLength_0 j ∧ cycleLength_0 j ≤ 25) (hE_0_10_1 : ∀ j : Int, 0 ≤ j → (j = x13 → cycleNodes_0 j = x5) ∧ (j ≠ x13 → cycleNodes_0 j = cycleNodes_1 j)) (hE_0_10_2 : ∀ j : Int, 0 ≤ j → (j = x12 → cycleNodes_1 j = x5) ∧ (j ≠ x12 → cycleNodes_1 j = cycleNodes_2 j)) (hE_0_10_3 : ∀ j : Int, cycleNodes_2 j = cycleNodes_3 j) (hE_0_10_4 : ∀ j : Int, cycleNodes_3 j = cycleNodes_4 j) (hE_0_10_5 : ∀ j : Int, cycleNodes_4 j = cycleNodes_5 j) (hK_0_10 : ∀ j : Int, 0 ≤ j → j < 50 → 0 ≤ cycleNodes_0 j ∧ cycleNodes_0 j ≤ 33554431) (hE_0_14_1 : ∀ j : Int, way_0 j = way_1 j) (hE_0_14_2 : ∀ j : Int, way_1 j = way_2 j) (hE_0_14_3 : ∀ j : Int, way_2 j = way_3 j) (hE_0_14_4 : ∀ j : Int, way_3 j = way_4 j) (hE_0_14_5 : ∀ j : Int, way_4 j = way_5 j) (hK_0_14 : ∀ j : Int, 0 ≤ j → j < 27 → 0 ≤ way_0 j ∧ way_0 j ≤ 24) (kz_0_6 : 0 ≤ drawnNodes_0 ∧ drawnNodes_0 ≤ 33554431) (kz_0_7 : 0 ≤ cycles_0 ∧ cycles_0 ≤ 50) (kz_0_15 : 0 ≤ wayLength_0 ∧ wayLength_0 ≤ 27) : CYR (cycles_0) (drawnNodes_0) (cycle_0) (cycleLength_0) := by
  subst fe_0_6_1
  subst fe_0_7_1
  subst fe_0_15_1
  subst fe_0_6_2
  subst fe_0_7_2
  subst fe_0_15_2
  subst fe_0_6_3
  subst fe_0_7_3
  subst fe_0_15_3
  subst fe_0_6_4
  subst fe_0_7_4
  subst fe_0_15_4
  subst fe_0_6_5
  subst fe_0_15_5
  have e_hE_0_8_1 := funext hE_0_8_1; subst e_hE_0_8_1
  have e_hE_0_8_2 := funext hE_0_8_2; subst e_hE_0_8_2
  have e_hE_0_8_3 := funext hE_0_8_3; subst e_hE_0_8_3
  have e_hE_0_8_4 := funext hE_0_8_4; subst e_hE_0_8_4
  have e_hE_0_8_5 := funext hE_0_8_5; subst e_hE_0_8_5
  have e_hE_0_9_1 := funext hE_0_9_1; subst e_hE_0_9_1
  have e_hE_0_9_2 := funext hE_0_9_2; subst e_hE_0_9_2
  have e_hE_0_9_5 := funext hE_0_9_5; subst e_hE_0_9_5
  have e_hE_0_10_3 := funext hE_0_10_3; subst e_hE_0_10_3
  have e_hE_0_10_4 := funext hE_0_10_4; subst e_hE_0_10_4
  have e_hE_0_10_5 := funext hE_0_10_5; subst e_hE_0_10_5
  have e_hE_0_14_1 := funext hE_0_14_1; subst e_hE_0_14_1
  have e_hE_0_14_2 := funext hE_0_14_2; subst e_hE_0_14_2
  have e_hE_0_14_3 := funext hE_0_14_3; subst e_hE_0_14_3
  have e_hE_0_14_4 := funext hE_0_14_4; subst e_hE_0_14_4
  have e_hE_0_14_5 := funext hE_0_14_5; subst e_hE_0_14_5
  first
    | exact cyc_ring (p1 := x9) (v1 := x6) (p2 := x10) (v2 := x6) ‹LRI _ _ _ _ _ _› (by omega) (by omega) (by assumption) (by omega) (by omega) (by assumption) (by omega) (by omega)
  
set_option maxHeartbeats 4000000 in
theorem vc_Em_layRing_2_1 (x1 : Int) (x3 : Int) (x4 : Int) (x5 : Int) (x6 : Int) (x7 : Int) (x9 : Int) (x10 : Int) (x12 : Int) (x13 : Int) (cycles_0 : Int) (wayLength_0 : Int) (drawnNodes_0 : Int) (cycle_0 : Int → Int) (way_0 : Int → Int) (cycle_1 : Int → Int) (way_1 : Int → Int) (wayLength_1 : Int) (drawnNodes_1 : Int) (cycle_2 : Int → Int) (way_2 : Int → Int) (wayLength_2 : Int) (drawnNodes_2 : Int) (cycle_3 : Int → Int) (way_3 : Int → Int) (wayLength_3 : Int) (drawnNodes_3 : Int) (cycle_4 : Int → Int) (way_4 : Int → Int) (wayLength_4 : Int) (drawnNodes_4 : Int) (cycle_5 : Int → Int) (way_5 : Int → Int) (wayLength_5 : Int) (drawnNodes_5 : Int) (cycles_1 : Int) (cycles_2 : Int) (cycles_3 : Int) (cycles_4 : Int) (cycleLength_0 : Int → Int) (cycleLength_1 : Int → Int) (cycleLength_2 : Int → Int) (cycleLength_3 : Int → Int) (cycleLength_4 : Int → Int) (cycleLength_5 : Int → Int) (cycleNodes_0 : Int → Int) (cycleNodes_1 : Int → Int) (cycleNodes_2 : Int → Int) (cycleNodes_3 : Int → Int) (cycleNodes_4 : Int → Int) (cycleNodes_5 : Int → Int) (k1 : 0 ≤ x1 ∧ x1 ≤ 24) (k3 : 0 ≤ x3 ∧ x3 ≤ 24) (k4 : 1 ≤ x4 ∧ x4 ≤ 27) (k5 : 0 ≤ x5 ∧ x5 ≤ 33554431) (k6 : 0 ≤ x6 ∧ x6 ≤ 25) (k7 : 2 ≤ x7 ∧ x7 ≤ 2) (k9 : 0 ≤ x9 ∧ x9 ≤ 0) (k10 : 1 ≤ x10 ∧ x10 ≤ 1) (k12 : 0 ≤ x12 ∧ x12 ≤ 0) (k13 : 1 ≤ x13 ∧ x13 ≤ 1) (d0 : x6 + 0 ≤ x4 ∧ x4 ≤ x6 + 4294967296) (d1 : x3 + (-4294967296) ≤ x1 ∧ x1 ≤ x3 + 0) (d2 : x1 + (-4294967296) ≤ x3 ∧ x3 ≤ x1 + 0) (g2 : x7 = cycles_0) (g3 : x6 = wayLength_0) (g4 : x5 = drawnNodes_0) (f5 : LRI (wayLength_0) (drawnNodes_0) (cycle_0) (way_0) (x1) (x4)) (f9 : LRI (wayLength_1) (drawnNodes_1) (cycle_1) (way_1) (x1) (x4)) (f11 : LRI (wayLength_2) (drawnNodes_2) (cycle_2) (way_2) (x1) (x4)) (f13 : LRI (wayLength_3) (drawnNodes_3) (cycle_3) (way_3) (x1) (x4)) (f15 : LRI (wayLength_4) (drawnNodes_4) (cycle_4) (way_4) (x1) (x4)) (f17 : x6 ≤ x4) (f18 : LRI (wayLength_5) (drawnNodes_5) (cycle_5) (way_5) (x1) (x4)) (fe_0_6_1 : drawnNodes_0 = drawnNodes_1) (fe_0_7_1 : cycles_0 = cycles_1) (fe_0_15_1 : wayLength_0 = wayLength_1) (fe_0_6_2 : drawnNodes_1 = drawnNodes_2) (fe_0_7_2 : cycles_1 = cycles_2) (fe_0_15_2 : wayLength_1 = wayLength_2) (fe_0_6_3 : drawnNodes_2 = drawnNodes_3) (fe_0_7_3 : cycles_2 = cycles_3) (fe_0_15_3 : wayLength_2 = wayLength_3) (fe_0_6_4 : drawnNodes_3 = drawnNodes_4) (fe_0_7_4 : cycles_3 = cycles_4) (fe_0_15_4 : wayLength_3 = wayLength_4) (fe_0_6_5 : drawnNodes_4 = drawnNodes_5) (fe_0_7_5 : cycles_4 = x7) (fe_0_15_5 : wayLength_4 = wayLength_5) (hE_0_8_1 : ∀ j : Int, cycle_0 j = cycle_1 j) (hE_0_8_2 : ∀ j : Int, cycle_1 j = cycle_2 j) (hE_0_8_3 : ∀ j : Int, cycle_2 j = cycle_3 j) (hE_0_8_4 : ∀ j : Int, cycle_3 j = cycle_4 j) (hE_0_8_5 : ∀ j : Int, cycle_4 j = cycle_5 j) (hK_0_8 : ∀ j : Int, 0 ≤ j → j < 1250 → 0 ≤ cycle_0 j ∧ cycle_0 j ≤ 24) (hE_0_9_1 : ∀ j : Int, cycleLength_0 j = cycleLength_1 j) (hE_0_9_2 : ∀ j : Int, cycleLength_1 j = cycleLength_2 j) (hE_0_9_3 : ∀ j : Int, 0 ≤ j → (j = x10 → cycleLength_2 j = x6) ∧ (j ≠ x10 → cycleLength_2 j = cycleLength_3 j)) (hE_0_9_4 : ∀ j : Int, 0 ≤ j → (j = x9 → cycleLength_3 j = x6) ∧ (j ≠ x9 → cycleLength_3 j = cycleLength_4 j)) (hE_0_9_5 : ∀ j : Int, cycleLength_4 j = cycleLength_5 j) (hK_0_9 : ∀ j : Int, 0 ≤ j → j < 50 → 0 ≤ cycleLength_0 j ∧ cycleLength_0 j ≤ 25) (hE_0_10_1 : ∀ j : Int, 0 ≤ j → (j = x13 → cycleNodes_0 j = x5) ∧ (j ≠ x13 → cycleNodes_0 j = cycleNodes_1 j)) (hE_0_10_2 : ∀ j : Int, 0 ≤ j → (j = x12 → cycleNodes_1 j = x5) ∧ (j ≠ x12 → cycleNodes_1 j = cycleNodes_2 j)) (hE_0_10_3 : ∀ j : Int, cycleNodes_2 j = cycleNodes_3 j) (hE_0_10_4 : ∀ j : Int, cycleNodes_3 j = cycleNodes_4 j) (hE_0_10_5 : ∀ j : Int, cycleNodes_4 j = cycleNodes_5 j) (hK_0_10 : ∀ j : Int, 0 ≤ j → j < 50 → 0 ≤ cycleNodes_0 j ∧ cycleNodes_0 j ≤ 33554431) (hE_0_14_1 : ∀ j : Int, way_0 j = way_1 j) (hE_0_14_2 : ∀ j : Int, way_1 j = way_2 j) (hE_0_14_3 : ∀ j : Int, way_2 j = way_3 j) (hE_0_14_4 : ∀ j : Int, way_3 j = way_4 j) (hE_0_14_5 : ∀ j : Int, way_4 j = way_5 j) (hK_0_14 : ∀ j : Int, 0 ≤ j → j < 27 → 0 ≤ way_0 j ∧ way_0 j ≤ 24) (kz_0_6 : 0 ≤ drawnNodes_0 ∧ drawnNodes_0 ≤ 33554431) (kz_0_7 : 0 ≤ cycles_0 ∧ cycles_0 ≤ 50) (kz_0_15 : 0 ≤ wayLength_0 ∧ wayLength_0 ≤ 27) : 2 ≤ cycles_0 := by
  subst fe_0_6_1
  subst fe_0_7_1
  subst fe_0_15_1
  subst fe_0_6_2
  subst fe_0_7_2
  subst fe_0_15_2
  subst fe_0_6_3
  subst fe_0_7_3
  subst fe_0_15_3
  subst fe_0_6_4
  subst fe_0_7_4
  subst fe_0_15_4
  subst fe_0_6_5
  subst fe_0_15_5
  have e_hE_0_8_1 := funext hE_0_8_1; subst e_hE_0_8_1
  have e_hE_0_8_2 := funext hE_0_8_2; subst e_hE_0_8_2
  have e_hE_0_8_3 := funext hE_0_8_3; subst e_hE_0_8_3
  have e_hE_0_8_4 := funext hE_0_8_4; subst e_hE_0_8_4
  have e_hE_0_8_5 := funext hE_0_8_5; subst e_hE_0_8_5
  have e_hE_0_9_1 := funext hE_0_9_1; subst e_hE_0_9_1
  have e_hE_0_9_2 := funext hE_0_9_2; subst e_hE_0_9_2
  have e_hE_0_9_5 := funext hE_0_9_5; subst e_hE_0_9_5
  have e_hE_0_10_3 := funext hE_0_10_3; subst e_hE_0_10_3
  have e_hE_0_10_4 := funext hE_0_10_4; subst e_hE_0_10_4
  have e_hE_0_10_5 := funext hE_0_10_5; subst e_hE_0_10_5
  have e_hE_0_14_1 := funext hE_0_14_1; subst e_hE_0_14_1
  have e_hE_0_14_2 := funext hE_0_14_2; subst e_hE_0_14_2
  have e_hE_0_14_3 := funext hE_0_14_3; subst e_hE_0_14_3
  have e_hE_0_14_4 := funext hE_0_14_4; subst e_hE_0_14_4
  have e_hE_0_14_5 := funext hE_0_14_5; subst e_hE_0_14_5
  first
    | omega
    | (have q := rnp_le (‹LRI _ _ _ _ _ _›).1 (by omega) (by omega); omega)
  
set_option maxHeartbeats 4000000 in
theorem vc_Em_layRing_2_2 (x1 : Int) (x3 : Int) (x4 : Int) (x5 : Int) (x6 : Int) (x7 : Int) (x9 : Int) (x10 : Int) (x12 : Int) (x13 : Int) (cycles_0 : Int) (wayLength_0 : Int) (drawnNodes_0 : Int) (cycle_0 : Int → Int) (way_0 : Int → Int) (cycle_1 : Int → Int) (way_1 : Int → Int) (wayLength_1 : Int) (drawnNodes_1 : Int) (cycle_2 : Int → Int) (way_2 : Int → Int) (wayLength_2 : Int) (drawnNodes_2 : Int) (cycle_3 : Int → Int) (way_3 : Int → Int) (wayLength_3 : Int) (drawnNodes_3 : Int) (cycle_4 : Int → Int) (way_4 : Int → Int) (wayLength_4 : Int) (drawnNodes_4 : Int) (cycle_5 : Int → Int) (way_5 : Int → Int) (wayLength_5 : Int) (drawnNodes_5 : Int) (cycles_1 : Int) (cycles_2 : Int) (cycles_3 : Int) (cycles_4 : Int) (cycleLength_0 : Int → Int) (cycleLength_1 : Int → Int) (cycleLength_2 : Int → Int) (cycleLength_3 : Int → Int) (cycleLength_4 : Int → Int) (cycleLength_5 : Int → Int) (cycleNodes_0 : Int → Int) (cycleNodes_1 : Int → Int) (cycleNodes_2 : Int → Int) (cycleNodes_3 : Int → Int) (cycleNodes_4 : Int → Int) (cycleNodes_5 : Int → Int) (k1 : 0 ≤ x1 ∧ x1 ≤ 24) (k3 : 0 ≤ x3 ∧ x3 ≤ 24) (k4 : 1 ≤ x4 ∧ x4 ≤ 27) (k5 : 0 ≤ x5 ∧ x5 ≤ 33554431) (k6 : 0 ≤ x6 ∧ x6 ≤ 25) (k7 : 2 ≤ x7 ∧ x7 ≤ 2) (k9 : 0 ≤ x9 ∧ x9 ≤ 0) (k10 : 1 ≤ x10 ∧ x10 ≤ 1) (k12 : 0 ≤ x12 ∧ x12 ≤ 0) (k13 : 1 ≤ x13 ∧ x13 ≤ 1) (d0 : x6 + 0 ≤ x4 ∧ x4 ≤ x6 + 4294967296) (d1 : x3 + (-4294967296) ≤ x1 ∧ x1 ≤ x3 + 0) (d2 : x1 + (-4294967296) ≤ x3 ∧ x3 ≤ x1 + 0) (g2 : x7 = cycles_0) (g3 : x6 = wayLength_0) (g4 : x5 = drawnNodes_0) (f5 : LRI (wayLength_0) (drawnNodes_0) (cycle_0) (way_0) (x1) (x4)) (f9 : LRI (wayLength_1) (drawnNodes_1) (cycle_1) (way_1) (x1) (x4)) (f11 : LRI (wayLength_2) (drawnNodes_2) (cycle_2) (way_2) (x1) (x4)) (f13 : LRI (wayLength_3) (drawnNodes_3) (cycle_3) (way_3) (x1) (x4)) (f15 : LRI (wayLength_4) (drawnNodes_4) (cycle_4) (way_4) (x1) (x4)) (f17 : x6 ≤ x4) (f18 : LRI (wayLength_5) (drawnNodes_5) (cycle_5) (way_5) (x1) (x4)) (fe_0_6_1 : drawnNodes_0 = drawnNodes_1) (fe_0_7_1 : cycles_0 = cycles_1) (fe_0_15_1 : wayLength_0 = wayLength_1) (fe_0_6_2 : drawnNodes_1 = drawnNodes_2) (fe_0_7_2 : cycles_1 = cycles_2) (fe_0_15_2 : wayLength_1 = wayLength_2) (fe_0_6_3 : drawnNodes_2 = drawnNodes_3) (fe_0_7_3 : cycles_2 = cycles_3) (fe_0_15_3 : wayLength_2 = wayLength_3) (fe_0_6_4 : drawnNodes_3 = drawnNodes_4) (fe_0_7_4 : cycles_3 = cycles_4) (fe_0_15_4 : wayLength_3 = wayLength_4) (fe_0_6_5 : drawnNodes_4 = drawnNodes_5) (fe_0_7_5 : cycles_4 = x7) (fe_0_15_5 : wayLength_4 = wayLength_5) (hE_0_8_1 : ∀ j : Int, cycle_0 j = cycle_1 j) (hE_0_8_2 : ∀ j : Int, cycle_1 j = cycle_2 j) (hE_0_8_3 : ∀ j : Int, cycle_2 j = cycle_3 j) (hE_0_8_4 : ∀ j : Int, cycle_3 j = cycle_4 j) (hE_0_8_5 : ∀ j : Int, cycle_4 j = cycle_5 j) (hK_0_8 : ∀ j : Int, 0 ≤ j → j < 1250 → 0 ≤ cycle_0 j ∧ cycle_0 j ≤ 24) (hE_0_9_1 : ∀ j : Int, cycleLength_0 j = cycleLength_1 j) (hE_0_9_2 : ∀ j : Int, cycleLength_1 j = cycleLength_2 j) (hE_0_9_3 : ∀ j : Int, 0 ≤ j → (j = x10 → cycleLength_2 j = x6) ∧ (j ≠ x10 → cycleLength_2 j = cycleLength_3 j)) (hE_0_9_4 : ∀ j : Int, 0 ≤ j → (j = x9 → cycleLength_3 j = x6) ∧ (j ≠ x9 → cycleLength_3 j = cycleLength_4 j)) (hE_0_9_5 : ∀ j : Int, cycleLength_4 j = cycleLength_5 j) (hK_0_9 : ∀ j : Int, 0 ≤ j → j < 50 → 0 ≤ cycleLength_0 j ∧ cycleLength_0 j ≤ 25) (hE_0_10_1 : ∀ j : Int, 0 ≤ j → (j = x13 → cycleNodes_0 j = x5) ∧ (j ≠ x13 → cycleNodes_0 j = cycleNodes_1 j)) (hE_0_10_2 : ∀ j : Int, 0 ≤ j → (j = x12 → cycleNodes_1 j = x5) ∧ (j ≠ x12 → cycleNodes_1 j = cycleNodes_2 j)) (hE_0_10_3 : ∀ j : Int, cycleNodes_2 j = cycleNodes_3 j) (hE_0_10_4 : ∀ j : Int, cycleNodes_3 j = cycleNodes_4 j) (hE_0_10_5 : ∀ j : Int, cycleNodes_4 j = cycleNodes_5 j) (hK_0_10 : ∀ j : Int, 0 ≤ j → j < 50 → 0 ≤ cycleNodes_0 j ∧ cycleNodes_0 j ≤ 33554431) (hE_0_14_1 : ∀ j : Int, way_0 j = way_1 j) (hE_0_14_2 : ∀ j : Int, way_1 j = way_2 j) (hE_0_14_3 : ∀ j : Int, way_2 j = way_3 j) (hE_0_14_4 : ∀ j : Int, way_3 j = way_4 j) (hE_0_14_5 : ∀ j : Int, way_4 j = way_5 j) (hK_0_14 : ∀ j : Int, 0 ≤ j → j < 27 → 0 ≤ way_0 j ∧ way_0 j ≤ 24) (kz_0_6 : 0 ≤ drawnNodes_0 ∧ drawnNodes_0 ≤ 33554431) (kz_0_7 : 0 ≤ cycles_0 ∧ cycles_0 ≤ 50) (kz_0_15 : 0 ≤ wayLength_0 ∧ wayLength_0 ≤ 27) : BTD (drawnNodes_0) (x1) := by
  subst fe_0_6_1
  subst fe_0_7_1
  subst fe_0_15_1
  subst fe_0_6_2
  subst fe_0_7_2
  subst fe_0_15_2
  subst fe_0_6_3
  subst fe_0_7_3
  subst fe_0_15_3
  subst fe_0_6_4
  subst fe_0_7_4
  subst fe_0_15_4
  subst fe_0_6_5
  subst fe_0_15_5
  have e_hE_0_8_1 := funext hE_0_8_1; subst e_hE_0_8_1
  have e_hE_0_8_2 := funext hE_0_8_2; subst e_hE_0_8_2
  have e_hE_0_8_3 := funext hE_0_8_3; subst e_hE_0_8_3
  have e_hE_0_8_4 := funext hE_0_8_4; subst e_hE_0_8_4
  have e_hE_0_8_5 := funext hE_0_8_5; subst e_hE_0_8_5
  have e_hE_0_9_1 := funext hE_0_9_1; subst e_hE_0_9_1
  have e_hE_0_9_2 := funext hE_0_9_2; subst e_hE_0_9_2
  have e_hE_0_9_5 := funext hE_0_9_5; subst e_hE_0_9_5
  have e_hE_0_10_3 := funext hE_0_10_3; subst e_hE_0_10_3
  have e_hE_0_10_4 := funext hE_0_10_4; subst e_hE_0_10_4
  have e_hE_0_10_5 := funext hE_0_10_5; subst e_hE_0_10_5
  have e_hE_0_14_1 := funext hE_0_14_1; subst e_hE_0_14_1
  have e_hE_0_14_2 := funext hE_0_14_2; subst e_hE_0_14_2
  have e_hE_0_14_3 := funext hE_0_14_3; subst e_hE_0_14_3
  have e_hE_0_14_4 := funext hE_0_14_4; subst e_hE_0_14_4
  have e_hE_0_14_5 := funext hE_0_14_5; subst e_hE_0_14_5
  first
    | exact btd_of ‹LRI _ _ _ _ _ _›
  
def o_Em_layRing_2 : or_T := (138, 14, [(0, (2, 0, 0, [1])), (1, (0, 0, 24, [])), (3, (0, 0, 24, [])), (4, (0, 1, 27, [])), (5, (0, 0, 33554431, [])), (6, (0, 0, 25, [])), (7, (0, 2, 2, [])), (8, (2, 0, 0, [30])), (9, (0, 0, 0, [])), (10, (0, 1, 1, [])), (11, (2, 0, 0, [31])), (12, (0, 0, 0, [])), (13, (0, 1, 1, []))], [(9, [11, 2], [10]), (9, [8, 2], [9]), (9, [7, 2], [7]), (9, [6, 2], [15]), (9, [5, 2], [6]), (20, [2, 3, 4], [60, 2, 2, 605, 15, 6, 8, 14]), (24, [0, 2], []), (24, [1, 3], []), (100, [11, 13, 5], []), (20, [2, 3, 4], [60, 2, 2, 605, 15, 6, 8, 14]), (100, [11, 12, 5], []), (20, [2, 3, 4], [60, 2, 2, 605, 15, 6, 8, 14]), (100, [8, 10, 6], []), (20, [2, 3, 4], [60, 2, 2, 605, 15, 6, 8, 14]), (100, [8, 9, 6], []), (20, [2, 3, 4], [60, 2, 2, 605, 15, 6, 8, 14]), (101, [2, 7], [7]), (7, [4, 6], [3]), (20, [2, 3, 4], [60, 2, 2, 605, 15, 6, 8, 14])], [], [], [(20, [0], [60, 2, 2, 603, 7, 6, 8, 9]), (20, [0], [50, 1, 0, 7, 0, 2, 0, 2, 2, 0, 7]), (20, [0, 1], [60, 1, 0, 606, 6])], [], [(4, 6, 0, 4294967296), (1, 3, -4294967296, 0), (3, 1, -4294967296, 0)])
theorem oo_Em_layRing_2 {kA : Nat → ClassId} : or_ok PRD kA GG o_Em_layRing_2 := by
  refine or_mk fun A ta ws vs hD hth hl => ?_
  intro t0 r0 t1 k1 t3 k3 t4 k4 t5 k5 t6 k6 t7 k7 t8 r8 t9 k9 t10 k10 t11 r11 t12 k12 t13 k13 d0 d1 d2 f0 f1 f2 f3 f4 f5 f6 f7 ta1 w1 le1 s1 f9 ta2 w2 le2 s2 f11 ta3 w3 le3 s3 f13 ta4 w4 le4 s4 f15 ta5 w5 le5 s5 f17 f18
  replace f0 := shm_106 f0
  replace f1 := shm_119 f1
  replace f2 := shm_198 f2
  replace f3 := shm_177 f3
  replace f4 := shm_111 f4
  replace f5 := shm_350 f5
  replace f6 := shm_5 f6
  replace f7 := shm_5 f7
  have s1 : (∀ b j, w_el ws b j = if b = v_ad (n_v vs 11) ∧ j = (v_iv (n_v vs 13)).toNat then v_iv (n_v vs 5) else w_el w1 b j) ∧ ∀ b k, w_fd ws b k = w_fd w1 b k := s1.2
  replace f9 := shm_350 f9
  have s2 : (∀ b j, w_el w1 b j = if b = v_ad (n_v vs 11) ∧ j = (v_iv (n_v vs 12)).toNat then v_iv (n_v vs 5) else w_el w2 b j) ∧ ∀ b k, w_fd w1 b k = w_fd w2 b k := s2.2
  replace f11 := shm_350 f11
  have s3 : (∀ b j, w_el w2 b j = if b = v_ad (n_v vs 8) ∧ j = (v_iv (n_v vs 10)).toNat then v_iv (n_v vs 6) else w_el w3 b j) ∧ ∀ b k, w_fd w2 b k = w_fd w3 b k := s3.2
  replace f13 := shm_350 f13
  have s4 : (∀ b j, w_el w3 b j = if b = v_ad (n_v vs 8) ∧ j = (v_iv (n_v vs 9)).toNat then v_iv (n_v vs 6) else w_el w4 b j) ∧ ∀ b k, w_fd w3 b k = w_fd w4 b k := s4.2
  replace f15 := shm_350 f15
  have s5 : (∀ b j, w_el w4 b j = w_el w5 b j) ∧ ∀ b j, w_fd w4 b j = if b = v_ad (n_v vs 2) ∧ j = 7 then n_v vs 7 else w_fd w5 b j := s5.2
  replace f18 := shm_350 f18
  have q2 : n_v vs 2 = n_v vs 0 := f6.symm
  have q3 : n_v vs 3 = n_v vs 1 := f7.symm
  simp only [q2, q3] at f0 f1 f2 f3 f4 f5 f9 f11 f13 f15
  rw [q2] at s5
  simp only [q2, q3] at f18
  have ar_0_8_1 : w_ar w1 (n_v vs 0) 8 = w_ar ws (n_v vs 0) 8 := congrArg v_ad (s1.2 _ _).symm
  have ar_0_8_2 : w_ar w2 (n_v vs 0) 8 = w_ar ws (n_v vs 0) 8 := by rw [← ar_0_8_1]; show v_ad (w_fd w2 _ _) = v_ad (w_fd w1 _ _); rw [s2.2]
  have ar_0_8_3 : w_ar w3 (n_v vs 0) 8 = w_ar ws (n_v vs 0) 8 := by rw [← ar_0_8_2]; show v_ad (w_fd w3 _ _) = v_ad (w_fd w2 _ _); rw [s3.2]
  have ar_0_8_4 : w_ar w4 (n_v vs 0) 8 = w_ar ws (n_v vs 0) 8 := by rw [← ar_0_8_3]; show v_ad (w_fd w4 _ _) = v_ad (w_fd w3 _ _); rw [s4.2]
  have ar_0_8_5 : w_ar w5 (n_v vs 0) 8 = w_ar ws (n_v vs 0) 8 := by rw [← ar_0_8_4]; show v_ad (w_fd w5 _ _) = v_ad (w_fd w4 _ _); rw [s5.2, if_neg (fun e => absurd e.2 (by decide))]
  have cr_0_8 := fdq_51 hD hth r0
  have cr_0_9 := fdq_50 hD hth r0
  have cr_0_10 := fdq_55 hD hth r0
  have ar_0_14_1 : w_ar w1 (n_v vs 0) 14 = w_ar ws (n_v vs 0) 14 := congrArg v_ad (s1.2 _ _).symm
  have ar_0_14_2 : w_ar w2 (n_v vs 0) 14 = w_ar ws (n_v vs 0) 14 := by rw [← ar_0_14_1]; show v_ad (w_fd w2 _ _) = v_ad (w_fd w1 _ _); rw [s2.2]
  have ar_0_14_3 : w_ar w3 (n_v vs 0) 14 = w_ar ws (n_v vs 0) 14 := by rw [← ar_0_14_2]; show v_ad (w_fd w3 _ _) = v_ad (w_fd w2 _ _); rw [s3.2]
  have ar_0_14_4 : w_ar w4 (n_v vs 0) 14 = w_ar ws (n_v vs 0) 14 := by rw [← ar_0_14_3]; show v_ad (w_fd w4 _ _) = v_ad (w_fd w3 _ _); rw [s4.2]
  have ar_0_14_5 : w_ar w5 (n_v vs 0) 14 = w_ar ws (n_v vs 0) 14 := by rw [← ar_0_14_4]; show v_ad (w_fd w5 _ _) = v_ad (w_fd w4 _ _); rw [s5.2, if_neg (fun e => absurd e.2 (by decide))]
  have cr_0_14 := fdq_52 hD hth r0
  have ad_11 : v_ad (n_v vs 11) = w_ar ws (n_v vs 0) 10 := congrArg v_ad f0
  have ad_8 : v_ad (n_v vs 8) = w_ar ws (n_v vs 0) 9 := congrArg v_ad f1
  have g2 : v_iv (n_v vs 7) = w_fi ws (n_v vs 0) 7 := congrArg v_iv f2
  have g3 : v_iv (n_v vs 6) = w_fi ws (n_v vs 0) 15 := congrArg v_iv f3
  have g4 : v_iv (n_v vs 5) = w_fi ws (n_v vs 0) 6 := congrArg v_iv f4
  simp only [ar_0_8_1, ar_0_14_1, ar_0_8_2, ar_0_14_2, ar_0_8_3, ar_0_14_3, ar_0_8_4, ar_0_14_4, ar_0_8_5, ar_0_14_5] at f9 f11 f13 f15 f18
  have fe_0_6_1 : w_fi ws (n_v vs 0) 6 = w_fi w1 (n_v vs 0) 6 := congrArg v_iv (s1.2 _ _)
  have fe_0_7_1 : w_fi ws (n_v vs 0) 7 = w_fi w1 (n_v vs 0) 7 := congrArg v_iv (s1.2 _ _)
  have fe_0_15_1 : w_fi ws (n_v vs 0) 15 = w_fi w1 (n_v vs 0) 15 := congrArg v_iv (s1.2 _ _)
  have fe_0_6_2 : w_fi w1 (n_v vs 0) 6 = w_fi w2 (n_v vs 0) 6 := congrArg v_iv (s2.2 _ _)
  have fe_0_7_2 : w_fi w1 (n_v vs 0) 7 = w_fi w2 (n_v vs 0) 7 := congrArg v_iv (s2.2 _ _)
  have fe_0_15_2 : w_fi w1 (n_v vs 0) 15 = w_fi w2 (n_v vs 0) 15 := congrArg v_iv (s2.2 _ _)
  have fe_0_6_3 : w_fi w2 (n_v vs 0) 6 = w_fi w3 (n_v vs 0) 6 := congrArg v_iv (s3.2 _ _)
  have fe_0_7_3 : w_fi w2 (n_v vs 0) 7 = w_fi w3 (n_v vs 0) 7 := congrArg v_iv (s3.2 _ _)
  have fe_0_15_3 : w_fi w2 (n_v vs 0) 15 = w_fi w3 (n_v vs 0) 15 := congrArg v_iv (s3.2 _ _)
  have fe_0_6_4 : w_fi w3 (n_v vs 0) 6 = w_fi w4 (n_v vs 0) 6 := congrArg v_iv (s4.2 _ _)
  have fe_0_7_4 : w_fi w3 (n_v vs 0) 7 = w_fi w4 (n_v vs 0) 7 := congrArg v_iv (s4.2 _ _)
  have fe_0_15_4 : w_fi w3 (n_v vs 0) 15 = w_fi w4 (n_v vs 0) 15 := congrArg v_iv (s4.2 _ _)
  have fe_0_6_5 : w_fi w4 (n_v vs 0) 6 = w_fi w5 (n_v vs 0) 6 := by show v_iv (w_fd _ _ _) = v_iv (w_fd _ _ _); rw [s5.2, if_neg (fun e => absurd e.2 (by decide))]
  have fe_0_7_5 : w_fi w4 (n_v vs 0) 7 = v_iv (n_v vs 7) := by show v_iv (w_fd _ _ _) = _; rw [s5.2, if_pos ⟨rfl, rfl⟩]
  have fe_0_15_5 : w_fi w4 (n_v vs 0) 15 = w_fi w5 (n_v vs 0) 15 := by show v_iv (w_fd _ _ _) = v_iv (w_fd _ _ _); rw [s5.2, if_neg (fun e => absurd e.2 (by decide))]
  have hE_0_8_1 : ∀ j : Int, w_ei ws (w_ar ws (n_v vs 0) 8) j = w_ei w1 (w_ar ws (n_v vs 0) 8) j := el_kp s1.1 r11 cr_0_8 (by decide)
  have hE_0_8_2 : ∀ j : Int, w_ei w1 (w_ar ws (n_v vs 0) 8) j = w_ei w2 (w_ar ws (n_v vs 0) 8) j := el_kp s2.1 r11 cr_0_8 (by decide)
  have hE_0_8_3 : ∀ j : Int, w_ei w2 (w_ar ws (n_v vs 0) 8) j = w_ei w3 (w_ar ws (n_v vs 0) 8) j := el_kp s3.1 r8 cr_0_8 (by decide)
  have hE_0_8_4 : ∀ j : Int, w_ei w3 (w_ar ws (n_v vs 0) 8) j = w_ei w4 (w_ar ws (n_v vs 0) 8) j := el_kp s4.1 r8 cr_0_8 (by decide)
  have hE_0_8_5 : ∀ j : Int, w_ei w4 (w_ar ws (n_v vs 0) 8) j = w_ei w5 (w_ar ws (n_v vs 0) 8) j := fun j => s5.1 _ _
  have hK_0_8 := elq_15 hD hth cr_0_8
  have hE_0_9_1 : ∀ j : Int, w_ei ws (w_ar ws (n_v vs 0) 9) j = w_ei w1 (w_ar ws (n_v vs 0) 9) j := el_kp s1.1 r11 cr_0_9 (by decide)
  have hE_0_9_2 : ∀ j : Int, w_ei w1 (w_ar ws (n_v vs 0) 9) j = w_ei w2 (w_ar ws (n_v vs 0) 9) j := el_kp s2.1 r11 cr_0_9 (by decide)
  have hE_0_9_3 : ∀ j : Int, 0 ≤ j → (j = v_iv (n_v vs 10) → w_ei w2 (w_ar ws (n_v vs 0) 9) j = v_iv (n_v vs 6)) ∧ (j ≠ v_iv (n_v vs 10) → w_ei w2 (w_ar ws (n_v vs 0) 9) j = w_ei w3 (w_ar ws (n_v vs 0) 9) j) := fun j hj => ⟨fun h => by unfold w_ei; rw [s3.1, if_pos ⟨ad_8.symm, by rw [h]⟩], fun h => by unfold w_ei; rw [s3.1, if_neg (fun e => h (by have := e.2; omega))]⟩
  have hE_0_9_4 : ∀ j : Int, 0 ≤ j → (j = v_iv (n_v vs 9) → w_ei w3 (w_ar ws (n_v vs 0) 9) j = v_iv (n_v vs 6)) ∧ (j ≠ v_iv (n_v vs 9) → w_ei w3 (w_ar ws (n_v vs 0) 9) j = w_ei w4 (w_ar ws (n_v vs 0) 9) j) := fun j hj => ⟨fun h => by unfold w_ei; rw [s4.1, if_pos ⟨ad_8.symm, by rw [h]⟩], fun h => by unfold w_ei; rw [s4.1, if_neg (fun e => h (by have := e.2; omega))]⟩
  have hE_0_9_5 : ∀ j : Int, w_ei w4 (w_ar ws (n_v vs 0) 9) j = w_ei w5 (w_ar ws (n_v vs 0) 9) j := fun j => s5.1 _ _
  have hK_0_9 := elq_14 hD hth cr_0_9
  have hE_0_10_1 : ∀ j : Int, 0 ≤ j → (j = v_iv (n_v vs 13) → w_ei ws (w_ar ws (n_v vs 0) 10) j = v_iv (n_v vs 5)) ∧ (j ≠ v_iv (n_v vs 13) → w_ei ws (w_ar ws (n_v vs 0) 10) j = w_ei w1 (w_ar ws (n_v vs 0) 10) j) := fun j hj => ⟨fun h => by unfold w_ei; rw [s1.1, if_pos ⟨ad_11.symm, by rw [h]⟩], fun h => by unfold w_ei; rw [s1.1, if_neg (fun e => h (by have := e.2; omega))]⟩
  have hE_0_10_2 : ∀ j : Int, 0 ≤ j → (j = v_iv (n_v vs 12) → w_ei w1 (w_ar ws (n_v vs 0) 10) j = v_iv (n_v vs 5)) ∧ (j ≠ v_iv (n_v vs 12) → w_ei w1 (w_ar ws (n_v vs 0) 10) j = w_ei w2 (w_ar ws (n_v vs 0) 10) j) := fun j hj => ⟨fun h => by unfold w_ei; rw [s2.1, if_pos ⟨ad_11.symm, by rw [h]⟩], fun h => by unfold w_ei; rw [s2.1, if_neg (fun e => h (by have := e.2; omega))]⟩
  have hE_0_10_3 : ∀ j : Int, w_ei w2 (w_ar ws (n_v vs 0) 10) j = w_ei w3 (w_ar ws (n_v vs 0) 10) j := el_kp s3.1 r8 cr_0_10 (by decide)
  have hE_0_10_4 : ∀ j : Int, w_ei w3 (w_ar ws (n_v vs 0) 10) j = w_ei w4 (w_ar ws (n_v vs 0) 10) j := el_kp s4.1 r8 cr_0_10 (by decide)
  have hE_0_10_5 : ∀ j : Int, w_ei w4 (w_ar ws (n_v vs 0) 10) j = w_ei w5 (w_ar ws (n_v vs 0) 10) j := fun j => s5.1 _ _
  have hK_0_10 := elq_17 hD hth cr_0_10
  have hE_0_14_1 : ∀ j : Int, w_ei ws (w_ar ws (n_v vs 0) 14) j = w_ei w1 (w_ar ws (n_v vs 0) 14) j := el_kp s1.1 r11 cr_0_14 (by decide)
  have hE_0_14_2 : ∀ j : Int, w_ei w1 (w_ar ws (n_v vs 0) 14) j = w_ei w2 (w_ar ws (n_v vs 0) 14) j := el_kp s2.1 r11 cr_0_14 (by decide)
  have hE_0_14_3 : ∀ j : Int, w_ei w2 (w_ar ws (n_v vs 0) 14) j = w_ei w3 (w_ar ws (n_v vs 0) 14) j := el_kp s3.1 r8 cr_0_14 (by decide)
  have hE_0_14_4 : ∀ j : Int, w_ei w3 (w_ar ws (n_v vs 0) 14) j = w_ei w4 (w_ar ws (n_v vs 0) 14) j := el_kp s4.1 r8 cr_0_14 (by decide)
  have hE_0_14_5 : ∀ j : Int, w_ei w4 (w_ar ws (n_v vs 0) 14) j = w_ei w5 (w_ar ws (n_v vs 0) 14) j := fun j => s5.1 _ _
  have hK_0_14 := elq_16 hD hth cr_0_14
  have kz_0_6 := fdq_53 hD hth r0
  have kz_0_7 := fdq_49 hD hth r0
  have kz_0_15 := fdq_54 hD hth r0
  have nf0 : fc_1 PRD (20, [0], [60, 2, 2, 603, 7, 6, 8, 9]) ws (vs) := ⟨nf_in hl rfl, sgq_351 (vc_Em_layRing_2_0 (v_iv (n_v vs 1)) (v_iv (n_v vs 3)) (v_iv (n_v vs 4)) (v_iv (n_v vs 5)) (v_iv (n_v vs 6)) (v_iv (n_v vs 7)) (v_iv (n_v vs 9)) (v_iv (n_v vs 10)) (v_iv (n_v vs 12)) (v_iv (n_v vs 13)) (w_fi ws (n_v vs 0) 7) (w_fi ws (n_v vs 0) 15) (w_fi ws (n_v vs 0) 6) (w_ei ws (w_ar ws (n_v vs 0) 8)) (w_ei ws (w_ar ws (n_v vs 0) 14)) (w_ei w1 (w_ar ws (n_v vs 0) 8)) (w_ei w1 (w_ar ws (n_v vs 0) 14)) (w_fi w1 (n_v vs 0) 15) (w_fi w1 (n_v vs 0) 6) (w_ei w2 (w_ar ws (n_v vs 0) 8)) (w_ei w2 (w_ar ws (n_v vs 0) 14)) (w_fi w2 (n_v vs 0) 15) (w_fi w2 (n_v vs 0) 6) (w_ei w3 (w_ar ws (n_v vs 0) 8)) (w_ei w3 (w_ar ws (n_v vs 0) 14)) (w_fi w3 (n_v vs 0) 15) (w_fi w3 (n_v vs 0) 6) (w_ei w4 (w_ar ws (n_v vs 0) 8)) (w_ei w4 (w_ar ws (n_v vs 0) 14)) (w_fi w4 (n_v vs 0) 15) (w_fi w4 (n_v vs 0) 6) (w_ei w5 (w_ar ws (n_v vs 0) 8)) (w_ei w5 (w_ar ws (n_v vs 0) 14)) (w_fi w5 (n_v vs 0) 15) (w_fi w5 (n_v vs 0) 6) (w_fi w1 (n_v vs 0) 7) (w_fi w2 (n_v vs 0) 7) (w_fi w3 (n_v vs 0) 7) (w_fi w4 (n_v vs 0) 7) (w_ei ws (w_ar ws (n_v vs 0) 9)) (w_ei w1 (w_ar ws (n_v vs 0) 9)) (w_ei w2 (w_ar ws (n_v vs 0) 9)) (w_ei w3 (w_ar ws (n_v vs 0) 9)) (w_ei w4 (w_ar ws (n_v vs 0) 9)) (w_ei w5 (w_ar ws (n_v vs 0) 9)) (w_ei ws (w_ar ws (n_v vs 0) 10)) (w_ei w1 (w_ar ws (n_v vs 0) 10)) (w_ei w2 (w_ar ws (n_v vs 0) 10)) (w_ei w3 (w_ar ws (n_v vs 0) 10)) (w_ei w4 (w_ar ws (n_v vs 0) 10)) (w_ei w5 (w_ar ws (n_v vs 0) 10)) k1 k3 k4 k5 k6 k7 k9 k10 k12 k13 d0 d1 d2 g2 g3 g4 f5 f9 f11 f13 f15 (shm_2 f17) f18 fe_0_6_1 fe_0_7_1 fe_0_15_1 fe_0_6_2 fe_0_7_2 fe_0_15_2 fe_0_6_3 fe_0_7_3 fe_0_15_3 fe_0_6_4 fe_0_7_4 fe_0_15_4 fe_0_6_5 fe_0_7_5 fe_0_15_5 hE_0_8_1 hE_0_8_2 hE_0_8_3 hE_0_8_4 hE_0_8_5 hK_0_8 hE_0_9_1 hE_0_9_2 hE_0_9_3 hE_0_9_4 hE_0_9_5 hK_0_9 hE_0_10_1 hE_0_10_2 hE_0_10_3 hE_0_10_4 hE_0_10_5 hK_0_10 hE_0_14_1 hE_0_14_2 hE_0_14_3 hE_0_14_4 hE_0_14_5 hK_0_14 kz_0_6 kz_0_7 kz_0_15)⟩
  have nf1 : fc_1 PRD (20, [0], [50, 1, 0, 7, 0, 2, 0, 2, 2, 0, 7]) ws (vs) := ⟨nf_in hl rfl, sgq_352 (vc_Em_layRing_2_1 (v_iv (n_v vs 1)) (v_iv (n_v vs 3)) (v_iv (n_v vs 4)) (v_iv (n_v vs 5)) (v_iv (n_v vs 6)) (v_iv (n_v vs 7)) (v_iv (n_v vs 9)) (v_iv (n_v vs 10)) (v_iv (n_v vs 12)) (v_iv (n_v vs 13)) (w_fi ws (n_v vs 0) 7) (w_fi ws (n_v vs 0) 15) (w_fi ws (n_v vs 0) 6) (w_ei ws (w_ar ws (n_v vs 0) 8)) (w_ei ws (w_ar ws (n_v vs 0) 14)) (w_ei w1 (w_ar ws (n_v vs 0) 8)) (w_ei w1 (w_ar ws (n_v vs 0) 14)) (w_fi w1 (n_v vs 0) 15) (w_fi w1 (n_v vs 0) 6) (w_ei w2 (w_ar ws (n_v vs 0) 8)) (w_ei w2 (w_ar ws (n_v vs 0) 14)) (w_fi w2 (n_v vs 0) 15) (w_fi w2 (n_v vs 0) 6) (w_ei w3 (w_ar ws (n_v vs 0) 8)) (w_ei w3 (w_ar ws (n_v vs 0) 14)) (w_fi w3 (n_v vs 0) 15) (w_fi w3 (n_v vs 0) 6) (w_ei w4 (w_ar ws (n_v vs 0) 8)) (w_ei w4 (w_ar ws (n_v vs 0) 14)) (w_fi w4 (n_v vs 0) 15) (w_fi w4 (n_v vs 0) 6) (w_ei w5 (w_ar ws (n_v vs 0) 8)) (w_ei w5 (w_ar ws (n_v vs 0) 14)) (w_fi w5 (n_v vs 0) 15) (w_fi w5 (n_v vs 0) 6) (w_fi w1 (n_v vs 0) 7) (w_fi w2 (n_v vs 0) 7) (w_fi w3 (n_v vs 0) 7) (w_fi w4 (n_v vs 0) 7) (w_ei ws (w_ar ws (n_v vs 0) 9)) (w_ei w1 (w_ar ws (n_v vs 0) 9)) (w_ei w2 (w_ar ws (n_v vs 0) 9)) (w_ei w3 (w_ar ws (n_v vs 0) 9)) (w_ei w4 (w_ar ws (n_v vs 0) 9)) (w_ei w5 (w_ar ws (n_v vs 0) 9)) (w_ei ws (w_ar ws (n_v vs 0) 10)) (w_ei w1 (w_ar ws (n_v vs 0) 10)) (w_ei w2 (w_ar ws (n_v vs 0) 10)) (w_ei w3 (w_ar ws (n_v vs 0) 10)) (w_ei w4 (w_ar ws (n_v vs 0) 10)) (w_ei w5 (w_ar ws (n_v vs 0) 10)) k1 k3 k4 k5 k6 k7 k9 k10 k12 k13 d0 d1 d2 g2 g3 g4 f5 f9 f11 f13 f15 (shm_2 f17) f18 fe_0_6_1 fe_0_7_1 fe_0_15_1 fe_0_6_2 fe_0_7_2 fe_0_15_2 fe_0_6_3 fe_0_7_3 fe_0_15_3 fe_0_6_4 fe_0_7_4 fe_0_15_4 fe_0_6_5 fe_0_7_5 fe_0_15_5 hE_0_8_1 hE_0_8_2 hE_0_8_3 hE_0_8_4 hE_0_8_5 hK_0_8 hE_0_9_1 hE_0_9_2 hE_0_9_3 hE_0_9_4 hE_0_9_5 hK_0_9 hE_0_10_1 hE_0_10_2 hE_0_10_3 hE_0_10_4 hE_0_10_5 hK_0_10 hE_0_14_1 hE_0_14_2 hE_0_14_3 hE_0_14_4 hE_0_14_5 hK_0_14 kz_0_6 kz_0_7 kz_0_15)⟩
  have nf2 : fc_1 PRD (20, [0, 1], [60, 1, 0, 606, 6]) ws (vs) := ⟨nf_in hl rfl, sgq_353 (vc_Em_layRing_2_2 (v_iv (n_v vs 1)) (v_iv (n_v vs 3)) (v_iv (n_v vs 4)) (v_iv (n_v vs 5)) (v_iv (n_v vs 6)) (v_iv (n_v vs 7)) (v_iv (n_v vs 9)) (v_iv (n_v vs 10)) (v_iv (n_v vs 12)) (v_iv (n_v vs 13)) (w_fi ws (n_v vs 0) 7) (w_fi ws (n_v vs 0) 15) (w_fi ws (n_v vs 0) 6) (w_ei ws (w_ar ws (n_v vs 0) 8)) (w_ei ws (w_ar ws (n_v vs 0) 14)) (w_ei w1 (w_ar ws (n_v vs 0) 8)) (w_ei w1 (w_ar ws (n_v vs 0) 14)) (w_fi w1 (n_v vs 0) 15) (w_fi w1 (n_v vs 0) 6) (w_ei w2 (w_ar ws (n_v vs 0) 8)) (w_ei w2 (w_ar ws (n_v vs 0) 14)) (w_fi w2 (n_v vs 0) 15) (w_fi w2 (n_v vs 0) 6) (w_ei w3 (w_ar ws (n_v vs 0) 8)) (w_ei w3 (w_ar ws (n_v vs 0) 14)) (w_fi w3 (n_v vs 0) 15) (w_fi w3 (n_v vs 0) 6) (w_ei w4 (w_ar ws (n_v vs 0) 8)) (w_ei w4 (w_ar ws (n_v vs 0) 14)) (w_fi w4 (n_v vs 0) 15) (w_fi w4 (n_v vs 0) 6) (w_ei w5 (w_ar ws (n_v vs 0) 8)) (w_ei w5 (w_ar ws (n_v vs 0) 14)) (w_fi w5 (n_v vs 0) 15) (w_fi w5 (n_v vs 0) 6) (w_fi w1 (n_v vs 0) 7) (w_fi w2 (n_v vs 0) 7) (w_fi w3 (n_v vs 0) 7) (w_fi w4 (n_v vs 0) 7) (w_ei ws (w_ar ws (n_v vs 0) 9)) (w_ei w1 (w_ar ws (n_v vs 0) 9)) (w_ei w2 (w_ar ws (n_v vs 0) 9)) (w_ei w3 (w_ar ws (n_v vs 0) 9)) (w_ei w4 (w_ar ws (n_v vs 0) 9)) (w_ei w5 (w_ar ws (n_v vs 0) 9)) (w_ei ws (w_ar ws (n_v vs 0) 10)) (w_ei w1 (w_ar ws (n_v vs 0) 10)) (w_ei w2 (w_ar ws (n_v vs 0) 10)) (w_ei w3 (w_ar ws (n_v vs 0) 10)) (w_ei w4 (w_ar ws (n_v vs 0) 10)) (w_ei w5 (w_ar ws (n_v vs 0) 10)) k1 k3 k4 k5 k6 k7 k9 k10 k12 k13 d0 d1 d2 g2 g3 g4 f5 f9 f11 f13 f15 (shm_2 f17) f18 fe_0_6_1 fe_0_7_1 fe_0_15_1 fe_0_6_2 fe_0_7_2 fe_0_15_2 fe_0_6_3 fe_0_7_3 fe_0_15_3 fe_0_6_4 fe_0_7_4 fe_0_15_4 fe_0_6_5 fe_0_7_5 fe_0_15_5 hE_0_8_1 hE_0_8_2 hE_0_8_3 hE_0_8_4 hE_0_8_5 hK_0_8 hE_0_9_1 hE_0_9_2 hE_0_9_3 hE_0_9_4 hE_0_9_5 hK_0_9 hE_0_10_1 hE_0_10_2 hE_0_10_3 hE_0_10_4 hE_0_10_5 hK_0_10 hE_0_14_1 hE_0_14_2 hE_0_14_3 hE_0_14_4 hE_0_14_5 hK_0_14 kz_0_6 kz_0_7 kz_0_15)⟩
  refine ⟨(fun _ h => (by cases h)), [], trivial, ?_, (fun _ h => (by cases h))⟩
  rw [List.append_nil]
  exact List.forall_mem_cons.mpr ⟨⟨show (20 : Nat) < 100 from by decide, nf0⟩, List.forall_mem_cons.mpr ⟨⟨show (20 : Nat) < 100 from by decide, nf1⟩, List.forall_mem_cons.mpr ⟨⟨show (20 : Nat) < 100 from by decide, nf2⟩, (fun _ h => (by cases h))⟩⟩⟩
set_option maxHeartbeats 4000000 in
theorem vc_Em_layRing_3_0 (x1 : Int) (x3 : Int) (x4 : Int) (x5 : Int) (x6 : Int) (x9 : Int) (x10 : Int) (x11 : Int) (x12 : Int) (x13 : Int) (x14 : Int) (x15 : Int) (x16 : Int) (x17 : Int) (x18 : Int) (x19 : Int) (x20 : Int) (x21 : Int) (x22 : Int) (x23 : Int) (x24 : Int) (drawnNodes_0 : Int) (wayLength_0 : Int) (way_1 : Int → Int) (drawnNodes_1 : Int) (way_2 : Int → Int) (way_3 : Int → Int) (cycle_3 : Int → Int) (wayLength_3 : Int) (drawnNodes_3 : Int) (wayLength_1 : Int) (drawnNodes_2 : Int) (wayLength_2 : Int) (cycle_0 : Int → Int) (cycle_1 : Int → Int) (cycle_2 : Int → Int) (way_0 : Int → Int) (k1 : 0 ≤ x1 ∧ x1 ≤ 24) (k3 : 0 ≤ x3 ∧ x3 ≤ 24) (k4 : 1 ≤ x4 ∧ x4 ≤ 26) (k5 : 0 ≤ x5 ∧ x5 ≤ 33554431) (k6 : 2 ≤ x6 ∧ x6 ≤ 27) (k9 : 1 ≤ x9 ∧ x9 ≤ 1) (k10 : 0 ≤ x10 ∧ x10 ≤ 25) (k11 : 0 ≤ x11 ∧ x11 ≤ 24) (k12 : 25 ≤ x12 ∧ x12 ≤ 25) (k13 : 27 ≤ x13 ∧ x13 ≤ 52) (k14 : 1 ≤ x14 ∧ x14 ≤ 51) (k15 : 1 ≤ x15 ∧ x15 ≤ 1) (k16 : 0 ≤ x16 ∧ x16 ≤ 25) (k17 : 0 ≤ x17 ∧ x17 ≤ 24) (k18 : 1 ≤ x18 ∧ x18 ≤ 1) (k19 : 1 ≤ x19 ∧ x19 ≤ 1) (k20 : 0 ≤ x20 ∧ x20 ≤ 25) (k21 : 0 ≤ x21 ∧ x21 ≤ 24) (k22 : 1 ≤ x22 ∧ x22 ≤ 16777216) (k23 : 0 ≤ x23 ∧ x23 ≤ 33554431) (k24 : 2 ≤ x24 ∧ x24 ≤ 27) (d0 : x4 + 1 ≤ x24 ∧ x24 ≤ x4 + 1) (d1 : x6 + (-4294967296) ≤ x24 ∧ x24 ≤ x6 + 0) (d2 : x4 + (-1) ≤ x20 ∧ x20 ≤ x4 + (-1)) (d3 : x6 + (-4294967296) ≤ x20 ∧ x20 ≤ x6 + (-2)) (d4 : x4 + (-1) ≤ x16 ∧ x16 ≤ x4 + (-1)) (d5 : x6 + (-4294967296) ≤ x16 ∧ x16 ≤ x6 + (-2)) (d6 : x13 + (-26) ≤ x14 ∧ x14 ≤ x13 + (-1)) (d7 : x6 + (-1) ≤ x14 ∧ x14 ≤ x6 + 24) (d8 : x6 + 25 ≤ x13 ∧ x13 ≤ x6 + 25) (d9 : x4 + (-1) ≤ x10 ∧ x10 ≤ x4 + (-1)) (d10 : x6 + (-4294967296) ≤ x10 ∧ x10 ≤ x6 + (-2)) (d11 : x6 + (-4294967296) ≤ x4 ∧ x4 ≤ x6 + (-1)) (d12 : x3 + (-4294967296) ≤ x1 ∧ x1 ≤ x3 + 0) (d13 : x1 + (-4294967296) ≤ x3 ∧ x3 ≤ x1 + 0) (g0 : x23 = drawnNodes_0) (g3 : x6 = wayLength_0) (f4 : x24 = x4 + 1) (f8 : x23 ≤ x5 + x22 ∧ x5 ≤ x23 ∧ x22 ≤ x23) (f9 : bvp (x23) = bvp (x5) ||| bvp (x22)) (f10 : bvp (x22) = bvp (x18) <<< (x21).toNat) (h11 : x21 = way_1 (x20)) (f12 : x20 = x4 - x19) (g13 : x5 = drawnNodes_1) (h15 : x17 = way_2 (x16)) (f16 : x16 = x4 - x15) (f17 : x14 = x13 - x4) (f18 : x13 = x12 + x6) (h20 : x11 = way_3 (x10)) (f21 : x10 = x4 - x9) (f22 : x4 < x6) (f23 : LRI (wayLength_3) (drawnNodes_3) (cycle_3) (way_3) (x1) (x4)) (fe_0_6_1 : drawnNodes_0 = x23) (fe_0_15_1 : wayLength_0 = wayLength_1) (fe_0_6_2 : drawnNodes_1 = drawnNodes_2) (fe_0_15_2 : wayLength_1 = wayLength_2) (fe_0_6_3 : drawnNodes_2 = drawnNodes_3) (fe_0_15_3 : wayLength_2 = wayLength_3) (hE_0_8_1 : ∀ j : Int, cycle_0 j = cycle_1 j) (hE_0_8_2 : ∀ j : Int, 0 ≤ j → (j = x14 → cycle_1 j = x17) ∧ (j ≠ x14 → cycle_1 j = cycle_2 j)) (hE_0_8_3 : ∀ j : Int, 0 ≤ j → (j = x4 → cycle_2 j = x11) ∧ (j ≠ x4 → cycle_2 j = cycle_3 j)) (hK_0_8 : ∀ j : Int, 0 ≤ j → j < 1250 → 0 ≤ cycle_0 j ∧ cycle_0 j ≤ 24) (hE_0_14_1 : ∀ j : Int, way_0 j = way_1 j) (hE_0_14_2 : ∀ j : Int, way_1 j = way_2 j) (hE_0_14_3 : ∀ j : Int, way_2 j = way_3 j) (hK_0_14 : ∀ j : Int, 0 ≤ j → j < 27 → 0 ≤ way_0 j ∧ way_0 j ≤ 24) (kz_0_6 : 0 ≤ drawnNodes_0 ∧ drawnNodes_0 ≤ 33554431) (kz_0_15 : 0 ≤ wayLength_0 ∧ wayLength_0 ≤ 27) : LRI (wayLength_0) (drawnNodes_0) (cycle_0) (way_0) (x1) (x24) := by
  subst fe_0_15_1
  subst fe_0_6_2
  subst fe_0_15_2
  subst fe_0_6_3
  subst fe_0_15_3
  have e_hE_0_8_1 := funext hE_0_8_1; subst e_hE_0_8_1
  have e_hE_0_14_1 := funext hE_0_14_1; subst e_hE_0_14_1
  have e_hE_0_14_2 := funext hE_0_14_2; subst e_hE_0_14_2
  have e_hE_0_14_3 := funext hE_0_14_3; subst e_hE_0_14_3
  first
    | (have o1 : x5 = 1 := by omega
       subst o1
       rw [← ‹x6 = drawnNodes_0›]
       exact lri_start (p1 := x3) (v1 := x1) (p2 := x4) (v2 := x1) ‹RNP _ _ _› (by omega) (by omega) (by omega) (by assumption) (by omega) rfl (by assumption) (by omega) rfl (by assumption))
    | (have o1 : x18 = 1 := by omega
       subst o1
       rw [← ‹x23 = drawnNodes_0›]
       have hl := (‹LRI _ _ _ _ _ _›)
       rw [← ‹x5 = drawnNodes_1›] at hl
       exact lri_step (w2 := 0) (p1 := x4) (v1 := x11) (p2 := x14) (v2 := x17) (x := x21) (q := x22) hl (by omega) (by assumption) rfl (by rw [show x4 - 1 = x10 by omega]; assumption) (by assumption) (by omega) (by rw [show x4 - 1 = x16 by omega]; assumption) (by rw [show x4 - 1 = x20 by omega]; assumption) (by assumption) (by assumption) (by omega) rfl)
  
def o_Em_layRing_3 : or_T := (24, 25, [(0, (2, 0, 0, [1])), (1, (0, 0, 24, [])), (3, (0, 0, 24, [])), (4, (0, 1, 26, [])), (5, (0, 0, 33554431, [])), (6, (0, 2, 27, [])), (7, (2, 0, 0, [29])), (9, (0, 1, 1, [])), (10, (0, 0, 25, [])), (11, (0, 0, 24, [])), (12, (0, 25, 25, [])), (13, (0, 27, 52, [])), (14, (0, 1, 51, [])), (15, (0, 1, 1, [])), (16, (0, 0, 25, [])), (17, (0, 0, 24, [])), (18, (0, 1, 1, [])), (19, (0, 1, 1, [])), (20, (0, 0, 25, [])), (21, (0, 0, 24, [])), (22, (0, 1, 16777216, [])), (23, (0, 0, 33554431, [])), (24, (0, 2, 27, []))], [(9, [23, 2], [6]), (9, [8, 2], [14]), (9, [7, 2], [8]), (9, [6, 2], [15]), (6, [24, 4], [1]), (24, [0, 2], []), (24, [1, 3], []), (101, [2, 23], [6]), (13, [23, 5, 22], []), (16, [23, 5, 22], [1]), (16, [22, 18, 21], [3]), (10, [21, 8, 20], []), (2, [20, 4, 19], []), (9, [5, 2], [6]), (100, [7, 14, 17], []), (10, [17, 8, 16], []), (2, [16, 4, 15], []), (2, [14, 13, 4], []), (1, [13, 12, 6], []), (100, [7, 4, 11], []), (10, [11, 8, 10], []), (2, [10, 4, 9], []), (7, [4, 6], [2]), (20, [2, 3, 4], [60, 2, 2, 605, 15, 6, 8, 14])], [], [], [(20, [2, 3, 24], [60, 2, 2, 605, 15, 6, 8, 14])], [], [(24, 4, 1, 1), (24, 6, -4294967296, 0), (20, 4, -1, -1), (20, 6, -4294967296, -2), (16, 4, -1, -1), (16, 6, -4294967296, -2), (14, 13, -26, -1), (14, 6, -1, 24), (13, 6, 25, 25), (10, 4, -1, -1), (10, 6, -4294967296, -2), (4, 6, -4294967296, -1), (1, 3, -4294967296, 0), (3, 1, -4294967296, 0)])
theorem oo_Em_layRing_3 {kA : Nat → ClassId} : or_ok PRD kA GG o_Em_layRing_3 := by
  refine or_mk fun A ta ws vs hD hth hl => ?_
  intro t0 r0 t1 k1 t3 k3 t4 k4 t5 k5 t6 k6 t7 r7 t9 k9 t10 k10 t11 k11 t12 k12 t13 k13 t14 k14 t15 k15 t16 k16 t17 k17 t18 k18 t19 k19 t20 k20 t21 k21 t22 k22 t23 k23 t24 k24 d0 d1 d2 d3 d4 d5 d6 d7 d8 d9 d10 d11 d12 d13 f0 f1 f2 f3 f4 f5 f6 ta1 w1 le1 s1 f8 f9 f10 f11 f12 f13 ta2 w2 le2 s2 f15 f16 f17 f18 ta3 w3 le3 s3 f20 f21 f22 f23
  replace f0 := shm_111 f0
  replace f1 := shm_115 f1
  replace f2 := shm_293 f2
  replace f3 := shm_177 f3
  replace f4 := shm_4 f4
  replace f5 := shm_5 f5
  replace f6 := shm_5 f6
  have s1 : (∀ b j, w_el ws b j = w_el w1 b j) ∧ ∀ b j, w_fd ws b j = if b = v_ad (n_v vs 2) ∧ j = 6 then n_v vs 23 else w_fd w1 b j := s1.2
  have f8 : v_iv (n_v vs 23) ≤ v_iv (n_v vs 5) + v_iv (n_v vs 22) ∧ v_iv (n_v vs 5) ≤ v_iv (n_v vs 23) ∧ v_iv (n_v vs 22) ≤ v_iv (n_v vs 23) := (fun (h : v_iv (n_v vs 23) ≤ v_iv (n_v vs 5) + v_iv (n_v vs 22) ∧ v_iv (n_v vs 5) ≤ v_iv (n_v vs 23) ∧ v_iv (n_v vs 22) ≤ v_iv (n_v vs 23) ∧ (v_iv (n_v vs 23)).toNat = (v_iv (n_v vs 5)).toNat ||| (v_iv (n_v vs 22)).toNat) => ⟨h.1, h.2.1, h.2.2.1⟩) f8
  replace f9 := shm_354 f9
  replace f10 := shm_349 f10
  replace f11 := shm_107 f11
  replace f12 := shm_14 f12
  replace f13 := shm_111 f13
  have s2 : (∀ b j, w_el w1 b j = if b = v_ad (n_v vs 7) ∧ j = (v_iv (n_v vs 14)).toNat then v_iv (n_v vs 17) else w_el w2 b j) ∧ ∀ b k, w_fd w1 b k = w_fd w2 b k := s2.2
  replace f15 := shm_107 f15
  replace f16 := shm_14 f16
  replace f17 := shm_14 f17
  replace f18 := shm_12 f18
  have s3 : (∀ b j, w_el w2 b j = if b = v_ad (n_v vs 7) ∧ j = (v_iv (n_v vs 4)).toNat then v_iv (n_v vs 11) else w_el w3 b j) ∧ ∀ b k, w_fd w2 b k = w_fd w3 b k := s3.2
  replace f20 := shm_107 f20
  replace f21 := shm_14 f21
  replace f22 := shm_6 f22
  replace f23 := shm_350 f23
  have q2 : n_v vs 2 = n_v vs 0 := f5.symm
  have q3 : n_v vs 3 = n_v vs 1 := f6.symm
  simp only [q2] at f0 f1 f2 f3
  rw [q2] at s1
  simp only [q2, q3] at f13 f23
  have ar_0_8_1 : w_ar w1 (n_v vs 0) 8 = w_ar ws (n_v vs 0) 8 := by show v_ad (w_fd w1 _ _) = v_ad (w_fd ws _ _); rw [s1.2, if_neg (fun e => absurd e.2 (by decide))]
  have ar_0_8_2 : w_ar w2 (n_v vs 0) 8 = w_ar ws (n_v vs 0) 8 := by rw [← ar_0_8_1]; show v_ad (w_fd w2 _ _) = v_ad (w_fd w1 _ _); rw [s2.2]
  have ar_0_8_3 : w_ar w3 (n_v vs 0) 8 = w_ar ws (n_v vs 0) 8 := by rw [← ar_0_8_2]; show v_ad (w_fd w3 _ _) = v_ad (w_fd w2 _ _); rw [s3.2]
  have cr_0_8 := fdq_51 hD hth r0
  have ar_0_14_1 : w_ar w1 (n_v vs 0) 14 = w_ar ws (n_v vs 0) 14 := by show v_ad (w_fd w1 _ _) = v_ad (w_fd ws _ _); rw [s1.2, if_neg (fun e => absurd e.2 (by decide))]
  have ar_0_14_2 : w_ar w2 (n_v vs 0) 14 = w_ar ws (n_v vs 0) 14 := by rw [← ar_0_14_1]; show v_ad (w_fd w2 _ _) = v_ad (w_fd w1 _ _); rw [s2.2]
  have ar_0_14_3 : w_ar w3 (n_v vs 0) 14 = w_ar ws (n_v vs 0) 14 := by rw [← ar_0_14_2]; show v_ad (w_fd w3 _ _) = v_ad (w_fd w2 _ _); rw [s3.2]
  have cr_0_14 := fdq_52 hD hth r0
  have ad_8 : v_ad (n_v vs 8) = w_ar ws (n_v vs 0) 14 := congrArg v_ad f1
  have ad_7 : v_ad (n_v vs 7) = w_ar ws (n_v vs 0) 8 := congrArg v_ad f2
  have g0 : v_iv (n_v vs 23) = w_fi ws (n_v vs 0) 6 := congrArg v_iv f0
  have g3 : v_iv (n_v vs 6) = w_fi ws (n_v vs 0) 15 := congrArg v_iv f3
  simp only [ad_8] at f11
  have h11 : v_iv (n_v vs 21) = w_ei w1 (w_ar ws (n_v vs 0) 14) (v_iv (n_v vs 20)) := f11
  have g13 : v_iv (n_v vs 5) = w_fi w1 (n_v vs 0) 6 := congrArg v_iv f13
  simp only [ad_8] at f15
  have h15 : v_iv (n_v vs 17) = w_ei w2 (w_ar ws (n_v vs 0) 14) (v_iv (n_v vs 16)) := f15
  simp only [ad_8] at f20
  have h20 : v_iv (n_v vs 11) = w_ei w3 (w_ar ws (n_v vs 0) 14) (v_iv (n_v vs 10)) := f20
  simp only [ar_0_8_3, ar_0_14_3] at f23
  have fe_0_6_1 : w_fi ws (n_v vs 0) 6 = v_iv (n_v vs 23) := by show v_iv (w_fd _ _ _) = _; rw [s1.2, if_pos ⟨rfl, rfl⟩]
  have fe_0_15_1 : w_fi ws (n_v vs 0) 15 = w_fi w1 (n_v vs 0) 15 := by show v_iv (w_fd _ _ _) = v_iv (w_fd _ _ _); rw [s1.2, if_neg (fun e => absurd e.2 (by decide))]
  have fe_0_6_2 : w_fi w1 (n_v vs 0) 6 = w_fi w2 (n_v vs 0) 6 := congrArg v_iv (s2.2 _ _)
  have fe_0_15_2 : w_fi w1 (n_v vs 0) 15 = w_fi w2 (n_v vs 0) 15 := congrArg v_iv (s2.2 _ _)
  have fe_0_6_3 : w_fi w2 (n_v vs 0) 6 = w_fi w3 (n_v vs 0) 6 := congrArg v_iv (s3.2 _ _)
  have fe_0_15_3 : w_fi w2 (n_v vs 0) 15 = w_fi w3 (n_v vs 0) 15 := congrArg v_iv (s3.2 _ _)
  have hE_0_8_1 : ∀ j : Int, w_ei ws (w_ar ws (n_v vs 0) 8) j = w_ei w1 (w_ar ws (n_v vs 0) 8) j := fun j => s1.1 _ _
  have hE_0_8_2 : ∀ j : Int, 0 ≤ j → (j = v_iv (n_v vs 14) → w_ei w1 (w_ar ws (n_v vs 0) 8) j = v_iv (n_v vs 17)) ∧ (j ≠ v_iv (n_v vs 14) → w_ei w1 (w_ar ws (n_v vs 0) 8) j = w_ei w2 (w_ar ws (n_v vs 0) 8) j) := fun j hj => ⟨fun h => by unfold w_ei; rw [s2.1, if_pos ⟨ad_7.symm, by rw [h]⟩], fun h => by unfold w_ei; rw [s2.1, if_neg (fun e => h (by have := e.2; omega))]⟩
  have hE_0_8_3 : ∀ j : Int, 0 ≤ j → (j = v_iv (n_v vs 4) → w_ei w2 (w_ar ws (n_v vs 0) 8) j = v_iv (n_v vs 11)) ∧ (j ≠ v_iv (n_v vs 4) → w_ei w2 (w_ar ws (n_v vs 0) 8) j = w_ei w3 (w_ar ws (n_v vs 0) 8) j) := fun j hj => ⟨fun h => by unfold w_ei; rw [s3.1, if_pos ⟨ad_7.symm, by rw [h]⟩], fun h => by unfold w_ei; rw [s3.1, if_neg (fun e => h (by have := e.2; omega))]⟩
  have hK_0_8 := elq_15 hD hth cr_0_8
  have hE_0_14_1 : ∀ j : Int, w_ei ws (w_ar ws (n_v vs 0) 14) j = w_ei w1 (w_ar ws (n_v vs 0) 14) j := fun j => s1.1 _ _
  have hE_0_14_2 : ∀ j : Int, w_ei w1 (w_ar ws (n_v vs 0) 14) j = w_ei w2 (w_ar ws (n_v vs 0) 14) j := el_kp s2.1 r7 cr_0_14 (by decide)
  have hE_0_14_3 : ∀ j : Int, w_ei w2 (w_ar ws (n_v vs 0) 14) j = w_ei w3 (w_ar ws (n_v vs 0) 14) j := el_kp s3.1 r7 cr_0_14 (by decide)
  have hK_0_14 := elq_16 hD hth cr_0_14
  have kz_0_6 := fdq_53 hD hth r0
  have kz_0_15 := fdq_54 hD hth r0
  have nf0 : fc_1 PRD (20, [2, 3, 24], [60, 2, 2, 605, 15, 6, 8, 14]) ws (vs) := by
    refine ⟨nf_in hl rfl, sgq_350 ?_⟩
    · show LRI (w_fi ws (n_v vs 2) 15) (w_fi ws (n_v vs 2) 6) (w_ei ws (w_ar ws (n_v vs 2) 8)) (w_ei ws (w_ar ws (n_v vs 2) 14)) (v_iv (n_v vs 3)) (v_iv (n_v vs 24))
      simp only [q2, q3]
      exact vc_Em_layRing_3_0 (v_iv (n_v vs 1)) (v_iv (n_v vs 3)) (v_iv (n_v vs 4)) (v_iv (n_v vs 5)) (v_iv (n_v vs 6)) (v_iv (n_v vs 9)) (v_iv (n_v vs 10)) (v_iv (n_v vs 11)) (v_iv (n_v vs 12)) (v_iv (n_v vs 13)) (v_iv (n_v vs 14)) (v_iv (n_v vs 15)) (v_iv (n_v vs 16)) (v_iv (n_v vs 17)) (v_iv (n_v vs 18)) (v_iv (n_v vs 19)) (v_iv (n_v vs 20)) (v_iv (n_v vs 21)) (v_iv (n_v vs 22)) (v_iv (n_v vs 23)) (v_iv (n_v vs 24)) (w_fi ws (n_v vs 0) 6) (w_fi ws (n_v vs 0) 15) (w_ei w1 (w_ar ws (n_v vs 0) 14)) (w_fi w1 (n_v vs 0) 6) (w_ei w2 (w_ar ws (n_v vs 0) 14)) (w_ei w3 (w_ar ws (n_v vs 0) 14)) (w_ei w3 (w_ar ws (n_v vs 0) 8)) (w_fi w3 (n_v vs 0) 15) (w_fi w3 (n_v vs 0) 6) (w_fi w1 (n_v vs 0) 15) (w_fi w2 (n_v vs 0) 6) (w_fi w2 (n_v vs 0) 15) (w_ei ws (w_ar ws (n_v vs 0) 8)) (w_ei w1 (w_ar ws (n_v vs 0) 8)) (w_ei w2 (w_ar ws (n_v vs 0) 8)) (w_ei ws (w_ar ws (n_v vs 0) 14)) k1 k3 k4 k5 k6 k9 k10 k11 k12 k13 k14 k15 k16 k17 k18 k19 k20 k21 k22 k23 k24 d0 d1 d2 d3 d4 d5 d6 d7 d8 d9 d10 d11 d12 d13 g0 g3 f4 f8 f9 f10 h11 f12 g13 h15 f16 f17 f18 h20 f21 f22 f23 fe_0_6_1 fe_0_15_1 fe_0_6_2 fe_0_15_2 fe_0_6_3 fe_0_15_3 hE_0_8_1 hE_0_8_2 hE_0_8_3 hK_0_8 hE_0_14_1 hE_0_14_2 hE_0_14_3 hK_0_14 kz_0_6 kz_0_15
  refine ⟨(fun _ h => (by cases h)), [], trivial, ?_, (fun _ h => (by cases h))⟩
  rw [List.append_nil]
  exact List.forall_mem_cons.mpr ⟨⟨show (20 : Nat) < 100 from by decide, nf0⟩, (fun _ h => (by cases h))⟩
def n_Em_layRing_an : List an_T := [(24, [(0, (2, 0, 0, [1])), (1, (0, 0, 24, [])), (2, (0, 1, 27, []))], [], (0, 0), [(0, 0, 99976), (1, 4, 27), (0, 0, 100000)], [(1, 3, (Int.negSucc 999999999999), 0), (3, 1, (Int.negSucc 999999999999), 0)], [((0, 6), (0, 0, 33554431, []))], [(2, 0, 0, [1]), (0, 0, 24, [])], 0, [], [(20, [2, 3, 4], [60, 2, 2, 605, 15, 6, 8, 14]), (24, [0, 2], []), (24, [1, 3], [])])]
def t_Em_layRing_ct : ct_L := []
set_option maxRecDepth 100000 in
theorem c_Em_layRing {l : Launch} {D : va_G} {kA : Nat → ClassId} : ct_ok PRD l D kA GG y_Em_layRing z_Em_layRing e_Em_layRing := chk_all_ok (FT := [(36, 1, 6), (42, 1, 8), (45, 1, 9), (48, 1, 10), (60, 1, 14), (63, 1, 15)]) (PT := [(36, 1, 6, .int), (39, 1, 7, .int)]) (CT := t_Em_layRing_ct) (KT := []) (NT := []) (AN := n_Em_layRing_an) (OT := [o_Em_layRing_0, o_Em_layRing_1, o_Em_layRing_2, o_Em_layRing_3]) 3 356 (List.forall_mem_cons.mpr ⟨oo_Em_layRing_0, List.forall_mem_cons.mpr ⟨oo_Em_layRing_1, List.forall_mem_cons.mpr ⟨oo_Em_layRing_2, List.forall_mem_cons.mpr ⟨oo_Em_layRing_3, List.forall_mem_nil _⟩⟩⟩⟩) (by decide +kernel) ⟨List.forall_mem_cons.mpr ⟨gf_Em_36, List.forall_mem_cons.mpr ⟨gf_Em_42, List.forall_mem_cons.mpr ⟨gf_Em_45, List.forall_mem_cons.mpr ⟨gf_Em_48, List.forall_mem_cons.mpr ⟨gf_Em_60, List.forall_mem_cons.mpr ⟨gf_Em_63, List.forall_mem_nil _⟩⟩⟩⟩⟩⟩, List.forall_mem_cons.mpr ⟨pf_Em_36, List.forall_mem_cons.mpr ⟨pf_Em_39, List.forall_mem_nil _⟩⟩, List.forall_mem_nil _, List.forall_mem_nil _, List.forall_mem_nil _, GG_pl⟩ (by decide +kernel)
set_option maxHeartbeats 4000000 in
theorem vc_Em_leastEdgeAt_at_gn_0_0 (x1 : Int) (x2 : Int) (x4 : Int) (block_0 : Int → Int) (tail_0o3 : Int → Int) (head_0o3 : Int → Int) (edges_0o3 : Int) (k1 : 0 ≤ x1 ∧ x1 ≤ 23) (k2 : 0 ≤ x2 ∧ x2 ≤ 71) (k4 : 0 ≤ x4 ∧ x4 ≤ 0) (hK_0_2 : ∀ j : Int, 0 ≤ j → j < 72 → (-1) ≤ block_0 j ∧ block_0 j ≤ 71) (hK_3_7 : ∀ j : Int, 0 ≤ j → j < 72 → 0 ≤ tail_0o3 j ∧ tail_0o3 j ≤ 23) (hK_3_8 : ∀ j : Int, 0 ≤ j → j < 72 → 0 ≤ head_0o3 j ∧ head_0o3 j ≤ 23) (kz_3_6 : 0 ≤ edges_0o3 ∧ edges_0o3 ≤ 72) : LEI (edges_0o3) (block_0) (tail_0o3) (head_0o3) (x1) (x2) (x4) := by
  first
    | exact fun j a b => by omega
    | exact lei_step ‹LEI _ _ _ _ _ _ _› (by omega) (by omega)
  
def o_Em_leastEdgeAt_at_gn_0 : or_T := (2, 5, [(0, (2, 0, 0, [1])), (1, (0, 0, 23, [])), (2, (0, 0, 71, [])), (3, (2, 0, 0, [5])), (4, (0, 0, 0, []))], [], [], [], [(20, [0, 3, 1, 2, 4], [60, 1, 3, 625, 1006, 2, 1007, 1008]), (24, [3, 3], []), (24, [0, 0], []), (24, [1, 1], []), (24, [2, 2], [])], [], [])
theorem oo_Em_leastEdgeAt_at_gn_0 {kA : Nat → ClassId} : or_ok PRD kA GG o_Em_leastEdgeAt_at_gn_0 := by
  refine or_mk fun A ta ws vs hD hth hl => ?_
  intro t0 r0 t1 k1 t2 k2 t3 r3 t4 k4
  have cr_0_2 := fdq_56 hD hth r0
  have cr_3_7 := fdq_57 hD hth r3
  have cr_3_8 := fdq_58 hD hth r3
  have hK_0_2 := elq_18 hD hth cr_0_2
  have hK_3_7 := elq_19 hD hth cr_3_7
  have hK_3_8 := elq_20 hD hth cr_3_8
  have kz_3_6 := fdq_59 hD hth r3
  have nf0 : fc_1 PRD (20, [0, 3, 1, 2, 4], [60, 1, 3, 625, 1006, 2, 1007, 1008]) ws (vs) := ⟨nf_in hl rfl, sgq_355 (vc_Em_leastEdgeAt_at_gn_0_0 (v_iv (n_v vs 1)) (v_iv (n_v vs 2)) (v_iv (n_v vs 4)) (w_ei ws (w_ar ws (n_v vs 0) 2)) (w_ei ws (w_ar ws (n_v vs 3) 7)) (w_ei ws (w_ar ws (n_v vs 3) 8)) (w_fi ws (n_v vs 3) 6) k1 k2 k4 hK_0_2 hK_3_7 hK_3_8 kz_3_6)⟩
  have nf1 : fc_1 PRD (24, [3, 3], []) ws (vs) := by
    refine ⟨nf_in hl rfl, sgq_1 ?_⟩
    · show n_v vs 3 = n_v vs 3
      first | rfl | simp only [true_and]
  have nf2 : fc_1 PRD (24, [0, 0], []) ws (vs) := by
    refine ⟨nf_in hl rfl, sgq_1 ?_⟩
    · show n_v vs 0 = n_v vs 0
      first | rfl | simp only [true_and]
  have nf3 : fc_1 PRD (24, [1, 1], []) ws (vs) := by
    refine ⟨nf_in hl rfl, sgq_1 ?_⟩
    · show n_v vs 1 = n_v vs 1
      first | rfl | simp only [true_and]
  have nf4 : fc_1 PRD (24, [2, 2], []) ws (vs) := by
    refine ⟨nf_in hl rfl, sgq_1 ?_⟩
    · show n_v vs 2 = n_v vs 2
      first | rfl | simp only [true_and]
  refine ⟨(fun _ h => (by cases h)), [], trivial, ?_, (fun _ h => (by cases h))⟩
  rw [List.append_nil]
  exact List.forall_mem_cons.mpr ⟨⟨show (20 : Nat) < 100 from by decide, nf0⟩, List.forall_mem_cons.mpr ⟨⟨show (24 : Nat) < 100 from by decide, nf1⟩, List.forall_mem_cons.mpr ⟨⟨show (24 : Nat) < 100 from by decide, nf2⟩, List.forall_mem_cons.mpr ⟨⟨show (24 : Nat) < 100 from by decide, nf3⟩, List.forall_mem_cons.mpr ⟨⟨show (24 : Nat) < 100 from by decide, nf4⟩, (fun _ h => (by cases h))⟩⟩⟩⟩⟩
set_option maxHeartbeats 4000000 in
theorem vc_Em_leastEdgeAt_at_gn_1_0 (x1 : Int) (x2 : Int) (x5 : Int) (x6 : Int) (x7 : Int) (x9 : Int) (x10 : Int) (edges_0o3 : Int) (block_0 : Int → Int) (tail_0o3 : Int → Int) (head_0o3 : Int → Int) (k1 : 0 ≤ x1 ∧ x1 ≤ 23) (k2 : 0 ≤ x2 ∧ x2 ≤ 71) (k5 : 0 ≤ x5 ∧ x5 ≤ 23) (k6 : 0 ≤ x6 ∧ x6 ≤ 71) (k7 : 0 ≤ x7 ∧ x7 ≤ 72) (k9 : 0 ≤ x9 ∧ x9 ≤ 72) (k10 : (-1) ≤ x10 ∧ x10 ≤ (-1)) (d0 : x9 + 0 ≤ x7 ∧ x7 ≤ x9 + 4294967296) (d1 : x5 + (-4294967296) ≤ x1 ∧ x1 ≤ x5 + 0) (d2 : x6 + (-4294967296) ≤ x2 ∧ x2 ≤ x6 + 0) (d3 : x1 + (-4294967296) ≤ x5 ∧ x5 ≤ x1 + 0) (d4 : x2 + (-4294967296) ≤ x6 ∧ x6 ≤ x2 + 0) (f0 : x9 ≤ x7) (g1 : x9 = edges_0o3) (f2 : LEI (edges_0o3) (block_0) (tail_0o3) (head_0o3) (x1) (x2) (x7)) (hK_0_2 : ∀ j : Int, 0 ≤ j → j < 72 → (-1) ≤ block_0 j ∧ block_0 j ≤ 71) (hK_3_7 : ∀ j : Int, 0 ≤ j → j < 72 → 0 ≤ tail_0o3 j ∧ tail_0o3 j ≤ 23) (hK_3_8 : ∀ j : Int, 0 ≤ j → j < 72 → 0 ≤ head_0o3 j ∧ head_0o3 j ≤ 23) (kz_3_6 : 0 ≤ edges_0o3 ∧ edges_0o3 ≤ 72) : LEX (edges_0o3) (block_0) (tail_0o3) (head_0o3) (x1) (x2) (x10) := by
  first
    | assumption
    | exact lex_some (by omega)
    | exact lex_end ‹LEI _ _ _ _ _ _ _› (by omega)
  
def o_Em_leastEdgeAt_at_gn_1 : or_T := (58, 11, [(0, (2, 0, 0, [1])), (1, (0, 0, 23, [])), (2, (0, 0, 71, [])), (3, (2, 0, 0, [5])), (5, (0, 0, 23, [])), (6, (0, 0, 71, [])), (7, (0, 0, 72, [])), (9, (0, 0, 72, [])), (10, (0, -1, -1, []))], [(7, [7, 9], [3]), (9, [9, 8], [6]), (20, [4, 8, 5, 6, 7], [60, 1, 3, 625, 1006, 2, 1007, 1008]), (24, [3, 8], []), (24, [0, 4], []), (24, [1, 5], []), (24, [2, 6], [])], [], [], [(20, [0, 3, 1, 2, 10], [60, 1, 3, 626, 1006, 2, 1007, 1008])], [], [(7, 9, 0, 4294967296), (1, 5, -4294967296, 0), (2, 6, -4294967296, 0), (5, 1, -4294967296, 0), (6, 2, -4294967296, 0)])
theorem oo_Em_leastEdgeAt_at_gn_1 {kA : Nat → ClassId} : or_ok PRD kA GG o_Em_leastEdgeAt_at_gn_1 := by
  refine or_mk fun A ta ws vs hD hth hl => ?_
  intro t0 r0 t1 k1 t2 k2 t3 r3 t5 k5 t6 k6 t7 k7 t9 k9 t10 k10 d0 d1 d2 d3 d4 f0 f1 f2 f3 f4 f5 f6
  replace f1 := shm_111 f1
  replace f2 := shm_355 f2
  replace f3 := shm_5 f3
  replace f4 := shm_5 f4
  replace f5 := shm_5 f5
  replace f6 := shm_5 f6
  have q8 : n_v vs 8 = n_v vs 3 := f3.symm
  have q4 : n_v vs 4 = n_v vs 0 := f4.symm
  have q5 : n_v vs 5 = n_v vs 1 := f5.symm
  have q6 : n_v vs 6 = n_v vs 2 := f6.symm
  simp only [q8, q4, q5, q6] at f1 f2
  have cr_0_2 := fdq_56 hD hth r0
  have cr_3_7 := fdq_57 hD hth r3
  have cr_3_8 := fdq_58 hD hth r3
  have g1 : v_iv (n_v vs 9) = w_fi ws (n_v vs 3) 6 := congrArg v_iv f1
  have hK_0_2 := elq_18 hD hth cr_0_2
  have hK_3_7 := elq_19 hD hth cr_3_7
  have hK_3_8 := elq_20 hD hth cr_3_8
  have kz_3_6 := fdq_59 hD hth r3
  have nf0 : fc_1 PRD (20, [0, 3, 1, 2, 10], [60, 1, 3, 626, 1006, 2, 1007, 1008]) ws (vs) := ⟨nf_in hl rfl, sgq_356 (vc_Em_leastEdgeAt_at_gn_1_0 (v_iv (n_v vs 1)) (v_iv (n_v vs 2)) (v_iv (n_v vs 5)) (v_iv (n_v vs 6)) (v_iv (n_v vs 7)) (v_iv (n_v vs 9)) (v_iv (n_v vs 10)) (w_fi ws (n_v vs 3) 6) (w_ei ws (w_ar ws (n_v vs 0) 2)) (w_ei ws (w_ar ws (n_v vs 3) 7)) (w_ei ws (w_ar ws (n_v vs 3) 8)) k1 k2 k5 k6 k7 k9 k10 d0 d1 d2 d3 d4 (shm_2 f0) g1 f2 hK_0_2 hK_3_7 hK_3_8 kz_3_6)⟩
  refine ⟨(fun _ h => (by cases h)), [], trivial, ?_, (fun _ h => (by cases h))⟩
  rw [List.append_nil]
  exact List.forall_mem_cons.mpr ⟨⟨show (20 : Nat) < 100 from by decide, nf0⟩, (fun _ h => (by cases h))⟩
set_option maxHeartbeats 4000000 in
theorem vc_Em_leastEdgeAt_at_gn_2_0 (x1 : Int) (x2 : Int) (x5 : Int) (x6 : Int) (x7 : Int) (x9 : Int) (x11 : Int) (x12 : Int) (block_0 : Int → Int) (edges_0o3 : Int) (tail_0o3 : Int → Int) (head_0o3 : Int → Int) (k1 : 0 ≤ x1 ∧ x1 ≤ 23) (k2 : 0 ≤ x2 ∧ x2 ≤ 71) (k5 : 0 ≤ x5 ∧ x5 ≤ 23) (k6 : 0 ≤ x6 ∧ x6 ≤ 71) (k7 : 0 ≤ x7 ∧ x7 ≤ 71) (k9 : 1 ≤ x9 ∧ x9 ≤ 72) (k11 : (-1) ≤ x11 ∧ x11 ≤ 71) (k12 : 1 ≤ x12 ∧ x12 ≤ 72) (d0 : x7 + 1 ≤ x12 ∧ x12 ≤ x7 + 1) (d1 : x9 + (-4294967296) ≤ x12 ∧ x12 ≤ x9 + 0) (d2 : x9 + (-4294967296) ≤ x7 ∧ x7 ≤ x9 + (-1)) (d3 : x5 + (-4294967296) ≤ x1 ∧ x1 ≤ x5 + 0) (d4 : x6 + (-4294967296) ≤ x2 ∧ x2 ≤ x6 + 0) (d5 : x1 + (-4294967296) ≤ x5 ∧ x5 ≤ x1 + 0) (d6 : x2 + (-4294967296) ≤ x6 ∧ x6 ≤ x2 + 0) (f0 : x12 = x7 + 1) (f1 : x11 ≠ x2) (h2 : x11 = block_0 (x7)) (f4 : x7 < x9) (g5 : x9 = edges_0o3) (f6 : LEI (edges_0o3) (block_0) (tail_0o3) (head_0o3) (x1) (x2) (x7)) (hK_0_2 : ∀ j : Int, 0 ≤ j → j < 72 → (-1) ≤ block_0 j ∧ block_0 j ≤ 71) (hK_3_7 : ∀ j : Int, 0 ≤ j → j < 72 → 0 ≤ tail_0o3 j ∧ tail_0o3 j ≤ 23) (hK_3_8 : ∀ j : Int, 0 ≤ j → j < 72 → 0 ≤ head_0o3 j ∧ head_0o3 j ≤ 23) (kz_3_6 : 0 ≤ edges_0o3 ∧ edges_0o3 ≤ 72) : LEI (edges_0o3) (block_0) (tail_0o3) (head_0o3) (x1) (x2) (x12) := by
  first
    | exact fun j a b => by omega
    | exact lei_step ‹LEI _ _ _ _ _ _ _› (by omega) (by omega)
  
def o_Em_leastEdgeAt_at_gn_2 : or_T := (2, 13, [(0, (2, 0, 0, [1])), (1, (0, 0, 23, [])), (2, (0, 0, 71, [])), (3, (2, 0, 0, [5])), (5, (0, 0, 23, [])), (6, (0, 0, 71, [])), (7, (0, 0, 71, [])), (9, (0, 1, 72, [])), (11, (0, -1, 71, [])), (12, (0, 1, 72, []))], [(6, [12, 7], [1]), (7, [11, 6], [1]), (10, [11, 10, 7], []), (9, [10, 4], [2]), (7, [7, 9], [2]), (9, [9, 8], [6]), (20, [4, 8, 5, 6, 7], [60, 1, 3, 625, 1006, 2, 1007, 1008]), (24, [3, 8], []), (24, [0, 4], []), (24, [1, 5], []), (24, [2, 6], [])], [], [], [(20, [4, 8, 5, 6, 12], [60, 1, 3, 625, 1006, 2, 1007, 1008])], [], [(12, 7, 1, 1), (12, 9, -4294967296, 0), (7, 9, -4294967296, -1), (1, 5, -4294967296, 0), (2, 6, -4294967296, 0), (5, 1, -4294967296, 0), (6, 2, -4294967296, 0)])
theorem oo_Em_leastEdgeAt_at_gn_2 {kA : Nat → ClassId} : or_ok PRD kA GG o_Em_leastEdgeAt_at_gn_2 := by
  refine or_mk fun A ta ws vs hD hth hl => ?_
  intro t0 r0 t1 k1 t2 k2 t3 r3 t5 k5 t6 k6 t7 k7 t9 k9 t11 k11 t12 k12 d0 d1 d2 d3 d4 d5 d6 f0 f1 f2 f3 f4 f5 f6 f7 f8 f9 f10
  replace f0 := shm_4 f0
  replace f1 := shm_40 f1
  replace f2 := shm_107 f2
  replace f3 := shm_120 f3
  replace f4 := shm_6 f4
  replace f5 := shm_111 f5
  replace f6 := shm_355 f6
  replace f7 := shm_5 f7
  replace f8 := shm_5 f8
  replace f9 := shm_5 f9
  replace f10 := shm_5 f10
  have q8 : n_v vs 8 = n_v vs 3 := f7.symm
  have q4 : n_v vs 4 = n_v vs 0 := f8.symm
  have q5 : n_v vs 5 = n_v vs 1 := f9.symm
  have q6 : n_v vs 6 = n_v vs 2 := f10.symm
  simp only [q6, q4, q8, q5] at f1 f3 f5 f6
  have cr_0_2 := fdq_56 hD hth r0
  have cr_3_7 := fdq_57 hD hth r3
  have cr_3_8 := fdq_58 hD hth r3
  have ad_10 : v_ad (n_v vs 10) = w_ar ws (n_v vs 0) 2 := congrArg v_ad f3
  simp only [ad_10] at f2
  have h2 : v_iv (n_v vs 11) = w_ei ws (w_ar ws (n_v vs 0) 2) (v_iv (n_v vs 7)) := f2
  have g5 : v_iv (n_v vs 9) = w_fi ws (n_v vs 3) 6 := congrArg v_iv f5
  have hK_0_2 := elq_18 hD hth cr_0_2
  have hK_3_7 := elq_19 hD hth cr_3_7
  have hK_3_8 := elq_20 hD hth cr_3_8
  have kz_3_6 := fdq_59 hD hth r3
  have nf0 : fc_1 PRD (20, [4, 8, 5, 6, 12], [60, 1, 3, 625, 1006, 2, 1007, 1008]) ws (vs) := by
    refine ⟨nf_in hl rfl, sgq_355 ?_⟩
    · show LEI (w_fi ws (n_v vs 8) 6) (w_ei ws (w_ar ws (n_v vs 4) 2)) (w_ei ws (w_ar ws (n_v vs 8) 7)) (w_ei ws (w_ar ws (n_v vs 8) 8)) (v_iv (n_v vs 5)) (v_iv (n_v vs 6)) (v_iv (n_v vs 12))
      simp only [q8, q4, q5, q6]
      exact vc_Em_leastEdgeAt_at_gn_2_0 (v_iv (n_v vs 1)) (v_iv (n_v vs 2)) (v_iv (n_v vs 5)) (v_iv (n_v vs 6)) (v_iv (n_v vs 7)) (v_iv (n_v vs 9)) (v_iv (n_v vs 11)) (v_iv (n_v vs 12)) (w_ei ws (w_ar ws (n_v vs 0) 2)) (w_fi ws (n_v vs 3) 6) (w_ei ws (w_ar ws (n_v vs 3) 7)) (w_ei ws (w_ar ws (n_v vs 3) 8)) k1 k2 k5 k6 k7 k9 k11 k12 d0 d1 d2 d3 d4 d5 d6 f0 f1 h2 f4 g5 f6 hK_0_2 hK_3_7 hK_3_8 kz_3_6
  refine ⟨(fun _ h => (by cases h)), [], trivial, ?_, (fun _ h => (by cases h))⟩
  rw [List.append_nil]
  exact List.forall_mem_cons.mpr ⟨⟨show (20 : Nat) < 100 from by decide, nf0⟩, (fun _ h => (by cases h))⟩
set_option maxHeartbeats 4000000 in
theorem vc_Em_leastEdgeAt_at_gn_3_0 (x1 : Int) (x2 : Int) (x5 : Int) (x6 : Int) (x7 : Int) (x9 : Int) (x11 : Int) (x13 : Int) (tail_0o3 : Int → Int) (block_0 : Int → Int) (edges_0o3 : Int) (head_0o3 : Int → Int) (k1 : 0 ≤ x1 ∧ x1 ≤ 23) (k2 : 0 ≤ x2 ∧ x2 ≤ 71) (k5 : 0 ≤ x5 ∧ x5 ≤ 23) (k6 : 0 ≤ x6 ∧ x6 ≤ 71) (k7 : 0 ≤ x7 ∧ x7 ≤ 71) (k9 : 1 ≤ x9 ∧ x9 ≤ 72) (k11 : 0 ≤ x11 ∧ x11 ≤ 71) (k13 : 0 ≤ x13 ∧ x13 ≤ 23) (d0 : x5 + 0 ≤ x13 ∧ x13 ≤ x5 + 0) (d1 : x6 + 0 ≤ x11 ∧ x11 ≤ x6 + 0) (d2 : x9 + (-4294967296) ≤ x7 ∧ x7 ≤ x9 + (-1)) (d3 : x5 + (-4294967296) ≤ x1 ∧ x1 ≤ x5 + 0) (d4 : x6 + (-4294967296) ≤ x2 ∧ x2 ≤ x6 + 0) (d5 : x1 + (-4294967296) ≤ x5 ∧ x5 ≤ x1 + 0) (d6 : x2 + (-4294967296) ≤ x6 ∧ x6 ≤ x2 + 0) (f0 : x13 = x1) (h1 : x13 = tail_0o3 (x7)) (f3 : x11 = x2) (h4 : x11 = block_0 (x7)) (f6 : x7 < x9) (g7 : x9 = edges_0o3) (f8 : LEI (edges_0o3) (block_0) (tail_0o3) (head_0o3) (x1) (x2) (x7)) (hK_0_2 : ∀ j : Int, 0 ≤ j → j < 72 → (-1) ≤ block_0 j ∧ block_0 j ≤ 71) (hK_3_7 : ∀ j : Int, 0 ≤ j → j < 72 → 0 ≤ tail_0o3 j ∧ tail_0o3 j ≤ 23) (hK_3_8 : ∀ j : Int, 0 ≤ j → j < 72 → 0 ≤ head_0o3 j ∧ head_0o3 j ≤ 23) (kz_3_6 : 0 ≤ edges_0o3 ∧ edges_0o3 ≤ 72) : LEX (edges_0o3) (block_0) (tail_0o3) (head_0o3) (x1) (x2) (x7) := by
  first
    | assumption
    | exact lex_some (by omega)
    | exact lex_end ‹LEI _ _ _ _ _ _ _› (by omega)
  
def o_Em_leastEdgeAt_at_gn_3 : or_T := (50, 14, [(0, (2, 0, 0, [1])), (1, (0, 0, 23, [])), (2, (0, 0, 71, [])), (3, (2, 0, 0, [5])), (5, (0, 0, 23, [])), (6, (0, 0, 71, [])), (7, (0, 0, 71, [])), (9, (0, 1, 72, [])), (11, (0, 0, 71, [])), (13, (0, 0, 23, []))], [(7, [13, 5], [0]), (10, [13, 12, 7], []), (9, [12, 8], [7]), (7, [11, 6], [0]), (10, [11, 10, 7], []), (9, [10, 4], [2]), (7, [7, 9], [2]), (9, [9, 8], [6]), (20, [4, 8, 5, 6, 7], [60, 1, 3, 625, 1006, 2, 1007, 1008]), (24, [3, 8], []), (24, [0, 4], []), (24, [1, 5], []), (24, [2, 6], [])], [], [], [(20, [0, 3, 1, 2, 7], [60, 1, 3, 626, 1006, 2, 1007, 1008])], [], [(13, 5, 0, 0), (11, 6, 0, 0), (7, 9, -4294967296, -1), (1, 5, -4294967296, 0), (2, 6, -4294967296, 0), (5, 1, -4294967296, 0), (6, 2, -4294967296, 0)])
theorem oo_Em_leastEdgeAt_at_gn_3 {kA : Nat → ClassId} : or_ok PRD kA GG o_Em_leastEdgeAt_at_gn_3 := by
  refine or_mk fun A ta ws vs hD hth hl => ?_
  intro t0 r0 t1 k1 t2 k2 t3 r3 t5 k5 t6 k6 t7 k7 t9 k9 t11 k11 t13 k13 d0 d1 d2 d3 d4 d5 d6 f0 f1 f2 f3 f4 f5 f6 f7 f8 f9 f10 f11 f12
  replace f0 := shm_37 f0
  replace f1 := shm_107 f1
  replace f2 := shm_198 f2
  replace f3 := shm_37 f3
  replace f4 := shm_107 f4
  replace f5 := shm_120 f5
  replace f7 := shm_111 f7
  replace f8 := shm_355 f8
  replace f9 := shm_5 f9
  replace f10 := shm_5 f10
  replace f11 := shm_5 f11
  replace f12 := shm_5 f12
  have q8 : n_v vs 8 = n_v vs 3 := f9.symm
  have q4 : n_v vs 4 = n_v vs 0 := f10.symm
  have q5 : n_v vs 5 = n_v vs 1 := f11.symm
  have q6 : n_v vs 6 = n_v vs 2 := f12.symm
  simp only [q5, q8, q6, q4] at f0 f2 f3 f5 f7 f8
  have cr_0_2 := fdq_56 hD hth r0
  have cr_3_7 := fdq_57 hD hth r3
  have cr_3_8 := fdq_58 hD hth r3
  have ad_12 : v_ad (n_v vs 12) = w_ar ws (n_v vs 3) 7 := congrArg v_ad f2
  have ad_10 : v_ad (n_v vs 10) = w_ar ws (n_v vs 0) 2 := congrArg v_ad f5
  simp only [ad_12] at f1
  have h1 : v_iv (n_v vs 13) = w_ei ws (w_ar ws (n_v vs 3) 7) (v_iv (n_v vs 7)) := f1
  simp only [ad_10] at f4
  have h4 : v_iv (n_v vs 11) = w_ei ws (w_ar ws (n_v vs 0) 2) (v_iv (n_v vs 7)) := f4
  have g7 : v_iv (n_v vs 9) = w_fi ws (n_v vs 3) 6 := congrArg v_iv f7
  have hK_0_2 := elq_18 hD hth cr_0_2
  have hK_3_7 := elq_19 hD hth cr_3_7
  have hK_3_8 := elq_20 hD hth cr_3_8
  have kz_3_6 := fdq_59 hD hth r3
  have nf0 : fc_1 PRD (20, [0, 3, 1, 2, 7], [60, 1, 3, 626, 1006, 2, 1007, 1008]) ws (vs) := ⟨nf_in hl rfl, sgq_356 (vc_Em_leastEdgeAt_at_gn_3_0 (v_iv (n_v vs 1)) (v_iv (n_v vs 2)) (v_iv (n_v vs 5)) (v_iv (n_v vs 6)) (v_iv (n_v vs 7)) (v_iv (n_v vs 9)) (v_iv (n_v vs 11)) (v_iv (n_v vs 13)) (w_ei ws (w_ar ws (n_v vs 3) 7)) (w_ei ws (w_ar ws (n_v vs 0) 2)) (w_fi ws (n_v vs 3) 6) (w_ei ws (w_ar ws (n_v vs 3) 8)) k1 k2 k5 k6 k7 k9 k11 k13 d0 d1 d2 d3 d4 d5 d6 f0 h1 f3 h4 (shm_6 f6) g7 f8 hK_0_2 hK_3_7 hK_3_8 kz_3_6)⟩
  refine ⟨(fun _ h => (by cases h)), [], trivial, ?_, (fun _ h => (by cases h))⟩
  rw [List.append_nil]
  exact List.forall_mem_cons.mpr ⟨⟨show (20 : Nat) < 100 from by decide, nf0⟩, (fun _ h => (by cases h))⟩
set_option maxHeartbeats 4000000 in
theorem vc_Em_leastEdgeAt_at_gn_4_0 (x1 : Int) (x2 : Int) (x5 : Int) (x6 : Int) (x7 : Int) (x9 : Int) (x11 : Int) (x13 : Int) (x15 : Int) (x16 : Int) (head_0o3 : Int → Int) (tail_0o3 : Int → Int) (block_0 : Int → Int) (edges_0o3 : Int) (k1 : 0 ≤ x1 ∧ x1 ≤ 23) (k2 : 0 ≤ x2 ∧ x2 ≤ 71) (k5 : 0 ≤ x5 ∧ x5 ≤ 23) (k6 : 0 ≤ x6 ∧ x6 ≤ 71) (k7 : 0 ≤ x7 ∧ x7 ≤ 71) (k9 : 1 ≤ x9 ∧ x9 ≤ 72) (k11 : 0 ≤ x11 ∧ x11 ≤ 71) (k13 : 0 ≤ x13 ∧ x13 ≤ 23) (k15 : 0 ≤ x15 ∧ x15 ≤ 23) (k16 : 1 ≤ x16 ∧ x16 ≤ 72) (d0 : x7 + 1 ≤ x16 ∧ x16 ≤ x7 + 1) (d1 : x9 + (-4294967296) ≤ x16 ∧ x16 ≤ x9 + 0) (d2 : x6 + 0 ≤ x11 ∧ x11 ≤ x6 + 0) (d3 : x9 + (-4294967296) ≤ x7 ∧ x7 ≤ x9 + (-1)) (d4 : x5 + (-4294967296) ≤ x1 ∧ x1 ≤ x5 + 0) (d5 : x6 + (-4294967296) ≤ x2 ∧ x2 ≤ x6 + 0) (d6 : x1 + (-4294967296) ≤ x5 ∧ x5 ≤ x1 + 0) (d7 : x2 + (-4294967296) ≤ x6 ∧ x6 ≤ x2 + 0) (f0 : x16 = x7 + 1) (f1 : x15 ≠ x1) (h2 : x15 = head_0o3 (x7)) (f4 : x13 ≠ x1) (h5 : x13 = tail_0o3 (x7)) (f7 : x11 = x2) (h8 : x11 = block_0 (x7)) (f10 : x7 < x9) (g11 : x9 = edges_0o3) (f12 : LEI (edges_0o3) (block_0) (tail_0o3) (head_0o3) (x1) (x2) (x7)) (hK_0_2 : ∀ j : Int, 0 ≤ j → j < 72 → (-1) ≤ block_0 j ∧ block_0 j ≤ 71) (hK_3_7 : ∀ j : Int, 0 ≤ j → j < 72 → 0 ≤ tail_0o3 j ∧ tail_0o3 j ≤ 23) (hK_3_8 : ∀ j : Int, 0 ≤ j → j < 72 → 0 ≤ head_0o3 j ∧ head_0o3 j ≤ 23) (kz_3_6 : 0 ≤ edges_0o3 ∧ edges_0o3 ≤ 72) : LEI (edges_0o3) (block_0) (tail_0o3) (head_0o3) (x1) (x2) (x16) := by
  first
    | exact fun j a b => by omega
    | exact lei_step ‹LEI _ _ _ _ _ _ _› (by omega) (by omega)
  
def o_Em_leastEdgeAt_at_gn_4 : or_T := (2, 17, [(0, (2, 0, 0, [1])), (1, (0, 0, 23, [])), (2, (0, 0, 71, [])), (3, (2, 0, 0, [5])), (5, (0, 0, 23, [])), (6, (0, 0, 71, [])), (7, (0, 0, 71, [])), (9, (0, 1, 72, [])), (11, (0, 0, 71, [])), (13, (0, 0, 23, [])), (15, (0, 0, 23, [])), (16, (0, 1, 72, []))], [(6, [16, 7], [1]), (7, [15, 5], [1]), (10, [15, 14, 7], []), (9, [14, 8], [8]), (7, [13, 5], [1]), (10, [13, 12, 7], []), (9, [12, 8], [7]), (7, [11, 6], [0]), (10, [11, 10, 7], []), (9, [10, 4], [2]), (7, [7, 9], [2]), (9, [9, 8], [6]), (20, [4, 8, 5, 6, 7], [60, 1, 3, 625, 1006, 2, 1007, 1008]), (24, [3, 8], []), (24, [0, 4], []), (24, [1, 5], []), (24, [2, 6], [])], [], [], [(20, [4, 8, 5, 6, 16], [60, 1, 3, 625, 1006, 2, 1007, 1008])], [], [(16, 7, 1, 1), (16, 9, -4294967296, 0), (11, 6, 0, 0), (7, 9, -4294967296, -1), (1, 5, -4294967296, 0), (2, 6, -4294967296, 0), (5, 1, -4294967296, 0), (6, 2, -4294967296, 0)])
theorem oo_Em_leastEdgeAt_at_gn_4 {kA : Nat → ClassId} : or_ok PRD kA GG o_Em_leastEdgeAt_at_gn_4 := by
  refine or_mk fun A ta ws vs hD hth hl => ?_
  intro t0 r0 t1 k1 t2 k2 t3 r3 t5 k5 t6 k6 t7 k7 t9 k9 t11 k11 t13 k13 t15 k15 t16 k16 d0 d1 d2 d3 d4 d5 d6 d7 f0 f1 f2 f3 f4 f5 f6 f7 f8 f9 f10 f11 f12 f13 f14 f15 f16
  replace f0 := shm_4 f0
  replace f1 := shm_40 f1
  replace f2 := shm_107 f2
  replace f3 := shm_293 f3
  replace f4 := shm_40 f4
  replace f5 := shm_107 f5
  replace f6 := shm_198 f6
  replace f7 := shm_37 f7
  replace f8 := shm_107 f8
  replace f9 := shm_120 f9
  replace f10 := shm_6 f10
  replace f11 := shm_111 f11
  replace f12 := shm_355 f12
  replace f13 := shm_5 f13
  replace f14 := shm_5 f14
  replace f15 := shm_5 f15
  replace f16 := shm_5 f16
  have q8 : n_v vs 8 = n_v vs 3 := f13.symm
  have q4 : n_v vs 4 = n_v vs 0 := f14.symm
  have q5 : n_v vs 5 = n_v vs 1 := f15.symm
  have q6 : n_v vs 6 = n_v vs 2 := f16.symm
  simp only [q5, q8, q6, q4] at f1 f3 f4 f6 f7 f9 f11 f12
  have cr_0_2 := fdq_56 hD hth r0
  have cr_3_7 := fdq_57 hD hth r3
  have cr_3_8 := fdq_58 hD hth r3
  have ad_14 : v_ad (n_v vs 14) = w_ar ws (n_v vs 3) 8 := congrArg v_ad f3
  have ad_12 : v_ad (n_v vs 12) = w_ar ws (n_v vs 3) 7 := congrArg v_ad f6
  have ad_10 : v_ad (n_v vs 10) = w_ar ws (n_v vs 0) 2 := congrArg v_ad f9
  simp only [ad_14] at f2
  have h2 : v_iv (n_v vs 15) = w_ei ws (w_ar ws (n_v vs 3) 8) (v_iv (n_v vs 7)) := f2
  simp only [ad_12] at f5
  have h5 : v_iv (n_v vs 13) = w_ei ws (w_ar ws (n_v vs 3) 7) (v_iv (n_v vs 7)) := f5
  simp only [ad_10] at f8
  have h8 : v_iv (n_v vs 11) = w_ei ws (w_ar ws (n_v vs 0) 2) (v_iv (n_v vs 7)) := f8
  have g11 : v_iv (n_v vs 9) = w_fi ws (n_v vs 3) 6 := congrArg v_iv f11
  have hK_0_2 := elq_18 hD hth cr_0_2
  have hK_3_7 := elq_19 hD hth cr_3_7
  have hK_3_8 := elq_20 hD hth cr_3_8
  have kz_3_6 := fdq_59 hD hth r3
  have nf0 : fc_1 PRD (20, [4, 8, 5, 6, 16], [60, 1, 3, 625, 1006, 2, 1007, 1008]) ws (vs) := by
    refine ⟨nf_in hl rfl, sgq_355 ?_⟩
    · show LEI (w_fi ws (n_v vs 8) 6) (w_ei ws (w_ar ws (n_v vs 4) 2)) (w_ei ws (w_ar ws (n_v vs 8) 7)) (w_ei ws (w_ar ws (n_v vs 8) 8)) (v_iv (n_v vs 5)) (v_iv (n_v vs 6)) (v_iv (n_v vs 16))
      simp only [q8, q4, q5, q6]
      exact vc_Em_leastEdgeAt_at_gn_4_0 (v_iv (n_v vs 1)) (v_iv (n_v vs 2)) (v_iv (n_v vs 5)) (v_iv (n_v vs 6)) (v_iv (n_v vs 7)) (v_iv (n_v vs 9)) (v_iv (n_v vs 11)) (v_iv (n_v vs 13)) (v_iv (n_v vs 15)) (v_iv (n_v vs 16)) (w_ei ws (w_ar ws (n_v vs 3) 8)) (w_ei ws (w_ar ws (n_v vs 3) 7)) (w_ei ws (w_ar ws (n_v vs 0) 2)) (w_fi ws (n_v vs 3) 6) k1 k2 k5 k6 k7 k9 k11 k13 k15 k16 d0 d1 d2 d3 d4 d5 d6 d7 f0 f1 h2 f4 h5 f7 h8 f10 g11 f12 hK_0_2 hK_3_7 hK_3_8 kz_3_6
  refine ⟨(fun _ h => (by cases h)), [], trivial, ?_, (fun _ h => (by cases h))⟩
  rw [List.append_nil]
  exact List.forall_mem_cons.mpr ⟨⟨show (20 : Nat) < 100 from by decide, nf0⟩, (fun _ h => (by cases h))⟩
set_option maxHeartbeats 4000000 in
theorem vc_Em_leastEdgeAt_at_gn_5_0 (x1 : Int) (x2 : Int) (x5 : Int) (x6 : Int) (x7 : Int) (x9 : Int) (x11 : Int) (x13 : Int) (x15 : Int) (head_0o3 : Int → Int) (tail_0o3 : Int → Int) (block_0 : Int → Int) (edges_0o3 : Int) (k1 : 0 ≤ x1 ∧ x1 ≤ 23) (k2 : 0 ≤ x2 ∧ x2 ≤ 71) (k5 : 0 ≤ x5 ∧ x5 ≤ 23) (k6 : 0 ≤ x6 ∧ x6 ≤ 71) (k7 : 0 ≤ x7 ∧ x7 ≤ 71) (k9 : 1 ≤ x9 ∧ x9 ≤ 72) (k11 : 0 ≤ x11 ∧ x11 ≤ 71) (k13 : 0 ≤ x13 ∧ x13 ≤ 23) (k15 : 0 ≤ x15 ∧ x15 ≤ 23) (d0 : x5 + 0 ≤ x15 ∧ x15 ≤ x5 + 0) (d1 : x6 + 0 ≤ x11 ∧ x11 ≤ x6 + 0) (d2 : x9 + (-4294967296) ≤ x7 ∧ x7 ≤ x9 + (-1)) (d3 : x5 + (-4294967296) ≤ x1 ∧ x1 ≤ x5 + 0) (d4 : x6 + (-4294967296) ≤ x2 ∧ x2 ≤ x6 + 0) (d5 : x1 + (-4294967296) ≤ x5 ∧ x5 ≤ x1 + 0) (d6 : x2 + (-4294967296) ≤ x6 ∧ x6 ≤ x2 + 0) (f0 : x15 = x1) (h1 : x15 = head_0o3 (x7)) (f3 : x13 ≠ x1) (h4 : x13 = tail_0o3 (x7)) (f6 : x11 = x2) (h7 : x11 = block_0 (x7)) (f9 : x7 < x9) (g10 : x9 = edges_0o3) (f11 : LEI (edges_0o3) (block_0) (tail_0o3) (head_0o3) (x1) (x2) (x7)) (hK_0_2 : ∀ j : Int, 0 ≤ j → j < 72 → (-1) ≤ block_0 j ∧ block_0 j ≤ 71) (hK_3_7 : ∀ j : Int, 0 ≤ j → j < 72 → 0 ≤ tail_0o3 j ∧ tail_0o3 j ≤ 23) (hK_3_8 : ∀ j : Int, 0 ≤ j → j < 72 → 0 ≤ head_0o3 j ∧ head_0o3 j ≤ 23) (kz_3_6 : 0 ≤ edges_0o3 ∧ edges_0o3 ≤ 72) : LEX (edges_0o3) (block_0) (tail_0o3) (head_0o3) (x1) (x2) (x7) := by
  first
    | assumption
    | exact lex_some (by omega)
    | exact lex_end ‹LEI _ _ _ _ _ _ _› (by omega)
  
def o_Em_leastEdgeAt_at_gn_5 : or_T := (50, 16, [(0, (2, 0, 0, [1])), (1, (0, 0, 23, [])), (2, (0, 0, 71, [])), (3, (2, 0, 0, [5])), (5, (0, 0, 23, [])), (6, (0, 0, 71, [])), (7, (0, 0, 71, [])), (9, (0, 1, 72, [])), (11, (0, 0, 71, [])), (13, (0, 0, 23, [])), (15, (0, 0, 23, []))], [(7, [15, 5], [0]), (10, [15, 14, 7], []), (9, [14, 8], [8]), (7, [13, 5], [1]), (10, [13, 12, 7], []), (9, [12, 8], [7]), (7, [11, 6], [0]), (10, [11, 10, 7], []), (9, [10, 4], [2]), (7, [7, 9], [2]), (9, [9, 8], [6]), (20, [4, 8, 5, 6, 7], [60, 1, 3, 625, 1006, 2, 1007, 1008]), (24, [3, 8], []), (24, [0, 4], []), (24, [1, 5], []), (24, [2, 6], [])], [], [], [(20, [0, 3, 1, 2, 7], [60, 1, 3, 626, 1006, 2, 1007, 1008])], [], [(15, 5, 0, 0), (11, 6, 0, 0), (7, 9, -4294967296, -1), (1, 5, -4294967296, 0), (2, 6, -4294967296, 0), (5, 1, -4294967296, 0), (6, 2, -4294967296, 0)])
theorem oo_Em_leastEdgeAt_at_gn_5 {kA : Nat → ClassId} : or_ok PRD kA GG o_Em_leastEdgeAt_at_gn_5 := by
  refine or_mk fun A ta ws vs hD hth hl => ?_
  intro t0 r0 t1 k1 t2 k2 t3 r3 t5 k5 t6 k6 t7 k7 t9 k9 t11 k11 t13 k13 t15 k15 d0 d1 d2 d3 d4 d5 d6 f0 f1 f2 f3 f4 f5 f6 f7 f8 f9 f10 f11 f12 f13 f14 f15
  replace f0 := shm_37 f0
  replace f1 := shm_107 f1
  replace f2 := shm_293 f2
  replace f3 := shm_40 f3
  replace f4 := shm_107 f4
  replace f5 := shm_198 f5
  replace f6 := shm_37 f6
  replace f7 := shm_107 f7
  replace f8 := shm_120 f8
  replace f10 := shm_111 f10
  replace f11 := shm_355 f11
  replace f12 := shm_5 f12
  replace f13 := shm_5 f13
  replace f14 := shm_5 f14
  replace f15 := shm_5 f15
  have q8 : n_v vs 8 = n_v vs 3 := f12.symm
  have q4 : n_v vs 4 = n_v vs 0 := f13.symm
  have q5 : n_v vs 5 = n_v vs 1 := f14.symm
  have q6 : n_v vs 6 = n_v vs 2 := f15.symm
  simp only [q5, q8, q6, q4] at f0 f2 f3 f5 f6 f8 f10 f11
  have cr_0_2 := fdq_56 hD hth r0
  have cr_3_7 := fdq_57 hD hth r3
  have cr_3_8 := fdq_58 hD hth r3
  have ad_14 : v_ad (n_v vs 14) = w_ar ws (n_v vs 3) 8 := congrArg v_ad f2
  have ad_12 : v_ad (n_v vs 12) = w_ar ws (n_v vs 3) 7 := congrArg v_ad f5
  have ad_10 : v_ad (n_v vs 10) = w_ar ws (n_v vs 0) 2 := congrArg v_ad f8
  simp only [ad_14] at f1
  have h1 : v_iv (n_v vs 15) = w_ei ws (w_ar ws (n_v vs 3) 8) (v_iv (n_v vs 7)) := f1
  simp only [ad_12] at f4
  have h4 : v_iv (n_v vs 13) = w_ei ws (w_ar ws (n_v vs 3) 7) (v_iv (n_v vs 7)) := f4
  simp only [ad_10] at f7
  have h7 : v_iv (n_v vs 11) = w_ei ws (w_ar ws (n_v vs 0) 2) (v_iv (n_v vs 7)) := f7
  have g10 : v_iv (n_v vs 9) = w_fi ws (n_v vs 3) 6 := congrArg v_iv f10
  have hK_0_2 := elq_18 hD hth cr_0_2
  have hK_3_7 := elq_19 hD hth cr_3_7
  have hK_3_8 := elq_20 hD hth cr_3_8
  have kz_3_6 := fdq_59 hD hth r3
  have nf0 : fc_1 PRD (20, [0, 3, 1, 2, 7], [60, 1, 3, 626, 1006, 2, 1007, 1008]) ws (vs) := ⟨nf_in hl rfl, sgq_356 (vc_Em_leastEdgeAt_at_gn_5_0 (v_iv (n_v vs 1)) (v_iv (n_v vs 2)) (v_iv (n_v vs 5)) (v_iv (n_v vs 6)) (v_iv (n_v vs 7)) (v_iv (n_v vs 9)) (v_iv (n_v vs 11)) (v_iv (n_v vs 13)) (v_iv (n_v vs 15)) (w_ei ws (w_ar ws (n_v vs 3) 8)) (w_ei ws (w_ar ws (n_v vs 3) 7)) (w_ei ws (w_ar ws (n_v vs 0) 2)) (w_fi ws (n_v vs 3) 6) k1 k2 k5 k6 k7 k9 k11 k13 k15 d0 d1 d2 d3 d4 d5 d6 f0 h1 f3 h4 f6 h7 (shm_6 f9) g10 f11 hK_0_2 hK_3_7 hK_3_8 kz_3_6)⟩
  refine ⟨(fun _ h => (by cases h)), [], trivial, ?_, (fun _ h => (by cases h))⟩
  rw [List.append_nil]
  exact List.forall_mem_cons.mpr ⟨⟨show (20 : Nat) < 100 from by decide, nf0⟩, (fun _ h => (by cases h))⟩
def n_Em_leastEdgeAt_at_gn_an : List an_T := [(2, [(0, (2, 0, 0, [1])), (1, (0, 0, 23, [])), (2, (0, 0, 71, [])), (3, (0, 0, 72, []))], [], (0, 0), [(0, 0, 99998), (1, 7, 72), (0, 0, 100000)], [(1, 5, (Int.negSucc 999999999999), 0), (2, 6, (Int.negSucc 999999999999), 0), (5, 1, (Int.negSucc 999999999999), 0), (6, 2, (Int.negSucc 999999999999), 0)], [((0, 0), (2, 0, 0, [5]))], [(2, 0, 0, [1]), (0, 0, 23, []), (0, 0, 71, []), (2, 0, 0, [5])], 0, [], [(20, [4, 8, 5, 6, 7], [60, 1, 3, 625, 1006, 2, 1007, 1008]), (24, [3, 8], []), (24, [0, 4], []), (24, [1, 5], []), (24, [2, 6], [])])]
def t_Em_leastEdgeAt_at_gn_ct : ct_L := []
set_option maxRecDepth 100000 in
theorem c_Em_leastEdgeAt_at_gn {l : Launch} {D : va_G} {kA : Nat → ClassId} : ct_ok PRD l D kA GG y_Em_leastEdgeAt_at_gn z_Em_leastEdgeAt_at_gn e_Em_leastEdgeAt_at_gn := chk_all_ok (FT := [(9, 1, 0), (21, 1, 2), (133, 5, 6), (134, 5, 7), (135, 5, 8)]) (PT := []) (CT := t_Em_leastEdgeAt_at_gn_ct) (KT := []) (NT := []) (AN := n_Em_leastEdgeAt_at_gn_an) (OT := [o_Em_leastEdgeAt_at_gn_0, o_Em_leastEdgeAt_at_gn_1, o_Em_leastEdgeAt_at_gn_2, o_Em_leastEdgeAt_at_gn_3, o_Em_leastEdgeAt_at_gn_4, o_Em_leastEdgeAt_at_gn_5]) 3 200 (List.forall_mem_cons.mpr ⟨oo_Em_leastEdgeAt_at_gn_0, List.forall_mem_cons.mpr ⟨oo_Em_leastEdgeAt_at_gn_1, List.forall_mem_cons.mpr ⟨oo_Em_leastEdgeAt_at_gn_2, List.forall_mem_cons.mpr ⟨oo_Em_leastEdgeAt_at_gn_3, List.forall_mem_cons.mpr ⟨oo_Em_leastEdgeAt_at_gn_4, List.forall_mem_cons.mpr ⟨oo_Em_leastEdgeAt_at_gn_5, List.forall_mem_nil _⟩⟩⟩⟩⟩⟩) (by decide +kernel) ⟨List.forall_mem_cons.mpr ⟨gf_Em_9, List.forall_mem_cons.mpr ⟨gf_Em_21, List.forall_mem_cons.mpr ⟨gf_Em_133, List.forall_mem_cons.mpr ⟨gf_Em_134, List.forall_mem_cons.mpr ⟨gf_Em_135, List.forall_mem_nil _⟩⟩⟩⟩⟩, List.forall_mem_nil _, List.forall_mem_nil _, List.forall_mem_nil _, List.forall_mem_nil _, GG_pl⟩ (by decide +kernel)

set_option maxHeartbeats 4000000 in
theorem vc_Em_leastEdgeAt_at_gp_0_0 (x1 : Int) (x2 : Int) (x4 : Int) (block_0 : Int → Int) (tail_0o3 : Int → Int) (head_0o3 : Int → Int) (edges_0o3 : Int) (k1 : 0 ≤ x1 ∧ x1 ≤ 24) (k2 : 0 ≤ x2 ∧ x2 ≤ 71) (k4 : 0 ≤ x4 ∧ x4 ≤ 0) (hK_0_2 : ∀ j : Int, 0 ≤ j → j < 72 → (-1) ≤ block_0 j ∧ block_0 j ≤ 71) (hK_3_7 : ∀ j : Int, 0 ≤ j → j < 72 → 0 ≤ tail_0o3 j ∧ tail_0o3 j ≤ 24) (hK_3_8 : ∀ j : Int, 0 ≤ j → j < 72 → 0 ≤ head_0o3 j ∧ head_0o3 j ≤ 24) (kz_3_6 : 0 ≤ edges_0o3 ∧ edges_0o3 ≤ 72) : LEI (edges_0o3) (block_0) (tail_0o3) (head_0o3) (x1) (x2) (x4) := by
  first
    | exact fun j a b => by omega
    | exact lei_step ‹LEI _ _ _ _ _ _ _› (by omega) (by omega)
  
def o_Em_leastEdgeAt_at_gp_0 : or_T := (2, 5, [(0, (2, 0, 0, [1])), (1, (0, 0, 24, [])), (2, (0, 0, 71, [])), (3, (2, 0, 0, [149])), (4, (0, 0, 0, []))], [], [], [], [(20, [0, 3, 1, 2, 4], [60, 1, 3, 625, 1006, 2, 1007, 1008]), (24, [3, 3], []), (24, [0, 0], []), (24, [1, 1], []), (24, [2, 2], [])], [], [])
theorem oo_Em_leastEdgeAt_at_gp_0 {kA : Nat → ClassId} : or_ok PRD kA GG o_Em_leastEdgeAt_at_gp_0 := by
  refine or_mk fun A ta ws vs hD hth hl => ?_
  intro t0 r0 t1 k1 t2 k2 t3 r3 t4 k4
  have cr_0_2 := fdq_56 hD hth r0
  have cr_3_7 := fdq_60 hD hth r3
  have cr_3_8 := fdq_61 hD hth r3
  have hK_0_2 := elq_18 hD hth cr_0_2
  have hK_3_7 := elq_21 hD hth cr_3_7
  have hK_3_8 := elq_22 hD hth cr_3_8
  have kz_3_6 := fdq_62 hD hth r3
  have nf0 : fc_1 PRD (20, [0, 3, 1, 2, 4], [60, 1, 3, 625, 1006, 2, 1007, 1008]) ws (vs) := ⟨nf_in hl rfl, sgq_355 (vc_Em_leastEdgeAt_at_gp_0_0 (v_iv (n_v vs 1)) (v_iv (n_v vs 2)) (v_iv (n_v vs 4)) (w_ei ws (w_ar ws (n_v vs 0) 2)) (w_ei ws (w_ar ws (n_v vs 3) 7)) (w_ei ws (w_ar ws (n_v vs 3) 8)) (w_fi ws (n_v vs 3) 6) k1 k2 k4 hK_0_2 hK_3_7 hK_3_8 kz_3_6)⟩
  have nf1 : fc_1 PRD (24, [3, 3], []) ws (vs) := by
    refine ⟨nf_in hl rfl, sgq_1 ?_⟩
    · show n_v vs 3 = n_v vs 3
      first | rfl | simp only [true_and]
  have nf2 : fc_1 PRD (24, [0, 0], []) ws (vs) := by
    refine ⟨nf_in hl rfl, sgq_1 ?_⟩
    · show n_v vs 0 = n_v vs 0
      first | rfl | simp only [true_and]
  have nf3 : fc_1 PRD (24, [1, 1], []) ws (vs) := by
    refine ⟨nf_in hl rfl, sgq_1 ?_⟩
    · show n_v vs 1 = n_v vs 1
      first | rfl | simp only [true_and]
  have nf4 : fc_1 PRD (24, [2, 2], []) ws (vs) := by
    refine ⟨nf_in hl rfl, sgq_1 ?_⟩
    · show n_v vs 2 = n_v vs 2
      first | rfl | simp only [true_and]
  refine ⟨(fun _ h => (by cases h)), [], trivial, ?_, (fun _ h => (by cases h))⟩
  rw [List.append_nil]
  exact List.forall_mem_cons.mpr ⟨⟨show (20 : Nat) < 100 from by decide, nf0⟩, List.forall_mem_cons.mpr ⟨⟨show (24 : Nat) < 100 from by decide, nf1⟩, List.forall_mem_cons.mpr ⟨⟨show (24 : Nat) < 100 from by decide, nf2⟩, List.forall_mem_cons.mpr ⟨⟨show (24 : Nat) < 100 from by decide, nf3⟩, List.forall_mem_cons.mpr ⟨⟨show (24 : Nat) < 100 from by decide, nf4⟩, (fun _ h => (by cases h))⟩⟩⟩⟩⟩
set_option maxHeartbeats 4000000 in
theorem vc_Em_leastEdgeAt_at_gp_1_0 (x1 : Int) (x2 : Int) (x5 : Int) (x6 : Int) (x7 : Int) (x9 : Int) (x10 : Int) (edges_0o3 : Int) (block_0 : Int → Int) (tail_0o3 : Int → Int) (head_0o3 : Int → Int) (k1 : 0 ≤ x1 ∧ x1 ≤ 24) (k2 : 0 ≤ x2 ∧ x2 ≤ 71) (k5 : 0 ≤ x5 ∧ x5 ≤ 24) (k6 : 0 ≤ x6 ∧ x6 ≤ 71) (k7 : 0 ≤ x7 ∧ x7 ≤ 72) (k9 : 0 ≤ x9 ∧ x9 ≤ 72) (k10 : (-1) ≤ x10 ∧ x10 ≤ (-1)) (d0 : x9 + 0 ≤ x7 ∧ x7 ≤ x9 + 4294967296) (d1 : x5 + (-4294967296) ≤ x1 ∧ x1 ≤ x5 + 0) (d2 : x6 + (-4294967296) ≤ x2 ∧ x2 ≤ x6 + 0) (d3 : x1 + (-4294967296) ≤ x5 ∧ x5 ≤ x1 + 0) (d4 : x2 + (-4294967296) ≤ x6 ∧ x6 ≤ x2 + 0) (f0 : x9 ≤ x7) (g1 : x9 = edges_0o3) (f2 : LEI (edges_0o3) (block_0) (tail_0o3) (head_0o3) (x1) (x2) (x7)) (hK_0_2 : ∀ j : Int, 0 ≤ j → j < 72 → (-1) ≤ block_0 j ∧ block_0 j ≤ 71) (hK_3_7 : ∀ j : Int, 0 ≤ j → j < 72 → 0 ≤ tail_0o3 j ∧ tail_0o3 j ≤ 24) (hK_3_8 : ∀ j : Int, 0 ≤ j → j < 72 → 0 ≤ head_0o3 j ∧ head_0o3 j ≤ 24) (kz_3_6 : 0 ≤ edges_0o3 ∧ edges_0o3 ≤ 72) : LEX (edges_0o3) (block_0) (tail_0o3) (head_0o3) (x1) (x2) (x10) := by
  first
    | assumption
    | exact lex_some (by omega)
    | exact lex_end ‹LEI _ _ _ _ _ _ _› (by omega)
  
def o_Em_leastEdgeAt_at_gp_1 : or_T := (58, 11, [(0, (2, 0, 0, [1])), (1, (0, 0, 24, [])), (2, (0, 0, 71, [])), (3, (2, 0, 0, [149])), (5, (0, 0, 24, [])), (6, (0, 0, 71, [])), (7, (0, 0, 72, [])), (9, (0, 0, 72, [])), (10, (0, -1, -1, []))], [(7, [7, 9], [3]), (9, [9, 8], [6]), (20, [4, 8, 5, 6, 7], [60, 1, 3, 625, 1006, 2, 1007, 1008]), (24, [3, 8], []), (24, [0, 4], []), (24, [1, 5], []), (24, [2, 6], [])], [], [], [(20, [0, 3, 1, 2, 10], [60, 1, 3, 626, 1006, 2, 1007, 1008])], [], [(7, 9, 0, 4294967296), (1, 5, -4294967296, 0), (2, 6, -4294967296, 0), (5, 1, -4294967296, 0), (6, 2, -4294967296, 0)])
theorem oo_Em_leastEdgeAt_at_gp_1 {kA : Nat → ClassId} : or_ok PRD kA GG o_Em_leastEdgeAt_at_gp_1 := by
  refine or_mk fun A ta ws vs hD hth hl => ?_
  intro t0 r0 t1 k1 t2 k2 t3 r3 t5 k5 t6 k6 t7 k7 t9 k9 t10 k10 d0 d1 d2 d3 d4 f0 f1 f2 f3 f4 f5 f6
  replace f1 := shm_111 f1
  replace f2 := shm_355 f2
  replace f3 := shm_5 f3
  replace f4 := shm_5 f4
  replace f5 := shm_5 f5
  replace f6 := shm_5 f6
  have q8 : n_v vs 8 = n_v vs 3 := f3.symm
  have q4 : n_v vs 4 = n_v vs 0 := f4.symm
  have q5 : n_v vs 5 = n_v vs 1 := f5.symm
  have q6 : n_v vs 6 = n_v vs 2 := f6.symm
  simp only [q8, q4, q5, q6] at f1 f2
  have cr_0_2 := fdq_56 hD hth r0
  have cr_3_7 := fdq_60 hD hth r3
  have cr_3_8 := fdq_61 hD hth r3
  have g1 : v_iv (n_v vs 9) = w_fi ws (n_v vs 3) 6 := congrArg v_iv f1
  have hK_0_2 := elq_18 hD hth cr_0_2
  have hK_3_7 := elq_21 hD hth cr_3_7
  have hK_3_8 := elq_22 hD hth cr_3_8
  have kz_3_6 := fdq_62 hD hth r3
  have nf0 : fc_1 PRD (20, [0, 3, 1, 2, 10], [60, 1, 3, 626, 1006, 2, 1007, 1008]) ws (vs) := ⟨nf_in hl rfl, sgq_356 (vc_Em_leastEdgeAt_at_gp_1_0 (v_iv (n_v vs 1)) (v_iv (n_v vs 2)) (v_iv (n_v vs 5)) (v_iv (n_v vs 6)) (v_iv (n_v vs 7)) (v_iv (n_v vs 9)) (v_iv (n_v vs 10)) (w_fi ws (n_v vs 3) 6) (w_ei ws (w_ar ws (n_v vs 0) 2)) (w_ei ws (w_ar ws (n_v vs 3) 7)) (w_ei ws (w_ar ws (n_v vs 3) 8)) k1 k2 k5 k6 k7 k9 k10 d0 d1 d2 d3 d4 (shm_2 f0) g1 f2 hK_0_2 hK_3_7 hK_3_8 kz_3_6)⟩
  refine ⟨(fun _ h => (by cases h)), [], trivial, ?_, (fun _ h => (by cases h))⟩
  rw [List.append_nil]
  exact List.forall_mem_cons.mpr ⟨⟨show (20 : Nat) < 100 from by decide, nf0⟩, (fun _ h => (by cases h))⟩
set_option maxHeartbeats 4000000 in
theorem vc_Em_leastEdgeAt_at_gp_2_0 (x1 : Int) (x2 : Int) (x5 : Int) (x6 : Int) (x7 : Int) (x9 : Int) (x11 : Int) (x12 : Int) (block_0 : Int → Int) (edges_0o3 : Int) (tail_0o3 : Int → Int) (head_0o3 : Int → Int) (k1 : 0 ≤ x1 ∧ x1 ≤ 24) (k2 : 0 ≤ x2 ∧ x2 ≤ 71) (k5 : 0 ≤ x5 ∧ x5 ≤ 24) (k6 : 0 ≤ x6 ∧ x6 ≤ 71) (k7 : 0 ≤ x7 ∧ x7 ≤ 71) (k9 : 1 ≤ x9 ∧ x9 ≤ 72) (k11 : (-1) ≤ x11 ∧ x11 ≤ 71) (k12 : 1 ≤ x12 ∧ x12 ≤ 72) (d0 : x7 + 1 ≤ x12 ∧ x12 ≤ x7 + 1) (d1 : x9 + (-4294967296) ≤ x12 ∧ x12 ≤ x9 + 0) (d2 : x9 + (-4294967296) ≤ x7 ∧ x7 ≤ x9 + (-1)) (d3 : x5 + (-4294967296) ≤ x1 ∧ x1 ≤ x5 + 0) (d4 : x6 + (-4294967296) ≤ x2 ∧ x2 ≤ x6 + 0) (d5 : x1 + (-4294967296) ≤ x5 ∧ x5 ≤ x1 + 0) (d6 : x2 + (-4294967296) ≤ x6 ∧ x6 ≤ x2 + 0) (f0 : x12 = x7 + 1) (f1 : x11 ≠ x2) (h2 : x11 = block_0 (x7)) (f4 : x7 < x9) (g5 : x9 = edges_0o3) (f6 : LEI (edges_0o3) (block_0) (tail_0o3) (head_0o3) (x1) (x2) (x7)) (hK_0_2 : ∀ j : Int, 0 ≤ j → j < 72 → (-1) ≤ block_0 j ∧ block_0 j ≤ 71) (hK_3_7 : ∀ j : Int, 0 ≤ j → j < 72 → 0 ≤ tail_0o3 j ∧ tail_0o3 j ≤ 24) (hK_3_8 : ∀ j : Int, 0 ≤ j → j < 72 → 0 ≤ head_0o3 j ∧ head_0o3 j ≤ 24) (kz_3_6 : 0 ≤ edges_0o3 ∧ edges_0o3 ≤ 72) : LEI (edges_0o3) (block_0) (tail_0o3) (head_0o3) (x1) (x2) (x12) := by
  first
    | exact fun j a b => by omega
    | exact lei_step ‹LEI _ _ _ _ _ _ _› (by omega) (by omega)
  
def o_Em_leastEdgeAt_at_gp_2 : or_T := (2, 13, [(0, (2, 0, 0, [1])), (1, (0, 0, 24, [])), (2, (0, 0, 71, [])), (3, (2, 0, 0, [149])), (5, (0, 0, 24, [])), (6, (0, 0, 71, [])), (7, (0, 0, 71, [])), (9, (0, 1, 72, [])), (11, (0, -1, 71, [])), (12, (0, 1, 72, []))], [(6, [12, 7], [1]), (7, [11, 6], [1]), (10, [11, 10, 7], []), (9, [10, 4], [2]), (7, [7, 9], [2]), (9, [9, 8], [6]), (20, [4, 8, 5, 6, 7], [60, 1, 3, 625, 1006, 2, 1007, 1008]), (24, [3, 8], []), (24, [0, 4], []), (24, [1, 5], []), (24, [2, 6], [])], [], [], [(20, [4, 8, 5, 6, 12], [60, 1, 3, 625, 1006, 2, 1007, 1008])], [], [(12, 7, 1, 1), (12, 9, -4294967296, 0), (7, 9, -4294967296, -1), (1, 5, -4294967296, 0), (2, 6, -4294967296, 0), (5, 1, -4294967296, 0), (6, 2, -4294967296, 0)])
theorem oo_Em_leastEdgeAt_at_gp_2 {kA : Nat → ClassId} : or_ok PRD kA GG o_Em_leastEdgeAt_at_gp_2 := by
  refine or_mk fun A ta ws vs hD hth hl => ?_
  intro t0 r0 t1 k1 t2 k2 t3 r3 t5 k5 t6 k6 t7 k7 t9 k9 t11 k11 t12 k12 d0 d1 d2 d3 d4 d5 d6 f0 f1 f2 f3 f4 f5 f6 f7 f8 f9 f10
  replace f0 := shm_4 f0
  replace f1 := shm_40 f1
  replace f2 := shm_107 f2
  replace f3 := shm_120 f3
  replace f4 := shm_6 f4
  replace f5 := shm_111 f5
  replace f6 := shm_355 f6
  replace f7 := shm_5 f7
  replace f8 := shm_5 f8
  replace f9 := shm_5 f9
  replace f10 := shm_5 f10
  have q8 : n_v vs 8 = n_v vs 3 := f7.symm
  have q4 : n_v vs 4 = n_v vs 0 := f8.symm
  have q5 : n_v vs 5 = n_v vs 1 := f9.symm
  have q6 : n_v vs 6 = n_v vs 2 := f10.symm
  simp only [q6, q4, q8, q5] at f1 f3 f5 f6
  have cr_0_2 := fdq_56 hD hth r0
  have cr_3_7 := fdq_60 hD hth r3
  have cr_3_8 := fdq_61 hD hth r3
  have ad_10 : v_ad (n_v vs 10) = w_ar ws (n_v vs 0) 2 := congrArg v_ad f3
  simp only [ad_10] at f2
  have h2 : v_iv (n_v vs 11) = w_ei ws (w_ar ws (n_v vs 0) 2) (v_iv (n_v vs 7)) := f2
  have g5 : v_iv (n_v vs 9) = w_fi ws (n_v vs 3) 6 := congrArg v_iv f5
  have hK_0_2 := elq_18 hD hth cr_0_2
  have hK_3_7 := elq_21 hD hth cr_3_7
  have hK_3_8 := elq_22 hD hth cr_3_8
  have kz_3_6 := fdq_62 hD hth r3
  have nf0 : fc_1 PRD (20, [4, 8, 5, 6, 12], [60, 1, 3, 625, 1006, 2, 1007, 1008]) ws (vs) := by
    refine ⟨nf_in hl rfl, sgq_355 ?_⟩
    · show LEI (w_fi ws (n_v vs 8) 6) (w_ei ws (w_ar ws (n_v vs 4) 2)) (w_ei ws (w_ar ws (n_v vs 8) 7)) (w_ei ws (w_ar ws (n_v vs 8) 8)) (v_iv (n_v vs 5)) (v_iv (n_v vs 6)) (v_iv (n_v vs 12))
      simp only [q8, q4, q5, q6]
      exact vc_Em_leastEdgeAt_at_gp_2_0 (v_iv (n_v vs 1)) (v_iv (n_v vs 2)) (v_iv (n_v vs 5)) (v_iv (n_v vs 6)) (v_iv (n_v vs 7)) (v_iv (n_v vs 9)) (v_iv (n_v vs 11)) (v_iv (n_v vs 12)) (w_ei ws (w_ar ws (n_v vs 0) 2)) (w_fi ws (n_v vs 3) 6) (w_ei ws (w_ar ws (n_v vs 3) 7)) (w_ei ws (w_ar ws (n_v vs 3) 8)) k1 k2 k5 k6 k7 k9 k11 k12 d0 d1 d2 d3 d4 d5 d6 f0 f1 h2 f4 g5 f6 hK_0_2 hK_3_7 hK_3_8 kz_3_6
  refine ⟨(fun _ h => (by cases h)), [], trivial, ?_, (fun _ h => (by cases h))⟩
  rw [List.append_nil]
  exact List.forall_mem_cons.mpr ⟨⟨show (20 : Nat) < 100 from by decide, nf0⟩, (fun _ h => (by cases h))⟩
set_option maxHeartbeats 4000000 in
theorem vc_Em_leastEdgeAt_at_gp_3_0 (x1 : Int) (x2 : Int) (x5 : Int) (x6 : Int) (x7 : Int) (x9 : Int) (x11 : Int) (x13 : Int) (tail_0o3 : Int → Int) (block_0 : Int → Int) (edges_0o3 : Int) (head_0o3 : Int → Int) (k1 : 0 ≤ x1 ∧ x1 ≤ 24) (k2 : 0 ≤ x2 ∧ x2 ≤ 71) (k5 : 0 ≤ x5 ∧ x5 ≤ 24) (k6 : 0 ≤ x6 ∧ x6 ≤ 71) (k7 : 0 ≤ x7 ∧ x7 ≤ 71) (k9 : 1 ≤ x9 ∧ x9 ≤ 72) (k11 : 0 ≤ x11 ∧ x11 ≤ 71) (k13 : 0 ≤ x13 ∧ x13 ≤ 24) (d0 : x5 + 0 ≤ x13 ∧ x13 ≤ x5 + 0) (d1 : x6 + 0 ≤ x11 ∧ x11 ≤ x6 + 0) (d2 : x9 + (-4294967296) ≤ x7 ∧ x7 ≤ x9 + (-1)) (d3 : x5 + (-4294967296) ≤ x1 ∧ x1 ≤ x5 + 0) (d4 : x6 + (-4294967296) ≤ x2 ∧ x2 ≤ x6 + 0) (d5 : x1 + (-4294967296) ≤ x5 ∧ x5 ≤ x1 + 0) (d6 : x2 + (-4294967296) ≤ x6 ∧ x6 ≤ x2 + 0) (f0 : x13 = x1) (h1 : x13 = tail_0o3 (x7)) (f3 : x11 = x2) (h4 : x11 = block_0 (x7)) (f6 : x7 < x9) (g7 : x9 = edges_0o3) (f8 : LEI (edges_0o3) (block_0) (tail_0o3) (head_0o3) (x1) (x2) (x7)) (hK_0_2 : ∀ j : Int, 0 ≤ j → j < 72 → (-1) ≤ block_0 j ∧ block_0 j ≤ 71) (hK_3_7 : ∀ j : Int, 0 ≤ j → j < 72 → 0 ≤ tail_0o3 j ∧ tail_0o3 j ≤ 24) (hK_3_8 : ∀ j : Int, 0 ≤ j → j < 72 → 0 ≤ head_0o3 j ∧ head_0o3 j ≤ 24) (kz_3_6 : 0 ≤ edges_0o3 ∧ edges_0o3 ≤ 72) : LEX (edges_0o3) (block_0) (tail_0o3) (head_0o3) (x1) (x2) (x7) := by
  first
    | assumption
    | exact lex_some (by omega)
    | exact lex_end ‹LEI _ _ _ _ _ _ _› (by omega)
  
def o_Em_leastEdgeAt_at_gp_3 : or_T := (50, 14, [(0, (2, 0, 0, [1])), (1, (0, 0, 24, [])), (2, (0, 0, 71, [])), (3, (2, 0, 0, [149])), (5, (0, 0, 24, [])), (6, (0, 0, 71, [])), (7, (0, 0, 71, [])), (9, (0, 1, 72, [])), (11, (0, 0, 71, [])), (13, (0, 0, 24, []))], [(7, [13, 5], [0]), (10, [13, 12, 7], []), (9, [12, 8], [7]), (7, [11, 6], [0]), (10, [11, 10, 7], []), (9, [10, 4], [2]), (7, [7, 9], [2]), (9, [9, 8], [6]), (20, [4, 8, 5, 6, 7], [60, 1, 3, 625, 1006, 2, 1007, 1008]), (24, [3, 8], []), (24, [0, 4], []), (24, [1, 5], []), (24, [2, 6], [])], [], [], [(20, [0, 3, 1, 2, 7], [60, 1, 3, 626, 1006, 2, 1007, 1008])], [], [(13, 5, 0, 0), (11, 6, 0, 0), (7, 9, -4294967296, -1), (1, 5, -4294967296, 0), (2, 6, -4294967296, 0), (5, 1, -4294967296, 0), (6, 2, -4294967296, 0)])
theorem oo_Em_leastEdgeAt_at_gp_3 {kA : Nat → ClassId} : or_ok PRD kA GG o_Em_leastEdgeAt_at_gp_3 := by
  refine or_mk fun A ta ws vs hD hth hl => ?_
  intro t0 r0 t1 k1 t2 k2 t3 r3 t5 k5 t6 k6 t7 k7 t9 k9 t11 k11 t13 k13 d0 d1 d2 d3 d4 d5 d6 f0 f1 f2 f3 f4 f5 f6 f7 f8 f9 f10 f11 f12
  replace f0 := shm_37 f0
  replace f1 := shm_107 f1
  replace f2 := shm_198 f2
  replace f3 := shm_37 f3
  replace f4 := shm_107 f4
  replace f5 := shm_120 f5
  replace f7 := shm_111 f7
  replace f8 := shm_355 f8
  replace f9 := shm_5 f9
  replace f10 := shm_5 f10
  replace f11 := shm_5 f11
  replace f12 := shm_5 f12
  have q8 : n_v vs 8 = n_v vs 3 := f9.symm
  have q4 : n_v vs 4 = n_v vs 0 := f10.symm
  have q5 : n_v vs 5 = n_v vs 1 := f11.symm
  have q6 : n_v vs 6 = n_v vs 2 := f12.symm
  simp only [q5, q8, q6, q4] at f0 f2 f3 f5 f7 f8
  have cr_0_2 := fdq_56 hD hth r0
  have cr_3_7 := fdq_60 hD hth r3
  have cr_3_8 := fdq_61 hD hth r3
  have ad_12 : v_ad (n_v vs 12) = w_ar ws (n_v vs 3) 7 := congrArg v_ad f2
  have ad_10 : v_ad (n_v vs 10) = w_ar ws (n_v vs 0) 2 := congrArg v_ad f5
  simp only [ad_12] at f1
  have h1 : v_iv (n_v vs 13) = w_ei ws (w_ar ws (n_v vs 3) 7) (v_iv (n_v vs 7)) := f1
  simp only [ad_10] at f4
  have h4 : v_iv (n_v vs 11) = w_ei ws (w_ar ws (n_v vs 0) 2) (v_iv (n_v vs 7)) := f4
  have g7 : v_iv (n_v vs 9) = w_fi ws (n_v vs 3) 6 := congrArg v_iv f7
  have hK_0_2 := elq_18 hD hth cr_0_2
  have hK_3_7 := elq_21 hD hth cr_3_7
  have hK_3_8 := elq_22 hD hth cr_3_8
  have kz_3_6 := fdq_62 hD hth r3
  have nf0 : fc_1 PRD (20, [0, 3, 1, 2, 7], [60, 1, 3, 626, 1006, 2, 1007, 1008]) ws (vs) := ⟨nf_in hl rfl, sgq_356 (vc_Em_leastEdgeAt_at_gp_3_0 (v_iv (n_v vs 1)) (v_iv (n_v vs 2)) (v_iv (n_v vs 5)) (v_iv (n_v vs 6)) (v_iv (n_v vs 7)) (v_iv (n_v vs 9)) (v_iv (n_v vs 11)) (v_iv (n_v vs 13)) (w_ei ws (w_ar ws (n_v vs 3) 7)) (w_ei ws (w_ar ws (n_v vs 0) 2)) (w_fi ws (n_v vs 3) 6) (w_ei ws (w_ar ws (n_v vs 3) 8)) k1 k2 k5 k6 k7 k9 k11 k13 d0 d1 d2 d3 d4 d5 d6 f0 h1 f3 h4 (shm_6 f6) g7 f8 hK_0_2 hK_3_7 hK_3_8 kz_3_6)⟩
  refine ⟨(fun _ h => (by cases h)), [], trivial, ?_, (fun _ h => (by cases h))⟩
  rw [List.append_nil]
  exact List.forall_mem_cons.mpr ⟨⟨show (20 : Nat) < 100 from by decide, nf0⟩, (fun _ h => (by cases h))⟩
set_option maxHeartbeats 4000000 in
theorem vc_Em_leastEdgeAt_at_gp_4_0 (x1 : Int) (x2 : Int) (x5 : Int) (x6 : Int) (x7 : Int) (x9 : Int) (x11 : Int) (x13 : Int) (x15 : Int) (x16 : Int) (head_0o3 : Int → Int) (tail_0o3 : Int → Int) (block_0 : Int → Int) (edges_0o3 : Int) (k1 : 0 ≤ x1 ∧ x1 ≤ 24) (k2 : 0 ≤ x2 ∧ x2 ≤ 71) (k5 : 0 ≤ x5 ∧ x5 ≤ 24) (k6 : 0 ≤ x6 ∧ x6 ≤ 71) (k7 : 0 ≤ x7 ∧ x7 ≤ 71) (k9 : 1 ≤ x9 ∧ x9 ≤ 72) (k11 : 0 ≤ x11 ∧ x11 ≤ 71) (k13 : 0 ≤ x13 ∧ x13 ≤ 24) (k15 : 0 ≤ x15 ∧ x15 ≤ 24) (k16 : 1 ≤ x16 ∧ x16 ≤ 72) (d0 : x7 + 1 ≤ x16 ∧ x16 ≤ x7 + 1) (d1 : x9 + (-4294967296) ≤ x16 ∧ x16 ≤ x9 + 0) (d2 : x6 + 0 ≤ x11 ∧ x11 ≤ x6 + 0) (d3 : x9 + (-4294967296) ≤ x7 ∧ x7 ≤ x9 + (-1)) (d4 : x5 + (-4294967296) ≤ x1 ∧ x1 ≤ x5 + 0) (d5 : x6 + (-4294967296) ≤ x2 ∧ x2 ≤ x6 + 0) (d6 : x1 + (-4294967296) ≤ x5 ∧ x5 ≤ x1 + 0) (d7 : x2 + (-4294967296) ≤ x6 ∧ x6 ≤ x2 + 0) (f0 : x16 = x7 + 1) (f1 : x15 ≠ x1) (h2 : x15 = head_0o3 (x7)) (f4 : x13 ≠ x1) (h5 : x13 = tail_0o3 (x7)) (f7 : x11 = x2) (h8 : x11 = block_0 (x7)) (f10 : x7 < x9) (g11 : x9 = edges_0o3) (f12 : LEI (edges_0o3) (block_0) (tail_0o3) (head_0o3) (x1) (x2) (x7)) (hK_0_2 : ∀ j : Int, 0 ≤ j → j < 72 → (-1) ≤ block_0 j ∧ block_0 j ≤ 71) (hK_3_7 : ∀ j : Int, 0 ≤ j → j < 72 → 0 ≤ tail_0o3 j ∧ tail_0o3 j ≤ 24) (hK_3_8 : ∀ j : Int, 0 ≤ j → j < 72 → 0 ≤ head_0o3 j ∧ head_0o3 j ≤ 24) (kz_3_6 : 0 ≤ edges_0o3 ∧ edges_0o3 ≤ 72) : LEI (edges_0o3) (block_0) (tail_0o3) (head_0o3) (x1) (x2) (x16) := by
  first
    | exact fun j a b => by omega
    | exact lei_step ‹LEI _ _ _ _ _ _ _› (by omega) (by omega)
  
def o_Em_leastEdgeAt_at_gp_4 : or_T := (2, 17, [(0, (2, 0, 0, [1])), (1, (0, 0, 24, [])), (2, (0, 0, 71, [])), (3, (2, 0, 0, [149])), (5, (0, 0, 24, [])), (6, (0, 0, 71, [])), (7, (0, 0, 71, [])), (9, (0, 1, 72, [])), (11, (0, 0, 71, [])), (13, (0, 0, 24, [])), (15, (0, 0, 24, [])), (16, (0, 1, 72, []))], [(6, [16, 7], [1]), (7, [15, 5], [1]), (10, [15, 14, 7], []), (9, [14, 8], [8]), (7, [13, 5], [1]), (10, [13, 12, 7], []), (9, [12, 8], [7]), (7, [11, 6], [0]), (10, [11, 10, 7], []), (9, [10, 4], [2]), (7, [7, 9], [2]), (9, [9, 8], [6]), (20, [4, 8, 5, 6, 7], [60, 1, 3, 625, 1006, 2, 1007, 1008]), (24, [3, 8], []), (24, [0, 4], []), (24, [1, 5], []), (24, [2, 6], [])], [], [], [(20, [4, 8, 5, 6, 16], [60, 1, 3, 625, 1006, 2, 1007, 1008])], [], [(16, 7, 1, 1), (16, 9, -4294967296, 0), (11, 6, 0, 0), (7, 9, -4294967296, -1), (1, 5, -4294967296, 0), (2, 6, -4294967296, 0), (5, 1, -4294967296, 0), (6, 2, -4294967296, 0)])
theorem oo_Em_leastEdgeAt_at_gp_4 {kA : Nat → ClassId} : or_ok PRD kA GG o_Em_leastEdgeAt_at_gp_4 := by
  refine or_mk fun A ta ws vs hD hth hl => ?_
  intro t0 r0 t1 k1 t2 k2 t3 r3 t5 k5 t6 k6 t7 k7 t9 k9 t11 k11 t13 k13 t15 k15 t16 k16 d0 d1 d2 d3 d4 d5 d6 d7 f0 f1 f2 f3 f4 f5 f6 f7 f8 f9 f10 f11 f12 f13 f14 f15 f16
  replace f0 := shm_4 f0
  replace f1 := shm_40 f1
  replace f2 := shm_107 f2
  replace f3 := shm_293 f3
  replace f4 := shm_40 f4
  replace f5 := shm_107 f5
  replace f6 := shm_198 f6
  replace f7 := shm_37 f7
  replace f8 := shm_107 f8
  replace f9 := shm_120 f9
  replace f10 := shm_6 f10
  replace f11 := shm_111 f11
  replace f12 := shm_355 f12
  replace f13 := shm_5 f13
  replace f14 := shm_5 f14
  replace f15 := shm_5 f15
  replace f16 := shm_5 f16
  have q8 : n_v vs 8 = n_v vs 3 := f13.symm
  have q4 : n_v vs 4 = n_v vs 0 := f14.symm
  have q5 : n_v vs 5 = n_v vs 1 := f15.symm
  have q6 : n_v vs 6 = n_v vs 2 := f16.symm
  simp only [q5, q8, q6, q4] at f1 f3 f4 f6 f7 f9 f11 f12
  have cr_0_2 := fdq_56 hD hth r0
  have cr_3_7 := fdq_60 hD hth r3
  have cr_3_8 := fdq_61 hD hth r3
  have ad_14 : v_ad (n_v vs 14) = w_ar ws (n_v vs 3) 8 := congrArg v_ad f3
  have ad_12 : v_ad (n_v vs 12) = w_ar ws (n_v vs 3) 7 := congrArg v_ad f6
  have ad_10 : v_ad (n_v vs 10) = w_ar ws (n_v vs 0) 2 := congrArg v_ad f9
  simp only [ad_14] at f2
  have h2 : v_iv (n_v vs 15) = w_ei ws (w_ar ws (n_v vs 3) 8) (v_iv (n_v vs 7)) := f2
  simp only [ad_12] at f5
  have h5 : v_iv (n_v vs 13) = w_ei ws (w_ar ws (n_v vs 3) 7) (v_iv (n_v vs 7)) := f5
  simp only [ad_10] at f8
  have h8 : v_iv (n_v vs 11) = w_ei ws (w_ar ws (n_v vs 0) 2) (v_iv (n_v vs 7)) := f8
  have g11 : v_iv (n_v vs 9) = w_fi ws (n_v vs 3) 6 := congrArg v_iv f11
  have hK_0_2 := elq_18 hD hth cr_0_2
  have hK_3_7 := elq_21 hD hth cr_3_7
  have hK_3_8 := elq_22 hD hth cr_3_8
  have kz_3_6 := fdq_62 hD hth r3
  have nf0 : fc_1 PRD (20, [4, 8, 5, 6, 16], [60, 1, 3, 625, 1006, 2, 1007, 1008]) ws (vs) := by
    refine ⟨nf_in hl rfl, sgq_355 ?_⟩
    · show LEI (w_fi ws (n_v vs 8) 6) (w_ei ws (w_ar ws (n_v vs 4) 2)) (w_ei ws (w_ar ws (n_v vs 8) 7)) (w_ei ws (w_ar ws (n_v vs 8) 8)) (v_iv (n_v vs 5)) (v_iv (n_v vs 6)) (v_iv (n_v vs 16))
      simp only [q8, q4, q5, q6]
      exact vc_Em_leastEdgeAt_at_gp_4_0 (v_iv (n_v vs 1)) (v_iv (n_v vs 2)) (v_iv (n_v vs 5)) (v_iv (n_v vs 6)) (v_iv (n_v vs 7)) (v_iv (n_v vs 9)) (v_iv (n_v vs 11)) (v_iv (n_v vs 13)) (v_iv (n_v vs 15)) (v_iv (n_v vs 16)) (w_ei ws (w_ar ws (n_v vs 3) 8)) (w_ei ws (w_ar ws (n_v vs 3) 7)) (w_ei ws (w_ar ws (n_v vs 0) 2)) (w_fi ws (n_v vs 3) 6) k1 k2 k5 k6 k7 k9 k11 k13 k15 k16 d0 d1 d2 d3 d4 d5 d6 d7 f0 f1 h2 f4 h5 f7 h8 f10 g11 f12 hK_0_2 hK_3_7 hK_3_8 kz_3_6
  refine ⟨(fun _ h => (by cases h)), [], trivial, ?_, (fun _ h => (by cases h))⟩
  rw [List.append_nil]
  exact List.forall_mem_cons.mpr ⟨⟨show (20 : Nat) < 100 from by decide, nf0⟩, (fun _ h => (by cases h))⟩
set_option maxHeartbeats 4000000 in
theorem vc_Em_leastEdgeAt_at_gp_5_0 (x1 : Int) (x2 : Int) (x5 : Int) (x6 : Int) (x7 : Int) (x9 : Int) (x11 : Int) (x13 : Int) (x15 : Int) (head_0o3 : Int → Int) (tail_0o3 : Int → Int) (block_0 : Int → Int) (edges_0o3 : Int) (k1 : 0 ≤ x1 ∧ x1 ≤ 24) (k2 : 0 ≤ x2 ∧ x2 ≤ 71) (k5 : 0 ≤ x5 ∧ x5 ≤ 24) (k6 : 0 ≤ x6 ∧ x6 ≤ 71) (k7 : 0 ≤ x7 ∧ x7 ≤ 71) (k9 : 1 ≤ x9 ∧ x9 ≤ 72) (k11 : 0 ≤ x11 ∧ x11 ≤ 71) (k13 : 0 ≤ x13 ∧ x13 ≤ 24) (k15 : 0 ≤ x15 ∧ x15 ≤ 24) (d0 : x5 + 0 ≤ x15 ∧ x15 ≤ x5 + 0) (d1 : x6 + 0 ≤ x11 ∧ x11 ≤ x6 + 0) (d2 : x9 + (-4294967296) ≤ x7 ∧ x7 ≤ x9 + (-1)) (d3 : x5 + (-4294967296) ≤ x1 ∧ x1 ≤ x5 + 0) (d4 : x6 + (-4294967296) ≤ x2 ∧ x2 ≤ x6 + 0) (d5 : x1 + (-4294967296) ≤ x5 ∧ x5 ≤ x1 + 0) (d6 : x2 + (-4294967296) ≤ x6 ∧ x6 ≤ x2 + 0) (f0 : x15 = x1) (h1 : x15 = head_0o3 (x7)) (f3 : x13 ≠ x1) (h4 : x13 = tail_0o3 (x7)) (f6 : x11 = x2) (h7 : x11 = block_0 (x7)) (f9 : x7 < x9) (g10 : x9 = edges_0o3) (f11 : LEI (edges_0o3) (block_0) (tail_0o3) (head_0o3) (x1) (x2) (x7)) (hK_0_2 : ∀ j : Int, 0 ≤ j → j < 72 → (-1) ≤ block_0 j ∧ block_0 j ≤ 71) (hK_3_7 : ∀ j : Int, 0 ≤ j → j < 72 → 0 ≤ tail_0o3 j ∧ tail_0o3 j ≤ 24) (hK_3_8 : ∀ j : Int, 0 ≤ j → j < 72 → 0 ≤ head_0o3 j ∧ head_0o3 j ≤ 24) (kz_3_6 : 0 ≤ edges_0o3 ∧ edges_0o3 ≤ 72) : LEX (edges_0o3) (block_0) (tail_0o3) (head_0o3) (x1) (x2) (x7) := by
  first
    | assumption
    | exact lex_some (by omega)
    | exact lex_end ‹LEI _ _ _ _ _ _ _› (by omega)
  
def o_Em_leastEdgeAt_at_gp_5 : or_T := (50, 16, [(0, (2, 0, 0, [1])), (1, (0, 0, 24, [])), (2, (0, 0, 71, [])), (3, (2, 0, 0, [149])), (5, (0, 0, 24, [])), (6, (0, 0, 71, [])), (7, (0, 0, 71, [])), (9, (0, 1, 72, [])), (11, (0, 0, 71, [])), (13, (0, 0, 24, [])), (15, (0, 0, 24, []))], [(7, [15, 5], [0]), (10, [15, 14, 7], []), (9, [14, 8], [8]), (7, [13, 5], [1]), (10, [13, 12, 7], []), (9, [12, 8], [7]), (7, [11, 6], [0]), (10, [11, 10, 7], []), (9, [10, 4], [2]), (7, [7, 9], [2]), (9, [9, 8], [6]), (20, [4, 8, 5, 6, 7], [60, 1, 3, 625, 1006, 2, 1007, 1008]), (24, [3, 8], []), (24, [0, 4], []), (24, [1, 5], []), (24, [2, 6], [])], [], [], [(20, [0, 3, 1, 2, 7], [60, 1, 3, 626, 1006, 2, 1007, 1008])], [], [(15, 5, 0, 0), (11, 6, 0, 0), (7, 9, -4294967296, -1), (1, 5, -4294967296, 0), (2, 6, -4294967296, 0), (5, 1, -4294967296, 0), (6, 2, -4294967296, 0)])
theorem oo_Em_leastEdgeAt_at_gp_5 {kA : Nat → ClassId} : or_ok PRD kA GG o_Em_leastEdgeAt_at_gp_5 := by
  refine or_mk fun A ta ws vs hD hth hl => ?_
  intro t0 r0 t1 k1 t2 k2 t3 r3 t5 k5 t6 k6 t7 k7 t9 k9 t11 k11 t13 k13 t15 k15 d0 d1 d2 d3 d4 d5 d6 f0 f1 f2 f3 f4 f5 f6 f7 f8 f9 f10 f11 f12 f13 f14 f15
  replace f0 := shm_37 f0
  replace f1 := shm_107 f1
  replace f2 := shm_293 f2
  replace f3 := shm_40 f3
  replace f4 := shm_107 f4
  replace f5 := shm_198 f5
  replace f6 := shm_37 f6
  replace f7 := shm_107 f7
  replace f8 := shm_120 f8
  replace f10 := shm_111 f10
  replace f11 := shm_355 f11
  replace f12 := shm_5 f12
  replace f13 := shm_5 f13
  replace f14 := shm_5 f14
  replace f15 := shm_5 f15
  have q8 : n_v vs 8 = n_v vs 3 := f12.symm
  have q4 : n_v vs 4 = n_v vs 0 := f13.symm
  have q5 : n_v vs 5 = n_v vs 1 := f14.symm
  have q6 : n_v vs 6 = n_v vs 2 := f15.symm
  simp only [q5, q8, q6, q4] at f0 f2 f3 f5 f6 f8 f10 f11
  have cr_0_2 := fdq_56 hD hth r0
  have cr_3_7 := fdq_60 hD hth r3
  have cr_3_8 := fdq_61 hD hth r3
  have ad_14 : v_ad (n_v vs 14) = w_ar ws (n_v vs 3) 8 := congrArg v_ad f2
  have ad_12 : v_ad (n_v vs 12) = w_ar ws (n_v vs 3) 7 := congrArg v_ad f5
  have ad_10 : v_ad (n_v vs 10) = w_ar ws (n_v vs 0) 2 := congrArg v_ad f8
  simp only [ad_14] at f1
  have h1 : v_iv (n_v vs 15) = w_ei ws (w_ar ws (n_v vs 3) 8) (v_iv (n_v vs 7)) := f1
  simp only [ad_12] at f4
  have h4 : v_iv (n_v vs 13) = w_ei ws (w_ar ws (n_v vs 3) 7) (v_iv (n_v vs 7)) := f4
  simp only [ad_10] at f7
  have h7 : v_iv (n_v vs 11) = w_ei ws (w_ar ws (n_v vs 0) 2) (v_iv (n_v vs 7)) := f7
  have g10 : v_iv (n_v vs 9) = w_fi ws (n_v vs 3) 6 := congrArg v_iv f10
  have hK_0_2 := elq_18 hD hth cr_0_2
  have hK_3_7 := elq_21 hD hth cr_3_7
  have hK_3_8 := elq_22 hD hth cr_3_8
  have kz_3_6 := fdq_62 hD hth r3
  have nf0 : fc_1 PRD (20, [0, 3, 1, 2, 7], [60, 1, 3, 626, 1006, 2, 1007, 1008]) ws (vs) := ⟨nf_in hl rfl, sgq_356 (vc_Em_leastEdgeAt_at_gp_5_0 (v_iv (n_v vs 1)) (v_iv (n_v vs 2)) (v_iv (n_v vs 5)) (v_iv (n_v vs 6)) (v_iv (n_v vs 7)) (v_iv (n_v vs 9)) (v_iv (n_v vs 11)) (v_iv (n_v vs 13)) (v_iv (n_v vs 15)) (w_ei ws (w_ar ws (n_v vs 3) 8)) (w_ei ws (w_ar ws (n_v vs 3) 7)) (w_ei ws (w_ar ws (n_v vs 0) 2)) (w_fi ws (n_v vs 3) 6) k1 k2 k5 k6 k7 k9 k11 k13 k15 d0 d1 d2 d3 d4 d5 d6 f0 h1 f3 h4 f6 h7 (shm_6 f9) g10 f11 hK_0_2 hK_3_7 hK_3_8 kz_3_6)⟩
  refine ⟨(fun _ h => (by cases h)), [], trivial, ?_, (fun _ h => (by cases h))⟩
  rw [List.append_nil]
  exact List.forall_mem_cons.mpr ⟨⟨show (20 : Nat) < 100 from by decide, nf0⟩, (fun _ h => (by cases h))⟩
def n_Em_leastEdgeAt_at_gp_an : List an_T := [(2, [(0, (2, 0, 0, [1])), (1, (0, 0, 24, [])), (2, (0, 0, 71, [])), (3, (0, 0, 72, []))], [], (0, 0), [(0, 0, 99998), (1, 7, 72), (0, 0, 100000)], [(1, 5, (Int.negSucc 999999999999), 0), (2, 6, (Int.negSucc 999999999999), 0), (5, 1, (Int.negSucc 999999999999), 0), (6, 2, (Int.negSucc 999999999999), 0)], [((0, 0), (2, 0, 0, [149]))], [(2, 0, 0, [1]), (0, 0, 24, []), (0, 0, 71, []), (2, 0, 0, [149])], 0, [], [(20, [4, 8, 5, 6, 7], [60, 1, 3, 625, 1006, 2, 1007, 1008]), (24, [3, 8], []), (24, [0, 4], []), (24, [1, 5], []), (24, [2, 6], [])])]
def t_Em_leastEdgeAt_at_gp_ct : ct_L := []
set_option maxRecDepth 100000 in
theorem c_Em_leastEdgeAt_at_gp {l : Launch} {D : va_G} {kA : Nat → ClassId} : ct_ok PRD l D kA GG y_Em_leastEdgeAt_at_gp z_Em_leastEdgeAt_at_gp e_Em_leastEdgeAt_at_gp := chk_all_ok (FT := [(9, 1, 0), (21, 1, 2), (133, 5, 6), (134, 5, 7), (135, 5, 8)]) (PT := []) (CT := t_Em_leastEdgeAt_at_gp_ct) (KT := []) (NT := []) (AN := n_Em_leastEdgeAt_at_gp_an) (OT := [o_Em_leastEdgeAt_at_gp_0, o_Em_leastEdgeAt_at_gp_1, o_Em_leastEdgeAt_at_gp_2, o_Em_leastEdgeAt_at_gp_3, o_Em_leastEdgeAt_at_gp_4, o_Em_leastEdgeAt_at_gp_5]) 3 200 (List.forall_mem_cons.mpr ⟨oo_Em_leastEdgeAt_at_gp_0, List.forall_mem_cons.mpr ⟨oo_Em_leastEdgeAt_at_gp_1, List.forall_mem_cons.mpr ⟨oo_Em_leastEdgeAt_at_gp_2, List.forall_mem_cons.mpr ⟨oo_Em_leastEdgeAt_at_gp_3, List.forall_mem_cons.mpr ⟨oo_Em_leastEdgeAt_at_gp_4, List.forall_mem_cons.mpr ⟨oo_Em_leastEdgeAt_at_gp_5, List.forall_mem_nil _⟩⟩⟩⟩⟩⟩) (by decide +kernel) ⟨List.forall_mem_cons.mpr ⟨gf_Em_9, List.forall_mem_cons.mpr ⟨gf_Em_21, List.forall_mem_cons.mpr ⟨gf_Em_133, List.forall_mem_cons.mpr ⟨gf_Em_134, List.forall_mem_cons.mpr ⟨gf_Em_135, List.forall_mem_nil _⟩⟩⟩⟩⟩, List.forall_mem_nil _, List.forall_mem_nil _, List.forall_mem_nil _, List.forall_mem_nil _, GG_pl⟩ (by decide +kernel)
set_option maxHeartbeats 4000000 in
theorem vc_Em_storeCycle_0_0 (x1 : Int) (x3 : Int) (cycle_2 : Int → Int) (cycleLength_2 : Int → Int) (way_2 : Int → Int) (cycles_2 : Int) (drawnNodes_2 : Int) (wayLength_2 : Int) (drawnNodes_0 : Int) (drawnNodes_1 : Int) (cycles_0 : Int) (cycles_1 : Int) (wayLength_0 : Int) (wayLength_1 : Int) (cycle_0 : Int → Int) (cycle_1 : Int → Int) (cycleLength_0 : Int → Int) (cycleLength_1 : Int → Int) (cycleNodes_0 : Int → Int) (cycleNodes_1 : Int → Int) (x6 : Int) (cycleNodes_2 : Int → Int) (way_0 : Int → Int) (way_1 : Int → Int) (k1 : 0 ≤ x1 ∧ x1 ≤ 49) (k3 : 0 ≤ x3 ∧ x3 ≤ 25) (f4 : SCX (cycles_2) (drawnNodes_2) (wayLength_2) (cycle_2) (cycleLength_2) (way_2) (x1) (x3)) (fe_0_6_1 : drawnNodes_0 = drawnNodes_1) (fe_0_7_1 : cycles_0 = cycles_1) (fe_0_15_1 : wayLength_0 = wayLength_1) (fe_0_6_2 : drawnNodes_1 = drawnNodes_2) (fe_0_7_2 : cycles_1 = cycles_2) (fe_0_15_2 : wayLength_1 = wayLength_2) (hE_0_8_1 : ∀ j : Int, cycle_0 j = cycle_1 j) (hE_0_8_2 : ∀ j : Int, cycle_1 j = cycle_2 j) (hK_0_8 : ∀ j : Int, 0 ≤ j → j < 1250 → 0 ≤ cycle_0 j ∧ cycle_0 j ≤ 24) (hE_0_9_1 : ∀ j : Int, cycleLength_0 j = cycleLength_1 j) (hE_0_9_2 : ∀ j : Int, 0 ≤ j → (j = x1 → cycleLength_1 j = x3) ∧ (j ≠ x1 → cycleLength_1 j = cycleLength_2 j)) (hK_0_9 : ∀ j : Int, 0 ≤ j → j < 50 → 0 ≤ cycleLength_0 j ∧ cycleLength_0 j ≤ 25) (hE_0_10_1 : ∀ j : Int, 0 ≤ j → (j = x1 → cycleNodes_0 j = x6) ∧ (j ≠ x1 → cycleNodes_0 j = cycleNodes_1 j)) (hE_0_10_2 : ∀ j : Int, cycleNodes_1 j = cycleNodes_2 j) (hK_0_10 : ∀ j : Int, 0 ≤ j → j < 50 → 0 ≤ cycleNodes_0 j ∧ cycleNodes_0 j ≤ 33554431) (hE_0_14_1 : ∀ j : Int, way_0 j = way_1 j) (hE_0_14_2 : ∀ j : Int, way_1 j = way_2 j) (hK_0_14 : ∀ j : Int, 0 ≤ j → j < 27 → 0 ≤ way_0 j ∧ way_0 j ≤ 24) (kz_0_6 : 0 ≤ drawnNodes_0 ∧ drawnNodes_0 ≤ 33554431) (kz_0_7 : 0 ≤ cycles_0 ∧ cycles_0 ≤ 50) (kz_0_15 : 0 ≤ wayLength_0 ∧ wayLength_0 ≤ 27) : SCZ (cycles_0) (drawnNodes_0) (wayLength_0) (cycle_0) (cycleLength_0) (way_0) (x1) := by
  subst fe_0_6_1
  subst fe_0_7_1
  subst fe_0_15_1
  subst fe_0_6_2
  subst fe_0_7_2
  subst fe_0_15_2
  have e_hE_0_8_1 := funext hE_0_8_1; subst e_hE_0_8_1
  have e_hE_0_8_2 := funext hE_0_8_2; subst e_hE_0_8_2
  have e_hE_0_9_1 := funext hE_0_9_1; subst e_hE_0_9_1
  have e_hE_0_10_2 := funext hE_0_10_2; subst e_hE_0_10_2
  have e_hE_0_14_1 := funext hE_0_14_1; subst e_hE_0_14_1
  have e_hE_0_14_2 := funext hE_0_14_2; subst e_hE_0_14_2
  first
    | assumption
    | exact scz_of ‹SCX _ _ _ _ _ _ _ _› (by assumption) (by omega) (by omega)
  
def o_Em_storeCycle_0 : or_T := (17, 8, [(0, (2, 0, 0, [1])), (1, (0, 0, 49, [])), (3, (0, 0, 25, [])), (4, (2, 0, 0, [30])), (5, (2, 0, 0, [31]))], [(100, [5, 1, 6], []), (9, [5, 0], [10]), (100, [4, 1, 3], []), (9, [4, 0], [9]), (20, [0, 1, 3], [60, 3, 3, 620, 7, 6, 15, 8, 9, 14])], [], [], [(20, [0, 1], [60, 3, 3, 621, 7, 6, 15, 8, 9, 14]), (24, [0, 0], []), (24, [1, 1], [])], [], [])
theorem oo_Em_storeCycle_0 {kA : Nat → ClassId} : or_ok PRD kA GG o_Em_storeCycle_0 := by
  refine or_mk fun A ta ws vs hD hth hl => ?_
  intro t0 r0 t1 k1 t3 k3 t4 r4 t5 r5 ta1 w1 le1 s1 f1 ta2 w2 le2 s2 f3 f4
  have s1 : (∀ b j, w_el ws b j = if b = v_ad (n_v vs 5) ∧ j = (v_iv (n_v vs 1)).toNat then v_iv (n_v vs 6) else w_el w1 b j) ∧ ∀ b k, w_fd ws b k = w_fd w1 b k := s1.2
  replace f1 := shm_106 f1
  have s2 : (∀ b j, w_el w1 b j = if b = v_ad (n_v vs 4) ∧ j = (v_iv (n_v vs 1)).toNat then v_iv (n_v vs 3) else w_el w2 b j) ∧ ∀ b k, w_fd w1 b k = w_fd w2 b k := s2.2
  replace f3 := shm_119 f3
  replace f4 := shm_357 f4
  have ar_0_8_1 : w_ar w1 (n_v vs 0) 8 = w_ar ws (n_v vs 0) 8 := congrArg v_ad (s1.2 _ _).symm
  have ar_0_8_2 : w_ar w2 (n_v vs 0) 8 = w_ar ws (n_v vs 0) 8 := by rw [← ar_0_8_1]; show v_ad (w_fd w2 _ _) = v_ad (w_fd w1 _ _); rw [s2.2]
  have cr_0_8 := fdq_51 hD hth r0
  have ar_0_9_1 : w_ar w1 (n_v vs 0) 9 = w_ar ws (n_v vs 0) 9 := congrArg v_ad (s1.2 _ _).symm
  have ar_0_9_2 : w_ar w2 (n_v vs 0) 9 = w_ar ws (n_v vs 0) 9 := by rw [← ar_0_9_1]; show v_ad (w_fd w2 _ _) = v_ad (w_fd w1 _ _); rw [s2.2]
  have cr_0_9 := fdq_50 hD hth r0
  have ar_0_10_1 : w_ar w1 (n_v vs 0) 10 = w_ar ws (n_v vs 0) 10 := congrArg v_ad (s1.2 _ _).symm
  have cr_0_10 := fdq_55 hD hth r0
  have ar_0_14_1 : w_ar w1 (n_v vs 0) 14 = w_ar ws (n_v vs 0) 14 := congrArg v_ad (s1.2 _ _).symm
  have ar_0_14_2 : w_ar w2 (n_v vs 0) 14 = w_ar ws (n_v vs 0) 14 := by rw [← ar_0_14_1]; show v_ad (w_fd w2 _ _) = v_ad (w_fd w1 _ _); rw [s2.2]
  have cr_0_14 := fdq_52 hD hth r0
  have ad_5 : v_ad (n_v vs 5) = w_ar ws (n_v vs 0) 10 := (congrArg v_ad f1).trans ar_0_10_1
  have ad_4 : v_ad (n_v vs 4) = w_ar ws (n_v vs 0) 9 := (congrArg v_ad f3).trans ar_0_9_2
  simp only [ar_0_8_2, ar_0_9_2, ar_0_14_2] at f4
  have fe_0_6_1 : w_fi ws (n_v vs 0) 6 = w_fi w1 (n_v vs 0) 6 := congrArg v_iv (s1.2 _ _)
  have fe_0_7_1 : w_fi ws (n_v vs 0) 7 = w_fi w1 (n_v vs 0) 7 := congrArg v_iv (s1.2 _ _)
  have fe_0_15_1 : w_fi ws (n_v vs 0) 15 = w_fi w1 (n_v vs 0) 15 := congrArg v_iv (s1.2 _ _)
  have fe_0_6_2 : w_fi w1 (n_v vs 0) 6 = w_fi w2 (n_v vs 0) 6 := congrArg v_iv (s2.2 _ _)
  have fe_0_7_2 : w_fi w1 (n_v vs 0) 7 = w_fi w2 (n_v vs 0) 7 := congrArg v_iv (s2.2 _ _)
  have fe_0_15_2 : w_fi w1 (n_v vs 0) 15 = w_fi w2 (n_v vs 0) 15 := congrArg v_iv (s2.2 _ _)
  have hE_0_8_1 : ∀ j : Int, w_ei ws (w_ar ws (n_v vs 0) 8) j = w_ei w1 (w_ar ws (n_v vs 0) 8) j := el_kp s1.1 r5 cr_0_8 (by decide)
  have hE_0_8_2 : ∀ j : Int, w_ei w1 (w_ar ws (n_v vs 0) 8) j = w_ei w2 (w_ar ws (n_v vs 0) 8) j := el_kp s2.1 r4 cr_0_8 (by decide)
  have hK_0_8 := elq_15 hD hth cr_0_8
  have hE_0_9_1 : ∀ j : Int, w_ei ws (w_ar ws (n_v vs 0) 9) j = w_ei w1 (w_ar ws (n_v vs 0) 9) j := el_kp s1.1 r5 cr_0_9 (by decide)
  have hE_0_9_2 : ∀ j : Int, 0 ≤ j → (j = v_iv (n_v vs 1) → w_ei w1 (w_ar ws (n_v vs 0) 9) j = v_iv (n_v vs 3)) ∧ (j ≠ v_iv (n_v vs 1) → w_ei w1 (w_ar ws (n_v vs 0) 9) j = w_ei w2 (w_ar ws (n_v vs 0) 9) j) := fun j hj => ⟨fun h => by unfold w_ei; rw [s2.1, if_pos ⟨ad_4.symm, by rw [h]⟩], fun h => by unfold w_ei; rw [s2.1, if_neg (fun e => h (by have := e.2; omega))]⟩
  have hK_0_9 := elq_14 hD hth cr_0_9
  have hE_0_10_1 : ∀ j : Int, 0 ≤ j → (j = v_iv (n_v vs 1) → w_ei ws (w_ar ws (n_v vs 0) 10) j = v_iv (n_v vs 6)) ∧ (j ≠ v_iv (n_v vs 1) → w_ei ws (w_ar ws (n_v vs 0) 10) j = w_ei w1 (w_ar ws (n_v vs 0) 10) j) := fun j hj => ⟨fun h => by unfold w_ei; rw [s1.1, if_pos ⟨ad_5.symm, by rw [h]⟩], fun h => by unfold w_ei; rw [s1.1, if_neg (fun e => h (by have := e.2; omega))]⟩
  have hE_0_10_2 : ∀ j : Int, w_ei w1 (w_ar ws (n_v vs 0) 10) j = w_ei w2 (w_ar ws (n_v vs 0) 10) j := el_kp s2.1 r4 cr_0_10 (by decide)
  have hK_0_10 := elq_17 hD hth cr_0_10
  have hE_0_14_1 : ∀ j : Int, w_ei ws (w_ar ws (n_v vs 0) 14) j = w_ei w1 (w_ar ws (n_v vs 0) 14) j := el_kp s1.1 r5 cr_0_14 (by decide)
  have hE_0_14_2 : ∀ j : Int, w_ei w1 (w_ar ws (n_v vs 0) 14) j = w_ei w2 (w_ar ws (n_v vs 0) 14) j := el_kp s2.1 r4 cr_0_14 (by decide)
  have hK_0_14 := elq_16 hD hth cr_0_14
  have kz_0_6 := fdq_53 hD hth r0
  have kz_0_7 := fdq_49 hD hth r0
  have kz_0_15 := fdq_54 hD hth r0
  have nf0 : fc_1 PRD (20, [0, 1], [60, 3, 3, 621, 7, 6, 15, 8, 9, 14]) ws (vs) := ⟨nf_in hl rfl, sgq_358 (vc_Em_storeCycle_0_0 (v_iv (n_v vs 1)) (v_iv (n_v vs 3)) (w_ei w2 (w_ar ws (n_v vs 0) 8)) (w_ei w2 (w_ar ws (n_v vs 0) 9)) (w_ei w2 (w_ar ws (n_v vs 0) 14)) (w_fi w2 (n_v vs 0) 7) (w_fi w2 (n_v vs 0) 6) (w_fi w2 (n_v vs 0) 15) (w_fi ws (n_v vs 0) 6) (w_fi w1 (n_v vs 0) 6) (w_fi ws (n_v vs 0) 7) (w_fi w1 (n_v vs 0) 7) (w_fi ws (n_v vs 0) 15) (w_fi w1 (n_v vs 0) 15) (w_ei ws (w_ar ws (n_v vs 0) 8)) (w_ei w1 (w_ar ws (n_v vs 0) 8)) (w_ei ws (w_ar ws (n_v vs 0) 9)) (w_ei w1 (w_ar ws (n_v vs 0) 9)) (w_ei ws (w_ar ws (n_v vs 0) 10)) (w_ei w1 (w_ar ws (n_v vs 0) 10)) (v_iv (n_v vs 6)) (w_ei w2 (w_ar ws (n_v vs 0) 10)) (w_ei ws (w_ar ws (n_v vs 0) 14)) (w_ei w1 (w_ar ws (n_v vs 0) 14)) k1 k3 f4 fe_0_6_1 fe_0_7_1 fe_0_15_1 fe_0_6_2 fe_0_7_2 fe_0_15_2 hE_0_8_1 hE_0_8_2 hK_0_8 hE_0_9_1 hE_0_9_2 hK_0_9 hE_0_10_1 hE_0_10_2 hK_0_10 hE_0_14_1 hE_0_14_2 hK_0_14 kz_0_6 kz_0_7 kz_0_15)⟩
  have nf1 : fc_1 PRD (24, [0, 0], []) ws (vs) := by
    refine ⟨nf_in hl rfl, sgq_1 ?_⟩
    · show n_v vs 0 = n_v vs 0
      first | rfl | simp only [true_and]
  have nf2 : fc_1 PRD (24, [1, 1], []) ws (vs) := by
    refine ⟨nf_in hl rfl, sgq_1 ?_⟩
    · show n_v vs 1 = n_v vs 1
      first | rfl | simp only [true_and]
  refine ⟨(fun _ h => (by cases h)), [], trivial, ?_, (fun _ h => (by cases h))⟩
  rw [List.append_nil]
  exact List.forall_mem_cons.mpr ⟨⟨show (20 : Nat) < 100 from by decide, nf0⟩, List.forall_mem_cons.mpr ⟨⟨show (24 : Nat) < 100 from by decide, nf1⟩, List.forall_mem_cons.mpr ⟨⟨show (24 : Nat) < 100 from by decide, nf2⟩, (fun _ h => (by cases h))⟩⟩⟩
set_option maxHeartbeats 4000000 in
theorem vc_Em_storeCycle_1_0 (x1 : Int) (x5 : Int) (cycle_0 : Int → Int) (cycleLength_0 : Int → Int) (way_0 : Int → Int) (cycles_0 : Int) (drawnNodes_0 : Int) (wayLength_0 : Int) (k1 : 0 ≤ x1 ∧ x1 ≤ 49) (k5 : 0 ≤ x5 ∧ x5 ≤ 49) (d0 : x5 + (-4294967296) ≤ x1 ∧ x1 ≤ x5 + 0) (d1 : x1 + (-4294967296) ≤ x5 ∧ x5 ≤ x1 + 0) (f0 : SCZ (cycles_0) (drawnNodes_0) (wayLength_0) (cycle_0) (cycleLength_0) (way_0) (x1)) (hK_0_8 : ∀ j : Int, 0 ≤ j → j < 1250 → 0 ≤ cycle_0 j ∧ cycle_0 j ≤ 24) (hK_0_9 : ∀ j : Int, 0 ≤ j → j < 50 → 0 ≤ cycleLength_0 j ∧ cycleLength_0 j ≤ 25) (hK_0_14 : ∀ j : Int, 0 ≤ j → j < 27 → 0 ≤ way_0 j ∧ way_0 j ≤ 24) (kz_0_6 : 0 ≤ drawnNodes_0 ∧ drawnNodes_0 ≤ 33554431) (kz_0_7 : 0 ≤ cycles_0 ∧ cycles_0 ≤ 50) (kz_0_15 : 0 ≤ wayLength_0 ∧ wayLength_0 ≤ 27) : SCZ (cycles_0) (drawnNodes_0) (wayLength_0) (cycle_0) (cycleLength_0) (way_0) (x1) := by
  first
    | assumption
    | exact scz_of ‹SCX _ _ _ _ _ _ _ _› (by assumption) (by omega) (by omega)
  
def o_Em_storeCycle_1 : or_T := (49, 9, [(0, (2, 0, 0, [1])), (1, (0, 0, 49, [])), (5, (0, 0, 49, []))], [(20, [4, 5], [60, 3, 3, 621, 7, 6, 15, 8, 9, 14]), (24, [0, 4], []), (24, [1, 5], [])], [], [], [(20, [0, 1], [60, 3, 3, 621, 7, 6, 15, 8, 9, 14])], [], [(1, 5, -4294967296, 0), (5, 1, -4294967296, 0)])
theorem oo_Em_storeCycle_1 {kA : Nat → ClassId} : or_ok PRD kA GG o_Em_storeCycle_1 := by
  refine or_mk fun A ta ws vs hD hth hl => ?_
  intro t0 r0 t1 k1 t5 k5 d0 d1 f0 f1 f2
  replace f0 := shm_358 f0
  replace f1 := shm_5 f1
  replace f2 := shm_5 f2
  have q4 : n_v vs 4 = n_v vs 0 := f1.symm
  have q5 : n_v vs 5 = n_v vs 1 := f2.symm
  simp only [q4, q5] at f0
  have cr_0_8 := fdq_51 hD hth r0
  have cr_0_9 := fdq_50 hD hth r0
  have cr_0_14 := fdq_52 hD hth r0
  have hK_0_8 := elq_15 hD hth cr_0_8
  have hK_0_9 := elq_14 hD hth cr_0_9
  have hK_0_14 := elq_16 hD hth cr_0_14
  have kz_0_6 := fdq_53 hD hth r0
  have kz_0_7 := fdq_49 hD hth r0
  have kz_0_15 := fdq_54 hD hth r0
  have nf0 : fc_1 PRD (20, [0, 1], [60, 3, 3, 621, 7, 6, 15, 8, 9, 14]) ws (vs) := ⟨nf_in hl rfl, sgq_358 (vc_Em_storeCycle_1_0 (v_iv (n_v vs 1)) (v_iv (n_v vs 5)) (w_ei ws (w_ar ws (n_v vs 0) 8)) (w_ei ws (w_ar ws (n_v vs 0) 9)) (w_ei ws (w_ar ws (n_v vs 0) 14)) (w_fi ws (n_v vs 0) 7) (w_fi ws (n_v vs 0) 6) (w_fi ws (n_v vs 0) 15) k1 k5 d0 d1 f0 hK_0_8 hK_0_9 hK_0_14 kz_0_6 kz_0_7 kz_0_15)⟩
  refine ⟨(fun _ h => (by cases h)), [], trivial, ?_, (fun _ h => (by cases h))⟩
  rw [List.append_nil]
  exact List.forall_mem_cons.mpr ⟨⟨show (20 : Nat) < 100 from by decide, nf0⟩, (fun _ h => (by cases h))⟩
def n_Em_storeCycle_an : List an_T := [(17, [(0, (2, 0, 0, [1])), (1, (0, 0, 49, [])), (2, (0, 0, 1225, [])), (3, (0, 0, 25, [])), (4, (0, 0, 25, []))], [], (0, 0), [(0, 0, 99983), (1, 8, 25), (0, 0, 100000)], [(1, 5, (Int.negSucc 999999999999), 0), (2, 6, (Int.negSucc 999999999999), 0), (3, 7, (Int.negSucc 999999999999), 0), (5, 1, (Int.negSucc 999999999999), 0), (6, 2, (Int.negSucc 999999999999), 0), (7, 3, (Int.negSucc 999999999999), 0), (8, 3, (Int.negSucc 999999999999), 0), (8, 7, (Int.negSucc 999999999999), 0)], [], [(2, 0, 0, [1]), (0, 0, 49, []), (0, 0, 1225, []), (0, 0, 25, [])], 0, [], [(20, [4, 5], [60, 3, 3, 621, 7, 6, 15, 8, 9, 14]), (24, [0, 4], []), (24, [1, 5], [])])]
def t_Em_storeCycle_ct : ct_L := []
set_option maxRecDepth 100000 in
theorem c_Em_storeCycle {l : Launch} {D : va_G} {kA : Nat → ClassId} : ct_ok PRD l D kA GG y_Em_storeCycle z_Em_storeCycle e_Em_storeCycle := chk_all_ok (FT := [(42, 1, 8), (45, 1, 9), (48, 1, 10)]) (PT := []) (CT := t_Em_storeCycle_ct) (KT := []) (NT := []) (AN := n_Em_storeCycle_an) (OT := [o_Em_storeCycle_0, o_Em_storeCycle_1]) 3 200 (List.forall_mem_cons.mpr ⟨oo_Em_storeCycle_0, List.forall_mem_cons.mpr ⟨oo_Em_storeCycle_1, List.forall_mem_nil _⟩⟩) (by decide +kernel) ⟨List.forall_mem_cons.mpr ⟨gf_Em_42, List.forall_mem_cons.mpr ⟨gf_Em_45, List.forall_mem_cons.mpr ⟨gf_Em_48, List.forall_mem_nil _⟩⟩⟩, List.forall_mem_nil _, List.forall_mem_nil _, List.forall_mem_nil _, List.forall_mem_nil _, GG_pl⟩ (by decide +kernel)
set_option maxHeartbeats 4000000 in
theorem vc_Fa_gather_0_0 (x1 : Int) (x2 : Int) (x3 : Int) (x4 : Int) (loop_0 : Int → Int) (member_0 : Int → Int) (k1 : 0 ≤ x1 ∧ x1 ≤ 24) (k2 : 0 ≤ x2 ∧ x2 ≤ 23) (k3 : 0 ≤ x3 ∧ x3 ≤ 0) (k4 : 0 ≤ x4 ∧ x4 ≤ 0) (hK_0_11 : ∀ j : Int, 0 ≤ j → j < 24 → (-1) ≤ loop_0 j ∧ loop_0 j ≤ 24) (hK_0_13 : ∀ j : Int, 0 ≤ j → j < 24 → 0 ≤ member_0 j ∧ member_0 j ≤ 23) : MGI (loop_0) (member_0) (x2) (x4) (x3) := by
  first
    | exact mgi_start (by omega) (by omega)
    | exact mgi_take ‹MGI _ _ _ _ _› (by omega) (by assumption) (by omega) (by omega) (by omega) (by omega)
    | exact mgi_skip ‹MGI _ _ _ _ _› (by omega) (by omega)
  
set_option maxHeartbeats 4000000 in
theorem vc_Fa_gather_0_1 (x1 : Int) (x2 : Int) (x3 : Int) (x4 : Int) (loop_0 : Int → Int) (member_0 : Int → Int) (k1 : 0 ≤ x1 ∧ x1 ≤ 24) (k2 : 0 ≤ x2 ∧ x2 ≤ 23) (k3 : 0 ≤ x3 ∧ x3 ≤ 0) (k4 : 0 ≤ x4 ∧ x4 ≤ 0) (hK_0_11 : ∀ j : Int, 0 ≤ j → j < 24 → (-1) ≤ loop_0 j ∧ loop_0 j ≤ 24) (hK_0_13 : ∀ j : Int, 0 ≤ j → j < 24 → 0 ≤ member_0 j ∧ member_0 j ≤ 23) : x4 ≤ x1 := by
  omega
def o_Fa_gather_0 : or_T := (5, 5, [(0, (2, 0, 0, [2])), (1, (0, 0, 24, [])), (2, (0, 0, 23, [])), (3, (0, 0, 0, [])), (4, (0, 0, 0, []))], [], [], [], [(20, [0, 2, 4, 3], [60, 0, 2, 569, 11, 13]), (20, [4, 1], [50, 0, 0, 0, 2, 1, 0, 1, 1]), (24, [0, 0], []), (24, [1, 1], []), (24, [2, 2], [])], [], [])
theorem oo_Fa_gather_0 {kA : Nat → ClassId} : or_ok PRD kA GG o_Fa_gather_0 := by
  refine or_mk fun A ta ws vs hD hth hl => ?_
  intro t0 r0 t1 k1 t2 k2 t3 k3 t4 k4
  have cr_0_11 := fdq_63 hD hth r0
  have cr_0_13 := fdq_64 hD hth r0
  have hK_0_11 := elq_23 hD hth cr_0_11
  have hK_0_13 := elq_24 hD hth cr_0_13
  have nf0 : fc_1 PRD (20, [0, 2, 4, 3], [60, 0, 2, 569, 11, 13]) ws (vs) := ⟨nf_in hl rfl, sgq_359 (vc_Fa_gather_0_0 (v_iv (n_v vs 1)) (v_iv (n_v vs 2)) (v_iv (n_v vs 3)) (v_iv (n_v vs 4)) (w_ei ws (w_ar ws (n_v vs 0) 11)) (w_ei ws (w_ar ws (n_v vs 0) 13)) k1 k2 k3 k4 hK_0_11 hK_0_13)⟩
  have nf1 : fc_1 PRD (20, [4, 1], [50, 0, 0, 0, 2, 1, 0, 1, 1]) ws (vs) := ⟨nf_in hl rfl, sgq_360 (vc_Fa_gather_0_1 (v_iv (n_v vs 1)) (v_iv (n_v vs 2)) (v_iv (n_v vs 3)) (v_iv (n_v vs 4)) (w_ei ws (w_ar ws (n_v vs 0) 11)) (w_ei ws (w_ar ws (n_v vs 0) 13)) k1 k2 k3 k4 hK_0_11 hK_0_13)⟩
  have nf2 : fc_1 PRD (24, [0, 0], []) ws (vs) := by
    refine ⟨nf_in hl rfl, sgq_1 ?_⟩
    · show n_v vs 0 = n_v vs 0
      first | rfl | simp only [true_and]
  have nf3 : fc_1 PRD (24, [1, 1], []) ws (vs) := by
    refine ⟨nf_in hl rfl, sgq_1 ?_⟩
    · show n_v vs 1 = n_v vs 1
      first | rfl | simp only [true_and]
  have nf4 : fc_1 PRD (24, [2, 2], []) ws (vs) := by
    refine ⟨nf_in hl rfl, sgq_1 ?_⟩
    · show n_v vs 2 = n_v vs 2
      first | rfl | simp only [true_and]
  refine ⟨(fun _ h => (by cases h)), [], trivial, ?_, (fun _ h => (by cases h))⟩
  rw [List.append_nil]
  exact List.forall_mem_cons.mpr ⟨⟨show (20 : Nat) < 100 from by decide, nf0⟩, List.forall_mem_cons.mpr ⟨⟨show (20 : Nat) < 100 from by decide, nf1⟩, List.forall_mem_cons.mpr ⟨⟨show (24 : Nat) < 100 from by decide, nf2⟩, List.forall_mem_cons.mpr ⟨⟨show (24 : Nat) < 100 from by decide, nf3⟩, List.forall_mem_cons.mpr ⟨⟨show (24 : Nat) < 100 from by decide, nf4⟩, (fun _ h => (by cases h))⟩⟩⟩⟩⟩
set_option maxHeartbeats 4000000 in
theorem vc_Fa_gather_1_0 (x1 : Int) (x2 : Int) (x4 : Int) (x5 : Int) (x6 : Int) (x7 : Int) (loop_0 : Int → Int) (member_0 : Int → Int) (k1 : 0 ≤ x1 ∧ x1 ≤ 24) (k2 : 0 ≤ x2 ∧ x2 ≤ 23) (k4 : 0 ≤ x4 ∧ x4 ≤ 24) (k5 : 0 ≤ x5 ∧ x5 ≤ 23) (k6 : 0 ≤ x6 ∧ x6 ≤ 24) (k7 : 0 ≤ x7 ∧ x7 ≤ 24) (d0 : x4 + 0 ≤ x7 ∧ x7 ≤ x4 + 4294967296) (d1 : x4 + (-4294967296) ≤ x1 ∧ x1 ≤ x4 + 0) (d2 : x5 + (-4294967296) ≤ x2 ∧ x2 ≤ x5 + 0) (d3 : x1 + (-4294967296) ≤ x4 ∧ x4 ≤ x1 + 0) (d4 : x2 + (-4294967296) ≤ x5 ∧ x5 ≤ x2 + 0) (d5 : x1 + (-4294967296) ≤ x6 ∧ x6 ≤ x1 + 1) (d6 : x4 + (-4294967296) ≤ x6 ∧ x6 ≤ x4 + 0) (d7 : x7 + (-4294967296) ≤ x6 ∧ x6 ≤ x7 + 0) (d8 : x1 + (-4294967296) ≤ x7 ∧ x7 ≤ x1 + 0) (d9 : x4 + (-4294967296) ≤ x7 ∧ x7 ≤ x4 + 0) (f0 : x1 ≤ x7) (f1 : MGI (loop_0) (member_0) (x2) (x7) (x6)) (f2 : x7 ≤ x1) (hK_0_11 : ∀ j : Int, 0 ≤ j → j < 24 → (-1) ≤ loop_0 j ∧ loop_0 j ≤ 24) (hK_0_13 : ∀ j : Int, 0 ≤ j → j < 24 → 0 ≤ member_0 j ∧ member_0 j ≤ 23) : MGI (loop_0) (member_0) (x2) (x1) (x6) := by
  first
    | (have e : x7 = x1 := by omega
       subst e; assumption)
    | assumption
  
def o_Fa_gather_1 : or_T := (40, 8, [(0, (2, 0, 0, [2])), (1, (0, 0, 24, [])), (2, (0, 0, 23, [])), (4, (0, 0, 24, [])), (5, (0, 0, 23, [])), (6, (0, 0, 24, [])), (7, (0, 0, 24, []))], [(7, [7, 4], [3]), (20, [3, 5, 7, 6], [60, 0, 2, 569, 11, 13]), (20, [7, 4], [50, 0, 0, 0, 2, 1, 0, 1, 1]), (24, [0, 3], []), (24, [1, 4], []), (24, [2, 5], [])], [], [], [(20, [0, 2, 1, 6], [60, 0, 2, 569, 11, 13])], [], [(7, 4, 0, 4294967296), (1, 4, -4294967296, 0), (2, 5, -4294967296, 0), (4, 1, -4294967296, 0), (5, 2, -4294967296, 0), (6, 1, -4294967296, 1), (6, 4, -4294967296, 0), (6, 7, -4294967296, 0), (7, 1, -4294967296, 0), (7, 4, -4294967296, 0)])
theorem oo_Fa_gather_1 {kA : Nat → ClassId} : or_ok PRD kA GG o_Fa_gather_1 := by
  refine or_mk fun A ta ws vs hD hth hl => ?_
  intro t0 r0 t1 k1 t2 k2 t4 k4 t5 k5 t6 k6 t7 k7 d0 d1 d2 d3 d4 d5 d6 d7 d8 d9 f0 f1 f2 f3 f4 f5
  replace f0 := shm_2 f0
  replace f1 := shm_359 f1
  replace f2 := shm_360 f2
  replace f3 := shm_5 f3
  replace f4 := shm_5 f4
  replace f5 := shm_5 f5
  have q3 : n_v vs 3 = n_v vs 0 := f3.symm
  have q4 : n_v vs 4 = n_v vs 1 := f4.symm
  have q5 : n_v vs 5 = n_v vs 2 := f5.symm
  simp only [q4, q3, q5] at f0 f1 f2
  have cr_0_11 := fdq_63 hD hth r0
  have cr_0_13 := fdq_64 hD hth r0
  have hK_0_11 := elq_23 hD hth cr_0_11
  have hK_0_13 := elq_24 hD hth cr_0_13
  have nf0 : fc_1 PRD (20, [0, 2, 1, 6], [60, 0, 2, 569, 11, 13]) ws (vs) := ⟨nf_in hl rfl, sgq_359 (vc_Fa_gather_1_0 (v_iv (n_v vs 1)) (v_iv (n_v vs 2)) (v_iv (n_v vs 4)) (v_iv (n_v vs 5)) (v_iv (n_v vs 6)) (v_iv (n_v vs 7)) (w_ei ws (w_ar ws (n_v vs 0) 11)) (w_ei ws (w_ar ws (n_v vs 0) 13)) k1 k2 k4 k5 k6 k7 d0 d1 d2 d3 d4 d5 d6 d7 d8 d9 f0 f1 f2 hK_0_11 hK_0_13)⟩
  refine ⟨(fun _ h => (by cases h)), [], trivial, ?_, (fun _ h => (by cases h))⟩
  rw [List.append_nil]
  exact List.forall_mem_cons.mpr ⟨⟨show (20 : Nat) < 100 from by decide, nf0⟩, (fun _ h => (by cases h))⟩
set_option maxHeartbeats 4000000 in
theorem vc_Fa_gather_2_0 (x1 : Int) (x2 : Int) (x4 : Int) (x5 : Int) (x6 : Int) (x7 : Int) (x9 : Int) (x10 : Int) (loop_0 : Int → Int) (member_0 : Int → Int) (k1 : 1 ≤ x1 ∧ x1 ≤ 24) (k2 : 0 ≤ x2 ∧ x2 ≤ 23) (k4 : 1 ≤ x4 ∧ x4 ≤ 24) (k5 : 0 ≤ x5 ∧ x5 ≤ 23) (k6 : 0 ≤ x6 ∧ x6 ≤ 23) (k7 : 0 ≤ x7 ∧ x7 ≤ 23) (k9 : (-1) ≤ x9 ∧ x9 ≤ 24) (k10 : 1 ≤ x10 ∧ x10 ≤ 24) (d0 : x7 + 1 ≤ x10 ∧ x10 ≤ x7 + 1) (d1 : x4 + (-4294967296) ≤ x10 ∧ x10 ≤ x4 + 0) (d2 : x1 + (-4294967296) ≤ x10 ∧ x10 ≤ x1 + 1) (d3 : x4 + (-4294967296) ≤ x10 ∧ x10 ≤ x4 + 1) (d4 : x4 + (-4294967296) ≤ x7 ∧ x7 ≤ x4 + (-1)) (d5 : x4 + (-4294967296) ≤ x1 ∧ x1 ≤ x4 + 0) (d6 : x5 + (-4294967296) ≤ x2 ∧ x2 ≤ x5 + 0) (d7 : x1 + (-4294967296) ≤ x4 ∧ x4 ≤ x1 + 0) (d8 : x2 + (-4294967296) ≤ x5 ∧ x5 ≤ x2 + 0) (d9 : x1 + (-4294967296) ≤ x6 ∧ x6 ≤ x1 + 1) (d10 : x4 + (-4294967296) ≤ x6 ∧ x6 ≤ x4 + 0) (d11 : x7 + (-4294967296) ≤ x6 ∧ x6 ≤ x7 + 0) (d12 : x1 + (-4294967296) ≤ x7 ∧ x7 ≤ x1 + 0) (d13 : x4 + (-4294967296) ≤ x7 ∧ x7 ≤ x4 + 0) (f0 : x10 = x7 + 1) (f1 : x9 ≠ x2) (h2 : x9 = loop_0 (x7)) (f4 : x7 < x1) (f5 : MGI (loop_0) (member_0) (x2) (x7) (x6)) (f6 : x7 ≤ x1) (hK_0_11 : ∀ j : Int, 0 ≤ j → j < 24 → (-1) ≤ loop_0 j ∧ loop_0 j ≤ 24) (hK_0_13 : ∀ j : Int, 0 ≤ j → j < 24 → 0 ≤ member_0 j ∧ member_0 j ≤ 23) : MGI (loop_0) (member_0) (x2) (x10) (x6) := by
  first
    | exact mgi_start (by omega) (by omega)
    | exact mgi_take ‹MGI _ _ _ _ _› (by omega) (by assumption) (by omega) (by omega) (by omega) (by omega)
    | exact mgi_skip ‹MGI _ _ _ _ _› (by omega) (by omega)
  
set_option maxHeartbeats 4000000 in
theorem vc_Fa_gather_2_1 (x1 : Int) (x2 : Int) (x4 : Int) (x5 : Int) (x6 : Int) (x7 : Int) (x9 : Int) (x10 : Int) (loop_0 : Int → Int) (member_0 : Int → Int) (k1 : 1 ≤ x1 ∧ x1 ≤ 24) (k2 : 0 ≤ x2 ∧ x2 ≤ 23) (k4 : 1 ≤ x4 ∧ x4 ≤ 24) (k5 : 0 ≤ x5 ∧ x5 ≤ 23) (k6 : 0 ≤ x6 ∧ x6 ≤ 23) (k7 : 0 ≤ x7 ∧ x7 ≤ 23) (k9 : (-1) ≤ x9 ∧ x9 ≤ 24) (k10 : 1 ≤ x10 ∧ x10 ≤ 24) (d0 : x7 + 1 ≤ x10 ∧ x10 ≤ x7 + 1) (d1 : x4 + (-4294967296) ≤ x10 ∧ x10 ≤ x4 + 0) (d2 : x1 + (-4294967296) ≤ x10 ∧ x10 ≤ x1 + 1) (d3 : x4 + (-4294967296) ≤ x10 ∧ x10 ≤ x4 + 1) (d4 : x4 + (-4294967296) ≤ x7 ∧ x7 ≤ x4 + (-1)) (d5 : x4 + (-4294967296) ≤ x1 ∧ x1 ≤ x4 + 0) (d6 : x5 + (-4294967296) ≤ x2 ∧ x2 ≤ x5 + 0) (d7 : x1 + (-4294967296) ≤ x4 ∧ x4 ≤ x1 + 0) (d8 : x2 + (-4294967296) ≤ x5 ∧ x5 ≤ x2 + 0) (d9 : x1 + (-4294967296) ≤ x6 ∧ x6 ≤ x1 + 1) (d10 : x4 + (-4294967296) ≤ x6 ∧ x6 ≤ x4 + 0) (d11 : x7 + (-4294967296) ≤ x6 ∧ x6 ≤ x7 + 0) (d12 : x1 + (-4294967296) ≤ x7 ∧ x7 ≤ x1 + 0) (d13 : x4 + (-4294967296) ≤ x7 ∧ x7 ≤ x4 + 0) (f0 : x10 = x7 + 1) (f1 : x9 ≠ x2) (h2 : x9 = loop_0 (x7)) (f4 : x7 < x1) (f5 : MGI (loop_0) (member_0) (x2) (x7) (x6)) (f6 : x7 ≤ x1) (hK_0_11 : ∀ j : Int, 0 ≤ j → j < 24 → (-1) ≤ loop_0 j ∧ loop_0 j ≤ 24) (hK_0_13 : ∀ j : Int, 0 ≤ j → j < 24 → 0 ≤ member_0 j ∧ member_0 j ≤ 23) : x10 ≤ x1 := by
  omega
def o_Fa_gather_2 : or_T := (5, 11, [(0, (2, 0, 0, [2])), (1, (0, 1, 24, [])), (2, (0, 0, 23, [])), (4, (0, 1, 24, [])), (5, (0, 0, 23, [])), (6, (0, 0, 23, [])), (7, (0, 0, 23, [])), (9, (0, -1, 24, [])), (10, (0, 1, 24, []))], [(6, [10, 7], [1]), (7, [9, 5], [1]), (10, [9, 8, 7], []), (9, [8, 3], [11]), (7, [7, 4], [2]), (20, [3, 5, 7, 6], [60, 0, 2, 569, 11, 13]), (20, [7, 4], [50, 0, 0, 0, 2, 1, 0, 1, 1]), (24, [0, 3], []), (24, [1, 4], []), (24, [2, 5], [])], [], [], [(20, [3, 5, 10, 6], [60, 0, 2, 569, 11, 13]), (20, [10, 4], [50, 0, 0, 0, 2, 1, 0, 1, 1])], [], [(10, 7, 1, 1), (10, 4, -4294967296, 0), (10, 1, -4294967296, 1), (10, 4, -4294967296, 1), (7, 4, -4294967296, -1), (1, 4, -4294967296, 0), (2, 5, -4294967296, 0), (4, 1, -4294967296, 0), (5, 2, -4294967296, 0), (6, 1, -4294967296, 1), (6, 4, -4294967296, 0), (6, 7, -4294967296, 0), (7, 1, -4294967296, 0), (7, 4, -4294967296, 0)])
theorem oo_Fa_gather_2 {kA : Nat → ClassId} : or_ok PRD kA GG o_Fa_gather_2 := by
  refine or_mk fun A ta ws vs hD hth hl => ?_
  intro t0 r0 t1 k1 t2 k2 t4 k4 t5 k5 t6 k6 t7 k7 t9 k9 t10 k10 d0 d1 d2 d3 d4 d5 d6 d7 d8 d9 d10 d11 d12 d13 f0 f1 f2 f3 f4 f5 f6 f7 f8 f9
  replace f0 := shm_4 f0
  replace f1 := shm_40 f1
  replace f2 := shm_107 f2
  replace f3 := shm_116 f3
  replace f4 := shm_6 f4
  replace f5 := shm_359 f5
  replace f6 := shm_360 f6
  replace f7 := shm_5 f7
  replace f8 := shm_5 f8
  replace f9 := shm_5 f9
  have q3 : n_v vs 3 = n_v vs 0 := f7.symm
  have q4 : n_v vs 4 = n_v vs 1 := f8.symm
  have q5 : n_v vs 5 = n_v vs 2 := f9.symm
  simp only [q5, q3, q4] at f1 f3 f4 f5 f6
  have cr_0_11 := fdq_63 hD hth r0
  have cr_0_13 := fdq_64 hD hth r0
  have ad_8 : v_ad (n_v vs 8) = w_ar ws (n_v vs 0) 11 := congrArg v_ad f3
  simp only [ad_8] at f2
  have h2 : v_iv (n_v vs 9) = w_ei ws (w_ar ws (n_v vs 0) 11) (v_iv (n_v vs 7)) := f2
  have hK_0_11 := elq_23 hD hth cr_0_11
  have hK_0_13 := elq_24 hD hth cr_0_13
  have nf0 : fc_1 PRD (20, [3, 5, 10, 6], [60, 0, 2, 569, 11, 13]) ws (vs) := by
    refine ⟨nf_in hl rfl, sgq_359 ?_⟩
    · show MGI (w_ei ws (w_ar ws (n_v vs 3) 11)) (w_ei ws (w_ar ws (n_v vs 3) 13)) (v_iv (n_v vs 5)) (v_iv (n_v vs 10)) (v_iv (n_v vs 6))
      simp only [q3, q5]
      exact vc_Fa_gather_2_0 (v_iv (n_v vs 1)) (v_iv (n_v vs 2)) (v_iv (n_v vs 4)) (v_iv (n_v vs 5)) (v_iv (n_v vs 6)) (v_iv (n_v vs 7)) (v_iv (n_v vs 9)) (v_iv (n_v vs 10)) (w_ei ws (w_ar ws (n_v vs 0) 11)) (w_ei ws (w_ar ws (n_v vs 0) 13)) k1 k2 k4 k5 k6 k7 k9 k10 d0 d1 d2 d3 d4 d5 d6 d7 d8 d9 d10 d11 d12 d13 f0 f1 h2 f4 f5 f6 hK_0_11 hK_0_13
  have nf1 : fc_1 PRD (20, [10, 4], [50, 0, 0, 0, 2, 1, 0, 1, 1]) ws (vs) := by
    refine ⟨nf_in hl rfl, sgq_360 ?_⟩
    · show v_iv (n_v vs 10) ≤ v_iv (n_v vs 4)
      rw [q4]
      exact vc_Fa_gather_2_1 (v_iv (n_v vs 1)) (v_iv (n_v vs 2)) (v_iv (n_v vs 4)) (v_iv (n_v vs 5)) (v_iv (n_v vs 6)) (v_iv (n_v vs 7)) (v_iv (n_v vs 9)) (v_iv (n_v vs 10)) (w_ei ws (w_ar ws (n_v vs 0) 11)) (w_ei ws (w_ar ws (n_v vs 0) 13)) k1 k2 k4 k5 k6 k7 k9 k10 d0 d1 d2 d3 d4 d5 d6 d7 d8 d9 d10 d11 d12 d13 f0 f1 h2 f4 f5 f6 hK_0_11 hK_0_13
  refine ⟨(fun _ h => (by cases h)), [], trivial, ?_, (fun _ h => (by cases h))⟩
  rw [List.append_nil]
  exact List.forall_mem_cons.mpr ⟨⟨show (20 : Nat) < 100 from by decide, nf0⟩, List.forall_mem_cons.mpr ⟨⟨show (20 : Nat) < 100 from by decide, nf1⟩, (fun _ h => (by cases h))⟩⟩
set_option maxHeartbeats 4000000 in
theorem vc_Fa_gather_3_0 (x1 : Int) (x2 : Int) (x4 : Int) (x5 : Int) (x6 : Int) (x7 : Int) (x9 : Int) (x11 : Int) (x12 : Int) (loop_1 : Int → Int) (member_1 : Int → Int) (loop_0 : Int → Int) (member_0 : Int → Int) (k1 : 1 ≤ x1 ∧ x1 ≤ 24) (k2 : 0 ≤ x2 ∧ x2 ≤ 23) (k4 : 1 ≤ x4 ∧ x4 ≤ 24) (k5 : 0 ≤ x5 ∧ x5 ≤ 23) (k6 : 0 ≤ x6 ∧ x6 ≤ 23) (k7 : 0 ≤ x7 ∧ x7 ≤ 23) (k9 : 0 ≤ x9 ∧ x9 ≤ 23) (k11 : 1 ≤ x11 ∧ x11 ≤ 24) (k12 : 1 ≤ x12 ∧ x12 ≤ 24) (d0 : x7 + 1 ≤ x12 ∧ x12 ≤ x7 + 1) (d1 : x4 + (-4294967296) ≤ x12 ∧ x12 ≤ x4 + 0) (d2 : x1 + (-4294967296) ≤ x12 ∧ x12 ≤ x1 + 1) (d3 : x4 + (-4294967296) ≤ x12 ∧ x12 ≤ x4 + 1) (d4 : x6 + 1 ≤ x11 ∧ x11 ≤ x6 + 1) (d5 : x1 + (-4294967296) ≤ x11 ∧ x11 ≤ x1 + 2) (d6 : x4 + (-4294967296) ≤ x11 ∧ x11 ≤ x4 + 1) (d7 : x7 + (-4294967296) ≤ x11 ∧ x11 ≤ x7 + 1) (d8 : x5 + 0 ≤ x9 ∧ x9 ≤ x5 + 0) (d9 : x4 + (-4294967296) ≤ x7 ∧ x7 ≤ x4 + (-1)) (d10 : x4 + (-4294967296) ≤ x1 ∧ x1 ≤ x4 + 0) (d11 : x5 + (-4294967296) ≤ x2 ∧ x2 ≤ x5 + 0) (d12 : x1 + (-4294967296) ≤ x4 ∧ x4 ≤ x1 + 0) (d13 : x2 + (-4294967296) ≤ x5 ∧ x5 ≤ x2 + 0) (d14 : x1 + (-4294967296) ≤ x6 ∧ x6 ≤ x1 + 1) (d15 : x4 + (-4294967296) ≤ x6 ∧ x6 ≤ x4 + 0) (d16 : x7 + (-4294967296) ≤ x6 ∧ x6 ≤ x7 + 0) (d17 : x1 + (-4294967296) ≤ x7 ∧ x7 ≤ x1 + 0) (d18 : x4 + (-4294967296) ≤ x7 ∧ x7 ≤ x4 + 0) (f0 : x12 = x7 + 1) (f1 : x11 = x6 + 1) (f2 : x7 ≤ x1) (f8 : x9 = x2) (h9 : x9 = loop_1 (x7)) (f11 : x7 < x1) (f12 : MGI (loop_1) (member_1) (x2) (x7) (x6)) (f13 : x7 ≤ x1) (hE_0_11_1 : ∀ j : Int, loop_0 j = loop_1 j) (hK_0_11 : ∀ j : Int, 0 ≤ j → j < 24 → (-1) ≤ loop_0 j ∧ loop_0 j ≤ 24) (hE_0_13_1 : ∀ j : Int, 0 ≤ j → (j = x6 → member_0 j = x7) ∧ (j ≠ x6 → member_0 j = member_1 j)) (hK_0_13 : ∀ j : Int, 0 ≤ j → j < 24 → 0 ≤ member_0 j ∧ member_0 j ≤ 23) : MGI (loop_0) (member_0) (x2) (x12) (x11) := by
  have e_hE_0_11_1 := funext hE_0_11_1; subst e_hE_0_11_1
  first
    | exact mgi_start (by omega) (by omega)
    | exact mgi_take ‹MGI _ _ _ _ _› (by omega) (by assumption) (by omega) (by omega) (by omega) (by omega)
    | exact mgi_skip ‹MGI _ _ _ _ _› (by omega) (by omega)
  
set_option maxHeartbeats 4000000 in
theorem vc_Fa_gather_3_1 (x1 : Int) (x2 : Int) (x4 : Int) (x5 : Int) (x6 : Int) (x7 : Int) (x9 : Int) (x11 : Int) (x12 : Int) (loop_1 : Int → Int) (member_1 : Int → Int) (loop_0 : Int → Int) (member_0 : Int → Int) (k1 : 1 ≤ x1 ∧ x1 ≤ 24) (k2 : 0 ≤ x2 ∧ x2 ≤ 23) (k4 : 1 ≤ x4 ∧ x4 ≤ 24) (k5 : 0 ≤ x5 ∧ x5 ≤ 23) (k6 : 0 ≤ x6 ∧ x6 ≤ 23) (k7 : 0 ≤ x7 ∧ x7 ≤ 23) (k9 : 0 ≤ x9 ∧ x9 ≤ 23) (k11 : 1 ≤ x11 ∧ x11 ≤ 24) (k12 : 1 ≤ x12 ∧ x12 ≤ 24) (d0 : x7 + 1 ≤ x12 ∧ x12 ≤ x7 + 1) (d1 : x4 + (-4294967296) ≤ x12 ∧ x12 ≤ x4 + 0) (d2 : x1 + (-4294967296) ≤ x12 ∧ x12 ≤ x1 + 1) (d3 : x4 + (-4294967296) ≤ x12 ∧ x12 ≤ x4 + 1) (d4 : x6 + 1 ≤ x11 ∧ x11 ≤ x6 + 1) (d5 : x1 + (-4294967296) ≤ x11 ∧ x11 ≤ x1 + 2) (d6 : x4 + (-4294967296) ≤ x11 ∧ x11 ≤ x4 + 1) (d7 : x7 + (-4294967296) ≤ x11 ∧ x11 ≤ x7 + 1) (d8 : x5 + 0 ≤ x9 ∧ x9 ≤ x5 + 0) (d9 : x4 + (-4294967296) ≤ x7 ∧ x7 ≤ x4 + (-1)) (d10 : x4 + (-4294967296) ≤ x1 ∧ x1 ≤ x4 + 0) (d11 : x5 + (-4294967296) ≤ x2 ∧ x2 ≤ x5 + 0) (d12 : x1 + (-4294967296) ≤ x4 ∧ x4 ≤ x1 + 0) (d13 : x2 + (-4294967296) ≤ x5 ∧ x5 ≤ x2 + 0) (d14 : x1 + (-4294967296) ≤ x6 ∧ x6 ≤ x1 + 1) (d15 : x4 + (-4294967296) ≤ x6 ∧ x6 ≤ x4 + 0) (d16 : x7 + (-4294967296) ≤ x6 ∧ x6 ≤ x7 + 0) (d17 : x1 + (-4294967296) ≤ x7 ∧ x7 ≤ x1 + 0) (d18 : x4 + (-4294967296) ≤ x7 ∧ x7 ≤ x4 + 0) (f0 : x12 = x7 + 1) (f1 : x11 = x6 + 1) (f2 : x7 ≤ x1) (f8 : x9 = x2) (h9 : x9 = loop_1 (x7)) (f11 : x7 < x1) (f12 : MGI (loop_1) (member_1) (x2) (x7) (x6)) (f13 : x7 ≤ x1) (hE_0_11_1 : ∀ j : Int, loop_0 j = loop_1 j) (hK_0_11 : ∀ j : Int, 0 ≤ j → j < 24 → (-1) ≤ loop_0 j ∧ loop_0 j ≤ 24) (hE_0_13_1 : ∀ j : Int, 0 ≤ j → (j = x6 → member_0 j = x7) ∧ (j ≠ x6 → member_0 j = member_1 j)) (hK_0_13 : ∀ j : Int, 0 ≤ j → j < 24 → 0 ≤ member_0 j ∧ member_0 j ≤ 23) : x12 ≤ x1 := by
  have e_hE_0_11_1 := funext hE_0_11_1; subst e_hE_0_11_1
  omega
def o_Fa_gather_3 : or_T := (5, 13, [(0, (2, 0, 0, [2])), (1, (0, 1, 24, [])), (2, (0, 0, 23, [])), (4, (0, 1, 24, [])), (5, (0, 0, 23, [])), (6, (0, 0, 23, [])), (7, (0, 0, 23, [])), (9, (0, 0, 23, [])), (10, (2, 0, 0, [46])), (11, (0, 1, 24, [])), (12, (0, 1, 24, []))], [(6, [12, 7], [1]), (6, [11, 6], [1]), (20, [7, 4], [50, 0, 0, 0, 2, 1, 0, 1, 1]), (24, [0, 3], []), (24, [1, 4], []), (24, [2, 5], []), (100, [10, 6, 7], []), (9, [10, 3], [13]), (7, [9, 5], [0]), (10, [9, 8, 7], []), (9, [8, 3], [11]), (7, [7, 4], [2]), (20, [3, 5, 7, 6], [60, 0, 2, 569, 11, 13]), (20, [7, 4], [50, 0, 0, 0, 2, 1, 0, 1, 1])], [], [], [(20, [3, 5, 12, 11], [60, 0, 2, 569, 11, 13]), (20, [12, 4], [50, 0, 0, 0, 2, 1, 0, 1, 1])], [], [(12, 7, 1, 1), (12, 4, -4294967296, 0), (12, 1, -4294967296, 1), (12, 4, -4294967296, 1), (11, 6, 1, 1), (11, 1, -4294967296, 2), (11, 4, -4294967296, 1), (11, 7, -4294967296, 1), (9, 5, 0, 0), (7, 4, -4294967296, -1), (1, 4, -4294967296, 0), (2, 5, -4294967296, 0), (4, 1, -4294967296, 0), (5, 2, -4294967296, 0), (6, 1, -4294967296, 1), (6, 4, -4294967296, 0), (6, 7, -4294967296, 0), (7, 1, -4294967296, 0), (7, 4, -4294967296, 0)])
theorem oo_Fa_gather_3 {kA : Nat → ClassId} : or_ok PRD kA GG o_Fa_gather_3 := by
  refine or_mk fun A ta ws vs hD hth hl => ?_
  intro t0 r0 t1 k1 t2 k2 t4 k4 t5 k5 t6 k6 t7 k7 t9 k9 t10 r10 t11 k11 t12 k12 d0 d1 d2 d3 d4 d5 d6 d7 d8 d9 d10 d11 d12 d13 d14 d15 d16 d17 d18 f0 f1 f2 f3 f4 f5 ta1 w1 le1 s1 f7 f8 f9 f10 f11 f12 f13
  replace f0 := shm_4 f0
  replace f1 := shm_4 f1
  replace f2 := shm_360 f2
  replace f3 := shm_5 f3
  replace f4 := shm_5 f4
  replace f5 := shm_5 f5
  have s1 : (∀ b j, w_el ws b j = if b = v_ad (n_v vs 10) ∧ j = (v_iv (n_v vs 6)).toNat then v_iv (n_v vs 7) else w_el w1 b j) ∧ ∀ b k, w_fd ws b k = w_fd w1 b k := s1.2
  replace f7 := shm_361 f7
  replace f8 := shm_37 f8
  replace f9 := shm_107 f9
  replace f10 := shm_116 f10
  replace f11 := shm_6 f11
  replace f12 := shm_359 f12
  replace f13 := shm_360 f13
  have q3 : n_v vs 3 = n_v vs 0 := f3.symm
  have q4 : n_v vs 4 = n_v vs 1 := f4.symm
  have q5 : n_v vs 5 = n_v vs 2 := f5.symm
  simp only [q4, q3, q5] at f2 f7 f8 f10 f11 f12 f13
  have ar_0_11_1 : w_ar w1 (n_v vs 0) 11 = w_ar ws (n_v vs 0) 11 := congrArg v_ad (s1.2 _ _).symm
  have cr_0_11 := fdq_63 hD hth r0
  have ar_0_13_1 : w_ar w1 (n_v vs 0) 13 = w_ar ws (n_v vs 0) 13 := congrArg v_ad (s1.2 _ _).symm
  have cr_0_13 := fdq_64 hD hth r0
  have ad_10 : v_ad (n_v vs 10) = w_ar ws (n_v vs 0) 13 := (congrArg v_ad f7).trans ar_0_13_1
  have ad_8 : v_ad (n_v vs 8) = w_ar ws (n_v vs 0) 11 := (congrArg v_ad f10).trans ar_0_11_1
  simp only [ad_8] at f9
  have h9 : v_iv (n_v vs 9) = w_ei w1 (w_ar ws (n_v vs 0) 11) (v_iv (n_v vs 7)) := f9
  simp only [ar_0_11_1, ar_0_13_1] at f12
  have hE_0_11_1 : ∀ j : Int, w_ei ws (w_ar ws (n_v vs 0) 11) j = w_ei w1 (w_ar ws (n_v vs 0) 11) j := el_kp s1.1 r10 cr_0_11 (by decide)
  have hK_0_11 := elq_23 hD hth cr_0_11
  have hE_0_13_1 : ∀ j : Int, 0 ≤ j → (j = v_iv (n_v vs 6) → w_ei ws (w_ar ws (n_v vs 0) 13) j = v_iv (n_v vs 7)) ∧ (j ≠ v_iv (n_v vs 6) → w_ei ws (w_ar ws (n_v vs 0) 13) j = w_ei w1 (w_ar ws (n_v vs 0) 13) j) := fun j hj => ⟨fun h => by unfold w_ei; rw [s1.1, if_pos ⟨ad_10.symm, by rw [h]⟩], fun h => by unfold w_ei; rw [s1.1, if_neg (fun e => h (by have := e.2; omega))]⟩
  have hK_0_13 := elq_24 hD hth cr_0_13
  have nf0 : fc_1 PRD (20, [3, 5, 12, 11], [60, 0, 2, 569, 11, 13]) ws (vs) := by
    refine ⟨nf_in hl rfl, sgq_359 ?_⟩
    · show MGI (w_ei ws (w_ar ws (n_v vs 3) 11)) (w_ei ws (w_ar ws (n_v vs 3) 13)) (v_iv (n_v vs 5)) (v_iv (n_v vs 12)) (v_iv (n_v vs 11))
      simp only [q3, q5]
      exact vc_Fa_gather_3_0 (v_iv (n_v vs 1)) (v_iv (n_v vs 2)) (v_iv (n_v vs 4)) (v_iv (n_v vs 5)) (v_iv (n_v vs 6)) (v_iv (n_v vs 7)) (v_iv (n_v vs 9)) (v_iv (n_v vs 11)) (v_iv (n_v vs 12)) (w_ei w1 (w_ar ws (n_v vs 0) 11)) (w_ei w1 (w_ar ws (n_v vs 0) 13)) (w_ei ws (w_ar ws (n_v vs 0) 11)) (w_ei ws (w_ar ws (n_v vs 0) 13)) k1 k2 k4 k5 k6 k7 k9 k11 k12 d0 d1 d2 d3 d4 d5 d6 d7 d8 d9 d10 d11 d12 d13 d14 d15 d16 d17 d18 f0 f1 f2 f8 h9 f11 f12 f13 hE_0_11_1 hK_0_11 hE_0_13_1 hK_0_13
  have nf1 : fc_1 PRD (20, [12, 4], [50, 0, 0, 0, 2, 1, 0, 1, 1]) ws (vs) := by
    refine ⟨nf_in hl rfl, sgq_360 ?_⟩
    · show v_iv (n_v vs 12) ≤ v_iv (n_v vs 4)
      rw [q4]
      exact vc_Fa_gather_3_1 (v_iv (n_v vs 1)) (v_iv (n_v vs 2)) (v_iv (n_v vs 4)) (v_iv (n_v vs 5)) (v_iv (n_v vs 6)) (v_iv (n_v vs 7)) (v_iv (n_v vs 9)) (v_iv (n_v vs 11)) (v_iv (n_v vs 12)) (w_ei w1 (w_ar ws (n_v vs 0) 11)) (w_ei w1 (w_ar ws (n_v vs 0) 13)) (w_ei ws (w_ar ws (n_v vs 0) 11)) (w_ei ws (w_ar ws (n_v vs 0) 13)) k1 k2 k4 k5 k6 k7 k9 k11 k12 d0 d1 d2 d3 d4 d5 d6 d7 d8 d9 d10 d11 d12 d13 d14 d15 d16 d17 d18 f0 f1 f2 f8 h9 f11 f12 f13 hE_0_11_1 hK_0_11 hE_0_13_1 hK_0_13
  refine ⟨(fun _ h => (by cases h)), [], trivial, ?_, (fun _ h => (by cases h))⟩
  rw [List.append_nil]
  exact List.forall_mem_cons.mpr ⟨⟨show (20 : Nat) < 100 from by decide, nf0⟩, List.forall_mem_cons.mpr ⟨⟨show (20 : Nat) < 100 from by decide, nf1⟩, (fun _ h => (by cases h))⟩⟩
def n_Fa_gather_an : List an_T := [(5, [(0, (2, 0, 0, [2])), (1, (0, 0, 24, [])), (2, (0, 0, 23, [])), (3, (0, 0, 24, [])), (4, (0, 0, 24, []))], [], (0, 0), [(0, 0, 99995), (1, 7, 24), (0, 0, 100000)], [(1, 4, (Int.negSucc 999999999999), 0), (2, 5, (Int.negSucc 999999999999), 0), (4, 1, (Int.negSucc 999999999999), 0), (5, 2, (Int.negSucc 999999999999), 0), (6, 1, (Int.negSucc 999999999999), 1), (6, 4, (Int.negSucc 999999999999), 0), (6, 7, (Int.negSucc 999999999999), 0), (7, 1, (Int.negSucc 999999999999), 0), (7, 4, (Int.negSucc 999999999999), 0)], [], [(2, 0, 0, [2]), (0, 0, 24, []), (0, 0, 23, [])], 0, [], [(20, [3, 5, 7, 6], [60, 0, 2, 569, 11, 13]), (20, [7, 4], [50, 0, 0, 0, 2, 1, 0, 1, 1]), (24, [0, 3], []), (24, [1, 4], []), (24, [2, 5], [])])]
def t_Fa_gather_ct : ct_L := []
set_option maxRecDepth 100000 in
theorem c_Fa_gather {l : Launch} {D : va_G} {kA : Nat → ClassId} : ct_ok PRD l D kA GG y_Fa_gather z_Fa_gather e_Fa_gather := chk_all_ok (FT := [(48, 2, 11), (54, 2, 13)]) (PT := []) (CT := t_Fa_gather_ct) (KT := []) (NT := []) (AN := n_Fa_gather_an) (OT := [o_Fa_gather_0, o_Fa_gather_1, o_Fa_gather_2, o_Fa_gather_3]) 3 200 (List.forall_mem_cons.mpr ⟨oo_Fa_gather_0, List.forall_mem_cons.mpr ⟨oo_Fa_gather_1, List.forall_mem_cons.mpr ⟨oo_Fa_gather_2, List.forall_mem_cons.mpr ⟨oo_Fa_gather_3, List.forall_mem_nil _⟩⟩⟩⟩) (by decide +kernel) ⟨List.forall_mem_cons.mpr ⟨gf_Fa_48, List.forall_mem_cons.mpr ⟨gf_Fa_54, List.forall_mem_nil _⟩⟩, List.forall_mem_nil _, List.forall_mem_nil _, List.forall_mem_nil _, List.forall_mem_nil _, GG_pl⟩ (by decide +kernel)
set_option maxHeartbeats 4000000 in
theorem vc_Fa_nearOf_at_Grnear_0_0 (x1 : Int) (x2 : Int) (x3 : Int) (x4 : Int) (a0_0 : Int → Int) (k1 : 1 ≤ x1 ∧ x1 ≤ 24) (k2 : 0 ≤ x2 ∧ x2 ≤ 16777215) (k3 : 0 ≤ x3 ∧ x3 ≤ 0) (k4 : 0 ≤ x4 ∧ x4 ≤ 0) (hK_0_999 : ∀ j : Int, 0 ≤ j → j < 24 → 0 ≤ a0_0 j ∧ a0_0 j ≤ 16777215) : NEI (a0_0) (x4) (x2) (x3) := by
  first
    | exact nei_start (by omega) (by omega)
    | exact nei_skip ‹NEI _ _ _ _› (fun z => by have := (bit_one (by assumption) (by assumption) (by omega) (by omega) (by omega) (by omega)).mp z; omega) (by omega)
    | exact nei_step ‹NEI _ _ _ _› (by omega) ((bit_one (by assumption) (by assumption) (by omega) (by omega) (by omega) (by omega)).mpr (by omega)) (by assumption) (by assumption) (by omega)
  
set_option maxHeartbeats 4000000 in
theorem vc_Fa_nearOf_at_Grnear_0_1 (x1 : Int) (x2 : Int) (x3 : Int) (x4 : Int) (a0_0 : Int → Int) (k1 : 1 ≤ x1 ∧ x1 ≤ 24) (k2 : 0 ≤ x2 ∧ x2 ≤ 16777215) (k3 : 0 ≤ x3 ∧ x3 ≤ 0) (k4 : 0 ≤ x4 ∧ x4 ≤ 0) (hK_0_999 : ∀ j : Int, 0 ≤ j → j < 24 → 0 ≤ a0_0 j ∧ a0_0 j ≤ 16777215) : 1 * x4 + ((-1) * x1 + 0) ≤ 0 := by
  first | omega
def o_Fa_nearOf_at_Grnear_0 : or_T := (5, 5, [(0, (2, 0, 0, [59])), (1, (0, 1, 24, [])), (2, (0, 0, 16777215, [])), (3, (0, 0, 0, [])), (4, (0, 0, 0, []))], [], [], [], [(20, [0, 4, 2, 3], [61, 1, 556]), (23, [4, 1], [0, 1, -1]), (24, [0, 0], []), (24, [1, 1], []), (24, [2, 2], [])], [], [])
theorem oo_Fa_nearOf_at_Grnear_0 {kA : Nat → ClassId} : or_ok PRD kA GG o_Fa_nearOf_at_Grnear_0 := by
  refine or_mk fun A ta ws vs hD hth hl => ?_
  intro t0 r0 t1 k1 t2 k2 t3 k3 t4 k4
  have cr_0_999 : ta (v_ad (n_v vs 0)) = some 59 := r0
  have hK_0_999 := elq_25 hD hth cr_0_999
  have nf0 : fc_1 PRD (20, [0, 4, 2, 3], [61, 1, 556]) ws (vs) := ⟨nf_in hl rfl, sgq_362 (vc_Fa_nearOf_at_Grnear_0_0 (v_iv (n_v vs 1)) (v_iv (n_v vs 2)) (v_iv (n_v vs 3)) (v_iv (n_v vs 4)) (w_ei ws (v_ad (n_v vs 0))) k1 k2 k3 k4 hK_0_999)⟩
  have nf1 : fc_1 PRD (23, [4, 1], [0, 1, -1]) ws (vs) := ⟨nf_in hl rfl, sgq_7 (vc_Fa_nearOf_at_Grnear_0_1 (v_iv (n_v vs 1)) (v_iv (n_v vs 2)) (v_iv (n_v vs 3)) (v_iv (n_v vs 4)) (w_ei ws (v_ad (n_v vs 0))) k1 k2 k3 k4 hK_0_999)⟩
  have nf2 : fc_1 PRD (24, [0, 0], []) ws (vs) := by
    refine ⟨nf_in hl rfl, sgq_1 ?_⟩
    · show n_v vs 0 = n_v vs 0
      first | rfl | simp only [true_and]
  have nf3 : fc_1 PRD (24, [1, 1], []) ws (vs) := by
    refine ⟨nf_in hl rfl, sgq_1 ?_⟩
    · show n_v vs 1 = n_v vs 1
      first | rfl | simp only [true_and]
  have nf4 : fc_1 PRD (24, [2, 2], []) ws (vs) := by
    refine ⟨nf_in hl rfl, sgq_1 ?_⟩
    · show n_v vs 2 = n_v vs 2
      first | rfl | simp only [true_and]
  refine ⟨(fun _ h => (by cases h)), [], trivial, ?_, (fun _ h => (by cases h))⟩
  rw [List.append_nil]
  exact List.forall_mem_cons.mpr ⟨⟨show (20 : Nat) < 100 from by decide, nf0⟩, List.forall_mem_cons.mpr ⟨⟨show (23 : Nat) < 100 from by decide, nf1⟩, List.forall_mem_cons.mpr ⟨⟨show (24 : Nat) < 100 from by decide, nf2⟩, List.forall_mem_cons.mpr ⟨⟨show (24 : Nat) < 100 from by decide, nf3⟩, List.forall_mem_cons.mpr ⟨⟨show (24 : Nat) < 100 from by decide, nf4⟩, (fun _ h => (by cases h))⟩⟩⟩⟩⟩
set_option maxHeartbeats 4000000 in
theorem vc_Fa_nearOf_at_Grnear_1_0 (x1 : Int) (x2 : Int) (x4 : Int) (x5 : Int) (x6 : Int) (x7 : Int) (a0_0 : Int → Int) (k1 : 1 ≤ x1 ∧ x1 ≤ 24) (k2 : 0 ≤ x2 ∧ x2 ≤ 16777215) (k4 : 1 ≤ x4 ∧ x4 ≤ 24) (k5 : 0 ≤ x5 ∧ x5 ≤ 16777215) (k6 : 0 ≤ x6 ∧ x6 ≤ 16777215) (k7 : 1 ≤ x7 ∧ x7 ≤ 24) (d0 : x4 + 0 ≤ x7 ∧ x7 ≤ x4 + 4294967296) (d1 : x4 + (-4294967296) ≤ x1 ∧ x1 ≤ x4 + 0) (d2 : x5 + (-4294967296) ≤ x2 ∧ x2 ≤ x5 + 0) (d3 : x1 + (-4294967296) ≤ x4 ∧ x4 ≤ x1 + 0) (d4 : x2 + (-4294967296) ≤ x5 ∧ x5 ≤ x2 + 0) (d5 : x1 + (-4294967296) ≤ x7 ∧ x7 ≤ x1 + 0) (d6 : x4 + (-4294967296) ≤ x7 ∧ x7 ≤ x4 + 0) (f0 : x1 ≤ x7) (f1 : NEI (a0_0) (x7) (x2) (x6)) (f2 : 1 * x7 + ((-1) * x1 + 0) ≤ 0) (hK_0_999 : ∀ j : Int, 0 ≤ j → j < 24 → 0 ≤ a0_0 j ∧ a0_0 j ≤ 16777215) : NEF (a0_0) (x1) (x2) (x6) := by
  first
    | (rw [show x1 = x7 by omega]; assumption)
  
def o_Fa_nearOf_at_Grnear_1 : or_T := (34, 8, [(0, (2, 0, 0, [59])), (1, (0, 1, 24, [])), (2, (0, 0, 16777215, [])), (4, (0, 1, 24, [])), (5, (0, 0, 16777215, [])), (6, (0, 0, 16777215, [])), (7, (0, 1, 24, []))], [(7, [7, 4], [3]), (20, [3, 7, 5, 6], [61, 1, 556]), (23, [7, 4], [0, 1, -1]), (24, [0, 3], []), (24, [1, 4], []), (24, [2, 5], [])], [], [], [(20, [0, 1, 2, 6], [61, 1, 557])], [], [(7, 4, 0, 4294967296), (1, 4, -4294967296, 0), (2, 5, -4294967296, 0), (4, 1, -4294967296, 0), (5, 2, -4294967296, 0), (7, 1, -4294967296, 0), (7, 4, -4294967296, 0)])
theorem oo_Fa_nearOf_at_Grnear_1 {kA : Nat → ClassId} : or_ok PRD kA GG o_Fa_nearOf_at_Grnear_1 := by
  refine or_mk fun A ta ws vs hD hth hl => ?_
  intro t0 r0 t1 k1 t2 k2 t4 k4 t5 k5 t6 k6 t7 k7 d0 d1 d2 d3 d4 d5 d6 f0 f1 f2 f3 f4 f5
  replace f0 := shm_2 f0
  replace f1 := shm_362 f1
  replace f2 := shm_7 f2
  replace f3 := shm_5 f3
  replace f4 := shm_5 f4
  replace f5 := shm_5 f5
  have q3 : n_v vs 3 = n_v vs 0 := f3.symm
  have q4 : n_v vs 4 = n_v vs 1 := f4.symm
  have q5 : n_v vs 5 = n_v vs 2 := f5.symm
  simp only [q4, q3, q5] at f0 f1 f2
  have cr_0_999 : ta (v_ad (n_v vs 0)) = some 59 := r0
  have hK_0_999 := elq_25 hD hth cr_0_999
  have nf0 : fc_1 PRD (20, [0, 1, 2, 6], [61, 1, 557]) ws (vs) := ⟨nf_in hl rfl, sgq_363 (vc_Fa_nearOf_at_Grnear_1_0 (v_iv (n_v vs 1)) (v_iv (n_v vs 2)) (v_iv (n_v vs 4)) (v_iv (n_v vs 5)) (v_iv (n_v vs 6)) (v_iv (n_v vs 7)) (w_ei ws (v_ad (n_v vs 0))) k1 k2 k4 k5 k6 k7 d0 d1 d2 d3 d4 d5 d6 f0 f1 f2 hK_0_999)⟩
  refine ⟨(fun _ h => (by cases h)), [], trivial, ?_, (fun _ h => (by cases h))⟩
  rw [List.append_nil]
  exact List.forall_mem_cons.mpr ⟨⟨show (20 : Nat) < 100 from by decide, nf0⟩, (fun _ h => (by cases h))⟩
set_option maxHeartbeats 4000000 in
theorem vc_Fa_nearOf_at_Grnear_2_0 (x1 : Int) (x2 : Int) (x4 : Int) (x5 : Int) (x6 : Int) (x7 : Int) (x8 : Int) (x9 : Int) (x10 : Int) (x11 : Int) (a0_0 : Int → Int) (k1 : 1 ≤ x1 ∧ x1 ≤ 24) (k2 : 0 ≤ x2 ∧ x2 ≤ 16777215) (k4 : 1 ≤ x4 ∧ x4 ≤ 24) (k5 : 0 ≤ x5 ∧ x5 ≤ 16777215) (k6 : 0 ≤ x6 ∧ x6 ≤ 16777215) (k7 : 0 ≤ x7 ∧ x7 ≤ 23) (k8 : 0 ≤ x8 ∧ x8 ≤ 16777215) (k9 : 1 ≤ x9 ∧ x9 ≤ 1) (k10 : 0 ≤ x10 ∧ x10 ≤ 0) (k11 : 1 ≤ x11 ∧ x11 ≤ 24) (d0 : x7 + 1 ≤ x11 ∧ x11 ≤ x7 + 1) (d1 : x4 + (-4294967296) ≤ x11 ∧ x11 ≤ x4 + 0) (d2 : x1 + (-4294967296) ≤ x11 ∧ x11 ≤ x1 + 1) (d3 : x4 + (-4294967296) ≤ x11 ∧ x11 ≤ x4 + 1) (d4 : x4 + (-4294967296) ≤ x7 ∧ x7 ≤ x4 + (-1)) (d5 : x4 + (-4294967296) ≤ x1 ∧ x1 ≤ x4 + 0) (d6 : x5 + (-4294967296) ≤ x2 ∧ x2 ≤ x5 + 0) (d7 : x1 + (-4294967296) ≤ x4 ∧ x4 ≤ x1 + 0) (d8 : x2 + (-4294967296) ≤ x5 ∧ x5 ≤ x2 + 0) (d9 : x7 + (-4294967296) ≤ x6 ∧ x6 ≤ x7 + 16777214) (d10 : x1 + (-4294967296) ≤ x7 ∧ x7 ≤ x1 + 0) (d11 : x4 + (-4294967296) ≤ x7 ∧ x7 ≤ x4 + 0) (f0 : x11 = x7 + 1) (f1 : x10 = 0) (f2 : x10 = x8 % 2) (f3 : bvp (x10) = bvp (x8) &&& bvp (x9)) (f4 : bvp (x8) = bvp (x2) >>> (x7).toNat) (f5 : x7 < x1) (f6 : NEI (a0_0) (x7) (x2) (x6)) (f7 : 1 * x7 + ((-1) * x1 + 0) ≤ 0) (hK_0_999 : ∀ j : Int, 0 ≤ j → j < 24 → 0 ≤ a0_0 j ∧ a0_0 j ≤ 16777215) : NEI (a0_0) (x11) (x2) (x6) := by
  first
    | exact nei_start (by omega) (by omega)
    | exact nei_skip ‹NEI _ _ _ _› (fun z => by have := (bit_one (by assumption) (by assumption) (by omega) (by omega) (by omega) (by omega)).mp z; omega) (by omega)
    | exact nei_step ‹NEI _ _ _ _› (by omega) ((bit_one (by assumption) (by assumption) (by omega) (by omega) (by omega) (by omega)).mpr (by omega)) (by assumption) (by assumption) (by omega)
  
set_option maxHeartbeats 4000000 in
theorem vc_Fa_nearOf_at_Grnear_2_1 (x1 : Int) (x2 : Int) (x4 : Int) (x5 : Int) (x6 : Int) (x7 : Int) (x8 : Int) (x9 : Int) (x10 : Int) (x11 : Int) (a0_0 : Int → Int) (k1 : 1 ≤ x1 ∧ x1 ≤ 24) (k2 : 0 ≤ x2 ∧ x2 ≤ 16777215) (k4 : 1 ≤ x4 ∧ x4 ≤ 24) (k5 : 0 ≤ x5 ∧ x5 ≤ 16777215) (k6 : 0 ≤ x6 ∧ x6 ≤ 16777215) (k7 : 0 ≤ x7 ∧ x7 ≤ 23) (k8 : 0 ≤ x8 ∧ x8 ≤ 16777215) (k9 : 1 ≤ x9 ∧ x9 ≤ 1) (k10 : 0 ≤ x10 ∧ x10 ≤ 0) (k11 : 1 ≤ x11 ∧ x11 ≤ 24) (d0 : x7 + 1 ≤ x11 ∧ x11 ≤ x7 + 1) (d1 : x4 + (-4294967296) ≤ x11 ∧ x11 ≤ x4 + 0) (d2 : x1 + (-4294967296) ≤ x11 ∧ x11 ≤ x1 + 1) (d3 : x4 + (-4294967296) ≤ x11 ∧ x11 ≤ x4 + 1) (d4 : x4 + (-4294967296) ≤ x7 ∧ x7 ≤ x4 + (-1)) (d5 : x4 + (-4294967296) ≤ x1 ∧ x1 ≤ x4 + 0) (d6 : x5 + (-4294967296) ≤ x2 ∧ x2 ≤ x5 + 0) (d7 : x1 + (-4294967296) ≤ x4 ∧ x4 ≤ x1 + 0) (d8 : x2 + (-4294967296) ≤ x5 ∧ x5 ≤ x2 + 0) (d9 : x7 + (-4294967296) ≤ x6 ∧ x6 ≤ x7 + 16777214) (d10 : x1 + (-4294967296) ≤ x7 ∧ x7 ≤ x1 + 0) (d11 : x4 + (-4294967296) ≤ x7 ∧ x7 ≤ x4 + 0) (f0 : x11 = x7 + 1) (f1 : x10 = 0) (f2 : x10 = x8 % 2) (f3 : bvp (x10) = bvp (x8) &&& bvp (x9)) (f4 : bvp (x8) = bvp (x2) >>> (x7).toNat) (f5 : x7 < x1) (f6 : NEI (a0_0) (x7) (x2) (x6)) (f7 : 1 * x7 + ((-1) * x1 + 0) ≤ 0) (hK_0_999 : ∀ j : Int, 0 ≤ j → j < 24 → 0 ≤ a0_0 j ∧ a0_0 j ≤ 16777215) : 1 * x11 + ((-1) * x1 + 0) ≤ 0 := by
  first | omega
def o_Fa_nearOf_at_Grnear_2 : or_T := (5, 12, [(0, (2, 0, 0, [59])), (1, (0, 1, 24, [])), (2, (0, 0, 16777215, [])), (4, (0, 1, 24, [])), (5, (0, 0, 16777215, [])), (6, (0, 0, 16777215, [])), (7, (0, 0, 23, [])), (8, (0, 0, 16777215, [])), (9, (0, 1, 1, [])), (10, (0, 0, 0, [])), (11, (0, 1, 24, []))], [(6, [11, 7], [1]), (8, [10], [0]), (12, [10, 8], [2]), (16, [10, 8, 9], [0]), (16, [8, 5, 7], [4]), (7, [7, 4], [2]), (20, [3, 7, 5, 6], [61, 1, 556]), (23, [7, 4], [0, 1, -1]), (24, [0, 3], []), (24, [1, 4], []), (24, [2, 5], [])], [], [], [(20, [3, 11, 5, 6], [61, 1, 556]), (23, [11, 4], [0, 1, -1])], [], [(11, 7, 1, 1), (11, 4, -4294967296, 0), (11, 1, -4294967296, 1), (11, 4, -4294967296, 1), (7, 4, -4294967296, -1), (1, 4, -4294967296, 0), (2, 5, -4294967296, 0), (4, 1, -4294967296, 0), (5, 2, -4294967296, 0), (6, 7, -4294967296, 16777214), (7, 1, -4294967296, 0), (7, 4, -4294967296, 0)])
theorem oo_Fa_nearOf_at_Grnear_2 {kA : Nat → ClassId} : or_ok PRD kA GG o_Fa_nearOf_at_Grnear_2 := by
  refine or_mk fun A ta ws vs hD hth hl => ?_
  intro t0 r0 t1 k1 t2 k2 t4 k4 t5 k5 t6 k6 t7 k7 t8 k8 t9 k9 t10 k10 t11 k11 d0 d1 d2 d3 d4 d5 d6 d7 d8 d9 d10 d11 f0 f1 f2 f3 f4 f5 f6 f7 f8 f9 f10
  replace f0 := shm_4 f0
  replace f1 := shm_192 f1
  replace f2 := shm_364 f2
  replace f3 := shm_11 f3
  replace f4 := shm_13 f4
  replace f5 := shm_6 f5
  replace f6 := shm_362 f6
  replace f7 := shm_7 f7
  replace f8 := shm_5 f8
  replace f9 := shm_5 f9
  replace f10 := shm_5 f10
  have q3 : n_v vs 3 = n_v vs 0 := f8.symm
  have q4 : n_v vs 4 = n_v vs 1 := f9.symm
  have q5 : n_v vs 5 = n_v vs 2 := f10.symm
  simp only [q5, q4, q3] at f4 f5 f6 f7
  have cr_0_999 : ta (v_ad (n_v vs 0)) = some 59 := r0
  have hK_0_999 := elq_25 hD hth cr_0_999
  have nf0 : fc_1 PRD (20, [3, 11, 5, 6], [61, 1, 556]) ws (vs) := by
    refine ⟨nf_in hl rfl, sgq_362 ?_⟩
    · show NEI (w_ei ws (v_ad (n_v vs 3))) (v_iv (n_v vs 11)) (v_iv (n_v vs 5)) (v_iv (n_v vs 6))
      simp only [q3, q5]
      exact vc_Fa_nearOf_at_Grnear_2_0 (v_iv (n_v vs 1)) (v_iv (n_v vs 2)) (v_iv (n_v vs 4)) (v_iv (n_v vs 5)) (v_iv (n_v vs 6)) (v_iv (n_v vs 7)) (v_iv (n_v vs 8)) (v_iv (n_v vs 9)) (v_iv (n_v vs 10)) (v_iv (n_v vs 11)) (w_ei ws (v_ad (n_v vs 0))) k1 k2 k4 k5 k6 k7 k8 k9 k10 k11 d0 d1 d2 d3 d4 d5 d6 d7 d8 d9 d10 d11 f0 f1 f2 f3 f4 f5 f6 f7 hK_0_999
  have nf1 : fc_1 PRD (23, [11, 4], [0, 1, -1]) ws (vs) := by
    refine ⟨nf_in hl rfl, sgq_7 ?_⟩
    · show 1 * v_iv (n_v vs 11) + ((-1) * v_iv (n_v vs 4) + 0) ≤ 0
      rw [q4]
      exact vc_Fa_nearOf_at_Grnear_2_1 (v_iv (n_v vs 1)) (v_iv (n_v vs 2)) (v_iv (n_v vs 4)) (v_iv (n_v vs 5)) (v_iv (n_v vs 6)) (v_iv (n_v vs 7)) (v_iv (n_v vs 8)) (v_iv (n_v vs 9)) (v_iv (n_v vs 10)) (v_iv (n_v vs 11)) (w_ei ws (v_ad (n_v vs 0))) k1 k2 k4 k5 k6 k7 k8 k9 k10 k11 d0 d1 d2 d3 d4 d5 d6 d7 d8 d9 d10 d11 f0 f1 f2 f3 f4 f5 f6 f7 hK_0_999
  refine ⟨(fun _ h => (by cases h)), [], trivial, ?_, (fun _ h => (by cases h))⟩
  rw [List.append_nil]
  exact List.forall_mem_cons.mpr ⟨⟨show (20 : Nat) < 100 from by decide, nf0⟩, List.forall_mem_cons.mpr ⟨⟨show (23 : Nat) < 100 from by decide, nf1⟩, (fun _ h => (by cases h))⟩⟩
set_option maxHeartbeats 4000000 in
theorem vc_Fa_nearOf_at_Grnear_3_0 (x1 : Int) (x2 : Int) (x4 : Int) (x5 : Int) (x6 : Int) (x7 : Int) (x8 : Int) (x9 : Int) (x10 : Int) (x11 : Int) (x12 : Int) (x13 : Int) (a0_0 : Int → Int) (k1 : 1 ≤ x1 ∧ x1 ≤ 24) (k2 : 0 ≤ x2 ∧ x2 ≤ 16777215) (k4 : 1 ≤ x4 ∧ x4 ≤ 24) (k5 : 0 ≤ x5 ∧ x5 ≤ 16777215) (k6 : 0 ≤ x6 ∧ x6 ≤ 16777215) (k7 : 0 ≤ x7 ∧ x7 ≤ 23) (k8 : 0 ≤ x8 ∧ x8 ≤ 16777215) (k9 : 1 ≤ x9 ∧ x9 ≤ 1) (k10 : 1 ≤ x10 ∧ x10 ≤ 1) (k11 : 0 ≤ x11 ∧ x11 ≤ 16777215) (k12 : 0 ≤ x12 ∧ x12 ≤ 16777215) (k13 : 1 ≤ x13 ∧ x13 ≤ 24) (d0 : x7 + 1 ≤ x13 ∧ x13 ≤ x7 + 1) (d1 : x4 + (-4294967296) ≤ x13 ∧ x13 ≤ x4 + 0) (d2 : x1 + (-4294967296) ≤ x13 ∧ x13 ≤ x1 + 1) (d3 : x4 + (-4294967296) ≤ x13 ∧ x13 ≤ x4 + 1) (d4 : x4 + (-4294967296) ≤ x7 ∧ x7 ≤ x4 + (-1)) (d5 : x4 + (-4294967296) ≤ x1 ∧ x1 ≤ x4 + 0) (d6 : x5 + (-4294967296) ≤ x2 ∧ x2 ≤ x5 + 0) (d7 : x1 + (-4294967296) ≤ x4 ∧ x4 ≤ x1 + 0) (d8 : x2 + (-4294967296) ≤ x5 ∧ x5 ≤ x2 + 0) (d9 : x7 + (-4294967296) ≤ x6 ∧ x6 ≤ x7 + 16777214) (d10 : x1 + (-4294967296) ≤ x7 ∧ x7 ≤ x1 + 0) (d11 : x4 + (-4294967296) ≤ x7 ∧ x7 ≤ x4 + 0) (f0 : x13 = x7 + 1) (f1 : x12 ≤ x6 + x11 ∧ x6 ≤ x12 ∧ x11 ≤ x12) (f2 : bvp (x12) = bvp (x6) ||| bvp (x11)) (h3 : x11 = a0_0 (x7)) (f4 : x10 ≠ 0) (f5 : x10 = x8 % 2) (f6 : bvp (x10) = bvp (x8) &&& bvp (x9)) (f7 : bvp (x8) = bvp (x2) >>> (x7).toNat) (f8 : x7 < x1) (f9 : NEI (a0_0) (x7) (x2) (x6)) (f10 : 1 * x7 + ((-1) * x1 + 0) ≤ 0) (hK_0_999 : ∀ j : Int, 0 ≤ j → j < 24 → 0 ≤ a0_0 j ∧ a0_0 j ≤ 16777215) : NEI (a0_0) (x13) (x2) (x12) := by
  first
    | exact nei_start (by omega) (by omega)
    | exact nei_skip ‹NEI _ _ _ _› (fun z => by have := (bit_one (by assumption) (by assumption) (by omega) (by omega) (by omega) (by omega)).mp z; omega) (by omega)
    | exact nei_step ‹NEI _ _ _ _› (by omega) ((bit_one (by assumption) (by assumption) (by omega) (by omega) (by omega) (by omega)).mpr (by omega)) (by assumption) (by assumption) (by omega)
  
set_option maxHeartbeats 4000000 in
theorem vc_Fa_nearOf_at_Grnear_3_1 (x1 : Int) (x2 : Int) (x4 : Int) (x5 : Int) (x6 : Int) (x7 : Int) (x8 : Int) (x9 : Int) (x10 : Int) (x11 : Int) (x12 : Int) (x13 : Int) (a0_0 : Int → Int) (k1 : 1 ≤ x1 ∧ x1 ≤ 24) (k2 : 0 ≤ x2 ∧ x2 ≤ 16777215) (k4 : 1 ≤ x4 ∧ x4 ≤ 24) (k5 : 0 ≤ x5 ∧ x5 ≤ 16777215) (k6 : 0 ≤ x6 ∧ x6 ≤ 16777215) (k7 : 0 ≤ x7 ∧ x7 ≤ 23) (k8 : 0 ≤ x8 ∧ x8 ≤ 16777215) (k9 : 1 ≤ x9 ∧ x9 ≤ 1) (k10 : 1 ≤ x10 ∧ x10 ≤ 1) (k11 : 0 ≤ x11 ∧ x11 ≤ 16777215) (k12 : 0 ≤ x12 ∧ x12 ≤ 16777215) (k13 : 1 ≤ x13 ∧ x13 ≤ 24) (d0 : x7 + 1 ≤ x13 ∧ x13 ≤ x7 + 1) (d1 : x4 + (-4294967296) ≤ x13 ∧ x13 ≤ x4 + 0) (d2 : x1 + (-4294967296) ≤ x13 ∧ x13 ≤ x1 + 1) (d3 : x4 + (-4294967296) ≤ x13 ∧ x13 ≤ x4 + 1) (d4 : x4 + (-4294967296) ≤ x7 ∧ x7 ≤ x4 + (-1)) (d5 : x4 + (-4294967296) ≤ x1 ∧ x1 ≤ x4 + 0) (d6 : x5 + (-4294967296) ≤ x2 ∧ x2 ≤ x5 + 0) (d7 : x1 + (-4294967296) ≤ x4 ∧ x4 ≤ x1 + 0) (d8 : x2 + (-4294967296) ≤ x5 ∧ x5 ≤ x2 + 0) (d9 : x7 + (-4294967296) ≤ x6 ∧ x6 ≤ x7 + 16777214) (d10 : x1 + (-4294967296) ≤ x7 ∧ x7 ≤ x1 + 0) (d11 : x4 + (-4294967296) ≤ x7 ∧ x7 ≤ x4 + 0) (f0 : x13 = x7 + 1) (f1 : x12 ≤ x6 + x11 ∧ x6 ≤ x12 ∧ x11 ≤ x12) (f2 : bvp (x12) = bvp (x6) ||| bvp (x11)) (h3 : x11 = a0_0 (x7)) (f4 : x10 ≠ 0) (f5 : x10 = x8 % 2) (f6 : bvp (x10) = bvp (x8) &&& bvp (x9)) (f7 : bvp (x8) = bvp (x2) >>> (x7).toNat) (f8 : x7 < x1) (f9 : NEI (a0_0) (x7) (x2) (x6)) (f10 : 1 * x7 + ((-1) * x1 + 0) ≤ 0) (hK_0_999 : ∀ j : Int, 0 ≤ j → j < 24 → 0 ≤ a0_0 j ∧ a0_0 j ≤ 16777215) : 1 * x13 + ((-1) * x1 + 0) ≤ 0 := by
  first | omega
def o_Fa_nearOf_at_Grnear_3 : or_T := (5, 14, [(0, (2, 0, 0, [59])), (1, (0, 1, 24, [])), (2, (0, 0, 16777215, [])), (4, (0, 1, 24, [])), (5, (0, 0, 16777215, [])), (6, (0, 0, 16777215, [])), (7, (0, 0, 23, [])), (8, (0, 0, 16777215, [])), (9, (0, 1, 1, [])), (10, (0, 1, 1, [])), (11, (0, 0, 16777215, [])), (12, (0, 0, 16777215, [])), (13, (0, 1, 24, []))], [(6, [13, 7], [1]), (13, [12, 6, 11], []), (16, [12, 6, 11], [1]), (10, [11, 3, 7], []), (8, [10], [1]), (12, [10, 8], [2]), (16, [10, 8, 9], [0]), (16, [8, 5, 7], [4]), (7, [7, 4], [2]), (20, [3, 7, 5, 6], [61, 1, 556]), (23, [7, 4], [0, 1, -1]), (24, [0, 3], []), (24, [1, 4], []), (24, [2, 5], [])], [], [], [(20, [3, 13, 5, 12], [61, 1, 556]), (23, [13, 4], [0, 1, -1])], [], [(13, 7, 1, 1), (13, 4, -4294967296, 0), (13, 1, -4294967296, 1), (13, 4, -4294967296, 1), (7, 4, -4294967296, -1), (1, 4, -4294967296, 0), (2, 5, -4294967296, 0), (4, 1, -4294967296, 0), (5, 2, -4294967296, 0), (6, 7, -4294967296, 16777214), (7, 1, -4294967296, 0), (7, 4, -4294967296, 0)])
theorem oo_Fa_nearOf_at_Grnear_3 {kA : Nat → ClassId} : or_ok PRD kA GG o_Fa_nearOf_at_Grnear_3 := by
  refine or_mk fun A ta ws vs hD hth hl => ?_
  intro t0 r0 t1 k1 t2 k2 t4 k4 t5 k5 t6 k6 t7 k7 t8 k8 t9 k9 t10 k10 t11 k11 t12 k12 t13 k13 d0 d1 d2 d3 d4 d5 d6 d7 d8 d9 d10 d11 f0 f1 f2 f3 f4 f5 f6 f7 f8 f9 f10 f11 f12 f13
  replace f0 := shm_4 f0
  have f1 : v_iv (n_v vs 12) ≤ v_iv (n_v vs 6) + v_iv (n_v vs 11) ∧ v_iv (n_v vs 6) ≤ v_iv (n_v vs 12) ∧ v_iv (n_v vs 11) ≤ v_iv (n_v vs 12) := (fun (h : v_iv (n_v vs 12) ≤ v_iv (n_v vs 6) + v_iv (n_v vs 11) ∧ v_iv (n_v vs 6) ≤ v_iv (n_v vs 12) ∧ v_iv (n_v vs 11) ≤ v_iv (n_v vs 12) ∧ (v_iv (n_v vs 12)).toNat = (v_iv (n_v vs 6)).toNat ||| (v_iv (n_v vs 11)).toNat) => ⟨h.1, h.2.1, h.2.2.1⟩) f1
  replace f2 := shm_354 f2
  replace f3 := shm_107 f3
  replace f4 := shm_142 f4
  replace f5 := shm_364 f5
  replace f6 := shm_11 f6
  replace f7 := shm_13 f7
  replace f8 := shm_6 f8
  replace f9 := shm_362 f9
  replace f10 := shm_7 f10
  replace f11 := shm_5 f11
  replace f12 := shm_5 f12
  replace f13 := shm_5 f13
  have q3 : n_v vs 3 = n_v vs 0 := f11.symm
  have q4 : n_v vs 4 = n_v vs 1 := f12.symm
  have q5 : n_v vs 5 = n_v vs 2 := f13.symm
  simp only [q3, q5, q4] at f3 f7 f8 f9 f10
  have cr_0_999 : ta (v_ad (n_v vs 0)) = some 59 := r0
  have h3 : v_iv (n_v vs 11) = w_ei ws (v_ad (n_v vs 0)) (v_iv (n_v vs 7)) := f3
  have hK_0_999 := elq_25 hD hth cr_0_999
  have nf0 : fc_1 PRD (20, [3, 13, 5, 12], [61, 1, 556]) ws (vs) := by
    refine ⟨nf_in hl rfl, sgq_362 ?_⟩
    · show NEI (w_ei ws (v_ad (n_v vs 3))) (v_iv (n_v vs 13)) (v_iv (n_v vs 5)) (v_iv (n_v vs 12))
      simp only [q3, q5]
      exact vc_Fa_nearOf_at_Grnear_3_0 (v_iv (n_v vs 1)) (v_iv (n_v vs 2)) (v_iv (n_v vs 4)) (v_iv (n_v vs 5)) (v_iv (n_v vs 6)) (v_iv (n_v vs 7)) (v_iv (n_v vs 8)) (v_iv (n_v vs 9)) (v_iv (n_v vs 10)) (v_iv (n_v vs 11)) (v_iv (n_v vs 12)) (v_iv (n_v vs 13)) (w_ei ws (v_ad (n_v vs 0))) k1 k2 k4 k5 k6 k7 k8 k9 k10 k11 k12 k13 d0 d1 d2 d3 d4 d5 d6 d7 d8 d9 d10 d11 f0 f1 f2 h3 f4 f5 f6 f7 f8 f9 f10 hK_0_999
  have nf1 : fc_1 PRD (23, [13, 4], [0, 1, -1]) ws (vs) := by
    refine ⟨nf_in hl rfl, sgq_7 ?_⟩
    · show 1 * v_iv (n_v vs 13) + ((-1) * v_iv (n_v vs 4) + 0) ≤ 0
      rw [q4]
      exact vc_Fa_nearOf_at_Grnear_3_1 (v_iv (n_v vs 1)) (v_iv (n_v vs 2)) (v_iv (n_v vs 4)) (v_iv (n_v vs 5)) (v_iv (n_v vs 6)) (v_iv (n_v vs 7)) (v_iv (n_v vs 8)) (v_iv (n_v vs 9)) (v_iv (n_v vs 10)) (v_iv (n_v vs 11)) (v_iv (n_v vs 12)) (v_iv (n_v vs 13)) (w_ei ws (v_ad (n_v vs 0))) k1 k2 k4 k5 k6 k7 k8 k9 k10 k11 k12 k13 d0 d1 d2 d3 d4 d5 d6 d7 d8 d9 d10 d11 f0 f1 f2 h3 f4 f5 f6 f7 f8 f9 f10 hK_0_999
  refine ⟨(fun _ h => (by cases h)), [], trivial, ?_, (fun _ h => (by cases h))⟩
  rw [List.append_nil]
  exact List.forall_mem_cons.mpr ⟨⟨show (20 : Nat) < 100 from by decide, nf0⟩, List.forall_mem_cons.mpr ⟨⟨show (23 : Nat) < 100 from by decide, nf1⟩, (fun _ h => (by cases h))⟩⟩
def n_Fa_nearOf_at_Grnear_an : List an_T := [(5, [(0, (2, 0, 0, [59])), (1, (0, 1, 24, [])), (2, (0, 0, 16777215, [])), (3, (0, 0, 16777215, [])), (4, (0, 0, 24, []))], [], (0, 0), [(0, 0, 99995), (1, 7, 24), (0, 0, 100000)], [(1, 4, (Int.negSucc 999999999999), 0), (2, 5, (Int.negSucc 999999999999), 0), (4, 1, (Int.negSucc 999999999999), 0), (5, 2, (Int.negSucc 999999999999), 0), (6, 7, (Int.negSucc 999999999999), 16777214), (7, 1, (Int.negSucc 999999999999), 0), (7, 4, (Int.negSucc 999999999999), 0)], [], [(2, 0, 0, [59]), (0, 1, 24, []), (0, 0, 16777215, [])], 0, [], [(20, [3, 7, 5, 6], [61, 1, 556]), (23, [7, 4], [0, 1, (Int.negSucc 0)]), (24, [0, 3], []), (24, [1, 4], []), (24, [2, 5], [])])]
def t_Fa_nearOf_at_Grnear_ct : ct_L := []
set_option maxRecDepth 100000 in
theorem c_Fa_nearOf_at_Grnear {l : Launch} {D : va_G} {kA : Nat → ClassId} : ct_ok PRD l D kA GG y_Fa_nearOf_at_Grnear z_Fa_nearOf_at_Grnear e_Fa_nearOf_at_Grnear := chk_all_ok (FT := []) (PT := []) (CT := t_Fa_nearOf_at_Grnear_ct) (KT := []) (NT := []) (AN := n_Fa_nearOf_at_Grnear_an) (OT := [o_Fa_nearOf_at_Grnear_0, o_Fa_nearOf_at_Grnear_1, o_Fa_nearOf_at_Grnear_2, o_Fa_nearOf_at_Grnear_3]) 3 200 (List.forall_mem_cons.mpr ⟨oo_Fa_nearOf_at_Grnear_0, List.forall_mem_cons.mpr ⟨oo_Fa_nearOf_at_Grnear_1, List.forall_mem_cons.mpr ⟨oo_Fa_nearOf_at_Grnear_2, List.forall_mem_cons.mpr ⟨oo_Fa_nearOf_at_Grnear_3, List.forall_mem_nil _⟩⟩⟩⟩) (by decide +kernel) ⟨List.forall_mem_nil _, List.forall_mem_nil _, List.forall_mem_nil _, List.forall_mem_nil _, List.forall_mem_nil _, GG_pl⟩ (by decide +kernel)
set_option maxHeartbeats 4000000 in
theorem vc_Fa_nearOf_at_Nenear_0_0 (x1 : Int) (x2 : Int) (x3 : Int) (x4 : Int) (a0_0 : Int → Int) (k1 : 0 ≤ x1 ∧ x1 ≤ 24) (k2 : 0 ≤ x2 ∧ x2 ≤ 33554431) (k3 : 0 ≤ x3 ∧ x3 ≤ 0) (k4 : 0 ≤ x4 ∧ x4 ≤ 0) (hK_0_999 : ∀ j : Int, 0 ≤ j → j < 25 → 0 ≤ a0_0 j ∧ a0_0 j ≤ 16777215) : NEI (a0_0) (x4) (x2) (x3) := by
  first
    | exact nei_start (by omega) (by omega)
    | exact nei_skip ‹NEI _ _ _ _› (fun z => by have := (bit_one (by assumption) (by assumption) (by omega) (by omega) (by omega) (by omega)).mp z; omega) (by omega)
    | exact nei_step ‹NEI _ _ _ _› (by omega) ((bit_one (by assumption) (by assumption) (by omega) (by omega) (by omega) (by omega)).mpr (by omega)) (by assumption) (by assumption) (by omega)
  
set_option maxHeartbeats 4000000 in
theorem vc_Fa_nearOf_at_Nenear_0_1 (x1 : Int) (x2 : Int) (x3 : Int) (x4 : Int) (a0_0 : Int → Int) (k1 : 0 ≤ x1 ∧ x1 ≤ 24) (k2 : 0 ≤ x2 ∧ x2 ≤ 33554431) (k3 : 0 ≤ x3 ∧ x3 ≤ 0) (k4 : 0 ≤ x4 ∧ x4 ≤ 0) (hK_0_999 : ∀ j : Int, 0 ≤ j → j < 25 → 0 ≤ a0_0 j ∧ a0_0 j ≤ 16777215) : 1 * x4 + ((-1) * x1 + 0) ≤ 0 := by
  first | omega
def o_Fa_nearOf_at_Nenear_0 : or_T := (5, 5, [(0, (2, 0, 0, [82])), (1, (0, 0, 24, [])), (2, (0, 0, 33554431, [])), (3, (0, 0, 0, [])), (4, (0, 0, 0, []))], [], [], [], [(20, [0, 4, 2, 3], [61, 1, 556]), (23, [4, 1], [0, 1, -1]), (24, [0, 0], []), (24, [1, 1], []), (24, [2, 2], [])], [], [])
theorem oo_Fa_nearOf_at_Nenear_0 {kA : Nat → ClassId} : or_ok PRD kA GG o_Fa_nearOf_at_Nenear_0 := by
  refine or_mk fun A ta ws vs hD hth hl => ?_
  intro t0 r0 t1 k1 t2 k2 t3 k3 t4 k4
  have cr_0_999 : ta (v_ad (n_v vs 0)) = some 82 := r0
  have hK_0_999 := elq_26 hD hth cr_0_999
  have nf0 : fc_1 PRD (20, [0, 4, 2, 3], [61, 1, 556]) ws (vs) := ⟨nf_in hl rfl, sgq_362 (vc_Fa_nearOf_at_Nenear_0_0 (v_iv (n_v vs 1)) (v_iv (n_v vs 2)) (v_iv (n_v vs 3)) (v_iv (n_v vs 4)) (w_ei ws (v_ad (n_v vs 0))) k1 k2 k3 k4 hK_0_999)⟩
  have nf1 : fc_1 PRD (23, [4, 1], [0, 1, -1]) ws (vs) := ⟨nf_in hl rfl, sgq_7 (vc_Fa_nearOf_at_Nenear_0_1 (v_iv (n_v vs 1)) (v_iv (n_v vs 2)) (v_iv (n_v vs 3)) (v_iv (n_v vs 4)) (w_ei ws (v_ad (n_v vs 0))) k1 k2 k3 k4 hK_0_999)⟩
  have nf2 : fc_1 PRD (24, [0, 0], []) ws (vs) := by
    refine ⟨nf_in hl rfl, sgq_1 ?_⟩
    · show n_v vs 0 = n_v vs 0
      first | rfl | simp only [true_and]
  have nf3 : fc_1 PRD (24, [1, 1], []) ws (vs) := by
    refine ⟨nf_in hl rfl, sgq_1 ?_⟩
    · show n_v vs 1 = n_v vs 1
      first | rfl | simp only [true_and]
  have nf4 : fc_1 PRD (24, [2, 2], []) ws (vs) := by
    refine ⟨nf_in hl rfl, sgq_1 ?_⟩
    · show n_v vs 2 = n_v vs 2
      first | rfl | simp only [true_and]
  refine ⟨(fun _ h => (by cases h)), [], trivial, ?_, (fun _ h => (by cases h))⟩
  rw [List.append_nil]
  exact List.forall_mem_cons.mpr ⟨⟨show (20 : Nat) < 100 from by decide, nf0⟩, List.forall_mem_cons.mpr ⟨⟨show (23 : Nat) < 100 from by decide, nf1⟩, List.forall_mem_cons.mpr ⟨⟨show (24 : Nat) < 100 from by decide, nf2⟩, List.forall_mem_cons.mpr ⟨⟨show (24 : Nat) < 100 from by decide, nf3⟩, List.forall_mem_cons.mpr ⟨⟨show (24 : Nat) < 100 from by decide, nf4⟩, (fun _ h => (by cases h))⟩⟩⟩⟩⟩
set_option maxHeartbeats 4000000 in
theorem vc_Fa_nearOf_at_Nenear_1_0 (x1 : Int) (x2 : Int) (x4 : Int) (x5 : Int) (x6 : Int) (x7 : Int) (a0_0 : Int → Int) (k1 : 0 ≤ x1 ∧ x1 ≤ 24) (k2 : 0 ≤ x2 ∧ x2 ≤ 33554431) (k4 : 0 ≤ x4 ∧ x4 ≤ 24) (k5 : 0 ≤ x5 ∧ x5 ≤ 33554431) (k6 : 0 ≤ x6 ∧ x6 ≤ 16777215) (k7 : 0 ≤ x7 ∧ x7 ≤ 24) (d0 : x4 + 0 ≤ x7 ∧ x7 ≤ x4 + 4294967296) (d1 : x4 + (-4294967296) ≤ x1 ∧ x1 ≤ x4 + 0) (d2 : x5 + (-4294967296) ≤ x2 ∧ x2 ≤ x5 + 0) (d3 : x1 + (-4294967296) ≤ x4 ∧ x4 ≤ x1 + 0) (d4 : x2 + (-4294967296) ≤ x5 ∧ x5 ≤ x2 + 0) (d5 : x1 + (-4294967296) ≤ x6 ∧ x6 ≤ x1 + 16777214) (d6 : x4 + (-4294967296) ≤ x6 ∧ x6 ≤ x4 + 16777214) (d7 : x7 + (-4294967296) ≤ x6 ∧ x6 ≤ x7 + 16777214) (d8 : x1 + (-4294967296) ≤ x7 ∧ x7 ≤ x1 + 0) (d9 : x4 + (-4294967296) ≤ x7 ∧ x7 ≤ x4 + 0) (f0 : x1 ≤ x7) (f1 : NEI (a0_0) (x7) (x2) (x6)) (f2 : 1 * x7 + ((-1) * x1 + 0) ≤ 0) (hK_0_999 : ∀ j : Int, 0 ≤ j → j < 25 → 0 ≤ a0_0 j ∧ a0_0 j ≤ 16777215) : NEF (a0_0) (x1) (x2) (x6) := by
  first
    | (rw [show x1 = x7 by omega]; assumption)
  
def o_Fa_nearOf_at_Nenear_1 : or_T := (34, 8, [(0, (2, 0, 0, [82])), (1, (0, 0, 24, [])), (2, (0, 0, 33554431, [])), (4, (0, 0, 24, [])), (5, (0, 0, 33554431, [])), (6, (0, 0, 16777215, [])), (7, (0, 0, 24, []))], [(7, [7, 4], [3]), (20, [3, 7, 5, 6], [61, 1, 556]), (23, [7, 4], [0, 1, -1]), (24, [0, 3], []), (24, [1, 4], []), (24, [2, 5], [])], [], [], [(20, [0, 1, 2, 6], [61, 1, 557])], [], [(7, 4, 0, 4294967296), (1, 4, -4294967296, 0), (2, 5, -4294967296, 0), (4, 1, -4294967296, 0), (5, 2, -4294967296, 0), (6, 1, -4294967296, 16777214), (6, 4, -4294967296, 16777214), (6, 7, -4294967296, 16777214), (7, 1, -4294967296, 0), (7, 4, -4294967296, 0)])
theorem oo_Fa_nearOf_at_Nenear_1 {kA : Nat → ClassId} : or_ok PRD kA GG o_Fa_nearOf_at_Nenear_1 := by
  refine or_mk fun A ta ws vs hD hth hl => ?_
  intro t0 r0 t1 k1 t2 k2 t4 k4 t5 k5 t6 k6 t7 k7 d0 d1 d2 d3 d4 d5 d6 d7 d8 d9 f0 f1 f2 f3 f4 f5
  replace f0 := shm_2 f0
  replace f1 := shm_362 f1
  replace f2 := shm_7 f2
  replace f3 := shm_5 f3
  replace f4 := shm_5 f4
  replace f5 := shm_5 f5
  have q3 : n_v vs 3 = n_v vs 0 := f3.symm
  have q4 : n_v vs 4 = n_v vs 1 := f4.symm
  have q5 : n_v vs 5 = n_v vs 2 := f5.symm
  simp only [q4, q3, q5] at f0 f1 f2
  have cr_0_999 : ta (v_ad (n_v vs 0)) = some 82 := r0
  have hK_0_999 := elq_26 hD hth cr_0_999
  have nf0 : fc_1 PRD (20, [0, 1, 2, 6], [61, 1, 557]) ws (vs) := ⟨nf_in hl rfl, sgq_363 (vc_Fa_nearOf_at_Nenear_1_0 (v_iv (n_v vs 1)) (v_iv (n_v vs 2)) (v_iv (n_v vs 4)) (v_iv (n_v vs 5)) (v_iv (n_v vs 6)) (v_iv (n_v vs 7)) (w_ei ws (v_ad (n_v vs 0))) k1 k2 k4 k5 k6 k7 d0 d1 d2 d3 d4 d5 d6 d7 d8 d9 f0 f1 f2 hK_0_999)⟩
  refine ⟨(fun _ h => (by cases h)), [], trivial, ?_, (fun _ h => (by cases h))⟩
  rw [List.append_nil]
  exact List.forall_mem_cons.mpr ⟨⟨show (20 : Nat) < 100 from by decide, nf0⟩, (fun _ h => (by cases h))⟩
set_option maxHeartbeats 4000000 in
theorem vc_Fa_nearOf_at_Nenear_2_0 (x1 : Int) (x2 : Int) (x4 : Int) (x5 : Int) (x6 : Int) (x7 : Int) (x8 : Int) (x9 : Int) (x10 : Int) (x11 : Int) (a0_0 : Int → Int) (k1 : 1 ≤ x1 ∧ x1 ≤ 24) (k2 : 0 ≤ x2 ∧ x2 ≤ 33554431) (k4 : 1 ≤ x4 ∧ x4 ≤ 24) (k5 : 0 ≤ x5 ∧ x5 ≤ 33554431) (k6 : 0 ≤ x6 ∧ x6 ≤ 16777215) (k7 : 0 ≤ x7 ∧ x7 ≤ 23) (k8 : 0 ≤ x8 ∧ x8 ≤ 33554431) (k9 : 1 ≤ x9 ∧ x9 ≤ 1) (k10 : 0 ≤ x10 ∧ x10 ≤ 0) (k11 : 1 ≤ x11 ∧ x11 ≤ 24) (d0 : x7 + 1 ≤ x11 ∧ x11 ≤ x7 + 1) (d1 : x4 + (-4294967296) ≤ x11 ∧ x11 ≤ x4 + 0) (d2 : x1 + (-4294967296) ≤ x11 ∧ x11 ≤ x1 + 1) (d3 : x4 + (-4294967296) ≤ x11 ∧ x11 ≤ x4 + 1) (d4 : x4 + (-4294967296) ≤ x7 ∧ x7 ≤ x4 + (-1)) (d5 : x4 + (-4294967296) ≤ x1 ∧ x1 ≤ x4 + 0) (d6 : x5 + (-4294967296) ≤ x2 ∧ x2 ≤ x5 + 0) (d7 : x1 + (-4294967296) ≤ x4 ∧ x4 ≤ x1 + 0) (d8 : x2 + (-4294967296) ≤ x5 ∧ x5 ≤ x2 + 0) (d9 : x7 + (-4294967296) ≤ x6 ∧ x6 ≤ x7 + 16777214) (d10 : x1 + (-4294967296) ≤ x7 ∧ x7 ≤ x1 + 0) (d11 : x4 + (-4294967296) ≤ x7 ∧ x7 ≤ x4 + 0) (f0 : x11 = x7 + 1) (f1 : x10 = 0) (f2 : x10 = x8 % 2) (f3 : bvp (x10) = bvp (x8) &&& bvp (x9)) (f4 : bvp (x8) = bvp (x2) >>> (x7).toNat) (f5 : x7 < x1) (f6 : NEI (a0_0) (x7) (x2) (x6)) (f7 : 1 * x7 + ((-1) * x1 + 0) ≤ 0) (hK_0_999 : ∀ j : Int, 0 ≤ j → j < 25 → 0 ≤ a0_0 j ∧ a0_0 j ≤ 16777215) : NEI (a0_0) (x11) (x2) (x6) := by
  first
    | exact nei_start (by omega) (by omega)
    | exact nei_skip ‹NEI _ _ _ _› (fun z => by have := (bit_one (by assumption) (by assumption) (by omega) (by omega) (by omega) (by omega)).mp z; omega) (by omega)
    | exact nei_step ‹NEI _ _ _ _› (by omega) ((bit_one (by assumption) (by assumption) (by omega) (by omega) (by omega) (by omega)).mpr (by omega)) (by assumption) (by assumption) (by omega)
  
set_option maxHeartbeats 4000000 in
theorem vc_Fa_nearOf_at_Nenear_2_1 (x1 : Int) (x2 : Int) (x4 : Int) (x5 : Int) (x6 : Int) (x7 : Int) (x8 : Int) (x9 : Int) (x10 : Int) (x11 : Int) (a0_0 : Int → Int) (k1 : 1 ≤ x1 ∧ x1 ≤ 24) (k2 : 0 ≤ x2 ∧ x2 ≤ 33554431) (k4 : 1 ≤ x4 ∧ x4 ≤ 24) (k5 : 0 ≤ x5 ∧ x5 ≤ 33554431) (k6 : 0 ≤ x6 ∧ x6 ≤ 16777215) (k7 : 0 ≤ x7 ∧ x7 ≤ 23) (k8 : 0 ≤ x8 ∧ x8 ≤ 33554431) (k9 : 1 ≤ x9 ∧ x9 ≤ 1) (k10 : 0 ≤ x10 ∧ x10 ≤ 0) (k11 : 1 ≤ x11 ∧ x11 ≤ 24) (d0 : x7 + 1 ≤ x11 ∧ x11 ≤ x7 + 1) (d1 : x4 + (-4294967296) ≤ x11 ∧ x11 ≤ x4 + 0) (d2 : x1 + (-4294967296) ≤ x11 ∧ x11 ≤ x1 + 1) (d3 : x4 + (-4294967296) ≤ x11 ∧ x11 ≤ x4 + 1) (d4 : x4 + (-4294967296) ≤ x7 ∧ x7 ≤ x4 + (-1)) (d5 : x4 + (-4294967296) ≤ x1 ∧ x1 ≤ x4 + 0) (d6 : x5 + (-4294967296) ≤ x2 ∧ x2 ≤ x5 + 0) (d7 : x1 + (-4294967296) ≤ x4 ∧ x4 ≤ x1 + 0) (d8 : x2 + (-4294967296) ≤ x5 ∧ x5 ≤ x2 + 0) (d9 : x7 + (-4294967296) ≤ x6 ∧ x6 ≤ x7 + 16777214) (d10 : x1 + (-4294967296) ≤ x7 ∧ x7 ≤ x1 + 0) (d11 : x4 + (-4294967296) ≤ x7 ∧ x7 ≤ x4 + 0) (f0 : x11 = x7 + 1) (f1 : x10 = 0) (f2 : x10 = x8 % 2) (f3 : bvp (x10) = bvp (x8) &&& bvp (x9)) (f4 : bvp (x8) = bvp (x2) >>> (x7).toNat) (f5 : x7 < x1) (f6 : NEI (a0_0) (x7) (x2) (x6)) (f7 : 1 * x7 + ((-1) * x1 + 0) ≤ 0) (hK_0_999 : ∀ j : Int, 0 ≤ j → j < 25 → 0 ≤ a0_0 j ∧ a0_0 j ≤ 16777215) : 1 * x11 + ((-1) * x1 + 0) ≤ 0 := by
  first | omega
def o_Fa_nearOf_at_Nenear_2 : or_T := (5, 12, [(0, (2, 0, 0, [82])), (1, (0, 1, 24, [])), (2, (0, 0, 33554431, [])), (4, (0, 1, 24, [])), (5, (0, 0, 33554431, [])), (6, (0, 0, 16777215, [])), (7, (0, 0, 23, [])), (8, (0, 0, 33554431, [])), (9, (0, 1, 1, [])), (10, (0, 0, 0, [])), (11, (0, 1, 24, []))], [(6, [11, 7], [1]), (8, [10], [0]), (12, [10, 8], [2]), (16, [10, 8, 9], [0]), (16, [8, 5, 7], [4]), (7, [7, 4], [2]), (20, [3, 7, 5, 6], [61, 1, 556]), (23, [7, 4], [0, 1, -1]), (24, [0, 3], []), (24, [1, 4], []), (24, [2, 5], [])], [], [], [(20, [3, 11, 5, 6], [61, 1, 556]), (23, [11, 4], [0, 1, -1])], [], [(11, 7, 1, 1), (11, 4, -4294967296, 0), (11, 1, -4294967296, 1), (11, 4, -4294967296, 1), (7, 4, -4294967296, -1), (1, 4, -4294967296, 0), (2, 5, -4294967296, 0), (4, 1, -4294967296, 0), (5, 2, -4294967296, 0), (6, 7, -4294967296, 16777214), (7, 1, -4294967296, 0), (7, 4, -4294967296, 0)])
theorem oo_Fa_nearOf_at_Nenear_2 {kA : Nat → ClassId} : or_ok PRD kA GG o_Fa_nearOf_at_Nenear_2 := by
  refine or_mk fun A ta ws vs hD hth hl => ?_
  intro t0 r0 t1 k1 t2 k2 t4 k4 t5 k5 t6 k6 t7 k7 t8 k8 t9 k9 t10 k10 t11 k11 d0 d1 d2 d3 d4 d5 d6 d7 d8 d9 d10 d11 f0 f1 f2 f3 f4 f5 f6 f7 f8 f9 f10
  replace f0 := shm_4 f0
  replace f1 := shm_192 f1
  replace f2 := shm_364 f2
  replace f3 := shm_11 f3
  replace f4 := shm_13 f4
  replace f5 := shm_6 f5
  replace f6 := shm_362 f6
  replace f7 := shm_7 f7
  replace f8 := shm_5 f8
  replace f9 := shm_5 f9
  replace f10 := shm_5 f10
  have q3 : n_v vs 3 = n_v vs 0 := f8.symm
  have q4 : n_v vs 4 = n_v vs 1 := f9.symm
  have q5 : n_v vs 5 = n_v vs 2 := f10.symm
  simp only [q5, q4, q3] at f4 f5 f6 f7
  have cr_0_999 : ta (v_ad (n_v vs 0)) = some 82 := r0
  have hK_0_999 := elq_26 hD hth cr_0_999
  have nf0 : fc_1 PRD (20, [3, 11, 5, 6], [61, 1, 556]) ws (vs) := by
    refine ⟨nf_in hl rfl, sgq_362 ?_⟩
    · show NEI (w_ei ws (v_ad (n_v vs 3))) (v_iv (n_v vs 11)) (v_iv (n_v vs 5)) (v_iv (n_v vs 6))
      simp only [q3, q5]
      exact vc_Fa_nearOf_at_Nenear_2_0 (v_iv (n_v vs 1)) (v_iv (n_v vs 2)) (v_iv (n_v vs 4)) (v_iv (n_v vs 5)) (v_iv (n_v vs 6)) (v_iv (n_v vs 7)) (v_iv (n_v vs 8)) (v_iv (n_v vs 9)) (v_iv (n_v vs 10)) (v_iv (n_v vs 11)) (w_ei ws (v_ad (n_v vs 0))) k1 k2 k4 k5 k6 k7 k8 k9 k10 k11 d0 d1 d2 d3 d4 d5 d6 d7 d8 d9 d10 d11 f0 f1 f2 f3 f4 f5 f6 f7 hK_0_999
  have nf1 : fc_1 PRD (23, [11, 4], [0, 1, -1]) ws (vs) := by
    refine ⟨nf_in hl rfl, sgq_7 ?_⟩
    · show 1 * v_iv (n_v vs 11) + ((-1) * v_iv (n_v vs 4) + 0) ≤ 0
      rw [q4]
      exact vc_Fa_nearOf_at_Nenear_2_1 (v_iv (n_v vs 1)) (v_iv (n_v vs 2)) (v_iv (n_v vs 4)) (v_iv (n_v vs 5)) (v_iv (n_v vs 6)) (v_iv (n_v vs 7)) (v_iv (n_v vs 8)) (v_iv (n_v vs 9)) (v_iv (n_v vs 10)) (v_iv (n_v vs 11)) (w_ei ws (v_ad (n_v vs 0))) k1 k2 k4 k5 k6 k7 k8 k9 k10 k11 d0 d1 d2 d3 d4 d5 d6 d7 d8 d9 d10 d11 f0 f1 f2 f3 f4 f5 f6 f7 hK_0_999
  refine ⟨(fun _ h => (by cases h)), [], trivial, ?_, (fun _ h => (by cases h))⟩
  rw [List.append_nil]
  exact List.forall_mem_cons.mpr ⟨⟨show (20 : Nat) < 100 from by decide, nf0⟩, List.forall_mem_cons.mpr ⟨⟨show (23 : Nat) < 100 from by decide, nf1⟩, (fun _ h => (by cases h))⟩⟩
set_option maxHeartbeats 4000000 in
theorem vc_Fa_nearOf_at_Nenear_3_0 (x1 : Int) (x2 : Int) (x4 : Int) (x5 : Int) (x6 : Int) (x7 : Int) (x8 : Int) (x9 : Int) (x10 : Int) (x11 : Int) (x12 : Int) (x13 : Int) (a0_0 : Int → Int) (k1 : 1 ≤ x1 ∧ x1 ≤ 24) (k2 : 0 ≤ x2 ∧ x2 ≤ 33554431) (k4 : 1 ≤ x4 ∧ x4 ≤ 24) (k5 : 0 ≤ x5 ∧ x5 ≤ 33554431) (k6 : 0 ≤ x6 ∧ x6 ≤ 16777215) (k7 : 0 ≤ x7 ∧ x7 ≤ 23) (k8 : 0 ≤ x8 ∧ x8 ≤ 33554431) (k9 : 1 ≤ x9 ∧ x9 ≤ 1) (k10 : 1 ≤ x10 ∧ x10 ≤ 1) (k11 : 0 ≤ x11 ∧ x11 ≤ 16777215) (k12 : 0 ≤ x12 ∧ x12 ≤ 16777215) (k13 : 1 ≤ x13 ∧ x13 ≤ 24) (d0 : x7 + 1 ≤ x13 ∧ x13 ≤ x7 + 1) (d1 : x4 + (-4294967296) ≤ x13 ∧ x13 ≤ x4 + 0) (d2 : x1 + (-4294967296) ≤ x13 ∧ x13 ≤ x1 + 1) (d3 : x4 + (-4294967296) ≤ x13 ∧ x13 ≤ x4 + 1) (d4 : x4 + (-4294967296) ≤ x7 ∧ x7 ≤ x4 + (-1)) (d5 : x4 + (-4294967296) ≤ x1 ∧ x1 ≤ x4 + 0) (d6 : x5 + (-4294967296) ≤ x2 ∧ x2 ≤ x5 + 0) (d7 : x1 + (-4294967296) ≤ x4 ∧ x4 ≤ x1 + 0) (d8 : x2 + (-4294967296) ≤ x5 ∧ x5 ≤ x2 + 0) (d9 : x7 + (-4294967296) ≤ x6 ∧ x6 ≤ x7 + 16777214) (d10 : x1 + (-4294967296) ≤ x7 ∧ x7 ≤ x1 + 0) (d11 : x4 + (-4294967296) ≤ x7 ∧ x7 ≤ x4 + 0) (f0 : x13 = x7 + 1) (f1 : x12 ≤ x6 + x11 ∧ x6 ≤ x12 ∧ x11 ≤ x12) (f2 : bvp (x12) = bvp (x6) ||| bvp (x11)) (h3 : x11 = a0_0 (x7)) (f4 : x10 ≠ 0) (f5 : x10 = x8 % 2) (f6 : bvp (x10) = bvp (x8) &&& bvp (x9)) (f7 : bvp (x8) = bvp (x2) >>> (x7).toNat) (f8 : x7 < x1) (f9 : NEI (a0_0) (x7) (x2) (x6)) (f10 : 1 * x7 + ((-1) * x1 + 0) ≤ 0) (hK_0_999 : ∀ j : Int, 0 ≤ j → j < 25 → 0 ≤ a0_0 j ∧ a0_0 j ≤ 16777215) : NEI (a0_0) (x13) (x2) (x12) := by
  first
    | exact nei_start (by omega) (by omega)
    | exact nei_skip ‹NEI _ _ _ _› (fun z => by have := (bit_one (by assumption) (by assumption) (by omega) (by omega) (by omega) (by omega)).mp z; omega) (by omega)
    | exact nei_step ‹NEI _ _ _ _› (by omega) ((bit_one (by assumption) (by assumption) (by omega) (by omega) (by omega) (by omega)).mpr (by omega)) (by assumption) (by assumption) (by omega)
  
set_option maxHeartbeats 4000000 in
theorem vc_Fa_nearOf_at_Nenear_3_1 (x1 : Int) (x2 : Int) (x4 : Int) (x5 : Int) (x6 : Int) (x7 : Int) (x8 : Int) (x9 : Int) (x10 : Int) (x11 : Int) (x12 : Int) (x13 : Int) (a0_0 : Int → Int) (k1 : 1 ≤ x1 ∧ x1 ≤ 24) (k2 : 0 ≤ x2 ∧ x2 ≤ 33554431) (k4 : 1 ≤ x4 ∧ x4 ≤ 24) (k5 : 0 ≤ x5 ∧ x5 ≤ 33554431) (k6 : 0 ≤ x6 ∧ x6 ≤ 16777215) (k7 : 0 ≤ x7 ∧ x7 ≤ 23) (k8 : 0 ≤ x8 ∧ x8 ≤ 33554431) (k9 : 1 ≤ x9 ∧ x9 ≤ 1) (k10 : 1 ≤ x10 ∧ x10 ≤ 1) (k11 : 0 ≤ x11 ∧ x11 ≤ 16777215) (k12 : 0 ≤ x12 ∧ x12 ≤ 16777215) (k13 : 1 ≤ x13 ∧ x13 ≤ 24) (d0 : x7 + 1 ≤ x13 ∧ x13 ≤ x7 + 1) (d1 : x4 + (-4294967296) ≤ x13 ∧ x13 ≤ x4 + 0) (d2 : x1 + (-4294967296) ≤ x13 ∧ x13 ≤ x1 + 1) (d3 : x4 + (-4294967296) ≤ x13 ∧ x13 ≤ x4 + 1) (d4 : x4 + (-4294967296) ≤ x7 ∧ x7 ≤ x4 + (-1)) (d5 : x4 + (-4294967296) ≤ x1 ∧ x1 ≤ x4 + 0) (d6 : x5 + (-4294967296) ≤ x2 ∧ x2 ≤ x5 + 0) (d7 : x1 + (-4294967296) ≤ x4 ∧ x4 ≤ x1 + 0) (d8 : x2 + (-4294967296) ≤ x5 ∧ x5 ≤ x2 + 0) (d9 : x7 + (-4294967296) ≤ x6 ∧ x6 ≤ x7 + 16777214) (d10 : x1 + (-4294967296) ≤ x7 ∧ x7 ≤ x1 + 0) (d11 : x4 + (-4294967296) ≤ x7 ∧ x7 ≤ x4 + 0) (f0 : x13 = x7 + 1) (f1 : x12 ≤ x6 + x11 ∧ x6 ≤ x12 ∧ x11 ≤ x12) (f2 : bvp (x12) = bvp (x6) ||| bvp (x11)) (h3 : x11 = a0_0 (x7)) (f4 : x10 ≠ 0) (f5 : x10 = x8 % 2) (f6 : bvp (x10) = bvp (x8) &&& bvp (x9)) (f7 : bvp (x8) = bvp (x2) >>> (x7).toNat) (f8 : x7 < x1) (f9 : NEI (a0_0) (x7) (x2) (x6)) (f10 : 1 * x7 + ((-1) * x1 + 0) ≤ 0) (hK_0_999 : ∀ j : Int, 0 ≤ j → j < 25 → 0 ≤ a0_0 j ∧ a0_0 j ≤ 16777215) : 1 * x13 + ((-1) * x1 + 0) ≤ 0 := by
  first | omega
def o_Fa_nearOf_at_Nenear_3 : or_T := (5, 14, [(0, (2, 0, 0, [82])), (1, (0, 1, 24, [])), (2, (0, 0, 33554431, [])), (4, (0, 1, 24, [])), (5, (0, 0, 33554431, [])), (6, (0, 0, 16777215, [])), (7, (0, 0, 23, [])), (8, (0, 0, 33554431, [])), (9, (0, 1, 1, [])), (10, (0, 1, 1, [])), (11, (0, 0, 16777215, [])), (12, (0, 0, 16777215, [])), (13, (0, 1, 24, []))], [(6, [13, 7], [1]), (13, [12, 6, 11], []), (16, [12, 6, 11], [1]), (10, [11, 3, 7], []), (8, [10], [1]), (12, [10, 8], [2]), (16, [10, 8, 9], [0]), (16, [8, 5, 7], [4]), (7, [7, 4], [2]), (20, [3, 7, 5, 6], [61, 1, 556]), (23, [7, 4], [0, 1, -1]), (24, [0, 3], []), (24, [1, 4], []), (24, [2, 5], [])], [], [], [(20, [3, 13, 5, 12], [61, 1, 556]), (23, [13, 4], [0, 1, -1])], [], [(13, 7, 1, 1), (13, 4, -4294967296, 0), (13, 1, -4294967296, 1), (13, 4, -4294967296, 1), (7, 4, -4294967296, -1), (1, 4, -4294967296, 0), (2, 5, -4294967296, 0), (4, 1, -4294967296, 0), (5, 2, -4294967296, 0), (6, 7, -4294967296, 16777214), (7, 1, -4294967296, 0), (7, 4, -4294967296, 0)])
theorem oo_Fa_nearOf_at_Nenear_3 {kA : Nat → ClassId} : or_ok PRD kA GG o_Fa_nearOf_at_Nenear_3 := by
  refine or_mk fun A ta ws vs hD hth hl => ?_
  intro t0 r0 t1 k1 t2 k2 t4 k4 t5 k5 t6 k6 t7 k7 t8 k8 t9 k9 t10 k10 t11 k11 t12 k12 t13 k13 d0 d1 d2 d3 d4 d5 d6 d7 d8 d9 d10 d11 f0 f1 f2 f3 f4 f5 f6 f7 f8 f9 f10 f11 f12 f13
  replace f0 := shm_4 f0
  have f1 : v_iv (n_v vs 12) ≤ v_iv (n_v vs 6) + v_iv (n_v vs 11) ∧ v_iv (n_v vs 6) ≤ v_iv (n_v vs 12) ∧ v_iv (n_v vs 11) ≤ v_iv (n_v vs 12) := (fun (h : v_iv (n_v vs 12) ≤ v_iv (n_v vs 6) + v_iv (n_v vs 11) ∧ v_iv (n_v vs 6) ≤ v_iv (n_v vs 12) ∧ v_iv (n_v vs 11) ≤ v_iv (n_v vs 12) ∧ (v_iv (n_v vs 12)).toNat = (v_iv (n_v vs 6)).toNat ||| (v_iv (n_v vs 11)).toNat) => ⟨h.1, h.2.1, h.2.2.1⟩) f1
  replace f2 := shm_354 f2
  replace f3 := shm_107 f3
  replace f4 := shm_142 f4
  replace f5 := shm_364 f5
  replace f6 := shm_11 f6
  replace f7 := shm_13 f7
  replace f8 := shm_6 f8
  replace f9 := shm_362 f9
  replace f10 := shm_7 f10
  replace f11 := shm_5 f11
  replace f12 := shm_5 f12
  replace f13 := shm_5 f13
  have q3 : n_v vs 3 = n_v vs 0 := f11.symm
  have q4 : n_v vs 4 = n_v vs 1 := f12.symm
  have q5 : n_v vs 5 = n_v vs 2 := f13.symm
  simp only [q3, q5, q4] at f3 f7 f8 f9 f10
  have cr_0_999 : ta (v_ad (n_v vs 0)) = some 82 := r0
  have h3 : v_iv (n_v vs 11) = w_ei ws (v_ad (n_v vs 0)) (v_iv (n_v vs 7)) := f3
  have hK_0_999 := elq_26 hD hth cr_0_999
  have nf0 : fc_1 PRD (20, [3, 13, 5, 12], [61, 1, 556]) ws (vs) := by
    refine ⟨nf_in hl rfl, sgq_362 ?_⟩
    · show NEI (w_ei ws (v_ad (n_v vs 3))) (v_iv (n_v vs 13)) (v_iv (n_v vs 5)) (v_iv (n_v vs 12))
      simp only [q3, q5]
      exact vc_Fa_nearOf_at_Nenear_3_0 (v_iv (n_v vs 1)) (v_iv (n_v vs 2)) (v_iv (n_v vs 4)) (v_iv (n_v vs 5)) (v_iv (n_v vs 6)) (v_iv (n_v vs 7)) (v_iv (n_v vs 8)) (v_iv (n_v vs 9)) (v_iv (n_v vs 10)) (v_iv (n_v vs 11)) (v_iv (n_v vs 12)) (v_iv (n_v vs 13)) (w_ei ws (v_ad (n_v vs 0))) k1 k2 k4 k5 k6 k7 k8 k9 k10 k11 k12 k13 d0 d1 d2 d3 d4 d5 d6 d7 d8 d9 d10 d11 f0 f1 f2 h3 f4 f5 f6 f7 f8 f9 f10 hK_0_999
  have nf1 : fc_1 PRD (23, [13, 4], [0, 1, -1]) ws (vs) := by
    refine ⟨nf_in hl rfl, sgq_7 ?_⟩
    · show 1 * v_iv (n_v vs 13) + ((-1) * v_iv (n_v vs 4) + 0) ≤ 0
      rw [q4]
      exact vc_Fa_nearOf_at_Nenear_3_1 (v_iv (n_v vs 1)) (v_iv (n_v vs 2)) (v_iv (n_v vs 4)) (v_iv (n_v vs 5)) (v_iv (n_v vs 6)) (v_iv (n_v vs 7)) (v_iv (n_v vs 8)) (v_iv (n_v vs 9)) (v_iv (n_v vs 10)) (v_iv (n_v vs 11)) (v_iv (n_v vs 12)) (v_iv (n_v vs 13)) (w_ei ws (v_ad (n_v vs 0))) k1 k2 k4 k5 k6 k7 k8 k9 k10 k11 k12 k13 d0 d1 d2 d3 d4 d5 d6 d7 d8 d9 d10 d11 f0 f1 f2 h3 f4 f5 f6 f7 f8 f9 f10 hK_0_999
  refine ⟨(fun _ h => (by cases h)), [], trivial, ?_, (fun _ h => (by cases h))⟩
  rw [List.append_nil]
  exact List.forall_mem_cons.mpr ⟨⟨show (20 : Nat) < 100 from by decide, nf0⟩, List.forall_mem_cons.mpr ⟨⟨show (23 : Nat) < 100 from by decide, nf1⟩, (fun _ h => (by cases h))⟩⟩
def n_Fa_nearOf_at_Nenear_an : List an_T := [(5, [(0, (2, 0, 0, [82])), (1, (0, 0, 24, [])), (2, (0, 0, 33554431, [])), (3, (0, 0, 16777215, [])), (4, (0, 0, 24, []))], [], (0, 0), [(0, 0, 99995), (1, 7, 24), (0, 0, 100000)], [(1, 4, (Int.negSucc 999999999999), 0), (2, 5, (Int.negSucc 999999999999), 0), (4, 1, (Int.negSucc 999999999999), 0), (5, 2, (Int.negSucc 999999999999), 0), (6, 1, (Int.negSucc 999999999999), 16777214), (6, 4, (Int.negSucc 999999999999), 16777214), (6, 7, (Int.negSucc 999999999999), 16777214), (7, 1, (Int.negSucc 999999999999), 0), (7, 4, (Int.negSucc 999999999999), 0)], [], [(2, 0, 0, [82]), (0, 0, 24, []), (0, 0, 33554431, [])], 0, [], [(20, [3, 7, 5, 6], [61, 1, 556]), (23, [7, 4], [0, 1, (Int.negSucc 0)]), (24, [0, 3], []), (24, [1, 4], []), (24, [2, 5], [])])]
def t_Fa_nearOf_at_Nenear_ct : ct_L := []
set_option maxRecDepth 100000 in
theorem c_Fa_nearOf_at_Nenear {l : Launch} {D : va_G} {kA : Nat → ClassId} : ct_ok PRD l D kA GG y_Fa_nearOf_at_Nenear z_Fa_nearOf_at_Nenear e_Fa_nearOf_at_Nenear := chk_all_ok (FT := []) (PT := []) (CT := t_Fa_nearOf_at_Nenear_ct) (KT := []) (NT := []) (AN := n_Fa_nearOf_at_Nenear_an) (OT := [o_Fa_nearOf_at_Nenear_0, o_Fa_nearOf_at_Nenear_1, o_Fa_nearOf_at_Nenear_2, o_Fa_nearOf_at_Nenear_3]) 3 200 (List.forall_mem_cons.mpr ⟨oo_Fa_nearOf_at_Nenear_0, List.forall_mem_cons.mpr ⟨oo_Fa_nearOf_at_Nenear_1, List.forall_mem_cons.mpr ⟨oo_Fa_nearOf_at_Nenear_2, List.forall_mem_cons.mpr ⟨oo_Fa_nearOf_at_Nenear_3, List.forall_mem_nil _⟩⟩⟩⟩) (by decide +kernel) ⟨List.forall_mem_nil _, List.forall_mem_nil _, List.forall_mem_nil _, List.forall_mem_nil _, List.forall_mem_nil _, GG_pl⟩ (by decide +kernel)
set_option maxHeartbeats 4000000 in
theorem vc_Fa_nearOf_at_Npnear_0_0 (x1 : Int) (x2 : Int) (x3 : Int) (x4 : Int) (a0_0 : Int → Int) (k1 : 0 ≤ x1 ∧ x1 ≤ 25) (k2 : 0 ≤ x2 ∧ x2 ≤ 33554431) (k3 : 0 ≤ x3 ∧ x3 ≤ 0) (k4 : 0 ≤ x4 ∧ x4 ≤ 0) (hK_0_999 : ∀ j : Int, 0 ≤ j → j < 25 → 0 ≤ a0_0 j ∧ a0_0 j ≤ 33554431) : NEI (a0_0) (x4) (x2) (x3) := by
  first
    | exact nei_start (by omega) (by omega)
    | exact nei_skip ‹NEI _ _ _ _› (fun z => by have := (bit_one (by assumption) (by assumption) (by omega) (by omega) (by omega) (by omega)).mp z; omega) (by omega)
    | exact nei_step ‹NEI _ _ _ _› (by omega) ((bit_one (by assumption) (by assumption) (by omega) (by omega) (by omega) (by omega)).mpr (by omega)) (by assumption) (by assumption) (by omega)
  
set_option maxHeartbeats 4000000 in
theorem vc_Fa_nearOf_at_Npnear_0_1 (x1 : Int) (x2 : Int) (x3 : Int) (x4 : Int) (a0_0 : Int → Int) (k1 : 0 ≤ x1 ∧ x1 ≤ 25) (k2 : 0 ≤ x2 ∧ x2 ≤ 33554431) (k3 : 0 ≤ x3 ∧ x3 ≤ 0) (k4 : 0 ≤ x4 ∧ x4 ≤ 0) (hK_0_999 : ∀ j : Int, 0 ≤ j → j < 25 → 0 ≤ a0_0 j ∧ a0_0 j ≤ 33554431) : 1 * x4 + ((-1) * x1 + 0) ≤ 0 := by
  first | omega
def o_Fa_nearOf_at_Npnear_0 : or_T := (5, 5, [(0, (2, 0, 0, [142])), (1, (0, 0, 25, [])), (2, (0, 0, 33554431, [])), (3, (0, 0, 0, [])), (4, (0, 0, 0, []))], [], [], [], [(20, [0, 4, 2, 3], [61, 1, 556]), (23, [4, 1], [0, 1, -1]), (24, [0, 0], []), (24, [1, 1], []), (24, [2, 2], [])], [], [])
theorem oo_Fa_nearOf_at_Npnear_0 {kA : Nat → ClassId} : or_ok PRD kA GG o_Fa_nearOf_at_Npnear_0 := by
  refine or_mk fun A ta ws vs hD hth hl => ?_
  intro t0 r0 t1 k1 t2 k2 t3 k3 t4 k4
  have cr_0_999 : ta (v_ad (n_v vs 0)) = some 142 := r0
  have hK_0_999 := elq_27 hD hth cr_0_999
  have nf0 : fc_1 PRD (20, [0, 4, 2, 3], [61, 1, 556]) ws (vs) := ⟨nf_in hl rfl, sgq_362 (vc_Fa_nearOf_at_Npnear_0_0 (v_iv (n_v vs 1)) (v_iv (n_v vs 2)) (v_iv (n_v vs 3)) (v_iv (n_v vs 4)) (w_ei ws (v_ad (n_v vs 0))) k1 k2 k3 k4 hK_0_999)⟩
  have nf1 : fc_1 PRD (23, [4, 1], [0, 1, -1]) ws (vs) := ⟨nf_in hl rfl, sgq_7 (vc_Fa_nearOf_at_Npnear_0_1 (v_iv (n_v vs 1)) (v_iv (n_v vs 2)) (v_iv (n_v vs 3)) (v_iv (n_v vs 4)) (w_ei ws (v_ad (n_v vs 0))) k1 k2 k3 k4 hK_0_999)⟩
  have nf2 : fc_1 PRD (24, [0, 0], []) ws (vs) := by
    refine ⟨nf_in hl rfl, sgq_1 ?_⟩
    · show n_v vs 0 = n_v vs 0
      first | rfl | simp only [true_and]
  have nf3 : fc_1 PRD (24, [1, 1], []) ws (vs) := by
    refine ⟨nf_in hl rfl, sgq_1 ?_⟩
    · show n_v vs 1 = n_v vs 1
      first | rfl | simp only [true_and]
  have nf4 : fc_1 PRD (24, [2, 2], []) ws (vs) := by
    refine ⟨nf_in hl rfl, sgq_1 ?_⟩
    · show n_v vs 2 = n_v vs 2
      first | rfl | simp only [true_and]
  refine ⟨(fun _ h => (by cases h)), [], trivial, ?_, (fun _ h => (by cases h))⟩
  rw [List.append_nil]
  exact List.forall_mem_cons.mpr ⟨⟨show (20 : Nat) < 100 from by decide, nf0⟩, List.forall_mem_cons.mpr ⟨⟨show (23 : Nat) < 100 from by decide, nf1⟩, List.forall_mem_cons.mpr ⟨⟨show (24 : Nat) < 100 from by decide, nf2⟩, List.forall_mem_cons.mpr ⟨⟨show (24 : Nat) < 100 from by decide, nf3⟩, List.forall_mem_cons.mpr ⟨⟨show (24 : Nat) < 100 from by decide, nf4⟩, (fun _ h => (by cases h))⟩⟩⟩⟩⟩
set_option maxHeartbeats 4000000 in
theorem vc_Fa_nearOf_at_Npnear_1_0 (x1 : Int) (x2 : Int) (x4 : Int) (x5 : Int) (x6 : Int) (x7 : Int) (a0_0 : Int → Int) (k1 : 0 ≤ x1 ∧ x1 ≤ 25) (k2 : 0 ≤ x2 ∧ x2 ≤ 33554431) (k4 : 0 ≤ x4 ∧ x4 ≤ 25) (k5 : 0 ≤ x5 ∧ x5 ≤ 33554431) (k6 : 0 ≤ x6 ∧ x6 ≤ 33554431) (k7 : 0 ≤ x7 ∧ x7 ≤ 25) (d0 : x4 + 0 ≤ x7 ∧ x7 ≤ x4 + 4294967296) (d1 : x4 + (-4294967296) ≤ x1 ∧ x1 ≤ x4 + 0) (d2 : x5 + (-4294967296) ≤ x2 ∧ x2 ≤ x5 + 0) (d3 : x1 + (-4294967296) ≤ x4 ∧ x4 ≤ x1 + 0) (d4 : x2 + (-4294967296) ≤ x5 ∧ x5 ≤ x2 + 0) (d5 : x1 + (-4294967296) ≤ x6 ∧ x6 ≤ x1 + 33554430) (d6 : x4 + (-4294967296) ≤ x6 ∧ x6 ≤ x4 + 33554430) (d7 : x7 + (-4294967296) ≤ x6 ∧ x6 ≤ x7 + 33554430) (d8 : x1 + (-4294967296) ≤ x7 ∧ x7 ≤ x1 + 0) (d9 : x4 + (-4294967296) ≤ x7 ∧ x7 ≤ x4 + 0) (f0 : x1 ≤ x7) (f1 : NEI (a0_0) (x7) (x2) (x6)) (f2 : 1 * x7 + ((-1) * x1 + 0) ≤ 0) (hK_0_999 : ∀ j : Int, 0 ≤ j → j < 25 → 0 ≤ a0_0 j ∧ a0_0 j ≤ 33554431) : NEF (a0_0) (x1) (x2) (x6) := by
  first
    | (rw [show x1 = x7 by omega]; assumption)
  
def o_Fa_nearOf_at_Npnear_1 : or_T := (34, 8, [(0, (2, 0, 0, [142])), (1, (0, 0, 25, [])), (2, (0, 0, 33554431, [])), (4, (0, 0, 25, [])), (5, (0, 0, 33554431, [])), (6, (0, 0, 33554431, [])), (7, (0, 0, 25, []))], [(7, [7, 4], [3]), (20, [3, 7, 5, 6], [61, 1, 556]), (23, [7, 4], [0, 1, -1]), (24, [0, 3], []), (24, [1, 4], []), (24, [2, 5], [])], [], [], [(20, [0, 1, 2, 6], [61, 1, 557])], [], [(7, 4, 0, 4294967296), (1, 4, -4294967296, 0), (2, 5, -4294967296, 0), (4, 1, -4294967296, 0), (5, 2, -4294967296, 0), (6, 1, -4294967296, 33554430), (6, 4, -4294967296, 33554430), (6, 7, -4294967296, 33554430), (7, 1, -4294967296, 0), (7, 4, -4294967296, 0)])
theorem oo_Fa_nearOf_at_Npnear_1 {kA : Nat → ClassId} : or_ok PRD kA GG o_Fa_nearOf_at_Npnear_1 := by
  refine or_mk fun A ta ws vs hD hth hl => ?_
  intro t0 r0 t1 k1 t2 k2 t4 k4 t5 k5 t6 k6 t7 k7 d0 d1 d2 d3 d4 d5 d6 d7 d8 d9 f0 f1 f2 f3 f4 f5
  replace f0 := shm_2 f0
  replace f1 := shm_362 f1
  replace f2 := shm_7 f2
  replace f3 := shm_5 f3
  replace f4 := shm_5 f4
  replace f5 := shm_5 f5
  have q3 : n_v vs 3 = n_v vs 0 := f3.symm
  have q4 : n_v vs 4 = n_v vs 1 := f4.symm
  have q5 : n_v vs 5 = n_v vs 2 := f5.symm
  simp only [q4, q3, q5] at f0 f1 f2
  have cr_0_999 : ta (v_ad (n_v vs 0)) = some 142 := r0
  have hK_0_999 := elq_27 hD hth cr_0_999
  have nf0 : fc_1 PRD (20, [0, 1, 2, 6], [61, 1, 557]) ws (vs) := ⟨nf_in hl rfl, sgq_363 (vc_Fa_nearOf_at_Npnear_1_0 (v_iv (n_v vs 1)) (v_iv (n_v vs 2)) (v_iv (n_v vs 4)) (v_iv (n_v vs 5)) (v_iv (n_v vs 6)) (v_iv (n_v vs 7)) (w_ei ws (v_ad (n_v vs 0))) k1 k2 k4 k5 k6 k7 d0 d1 d2 d3 d4 d5 d6 d7 d8 d9 f0 f1 f2 hK_0_999)⟩
  refine ⟨(fun _ h => (by cases h)), [], trivial, ?_, (fun _ h => (by cases h))⟩
  rw [List.append_nil]
  exact List.forall_mem_cons.mpr ⟨⟨show (20 : Nat) < 100 from by decide, nf0⟩, (fun _ h => (by cases h))⟩
set_option maxHeartbeats 4000000 in
theorem vc_Fa_nearOf_at_Npnear_2_0 (x1 : Int) (x2 : Int) (x4 : Int) (x5 : Int) (x6 : Int) (x7 : Int) (x8 : Int) (x9 : Int) (x10 : Int) (x11 : Int) (a0_0 : Int → Int) (k1 : 1 ≤ x1 ∧ x1 ≤ 25) (k2 : 0 ≤ x2 ∧ x2 ≤ 33554431) (k4 : 1 ≤ x4 ∧ x4 ≤ 25) (k5 : 0 ≤ x5 ∧ x5 ≤ 33554431) (k6 : 0 ≤ x6 ∧ x6 ≤ 33554431) (k7 : 0 ≤ x7 ∧ x7 ≤ 24) (k8 : 0 ≤ x8 ∧ x8 ≤ 33554431) (k9 : 1 ≤ x9 ∧ x9 ≤ 1) (k10 : 0 ≤ x10 ∧ x10 ≤ 0) (k11 : 1 ≤ x11 ∧ x11 ≤ 25) (d0 : x7 + 1 ≤ x11 ∧ x11 ≤ x7 + 1) (d1 : x4 + (-4294967296) ≤ x11 ∧ x11 ≤ x4 + 0) (d2 : x1 + (-4294967296) ≤ x11 ∧ x11 ≤ x1 + 1) (d3 : x4 + (-4294967296) ≤ x11 ∧ x11 ≤ x4 + 1) (d4 : x4 + (-4294967296) ≤ x7 ∧ x7 ≤ x4 + (-1)) (d5 : x4 + (-4294967296) ≤ x1 ∧ x1 ≤ x4 + 0) (d6 : x5 + (-4294967296) ≤ x2 ∧ x2 ≤ x5 + 0) (d7 : x1 + (-4294967296) ≤ x4 ∧ x4 ≤ x1 + 0) (d8 : x2 + (-4294967296) ≤ x5 ∧ x5 ≤ x2 + 0) (d9 : x7 + (-4294967296) ≤ x6 ∧ x6 ≤ x7 + 33554430) (d10 : x1 + (-4294967296) ≤ x7 ∧ x7 ≤ x1 + 0) (d11 : x4 + (-4294967296) ≤ x7 ∧ x7 ≤ x4 + 0) (f0 : x11 = x7 + 1) (f1 : x10 = 0) (f2 : x10 = x8 % 2) (f3 : bvp (x10) = bvp (x8) &&& bvp (x9)) (f4 : bvp (x8) = bvp (x2) >>> (x7).toNat) (f5 : x7 < x1) (f6 : NEI (a0_0) (x7) (x2) (x6)) (f7 : 1 * x7 + ((-1) * x1 + 0) ≤ 0) (hK_0_999 : ∀ j : Int, 0 ≤ j → j < 25 → 0 ≤ a0_0 j ∧ a0_0 j ≤ 33554431) : NEI (a0_0) (x11) (x2) (x6) := by
  first
    | exact nei_start (by omega) (by omega)
    | exact nei_skip ‹NEI _ _ _ _› (fun z => by have := (bit_one (by assumption) (by assumption) (by omega) (by omega) (by omega) (by omega)).mp z; omega) (by omega)
    | exact nei_step ‹NEI _ _ _ _› (by omega) ((bit_one (by assumption) (by assumption) (by omega) (by omega) (by omega) (by omega)).mpr (by omega)) (by assumption) (by assumption) (by omega)
  
set_option maxHeartbeats 4000000 in
theorem vc_Fa_nearOf_at_Npnear_2_1 (x1 : Int) (x2 : Int) (x4 : Int) (x5 : Int) (x6 : Int) (x7 : Int) (x8 : Int) (x9 : Int) (x10 : Int) (x11 : Int) (a0_0 : Int → Int) (k1 : 1 ≤ x1 ∧ x1 ≤ 25) (k2 : 0 ≤ x2 ∧ x2 ≤ 33554431) (k4 : 1 ≤ x4 ∧ x4 ≤ 25) (k5 : 0 ≤ x5 ∧ x5 ≤ 33554431) (k6 : 0 ≤ x6 ∧ x6 ≤ 33554431) (k7 : 0 ≤ x7 ∧ x7 ≤ 24) (k8 : 0 ≤ x8 ∧ x8 ≤ 33554431) (k9 : 1 ≤ x9 ∧ x9 ≤ 1) (k10 : 0 ≤ x10 ∧ x10 ≤ 0) (k11 : 1 ≤ x11 ∧ x11 ≤ 25) (d0 : x7 + 1 ≤ x11 ∧ x11 ≤ x7 + 1) (d1 : x4 + (-4294967296) ≤ x11 ∧ x11 ≤ x4 + 0) (d2 : x1 + (-4294967296) ≤ x11 ∧ x11 ≤ x1 + 1) (d3 : x4 + (-4294967296) ≤ x11 ∧ x11 ≤ x4 + 1) (d4 : x4 + (-4294967296) ≤ x7 ∧ x7 ≤ x4 + (-1)) (d5 : x4 + (-4294967296) ≤ x1 ∧ x1 ≤ x4 + 0) (d6 : x5 + (-4294967296) ≤ x2 ∧ x2 ≤ x5 + 0) (d7 : x1 + (-4294967296) ≤ x4 ∧ x4 ≤ x1 + 0) (d8 : x2 + (-4294967296) ≤ x5 ∧ x5 ≤ x2 + 0) (d9 : x7 + (-4294967296) ≤ x6 ∧ x6 ≤ x7 + 33554430) (d10 : x1 + (-4294967296) ≤ x7 ∧ x7 ≤ x1 + 0) (d11 : x4 + (-4294967296) ≤ x7 ∧ x7 ≤ x4 + 0) (f0 : x11 = x7 + 1) (f1 : x10 = 0) (f2 : x10 = x8 % 2) (f3 : bvp (x10) = bvp (x8) &&& bvp (x9)) (f4 : bvp (x8) = bvp (x2) >>> (x7).toNat) (f5 : x7 < x1) (f6 : NEI (a0_0) (x7) (x2) (x6)) (f7 : 1 * x7 + ((-1) * x1 + 0) ≤ 0) (hK_0_999 : ∀ j : Int, 0 ≤ j → j < 25 → 0 ≤ a0_0 j ∧ a0_0 j ≤ 33554431) : 1 * x11 + ((-1) * x1 + 0) ≤ 0 := by
  first | omega
def o_Fa_nearOf_at_Npnear_2 : or_T := (5, 12, [(0, (2, 0, 0, [142])), (1, (0, 1, 25, [])), (2, (0, 0, 33554431, [])), (4, (0, 1, 25, [])), (5, (0, 0, 33554431, [])), (6, (0, 0, 33554431, [])), (7, (0, 0, 24, [])), (8, (0, 0, 33554431, [])), (9, (0, 1, 1, [])), (10, (0, 0, 0, [])), (11, (0, 1, 25, []))], [(6, [11, 7], [1]), (8, [10], [0]), (12, [10, 8], [2]), (16, [10, 8, 9], [0]), (16, [8, 5, 7], [4]), (7, [7, 4], [2]), (20, [3, 7, 5, 6], [61, 1, 556]), (23, [7, 4], [0, 1, -1]), (24, [0, 3], []), (24, [1, 4], []), (24, [2, 5], [])], [], [], [(20, [3, 11, 5, 6], [61, 1, 556]), (23, [11, 4], [0, 1, -1])], [], [(11, 7, 1, 1), (11, 4, -4294967296, 0), (11, 1, -4294967296, 1), (11, 4, -4294967296, 1), (7, 4, -4294967296, -1), (1, 4, -4294967296, 0), (2, 5, -4294967296, 0), (4, 1, -4294967296, 0), (5, 2, -4294967296, 0), (6, 7, -4294967296, 33554430), (7, 1, -4294967296, 0), (7, 4, -4294967296, 0)])
theorem oo_Fa_nearOf_at_Npnear_2 {kA : Nat → ClassId} : or_ok PRD kA GG o_Fa_nearOf_at_Npnear_2 := by
  refine or_mk fun A ta ws vs hD hth hl => ?_
  intro t0 r0 t1 k1 t2 k2 t4 k4 t5 k5 t6 k6 t7 k7 t8 k8 t9 k9 t10 k10 t11 k11 d0 d1 d2 d3 d4 d5 d6 d7 d8 d9 d10 d11 f0 f1 f2 f3 f4 f5 f6 f7 f8 f9 f10
  replace f0 := shm_4 f0
  replace f1 := shm_192 f1
  replace f2 := shm_364 f2
  replace f3 := shm_11 f3
  replace f4 := shm_13 f4
  replace f5 := shm_6 f5
  replace f6 := shm_362 f6
  replace f7 := shm_7 f7
  replace f8 := shm_5 f8
  replace f9 := shm_5 f9
  replace f10 := shm_5 f10
  have q3 : n_v vs 3 = n_v vs 0 := f8.symm
  have q4 : n_v vs 4 = n_v vs 1 := f9.symm
  have q5 : n_v vs 5 = n_v vs 2 := f10.symm
  simp only [q5, q4, q3] at f4 f5 f6 f7
  have cr_0_999 : ta (v_ad (n_v vs 0)) = some 142 := r0
  have hK_0_999 := elq_27 hD hth cr_0_999
  have nf0 : fc_1 PRD (20, [3, 11, 5, 6], [61, 1, 556]) ws (vs) := by
    refine ⟨nf_in hl rfl, sgq_362 ?_⟩
    · show NEI (w_ei ws (v_ad (n_v vs 3))) (v_iv (n_v vs 11)) (v_iv (n_v vs 5)) (v_iv (n_v vs 6))
      simp only [q3, q5]
      exact vc_Fa_nearOf_at_Npnear_2_0 (v_iv (n_v vs 1)) (v_iv (n_v vs 2)) (v_iv (n_v vs 4)) (v_iv (n_v vs 5)) (v_iv (n_v vs 6)) (v_iv (n_v vs 7)) (v_iv (n_v vs 8)) (v_iv (n_v vs 9)) (v_iv (n_v vs 10)) (v_iv (n_v vs 11)) (w_ei ws (v_ad (n_v vs 0))) k1 k2 k4 k5 k6 k7 k8 k9 k10 k11 d0 d1 d2 d3 d4 d5 d6 d7 d8 d9 d10 d11 f0 f1 f2 f3 f4 f5 f6 f7 hK_0_999
  have nf1 : fc_1 PRD (23, [11, 4], [0, 1, -1]) ws (vs) := by
    refine ⟨nf_in hl rfl, sgq_7 ?_⟩
    · show 1 * v_iv (n_v vs 11) + ((-1) * v_iv (n_v vs 4) + 0) ≤ 0
      rw [q4]
      exact vc_Fa_nearOf_at_Npnear_2_1 (v_iv (n_v vs 1)) (v_iv (n_v vs 2)) (v_iv (n_v vs 4)) (v_iv (n_v vs 5)) (v_iv (n_v vs 6)) (v_iv (n_v vs 7)) (v_iv (n_v vs 8)) (v_iv (n_v vs 9)) (v_iv (n_v vs 10)) (v_iv (n_v vs 11)) (w_ei ws (v_ad (n_v vs 0))) k1 k2 k4 k5 k6 k7 k8 k9 k10 k11 d0 d1 d2 d3 d4 d5 d6 d7 d8 d9 d10 d11 f0 f1 f2 f3 f4 f5 f6 f7 hK_0_999
  refine ⟨(fun _ h => (by cases h)), [], trivial, ?_, (fun _ h => (by cases h))⟩
  rw [List.append_nil]
  exact List.forall_mem_cons.mpr ⟨⟨show (20 : Nat) < 100 from by decide, nf0⟩, List.forall_mem_cons.mpr ⟨⟨show (23 : Nat) < 100 from by decide, nf1⟩, (fun _ h => (by cases h))⟩⟩
set_option maxHeartbeats 4000000 in
theorem vc_Fa_nearOf_at_Npnear_3_0 (x1 : Int) (x2 : Int) (x4 : Int) (x5 : Int) (x6 : Int) (x7 : Int) (x8 : Int) (x9 : Int) (x10 : Int) (x11 : Int) (x12 : Int) (x13 : Int) (a0_0 : Int → Int) (k1 : 1 ≤ x1 ∧ x1 ≤ 25) (k2 : 0 ≤ x2 ∧ x2 ≤ 33554431) (k4 : 1 ≤ x4 ∧ x4 ≤ 25) (k5 : 0 ≤ x5 ∧ x5 ≤ 33554431) (k6 : 0 ≤ x6 ∧ x6 ≤ 33554431) (k7 : 0 ≤ x7 ∧ x7 ≤ 24) (k8 : 0 ≤ x8 ∧ x8 ≤ 33554431) (k9 : 1 ≤ x9 ∧ x9 ≤ 1) (k10 : 1 ≤ x10 ∧ x10 ≤ 1) (k11 : 0 ≤ x11 ∧ x11 ≤ 33554431) (k12 : 0 ≤ x12 ∧ x12 ≤ 33554431) (k13 : 1 ≤ x13 ∧ x13 ≤ 25) (d0 : x7 + 1 ≤ x13 ∧ x13 ≤ x7 + 1) (d1 : x4 + (-4294967296) ≤ x13 ∧ x13 ≤ x4 + 0) (d2 : x1 + (-4294967296) ≤ x13 ∧ x13 ≤ x1 + 1) (d3 : x4 + (-4294967296) ≤ x13 ∧ x13 ≤ x4 + 1) (d4 : x4 + (-4294967296) ≤ x7 ∧ x7 ≤ x4 + (-1)) (d5 : x4 + (-4294967296) ≤ x1 ∧ x1 ≤ x4 + 0) (d6 : x5 + (-4294967296) ≤ x2 ∧ x2 ≤ x5 + 0) (d7 : x1 + (-4294967296) ≤ x4 ∧ x4 ≤ x1 + 0) (d8 : x2 + (-4294967296) ≤ x5 ∧ x5 ≤ x2 + 0) (d9 : x7 + (-4294967296) ≤ x6 ∧ x6 ≤ x7 + 33554430) (d10 : x1 + (-4294967296) ≤ x7 ∧ x7 ≤ x1 + 0) (d11 : x4 + (-4294967296) ≤ x7 ∧ x7 ≤ x4 + 0) (f0 : x13 = x7 + 1) (f1 : x12 ≤ x6 + x11 ∧ x6 ≤ x12 ∧ x11 ≤ x12) (f2 : bvp (x12) = bvp (x6) ||| bvp (x11)) (h3 : x11 = a0_0 (x7)) (f4 : x10 ≠ 0) (f5 : x10 = x8 % 2) (f6 : bvp (x10) = bvp (x8) &&& bvp (x9)) (f7 : bvp (x8) = bvp (x2) >>> (x7).toNat) (f8 : x7 < x1) (f9 : NEI (a0_0) (x7) (x2) (x6)) (f10 : 1 * x7 + ((-1) * x1 + 0) ≤ 0) (hK_0_999 : ∀ j : Int, 0 ≤ j → j < 25 → 0 ≤ a0_0 j ∧ a0_0 j ≤ 33554431) : NEI (a0_0) (x13) (x2) (x12) := by
  first
    | exact nei_start (by omega) (by omega)
    | exact nei_skip ‹NEI _ _ _ _› (fun z => by have := (bit_one (by assumption) (by assumption) (by omega) (by omega) (by omega) (by omega)).mp z; omega) (by omega)
    | exact nei_step ‹NEI _ _ _ _› (by omega) ((bit_one (by assumption) (by assumption) (by omega) (by omega) (by omega) (by omega)).mpr (by omega)) (by assumption) (by assumption) (by omega)
  
set_option maxHeartbeats 4000000 in
theorem vc_Fa_nearOf_at_Npnear_3_1 (x1 : Int) (x2 : Int) (x4 : Int) (x5 : Int) (x6 : Int) (x7 : Int) (x8 : Int) (x9 : Int) (x10 : Int) (x11 : Int) (x12 : Int) (x13 : Int) (a0_0 : Int → Int) (k1 : 1 ≤ x1 ∧ x1 ≤ 25) (k2 : 0 ≤ x2 ∧ x2 ≤ 33554431) (k4 : 1 ≤ x4 ∧ x4 ≤ 25) (k5 : 0 ≤ x5 ∧ x5 ≤ 33554431) (k6 : 0 ≤ x6 ∧ x6 ≤ 33554431) (k7 : 0 ≤ x7 ∧ x7 ≤ 24) (k8 : 0 ≤ x8 ∧ x8 ≤ 33554431) (k9 : 1 ≤ x9 ∧ x9 ≤ 1) (k10 : 1 ≤ x10 ∧ x10 ≤ 1) (k11 : 0 ≤ x11 ∧ x11 ≤ 33554431) (k12 : 0 ≤ x12 ∧ x12 ≤ 33554431) (k13 : 1 ≤ x13 ∧ x13 ≤ 25) (d0 : x7 + 1 ≤ x13 ∧ x13 ≤ x7 + 1) (d1 : x4 + (-4294967296) ≤ x13 ∧ x13 ≤ x4 + 0) (d2 : x1 + (-4294967296) ≤ x13 ∧ x13 ≤ x1 + 1) (d3 : x4 + (-4294967296) ≤ x13 ∧ x13 ≤ x4 + 1) (d4 : x4 + (-4294967296) ≤ x7 ∧ x7 ≤ x4 + (-1)) (d5 : x4 + (-4294967296) ≤ x1 ∧ x1 ≤ x4 + 0) (d6 : x5 + (-4294967296) ≤ x2 ∧ x2 ≤ x5 + 0) (d7 : x1 + (-4294967296) ≤ x4 ∧ x4 ≤ x1 + 0) (d8 : x2 + (-4294967296) ≤ x5 ∧ x5 ≤ x2 + 0) (d9 : x7 + (-4294967296) ≤ x6 ∧ x6 ≤ x7 + 33554430) (d10 : x1 + (-4294967296) ≤ x7 ∧ x7 ≤ x1 + 0) (d11 : x4 + (-4294967296) ≤ x7 ∧ x7 ≤ x4 + 0) (f0 : x13 = x7 + 1) (f1 : x12 ≤ x6 + x11 ∧ x6 ≤ x12 ∧ x11 ≤ x12) (f2 : bvp (x12) = bvp (x6) ||| bvp (x11)) (h3 : x11 = a0_0 (x7)) (f4 : x10 ≠ 0) (f5 : x10 = x8 % 2) (f6 : bvp (x10) = bvp (x8) &&& bvp (x9)) (f7 : bvp (x8) = bvp (x2) >>> (x7).toNat) (f8 : x7 < x1) (f9 : NEI (a0_0) (x7) (x2) (x6)) (f10 : 1 * x7 + ((-1) * x1 + 0) ≤ 0) (hK_0_999 : ∀ j : Int, 0 ≤ j → j < 25 → 0 ≤ a0_0 j ∧ a0_0 j ≤ 33554431) : 1 * x13 + ((-1) * x1 + 0) ≤ 0 := by
  first | omega
def o_Fa_nearOf_at_Npnear_3 : or_T := (5, 14, [(0, (2, 0, 0, [142])), (1, (0, 1, 25, [])), (2, (0, 0, 33554431, [])), (4, (0, 1, 25, [])), (5, (0, 0, 33554431, [])), (6, (0, 0, 33554431, [])), (7, (0, 0, 24, [])), (8, (0, 0, 33554431, [])), (9, (0, 1, 1, [])), (10, (0, 1, 1, [])), (11, (0, 0, 33554431, [])), (12, (0, 0, 33554431, [])), (13, (0, 1, 25, []))], [(6, [13, 7], [1]), (13, [12, 6, 11], []), (16, [12, 6, 11], [1]), (10, [11, 3, 7], []), (8, [10], [1]), (12, [10, 8], [2]), (16, [10, 8, 9], [0]), (16, [8, 5, 7], [4]), (7, [7, 4], [2]), (20, [3, 7, 5, 6], [61, 1, 556]), (23, [7, 4], [0, 1, -1]), (24, [0, 3], []), (24, [1, 4], []), (24, [2, 5], [])], [], [], [(20, [3, 13, 5, 12], [61, 1, 556]), (23, [13, 4], [0, 1, -1])], [], [(13, 7, 1, 1), (13, 4, -4294967296, 0), (13, 1, -4294967296, 1), (13, 4, -4294967296, 1), (7, 4, -4294967296, -1), (1, 4, -4294967296, 0), (2, 5, -4294967296, 0), (4, 1, -4294967296, 0), (5, 2, -4294967296, 0), (6, 7, -4294967296, 33554430), (7, 1, -4294967296, 0), (7, 4, -4294967296, 0)])
theorem oo_Fa_nearOf_at_Npnear_3 {kA : Nat → ClassId} : or_ok PRD kA GG o_Fa_nearOf_at_Npnear_3 := by
  refine or_mk fun A ta ws vs hD hth hl => ?_
  intro t0 r0 t1 k1 t2 k2 t4 k4 t5 k5 t6 k6 t7 k7 t8 k8 t9 k9 t10 k10 t11 k11 t12 k12 t13 k13 d0 d1 d2 d3 d4 d5 d6 d7 d8 d9 d10 d11 f0 f1 f2 f3 f4 f5 f6 f7 f8 f9 f10 f11 f12 f13
  replace f0 := shm_4 f0
  have f1 : v_iv (n_v vs 12) ≤ v_iv (n_v vs 6) + v_iv (n_v vs 11) ∧ v_iv (n_v vs 6) ≤ v_iv (n_v vs 12) ∧ v_iv (n_v vs 11) ≤ v_iv (n_v vs 12) := (fun (h : v_iv (n_v vs 12) ≤ v_iv (n_v vs 6) + v_iv (n_v vs 11) ∧ v_iv (n_v vs 6) ≤ v_iv (n_v vs 12) ∧ v_iv (n_v vs 11) ≤ v_iv (n_v vs 12) ∧ (v_iv (n_v vs 12)).toNat = (v_iv (n_v vs 6)).toNat ||| (v_iv (n_v vs 11)).toNat) => ⟨h.1, h.2.1, h.2.2.1⟩) f1
  replace f2 := shm_354 f2
  replace f3 := shm_107 f3
  replace f4 := shm_142 f4
  replace f5 := shm_364 f5
  replace f6 := shm_11 f6
  replace f7 := shm_13 f7
  replace f8 := shm_6 f8
  replace f9 := shm_362 f9
  replace f10 := shm_7 f10
  replace f11 := shm_5 f11
  replace f12 := shm_5 f12
  replace f13 := shm_5 f13
  have q3 : n_v vs 3 = n_v vs 0 := f11.symm
  have q4 : n_v vs 4 = n_v vs 1 := f12.symm
  have q5 : n_v vs 5 = n_v vs 2 := f13.symm
  simp only [q3, q5, q4] at f3 f7 f8 f9 f10
  have cr_0_999 : ta (v_ad (n_v vs 0)) = some 142 := r0
  have h3 : v_iv (n_v vs 11) = w_ei ws (v_ad (n_v vs 0)) (v_iv (n_v vs 7)) := f3
  have hK_0_999 := elq_27 hD hth cr_0_999
  have nf0 : fc_1 PRD (20, [3, 13, 5, 12], [61, 1, 556]) ws (vs) := by
    refine ⟨nf_in hl rfl, sgq_362 ?_⟩
    · show NEI (w_ei ws (v_ad (n_v vs 3))) (v_iv (n_v vs 13)) (v_iv (n_v vs 5)) (v_iv (n_v vs 12))
      simp only [q3, q5]
      exact vc_Fa_nearOf_at_Npnear_3_0 (v_iv (n_v vs 1)) (v_iv (n_v vs 2)) (v_iv (n_v vs 4)) (v_iv (n_v vs 5)) (v_iv (n_v vs 6)) (v_iv (n_v vs 7)) (v_iv (n_v vs 8)) (v_iv (n_v vs 9)) (v_iv (n_v vs 10)) (v_iv (n_v vs 11)) (v_iv (n_v vs 12)) (v_iv (n_v vs 13)) (w_ei ws (v_ad (n_v vs 0))) k1 k2 k4 k5 k6 k7 k8 k9 k10 k11 k12 k13 d0 d1 d2 d3 d4 d5 d6 d7 d8 d9 d10 d11 f0 f1 f2 h3 f4 f5 f6 f7 f8 f9 f10 hK_0_999
  have nf1 : fc_1 PRD (23, [13, 4], [0, 1, -1]) ws (vs) := by
    refine ⟨nf_in hl rfl, sgq_7 ?_⟩
    · show 1 * v_iv (n_v vs 13) + ((-1) * v_iv (n_v vs 4) + 0) ≤ 0
      rw [q4]
      exact vc_Fa_nearOf_at_Npnear_3_1 (v_iv (n_v vs 1)) (v_iv (n_v vs 2)) (v_iv (n_v vs 4)) (v_iv (n_v vs 5)) (v_iv (n_v vs 6)) (v_iv (n_v vs 7)) (v_iv (n_v vs 8)) (v_iv (n_v vs 9)) (v_iv (n_v vs 10)) (v_iv (n_v vs 11)) (v_iv (n_v vs 12)) (v_iv (n_v vs 13)) (w_ei ws (v_ad (n_v vs 0))) k1 k2 k4 k5 k6 k7 k8 k9 k10 k11 k12 k13 d0 d1 d2 d3 d4 d5 d6 d7 d8 d9 d10 d11 f0 f1 f2 h3 f4 f5 f6 f7 f8 f9 f10 hK_0_999
  refine ⟨(fun _ h => (by cases h)), [], trivial, ?_, (fun _ h => (by cases h))⟩
  rw [List.append_nil]
  exact List.forall_mem_cons.mpr ⟨⟨show (20 : Nat) < 100 from by decide, nf0⟩, List.forall_mem_cons.mpr ⟨⟨show (23 : Nat) < 100 from by decide, nf1⟩, (fun _ h => (by cases h))⟩⟩
def n_Fa_nearOf_at_Npnear_an : List an_T := [(5, [(0, (2, 0, 0, [142])), (1, (0, 0, 25, [])), (2, (0, 0, 33554431, [])), (3, (0, 0, 33554431, [])), (4, (0, 0, 25, []))], [], (0, 0), [(0, 0, 99995), (1, 7, 25), (0, 0, 100000)], [(1, 4, (Int.negSucc 999999999999), 0), (2, 5, (Int.negSucc 999999999999), 0), (4, 1, (Int.negSucc 999999999999), 0), (5, 2, (Int.negSucc 999999999999), 0), (6, 1, (Int.negSucc 999999999999), 33554430), (6, 4, (Int.negSucc 999999999999), 33554430), (6, 7, (Int.negSucc 999999999999), 33554430), (7, 1, (Int.negSucc 999999999999), 0), (7, 4, (Int.negSucc 999999999999), 0)], [], [(2, 0, 0, [142]), (0, 0, 25, []), (0, 0, 33554431, [])], 0, [], [(20, [3, 7, 5, 6], [61, 1, 556]), (23, [7, 4], [0, 1, (Int.negSucc 0)]), (24, [0, 3], []), (24, [1, 4], []), (24, [2, 5], [])])]
def t_Fa_nearOf_at_Npnear_ct : ct_L := []
set_option maxRecDepth 100000 in
theorem c_Fa_nearOf_at_Npnear {l : Launch} {D : va_G} {kA : Nat → ClassId} : ct_ok PRD l D kA GG y_Fa_nearOf_at_Npnear z_Fa_nearOf_at_Npnear e_Fa_nearOf_at_Npnear := chk_all_ok (FT := []) (PT := []) (CT := t_Fa_nearOf_at_Npnear_ct) (KT := []) (NT := []) (AN := n_Fa_nearOf_at_Npnear_an) (OT := [o_Fa_nearOf_at_Npnear_0, o_Fa_nearOf_at_Npnear_1, o_Fa_nearOf_at_Npnear_2, o_Fa_nearOf_at_Npnear_3]) 3 200 (List.forall_mem_cons.mpr ⟨oo_Fa_nearOf_at_Npnear_0, List.forall_mem_cons.mpr ⟨oo_Fa_nearOf_at_Npnear_1, List.forall_mem_cons.mpr ⟨oo_Fa_nearOf_at_Npnear_2, List.forall_mem_cons.mpr ⟨oo_Fa_nearOf_at_Npnear_3, List.forall_mem_nil _⟩⟩⟩⟩) (by decide +kernel) ⟨List.forall_mem_nil _, List.forall_mem_nil _, List.forall_mem_nil _, List.forall_mem_nil _, List.forall_mem_nil _, GG_pl⟩ (by decide +kernel)
set_option maxHeartbeats 4000000 in
theorem vc_Fa_relabel_at_Emblock_gn_0_0 (x1 : Int) (x2 : Int) (x3 : Int) (x6 : Int) (x8 : Int) (x9 : Int) (x10 : Int) (a0_0 : Int → Int) (a4_0 : Int → Int) (a5_0 : Int → Int) (a7_0 : Int → Int) (k1 : 1 ≤ x1 ∧ x1 ≤ 72) (k2 : 0 ≤ x2 ∧ x2 ≤ 71) (k3 : 0 ≤ x3 ∧ x3 ≤ 71) (k6 : 0 ≤ x6 ∧ x6 ≤ 24) (k8 : 0 ≤ x8 ∧ x8 ≤ 25) (k9 : (-2147483648) ≤ x9 ∧ x9 ≤ 2147483647) (k10 : 0 ≤ x10 ∧ x10 ≤ 0) (f0 : BLQ (a0_0) (x1)) (f1 : (0 ≤ x3) ∧ (x3 ≤ x2)) (f2 : RLP (a0_0) (a4_0) (a5_0) (x1) (x2) (x3) (x6)) (f3 : QKP (a0_0) (a4_0) (a5_0) (a7_0) (x8) (x1) (x6) (x9) (x2) (x3)) (hK_0_999 : ∀ j : Int, 0 ≤ j → j < 72 → (-1) ≤ a0_0 j ∧ a0_0 j ≤ 71) (hK_4_999 : ∀ j : Int, 0 ≤ j → j < 72 → 0 ≤ a4_0 j ∧ a4_0 j ≤ 23) (hK_5_999 : ∀ j : Int, 0 ≤ j → j < 72 → 0 ≤ a5_0 j ∧ a5_0 j ≤ 23) (hK_7_999 : ∀ j : Int, 0 ≤ j → j < 25 → 0 ≤ a7_0 j ∧ a7_0 j ≤ 16777215) : RLI (a0_0) (a4_0) (a5_0) (x1) (x2) (x3) (x6) (x10) := by
  first
    | exact rli_start ‹RLP _ _ _ _ _ _ _› (by omega)
    | exact rli_skip ‹RLI _ _ _ _ _ _ _ _› (by assumption) (by omega) (by omega)
    | exact rli_step ‹RLI _ _ _ _ _ _ _ _› (by assumption) (by omega) (by assumption) (by omega) (by omega) (by omega)
  
set_option maxHeartbeats 4000000 in
theorem vc_Fa_relabel_at_Emblock_gn_0_1 (x1 : Int) (x2 : Int) (x3 : Int) (x6 : Int) (x8 : Int) (x9 : Int) (x10 : Int) (a0_0 : Int → Int) (a4_0 : Int → Int) (a5_0 : Int → Int) (a7_0 : Int → Int) (k1 : 1 ≤ x1 ∧ x1 ≤ 72) (k2 : 0 ≤ x2 ∧ x2 ≤ 71) (k3 : 0 ≤ x3 ∧ x3 ≤ 71) (k6 : 0 ≤ x6 ∧ x6 ≤ 24) (k8 : 0 ≤ x8 ∧ x8 ≤ 25) (k9 : (-2147483648) ≤ x9 ∧ x9 ≤ 2147483647) (k10 : 0 ≤ x10 ∧ x10 ≤ 0) (f0 : BLQ (a0_0) (x1)) (f1 : (0 ≤ x3) ∧ (x3 ≤ x2)) (f2 : RLP (a0_0) (a4_0) (a5_0) (x1) (x2) (x3) (x6)) (f3 : QKP (a0_0) (a4_0) (a5_0) (a7_0) (x8) (x1) (x6) (x9) (x2) (x3)) (hK_0_999 : ∀ j : Int, 0 ≤ j → j < 72 → (-1) ≤ a0_0 j ∧ a0_0 j ≤ 71) (hK_4_999 : ∀ j : Int, 0 ≤ j → j < 72 → 0 ≤ a4_0 j ∧ a4_0 j ≤ 23) (hK_5_999 : ∀ j : Int, 0 ≤ j → j < 72 → 0 ≤ a5_0 j ∧ a5_0 j ≤ 23) (hK_7_999 : ∀ j : Int, 0 ≤ j → j < 25 → 0 ≤ a7_0 j ∧ a7_0 j ≤ 16777215) : QKI (a0_0) (a4_0) (a5_0) (a7_0) (x8) (x1) (x6) (x9) (x2) (x3) (x10) := by
  first
    | exact qki_start ‹QKP _ _ _ _ _ _ _ _ _ _› (by omega)
    | exact qki_skip ‹QKI _ _ _ _ _ _ _ _ _ _ _› (by assumption) (by omega) (by omega)
    | exact qki_step ‹QKI _ _ _ _ _ _ _ _ _ _ _› (by assumption) (by omega) (by assumption) rfl (by omega) (by omega)
  
def o_Fa_relabel_at_Emblock_gn_0 : or_T := (3, 11, [(0, (2, 0, 0, [26])), (1, (0, 1, 72, [])), (2, (0, 0, 71, [])), (3, (0, 0, 71, [])), (4, (2, 0, 0, [80])), (5, (2, 0, 0, [81])), (6, (0, 0, 24, [])), (7, (2, 0, 0, [82])), (8, (0, 0, 25, [])), (9, (0, -2147483648, 2147483647, [])), (10, (0, 0, 0, []))], [(20, [0, 1], [61, 1, 566]), (20, [3, 2], [50, 0, 0, 2, 6, 0, 2, 0, 0, 1, 0, 0, 2, 1, 0, 1, 1]), (20, [0, 4, 5, 1, 2, 3, 6], [61, 3, 581]), (20, [0, 4, 5, 7, 8, 1, 6, 9, 2, 3], [61, 4, 590])], [], [], [(20, [0, 4, 5, 1, 2, 3, 6, 10], [61, 3, 582]), (20, [0, 4, 5, 7, 8, 1, 6, 9, 2, 3, 10], [61, 4, 591]), (24, [0, 0], []), (24, [1, 1], []), (24, [2, 2], []), (24, [3, 3], [])], [], [])
theorem oo_Fa_relabel_at_Emblock_gn_0 {kA : Nat → ClassId} : or_ok PRD kA GG o_Fa_relabel_at_Emblock_gn_0 := by
  refine or_mk fun A ta ws vs hD hth hl => ?_
  intro t0 r0 t1 k1 t2 k2 t3 k3 t4 r4 t5 r5 t6 k6 t7 r7 t8 k8 t9 k9 t10 k10 f0 f1 f2 f3
  have cr_0_999 : ta (v_ad (n_v vs 0)) = some 26 := r0
  have cr_4_999 : ta (v_ad (n_v vs 4)) = some 80 := r4
  have cr_5_999 : ta (v_ad (n_v vs 5)) = some 81 := r5
  have cr_7_999 : ta (v_ad (n_v vs 7)) = some 82 := r7
  have hK_0_999 := elq_18 hD hth cr_0_999
  have hK_4_999 := elq_19 hD hth cr_4_999
  have hK_5_999 := elq_20 hD hth cr_5_999
  have hK_7_999 := elq_26 hD hth cr_7_999
  have nf0 : fc_1 PRD (20, [0, 4, 5, 1, 2, 3, 6, 10], [61, 3, 582]) ws (vs) := ⟨nf_in hl rfl, sgq_369 (vc_Fa_relabel_at_Emblock_gn_0_0 (v_iv (n_v vs 1)) (v_iv (n_v vs 2)) (v_iv (n_v vs 3)) (v_iv (n_v vs 6)) (v_iv (n_v vs 8)) (v_iv (n_v vs 9)) (v_iv (n_v vs 10)) (w_ei ws (v_ad (n_v vs 0))) (w_ei ws (v_ad (n_v vs 4))) (w_ei ws (v_ad (n_v vs 5))) (w_ei ws (v_ad (n_v vs 7))) k1 k2 k3 k6 k8 k9 k10 (shm_365 f0) (shm_366 f1) (shm_367 f2) (shm_368 f3) hK_0_999 hK_4_999 hK_5_999 hK_7_999)⟩
  have nf1 : fc_1 PRD (20, [0, 4, 5, 7, 8, 1, 6, 9, 2, 3, 10], [61, 4, 591]) ws (vs) := ⟨nf_in hl rfl, sgq_370 (vc_Fa_relabel_at_Emblock_gn_0_1 (v_iv (n_v vs 1)) (v_iv (n_v vs 2)) (v_iv (n_v vs 3)) (v_iv (n_v vs 6)) (v_iv (n_v vs 8)) (v_iv (n_v vs 9)) (v_iv (n_v vs 10)) (w_ei ws (v_ad (n_v vs 0))) (w_ei ws (v_ad (n_v vs 4))) (w_ei ws (v_ad (n_v vs 5))) (w_ei ws (v_ad (n_v vs 7))) k1 k2 k3 k6 k8 k9 k10 (shm_365 f0) (shm_366 f1) (shm_367 f2) (shm_368 f3) hK_0_999 hK_4_999 hK_5_999 hK_7_999)⟩
  have nf2 : fc_1 PRD (24, [0, 0], []) ws (vs) := by
    refine ⟨nf_in hl rfl, sgq_1 ?_⟩
    · show n_v vs 0 = n_v vs 0
      first | rfl | simp only [true_and]
  have nf3 : fc_1 PRD (24, [1, 1], []) ws (vs) := by
    refine ⟨nf_in hl rfl, sgq_1 ?_⟩
    · show n_v vs 1 = n_v vs 1
      first | rfl | simp only [true_and]
  have nf4 : fc_1 PRD (24, [2, 2], []) ws (vs) := by
    refine ⟨nf_in hl rfl, sgq_1 ?_⟩
    · show n_v vs 2 = n_v vs 2
      first | rfl | simp only [true_and]
  have nf5 : fc_1 PRD (24, [3, 3], []) ws (vs) := by
    refine ⟨nf_in hl rfl, sgq_1 ?_⟩
    · show n_v vs 3 = n_v vs 3
      first | rfl | simp only [true_and]
  refine ⟨(fun _ h => (by cases h)), [], trivial, ?_, (fun _ h => (by cases h))⟩
  rw [List.append_nil]
  exact List.forall_mem_cons.mpr ⟨⟨show (20 : Nat) < 100 from by decide, nf0⟩, List.forall_mem_cons.mpr ⟨⟨show (20 : Nat) < 100 from by decide, nf1⟩, List.forall_mem_cons.mpr ⟨⟨show (24 : Nat) < 100 from by decide, nf2⟩, List.forall_mem_cons.mpr ⟨⟨show (24 : Nat) < 100 from by decide, nf3⟩, List.forall_mem_cons.mpr ⟨⟨show (24 : Nat) < 100 from by decide, nf4⟩, List.forall_mem_cons.mpr ⟨⟨show (24 : Nat) < 100 from by decide, nf5⟩, (fun _ h => (by cases h))⟩⟩⟩⟩⟩⟩
set_option maxHeartbeats 4000000 in
theorem vc_Fa_relabel_at_Emblock_gn_1_0 (x1 : Int) (x2 : Int) (x3 : Int) (x6 : Int) (x8 : Int) (x9 : Int) (x11 : Int) (x12 : Int) (x13 : Int) (x14 : Int) (a0_0 : Int → Int) (a4_0 : Int → Int) (a5_0 : Int → Int) (a7_0 : Int → Int) (k1 : 1 ≤ x1 ∧ x1 ≤ 72) (k2 : 0 ≤ x2 ∧ x2 ≤ 71) (k3 : 0 ≤ x3 ∧ x3 ≤ 71) (k6 : 0 ≤ x6 ∧ x6 ≤ 24) (k8 : 0 ≤ x8 ∧ x8 ≤ 25) (k9 : (-2147483648) ≤ x9 ∧ x9 ≤ 2147483647) (k11 : 1 ≤ x11 ∧ x11 ≤ 72) (k12 : 0 ≤ x12 ∧ x12 ≤ 71) (k13 : 0 ≤ x13 ∧ x13 ≤ 71) (k14 : 1 ≤ x14 ∧ x14 ≤ 72) (d0 : x11 + 0 ≤ x14 ∧ x14 ≤ x11 + 4294967296) (d1 : x11 + (-4294967296) ≤ x1 ∧ x1 ≤ x11 + 0) (d2 : x12 + (-4294967296) ≤ x2 ∧ x2 ≤ x12 + 0) (d3 : x13 + (-4294967296) ≤ x3 ∧ x3 ≤ x13 + 0) (d4 : x1 + (-4294967296) ≤ x11 ∧ x11 ≤ x1 + 0) (d5 : x2 + (-4294967296) ≤ x12 ∧ x12 ≤ x2 + 0) (d6 : x3 + (-4294967296) ≤ x13 ∧ x13 ≤ x3 + 0) (d7 : x1 + (-4294967296) ≤ x14 ∧ x14 ≤ x1 + 0) (d8 : x11 + (-4294967296) ≤ x14 ∧ x14 ≤ x11 + 0) (f0 : x1 ≤ x14) (f1 : BLQ (a0_0) (x1)) (f2 : (0 ≤ x3) ∧ (x3 ≤ x2)) (f3 : RLI (a0_0) (a4_0) (a5_0) (x1) (x2) (x3) (x6) (x14)) (f4 : QKI (a0_0) (a4_0) (a5_0) (a7_0) (x8) (x1) (x6) (x9) (x2) (x3) (x14)) (hK_0_999 : ∀ j : Int, 0 ≤ j → j < 72 → (-1) ≤ a0_0 j ∧ a0_0 j ≤ 71) (hK_4_999 : ∀ j : Int, 0 ≤ j → j < 72 → 0 ≤ a4_0 j ∧ a4_0 j ≤ 23) (hK_5_999 : ∀ j : Int, 0 ≤ j → j < 72 → 0 ≤ a5_0 j ∧ a5_0 j ≤ 23) (hK_7_999 : ∀ j : Int, 0 ≤ j → j < 25 → 0 ≤ a7_0 j ∧ a7_0 j ≤ 16777215) : BLQ (a0_0) (x1) := by
  first
    | assumption
    | (skip; exact blq_set ‹BLQ _ _› (by assumption) rfl rfl (by omega) (by omega) (by omega) (by omega) (by omega))
  
set_option maxHeartbeats 4000000 in
theorem vc_Fa_relabel_at_Emblock_gn_1_1 (x1 : Int) (x2 : Int) (x3 : Int) (x6 : Int) (x8 : Int) (x9 : Int) (x11 : Int) (x12 : Int) (x13 : Int) (x14 : Int) (a0_0 : Int → Int) (a4_0 : Int → Int) (a5_0 : Int → Int) (a7_0 : Int → Int) (k1 : 1 ≤ x1 ∧ x1 ≤ 72) (k2 : 0 ≤ x2 ∧ x2 ≤ 71) (k3 : 0 ≤ x3 ∧ x3 ≤ 71) (k6 : 0 ≤ x6 ∧ x6 ≤ 24) (k8 : 0 ≤ x8 ∧ x8 ≤ 25) (k9 : (-2147483648) ≤ x9 ∧ x9 ≤ 2147483647) (k11 : 1 ≤ x11 ∧ x11 ≤ 72) (k12 : 0 ≤ x12 ∧ x12 ≤ 71) (k13 : 0 ≤ x13 ∧ x13 ≤ 71) (k14 : 1 ≤ x14 ∧ x14 ≤ 72) (d0 : x11 + 0 ≤ x14 ∧ x14 ≤ x11 + 4294967296) (d1 : x11 + (-4294967296) ≤ x1 ∧ x1 ≤ x11 + 0) (d2 : x12 + (-4294967296) ≤ x2 ∧ x2 ≤ x12 + 0) (d3 : x13 + (-4294967296) ≤ x3 ∧ x3 ≤ x13 + 0) (d4 : x1 + (-4294967296) ≤ x11 ∧ x11 ≤ x1 + 0) (d5 : x2 + (-4294967296) ≤ x12 ∧ x12 ≤ x2 + 0) (d6 : x3 + (-4294967296) ≤ x13 ∧ x13 ≤ x3 + 0) (d7 : x1 + (-4294967296) ≤ x14 ∧ x14 ≤ x1 + 0) (d8 : x11 + (-4294967296) ≤ x14 ∧ x14 ≤ x11 + 0) (f0 : x1 ≤ x14) (f1 : BLQ (a0_0) (x1)) (f2 : (0 ≤ x3) ∧ (x3 ≤ x2)) (f3 : RLI (a0_0) (a4_0) (a5_0) (x1) (x2) (x3) (x6) (x14)) (f4 : QKI (a0_0) (a4_0) (a5_0) (a7_0) (x8) (x1) (x6) (x9) (x2) (x3) (x14)) (hK_0_999 : ∀ j : Int, 0 ≤ j → j < 72 → (-1) ≤ a0_0 j ∧ a0_0 j ≤ 71) (hK_4_999 : ∀ j : Int, 0 ≤ j → j < 72 → 0 ≤ a4_0 j ∧ a4_0 j ≤ 23) (hK_5_999 : ∀ j : Int, 0 ≤ j → j < 72 → 0 ≤ a5_0 j ∧ a5_0 j ≤ 23) (hK_7_999 : ∀ j : Int, 0 ≤ j → j < 25 → 0 ≤ a7_0 j ∧ a7_0 j ≤ 16777215) : RLO (a0_0) (a4_0) (a5_0) (x1) (x3) (x6) := by
  first
    | exact rlo_of ‹RLI _ _ _ _ _ _ _ _› (by omega)
  
set_option maxHeartbeats 4000000 in
theorem vc_Fa_relabel_at_Emblock_gn_1_2 (x1 : Int) (x2 : Int) (x3 : Int) (x6 : Int) (x8 : Int) (x9 : Int) (x11 : Int) (x12 : Int) (x13 : Int) (x14 : Int) (a0_0 : Int → Int) (a4_0 : Int → Int) (a5_0 : Int → Int) (a7_0 : Int → Int) (k1 : 1 ≤ x1 ∧ x1 ≤ 72) (k2 : 0 ≤ x2 ∧ x2 ≤ 71) (k3 : 0 ≤ x3 ∧ x3 ≤ 71) (k6 : 0 ≤ x6 ∧ x6 ≤ 24) (k8 : 0 ≤ x8 ∧ x8 ≤ 25) (k9 : (-2147483648) ≤ x9 ∧ x9 ≤ 2147483647) (k11 : 1 ≤ x11 ∧ x11 ≤ 72) (k12 : 0 ≤ x12 ∧ x12 ≤ 71) (k13 : 0 ≤ x13 ∧ x13 ≤ 71) (k14 : 1 ≤ x14 ∧ x14 ≤ 72) (d0 : x11 + 0 ≤ x14 ∧ x14 ≤ x11 + 4294967296) (d1 : x11 + (-4294967296) ≤ x1 ∧ x1 ≤ x11 + 0) (d2 : x12 + (-4294967296) ≤ x2 ∧ x2 ≤ x12 + 0) (d3 : x13 + (-4294967296) ≤ x3 ∧ x3 ≤ x13 + 0) (d4 : x1 + (-4294967296) ≤ x11 ∧ x11 ≤ x1 + 0) (d5 : x2 + (-4294967296) ≤ x12 ∧ x12 ≤ x2 + 0) (d6 : x3 + (-4294967296) ≤ x13 ∧ x13 ≤ x3 + 0) (d7 : x1 + (-4294967296) ≤ x14 ∧ x14 ≤ x1 + 0) (d8 : x11 + (-4294967296) ≤ x14 ∧ x14 ≤ x11 + 0) (f0 : x1 ≤ x14) (f1 : BLQ (a0_0) (x1)) (f2 : (0 ≤ x3) ∧ (x3 ≤ x2)) (f3 : RLI (a0_0) (a4_0) (a5_0) (x1) (x2) (x3) (x6) (x14)) (f4 : QKI (a0_0) (a4_0) (a5_0) (a7_0) (x8) (x1) (x6) (x9) (x2) (x3) (x14)) (hK_0_999 : ∀ j : Int, 0 ≤ j → j < 72 → (-1) ≤ a0_0 j ∧ a0_0 j ≤ 71) (hK_4_999 : ∀ j : Int, 0 ≤ j → j < 72 → 0 ≤ a4_0 j ∧ a4_0 j ≤ 23) (hK_5_999 : ∀ j : Int, 0 ≤ j → j < 72 → 0 ≤ a5_0 j ∧ a5_0 j ≤ 23) (hK_7_999 : ∀ j : Int, 0 ≤ j → j < 25 → 0 ≤ a7_0 j ∧ a7_0 j ≤ 16777215) : QKO (a0_0) (a4_0) (a5_0) (a7_0) (x8) (x1) (x6) (x9) (x3) := by
  first
    | exact qko_of ‹QKI _ _ _ _ _ _ _ _ _ _ _› (by omega)
  
def o_Fa_relabel_at_Emblock_gn_1 : or_T := (28, 15, [(0, (2, 0, 0, [26])), (1, (0, 1, 72, [])), (2, (0, 0, 71, [])), (3, (0, 0, 71, [])), (4, (2, 0, 0, [80])), (5, (2, 0, 0, [81])), (6, (0, 0, 24, [])), (7, (2, 0, 0, [82])), (8, (0, 0, 25, [])), (9, (0, -2147483648, 2147483647, [])), (11, (0, 1, 72, [])), (12, (0, 0, 71, [])), (13, (0, 0, 71, [])), (14, (0, 1, 72, []))], [(7, [14, 11], [3]), (20, [10, 11], [61, 1, 566]), (20, [13, 12], [50, 0, 0, 2, 6, 0, 2, 0, 0, 1, 0, 0, 2, 1, 0, 1, 1]), (20, [10, 4, 5, 11, 12, 13, 6, 14], [61, 3, 582]), (20, [10, 4, 5, 7, 8, 11, 6, 9, 12, 13, 14], [61, 4, 591]), (24, [0, 10], []), (24, [1, 11], []), (24, [2, 12], []), (24, [3, 13], [])], [], [], [(20, [0, 1], [61, 1, 566]), (20, [0, 4, 5, 1, 3, 6], [61, 3, 583]), (20, [0, 4, 5, 7, 8, 1, 6, 9, 3], [61, 4, 592])], [], [(14, 11, 0, 4294967296), (1, 11, -4294967296, 0), (2, 12, -4294967296, 0), (3, 13, -4294967296, 0), (11, 1, -4294967296, 0), (12, 2, -4294967296, 0), (13, 3, -4294967296, 0), (14, 1, -4294967296, 0), (14, 11, -4294967296, 0)])
theorem oo_Fa_relabel_at_Emblock_gn_1 {kA : Nat → ClassId} : or_ok PRD kA GG o_Fa_relabel_at_Emblock_gn_1 := by
  refine or_mk fun A ta ws vs hD hth hl => ?_
  intro t0 r0 t1 k1 t2 k2 t3 k3 t4 r4 t5 r5 t6 k6 t7 r7 t8 k8 t9 k9 t11 k11 t12 k12 t13 k13 t14 k14 d0 d1 d2 d3 d4 d5 d6 d7 d8 f0 f1 f2 f3 f4 f5 f6 f7 f8
  replace f0 := shm_2 f0
  replace f1 := shm_365 f1
  replace f2 := shm_366 f2
  replace f3 := shm_369 f3
  replace f4 := shm_370 f4
  replace f5 := shm_5 f5
  replace f6 := shm_5 f6
  replace f7 := shm_5 f7
  replace f8 := shm_5 f8
  have q10 : n_v vs 10 = n_v vs 0 := f5.symm
  have q11 : n_v vs 11 = n_v vs 1 := f6.symm
  have q12 : n_v vs 12 = n_v vs 2 := f7.symm
  have q13 : n_v vs 13 = n_v vs 3 := f8.symm
  simp only [q11, q10, q12, q13] at f0 f1 f2 f3 f4
  have cr_0_999 : ta (v_ad (n_v vs 0)) = some 26 := r0
  have cr_4_999 : ta (v_ad (n_v vs 4)) = some 80 := r4
  have cr_5_999 : ta (v_ad (n_v vs 5)) = some 81 := r5
  have cr_7_999 : ta (v_ad (n_v vs 7)) = some 82 := r7
  have hK_0_999 := elq_18 hD hth cr_0_999
  have hK_4_999 := elq_19 hD hth cr_4_999
  have hK_5_999 := elq_20 hD hth cr_5_999
  have hK_7_999 := elq_26 hD hth cr_7_999
  have nf0 : fc_1 PRD (20, [0, 1], [61, 1, 566]) ws (vs) := ⟨nf_in hl rfl, sgq_365 (vc_Fa_relabel_at_Emblock_gn_1_0 (v_iv (n_v vs 1)) (v_iv (n_v vs 2)) (v_iv (n_v vs 3)) (v_iv (n_v vs 6)) (v_iv (n_v vs 8)) (v_iv (n_v vs 9)) (v_iv (n_v vs 11)) (v_iv (n_v vs 12)) (v_iv (n_v vs 13)) (v_iv (n_v vs 14)) (w_ei ws (v_ad (n_v vs 0))) (w_ei ws (v_ad (n_v vs 4))) (w_ei ws (v_ad (n_v vs 5))) (w_ei ws (v_ad (n_v vs 7))) k1 k2 k3 k6 k8 k9 k11 k12 k13 k14 d0 d1 d2 d3 d4 d5 d6 d7 d8 f0 f1 f2 f3 f4 hK_0_999 hK_4_999 hK_5_999 hK_7_999)⟩
  have nf1 : fc_1 PRD (20, [0, 4, 5, 1, 3, 6], [61, 3, 583]) ws (vs) := ⟨nf_in hl rfl, sgq_371 (vc_Fa_relabel_at_Emblock_gn_1_1 (v_iv (n_v vs 1)) (v_iv (n_v vs 2)) (v_iv (n_v vs 3)) (v_iv (n_v vs 6)) (v_iv (n_v vs 8)) (v_iv (n_v vs 9)) (v_iv (n_v vs 11)) (v_iv (n_v vs 12)) (v_iv (n_v vs 13)) (v_iv (n_v vs 14)) (w_ei ws (v_ad (n_v vs 0))) (w_ei ws (v_ad (n_v vs 4))) (w_ei ws (v_ad (n_v vs 5))) (w_ei ws (v_ad (n_v vs 7))) k1 k2 k3 k6 k8 k9 k11 k12 k13 k14 d0 d1 d2 d3 d4 d5 d6 d7 d8 f0 f1 f2 f3 f4 hK_0_999 hK_4_999 hK_5_999 hK_7_999)⟩
  have nf2 : fc_1 PRD (20, [0, 4, 5, 7, 8, 1, 6, 9, 3], [61, 4, 592]) ws (vs) := ⟨nf_in hl rfl, sgq_372 (vc_Fa_relabel_at_Emblock_gn_1_2 (v_iv (n_v vs 1)) (v_iv (n_v vs 2)) (v_iv (n_v vs 3)) (v_iv (n_v vs 6)) (v_iv (n_v vs 8)) (v_iv (n_v vs 9)) (v_iv (n_v vs 11)) (v_iv (n_v vs 12)) (v_iv (n_v vs 13)) (v_iv (n_v vs 14)) (w_ei ws (v_ad (n_v vs 0))) (w_ei ws (v_ad (n_v vs 4))) (w_ei ws (v_ad (n_v vs 5))) (w_ei ws (v_ad (n_v vs 7))) k1 k2 k3 k6 k8 k9 k11 k12 k13 k14 d0 d1 d2 d3 d4 d5 d6 d7 d8 f0 f1 f2 f3 f4 hK_0_999 hK_4_999 hK_5_999 hK_7_999)⟩
  refine ⟨(fun _ h => (by cases h)), [], trivial, ?_, (fun _ h => (by cases h))⟩
  rw [List.append_nil]
  exact List.forall_mem_cons.mpr ⟨⟨show (20 : Nat) < 100 from by decide, nf0⟩, List.forall_mem_cons.mpr ⟨⟨show (20 : Nat) < 100 from by decide, nf1⟩, List.forall_mem_cons.mpr ⟨⟨show (20 : Nat) < 100 from by decide, nf2⟩, (fun _ h => (by cases h))⟩⟩⟩
set_option maxHeartbeats 4000000 in
theorem vc_Fa_relabel_at_Emblock_gn_2_0 (x1 : Int) (x2 : Int) (x3 : Int) (x6 : Int) (x8 : Int) (x9 : Int) (x11 : Int) (x12 : Int) (x13 : Int) (x14 : Int) (x15 : Int) (x16 : Int) (a0_0 : Int → Int) (a4_0 : Int → Int) (a5_0 : Int → Int) (a7_0 : Int → Int) (k1 : 1 ≤ x1 ∧ x1 ≤ 72) (k2 : 0 ≤ x2 ∧ x2 ≤ 71) (k3 : 0 ≤ x3 ∧ x3 ≤ 71) (k6 : 0 ≤ x6 ∧ x6 ≤ 24) (k8 : 0 ≤ x8 ∧ x8 ≤ 25) (k9 : (-2147483648) ≤ x9 ∧ x9 ≤ 2147483647) (k11 : 1 ≤ x11 ∧ x11 ≤ 72) (k12 : 0 ≤ x12 ∧ x12 ≤ 71) (k13 : 0 ≤ x13 ∧ x13 ≤ 71) (k14 : 0 ≤ x14 ∧ x14 ≤ 71) (k15 : (-1) ≤ x15 ∧ x15 ≤ 71) (k16 : 1 ≤ x16 ∧ x16 ≤ 72) (d0 : x14 + 1 ≤ x16 ∧ x16 ≤ x14 + 1) (d1 : x11 + (-4294967296) ≤ x16 ∧ x16 ≤ x11 + 0) (d2 : x1 + (-4294967296) ≤ x16 ∧ x16 ≤ x1 + 1) (d3 : x11 + (-4294967296) ≤ x16 ∧ x16 ≤ x11 + 1) (d4 : x11 + (-4294967296) ≤ x14 ∧ x14 ≤ x11 + (-1)) (d5 : x11 + (-4294967296) ≤ x1 ∧ x1 ≤ x11 + 0) (d6 : x12 + (-4294967296) ≤ x2 ∧ x2 ≤ x12 + 0) (d7 : x13 + (-4294967296) ≤ x3 ∧ x3 ≤ x13 + 0) (d8 : x1 + (-4294967296) ≤ x11 ∧ x11 ≤ x1 + 0) (d9 : x2 + (-4294967296) ≤ x12 ∧ x12 ≤ x2 + 0) (d10 : x3 + (-4294967296) ≤ x13 ∧ x13 ≤ x3 + 0) (d11 : x1 + (-4294967296) ≤ x14 ∧ x14 ≤ x1 + 0) (d12 : x11 + (-4294967296) ≤ x14 ∧ x14 ≤ x11 + 0) (f0 : x16 = x14 + 1) (f1 : x15 ≠ x2) (h2 : x15 = a0_0 (x14)) (f3 : x14 < x1) (f4 : BLQ (a0_0) (x1)) (f5 : (0 ≤ x3) ∧ (x3 ≤ x2)) (f6 : RLI (a0_0) (a4_0) (a5_0) (x1) (x2) (x3) (x6) (x14)) (f7 : QKI (a0_0) (a4_0) (a5_0) (a7_0) (x8) (x1) (x6) (x9) (x2) (x3) (x14)) (hK_0_999 : ∀ j : Int, 0 ≤ j → j < 72 → (-1) ≤ a0_0 j ∧ a0_0 j ≤ 71) (hK_4_999 : ∀ j : Int, 0 ≤ j → j < 72 → 0 ≤ a4_0 j ∧ a4_0 j ≤ 23) (hK_5_999 : ∀ j : Int, 0 ≤ j → j < 72 → 0 ≤ a5_0 j ∧ a5_0 j ≤ 23) (hK_7_999 : ∀ j : Int, 0 ≤ j → j < 25 → 0 ≤ a7_0 j ∧ a7_0 j ≤ 16777215) : RLI (a0_0) (a4_0) (a5_0) (x1) (x2) (x3) (x6) (x16) := by
  first
    | exact rli_start ‹RLP _ _ _ _ _ _ _› (by omega)
    | exact rli_skip ‹RLI _ _ _ _ _ _ _ _› (by assumption) (by omega) (by omega)
    | exact rli_step ‹RLI _ _ _ _ _ _ _ _› (by assumption) (by omega) (by assumption) (by omega) (by omega) (by omega)
  
set_option maxHeartbeats 4000000 in
theorem vc_Fa_relabel_at_Emblock_gn_2_1 (x1 : Int) (x2 : Int) (x3 : Int) (x6 : Int) (x8 : Int) (x9 : Int) (x11 : Int) (x12 : Int) (x13 : Int) (x14 : Int) (x15 : Int) (x16 : Int) (a0_0 : Int → Int) (a4_0 : Int → Int) (a5_0 : Int → Int) (a7_0 : Int → Int) (k1 : 1 ≤ x1 ∧ x1 ≤ 72) (k2 : 0 ≤ x2 ∧ x2 ≤ 71) (k3 : 0 ≤ x3 ∧ x3 ≤ 71) (k6 : 0 ≤ x6 ∧ x6 ≤ 24) (k8 : 0 ≤ x8 ∧ x8 ≤ 25) (k9 : (-2147483648) ≤ x9 ∧ x9 ≤ 2147483647) (k11 : 1 ≤ x11 ∧ x11 ≤ 72) (k12 : 0 ≤ x12 ∧ x12 ≤ 71) (k13 : 0 ≤ x13 ∧ x13 ≤ 71) (k14 : 0 ≤ x14 ∧ x14 ≤ 71) (k15 : (-1) ≤ x15 ∧ x15 ≤ 71) (k16 : 1 ≤ x16 ∧ x16 ≤ 72) (d0 : x14 + 1 ≤ x16 ∧ x16 ≤ x14 + 1) (d1 : x11 + (-4294967296) ≤ x16 ∧ x16 ≤ x11 + 0) (d2 : x1 + (-4294967296) ≤ x16 ∧ x16 ≤ x1 + 1) (d3 : x11 + (-4294967296) ≤ x16 ∧ x16 ≤ x11 + 1) (d4 : x11 + (-4294967296) ≤ x14 ∧ x14 ≤ x11 + (-1)) (d5 : x11 + (-4294967296) ≤ x1 ∧ x1 ≤ x11 + 0) (d6 : x12 + (-4294967296) ≤ x2 ∧ x2 ≤ x12 + 0) (d7 : x13 + (-4294967296) ≤ x3 ∧ x3 ≤ x13 + 0) (d8 : x1 + (-4294967296) ≤ x11 ∧ x11 ≤ x1 + 0) (d9 : x2 + (-4294967296) ≤ x12 ∧ x12 ≤ x2 + 0) (d10 : x3 + (-4294967296) ≤ x13 ∧ x13 ≤ x3 + 0) (d11 : x1 + (-4294967296) ≤ x14 ∧ x14 ≤ x1 + 0) (d12 : x11 + (-4294967296) ≤ x14 ∧ x14 ≤ x11 + 0) (f0 : x16 = x14 + 1) (f1 : x15 ≠ x2) (h2 : x15 = a0_0 (x14)) (f3 : x14 < x1) (f4 : BLQ (a0_0) (x1)) (f5 : (0 ≤ x3) ∧ (x3 ≤ x2)) (f6 : RLI (a0_0) (a4_0) (a5_0) (x1) (x2) (x3) (x6) (x14)) (f7 : QKI (a0_0) (a4_0) (a5_0) (a7_0) (x8) (x1) (x6) (x9) (x2) (x3) (x14)) (hK_0_999 : ∀ j : Int, 0 ≤ j → j < 72 → (-1) ≤ a0_0 j ∧ a0_0 j ≤ 71) (hK_4_999 : ∀ j : Int, 0 ≤ j → j < 72 → 0 ≤ a4_0 j ∧ a4_0 j ≤ 23) (hK_5_999 : ∀ j : Int, 0 ≤ j → j < 72 → 0 ≤ a5_0 j ∧ a5_0 j ≤ 23) (hK_7_999 : ∀ j : Int, 0 ≤ j → j < 25 → 0 ≤ a7_0 j ∧ a7_0 j ≤ 16777215) : QKI (a0_0) (a4_0) (a5_0) (a7_0) (x8) (x1) (x6) (x9) (x2) (x3) (x16) := by
  first
    | exact qki_start ‹QKP _ _ _ _ _ _ _ _ _ _› (by omega)
    | exact qki_skip ‹QKI _ _ _ _ _ _ _ _ _ _ _› (by assumption) (by omega) (by omega)
    | exact qki_step ‹QKI _ _ _ _ _ _ _ _ _ _ _› (by assumption) (by omega) (by assumption) rfl (by omega) (by omega)
  
def o_Fa_relabel_at_Emblock_gn_2 : or_T := (3, 17, [(0, (2, 0, 0, [26])), (1, (0, 1, 72, [])), (2, (0, 0, 71, [])), (3, (0, 0, 71, [])), (4, (2, 0, 0, [80])), (5, (2, 0, 0, [81])), (6, (0, 0, 24, [])), (7, (2, 0, 0, [82])), (8, (0, 0, 25, [])), (9, (0, -2147483648, 2147483647, [])), (10, (2, 0, 0, [26])), (11, (0, 1, 72, [])), (12, (0, 0, 71, [])), (13, (0, 0, 71, [])), (14, (0, 0, 71, [])), (15, (0, -1, 71, [])), (16, (0, 1, 72, []))], [(6, [16, 14], [1]), (7, [15, 12], [1]), (10, [15, 10, 14], []), (7, [14, 11], [2]), (20, [10, 11], [61, 1, 566]), (20, [13, 12], [50, 0, 0, 2, 6, 0, 2, 0, 0, 1, 0, 0, 2, 1, 0, 1, 1]), (20, [10, 4, 5, 11, 12, 13, 6, 14], [61, 3, 582]), (20, [10, 4, 5, 7, 8, 11, 6, 9, 12, 13, 14], [61, 4, 591]), (24, [0, 10], []), (24, [1, 11], []), (24, [2, 12], []), (24, [3, 13], [])], [], [], [(20, [10, 4, 5, 11, 12, 13, 6, 16], [61, 3, 582]), (20, [10, 4, 5, 7, 8, 11, 6, 9, 12, 13, 16], [61, 4, 591])], [], [(16, 14, 1, 1), (16, 11, -4294967296, 0), (16, 1, -4294967296, 1), (16, 11, -4294967296, 1), (14, 11, -4294967296, -1), (1, 11, -4294967296, 0), (2, 12, -4294967296, 0), (3, 13, -4294967296, 0), (11, 1, -4294967296, 0), (12, 2, -4294967296, 0), (13, 3, -4294967296, 0), (14, 1, -4294967296, 0), (14, 11, -4294967296, 0)])
theorem oo_Fa_relabel_at_Emblock_gn_2 {kA : Nat → ClassId} : or_ok PRD kA GG o_Fa_relabel_at_Emblock_gn_2 := by
  refine or_mk fun A ta ws vs hD hth hl => ?_
  intro t0 r0 t1 k1 t2 k2 t3 k3 t4 r4 t5 r5 t6 k6 t7 r7 t8 k8 t9 k9 t10 r10 t11 k11 t12 k12 t13 k13 t14 k14 t15 k15 t16 k16 d0 d1 d2 d3 d4 d5 d6 d7 d8 d9 d10 d11 d12 f0 f1 f2 f3 f4 f5 f6 f7 f8 f9 f10 f11
  replace f0 := shm_4 f0
  replace f1 := shm_40 f1
  replace f2 := shm_107 f2
  replace f3 := shm_6 f3
  replace f4 := shm_365 f4
  replace f5 := shm_366 f5
  replace f6 := shm_369 f6
  replace f7 := shm_370 f7
  replace f8 := shm_5 f8
  replace f9 := shm_5 f9
  replace f10 := shm_5 f10
  replace f11 := shm_5 f11
  have q10 : n_v vs 10 = n_v vs 0 := f8.symm
  have q11 : n_v vs 11 = n_v vs 1 := f9.symm
  have q12 : n_v vs 12 = n_v vs 2 := f10.symm
  have q13 : n_v vs 13 = n_v vs 3 := f11.symm
  simp only [q12, q10, q11, q13] at f1 f2 f3 f4 f5 f6 f7
  have cr_0_999 : ta (v_ad (n_v vs 0)) = some 26 := r0
  have cr_4_999 : ta (v_ad (n_v vs 4)) = some 80 := r4
  have cr_5_999 : ta (v_ad (n_v vs 5)) = some 81 := r5
  have cr_7_999 : ta (v_ad (n_v vs 7)) = some 82 := r7
  have h2 : v_iv (n_v vs 15) = w_ei ws (v_ad (n_v vs 0)) (v_iv (n_v vs 14)) := f2
  have hK_0_999 := elq_18 hD hth cr_0_999
  have hK_4_999 := elq_19 hD hth cr_4_999
  have hK_5_999 := elq_20 hD hth cr_5_999
  have hK_7_999 := elq_26 hD hth cr_7_999
  have nf0 : fc_1 PRD (20, [10, 4, 5, 11, 12, 13, 6, 16], [61, 3, 582]) ws (vs) := by
    refine ⟨nf_in hl rfl, sgq_369 ?_⟩
    · show RLI (w_ei ws (v_ad (n_v vs 10))) (w_ei ws (v_ad (n_v vs 4))) (w_ei ws (v_ad (n_v vs 5))) (v_iv (n_v vs 11)) (v_iv (n_v vs 12)) (v_iv (n_v vs 13)) (v_iv (n_v vs 6)) (v_iv (n_v vs 16))
      simp only [q10, q11, q12, q13]
      exact vc_Fa_relabel_at_Emblock_gn_2_0 (v_iv (n_v vs 1)) (v_iv (n_v vs 2)) (v_iv (n_v vs 3)) (v_iv (n_v vs 6)) (v_iv (n_v vs 8)) (v_iv (n_v vs 9)) (v_iv (n_v vs 11)) (v_iv (n_v vs 12)) (v_iv (n_v vs 13)) (v_iv (n_v vs 14)) (v_iv (n_v vs 15)) (v_iv (n_v vs 16)) (w_ei ws (v_ad (n_v vs 0))) (w_ei ws (v_ad (n_v vs 4))) (w_ei ws (v_ad (n_v vs 5))) (w_ei ws (v_ad (n_v vs 7))) k1 k2 k3 k6 k8 k9 k11 k12 k13 k14 k15 k16 d0 d1 d2 d3 d4 d5 d6 d7 d8 d9 d10 d11 d12 f0 f1 h2 f3 f4 f5 f6 f7 hK_0_999 hK_4_999 hK_5_999 hK_7_999
  have nf1 : fc_1 PRD (20, [10, 4, 5, 7, 8, 11, 6, 9, 12, 13, 16], [61, 4, 591]) ws (vs) := by
    refine ⟨nf_in hl rfl, sgq_370 ?_⟩
    · show QKI (w_ei ws (v_ad (n_v vs 10))) (w_ei ws (v_ad (n_v vs 4))) (w_ei ws (v_ad (n_v vs 5))) (w_ei ws (v_ad (n_v vs 7))) (v_iv (n_v vs 8)) (v_iv (n_v vs 11)) (v_iv (n_v vs 6)) (v_iv (n_v vs 9)) (v_iv (n_v vs 12)) (v_iv (n_v vs 13)) (v_iv (n_v vs 16))
      simp only [q10, q11, q12, q13]
      exact vc_Fa_relabel_at_Emblock_gn_2_1 (v_iv (n_v vs 1)) (v_iv (n_v vs 2)) (v_iv (n_v vs 3)) (v_iv (n_v vs 6)) (v_iv (n_v vs 8)) (v_iv (n_v vs 9)) (v_iv (n_v vs 11)) (v_iv (n_v vs 12)) (v_iv (n_v vs 13)) (v_iv (n_v vs 14)) (v_iv (n_v vs 15)) (v_iv (n_v vs 16)) (w_ei ws (v_ad (n_v vs 0))) (w_ei ws (v_ad (n_v vs 4))) (w_ei ws (v_ad (n_v vs 5))) (w_ei ws (v_ad (n_v vs 7))) k1 k2 k3 k6 k8 k9 k11 k12 k13 k14 k15 k16 d0 d1 d2 d3 d4 d5 d6 d7 d8 d9 d10 d11 d12 f0 f1 h2 f3 f4 f5 f6 f7 hK_0_999 hK_4_999 hK_5_999 hK_7_999
  refine ⟨(fun _ h => (by cases h)), [], trivial, ?_, (fun _ h => (by cases h))⟩
  rw [List.append_nil]
  exact List.forall_mem_cons.mpr ⟨⟨show (20 : Nat) < 100 from by decide, nf0⟩, List.forall_mem_cons.mpr ⟨⟨show (20 : Nat) < 100 from by decide, nf1⟩, (fun _ h => (by cases h))⟩⟩
set_option maxHeartbeats 4000000 in
theorem vc_Fa_relabel_at_Emblock_gn_3_0 (x1 : Int) (x2 : Int) (x3 : Int) (x6 : Int) (x8 : Int) (x9 : Int) (x11 : Int) (x12 : Int) (x13 : Int) (x14 : Int) (x15 : Int) (x16 : Int) (a0_1 : Int → Int) (a4_1 : Int → Int) (a5_1 : Int → Int) (a7_1 : Int → Int) (a0_0 : Int → Int) (a4_0 : Int → Int) (a5_0 : Int → Int) (a7_0 : Int → Int) (k1 : 1 ≤ x1 ∧ x1 ≤ 72) (k2 : 0 ≤ x2 ∧ x2 ≤ 71) (k3 : 0 ≤ x3 ∧ x3 ≤ 71) (k6 : 0 ≤ x6 ∧ x6 ≤ 24) (k8 : 0 ≤ x8 ∧ x8 ≤ 25) (k9 : (-2147483648) ≤ x9 ∧ x9 ≤ 2147483647) (k11 : 1 ≤ x11 ∧ x11 ≤ 72) (k12 : 0 ≤ x12 ∧ x12 ≤ 71) (k13 : 0 ≤ x13 ∧ x13 ≤ 71) (k14 : 0 ≤ x14 ∧ x14 ≤ 71) (k15 : 0 ≤ x15 ∧ x15 ≤ 71) (k16 : 1 ≤ x16 ∧ x16 ≤ 72) (d0 : x14 + 1 ≤ x16 ∧ x16 ≤ x14 + 1) (d1 : x11 + (-4294967296) ≤ x16 ∧ x16 ≤ x11 + 0) (d2 : x1 + (-4294967296) ≤ x16 ∧ x16 ≤ x1 + 1) (d3 : x11 + (-4294967296) ≤ x16 ∧ x16 ≤ x11 + 1) (d4 : x12 + 0 ≤ x15 ∧ x15 ≤ x12 + 0) (d5 : x11 + (-4294967296) ≤ x14 ∧ x14 ≤ x11 + (-1)) (d6 : x11 + (-4294967296) ≤ x1 ∧ x1 ≤ x11 + 0) (d7 : x12 + (-4294967296) ≤ x2 ∧ x2 ≤ x12 + 0) (d8 : x13 + (-4294967296) ≤ x3 ∧ x3 ≤ x13 + 0) (d9 : x1 + (-4294967296) ≤ x11 ∧ x11 ≤ x1 + 0) (d10 : x2 + (-4294967296) ≤ x12 ∧ x12 ≤ x2 + 0) (d11 : x3 + (-4294967296) ≤ x13 ∧ x13 ≤ x3 + 0) (d12 : x1 + (-4294967296) ≤ x14 ∧ x14 ≤ x1 + 0) (d13 : x11 + (-4294967296) ≤ x14 ∧ x14 ≤ x11 + 0) (f0 : x16 = x14 + 1) (f1 : (0 ≤ x3) ∧ (x3 ≤ x2)) (f7 : x15 = x2) (h8 : x15 = a0_1 (x14)) (f9 : x14 < x1) (f10 : BLQ (a0_1) (x1)) (f11 : (0 ≤ x3) ∧ (x3 ≤ x2)) (f12 : RLI (a0_1) (a4_1) (a5_1) (x1) (x2) (x3) (x6) (x14)) (f13 : QKI (a0_1) (a4_1) (a5_1) (a7_1) (x8) (x1) (x6) (x9) (x2) (x3) (x14)) (hE_0_999_1 : ∀ j : Int, 0 ≤ j → (j = x14 → a0_0 j = x3) ∧ (j ≠ x14 → a0_0 j = a0_1 j)) (hK_0_999 : ∀ j : Int, 0 ≤ j → j < 72 → (-1) ≤ a0_0 j ∧ a0_0 j ≤ 71) (hE_4_999_1 : ∀ j : Int, a4_0 j = a4_1 j) (hK_4_999 : ∀ j : Int, 0 ≤ j → j < 72 → 0 ≤ a4_0 j ∧ a4_0 j ≤ 23) (hE_5_999_1 : ∀ j : Int, a5_0 j = a5_1 j) (hK_5_999 : ∀ j : Int, 0 ≤ j → j < 72 → 0 ≤ a5_0 j ∧ a5_0 j ≤ 23) (hE_7_999_1 : ∀ j : Int, a7_0 j = a7_1 j) (hK_7_999 : ∀ j : Int, 0 ≤ j → j < 25 → 0 ≤ a7_0 j ∧ a7_0 j ≤ 16777215) : BLQ (a0_0) (x1) := by
  have e_hE_4_999_1 := funext hE_4_999_1; subst e_hE_4_999_1
  have e_hE_5_999_1 := funext hE_5_999_1; subst e_hE_5_999_1
  have e_hE_7_999_1 := funext hE_7_999_1; subst e_hE_7_999_1
  first
    | assumption
    | (skip; (first | subst h8 | skip); exact blq_set ‹BLQ _ _› (by assumption) rfl rfl (by omega) (by omega) (by omega) (by omega) (by omega))
  
set_option maxHeartbeats 4000000 in
theorem vc_Fa_relabel_at_Emblock_gn_3_1 (x1 : Int) (x2 : Int) (x3 : Int) (x6 : Int) (x8 : Int) (x9 : Int) (x11 : Int) (x12 : Int) (x13 : Int) (x14 : Int) (x15 : Int) (x16 : Int) (a0_1 : Int → Int) (a4_1 : Int → Int) (a5_1 : Int → Int) (a7_1 : Int → Int) (a0_0 : Int → Int) (a4_0 : Int → Int) (a5_0 : Int → Int) (a7_0 : Int → Int) (k1 : 1 ≤ x1 ∧ x1 ≤ 72) (k2 : 0 ≤ x2 ∧ x2 ≤ 71) (k3 : 0 ≤ x3 ∧ x3 ≤ 71) (k6 : 0 ≤ x6 ∧ x6 ≤ 24) (k8 : 0 ≤ x8 ∧ x8 ≤ 25) (k9 : (-2147483648) ≤ x9 ∧ x9 ≤ 2147483647) (k11 : 1 ≤ x11 ∧ x11 ≤ 72) (k12 : 0 ≤ x12 ∧ x12 ≤ 71) (k13 : 0 ≤ x13 ∧ x13 ≤ 71) (k14 : 0 ≤ x14 ∧ x14 ≤ 71) (k15 : 0 ≤ x15 ∧ x15 ≤ 71) (k16 : 1 ≤ x16 ∧ x16 ≤ 72) (d0 : x14 + 1 ≤ x16 ∧ x16 ≤ x14 + 1) (d1 : x11 + (-4294967296) ≤ x16 ∧ x16 ≤ x11 + 0) (d2 : x1 + (-4294967296) ≤ x16 ∧ x16 ≤ x1 + 1) (d3 : x11 + (-4294967296) ≤ x16 ∧ x16 ≤ x11 + 1) (d4 : x12 + 0 ≤ x15 ∧ x15 ≤ x12 + 0) (d5 : x11 + (-4294967296) ≤ x14 ∧ x14 ≤ x11 + (-1)) (d6 : x11 + (-4294967296) ≤ x1 ∧ x1 ≤ x11 + 0) (d7 : x12 + (-4294967296) ≤ x2 ∧ x2 ≤ x12 + 0) (d8 : x13 + (-4294967296) ≤ x3 ∧ x3 ≤ x13 + 0) (d9 : x1 + (-4294967296) ≤ x11 ∧ x11 ≤ x1 + 0) (d10 : x2 + (-4294967296) ≤ x12 ∧ x12 ≤ x2 + 0) (d11 : x3 + (-4294967296) ≤ x13 ∧ x13 ≤ x3 + 0) (d12 : x1 + (-4294967296) ≤ x14 ∧ x14 ≤ x1 + 0) (d13 : x11 + (-4294967296) ≤ x14 ∧ x14 ≤ x11 + 0) (f0 : x16 = x14 + 1) (f1 : (0 ≤ x3) ∧ (x3 ≤ x2)) (f7 : x15 = x2) (h8 : x15 = a0_1 (x14)) (f9 : x14 < x1) (f10 : BLQ (a0_1) (x1)) (f11 : (0 ≤ x3) ∧ (x3 ≤ x2)) (f12 : RLI (a0_1) (a4_1) (a5_1) (x1) (x2) (x3) (x6) (x14)) (f13 : QKI (a0_1) (a4_1) (a5_1) (a7_1) (x8) (x1) (x6) (x9) (x2) (x3) (x14)) (hE_0_999_1 : ∀ j : Int, 0 ≤ j → (j = x14 → a0_0 j = x3) ∧ (j ≠ x14 → a0_0 j = a0_1 j)) (hK_0_999 : ∀ j : Int, 0 ≤ j → j < 72 → (-1) ≤ a0_0 j ∧ a0_0 j ≤ 71) (hE_4_999_1 : ∀ j : Int, a4_0 j = a4_1 j) (hK_4_999 : ∀ j : Int, 0 ≤ j → j < 72 → 0 ≤ a4_0 j ∧ a4_0 j ≤ 23) (hE_5_999_1 : ∀ j : Int, a5_0 j = a5_1 j) (hK_5_999 : ∀ j : Int, 0 ≤ j → j < 72 → 0 ≤ a5_0 j ∧ a5_0 j ≤ 23) (hE_7_999_1 : ∀ j : Int, a7_0 j = a7_1 j) (hK_7_999 : ∀ j : Int, 0 ≤ j → j < 25 → 0 ≤ a7_0 j ∧ a7_0 j ≤ 16777215) : RLI (a0_0) (a4_0) (a5_0) (x1) (x2) (x3) (x6) (x16) := by
  have e_hE_4_999_1 := funext hE_4_999_1; subst e_hE_4_999_1
  have e_hE_5_999_1 := funext hE_5_999_1; subst e_hE_5_999_1
  have e_hE_7_999_1 := funext hE_7_999_1; subst e_hE_7_999_1
  first
    | exact rli_start ‹RLP _ _ _ _ _ _ _› (by omega)
    | exact rli_skip ‹RLI _ _ _ _ _ _ _ _› (by assumption) (by omega) (by omega)
    | exact rli_step ‹RLI _ _ _ _ _ _ _ _› (by assumption) (by omega) (by assumption) (by omega) (by omega) (by omega)
  
set_option maxHeartbeats 4000000 in
theorem vc_Fa_relabel_at_Emblock_gn_3_2 (x1 : Int) (x2 : Int) (x3 : Int) (x6 : Int) (x8 : Int) (x9 : Int) (x11 : Int) (x12 : Int) (x13 : Int) (x14 : Int) (x15 : Int) (x16 : Int) (a0_1 : Int → Int) (a4_1 : Int → Int) (a5_1 : Int → Int) (a7_1 : Int → Int) (a0_0 : Int → Int) (a4_0 : Int → Int) (a5_0 : Int → Int) (a7_0 : Int → Int) (k1 : 1 ≤ x1 ∧ x1 ≤ 72) (k2 : 0 ≤ x2 ∧ x2 ≤ 71) (k3 : 0 ≤ x3 ∧ x3 ≤ 71) (k6 : 0 ≤ x6 ∧ x6 ≤ 24) (k8 : 0 ≤ x8 ∧ x8 ≤ 25) (k9 : (-2147483648) ≤ x9 ∧ x9 ≤ 2147483647) (k11 : 1 ≤ x11 ∧ x11 ≤ 72) (k12 : 0 ≤ x12 ∧ x12 ≤ 71) (k13 : 0 ≤ x13 ∧ x13 ≤ 71) (k14 : 0 ≤ x14 ∧ x14 ≤ 71) (k15 : 0 ≤ x15 ∧ x15 ≤ 71) (k16 : 1 ≤ x16 ∧ x16 ≤ 72) (d0 : x14 + 1 ≤ x16 ∧ x16 ≤ x14 + 1) (d1 : x11 + (-4294967296) ≤ x16 ∧ x16 ≤ x11 + 0) (d2 : x1 + (-4294967296) ≤ x16 ∧ x16 ≤ x1 + 1) (d3 : x11 + (-4294967296) ≤ x16 ∧ x16 ≤ x11 + 1) (d4 : x12 + 0 ≤ x15 ∧ x15 ≤ x12 + 0) (d5 : x11 + (-4294967296) ≤ x14 ∧ x14 ≤ x11 + (-1)) (d6 : x11 + (-4294967296) ≤ x1 ∧ x1 ≤ x11 + 0) (d7 : x12 + (-4294967296) ≤ x2 ∧ x2 ≤ x12 + 0) (d8 : x13 + (-4294967296) ≤ x3 ∧ x3 ≤ x13 + 0) (d9 : x1 + (-4294967296) ≤ x11 ∧ x11 ≤ x1 + 0) (d10 : x2 + (-4294967296) ≤ x12 ∧ x12 ≤ x2 + 0) (d11 : x3 + (-4294967296) ≤ x13 ∧ x13 ≤ x3 + 0) (d12 : x1 + (-4294967296) ≤ x14 ∧ x14 ≤ x1 + 0) (d13 : x11 + (-4294967296) ≤ x14 ∧ x14 ≤ x11 + 0) (f0 : x16 = x14 + 1) (f1 : (0 ≤ x3) ∧ (x3 ≤ x2)) (f7 : x15 = x2) (h8 : x15 = a0_1 (x14)) (f9 : x14 < x1) (f10 : BLQ (a0_1) (x1)) (f11 : (0 ≤ x3) ∧ (x3 ≤ x2)) (f12 : RLI (a0_1) (a4_1) (a5_1) (x1) (x2) (x3) (x6) (x14)) (f13 : QKI (a0_1) (a4_1) (a5_1) (a7_1) (x8) (x1) (x6) (x9) (x2) (x3) (x14)) (hE_0_999_1 : ∀ j : Int, 0 ≤ j → (j = x14 → a0_0 j = x3) ∧ (j ≠ x14 → a0_0 j = a0_1 j)) (hK_0_999 : ∀ j : Int, 0 ≤ j → j < 72 → (-1) ≤ a0_0 j ∧ a0_0 j ≤ 71) (hE_4_999_1 : ∀ j : Int, a4_0 j = a4_1 j) (hK_4_999 : ∀ j : Int, 0 ≤ j → j < 72 → 0 ≤ a4_0 j ∧ a4_0 j ≤ 23) (hE_5_999_1 : ∀ j : Int, a5_0 j = a5_1 j) (hK_5_999 : ∀ j : Int, 0 ≤ j → j < 72 → 0 ≤ a5_0 j ∧ a5_0 j ≤ 23) (hE_7_999_1 : ∀ j : Int, a7_0 j = a7_1 j) (hK_7_999 : ∀ j : Int, 0 ≤ j → j < 25 → 0 ≤ a7_0 j ∧ a7_0 j ≤ 16777215) : QKI (a0_0) (a4_0) (a5_0) (a7_0) (x8) (x1) (x6) (x9) (x2) (x3) (x16) := by
  have e_hE_4_999_1 := funext hE_4_999_1; subst e_hE_4_999_1
  have e_hE_5_999_1 := funext hE_5_999_1; subst e_hE_5_999_1
  have e_hE_7_999_1 := funext hE_7_999_1; subst e_hE_7_999_1
  first
    | exact qki_start ‹QKP _ _ _ _ _ _ _ _ _ _› (by omega)
    | exact qki_skip ‹QKI _ _ _ _ _ _ _ _ _ _ _› (by assumption) (by omega) (by omega)
    | exact qki_step ‹QKI _ _ _ _ _ _ _ _ _ _ _› (by assumption) (by omega) (by assumption) rfl (by omega) (by omega)
  
def o_Fa_relabel_at_Emblock_gn_3 : or_T := (3, 17, [(0, (2, 0, 0, [26])), (1, (0, 1, 72, [])), (2, (0, 0, 71, [])), (3, (0, 0, 71, [])), (4, (2, 0, 0, [80])), (5, (2, 0, 0, [81])), (6, (0, 0, 24, [])), (7, (2, 0, 0, [82])), (8, (0, 0, 25, [])), (9, (0, -2147483648, 2147483647, [])), (10, (2, 0, 0, [26])), (11, (0, 1, 72, [])), (12, (0, 0, 71, [])), (13, (0, 0, 71, [])), (14, (0, 0, 71, [])), (15, (0, 0, 71, [])), (16, (0, 1, 72, []))], [(6, [16, 14], [1]), (20, [13, 12], [50, 0, 0, 2, 6, 0, 2, 0, 0, 1, 0, 0, 2, 1, 0, 1, 1]), (24, [0, 10], []), (24, [1, 11], []), (24, [2, 12], []), (24, [3, 13], []), (100, [10, 14, 13], []), (7, [15, 12], [0]), (10, [15, 10, 14], []), (7, [14, 11], [2]), (20, [10, 11], [61, 1, 566]), (20, [13, 12], [50, 0, 0, 2, 6, 0, 2, 0, 0, 1, 0, 0, 2, 1, 0, 1, 1]), (20, [10, 4, 5, 11, 12, 13, 6, 14], [61, 3, 582]), (20, [10, 4, 5, 7, 8, 11, 6, 9, 12, 13, 14], [61, 4, 591])], [], [], [(20, [10, 11], [61, 1, 566]), (20, [10, 4, 5, 11, 12, 13, 6, 16], [61, 3, 582]), (20, [10, 4, 5, 7, 8, 11, 6, 9, 12, 13, 16], [61, 4, 591])], [], [(16, 14, 1, 1), (16, 11, -4294967296, 0), (16, 1, -4294967296, 1), (16, 11, -4294967296, 1), (15, 12, 0, 0), (14, 11, -4294967296, -1), (1, 11, -4294967296, 0), (2, 12, -4294967296, 0), (3, 13, -4294967296, 0), (11, 1, -4294967296, 0), (12, 2, -4294967296, 0), (13, 3, -4294967296, 0), (14, 1, -4294967296, 0), (14, 11, -4294967296, 0)])
theorem oo_Fa_relabel_at_Emblock_gn_3 {kA : Nat → ClassId} : or_ok PRD kA GG o_Fa_relabel_at_Emblock_gn_3 := by
  refine or_mk fun A ta ws vs hD hth hl => ?_
  intro t0 r0 t1 k1 t2 k2 t3 k3 t4 r4 t5 r5 t6 k6 t7 r7 t8 k8 t9 k9 t10 r10 t11 k11 t12 k12 t13 k13 t14 k14 t15 k15 t16 k16 d0 d1 d2 d3 d4 d5 d6 d7 d8 d9 d10 d11 d12 d13 f0 f1 f2 f3 f4 f5 ta1 w1 le1 s1 f7 f8 f9 f10 f11 f12 f13
  replace f0 := shm_4 f0
  replace f1 := shm_366 f1
  replace f2 := shm_5 f2
  replace f3 := shm_5 f3
  replace f4 := shm_5 f4
  replace f5 := shm_5 f5
  have s1 : (∀ b j, w_el ws b j = if b = v_ad (n_v vs 10) ∧ j = (v_iv (n_v vs 14)).toNat then v_iv (n_v vs 13) else w_el w1 b j) ∧ ∀ b k, w_fd ws b k = w_fd w1 b k := s1.2
  replace f7 := shm_37 f7
  replace f8 := shm_107 f8
  replace f9 := shm_6 f9
  replace f10 := shm_365 f10
  replace f11 := shm_366 f11
  replace f12 := shm_369 f12
  replace f13 := shm_370 f13
  have q10 : n_v vs 10 = n_v vs 0 := f2.symm
  have q11 : n_v vs 11 = n_v vs 1 := f3.symm
  have q12 : n_v vs 12 = n_v vs 2 := f4.symm
  have q13 : n_v vs 13 = n_v vs 3 := f5.symm
  simp only [q12, q13] at f1
  rw [q10] at s1
  rw [q13] at s1
  simp only [q12, q10, q11, q13] at f7 f8 f9 f10 f11 f12 f13
  have cr_0_999 : ta (v_ad (n_v vs 0)) = some 26 := r0
  have cr_4_999 : ta (v_ad (n_v vs 4)) = some 80 := r4
  have cr_5_999 : ta (v_ad (n_v vs 5)) = some 81 := r5
  have cr_7_999 : ta (v_ad (n_v vs 7)) = some 82 := r7
  have ad_0 : v_ad (n_v vs 0) = v_ad (n_v vs 0) := rfl
  have h8 : v_iv (n_v vs 15) = w_ei w1 (v_ad (n_v vs 0)) (v_iv (n_v vs 14)) := f8
  have hE_0_999_1 : ∀ j : Int, 0 ≤ j → (j = v_iv (n_v vs 14) → w_ei ws (v_ad (n_v vs 0)) j = v_iv (n_v vs 3)) ∧ (j ≠ v_iv (n_v vs 14) → w_ei ws (v_ad (n_v vs 0)) j = w_ei w1 (v_ad (n_v vs 0)) j) := fun j hj => ⟨fun h => by unfold w_ei; rw [s1.1, if_pos ⟨ad_0.symm, by rw [h]⟩], fun h => by unfold w_ei; rw [s1.1, if_neg (fun e => h (by have := e.2; omega))]⟩
  have hK_0_999 := elq_18 hD hth cr_0_999
  have hE_4_999_1 : ∀ j : Int, w_ei ws (v_ad (n_v vs 4)) j = w_ei w1 (v_ad (n_v vs 4)) j := el_kp s1.1 r0 cr_4_999 (by decide)
  have hK_4_999 := elq_19 hD hth cr_4_999
  have hE_5_999_1 : ∀ j : Int, w_ei ws (v_ad (n_v vs 5)) j = w_ei w1 (v_ad (n_v vs 5)) j := el_kp s1.1 r0 cr_5_999 (by decide)
  have hK_5_999 := elq_20 hD hth cr_5_999
  have hE_7_999_1 : ∀ j : Int, w_ei ws (v_ad (n_v vs 7)) j = w_ei w1 (v_ad (n_v vs 7)) j := el_kp s1.1 r0 cr_7_999 (by decide)
  have hK_7_999 := elq_26 hD hth cr_7_999
  have nf0 : fc_1 PRD (20, [10, 11], [61, 1, 566]) ws (vs) := by
    refine ⟨nf_in hl rfl, sgq_365 ?_⟩
    · show BLQ (w_ei ws (v_ad (n_v vs 10))) (v_iv (n_v vs 11))
      simp only [q10, q11]
      exact vc_Fa_relabel_at_Emblock_gn_3_0 (v_iv (n_v vs 1)) (v_iv (n_v vs 2)) (v_iv (n_v vs 3)) (v_iv (n_v vs 6)) (v_iv (n_v vs 8)) (v_iv (n_v vs 9)) (v_iv (n_v vs 11)) (v_iv (n_v vs 12)) (v_iv (n_v vs 13)) (v_iv (n_v vs 14)) (v_iv (n_v vs 15)) (v_iv (n_v vs 16)) (w_ei w1 (v_ad (n_v vs 0))) (w_ei w1 (v_ad (n_v vs 4))) (w_ei w1 (v_ad (n_v vs 5))) (w_ei w1 (v_ad (n_v vs 7))) (w_ei ws (v_ad (n_v vs 0))) (w_ei ws (v_ad (n_v vs 4))) (w_ei ws (v_ad (n_v vs 5))) (w_ei ws (v_ad (n_v vs 7))) k1 k2 k3 k6 k8 k9 k11 k12 k13 k14 k15 k16 d0 d1 d2 d3 d4 d5 d6 d7 d8 d9 d10 d11 d12 d13 f0 f1 f7 h8 f9 f10 f11 f12 f13 hE_0_999_1 hK_0_999 hE_4_999_1 hK_4_999 hE_5_999_1 hK_5_999 hE_7_999_1 hK_7_999
  have nf1 : fc_1 PRD (20, [10, 4, 5, 11, 12, 13, 6, 16], [61, 3, 582]) ws (vs) := by
    refine ⟨nf_in hl rfl, sgq_369 ?_⟩
    · show RLI (w_ei ws (v_ad (n_v vs 10))) (w_ei ws (v_ad (n_v vs 4))) (w_ei ws (v_ad (n_v vs 5))) (v_iv (n_v vs 11)) (v_iv (n_v vs 12)) (v_iv (n_v vs 13)) (v_iv (n_v vs 6)) (v_iv (n_v vs 16))
      simp only [q10, q11, q12, q13]
      exact vc_Fa_relabel_at_Emblock_gn_3_1 (v_iv (n_v vs 1)) (v_iv (n_v vs 2)) (v_iv (n_v vs 3)) (v_iv (n_v vs 6)) (v_iv (n_v vs 8)) (v_iv (n_v vs 9)) (v_iv (n_v vs 11)) (v_iv (n_v vs 12)) (v_iv (n_v vs 13)) (v_iv (n_v vs 14)) (v_iv (n_v vs 15)) (v_iv (n_v vs 16)) (w_ei w1 (v_ad (n_v vs 0))) (w_ei w1 (v_ad (n_v vs 4))) (w_ei w1 (v_ad (n_v vs 5))) (w_ei w1 (v_ad (n_v vs 7))) (w_ei ws (v_ad (n_v vs 0))) (w_ei ws (v_ad (n_v vs 4))) (w_ei ws (v_ad (n_v vs 5))) (w_ei ws (v_ad (n_v vs 7))) k1 k2 k3 k6 k8 k9 k11 k12 k13 k14 k15 k16 d0 d1 d2 d3 d4 d5 d6 d7 d8 d9 d10 d11 d12 d13 f0 f1 f7 h8 f9 f10 f11 f12 f13 hE_0_999_1 hK_0_999 hE_4_999_1 hK_4_999 hE_5_999_1 hK_5_999 hE_7_999_1 hK_7_999
  have nf2 : fc_1 PRD (20, [10, 4, 5, 7, 8, 11, 6, 9, 12, 13, 16], [61, 4, 591]) ws (vs) := by
    refine ⟨nf_in hl rfl, sgq_370 ?_⟩
    · show QKI (w_ei ws (v_ad (n_v vs 10))) (w_ei ws (v_ad (n_v vs 4))) (w_ei ws (v_ad (n_v vs 5))) (w_ei ws (v_ad (n_v vs 7))) (v_iv (n_v vs 8)) (v_iv (n_v vs 11)) (v_iv (n_v vs 6)) (v_iv (n_v vs 9)) (v_iv (n_v vs 12)) (v_iv (n_v vs 13)) (v_iv (n_v vs 16))
      simp only [q10, q11, q12, q13]
      exact vc_Fa_relabel_at_Emblock_gn_3_2 (v_iv (n_v vs 1)) (v_iv (n_v vs 2)) (v_iv (n_v vs 3)) (v_iv (n_v vs 6)) (v_iv (n_v vs 8)) (v_iv (n_v vs 9)) (v_iv (n_v vs 11)) (v_iv (n_v vs 12)) (v_iv (n_v vs 13)) (v_iv (n_v vs 14)) (v_iv (n_v vs 15)) (v_iv (n_v vs 16)) (w_ei w1 (v_ad (n_v vs 0))) (w_ei w1 (v_ad (n_v vs 4))) (w_ei w1 (v_ad (n_v vs 5))) (w_ei w1 (v_ad (n_v vs 7))) (w_ei ws (v_ad (n_v vs 0))) (w_ei ws (v_ad (n_v vs 4))) (w_ei ws (v_ad (n_v vs 5))) (w_ei ws (v_ad (n_v vs 7))) k1 k2 k3 k6 k8 k9 k11 k12 k13 k14 k15 k16 d0 d1 d2 d3 d4 d5 d6 d7 d8 d9 d10 d11 d12 d13 f0 f1 f7 h8 f9 f10 f11 f12 f13 hE_0_999_1 hK_0_999 hE_4_999_1 hK_4_999 hE_5_999_1 hK_5_999 hE_7_999_1 hK_7_999
  refine ⟨(fun _ h => (by cases h)), [], trivial, ?_, (fun _ h => (by cases h))⟩
  rw [List.append_nil]
  exact List.forall_mem_cons.mpr ⟨⟨show (20 : Nat) < 100 from by decide, nf0⟩, List.forall_mem_cons.mpr ⟨⟨show (20 : Nat) < 100 from by decide, nf1⟩, List.forall_mem_cons.mpr ⟨⟨show (20 : Nat) < 100 from by decide, nf2⟩, (fun _ h => (by cases h))⟩⟩⟩
def n_Fa_relabel_at_Emblock_gn_an : List an_T := [(3, [(0, (2, 0, 0, [26])), (1, (0, 1, 72, [])), (2, (0, 0, 71, [])), (3, (0, 0, 71, [])), (4, (0, 0, 72, []))], [], (0, 0), [(0, 0, 99997), (1, 14, 72), (0, 0, 100000)], [(1, 11, (Int.negSucc 999999999999), 0), (2, 12, (Int.negSucc 999999999999), 0), (3, 13, (Int.negSucc 999999999999), 0), (11, 1, (Int.negSucc 999999999999), 0), (12, 2, (Int.negSucc 999999999999), 0), (13, 3, (Int.negSucc 999999999999), 0), (14, 1, (Int.negSucc 999999999999), 0), (14, 11, (Int.negSucc 999999999999), 0)], [], [(2, 0, 0, [26]), (0, 1, 72, []), (0, 0, 71, []), (0, 0, 71, []), (2, 0, 0, [80]), (2, 0, 0, [81]), (0, 0, 24, []), (2, 0, 0, [82]), (0, 0, 25, []), (0, (Int.negSucc 2147483647), 2147483647, [])], 0, [], [(20, [10, 11], [61, 1, 566]), (20, [13, 12], [50, 0, 0, 2, 6, 0, 2, 0, 0, 1, 0, 0, 2, 1, 0, 1, 1]), (20, [10, 4, 5, 11, 12, 13, 6, 14], [61, 3, 582]), (20, [10, 4, 5, 7, 8, 11, 6, 9, 12, 13, 14], [61, 4, 591]), (24, [0, 10], []), (24, [1, 11], []), (24, [2, 12], []), (24, [3, 13], [])])]
def t_Fa_relabel_at_Emblock_gn_ct : ct_L := []
set_option maxRecDepth 100000 in
theorem c_Fa_relabel_at_Emblock_gn {l : Launch} {D : va_G} {kA : Nat → ClassId} : ct_ok PRD l D kA GG y_Fa_relabel_at_Emblock_gn z_Fa_relabel_at_Emblock_gn e_Fa_relabel_at_Emblock_gn := chk_all_ok (FT := []) (PT := []) (CT := t_Fa_relabel_at_Emblock_gn_ct) (KT := []) (NT := []) (AN := n_Fa_relabel_at_Emblock_gn_an) (OT := [o_Fa_relabel_at_Emblock_gn_0, o_Fa_relabel_at_Emblock_gn_1, o_Fa_relabel_at_Emblock_gn_2, o_Fa_relabel_at_Emblock_gn_3]) 3 200 (List.forall_mem_cons.mpr ⟨oo_Fa_relabel_at_Emblock_gn_0, List.forall_mem_cons.mpr ⟨oo_Fa_relabel_at_Emblock_gn_1, List.forall_mem_cons.mpr ⟨oo_Fa_relabel_at_Emblock_gn_2, List.forall_mem_cons.mpr ⟨oo_Fa_relabel_at_Emblock_gn_3, List.forall_mem_nil _⟩⟩⟩⟩) (by decide +kernel) ⟨List.forall_mem_nil _, List.forall_mem_nil _, List.forall_mem_nil _, List.forall_mem_nil _, List.forall_mem_nil _, GG_pl⟩ (by decide +kernel)

set_option maxHeartbeats 4000000 in
theorem vc_Fa_relabel_at_Emblock_gp_0_0 (x1 : Int) (x2 : Int) (x3 : Int) (x6 : Int) (x8 : Int) (x9 : Int) (x10 : Int) (a0_0 : Int → Int) (a4_0 : Int → Int) (a5_0 : Int → Int) (a7_0 : Int → Int) (k1 : 1 ≤ x1 ∧ x1 ≤ 72) (k2 : 0 ≤ x2 ∧ x2 ≤ 71) (k3 : 0 ≤ x3 ∧ x3 ≤ 71) (k6 : 0 ≤ x6 ∧ x6 ≤ 24) (k8 : 0 ≤ x8 ∧ x8 ≤ 25) (k9 : (-2147483648) ≤ x9 ∧ x9 ≤ 2147483647) (k10 : 0 ≤ x10 ∧ x10 ≤ 0) (f0 : BLQ (a0_0) (x1)) (f1 : (0 ≤ x3) ∧ (x3 ≤ x2)) (f2 : RLP (a0_0) (a4_0) (a5_0) (x1) (x2) (x3) (x6)) (f3 : QKP (a0_0) (a4_0) (a5_0) (a7_0) (x8) (x1) (x6) (x9) (x2) (x3)) (hK_0_999 : ∀ j : Int, 0 ≤ j → j < 72 → (-1) ≤ a0_0 j ∧ a0_0 j ≤ 71) (hK_4_999 : ∀ j : Int, 0 ≤ j → j < 72 → 0 ≤ a4_0 j ∧ a4_0 j ≤ 24) (hK_5_999 : ∀ j : Int, 0 ≤ j → j < 72 → 0 ≤ a5_0 j ∧ a5_0 j ≤ 24) (hK_7_999 : ∀ j : Int, 0 ≤ j → j < 25 → 0 ≤ a7_0 j ∧ a7_0 j ≤ 33554431) : RLI (a0_0) (a4_0) (a5_0) (x1) (x2) (x3) (x6) (x10) := by
  first
    | exact rli_start ‹RLP _ _ _ _ _ _ _› (by omega)
    | exact rli_skip ‹RLI _ _ _ _ _ _ _ _› (by assumption) (by omega) (by omega)
    | exact rli_step ‹RLI _ _ _ _ _ _ _ _› (by assumption) (by omega) (by assumption) (by omega) (by omega) (by omega)
  
set_option maxHeartbeats 4000000 in
theorem vc_Fa_relabel_at_Emblock_gp_0_1 (x1 : Int) (x2 : Int) (x3 : Int) (x6 : Int) (x8 : Int) (x9 : Int) (x10 : Int) (a0_0 : Int → Int) (a4_0 : Int → Int) (a5_0 : Int → Int) (a7_0 : Int → Int) (k1 : 1 ≤ x1 ∧ x1 ≤ 72) (k2 : 0 ≤ x2 ∧ x2 ≤ 71) (k3 : 0 ≤ x3 ∧ x3 ≤ 71) (k6 : 0 ≤ x6 ∧ x6 ≤ 24) (k8 : 0 ≤ x8 ∧ x8 ≤ 25) (k9 : (-2147483648) ≤ x9 ∧ x9 ≤ 2147483647) (k10 : 0 ≤ x10 ∧ x10 ≤ 0) (f0 : BLQ (a0_0) (x1)) (f1 : (0 ≤ x3) ∧ (x3 ≤ x2)) (f2 : RLP (a0_0) (a4_0) (a5_0) (x1) (x2) (x3) (x6)) (f3 : QKP (a0_0) (a4_0) (a5_0) (a7_0) (x8) (x1) (x6) (x9) (x2) (x3)) (hK_0_999 : ∀ j : Int, 0 ≤ j → j < 72 → (-1) ≤ a0_0 j ∧ a0_0 j ≤ 71) (hK_4_999 : ∀ j : Int, 0 ≤ j → j < 72 → 0 ≤ a4_0 j ∧ a4_0 j ≤ 24) (hK_5_999 : ∀ j : Int, 0 ≤ j → j < 72 → 0 ≤ a5_0 j ∧ a5_0 j ≤ 24) (hK_7_999 : ∀ j : Int, 0 ≤ j → j < 25 → 0 ≤ a7_0 j ∧ a7_0 j ≤ 33554431) : QKI (a0_0) (a4_0) (a5_0) (a7_0) (x8) (x1) (x6) (x9) (x2) (x3) (x10) := by
  first
    | exact qki_start ‹QKP _ _ _ _ _ _ _ _ _ _› (by omega)
    | exact qki_skip ‹QKI _ _ _ _ _ _ _ _ _ _ _› (by assumption) (by omega) (by omega)
    | exact qki_step ‹QKI _ _ _ _ _ _ _ _ _ _ _› (by assumption) (by omega) (by assumption) rfl (by omega) (by omega)
  
def o_Fa_relabel_at_Emblock_gp_0 : or_T := (3, 11, [(0, (2, 0, 0, [26])), (1, (0, 1, 72, [])), (2, (0, 0, 71, [])), (3, (0, 0, 71, [])), (4, (2, 0, 0, [140])), (5, (2, 0, 0, [141])), (6, (0, 0, 24, [])), (7, (2, 0, 0, [142])), (8, (0, 0, 25, [])), (9, (0, -2147483648, 2147483647, [])), (10, (0, 0, 0, []))], [(20, [0, 1], [61, 1, 566]), (20, [3, 2], [50, 0, 0, 2, 6, 0, 2, 0, 0, 1, 0, 0, 2, 1, 0, 1, 1]), (20, [0, 4, 5, 1, 2, 3, 6], [61, 3, 581]), (20, [0, 4, 5, 7, 8, 1, 6, 9, 2, 3], [61, 4, 590])], [], [], [(20, [0, 4, 5, 1, 2, 3, 6, 10], [61, 3, 582]), (20, [0, 4, 5, 7, 8, 1, 6, 9, 2, 3, 10], [61, 4, 591]), (24, [0, 0], []), (24, [1, 1], []), (24, [2, 2], []), (24, [3, 3], [])], [], [])
theorem oo_Fa_relabel_at_Emblock_gp_0 {kA : Nat → ClassId} : or_ok PRD kA GG o_Fa_relabel_at_Emblock_gp_0 := by
  refine or_mk fun A ta ws vs hD hth hl => ?_
  intro t0 r0 t1 k1 t2 k2 t3 k3 t4 r4 t5 r5 t6 k6 t7 r7 t8 k8 t9 k9 t10 k10 f0 f1 f2 f3
  have cr_0_999 : ta (v_ad (n_v vs 0)) = some 26 := r0
  have cr_4_999 : ta (v_ad (n_v vs 4)) = some 140 := r4
  have cr_5_999 : ta (v_ad (n_v vs 5)) = some 141 := r5
  have cr_7_999 : ta (v_ad (n_v vs 7)) = some 142 := r7
  have hK_0_999 := elq_18 hD hth cr_0_999
  have hK_4_999 := elq_21 hD hth cr_4_999
  have hK_5_999 := elq_22 hD hth cr_5_999
  have hK_7_999 := elq_27 hD hth cr_7_999
  have nf0 : fc_1 PRD (20, [0, 4, 5, 1, 2, 3, 6, 10], [61, 3, 582]) ws (vs) := ⟨nf_in hl rfl, sgq_369 (vc_Fa_relabel_at_Emblock_gp_0_0 (v_iv (n_v vs 1)) (v_iv (n_v vs 2)) (v_iv (n_v vs 3)) (v_iv (n_v vs 6)) (v_iv (n_v vs 8)) (v_iv (n_v vs 9)) (v_iv (n_v vs 10)) (w_ei ws (v_ad (n_v vs 0))) (w_ei ws (v_ad (n_v vs 4))) (w_ei ws (v_ad (n_v vs 5))) (w_ei ws (v_ad (n_v vs 7))) k1 k2 k3 k6 k8 k9 k10 (shm_365 f0) (shm_366 f1) (shm_367 f2) (shm_368 f3) hK_0_999 hK_4_999 hK_5_999 hK_7_999)⟩
  have nf1 : fc_1 PRD (20, [0, 4, 5, 7, 8, 1, 6, 9, 2, 3, 10], [61, 4, 591]) ws (vs) := ⟨nf_in hl rfl, sgq_370 (vc_Fa_relabel_at_Emblock_gp_0_1 (v_iv (n_v vs 1)) (v_iv (n_v vs 2)) (v_iv (n_v vs 3)) (v_iv (n_v vs 6)) (v_iv (n_v vs 8)) (v_iv (n_v vs 9)) (v_iv (n_v vs 10)) (w_ei ws (v_ad (n_v vs 0))) (w_ei ws (v_ad (n_v vs 4))) (w_ei ws (v_ad (n_v vs 5))) (w_ei ws (v_ad (n_v vs 7))) k1 k2 k3 k6 k8 k9 k10 (shm_365 f0) (shm_366 f1) (shm_367 f2) (shm_368 f3) hK_0_999 hK_4_999 hK_5_999 hK_7_999)⟩
  have nf2 : fc_1 PRD (24, [0, 0], []) ws (vs) := by
    refine ⟨nf_in hl rfl, sgq_1 ?_⟩
    · show n_v vs 0 = n_v vs 0
      first | rfl | simp only [true_and]
  have nf3 : fc_1 PRD (24, [1, 1], []) ws (vs) := by
    refine ⟨nf_in hl rfl, sgq_1 ?_⟩
    · show n_v vs 1 = n_v vs 1
      first | rfl | simp only [true_and]
  have nf4 : fc_1 PRD (24, [2, 2], []) ws (vs) := by
    refine ⟨nf_in hl rfl, sgq_1 ?_⟩
    · show n_v vs 2 = n_v vs 2
      first | rfl | simp only [true_and]
  have nf5 : fc_1 PRD (24, [3, 3], []) ws (vs) := by
    refine ⟨nf_in hl rfl, sgq_1 ?_⟩
    · show n_v vs 3 = n_v vs 3
      first | rfl | simp only [true_and]
  refine ⟨(fun _ h => (by cases h)), [], trivial, ?_, (fun _ h => (by cases h))⟩
  rw [List.append_nil]
  exact List.forall_mem_cons.mpr ⟨⟨show (20 : Nat) < 100 from by decide, nf0⟩, List.forall_mem_cons.mpr ⟨⟨show (20 : Nat) < 100 from by decide, nf1⟩, List.forall_mem_cons.mpr ⟨⟨show (24 : Nat) < 100 from by decide, nf2⟩, List.forall_mem_cons.mpr ⟨⟨show (24 : Nat) < 100 from by decide, nf3⟩, List.forall_mem_cons.mpr ⟨⟨show (24 : Nat) < 100 from by decide, nf4⟩, List.forall_mem_cons.mpr ⟨⟨show (24 : Nat) < 100 from by decide, nf5⟩, (fun _ h => (by cases h))⟩⟩⟩⟩⟩⟩
set_option maxHeartbeats 4000000 in
theorem vc_Fa_relabel_at_Emblock_gp_1_0 (x1 : Int) (x2 : Int) (x3 : Int) (x6 : Int) (x8 : Int) (x9 : Int) (x11 : Int) (x12 : Int) (x13 : Int) (x14 : Int) (a0_0 : Int → Int) (a4_0 : Int → Int) (a5_0 : Int → Int) (a7_0 : Int → Int) (k1 : 1 ≤ x1 ∧ x1 ≤ 72) (k2 : 0 ≤ x2 ∧ x2 ≤ 71) (k3 : 0 ≤ x3 ∧ x3 ≤ 71) (k6 : 0 ≤ x6 ∧ x6 ≤ 24) (k8 : 0 ≤ x8 ∧ x8 ≤ 25) (k9 : (-2147483648) ≤ x9 ∧ x9 ≤ 2147483647) (k11 : 1 ≤ x11 ∧ x11 ≤ 72) (k12 : 0 ≤ x12 ∧ x12 ≤ 71) (k13 : 0 ≤ x13 ∧ x13 ≤ 71) (k14 : 1 ≤ x14 ∧ x14 ≤ 72) (d0 : x11 + 0 ≤ x14 ∧ x14 ≤ x11 + 4294967296) (d1 : x11 + (-4294967296) ≤ x1 ∧ x1 ≤ x11 + 0) (d2 : x12 + (-4294967296) ≤ x2 ∧ x2 ≤ x12 + 0) (d3 : x13 + (-4294967296) ≤ x3 ∧ x3 ≤ x13 + 0) (d4 : x1 + (-4294967296) ≤ x11 ∧ x11 ≤ x1 + 0) (d5 : x2 + (-4294967296) ≤ x12 ∧ x12 ≤ x2 + 0) (d6 : x3 + (-4294967296) ≤ x13 ∧ x13 ≤ x3 + 0) (d7 : x1 + (-4294967296) ≤ x14 ∧ x14 ≤ x1 + 0) (d8 : x11 + (-4294967296) ≤ x14 ∧ x14 ≤ x11 + 0) (f0 : x1 ≤ x14) (f1 : BLQ (a0_0) (x1)) (f2 : (0 ≤ x3) ∧ (x3 ≤ x2)) (f3 : RLI (a0_0) (a4_0) (a5_0) (x1) (x2) (x3) (x6) (x14)) (f4 : QKI (a0_0) (a4_0) (a5_0) (a7_0) (x8) (x1) (x6) (x9) (x2) (x3) (x14)) (hK_0_999 : ∀ j : Int, 0 ≤ j → j < 72 → (-1) ≤ a0_0 j ∧ a0_0 j ≤ 71) (hK_4_999 : ∀ j : Int, 0 ≤ j → j < 72 → 0 ≤ a4_0 j ∧ a4_0 j ≤ 24) (hK_5_999 : ∀ j : Int, 0 ≤ j → j < 72 → 0 ≤ a5_0 j ∧ a5_0 j ≤ 24) (hK_7_999 : ∀ j : Int, 0 ≤ j → j < 25 → 0 ≤ a7_0 j ∧ a7_0 j ≤ 33554431) : BLQ (a0_0) (x1) := by
  first
    | assumption
    | (skip; exact blq_set ‹BLQ _ _› (by assumption) rfl rfl (by omega) (by omega) (by omega) (by omega) (by omega))
  
set_option maxHeartbeats 4000000 in
theorem vc_Fa_relabel_at_Emblock_gp_1_1 (x1 : Int) (x2 : Int) (x3 : Int) (x6 : Int) (x8 : Int) (x9 : Int) (x11 : Int) (x12 : Int) (x13 : Int) (x14 : Int) (a0_0 : Int → Int) (a4_0 : Int → Int) (a5_0 : Int → Int) (a7_0 : Int → Int) (k1 : 1 ≤ x1 ∧ x1 ≤ 72) (k2 : 0 ≤ x2 ∧ x2 ≤ 71) (k3 : 0 ≤ x3 ∧ x3 ≤ 71) (k6 : 0 ≤ x6 ∧ x6 ≤ 24) (k8 : 0 ≤ x8 ∧ x8 ≤ 25) (k9 : (-2147483648) ≤ x9 ∧ x9 ≤ 2147483647) (k11 : 1 ≤ x11 ∧ x11 ≤ 72) (k12 : 0 ≤ x12 ∧ x12 ≤ 71) (k13 : 0 ≤ x13 ∧ x13 ≤ 71) (k14 : 1 ≤ x14 ∧ x14 ≤ 72) (d0 : x11 + 0 ≤ x14 ∧ x14 ≤ x11 + 4294967296) (d1 : x11 + (-4294967296) ≤ x1 ∧ x1 ≤ x11 + 0) (d2 : x12 + (-4294967296) ≤ x2 ∧ x2 ≤ x12 + 0) (d3 : x13 + (-4294967296) ≤ x3 ∧ x3 ≤ x13 + 0) (d4 : x1 + (-4294967296) ≤ x11 ∧ x11 ≤ x1 + 0) (d5 : x2 + (-4294967296) ≤ x12 ∧ x12 ≤ x2 + 0) (d6 : x3 + (-4294967296) ≤ x13 ∧ x13 ≤ x3 + 0) (d7 : x1 + (-4294967296) ≤ x14 ∧ x14 ≤ x1 + 0) (d8 : x11 + (-4294967296) ≤ x14 ∧ x14 ≤ x11 + 0) (f0 : x1 ≤ x14) (f1 : BLQ (a0_0) (x1)) (f2 : (0 ≤ x3) ∧ (x3 ≤ x2)) (f3 : RLI (a0_0) (a4_0) (a5_0) (x1) (x2) (x3) (x6) (x14)) (f4 : QKI (a0_0) (a4_0) (a5_0) (a7_0) (x8) (x1) (x6) (x9) (x2) (x3) (x14)) (hK_0_999 : ∀ j : Int, 0 ≤ j → j < 72 → (-1) ≤ a0_0 j ∧ a0_0 j ≤ 71) (hK_4_999 : ∀ j : Int, 0 ≤ j → j < 72 → 0 ≤ a4_0 j ∧ a4_0 j ≤ 24) (hK_5_999 : ∀ j : Int, 0 ≤ j → j < 72 → 0 ≤ a5_0 j ∧ a5_0 j ≤ 24) (hK_7_999 : ∀ j : Int, 0 ≤ j → j < 25 → 0 ≤ a7_0 j ∧ a7_0 j ≤ 33554431) : RLO (a0_0) (a4_0) (a5_0) (x1) (x3) (x6) := by
  first
    | exact rlo_of ‹RLI _ _ _ _ _ _ _ _› (by omega)
  
set_option maxHeartbeats 4000000 in
theorem vc_Fa_relabel_at_Emblock_gp_1_2 (x1 : Int) (x2 : Int) (x3 : Int) (x6 : Int) (x8 : Int) (x9 : Int) (x11 : Int) (x12 : Int) (x13 : Int) (x14 : Int) (a0_0 : Int → Int) (a4_0 : Int → Int) (a5_0 : Int → Int) (a7_0 : Int → Int) (k1 : 1 ≤ x1 ∧ x1 ≤ 72) (k2 : 0 ≤ x2 ∧ x2 ≤ 71) (k3 : 0 ≤ x3 ∧ x3 ≤ 71) (k6 : 0 ≤ x6 ∧ x6 ≤ 24) (k8 : 0 ≤ x8 ∧ x8 ≤ 25) (k9 : (-2147483648) ≤ x9 ∧ x9 ≤ 2147483647) (k11 : 1 ≤ x11 ∧ x11 ≤ 72) (k12 : 0 ≤ x12 ∧ x12 ≤ 71) (k13 : 0 ≤ x13 ∧ x13 ≤ 71) (k14 : 1 ≤ x14 ∧ x14 ≤ 72) (d0 : x11 + 0 ≤ x14 ∧ x14 ≤ x11 + 4294967296) (d1 : x11 + (-4294967296) ≤ x1 ∧ x1 ≤ x11 + 0) (d2 : x12 + (-4294967296) ≤ x2 ∧ x2 ≤ x12 + 0) (d3 : x13 + (-4294967296) ≤ x3 ∧ x3 ≤ x13 + 0) (d4 : x1 + (-4294967296) ≤ x11 ∧ x11 ≤ x1 + 0) (d5 : x2 + (-4294967296) ≤ x12 ∧ x12 ≤ x2 + 0) (d6 : x3 + (-4294967296) ≤ x13 ∧ x13 ≤ x3 + 0) (d7 : x1 + (-4294967296) ≤ x14 ∧ x14 ≤ x1 + 0) (d8 : x11 + (-4294967296) ≤ x14 ∧ x14 ≤ x11 + 0) (f0 : x1 ≤ x14) (f1 : BLQ (a0_0) (x1)) (f2 : (0 ≤ x3) ∧ (x3 ≤ x2)) (f3 : RLI (a0_0) (a4_0) (a5_0) (x1) (x2) (x3) (x6) (x14)) (f4 : QKI (a0_0) (a4_0) (a5_0) (a7_0) (x8) (x1) (x6) (x9) (x2) (x3) (x14)) (hK_0_999 : ∀ j : Int, 0 ≤ j → j < 72 → (-1) ≤ a0_0 j ∧ a0_0 j ≤ 71) (hK_4_999 : ∀ j : Int, 0 ≤ j → j < 72 → 0 ≤ a4_0 j ∧ a4_0 j ≤ 24) (hK_5_999 : ∀ j : Int, 0 ≤ j → j < 72 → 0 ≤ a5_0 j ∧ a5_0 j ≤ 24) (hK_7_999 : ∀ j : Int, 0 ≤ j → j < 25 → 0 ≤ a7_0 j ∧ a7_0 j ≤ 33554431) : QKO (a0_0) (a4_0) (a5_0) (a7_0) (x8) (x1) (x6) (x9) (x3) := by
  first
    | exact qko_of ‹QKI _ _ _ _ _ _ _ _ _ _ _› (by omega)
  
def o_Fa_relabel_at_Emblock_gp_1 : or_T := (28, 15, [(0, (2, 0, 0, [26])), (1, (0, 1, 72, [])), (2, (0, 0, 71, [])), (3, (0, 0, 71, [])), (4, (2, 0, 0, [140])), (5, (2, 0, 0, [141])), (6, (0, 0, 24, [])), (7, (2, 0, 0, [142])), (8, (0, 0, 25, [])), (9, (0, -2147483648, 2147483647, [])), (11, (0, 1, 72, [])), (12, (0, 0, 71, [])), (13, (0, 0, 71, [])), (14, (0, 1, 72, []))], [(7, [14, 11], [3]), (20, [10, 11], [61, 1, 566]), (20, [13, 12], [50, 0, 0, 2, 6, 0, 2, 0, 0, 1, 0, 0, 2, 1, 0, 1, 1]), (20, [10, 4, 5, 11, 12, 13, 6, 14], [61, 3, 582]), (20, [10, 4, 5, 7, 8, 11, 6, 9, 12, 13, 14], [61, 4, 591]), (24, [0, 10], []), (24, [1, 11], []), (24, [2, 12], []), (24, [3, 13], [])], [], [], [(20, [0, 1], [61, 1, 566]), (20, [0, 4, 5, 1, 3, 6], [61, 3, 583]), (20, [0, 4, 5, 7, 8, 1, 6, 9, 3], [61, 4, 592])], [], [(14, 11, 0, 4294967296), (1, 11, -4294967296, 0), (2, 12, -4294967296, 0), (3, 13, -4294967296, 0), (11, 1, -4294967296, 0), (12, 2, -4294967296, 0), (13, 3, -4294967296, 0), (14, 1, -4294967296, 0), (14, 11, -4294967296, 0)])
theorem oo_Fa_relabel_at_Emblock_gp_1 {kA : Nat → ClassId} : or_ok PRD kA GG o_Fa_relabel_at_Emblock_gp_1 := by
  refine or_mk fun A ta ws vs hD hth hl => ?_
  intro t0 r0 t1 k1 t2 k2 t3 k3 t4 r4 t5 r5 t6 k6 t7 r7 t8 k8 t9 k9 t11 k11 t12 k12 t13 k13 t14 k14 d0 d1 d2 d3 d4 d5 d6 d7 d8 f0 f1 f2 f3 f4 f5 f6 f7 f8
  replace f0 := shm_2 f0
  replace f1 := shm_365 f1
  replace f2 := shm_366 f2
  replace f3 := shm_369 f3
  replace f4 := shm_370 f4
  replace f5 := shm_5 f5
  replace f6 := shm_5 f6
  replace f7 := shm_5 f7
  replace f8 := shm_5 f8
  have q10 : n_v vs 10 = n_v vs 0 := f5.symm
  have q11 : n_v vs 11 = n_v vs 1 := f6.symm
  have q12 : n_v vs 12 = n_v vs 2 := f7.symm
  have q13 : n_v vs 13 = n_v vs 3 := f8.symm
  simp only [q11, q10, q12, q13] at f0 f1 f2 f3 f4
  have cr_0_999 : ta (v_ad (n_v vs 0)) = some 26 := r0
  have cr_4_999 : ta (v_ad (n_v vs 4)) = some 140 := r4
  have cr_5_999 : ta (v_ad (n_v vs 5)) = some 141 := r5
  have cr_7_999 : ta (v_ad (n_v vs 7)) = some 142 := r7
  have hK_0_999 := elq_18 hD hth cr_0_999
  have hK_4_999 := elq_21 hD hth cr_4_999
  have hK_5_999 := elq_22 hD hth cr_5_999
  have hK_7_999 := elq_27 hD hth cr_7_999
  have nf0 : fc_1 PRD (20, [0, 1], [61, 1, 566]) ws (vs) := ⟨nf_in hl rfl, sgq_365 (vc_Fa_relabel_at_Emblock_gp_1_0 (v_iv (n_v vs 1)) (v_iv (n_v vs 2)) (v_iv (n_v vs 3)) (v_iv (n_v vs 6)) (v_iv (n_v vs 8)) (v_iv (n_v vs 9)) (v_iv (n_v vs 11)) (v_iv (n_v vs 12)) (v_iv (n_v vs 13)) (v_iv (n_v vs 14)) (w_ei ws (v_ad (n_v vs 0))) (w_ei ws (v_ad (n_v vs 4))) (w_ei ws (v_ad (n_v vs 5))) (w_ei ws (v_ad (n_v vs 7))) k1 k2 k3 k6 k8 k9 k11 k12 k13 k14 d0 d1 d2 d3 d4 d5 d6 d7 d8 f0 f1 f2 f3 f4 hK_0_999 hK_4_999 hK_5_999 hK_7_999)⟩
  have nf1 : fc_1 PRD (20, [0, 4, 5, 1, 3, 6], [61, 3, 583]) ws (vs) := ⟨nf_in hl rfl, sgq_371 (vc_Fa_relabel_at_Emblock_gp_1_1 (v_iv (n_v vs 1)) (v_iv (n_v vs 2)) (v_iv (n_v vs 3)) (v_iv (n_v vs 6)) (v_iv (n_v vs 8)) (v_iv (n_v vs 9)) (v_iv (n_v vs 11)) (v_iv (n_v vs 12)) (v_iv (n_v vs 13)) (v_iv (n_v vs 14)) (w_ei ws (v_ad (n_v vs 0))) (w_ei ws (v_ad (n_v vs 4))) (w_ei ws (v_ad (n_v vs 5))) (w_ei ws (v_ad (n_v vs 7))) k1 k2 k3 k6 k8 k9 k11 k12 k13 k14 d0 d1 d2 d3 d4 d5 d6 d7 d8 f0 f1 f2 f3 f4 hK_0_999 hK_4_999 hK_5_999 hK_7_999)⟩
  have nf2 : fc_1 PRD (20, [0, 4, 5, 7, 8, 1, 6, 9, 3], [61, 4, 592]) ws (vs) := ⟨nf_in hl rfl, sgq_372 (vc_Fa_relabel_at_Emblock_gp_1_2 (v_iv (n_v vs 1)) (v_iv (n_v vs 2)) (v_iv (n_v vs 3)) (v_iv (n_v vs 6)) (v_iv (n_v vs 8)) (v_iv (n_v vs 9)) (v_iv (n_v vs 11)) (v_iv (n_v vs 12)) (v_iv (n_v vs 13)) (v_iv (n_v vs 14)) (w_ei ws (v_ad (n_v vs 0))) (w_ei ws (v_ad (n_v vs 4))) (w_ei ws (v_ad (n_v vs 5))) (w_ei ws (v_ad (n_v vs 7))) k1 k2 k3 k6 k8 k9 k11 k12 k13 k14 d0 d1 d2 d3 d4 d5 d6 d7 d8 f0 f1 f2 f3 f4 hK_0_999 hK_4_999 hK_5_999 hK_7_999)⟩
  refine ⟨(fun _ h => (by cases h)), [], trivial, ?_, (fun _ h => (by cases h))⟩
  rw [List.append_nil]
  exact List.forall_mem_cons.mpr ⟨⟨show (20 : Nat) < 100 from by decide, nf0⟩, List.forall_mem_cons.mpr ⟨⟨show (20 : Nat) < 100 from by decide, nf1⟩, List.forall_mem_cons.mpr ⟨⟨show (20 : Nat) < 100 from by decide, nf2⟩, (fun _ h => (by cases h))⟩⟩⟩
set_option maxHeartbeats 4000000 in
theorem vc_Fa_relabel_at_Emblock_gp_2_0 (x1 : Int) (x2 : Int) (x3 : Int) (x6 : Int) (x8 : Int) (x9 : Int) (x11 : Int) (x12 : Int) (x13 : Int) (x14 : Int) (x15 : Int) (x16 : Int) (a0_0 : Int → Int) (a4_0 : Int → Int) (a5_0 : Int → Int) (a7_0 : Int → Int) (k1 : 1 ≤ x1 ∧ x1 ≤ 72) (k2 : 0 ≤ x2 ∧ x2 ≤ 71) (k3 : 0 ≤ x3 ∧ x3 ≤ 71) (k6 : 0 ≤ x6 ∧ x6 ≤ 24) (k8 : 0 ≤ x8 ∧ x8 ≤ 25) (k9 : (-2147483648) ≤ x9 ∧ x9 ≤ 2147483647) (k11 : 1 ≤ x11 ∧ x11 ≤ 72) (k12 : 0 ≤ x12 ∧ x12 ≤ 71) (k13 : 0 ≤ x13 ∧ x13 ≤ 71) (k14 : 0 ≤ x14 ∧ x14 ≤ 71) (k15 : (-1) ≤ x15 ∧ x15 ≤ 71) (k16 : 1 ≤ x16 ∧ x16 ≤ 72) (d0 : x14 + 1 ≤ x16 ∧ x16 ≤ x14 + 1) (d1 : x11 + (-4294967296) ≤ x16 ∧ x16 ≤ x11 + 0) (d2 : x1 + (-4294967296) ≤ x16 ∧ x16 ≤ x1 + 1) (d3 : x11 + (-4294967296) ≤ x16 ∧ x16 ≤ x11 + 1) (d4 : x11 + (-4294967296) ≤ x14 ∧ x14 ≤ x11 + (-1)) (d5 : x11 + (-4294967296) ≤ x1 ∧ x1 ≤ x11 + 0) (d6 : x12 + (-4294967296) ≤ x2 ∧ x2 ≤ x12 + 0) (d7 : x13 + (-4294967296) ≤ x3 ∧ x3 ≤ x13 + 0) (d8 : x1 + (-4294967296) ≤ x11 ∧ x11 ≤ x1 + 0) (d9 : x2 + (-4294967296) ≤ x12 ∧ x12 ≤ x2 + 0) (d10 : x3 + (-4294967296) ≤ x13 ∧ x13 ≤ x3 + 0) (d11 : x1 + (-4294967296) ≤ x14 ∧ x14 ≤ x1 + 0) (d12 : x11 + (-4294967296) ≤ x14 ∧ x14 ≤ x11 + 0) (f0 : x16 = x14 + 1) (f1 : x15 ≠ x2) (h2 : x15 = a0_0 (x14)) (f3 : x14 < x1) (f4 : BLQ (a0_0) (x1)) (f5 : (0 ≤ x3) ∧ (x3 ≤ x2)) (f6 : RLI (a0_0) (a4_0) (a5_0) (x1) (x2) (x3) (x6) (x14)) (f7 : QKI (a0_0) (a4_0) (a5_0) (a7_0) (x8) (x1) (x6) (x9) (x2) (x3) (x14)) (hK_0_999 : ∀ j : Int, 0 ≤ j → j < 72 → (-1) ≤ a0_0 j ∧ a0_0 j ≤ 71) (hK_4_999 : ∀ j : Int, 0 ≤ j → j < 72 → 0 ≤ a4_0 j ∧ a4_0 j ≤ 24) (hK_5_999 : ∀ j : Int, 0 ≤ j → j < 72 → 0 ≤ a5_0 j ∧ a5_0 j ≤ 24) (hK_7_999 : ∀ j : Int, 0 ≤ j → j < 25 → 0 ≤ a7_0 j ∧ a7_0 j ≤ 33554431) : RLI (a0_0) (a4_0) (a5_0) (x1) (x2) (x3) (x6) (x16) := by
  first
    | exact rli_start ‹RLP _ _ _ _ _ _ _› (by omega)
    | exact rli_skip ‹RLI _ _ _ _ _ _ _ _› (by assumption) (by omega) (by omega)
    | exact rli_step ‹RLI _ _ _ _ _ _ _ _› (by assumption) (by omega) (by assumption) (by omega) (by omega) (by omega)
  
set_option maxHeartbeats 4000000 in
theorem vc_Fa_relabel_at_Emblock_gp_2_1 (x1 : Int) (x2 : Int) (x3 : Int) (x6 : Int) (x8 : Int) (x9 : Int) (x11 : Int) (x12 : Int) (x13 : Int) (x14 : Int) (x15 : Int) (x16 : Int) (a0_0 : Int → Int) (a4_0 : Int → Int) (a5_0 : Int → Int) (a7_0 : Int → Int) (k1 : 1 ≤ x1 ∧ x1 ≤ 72) (k2 : 0 ≤ x2 ∧ x2 ≤ 71) (k3 : 0 ≤ x3 ∧ x3 ≤ 71) (k6 : 0 ≤ x6 ∧ x6 ≤ 24) (k8 : 0 ≤ x8 ∧ x8 ≤ 25) (k9 : (-2147483648) ≤ x9 ∧ x9 ≤ 2147483647) (k11 : 1 ≤ x11 ∧ x11 ≤ 72) (k12 : 0 ≤ x12 ∧ x12 ≤ 71) (k13 : 0 ≤ x13 ∧ x13 ≤ 71) (k14 : 0 ≤ x14 ∧ x14 ≤ 71) (k15 : (-1) ≤ x15 ∧ x15 ≤ 71) (k16 : 1 ≤ x16 ∧ x16 ≤ 72) (d0 : x14 + 1 ≤ x16 ∧ x16 ≤ x14 + 1) (d1 : x11 + (-4294967296) ≤ x16 ∧ x16 ≤ x11 + 0) (d2 : x1 + (-4294967296) ≤ x16 ∧ x16 ≤ x1 + 1) (d3 : x11 + (-4294967296) ≤ x16 ∧ x16 ≤ x11 + 1) (d4 : x11 + (-4294967296) ≤ x14 ∧ x14 ≤ x11 + (-1)) (d5 : x11 + (-4294967296) ≤ x1 ∧ x1 ≤ x11 + 0) (d6 : x12 + (-4294967296) ≤ x2 ∧ x2 ≤ x12 + 0) (d7 : x13 + (-4294967296) ≤ x3 ∧ x3 ≤ x13 + 0) (d8 : x1 + (-4294967296) ≤ x11 ∧ x11 ≤ x1 + 0) (d9 : x2 + (-4294967296) ≤ x12 ∧ x12 ≤ x2 + 0) (d10 : x3 + (-4294967296) ≤ x13 ∧ x13 ≤ x3 + 0) (d11 : x1 + (-4294967296) ≤ x14 ∧ x14 ≤ x1 + 0) (d12 : x11 + (-4294967296) ≤ x14 ∧ x14 ≤ x11 + 0) (f0 : x16 = x14 + 1) (f1 : x15 ≠ x2) (h2 : x15 = a0_0 (x14)) (f3 : x14 < x1) (f4 : BLQ (a0_0) (x1)) (f5 : (0 ≤ x3) ∧ (x3 ≤ x2)) (f6 : RLI (a0_0) (a4_0) (a5_0) (x1) (x2) (x3) (x6) (x14)) (f7 : QKI (a0_0) (a4_0) (a5_0) (a7_0) (x8) (x1) (x6) (x9) (x2) (x3) (x14)) (hK_0_999 : ∀ j : Int, 0 ≤ j → j < 72 → (-1) ≤ a0_0 j ∧ a0_0 j ≤ 71) (hK_4_999 : ∀ j : Int, 0 ≤ j → j < 72 → 0 ≤ a4_0 j ∧ a4_0 j ≤ 24) (hK_5_999 : ∀ j : Int, 0 ≤ j → j < 72 → 0 ≤ a5_0 j ∧ a5_0 j ≤ 24) (hK_7_999 : ∀ j : Int, 0 ≤ j → j < 25 → 0 ≤ a7_0 j ∧ a7_0 j ≤ 33554431) : QKI (a0_0) (a4_0) (a5_0) (a7_0) (x8) (x1) (x6) (x9) (x2) (x3) (x16) := by
  first
    | exact qki_start ‹QKP _ _ _ _ _ _ _ _ _ _› (by omega)
    | exact qki_skip ‹QKI _ _ _ _ _ _ _ _ _ _ _› (by assumption) (by omega) (by omega)
    | exact qki_step ‹QKI _ _ _ _ _ _ _ _ _ _ _› (by assumption) (by omega) (by assumption) rfl (by omega) (by omega)
  
def o_Fa_relabel_at_Emblock_gp_2 : or_T := (3, 17, [(0, (2, 0, 0, [26])), (1, (0, 1, 72, [])), (2, (0, 0, 71, [])), (3, (0, 0, 71, [])), (4, (2, 0, 0, [140])), (5, (2, 0, 0, [141])), (6, (0, 0, 24, [])), (7, (2, 0, 0, [142])), (8, (0, 0, 25, [])), (9, (0, -2147483648, 2147483647, [])), (10, (2, 0, 0, [26])), (11, (0, 1, 72, [])), (12, (0, 0, 71, [])), (13, (0, 0, 71, [])), (14, (0, 0, 71, [])), (15, (0, -1, 71, [])), (16, (0, 1, 72, []))], [(6, [16, 14], [1]), (7, [15, 12], [1]), (10, [15, 10, 14], []), (7, [14, 11], [2]), (20, [10, 11], [61, 1, 566]), (20, [13, 12], [50, 0, 0, 2, 6, 0, 2, 0, 0, 1, 0, 0, 2, 1, 0, 1, 1]), (20, [10, 4, 5, 11, 12, 13, 6, 14], [61, 3, 582]), (20, [10, 4, 5, 7, 8, 11, 6, 9, 12, 13, 14], [61, 4, 591]), (24, [0, 10], []), (24, [1, 11], []), (24, [2, 12], []), (24, [3, 13], [])], [], [], [(20, [10, 4, 5, 11, 12, 13, 6, 16], [61, 3, 582]), (20, [10, 4, 5, 7, 8, 11, 6, 9, 12, 13, 16], [61, 4, 591])], [], [(16, 14, 1, 1), (16, 11, -4294967296, 0), (16, 1, -4294967296, 1), (16, 11, -4294967296, 1), (14, 11, -4294967296, -1), (1, 11, -4294967296, 0), (2, 12, -4294967296, 0), (3, 13, -4294967296, 0), (11, 1, -4294967296, 0), (12, 2, -4294967296, 0), (13, 3, -4294967296, 0), (14, 1, -4294967296, 0), (14, 11, -4294967296, 0)])
theorem oo_Fa_relabel_at_Emblock_gp_2 {kA : Nat → ClassId} : or_ok PRD kA GG o_Fa_relabel_at_Emblock_gp_2 := by
  refine or_mk fun A ta ws vs hD hth hl => ?_
  intro t0 r0 t1 k1 t2 k2 t3 k3 t4 r4 t5 r5 t6 k6 t7 r7 t8 k8 t9 k9 t10 r10 t11 k11 t12 k12 t13 k13 t14 k14 t15 k15 t16 k16 d0 d1 d2 d3 d4 d5 d6 d7 d8 d9 d10 d11 d12 f0 f1 f2 f3 f4 f5 f6 f7 f8 f9 f10 f11
  replace f0 := shm_4 f0
  replace f1 := shm_40 f1
  replace f2 := shm_107 f2
  replace f3 := shm_6 f3
  replace f4 := shm_365 f4
  replace f5 := shm_366 f5
  replace f6 := shm_369 f6
  replace f7 := shm_370 f7
  replace f8 := shm_5 f8
  replace f9 := shm_5 f9
  replace f10 := shm_5 f10
  replace f11 := shm_5 f11
  have q10 : n_v vs 10 = n_v vs 0 := f8.symm
  have q11 : n_v vs 11 = n_v vs 1 := f9.symm
  have q12 : n_v vs 12 = n_v vs 2 := f10.symm
  have q13 : n_v vs 13 = n_v vs 3 := f11.symm
  simp only [q12, q10, q11, q13] at f1 f2 f3 f4 f5 f6 f7
  have cr_0_999 : ta (v_ad (n_v vs 0)) = some 26 := r0
  have cr_4_999 : ta (v_ad (n_v vs 4)) = some 140 := r4
  have cr_5_999 : ta (v_ad (n_v vs 5)) = some 141 := r5
  have cr_7_999 : ta (v_ad (n_v vs 7)) = some 142 := r7
  have h2 : v_iv (n_v vs 15) = w_ei ws (v_ad (n_v vs 0)) (v_iv (n_v vs 14)) := f2
  have hK_0_999 := elq_18 hD hth cr_0_999
  have hK_4_999 := elq_21 hD hth cr_4_999
  have hK_5_999 := elq_22 hD hth cr_5_999
  have hK_7_999 := elq_27 hD hth cr_7_999
  have nf0 : fc_1 PRD (20, [10, 4, 5, 11, 12, 13, 6, 16], [61, 3, 582]) ws (vs) := by
    refine ⟨nf_in hl rfl, sgq_369 ?_⟩
    · show RLI (w_ei ws (v_ad (n_v vs 10))) (w_ei ws (v_ad (n_v vs 4))) (w_ei ws (v_ad (n_v vs 5))) (v_iv (n_v vs 11)) (v_iv (n_v vs 12)) (v_iv (n_v vs 13)) (v_iv (n_v vs 6)) (v_iv (n_v vs 16))
      simp only [q10, q11, q12, q13]
      exact vc_Fa_relabel_at_Emblock_gp_2_0 (v_iv (n_v vs 1)) (v_iv (n_v vs 2)) (v_iv (n_v vs 3)) (v_iv (n_v vs 6)) (v_iv (n_v vs 8)) (v_iv (n_v vs 9)) (v_iv (n_v vs 11)) (v_iv (n_v vs 12)) (v_iv (n_v vs 13)) (v_iv (n_v vs 14)) (v_iv (n_v vs 15)) (v_iv (n_v vs 16)) (w_ei ws (v_ad (n_v vs 0))) (w_ei ws (v_ad (n_v vs 4))) (w_ei ws (v_ad (n_v vs 5))) (w_ei ws (v_ad (n_v vs 7))) k1 k2 k3 k6 k8 k9 k11 k12 k13 k14 k15 k16 d0 d1 d2 d3 d4 d5 d6 d7 d8 d9 d10 d11 d12 f0 f1 h2 f3 f4 f5 f6 f7 hK_0_999 hK_4_999 hK_5_999 hK_7_999
  have nf1 : fc_1 PRD (20, [10, 4, 5, 7, 8, 11, 6, 9, 12, 13, 16], [61, 4, 591]) ws (vs) := by
    refine ⟨nf_in hl rfl, sgq_370 ?_⟩
    · show QKI (w_ei ws (v_ad (n_v vs 10))) (w_ei ws (v_ad (n_v vs 4))) (w_ei ws (v_ad (n_v vs 5))) (w_ei ws (v_ad (n_v vs 7))) (v_iv (n_v vs 8)) (v_iv (n_v vs 11)) (v_iv (n_v vs 6)) (v_iv (n_v vs 9)) (v_iv (n_v vs 12)) (v_iv (n_v vs 13)) (v_iv (n_v vs 16))
      simp only [q10, q11, q12, q13]
      exact vc_Fa_relabel_at_Emblock_gp_2_1 (v_iv (n_v vs 1)) (v_iv (n_v vs 2)) (v_iv (n_v vs 3)) (v_iv (n_v vs 6)) (v_iv (n_v vs 8)) (v_iv (n_v vs 9)) (v_iv (n_v vs 11)) (v_iv (n_v vs 12)) (v_iv (n_v vs 13)) (v_iv (n_v vs 14)) (v_iv (n_v vs 15)) (v_iv (n_v vs 16)) (w_ei ws (v_ad (n_v vs 0))) (w_ei ws (v_ad (n_v vs 4))) (w_ei ws (v_ad (n_v vs 5))) (w_ei ws (v_ad (n_v vs 7))) k1 k2 k3 k6 k8 k9 k11 k12 k13 k14 k15 k16 d0 d1 d2 d3 d4 d5 d6 d7 d8 d9 d10 d11 d12 f0 f1 h2 f3 f4 f5 f6 f7 hK_0_999 hK_4_999 hK_5_999 hK_7_999
  refine ⟨(fun _ h => (by cases h)), [], trivial, ?_, (fun _ h => (by cases h))⟩
  rw [List.append_nil]
  exact List.forall_mem_cons.mpr ⟨⟨show (20 : Nat) < 100 from by decide, nf0⟩, List.forall_mem_cons.mpr ⟨⟨show (20 : Nat) < 100 from by decide, nf1⟩, (fun _ h => (by cases h))⟩⟩
set_option maxHeartbeats 4000000 in
theorem vc_Fa_relabel_at_Emblock_gp_3_0 (x1 : Int) (x2 : Int) (x3 : Int) (x6 : Int) (x8 : Int) (x9 : Int) (x11 : Int) (x12 : Int) (x13 : Int) (x14 : Int) (x15 : Int) (x16 : Int) (a0_1 : Int → Int) (a4_1 : Int → Int) (a5_1 : Int → Int) (a7_1 : Int → Int) (a0_0 : Int → Int) (a4_0 : Int → Int) (a5_0 : Int → Int) (a7_0 : Int → Int) (k1 : 1 ≤ x1 ∧ x1 ≤ 72) (k2 : 0 ≤ x2 ∧ x2 ≤ 71) (k3 : 0 ≤ x3 ∧ x3 ≤ 71) (k6 : 0 ≤ x6 ∧ x6 ≤ 24) (k8 : 0 ≤ x8 ∧ x8 ≤ 25) (k9 : (-2147483648) ≤ x9 ∧ x9 ≤ 2147483647) (k11 : 1 ≤ x11 ∧ x11 ≤ 72) (k12 : 0 ≤ x12 ∧ x12 ≤ 71) (k13 : 0 ≤ x13 ∧ x13 ≤ 71) (k14 : 0 ≤ x14 ∧ x14 ≤ 71) (k15 : 0 ≤ x15 ∧ x15 ≤ 71) (k16 : 1 ≤ x16 ∧ x16 ≤ 72) (d0 : x14 + 1 ≤ x16 ∧ x16 ≤ x14 + 1) (d1 : x11 + (-4294967296) ≤ x16 ∧ x16 ≤ x11 + 0) (d2 : x1 + (-4294967296) ≤ x16 ∧ x16 ≤ x1 + 1) (d3 : x11 + (-4294967296) ≤ x16 ∧ x16 ≤ x11 + 1) (d4 : x12 + 0 ≤ x15 ∧ x15 ≤ x12 + 0) (d5 : x11 + (-4294967296) ≤ x14 ∧ x14 ≤ x11 + (-1)) (d6 : x11 + (-4294967296) ≤ x1 ∧ x1 ≤ x11 + 0) (d7 : x12 + (-4294967296) ≤ x2 ∧ x2 ≤ x12 + 0) (d8 : x13 + (-4294967296) ≤ x3 ∧ x3 ≤ x13 + 0) (d9 : x1 + (-4294967296) ≤ x11 ∧ x11 ≤ x1 + 0) (d10 : x2 + (-4294967296) ≤ x12 ∧ x12 ≤ x2 + 0) (d11 : x3 + (-4294967296) ≤ x13 ∧ x13 ≤ x3 + 0) (d12 : x1 + (-4294967296) ≤ x14 ∧ x14 ≤ x1 + 0) (d13 : x11 + (-4294967296) ≤ x14 ∧ x14 ≤ x11 + 0) (f0 : x16 = x14 + 1) (f1 : (0 ≤ x3) ∧ (x3 ≤ x2)) (f7 : x15 = x2) (h8 : x15 = a0_1 (x14)) (f9 : x14 < x1) (f10 : BLQ (a0_1) (x1)) (f11 : (0 ≤ x3) ∧ (x3 ≤ x2)) (f12 : RLI (a0_1) (a4_1) (a5_1) (x1) (x2) (x3) (x6) (x14)) (f13 : QKI (a0_1) (a4_1) (a5_1) (a7_1) (x8) (x1) (x6) (x9) (x2) (x3) (x14)) (hE_0_999_1 : ∀ j : Int, 0 ≤ j → (j = x14 → a0_0 j = x3) ∧ (j ≠ x14 → a0_0 j = a0_1 j)) (hK_0_999 : ∀ j : Int, 0 ≤ j → j < 72 → (-1) ≤ a0_0 j ∧ a0_0 j ≤ 71) (hE_4_999_1 : ∀ j : Int, a4_0 j = a4_1 j) (hK_4_999 : ∀ j : Int, 0 ≤ j → j < 72 → 0 ≤ a4_0 j ∧ a4_0 j ≤ 24) (hE_5_999_1 : ∀ j : Int, a5_0 j = a5_1 j) (hK_5_999 : ∀ j : Int, 0 ≤ j → j < 72 → 0 ≤ a5_0 j ∧ a5_0 j ≤ 24) (hE_7_999_1 : ∀ j : Int, a7_0 j = a7_1 j) (hK_7_999 : ∀ j : Int, 0 ≤ j → j < 25 → 0 ≤ a7_0 j ∧ a7_0 j ≤ 33554431) : BLQ (a0_0) (x1) := by
  have e_hE_4_999_1 := funext hE_4_999_1; subst e_hE_4_999_1
  have e_hE_5_999_1 := funext hE_5_999_1; subst e_hE_5_999_1
  have e_hE_7_999_1 := funext hE_7_999_1; subst e_hE_7_999_1
  first
    | assumption
    | (skip; (first | subst h8 | skip); exact blq_set ‹BLQ _ _› (by assumption) rfl rfl (by omega) (by omega) (by omega) (by omega) (by omega))
  
set_option maxHeartbeats 4000000 in
theorem vc_Fa_relabel_at_Emblock_gp_3_1 (x1 : Int) (x2 : Int) (x3 : Int) (x6 : Int) (x8 : Int) (x9 : Int) (x11 : Int) (x12 : Int) (x13 : Int) (x14 : Int) (x15 : Int) (x16 : Int) (a0_1 : Int → Int) (a4_1 : Int → Int) (a5_1 : Int → Int) (a7_1 : Int → Int) (a0_0 : Int → Int) (a4_0 : Int → Int) (a5_0 : Int → Int) (a7_0 : Int → Int) (k1 : 1 ≤ x1 ∧ x1 ≤ 72) (k2 : 0 ≤ x2 ∧ x2 ≤ 71) (k3 : 0 ≤ x3 ∧ x3 ≤ 71) (k6 : 0 ≤ x6 ∧ x6 ≤ 24) (k8 : 0 ≤ x8 ∧ x8 ≤ 25) (k9 : (-2147483648) ≤ x9 ∧ x9 ≤ 2147483647) (k11 : 1 ≤ x11 ∧ x11 ≤ 72) (k12 : 0 ≤ x12 ∧ x12 ≤ 71) (k13 : 0 ≤ x13 ∧ x13 ≤ 71) (k14 : 0 ≤ x14 ∧ x14 ≤ 71) (k15 : 0 ≤ x15 ∧ x15 ≤ 71) (k16 : 1 ≤ x16 ∧ x16 ≤ 72) (d0 : x14 + 1 ≤ x16 ∧ x16 ≤ x14 + 1) (d1 : x11 + (-4294967296) ≤ x16 ∧ x16 ≤ x11 + 0) (d2 : x1 + (-4294967296) ≤ x16 ∧ x16 ≤ x1 + 1) (d3 : x11 + (-4294967296) ≤ x16 ∧ x16 ≤ x11 + 1) (d4 : x12 + 0 ≤ x15 ∧ x15 ≤ x12 + 0) (d5 : x11 + (-4294967296) ≤ x14 ∧ x14 ≤ x11 + (-1)) (d6 : x11 + (-4294967296) ≤ x1 ∧ x1 ≤ x11 + 0) (d7 : x12 + (-4294967296) ≤ x2 ∧ x2 ≤ x12 + 0) (d8 : x13 + (-4294967296) ≤ x3 ∧ x3 ≤ x13 + 0) (d9 : x1 + (-4294967296) ≤ x11 ∧ x11 ≤ x1 + 0) (d10 : x2 + (-4294967296) ≤ x12 ∧ x12 ≤ x2 + 0) (d11 : x3 + (-4294967296) ≤ x13 ∧ x13 ≤ x3 + 0) (d12 : x1 + (-4294967296) ≤ x14 ∧ x14 ≤ x1 + 0) (d13 : x11 + (-4294967296) ≤ x14 ∧ x14 ≤ x11 + 0) (f0 : x16 = x14 + 1) (f1 : (0 ≤ x3) ∧ (x3 ≤ x2)) (f7 : x15 = x2) (h8 : x15 = a0_1 (x14)) (f9 : x14 < x1) (f10 : BLQ (a0_1) (x1)) (f11 : (0 ≤ x3) ∧ (x3 ≤ x2)) (f12 : RLI (a0_1) (a4_1) (a5_1) (x1) (x2) (x3) (x6) (x14)) (f13 : QKI (a0_1) (a4_1) (a5_1) (a7_1) (x8) (x1) (x6) (x9) (x2) (x3) (x14)) (hE_0_999_1 : ∀ j : Int, 0 ≤ j → (j = x14 → a0_0 j = x3) ∧ (j ≠ x14 → a0_0 j = a0_1 j)) (hK_0_999 : ∀ j : Int, 0 ≤ j → j < 72 → (-1) ≤ a0_0 j ∧ a0_0 j ≤ 71) (hE_4_999_1 : ∀ j : Int, a4_0 j = a4_1 j) (hK_4_999 : ∀ j : Int, 0 ≤ j → j < 72 → 0 ≤ a4_0 j ∧ a4_0 j ≤ 24) (hE_5_999_1 : ∀ j : Int, a5_0 j = a5_1 j) (hK_5_999 : ∀ j : Int, 0 ≤ j → j < 72 → 0 ≤ a5_0 j ∧ a5_0 j ≤ 24) (hE_7_999_1 : ∀ j : Int, a7_0 j = a7_1 j) (hK_7_999 : ∀ j : Int, 0 ≤ j → j < 25 → 0 ≤ a7_0 j ∧ a7_0 j ≤ 33554431) : RLI (a0_0) (a4_0) (a5_0) (x1) (x2) (x3) (x6) (x16) := by
  have e_hE_4_999_1 := funext hE_4_999_1; subst e_hE_4_999_1
  have e_hE_5_999_1 := funext hE_5_999_1; subst e_hE_5_999_1
  have e_hE_7_999_1 := funext hE_7_999_1; subst e_hE_7_999_1
  first
    | exact rli_start ‹RLP _ _ _ _ _ _ _› (by omega)
    | exact rli_skip ‹RLI _ _ _ _ _ _ _ _› (by assumption) (by omega) (by omega)
    | exact rli_step ‹RLI _ _ _ _ _ _ _ _› (by assumption) (by omega) (by assumption) (by omega) (by omega) (by omega)
  
set_option maxHeartbeats 4000000 in
theorem vc_Fa_relabel_at_Emblock_gp_3_2 (x1 : Int) (x2 : Int) (x3 : Int) (x6 : Int) (x8 : Int) (x9 : Int) (x11 : Int) (x12 : Int) (x13 : Int) (x14 : Int) (x15 : Int) (x16 : Int) (a0_1 : Int → Int) (a4_1 : Int → Int) (a5_1 : Int → Int) (a7_1 : Int → Int) (a0_0 : Int → Int) (a4_0 : Int → Int) (a5_0 : Int → Int) (a7_0 : Int → Int) (k1 : 1 ≤ x1 ∧ x1 ≤ 72) (k2 : 0 ≤ x2 ∧ x2 ≤ 71) (k3 : 0 ≤ x3 ∧ x3 ≤ 71) (k6 : 0 ≤ x6 ∧ x6 ≤ 24) (k8 : 0 ≤ x8 ∧ x8 ≤ 25) (k9 : (-2147483648) ≤ x9 ∧ x9 ≤ 2147483647) (k11 : 1 ≤ x11 ∧ x11 ≤ 72) (k12 : 0 ≤ x12 ∧ x12 ≤ 71) (k13 : 0 ≤ x13 ∧ x13 ≤ 71) (k14 : 0 ≤ x14 ∧ x14 ≤ 71) (k15 : 0 ≤ x15 ∧ x15 ≤ 71) (k16 : 1 ≤ x16 ∧ x16 ≤ 72) (d0 : x14 + 1 ≤ x16 ∧ x16 ≤ x14 + 1) (d1 : x11 + (-4294967296) ≤ x16 ∧ x16 ≤ x11 + 0) (d2 : x1 + (-4294967296) ≤ x16 ∧ x16 ≤ x1 + 1) (d3 : x11 + (-4294967296) ≤ x16 ∧ x16 ≤ x11 + 1) (d4 : x12 + 0 ≤ x15 ∧ x15 ≤ x12 + 0) (d5 : x11 + (-4294967296) ≤ x14 ∧ x14 ≤ x11 + (-1)) (d6 : x11 + (-4294967296) ≤ x1 ∧ x1 ≤ x11 + 0) (d7 : x12 + (-4294967296) ≤ x2 ∧ x2 ≤ x12 + 0) (d8 : x13 + (-4294967296) ≤ x3 ∧ x3 ≤ x13 + 0) (d9 : x1 + (-4294967296) ≤ x11 ∧ x11 ≤ x1 + 0) (d10 : x2 + (-4294967296) ≤ x12 ∧ x12 ≤ x2 + 0) (d11 : x3 + (-4294967296) ≤ x13 ∧ x13 ≤ x3 + 0) (d12 : x1 + (-4294967296) ≤ x14 ∧ x14 ≤ x1 + 0) (d13 : x11 + (-4294967296) ≤ x14 ∧ x14 ≤ x11 + 0) (f0 : x16 = x14 + 1) (f1 : (0 ≤ x3) ∧ (x3 ≤ x2)) (f7 : x15 = x2) (h8 : x15 = a0_1 (x14)) (f9 : x14 < x1) (f10 : BLQ (a0_1) (x1)) (f11 : (0 ≤ x3) ∧ (x3 ≤ x2)) (f12 : RLI (a0_1) (a4_1) (a5_1) (x1) (x2) (x3) (x6) (x14)) (f13 : QKI (a0_1) (a4_1) (a5_1) (a7_1) (x8) (x1) (x6) (x9) (x2) (x3) (x14)) (hE_0_999_1 : ∀ j : Int, 0 ≤ j → (j = x14 → a0_0 j = x3) ∧ (j ≠ x14 → a0_0 j = a0_1 j)) (hK_0_999 : ∀ j : Int, 0 ≤ j → j < 72 → (-1) ≤ a0_0 j ∧ a0_0 j ≤ 71) (hE_4_999_1 : ∀ j : Int, a4_0 j = a4_1 j) (hK_4_999 : ∀ j : Int, 0 ≤ j → j < 72 → 0 ≤ a4_0 j ∧ a4_0 j ≤ 24) (hE_5_999_1 : ∀ j : Int, a5_0 j = a5_1 j) (hK_5_999 : ∀ j : Int, 0 ≤ j → j < 72 → 0 ≤ a5_0 j ∧ a5_0 j ≤ 24) (hE_7_999_1 : ∀ j : Int, a7_0 j = a7_1 j) (hK_7_999 : ∀ j : Int, 0 ≤ j → j < 25 → 0 ≤ a7_0 j ∧ a7_0 j ≤ 33554431) : QKI (a0_0) (a4_0) (a5_0) (a7_0) (x8) (x1) (x6) (x9) (x2) (x3) (x16) := by
  have e_hE_4_999_1 := funext hE_4_999_1; subst e_hE_4_999_1
  have e_hE_5_999_1 := funext hE_5_999_1; subst e_hE_5_999_1
  have e_hE_7_999_1 := funext hE_7_999_1; subst e_hE_7_999_1
  first
    | exact qki_start ‹QKP _ _ _ _ _ _ _ _ _ _› (by omega)
    | exact qki_skip ‹QKI _ _ _ _ _ _ _ _ _ _ _› (by assumption) (by omega) (by omega)
    | exact qki_step ‹QKI _ _ _ _ _ _ _ _ _ _ _› (by assumption) (by omega) (by assumption) rfl (by omega) (by omega)
  
def o_Fa_relabel_at_Emblock_gp_3 : or_T := (3, 17, [(0, (2, 0, 0, [26])), (1, (0, 1, 72, [])), (2, (0, 0, 71, [])), (3, (0, 0, 71, [])), (4, (2, 0, 0, [140])), (5, (2, 0, 0, [141])), (6, (0, 0, 24, [])), (7, (2, 0, 0, [142])), (8, (0, 0, 25, [])), (9, (0, -2147483648, 2147483647, [])), (10, (2, 0, 0, [26])), (11, (0, 1, 72, [])), (12, (0, 0, 71, [])), (13, (0, 0, 71, [])), (14, (0, 0, 71, [])), (15, (0, 0, 71, [])), (16, (0, 1, 72, []))], [(6, [16, 14], [1]), (20, [13, 12], [50, 0, 0, 2, 6, 0, 2, 0, 0, 1, 0, 0, 2, 1, 0, 1, 1]), (24, [0, 10], []), (24, [1, 11], []), (24, [2, 12], []), (24, [3, 13], []), (100, [10, 14, 13], []), (7, [15, 12], [0]), (10, [15, 10, 14], []), (7, [14, 11], [2]), (20, [10, 11], [61, 1, 566]), (20, [13, 12], [50, 0, 0, 2, 6, 0, 2, 0, 0, 1, 0, 0, 2, 1, 0, 1, 1]), (20, [10, 4, 5, 11, 12, 13, 6, 14], [61, 3, 582]), (20, [10, 4, 5, 7, 8, 11, 6, 9, 12, 13, 14], [61, 4, 591])], [], [], [(20, [10, 11], [61, 1, 566]), (20, [10, 4, 5, 11, 12, 13, 6, 16], [61, 3, 582]), (20, [10, 4, 5, 7, 8, 11, 6, 9, 12, 13, 16], [61, 4, 591])], [], [(16, 14, 1, 1), (16, 11, -4294967296, 0), (16, 1, -4294967296, 1), (16, 11, -4294967296, 1), (15, 12, 0, 0), (14, 11, -4294967296, -1), (1, 11, -4294967296, 0), (2, 12, -4294967296, 0), (3, 13, -4294967296, 0), (11, 1, -4294967296, 0), (12, 2, -4294967296, 0), (13, 3, -4294967296, 0), (14, 1, -4294967296, 0), (14, 11, -4294967296, 0)])
theorem oo_Fa_relabel_at_Emblock_gp_3 {kA : Nat → ClassId} : or_ok PRD kA GG o_Fa_relabel_at_Emblock_gp_3 := by
  refine or_mk fun A ta ws vs hD hth hl => ?_
  intro t0 r0 t1 k1 t2 k2 t3 k3 t4 r4 t5 r5 t6 k6 t7 r7 t8 k8 t9 k9 t10 r10 t11 k11 t12 k12 t13 k13 t14 k14 t15 k15 t16 k16 d0 d1 d2 d3 d4 d5 d6 d7 d8 d9 d10 d11 d12 d13 f0 f1 f2 f3 f4 f5 ta1 w1 le1 s1 f7 f8 f9 f10 f11 f12 f13
  replace f0 := shm_4 f0
  replace f1 := shm_366 f1
  replace f2 := shm_5 f2
  replace f3 := shm_5 f3
  replace f4 := shm_5 f4
  replace f5 := shm_5 f5
  have s1 : (∀ b j, w_el ws b j = if b = v_ad (n_v vs 10) ∧ j = (v_iv (n_v vs 14)).toNat then v_iv (n_v vs 13) else w_el w1 b j) ∧ ∀ b k, w_fd ws b k = w_fd w1 b k := s1.2
  replace f7 := shm_37 f7
  replace f8 := shm_107 f8
  replace f9 := shm_6 f9
  replace f10 := shm_365 f10
  replace f11 := shm_366 f11
  replace f12 := shm_369 f12
  replace f13 := shm_370 f13
  have q10 : n_v vs 10 = n_v vs 0 := f2.symm
  have q11 : n_v vs 11 = n_v vs 1 := f3.symm
  have q12 : n_v vs 12 = n_v vs 2 := f4.symm
  have q13 : n_v vs 13 = n_v vs 3 := f5.symm
  simp only [q12, q13] at f1
  rw [q10] at s1
  rw [q13] at s1
  simp only [q12, q10, q11, q13] at f7 f8 f9 f10 f11 f12 f13
  have cr_0_999 : ta (v_ad (n_v vs 0)) = some 26 := r0
  have cr_4_999 : ta (v_ad (n_v vs 4)) = some 140 := r4
  have cr_5_999 : ta (v_ad (n_v vs 5)) = some 141 := r5
  have cr_7_999 : ta (v_ad (n_v vs 7)) = some 142 := r7
  have ad_0 : v_ad (n_v vs 0) = v_ad (n_v vs 0) := rfl
  have h8 : v_iv (n_v vs 15) = w_ei w1 (v_ad (n_v vs 0)) (v_iv (n_v vs 14)) := f8
  have hE_0_999_1 : ∀ j : Int, 0 ≤ j → (j = v_iv (n_v vs 14) → w_ei ws (v_ad (n_v vs 0)) j = v_iv (n_v vs 3)) ∧ (j ≠ v_iv (n_v vs 14) → w_ei ws (v_ad (n_v vs 0)) j = w_ei w1 (v_ad (n_v vs 0)) j) := fun j hj => ⟨fun h => by unfold w_ei; rw [s1.1, if_pos ⟨ad_0.symm, by rw [h]⟩], fun h => by unfold w_ei; rw [s1.1, if_neg (fun e => h (by have := e.2; omega))]⟩
  have hK_0_999 := elq_18 hD hth cr_0_999
  have hE_4_999_1 : ∀ j : Int, w_ei ws (v_ad (n_v vs 4)) j = w_ei w1 (v_ad (n_v vs 4)) j := el_kp s1.1 r0 cr_4_999 (by decide)
  have hK_4_999 := elq_21 hD hth cr_4_999
  have hE_5_999_1 : ∀ j : Int, w_ei ws (v_ad (n_v vs 5)) j = w_ei w1 (v_ad (n_v vs 5)) j := el_kp s1.1 r0 cr_5_999 (by decide)
  have hK_5_999 := elq_22 hD hth cr_5_999
  have hE_7_999_1 : ∀ j : Int, w_ei ws (v_ad (n_v vs 7)) j = w_ei w1 (v_ad (n_v vs 7)) j := el_kp s1.1 r0 cr_7_999 (by decide)
  have hK_7_999 := elq_27 hD hth cr_7_999
  have nf0 : fc_1 PRD (20, [10, 11], [61, 1, 566]) ws (vs) := by
    refine ⟨nf_in hl rfl, sgq_365 ?_⟩
    · show BLQ (w_ei ws (v_ad (n_v vs 10))) (v_iv (n_v vs 11))
      simp only [q10, q11]
      exact vc_Fa_relabel_at_Emblock_gp_3_0 (v_iv (n_v vs 1)) (v_iv (n_v vs 2)) (v_iv (n_v vs 3)) (v_iv (n_v vs 6)) (v_iv (n_v vs 8)) (v_iv (n_v vs 9)) (v_iv (n_v vs 11)) (v_iv (n_v vs 12)) (v_iv (n_v vs 13)) (v_iv (n_v vs 14)) (v_iv (n_v vs 15)) (v_iv (n_v vs 16)) (w_ei w1 (v_ad (n_v vs 0))) (w_ei w1 (v_ad (n_v vs 4))) (w_ei w1 (v_ad (n_v vs 5))) (w_ei w1 (v_ad (n_v vs 7))) (w_ei ws (v_ad (n_v vs 0))) (w_ei ws (v_ad (n_v vs 4))) (w_ei ws (v_ad (n_v vs 5))) (w_ei ws (v_ad (n_v vs 7))) k1 k2 k3 k6 k8 k9 k11 k12 k13 k14 k15 k16 d0 d1 d2 d3 d4 d5 d6 d7 d8 d9 d10 d11 d12 d13 f0 f1 f7 h8 f9 f10 f11 f12 f13 hE_0_999_1 hK_0_999 hE_4_999_1 hK_4_999 hE_5_999_1 hK_5_999 hE_7_999_1 hK_7_999
  have nf1 : fc_1 PRD (20, [10, 4, 5, 11, 12, 13, 6, 16], [61, 3, 582]) ws (vs) := by
    refine ⟨nf_in hl rfl, sgq_369 ?_⟩
    · show RLI (w_ei ws (v_ad (n_v vs 10))) (w_ei ws (v_ad (n_v vs 4))) (w_ei ws (v_ad (n_v vs 5))) (v_iv (n_v vs 11)) (v_iv (n_v vs 12)) (v_iv (n_v vs 13)) (v_iv (n_v vs 6)) (v_iv (n_v vs 16))
      simp only [q10, q11, q12, q13]
      exact vc_Fa_relabel_at_Emblock_gp_3_1 (v_iv (n_v vs 1)) (v_iv (n_v vs 2)) (v_iv (n_v vs 3)) (v_iv (n_v vs 6)) (v_iv (n_v vs 8)) (v_iv (n_v vs 9)) (v_iv (n_v vs 11)) (v_iv (n_v vs 12)) (v_iv (n_v vs 13)) (v_iv (n_v vs 14)) (v_iv (n_v vs 15)) (v_iv (n_v vs 16)) (w_ei w1 (v_ad (n_v vs 0))) (w_ei w1 (v_ad (n_v vs 4))) (w_ei w1 (v_ad (n_v vs 5))) (w_ei w1 (v_ad (n_v vs 7))) (w_ei ws (v_ad (n_v vs 0))) (w_ei ws (v_ad (n_v vs 4))) (w_ei ws (v_ad (n_v vs 5))) (w_ei ws (v_ad (n_v vs 7))) k1 k2 k3 k6 k8 k9 k11 k12 k13 k14 k15 k16 d0 d1 d2 d3 d4 d5 d6 d7 d8 d9 d10 d11 d12 d13 f0 f1 f7 h8 f9 f10 f11 f12 f13 hE_0_999_1 hK_0_999 hE_4_999_1 hK_4_999 hE_5_999_1 hK_5_999 hE_7_999_1 hK_7_999
  have nf2 : fc_1 PRD (20, [10, 4, 5, 7, 8, 11, 6, 9, 12, 13, 16], [61, 4, 591]) ws (vs) := by
    refine ⟨nf_in hl rfl, sgq_370 ?_⟩
    · show QKI (w_ei ws (v_ad (n_v vs 10))) (w_ei ws (v_ad (n_v vs 4))) (w_ei ws (v_ad (n_v vs 5))) (w_ei ws (v_ad (n_v vs 7))) (v_iv (n_v vs 8)) (v_iv (n_v vs 11)) (v_iv (n_v vs 6)) (v_iv (n_v vs 9)) (v_iv (n_v vs 12)) (v_iv (n_v vs 13)) (v_iv (n_v vs 16))
      simp only [q10, q11, q12, q13]
      exact vc_Fa_relabel_at_Emblock_gp_3_2 (v_iv (n_v vs 1)) (v_iv (n_v vs 2)) (v_iv (n_v vs 3)) (v_iv (n_v vs 6)) (v_iv (n_v vs 8)) (v_iv (n_v vs 9)) (v_iv (n_v vs 11)) (v_iv (n_v vs 12)) (v_iv (n_v vs 13)) (v_iv (n_v vs 14)) (v_iv (n_v vs 15)) (v_iv (n_v vs 16)) (w_ei w1 (v_ad (n_v vs 0))) (w_ei w1 (v_ad (n_v vs 4))) (w_ei w1 (v_ad (n_v vs 5))) (w_ei w1 (v_ad (n_v vs 7))) (w_ei ws (v_ad (n_v vs 0))) (w_ei ws (v_ad (n_v vs 4))) (w_ei ws (v_ad (n_v vs 5))) (w_ei ws (v_ad (n_v vs 7))) k1 k2 k3 k6 k8 k9 k11 k12 k13 k14 k15 k16 d0 d1 d2 d3 d4 d5 d6 d7 d8 d9 d10 d11 d12 d13 f0 f1 f7 h8 f9 f10 f11 f12 f13 hE_0_999_1 hK_0_999 hE_4_999_1 hK_4_999 hE_5_999_1 hK_5_999 hE_7_999_1 hK_7_999
  refine ⟨(fun _ h => (by cases h)), [], trivial, ?_, (fun _ h => (by cases h))⟩
  rw [List.append_nil]
  exact List.forall_mem_cons.mpr ⟨⟨show (20 : Nat) < 100 from by decide, nf0⟩, List.forall_mem_cons.mpr ⟨⟨show (20 : Nat) < 100 from by decide, nf1⟩, List.forall_mem_cons.mpr ⟨⟨show (20 : Nat) < 100 from by decide, nf2⟩, (fun _ h => (by cases h))⟩⟩⟩
def n_Fa_relabel_at_Emblock_gp_an : List an_T := [(3, [(0, (2, 0, 0, [26])), (1, (0, 1, 72, [])), (2, (0, 0, 71, [])), (3, (0, 0, 71, [])), (4, (0, 0, 72, []))], [], (0, 0), [(0, 0, 99997), (1, 14, 72), (0, 0, 100000)], [(1, 11, (Int.negSucc 999999999999), 0), (2, 12, (Int.negSucc 999999999999), 0), (3, 13, (Int.negSucc 999999999999), 0), (11, 1, (Int.negSucc 999999999999), 0), (12, 2, (Int.negSucc 999999999999), 0), (13, 3, (Int.negSucc 999999999999), 0), (14, 1, (Int.negSucc 999999999999), 0), (14, 11, (Int.negSucc 999999999999), 0)], [], [(2, 0, 0, [26]), (0, 1, 72, []), (0, 0, 71, []), (0, 0, 71, []), (2, 0, 0, [140]), (2, 0, 0, [141]), (0, 0, 24, []), (2, 0, 0, [142]), (0, 0, 25, []), (0, (Int.negSucc 2147483647), 2147483647, [])], 0, [], [(20, [10, 11], [61, 1, 566]), (20, [13, 12], [50, 0, 0, 2, 6, 0, 2, 0, 0, 1, 0, 0, 2, 1, 0, 1, 1]), (20, [10, 4, 5, 11, 12, 13, 6, 14], [61, 3, 582]), (20, [10, 4, 5, 7, 8, 11, 6, 9, 12, 13, 14], [61, 4, 591]), (24, [0, 10], []), (24, [1, 11], []), (24, [2, 12], []), (24, [3, 13], [])])]
def t_Fa_relabel_at_Emblock_gp_ct : ct_L := []
set_option maxRecDepth 100000 in
theorem c_Fa_relabel_at_Emblock_gp {l : Launch} {D : va_G} {kA : Nat → ClassId} : ct_ok PRD l D kA GG y_Fa_relabel_at_Emblock_gp z_Fa_relabel_at_Emblock_gp e_Fa_relabel_at_Emblock_gp := chk_all_ok (FT := []) (PT := []) (CT := t_Fa_relabel_at_Emblock_gp_ct) (KT := []) (NT := []) (AN := n_Fa_relabel_at_Emblock_gp_an) (OT := [o_Fa_relabel_at_Emblock_gp_0, o_Fa_relabel_at_Emblock_gp_1, o_Fa_relabel_at_Emblock_gp_2, o_Fa_relabel_at_Emblock_gp_3]) 3 200 (List.forall_mem_cons.mpr ⟨oo_Fa_relabel_at_Emblock_gp_0, List.forall_mem_cons.mpr ⟨oo_Fa_relabel_at_Emblock_gp_1, List.forall_mem_cons.mpr ⟨oo_Fa_relabel_at_Emblock_gp_2, List.forall_mem_cons.mpr ⟨oo_Fa_relabel_at_Emblock_gp_3, List.forall_mem_nil _⟩⟩⟩⟩) (by decide +kernel) ⟨List.forall_mem_nil _, List.forall_mem_nil _, List.forall_mem_nil _, List.forall_mem_nil _, List.forall_mem_nil _, GG_pl⟩ (by decide +kernel)
set_option maxHeartbeats 4000000 in
theorem vc_Fa_relabel_at_Fablock_gr_0_0 (x1 : Int) (x2 : Int) (x3 : Int) (x6 : Int) (x8 : Int) (x9 : Int) (x10 : Int) (a0_0 : Int → Int) (a4_0 : Int → Int) (a5_0 : Int → Int) (a7_0 : Int → Int) (k1 : 1 ≤ x1 ∧ x1 ≤ 48) (k2 : 0 ≤ x2 ∧ x2 ≤ 47) (k3 : 0 ≤ x3 ∧ x3 ≤ 47) (k6 : 0 ≤ x6 ∧ x6 ≤ 24) (k8 : 0 ≤ x8 ∧ x8 ≤ 25) (k9 : (-2147483648) ≤ x9 ∧ x9 ≤ 2147483647) (k10 : 0 ≤ x10 ∧ x10 ≤ 0) (f0 : BLQ (a0_0) (x1)) (f1 : (0 ≤ x3) ∧ (x3 ≤ x2)) (f2 : RLP (a0_0) (a4_0) (a5_0) (x1) (x2) (x3) (x6)) (f3 : QKP (a0_0) (a4_0) (a5_0) (a7_0) (x8) (x1) (x6) (x9) (x2) (x3)) (hK_0_999 : ∀ j : Int, 0 ≤ j → j < 48 → (-1) ≤ a0_0 j ∧ a0_0 j ≤ 47) (hK_4_999 : ∀ j : Int, 0 ≤ j → j < 48 → 0 ≤ a4_0 j ∧ a4_0 j ≤ 23) (hK_5_999 : ∀ j : Int, 0 ≤ j → j < 48 → 0 ≤ a5_0 j ∧ a5_0 j ≤ 23) (hK_7_999 : ∀ j : Int, 0 ≤ j → j < 24 → 0 ≤ a7_0 j ∧ a7_0 j ≤ 16777215) : RLI (a0_0) (a4_0) (a5_0) (x1) (x2) (x3) (x6) (x10) := by
  first
    | exact rli_start ‹RLP _ _ _ _ _ _ _› (by omega)
    | exact rli_skip ‹RLI _ _ _ _ _ _ _ _› (by assumption) (by omega) (by omega)
    | exact rli_step ‹RLI _ _ _ _ _ _ _ _› (by assumption) (by omega) (by assumption) (by omega) (by omega) (by omega)
  
set_option maxHeartbeats 4000000 in
theorem vc_Fa_relabel_at_Fablock_gr_0_1 (x1 : Int) (x2 : Int) (x3 : Int) (x6 : Int) (x8 : Int) (x9 : Int) (x10 : Int) (a0_0 : Int → Int) (a4_0 : Int → Int) (a5_0 : Int → Int) (a7_0 : Int → Int) (k1 : 1 ≤ x1 ∧ x1 ≤ 48) (k2 : 0 ≤ x2 ∧ x2 ≤ 47) (k3 : 0 ≤ x3 ∧ x3 ≤ 47) (k6 : 0 ≤ x6 ∧ x6 ≤ 24) (k8 : 0 ≤ x8 ∧ x8 ≤ 25) (k9 : (-2147483648) ≤ x9 ∧ x9 ≤ 2147483647) (k10 : 0 ≤ x10 ∧ x10 ≤ 0) (f0 : BLQ (a0_0) (x1)) (f1 : (0 ≤ x3) ∧ (x3 ≤ x2)) (f2 : RLP (a0_0) (a4_0) (a5_0) (x1) (x2) (x3) (x6)) (f3 : QKP (a0_0) (a4_0) (a5_0) (a7_0) (x8) (x1) (x6) (x9) (x2) (x3)) (hK_0_999 : ∀ j : Int, 0 ≤ j → j < 48 → (-1) ≤ a0_0 j ∧ a0_0 j ≤ 47) (hK_4_999 : ∀ j : Int, 0 ≤ j → j < 48 → 0 ≤ a4_0 j ∧ a4_0 j ≤ 23) (hK_5_999 : ∀ j : Int, 0 ≤ j → j < 48 → 0 ≤ a5_0 j ∧ a5_0 j ≤ 23) (hK_7_999 : ∀ j : Int, 0 ≤ j → j < 24 → 0 ≤ a7_0 j ∧ a7_0 j ≤ 16777215) : QKI (a0_0) (a4_0) (a5_0) (a7_0) (x8) (x1) (x6) (x9) (x2) (x3) (x10) := by
  first
    | exact qki_start ‹QKP _ _ _ _ _ _ _ _ _ _› (by omega)
    | exact qki_skip ‹QKI _ _ _ _ _ _ _ _ _ _ _› (by assumption) (by omega) (by omega)
    | exact qki_step ‹QKI _ _ _ _ _ _ _ _ _ _ _› (by assumption) (by omega) (by assumption) rfl (by omega) (by omega)
  
def o_Fa_relabel_at_Fablock_gr_0 : or_T := (3, 11, [(0, (2, 0, 0, [38])), (1, (0, 1, 48, [])), (2, (0, 0, 47, [])), (3, (0, 0, 47, [])), (4, (2, 0, 0, [52])), (5, (2, 0, 0, [53])), (6, (0, 0, 24, [])), (7, (2, 0, 0, [59])), (8, (0, 0, 25, [])), (9, (0, -2147483648, 2147483647, [])), (10, (0, 0, 0, []))], [(20, [0, 1], [61, 1, 566]), (20, [3, 2], [50, 0, 0, 2, 6, 0, 2, 0, 0, 1, 0, 0, 2, 1, 0, 1, 1]), (20, [0, 4, 5, 1, 2, 3, 6], [61, 3, 581]), (20, [0, 4, 5, 7, 8, 1, 6, 9, 2, 3], [61, 4, 590])], [], [], [(20, [0, 4, 5, 1, 2, 3, 6, 10], [61, 3, 582]), (20, [0, 4, 5, 7, 8, 1, 6, 9, 2, 3, 10], [61, 4, 591]), (24, [0, 0], []), (24, [1, 1], []), (24, [2, 2], []), (24, [3, 3], [])], [], [])
theorem oo_Fa_relabel_at_Fablock_gr_0 {kA : Nat → ClassId} : or_ok PRD kA GG o_Fa_relabel_at_Fablock_gr_0 := by
  refine or_mk fun A ta ws vs hD hth hl => ?_
  intro t0 r0 t1 k1 t2 k2 t3 k3 t4 r4 t5 r5 t6 k6 t7 r7 t8 k8 t9 k9 t10 k10 f0 f1 f2 f3
  have cr_0_999 : ta (v_ad (n_v vs 0)) = some 38 := r0
  have cr_4_999 : ta (v_ad (n_v vs 4)) = some 52 := r4
  have cr_5_999 : ta (v_ad (n_v vs 5)) = some 53 := r5
  have cr_7_999 : ta (v_ad (n_v vs 7)) = some 59 := r7
  have hK_0_999 := elq_28 hD hth cr_0_999
  have hK_4_999 := elq_11 hD hth cr_4_999
  have hK_5_999 := elq_12 hD hth cr_5_999
  have hK_7_999 := elq_25 hD hth cr_7_999
  have nf0 : fc_1 PRD (20, [0, 4, 5, 1, 2, 3, 6, 10], [61, 3, 582]) ws (vs) := ⟨nf_in hl rfl, sgq_369 (vc_Fa_relabel_at_Fablock_gr_0_0 (v_iv (n_v vs 1)) (v_iv (n_v vs 2)) (v_iv (n_v vs 3)) (v_iv (n_v vs 6)) (v_iv (n_v vs 8)) (v_iv (n_v vs 9)) (v_iv (n_v vs 10)) (w_ei ws (v_ad (n_v vs 0))) (w_ei ws (v_ad (n_v vs 4))) (w_ei ws (v_ad (n_v vs 5))) (w_ei ws (v_ad (n_v vs 7))) k1 k2 k3 k6 k8 k9 k10 (shm_365 f0) (shm_366 f1) (shm_367 f2) (shm_368 f3) hK_0_999 hK_4_999 hK_5_999 hK_7_999)⟩
  have nf1 : fc_1 PRD (20, [0, 4, 5, 7, 8, 1, 6, 9, 2, 3, 10], [61, 4, 591]) ws (vs) := ⟨nf_in hl rfl, sgq_370 (vc_Fa_relabel_at_Fablock_gr_0_1 (v_iv (n_v vs 1)) (v_iv (n_v vs 2)) (v_iv (n_v vs 3)) (v_iv (n_v vs 6)) (v_iv (n_v vs 8)) (v_iv (n_v vs 9)) (v_iv (n_v vs 10)) (w_ei ws (v_ad (n_v vs 0))) (w_ei ws (v_ad (n_v vs 4))) (w_ei ws (v_ad (n_v vs 5))) (w_ei ws (v_ad (n_v vs 7))) k1 k2 k3 k6 k8 k9 k10 (shm_365 f0) (shm_366 f1) (shm_367 f2) (shm_368 f3) hK_0_999 hK_4_999 hK_5_999 hK_7_999)⟩
  have nf2 : fc_1 PRD (24, [0, 0], []) ws (vs) := by
    refine ⟨nf_in hl rfl, sgq_1 ?_⟩
    · show n_v vs 0 = n_v vs 0
      first | rfl | simp only [true_and]
  have nf3 : fc_1 PRD (24, [1, 1], []) ws (vs) := by
    refine ⟨nf_in hl rfl, sgq_1 ?_⟩
    · show n_v vs 1 = n_v vs 1
      first | rfl | simp only [true_and]
  have nf4 : fc_1 PRD (24, [2, 2], []) ws (vs) := by
    refine ⟨nf_in hl rfl, sgq_1 ?_⟩
    · show n_v vs 2 = n_v vs 2
      first | rfl | simp only [true_and]
  have nf5 : fc_1 PRD (24, [3, 3], []) ws (vs) := by
    refine ⟨nf_in hl rfl, sgq_1 ?_⟩
    · show n_v vs 3 = n_v vs 3
      first | rfl | simp only [true_and]
  refine ⟨(fun _ h => (by cases h)), [], trivial, ?_, (fun _ h => (by cases h))⟩
  rw [List.append_nil]
  exact List.forall_mem_cons.mpr ⟨⟨show (20 : Nat) < 100 from by decide, nf0⟩, List.forall_mem_cons.mpr ⟨⟨show (20 : Nat) < 100 from by decide, nf1⟩, List.forall_mem_cons.mpr ⟨⟨show (24 : Nat) < 100 from by decide, nf2⟩, List.forall_mem_cons.mpr ⟨⟨show (24 : Nat) < 100 from by decide, nf3⟩, List.forall_mem_cons.mpr ⟨⟨show (24 : Nat) < 100 from by decide, nf4⟩, List.forall_mem_cons.mpr ⟨⟨show (24 : Nat) < 100 from by decide, nf5⟩, (fun _ h => (by cases h))⟩⟩⟩⟩⟩⟩
set_option maxHeartbeats 4000000 in
theorem vc_Fa_relabel_at_Fablock_gr_1_0 (x1 : Int) (x2 : Int) (x3 : Int) (x6 : Int) (x8 : Int) (x9 : Int) (x11 : Int) (x12 : Int) (x13 : Int) (x14 : Int) (a0_0 : Int → Int) (a4_0 : Int → Int) (a5_0 : Int → Int) (a7_0 : Int → Int) (k1 : 1 ≤ x1 ∧ x1 ≤ 48) (k2 : 0 ≤ x2 ∧ x2 ≤ 47) (k3 : 0 ≤ x3 ∧ x3 ≤ 47) (k6 : 0 ≤ x6 ∧ x6 ≤ 24) (k8 : 0 ≤ x8 ∧ x8 ≤ 25) (k9 : (-2147483648) ≤ x9 ∧ x9 ≤ 2147483647) (k11 : 1 ≤ x11 ∧ x11 ≤ 48) (k12 : 0 ≤ x12 ∧ x12 ≤ 47) (k13 : 0 ≤ x13 ∧ x13 ≤ 47) (k14 : 1 ≤ x14 ∧ x14 ≤ 48) (d0 : x11 + 0 ≤ x14 ∧ x14 ≤ x11 + 4294967296) (d1 : x11 + (-4294967296) ≤ x1 ∧ x1 ≤ x11 + 0) (d2 : x12 + (-4294967296) ≤ x2 ∧ x2 ≤ x12 + 0) (d3 : x13 + (-4294967296) ≤ x3 ∧ x3 ≤ x13 + 0) (d4 : x1 + (-4294967296) ≤ x11 ∧ x11 ≤ x1 + 0) (d5 : x2 + (-4294967296) ≤ x12 ∧ x12 ≤ x2 + 0) (d6 : x3 + (-4294967296) ≤ x13 ∧ x13 ≤ x3 + 0) (d7 : x1 + (-4294967296) ≤ x14 ∧ x14 ≤ x1 + 0) (d8 : x11 + (-4294967296) ≤ x14 ∧ x14 ≤ x11 + 0) (f0 : x1 ≤ x14) (f1 : BLQ (a0_0) (x1)) (f2 : (0 ≤ x3) ∧ (x3 ≤ x2)) (f3 : RLI (a0_0) (a4_0) (a5_0) (x1) (x2) (x3) (x6) (x14)) (f4 : QKI (a0_0) (a4_0) (a5_0) (a7_0) (x8) (x1) (x6) (x9) (x2) (x3) (x14)) (hK_0_999 : ∀ j : Int, 0 ≤ j → j < 48 → (-1) ≤ a0_0 j ∧ a0_0 j ≤ 47) (hK_4_999 : ∀ j : Int, 0 ≤ j → j < 48 → 0 ≤ a4_0 j ∧ a4_0 j ≤ 23) (hK_5_999 : ∀ j : Int, 0 ≤ j → j < 48 → 0 ≤ a5_0 j ∧ a5_0 j ≤ 23) (hK_7_999 : ∀ j : Int, 0 ≤ j → j < 24 → 0 ≤ a7_0 j ∧ a7_0 j ≤ 16777215) : BLQ (a0_0) (x1) := by
  first
    | assumption
    | (skip; exact blq_set ‹BLQ _ _› (by assumption) rfl rfl (by omega) (by omega) (by omega) (by omega) (by omega))
  
set_option maxHeartbeats 4000000 in
theorem vc_Fa_relabel_at_Fablock_gr_1_1 (x1 : Int) (x2 : Int) (x3 : Int) (x6 : Int) (x8 : Int) (x9 : Int) (x11 : Int) (x12 : Int) (x13 : Int) (x14 : Int) (a0_0 : Int → Int) (a4_0 : Int → Int) (a5_0 : Int → Int) (a7_0 : Int → Int) (k1 : 1 ≤ x1 ∧ x1 ≤ 48) (k2 : 0 ≤ x2 ∧ x2 ≤ 47) (k3 : 0 ≤ x3 ∧ x3 ≤ 47) (k6 : 0 ≤ x6 ∧ x6 ≤ 24) (k8 : 0 ≤ x8 ∧ x8 ≤ 25) (k9 : (-2147483648) ≤ x9 ∧ x9 ≤ 2147483647) (k11 : 1 ≤ x11 ∧ x11 ≤ 48) (k12 : 0 ≤ x12 ∧ x12 ≤ 47) (k13 : 0 ≤ x13 ∧ x13 ≤ 47) (k14 : 1 ≤ x14 ∧ x14 ≤ 48) (d0 : x11 + 0 ≤ x14 ∧ x14 ≤ x11 + 4294967296) (d1 : x11 + (-4294967296) ≤ x1 ∧ x1 ≤ x11 + 0) (d2 : x12 + (-4294967296) ≤ x2 ∧ x2 ≤ x12 + 0) (d3 : x13 + (-4294967296) ≤ x3 ∧ x3 ≤ x13 + 0) (d4 : x1 + (-4294967296) ≤ x11 ∧ x11 ≤ x1 + 0) (d5 : x2 + (-4294967296) ≤ x12 ∧ x12 ≤ x2 + 0) (d6 : x3 + (-4294967296) ≤ x13 ∧ x13 ≤ x3 + 0) (d7 : x1 + (-4294967296) ≤ x14 ∧ x14 ≤ x1 + 0) (d8 : x11 + (-4294967296) ≤ x14 ∧ x14 ≤ x11 + 0) (f0 : x1 ≤ x14) (f1 : BLQ (a0_0) (x1)) (f2 : (0 ≤ x3) ∧ (x3 ≤ x2)) (f3 : RLI (a0_0) (a4_0) (a5_0) (x1) (x2) (x3) (x6) (x14)) (f4 : QKI (a0_0) (a4_0) (a5_0) (a7_0) (x8) (x1) (x6) (x9) (x2) (x3) (x14)) (hK_0_999 : ∀ j : Int, 0 ≤ j → j < 48 → (-1) ≤ a0_0 j ∧ a0_0 j ≤ 47) (hK_4_999 : ∀ j : Int, 0 ≤ j → j < 48 → 0 ≤ a4_0 j ∧ a4_0 j ≤ 23) (hK_5_999 : ∀ j : Int, 0 ≤ j → j < 48 → 0 ≤ a5_0 j ∧ a5_0 j ≤ 23) (hK_7_999 : ∀ j : Int, 0 ≤ j → j < 24 → 0 ≤ a7_0 j ∧ a7_0 j ≤ 16777215) : RLO (a0_0) (a4_0) (a5_0) (x1) (x3) (x6) := by
  first
    | exact rlo_of ‹RLI _ _ _ _ _ _ _ _› (by omega)
  
set_option maxHeartbeats 4000000 in
theorem vc_Fa_relabel_at_Fablock_gr_1_2 (x1 : Int) (x2 : Int) (x3 : Int) (x6 : Int) (x8 : Int) (x9 : Int) (x11 : Int) (x12 : Int) (x13 : Int) (x14 : Int) (a0_0 : Int → Int) (a4_0 : Int → Int) (a5_0 : Int → Int) (a7_0 : Int → Int) (k1 : 1 ≤ x1 ∧ x1 ≤ 48) (k2 : 0 ≤ x2 ∧ x2 ≤ 47) (k3 : 0 ≤ x3 ∧ x3 ≤ 47) (k6 : 0 ≤ x6 ∧ x6 ≤ 24) (k8 : 0 ≤ x8 ∧ x8 ≤ 25) (k9 : (-2147483648) ≤ x9 ∧ x9 ≤ 2147483647) (k11 : 1 ≤ x11 ∧ x11 ≤ 48) (k12 : 0 ≤ x12 ∧ x12 ≤ 47) (k13 : 0 ≤ x13 ∧ x13 ≤ 47) (k14 : 1 ≤ x14 ∧ x14 ≤ 48) (d0 : x11 + 0 ≤ x14 ∧ x14 ≤ x11 + 4294967296) (d1 : x11 + (-4294967296) ≤ x1 ∧ x1 ≤ x11 + 0) (d2 : x12 + (-4294967296) ≤ x2 ∧ x2 ≤ x12 + 0) (d3 : x13 + (-4294967296) ≤ x3 ∧ x3 ≤ x13 + 0) (d4 : x1 + (-4294967296) ≤ x11 ∧ x11 ≤ x1 + 0) (d5 : x2 + (-4294967296) ≤ x12 ∧ x12 ≤ x2 + 0) (d6 : x3 + (-4294967296) ≤ x13 ∧ x13 ≤ x3 + 0) (d7 : x1 + (-4294967296) ≤ x14 ∧ x14 ≤ x1 + 0) (d8 : x11 + (-4294967296) ≤ x14 ∧ x14 ≤ x11 + 0) (f0 : x1 ≤ x14) (f1 : BLQ (a0_0) (x1)) (f2 : (0 ≤ x3) ∧ (x3 ≤ x2)) (f3 : RLI (a0_0) (a4_0) (a5_0) (x1) (x2) (x3) (x6) (x14)) (f4 : QKI (a0_0) (a4_0) (a5_0) (a7_0) (x8) (x1) (x6) (x9) (x2) (x3) (x14)) (hK_0_999 : ∀ j : Int, 0 ≤ j → j < 48 → (-1) ≤ a0_0 j ∧ a0_0 j ≤ 47) (hK_4_999 : ∀ j : Int, 0 ≤ j → j < 48 → 0 ≤ a4_0 j ∧ a4_0 j ≤ 23) (hK_5_999 : ∀ j : Int, 0 ≤ j → j < 48 → 0 ≤ a5_0 j ∧ a5_0 j ≤ 23) (hK_7_999 : ∀ j : Int, 0 ≤ j → j < 24 → 0 ≤ a7_0 j ∧ a7_0 j ≤ 16777215) : QKO (a0_0) (a4_0) (a5_0) (a7_0) (x8) (x1) (x6) (x9) (x3) := by
  first
    | exact qko_of ‹QKI _ _ _ _ _ _ _ _ _ _ _› (by omega)
  
def o_Fa_relabel_at_Fablock_gr_1 : or_T := (28, 15, [(0, (2, 0, 0, [38])), (1, (0, 1, 48, [])), (2, (0, 0, 47, [])), (3, (0, 0, 47, [])), (4, (2, 0, 0, [52])), (5, (2, 0, 0, [53])), (6, (0, 0, 24, [])), (7, (2, 0, 0, [59])), (8, (0, 0, 25, [])), (9, (0, -2147483648, 2147483647, [])), (11, (0, 1, 48, [])), (12, (0, 0, 47, [])), (13, (0, 0, 47, [])), (14, (0, 1, 48, []))], [(7, [14, 11], [3]), (20, [10, 11], [61, 1, 566]), (20, [13, 12], [50, 0, 0, 2, 6, 0, 2, 0, 0, 1, 0, 0, 2, 1, 0, 1, 1]), (20, [10, 4, 5, 11, 12, 13, 6, 14], [61, 3, 582]), (20, [10, 4, 5, 7, 8, 11, 6, 9, 12, 13, 14], [61, 4, 591]), (24, [0, 10], []), (24, [1, 11], []), (24, [2, 12], []), (24, [3, 13], [])], [], [], [(20, [0, 1], [61, 1, 566]), (20, [0, 4, 5, 1, 3, 6], [61, 3, 583]), (20, [0, 4, 5, 7, 8, 1, 6, 9, 3], [61, 4, 592])], [], [(14, 11, 0, 4294967296), (1, 11, -4294967296, 0), (2, 12, -4294967296, 0), (3, 13, -4294967296, 0), (11, 1, -4294967296, 0), (12, 2, -4294967296, 0), (13, 3, -4294967296, 0), (14, 1, -4294967296, 0), (14, 11, -4294967296, 0)])
theorem oo_Fa_relabel_at_Fablock_gr_1 {kA : Nat → ClassId} : or_ok PRD kA GG o_Fa_relabel_at_Fablock_gr_1 := by
  refine or_mk fun A ta ws vs hD hth hl => ?_
  intro t0 r0 t1 k1 t2 k2 t3 k3 t4 r4 t5 r5 t6 k6 t7 r7 t8 k8 t9 k9 t11 k11 t12 k12 t13 k13 t14 k14 d0 d1 d2 d3 d4 d5 d6 d7 d8 f0 f1 f2 f3 f4 f5 f6 f7 f8
  replace f0 := shm_2 f0
  replace f1 := shm_365 f1
  replace f2 := shm_366 f2
  replace f3 := shm_369 f3
  replace f4 := shm_370 f4
  replace f5 := shm_5 f5
  replace f6 := shm_5 f6
  replace f7 := shm_5 f7
  replace f8 := shm_5 f8
  have q10 : n_v vs 10 = n_v vs 0 := f5.symm
  have q11 : n_v vs 11 = n_v vs 1 := f6.symm
  have q12 : n_v vs 12 = n_v vs 2 := f7.symm
  have q13 : n_v vs 13 = n_v vs 3 := f8.symm
  simp only [q11, q10, q12, q13] at f0 f1 f2 f3 f4
  have cr_0_999 : ta (v_ad (n_v vs 0)) = some 38 := r0
  have cr_4_999 : ta (v_ad (n_v vs 4)) = some 52 := r4
  have cr_5_999 : ta (v_ad (n_v vs 5)) = some 53 := r5
  have cr_7_999 : ta (v_ad (n_v vs 7)) = some 59 := r7
  have hK_0_999 := elq_28 hD hth cr_0_999
  have hK_4_999 := elq_11 hD hth cr_4_999
  have hK_5_999 := elq_12 hD hth cr_5_999
  have hK_7_999 := elq_25 hD hth cr_7_999
  have nf0 : fc_1 PRD (20, [0, 1], [61, 1, 566]) ws (vs) := ⟨nf_in hl rfl, sgq_365 (vc_Fa_relabel_at_Fablock_gr_1_0 (v_iv (n_v vs 1)) (v_iv (n_v vs 2)) (v_iv (n_v vs 3)) (v_iv (n_v vs 6)) (v_iv (n_v vs 8)) (v_iv (n_v vs 9)) (v_iv (n_v vs 11)) (v_iv (n_v vs 12)) (v_iv (n_v vs 13)) (v_iv (n_v vs 14)) (w_ei ws (v_ad (n_v vs 0))) (w_ei ws (v_ad (n_v vs 4))) (w_ei ws (v_ad (n_v vs 5))) (w_ei ws (v_ad (n_v vs 7))) k1 k2 k3 k6 k8 k9 k11 k12 k13 k14 d0 d1 d2 d3 d4 d5 d6 d7 d8 f0 f1 f2 f3 f4 hK_0_999 hK_4_999 hK_5_999 hK_7_999)⟩
  have nf1 : fc_1 PRD (20, [0, 4, 5, 1, 3, 6], [61, 3, 583]) ws (vs) := ⟨nf_in hl rfl, sgq_371 (vc_Fa_relabel_at_Fablock_gr_1_1 (v_iv (n_v vs 1)) (v_iv (n_v vs 2)) (v_iv (n_v vs 3)) (v_iv (n_v vs 6)) (v_iv (n_v vs 8)) (v_iv (n_v vs 9)) (v_iv (n_v vs 11)) (v_iv (n_v vs 12)) (v_iv (n_v vs 13)) (v_iv (n_v vs 14)) (w_ei ws (v_ad (n_v vs 0))) (w_ei ws (v_ad (n_v vs 4))) (w_ei ws (v_ad (n_v vs 5))) (w_ei ws (v_ad (n_v vs 7))) k1 k2 k3 k6 k8 k9 k11 k12 k13 k14 d0 d1 d2 d3 d4 d5 d6 d7 d8 f0 f1 f2 f3 f4 hK_0_999 hK_4_999 hK_5_999 hK_7_999)⟩
  have nf2 : fc_1 PRD (20, [0, 4, 5, 7, 8, 1, 6, 9, 3], [61, 4, 592]) ws (vs) := ⟨nf_in hl rfl, sgq_372 (vc_Fa_relabel_at_Fablock_gr_1_2 (v_iv (n_v vs 1)) (v_iv (n_v vs 2)) (v_iv (n_v vs 3)) (v_iv (n_v vs 6)) (v_iv (n_v vs 8)) (v_iv (n_v vs 9)) (v_iv (n_v vs 11)) (v_iv (n_v vs 12)) (v_iv (n_v vs 13)) (v_iv (n_v vs 14)) (w_ei ws (v_ad (n_v vs 0))) (w_ei ws (v_ad (n_v vs 4))) (w_ei ws (v_ad (n_v vs 5))) (w_ei ws (v_ad (n_v vs 7))) k1 k2 k3 k6 k8 k9 k11 k12 k13 k14 d0 d1 d2 d3 d4 d5 d6 d7 d8 f0 f1 f2 f3 f4 hK_0_999 hK_4_999 hK_5_999 hK_7_999)⟩
  refine ⟨(fun _ h => (by cases h)), [], trivial, ?_, (fun _ h => (by cases h))⟩
  rw [List.append_nil]
  exact List.forall_mem_cons.mpr ⟨⟨show (20 : Nat) < 100 from by decide, nf0⟩, List.forall_mem_cons.mpr ⟨⟨show (20 : Nat) < 100 from by decide, nf1⟩, List.forall_mem_cons.mpr ⟨⟨show (20 : Nat) < 100 from by decide, nf2⟩, (fun _ h => (by cases h))⟩⟩⟩
set_option maxHeartbeats 4000000 in
theorem vc_Fa_relabel_at_Fablock_gr_2_0 (x1 : Int) (x2 : Int) (x3 : Int) (x6 : Int) (x8 : Int) (x9 : Int) (x11 : Int) (x12 : Int) (x13 : Int) (x14 : Int) (x15 : Int) (x16 : Int) (a0_0 : Int → Int) (a4_0 : Int → Int) (a5_0 : Int → Int) (a7_0 : Int → Int) (k1 : 1 ≤ x1 ∧ x1 ≤ 48) (k2 : 0 ≤ x2 ∧ x2 ≤ 47) (k3 : 0 ≤ x3 ∧ x3 ≤ 47) (k6 : 0 ≤ x6 ∧ x6 ≤ 24) (k8 : 0 ≤ x8 ∧ x8 ≤ 25) (k9 : (-2147483648) ≤ x9 ∧ x9 ≤ 2147483647) (k11 : 1 ≤ x11 ∧ x11 ≤ 48) (k12 : 0 ≤ x12 ∧ x12 ≤ 47) (k13 : 0 ≤ x13 ∧ x13 ≤ 47) (k14 : 0 ≤ x14 ∧ x14 ≤ 47) (k15 : (-1) ≤ x15 ∧ x15 ≤ 47) (k16 : 1 ≤ x16 ∧ x16 ≤ 48) (d0 : x14 + 1 ≤ x16 ∧ x16 ≤ x14 + 1) (d1 : x11 + (-4294967296) ≤ x16 ∧ x16 ≤ x11 + 0) (d2 : x1 + (-4294967296) ≤ x16 ∧ x16 ≤ x1 + 1) (d3 : x11 + (-4294967296) ≤ x16 ∧ x16 ≤ x11 + 1) (d4 : x11 + (-4294967296) ≤ x14 ∧ x14 ≤ x11 + (-1)) (d5 : x11 + (-4294967296) ≤ x1 ∧ x1 ≤ x11 + 0) (d6 : x12 + (-4294967296) ≤ x2 ∧ x2 ≤ x12 + 0) (d7 : x13 + (-4294967296) ≤ x3 ∧ x3 ≤ x13 + 0) (d8 : x1 + (-4294967296) ≤ x11 ∧ x11 ≤ x1 + 0) (d9 : x2 + (-4294967296) ≤ x12 ∧ x12 ≤ x2 + 0) (d10 : x3 + (-4294967296) ≤ x13 ∧ x13 ≤ x3 + 0) (d11 : x1 + (-4294967296) ≤ x14 ∧ x14 ≤ x1 + 0) (d12 : x11 + (-4294967296) ≤ x14 ∧ x14 ≤ x11 + 0) (f0 : x16 = x14 + 1) (f1 : x15 ≠ x2) (h2 : x15 = a0_0 (x14)) (f3 : x14 < x1) (f4 : BLQ (a0_0) (x1)) (f5 : (0 ≤ x3) ∧ (x3 ≤ x2)) (f6 : RLI (a0_0) (a4_0) (a5_0) (x1) (x2) (x3) (x6) (x14)) (f7 : QKI (a0_0) (a4_0) (a5_0) (a7_0) (x8) (x1) (x6) (x9) (x2) (x3) (x14)) (hK_0_999 : ∀ j : Int, 0 ≤ j → j < 48 → (-1) ≤ a0_0 j ∧ a0_0 j ≤ 47) (hK_4_999 : ∀ j : Int, 0 ≤ j → j < 48 → 0 ≤ a4_0 j ∧ a4_0 j ≤ 23) (hK_5_999 : ∀ j : Int, 0 ≤ j → j < 48 → 0 ≤ a5_0 j ∧ a5_0 j ≤ 23) (hK_7_999 : ∀ j : Int, 0 ≤ j → j < 24 → 0 ≤ a7_0 j ∧ a7_0 j ≤ 16777215) : RLI (a0_0) (a4_0) (a5_0) (x1) (x2) (x3) (x6) (x16) := by
  first
    | exact rli_start ‹RLP _ _ _ _ _ _ _› (by omega)
    | exact rli_skip ‹RLI _ _ _ _ _ _ _ _› (by assumption) (by omega) (by omega)
    | exact rli_step ‹RLI _ _ _ _ _ _ _ _› (by assumption) (by omega) (by assumption) (by omega) (by omega) (by omega)
  
set_option maxHeartbeats 4000000 in
theorem vc_Fa_relabel_at_Fablock_gr_2_1 (x1 : Int) (x2 : Int) (x3 : Int) (x6 : Int) (x8 : Int) (x9 : Int) (x11 : Int) (x12 : Int) (x13 : Int) (x14 : Int) (x15 : Int) (x16 : Int) (a0_0 : Int → Int) (a4_0 : Int → Int) (a5_0 : Int → Int) (a7_0 : Int → Int) (k1 : 1 ≤ x1 ∧ x1 ≤ 48) (k2 : 0 ≤ x2 ∧ x2 ≤ 47) (k3 : 0 ≤ x3 ∧ x3 ≤ 47) (k6 : 0 ≤ x6 ∧ x6 ≤ 24) (k8 : 0 ≤ x8 ∧ x8 ≤ 25) (k9 : (-2147483648) ≤ x9 ∧ x9 ≤ 2147483647) (k11 : 1 ≤ x11 ∧ x11 ≤ 48) (k12 : 0 ≤ x12 ∧ x12 ≤ 47) (k13 : 0 ≤ x13 ∧ x13 ≤ 47) (k14 : 0 ≤ x14 ∧ x14 ≤ 47) (k15 : (-1) ≤ x15 ∧ x15 ≤ 47) (k16 : 1 ≤ x16 ∧ x16 ≤ 48) (d0 : x14 + 1 ≤ x16 ∧ x16 ≤ x14 + 1) (d1 : x11 + (-4294967296) ≤ x16 ∧ x16 ≤ x11 + 0) (d2 : x1 + (-4294967296) ≤ x16 ∧ x16 ≤ x1 + 1) (d3 : x11 + (-4294967296) ≤ x16 ∧ x16 ≤ x11 + 1) (d4 : x11 + (-4294967296) ≤ x14 ∧ x14 ≤ x11 + (-1)) (d5 : x11 + (-4294967296) ≤ x1 ∧ x1 ≤ x11 + 0) (d6 : x12 + (-4294967296) ≤ x2 ∧ x2 ≤ x12 + 0) (d7 : x13 + (-4294967296) ≤ x3 ∧ x3 ≤ x13 + 0) (d8 : x1 + (-4294967296) ≤ x11 ∧ x11 ≤ x1 + 0) (d9 : x2 + (-4294967296) ≤ x12 ∧ x12 ≤ x2 + 0) (d10 : x3 + (-4294967296) ≤ x13 ∧ x13 ≤ x3 + 0) (d11 : x1 + (-4294967296) ≤ x14 ∧ x14 ≤ x1 + 0) (d12 : x11 + (-4294967296) ≤ x14 ∧ x14 ≤ x11 + 0) (f0 : x16 = x14 + 1) (f1 : x15 ≠ x2) (h2 : x15 = a0_0 (x14)) (f3 : x14 < x1) (f4 : BLQ (a0_0) (x1)) (f5 : (0 ≤ x3) ∧ (x3 ≤ x2)) (f6 : RLI (a0_0) (a4_0) (a5_0) (x1) (x2) (x3) (x6) (x14)) (f7 : QKI (a0_0) (a4_0) (a5_0) (a7_0) (x8) (x1) (x6) (x9) (x2) (x3) (x14)) (hK_0_999 : ∀ j : Int, 0 ≤ j → j < 48 → (-1) ≤ a0_0 j ∧ a0_0 j ≤ 47) (hK_4_999 : ∀ j : Int, 0 ≤ j → j < 48 → 0 ≤ a4_0 j ∧ a4_0 j ≤ 23) (hK_5_999 : ∀ j : Int, 0 ≤ j → j < 48 → 0 ≤ a5_0 j ∧ a5_0 j ≤ 23) (hK_7_999 : ∀ j : Int, 0 ≤ j → j < 24 → 0 ≤ a7_0 j ∧ a7_0 j ≤ 16777215) : QKI (a0_0) (a4_0) (a5_0) (a7_0) (x8) (x1) (x6) (x9) (x2) (x3) (x16) := by
  first
    | exact qki_start ‹QKP _ _ _ _ _ _ _ _ _ _› (by omega)
    | exact qki_skip ‹QKI _ _ _ _ _ _ _ _ _ _ _› (by assumption) (by omega) (by omega)
    | exact qki_step ‹QKI _ _ _ _ _ _ _ _ _ _ _› (by assumption) (by omega) (by assumption) rfl (by omega) (by omega)
  
def o_Fa_relabel_at_Fablock_gr_2 : or_T := (3, 17, [(0, (2, 0, 0, [38])), (1, (0, 1, 48, [])), (2, (0, 0, 47, [])), (3, (0, 0, 47, [])), (4, (2, 0, 0, [52])), (5, (2, 0, 0, [53])), (6, (0, 0, 24, [])), (7, (2, 0, 0, [59])), (8, (0, 0, 25, [])), (9, (0, -2147483648, 2147483647, [])), (10, (2, 0, 0, [38])), (11, (0, 1, 48, [])), (12, (0, 0, 47, [])), (13, (0, 0, 47, [])), (14, (0, 0, 47, [])), (15, (0, -1, 47, [])), (16, (0, 1, 48, []))], [(6, [16, 14], [1]), (7, [15, 12], [1]), (10, [15, 10, 14], []), (7, [14, 11], [2]), (20, [10, 11], [61, 1, 566]), (20, [13, 12], [50, 0, 0, 2, 6, 0, 2, 0, 0, 1, 0, 0, 2, 1, 0, 1, 1]), (20, [10, 4, 5, 11, 12, 13, 6, 14], [61, 3, 582]), (20, [10, 4, 5, 7, 8, 11, 6, 9, 12, 13, 14], [61, 4, 591]), (24, [0, 10], []), (24, [1, 11], []), (24, [2, 12], []), (24, [3, 13], [])], [], [], [(20, [10, 4, 5, 11, 12, 13, 6, 16], [61, 3, 582]), (20, [10, 4, 5, 7, 8, 11, 6, 9, 12, 13, 16], [61, 4, 591])], [], [(16, 14, 1, 1), (16, 11, -4294967296, 0), (16, 1, -4294967296, 1), (16, 11, -4294967296, 1), (14, 11, -4294967296, -1), (1, 11, -4294967296, 0), (2, 12, -4294967296, 0), (3, 13, -4294967296, 0), (11, 1, -4294967296, 0), (12, 2, -4294967296, 0), (13, 3, -4294967296, 0), (14, 1, -4294967296, 0), (14, 11, -4294967296, 0)])
theorem oo_Fa_relabel_at_Fablock_gr_2 {kA : Nat → ClassId} : or_ok PRD kA GG o_Fa_relabel_at_Fablock_gr_2 := by
  refine or_mk fun A ta ws vs hD hth hl => ?_
  intro t0 r0 t1 k1 t2 k2 t3 k3 t4 r4 t5 r5 t6 k6 t7 r7 t8 k8 t9 k9 t10 r10 t11 k11 t12 k12 t13 k13 t14 k14 t15 k15 t16 k16 d0 d1 d2 d3 d4 d5 d6 d7 d8 d9 d10 d11 d12 f0 f1 f2 f3 f4 f5 f6 f7 f8 f9 f10 f11
  replace f0 := shm_4 f0
  replace f1 := shm_40 f1
  replace f2 := shm_107 f2
  replace f3 := shm_6 f3
  replace f4 := shm_365 f4
  replace f5 := shm_366 f5
  replace f6 := shm_369 f6
  replace f7 := shm_370 f7
  replace f8 := shm_5 f8
  replace f9 := shm_5 f9
  replace f10 := shm_5 f10
  replace f11 := shm_5 f11
  have q10 : n_v vs 10 = n_v vs 0 := f8.symm
  have q11 : n_v vs 11 = n_v vs 1 := f9.symm
  have q12 : n_v vs 12 = n_v vs 2 := f10.symm
  have q13 : n_v vs 13 = n_v vs 3 := f11.symm
  simp only [q12, q10, q11, q13] at f1 f2 f3 f4 f5 f6 f7
  have cr_0_999 : ta (v_ad (n_v vs 0)) = some 38 := r0
  have cr_4_999 : ta (v_ad (n_v vs 4)) = some 52 := r4
  have cr_5_999 : ta (v_ad (n_v vs 5)) = some 53 := r5
  have cr_7_999 : ta (v_ad (n_v vs 7)) = some 59 := r7
  have h2 : v_iv (n_v vs 15) = w_ei ws (v_ad (n_v vs 0)) (v_iv (n_v vs 14)) := f2
  have hK_0_999 := elq_28 hD hth cr_0_999
  have hK_4_999 := elq_11 hD hth cr_4_999
  have hK_5_999 := elq_12 hD hth cr_5_999
  have hK_7_999 := elq_25 hD hth cr_7_999
  have nf0 : fc_1 PRD (20, [10, 4, 5, 11, 12, 13, 6, 16], [61, 3, 582]) ws (vs) := by
    refine ⟨nf_in hl rfl, sgq_369 ?_⟩
    · show RLI (w_ei ws (v_ad (n_v vs 10))) (w_ei ws (v_ad (n_v vs 4))) (w_ei ws (v_ad (n_v vs 5))) (v_iv (n_v vs 11)) (v_iv (n_v vs 12)) (v_iv (n_v vs 13)) (v_iv (n_v vs 6)) (v_iv (n_v vs 16))
      simp only [q10, q11, q12, q13]
      exact vc_Fa_relabel_at_Fablock_gr_2_0 (v_iv (n_v vs 1)) (v_iv (n_v vs 2)) (v_iv (n_v vs 3)) (v_iv (n_v vs 6)) (v_iv (n_v vs 8)) (v_iv (n_v vs 9)) (v_iv (n_v vs 11)) (v_iv (n_v vs 12)) (v_iv (n_v vs 13)) (v_iv (n_v vs 14)) (v_iv (n_v vs 15)) (v_iv (n_v vs 16)) (w_ei ws (v_ad (n_v vs 0))) (w_ei ws (v_ad (n_v vs 4))) (w_ei ws (v_ad (n_v vs 5))) (w_ei ws (v_ad (n_v vs 7))) k1 k2 k3 k6 k8 k9 k11 k12 k13 k14 k15 k16 d0 d1 d2 d3 d4 d5 d6 d7 d8 d9 d10 d11 d12 f0 f1 h2 f3 f4 f5 f6 f7 hK_0_999 hK_4_999 hK_5_999 hK_7_999
  have nf1 : fc_1 PRD (20, [10, 4, 5, 7, 8, 11, 6, 9, 12, 13, 16], [61, 4, 591]) ws (vs) := by
    refine ⟨nf_in hl rfl, sgq_370 ?_⟩
    · show QKI (w_ei ws (v_ad (n_v vs 10))) (w_ei ws (v_ad (n_v vs 4))) (w_ei ws (v_ad (n_v vs 5))) (w_ei ws (v_ad (n_v vs 7))) (v_iv (n_v vs 8)) (v_iv (n_v vs 11)) (v_iv (n_v vs 6)) (v_iv (n_v vs 9)) (v_iv (n_v vs 12)) (v_iv (n_v vs 13)) (v_iv (n_v vs 16))
      simp only [q10, q11, q12, q13]
      exact vc_Fa_relabel_at_Fablock_gr_2_1 (v_iv (n_v vs 1)) (v_iv (n_v vs 2)) (v_iv (n_v vs 3)) (v_iv (n_v vs 6)) (v_iv (n_v vs 8)) (v_iv (n_v vs 9)) (v_iv (n_v vs 11)) (v_iv (n_v vs 12)) (v_iv (n_v vs 13)) (v_iv (n_v vs 14)) (v_iv (n_v vs 15)) (v_iv (n_v vs 16)) (w_ei ws (v_ad (n_v vs 0))) (w_ei ws (v_ad (n_v vs 4))) (w_ei ws (v_ad (n_v vs 5))) (w_ei ws (v_ad (n_v vs 7))) k1 k2 k3 k6 k8 k9 k11 k12 k13 k14 k15 k16 d0 d1 d2 d3 d4 d5 d6 d7 d8 d9 d10 d11 d12 f0 f1 h2 f3 f4 f5 f6 f7 hK_0_999 hK_4_999 hK_5_999 hK_7_999
  refine ⟨(fun _ h => (by cases h)), [], trivial, ?_, (fun _ h => (by cases h))⟩
  rw [List.append_nil]
  exact List.forall_mem_cons.mpr ⟨⟨show (20 : Nat) < 100 from by decide, nf0⟩, List.forall_mem_cons.mpr ⟨⟨show (20 : Nat) < 100 from by decide, nf1⟩, (fun _ h => (by cases h))⟩⟩
set_option maxHeartbeats 4000000 in
theorem vc_Fa_relabel_at_Fablock_gr_3_0 (x1 : Int) (x2 : Int) (x3 : Int) (x6 : Int) (x8 : Int) (x9 : Int) (x11 : Int) (x12 : Int) (x13 : Int) (x14 : Int) (x15 : Int) (x16 : Int) (a0_1 : Int → Int) (a4_1 : Int → Int) (a5_1 : Int → Int) (a7_1 : Int → Int) (a0_0 : Int → Int) (a4_0 : Int → Int) (a5_0 : Int → Int) (a7_0 : Int → Int) (k1 : 1 ≤ x1 ∧ x1 ≤ 48) (k2 : 0 ≤ x2 ∧ x2 ≤ 47) (k3 : 0 ≤ x3 ∧ x3 ≤ 47) (k6 : 0 ≤ x6 ∧ x6 ≤ 24) (k8 : 0 ≤ x8 ∧ x8 ≤ 25) (k9 : (-2147483648) ≤ x9 ∧ x9 ≤ 2147483647) (k11 : 1 ≤ x11 ∧ x11 ≤ 48) (k12 : 0 ≤ x12 ∧ x12 ≤ 47) (k13 : 0 ≤ x13 ∧ x13 ≤ 47) (k14 : 0 ≤ x14 ∧ x14 ≤ 47) (k15 : 0 ≤ x15 ∧ x15 ≤ 47) (k16 : 1 ≤ x16 ∧ x16 ≤ 48) (d0 : x14 + 1 ≤ x16 ∧ x16 ≤ x14 + 1) (d1 : x11 + (-4294967296) ≤ x16 ∧ x16 ≤ x11 + 0) (d2 : x1 + (-4294967296) ≤ x16 ∧ x16 ≤ x1 + 1) (d3 : x11 + (-4294967296) ≤ x16 ∧ x16 ≤ x11 + 1) (d4 : x12 + 0 ≤ x15 ∧ x15 ≤ x12 + 0) (d5 : x11 + (-4294967296) ≤ x14 ∧ x14 ≤ x11 + (-1)) (d6 : x11 + (-4294967296) ≤ x1 ∧ x1 ≤ x11 + 0) (d7 : x12 + (-4294967296) ≤ x2 ∧ x2 ≤ x12 + 0) (d8 : x13 + (-4294967296) ≤ x3 ∧ x3 ≤ x13 + 0) (d9 : x1 + (-4294967296) ≤ x11 ∧ x11 ≤ x1 + 0) (d10 : x2 + (-4294967296) ≤ x12 ∧ x12 ≤ x2 + 0) (d11 : x3 + (-4294967296) ≤ x13 ∧ x13 ≤ x3 + 0) (d12 : x1 + (-4294967296) ≤ x14 ∧ x14 ≤ x1 + 0) (d13 : x11 + (-4294967296) ≤ x14 ∧ x14 ≤ x11 + 0) (f0 : x16 = x14 + 1) (f1 : (0 ≤ x3) ∧ (x3 ≤ x2)) (f7 : x15 = x2) (h8 : x15 = a0_1 (x14)) (f9 : x14 < x1) (f10 : BLQ (a0_1) (x1)) (f11 : (0 ≤ x3) ∧ (x3 ≤ x2)) (f12 : RLI (a0_1) (a4_1) (a5_1) (x1) (x2) (x3) (x6) (x14)) (f13 : QKI (a0_1) (a4_1) (a5_1) (a7_1) (x8) (x1) (x6) (x9) (x2) (x3) (x14)) (hE_0_999_1 : ∀ j : Int, 0 ≤ j → (j = x14 → a0_0 j = x3) ∧ (j ≠ x14 → a0_0 j = a0_1 j)) (hK_0_999 : ∀ j : Int, 0 ≤ j → j < 48 → (-1) ≤ a0_0 j ∧ a0_0 j ≤ 47) (hE_4_999_1 : ∀ j : Int, a4_0 j = a4_1 j) (hK_4_999 : ∀ j : Int, 0 ≤ j → j < 48 → 0 ≤ a4_0 j ∧ a4_0 j ≤ 23) (hE_5_999_1 : ∀ j : Int, a5_0 j = a5_1 j) (hK_5_999 : ∀ j : Int, 0 ≤ j → j < 48 → 0 ≤ a5_0 j ∧ a5_0 j ≤ 23) (hE_7_999_1 : ∀ j : Int, a7_0 j = a7_1 j) (hK_7_999 : ∀ j : Int, 0 ≤ j → j < 24 → 0 ≤ a7_0 j ∧ a7_0 j ≤ 16777215) : BLQ (a0_0) (x1) := by
  have e_hE_4_999_1 := funext hE_4_999_1; subst e_hE_4_999_1
  have e_hE_5_999_1 := funext hE_5_999_1; subst e_hE_5_999_1
  have e_hE_7_999_1 := funext hE_7_999_1; subst e_hE_7_999_1
  first
    | assumption
    | (skip; (first | subst h8 | skip); exact blq_set ‹BLQ _ _› (by assumption) rfl rfl (by omega) (by omega) (by omega) (by omega) (by omega))
  
set_option maxHeartbeats 4000000 in
theorem vc_Fa_relabel_at_Fablock_gr_3_1 (x1 : Int) (x2 : Int) (x3 : Int) (x6 : Int) (x8 : Int) (x9 : Int) (x11 : Int) (x12 : Int) (x13 : Int) (x14 : Int) (x15 : Int) (x16 : Int) (a0_1 : Int → Int) (a4_1 : Int → Int) (a5_1 : Int → Int) (a7_1 : Int → Int) (a0_0 : Int → Int) (a4_0 : Int → Int) (a5_0 : Int → Int) (a7_0 : Int → Int) (k1 : 1 ≤ x1 ∧ x1 ≤ 48) (k2 : 0 ≤ x2 ∧ x2 ≤ 47) (k3 : 0 ≤ x3 ∧ x3 ≤ 47) (k6 : 0 ≤ x6 ∧ x6 ≤ 24) (k8 : 0 ≤ x8 ∧ x8 ≤ 25) (k9 : (-2147483648) ≤ x9 ∧ x9 ≤ 2147483647) (k11 : 1 ≤ x11 ∧ x11 ≤ 48) (k12 : 0 ≤ x12 ∧ x12 ≤ 47) (k13 : 0 ≤ x13 ∧ x13 ≤ 47) (k14 : 0 ≤ x14 ∧ x14 ≤ 47) (k15 : 0 ≤ x15 ∧ x15 ≤ 47) (k16 : 1 ≤ x16 ∧ x16 ≤ 48) (d0 : x14 + 1 ≤ x16 ∧ x16 ≤ x14 + 1) (d1 : x11 + (-4294967296) ≤ x16 ∧ x16 ≤ x11 + 0) (d2 : x1 + (-4294967296) ≤ x16 ∧ x16 ≤ x1 + 1) (d3 : x11 + (-4294967296) ≤ x16 ∧ x16 ≤ x11 + 1) (d4 : x12 + 0 ≤ x15 ∧ x15 ≤ x12 + 0) (d5 : x11 + (-4294967296) ≤ x14 ∧ x14 ≤ x11 + (-1)) (d6 : x11 + (-4294967296) ≤ x1 ∧ x1 ≤ x11 + 0) (d7 : x12 + (-4294967296) ≤ x2 ∧ x2 ≤ x12 + 0) (d8 : x13 + (-4294967296) ≤ x3 ∧ x3 ≤ x13 + 0) (d9 : x1 + (-4294967296) ≤ x11 ∧ x11 ≤ x1 + 0) (d10 : x2 + (-4294967296) ≤ x12 ∧ x12 ≤ x2 + 0) (d11 : x3 + (-4294967296) ≤ x13 ∧ x13 ≤ x3 + 0) (d12 : x1 + (-4294967296) ≤ x14 ∧ x14 ≤ x1 + 0) (d13 : x11 + (-4294967296) ≤ x14 ∧ x14 ≤ x11 + 0) (f0 : x16 = x14 + 1) (f1 : (0 ≤ x3) ∧ (x3 ≤ x2)) (f7 : x15 = x2) (h8 : x15 = a0_1 (x14)) (f9 : x14 < x1) (f10 : BLQ (a0_1) (x1)) (f11 : (0 ≤ x3) ∧ (x3 ≤ x2)) (f12 : RLI (a0_1) (a4_1) (a5_1) (x1) (x2) (x3) (x6) (x14)) (f13 : QKI (a0_1) (a4_1) (a5_1) (a7_1) (x8) (x1) (x6) (x9) (x2) (x3) (x14)) (hE_0_999_1 : ∀ j : Int, 0 ≤ j → (j = x14 → a0_0 j = x3) ∧ (j ≠ x14 → a0_0 j = a0_1 j)) (hK_0_999 : ∀ j : Int, 0 ≤ j → j < 48 → (-1) ≤ a0_0 j ∧ a0_0 j ≤ 47) (hE_4_999_1 : ∀ j : Int, a4_0 j = a4_1 j) (hK_4_999 : ∀ j : Int, 0 ≤ j → j < 48 → 0 ≤ a4_0 j ∧ a4_0 j ≤ 23) (hE_5_999_1 : ∀ j : Int, a5_0 j = a5_1 j) (hK_5_999 : ∀ j : Int, 0 ≤ j → j < 48 → 0 ≤ a5_0 j ∧ a5_0 j ≤ 23) (hE_7_999_1 : ∀ j : Int, a7_0 j = a7_1 j) (hK_7_999 : ∀ j : Int, 0 ≤ j → j < 24 → 0 ≤ a7_0 j ∧ a7_0 j ≤ 16777215) : RLI (a0_0) (a4_0) (a5_0) (x1) (x2) (x3) (x6) (x16) := by
  have e_hE_4_999_1 := funext hE_4_999_1; subst e_hE_4_999_1
  have e_hE_5_999_1 := funext hE_5_999_1; subst e_hE_5_999_1
  have e_hE_7_999_1 := funext hE_7_999_1; subst e_hE_7_999_1
  first
    | exact rli_start ‹RLP _ _ _ _ _ _ _› (by omega)
    | exact rli_skip ‹RLI _ _ _ _ _ _ _ _› (by assumption) (by omega) (by omega)
    | exact rli_step ‹RLI _ _ _ _ _ _ _ _› (by assumption) (by omega) (by assumption) (by omega) (by omega) (by omega)
  
set_option maxHeartbeats 4000000 in
theorem vc_Fa_relabel_at_Fablock_gr_3_2 (x1 : Int) (x2 : Int) (x3 : Int) (x6 : Int) (x8 : Int) (x9 : Int) (x11 : Int) (x12 : Int) (x13 : Int) (x14 : Int) (x15 : Int) (x16 : Int) (a0_1 : Int → Int) (a4_1 : Int → Int) (a5_1 : Int → Int) (a7_1 : Int → Int) (a0_0 : Int → Int) (a4_0 : Int → Int) (a5_0 : Int → Int) (a7_0 : Int → Int) (k1 : 1 ≤ x1 ∧ x1 ≤ 48) (k2 : 0 ≤ x2 ∧ x2 ≤ 47) (k3 : 0 ≤ x3 ∧ x3 ≤ 47) (k6 : 0 ≤ x6 ∧ x6 ≤ 24) (k8 : 0 ≤ x8 ∧ x8 ≤ 25) (k9 : (-2147483648) ≤ x9 ∧ x9 ≤ 2147483647) (k11 : 1 ≤ x11 ∧ x11 ≤ 48) (k12 : 0 ≤ x12 ∧ x12 ≤ 47) (k13 : 0 ≤ x13 ∧ x13 ≤ 47) (k14 : 0 ≤ x14 ∧ x14 ≤ 47) (k15 : 0 ≤ x15 ∧ x15 ≤ 47) (k16 : 1 ≤ x16 ∧ x16 ≤ 48) (d0 : x14 + 1 ≤ x16 ∧ x16 ≤ x14 + 1) (d1 : x11 + (-4294967296) ≤ x16 ∧ x16 ≤ x11 + 0) (d2 : x1 + (-4294967296) ≤ x16 ∧ x16 ≤ x1 + 1) (d3 : x11 + (-4294967296) ≤ x16 ∧ x16 ≤ x11 + 1) (d4 : x12 + 0 ≤ x15 ∧ x15 ≤ x12 + 0) (d5 : x11 + (-4294967296) ≤ x14 ∧ x14 ≤ x11 + (-1)) (d6 : x11 + (-4294967296) ≤ x1 ∧ x1 ≤ x11 + 0) (d7 : x12 + (-4294967296) ≤ x2 ∧ x2 ≤ x12 + 0) (d8 : x13 + (-4294967296) ≤ x3 ∧ x3 ≤ x13 + 0) (d9 : x1 + (-4294967296) ≤ x11 ∧ x11 ≤ x1 + 0) (d10 : x2 + (-4294967296) ≤ x12 ∧ x12 ≤ x2 + 0) (d11 : x3 + (-4294967296) ≤ x13 ∧ x13 ≤ x3 + 0) (d12 : x1 + (-4294967296) ≤ x14 ∧ x14 ≤ x1 + 0) (d13 : x11 + (-4294967296) ≤ x14 ∧ x14 ≤ x11 + 0) (f0 : x16 = x14 + 1) (f1 : (0 ≤ x3) ∧ (x3 ≤ x2)) (f7 : x15 = x2) (h8 : x15 = a0_1 (x14)) (f9 : x14 < x1) (f10 : BLQ (a0_1) (x1)) (f11 : (0 ≤ x3) ∧ (x3 ≤ x2)) (f12 : RLI (a0_1) (a4_1) (a5_1) (x1) (x2) (x3) (x6) (x14)) (f13 : QKI (a0_1) (a4_1) (a5_1) (a7_1) (x8) (x1) (x6) (x9) (x2) (x3) (x14)) (hE_0_999_1 : ∀ j : Int, 0 ≤ j → (j = x14 → a0_0 j = x3) ∧ (j ≠ x14 → a0_0 j = a0_1 j)) (hK_0_999 : ∀ j : Int, 0 ≤ j → j < 48 → (-1) ≤ a0_0 j ∧ a0_0 j ≤ 47) (hE_4_999_1 : ∀ j : Int, a4_0 j = a4_1 j) (hK_4_999 : ∀ j : Int, 0 ≤ j → j < 48 → 0 ≤ a4_0 j ∧ a4_0 j ≤ 23) (hE_5_999_1 : ∀ j : Int, a5_0 j = a5_1 j) (hK_5_999 : ∀ j : Int, 0 ≤ j → j < 48 → 0 ≤ a5_0 j ∧ a5_0 j ≤ 23) (hE_7_999_1 : ∀ j : Int, a7_0 j = a7_1 j) (hK_7_999 : ∀ j : Int, 0 ≤ j → j < 24 → 0 ≤ a7_0 j ∧ a7_0 j ≤ 16777215) : QKI (a0_0) (a4_0) (a5_0) (a7_0) (x8) (x1) (x6) (x9) (x2) (x3) (x16) := by
  have e_hE_4_999_1 := funext hE_4_999_1; subst e_hE_4_999_1
  have e_hE_5_999_1 := funext hE_5_999_1; subst e_hE_5_999_1
  have e_hE_7_999_1 := funext hE_7_999_1; subst e_hE_7_999_1
  first
    | exact qki_start ‹QKP _ _ _ _ _ _ _ _ _ _› (by omega)
    | exact qki_skip ‹QKI _ _ _ _ _ _ _ _ _ _ _› (by assumption) (by omega) (by omega)
    | exact qki_step ‹QKI _ _ _ _ _ _ _ _ _ _ _› (by assumption) (by omega) (by assumption) rfl (by omega) (by omega)
  
def o_Fa_relabel_at_Fablock_gr_3 : or_T := (3, 17, [(0, (2, 0, 0, [38])), (1, (0, 1, 48, [])), (2, (0, 0, 47, [])), (3, (0, 0, 47, [])), (4, (2, 0, 0, [52])), (5, (2, 0, 0, [53])), (6, (0, 0, 24, [])), (7, (2, 0, 0, [59])), (8, (0, 0, 25, [])), (9, (0, -2147483648, 2147483647, [])), (10, (2, 0, 0, [38])), (11, (0, 1, 48, [])), (12, (0, 0, 47, [])), (13, (0, 0, 47, [])), (14, (0, 0, 47, [])), (15, (0, 0, 47, [])), (16, (0, 1, 48, []))], [(6, [16, 14], [1]), (20, [13, 12], [50, 0, 0, 2, 6, 0, 2, 0, 0, 1, 0, 0, 2, 1, 0, 1, 1]), (24, [0, 10], []), (24, [1, 11], []), (24, [2, 12], []), (24, [3, 13], []), (100, [10, 14, 13], []), (7, [15, 12], [0]), (10, [15, 10, 14], []), (7, [14, 11], [2]), (20, [10, 11], [61, 1, 566]), (20, [13, 12], [50, 0, 0, 2, 6, 0, 2, 0, 0, 1, 0, 0, 2, 1, 0, 1, 1]), (20, [10, 4, 5, 11, 12, 13, 6, 14], [61, 3, 582]), (20, [10, 4, 5, 7, 8, 11, 6, 9, 12, 13, 14], [61, 4, 591])], [], [], [(20, [10, 11], [61, 1, 566]), (20, [10, 4, 5, 11, 12, 13, 6, 16], [61, 3, 582]), (20, [10, 4, 5, 7, 8, 11, 6, 9, 12, 13, 16], [61, 4, 591])], [], [(16, 14, 1, 1), (16, 11, -4294967296, 0), (16, 1, -4294967296, 1), (16, 11, -4294967296, 1), (15, 12, 0, 0), (14, 11, -4294967296, -1), (1, 11, -4294967296, 0), (2, 12, -4294967296, 0), (3, 13, -4294967296, 0), (11, 1, -4294967296, 0), (12, 2, -4294967296, 0), (13, 3, -4294967296, 0), (14, 1, -4294967296, 0), (14, 11, -4294967296, 0)])
theorem oo_Fa_relabel_at_Fablock_gr_3 {kA : Nat → ClassId} : or_ok PRD kA GG o_Fa_relabel_at_Fablock_gr_3 := by
  refine or_mk fun A ta ws vs hD hth hl => ?_
  intro t0 r0 t1 k1 t2 k2 t3 k3 t4 r4 t5 r5 t6 k6 t7 r7 t8 k8 t9 k9 t10 r10 t11 k11 t12 k12 t13 k13 t14 k14 t15 k15 t16 k16 d0 d1 d2 d3 d4 d5 d6 d7 d8 d9 d10 d11 d12 d13 f0 f1 f2 f3 f4 f5 ta1 w1 le1 s1 f7 f8 f9 f10 f11 f12 f13
  replace f0 := shm_4 f0
  replace f1 := shm_366 f1
  replace f2 := shm_5 f2
  replace f3 := shm_5 f3
  replace f4 := shm_5 f4
  replace f5 := shm_5 f5
  have s1 : (∀ b j, w_el ws b j = if b = v_ad (n_v vs 10) ∧ j = (v_iv (n_v vs 14)).toNat then v_iv (n_v vs 13) else w_el w1 b j) ∧ ∀ b k, w_fd ws b k = w_fd w1 b k := s1.2
  replace f7 := shm_37 f7
  replace f8 := shm_107 f8
  replace f9 := shm_6 f9
  replace f10 := shm_365 f10
  replace f11 := shm_366 f11
  replace f12 := shm_369 f12
  replace f13 := shm_370 f13
  have q10 : n_v vs 10 = n_v vs 0 := f2.symm
  have q11 : n_v vs 11 = n_v vs 1 := f3.symm
  have q12 : n_v vs 12 = n_v vs 2 := f4.symm
  have q13 : n_v vs 13 = n_v vs 3 := f5.symm
  simp only [q12, q13] at f1
  rw [q10] at s1
  rw [q13] at s1
  simp only [q12, q10, q11, q13] at f7 f8 f9 f10 f11 f12 f13
  have cr_0_999 : ta (v_ad (n_v vs 0)) = some 38 := r0
  have cr_4_999 : ta (v_ad (n_v vs 4)) = some 52 := r4
  have cr_5_999 : ta (v_ad (n_v vs 5)) = some 53 := r5
  have cr_7_999 : ta (v_ad (n_v vs 7)) = some 59 := r7
  have ad_0 : v_ad (n_v vs 0) = v_ad (n_v vs 0) := rfl
  have h8 : v_iv (n_v vs 15) = w_ei w1 (v_ad (n_v vs 0)) (v_iv (n_v vs 14)) := f8
  have hE_0_999_1 : ∀ j : Int, 0 ≤ j → (j = v_iv (n_v vs 14) → w_ei ws (v_ad (n_v vs 0)) j = v_iv (n_v vs 3)) ∧ (j ≠ v_iv (n_v vs 14) → w_ei ws (v_ad (n_v vs 0)) j = w_ei w1 (v_ad (n_v vs 0)) j) := fun j hj => ⟨fun h => by unfold w_ei; rw [s1.1, if_pos ⟨ad_0.symm, by rw [h]⟩], fun h => by unfold w_ei; rw [s1.1, if_neg (fun e => h (by have := e.2; omega))]⟩
  have hK_0_999 := elq_28 hD hth cr_0_999
  have hE_4_999_1 : ∀ j : Int, w_ei ws (v_ad (n_v vs 4)) j = w_ei w1 (v_ad (n_v vs 4)) j := el_kp s1.1 r0 cr_4_999 (by decide)
  have hK_4_999 := elq_11 hD hth cr_4_999
  have hE_5_999_1 : ∀ j : Int, w_ei ws (v_ad (n_v vs 5)) j = w_ei w1 (v_ad (n_v vs 5)) j := el_kp s1.1 r0 cr_5_999 (by decide)
  have hK_5_999 := elq_12 hD hth cr_5_999
  have hE_7_999_1 : ∀ j : Int, w_ei ws (v_ad (n_v vs 7)) j = w_ei w1 (v_ad (n_v vs 7)) j := el_kp s1.1 r0 cr_7_999 (by decide)
  have hK_7_999 := elq_25 hD hth cr_7_999
  have nf0 : fc_1 PRD (20, [10, 11], [61, 1, 566]) ws (vs) := by
    refine ⟨nf_in hl rfl, sgq_365 ?_⟩
    · show BLQ (w_ei ws (v_ad (n_v vs 10))) (v_iv (n_v vs 11))
      simp only [q10, q11]
      exact vc_Fa_relabel_at_Fablock_gr_3_0 (v_iv (n_v vs 1)) (v_iv (n_v vs 2)) (v_iv (n_v vs 3)) (v_iv (n_v vs 6)) (v_iv (n_v vs 8)) (v_iv (n_v vs 9)) (v_iv (n_v vs 11)) (v_iv (n_v vs 12)) (v_iv (n_v vs 13)) (v_iv (n_v vs 14)) (v_iv (n_v vs 15)) (v_iv (n_v vs 16)) (w_ei w1 (v_ad (n_v vs 0))) (w_ei w1 (v_ad (n_v vs 4))) (w_ei w1 (v_ad (n_v vs 5))) (w_ei w1 (v_ad (n_v vs 7))) (w_ei ws (v_ad (n_v vs 0))) (w_ei ws (v_ad (n_v vs 4))) (w_ei ws (v_ad (n_v vs 5))) (w_ei ws (v_ad (n_v vs 7))) k1 k2 k3 k6 k8 k9 k11 k12 k13 k14 k15 k16 d0 d1 d2 d3 d4 d5 d6 d7 d8 d9 d10 d11 d12 d13 f0 f1 f7 h8 f9 f10 f11 f12 f13 hE_0_999_1 hK_0_999 hE_4_999_1 hK_4_999 hE_5_999_1 hK_5_999 hE_7_999_1 hK_7_999
  have nf1 : fc_1 PRD (20, [10, 4, 5, 11, 12, 13, 6, 16], [61, 3, 582]) ws (vs) := by
    refine ⟨nf_in hl rfl, sgq_369 ?_⟩
    · show RLI (w_ei ws (v_ad (n_v vs 10))) (w_ei ws (v_ad (n_v vs 4))) (w_ei ws (v_ad (n_v vs 5))) (v_iv (n_v vs 11)) (v_iv (n_v vs 12)) (v_iv (n_v vs 13)) (v_iv (n_v vs 6)) (v_iv (n_v vs 16))
      simp only [q10, q11, q12, q13]
      exact vc_Fa_relabel_at_Fablock_gr_3_1 (v_iv (n_v vs 1)) (v_iv (n_v vs 2)) (v_iv (n_v vs 3)) (v_iv (n_v vs 6)) (v_iv (n_v vs 8)) (v_iv (n_v vs 9)) (v_iv (n_v vs 11)) (v_iv (n_v vs 12)) (v_iv (n_v vs 13)) (v_iv (n_v vs 14)) (v_iv (n_v vs 15)) (v_iv (n_v vs 16)) (w_ei w1 (v_ad (n_v vs 0))) (w_ei w1 (v_ad (n_v vs 4))) (w_ei w1 (v_ad (n_v vs 5))) (w_ei w1 (v_ad (n_v vs 7))) (w_ei ws (v_ad (n_v vs 0))) (w_ei ws (v_ad (n_v vs 4))) (w_ei ws (v_ad (n_v vs 5))) (w_ei ws (v_ad (n_v vs 7))) k1 k2 k3 k6 k8 k9 k11 k12 k13 k14 k15 k16 d0 d1 d2 d3 d4 d5 d6 d7 d8 d9 d10 d11 d12 d13 f0 f1 f7 h8 f9 f10 f11 f12 f13 hE_0_999_1 hK_0_999 hE_4_999_1 hK_4_999 hE_5_999_1 hK_5_999 hE_7_999_1 hK_7_999
  have nf2 : fc_1 PRD (20, [10, 4, 5, 7, 8, 11, 6, 9, 12, 13, 16], [61, 4, 591]) ws (vs) := by
    refine ⟨nf_in hl rfl, sgq_370 ?_⟩
    · show QKI (w_ei ws (v_ad (n_v vs 10))) (w_ei ws (v_ad (n_v vs 4))) (w_ei ws (v_ad (n_v vs 5))) (w_ei ws (v_ad (n_v vs 7))) (v_iv (n_v vs 8)) (v_iv (n_v vs 11)) (v_iv (n_v vs 6)) (v_iv (n_v vs 9)) (v_iv (n_v vs 12)) (v_iv (n_v vs 13)) (v_iv (n_v vs 16))
      simp only [q10, q11, q12, q13]
      exact vc_Fa_relabel_at_Fablock_gr_3_2 (v_iv (n_v vs 1)) (v_iv (n_v vs 2)) (v_iv (n_v vs 3)) (v_iv (n_v vs 6)) (v_iv (n_v vs 8)) (v_iv (n_v vs 9)) (v_iv (n_v vs 11)) (v_iv (n_v vs 12)) (v_iv (n_v vs 13)) (v_iv (n_v vs 14)) (v_iv (n_v vs 15)) (v_iv (n_v vs 16)) (w_ei w1 (v_ad (n_v vs 0))) (w_ei w1 (v_ad (n_v vs 4))) (w_ei w1 (v_ad (n_v vs 5))) (w_ei w1 (v_ad (n_v vs 7))) (w_ei ws (v_ad (n_v vs 0))) (w_ei ws (v_ad (n_v vs 4))) (w_ei ws (v_ad (n_v vs 5))) (w_ei ws (v_ad (n_v vs 7))) k1 k2 k3 k6 k8 k9 k11 k12 k13 k14 k15 k16 d0 d1 d2 d3 d4 d5 d6 d7 d8 d9 d10 d11 d12 d13 f0 f1 f7 h8 f9 f10 f11 f12 f13 hE_0_999_1 hK_0_999 hE_4_999_1 hK_4_999 hE_5_999_1 hK_5_999 hE_7_999_1 hK_7_999
  refine ⟨(fun _ h => (by cases h)), [], trivial, ?_, (fun _ h => (by cases h))⟩
  rw [List.append_nil]
  exact List.forall_mem_cons.mpr ⟨⟨show (20 : Nat) < 100 from by decide, nf0⟩, List.forall_mem_cons.mpr ⟨⟨show (20 : Nat) < 100 from by decide, nf1⟩, List.forall_mem_cons.mpr ⟨⟨show (20 : Nat) < 100 from by decide, nf2⟩, (fun _ h => (by cases h))⟩⟩⟩
def n_Fa_relabel_at_Fablock_gr_an : List an_T := [(3, [(0, (2, 0, 0, [38])), (1, (0, 1, 48, [])), (2, (0, 0, 47, [])), (3, (0, 0, 47, [])), (4, (0, 0, 48, []))], [], (0, 0), [(0, 0, 99997), (1, 14, 48), (0, 0, 100000)], [(1, 11, (Int.negSucc 999999999999), 0), (2, 12, (Int.negSucc 999999999999), 0), (3, 13, (Int.negSucc 999999999999), 0), (11, 1, (Int.negSucc 999999999999), 0), (12, 2, (Int.negSucc 999999999999), 0), (13, 3, (Int.negSucc 999999999999), 0), (14, 1, (Int.negSucc 999999999999), 0), (14, 11, (Int.negSucc 999999999999), 0)], [], [(2, 0, 0, [38]), (0, 1, 48, []), (0, 0, 47, []), (0, 0, 47, []), (2, 0, 0, [52]), (2, 0, 0, [53]), (0, 0, 24, []), (2, 0, 0, [59]), (0, 0, 25, []), (0, (Int.negSucc 2147483647), 2147483647, [])], 0, [], [(20, [10, 11], [61, 1, 566]), (20, [13, 12], [50, 0, 0, 2, 6, 0, 2, 0, 0, 1, 0, 0, 2, 1, 0, 1, 1]), (20, [10, 4, 5, 11, 12, 13, 6, 14], [61, 3, 582]), (20, [10, 4, 5, 7, 8, 11, 6, 9, 12, 13, 14], [61, 4, 591]), (24, [0, 10], []), (24, [1, 11], []), (24, [2, 12], []), (24, [3, 13], [])])]
def t_Fa_relabel_at_Fablock_gr_ct : ct_L := []
set_option maxRecDepth 100000 in
theorem c_Fa_relabel_at_Fablock_gr {l : Launch} {D : va_G} {kA : Nat → ClassId} : ct_ok PRD l D kA GG y_Fa_relabel_at_Fablock_gr z_Fa_relabel_at_Fablock_gr e_Fa_relabel_at_Fablock_gr := chk_all_ok (FT := []) (PT := []) (CT := t_Fa_relabel_at_Fablock_gr_ct) (KT := []) (NT := []) (AN := n_Fa_relabel_at_Fablock_gr_an) (OT := [o_Fa_relabel_at_Fablock_gr_0, o_Fa_relabel_at_Fablock_gr_1, o_Fa_relabel_at_Fablock_gr_2, o_Fa_relabel_at_Fablock_gr_3]) 3 200 (List.forall_mem_cons.mpr ⟨oo_Fa_relabel_at_Fablock_gr_0, List.forall_mem_cons.mpr ⟨oo_Fa_relabel_at_Fablock_gr_1, List.forall_mem_cons.mpr ⟨oo_Fa_relabel_at_Fablock_gr_2, List.forall_mem_cons.mpr ⟨oo_Fa_relabel_at_Fablock_gr_3, List.forall_mem_nil _⟩⟩⟩⟩) (by decide +kernel) ⟨List.forall_mem_nil _, List.forall_mem_nil _, List.forall_mem_nil _, List.forall_mem_nil _, List.forall_mem_nil _, GG_pl⟩ (by decide +kernel)
set_option maxHeartbeats 4000000 in
theorem vc_Fa_setAll_0_0 (x1 : Int) (x2 : Int) (x3 : Int) (x5 : Int) (x6 : Int) (x7 : Int) (a0_0 : Int → Int) (a4_0 : Int → Int) (k1 : 1 ≤ x1 ∧ x1 ≤ 24) (k2 : 0 ≤ x2 ∧ x2 ≤ 16777215) (k3 : 0 ≤ x3 ∧ x3 ≤ 23) (k5 : (-2147483648) ≤ x5 ∧ x5 ≤ 2147483647) (k6 : 0 ≤ x6 ∧ x6 ≤ 23) (k7 : 0 ≤ x7 ∧ x7 ≤ 0) (f0 : SAQ (a0_0) (a4_0) (x1) (x2) (x3) (x5) (x6)) (hK_0_999 : ∀ j : Int, 0 ≤ j → j < 24 → (-1) ≤ a0_0 j ∧ a0_0 j ≤ 24) (hK_4_999 : ∀ j : Int, 0 ≤ j → j < 24 → 0 ≤ a4_0 j ∧ a4_0 j ≤ 16777215) : SAI (a0_0) (a4_0) (x1) (x2) (x3) (x5) (x6) (x7) := by
  first
    | exact sai_start ‹SAQ _ _ _ _ _ _ _› (by omega)
    | (have q := bit_one (s := x2) (t := x12) (c := x14) (v := x11) (one := x13) (by assumption) (by assumption) (by omega) (by omega) (by omega) (by omega); exact sai_skip ‹SAI _ _ _ _ _ _ _ _› (fun z => by have := q.mp z; omega) (by omega))
    | (have q := bit_one (s := x2) (t := x12) (c := x14) (v := x11) (one := x13) (by assumption) (by assumption) (by omega) (by omega) (by omega) (by omega); exact sai_step (p := x11) (x := x3) ‹SAI _ _ _ _ _ _ _ _› (q.mpr (by omega)) (by assumption) rfl rfl (by omega))
  
def o_Fa_setAll_0 : or_T := (3, 8, [(0, (2, 0, 0, [37])), (1, (0, 1, 24, [])), (2, (0, 0, 16777215, [])), (3, (0, 0, 23, [])), (4, (2, 0, 0, [59])), (5, (0, -2147483648, 2147483647, [])), (6, (0, 0, 23, [])), (7, (0, 0, 0, []))], [(20, [0, 4, 1, 2, 3, 5, 6], [61, 2, 675])], [], [], [(20, [0, 4, 1, 2, 3, 5, 6, 7], [61, 2, 676]), (24, [0, 0], []), (24, [1, 1], []), (24, [2, 2], []), (24, [3, 3], [])], [], [])
theorem oo_Fa_setAll_0 {kA : Nat → ClassId} : or_ok PRD kA GG o_Fa_setAll_0 := by
  refine or_mk fun A ta ws vs hD hth hl => ?_
  intro t0 r0 t1 k1 t2 k2 t3 k3 t4 r4 t5 k5 t6 k6 t7 k7 f0
  have cr_0_999 : ta (v_ad (n_v vs 0)) = some 37 := r0
  have cr_4_999 : ta (v_ad (n_v vs 4)) = some 59 := r4
  have hK_0_999 := elq_29 hD hth cr_0_999
  have hK_4_999 := elq_25 hD hth cr_4_999
  have nf0 : fc_1 PRD (20, [0, 4, 1, 2, 3, 5, 6, 7], [61, 2, 676]) ws (vs) := ⟨nf_in hl rfl, sgq_374 (vc_Fa_setAll_0_0 (v_iv (n_v vs 1)) (v_iv (n_v vs 2)) (v_iv (n_v vs 3)) (v_iv (n_v vs 5)) (v_iv (n_v vs 6)) (v_iv (n_v vs 7)) (w_ei ws (v_ad (n_v vs 0))) (w_ei ws (v_ad (n_v vs 4))) k1 k2 k3 k5 k6 k7 (shm_373 f0) hK_0_999 hK_4_999)⟩
  have nf1 : fc_1 PRD (24, [0, 0], []) ws (vs) := by
    refine ⟨nf_in hl rfl, sgq_1 ?_⟩
    · show n_v vs 0 = n_v vs 0
      first | rfl | simp only [true_and]
  have nf2 : fc_1 PRD (24, [1, 1], []) ws (vs) := by
    refine ⟨nf_in hl rfl, sgq_1 ?_⟩
    · show n_v vs 1 = n_v vs 1
      first | rfl | simp only [true_and]
  have nf3 : fc_1 PRD (24, [2, 2], []) ws (vs) := by
    refine ⟨nf_in hl rfl, sgq_1 ?_⟩
    · show n_v vs 2 = n_v vs 2
      first | rfl | simp only [true_and]
  have nf4 : fc_1 PRD (24, [3, 3], []) ws (vs) := by
    refine ⟨nf_in hl rfl, sgq_1 ?_⟩
    · show n_v vs 3 = n_v vs 3
      first | rfl | simp only [true_and]
  refine ⟨(fun _ h => (by cases h)), [], trivial, ?_, (fun _ h => (by cases h))⟩
  rw [List.append_nil]
  exact List.forall_mem_cons.mpr ⟨⟨show (20 : Nat) < 100 from by decide, nf0⟩, List.forall_mem_cons.mpr ⟨⟨show (24 : Nat) < 100 from by decide, nf1⟩, List.forall_mem_cons.mpr ⟨⟨show (24 : Nat) < 100 from by decide, nf2⟩, List.forall_mem_cons.mpr ⟨⟨show (24 : Nat) < 100 from by decide, nf3⟩, List.forall_mem_cons.mpr ⟨⟨show (24 : Nat) < 100 from by decide, nf4⟩, (fun _ h => (by cases h))⟩⟩⟩⟩⟩
set_option maxHeartbeats 4000000 in
theorem vc_Fa_setAll_1_0 (x1 : Int) (x2 : Int) (x3 : Int) (x5 : Int) (x6 : Int) (x8 : Int) (x9 : Int) (x10 : Int) (x11 : Int) (a0_0 : Int → Int) (a4_0 : Int → Int) (k1 : 1 ≤ x1 ∧ x1 ≤ 24) (k2 : 0 ≤ x2 ∧ x2 ≤ 16777215) (k3 : 0 ≤ x3 ∧ x3 ≤ 23) (k5 : (-2147483648) ≤ x5 ∧ x5 ≤ 2147483647) (k6 : 0 ≤ x6 ∧ x6 ≤ 23) (k8 : 1 ≤ x8 ∧ x8 ≤ 24) (k9 : 0 ≤ x9 ∧ x9 ≤ 16777215) (k10 : 0 ≤ x10 ∧ x10 ≤ 23) (k11 : 1 ≤ x11 ∧ x11 ≤ 24) (d0 : x8 + 0 ≤ x11 ∧ x11 ≤ x8 + 4294967296) (d1 : x8 + (-4294967296) ≤ x1 ∧ x1 ≤ x8 + 0) (d2 : x9 + (-4294967296) ≤ x2 ∧ x2 ≤ x9 + 0) (d3 : x10 + (-4294967296) ≤ x3 ∧ x3 ≤ x10 + 0) (d4 : x1 + (-4294967296) ≤ x8 ∧ x8 ≤ x1 + 0) (d5 : x2 + (-4294967296) ≤ x9 ∧ x9 ≤ x2 + 0) (d6 : x3 + (-4294967296) ≤ x10 ∧ x10 ≤ x3 + 0) (d7 : x1 + (-4294967296) ≤ x11 ∧ x11 ≤ x1 + 0) (d8 : x8 + (-4294967296) ≤ x11 ∧ x11 ≤ x8 + 0) (f0 : x1 ≤ x11) (f1 : SAI (a0_0) (a4_0) (x1) (x2) (x3) (x5) (x6) (x11)) (hK_0_999 : ∀ j : Int, 0 ≤ j → j < 24 → (-1) ≤ a0_0 j ∧ a0_0 j ≤ 24) (hK_4_999 : ∀ j : Int, 0 ≤ j → j < 24 → 0 ≤ a4_0 j ∧ a4_0 j ≤ 16777215) : SAO (a0_0) (a4_0) (x1) (x2) (x3) (x5) (x6) := by
  first
    | exact sao_of ‹SAI _ _ _ _ _ _ _ _› (by omega)
  
def o_Fa_setAll_1 : or_T := (29, 12, [(0, (2, 0, 0, [37])), (1, (0, 1, 24, [])), (2, (0, 0, 16777215, [])), (3, (0, 0, 23, [])), (4, (2, 0, 0, [59])), (5, (0, -2147483648, 2147483647, [])), (6, (0, 0, 23, [])), (8, (0, 1, 24, [])), (9, (0, 0, 16777215, [])), (10, (0, 0, 23, [])), (11, (0, 1, 24, []))], [(7, [11, 8], [3]), (20, [7, 4, 8, 9, 10, 5, 6, 11], [61, 2, 676]), (24, [0, 7], []), (24, [1, 8], []), (24, [2, 9], []), (24, [3, 10], [])], [], [], [(20, [0, 4, 1, 2, 3, 5, 6], [61, 2, 677])], [], [(11, 8, 0, 4294967296), (1, 8, -4294967296, 0), (2, 9, -4294967296, 0), (3, 10, -4294967296, 0), (8, 1, -4294967296, 0), (9, 2, -4294967296, 0), (10, 3, -4294967296, 0), (11, 1, -4294967296, 0), (11, 8, -4294967296, 0)])
theorem oo_Fa_setAll_1 {kA : Nat → ClassId} : or_ok PRD kA GG o_Fa_setAll_1 := by
  refine or_mk fun A ta ws vs hD hth hl => ?_
  intro t0 r0 t1 k1 t2 k2 t3 k3 t4 r4 t5 k5 t6 k6 t8 k8 t9 k9 t10 k10 t11 k11 d0 d1 d2 d3 d4 d5 d6 d7 d8 f0 f1 f2 f3 f4 f5
  replace f0 := shm_2 f0
  replace f1 := shm_374 f1
  replace f2 := shm_5 f2
  replace f3 := shm_5 f3
  replace f4 := shm_5 f4
  replace f5 := shm_5 f5
  have q7 : n_v vs 7 = n_v vs 0 := f2.symm
  have q8 : n_v vs 8 = n_v vs 1 := f3.symm
  have q9 : n_v vs 9 = n_v vs 2 := f4.symm
  have q10 : n_v vs 10 = n_v vs 3 := f5.symm
  simp only [q8, q7, q9, q10] at f0 f1
  have cr_0_999 : ta (v_ad (n_v vs 0)) = some 37 := r0
  have cr_4_999 : ta (v_ad (n_v vs 4)) = some 59 := r4
  have hK_0_999 := elq_29 hD hth cr_0_999
  have hK_4_999 := elq_25 hD hth cr_4_999
  have nf0 : fc_1 PRD (20, [0, 4, 1, 2, 3, 5, 6], [61, 2, 677]) ws (vs) := ⟨nf_in hl rfl, sgq_375 (vc_Fa_setAll_1_0 (v_iv (n_v vs 1)) (v_iv (n_v vs 2)) (v_iv (n_v vs 3)) (v_iv (n_v vs 5)) (v_iv (n_v vs 6)) (v_iv (n_v vs 8)) (v_iv (n_v vs 9)) (v_iv (n_v vs 10)) (v_iv (n_v vs 11)) (w_ei ws (v_ad (n_v vs 0))) (w_ei ws (v_ad (n_v vs 4))) k1 k2 k3 k5 k6 k8 k9 k10 k11 d0 d1 d2 d3 d4 d5 d6 d7 d8 f0 f1 hK_0_999 hK_4_999)⟩
  refine ⟨(fun _ h => (by cases h)), [], trivial, ?_, (fun _ h => (by cases h))⟩
  rw [List.append_nil]
  exact List.forall_mem_cons.mpr ⟨⟨show (20 : Nat) < 100 from by decide, nf0⟩, (fun _ h => (by cases h))⟩
set_option maxHeartbeats 4000000 in
theorem vc_Fa_setAll_2_0 (x1 : Int) (x2 : Int) (x3 : Int) (x5 : Int) (x6 : Int) (x8 : Int) (x9 : Int) (x10 : Int) (x11 : Int) (x12 : Int) (x13 : Int) (x14 : Int) (x15 : Int) (a0_0 : Int → Int) (a4_0 : Int → Int) (k1 : 1 ≤ x1 ∧ x1 ≤ 24) (k2 : 0 ≤ x2 ∧ x2 ≤ 16777215) (k3 : 0 ≤ x3 ∧ x3 ≤ 23) (k5 : (-2147483648) ≤ x5 ∧ x5 ≤ 2147483647) (k6 : 0 ≤ x6 ∧ x6 ≤ 23) (k8 : 1 ≤ x8 ∧ x8 ≤ 24) (k9 : 0 ≤ x9 ∧ x9 ≤ 16777215) (k10 : 0 ≤ x10 ∧ x10 ≤ 23) (k11 : 0 ≤ x11 ∧ x11 ≤ 23) (k12 : 0 ≤ x12 ∧ x12 ≤ 16777215) (k13 : 1 ≤ x13 ∧ x13 ≤ 1) (k14 : 0 ≤ x14 ∧ x14 ≤ 0) (k15 : 1 ≤ x15 ∧ x15 ≤ 24) (d0 : x11 + 1 ≤ x15 ∧ x15 ≤ x11 + 1) (d1 : x8 + (-4294967296) ≤ x15 ∧ x15 ≤ x8 + 0) (d2 : x1 + (-4294967296) ≤ x15 ∧ x15 ≤ x1 + 1) (d3 : x8 + (-4294967296) ≤ x15 ∧ x15 ≤ x8 + 1) (d4 : x8 + (-4294967296) ≤ x11 ∧ x11 ≤ x8 + (-1)) (d5 : x8 + (-4294967296) ≤ x1 ∧ x1 ≤ x8 + 0) (d6 : x9 + (-4294967296) ≤ x2 ∧ x2 ≤ x9 + 0) (d7 : x10 + (-4294967296) ≤ x3 ∧ x3 ≤ x10 + 0) (d8 : x1 + (-4294967296) ≤ x8 ∧ x8 ≤ x1 + 0) (d9 : x2 + (-4294967296) ≤ x9 ∧ x9 ≤ x2 + 0) (d10 : x3 + (-4294967296) ≤ x10 ∧ x10 ≤ x3 + 0) (d11 : x1 + (-4294967296) ≤ x11 ∧ x11 ≤ x1 + 0) (d12 : x8 + (-4294967296) ≤ x11 ∧ x11 ≤ x8 + 0) (f0 : x15 = x11 + 1) (f1 : x14 = 0) (f2 : x14 = x12 % 2) (f3 : bvp (x14) = bvp (x12) &&& bvp (x13)) (f4 : bvp (x12) = bvp (x2) >>> (x11).toNat) (f5 : x11 < x1) (f6 : SAI (a0_0) (a4_0) (x1) (x2) (x3) (x5) (x6) (x11)) (hK_0_999 : ∀ j : Int, 0 ≤ j → j < 24 → (-1) ≤ a0_0 j ∧ a0_0 j ≤ 24) (hK_4_999 : ∀ j : Int, 0 ≤ j → j < 24 → 0 ≤ a4_0 j ∧ a4_0 j ≤ 16777215) : SAI (a0_0) (a4_0) (x1) (x2) (x3) (x5) (x6) (x15) := by
  first
    | exact sai_start ‹SAQ _ _ _ _ _ _ _› (by omega)
    | (have q := bit_one (s := x2) (t := x12) (c := x14) (v := x11) (one := x13) (by assumption) (by assumption) (by omega) (by omega) (by omega) (by omega); exact sai_skip ‹SAI _ _ _ _ _ _ _ _› (fun z => by have := q.mp z; omega) (by omega))
    | (have q := bit_one (s := x2) (t := x12) (c := x14) (v := x11) (one := x13) (by assumption) (by assumption) (by omega) (by omega) (by omega) (by omega); exact sai_step (p := x11) (x := x3) ‹SAI _ _ _ _ _ _ _ _› (q.mpr (by omega)) (by assumption) rfl rfl (by omega))
  
def o_Fa_setAll_2 : or_T := (3, 16, [(0, (2, 0, 0, [37])), (1, (0, 1, 24, [])), (2, (0, 0, 16777215, [])), (3, (0, 0, 23, [])), (4, (2, 0, 0, [59])), (5, (0, -2147483648, 2147483647, [])), (6, (0, 0, 23, [])), (7, (2, 0, 0, [37])), (8, (0, 1, 24, [])), (9, (0, 0, 16777215, [])), (10, (0, 0, 23, [])), (11, (0, 0, 23, [])), (12, (0, 0, 16777215, [])), (13, (0, 1, 1, [])), (14, (0, 0, 0, [])), (15, (0, 1, 24, []))], [(6, [15, 11], [1]), (8, [14], [0]), (12, [14, 12], [2]), (16, [14, 12, 13], [0]), (16, [12, 9, 11], [4]), (7, [11, 8], [2]), (20, [7, 4, 8, 9, 10, 5, 6, 11], [61, 2, 676]), (24, [0, 7], []), (24, [1, 8], []), (24, [2, 9], []), (24, [3, 10], [])], [], [], [(20, [7, 4, 8, 9, 10, 5, 6, 15], [61, 2, 676])], [], [(15, 11, 1, 1), (15, 8, -4294967296, 0), (15, 1, -4294967296, 1), (15, 8, -4294967296, 1), (11, 8, -4294967296, -1), (1, 8, -4294967296, 0), (2, 9, -4294967296, 0), (3, 10, -4294967296, 0), (8, 1, -4294967296, 0), (9, 2, -4294967296, 0), (10, 3, -4294967296, 0), (11, 1, -4294967296, 0), (11, 8, -4294967296, 0)])
theorem oo_Fa_setAll_2 {kA : Nat → ClassId} : or_ok PRD kA GG o_Fa_setAll_2 := by
  refine or_mk fun A ta ws vs hD hth hl => ?_
  intro t0 r0 t1 k1 t2 k2 t3 k3 t4 r4 t5 k5 t6 k6 t7 r7 t8 k8 t9 k9 t10 k10 t11 k11 t12 k12 t13 k13 t14 k14 t15 k15 d0 d1 d2 d3 d4 d5 d6 d7 d8 d9 d10 d11 d12 f0 f1 f2 f3 f4 f5 f6 f7 f8 f9 f10
  replace f0 := shm_4 f0
  replace f1 := shm_192 f1
  replace f2 := shm_364 f2
  replace f3 := shm_11 f3
  replace f4 := shm_13 f4
  replace f5 := shm_6 f5
  replace f6 := shm_374 f6
  replace f7 := shm_5 f7
  replace f8 := shm_5 f8
  replace f9 := shm_5 f9
  replace f10 := shm_5 f10
  have q7 : n_v vs 7 = n_v vs 0 := f7.symm
  have q8 : n_v vs 8 = n_v vs 1 := f8.symm
  have q9 : n_v vs 9 = n_v vs 2 := f9.symm
  have q10 : n_v vs 10 = n_v vs 3 := f10.symm
  simp only [q9, q8, q7, q10] at f4 f5 f6
  have cr_0_999 : ta (v_ad (n_v vs 0)) = some 37 := r0
  have cr_4_999 : ta (v_ad (n_v vs 4)) = some 59 := r4
  have hK_0_999 := elq_29 hD hth cr_0_999
  have hK_4_999 := elq_25 hD hth cr_4_999
  have nf0 : fc_1 PRD (20, [7, 4, 8, 9, 10, 5, 6, 15], [61, 2, 676]) ws (vs) := by
    refine ⟨nf_in hl rfl, sgq_374 ?_⟩
    · show SAI (w_ei ws (v_ad (n_v vs 7))) (w_ei ws (v_ad (n_v vs 4))) (v_iv (n_v vs 8)) (v_iv (n_v vs 9)) (v_iv (n_v vs 10)) (v_iv (n_v vs 5)) (v_iv (n_v vs 6)) (v_iv (n_v vs 15))
      simp only [q7, q8, q9, q10]
      exact vc_Fa_setAll_2_0 (v_iv (n_v vs 1)) (v_iv (n_v vs 2)) (v_iv (n_v vs 3)) (v_iv (n_v vs 5)) (v_iv (n_v vs 6)) (v_iv (n_v vs 8)) (v_iv (n_v vs 9)) (v_iv (n_v vs 10)) (v_iv (n_v vs 11)) (v_iv (n_v vs 12)) (v_iv (n_v vs 13)) (v_iv (n_v vs 14)) (v_iv (n_v vs 15)) (w_ei ws (v_ad (n_v vs 0))) (w_ei ws (v_ad (n_v vs 4))) k1 k2 k3 k5 k6 k8 k9 k10 k11 k12 k13 k14 k15 d0 d1 d2 d3 d4 d5 d6 d7 d8 d9 d10 d11 d12 f0 f1 f2 f3 f4 f5 f6 hK_0_999 hK_4_999
  refine ⟨(fun _ h => (by cases h)), [], trivial, ?_, (fun _ h => (by cases h))⟩
  rw [List.append_nil]
  exact List.forall_mem_cons.mpr ⟨⟨show (20 : Nat) < 100 from by decide, nf0⟩, (fun _ h => (by cases h))⟩
set_option maxHeartbeats 4000000 in
theorem vc_Fa_setAll_3_0 (x1 : Int) (x2 : Int) (x3 : Int) (x5 : Int) (x6 : Int) (x8 : Int) (x9 : Int) (x10 : Int) (x11 : Int) (x12 : Int) (x13 : Int) (x14 : Int) (x15 : Int) (a0_1 : Int → Int) (a4_1 : Int → Int) (a0_0 : Int → Int) (a4_0 : Int → Int) (k1 : 1 ≤ x1 ∧ x1 ≤ 24) (k2 : 0 ≤ x2 ∧ x2 ≤ 16777215) (k3 : 0 ≤ x3 ∧ x3 ≤ 23) (k5 : (-2147483648) ≤ x5 ∧ x5 ≤ 2147483647) (k6 : 0 ≤ x6 ∧ x6 ≤ 23) (k8 : 1 ≤ x8 ∧ x8 ≤ 24) (k9 : 0 ≤ x9 ∧ x9 ≤ 16777215) (k10 : 0 ≤ x10 ∧ x10 ≤ 23) (k11 : 0 ≤ x11 ∧ x11 ≤ 23) (k12 : 0 ≤ x12 ∧ x12 ≤ 16777215) (k13 : 1 ≤ x13 ∧ x13 ≤ 1) (k14 : 1 ≤ x14 ∧ x14 ≤ 1) (k15 : 1 ≤ x15 ∧ x15 ≤ 24) (d0 : x11 + 1 ≤ x15 ∧ x15 ≤ x11 + 1) (d1 : x8 + (-4294967296) ≤ x15 ∧ x15 ≤ x8 + 0) (d2 : x1 + (-4294967296) ≤ x15 ∧ x15 ≤ x1 + 1) (d3 : x8 + (-4294967296) ≤ x15 ∧ x15 ≤ x8 + 1) (d4 : x8 + (-4294967296) ≤ x11 ∧ x11 ≤ x8 + (-1)) (d5 : x8 + (-4294967296) ≤ x1 ∧ x1 ≤ x8 + 0) (d6 : x9 + (-4294967296) ≤ x2 ∧ x2 ≤ x9 + 0) (d7 : x10 + (-4294967296) ≤ x3 ∧ x3 ≤ x10 + 0) (d8 : x1 + (-4294967296) ≤ x8 ∧ x8 ≤ x1 + 0) (d9 : x2 + (-4294967296) ≤ x9 ∧ x9 ≤ x2 + 0) (d10 : x3 + (-4294967296) ≤ x10 ∧ x10 ≤ x3 + 0) (d11 : x1 + (-4294967296) ≤ x11 ∧ x11 ≤ x1 + 0) (d12 : x8 + (-4294967296) ≤ x11 ∧ x11 ≤ x8 + 0) (f0 : x15 = x11 + 1) (f6 : x14 ≠ 0) (f7 : x14 = x12 % 2) (f8 : bvp (x14) = bvp (x12) &&& bvp (x13)) (f9 : bvp (x12) = bvp (x2) >>> (x11).toNat) (f10 : x11 < x1) (f11 : SAI (a0_1) (a4_1) (x1) (x2) (x3) (x5) (x6) (x11)) (hE_0_999_1 : ∀ j : Int, 0 ≤ j → (j = x11 → a0_0 j = x3) ∧ (j ≠ x11 → a0_0 j = a0_1 j)) (hK_0_999 : ∀ j : Int, 0 ≤ j → j < 24 → (-1) ≤ a0_0 j ∧ a0_0 j ≤ 24) (hE_4_999_1 : ∀ j : Int, a4_0 j = a4_1 j) (hK_4_999 : ∀ j : Int, 0 ≤ j → j < 24 → 0 ≤ a4_0 j ∧ a4_0 j ≤ 16777215) : SAI (a0_0) (a4_0) (x1) (x2) (x3) (x5) (x6) (x15) := by
  have e_hE_4_999_1 := funext hE_4_999_1; subst e_hE_4_999_1
  first
    | exact sai_start ‹SAQ _ _ _ _ _ _ _› (by omega)
    | (have q := bit_one (s := x2) (t := x12) (c := x14) (v := x11) (one := x13) (by assumption) (by assumption) (by omega) (by omega) (by omega) (by omega); exact sai_skip ‹SAI _ _ _ _ _ _ _ _› (fun z => by have := q.mp z; omega) (by omega))
    | (have q := bit_one (s := x2) (t := x12) (c := x14) (v := x11) (one := x13) (by assumption) (by assumption) (by omega) (by omega) (by omega) (by omega); exact sai_step (p := x11) (x := x3) ‹SAI _ _ _ _ _ _ _ _› (q.mpr (by omega)) (by assumption) rfl rfl (by omega))
  
def o_Fa_setAll_3 : or_T := (3, 16, [(0, (2, 0, 0, [37])), (1, (0, 1, 24, [])), (2, (0, 0, 16777215, [])), (3, (0, 0, 23, [])), (4, (2, 0, 0, [59])), (5, (0, -2147483648, 2147483647, [])), (6, (0, 0, 23, [])), (7, (2, 0, 0, [37])), (8, (0, 1, 24, [])), (9, (0, 0, 16777215, [])), (10, (0, 0, 23, [])), (11, (0, 0, 23, [])), (12, (0, 0, 16777215, [])), (13, (0, 1, 1, [])), (14, (0, 1, 1, [])), (15, (0, 1, 24, []))], [(6, [15, 11], [1]), (24, [0, 7], []), (24, [1, 8], []), (24, [2, 9], []), (24, [3, 10], []), (100, [7, 11, 10], []), (8, [14], [1]), (12, [14, 12], [2]), (16, [14, 12, 13], [0]), (16, [12, 9, 11], [4]), (7, [11, 8], [2]), (20, [7, 4, 8, 9, 10, 5, 6, 11], [61, 2, 676])], [], [], [(20, [7, 4, 8, 9, 10, 5, 6, 15], [61, 2, 676])], [], [(15, 11, 1, 1), (15, 8, -4294967296, 0), (15, 1, -4294967296, 1), (15, 8, -4294967296, 1), (11, 8, -4294967296, -1), (1, 8, -4294967296, 0), (2, 9, -4294967296, 0), (3, 10, -4294967296, 0), (8, 1, -4294967296, 0), (9, 2, -4294967296, 0), (10, 3, -4294967296, 0), (11, 1, -4294967296, 0), (11, 8, -4294967296, 0)])
theorem oo_Fa_setAll_3 {kA : Nat → ClassId} : or_ok PRD kA GG o_Fa_setAll_3 := by
  refine or_mk fun A ta ws vs hD hth hl => ?_
  intro t0 r0 t1 k1 t2 k2 t3 k3 t4 r4 t5 k5 t6 k6 t7 r7 t8 k8 t9 k9 t10 k10 t11 k11 t12 k12 t13 k13 t14 k14 t15 k15 d0 d1 d2 d3 d4 d5 d6 d7 d8 d9 d10 d11 d12 f0 f1 f2 f3 f4 ta1 w1 le1 s1 f6 f7 f8 f9 f10 f11
  replace f0 := shm_4 f0
  replace f1 := shm_5 f1
  replace f2 := shm_5 f2
  replace f3 := shm_5 f3
  replace f4 := shm_5 f4
  have s1 : (∀ b j, w_el ws b j = if b = v_ad (n_v vs 7) ∧ j = (v_iv (n_v vs 11)).toNat then v_iv (n_v vs 10) else w_el w1 b j) ∧ ∀ b k, w_fd ws b k = w_fd w1 b k := s1.2
  replace f6 := shm_142 f6
  replace f7 := shm_364 f7
  replace f8 := shm_11 f8
  replace f9 := shm_13 f9
  replace f10 := shm_6 f10
  replace f11 := shm_374 f11
  have q7 : n_v vs 7 = n_v vs 0 := f1.symm
  have q8 : n_v vs 8 = n_v vs 1 := f2.symm
  have q9 : n_v vs 9 = n_v vs 2 := f3.symm
  have q10 : n_v vs 10 = n_v vs 3 := f4.symm
  rw [q7] at s1
  rw [q10] at s1
  simp only [q9, q8, q7, q10] at f9 f10 f11
  have cr_0_999 : ta (v_ad (n_v vs 0)) = some 37 := r0
  have cr_4_999 : ta (v_ad (n_v vs 4)) = some 59 := r4
  have ad_0 : v_ad (n_v vs 0) = v_ad (n_v vs 0) := rfl
  have hE_0_999_1 : ∀ j : Int, 0 ≤ j → (j = v_iv (n_v vs 11) → w_ei ws (v_ad (n_v vs 0)) j = v_iv (n_v vs 3)) ∧ (j ≠ v_iv (n_v vs 11) → w_ei ws (v_ad (n_v vs 0)) j = w_ei w1 (v_ad (n_v vs 0)) j) := fun j hj => ⟨fun h => by unfold w_ei; rw [s1.1, if_pos ⟨ad_0.symm, by rw [h]⟩], fun h => by unfold w_ei; rw [s1.1, if_neg (fun e => h (by have := e.2; omega))]⟩
  have hK_0_999 := elq_29 hD hth cr_0_999
  have hE_4_999_1 : ∀ j : Int, w_ei ws (v_ad (n_v vs 4)) j = w_ei w1 (v_ad (n_v vs 4)) j := el_kp s1.1 r0 cr_4_999 (by decide)
  have hK_4_999 := elq_25 hD hth cr_4_999
  have nf0 : fc_1 PRD (20, [7, 4, 8, 9, 10, 5, 6, 15], [61, 2, 676]) ws (vs) := by
    refine ⟨nf_in hl rfl, sgq_374 ?_⟩
    · show SAI (w_ei ws (v_ad (n_v vs 7))) (w_ei ws (v_ad (n_v vs 4))) (v_iv (n_v vs 8)) (v_iv (n_v vs 9)) (v_iv (n_v vs 10)) (v_iv (n_v vs 5)) (v_iv (n_v vs 6)) (v_iv (n_v vs 15))
      simp only [q7, q8, q9, q10]
      exact vc_Fa_setAll_3_0 (v_iv (n_v vs 1)) (v_iv (n_v vs 2)) (v_iv (n_v vs 3)) (v_iv (n_v vs 5)) (v_iv (n_v vs 6)) (v_iv (n_v vs 8)) (v_iv (n_v vs 9)) (v_iv (n_v vs 10)) (v_iv (n_v vs 11)) (v_iv (n_v vs 12)) (v_iv (n_v vs 13)) (v_iv (n_v vs 14)) (v_iv (n_v vs 15)) (w_ei w1 (v_ad (n_v vs 0))) (w_ei w1 (v_ad (n_v vs 4))) (w_ei ws (v_ad (n_v vs 0))) (w_ei ws (v_ad (n_v vs 4))) k1 k2 k3 k5 k6 k8 k9 k10 k11 k12 k13 k14 k15 d0 d1 d2 d3 d4 d5 d6 d7 d8 d9 d10 d11 d12 f0 f6 f7 f8 f9 f10 f11 hE_0_999_1 hK_0_999 hE_4_999_1 hK_4_999
  refine ⟨(fun _ h => (by cases h)), [], trivial, ?_, (fun _ h => (by cases h))⟩
  rw [List.append_nil]
  exact List.forall_mem_cons.mpr ⟨⟨show (20 : Nat) < 100 from by decide, nf0⟩, (fun _ h => (by cases h))⟩
def n_Fa_setAll_an : List an_T := [(3, [(0, (2, 0, 0, [37])), (1, (0, 1, 24, [])), (2, (0, 0, 16777215, [])), (3, (0, 0, 23, [])), (4, (0, 0, 24, []))], [], (0, 0), [(0, 0, 99997), (1, 11, 24), (0, 0, 100000)], [(1, 8, (Int.negSucc 999999999999), 0), (2, 9, (Int.negSucc 999999999999), 0), (3, 10, (Int.negSucc 999999999999), 0), (8, 1, (Int.negSucc 999999999999), 0), (9, 2, (Int.negSucc 999999999999), 0), (10, 3, (Int.negSucc 999999999999), 0), (11, 1, (Int.negSucc 999999999999), 0), (11, 8, (Int.negSucc 999999999999), 0)], [], [(2, 0, 0, [37]), (0, 1, 24, []), (0, 0, 16777215, []), (0, 0, 23, []), (2, 0, 0, [59]), (0, (Int.negSucc 2147483647), 2147483647, []), (0, 0, 23, [])], 0, [], [(20, [7, 4, 8, 9, 10, 5, 6, 11], [61, 2, 676]), (24, [0, 7], []), (24, [1, 8], []), (24, [2, 9], []), (24, [3, 10], [])])]
def t_Fa_setAll_ct : ct_L := []
set_option maxRecDepth 100000 in
theorem c_Fa_setAll {l : Launch} {D : va_G} {kA : Nat → ClassId} : ct_ok PRD l D kA GG y_Fa_setAll z_Fa_setAll e_Fa_setAll := chk_all_ok (FT := []) (PT := []) (CT := t_Fa_setAll_ct) (KT := []) (NT := []) (AN := n_Fa_setAll_an) (OT := [o_Fa_setAll_0, o_Fa_setAll_1, o_Fa_setAll_2, o_Fa_setAll_3]) 3 200 (List.forall_mem_cons.mpr ⟨oo_Fa_setAll_0, List.forall_mem_cons.mpr ⟨oo_Fa_setAll_1, List.forall_mem_cons.mpr ⟨oo_Fa_setAll_2, List.forall_mem_cons.mpr ⟨oo_Fa_setAll_3, List.forall_mem_nil _⟩⟩⟩⟩) (by decide +kernel) ⟨List.forall_mem_nil _, List.forall_mem_nil _, List.forall_mem_nil _, List.forall_mem_nil _, List.forall_mem_nil _, GG_pl⟩ (by decide +kernel)
set_option maxHeartbeats 4000000 in
theorem vc_Gr_edgeBetween_at_Gq_0_0 (x1 : Int) (x2 : Int) (x4 : Int) (x5 : Int) (x6 : Int) (x7 : Int) (link_0 : Int → Int) (k1 : 0 ≤ x1 ∧ x1 ≤ 23) (k2 : 0 ≤ x2 ∧ x2 ≤ 23) (k4 : 24 ≤ x4 ∧ x4 ≤ 24) (k5 : 0 ≤ x5 ∧ x5 ≤ 552) (k6 : 0 ≤ x6 ∧ x6 ≤ 575) (k7 : (-1) ≤ x7 ∧ x7 ≤ 47) (d0 : x2 + 0 ≤ x6 ∧ x6 ≤ x2 + 552) (d1 : x5 + 0 ≤ x6 ∧ x6 ≤ x5 + 23) (h0 : x7 = link_0 (x6)) (f1 : x6 = x5 + x2) (f2 : x5 = x1 * 24) (hK_0_15 : ∀ j : Int, 0 ≤ j → j < 576 → (-1) ≤ link_0 j ∧ link_0 j ≤ 47) : x7 = link_0 (((x1 * 24) + x2)) := by
  first
    | omega
    | (rw [show x1 * 24 + x2 = x6 by omega]; assumption)
  
def o_Gr_edgeBetween_at_Gq_0 : or_T := (11, 8, [(0, (2, 0, 0, [164])), (1, (0, 0, 23, [])), (2, (0, 0, 23, [])), (4, (0, 24, 24, [])), (5, (0, 0, 552, [])), (6, (0, 0, 575, [])), (7, (0, -1, 47, []))], [(10, [7, 3, 6], []), (1, [6, 5, 2], []), (3, [5, 1, 4], []), (9, [3, 0], [15])], [], [], [(20, [7, 0, 1, 2], [50, 0, 1, 1015, 1, 2, 1, 0, 3, 1, 15, 4, 6, 6, 2, 1, 2, 0, 24, 1, 3])], [], [(6, 2, 0, 552), (6, 5, 0, 23)])
theorem oo_Gr_edgeBetween_at_Gq_0 {kA : Nat → ClassId} : or_ok PRD kA GG o_Gr_edgeBetween_at_Gq_0 := by
  refine or_mk fun A ta ws vs hD hth hl => ?_
  intro t0 r0 t1 k1 t2 k2 t4 k4 t5 k5 t6 k6 t7 k7 d0 d1 f0 f1 f2 f3
  replace f0 := shm_107 f0
  replace f2 := shm_38 f2
  rw [show v_iv (n_v vs 4) = 24 from by omega] at f2
  replace f3 := shm_177 f3
  have cr_0_15 := fdq_65 hD hth r0
  have ad_3 : v_ad (n_v vs 3) = w_ar ws (n_v vs 0) 15 := congrArg v_ad f3
  simp only [ad_3] at f0
  have h0 : v_iv (n_v vs 7) = w_ei ws (w_ar ws (n_v vs 0) 15) (v_iv (n_v vs 6)) := f0
  have hK_0_15 := elq_30 hD hth cr_0_15
  have nf0 : fc_1 PRD (20, [7, 0, 1, 2], [50, 0, 1, 1015, 1, 2, 1, 0, 3, 1, 15, 4, 6, 6, 2, 1, 2, 0, 24, 1, 3]) ws (vs) := ⟨nf_in hl rfl, sgq_376 (vc_Gr_edgeBetween_at_Gq_0_0 (v_iv (n_v vs 1)) (v_iv (n_v vs 2)) (v_iv (n_v vs 4)) (v_iv (n_v vs 5)) (v_iv (n_v vs 6)) (v_iv (n_v vs 7)) (w_ei ws (w_ar ws (n_v vs 0) 15)) k1 k2 k4 k5 k6 k7 d0 d1 h0 (shm_12 f1) f2 hK_0_15)⟩
  refine ⟨(fun _ h => (by cases h)), [], trivial, ?_, (fun _ h => (by cases h))⟩
  rw [List.append_nil]
  exact List.forall_mem_cons.mpr ⟨⟨show (20 : Nat) < 100 from by decide, nf0⟩, (fun _ h => (by cases h))⟩
def n_Gr_edgeBetween_at_Gq_an : List an_T := []
def t_Gr_edgeBetween_at_Gq_ct : ct_L := []
set_option maxRecDepth 100000 in
theorem c_Gr_edgeBetween_at_Gq {l : Launch} {D : va_G} {kA : Nat → ClassId} : ct_ok PRD l D kA GG y_Gr_edgeBetween_at_Gq z_Gr_edgeBetween_at_Gq e_Gr_edgeBetween_at_Gq := chk_all_ok (FT := [(59, 3, 15)]) (PT := []) (CT := t_Gr_edgeBetween_at_Gq_ct) (KT := []) (NT := []) (AN := n_Gr_edgeBetween_at_Gq_an) (OT := [o_Gr_edgeBetween_at_Gq_0]) 0 200 (List.forall_mem_cons.mpr ⟨oo_Gr_edgeBetween_at_Gq_0, List.forall_mem_nil _⟩) (by decide +kernel) ⟨List.forall_mem_cons.mpr ⟨gf_Gr_59, List.forall_mem_nil _⟩, List.forall_mem_nil _, List.forall_mem_nil _, List.forall_mem_nil _, List.forall_mem_nil _, GG_pl⟩ (by decide +kernel)
set_option maxHeartbeats 4000000 in
theorem vc_Gr_edgeBetween_at_Gr_0_0 (x1 : Int) (x2 : Int) (x4 : Int) (x5 : Int) (x6 : Int) (x7 : Int) (link_0 : Int → Int) (k1 : 0 ≤ x1 ∧ x1 ≤ 23) (k2 : 0 ≤ x2 ∧ x2 ≤ 23) (k4 : 24 ≤ x4 ∧ x4 ≤ 24) (k5 : 0 ≤ x5 ∧ x5 ≤ 552) (k6 : 0 ≤ x6 ∧ x6 ≤ 575) (k7 : (-1) ≤ x7 ∧ x7 ≤ 47) (d0 : x2 + 0 ≤ x6 ∧ x6 ≤ x2 + 552) (d1 : x5 + 0 ≤ x6 ∧ x6 ≤ x5 + 23) (h0 : x7 = link_0 (x6)) (f1 : x6 = x5 + x2) (f2 : x5 = x1 * 24) (hK_0_15 : ∀ j : Int, 0 ≤ j → j < 576 → (-1) ≤ link_0 j ∧ link_0 j ≤ 47) : x7 = link_0 (((x1 * 24) + x2)) := by
  first
    | omega
    | (rw [show x1 * 24 + x2 = x6 by omega]; assumption)
  
def o_Gr_edgeBetween_at_Gr_0 : or_T := (11, 8, [(0, (2, 0, 0, [3])), (1, (0, 0, 23, [])), (2, (0, 0, 23, [])), (4, (0, 24, 24, [])), (5, (0, 0, 552, [])), (6, (0, 0, 575, [])), (7, (0, -1, 47, []))], [(10, [7, 3, 6], []), (1, [6, 5, 2], []), (3, [5, 1, 4], []), (9, [3, 0], [15])], [], [], [(20, [7, 0, 1, 2], [50, 0, 1, 1015, 1, 2, 1, 0, 3, 1, 15, 4, 6, 6, 2, 1, 2, 0, 24, 1, 3])], [], [(6, 2, 0, 552), (6, 5, 0, 23)])
theorem oo_Gr_edgeBetween_at_Gr_0 {kA : Nat → ClassId} : or_ok PRD kA GG o_Gr_edgeBetween_at_Gr_0 := by
  refine or_mk fun A ta ws vs hD hth hl => ?_
  intro t0 r0 t1 k1 t2 k2 t4 k4 t5 k5 t6 k6 t7 k7 d0 d1 f0 f1 f2 f3
  replace f0 := shm_107 f0
  replace f2 := shm_38 f2
  rw [show v_iv (n_v vs 4) = 24 from by omega] at f2
  replace f3 := shm_177 f3
  have cr_0_15 := fdq_66 hD hth r0
  have ad_3 : v_ad (n_v vs 3) = w_ar ws (n_v vs 0) 15 := congrArg v_ad f3
  simp only [ad_3] at f0
  have h0 : v_iv (n_v vs 7) = w_ei ws (w_ar ws (n_v vs 0) 15) (v_iv (n_v vs 6)) := f0
  have hK_0_15 := elq_31 hD hth cr_0_15
  have nf0 : fc_1 PRD (20, [7, 0, 1, 2], [50, 0, 1, 1015, 1, 2, 1, 0, 3, 1, 15, 4, 6, 6, 2, 1, 2, 0, 24, 1, 3]) ws (vs) := ⟨nf_in hl rfl, sgq_376 (vc_Gr_edgeBetween_at_Gr_0_0 (v_iv (n_v vs 1)) (v_iv (n_v vs 2)) (v_iv (n_v vs 4)) (v_iv (n_v vs 5)) (v_iv (n_v vs 6)) (v_iv (n_v vs 7)) (w_ei ws (w_ar ws (n_v vs 0) 15)) k1 k2 k4 k5 k6 k7 d0 d1 h0 (shm_12 f1) f2 hK_0_15)⟩
  refine ⟨(fun _ h => (by cases h)), [], trivial, ?_, (fun _ h => (by cases h))⟩
  rw [List.append_nil]
  exact List.forall_mem_cons.mpr ⟨⟨show (20 : Nat) < 100 from by decide, nf0⟩, (fun _ h => (by cases h))⟩
def n_Gr_edgeBetween_at_Gr_an : List an_T := []
def t_Gr_edgeBetween_at_Gr_ct : ct_L := []
set_option maxRecDepth 100000 in
theorem c_Gr_edgeBetween_at_Gr {l : Launch} {D : va_G} {kA : Nat → ClassId} : ct_ok PRD l D kA GG y_Gr_edgeBetween_at_Gr z_Gr_edgeBetween_at_Gr e_Gr_edgeBetween_at_Gr := chk_all_ok (FT := [(59, 3, 15)]) (PT := []) (CT := t_Gr_edgeBetween_at_Gr_ct) (KT := []) (NT := []) (AN := n_Gr_edgeBetween_at_Gr_an) (OT := [o_Gr_edgeBetween_at_Gr_0]) 0 200 (List.forall_mem_cons.mpr ⟨oo_Gr_edgeBetween_at_Gr_0, List.forall_mem_nil _⟩) (by decide +kernel) ⟨List.forall_mem_cons.mpr ⟨gf_Gr_59, List.forall_mem_nil _⟩, List.forall_mem_nil _, List.forall_mem_nil _, List.forall_mem_nil _, List.forall_mem_nil _, GG_pl⟩ (by decide +kernel)
set_option maxHeartbeats 4000000 in
theorem vc_Gr_half_0_0 (x1 : Int) (x3 : Int) (x4 : Int) (x5 : Int) (nameLength_0 : Int → Int) (k1 : 0 ≤ x1 ∧ x1 ≤ 23) (k3 : 0 ≤ x3 ∧ x3 ≤ 8) (k4 : 1 ≤ x4 ∧ x4 ≤ 1) (k5 : 1 ≤ x5 ∧ x5 ≤ 9) (d0 : x3 + 1 ≤ x5 ∧ x5 ≤ x3 + 1) (f0 : x5 = x3 + x4) (h1 : x3 = nameLength_0 (x1)) (hK_0_4 : ∀ j : Int, 0 ≤ j → j < 24 → 0 ≤ nameLength_0 j ∧ nameLength_0 j ≤ 8) : x5 = (nameLength_0 (x1) + 1) := by
  first | assumption | (clear hK_0_4; omega) | omega | grind
def o_Gr_half_0 : or_T := (8, 6, [(0, (2, 0, 0, [3])), (1, (0, 0, 23, [])), (3, (0, 0, 8, [])), (4, (0, 1, 1, [])), (5, (0, 1, 9, []))], [(1, [5, 3, 4], []), (10, [3, 2, 1], []), (9, [2, 0], [4])], [], [], [(20, [5, 0, 1], [50, 0, 1, 1004, 1, 2, 1, 0, 4, 5, 3, 1, 4, 1, 2, 0, 1])], [], [(5, 3, 1, 1)])
theorem oo_Gr_half_0 {kA : Nat → ClassId} : or_ok PRD kA GG o_Gr_half_0 := by
  refine or_mk fun A ta ws vs hD hth hl => ?_
  intro t0 r0 t1 k1 t3 k3 t4 k4 t5 k5 d0 f0 f1 f2
  replace f1 := shm_107 f1
  replace f2 := shm_108 f2
  have cr_0_4 := fdq_4 hD hth r0
  have ad_2 : v_ad (n_v vs 2) = w_ar ws (n_v vs 0) 4 := congrArg v_ad f2
  simp only [ad_2] at f1
  have h1 : v_iv (n_v vs 3) = w_ei ws (w_ar ws (n_v vs 0) 4) (v_iv (n_v vs 1)) := f1
  have hK_0_4 := elq_3 hD hth cr_0_4
  have nf0 : fc_1 PRD (20, [5, 0, 1], [50, 0, 1, 1004, 1, 2, 1, 0, 4, 5, 3, 1, 4, 1, 2, 0, 1]) ws (vs) := ⟨nf_in hl rfl, sgq_377 (vc_Gr_half_0_0 (v_iv (n_v vs 1)) (v_iv (n_v vs 3)) (v_iv (n_v vs 4)) (v_iv (n_v vs 5)) (w_ei ws (w_ar ws (n_v vs 0) 4)) k1 k3 k4 k5 d0 (shm_12 f0) h1 hK_0_4)⟩
  refine ⟨(fun _ h => (by cases h)), [], trivial, ?_, (fun _ h => (by cases h))⟩
  rw [List.append_nil]
  exact List.forall_mem_cons.mpr ⟨⟨show (20 : Nat) < 100 from by decide, nf0⟩, (fun _ h => (by cases h))⟩
def n_Gr_half_an : List an_T := []
def t_Gr_half_ct : ct_L := []
set_option maxRecDepth 100000 in
theorem c_Gr_half {l : Launch} {D : va_G} {kA : Nat → ClassId} : ct_ok PRD l D kA GG y_Gr_half z_Gr_half e_Gr_half := chk_all_ok (FT := [(25, 3, 4)]) (PT := []) (CT := t_Gr_half_ct) (KT := []) (NT := []) (AN := n_Gr_half_an) (OT := [o_Gr_half_0]) 0 200 (List.forall_mem_cons.mpr ⟨oo_Gr_half_0, List.forall_mem_nil _⟩) (by decide +kernel) ⟨List.forall_mem_cons.mpr ⟨gf_Gr_25, List.forall_mem_nil _⟩, List.forall_mem_nil _, List.forall_mem_nil _, List.forall_mem_nil _, List.forall_mem_nil _, GG_pl⟩ (by decide +kernel)
set_option maxHeartbeats 4000000 in
theorem vc_Gr_hasEdge_0_0 (x1 : Int) (x2 : Int) (edges_0 : Int) (k1 : (-2147483648) ≤ x1 ∧ x1 ≤ (-1)) (k2 : 0 ≤ x2 ∧ x2 ≤ 0) (f0 : x1 < 0) (kz_0_1 : 0 ≤ edges_0 ∧ edges_0 ≤ 48) : (x2 = 1) → ((0 ≤ x1) ∧ ((x1 + 1) ≤ edges_0)) := by
  first | assumption | omega | grind
set_option maxHeartbeats 4000000 in
theorem vc_Gr_hasEdge_0_1 (x1 : Int) (x2 : Int) (edges_0 : Int) (k1 : (-2147483648) ≤ x1 ∧ x1 ≤ (-1)) (k2 : 0 ≤ x2 ∧ x2 ≤ 0) (f0 : x1 < 0) (kz_0_1 : 0 ≤ edges_0 ∧ edges_0 ≤ 48) : (x2 = 0) → ((x1 ≤ (-1)) ∨ (edges_0 ≤ x1)) := by
  first | assumption | omega | grind
def o_Gr_hasEdge_0 : or_T := (17, 3, [(0, (2, 0, 0, [3])), (1, (0, -2147483648, -1, [])), (2, (0, 0, 0, []))], [(8, [1], [2])], [], [], [(20, [2, 1, 0], [50, 1, 0, 2001, 4, 6, 1, 2, 1, 0, 0, 1, 2, 6, 0, 2, 0, 0, 1, 1, 0, 6, 4, 2, 1, 1, 0, 1, 2, 2, 1]), (20, [2, 1, 0], [50, 1, 0, 2001, 4, 6, 1, 2, 1, 0, 0, 0, 3, 6, 0, 2, 1, 1, 0, -1, 0, 3, 2, 2, 1, 1, 1])], [], [])
theorem oo_Gr_hasEdge_0 {kA : Nat → ClassId} : or_ok PRD kA GG o_Gr_hasEdge_0 := by
  refine or_mk fun A ta ws vs hD hth hl => ?_
  intro t0 r0 t1 k1 t2 k2 f0
  have kz_0_1 := fdq_30 hD hth r0
  have nf0 : fc_1 PRD (20, [2, 1, 0], [50, 1, 0, 2001, 4, 6, 1, 2, 1, 0, 0, 1, 2, 6, 0, 2, 0, 0, 1, 1, 0, 6, 4, 2, 1, 1, 0, 1, 2, 2, 1]) ws (vs) := ⟨nf_in hl rfl, sgq_378 (vc_Gr_hasEdge_0_0 (v_iv (n_v vs 1)) (v_iv (n_v vs 2)) (w_fi ws (n_v vs 0) 1) k1 k2 (shm_39 f0) kz_0_1)⟩
  have nf1 : fc_1 PRD (20, [2, 1, 0], [50, 1, 0, 2001, 4, 6, 1, 2, 1, 0, 0, 0, 3, 6, 0, 2, 1, 1, 0, -1, 0, 3, 2, 2, 1, 1, 1]) ws (vs) := ⟨nf_in hl rfl, sgq_379 (vc_Gr_hasEdge_0_1 (v_iv (n_v vs 1)) (v_iv (n_v vs 2)) (w_fi ws (n_v vs 0) 1) k1 k2 (shm_39 f0) kz_0_1)⟩
  refine ⟨(fun _ h => (by cases h)), [], trivial, ?_, (fun _ h => (by cases h))⟩
  rw [List.append_nil]
  exact List.forall_mem_cons.mpr ⟨⟨show (20 : Nat) < 100 from by decide, nf0⟩, List.forall_mem_cons.mpr ⟨⟨show (20 : Nat) < 100 from by decide, nf1⟩, (fun _ h => (by cases h))⟩⟩
set_option maxHeartbeats 4000000 in
theorem vc_Gr_hasEdge_1_0 (x1 : Int) (x2 : Int) (x3 : Int) (edges_0 : Int) (k1 : 0 ≤ x1 ∧ x1 ≤ 2147483647) (k2 : 0 ≤ x2 ∧ x2 ≤ 48) (k3 : 0 ≤ x3 ∧ x3 ≤ 0) (d0 : x2 + 0 ≤ x1 ∧ x1 ≤ x2 + 4294967296) (f0 : x2 ≤ x1) (g1 : x2 = edges_0) (f2 : 0 ≤ x1) (kz_0_1 : 0 ≤ edges_0 ∧ edges_0 ≤ 48) : (x3 = 1) → ((0 ≤ x1) ∧ ((x1 + 1) ≤ edges_0)) := by
  first | assumption | omega | grind
set_option maxHeartbeats 4000000 in
theorem vc_Gr_hasEdge_1_1 (x1 : Int) (x2 : Int) (x3 : Int) (edges_0 : Int) (k1 : 0 ≤ x1 ∧ x1 ≤ 2147483647) (k2 : 0 ≤ x2 ∧ x2 ≤ 48) (k3 : 0 ≤ x3 ∧ x3 ≤ 0) (d0 : x2 + 0 ≤ x1 ∧ x1 ≤ x2 + 4294967296) (f0 : x2 ≤ x1) (g1 : x2 = edges_0) (f2 : 0 ≤ x1) (kz_0_1 : 0 ≤ edges_0 ∧ edges_0 ≤ 48) : (x3 = 0) → ((x1 ≤ (-1)) ∨ (edges_0 ≤ x1)) := by
  first | assumption | omega | grind
def o_Gr_hasEdge_1 : or_T := (17, 4, [(0, (2, 0, 0, [3])), (1, (0, 0, 2147483647, [])), (2, (0, 0, 48, [])), (3, (0, 0, 0, []))], [(7, [1, 2], [3]), (9, [2, 0], [1]), (8, [1], [3])], [], [], [(20, [3, 1, 0], [50, 1, 0, 2001, 4, 6, 1, 2, 1, 0, 0, 1, 2, 6, 0, 2, 0, 0, 1, 1, 0, 6, 4, 2, 1, 1, 0, 1, 2, 2, 1]), (20, [3, 1, 0], [50, 1, 0, 2001, 4, 6, 1, 2, 1, 0, 0, 0, 3, 6, 0, 2, 1, 1, 0, -1, 0, 3, 2, 2, 1, 1, 1])], [], [(1, 2, 0, 4294967296)])
theorem oo_Gr_hasEdge_1 {kA : Nat → ClassId} : or_ok PRD kA GG o_Gr_hasEdge_1 := by
  refine or_mk fun A ta ws vs hD hth hl => ?_
  intro t0 r0 t1 k1 t2 k2 t3 k3 d0 f0 f1 f2
  replace f1 := shm_215 f1
  have g1 : v_iv (n_v vs 2) = w_fi ws (n_v vs 0) 1 := congrArg v_iv f1
  have kz_0_1 := fdq_30 hD hth r0
  have nf0 : fc_1 PRD (20, [3, 1, 0], [50, 1, 0, 2001, 4, 6, 1, 2, 1, 0, 0, 1, 2, 6, 0, 2, 0, 0, 1, 1, 0, 6, 4, 2, 1, 1, 0, 1, 2, 2, 1]) ws (vs) := ⟨nf_in hl rfl, sgq_378 (vc_Gr_hasEdge_1_0 (v_iv (n_v vs 1)) (v_iv (n_v vs 2)) (v_iv (n_v vs 3)) (w_fi ws (n_v vs 0) 1) k1 k2 k3 d0 (shm_2 f0) g1 (shm_32 f2) kz_0_1)⟩
  have nf1 : fc_1 PRD (20, [3, 1, 0], [50, 1, 0, 2001, 4, 6, 1, 2, 1, 0, 0, 0, 3, 6, 0, 2, 1, 1, 0, -1, 0, 3, 2, 2, 1, 1, 1]) ws (vs) := ⟨nf_in hl rfl, sgq_379 (vc_Gr_hasEdge_1_1 (v_iv (n_v vs 1)) (v_iv (n_v vs 2)) (v_iv (n_v vs 3)) (w_fi ws (n_v vs 0) 1) k1 k2 k3 d0 (shm_2 f0) g1 (shm_32 f2) kz_0_1)⟩
  refine ⟨(fun _ h => (by cases h)), [], trivial, ?_, (fun _ h => (by cases h))⟩
  rw [List.append_nil]
  exact List.forall_mem_cons.mpr ⟨⟨show (20 : Nat) < 100 from by decide, nf0⟩, List.forall_mem_cons.mpr ⟨⟨show (20 : Nat) < 100 from by decide, nf1⟩, (fun _ h => (by cases h))⟩⟩
set_option maxHeartbeats 4000000 in
theorem vc_Gr_hasEdge_2_0 (x1 : Int) (x2 : Int) (x3 : Int) (edges_0 : Int) (k1 : 0 ≤ x1 ∧ x1 ≤ 47) (k2 : 1 ≤ x2 ∧ x2 ≤ 48) (k3 : 1 ≤ x3 ∧ x3 ≤ 1) (d0 : x2 + (-4294967296) ≤ x1 ∧ x1 ≤ x2 + (-1)) (f0 : x1 < x2) (g1 : x2 = edges_0) (f2 : 0 ≤ x1) (kz_0_1 : 0 ≤ edges_0 ∧ edges_0 ≤ 48) : (x3 = 1) → ((0 ≤ x1) ∧ ((x1 + 1) ≤ edges_0)) := by
  first | assumption | omega | grind
set_option maxHeartbeats 4000000 in
theorem vc_Gr_hasEdge_2_1 (x1 : Int) (x2 : Int) (x3 : Int) (edges_0 : Int) (k1 : 0 ≤ x1 ∧ x1 ≤ 47) (k2 : 1 ≤ x2 ∧ x2 ≤ 48) (k3 : 1 ≤ x3 ∧ x3 ≤ 1) (d0 : x2 + (-4294967296) ≤ x1 ∧ x1 ≤ x2 + (-1)) (f0 : x1 < x2) (g1 : x2 = edges_0) (f2 : 0 ≤ x1) (kz_0_1 : 0 ≤ edges_0 ∧ edges_0 ≤ 48) : (x3 = 0) → ((x1 ≤ (-1)) ∨ (edges_0 ≤ x1)) := by
  first | assumption | omega | grind
def o_Gr_hasEdge_2 : or_T := (17, 4, [(0, (2, 0, 0, [3])), (1, (0, 0, 47, [])), (2, (0, 1, 48, [])), (3, (0, 1, 1, []))], [(7, [1, 2], [2]), (9, [2, 0], [1]), (8, [1], [3])], [], [], [(20, [3, 1, 0], [50, 1, 0, 2001, 4, 6, 1, 2, 1, 0, 0, 1, 2, 6, 0, 2, 0, 0, 1, 1, 0, 6, 4, 2, 1, 1, 0, 1, 2, 2, 1]), (20, [3, 1, 0], [50, 1, 0, 2001, 4, 6, 1, 2, 1, 0, 0, 0, 3, 6, 0, 2, 1, 1, 0, -1, 0, 3, 2, 2, 1, 1, 1])], [], [(1, 2, -4294967296, -1)])
theorem oo_Gr_hasEdge_2 {kA : Nat → ClassId} : or_ok PRD kA GG o_Gr_hasEdge_2 := by
  refine or_mk fun A ta ws vs hD hth hl => ?_
  intro t0 r0 t1 k1 t2 k2 t3 k3 d0 f0 f1 f2
  replace f1 := shm_215 f1
  have g1 : v_iv (n_v vs 2) = w_fi ws (n_v vs 0) 1 := congrArg v_iv f1
  have kz_0_1 := fdq_30 hD hth r0
  have nf0 : fc_1 PRD (20, [3, 1, 0], [50, 1, 0, 2001, 4, 6, 1, 2, 1, 0, 0, 1, 2, 6, 0, 2, 0, 0, 1, 1, 0, 6, 4, 2, 1, 1, 0, 1, 2, 2, 1]) ws (vs) := ⟨nf_in hl rfl, sgq_378 (vc_Gr_hasEdge_2_0 (v_iv (n_v vs 1)) (v_iv (n_v vs 2)) (v_iv (n_v vs 3)) (w_fi ws (n_v vs 0) 1) k1 k2 k3 d0 (shm_6 f0) g1 (shm_32 f2) kz_0_1)⟩
  have nf1 : fc_1 PRD (20, [3, 1, 0], [50, 1, 0, 2001, 4, 6, 1, 2, 1, 0, 0, 0, 3, 6, 0, 2, 1, 1, 0, -1, 0, 3, 2, 2, 1, 1, 1]) ws (vs) := ⟨nf_in hl rfl, sgq_379 (vc_Gr_hasEdge_2_1 (v_iv (n_v vs 1)) (v_iv (n_v vs 2)) (v_iv (n_v vs 3)) (w_fi ws (n_v vs 0) 1) k1 k2 k3 d0 (shm_6 f0) g1 (shm_32 f2) kz_0_1)⟩
  refine ⟨(fun _ h => (by cases h)), [], trivial, ?_, (fun _ h => (by cases h))⟩
  rw [List.append_nil]
  exact List.forall_mem_cons.mpr ⟨⟨show (20 : Nat) < 100 from by decide, nf0⟩, List.forall_mem_cons.mpr ⟨⟨show (20 : Nat) < 100 from by decide, nf1⟩, (fun _ h => (by cases h))⟩⟩
def n_Gr_hasEdge_an : List an_T := []
def t_Gr_hasEdge_ct : ct_L := []
set_option maxRecDepth 100000 in
theorem c_Gr_hasEdge {l : Launch} {D : va_G} {kA : Nat → ClassId} : ct_ok PRD l D kA GG y_Gr_hasEdge z_Gr_hasEdge e_Gr_hasEdge := chk_all_ok (FT := [(15, 3, 1)]) (PT := []) (CT := t_Gr_hasEdge_ct) (KT := []) (NT := []) (AN := n_Gr_hasEdge_an) (OT := [o_Gr_hasEdge_0, o_Gr_hasEdge_1, o_Gr_hasEdge_2]) 0 200 (List.forall_mem_cons.mpr ⟨oo_Gr_hasEdge_0, List.forall_mem_cons.mpr ⟨oo_Gr_hasEdge_1, List.forall_mem_cons.mpr ⟨oo_Gr_hasEdge_2, List.forall_mem_nil _⟩⟩⟩) (by decide +kernel) ⟨List.forall_mem_cons.mpr ⟨gf_Gr_15, List.forall_mem_nil _⟩, List.forall_mem_nil _, List.forall_mem_nil _, List.forall_mem_nil _, List.forall_mem_nil _, GG_pl⟩ (by decide +kernel)
set_option maxHeartbeats 4000000 in
theorem vc_Gr_hasGroup_0_0 (x1 : Int) (x2 : Int) (groups_0 : Int) (k1 : (-2147483648) ≤ x1 ∧ x1 ≤ (-1)) (k2 : 0 ≤ x2 ∧ x2 ≤ 0) (f0 : x1 < 0) (kz_0_2 : 0 ≤ groups_0 ∧ groups_0 ≤ 8) : (x2 = 1) → ((0 ≤ x1) ∧ ((x1 + 1) ≤ groups_0)) := by
  first | assumption | omega | grind
def o_Gr_hasGroup_0 : or_T := (17, 3, [(0, (2, 0, 0, [3])), (1, (0, -2147483648, -1, [])), (2, (0, 0, 0, []))], [(8, [1], [2])], [], [], [(20, [2, 1, 0], [50, 1, 0, 2002, 4, 6, 1, 2, 1, 0, 0, 1, 2, 6, 0, 2, 0, 0, 1, 1, 0, 6, 4, 2, 1, 1, 0, 1, 2, 2, 2])], [], [])
theorem oo_Gr_hasGroup_0 {kA : Nat → ClassId} : or_ok PRD kA GG o_Gr_hasGroup_0 := by
  refine or_mk fun A ta ws vs hD hth hl => ?_
  intro t0 r0 t1 k1 t2 k2 f0
  have kz_0_2 := fdq_20 hD hth r0
  have nf0 : fc_1 PRD (20, [2, 1, 0], [50, 1, 0, 2002, 4, 6, 1, 2, 1, 0, 0, 1, 2, 6, 0, 2, 0, 0, 1, 1, 0, 6, 4, 2, 1, 1, 0, 1, 2, 2, 2]) ws (vs) := ⟨nf_in hl rfl, sgq_380 (vc_Gr_hasGroup_0_0 (v_iv (n_v vs 1)) (v_iv (n_v vs 2)) (w_fi ws (n_v vs 0) 2) k1 k2 (shm_39 f0) kz_0_2)⟩
  refine ⟨(fun _ h => (by cases h)), [], trivial, ?_, (fun _ h => (by cases h))⟩
  rw [List.append_nil]
  exact List.forall_mem_cons.mpr ⟨⟨show (20 : Nat) < 100 from by decide, nf0⟩, (fun _ h => (by cases h))⟩
set_option maxHeartbeats 4000000 in
theorem vc_Gr_hasGroup_1_0 (x1 : Int) (x2 : Int) (x3 : Int) (groups_0 : Int) (k1 : 0 ≤ x1 ∧ x1 ≤ 2147483647) (k2 : 0 ≤ x2 ∧ x2 ≤ 8) (k3 : 0 ≤ x3 ∧ x3 ≤ 0) (d0 : x2 + 0 ≤ x1 ∧ x1 ≤ x2 + 4294967296) (f0 : x2 ≤ x1) (g1 : x2 = groups_0) (f2 : 0 ≤ x1) (kz_0_2 : 0 ≤ groups_0 ∧ groups_0 ≤ 8) : (x3 = 1) → ((0 ≤ x1) ∧ ((x1 + 1) ≤ groups_0)) := by
  first | assumption | omega | grind
def o_Gr_hasGroup_1 : or_T := (17, 4, [(0, (2, 0, 0, [3])), (1, (0, 0, 2147483647, [])), (2, (0, 0, 8, [])), (3, (0, 0, 0, []))], [(7, [1, 2], [3]), (9, [2, 0], [2]), (8, [1], [3])], [], [], [(20, [3, 1, 0], [50, 1, 0, 2002, 4, 6, 1, 2, 1, 0, 0, 1, 2, 6, 0, 2, 0, 0, 1, 1, 0, 6, 4, 2, 1, 1, 0, 1, 2, 2, 2])], [], [(1, 2, 0, 4294967296)])
theorem oo_Gr_hasGroup_1 {kA : Nat → ClassId} : or_ok PRD kA GG o_Gr_hasGroup_1 := by
  refine or_mk fun A ta ws vs hD hth hl => ?_
  intro t0 r0 t1 k1 t2 k2 t3 k3 d0 f0 f1 f2
  replace f1 := shm_120 f1
  have g1 : v_iv (n_v vs 2) = w_fi ws (n_v vs 0) 2 := congrArg v_iv f1
  have kz_0_2 := fdq_20 hD hth r0
  have nf0 : fc_1 PRD (20, [3, 1, 0], [50, 1, 0, 2002, 4, 6, 1, 2, 1, 0, 0, 1, 2, 6, 0, 2, 0, 0, 1, 1, 0, 6, 4, 2, 1, 1, 0, 1, 2, 2, 2]) ws (vs) := ⟨nf_in hl rfl, sgq_380 (vc_Gr_hasGroup_1_0 (v_iv (n_v vs 1)) (v_iv (n_v vs 2)) (v_iv (n_v vs 3)) (w_fi ws (n_v vs 0) 2) k1 k2 k3 d0 (shm_2 f0) g1 (shm_32 f2) kz_0_2)⟩
  refine ⟨(fun _ h => (by cases h)), [], trivial, ?_, (fun _ h => (by cases h))⟩
  rw [List.append_nil]
  exact List.forall_mem_cons.mpr ⟨⟨show (20 : Nat) < 100 from by decide, nf0⟩, (fun _ h => (by cases h))⟩
set_option maxHeartbeats 4000000 in
theorem vc_Gr_hasGroup_2_0 (x1 : Int) (x2 : Int) (x3 : Int) (groups_0 : Int) (k1 : 0 ≤ x1 ∧ x1 ≤ 7) (k2 : 1 ≤ x2 ∧ x2 ≤ 8) (k3 : 1 ≤ x3 ∧ x3 ≤ 1) (d0 : x2 + (-4294967296) ≤ x1 ∧ x1 ≤ x2 + (-1)) (f0 : x1 < x2) (g1 : x2 = groups_0) (f2 : 0 ≤ x1) (kz_0_2 : 0 ≤ groups_0 ∧ groups_0 ≤ 8) : (x3 = 1) → ((0 ≤ x1) ∧ ((x1 + 1) ≤ groups_0)) := by
  first | assumption | omega | grind
def o_Gr_hasGroup_2 : or_T := (17, 4, [(0, (2, 0, 0, [3])), (1, (0, 0, 7, [])), (2, (0, 1, 8, [])), (3, (0, 1, 1, []))], [(7, [1, 2], [2]), (9, [2, 0], [2]), (8, [1], [3])], [], [], [(20, [3, 1, 0], [50, 1, 0, 2002, 4, 6, 1, 2, 1, 0, 0, 1, 2, 6, 0, 2, 0, 0, 1, 1, 0, 6, 4, 2, 1, 1, 0, 1, 2, 2, 2])], [], [(1, 2, -4294967296, -1)])
theorem oo_Gr_hasGroup_2 {kA : Nat → ClassId} : or_ok PRD kA GG o_Gr_hasGroup_2 := by
  refine or_mk fun A ta ws vs hD hth hl => ?_
  intro t0 r0 t1 k1 t2 k2 t3 k3 d0 f0 f1 f2
  replace f1 := shm_120 f1
  have g1 : v_iv (n_v vs 2) = w_fi ws (n_v vs 0) 2 := congrArg v_iv f1
  have kz_0_2 := fdq_20 hD hth r0
  have nf0 : fc_1 PRD (20, [3, 1, 0], [50, 1, 0, 2002, 4, 6, 1, 2, 1, 0, 0, 1, 2, 6, 0, 2, 0, 0, 1, 1, 0, 6, 4, 2, 1, 1, 0, 1, 2, 2, 2]) ws (vs) := ⟨nf_in hl rfl, sgq_380 (vc_Gr_hasGroup_2_0 (v_iv (n_v vs 1)) (v_iv (n_v vs 2)) (v_iv (n_v vs 3)) (w_fi ws (n_v vs 0) 2) k1 k2 k3 d0 (shm_6 f0) g1 (shm_32 f2) kz_0_2)⟩
  refine ⟨(fun _ h => (by cases h)), [], trivial, ?_, (fun _ h => (by cases h))⟩
  rw [List.append_nil]
  exact List.forall_mem_cons.mpr ⟨⟨show (20 : Nat) < 100 from by decide, nf0⟩, (fun _ h => (by cases h))⟩
def n_Gr_hasGroup_an : List an_T := []
def t_Gr_hasGroup_ct : ct_L := []
set_option maxRecDepth 100000 in
theorem c_Gr_hasGroup {l : Launch} {D : va_G} {kA : Nat → ClassId} : ct_ok PRD l D kA GG y_Gr_hasGroup z_Gr_hasGroup e_Gr_hasGroup := chk_all_ok (FT := [(18, 3, 2)]) (PT := []) (CT := t_Gr_hasGroup_ct) (KT := []) (NT := []) (AN := n_Gr_hasGroup_an) (OT := [o_Gr_hasGroup_0, o_Gr_hasGroup_1, o_Gr_hasGroup_2]) 0 200 (List.forall_mem_cons.mpr ⟨oo_Gr_hasGroup_0, List.forall_mem_cons.mpr ⟨oo_Gr_hasGroup_1, List.forall_mem_cons.mpr ⟨oo_Gr_hasGroup_2, List.forall_mem_nil _⟩⟩⟩) (by decide +kernel) ⟨List.forall_mem_cons.mpr ⟨gf_Gr_18, List.forall_mem_nil _⟩, List.forall_mem_nil _, List.forall_mem_nil _, List.forall_mem_nil _, List.forall_mem_nil _, GG_pl⟩ (by decide +kernel)
set_option maxHeartbeats 4000000 in
theorem vc_Gr_hasLetters_at_Gq_Retape_0_0 (x1 : Int) (x3 : Int) (x6 : Int) (nameLength_0 : Int → Int) (a2_0 : Int → Int) (a4_0 : Int → Int) (k1 : 0 ≤ x1 ∧ x1 ≤ 23) (k3 : 0 ≤ x3 ∧ x3 ≤ 2000) (k6 : 0 ≤ x6 ∧ x6 ≤ 0) : HLI (nameLength_0) (a4_0) (a2_0) (x1) (x3) (x6) := by
  first
    | exact hli_0 (by omega)
    | exact hli_s (a := x16) (b := x18) ‹HLI _ _ _ _ _ _› (by omega) (by omega) (by omega) (by omega)
def o_Gr_hasLetters_at_Gq_Retape_0 : or_T := (3, 7, [(1, (0, 0, 23, [])), (3, (0, 0, 2000, [])), (6, (0, 0, 0, []))], [(9, [5, 0], [4])], [], [], [(20, [5, 4, 2, 1, 3, 6], [61, 3, 1089]), (24, [5, 5], []), (24, [4, 4], []), (24, [0, 0], []), (24, [1, 1], []), (24, [2, 2], []), (24, [3, 3], [])], [], [])
theorem oo_Gr_hasLetters_at_Gq_Retape_0 {kA : Nat → ClassId} : or_ok PRD kA GG o_Gr_hasLetters_at_Gq_Retape_0 := by
  refine or_mk fun A ta ws vs hD hth hl => ?_
  intro t1 k1 t3 k3 t6 k6 f0
  replace f0 := shm_108 f0
  have ad_5 : v_ad (n_v vs 5) = w_ar ws (n_v vs 0) 4 := congrArg v_ad f0
  have nf0 : fc_1 PRD (20, [5, 4, 2, 1, 3, 6], [61, 3, 1089]) ws (vs) := by
    refine ⟨nf_in hl rfl, sgq_382 ?_⟩
    · show HLI (w_ei ws (v_ad (n_v vs 5))) (w_ei ws (v_ad (n_v vs 4))) (w_ei ws (v_ad (n_v vs 2))) (v_iv (n_v vs 1)) (v_iv (n_v vs 3)) (v_iv (n_v vs 6))
      rw [ad_5]
      exact vc_Gr_hasLetters_at_Gq_Retape_0_0 (v_iv (n_v vs 1)) (v_iv (n_v vs 3)) (v_iv (n_v vs 6)) (w_ei ws (w_ar ws (n_v vs 0) 4)) (w_ei ws (v_ad (n_v vs 2))) (w_ei ws (v_ad (n_v vs 4))) k1 k3 k6
  have nf1 : fc_1 PRD (24, [5, 5], []) ws (vs) := by
    refine ⟨nf_in hl rfl, sgq_1 ?_⟩
    · show n_v vs 5 = n_v vs 5
      first | rfl | simp only [true_and]
  have nf2 : fc_1 PRD (24, [4, 4], []) ws (vs) := by
    refine ⟨nf_in hl rfl, sgq_1 ?_⟩
    · show n_v vs 4 = n_v vs 4
      first | rfl | simp only [true_and]
  have nf3 : fc_1 PRD (24, [0, 0], []) ws (vs) := by
    refine ⟨nf_in hl rfl, sgq_1 ?_⟩
    · show n_v vs 0 = n_v vs 0
      first | rfl | simp only [true_and]
  have nf4 : fc_1 PRD (24, [1, 1], []) ws (vs) := by
    refine ⟨nf_in hl rfl, sgq_1 ?_⟩
    · show n_v vs 1 = n_v vs 1
      first | rfl | simp only [true_and]
  have nf5 : fc_1 PRD (24, [2, 2], []) ws (vs) := by
    refine ⟨nf_in hl rfl, sgq_1 ?_⟩
    · show n_v vs 2 = n_v vs 2
      first | rfl | simp only [true_and]
  have nf6 : fc_1 PRD (24, [3, 3], []) ws (vs) := by
    refine ⟨nf_in hl rfl, sgq_1 ?_⟩
    · show n_v vs 3 = n_v vs 3
      first | rfl | simp only [true_and]
  refine ⟨(fun _ h => (by cases h)), [], trivial, ?_, (fun _ h => (by cases h))⟩
  rw [List.append_nil]
  exact List.forall_mem_cons.mpr ⟨⟨show (20 : Nat) < 100 from by decide, nf0⟩, List.forall_mem_cons.mpr ⟨⟨show (24 : Nat) < 100 from by decide, nf1⟩, List.forall_mem_cons.mpr ⟨⟨show (24 : Nat) < 100 from by decide, nf2⟩, List.forall_mem_cons.mpr ⟨⟨show (24 : Nat) < 100 from by decide, nf3⟩, List.forall_mem_cons.mpr ⟨⟨show (24 : Nat) < 100 from by decide, nf4⟩, List.forall_mem_cons.mpr ⟨⟨show (24 : Nat) < 100 from by decide, nf5⟩, List.forall_mem_cons.mpr ⟨⟨show (24 : Nat) < 100 from by decide, nf6⟩, (fun _ h => (by cases h))⟩⟩⟩⟩⟩⟩⟩
set_option maxHeartbeats 4000000 in
theorem vc_Gr_hasLetters_at_Gq_Retape_1_0 (x1 : Int) (x3 : Int) (x10 : Int) (x13 : Int) (x14 : Int) (nameLength_0 : Int → Int) (a4_0 : Int → Int) (a2_0 : Int → Int) (k1 : 0 ≤ x1 ∧ x1 ≤ 23) (k3 : 0 ≤ x3 ∧ x3 ≤ 2000) (k10 : 0 ≤ x10 ∧ x10 ≤ 8) (k13 : 0 ≤ x13 ∧ x13 ≤ 8) (k14 : 1 ≤ x14 ∧ x14 ≤ 1) (d0 : x13 + 0 ≤ x10 ∧ x10 ≤ x13 + 4294967296) (h1 : x13 = nameLength_0 (x1)) (f4 : HLI (nameLength_0) (a4_0) (a2_0) (x1) (x3) (x10)) : HLQ (nameLength_0) (a4_0) (a2_0) (x1) (x3) (x14) := by
  first
    | exact hlq_t ‹HLI _ _ _ _ _ _› (by omega) (by omega)
    | exact hlq_f (a := x16) (b := x18) ‹HLI _ _ _ _ _ _› (by omega) (by omega) (by omega) (by omega) (by omega)
def o_Gr_hasLetters_at_Gq_Retape_1 : or_T := (44, 15, [(1, (0, 0, 23, [])), (3, (0, 0, 2000, [])), (10, (0, 0, 8, [])), (13, (0, 0, 8, [])), (14, (0, 1, 1, []))], [(10, [13, 12, 7], []), (9, [12, 6], [4]), (20, [12, 11, 8, 7, 9, 10], [61, 3, 1089]), (24, [5, 12], []), (24, [4, 11], []), (24, [0, 6], []), (24, [1, 7], []), (24, [2, 8], []), (24, [3, 9], [])], [], [], [(20, [5, 4, 2, 1, 3, 14], [61, 3, 1088])], [], [(10, 13, 0, 4294967296)])
theorem oo_Gr_hasLetters_at_Gq_Retape_1 {kA : Nat → ClassId} : or_ok PRD kA GG o_Gr_hasLetters_at_Gq_Retape_1 := by
  refine or_mk fun A ta ws vs hD hth hl => ?_
  intro t1 k1 t3 k3 t10 k10 t13 k13 t14 k14 d0 f1 f2 f4 f5 f6 f7 f8 f9 f10
  replace f1 := shm_107 f1
  replace f2 := shm_108 f2
  replace f4 := shm_382 f4
  replace f5 := shm_5 f5
  replace f6 := shm_5 f6
  replace f7 := shm_5 f7
  replace f8 := shm_5 f8
  replace f9 := shm_5 f9
  replace f10 := shm_5 f10
  have q12 : n_v vs 12 = n_v vs 5 := f5.symm
  have q11 : n_v vs 11 = n_v vs 4 := f6.symm
  have q6 : n_v vs 6 = n_v vs 0 := f7.symm
  have q7 : n_v vs 7 = n_v vs 1 := f8.symm
  have q8 : n_v vs 8 = n_v vs 2 := f9.symm
  have q9 : n_v vs 9 = n_v vs 3 := f10.symm
  simp only [q12, q7, q6, q9, q11, q8] at f1 f2 f4
  have ad_5 : v_ad (n_v vs 5) = w_ar ws (n_v vs 0) 4 := congrArg v_ad f2
  simp only [ad_5] at f1
  have h1 : v_iv (n_v vs 13) = w_ei ws (w_ar ws (n_v vs 0) 4) (v_iv (n_v vs 1)) := f1
  simp only [ad_5] at f4
  have nf0 : fc_1 PRD (20, [5, 4, 2, 1, 3, 14], [61, 3, 1088]) ws (vs) := by
    refine ⟨nf_in hl rfl, sgq_383 ?_⟩
    · show HLQ (w_ei ws (v_ad (n_v vs 5))) (w_ei ws (v_ad (n_v vs 4))) (w_ei ws (v_ad (n_v vs 2))) (v_iv (n_v vs 1)) (v_iv (n_v vs 3)) (v_iv (n_v vs 14))
      rw [ad_5]
      exact vc_Gr_hasLetters_at_Gq_Retape_1_0 (v_iv (n_v vs 1)) (v_iv (n_v vs 3)) (v_iv (n_v vs 10)) (v_iv (n_v vs 13)) (v_iv (n_v vs 14)) (w_ei ws (w_ar ws (n_v vs 0) 4)) (w_ei ws (v_ad (n_v vs 4))) (w_ei ws (v_ad (n_v vs 2))) k1 k3 k10 k13 k14 d0 h1 f4
  refine ⟨(fun _ h => (by cases h)), [], trivial, ?_, (fun _ h => (by cases h))⟩
  rw [List.append_nil]
  exact List.forall_mem_cons.mpr ⟨⟨show (20 : Nat) < 100 from by decide, nf0⟩, (fun _ h => (by cases h))⟩
set_option maxHeartbeats 4000000 in
theorem vc_Gr_hasLetters_at_Gq_Retape_2_r0 (x1 : Int) (x3 : Int) (x9 : Int) (x10 : Int) (x13 : Int) (x18 : Int) (nameLength_0 : Int → Int) (a4_0 : Int → Int) (a2_0 : Int → Int) (k1 : 0 ≤ x1 ∧ x1 ≤ 23) (k3 : 0 ≤ x3 ∧ x3 ≤ 2000) (k9 : 0 ≤ x9 ∧ x9 ≤ 2000) (k10 : 0 ≤ x10 ∧ x10 ≤ 7) (k13 : 1 ≤ x13 ∧ x13 ≤ 8) (k18 : 0 ≤ x18 ∧ x18 ≤ 2007) (d4 : x13 + (-4294967296) ≤ x10 ∧ x10 ≤ x13 + (-1)) (d6 : x9 + (-4294967296) ≤ x3 ∧ x3 ≤ x9 + 0) (d8 : x3 + (-4294967296) ≤ x9 ∧ x9 ≤ x3 + 0) (f0 : x18 = x3 + x10) (h2 : x13 = nameLength_0 (x1)) (f4 : 1 * nameLength_0 (x1) + (1 * x3 + 0) ≤ 2000) (hK_0_4 : ∀ j : Int, 0 ≤ j → j < 24 → 0 ≤ nameLength_0 j ∧ nameLength_0 j ≤ 8) (hK_2_999 : ∀ j : Int, 0 ≤ j → j < 2000 → (-128) ≤ a2_0 j ∧ a2_0 j ≤ 127) (hK_4_999 : ∀ j : Int, 0 ≤ j → j < 192 → (-128) ≤ a4_0 j ∧ a4_0 j ≤ 127) : 0 ≤ x18 ∧ x18 ≤ 1999 := by
  first | with_reducible assumption | ((try and_intros) <;> first | with_reducible assumption | (clear hK_0_4 hK_2_999 hK_4_999; omega)) | omega
def o_Gr_hasLetters_at_Gq_Retape_2 : or_T := (31, 19, [(0, (2, 0, 0, [164])), (1, (0, 0, 23, [])), (2, (2, 0, 0, [109])), (3, (0, 0, 2000, [])), (4, (2, 0, 0, [150])), (5, (2, 0, 0, [151])), (6, (2, 0, 0, [164])), (7, (0, 0, 23, [])), (8, (2, 0, 0, [109])), (9, (0, 0, 2000, [])), (10, (0, 0, 7, [])), (11, (2, 0, 0, [150])), (12, (2, 0, 0, [151])), (13, (0, 1, 8, [])), (18, (0, 0, 2007, []))], [(1, [18, 9, 10], []), (7, [10, 13], [2]), (10, [13, 12, 7], []), (9, [12, 6], [4]), (20, [6, 7, 9], [30, 2000, 1, 2, 4, 1, 0, 0]), (20, [12, 11, 8, 7, 9, 10], [61, 3, 1089]), (24, [5, 12], []), (24, [4, 11], []), (24, [0, 6], []), (24, [1, 7], []), (24, [2, 8], []), (24, [3, 9], [])], [(18, (0, 0, 1999, []))], [], [], [], [(18, 10, 0, 2000), (18, 13, -4294967296, 1999), (18, 9, 0, 7), (18, 3, -4294967296, 7), (10, 13, -4294967296, -1), (1, 7, -4294967296, 0), (3, 9, -4294967296, 0), (7, 1, -4294967296, 0), (9, 3, -4294967296, 0)])
theorem oo_Gr_hasLetters_at_Gq_Retape_2 {kA : Nat → ClassId} : or_ok PRD kA GG o_Gr_hasLetters_at_Gq_Retape_2 := by
  refine or_mk fun A ta ws vs hD hth hl => ?_
  intro t0 r0 t1 k1 t2 r2 t3 k3 t4 r4 t5 r5 t6 r6 t7 k7 t8 r8 t9 k9 t10 k10 t11 r11 t12 r12 t13 k13 t18 k18 d0 d1 d2 d3 d4 d5 d6 d7 d8 f0 f1 f2 f3 f4 f5 f6 f7 f8 f9 f10 f11
  replace f0 := shm_12 f0
  replace f2 := shm_107 f2
  replace f3 := shm_108 f3
  replace f4 := shm_381 f4
  replace f6 := shm_5 f6
  replace f8 := shm_5 f8
  replace f9 := shm_5 f9
  replace f11 := shm_5 f11
  have q12 : n_v vs 12 = n_v vs 5 := f6.symm
  have q6 : n_v vs 6 = n_v vs 0 := f8.symm
  have q7 : n_v vs 7 = n_v vs 1 := f9.symm
  have q9 : n_v vs 9 = n_v vs 3 := f11.symm
  simp only [q9, q12, q7, q6] at f0 f2 f3 f4
  have cr_0_4 := fdq_67 hD hth r0
  have cr_2_999 : ta (v_ad (n_v vs 2)) = some 109 := r2
  have cr_4_999 : ta (v_ad (n_v vs 4)) = some 150 := r4
  have ad_5 : v_ad (n_v vs 5) = w_ar ws (n_v vs 0) 4 := congrArg v_ad f3
  simp only [ad_5] at f2
  have h2 : v_iv (n_v vs 13) = w_ei ws (w_ar ws (n_v vs 0) 4) (v_iv (n_v vs 1)) := f2
  have hK_0_4 := elq_32 hD hth cr_0_4
  have hK_2_999 := elq_33 hD hth cr_2_999
  have hK_4_999 := elq_34 hD hth cr_4_999
  have hrf0 : 0 ≤ v_iv (n_v vs 18) ∧ v_iv (n_v vs 18) ≤ 1999 := vc_Gr_hasLetters_at_Gq_Retape_2_r0 (v_iv (n_v vs 1)) (v_iv (n_v vs 3)) (v_iv (n_v vs 9)) (v_iv (n_v vs 10)) (v_iv (n_v vs 13)) (v_iv (n_v vs 18)) (w_ei ws (w_ar ws (n_v vs 0) 4)) (w_ei ws (v_ad (n_v vs 4))) (w_ei ws (v_ad (n_v vs 2))) k1 k3 k9 k10 k13 k18 d4 d6 d8 f0 h2 f4 hK_0_4 hK_2_999 hK_4_999
  have rf18 : tv_ok ta (0, 0, 1999, []) (n_v vs 18) := tv_in t18 (by first | omega | grind) (by first | omega | grind)
  refine ⟨List.forall_mem_cons.mpr ⟨rf18, (fun _ h => (by cases h))⟩, [], trivial, ?_, (fun _ h => (by cases h))⟩
  rw [List.append_nil]
  exact (fun _ h => (by cases h))
set_option maxHeartbeats 4000000 in
theorem vc_Gr_hasLetters_at_Gq_Retape_3_0 (x1 : Int) (x3 : Int) (x7 : Int) (x10 : Int) (x15 : Int) (x16 : Int) (x17 : Int) (x18 : Int) (x19 : Int) (x20 : Int) (a2_0 : Int → Int) (name_0 : Int → Int) (nameLength_0 : Int → Int) (k1 : 0 ≤ x1 ∧ x1 ≤ 23) (k3 : 0 ≤ x3 ∧ x3 ≤ 2000) (k7 : 0 ≤ x7 ∧ x7 ≤ 23) (k10 : 0 ≤ x10 ∧ x10 ≤ 7) (k15 : 0 ≤ x15 ∧ x15 ≤ 184) (k16 : 0 ≤ x16 ∧ x16 ≤ 191) (k17 : (-128) ≤ x17 ∧ x17 ≤ 127) (k18 : 0 ≤ x18 ∧ x18 ≤ 1999) (k19 : (-128) ≤ x19 ∧ x19 ≤ 127) (k20 : 1 ≤ x20 ∧ x20 ≤ 8) (d0 : x10 + 1 ≤ x20 ∧ x20 ≤ x10 + 1) (d2 : x19 + 0 ≤ x17 ∧ x17 ≤ x19 + 0) (d10 : x7 + (-4294967296) ≤ x1 ∧ x1 ≤ x7 + 0) (d12 : x1 + (-4294967296) ≤ x7 ∧ x7 ≤ x1 + 0) (f0 : x20 = x10 + 1) (h2 : x19 = a2_0 (x18)) (f3 : x18 = x3 + x10) (h4 : x17 = name_0 (x16)) (f5 : x16 = x15 + x10) (f6 : x15 = x1 * 8) (f12 : HLI (nameLength_0) (name_0) (a2_0) (x1) (x3) (x10)) : HLI (nameLength_0) (name_0) (a2_0) (x1) (x3) (x20) := by
  first
    | exact hli_0 (by omega)
    | exact hli_s (a := x16) (b := x18) ‹HLI _ _ _ _ _ _› (by omega) (by omega) (by omega) (by omega)
def o_Gr_hasLetters_at_Gq_Retape_3 : or_T := (3, 21, [(1, (0, 0, 23, [])), (3, (0, 0, 2000, [])), (7, (0, 0, 23, [])), (10, (0, 0, 7, [])), (14, (0, 8, 8, [])), (15, (0, 0, 184, [])), (16, (0, 0, 191, [])), (17, (0, -128, 127, [])), (18, (0, 0, 1999, [])), (19, (0, -128, 127, [])), (20, (0, 1, 8, []))], [(6, [20, 10], [1]), (10, [19, 8, 18], []), (1, [18, 9, 10], []), (10, [17, 11, 16], []), (1, [16, 15, 10], []), (3, [15, 7, 14], []), (9, [11, 6], [3]), (9, [12, 6], [4]), (20, [12, 11, 8, 7, 9, 10], [61, 3, 1089]), (24, [5, 12], []), (24, [4, 11], []), (24, [0, 6], []), (24, [1, 7], []), (24, [2, 8], []), (24, [3, 9], [])], [], [], [(20, [12, 11, 8, 7, 9, 20], [61, 3, 1089])], [], [(20, 10, 1, 1), (17, 19, 0, 0), (1, 7, -4294967296, 0), (7, 1, -4294967296, 0)])
theorem oo_Gr_hasLetters_at_Gq_Retape_3 {kA : Nat → ClassId} : or_ok PRD kA GG o_Gr_hasLetters_at_Gq_Retape_3 := by
  refine or_mk fun A ta ws vs hD hth hl => ?_
  intro t1 k1 t3 k3 t7 k7 t10 k10 t14 k14 t15 k15 t16 k16 t17 k17 t18 k18 t19 k19 t20 k20 d0 d2 d10 d12 f0 f2 f3 f4 f5 f6 f7 f10 f12 f13 f14 f15 f16 f17 f18
  replace f0 := shm_4 f0
  replace f2 := shm_107 f2
  replace f3 := shm_12 f3
  replace f4 := shm_107 f4
  replace f5 := shm_12 f5
  replace f6 := shm_38 f6
  rw [show v_iv (n_v vs 14) = 8 from by omega] at f6
  replace f7 := shm_137 f7
  replace f10 := shm_108 f10
  replace f12 := shm_382 f12
  replace f13 := shm_5 f13
  replace f14 := shm_5 f14
  replace f15 := shm_5 f15
  replace f16 := shm_5 f16
  replace f17 := shm_5 f17
  replace f18 := shm_5 f18
  have q12 : n_v vs 12 = n_v vs 5 := f13.symm
  have q11 : n_v vs 11 = n_v vs 4 := f14.symm
  have q6 : n_v vs 6 = n_v vs 0 := f15.symm
  have q7 : n_v vs 7 = n_v vs 1 := f16.symm
  have q8 : n_v vs 8 = n_v vs 2 := f17.symm
  have q9 : n_v vs 9 = n_v vs 3 := f18.symm
  simp only [q8, q9, q11, q7, q6, q12] at f2 f3 f4 f6 f7 f10 f12
  have ad_4 : v_ad (n_v vs 4) = w_ar ws (n_v vs 0) 3 := congrArg v_ad f7
  have ad_5 : v_ad (n_v vs 5) = w_ar ws (n_v vs 0) 4 := congrArg v_ad f10
  have h2 : v_iv (n_v vs 19) = w_ei ws (v_ad (n_v vs 2)) (v_iv (n_v vs 18)) := f2
  simp only [ad_4] at f4
  have h4 : v_iv (n_v vs 17) = w_ei ws (w_ar ws (n_v vs 0) 3) (v_iv (n_v vs 16)) := f4
  simp only [ad_4, ad_5] at f12
  have nf0 : fc_1 PRD (20, [12, 11, 8, 7, 9, 20], [61, 3, 1089]) ws (vs) := by
    refine ⟨nf_in hl rfl, sgq_382 ?_⟩
    · show HLI (w_ei ws (v_ad (n_v vs 12))) (w_ei ws (v_ad (n_v vs 11))) (w_ei ws (v_ad (n_v vs 8))) (v_iv (n_v vs 7)) (v_iv (n_v vs 9)) (v_iv (n_v vs 20))
      simp only [q12, q11, q7, q8, q9, ad_4, ad_5]
      exact vc_Gr_hasLetters_at_Gq_Retape_3_0 (v_iv (n_v vs 1)) (v_iv (n_v vs 3)) (v_iv (n_v vs 7)) (v_iv (n_v vs 10)) (v_iv (n_v vs 15)) (v_iv (n_v vs 16)) (v_iv (n_v vs 17)) (v_iv (n_v vs 18)) (v_iv (n_v vs 19)) (v_iv (n_v vs 20)) (w_ei ws (v_ad (n_v vs 2))) (w_ei ws (w_ar ws (n_v vs 0) 3)) (w_ei ws (w_ar ws (n_v vs 0) 4)) k1 k3 k7 k10 k15 k16 k17 k18 k19 k20 d0 d2 d10 d12 f0 h2 f3 h4 f5 f6 f12
  refine ⟨(fun _ h => (by cases h)), [], trivial, ?_, (fun _ h => (by cases h))⟩
  rw [List.append_nil]
  exact List.forall_mem_cons.mpr ⟨⟨show (20 : Nat) < 100 from by decide, nf0⟩, (fun _ h => (by cases h))⟩
set_option maxHeartbeats 4000000 in
theorem vc_Gr_hasLetters_at_Gq_Retape_4_0 (x1 : Int) (x3 : Int) (x7 : Int) (x10 : Int) (x13 : Int) (x15 : Int) (x16 : Int) (x17 : Int) (x18 : Int) (x19 : Int) (x20 : Int) (a2_0 : Int → Int) (name_0 : Int → Int) (nameLength_0 : Int → Int) (k1 : 0 ≤ x1 ∧ x1 ≤ 23) (k3 : 0 ≤ x3 ∧ x3 ≤ 2000) (k7 : 0 ≤ x7 ∧ x7 ≤ 23) (k10 : 0 ≤ x10 ∧ x10 ≤ 7) (k13 : 1 ≤ x13 ∧ x13 ≤ 8) (k15 : 0 ≤ x15 ∧ x15 ≤ 184) (k16 : 0 ≤ x16 ∧ x16 ≤ 191) (k17 : (-128) ≤ x17 ∧ x17 ≤ 127) (k18 : 0 ≤ x18 ∧ x18 ≤ 1999) (k19 : (-128) ≤ x19 ∧ x19 ≤ 127) (k20 : 0 ≤ x20 ∧ x20 ≤ 0) (d6 : x13 + (-4294967296) ≤ x10 ∧ x10 ≤ x13 + (-1)) (d7 : x7 + (-4294967296) ≤ x1 ∧ x1 ≤ x7 + 0) (d9 : x1 + (-4294967296) ≤ x7 ∧ x7 ≤ x1 + 0) (f0 : x17 ≠ x19) (h1 : x19 = a2_0 (x18)) (f2 : x18 = x3 + x10) (h3 : x17 = name_0 (x16)) (f4 : x16 = x15 + x10) (f5 : x15 = x1 * 8) (h8 : x13 = nameLength_0 (x1)) (f11 : HLI (nameLength_0) (name_0) (a2_0) (x1) (x3) (x10)) : HLQ (nameLength_0) (name_0) (a2_0) (x1) (x3) (x20) := by
  first
    | exact hlq_t ‹HLI _ _ _ _ _ _› (by omega) (by omega)
    | exact hlq_f (a := x16) (b := x18) ‹HLI _ _ _ _ _ _› (by omega) (by omega) (by omega) (by omega) (by omega)
def o_Gr_hasLetters_at_Gq_Retape_4 : or_T := (36, 21, [(1, (0, 0, 23, [])), (3, (0, 0, 2000, [])), (7, (0, 0, 23, [])), (10, (0, 0, 7, [])), (13, (0, 1, 8, [])), (14, (0, 8, 8, [])), (15, (0, 0, 184, [])), (16, (0, 0, 191, [])), (17, (0, -128, 127, [])), (18, (0, 0, 1999, [])), (19, (0, -128, 127, [])), (20, (0, 0, 0, []))], [(7, [17, 19], [1]), (10, [19, 8, 18], []), (1, [18, 9, 10], []), (10, [17, 11, 16], []), (1, [16, 15, 10], []), (3, [15, 7, 14], []), (9, [11, 6], [3]), (10, [13, 12, 7], []), (9, [12, 6], [4]), (20, [12, 11, 8, 7, 9, 10], [61, 3, 1089]), (24, [5, 12], []), (24, [4, 11], []), (24, [0, 6], []), (24, [1, 7], []), (24, [2, 8], []), (24, [3, 9], [])], [], [], [(20, [5, 4, 2, 1, 3, 20], [61, 3, 1088])], [], [(10, 13, -4294967296, -1), (1, 7, -4294967296, 0), (7, 1, -4294967296, 0)])
theorem oo_Gr_hasLetters_at_Gq_Retape_4 {kA : Nat → ClassId} : or_ok PRD kA GG o_Gr_hasLetters_at_Gq_Retape_4 := by
  refine or_mk fun A ta ws vs hD hth hl => ?_
  intro t1 k1 t3 k3 t7 k7 t10 k10 t13 k13 t14 k14 t15 k15 t16 k16 t17 k17 t18 k18 t19 k19 t20 k20 d6 d7 d9 f0 f1 f2 f3 f4 f5 f6 f8 f9 f11 f12 f13 f14 f15 f16 f17
  replace f0 := shm_40 f0
  replace f1 := shm_107 f1
  replace f2 := shm_12 f2
  replace f3 := shm_107 f3
  replace f4 := shm_12 f4
  replace f5 := shm_38 f5
  rw [show v_iv (n_v vs 14) = 8 from by omega] at f5
  replace f6 := shm_137 f6
  replace f8 := shm_107 f8
  replace f9 := shm_108 f9
  replace f11 := shm_382 f11
  replace f12 := shm_5 f12
  replace f13 := shm_5 f13
  replace f14 := shm_5 f14
  replace f15 := shm_5 f15
  replace f16 := shm_5 f16
  replace f17 := shm_5 f17
  have q12 : n_v vs 12 = n_v vs 5 := f12.symm
  have q11 : n_v vs 11 = n_v vs 4 := f13.symm
  have q6 : n_v vs 6 = n_v vs 0 := f14.symm
  have q7 : n_v vs 7 = n_v vs 1 := f15.symm
  have q8 : n_v vs 8 = n_v vs 2 := f16.symm
  have q9 : n_v vs 9 = n_v vs 3 := f17.symm
  simp only [q8, q9, q11, q7, q6, q12] at f1 f2 f3 f5 f6 f8 f9 f11
  have ad_4 : v_ad (n_v vs 4) = w_ar ws (n_v vs 0) 3 := congrArg v_ad f6
  have ad_5 : v_ad (n_v vs 5) = w_ar ws (n_v vs 0) 4 := congrArg v_ad f9
  have h1 : v_iv (n_v vs 19) = w_ei ws (v_ad (n_v vs 2)) (v_iv (n_v vs 18)) := f1
  simp only [ad_4] at f3
  have h3 : v_iv (n_v vs 17) = w_ei ws (w_ar ws (n_v vs 0) 3) (v_iv (n_v vs 16)) := f3
  simp only [ad_5] at f8
  have h8 : v_iv (n_v vs 13) = w_ei ws (w_ar ws (n_v vs 0) 4) (v_iv (n_v vs 1)) := f8
  simp only [ad_4, ad_5] at f11
  have nf0 : fc_1 PRD (20, [5, 4, 2, 1, 3, 20], [61, 3, 1088]) ws (vs) := by
    refine ⟨nf_in hl rfl, sgq_383 ?_⟩
    · show HLQ (w_ei ws (v_ad (n_v vs 5))) (w_ei ws (v_ad (n_v vs 4))) (w_ei ws (v_ad (n_v vs 2))) (v_iv (n_v vs 1)) (v_iv (n_v vs 3)) (v_iv (n_v vs 20))
      simp only [ad_4, ad_5]
      exact vc_Gr_hasLetters_at_Gq_Retape_4_0 (v_iv (n_v vs 1)) (v_iv (n_v vs 3)) (v_iv (n_v vs 7)) (v_iv (n_v vs 10)) (v_iv (n_v vs 13)) (v_iv (n_v vs 15)) (v_iv (n_v vs 16)) (v_iv (n_v vs 17)) (v_iv (n_v vs 18)) (v_iv (n_v vs 19)) (v_iv (n_v vs 20)) (w_ei ws (v_ad (n_v vs 2))) (w_ei ws (w_ar ws (n_v vs 0) 3)) (w_ei ws (w_ar ws (n_v vs 0) 4)) k1 k3 k7 k10 k13 k15 k16 k17 k18 k19 k20 d6 d7 d9 f0 h1 f2 h3 f4 f5 h8 f11
  refine ⟨(fun _ h => (by cases h)), [], trivial, ?_, (fun _ h => (by cases h))⟩
  rw [List.append_nil]
  exact List.forall_mem_cons.mpr ⟨⟨show (20 : Nat) < 100 from by decide, nf0⟩, (fun _ h => (by cases h))⟩
def n_Gr_hasLetters_at_Gq_Retape_an : List an_T := [(3, [(0, (2, 0, 0, [164])), (1, (0, 0, 23, [])), (2, (2, 0, 0, [109])), (3, (0, 0, 2000, [])), (4, (0, 0, 8, []))], [], (0, 0), [(0, 0, 99997), (1, 10, 8), (0, 0, 100000)], [(1, 7, (Int.negSucc 999999999999), 0), (3, 9, (Int.negSucc 999999999999), 0), (7, 1, (Int.negSucc 999999999999), 0), (9, 3, (Int.negSucc 999999999999), 0)], [((0, 3), (2, 0, 0, [150])), ((0, 4), (2, 0, 0, [151]))], [(2, 0, 0, [164]), (0, 0, 23, []), (2, 0, 0, [109]), (0, 0, 2000, []), (2, 0, 0, [150]), (2, 0, 0, [151])], 0, [], [(20, [6, 7, 9], [30, 2000, 1, 2, 4, 1, 0, 0]), (20, [12, 11, 8, 7, 9, 10], [61, 3, 1089]), (24, [5, 12], []), (24, [4, 11], []), (24, [0, 6], []), (24, [1, 7], []), (24, [2, 8], []), (24, [3, 9], [])])]
def t_Gr_hasLetters_at_Gq_Retape_ct : ct_L := []
set_option maxRecDepth 100000 in
theorem c_Gr_hasLetters_at_Gq_Retape {l : Launch} {D : va_G} {kA : Nat → ClassId} : ct_ok PRD l D kA GG y_Gr_hasLetters_at_Gq_Retape z_Gr_hasLetters_at_Gq_Retape e_Gr_hasLetters_at_Gq_Retape := chk_all_ok (FT := [(21, 3, 3), (25, 3, 4)]) (PT := []) (CT := t_Gr_hasLetters_at_Gq_Retape_ct) (KT := []) (NT := []) (AN := n_Gr_hasLetters_at_Gq_Retape_an) (OT := [o_Gr_hasLetters_at_Gq_Retape_0, o_Gr_hasLetters_at_Gq_Retape_1, o_Gr_hasLetters_at_Gq_Retape_2, o_Gr_hasLetters_at_Gq_Retape_3, o_Gr_hasLetters_at_Gq_Retape_4]) 3 200 (List.forall_mem_cons.mpr ⟨oo_Gr_hasLetters_at_Gq_Retape_0, List.forall_mem_cons.mpr ⟨oo_Gr_hasLetters_at_Gq_Retape_1, List.forall_mem_cons.mpr ⟨oo_Gr_hasLetters_at_Gq_Retape_2, List.forall_mem_cons.mpr ⟨oo_Gr_hasLetters_at_Gq_Retape_3, List.forall_mem_cons.mpr ⟨oo_Gr_hasLetters_at_Gq_Retape_4, List.forall_mem_nil _⟩⟩⟩⟩⟩) (by decide +kernel) ⟨List.forall_mem_cons.mpr ⟨gf_Gr_21, List.forall_mem_cons.mpr ⟨gf_Gr_25, List.forall_mem_nil _⟩⟩, List.forall_mem_nil _, List.forall_mem_nil _, List.forall_mem_nil _, List.forall_mem_nil _, GG_pl⟩ (by decide +kernel)
set_option maxHeartbeats 4000000 in
theorem vc_Gr_hasNode_0_0 (x1 : Int) (x2 : Int) (nodes_0 : Int) (k1 : (-2147483648) ≤ x1 ∧ x1 ≤ (-1)) (k2 : 0 ≤ x2 ∧ x2 ≤ 0) (f0 : x1 < 0) (kz_0_0 : 0 ≤ nodes_0 ∧ nodes_0 ≤ 24) : (x2 = 1) → ((0 ≤ x1) ∧ ((x1 + 1) ≤ nodes_0)) := by
  first | assumption | omega | grind
def o_Gr_hasNode_0 : or_T := (17, 3, [(0, (2, 0, 0, [3])), (1, (0, -2147483648, -1, [])), (2, (0, 0, 0, []))], [(8, [1], [2])], [], [], [(20, [2, 1, 0], [50, 1, 0, 2000, 4, 6, 1, 2, 1, 0, 0, 1, 2, 6, 0, 2, 0, 0, 1, 1, 0, 6, 4, 2, 1, 1, 0, 1, 2, 2, 0])], [], [])
theorem oo_Gr_hasNode_0 {kA : Nat → ClassId} : or_ok PRD kA GG o_Gr_hasNode_0 := by
  refine or_mk fun A ta ws vs hD hth hl => ?_
  intro t0 r0 t1 k1 t2 k2 f0
  have kz_0_0 := fdq_21 hD hth r0
  have nf0 : fc_1 PRD (20, [2, 1, 0], [50, 1, 0, 2000, 4, 6, 1, 2, 1, 0, 0, 1, 2, 6, 0, 2, 0, 0, 1, 1, 0, 6, 4, 2, 1, 1, 0, 1, 2, 2, 0]) ws (vs) := ⟨nf_in hl rfl, sgq_384 (vc_Gr_hasNode_0_0 (v_iv (n_v vs 1)) (v_iv (n_v vs 2)) (w_fi ws (n_v vs 0) 0) k1 k2 (shm_39 f0) kz_0_0)⟩
  refine ⟨(fun _ h => (by cases h)), [], trivial, ?_, (fun _ h => (by cases h))⟩
  rw [List.append_nil]
  exact List.forall_mem_cons.mpr ⟨⟨show (20 : Nat) < 100 from by decide, nf0⟩, (fun _ h => (by cases h))⟩
set_option maxHeartbeats 4000000 in
theorem vc_Gr_hasNode_1_0 (x1 : Int) (x2 : Int) (x3 : Int) (nodes_0 : Int) (k1 : 0 ≤ x1 ∧ x1 ≤ 2147483647) (k2 : 0 ≤ x2 ∧ x2 ≤ 24) (k3 : 0 ≤ x3 ∧ x3 ≤ 0) (d0 : x2 + 0 ≤ x1 ∧ x1 ≤ x2 + 4294967296) (f0 : x2 ≤ x1) (g1 : x2 = nodes_0) (f2 : 0 ≤ x1) (kz_0_0 : 0 ≤ nodes_0 ∧ nodes_0 ≤ 24) : (x3 = 1) → ((0 ≤ x1) ∧ ((x1 + 1) ≤ nodes_0)) := by
  first | assumption | omega | grind
def o_Gr_hasNode_1 : or_T := (17, 4, [(0, (2, 0, 0, [3])), (1, (0, 0, 2147483647, [])), (2, (0, 0, 24, [])), (3, (0, 0, 0, []))], [(7, [1, 2], [3]), (9, [2, 0], [0]), (8, [1], [3])], [], [], [(20, [3, 1, 0], [50, 1, 0, 2000, 4, 6, 1, 2, 1, 0, 0, 1, 2, 6, 0, 2, 0, 0, 1, 1, 0, 6, 4, 2, 1, 1, 0, 1, 2, 2, 0])], [], [(1, 2, 0, 4294967296)])
theorem oo_Gr_hasNode_1 {kA : Nat → ClassId} : or_ok PRD kA GG o_Gr_hasNode_1 := by
  refine or_mk fun A ta ws vs hD hth hl => ?_
  intro t0 r0 t1 k1 t2 k2 t3 k3 d0 f0 f1 f2
  replace f1 := shm_163 f1
  have g1 : v_iv (n_v vs 2) = w_fi ws (n_v vs 0) 0 := congrArg v_iv f1
  have kz_0_0 := fdq_21 hD hth r0
  have nf0 : fc_1 PRD (20, [3, 1, 0], [50, 1, 0, 2000, 4, 6, 1, 2, 1, 0, 0, 1, 2, 6, 0, 2, 0, 0, 1, 1, 0, 6, 4, 2, 1, 1, 0, 1, 2, 2, 0]) ws (vs) := ⟨nf_in hl rfl, sgq_384 (vc_Gr_hasNode_1_0 (v_iv (n_v vs 1)) (v_iv (n_v vs 2)) (v_iv (n_v vs 3)) (w_fi ws (n_v vs 0) 0) k1 k2 k3 d0 (shm_2 f0) g1 (shm_32 f2) kz_0_0)⟩
  refine ⟨(fun _ h => (by cases h)), [], trivial, ?_, (fun _ h => (by cases h))⟩
  rw [List.append_nil]
  exact List.forall_mem_cons.mpr ⟨⟨show (20 : Nat) < 100 from by decide, nf0⟩, (fun _ h => (by cases h))⟩
set_option maxHeartbeats 4000000 in
theorem vc_Gr_hasNode_2_0 (x1 : Int) (x2 : Int) (x3 : Int) (nodes_0 : Int) (k1 : 0 ≤ x1 ∧ x1 ≤ 23) (k2 : 1 ≤ x2 ∧ x2 ≤ 24) (k3 : 1 ≤ x3 ∧ x3 ≤ 1) (d0 : x2 + (-4294967296) ≤ x1 ∧ x1 ≤ x2 + (-1)) (f0 : x1 < x2) (g1 : x2 = nodes_0) (f2 : 0 ≤ x1) (kz_0_0 : 0 ≤ nodes_0 ∧ nodes_0 ≤ 24) : (x3 = 1) → ((0 ≤ x1) ∧ ((x1 + 1) ≤ nodes_0)) := by
  first | assumption | omega | grind
def o_Gr_hasNode_2 : or_T := (17, 4, [(0, (2, 0, 0, [3])), (1, (0, 0, 23, [])), (2, (0, 1, 24, [])), (3, (0, 1, 1, []))], [(7, [1, 2], [2]), (9, [2, 0], [0]), (8, [1], [3])], [], [], [(20, [3, 1, 0], [50, 1, 0, 2000, 4, 6, 1, 2, 1, 0, 0, 1, 2, 6, 0, 2, 0, 0, 1, 1, 0, 6, 4, 2, 1, 1, 0, 1, 2, 2, 0])], [], [(1, 2, -4294967296, -1)])
theorem oo_Gr_hasNode_2 {kA : Nat → ClassId} : or_ok PRD kA GG o_Gr_hasNode_2 := by
  refine or_mk fun A ta ws vs hD hth hl => ?_
  intro t0 r0 t1 k1 t2 k2 t3 k3 d0 f0 f1 f2
  replace f1 := shm_163 f1
  have g1 : v_iv (n_v vs 2) = w_fi ws (n_v vs 0) 0 := congrArg v_iv f1
  have kz_0_0 := fdq_21 hD hth r0
  have nf0 : fc_1 PRD (20, [3, 1, 0], [50, 1, 0, 2000, 4, 6, 1, 2, 1, 0, 0, 1, 2, 6, 0, 2, 0, 0, 1, 1, 0, 6, 4, 2, 1, 1, 0, 1, 2, 2, 0]) ws (vs) := ⟨nf_in hl rfl, sgq_384 (vc_Gr_hasNode_2_0 (v_iv (n_v vs 1)) (v_iv (n_v vs 2)) (v_iv (n_v vs 3)) (w_fi ws (n_v vs 0) 0) k1 k2 k3 d0 (shm_6 f0) g1 (shm_32 f2) kz_0_0)⟩
  refine ⟨(fun _ h => (by cases h)), [], trivial, ?_, (fun _ h => (by cases h))⟩
  rw [List.append_nil]
  exact List.forall_mem_cons.mpr ⟨⟨show (20 : Nat) < 100 from by decide, nf0⟩, (fun _ h => (by cases h))⟩
def n_Gr_hasNode_an : List an_T := []
def t_Gr_hasNode_ct : ct_L := []
set_option maxRecDepth 100000 in
theorem c_Gr_hasNode {l : Launch} {D : va_G} {kA : Nat → ClassId} : ct_ok PRD l D kA GG y_Gr_hasNode z_Gr_hasNode e_Gr_hasNode := chk_all_ok (FT := [(9, 3, 0)]) (PT := []) (CT := t_Gr_hasNode_ct) (KT := []) (NT := []) (AN := n_Gr_hasNode_an) (OT := [o_Gr_hasNode_0, o_Gr_hasNode_1, o_Gr_hasNode_2]) 0 200 (List.forall_mem_cons.mpr ⟨oo_Gr_hasNode_0, List.forall_mem_cons.mpr ⟨oo_Gr_hasNode_1, List.forall_mem_cons.mpr ⟨oo_Gr_hasNode_2, List.forall_mem_nil _⟩⟩⟩) (by decide +kernel) ⟨List.forall_mem_cons.mpr ⟨gf_Gr_9, List.forall_mem_nil _⟩, List.forall_mem_nil _, List.forall_mem_nil _, List.forall_mem_nil _, List.forall_mem_nil _, GG_pl⟩ (by decide +kernel)
set_option maxHeartbeats 4000000 in
theorem vc_Gr_sizeOfGroup_0_0 (x2 : Int) (x3 : Int) (k2 : 0 ≤ x2 ∧ x2 ≤ 0) (k3 : 0 ≤ x3 ∧ x3 ≤ 0) : ((0 ≤ x2) ∧ (0 ≤ x3)) ∧ (x2 ≤ (99 * x3)) := by
  first | assumption | omega | grind
def o_Gr_sizeOfGroup_0 : or_T := (4, 4, [(2, (0, 0, 0, [])), (3, (0, 0, 0, []))], [], [], [], [(20, [2, 3], [50, 0, 0, 2, 14, 2, 6, 0, 2, 0, 0, 1, 0, 0, 2, 0, 0, 1, 1, 0, 2, 1, 0, 6, 2, 0, 99, 1, 1])], [], [])
theorem oo_Gr_sizeOfGroup_0 {kA : Nat → ClassId} : or_ok PRD kA GG o_Gr_sizeOfGroup_0 := by
  refine or_mk fun A ta ws vs hD hth hl => ?_
  intro t2 k2 t3 k3
  have nf0 : fc_1 PRD (20, [2, 3], [50, 0, 0, 2, 14, 2, 6, 0, 2, 0, 0, 1, 0, 0, 2, 0, 0, 1, 1, 0, 2, 1, 0, 6, 2, 0, 99, 1, 1]) ws (vs) := ⟨nf_in hl rfl, sgq_385 (vc_Gr_sizeOfGroup_0_0 (v_iv (n_v vs 2)) (v_iv (n_v vs 3)) k2 k3)⟩
  refine ⟨(fun _ h => (by cases h)), [], trivial, ?_, (fun _ h => (by cases h))⟩
  rw [List.append_nil]
  exact List.forall_mem_cons.mpr ⟨⟨show (20 : Nat) < 100 from by decide, nf0⟩, (fun _ h => (by cases h))⟩
set_option maxHeartbeats 4000000 in
theorem vc_Gr_sizeOfGroup_1_r0 (x2 : Int) (x3 : Int) (x4 : Int) (nodes_0 : Int) (k2 : 0 ≤ x2 ∧ x2 ≤ 4095) (k3 : 0 ≤ x3 ∧ x3 ≤ 24) (k4 : 0 ≤ x4 ∧ x4 ≤ 24) (d0 : x4 + 0 ≤ x3 ∧ x3 ≤ x4 + 4294967296) (f0 : x4 ≤ x3) (g1 : x4 = nodes_0) (f2 : ((0 ≤ x2) ∧ (0 ≤ x3)) ∧ (x2 ≤ (99 * x3))) (kz_0_0 : 0 ≤ nodes_0 ∧ nodes_0 ≤ 24) : 0 ≤ x2 ∧ x2 ≤ 2376 := by
  first | assumption | omega | grind
def o_Gr_sizeOfGroup_1 : or_T := (73, 5, [(0, (2, 0, 0, [3])), (2, (0, 0, 4095, [])), (3, (0, 0, 24, [])), (4, (0, 0, 24, []))], [(7, [3, 4], [3]), (9, [4, 0], [0]), (20, [2, 3], [50, 0, 0, 2, 14, 2, 6, 0, 2, 0, 0, 1, 0, 0, 2, 0, 0, 1, 1, 0, 2, 1, 0, 6, 2, 0, 99, 1, 1])], [(2, (0, 0, 2376, []))], [], [], [], [(3, 4, 0, 4294967296)])
theorem oo_Gr_sizeOfGroup_1 {kA : Nat → ClassId} : or_ok PRD kA GG o_Gr_sizeOfGroup_1 := by
  refine or_mk fun A ta ws vs hD hth hl => ?_
  intro t0 r0 t2 k2 t3 k3 t4 k4 d0 f0 f1 f2
  replace f1 := shm_163 f1
  have g1 : v_iv (n_v vs 4) = w_fi ws (n_v vs 0) 0 := congrArg v_iv f1
  have kz_0_0 := fdq_21 hD hth r0
  have hrf0 : 0 ≤ v_iv (n_v vs 2) ∧ v_iv (n_v vs 2) ≤ 2376 := vc_Gr_sizeOfGroup_1_r0 (v_iv (n_v vs 2)) (v_iv (n_v vs 3)) (v_iv (n_v vs 4)) (w_fi ws (n_v vs 0) 0) k2 k3 k4 d0 (shm_2 f0) g1 (shm_385 f2) kz_0_0
  have rf2 : tv_ok ta (0, 0, 2376, []) (n_v vs 2) := tv_in t2 (by first | omega | grind) (by first | omega | grind)
  refine ⟨List.forall_mem_cons.mpr ⟨rf2, (fun _ h => (by cases h))⟩, [], trivial, ?_, (fun _ h => (by cases h))⟩
  rw [List.append_nil]
  exact (fun _ h => (by cases h))
set_option maxHeartbeats 4000000 in
theorem vc_Gr_sizeOfGroup_2_0 (x2 : Int) (x3 : Int) (x7 : Int) (k2 : 0 ≤ x2 ∧ x2 ≤ 4095) (k3 : 0 ≤ x3 ∧ x3 ≤ 23) (k7 : 1 ≤ x7 ∧ x7 ≤ 24) (d0 : x3 + 1 ≤ x7 ∧ x7 ≤ x3 + 1) (f0 : x7 = x3 + 1) (f1 : ((0 ≤ x2) ∧ (0 ≤ x3)) ∧ (x2 ≤ (99 * x3))) : ((0 ≤ x2) ∧ (0 ≤ x7)) ∧ (x2 ≤ (99 * x7)) := by
  first | assumption | omega | grind
def o_Gr_sizeOfGroup_2 : or_T := (4, 8, [(2, (0, 0, 4095, [])), (3, (0, 0, 23, [])), (7, (0, 1, 24, []))], [(6, [7, 3], [1]), (20, [2, 3], [50, 0, 0, 2, 14, 2, 6, 0, 2, 0, 0, 1, 0, 0, 2, 0, 0, 1, 1, 0, 2, 1, 0, 6, 2, 0, 99, 1, 1])], [], [], [(20, [2, 7], [50, 0, 0, 2, 14, 2, 6, 0, 2, 0, 0, 1, 0, 0, 2, 0, 0, 1, 1, 0, 2, 1, 0, 6, 2, 0, 99, 1, 1])], [], [(7, 3, 1, 1)])
theorem oo_Gr_sizeOfGroup_2 {kA : Nat → ClassId} : or_ok PRD kA GG o_Gr_sizeOfGroup_2 := by
  refine or_mk fun A ta ws vs hD hth hl => ?_
  intro t2 k2 t3 k3 t7 k7 d0 f0 f1
  have nf0 : fc_1 PRD (20, [2, 7], [50, 0, 0, 2, 14, 2, 6, 0, 2, 0, 0, 1, 0, 0, 2, 0, 0, 1, 1, 0, 2, 1, 0, 6, 2, 0, 99, 1, 1]) ws (vs) := ⟨nf_in hl rfl, sgq_385 (vc_Gr_sizeOfGroup_2_0 (v_iv (n_v vs 2)) (v_iv (n_v vs 3)) (v_iv (n_v vs 7)) k2 k3 k7 d0 (shm_4 f0) (shm_385 f1))⟩
  refine ⟨(fun _ h => (by cases h)), [], trivial, ?_, (fun _ h => (by cases h))⟩
  rw [List.append_nil]
  exact List.forall_mem_cons.mpr ⟨⟨show (20 : Nat) < 100 from by decide, nf0⟩, (fun _ h => (by cases h))⟩
set_option maxHeartbeats 4000000 in
theorem vc_Gr_sizeOfGroup_3_r0 (x2 : Int) (x3 : Int) (k2 : 0 ≤ x2 ∧ x2 ≤ 4095) (k3 : 0 ≤ x3 ∧ x3 ≤ 23) (f0 : ((0 ≤ x2) ∧ (0 ≤ x3)) ∧ (x2 ≤ (99 * x3))) : 0 ≤ x2 ∧ x2 ≤ 2376 := by
  first | assumption | omega | grind
def o_Gr_sizeOfGroup_3 : or_T := (64, 9, [(2, (0, 0, 4095, [])), (3, (0, 0, 23, []))], [(20, [2, 3], [50, 0, 0, 2, 14, 2, 6, 0, 2, 0, 0, 1, 0, 0, 2, 0, 0, 1, 1, 0, 2, 1, 0, 6, 2, 0, 99, 1, 1])], [(2, (0, 0, 2376, []))], [], [], [], [])
theorem oo_Gr_sizeOfGroup_3 {kA : Nat → ClassId} : or_ok PRD kA GG o_Gr_sizeOfGroup_3 := by
  refine or_mk fun A ta ws vs hD hth hl => ?_
  intro t2 k2 t3 k3 f0
  have hrf0 : 0 ≤ v_iv (n_v vs 2) ∧ v_iv (n_v vs 2) ≤ 2376 := vc_Gr_sizeOfGroup_3_r0 (v_iv (n_v vs 2)) (v_iv (n_v vs 3)) k2 k3 (shm_385 f0)
  have rf2 : tv_ok ta (0, 0, 2376, []) (n_v vs 2) := tv_in t2 (by first | omega | grind) (by first | omega | grind)
  refine ⟨List.forall_mem_cons.mpr ⟨rf2, (fun _ h => (by cases h))⟩, [], trivial, ?_, (fun _ h => (by cases h))⟩
  rw [List.append_nil]
  exact (fun _ h => (by cases h))
set_option maxHeartbeats 4000000 in
theorem vc_Gr_sizeOfGroup_4_0 (x2 : Int) (x3 : Int) (x8 : Int) (x9 : Int) (x10 : Int) (size_0 : Int → Int) (k2 : 0 ≤ x2 ∧ x2 ≤ 2376) (k3 : 0 ≤ x3 ∧ x3 ≤ 23) (k8 : 0 ≤ x8 ∧ x8 ≤ 99) (k9 : 0 ≤ x9 ∧ x9 ≤ 2475) (k10 : 1 ≤ x10 ∧ x10 ≤ 24) (d0 : x3 + 1 ≤ x10 ∧ x10 ≤ x3 + 1) (d1 : x8 + 0 ≤ x9 ∧ x9 ≤ x8 + 2376) (d2 : x2 + 0 ≤ x9 ∧ x9 ≤ x2 + 99) (f0 : x10 = x3 + 1) (f1 : x9 = x2 + x8) (h2 : x8 = size_0 (x3)) (f4 : ((0 ≤ x2) ∧ (0 ≤ x3)) ∧ (x2 ≤ (99 * x3))) : ((0 ≤ x9) ∧ (0 ≤ x10)) ∧ (x9 ≤ (99 * x10)) := by
  first | assumption | omega | grind
def o_Gr_sizeOfGroup_4 : or_T := (4, 11, [(2, (0, 0, 2376, [])), (3, (0, 0, 23, [])), (8, (0, 0, 99, [])), (9, (0, 0, 2475, [])), (10, (0, 1, 24, []))], [(6, [10, 3], [1]), (1, [9, 2, 8], []), (10, [8, 7, 3], []), (9, [7, 0], [5]), (20, [2, 3], [50, 0, 0, 2, 14, 2, 6, 0, 2, 0, 0, 1, 0, 0, 2, 0, 0, 1, 1, 0, 2, 1, 0, 6, 2, 0, 99, 1, 1])], [], [], [(20, [9, 10], [50, 0, 0, 2, 14, 2, 6, 0, 2, 0, 0, 1, 0, 0, 2, 0, 0, 1, 1, 0, 2, 1, 0, 6, 2, 0, 99, 1, 1])], [], [(10, 3, 1, 1), (9, 8, 0, 2376), (9, 2, 0, 99)])
theorem oo_Gr_sizeOfGroup_4 {kA : Nat → ClassId} : or_ok PRD kA GG o_Gr_sizeOfGroup_4 := by
  refine or_mk fun A ta ws vs hD hth hl => ?_
  intro t2 k2 t3 k3 t8 k8 t9 k9 t10 k10 d0 d1 d2 f0 f1 f2 f3 f4
  replace f2 := shm_107 f2
  replace f3 := shm_110 f3
  have ad_7 : v_ad (n_v vs 7) = w_ar ws (n_v vs 0) 5 := congrArg v_ad f3
  simp only [ad_7] at f2
  have h2 : v_iv (n_v vs 8) = w_ei ws (w_ar ws (n_v vs 0) 5) (v_iv (n_v vs 3)) := f2
  have nf0 : fc_1 PRD (20, [9, 10], [50, 0, 0, 2, 14, 2, 6, 0, 2, 0, 0, 1, 0, 0, 2, 0, 0, 1, 1, 0, 2, 1, 0, 6, 2, 0, 99, 1, 1]) ws (vs) := ⟨nf_in hl rfl, sgq_385 (vc_Gr_sizeOfGroup_4_0 (v_iv (n_v vs 2)) (v_iv (n_v vs 3)) (v_iv (n_v vs 8)) (v_iv (n_v vs 9)) (v_iv (n_v vs 10)) (w_ei ws (w_ar ws (n_v vs 0) 5)) k2 k3 k8 k9 k10 d0 d1 d2 (shm_4 f0) (shm_12 f1) h2 (shm_385 f4))⟩
  refine ⟨(fun _ h => (by cases h)), [], trivial, ?_, (fun _ h => (by cases h))⟩
  rw [List.append_nil]
  exact List.forall_mem_cons.mpr ⟨⟨show (20 : Nat) < 100 from by decide, nf0⟩, (fun _ h => (by cases h))⟩
def n_Gr_sizeOfGroup_an : List an_T := [(4, [(0, (2, 0, 0, [3])), (1, (0, 0, 7, [])), (2, (0, 0, 4095, [])), (3, (0, 0, 24, []))], [], (0, 0), [(0, 0, 99996), (1, 3, 24), (0, 0, 100000), (0, 0, 0), (0, 0, 0)], [], [], [], 0, [], [(20, [2, 3], [50, 0, 0, 2, 14, 2, 6, 0, 2, 0, 0, 1, 0, 0, 2, 0, 0, 1, 1, 0, 2, 1, 0, 6, 2, 0, 99, 1, 1])]), (23, [(0, (2, 0, 0, [3])), (1, (0, 0, 7, [])), (2, (0, 0, 4095, [])), (3, (0, 0, 23, [])), (4, (0, (Int.negSucc 0), 7, [])), (5, (0, 0, 8, []))], [], (0, 0), [(0, 0, 99996), (1, 3, 24), (0, 0, 99977), (1, 5, 8), (0, 0, 100000)], [(1, 4, (Int.negSucc 999999999999), 7)], [], [], 0, [], [(20, [2, 3], [50, 0, 0, 2, 14, 2, 6, 0, 2, 0, 0, 1, 0, 0, 2, 0, 0, 1, 1, 0, 2, 1, 0, 6, 2, 0, 99, 1, 1])])]
def t_Gr_sizeOfGroup_ct : ct_L := []
set_option maxRecDepth 100000 in
theorem c_Gr_sizeOfGroup {l : Launch} {D : va_G} {kA : Nat → ClassId} : ct_ok PRD l D kA GG y_Gr_sizeOfGroup z_Gr_sizeOfGroup e_Gr_sizeOfGroup := chk_all_ok (FT := [(9, 3, 0), (29, 3, 5), (32, 3, 6), (47, 3, 11)]) (PT := []) (CT := t_Gr_sizeOfGroup_ct) (KT := []) (NT := []) (AN := n_Gr_sizeOfGroup_an) (OT := [o_Gr_sizeOfGroup_0, o_Gr_sizeOfGroup_1, o_Gr_sizeOfGroup_2, o_Gr_sizeOfGroup_3, o_Gr_sizeOfGroup_4]) 5 232 (List.forall_mem_cons.mpr ⟨oo_Gr_sizeOfGroup_0, List.forall_mem_cons.mpr ⟨oo_Gr_sizeOfGroup_1, List.forall_mem_cons.mpr ⟨oo_Gr_sizeOfGroup_2, List.forall_mem_cons.mpr ⟨oo_Gr_sizeOfGroup_3, List.forall_mem_cons.mpr ⟨oo_Gr_sizeOfGroup_4, List.forall_mem_nil _⟩⟩⟩⟩⟩) (by decide +kernel) ⟨List.forall_mem_cons.mpr ⟨gf_Gr_9, List.forall_mem_cons.mpr ⟨gf_Gr_29, List.forall_mem_cons.mpr ⟨gf_Gr_32, List.forall_mem_cons.mpr ⟨gf_Gr_47, List.forall_mem_nil _⟩⟩⟩⟩, List.forall_mem_nil _, List.forall_mem_nil _, List.forall_mem_nil _, List.forall_mem_nil _, GG_pl⟩ (by decide +kernel)
set_option maxHeartbeats 4000000 in
theorem vc_Gr_tie_at_Gq_0_0 (x1 : Int) (x10 : Int) (x16 : Int) (x17 : Int) (x18 : Int) (x19 : Int) (x20 : Int) (x21 : Int) (x22 : Int) (x23 : Int) (x24 : Int) (x25 : Int) (x26 : Int) (x27 : Int) (tail_0 : Int → Int) (head_0 : Int → Int) (nodes_0 : Int) (edges_0 : Int) (tail_1 : Int → Int) (near_1 : Int → Int) (head_1 : Int → Int) (nodes_1 : Int) (edges_1 : Int) (head_2 : Int → Int) (near_2 : Int → Int) (tail_2 : Int → Int) (nodes_2 : Int) (edges_2 : Int) (tail_3 : Int → Int) (head_3 : Int → Int) (near_3 : Int → Int) (nodes_3 : Int) (edges_3 : Int) (head_4 : Int → Int) (tail_4 : Int → Int) (near_4 : Int → Int) (nodes_4 : Int) (edges_4 : Int) (near_0 : Int → Int) (link_0 : Int → Int) (link_1 : Int → Int) (link_2 : Int → Int) (k1 : 0 ≤ x1 ∧ x1 ≤ 47) (k10 : 0 ≤ x10 ∧ x10 ≤ 23) (k16 : 0 ≤ x16 ∧ x16 ≤ 23) (k17 : 0 ≤ x17 ∧ x17 ≤ 16777215) (k18 : 1 ≤ x18 ∧ x18 ≤ 1) (k19 : 0 ≤ x19 ∧ x19 ≤ 23) (k20 : 1 ≤ x20 ∧ x20 ≤ 8388608) (k21 : 0 ≤ x21 ∧ x21 ≤ 16777215) (k22 : 0 ≤ x22 ∧ x22 ≤ 23) (k23 : 0 ≤ x23 ∧ x23 ≤ 16777215) (k24 : 1 ≤ x24 ∧ x24 ≤ 1) (k25 : 0 ≤ x25 ∧ x25 ≤ 23) (k26 : 1 ≤ x26 ∧ x26 ≤ 8388608) (k27 : 0 ≤ x27 ∧ x27 ≤ 16777215) (f5 : (0 ≤ x1) ∧ ((x1 + 1) ≤ edges_0)) (f8 : bvp (x27) = bvp (x23) ||| bvp (x26)) (f9 : bvp (x26) = bvp (x24) <<< (x25).toNat) (h10 : x25 = tail_1 (x1)) (h11 : x23 = near_1 (x22)) (h12 : x22 = head_1 (x1)) (f17 : bvp (x21) = bvp (x17) ||| bvp (x20)) (f18 : bvp (x20) = bvp (x18) <<< (x19).toNat) (h19 : x19 = head_2 (x1)) (h20 : x17 = near_2 (x16)) (h21 : x16 = tail_2 (x1)) (h29 : x10 = head_3 (x1)) (f38 : GNK (nodes_4) (near_4) (tail_4) (head_4) (x1)) (f39 : GKE (nodes_4) (edges_4) (tail_4) (head_4)) (fe_0_0_1 : nodes_0 = nodes_1) (fe_0_1_1 : edges_0 = edges_1) (fe_0_0_2 : nodes_1 = nodes_2) (fe_0_1_2 : edges_1 = edges_2) (fe_0_0_3 : nodes_2 = nodes_3) (fe_0_1_3 : edges_2 = edges_3) (fe_0_0_4 : nodes_3 = nodes_4) (fe_0_1_4 : edges_3 = edges_4) (hE_0_7_1 : ∀ j : Int, tail_0 j = tail_1 j) (hE_0_7_2 : ∀ j : Int, tail_1 j = tail_2 j) (hE_0_7_3 : ∀ j : Int, tail_2 j = tail_3 j) (hE_0_7_4 : ∀ j : Int, tail_3 j = tail_4 j) (hE_0_8_1 : ∀ j : Int, head_0 j = head_1 j) (hE_0_8_2 : ∀ j : Int, head_1 j = head_2 j) (hE_0_8_3 : ∀ j : Int, head_2 j = head_3 j) (hE_0_8_4 : ∀ j : Int, head_3 j = head_4 j) (hE_0_14_1 : ∀ j : Int, 0 ≤ j → (j = x22 → near_0 j = x27) ∧ (j ≠ x22 → near_0 j = near_1 j)) (hE_0_14_2 : ∀ j : Int, 0 ≤ j → (j = x16 → near_1 j = x21) ∧ (j ≠ x16 → near_1 j = near_2 j)) (hE_0_14_3 : ∀ j : Int, near_2 j = near_3 j) (hE_0_14_4 : ∀ j : Int, near_3 j = near_4 j) (hE_0_15_1 : ∀ j : Int, link_0 j = link_1 j) (hE_0_15_2 : ∀ j : Int, link_1 j = link_2 j) (kz_0_0 : 0 ≤ nodes_0 ∧ nodes_0 ≤ 24) (kz_0_1 : 0 ≤ edges_0 ∧ edges_0 ≤ 48) : GNL (nodes_0) (near_0) (tail_0) (head_0) (x1) := by
  subst fe_0_0_1
  subst fe_0_1_1
  subst fe_0_0_2
  subst fe_0_1_2
  subst fe_0_0_3
  subst fe_0_1_3
  subst fe_0_0_4
  subst fe_0_1_4
  have e_hE_0_7_1 := funext hE_0_7_1; subst e_hE_0_7_1
  have e_hE_0_7_2 := funext hE_0_7_2; subst e_hE_0_7_2
  have e_hE_0_7_3 := funext hE_0_7_3; subst e_hE_0_7_3
  have e_hE_0_7_4 := funext hE_0_7_4; subst e_hE_0_7_4
  have e_hE_0_8_1 := funext hE_0_8_1; subst e_hE_0_8_1
  have e_hE_0_8_2 := funext hE_0_8_2; subst e_hE_0_8_2
  have e_hE_0_8_3 := funext hE_0_8_3; subst e_hE_0_8_3
  have e_hE_0_8_4 := funext hE_0_8_4; subst e_hE_0_8_4
  have e_hE_0_14_3 := funext hE_0_14_3; subst e_hE_0_14_3
  have e_hE_0_14_4 := funext hE_0_14_4; subst e_hE_0_14_4
  have e_hE_0_15_1 := funext hE_0_15_1; subst e_hE_0_15_1
  have e_hE_0_15_2 := funext hE_0_15_2; subst e_hE_0_15_2
  first
    | (have g := ‹GKE _ _ _ _› x1 (by omega) (by omega); exact gnk_tie (k := x1) (a := x16) (b := x22) (x := x21) (y := x27) (q1 := x20) (q2 := x26) (z1 := x17) (z2 := x23) (o1 := x18) (o2 := x24) (s1 := x19) (s2 := x25) ‹GNK _ _ _ _ _› (fun e a b => by have q := ‹GKE _ _ _ _› e a (by omega); exact ⟨by omega, by omega⟩) (by omega) (by omega) (by omega) (by omega) (by omega) (by omega) (by omega) (by omega) (by omega) (by assumption) (by omega) (by omega) (by assumption) (by assumption) hE_0_14_2 (by assumption) (by omega) (by omega) (by assumption) (by assumption) hE_0_14_1)
  
