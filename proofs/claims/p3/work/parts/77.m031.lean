section

set_option maxHeartbeats 4000000 in
theorem vc_Re_advance_7_0 (x1 : Int) (x5 : Int) (x11 : Int) (kind_0 : Int) (next_0 : Int) (begin_0 : Int) (end_0 : Int) (number_0 : Int) (number_1 : Int) (next_2 : Int) (tape_2 : Int → Int) (number_2 : Int) (end_2 : Int) (number_3 : Int) (tape_3 : Int → Int) (end_3 : Int) (next_3 : Int) (end_1 : Int) (next_1 : Int) (begin_1 : Int) (kind_1 : Int) (kind_2 : Int) (begin_2 : Int) (tape_0 : Int → Int) (tape_1 : Int → Int) (k1 : (-2147483648) ≤ x1 ∧ x1 ≤ 1000000) (k5 : 1 ≤ x5 ∧ x5 ≤ 1999) (k11 : 2 ≤ x11 ∧ x11 ≤ 2000) (d1 : x5 + (-4294967296) ≤ x11 ∧ x11 ≤ x5 + 0) (d2 : x5 + 1 ≤ x11 ∧ x11 ≤ x5 + 4294967296) (fe_0_5_1 : end_0 = end_1) (fe_0_6_1 : next_0 = next_1) (fe_0_8_1 : begin_0 = begin_1) (fe_0_9_1 : number_0 = number_1) (fe_0_5_2 : end_1 = end_2) (fe_0_7_2 : kind_1 = kind_2) (fe_0_8_2 : begin_1 = begin_2) (fe_0_9_2 : number_1 = number_2) (fe_0_5_3 : end_2 = end_3) (fe_0_6_3 : next_2 = next_3) (fe_0_9_3 : number_2 = number_3) (hE_0_0_1 : ∀ j : Int, tape_0 j = tape_1 j) (hE_0_0_2 : ∀ j : Int, tape_1 j = tape_2 j) (hE_0_0_3 : ∀ j : Int, tape_2 j = tape_3 j) (hK_0_0 : ∀ j : Int, 0 ≤ j → j < 2000 → (-128) ≤ tape_0 j ∧ tape_0 j ≤ 127) (kz_0_5 : 0 ≤ end_0 ∧ end_0 ≤ 2000) (kz_0_6 : 0 ≤ next_0 ∧ next_0 ≤ 2000) (kz_0_7 : (-128) ≤ kind_0 ∧ kind_0 ≤ 127) (kz_0_8 : 0 ≤ begin_0 ∧ begin_0 ≤ 2000) (kz_0_9 : (-176) ≤ number_0 ∧ number_0 ≤ 1000000) : (1 * kind_0 + 0 ≤ 3) ∨ (1 * number_0 + ((-1) * x1 + 0) ≤ 0) := by
  subst fe_0_5_1
  subst fe_0_6_1
  subst fe_0_8_1
  subst fe_0_9_1
  subst fe_0_5_2
  subst fe_0_7_2
  subst fe_0_8_2
  subst fe_0_9_2
  subst fe_0_5_3
  subst fe_0_6_3
  subst fe_0_9_3
  have e_hE_0_0_1 := funext hE_0_0_1; subst e_hE_0_0_1
  have e_hE_0_0_2 := funext hE_0_0_2; subst e_hE_0_0_2
  have e_hE_0_0_3 := funext hE_0_0_3; subst e_hE_0_0_3
  first | with_reducible assumption | ((try and_intros) <;> first | with_reducible assumption | (clear hE_0_0_1 hE_0_0_2 hE_0_0_3 hK_0_0; omega)) | omega
set_option maxHeartbeats 4000000 in
theorem vc_Re_advance_7_1 (x1 : Int) (x5 : Int) (x11 : Int) (kind_0 : Int) (next_0 : Int) (begin_0 : Int) (end_0 : Int) (number_0 : Int) (number_1 : Int) (next_2 : Int) (tape_2 : Int → Int) (number_2 : Int) (end_2 : Int) (number_3 : Int) (tape_3 : Int → Int) (end_3 : Int) (next_3 : Int) (end_1 : Int) (next_1 : Int) (begin_1 : Int) (kind_1 : Int) (kind_2 : Int) (begin_2 : Int) (tape_0 : Int → Int) (tape_1 : Int → Int) (k1 : (-2147483648) ≤ x1 ∧ x1 ≤ 1000000) (k5 : 1 ≤ x5 ∧ x5 ≤ 1999) (k11 : 2 ≤ x11 ∧ x11 ≤ 2000) (d1 : x5 + (-4294967296) ≤ x11 ∧ x11 ≤ x5 + 0) (d2 : x5 + 1 ≤ x11 ∧ x11 ≤ x5 + 4294967296) (fe_0_5_1 : end_0 = end_1) (fe_0_6_1 : next_0 = next_1) (fe_0_8_1 : begin_0 = begin_1) (fe_0_9_1 : number_0 = number_1) (fe_0_5_2 : end_1 = end_2) (fe_0_7_2 : kind_1 = kind_2) (fe_0_8_2 : begin_1 = begin_2) (fe_0_9_2 : number_1 = number_2) (fe_0_5_3 : end_2 = end_3) (fe_0_6_3 : next_2 = next_3) (fe_0_9_3 : number_2 = number_3) (hE_0_0_1 : ∀ j : Int, tape_0 j = tape_1 j) (hE_0_0_2 : ∀ j : Int, tape_1 j = tape_2 j) (hE_0_0_3 : ∀ j : Int, tape_2 j = tape_3 j) (hK_0_0 : ∀ j : Int, 0 ≤ j → j < 2000 → (-128) ≤ tape_0 j ∧ tape_0 j ≤ 127) (kz_0_5 : 0 ≤ end_0 ∧ end_0 ≤ 2000) (kz_0_6 : 0 ≤ next_0 ∧ next_0 ≤ 2000) (kz_0_7 : (-128) ≤ kind_0 ∧ kind_0 ≤ 127) (kz_0_8 : 0 ≤ begin_0 ∧ begin_0 ≤ 2000) (kz_0_9 : (-176) ≤ number_0 ∧ number_0 ≤ 1000000) : (1 * kind_0 + 0 ≤ 3) ∨ ((-1) * number_0 + (1 * x1 + 0) ≤ 0) := by
  subst fe_0_5_1
  subst fe_0_6_1
  subst fe_0_8_1
  subst fe_0_9_1
  subst fe_0_5_2
  subst fe_0_7_2
  subst fe_0_8_2
  subst fe_0_9_2
  subst fe_0_5_3
  subst fe_0_6_3
  subst fe_0_9_3
  have e_hE_0_0_1 := funext hE_0_0_1; subst e_hE_0_0_1
  have e_hE_0_0_2 := funext hE_0_0_2; subst e_hE_0_0_2
  have e_hE_0_0_3 := funext hE_0_0_3; subst e_hE_0_0_3
  first | with_reducible assumption | ((try and_intros) <;> first | with_reducible assumption | (clear hE_0_0_1 hE_0_0_2 hE_0_0_3 hK_0_0; omega)) | omega
set_option maxHeartbeats 4000000 in
theorem vc_Re_advance_7_2 (x5 : Int) (x11 : Int) (kind_0 : Int) (next_0 : Int) (begin_0 : Int) (end_0 : Int) (number_0 : Int) (number_1 : Int) (next_2 : Int) (tape_2 : Int → Int) (number_2 : Int) (end_2 : Int) (number_3 : Int) (tape_3 : Int → Int) (end_3 : Int) (next_3 : Int) (end_1 : Int) (next_1 : Int) (begin_1 : Int) (kind_1 : Int) (kind_2 : Int) (begin_2 : Int) (tape_0 : Int → Int) (tape_1 : Int → Int) (k5 : 1 ≤ x5 ∧ x5 ≤ 1999) (k11 : 2 ≤ x11 ∧ x11 ≤ 2000) (d1 : x5 + (-4294967296) ≤ x11 ∧ x11 ≤ x5 + 0) (d2 : x5 + 1 ≤ x11 ∧ x11 ≤ x5 + 4294967296) (fe_0_5_1 : end_0 = end_1) (fe_0_6_1 : next_0 = next_1) (fe_0_8_1 : begin_0 = begin_1) (fe_0_9_1 : number_0 = number_1) (fe_0_5_2 : end_1 = end_2) (fe_0_7_2 : kind_1 = kind_2) (fe_0_8_2 : begin_1 = begin_2) (fe_0_9_2 : number_1 = number_2) (fe_0_5_3 : end_2 = end_3) (fe_0_6_3 : next_2 = next_3) (fe_0_9_3 : number_2 = number_3) (hE_0_0_1 : ∀ j : Int, tape_0 j = tape_1 j) (hE_0_0_2 : ∀ j : Int, tape_1 j = tape_2 j) (hE_0_0_3 : ∀ j : Int, tape_2 j = tape_3 j) (hK_0_0 : ∀ j : Int, 0 ≤ j → j < 2000 → (-128) ≤ tape_0 j ∧ tape_0 j ≤ 127) (kz_0_5 : 0 ≤ end_0 ∧ end_0 ≤ 2000) (kz_0_6 : 0 ≤ next_0 ∧ next_0 ≤ 2000) (kz_0_7 : (-128) ≤ kind_0 ∧ kind_0 ≤ 127) (kz_0_8 : 0 ≤ begin_0 ∧ begin_0 ≤ 2000) (kz_0_9 : (-176) ≤ number_0 ∧ number_0 ≤ 1000000) : ((-1) * kind_0 + 0 ≤ (-3)) ∨ (1 * next_0 + ((-1) * begin_0 + (2000 * kind_0 + 0)) ≤ 4008) := by
  subst fe_0_5_1
  subst fe_0_6_1
  subst fe_0_8_1
  subst fe_0_9_1
  subst fe_0_5_2
  subst fe_0_7_2
  subst fe_0_8_2
  subst fe_0_9_2
  subst fe_0_5_3
  subst fe_0_6_3
  subst fe_0_9_3
  have e_hE_0_0_1 := funext hE_0_0_1; subst e_hE_0_0_1
  have e_hE_0_0_2 := funext hE_0_0_2; subst e_hE_0_0_2
  have e_hE_0_0_3 := funext hE_0_0_3; subst e_hE_0_0_3
  first | with_reducible assumption | ((try and_intros) <;> first | with_reducible assumption | (clear hE_0_0_1 hE_0_0_2 hE_0_0_3 hK_0_0; omega)) | omega
set_option maxHeartbeats 4000000 in
theorem vc_Re_advance_7_3 (x5 : Int) (x11 : Int) (next_0 : Int) (begin_0 : Int) (end_0 : Int) (number_0 : Int) (number_1 : Int) (next_2 : Int) (tape_2 : Int → Int) (number_2 : Int) (end_2 : Int) (number_3 : Int) (tape_3 : Int → Int) (end_3 : Int) (next_3 : Int) (end_1 : Int) (next_1 : Int) (begin_1 : Int) (kind_1 : Int) (kind_2 : Int) (begin_2 : Int) (tape_0 : Int → Int) (tape_1 : Int → Int) (k5 : 1 ≤ x5 ∧ x5 ≤ 1999) (k11 : 2 ≤ x11 ∧ x11 ≤ 2000) (d1 : x5 + (-4294967296) ≤ x11 ∧ x11 ≤ x5 + 0) (d2 : x5 + 1 ≤ x11 ∧ x11 ≤ x5 + 4294967296) (fe_0_5_1 : end_0 = end_1) (fe_0_6_1 : next_0 = next_1) (fe_0_8_1 : begin_0 = begin_1) (fe_0_9_1 : number_0 = number_1) (fe_0_5_2 : end_1 = end_2) (fe_0_7_2 : kind_1 = kind_2) (fe_0_8_2 : begin_1 = begin_2) (fe_0_9_2 : number_1 = number_2) (fe_0_5_3 : end_2 = end_3) (fe_0_6_3 : next_2 = next_3) (fe_0_9_3 : number_2 = number_3) (hE_0_0_1 : ∀ j : Int, tape_0 j = tape_1 j) (hE_0_0_2 : ∀ j : Int, tape_1 j = tape_2 j) (hE_0_0_3 : ∀ j : Int, tape_2 j = tape_3 j) (hK_0_0 : ∀ j : Int, 0 ≤ j → j < 2000 → (-128) ≤ tape_0 j ∧ tape_0 j ≤ 127) (kz_0_5 : 0 ≤ end_0 ∧ end_0 ≤ 2000) (kz_0_6 : 0 ≤ next_0 ∧ next_0 ≤ 2000) (kz_0_8 : 0 ≤ begin_0 ∧ begin_0 ≤ 2000) (kz_0_9 : (-176) ≤ number_0 ∧ number_0 ≤ 1000000) : 1 * begin_0 + ((-1) * next_0 + 0) ≤ 0 := by
  subst fe_0_5_1
  subst fe_0_6_1
  subst fe_0_8_1
  subst fe_0_9_1
  subst fe_0_5_2
  subst fe_0_7_2
  subst fe_0_8_2
  subst fe_0_9_2
  subst fe_0_5_3
  subst fe_0_6_3
  subst fe_0_9_3
  have e_hE_0_0_1 := funext hE_0_0_1; subst e_hE_0_0_1
  have e_hE_0_0_2 := funext hE_0_0_2; subst e_hE_0_0_2
  have e_hE_0_0_3 := funext hE_0_0_3; subst e_hE_0_0_3
  first | with_reducible assumption | ((try and_intros) <;> first | with_reducible assumption | (clear hE_0_0_1 hE_0_0_2 hE_0_0_3 hK_0_0; omega)) | omega
set_option maxHeartbeats 4000000 in
theorem vc_Re_advance_7_4 (x2 : Int) (x4 : Int) (x5 : Int) (x7 : Int) (x11 : Int) (x12 : Int) (kind_0 : Int) (next_0 : Int) (begin_0 : Int) (end_0 : Int) (number_0 : Int) (number_1 : Int) (next_2 : Int) (tape_2 : Int → Int) (number_2 : Int) (end_2 : Int) (number_3 : Int) (tape_3 : Int → Int) (end_3 : Int) (next_3 : Int) (end_1 : Int) (next_1 : Int) (begin_1 : Int) (kind_1 : Int) (kind_2 : Int) (begin_2 : Int) (tape_0 : Int → Int) (tape_1 : Int → Int) (k2 : 0 ≤ x2 ∧ x2 ≤ 2000) (k4 : 1 ≤ x4 ∧ x4 ≤ 1999) (k5 : 1 ≤ x5 ∧ x5 ≤ 1999) (k7 : 91 ≤ x7 ∧ x7 ≤ 96) (k11 : 2 ≤ x11 ∧ x11 ≤ 2000) (k12 : 1 ≤ x12 ∧ x12 ≤ 1) (d1 : x5 + (-4294967296) ≤ x11 ∧ x11 ≤ x5 + 0) (d2 : x5 + 1 ≤ x11 ∧ x11 ≤ x5 + 4294967296) (g0 : x7 = kind_0) (g1 : x11 = next_0) (g3 : x4 = begin_0) (g4 : x5 = end_0) (f12 : x12 ≠ 0) (f13 : CSG (x7) (x12)) (g20 : x4 = next_2) (h25 : x7 = tape_2 (x4)) (f26 : x4 < x5) (f35 : CX0 (end_3) (next_3) (tape_3) (x2)) (fe_0_5_1 : end_0 = end_1) (fe_0_6_1 : next_0 = next_1) (fe_0_8_1 : begin_0 = begin_1) (fe_0_9_1 : number_0 = number_1) (fe_0_5_2 : end_1 = end_2) (fe_0_7_2 : kind_1 = kind_2) (fe_0_8_2 : begin_1 = begin_2) (fe_0_9_2 : number_1 = number_2) (fe_0_5_3 : end_2 = end_3) (fe_0_6_3 : next_2 = next_3) (fe_0_8_3 : begin_2 = x4) (fe_0_9_3 : number_2 = number_3) (hE_0_0_1 : ∀ j : Int, tape_0 j = tape_1 j) (hE_0_0_2 : ∀ j : Int, tape_1 j = tape_2 j) (hE_0_0_3 : ∀ j : Int, tape_2 j = tape_3 j) (hK_0_0 : ∀ j : Int, 0 ≤ j → j < 2000 → (-128) ≤ tape_0 j ∧ tape_0 j ≤ 127) (kz_0_5 : 0 ≤ end_0 ∧ end_0 ≤ 2000) (kz_0_6 : 0 ≤ next_0 ∧ next_0 ≤ 2000) (kz_0_7 : (-128) ≤ kind_0 ∧ kind_0 ≤ 127) (kz_0_8 : 0 ≤ begin_0 ∧ begin_0 ≤ 2000) (kz_0_9 : (-176) ≤ number_0 ∧ number_0 ≤ 1000000) : TKC (end_0) (next_0) (kind_0) (begin_0) (number_0) (tape_0) (x2) := by
  subst fe_0_5_1
  subst fe_0_6_1
  subst fe_0_8_1
  subst fe_0_9_1
  subst fe_0_5_2
  subst fe_0_7_2
  subst fe_0_8_2
  subst fe_0_9_2
  subst fe_0_5_3
  subst fe_0_6_3
  subst fe_0_9_3
  have e_hE_0_0_1 := funext hE_0_0_1; subst e_hE_0_0_1
  have e_hE_0_0_2 := funext hE_0_0_2; subst e_hE_0_0_2
  have e_hE_0_0_3 := funext hE_0_0_3; subst e_hE_0_0_3
  first | subst g0 | skip
  first | subst g1 | skip
  first | subst g3 | skip
  first | subst g4 | skip
  first | subst g20 | skip
  first
    | exact cxl_e (by assumption) ‹CXL _ _ _ _ _› (fun q => by omega) (by omega)
    | exact cxl_e (by assumption) ‹CXL _ _ _ _ _› (fun q => cnb_f ‹CNBy _ _› (by omega) (by omega)) (by omega)
    | exact cxd_e (by assumption) ‹CXD _ _ _ _ _ _› (fun q => by unfold cIG; omega) (by omega)
    | exact cxs_e (by assumption) (cx_1 (by assumption) ‹CX0 _ _ _ _› (fun q => by omega) (by omega)) (by omega) rfl (by unfold cIL; omega) (by unfold cIG; omega) (by omega) (Or.inl ⟨csg_t ‹CSG _ _› (by omega) (by omega), by omega⟩)
    | exact cxs_e (by assumption) (cx_1 (by assumption) ‹CX0 _ _ _ _› (fun q => by omega) (by omega)) (by omega) rfl (by unfold cIL; omega) (by unfold cIG; omega) (by omega) (Or.inr ⟨csg_f ‹CSG _ _› (by omega) (by omega), by omega⟩)
set_option maxHeartbeats 4000000 in
theorem vc_Re_advance_7_5 (x2 : Int) (x5 : Int) (x11 : Int) (next_0 : Int) (begin_0 : Int) (end_0 : Int) (number_0 : Int) (number_1 : Int) (next_2 : Int) (tape_2 : Int → Int) (number_2 : Int) (end_2 : Int) (number_3 : Int) (tape_3 : Int → Int) (end_3 : Int) (next_3 : Int) (end_1 : Int) (next_1 : Int) (begin_1 : Int) (kind_1 : Int) (kind_2 : Int) (begin_2 : Int) (tape_0 : Int → Int) (tape_1 : Int → Int) (k2 : 0 ≤ x2 ∧ x2 ≤ 2000) (k5 : 1 ≤ x5 ∧ x5 ≤ 1999) (k11 : 2 ≤ x11 ∧ x11 ≤ 2000) (d1 : x5 + (-4294967296) ≤ x11 ∧ x11 ≤ x5 + 0) (d2 : x5 + 1 ≤ x11 ∧ x11 ≤ x5 + 4294967296) (fe_0_5_1 : end_0 = end_1) (fe_0_6_1 : next_0 = next_1) (fe_0_8_1 : begin_0 = begin_1) (fe_0_9_1 : number_0 = number_1) (fe_0_5_2 : end_1 = end_2) (fe_0_7_2 : kind_1 = kind_2) (fe_0_8_2 : begin_1 = begin_2) (fe_0_9_2 : number_1 = number_2) (fe_0_5_3 : end_2 = end_3) (fe_0_6_3 : next_2 = next_3) (fe_0_9_3 : number_2 = number_3) (hE_0_0_1 : ∀ j : Int, tape_0 j = tape_1 j) (hE_0_0_2 : ∀ j : Int, tape_1 j = tape_2 j) (hE_0_0_3 : ∀ j : Int, tape_2 j = tape_3 j) (hK_0_0 : ∀ j : Int, 0 ≤ j → j < 2000 → (-128) ≤ tape_0 j ∧ tape_0 j ≤ 127) (kz_0_5 : 0 ≤ end_0 ∧ end_0 ≤ 2000) (kz_0_6 : 0 ≤ next_0 ∧ next_0 ≤ 2000) (kz_0_8 : 0 ≤ begin_0 ∧ begin_0 ≤ 2000) (kz_0_9 : (-176) ≤ number_0 ∧ number_0 ≤ 1000000) : 1 * x2 + ((-1) * next_0 + 0) ≤ 0 := by
  subst fe_0_5_1
  subst fe_0_6_1
  subst fe_0_8_1
  subst fe_0_9_1
  subst fe_0_5_2
  subst fe_0_7_2
  subst fe_0_8_2
  subst fe_0_9_2
  subst fe_0_5_3
  subst fe_0_6_3
  subst fe_0_9_3
  have e_hE_0_0_1 := funext hE_0_0_1; subst e_hE_0_0_1
  have e_hE_0_0_2 := funext hE_0_0_2; subst e_hE_0_0_2
  have e_hE_0_0_3 := funext hE_0_0_3; subst e_hE_0_0_3
  first | with_reducible assumption | ((try and_intros) <;> first | with_reducible assumption | (clear hE_0_0_1 hE_0_0_2 hE_0_0_3 hK_0_0; omega)) | omega
def o_Re_advance_7 : or_T := (290, 13, [(0, (2, 0, 0, [8])), (1, (0, -2147483648, 1000000, [])), (2, (0, 0, 2000, [])), (3, (2, 0, 0, [8])), (4, (0, 1, 1999, [])), (5, (0, 1, 1999, [])), (6, (2, 0, 0, [109])), (7, (0, 91, 96, [])), (8, (0, 0, 0, [])), (9, (0, 0, 0, [])), (10, (0, 1, 1, [])), (11, (0, 2, 2000, [])), (12, (0, 1, 1, []))], [(9, [7, 3], [7]), (9, [11, 3], [6]), (9, [6, 3], [0]), (9, [4, 3], [8]), (9, [5, 3], [5]), (20, [7, 12], [61, 0, 1100]), (20, [7, 9], [61, 0, 1098]), (20, [7, 8], [61, 0, 1097]), (20, [3, 1], [30, 0, 1, 1, 9, -1, 0, 0]), (20, [3, 1], [30, 0, -1, 1, 9, 1, 0, 0]), (24, [0, 3], []), (101, [3, 7], [7]), (8, [12], [1]), (20, [7, 12], [61, 0, 1100]), (20, [7, 9], [61, 0, 1098]), (20, [7, 8], [61, 0, 1097]), (20, [3, 1], [30, 0, 1, 1, 9, -1, 0, 0]), (20, [3, 1], [30, 0, -1, 1, 9, 1, 0, 0]), (101, [3, 11], [6]), (1, [11, 4, 10], []), (9, [4, 3], [6]), (8, [9], [0]), (20, [7, 9], [61, 0, 1098]), (8, [8], [0]), (20, [7, 8], [61, 0, 1097]), (10, [7, 6, 4], []), (7, [4, 5], [2]), (20, [3, 1], [30, 0, 1, 1, 9, -1, 0, 0]), (20, [3, 1], [30, 0, -1, 1, 9, 1, 0, 0]), (20, [3, 2], [60, 2, 1, 1074, 5, 6, 0]), (20, [2, 3], [30, 0, 1, 0, 0, -1, 1, 6]), (101, [3, 4], [8]), (7, [4, 5], [3]), (20, [3, 1], [30, 0, 1, 1, 9, -1, 0, 0]), (20, [3, 1], [30, 0, -1, 1, 9, 1, 0, 0]), (20, [3, 2], [60, 2, 1, 1074, 5, 6, 0]), (20, [2, 3], [30, 0, 1, 0, 0, -1, 1, 6])], [], [], [(20, [0, 0, 1], [31, 1, 3, 1, 1, 7, 0, 1, 1, 9, -1, 0, 0]), (20, [0, 0, 1], [31, 1, 3, 1, 1, 7, 0, -1, 1, 9, 1, 0, 0]), (20, [0, 0, 0, 0], [31, 1, -3, -1, 1, 7, 4008, 1, 1, 6, -1, 1, 8, 2000, 1, 7]), (20, [0, 0], [30, 0, 1, 1, 8, -1, 1, 6]), (20, [0, 2], [60, 5, 1, 1072, 5, 6, 7, 8, 9, 0]), (20, [2, 0], [30, 0, 1, 0, 0, -1, 1, 6])], [], [(11, 4, 1, 1), (11, 5, -4294967296, 0), (11, 5, 1, 4294967296), (4, 5, -4294967296, -1), (4, 5, 0, 4294967296)])
theorem oo_Re_advance_7 {kA : Nat → ClassId} : or_ok PRD kA GG o_Re_advance_7 := by
  refine or_mk fun A ta ws vs hD hth hl => ?_
  intro t0 r0 t1 k1 t2 k2 t3 r3 t4 k4 t5 k5 t6 r6 t7 k7 t8 k8 t9 k9 t10 k10 t11 k11 t12 k12 d0 d1 d2 d3 d4 f0 f1 f2 f3 f4 f5 f6 f7 f8 f9 f10 ta1 w1 le1 s1 f12 f13 f14 f15 f16 f17 ta2 w2 le2 s2 f19 f20 f21 f22 f23 f24 f25 f26 f27 f28 f29 f30 ta3 w3 le3 s3 f32 f33 f34 f35 f36
  replace f0 := shm_198 f0
  replace f1 := shm_111 f1
  replace f2 := shm_163 f2
  replace f3 := shm_293 f3
  replace f4 := shm_110 f4
  replace f10 := shm_5 f10
  have s1 : (∀ b j, w_el ws b j = w_el w1 b j) ∧ ∀ b j, w_fd ws b j = if b = v_ad (n_v vs 3) ∧ j = 7 then n_v vs 7 else w_fd w1 b j := s1.2
  have s2 : (∀ b j, w_el w1 b j = w_el w2 b j) ∧ ∀ b j, w_fd w1 b j = if b = v_ad (n_v vs 3) ∧ j = 6 then n_v vs 11 else w_fd w2 b j := s2.2
  replace f20 := shm_111 f20
  replace f25 := shm_107 f25
  have s3 : (∀ b j, w_el w2 b j = w_el w3 b j) ∧ ∀ b j, w_fd w2 b j = if b = v_ad (n_v vs 3) ∧ j = 8 then n_v vs 4 else w_fd w3 b j := s3.2
  replace f35 := shm_1526 f35
  have q3 : n_v vs 3 = n_v vs 0 := f10.symm
  simp only [q3] at f0 f1 f2 f3 f4
  rw [q3] at s1
  rw [q3] at s2
  simp only [q3] at f20
  rw [q3] at s3
  simp only [q3] at f35
  have ar_0_0_1 : w_ar w1 (n_v vs 0) 0 = w_ar ws (n_v vs 0) 0 := by show v_ad (w_fd w1 _ _) = v_ad (w_fd ws _ _); rw [s1.2, if_neg (fun e => absurd e.2 (by decide))]
  have ar_0_0_2 : w_ar w2 (n_v vs 0) 0 = w_ar ws (n_v vs 0) 0 := by rw [← ar_0_0_1]; show v_ad (w_fd w2 _ _) = v_ad (w_fd w1 _ _); rw [s2.2, if_neg (fun e => absurd e.2 (by decide))]
  have ar_0_0_3 : w_ar w3 (n_v vs 0) 0 = w_ar ws (n_v vs 0) 0 := by rw [← ar_0_0_2]; show v_ad (w_fd w3 _ _) = v_ad (w_fd w2 _ _); rw [s3.2, if_neg (fun e => absurd e.2 (by decide))]
  have cr_0_0 := fdq_95 hD hth r0
  have ad_6 : v_ad (n_v vs 6) = w_ar ws (n_v vs 0) 0 := congrArg v_ad f2
  have g0 : v_iv (n_v vs 7) = w_fi ws (n_v vs 0) 7 := congrArg v_iv f0
  have g1 : v_iv (n_v vs 11) = w_fi ws (n_v vs 0) 6 := congrArg v_iv f1
  have g3 : v_iv (n_v vs 4) = w_fi ws (n_v vs 0) 8 := congrArg v_iv f3
  have g4 : v_iv (n_v vs 5) = w_fi ws (n_v vs 0) 5 := congrArg v_iv f4
  have g20 : v_iv (n_v vs 4) = w_fi w2 (n_v vs 0) 6 := congrArg v_iv f20
  simp only [ad_6] at f25
  have h25 : v_iv (n_v vs 7) = w_ei w2 (w_ar ws (n_v vs 0) 0) (v_iv (n_v vs 4)) := f25
  simp only [ar_0_0_2, ar_0_0_3] at f35
  have fe_0_5_1 : w_fi ws (n_v vs 0) 5 = w_fi w1 (n_v vs 0) 5 := by show v_iv (w_fd _ _ _) = v_iv (w_fd _ _ _); rw [s1.2, if_neg (fun e => absurd e.2 (by decide))]
  have fe_0_6_1 : w_fi ws (n_v vs 0) 6 = w_fi w1 (n_v vs 0) 6 := by show v_iv (w_fd _ _ _) = v_iv (w_fd _ _ _); rw [s1.2, if_neg (fun e => absurd e.2 (by decide))]
  have fe_0_8_1 : w_fi ws (n_v vs 0) 8 = w_fi w1 (n_v vs 0) 8 := by show v_iv (w_fd _ _ _) = v_iv (w_fd _ _ _); rw [s1.2, if_neg (fun e => absurd e.2 (by decide))]
  have fe_0_9_1 : w_fi ws (n_v vs 0) 9 = w_fi w1 (n_v vs 0) 9 := by show v_iv (w_fd _ _ _) = v_iv (w_fd _ _ _); rw [s1.2, if_neg (fun e => absurd e.2 (by decide))]
  have fe_0_5_2 : w_fi w1 (n_v vs 0) 5 = w_fi w2 (n_v vs 0) 5 := by show v_iv (w_fd _ _ _) = v_iv (w_fd _ _ _); rw [s2.2, if_neg (fun e => absurd e.2 (by decide))]
  have fe_0_7_2 : w_fi w1 (n_v vs 0) 7 = w_fi w2 (n_v vs 0) 7 := by show v_iv (w_fd _ _ _) = v_iv (w_fd _ _ _); rw [s2.2, if_neg (fun e => absurd e.2 (by decide))]
  have fe_0_8_2 : w_fi w1 (n_v vs 0) 8 = w_fi w2 (n_v vs 0) 8 := by show v_iv (w_fd _ _ _) = v_iv (w_fd _ _ _); rw [s2.2, if_neg (fun e => absurd e.2 (by decide))]
  have fe_0_9_2 : w_fi w1 (n_v vs 0) 9 = w_fi w2 (n_v vs 0) 9 := by show v_iv (w_fd _ _ _) = v_iv (w_fd _ _ _); rw [s2.2, if_neg (fun e => absurd e.2 (by decide))]
  have fe_0_5_3 : w_fi w2 (n_v vs 0) 5 = w_fi w3 (n_v vs 0) 5 := by show v_iv (w_fd _ _ _) = v_iv (w_fd _ _ _); rw [s3.2, if_neg (fun e => absurd e.2 (by decide))]
  have fe_0_6_3 : w_fi w2 (n_v vs 0) 6 = w_fi w3 (n_v vs 0) 6 := by show v_iv (w_fd _ _ _) = v_iv (w_fd _ _ _); rw [s3.2, if_neg (fun e => absurd e.2 (by decide))]
  have fe_0_8_3 : w_fi w2 (n_v vs 0) 8 = v_iv (n_v vs 4) := by show v_iv (w_fd _ _ _) = _; rw [s3.2, if_pos ⟨rfl, rfl⟩]
  have fe_0_9_3 : w_fi w2 (n_v vs 0) 9 = w_fi w3 (n_v vs 0) 9 := by show v_iv (w_fd _ _ _) = v_iv (w_fd _ _ _); rw [s3.2, if_neg (fun e => absurd e.2 (by decide))]
  have hE_0_0_1 : ∀ j : Int, w_ei ws (w_ar ws (n_v vs 0) 0) j = w_ei w1 (w_ar ws (n_v vs 0) 0) j := fun j => s1.1 _ _
  have hE_0_0_2 : ∀ j : Int, w_ei w1 (w_ar ws (n_v vs 0) 0) j = w_ei w2 (w_ar ws (n_v vs 0) 0) j := fun j => s2.1 _ _
  have hE_0_0_3 : ∀ j : Int, w_ei w2 (w_ar ws (n_v vs 0) 0) j = w_ei w3 (w_ar ws (n_v vs 0) 0) j := fun j => s3.1 _ _
  have hK_0_0 := elq_33 hD hth cr_0_0
  have kz_0_5 := fdq_207 hD hth r0
  have kz_0_6 := fdq_208 hD hth r0
  have kz_0_7 := fdq_297 hD hth r0
  have kz_0_8 := fdq_99 hD hth r0
  have kz_0_9 := fdq_296 hD hth r0
  have nf0 : fc_1 PRD (20, [0, 0, 1], [31, 1, 3, 1, 1, 7, 0, 1, 1, 9, -1, 0, 0]) ws (vs) := ⟨nf_in hl rfl, sgq_1528 (vc_Re_advance_7_0 (v_iv (n_v vs 1)) (v_iv (n_v vs 5)) (v_iv (n_v vs 11)) (w_fi ws (n_v vs 0) 7) (w_fi ws (n_v vs 0) 6) (w_fi ws (n_v vs 0) 8) (w_fi ws (n_v vs 0) 5) (w_fi ws (n_v vs 0) 9) (w_fi w1 (n_v vs 0) 9) (w_fi w2 (n_v vs 0) 6) (w_ei w2 (w_ar ws (n_v vs 0) 0)) (w_fi w2 (n_v vs 0) 9) (w_fi w2 (n_v vs 0) 5) (w_fi w3 (n_v vs 0) 9) (w_ei w3 (w_ar ws (n_v vs 0) 0)) (w_fi w3 (n_v vs 0) 5) (w_fi w3 (n_v vs 0) 6) (w_fi w1 (n_v vs 0) 5) (w_fi w1 (n_v vs 0) 6) (w_fi w1 (n_v vs 0) 8) (w_fi w1 (n_v vs 0) 7) (w_fi w2 (n_v vs 0) 7) (w_fi w2 (n_v vs 0) 8) (w_ei ws (w_ar ws (n_v vs 0) 0)) (w_ei w1 (w_ar ws (n_v vs 0) 0)) k1 k5 k11 d1 d2 fe_0_5_1 fe_0_6_1 fe_0_8_1 fe_0_9_1 fe_0_5_2 fe_0_7_2 fe_0_8_2 fe_0_9_2 fe_0_5_3 fe_0_6_3 fe_0_9_3 hE_0_0_1 hE_0_0_2 hE_0_0_3 hK_0_0 kz_0_5 kz_0_6 kz_0_7 kz_0_8 kz_0_9)⟩
  have nf1 : fc_1 PRD (20, [0, 0, 1], [31, 1, 3, 1, 1, 7, 0, -1, 1, 9, 1, 0, 0]) ws (vs) := ⟨nf_in hl rfl, sgq_1529 (vc_Re_advance_7_1 (v_iv (n_v vs 1)) (v_iv (n_v vs 5)) (v_iv (n_v vs 11)) (w_fi ws (n_v vs 0) 7) (w_fi ws (n_v vs 0) 6) (w_fi ws (n_v vs 0) 8) (w_fi ws (n_v vs 0) 5) (w_fi ws (n_v vs 0) 9) (w_fi w1 (n_v vs 0) 9) (w_fi w2 (n_v vs 0) 6) (w_ei w2 (w_ar ws (n_v vs 0) 0)) (w_fi w2 (n_v vs 0) 9) (w_fi w2 (n_v vs 0) 5) (w_fi w3 (n_v vs 0) 9) (w_ei w3 (w_ar ws (n_v vs 0) 0)) (w_fi w3 (n_v vs 0) 5) (w_fi w3 (n_v vs 0) 6) (w_fi w1 (n_v vs 0) 5) (w_fi w1 (n_v vs 0) 6) (w_fi w1 (n_v vs 0) 8) (w_fi w1 (n_v vs 0) 7) (w_fi w2 (n_v vs 0) 7) (w_fi w2 (n_v vs 0) 8) (w_ei ws (w_ar ws (n_v vs 0) 0)) (w_ei w1 (w_ar ws (n_v vs 0) 0)) k1 k5 k11 d1 d2 fe_0_5_1 fe_0_6_1 fe_0_8_1 fe_0_9_1 fe_0_5_2 fe_0_7_2 fe_0_8_2 fe_0_9_2 fe_0_5_3 fe_0_6_3 fe_0_9_3 hE_0_0_1 hE_0_0_2 hE_0_0_3 hK_0_0 kz_0_5 kz_0_6 kz_0_7 kz_0_8 kz_0_9)⟩
  have nf2 : fc_1 PRD (20, [0, 0, 0, 0], [31, 1, -3, -1, 1, 7, 4008, 1, 1, 6, -1, 1, 8, 2000, 1, 7]) ws (vs) := ⟨nf_in hl rfl, sgq_1530 (vc_Re_advance_7_2 (v_iv (n_v vs 5)) (v_iv (n_v vs 11)) (w_fi ws (n_v vs 0) 7) (w_fi ws (n_v vs 0) 6) (w_fi ws (n_v vs 0) 8) (w_fi ws (n_v vs 0) 5) (w_fi ws (n_v vs 0) 9) (w_fi w1 (n_v vs 0) 9) (w_fi w2 (n_v vs 0) 6) (w_ei w2 (w_ar ws (n_v vs 0) 0)) (w_fi w2 (n_v vs 0) 9) (w_fi w2 (n_v vs 0) 5) (w_fi w3 (n_v vs 0) 9) (w_ei w3 (w_ar ws (n_v vs 0) 0)) (w_fi w3 (n_v vs 0) 5) (w_fi w3 (n_v vs 0) 6) (w_fi w1 (n_v vs 0) 5) (w_fi w1 (n_v vs 0) 6) (w_fi w1 (n_v vs 0) 8) (w_fi w1 (n_v vs 0) 7) (w_fi w2 (n_v vs 0) 7) (w_fi w2 (n_v vs 0) 8) (w_ei ws (w_ar ws (n_v vs 0) 0)) (w_ei w1 (w_ar ws (n_v vs 0) 0)) k5 k11 d1 d2 fe_0_5_1 fe_0_6_1 fe_0_8_1 fe_0_9_1 fe_0_5_2 fe_0_7_2 fe_0_8_2 fe_0_9_2 fe_0_5_3 fe_0_6_3 fe_0_9_3 hE_0_0_1 hE_0_0_2 hE_0_0_3 hK_0_0 kz_0_5 kz_0_6 kz_0_7 kz_0_8 kz_0_9)⟩
  have nf3 : fc_1 PRD (20, [0, 0], [30, 0, 1, 1, 8, -1, 1, 6]) ws (vs) := ⟨nf_in hl rfl, sgq_1531 (vc_Re_advance_7_3 (v_iv (n_v vs 5)) (v_iv (n_v vs 11)) (w_fi ws (n_v vs 0) 6) (w_fi ws (n_v vs 0) 8) (w_fi ws (n_v vs 0) 5) (w_fi ws (n_v vs 0) 9) (w_fi w1 (n_v vs 0) 9) (w_fi w2 (n_v vs 0) 6) (w_ei w2 (w_ar ws (n_v vs 0) 0)) (w_fi w2 (n_v vs 0) 9) (w_fi w2 (n_v vs 0) 5) (w_fi w3 (n_v vs 0) 9) (w_ei w3 (w_ar ws (n_v vs 0) 0)) (w_fi w3 (n_v vs 0) 5) (w_fi w3 (n_v vs 0) 6) (w_fi w1 (n_v vs 0) 5) (w_fi w1 (n_v vs 0) 6) (w_fi w1 (n_v vs 0) 8) (w_fi w1 (n_v vs 0) 7) (w_fi w2 (n_v vs 0) 7) (w_fi w2 (n_v vs 0) 8) (w_ei ws (w_ar ws (n_v vs 0) 0)) (w_ei w1 (w_ar ws (n_v vs 0) 0)) k5 k11 d1 d2 fe_0_5_1 fe_0_6_1 fe_0_8_1 fe_0_9_1 fe_0_5_2 fe_0_7_2 fe_0_8_2 fe_0_9_2 fe_0_5_3 fe_0_6_3 fe_0_9_3 hE_0_0_1 hE_0_0_2 hE_0_0_3 hK_0_0 kz_0_5 kz_0_6 kz_0_8 kz_0_9)⟩
  have nf4 : fc_1 PRD (20, [0, 2], [60, 5, 1, 1072, 5, 6, 7, 8, 9, 0]) ws (vs) := ⟨nf_in hl rfl, sgq_1532 (vc_Re_advance_7_4 (v_iv (n_v vs 2)) (v_iv (n_v vs 4)) (v_iv (n_v vs 5)) (v_iv (n_v vs 7)) (v_iv (n_v vs 11)) (v_iv (n_v vs 12)) (w_fi ws (n_v vs 0) 7) (w_fi ws (n_v vs 0) 6) (w_fi ws (n_v vs 0) 8) (w_fi ws (n_v vs 0) 5) (w_fi ws (n_v vs 0) 9) (w_fi w1 (n_v vs 0) 9) (w_fi w2 (n_v vs 0) 6) (w_ei w2 (w_ar ws (n_v vs 0) 0)) (w_fi w2 (n_v vs 0) 9) (w_fi w2 (n_v vs 0) 5) (w_fi w3 (n_v vs 0) 9) (w_ei w3 (w_ar ws (n_v vs 0) 0)) (w_fi w3 (n_v vs 0) 5) (w_fi w3 (n_v vs 0) 6) (w_fi w1 (n_v vs 0) 5) (w_fi w1 (n_v vs 0) 6) (w_fi w1 (n_v vs 0) 8) (w_fi w1 (n_v vs 0) 7) (w_fi w2 (n_v vs 0) 7) (w_fi w2 (n_v vs 0) 8) (w_ei ws (w_ar ws (n_v vs 0) 0)) (w_ei w1 (w_ar ws (n_v vs 0) 0)) k2 k4 k5 k7 k11 k12 d1 d2 g0 g1 g3 g4 (shm_142 f12) (shm_454 f13) g20 h25 (shm_6 f26) f35 fe_0_5_1 fe_0_6_1 fe_0_8_1 fe_0_9_1 fe_0_5_2 fe_0_7_2 fe_0_8_2 fe_0_9_2 fe_0_5_3 fe_0_6_3 fe_0_8_3 fe_0_9_3 hE_0_0_1 hE_0_0_2 hE_0_0_3 hK_0_0 kz_0_5 kz_0_6 kz_0_7 kz_0_8 kz_0_9)⟩
  have nf5 : fc_1 PRD (20, [2, 0], [30, 0, 1, 0, 0, -1, 1, 6]) ws (vs) := ⟨nf_in hl rfl, sgq_1527 (vc_Re_advance_7_5 (v_iv (n_v vs 2)) (v_iv (n_v vs 5)) (v_iv (n_v vs 11)) (w_fi ws (n_v vs 0) 6) (w_fi ws (n_v vs 0) 8) (w_fi ws (n_v vs 0) 5) (w_fi ws (n_v vs 0) 9) (w_fi w1 (n_v vs 0) 9) (w_fi w2 (n_v vs 0) 6) (w_ei w2 (w_ar ws (n_v vs 0) 0)) (w_fi w2 (n_v vs 0) 9) (w_fi w2 (n_v vs 0) 5) (w_fi w3 (n_v vs 0) 9) (w_ei w3 (w_ar ws (n_v vs 0) 0)) (w_fi w3 (n_v vs 0) 5) (w_fi w3 (n_v vs 0) 6) (w_fi w1 (n_v vs 0) 5) (w_fi w1 (n_v vs 0) 6) (w_fi w1 (n_v vs 0) 8) (w_fi w1 (n_v vs 0) 7) (w_fi w2 (n_v vs 0) 7) (w_fi w2 (n_v vs 0) 8) (w_ei ws (w_ar ws (n_v vs 0) 0)) (w_ei w1 (w_ar ws (n_v vs 0) 0)) k2 k5 k11 d1 d2 fe_0_5_1 fe_0_6_1 fe_0_8_1 fe_0_9_1 fe_0_5_2 fe_0_7_2 fe_0_8_2 fe_0_9_2 fe_0_5_3 fe_0_6_3 fe_0_9_3 hE_0_0_1 hE_0_0_2 hE_0_0_3 hK_0_0 kz_0_5 kz_0_6 kz_0_8 kz_0_9)⟩
  refine ⟨(fun _ h => (by cases h)), [], trivial, ?_, (fun _ h => (by cases h))⟩
  rw [List.append_nil]
  exact List.forall_mem_cons.mpr ⟨⟨show (20 : Nat) < 100 from by decide, nf0⟩, List.forall_mem_cons.mpr ⟨⟨show (20 : Nat) < 100 from by decide, nf1⟩, List.forall_mem_cons.mpr ⟨⟨show (20 : Nat) < 100 from by decide, nf2⟩, List.forall_mem_cons.mpr ⟨⟨show (20 : Nat) < 100 from by decide, nf3⟩, List.forall_mem_cons.mpr ⟨⟨show (20 : Nat) < 100 from by decide, nf4⟩, List.forall_mem_cons.mpr ⟨⟨show (20 : Nat) < 100 from by decide, nf5⟩, (fun _ h => (by cases h))⟩⟩⟩⟩⟩⟩
set_option maxHeartbeats 4000000 in
theorem vc_Re_advance_8_0 (x4 : Int) (x5 : Int) (begin_0 : Int) (tape_0 : Int → Int) (next_0 : Int) (end_0 : Int) (number_0 : Int) (number_1 : Int) (tape_1 : Int → Int) (end_1 : Int) (next_1 : Int) (k4 : 1 ≤ x4 ∧ x4 ≤ 1999) (k5 : 1 ≤ x5 ∧ x5 ≤ 1999) (d0 : x5 + (-4294967296) ≤ x4 ∧ x4 ≤ x5 + (-1)) (d1 : x5 + 0 ≤ x4 ∧ x4 ≤ x5 + 4294967296) (fe_0_5_1 : end_0 = end_1) (fe_0_6_1 : next_0 = next_1) (fe_0_9_1 : number_0 = number_1) (hE_0_0_1 : ∀ j : Int, tape_0 j = tape_1 j) (hK_0_0 : ∀ j : Int, 0 ≤ j → j < 2000 → (-128) ≤ tape_0 j ∧ tape_0 j ≤ 127) (kz_0_5 : 0 ≤ end_0 ∧ end_0 ≤ 2000) (kz_0_6 : 0 ≤ next_0 ∧ next_0 ≤ 2000) (kz_0_8 : 0 ≤ begin_0 ∧ begin_0 ≤ 2000) (kz_0_9 : (-176) ≤ number_0 ∧ number_0 ≤ 1000000) : 1 * begin_0 + ((-1) * next_0 + 0) ≤ 0 := by
  subst fe_0_5_1
  subst fe_0_6_1
  subst fe_0_9_1
  have e_hE_0_0_1 := funext hE_0_0_1; subst e_hE_0_0_1
  first | with_reducible assumption | ((try and_intros) <;> first | with_reducible assumption | (clear hE_0_0_1 hK_0_0; omega)) | omega
set_option maxHeartbeats 4000000 in
theorem vc_Re_advance_8_1 (x2 : Int) (x4 : Int) (x5 : Int) (begin_0 : Int) (tape_0 : Int → Int) (next_0 : Int) (end_0 : Int) (number_0 : Int) (number_1 : Int) (tape_1 : Int → Int) (end_1 : Int) (next_1 : Int) (k2 : 0 ≤ x2 ∧ x2 ≤ 2000) (k4 : 1 ≤ x4 ∧ x4 ≤ 1999) (k5 : 1 ≤ x5 ∧ x5 ≤ 1999) (d0 : x5 + (-4294967296) ≤ x4 ∧ x4 ≤ x5 + (-1)) (d1 : x5 + 0 ≤ x4 ∧ x4 ≤ x5 + 4294967296) (g0 : x4 = begin_0) (g4 : x4 = next_0) (f6 : x4 < x5) (g7 : x5 = end_0) (f17 : CX0 (end_1) (next_1) (tape_1) (x2)) (fe_0_5_1 : end_0 = end_1) (fe_0_6_1 : next_0 = next_1) (fe_0_8_1 : begin_0 = x4) (fe_0_9_1 : number_0 = number_1) (hE_0_0_1 : ∀ j : Int, tape_0 j = tape_1 j) (hK_0_0 : ∀ j : Int, 0 ≤ j → j < 2000 → (-128) ≤ tape_0 j ∧ tape_0 j ≤ 127) (kz_0_5 : 0 ≤ end_0 ∧ end_0 ≤ 2000) (kz_0_6 : 0 ≤ next_0 ∧ next_0 ≤ 2000) (kz_0_8 : 0 ≤ begin_0 ∧ begin_0 ≤ 2000) (kz_0_9 : (-176) ≤ number_0 ∧ number_0 ≤ 1000000) : CXL (end_0) (next_0) (begin_0) (tape_0) (x2) := by
  subst fe_0_5_1
  subst fe_0_6_1
  subst fe_0_9_1
  have e_hE_0_0_1 := funext hE_0_0_1; subst e_hE_0_0_1
  first | subst g0 | skip
  first | subst g4 | skip
  first | subst g7 | skip
  first
    | exact cxl_s (by assumption) ‹CXL _ _ _ _ _› (by omega) (by unfold cIL cIG; omega) (by omega)
    | exact cxl_0 (by assumption) (cx_1 (by assumption) ‹CX0 _ _ _ _› (fun q => by omega) (by omega)) (by omega) (by unfold cIL; omega)
def o_Re_advance_8 : or_T := (94, 9, [(0, (2, 0, 0, [8])), (1, (0, -2147483648, 1000000, [])), (2, (0, 0, 2000, [])), (3, (2, 0, 0, [8])), (4, (0, 1, 1999, [])), (5, (0, 1, 1999, [])), (6, (2, 0, 0, [109])), (7, (0, 65, 90, [])), (8, (0, 1, 1, []))], [(9, [4, 3], [8]), (8, [8], [1]), (20, [7, 8], [61, 0, 1097]), (10, [7, 6, 4], []), (9, [4, 3], [6]), (9, [6, 3], [0]), (7, [4, 5], [2]), (9, [5, 3], [5]), (20, [3, 1], [30, 0, 1, 1, 9, -1, 0, 0]), (20, [3, 1], [30, 0, -1, 1, 9, 1, 0, 0]), (20, [3, 2], [60, 2, 1, 1074, 5, 6, 0]), (20, [2, 3], [30, 0, 1, 0, 0, -1, 1, 6]), (24, [0, 3], []), (101, [3, 4], [8]), (7, [4, 5], [3]), (20, [3, 1], [30, 0, 1, 1, 9, -1, 0, 0]), (20, [3, 1], [30, 0, -1, 1, 9, 1, 0, 0]), (20, [3, 2], [60, 2, 1, 1074, 5, 6, 0]), (20, [2, 3], [30, 0, 1, 0, 0, -1, 1, 6])], [], [], [(20, [3, 3], [30, 0, 1, 1, 8, -1, 1, 6]), (20, [3, 2], [60, 3, 1, 1076, 5, 6, 8, 0])], [], [(4, 5, -4294967296, -1), (4, 5, 0, 4294967296)])
theorem oo_Re_advance_8 {kA : Nat → ClassId} : or_ok PRD kA GG o_Re_advance_8 := by
  refine or_mk fun A ta ws vs hD hth hl => ?_
  intro t0 r0 t1 k1 t2 k2 t3 r3 t4 k4 t5 k5 t6 r6 t7 k7 t8 k8 d0 d1 f0 f1 f2 f3 f4 f5 f6 f7 f8 f9 f10 f11 f12 ta1 w1 le1 s1 f14 f15 f16 f17 f18
  replace f0 := shm_293 f0
  replace f4 := shm_111 f4
  replace f6 := shm_6 f6
  replace f7 := shm_110 f7
  replace f12 := shm_5 f12
  have s1 : (∀ b j, w_el ws b j = w_el w1 b j) ∧ ∀ b j, w_fd ws b j = if b = v_ad (n_v vs 3) ∧ j = 8 then n_v vs 4 else w_fd w1 b j := s1.2
  replace f17 := shm_1526 f17
  have q3 : n_v vs 3 = n_v vs 0 := f12.symm
  simp only [q3] at f0 f4 f7
  rw [q3] at s1
  simp only [q3] at f17
  have ar_0_0_1 : w_ar w1 (n_v vs 0) 0 = w_ar ws (n_v vs 0) 0 := by show v_ad (w_fd w1 _ _) = v_ad (w_fd ws _ _); rw [s1.2, if_neg (fun e => absurd e.2 (by decide))]
  have cr_0_0 := fdq_95 hD hth r0
  have g0 : v_iv (n_v vs 4) = w_fi ws (n_v vs 0) 8 := congrArg v_iv f0
  have g4 : v_iv (n_v vs 4) = w_fi ws (n_v vs 0) 6 := congrArg v_iv f4
  have g7 : v_iv (n_v vs 5) = w_fi ws (n_v vs 0) 5 := congrArg v_iv f7
  simp only [ar_0_0_1] at f17
  have fe_0_5_1 : w_fi ws (n_v vs 0) 5 = w_fi w1 (n_v vs 0) 5 := by show v_iv (w_fd _ _ _) = v_iv (w_fd _ _ _); rw [s1.2, if_neg (fun e => absurd e.2 (by decide))]
  have fe_0_6_1 : w_fi ws (n_v vs 0) 6 = w_fi w1 (n_v vs 0) 6 := by show v_iv (w_fd _ _ _) = v_iv (w_fd _ _ _); rw [s1.2, if_neg (fun e => absurd e.2 (by decide))]
  have fe_0_8_1 : w_fi ws (n_v vs 0) 8 = v_iv (n_v vs 4) := by show v_iv (w_fd _ _ _) = _; rw [s1.2, if_pos ⟨rfl, rfl⟩]
  have fe_0_9_1 : w_fi ws (n_v vs 0) 9 = w_fi w1 (n_v vs 0) 9 := by show v_iv (w_fd _ _ _) = v_iv (w_fd _ _ _); rw [s1.2, if_neg (fun e => absurd e.2 (by decide))]
  have hE_0_0_1 : ∀ j : Int, w_ei ws (w_ar ws (n_v vs 0) 0) j = w_ei w1 (w_ar ws (n_v vs 0) 0) j := fun j => s1.1 _ _
  have hK_0_0 := elq_33 hD hth cr_0_0
  have kz_0_5 := fdq_207 hD hth r0
  have kz_0_6 := fdq_208 hD hth r0
  have kz_0_8 := fdq_99 hD hth r0
  have kz_0_9 := fdq_296 hD hth r0
  have nf0 : fc_1 PRD (20, [3, 3], [30, 0, 1, 1, 8, -1, 1, 6]) ws (vs) := by
    refine ⟨nf_in hl rfl, sgq_1531 ?_⟩
    · show 1 * w_fi ws (n_v vs 3) 8 + ((-1) * w_fi ws (n_v vs 3) 6 + 0) ≤ 0
      rw [q3]
      exact vc_Re_advance_8_0 (v_iv (n_v vs 4)) (v_iv (n_v vs 5)) (w_fi ws (n_v vs 0) 8) (w_ei ws (w_ar ws (n_v vs 0) 0)) (w_fi ws (n_v vs 0) 6) (w_fi ws (n_v vs 0) 5) (w_fi ws (n_v vs 0) 9) (w_fi w1 (n_v vs 0) 9) (w_ei w1 (w_ar ws (n_v vs 0) 0)) (w_fi w1 (n_v vs 0) 5) (w_fi w1 (n_v vs 0) 6) k4 k5 d0 d1 fe_0_5_1 fe_0_6_1 fe_0_9_1 hE_0_0_1 hK_0_0 kz_0_5 kz_0_6 kz_0_8 kz_0_9
  have nf1 : fc_1 PRD (20, [3, 2], [60, 3, 1, 1076, 5, 6, 8, 0]) ws (vs) := by
    refine ⟨nf_in hl rfl, sgq_1534 ?_⟩
    · show CXL (w_fi ws (n_v vs 3) 5) (w_fi ws (n_v vs 3) 6) (w_fi ws (n_v vs 3) 8) (w_ei ws (w_ar ws (n_v vs 3) 0)) (v_iv (n_v vs 2))
      rw [q3]
      exact vc_Re_advance_8_1 (v_iv (n_v vs 2)) (v_iv (n_v vs 4)) (v_iv (n_v vs 5)) (w_fi ws (n_v vs 0) 8) (w_ei ws (w_ar ws (n_v vs 0) 0)) (w_fi ws (n_v vs 0) 6) (w_fi ws (n_v vs 0) 5) (w_fi ws (n_v vs 0) 9) (w_fi w1 (n_v vs 0) 9) (w_ei w1 (w_ar ws (n_v vs 0) 0)) (w_fi w1 (n_v vs 0) 5) (w_fi w1 (n_v vs 0) 6) k2 k4 k5 d0 d1 g0 g4 f6 g7 f17 fe_0_5_1 fe_0_6_1 fe_0_8_1 fe_0_9_1 hE_0_0_1 hK_0_0 kz_0_5 kz_0_6 kz_0_8 kz_0_9
  refine ⟨(fun _ h => (by cases h)), [], trivial, ?_, (fun _ h => (by cases h))⟩
  rw [List.append_nil]
  exact List.forall_mem_cons.mpr ⟨⟨show (20 : Nat) < 100 from by decide, nf0⟩, List.forall_mem_cons.mpr ⟨⟨show (20 : Nat) < 100 from by decide, nf1⟩, (fun _ h => (by cases h))⟩⟩
set_option maxHeartbeats 4000000 in
theorem vc_Re_advance_9_0 (x4 : Int) (x5 : Int) (begin_0 : Int) (tape_0 : Int → Int) (next_0 : Int) (end_0 : Int) (number_0 : Int) (number_1 : Int) (tape_1 : Int → Int) (end_1 : Int) (next_1 : Int) (k4 : 1 ≤ x4 ∧ x4 ≤ 1999) (k5 : 1 ≤ x5 ∧ x5 ≤ 1999) (d0 : x5 + (-4294967296) ≤ x4 ∧ x4 ≤ x5 + (-1)) (d1 : x5 + 0 ≤ x4 ∧ x4 ≤ x5 + 4294967296) (fe_0_5_1 : end_0 = end_1) (fe_0_6_1 : next_0 = next_1) (fe_0_9_1 : number_0 = number_1) (hE_0_0_1 : ∀ j : Int, tape_0 j = tape_1 j) (hK_0_0 : ∀ j : Int, 0 ≤ j → j < 2000 → (-128) ≤ tape_0 j ∧ tape_0 j ≤ 127) (kz_0_5 : 0 ≤ end_0 ∧ end_0 ≤ 2000) (kz_0_6 : 0 ≤ next_0 ∧ next_0 ≤ 2000) (kz_0_8 : 0 ≤ begin_0 ∧ begin_0 ≤ 2000) (kz_0_9 : (-176) ≤ number_0 ∧ number_0 ≤ 1000000) : 1 * begin_0 + ((-1) * next_0 + 0) ≤ 0 := by
  subst fe_0_5_1
  subst fe_0_6_1
  subst fe_0_9_1
  have e_hE_0_0_1 := funext hE_0_0_1; subst e_hE_0_0_1
  first | with_reducible assumption | ((try and_intros) <;> first | with_reducible assumption | (clear hE_0_0_1 hK_0_0; omega)) | omega
set_option maxHeartbeats 4000000 in
theorem vc_Re_advance_9_1 (x2 : Int) (x4 : Int) (x5 : Int) (begin_0 : Int) (tape_0 : Int → Int) (next_0 : Int) (end_0 : Int) (number_0 : Int) (number_1 : Int) (tape_1 : Int → Int) (end_1 : Int) (next_1 : Int) (k2 : 0 ≤ x2 ∧ x2 ≤ 2000) (k4 : 1 ≤ x4 ∧ x4 ≤ 1999) (k5 : 1 ≤ x5 ∧ x5 ≤ 1999) (d0 : x5 + (-4294967296) ≤ x4 ∧ x4 ≤ x5 + (-1)) (d1 : x5 + 0 ≤ x4 ∧ x4 ≤ x5 + 4294967296) (g0 : x4 = begin_0) (g4 : x4 = next_0) (f6 : x4 < x5) (g7 : x5 = end_0) (f17 : CX0 (end_1) (next_1) (tape_1) (x2)) (fe_0_5_1 : end_0 = end_1) (fe_0_6_1 : next_0 = next_1) (fe_0_8_1 : begin_0 = x4) (fe_0_9_1 : number_0 = number_1) (hE_0_0_1 : ∀ j : Int, tape_0 j = tape_1 j) (hK_0_0 : ∀ j : Int, 0 ≤ j → j < 2000 → (-128) ≤ tape_0 j ∧ tape_0 j ≤ 127) (kz_0_5 : 0 ≤ end_0 ∧ end_0 ≤ 2000) (kz_0_6 : 0 ≤ next_0 ∧ next_0 ≤ 2000) (kz_0_8 : 0 ≤ begin_0 ∧ begin_0 ≤ 2000) (kz_0_9 : (-176) ≤ number_0 ∧ number_0 ≤ 1000000) : CXL (end_0) (next_0) (begin_0) (tape_0) (x2) := by
  subst fe_0_5_1
  subst fe_0_6_1
  subst fe_0_9_1
  have e_hE_0_0_1 := funext hE_0_0_1; subst e_hE_0_0_1
  first | subst g0 | skip
  first | subst g4 | skip
  first | subst g7 | skip
  first
    | exact cxl_s (by assumption) ‹CXL _ _ _ _ _› (by omega) (by unfold cIL cIG; omega) (by omega)
    | exact cxl_0 (by assumption) (cx_1 (by assumption) ‹CX0 _ _ _ _› (fun q => by omega) (by omega)) (by omega) (by unfold cIL; omega)
def o_Re_advance_9 : or_T := (94, 9, [(0, (2, 0, 0, [8])), (1, (0, -2147483648, 1000000, [])), (2, (0, 0, 2000, [])), (3, (2, 0, 0, [8])), (4, (0, 1, 1999, [])), (5, (0, 1, 1999, [])), (6, (2, 0, 0, [109])), (7, (0, 97, 122, [])), (8, (0, 1, 1, []))], [(9, [4, 3], [8]), (8, [8], [1]), (20, [7, 8], [61, 0, 1097]), (10, [7, 6, 4], []), (9, [4, 3], [6]), (9, [6, 3], [0]), (7, [4, 5], [2]), (9, [5, 3], [5]), (20, [3, 1], [30, 0, 1, 1, 9, -1, 0, 0]), (20, [3, 1], [30, 0, -1, 1, 9, 1, 0, 0]), (20, [3, 2], [60, 2, 1, 1074, 5, 6, 0]), (20, [2, 3], [30, 0, 1, 0, 0, -1, 1, 6]), (24, [0, 3], []), (101, [3, 4], [8]), (7, [4, 5], [3]), (20, [3, 1], [30, 0, 1, 1, 9, -1, 0, 0]), (20, [3, 1], [30, 0, -1, 1, 9, 1, 0, 0]), (20, [3, 2], [60, 2, 1, 1074, 5, 6, 0]), (20, [2, 3], [30, 0, 1, 0, 0, -1, 1, 6])], [], [], [(20, [3, 3], [30, 0, 1, 1, 8, -1, 1, 6]), (20, [3, 2], [60, 3, 1, 1076, 5, 6, 8, 0])], [], [(4, 5, -4294967296, -1), (4, 5, 0, 4294967296)])
theorem oo_Re_advance_9 {kA : Nat → ClassId} : or_ok PRD kA GG o_Re_advance_9 := by
  refine or_mk fun A ta ws vs hD hth hl => ?_
  intro t0 r0 t1 k1 t2 k2 t3 r3 t4 k4 t5 k5 t6 r6 t7 k7 t8 k8 d0 d1 f0 f1 f2 f3 f4 f5 f6 f7 f8 f9 f10 f11 f12 ta1 w1 le1 s1 f14 f15 f16 f17 f18
  replace f0 := shm_293 f0
  replace f4 := shm_111 f4
  replace f6 := shm_6 f6
  replace f7 := shm_110 f7
  replace f12 := shm_5 f12
  have s1 : (∀ b j, w_el ws b j = w_el w1 b j) ∧ ∀ b j, w_fd ws b j = if b = v_ad (n_v vs 3) ∧ j = 8 then n_v vs 4 else w_fd w1 b j := s1.2
  replace f17 := shm_1526 f17
  have q3 : n_v vs 3 = n_v vs 0 := f12.symm
  simp only [q3] at f0 f4 f7
  rw [q3] at s1
  simp only [q3] at f17
  have ar_0_0_1 : w_ar w1 (n_v vs 0) 0 = w_ar ws (n_v vs 0) 0 := by show v_ad (w_fd w1 _ _) = v_ad (w_fd ws _ _); rw [s1.2, if_neg (fun e => absurd e.2 (by decide))]
  have cr_0_0 := fdq_95 hD hth r0
  have g0 : v_iv (n_v vs 4) = w_fi ws (n_v vs 0) 8 := congrArg v_iv f0
  have g4 : v_iv (n_v vs 4) = w_fi ws (n_v vs 0) 6 := congrArg v_iv f4
  have g7 : v_iv (n_v vs 5) = w_fi ws (n_v vs 0) 5 := congrArg v_iv f7
  simp only [ar_0_0_1] at f17
  have fe_0_5_1 : w_fi ws (n_v vs 0) 5 = w_fi w1 (n_v vs 0) 5 := by show v_iv (w_fd _ _ _) = v_iv (w_fd _ _ _); rw [s1.2, if_neg (fun e => absurd e.2 (by decide))]
  have fe_0_6_1 : w_fi ws (n_v vs 0) 6 = w_fi w1 (n_v vs 0) 6 := by show v_iv (w_fd _ _ _) = v_iv (w_fd _ _ _); rw [s1.2, if_neg (fun e => absurd e.2 (by decide))]
  have fe_0_8_1 : w_fi ws (n_v vs 0) 8 = v_iv (n_v vs 4) := by show v_iv (w_fd _ _ _) = _; rw [s1.2, if_pos ⟨rfl, rfl⟩]
  have fe_0_9_1 : w_fi ws (n_v vs 0) 9 = w_fi w1 (n_v vs 0) 9 := by show v_iv (w_fd _ _ _) = v_iv (w_fd _ _ _); rw [s1.2, if_neg (fun e => absurd e.2 (by decide))]
  have hE_0_0_1 : ∀ j : Int, w_ei ws (w_ar ws (n_v vs 0) 0) j = w_ei w1 (w_ar ws (n_v vs 0) 0) j := fun j => s1.1 _ _
  have hK_0_0 := elq_33 hD hth cr_0_0
  have kz_0_5 := fdq_207 hD hth r0
  have kz_0_6 := fdq_208 hD hth r0
  have kz_0_8 := fdq_99 hD hth r0
  have kz_0_9 := fdq_296 hD hth r0
  have nf0 : fc_1 PRD (20, [3, 3], [30, 0, 1, 1, 8, -1, 1, 6]) ws (vs) := by
    refine ⟨nf_in hl rfl, sgq_1531 ?_⟩
    · show 1 * w_fi ws (n_v vs 3) 8 + ((-1) * w_fi ws (n_v vs 3) 6 + 0) ≤ 0
      rw [q3]
      exact vc_Re_advance_9_0 (v_iv (n_v vs 4)) (v_iv (n_v vs 5)) (w_fi ws (n_v vs 0) 8) (w_ei ws (w_ar ws (n_v vs 0) 0)) (w_fi ws (n_v vs 0) 6) (w_fi ws (n_v vs 0) 5) (w_fi ws (n_v vs 0) 9) (w_fi w1 (n_v vs 0) 9) (w_ei w1 (w_ar ws (n_v vs 0) 0)) (w_fi w1 (n_v vs 0) 5) (w_fi w1 (n_v vs 0) 6) k4 k5 d0 d1 fe_0_5_1 fe_0_6_1 fe_0_9_1 hE_0_0_1 hK_0_0 kz_0_5 kz_0_6 kz_0_8 kz_0_9
  have nf1 : fc_1 PRD (20, [3, 2], [60, 3, 1, 1076, 5, 6, 8, 0]) ws (vs) := by
    refine ⟨nf_in hl rfl, sgq_1534 ?_⟩
    · show CXL (w_fi ws (n_v vs 3) 5) (w_fi ws (n_v vs 3) 6) (w_fi ws (n_v vs 3) 8) (w_ei ws (w_ar ws (n_v vs 3) 0)) (v_iv (n_v vs 2))
      rw [q3]
      exact vc_Re_advance_9_1 (v_iv (n_v vs 2)) (v_iv (n_v vs 4)) (v_iv (n_v vs 5)) (w_fi ws (n_v vs 0) 8) (w_ei ws (w_ar ws (n_v vs 0) 0)) (w_fi ws (n_v vs 0) 6) (w_fi ws (n_v vs 0) 5) (w_fi ws (n_v vs 0) 9) (w_fi w1 (n_v vs 0) 9) (w_ei w1 (w_ar ws (n_v vs 0) 0)) (w_fi w1 (n_v vs 0) 5) (w_fi w1 (n_v vs 0) 6) k2 k4 k5 d0 d1 g0 g4 f6 g7 f17 fe_0_5_1 fe_0_6_1 fe_0_8_1 fe_0_9_1 hE_0_0_1 hK_0_0 kz_0_5 kz_0_6 kz_0_8 kz_0_9
  refine ⟨(fun _ h => (by cases h)), [], trivial, ?_, (fun _ h => (by cases h))⟩
  rw [List.append_nil]
  exact List.forall_mem_cons.mpr ⟨⟨show (20 : Nat) < 100 from by decide, nf0⟩, List.forall_mem_cons.mpr ⟨⟨show (20 : Nat) < 100 from by decide, nf1⟩, (fun _ h => (by cases h))⟩⟩
set_option maxHeartbeats 4000000 in
theorem vc_Re_advance_10_0 (x1 : Int) (x5 : Int) (x11 : Int) (kind_0 : Int) (next_0 : Int) (begin_0 : Int) (end_0 : Int) (number_0 : Int) (number_1 : Int) (next_2 : Int) (tape_2 : Int → Int) (number_2 : Int) (end_2 : Int) (number_3 : Int) (tape_3 : Int → Int) (end_3 : Int) (next_3 : Int) (end_1 : Int) (next_1 : Int) (begin_1 : Int) (kind_1 : Int) (kind_2 : Int) (begin_2 : Int) (tape_0 : Int → Int) (tape_1 : Int → Int) (k1 : (-2147483648) ≤ x1 ∧ x1 ≤ 1000000) (k5 : 1 ≤ x5 ∧ x5 ≤ 1999) (k11 : 2 ≤ x11 ∧ x11 ≤ 2000) (d1 : x5 + (-4294967296) ≤ x11 ∧ x11 ≤ x5 + 0) (d2 : x5 + 1 ≤ x11 ∧ x11 ≤ x5 + 4294967296) (fe_0_5_1 : end_0 = end_1) (fe_0_6_1 : next_0 = next_1) (fe_0_8_1 : begin_0 = begin_1) (fe_0_9_1 : number_0 = number_1) (fe_0_5_2 : end_1 = end_2) (fe_0_7_2 : kind_1 = kind_2) (fe_0_8_2 : begin_1 = begin_2) (fe_0_9_2 : number_1 = number_2) (fe_0_5_3 : end_2 = end_3) (fe_0_6_3 : next_2 = next_3) (fe_0_9_3 : number_2 = number_3) (hE_0_0_1 : ∀ j : Int, tape_0 j = tape_1 j) (hE_0_0_2 : ∀ j : Int, tape_1 j = tape_2 j) (hE_0_0_3 : ∀ j : Int, tape_2 j = tape_3 j) (hK_0_0 : ∀ j : Int, 0 ≤ j → j < 2000 → (-128) ≤ tape_0 j ∧ tape_0 j ≤ 127) (kz_0_5 : 0 ≤ end_0 ∧ end_0 ≤ 2000) (kz_0_6 : 0 ≤ next_0 ∧ next_0 ≤ 2000) (kz_0_7 : (-128) ≤ kind_0 ∧ kind_0 ≤ 127) (kz_0_8 : 0 ≤ begin_0 ∧ begin_0 ≤ 2000) (kz_0_9 : (-176) ≤ number_0 ∧ number_0 ≤ 1000000) : (1 * kind_0 + 0 ≤ 3) ∨ (1 * number_0 + ((-1) * x1 + 0) ≤ 0) := by
  subst fe_0_5_1
  subst fe_0_6_1
  subst fe_0_8_1
  subst fe_0_9_1
  subst fe_0_5_2
  subst fe_0_7_2
  subst fe_0_8_2
  subst fe_0_9_2
  subst fe_0_5_3
  subst fe_0_6_3
  subst fe_0_9_3
  have e_hE_0_0_1 := funext hE_0_0_1; subst e_hE_0_0_1
  have e_hE_0_0_2 := funext hE_0_0_2; subst e_hE_0_0_2
  have e_hE_0_0_3 := funext hE_0_0_3; subst e_hE_0_0_3
  first | with_reducible assumption | ((try and_intros) <;> first | with_reducible assumption | (clear hE_0_0_1 hE_0_0_2 hE_0_0_3 hK_0_0; omega)) | omega
set_option maxHeartbeats 4000000 in
theorem vc_Re_advance_10_1 (x1 : Int) (x5 : Int) (x11 : Int) (kind_0 : Int) (next_0 : Int) (begin_0 : Int) (end_0 : Int) (number_0 : Int) (number_1 : Int) (next_2 : Int) (tape_2 : Int → Int) (number_2 : Int) (end_2 : Int) (number_3 : Int) (tape_3 : Int → Int) (end_3 : Int) (next_3 : Int) (end_1 : Int) (next_1 : Int) (begin_1 : Int) (kind_1 : Int) (kind_2 : Int) (begin_2 : Int) (tape_0 : Int → Int) (tape_1 : Int → Int) (k1 : (-2147483648) ≤ x1 ∧ x1 ≤ 1000000) (k5 : 1 ≤ x5 ∧ x5 ≤ 1999) (k11 : 2 ≤ x11 ∧ x11 ≤ 2000) (d1 : x5 + (-4294967296) ≤ x11 ∧ x11 ≤ x5 + 0) (d2 : x5 + 1 ≤ x11 ∧ x11 ≤ x5 + 4294967296) (fe_0_5_1 : end_0 = end_1) (fe_0_6_1 : next_0 = next_1) (fe_0_8_1 : begin_0 = begin_1) (fe_0_9_1 : number_0 = number_1) (fe_0_5_2 : end_1 = end_2) (fe_0_7_2 : kind_1 = kind_2) (fe_0_8_2 : begin_1 = begin_2) (fe_0_9_2 : number_1 = number_2) (fe_0_5_3 : end_2 = end_3) (fe_0_6_3 : next_2 = next_3) (fe_0_9_3 : number_2 = number_3) (hE_0_0_1 : ∀ j : Int, tape_0 j = tape_1 j) (hE_0_0_2 : ∀ j : Int, tape_1 j = tape_2 j) (hE_0_0_3 : ∀ j : Int, tape_2 j = tape_3 j) (hK_0_0 : ∀ j : Int, 0 ≤ j → j < 2000 → (-128) ≤ tape_0 j ∧ tape_0 j ≤ 127) (kz_0_5 : 0 ≤ end_0 ∧ end_0 ≤ 2000) (kz_0_6 : 0 ≤ next_0 ∧ next_0 ≤ 2000) (kz_0_7 : (-128) ≤ kind_0 ∧ kind_0 ≤ 127) (kz_0_8 : 0 ≤ begin_0 ∧ begin_0 ≤ 2000) (kz_0_9 : (-176) ≤ number_0 ∧ number_0 ≤ 1000000) : (1 * kind_0 + 0 ≤ 3) ∨ ((-1) * number_0 + (1 * x1 + 0) ≤ 0) := by
  subst fe_0_5_1
  subst fe_0_6_1
  subst fe_0_8_1
  subst fe_0_9_1
  subst fe_0_5_2
  subst fe_0_7_2
  subst fe_0_8_2
  subst fe_0_9_2
  subst fe_0_5_3
  subst fe_0_6_3
  subst fe_0_9_3
  have e_hE_0_0_1 := funext hE_0_0_1; subst e_hE_0_0_1
  have e_hE_0_0_2 := funext hE_0_0_2; subst e_hE_0_0_2
  have e_hE_0_0_3 := funext hE_0_0_3; subst e_hE_0_0_3
  first | with_reducible assumption | ((try and_intros) <;> first | with_reducible assumption | (clear hE_0_0_1 hE_0_0_2 hE_0_0_3 hK_0_0; omega)) | omega
set_option maxHeartbeats 4000000 in
theorem vc_Re_advance_10_2 (x5 : Int) (x11 : Int) (kind_0 : Int) (next_0 : Int) (begin_0 : Int) (end_0 : Int) (number_0 : Int) (number_1 : Int) (next_2 : Int) (tape_2 : Int → Int) (number_2 : Int) (end_2 : Int) (number_3 : Int) (tape_3 : Int → Int) (end_3 : Int) (next_3 : Int) (end_1 : Int) (next_1 : Int) (begin_1 : Int) (kind_1 : Int) (kind_2 : Int) (begin_2 : Int) (tape_0 : Int → Int) (tape_1 : Int → Int) (k5 : 1 ≤ x5 ∧ x5 ≤ 1999) (k11 : 2 ≤ x11 ∧ x11 ≤ 2000) (d1 : x5 + (-4294967296) ≤ x11 ∧ x11 ≤ x5 + 0) (d2 : x5 + 1 ≤ x11 ∧ x11 ≤ x5 + 4294967296) (fe_0_5_1 : end_0 = end_1) (fe_0_6_1 : next_0 = next_1) (fe_0_8_1 : begin_0 = begin_1) (fe_0_9_1 : number_0 = number_1) (fe_0_5_2 : end_1 = end_2) (fe_0_7_2 : kind_1 = kind_2) (fe_0_8_2 : begin_1 = begin_2) (fe_0_9_2 : number_1 = number_2) (fe_0_5_3 : end_2 = end_3) (fe_0_6_3 : next_2 = next_3) (fe_0_9_3 : number_2 = number_3) (hE_0_0_1 : ∀ j : Int, tape_0 j = tape_1 j) (hE_0_0_2 : ∀ j : Int, tape_1 j = tape_2 j) (hE_0_0_3 : ∀ j : Int, tape_2 j = tape_3 j) (hK_0_0 : ∀ j : Int, 0 ≤ j → j < 2000 → (-128) ≤ tape_0 j ∧ tape_0 j ≤ 127) (kz_0_5 : 0 ≤ end_0 ∧ end_0 ≤ 2000) (kz_0_6 : 0 ≤ next_0 ∧ next_0 ≤ 2000) (kz_0_7 : (-128) ≤ kind_0 ∧ kind_0 ≤ 127) (kz_0_8 : 0 ≤ begin_0 ∧ begin_0 ≤ 2000) (kz_0_9 : (-176) ≤ number_0 ∧ number_0 ≤ 1000000) : ((-1) * kind_0 + 0 ≤ (-3)) ∨ (1 * next_0 + ((-1) * begin_0 + (2000 * kind_0 + 0)) ≤ 4008) := by
  subst fe_0_5_1
  subst fe_0_6_1
  subst fe_0_8_1
  subst fe_0_9_1
  subst fe_0_5_2
  subst fe_0_7_2
  subst fe_0_8_2
  subst fe_0_9_2
  subst fe_0_5_3
  subst fe_0_6_3
  subst fe_0_9_3
  have e_hE_0_0_1 := funext hE_0_0_1; subst e_hE_0_0_1
  have e_hE_0_0_2 := funext hE_0_0_2; subst e_hE_0_0_2
  have e_hE_0_0_3 := funext hE_0_0_3; subst e_hE_0_0_3
  first | with_reducible assumption | ((try and_intros) <;> first | with_reducible assumption | (clear hE_0_0_1 hE_0_0_2 hE_0_0_3 hK_0_0; omega)) | omega
set_option maxHeartbeats 4000000 in
theorem vc_Re_advance_10_3 (x5 : Int) (x11 : Int) (next_0 : Int) (begin_0 : Int) (end_0 : Int) (number_0 : Int) (number_1 : Int) (next_2 : Int) (tape_2 : Int → Int) (number_2 : Int) (end_2 : Int) (number_3 : Int) (tape_3 : Int → Int) (end_3 : Int) (next_3 : Int) (end_1 : Int) (next_1 : Int) (begin_1 : Int) (kind_1 : Int) (kind_2 : Int) (begin_2 : Int) (tape_0 : Int → Int) (tape_1 : Int → Int) (k5 : 1 ≤ x5 ∧ x5 ≤ 1999) (k11 : 2 ≤ x11 ∧ x11 ≤ 2000) (d1 : x5 + (-4294967296) ≤ x11 ∧ x11 ≤ x5 + 0) (d2 : x5 + 1 ≤ x11 ∧ x11 ≤ x5 + 4294967296) (fe_0_5_1 : end_0 = end_1) (fe_0_6_1 : next_0 = next_1) (fe_0_8_1 : begin_0 = begin_1) (fe_0_9_1 : number_0 = number_1) (fe_0_5_2 : end_1 = end_2) (fe_0_7_2 : kind_1 = kind_2) (fe_0_8_2 : begin_1 = begin_2) (fe_0_9_2 : number_1 = number_2) (fe_0_5_3 : end_2 = end_3) (fe_0_6_3 : next_2 = next_3) (fe_0_9_3 : number_2 = number_3) (hE_0_0_1 : ∀ j : Int, tape_0 j = tape_1 j) (hE_0_0_2 : ∀ j : Int, tape_1 j = tape_2 j) (hE_0_0_3 : ∀ j : Int, tape_2 j = tape_3 j) (hK_0_0 : ∀ j : Int, 0 ≤ j → j < 2000 → (-128) ≤ tape_0 j ∧ tape_0 j ≤ 127) (kz_0_5 : 0 ≤ end_0 ∧ end_0 ≤ 2000) (kz_0_6 : 0 ≤ next_0 ∧ next_0 ≤ 2000) (kz_0_8 : 0 ≤ begin_0 ∧ begin_0 ≤ 2000) (kz_0_9 : (-176) ≤ number_0 ∧ number_0 ≤ 1000000) : 1 * begin_0 + ((-1) * next_0 + 0) ≤ 0 := by
  subst fe_0_5_1
  subst fe_0_6_1
  subst fe_0_8_1
  subst fe_0_9_1
  subst fe_0_5_2
  subst fe_0_7_2
  subst fe_0_8_2
  subst fe_0_9_2
  subst fe_0_5_3
  subst fe_0_6_3
  subst fe_0_9_3
  have e_hE_0_0_1 := funext hE_0_0_1; subst e_hE_0_0_1
  have e_hE_0_0_2 := funext hE_0_0_2; subst e_hE_0_0_2
  have e_hE_0_0_3 := funext hE_0_0_3; subst e_hE_0_0_3
  first | with_reducible assumption | ((try and_intros) <;> first | with_reducible assumption | (clear hE_0_0_1 hE_0_0_2 hE_0_0_3 hK_0_0; omega)) | omega
set_option maxHeartbeats 4000000 in
theorem vc_Re_advance_10_4 (x2 : Int) (x4 : Int) (x5 : Int) (x7 : Int) (x11 : Int) (x12 : Int) (x13 : Int) (kind_0 : Int) (next_0 : Int) (begin_0 : Int) (end_0 : Int) (number_0 : Int) (number_1 : Int) (next_2 : Int) (tape_2 : Int → Int) (number_2 : Int) (end_2 : Int) (number_3 : Int) (tape_3 : Int → Int) (end_3 : Int) (next_3 : Int) (end_1 : Int) (next_1 : Int) (begin_1 : Int) (kind_1 : Int) (kind_2 : Int) (begin_2 : Int) (tape_0 : Int → Int) (tape_1 : Int → Int) (k2 : 0 ≤ x2 ∧ x2 ≤ 2000) (k4 : 1 ≤ x4 ∧ x4 ≤ 1999) (k5 : 1 ≤ x5 ∧ x5 ≤ 1999) (k7 : 123 ≤ x7 ∧ x7 ≤ 127) (k11 : 2 ≤ x11 ∧ x11 ≤ 2000) (k12 : 0 ≤ x12 ∧ x12 ≤ 0) (k13 : 1 ≤ x13 ∧ x13 ≤ 1) (d1 : x5 + (-4294967296) ≤ x11 ∧ x11 ≤ x5 + 0) (d2 : x5 + 1 ≤ x11 ∧ x11 ≤ x5 + 4294967296) (g0 : x13 = kind_0) (g1 : x11 = next_0) (g3 : x4 = begin_0) (g4 : x5 = end_0) (f13 : CSG (x7) (x12)) (g20 : x4 = next_2) (h25 : x7 = tape_2 (x4)) (f26 : x4 < x5) (f35 : CX0 (end_3) (next_3) (tape_3) (x2)) (fe_0_5_1 : end_0 = end_1) (fe_0_6_1 : next_0 = next_1) (fe_0_8_1 : begin_0 = begin_1) (fe_0_9_1 : number_0 = number_1) (fe_0_5_2 : end_1 = end_2) (fe_0_7_2 : kind_1 = kind_2) (fe_0_8_2 : begin_1 = begin_2) (fe_0_9_2 : number_1 = number_2) (fe_0_5_3 : end_2 = end_3) (fe_0_6_3 : next_2 = next_3) (fe_0_8_3 : begin_2 = x4) (fe_0_9_3 : number_2 = number_3) (hE_0_0_1 : ∀ j : Int, tape_0 j = tape_1 j) (hE_0_0_2 : ∀ j : Int, tape_1 j = tape_2 j) (hE_0_0_3 : ∀ j : Int, tape_2 j = tape_3 j) (hK_0_0 : ∀ j : Int, 0 ≤ j → j < 2000 → (-128) ≤ tape_0 j ∧ tape_0 j ≤ 127) (kz_0_5 : 0 ≤ end_0 ∧ end_0 ≤ 2000) (kz_0_6 : 0 ≤ next_0 ∧ next_0 ≤ 2000) (kz_0_7 : (-128) ≤ kind_0 ∧ kind_0 ≤ 127) (kz_0_8 : 0 ≤ begin_0 ∧ begin_0 ≤ 2000) (kz_0_9 : (-176) ≤ number_0 ∧ number_0 ≤ 1000000) : TKC (end_0) (next_0) (kind_0) (begin_0) (number_0) (tape_0) (x2) := by
  subst fe_0_5_1
  subst fe_0_6_1
  subst fe_0_8_1
  subst fe_0_9_1
  subst fe_0_5_2
  subst fe_0_7_2
  subst fe_0_8_2
  subst fe_0_9_2
  subst fe_0_5_3
  subst fe_0_6_3
  subst fe_0_9_3
  have e_hE_0_0_1 := funext hE_0_0_1; subst e_hE_0_0_1
  have e_hE_0_0_2 := funext hE_0_0_2; subst e_hE_0_0_2
  have e_hE_0_0_3 := funext hE_0_0_3; subst e_hE_0_0_3
  first | subst g0 | skip
  first | subst g1 | skip
  first | subst g3 | skip
  first | subst g4 | skip
  first | subst g20 | skip
  first
    | exact cxl_e (by assumption) ‹CXL _ _ _ _ _› (fun q => by omega) (by omega)
    | exact cxl_e (by assumption) ‹CXL _ _ _ _ _› (fun q => cnb_f ‹CNBy _ _› (by omega) (by omega)) (by omega)
    | exact cxd_e (by assumption) ‹CXD _ _ _ _ _ _› (fun q => by unfold cIG; omega) (by omega)
    | exact cxs_e (by assumption) (cx_1 (by assumption) ‹CX0 _ _ _ _› (fun q => by omega) (by omega)) (by omega) rfl (by unfold cIL; omega) (by unfold cIG; omega) (by omega) (Or.inl ⟨csg_t ‹CSG _ _› (by omega) (by omega), by omega⟩)
    | exact cxs_e (by assumption) (cx_1 (by assumption) ‹CX0 _ _ _ _› (fun q => by omega) (by omega)) (by omega) rfl (by unfold cIL; omega) (by unfold cIG; omega) (by omega) (Or.inr ⟨csg_f ‹CSG _ _› (by omega) (by omega), by omega⟩)
set_option maxHeartbeats 4000000 in
theorem vc_Re_advance_10_5 (x2 : Int) (x5 : Int) (x11 : Int) (next_0 : Int) (begin_0 : Int) (end_0 : Int) (number_0 : Int) (number_1 : Int) (next_2 : Int) (tape_2 : Int → Int) (number_2 : Int) (end_2 : Int) (number_3 : Int) (tape_3 : Int → Int) (end_3 : Int) (next_3 : Int) (end_1 : Int) (next_1 : Int) (begin_1 : Int) (kind_1 : Int) (kind_2 : Int) (begin_2 : Int) (tape_0 : Int → Int) (tape_1 : Int → Int) (k2 : 0 ≤ x2 ∧ x2 ≤ 2000) (k5 : 1 ≤ x5 ∧ x5 ≤ 1999) (k11 : 2 ≤ x11 ∧ x11 ≤ 2000) (d1 : x5 + (-4294967296) ≤ x11 ∧ x11 ≤ x5 + 0) (d2 : x5 + 1 ≤ x11 ∧ x11 ≤ x5 + 4294967296) (fe_0_5_1 : end_0 = end_1) (fe_0_6_1 : next_0 = next_1) (fe_0_8_1 : begin_0 = begin_1) (fe_0_9_1 : number_0 = number_1) (fe_0_5_2 : end_1 = end_2) (fe_0_7_2 : kind_1 = kind_2) (fe_0_8_2 : begin_1 = begin_2) (fe_0_9_2 : number_1 = number_2) (fe_0_5_3 : end_2 = end_3) (fe_0_6_3 : next_2 = next_3) (fe_0_9_3 : number_2 = number_3) (hE_0_0_1 : ∀ j : Int, tape_0 j = tape_1 j) (hE_0_0_2 : ∀ j : Int, tape_1 j = tape_2 j) (hE_0_0_3 : ∀ j : Int, tape_2 j = tape_3 j) (hK_0_0 : ∀ j : Int, 0 ≤ j → j < 2000 → (-128) ≤ tape_0 j ∧ tape_0 j ≤ 127) (kz_0_5 : 0 ≤ end_0 ∧ end_0 ≤ 2000) (kz_0_6 : 0 ≤ next_0 ∧ next_0 ≤ 2000) (kz_0_8 : 0 ≤ begin_0 ∧ begin_0 ≤ 2000) (kz_0_9 : (-176) ≤ number_0 ∧ number_0 ≤ 1000000) : 1 * x2 + ((-1) * next_0 + 0) ≤ 0 := by
  subst fe_0_5_1
  subst fe_0_6_1
  subst fe_0_8_1
  subst fe_0_9_1
  subst fe_0_5_2
  subst fe_0_7_2
  subst fe_0_8_2
  subst fe_0_9_2
  subst fe_0_5_3
  subst fe_0_6_3
  subst fe_0_9_3
  have e_hE_0_0_1 := funext hE_0_0_1; subst e_hE_0_0_1
  have e_hE_0_0_2 := funext hE_0_0_2; subst e_hE_0_0_2
  have e_hE_0_0_3 := funext hE_0_0_3; subst e_hE_0_0_3
  first | with_reducible assumption | ((try and_intros) <;> first | with_reducible assumption | (clear hE_0_0_1 hE_0_0_2 hE_0_0_3 hK_0_0; omega)) | omega
def o_Re_advance_10 : or_T := (290, 14, [(0, (2, 0, 0, [8])), (1, (0, -2147483648, 1000000, [])), (2, (0, 0, 2000, [])), (3, (2, 0, 0, [8])), (4, (0, 1, 1999, [])), (5, (0, 1, 1999, [])), (6, (2, 0, 0, [109])), (7, (0, 123, 127, [])), (8, (0, 0, 0, [])), (9, (0, 0, 0, [])), (10, (0, 1, 1, [])), (11, (0, 2, 2000, [])), (12, (0, 0, 0, [])), (13, (0, 1, 1, []))], [(9, [13, 3], [7]), (9, [11, 3], [6]), (9, [6, 3], [0]), (9, [4, 3], [8]), (9, [5, 3], [5]), (20, [7, 12], [61, 0, 1100]), (20, [7, 9], [61, 0, 1098]), (20, [7, 8], [61, 0, 1097]), (20, [3, 1], [30, 0, 1, 1, 9, -1, 0, 0]), (20, [3, 1], [30, 0, -1, 1, 9, 1, 0, 0]), (24, [0, 3], []), (101, [3, 13], [7]), (8, [12], [0]), (20, [7, 12], [61, 0, 1100]), (20, [7, 9], [61, 0, 1098]), (20, [7, 8], [61, 0, 1097]), (20, [3, 1], [30, 0, 1, 1, 9, -1, 0, 0]), (20, [3, 1], [30, 0, -1, 1, 9, 1, 0, 0]), (101, [3, 11], [6]), (1, [11, 4, 10], []), (9, [4, 3], [6]), (8, [9], [0]), (20, [7, 9], [61, 0, 1098]), (8, [8], [0]), (20, [7, 8], [61, 0, 1097]), (10, [7, 6, 4], []), (7, [4, 5], [2]), (20, [3, 1], [30, 0, 1, 1, 9, -1, 0, 0]), (20, [3, 1], [30, 0, -1, 1, 9, 1, 0, 0]), (20, [3, 2], [60, 2, 1, 1074, 5, 6, 0]), (20, [2, 3], [30, 0, 1, 0, 0, -1, 1, 6]), (101, [3, 4], [8]), (7, [4, 5], [3]), (20, [3, 1], [30, 0, 1, 1, 9, -1, 0, 0]), (20, [3, 1], [30, 0, -1, 1, 9, 1, 0, 0]), (20, [3, 2], [60, 2, 1, 1074, 5, 6, 0]), (20, [2, 3], [30, 0, 1, 0, 0, -1, 1, 6])], [], [], [(20, [0, 0, 1], [31, 1, 3, 1, 1, 7, 0, 1, 1, 9, -1, 0, 0]), (20, [0, 0, 1], [31, 1, 3, 1, 1, 7, 0, -1, 1, 9, 1, 0, 0]), (20, [0, 0, 0, 0], [31, 1, -3, -1, 1, 7, 4008, 1, 1, 6, -1, 1, 8, 2000, 1, 7]), (20, [0, 0], [30, 0, 1, 1, 8, -1, 1, 6]), (20, [0, 2], [60, 5, 1, 1072, 5, 6, 7, 8, 9, 0]), (20, [2, 0], [30, 0, 1, 0, 0, -1, 1, 6])], [], [(11, 4, 1, 1), (11, 5, -4294967296, 0), (11, 5, 1, 4294967296), (4, 5, -4294967296, -1), (4, 5, 0, 4294967296)])
theorem oo_Re_advance_10 {kA : Nat → ClassId} : or_ok PRD kA GG o_Re_advance_10 := by
  refine or_mk fun A ta ws vs hD hth hl => ?_
  intro t0 r0 t1 k1 t2 k2 t3 r3 t4 k4 t5 k5 t6 r6 t7 k7 t8 k8 t9 k9 t10 k10 t11 k11 t12 k12 t13 k13 d0 d1 d2 d3 d4 f0 f1 f2 f3 f4 f5 f6 f7 f8 f9 f10 ta1 w1 le1 s1 f12 f13 f14 f15 f16 f17 ta2 w2 le2 s2 f19 f20 f21 f22 f23 f24 f25 f26 f27 f28 f29 f30 ta3 w3 le3 s3 f32 f33 f34 f35 f36
  replace f0 := shm_198 f0
  replace f1 := shm_111 f1
  replace f2 := shm_163 f2
  replace f3 := shm_293 f3
  replace f4 := shm_110 f4
  replace f10 := shm_5 f10
  have s1 : (∀ b j, w_el ws b j = w_el w1 b j) ∧ ∀ b j, w_fd ws b j = if b = v_ad (n_v vs 3) ∧ j = 7 then n_v vs 13 else w_fd w1 b j := s1.2
  have s2 : (∀ b j, w_el w1 b j = w_el w2 b j) ∧ ∀ b j, w_fd w1 b j = if b = v_ad (n_v vs 3) ∧ j = 6 then n_v vs 11 else w_fd w2 b j := s2.2
  replace f20 := shm_111 f20
  replace f25 := shm_107 f25
  have s3 : (∀ b j, w_el w2 b j = w_el w3 b j) ∧ ∀ b j, w_fd w2 b j = if b = v_ad (n_v vs 3) ∧ j = 8 then n_v vs 4 else w_fd w3 b j := s3.2
  replace f35 := shm_1526 f35
  have q3 : n_v vs 3 = n_v vs 0 := f10.symm
  simp only [q3] at f0 f1 f2 f3 f4
  rw [q3] at s1
  rw [q3] at s2
  simp only [q3] at f20
  rw [q3] at s3
  simp only [q3] at f35
  have ar_0_0_1 : w_ar w1 (n_v vs 0) 0 = w_ar ws (n_v vs 0) 0 := by show v_ad (w_fd w1 _ _) = v_ad (w_fd ws _ _); rw [s1.2, if_neg (fun e => absurd e.2 (by decide))]
  have ar_0_0_2 : w_ar w2 (n_v vs 0) 0 = w_ar ws (n_v vs 0) 0 := by rw [← ar_0_0_1]; show v_ad (w_fd w2 _ _) = v_ad (w_fd w1 _ _); rw [s2.2, if_neg (fun e => absurd e.2 (by decide))]
  have ar_0_0_3 : w_ar w3 (n_v vs 0) 0 = w_ar ws (n_v vs 0) 0 := by rw [← ar_0_0_2]; show v_ad (w_fd w3 _ _) = v_ad (w_fd w2 _ _); rw [s3.2, if_neg (fun e => absurd e.2 (by decide))]
  have cr_0_0 := fdq_95 hD hth r0
  have ad_6 : v_ad (n_v vs 6) = w_ar ws (n_v vs 0) 0 := congrArg v_ad f2
  have g0 : v_iv (n_v vs 13) = w_fi ws (n_v vs 0) 7 := congrArg v_iv f0
  have g1 : v_iv (n_v vs 11) = w_fi ws (n_v vs 0) 6 := congrArg v_iv f1
  have g3 : v_iv (n_v vs 4) = w_fi ws (n_v vs 0) 8 := congrArg v_iv f3
  have g4 : v_iv (n_v vs 5) = w_fi ws (n_v vs 0) 5 := congrArg v_iv f4
  have g20 : v_iv (n_v vs 4) = w_fi w2 (n_v vs 0) 6 := congrArg v_iv f20
  simp only [ad_6] at f25
  have h25 : v_iv (n_v vs 7) = w_ei w2 (w_ar ws (n_v vs 0) 0) (v_iv (n_v vs 4)) := f25
  simp only [ar_0_0_2, ar_0_0_3] at f35
  have fe_0_5_1 : w_fi ws (n_v vs 0) 5 = w_fi w1 (n_v vs 0) 5 := by show v_iv (w_fd _ _ _) = v_iv (w_fd _ _ _); rw [s1.2, if_neg (fun e => absurd e.2 (by decide))]
  have fe_0_6_1 : w_fi ws (n_v vs 0) 6 = w_fi w1 (n_v vs 0) 6 := by show v_iv (w_fd _ _ _) = v_iv (w_fd _ _ _); rw [s1.2, if_neg (fun e => absurd e.2 (by decide))]
  have fe_0_8_1 : w_fi ws (n_v vs 0) 8 = w_fi w1 (n_v vs 0) 8 := by show v_iv (w_fd _ _ _) = v_iv (w_fd _ _ _); rw [s1.2, if_neg (fun e => absurd e.2 (by decide))]
  have fe_0_9_1 : w_fi ws (n_v vs 0) 9 = w_fi w1 (n_v vs 0) 9 := by show v_iv (w_fd _ _ _) = v_iv (w_fd _ _ _); rw [s1.2, if_neg (fun e => absurd e.2 (by decide))]
  have fe_0_5_2 : w_fi w1 (n_v vs 0) 5 = w_fi w2 (n_v vs 0) 5 := by show v_iv (w_fd _ _ _) = v_iv (w_fd _ _ _); rw [s2.2, if_neg (fun e => absurd e.2 (by decide))]
  have fe_0_7_2 : w_fi w1 (n_v vs 0) 7 = w_fi w2 (n_v vs 0) 7 := by show v_iv (w_fd _ _ _) = v_iv (w_fd _ _ _); rw [s2.2, if_neg (fun e => absurd e.2 (by decide))]
  have fe_0_8_2 : w_fi w1 (n_v vs 0) 8 = w_fi w2 (n_v vs 0) 8 := by show v_iv (w_fd _ _ _) = v_iv (w_fd _ _ _); rw [s2.2, if_neg (fun e => absurd e.2 (by decide))]
  have fe_0_9_2 : w_fi w1 (n_v vs 0) 9 = w_fi w2 (n_v vs 0) 9 := by show v_iv (w_fd _ _ _) = v_iv (w_fd _ _ _); rw [s2.2, if_neg (fun e => absurd e.2 (by decide))]
  have fe_0_5_3 : w_fi w2 (n_v vs 0) 5 = w_fi w3 (n_v vs 0) 5 := by show v_iv (w_fd _ _ _) = v_iv (w_fd _ _ _); rw [s3.2, if_neg (fun e => absurd e.2 (by decide))]
  have fe_0_6_3 : w_fi w2 (n_v vs 0) 6 = w_fi w3 (n_v vs 0) 6 := by show v_iv (w_fd _ _ _) = v_iv (w_fd _ _ _); rw [s3.2, if_neg (fun e => absurd e.2 (by decide))]
  have fe_0_8_3 : w_fi w2 (n_v vs 0) 8 = v_iv (n_v vs 4) := by show v_iv (w_fd _ _ _) = _; rw [s3.2, if_pos ⟨rfl, rfl⟩]
  have fe_0_9_3 : w_fi w2 (n_v vs 0) 9 = w_fi w3 (n_v vs 0) 9 := by show v_iv (w_fd _ _ _) = v_iv (w_fd _ _ _); rw [s3.2, if_neg (fun e => absurd e.2 (by decide))]
  have hE_0_0_1 : ∀ j : Int, w_ei ws (w_ar ws (n_v vs 0) 0) j = w_ei w1 (w_ar ws (n_v vs 0) 0) j := fun j => s1.1 _ _
  have hE_0_0_2 : ∀ j : Int, w_ei w1 (w_ar ws (n_v vs 0) 0) j = w_ei w2 (w_ar ws (n_v vs 0) 0) j := fun j => s2.1 _ _
  have hE_0_0_3 : ∀ j : Int, w_ei w2 (w_ar ws (n_v vs 0) 0) j = w_ei w3 (w_ar ws (n_v vs 0) 0) j := fun j => s3.1 _ _
  have hK_0_0 := elq_33 hD hth cr_0_0
  have kz_0_5 := fdq_207 hD hth r0
  have kz_0_6 := fdq_208 hD hth r0
  have kz_0_7 := fdq_297 hD hth r0
  have kz_0_8 := fdq_99 hD hth r0
  have kz_0_9 := fdq_296 hD hth r0
  have nf0 : fc_1 PRD (20, [0, 0, 1], [31, 1, 3, 1, 1, 7, 0, 1, 1, 9, -1, 0, 0]) ws (vs) := ⟨nf_in hl rfl, sgq_1528 (vc_Re_advance_10_0 (v_iv (n_v vs 1)) (v_iv (n_v vs 5)) (v_iv (n_v vs 11)) (w_fi ws (n_v vs 0) 7) (w_fi ws (n_v vs 0) 6) (w_fi ws (n_v vs 0) 8) (w_fi ws (n_v vs 0) 5) (w_fi ws (n_v vs 0) 9) (w_fi w1 (n_v vs 0) 9) (w_fi w2 (n_v vs 0) 6) (w_ei w2 (w_ar ws (n_v vs 0) 0)) (w_fi w2 (n_v vs 0) 9) (w_fi w2 (n_v vs 0) 5) (w_fi w3 (n_v vs 0) 9) (w_ei w3 (w_ar ws (n_v vs 0) 0)) (w_fi w3 (n_v vs 0) 5) (w_fi w3 (n_v vs 0) 6) (w_fi w1 (n_v vs 0) 5) (w_fi w1 (n_v vs 0) 6) (w_fi w1 (n_v vs 0) 8) (w_fi w1 (n_v vs 0) 7) (w_fi w2 (n_v vs 0) 7) (w_fi w2 (n_v vs 0) 8) (w_ei ws (w_ar ws (n_v vs 0) 0)) (w_ei w1 (w_ar ws (n_v vs 0) 0)) k1 k5 k11 d1 d2 fe_0_5_1 fe_0_6_1 fe_0_8_1 fe_0_9_1 fe_0_5_2 fe_0_7_2 fe_0_8_2 fe_0_9_2 fe_0_5_3 fe_0_6_3 fe_0_9_3 hE_0_0_1 hE_0_0_2 hE_0_0_3 hK_0_0 kz_0_5 kz_0_6 kz_0_7 kz_0_8 kz_0_9)⟩
  have nf1 : fc_1 PRD (20, [0, 0, 1], [31, 1, 3, 1, 1, 7, 0, -1, 1, 9, 1, 0, 0]) ws (vs) := ⟨nf_in hl rfl, sgq_1529 (vc_Re_advance_10_1 (v_iv (n_v vs 1)) (v_iv (n_v vs 5)) (v_iv (n_v vs 11)) (w_fi ws (n_v vs 0) 7) (w_fi ws (n_v vs 0) 6) (w_fi ws (n_v vs 0) 8) (w_fi ws (n_v vs 0) 5) (w_fi ws (n_v vs 0) 9) (w_fi w1 (n_v vs 0) 9) (w_fi w2 (n_v vs 0) 6) (w_ei w2 (w_ar ws (n_v vs 0) 0)) (w_fi w2 (n_v vs 0) 9) (w_fi w2 (n_v vs 0) 5) (w_fi w3 (n_v vs 0) 9) (w_ei w3 (w_ar ws (n_v vs 0) 0)) (w_fi w3 (n_v vs 0) 5) (w_fi w3 (n_v vs 0) 6) (w_fi w1 (n_v vs 0) 5) (w_fi w1 (n_v vs 0) 6) (w_fi w1 (n_v vs 0) 8) (w_fi w1 (n_v vs 0) 7) (w_fi w2 (n_v vs 0) 7) (w_fi w2 (n_v vs 0) 8) (w_ei ws (w_ar ws (n_v vs 0) 0)) (w_ei w1 (w_ar ws (n_v vs 0) 0)) k1 k5 k11 d1 d2 fe_0_5_1 fe_0_6_1 fe_0_8_1 fe_0_9_1 fe_0_5_2 fe_0_7_2 fe_0_8_2 fe_0_9_2 fe_0_5_3 fe_0_6_3 fe_0_9_3 hE_0_0_1 hE_0_0_2 hE_0_0_3 hK_0_0 kz_0_5 kz_0_6 kz_0_7 kz_0_8 kz_0_9)⟩
  have nf2 : fc_1 PRD (20, [0, 0, 0, 0], [31, 1, -3, -1, 1, 7, 4008, 1, 1, 6, -1, 1, 8, 2000, 1, 7]) ws (vs) := ⟨nf_in hl rfl, sgq_1530 (vc_Re_advance_10_2 (v_iv (n_v vs 5)) (v_iv (n_v vs 11)) (w_fi ws (n_v vs 0) 7) (w_fi ws (n_v vs 0) 6) (w_fi ws (n_v vs 0) 8) (w_fi ws (n_v vs 0) 5) (w_fi ws (n_v vs 0) 9) (w_fi w1 (n_v vs 0) 9) (w_fi w2 (n_v vs 0) 6) (w_ei w2 (w_ar ws (n_v vs 0) 0)) (w_fi w2 (n_v vs 0) 9) (w_fi w2 (n_v vs 0) 5) (w_fi w3 (n_v vs 0) 9) (w_ei w3 (w_ar ws (n_v vs 0) 0)) (w_fi w3 (n_v vs 0) 5) (w_fi w3 (n_v vs 0) 6) (w_fi w1 (n_v vs 0) 5) (w_fi w1 (n_v vs 0) 6) (w_fi w1 (n_v vs 0) 8) (w_fi w1 (n_v vs 0) 7) (w_fi w2 (n_v vs 0) 7) (w_fi w2 (n_v vs 0) 8) (w_ei ws (w_ar ws (n_v vs 0) 0)) (w_ei w1 (w_ar ws (n_v vs 0) 0)) k5 k11 d1 d2 fe_0_5_1 fe_0_6_1 fe_0_8_1 fe_0_9_1 fe_0_5_2 fe_0_7_2 fe_0_8_2 fe_0_9_2 fe_0_5_3 fe_0_6_3 fe_0_9_3 hE_0_0_1 hE_0_0_2 hE_0_0_3 hK_0_0 kz_0_5 kz_0_6 kz_0_7 kz_0_8 kz_0_9)⟩
  have nf3 : fc_1 PRD (20, [0, 0], [30, 0, 1, 1, 8, -1, 1, 6]) ws (vs) := ⟨nf_in hl rfl, sgq_1531 (vc_Re_advance_10_3 (v_iv (n_v vs 5)) (v_iv (n_v vs 11)) (w_fi ws (n_v vs 0) 6) (w_fi ws (n_v vs 0) 8) (w_fi ws (n_v vs 0) 5) (w_fi ws (n_v vs 0) 9) (w_fi w1 (n_v vs 0) 9) (w_fi w2 (n_v vs 0) 6) (w_ei w2 (w_ar ws (n_v vs 0) 0)) (w_fi w2 (n_v vs 0) 9) (w_fi w2 (n_v vs 0) 5) (w_fi w3 (n_v vs 0) 9) (w_ei w3 (w_ar ws (n_v vs 0) 0)) (w_fi w3 (n_v vs 0) 5) (w_fi w3 (n_v vs 0) 6) (w_fi w1 (n_v vs 0) 5) (w_fi w1 (n_v vs 0) 6) (w_fi w1 (n_v vs 0) 8) (w_fi w1 (n_v vs 0) 7) (w_fi w2 (n_v vs 0) 7) (w_fi w2 (n_v vs 0) 8) (w_ei ws (w_ar ws (n_v vs 0) 0)) (w_ei w1 (w_ar ws (n_v vs 0) 0)) k5 k11 d1 d2 fe_0_5_1 fe_0_6_1 fe_0_8_1 fe_0_9_1 fe_0_5_2 fe_0_7_2 fe_0_8_2 fe_0_9_2 fe_0_5_3 fe_0_6_3 fe_0_9_3 hE_0_0_1 hE_0_0_2 hE_0_0_3 hK_0_0 kz_0_5 kz_0_6 kz_0_8 kz_0_9)⟩
  have nf4 : fc_1 PRD (20, [0, 2], [60, 5, 1, 1072, 5, 6, 7, 8, 9, 0]) ws (vs) := ⟨nf_in hl rfl, sgq_1532 (vc_Re_advance_10_4 (v_iv (n_v vs 2)) (v_iv (n_v vs 4)) (v_iv (n_v vs 5)) (v_iv (n_v vs 7)) (v_iv (n_v vs 11)) (v_iv (n_v vs 12)) (v_iv (n_v vs 13)) (w_fi ws (n_v vs 0) 7) (w_fi ws (n_v vs 0) 6) (w_fi ws (n_v vs 0) 8) (w_fi ws (n_v vs 0) 5) (w_fi ws (n_v vs 0) 9) (w_fi w1 (n_v vs 0) 9) (w_fi w2 (n_v vs 0) 6) (w_ei w2 (w_ar ws (n_v vs 0) 0)) (w_fi w2 (n_v vs 0) 9) (w_fi w2 (n_v vs 0) 5) (w_fi w3 (n_v vs 0) 9) (w_ei w3 (w_ar ws (n_v vs 0) 0)) (w_fi w3 (n_v vs 0) 5) (w_fi w3 (n_v vs 0) 6) (w_fi w1 (n_v vs 0) 5) (w_fi w1 (n_v vs 0) 6) (w_fi w1 (n_v vs 0) 8) (w_fi w1 (n_v vs 0) 7) (w_fi w2 (n_v vs 0) 7) (w_fi w2 (n_v vs 0) 8) (w_ei ws (w_ar ws (n_v vs 0) 0)) (w_ei w1 (w_ar ws (n_v vs 0) 0)) k2 k4 k5 k7 k11 k12 k13 d1 d2 g0 g1 g3 g4 (shm_454 f13) g20 h25 (shm_6 f26) f35 fe_0_5_1 fe_0_6_1 fe_0_8_1 fe_0_9_1 fe_0_5_2 fe_0_7_2 fe_0_8_2 fe_0_9_2 fe_0_5_3 fe_0_6_3 fe_0_8_3 fe_0_9_3 hE_0_0_1 hE_0_0_2 hE_0_0_3 hK_0_0 kz_0_5 kz_0_6 kz_0_7 kz_0_8 kz_0_9)⟩
  have nf5 : fc_1 PRD (20, [2, 0], [30, 0, 1, 0, 0, -1, 1, 6]) ws (vs) := ⟨nf_in hl rfl, sgq_1527 (vc_Re_advance_10_5 (v_iv (n_v vs 2)) (v_iv (n_v vs 5)) (v_iv (n_v vs 11)) (w_fi ws (n_v vs 0) 6) (w_fi ws (n_v vs 0) 8) (w_fi ws (n_v vs 0) 5) (w_fi ws (n_v vs 0) 9) (w_fi w1 (n_v vs 0) 9) (w_fi w2 (n_v vs 0) 6) (w_ei w2 (w_ar ws (n_v vs 0) 0)) (w_fi w2 (n_v vs 0) 9) (w_fi w2 (n_v vs 0) 5) (w_fi w3 (n_v vs 0) 9) (w_ei w3 (w_ar ws (n_v vs 0) 0)) (w_fi w3 (n_v vs 0) 5) (w_fi w3 (n_v vs 0) 6) (w_fi w1 (n_v vs 0) 5) (w_fi w1 (n_v vs 0) 6) (w_fi w1 (n_v vs 0) 8) (w_fi w1 (n_v vs 0) 7) (w_fi w2 (n_v vs 0) 7) (w_fi w2 (n_v vs 0) 8) (w_ei ws (w_ar ws (n_v vs 0) 0)) (w_ei w1 (w_ar ws (n_v vs 0) 0)) k2 k5 k11 d1 d2 fe_0_5_1 fe_0_6_1 fe_0_8_1 fe_0_9_1 fe_0_5_2 fe_0_7_2 fe_0_8_2 fe_0_9_2 fe_0_5_3 fe_0_6_3 fe_0_9_3 hE_0_0_1 hE_0_0_2 hE_0_0_3 hK_0_0 kz_0_5 kz_0_6 kz_0_8 kz_0_9)⟩
  refine ⟨(fun _ h => (by cases h)), [], trivial, ?_, (fun _ h => (by cases h))⟩
  rw [List.append_nil]
  exact List.forall_mem_cons.mpr ⟨⟨show (20 : Nat) < 100 from by decide, nf0⟩, List.forall_mem_cons.mpr ⟨⟨show (20 : Nat) < 100 from by decide, nf1⟩, List.forall_mem_cons.mpr ⟨⟨show (20 : Nat) < 100 from by decide, nf2⟩, List.forall_mem_cons.mpr ⟨⟨show (20 : Nat) < 100 from by decide, nf3⟩, List.forall_mem_cons.mpr ⟨⟨show (20 : Nat) < 100 from by decide, nf4⟩, List.forall_mem_cons.mpr ⟨⟨show (20 : Nat) < 100 from by decide, nf5⟩, (fun _ h => (by cases h))⟩⟩⟩⟩⟩⟩
set_option maxHeartbeats 4000000 in
theorem vc_Re_advance_11_0 (x1 : Int) (x5 : Int) (x11 : Int) (kind_0 : Int) (next_0 : Int) (begin_0 : Int) (end_0 : Int) (number_0 : Int) (number_1 : Int) (next_2 : Int) (tape_2 : Int → Int) (number_2 : Int) (end_2 : Int) (number_3 : Int) (tape_3 : Int → Int) (end_3 : Int) (next_3 : Int) (end_1 : Int) (next_1 : Int) (begin_1 : Int) (kind_1 : Int) (kind_2 : Int) (begin_2 : Int) (tape_0 : Int → Int) (tape_1 : Int → Int) (k1 : (-2147483648) ≤ x1 ∧ x1 ≤ 1000000) (k5 : 1 ≤ x5 ∧ x5 ≤ 1999) (k11 : 2 ≤ x11 ∧ x11 ≤ 2000) (d1 : x5 + (-4294967296) ≤ x11 ∧ x11 ≤ x5 + 0) (d2 : x5 + 1 ≤ x11 ∧ x11 ≤ x5 + 4294967296) (fe_0_5_1 : end_0 = end_1) (fe_0_6_1 : next_0 = next_1) (fe_0_8_1 : begin_0 = begin_1) (fe_0_9_1 : number_0 = number_1) (fe_0_5_2 : end_1 = end_2) (fe_0_7_2 : kind_1 = kind_2) (fe_0_8_2 : begin_1 = begin_2) (fe_0_9_2 : number_1 = number_2) (fe_0_5_3 : end_2 = end_3) (fe_0_6_3 : next_2 = next_3) (fe_0_9_3 : number_2 = number_3) (hE_0_0_1 : ∀ j : Int, tape_0 j = tape_1 j) (hE_0_0_2 : ∀ j : Int, tape_1 j = tape_2 j) (hE_0_0_3 : ∀ j : Int, tape_2 j = tape_3 j) (hK_0_0 : ∀ j : Int, 0 ≤ j → j < 2000 → (-128) ≤ tape_0 j ∧ tape_0 j ≤ 127) (kz_0_5 : 0 ≤ end_0 ∧ end_0 ≤ 2000) (kz_0_6 : 0 ≤ next_0 ∧ next_0 ≤ 2000) (kz_0_7 : (-128) ≤ kind_0 ∧ kind_0 ≤ 127) (kz_0_8 : 0 ≤ begin_0 ∧ begin_0 ≤ 2000) (kz_0_9 : (-176) ≤ number_0 ∧ number_0 ≤ 1000000) : (1 * kind_0 + 0 ≤ 3) ∨ (1 * number_0 + ((-1) * x1 + 0) ≤ 0) := by
  subst fe_0_5_1
  subst fe_0_6_1
  subst fe_0_8_1
  subst fe_0_9_1
  subst fe_0_5_2
  subst fe_0_7_2
  subst fe_0_8_2
  subst fe_0_9_2
  subst fe_0_5_3
  subst fe_0_6_3
  subst fe_0_9_3
  have e_hE_0_0_1 := funext hE_0_0_1; subst e_hE_0_0_1
  have e_hE_0_0_2 := funext hE_0_0_2; subst e_hE_0_0_2
  have e_hE_0_0_3 := funext hE_0_0_3; subst e_hE_0_0_3
  first | with_reducible assumption | ((try and_intros) <;> first | with_reducible assumption | (clear hE_0_0_1 hE_0_0_2 hE_0_0_3 hK_0_0; omega)) | omega
set_option maxHeartbeats 4000000 in
theorem vc_Re_advance_11_1 (x1 : Int) (x5 : Int) (x11 : Int) (kind_0 : Int) (next_0 : Int) (begin_0 : Int) (end_0 : Int) (number_0 : Int) (number_1 : Int) (next_2 : Int) (tape_2 : Int → Int) (number_2 : Int) (end_2 : Int) (number_3 : Int) (tape_3 : Int → Int) (end_3 : Int) (next_3 : Int) (end_1 : Int) (next_1 : Int) (begin_1 : Int) (kind_1 : Int) (kind_2 : Int) (begin_2 : Int) (tape_0 : Int → Int) (tape_1 : Int → Int) (k1 : (-2147483648) ≤ x1 ∧ x1 ≤ 1000000) (k5 : 1 ≤ x5 ∧ x5 ≤ 1999) (k11 : 2 ≤ x11 ∧ x11 ≤ 2000) (d1 : x5 + (-4294967296) ≤ x11 ∧ x11 ≤ x5 + 0) (d2 : x5 + 1 ≤ x11 ∧ x11 ≤ x5 + 4294967296) (fe_0_5_1 : end_0 = end_1) (fe_0_6_1 : next_0 = next_1) (fe_0_8_1 : begin_0 = begin_1) (fe_0_9_1 : number_0 = number_1) (fe_0_5_2 : end_1 = end_2) (fe_0_7_2 : kind_1 = kind_2) (fe_0_8_2 : begin_1 = begin_2) (fe_0_9_2 : number_1 = number_2) (fe_0_5_3 : end_2 = end_3) (fe_0_6_3 : next_2 = next_3) (fe_0_9_3 : number_2 = number_3) (hE_0_0_1 : ∀ j : Int, tape_0 j = tape_1 j) (hE_0_0_2 : ∀ j : Int, tape_1 j = tape_2 j) (hE_0_0_3 : ∀ j : Int, tape_2 j = tape_3 j) (hK_0_0 : ∀ j : Int, 0 ≤ j → j < 2000 → (-128) ≤ tape_0 j ∧ tape_0 j ≤ 127) (kz_0_5 : 0 ≤ end_0 ∧ end_0 ≤ 2000) (kz_0_6 : 0 ≤ next_0 ∧ next_0 ≤ 2000) (kz_0_7 : (-128) ≤ kind_0 ∧ kind_0 ≤ 127) (kz_0_8 : 0 ≤ begin_0 ∧ begin_0 ≤ 2000) (kz_0_9 : (-176) ≤ number_0 ∧ number_0 ≤ 1000000) : (1 * kind_0 + 0 ≤ 3) ∨ ((-1) * number_0 + (1 * x1 + 0) ≤ 0) := by
  subst fe_0_5_1
  subst fe_0_6_1
  subst fe_0_8_1
  subst fe_0_9_1
  subst fe_0_5_2
  subst fe_0_7_2
  subst fe_0_8_2
  subst fe_0_9_2
  subst fe_0_5_3
  subst fe_0_6_3
  subst fe_0_9_3
  have e_hE_0_0_1 := funext hE_0_0_1; subst e_hE_0_0_1
  have e_hE_0_0_2 := funext hE_0_0_2; subst e_hE_0_0_2
  have e_hE_0_0_3 := funext hE_0_0_3; subst e_hE_0_0_3
  first | with_reducible assumption | ((try and_intros) <;> first | with_reducible assumption | (clear hE_0_0_1 hE_0_0_2 hE_0_0_3 hK_0_0; omega)) | omega
set_option maxHeartbeats 4000000 in
theorem vc_Re_advance_11_2 (x5 : Int) (x11 : Int) (kind_0 : Int) (next_0 : Int) (begin_0 : Int) (end_0 : Int) (number_0 : Int) (number_1 : Int) (next_2 : Int) (tape_2 : Int → Int) (number_2 : Int) (end_2 : Int) (number_3 : Int) (tape_3 : Int → Int) (end_3 : Int) (next_3 : Int) (end_1 : Int) (next_1 : Int) (begin_1 : Int) (kind_1 : Int) (kind_2 : Int) (begin_2 : Int) (tape_0 : Int → Int) (tape_1 : Int → Int) (k5 : 1 ≤ x5 ∧ x5 ≤ 1999) (k11 : 2 ≤ x11 ∧ x11 ≤ 2000) (d1 : x5 + (-4294967296) ≤ x11 ∧ x11 ≤ x5 + 0) (d2 : x5 + 1 ≤ x11 ∧ x11 ≤ x5 + 4294967296) (fe_0_5_1 : end_0 = end_1) (fe_0_6_1 : next_0 = next_1) (fe_0_8_1 : begin_0 = begin_1) (fe_0_9_1 : number_0 = number_1) (fe_0_5_2 : end_1 = end_2) (fe_0_7_2 : kind_1 = kind_2) (fe_0_8_2 : begin_1 = begin_2) (fe_0_9_2 : number_1 = number_2) (fe_0_5_3 : end_2 = end_3) (fe_0_6_3 : next_2 = next_3) (fe_0_9_3 : number_2 = number_3) (hE_0_0_1 : ∀ j : Int, tape_0 j = tape_1 j) (hE_0_0_2 : ∀ j : Int, tape_1 j = tape_2 j) (hE_0_0_3 : ∀ j : Int, tape_2 j = tape_3 j) (hK_0_0 : ∀ j : Int, 0 ≤ j → j < 2000 → (-128) ≤ tape_0 j ∧ tape_0 j ≤ 127) (kz_0_5 : 0 ≤ end_0 ∧ end_0 ≤ 2000) (kz_0_6 : 0 ≤ next_0 ∧ next_0 ≤ 2000) (kz_0_7 : (-128) ≤ kind_0 ∧ kind_0 ≤ 127) (kz_0_8 : 0 ≤ begin_0 ∧ begin_0 ≤ 2000) (kz_0_9 : (-176) ≤ number_0 ∧ number_0 ≤ 1000000) : ((-1) * kind_0 + 0 ≤ (-3)) ∨ (1 * next_0 + ((-1) * begin_0 + (2000 * kind_0 + 0)) ≤ 4008) := by
  subst fe_0_5_1
  subst fe_0_6_1
  subst fe_0_8_1
  subst fe_0_9_1
  subst fe_0_5_2
  subst fe_0_7_2
  subst fe_0_8_2
  subst fe_0_9_2
  subst fe_0_5_3
  subst fe_0_6_3
  subst fe_0_9_3
  have e_hE_0_0_1 := funext hE_0_0_1; subst e_hE_0_0_1
  have e_hE_0_0_2 := funext hE_0_0_2; subst e_hE_0_0_2
  have e_hE_0_0_3 := funext hE_0_0_3; subst e_hE_0_0_3
  first | with_reducible assumption | ((try and_intros) <;> first | with_reducible assumption | (clear hE_0_0_1 hE_0_0_2 hE_0_0_3 hK_0_0; omega)) | omega
set_option maxHeartbeats 4000000 in
theorem vc_Re_advance_11_3 (x5 : Int) (x11 : Int) (next_0 : Int) (begin_0 : Int) (end_0 : Int) (number_0 : Int) (number_1 : Int) (next_2 : Int) (tape_2 : Int → Int) (number_2 : Int) (end_2 : Int) (number_3 : Int) (tape_3 : Int → Int) (end_3 : Int) (next_3 : Int) (end_1 : Int) (next_1 : Int) (begin_1 : Int) (kind_1 : Int) (kind_2 : Int) (begin_2 : Int) (tape_0 : Int → Int) (tape_1 : Int → Int) (k5 : 1 ≤ x5 ∧ x5 ≤ 1999) (k11 : 2 ≤ x11 ∧ x11 ≤ 2000) (d1 : x5 + (-4294967296) ≤ x11 ∧ x11 ≤ x5 + 0) (d2 : x5 + 1 ≤ x11 ∧ x11 ≤ x5 + 4294967296) (fe_0_5_1 : end_0 = end_1) (fe_0_6_1 : next_0 = next_1) (fe_0_8_1 : begin_0 = begin_1) (fe_0_9_1 : number_0 = number_1) (fe_0_5_2 : end_1 = end_2) (fe_0_7_2 : kind_1 = kind_2) (fe_0_8_2 : begin_1 = begin_2) (fe_0_9_2 : number_1 = number_2) (fe_0_5_3 : end_2 = end_3) (fe_0_6_3 : next_2 = next_3) (fe_0_9_3 : number_2 = number_3) (hE_0_0_1 : ∀ j : Int, tape_0 j = tape_1 j) (hE_0_0_2 : ∀ j : Int, tape_1 j = tape_2 j) (hE_0_0_3 : ∀ j : Int, tape_2 j = tape_3 j) (hK_0_0 : ∀ j : Int, 0 ≤ j → j < 2000 → (-128) ≤ tape_0 j ∧ tape_0 j ≤ 127) (kz_0_5 : 0 ≤ end_0 ∧ end_0 ≤ 2000) (kz_0_6 : 0 ≤ next_0 ∧ next_0 ≤ 2000) (kz_0_8 : 0 ≤ begin_0 ∧ begin_0 ≤ 2000) (kz_0_9 : (-176) ≤ number_0 ∧ number_0 ≤ 1000000) : 1 * begin_0 + ((-1) * next_0 + 0) ≤ 0 := by
  subst fe_0_5_1
  subst fe_0_6_1
  subst fe_0_8_1
  subst fe_0_9_1
  subst fe_0_5_2
  subst fe_0_7_2
  subst fe_0_8_2
  subst fe_0_9_2
  subst fe_0_5_3
  subst fe_0_6_3
  subst fe_0_9_3
  have e_hE_0_0_1 := funext hE_0_0_1; subst e_hE_0_0_1
  have e_hE_0_0_2 := funext hE_0_0_2; subst e_hE_0_0_2
  have e_hE_0_0_3 := funext hE_0_0_3; subst e_hE_0_0_3
  first | with_reducible assumption | ((try and_intros) <;> first | with_reducible assumption | (clear hE_0_0_1 hE_0_0_2 hE_0_0_3 hK_0_0; omega)) | omega
set_option maxHeartbeats 4000000 in
theorem vc_Re_advance_11_4 (x2 : Int) (x4 : Int) (x5 : Int) (x7 : Int) (x11 : Int) (x12 : Int) (kind_0 : Int) (next_0 : Int) (begin_0 : Int) (end_0 : Int) (number_0 : Int) (number_1 : Int) (next_2 : Int) (tape_2 : Int → Int) (number_2 : Int) (end_2 : Int) (number_3 : Int) (tape_3 : Int → Int) (end_3 : Int) (next_3 : Int) (end_1 : Int) (next_1 : Int) (begin_1 : Int) (kind_1 : Int) (kind_2 : Int) (begin_2 : Int) (tape_0 : Int → Int) (tape_1 : Int → Int) (k2 : 0 ≤ x2 ∧ x2 ≤ 2000) (k4 : 1 ≤ x4 ∧ x4 ≤ 1999) (k5 : 1 ≤ x5 ∧ x5 ≤ 1999) (k7 : 123 ≤ x7 ∧ x7 ≤ 127) (k11 : 2 ≤ x11 ∧ x11 ≤ 2000) (k12 : 1 ≤ x12 ∧ x12 ≤ 1) (d1 : x5 + (-4294967296) ≤ x11 ∧ x11 ≤ x5 + 0) (d2 : x5 + 1 ≤ x11 ∧ x11 ≤ x5 + 4294967296) (g0 : x7 = kind_0) (g1 : x11 = next_0) (g3 : x4 = begin_0) (g4 : x5 = end_0) (f12 : x12 ≠ 0) (f13 : CSG (x7) (x12)) (g20 : x4 = next_2) (h25 : x7 = tape_2 (x4)) (f26 : x4 < x5) (f35 : CX0 (end_3) (next_3) (tape_3) (x2)) (fe_0_5_1 : end_0 = end_1) (fe_0_6_1 : next_0 = next_1) (fe_0_8_1 : begin_0 = begin_1) (fe_0_9_1 : number_0 = number_1) (fe_0_5_2 : end_1 = end_2) (fe_0_7_2 : kind_1 = kind_2) (fe_0_8_2 : begin_1 = begin_2) (fe_0_9_2 : number_1 = number_2) (fe_0_5_3 : end_2 = end_3) (fe_0_6_3 : next_2 = next_3) (fe_0_8_3 : begin_2 = x4) (fe_0_9_3 : number_2 = number_3) (hE_0_0_1 : ∀ j : Int, tape_0 j = tape_1 j) (hE_0_0_2 : ∀ j : Int, tape_1 j = tape_2 j) (hE_0_0_3 : ∀ j : Int, tape_2 j = tape_3 j) (hK_0_0 : ∀ j : Int, 0 ≤ j → j < 2000 → (-128) ≤ tape_0 j ∧ tape_0 j ≤ 127) (kz_0_5 : 0 ≤ end_0 ∧ end_0 ≤ 2000) (kz_0_6 : 0 ≤ next_0 ∧ next_0 ≤ 2000) (kz_0_7 : (-128) ≤ kind_0 ∧ kind_0 ≤ 127) (kz_0_8 : 0 ≤ begin_0 ∧ begin_0 ≤ 2000) (kz_0_9 : (-176) ≤ number_0 ∧ number_0 ≤ 1000000) : TKC (end_0) (next_0) (kind_0) (begin_0) (number_0) (tape_0) (x2) := by
  subst fe_0_5_1
  subst fe_0_6_1
  subst fe_0_8_1
  subst fe_0_9_1
  subst fe_0_5_2
  subst fe_0_7_2
  subst fe_0_8_2
  subst fe_0_9_2
  subst fe_0_5_3
  subst fe_0_6_3
  subst fe_0_9_3
  have e_hE_0_0_1 := funext hE_0_0_1; subst e_hE_0_0_1
  have e_hE_0_0_2 := funext hE_0_0_2; subst e_hE_0_0_2
  have e_hE_0_0_3 := funext hE_0_0_3; subst e_hE_0_0_3
  first | subst g0 | skip
  first | subst g1 | skip
  first | subst g3 | skip
  first | subst g4 | skip
  first | subst g20 | skip
  first
    | exact cxl_e (by assumption) ‹CXL _ _ _ _ _› (fun q => by omega) (by omega)
    | exact cxl_e (by assumption) ‹CXL _ _ _ _ _› (fun q => cnb_f ‹CNBy _ _› (by omega) (by omega)) (by omega)
    | exact cxd_e (by assumption) ‹CXD _ _ _ _ _ _› (fun q => by unfold cIG; omega) (by omega)
    | exact cxs_e (by assumption) (cx_1 (by assumption) ‹CX0 _ _ _ _› (fun q => by omega) (by omega)) (by omega) rfl (by unfold cIL; omega) (by unfold cIG; omega) (by omega) (Or.inl ⟨csg_t ‹CSG _ _› (by omega) (by omega), by omega⟩)
    | exact cxs_e (by assumption) (cx_1 (by assumption) ‹CX0 _ _ _ _› (fun q => by omega) (by omega)) (by omega) rfl (by unfold cIL; omega) (by unfold cIG; omega) (by omega) (Or.inr ⟨csg_f ‹CSG _ _› (by omega) (by omega), by omega⟩)
set_option maxHeartbeats 4000000 in
theorem vc_Re_advance_11_5 (x2 : Int) (x5 : Int) (x11 : Int) (next_0 : Int) (begin_0 : Int) (end_0 : Int) (number_0 : Int) (number_1 : Int) (next_2 : Int) (tape_2 : Int → Int) (number_2 : Int) (end_2 : Int) (number_3 : Int) (tape_3 : Int → Int) (end_3 : Int) (next_3 : Int) (end_1 : Int) (next_1 : Int) (begin_1 : Int) (kind_1 : Int) (kind_2 : Int) (begin_2 : Int) (tape_0 : Int → Int) (tape_1 : Int → Int) (k2 : 0 ≤ x2 ∧ x2 ≤ 2000) (k5 : 1 ≤ x5 ∧ x5 ≤ 1999) (k11 : 2 ≤ x11 ∧ x11 ≤ 2000) (d1 : x5 + (-4294967296) ≤ x11 ∧ x11 ≤ x5 + 0) (d2 : x5 + 1 ≤ x11 ∧ x11 ≤ x5 + 4294967296) (fe_0_5_1 : end_0 = end_1) (fe_0_6_1 : next_0 = next_1) (fe_0_8_1 : begin_0 = begin_1) (fe_0_9_1 : number_0 = number_1) (fe_0_5_2 : end_1 = end_2) (fe_0_7_2 : kind_1 = kind_2) (fe_0_8_2 : begin_1 = begin_2) (fe_0_9_2 : number_1 = number_2) (fe_0_5_3 : end_2 = end_3) (fe_0_6_3 : next_2 = next_3) (fe_0_9_3 : number_2 = number_3) (hE_0_0_1 : ∀ j : Int, tape_0 j = tape_1 j) (hE_0_0_2 : ∀ j : Int, tape_1 j = tape_2 j) (hE_0_0_3 : ∀ j : Int, tape_2 j = tape_3 j) (hK_0_0 : ∀ j : Int, 0 ≤ j → j < 2000 → (-128) ≤ tape_0 j ∧ tape_0 j ≤ 127) (kz_0_5 : 0 ≤ end_0 ∧ end_0 ≤ 2000) (kz_0_6 : 0 ≤ next_0 ∧ next_0 ≤ 2000) (kz_0_8 : 0 ≤ begin_0 ∧ begin_0 ≤ 2000) (kz_0_9 : (-176) ≤ number_0 ∧ number_0 ≤ 1000000) : 1 * x2 + ((-1) * next_0 + 0) ≤ 0 := by
  subst fe_0_5_1
  subst fe_0_6_1
  subst fe_0_8_1
  subst fe_0_9_1
  subst fe_0_5_2
  subst fe_0_7_2
  subst fe_0_8_2
  subst fe_0_9_2
  subst fe_0_5_3
  subst fe_0_6_3
  subst fe_0_9_3
  have e_hE_0_0_1 := funext hE_0_0_1; subst e_hE_0_0_1
  have e_hE_0_0_2 := funext hE_0_0_2; subst e_hE_0_0_2
  have e_hE_0_0_3 := funext hE_0_0_3; subst e_hE_0_0_3
  first | with_reducible assumption | ((try and_intros) <;> first | with_reducible assumption | (clear hE_0_0_1 hE_0_0_2 hE_0_0_3 hK_0_0; omega)) | omega
def o_Re_advance_11 : or_T := (290, 13, [(0, (2, 0, 0, [8])), (1, (0, -2147483648, 1000000, [])), (2, (0, 0, 2000, [])), (3, (2, 0, 0, [8])), (4, (0, 1, 1999, [])), (5, (0, 1, 1999, [])), (6, (2, 0, 0, [109])), (7, (0, 123, 127, [])), (8, (0, 0, 0, [])), (9, (0, 0, 0, [])), (10, (0, 1, 1, [])), (11, (0, 2, 2000, [])), (12, (0, 1, 1, []))], [(9, [7, 3], [7]), (9, [11, 3], [6]), (9, [6, 3], [0]), (9, [4, 3], [8]), (9, [5, 3], [5]), (20, [7, 12], [61, 0, 1100]), (20, [7, 9], [61, 0, 1098]), (20, [7, 8], [61, 0, 1097]), (20, [3, 1], [30, 0, 1, 1, 9, -1, 0, 0]), (20, [3, 1], [30, 0, -1, 1, 9, 1, 0, 0]), (24, [0, 3], []), (101, [3, 7], [7]), (8, [12], [1]), (20, [7, 12], [61, 0, 1100]), (20, [7, 9], [61, 0, 1098]), (20, [7, 8], [61, 0, 1097]), (20, [3, 1], [30, 0, 1, 1, 9, -1, 0, 0]), (20, [3, 1], [30, 0, -1, 1, 9, 1, 0, 0]), (101, [3, 11], [6]), (1, [11, 4, 10], []), (9, [4, 3], [6]), (8, [9], [0]), (20, [7, 9], [61, 0, 1098]), (8, [8], [0]), (20, [7, 8], [61, 0, 1097]), (10, [7, 6, 4], []), (7, [4, 5], [2]), (20, [3, 1], [30, 0, 1, 1, 9, -1, 0, 0]), (20, [3, 1], [30, 0, -1, 1, 9, 1, 0, 0]), (20, [3, 2], [60, 2, 1, 1074, 5, 6, 0]), (20, [2, 3], [30, 0, 1, 0, 0, -1, 1, 6]), (101, [3, 4], [8]), (7, [4, 5], [3]), (20, [3, 1], [30, 0, 1, 1, 9, -1, 0, 0]), (20, [3, 1], [30, 0, -1, 1, 9, 1, 0, 0]), (20, [3, 2], [60, 2, 1, 1074, 5, 6, 0]), (20, [2, 3], [30, 0, 1, 0, 0, -1, 1, 6])], [], [], [(20, [0, 0, 1], [31, 1, 3, 1, 1, 7, 0, 1, 1, 9, -1, 0, 0]), (20, [0, 0, 1], [31, 1, 3, 1, 1, 7, 0, -1, 1, 9, 1, 0, 0]), (20, [0, 0, 0, 0], [31, 1, -3, -1, 1, 7, 4008, 1, 1, 6, -1, 1, 8, 2000, 1, 7]), (20, [0, 0], [30, 0, 1, 1, 8, -1, 1, 6]), (20, [0, 2], [60, 5, 1, 1072, 5, 6, 7, 8, 9, 0]), (20, [2, 0], [30, 0, 1, 0, 0, -1, 1, 6])], [], [(11, 4, 1, 1), (11, 5, -4294967296, 0), (11, 5, 1, 4294967296), (4, 5, -4294967296, -1), (4, 5, 0, 4294967296)])
theorem oo_Re_advance_11 {kA : Nat → ClassId} : or_ok PRD kA GG o_Re_advance_11 := by
  refine or_mk fun A ta ws vs hD hth hl => ?_
  intro t0 r0 t1 k1 t2 k2 t3 r3 t4 k4 t5 k5 t6 r6 t7 k7 t8 k8 t9 k9 t10 k10 t11 k11 t12 k12 d0 d1 d2 d3 d4 f0 f1 f2 f3 f4 f5 f6 f7 f8 f9 f10 ta1 w1 le1 s1 f12 f13 f14 f15 f16 f17 ta2 w2 le2 s2 f19 f20 f21 f22 f23 f24 f25 f26 f27 f28 f29 f30 ta3 w3 le3 s3 f32 f33 f34 f35 f36
  replace f0 := shm_198 f0
  replace f1 := shm_111 f1
  replace f2 := shm_163 f2
  replace f3 := shm_293 f3
  replace f4 := shm_110 f4
  replace f10 := shm_5 f10
  have s1 : (∀ b j, w_el ws b j = w_el w1 b j) ∧ ∀ b j, w_fd ws b j = if b = v_ad (n_v vs 3) ∧ j = 7 then n_v vs 7 else w_fd w1 b j := s1.2
  have s2 : (∀ b j, w_el w1 b j = w_el w2 b j) ∧ ∀ b j, w_fd w1 b j = if b = v_ad (n_v vs 3) ∧ j = 6 then n_v vs 11 else w_fd w2 b j := s2.2
  replace f20 := shm_111 f20
  replace f25 := shm_107 f25
  have s3 : (∀ b j, w_el w2 b j = w_el w3 b j) ∧ ∀ b j, w_fd w2 b j = if b = v_ad (n_v vs 3) ∧ j = 8 then n_v vs 4 else w_fd w3 b j := s3.2
  replace f35 := shm_1526 f35
  have q3 : n_v vs 3 = n_v vs 0 := f10.symm
  simp only [q3] at f0 f1 f2 f3 f4
  rw [q3] at s1
  rw [q3] at s2
  simp only [q3] at f20
  rw [q3] at s3
  simp only [q3] at f35
  have ar_0_0_1 : w_ar w1 (n_v vs 0) 0 = w_ar ws (n_v vs 0) 0 := by show v_ad (w_fd w1 _ _) = v_ad (w_fd ws _ _); rw [s1.2, if_neg (fun e => absurd e.2 (by decide))]
  have ar_0_0_2 : w_ar w2 (n_v vs 0) 0 = w_ar ws (n_v vs 0) 0 := by rw [← ar_0_0_1]; show v_ad (w_fd w2 _ _) = v_ad (w_fd w1 _ _); rw [s2.2, if_neg (fun e => absurd e.2 (by decide))]
  have ar_0_0_3 : w_ar w3 (n_v vs 0) 0 = w_ar ws (n_v vs 0) 0 := by rw [← ar_0_0_2]; show v_ad (w_fd w3 _ _) = v_ad (w_fd w2 _ _); rw [s3.2, if_neg (fun e => absurd e.2 (by decide))]
  have cr_0_0 := fdq_95 hD hth r0
  have ad_6 : v_ad (n_v vs 6) = w_ar ws (n_v vs 0) 0 := congrArg v_ad f2
  have g0 : v_iv (n_v vs 7) = w_fi ws (n_v vs 0) 7 := congrArg v_iv f0
  have g1 : v_iv (n_v vs 11) = w_fi ws (n_v vs 0) 6 := congrArg v_iv f1
  have g3 : v_iv (n_v vs 4) = w_fi ws (n_v vs 0) 8 := congrArg v_iv f3
  have g4 : v_iv (n_v vs 5) = w_fi ws (n_v vs 0) 5 := congrArg v_iv f4
  have g20 : v_iv (n_v vs 4) = w_fi w2 (n_v vs 0) 6 := congrArg v_iv f20
  simp only [ad_6] at f25
  have h25 : v_iv (n_v vs 7) = w_ei w2 (w_ar ws (n_v vs 0) 0) (v_iv (n_v vs 4)) := f25
  simp only [ar_0_0_2, ar_0_0_3] at f35
  have fe_0_5_1 : w_fi ws (n_v vs 0) 5 = w_fi w1 (n_v vs 0) 5 := by show v_iv (w_fd _ _ _) = v_iv (w_fd _ _ _); rw [s1.2, if_neg (fun e => absurd e.2 (by decide))]
  have fe_0_6_1 : w_fi ws (n_v vs 0) 6 = w_fi w1 (n_v vs 0) 6 := by show v_iv (w_fd _ _ _) = v_iv (w_fd _ _ _); rw [s1.2, if_neg (fun e => absurd e.2 (by decide))]
  have fe_0_8_1 : w_fi ws (n_v vs 0) 8 = w_fi w1 (n_v vs 0) 8 := by show v_iv (w_fd _ _ _) = v_iv (w_fd _ _ _); rw [s1.2, if_neg (fun e => absurd e.2 (by decide))]
  have fe_0_9_1 : w_fi ws (n_v vs 0) 9 = w_fi w1 (n_v vs 0) 9 := by show v_iv (w_fd _ _ _) = v_iv (w_fd _ _ _); rw [s1.2, if_neg (fun e => absurd e.2 (by decide))]
  have fe_0_5_2 : w_fi w1 (n_v vs 0) 5 = w_fi w2 (n_v vs 0) 5 := by show v_iv (w_fd _ _ _) = v_iv (w_fd _ _ _); rw [s2.2, if_neg (fun e => absurd e.2 (by decide))]
  have fe_0_7_2 : w_fi w1 (n_v vs 0) 7 = w_fi w2 (n_v vs 0) 7 := by show v_iv (w_fd _ _ _) = v_iv (w_fd _ _ _); rw [s2.2, if_neg (fun e => absurd e.2 (by decide))]
  have fe_0_8_2 : w_fi w1 (n_v vs 0) 8 = w_fi w2 (n_v vs 0) 8 := by show v_iv (w_fd _ _ _) = v_iv (w_fd _ _ _); rw [s2.2, if_neg (fun e => absurd e.2 (by decide))]
  have fe_0_9_2 : w_fi w1 (n_v vs 0) 9 = w_fi w2 (n_v vs 0) 9 := by show v_iv (w_fd _ _ _) = v_iv (w_fd _ _ _); rw [s2.2, if_neg (fun e => absurd e.2 (by decide))]
  have fe_0_5_3 : w_fi w2 (n_v vs 0) 5 = w_fi w3 (n_v vs 0) 5 := by show v_iv (w_fd _ _ _) = v_iv (w_fd _ _ _); rw [s3.2, if_neg (fun e => absurd e.2 (by decide))]
  have fe_0_6_3 : w_fi w2 (n_v vs 0) 6 = w_fi w3 (n_v vs 0) 6 := by show v_iv (w_fd _ _ _) = v_iv (w_fd _ _ _); rw [s3.2, if_neg (fun e => absurd e.2 (by decide))]
  have fe_0_8_3 : w_fi w2 (n_v vs 0) 8 = v_iv (n_v vs 4) := by show v_iv (w_fd _ _ _) = _; rw [s3.2, if_pos ⟨rfl, rfl⟩]
  have fe_0_9_3 : w_fi w2 (n_v vs 0) 9 = w_fi w3 (n_v vs 0) 9 := by show v_iv (w_fd _ _ _) = v_iv (w_fd _ _ _); rw [s3.2, if_neg (fun e => absurd e.2 (by decide))]
  have hE_0_0_1 : ∀ j : Int, w_ei ws (w_ar ws (n_v vs 0) 0) j = w_ei w1 (w_ar ws (n_v vs 0) 0) j := fun j => s1.1 _ _
  have hE_0_0_2 : ∀ j : Int, w_ei w1 (w_ar ws (n_v vs 0) 0) j = w_ei w2 (w_ar ws (n_v vs 0) 0) j := fun j => s2.1 _ _
  have hE_0_0_3 : ∀ j : Int, w_ei w2 (w_ar ws (n_v vs 0) 0) j = w_ei w3 (w_ar ws (n_v vs 0) 0) j := fun j => s3.1 _ _
  have hK_0_0 := elq_33 hD hth cr_0_0
  have kz_0_5 := fdq_207 hD hth r0
  have kz_0_6 := fdq_208 hD hth r0
  have kz_0_7 := fdq_297 hD hth r0
  have kz_0_8 := fdq_99 hD hth r0
  have kz_0_9 := fdq_296 hD hth r0
  have nf0 : fc_1 PRD (20, [0, 0, 1], [31, 1, 3, 1, 1, 7, 0, 1, 1, 9, -1, 0, 0]) ws (vs) := ⟨nf_in hl rfl, sgq_1528 (vc_Re_advance_11_0 (v_iv (n_v vs 1)) (v_iv (n_v vs 5)) (v_iv (n_v vs 11)) (w_fi ws (n_v vs 0) 7) (w_fi ws (n_v vs 0) 6) (w_fi ws (n_v vs 0) 8) (w_fi ws (n_v vs 0) 5) (w_fi ws (n_v vs 0) 9) (w_fi w1 (n_v vs 0) 9) (w_fi w2 (n_v vs 0) 6) (w_ei w2 (w_ar ws (n_v vs 0) 0)) (w_fi w2 (n_v vs 0) 9) (w_fi w2 (n_v vs 0) 5) (w_fi w3 (n_v vs 0) 9) (w_ei w3 (w_ar ws (n_v vs 0) 0)) (w_fi w3 (n_v vs 0) 5) (w_fi w3 (n_v vs 0) 6) (w_fi w1 (n_v vs 0) 5) (w_fi w1 (n_v vs 0) 6) (w_fi w1 (n_v vs 0) 8) (w_fi w1 (n_v vs 0) 7) (w_fi w2 (n_v vs 0) 7) (w_fi w2 (n_v vs 0) 8) (w_ei ws (w_ar ws (n_v vs 0) 0)) (w_ei w1 (w_ar ws (n_v vs 0) 0)) k1 k5 k11 d1 d2 fe_0_5_1 fe_0_6_1 fe_0_8_1 fe_0_9_1 fe_0_5_2 fe_0_7_2 fe_0_8_2 fe_0_9_2 fe_0_5_3 fe_0_6_3 fe_0_9_3 hE_0_0_1 hE_0_0_2 hE_0_0_3 hK_0_0 kz_0_5 kz_0_6 kz_0_7 kz_0_8 kz_0_9)⟩
  have nf1 : fc_1 PRD (20, [0, 0, 1], [31, 1, 3, 1, 1, 7, 0, -1, 1, 9, 1, 0, 0]) ws (vs) := ⟨nf_in hl rfl, sgq_1529 (vc_Re_advance_11_1 (v_iv (n_v vs 1)) (v_iv (n_v vs 5)) (v_iv (n_v vs 11)) (w_fi ws (n_v vs 0) 7) (w_fi ws (n_v vs 0) 6) (w_fi ws (n_v vs 0) 8) (w_fi ws (n_v vs 0) 5) (w_fi ws (n_v vs 0) 9) (w_fi w1 (n_v vs 0) 9) (w_fi w2 (n_v vs 0) 6) (w_ei w2 (w_ar ws (n_v vs 0) 0)) (w_fi w2 (n_v vs 0) 9) (w_fi w2 (n_v vs 0) 5) (w_fi w3 (n_v vs 0) 9) (w_ei w3 (w_ar ws (n_v vs 0) 0)) (w_fi w3 (n_v vs 0) 5) (w_fi w3 (n_v vs 0) 6) (w_fi w1 (n_v vs 0) 5) (w_fi w1 (n_v vs 0) 6) (w_fi w1 (n_v vs 0) 8) (w_fi w1 (n_v vs 0) 7) (w_fi w2 (n_v vs 0) 7) (w_fi w2 (n_v vs 0) 8) (w_ei ws (w_ar ws (n_v vs 0) 0)) (w_ei w1 (w_ar ws (n_v vs 0) 0)) k1 k5 k11 d1 d2 fe_0_5_1 fe_0_6_1 fe_0_8_1 fe_0_9_1 fe_0_5_2 fe_0_7_2 fe_0_8_2 fe_0_9_2 fe_0_5_3 fe_0_6_3 fe_0_9_3 hE_0_0_1 hE_0_0_2 hE_0_0_3 hK_0_0 kz_0_5 kz_0_6 kz_0_7 kz_0_8 kz_0_9)⟩
  have nf2 : fc_1 PRD (20, [0, 0, 0, 0], [31, 1, -3, -1, 1, 7, 4008, 1, 1, 6, -1, 1, 8, 2000, 1, 7]) ws (vs) := ⟨nf_in hl rfl, sgq_1530 (vc_Re_advance_11_2 (v_iv (n_v vs 5)) (v_iv (n_v vs 11)) (w_fi ws (n_v vs 0) 7) (w_fi ws (n_v vs 0) 6) (w_fi ws (n_v vs 0) 8) (w_fi ws (n_v vs 0) 5) (w_fi ws (n_v vs 0) 9) (w_fi w1 (n_v vs 0) 9) (w_fi w2 (n_v vs 0) 6) (w_ei w2 (w_ar ws (n_v vs 0) 0)) (w_fi w2 (n_v vs 0) 9) (w_fi w2 (n_v vs 0) 5) (w_fi w3 (n_v vs 0) 9) (w_ei w3 (w_ar ws (n_v vs 0) 0)) (w_fi w3 (n_v vs 0) 5) (w_fi w3 (n_v vs 0) 6) (w_fi w1 (n_v vs 0) 5) (w_fi w1 (n_v vs 0) 6) (w_fi w1 (n_v vs 0) 8) (w_fi w1 (n_v vs 0) 7) (w_fi w2 (n_v vs 0) 7) (w_fi w2 (n_v vs 0) 8) (w_ei ws (w_ar ws (n_v vs 0) 0)) (w_ei w1 (w_ar ws (n_v vs 0) 0)) k5 k11 d1 d2 fe_0_5_1 fe_0_6_1 fe_0_8_1 fe_0_9_1 fe_0_5_2 fe_0_7_2 fe_0_8_2 fe_0_9_2 fe_0_5_3 fe_0_6_3 fe_0_9_3 hE_0_0_1 hE_0_0_2 hE_0_0_3 hK_0_0 kz_0_5 kz_0_6 kz_0_7 kz_0_8 kz_0_9)⟩
  have nf3 : fc_1 PRD (20, [0, 0], [30, 0, 1, 1, 8, -1, 1, 6]) ws (vs) := ⟨nf_in hl rfl, sgq_1531 (vc_Re_advance_11_3 (v_iv (n_v vs 5)) (v_iv (n_v vs 11)) (w_fi ws (n_v vs 0) 6) (w_fi ws (n_v vs 0) 8) (w_fi ws (n_v vs 0) 5) (w_fi ws (n_v vs 0) 9) (w_fi w1 (n_v vs 0) 9) (w_fi w2 (n_v vs 0) 6) (w_ei w2 (w_ar ws (n_v vs 0) 0)) (w_fi w2 (n_v vs 0) 9) (w_fi w2 (n_v vs 0) 5) (w_fi w3 (n_v vs 0) 9) (w_ei w3 (w_ar ws (n_v vs 0) 0)) (w_fi w3 (n_v vs 0) 5) (w_fi w3 (n_v vs 0) 6) (w_fi w1 (n_v vs 0) 5) (w_fi w1 (n_v vs 0) 6) (w_fi w1 (n_v vs 0) 8) (w_fi w1 (n_v vs 0) 7) (w_fi w2 (n_v vs 0) 7) (w_fi w2 (n_v vs 0) 8) (w_ei ws (w_ar ws (n_v vs 0) 0)) (w_ei w1 (w_ar ws (n_v vs 0) 0)) k5 k11 d1 d2 fe_0_5_1 fe_0_6_1 fe_0_8_1 fe_0_9_1 fe_0_5_2 fe_0_7_2 fe_0_8_2 fe_0_9_2 fe_0_5_3 fe_0_6_3 fe_0_9_3 hE_0_0_1 hE_0_0_2 hE_0_0_3 hK_0_0 kz_0_5 kz_0_6 kz_0_8 kz_0_9)⟩
  have nf4 : fc_1 PRD (20, [0, 2], [60, 5, 1, 1072, 5, 6, 7, 8, 9, 0]) ws (vs) := ⟨nf_in hl rfl, sgq_1532 (vc_Re_advance_11_4 (v_iv (n_v vs 2)) (v_iv (n_v vs 4)) (v_iv (n_v vs 5)) (v_iv (n_v vs 7)) (v_iv (n_v vs 11)) (v_iv (n_v vs 12)) (w_fi ws (n_v vs 0) 7) (w_fi ws (n_v vs 0) 6) (w_fi ws (n_v vs 0) 8) (w_fi ws (n_v vs 0) 5) (w_fi ws (n_v vs 0) 9) (w_fi w1 (n_v vs 0) 9) (w_fi w2 (n_v vs 0) 6) (w_ei w2 (w_ar ws (n_v vs 0) 0)) (w_fi w2 (n_v vs 0) 9) (w_fi w2 (n_v vs 0) 5) (w_fi w3 (n_v vs 0) 9) (w_ei w3 (w_ar ws (n_v vs 0) 0)) (w_fi w3 (n_v vs 0) 5) (w_fi w3 (n_v vs 0) 6) (w_fi w1 (n_v vs 0) 5) (w_fi w1 (n_v vs 0) 6) (w_fi w1 (n_v vs 0) 8) (w_fi w1 (n_v vs 0) 7) (w_fi w2 (n_v vs 0) 7) (w_fi w2 (n_v vs 0) 8) (w_ei ws (w_ar ws (n_v vs 0) 0)) (w_ei w1 (w_ar ws (n_v vs 0) 0)) k2 k4 k5 k7 k11 k12 d1 d2 g0 g1 g3 g4 (shm_142 f12) (shm_454 f13) g20 h25 (shm_6 f26) f35 fe_0_5_1 fe_0_6_1 fe_0_8_1 fe_0_9_1 fe_0_5_2 fe_0_7_2 fe_0_8_2 fe_0_9_2 fe_0_5_3 fe_0_6_3 fe_0_8_3 fe_0_9_3 hE_0_0_1 hE_0_0_2 hE_0_0_3 hK_0_0 kz_0_5 kz_0_6 kz_0_7 kz_0_8 kz_0_9)⟩
  have nf5 : fc_1 PRD (20, [2, 0], [30, 0, 1, 0, 0, -1, 1, 6]) ws (vs) := ⟨nf_in hl rfl, sgq_1527 (vc_Re_advance_11_5 (v_iv (n_v vs 2)) (v_iv (n_v vs 5)) (v_iv (n_v vs 11)) (w_fi ws (n_v vs 0) 6) (w_fi ws (n_v vs 0) 8) (w_fi ws (n_v vs 0) 5) (w_fi ws (n_v vs 0) 9) (w_fi w1 (n_v vs 0) 9) (w_fi w2 (n_v vs 0) 6) (w_ei w2 (w_ar ws (n_v vs 0) 0)) (w_fi w2 (n_v vs 0) 9) (w_fi w2 (n_v vs 0) 5) (w_fi w3 (n_v vs 0) 9) (w_ei w3 (w_ar ws (n_v vs 0) 0)) (w_fi w3 (n_v vs 0) 5) (w_fi w3 (n_v vs 0) 6) (w_fi w1 (n_v vs 0) 5) (w_fi w1 (n_v vs 0) 6) (w_fi w1 (n_v vs 0) 8) (w_fi w1 (n_v vs 0) 7) (w_fi w2 (n_v vs 0) 7) (w_fi w2 (n_v vs 0) 8) (w_ei ws (w_ar ws (n_v vs 0) 0)) (w_ei w1 (w_ar ws (n_v vs 0) 0)) k2 k5 k11 d1 d2 fe_0_5_1 fe_0_6_1 fe_0_8_1 fe_0_9_1 fe_0_5_2 fe_0_7_2 fe_0_8_2 fe_0_9_2 fe_0_5_3 fe_0_6_3 fe_0_9_3 hE_0_0_1 hE_0_0_2 hE_0_0_3 hK_0_0 kz_0_5 kz_0_6 kz_0_8 kz_0_9)⟩
  refine ⟨(fun _ h => (by cases h)), [], trivial, ?_, (fun _ h => (by cases h))⟩
  rw [List.append_nil]
  exact List.forall_mem_cons.mpr ⟨⟨show (20 : Nat) < 100 from by decide, nf0⟩, List.forall_mem_cons.mpr ⟨⟨show (20 : Nat) < 100 from by decide, nf1⟩, List.forall_mem_cons.mpr ⟨⟨show (20 : Nat) < 100 from by decide, nf2⟩, List.forall_mem_cons.mpr ⟨⟨show (20 : Nat) < 100 from by decide, nf3⟩, List.forall_mem_cons.mpr ⟨⟨show (20 : Nat) < 100 from by decide, nf4⟩, List.forall_mem_cons.mpr ⟨⟨show (20 : Nat) < 100 from by decide, nf5⟩, (fun _ h => (by cases h))⟩⟩⟩⟩⟩⟩
set_option maxHeartbeats 4000000 in
theorem vc_Re_advance_12_0 (x1 : Int) (x6 : Int) (kind_0 : Int) (begin_0 : Int) (end_0 : Int) (next_0 : Int) (number_0 : Int) (tape_0 : Int → Int) (number_1 : Int) (tape_1 : Int → Int) (end_1 : Int) (next_1 : Int) (number_2 : Int) (tape_2 : Int → Int) (end_2 : Int) (next_2 : Int) (begin_1 : Int) (k1 : (-2147483648) ≤ x1 ∧ x1 ≤ 1000000) (k6 : 0 ≤ x6 ∧ x6 ≤ 0) (g0 : x6 = kind_0) (fe_0_5_1 : end_0 = end_1) (fe_0_6_1 : next_0 = next_1) (fe_0_8_1 : begin_0 = begin_1) (fe_0_9_1 : number_0 = number_1) (fe_0_5_2 : end_1 = end_2) (fe_0_6_2 : next_1 = next_2) (fe_0_9_2 : number_1 = number_2) (hE_0_0_1 : ∀ j : Int, tape_0 j = tape_1 j) (hE_0_0_2 : ∀ j : Int, tape_1 j = tape_2 j) (hK_0_0 : ∀ j : Int, 0 ≤ j → j < 2000 → (-128) ≤ tape_0 j ∧ tape_0 j ≤ 127) (kz_0_5 : 0 ≤ end_0 ∧ end_0 ≤ 2000) (kz_0_6 : 0 ≤ next_0 ∧ next_0 ≤ 2000) (kz_0_7 : (-128) ≤ kind_0 ∧ kind_0 ≤ 127) (kz_0_8 : 0 ≤ begin_0 ∧ begin_0 ≤ 2000) (kz_0_9 : (-176) ≤ number_0 ∧ number_0 ≤ 1000000) : (1 * kind_0 + 0 ≤ 3) ∨ (1 * number_0 + ((-1) * x1 + 0) ≤ 0) := by
  subst fe_0_5_1
  subst fe_0_6_1
  subst fe_0_8_1
  subst fe_0_9_1
  subst fe_0_5_2
  subst fe_0_6_2
  subst fe_0_9_2
  have e_hE_0_0_1 := funext hE_0_0_1; subst e_hE_0_0_1
  have e_hE_0_0_2 := funext hE_0_0_2; subst e_hE_0_0_2
  first | with_reducible assumption | ((try and_intros) <;> first | with_reducible assumption | (clear hE_0_0_1 hE_0_0_2 hK_0_0; omega)) | omega
set_option maxHeartbeats 4000000 in
theorem vc_Re_advance_12_1 (x1 : Int) (x6 : Int) (kind_0 : Int) (begin_0 : Int) (end_0 : Int) (next_0 : Int) (number_0 : Int) (tape_0 : Int → Int) (number_1 : Int) (tape_1 : Int → Int) (end_1 : Int) (next_1 : Int) (number_2 : Int) (tape_2 : Int → Int) (end_2 : Int) (next_2 : Int) (begin_1 : Int) (k1 : (-2147483648) ≤ x1 ∧ x1 ≤ 1000000) (k6 : 0 ≤ x6 ∧ x6 ≤ 0) (g0 : x6 = kind_0) (fe_0_5_1 : end_0 = end_1) (fe_0_6_1 : next_0 = next_1) (fe_0_8_1 : begin_0 = begin_1) (fe_0_9_1 : number_0 = number_1) (fe_0_5_2 : end_1 = end_2) (fe_0_6_2 : next_1 = next_2) (fe_0_9_2 : number_1 = number_2) (hE_0_0_1 : ∀ j : Int, tape_0 j = tape_1 j) (hE_0_0_2 : ∀ j : Int, tape_1 j = tape_2 j) (hK_0_0 : ∀ j : Int, 0 ≤ j → j < 2000 → (-128) ≤ tape_0 j ∧ tape_0 j ≤ 127) (kz_0_5 : 0 ≤ end_0 ∧ end_0 ≤ 2000) (kz_0_6 : 0 ≤ next_0 ∧ next_0 ≤ 2000) (kz_0_7 : (-128) ≤ kind_0 ∧ kind_0 ≤ 127) (kz_0_8 : 0 ≤ begin_0 ∧ begin_0 ≤ 2000) (kz_0_9 : (-176) ≤ number_0 ∧ number_0 ≤ 1000000) : (1 * kind_0 + 0 ≤ 3) ∨ ((-1) * number_0 + (1 * x1 + 0) ≤ 0) := by
  subst fe_0_5_1
  subst fe_0_6_1
  subst fe_0_8_1
  subst fe_0_9_1
  subst fe_0_5_2
  subst fe_0_6_2
  subst fe_0_9_2
  have e_hE_0_0_1 := funext hE_0_0_1; subst e_hE_0_0_1
  have e_hE_0_0_2 := funext hE_0_0_2; subst e_hE_0_0_2
  first | with_reducible assumption | ((try and_intros) <;> first | with_reducible assumption | (clear hE_0_0_1 hE_0_0_2 hK_0_0; omega)) | omega
set_option maxHeartbeats 4000000 in
theorem vc_Re_advance_12_2 (x4 : Int) (x6 : Int) (kind_0 : Int) (begin_0 : Int) (end_0 : Int) (next_0 : Int) (number_0 : Int) (tape_0 : Int → Int) (number_1 : Int) (tape_1 : Int → Int) (end_1 : Int) (next_1 : Int) (number_2 : Int) (tape_2 : Int → Int) (end_2 : Int) (next_2 : Int) (begin_1 : Int) (k4 : 0 ≤ x4 ∧ x4 ≤ 2000) (k6 : 0 ≤ x6 ∧ x6 ≤ 0) (g0 : x6 = kind_0) (g1 : x4 = begin_0) (g3 : x4 = next_0) (fe_0_5_1 : end_0 = end_1) (fe_0_6_1 : next_0 = next_1) (fe_0_8_1 : begin_0 = begin_1) (fe_0_9_1 : number_0 = number_1) (fe_0_5_2 : end_1 = end_2) (fe_0_6_2 : next_1 = next_2) (fe_0_9_2 : number_1 = number_2) (hE_0_0_1 : ∀ j : Int, tape_0 j = tape_1 j) (hE_0_0_2 : ∀ j : Int, tape_1 j = tape_2 j) (hK_0_0 : ∀ j : Int, 0 ≤ j → j < 2000 → (-128) ≤ tape_0 j ∧ tape_0 j ≤ 127) (kz_0_5 : 0 ≤ end_0 ∧ end_0 ≤ 2000) (kz_0_6 : 0 ≤ next_0 ∧ next_0 ≤ 2000) (kz_0_7 : (-128) ≤ kind_0 ∧ kind_0 ≤ 127) (kz_0_8 : 0 ≤ begin_0 ∧ begin_0 ≤ 2000) (kz_0_9 : (-176) ≤ number_0 ∧ number_0 ≤ 1000000) : ((-1) * kind_0 + 0 ≤ (-3)) ∨ (1 * next_0 + ((-1) * begin_0 + (2000 * kind_0 + 0)) ≤ 4008) := by
  subst fe_0_5_1
  subst fe_0_6_1
  subst fe_0_8_1
  subst fe_0_9_1
  subst fe_0_5_2
  subst fe_0_6_2
  subst fe_0_9_2
  have e_hE_0_0_1 := funext hE_0_0_1; subst e_hE_0_0_1
  have e_hE_0_0_2 := funext hE_0_0_2; subst e_hE_0_0_2
  first | with_reducible assumption | ((try and_intros) <;> first | with_reducible assumption | (clear hE_0_0_1 hE_0_0_2 hK_0_0; omega)) | omega
set_option maxHeartbeats 4000000 in
theorem vc_Re_advance_12_3 (x4 : Int) (begin_0 : Int) (end_0 : Int) (next_0 : Int) (number_0 : Int) (tape_0 : Int → Int) (number_1 : Int) (tape_1 : Int → Int) (end_1 : Int) (next_1 : Int) (number_2 : Int) (tape_2 : Int → Int) (end_2 : Int) (next_2 : Int) (begin_1 : Int) (k4 : 0 ≤ x4 ∧ x4 ≤ 2000) (g1 : x4 = begin_0) (g3 : x4 = next_0) (fe_0_5_1 : end_0 = end_1) (fe_0_6_1 : next_0 = next_1) (fe_0_8_1 : begin_0 = begin_1) (fe_0_9_1 : number_0 = number_1) (fe_0_5_2 : end_1 = end_2) (fe_0_6_2 : next_1 = next_2) (fe_0_9_2 : number_1 = number_2) (hE_0_0_1 : ∀ j : Int, tape_0 j = tape_1 j) (hE_0_0_2 : ∀ j : Int, tape_1 j = tape_2 j) (hK_0_0 : ∀ j : Int, 0 ≤ j → j < 2000 → (-128) ≤ tape_0 j ∧ tape_0 j ≤ 127) (kz_0_5 : 0 ≤ end_0 ∧ end_0 ≤ 2000) (kz_0_6 : 0 ≤ next_0 ∧ next_0 ≤ 2000) (kz_0_8 : 0 ≤ begin_0 ∧ begin_0 ≤ 2000) (kz_0_9 : (-176) ≤ number_0 ∧ number_0 ≤ 1000000) : 1 * begin_0 + ((-1) * next_0 + 0) ≤ 0 := by
  subst fe_0_5_1
  subst fe_0_6_1
  subst fe_0_8_1
  subst fe_0_9_1
  subst fe_0_5_2
  subst fe_0_6_2
  subst fe_0_9_2
  have e_hE_0_0_1 := funext hE_0_0_1; subst e_hE_0_0_1
  have e_hE_0_0_2 := funext hE_0_0_2; subst e_hE_0_0_2
  first | with_reducible assumption | ((try and_intros) <;> first | with_reducible assumption | (clear hE_0_0_1 hE_0_0_2 hK_0_0; omega)) | omega
set_option maxHeartbeats 4000000 in
theorem vc_Re_advance_12_4 (x2 : Int) (x4 : Int) (x5 : Int) (x6 : Int) (kind_0 : Int) (begin_0 : Int) (end_0 : Int) (next_0 : Int) (number_0 : Int) (tape_0 : Int → Int) (number_1 : Int) (tape_1 : Int → Int) (end_1 : Int) (next_1 : Int) (number_2 : Int) (tape_2 : Int → Int) (end_2 : Int) (next_2 : Int) (begin_1 : Int) (k2 : 0 ≤ x2 ∧ x2 ≤ 2000) (k4 : 0 ≤ x4 ∧ x4 ≤ 2000) (k5 : 0 ≤ x5 ∧ x5 ≤ 2000) (k6 : 0 ≤ x6 ∧ x6 ≤ 0) (d0 : x5 + 0 ≤ x4 ∧ x4 ≤ x5 + 4294967296) (g0 : x6 = kind_0) (g1 : x4 = begin_0) (g2 : x5 = end_0) (g3 : x4 = next_0) (f16 : x5 ≤ x4) (f19 : CX0 (end_2) (next_2) (tape_2) (x2)) (fe_0_5_1 : end_0 = end_1) (fe_0_6_1 : next_0 = next_1) (fe_0_8_1 : begin_0 = begin_1) (fe_0_9_1 : number_0 = number_1) (fe_0_5_2 : end_1 = end_2) (fe_0_6_2 : next_1 = next_2) (fe_0_8_2 : begin_1 = x4) (fe_0_9_2 : number_1 = number_2) (hE_0_0_1 : ∀ j : Int, tape_0 j = tape_1 j) (hE_0_0_2 : ∀ j : Int, tape_1 j = tape_2 j) (hK_0_0 : ∀ j : Int, 0 ≤ j → j < 2000 → (-128) ≤ tape_0 j ∧ tape_0 j ≤ 127) (kz_0_5 : 0 ≤ end_0 ∧ end_0 ≤ 2000) (kz_0_6 : 0 ≤ next_0 ∧ next_0 ≤ 2000) (kz_0_7 : (-128) ≤ kind_0 ∧ kind_0 ≤ 127) (kz_0_8 : 0 ≤ begin_0 ∧ begin_0 ≤ 2000) (kz_0_9 : (-176) ≤ number_0 ∧ number_0 ≤ 1000000) : TKC (end_0) (next_0) (kind_0) (begin_0) (number_0) (tape_0) (x2) := by
  subst fe_0_5_1
  subst fe_0_6_1
  subst fe_0_8_1
  subst fe_0_9_1
  subst fe_0_5_2
  subst fe_0_6_2
  subst fe_0_9_2
  have e_hE_0_0_1 := funext hE_0_0_1; subst e_hE_0_0_1
  have e_hE_0_0_2 := funext hE_0_0_2; subst e_hE_0_0_2
  first | subst g0 | skip
  first | subst g1 | skip
  first | subst g2 | skip
  first | subst g3 | skip
  exact cx_end (cx_1 (by assumption) ‹CX0 _ _ _ _› (fun q => by omega) (by omega)) (by omega) (by omega)
set_option maxHeartbeats 4000000 in
theorem vc_Re_advance_12_5 (x2 : Int) (begin_0 : Int) (end_0 : Int) (next_0 : Int) (number_0 : Int) (tape_0 : Int → Int) (number_1 : Int) (tape_1 : Int → Int) (end_1 : Int) (next_1 : Int) (number_2 : Int) (tape_2 : Int → Int) (end_2 : Int) (next_2 : Int) (begin_1 : Int) (k2 : 0 ≤ x2 ∧ x2 ≤ 2000) (f20 : 1 * x2 + ((-1) * next_2 + 0) ≤ 0) (fe_0_5_1 : end_0 = end_1) (fe_0_6_1 : next_0 = next_1) (fe_0_8_1 : begin_0 = begin_1) (fe_0_9_1 : number_0 = number_1) (fe_0_5_2 : end_1 = end_2) (fe_0_6_2 : next_1 = next_2) (fe_0_9_2 : number_1 = number_2) (hE_0_0_1 : ∀ j : Int, tape_0 j = tape_1 j) (hE_0_0_2 : ∀ j : Int, tape_1 j = tape_2 j) (hK_0_0 : ∀ j : Int, 0 ≤ j → j < 2000 → (-128) ≤ tape_0 j ∧ tape_0 j ≤ 127) (kz_0_5 : 0 ≤ end_0 ∧ end_0 ≤ 2000) (kz_0_6 : 0 ≤ next_0 ∧ next_0 ≤ 2000) (kz_0_8 : 0 ≤ begin_0 ∧ begin_0 ≤ 2000) (kz_0_9 : (-176) ≤ number_0 ∧ number_0 ≤ 1000000) : 1 * x2 + ((-1) * next_0 + 0) ≤ 0 := by
  subst fe_0_5_1
  subst fe_0_6_1
  subst fe_0_8_1
  subst fe_0_9_1
  subst fe_0_5_2
  subst fe_0_6_2
  subst fe_0_9_2
  have e_hE_0_0_1 := funext hE_0_0_1; subst e_hE_0_0_1
  have e_hE_0_0_2 := funext hE_0_0_2; subst e_hE_0_0_2
  first | with_reducible assumption | ((try and_intros) <;> first | with_reducible assumption | (clear hE_0_0_1 hE_0_0_2 hK_0_0; omega)) | omega
def o_Re_advance_12 : or_T := (76, 7, [(0, (2, 0, 0, [8])), (1, (0, -2147483648, 1000000, [])), (2, (0, 0, 2000, [])), (4, (0, 0, 2000, [])), (5, (0, 0, 2000, [])), (6, (0, 0, 0, []))], [(9, [6, 3], [7]), (9, [4, 3], [8]), (9, [5, 3], [5]), (9, [4, 3], [6]), (24, [0, 3], []), (101, [3, 6], [7]), (101, [3, 4], [8]), (7, [4, 5], [3]), (20, [3, 2], [60, 2, 1, 1074, 5, 6, 0]), (20, [2, 3], [30, 0, 1, 0, 0, -1, 1, 6])], [], [], [(20, [0, 0, 1], [31, 1, 3, 1, 1, 7, 0, 1, 1, 9, -1, 0, 0]), (20, [0, 0, 1], [31, 1, 3, 1, 1, 7, 0, -1, 1, 9, 1, 0, 0]), (20, [0, 0, 0, 0], [31, 1, -3, -1, 1, 7, 4008, 1, 1, 6, -1, 1, 8, 2000, 1, 7]), (20, [0, 0], [30, 0, 1, 1, 8, -1, 1, 6]), (20, [0, 2], [60, 5, 1, 1072, 5, 6, 7, 8, 9, 0]), (20, [2, 0], [30, 0, 1, 0, 0, -1, 1, 6])], [], [(4, 5, 0, 4294967296)])
theorem oo_Re_advance_12 {kA : Nat → ClassId} : or_ok PRD kA GG o_Re_advance_12 := by
  refine or_mk fun A ta ws vs hD hth hl => ?_
  intro t0 r0 t1 k1 t2 k2 t4 k4 t5 k5 t6 k6 d0 f0 f1 f2 f3 f8 ta1 w1 le1 s1 ta2 w2 le2 s2 f16 f19 f20
  replace f0 := shm_198 f0
  replace f1 := shm_293 f1
  replace f2 := shm_110 f2
  replace f3 := shm_111 f3
  replace f8 := shm_5 f8
  have s1 : (∀ b j, w_el ws b j = w_el w1 b j) ∧ ∀ b j, w_fd ws b j = if b = v_ad (n_v vs 3) ∧ j = 7 then n_v vs 6 else w_fd w1 b j := s1.2
  have s2 : (∀ b j, w_el w1 b j = w_el w2 b j) ∧ ∀ b j, w_fd w1 b j = if b = v_ad (n_v vs 3) ∧ j = 8 then n_v vs 4 else w_fd w2 b j := s2.2
  replace f19 := shm_1526 f19
  replace f20 := shm_1527 f20
  have q3 : n_v vs 3 = n_v vs 0 := f8.symm
  simp only [q3] at f0 f1 f2 f3
  rw [q3] at s1
  rw [q3] at s2
  simp only [q3] at f19 f20
  have ar_0_0_1 : w_ar w1 (n_v vs 0) 0 = w_ar ws (n_v vs 0) 0 := by show v_ad (w_fd w1 _ _) = v_ad (w_fd ws _ _); rw [s1.2, if_neg (fun e => absurd e.2 (by decide))]
  have ar_0_0_2 : w_ar w2 (n_v vs 0) 0 = w_ar ws (n_v vs 0) 0 := by rw [← ar_0_0_1]; show v_ad (w_fd w2 _ _) = v_ad (w_fd w1 _ _); rw [s2.2, if_neg (fun e => absurd e.2 (by decide))]
  have cr_0_0 := fdq_95 hD hth r0
  have g0 : v_iv (n_v vs 6) = w_fi ws (n_v vs 0) 7 := congrArg v_iv f0
  have g1 : v_iv (n_v vs 4) = w_fi ws (n_v vs 0) 8 := congrArg v_iv f1
  have g2 : v_iv (n_v vs 5) = w_fi ws (n_v vs 0) 5 := congrArg v_iv f2
  have g3 : v_iv (n_v vs 4) = w_fi ws (n_v vs 0) 6 := congrArg v_iv f3
  simp only [ar_0_0_1, ar_0_0_2] at f19
  have fe_0_5_1 : w_fi ws (n_v vs 0) 5 = w_fi w1 (n_v vs 0) 5 := by show v_iv (w_fd _ _ _) = v_iv (w_fd _ _ _); rw [s1.2, if_neg (fun e => absurd e.2 (by decide))]
  have fe_0_6_1 : w_fi ws (n_v vs 0) 6 = w_fi w1 (n_v vs 0) 6 := by show v_iv (w_fd _ _ _) = v_iv (w_fd _ _ _); rw [s1.2, if_neg (fun e => absurd e.2 (by decide))]
  have fe_0_8_1 : w_fi ws (n_v vs 0) 8 = w_fi w1 (n_v vs 0) 8 := by show v_iv (w_fd _ _ _) = v_iv (w_fd _ _ _); rw [s1.2, if_neg (fun e => absurd e.2 (by decide))]
  have fe_0_9_1 : w_fi ws (n_v vs 0) 9 = w_fi w1 (n_v vs 0) 9 := by show v_iv (w_fd _ _ _) = v_iv (w_fd _ _ _); rw [s1.2, if_neg (fun e => absurd e.2 (by decide))]
  have fe_0_5_2 : w_fi w1 (n_v vs 0) 5 = w_fi w2 (n_v vs 0) 5 := by show v_iv (w_fd _ _ _) = v_iv (w_fd _ _ _); rw [s2.2, if_neg (fun e => absurd e.2 (by decide))]
  have fe_0_6_2 : w_fi w1 (n_v vs 0) 6 = w_fi w2 (n_v vs 0) 6 := by show v_iv (w_fd _ _ _) = v_iv (w_fd _ _ _); rw [s2.2, if_neg (fun e => absurd e.2 (by decide))]
  have fe_0_8_2 : w_fi w1 (n_v vs 0) 8 = v_iv (n_v vs 4) := by show v_iv (w_fd _ _ _) = _; rw [s2.2, if_pos ⟨rfl, rfl⟩]
  have fe_0_9_2 : w_fi w1 (n_v vs 0) 9 = w_fi w2 (n_v vs 0) 9 := by show v_iv (w_fd _ _ _) = v_iv (w_fd _ _ _); rw [s2.2, if_neg (fun e => absurd e.2 (by decide))]
  have hE_0_0_1 : ∀ j : Int, w_ei ws (w_ar ws (n_v vs 0) 0) j = w_ei w1 (w_ar ws (n_v vs 0) 0) j := fun j => s1.1 _ _
  have hE_0_0_2 : ∀ j : Int, w_ei w1 (w_ar ws (n_v vs 0) 0) j = w_ei w2 (w_ar ws (n_v vs 0) 0) j := fun j => s2.1 _ _
  have hK_0_0 := elq_33 hD hth cr_0_0
  have kz_0_5 := fdq_207 hD hth r0
  have kz_0_6 := fdq_208 hD hth r0
  have kz_0_7 := fdq_297 hD hth r0
  have kz_0_8 := fdq_99 hD hth r0
  have kz_0_9 := fdq_296 hD hth r0
  have nf0 : fc_1 PRD (20, [0, 0, 1], [31, 1, 3, 1, 1, 7, 0, 1, 1, 9, -1, 0, 0]) ws (vs) := ⟨nf_in hl rfl, sgq_1528 (vc_Re_advance_12_0 (v_iv (n_v vs 1)) (v_iv (n_v vs 6)) (w_fi ws (n_v vs 0) 7) (w_fi ws (n_v vs 0) 8) (w_fi ws (n_v vs 0) 5) (w_fi ws (n_v vs 0) 6) (w_fi ws (n_v vs 0) 9) (w_ei ws (w_ar ws (n_v vs 0) 0)) (w_fi w1 (n_v vs 0) 9) (w_ei w1 (w_ar ws (n_v vs 0) 0)) (w_fi w1 (n_v vs 0) 5) (w_fi w1 (n_v vs 0) 6) (w_fi w2 (n_v vs 0) 9) (w_ei w2 (w_ar ws (n_v vs 0) 0)) (w_fi w2 (n_v vs 0) 5) (w_fi w2 (n_v vs 0) 6) (w_fi w1 (n_v vs 0) 8) k1 k6 g0 fe_0_5_1 fe_0_6_1 fe_0_8_1 fe_0_9_1 fe_0_5_2 fe_0_6_2 fe_0_9_2 hE_0_0_1 hE_0_0_2 hK_0_0 kz_0_5 kz_0_6 kz_0_7 kz_0_8 kz_0_9)⟩
  have nf1 : fc_1 PRD (20, [0, 0, 1], [31, 1, 3, 1, 1, 7, 0, -1, 1, 9, 1, 0, 0]) ws (vs) := ⟨nf_in hl rfl, sgq_1529 (vc_Re_advance_12_1 (v_iv (n_v vs 1)) (v_iv (n_v vs 6)) (w_fi ws (n_v vs 0) 7) (w_fi ws (n_v vs 0) 8) (w_fi ws (n_v vs 0) 5) (w_fi ws (n_v vs 0) 6) (w_fi ws (n_v vs 0) 9) (w_ei ws (w_ar ws (n_v vs 0) 0)) (w_fi w1 (n_v vs 0) 9) (w_ei w1 (w_ar ws (n_v vs 0) 0)) (w_fi w1 (n_v vs 0) 5) (w_fi w1 (n_v vs 0) 6) (w_fi w2 (n_v vs 0) 9) (w_ei w2 (w_ar ws (n_v vs 0) 0)) (w_fi w2 (n_v vs 0) 5) (w_fi w2 (n_v vs 0) 6) (w_fi w1 (n_v vs 0) 8) k1 k6 g0 fe_0_5_1 fe_0_6_1 fe_0_8_1 fe_0_9_1 fe_0_5_2 fe_0_6_2 fe_0_9_2 hE_0_0_1 hE_0_0_2 hK_0_0 kz_0_5 kz_0_6 kz_0_7 kz_0_8 kz_0_9)⟩
  have nf2 : fc_1 PRD (20, [0, 0, 0, 0], [31, 1, -3, -1, 1, 7, 4008, 1, 1, 6, -1, 1, 8, 2000, 1, 7]) ws (vs) := ⟨nf_in hl rfl, sgq_1530 (vc_Re_advance_12_2 (v_iv (n_v vs 4)) (v_iv (n_v vs 6)) (w_fi ws (n_v vs 0) 7) (w_fi ws (n_v vs 0) 8) (w_fi ws (n_v vs 0) 5) (w_fi ws (n_v vs 0) 6) (w_fi ws (n_v vs 0) 9) (w_ei ws (w_ar ws (n_v vs 0) 0)) (w_fi w1 (n_v vs 0) 9) (w_ei w1 (w_ar ws (n_v vs 0) 0)) (w_fi w1 (n_v vs 0) 5) (w_fi w1 (n_v vs 0) 6) (w_fi w2 (n_v vs 0) 9) (w_ei w2 (w_ar ws (n_v vs 0) 0)) (w_fi w2 (n_v vs 0) 5) (w_fi w2 (n_v vs 0) 6) (w_fi w1 (n_v vs 0) 8) k4 k6 g0 g1 g3 fe_0_5_1 fe_0_6_1 fe_0_8_1 fe_0_9_1 fe_0_5_2 fe_0_6_2 fe_0_9_2 hE_0_0_1 hE_0_0_2 hK_0_0 kz_0_5 kz_0_6 kz_0_7 kz_0_8 kz_0_9)⟩
  have nf3 : fc_1 PRD (20, [0, 0], [30, 0, 1, 1, 8, -1, 1, 6]) ws (vs) := ⟨nf_in hl rfl, sgq_1531 (vc_Re_advance_12_3 (v_iv (n_v vs 4)) (w_fi ws (n_v vs 0) 8) (w_fi ws (n_v vs 0) 5) (w_fi ws (n_v vs 0) 6) (w_fi ws (n_v vs 0) 9) (w_ei ws (w_ar ws (n_v vs 0) 0)) (w_fi w1 (n_v vs 0) 9) (w_ei w1 (w_ar ws (n_v vs 0) 0)) (w_fi w1 (n_v vs 0) 5) (w_fi w1 (n_v vs 0) 6) (w_fi w2 (n_v vs 0) 9) (w_ei w2 (w_ar ws (n_v vs 0) 0)) (w_fi w2 (n_v vs 0) 5) (w_fi w2 (n_v vs 0) 6) (w_fi w1 (n_v vs 0) 8) k4 g1 g3 fe_0_5_1 fe_0_6_1 fe_0_8_1 fe_0_9_1 fe_0_5_2 fe_0_6_2 fe_0_9_2 hE_0_0_1 hE_0_0_2 hK_0_0 kz_0_5 kz_0_6 kz_0_8 kz_0_9)⟩
  have nf4 : fc_1 PRD (20, [0, 2], [60, 5, 1, 1072, 5, 6, 7, 8, 9, 0]) ws (vs) := ⟨nf_in hl rfl, sgq_1532 (vc_Re_advance_12_4 (v_iv (n_v vs 2)) (v_iv (n_v vs 4)) (v_iv (n_v vs 5)) (v_iv (n_v vs 6)) (w_fi ws (n_v vs 0) 7) (w_fi ws (n_v vs 0) 8) (w_fi ws (n_v vs 0) 5) (w_fi ws (n_v vs 0) 6) (w_fi ws (n_v vs 0) 9) (w_ei ws (w_ar ws (n_v vs 0) 0)) (w_fi w1 (n_v vs 0) 9) (w_ei w1 (w_ar ws (n_v vs 0) 0)) (w_fi w1 (n_v vs 0) 5) (w_fi w1 (n_v vs 0) 6) (w_fi w2 (n_v vs 0) 9) (w_ei w2 (w_ar ws (n_v vs 0) 0)) (w_fi w2 (n_v vs 0) 5) (w_fi w2 (n_v vs 0) 6) (w_fi w1 (n_v vs 0) 8) k2 k4 k5 k6 d0 g0 g1 g2 g3 (shm_2 f16) f19 fe_0_5_1 fe_0_6_1 fe_0_8_1 fe_0_9_1 fe_0_5_2 fe_0_6_2 fe_0_8_2 fe_0_9_2 hE_0_0_1 hE_0_0_2 hK_0_0 kz_0_5 kz_0_6 kz_0_7 kz_0_8 kz_0_9)⟩
  have nf5 : fc_1 PRD (20, [2, 0], [30, 0, 1, 0, 0, -1, 1, 6]) ws (vs) := ⟨nf_in hl rfl, sgq_1527 (vc_Re_advance_12_5 (v_iv (n_v vs 2)) (w_fi ws (n_v vs 0) 8) (w_fi ws (n_v vs 0) 5) (w_fi ws (n_v vs 0) 6) (w_fi ws (n_v vs 0) 9) (w_ei ws (w_ar ws (n_v vs 0) 0)) (w_fi w1 (n_v vs 0) 9) (w_ei w1 (w_ar ws (n_v vs 0) 0)) (w_fi w1 (n_v vs 0) 5) (w_fi w1 (n_v vs 0) 6) (w_fi w2 (n_v vs 0) 9) (w_ei w2 (w_ar ws (n_v vs 0) 0)) (w_fi w2 (n_v vs 0) 5) (w_fi w2 (n_v vs 0) 6) (w_fi w1 (n_v vs 0) 8) k2 f20 fe_0_5_1 fe_0_6_1 fe_0_8_1 fe_0_9_1 fe_0_5_2 fe_0_6_2 fe_0_9_2 hE_0_0_1 hE_0_0_2 hK_0_0 kz_0_5 kz_0_6 kz_0_8 kz_0_9)⟩
  refine ⟨(fun _ h => (by cases h)), [], trivial, ?_, (fun _ h => (by cases h))⟩
  rw [List.append_nil]
  exact List.forall_mem_cons.mpr ⟨⟨show (20 : Nat) < 100 from by decide, nf0⟩, List.forall_mem_cons.mpr ⟨⟨show (20 : Nat) < 100 from by decide, nf1⟩, List.forall_mem_cons.mpr ⟨⟨show (20 : Nat) < 100 from by decide, nf2⟩, List.forall_mem_cons.mpr ⟨⟨show (20 : Nat) < 100 from by decide, nf3⟩, List.forall_mem_cons.mpr ⟨⟨show (20 : Nat) < 100 from by decide, nf4⟩, List.forall_mem_cons.mpr ⟨⟨show (20 : Nat) < 100 from by decide, nf5⟩, (fun _ h => (by cases h))⟩⟩⟩⟩⟩⟩
set_option maxHeartbeats 4000000 in
theorem vc_Re_advance_13_0 (x2 : Int) (x4 : Int) (x5 : Int) (x7 : Int) (x10 : Int) (next_0 : Int) (end_0 : Int) (number_0 : Int) (next_1 : Int) (tape_1 : Int → Int) (number_1 : Int) (end_1 : Int) (tape_0 : Int → Int) (k2 : 0 ≤ x2 ∧ x2 ≤ 2000) (k4 : 0 ≤ x4 ∧ x4 ≤ 1999) (k5 : 1 ≤ x5 ∧ x5 ≤ 2000) (k7 : 32 ≤ x7 ∧ x7 ≤ 32) (k10 : 1 ≤ x10 ∧ x10 ≤ 2000) (d0 : x4 + 1 ≤ x10 ∧ x10 ≤ x4 + 1) (g0 : x10 = next_0) (g2 : x5 = end_0) (g8 : x4 = next_1) (h10 : x7 = tape_1 (x4)) (f11 : x4 < x5) (f14 : CX0 (end_1) (next_1) (tape_1) (x2)) (fe_0_5_1 : end_0 = end_1) (fe_0_9_1 : number_0 = number_1) (hE_0_0_1 : ∀ j : Int, tape_0 j = tape_1 j) (hK_0_0 : ∀ j : Int, 0 ≤ j → j < 2000 → (-128) ≤ tape_0 j ∧ tape_0 j ≤ 127) (kz_0_5 : 0 ≤ end_0 ∧ end_0 ≤ 2000) (kz_0_6 : 0 ≤ next_0 ∧ next_0 ≤ 2000) (kz_0_9 : (-176) ≤ number_0 ∧ number_0 ≤ 1000000) : CX0 (end_0) (next_0) (tape_0) (x2) := by
  subst fe_0_5_1
  subst fe_0_9_1
  have e_hE_0_0_1 := funext hE_0_0_1; subst e_hE_0_0_1
  first | subst g0 | skip
  first | subst g2 | skip
  first | subst g8 | skip
  first
    | exact cx_0 ‹CLM _ _› (by omega)
    | exact cx_s (by assumption) ‹CX0 _ _ _ _› (by omega) (by omega) (by omega)
set_option maxHeartbeats 4000000 in
theorem vc_Re_advance_13_1 (x2 : Int) (x4 : Int) (x10 : Int) (next_0 : Int) (end_0 : Int) (number_0 : Int) (next_1 : Int) (tape_1 : Int → Int) (number_1 : Int) (end_1 : Int) (tape_0 : Int → Int) (k2 : 0 ≤ x2 ∧ x2 ≤ 2000) (k4 : 0 ≤ x4 ∧ x4 ≤ 1999) (k10 : 1 ≤ x10 ∧ x10 ≤ 2000) (d0 : x4 + 1 ≤ x10 ∧ x10 ≤ x4 + 1) (g0 : x10 = next_0) (g8 : x4 = next_1) (f15 : 1 * x2 + ((-1) * next_1 + 0) ≤ 0) (fe_0_5_1 : end_0 = end_1) (fe_0_9_1 : number_0 = number_1) (hE_0_0_1 : ∀ j : Int, tape_0 j = tape_1 j) (hK_0_0 : ∀ j : Int, 0 ≤ j → j < 2000 → (-128) ≤ tape_0 j ∧ tape_0 j ≤ 127) (kz_0_5 : 0 ≤ end_0 ∧ end_0 ≤ 2000) (kz_0_6 : 0 ≤ next_0 ∧ next_0 ≤ 2000) (kz_0_9 : (-176) ≤ number_0 ∧ number_0 ≤ 1000000) : 1 * x2 + ((-1) * next_0 + 0) ≤ 0 := by
  subst fe_0_5_1
  subst fe_0_9_1
  have e_hE_0_0_1 := funext hE_0_0_1; subst e_hE_0_0_1
  first | with_reducible assumption | ((try and_intros) <;> first | with_reducible assumption | (clear hE_0_0_1 hK_0_0; omega)) | omega
def o_Re_advance_13 : or_T := (0, 11, [(0, (2, 0, 0, [8])), (2, (0, 0, 2000, [])), (4, (0, 0, 1999, [])), (5, (0, 1, 2000, [])), (7, (0, 32, 32, [])), (10, (0, 1, 2000, []))], [(9, [10, 3], [6]), (9, [6, 3], [0]), (9, [5, 3], [5]), (24, [0, 3], []), (101, [3, 10], [6]), (9, [4, 3], [6]), (10, [7, 6, 4], []), (7, [4, 5], [2]), (20, [3, 2], [60, 2, 1, 1074, 5, 6, 0]), (20, [2, 3], [30, 0, 1, 0, 0, -1, 1, 6])], [], [], [(20, [3, 2], [60, 2, 1, 1074, 5, 6, 0]), (20, [2, 3], [30, 0, 1, 0, 0, -1, 1, 6])], [], [(10, 4, 1, 1)])
theorem oo_Re_advance_13 {kA : Nat → ClassId} : or_ok PRD kA GG o_Re_advance_13 := by
  refine or_mk fun A ta ws vs hD hth hl => ?_
  intro t0 r0 t2 k2 t4 k4 t5 k5 t7 k7 t10 k10 d0 f0 f1 f2 f5 ta1 w1 le1 s1 f8 f10 f11 f14 f15
  replace f0 := shm_111 f0
  replace f1 := shm_163 f1
  replace f2 := shm_110 f2
  replace f5 := shm_5 f5
  have s1 : (∀ b j, w_el ws b j = w_el w1 b j) ∧ ∀ b j, w_fd ws b j = if b = v_ad (n_v vs 3) ∧ j = 6 then n_v vs 10 else w_fd w1 b j := s1.2
  replace f8 := shm_111 f8
  replace f10 := shm_107 f10
  replace f11 := shm_6 f11
  replace f14 := shm_1526 f14
  replace f15 := shm_1527 f15
  have q3 : n_v vs 3 = n_v vs 0 := f5.symm
  simp only [q3] at f0 f1 f2
  rw [q3] at s1
  simp only [q3] at f8 f14 f15
  have ar_0_0_1 : w_ar w1 (n_v vs 0) 0 = w_ar ws (n_v vs 0) 0 := by show v_ad (w_fd w1 _ _) = v_ad (w_fd ws _ _); rw [s1.2, if_neg (fun e => absurd e.2 (by decide))]
  have cr_0_0 := fdq_95 hD hth r0
  have ad_6 : v_ad (n_v vs 6) = w_ar ws (n_v vs 0) 0 := congrArg v_ad f1
  have g0 : v_iv (n_v vs 10) = w_fi ws (n_v vs 0) 6 := congrArg v_iv f0
  have g2 : v_iv (n_v vs 5) = w_fi ws (n_v vs 0) 5 := congrArg v_iv f2
  have g8 : v_iv (n_v vs 4) = w_fi w1 (n_v vs 0) 6 := congrArg v_iv f8
  simp only [ad_6] at f10
  have h10 : v_iv (n_v vs 7) = w_ei w1 (w_ar ws (n_v vs 0) 0) (v_iv (n_v vs 4)) := f10
  simp only [ar_0_0_1] at f14
  have fe_0_5_1 : w_fi ws (n_v vs 0) 5 = w_fi w1 (n_v vs 0) 5 := by show v_iv (w_fd _ _ _) = v_iv (w_fd _ _ _); rw [s1.2, if_neg (fun e => absurd e.2 (by decide))]
  have fe_0_9_1 : w_fi ws (n_v vs 0) 9 = w_fi w1 (n_v vs 0) 9 := by show v_iv (w_fd _ _ _) = v_iv (w_fd _ _ _); rw [s1.2, if_neg (fun e => absurd e.2 (by decide))]
  have hE_0_0_1 : ∀ j : Int, w_ei ws (w_ar ws (n_v vs 0) 0) j = w_ei w1 (w_ar ws (n_v vs 0) 0) j := fun j => s1.1 _ _
  have hK_0_0 := elq_33 hD hth cr_0_0
  have kz_0_5 := fdq_207 hD hth r0
  have kz_0_6 := fdq_208 hD hth r0
  have kz_0_9 := fdq_296 hD hth r0
  have nf0 : fc_1 PRD (20, [3, 2], [60, 2, 1, 1074, 5, 6, 0]) ws (vs) := by
    refine ⟨nf_in hl rfl, sgq_1526 ?_⟩
    · show CX0 (w_fi ws (n_v vs 3) 5) (w_fi ws (n_v vs 3) 6) (w_ei ws (w_ar ws (n_v vs 3) 0)) (v_iv (n_v vs 2))
      rw [q3]
      exact vc_Re_advance_13_0 (v_iv (n_v vs 2)) (v_iv (n_v vs 4)) (v_iv (n_v vs 5)) (v_iv (n_v vs 7)) (v_iv (n_v vs 10)) (w_fi ws (n_v vs 0) 6) (w_fi ws (n_v vs 0) 5) (w_fi ws (n_v vs 0) 9) (w_fi w1 (n_v vs 0) 6) (w_ei w1 (w_ar ws (n_v vs 0) 0)) (w_fi w1 (n_v vs 0) 9) (w_fi w1 (n_v vs 0) 5) (w_ei ws (w_ar ws (n_v vs 0) 0)) k2 k4 k5 k7 k10 d0 g0 g2 g8 h10 f11 f14 fe_0_5_1 fe_0_9_1 hE_0_0_1 hK_0_0 kz_0_5 kz_0_6 kz_0_9
  have nf1 : fc_1 PRD (20, [2, 3], [30, 0, 1, 0, 0, -1, 1, 6]) ws (vs) := by
    refine ⟨nf_in hl rfl, sgq_1527 ?_⟩
    · show 1 * v_iv (n_v vs 2) + ((-1) * w_fi ws (n_v vs 3) 6 + 0) ≤ 0
      rw [q3]
      exact vc_Re_advance_13_1 (v_iv (n_v vs 2)) (v_iv (n_v vs 4)) (v_iv (n_v vs 10)) (w_fi ws (n_v vs 0) 6) (w_fi ws (n_v vs 0) 5) (w_fi ws (n_v vs 0) 9) (w_fi w1 (n_v vs 0) 6) (w_ei w1 (w_ar ws (n_v vs 0) 0)) (w_fi w1 (n_v vs 0) 9) (w_fi w1 (n_v vs 0) 5) (w_ei ws (w_ar ws (n_v vs 0) 0)) k2 k4 k10 d0 g0 g8 f15 fe_0_5_1 fe_0_9_1 hE_0_0_1 hK_0_0 kz_0_5 kz_0_6 kz_0_9
  refine ⟨(fun _ h => (by cases h)), [], trivial, ?_, (fun _ h => (by cases h))⟩
  rw [List.append_nil]
  exact List.forall_mem_cons.mpr ⟨⟨show (20 : Nat) < 100 from by decide, nf0⟩, List.forall_mem_cons.mpr ⟨⟨show (20 : Nat) < 100 from by decide, nf1⟩, (fun _ h => (by cases h))⟩⟩
set_option maxHeartbeats 4000000 in
theorem vc_Re_advance_14_0 (x1 : Int) (x17 : Int) (kind_0 : Int) (next_0 : Int) (begin_0 : Int) (end_0 : Int) (number_0 : Int) (number_1 : Int) (next_2 : Int) (tape_2 : Int → Int) (number_2 : Int) (end_2 : Int) (tape_3 : Int → Int) (number_3 : Int) (end_3 : Int) (next_3 : Int) (end_1 : Int) (next_1 : Int) (begin_1 : Int) (kind_1 : Int) (kind_2 : Int) (begin_2 : Int) (tape_0 : Int → Int) (tape_1 : Int → Int) (k1 : (-2147483648) ≤ x1 ∧ x1 ≤ 1000000) (k17 : 1 ≤ x17 ∧ x17 ≤ 1) (g0 : x17 = kind_0) (fe_0_5_1 : end_0 = end_1) (fe_0_6_1 : next_0 = next_1) (fe_0_8_1 : begin_0 = begin_1) (fe_0_9_1 : number_0 = number_1) (fe_0_5_2 : end_1 = end_2) (fe_0_7_2 : kind_1 = kind_2) (fe_0_8_2 : begin_1 = begin_2) (fe_0_9_2 : number_1 = number_2) (fe_0_5_3 : end_2 = end_3) (fe_0_6_3 : next_2 = next_3) (fe_0_9_3 : number_2 = number_3) (hE_0_0_1 : ∀ j : Int, tape_0 j = tape_1 j) (hE_0_0_2 : ∀ j : Int, tape_1 j = tape_2 j) (hE_0_0_3 : ∀ j : Int, tape_2 j = tape_3 j) (hK_0_0 : ∀ j : Int, 0 ≤ j → j < 2000 → (-128) ≤ tape_0 j ∧ tape_0 j ≤ 127) (kz_0_5 : 0 ≤ end_0 ∧ end_0 ≤ 2000) (kz_0_6 : 0 ≤ next_0 ∧ next_0 ≤ 2000) (kz_0_7 : (-128) ≤ kind_0 ∧ kind_0 ≤ 127) (kz_0_8 : 0 ≤ begin_0 ∧ begin_0 ≤ 2000) (kz_0_9 : (-176) ≤ number_0 ∧ number_0 ≤ 1000000) : (1 * kind_0 + 0 ≤ 3) ∨ (1 * number_0 + ((-1) * x1 + 0) ≤ 0) := by
  subst fe_0_5_1
  subst fe_0_6_1
  subst fe_0_8_1
  subst fe_0_9_1
  subst fe_0_5_2
  subst fe_0_7_2
  subst fe_0_8_2
  subst fe_0_9_2
  subst fe_0_5_3
  subst fe_0_6_3
  subst fe_0_9_3
  have e_hE_0_0_1 := funext hE_0_0_1; subst e_hE_0_0_1
  have e_hE_0_0_2 := funext hE_0_0_2; subst e_hE_0_0_2
  have e_hE_0_0_3 := funext hE_0_0_3; subst e_hE_0_0_3
  first | with_reducible assumption | ((try and_intros) <;> first | with_reducible assumption | (clear hE_0_0_1 hE_0_0_2 hE_0_0_3 hK_0_0; omega)) | omega
set_option maxHeartbeats 4000000 in
theorem vc_Re_advance_14_1 (x1 : Int) (x17 : Int) (kind_0 : Int) (next_0 : Int) (begin_0 : Int) (end_0 : Int) (number_0 : Int) (number_1 : Int) (next_2 : Int) (tape_2 : Int → Int) (number_2 : Int) (end_2 : Int) (tape_3 : Int → Int) (number_3 : Int) (end_3 : Int) (next_3 : Int) (end_1 : Int) (next_1 : Int) (begin_1 : Int) (kind_1 : Int) (kind_2 : Int) (begin_2 : Int) (tape_0 : Int → Int) (tape_1 : Int → Int) (k1 : (-2147483648) ≤ x1 ∧ x1 ≤ 1000000) (k17 : 1 ≤ x17 ∧ x17 ≤ 1) (g0 : x17 = kind_0) (fe_0_5_1 : end_0 = end_1) (fe_0_6_1 : next_0 = next_1) (fe_0_8_1 : begin_0 = begin_1) (fe_0_9_1 : number_0 = number_1) (fe_0_5_2 : end_1 = end_2) (fe_0_7_2 : kind_1 = kind_2) (fe_0_8_2 : begin_1 = begin_2) (fe_0_9_2 : number_1 = number_2) (fe_0_5_3 : end_2 = end_3) (fe_0_6_3 : next_2 = next_3) (fe_0_9_3 : number_2 = number_3) (hE_0_0_1 : ∀ j : Int, tape_0 j = tape_1 j) (hE_0_0_2 : ∀ j : Int, tape_1 j = tape_2 j) (hE_0_0_3 : ∀ j : Int, tape_2 j = tape_3 j) (hK_0_0 : ∀ j : Int, 0 ≤ j → j < 2000 → (-128) ≤ tape_0 j ∧ tape_0 j ≤ 127) (kz_0_5 : 0 ≤ end_0 ∧ end_0 ≤ 2000) (kz_0_6 : 0 ≤ next_0 ∧ next_0 ≤ 2000) (kz_0_7 : (-128) ≤ kind_0 ∧ kind_0 ≤ 127) (kz_0_8 : 0 ≤ begin_0 ∧ begin_0 ≤ 2000) (kz_0_9 : (-176) ≤ number_0 ∧ number_0 ≤ 1000000) : (1 * kind_0 + 0 ≤ 3) ∨ ((-1) * number_0 + (1 * x1 + 0) ≤ 0) := by
  subst fe_0_5_1
  subst fe_0_6_1
  subst fe_0_8_1
  subst fe_0_9_1
  subst fe_0_5_2
  subst fe_0_7_2
  subst fe_0_8_2
  subst fe_0_9_2
  subst fe_0_5_3
  subst fe_0_6_3
  subst fe_0_9_3
  have e_hE_0_0_1 := funext hE_0_0_1; subst e_hE_0_0_1
  have e_hE_0_0_2 := funext hE_0_0_2; subst e_hE_0_0_2
  have e_hE_0_0_3 := funext hE_0_0_3; subst e_hE_0_0_3
  first | with_reducible assumption | ((try and_intros) <;> first | with_reducible assumption | (clear hE_0_0_1 hE_0_0_2 hE_0_0_3 hK_0_0; omega)) | omega
set_option maxHeartbeats 4000000 in
theorem vc_Re_advance_14_2 (x4 : Int) (x15 : Int) (x17 : Int) (kind_0 : Int) (next_0 : Int) (begin_0 : Int) (end_0 : Int) (number_0 : Int) (number_1 : Int) (next_2 : Int) (tape_2 : Int → Int) (number_2 : Int) (end_2 : Int) (tape_3 : Int → Int) (number_3 : Int) (end_3 : Int) (next_3 : Int) (end_1 : Int) (next_1 : Int) (begin_1 : Int) (kind_1 : Int) (kind_2 : Int) (begin_2 : Int) (tape_0 : Int → Int) (tape_1 : Int → Int) (k4 : 0 ≤ x4 ∧ x4 ≤ 1999) (k15 : 1 ≤ x15 ∧ x15 ≤ 2000) (k17 : 1 ≤ x17 ∧ x17 ≤ 1) (d0 : x4 + 1 ≤ x15 ∧ x15 ≤ x4 + 1) (g0 : x17 = kind_0) (g1 : x15 = next_0) (g2 : x4 = begin_0) (fe_0_5_1 : end_0 = end_1) (fe_0_6_1 : next_0 = next_1) (fe_0_8_1 : begin_0 = begin_1) (fe_0_9_1 : number_0 = number_1) (fe_0_5_2 : end_1 = end_2) (fe_0_7_2 : kind_1 = kind_2) (fe_0_8_2 : begin_1 = begin_2) (fe_0_9_2 : number_1 = number_2) (fe_0_5_3 : end_2 = end_3) (fe_0_6_3 : next_2 = next_3) (fe_0_9_3 : number_2 = number_3) (hE_0_0_1 : ∀ j : Int, tape_0 j = tape_1 j) (hE_0_0_2 : ∀ j : Int, tape_1 j = tape_2 j) (hE_0_0_3 : ∀ j : Int, tape_2 j = tape_3 j) (hK_0_0 : ∀ j : Int, 0 ≤ j → j < 2000 → (-128) ≤ tape_0 j ∧ tape_0 j ≤ 127) (kz_0_5 : 0 ≤ end_0 ∧ end_0 ≤ 2000) (kz_0_6 : 0 ≤ next_0 ∧ next_0 ≤ 2000) (kz_0_7 : (-128) ≤ kind_0 ∧ kind_0 ≤ 127) (kz_0_8 : 0 ≤ begin_0 ∧ begin_0 ≤ 2000) (kz_0_9 : (-176) ≤ number_0 ∧ number_0 ≤ 1000000) : ((-1) * kind_0 + 0 ≤ (-3)) ∨ (1 * next_0 + ((-1) * begin_0 + (2000 * kind_0 + 0)) ≤ 4008) := by
  subst fe_0_5_1
  subst fe_0_6_1
  subst fe_0_8_1
  subst fe_0_9_1
  subst fe_0_5_2
  subst fe_0_7_2
  subst fe_0_8_2
  subst fe_0_9_2
  subst fe_0_5_3
  subst fe_0_6_3
  subst fe_0_9_3
  have e_hE_0_0_1 := funext hE_0_0_1; subst e_hE_0_0_1
  have e_hE_0_0_2 := funext hE_0_0_2; subst e_hE_0_0_2
  have e_hE_0_0_3 := funext hE_0_0_3; subst e_hE_0_0_3
  first | with_reducible assumption | ((try and_intros) <;> first | with_reducible assumption | (clear hE_0_0_1 hE_0_0_2 hE_0_0_3 hK_0_0; omega)) | omega
set_option maxHeartbeats 4000000 in
theorem vc_Re_advance_14_3 (x4 : Int) (x15 : Int) (next_0 : Int) (begin_0 : Int) (end_0 : Int) (number_0 : Int) (number_1 : Int) (next_2 : Int) (tape_2 : Int → Int) (number_2 : Int) (end_2 : Int) (tape_3 : Int → Int) (number_3 : Int) (end_3 : Int) (next_3 : Int) (end_1 : Int) (next_1 : Int) (begin_1 : Int) (kind_1 : Int) (kind_2 : Int) (begin_2 : Int) (tape_0 : Int → Int) (tape_1 : Int → Int) (k4 : 0 ≤ x4 ∧ x4 ≤ 1999) (k15 : 1 ≤ x15 ∧ x15 ≤ 2000) (d0 : x4 + 1 ≤ x15 ∧ x15 ≤ x4 + 1) (g1 : x15 = next_0) (g2 : x4 = begin_0) (fe_0_5_1 : end_0 = end_1) (fe_0_6_1 : next_0 = next_1) (fe_0_8_1 : begin_0 = begin_1) (fe_0_9_1 : number_0 = number_1) (fe_0_5_2 : end_1 = end_2) (fe_0_7_2 : kind_1 = kind_2) (fe_0_8_2 : begin_1 = begin_2) (fe_0_9_2 : number_1 = number_2) (fe_0_5_3 : end_2 = end_3) (fe_0_6_3 : next_2 = next_3) (fe_0_9_3 : number_2 = number_3) (hE_0_0_1 : ∀ j : Int, tape_0 j = tape_1 j) (hE_0_0_2 : ∀ j : Int, tape_1 j = tape_2 j) (hE_0_0_3 : ∀ j : Int, tape_2 j = tape_3 j) (hK_0_0 : ∀ j : Int, 0 ≤ j → j < 2000 → (-128) ≤ tape_0 j ∧ tape_0 j ≤ 127) (kz_0_5 : 0 ≤ end_0 ∧ end_0 ≤ 2000) (kz_0_6 : 0 ≤ next_0 ∧ next_0 ≤ 2000) (kz_0_8 : 0 ≤ begin_0 ∧ begin_0 ≤ 2000) (kz_0_9 : (-176) ≤ number_0 ∧ number_0 ≤ 1000000) : 1 * begin_0 + ((-1) * next_0 + 0) ≤ 0 := by
  subst fe_0_5_1
  subst fe_0_6_1
  subst fe_0_8_1
  subst fe_0_9_1
  subst fe_0_5_2
  subst fe_0_7_2
  subst fe_0_8_2
  subst fe_0_9_2
  subst fe_0_5_3
  subst fe_0_6_3
  subst fe_0_9_3
  have e_hE_0_0_1 := funext hE_0_0_1; subst e_hE_0_0_1
  have e_hE_0_0_2 := funext hE_0_0_2; subst e_hE_0_0_2
  have e_hE_0_0_3 := funext hE_0_0_3; subst e_hE_0_0_3
  first | with_reducible assumption | ((try and_intros) <;> first | with_reducible assumption | (clear hE_0_0_1 hE_0_0_2 hE_0_0_3 hK_0_0; omega)) | omega
set_option maxHeartbeats 4000000 in
theorem vc_Re_advance_14_4 (x2 : Int) (x4 : Int) (x5 : Int) (x7 : Int) (x8 : Int) (x9 : Int) (x10 : Int) (x11 : Int) (x15 : Int) (x16 : Int) (x17 : Int) (kind_0 : Int) (next_0 : Int) (begin_0 : Int) (end_0 : Int) (number_0 : Int) (number_1 : Int) (next_2 : Int) (tape_2 : Int → Int) (number_2 : Int) (end_2 : Int) (tape_3 : Int → Int) (number_3 : Int) (end_3 : Int) (next_3 : Int) (end_1 : Int) (next_1 : Int) (begin_1 : Int) (kind_1 : Int) (kind_2 : Int) (begin_2 : Int) (tape_0 : Int → Int) (tape_1 : Int → Int) (k2 : 0 ≤ x2 ∧ x2 ≤ 2000) (k4 : 0 ≤ x4 ∧ x4 ≤ 1999) (k5 : 1 ≤ x5 ∧ x5 ≤ 2000) (k7 : (-128) ≤ x7 ∧ x7 ≤ 127) (k8 : 32 ≤ x8 ∧ x8 ≤ 32) (k9 : (-128) ≤ x9 ∧ x9 ≤ 127) (k10 : 10 ≤ x10 ∧ x10 ≤ 10) (k11 : (-128) ≤ x11 ∧ x11 ≤ 47) (k15 : 1 ≤ x15 ∧ x15 ≤ 2000) (k16 : 0 ≤ x16 ∧ x16 ≤ 0) (k17 : 1 ≤ x17 ∧ x17 ≤ 1) (d0 : x4 + 1 ≤ x15 ∧ x15 ≤ x4 + 1) (g0 : x17 = kind_0) (g1 : x15 = next_0) (g2 : x4 = begin_0) (g4 : x5 = end_0) (f12 : x16 = 0) (f13 : CSG (x11) (x16)) (g20 : x4 = next_2) (h25 : x11 = tape_2 (x4)) (f32 : x9 ≠ x10) (h33 : x9 = tape_3 (x4)) (f34 : x7 ≠ x8) (h35 : x7 = tape_3 (x4)) (f36 : x4 < x5) (f39 : CX0 (end_3) (next_3) (tape_3) (x2)) (fe_0_5_1 : end_0 = end_1) (fe_0_6_1 : next_0 = next_1) (fe_0_8_1 : begin_0 = begin_1) (fe_0_9_1 : number_0 = number_1) (fe_0_5_2 : end_1 = end_2) (fe_0_7_2 : kind_1 = kind_2) (fe_0_8_2 : begin_1 = begin_2) (fe_0_9_2 : number_1 = number_2) (fe_0_5_3 : end_2 = end_3) (fe_0_6_3 : next_2 = next_3) (fe_0_8_3 : begin_2 = x4) (fe_0_9_3 : number_2 = number_3) (hE_0_0_1 : ∀ j : Int, tape_0 j = tape_1 j) (hE_0_0_2 : ∀ j : Int, tape_1 j = tape_2 j) (hE_0_0_3 : ∀ j : Int, tape_2 j = tape_3 j) (hK_0_0 : ∀ j : Int, 0 ≤ j → j < 2000 → (-128) ≤ tape_0 j ∧ tape_0 j ≤ 127) (kz_0_5 : 0 ≤ end_0 ∧ end_0 ≤ 2000) (kz_0_6 : 0 ≤ next_0 ∧ next_0 ≤ 2000) (kz_0_7 : (-128) ≤ kind_0 ∧ kind_0 ≤ 127) (kz_0_8 : 0 ≤ begin_0 ∧ begin_0 ≤ 2000) (kz_0_9 : (-176) ≤ number_0 ∧ number_0 ≤ 1000000) : TKC (end_0) (next_0) (kind_0) (begin_0) (number_0) (tape_0) (x2) := by
  subst fe_0_5_1
  subst fe_0_6_1
  subst fe_0_8_1
  subst fe_0_9_1
  subst fe_0_5_2
  subst fe_0_7_2
  subst fe_0_8_2
  subst fe_0_9_2
  subst fe_0_5_3
  subst fe_0_6_3
  subst fe_0_9_3
  have e_hE_0_0_1 := funext hE_0_0_1; subst e_hE_0_0_1
  have e_hE_0_0_2 := funext hE_0_0_2; subst e_hE_0_0_2
  have e_hE_0_0_3 := funext hE_0_0_3; subst e_hE_0_0_3
  first | subst g0 | skip
  first | subst g1 | skip
  first | subst g2 | skip
  first | subst g4 | skip
  first | subst g20 | skip
  first
    | exact cxl_e (by assumption) ‹CXL _ _ _ _ _› (fun q => by omega) (by omega)
    | exact cxl_e (by assumption) ‹CXL _ _ _ _ _› (fun q => cnb_f ‹CNBy _ _› (by omega) (by omega)) (by omega)
    | exact cxd_e (by assumption) ‹CXD _ _ _ _ _ _› (fun q => by unfold cIG; omega) (by omega)
    | exact cxs_e (by assumption) (cx_1 (by assumption) ‹CX0 _ _ _ _› (fun q => by omega) (by omega)) (by omega) rfl (by unfold cIL; omega) (by unfold cIG; omega) (by omega) (Or.inl ⟨csg_t ‹CSG _ _› (by omega) (by omega), by omega⟩)
    | exact cxs_e (by assumption) (cx_1 (by assumption) ‹CX0 _ _ _ _› (fun q => by omega) (by omega)) (by omega) rfl (by unfold cIL; omega) (by unfold cIG; omega) (by omega) (Or.inr ⟨csg_f ‹CSG _ _› (by omega) (by omega), by omega⟩)
set_option maxHeartbeats 4000000 in
theorem vc_Re_advance_14_5 (x2 : Int) (x4 : Int) (x15 : Int) (next_0 : Int) (begin_0 : Int) (end_0 : Int) (number_0 : Int) (number_1 : Int) (next_2 : Int) (tape_2 : Int → Int) (number_2 : Int) (end_2 : Int) (tape_3 : Int → Int) (number_3 : Int) (end_3 : Int) (next_3 : Int) (end_1 : Int) (next_1 : Int) (begin_1 : Int) (kind_1 : Int) (kind_2 : Int) (begin_2 : Int) (tape_0 : Int → Int) (tape_1 : Int → Int) (k2 : 0 ≤ x2 ∧ x2 ≤ 2000) (k4 : 0 ≤ x4 ∧ x4 ≤ 1999) (k15 : 1 ≤ x15 ∧ x15 ≤ 2000) (d0 : x4 + 1 ≤ x15 ∧ x15 ≤ x4 + 1) (g1 : x15 = next_0) (g2 : x4 = begin_0) (g20 : x4 = next_2) (f30 : 1 * x2 + ((-1) * next_2 + 0) ≤ 0) (fe_0_5_1 : end_0 = end_1) (fe_0_6_1 : next_0 = next_1) (fe_0_8_1 : begin_0 = begin_1) (fe_0_9_1 : number_0 = number_1) (fe_0_5_2 : end_1 = end_2) (fe_0_7_2 : kind_1 = kind_2) (fe_0_8_2 : begin_1 = begin_2) (fe_0_9_2 : number_1 = number_2) (fe_0_5_3 : end_2 = end_3) (fe_0_6_3 : next_2 = next_3) (fe_0_9_3 : number_2 = number_3) (hE_0_0_1 : ∀ j : Int, tape_0 j = tape_1 j) (hE_0_0_2 : ∀ j : Int, tape_1 j = tape_2 j) (hE_0_0_3 : ∀ j : Int, tape_2 j = tape_3 j) (hK_0_0 : ∀ j : Int, 0 ≤ j → j < 2000 → (-128) ≤ tape_0 j ∧ tape_0 j ≤ 127) (kz_0_5 : 0 ≤ end_0 ∧ end_0 ≤ 2000) (kz_0_6 : 0 ≤ next_0 ∧ next_0 ≤ 2000) (kz_0_8 : 0 ≤ begin_0 ∧ begin_0 ≤ 2000) (kz_0_9 : (-176) ≤ number_0 ∧ number_0 ≤ 1000000) : 1 * x2 + ((-1) * next_0 + 0) ≤ 0 := by
  subst fe_0_5_1
  subst fe_0_6_1
  subst fe_0_8_1
  subst fe_0_9_1
  subst fe_0_5_2
  subst fe_0_7_2
  subst fe_0_8_2
  subst fe_0_9_2
  subst fe_0_5_3
  subst fe_0_6_3
  subst fe_0_9_3
  have e_hE_0_0_1 := funext hE_0_0_1; subst e_hE_0_0_1
  have e_hE_0_0_2 := funext hE_0_0_2; subst e_hE_0_0_2
  have e_hE_0_0_3 := funext hE_0_0_3; subst e_hE_0_0_3
  first | with_reducible assumption | ((try and_intros) <;> first | with_reducible assumption | (clear hE_0_0_1 hE_0_0_2 hE_0_0_3 hK_0_0; omega)) | omega
def o_Re_advance_14 : or_T := (290, 18, [(0, (2, 0, 0, [8])), (1, (0, -2147483648, 1000000, [])), (2, (0, 0, 2000, [])), (3, (2, 0, 0, [8])), (4, (0, 0, 1999, [])), (5, (0, 1, 2000, [])), (6, (2, 0, 0, [109])), (7, (0, -128, 127, [])), (8, (0, 32, 32, [])), (9, (0, -128, 127, [])), (10, (0, 10, 10, [])), (11, (0, -128, 47, [])), (12, (0, 0, 0, [])), (13, (0, 0, 0, [])), (14, (0, 1, 1, [])), (15, (0, 1, 2000, [])), (16, (0, 0, 0, [])), (17, (0, 1, 1, []))], [(9, [17, 3], [7]), (9, [15, 3], [6]), (9, [4, 3], [8]), (9, [6, 3], [0]), (9, [5, 3], [5]), (20, [11, 16], [61, 0, 1100]), (20, [11, 13], [61, 0, 1098]), (20, [11, 12], [61, 0, 1097]), (20, [3, 1], [30, 0, 1, 1, 9, -1, 0, 0]), (20, [3, 1], [30, 0, -1, 1, 9, 1, 0, 0]), (24, [0, 3], []), (101, [3, 17], [7]), (8, [16], [0]), (20, [11, 16], [61, 0, 1100]), (20, [11, 13], [61, 0, 1098]), (20, [11, 12], [61, 0, 1097]), (20, [3, 1], [30, 0, 1, 1, 9, -1, 0, 0]), (20, [3, 1], [30, 0, -1, 1, 9, 1, 0, 0]), (101, [3, 15], [6]), (1, [15, 4, 14], []), (9, [4, 3], [6]), (8, [13], [0]), (20, [11, 13], [61, 0, 1098]), (8, [12], [0]), (20, [11, 12], [61, 0, 1097]), (10, [11, 6, 4], []), (7, [4, 5], [2]), (20, [3, 1], [30, 0, 1, 1, 9, -1, 0, 0]), (20, [3, 1], [30, 0, -1, 1, 9, 1, 0, 0]), (20, [3, 2], [60, 2, 1, 1074, 5, 6, 0]), (20, [2, 3], [30, 0, 1, 0, 0, -1, 1, 6]), (101, [3, 4], [8]), (7, [9, 10], [1]), (10, [9, 6, 4], []), (7, [7, 8], [1]), (10, [7, 6, 4], []), (7, [4, 5], [2]), (20, [3, 1], [30, 0, 1, 1, 9, -1, 0, 0]), (20, [3, 1], [30, 0, -1, 1, 9, 1, 0, 0]), (20, [3, 2], [60, 2, 1, 1074, 5, 6, 0]), (20, [2, 3], [30, 0, 1, 0, 0, -1, 1, 6])], [], [], [(20, [0, 0, 1], [31, 1, 3, 1, 1, 7, 0, 1, 1, 9, -1, 0, 0]), (20, [0, 0, 1], [31, 1, 3, 1, 1, 7, 0, -1, 1, 9, 1, 0, 0]), (20, [0, 0, 0, 0], [31, 1, -3, -1, 1, 7, 4008, 1, 1, 6, -1, 1, 8, 2000, 1, 7]), (20, [0, 0], [30, 0, 1, 1, 8, -1, 1, 6]), (20, [0, 2], [60, 5, 1, 1072, 5, 6, 7, 8, 9, 0]), (20, [2, 0], [30, 0, 1, 0, 0, -1, 1, 6])], [], [(15, 4, 1, 1), (15, 5, -4294967296, 0), (4, 5, -4294967296, -1)])
theorem oo_Re_advance_14 {kA : Nat → ClassId} : or_ok PRD kA GG o_Re_advance_14 := by
  refine or_mk fun A ta ws vs hD hth hl => ?_
  intro t0 r0 t1 k1 t2 k2 t3 r3 t4 k4 t5 k5 t6 r6 t7 k7 t8 k8 t9 k9 t10 k10 t11 k11 t12 k12 t13 k13 t14 k14 t15 k15 t16 k16 t17 k17 d0 d1 d2 f0 f1 f2 f3 f4 f5 f6 f7 f8 f9 f10 ta1 w1 le1 s1 f12 f13 f14 f15 f16 f17 ta2 w2 le2 s2 f19 f20 f21 f22 f23 f24 f25 f26 f27 f28 f29 f30 ta3 w3 le3 s3 f32 f33 f34 f35 f36 f37 f38 f39 f40
  replace f0 := shm_198 f0
  replace f1 := shm_111 f1
  replace f2 := shm_293 f2
  replace f3 := shm_163 f3
  replace f4 := shm_110 f4
  replace f10 := shm_5 f10
  have s1 : (∀ b j, w_el ws b j = w_el w1 b j) ∧ ∀ b j, w_fd ws b j = if b = v_ad (n_v vs 3) ∧ j = 7 then n_v vs 17 else w_fd w1 b j := s1.2
  have s2 : (∀ b j, w_el w1 b j = w_el w2 b j) ∧ ∀ b j, w_fd w1 b j = if b = v_ad (n_v vs 3) ∧ j = 6 then n_v vs 15 else w_fd w2 b j := s2.2
  replace f20 := shm_111 f20
  replace f25 := shm_107 f25
  replace f30 := shm_1527 f30
  have s3 : (∀ b j, w_el w2 b j = w_el w3 b j) ∧ ∀ b j, w_fd w2 b j = if b = v_ad (n_v vs 3) ∧ j = 8 then n_v vs 4 else w_fd w3 b j := s3.2
  replace f33 := shm_107 f33
  replace f35 := shm_107 f35
  replace f39 := shm_1526 f39
  have q3 : n_v vs 3 = n_v vs 0 := f10.symm
  simp only [q3] at f0 f1 f2 f3 f4
  rw [q3] at s1
  rw [q3] at s2
  simp only [q3] at f20 f30
  rw [q3] at s3
  simp only [q3] at f39
  have ar_0_0_1 : w_ar w1 (n_v vs 0) 0 = w_ar ws (n_v vs 0) 0 := by show v_ad (w_fd w1 _ _) = v_ad (w_fd ws _ _); rw [s1.2, if_neg (fun e => absurd e.2 (by decide))]
  have ar_0_0_2 : w_ar w2 (n_v vs 0) 0 = w_ar ws (n_v vs 0) 0 := by rw [← ar_0_0_1]; show v_ad (w_fd w2 _ _) = v_ad (w_fd w1 _ _); rw [s2.2, if_neg (fun e => absurd e.2 (by decide))]
  have ar_0_0_3 : w_ar w3 (n_v vs 0) 0 = w_ar ws (n_v vs 0) 0 := by rw [← ar_0_0_2]; show v_ad (w_fd w3 _ _) = v_ad (w_fd w2 _ _); rw [s3.2, if_neg (fun e => absurd e.2 (by decide))]
  have cr_0_0 := fdq_95 hD hth r0
  have ad_6 : v_ad (n_v vs 6) = w_ar ws (n_v vs 0) 0 := congrArg v_ad f3
  have g0 : v_iv (n_v vs 17) = w_fi ws (n_v vs 0) 7 := congrArg v_iv f0
  have g1 : v_iv (n_v vs 15) = w_fi ws (n_v vs 0) 6 := congrArg v_iv f1
  have g2 : v_iv (n_v vs 4) = w_fi ws (n_v vs 0) 8 := congrArg v_iv f2
  have g4 : v_iv (n_v vs 5) = w_fi ws (n_v vs 0) 5 := congrArg v_iv f4
  have g20 : v_iv (n_v vs 4) = w_fi w2 (n_v vs 0) 6 := congrArg v_iv f20
  simp only [ad_6] at f25
  have h25 : v_iv (n_v vs 11) = w_ei w2 (w_ar ws (n_v vs 0) 0) (v_iv (n_v vs 4)) := f25
  simp only [ar_0_0_2, ad_6] at f33
  have h33 : v_iv (n_v vs 9) = w_ei w3 (w_ar ws (n_v vs 0) 0) (v_iv (n_v vs 4)) := f33
  simp only [ad_6] at f35
  have h35 : v_iv (n_v vs 7) = w_ei w3 (w_ar ws (n_v vs 0) 0) (v_iv (n_v vs 4)) := f35
  simp only [ar_0_0_3] at f39
  have fe_0_5_1 : w_fi ws (n_v vs 0) 5 = w_fi w1 (n_v vs 0) 5 := by show v_iv (w_fd _ _ _) = v_iv (w_fd _ _ _); rw [s1.2, if_neg (fun e => absurd e.2 (by decide))]
  have fe_0_6_1 : w_fi ws (n_v vs 0) 6 = w_fi w1 (n_v vs 0) 6 := by show v_iv (w_fd _ _ _) = v_iv (w_fd _ _ _); rw [s1.2, if_neg (fun e => absurd e.2 (by decide))]
  have fe_0_8_1 : w_fi ws (n_v vs 0) 8 = w_fi w1 (n_v vs 0) 8 := by show v_iv (w_fd _ _ _) = v_iv (w_fd _ _ _); rw [s1.2, if_neg (fun e => absurd e.2 (by decide))]
  have fe_0_9_1 : w_fi ws (n_v vs 0) 9 = w_fi w1 (n_v vs 0) 9 := by show v_iv (w_fd _ _ _) = v_iv (w_fd _ _ _); rw [s1.2, if_neg (fun e => absurd e.2 (by decide))]
  have fe_0_5_2 : w_fi w1 (n_v vs 0) 5 = w_fi w2 (n_v vs 0) 5 := by show v_iv (w_fd _ _ _) = v_iv (w_fd _ _ _); rw [s2.2, if_neg (fun e => absurd e.2 (by decide))]
  have fe_0_7_2 : w_fi w1 (n_v vs 0) 7 = w_fi w2 (n_v vs 0) 7 := by show v_iv (w_fd _ _ _) = v_iv (w_fd _ _ _); rw [s2.2, if_neg (fun e => absurd e.2 (by decide))]
  have fe_0_8_2 : w_fi w1 (n_v vs 0) 8 = w_fi w2 (n_v vs 0) 8 := by show v_iv (w_fd _ _ _) = v_iv (w_fd _ _ _); rw [s2.2, if_neg (fun e => absurd e.2 (by decide))]
  have fe_0_9_2 : w_fi w1 (n_v vs 0) 9 = w_fi w2 (n_v vs 0) 9 := by show v_iv (w_fd _ _ _) = v_iv (w_fd _ _ _); rw [s2.2, if_neg (fun e => absurd e.2 (by decide))]
  have fe_0_5_3 : w_fi w2 (n_v vs 0) 5 = w_fi w3 (n_v vs 0) 5 := by show v_iv (w_fd _ _ _) = v_iv (w_fd _ _ _); rw [s3.2, if_neg (fun e => absurd e.2 (by decide))]
  have fe_0_6_3 : w_fi w2 (n_v vs 0) 6 = w_fi w3 (n_v vs 0) 6 := by show v_iv (w_fd _ _ _) = v_iv (w_fd _ _ _); rw [s3.2, if_neg (fun e => absurd e.2 (by decide))]
  have fe_0_8_3 : w_fi w2 (n_v vs 0) 8 = v_iv (n_v vs 4) := by show v_iv (w_fd _ _ _) = _; rw [s3.2, if_pos ⟨rfl, rfl⟩]
  have fe_0_9_3 : w_fi w2 (n_v vs 0) 9 = w_fi w3 (n_v vs 0) 9 := by show v_iv (w_fd _ _ _) = v_iv (w_fd _ _ _); rw [s3.2, if_neg (fun e => absurd e.2 (by decide))]
  have hE_0_0_1 : ∀ j : Int, w_ei ws (w_ar ws (n_v vs 0) 0) j = w_ei w1 (w_ar ws (n_v vs 0) 0) j := fun j => s1.1 _ _
  have hE_0_0_2 : ∀ j : Int, w_ei w1 (w_ar ws (n_v vs 0) 0) j = w_ei w2 (w_ar ws (n_v vs 0) 0) j := fun j => s2.1 _ _
  have hE_0_0_3 : ∀ j : Int, w_ei w2 (w_ar ws (n_v vs 0) 0) j = w_ei w3 (w_ar ws (n_v vs 0) 0) j := fun j => s3.1 _ _
  have hK_0_0 := elq_33 hD hth cr_0_0
  have kz_0_5 := fdq_207 hD hth r0
  have kz_0_6 := fdq_208 hD hth r0
  have kz_0_7 := fdq_297 hD hth r0
  have kz_0_8 := fdq_99 hD hth r0
  have kz_0_9 := fdq_296 hD hth r0
  have nf0 : fc_1 PRD (20, [0, 0, 1], [31, 1, 3, 1, 1, 7, 0, 1, 1, 9, -1, 0, 0]) ws (vs) := ⟨nf_in hl rfl, sgq_1528 (vc_Re_advance_14_0 (v_iv (n_v vs 1)) (v_iv (n_v vs 17)) (w_fi ws (n_v vs 0) 7) (w_fi ws (n_v vs 0) 6) (w_fi ws (n_v vs 0) 8) (w_fi ws (n_v vs 0) 5) (w_fi ws (n_v vs 0) 9) (w_fi w1 (n_v vs 0) 9) (w_fi w2 (n_v vs 0) 6) (w_ei w2 (w_ar ws (n_v vs 0) 0)) (w_fi w2 (n_v vs 0) 9) (w_fi w2 (n_v vs 0) 5) (w_ei w3 (w_ar ws (n_v vs 0) 0)) (w_fi w3 (n_v vs 0) 9) (w_fi w3 (n_v vs 0) 5) (w_fi w3 (n_v vs 0) 6) (w_fi w1 (n_v vs 0) 5) (w_fi w1 (n_v vs 0) 6) (w_fi w1 (n_v vs 0) 8) (w_fi w1 (n_v vs 0) 7) (w_fi w2 (n_v vs 0) 7) (w_fi w2 (n_v vs 0) 8) (w_ei ws (w_ar ws (n_v vs 0) 0)) (w_ei w1 (w_ar ws (n_v vs 0) 0)) k1 k17 g0 fe_0_5_1 fe_0_6_1 fe_0_8_1 fe_0_9_1 fe_0_5_2 fe_0_7_2 fe_0_8_2 fe_0_9_2 fe_0_5_3 fe_0_6_3 fe_0_9_3 hE_0_0_1 hE_0_0_2 hE_0_0_3 hK_0_0 kz_0_5 kz_0_6 kz_0_7 kz_0_8 kz_0_9)⟩
  have nf1 : fc_1 PRD (20, [0, 0, 1], [31, 1, 3, 1, 1, 7, 0, -1, 1, 9, 1, 0, 0]) ws (vs) := ⟨nf_in hl rfl, sgq_1529 (vc_Re_advance_14_1 (v_iv (n_v vs 1)) (v_iv (n_v vs 17)) (w_fi ws (n_v vs 0) 7) (w_fi ws (n_v vs 0) 6) (w_fi ws (n_v vs 0) 8) (w_fi ws (n_v vs 0) 5) (w_fi ws (n_v vs 0) 9) (w_fi w1 (n_v vs 0) 9) (w_fi w2 (n_v vs 0) 6) (w_ei w2 (w_ar ws (n_v vs 0) 0)) (w_fi w2 (n_v vs 0) 9) (w_fi w2 (n_v vs 0) 5) (w_ei w3 (w_ar ws (n_v vs 0) 0)) (w_fi w3 (n_v vs 0) 9) (w_fi w3 (n_v vs 0) 5) (w_fi w3 (n_v vs 0) 6) (w_fi w1 (n_v vs 0) 5) (w_fi w1 (n_v vs 0) 6) (w_fi w1 (n_v vs 0) 8) (w_fi w1 (n_v vs 0) 7) (w_fi w2 (n_v vs 0) 7) (w_fi w2 (n_v vs 0) 8) (w_ei ws (w_ar ws (n_v vs 0) 0)) (w_ei w1 (w_ar ws (n_v vs 0) 0)) k1 k17 g0 fe_0_5_1 fe_0_6_1 fe_0_8_1 fe_0_9_1 fe_0_5_2 fe_0_7_2 fe_0_8_2 fe_0_9_2 fe_0_5_3 fe_0_6_3 fe_0_9_3 hE_0_0_1 hE_0_0_2 hE_0_0_3 hK_0_0 kz_0_5 kz_0_6 kz_0_7 kz_0_8 kz_0_9)⟩
  have nf2 : fc_1 PRD (20, [0, 0, 0, 0], [31, 1, -3, -1, 1, 7, 4008, 1, 1, 6, -1, 1, 8, 2000, 1, 7]) ws (vs) := ⟨nf_in hl rfl, sgq_1530 (vc_Re_advance_14_2 (v_iv (n_v vs 4)) (v_iv (n_v vs 15)) (v_iv (n_v vs 17)) (w_fi ws (n_v vs 0) 7) (w_fi ws (n_v vs 0) 6) (w_fi ws (n_v vs 0) 8) (w_fi ws (n_v vs 0) 5) (w_fi ws (n_v vs 0) 9) (w_fi w1 (n_v vs 0) 9) (w_fi w2 (n_v vs 0) 6) (w_ei w2 (w_ar ws (n_v vs 0) 0)) (w_fi w2 (n_v vs 0) 9) (w_fi w2 (n_v vs 0) 5) (w_ei w3 (w_ar ws (n_v vs 0) 0)) (w_fi w3 (n_v vs 0) 9) (w_fi w3 (n_v vs 0) 5) (w_fi w3 (n_v vs 0) 6) (w_fi w1 (n_v vs 0) 5) (w_fi w1 (n_v vs 0) 6) (w_fi w1 (n_v vs 0) 8) (w_fi w1 (n_v vs 0) 7) (w_fi w2 (n_v vs 0) 7) (w_fi w2 (n_v vs 0) 8) (w_ei ws (w_ar ws (n_v vs 0) 0)) (w_ei w1 (w_ar ws (n_v vs 0) 0)) k4 k15 k17 d0 g0 g1 g2 fe_0_5_1 fe_0_6_1 fe_0_8_1 fe_0_9_1 fe_0_5_2 fe_0_7_2 fe_0_8_2 fe_0_9_2 fe_0_5_3 fe_0_6_3 fe_0_9_3 hE_0_0_1 hE_0_0_2 hE_0_0_3 hK_0_0 kz_0_5 kz_0_6 kz_0_7 kz_0_8 kz_0_9)⟩
  have nf3 : fc_1 PRD (20, [0, 0], [30, 0, 1, 1, 8, -1, 1, 6]) ws (vs) := ⟨nf_in hl rfl, sgq_1531 (vc_Re_advance_14_3 (v_iv (n_v vs 4)) (v_iv (n_v vs 15)) (w_fi ws (n_v vs 0) 6) (w_fi ws (n_v vs 0) 8) (w_fi ws (n_v vs 0) 5) (w_fi ws (n_v vs 0) 9) (w_fi w1 (n_v vs 0) 9) (w_fi w2 (n_v vs 0) 6) (w_ei w2 (w_ar ws (n_v vs 0) 0)) (w_fi w2 (n_v vs 0) 9) (w_fi w2 (n_v vs 0) 5) (w_ei w3 (w_ar ws (n_v vs 0) 0)) (w_fi w3 (n_v vs 0) 9) (w_fi w3 (n_v vs 0) 5) (w_fi w3 (n_v vs 0) 6) (w_fi w1 (n_v vs 0) 5) (w_fi w1 (n_v vs 0) 6) (w_fi w1 (n_v vs 0) 8) (w_fi w1 (n_v vs 0) 7) (w_fi w2 (n_v vs 0) 7) (w_fi w2 (n_v vs 0) 8) (w_ei ws (w_ar ws (n_v vs 0) 0)) (w_ei w1 (w_ar ws (n_v vs 0) 0)) k4 k15 d0 g1 g2 fe_0_5_1 fe_0_6_1 fe_0_8_1 fe_0_9_1 fe_0_5_2 fe_0_7_2 fe_0_8_2 fe_0_9_2 fe_0_5_3 fe_0_6_3 fe_0_9_3 hE_0_0_1 hE_0_0_2 hE_0_0_3 hK_0_0 kz_0_5 kz_0_6 kz_0_8 kz_0_9)⟩
  have nf4 : fc_1 PRD (20, [0, 2], [60, 5, 1, 1072, 5, 6, 7, 8, 9, 0]) ws (vs) := ⟨nf_in hl rfl, sgq_1532 (vc_Re_advance_14_4 (v_iv (n_v vs 2)) (v_iv (n_v vs 4)) (v_iv (n_v vs 5)) (v_iv (n_v vs 7)) (v_iv (n_v vs 8)) (v_iv (n_v vs 9)) (v_iv (n_v vs 10)) (v_iv (n_v vs 11)) (v_iv (n_v vs 15)) (v_iv (n_v vs 16)) (v_iv (n_v vs 17)) (w_fi ws (n_v vs 0) 7) (w_fi ws (n_v vs 0) 6) (w_fi ws (n_v vs 0) 8) (w_fi ws (n_v vs 0) 5) (w_fi ws (n_v vs 0) 9) (w_fi w1 (n_v vs 0) 9) (w_fi w2 (n_v vs 0) 6) (w_ei w2 (w_ar ws (n_v vs 0) 0)) (w_fi w2 (n_v vs 0) 9) (w_fi w2 (n_v vs 0) 5) (w_ei w3 (w_ar ws (n_v vs 0) 0)) (w_fi w3 (n_v vs 0) 9) (w_fi w3 (n_v vs 0) 5) (w_fi w3 (n_v vs 0) 6) (w_fi w1 (n_v vs 0) 5) (w_fi w1 (n_v vs 0) 6) (w_fi w1 (n_v vs 0) 8) (w_fi w1 (n_v vs 0) 7) (w_fi w2 (n_v vs 0) 7) (w_fi w2 (n_v vs 0) 8) (w_ei ws (w_ar ws (n_v vs 0) 0)) (w_ei w1 (w_ar ws (n_v vs 0) 0)) k2 k4 k5 k7 k8 k9 k10 k11 k15 k16 k17 d0 g0 g1 g2 g4 (shm_192 f12) (shm_454 f13) g20 h25 (shm_40 f32) h33 (shm_40 f34) h35 (shm_6 f36) f39 fe_0_5_1 fe_0_6_1 fe_0_8_1 fe_0_9_1 fe_0_5_2 fe_0_7_2 fe_0_8_2 fe_0_9_2 fe_0_5_3 fe_0_6_3 fe_0_8_3 fe_0_9_3 hE_0_0_1 hE_0_0_2 hE_0_0_3 hK_0_0 kz_0_5 kz_0_6 kz_0_7 kz_0_8 kz_0_9)⟩
  have nf5 : fc_1 PRD (20, [2, 0], [30, 0, 1, 0, 0, -1, 1, 6]) ws (vs) := ⟨nf_in hl rfl, sgq_1527 (vc_Re_advance_14_5 (v_iv (n_v vs 2)) (v_iv (n_v vs 4)) (v_iv (n_v vs 15)) (w_fi ws (n_v vs 0) 6) (w_fi ws (n_v vs 0) 8) (w_fi ws (n_v vs 0) 5) (w_fi ws (n_v vs 0) 9) (w_fi w1 (n_v vs 0) 9) (w_fi w2 (n_v vs 0) 6) (w_ei w2 (w_ar ws (n_v vs 0) 0)) (w_fi w2 (n_v vs 0) 9) (w_fi w2 (n_v vs 0) 5) (w_ei w3 (w_ar ws (n_v vs 0) 0)) (w_fi w3 (n_v vs 0) 9) (w_fi w3 (n_v vs 0) 5) (w_fi w3 (n_v vs 0) 6) (w_fi w1 (n_v vs 0) 5) (w_fi w1 (n_v vs 0) 6) (w_fi w1 (n_v vs 0) 8) (w_fi w1 (n_v vs 0) 7) (w_fi w2 (n_v vs 0) 7) (w_fi w2 (n_v vs 0) 8) (w_ei ws (w_ar ws (n_v vs 0) 0)) (w_ei w1 (w_ar ws (n_v vs 0) 0)) k2 k4 k15 d0 g1 g2 g20 f30 fe_0_5_1 fe_0_6_1 fe_0_8_1 fe_0_9_1 fe_0_5_2 fe_0_7_2 fe_0_8_2 fe_0_9_2 fe_0_5_3 fe_0_6_3 fe_0_9_3 hE_0_0_1 hE_0_0_2 hE_0_0_3 hK_0_0 kz_0_5 kz_0_6 kz_0_8 kz_0_9)⟩
  refine ⟨(fun _ h => (by cases h)), [], trivial, ?_, (fun _ h => (by cases h))⟩
  rw [List.append_nil]
  exact List.forall_mem_cons.mpr ⟨⟨show (20 : Nat) < 100 from by decide, nf0⟩, List.forall_mem_cons.mpr ⟨⟨show (20 : Nat) < 100 from by decide, nf1⟩, List.forall_mem_cons.mpr ⟨⟨show (20 : Nat) < 100 from by decide, nf2⟩, List.forall_mem_cons.mpr ⟨⟨show (20 : Nat) < 100 from by decide, nf3⟩, List.forall_mem_cons.mpr ⟨⟨show (20 : Nat) < 100 from by decide, nf4⟩, List.forall_mem_cons.mpr ⟨⟨show (20 : Nat) < 100 from by decide, nf5⟩, (fun _ h => (by cases h))⟩⟩⟩⟩⟩⟩
set_option maxHeartbeats 4000000 in
theorem vc_Re_advance_15_0 (x1 : Int) (kind_0 : Int) (next_0 : Int) (begin_0 : Int) (end_0 : Int) (number_0 : Int) (number_1 : Int) (next_2 : Int) (tape_2 : Int → Int) (number_2 : Int) (end_2 : Int) (tape_3 : Int → Int) (number_3 : Int) (end_3 : Int) (next_3 : Int) (end_1 : Int) (next_1 : Int) (begin_1 : Int) (kind_1 : Int) (kind_2 : Int) (begin_2 : Int) (tape_0 : Int → Int) (tape_1 : Int → Int) (k1 : (-2147483648) ≤ x1 ∧ x1 ≤ 1000000) (f8 : 1 * number_0 + ((-1) * x1 + 0) ≤ 0) (f9 : (-1) * number_0 + (1 * x1 + 0) ≤ 0) (fe_0_5_1 : end_0 = end_1) (fe_0_6_1 : next_0 = next_1) (fe_0_8_1 : begin_0 = begin_1) (fe_0_9_1 : number_0 = number_1) (fe_0_5_2 : end_1 = end_2) (fe_0_7_2 : kind_1 = kind_2) (fe_0_8_2 : begin_1 = begin_2) (fe_0_9_2 : number_1 = number_2) (fe_0_5_3 : end_2 = end_3) (fe_0_6_3 : next_2 = next_3) (fe_0_9_3 : number_2 = number_3) (hE_0_0_1 : ∀ j : Int, tape_0 j = tape_1 j) (hE_0_0_2 : ∀ j : Int, tape_1 j = tape_2 j) (hE_0_0_3 : ∀ j : Int, tape_2 j = tape_3 j) (hK_0_0 : ∀ j : Int, 0 ≤ j → j < 2000 → (-128) ≤ tape_0 j ∧ tape_0 j ≤ 127) (kz_0_5 : 0 ≤ end_0 ∧ end_0 ≤ 2000) (kz_0_6 : 0 ≤ next_0 ∧ next_0 ≤ 2000) (kz_0_7 : (-128) ≤ kind_0 ∧ kind_0 ≤ 127) (kz_0_8 : 0 ≤ begin_0 ∧ begin_0 ≤ 2000) (kz_0_9 : (-176) ≤ number_0 ∧ number_0 ≤ 1000000) : (1 * kind_0 + 0 ≤ 3) ∨ (1 * number_0 + ((-1) * x1 + 0) ≤ 0) := by
  subst fe_0_5_1
  subst fe_0_6_1
  subst fe_0_8_1
  subst fe_0_9_1
  subst fe_0_5_2
  subst fe_0_7_2
  subst fe_0_8_2
  subst fe_0_9_2
  subst fe_0_5_3
  subst fe_0_6_3
  subst fe_0_9_3
  have e_hE_0_0_1 := funext hE_0_0_1; subst e_hE_0_0_1
  have e_hE_0_0_2 := funext hE_0_0_2; subst e_hE_0_0_2
  have e_hE_0_0_3 := funext hE_0_0_3; subst e_hE_0_0_3
  first | with_reducible assumption | ((try and_intros) <;> first | with_reducible assumption | (clear hE_0_0_1 hE_0_0_2 hE_0_0_3 hK_0_0; omega)) | omega
set_option maxHeartbeats 4000000 in
theorem vc_Re_advance_15_1 (x1 : Int) (kind_0 : Int) (next_0 : Int) (begin_0 : Int) (end_0 : Int) (number_0 : Int) (number_1 : Int) (next_2 : Int) (tape_2 : Int → Int) (number_2 : Int) (end_2 : Int) (tape_3 : Int → Int) (number_3 : Int) (end_3 : Int) (next_3 : Int) (end_1 : Int) (next_1 : Int) (begin_1 : Int) (kind_1 : Int) (kind_2 : Int) (begin_2 : Int) (tape_0 : Int → Int) (tape_1 : Int → Int) (k1 : (-2147483648) ≤ x1 ∧ x1 ≤ 1000000) (f8 : 1 * number_0 + ((-1) * x1 + 0) ≤ 0) (f9 : (-1) * number_0 + (1 * x1 + 0) ≤ 0) (fe_0_5_1 : end_0 = end_1) (fe_0_6_1 : next_0 = next_1) (fe_0_8_1 : begin_0 = begin_1) (fe_0_9_1 : number_0 = number_1) (fe_0_5_2 : end_1 = end_2) (fe_0_7_2 : kind_1 = kind_2) (fe_0_8_2 : begin_1 = begin_2) (fe_0_9_2 : number_1 = number_2) (fe_0_5_3 : end_2 = end_3) (fe_0_6_3 : next_2 = next_3) (fe_0_9_3 : number_2 = number_3) (hE_0_0_1 : ∀ j : Int, tape_0 j = tape_1 j) (hE_0_0_2 : ∀ j : Int, tape_1 j = tape_2 j) (hE_0_0_3 : ∀ j : Int, tape_2 j = tape_3 j) (hK_0_0 : ∀ j : Int, 0 ≤ j → j < 2000 → (-128) ≤ tape_0 j ∧ tape_0 j ≤ 127) (kz_0_5 : 0 ≤ end_0 ∧ end_0 ≤ 2000) (kz_0_6 : 0 ≤ next_0 ∧ next_0 ≤ 2000) (kz_0_7 : (-128) ≤ kind_0 ∧ kind_0 ≤ 127) (kz_0_8 : 0 ≤ begin_0 ∧ begin_0 ≤ 2000) (kz_0_9 : (-176) ≤ number_0 ∧ number_0 ≤ 1000000) : (1 * kind_0 + 0 ≤ 3) ∨ ((-1) * number_0 + (1 * x1 + 0) ≤ 0) := by
  subst fe_0_5_1
  subst fe_0_6_1
  subst fe_0_8_1
  subst fe_0_9_1
  subst fe_0_5_2
  subst fe_0_7_2
  subst fe_0_8_2
  subst fe_0_9_2
  subst fe_0_5_3
  subst fe_0_6_3
  subst fe_0_9_3
  have e_hE_0_0_1 := funext hE_0_0_1; subst e_hE_0_0_1
  have e_hE_0_0_2 := funext hE_0_0_2; subst e_hE_0_0_2
  have e_hE_0_0_3 := funext hE_0_0_3; subst e_hE_0_0_3
  first | with_reducible assumption | ((try and_intros) <;> first | with_reducible assumption | (clear hE_0_0_1 hE_0_0_2 hE_0_0_3 hK_0_0; omega)) | omega
set_option maxHeartbeats 4000000 in
theorem vc_Re_advance_15_2 (x4 : Int) (x11 : Int) (x15 : Int) (kind_0 : Int) (next_0 : Int) (begin_0 : Int) (end_0 : Int) (number_0 : Int) (number_1 : Int) (next_2 : Int) (tape_2 : Int → Int) (number_2 : Int) (end_2 : Int) (tape_3 : Int → Int) (number_3 : Int) (end_3 : Int) (next_3 : Int) (end_1 : Int) (next_1 : Int) (begin_1 : Int) (kind_1 : Int) (kind_2 : Int) (begin_2 : Int) (tape_0 : Int → Int) (tape_1 : Int → Int) (k4 : 0 ≤ x4 ∧ x4 ≤ 1999) (k11 : (-128) ≤ x11 ∧ x11 ≤ 47) (k15 : 1 ≤ x15 ∧ x15 ≤ 2000) (d0 : x4 + 1 ≤ x15 ∧ x15 ≤ x4 + 1) (g0 : x11 = kind_0) (g1 : x15 = next_0) (g2 : x4 = begin_0) (h25 : x11 = tape_2 (x4)) (fe_0_5_1 : end_0 = end_1) (fe_0_6_1 : next_0 = next_1) (fe_0_8_1 : begin_0 = begin_1) (fe_0_9_1 : number_0 = number_1) (fe_0_5_2 : end_1 = end_2) (fe_0_7_2 : kind_1 = kind_2) (fe_0_8_2 : begin_1 = begin_2) (fe_0_9_2 : number_1 = number_2) (fe_0_5_3 : end_2 = end_3) (fe_0_6_3 : next_2 = next_3) (fe_0_9_3 : number_2 = number_3) (hE_0_0_1 : ∀ j : Int, tape_0 j = tape_1 j) (hE_0_0_2 : ∀ j : Int, tape_1 j = tape_2 j) (hE_0_0_3 : ∀ j : Int, tape_2 j = tape_3 j) (hK_0_0 : ∀ j : Int, 0 ≤ j → j < 2000 → (-128) ≤ tape_0 j ∧ tape_0 j ≤ 127) (kz_0_5 : 0 ≤ end_0 ∧ end_0 ≤ 2000) (kz_0_6 : 0 ≤ next_0 ∧ next_0 ≤ 2000) (kz_0_7 : (-128) ≤ kind_0 ∧ kind_0 ≤ 127) (kz_0_8 : 0 ≤ begin_0 ∧ begin_0 ≤ 2000) (kz_0_9 : (-176) ≤ number_0 ∧ number_0 ≤ 1000000) : ((-1) * kind_0 + 0 ≤ (-3)) ∨ (1 * next_0 + ((-1) * begin_0 + (2000 * kind_0 + 0)) ≤ 4008) := by
  subst fe_0_5_1
  subst fe_0_6_1
  subst fe_0_8_1
  subst fe_0_9_1
  subst fe_0_5_2
  subst fe_0_7_2
  subst fe_0_8_2
  subst fe_0_9_2
  subst fe_0_5_3
  subst fe_0_6_3
  subst fe_0_9_3
  have e_hE_0_0_1 := funext hE_0_0_1; subst e_hE_0_0_1
  have e_hE_0_0_2 := funext hE_0_0_2; subst e_hE_0_0_2
  have e_hE_0_0_3 := funext hE_0_0_3; subst e_hE_0_0_3
  first | with_reducible assumption | ((try and_intros) <;> first | with_reducible assumption | (clear hE_0_0_1 hE_0_0_2 hE_0_0_3 hK_0_0; omega)) | omega
set_option maxHeartbeats 4000000 in
theorem vc_Re_advance_15_3 (x4 : Int) (x15 : Int) (next_0 : Int) (begin_0 : Int) (end_0 : Int) (number_0 : Int) (number_1 : Int) (next_2 : Int) (tape_2 : Int → Int) (number_2 : Int) (end_2 : Int) (tape_3 : Int → Int) (number_3 : Int) (end_3 : Int) (next_3 : Int) (end_1 : Int) (next_1 : Int) (begin_1 : Int) (kind_1 : Int) (kind_2 : Int) (begin_2 : Int) (tape_0 : Int → Int) (tape_1 : Int → Int) (k4 : 0 ≤ x4 ∧ x4 ≤ 1999) (k15 : 1 ≤ x15 ∧ x15 ≤ 2000) (d0 : x4 + 1 ≤ x15 ∧ x15 ≤ x4 + 1) (g1 : x15 = next_0) (g2 : x4 = begin_0) (fe_0_5_1 : end_0 = end_1) (fe_0_6_1 : next_0 = next_1) (fe_0_8_1 : begin_0 = begin_1) (fe_0_9_1 : number_0 = number_1) (fe_0_5_2 : end_1 = end_2) (fe_0_7_2 : kind_1 = kind_2) (fe_0_8_2 : begin_1 = begin_2) (fe_0_9_2 : number_1 = number_2) (fe_0_5_3 : end_2 = end_3) (fe_0_6_3 : next_2 = next_3) (fe_0_9_3 : number_2 = number_3) (hE_0_0_1 : ∀ j : Int, tape_0 j = tape_1 j) (hE_0_0_2 : ∀ j : Int, tape_1 j = tape_2 j) (hE_0_0_3 : ∀ j : Int, tape_2 j = tape_3 j) (hK_0_0 : ∀ j : Int, 0 ≤ j → j < 2000 → (-128) ≤ tape_0 j ∧ tape_0 j ≤ 127) (kz_0_5 : 0 ≤ end_0 ∧ end_0 ≤ 2000) (kz_0_6 : 0 ≤ next_0 ∧ next_0 ≤ 2000) (kz_0_8 : 0 ≤ begin_0 ∧ begin_0 ≤ 2000) (kz_0_9 : (-176) ≤ number_0 ∧ number_0 ≤ 1000000) : 1 * begin_0 + ((-1) * next_0 + 0) ≤ 0 := by
  subst fe_0_5_1
  subst fe_0_6_1
  subst fe_0_8_1
  subst fe_0_9_1
  subst fe_0_5_2
  subst fe_0_7_2
  subst fe_0_8_2
  subst fe_0_9_2
  subst fe_0_5_3
  subst fe_0_6_3
  subst fe_0_9_3
  have e_hE_0_0_1 := funext hE_0_0_1; subst e_hE_0_0_1
  have e_hE_0_0_2 := funext hE_0_0_2; subst e_hE_0_0_2
  have e_hE_0_0_3 := funext hE_0_0_3; subst e_hE_0_0_3
  first | with_reducible assumption | ((try and_intros) <;> first | with_reducible assumption | (clear hE_0_0_1 hE_0_0_2 hE_0_0_3 hK_0_0; omega)) | omega
set_option maxHeartbeats 4000000 in
theorem vc_Re_advance_15_4 (x2 : Int) (x4 : Int) (x5 : Int) (x7 : Int) (x8 : Int) (x9 : Int) (x10 : Int) (x11 : Int) (x15 : Int) (x16 : Int) (kind_0 : Int) (next_0 : Int) (begin_0 : Int) (end_0 : Int) (number_0 : Int) (number_1 : Int) (next_2 : Int) (tape_2 : Int → Int) (number_2 : Int) (end_2 : Int) (tape_3 : Int → Int) (number_3 : Int) (end_3 : Int) (next_3 : Int) (end_1 : Int) (next_1 : Int) (begin_1 : Int) (kind_1 : Int) (kind_2 : Int) (begin_2 : Int) (tape_0 : Int → Int) (tape_1 : Int → Int) (k2 : 0 ≤ x2 ∧ x2 ≤ 2000) (k4 : 0 ≤ x4 ∧ x4 ≤ 1999) (k5 : 1 ≤ x5 ∧ x5 ≤ 2000) (k7 : (-128) ≤ x7 ∧ x7 ≤ 127) (k8 : 32 ≤ x8 ∧ x8 ≤ 32) (k9 : (-128) ≤ x9 ∧ x9 ≤ 127) (k10 : 10 ≤ x10 ∧ x10 ≤ 10) (k11 : (-128) ≤ x11 ∧ x11 ≤ 47) (k15 : 1 ≤ x15 ∧ x15 ≤ 2000) (k16 : 1 ≤ x16 ∧ x16 ≤ 1) (d0 : x4 + 1 ≤ x15 ∧ x15 ≤ x4 + 1) (g0 : x11 = kind_0) (g1 : x15 = next_0) (g2 : x4 = begin_0) (g4 : x5 = end_0) (f12 : x16 ≠ 0) (f13 : CSG (x11) (x16)) (g20 : x4 = next_2) (h25 : x11 = tape_2 (x4)) (f32 : x9 ≠ x10) (h33 : x9 = tape_3 (x4)) (f34 : x7 ≠ x8) (h35 : x7 = tape_3 (x4)) (f36 : x4 < x5) (f39 : CX0 (end_3) (next_3) (tape_3) (x2)) (fe_0_5_1 : end_0 = end_1) (fe_0_6_1 : next_0 = next_1) (fe_0_8_1 : begin_0 = begin_1) (fe_0_9_1 : number_0 = number_1) (fe_0_5_2 : end_1 = end_2) (fe_0_7_2 : kind_1 = kind_2) (fe_0_8_2 : begin_1 = begin_2) (fe_0_9_2 : number_1 = number_2) (fe_0_5_3 : end_2 = end_3) (fe_0_6_3 : next_2 = next_3) (fe_0_8_3 : begin_2 = x4) (fe_0_9_3 : number_2 = number_3) (hE_0_0_1 : ∀ j : Int, tape_0 j = tape_1 j) (hE_0_0_2 : ∀ j : Int, tape_1 j = tape_2 j) (hE_0_0_3 : ∀ j : Int, tape_2 j = tape_3 j) (hK_0_0 : ∀ j : Int, 0 ≤ j → j < 2000 → (-128) ≤ tape_0 j ∧ tape_0 j ≤ 127) (kz_0_5 : 0 ≤ end_0 ∧ end_0 ≤ 2000) (kz_0_6 : 0 ≤ next_0 ∧ next_0 ≤ 2000) (kz_0_7 : (-128) ≤ kind_0 ∧ kind_0 ≤ 127) (kz_0_8 : 0 ≤ begin_0 ∧ begin_0 ≤ 2000) (kz_0_9 : (-176) ≤ number_0 ∧ number_0 ≤ 1000000) : TKC (end_0) (next_0) (kind_0) (begin_0) (number_0) (tape_0) (x2) := by
  subst fe_0_5_1
  subst fe_0_6_1
  subst fe_0_8_1
  subst fe_0_9_1
  subst fe_0_5_2
  subst fe_0_7_2
  subst fe_0_8_2
  subst fe_0_9_2
  subst fe_0_5_3
  subst fe_0_6_3
  subst fe_0_9_3
  have e_hE_0_0_1 := funext hE_0_0_1; subst e_hE_0_0_1
  have e_hE_0_0_2 := funext hE_0_0_2; subst e_hE_0_0_2
  have e_hE_0_0_3 := funext hE_0_0_3; subst e_hE_0_0_3
  first | subst g0 | skip
  first | subst g1 | skip
  first | subst g2 | skip
  first | subst g4 | skip
  first | subst g20 | skip
  first
    | exact cxl_e (by assumption) ‹CXL _ _ _ _ _› (fun q => by omega) (by omega)
    | exact cxl_e (by assumption) ‹CXL _ _ _ _ _› (fun q => cnb_f ‹CNBy _ _› (by omega) (by omega)) (by omega)
    | exact cxd_e (by assumption) ‹CXD _ _ _ _ _ _› (fun q => by unfold cIG; omega) (by omega)
    | exact cxs_e (by assumption) (cx_1 (by assumption) ‹CX0 _ _ _ _› (fun q => by omega) (by omega)) (by omega) rfl (by unfold cIL; omega) (by unfold cIG; omega) (by omega) (Or.inl ⟨csg_t ‹CSG _ _› (by omega) (by omega), by omega⟩)
    | exact cxs_e (by assumption) (cx_1 (by assumption) ‹CX0 _ _ _ _› (fun q => by omega) (by omega)) (by omega) rfl (by unfold cIL; omega) (by unfold cIG; omega) (by omega) (Or.inr ⟨csg_f ‹CSG _ _› (by omega) (by omega), by omega⟩)
set_option maxHeartbeats 4000000 in
theorem vc_Re_advance_15_5 (x2 : Int) (x4 : Int) (x15 : Int) (next_0 : Int) (begin_0 : Int) (end_0 : Int) (number_0 : Int) (number_1 : Int) (next_2 : Int) (tape_2 : Int → Int) (number_2 : Int) (end_2 : Int) (tape_3 : Int → Int) (number_3 : Int) (end_3 : Int) (next_3 : Int) (end_1 : Int) (next_1 : Int) (begin_1 : Int) (kind_1 : Int) (kind_2 : Int) (begin_2 : Int) (tape_0 : Int → Int) (tape_1 : Int → Int) (k2 : 0 ≤ x2 ∧ x2 ≤ 2000) (k4 : 0 ≤ x4 ∧ x4 ≤ 1999) (k15 : 1 ≤ x15 ∧ x15 ≤ 2000) (d0 : x4 + 1 ≤ x15 ∧ x15 ≤ x4 + 1) (g1 : x15 = next_0) (g2 : x4 = begin_0) (g20 : x4 = next_2) (f30 : 1 * x2 + ((-1) * next_2 + 0) ≤ 0) (fe_0_5_1 : end_0 = end_1) (fe_0_6_1 : next_0 = next_1) (fe_0_8_1 : begin_0 = begin_1) (fe_0_9_1 : number_0 = number_1) (fe_0_5_2 : end_1 = end_2) (fe_0_7_2 : kind_1 = kind_2) (fe_0_8_2 : begin_1 = begin_2) (fe_0_9_2 : number_1 = number_2) (fe_0_5_3 : end_2 = end_3) (fe_0_6_3 : next_2 = next_3) (fe_0_9_3 : number_2 = number_3) (hE_0_0_1 : ∀ j : Int, tape_0 j = tape_1 j) (hE_0_0_2 : ∀ j : Int, tape_1 j = tape_2 j) (hE_0_0_3 : ∀ j : Int, tape_2 j = tape_3 j) (hK_0_0 : ∀ j : Int, 0 ≤ j → j < 2000 → (-128) ≤ tape_0 j ∧ tape_0 j ≤ 127) (kz_0_5 : 0 ≤ end_0 ∧ end_0 ≤ 2000) (kz_0_6 : 0 ≤ next_0 ∧ next_0 ≤ 2000) (kz_0_8 : 0 ≤ begin_0 ∧ begin_0 ≤ 2000) (kz_0_9 : (-176) ≤ number_0 ∧ number_0 ≤ 1000000) : 1 * x2 + ((-1) * next_0 + 0) ≤ 0 := by
  subst fe_0_5_1
  subst fe_0_6_1
  subst fe_0_8_1
  subst fe_0_9_1
  subst fe_0_5_2
  subst fe_0_7_2
  subst fe_0_8_2
  subst fe_0_9_2
  subst fe_0_5_3
  subst fe_0_6_3
  subst fe_0_9_3
  have e_hE_0_0_1 := funext hE_0_0_1; subst e_hE_0_0_1
  have e_hE_0_0_2 := funext hE_0_0_2; subst e_hE_0_0_2
  have e_hE_0_0_3 := funext hE_0_0_3; subst e_hE_0_0_3
  first | with_reducible assumption | ((try and_intros) <;> first | with_reducible assumption | (clear hE_0_0_1 hE_0_0_2 hE_0_0_3 hK_0_0; omega)) | omega
def o_Re_advance_15 : or_T := (290, 17, [(0, (2, 0, 0, [8])), (1, (0, -2147483648, 1000000, [])), (2, (0, 0, 2000, [])), (3, (2, 0, 0, [8])), (4, (0, 0, 1999, [])), (5, (0, 1, 2000, [])), (6, (2, 0, 0, [109])), (7, (0, -128, 127, [])), (8, (0, 32, 32, [])), (9, (0, -128, 127, [])), (10, (0, 10, 10, [])), (11, (0, -128, 47, [])), (12, (0, 0, 0, [])), (13, (0, 0, 0, [])), (14, (0, 1, 1, [])), (15, (0, 1, 2000, [])), (16, (0, 1, 1, []))], [(9, [11, 3], [7]), (9, [15, 3], [6]), (9, [4, 3], [8]), (9, [6, 3], [0]), (9, [5, 3], [5]), (20, [11, 16], [61, 0, 1100]), (20, [11, 13], [61, 0, 1098]), (20, [11, 12], [61, 0, 1097]), (20, [3, 1], [30, 0, 1, 1, 9, -1, 0, 0]), (20, [3, 1], [30, 0, -1, 1, 9, 1, 0, 0]), (24, [0, 3], []), (101, [3, 11], [7]), (8, [16], [1]), (20, [11, 16], [61, 0, 1100]), (20, [11, 13], [61, 0, 1098]), (20, [11, 12], [61, 0, 1097]), (20, [3, 1], [30, 0, 1, 1, 9, -1, 0, 0]), (20, [3, 1], [30, 0, -1, 1, 9, 1, 0, 0]), (101, [3, 15], [6]), (1, [15, 4, 14], []), (9, [4, 3], [6]), (8, [13], [0]), (20, [11, 13], [61, 0, 1098]), (8, [12], [0]), (20, [11, 12], [61, 0, 1097]), (10, [11, 6, 4], []), (7, [4, 5], [2]), (20, [3, 1], [30, 0, 1, 1, 9, -1, 0, 0]), (20, [3, 1], [30, 0, -1, 1, 9, 1, 0, 0]), (20, [3, 2], [60, 2, 1, 1074, 5, 6, 0]), (20, [2, 3], [30, 0, 1, 0, 0, -1, 1, 6]), (101, [3, 4], [8]), (7, [9, 10], [1]), (10, [9, 6, 4], []), (7, [7, 8], [1]), (10, [7, 6, 4], []), (7, [4, 5], [2]), (20, [3, 1], [30, 0, 1, 1, 9, -1, 0, 0]), (20, [3, 1], [30, 0, -1, 1, 9, 1, 0, 0]), (20, [3, 2], [60, 2, 1, 1074, 5, 6, 0]), (20, [2, 3], [30, 0, 1, 0, 0, -1, 1, 6])], [], [], [(20, [0, 0, 1], [31, 1, 3, 1, 1, 7, 0, 1, 1, 9, -1, 0, 0]), (20, [0, 0, 1], [31, 1, 3, 1, 1, 7, 0, -1, 1, 9, 1, 0, 0]), (20, [0, 0, 0, 0], [31, 1, -3, -1, 1, 7, 4008, 1, 1, 6, -1, 1, 8, 2000, 1, 7]), (20, [0, 0], [30, 0, 1, 1, 8, -1, 1, 6]), (20, [0, 2], [60, 5, 1, 1072, 5, 6, 7, 8, 9, 0]), (20, [2, 0], [30, 0, 1, 0, 0, -1, 1, 6])], [], [(15, 4, 1, 1), (15, 5, -4294967296, 0), (4, 5, -4294967296, -1)])
theorem oo_Re_advance_15 {kA : Nat → ClassId} : or_ok PRD kA GG o_Re_advance_15 := by
  refine or_mk fun A ta ws vs hD hth hl => ?_
  intro t0 r0 t1 k1 t2 k2 t3 r3 t4 k4 t5 k5 t6 r6 t7 k7 t8 k8 t9 k9 t10 k10 t11 k11 t12 k12 t13 k13 t14 k14 t15 k15 t16 k16 d0 d1 d2 f0 f1 f2 f3 f4 f5 f6 f7 f8 f9 f10 ta1 w1 le1 s1 f12 f13 f14 f15 f16 f17 ta2 w2 le2 s2 f19 f20 f21 f22 f23 f24 f25 f26 f27 f28 f29 f30 ta3 w3 le3 s3 f32 f33 f34 f35 f36 f37 f38 f39 f40
  replace f0 := shm_198 f0
  replace f1 := shm_111 f1
  replace f2 := shm_293 f2
  replace f3 := shm_163 f3
  replace f4 := shm_110 f4
  replace f8 := shm_1521 f8
  replace f9 := shm_1522 f9
  replace f10 := shm_5 f10
  have s1 : (∀ b j, w_el ws b j = w_el w1 b j) ∧ ∀ b j, w_fd ws b j = if b = v_ad (n_v vs 3) ∧ j = 7 then n_v vs 11 else w_fd w1 b j := s1.2
  have s2 : (∀ b j, w_el w1 b j = w_el w2 b j) ∧ ∀ b j, w_fd w1 b j = if b = v_ad (n_v vs 3) ∧ j = 6 then n_v vs 15 else w_fd w2 b j := s2.2
  replace f20 := shm_111 f20
  replace f25 := shm_107 f25
  replace f30 := shm_1527 f30
  have s3 : (∀ b j, w_el w2 b j = w_el w3 b j) ∧ ∀ b j, w_fd w2 b j = if b = v_ad (n_v vs 3) ∧ j = 8 then n_v vs 4 else w_fd w3 b j := s3.2
  replace f33 := shm_107 f33
  replace f35 := shm_107 f35
  replace f39 := shm_1526 f39
  have q3 : n_v vs 3 = n_v vs 0 := f10.symm
  simp only [q3] at f0 f1 f2 f3 f4 f8 f9
  rw [q3] at s1
  rw [q3] at s2
  simp only [q3] at f20 f30
  rw [q3] at s3
  simp only [q3] at f39
  have ar_0_0_1 : w_ar w1 (n_v vs 0) 0 = w_ar ws (n_v vs 0) 0 := by show v_ad (w_fd w1 _ _) = v_ad (w_fd ws _ _); rw [s1.2, if_neg (fun e => absurd e.2 (by decide))]
  have ar_0_0_2 : w_ar w2 (n_v vs 0) 0 = w_ar ws (n_v vs 0) 0 := by rw [← ar_0_0_1]; show v_ad (w_fd w2 _ _) = v_ad (w_fd w1 _ _); rw [s2.2, if_neg (fun e => absurd e.2 (by decide))]
  have ar_0_0_3 : w_ar w3 (n_v vs 0) 0 = w_ar ws (n_v vs 0) 0 := by rw [← ar_0_0_2]; show v_ad (w_fd w3 _ _) = v_ad (w_fd w2 _ _); rw [s3.2, if_neg (fun e => absurd e.2 (by decide))]
  have cr_0_0 := fdq_95 hD hth r0
  have ad_6 : v_ad (n_v vs 6) = w_ar ws (n_v vs 0) 0 := congrArg v_ad f3
  have g0 : v_iv (n_v vs 11) = w_fi ws (n_v vs 0) 7 := congrArg v_iv f0
  have g1 : v_iv (n_v vs 15) = w_fi ws (n_v vs 0) 6 := congrArg v_iv f1
  have g2 : v_iv (n_v vs 4) = w_fi ws (n_v vs 0) 8 := congrArg v_iv f2
  have g4 : v_iv (n_v vs 5) = w_fi ws (n_v vs 0) 5 := congrArg v_iv f4
  have g20 : v_iv (n_v vs 4) = w_fi w2 (n_v vs 0) 6 := congrArg v_iv f20
  simp only [ad_6] at f25
  have h25 : v_iv (n_v vs 11) = w_ei w2 (w_ar ws (n_v vs 0) 0) (v_iv (n_v vs 4)) := f25
  simp only [ar_0_0_2, ad_6] at f33
  have h33 : v_iv (n_v vs 9) = w_ei w3 (w_ar ws (n_v vs 0) 0) (v_iv (n_v vs 4)) := f33
  simp only [ad_6] at f35
  have h35 : v_iv (n_v vs 7) = w_ei w3 (w_ar ws (n_v vs 0) 0) (v_iv (n_v vs 4)) := f35
  simp only [ar_0_0_3] at f39
  have fe_0_5_1 : w_fi ws (n_v vs 0) 5 = w_fi w1 (n_v vs 0) 5 := by show v_iv (w_fd _ _ _) = v_iv (w_fd _ _ _); rw [s1.2, if_neg (fun e => absurd e.2 (by decide))]
  have fe_0_6_1 : w_fi ws (n_v vs 0) 6 = w_fi w1 (n_v vs 0) 6 := by show v_iv (w_fd _ _ _) = v_iv (w_fd _ _ _); rw [s1.2, if_neg (fun e => absurd e.2 (by decide))]
  have fe_0_8_1 : w_fi ws (n_v vs 0) 8 = w_fi w1 (n_v vs 0) 8 := by show v_iv (w_fd _ _ _) = v_iv (w_fd _ _ _); rw [s1.2, if_neg (fun e => absurd e.2 (by decide))]
  have fe_0_9_1 : w_fi ws (n_v vs 0) 9 = w_fi w1 (n_v vs 0) 9 := by show v_iv (w_fd _ _ _) = v_iv (w_fd _ _ _); rw [s1.2, if_neg (fun e => absurd e.2 (by decide))]
  have fe_0_5_2 : w_fi w1 (n_v vs 0) 5 = w_fi w2 (n_v vs 0) 5 := by show v_iv (w_fd _ _ _) = v_iv (w_fd _ _ _); rw [s2.2, if_neg (fun e => absurd e.2 (by decide))]
  have fe_0_7_2 : w_fi w1 (n_v vs 0) 7 = w_fi w2 (n_v vs 0) 7 := by show v_iv (w_fd _ _ _) = v_iv (w_fd _ _ _); rw [s2.2, if_neg (fun e => absurd e.2 (by decide))]
  have fe_0_8_2 : w_fi w1 (n_v vs 0) 8 = w_fi w2 (n_v vs 0) 8 := by show v_iv (w_fd _ _ _) = v_iv (w_fd _ _ _); rw [s2.2, if_neg (fun e => absurd e.2 (by decide))]
  have fe_0_9_2 : w_fi w1 (n_v vs 0) 9 = w_fi w2 (n_v vs 0) 9 := by show v_iv (w_fd _ _ _) = v_iv (w_fd _ _ _); rw [s2.2, if_neg (fun e => absurd e.2 (by decide))]
  have fe_0_5_3 : w_fi w2 (n_v vs 0) 5 = w_fi w3 (n_v vs 0) 5 := by show v_iv (w_fd _ _ _) = v_iv (w_fd _ _ _); rw [s3.2, if_neg (fun e => absurd e.2 (by decide))]
  have fe_0_6_3 : w_fi w2 (n_v vs 0) 6 = w_fi w3 (n_v vs 0) 6 := by show v_iv (w_fd _ _ _) = v_iv (w_fd _ _ _); rw [s3.2, if_neg (fun e => absurd e.2 (by decide))]
  have fe_0_8_3 : w_fi w2 (n_v vs 0) 8 = v_iv (n_v vs 4) := by show v_iv (w_fd _ _ _) = _; rw [s3.2, if_pos ⟨rfl, rfl⟩]
  have fe_0_9_3 : w_fi w2 (n_v vs 0) 9 = w_fi w3 (n_v vs 0) 9 := by show v_iv (w_fd _ _ _) = v_iv (w_fd _ _ _); rw [s3.2, if_neg (fun e => absurd e.2 (by decide))]
  have hE_0_0_1 : ∀ j : Int, w_ei ws (w_ar ws (n_v vs 0) 0) j = w_ei w1 (w_ar ws (n_v vs 0) 0) j := fun j => s1.1 _ _
  have hE_0_0_2 : ∀ j : Int, w_ei w1 (w_ar ws (n_v vs 0) 0) j = w_ei w2 (w_ar ws (n_v vs 0) 0) j := fun j => s2.1 _ _
  have hE_0_0_3 : ∀ j : Int, w_ei w2 (w_ar ws (n_v vs 0) 0) j = w_ei w3 (w_ar ws (n_v vs 0) 0) j := fun j => s3.1 _ _
  have hK_0_0 := elq_33 hD hth cr_0_0
  have kz_0_5 := fdq_207 hD hth r0
  have kz_0_6 := fdq_208 hD hth r0
  have kz_0_7 := fdq_297 hD hth r0
  have kz_0_8 := fdq_99 hD hth r0
  have kz_0_9 := fdq_296 hD hth r0
  have nf0 : fc_1 PRD (20, [0, 0, 1], [31, 1, 3, 1, 1, 7, 0, 1, 1, 9, -1, 0, 0]) ws (vs) := ⟨nf_in hl rfl, sgq_1528 (vc_Re_advance_15_0 (v_iv (n_v vs 1)) (w_fi ws (n_v vs 0) 7) (w_fi ws (n_v vs 0) 6) (w_fi ws (n_v vs 0) 8) (w_fi ws (n_v vs 0) 5) (w_fi ws (n_v vs 0) 9) (w_fi w1 (n_v vs 0) 9) (w_fi w2 (n_v vs 0) 6) (w_ei w2 (w_ar ws (n_v vs 0) 0)) (w_fi w2 (n_v vs 0) 9) (w_fi w2 (n_v vs 0) 5) (w_ei w3 (w_ar ws (n_v vs 0) 0)) (w_fi w3 (n_v vs 0) 9) (w_fi w3 (n_v vs 0) 5) (w_fi w3 (n_v vs 0) 6) (w_fi w1 (n_v vs 0) 5) (w_fi w1 (n_v vs 0) 6) (w_fi w1 (n_v vs 0) 8) (w_fi w1 (n_v vs 0) 7) (w_fi w2 (n_v vs 0) 7) (w_fi w2 (n_v vs 0) 8) (w_ei ws (w_ar ws (n_v vs 0) 0)) (w_ei w1 (w_ar ws (n_v vs 0) 0)) k1 f8 f9 fe_0_5_1 fe_0_6_1 fe_0_8_1 fe_0_9_1 fe_0_5_2 fe_0_7_2 fe_0_8_2 fe_0_9_2 fe_0_5_3 fe_0_6_3 fe_0_9_3 hE_0_0_1 hE_0_0_2 hE_0_0_3 hK_0_0 kz_0_5 kz_0_6 kz_0_7 kz_0_8 kz_0_9)⟩
  have nf1 : fc_1 PRD (20, [0, 0, 1], [31, 1, 3, 1, 1, 7, 0, -1, 1, 9, 1, 0, 0]) ws (vs) := ⟨nf_in hl rfl, sgq_1529 (vc_Re_advance_15_1 (v_iv (n_v vs 1)) (w_fi ws (n_v vs 0) 7) (w_fi ws (n_v vs 0) 6) (w_fi ws (n_v vs 0) 8) (w_fi ws (n_v vs 0) 5) (w_fi ws (n_v vs 0) 9) (w_fi w1 (n_v vs 0) 9) (w_fi w2 (n_v vs 0) 6) (w_ei w2 (w_ar ws (n_v vs 0) 0)) (w_fi w2 (n_v vs 0) 9) (w_fi w2 (n_v vs 0) 5) (w_ei w3 (w_ar ws (n_v vs 0) 0)) (w_fi w3 (n_v vs 0) 9) (w_fi w3 (n_v vs 0) 5) (w_fi w3 (n_v vs 0) 6) (w_fi w1 (n_v vs 0) 5) (w_fi w1 (n_v vs 0) 6) (w_fi w1 (n_v vs 0) 8) (w_fi w1 (n_v vs 0) 7) (w_fi w2 (n_v vs 0) 7) (w_fi w2 (n_v vs 0) 8) (w_ei ws (w_ar ws (n_v vs 0) 0)) (w_ei w1 (w_ar ws (n_v vs 0) 0)) k1 f8 f9 fe_0_5_1 fe_0_6_1 fe_0_8_1 fe_0_9_1 fe_0_5_2 fe_0_7_2 fe_0_8_2 fe_0_9_2 fe_0_5_3 fe_0_6_3 fe_0_9_3 hE_0_0_1 hE_0_0_2 hE_0_0_3 hK_0_0 kz_0_5 kz_0_6 kz_0_7 kz_0_8 kz_0_9)⟩
  have nf2 : fc_1 PRD (20, [0, 0, 0, 0], [31, 1, -3, -1, 1, 7, 4008, 1, 1, 6, -1, 1, 8, 2000, 1, 7]) ws (vs) := ⟨nf_in hl rfl, sgq_1530 (vc_Re_advance_15_2 (v_iv (n_v vs 4)) (v_iv (n_v vs 11)) (v_iv (n_v vs 15)) (w_fi ws (n_v vs 0) 7) (w_fi ws (n_v vs 0) 6) (w_fi ws (n_v vs 0) 8) (w_fi ws (n_v vs 0) 5) (w_fi ws (n_v vs 0) 9) (w_fi w1 (n_v vs 0) 9) (w_fi w2 (n_v vs 0) 6) (w_ei w2 (w_ar ws (n_v vs 0) 0)) (w_fi w2 (n_v vs 0) 9) (w_fi w2 (n_v vs 0) 5) (w_ei w3 (w_ar ws (n_v vs 0) 0)) (w_fi w3 (n_v vs 0) 9) (w_fi w3 (n_v vs 0) 5) (w_fi w3 (n_v vs 0) 6) (w_fi w1 (n_v vs 0) 5) (w_fi w1 (n_v vs 0) 6) (w_fi w1 (n_v vs 0) 8) (w_fi w1 (n_v vs 0) 7) (w_fi w2 (n_v vs 0) 7) (w_fi w2 (n_v vs 0) 8) (w_ei ws (w_ar ws (n_v vs 0) 0)) (w_ei w1 (w_ar ws (n_v vs 0) 0)) k4 k11 k15 d0 g0 g1 g2 h25 fe_0_5_1 fe_0_6_1 fe_0_8_1 fe_0_9_1 fe_0_5_2 fe_0_7_2 fe_0_8_2 fe_0_9_2 fe_0_5_3 fe_0_6_3 fe_0_9_3 hE_0_0_1 hE_0_0_2 hE_0_0_3 hK_0_0 kz_0_5 kz_0_6 kz_0_7 kz_0_8 kz_0_9)⟩
  have nf3 : fc_1 PRD (20, [0, 0], [30, 0, 1, 1, 8, -1, 1, 6]) ws (vs) := ⟨nf_in hl rfl, sgq_1531 (vc_Re_advance_15_3 (v_iv (n_v vs 4)) (v_iv (n_v vs 15)) (w_fi ws (n_v vs 0) 6) (w_fi ws (n_v vs 0) 8) (w_fi ws (n_v vs 0) 5) (w_fi ws (n_v vs 0) 9) (w_fi w1 (n_v vs 0) 9) (w_fi w2 (n_v vs 0) 6) (w_ei w2 (w_ar ws (n_v vs 0) 0)) (w_fi w2 (n_v vs 0) 9) (w_fi w2 (n_v vs 0) 5) (w_ei w3 (w_ar ws (n_v vs 0) 0)) (w_fi w3 (n_v vs 0) 9) (w_fi w3 (n_v vs 0) 5) (w_fi w3 (n_v vs 0) 6) (w_fi w1 (n_v vs 0) 5) (w_fi w1 (n_v vs 0) 6) (w_fi w1 (n_v vs 0) 8) (w_fi w1 (n_v vs 0) 7) (w_fi w2 (n_v vs 0) 7) (w_fi w2 (n_v vs 0) 8) (w_ei ws (w_ar ws (n_v vs 0) 0)) (w_ei w1 (w_ar ws (n_v vs 0) 0)) k4 k15 d0 g1 g2 fe_0_5_1 fe_0_6_1 fe_0_8_1 fe_0_9_1 fe_0_5_2 fe_0_7_2 fe_0_8_2 fe_0_9_2 fe_0_5_3 fe_0_6_3 fe_0_9_3 hE_0_0_1 hE_0_0_2 hE_0_0_3 hK_0_0 kz_0_5 kz_0_6 kz_0_8 kz_0_9)⟩
  have nf4 : fc_1 PRD (20, [0, 2], [60, 5, 1, 1072, 5, 6, 7, 8, 9, 0]) ws (vs) := ⟨nf_in hl rfl, sgq_1532 (vc_Re_advance_15_4 (v_iv (n_v vs 2)) (v_iv (n_v vs 4)) (v_iv (n_v vs 5)) (v_iv (n_v vs 7)) (v_iv (n_v vs 8)) (v_iv (n_v vs 9)) (v_iv (n_v vs 10)) (v_iv (n_v vs 11)) (v_iv (n_v vs 15)) (v_iv (n_v vs 16)) (w_fi ws (n_v vs 0) 7) (w_fi ws (n_v vs 0) 6) (w_fi ws (n_v vs 0) 8) (w_fi ws (n_v vs 0) 5) (w_fi ws (n_v vs 0) 9) (w_fi w1 (n_v vs 0) 9) (w_fi w2 (n_v vs 0) 6) (w_ei w2 (w_ar ws (n_v vs 0) 0)) (w_fi w2 (n_v vs 0) 9) (w_fi w2 (n_v vs 0) 5) (w_ei w3 (w_ar ws (n_v vs 0) 0)) (w_fi w3 (n_v vs 0) 9) (w_fi w3 (n_v vs 0) 5) (w_fi w3 (n_v vs 0) 6) (w_fi w1 (n_v vs 0) 5) (w_fi w1 (n_v vs 0) 6) (w_fi w1 (n_v vs 0) 8) (w_fi w1 (n_v vs 0) 7) (w_fi w2 (n_v vs 0) 7) (w_fi w2 (n_v vs 0) 8) (w_ei ws (w_ar ws (n_v vs 0) 0)) (w_ei w1 (w_ar ws (n_v vs 0) 0)) k2 k4 k5 k7 k8 k9 k10 k11 k15 k16 d0 g0 g1 g2 g4 (shm_142 f12) (shm_454 f13) g20 h25 (shm_40 f32) h33 (shm_40 f34) h35 (shm_6 f36) f39 fe_0_5_1 fe_0_6_1 fe_0_8_1 fe_0_9_1 fe_0_5_2 fe_0_7_2 fe_0_8_2 fe_0_9_2 fe_0_5_3 fe_0_6_3 fe_0_8_3 fe_0_9_3 hE_0_0_1 hE_0_0_2 hE_0_0_3 hK_0_0 kz_0_5 kz_0_6 kz_0_7 kz_0_8 kz_0_9)⟩
  have nf5 : fc_1 PRD (20, [2, 0], [30, 0, 1, 0, 0, -1, 1, 6]) ws (vs) := ⟨nf_in hl rfl, sgq_1527 (vc_Re_advance_15_5 (v_iv (n_v vs 2)) (v_iv (n_v vs 4)) (v_iv (n_v vs 15)) (w_fi ws (n_v vs 0) 6) (w_fi ws (n_v vs 0) 8) (w_fi ws (n_v vs 0) 5) (w_fi ws (n_v vs 0) 9) (w_fi w1 (n_v vs 0) 9) (w_fi w2 (n_v vs 0) 6) (w_ei w2 (w_ar ws (n_v vs 0) 0)) (w_fi w2 (n_v vs 0) 9) (w_fi w2 (n_v vs 0) 5) (w_ei w3 (w_ar ws (n_v vs 0) 0)) (w_fi w3 (n_v vs 0) 9) (w_fi w3 (n_v vs 0) 5) (w_fi w3 (n_v vs 0) 6) (w_fi w1 (n_v vs 0) 5) (w_fi w1 (n_v vs 0) 6) (w_fi w1 (n_v vs 0) 8) (w_fi w1 (n_v vs 0) 7) (w_fi w2 (n_v vs 0) 7) (w_fi w2 (n_v vs 0) 8) (w_ei ws (w_ar ws (n_v vs 0) 0)) (w_ei w1 (w_ar ws (n_v vs 0) 0)) k2 k4 k15 d0 g1 g2 g20 f30 fe_0_5_1 fe_0_6_1 fe_0_8_1 fe_0_9_1 fe_0_5_2 fe_0_7_2 fe_0_8_2 fe_0_9_2 fe_0_5_3 fe_0_6_3 fe_0_9_3 hE_0_0_1 hE_0_0_2 hE_0_0_3 hK_0_0 kz_0_5 kz_0_6 kz_0_8 kz_0_9)⟩
  refine ⟨(fun _ h => (by cases h)), [], trivial, ?_, (fun _ h => (by cases h))⟩
  rw [List.append_nil]
  exact List.forall_mem_cons.mpr ⟨⟨show (20 : Nat) < 100 from by decide, nf0⟩, List.forall_mem_cons.mpr ⟨⟨show (20 : Nat) < 100 from by decide, nf1⟩, List.forall_mem_cons.mpr ⟨⟨show (20 : Nat) < 100 from by decide, nf2⟩, List.forall_mem_cons.mpr ⟨⟨show (20 : Nat) < 100 from by decide, nf3⟩, List.forall_mem_cons.mpr ⟨⟨show (20 : Nat) < 100 from by decide, nf4⟩, List.forall_mem_cons.mpr ⟨⟨show (20 : Nat) < 100 from by decide, nf5⟩, (fun _ h => (by cases h))⟩⟩⟩⟩⟩⟩
set_option maxHeartbeats 4000000 in
theorem vc_Re_advance_16_0 (x1 : Int) (x17 : Int) (kind_0 : Int) (next_0 : Int) (begin_0 : Int) (end_0 : Int) (number_0 : Int) (number_1 : Int) (next_2 : Int) (tape_2 : Int → Int) (number_2 : Int) (end_2 : Int) (tape_3 : Int → Int) (number_3 : Int) (end_3 : Int) (next_3 : Int) (end_1 : Int) (next_1 : Int) (begin_1 : Int) (kind_1 : Int) (kind_2 : Int) (begin_2 : Int) (tape_0 : Int → Int) (tape_1 : Int → Int) (k1 : (-2147483648) ≤ x1 ∧ x1 ≤ 1000000) (k17 : 1 ≤ x17 ∧ x17 ≤ 1) (g0 : x17 = kind_0) (fe_0_5_1 : end_0 = end_1) (fe_0_6_1 : next_0 = next_1) (fe_0_8_1 : begin_0 = begin_1) (fe_0_9_1 : number_0 = number_1) (fe_0_5_2 : end_1 = end_2) (fe_0_7_2 : kind_1 = kind_2) (fe_0_8_2 : begin_1 = begin_2) (fe_0_9_2 : number_1 = number_2) (fe_0_5_3 : end_2 = end_3) (fe_0_6_3 : next_2 = next_3) (fe_0_9_3 : number_2 = number_3) (hE_0_0_1 : ∀ j : Int, tape_0 j = tape_1 j) (hE_0_0_2 : ∀ j : Int, tape_1 j = tape_2 j) (hE_0_0_3 : ∀ j : Int, tape_2 j = tape_3 j) (hK_0_0 : ∀ j : Int, 0 ≤ j → j < 2000 → (-128) ≤ tape_0 j ∧ tape_0 j ≤ 127) (kz_0_5 : 0 ≤ end_0 ∧ end_0 ≤ 2000) (kz_0_6 : 0 ≤ next_0 ∧ next_0 ≤ 2000) (kz_0_7 : (-128) ≤ kind_0 ∧ kind_0 ≤ 127) (kz_0_8 : 0 ≤ begin_0 ∧ begin_0 ≤ 2000) (kz_0_9 : (-176) ≤ number_0 ∧ number_0 ≤ 1000000) : (1 * kind_0 + 0 ≤ 3) ∨ (1 * number_0 + ((-1) * x1 + 0) ≤ 0) := by
  subst fe_0_5_1
  subst fe_0_6_1
  subst fe_0_8_1
  subst fe_0_9_1
  subst fe_0_5_2
  subst fe_0_7_2
  subst fe_0_8_2
  subst fe_0_9_2
  subst fe_0_5_3
  subst fe_0_6_3
  subst fe_0_9_3
  have e_hE_0_0_1 := funext hE_0_0_1; subst e_hE_0_0_1
  have e_hE_0_0_2 := funext hE_0_0_2; subst e_hE_0_0_2
  have e_hE_0_0_3 := funext hE_0_0_3; subst e_hE_0_0_3
  first | with_reducible assumption | ((try and_intros) <;> first | with_reducible assumption | (clear hE_0_0_1 hE_0_0_2 hE_0_0_3 hK_0_0; omega)) | omega
set_option maxHeartbeats 4000000 in
theorem vc_Re_advance_16_1 (x1 : Int) (x17 : Int) (kind_0 : Int) (next_0 : Int) (begin_0 : Int) (end_0 : Int) (number_0 : Int) (number_1 : Int) (next_2 : Int) (tape_2 : Int → Int) (number_2 : Int) (end_2 : Int) (tape_3 : Int → Int) (number_3 : Int) (end_3 : Int) (next_3 : Int) (end_1 : Int) (next_1 : Int) (begin_1 : Int) (kind_1 : Int) (kind_2 : Int) (begin_2 : Int) (tape_0 : Int → Int) (tape_1 : Int → Int) (k1 : (-2147483648) ≤ x1 ∧ x1 ≤ 1000000) (k17 : 1 ≤ x17 ∧ x17 ≤ 1) (g0 : x17 = kind_0) (fe_0_5_1 : end_0 = end_1) (fe_0_6_1 : next_0 = next_1) (fe_0_8_1 : begin_0 = begin_1) (fe_0_9_1 : number_0 = number_1) (fe_0_5_2 : end_1 = end_2) (fe_0_7_2 : kind_1 = kind_2) (fe_0_8_2 : begin_1 = begin_2) (fe_0_9_2 : number_1 = number_2) (fe_0_5_3 : end_2 = end_3) (fe_0_6_3 : next_2 = next_3) (fe_0_9_3 : number_2 = number_3) (hE_0_0_1 : ∀ j : Int, tape_0 j = tape_1 j) (hE_0_0_2 : ∀ j : Int, tape_1 j = tape_2 j) (hE_0_0_3 : ∀ j : Int, tape_2 j = tape_3 j) (hK_0_0 : ∀ j : Int, 0 ≤ j → j < 2000 → (-128) ≤ tape_0 j ∧ tape_0 j ≤ 127) (kz_0_5 : 0 ≤ end_0 ∧ end_0 ≤ 2000) (kz_0_6 : 0 ≤ next_0 ∧ next_0 ≤ 2000) (kz_0_7 : (-128) ≤ kind_0 ∧ kind_0 ≤ 127) (kz_0_8 : 0 ≤ begin_0 ∧ begin_0 ≤ 2000) (kz_0_9 : (-176) ≤ number_0 ∧ number_0 ≤ 1000000) : (1 * kind_0 + 0 ≤ 3) ∨ ((-1) * number_0 + (1 * x1 + 0) ≤ 0) := by
  subst fe_0_5_1
  subst fe_0_6_1
  subst fe_0_8_1
  subst fe_0_9_1
  subst fe_0_5_2
  subst fe_0_7_2
  subst fe_0_8_2
  subst fe_0_9_2
  subst fe_0_5_3
  subst fe_0_6_3
  subst fe_0_9_3
  have e_hE_0_0_1 := funext hE_0_0_1; subst e_hE_0_0_1
  have e_hE_0_0_2 := funext hE_0_0_2; subst e_hE_0_0_2
  have e_hE_0_0_3 := funext hE_0_0_3; subst e_hE_0_0_3
  first | with_reducible assumption | ((try and_intros) <;> first | with_reducible assumption | (clear hE_0_0_1 hE_0_0_2 hE_0_0_3 hK_0_0; omega)) | omega
set_option maxHeartbeats 4000000 in
theorem vc_Re_advance_16_2 (x4 : Int) (x15 : Int) (x17 : Int) (kind_0 : Int) (next_0 : Int) (begin_0 : Int) (end_0 : Int) (number_0 : Int) (number_1 : Int) (next_2 : Int) (tape_2 : Int → Int) (number_2 : Int) (end_2 : Int) (tape_3 : Int → Int) (number_3 : Int) (end_3 : Int) (next_3 : Int) (end_1 : Int) (next_1 : Int) (begin_1 : Int) (kind_1 : Int) (kind_2 : Int) (begin_2 : Int) (tape_0 : Int → Int) (tape_1 : Int → Int) (k4 : 0 ≤ x4 ∧ x4 ≤ 1999) (k15 : 1 ≤ x15 ∧ x15 ≤ 2000) (k17 : 1 ≤ x17 ∧ x17 ≤ 1) (d0 : x4 + 1 ≤ x15 ∧ x15 ≤ x4 + 1) (g0 : x17 = kind_0) (g1 : x15 = next_0) (g2 : x4 = begin_0) (fe_0_5_1 : end_0 = end_1) (fe_0_6_1 : next_0 = next_1) (fe_0_8_1 : begin_0 = begin_1) (fe_0_9_1 : number_0 = number_1) (fe_0_5_2 : end_1 = end_2) (fe_0_7_2 : kind_1 = kind_2) (fe_0_8_2 : begin_1 = begin_2) (fe_0_9_2 : number_1 = number_2) (fe_0_5_3 : end_2 = end_3) (fe_0_6_3 : next_2 = next_3) (fe_0_9_3 : number_2 = number_3) (hE_0_0_1 : ∀ j : Int, tape_0 j = tape_1 j) (hE_0_0_2 : ∀ j : Int, tape_1 j = tape_2 j) (hE_0_0_3 : ∀ j : Int, tape_2 j = tape_3 j) (hK_0_0 : ∀ j : Int, 0 ≤ j → j < 2000 → (-128) ≤ tape_0 j ∧ tape_0 j ≤ 127) (kz_0_5 : 0 ≤ end_0 ∧ end_0 ≤ 2000) (kz_0_6 : 0 ≤ next_0 ∧ next_0 ≤ 2000) (kz_0_7 : (-128) ≤ kind_0 ∧ kind_0 ≤ 127) (kz_0_8 : 0 ≤ begin_0 ∧ begin_0 ≤ 2000) (kz_0_9 : (-176) ≤ number_0 ∧ number_0 ≤ 1000000) : ((-1) * kind_0 + 0 ≤ (-3)) ∨ (1 * next_0 + ((-1) * begin_0 + (2000 * kind_0 + 0)) ≤ 4008) := by
  subst fe_0_5_1
  subst fe_0_6_1
  subst fe_0_8_1
  subst fe_0_9_1
  subst fe_0_5_2
  subst fe_0_7_2
  subst fe_0_8_2
  subst fe_0_9_2
  subst fe_0_5_3
  subst fe_0_6_3
  subst fe_0_9_3
  have e_hE_0_0_1 := funext hE_0_0_1; subst e_hE_0_0_1
  have e_hE_0_0_2 := funext hE_0_0_2; subst e_hE_0_0_2
  have e_hE_0_0_3 := funext hE_0_0_3; subst e_hE_0_0_3
  first | with_reducible assumption | ((try and_intros) <;> first | with_reducible assumption | (clear hE_0_0_1 hE_0_0_2 hE_0_0_3 hK_0_0; omega)) | omega
set_option maxHeartbeats 4000000 in
theorem vc_Re_advance_16_3 (x4 : Int) (x15 : Int) (next_0 : Int) (begin_0 : Int) (end_0 : Int) (number_0 : Int) (number_1 : Int) (next_2 : Int) (tape_2 : Int → Int) (number_2 : Int) (end_2 : Int) (tape_3 : Int → Int) (number_3 : Int) (end_3 : Int) (next_3 : Int) (end_1 : Int) (next_1 : Int) (begin_1 : Int) (kind_1 : Int) (kind_2 : Int) (begin_2 : Int) (tape_0 : Int → Int) (tape_1 : Int → Int) (k4 : 0 ≤ x4 ∧ x4 ≤ 1999) (k15 : 1 ≤ x15 ∧ x15 ≤ 2000) (d0 : x4 + 1 ≤ x15 ∧ x15 ≤ x4 + 1) (g1 : x15 = next_0) (g2 : x4 = begin_0) (fe_0_5_1 : end_0 = end_1) (fe_0_6_1 : next_0 = next_1) (fe_0_8_1 : begin_0 = begin_1) (fe_0_9_1 : number_0 = number_1) (fe_0_5_2 : end_1 = end_2) (fe_0_7_2 : kind_1 = kind_2) (fe_0_8_2 : begin_1 = begin_2) (fe_0_9_2 : number_1 = number_2) (fe_0_5_3 : end_2 = end_3) (fe_0_6_3 : next_2 = next_3) (fe_0_9_3 : number_2 = number_3) (hE_0_0_1 : ∀ j : Int, tape_0 j = tape_1 j) (hE_0_0_2 : ∀ j : Int, tape_1 j = tape_2 j) (hE_0_0_3 : ∀ j : Int, tape_2 j = tape_3 j) (hK_0_0 : ∀ j : Int, 0 ≤ j → j < 2000 → (-128) ≤ tape_0 j ∧ tape_0 j ≤ 127) (kz_0_5 : 0 ≤ end_0 ∧ end_0 ≤ 2000) (kz_0_6 : 0 ≤ next_0 ∧ next_0 ≤ 2000) (kz_0_8 : 0 ≤ begin_0 ∧ begin_0 ≤ 2000) (kz_0_9 : (-176) ≤ number_0 ∧ number_0 ≤ 1000000) : 1 * begin_0 + ((-1) * next_0 + 0) ≤ 0 := by
  subst fe_0_5_1
  subst fe_0_6_1
  subst fe_0_8_1
  subst fe_0_9_1
  subst fe_0_5_2
  subst fe_0_7_2
  subst fe_0_8_2
  subst fe_0_9_2
  subst fe_0_5_3
  subst fe_0_6_3
  subst fe_0_9_3
  have e_hE_0_0_1 := funext hE_0_0_1; subst e_hE_0_0_1
  have e_hE_0_0_2 := funext hE_0_0_2; subst e_hE_0_0_2
  have e_hE_0_0_3 := funext hE_0_0_3; subst e_hE_0_0_3
  first | with_reducible assumption | ((try and_intros) <;> first | with_reducible assumption | (clear hE_0_0_1 hE_0_0_2 hE_0_0_3 hK_0_0; omega)) | omega
set_option maxHeartbeats 4000000 in
theorem vc_Re_advance_16_4 (x2 : Int) (x4 : Int) (x5 : Int) (x11 : Int) (x15 : Int) (x16 : Int) (x17 : Int) (kind_0 : Int) (next_0 : Int) (begin_0 : Int) (end_0 : Int) (number_0 : Int) (number_1 : Int) (next_2 : Int) (tape_2 : Int → Int) (number_2 : Int) (end_2 : Int) (tape_3 : Int → Int) (number_3 : Int) (end_3 : Int) (next_3 : Int) (end_1 : Int) (next_1 : Int) (begin_1 : Int) (kind_1 : Int) (kind_2 : Int) (begin_2 : Int) (tape_0 : Int → Int) (tape_1 : Int → Int) (k2 : 0 ≤ x2 ∧ x2 ≤ 2000) (k4 : 0 ≤ x4 ∧ x4 ≤ 1999) (k5 : 1 ≤ x5 ∧ x5 ≤ 2000) (k11 : 58 ≤ x11 ∧ x11 ≤ 64) (k15 : 1 ≤ x15 ∧ x15 ≤ 2000) (k16 : 0 ≤ x16 ∧ x16 ≤ 0) (k17 : 1 ≤ x17 ∧ x17 ≤ 1) (d0 : x4 + 1 ≤ x15 ∧ x15 ≤ x4 + 1) (g0 : x17 = kind_0) (g1 : x15 = next_0) (g2 : x4 = begin_0) (g4 : x5 = end_0) (f12 : x16 = 0) (f13 : CSG (x11) (x16)) (g20 : x4 = next_2) (h25 : x11 = tape_2 (x4)) (f36 : x4 < x5) (f39 : CX0 (end_3) (next_3) (tape_3) (x2)) (fe_0_5_1 : end_0 = end_1) (fe_0_6_1 : next_0 = next_1) (fe_0_8_1 : begin_0 = begin_1) (fe_0_9_1 : number_0 = number_1) (fe_0_5_2 : end_1 = end_2) (fe_0_7_2 : kind_1 = kind_2) (fe_0_8_2 : begin_1 = begin_2) (fe_0_9_2 : number_1 = number_2) (fe_0_5_3 : end_2 = end_3) (fe_0_6_3 : next_2 = next_3) (fe_0_8_3 : begin_2 = x4) (fe_0_9_3 : number_2 = number_3) (hE_0_0_1 : ∀ j : Int, tape_0 j = tape_1 j) (hE_0_0_2 : ∀ j : Int, tape_1 j = tape_2 j) (hE_0_0_3 : ∀ j : Int, tape_2 j = tape_3 j) (hK_0_0 : ∀ j : Int, 0 ≤ j → j < 2000 → (-128) ≤ tape_0 j ∧ tape_0 j ≤ 127) (kz_0_5 : 0 ≤ end_0 ∧ end_0 ≤ 2000) (kz_0_6 : 0 ≤ next_0 ∧ next_0 ≤ 2000) (kz_0_7 : (-128) ≤ kind_0 ∧ kind_0 ≤ 127) (kz_0_8 : 0 ≤ begin_0 ∧ begin_0 ≤ 2000) (kz_0_9 : (-176) ≤ number_0 ∧ number_0 ≤ 1000000) : TKC (end_0) (next_0) (kind_0) (begin_0) (number_0) (tape_0) (x2) := by
  subst fe_0_5_1
  subst fe_0_6_1
  subst fe_0_8_1
  subst fe_0_9_1
  subst fe_0_5_2
  subst fe_0_7_2
  subst fe_0_8_2
  subst fe_0_9_2
  subst fe_0_5_3
  subst fe_0_6_3
  subst fe_0_9_3
  have e_hE_0_0_1 := funext hE_0_0_1; subst e_hE_0_0_1
  have e_hE_0_0_2 := funext hE_0_0_2; subst e_hE_0_0_2
  have e_hE_0_0_3 := funext hE_0_0_3; subst e_hE_0_0_3
  first | subst g0 | skip
  first | subst g1 | skip
  first | subst g2 | skip
  first | subst g4 | skip
  first | subst g20 | skip
  first
    | exact cxl_e (by assumption) ‹CXL _ _ _ _ _› (fun q => by omega) (by omega)
    | exact cxl_e (by assumption) ‹CXL _ _ _ _ _› (fun q => cnb_f ‹CNBy _ _› (by omega) (by omega)) (by omega)
    | exact cxd_e (by assumption) ‹CXD _ _ _ _ _ _› (fun q => by unfold cIG; omega) (by omega)
    | exact cxs_e (by assumption) (cx_1 (by assumption) ‹CX0 _ _ _ _› (fun q => by omega) (by omega)) (by omega) rfl (by unfold cIL; omega) (by unfold cIG; omega) (by omega) (Or.inl ⟨csg_t ‹CSG _ _› (by omega) (by omega), by omega⟩)
    | exact cxs_e (by assumption) (cx_1 (by assumption) ‹CX0 _ _ _ _› (fun q => by omega) (by omega)) (by omega) rfl (by unfold cIL; omega) (by unfold cIG; omega) (by omega) (Or.inr ⟨csg_f ‹CSG _ _› (by omega) (by omega), by omega⟩)
set_option maxHeartbeats 4000000 in
theorem vc_Re_advance_16_5 (x2 : Int) (x4 : Int) (x15 : Int) (next_0 : Int) (begin_0 : Int) (end_0 : Int) (number_0 : Int) (number_1 : Int) (next_2 : Int) (tape_2 : Int → Int) (number_2 : Int) (end_2 : Int) (tape_3 : Int → Int) (number_3 : Int) (end_3 : Int) (next_3 : Int) (end_1 : Int) (next_1 : Int) (begin_1 : Int) (kind_1 : Int) (kind_2 : Int) (begin_2 : Int) (tape_0 : Int → Int) (tape_1 : Int → Int) (k2 : 0 ≤ x2 ∧ x2 ≤ 2000) (k4 : 0 ≤ x4 ∧ x4 ≤ 1999) (k15 : 1 ≤ x15 ∧ x15 ≤ 2000) (d0 : x4 + 1 ≤ x15 ∧ x15 ≤ x4 + 1) (g1 : x15 = next_0) (g2 : x4 = begin_0) (g20 : x4 = next_2) (f30 : 1 * x2 + ((-1) * next_2 + 0) ≤ 0) (fe_0_5_1 : end_0 = end_1) (fe_0_6_1 : next_0 = next_1) (fe_0_8_1 : begin_0 = begin_1) (fe_0_9_1 : number_0 = number_1) (fe_0_5_2 : end_1 = end_2) (fe_0_7_2 : kind_1 = kind_2) (fe_0_8_2 : begin_1 = begin_2) (fe_0_9_2 : number_1 = number_2) (fe_0_5_3 : end_2 = end_3) (fe_0_6_3 : next_2 = next_3) (fe_0_9_3 : number_2 = number_3) (hE_0_0_1 : ∀ j : Int, tape_0 j = tape_1 j) (hE_0_0_2 : ∀ j : Int, tape_1 j = tape_2 j) (hE_0_0_3 : ∀ j : Int, tape_2 j = tape_3 j) (hK_0_0 : ∀ j : Int, 0 ≤ j → j < 2000 → (-128) ≤ tape_0 j ∧ tape_0 j ≤ 127) (kz_0_5 : 0 ≤ end_0 ∧ end_0 ≤ 2000) (kz_0_6 : 0 ≤ next_0 ∧ next_0 ≤ 2000) (kz_0_8 : 0 ≤ begin_0 ∧ begin_0 ≤ 2000) (kz_0_9 : (-176) ≤ number_0 ∧ number_0 ≤ 1000000) : 1 * x2 + ((-1) * next_0 + 0) ≤ 0 := by
  subst fe_0_5_1
  subst fe_0_6_1
  subst fe_0_8_1
  subst fe_0_9_1
  subst fe_0_5_2
  subst fe_0_7_2
  subst fe_0_8_2
  subst fe_0_9_2
  subst fe_0_5_3
  subst fe_0_6_3
  subst fe_0_9_3
  have e_hE_0_0_1 := funext hE_0_0_1; subst e_hE_0_0_1
  have e_hE_0_0_2 := funext hE_0_0_2; subst e_hE_0_0_2
  have e_hE_0_0_3 := funext hE_0_0_3; subst e_hE_0_0_3
  first | with_reducible assumption | ((try and_intros) <;> first | with_reducible assumption | (clear hE_0_0_1 hE_0_0_2 hE_0_0_3 hK_0_0; omega)) | omega
def o_Re_advance_16 : or_T := (290, 18, [(0, (2, 0, 0, [8])), (1, (0, -2147483648, 1000000, [])), (2, (0, 0, 2000, [])), (3, (2, 0, 0, [8])), (4, (0, 0, 1999, [])), (5, (0, 1, 2000, [])), (6, (2, 0, 0, [109])), (7, (0, -128, 127, [])), (8, (0, 32, 32, [])), (9, (0, -128, 127, [])), (10, (0, 10, 10, [])), (11, (0, 58, 64, [])), (12, (0, 0, 0, [])), (13, (0, 0, 0, [])), (14, (0, 1, 1, [])), (15, (0, 1, 2000, [])), (16, (0, 0, 0, [])), (17, (0, 1, 1, []))], [(9, [17, 3], [7]), (9, [15, 3], [6]), (9, [4, 3], [8]), (9, [6, 3], [0]), (9, [5, 3], [5]), (20, [11, 16], [61, 0, 1100]), (20, [11, 13], [61, 0, 1098]), (20, [11, 12], [61, 0, 1097]), (20, [3, 1], [30, 0, 1, 1, 9, -1, 0, 0]), (20, [3, 1], [30, 0, -1, 1, 9, 1, 0, 0]), (24, [0, 3], []), (101, [3, 17], [7]), (8, [16], [0]), (20, [11, 16], [61, 0, 1100]), (20, [11, 13], [61, 0, 1098]), (20, [11, 12], [61, 0, 1097]), (20, [3, 1], [30, 0, 1, 1, 9, -1, 0, 0]), (20, [3, 1], [30, 0, -1, 1, 9, 1, 0, 0]), (101, [3, 15], [6]), (1, [15, 4, 14], []), (9, [4, 3], [6]), (8, [13], [0]), (20, [11, 13], [61, 0, 1098]), (8, [12], [0]), (20, [11, 12], [61, 0, 1097]), (10, [11, 6, 4], []), (7, [4, 5], [2]), (20, [3, 1], [30, 0, 1, 1, 9, -1, 0, 0]), (20, [3, 1], [30, 0, -1, 1, 9, 1, 0, 0]), (20, [3, 2], [60, 2, 1, 1074, 5, 6, 0]), (20, [2, 3], [30, 0, 1, 0, 0, -1, 1, 6]), (101, [3, 4], [8]), (7, [9, 10], [1]), (10, [9, 6, 4], []), (7, [7, 8], [1]), (10, [7, 6, 4], []), (7, [4, 5], [2]), (20, [3, 1], [30, 0, 1, 1, 9, -1, 0, 0]), (20, [3, 1], [30, 0, -1, 1, 9, 1, 0, 0]), (20, [3, 2], [60, 2, 1, 1074, 5, 6, 0]), (20, [2, 3], [30, 0, 1, 0, 0, -1, 1, 6])], [], [], [(20, [0, 0, 1], [31, 1, 3, 1, 1, 7, 0, 1, 1, 9, -1, 0, 0]), (20, [0, 0, 1], [31, 1, 3, 1, 1, 7, 0, -1, 1, 9, 1, 0, 0]), (20, [0, 0, 0, 0], [31, 1, -3, -1, 1, 7, 4008, 1, 1, 6, -1, 1, 8, 2000, 1, 7]), (20, [0, 0], [30, 0, 1, 1, 8, -1, 1, 6]), (20, [0, 2], [60, 5, 1, 1072, 5, 6, 7, 8, 9, 0]), (20, [2, 0], [30, 0, 1, 0, 0, -1, 1, 6])], [], [(15, 4, 1, 1), (15, 5, -4294967296, 0), (4, 5, -4294967296, -1)])
theorem oo_Re_advance_16 {kA : Nat → ClassId} : or_ok PRD kA GG o_Re_advance_16 := by
  refine or_mk fun A ta ws vs hD hth hl => ?_
  intro t0 r0 t1 k1 t2 k2 t3 r3 t4 k4 t5 k5 t6 r6 t7 k7 t8 k8 t9 k9 t10 k10 t11 k11 t12 k12 t13 k13 t14 k14 t15 k15 t16 k16 t17 k17 d0 d1 d2 f0 f1 f2 f3 f4 f5 f6 f7 f8 f9 f10 ta1 w1 le1 s1 f12 f13 f14 f15 f16 f17 ta2 w2 le2 s2 f19 f20 f21 f22 f23 f24 f25 f26 f27 f28 f29 f30 ta3 w3 le3 s3 f32 f33 f34 f35 f36 f37 f38 f39 f40
  replace f0 := shm_198 f0
  replace f1 := shm_111 f1
  replace f2 := shm_293 f2
  replace f3 := shm_163 f3
  replace f4 := shm_110 f4
  replace f10 := shm_5 f10
  have s1 : (∀ b j, w_el ws b j = w_el w1 b j) ∧ ∀ b j, w_fd ws b j = if b = v_ad (n_v vs 3) ∧ j = 7 then n_v vs 17 else w_fd w1 b j := s1.2
  have s2 : (∀ b j, w_el w1 b j = w_el w2 b j) ∧ ∀ b j, w_fd w1 b j = if b = v_ad (n_v vs 3) ∧ j = 6 then n_v vs 15 else w_fd w2 b j := s2.2
  replace f20 := shm_111 f20
  replace f25 := shm_107 f25
  replace f30 := shm_1527 f30
  have s3 : (∀ b j, w_el w2 b j = w_el w3 b j) ∧ ∀ b j, w_fd w2 b j = if b = v_ad (n_v vs 3) ∧ j = 8 then n_v vs 4 else w_fd w3 b j := s3.2
  replace f39 := shm_1526 f39
  have q3 : n_v vs 3 = n_v vs 0 := f10.symm
  simp only [q3] at f0 f1 f2 f3 f4
  rw [q3] at s1
  rw [q3] at s2
  simp only [q3] at f20 f30
  rw [q3] at s3
  simp only [q3] at f39
  have ar_0_0_1 : w_ar w1 (n_v vs 0) 0 = w_ar ws (n_v vs 0) 0 := by show v_ad (w_fd w1 _ _) = v_ad (w_fd ws _ _); rw [s1.2, if_neg (fun e => absurd e.2 (by decide))]
  have ar_0_0_2 : w_ar w2 (n_v vs 0) 0 = w_ar ws (n_v vs 0) 0 := by rw [← ar_0_0_1]; show v_ad (w_fd w2 _ _) = v_ad (w_fd w1 _ _); rw [s2.2, if_neg (fun e => absurd e.2 (by decide))]
  have ar_0_0_3 : w_ar w3 (n_v vs 0) 0 = w_ar ws (n_v vs 0) 0 := by rw [← ar_0_0_2]; show v_ad (w_fd w3 _ _) = v_ad (w_fd w2 _ _); rw [s3.2, if_neg (fun e => absurd e.2 (by decide))]
  have cr_0_0 := fdq_95 hD hth r0
  have ad_6 : v_ad (n_v vs 6) = w_ar ws (n_v vs 0) 0 := congrArg v_ad f3
  have g0 : v_iv (n_v vs 17) = w_fi ws (n_v vs 0) 7 := congrArg v_iv f0
  have g1 : v_iv (n_v vs 15) = w_fi ws (n_v vs 0) 6 := congrArg v_iv f1
  have g2 : v_iv (n_v vs 4) = w_fi ws (n_v vs 0) 8 := congrArg v_iv f2
  have g4 : v_iv (n_v vs 5) = w_fi ws (n_v vs 0) 5 := congrArg v_iv f4
  have g20 : v_iv (n_v vs 4) = w_fi w2 (n_v vs 0) 6 := congrArg v_iv f20
  simp only [ad_6] at f25
  have h25 : v_iv (n_v vs 11) = w_ei w2 (w_ar ws (n_v vs 0) 0) (v_iv (n_v vs 4)) := f25
  simp only [ar_0_0_3] at f39
  have fe_0_5_1 : w_fi ws (n_v vs 0) 5 = w_fi w1 (n_v vs 0) 5 := by show v_iv (w_fd _ _ _) = v_iv (w_fd _ _ _); rw [s1.2, if_neg (fun e => absurd e.2 (by decide))]
  have fe_0_6_1 : w_fi ws (n_v vs 0) 6 = w_fi w1 (n_v vs 0) 6 := by show v_iv (w_fd _ _ _) = v_iv (w_fd _ _ _); rw [s1.2, if_neg (fun e => absurd e.2 (by decide))]
  have fe_0_8_1 : w_fi ws (n_v vs 0) 8 = w_fi w1 (n_v vs 0) 8 := by show v_iv (w_fd _ _ _) = v_iv (w_fd _ _ _); rw [s1.2, if_neg (fun e => absurd e.2 (by decide))]
  have fe_0_9_1 : w_fi ws (n_v vs 0) 9 = w_fi w1 (n_v vs 0) 9 := by show v_iv (w_fd _ _ _) = v_iv (w_fd _ _ _); rw [s1.2, if_neg (fun e => absurd e.2 (by decide))]
  have fe_0_5_2 : w_fi w1 (n_v vs 0) 5 = w_fi w2 (n_v vs 0) 5 := by show v_iv (w_fd _ _ _) = v_iv (w_fd _ _ _); rw [s2.2, if_neg (fun e => absurd e.2 (by decide))]
  have fe_0_7_2 : w_fi w1 (n_v vs 0) 7 = w_fi w2 (n_v vs 0) 7 := by show v_iv (w_fd _ _ _) = v_iv (w_fd _ _ _); rw [s2.2, if_neg (fun e => absurd e.2 (by decide))]
  have fe_0_8_2 : w_fi w1 (n_v vs 0) 8 = w_fi w2 (n_v vs 0) 8 := by show v_iv (w_fd _ _ _) = v_iv (w_fd _ _ _); rw [s2.2, if_neg (fun e => absurd e.2 (by decide))]
  have fe_0_9_2 : w_fi w1 (n_v vs 0) 9 = w_fi w2 (n_v vs 0) 9 := by show v_iv (w_fd _ _ _) = v_iv (w_fd _ _ _); rw [s2.2, if_neg (fun e => absurd e.2 (by decide))]
  have fe_0_5_3 : w_fi w2 (n_v vs 0) 5 = w_fi w3 (n_v vs 0) 5 := by show v_iv (w_fd _ _ _) = v_iv (w_fd _ _ _); rw [s3.2, if_neg (fun e => absurd e.2 (by decide))]
  have fe_0_6_3 : w_fi w2 (n_v vs 0) 6 = w_fi w3 (n_v vs 0) 6 := by show v_iv (w_fd _ _ _) = v_iv (w_fd _ _ _); rw [s3.2, if_neg (fun e => absurd e.2 (by decide))]
  have fe_0_8_3 : w_fi w2 (n_v vs 0) 8 = v_iv (n_v vs 4) := by show v_iv (w_fd _ _ _) = _; rw [s3.2, if_pos ⟨rfl, rfl⟩]
  have fe_0_9_3 : w_fi w2 (n_v vs 0) 9 = w_fi w3 (n_v vs 0) 9 := by show v_iv (w_fd _ _ _) = v_iv (w_fd _ _ _); rw [s3.2, if_neg (fun e => absurd e.2 (by decide))]
  have hE_0_0_1 : ∀ j : Int, w_ei ws (w_ar ws (n_v vs 0) 0) j = w_ei w1 (w_ar ws (n_v vs 0) 0) j := fun j => s1.1 _ _
  have hE_0_0_2 : ∀ j : Int, w_ei w1 (w_ar ws (n_v vs 0) 0) j = w_ei w2 (w_ar ws (n_v vs 0) 0) j := fun j => s2.1 _ _
  have hE_0_0_3 : ∀ j : Int, w_ei w2 (w_ar ws (n_v vs 0) 0) j = w_ei w3 (w_ar ws (n_v vs 0) 0) j := fun j => s3.1 _ _
  have hK_0_0 := elq_33 hD hth cr_0_0
  have kz_0_5 := fdq_207 hD hth r0
  have kz_0_6 := fdq_208 hD hth r0
  have kz_0_7 := fdq_297 hD hth r0
  have kz_0_8 := fdq_99 hD hth r0
  have kz_0_9 := fdq_296 hD hth r0
  have nf0 : fc_1 PRD (20, [0, 0, 1], [31, 1, 3, 1, 1, 7, 0, 1, 1, 9, -1, 0, 0]) ws (vs) := ⟨nf_in hl rfl, sgq_1528 (vc_Re_advance_16_0 (v_iv (n_v vs 1)) (v_iv (n_v vs 17)) (w_fi ws (n_v vs 0) 7) (w_fi ws (n_v vs 0) 6) (w_fi ws (n_v vs 0) 8) (w_fi ws (n_v vs 0) 5) (w_fi ws (n_v vs 0) 9) (w_fi w1 (n_v vs 0) 9) (w_fi w2 (n_v vs 0) 6) (w_ei w2 (w_ar ws (n_v vs 0) 0)) (w_fi w2 (n_v vs 0) 9) (w_fi w2 (n_v vs 0) 5) (w_ei w3 (w_ar ws (n_v vs 0) 0)) (w_fi w3 (n_v vs 0) 9) (w_fi w3 (n_v vs 0) 5) (w_fi w3 (n_v vs 0) 6) (w_fi w1 (n_v vs 0) 5) (w_fi w1 (n_v vs 0) 6) (w_fi w1 (n_v vs 0) 8) (w_fi w1 (n_v vs 0) 7) (w_fi w2 (n_v vs 0) 7) (w_fi w2 (n_v vs 0) 8) (w_ei ws (w_ar ws (n_v vs 0) 0)) (w_ei w1 (w_ar ws (n_v vs 0) 0)) k1 k17 g0 fe_0_5_1 fe_0_6_1 fe_0_8_1 fe_0_9_1 fe_0_5_2 fe_0_7_2 fe_0_8_2 fe_0_9_2 fe_0_5_3 fe_0_6_3 fe_0_9_3 hE_0_0_1 hE_0_0_2 hE_0_0_3 hK_0_0 kz_0_5 kz_0_6 kz_0_7 kz_0_8 kz_0_9)⟩
  have nf1 : fc_1 PRD (20, [0, 0, 1], [31, 1, 3, 1, 1, 7, 0, -1, 1, 9, 1, 0, 0]) ws (vs) := ⟨nf_in hl rfl, sgq_1529 (vc_Re_advance_16_1 (v_iv (n_v vs 1)) (v_iv (n_v vs 17)) (w_fi ws (n_v vs 0) 7) (w_fi ws (n_v vs 0) 6) (w_fi ws (n_v vs 0) 8) (w_fi ws (n_v vs 0) 5) (w_fi ws (n_v vs 0) 9) (w_fi w1 (n_v vs 0) 9) (w_fi w2 (n_v vs 0) 6) (w_ei w2 (w_ar ws (n_v vs 0) 0)) (w_fi w2 (n_v vs 0) 9) (w_fi w2 (n_v vs 0) 5) (w_ei w3 (w_ar ws (n_v vs 0) 0)) (w_fi w3 (n_v vs 0) 9) (w_fi w3 (n_v vs 0) 5) (w_fi w3 (n_v vs 0) 6) (w_fi w1 (n_v vs 0) 5) (w_fi w1 (n_v vs 0) 6) (w_fi w1 (n_v vs 0) 8) (w_fi w1 (n_v vs 0) 7) (w_fi w2 (n_v vs 0) 7) (w_fi w2 (n_v vs 0) 8) (w_ei ws (w_ar ws (n_v vs 0) 0)) (w_ei w1 (w_ar ws (n_v vs 0) 0)) k1 k17 g0 fe_0_5_1 fe_0_6_1 fe_0_8_1 fe_0_9_1 fe_0_5_2 fe_0_7_2 fe_0_8_2 fe_0_9_2 fe_0_5_3 fe_0_6_3 fe_0_9_3 hE_0_0_1 hE_0_0_2 hE_0_0_3 hK_0_0 kz_0_5 kz_0_6 kz_0_7 kz_0_8 kz_0_9)⟩
  have nf2 : fc_1 PRD (20, [0, 0, 0, 0], [31, 1, -3, -1, 1, 7, 4008, 1, 1, 6, -1, 1, 8, 2000, 1, 7]) ws (vs) := ⟨nf_in hl rfl, sgq_1530 (vc_Re_advance_16_2 (v_iv (n_v vs 4)) (v_iv (n_v vs 15)) (v_iv (n_v vs 17)) (w_fi ws (n_v vs 0) 7) (w_fi ws (n_v vs 0) 6) (w_fi ws (n_v vs 0) 8) (w_fi ws (n_v vs 0) 5) (w_fi ws (n_v vs 0) 9) (w_fi w1 (n_v vs 0) 9) (w_fi w2 (n_v vs 0) 6) (w_ei w2 (w_ar ws (n_v vs 0) 0)) (w_fi w2 (n_v vs 0) 9) (w_fi w2 (n_v vs 0) 5) (w_ei w3 (w_ar ws (n_v vs 0) 0)) (w_fi w3 (n_v vs 0) 9) (w_fi w3 (n_v vs 0) 5) (w_fi w3 (n_v vs 0) 6) (w_fi w1 (n_v vs 0) 5) (w_fi w1 (n_v vs 0) 6) (w_fi w1 (n_v vs 0) 8) (w_fi w1 (n_v vs 0) 7) (w_fi w2 (n_v vs 0) 7) (w_fi w2 (n_v vs 0) 8) (w_ei ws (w_ar ws (n_v vs 0) 0)) (w_ei w1 (w_ar ws (n_v vs 0) 0)) k4 k15 k17 d0 g0 g1 g2 fe_0_5_1 fe_0_6_1 fe_0_8_1 fe_0_9_1 fe_0_5_2 fe_0_7_2 fe_0_8_2 fe_0_9_2 fe_0_5_3 fe_0_6_3 fe_0_9_3 hE_0_0_1 hE_0_0_2 hE_0_0_3 hK_0_0 kz_0_5 kz_0_6 kz_0_7 kz_0_8 kz_0_9)⟩
  have nf3 : fc_1 PRD (20, [0, 0], [30, 0, 1, 1, 8, -1, 1, 6]) ws (vs) := ⟨nf_in hl rfl, sgq_1531 (vc_Re_advance_16_3 (v_iv (n_v vs 4)) (v_iv (n_v vs 15)) (w_fi ws (n_v vs 0) 6) (w_fi ws (n_v vs 0) 8) (w_fi ws (n_v vs 0) 5) (w_fi ws (n_v vs 0) 9) (w_fi w1 (n_v vs 0) 9) (w_fi w2 (n_v vs 0) 6) (w_ei w2 (w_ar ws (n_v vs 0) 0)) (w_fi w2 (n_v vs 0) 9) (w_fi w2 (n_v vs 0) 5) (w_ei w3 (w_ar ws (n_v vs 0) 0)) (w_fi w3 (n_v vs 0) 9) (w_fi w3 (n_v vs 0) 5) (w_fi w3 (n_v vs 0) 6) (w_fi w1 (n_v vs 0) 5) (w_fi w1 (n_v vs 0) 6) (w_fi w1 (n_v vs 0) 8) (w_fi w1 (n_v vs 0) 7) (w_fi w2 (n_v vs 0) 7) (w_fi w2 (n_v vs 0) 8) (w_ei ws (w_ar ws (n_v vs 0) 0)) (w_ei w1 (w_ar ws (n_v vs 0) 0)) k4 k15 d0 g1 g2 fe_0_5_1 fe_0_6_1 fe_0_8_1 fe_0_9_1 fe_0_5_2 fe_0_7_2 fe_0_8_2 fe_0_9_2 fe_0_5_3 fe_0_6_3 fe_0_9_3 hE_0_0_1 hE_0_0_2 hE_0_0_3 hK_0_0 kz_0_5 kz_0_6 kz_0_8 kz_0_9)⟩
  have nf4 : fc_1 PRD (20, [0, 2], [60, 5, 1, 1072, 5, 6, 7, 8, 9, 0]) ws (vs) := ⟨nf_in hl rfl, sgq_1532 (vc_Re_advance_16_4 (v_iv (n_v vs 2)) (v_iv (n_v vs 4)) (v_iv (n_v vs 5)) (v_iv (n_v vs 11)) (v_iv (n_v vs 15)) (v_iv (n_v vs 16)) (v_iv (n_v vs 17)) (w_fi ws (n_v vs 0) 7) (w_fi ws (n_v vs 0) 6) (w_fi ws (n_v vs 0) 8) (w_fi ws (n_v vs 0) 5) (w_fi ws (n_v vs 0) 9) (w_fi w1 (n_v vs 0) 9) (w_fi w2 (n_v vs 0) 6) (w_ei w2 (w_ar ws (n_v vs 0) 0)) (w_fi w2 (n_v vs 0) 9) (w_fi w2 (n_v vs 0) 5) (w_ei w3 (w_ar ws (n_v vs 0) 0)) (w_fi w3 (n_v vs 0) 9) (w_fi w3 (n_v vs 0) 5) (w_fi w3 (n_v vs 0) 6) (w_fi w1 (n_v vs 0) 5) (w_fi w1 (n_v vs 0) 6) (w_fi w1 (n_v vs 0) 8) (w_fi w1 (n_v vs 0) 7) (w_fi w2 (n_v vs 0) 7) (w_fi w2 (n_v vs 0) 8) (w_ei ws (w_ar ws (n_v vs 0) 0)) (w_ei w1 (w_ar ws (n_v vs 0) 0)) k2 k4 k5 k11 k15 k16 k17 d0 g0 g1 g2 g4 (shm_192 f12) (shm_454 f13) g20 h25 (shm_6 f36) f39 fe_0_5_1 fe_0_6_1 fe_0_8_1 fe_0_9_1 fe_0_5_2 fe_0_7_2 fe_0_8_2 fe_0_9_2 fe_0_5_3 fe_0_6_3 fe_0_8_3 fe_0_9_3 hE_0_0_1 hE_0_0_2 hE_0_0_3 hK_0_0 kz_0_5 kz_0_6 kz_0_7 kz_0_8 kz_0_9)⟩
  have nf5 : fc_1 PRD (20, [2, 0], [30, 0, 1, 0, 0, -1, 1, 6]) ws (vs) := ⟨nf_in hl rfl, sgq_1527 (vc_Re_advance_16_5 (v_iv (n_v vs 2)) (v_iv (n_v vs 4)) (v_iv (n_v vs 15)) (w_fi ws (n_v vs 0) 6) (w_fi ws (n_v vs 0) 8) (w_fi ws (n_v vs 0) 5) (w_fi ws (n_v vs 0) 9) (w_fi w1 (n_v vs 0) 9) (w_fi w2 (n_v vs 0) 6) (w_ei w2 (w_ar ws (n_v vs 0) 0)) (w_fi w2 (n_v vs 0) 9) (w_fi w2 (n_v vs 0) 5) (w_ei w3 (w_ar ws (n_v vs 0) 0)) (w_fi w3 (n_v vs 0) 9) (w_fi w3 (n_v vs 0) 5) (w_fi w3 (n_v vs 0) 6) (w_fi w1 (n_v vs 0) 5) (w_fi w1 (n_v vs 0) 6) (w_fi w1 (n_v vs 0) 8) (w_fi w1 (n_v vs 0) 7) (w_fi w2 (n_v vs 0) 7) (w_fi w2 (n_v vs 0) 8) (w_ei ws (w_ar ws (n_v vs 0) 0)) (w_ei w1 (w_ar ws (n_v vs 0) 0)) k2 k4 k15 d0 g1 g2 g20 f30 fe_0_5_1 fe_0_6_1 fe_0_8_1 fe_0_9_1 fe_0_5_2 fe_0_7_2 fe_0_8_2 fe_0_9_2 fe_0_5_3 fe_0_6_3 fe_0_9_3 hE_0_0_1 hE_0_0_2 hE_0_0_3 hK_0_0 kz_0_5 kz_0_6 kz_0_8 kz_0_9)⟩
  refine ⟨(fun _ h => (by cases h)), [], trivial, ?_, (fun _ h => (by cases h))⟩
  rw [List.append_nil]
  exact List.forall_mem_cons.mpr ⟨⟨show (20 : Nat) < 100 from by decide, nf0⟩, List.forall_mem_cons.mpr ⟨⟨show (20 : Nat) < 100 from by decide, nf1⟩, List.forall_mem_cons.mpr ⟨⟨show (20 : Nat) < 100 from by decide, nf2⟩, List.forall_mem_cons.mpr ⟨⟨show (20 : Nat) < 100 from by decide, nf3⟩, List.forall_mem_cons.mpr ⟨⟨show (20 : Nat) < 100 from by decide, nf4⟩, List.forall_mem_cons.mpr ⟨⟨show (20 : Nat) < 100 from by decide, nf5⟩, (fun _ h => (by cases h))⟩⟩⟩⟩⟩⟩
set_option maxHeartbeats 4000000 in
theorem vc_Re_advance_17_0 (x1 : Int) (kind_0 : Int) (next_0 : Int) (begin_0 : Int) (end_0 : Int) (number_0 : Int) (number_1 : Int) (next_2 : Int) (tape_2 : Int → Int) (number_2 : Int) (end_2 : Int) (tape_3 : Int → Int) (number_3 : Int) (end_3 : Int) (next_3 : Int) (end_1 : Int) (next_1 : Int) (begin_1 : Int) (kind_1 : Int) (kind_2 : Int) (begin_2 : Int) (tape_0 : Int → Int) (tape_1 : Int → Int) (k1 : (-2147483648) ≤ x1 ∧ x1 ≤ 1000000) (f8 : 1 * number_0 + ((-1) * x1 + 0) ≤ 0) (f9 : (-1) * number_0 + (1 * x1 + 0) ≤ 0) (fe_0_5_1 : end_0 = end_1) (fe_0_6_1 : next_0 = next_1) (fe_0_8_1 : begin_0 = begin_1) (fe_0_9_1 : number_0 = number_1) (fe_0_5_2 : end_1 = end_2) (fe_0_7_2 : kind_1 = kind_2) (fe_0_8_2 : begin_1 = begin_2) (fe_0_9_2 : number_1 = number_2) (fe_0_5_3 : end_2 = end_3) (fe_0_6_3 : next_2 = next_3) (fe_0_9_3 : number_2 = number_3) (hE_0_0_1 : ∀ j : Int, tape_0 j = tape_1 j) (hE_0_0_2 : ∀ j : Int, tape_1 j = tape_2 j) (hE_0_0_3 : ∀ j : Int, tape_2 j = tape_3 j) (hK_0_0 : ∀ j : Int, 0 ≤ j → j < 2000 → (-128) ≤ tape_0 j ∧ tape_0 j ≤ 127) (kz_0_5 : 0 ≤ end_0 ∧ end_0 ≤ 2000) (kz_0_6 : 0 ≤ next_0 ∧ next_0 ≤ 2000) (kz_0_7 : (-128) ≤ kind_0 ∧ kind_0 ≤ 127) (kz_0_8 : 0 ≤ begin_0 ∧ begin_0 ≤ 2000) (kz_0_9 : (-176) ≤ number_0 ∧ number_0 ≤ 1000000) : (1 * kind_0 + 0 ≤ 3) ∨ (1 * number_0 + ((-1) * x1 + 0) ≤ 0) := by
  subst fe_0_5_1
  subst fe_0_6_1
  subst fe_0_8_1
  subst fe_0_9_1
  subst fe_0_5_2
  subst fe_0_7_2
  subst fe_0_8_2
  subst fe_0_9_2
  subst fe_0_5_3
  subst fe_0_6_3
  subst fe_0_9_3
  have e_hE_0_0_1 := funext hE_0_0_1; subst e_hE_0_0_1
  have e_hE_0_0_2 := funext hE_0_0_2; subst e_hE_0_0_2
  have e_hE_0_0_3 := funext hE_0_0_3; subst e_hE_0_0_3
  first | with_reducible assumption | ((try and_intros) <;> first | with_reducible assumption | (clear hE_0_0_1 hE_0_0_2 hE_0_0_3 hK_0_0; omega)) | omega
set_option maxHeartbeats 4000000 in
theorem vc_Re_advance_17_1 (x1 : Int) (kind_0 : Int) (next_0 : Int) (begin_0 : Int) (end_0 : Int) (number_0 : Int) (number_1 : Int) (next_2 : Int) (tape_2 : Int → Int) (number_2 : Int) (end_2 : Int) (tape_3 : Int → Int) (number_3 : Int) (end_3 : Int) (next_3 : Int) (end_1 : Int) (next_1 : Int) (begin_1 : Int) (kind_1 : Int) (kind_2 : Int) (begin_2 : Int) (tape_0 : Int → Int) (tape_1 : Int → Int) (k1 : (-2147483648) ≤ x1 ∧ x1 ≤ 1000000) (f8 : 1 * number_0 + ((-1) * x1 + 0) ≤ 0) (f9 : (-1) * number_0 + (1 * x1 + 0) ≤ 0) (fe_0_5_1 : end_0 = end_1) (fe_0_6_1 : next_0 = next_1) (fe_0_8_1 : begin_0 = begin_1) (fe_0_9_1 : number_0 = number_1) (fe_0_5_2 : end_1 = end_2) (fe_0_7_2 : kind_1 = kind_2) (fe_0_8_2 : begin_1 = begin_2) (fe_0_9_2 : number_1 = number_2) (fe_0_5_3 : end_2 = end_3) (fe_0_6_3 : next_2 = next_3) (fe_0_9_3 : number_2 = number_3) (hE_0_0_1 : ∀ j : Int, tape_0 j = tape_1 j) (hE_0_0_2 : ∀ j : Int, tape_1 j = tape_2 j) (hE_0_0_3 : ∀ j : Int, tape_2 j = tape_3 j) (hK_0_0 : ∀ j : Int, 0 ≤ j → j < 2000 → (-128) ≤ tape_0 j ∧ tape_0 j ≤ 127) (kz_0_5 : 0 ≤ end_0 ∧ end_0 ≤ 2000) (kz_0_6 : 0 ≤ next_0 ∧ next_0 ≤ 2000) (kz_0_7 : (-128) ≤ kind_0 ∧ kind_0 ≤ 127) (kz_0_8 : 0 ≤ begin_0 ∧ begin_0 ≤ 2000) (kz_0_9 : (-176) ≤ number_0 ∧ number_0 ≤ 1000000) : (1 * kind_0 + 0 ≤ 3) ∨ ((-1) * number_0 + (1 * x1 + 0) ≤ 0) := by
  subst fe_0_5_1
  subst fe_0_6_1
  subst fe_0_8_1
  subst fe_0_9_1
  subst fe_0_5_2
  subst fe_0_7_2
  subst fe_0_8_2
  subst fe_0_9_2
  subst fe_0_5_3
  subst fe_0_6_3
  subst fe_0_9_3
  have e_hE_0_0_1 := funext hE_0_0_1; subst e_hE_0_0_1
  have e_hE_0_0_2 := funext hE_0_0_2; subst e_hE_0_0_2
  have e_hE_0_0_3 := funext hE_0_0_3; subst e_hE_0_0_3
  first | with_reducible assumption | ((try and_intros) <;> first | with_reducible assumption | (clear hE_0_0_1 hE_0_0_2 hE_0_0_3 hK_0_0; omega)) | omega
set_option maxHeartbeats 4000000 in
theorem vc_Re_advance_17_2 (x4 : Int) (x11 : Int) (kind_0 : Int) (next_0 : Int) (begin_0 : Int) (end_0 : Int) (number_0 : Int) (number_1 : Int) (next_2 : Int) (tape_2 : Int → Int) (number_2 : Int) (end_2 : Int) (tape_3 : Int → Int) (number_3 : Int) (end_3 : Int) (next_3 : Int) (end_1 : Int) (next_1 : Int) (begin_1 : Int) (kind_1 : Int) (kind_2 : Int) (begin_2 : Int) (tape_0 : Int → Int) (tape_1 : Int → Int) (k4 : 0 ≤ x4 ∧ x4 ≤ 1999) (k11 : 58 ≤ x11 ∧ x11 ≤ 64) (g0 : x11 = kind_0) (h25 : x11 = tape_2 (x4)) (fe_0_5_1 : end_0 = end_1) (fe_0_6_1 : next_0 = next_1) (fe_0_8_1 : begin_0 = begin_1) (fe_0_9_1 : number_0 = number_1) (fe_0_5_2 : end_1 = end_2) (fe_0_7_2 : kind_1 = kind_2) (fe_0_8_2 : begin_1 = begin_2) (fe_0_9_2 : number_1 = number_2) (fe_0_5_3 : end_2 = end_3) (fe_0_6_3 : next_2 = next_3) (fe_0_9_3 : number_2 = number_3) (hE_0_0_1 : ∀ j : Int, tape_0 j = tape_1 j) (hE_0_0_2 : ∀ j : Int, tape_1 j = tape_2 j) (hE_0_0_3 : ∀ j : Int, tape_2 j = tape_3 j) (hK_0_0 : ∀ j : Int, 0 ≤ j → j < 2000 → (-128) ≤ tape_0 j ∧ tape_0 j ≤ 127) (kz_0_5 : 0 ≤ end_0 ∧ end_0 ≤ 2000) (kz_0_6 : 0 ≤ next_0 ∧ next_0 ≤ 2000) (kz_0_7 : (-128) ≤ kind_0 ∧ kind_0 ≤ 127) (kz_0_8 : 0 ≤ begin_0 ∧ begin_0 ≤ 2000) (kz_0_9 : (-176) ≤ number_0 ∧ number_0 ≤ 1000000) : ((-1) * kind_0 + 0 ≤ (-3)) ∨ (1 * next_0 + ((-1) * begin_0 + (2000 * kind_0 + 0)) ≤ 4008) := by
  subst fe_0_5_1
  subst fe_0_6_1
  subst fe_0_8_1
  subst fe_0_9_1
  subst fe_0_5_2
  subst fe_0_7_2
  subst fe_0_8_2
  subst fe_0_9_2
  subst fe_0_5_3
  subst fe_0_6_3
  subst fe_0_9_3
  have e_hE_0_0_1 := funext hE_0_0_1; subst e_hE_0_0_1
  have e_hE_0_0_2 := funext hE_0_0_2; subst e_hE_0_0_2
  have e_hE_0_0_3 := funext hE_0_0_3; subst e_hE_0_0_3
  first | with_reducible assumption | ((try and_intros) <;> first | with_reducible assumption | (clear hE_0_0_1 hE_0_0_2 hE_0_0_3 hK_0_0; omega)) | omega
set_option maxHeartbeats 4000000 in
theorem vc_Re_advance_17_3 (x4 : Int) (x15 : Int) (next_0 : Int) (begin_0 : Int) (end_0 : Int) (number_0 : Int) (number_1 : Int) (next_2 : Int) (tape_2 : Int → Int) (number_2 : Int) (end_2 : Int) (tape_3 : Int → Int) (number_3 : Int) (end_3 : Int) (next_3 : Int) (end_1 : Int) (next_1 : Int) (begin_1 : Int) (kind_1 : Int) (kind_2 : Int) (begin_2 : Int) (tape_0 : Int → Int) (tape_1 : Int → Int) (k4 : 0 ≤ x4 ∧ x4 ≤ 1999) (k15 : 1 ≤ x15 ∧ x15 ≤ 2000) (d0 : x4 + 1 ≤ x15 ∧ x15 ≤ x4 + 1) (g1 : x15 = next_0) (g2 : x4 = begin_0) (fe_0_5_1 : end_0 = end_1) (fe_0_6_1 : next_0 = next_1) (fe_0_8_1 : begin_0 = begin_1) (fe_0_9_1 : number_0 = number_1) (fe_0_5_2 : end_1 = end_2) (fe_0_7_2 : kind_1 = kind_2) (fe_0_8_2 : begin_1 = begin_2) (fe_0_9_2 : number_1 = number_2) (fe_0_5_3 : end_2 = end_3) (fe_0_6_3 : next_2 = next_3) (fe_0_9_3 : number_2 = number_3) (hE_0_0_1 : ∀ j : Int, tape_0 j = tape_1 j) (hE_0_0_2 : ∀ j : Int, tape_1 j = tape_2 j) (hE_0_0_3 : ∀ j : Int, tape_2 j = tape_3 j) (hK_0_0 : ∀ j : Int, 0 ≤ j → j < 2000 → (-128) ≤ tape_0 j ∧ tape_0 j ≤ 127) (kz_0_5 : 0 ≤ end_0 ∧ end_0 ≤ 2000) (kz_0_6 : 0 ≤ next_0 ∧ next_0 ≤ 2000) (kz_0_8 : 0 ≤ begin_0 ∧ begin_0 ≤ 2000) (kz_0_9 : (-176) ≤ number_0 ∧ number_0 ≤ 1000000) : 1 * begin_0 + ((-1) * next_0 + 0) ≤ 0 := by
  subst fe_0_5_1
  subst fe_0_6_1
  subst fe_0_8_1
  subst fe_0_9_1
  subst fe_0_5_2
  subst fe_0_7_2
  subst fe_0_8_2
  subst fe_0_9_2
  subst fe_0_5_3
  subst fe_0_6_3
  subst fe_0_9_3
  have e_hE_0_0_1 := funext hE_0_0_1; subst e_hE_0_0_1
  have e_hE_0_0_2 := funext hE_0_0_2; subst e_hE_0_0_2
  have e_hE_0_0_3 := funext hE_0_0_3; subst e_hE_0_0_3
  first | with_reducible assumption | ((try and_intros) <;> first | with_reducible assumption | (clear hE_0_0_1 hE_0_0_2 hE_0_0_3 hK_0_0; omega)) | omega
set_option maxHeartbeats 4000000 in
theorem vc_Re_advance_17_4 (x2 : Int) (x4 : Int) (x5 : Int) (x11 : Int) (x15 : Int) (x16 : Int) (kind_0 : Int) (next_0 : Int) (begin_0 : Int) (end_0 : Int) (number_0 : Int) (number_1 : Int) (next_2 : Int) (tape_2 : Int → Int) (number_2 : Int) (end_2 : Int) (tape_3 : Int → Int) (number_3 : Int) (end_3 : Int) (next_3 : Int) (end_1 : Int) (next_1 : Int) (begin_1 : Int) (kind_1 : Int) (kind_2 : Int) (begin_2 : Int) (tape_0 : Int → Int) (tape_1 : Int → Int) (k2 : 0 ≤ x2 ∧ x2 ≤ 2000) (k4 : 0 ≤ x4 ∧ x4 ≤ 1999) (k5 : 1 ≤ x5 ∧ x5 ≤ 2000) (k11 : 58 ≤ x11 ∧ x11 ≤ 64) (k15 : 1 ≤ x15 ∧ x15 ≤ 2000) (k16 : 1 ≤ x16 ∧ x16 ≤ 1) (d0 : x4 + 1 ≤ x15 ∧ x15 ≤ x4 + 1) (g0 : x11 = kind_0) (g1 : x15 = next_0) (g2 : x4 = begin_0) (g4 : x5 = end_0) (f12 : x16 ≠ 0) (f13 : CSG (x11) (x16)) (g20 : x4 = next_2) (h25 : x11 = tape_2 (x4)) (f36 : x4 < x5) (f39 : CX0 (end_3) (next_3) (tape_3) (x2)) (fe_0_5_1 : end_0 = end_1) (fe_0_6_1 : next_0 = next_1) (fe_0_8_1 : begin_0 = begin_1) (fe_0_9_1 : number_0 = number_1) (fe_0_5_2 : end_1 = end_2) (fe_0_7_2 : kind_1 = kind_2) (fe_0_8_2 : begin_1 = begin_2) (fe_0_9_2 : number_1 = number_2) (fe_0_5_3 : end_2 = end_3) (fe_0_6_3 : next_2 = next_3) (fe_0_8_3 : begin_2 = x4) (fe_0_9_3 : number_2 = number_3) (hE_0_0_1 : ∀ j : Int, tape_0 j = tape_1 j) (hE_0_0_2 : ∀ j : Int, tape_1 j = tape_2 j) (hE_0_0_3 : ∀ j : Int, tape_2 j = tape_3 j) (hK_0_0 : ∀ j : Int, 0 ≤ j → j < 2000 → (-128) ≤ tape_0 j ∧ tape_0 j ≤ 127) (kz_0_5 : 0 ≤ end_0 ∧ end_0 ≤ 2000) (kz_0_6 : 0 ≤ next_0 ∧ next_0 ≤ 2000) (kz_0_7 : (-128) ≤ kind_0 ∧ kind_0 ≤ 127) (kz_0_8 : 0 ≤ begin_0 ∧ begin_0 ≤ 2000) (kz_0_9 : (-176) ≤ number_0 ∧ number_0 ≤ 1000000) : TKC (end_0) (next_0) (kind_0) (begin_0) (number_0) (tape_0) (x2) := by
  subst fe_0_5_1
  subst fe_0_6_1
  subst fe_0_8_1
  subst fe_0_9_1
  subst fe_0_5_2
  subst fe_0_7_2
  subst fe_0_8_2
  subst fe_0_9_2
  subst fe_0_5_3
  subst fe_0_6_3
  subst fe_0_9_3
  have e_hE_0_0_1 := funext hE_0_0_1; subst e_hE_0_0_1
  have e_hE_0_0_2 := funext hE_0_0_2; subst e_hE_0_0_2
  have e_hE_0_0_3 := funext hE_0_0_3; subst e_hE_0_0_3
  first | subst g0 | skip
  first | subst g1 | skip
  first | subst g2 | skip
  first | subst g4 | skip
  first | subst g20 | skip
  first
    | exact cxl_e (by assumption) ‹CXL _ _ _ _ _› (fun q => by omega) (by omega)
    | exact cxl_e (by assumption) ‹CXL _ _ _ _ _› (fun q => cnb_f ‹CNBy _ _› (by omega) (by omega)) (by omega)
    | exact cxd_e (by assumption) ‹CXD _ _ _ _ _ _› (fun q => by unfold cIG; omega) (by omega)
    | exact cxs_e (by assumption) (cx_1 (by assumption) ‹CX0 _ _ _ _› (fun q => by omega) (by omega)) (by omega) rfl (by unfold cIL; omega) (by unfold cIG; omega) (by omega) (Or.inl ⟨csg_t ‹CSG _ _› (by omega) (by omega), by omega⟩)
    | exact cxs_e (by assumption) (cx_1 (by assumption) ‹CX0 _ _ _ _› (fun q => by omega) (by omega)) (by omega) rfl (by unfold cIL; omega) (by unfold cIG; omega) (by omega) (Or.inr ⟨csg_f ‹CSG _ _› (by omega) (by omega), by omega⟩)
set_option maxHeartbeats 4000000 in
theorem vc_Re_advance_17_5 (x2 : Int) (x4 : Int) (x15 : Int) (next_0 : Int) (begin_0 : Int) (end_0 : Int) (number_0 : Int) (number_1 : Int) (next_2 : Int) (tape_2 : Int → Int) (number_2 : Int) (end_2 : Int) (tape_3 : Int → Int) (number_3 : Int) (end_3 : Int) (next_3 : Int) (end_1 : Int) (next_1 : Int) (begin_1 : Int) (kind_1 : Int) (kind_2 : Int) (begin_2 : Int) (tape_0 : Int → Int) (tape_1 : Int → Int) (k2 : 0 ≤ x2 ∧ x2 ≤ 2000) (k4 : 0 ≤ x4 ∧ x4 ≤ 1999) (k15 : 1 ≤ x15 ∧ x15 ≤ 2000) (d0 : x4 + 1 ≤ x15 ∧ x15 ≤ x4 + 1) (g1 : x15 = next_0) (g2 : x4 = begin_0) (g20 : x4 = next_2) (f30 : 1 * x2 + ((-1) * next_2 + 0) ≤ 0) (fe_0_5_1 : end_0 = end_1) (fe_0_6_1 : next_0 = next_1) (fe_0_8_1 : begin_0 = begin_1) (fe_0_9_1 : number_0 = number_1) (fe_0_5_2 : end_1 = end_2) (fe_0_7_2 : kind_1 = kind_2) (fe_0_8_2 : begin_1 = begin_2) (fe_0_9_2 : number_1 = number_2) (fe_0_5_3 : end_2 = end_3) (fe_0_6_3 : next_2 = next_3) (fe_0_9_3 : number_2 = number_3) (hE_0_0_1 : ∀ j : Int, tape_0 j = tape_1 j) (hE_0_0_2 : ∀ j : Int, tape_1 j = tape_2 j) (hE_0_0_3 : ∀ j : Int, tape_2 j = tape_3 j) (hK_0_0 : ∀ j : Int, 0 ≤ j → j < 2000 → (-128) ≤ tape_0 j ∧ tape_0 j ≤ 127) (kz_0_5 : 0 ≤ end_0 ∧ end_0 ≤ 2000) (kz_0_6 : 0 ≤ next_0 ∧ next_0 ≤ 2000) (kz_0_8 : 0 ≤ begin_0 ∧ begin_0 ≤ 2000) (kz_0_9 : (-176) ≤ number_0 ∧ number_0 ≤ 1000000) : 1 * x2 + ((-1) * next_0 + 0) ≤ 0 := by
  subst fe_0_5_1
  subst fe_0_6_1
  subst fe_0_8_1
  subst fe_0_9_1
  subst fe_0_5_2
  subst fe_0_7_2
  subst fe_0_8_2
  subst fe_0_9_2
  subst fe_0_5_3
  subst fe_0_6_3
  subst fe_0_9_3
  have e_hE_0_0_1 := funext hE_0_0_1; subst e_hE_0_0_1
  have e_hE_0_0_2 := funext hE_0_0_2; subst e_hE_0_0_2
  have e_hE_0_0_3 := funext hE_0_0_3; subst e_hE_0_0_3
  first | with_reducible assumption | ((try and_intros) <;> first | with_reducible assumption | (clear hE_0_0_1 hE_0_0_2 hE_0_0_3 hK_0_0; omega)) | omega
def o_Re_advance_17 : or_T := (290, 17, [(0, (2, 0, 0, [8])), (1, (0, -2147483648, 1000000, [])), (2, (0, 0, 2000, [])), (3, (2, 0, 0, [8])), (4, (0, 0, 1999, [])), (5, (0, 1, 2000, [])), (6, (2, 0, 0, [109])), (7, (0, -128, 127, [])), (8, (0, 32, 32, [])), (9, (0, -128, 127, [])), (10, (0, 10, 10, [])), (11, (0, 58, 64, [])), (12, (0, 0, 0, [])), (13, (0, 0, 0, [])), (14, (0, 1, 1, [])), (15, (0, 1, 2000, [])), (16, (0, 1, 1, []))], [(9, [11, 3], [7]), (9, [15, 3], [6]), (9, [4, 3], [8]), (9, [6, 3], [0]), (9, [5, 3], [5]), (20, [11, 16], [61, 0, 1100]), (20, [11, 13], [61, 0, 1098]), (20, [11, 12], [61, 0, 1097]), (20, [3, 1], [30, 0, 1, 1, 9, -1, 0, 0]), (20, [3, 1], [30, 0, -1, 1, 9, 1, 0, 0]), (24, [0, 3], []), (101, [3, 11], [7]), (8, [16], [1]), (20, [11, 16], [61, 0, 1100]), (20, [11, 13], [61, 0, 1098]), (20, [11, 12], [61, 0, 1097]), (20, [3, 1], [30, 0, 1, 1, 9, -1, 0, 0]), (20, [3, 1], [30, 0, -1, 1, 9, 1, 0, 0]), (101, [3, 15], [6]), (1, [15, 4, 14], []), (9, [4, 3], [6]), (8, [13], [0]), (20, [11, 13], [61, 0, 1098]), (8, [12], [0]), (20, [11, 12], [61, 0, 1097]), (10, [11, 6, 4], []), (7, [4, 5], [2]), (20, [3, 1], [30, 0, 1, 1, 9, -1, 0, 0]), (20, [3, 1], [30, 0, -1, 1, 9, 1, 0, 0]), (20, [3, 2], [60, 2, 1, 1074, 5, 6, 0]), (20, [2, 3], [30, 0, 1, 0, 0, -1, 1, 6]), (101, [3, 4], [8]), (7, [9, 10], [1]), (10, [9, 6, 4], []), (7, [7, 8], [1]), (10, [7, 6, 4], []), (7, [4, 5], [2]), (20, [3, 1], [30, 0, 1, 1, 9, -1, 0, 0]), (20, [3, 1], [30, 0, -1, 1, 9, 1, 0, 0]), (20, [3, 2], [60, 2, 1, 1074, 5, 6, 0]), (20, [2, 3], [30, 0, 1, 0, 0, -1, 1, 6])], [], [], [(20, [0, 0, 1], [31, 1, 3, 1, 1, 7, 0, 1, 1, 9, -1, 0, 0]), (20, [0, 0, 1], [31, 1, 3, 1, 1, 7, 0, -1, 1, 9, 1, 0, 0]), (20, [0, 0, 0, 0], [31, 1, -3, -1, 1, 7, 4008, 1, 1, 6, -1, 1, 8, 2000, 1, 7]), (20, [0, 0], [30, 0, 1, 1, 8, -1, 1, 6]), (20, [0, 2], [60, 5, 1, 1072, 5, 6, 7, 8, 9, 0]), (20, [2, 0], [30, 0, 1, 0, 0, -1, 1, 6])], [], [(15, 4, 1, 1), (15, 5, -4294967296, 0), (4, 5, -4294967296, -1)])
theorem oo_Re_advance_17 {kA : Nat → ClassId} : or_ok PRD kA GG o_Re_advance_17 := by
  refine or_mk fun A ta ws vs hD hth hl => ?_
  intro t0 r0 t1 k1 t2 k2 t3 r3 t4 k4 t5 k5 t6 r6 t7 k7 t8 k8 t9 k9 t10 k10 t11 k11 t12 k12 t13 k13 t14 k14 t15 k15 t16 k16 d0 d1 d2 f0 f1 f2 f3 f4 f5 f6 f7 f8 f9 f10 ta1 w1 le1 s1 f12 f13 f14 f15 f16 f17 ta2 w2 le2 s2 f19 f20 f21 f22 f23 f24 f25 f26 f27 f28 f29 f30 ta3 w3 le3 s3 f32 f33 f34 f35 f36 f37 f38 f39 f40
  replace f0 := shm_198 f0
  replace f1 := shm_111 f1
  replace f2 := shm_293 f2
  replace f3 := shm_163 f3
  replace f4 := shm_110 f4
  replace f8 := shm_1521 f8
  replace f9 := shm_1522 f9
  replace f10 := shm_5 f10
  have s1 : (∀ b j, w_el ws b j = w_el w1 b j) ∧ ∀ b j, w_fd ws b j = if b = v_ad (n_v vs 3) ∧ j = 7 then n_v vs 11 else w_fd w1 b j := s1.2
  have s2 : (∀ b j, w_el w1 b j = w_el w2 b j) ∧ ∀ b j, w_fd w1 b j = if b = v_ad (n_v vs 3) ∧ j = 6 then n_v vs 15 else w_fd w2 b j := s2.2
  replace f20 := shm_111 f20
  replace f25 := shm_107 f25
  replace f30 := shm_1527 f30
  have s3 : (∀ b j, w_el w2 b j = w_el w3 b j) ∧ ∀ b j, w_fd w2 b j = if b = v_ad (n_v vs 3) ∧ j = 8 then n_v vs 4 else w_fd w3 b j := s3.2
  replace f39 := shm_1526 f39
  have q3 : n_v vs 3 = n_v vs 0 := f10.symm
  simp only [q3] at f0 f1 f2 f3 f4 f8 f9
  rw [q3] at s1
  rw [q3] at s2
  simp only [q3] at f20 f30
  rw [q3] at s3
  simp only [q3] at f39
  have ar_0_0_1 : w_ar w1 (n_v vs 0) 0 = w_ar ws (n_v vs 0) 0 := by show v_ad (w_fd w1 _ _) = v_ad (w_fd ws _ _); rw [s1.2, if_neg (fun e => absurd e.2 (by decide))]
  have ar_0_0_2 : w_ar w2 (n_v vs 0) 0 = w_ar ws (n_v vs 0) 0 := by rw [← ar_0_0_1]; show v_ad (w_fd w2 _ _) = v_ad (w_fd w1 _ _); rw [s2.2, if_neg (fun e => absurd e.2 (by decide))]
  have ar_0_0_3 : w_ar w3 (n_v vs 0) 0 = w_ar ws (n_v vs 0) 0 := by rw [← ar_0_0_2]; show v_ad (w_fd w3 _ _) = v_ad (w_fd w2 _ _); rw [s3.2, if_neg (fun e => absurd e.2 (by decide))]
  have cr_0_0 := fdq_95 hD hth r0
  have ad_6 : v_ad (n_v vs 6) = w_ar ws (n_v vs 0) 0 := congrArg v_ad f3
  have g0 : v_iv (n_v vs 11) = w_fi ws (n_v vs 0) 7 := congrArg v_iv f0
  have g1 : v_iv (n_v vs 15) = w_fi ws (n_v vs 0) 6 := congrArg v_iv f1
  have g2 : v_iv (n_v vs 4) = w_fi ws (n_v vs 0) 8 := congrArg v_iv f2
  have g4 : v_iv (n_v vs 5) = w_fi ws (n_v vs 0) 5 := congrArg v_iv f4
  have g20 : v_iv (n_v vs 4) = w_fi w2 (n_v vs 0) 6 := congrArg v_iv f20
  simp only [ad_6] at f25
  have h25 : v_iv (n_v vs 11) = w_ei w2 (w_ar ws (n_v vs 0) 0) (v_iv (n_v vs 4)) := f25
  simp only [ar_0_0_3] at f39
  have fe_0_5_1 : w_fi ws (n_v vs 0) 5 = w_fi w1 (n_v vs 0) 5 := by show v_iv (w_fd _ _ _) = v_iv (w_fd _ _ _); rw [s1.2, if_neg (fun e => absurd e.2 (by decide))]
  have fe_0_6_1 : w_fi ws (n_v vs 0) 6 = w_fi w1 (n_v vs 0) 6 := by show v_iv (w_fd _ _ _) = v_iv (w_fd _ _ _); rw [s1.2, if_neg (fun e => absurd e.2 (by decide))]
  have fe_0_8_1 : w_fi ws (n_v vs 0) 8 = w_fi w1 (n_v vs 0) 8 := by show v_iv (w_fd _ _ _) = v_iv (w_fd _ _ _); rw [s1.2, if_neg (fun e => absurd e.2 (by decide))]
  have fe_0_9_1 : w_fi ws (n_v vs 0) 9 = w_fi w1 (n_v vs 0) 9 := by show v_iv (w_fd _ _ _) = v_iv (w_fd _ _ _); rw [s1.2, if_neg (fun e => absurd e.2 (by decide))]
  have fe_0_5_2 : w_fi w1 (n_v vs 0) 5 = w_fi w2 (n_v vs 0) 5 := by show v_iv (w_fd _ _ _) = v_iv (w_fd _ _ _); rw [s2.2, if_neg (fun e => absurd e.2 (by decide))]
  have fe_0_7_2 : w_fi w1 (n_v vs 0) 7 = w_fi w2 (n_v vs 0) 7 := by show v_iv (w_fd _ _ _) = v_iv (w_fd _ _ _); rw [s2.2, if_neg (fun e => absurd e.2 (by decide))]
  have fe_0_8_2 : w_fi w1 (n_v vs 0) 8 = w_fi w2 (n_v vs 0) 8 := by show v_iv (w_fd _ _ _) = v_iv (w_fd _ _ _); rw [s2.2, if_neg (fun e => absurd e.2 (by decide))]
  have fe_0_9_2 : w_fi w1 (n_v vs 0) 9 = w_fi w2 (n_v vs 0) 9 := by show v_iv (w_fd _ _ _) = v_iv (w_fd _ _ _); rw [s2.2, if_neg (fun e => absurd e.2 (by decide))]
  have fe_0_5_3 : w_fi w2 (n_v vs 0) 5 = w_fi w3 (n_v vs 0) 5 := by show v_iv (w_fd _ _ _) = v_iv (w_fd _ _ _); rw [s3.2, if_neg (fun e => absurd e.2 (by decide))]
  have fe_0_6_3 : w_fi w2 (n_v vs 0) 6 = w_fi w3 (n_v vs 0) 6 := by show v_iv (w_fd _ _ _) = v_iv (w_fd _ _ _); rw [s3.2, if_neg (fun e => absurd e.2 (by decide))]
  have fe_0_8_3 : w_fi w2 (n_v vs 0) 8 = v_iv (n_v vs 4) := by show v_iv (w_fd _ _ _) = _; rw [s3.2, if_pos ⟨rfl, rfl⟩]
  have fe_0_9_3 : w_fi w2 (n_v vs 0) 9 = w_fi w3 (n_v vs 0) 9 := by show v_iv (w_fd _ _ _) = v_iv (w_fd _ _ _); rw [s3.2, if_neg (fun e => absurd e.2 (by decide))]
  have hE_0_0_1 : ∀ j : Int, w_ei ws (w_ar ws (n_v vs 0) 0) j = w_ei w1 (w_ar ws (n_v vs 0) 0) j := fun j => s1.1 _ _
  have hE_0_0_2 : ∀ j : Int, w_ei w1 (w_ar ws (n_v vs 0) 0) j = w_ei w2 (w_ar ws (n_v vs 0) 0) j := fun j => s2.1 _ _
  have hE_0_0_3 : ∀ j : Int, w_ei w2 (w_ar ws (n_v vs 0) 0) j = w_ei w3 (w_ar ws (n_v vs 0) 0) j := fun j => s3.1 _ _
  have hK_0_0 := elq_33 hD hth cr_0_0
  have kz_0_5 := fdq_207 hD hth r0
  have kz_0_6 := fdq_208 hD hth r0
  have kz_0_7 := fdq_297 hD hth r0
  have kz_0_8 := fdq_99 hD hth r0
  have kz_0_9 := fdq_296 hD hth r0
  have nf0 : fc_1 PRD (20, [0, 0, 1], [31, 1, 3, 1, 1, 7, 0, 1, 1, 9, -1, 0, 0]) ws (vs) := ⟨nf_in hl rfl, sgq_1528 (vc_Re_advance_17_0 (v_iv (n_v vs 1)) (w_fi ws (n_v vs 0) 7) (w_fi ws (n_v vs 0) 6) (w_fi ws (n_v vs 0) 8) (w_fi ws (n_v vs 0) 5) (w_fi ws (n_v vs 0) 9) (w_fi w1 (n_v vs 0) 9) (w_fi w2 (n_v vs 0) 6) (w_ei w2 (w_ar ws (n_v vs 0) 0)) (w_fi w2 (n_v vs 0) 9) (w_fi w2 (n_v vs 0) 5) (w_ei w3 (w_ar ws (n_v vs 0) 0)) (w_fi w3 (n_v vs 0) 9) (w_fi w3 (n_v vs 0) 5) (w_fi w3 (n_v vs 0) 6) (w_fi w1 (n_v vs 0) 5) (w_fi w1 (n_v vs 0) 6) (w_fi w1 (n_v vs 0) 8) (w_fi w1 (n_v vs 0) 7) (w_fi w2 (n_v vs 0) 7) (w_fi w2 (n_v vs 0) 8) (w_ei ws (w_ar ws (n_v vs 0) 0)) (w_ei w1 (w_ar ws (n_v vs 0) 0)) k1 f8 f9 fe_0_5_1 fe_0_6_1 fe_0_8_1 fe_0_9_1 fe_0_5_2 fe_0_7_2 fe_0_8_2 fe_0_9_2 fe_0_5_3 fe_0_6_3 fe_0_9_3 hE_0_0_1 hE_0_0_2 hE_0_0_3 hK_0_0 kz_0_5 kz_0_6 kz_0_7 kz_0_8 kz_0_9)⟩
  have nf1 : fc_1 PRD (20, [0, 0, 1], [31, 1, 3, 1, 1, 7, 0, -1, 1, 9, 1, 0, 0]) ws (vs) := ⟨nf_in hl rfl, sgq_1529 (vc_Re_advance_17_1 (v_iv (n_v vs 1)) (w_fi ws (n_v vs 0) 7) (w_fi ws (n_v vs 0) 6) (w_fi ws (n_v vs 0) 8) (w_fi ws (n_v vs 0) 5) (w_fi ws (n_v vs 0) 9) (w_fi w1 (n_v vs 0) 9) (w_fi w2 (n_v vs 0) 6) (w_ei w2 (w_ar ws (n_v vs 0) 0)) (w_fi w2 (n_v vs 0) 9) (w_fi w2 (n_v vs 0) 5) (w_ei w3 (w_ar ws (n_v vs 0) 0)) (w_fi w3 (n_v vs 0) 9) (w_fi w3 (n_v vs 0) 5) (w_fi w3 (n_v vs 0) 6) (w_fi w1 (n_v vs 0) 5) (w_fi w1 (n_v vs 0) 6) (w_fi w1 (n_v vs 0) 8) (w_fi w1 (n_v vs 0) 7) (w_fi w2 (n_v vs 0) 7) (w_fi w2 (n_v vs 0) 8) (w_ei ws (w_ar ws (n_v vs 0) 0)) (w_ei w1 (w_ar ws (n_v vs 0) 0)) k1 f8 f9 fe_0_5_1 fe_0_6_1 fe_0_8_1 fe_0_9_1 fe_0_5_2 fe_0_7_2 fe_0_8_2 fe_0_9_2 fe_0_5_3 fe_0_6_3 fe_0_9_3 hE_0_0_1 hE_0_0_2 hE_0_0_3 hK_0_0 kz_0_5 kz_0_6 kz_0_7 kz_0_8 kz_0_9)⟩
  have nf2 : fc_1 PRD (20, [0, 0, 0, 0], [31, 1, -3, -1, 1, 7, 4008, 1, 1, 6, -1, 1, 8, 2000, 1, 7]) ws (vs) := ⟨nf_in hl rfl, sgq_1530 (vc_Re_advance_17_2 (v_iv (n_v vs 4)) (v_iv (n_v vs 11)) (w_fi ws (n_v vs 0) 7) (w_fi ws (n_v vs 0) 6) (w_fi ws (n_v vs 0) 8) (w_fi ws (n_v vs 0) 5) (w_fi ws (n_v vs 0) 9) (w_fi w1 (n_v vs 0) 9) (w_fi w2 (n_v vs 0) 6) (w_ei w2 (w_ar ws (n_v vs 0) 0)) (w_fi w2 (n_v vs 0) 9) (w_fi w2 (n_v vs 0) 5) (w_ei w3 (w_ar ws (n_v vs 0) 0)) (w_fi w3 (n_v vs 0) 9) (w_fi w3 (n_v vs 0) 5) (w_fi w3 (n_v vs 0) 6) (w_fi w1 (n_v vs 0) 5) (w_fi w1 (n_v vs 0) 6) (w_fi w1 (n_v vs 0) 8) (w_fi w1 (n_v vs 0) 7) (w_fi w2 (n_v vs 0) 7) (w_fi w2 (n_v vs 0) 8) (w_ei ws (w_ar ws (n_v vs 0) 0)) (w_ei w1 (w_ar ws (n_v vs 0) 0)) k4 k11 g0 h25 fe_0_5_1 fe_0_6_1 fe_0_8_1 fe_0_9_1 fe_0_5_2 fe_0_7_2 fe_0_8_2 fe_0_9_2 fe_0_5_3 fe_0_6_3 fe_0_9_3 hE_0_0_1 hE_0_0_2 hE_0_0_3 hK_0_0 kz_0_5 kz_0_6 kz_0_7 kz_0_8 kz_0_9)⟩
  have nf3 : fc_1 PRD (20, [0, 0], [30, 0, 1, 1, 8, -1, 1, 6]) ws (vs) := ⟨nf_in hl rfl, sgq_1531 (vc_Re_advance_17_3 (v_iv (n_v vs 4)) (v_iv (n_v vs 15)) (w_fi ws (n_v vs 0) 6) (w_fi ws (n_v vs 0) 8) (w_fi ws (n_v vs 0) 5) (w_fi ws (n_v vs 0) 9) (w_fi w1 (n_v vs 0) 9) (w_fi w2 (n_v vs 0) 6) (w_ei w2 (w_ar ws (n_v vs 0) 0)) (w_fi w2 (n_v vs 0) 9) (w_fi w2 (n_v vs 0) 5) (w_ei w3 (w_ar ws (n_v vs 0) 0)) (w_fi w3 (n_v vs 0) 9) (w_fi w3 (n_v vs 0) 5) (w_fi w3 (n_v vs 0) 6) (w_fi w1 (n_v vs 0) 5) (w_fi w1 (n_v vs 0) 6) (w_fi w1 (n_v vs 0) 8) (w_fi w1 (n_v vs 0) 7) (w_fi w2 (n_v vs 0) 7) (w_fi w2 (n_v vs 0) 8) (w_ei ws (w_ar ws (n_v vs 0) 0)) (w_ei w1 (w_ar ws (n_v vs 0) 0)) k4 k15 d0 g1 g2 fe_0_5_1 fe_0_6_1 fe_0_8_1 fe_0_9_1 fe_0_5_2 fe_0_7_2 fe_0_8_2 fe_0_9_2 fe_0_5_3 fe_0_6_3 fe_0_9_3 hE_0_0_1 hE_0_0_2 hE_0_0_3 hK_0_0 kz_0_5 kz_0_6 kz_0_8 kz_0_9)⟩
  have nf4 : fc_1 PRD (20, [0, 2], [60, 5, 1, 1072, 5, 6, 7, 8, 9, 0]) ws (vs) := ⟨nf_in hl rfl, sgq_1532 (vc_Re_advance_17_4 (v_iv (n_v vs 2)) (v_iv (n_v vs 4)) (v_iv (n_v vs 5)) (v_iv (n_v vs 11)) (v_iv (n_v vs 15)) (v_iv (n_v vs 16)) (w_fi ws (n_v vs 0) 7) (w_fi ws (n_v vs 0) 6) (w_fi ws (n_v vs 0) 8) (w_fi ws (n_v vs 0) 5) (w_fi ws (n_v vs 0) 9) (w_fi w1 (n_v vs 0) 9) (w_fi w2 (n_v vs 0) 6) (w_ei w2 (w_ar ws (n_v vs 0) 0)) (w_fi w2 (n_v vs 0) 9) (w_fi w2 (n_v vs 0) 5) (w_ei w3 (w_ar ws (n_v vs 0) 0)) (w_fi w3 (n_v vs 0) 9) (w_fi w3 (n_v vs 0) 5) (w_fi w3 (n_v vs 0) 6) (w_fi w1 (n_v vs 0) 5) (w_fi w1 (n_v vs 0) 6) (w_fi w1 (n_v vs 0) 8) (w_fi w1 (n_v vs 0) 7) (w_fi w2 (n_v vs 0) 7) (w_fi w2 (n_v vs 0) 8) (w_ei ws (w_ar ws (n_v vs 0) 0)) (w_ei w1 (w_ar ws (n_v vs 0) 0)) k2 k4 k5 k11 k15 k16 d0 g0 g1 g2 g4 (shm_142 f12) (shm_454 f13) g20 h25 (shm_6 f36) f39 fe_0_5_1 fe_0_6_1 fe_0_8_1 fe_0_9_1 fe_0_5_2 fe_0_7_2 fe_0_8_2 fe_0_9_2 fe_0_5_3 fe_0_6_3 fe_0_8_3 fe_0_9_3 hE_0_0_1 hE_0_0_2 hE_0_0_3 hK_0_0 kz_0_5 kz_0_6 kz_0_7 kz_0_8 kz_0_9)⟩
  have nf5 : fc_1 PRD (20, [2, 0], [30, 0, 1, 0, 0, -1, 1, 6]) ws (vs) := ⟨nf_in hl rfl, sgq_1527 (vc_Re_advance_17_5 (v_iv (n_v vs 2)) (v_iv (n_v vs 4)) (v_iv (n_v vs 15)) (w_fi ws (n_v vs 0) 6) (w_fi ws (n_v vs 0) 8) (w_fi ws (n_v vs 0) 5) (w_fi ws (n_v vs 0) 9) (w_fi w1 (n_v vs 0) 9) (w_fi w2 (n_v vs 0) 6) (w_ei w2 (w_ar ws (n_v vs 0) 0)) (w_fi w2 (n_v vs 0) 9) (w_fi w2 (n_v vs 0) 5) (w_ei w3 (w_ar ws (n_v vs 0) 0)) (w_fi w3 (n_v vs 0) 9) (w_fi w3 (n_v vs 0) 5) (w_fi w3 (n_v vs 0) 6) (w_fi w1 (n_v vs 0) 5) (w_fi w1 (n_v vs 0) 6) (w_fi w1 (n_v vs 0) 8) (w_fi w1 (n_v vs 0) 7) (w_fi w2 (n_v vs 0) 7) (w_fi w2 (n_v vs 0) 8) (w_ei ws (w_ar ws (n_v vs 0) 0)) (w_ei w1 (w_ar ws (n_v vs 0) 0)) k2 k4 k15 d0 g1 g2 g20 f30 fe_0_5_1 fe_0_6_1 fe_0_8_1 fe_0_9_1 fe_0_5_2 fe_0_7_2 fe_0_8_2 fe_0_9_2 fe_0_5_3 fe_0_6_3 fe_0_9_3 hE_0_0_1 hE_0_0_2 hE_0_0_3 hK_0_0 kz_0_5 kz_0_6 kz_0_8 kz_0_9)⟩
  refine ⟨(fun _ h => (by cases h)), [], trivial, ?_, (fun _ h => (by cases h))⟩
  rw [List.append_nil]
  exact List.forall_mem_cons.mpr ⟨⟨show (20 : Nat) < 100 from by decide, nf0⟩, List.forall_mem_cons.mpr ⟨⟨show (20 : Nat) < 100 from by decide, nf1⟩, List.forall_mem_cons.mpr ⟨⟨show (20 : Nat) < 100 from by decide, nf2⟩, List.forall_mem_cons.mpr ⟨⟨show (20 : Nat) < 100 from by decide, nf3⟩, List.forall_mem_cons.mpr ⟨⟨show (20 : Nat) < 100 from by decide, nf4⟩, List.forall_mem_cons.mpr ⟨⟨show (20 : Nat) < 100 from by decide, nf5⟩, (fun _ h => (by cases h))⟩⟩⟩⟩⟩⟩
set_option maxHeartbeats 4000000 in
theorem vc_Re_advance_18_0 (x4 : Int) (begin_0 : Int) (end_0 : Int) (next_0 : Int) (tape_0 : Int → Int) (tape_1 : Int → Int) (number_1 : Int) (end_1 : Int) (next_1 : Int) (tape_2 : Int → Int) (number_2 : Int) (end_2 : Int) (next_2 : Int) (begin_1 : Int) (k4 : 0 ≤ x4 ∧ x4 ≤ 1999) (g1 : x4 = begin_0) (g4 : x4 = next_0) (fe_0_5_1 : end_0 = end_1) (fe_0_6_1 : next_0 = next_1) (fe_0_8_1 : begin_0 = begin_1) (fe_0_5_2 : end_1 = end_2) (fe_0_6_2 : next_1 = next_2) (fe_0_9_2 : number_1 = number_2) (hE_0_0_1 : ∀ j : Int, tape_0 j = tape_1 j) (hE_0_0_2 : ∀ j : Int, tape_1 j = tape_2 j) (hK_0_0 : ∀ j : Int, 0 ≤ j → j < 2000 → (-128) ≤ tape_0 j ∧ tape_0 j ≤ 127) (kz_0_5 : 0 ≤ end_0 ∧ end_0 ≤ 2000) (kz_0_6 : 0 ≤ next_0 ∧ next_0 ≤ 2000) (kz_0_8 : 0 ≤ begin_0 ∧ begin_0 ≤ 2000) : 1 * begin_0 + ((-1) * next_0 + 0) ≤ 0 := by
  subst fe_0_5_1
  subst fe_0_6_1
  subst fe_0_8_1
  subst fe_0_5_2
  subst fe_0_6_2
  subst fe_0_9_2
  have e_hE_0_0_1 := funext hE_0_0_1; subst e_hE_0_0_1
  have e_hE_0_0_2 := funext hE_0_0_2; subst e_hE_0_0_2
  first | with_reducible assumption | ((try and_intros) <;> first | with_reducible assumption | (clear hE_0_0_1 hE_0_0_2 hK_0_0; omega)) | omega
set_option maxHeartbeats 4000000 in
theorem vc_Re_advance_18_1 (x2 : Int) (x4 : Int) (x5 : Int) (x11 : Int) (x14 : Int) (number_0 : Int) (begin_0 : Int) (end_0 : Int) (next_0 : Int) (tape_0 : Int → Int) (tape_1 : Int → Int) (number_1 : Int) (end_1 : Int) (next_1 : Int) (tape_2 : Int → Int) (number_2 : Int) (end_2 : Int) (next_2 : Int) (begin_1 : Int) (k2 : 0 ≤ x2 ∧ x2 ≤ 2000) (k4 : 0 ≤ x4 ∧ x4 ≤ 1999) (k5 : 1 ≤ x5 ∧ x5 ≤ 2000) (k11 : 48 ≤ x11 ∧ x11 ≤ 57) (k14 : 0 ≤ x14 ∧ x14 ≤ 0) (g0 : x14 = number_0) (g1 : x4 = begin_0) (g3 : x5 = end_0) (g4 : x4 = next_0) (h15 : x11 = tape_1 (x4)) (f26 : x4 < x5) (f29 : CX0 (end_2) (next_2) (tape_2) (x2)) (fe_0_5_1 : end_0 = end_1) (fe_0_6_1 : next_0 = next_1) (fe_0_8_1 : begin_0 = begin_1) (fe_0_5_2 : end_1 = end_2) (fe_0_6_2 : next_1 = next_2) (fe_0_8_2 : begin_1 = x4) (fe_0_9_2 : number_1 = number_2) (hE_0_0_1 : ∀ j : Int, tape_0 j = tape_1 j) (hE_0_0_2 : ∀ j : Int, tape_1 j = tape_2 j) (hK_0_0 : ∀ j : Int, 0 ≤ j → j < 2000 → (-128) ≤ tape_0 j ∧ tape_0 j ≤ 127) (kz_0_5 : 0 ≤ end_0 ∧ end_0 ≤ 2000) (kz_0_6 : 0 ≤ next_0 ∧ next_0 ≤ 2000) (kz_0_8 : 0 ≤ begin_0 ∧ begin_0 ≤ 2000) (kz_0_9 : (-176) ≤ number_0 ∧ number_0 ≤ 1000000) : CXD (end_0) (next_0) (begin_0) (number_0) (tape_0) (x2) := by
  subst fe_0_5_1
  subst fe_0_6_1
  subst fe_0_8_1
  subst fe_0_5_2
  subst fe_0_6_2
  subst fe_0_9_2
  have e_hE_0_0_1 := funext hE_0_0_1; subst e_hE_0_0_1
  have e_hE_0_0_2 := funext hE_0_0_2; subst e_hE_0_0_2
  first | subst g0 | skip
  first | subst g1 | skip
  first | subst g3 | skip
  first | subst g4 | skip
  first
    | exact cxd_s (by assumption) ‹CXD _ _ _ _ _ _› (by omega) (by unfold cIG; omega) (by omega) (by omega)
    | exact cxd_0 (by assumption) (cx_1 (by assumption) ‹CX0 _ _ _ _› (fun q => by omega) (by omega)) (by omega) (by unfold cIG; omega) (by omega)
def o_Re_advance_18 : or_T := (171, 15, [(0, (2, 0, 0, [8])), (2, (0, 0, 2000, [])), (4, (0, 0, 1999, [])), (5, (0, 1, 2000, [])), (11, (0, 48, 57, [])), (14, (0, 0, 0, []))], [(9, [14, 3], [9]), (9, [4, 3], [8]), (9, [6, 3], [0]), (9, [5, 3], [5]), (9, [4, 3], [6]), (24, [0, 3], []), (101, [3, 14], [9]), (10, [11, 6, 4], []), (101, [3, 4], [8]), (7, [4, 5], [2]), (20, [3, 2], [60, 2, 1, 1074, 5, 6, 0])], [], [], [(20, [3, 3], [30, 0, 1, 1, 8, -1, 1, 6]), (20, [3, 2], [60, 4, 1, 1077, 5, 6, 8, 9, 0])], [], [])
theorem oo_Re_advance_18 {kA : Nat → ClassId} : or_ok PRD kA GG o_Re_advance_18 := by
  refine or_mk fun A ta ws vs hD hth hl => ?_
  intro t0 r0 t2 k2 t4 k4 t5 k5 t11 k11 t14 k14 f0 f1 f2 f3 f4 f9 ta1 w1 le1 s1 f15 ta2 w2 le2 s2 f26 f29
  replace f0 := shm_119 f0
  replace f1 := shm_293 f1
  replace f2 := shm_163 f2
  replace f3 := shm_110 f3
  replace f4 := shm_111 f4
  replace f9 := shm_5 f9
  have s1 : (∀ b j, w_el ws b j = w_el w1 b j) ∧ ∀ b j, w_fd ws b j = if b = v_ad (n_v vs 3) ∧ j = 9 then n_v vs 14 else w_fd w1 b j := s1.2
  replace f15 := shm_107 f15
  have s2 : (∀ b j, w_el w1 b j = w_el w2 b j) ∧ ∀ b j, w_fd w1 b j = if b = v_ad (n_v vs 3) ∧ j = 8 then n_v vs 4 else w_fd w2 b j := s2.2
  replace f26 := shm_6 f26
  replace f29 := shm_1526 f29
  have q3 : n_v vs 3 = n_v vs 0 := f9.symm
  simp only [q3] at f0 f1 f2 f3 f4
  rw [q3] at s1
  rw [q3] at s2
  simp only [q3] at f29
  have ar_0_0_1 : w_ar w1 (n_v vs 0) 0 = w_ar ws (n_v vs 0) 0 := by show v_ad (w_fd w1 _ _) = v_ad (w_fd ws _ _); rw [s1.2, if_neg (fun e => absurd e.2 (by decide))]
  have ar_0_0_2 : w_ar w2 (n_v vs 0) 0 = w_ar ws (n_v vs 0) 0 := by rw [← ar_0_0_1]; show v_ad (w_fd w2 _ _) = v_ad (w_fd w1 _ _); rw [s2.2, if_neg (fun e => absurd e.2 (by decide))]
  have cr_0_0 := fdq_95 hD hth r0
  have ad_6 : v_ad (n_v vs 6) = w_ar ws (n_v vs 0) 0 := congrArg v_ad f2
  have g0 : v_iv (n_v vs 14) = w_fi ws (n_v vs 0) 9 := congrArg v_iv f0
  have g1 : v_iv (n_v vs 4) = w_fi ws (n_v vs 0) 8 := congrArg v_iv f1
  have g3 : v_iv (n_v vs 5) = w_fi ws (n_v vs 0) 5 := congrArg v_iv f3
  have g4 : v_iv (n_v vs 4) = w_fi ws (n_v vs 0) 6 := congrArg v_iv f4
  simp only [ad_6] at f15
  have h15 : v_iv (n_v vs 11) = w_ei w1 (w_ar ws (n_v vs 0) 0) (v_iv (n_v vs 4)) := f15
  simp only [ar_0_0_2] at f29
  have fe_0_5_1 : w_fi ws (n_v vs 0) 5 = w_fi w1 (n_v vs 0) 5 := by show v_iv (w_fd _ _ _) = v_iv (w_fd _ _ _); rw [s1.2, if_neg (fun e => absurd e.2 (by decide))]
  have fe_0_6_1 : w_fi ws (n_v vs 0) 6 = w_fi w1 (n_v vs 0) 6 := by show v_iv (w_fd _ _ _) = v_iv (w_fd _ _ _); rw [s1.2, if_neg (fun e => absurd e.2 (by decide))]
  have fe_0_8_1 : w_fi ws (n_v vs 0) 8 = w_fi w1 (n_v vs 0) 8 := by show v_iv (w_fd _ _ _) = v_iv (w_fd _ _ _); rw [s1.2, if_neg (fun e => absurd e.2 (by decide))]
  have fe_0_5_2 : w_fi w1 (n_v vs 0) 5 = w_fi w2 (n_v vs 0) 5 := by show v_iv (w_fd _ _ _) = v_iv (w_fd _ _ _); rw [s2.2, if_neg (fun e => absurd e.2 (by decide))]
  have fe_0_6_2 : w_fi w1 (n_v vs 0) 6 = w_fi w2 (n_v vs 0) 6 := by show v_iv (w_fd _ _ _) = v_iv (w_fd _ _ _); rw [s2.2, if_neg (fun e => absurd e.2 (by decide))]
  have fe_0_8_2 : w_fi w1 (n_v vs 0) 8 = v_iv (n_v vs 4) := by show v_iv (w_fd _ _ _) = _; rw [s2.2, if_pos ⟨rfl, rfl⟩]
  have fe_0_9_2 : w_fi w1 (n_v vs 0) 9 = w_fi w2 (n_v vs 0) 9 := by show v_iv (w_fd _ _ _) = v_iv (w_fd _ _ _); rw [s2.2, if_neg (fun e => absurd e.2 (by decide))]
  have hE_0_0_1 : ∀ j : Int, w_ei ws (w_ar ws (n_v vs 0) 0) j = w_ei w1 (w_ar ws (n_v vs 0) 0) j := fun j => s1.1 _ _
  have hE_0_0_2 : ∀ j : Int, w_ei w1 (w_ar ws (n_v vs 0) 0) j = w_ei w2 (w_ar ws (n_v vs 0) 0) j := fun j => s2.1 _ _
  have hK_0_0 := elq_33 hD hth cr_0_0
  have kz_0_5 := fdq_207 hD hth r0
  have kz_0_6 := fdq_208 hD hth r0
  have kz_0_8 := fdq_99 hD hth r0
  have kz_0_9 := fdq_296 hD hth r0
  have nf0 : fc_1 PRD (20, [3, 3], [30, 0, 1, 1, 8, -1, 1, 6]) ws (vs) := by
    refine ⟨nf_in hl rfl, sgq_1531 ?_⟩
    · show 1 * w_fi ws (n_v vs 3) 8 + ((-1) * w_fi ws (n_v vs 3) 6 + 0) ≤ 0
      rw [q3]
      exact vc_Re_advance_18_0 (v_iv (n_v vs 4)) (w_fi ws (n_v vs 0) 8) (w_fi ws (n_v vs 0) 5) (w_fi ws (n_v vs 0) 6) (w_ei ws (w_ar ws (n_v vs 0) 0)) (w_ei w1 (w_ar ws (n_v vs 0) 0)) (w_fi w1 (n_v vs 0) 9) (w_fi w1 (n_v vs 0) 5) (w_fi w1 (n_v vs 0) 6) (w_ei w2 (w_ar ws (n_v vs 0) 0)) (w_fi w2 (n_v vs 0) 9) (w_fi w2 (n_v vs 0) 5) (w_fi w2 (n_v vs 0) 6) (w_fi w1 (n_v vs 0) 8) k4 g1 g4 fe_0_5_1 fe_0_6_1 fe_0_8_1 fe_0_5_2 fe_0_6_2 fe_0_9_2 hE_0_0_1 hE_0_0_2 hK_0_0 kz_0_5 kz_0_6 kz_0_8
  have nf1 : fc_1 PRD (20, [3, 2], [60, 4, 1, 1077, 5, 6, 8, 9, 0]) ws (vs) := by
    refine ⟨nf_in hl rfl, sgq_1533 ?_⟩
    · show CXD (w_fi ws (n_v vs 3) 5) (w_fi ws (n_v vs 3) 6) (w_fi ws (n_v vs 3) 8) (w_fi ws (n_v vs 3) 9) (w_ei ws (w_ar ws (n_v vs 3) 0)) (v_iv (n_v vs 2))
      rw [q3]
      exact vc_Re_advance_18_1 (v_iv (n_v vs 2)) (v_iv (n_v vs 4)) (v_iv (n_v vs 5)) (v_iv (n_v vs 11)) (v_iv (n_v vs 14)) (w_fi ws (n_v vs 0) 9) (w_fi ws (n_v vs 0) 8) (w_fi ws (n_v vs 0) 5) (w_fi ws (n_v vs 0) 6) (w_ei ws (w_ar ws (n_v vs 0) 0)) (w_ei w1 (w_ar ws (n_v vs 0) 0)) (w_fi w1 (n_v vs 0) 9) (w_fi w1 (n_v vs 0) 5) (w_fi w1 (n_v vs 0) 6) (w_ei w2 (w_ar ws (n_v vs 0) 0)) (w_fi w2 (n_v vs 0) 9) (w_fi w2 (n_v vs 0) 5) (w_fi w2 (n_v vs 0) 6) (w_fi w1 (n_v vs 0) 8) k2 k4 k5 k11 k14 g0 g1 g3 g4 h15 f26 f29 fe_0_5_1 fe_0_6_1 fe_0_8_1 fe_0_5_2 fe_0_6_2 fe_0_8_2 fe_0_9_2 hE_0_0_1 hE_0_0_2 hK_0_0 kz_0_5 kz_0_6 kz_0_8 kz_0_9
  refine ⟨(fun _ h => (by cases h)), [], trivial, ?_, (fun _ h => (by cases h))⟩
  rw [List.append_nil]
  exact List.forall_mem_cons.mpr ⟨⟨show (20 : Nat) < 100 from by decide, nf0⟩, List.forall_mem_cons.mpr ⟨⟨show (20 : Nat) < 100 from by decide, nf1⟩, (fun _ h => (by cases h))⟩⟩
set_option maxHeartbeats 4000000 in
theorem vc_Re_advance_19_0 (x1 : Int) (x17 : Int) (kind_0 : Int) (next_0 : Int) (begin_0 : Int) (end_0 : Int) (number_0 : Int) (number_1 : Int) (next_2 : Int) (tape_2 : Int → Int) (number_2 : Int) (end_2 : Int) (tape_3 : Int → Int) (number_3 : Int) (end_3 : Int) (next_3 : Int) (end_1 : Int) (next_1 : Int) (begin_1 : Int) (kind_1 : Int) (kind_2 : Int) (begin_2 : Int) (tape_0 : Int → Int) (tape_1 : Int → Int) (k1 : (-2147483648) ≤ x1 ∧ x1 ≤ 1000000) (k17 : 1 ≤ x17 ∧ x17 ≤ 1) (g0 : x17 = kind_0) (fe_0_5_1 : end_0 = end_1) (fe_0_6_1 : next_0 = next_1) (fe_0_8_1 : begin_0 = begin_1) (fe_0_9_1 : number_0 = number_1) (fe_0_5_2 : end_1 = end_2) (fe_0_7_2 : kind_1 = kind_2) (fe_0_8_2 : begin_1 = begin_2) (fe_0_9_2 : number_1 = number_2) (fe_0_5_3 : end_2 = end_3) (fe_0_6_3 : next_2 = next_3) (fe_0_9_3 : number_2 = number_3) (hE_0_0_1 : ∀ j : Int, tape_0 j = tape_1 j) (hE_0_0_2 : ∀ j : Int, tape_1 j = tape_2 j) (hE_0_0_3 : ∀ j : Int, tape_2 j = tape_3 j) (hK_0_0 : ∀ j : Int, 0 ≤ j → j < 2000 → (-128) ≤ tape_0 j ∧ tape_0 j ≤ 127) (kz_0_5 : 0 ≤ end_0 ∧ end_0 ≤ 2000) (kz_0_6 : 0 ≤ next_0 ∧ next_0 ≤ 2000) (kz_0_7 : (-128) ≤ kind_0 ∧ kind_0 ≤ 127) (kz_0_8 : 0 ≤ begin_0 ∧ begin_0 ≤ 2000) (kz_0_9 : (-176) ≤ number_0 ∧ number_0 ≤ 1000000) : (1 * kind_0 + 0 ≤ 3) ∨ (1 * number_0 + ((-1) * x1 + 0) ≤ 0) := by
  subst fe_0_5_1
  subst fe_0_6_1
  subst fe_0_8_1
  subst fe_0_9_1
  subst fe_0_5_2
  subst fe_0_7_2
  subst fe_0_8_2
  subst fe_0_9_2
  subst fe_0_5_3
  subst fe_0_6_3
  subst fe_0_9_3
  have e_hE_0_0_1 := funext hE_0_0_1; subst e_hE_0_0_1
  have e_hE_0_0_2 := funext hE_0_0_2; subst e_hE_0_0_2
  have e_hE_0_0_3 := funext hE_0_0_3; subst e_hE_0_0_3
  first | with_reducible assumption | ((try and_intros) <;> first | with_reducible assumption | (clear hE_0_0_1 hE_0_0_2 hE_0_0_3 hK_0_0; omega)) | omega
set_option maxHeartbeats 4000000 in
theorem vc_Re_advance_19_1 (x1 : Int) (x17 : Int) (kind_0 : Int) (next_0 : Int) (begin_0 : Int) (end_0 : Int) (number_0 : Int) (number_1 : Int) (next_2 : Int) (tape_2 : Int → Int) (number_2 : Int) (end_2 : Int) (tape_3 : Int → Int) (number_3 : Int) (end_3 : Int) (next_3 : Int) (end_1 : Int) (next_1 : Int) (begin_1 : Int) (kind_1 : Int) (kind_2 : Int) (begin_2 : Int) (tape_0 : Int → Int) (tape_1 : Int → Int) (k1 : (-2147483648) ≤ x1 ∧ x1 ≤ 1000000) (k17 : 1 ≤ x17 ∧ x17 ≤ 1) (g0 : x17 = kind_0) (fe_0_5_1 : end_0 = end_1) (fe_0_6_1 : next_0 = next_1) (fe_0_8_1 : begin_0 = begin_1) (fe_0_9_1 : number_0 = number_1) (fe_0_5_2 : end_1 = end_2) (fe_0_7_2 : kind_1 = kind_2) (fe_0_8_2 : begin_1 = begin_2) (fe_0_9_2 : number_1 = number_2) (fe_0_5_3 : end_2 = end_3) (fe_0_6_3 : next_2 = next_3) (fe_0_9_3 : number_2 = number_3) (hE_0_0_1 : ∀ j : Int, tape_0 j = tape_1 j) (hE_0_0_2 : ∀ j : Int, tape_1 j = tape_2 j) (hE_0_0_3 : ∀ j : Int, tape_2 j = tape_3 j) (hK_0_0 : ∀ j : Int, 0 ≤ j → j < 2000 → (-128) ≤ tape_0 j ∧ tape_0 j ≤ 127) (kz_0_5 : 0 ≤ end_0 ∧ end_0 ≤ 2000) (kz_0_6 : 0 ≤ next_0 ∧ next_0 ≤ 2000) (kz_0_7 : (-128) ≤ kind_0 ∧ kind_0 ≤ 127) (kz_0_8 : 0 ≤ begin_0 ∧ begin_0 ≤ 2000) (kz_0_9 : (-176) ≤ number_0 ∧ number_0 ≤ 1000000) : (1 * kind_0 + 0 ≤ 3) ∨ ((-1) * number_0 + (1 * x1 + 0) ≤ 0) := by
  subst fe_0_5_1
  subst fe_0_6_1
  subst fe_0_8_1
  subst fe_0_9_1
  subst fe_0_5_2
  subst fe_0_7_2
  subst fe_0_8_2
  subst fe_0_9_2
  subst fe_0_5_3
  subst fe_0_6_3
  subst fe_0_9_3
  have e_hE_0_0_1 := funext hE_0_0_1; subst e_hE_0_0_1
  have e_hE_0_0_2 := funext hE_0_0_2; subst e_hE_0_0_2
  have e_hE_0_0_3 := funext hE_0_0_3; subst e_hE_0_0_3
  first | with_reducible assumption | ((try and_intros) <;> first | with_reducible assumption | (clear hE_0_0_1 hE_0_0_2 hE_0_0_3 hK_0_0; omega)) | omega
set_option maxHeartbeats 4000000 in
theorem vc_Re_advance_19_2 (x4 : Int) (x15 : Int) (x17 : Int) (kind_0 : Int) (next_0 : Int) (begin_0 : Int) (end_0 : Int) (number_0 : Int) (number_1 : Int) (next_2 : Int) (tape_2 : Int → Int) (number_2 : Int) (end_2 : Int) (tape_3 : Int → Int) (number_3 : Int) (end_3 : Int) (next_3 : Int) (end_1 : Int) (next_1 : Int) (begin_1 : Int) (kind_1 : Int) (kind_2 : Int) (begin_2 : Int) (tape_0 : Int → Int) (tape_1 : Int → Int) (k4 : 0 ≤ x4 ∧ x4 ≤ 1999) (k15 : 1 ≤ x15 ∧ x15 ≤ 2000) (k17 : 1 ≤ x17 ∧ x17 ≤ 1) (d0 : x4 + 1 ≤ x15 ∧ x15 ≤ x4 + 1) (g0 : x17 = kind_0) (g1 : x15 = next_0) (g2 : x4 = begin_0) (fe_0_5_1 : end_0 = end_1) (fe_0_6_1 : next_0 = next_1) (fe_0_8_1 : begin_0 = begin_1) (fe_0_9_1 : number_0 = number_1) (fe_0_5_2 : end_1 = end_2) (fe_0_7_2 : kind_1 = kind_2) (fe_0_8_2 : begin_1 = begin_2) (fe_0_9_2 : number_1 = number_2) (fe_0_5_3 : end_2 = end_3) (fe_0_6_3 : next_2 = next_3) (fe_0_9_3 : number_2 = number_3) (hE_0_0_1 : ∀ j : Int, tape_0 j = tape_1 j) (hE_0_0_2 : ∀ j : Int, tape_1 j = tape_2 j) (hE_0_0_3 : ∀ j : Int, tape_2 j = tape_3 j) (hK_0_0 : ∀ j : Int, 0 ≤ j → j < 2000 → (-128) ≤ tape_0 j ∧ tape_0 j ≤ 127) (kz_0_5 : 0 ≤ end_0 ∧ end_0 ≤ 2000) (kz_0_6 : 0 ≤ next_0 ∧ next_0 ≤ 2000) (kz_0_7 : (-128) ≤ kind_0 ∧ kind_0 ≤ 127) (kz_0_8 : 0 ≤ begin_0 ∧ begin_0 ≤ 2000) (kz_0_9 : (-176) ≤ number_0 ∧ number_0 ≤ 1000000) : ((-1) * kind_0 + 0 ≤ (-3)) ∨ (1 * next_0 + ((-1) * begin_0 + (2000 * kind_0 + 0)) ≤ 4008) := by
  subst fe_0_5_1
  subst fe_0_6_1
  subst fe_0_8_1
  subst fe_0_9_1
  subst fe_0_5_2
  subst fe_0_7_2
  subst fe_0_8_2
  subst fe_0_9_2
  subst fe_0_5_3
  subst fe_0_6_3
  subst fe_0_9_3
  have e_hE_0_0_1 := funext hE_0_0_1; subst e_hE_0_0_1
  have e_hE_0_0_2 := funext hE_0_0_2; subst e_hE_0_0_2
  have e_hE_0_0_3 := funext hE_0_0_3; subst e_hE_0_0_3
  first | with_reducible assumption | ((try and_intros) <;> first | with_reducible assumption | (clear hE_0_0_1 hE_0_0_2 hE_0_0_3 hK_0_0; omega)) | omega
set_option maxHeartbeats 4000000 in
theorem vc_Re_advance_19_3 (x4 : Int) (x15 : Int) (next_0 : Int) (begin_0 : Int) (end_0 : Int) (number_0 : Int) (number_1 : Int) (next_2 : Int) (tape_2 : Int → Int) (number_2 : Int) (end_2 : Int) (tape_3 : Int → Int) (number_3 : Int) (end_3 : Int) (next_3 : Int) (end_1 : Int) (next_1 : Int) (begin_1 : Int) (kind_1 : Int) (kind_2 : Int) (begin_2 : Int) (tape_0 : Int → Int) (tape_1 : Int → Int) (k4 : 0 ≤ x4 ∧ x4 ≤ 1999) (k15 : 1 ≤ x15 ∧ x15 ≤ 2000) (d0 : x4 + 1 ≤ x15 ∧ x15 ≤ x4 + 1) (g1 : x15 = next_0) (g2 : x4 = begin_0) (fe_0_5_1 : end_0 = end_1) (fe_0_6_1 : next_0 = next_1) (fe_0_8_1 : begin_0 = begin_1) (fe_0_9_1 : number_0 = number_1) (fe_0_5_2 : end_1 = end_2) (fe_0_7_2 : kind_1 = kind_2) (fe_0_8_2 : begin_1 = begin_2) (fe_0_9_2 : number_1 = number_2) (fe_0_5_3 : end_2 = end_3) (fe_0_6_3 : next_2 = next_3) (fe_0_9_3 : number_2 = number_3) (hE_0_0_1 : ∀ j : Int, tape_0 j = tape_1 j) (hE_0_0_2 : ∀ j : Int, tape_1 j = tape_2 j) (hE_0_0_3 : ∀ j : Int, tape_2 j = tape_3 j) (hK_0_0 : ∀ j : Int, 0 ≤ j → j < 2000 → (-128) ≤ tape_0 j ∧ tape_0 j ≤ 127) (kz_0_5 : 0 ≤ end_0 ∧ end_0 ≤ 2000) (kz_0_6 : 0 ≤ next_0 ∧ next_0 ≤ 2000) (kz_0_8 : 0 ≤ begin_0 ∧ begin_0 ≤ 2000) (kz_0_9 : (-176) ≤ number_0 ∧ number_0 ≤ 1000000) : 1 * begin_0 + ((-1) * next_0 + 0) ≤ 0 := by
  subst fe_0_5_1
  subst fe_0_6_1
  subst fe_0_8_1
  subst fe_0_9_1
  subst fe_0_5_2
  subst fe_0_7_2
  subst fe_0_8_2
  subst fe_0_9_2
  subst fe_0_5_3
  subst fe_0_6_3
  subst fe_0_9_3
  have e_hE_0_0_1 := funext hE_0_0_1; subst e_hE_0_0_1
  have e_hE_0_0_2 := funext hE_0_0_2; subst e_hE_0_0_2
  have e_hE_0_0_3 := funext hE_0_0_3; subst e_hE_0_0_3
  first | with_reducible assumption | ((try and_intros) <;> first | with_reducible assumption | (clear hE_0_0_1 hE_0_0_2 hE_0_0_3 hK_0_0; omega)) | omega
set_option maxHeartbeats 4000000 in
theorem vc_Re_advance_19_4 (x2 : Int) (x4 : Int) (x5 : Int) (x11 : Int) (x15 : Int) (x16 : Int) (x17 : Int) (kind_0 : Int) (next_0 : Int) (begin_0 : Int) (end_0 : Int) (number_0 : Int) (number_1 : Int) (next_2 : Int) (tape_2 : Int → Int) (number_2 : Int) (end_2 : Int) (tape_3 : Int → Int) (number_3 : Int) (end_3 : Int) (next_3 : Int) (end_1 : Int) (next_1 : Int) (begin_1 : Int) (kind_1 : Int) (kind_2 : Int) (begin_2 : Int) (tape_0 : Int → Int) (tape_1 : Int → Int) (k2 : 0 ≤ x2 ∧ x2 ≤ 2000) (k4 : 0 ≤ x4 ∧ x4 ≤ 1999) (k5 : 1 ≤ x5 ∧ x5 ≤ 2000) (k11 : 91 ≤ x11 ∧ x11 ≤ 96) (k15 : 1 ≤ x15 ∧ x15 ≤ 2000) (k16 : 0 ≤ x16 ∧ x16 ≤ 0) (k17 : 1 ≤ x17 ∧ x17 ≤ 1) (d0 : x4 + 1 ≤ x15 ∧ x15 ≤ x4 + 1) (g0 : x17 = kind_0) (g1 : x15 = next_0) (g2 : x4 = begin_0) (g4 : x5 = end_0) (f12 : x16 = 0) (f13 : CSG (x11) (x16)) (g20 : x4 = next_2) (h25 : x11 = tape_2 (x4)) (f36 : x4 < x5) (f39 : CX0 (end_3) (next_3) (tape_3) (x2)) (fe_0_5_1 : end_0 = end_1) (fe_0_6_1 : next_0 = next_1) (fe_0_8_1 : begin_0 = begin_1) (fe_0_9_1 : number_0 = number_1) (fe_0_5_2 : end_1 = end_2) (fe_0_7_2 : kind_1 = kind_2) (fe_0_8_2 : begin_1 = begin_2) (fe_0_9_2 : number_1 = number_2) (fe_0_5_3 : end_2 = end_3) (fe_0_6_3 : next_2 = next_3) (fe_0_8_3 : begin_2 = x4) (fe_0_9_3 : number_2 = number_3) (hE_0_0_1 : ∀ j : Int, tape_0 j = tape_1 j) (hE_0_0_2 : ∀ j : Int, tape_1 j = tape_2 j) (hE_0_0_3 : ∀ j : Int, tape_2 j = tape_3 j) (hK_0_0 : ∀ j : Int, 0 ≤ j → j < 2000 → (-128) ≤ tape_0 j ∧ tape_0 j ≤ 127) (kz_0_5 : 0 ≤ end_0 ∧ end_0 ≤ 2000) (kz_0_6 : 0 ≤ next_0 ∧ next_0 ≤ 2000) (kz_0_7 : (-128) ≤ kind_0 ∧ kind_0 ≤ 127) (kz_0_8 : 0 ≤ begin_0 ∧ begin_0 ≤ 2000) (kz_0_9 : (-176) ≤ number_0 ∧ number_0 ≤ 1000000) : TKC (end_0) (next_0) (kind_0) (begin_0) (number_0) (tape_0) (x2) := by
  subst fe_0_5_1
  subst fe_0_6_1
  subst fe_0_8_1
  subst fe_0_9_1
  subst fe_0_5_2
  subst fe_0_7_2
  subst fe_0_8_2
  subst fe_0_9_2
  subst fe_0_5_3
  subst fe_0_6_3
  subst fe_0_9_3
  have e_hE_0_0_1 := funext hE_0_0_1; subst e_hE_0_0_1
  have e_hE_0_0_2 := funext hE_0_0_2; subst e_hE_0_0_2
  have e_hE_0_0_3 := funext hE_0_0_3; subst e_hE_0_0_3
  first | subst g0 | skip
  first | subst g1 | skip
  first | subst g2 | skip
  first | subst g4 | skip
  first | subst g20 | skip
  first
    | exact cxl_e (by assumption) ‹CXL _ _ _ _ _› (fun q => by omega) (by omega)
    | exact cxl_e (by assumption) ‹CXL _ _ _ _ _› (fun q => cnb_f ‹CNBy _ _› (by omega) (by omega)) (by omega)
    | exact cxd_e (by assumption) ‹CXD _ _ _ _ _ _› (fun q => by unfold cIG; omega) (by omega)
    | exact cxs_e (by assumption) (cx_1 (by assumption) ‹CX0 _ _ _ _› (fun q => by omega) (by omega)) (by omega) rfl (by unfold cIL; omega) (by unfold cIG; omega) (by omega) (Or.inl ⟨csg_t ‹CSG _ _› (by omega) (by omega), by omega⟩)
    | exact cxs_e (by assumption) (cx_1 (by assumption) ‹CX0 _ _ _ _› (fun q => by omega) (by omega)) (by omega) rfl (by unfold cIL; omega) (by unfold cIG; omega) (by omega) (Or.inr ⟨csg_f ‹CSG _ _› (by omega) (by omega), by omega⟩)
set_option maxHeartbeats 4000000 in
theorem vc_Re_advance_19_5 (x2 : Int) (x4 : Int) (x15 : Int) (next_0 : Int) (begin_0 : Int) (end_0 : Int) (number_0 : Int) (number_1 : Int) (next_2 : Int) (tape_2 : Int → Int) (number_2 : Int) (end_2 : Int) (tape_3 : Int → Int) (number_3 : Int) (end_3 : Int) (next_3 : Int) (end_1 : Int) (next_1 : Int) (begin_1 : Int) (kind_1 : Int) (kind_2 : Int) (begin_2 : Int) (tape_0 : Int → Int) (tape_1 : Int → Int) (k2 : 0 ≤ x2 ∧ x2 ≤ 2000) (k4 : 0 ≤ x4 ∧ x4 ≤ 1999) (k15 : 1 ≤ x15 ∧ x15 ≤ 2000) (d0 : x4 + 1 ≤ x15 ∧ x15 ≤ x4 + 1) (g1 : x15 = next_0) (g2 : x4 = begin_0) (g20 : x4 = next_2) (f30 : 1 * x2 + ((-1) * next_2 + 0) ≤ 0) (fe_0_5_1 : end_0 = end_1) (fe_0_6_1 : next_0 = next_1) (fe_0_8_1 : begin_0 = begin_1) (fe_0_9_1 : number_0 = number_1) (fe_0_5_2 : end_1 = end_2) (fe_0_7_2 : kind_1 = kind_2) (fe_0_8_2 : begin_1 = begin_2) (fe_0_9_2 : number_1 = number_2) (fe_0_5_3 : end_2 = end_3) (fe_0_6_3 : next_2 = next_3) (fe_0_9_3 : number_2 = number_3) (hE_0_0_1 : ∀ j : Int, tape_0 j = tape_1 j) (hE_0_0_2 : ∀ j : Int, tape_1 j = tape_2 j) (hE_0_0_3 : ∀ j : Int, tape_2 j = tape_3 j) (hK_0_0 : ∀ j : Int, 0 ≤ j → j < 2000 → (-128) ≤ tape_0 j ∧ tape_0 j ≤ 127) (kz_0_5 : 0 ≤ end_0 ∧ end_0 ≤ 2000) (kz_0_6 : 0 ≤ next_0 ∧ next_0 ≤ 2000) (kz_0_8 : 0 ≤ begin_0 ∧ begin_0 ≤ 2000) (kz_0_9 : (-176) ≤ number_0 ∧ number_0 ≤ 1000000) : 1 * x2 + ((-1) * next_0 + 0) ≤ 0 := by
  subst fe_0_5_1
  subst fe_0_6_1
  subst fe_0_8_1
  subst fe_0_9_1
  subst fe_0_5_2
  subst fe_0_7_2
  subst fe_0_8_2
  subst fe_0_9_2
  subst fe_0_5_3
  subst fe_0_6_3
  subst fe_0_9_3
  have e_hE_0_0_1 := funext hE_0_0_1; subst e_hE_0_0_1
  have e_hE_0_0_2 := funext hE_0_0_2; subst e_hE_0_0_2
  have e_hE_0_0_3 := funext hE_0_0_3; subst e_hE_0_0_3
  first | with_reducible assumption | ((try and_intros) <;> first | with_reducible assumption | (clear hE_0_0_1 hE_0_0_2 hE_0_0_3 hK_0_0; omega)) | omega
def o_Re_advance_19 : or_T := (290, 18, [(0, (2, 0, 0, [8])), (1, (0, -2147483648, 1000000, [])), (2, (0, 0, 2000, [])), (3, (2, 0, 0, [8])), (4, (0, 0, 1999, [])), (5, (0, 1, 2000, [])), (6, (2, 0, 0, [109])), (7, (0, -128, 127, [])), (8, (0, 32, 32, [])), (9, (0, -128, 127, [])), (10, (0, 10, 10, [])), (11, (0, 91, 96, [])), (12, (0, 0, 0, [])), (13, (0, 0, 0, [])), (14, (0, 1, 1, [])), (15, (0, 1, 2000, [])), (16, (0, 0, 0, [])), (17, (0, 1, 1, []))], [(9, [17, 3], [7]), (9, [15, 3], [6]), (9, [4, 3], [8]), (9, [6, 3], [0]), (9, [5, 3], [5]), (20, [11, 16], [61, 0, 1100]), (20, [11, 13], [61, 0, 1098]), (20, [11, 12], [61, 0, 1097]), (20, [3, 1], [30, 0, 1, 1, 9, -1, 0, 0]), (20, [3, 1], [30, 0, -1, 1, 9, 1, 0, 0]), (24, [0, 3], []), (101, [3, 17], [7]), (8, [16], [0]), (20, [11, 16], [61, 0, 1100]), (20, [11, 13], [61, 0, 1098]), (20, [11, 12], [61, 0, 1097]), (20, [3, 1], [30, 0, 1, 1, 9, -1, 0, 0]), (20, [3, 1], [30, 0, -1, 1, 9, 1, 0, 0]), (101, [3, 15], [6]), (1, [15, 4, 14], []), (9, [4, 3], [6]), (8, [13], [0]), (20, [11, 13], [61, 0, 1098]), (8, [12], [0]), (20, [11, 12], [61, 0, 1097]), (10, [11, 6, 4], []), (7, [4, 5], [2]), (20, [3, 1], [30, 0, 1, 1, 9, -1, 0, 0]), (20, [3, 1], [30, 0, -1, 1, 9, 1, 0, 0]), (20, [3, 2], [60, 2, 1, 1074, 5, 6, 0]), (20, [2, 3], [30, 0, 1, 0, 0, -1, 1, 6]), (101, [3, 4], [8]), (7, [9, 10], [1]), (10, [9, 6, 4], []), (7, [7, 8], [1]), (10, [7, 6, 4], []), (7, [4, 5], [2]), (20, [3, 1], [30, 0, 1, 1, 9, -1, 0, 0]), (20, [3, 1], [30, 0, -1, 1, 9, 1, 0, 0]), (20, [3, 2], [60, 2, 1, 1074, 5, 6, 0]), (20, [2, 3], [30, 0, 1, 0, 0, -1, 1, 6])], [], [], [(20, [0, 0, 1], [31, 1, 3, 1, 1, 7, 0, 1, 1, 9, -1, 0, 0]), (20, [0, 0, 1], [31, 1, 3, 1, 1, 7, 0, -1, 1, 9, 1, 0, 0]), (20, [0, 0, 0, 0], [31, 1, -3, -1, 1, 7, 4008, 1, 1, 6, -1, 1, 8, 2000, 1, 7]), (20, [0, 0], [30, 0, 1, 1, 8, -1, 1, 6]), (20, [0, 2], [60, 5, 1, 1072, 5, 6, 7, 8, 9, 0]), (20, [2, 0], [30, 0, 1, 0, 0, -1, 1, 6])], [], [(15, 4, 1, 1), (15, 5, -4294967296, 0), (4, 5, -4294967296, -1)])
theorem oo_Re_advance_19 {kA : Nat → ClassId} : or_ok PRD kA GG o_Re_advance_19 := by
  refine or_mk fun A ta ws vs hD hth hl => ?_
  intro t0 r0 t1 k1 t2 k2 t3 r3 t4 k4 t5 k5 t6 r6 t7 k7 t8 k8 t9 k9 t10 k10 t11 k11 t12 k12 t13 k13 t14 k14 t15 k15 t16 k16 t17 k17 d0 d1 d2 f0 f1 f2 f3 f4 f5 f6 f7 f8 f9 f10 ta1 w1 le1 s1 f12 f13 f14 f15 f16 f17 ta2 w2 le2 s2 f19 f20 f21 f22 f23 f24 f25 f26 f27 f28 f29 f30 ta3 w3 le3 s3 f32 f33 f34 f35 f36 f37 f38 f39 f40
  replace f0 := shm_198 f0
  replace f1 := shm_111 f1
  replace f2 := shm_293 f2
  replace f3 := shm_163 f3
  replace f4 := shm_110 f4
  replace f10 := shm_5 f10
  have s1 : (∀ b j, w_el ws b j = w_el w1 b j) ∧ ∀ b j, w_fd ws b j = if b = v_ad (n_v vs 3) ∧ j = 7 then n_v vs 17 else w_fd w1 b j := s1.2
  have s2 : (∀ b j, w_el w1 b j = w_el w2 b j) ∧ ∀ b j, w_fd w1 b j = if b = v_ad (n_v vs 3) ∧ j = 6 then n_v vs 15 else w_fd w2 b j := s2.2
  replace f20 := shm_111 f20
  replace f25 := shm_107 f25
  replace f30 := shm_1527 f30
  have s3 : (∀ b j, w_el w2 b j = w_el w3 b j) ∧ ∀ b j, w_fd w2 b j = if b = v_ad (n_v vs 3) ∧ j = 8 then n_v vs 4 else w_fd w3 b j := s3.2
  replace f39 := shm_1526 f39
  have q3 : n_v vs 3 = n_v vs 0 := f10.symm
  simp only [q3] at f0 f1 f2 f3 f4
  rw [q3] at s1
  rw [q3] at s2
  simp only [q3] at f20 f30
  rw [q3] at s3
  simp only [q3] at f39
  have ar_0_0_1 : w_ar w1 (n_v vs 0) 0 = w_ar ws (n_v vs 0) 0 := by show v_ad (w_fd w1 _ _) = v_ad (w_fd ws _ _); rw [s1.2, if_neg (fun e => absurd e.2 (by decide))]
  have ar_0_0_2 : w_ar w2 (n_v vs 0) 0 = w_ar ws (n_v vs 0) 0 := by rw [← ar_0_0_1]; show v_ad (w_fd w2 _ _) = v_ad (w_fd w1 _ _); rw [s2.2, if_neg (fun e => absurd e.2 (by decide))]
  have ar_0_0_3 : w_ar w3 (n_v vs 0) 0 = w_ar ws (n_v vs 0) 0 := by rw [← ar_0_0_2]; show v_ad (w_fd w3 _ _) = v_ad (w_fd w2 _ _); rw [s3.2, if_neg (fun e => absurd e.2 (by decide))]
  have cr_0_0 := fdq_95 hD hth r0
  have ad_6 : v_ad (n_v vs 6) = w_ar ws (n_v vs 0) 0 := congrArg v_ad f3
  have g0 : v_iv (n_v vs 17) = w_fi ws (n_v vs 0) 7 := congrArg v_iv f0
  have g1 : v_iv (n_v vs 15) = w_fi ws (n_v vs 0) 6 := congrArg v_iv f1
  have g2 : v_iv (n_v vs 4) = w_fi ws (n_v vs 0) 8 := congrArg v_iv f2
  have g4 : v_iv (n_v vs 5) = w_fi ws (n_v vs 0) 5 := congrArg v_iv f4
  have g20 : v_iv (n_v vs 4) = w_fi w2 (n_v vs 0) 6 := congrArg v_iv f20
  simp only [ad_6] at f25
  have h25 : v_iv (n_v vs 11) = w_ei w2 (w_ar ws (n_v vs 0) 0) (v_iv (n_v vs 4)) := f25
  simp only [ar_0_0_3] at f39
  have fe_0_5_1 : w_fi ws (n_v vs 0) 5 = w_fi w1 (n_v vs 0) 5 := by show v_iv (w_fd _ _ _) = v_iv (w_fd _ _ _); rw [s1.2, if_neg (fun e => absurd e.2 (by decide))]
  have fe_0_6_1 : w_fi ws (n_v vs 0) 6 = w_fi w1 (n_v vs 0) 6 := by show v_iv (w_fd _ _ _) = v_iv (w_fd _ _ _); rw [s1.2, if_neg (fun e => absurd e.2 (by decide))]
  have fe_0_8_1 : w_fi ws (n_v vs 0) 8 = w_fi w1 (n_v vs 0) 8 := by show v_iv (w_fd _ _ _) = v_iv (w_fd _ _ _); rw [s1.2, if_neg (fun e => absurd e.2 (by decide))]
  have fe_0_9_1 : w_fi ws (n_v vs 0) 9 = w_fi w1 (n_v vs 0) 9 := by show v_iv (w_fd _ _ _) = v_iv (w_fd _ _ _); rw [s1.2, if_neg (fun e => absurd e.2 (by decide))]
  have fe_0_5_2 : w_fi w1 (n_v vs 0) 5 = w_fi w2 (n_v vs 0) 5 := by show v_iv (w_fd _ _ _) = v_iv (w_fd _ _ _); rw [s2.2, if_neg (fun e => absurd e.2 (by decide))]
  have fe_0_7_2 : w_fi w1 (n_v vs 0) 7 = w_fi w2 (n_v vs 0) 7 := by show v_iv (w_fd _ _ _) = v_iv (w_fd _ _ _); rw [s2.2, if_neg (fun e => absurd e.2 (by decide))]
  have fe_0_8_2 : w_fi w1 (n_v vs 0) 8 = w_fi w2 (n_v vs 0) 8 := by show v_iv (w_fd _ _ _) = v_iv (w_fd _ _ _); rw [s2.2, if_neg (fun e => absurd e.2 (by decide))]
  have fe_0_9_2 : w_fi w1 (n_v vs 0) 9 = w_fi w2 (n_v vs 0) 9 := by show v_iv (w_fd _ _ _) = v_iv (w_fd _ _ _); rw [s2.2, if_neg (fun e => absurd e.2 (by decide))]
  have fe_0_5_3 : w_fi w2 (n_v vs 0) 5 = w_fi w3 (n_v vs 0) 5 := by show v_iv (w_fd _ _ _) = v_iv (w_fd _ _ _); rw [s3.2, if_neg (fun e => absurd e.2 (by decide))]
  have fe_0_6_3 : w_fi w2 (n_v vs 0) 6 = w_fi w3 (n_v vs 0) 6 := by show v_iv (w_fd _ _ _) = v_iv (w_fd _ _ _); rw [s3.2, if_neg (fun e => absurd e.2 (by decide))]
  have fe_0_8_3 : w_fi w2 (n_v vs 0) 8 = v_iv (n_v vs 4) := by show v_iv (w_fd _ _ _) = _; rw [s3.2, if_pos ⟨rfl, rfl⟩]
  have fe_0_9_3 : w_fi w2 (n_v vs 0) 9 = w_fi w3 (n_v vs 0) 9 := by show v_iv (w_fd _ _ _) = v_iv (w_fd _ _ _); rw [s3.2, if_neg (fun e => absurd e.2 (by decide))]
  have hE_0_0_1 : ∀ j : Int, w_ei ws (w_ar ws (n_v vs 0) 0) j = w_ei w1 (w_ar ws (n_v vs 0) 0) j := fun j => s1.1 _ _
  have hE_0_0_2 : ∀ j : Int, w_ei w1 (w_ar ws (n_v vs 0) 0) j = w_ei w2 (w_ar ws (n_v vs 0) 0) j := fun j => s2.1 _ _
  have hE_0_0_3 : ∀ j : Int, w_ei w2 (w_ar ws (n_v vs 0) 0) j = w_ei w3 (w_ar ws (n_v vs 0) 0) j := fun j => s3.1 _ _
  have hK_0_0 := elq_33 hD hth cr_0_0
  have kz_0_5 := fdq_207 hD hth r0
  have kz_0_6 := fdq_208 hD hth r0
  have kz_0_7 := fdq_297 hD hth r0
  have kz_0_8 := fdq_99 hD hth r0
  have kz_0_9 := fdq_296 hD hth r0
  have nf0 : fc_1 PRD (20, [0, 0, 1], [31, 1, 3, 1, 1, 7, 0, 1, 1, 9, -1, 0, 0]) ws (vs) := ⟨nf_in hl rfl, sgq_1528 (vc_Re_advance_19_0 (v_iv (n_v vs 1)) (v_iv (n_v vs 17)) (w_fi ws (n_v vs 0) 7) (w_fi ws (n_v vs 0) 6) (w_fi ws (n_v vs 0) 8) (w_fi ws (n_v vs 0) 5) (w_fi ws (n_v vs 0) 9) (w_fi w1 (n_v vs 0) 9) (w_fi w2 (n_v vs 0) 6) (w_ei w2 (w_ar ws (n_v vs 0) 0)) (w_fi w2 (n_v vs 0) 9) (w_fi w2 (n_v vs 0) 5) (w_ei w3 (w_ar ws (n_v vs 0) 0)) (w_fi w3 (n_v vs 0) 9) (w_fi w3 (n_v vs 0) 5) (w_fi w3 (n_v vs 0) 6) (w_fi w1 (n_v vs 0) 5) (w_fi w1 (n_v vs 0) 6) (w_fi w1 (n_v vs 0) 8) (w_fi w1 (n_v vs 0) 7) (w_fi w2 (n_v vs 0) 7) (w_fi w2 (n_v vs 0) 8) (w_ei ws (w_ar ws (n_v vs 0) 0)) (w_ei w1 (w_ar ws (n_v vs 0) 0)) k1 k17 g0 fe_0_5_1 fe_0_6_1 fe_0_8_1 fe_0_9_1 fe_0_5_2 fe_0_7_2 fe_0_8_2 fe_0_9_2 fe_0_5_3 fe_0_6_3 fe_0_9_3 hE_0_0_1 hE_0_0_2 hE_0_0_3 hK_0_0 kz_0_5 kz_0_6 kz_0_7 kz_0_8 kz_0_9)⟩
  have nf1 : fc_1 PRD (20, [0, 0, 1], [31, 1, 3, 1, 1, 7, 0, -1, 1, 9, 1, 0, 0]) ws (vs) := ⟨nf_in hl rfl, sgq_1529 (vc_Re_advance_19_1 (v_iv (n_v vs 1)) (v_iv (n_v vs 17)) (w_fi ws (n_v vs 0) 7) (w_fi ws (n_v vs 0) 6) (w_fi ws (n_v vs 0) 8) (w_fi ws (n_v vs 0) 5) (w_fi ws (n_v vs 0) 9) (w_fi w1 (n_v vs 0) 9) (w_fi w2 (n_v vs 0) 6) (w_ei w2 (w_ar ws (n_v vs 0) 0)) (w_fi w2 (n_v vs 0) 9) (w_fi w2 (n_v vs 0) 5) (w_ei w3 (w_ar ws (n_v vs 0) 0)) (w_fi w3 (n_v vs 0) 9) (w_fi w3 (n_v vs 0) 5) (w_fi w3 (n_v vs 0) 6) (w_fi w1 (n_v vs 0) 5) (w_fi w1 (n_v vs 0) 6) (w_fi w1 (n_v vs 0) 8) (w_fi w1 (n_v vs 0) 7) (w_fi w2 (n_v vs 0) 7) (w_fi w2 (n_v vs 0) 8) (w_ei ws (w_ar ws (n_v vs 0) 0)) (w_ei w1 (w_ar ws (n_v vs 0) 0)) k1 k17 g0 fe_0_5_1 fe_0_6_1 fe_0_8_1 fe_0_9_1 fe_0_5_2 fe_0_7_2 fe_0_8_2 fe_0_9_2 fe_0_5_3 fe_0_6_3 fe_0_9_3 hE_0_0_1 hE_0_0_2 hE_0_0_3 hK_0_0 kz_0_5 kz_0_6 kz_0_7 kz_0_8 kz_0_9)⟩
  have nf2 : fc_1 PRD (20, [0, 0, 0, 0], [31, 1, -3, -1, 1, 7, 4008, 1, 1, 6, -1, 1, 8, 2000, 1, 7]) ws (vs) := ⟨nf_in hl rfl, sgq_1530 (vc_Re_advance_19_2 (v_iv (n_v vs 4)) (v_iv (n_v vs 15)) (v_iv (n_v vs 17)) (w_fi ws (n_v vs 0) 7) (w_fi ws (n_v vs 0) 6) (w_fi ws (n_v vs 0) 8) (w_fi ws (n_v vs 0) 5) (w_fi ws (n_v vs 0) 9) (w_fi w1 (n_v vs 0) 9) (w_fi w2 (n_v vs 0) 6) (w_ei w2 (w_ar ws (n_v vs 0) 0)) (w_fi w2 (n_v vs 0) 9) (w_fi w2 (n_v vs 0) 5) (w_ei w3 (w_ar ws (n_v vs 0) 0)) (w_fi w3 (n_v vs 0) 9) (w_fi w3 (n_v vs 0) 5) (w_fi w3 (n_v vs 0) 6) (w_fi w1 (n_v vs 0) 5) (w_fi w1 (n_v vs 0) 6) (w_fi w1 (n_v vs 0) 8) (w_fi w1 (n_v vs 0) 7) (w_fi w2 (n_v vs 0) 7) (w_fi w2 (n_v vs 0) 8) (w_ei ws (w_ar ws (n_v vs 0) 0)) (w_ei w1 (w_ar ws (n_v vs 0) 0)) k4 k15 k17 d0 g0 g1 g2 fe_0_5_1 fe_0_6_1 fe_0_8_1 fe_0_9_1 fe_0_5_2 fe_0_7_2 fe_0_8_2 fe_0_9_2 fe_0_5_3 fe_0_6_3 fe_0_9_3 hE_0_0_1 hE_0_0_2 hE_0_0_3 hK_0_0 kz_0_5 kz_0_6 kz_0_7 kz_0_8 kz_0_9)⟩
  have nf3 : fc_1 PRD (20, [0, 0], [30, 0, 1, 1, 8, -1, 1, 6]) ws (vs) := ⟨nf_in hl rfl, sgq_1531 (vc_Re_advance_19_3 (v_iv (n_v vs 4)) (v_iv (n_v vs 15)) (w_fi ws (n_v vs 0) 6) (w_fi ws (n_v vs 0) 8) (w_fi ws (n_v vs 0) 5) (w_fi ws (n_v vs 0) 9) (w_fi w1 (n_v vs 0) 9) (w_fi w2 (n_v vs 0) 6) (w_ei w2 (w_ar ws (n_v vs 0) 0)) (w_fi w2 (n_v vs 0) 9) (w_fi w2 (n_v vs 0) 5) (w_ei w3 (w_ar ws (n_v vs 0) 0)) (w_fi w3 (n_v vs 0) 9) (w_fi w3 (n_v vs 0) 5) (w_fi w3 (n_v vs 0) 6) (w_fi w1 (n_v vs 0) 5) (w_fi w1 (n_v vs 0) 6) (w_fi w1 (n_v vs 0) 8) (w_fi w1 (n_v vs 0) 7) (w_fi w2 (n_v vs 0) 7) (w_fi w2 (n_v vs 0) 8) (w_ei ws (w_ar ws (n_v vs 0) 0)) (w_ei w1 (w_ar ws (n_v vs 0) 0)) k4 k15 d0 g1 g2 fe_0_5_1 fe_0_6_1 fe_0_8_1 fe_0_9_1 fe_0_5_2 fe_0_7_2 fe_0_8_2 fe_0_9_2 fe_0_5_3 fe_0_6_3 fe_0_9_3 hE_0_0_1 hE_0_0_2 hE_0_0_3 hK_0_0 kz_0_5 kz_0_6 kz_0_8 kz_0_9)⟩
  have nf4 : fc_1 PRD (20, [0, 2], [60, 5, 1, 1072, 5, 6, 7, 8, 9, 0]) ws (vs) := ⟨nf_in hl rfl, sgq_1532 (vc_Re_advance_19_4 (v_iv (n_v vs 2)) (v_iv (n_v vs 4)) (v_iv (n_v vs 5)) (v_iv (n_v vs 11)) (v_iv (n_v vs 15)) (v_iv (n_v vs 16)) (v_iv (n_v vs 17)) (w_fi ws (n_v vs 0) 7) (w_fi ws (n_v vs 0) 6) (w_fi ws (n_v vs 0) 8) (w_fi ws (n_v vs 0) 5) (w_fi ws (n_v vs 0) 9) (w_fi w1 (n_v vs 0) 9) (w_fi w2 (n_v vs 0) 6) (w_ei w2 (w_ar ws (n_v vs 0) 0)) (w_fi w2 (n_v vs 0) 9) (w_fi w2 (n_v vs 0) 5) (w_ei w3 (w_ar ws (n_v vs 0) 0)) (w_fi w3 (n_v vs 0) 9) (w_fi w3 (n_v vs 0) 5) (w_fi w3 (n_v vs 0) 6) (w_fi w1 (n_v vs 0) 5) (w_fi w1 (n_v vs 0) 6) (w_fi w1 (n_v vs 0) 8) (w_fi w1 (n_v vs 0) 7) (w_fi w2 (n_v vs 0) 7) (w_fi w2 (n_v vs 0) 8) (w_ei ws (w_ar ws (n_v vs 0) 0)) (w_ei w1 (w_ar ws (n_v vs 0) 0)) k2 k4 k5 k11 k15 k16 k17 d0 g0 g1 g2 g4 (shm_192 f12) (shm_454 f13) g20 h25 (shm_6 f36) f39 fe_0_5_1 fe_0_6_1 fe_0_8_1 fe_0_9_1 fe_0_5_2 fe_0_7_2 fe_0_8_2 fe_0_9_2 fe_0_5_3 fe_0_6_3 fe_0_8_3 fe_0_9_3 hE_0_0_1 hE_0_0_2 hE_0_0_3 hK_0_0 kz_0_5 kz_0_6 kz_0_7 kz_0_8 kz_0_9)⟩
  have nf5 : fc_1 PRD (20, [2, 0], [30, 0, 1, 0, 0, -1, 1, 6]) ws (vs) := ⟨nf_in hl rfl, sgq_1527 (vc_Re_advance_19_5 (v_iv (n_v vs 2)) (v_iv (n_v vs 4)) (v_iv (n_v vs 15)) (w_fi ws (n_v vs 0) 6) (w_fi ws (n_v vs 0) 8) (w_fi ws (n_v vs 0) 5) (w_fi ws (n_v vs 0) 9) (w_fi w1 (n_v vs 0) 9) (w_fi w2 (n_v vs 0) 6) (w_ei w2 (w_ar ws (n_v vs 0) 0)) (w_fi w2 (n_v vs 0) 9) (w_fi w2 (n_v vs 0) 5) (w_ei w3 (w_ar ws (n_v vs 0) 0)) (w_fi w3 (n_v vs 0) 9) (w_fi w3 (n_v vs 0) 5) (w_fi w3 (n_v vs 0) 6) (w_fi w1 (n_v vs 0) 5) (w_fi w1 (n_v vs 0) 6) (w_fi w1 (n_v vs 0) 8) (w_fi w1 (n_v vs 0) 7) (w_fi w2 (n_v vs 0) 7) (w_fi w2 (n_v vs 0) 8) (w_ei ws (w_ar ws (n_v vs 0) 0)) (w_ei w1 (w_ar ws (n_v vs 0) 0)) k2 k4 k15 d0 g1 g2 g20 f30 fe_0_5_1 fe_0_6_1 fe_0_8_1 fe_0_9_1 fe_0_5_2 fe_0_7_2 fe_0_8_2 fe_0_9_2 fe_0_5_3 fe_0_6_3 fe_0_9_3 hE_0_0_1 hE_0_0_2 hE_0_0_3 hK_0_0 kz_0_5 kz_0_6 kz_0_8 kz_0_9)⟩
  refine ⟨(fun _ h => (by cases h)), [], trivial, ?_, (fun _ h => (by cases h))⟩
  rw [List.append_nil]
  exact List.forall_mem_cons.mpr ⟨⟨show (20 : Nat) < 100 from by decide, nf0⟩, List.forall_mem_cons.mpr ⟨⟨show (20 : Nat) < 100 from by decide, nf1⟩, List.forall_mem_cons.mpr ⟨⟨show (20 : Nat) < 100 from by decide, nf2⟩, List.forall_mem_cons.mpr ⟨⟨show (20 : Nat) < 100 from by decide, nf3⟩, List.forall_mem_cons.mpr ⟨⟨show (20 : Nat) < 100 from by decide, nf4⟩, List.forall_mem_cons.mpr ⟨⟨show (20 : Nat) < 100 from by decide, nf5⟩, (fun _ h => (by cases h))⟩⟩⟩⟩⟩⟩
set_option maxHeartbeats 4000000 in
theorem vc_Re_advance_20_0 (x1 : Int) (kind_0 : Int) (next_0 : Int) (begin_0 : Int) (end_0 : Int) (number_0 : Int) (number_1 : Int) (next_2 : Int) (tape_2 : Int → Int) (number_2 : Int) (end_2 : Int) (tape_3 : Int → Int) (number_3 : Int) (end_3 : Int) (next_3 : Int) (end_1 : Int) (next_1 : Int) (begin_1 : Int) (kind_1 : Int) (kind_2 : Int) (begin_2 : Int) (tape_0 : Int → Int) (tape_1 : Int → Int) (k1 : (-2147483648) ≤ x1 ∧ x1 ≤ 1000000) (f8 : 1 * number_0 + ((-1) * x1 + 0) ≤ 0) (f9 : (-1) * number_0 + (1 * x1 + 0) ≤ 0) (fe_0_5_1 : end_0 = end_1) (fe_0_6_1 : next_0 = next_1) (fe_0_8_1 : begin_0 = begin_1) (fe_0_9_1 : number_0 = number_1) (fe_0_5_2 : end_1 = end_2) (fe_0_7_2 : kind_1 = kind_2) (fe_0_8_2 : begin_1 = begin_2) (fe_0_9_2 : number_1 = number_2) (fe_0_5_3 : end_2 = end_3) (fe_0_6_3 : next_2 = next_3) (fe_0_9_3 : number_2 = number_3) (hE_0_0_1 : ∀ j : Int, tape_0 j = tape_1 j) (hE_0_0_2 : ∀ j : Int, tape_1 j = tape_2 j) (hE_0_0_3 : ∀ j : Int, tape_2 j = tape_3 j) (hK_0_0 : ∀ j : Int, 0 ≤ j → j < 2000 → (-128) ≤ tape_0 j ∧ tape_0 j ≤ 127) (kz_0_5 : 0 ≤ end_0 ∧ end_0 ≤ 2000) (kz_0_6 : 0 ≤ next_0 ∧ next_0 ≤ 2000) (kz_0_7 : (-128) ≤ kind_0 ∧ kind_0 ≤ 127) (kz_0_8 : 0 ≤ begin_0 ∧ begin_0 ≤ 2000) (kz_0_9 : (-176) ≤ number_0 ∧ number_0 ≤ 1000000) : (1 * kind_0 + 0 ≤ 3) ∨ (1 * number_0 + ((-1) * x1 + 0) ≤ 0) := by
  subst fe_0_5_1
  subst fe_0_6_1
  subst fe_0_8_1
  subst fe_0_9_1
  subst fe_0_5_2
  subst fe_0_7_2
  subst fe_0_8_2
  subst fe_0_9_2
  subst fe_0_5_3
  subst fe_0_6_3
  subst fe_0_9_3
  have e_hE_0_0_1 := funext hE_0_0_1; subst e_hE_0_0_1
  have e_hE_0_0_2 := funext hE_0_0_2; subst e_hE_0_0_2
  have e_hE_0_0_3 := funext hE_0_0_3; subst e_hE_0_0_3
  first | with_reducible assumption | ((try and_intros) <;> first | with_reducible assumption | (clear hE_0_0_1 hE_0_0_2 hE_0_0_3 hK_0_0; omega)) | omega
set_option maxHeartbeats 4000000 in
theorem vc_Re_advance_20_1 (x1 : Int) (kind_0 : Int) (next_0 : Int) (begin_0 : Int) (end_0 : Int) (number_0 : Int) (number_1 : Int) (next_2 : Int) (tape_2 : Int → Int) (number_2 : Int) (end_2 : Int) (tape_3 : Int → Int) (number_3 : Int) (end_3 : Int) (next_3 : Int) (end_1 : Int) (next_1 : Int) (begin_1 : Int) (kind_1 : Int) (kind_2 : Int) (begin_2 : Int) (tape_0 : Int → Int) (tape_1 : Int → Int) (k1 : (-2147483648) ≤ x1 ∧ x1 ≤ 1000000) (f8 : 1 * number_0 + ((-1) * x1 + 0) ≤ 0) (f9 : (-1) * number_0 + (1 * x1 + 0) ≤ 0) (fe_0_5_1 : end_0 = end_1) (fe_0_6_1 : next_0 = next_1) (fe_0_8_1 : begin_0 = begin_1) (fe_0_9_1 : number_0 = number_1) (fe_0_5_2 : end_1 = end_2) (fe_0_7_2 : kind_1 = kind_2) (fe_0_8_2 : begin_1 = begin_2) (fe_0_9_2 : number_1 = number_2) (fe_0_5_3 : end_2 = end_3) (fe_0_6_3 : next_2 = next_3) (fe_0_9_3 : number_2 = number_3) (hE_0_0_1 : ∀ j : Int, tape_0 j = tape_1 j) (hE_0_0_2 : ∀ j : Int, tape_1 j = tape_2 j) (hE_0_0_3 : ∀ j : Int, tape_2 j = tape_3 j) (hK_0_0 : ∀ j : Int, 0 ≤ j → j < 2000 → (-128) ≤ tape_0 j ∧ tape_0 j ≤ 127) (kz_0_5 : 0 ≤ end_0 ∧ end_0 ≤ 2000) (kz_0_6 : 0 ≤ next_0 ∧ next_0 ≤ 2000) (kz_0_7 : (-128) ≤ kind_0 ∧ kind_0 ≤ 127) (kz_0_8 : 0 ≤ begin_0 ∧ begin_0 ≤ 2000) (kz_0_9 : (-176) ≤ number_0 ∧ number_0 ≤ 1000000) : (1 * kind_0 + 0 ≤ 3) ∨ ((-1) * number_0 + (1 * x1 + 0) ≤ 0) := by
  subst fe_0_5_1
  subst fe_0_6_1
  subst fe_0_8_1
  subst fe_0_9_1
  subst fe_0_5_2
  subst fe_0_7_2
  subst fe_0_8_2
  subst fe_0_9_2
  subst fe_0_5_3
  subst fe_0_6_3
  subst fe_0_9_3
  have e_hE_0_0_1 := funext hE_0_0_1; subst e_hE_0_0_1
  have e_hE_0_0_2 := funext hE_0_0_2; subst e_hE_0_0_2
  have e_hE_0_0_3 := funext hE_0_0_3; subst e_hE_0_0_3
  first | with_reducible assumption | ((try and_intros) <;> first | with_reducible assumption | (clear hE_0_0_1 hE_0_0_2 hE_0_0_3 hK_0_0; omega)) | omega
set_option maxHeartbeats 4000000 in
theorem vc_Re_advance_20_2 (x4 : Int) (x11 : Int) (kind_0 : Int) (next_0 : Int) (begin_0 : Int) (end_0 : Int) (number_0 : Int) (number_1 : Int) (next_2 : Int) (tape_2 : Int → Int) (number_2 : Int) (end_2 : Int) (tape_3 : Int → Int) (number_3 : Int) (end_3 : Int) (next_3 : Int) (end_1 : Int) (next_1 : Int) (begin_1 : Int) (kind_1 : Int) (kind_2 : Int) (begin_2 : Int) (tape_0 : Int → Int) (tape_1 : Int → Int) (k4 : 0 ≤ x4 ∧ x4 ≤ 1999) (k11 : 91 ≤ x11 ∧ x11 ≤ 96) (g0 : x11 = kind_0) (h25 : x11 = tape_2 (x4)) (fe_0_5_1 : end_0 = end_1) (fe_0_6_1 : next_0 = next_1) (fe_0_8_1 : begin_0 = begin_1) (fe_0_9_1 : number_0 = number_1) (fe_0_5_2 : end_1 = end_2) (fe_0_7_2 : kind_1 = kind_2) (fe_0_8_2 : begin_1 = begin_2) (fe_0_9_2 : number_1 = number_2) (fe_0_5_3 : end_2 = end_3) (fe_0_6_3 : next_2 = next_3) (fe_0_9_3 : number_2 = number_3) (hE_0_0_1 : ∀ j : Int, tape_0 j = tape_1 j) (hE_0_0_2 : ∀ j : Int, tape_1 j = tape_2 j) (hE_0_0_3 : ∀ j : Int, tape_2 j = tape_3 j) (hK_0_0 : ∀ j : Int, 0 ≤ j → j < 2000 → (-128) ≤ tape_0 j ∧ tape_0 j ≤ 127) (kz_0_5 : 0 ≤ end_0 ∧ end_0 ≤ 2000) (kz_0_6 : 0 ≤ next_0 ∧ next_0 ≤ 2000) (kz_0_7 : (-128) ≤ kind_0 ∧ kind_0 ≤ 127) (kz_0_8 : 0 ≤ begin_0 ∧ begin_0 ≤ 2000) (kz_0_9 : (-176) ≤ number_0 ∧ number_0 ≤ 1000000) : ((-1) * kind_0 + 0 ≤ (-3)) ∨ (1 * next_0 + ((-1) * begin_0 + (2000 * kind_0 + 0)) ≤ 4008) := by
  subst fe_0_5_1
  subst fe_0_6_1
  subst fe_0_8_1
  subst fe_0_9_1
  subst fe_0_5_2
  subst fe_0_7_2
  subst fe_0_8_2
  subst fe_0_9_2
  subst fe_0_5_3
  subst fe_0_6_3
  subst fe_0_9_3
  have e_hE_0_0_1 := funext hE_0_0_1; subst e_hE_0_0_1
  have e_hE_0_0_2 := funext hE_0_0_2; subst e_hE_0_0_2
  have e_hE_0_0_3 := funext hE_0_0_3; subst e_hE_0_0_3
  first | with_reducible assumption | ((try and_intros) <;> first | with_reducible assumption | (clear hE_0_0_1 hE_0_0_2 hE_0_0_3 hK_0_0; omega)) | omega
set_option maxHeartbeats 4000000 in
theorem vc_Re_advance_20_3 (x4 : Int) (x15 : Int) (next_0 : Int) (begin_0 : Int) (end_0 : Int) (number_0 : Int) (number_1 : Int) (next_2 : Int) (tape_2 : Int → Int) (number_2 : Int) (end_2 : Int) (tape_3 : Int → Int) (number_3 : Int) (end_3 : Int) (next_3 : Int) (end_1 : Int) (next_1 : Int) (begin_1 : Int) (kind_1 : Int) (kind_2 : Int) (begin_2 : Int) (tape_0 : Int → Int) (tape_1 : Int → Int) (k4 : 0 ≤ x4 ∧ x4 ≤ 1999) (k15 : 1 ≤ x15 ∧ x15 ≤ 2000) (d0 : x4 + 1 ≤ x15 ∧ x15 ≤ x4 + 1) (g1 : x15 = next_0) (g2 : x4 = begin_0) (fe_0_5_1 : end_0 = end_1) (fe_0_6_1 : next_0 = next_1) (fe_0_8_1 : begin_0 = begin_1) (fe_0_9_1 : number_0 = number_1) (fe_0_5_2 : end_1 = end_2) (fe_0_7_2 : kind_1 = kind_2) (fe_0_8_2 : begin_1 = begin_2) (fe_0_9_2 : number_1 = number_2) (fe_0_5_3 : end_2 = end_3) (fe_0_6_3 : next_2 = next_3) (fe_0_9_3 : number_2 = number_3) (hE_0_0_1 : ∀ j : Int, tape_0 j = tape_1 j) (hE_0_0_2 : ∀ j : Int, tape_1 j = tape_2 j) (hE_0_0_3 : ∀ j : Int, tape_2 j = tape_3 j) (hK_0_0 : ∀ j : Int, 0 ≤ j → j < 2000 → (-128) ≤ tape_0 j ∧ tape_0 j ≤ 127) (kz_0_5 : 0 ≤ end_0 ∧ end_0 ≤ 2000) (kz_0_6 : 0 ≤ next_0 ∧ next_0 ≤ 2000) (kz_0_8 : 0 ≤ begin_0 ∧ begin_0 ≤ 2000) (kz_0_9 : (-176) ≤ number_0 ∧ number_0 ≤ 1000000) : 1 * begin_0 + ((-1) * next_0 + 0) ≤ 0 := by
  subst fe_0_5_1
  subst fe_0_6_1
  subst fe_0_8_1
  subst fe_0_9_1
  subst fe_0_5_2
  subst fe_0_7_2
  subst fe_0_8_2
  subst fe_0_9_2
  subst fe_0_5_3
  subst fe_0_6_3
  subst fe_0_9_3
  have e_hE_0_0_1 := funext hE_0_0_1; subst e_hE_0_0_1
  have e_hE_0_0_2 := funext hE_0_0_2; subst e_hE_0_0_2
  have e_hE_0_0_3 := funext hE_0_0_3; subst e_hE_0_0_3
  first | with_reducible assumption | ((try and_intros) <;> first | with_reducible assumption | (clear hE_0_0_1 hE_0_0_2 hE_0_0_3 hK_0_0; omega)) | omega
set_option maxHeartbeats 4000000 in
theorem vc_Re_advance_20_4 (x2 : Int) (x4 : Int) (x5 : Int) (x11 : Int) (x15 : Int) (x16 : Int) (kind_0 : Int) (next_0 : Int) (begin_0 : Int) (end_0 : Int) (number_0 : Int) (number_1 : Int) (next_2 : Int) (tape_2 : Int → Int) (number_2 : Int) (end_2 : Int) (tape_3 : Int → Int) (number_3 : Int) (end_3 : Int) (next_3 : Int) (end_1 : Int) (next_1 : Int) (begin_1 : Int) (kind_1 : Int) (kind_2 : Int) (begin_2 : Int) (tape_0 : Int → Int) (tape_1 : Int → Int) (k2 : 0 ≤ x2 ∧ x2 ≤ 2000) (k4 : 0 ≤ x4 ∧ x4 ≤ 1999) (k5 : 1 ≤ x5 ∧ x5 ≤ 2000) (k11 : 91 ≤ x11 ∧ x11 ≤ 96) (k15 : 1 ≤ x15 ∧ x15 ≤ 2000) (k16 : 1 ≤ x16 ∧ x16 ≤ 1) (d0 : x4 + 1 ≤ x15 ∧ x15 ≤ x4 + 1) (g0 : x11 = kind_0) (g1 : x15 = next_0) (g2 : x4 = begin_0) (g4 : x5 = end_0) (f12 : x16 ≠ 0) (f13 : CSG (x11) (x16)) (g20 : x4 = next_2) (h25 : x11 = tape_2 (x4)) (f36 : x4 < x5) (f39 : CX0 (end_3) (next_3) (tape_3) (x2)) (fe_0_5_1 : end_0 = end_1) (fe_0_6_1 : next_0 = next_1) (fe_0_8_1 : begin_0 = begin_1) (fe_0_9_1 : number_0 = number_1) (fe_0_5_2 : end_1 = end_2) (fe_0_7_2 : kind_1 = kind_2) (fe_0_8_2 : begin_1 = begin_2) (fe_0_9_2 : number_1 = number_2) (fe_0_5_3 : end_2 = end_3) (fe_0_6_3 : next_2 = next_3) (fe_0_8_3 : begin_2 = x4) (fe_0_9_3 : number_2 = number_3) (hE_0_0_1 : ∀ j : Int, tape_0 j = tape_1 j) (hE_0_0_2 : ∀ j : Int, tape_1 j = tape_2 j) (hE_0_0_3 : ∀ j : Int, tape_2 j = tape_3 j) (hK_0_0 : ∀ j : Int, 0 ≤ j → j < 2000 → (-128) ≤ tape_0 j ∧ tape_0 j ≤ 127) (kz_0_5 : 0 ≤ end_0 ∧ end_0 ≤ 2000) (kz_0_6 : 0 ≤ next_0 ∧ next_0 ≤ 2000) (kz_0_7 : (-128) ≤ kind_0 ∧ kind_0 ≤ 127) (kz_0_8 : 0 ≤ begin_0 ∧ begin_0 ≤ 2000) (kz_0_9 : (-176) ≤ number_0 ∧ number_0 ≤ 1000000) : TKC (end_0) (next_0) (kind_0) (begin_0) (number_0) (tape_0) (x2) := by
  subst fe_0_5_1
  subst fe_0_6_1
  subst fe_0_8_1
  subst fe_0_9_1
  subst fe_0_5_2
  subst fe_0_7_2
  subst fe_0_8_2
  subst fe_0_9_2
  subst fe_0_5_3
  subst fe_0_6_3
  subst fe_0_9_3
  have e_hE_0_0_1 := funext hE_0_0_1; subst e_hE_0_0_1
  have e_hE_0_0_2 := funext hE_0_0_2; subst e_hE_0_0_2
  have e_hE_0_0_3 := funext hE_0_0_3; subst e_hE_0_0_3
  first | subst g0 | skip
  first | subst g1 | skip
  first | subst g2 | skip
  first | subst g4 | skip
  first | subst g20 | skip
  first
    | exact cxl_e (by assumption) ‹CXL _ _ _ _ _› (fun q => by omega) (by omega)
    | exact cxl_e (by assumption) ‹CXL _ _ _ _ _› (fun q => cnb_f ‹CNBy _ _› (by omega) (by omega)) (by omega)
    | exact cxd_e (by assumption) ‹CXD _ _ _ _ _ _› (fun q => by unfold cIG; omega) (by omega)
    | exact cxs_e (by assumption) (cx_1 (by assumption) ‹CX0 _ _ _ _› (fun q => by omega) (by omega)) (by omega) rfl (by unfold cIL; omega) (by unfold cIG; omega) (by omega) (Or.inl ⟨csg_t ‹CSG _ _› (by omega) (by omega), by omega⟩)
    | exact cxs_e (by assumption) (cx_1 (by assumption) ‹CX0 _ _ _ _› (fun q => by omega) (by omega)) (by omega) rfl (by unfold cIL; omega) (by unfold cIG; omega) (by omega) (Or.inr ⟨csg_f ‹CSG _ _› (by omega) (by omega), by omega⟩)
set_option maxHeartbeats 4000000 in
theorem vc_Re_advance_20_5 (x2 : Int) (x4 : Int) (x15 : Int) (next_0 : Int) (begin_0 : Int) (end_0 : Int) (number_0 : Int) (number_1 : Int) (next_2 : Int) (tape_2 : Int → Int) (number_2 : Int) (end_2 : Int) (tape_3 : Int → Int) (number_3 : Int) (end_3 : Int) (next_3 : Int) (end_1 : Int) (next_1 : Int) (begin_1 : Int) (kind_1 : Int) (kind_2 : Int) (begin_2 : Int) (tape_0 : Int → Int) (tape_1 : Int → Int) (k2 : 0 ≤ x2 ∧ x2 ≤ 2000) (k4 : 0 ≤ x4 ∧ x4 ≤ 1999) (k15 : 1 ≤ x15 ∧ x15 ≤ 2000) (d0 : x4 + 1 ≤ x15 ∧ x15 ≤ x4 + 1) (g1 : x15 = next_0) (g2 : x4 = begin_0) (g20 : x4 = next_2) (f30 : 1 * x2 + ((-1) * next_2 + 0) ≤ 0) (fe_0_5_1 : end_0 = end_1) (fe_0_6_1 : next_0 = next_1) (fe_0_8_1 : begin_0 = begin_1) (fe_0_9_1 : number_0 = number_1) (fe_0_5_2 : end_1 = end_2) (fe_0_7_2 : kind_1 = kind_2) (fe_0_8_2 : begin_1 = begin_2) (fe_0_9_2 : number_1 = number_2) (fe_0_5_3 : end_2 = end_3) (fe_0_6_3 : next_2 = next_3) (fe_0_9_3 : number_2 = number_3) (hE_0_0_1 : ∀ j : Int, tape_0 j = tape_1 j) (hE_0_0_2 : ∀ j : Int, tape_1 j = tape_2 j) (hE_0_0_3 : ∀ j : Int, tape_2 j = tape_3 j) (hK_0_0 : ∀ j : Int, 0 ≤ j → j < 2000 → (-128) ≤ tape_0 j ∧ tape_0 j ≤ 127) (kz_0_5 : 0 ≤ end_0 ∧ end_0 ≤ 2000) (kz_0_6 : 0 ≤ next_0 ∧ next_0 ≤ 2000) (kz_0_8 : 0 ≤ begin_0 ∧ begin_0 ≤ 2000) (kz_0_9 : (-176) ≤ number_0 ∧ number_0 ≤ 1000000) : 1 * x2 + ((-1) * next_0 + 0) ≤ 0 := by
  subst fe_0_5_1
  subst fe_0_6_1
  subst fe_0_8_1
  subst fe_0_9_1
  subst fe_0_5_2
  subst fe_0_7_2
  subst fe_0_8_2
  subst fe_0_9_2
  subst fe_0_5_3
  subst fe_0_6_3
  subst fe_0_9_3
  have e_hE_0_0_1 := funext hE_0_0_1; subst e_hE_0_0_1
  have e_hE_0_0_2 := funext hE_0_0_2; subst e_hE_0_0_2
  have e_hE_0_0_3 := funext hE_0_0_3; subst e_hE_0_0_3
  first | with_reducible assumption | ((try and_intros) <;> first | with_reducible assumption | (clear hE_0_0_1 hE_0_0_2 hE_0_0_3 hK_0_0; omega)) | omega
def o_Re_advance_20 : or_T := (290, 17, [(0, (2, 0, 0, [8])), (1, (0, -2147483648, 1000000, [])), (2, (0, 0, 2000, [])), (3, (2, 0, 0, [8])), (4, (0, 0, 1999, [])), (5, (0, 1, 2000, [])), (6, (2, 0, 0, [109])), (7, (0, -128, 127, [])), (8, (0, 32, 32, [])), (9, (0, -128, 127, [])), (10, (0, 10, 10, [])), (11, (0, 91, 96, [])), (12, (0, 0, 0, [])), (13, (0, 0, 0, [])), (14, (0, 1, 1, [])), (15, (0, 1, 2000, [])), (16, (0, 1, 1, []))], [(9, [11, 3], [7]), (9, [15, 3], [6]), (9, [4, 3], [8]), (9, [6, 3], [0]), (9, [5, 3], [5]), (20, [11, 16], [61, 0, 1100]), (20, [11, 13], [61, 0, 1098]), (20, [11, 12], [61, 0, 1097]), (20, [3, 1], [30, 0, 1, 1, 9, -1, 0, 0]), (20, [3, 1], [30, 0, -1, 1, 9, 1, 0, 0]), (24, [0, 3], []), (101, [3, 11], [7]), (8, [16], [1]), (20, [11, 16], [61, 0, 1100]), (20, [11, 13], [61, 0, 1098]), (20, [11, 12], [61, 0, 1097]), (20, [3, 1], [30, 0, 1, 1, 9, -1, 0, 0]), (20, [3, 1], [30, 0, -1, 1, 9, 1, 0, 0]), (101, [3, 15], [6]), (1, [15, 4, 14], []), (9, [4, 3], [6]), (8, [13], [0]), (20, [11, 13], [61, 0, 1098]), (8, [12], [0]), (20, [11, 12], [61, 0, 1097]), (10, [11, 6, 4], []), (7, [4, 5], [2]), (20, [3, 1], [30, 0, 1, 1, 9, -1, 0, 0]), (20, [3, 1], [30, 0, -1, 1, 9, 1, 0, 0]), (20, [3, 2], [60, 2, 1, 1074, 5, 6, 0]), (20, [2, 3], [30, 0, 1, 0, 0, -1, 1, 6]), (101, [3, 4], [8]), (7, [9, 10], [1]), (10, [9, 6, 4], []), (7, [7, 8], [1]), (10, [7, 6, 4], []), (7, [4, 5], [2]), (20, [3, 1], [30, 0, 1, 1, 9, -1, 0, 0]), (20, [3, 1], [30, 0, -1, 1, 9, 1, 0, 0]), (20, [3, 2], [60, 2, 1, 1074, 5, 6, 0]), (20, [2, 3], [30, 0, 1, 0, 0, -1, 1, 6])], [], [], [(20, [0, 0, 1], [31, 1, 3, 1, 1, 7, 0, 1, 1, 9, -1, 0, 0]), (20, [0, 0, 1], [31, 1, 3, 1, 1, 7, 0, -1, 1, 9, 1, 0, 0]), (20, [0, 0, 0, 0], [31, 1, -3, -1, 1, 7, 4008, 1, 1, 6, -1, 1, 8, 2000, 1, 7]), (20, [0, 0], [30, 0, 1, 1, 8, -1, 1, 6]), (20, [0, 2], [60, 5, 1, 1072, 5, 6, 7, 8, 9, 0]), (20, [2, 0], [30, 0, 1, 0, 0, -1, 1, 6])], [], [(15, 4, 1, 1), (15, 5, -4294967296, 0), (4, 5, -4294967296, -1)])
theorem oo_Re_advance_20 {kA : Nat → ClassId} : or_ok PRD kA GG o_Re_advance_20 := by
  refine or_mk fun A ta ws vs hD hth hl => ?_
  intro t0 r0 t1 k1 t2 k2 t3 r3 t4 k4 t5 k5 t6 r6 t7 k7 t8 k8 t9 k9 t10 k10 t11 k11 t12 k12 t13 k13 t14 k14 t15 k15 t16 k16 d0 d1 d2 f0 f1 f2 f3 f4 f5 f6 f7 f8 f9 f10 ta1 w1 le1 s1 f12 f13 f14 f15 f16 f17 ta2 w2 le2 s2 f19 f20 f21 f22 f23 f24 f25 f26 f27 f28 f29 f30 ta3 w3 le3 s3 f32 f33 f34 f35 f36 f37 f38 f39 f40
  replace f0 := shm_198 f0
  replace f1 := shm_111 f1
  replace f2 := shm_293 f2
  replace f3 := shm_163 f3
  replace f4 := shm_110 f4
  replace f8 := shm_1521 f8
  replace f9 := shm_1522 f9
  replace f10 := shm_5 f10
  have s1 : (∀ b j, w_el ws b j = w_el w1 b j) ∧ ∀ b j, w_fd ws b j = if b = v_ad (n_v vs 3) ∧ j = 7 then n_v vs 11 else w_fd w1 b j := s1.2
  have s2 : (∀ b j, w_el w1 b j = w_el w2 b j) ∧ ∀ b j, w_fd w1 b j = if b = v_ad (n_v vs 3) ∧ j = 6 then n_v vs 15 else w_fd w2 b j := s2.2
  replace f20 := shm_111 f20
  replace f25 := shm_107 f25
  replace f30 := shm_1527 f30
  have s3 : (∀ b j, w_el w2 b j = w_el w3 b j) ∧ ∀ b j, w_fd w2 b j = if b = v_ad (n_v vs 3) ∧ j = 8 then n_v vs 4 else w_fd w3 b j := s3.2
  replace f39 := shm_1526 f39
  have q3 : n_v vs 3 = n_v vs 0 := f10.symm
  simp only [q3] at f0 f1 f2 f3 f4 f8 f9
  rw [q3] at s1
  rw [q3] at s2
  simp only [q3] at f20 f30
  rw [q3] at s3
  simp only [q3] at f39
  have ar_0_0_1 : w_ar w1 (n_v vs 0) 0 = w_ar ws (n_v vs 0) 0 := by show v_ad (w_fd w1 _ _) = v_ad (w_fd ws _ _); rw [s1.2, if_neg (fun e => absurd e.2 (by decide))]
  have ar_0_0_2 : w_ar w2 (n_v vs 0) 0 = w_ar ws (n_v vs 0) 0 := by rw [← ar_0_0_1]; show v_ad (w_fd w2 _ _) = v_ad (w_fd w1 _ _); rw [s2.2, if_neg (fun e => absurd e.2 (by decide))]
  have ar_0_0_3 : w_ar w3 (n_v vs 0) 0 = w_ar ws (n_v vs 0) 0 := by rw [← ar_0_0_2]; show v_ad (w_fd w3 _ _) = v_ad (w_fd w2 _ _); rw [s3.2, if_neg (fun e => absurd e.2 (by decide))]
  have cr_0_0 := fdq_95 hD hth r0
  have ad_6 : v_ad (n_v vs 6) = w_ar ws (n_v vs 0) 0 := congrArg v_ad f3
  have g0 : v_iv (n_v vs 11) = w_fi ws (n_v vs 0) 7 := congrArg v_iv f0
  have g1 : v_iv (n_v vs 15) = w_fi ws (n_v vs 0) 6 := congrArg v_iv f1
  have g2 : v_iv (n_v vs 4) = w_fi ws (n_v vs 0) 8 := congrArg v_iv f2
  have g4 : v_iv (n_v vs 5) = w_fi ws (n_v vs 0) 5 := congrArg v_iv f4
  have g20 : v_iv (n_v vs 4) = w_fi w2 (n_v vs 0) 6 := congrArg v_iv f20
  simp only [ad_6] at f25
  have h25 : v_iv (n_v vs 11) = w_ei w2 (w_ar ws (n_v vs 0) 0) (v_iv (n_v vs 4)) := f25
  simp only [ar_0_0_3] at f39
  have fe_0_5_1 : w_fi ws (n_v vs 0) 5 = w_fi w1 (n_v vs 0) 5 := by show v_iv (w_fd _ _ _) = v_iv (w_fd _ _ _); rw [s1.2, if_neg (fun e => absurd e.2 (by decide))]
  have fe_0_6_1 : w_fi ws (n_v vs 0) 6 = w_fi w1 (n_v vs 0) 6 := by show v_iv (w_fd _ _ _) = v_iv (w_fd _ _ _); rw [s1.2, if_neg (fun e => absurd e.2 (by decide))]
  have fe_0_8_1 : w_fi ws (n_v vs 0) 8 = w_fi w1 (n_v vs 0) 8 := by show v_iv (w_fd _ _ _) = v_iv (w_fd _ _ _); rw [s1.2, if_neg (fun e => absurd e.2 (by decide))]
  have fe_0_9_1 : w_fi ws (n_v vs 0) 9 = w_fi w1 (n_v vs 0) 9 := by show v_iv (w_fd _ _ _) = v_iv (w_fd _ _ _); rw [s1.2, if_neg (fun e => absurd e.2 (by decide))]
  have fe_0_5_2 : w_fi w1 (n_v vs 0) 5 = w_fi w2 (n_v vs 0) 5 := by show v_iv (w_fd _ _ _) = v_iv (w_fd _ _ _); rw [s2.2, if_neg (fun e => absurd e.2 (by decide))]
  have fe_0_7_2 : w_fi w1 (n_v vs 0) 7 = w_fi w2 (n_v vs 0) 7 := by show v_iv (w_fd _ _ _) = v_iv (w_fd _ _ _); rw [s2.2, if_neg (fun e => absurd e.2 (by decide))]
  have fe_0_8_2 : w_fi w1 (n_v vs 0) 8 = w_fi w2 (n_v vs 0) 8 := by show v_iv (w_fd _ _ _) = v_iv (w_fd _ _ _); rw [s2.2, if_neg (fun e => absurd e.2 (by decide))]
  have fe_0_9_2 : w_fi w1 (n_v vs 0) 9 = w_fi w2 (n_v vs 0) 9 := by show v_iv (w_fd _ _ _) = v_iv (w_fd _ _ _); rw [s2.2, if_neg (fun e => absurd e.2 (by decide))]
  have fe_0_5_3 : w_fi w2 (n_v vs 0) 5 = w_fi w3 (n_v vs 0) 5 := by show v_iv (w_fd _ _ _) = v_iv (w_fd _ _ _); rw [s3.2, if_neg (fun e => absurd e.2 (by decide))]
  have fe_0_6_3 : w_fi w2 (n_v vs 0) 6 = w_fi w3 (n_v vs 0) 6 := by show v_iv (w_fd _ _ _) = v_iv (w_fd _ _ _); rw [s3.2, if_neg (fun e => absurd e.2 (by decide))]
  have fe_0_8_3 : w_fi w2 (n_v vs 0) 8 = v_iv (n_v vs 4) := by show v_iv (w_fd _ _ _) = _; rw [s3.2, if_pos ⟨rfl, rfl⟩]
  have fe_0_9_3 : w_fi w2 (n_v vs 0) 9 = w_fi w3 (n_v vs 0) 9 := by show v_iv (w_fd _ _ _) = v_iv (w_fd _ _ _); rw [s3.2, if_neg (fun e => absurd e.2 (by decide))]
  have hE_0_0_1 : ∀ j : Int, w_ei ws (w_ar ws (n_v vs 0) 0) j = w_ei w1 (w_ar ws (n_v vs 0) 0) j := fun j => s1.1 _ _
  have hE_0_0_2 : ∀ j : Int, w_ei w1 (w_ar ws (n_v vs 0) 0) j = w_ei w2 (w_ar ws (n_v vs 0) 0) j := fun j => s2.1 _ _
  have hE_0_0_3 : ∀ j : Int, w_ei w2 (w_ar ws (n_v vs 0) 0) j = w_ei w3 (w_ar ws (n_v vs 0) 0) j := fun j => s3.1 _ _
  have hK_0_0 := elq_33 hD hth cr_0_0
  have kz_0_5 := fdq_207 hD hth r0
  have kz_0_6 := fdq_208 hD hth r0
  have kz_0_7 := fdq_297 hD hth r0
  have kz_0_8 := fdq_99 hD hth r0
  have kz_0_9 := fdq_296 hD hth r0
  have nf0 : fc_1 PRD (20, [0, 0, 1], [31, 1, 3, 1, 1, 7, 0, 1, 1, 9, -1, 0, 0]) ws (vs) := ⟨nf_in hl rfl, sgq_1528 (vc_Re_advance_20_0 (v_iv (n_v vs 1)) (w_fi ws (n_v vs 0) 7) (w_fi ws (n_v vs 0) 6) (w_fi ws (n_v vs 0) 8) (w_fi ws (n_v vs 0) 5) (w_fi ws (n_v vs 0) 9) (w_fi w1 (n_v vs 0) 9) (w_fi w2 (n_v vs 0) 6) (w_ei w2 (w_ar ws (n_v vs 0) 0)) (w_fi w2 (n_v vs 0) 9) (w_fi w2 (n_v vs 0) 5) (w_ei w3 (w_ar ws (n_v vs 0) 0)) (w_fi w3 (n_v vs 0) 9) (w_fi w3 (n_v vs 0) 5) (w_fi w3 (n_v vs 0) 6) (w_fi w1 (n_v vs 0) 5) (w_fi w1 (n_v vs 0) 6) (w_fi w1 (n_v vs 0) 8) (w_fi w1 (n_v vs 0) 7) (w_fi w2 (n_v vs 0) 7) (w_fi w2 (n_v vs 0) 8) (w_ei ws (w_ar ws (n_v vs 0) 0)) (w_ei w1 (w_ar ws (n_v vs 0) 0)) k1 f8 f9 fe_0_5_1 fe_0_6_1 fe_0_8_1 fe_0_9_1 fe_0_5_2 fe_0_7_2 fe_0_8_2 fe_0_9_2 fe_0_5_3 fe_0_6_3 fe_0_9_3 hE_0_0_1 hE_0_0_2 hE_0_0_3 hK_0_0 kz_0_5 kz_0_6 kz_0_7 kz_0_8 kz_0_9)⟩
  have nf1 : fc_1 PRD (20, [0, 0, 1], [31, 1, 3, 1, 1, 7, 0, -1, 1, 9, 1, 0, 0]) ws (vs) := ⟨nf_in hl rfl, sgq_1529 (vc_Re_advance_20_1 (v_iv (n_v vs 1)) (w_fi ws (n_v vs 0) 7) (w_fi ws (n_v vs 0) 6) (w_fi ws (n_v vs 0) 8) (w_fi ws (n_v vs 0) 5) (w_fi ws (n_v vs 0) 9) (w_fi w1 (n_v vs 0) 9) (w_fi w2 (n_v vs 0) 6) (w_ei w2 (w_ar ws (n_v vs 0) 0)) (w_fi w2 (n_v vs 0) 9) (w_fi w2 (n_v vs 0) 5) (w_ei w3 (w_ar ws (n_v vs 0) 0)) (w_fi w3 (n_v vs 0) 9) (w_fi w3 (n_v vs 0) 5) (w_fi w3 (n_v vs 0) 6) (w_fi w1 (n_v vs 0) 5) (w_fi w1 (n_v vs 0) 6) (w_fi w1 (n_v vs 0) 8) (w_fi w1 (n_v vs 0) 7) (w_fi w2 (n_v vs 0) 7) (w_fi w2 (n_v vs 0) 8) (w_ei ws (w_ar ws (n_v vs 0) 0)) (w_ei w1 (w_ar ws (n_v vs 0) 0)) k1 f8 f9 fe_0_5_1 fe_0_6_1 fe_0_8_1 fe_0_9_1 fe_0_5_2 fe_0_7_2 fe_0_8_2 fe_0_9_2 fe_0_5_3 fe_0_6_3 fe_0_9_3 hE_0_0_1 hE_0_0_2 hE_0_0_3 hK_0_0 kz_0_5 kz_0_6 kz_0_7 kz_0_8 kz_0_9)⟩
  have nf2 : fc_1 PRD (20, [0, 0, 0, 0], [31, 1, -3, -1, 1, 7, 4008, 1, 1, 6, -1, 1, 8, 2000, 1, 7]) ws (vs) := ⟨nf_in hl rfl, sgq_1530 (vc_Re_advance_20_2 (v_iv (n_v vs 4)) (v_iv (n_v vs 11)) (w_fi ws (n_v vs 0) 7) (w_fi ws (n_v vs 0) 6) (w_fi ws (n_v vs 0) 8) (w_fi ws (n_v vs 0) 5) (w_fi ws (n_v vs 0) 9) (w_fi w1 (n_v vs 0) 9) (w_fi w2 (n_v vs 0) 6) (w_ei w2 (w_ar ws (n_v vs 0) 0)) (w_fi w2 (n_v vs 0) 9) (w_fi w2 (n_v vs 0) 5) (w_ei w3 (w_ar ws (n_v vs 0) 0)) (w_fi w3 (n_v vs 0) 9) (w_fi w3 (n_v vs 0) 5) (w_fi w3 (n_v vs 0) 6) (w_fi w1 (n_v vs 0) 5) (w_fi w1 (n_v vs 0) 6) (w_fi w1 (n_v vs 0) 8) (w_fi w1 (n_v vs 0) 7) (w_fi w2 (n_v vs 0) 7) (w_fi w2 (n_v vs 0) 8) (w_ei ws (w_ar ws (n_v vs 0) 0)) (w_ei w1 (w_ar ws (n_v vs 0) 0)) k4 k11 g0 h25 fe_0_5_1 fe_0_6_1 fe_0_8_1 fe_0_9_1 fe_0_5_2 fe_0_7_2 fe_0_8_2 fe_0_9_2 fe_0_5_3 fe_0_6_3 fe_0_9_3 hE_0_0_1 hE_0_0_2 hE_0_0_3 hK_0_0 kz_0_5 kz_0_6 kz_0_7 kz_0_8 kz_0_9)⟩
  have nf3 : fc_1 PRD (20, [0, 0], [30, 0, 1, 1, 8, -1, 1, 6]) ws (vs) := ⟨nf_in hl rfl, sgq_1531 (vc_Re_advance_20_3 (v_iv (n_v vs 4)) (v_iv (n_v vs 15)) (w_fi ws (n_v vs 0) 6) (w_fi ws (n_v vs 0) 8) (w_fi ws (n_v vs 0) 5) (w_fi ws (n_v vs 0) 9) (w_fi w1 (n_v vs 0) 9) (w_fi w2 (n_v vs 0) 6) (w_ei w2 (w_ar ws (n_v vs 0) 0)) (w_fi w2 (n_v vs 0) 9) (w_fi w2 (n_v vs 0) 5) (w_ei w3 (w_ar ws (n_v vs 0) 0)) (w_fi w3 (n_v vs 0) 9) (w_fi w3 (n_v vs 0) 5) (w_fi w3 (n_v vs 0) 6) (w_fi w1 (n_v vs 0) 5) (w_fi w1 (n_v vs 0) 6) (w_fi w1 (n_v vs 0) 8) (w_fi w1 (n_v vs 0) 7) (w_fi w2 (n_v vs 0) 7) (w_fi w2 (n_v vs 0) 8) (w_ei ws (w_ar ws (n_v vs 0) 0)) (w_ei w1 (w_ar ws (n_v vs 0) 0)) k4 k15 d0 g1 g2 fe_0_5_1 fe_0_6_1 fe_0_8_1 fe_0_9_1 fe_0_5_2 fe_0_7_2 fe_0_8_2 fe_0_9_2 fe_0_5_3 fe_0_6_3 fe_0_9_3 hE_0_0_1 hE_0_0_2 hE_0_0_3 hK_0_0 kz_0_5 kz_0_6 kz_0_8 kz_0_9)⟩
  have nf4 : fc_1 PRD (20, [0, 2], [60, 5, 1, 1072, 5, 6, 7, 8, 9, 0]) ws (vs) := ⟨nf_in hl rfl, sgq_1532 (vc_Re_advance_20_4 (v_iv (n_v vs 2)) (v_iv (n_v vs 4)) (v_iv (n_v vs 5)) (v_iv (n_v vs 11)) (v_iv (n_v vs 15)) (v_iv (n_v vs 16)) (w_fi ws (n_v vs 0) 7) (w_fi ws (n_v vs 0) 6) (w_fi ws (n_v vs 0) 8) (w_fi ws (n_v vs 0) 5) (w_fi ws (n_v vs 0) 9) (w_fi w1 (n_v vs 0) 9) (w_fi w2 (n_v vs 0) 6) (w_ei w2 (w_ar ws (n_v vs 0) 0)) (w_fi w2 (n_v vs 0) 9) (w_fi w2 (n_v vs 0) 5) (w_ei w3 (w_ar ws (n_v vs 0) 0)) (w_fi w3 (n_v vs 0) 9) (w_fi w3 (n_v vs 0) 5) (w_fi w3 (n_v vs 0) 6) (w_fi w1 (n_v vs 0) 5) (w_fi w1 (n_v vs 0) 6) (w_fi w1 (n_v vs 0) 8) (w_fi w1 (n_v vs 0) 7) (w_fi w2 (n_v vs 0) 7) (w_fi w2 (n_v vs 0) 8) (w_ei ws (w_ar ws (n_v vs 0) 0)) (w_ei w1 (w_ar ws (n_v vs 0) 0)) k2 k4 k5 k11 k15 k16 d0 g0 g1 g2 g4 (shm_142 f12) (shm_454 f13) g20 h25 (shm_6 f36) f39 fe_0_5_1 fe_0_6_1 fe_0_8_1 fe_0_9_1 fe_0_5_2 fe_0_7_2 fe_0_8_2 fe_0_9_2 fe_0_5_3 fe_0_6_3 fe_0_8_3 fe_0_9_3 hE_0_0_1 hE_0_0_2 hE_0_0_3 hK_0_0 kz_0_5 kz_0_6 kz_0_7 kz_0_8 kz_0_9)⟩
  have nf5 : fc_1 PRD (20, [2, 0], [30, 0, 1, 0, 0, -1, 1, 6]) ws (vs) := ⟨nf_in hl rfl, sgq_1527 (vc_Re_advance_20_5 (v_iv (n_v vs 2)) (v_iv (n_v vs 4)) (v_iv (n_v vs 15)) (w_fi ws (n_v vs 0) 6) (w_fi ws (n_v vs 0) 8) (w_fi ws (n_v vs 0) 5) (w_fi ws (n_v vs 0) 9) (w_fi w1 (n_v vs 0) 9) (w_fi w2 (n_v vs 0) 6) (w_ei w2 (w_ar ws (n_v vs 0) 0)) (w_fi w2 (n_v vs 0) 9) (w_fi w2 (n_v vs 0) 5) (w_ei w3 (w_ar ws (n_v vs 0) 0)) (w_fi w3 (n_v vs 0) 9) (w_fi w3 (n_v vs 0) 5) (w_fi w3 (n_v vs 0) 6) (w_fi w1 (n_v vs 0) 5) (w_fi w1 (n_v vs 0) 6) (w_fi w1 (n_v vs 0) 8) (w_fi w1 (n_v vs 0) 7) (w_fi w2 (n_v vs 0) 7) (w_fi w2 (n_v vs 0) 8) (w_ei ws (w_ar ws (n_v vs 0) 0)) (w_ei w1 (w_ar ws (n_v vs 0) 0)) k2 k4 k15 d0 g1 g2 g20 f30 fe_0_5_1 fe_0_6_1 fe_0_8_1 fe_0_9_1 fe_0_5_2 fe_0_7_2 fe_0_8_2 fe_0_9_2 fe_0_5_3 fe_0_6_3 fe_0_9_3 hE_0_0_1 hE_0_0_2 hE_0_0_3 hK_0_0 kz_0_5 kz_0_6 kz_0_8 kz_0_9)⟩
  refine ⟨(fun _ h => (by cases h)), [], trivial, ?_, (fun _ h => (by cases h))⟩
  rw [List.append_nil]
  exact List.forall_mem_cons.mpr ⟨⟨show (20 : Nat) < 100 from by decide, nf0⟩, List.forall_mem_cons.mpr ⟨⟨show (20 : Nat) < 100 from by decide, nf1⟩, List.forall_mem_cons.mpr ⟨⟨show (20 : Nat) < 100 from by decide, nf2⟩, List.forall_mem_cons.mpr ⟨⟨show (20 : Nat) < 100 from by decide, nf3⟩, List.forall_mem_cons.mpr ⟨⟨show (20 : Nat) < 100 from by decide, nf4⟩, List.forall_mem_cons.mpr ⟨⟨show (20 : Nat) < 100 from by decide, nf5⟩, (fun _ h => (by cases h))⟩⟩⟩⟩⟩⟩
set_option maxHeartbeats 4000000 in
theorem vc_Re_advance_21_0 (x4 : Int) (begin_0 : Int) (tape_0 : Int → Int) (next_0 : Int) (end_0 : Int) (number_0 : Int) (tape_1 : Int → Int) (number_1 : Int) (end_1 : Int) (next_1 : Int) (k4 : 0 ≤ x4 ∧ x4 ≤ 1999) (g0 : x4 = begin_0) (g4 : x4 = next_0) (fe_0_5_1 : end_0 = end_1) (fe_0_6_1 : next_0 = next_1) (fe_0_9_1 : number_0 = number_1) (hE_0_0_1 : ∀ j : Int, tape_0 j = tape_1 j) (hK_0_0 : ∀ j : Int, 0 ≤ j → j < 2000 → (-128) ≤ tape_0 j ∧ tape_0 j ≤ 127) (kz_0_5 : 0 ≤ end_0 ∧ end_0 ≤ 2000) (kz_0_6 : 0 ≤ next_0 ∧ next_0 ≤ 2000) (kz_0_8 : 0 ≤ begin_0 ∧ begin_0 ≤ 2000) (kz_0_9 : (-176) ≤ number_0 ∧ number_0 ≤ 1000000) : 1 * begin_0 + ((-1) * next_0 + 0) ≤ 0 := by
  subst fe_0_5_1
  subst fe_0_6_1
  subst fe_0_9_1
  have e_hE_0_0_1 := funext hE_0_0_1; subst e_hE_0_0_1
  first | with_reducible assumption | ((try and_intros) <;> first | with_reducible assumption | (clear hE_0_0_1 hK_0_0; omega)) | omega
set_option maxHeartbeats 4000000 in
theorem vc_Re_advance_21_1 (x2 : Int) (x4 : Int) (x5 : Int) (x11 : Int) (begin_0 : Int) (tape_0 : Int → Int) (next_0 : Int) (end_0 : Int) (number_0 : Int) (tape_1 : Int → Int) (number_1 : Int) (end_1 : Int) (next_1 : Int) (k2 : 0 ≤ x2 ∧ x2 ≤ 2000) (k4 : 0 ≤ x4 ∧ x4 ≤ 1999) (k5 : 1 ≤ x5 ∧ x5 ≤ 2000) (k11 : 65 ≤ x11 ∧ x11 ≤ 90) (g0 : x4 = begin_0) (h3 : x11 = tape_0 (x4)) (g4 : x4 = next_0) (g7 : x5 = end_0) (f18 : x4 < x5) (f21 : CX0 (end_1) (next_1) (tape_1) (x2)) (fe_0_5_1 : end_0 = end_1) (fe_0_6_1 : next_0 = next_1) (fe_0_8_1 : begin_0 = x4) (fe_0_9_1 : number_0 = number_1) (hE_0_0_1 : ∀ j : Int, tape_0 j = tape_1 j) (hK_0_0 : ∀ j : Int, 0 ≤ j → j < 2000 → (-128) ≤ tape_0 j ∧ tape_0 j ≤ 127) (kz_0_5 : 0 ≤ end_0 ∧ end_0 ≤ 2000) (kz_0_6 : 0 ≤ next_0 ∧ next_0 ≤ 2000) (kz_0_8 : 0 ≤ begin_0 ∧ begin_0 ≤ 2000) (kz_0_9 : (-176) ≤ number_0 ∧ number_0 ≤ 1000000) : CXL (end_0) (next_0) (begin_0) (tape_0) (x2) := by
  subst fe_0_5_1
  subst fe_0_6_1
  subst fe_0_9_1
  have e_hE_0_0_1 := funext hE_0_0_1; subst e_hE_0_0_1
  first | subst g0 | skip
  first | subst g4 | skip
  first | subst g7 | skip
  first
    | exact cxl_s (by assumption) ‹CXL _ _ _ _ _› (by omega) (by unfold cIL cIG; omega) (by omega)
    | exact cxl_0 (by assumption) (cx_1 (by assumption) ‹CX0 _ _ _ _› (fun q => by omega) (by omega)) (by omega) (by unfold cIL; omega)
def o_Re_advance_21 : or_T := (94, 13, [(0, (2, 0, 0, [8])), (1, (0, -2147483648, 1000000, [])), (2, (0, 0, 2000, [])), (3, (2, 0, 0, [8])), (4, (0, 0, 1999, [])), (5, (0, 1, 2000, [])), (6, (2, 0, 0, [109])), (7, (0, -128, 127, [])), (8, (0, 32, 32, [])), (9, (0, -128, 127, [])), (10, (0, 10, 10, [])), (11, (0, 65, 90, [])), (12, (0, 1, 1, []))], [(9, [4, 3], [8]), (8, [12], [1]), (20, [11, 12], [61, 0, 1097]), (10, [11, 6, 4], []), (9, [4, 3], [6]), (9, [6, 3], [0]), (7, [4, 5], [2]), (9, [5, 3], [5]), (20, [3, 1], [30, 0, 1, 1, 9, -1, 0, 0]), (20, [3, 1], [30, 0, -1, 1, 9, 1, 0, 0]), (20, [3, 2], [60, 2, 1, 1074, 5, 6, 0]), (20, [2, 3], [30, 0, 1, 0, 0, -1, 1, 6]), (24, [0, 3], []), (101, [3, 4], [8]), (7, [9, 10], [1]), (10, [9, 6, 4], []), (7, [7, 8], [1]), (10, [7, 6, 4], []), (7, [4, 5], [2]), (20, [3, 1], [30, 0, 1, 1, 9, -1, 0, 0]), (20, [3, 1], [30, 0, -1, 1, 9, 1, 0, 0]), (20, [3, 2], [60, 2, 1, 1074, 5, 6, 0]), (20, [2, 3], [30, 0, 1, 0, 0, -1, 1, 6])], [], [], [(20, [3, 3], [30, 0, 1, 1, 8, -1, 1, 6]), (20, [3, 2], [60, 3, 1, 1076, 5, 6, 8, 0])], [], [(4, 5, -4294967296, -1)])
theorem oo_Re_advance_21 {kA : Nat → ClassId} : or_ok PRD kA GG o_Re_advance_21 := by
  refine or_mk fun A ta ws vs hD hth hl => ?_
  intro t0 r0 t1 k1 t2 k2 t3 r3 t4 k4 t5 k5 t6 r6 t7 k7 t8 k8 t9 k9 t10 k10 t11 k11 t12 k12 d0 f0 f1 f2 f3 f4 f5 f6 f7 f8 f9 f10 f11 f12 ta1 w1 le1 s1 f14 f15 f16 f17 f18 f19 f20 f21 f22
  replace f0 := shm_293 f0
  replace f3 := shm_107 f3
  replace f4 := shm_111 f4
  replace f5 := shm_163 f5
  replace f7 := shm_110 f7
  replace f12 := shm_5 f12
  have s1 : (∀ b j, w_el ws b j = w_el w1 b j) ∧ ∀ b j, w_fd ws b j = if b = v_ad (n_v vs 3) ∧ j = 8 then n_v vs 4 else w_fd w1 b j := s1.2
  replace f18 := shm_6 f18
  replace f21 := shm_1526 f21
  have q3 : n_v vs 3 = n_v vs 0 := f12.symm
  simp only [q3] at f0 f4 f5 f7
  rw [q3] at s1
  simp only [q3] at f21
  have ar_0_0_1 : w_ar w1 (n_v vs 0) 0 = w_ar ws (n_v vs 0) 0 := by show v_ad (w_fd w1 _ _) = v_ad (w_fd ws _ _); rw [s1.2, if_neg (fun e => absurd e.2 (by decide))]
  have cr_0_0 := fdq_95 hD hth r0
  have ad_6 : v_ad (n_v vs 6) = w_ar ws (n_v vs 0) 0 := congrArg v_ad f5
  have g0 : v_iv (n_v vs 4) = w_fi ws (n_v vs 0) 8 := congrArg v_iv f0
  simp only [ad_6] at f3
  have h3 : v_iv (n_v vs 11) = w_ei ws (w_ar ws (n_v vs 0) 0) (v_iv (n_v vs 4)) := f3
  have g4 : v_iv (n_v vs 4) = w_fi ws (n_v vs 0) 6 := congrArg v_iv f4
  have g7 : v_iv (n_v vs 5) = w_fi ws (n_v vs 0) 5 := congrArg v_iv f7
  simp only [ar_0_0_1] at f21
  have fe_0_5_1 : w_fi ws (n_v vs 0) 5 = w_fi w1 (n_v vs 0) 5 := by show v_iv (w_fd _ _ _) = v_iv (w_fd _ _ _); rw [s1.2, if_neg (fun e => absurd e.2 (by decide))]
  have fe_0_6_1 : w_fi ws (n_v vs 0) 6 = w_fi w1 (n_v vs 0) 6 := by show v_iv (w_fd _ _ _) = v_iv (w_fd _ _ _); rw [s1.2, if_neg (fun e => absurd e.2 (by decide))]
  have fe_0_8_1 : w_fi ws (n_v vs 0) 8 = v_iv (n_v vs 4) := by show v_iv (w_fd _ _ _) = _; rw [s1.2, if_pos ⟨rfl, rfl⟩]
  have fe_0_9_1 : w_fi ws (n_v vs 0) 9 = w_fi w1 (n_v vs 0) 9 := by show v_iv (w_fd _ _ _) = v_iv (w_fd _ _ _); rw [s1.2, if_neg (fun e => absurd e.2 (by decide))]
  have hE_0_0_1 : ∀ j : Int, w_ei ws (w_ar ws (n_v vs 0) 0) j = w_ei w1 (w_ar ws (n_v vs 0) 0) j := fun j => s1.1 _ _
  have hK_0_0 := elq_33 hD hth cr_0_0
  have kz_0_5 := fdq_207 hD hth r0
  have kz_0_6 := fdq_208 hD hth r0
  have kz_0_8 := fdq_99 hD hth r0
  have kz_0_9 := fdq_296 hD hth r0
  have nf0 : fc_1 PRD (20, [3, 3], [30, 0, 1, 1, 8, -1, 1, 6]) ws (vs) := by
    refine ⟨nf_in hl rfl, sgq_1531 ?_⟩
    · show 1 * w_fi ws (n_v vs 3) 8 + ((-1) * w_fi ws (n_v vs 3) 6 + 0) ≤ 0
      rw [q3]
      exact vc_Re_advance_21_0 (v_iv (n_v vs 4)) (w_fi ws (n_v vs 0) 8) (w_ei ws (w_ar ws (n_v vs 0) 0)) (w_fi ws (n_v vs 0) 6) (w_fi ws (n_v vs 0) 5) (w_fi ws (n_v vs 0) 9) (w_ei w1 (w_ar ws (n_v vs 0) 0)) (w_fi w1 (n_v vs 0) 9) (w_fi w1 (n_v vs 0) 5) (w_fi w1 (n_v vs 0) 6) k4 g0 g4 fe_0_5_1 fe_0_6_1 fe_0_9_1 hE_0_0_1 hK_0_0 kz_0_5 kz_0_6 kz_0_8 kz_0_9
  have nf1 : fc_1 PRD (20, [3, 2], [60, 3, 1, 1076, 5, 6, 8, 0]) ws (vs) := by
    refine ⟨nf_in hl rfl, sgq_1534 ?_⟩
    · show CXL (w_fi ws (n_v vs 3) 5) (w_fi ws (n_v vs 3) 6) (w_fi ws (n_v vs 3) 8) (w_ei ws (w_ar ws (n_v vs 3) 0)) (v_iv (n_v vs 2))
      rw [q3]
      exact vc_Re_advance_21_1 (v_iv (n_v vs 2)) (v_iv (n_v vs 4)) (v_iv (n_v vs 5)) (v_iv (n_v vs 11)) (w_fi ws (n_v vs 0) 8) (w_ei ws (w_ar ws (n_v vs 0) 0)) (w_fi ws (n_v vs 0) 6) (w_fi ws (n_v vs 0) 5) (w_fi ws (n_v vs 0) 9) (w_ei w1 (w_ar ws (n_v vs 0) 0)) (w_fi w1 (n_v vs 0) 9) (w_fi w1 (n_v vs 0) 5) (w_fi w1 (n_v vs 0) 6) k2 k4 k5 k11 g0 h3 g4 g7 f18 f21 fe_0_5_1 fe_0_6_1 fe_0_8_1 fe_0_9_1 hE_0_0_1 hK_0_0 kz_0_5 kz_0_6 kz_0_8 kz_0_9
  refine ⟨(fun _ h => (by cases h)), [], trivial, ?_, (fun _ h => (by cases h))⟩
  rw [List.append_nil]
  exact List.forall_mem_cons.mpr ⟨⟨show (20 : Nat) < 100 from by decide, nf0⟩, List.forall_mem_cons.mpr ⟨⟨show (20 : Nat) < 100 from by decide, nf1⟩, (fun _ h => (by cases h))⟩⟩
set_option maxHeartbeats 4000000 in
theorem vc_Re_advance_22_0 (x4 : Int) (begin_0 : Int) (tape_0 : Int → Int) (next_0 : Int) (end_0 : Int) (number_0 : Int) (tape_1 : Int → Int) (number_1 : Int) (end_1 : Int) (next_1 : Int) (k4 : 0 ≤ x4 ∧ x4 ≤ 1999) (g0 : x4 = begin_0) (g4 : x4 = next_0) (fe_0_5_1 : end_0 = end_1) (fe_0_6_1 : next_0 = next_1) (fe_0_9_1 : number_0 = number_1) (hE_0_0_1 : ∀ j : Int, tape_0 j = tape_1 j) (hK_0_0 : ∀ j : Int, 0 ≤ j → j < 2000 → (-128) ≤ tape_0 j ∧ tape_0 j ≤ 127) (kz_0_5 : 0 ≤ end_0 ∧ end_0 ≤ 2000) (kz_0_6 : 0 ≤ next_0 ∧ next_0 ≤ 2000) (kz_0_8 : 0 ≤ begin_0 ∧ begin_0 ≤ 2000) (kz_0_9 : (-176) ≤ number_0 ∧ number_0 ≤ 1000000) : 1 * begin_0 + ((-1) * next_0 + 0) ≤ 0 := by
  subst fe_0_5_1
  subst fe_0_6_1
  subst fe_0_9_1
  have e_hE_0_0_1 := funext hE_0_0_1; subst e_hE_0_0_1
  first | with_reducible assumption | ((try and_intros) <;> first | with_reducible assumption | (clear hE_0_0_1 hK_0_0; omega)) | omega
set_option maxHeartbeats 4000000 in
theorem vc_Re_advance_22_1 (x2 : Int) (x4 : Int) (x5 : Int) (x11 : Int) (begin_0 : Int) (tape_0 : Int → Int) (next_0 : Int) (end_0 : Int) (number_0 : Int) (tape_1 : Int → Int) (number_1 : Int) (end_1 : Int) (next_1 : Int) (k2 : 0 ≤ x2 ∧ x2 ≤ 2000) (k4 : 0 ≤ x4 ∧ x4 ≤ 1999) (k5 : 1 ≤ x5 ∧ x5 ≤ 2000) (k11 : 97 ≤ x11 ∧ x11 ≤ 122) (g0 : x4 = begin_0) (h3 : x11 = tape_0 (x4)) (g4 : x4 = next_0) (g7 : x5 = end_0) (f18 : x4 < x5) (f21 : CX0 (end_1) (next_1) (tape_1) (x2)) (fe_0_5_1 : end_0 = end_1) (fe_0_6_1 : next_0 = next_1) (fe_0_8_1 : begin_0 = x4) (fe_0_9_1 : number_0 = number_1) (hE_0_0_1 : ∀ j : Int, tape_0 j = tape_1 j) (hK_0_0 : ∀ j : Int, 0 ≤ j → j < 2000 → (-128) ≤ tape_0 j ∧ tape_0 j ≤ 127) (kz_0_5 : 0 ≤ end_0 ∧ end_0 ≤ 2000) (kz_0_6 : 0 ≤ next_0 ∧ next_0 ≤ 2000) (kz_0_8 : 0 ≤ begin_0 ∧ begin_0 ≤ 2000) (kz_0_9 : (-176) ≤ number_0 ∧ number_0 ≤ 1000000) : CXL (end_0) (next_0) (begin_0) (tape_0) (x2) := by
  subst fe_0_5_1
  subst fe_0_6_1
  subst fe_0_9_1
  have e_hE_0_0_1 := funext hE_0_0_1; subst e_hE_0_0_1
  first | subst g0 | skip
  first | subst g4 | skip
  first | subst g7 | skip
  first
    | exact cxl_s (by assumption) ‹CXL _ _ _ _ _› (by omega) (by unfold cIL cIG; omega) (by omega)
    | exact cxl_0 (by assumption) (cx_1 (by assumption) ‹CX0 _ _ _ _› (fun q => by omega) (by omega)) (by omega) (by unfold cIL; omega)
def o_Re_advance_22 : or_T := (94, 13, [(0, (2, 0, 0, [8])), (1, (0, -2147483648, 1000000, [])), (2, (0, 0, 2000, [])), (3, (2, 0, 0, [8])), (4, (0, 0, 1999, [])), (5, (0, 1, 2000, [])), (6, (2, 0, 0, [109])), (7, (0, -128, 127, [])), (8, (0, 32, 32, [])), (9, (0, -128, 127, [])), (10, (0, 10, 10, [])), (11, (0, 97, 122, [])), (12, (0, 1, 1, []))], [(9, [4, 3], [8]), (8, [12], [1]), (20, [11, 12], [61, 0, 1097]), (10, [11, 6, 4], []), (9, [4, 3], [6]), (9, [6, 3], [0]), (7, [4, 5], [2]), (9, [5, 3], [5]), (20, [3, 1], [30, 0, 1, 1, 9, -1, 0, 0]), (20, [3, 1], [30, 0, -1, 1, 9, 1, 0, 0]), (20, [3, 2], [60, 2, 1, 1074, 5, 6, 0]), (20, [2, 3], [30, 0, 1, 0, 0, -1, 1, 6]), (24, [0, 3], []), (101, [3, 4], [8]), (7, [9, 10], [1]), (10, [9, 6, 4], []), (7, [7, 8], [1]), (10, [7, 6, 4], []), (7, [4, 5], [2]), (20, [3, 1], [30, 0, 1, 1, 9, -1, 0, 0]), (20, [3, 1], [30, 0, -1, 1, 9, 1, 0, 0]), (20, [3, 2], [60, 2, 1, 1074, 5, 6, 0]), (20, [2, 3], [30, 0, 1, 0, 0, -1, 1, 6])], [], [], [(20, [3, 3], [30, 0, 1, 1, 8, -1, 1, 6]), (20, [3, 2], [60, 3, 1, 1076, 5, 6, 8, 0])], [], [(4, 5, -4294967296, -1)])
theorem oo_Re_advance_22 {kA : Nat → ClassId} : or_ok PRD kA GG o_Re_advance_22 := by
  refine or_mk fun A ta ws vs hD hth hl => ?_
  intro t0 r0 t1 k1 t2 k2 t3 r3 t4 k4 t5 k5 t6 r6 t7 k7 t8 k8 t9 k9 t10 k10 t11 k11 t12 k12 d0 f0 f1 f2 f3 f4 f5 f6 f7 f8 f9 f10 f11 f12 ta1 w1 le1 s1 f14 f15 f16 f17 f18 f19 f20 f21 f22
  replace f0 := shm_293 f0
  replace f3 := shm_107 f3
  replace f4 := shm_111 f4
  replace f5 := shm_163 f5
  replace f7 := shm_110 f7
  replace f12 := shm_5 f12
  have s1 : (∀ b j, w_el ws b j = w_el w1 b j) ∧ ∀ b j, w_fd ws b j = if b = v_ad (n_v vs 3) ∧ j = 8 then n_v vs 4 else w_fd w1 b j := s1.2
  replace f18 := shm_6 f18
  replace f21 := shm_1526 f21
  have q3 : n_v vs 3 = n_v vs 0 := f12.symm
  simp only [q3] at f0 f4 f5 f7
  rw [q3] at s1
  simp only [q3] at f21
  have ar_0_0_1 : w_ar w1 (n_v vs 0) 0 = w_ar ws (n_v vs 0) 0 := by show v_ad (w_fd w1 _ _) = v_ad (w_fd ws _ _); rw [s1.2, if_neg (fun e => absurd e.2 (by decide))]
  have cr_0_0 := fdq_95 hD hth r0
  have ad_6 : v_ad (n_v vs 6) = w_ar ws (n_v vs 0) 0 := congrArg v_ad f5
  have g0 : v_iv (n_v vs 4) = w_fi ws (n_v vs 0) 8 := congrArg v_iv f0
  simp only [ad_6] at f3
  have h3 : v_iv (n_v vs 11) = w_ei ws (w_ar ws (n_v vs 0) 0) (v_iv (n_v vs 4)) := f3
  have g4 : v_iv (n_v vs 4) = w_fi ws (n_v vs 0) 6 := congrArg v_iv f4
  have g7 : v_iv (n_v vs 5) = w_fi ws (n_v vs 0) 5 := congrArg v_iv f7
  simp only [ar_0_0_1] at f21
  have fe_0_5_1 : w_fi ws (n_v vs 0) 5 = w_fi w1 (n_v vs 0) 5 := by show v_iv (w_fd _ _ _) = v_iv (w_fd _ _ _); rw [s1.2, if_neg (fun e => absurd e.2 (by decide))]
  have fe_0_6_1 : w_fi ws (n_v vs 0) 6 = w_fi w1 (n_v vs 0) 6 := by show v_iv (w_fd _ _ _) = v_iv (w_fd _ _ _); rw [s1.2, if_neg (fun e => absurd e.2 (by decide))]
  have fe_0_8_1 : w_fi ws (n_v vs 0) 8 = v_iv (n_v vs 4) := by show v_iv (w_fd _ _ _) = _; rw [s1.2, if_pos ⟨rfl, rfl⟩]
  have fe_0_9_1 : w_fi ws (n_v vs 0) 9 = w_fi w1 (n_v vs 0) 9 := by show v_iv (w_fd _ _ _) = v_iv (w_fd _ _ _); rw [s1.2, if_neg (fun e => absurd e.2 (by decide))]
  have hE_0_0_1 : ∀ j : Int, w_ei ws (w_ar ws (n_v vs 0) 0) j = w_ei w1 (w_ar ws (n_v vs 0) 0) j := fun j => s1.1 _ _
  have hK_0_0 := elq_33 hD hth cr_0_0
  have kz_0_5 := fdq_207 hD hth r0
  have kz_0_6 := fdq_208 hD hth r0
  have kz_0_8 := fdq_99 hD hth r0
  have kz_0_9 := fdq_296 hD hth r0
  have nf0 : fc_1 PRD (20, [3, 3], [30, 0, 1, 1, 8, -1, 1, 6]) ws (vs) := by
    refine ⟨nf_in hl rfl, sgq_1531 ?_⟩
    · show 1 * w_fi ws (n_v vs 3) 8 + ((-1) * w_fi ws (n_v vs 3) 6 + 0) ≤ 0
      rw [q3]
      exact vc_Re_advance_22_0 (v_iv (n_v vs 4)) (w_fi ws (n_v vs 0) 8) (w_ei ws (w_ar ws (n_v vs 0) 0)) (w_fi ws (n_v vs 0) 6) (w_fi ws (n_v vs 0) 5) (w_fi ws (n_v vs 0) 9) (w_ei w1 (w_ar ws (n_v vs 0) 0)) (w_fi w1 (n_v vs 0) 9) (w_fi w1 (n_v vs 0) 5) (w_fi w1 (n_v vs 0) 6) k4 g0 g4 fe_0_5_1 fe_0_6_1 fe_0_9_1 hE_0_0_1 hK_0_0 kz_0_5 kz_0_6 kz_0_8 kz_0_9
  have nf1 : fc_1 PRD (20, [3, 2], [60, 3, 1, 1076, 5, 6, 8, 0]) ws (vs) := by
    refine ⟨nf_in hl rfl, sgq_1534 ?_⟩
    · show CXL (w_fi ws (n_v vs 3) 5) (w_fi ws (n_v vs 3) 6) (w_fi ws (n_v vs 3) 8) (w_ei ws (w_ar ws (n_v vs 3) 0)) (v_iv (n_v vs 2))
      rw [q3]
      exact vc_Re_advance_22_1 (v_iv (n_v vs 2)) (v_iv (n_v vs 4)) (v_iv (n_v vs 5)) (v_iv (n_v vs 11)) (w_fi ws (n_v vs 0) 8) (w_ei ws (w_ar ws (n_v vs 0) 0)) (w_fi ws (n_v vs 0) 6) (w_fi ws (n_v vs 0) 5) (w_fi ws (n_v vs 0) 9) (w_ei w1 (w_ar ws (n_v vs 0) 0)) (w_fi w1 (n_v vs 0) 9) (w_fi w1 (n_v vs 0) 5) (w_fi w1 (n_v vs 0) 6) k2 k4 k5 k11 g0 h3 g4 g7 f18 f21 fe_0_5_1 fe_0_6_1 fe_0_8_1 fe_0_9_1 hE_0_0_1 hK_0_0 kz_0_5 kz_0_6 kz_0_8 kz_0_9
  refine ⟨(fun _ h => (by cases h)), [], trivial, ?_, (fun _ h => (by cases h))⟩
  rw [List.append_nil]
  exact List.forall_mem_cons.mpr ⟨⟨show (20 : Nat) < 100 from by decide, nf0⟩, List.forall_mem_cons.mpr ⟨⟨show (20 : Nat) < 100 from by decide, nf1⟩, (fun _ h => (by cases h))⟩⟩
set_option maxHeartbeats 4000000 in
theorem vc_Re_advance_23_0 (x1 : Int) (x17 : Int) (kind_0 : Int) (next_0 : Int) (begin_0 : Int) (end_0 : Int) (number_0 : Int) (number_1 : Int) (next_2 : Int) (tape_2 : Int → Int) (number_2 : Int) (end_2 : Int) (tape_3 : Int → Int) (number_3 : Int) (end_3 : Int) (next_3 : Int) (end_1 : Int) (next_1 : Int) (begin_1 : Int) (kind_1 : Int) (kind_2 : Int) (begin_2 : Int) (tape_0 : Int → Int) (tape_1 : Int → Int) (k1 : (-2147483648) ≤ x1 ∧ x1 ≤ 1000000) (k17 : 1 ≤ x17 ∧ x17 ≤ 1) (g0 : x17 = kind_0) (fe_0_5_1 : end_0 = end_1) (fe_0_6_1 : next_0 = next_1) (fe_0_8_1 : begin_0 = begin_1) (fe_0_9_1 : number_0 = number_1) (fe_0_5_2 : end_1 = end_2) (fe_0_7_2 : kind_1 = kind_2) (fe_0_8_2 : begin_1 = begin_2) (fe_0_9_2 : number_1 = number_2) (fe_0_5_3 : end_2 = end_3) (fe_0_6_3 : next_2 = next_3) (fe_0_9_3 : number_2 = number_3) (hE_0_0_1 : ∀ j : Int, tape_0 j = tape_1 j) (hE_0_0_2 : ∀ j : Int, tape_1 j = tape_2 j) (hE_0_0_3 : ∀ j : Int, tape_2 j = tape_3 j) (hK_0_0 : ∀ j : Int, 0 ≤ j → j < 2000 → (-128) ≤ tape_0 j ∧ tape_0 j ≤ 127) (kz_0_5 : 0 ≤ end_0 ∧ end_0 ≤ 2000) (kz_0_6 : 0 ≤ next_0 ∧ next_0 ≤ 2000) (kz_0_7 : (-128) ≤ kind_0 ∧ kind_0 ≤ 127) (kz_0_8 : 0 ≤ begin_0 ∧ begin_0 ≤ 2000) (kz_0_9 : (-176) ≤ number_0 ∧ number_0 ≤ 1000000) : (1 * kind_0 + 0 ≤ 3) ∨ (1 * number_0 + ((-1) * x1 + 0) ≤ 0) := by
  subst fe_0_5_1
  subst fe_0_6_1
  subst fe_0_8_1
  subst fe_0_9_1
  subst fe_0_5_2
  subst fe_0_7_2
  subst fe_0_8_2
  subst fe_0_9_2
  subst fe_0_5_3
  subst fe_0_6_3
  subst fe_0_9_3
  have e_hE_0_0_1 := funext hE_0_0_1; subst e_hE_0_0_1
  have e_hE_0_0_2 := funext hE_0_0_2; subst e_hE_0_0_2
  have e_hE_0_0_3 := funext hE_0_0_3; subst e_hE_0_0_3
  first | with_reducible assumption | ((try and_intros) <;> first | with_reducible assumption | (clear hE_0_0_1 hE_0_0_2 hE_0_0_3 hK_0_0; omega)) | omega
set_option maxHeartbeats 4000000 in
theorem vc_Re_advance_23_1 (x1 : Int) (x17 : Int) (kind_0 : Int) (next_0 : Int) (begin_0 : Int) (end_0 : Int) (number_0 : Int) (number_1 : Int) (next_2 : Int) (tape_2 : Int → Int) (number_2 : Int) (end_2 : Int) (tape_3 : Int → Int) (number_3 : Int) (end_3 : Int) (next_3 : Int) (end_1 : Int) (next_1 : Int) (begin_1 : Int) (kind_1 : Int) (kind_2 : Int) (begin_2 : Int) (tape_0 : Int → Int) (tape_1 : Int → Int) (k1 : (-2147483648) ≤ x1 ∧ x1 ≤ 1000000) (k17 : 1 ≤ x17 ∧ x17 ≤ 1) (g0 : x17 = kind_0) (fe_0_5_1 : end_0 = end_1) (fe_0_6_1 : next_0 = next_1) (fe_0_8_1 : begin_0 = begin_1) (fe_0_9_1 : number_0 = number_1) (fe_0_5_2 : end_1 = end_2) (fe_0_7_2 : kind_1 = kind_2) (fe_0_8_2 : begin_1 = begin_2) (fe_0_9_2 : number_1 = number_2) (fe_0_5_3 : end_2 = end_3) (fe_0_6_3 : next_2 = next_3) (fe_0_9_3 : number_2 = number_3) (hE_0_0_1 : ∀ j : Int, tape_0 j = tape_1 j) (hE_0_0_2 : ∀ j : Int, tape_1 j = tape_2 j) (hE_0_0_3 : ∀ j : Int, tape_2 j = tape_3 j) (hK_0_0 : ∀ j : Int, 0 ≤ j → j < 2000 → (-128) ≤ tape_0 j ∧ tape_0 j ≤ 127) (kz_0_5 : 0 ≤ end_0 ∧ end_0 ≤ 2000) (kz_0_6 : 0 ≤ next_0 ∧ next_0 ≤ 2000) (kz_0_7 : (-128) ≤ kind_0 ∧ kind_0 ≤ 127) (kz_0_8 : 0 ≤ begin_0 ∧ begin_0 ≤ 2000) (kz_0_9 : (-176) ≤ number_0 ∧ number_0 ≤ 1000000) : (1 * kind_0 + 0 ≤ 3) ∨ ((-1) * number_0 + (1 * x1 + 0) ≤ 0) := by
  subst fe_0_5_1
  subst fe_0_6_1
  subst fe_0_8_1
  subst fe_0_9_1
  subst fe_0_5_2
  subst fe_0_7_2
  subst fe_0_8_2
  subst fe_0_9_2
  subst fe_0_5_3
  subst fe_0_6_3
  subst fe_0_9_3
  have e_hE_0_0_1 := funext hE_0_0_1; subst e_hE_0_0_1
  have e_hE_0_0_2 := funext hE_0_0_2; subst e_hE_0_0_2
  have e_hE_0_0_3 := funext hE_0_0_3; subst e_hE_0_0_3
  first | with_reducible assumption | ((try and_intros) <;> first | with_reducible assumption | (clear hE_0_0_1 hE_0_0_2 hE_0_0_3 hK_0_0; omega)) | omega
set_option maxHeartbeats 4000000 in
theorem vc_Re_advance_23_2 (x4 : Int) (x15 : Int) (x17 : Int) (kind_0 : Int) (next_0 : Int) (begin_0 : Int) (end_0 : Int) (number_0 : Int) (number_1 : Int) (next_2 : Int) (tape_2 : Int → Int) (number_2 : Int) (end_2 : Int) (tape_3 : Int → Int) (number_3 : Int) (end_3 : Int) (next_3 : Int) (end_1 : Int) (next_1 : Int) (begin_1 : Int) (kind_1 : Int) (kind_2 : Int) (begin_2 : Int) (tape_0 : Int → Int) (tape_1 : Int → Int) (k4 : 0 ≤ x4 ∧ x4 ≤ 1999) (k15 : 1 ≤ x15 ∧ x15 ≤ 2000) (k17 : 1 ≤ x17 ∧ x17 ≤ 1) (d0 : x4 + 1 ≤ x15 ∧ x15 ≤ x4 + 1) (g0 : x17 = kind_0) (g1 : x15 = next_0) (g2 : x4 = begin_0) (fe_0_5_1 : end_0 = end_1) (fe_0_6_1 : next_0 = next_1) (fe_0_8_1 : begin_0 = begin_1) (fe_0_9_1 : number_0 = number_1) (fe_0_5_2 : end_1 = end_2) (fe_0_7_2 : kind_1 = kind_2) (fe_0_8_2 : begin_1 = begin_2) (fe_0_9_2 : number_1 = number_2) (fe_0_5_3 : end_2 = end_3) (fe_0_6_3 : next_2 = next_3) (fe_0_9_3 : number_2 = number_3) (hE_0_0_1 : ∀ j : Int, tape_0 j = tape_1 j) (hE_0_0_2 : ∀ j : Int, tape_1 j = tape_2 j) (hE_0_0_3 : ∀ j : Int, tape_2 j = tape_3 j) (hK_0_0 : ∀ j : Int, 0 ≤ j → j < 2000 → (-128) ≤ tape_0 j ∧ tape_0 j ≤ 127) (kz_0_5 : 0 ≤ end_0 ∧ end_0 ≤ 2000) (kz_0_6 : 0 ≤ next_0 ∧ next_0 ≤ 2000) (kz_0_7 : (-128) ≤ kind_0 ∧ kind_0 ≤ 127) (kz_0_8 : 0 ≤ begin_0 ∧ begin_0 ≤ 2000) (kz_0_9 : (-176) ≤ number_0 ∧ number_0 ≤ 1000000) : ((-1) * kind_0 + 0 ≤ (-3)) ∨ (1 * next_0 + ((-1) * begin_0 + (2000 * kind_0 + 0)) ≤ 4008) := by
  subst fe_0_5_1
  subst fe_0_6_1
  subst fe_0_8_1
  subst fe_0_9_1
  subst fe_0_5_2
  subst fe_0_7_2
  subst fe_0_8_2
  subst fe_0_9_2
  subst fe_0_5_3
  subst fe_0_6_3
  subst fe_0_9_3
  have e_hE_0_0_1 := funext hE_0_0_1; subst e_hE_0_0_1
  have e_hE_0_0_2 := funext hE_0_0_2; subst e_hE_0_0_2
  have e_hE_0_0_3 := funext hE_0_0_3; subst e_hE_0_0_3
  first | with_reducible assumption | ((try and_intros) <;> first | with_reducible assumption | (clear hE_0_0_1 hE_0_0_2 hE_0_0_3 hK_0_0; omega)) | omega
set_option maxHeartbeats 4000000 in
theorem vc_Re_advance_23_3 (x4 : Int) (x15 : Int) (next_0 : Int) (begin_0 : Int) (end_0 : Int) (number_0 : Int) (number_1 : Int) (next_2 : Int) (tape_2 : Int → Int) (number_2 : Int) (end_2 : Int) (tape_3 : Int → Int) (number_3 : Int) (end_3 : Int) (next_3 : Int) (end_1 : Int) (next_1 : Int) (begin_1 : Int) (kind_1 : Int) (kind_2 : Int) (begin_2 : Int) (tape_0 : Int → Int) (tape_1 : Int → Int) (k4 : 0 ≤ x4 ∧ x4 ≤ 1999) (k15 : 1 ≤ x15 ∧ x15 ≤ 2000) (d0 : x4 + 1 ≤ x15 ∧ x15 ≤ x4 + 1) (g1 : x15 = next_0) (g2 : x4 = begin_0) (fe_0_5_1 : end_0 = end_1) (fe_0_6_1 : next_0 = next_1) (fe_0_8_1 : begin_0 = begin_1) (fe_0_9_1 : number_0 = number_1) (fe_0_5_2 : end_1 = end_2) (fe_0_7_2 : kind_1 = kind_2) (fe_0_8_2 : begin_1 = begin_2) (fe_0_9_2 : number_1 = number_2) (fe_0_5_3 : end_2 = end_3) (fe_0_6_3 : next_2 = next_3) (fe_0_9_3 : number_2 = number_3) (hE_0_0_1 : ∀ j : Int, tape_0 j = tape_1 j) (hE_0_0_2 : ∀ j : Int, tape_1 j = tape_2 j) (hE_0_0_3 : ∀ j : Int, tape_2 j = tape_3 j) (hK_0_0 : ∀ j : Int, 0 ≤ j → j < 2000 → (-128) ≤ tape_0 j ∧ tape_0 j ≤ 127) (kz_0_5 : 0 ≤ end_0 ∧ end_0 ≤ 2000) (kz_0_6 : 0 ≤ next_0 ∧ next_0 ≤ 2000) (kz_0_8 : 0 ≤ begin_0 ∧ begin_0 ≤ 2000) (kz_0_9 : (-176) ≤ number_0 ∧ number_0 ≤ 1000000) : 1 * begin_0 + ((-1) * next_0 + 0) ≤ 0 := by
  subst fe_0_5_1
  subst fe_0_6_1
  subst fe_0_8_1
  subst fe_0_9_1
  subst fe_0_5_2
  subst fe_0_7_2
  subst fe_0_8_2
  subst fe_0_9_2
  subst fe_0_5_3
  subst fe_0_6_3
  subst fe_0_9_3
  have e_hE_0_0_1 := funext hE_0_0_1; subst e_hE_0_0_1
  have e_hE_0_0_2 := funext hE_0_0_2; subst e_hE_0_0_2
  have e_hE_0_0_3 := funext hE_0_0_3; subst e_hE_0_0_3
  first | with_reducible assumption | ((try and_intros) <;> first | with_reducible assumption | (clear hE_0_0_1 hE_0_0_2 hE_0_0_3 hK_0_0; omega)) | omega
set_option maxHeartbeats 4000000 in
theorem vc_Re_advance_23_4 (x2 : Int) (x4 : Int) (x5 : Int) (x11 : Int) (x15 : Int) (x16 : Int) (x17 : Int) (kind_0 : Int) (next_0 : Int) (begin_0 : Int) (end_0 : Int) (number_0 : Int) (number_1 : Int) (next_2 : Int) (tape_2 : Int → Int) (number_2 : Int) (end_2 : Int) (tape_3 : Int → Int) (number_3 : Int) (end_3 : Int) (next_3 : Int) (end_1 : Int) (next_1 : Int) (begin_1 : Int) (kind_1 : Int) (kind_2 : Int) (begin_2 : Int) (tape_0 : Int → Int) (tape_1 : Int → Int) (k2 : 0 ≤ x2 ∧ x2 ≤ 2000) (k4 : 0 ≤ x4 ∧ x4 ≤ 1999) (k5 : 1 ≤ x5 ∧ x5 ≤ 2000) (k11 : 123 ≤ x11 ∧ x11 ≤ 127) (k15 : 1 ≤ x15 ∧ x15 ≤ 2000) (k16 : 0 ≤ x16 ∧ x16 ≤ 0) (k17 : 1 ≤ x17 ∧ x17 ≤ 1) (d0 : x4 + 1 ≤ x15 ∧ x15 ≤ x4 + 1) (g0 : x17 = kind_0) (g1 : x15 = next_0) (g2 : x4 = begin_0) (g4 : x5 = end_0) (f12 : x16 = 0) (f13 : CSG (x11) (x16)) (g20 : x4 = next_2) (h25 : x11 = tape_2 (x4)) (f36 : x4 < x5) (f39 : CX0 (end_3) (next_3) (tape_3) (x2)) (fe_0_5_1 : end_0 = end_1) (fe_0_6_1 : next_0 = next_1) (fe_0_8_1 : begin_0 = begin_1) (fe_0_9_1 : number_0 = number_1) (fe_0_5_2 : end_1 = end_2) (fe_0_7_2 : kind_1 = kind_2) (fe_0_8_2 : begin_1 = begin_2) (fe_0_9_2 : number_1 = number_2) (fe_0_5_3 : end_2 = end_3) (fe_0_6_3 : next_2 = next_3) (fe_0_8_3 : begin_2 = x4) (fe_0_9_3 : number_2 = number_3) (hE_0_0_1 : ∀ j : Int, tape_0 j = tape_1 j) (hE_0_0_2 : ∀ j : Int, tape_1 j = tape_2 j) (hE_0_0_3 : ∀ j : Int, tape_2 j = tape_3 j) (hK_0_0 : ∀ j : Int, 0 ≤ j → j < 2000 → (-128) ≤ tape_0 j ∧ tape_0 j ≤ 127) (kz_0_5 : 0 ≤ end_0 ∧ end_0 ≤ 2000) (kz_0_6 : 0 ≤ next_0 ∧ next_0 ≤ 2000) (kz_0_7 : (-128) ≤ kind_0 ∧ kind_0 ≤ 127) (kz_0_8 : 0 ≤ begin_0 ∧ begin_0 ≤ 2000) (kz_0_9 : (-176) ≤ number_0 ∧ number_0 ≤ 1000000) : TKC (end_0) (next_0) (kind_0) (begin_0) (number_0) (tape_0) (x2) := by
  subst fe_0_5_1
  subst fe_0_6_1
  subst fe_0_8_1
  subst fe_0_9_1
  subst fe_0_5_2
  subst fe_0_7_2
  subst fe_0_8_2
  subst fe_0_9_2
  subst fe_0_5_3
  subst fe_0_6_3
  subst fe_0_9_3
  have e_hE_0_0_1 := funext hE_0_0_1; subst e_hE_0_0_1
  have e_hE_0_0_2 := funext hE_0_0_2; subst e_hE_0_0_2
  have e_hE_0_0_3 := funext hE_0_0_3; subst e_hE_0_0_3
  first | subst g0 | skip
  first | subst g1 | skip
  first | subst g2 | skip
  first | subst g4 | skip
  first | subst g20 | skip
  first
    | exact cxl_e (by assumption) ‹CXL _ _ _ _ _› (fun q => by omega) (by omega)
    | exact cxl_e (by assumption) ‹CXL _ _ _ _ _› (fun q => cnb_f ‹CNBy _ _› (by omega) (by omega)) (by omega)
    | exact cxd_e (by assumption) ‹CXD _ _ _ _ _ _› (fun q => by unfold cIG; omega) (by omega)
    | exact cxs_e (by assumption) (cx_1 (by assumption) ‹CX0 _ _ _ _› (fun q => by omega) (by omega)) (by omega) rfl (by unfold cIL; omega) (by unfold cIG; omega) (by omega) (Or.inl ⟨csg_t ‹CSG _ _› (by omega) (by omega), by omega⟩)
    | exact cxs_e (by assumption) (cx_1 (by assumption) ‹CX0 _ _ _ _› (fun q => by omega) (by omega)) (by omega) rfl (by unfold cIL; omega) (by unfold cIG; omega) (by omega) (Or.inr ⟨csg_f ‹CSG _ _› (by omega) (by omega), by omega⟩)
set_option maxHeartbeats 4000000 in
theorem vc_Re_advance_23_5 (x2 : Int) (x4 : Int) (x15 : Int) (next_0 : Int) (begin_0 : Int) (end_0 : Int) (number_0 : Int) (number_1 : Int) (next_2 : Int) (tape_2 : Int → Int) (number_2 : Int) (end_2 : Int) (tape_3 : Int → Int) (number_3 : Int) (end_3 : Int) (next_3 : Int) (end_1 : Int) (next_1 : Int) (begin_1 : Int) (kind_1 : Int) (kind_2 : Int) (begin_2 : Int) (tape_0 : Int → Int) (tape_1 : Int → Int) (k2 : 0 ≤ x2 ∧ x2 ≤ 2000) (k4 : 0 ≤ x4 ∧ x4 ≤ 1999) (k15 : 1 ≤ x15 ∧ x15 ≤ 2000) (d0 : x4 + 1 ≤ x15 ∧ x15 ≤ x4 + 1) (g1 : x15 = next_0) (g2 : x4 = begin_0) (g20 : x4 = next_2) (f30 : 1 * x2 + ((-1) * next_2 + 0) ≤ 0) (fe_0_5_1 : end_0 = end_1) (fe_0_6_1 : next_0 = next_1) (fe_0_8_1 : begin_0 = begin_1) (fe_0_9_1 : number_0 = number_1) (fe_0_5_2 : end_1 = end_2) (fe_0_7_2 : kind_1 = kind_2) (fe_0_8_2 : begin_1 = begin_2) (fe_0_9_2 : number_1 = number_2) (fe_0_5_3 : end_2 = end_3) (fe_0_6_3 : next_2 = next_3) (fe_0_9_3 : number_2 = number_3) (hE_0_0_1 : ∀ j : Int, tape_0 j = tape_1 j) (hE_0_0_2 : ∀ j : Int, tape_1 j = tape_2 j) (hE_0_0_3 : ∀ j : Int, tape_2 j = tape_3 j) (hK_0_0 : ∀ j : Int, 0 ≤ j → j < 2000 → (-128) ≤ tape_0 j ∧ tape_0 j ≤ 127) (kz_0_5 : 0 ≤ end_0 ∧ end_0 ≤ 2000) (kz_0_6 : 0 ≤ next_0 ∧ next_0 ≤ 2000) (kz_0_8 : 0 ≤ begin_0 ∧ begin_0 ≤ 2000) (kz_0_9 : (-176) ≤ number_0 ∧ number_0 ≤ 1000000) : 1 * x2 + ((-1) * next_0 + 0) ≤ 0 := by
  subst fe_0_5_1
  subst fe_0_6_1
  subst fe_0_8_1
  subst fe_0_9_1
  subst fe_0_5_2
  subst fe_0_7_2
  subst fe_0_8_2
  subst fe_0_9_2
  subst fe_0_5_3
  subst fe_0_6_3
  subst fe_0_9_3
  have e_hE_0_0_1 := funext hE_0_0_1; subst e_hE_0_0_1
  have e_hE_0_0_2 := funext hE_0_0_2; subst e_hE_0_0_2
  have e_hE_0_0_3 := funext hE_0_0_3; subst e_hE_0_0_3
  first | with_reducible assumption | ((try and_intros) <;> first | with_reducible assumption | (clear hE_0_0_1 hE_0_0_2 hE_0_0_3 hK_0_0; omega)) | omega
def o_Re_advance_23 : or_T := (290, 18, [(0, (2, 0, 0, [8])), (1, (0, -2147483648, 1000000, [])), (2, (0, 0, 2000, [])), (3, (2, 0, 0, [8])), (4, (0, 0, 1999, [])), (5, (0, 1, 2000, [])), (6, (2, 0, 0, [109])), (7, (0, -128, 127, [])), (8, (0, 32, 32, [])), (9, (0, -128, 127, [])), (10, (0, 10, 10, [])), (11, (0, 123, 127, [])), (12, (0, 0, 0, [])), (13, (0, 0, 0, [])), (14, (0, 1, 1, [])), (15, (0, 1, 2000, [])), (16, (0, 0, 0, [])), (17, (0, 1, 1, []))], [(9, [17, 3], [7]), (9, [15, 3], [6]), (9, [4, 3], [8]), (9, [6, 3], [0]), (9, [5, 3], [5]), (20, [11, 16], [61, 0, 1100]), (20, [11, 13], [61, 0, 1098]), (20, [11, 12], [61, 0, 1097]), (20, [3, 1], [30, 0, 1, 1, 9, -1, 0, 0]), (20, [3, 1], [30, 0, -1, 1, 9, 1, 0, 0]), (24, [0, 3], []), (101, [3, 17], [7]), (8, [16], [0]), (20, [11, 16], [61, 0, 1100]), (20, [11, 13], [61, 0, 1098]), (20, [11, 12], [61, 0, 1097]), (20, [3, 1], [30, 0, 1, 1, 9, -1, 0, 0]), (20, [3, 1], [30, 0, -1, 1, 9, 1, 0, 0]), (101, [3, 15], [6]), (1, [15, 4, 14], []), (9, [4, 3], [6]), (8, [13], [0]), (20, [11, 13], [61, 0, 1098]), (8, [12], [0]), (20, [11, 12], [61, 0, 1097]), (10, [11, 6, 4], []), (7, [4, 5], [2]), (20, [3, 1], [30, 0, 1, 1, 9, -1, 0, 0]), (20, [3, 1], [30, 0, -1, 1, 9, 1, 0, 0]), (20, [3, 2], [60, 2, 1, 1074, 5, 6, 0]), (20, [2, 3], [30, 0, 1, 0, 0, -1, 1, 6]), (101, [3, 4], [8]), (7, [9, 10], [1]), (10, [9, 6, 4], []), (7, [7, 8], [1]), (10, [7, 6, 4], []), (7, [4, 5], [2]), (20, [3, 1], [30, 0, 1, 1, 9, -1, 0, 0]), (20, [3, 1], [30, 0, -1, 1, 9, 1, 0, 0]), (20, [3, 2], [60, 2, 1, 1074, 5, 6, 0]), (20, [2, 3], [30, 0, 1, 0, 0, -1, 1, 6])], [], [], [(20, [0, 0, 1], [31, 1, 3, 1, 1, 7, 0, 1, 1, 9, -1, 0, 0]), (20, [0, 0, 1], [31, 1, 3, 1, 1, 7, 0, -1, 1, 9, 1, 0, 0]), (20, [0, 0, 0, 0], [31, 1, -3, -1, 1, 7, 4008, 1, 1, 6, -1, 1, 8, 2000, 1, 7]), (20, [0, 0], [30, 0, 1, 1, 8, -1, 1, 6]), (20, [0, 2], [60, 5, 1, 1072, 5, 6, 7, 8, 9, 0]), (20, [2, 0], [30, 0, 1, 0, 0, -1, 1, 6])], [], [(15, 4, 1, 1), (15, 5, -4294967296, 0), (4, 5, -4294967296, -1)])
theorem oo_Re_advance_23 {kA : Nat → ClassId} : or_ok PRD kA GG o_Re_advance_23 := by
  refine or_mk fun A ta ws vs hD hth hl => ?_
  intro t0 r0 t1 k1 t2 k2 t3 r3 t4 k4 t5 k5 t6 r6 t7 k7 t8 k8 t9 k9 t10 k10 t11 k11 t12 k12 t13 k13 t14 k14 t15 k15 t16 k16 t17 k17 d0 d1 d2 f0 f1 f2 f3 f4 f5 f6 f7 f8 f9 f10 ta1 w1 le1 s1 f12 f13 f14 f15 f16 f17 ta2 w2 le2 s2 f19 f20 f21 f22 f23 f24 f25 f26 f27 f28 f29 f30 ta3 w3 le3 s3 f32 f33 f34 f35 f36 f37 f38 f39 f40
  replace f0 := shm_198 f0
  replace f1 := shm_111 f1
  replace f2 := shm_293 f2
  replace f3 := shm_163 f3
  replace f4 := shm_110 f4
  replace f10 := shm_5 f10
  have s1 : (∀ b j, w_el ws b j = w_el w1 b j) ∧ ∀ b j, w_fd ws b j = if b = v_ad (n_v vs 3) ∧ j = 7 then n_v vs 17 else w_fd w1 b j := s1.2
  have s2 : (∀ b j, w_el w1 b j = w_el w2 b j) ∧ ∀ b j, w_fd w1 b j = if b = v_ad (n_v vs 3) ∧ j = 6 then n_v vs 15 else w_fd w2 b j := s2.2
  replace f20 := shm_111 f20
  replace f25 := shm_107 f25
  replace f30 := shm_1527 f30
  have s3 : (∀ b j, w_el w2 b j = w_el w3 b j) ∧ ∀ b j, w_fd w2 b j = if b = v_ad (n_v vs 3) ∧ j = 8 then n_v vs 4 else w_fd w3 b j := s3.2
  replace f39 := shm_1526 f39
  have q3 : n_v vs 3 = n_v vs 0 := f10.symm
  simp only [q3] at f0 f1 f2 f3 f4
  rw [q3] at s1
  rw [q3] at s2
  simp only [q3] at f20 f30
  rw [q3] at s3
  simp only [q3] at f39
  have ar_0_0_1 : w_ar w1 (n_v vs 0) 0 = w_ar ws (n_v vs 0) 0 := by show v_ad (w_fd w1 _ _) = v_ad (w_fd ws _ _); rw [s1.2, if_neg (fun e => absurd e.2 (by decide))]
  have ar_0_0_2 : w_ar w2 (n_v vs 0) 0 = w_ar ws (n_v vs 0) 0 := by rw [← ar_0_0_1]; show v_ad (w_fd w2 _ _) = v_ad (w_fd w1 _ _); rw [s2.2, if_neg (fun e => absurd e.2 (by decide))]
  have ar_0_0_3 : w_ar w3 (n_v vs 0) 0 = w_ar ws (n_v vs 0) 0 := by rw [← ar_0_0_2]; show v_ad (w_fd w3 _ _) = v_ad (w_fd w2 _ _); rw [s3.2, if_neg (fun e => absurd e.2 (by decide))]
  have cr_0_0 := fdq_95 hD hth r0
  have ad_6 : v_ad (n_v vs 6) = w_ar ws (n_v vs 0) 0 := congrArg v_ad f3
  have g0 : v_iv (n_v vs 17) = w_fi ws (n_v vs 0) 7 := congrArg v_iv f0
  have g1 : v_iv (n_v vs 15) = w_fi ws (n_v vs 0) 6 := congrArg v_iv f1
  have g2 : v_iv (n_v vs 4) = w_fi ws (n_v vs 0) 8 := congrArg v_iv f2
  have g4 : v_iv (n_v vs 5) = w_fi ws (n_v vs 0) 5 := congrArg v_iv f4
  have g20 : v_iv (n_v vs 4) = w_fi w2 (n_v vs 0) 6 := congrArg v_iv f20
  simp only [ad_6] at f25
  have h25 : v_iv (n_v vs 11) = w_ei w2 (w_ar ws (n_v vs 0) 0) (v_iv (n_v vs 4)) := f25
  simp only [ar_0_0_3] at f39
  have fe_0_5_1 : w_fi ws (n_v vs 0) 5 = w_fi w1 (n_v vs 0) 5 := by show v_iv (w_fd _ _ _) = v_iv (w_fd _ _ _); rw [s1.2, if_neg (fun e => absurd e.2 (by decide))]
  have fe_0_6_1 : w_fi ws (n_v vs 0) 6 = w_fi w1 (n_v vs 0) 6 := by show v_iv (w_fd _ _ _) = v_iv (w_fd _ _ _); rw [s1.2, if_neg (fun e => absurd e.2 (by decide))]
  have fe_0_8_1 : w_fi ws (n_v vs 0) 8 = w_fi w1 (n_v vs 0) 8 := by show v_iv (w_fd _ _ _) = v_iv (w_fd _ _ _); rw [s1.2, if_neg (fun e => absurd e.2 (by decide))]
  have fe_0_9_1 : w_fi ws (n_v vs 0) 9 = w_fi w1 (n_v vs 0) 9 := by show v_iv (w_fd _ _ _) = v_iv (w_fd _ _ _); rw [s1.2, if_neg (fun e => absurd e.2 (by decide))]
  have fe_0_5_2 : w_fi w1 (n_v vs 0) 5 = w_fi w2 (n_v vs 0) 5 := by show v_iv (w_fd _ _ _) = v_iv (w_fd _ _ _); rw [s2.2, if_neg (fun e => absurd e.2 (by decide))]
  have fe_0_7_2 : w_fi w1 (n_v vs 0) 7 = w_fi w2 (n_v vs 0) 7 := by show v_iv (w_fd _ _ _) = v_iv (w_fd _ _ _); rw [s2.2, if_neg (fun e => absurd e.2 (by decide))]
  have fe_0_8_2 : w_fi w1 (n_v vs 0) 8 = w_fi w2 (n_v vs 0) 8 := by show v_iv (w_fd _ _ _) = v_iv (w_fd _ _ _); rw [s2.2, if_neg (fun e => absurd e.2 (by decide))]
  have fe_0_9_2 : w_fi w1 (n_v vs 0) 9 = w_fi w2 (n_v vs 0) 9 := by show v_iv (w_fd _ _ _) = v_iv (w_fd _ _ _); rw [s2.2, if_neg (fun e => absurd e.2 (by decide))]
  have fe_0_5_3 : w_fi w2 (n_v vs 0) 5 = w_fi w3 (n_v vs 0) 5 := by show v_iv (w_fd _ _ _) = v_iv (w_fd _ _ _); rw [s3.2, if_neg (fun e => absurd e.2 (by decide))]
  have fe_0_6_3 : w_fi w2 (n_v vs 0) 6 = w_fi w3 (n_v vs 0) 6 := by show v_iv (w_fd _ _ _) = v_iv (w_fd _ _ _); rw [s3.2, if_neg (fun e => absurd e.2 (by decide))]
  have fe_0_8_3 : w_fi w2 (n_v vs 0) 8 = v_iv (n_v vs 4) := by show v_iv (w_fd _ _ _) = _; rw [s3.2, if_pos ⟨rfl, rfl⟩]
  have fe_0_9_3 : w_fi w2 (n_v vs 0) 9 = w_fi w3 (n_v vs 0) 9 := by show v_iv (w_fd _ _ _) = v_iv (w_fd _ _ _); rw [s3.2, if_neg (fun e => absurd e.2 (by decide))]
  have hE_0_0_1 : ∀ j : Int, w_ei ws (w_ar ws (n_v vs 0) 0) j = w_ei w1 (w_ar ws (n_v vs 0) 0) j := fun j => s1.1 _ _
  have hE_0_0_2 : ∀ j : Int, w_ei w1 (w_ar ws (n_v vs 0) 0) j = w_ei w2 (w_ar ws (n_v vs 0) 0) j := fun j => s2.1 _ _
  have hE_0_0_3 : ∀ j : Int, w_ei w2 (w_ar ws (n_v vs 0) 0) j = w_ei w3 (w_ar ws (n_v vs 0) 0) j := fun j => s3.1 _ _
  have hK_0_0 := elq_33 hD hth cr_0_0
  have kz_0_5 := fdq_207 hD hth r0
  have kz_0_6 := fdq_208 hD hth r0
  have kz_0_7 := fdq_297 hD hth r0
  have kz_0_8 := fdq_99 hD hth r0
  have kz_0_9 := fdq_296 hD hth r0
  have nf0 : fc_1 PRD (20, [0, 0, 1], [31, 1, 3, 1, 1, 7, 0, 1, 1, 9, -1, 0, 0]) ws (vs) := ⟨nf_in hl rfl, sgq_1528 (vc_Re_advance_23_0 (v_iv (n_v vs 1)) (v_iv (n_v vs 17)) (w_fi ws (n_v vs 0) 7) (w_fi ws (n_v vs 0) 6) (w_fi ws (n_v vs 0) 8) (w_fi ws (n_v vs 0) 5) (w_fi ws (n_v vs 0) 9) (w_fi w1 (n_v vs 0) 9) (w_fi w2 (n_v vs 0) 6) (w_ei w2 (w_ar ws (n_v vs 0) 0)) (w_fi w2 (n_v vs 0) 9) (w_fi w2 (n_v vs 0) 5) (w_ei w3 (w_ar ws (n_v vs 0) 0)) (w_fi w3 (n_v vs 0) 9) (w_fi w3 (n_v vs 0) 5) (w_fi w3 (n_v vs 0) 6) (w_fi w1 (n_v vs 0) 5) (w_fi w1 (n_v vs 0) 6) (w_fi w1 (n_v vs 0) 8) (w_fi w1 (n_v vs 0) 7) (w_fi w2 (n_v vs 0) 7) (w_fi w2 (n_v vs 0) 8) (w_ei ws (w_ar ws (n_v vs 0) 0)) (w_ei w1 (w_ar ws (n_v vs 0) 0)) k1 k17 g0 fe_0_5_1 fe_0_6_1 fe_0_8_1 fe_0_9_1 fe_0_5_2 fe_0_7_2 fe_0_8_2 fe_0_9_2 fe_0_5_3 fe_0_6_3 fe_0_9_3 hE_0_0_1 hE_0_0_2 hE_0_0_3 hK_0_0 kz_0_5 kz_0_6 kz_0_7 kz_0_8 kz_0_9)⟩
  have nf1 : fc_1 PRD (20, [0, 0, 1], [31, 1, 3, 1, 1, 7, 0, -1, 1, 9, 1, 0, 0]) ws (vs) := ⟨nf_in hl rfl, sgq_1529 (vc_Re_advance_23_1 (v_iv (n_v vs 1)) (v_iv (n_v vs 17)) (w_fi ws (n_v vs 0) 7) (w_fi ws (n_v vs 0) 6) (w_fi ws (n_v vs 0) 8) (w_fi ws (n_v vs 0) 5) (w_fi ws (n_v vs 0) 9) (w_fi w1 (n_v vs 0) 9) (w_fi w2 (n_v vs 0) 6) (w_ei w2 (w_ar ws (n_v vs 0) 0)) (w_fi w2 (n_v vs 0) 9) (w_fi w2 (n_v vs 0) 5) (w_ei w3 (w_ar ws (n_v vs 0) 0)) (w_fi w3 (n_v vs 0) 9) (w_fi w3 (n_v vs 0) 5) (w_fi w3 (n_v vs 0) 6) (w_fi w1 (n_v vs 0) 5) (w_fi w1 (n_v vs 0) 6) (w_fi w1 (n_v vs 0) 8) (w_fi w1 (n_v vs 0) 7) (w_fi w2 (n_v vs 0) 7) (w_fi w2 (n_v vs 0) 8) (w_ei ws (w_ar ws (n_v vs 0) 0)) (w_ei w1 (w_ar ws (n_v vs 0) 0)) k1 k17 g0 fe_0_5_1 fe_0_6_1 fe_0_8_1 fe_0_9_1 fe_0_5_2 fe_0_7_2 fe_0_8_2 fe_0_9_2 fe_0_5_3 fe_0_6_3 fe_0_9_3 hE_0_0_1 hE_0_0_2 hE_0_0_3 hK_0_0 kz_0_5 kz_0_6 kz_0_7 kz_0_8 kz_0_9)⟩
  have nf2 : fc_1 PRD (20, [0, 0, 0, 0], [31, 1, -3, -1, 1, 7, 4008, 1, 1, 6, -1, 1, 8, 2000, 1, 7]) ws (vs) := ⟨nf_in hl rfl, sgq_1530 (vc_Re_advance_23_2 (v_iv (n_v vs 4)) (v_iv (n_v vs 15)) (v_iv (n_v vs 17)) (w_fi ws (n_v vs 0) 7) (w_fi ws (n_v vs 0) 6) (w_fi ws (n_v vs 0) 8) (w_fi ws (n_v vs 0) 5) (w_fi ws (n_v vs 0) 9) (w_fi w1 (n_v vs 0) 9) (w_fi w2 (n_v vs 0) 6) (w_ei w2 (w_ar ws (n_v vs 0) 0)) (w_fi w2 (n_v vs 0) 9) (w_fi w2 (n_v vs 0) 5) (w_ei w3 (w_ar ws (n_v vs 0) 0)) (w_fi w3 (n_v vs 0) 9) (w_fi w3 (n_v vs 0) 5) (w_fi w3 (n_v vs 0) 6) (w_fi w1 (n_v vs 0) 5) (w_fi w1 (n_v vs 0) 6) (w_fi w1 (n_v vs 0) 8) (w_fi w1 (n_v vs 0) 7) (w_fi w2 (n_v vs 0) 7) (w_fi w2 (n_v vs 0) 8) (w_ei ws (w_ar ws (n_v vs 0) 0)) (w_ei w1 (w_ar ws (n_v vs 0) 0)) k4 k15 k17 d0 g0 g1 g2 fe_0_5_1 fe_0_6_1 fe_0_8_1 fe_0_9_1 fe_0_5_2 fe_0_7_2 fe_0_8_2 fe_0_9_2 fe_0_5_3 fe_0_6_3 fe_0_9_3 hE_0_0_1 hE_0_0_2 hE_0_0_3 hK_0_0 kz_0_5 kz_0_6 kz_0_7 kz_0_8 kz_0_9)⟩
  have nf3 : fc_1 PRD (20, [0, 0], [30, 0, 1, 1, 8, -1, 1, 6]) ws (vs) := ⟨nf_in hl rfl, sgq_1531 (vc_Re_advance_23_3 (v_iv (n_v vs 4)) (v_iv (n_v vs 15)) (w_fi ws (n_v vs 0) 6) (w_fi ws (n_v vs 0) 8) (w_fi ws (n_v vs 0) 5) (w_fi ws (n_v vs 0) 9) (w_fi w1 (n_v vs 0) 9) (w_fi w2 (n_v vs 0) 6) (w_ei w2 (w_ar ws (n_v vs 0) 0)) (w_fi w2 (n_v vs 0) 9) (w_fi w2 (n_v vs 0) 5) (w_ei w3 (w_ar ws (n_v vs 0) 0)) (w_fi w3 (n_v vs 0) 9) (w_fi w3 (n_v vs 0) 5) (w_fi w3 (n_v vs 0) 6) (w_fi w1 (n_v vs 0) 5) (w_fi w1 (n_v vs 0) 6) (w_fi w1 (n_v vs 0) 8) (w_fi w1 (n_v vs 0) 7) (w_fi w2 (n_v vs 0) 7) (w_fi w2 (n_v vs 0) 8) (w_ei ws (w_ar ws (n_v vs 0) 0)) (w_ei w1 (w_ar ws (n_v vs 0) 0)) k4 k15 d0 g1 g2 fe_0_5_1 fe_0_6_1 fe_0_8_1 fe_0_9_1 fe_0_5_2 fe_0_7_2 fe_0_8_2 fe_0_9_2 fe_0_5_3 fe_0_6_3 fe_0_9_3 hE_0_0_1 hE_0_0_2 hE_0_0_3 hK_0_0 kz_0_5 kz_0_6 kz_0_8 kz_0_9)⟩
  have nf4 : fc_1 PRD (20, [0, 2], [60, 5, 1, 1072, 5, 6, 7, 8, 9, 0]) ws (vs) := ⟨nf_in hl rfl, sgq_1532 (vc_Re_advance_23_4 (v_iv (n_v vs 2)) (v_iv (n_v vs 4)) (v_iv (n_v vs 5)) (v_iv (n_v vs 11)) (v_iv (n_v vs 15)) (v_iv (n_v vs 16)) (v_iv (n_v vs 17)) (w_fi ws (n_v vs 0) 7) (w_fi ws (n_v vs 0) 6) (w_fi ws (n_v vs 0) 8) (w_fi ws (n_v vs 0) 5) (w_fi ws (n_v vs 0) 9) (w_fi w1 (n_v vs 0) 9) (w_fi w2 (n_v vs 0) 6) (w_ei w2 (w_ar ws (n_v vs 0) 0)) (w_fi w2 (n_v vs 0) 9) (w_fi w2 (n_v vs 0) 5) (w_ei w3 (w_ar ws (n_v vs 0) 0)) (w_fi w3 (n_v vs 0) 9) (w_fi w3 (n_v vs 0) 5) (w_fi w3 (n_v vs 0) 6) (w_fi w1 (n_v vs 0) 5) (w_fi w1 (n_v vs 0) 6) (w_fi w1 (n_v vs 0) 8) (w_fi w1 (n_v vs 0) 7) (w_fi w2 (n_v vs 0) 7) (w_fi w2 (n_v vs 0) 8) (w_ei ws (w_ar ws (n_v vs 0) 0)) (w_ei w1 (w_ar ws (n_v vs 0) 0)) k2 k4 k5 k11 k15 k16 k17 d0 g0 g1 g2 g4 (shm_192 f12) (shm_454 f13) g20 h25 (shm_6 f36) f39 fe_0_5_1 fe_0_6_1 fe_0_8_1 fe_0_9_1 fe_0_5_2 fe_0_7_2 fe_0_8_2 fe_0_9_2 fe_0_5_3 fe_0_6_3 fe_0_8_3 fe_0_9_3 hE_0_0_1 hE_0_0_2 hE_0_0_3 hK_0_0 kz_0_5 kz_0_6 kz_0_7 kz_0_8 kz_0_9)⟩
  have nf5 : fc_1 PRD (20, [2, 0], [30, 0, 1, 0, 0, -1, 1, 6]) ws (vs) := ⟨nf_in hl rfl, sgq_1527 (vc_Re_advance_23_5 (v_iv (n_v vs 2)) (v_iv (n_v vs 4)) (v_iv (n_v vs 15)) (w_fi ws (n_v vs 0) 6) (w_fi ws (n_v vs 0) 8) (w_fi ws (n_v vs 0) 5) (w_fi ws (n_v vs 0) 9) (w_fi w1 (n_v vs 0) 9) (w_fi w2 (n_v vs 0) 6) (w_ei w2 (w_ar ws (n_v vs 0) 0)) (w_fi w2 (n_v vs 0) 9) (w_fi w2 (n_v vs 0) 5) (w_ei w3 (w_ar ws (n_v vs 0) 0)) (w_fi w3 (n_v vs 0) 9) (w_fi w3 (n_v vs 0) 5) (w_fi w3 (n_v vs 0) 6) (w_fi w1 (n_v vs 0) 5) (w_fi w1 (n_v vs 0) 6) (w_fi w1 (n_v vs 0) 8) (w_fi w1 (n_v vs 0) 7) (w_fi w2 (n_v vs 0) 7) (w_fi w2 (n_v vs 0) 8) (w_ei ws (w_ar ws (n_v vs 0) 0)) (w_ei w1 (w_ar ws (n_v vs 0) 0)) k2 k4 k15 d0 g1 g2 g20 f30 fe_0_5_1 fe_0_6_1 fe_0_8_1 fe_0_9_1 fe_0_5_2 fe_0_7_2 fe_0_8_2 fe_0_9_2 fe_0_5_3 fe_0_6_3 fe_0_9_3 hE_0_0_1 hE_0_0_2 hE_0_0_3 hK_0_0 kz_0_5 kz_0_6 kz_0_8 kz_0_9)⟩
  refine ⟨(fun _ h => (by cases h)), [], trivial, ?_, (fun _ h => (by cases h))⟩
  rw [List.append_nil]
  exact List.forall_mem_cons.mpr ⟨⟨show (20 : Nat) < 100 from by decide, nf0⟩, List.forall_mem_cons.mpr ⟨⟨show (20 : Nat) < 100 from by decide, nf1⟩, List.forall_mem_cons.mpr ⟨⟨show (20 : Nat) < 100 from by decide, nf2⟩, List.forall_mem_cons.mpr ⟨⟨show (20 : Nat) < 100 from by decide, nf3⟩, List.forall_mem_cons.mpr ⟨⟨show (20 : Nat) < 100 from by decide, nf4⟩, List.forall_mem_cons.mpr ⟨⟨show (20 : Nat) < 100 from by decide, nf5⟩, (fun _ h => (by cases h))⟩⟩⟩⟩⟩⟩
set_option maxHeartbeats 4000000 in
theorem vc_Re_advance_24_0 (x1 : Int) (kind_0 : Int) (next_0 : Int) (begin_0 : Int) (end_0 : Int) (number_0 : Int) (number_1 : Int) (next_2 : Int) (tape_2 : Int → Int) (number_2 : Int) (end_2 : Int) (tape_3 : Int → Int) (number_3 : Int) (end_3 : Int) (next_3 : Int) (end_1 : Int) (next_1 : Int) (begin_1 : Int) (kind_1 : Int) (kind_2 : Int) (begin_2 : Int) (tape_0 : Int → Int) (tape_1 : Int → Int) (k1 : (-2147483648) ≤ x1 ∧ x1 ≤ 1000000) (f8 : 1 * number_0 + ((-1) * x1 + 0) ≤ 0) (f9 : (-1) * number_0 + (1 * x1 + 0) ≤ 0) (fe_0_5_1 : end_0 = end_1) (fe_0_6_1 : next_0 = next_1) (fe_0_8_1 : begin_0 = begin_1) (fe_0_9_1 : number_0 = number_1) (fe_0_5_2 : end_1 = end_2) (fe_0_7_2 : kind_1 = kind_2) (fe_0_8_2 : begin_1 = begin_2) (fe_0_9_2 : number_1 = number_2) (fe_0_5_3 : end_2 = end_3) (fe_0_6_3 : next_2 = next_3) (fe_0_9_3 : number_2 = number_3) (hE_0_0_1 : ∀ j : Int, tape_0 j = tape_1 j) (hE_0_0_2 : ∀ j : Int, tape_1 j = tape_2 j) (hE_0_0_3 : ∀ j : Int, tape_2 j = tape_3 j) (hK_0_0 : ∀ j : Int, 0 ≤ j → j < 2000 → (-128) ≤ tape_0 j ∧ tape_0 j ≤ 127) (kz_0_5 : 0 ≤ end_0 ∧ end_0 ≤ 2000) (kz_0_6 : 0 ≤ next_0 ∧ next_0 ≤ 2000) (kz_0_7 : (-128) ≤ kind_0 ∧ kind_0 ≤ 127) (kz_0_8 : 0 ≤ begin_0 ∧ begin_0 ≤ 2000) (kz_0_9 : (-176) ≤ number_0 ∧ number_0 ≤ 1000000) : (1 * kind_0 + 0 ≤ 3) ∨ (1 * number_0 + ((-1) * x1 + 0) ≤ 0) := by
  subst fe_0_5_1
  subst fe_0_6_1
  subst fe_0_8_1
  subst fe_0_9_1
  subst fe_0_5_2
  subst fe_0_7_2
  subst fe_0_8_2
  subst fe_0_9_2
  subst fe_0_5_3
  subst fe_0_6_3
  subst fe_0_9_3
  have e_hE_0_0_1 := funext hE_0_0_1; subst e_hE_0_0_1
  have e_hE_0_0_2 := funext hE_0_0_2; subst e_hE_0_0_2
  have e_hE_0_0_3 := funext hE_0_0_3; subst e_hE_0_0_3
  first | with_reducible assumption | ((try and_intros) <;> first | with_reducible assumption | (clear hE_0_0_1 hE_0_0_2 hE_0_0_3 hK_0_0; omega)) | omega
set_option maxHeartbeats 4000000 in
theorem vc_Re_advance_24_1 (x1 : Int) (kind_0 : Int) (next_0 : Int) (begin_0 : Int) (end_0 : Int) (number_0 : Int) (number_1 : Int) (next_2 : Int) (tape_2 : Int → Int) (number_2 : Int) (end_2 : Int) (tape_3 : Int → Int) (number_3 : Int) (end_3 : Int) (next_3 : Int) (end_1 : Int) (next_1 : Int) (begin_1 : Int) (kind_1 : Int) (kind_2 : Int) (begin_2 : Int) (tape_0 : Int → Int) (tape_1 : Int → Int) (k1 : (-2147483648) ≤ x1 ∧ x1 ≤ 1000000) (f8 : 1 * number_0 + ((-1) * x1 + 0) ≤ 0) (f9 : (-1) * number_0 + (1 * x1 + 0) ≤ 0) (fe_0_5_1 : end_0 = end_1) (fe_0_6_1 : next_0 = next_1) (fe_0_8_1 : begin_0 = begin_1) (fe_0_9_1 : number_0 = number_1) (fe_0_5_2 : end_1 = end_2) (fe_0_7_2 : kind_1 = kind_2) (fe_0_8_2 : begin_1 = begin_2) (fe_0_9_2 : number_1 = number_2) (fe_0_5_3 : end_2 = end_3) (fe_0_6_3 : next_2 = next_3) (fe_0_9_3 : number_2 = number_3) (hE_0_0_1 : ∀ j : Int, tape_0 j = tape_1 j) (hE_0_0_2 : ∀ j : Int, tape_1 j = tape_2 j) (hE_0_0_3 : ∀ j : Int, tape_2 j = tape_3 j) (hK_0_0 : ∀ j : Int, 0 ≤ j → j < 2000 → (-128) ≤ tape_0 j ∧ tape_0 j ≤ 127) (kz_0_5 : 0 ≤ end_0 ∧ end_0 ≤ 2000) (kz_0_6 : 0 ≤ next_0 ∧ next_0 ≤ 2000) (kz_0_7 : (-128) ≤ kind_0 ∧ kind_0 ≤ 127) (kz_0_8 : 0 ≤ begin_0 ∧ begin_0 ≤ 2000) (kz_0_9 : (-176) ≤ number_0 ∧ number_0 ≤ 1000000) : (1 * kind_0 + 0 ≤ 3) ∨ ((-1) * number_0 + (1 * x1 + 0) ≤ 0) := by
  subst fe_0_5_1
  subst fe_0_6_1
  subst fe_0_8_1
  subst fe_0_9_1
  subst fe_0_5_2
  subst fe_0_7_2
  subst fe_0_8_2
  subst fe_0_9_2
  subst fe_0_5_3
  subst fe_0_6_3
  subst fe_0_9_3
  have e_hE_0_0_1 := funext hE_0_0_1; subst e_hE_0_0_1
  have e_hE_0_0_2 := funext hE_0_0_2; subst e_hE_0_0_2
  have e_hE_0_0_3 := funext hE_0_0_3; subst e_hE_0_0_3
  first | with_reducible assumption | ((try and_intros) <;> first | with_reducible assumption | (clear hE_0_0_1 hE_0_0_2 hE_0_0_3 hK_0_0; omega)) | omega
set_option maxHeartbeats 4000000 in
theorem vc_Re_advance_24_2 (x4 : Int) (x11 : Int) (kind_0 : Int) (next_0 : Int) (begin_0 : Int) (end_0 : Int) (number_0 : Int) (number_1 : Int) (next_2 : Int) (tape_2 : Int → Int) (number_2 : Int) (end_2 : Int) (tape_3 : Int → Int) (number_3 : Int) (end_3 : Int) (next_3 : Int) (end_1 : Int) (next_1 : Int) (begin_1 : Int) (kind_1 : Int) (kind_2 : Int) (begin_2 : Int) (tape_0 : Int → Int) (tape_1 : Int → Int) (k4 : 0 ≤ x4 ∧ x4 ≤ 1999) (k11 : 123 ≤ x11 ∧ x11 ≤ 127) (g0 : x11 = kind_0) (h25 : x11 = tape_2 (x4)) (fe_0_5_1 : end_0 = end_1) (fe_0_6_1 : next_0 = next_1) (fe_0_8_1 : begin_0 = begin_1) (fe_0_9_1 : number_0 = number_1) (fe_0_5_2 : end_1 = end_2) (fe_0_7_2 : kind_1 = kind_2) (fe_0_8_2 : begin_1 = begin_2) (fe_0_9_2 : number_1 = number_2) (fe_0_5_3 : end_2 = end_3) (fe_0_6_3 : next_2 = next_3) (fe_0_9_3 : number_2 = number_3) (hE_0_0_1 : ∀ j : Int, tape_0 j = tape_1 j) (hE_0_0_2 : ∀ j : Int, tape_1 j = tape_2 j) (hE_0_0_3 : ∀ j : Int, tape_2 j = tape_3 j) (hK_0_0 : ∀ j : Int, 0 ≤ j → j < 2000 → (-128) ≤ tape_0 j ∧ tape_0 j ≤ 127) (kz_0_5 : 0 ≤ end_0 ∧ end_0 ≤ 2000) (kz_0_6 : 0 ≤ next_0 ∧ next_0 ≤ 2000) (kz_0_7 : (-128) ≤ kind_0 ∧ kind_0 ≤ 127) (kz_0_8 : 0 ≤ begin_0 ∧ begin_0 ≤ 2000) (kz_0_9 : (-176) ≤ number_0 ∧ number_0 ≤ 1000000) : ((-1) * kind_0 + 0 ≤ (-3)) ∨ (1 * next_0 + ((-1) * begin_0 + (2000 * kind_0 + 0)) ≤ 4008) := by
  subst fe_0_5_1
  subst fe_0_6_1
  subst fe_0_8_1
  subst fe_0_9_1
  subst fe_0_5_2
  subst fe_0_7_2
  subst fe_0_8_2
  subst fe_0_9_2
  subst fe_0_5_3
  subst fe_0_6_3
  subst fe_0_9_3
  have e_hE_0_0_1 := funext hE_0_0_1; subst e_hE_0_0_1
  have e_hE_0_0_2 := funext hE_0_0_2; subst e_hE_0_0_2
  have e_hE_0_0_3 := funext hE_0_0_3; subst e_hE_0_0_3
  first | with_reducible assumption | ((try and_intros) <;> first | with_reducible assumption | (clear hE_0_0_1 hE_0_0_2 hE_0_0_3 hK_0_0; omega)) | omega
set_option maxHeartbeats 4000000 in
theorem vc_Re_advance_24_3 (x4 : Int) (x15 : Int) (next_0 : Int) (begin_0 : Int) (end_0 : Int) (number_0 : Int) (number_1 : Int) (next_2 : Int) (tape_2 : Int → Int) (number_2 : Int) (end_2 : Int) (tape_3 : Int → Int) (number_3 : Int) (end_3 : Int) (next_3 : Int) (end_1 : Int) (next_1 : Int) (begin_1 : Int) (kind_1 : Int) (kind_2 : Int) (begin_2 : Int) (tape_0 : Int → Int) (tape_1 : Int → Int) (k4 : 0 ≤ x4 ∧ x4 ≤ 1999) (k15 : 1 ≤ x15 ∧ x15 ≤ 2000) (d0 : x4 + 1 ≤ x15 ∧ x15 ≤ x4 + 1) (g1 : x15 = next_0) (g2 : x4 = begin_0) (fe_0_5_1 : end_0 = end_1) (fe_0_6_1 : next_0 = next_1) (fe_0_8_1 : begin_0 = begin_1) (fe_0_9_1 : number_0 = number_1) (fe_0_5_2 : end_1 = end_2) (fe_0_7_2 : kind_1 = kind_2) (fe_0_8_2 : begin_1 = begin_2) (fe_0_9_2 : number_1 = number_2) (fe_0_5_3 : end_2 = end_3) (fe_0_6_3 : next_2 = next_3) (fe_0_9_3 : number_2 = number_3) (hE_0_0_1 : ∀ j : Int, tape_0 j = tape_1 j) (hE_0_0_2 : ∀ j : Int, tape_1 j = tape_2 j) (hE_0_0_3 : ∀ j : Int, tape_2 j = tape_3 j) (hK_0_0 : ∀ j : Int, 0 ≤ j → j < 2000 → (-128) ≤ tape_0 j ∧ tape_0 j ≤ 127) (kz_0_5 : 0 ≤ end_0 ∧ end_0 ≤ 2000) (kz_0_6 : 0 ≤ next_0 ∧ next_0 ≤ 2000) (kz_0_8 : 0 ≤ begin_0 ∧ begin_0 ≤ 2000) (kz_0_9 : (-176) ≤ number_0 ∧ number_0 ≤ 1000000) : 1 * begin_0 + ((-1) * next_0 + 0) ≤ 0 := by
  subst fe_0_5_1
  subst fe_0_6_1
  subst fe_0_8_1
  subst fe_0_9_1
  subst fe_0_5_2
  subst fe_0_7_2
  subst fe_0_8_2
  subst fe_0_9_2
  subst fe_0_5_3
  subst fe_0_6_3
  subst fe_0_9_3
  have e_hE_0_0_1 := funext hE_0_0_1; subst e_hE_0_0_1
  have e_hE_0_0_2 := funext hE_0_0_2; subst e_hE_0_0_2
  have e_hE_0_0_3 := funext hE_0_0_3; subst e_hE_0_0_3
  first | with_reducible assumption | ((try and_intros) <;> first | with_reducible assumption | (clear hE_0_0_1 hE_0_0_2 hE_0_0_3 hK_0_0; omega)) | omega
set_option maxHeartbeats 4000000 in
theorem vc_Re_advance_24_4 (x2 : Int) (x4 : Int) (x5 : Int) (x11 : Int) (x15 : Int) (x16 : Int) (kind_0 : Int) (next_0 : Int) (begin_0 : Int) (end_0 : Int) (number_0 : Int) (number_1 : Int) (next_2 : Int) (tape_2 : Int → Int) (number_2 : Int) (end_2 : Int) (tape_3 : Int → Int) (number_3 : Int) (end_3 : Int) (next_3 : Int) (end_1 : Int) (next_1 : Int) (begin_1 : Int) (kind_1 : Int) (kind_2 : Int) (begin_2 : Int) (tape_0 : Int → Int) (tape_1 : Int → Int) (k2 : 0 ≤ x2 ∧ x2 ≤ 2000) (k4 : 0 ≤ x4 ∧ x4 ≤ 1999) (k5 : 1 ≤ x5 ∧ x5 ≤ 2000) (k11 : 123 ≤ x11 ∧ x11 ≤ 127) (k15 : 1 ≤ x15 ∧ x15 ≤ 2000) (k16 : 1 ≤ x16 ∧ x16 ≤ 1) (d0 : x4 + 1 ≤ x15 ∧ x15 ≤ x4 + 1) (g0 : x11 = kind_0) (g1 : x15 = next_0) (g2 : x4 = begin_0) (g4 : x5 = end_0) (f12 : x16 ≠ 0) (f13 : CSG (x11) (x16)) (g20 : x4 = next_2) (h25 : x11 = tape_2 (x4)) (f36 : x4 < x5) (f39 : CX0 (end_3) (next_3) (tape_3) (x2)) (fe_0_5_1 : end_0 = end_1) (fe_0_6_1 : next_0 = next_1) (fe_0_8_1 : begin_0 = begin_1) (fe_0_9_1 : number_0 = number_1) (fe_0_5_2 : end_1 = end_2) (fe_0_7_2 : kind_1 = kind_2) (fe_0_8_2 : begin_1 = begin_2) (fe_0_9_2 : number_1 = number_2) (fe_0_5_3 : end_2 = end_3) (fe_0_6_3 : next_2 = next_3) (fe_0_8_3 : begin_2 = x4) (fe_0_9_3 : number_2 = number_3) (hE_0_0_1 : ∀ j : Int, tape_0 j = tape_1 j) (hE_0_0_2 : ∀ j : Int, tape_1 j = tape_2 j) (hE_0_0_3 : ∀ j : Int, tape_2 j = tape_3 j) (hK_0_0 : ∀ j : Int, 0 ≤ j → j < 2000 → (-128) ≤ tape_0 j ∧ tape_0 j ≤ 127) (kz_0_5 : 0 ≤ end_0 ∧ end_0 ≤ 2000) (kz_0_6 : 0 ≤ next_0 ∧ next_0 ≤ 2000) (kz_0_7 : (-128) ≤ kind_0 ∧ kind_0 ≤ 127) (kz_0_8 : 0 ≤ begin_0 ∧ begin_0 ≤ 2000) (kz_0_9 : (-176) ≤ number_0 ∧ number_0 ≤ 1000000) : TKC (end_0) (next_0) (kind_0) (begin_0) (number_0) (tape_0) (x2) := by
  subst fe_0_5_1
  subst fe_0_6_1
  subst fe_0_8_1
  subst fe_0_9_1
  subst fe_0_5_2
  subst fe_0_7_2
  subst fe_0_8_2
  subst fe_0_9_2
  subst fe_0_5_3
  subst fe_0_6_3
  subst fe_0_9_3
  have e_hE_0_0_1 := funext hE_0_0_1; subst e_hE_0_0_1
  have e_hE_0_0_2 := funext hE_0_0_2; subst e_hE_0_0_2
  have e_hE_0_0_3 := funext hE_0_0_3; subst e_hE_0_0_3
  first | subst g0 | skip
  first | subst g1 | skip
  first | subst g2 | skip
  first | subst g4 | skip
  first | subst g20 | skip
  first
    | exact cxl_e (by assumption) ‹CXL _ _ _ _ _› (fun q => by omega) (by omega)
    | exact cxl_e (by assumption) ‹CXL _ _ _ _ _› (fun q => cnb_f ‹CNBy _ _› (by omega) (by omega)) (by omega)
    | exact cxd_e (by assumption) ‹CXD _ _ _ _ _ _› (fun q => by unfold cIG; omega) (by omega)
    | exact cxs_e (by assumption) (cx_1 (by assumption) ‹CX0 _ _ _ _› (fun q => by omega) (by omega)) (by omega) rfl (by unfold cIL; omega) (by unfold cIG; omega) (by omega) (Or.inl ⟨csg_t ‹CSG _ _› (by omega) (by omega), by omega⟩)
    | exact cxs_e (by assumption) (cx_1 (by assumption) ‹CX0 _ _ _ _› (fun q => by omega) (by omega)) (by omega) rfl (by unfold cIL; omega) (by unfold cIG; omega) (by omega) (Or.inr ⟨csg_f ‹CSG _ _› (by omega) (by omega), by omega⟩)
set_option maxHeartbeats 4000000 in
theorem vc_Re_advance_24_5 (x2 : Int) (x4 : Int) (x15 : Int) (next_0 : Int) (begin_0 : Int) (end_0 : Int) (number_0 : Int) (number_1 : Int) (next_2 : Int) (tape_2 : Int → Int) (number_2 : Int) (end_2 : Int) (tape_3 : Int → Int) (number_3 : Int) (end_3 : Int) (next_3 : Int) (end_1 : Int) (next_1 : Int) (begin_1 : Int) (kind_1 : Int) (kind_2 : Int) (begin_2 : Int) (tape_0 : Int → Int) (tape_1 : Int → Int) (k2 : 0 ≤ x2 ∧ x2 ≤ 2000) (k4 : 0 ≤ x4 ∧ x4 ≤ 1999) (k15 : 1 ≤ x15 ∧ x15 ≤ 2000) (d0 : x4 + 1 ≤ x15 ∧ x15 ≤ x4 + 1) (g1 : x15 = next_0) (g2 : x4 = begin_0) (g20 : x4 = next_2) (f30 : 1 * x2 + ((-1) * next_2 + 0) ≤ 0) (fe_0_5_1 : end_0 = end_1) (fe_0_6_1 : next_0 = next_1) (fe_0_8_1 : begin_0 = begin_1) (fe_0_9_1 : number_0 = number_1) (fe_0_5_2 : end_1 = end_2) (fe_0_7_2 : kind_1 = kind_2) (fe_0_8_2 : begin_1 = begin_2) (fe_0_9_2 : number_1 = number_2) (fe_0_5_3 : end_2 = end_3) (fe_0_6_3 : next_2 = next_3) (fe_0_9_3 : number_2 = number_3) (hE_0_0_1 : ∀ j : Int, tape_0 j = tape_1 j) (hE_0_0_2 : ∀ j : Int, tape_1 j = tape_2 j) (hE_0_0_3 : ∀ j : Int, tape_2 j = tape_3 j) (hK_0_0 : ∀ j : Int, 0 ≤ j → j < 2000 → (-128) ≤ tape_0 j ∧ tape_0 j ≤ 127) (kz_0_5 : 0 ≤ end_0 ∧ end_0 ≤ 2000) (kz_0_6 : 0 ≤ next_0 ∧ next_0 ≤ 2000) (kz_0_8 : 0 ≤ begin_0 ∧ begin_0 ≤ 2000) (kz_0_9 : (-176) ≤ number_0 ∧ number_0 ≤ 1000000) : 1 * x2 + ((-1) * next_0 + 0) ≤ 0 := by
  subst fe_0_5_1
  subst fe_0_6_1
  subst fe_0_8_1
  subst fe_0_9_1
  subst fe_0_5_2
  subst fe_0_7_2
  subst fe_0_8_2
  subst fe_0_9_2
  subst fe_0_5_3
  subst fe_0_6_3
  subst fe_0_9_3
  have e_hE_0_0_1 := funext hE_0_0_1; subst e_hE_0_0_1
  have e_hE_0_0_2 := funext hE_0_0_2; subst e_hE_0_0_2
  have e_hE_0_0_3 := funext hE_0_0_3; subst e_hE_0_0_3
  first | with_reducible assumption | ((try and_intros) <;> first | with_reducible assumption | (clear hE_0_0_1 hE_0_0_2 hE_0_0_3 hK_0_0; omega)) | omega
def o_Re_advance_24 : or_T := (290, 17, [(0, (2, 0, 0, [8])), (1, (0, -2147483648, 1000000, [])), (2, (0, 0, 2000, [])), (3, (2, 0, 0, [8])), (4, (0, 0, 1999, [])), (5, (0, 1, 2000, [])), (6, (2, 0, 0, [109])), (7, (0, -128, 127, [])), (8, (0, 32, 32, [])), (9, (0, -128, 127, [])), (10, (0, 10, 10, [])), (11, (0, 123, 127, [])), (12, (0, 0, 0, [])), (13, (0, 0, 0, [])), (14, (0, 1, 1, [])), (15, (0, 1, 2000, [])), (16, (0, 1, 1, []))], [(9, [11, 3], [7]), (9, [15, 3], [6]), (9, [4, 3], [8]), (9, [6, 3], [0]), (9, [5, 3], [5]), (20, [11, 16], [61, 0, 1100]), (20, [11, 13], [61, 0, 1098]), (20, [11, 12], [61, 0, 1097]), (20, [3, 1], [30, 0, 1, 1, 9, -1, 0, 0]), (20, [3, 1], [30, 0, -1, 1, 9, 1, 0, 0]), (24, [0, 3], []), (101, [3, 11], [7]), (8, [16], [1]), (20, [11, 16], [61, 0, 1100]), (20, [11, 13], [61, 0, 1098]), (20, [11, 12], [61, 0, 1097]), (20, [3, 1], [30, 0, 1, 1, 9, -1, 0, 0]), (20, [3, 1], [30, 0, -1, 1, 9, 1, 0, 0]), (101, [3, 15], [6]), (1, [15, 4, 14], []), (9, [4, 3], [6]), (8, [13], [0]), (20, [11, 13], [61, 0, 1098]), (8, [12], [0]), (20, [11, 12], [61, 0, 1097]), (10, [11, 6, 4], []), (7, [4, 5], [2]), (20, [3, 1], [30, 0, 1, 1, 9, -1, 0, 0]), (20, [3, 1], [30, 0, -1, 1, 9, 1, 0, 0]), (20, [3, 2], [60, 2, 1, 1074, 5, 6, 0]), (20, [2, 3], [30, 0, 1, 0, 0, -1, 1, 6]), (101, [3, 4], [8]), (7, [9, 10], [1]), (10, [9, 6, 4], []), (7, [7, 8], [1]), (10, [7, 6, 4], []), (7, [4, 5], [2]), (20, [3, 1], [30, 0, 1, 1, 9, -1, 0, 0]), (20, [3, 1], [30, 0, -1, 1, 9, 1, 0, 0]), (20, [3, 2], [60, 2, 1, 1074, 5, 6, 0]), (20, [2, 3], [30, 0, 1, 0, 0, -1, 1, 6])], [], [], [(20, [0, 0, 1], [31, 1, 3, 1, 1, 7, 0, 1, 1, 9, -1, 0, 0]), (20, [0, 0, 1], [31, 1, 3, 1, 1, 7, 0, -1, 1, 9, 1, 0, 0]), (20, [0, 0, 0, 0], [31, 1, -3, -1, 1, 7, 4008, 1, 1, 6, -1, 1, 8, 2000, 1, 7]), (20, [0, 0], [30, 0, 1, 1, 8, -1, 1, 6]), (20, [0, 2], [60, 5, 1, 1072, 5, 6, 7, 8, 9, 0]), (20, [2, 0], [30, 0, 1, 0, 0, -1, 1, 6])], [], [(15, 4, 1, 1), (15, 5, -4294967296, 0), (4, 5, -4294967296, -1)])
theorem oo_Re_advance_24 {kA : Nat → ClassId} : or_ok PRD kA GG o_Re_advance_24 := by
  refine or_mk fun A ta ws vs hD hth hl => ?_
  intro t0 r0 t1 k1 t2 k2 t3 r3 t4 k4 t5 k5 t6 r6 t7 k7 t8 k8 t9 k9 t10 k10 t11 k11 t12 k12 t13 k13 t14 k14 t15 k15 t16 k16 d0 d1 d2 f0 f1 f2 f3 f4 f5 f6 f7 f8 f9 f10 ta1 w1 le1 s1 f12 f13 f14 f15 f16 f17 ta2 w2 le2 s2 f19 f20 f21 f22 f23 f24 f25 f26 f27 f28 f29 f30 ta3 w3 le3 s3 f32 f33 f34 f35 f36 f37 f38 f39 f40
  replace f0 := shm_198 f0
  replace f1 := shm_111 f1
  replace f2 := shm_293 f2
  replace f3 := shm_163 f3
  replace f4 := shm_110 f4
  replace f8 := shm_1521 f8
  replace f9 := shm_1522 f9
  replace f10 := shm_5 f10
  have s1 : (∀ b j, w_el ws b j = w_el w1 b j) ∧ ∀ b j, w_fd ws b j = if b = v_ad (n_v vs 3) ∧ j = 7 then n_v vs 11 else w_fd w1 b j := s1.2
  have s2 : (∀ b j, w_el w1 b j = w_el w2 b j) ∧ ∀ b j, w_fd w1 b j = if b = v_ad (n_v vs 3) ∧ j = 6 then n_v vs 15 else w_fd w2 b j := s2.2
  replace f20 := shm_111 f20
  replace f25 := shm_107 f25
  replace f30 := shm_1527 f30
  have s3 : (∀ b j, w_el w2 b j = w_el w3 b j) ∧ ∀ b j, w_fd w2 b j = if b = v_ad (n_v vs 3) ∧ j = 8 then n_v vs 4 else w_fd w3 b j := s3.2
  replace f39 := shm_1526 f39
  have q3 : n_v vs 3 = n_v vs 0 := f10.symm
  simp only [q3] at f0 f1 f2 f3 f4 f8 f9
  rw [q3] at s1
  rw [q3] at s2
  simp only [q3] at f20 f30
  rw [q3] at s3
  simp only [q3] at f39
  have ar_0_0_1 : w_ar w1 (n_v vs 0) 0 = w_ar ws (n_v vs 0) 0 := by show v_ad (w_fd w1 _ _) = v_ad (w_fd ws _ _); rw [s1.2, if_neg (fun e => absurd e.2 (by decide))]
  have ar_0_0_2 : w_ar w2 (n_v vs 0) 0 = w_ar ws (n_v vs 0) 0 := by rw [← ar_0_0_1]; show v_ad (w_fd w2 _ _) = v_ad (w_fd w1 _ _); rw [s2.2, if_neg (fun e => absurd e.2 (by decide))]
  have ar_0_0_3 : w_ar w3 (n_v vs 0) 0 = w_ar ws (n_v vs 0) 0 := by rw [← ar_0_0_2]; show v_ad (w_fd w3 _ _) = v_ad (w_fd w2 _ _); rw [s3.2, if_neg (fun e => absurd e.2 (by decide))]
  have cr_0_0 := fdq_95 hD hth r0
  have ad_6 : v_ad (n_v vs 6) = w_ar ws (n_v vs 0) 0 := congrArg v_ad f3
  have g0 : v_iv (n_v vs 11) = w_fi ws (n_v vs 0) 7 := congrArg v_iv f0
  have g1 : v_iv (n_v vs 15) = w_fi ws (n_v vs 0) 6 := congrArg v_iv f1
  have g2 : v_iv (n_v vs 4) = w_fi ws (n_v vs 0) 8 := congrArg v_iv f2
  have g4 : v_iv (n_v vs 5) = w_fi ws (n_v vs 0) 5 := congrArg v_iv f4
  have g20 : v_iv (n_v vs 4) = w_fi w2 (n_v vs 0) 6 := congrArg v_iv f20
  simp only [ad_6] at f25
  have h25 : v_iv (n_v vs 11) = w_ei w2 (w_ar ws (n_v vs 0) 0) (v_iv (n_v vs 4)) := f25
  simp only [ar_0_0_3] at f39
  have fe_0_5_1 : w_fi ws (n_v vs 0) 5 = w_fi w1 (n_v vs 0) 5 := by show v_iv (w_fd _ _ _) = v_iv (w_fd _ _ _); rw [s1.2, if_neg (fun e => absurd e.2 (by decide))]
  have fe_0_6_1 : w_fi ws (n_v vs 0) 6 = w_fi w1 (n_v vs 0) 6 := by show v_iv (w_fd _ _ _) = v_iv (w_fd _ _ _); rw [s1.2, if_neg (fun e => absurd e.2 (by decide))]
  have fe_0_8_1 : w_fi ws (n_v vs 0) 8 = w_fi w1 (n_v vs 0) 8 := by show v_iv (w_fd _ _ _) = v_iv (w_fd _ _ _); rw [s1.2, if_neg (fun e => absurd e.2 (by decide))]
  have fe_0_9_1 : w_fi ws (n_v vs 0) 9 = w_fi w1 (n_v vs 0) 9 := by show v_iv (w_fd _ _ _) = v_iv (w_fd _ _ _); rw [s1.2, if_neg (fun e => absurd e.2 (by decide))]
  have fe_0_5_2 : w_fi w1 (n_v vs 0) 5 = w_fi w2 (n_v vs 0) 5 := by show v_iv (w_fd _ _ _) = v_iv (w_fd _ _ _); rw [s2.2, if_neg (fun e => absurd e.2 (by decide))]
  have fe_0_7_2 : w_fi w1 (n_v vs 0) 7 = w_fi w2 (n_v vs 0) 7 := by show v_iv (w_fd _ _ _) = v_iv (w_fd _ _ _); rw [s2.2, if_neg (fun e => absurd e.2 (by decide))]
  have fe_0_8_2 : w_fi w1 (n_v vs 0) 8 = w_fi w2 (n_v vs 0) 8 := by show v_iv (w_fd _ _ _) = v_iv (w_fd _ _ _); rw [s2.2, if_neg (fun e => absurd e.2 (by decide))]
  have fe_0_9_2 : w_fi w1 (n_v vs 0) 9 = w_fi w2 (n_v vs 0) 9 := by show v_iv (w_fd _ _ _) = v_iv (w_fd _ _ _); rw [s2.2, if_neg (fun e => absurd e.2 (by decide))]
  have fe_0_5_3 : w_fi w2 (n_v vs 0) 5 = w_fi w3 (n_v vs 0) 5 := by show v_iv (w_fd _ _ _) = v_iv (w_fd _ _ _); rw [s3.2, if_neg (fun e => absurd e.2 (by decide))]
  have fe_0_6_3 : w_fi w2 (n_v vs 0) 6 = w_fi w3 (n_v vs 0) 6 := by show v_iv (w_fd _ _ _) = v_iv (w_fd _ _ _); rw [s3.2, if_neg (fun e => absurd e.2 (by decide))]
  have fe_0_8_3 : w_fi w2 (n_v vs 0) 8 = v_iv (n_v vs 4) := by show v_iv (w_fd _ _ _) = _; rw [s3.2, if_pos ⟨rfl, rfl⟩]
  have fe_0_9_3 : w_fi w2 (n_v vs 0) 9 = w_fi w3 (n_v vs 0) 9 := by show v_iv (w_fd _ _ _) = v_iv (w_fd _ _ _); rw [s3.2, if_neg (fun e => absurd e.2 (by decide))]
  have hE_0_0_1 : ∀ j : Int, w_ei ws (w_ar ws (n_v vs 0) 0) j = w_ei w1 (w_ar ws (n_v vs 0) 0) j := fun j => s1.1 _ _
  have hE_0_0_2 : ∀ j : Int, w_ei w1 (w_ar ws (n_v vs 0) 0) j = w_ei w2 (w_ar ws (n_v vs 0) 0) j := fun j => s2.1 _ _
  have hE_0_0_3 : ∀ j : Int, w_ei w2 (w_ar ws (n_v vs 0) 0) j = w_ei w3 (w_ar ws (n_v vs 0) 0) j := fun j => s3.1 _ _
  have hK_0_0 := elq_33 hD hth cr_0_0
  have kz_0_5 := fdq_207 hD hth r0
  have kz_0_6 := fdq_208 hD hth r0
  have kz_0_7 := fdq_297 hD hth r0
  have kz_0_8 := fdq_99 hD hth r0
  have kz_0_9 := fdq_296 hD hth r0
  have nf0 : fc_1 PRD (20, [0, 0, 1], [31, 1, 3, 1, 1, 7, 0, 1, 1, 9, -1, 0, 0]) ws (vs) := ⟨nf_in hl rfl, sgq_1528 (vc_Re_advance_24_0 (v_iv (n_v vs 1)) (w_fi ws (n_v vs 0) 7) (w_fi ws (n_v vs 0) 6) (w_fi ws (n_v vs 0) 8) (w_fi ws (n_v vs 0) 5) (w_fi ws (n_v vs 0) 9) (w_fi w1 (n_v vs 0) 9) (w_fi w2 (n_v vs 0) 6) (w_ei w2 (w_ar ws (n_v vs 0) 0)) (w_fi w2 (n_v vs 0) 9) (w_fi w2 (n_v vs 0) 5) (w_ei w3 (w_ar ws (n_v vs 0) 0)) (w_fi w3 (n_v vs 0) 9) (w_fi w3 (n_v vs 0) 5) (w_fi w3 (n_v vs 0) 6) (w_fi w1 (n_v vs 0) 5) (w_fi w1 (n_v vs 0) 6) (w_fi w1 (n_v vs 0) 8) (w_fi w1 (n_v vs 0) 7) (w_fi w2 (n_v vs 0) 7) (w_fi w2 (n_v vs 0) 8) (w_ei ws (w_ar ws (n_v vs 0) 0)) (w_ei w1 (w_ar ws (n_v vs 0) 0)) k1 f8 f9 fe_0_5_1 fe_0_6_1 fe_0_8_1 fe_0_9_1 fe_0_5_2 fe_0_7_2 fe_0_8_2 fe_0_9_2 fe_0_5_3 fe_0_6_3 fe_0_9_3 hE_0_0_1 hE_0_0_2 hE_0_0_3 hK_0_0 kz_0_5 kz_0_6 kz_0_7 kz_0_8 kz_0_9)⟩
  have nf1 : fc_1 PRD (20, [0, 0, 1], [31, 1, 3, 1, 1, 7, 0, -1, 1, 9, 1, 0, 0]) ws (vs) := ⟨nf_in hl rfl, sgq_1529 (vc_Re_advance_24_1 (v_iv (n_v vs 1)) (w_fi ws (n_v vs 0) 7) (w_fi ws (n_v vs 0) 6) (w_fi ws (n_v vs 0) 8) (w_fi ws (n_v vs 0) 5) (w_fi ws (n_v vs 0) 9) (w_fi w1 (n_v vs 0) 9) (w_fi w2 (n_v vs 0) 6) (w_ei w2 (w_ar ws (n_v vs 0) 0)) (w_fi w2 (n_v vs 0) 9) (w_fi w2 (n_v vs 0) 5) (w_ei w3 (w_ar ws (n_v vs 0) 0)) (w_fi w3 (n_v vs 0) 9) (w_fi w3 (n_v vs 0) 5) (w_fi w3 (n_v vs 0) 6) (w_fi w1 (n_v vs 0) 5) (w_fi w1 (n_v vs 0) 6) (w_fi w1 (n_v vs 0) 8) (w_fi w1 (n_v vs 0) 7) (w_fi w2 (n_v vs 0) 7) (w_fi w2 (n_v vs 0) 8) (w_ei ws (w_ar ws (n_v vs 0) 0)) (w_ei w1 (w_ar ws (n_v vs 0) 0)) k1 f8 f9 fe_0_5_1 fe_0_6_1 fe_0_8_1 fe_0_9_1 fe_0_5_2 fe_0_7_2 fe_0_8_2 fe_0_9_2 fe_0_5_3 fe_0_6_3 fe_0_9_3 hE_0_0_1 hE_0_0_2 hE_0_0_3 hK_0_0 kz_0_5 kz_0_6 kz_0_7 kz_0_8 kz_0_9)⟩
  have nf2 : fc_1 PRD (20, [0, 0, 0, 0], [31, 1, -3, -1, 1, 7, 4008, 1, 1, 6, -1, 1, 8, 2000, 1, 7]) ws (vs) := ⟨nf_in hl rfl, sgq_1530 (vc_Re_advance_24_2 (v_iv (n_v vs 4)) (v_iv (n_v vs 11)) (w_fi ws (n_v vs 0) 7) (w_fi ws (n_v vs 0) 6) (w_fi ws (n_v vs 0) 8) (w_fi ws (n_v vs 0) 5) (w_fi ws (n_v vs 0) 9) (w_fi w1 (n_v vs 0) 9) (w_fi w2 (n_v vs 0) 6) (w_ei w2 (w_ar ws (n_v vs 0) 0)) (w_fi w2 (n_v vs 0) 9) (w_fi w2 (n_v vs 0) 5) (w_ei w3 (w_ar ws (n_v vs 0) 0)) (w_fi w3 (n_v vs 0) 9) (w_fi w3 (n_v vs 0) 5) (w_fi w3 (n_v vs 0) 6) (w_fi w1 (n_v vs 0) 5) (w_fi w1 (n_v vs 0) 6) (w_fi w1 (n_v vs 0) 8) (w_fi w1 (n_v vs 0) 7) (w_fi w2 (n_v vs 0) 7) (w_fi w2 (n_v vs 0) 8) (w_ei ws (w_ar ws (n_v vs 0) 0)) (w_ei w1 (w_ar ws (n_v vs 0) 0)) k4 k11 g0 h25 fe_0_5_1 fe_0_6_1 fe_0_8_1 fe_0_9_1 fe_0_5_2 fe_0_7_2 fe_0_8_2 fe_0_9_2 fe_0_5_3 fe_0_6_3 fe_0_9_3 hE_0_0_1 hE_0_0_2 hE_0_0_3 hK_0_0 kz_0_5 kz_0_6 kz_0_7 kz_0_8 kz_0_9)⟩
  have nf3 : fc_1 PRD (20, [0, 0], [30, 0, 1, 1, 8, -1, 1, 6]) ws (vs) := ⟨nf_in hl rfl, sgq_1531 (vc_Re_advance_24_3 (v_iv (n_v vs 4)) (v_iv (n_v vs 15)) (w_fi ws (n_v vs 0) 6) (w_fi ws (n_v vs 0) 8) (w_fi ws (n_v vs 0) 5) (w_fi ws (n_v vs 0) 9) (w_fi w1 (n_v vs 0) 9) (w_fi w2 (n_v vs 0) 6) (w_ei w2 (w_ar ws (n_v vs 0) 0)) (w_fi w2 (n_v vs 0) 9) (w_fi w2 (n_v vs 0) 5) (w_ei w3 (w_ar ws (n_v vs 0) 0)) (w_fi w3 (n_v vs 0) 9) (w_fi w3 (n_v vs 0) 5) (w_fi w3 (n_v vs 0) 6) (w_fi w1 (n_v vs 0) 5) (w_fi w1 (n_v vs 0) 6) (w_fi w1 (n_v vs 0) 8) (w_fi w1 (n_v vs 0) 7) (w_fi w2 (n_v vs 0) 7) (w_fi w2 (n_v vs 0) 8) (w_ei ws (w_ar ws (n_v vs 0) 0)) (w_ei w1 (w_ar ws (n_v vs 0) 0)) k4 k15 d0 g1 g2 fe_0_5_1 fe_0_6_1 fe_0_8_1 fe_0_9_1 fe_0_5_2 fe_0_7_2 fe_0_8_2 fe_0_9_2 fe_0_5_3 fe_0_6_3 fe_0_9_3 hE_0_0_1 hE_0_0_2 hE_0_0_3 hK_0_0 kz_0_5 kz_0_6 kz_0_8 kz_0_9)⟩
  have nf4 : fc_1 PRD (20, [0, 2], [60, 5, 1, 1072, 5, 6, 7, 8, 9, 0]) ws (vs) := ⟨nf_in hl rfl, sgq_1532 (vc_Re_advance_24_4 (v_iv (n_v vs 2)) (v_iv (n_v vs 4)) (v_iv (n_v vs 5)) (v_iv (n_v vs 11)) (v_iv (n_v vs 15)) (v_iv (n_v vs 16)) (w_fi ws (n_v vs 0) 7) (w_fi ws (n_v vs 0) 6) (w_fi ws (n_v vs 0) 8) (w_fi ws (n_v vs 0) 5) (w_fi ws (n_v vs 0) 9) (w_fi w1 (n_v vs 0) 9) (w_fi w2 (n_v vs 0) 6) (w_ei w2 (w_ar ws (n_v vs 0) 0)) (w_fi w2 (n_v vs 0) 9) (w_fi w2 (n_v vs 0) 5) (w_ei w3 (w_ar ws (n_v vs 0) 0)) (w_fi w3 (n_v vs 0) 9) (w_fi w3 (n_v vs 0) 5) (w_fi w3 (n_v vs 0) 6) (w_fi w1 (n_v vs 0) 5) (w_fi w1 (n_v vs 0) 6) (w_fi w1 (n_v vs 0) 8) (w_fi w1 (n_v vs 0) 7) (w_fi w2 (n_v vs 0) 7) (w_fi w2 (n_v vs 0) 8) (w_ei ws (w_ar ws (n_v vs 0) 0)) (w_ei w1 (w_ar ws (n_v vs 0) 0)) k2 k4 k5 k11 k15 k16 d0 g0 g1 g2 g4 (shm_142 f12) (shm_454 f13) g20 h25 (shm_6 f36) f39 fe_0_5_1 fe_0_6_1 fe_0_8_1 fe_0_9_1 fe_0_5_2 fe_0_7_2 fe_0_8_2 fe_0_9_2 fe_0_5_3 fe_0_6_3 fe_0_8_3 fe_0_9_3 hE_0_0_1 hE_0_0_2 hE_0_0_3 hK_0_0 kz_0_5 kz_0_6 kz_0_7 kz_0_8 kz_0_9)⟩
  have nf5 : fc_1 PRD (20, [2, 0], [30, 0, 1, 0, 0, -1, 1, 6]) ws (vs) := ⟨nf_in hl rfl, sgq_1527 (vc_Re_advance_24_5 (v_iv (n_v vs 2)) (v_iv (n_v vs 4)) (v_iv (n_v vs 15)) (w_fi ws (n_v vs 0) 6) (w_fi ws (n_v vs 0) 8) (w_fi ws (n_v vs 0) 5) (w_fi ws (n_v vs 0) 9) (w_fi w1 (n_v vs 0) 9) (w_fi w2 (n_v vs 0) 6) (w_ei w2 (w_ar ws (n_v vs 0) 0)) (w_fi w2 (n_v vs 0) 9) (w_fi w2 (n_v vs 0) 5) (w_ei w3 (w_ar ws (n_v vs 0) 0)) (w_fi w3 (n_v vs 0) 9) (w_fi w3 (n_v vs 0) 5) (w_fi w3 (n_v vs 0) 6) (w_fi w1 (n_v vs 0) 5) (w_fi w1 (n_v vs 0) 6) (w_fi w1 (n_v vs 0) 8) (w_fi w1 (n_v vs 0) 7) (w_fi w2 (n_v vs 0) 7) (w_fi w2 (n_v vs 0) 8) (w_ei ws (w_ar ws (n_v vs 0) 0)) (w_ei w1 (w_ar ws (n_v vs 0) 0)) k2 k4 k15 d0 g1 g2 g20 f30 fe_0_5_1 fe_0_6_1 fe_0_8_1 fe_0_9_1 fe_0_5_2 fe_0_7_2 fe_0_8_2 fe_0_9_2 fe_0_5_3 fe_0_6_3 fe_0_9_3 hE_0_0_1 hE_0_0_2 hE_0_0_3 hK_0_0 kz_0_5 kz_0_6 kz_0_8 kz_0_9)⟩
  refine ⟨(fun _ h => (by cases h)), [], trivial, ?_, (fun _ h => (by cases h))⟩
  rw [List.append_nil]
  exact List.forall_mem_cons.mpr ⟨⟨show (20 : Nat) < 100 from by decide, nf0⟩, List.forall_mem_cons.mpr ⟨⟨show (20 : Nat) < 100 from by decide, nf1⟩, List.forall_mem_cons.mpr ⟨⟨show (20 : Nat) < 100 from by decide, nf2⟩, List.forall_mem_cons.mpr ⟨⟨show (20 : Nat) < 100 from by decide, nf3⟩, List.forall_mem_cons.mpr ⟨⟨show (20 : Nat) < 100 from by decide, nf4⟩, List.forall_mem_cons.mpr ⟨⟨show (20 : Nat) < 100 from by decide, nf5⟩, (fun _ h => (by cases h))⟩⟩⟩⟩⟩⟩
set_option maxHeartbeats 4000000 in
theorem vc_Re_advance_25_0 (x1 : Int) (x4 : Int) (x5 : Int) (kind_0 : Int) (begin_0 : Int) (end_0 : Int) (next_0 : Int) (number_0 : Int) (tape_0 : Int → Int) (number_1 : Int) (tape_1 : Int → Int) (end_1 : Int) (next_1 : Int) (tape_2 : Int → Int) (number_2 : Int) (end_2 : Int) (next_2 : Int) (begin_1 : Int) (k1 : (-2147483648) ≤ x1 ∧ x1 ≤ 1000000) (k4 : 1 ≤ x4 ∧ x4 ≤ 1998) (k5 : 2 ≤ x5 ∧ x5 ≤ 1999) (d0 : x5 + 0 ≤ x4 ∧ x4 ≤ x5 + 4294967296) (d1 : x5 + (-4294967296) ≤ x4 ∧ x4 ≤ x5 + (-1)) (fe_0_5_1 : end_0 = end_1) (fe_0_6_1 : next_0 = next_1) (fe_0_8_1 : begin_0 = begin_1) (fe_0_9_1 : number_0 = number_1) (fe_0_5_2 : end_1 = end_2) (fe_0_6_2 : next_1 = next_2) (fe_0_9_2 : number_1 = number_2) (hE_0_0_1 : ∀ j : Int, tape_0 j = tape_1 j) (hE_0_0_2 : ∀ j : Int, tape_1 j = tape_2 j) (hK_0_0 : ∀ j : Int, 0 ≤ j → j < 2000 → (-128) ≤ tape_0 j ∧ tape_0 j ≤ 127) (kz_0_5 : 0 ≤ end_0 ∧ end_0 ≤ 2000) (kz_0_6 : 0 ≤ next_0 ∧ next_0 ≤ 2000) (kz_0_7 : (-128) ≤ kind_0 ∧ kind_0 ≤ 127) (kz_0_8 : 0 ≤ begin_0 ∧ begin_0 ≤ 2000) (kz_0_9 : (-176) ≤ number_0 ∧ number_0 ≤ 1000000) : (1 * kind_0 + 0 ≤ 3) ∨ (1 * number_0 + ((-1) * x1 + 0) ≤ 0) := by
  subst fe_0_5_1
  subst fe_0_6_1
  subst fe_0_8_1
  subst fe_0_9_1
  subst fe_0_5_2
  subst fe_0_6_2
  subst fe_0_9_2
  have e_hE_0_0_1 := funext hE_0_0_1; subst e_hE_0_0_1
  have e_hE_0_0_2 := funext hE_0_0_2; subst e_hE_0_0_2
  first | with_reducible assumption | ((try and_intros) <;> first | with_reducible assumption | (clear hE_0_0_1 hE_0_0_2 hK_0_0; omega)) | omega
set_option maxHeartbeats 4000000 in
theorem vc_Re_advance_25_1 (x1 : Int) (x4 : Int) (x5 : Int) (kind_0 : Int) (begin_0 : Int) (end_0 : Int) (next_0 : Int) (number_0 : Int) (tape_0 : Int → Int) (number_1 : Int) (tape_1 : Int → Int) (end_1 : Int) (next_1 : Int) (tape_2 : Int → Int) (number_2 : Int) (end_2 : Int) (next_2 : Int) (begin_1 : Int) (k1 : (-2147483648) ≤ x1 ∧ x1 ≤ 1000000) (k4 : 1 ≤ x4 ∧ x4 ≤ 1998) (k5 : 2 ≤ x5 ∧ x5 ≤ 1999) (d0 : x5 + 0 ≤ x4 ∧ x4 ≤ x5 + 4294967296) (d1 : x5 + (-4294967296) ≤ x4 ∧ x4 ≤ x5 + (-1)) (fe_0_5_1 : end_0 = end_1) (fe_0_6_1 : next_0 = next_1) (fe_0_8_1 : begin_0 = begin_1) (fe_0_9_1 : number_0 = number_1) (fe_0_5_2 : end_1 = end_2) (fe_0_6_2 : next_1 = next_2) (fe_0_9_2 : number_1 = number_2) (hE_0_0_1 : ∀ j : Int, tape_0 j = tape_1 j) (hE_0_0_2 : ∀ j : Int, tape_1 j = tape_2 j) (hK_0_0 : ∀ j : Int, 0 ≤ j → j < 2000 → (-128) ≤ tape_0 j ∧ tape_0 j ≤ 127) (kz_0_5 : 0 ≤ end_0 ∧ end_0 ≤ 2000) (kz_0_6 : 0 ≤ next_0 ∧ next_0 ≤ 2000) (kz_0_7 : (-128) ≤ kind_0 ∧ kind_0 ≤ 127) (kz_0_8 : 0 ≤ begin_0 ∧ begin_0 ≤ 2000) (kz_0_9 : (-176) ≤ number_0 ∧ number_0 ≤ 1000000) : (1 * kind_0 + 0 ≤ 3) ∨ ((-1) * number_0 + (1 * x1 + 0) ≤ 0) := by
  subst fe_0_5_1
  subst fe_0_6_1
  subst fe_0_8_1
  subst fe_0_9_1
  subst fe_0_5_2
  subst fe_0_6_2
  subst fe_0_9_2
  have e_hE_0_0_1 := funext hE_0_0_1; subst e_hE_0_0_1
  have e_hE_0_0_2 := funext hE_0_0_2; subst e_hE_0_0_2
  first | with_reducible assumption | ((try and_intros) <;> first | with_reducible assumption | (clear hE_0_0_1 hE_0_0_2 hK_0_0; omega)) | omega
set_option maxHeartbeats 4000000 in
theorem vc_Re_advance_25_2 (x4 : Int) (x5 : Int) (kind_0 : Int) (begin_0 : Int) (end_0 : Int) (next_0 : Int) (number_0 : Int) (tape_0 : Int → Int) (number_1 : Int) (tape_1 : Int → Int) (end_1 : Int) (next_1 : Int) (tape_2 : Int → Int) (number_2 : Int) (end_2 : Int) (next_2 : Int) (begin_1 : Int) (k4 : 1 ≤ x4 ∧ x4 ≤ 1998) (k5 : 2 ≤ x5 ∧ x5 ≤ 1999) (d0 : x5 + 0 ≤ x4 ∧ x4 ≤ x5 + 4294967296) (d1 : x5 + (-4294967296) ≤ x4 ∧ x4 ≤ x5 + (-1)) (fe_0_5_1 : end_0 = end_1) (fe_0_6_1 : next_0 = next_1) (fe_0_8_1 : begin_0 = begin_1) (fe_0_9_1 : number_0 = number_1) (fe_0_5_2 : end_1 = end_2) (fe_0_6_2 : next_1 = next_2) (fe_0_9_2 : number_1 = number_2) (hE_0_0_1 : ∀ j : Int, tape_0 j = tape_1 j) (hE_0_0_2 : ∀ j : Int, tape_1 j = tape_2 j) (hK_0_0 : ∀ j : Int, 0 ≤ j → j < 2000 → (-128) ≤ tape_0 j ∧ tape_0 j ≤ 127) (kz_0_5 : 0 ≤ end_0 ∧ end_0 ≤ 2000) (kz_0_6 : 0 ≤ next_0 ∧ next_0 ≤ 2000) (kz_0_7 : (-128) ≤ kind_0 ∧ kind_0 ≤ 127) (kz_0_8 : 0 ≤ begin_0 ∧ begin_0 ≤ 2000) (kz_0_9 : (-176) ≤ number_0 ∧ number_0 ≤ 1000000) : ((-1) * kind_0 + 0 ≤ (-3)) ∨ (1 * next_0 + ((-1) * begin_0 + (2000 * kind_0 + 0)) ≤ 4008) := by
  subst fe_0_5_1
  subst fe_0_6_1
  subst fe_0_8_1
  subst fe_0_9_1
  subst fe_0_5_2
  subst fe_0_6_2
  subst fe_0_9_2
  have e_hE_0_0_1 := funext hE_0_0_1; subst e_hE_0_0_1
  have e_hE_0_0_2 := funext hE_0_0_2; subst e_hE_0_0_2
  first | with_reducible assumption | ((try and_intros) <;> first | with_reducible assumption | (clear hE_0_0_1 hE_0_0_2 hK_0_0; omega)) | omega
set_option maxHeartbeats 4000000 in
theorem vc_Re_advance_25_3 (x4 : Int) (x5 : Int) (begin_0 : Int) (end_0 : Int) (next_0 : Int) (number_0 : Int) (tape_0 : Int → Int) (number_1 : Int) (tape_1 : Int → Int) (end_1 : Int) (next_1 : Int) (tape_2 : Int → Int) (number_2 : Int) (end_2 : Int) (next_2 : Int) (begin_1 : Int) (k4 : 1 ≤ x4 ∧ x4 ≤ 1998) (k5 : 2 ≤ x5 ∧ x5 ≤ 1999) (d0 : x5 + 0 ≤ x4 ∧ x4 ≤ x5 + 4294967296) (d1 : x5 + (-4294967296) ≤ x4 ∧ x4 ≤ x5 + (-1)) (fe_0_5_1 : end_0 = end_1) (fe_0_6_1 : next_0 = next_1) (fe_0_8_1 : begin_0 = begin_1) (fe_0_9_1 : number_0 = number_1) (fe_0_5_2 : end_1 = end_2) (fe_0_6_2 : next_1 = next_2) (fe_0_9_2 : number_1 = number_2) (hE_0_0_1 : ∀ j : Int, tape_0 j = tape_1 j) (hE_0_0_2 : ∀ j : Int, tape_1 j = tape_2 j) (hK_0_0 : ∀ j : Int, 0 ≤ j → j < 2000 → (-128) ≤ tape_0 j ∧ tape_0 j ≤ 127) (kz_0_5 : 0 ≤ end_0 ∧ end_0 ≤ 2000) (kz_0_6 : 0 ≤ next_0 ∧ next_0 ≤ 2000) (kz_0_8 : 0 ≤ begin_0 ∧ begin_0 ≤ 2000) (kz_0_9 : (-176) ≤ number_0 ∧ number_0 ≤ 1000000) : 1 * begin_0 + ((-1) * next_0 + 0) ≤ 0 := by
  subst fe_0_5_1
  subst fe_0_6_1
  subst fe_0_8_1
  subst fe_0_9_1
  subst fe_0_5_2
  subst fe_0_6_2
  subst fe_0_9_2
  have e_hE_0_0_1 := funext hE_0_0_1; subst e_hE_0_0_1
  have e_hE_0_0_2 := funext hE_0_0_2; subst e_hE_0_0_2
  first | with_reducible assumption | ((try and_intros) <;> first | with_reducible assumption | (clear hE_0_0_1 hE_0_0_2 hK_0_0; omega)) | omega
set_option maxHeartbeats 4000000 in
theorem vc_Re_advance_25_4 (x2 : Int) (x4 : Int) (x5 : Int) (x11 : Int) (kind_0 : Int) (begin_0 : Int) (end_0 : Int) (next_0 : Int) (number_0 : Int) (tape_0 : Int → Int) (number_1 : Int) (tape_1 : Int → Int) (end_1 : Int) (next_1 : Int) (tape_2 : Int → Int) (number_2 : Int) (end_2 : Int) (next_2 : Int) (begin_1 : Int) (k2 : 0 ≤ x2 ∧ x2 ≤ 2000) (k4 : 1 ≤ x4 ∧ x4 ≤ 1998) (k5 : 2 ≤ x5 ∧ x5 ≤ 1999) (k11 : 0 ≤ x11 ∧ x11 ≤ 0) (d0 : x5 + 0 ≤ x4 ∧ x4 ≤ x5 + 4294967296) (d1 : x5 + (-4294967296) ≤ x4 ∧ x4 ≤ x5 + (-1)) (g0 : x11 = kind_0) (g1 : x4 = begin_0) (g3 : x5 = end_0) (g4 : x4 = next_0) (f11 : x5 ≤ x4) (f24 : CX0 (end_2) (next_2) (tape_2) (x2)) (fe_0_5_1 : end_0 = end_1) (fe_0_6_1 : next_0 = next_1) (fe_0_8_1 : begin_0 = begin_1) (fe_0_9_1 : number_0 = number_1) (fe_0_5_2 : end_1 = end_2) (fe_0_6_2 : next_1 = next_2) (fe_0_8_2 : begin_1 = x4) (fe_0_9_2 : number_1 = number_2) (hE_0_0_1 : ∀ j : Int, tape_0 j = tape_1 j) (hE_0_0_2 : ∀ j : Int, tape_1 j = tape_2 j) (hK_0_0 : ∀ j : Int, 0 ≤ j → j < 2000 → (-128) ≤ tape_0 j ∧ tape_0 j ≤ 127) (kz_0_5 : 0 ≤ end_0 ∧ end_0 ≤ 2000) (kz_0_6 : 0 ≤ next_0 ∧ next_0 ≤ 2000) (kz_0_7 : (-128) ≤ kind_0 ∧ kind_0 ≤ 127) (kz_0_8 : 0 ≤ begin_0 ∧ begin_0 ≤ 2000) (kz_0_9 : (-176) ≤ number_0 ∧ number_0 ≤ 1000000) : TKC (end_0) (next_0) (kind_0) (begin_0) (number_0) (tape_0) (x2) := by
  subst fe_0_5_1
  subst fe_0_6_1
  subst fe_0_8_1
  subst fe_0_9_1
  subst fe_0_5_2
  subst fe_0_6_2
  subst fe_0_9_2
  have e_hE_0_0_1 := funext hE_0_0_1; subst e_hE_0_0_1
  have e_hE_0_0_2 := funext hE_0_0_2; subst e_hE_0_0_2
  first | subst g0 | skip
  first | subst g1 | skip
  first | subst g3 | skip
  first | subst g4 | skip
  exact cx_end (cx_1 (by assumption) ‹CX0 _ _ _ _› (fun q => by omega) (by omega)) (by omega) (by omega)
set_option maxHeartbeats 4000000 in
theorem vc_Re_advance_25_5 (x2 : Int) (begin_0 : Int) (end_0 : Int) (next_0 : Int) (number_0 : Int) (tape_0 : Int → Int) (number_1 : Int) (tape_1 : Int → Int) (end_1 : Int) (next_1 : Int) (tape_2 : Int → Int) (number_2 : Int) (end_2 : Int) (next_2 : Int) (begin_1 : Int) (k2 : 0 ≤ x2 ∧ x2 ≤ 2000) (f25 : 1 * x2 + ((-1) * next_2 + 0) ≤ 0) (fe_0_5_1 : end_0 = end_1) (fe_0_6_1 : next_0 = next_1) (fe_0_8_1 : begin_0 = begin_1) (fe_0_9_1 : number_0 = number_1) (fe_0_5_2 : end_1 = end_2) (fe_0_6_2 : next_1 = next_2) (fe_0_9_2 : number_1 = number_2) (hE_0_0_1 : ∀ j : Int, tape_0 j = tape_1 j) (hE_0_0_2 : ∀ j : Int, tape_1 j = tape_2 j) (hK_0_0 : ∀ j : Int, 0 ≤ j → j < 2000 → (-128) ≤ tape_0 j ∧ tape_0 j ≤ 127) (kz_0_5 : 0 ≤ end_0 ∧ end_0 ≤ 2000) (kz_0_6 : 0 ≤ next_0 ∧ next_0 ≤ 2000) (kz_0_8 : 0 ≤ begin_0 ∧ begin_0 ≤ 2000) (kz_0_9 : (-176) ≤ number_0 ∧ number_0 ≤ 1000000) : 1 * x2 + ((-1) * next_0 + 0) ≤ 0 := by
  subst fe_0_5_1
  subst fe_0_6_1
  subst fe_0_8_1
  subst fe_0_9_1
  subst fe_0_5_2
  subst fe_0_6_2
  subst fe_0_9_2
  have e_hE_0_0_1 := funext hE_0_0_1; subst e_hE_0_0_1
  have e_hE_0_0_2 := funext hE_0_0_2; subst e_hE_0_0_2
  first | with_reducible assumption | ((try and_intros) <;> first | with_reducible assumption | (clear hE_0_0_1 hE_0_0_2 hK_0_0; omega)) | omega
def o_Re_advance_25 : or_T := (76, 12, [(0, (2, 0, 0, [8])), (1, (0, -2147483648, 1000000, [])), (2, (0, 0, 2000, [])), (4, (0, 1, 1998, [])), (5, (0, 2, 1999, [])), (11, (0, 0, 0, []))], [(9, [11, 3], [7]), (9, [4, 3], [8]), (9, [5, 3], [5]), (9, [4, 3], [6]), (24, [0, 3], []), (101, [3, 11], [7]), (7, [4, 5], [3]), (101, [3, 4], [8]), (20, [3, 2], [60, 2, 1, 1074, 5, 6, 0]), (20, [2, 3], [30, 0, 1, 0, 0, -1, 1, 6])], [], [], [(20, [0, 0, 1], [31, 1, 3, 1, 1, 7, 0, 1, 1, 9, -1, 0, 0]), (20, [0, 0, 1], [31, 1, 3, 1, 1, 7, 0, -1, 1, 9, 1, 0, 0]), (20, [0, 0, 0, 0], [31, 1, -3, -1, 1, 7, 4008, 1, 1, 6, -1, 1, 8, 2000, 1, 7]), (20, [0, 0], [30, 0, 1, 1, 8, -1, 1, 6]), (20, [0, 2], [60, 5, 1, 1072, 5, 6, 7, 8, 9, 0]), (20, [2, 0], [30, 0, 1, 0, 0, -1, 1, 6])], [], [(4, 5, 0, 4294967296), (4, 5, -4294967296, -1)])
theorem oo_Re_advance_25 {kA : Nat → ClassId} : or_ok PRD kA GG o_Re_advance_25 := by
  refine or_mk fun A ta ws vs hD hth hl => ?_
  intro t0 r0 t1 k1 t2 k2 t4 k4 t5 k5 t11 k11 d0 d1 f0 f1 f3 f4 f9 ta1 w1 le1 s1 f11 ta2 w2 le2 s2 f24 f25
  replace f0 := shm_198 f0
  replace f1 := shm_293 f1
  replace f3 := shm_110 f3
  replace f4 := shm_111 f4
  replace f9 := shm_5 f9
  have s1 : (∀ b j, w_el ws b j = w_el w1 b j) ∧ ∀ b j, w_fd ws b j = if b = v_ad (n_v vs 3) ∧ j = 7 then n_v vs 11 else w_fd w1 b j := s1.2
  have s2 : (∀ b j, w_el w1 b j = w_el w2 b j) ∧ ∀ b j, w_fd w1 b j = if b = v_ad (n_v vs 3) ∧ j = 8 then n_v vs 4 else w_fd w2 b j := s2.2
  replace f24 := shm_1526 f24
  replace f25 := shm_1527 f25
  have q3 : n_v vs 3 = n_v vs 0 := f9.symm
  simp only [q3] at f0 f1 f3 f4
  rw [q3] at s1
  rw [q3] at s2
  simp only [q3] at f24 f25
  have ar_0_0_1 : w_ar w1 (n_v vs 0) 0 = w_ar ws (n_v vs 0) 0 := by show v_ad (w_fd w1 _ _) = v_ad (w_fd ws _ _); rw [s1.2, if_neg (fun e => absurd e.2 (by decide))]
  have ar_0_0_2 : w_ar w2 (n_v vs 0) 0 = w_ar ws (n_v vs 0) 0 := by rw [← ar_0_0_1]; show v_ad (w_fd w2 _ _) = v_ad (w_fd w1 _ _); rw [s2.2, if_neg (fun e => absurd e.2 (by decide))]
  have cr_0_0 := fdq_95 hD hth r0
  have g0 : v_iv (n_v vs 11) = w_fi ws (n_v vs 0) 7 := congrArg v_iv f0
  have g1 : v_iv (n_v vs 4) = w_fi ws (n_v vs 0) 8 := congrArg v_iv f1
  have g3 : v_iv (n_v vs 5) = w_fi ws (n_v vs 0) 5 := congrArg v_iv f3
  have g4 : v_iv (n_v vs 4) = w_fi ws (n_v vs 0) 6 := congrArg v_iv f4
  simp only [ar_0_0_2] at f24
  have fe_0_5_1 : w_fi ws (n_v vs 0) 5 = w_fi w1 (n_v vs 0) 5 := by show v_iv (w_fd _ _ _) = v_iv (w_fd _ _ _); rw [s1.2, if_neg (fun e => absurd e.2 (by decide))]
  have fe_0_6_1 : w_fi ws (n_v vs 0) 6 = w_fi w1 (n_v vs 0) 6 := by show v_iv (w_fd _ _ _) = v_iv (w_fd _ _ _); rw [s1.2, if_neg (fun e => absurd e.2 (by decide))]
  have fe_0_8_1 : w_fi ws (n_v vs 0) 8 = w_fi w1 (n_v vs 0) 8 := by show v_iv (w_fd _ _ _) = v_iv (w_fd _ _ _); rw [s1.2, if_neg (fun e => absurd e.2 (by decide))]
  have fe_0_9_1 : w_fi ws (n_v vs 0) 9 = w_fi w1 (n_v vs 0) 9 := by show v_iv (w_fd _ _ _) = v_iv (w_fd _ _ _); rw [s1.2, if_neg (fun e => absurd e.2 (by decide))]
  have fe_0_5_2 : w_fi w1 (n_v vs 0) 5 = w_fi w2 (n_v vs 0) 5 := by show v_iv (w_fd _ _ _) = v_iv (w_fd _ _ _); rw [s2.2, if_neg (fun e => absurd e.2 (by decide))]
  have fe_0_6_2 : w_fi w1 (n_v vs 0) 6 = w_fi w2 (n_v vs 0) 6 := by show v_iv (w_fd _ _ _) = v_iv (w_fd _ _ _); rw [s2.2, if_neg (fun e => absurd e.2 (by decide))]
  have fe_0_8_2 : w_fi w1 (n_v vs 0) 8 = v_iv (n_v vs 4) := by show v_iv (w_fd _ _ _) = _; rw [s2.2, if_pos ⟨rfl, rfl⟩]
  have fe_0_9_2 : w_fi w1 (n_v vs 0) 9 = w_fi w2 (n_v vs 0) 9 := by show v_iv (w_fd _ _ _) = v_iv (w_fd _ _ _); rw [s2.2, if_neg (fun e => absurd e.2 (by decide))]
  have hE_0_0_1 : ∀ j : Int, w_ei ws (w_ar ws (n_v vs 0) 0) j = w_ei w1 (w_ar ws (n_v vs 0) 0) j := fun j => s1.1 _ _
  have hE_0_0_2 : ∀ j : Int, w_ei w1 (w_ar ws (n_v vs 0) 0) j = w_ei w2 (w_ar ws (n_v vs 0) 0) j := fun j => s2.1 _ _
  have hK_0_0 := elq_33 hD hth cr_0_0
  have kz_0_5 := fdq_207 hD hth r0
  have kz_0_6 := fdq_208 hD hth r0
  have kz_0_7 := fdq_297 hD hth r0
  have kz_0_8 := fdq_99 hD hth r0
  have kz_0_9 := fdq_296 hD hth r0
  have nf0 : fc_1 PRD (20, [0, 0, 1], [31, 1, 3, 1, 1, 7, 0, 1, 1, 9, -1, 0, 0]) ws (vs) := ⟨nf_in hl rfl, sgq_1528 (vc_Re_advance_25_0 (v_iv (n_v vs 1)) (v_iv (n_v vs 4)) (v_iv (n_v vs 5)) (w_fi ws (n_v vs 0) 7) (w_fi ws (n_v vs 0) 8) (w_fi ws (n_v vs 0) 5) (w_fi ws (n_v vs 0) 6) (w_fi ws (n_v vs 0) 9) (w_ei ws (w_ar ws (n_v vs 0) 0)) (w_fi w1 (n_v vs 0) 9) (w_ei w1 (w_ar ws (n_v vs 0) 0)) (w_fi w1 (n_v vs 0) 5) (w_fi w1 (n_v vs 0) 6) (w_ei w2 (w_ar ws (n_v vs 0) 0)) (w_fi w2 (n_v vs 0) 9) (w_fi w2 (n_v vs 0) 5) (w_fi w2 (n_v vs 0) 6) (w_fi w1 (n_v vs 0) 8) k1 k4 k5 d0 d1 fe_0_5_1 fe_0_6_1 fe_0_8_1 fe_0_9_1 fe_0_5_2 fe_0_6_2 fe_0_9_2 hE_0_0_1 hE_0_0_2 hK_0_0 kz_0_5 kz_0_6 kz_0_7 kz_0_8 kz_0_9)⟩
  have nf1 : fc_1 PRD (20, [0, 0, 1], [31, 1, 3, 1, 1, 7, 0, -1, 1, 9, 1, 0, 0]) ws (vs) := ⟨nf_in hl rfl, sgq_1529 (vc_Re_advance_25_1 (v_iv (n_v vs 1)) (v_iv (n_v vs 4)) (v_iv (n_v vs 5)) (w_fi ws (n_v vs 0) 7) (w_fi ws (n_v vs 0) 8) (w_fi ws (n_v vs 0) 5) (w_fi ws (n_v vs 0) 6) (w_fi ws (n_v vs 0) 9) (w_ei ws (w_ar ws (n_v vs 0) 0)) (w_fi w1 (n_v vs 0) 9) (w_ei w1 (w_ar ws (n_v vs 0) 0)) (w_fi w1 (n_v vs 0) 5) (w_fi w1 (n_v vs 0) 6) (w_ei w2 (w_ar ws (n_v vs 0) 0)) (w_fi w2 (n_v vs 0) 9) (w_fi w2 (n_v vs 0) 5) (w_fi w2 (n_v vs 0) 6) (w_fi w1 (n_v vs 0) 8) k1 k4 k5 d0 d1 fe_0_5_1 fe_0_6_1 fe_0_8_1 fe_0_9_1 fe_0_5_2 fe_0_6_2 fe_0_9_2 hE_0_0_1 hE_0_0_2 hK_0_0 kz_0_5 kz_0_6 kz_0_7 kz_0_8 kz_0_9)⟩
  have nf2 : fc_1 PRD (20, [0, 0, 0, 0], [31, 1, -3, -1, 1, 7, 4008, 1, 1, 6, -1, 1, 8, 2000, 1, 7]) ws (vs) := ⟨nf_in hl rfl, sgq_1530 (vc_Re_advance_25_2 (v_iv (n_v vs 4)) (v_iv (n_v vs 5)) (w_fi ws (n_v vs 0) 7) (w_fi ws (n_v vs 0) 8) (w_fi ws (n_v vs 0) 5) (w_fi ws (n_v vs 0) 6) (w_fi ws (n_v vs 0) 9) (w_ei ws (w_ar ws (n_v vs 0) 0)) (w_fi w1 (n_v vs 0) 9) (w_ei w1 (w_ar ws (n_v vs 0) 0)) (w_fi w1 (n_v vs 0) 5) (w_fi w1 (n_v vs 0) 6) (w_ei w2 (w_ar ws (n_v vs 0) 0)) (w_fi w2 (n_v vs 0) 9) (w_fi w2 (n_v vs 0) 5) (w_fi w2 (n_v vs 0) 6) (w_fi w1 (n_v vs 0) 8) k4 k5 d0 d1 fe_0_5_1 fe_0_6_1 fe_0_8_1 fe_0_9_1 fe_0_5_2 fe_0_6_2 fe_0_9_2 hE_0_0_1 hE_0_0_2 hK_0_0 kz_0_5 kz_0_6 kz_0_7 kz_0_8 kz_0_9)⟩
  have nf3 : fc_1 PRD (20, [0, 0], [30, 0, 1, 1, 8, -1, 1, 6]) ws (vs) := ⟨nf_in hl rfl, sgq_1531 (vc_Re_advance_25_3 (v_iv (n_v vs 4)) (v_iv (n_v vs 5)) (w_fi ws (n_v vs 0) 8) (w_fi ws (n_v vs 0) 5) (w_fi ws (n_v vs 0) 6) (w_fi ws (n_v vs 0) 9) (w_ei ws (w_ar ws (n_v vs 0) 0)) (w_fi w1 (n_v vs 0) 9) (w_ei w1 (w_ar ws (n_v vs 0) 0)) (w_fi w1 (n_v vs 0) 5) (w_fi w1 (n_v vs 0) 6) (w_ei w2 (w_ar ws (n_v vs 0) 0)) (w_fi w2 (n_v vs 0) 9) (w_fi w2 (n_v vs 0) 5) (w_fi w2 (n_v vs 0) 6) (w_fi w1 (n_v vs 0) 8) k4 k5 d0 d1 fe_0_5_1 fe_0_6_1 fe_0_8_1 fe_0_9_1 fe_0_5_2 fe_0_6_2 fe_0_9_2 hE_0_0_1 hE_0_0_2 hK_0_0 kz_0_5 kz_0_6 kz_0_8 kz_0_9)⟩
  have nf4 : fc_1 PRD (20, [0, 2], [60, 5, 1, 1072, 5, 6, 7, 8, 9, 0]) ws (vs) := ⟨nf_in hl rfl, sgq_1532 (vc_Re_advance_25_4 (v_iv (n_v vs 2)) (v_iv (n_v vs 4)) (v_iv (n_v vs 5)) (v_iv (n_v vs 11)) (w_fi ws (n_v vs 0) 7) (w_fi ws (n_v vs 0) 8) (w_fi ws (n_v vs 0) 5) (w_fi ws (n_v vs 0) 6) (w_fi ws (n_v vs 0) 9) (w_ei ws (w_ar ws (n_v vs 0) 0)) (w_fi w1 (n_v vs 0) 9) (w_ei w1 (w_ar ws (n_v vs 0) 0)) (w_fi w1 (n_v vs 0) 5) (w_fi w1 (n_v vs 0) 6) (w_ei w2 (w_ar ws (n_v vs 0) 0)) (w_fi w2 (n_v vs 0) 9) (w_fi w2 (n_v vs 0) 5) (w_fi w2 (n_v vs 0) 6) (w_fi w1 (n_v vs 0) 8) k2 k4 k5 k11 d0 d1 g0 g1 g3 g4 (shm_2 f11) f24 fe_0_5_1 fe_0_6_1 fe_0_8_1 fe_0_9_1 fe_0_5_2 fe_0_6_2 fe_0_8_2 fe_0_9_2 hE_0_0_1 hE_0_0_2 hK_0_0 kz_0_5 kz_0_6 kz_0_7 kz_0_8 kz_0_9)⟩
  have nf5 : fc_1 PRD (20, [2, 0], [30, 0, 1, 0, 0, -1, 1, 6]) ws (vs) := ⟨nf_in hl rfl, sgq_1527 (vc_Re_advance_25_5 (v_iv (n_v vs 2)) (w_fi ws (n_v vs 0) 8) (w_fi ws (n_v vs 0) 5) (w_fi ws (n_v vs 0) 6) (w_fi ws (n_v vs 0) 9) (w_ei ws (w_ar ws (n_v vs 0) 0)) (w_fi w1 (n_v vs 0) 9) (w_ei w1 (w_ar ws (n_v vs 0) 0)) (w_fi w1 (n_v vs 0) 5) (w_fi w1 (n_v vs 0) 6) (w_ei w2 (w_ar ws (n_v vs 0) 0)) (w_fi w2 (n_v vs 0) 9) (w_fi w2 (n_v vs 0) 5) (w_fi w2 (n_v vs 0) 6) (w_fi w1 (n_v vs 0) 8) k2 f25 fe_0_5_1 fe_0_6_1 fe_0_8_1 fe_0_9_1 fe_0_5_2 fe_0_6_2 fe_0_9_2 hE_0_0_1 hE_0_0_2 hK_0_0 kz_0_5 kz_0_6 kz_0_8 kz_0_9)⟩
  refine ⟨(fun _ h => (by cases h)), [], trivial, ?_, (fun _ h => (by cases h))⟩
  rw [List.append_nil]
  exact List.forall_mem_cons.mpr ⟨⟨show (20 : Nat) < 100 from by decide, nf0⟩, List.forall_mem_cons.mpr ⟨⟨show (20 : Nat) < 100 from by decide, nf1⟩, List.forall_mem_cons.mpr ⟨⟨show (20 : Nat) < 100 from by decide, nf2⟩, List.forall_mem_cons.mpr ⟨⟨show (20 : Nat) < 100 from by decide, nf3⟩, List.forall_mem_cons.mpr ⟨⟨show (20 : Nat) < 100 from by decide, nf4⟩, List.forall_mem_cons.mpr ⟨⟨show (20 : Nat) < 100 from by decide, nf5⟩, (fun _ h => (by cases h))⟩⟩⟩⟩⟩⟩
set_option maxHeartbeats 4000000 in
theorem vc_Re_advance_26_0 (x2 : Int) (x4 : Int) (x5 : Int) (x9 : Int) (x12 : Int) (next_0 : Int) (end_0 : Int) (number_0 : Int) (next_1 : Int) (tape_1 : Int → Int) (number_1 : Int) (end_1 : Int) (tape_0 : Int → Int) (k2 : 0 ≤ x2 ∧ x2 ≤ 2000) (k4 : 0 ≤ x4 ∧ x4 ≤ 1999) (k5 : 1 ≤ x5 ∧ x5 ≤ 2000) (k9 : 10 ≤ x9 ∧ x9 ≤ 10) (k12 : 1 ≤ x12 ∧ x12 ≤ 2000) (d0 : x4 + 1 ≤ x12 ∧ x12 ≤ x4 + 1) (g0 : x12 = next_0) (g2 : x5 = end_0) (g8 : x4 = next_1) (h10 : x9 = tape_1 (x4)) (f13 : x4 < x5) (f16 : CX0 (end_1) (next_1) (tape_1) (x2)) (fe_0_5_1 : end_0 = end_1) (fe_0_9_1 : number_0 = number_1) (hE_0_0_1 : ∀ j : Int, tape_0 j = tape_1 j) (hK_0_0 : ∀ j : Int, 0 ≤ j → j < 2000 → (-128) ≤ tape_0 j ∧ tape_0 j ≤ 127) (kz_0_5 : 0 ≤ end_0 ∧ end_0 ≤ 2000) (kz_0_6 : 0 ≤ next_0 ∧ next_0 ≤ 2000) (kz_0_9 : (-176) ≤ number_0 ∧ number_0 ≤ 1000000) : CX0 (end_0) (next_0) (tape_0) (x2) := by
  subst fe_0_5_1
  subst fe_0_9_1
  have e_hE_0_0_1 := funext hE_0_0_1; subst e_hE_0_0_1
  first | subst g0 | skip
  first | subst g2 | skip
  first | subst g8 | skip
  first
    | exact cx_0 ‹CLM _ _› (by omega)
    | exact cx_s (by assumption) ‹CX0 _ _ _ _› (by omega) (by omega) (by omega)
set_option maxHeartbeats 4000000 in
theorem vc_Re_advance_26_1 (x2 : Int) (x4 : Int) (x12 : Int) (next_0 : Int) (end_0 : Int) (number_0 : Int) (next_1 : Int) (tape_1 : Int → Int) (number_1 : Int) (end_1 : Int) (tape_0 : Int → Int) (k2 : 0 ≤ x2 ∧ x2 ≤ 2000) (k4 : 0 ≤ x4 ∧ x4 ≤ 1999) (k12 : 1 ≤ x12 ∧ x12 ≤ 2000) (d0 : x4 + 1 ≤ x12 ∧ x12 ≤ x4 + 1) (g0 : x12 = next_0) (g8 : x4 = next_1) (f17 : 1 * x2 + ((-1) * next_1 + 0) ≤ 0) (fe_0_5_1 : end_0 = end_1) (fe_0_9_1 : number_0 = number_1) (hE_0_0_1 : ∀ j : Int, tape_0 j = tape_1 j) (hK_0_0 : ∀ j : Int, 0 ≤ j → j < 2000 → (-128) ≤ tape_0 j ∧ tape_0 j ≤ 127) (kz_0_5 : 0 ≤ end_0 ∧ end_0 ≤ 2000) (kz_0_6 : 0 ≤ next_0 ∧ next_0 ≤ 2000) (kz_0_9 : (-176) ≤ number_0 ∧ number_0 ≤ 1000000) : 1 * x2 + ((-1) * next_0 + 0) ≤ 0 := by
  subst fe_0_5_1
  subst fe_0_9_1
  have e_hE_0_0_1 := funext hE_0_0_1; subst e_hE_0_0_1
  first | with_reducible assumption | ((try and_intros) <;> first | with_reducible assumption | (clear hE_0_0_1 hK_0_0; omega)) | omega
def o_Re_advance_26 : or_T := (0, 13, [(0, (2, 0, 0, [8])), (2, (0, 0, 2000, [])), (4, (0, 0, 1999, [])), (5, (0, 1, 2000, [])), (9, (0, 10, 10, [])), (12, (0, 1, 2000, []))], [(9, [12, 3], [6]), (9, [6, 3], [0]), (9, [5, 3], [5]), (24, [0, 3], []), (101, [3, 12], [6]), (9, [4, 3], [6]), (10, [9, 6, 4], []), (7, [4, 5], [2]), (20, [3, 2], [60, 2, 1, 1074, 5, 6, 0]), (20, [2, 3], [30, 0, 1, 0, 0, -1, 1, 6])], [], [], [(20, [3, 2], [60, 2, 1, 1074, 5, 6, 0]), (20, [2, 3], [30, 0, 1, 0, 0, -1, 1, 6])], [], [(12, 4, 1, 1)])
theorem oo_Re_advance_26 {kA : Nat → ClassId} : or_ok PRD kA GG o_Re_advance_26 := by
  refine or_mk fun A ta ws vs hD hth hl => ?_
  intro t0 r0 t2 k2 t4 k4 t5 k5 t9 k9 t12 k12 d0 f0 f1 f2 f5 ta1 w1 le1 s1 f8 f10 f13 f16 f17
  replace f0 := shm_111 f0
  replace f1 := shm_163 f1
  replace f2 := shm_110 f2
  replace f5 := shm_5 f5
  have s1 : (∀ b j, w_el ws b j = w_el w1 b j) ∧ ∀ b j, w_fd ws b j = if b = v_ad (n_v vs 3) ∧ j = 6 then n_v vs 12 else w_fd w1 b j := s1.2
  replace f8 := shm_111 f8
  replace f10 := shm_107 f10
  replace f13 := shm_6 f13
  replace f16 := shm_1526 f16
  replace f17 := shm_1527 f17
  have q3 : n_v vs 3 = n_v vs 0 := f5.symm
  simp only [q3] at f0 f1 f2
  rw [q3] at s1
  simp only [q3] at f8 f16 f17
  have ar_0_0_1 : w_ar w1 (n_v vs 0) 0 = w_ar ws (n_v vs 0) 0 := by show v_ad (w_fd w1 _ _) = v_ad (w_fd ws _ _); rw [s1.2, if_neg (fun e => absurd e.2 (by decide))]
  have cr_0_0 := fdq_95 hD hth r0
  have ad_6 : v_ad (n_v vs 6) = w_ar ws (n_v vs 0) 0 := congrArg v_ad f1
  have g0 : v_iv (n_v vs 12) = w_fi ws (n_v vs 0) 6 := congrArg v_iv f0
  have g2 : v_iv (n_v vs 5) = w_fi ws (n_v vs 0) 5 := congrArg v_iv f2
  have g8 : v_iv (n_v vs 4) = w_fi w1 (n_v vs 0) 6 := congrArg v_iv f8
  simp only [ad_6] at f10
  have h10 : v_iv (n_v vs 9) = w_ei w1 (w_ar ws (n_v vs 0) 0) (v_iv (n_v vs 4)) := f10
  simp only [ar_0_0_1] at f16
  have fe_0_5_1 : w_fi ws (n_v vs 0) 5 = w_fi w1 (n_v vs 0) 5 := by show v_iv (w_fd _ _ _) = v_iv (w_fd _ _ _); rw [s1.2, if_neg (fun e => absurd e.2 (by decide))]
  have fe_0_9_1 : w_fi ws (n_v vs 0) 9 = w_fi w1 (n_v vs 0) 9 := by show v_iv (w_fd _ _ _) = v_iv (w_fd _ _ _); rw [s1.2, if_neg (fun e => absurd e.2 (by decide))]
  have hE_0_0_1 : ∀ j : Int, w_ei ws (w_ar ws (n_v vs 0) 0) j = w_ei w1 (w_ar ws (n_v vs 0) 0) j := fun j => s1.1 _ _
  have hK_0_0 := elq_33 hD hth cr_0_0
  have kz_0_5 := fdq_207 hD hth r0
  have kz_0_6 := fdq_208 hD hth r0
  have kz_0_9 := fdq_296 hD hth r0
  have nf0 : fc_1 PRD (20, [3, 2], [60, 2, 1, 1074, 5, 6, 0]) ws (vs) := by
    refine ⟨nf_in hl rfl, sgq_1526 ?_⟩
    · show CX0 (w_fi ws (n_v vs 3) 5) (w_fi ws (n_v vs 3) 6) (w_ei ws (w_ar ws (n_v vs 3) 0)) (v_iv (n_v vs 2))
      rw [q3]
      exact vc_Re_advance_26_0 (v_iv (n_v vs 2)) (v_iv (n_v vs 4)) (v_iv (n_v vs 5)) (v_iv (n_v vs 9)) (v_iv (n_v vs 12)) (w_fi ws (n_v vs 0) 6) (w_fi ws (n_v vs 0) 5) (w_fi ws (n_v vs 0) 9) (w_fi w1 (n_v vs 0) 6) (w_ei w1 (w_ar ws (n_v vs 0) 0)) (w_fi w1 (n_v vs 0) 9) (w_fi w1 (n_v vs 0) 5) (w_ei ws (w_ar ws (n_v vs 0) 0)) k2 k4 k5 k9 k12 d0 g0 g2 g8 h10 f13 f16 fe_0_5_1 fe_0_9_1 hE_0_0_1 hK_0_0 kz_0_5 kz_0_6 kz_0_9
  have nf1 : fc_1 PRD (20, [2, 3], [30, 0, 1, 0, 0, -1, 1, 6]) ws (vs) := by
    refine ⟨nf_in hl rfl, sgq_1527 ?_⟩
    · show 1 * v_iv (n_v vs 2) + ((-1) * w_fi ws (n_v vs 3) 6 + 0) ≤ 0
      rw [q3]
      exact vc_Re_advance_26_1 (v_iv (n_v vs 2)) (v_iv (n_v vs 4)) (v_iv (n_v vs 12)) (w_fi ws (n_v vs 0) 6) (w_fi ws (n_v vs 0) 5) (w_fi ws (n_v vs 0) 9) (w_fi w1 (n_v vs 0) 6) (w_ei w1 (w_ar ws (n_v vs 0) 0)) (w_fi w1 (n_v vs 0) 9) (w_fi w1 (n_v vs 0) 5) (w_ei ws (w_ar ws (n_v vs 0) 0)) k2 k4 k12 d0 g0 g8 f17 fe_0_5_1 fe_0_9_1 hE_0_0_1 hK_0_0 kz_0_5 kz_0_6 kz_0_9
  refine ⟨(fun _ h => (by cases h)), [], trivial, ?_, (fun _ h => (by cases h))⟩
  rw [List.append_nil]
  exact List.forall_mem_cons.mpr ⟨⟨show (20 : Nat) < 100 from by decide, nf0⟩, List.forall_mem_cons.mpr ⟨⟨show (20 : Nat) < 100 from by decide, nf1⟩, (fun _ h => (by cases h))⟩⟩

set_option maxHeartbeats 4000000 in
theorem vc_Re_advance_27_0 (x1 : Int) (x10 : Int) (kind_0 : Int) (begin_0 : Int) (end_0 : Int) (next_0 : Int) (number_0 : Int) (tape_0 : Int → Int) (number_1 : Int) (begin_1 : Int) (next_1 : Int) (tape_1 : Int → Int) (end_1 : Int) (k1 : (-2147483648) ≤ x1 ∧ x1 ≤ 1000000) (k10 : 1 ≤ x10 ∧ x10 ≤ 1) (g0 : x10 = kind_0) (fe_0_5_1 : end_0 = end_1) (fe_0_6_1 : next_0 = next_1) (fe_0_8_1 : begin_0 = begin_1) (fe_0_9_1 : number_0 = number_1) (hE_0_0_1 : ∀ j : Int, tape_0 j = tape_1 j) (hK_0_0 : ∀ j : Int, 0 ≤ j → j < 2000 → (-128) ≤ tape_0 j ∧ tape_0 j ≤ 127) (kz_0_5 : 0 ≤ end_0 ∧ end_0 ≤ 2000) (kz_0_6 : 0 ≤ next_0 ∧ next_0 ≤ 2000) (kz_0_7 : (-128) ≤ kind_0 ∧ kind_0 ≤ 127) (kz_0_8 : 0 ≤ begin_0 ∧ begin_0 ≤ 2000) (kz_0_9 : (-176) ≤ number_0 ∧ number_0 ≤ 1000000) : (1 * kind_0 + 0 ≤ 3) ∨ (1 * number_0 + ((-1) * x1 + 0) ≤ 0) := by
  subst fe_0_5_1
  subst fe_0_6_1
  subst fe_0_8_1
  subst fe_0_9_1
  have e_hE_0_0_1 := funext hE_0_0_1; subst e_hE_0_0_1
  first | with_reducible assumption | ((try and_intros) <;> first | with_reducible assumption | (clear hE_0_0_1 hK_0_0; omega)) | omega
set_option maxHeartbeats 4000000 in
theorem vc_Re_advance_27_1 (x1 : Int) (x10 : Int) (kind_0 : Int) (begin_0 : Int) (end_0 : Int) (next_0 : Int) (number_0 : Int) (tape_0 : Int → Int) (number_1 : Int) (begin_1 : Int) (next_1 : Int) (tape_1 : Int → Int) (end_1 : Int) (k1 : (-2147483648) ≤ x1 ∧ x1 ≤ 1000000) (k10 : 1 ≤ x10 ∧ x10 ≤ 1) (g0 : x10 = kind_0) (fe_0_5_1 : end_0 = end_1) (fe_0_6_1 : next_0 = next_1) (fe_0_8_1 : begin_0 = begin_1) (fe_0_9_1 : number_0 = number_1) (hE_0_0_1 : ∀ j : Int, tape_0 j = tape_1 j) (hK_0_0 : ∀ j : Int, 0 ≤ j → j < 2000 → (-128) ≤ tape_0 j ∧ tape_0 j ≤ 127) (kz_0_5 : 0 ≤ end_0 ∧ end_0 ≤ 2000) (kz_0_6 : 0 ≤ next_0 ∧ next_0 ≤ 2000) (kz_0_7 : (-128) ≤ kind_0 ∧ kind_0 ≤ 127) (kz_0_8 : 0 ≤ begin_0 ∧ begin_0 ≤ 2000) (kz_0_9 : (-176) ≤ number_0 ∧ number_0 ≤ 1000000) : (1 * kind_0 + 0 ≤ 3) ∨ ((-1) * number_0 + (1 * x1 + 0) ≤ 0) := by
  subst fe_0_5_1
  subst fe_0_6_1
  subst fe_0_8_1
  subst fe_0_9_1
  have e_hE_0_0_1 := funext hE_0_0_1; subst e_hE_0_0_1
  first | with_reducible assumption | ((try and_intros) <;> first | with_reducible assumption | (clear hE_0_0_1 hK_0_0; omega)) | omega
set_option maxHeartbeats 4000000 in
theorem vc_Re_advance_27_2 (x5 : Int) (x7 : Int) (x8 : Int) (x10 : Int) (kind_0 : Int) (begin_0 : Int) (end_0 : Int) (next_0 : Int) (number_0 : Int) (tape_0 : Int → Int) (number_1 : Int) (begin_1 : Int) (next_1 : Int) (tape_1 : Int → Int) (end_1 : Int) (k5 : 9 ≤ x5 ∧ x5 ≤ 2000) (k7 : 0 ≤ x7 ∧ x7 ≤ 2000) (k8 : 9 ≤ x8 ∧ x8 ≤ 2000) (k10 : 1 ≤ x10 ∧ x10 ≤ 1) (g0 : x10 = kind_0) (g1 : x7 = begin_0) (g3 : x5 = next_0) (f12 : x8 = x5 - x7) (fe_0_5_1 : end_0 = end_1) (fe_0_6_1 : next_0 = next_1) (fe_0_8_1 : begin_0 = begin_1) (fe_0_9_1 : number_0 = number_1) (hE_0_0_1 : ∀ j : Int, tape_0 j = tape_1 j) (hK_0_0 : ∀ j : Int, 0 ≤ j → j < 2000 → (-128) ≤ tape_0 j ∧ tape_0 j ≤ 127) (kz_0_5 : 0 ≤ end_0 ∧ end_0 ≤ 2000) (kz_0_6 : 0 ≤ next_0 ∧ next_0 ≤ 2000) (kz_0_7 : (-128) ≤ kind_0 ∧ kind_0 ≤ 127) (kz_0_8 : 0 ≤ begin_0 ∧ begin_0 ≤ 2000) (kz_0_9 : (-176) ≤ number_0 ∧ number_0 ≤ 1000000) : ((-1) * kind_0 + 0 ≤ (-3)) ∨ (1 * next_0 + ((-1) * begin_0 + (2000 * kind_0 + 0)) ≤ 4008) := by
  subst fe_0_5_1
  subst fe_0_6_1
  subst fe_0_8_1
  subst fe_0_9_1
  have e_hE_0_0_1 := funext hE_0_0_1; subst e_hE_0_0_1
  first | with_reducible assumption | ((try and_intros) <;> first | with_reducible assumption | (clear hE_0_0_1 hK_0_0; omega)) | omega
set_option maxHeartbeats 4000000 in
theorem vc_Re_advance_27_3 (begin_0 : Int) (end_0 : Int) (next_0 : Int) (number_0 : Int) (tape_0 : Int → Int) (number_1 : Int) (begin_1 : Int) (next_1 : Int) (tape_1 : Int → Int) (end_1 : Int) (f16 : 1 * begin_1 + ((-1) * next_1 + 0) ≤ 0) (fe_0_5_1 : end_0 = end_1) (fe_0_6_1 : next_0 = next_1) (fe_0_8_1 : begin_0 = begin_1) (fe_0_9_1 : number_0 = number_1) (hE_0_0_1 : ∀ j : Int, tape_0 j = tape_1 j) (hK_0_0 : ∀ j : Int, 0 ≤ j → j < 2000 → (-128) ≤ tape_0 j ∧ tape_0 j ≤ 127) (kz_0_5 : 0 ≤ end_0 ∧ end_0 ≤ 2000) (kz_0_6 : 0 ≤ next_0 ∧ next_0 ≤ 2000) (kz_0_8 : 0 ≤ begin_0 ∧ begin_0 ≤ 2000) (kz_0_9 : (-176) ≤ number_0 ∧ number_0 ≤ 1000000) : 1 * begin_0 + ((-1) * next_0 + 0) ≤ 0 := by
  subst fe_0_5_1
  subst fe_0_6_1
  subst fe_0_8_1
  subst fe_0_9_1
  have e_hE_0_0_1 := funext hE_0_0_1; subst e_hE_0_0_1
  first | with_reducible assumption | ((try and_intros) <;> first | with_reducible assumption | (clear hE_0_0_1 hK_0_0; omega)) | omega
set_option maxHeartbeats 4000000 in
theorem vc_Re_advance_27_4 (x2 : Int) (x5 : Int) (x6 : Int) (x7 : Int) (x8 : Int) (x10 : Int) (kind_0 : Int) (begin_0 : Int) (end_0 : Int) (next_0 : Int) (number_0 : Int) (tape_0 : Int → Int) (number_1 : Int) (begin_1 : Int) (next_1 : Int) (tape_1 : Int → Int) (end_1 : Int) (k2 : 0 ≤ x2 ∧ x2 ≤ 2000) (k5 : 9 ≤ x5 ∧ x5 ≤ 2000) (k6 : 0 ≤ x6 ∧ x6 ≤ 2000) (k7 : 0 ≤ x7 ∧ x7 ≤ 2000) (k8 : 9 ≤ x8 ∧ x8 ≤ 2000) (k10 : 1 ≤ x10 ∧ x10 ≤ 1) (d1 : x6 + 0 ≤ x5 ∧ x5 ≤ x6 + 4294967296) (g0 : x10 = kind_0) (g1 : x7 = begin_0) (g2 : x6 = end_0) (g3 : x5 = next_0) (f12 : x8 = x5 - x7) (f17 : CXL (end_1) (next_1) (begin_1) (tape_1) (x2)) (fe_0_5_1 : end_0 = end_1) (fe_0_6_1 : next_0 = next_1) (fe_0_8_1 : begin_0 = begin_1) (fe_0_9_1 : number_0 = number_1) (hE_0_0_1 : ∀ j : Int, tape_0 j = tape_1 j) (hK_0_0 : ∀ j : Int, 0 ≤ j → j < 2000 → (-128) ≤ tape_0 j ∧ tape_0 j ≤ 127) (kz_0_5 : 0 ≤ end_0 ∧ end_0 ≤ 2000) (kz_0_6 : 0 ≤ next_0 ∧ next_0 ≤ 2000) (kz_0_7 : (-128) ≤ kind_0 ∧ kind_0 ≤ 127) (kz_0_8 : 0 ≤ begin_0 ∧ begin_0 ≤ 2000) (kz_0_9 : (-176) ≤ number_0 ∧ number_0 ≤ 1000000) : TKC (end_0) (next_0) (kind_0) (begin_0) (number_0) (tape_0) (x2) := by
  subst fe_0_5_1
  subst fe_0_6_1
  subst fe_0_8_1
  subst fe_0_9_1
  have e_hE_0_0_1 := funext hE_0_0_1; subst e_hE_0_0_1
  first | subst g0 | skip
  first | subst g1 | skip
  first | subst g2 | skip
  first | subst g3 | skip
  first
    | exact cxl_e (by assumption) ‹CXL _ _ _ _ _› (fun q => by omega) (by omega)
    | exact cxl_e (by assumption) ‹CXL _ _ _ _ _› (fun q => cnb_f ‹CNBy _ _› (by omega) (by omega)) (by omega)
    | exact cxd_e (by assumption) ‹CXD _ _ _ _ _ _› (fun q => by unfold cIG; omega) (by omega)
    | exact cxs_e (by assumption) (cx_1 (by assumption) ‹CX0 _ _ _ _› (fun q => by omega) (by omega)) (by omega) rfl (by unfold cIL; omega) (by unfold cIG; omega) (by omega) (Or.inl ⟨csg_t ‹CSG _ _› (by omega) (by omega), by omega⟩)
    | exact cxs_e (by assumption) (cx_1 (by assumption) ‹CX0 _ _ _ _› (fun q => by omega) (by omega)) (by omega) rfl (by unfold cIL; omega) (by unfold cIG; omega) (by omega) (Or.inr ⟨csg_f ‹CSG _ _› (by omega) (by omega), by omega⟩)
set_option maxHeartbeats 4000000 in
theorem vc_Re_advance_27_5 (x2 : Int) (begin_0 : Int) (end_0 : Int) (next_0 : Int) (number_0 : Int) (tape_0 : Int → Int) (number_1 : Int) (begin_1 : Int) (next_1 : Int) (tape_1 : Int → Int) (end_1 : Int) (k2 : 0 ≤ x2 ∧ x2 ≤ 2000) (f18 : 1 * x2 + ((-1) * next_1 + 0) ≤ 0) (fe_0_5_1 : end_0 = end_1) (fe_0_6_1 : next_0 = next_1) (fe_0_8_1 : begin_0 = begin_1) (fe_0_9_1 : number_0 = number_1) (hE_0_0_1 : ∀ j : Int, tape_0 j = tape_1 j) (hK_0_0 : ∀ j : Int, 0 ≤ j → j < 2000 → (-128) ≤ tape_0 j ∧ tape_0 j ≤ 127) (kz_0_5 : 0 ≤ end_0 ∧ end_0 ≤ 2000) (kz_0_6 : 0 ≤ next_0 ∧ next_0 ≤ 2000) (kz_0_8 : 0 ≤ begin_0 ∧ begin_0 ≤ 2000) (kz_0_9 : (-176) ≤ number_0 ∧ number_0 ≤ 1000000) : 1 * x2 + ((-1) * next_0 + 0) ≤ 0 := by
  subst fe_0_5_1
  subst fe_0_6_1
  subst fe_0_8_1
  subst fe_0_9_1
  have e_hE_0_0_1 := funext hE_0_0_1; subst e_hE_0_0_1
  first | with_reducible assumption | ((try and_intros) <;> first | with_reducible assumption | (clear hE_0_0_1 hK_0_0; omega)) | omega
def o_Re_advance_27 : or_T := (290, 11, [(0, (2, 0, 0, [8])), (1, (0, -2147483648, 1000000, [])), (2, (0, 0, 2000, [])), (3, (2, 0, 0, [8])), (5, (0, 9, 2000, [])), (6, (0, 0, 2000, [])), (7, (0, 0, 2000, [])), (8, (0, 9, 2000, [])), (9, (0, 8, 8, [])), (10, (0, 1, 1, []))], [(9, [10, 3], [7]), (9, [7, 3], [8]), (9, [6, 3], [5]), (9, [5, 3], [6]), (20, [3, 1], [30, 0, 1, 1, 9, -1, 0, 0]), (20, [3, 1], [30, 0, -1, 1, 9, 1, 0, 0]), (20, [3, 3], [30, 0, 1, 1, 8, -1, 1, 6]), (20, [3, 2], [60, 3, 1, 1076, 5, 6, 8, 0]), (20, [2, 3], [30, 0, 1, 0, 0, -1, 1, 6]), (24, [0, 3], []), (101, [3, 10], [7]), (7, [8, 9], [4]), (2, [8, 5, 7], []), (7, [5, 6], [3]), (20, [3, 1], [30, 0, 1, 1, 9, -1, 0, 0]), (20, [3, 1], [30, 0, -1, 1, 9, 1, 0, 0]), (20, [3, 3], [30, 0, 1, 1, 8, -1, 1, 6]), (20, [3, 2], [60, 3, 1, 1076, 5, 6, 8, 0]), (20, [2, 3], [30, 0, 1, 0, 0, -1, 1, 6])], [], [], [(20, [0, 0, 1], [31, 1, 3, 1, 1, 7, 0, 1, 1, 9, -1, 0, 0]), (20, [0, 0, 1], [31, 1, 3, 1, 1, 7, 0, -1, 1, 9, 1, 0, 0]), (20, [0, 0, 0, 0], [31, 1, -3, -1, 1, 7, 4008, 1, 1, 6, -1, 1, 8, 2000, 1, 7]), (20, [0, 0], [30, 0, 1, 1, 8, -1, 1, 6]), (20, [0, 2], [60, 5, 1, 1072, 5, 6, 7, 8, 9, 0]), (20, [2, 0], [30, 0, 1, 0, 0, -1, 1, 6])], [], [(8, 5, -2000, 0), (5, 6, 0, 4294967296)])
theorem oo_Re_advance_27 {kA : Nat → ClassId} : or_ok PRD kA GG o_Re_advance_27 := by
  refine or_mk fun A ta ws vs hD hth hl => ?_
  intro t0 r0 t1 k1 t2 k2 t3 r3 t5 k5 t6 k6 t7 k7 t8 k8 t9 k9 t10 k10 d0 d1 f0 f1 f2 f3 f4 f5 f6 f7 f8 f9 ta1 w1 le1 s1 f11 f12 f13 f14 f15 f16 f17 f18
  replace f0 := shm_198 f0
  replace f1 := shm_293 f1
  replace f2 := shm_110 f2
  replace f3 := shm_111 f3
  replace f9 := shm_5 f9
  have s1 : (∀ b j, w_el ws b j = w_el w1 b j) ∧ ∀ b j, w_fd ws b j = if b = v_ad (n_v vs 3) ∧ j = 7 then n_v vs 10 else w_fd w1 b j := s1.2
  replace f16 := shm_1531 f16
  replace f17 := shm_1534 f17
  replace f18 := shm_1527 f18
  have q3 : n_v vs 3 = n_v vs 0 := f9.symm
  simp only [q3] at f0 f1 f2 f3
  rw [q3] at s1
  simp only [q3] at f16 f17 f18
  have ar_0_0_1 : w_ar w1 (n_v vs 0) 0 = w_ar ws (n_v vs 0) 0 := by show v_ad (w_fd w1 _ _) = v_ad (w_fd ws _ _); rw [s1.2, if_neg (fun e => absurd e.2 (by decide))]
  have cr_0_0 := fdq_95 hD hth r0
  have g0 : v_iv (n_v vs 10) = w_fi ws (n_v vs 0) 7 := congrArg v_iv f0
  have g1 : v_iv (n_v vs 7) = w_fi ws (n_v vs 0) 8 := congrArg v_iv f1
  have g2 : v_iv (n_v vs 6) = w_fi ws (n_v vs 0) 5 := congrArg v_iv f2
  have g3 : v_iv (n_v vs 5) = w_fi ws (n_v vs 0) 6 := congrArg v_iv f3
  simp only [ar_0_0_1] at f17
  have fe_0_5_1 : w_fi ws (n_v vs 0) 5 = w_fi w1 (n_v vs 0) 5 := by show v_iv (w_fd _ _ _) = v_iv (w_fd _ _ _); rw [s1.2, if_neg (fun e => absurd e.2 (by decide))]
  have fe_0_6_1 : w_fi ws (n_v vs 0) 6 = w_fi w1 (n_v vs 0) 6 := by show v_iv (w_fd _ _ _) = v_iv (w_fd _ _ _); rw [s1.2, if_neg (fun e => absurd e.2 (by decide))]
  have fe_0_8_1 : w_fi ws (n_v vs 0) 8 = w_fi w1 (n_v vs 0) 8 := by show v_iv (w_fd _ _ _) = v_iv (w_fd _ _ _); rw [s1.2, if_neg (fun e => absurd e.2 (by decide))]
  have fe_0_9_1 : w_fi ws (n_v vs 0) 9 = w_fi w1 (n_v vs 0) 9 := by show v_iv (w_fd _ _ _) = v_iv (w_fd _ _ _); rw [s1.2, if_neg (fun e => absurd e.2 (by decide))]
  have hE_0_0_1 : ∀ j : Int, w_ei ws (w_ar ws (n_v vs 0) 0) j = w_ei w1 (w_ar ws (n_v vs 0) 0) j := fun j => s1.1 _ _
  have hK_0_0 := elq_33 hD hth cr_0_0
  have kz_0_5 := fdq_207 hD hth r0
  have kz_0_6 := fdq_208 hD hth r0
  have kz_0_7 := fdq_297 hD hth r0
  have kz_0_8 := fdq_99 hD hth r0
  have kz_0_9 := fdq_296 hD hth r0
  have nf0 : fc_1 PRD (20, [0, 0, 1], [31, 1, 3, 1, 1, 7, 0, 1, 1, 9, -1, 0, 0]) ws (vs) := ⟨nf_in hl rfl, sgq_1528 (vc_Re_advance_27_0 (v_iv (n_v vs 1)) (v_iv (n_v vs 10)) (w_fi ws (n_v vs 0) 7) (w_fi ws (n_v vs 0) 8) (w_fi ws (n_v vs 0) 5) (w_fi ws (n_v vs 0) 6) (w_fi ws (n_v vs 0) 9) (w_ei ws (w_ar ws (n_v vs 0) 0)) (w_fi w1 (n_v vs 0) 9) (w_fi w1 (n_v vs 0) 8) (w_fi w1 (n_v vs 0) 6) (w_ei w1 (w_ar ws (n_v vs 0) 0)) (w_fi w1 (n_v vs 0) 5) k1 k10 g0 fe_0_5_1 fe_0_6_1 fe_0_8_1 fe_0_9_1 hE_0_0_1 hK_0_0 kz_0_5 kz_0_6 kz_0_7 kz_0_8 kz_0_9)⟩
  have nf1 : fc_1 PRD (20, [0, 0, 1], [31, 1, 3, 1, 1, 7, 0, -1, 1, 9, 1, 0, 0]) ws (vs) := ⟨nf_in hl rfl, sgq_1529 (vc_Re_advance_27_1 (v_iv (n_v vs 1)) (v_iv (n_v vs 10)) (w_fi ws (n_v vs 0) 7) (w_fi ws (n_v vs 0) 8) (w_fi ws (n_v vs 0) 5) (w_fi ws (n_v vs 0) 6) (w_fi ws (n_v vs 0) 9) (w_ei ws (w_ar ws (n_v vs 0) 0)) (w_fi w1 (n_v vs 0) 9) (w_fi w1 (n_v vs 0) 8) (w_fi w1 (n_v vs 0) 6) (w_ei w1 (w_ar ws (n_v vs 0) 0)) (w_fi w1 (n_v vs 0) 5) k1 k10 g0 fe_0_5_1 fe_0_6_1 fe_0_8_1 fe_0_9_1 hE_0_0_1 hK_0_0 kz_0_5 kz_0_6 kz_0_7 kz_0_8 kz_0_9)⟩
  have nf2 : fc_1 PRD (20, [0, 0, 0, 0], [31, 1, -3, -1, 1, 7, 4008, 1, 1, 6, -1, 1, 8, 2000, 1, 7]) ws (vs) := ⟨nf_in hl rfl, sgq_1530 (vc_Re_advance_27_2 (v_iv (n_v vs 5)) (v_iv (n_v vs 7)) (v_iv (n_v vs 8)) (v_iv (n_v vs 10)) (w_fi ws (n_v vs 0) 7) (w_fi ws (n_v vs 0) 8) (w_fi ws (n_v vs 0) 5) (w_fi ws (n_v vs 0) 6) (w_fi ws (n_v vs 0) 9) (w_ei ws (w_ar ws (n_v vs 0) 0)) (w_fi w1 (n_v vs 0) 9) (w_fi w1 (n_v vs 0) 8) (w_fi w1 (n_v vs 0) 6) (w_ei w1 (w_ar ws (n_v vs 0) 0)) (w_fi w1 (n_v vs 0) 5) k5 k7 k8 k10 g0 g1 g3 (shm_14 f12) fe_0_5_1 fe_0_6_1 fe_0_8_1 fe_0_9_1 hE_0_0_1 hK_0_0 kz_0_5 kz_0_6 kz_0_7 kz_0_8 kz_0_9)⟩
  have nf3 : fc_1 PRD (20, [0, 0], [30, 0, 1, 1, 8, -1, 1, 6]) ws (vs) := ⟨nf_in hl rfl, sgq_1531 (vc_Re_advance_27_3 (w_fi ws (n_v vs 0) 8) (w_fi ws (n_v vs 0) 5) (w_fi ws (n_v vs 0) 6) (w_fi ws (n_v vs 0) 9) (w_ei ws (w_ar ws (n_v vs 0) 0)) (w_fi w1 (n_v vs 0) 9) (w_fi w1 (n_v vs 0) 8) (w_fi w1 (n_v vs 0) 6) (w_ei w1 (w_ar ws (n_v vs 0) 0)) (w_fi w1 (n_v vs 0) 5) f16 fe_0_5_1 fe_0_6_1 fe_0_8_1 fe_0_9_1 hE_0_0_1 hK_0_0 kz_0_5 kz_0_6 kz_0_8 kz_0_9)⟩
  have nf4 : fc_1 PRD (20, [0, 2], [60, 5, 1, 1072, 5, 6, 7, 8, 9, 0]) ws (vs) := ⟨nf_in hl rfl, sgq_1532 (vc_Re_advance_27_4 (v_iv (n_v vs 2)) (v_iv (n_v vs 5)) (v_iv (n_v vs 6)) (v_iv (n_v vs 7)) (v_iv (n_v vs 8)) (v_iv (n_v vs 10)) (w_fi ws (n_v vs 0) 7) (w_fi ws (n_v vs 0) 8) (w_fi ws (n_v vs 0) 5) (w_fi ws (n_v vs 0) 6) (w_fi ws (n_v vs 0) 9) (w_ei ws (w_ar ws (n_v vs 0) 0)) (w_fi w1 (n_v vs 0) 9) (w_fi w1 (n_v vs 0) 8) (w_fi w1 (n_v vs 0) 6) (w_ei w1 (w_ar ws (n_v vs 0) 0)) (w_fi w1 (n_v vs 0) 5) k2 k5 k6 k7 k8 k10 d1 g0 g1 g2 g3 (shm_14 f12) f17 fe_0_5_1 fe_0_6_1 fe_0_8_1 fe_0_9_1 hE_0_0_1 hK_0_0 kz_0_5 kz_0_6 kz_0_7 kz_0_8 kz_0_9)⟩
  have nf5 : fc_1 PRD (20, [2, 0], [30, 0, 1, 0, 0, -1, 1, 6]) ws (vs) := ⟨nf_in hl rfl, sgq_1527 (vc_Re_advance_27_5 (v_iv (n_v vs 2)) (w_fi ws (n_v vs 0) 8) (w_fi ws (n_v vs 0) 5) (w_fi ws (n_v vs 0) 6) (w_fi ws (n_v vs 0) 9) (w_ei ws (w_ar ws (n_v vs 0) 0)) (w_fi w1 (n_v vs 0) 9) (w_fi w1 (n_v vs 0) 8) (w_fi w1 (n_v vs 0) 6) (w_ei w1 (w_ar ws (n_v vs 0) 0)) (w_fi w1 (n_v vs 0) 5) k2 f18 fe_0_5_1 fe_0_6_1 fe_0_8_1 fe_0_9_1 hE_0_0_1 hK_0_0 kz_0_5 kz_0_6 kz_0_8 kz_0_9)⟩
  refine ⟨(fun _ h => (by cases h)), [], trivial, ?_, (fun _ h => (by cases h))⟩
  rw [List.append_nil]
  exact List.forall_mem_cons.mpr ⟨⟨show (20 : Nat) < 100 from by decide, nf0⟩, List.forall_mem_cons.mpr ⟨⟨show (20 : Nat) < 100 from by decide, nf1⟩, List.forall_mem_cons.mpr ⟨⟨show (20 : Nat) < 100 from by decide, nf2⟩, List.forall_mem_cons.mpr ⟨⟨show (20 : Nat) < 100 from by decide, nf3⟩, List.forall_mem_cons.mpr ⟨⟨show (20 : Nat) < 100 from by decide, nf4⟩, List.forall_mem_cons.mpr ⟨⟨show (20 : Nat) < 100 from by decide, nf5⟩, (fun _ h => (by cases h))⟩⟩⟩⟩⟩⟩
set_option maxHeartbeats 4000000 in
theorem vc_Re_advance_28_0 (x1 : Int) (x10 : Int) (kind_0 : Int) (begin_0 : Int) (end_0 : Int) (next_0 : Int) (number_0 : Int) (tape_0 : Int → Int) (number_1 : Int) (begin_1 : Int) (next_1 : Int) (tape_1 : Int → Int) (end_1 : Int) (k1 : (-2147483648) ≤ x1 ∧ x1 ≤ 1000000) (k10 : 2 ≤ x10 ∧ x10 ≤ 2) (g0 : x10 = kind_0) (fe_0_5_1 : end_0 = end_1) (fe_0_6_1 : next_0 = next_1) (fe_0_8_1 : begin_0 = begin_1) (fe_0_9_1 : number_0 = number_1) (hE_0_0_1 : ∀ j : Int, tape_0 j = tape_1 j) (hK_0_0 : ∀ j : Int, 0 ≤ j → j < 2000 → (-128) ≤ tape_0 j ∧ tape_0 j ≤ 127) (kz_0_5 : 0 ≤ end_0 ∧ end_0 ≤ 2000) (kz_0_6 : 0 ≤ next_0 ∧ next_0 ≤ 2000) (kz_0_7 : (-128) ≤ kind_0 ∧ kind_0 ≤ 127) (kz_0_8 : 0 ≤ begin_0 ∧ begin_0 ≤ 2000) (kz_0_9 : (-176) ≤ number_0 ∧ number_0 ≤ 1000000) : (1 * kind_0 + 0 ≤ 3) ∨ (1 * number_0 + ((-1) * x1 + 0) ≤ 0) := by
  subst fe_0_5_1
  subst fe_0_6_1
  subst fe_0_8_1
  subst fe_0_9_1
  have e_hE_0_0_1 := funext hE_0_0_1; subst e_hE_0_0_1
  first | with_reducible assumption | ((try and_intros) <;> first | with_reducible assumption | (clear hE_0_0_1 hK_0_0; omega)) | omega
set_option maxHeartbeats 4000000 in
theorem vc_Re_advance_28_1 (x1 : Int) (x10 : Int) (kind_0 : Int) (begin_0 : Int) (end_0 : Int) (next_0 : Int) (number_0 : Int) (tape_0 : Int → Int) (number_1 : Int) (begin_1 : Int) (next_1 : Int) (tape_1 : Int → Int) (end_1 : Int) (k1 : (-2147483648) ≤ x1 ∧ x1 ≤ 1000000) (k10 : 2 ≤ x10 ∧ x10 ≤ 2) (g0 : x10 = kind_0) (fe_0_5_1 : end_0 = end_1) (fe_0_6_1 : next_0 = next_1) (fe_0_8_1 : begin_0 = begin_1) (fe_0_9_1 : number_0 = number_1) (hE_0_0_1 : ∀ j : Int, tape_0 j = tape_1 j) (hK_0_0 : ∀ j : Int, 0 ≤ j → j < 2000 → (-128) ≤ tape_0 j ∧ tape_0 j ≤ 127) (kz_0_5 : 0 ≤ end_0 ∧ end_0 ≤ 2000) (kz_0_6 : 0 ≤ next_0 ∧ next_0 ≤ 2000) (kz_0_7 : (-128) ≤ kind_0 ∧ kind_0 ≤ 127) (kz_0_8 : 0 ≤ begin_0 ∧ begin_0 ≤ 2000) (kz_0_9 : (-176) ≤ number_0 ∧ number_0 ≤ 1000000) : (1 * kind_0 + 0 ≤ 3) ∨ ((-1) * number_0 + (1 * x1 + 0) ≤ 0) := by
  subst fe_0_5_1
  subst fe_0_6_1
  subst fe_0_8_1
  subst fe_0_9_1
  have e_hE_0_0_1 := funext hE_0_0_1; subst e_hE_0_0_1
  first | with_reducible assumption | ((try and_intros) <;> first | with_reducible assumption | (clear hE_0_0_1 hK_0_0; omega)) | omega
set_option maxHeartbeats 4000000 in
theorem vc_Re_advance_28_2 (x5 : Int) (x7 : Int) (x8 : Int) (x9 : Int) (x10 : Int) (kind_0 : Int) (begin_0 : Int) (end_0 : Int) (next_0 : Int) (number_0 : Int) (tape_0 : Int → Int) (number_1 : Int) (begin_1 : Int) (next_1 : Int) (tape_1 : Int → Int) (end_1 : Int) (k5 : 0 ≤ x5 ∧ x5 ≤ 2000) (k7 : 0 ≤ x7 ∧ x7 ≤ 2000) (k8 : (-2000) ≤ x8 ∧ x8 ≤ 8) (k9 : 8 ≤ x9 ∧ x9 ≤ 8) (k10 : 2 ≤ x10 ∧ x10 ≤ 2) (g0 : x10 = kind_0) (g1 : x7 = begin_0) (g3 : x5 = next_0) (f6 : 1 * begin_0 + ((-1) * next_0 + 0) ≤ 0) (f11 : x8 ≤ x9) (f12 : x8 = x5 - x7) (fe_0_5_1 : end_0 = end_1) (fe_0_6_1 : next_0 = next_1) (fe_0_8_1 : begin_0 = begin_1) (fe_0_9_1 : number_0 = number_1) (hE_0_0_1 : ∀ j : Int, tape_0 j = tape_1 j) (hK_0_0 : ∀ j : Int, 0 ≤ j → j < 2000 → (-128) ≤ tape_0 j ∧ tape_0 j ≤ 127) (kz_0_5 : 0 ≤ end_0 ∧ end_0 ≤ 2000) (kz_0_6 : 0 ≤ next_0 ∧ next_0 ≤ 2000) (kz_0_7 : (-128) ≤ kind_0 ∧ kind_0 ≤ 127) (kz_0_8 : 0 ≤ begin_0 ∧ begin_0 ≤ 2000) (kz_0_9 : (-176) ≤ number_0 ∧ number_0 ≤ 1000000) : ((-1) * kind_0 + 0 ≤ (-3)) ∨ (1 * next_0 + ((-1) * begin_0 + (2000 * kind_0 + 0)) ≤ 4008) := by
  subst fe_0_5_1
  subst fe_0_6_1
  subst fe_0_8_1
  subst fe_0_9_1
  have e_hE_0_0_1 := funext hE_0_0_1; subst e_hE_0_0_1
  first | with_reducible assumption | ((try and_intros) <;> first | with_reducible assumption | (clear hE_0_0_1 hK_0_0; omega)) | omega
set_option maxHeartbeats 4000000 in
theorem vc_Re_advance_28_3 (begin_0 : Int) (end_0 : Int) (next_0 : Int) (number_0 : Int) (tape_0 : Int → Int) (number_1 : Int) (begin_1 : Int) (next_1 : Int) (tape_1 : Int → Int) (end_1 : Int) (f16 : 1 * begin_1 + ((-1) * next_1 + 0) ≤ 0) (fe_0_5_1 : end_0 = end_1) (fe_0_6_1 : next_0 = next_1) (fe_0_8_1 : begin_0 = begin_1) (fe_0_9_1 : number_0 = number_1) (hE_0_0_1 : ∀ j : Int, tape_0 j = tape_1 j) (hK_0_0 : ∀ j : Int, 0 ≤ j → j < 2000 → (-128) ≤ tape_0 j ∧ tape_0 j ≤ 127) (kz_0_5 : 0 ≤ end_0 ∧ end_0 ≤ 2000) (kz_0_6 : 0 ≤ next_0 ∧ next_0 ≤ 2000) (kz_0_8 : 0 ≤ begin_0 ∧ begin_0 ≤ 2000) (kz_0_9 : (-176) ≤ number_0 ∧ number_0 ≤ 1000000) : 1 * begin_0 + ((-1) * next_0 + 0) ≤ 0 := by
  subst fe_0_5_1
  subst fe_0_6_1
  subst fe_0_8_1
  subst fe_0_9_1
  have e_hE_0_0_1 := funext hE_0_0_1; subst e_hE_0_0_1
  first | with_reducible assumption | ((try and_intros) <;> first | with_reducible assumption | (clear hE_0_0_1 hK_0_0; omega)) | omega
set_option maxHeartbeats 4000000 in
theorem vc_Re_advance_28_4 (x2 : Int) (x5 : Int) (x6 : Int) (x7 : Int) (x8 : Int) (x10 : Int) (kind_0 : Int) (begin_0 : Int) (end_0 : Int) (next_0 : Int) (number_0 : Int) (tape_0 : Int → Int) (number_1 : Int) (begin_1 : Int) (next_1 : Int) (tape_1 : Int → Int) (end_1 : Int) (k2 : 0 ≤ x2 ∧ x2 ≤ 2000) (k5 : 0 ≤ x5 ∧ x5 ≤ 2000) (k6 : 0 ≤ x6 ∧ x6 ≤ 2000) (k7 : 0 ≤ x7 ∧ x7 ≤ 2000) (k8 : (-2000) ≤ x8 ∧ x8 ≤ 8) (k10 : 2 ≤ x10 ∧ x10 ≤ 2) (d2 : x6 + 0 ≤ x5 ∧ x5 ≤ x6 + 4294967296) (g0 : x10 = kind_0) (g1 : x7 = begin_0) (g2 : x6 = end_0) (g3 : x5 = next_0) (f6 : 1 * begin_0 + ((-1) * next_0 + 0) ≤ 0) (f12 : x8 = x5 - x7) (f17 : CXL (end_1) (next_1) (begin_1) (tape_1) (x2)) (fe_0_5_1 : end_0 = end_1) (fe_0_6_1 : next_0 = next_1) (fe_0_8_1 : begin_0 = begin_1) (fe_0_9_1 : number_0 = number_1) (hE_0_0_1 : ∀ j : Int, tape_0 j = tape_1 j) (hK_0_0 : ∀ j : Int, 0 ≤ j → j < 2000 → (-128) ≤ tape_0 j ∧ tape_0 j ≤ 127) (kz_0_5 : 0 ≤ end_0 ∧ end_0 ≤ 2000) (kz_0_6 : 0 ≤ next_0 ∧ next_0 ≤ 2000) (kz_0_7 : (-128) ≤ kind_0 ∧ kind_0 ≤ 127) (kz_0_8 : 0 ≤ begin_0 ∧ begin_0 ≤ 2000) (kz_0_9 : (-176) ≤ number_0 ∧ number_0 ≤ 1000000) : TKC (end_0) (next_0) (kind_0) (begin_0) (number_0) (tape_0) (x2) := by
  subst fe_0_5_1
  subst fe_0_6_1
  subst fe_0_8_1
  subst fe_0_9_1
  have e_hE_0_0_1 := funext hE_0_0_1; subst e_hE_0_0_1
  first | subst g0 | skip
  first | subst g1 | skip
  first | subst g2 | skip
  first | subst g3 | skip
  first
    | exact cxl_e (by assumption) ‹CXL _ _ _ _ _› (fun q => by omega) (by omega)
    | exact cxl_e (by assumption) ‹CXL _ _ _ _ _› (fun q => cnb_f ‹CNBy _ _› (by omega) (by omega)) (by omega)
    | exact cxd_e (by assumption) ‹CXD _ _ _ _ _ _› (fun q => by unfold cIG; omega) (by omega)
    | exact cxs_e (by assumption) (cx_1 (by assumption) ‹CX0 _ _ _ _› (fun q => by omega) (by omega)) (by omega) rfl (by unfold cIL; omega) (by unfold cIG; omega) (by omega) (Or.inl ⟨csg_t ‹CSG _ _› (by omega) (by omega), by omega⟩)
    | exact cxs_e (by assumption) (cx_1 (by assumption) ‹CX0 _ _ _ _› (fun q => by omega) (by omega)) (by omega) rfl (by unfold cIL; omega) (by unfold cIG; omega) (by omega) (Or.inr ⟨csg_f ‹CSG _ _› (by omega) (by omega), by omega⟩)
set_option maxHeartbeats 4000000 in
theorem vc_Re_advance_28_5 (x2 : Int) (begin_0 : Int) (end_0 : Int) (next_0 : Int) (number_0 : Int) (tape_0 : Int → Int) (number_1 : Int) (begin_1 : Int) (next_1 : Int) (tape_1 : Int → Int) (end_1 : Int) (k2 : 0 ≤ x2 ∧ x2 ≤ 2000) (f18 : 1 * x2 + ((-1) * next_1 + 0) ≤ 0) (fe_0_5_1 : end_0 = end_1) (fe_0_6_1 : next_0 = next_1) (fe_0_8_1 : begin_0 = begin_1) (fe_0_9_1 : number_0 = number_1) (hE_0_0_1 : ∀ j : Int, tape_0 j = tape_1 j) (hK_0_0 : ∀ j : Int, 0 ≤ j → j < 2000 → (-128) ≤ tape_0 j ∧ tape_0 j ≤ 127) (kz_0_5 : 0 ≤ end_0 ∧ end_0 ≤ 2000) (kz_0_6 : 0 ≤ next_0 ∧ next_0 ≤ 2000) (kz_0_8 : 0 ≤ begin_0 ∧ begin_0 ≤ 2000) (kz_0_9 : (-176) ≤ number_0 ∧ number_0 ≤ 1000000) : 1 * x2 + ((-1) * next_0 + 0) ≤ 0 := by
  subst fe_0_5_1
  subst fe_0_6_1
  subst fe_0_8_1
  subst fe_0_9_1
  have e_hE_0_0_1 := funext hE_0_0_1; subst e_hE_0_0_1
  first | with_reducible assumption | ((try and_intros) <;> first | with_reducible assumption | (clear hE_0_0_1 hK_0_0; omega)) | omega
def o_Re_advance_28 : or_T := (290, 11, [(0, (2, 0, 0, [8])), (1, (0, -2147483648, 1000000, [])), (2, (0, 0, 2000, [])), (3, (2, 0, 0, [8])), (5, (0, 0, 2000, [])), (6, (0, 0, 2000, [])), (7, (0, 0, 2000, [])), (8, (0, -2000, 8, [])), (9, (0, 8, 8, [])), (10, (0, 2, 2, []))], [(9, [10, 3], [7]), (9, [7, 3], [8]), (9, [6, 3], [5]), (9, [5, 3], [6]), (20, [3, 1], [30, 0, 1, 1, 9, -1, 0, 0]), (20, [3, 1], [30, 0, -1, 1, 9, 1, 0, 0]), (20, [3, 3], [30, 0, 1, 1, 8, -1, 1, 6]), (20, [3, 2], [60, 3, 1, 1076, 5, 6, 8, 0]), (20, [2, 3], [30, 0, 1, 0, 0, -1, 1, 6]), (24, [0, 3], []), (101, [3, 10], [7]), (7, [8, 9], [5]), (2, [8, 5, 7], []), (7, [5, 6], [3]), (20, [3, 1], [30, 0, 1, 1, 9, -1, 0, 0]), (20, [3, 1], [30, 0, -1, 1, 9, 1, 0, 0]), (20, [3, 3], [30, 0, 1, 1, 8, -1, 1, 6]), (20, [3, 2], [60, 3, 1, 1076, 5, 6, 8, 0]), (20, [2, 3], [30, 0, 1, 0, 0, -1, 1, 6])], [], [], [(20, [0, 0, 1], [31, 1, 3, 1, 1, 7, 0, 1, 1, 9, -1, 0, 0]), (20, [0, 0, 1], [31, 1, 3, 1, 1, 7, 0, -1, 1, 9, 1, 0, 0]), (20, [0, 0, 0, 0], [31, 1, -3, -1, 1, 7, 4008, 1, 1, 6, -1, 1, 8, 2000, 1, 7]), (20, [0, 0], [30, 0, 1, 1, 8, -1, 1, 6]), (20, [0, 2], [60, 5, 1, 1072, 5, 6, 7, 8, 9, 0]), (20, [2, 0], [30, 0, 1, 0, 0, -1, 1, 6])], [], [(8, 5, -2000, 0), (8, 6, -2000, 4294967296), (5, 6, 0, 4294967296)])
theorem oo_Re_advance_28 {kA : Nat → ClassId} : or_ok PRD kA GG o_Re_advance_28 := by
  refine or_mk fun A ta ws vs hD hth hl => ?_
  intro t0 r0 t1 k1 t2 k2 t3 r3 t5 k5 t6 k6 t7 k7 t8 k8 t9 k9 t10 k10 d0 d1 d2 f0 f1 f2 f3 f4 f5 f6 f7 f8 f9 ta1 w1 le1 s1 f11 f12 f13 f14 f15 f16 f17 f18
  replace f0 := shm_198 f0
  replace f1 := shm_293 f1
  replace f2 := shm_110 f2
  replace f3 := shm_111 f3
  replace f6 := shm_1531 f6
  replace f9 := shm_5 f9
  have s1 : (∀ b j, w_el ws b j = w_el w1 b j) ∧ ∀ b j, w_fd ws b j = if b = v_ad (n_v vs 3) ∧ j = 7 then n_v vs 10 else w_fd w1 b j := s1.2
  replace f16 := shm_1531 f16
  replace f17 := shm_1534 f17
  replace f18 := shm_1527 f18
  have q3 : n_v vs 3 = n_v vs 0 := f9.symm
  simp only [q3] at f0 f1 f2 f3 f6
  rw [q3] at s1
  simp only [q3] at f16 f17 f18
  have ar_0_0_1 : w_ar w1 (n_v vs 0) 0 = w_ar ws (n_v vs 0) 0 := by show v_ad (w_fd w1 _ _) = v_ad (w_fd ws _ _); rw [s1.2, if_neg (fun e => absurd e.2 (by decide))]
  have cr_0_0 := fdq_95 hD hth r0
  have g0 : v_iv (n_v vs 10) = w_fi ws (n_v vs 0) 7 := congrArg v_iv f0
  have g1 : v_iv (n_v vs 7) = w_fi ws (n_v vs 0) 8 := congrArg v_iv f1
  have g2 : v_iv (n_v vs 6) = w_fi ws (n_v vs 0) 5 := congrArg v_iv f2
  have g3 : v_iv (n_v vs 5) = w_fi ws (n_v vs 0) 6 := congrArg v_iv f3
  simp only [ar_0_0_1] at f17
  have fe_0_5_1 : w_fi ws (n_v vs 0) 5 = w_fi w1 (n_v vs 0) 5 := by show v_iv (w_fd _ _ _) = v_iv (w_fd _ _ _); rw [s1.2, if_neg (fun e => absurd e.2 (by decide))]
  have fe_0_6_1 : w_fi ws (n_v vs 0) 6 = w_fi w1 (n_v vs 0) 6 := by show v_iv (w_fd _ _ _) = v_iv (w_fd _ _ _); rw [s1.2, if_neg (fun e => absurd e.2 (by decide))]
  have fe_0_8_1 : w_fi ws (n_v vs 0) 8 = w_fi w1 (n_v vs 0) 8 := by show v_iv (w_fd _ _ _) = v_iv (w_fd _ _ _); rw [s1.2, if_neg (fun e => absurd e.2 (by decide))]
  have fe_0_9_1 : w_fi ws (n_v vs 0) 9 = w_fi w1 (n_v vs 0) 9 := by show v_iv (w_fd _ _ _) = v_iv (w_fd _ _ _); rw [s1.2, if_neg (fun e => absurd e.2 (by decide))]
  have hE_0_0_1 : ∀ j : Int, w_ei ws (w_ar ws (n_v vs 0) 0) j = w_ei w1 (w_ar ws (n_v vs 0) 0) j := fun j => s1.1 _ _
  have hK_0_0 := elq_33 hD hth cr_0_0
  have kz_0_5 := fdq_207 hD hth r0
  have kz_0_6 := fdq_208 hD hth r0
  have kz_0_7 := fdq_297 hD hth r0
  have kz_0_8 := fdq_99 hD hth r0
  have kz_0_9 := fdq_296 hD hth r0
  have nf0 : fc_1 PRD (20, [0, 0, 1], [31, 1, 3, 1, 1, 7, 0, 1, 1, 9, -1, 0, 0]) ws (vs) := ⟨nf_in hl rfl, sgq_1528 (vc_Re_advance_28_0 (v_iv (n_v vs 1)) (v_iv (n_v vs 10)) (w_fi ws (n_v vs 0) 7) (w_fi ws (n_v vs 0) 8) (w_fi ws (n_v vs 0) 5) (w_fi ws (n_v vs 0) 6) (w_fi ws (n_v vs 0) 9) (w_ei ws (w_ar ws (n_v vs 0) 0)) (w_fi w1 (n_v vs 0) 9) (w_fi w1 (n_v vs 0) 8) (w_fi w1 (n_v vs 0) 6) (w_ei w1 (w_ar ws (n_v vs 0) 0)) (w_fi w1 (n_v vs 0) 5) k1 k10 g0 fe_0_5_1 fe_0_6_1 fe_0_8_1 fe_0_9_1 hE_0_0_1 hK_0_0 kz_0_5 kz_0_6 kz_0_7 kz_0_8 kz_0_9)⟩
  have nf1 : fc_1 PRD (20, [0, 0, 1], [31, 1, 3, 1, 1, 7, 0, -1, 1, 9, 1, 0, 0]) ws (vs) := ⟨nf_in hl rfl, sgq_1529 (vc_Re_advance_28_1 (v_iv (n_v vs 1)) (v_iv (n_v vs 10)) (w_fi ws (n_v vs 0) 7) (w_fi ws (n_v vs 0) 8) (w_fi ws (n_v vs 0) 5) (w_fi ws (n_v vs 0) 6) (w_fi ws (n_v vs 0) 9) (w_ei ws (w_ar ws (n_v vs 0) 0)) (w_fi w1 (n_v vs 0) 9) (w_fi w1 (n_v vs 0) 8) (w_fi w1 (n_v vs 0) 6) (w_ei w1 (w_ar ws (n_v vs 0) 0)) (w_fi w1 (n_v vs 0) 5) k1 k10 g0 fe_0_5_1 fe_0_6_1 fe_0_8_1 fe_0_9_1 hE_0_0_1 hK_0_0 kz_0_5 kz_0_6 kz_0_7 kz_0_8 kz_0_9)⟩
  have nf2 : fc_1 PRD (20, [0, 0, 0, 0], [31, 1, -3, -1, 1, 7, 4008, 1, 1, 6, -1, 1, 8, 2000, 1, 7]) ws (vs) := ⟨nf_in hl rfl, sgq_1530 (vc_Re_advance_28_2 (v_iv (n_v vs 5)) (v_iv (n_v vs 7)) (v_iv (n_v vs 8)) (v_iv (n_v vs 9)) (v_iv (n_v vs 10)) (w_fi ws (n_v vs 0) 7) (w_fi ws (n_v vs 0) 8) (w_fi ws (n_v vs 0) 5) (w_fi ws (n_v vs 0) 6) (w_fi ws (n_v vs 0) 9) (w_ei ws (w_ar ws (n_v vs 0) 0)) (w_fi w1 (n_v vs 0) 9) (w_fi w1 (n_v vs 0) 8) (w_fi w1 (n_v vs 0) 6) (w_ei w1 (w_ar ws (n_v vs 0) 0)) (w_fi w1 (n_v vs 0) 5) k5 k7 k8 k9 k10 g0 g1 g3 f6 (shm_24 f11) (shm_14 f12) fe_0_5_1 fe_0_6_1 fe_0_8_1 fe_0_9_1 hE_0_0_1 hK_0_0 kz_0_5 kz_0_6 kz_0_7 kz_0_8 kz_0_9)⟩
  have nf3 : fc_1 PRD (20, [0, 0], [30, 0, 1, 1, 8, -1, 1, 6]) ws (vs) := ⟨nf_in hl rfl, sgq_1531 (vc_Re_advance_28_3 (w_fi ws (n_v vs 0) 8) (w_fi ws (n_v vs 0) 5) (w_fi ws (n_v vs 0) 6) (w_fi ws (n_v vs 0) 9) (w_ei ws (w_ar ws (n_v vs 0) 0)) (w_fi w1 (n_v vs 0) 9) (w_fi w1 (n_v vs 0) 8) (w_fi w1 (n_v vs 0) 6) (w_ei w1 (w_ar ws (n_v vs 0) 0)) (w_fi w1 (n_v vs 0) 5) f16 fe_0_5_1 fe_0_6_1 fe_0_8_1 fe_0_9_1 hE_0_0_1 hK_0_0 kz_0_5 kz_0_6 kz_0_8 kz_0_9)⟩
  have nf4 : fc_1 PRD (20, [0, 2], [60, 5, 1, 1072, 5, 6, 7, 8, 9, 0]) ws (vs) := ⟨nf_in hl rfl, sgq_1532 (vc_Re_advance_28_4 (v_iv (n_v vs 2)) (v_iv (n_v vs 5)) (v_iv (n_v vs 6)) (v_iv (n_v vs 7)) (v_iv (n_v vs 8)) (v_iv (n_v vs 10)) (w_fi ws (n_v vs 0) 7) (w_fi ws (n_v vs 0) 8) (w_fi ws (n_v vs 0) 5) (w_fi ws (n_v vs 0) 6) (w_fi ws (n_v vs 0) 9) (w_ei ws (w_ar ws (n_v vs 0) 0)) (w_fi w1 (n_v vs 0) 9) (w_fi w1 (n_v vs 0) 8) (w_fi w1 (n_v vs 0) 6) (w_ei w1 (w_ar ws (n_v vs 0) 0)) (w_fi w1 (n_v vs 0) 5) k2 k5 k6 k7 k8 k10 d2 g0 g1 g2 g3 f6 (shm_14 f12) f17 fe_0_5_1 fe_0_6_1 fe_0_8_1 fe_0_9_1 hE_0_0_1 hK_0_0 kz_0_5 kz_0_6 kz_0_7 kz_0_8 kz_0_9)⟩
  have nf5 : fc_1 PRD (20, [2, 0], [30, 0, 1, 0, 0, -1, 1, 6]) ws (vs) := ⟨nf_in hl rfl, sgq_1527 (vc_Re_advance_28_5 (v_iv (n_v vs 2)) (w_fi ws (n_v vs 0) 8) (w_fi ws (n_v vs 0) 5) (w_fi ws (n_v vs 0) 6) (w_fi ws (n_v vs 0) 9) (w_ei ws (w_ar ws (n_v vs 0) 0)) (w_fi w1 (n_v vs 0) 9) (w_fi w1 (n_v vs 0) 8) (w_fi w1 (n_v vs 0) 6) (w_ei w1 (w_ar ws (n_v vs 0) 0)) (w_fi w1 (n_v vs 0) 5) k2 f18 fe_0_5_1 fe_0_6_1 fe_0_8_1 fe_0_9_1 hE_0_0_1 hK_0_0 kz_0_5 kz_0_6 kz_0_8 kz_0_9)⟩
  refine ⟨(fun _ h => (by cases h)), [], trivial, ?_, (fun _ h => (by cases h))⟩
  rw [List.append_nil]
  exact List.forall_mem_cons.mpr ⟨⟨show (20 : Nat) < 100 from by decide, nf0⟩, List.forall_mem_cons.mpr ⟨⟨show (20 : Nat) < 100 from by decide, nf1⟩, List.forall_mem_cons.mpr ⟨⟨show (20 : Nat) < 100 from by decide, nf2⟩, List.forall_mem_cons.mpr ⟨⟨show (20 : Nat) < 100 from by decide, nf3⟩, List.forall_mem_cons.mpr ⟨⟨show (20 : Nat) < 100 from by decide, nf4⟩, List.forall_mem_cons.mpr ⟨⟨show (20 : Nat) < 100 from by decide, nf5⟩, (fun _ h => (by cases h))⟩⟩⟩⟩⟩⟩
set_option maxHeartbeats 4000000 in
theorem vc_Re_advance_29_0 (x1 : Int) (x13 : Int) (kind_0 : Int) (begin_0 : Int) (end_0 : Int) (next_0 : Int) (number_0 : Int) (tape_0 : Int → Int) (tape_1 : Int → Int) (number_1 : Int) (begin_1 : Int) (next_1 : Int) (end_1 : Int) (k1 : (-2147483648) ≤ x1 ∧ x1 ≤ 1000000) (k13 : 1 ≤ x13 ∧ x13 ≤ 1) (g0 : x13 = kind_0) (fe_0_5_1 : end_0 = end_1) (fe_0_6_1 : next_0 = next_1) (fe_0_8_1 : begin_0 = begin_1) (fe_0_9_1 : number_0 = number_1) (hE_0_0_1 : ∀ j : Int, tape_0 j = tape_1 j) (hK_0_0 : ∀ j : Int, 0 ≤ j → j < 2000 → (-128) ≤ tape_0 j ∧ tape_0 j ≤ 127) (kz_0_5 : 0 ≤ end_0 ∧ end_0 ≤ 2000) (kz_0_6 : 0 ≤ next_0 ∧ next_0 ≤ 2000) (kz_0_7 : (-128) ≤ kind_0 ∧ kind_0 ≤ 127) (kz_0_8 : 0 ≤ begin_0 ∧ begin_0 ≤ 2000) (kz_0_9 : (-176) ≤ number_0 ∧ number_0 ≤ 1000000) : (1 * kind_0 + 0 ≤ 3) ∨ (1 * number_0 + ((-1) * x1 + 0) ≤ 0) := by
  subst fe_0_5_1
  subst fe_0_6_1
  subst fe_0_8_1
  subst fe_0_9_1
  have e_hE_0_0_1 := funext hE_0_0_1; subst e_hE_0_0_1
  first | with_reducible assumption | ((try and_intros) <;> first | with_reducible assumption | (clear hE_0_0_1 hK_0_0; omega)) | omega
set_option maxHeartbeats 4000000 in
theorem vc_Re_advance_29_1 (x1 : Int) (x13 : Int) (kind_0 : Int) (begin_0 : Int) (end_0 : Int) (next_0 : Int) (number_0 : Int) (tape_0 : Int → Int) (tape_1 : Int → Int) (number_1 : Int) (begin_1 : Int) (next_1 : Int) (end_1 : Int) (k1 : (-2147483648) ≤ x1 ∧ x1 ≤ 1000000) (k13 : 1 ≤ x13 ∧ x13 ≤ 1) (g0 : x13 = kind_0) (fe_0_5_1 : end_0 = end_1) (fe_0_6_1 : next_0 = next_1) (fe_0_8_1 : begin_0 = begin_1) (fe_0_9_1 : number_0 = number_1) (hE_0_0_1 : ∀ j : Int, tape_0 j = tape_1 j) (hK_0_0 : ∀ j : Int, 0 ≤ j → j < 2000 → (-128) ≤ tape_0 j ∧ tape_0 j ≤ 127) (kz_0_5 : 0 ≤ end_0 ∧ end_0 ≤ 2000) (kz_0_6 : 0 ≤ next_0 ∧ next_0 ≤ 2000) (kz_0_7 : (-128) ≤ kind_0 ∧ kind_0 ≤ 127) (kz_0_8 : 0 ≤ begin_0 ∧ begin_0 ≤ 2000) (kz_0_9 : (-176) ≤ number_0 ∧ number_0 ≤ 1000000) : (1 * kind_0 + 0 ≤ 3) ∨ ((-1) * number_0 + (1 * x1 + 0) ≤ 0) := by
  subst fe_0_5_1
  subst fe_0_6_1
  subst fe_0_8_1
  subst fe_0_9_1
  have e_hE_0_0_1 := funext hE_0_0_1; subst e_hE_0_0_1
  first | with_reducible assumption | ((try and_intros) <;> first | with_reducible assumption | (clear hE_0_0_1 hK_0_0; omega)) | omega
set_option maxHeartbeats 4000000 in
theorem vc_Re_advance_29_2 (x5 : Int) (x10 : Int) (x11 : Int) (x13 : Int) (kind_0 : Int) (begin_0 : Int) (end_0 : Int) (next_0 : Int) (number_0 : Int) (tape_0 : Int → Int) (tape_1 : Int → Int) (number_1 : Int) (begin_1 : Int) (next_1 : Int) (end_1 : Int) (k5 : 9 ≤ x5 ∧ x5 ≤ 1999) (k10 : 0 ≤ x10 ∧ x10 ≤ 2000) (k11 : 9 ≤ x11 ∧ x11 ≤ 1999) (k13 : 1 ≤ x13 ∧ x13 ≤ 1) (g0 : x13 = kind_0) (g1 : x10 = begin_0) (g4 : x5 = next_0) (f14 : x11 = x5 - x10) (fe_0_5_1 : end_0 = end_1) (fe_0_6_1 : next_0 = next_1) (fe_0_8_1 : begin_0 = begin_1) (fe_0_9_1 : number_0 = number_1) (hE_0_0_1 : ∀ j : Int, tape_0 j = tape_1 j) (hK_0_0 : ∀ j : Int, 0 ≤ j → j < 2000 → (-128) ≤ tape_0 j ∧ tape_0 j ≤ 127) (kz_0_5 : 0 ≤ end_0 ∧ end_0 ≤ 2000) (kz_0_6 : 0 ≤ next_0 ∧ next_0 ≤ 2000) (kz_0_7 : (-128) ≤ kind_0 ∧ kind_0 ≤ 127) (kz_0_8 : 0 ≤ begin_0 ∧ begin_0 ≤ 2000) (kz_0_9 : (-176) ≤ number_0 ∧ number_0 ≤ 1000000) : ((-1) * kind_0 + 0 ≤ (-3)) ∨ (1 * next_0 + ((-1) * begin_0 + (2000 * kind_0 + 0)) ≤ 4008) := by
  subst fe_0_5_1
  subst fe_0_6_1
  subst fe_0_8_1
  subst fe_0_9_1
  have e_hE_0_0_1 := funext hE_0_0_1; subst e_hE_0_0_1
  first | with_reducible assumption | ((try and_intros) <;> first | with_reducible assumption | (clear hE_0_0_1 hK_0_0; omega)) | omega
set_option maxHeartbeats 4000000 in
theorem vc_Re_advance_29_3 (begin_0 : Int) (end_0 : Int) (next_0 : Int) (number_0 : Int) (tape_0 : Int → Int) (tape_1 : Int → Int) (number_1 : Int) (begin_1 : Int) (next_1 : Int) (end_1 : Int) (f21 : 1 * begin_1 + ((-1) * next_1 + 0) ≤ 0) (fe_0_5_1 : end_0 = end_1) (fe_0_6_1 : next_0 = next_1) (fe_0_8_1 : begin_0 = begin_1) (fe_0_9_1 : number_0 = number_1) (hE_0_0_1 : ∀ j : Int, tape_0 j = tape_1 j) (hK_0_0 : ∀ j : Int, 0 ≤ j → j < 2000 → (-128) ≤ tape_0 j ∧ tape_0 j ≤ 127) (kz_0_5 : 0 ≤ end_0 ∧ end_0 ≤ 2000) (kz_0_6 : 0 ≤ next_0 ∧ next_0 ≤ 2000) (kz_0_8 : 0 ≤ begin_0 ∧ begin_0 ≤ 2000) (kz_0_9 : (-176) ≤ number_0 ∧ number_0 ≤ 1000000) : 1 * begin_0 + ((-1) * next_0 + 0) ≤ 0 := by
  subst fe_0_5_1
  subst fe_0_6_1
  subst fe_0_8_1
  subst fe_0_9_1
  have e_hE_0_0_1 := funext hE_0_0_1; subst e_hE_0_0_1
  first | with_reducible assumption | ((try and_intros) <;> first | with_reducible assumption | (clear hE_0_0_1 hK_0_0; omega)) | omega
set_option maxHeartbeats 4000000 in
theorem vc_Re_advance_29_4 (x2 : Int) (x5 : Int) (x6 : Int) (x8 : Int) (x9 : Int) (x10 : Int) (x11 : Int) (x13 : Int) (kind_0 : Int) (begin_0 : Int) (end_0 : Int) (next_0 : Int) (number_0 : Int) (tape_0 : Int → Int) (tape_1 : Int → Int) (number_1 : Int) (begin_1 : Int) (next_1 : Int) (end_1 : Int) (k2 : 0 ≤ x2 ∧ x2 ≤ 2000) (k5 : 9 ≤ x5 ∧ x5 ≤ 1999) (k6 : 10 ≤ x6 ∧ x6 ≤ 2000) (k8 : (-128) ≤ x8 ∧ x8 ≤ 47) (k9 : 0 ≤ x9 ∧ x9 ≤ 0) (k10 : 0 ≤ x10 ∧ x10 ≤ 2000) (k11 : 9 ≤ x11 ∧ x11 ≤ 1999) (k13 : 1 ≤ x13 ∧ x13 ≤ 1) (g0 : x13 = kind_0) (g1 : x10 = begin_0) (g3 : x6 = end_0) (g4 : x5 = next_0) (f14 : x11 = x5 - x10) (f15 : x9 = 0) (f16 : CNBy (x8) (x9)) (h17 : x8 = tape_1 (x5)) (f22 : CXL (end_1) (next_1) (begin_1) (tape_1) (x2)) (fe_0_5_1 : end_0 = end_1) (fe_0_6_1 : next_0 = next_1) (fe_0_8_1 : begin_0 = begin_1) (fe_0_9_1 : number_0 = number_1) (hE_0_0_1 : ∀ j : Int, tape_0 j = tape_1 j) (hK_0_0 : ∀ j : Int, 0 ≤ j → j < 2000 → (-128) ≤ tape_0 j ∧ tape_0 j ≤ 127) (kz_0_5 : 0 ≤ end_0 ∧ end_0 ≤ 2000) (kz_0_6 : 0 ≤ next_0 ∧ next_0 ≤ 2000) (kz_0_7 : (-128) ≤ kind_0 ∧ kind_0 ≤ 127) (kz_0_8 : 0 ≤ begin_0 ∧ begin_0 ≤ 2000) (kz_0_9 : (-176) ≤ number_0 ∧ number_0 ≤ 1000000) : TKC (end_0) (next_0) (kind_0) (begin_0) (number_0) (tape_0) (x2) := by
  subst fe_0_5_1
  subst fe_0_6_1
  subst fe_0_8_1
  subst fe_0_9_1
  have e_hE_0_0_1 := funext hE_0_0_1; subst e_hE_0_0_1
  first | subst g0 | skip
  first | subst g1 | skip
  first | subst g3 | skip
  first | subst g4 | skip
  first
    | exact cxl_e (by assumption) ‹CXL _ _ _ _ _› (fun q => by omega) (by omega)
    | exact cxl_e (by assumption) ‹CXL _ _ _ _ _› (fun q => cnb_f ‹CNBy _ _› (by omega) (by omega)) (by omega)
    | exact cxd_e (by assumption) ‹CXD _ _ _ _ _ _› (fun q => by unfold cIG; omega) (by omega)
    | exact cxs_e (by assumption) (cx_1 (by assumption) ‹CX0 _ _ _ _› (fun q => by omega) (by omega)) (by omega) rfl (by unfold cIL; omega) (by unfold cIG; omega) (by omega) (Or.inl ⟨csg_t ‹CSG _ _› (by omega) (by omega), by omega⟩)
    | exact cxs_e (by assumption) (cx_1 (by assumption) ‹CX0 _ _ _ _› (fun q => by omega) (by omega)) (by omega) rfl (by unfold cIL; omega) (by unfold cIG; omega) (by omega) (Or.inr ⟨csg_f ‹CSG _ _› (by omega) (by omega), by omega⟩)
set_option maxHeartbeats 4000000 in
theorem vc_Re_advance_29_5 (x2 : Int) (begin_0 : Int) (end_0 : Int) (next_0 : Int) (number_0 : Int) (tape_0 : Int → Int) (tape_1 : Int → Int) (number_1 : Int) (begin_1 : Int) (next_1 : Int) (end_1 : Int) (k2 : 0 ≤ x2 ∧ x2 ≤ 2000) (f23 : 1 * x2 + ((-1) * next_1 + 0) ≤ 0) (fe_0_5_1 : end_0 = end_1) (fe_0_6_1 : next_0 = next_1) (fe_0_8_1 : begin_0 = begin_1) (fe_0_9_1 : number_0 = number_1) (hE_0_0_1 : ∀ j : Int, tape_0 j = tape_1 j) (hK_0_0 : ∀ j : Int, 0 ≤ j → j < 2000 → (-128) ≤ tape_0 j ∧ tape_0 j ≤ 127) (kz_0_5 : 0 ≤ end_0 ∧ end_0 ≤ 2000) (kz_0_6 : 0 ≤ next_0 ∧ next_0 ≤ 2000) (kz_0_8 : 0 ≤ begin_0 ∧ begin_0 ≤ 2000) (kz_0_9 : (-176) ≤ number_0 ∧ number_0 ≤ 1000000) : 1 * x2 + ((-1) * next_0 + 0) ≤ 0 := by
  subst fe_0_5_1
  subst fe_0_6_1
  subst fe_0_8_1
  subst fe_0_9_1
  have e_hE_0_0_1 := funext hE_0_0_1; subst e_hE_0_0_1
  first | with_reducible assumption | ((try and_intros) <;> first | with_reducible assumption | (clear hE_0_0_1 hK_0_0; omega)) | omega
def o_Re_advance_29 : or_T := (290, 14, [(0, (2, 0, 0, [8])), (1, (0, -2147483648, 1000000, [])), (2, (0, 0, 2000, [])), (3, (2, 0, 0, [8])), (5, (0, 9, 1999, [])), (6, (0, 10, 2000, [])), (7, (2, 0, 0, [109])), (8, (0, -128, 47, [])), (9, (0, 0, 0, [])), (10, (0, 0, 2000, [])), (11, (0, 9, 1999, [])), (12, (0, 8, 8, [])), (13, (0, 1, 1, []))], [(9, [13, 3], [7]), (9, [10, 3], [8]), (9, [7, 3], [0]), (9, [6, 3], [5]), (9, [5, 3], [6]), (20, [8, 9], [61, 0, 1099]), (20, [3, 1], [30, 0, 1, 1, 9, -1, 0, 0]), (20, [3, 1], [30, 0, -1, 1, 9, 1, 0, 0]), (20, [3, 3], [30, 0, 1, 1, 8, -1, 1, 6]), (20, [3, 2], [60, 3, 1, 1076, 5, 6, 8, 0]), (20, [2, 3], [30, 0, 1, 0, 0, -1, 1, 6]), (24, [0, 3], []), (101, [3, 13], [7]), (7, [11, 12], [4]), (2, [11, 5, 10], []), (8, [9], [0]), (20, [8, 9], [61, 0, 1099]), (10, [8, 7, 5], []), (7, [5, 6], [2]), (20, [3, 1], [30, 0, 1, 1, 9, -1, 0, 0]), (20, [3, 1], [30, 0, -1, 1, 9, 1, 0, 0]), (20, [3, 3], [30, 0, 1, 1, 8, -1, 1, 6]), (20, [3, 2], [60, 3, 1, 1076, 5, 6, 8, 0]), (20, [2, 3], [30, 0, 1, 0, 0, -1, 1, 6])], [], [], [(20, [0, 0, 1], [31, 1, 3, 1, 1, 7, 0, 1, 1, 9, -1, 0, 0]), (20, [0, 0, 1], [31, 1, 3, 1, 1, 7, 0, -1, 1, 9, 1, 0, 0]), (20, [0, 0, 0, 0], [31, 1, -3, -1, 1, 7, 4008, 1, 1, 6, -1, 1, 8, 2000, 1, 7]), (20, [0, 0], [30, 0, 1, 1, 8, -1, 1, 6]), (20, [0, 2], [60, 5, 1, 1072, 5, 6, 7, 8, 9, 0]), (20, [2, 0], [30, 0, 1, 0, 0, -1, 1, 6])], [], [(11, 5, -2000, 0), (11, 6, -4294967296, -1), (5, 6, -4294967296, -1)])
theorem oo_Re_advance_29 {kA : Nat → ClassId} : or_ok PRD kA GG o_Re_advance_29 := by
  refine or_mk fun A ta ws vs hD hth hl => ?_
  intro t0 r0 t1 k1 t2 k2 t3 r3 t5 k5 t6 k6 t7 r7 t8 k8 t9 k9 t10 k10 t11 k11 t12 k12 t13 k13 d0 d1 d2 f0 f1 f2 f3 f4 f5 f6 f7 f8 f9 f10 f11 ta1 w1 le1 s1 f13 f14 f15 f16 f17 f18 f19 f20 f21 f22 f23
  replace f0 := shm_198 f0
  replace f1 := shm_293 f1
  replace f2 := shm_163 f2
  replace f3 := shm_110 f3
  replace f4 := shm_111 f4
  replace f11 := shm_5 f11
  have s1 : (∀ b j, w_el ws b j = w_el w1 b j) ∧ ∀ b j, w_fd ws b j = if b = v_ad (n_v vs 3) ∧ j = 7 then n_v vs 13 else w_fd w1 b j := s1.2
  replace f17 := shm_107 f17
  replace f21 := shm_1531 f21
  replace f22 := shm_1534 f22
  replace f23 := shm_1527 f23
  have q3 : n_v vs 3 = n_v vs 0 := f11.symm
  simp only [q3] at f0 f1 f2 f3 f4
  rw [q3] at s1
  simp only [q3] at f21 f22 f23
  have ar_0_0_1 : w_ar w1 (n_v vs 0) 0 = w_ar ws (n_v vs 0) 0 := by show v_ad (w_fd w1 _ _) = v_ad (w_fd ws _ _); rw [s1.2, if_neg (fun e => absurd e.2 (by decide))]
  have cr_0_0 := fdq_95 hD hth r0
  have ad_7 : v_ad (n_v vs 7) = w_ar ws (n_v vs 0) 0 := congrArg v_ad f2
  have g0 : v_iv (n_v vs 13) = w_fi ws (n_v vs 0) 7 := congrArg v_iv f0
  have g1 : v_iv (n_v vs 10) = w_fi ws (n_v vs 0) 8 := congrArg v_iv f1
  have g3 : v_iv (n_v vs 6) = w_fi ws (n_v vs 0) 5 := congrArg v_iv f3
  have g4 : v_iv (n_v vs 5) = w_fi ws (n_v vs 0) 6 := congrArg v_iv f4
  simp only [ad_7] at f17
  have h17 : v_iv (n_v vs 8) = w_ei w1 (w_ar ws (n_v vs 0) 0) (v_iv (n_v vs 5)) := f17
  simp only [ar_0_0_1] at f22
  have fe_0_5_1 : w_fi ws (n_v vs 0) 5 = w_fi w1 (n_v vs 0) 5 := by show v_iv (w_fd _ _ _) = v_iv (w_fd _ _ _); rw [s1.2, if_neg (fun e => absurd e.2 (by decide))]
  have fe_0_6_1 : w_fi ws (n_v vs 0) 6 = w_fi w1 (n_v vs 0) 6 := by show v_iv (w_fd _ _ _) = v_iv (w_fd _ _ _); rw [s1.2, if_neg (fun e => absurd e.2 (by decide))]
  have fe_0_8_1 : w_fi ws (n_v vs 0) 8 = w_fi w1 (n_v vs 0) 8 := by show v_iv (w_fd _ _ _) = v_iv (w_fd _ _ _); rw [s1.2, if_neg (fun e => absurd e.2 (by decide))]
  have fe_0_9_1 : w_fi ws (n_v vs 0) 9 = w_fi w1 (n_v vs 0) 9 := by show v_iv (w_fd _ _ _) = v_iv (w_fd _ _ _); rw [s1.2, if_neg (fun e => absurd e.2 (by decide))]
  have hE_0_0_1 : ∀ j : Int, w_ei ws (w_ar ws (n_v vs 0) 0) j = w_ei w1 (w_ar ws (n_v vs 0) 0) j := fun j => s1.1 _ _
  have hK_0_0 := elq_33 hD hth cr_0_0
  have kz_0_5 := fdq_207 hD hth r0
  have kz_0_6 := fdq_208 hD hth r0
  have kz_0_7 := fdq_297 hD hth r0
  have kz_0_8 := fdq_99 hD hth r0
  have kz_0_9 := fdq_296 hD hth r0
  have nf0 : fc_1 PRD (20, [0, 0, 1], [31, 1, 3, 1, 1, 7, 0, 1, 1, 9, -1, 0, 0]) ws (vs) := ⟨nf_in hl rfl, sgq_1528 (vc_Re_advance_29_0 (v_iv (n_v vs 1)) (v_iv (n_v vs 13)) (w_fi ws (n_v vs 0) 7) (w_fi ws (n_v vs 0) 8) (w_fi ws (n_v vs 0) 5) (w_fi ws (n_v vs 0) 6) (w_fi ws (n_v vs 0) 9) (w_ei ws (w_ar ws (n_v vs 0) 0)) (w_ei w1 (w_ar ws (n_v vs 0) 0)) (w_fi w1 (n_v vs 0) 9) (w_fi w1 (n_v vs 0) 8) (w_fi w1 (n_v vs 0) 6) (w_fi w1 (n_v vs 0) 5) k1 k13 g0 fe_0_5_1 fe_0_6_1 fe_0_8_1 fe_0_9_1 hE_0_0_1 hK_0_0 kz_0_5 kz_0_6 kz_0_7 kz_0_8 kz_0_9)⟩
  have nf1 : fc_1 PRD (20, [0, 0, 1], [31, 1, 3, 1, 1, 7, 0, -1, 1, 9, 1, 0, 0]) ws (vs) := ⟨nf_in hl rfl, sgq_1529 (vc_Re_advance_29_1 (v_iv (n_v vs 1)) (v_iv (n_v vs 13)) (w_fi ws (n_v vs 0) 7) (w_fi ws (n_v vs 0) 8) (w_fi ws (n_v vs 0) 5) (w_fi ws (n_v vs 0) 6) (w_fi ws (n_v vs 0) 9) (w_ei ws (w_ar ws (n_v vs 0) 0)) (w_ei w1 (w_ar ws (n_v vs 0) 0)) (w_fi w1 (n_v vs 0) 9) (w_fi w1 (n_v vs 0) 8) (w_fi w1 (n_v vs 0) 6) (w_fi w1 (n_v vs 0) 5) k1 k13 g0 fe_0_5_1 fe_0_6_1 fe_0_8_1 fe_0_9_1 hE_0_0_1 hK_0_0 kz_0_5 kz_0_6 kz_0_7 kz_0_8 kz_0_9)⟩
  have nf2 : fc_1 PRD (20, [0, 0, 0, 0], [31, 1, -3, -1, 1, 7, 4008, 1, 1, 6, -1, 1, 8, 2000, 1, 7]) ws (vs) := ⟨nf_in hl rfl, sgq_1530 (vc_Re_advance_29_2 (v_iv (n_v vs 5)) (v_iv (n_v vs 10)) (v_iv (n_v vs 11)) (v_iv (n_v vs 13)) (w_fi ws (n_v vs 0) 7) (w_fi ws (n_v vs 0) 8) (w_fi ws (n_v vs 0) 5) (w_fi ws (n_v vs 0) 6) (w_fi ws (n_v vs 0) 9) (w_ei ws (w_ar ws (n_v vs 0) 0)) (w_ei w1 (w_ar ws (n_v vs 0) 0)) (w_fi w1 (n_v vs 0) 9) (w_fi w1 (n_v vs 0) 8) (w_fi w1 (n_v vs 0) 6) (w_fi w1 (n_v vs 0) 5) k5 k10 k11 k13 g0 g1 g4 (shm_14 f14) fe_0_5_1 fe_0_6_1 fe_0_8_1 fe_0_9_1 hE_0_0_1 hK_0_0 kz_0_5 kz_0_6 kz_0_7 kz_0_8 kz_0_9)⟩
  have nf3 : fc_1 PRD (20, [0, 0], [30, 0, 1, 1, 8, -1, 1, 6]) ws (vs) := ⟨nf_in hl rfl, sgq_1531 (vc_Re_advance_29_3 (w_fi ws (n_v vs 0) 8) (w_fi ws (n_v vs 0) 5) (w_fi ws (n_v vs 0) 6) (w_fi ws (n_v vs 0) 9) (w_ei ws (w_ar ws (n_v vs 0) 0)) (w_ei w1 (w_ar ws (n_v vs 0) 0)) (w_fi w1 (n_v vs 0) 9) (w_fi w1 (n_v vs 0) 8) (w_fi w1 (n_v vs 0) 6) (w_fi w1 (n_v vs 0) 5) f21 fe_0_5_1 fe_0_6_1 fe_0_8_1 fe_0_9_1 hE_0_0_1 hK_0_0 kz_0_5 kz_0_6 kz_0_8 kz_0_9)⟩
  have nf4 : fc_1 PRD (20, [0, 2], [60, 5, 1, 1072, 5, 6, 7, 8, 9, 0]) ws (vs) := ⟨nf_in hl rfl, sgq_1532 (vc_Re_advance_29_4 (v_iv (n_v vs 2)) (v_iv (n_v vs 5)) (v_iv (n_v vs 6)) (v_iv (n_v vs 8)) (v_iv (n_v vs 9)) (v_iv (n_v vs 10)) (v_iv (n_v vs 11)) (v_iv (n_v vs 13)) (w_fi ws (n_v vs 0) 7) (w_fi ws (n_v vs 0) 8) (w_fi ws (n_v vs 0) 5) (w_fi ws (n_v vs 0) 6) (w_fi ws (n_v vs 0) 9) (w_ei ws (w_ar ws (n_v vs 0) 0)) (w_ei w1 (w_ar ws (n_v vs 0) 0)) (w_fi w1 (n_v vs 0) 9) (w_fi w1 (n_v vs 0) 8) (w_fi w1 (n_v vs 0) 6) (w_fi w1 (n_v vs 0) 5) k2 k5 k6 k8 k9 k10 k11 k13 g0 g1 g3 g4 (shm_14 f14) (shm_192 f15) (shm_1116 f16) h17 f22 fe_0_5_1 fe_0_6_1 fe_0_8_1 fe_0_9_1 hE_0_0_1 hK_0_0 kz_0_5 kz_0_6 kz_0_7 kz_0_8 kz_0_9)⟩
  have nf5 : fc_1 PRD (20, [2, 0], [30, 0, 1, 0, 0, -1, 1, 6]) ws (vs) := ⟨nf_in hl rfl, sgq_1527 (vc_Re_advance_29_5 (v_iv (n_v vs 2)) (w_fi ws (n_v vs 0) 8) (w_fi ws (n_v vs 0) 5) (w_fi ws (n_v vs 0) 6) (w_fi ws (n_v vs 0) 9) (w_ei ws (w_ar ws (n_v vs 0) 0)) (w_ei w1 (w_ar ws (n_v vs 0) 0)) (w_fi w1 (n_v vs 0) 9) (w_fi w1 (n_v vs 0) 8) (w_fi w1 (n_v vs 0) 6) (w_fi w1 (n_v vs 0) 5) k2 f23 fe_0_5_1 fe_0_6_1 fe_0_8_1 fe_0_9_1 hE_0_0_1 hK_0_0 kz_0_5 kz_0_6 kz_0_8 kz_0_9)⟩
  refine ⟨(fun _ h => (by cases h)), [], trivial, ?_, (fun _ h => (by cases h))⟩
  rw [List.append_nil]
  exact List.forall_mem_cons.mpr ⟨⟨show (20 : Nat) < 100 from by decide, nf0⟩, List.forall_mem_cons.mpr ⟨⟨show (20 : Nat) < 100 from by decide, nf1⟩, List.forall_mem_cons.mpr ⟨⟨show (20 : Nat) < 100 from by decide, nf2⟩, List.forall_mem_cons.mpr ⟨⟨show (20 : Nat) < 100 from by decide, nf3⟩, List.forall_mem_cons.mpr ⟨⟨show (20 : Nat) < 100 from by decide, nf4⟩, List.forall_mem_cons.mpr ⟨⟨show (20 : Nat) < 100 from by decide, nf5⟩, (fun _ h => (by cases h))⟩⟩⟩⟩⟩⟩
set_option maxHeartbeats 4000000 in
theorem vc_Re_advance_30_0 (x1 : Int) (x13 : Int) (kind_0 : Int) (begin_0 : Int) (end_0 : Int) (next_0 : Int) (number_0 : Int) (tape_0 : Int → Int) (tape_1 : Int → Int) (number_1 : Int) (begin_1 : Int) (next_1 : Int) (end_1 : Int) (k1 : (-2147483648) ≤ x1 ∧ x1 ≤ 1000000) (k13 : 2 ≤ x13 ∧ x13 ≤ 2) (g0 : x13 = kind_0) (fe_0_5_1 : end_0 = end_1) (fe_0_6_1 : next_0 = next_1) (fe_0_8_1 : begin_0 = begin_1) (fe_0_9_1 : number_0 = number_1) (hE_0_0_1 : ∀ j : Int, tape_0 j = tape_1 j) (hK_0_0 : ∀ j : Int, 0 ≤ j → j < 2000 → (-128) ≤ tape_0 j ∧ tape_0 j ≤ 127) (kz_0_5 : 0 ≤ end_0 ∧ end_0 ≤ 2000) (kz_0_6 : 0 ≤ next_0 ∧ next_0 ≤ 2000) (kz_0_7 : (-128) ≤ kind_0 ∧ kind_0 ≤ 127) (kz_0_8 : 0 ≤ begin_0 ∧ begin_0 ≤ 2000) (kz_0_9 : (-176) ≤ number_0 ∧ number_0 ≤ 1000000) : (1 * kind_0 + 0 ≤ 3) ∨ (1 * number_0 + ((-1) * x1 + 0) ≤ 0) := by
  subst fe_0_5_1
  subst fe_0_6_1
  subst fe_0_8_1
  subst fe_0_9_1
  have e_hE_0_0_1 := funext hE_0_0_1; subst e_hE_0_0_1
  first | with_reducible assumption | ((try and_intros) <;> first | with_reducible assumption | (clear hE_0_0_1 hK_0_0; omega)) | omega
set_option maxHeartbeats 4000000 in
theorem vc_Re_advance_30_1 (x1 : Int) (x13 : Int) (kind_0 : Int) (begin_0 : Int) (end_0 : Int) (next_0 : Int) (number_0 : Int) (tape_0 : Int → Int) (tape_1 : Int → Int) (number_1 : Int) (begin_1 : Int) (next_1 : Int) (end_1 : Int) (k1 : (-2147483648) ≤ x1 ∧ x1 ≤ 1000000) (k13 : 2 ≤ x13 ∧ x13 ≤ 2) (g0 : x13 = kind_0) (fe_0_5_1 : end_0 = end_1) (fe_0_6_1 : next_0 = next_1) (fe_0_8_1 : begin_0 = begin_1) (fe_0_9_1 : number_0 = number_1) (hE_0_0_1 : ∀ j : Int, tape_0 j = tape_1 j) (hK_0_0 : ∀ j : Int, 0 ≤ j → j < 2000 → (-128) ≤ tape_0 j ∧ tape_0 j ≤ 127) (kz_0_5 : 0 ≤ end_0 ∧ end_0 ≤ 2000) (kz_0_6 : 0 ≤ next_0 ∧ next_0 ≤ 2000) (kz_0_7 : (-128) ≤ kind_0 ∧ kind_0 ≤ 127) (kz_0_8 : 0 ≤ begin_0 ∧ begin_0 ≤ 2000) (kz_0_9 : (-176) ≤ number_0 ∧ number_0 ≤ 1000000) : (1 * kind_0 + 0 ≤ 3) ∨ ((-1) * number_0 + (1 * x1 + 0) ≤ 0) := by
  subst fe_0_5_1
  subst fe_0_6_1
  subst fe_0_8_1
  subst fe_0_9_1
  have e_hE_0_0_1 := funext hE_0_0_1; subst e_hE_0_0_1
  first | with_reducible assumption | ((try and_intros) <;> first | with_reducible assumption | (clear hE_0_0_1 hK_0_0; omega)) | omega
set_option maxHeartbeats 4000000 in
theorem vc_Re_advance_30_2 (x5 : Int) (x10 : Int) (x11 : Int) (x13 : Int) (kind_0 : Int) (begin_0 : Int) (end_0 : Int) (next_0 : Int) (number_0 : Int) (tape_0 : Int → Int) (tape_1 : Int → Int) (number_1 : Int) (begin_1 : Int) (next_1 : Int) (end_1 : Int) (k5 : 0 ≤ x5 ∧ x5 ≤ 1999) (k10 : 0 ≤ x10 ∧ x10 ≤ 2000) (k11 : (-2000) ≤ x11 ∧ x11 ≤ 8) (k13 : 2 ≤ x13 ∧ x13 ≤ 2) (g0 : x13 = kind_0) (g1 : x10 = begin_0) (g4 : x5 = next_0) (f8 : 1 * begin_0 + ((-1) * next_0 + 0) ≤ 0) (f14 : x11 = x5 - x10) (fe_0_5_1 : end_0 = end_1) (fe_0_6_1 : next_0 = next_1) (fe_0_8_1 : begin_0 = begin_1) (fe_0_9_1 : number_0 = number_1) (hE_0_0_1 : ∀ j : Int, tape_0 j = tape_1 j) (hK_0_0 : ∀ j : Int, 0 ≤ j → j < 2000 → (-128) ≤ tape_0 j ∧ tape_0 j ≤ 127) (kz_0_5 : 0 ≤ end_0 ∧ end_0 ≤ 2000) (kz_0_6 : 0 ≤ next_0 ∧ next_0 ≤ 2000) (kz_0_7 : (-128) ≤ kind_0 ∧ kind_0 ≤ 127) (kz_0_8 : 0 ≤ begin_0 ∧ begin_0 ≤ 2000) (kz_0_9 : (-176) ≤ number_0 ∧ number_0 ≤ 1000000) : ((-1) * kind_0 + 0 ≤ (-3)) ∨ (1 * next_0 + ((-1) * begin_0 + (2000 * kind_0 + 0)) ≤ 4008) := by
  subst fe_0_5_1
  subst fe_0_6_1
  subst fe_0_8_1
  subst fe_0_9_1
  have e_hE_0_0_1 := funext hE_0_0_1; subst e_hE_0_0_1
  first | with_reducible assumption | ((try and_intros) <;> first | with_reducible assumption | (clear hE_0_0_1 hK_0_0; omega)) | omega
set_option maxHeartbeats 4000000 in
theorem vc_Re_advance_30_3 (begin_0 : Int) (end_0 : Int) (next_0 : Int) (number_0 : Int) (tape_0 : Int → Int) (tape_1 : Int → Int) (number_1 : Int) (begin_1 : Int) (next_1 : Int) (end_1 : Int) (f21 : 1 * begin_1 + ((-1) * next_1 + 0) ≤ 0) (fe_0_5_1 : end_0 = end_1) (fe_0_6_1 : next_0 = next_1) (fe_0_8_1 : begin_0 = begin_1) (fe_0_9_1 : number_0 = number_1) (hE_0_0_1 : ∀ j : Int, tape_0 j = tape_1 j) (hK_0_0 : ∀ j : Int, 0 ≤ j → j < 2000 → (-128) ≤ tape_0 j ∧ tape_0 j ≤ 127) (kz_0_5 : 0 ≤ end_0 ∧ end_0 ≤ 2000) (kz_0_6 : 0 ≤ next_0 ∧ next_0 ≤ 2000) (kz_0_8 : 0 ≤ begin_0 ∧ begin_0 ≤ 2000) (kz_0_9 : (-176) ≤ number_0 ∧ number_0 ≤ 1000000) : 1 * begin_0 + ((-1) * next_0 + 0) ≤ 0 := by
  subst fe_0_5_1
  subst fe_0_6_1
  subst fe_0_8_1
  subst fe_0_9_1
  have e_hE_0_0_1 := funext hE_0_0_1; subst e_hE_0_0_1
  first | with_reducible assumption | ((try and_intros) <;> first | with_reducible assumption | (clear hE_0_0_1 hK_0_0; omega)) | omega
set_option maxHeartbeats 4000000 in
theorem vc_Re_advance_30_4 (x2 : Int) (x5 : Int) (x6 : Int) (x8 : Int) (x9 : Int) (x10 : Int) (x11 : Int) (x13 : Int) (kind_0 : Int) (begin_0 : Int) (end_0 : Int) (next_0 : Int) (number_0 : Int) (tape_0 : Int → Int) (tape_1 : Int → Int) (number_1 : Int) (begin_1 : Int) (next_1 : Int) (end_1 : Int) (k2 : 0 ≤ x2 ∧ x2 ≤ 2000) (k5 : 0 ≤ x5 ∧ x5 ≤ 1999) (k6 : 1 ≤ x6 ∧ x6 ≤ 2000) (k8 : (-128) ≤ x8 ∧ x8 ≤ 47) (k9 : 0 ≤ x9 ∧ x9 ≤ 0) (k10 : 0 ≤ x10 ∧ x10 ≤ 2000) (k11 : (-2000) ≤ x11 ∧ x11 ≤ 8) (k13 : 2 ≤ x13 ∧ x13 ≤ 2) (g0 : x13 = kind_0) (g1 : x10 = begin_0) (g3 : x6 = end_0) (g4 : x5 = next_0) (f8 : 1 * begin_0 + ((-1) * next_0 + 0) ≤ 0) (f14 : x11 = x5 - x10) (f15 : x9 = 0) (f16 : CNBy (x8) (x9)) (h17 : x8 = tape_1 (x5)) (f22 : CXL (end_1) (next_1) (begin_1) (tape_1) (x2)) (fe_0_5_1 : end_0 = end_1) (fe_0_6_1 : next_0 = next_1) (fe_0_8_1 : begin_0 = begin_1) (fe_0_9_1 : number_0 = number_1) (hE_0_0_1 : ∀ j : Int, tape_0 j = tape_1 j) (hK_0_0 : ∀ j : Int, 0 ≤ j → j < 2000 → (-128) ≤ tape_0 j ∧ tape_0 j ≤ 127) (kz_0_5 : 0 ≤ end_0 ∧ end_0 ≤ 2000) (kz_0_6 : 0 ≤ next_0 ∧ next_0 ≤ 2000) (kz_0_7 : (-128) ≤ kind_0 ∧ kind_0 ≤ 127) (kz_0_8 : 0 ≤ begin_0 ∧ begin_0 ≤ 2000) (kz_0_9 : (-176) ≤ number_0 ∧ number_0 ≤ 1000000) : TKC (end_0) (next_0) (kind_0) (begin_0) (number_0) (tape_0) (x2) := by
  subst fe_0_5_1
  subst fe_0_6_1
  subst fe_0_8_1
  subst fe_0_9_1
  have e_hE_0_0_1 := funext hE_0_0_1; subst e_hE_0_0_1
  first | subst g0 | skip
  first | subst g1 | skip
  first | subst g3 | skip
  first | subst g4 | skip
  first
    | exact cxl_e (by assumption) ‹CXL _ _ _ _ _› (fun q => by omega) (by omega)
    | exact cxl_e (by assumption) ‹CXL _ _ _ _ _› (fun q => cnb_f ‹CNBy _ _› (by omega) (by omega)) (by omega)
    | exact cxd_e (by assumption) ‹CXD _ _ _ _ _ _› (fun q => by unfold cIG; omega) (by omega)
    | exact cxs_e (by assumption) (cx_1 (by assumption) ‹CX0 _ _ _ _› (fun q => by omega) (by omega)) (by omega) rfl (by unfold cIL; omega) (by unfold cIG; omega) (by omega) (Or.inl ⟨csg_t ‹CSG _ _› (by omega) (by omega), by omega⟩)
    | exact cxs_e (by assumption) (cx_1 (by assumption) ‹CX0 _ _ _ _› (fun q => by omega) (by omega)) (by omega) rfl (by unfold cIL; omega) (by unfold cIG; omega) (by omega) (Or.inr ⟨csg_f ‹CSG _ _› (by omega) (by omega), by omega⟩)
set_option maxHeartbeats 4000000 in
theorem vc_Re_advance_30_5 (x2 : Int) (begin_0 : Int) (end_0 : Int) (next_0 : Int) (number_0 : Int) (tape_0 : Int → Int) (tape_1 : Int → Int) (number_1 : Int) (begin_1 : Int) (next_1 : Int) (end_1 : Int) (k2 : 0 ≤ x2 ∧ x2 ≤ 2000) (f23 : 1 * x2 + ((-1) * next_1 + 0) ≤ 0) (fe_0_5_1 : end_0 = end_1) (fe_0_6_1 : next_0 = next_1) (fe_0_8_1 : begin_0 = begin_1) (fe_0_9_1 : number_0 = number_1) (hE_0_0_1 : ∀ j : Int, tape_0 j = tape_1 j) (hK_0_0 : ∀ j : Int, 0 ≤ j → j < 2000 → (-128) ≤ tape_0 j ∧ tape_0 j ≤ 127) (kz_0_5 : 0 ≤ end_0 ∧ end_0 ≤ 2000) (kz_0_6 : 0 ≤ next_0 ∧ next_0 ≤ 2000) (kz_0_8 : 0 ≤ begin_0 ∧ begin_0 ≤ 2000) (kz_0_9 : (-176) ≤ number_0 ∧ number_0 ≤ 1000000) : 1 * x2 + ((-1) * next_0 + 0) ≤ 0 := by
  subst fe_0_5_1
  subst fe_0_6_1
  subst fe_0_8_1
  subst fe_0_9_1
  have e_hE_0_0_1 := funext hE_0_0_1; subst e_hE_0_0_1
  first | with_reducible assumption | ((try and_intros) <;> first | with_reducible assumption | (clear hE_0_0_1 hK_0_0; omega)) | omega
def o_Re_advance_30 : or_T := (290, 14, [(0, (2, 0, 0, [8])), (1, (0, -2147483648, 1000000, [])), (2, (0, 0, 2000, [])), (3, (2, 0, 0, [8])), (5, (0, 0, 1999, [])), (6, (0, 1, 2000, [])), (7, (2, 0, 0, [109])), (8, (0, -128, 47, [])), (9, (0, 0, 0, [])), (10, (0, 0, 2000, [])), (11, (0, -2000, 8, [])), (12, (0, 8, 8, [])), (13, (0, 2, 2, []))], [(9, [13, 3], [7]), (9, [10, 3], [8]), (9, [7, 3], [0]), (9, [6, 3], [5]), (9, [5, 3], [6]), (20, [8, 9], [61, 0, 1099]), (20, [3, 1], [30, 0, 1, 1, 9, -1, 0, 0]), (20, [3, 1], [30, 0, -1, 1, 9, 1, 0, 0]), (20, [3, 3], [30, 0, 1, 1, 8, -1, 1, 6]), (20, [3, 2], [60, 3, 1, 1076, 5, 6, 8, 0]), (20, [2, 3], [30, 0, 1, 0, 0, -1, 1, 6]), (24, [0, 3], []), (101, [3, 13], [7]), (7, [11, 12], [5]), (2, [11, 5, 10], []), (8, [9], [0]), (20, [8, 9], [61, 0, 1099]), (10, [8, 7, 5], []), (7, [5, 6], [2]), (20, [3, 1], [30, 0, 1, 1, 9, -1, 0, 0]), (20, [3, 1], [30, 0, -1, 1, 9, 1, 0, 0]), (20, [3, 3], [30, 0, 1, 1, 8, -1, 1, 6]), (20, [3, 2], [60, 3, 1, 1076, 5, 6, 8, 0]), (20, [2, 3], [30, 0, 1, 0, 0, -1, 1, 6])], [], [], [(20, [0, 0, 1], [31, 1, 3, 1, 1, 7, 0, 1, 1, 9, -1, 0, 0]), (20, [0, 0, 1], [31, 1, 3, 1, 1, 7, 0, -1, 1, 9, 1, 0, 0]), (20, [0, 0, 0, 0], [31, 1, -3, -1, 1, 7, 4008, 1, 1, 6, -1, 1, 8, 2000, 1, 7]), (20, [0, 0], [30, 0, 1, 1, 8, -1, 1, 6]), (20, [0, 2], [60, 5, 1, 1072, 5, 6, 7, 8, 9, 0]), (20, [2, 0], [30, 0, 1, 0, 0, -1, 1, 6])], [], [(11, 5, -2000, 0), (11, 6, -4294967296, -1), (5, 6, -4294967296, -1)])
theorem oo_Re_advance_30 {kA : Nat → ClassId} : or_ok PRD kA GG o_Re_advance_30 := by
  refine or_mk fun A ta ws vs hD hth hl => ?_
  intro t0 r0 t1 k1 t2 k2 t3 r3 t5 k5 t6 k6 t7 r7 t8 k8 t9 k9 t10 k10 t11 k11 t12 k12 t13 k13 d0 d1 d2 f0 f1 f2 f3 f4 f5 f6 f7 f8 f9 f10 f11 ta1 w1 le1 s1 f13 f14 f15 f16 f17 f18 f19 f20 f21 f22 f23
  replace f0 := shm_198 f0
  replace f1 := shm_293 f1
  replace f2 := shm_163 f2
  replace f3 := shm_110 f3
  replace f4 := shm_111 f4
  replace f8 := shm_1531 f8
  replace f11 := shm_5 f11
  have s1 : (∀ b j, w_el ws b j = w_el w1 b j) ∧ ∀ b j, w_fd ws b j = if b = v_ad (n_v vs 3) ∧ j = 7 then n_v vs 13 else w_fd w1 b j := s1.2
  replace f17 := shm_107 f17
  replace f21 := shm_1531 f21
  replace f22 := shm_1534 f22
  replace f23 := shm_1527 f23
  have q3 : n_v vs 3 = n_v vs 0 := f11.symm
  simp only [q3] at f0 f1 f2 f3 f4 f8
  rw [q3] at s1
  simp only [q3] at f21 f22 f23
  have ar_0_0_1 : w_ar w1 (n_v vs 0) 0 = w_ar ws (n_v vs 0) 0 := by show v_ad (w_fd w1 _ _) = v_ad (w_fd ws _ _); rw [s1.2, if_neg (fun e => absurd e.2 (by decide))]
  have cr_0_0 := fdq_95 hD hth r0
  have ad_7 : v_ad (n_v vs 7) = w_ar ws (n_v vs 0) 0 := congrArg v_ad f2
  have g0 : v_iv (n_v vs 13) = w_fi ws (n_v vs 0) 7 := congrArg v_iv f0
  have g1 : v_iv (n_v vs 10) = w_fi ws (n_v vs 0) 8 := congrArg v_iv f1
  have g3 : v_iv (n_v vs 6) = w_fi ws (n_v vs 0) 5 := congrArg v_iv f3
  have g4 : v_iv (n_v vs 5) = w_fi ws (n_v vs 0) 6 := congrArg v_iv f4
  simp only [ad_7] at f17
  have h17 : v_iv (n_v vs 8) = w_ei w1 (w_ar ws (n_v vs 0) 0) (v_iv (n_v vs 5)) := f17
  simp only [ar_0_0_1] at f22
  have fe_0_5_1 : w_fi ws (n_v vs 0) 5 = w_fi w1 (n_v vs 0) 5 := by show v_iv (w_fd _ _ _) = v_iv (w_fd _ _ _); rw [s1.2, if_neg (fun e => absurd e.2 (by decide))]
  have fe_0_6_1 : w_fi ws (n_v vs 0) 6 = w_fi w1 (n_v vs 0) 6 := by show v_iv (w_fd _ _ _) = v_iv (w_fd _ _ _); rw [s1.2, if_neg (fun e => absurd e.2 (by decide))]
  have fe_0_8_1 : w_fi ws (n_v vs 0) 8 = w_fi w1 (n_v vs 0) 8 := by show v_iv (w_fd _ _ _) = v_iv (w_fd _ _ _); rw [s1.2, if_neg (fun e => absurd e.2 (by decide))]
  have fe_0_9_1 : w_fi ws (n_v vs 0) 9 = w_fi w1 (n_v vs 0) 9 := by show v_iv (w_fd _ _ _) = v_iv (w_fd _ _ _); rw [s1.2, if_neg (fun e => absurd e.2 (by decide))]
  have hE_0_0_1 : ∀ j : Int, w_ei ws (w_ar ws (n_v vs 0) 0) j = w_ei w1 (w_ar ws (n_v vs 0) 0) j := fun j => s1.1 _ _
  have hK_0_0 := elq_33 hD hth cr_0_0
  have kz_0_5 := fdq_207 hD hth r0
  have kz_0_6 := fdq_208 hD hth r0
  have kz_0_7 := fdq_297 hD hth r0
  have kz_0_8 := fdq_99 hD hth r0
  have kz_0_9 := fdq_296 hD hth r0
  have nf0 : fc_1 PRD (20, [0, 0, 1], [31, 1, 3, 1, 1, 7, 0, 1, 1, 9, -1, 0, 0]) ws (vs) := ⟨nf_in hl rfl, sgq_1528 (vc_Re_advance_30_0 (v_iv (n_v vs 1)) (v_iv (n_v vs 13)) (w_fi ws (n_v vs 0) 7) (w_fi ws (n_v vs 0) 8) (w_fi ws (n_v vs 0) 5) (w_fi ws (n_v vs 0) 6) (w_fi ws (n_v vs 0) 9) (w_ei ws (w_ar ws (n_v vs 0) 0)) (w_ei w1 (w_ar ws (n_v vs 0) 0)) (w_fi w1 (n_v vs 0) 9) (w_fi w1 (n_v vs 0) 8) (w_fi w1 (n_v vs 0) 6) (w_fi w1 (n_v vs 0) 5) k1 k13 g0 fe_0_5_1 fe_0_6_1 fe_0_8_1 fe_0_9_1 hE_0_0_1 hK_0_0 kz_0_5 kz_0_6 kz_0_7 kz_0_8 kz_0_9)⟩
  have nf1 : fc_1 PRD (20, [0, 0, 1], [31, 1, 3, 1, 1, 7, 0, -1, 1, 9, 1, 0, 0]) ws (vs) := ⟨nf_in hl rfl, sgq_1529 (vc_Re_advance_30_1 (v_iv (n_v vs 1)) (v_iv (n_v vs 13)) (w_fi ws (n_v vs 0) 7) (w_fi ws (n_v vs 0) 8) (w_fi ws (n_v vs 0) 5) (w_fi ws (n_v vs 0) 6) (w_fi ws (n_v vs 0) 9) (w_ei ws (w_ar ws (n_v vs 0) 0)) (w_ei w1 (w_ar ws (n_v vs 0) 0)) (w_fi w1 (n_v vs 0) 9) (w_fi w1 (n_v vs 0) 8) (w_fi w1 (n_v vs 0) 6) (w_fi w1 (n_v vs 0) 5) k1 k13 g0 fe_0_5_1 fe_0_6_1 fe_0_8_1 fe_0_9_1 hE_0_0_1 hK_0_0 kz_0_5 kz_0_6 kz_0_7 kz_0_8 kz_0_9)⟩
  have nf2 : fc_1 PRD (20, [0, 0, 0, 0], [31, 1, -3, -1, 1, 7, 4008, 1, 1, 6, -1, 1, 8, 2000, 1, 7]) ws (vs) := ⟨nf_in hl rfl, sgq_1530 (vc_Re_advance_30_2 (v_iv (n_v vs 5)) (v_iv (n_v vs 10)) (v_iv (n_v vs 11)) (v_iv (n_v vs 13)) (w_fi ws (n_v vs 0) 7) (w_fi ws (n_v vs 0) 8) (w_fi ws (n_v vs 0) 5) (w_fi ws (n_v vs 0) 6) (w_fi ws (n_v vs 0) 9) (w_ei ws (w_ar ws (n_v vs 0) 0)) (w_ei w1 (w_ar ws (n_v vs 0) 0)) (w_fi w1 (n_v vs 0) 9) (w_fi w1 (n_v vs 0) 8) (w_fi w1 (n_v vs 0) 6) (w_fi w1 (n_v vs 0) 5) k5 k10 k11 k13 g0 g1 g4 f8 (shm_14 f14) fe_0_5_1 fe_0_6_1 fe_0_8_1 fe_0_9_1 hE_0_0_1 hK_0_0 kz_0_5 kz_0_6 kz_0_7 kz_0_8 kz_0_9)⟩
  have nf3 : fc_1 PRD (20, [0, 0], [30, 0, 1, 1, 8, -1, 1, 6]) ws (vs) := ⟨nf_in hl rfl, sgq_1531 (vc_Re_advance_30_3 (w_fi ws (n_v vs 0) 8) (w_fi ws (n_v vs 0) 5) (w_fi ws (n_v vs 0) 6) (w_fi ws (n_v vs 0) 9) (w_ei ws (w_ar ws (n_v vs 0) 0)) (w_ei w1 (w_ar ws (n_v vs 0) 0)) (w_fi w1 (n_v vs 0) 9) (w_fi w1 (n_v vs 0) 8) (w_fi w1 (n_v vs 0) 6) (w_fi w1 (n_v vs 0) 5) f21 fe_0_5_1 fe_0_6_1 fe_0_8_1 fe_0_9_1 hE_0_0_1 hK_0_0 kz_0_5 kz_0_6 kz_0_8 kz_0_9)⟩
  have nf4 : fc_1 PRD (20, [0, 2], [60, 5, 1, 1072, 5, 6, 7, 8, 9, 0]) ws (vs) := ⟨nf_in hl rfl, sgq_1532 (vc_Re_advance_30_4 (v_iv (n_v vs 2)) (v_iv (n_v vs 5)) (v_iv (n_v vs 6)) (v_iv (n_v vs 8)) (v_iv (n_v vs 9)) (v_iv (n_v vs 10)) (v_iv (n_v vs 11)) (v_iv (n_v vs 13)) (w_fi ws (n_v vs 0) 7) (w_fi ws (n_v vs 0) 8) (w_fi ws (n_v vs 0) 5) (w_fi ws (n_v vs 0) 6) (w_fi ws (n_v vs 0) 9) (w_ei ws (w_ar ws (n_v vs 0) 0)) (w_ei w1 (w_ar ws (n_v vs 0) 0)) (w_fi w1 (n_v vs 0) 9) (w_fi w1 (n_v vs 0) 8) (w_fi w1 (n_v vs 0) 6) (w_fi w1 (n_v vs 0) 5) k2 k5 k6 k8 k9 k10 k11 k13 g0 g1 g3 g4 f8 (shm_14 f14) (shm_192 f15) (shm_1116 f16) h17 f22 fe_0_5_1 fe_0_6_1 fe_0_8_1 fe_0_9_1 hE_0_0_1 hK_0_0 kz_0_5 kz_0_6 kz_0_7 kz_0_8 kz_0_9)⟩
  have nf5 : fc_1 PRD (20, [2, 0], [30, 0, 1, 0, 0, -1, 1, 6]) ws (vs) := ⟨nf_in hl rfl, sgq_1527 (vc_Re_advance_30_5 (v_iv (n_v vs 2)) (w_fi ws (n_v vs 0) 8) (w_fi ws (n_v vs 0) 5) (w_fi ws (n_v vs 0) 6) (w_fi ws (n_v vs 0) 9) (w_ei ws (w_ar ws (n_v vs 0) 0)) (w_ei w1 (w_ar ws (n_v vs 0) 0)) (w_fi w1 (n_v vs 0) 9) (w_fi w1 (n_v vs 0) 8) (w_fi w1 (n_v vs 0) 6) (w_fi w1 (n_v vs 0) 5) k2 f23 fe_0_5_1 fe_0_6_1 fe_0_8_1 fe_0_9_1 hE_0_0_1 hK_0_0 kz_0_5 kz_0_6 kz_0_8 kz_0_9)⟩
  refine ⟨(fun _ h => (by cases h)), [], trivial, ?_, (fun _ h => (by cases h))⟩
  rw [List.append_nil]
  exact List.forall_mem_cons.mpr ⟨⟨show (20 : Nat) < 100 from by decide, nf0⟩, List.forall_mem_cons.mpr ⟨⟨show (20 : Nat) < 100 from by decide, nf1⟩, List.forall_mem_cons.mpr ⟨⟨show (20 : Nat) < 100 from by decide, nf2⟩, List.forall_mem_cons.mpr ⟨⟨show (20 : Nat) < 100 from by decide, nf3⟩, List.forall_mem_cons.mpr ⟨⟨show (20 : Nat) < 100 from by decide, nf4⟩, List.forall_mem_cons.mpr ⟨⟨show (20 : Nat) < 100 from by decide, nf5⟩, (fun _ h => (by cases h))⟩⟩⟩⟩⟩⟩
set_option maxHeartbeats 4000000 in
theorem vc_Re_advance_31_0 (x1 : Int) (x13 : Int) (kind_0 : Int) (begin_0 : Int) (end_0 : Int) (next_0 : Int) (number_0 : Int) (tape_0 : Int → Int) (tape_1 : Int → Int) (number_1 : Int) (begin_1 : Int) (next_1 : Int) (end_1 : Int) (k1 : (-2147483648) ≤ x1 ∧ x1 ≤ 1000000) (k13 : 1 ≤ x13 ∧ x13 ≤ 1) (g0 : x13 = kind_0) (fe_0_5_1 : end_0 = end_1) (fe_0_6_1 : next_0 = next_1) (fe_0_8_1 : begin_0 = begin_1) (fe_0_9_1 : number_0 = number_1) (hE_0_0_1 : ∀ j : Int, tape_0 j = tape_1 j) (hK_0_0 : ∀ j : Int, 0 ≤ j → j < 2000 → (-128) ≤ tape_0 j ∧ tape_0 j ≤ 127) (kz_0_5 : 0 ≤ end_0 ∧ end_0 ≤ 2000) (kz_0_6 : 0 ≤ next_0 ∧ next_0 ≤ 2000) (kz_0_7 : (-128) ≤ kind_0 ∧ kind_0 ≤ 127) (kz_0_8 : 0 ≤ begin_0 ∧ begin_0 ≤ 2000) (kz_0_9 : (-176) ≤ number_0 ∧ number_0 ≤ 1000000) : (1 * kind_0 + 0 ≤ 3) ∨ (1 * number_0 + ((-1) * x1 + 0) ≤ 0) := by
  subst fe_0_5_1
  subst fe_0_6_1
  subst fe_0_8_1
  subst fe_0_9_1
  have e_hE_0_0_1 := funext hE_0_0_1; subst e_hE_0_0_1
  first | with_reducible assumption | ((try and_intros) <;> first | with_reducible assumption | (clear hE_0_0_1 hK_0_0; omega)) | omega
set_option maxHeartbeats 4000000 in
theorem vc_Re_advance_31_1 (x1 : Int) (x13 : Int) (kind_0 : Int) (begin_0 : Int) (end_0 : Int) (next_0 : Int) (number_0 : Int) (tape_0 : Int → Int) (tape_1 : Int → Int) (number_1 : Int) (begin_1 : Int) (next_1 : Int) (end_1 : Int) (k1 : (-2147483648) ≤ x1 ∧ x1 ≤ 1000000) (k13 : 1 ≤ x13 ∧ x13 ≤ 1) (g0 : x13 = kind_0) (fe_0_5_1 : end_0 = end_1) (fe_0_6_1 : next_0 = next_1) (fe_0_8_1 : begin_0 = begin_1) (fe_0_9_1 : number_0 = number_1) (hE_0_0_1 : ∀ j : Int, tape_0 j = tape_1 j) (hK_0_0 : ∀ j : Int, 0 ≤ j → j < 2000 → (-128) ≤ tape_0 j ∧ tape_0 j ≤ 127) (kz_0_5 : 0 ≤ end_0 ∧ end_0 ≤ 2000) (kz_0_6 : 0 ≤ next_0 ∧ next_0 ≤ 2000) (kz_0_7 : (-128) ≤ kind_0 ∧ kind_0 ≤ 127) (kz_0_8 : 0 ≤ begin_0 ∧ begin_0 ≤ 2000) (kz_0_9 : (-176) ≤ number_0 ∧ number_0 ≤ 1000000) : (1 * kind_0 + 0 ≤ 3) ∨ ((-1) * number_0 + (1 * x1 + 0) ≤ 0) := by
  subst fe_0_5_1
  subst fe_0_6_1
  subst fe_0_8_1
  subst fe_0_9_1
  have e_hE_0_0_1 := funext hE_0_0_1; subst e_hE_0_0_1
  first | with_reducible assumption | ((try and_intros) <;> first | with_reducible assumption | (clear hE_0_0_1 hK_0_0; omega)) | omega
set_option maxHeartbeats 4000000 in
theorem vc_Re_advance_31_2 (x5 : Int) (x10 : Int) (x11 : Int) (x13 : Int) (kind_0 : Int) (begin_0 : Int) (end_0 : Int) (next_0 : Int) (number_0 : Int) (tape_0 : Int → Int) (tape_1 : Int → Int) (number_1 : Int) (begin_1 : Int) (next_1 : Int) (end_1 : Int) (k5 : 9 ≤ x5 ∧ x5 ≤ 1999) (k10 : 0 ≤ x10 ∧ x10 ≤ 2000) (k11 : 9 ≤ x11 ∧ x11 ≤ 1999) (k13 : 1 ≤ x13 ∧ x13 ≤ 1) (g0 : x13 = kind_0) (g1 : x10 = begin_0) (g4 : x5 = next_0) (f14 : x11 = x5 - x10) (fe_0_5_1 : end_0 = end_1) (fe_0_6_1 : next_0 = next_1) (fe_0_8_1 : begin_0 = begin_1) (fe_0_9_1 : number_0 = number_1) (hE_0_0_1 : ∀ j : Int, tape_0 j = tape_1 j) (hK_0_0 : ∀ j : Int, 0 ≤ j → j < 2000 → (-128) ≤ tape_0 j ∧ tape_0 j ≤ 127) (kz_0_5 : 0 ≤ end_0 ∧ end_0 ≤ 2000) (kz_0_6 : 0 ≤ next_0 ∧ next_0 ≤ 2000) (kz_0_7 : (-128) ≤ kind_0 ∧ kind_0 ≤ 127) (kz_0_8 : 0 ≤ begin_0 ∧ begin_0 ≤ 2000) (kz_0_9 : (-176) ≤ number_0 ∧ number_0 ≤ 1000000) : ((-1) * kind_0 + 0 ≤ (-3)) ∨ (1 * next_0 + ((-1) * begin_0 + (2000 * kind_0 + 0)) ≤ 4008) := by
  subst fe_0_5_1
  subst fe_0_6_1
  subst fe_0_8_1
  subst fe_0_9_1
  have e_hE_0_0_1 := funext hE_0_0_1; subst e_hE_0_0_1
  first | with_reducible assumption | ((try and_intros) <;> first | with_reducible assumption | (clear hE_0_0_1 hK_0_0; omega)) | omega
set_option maxHeartbeats 4000000 in
theorem vc_Re_advance_31_3 (begin_0 : Int) (end_0 : Int) (next_0 : Int) (number_0 : Int) (tape_0 : Int → Int) (tape_1 : Int → Int) (number_1 : Int) (begin_1 : Int) (next_1 : Int) (end_1 : Int) (f21 : 1 * begin_1 + ((-1) * next_1 + 0) ≤ 0) (fe_0_5_1 : end_0 = end_1) (fe_0_6_1 : next_0 = next_1) (fe_0_8_1 : begin_0 = begin_1) (fe_0_9_1 : number_0 = number_1) (hE_0_0_1 : ∀ j : Int, tape_0 j = tape_1 j) (hK_0_0 : ∀ j : Int, 0 ≤ j → j < 2000 → (-128) ≤ tape_0 j ∧ tape_0 j ≤ 127) (kz_0_5 : 0 ≤ end_0 ∧ end_0 ≤ 2000) (kz_0_6 : 0 ≤ next_0 ∧ next_0 ≤ 2000) (kz_0_8 : 0 ≤ begin_0 ∧ begin_0 ≤ 2000) (kz_0_9 : (-176) ≤ number_0 ∧ number_0 ≤ 1000000) : 1 * begin_0 + ((-1) * next_0 + 0) ≤ 0 := by
  subst fe_0_5_1
  subst fe_0_6_1
  subst fe_0_8_1
  subst fe_0_9_1
  have e_hE_0_0_1 := funext hE_0_0_1; subst e_hE_0_0_1
  first | with_reducible assumption | ((try and_intros) <;> first | with_reducible assumption | (clear hE_0_0_1 hK_0_0; omega)) | omega
set_option maxHeartbeats 4000000 in
theorem vc_Re_advance_31_4 (x2 : Int) (x5 : Int) (x6 : Int) (x8 : Int) (x9 : Int) (x10 : Int) (x11 : Int) (x13 : Int) (kind_0 : Int) (begin_0 : Int) (end_0 : Int) (next_0 : Int) (number_0 : Int) (tape_0 : Int → Int) (tape_1 : Int → Int) (number_1 : Int) (begin_1 : Int) (next_1 : Int) (end_1 : Int) (k2 : 0 ≤ x2 ∧ x2 ≤ 2000) (k5 : 9 ≤ x5 ∧ x5 ≤ 1999) (k6 : 10 ≤ x6 ∧ x6 ≤ 2000) (k8 : 58 ≤ x8 ∧ x8 ≤ 64) (k9 : 0 ≤ x9 ∧ x9 ≤ 0) (k10 : 0 ≤ x10 ∧ x10 ≤ 2000) (k11 : 9 ≤ x11 ∧ x11 ≤ 1999) (k13 : 1 ≤ x13 ∧ x13 ≤ 1) (g0 : x13 = kind_0) (g1 : x10 = begin_0) (g3 : x6 = end_0) (g4 : x5 = next_0) (f14 : x11 = x5 - x10) (f15 : x9 = 0) (f16 : CNBy (x8) (x9)) (h17 : x8 = tape_1 (x5)) (f22 : CXL (end_1) (next_1) (begin_1) (tape_1) (x2)) (fe_0_5_1 : end_0 = end_1) (fe_0_6_1 : next_0 = next_1) (fe_0_8_1 : begin_0 = begin_1) (fe_0_9_1 : number_0 = number_1) (hE_0_0_1 : ∀ j : Int, tape_0 j = tape_1 j) (hK_0_0 : ∀ j : Int, 0 ≤ j → j < 2000 → (-128) ≤ tape_0 j ∧ tape_0 j ≤ 127) (kz_0_5 : 0 ≤ end_0 ∧ end_0 ≤ 2000) (kz_0_6 : 0 ≤ next_0 ∧ next_0 ≤ 2000) (kz_0_7 : (-128) ≤ kind_0 ∧ kind_0 ≤ 127) (kz_0_8 : 0 ≤ begin_0 ∧ begin_0 ≤ 2000) (kz_0_9 : (-176) ≤ number_0 ∧ number_0 ≤ 1000000) : TKC (end_0) (next_0) (kind_0) (begin_0) (number_0) (tape_0) (x2) := by
  subst fe_0_5_1
  subst fe_0_6_1
  subst fe_0_8_1
  subst fe_0_9_1
  have e_hE_0_0_1 := funext hE_0_0_1; subst e_hE_0_0_1
  first | subst g0 | skip
  first | subst g1 | skip
  first | subst g3 | skip
  first | subst g4 | skip
  first
    | exact cxl_e (by assumption) ‹CXL _ _ _ _ _› (fun q => by omega) (by omega)
    | exact cxl_e (by assumption) ‹CXL _ _ _ _ _› (fun q => cnb_f ‹CNBy _ _› (by omega) (by omega)) (by omega)
    | exact cxd_e (by assumption) ‹CXD _ _ _ _ _ _› (fun q => by unfold cIG; omega) (by omega)
    | exact cxs_e (by assumption) (cx_1 (by assumption) ‹CX0 _ _ _ _› (fun q => by omega) (by omega)) (by omega) rfl (by unfold cIL; omega) (by unfold cIG; omega) (by omega) (Or.inl ⟨csg_t ‹CSG _ _› (by omega) (by omega), by omega⟩)
    | exact cxs_e (by assumption) (cx_1 (by assumption) ‹CX0 _ _ _ _› (fun q => by omega) (by omega)) (by omega) rfl (by unfold cIL; omega) (by unfold cIG; omega) (by omega) (Or.inr ⟨csg_f ‹CSG _ _› (by omega) (by omega), by omega⟩)
set_option maxHeartbeats 4000000 in
theorem vc_Re_advance_31_5 (x2 : Int) (begin_0 : Int) (end_0 : Int) (next_0 : Int) (number_0 : Int) (tape_0 : Int → Int) (tape_1 : Int → Int) (number_1 : Int) (begin_1 : Int) (next_1 : Int) (end_1 : Int) (k2 : 0 ≤ x2 ∧ x2 ≤ 2000) (f23 : 1 * x2 + ((-1) * next_1 + 0) ≤ 0) (fe_0_5_1 : end_0 = end_1) (fe_0_6_1 : next_0 = next_1) (fe_0_8_1 : begin_0 = begin_1) (fe_0_9_1 : number_0 = number_1) (hE_0_0_1 : ∀ j : Int, tape_0 j = tape_1 j) (hK_0_0 : ∀ j : Int, 0 ≤ j → j < 2000 → (-128) ≤ tape_0 j ∧ tape_0 j ≤ 127) (kz_0_5 : 0 ≤ end_0 ∧ end_0 ≤ 2000) (kz_0_6 : 0 ≤ next_0 ∧ next_0 ≤ 2000) (kz_0_8 : 0 ≤ begin_0 ∧ begin_0 ≤ 2000) (kz_0_9 : (-176) ≤ number_0 ∧ number_0 ≤ 1000000) : 1 * x2 + ((-1) * next_0 + 0) ≤ 0 := by
  subst fe_0_5_1
  subst fe_0_6_1
  subst fe_0_8_1
  subst fe_0_9_1
  have e_hE_0_0_1 := funext hE_0_0_1; subst e_hE_0_0_1
  first | with_reducible assumption | ((try and_intros) <;> first | with_reducible assumption | (clear hE_0_0_1 hK_0_0; omega)) | omega
def o_Re_advance_31 : or_T := (290, 14, [(0, (2, 0, 0, [8])), (1, (0, -2147483648, 1000000, [])), (2, (0, 0, 2000, [])), (3, (2, 0, 0, [8])), (5, (0, 9, 1999, [])), (6, (0, 10, 2000, [])), (7, (2, 0, 0, [109])), (8, (0, 58, 64, [])), (9, (0, 0, 0, [])), (10, (0, 0, 2000, [])), (11, (0, 9, 1999, [])), (12, (0, 8, 8, [])), (13, (0, 1, 1, []))], [(9, [13, 3], [7]), (9, [10, 3], [8]), (9, [7, 3], [0]), (9, [6, 3], [5]), (9, [5, 3], [6]), (20, [8, 9], [61, 0, 1099]), (20, [3, 1], [30, 0, 1, 1, 9, -1, 0, 0]), (20, [3, 1], [30, 0, -1, 1, 9, 1, 0, 0]), (20, [3, 3], [30, 0, 1, 1, 8, -1, 1, 6]), (20, [3, 2], [60, 3, 1, 1076, 5, 6, 8, 0]), (20, [2, 3], [30, 0, 1, 0, 0, -1, 1, 6]), (24, [0, 3], []), (101, [3, 13], [7]), (7, [11, 12], [4]), (2, [11, 5, 10], []), (8, [9], [0]), (20, [8, 9], [61, 0, 1099]), (10, [8, 7, 5], []), (7, [5, 6], [2]), (20, [3, 1], [30, 0, 1, 1, 9, -1, 0, 0]), (20, [3, 1], [30, 0, -1, 1, 9, 1, 0, 0]), (20, [3, 3], [30, 0, 1, 1, 8, -1, 1, 6]), (20, [3, 2], [60, 3, 1, 1076, 5, 6, 8, 0]), (20, [2, 3], [30, 0, 1, 0, 0, -1, 1, 6])], [], [], [(20, [0, 0, 1], [31, 1, 3, 1, 1, 7, 0, 1, 1, 9, -1, 0, 0]), (20, [0, 0, 1], [31, 1, 3, 1, 1, 7, 0, -1, 1, 9, 1, 0, 0]), (20, [0, 0, 0, 0], [31, 1, -3, -1, 1, 7, 4008, 1, 1, 6, -1, 1, 8, 2000, 1, 7]), (20, [0, 0], [30, 0, 1, 1, 8, -1, 1, 6]), (20, [0, 2], [60, 5, 1, 1072, 5, 6, 7, 8, 9, 0]), (20, [2, 0], [30, 0, 1, 0, 0, -1, 1, 6])], [], [(11, 5, -2000, 0), (11, 6, -4294967296, -1), (5, 6, -4294967296, -1)])
theorem oo_Re_advance_31 {kA : Nat → ClassId} : or_ok PRD kA GG o_Re_advance_31 := by
  refine or_mk fun A ta ws vs hD hth hl => ?_
  intro t0 r0 t1 k1 t2 k2 t3 r3 t5 k5 t6 k6 t7 r7 t8 k8 t9 k9 t10 k10 t11 k11 t12 k12 t13 k13 d0 d1 d2 f0 f1 f2 f3 f4 f5 f6 f7 f8 f9 f10 f11 ta1 w1 le1 s1 f13 f14 f15 f16 f17 f18 f19 f20 f21 f22 f23
  replace f0 := shm_198 f0
  replace f1 := shm_293 f1
  replace f2 := shm_163 f2
  replace f3 := shm_110 f3
  replace f4 := shm_111 f4
  replace f11 := shm_5 f11
  have s1 : (∀ b j, w_el ws b j = w_el w1 b j) ∧ ∀ b j, w_fd ws b j = if b = v_ad (n_v vs 3) ∧ j = 7 then n_v vs 13 else w_fd w1 b j := s1.2
  replace f17 := shm_107 f17
  replace f21 := shm_1531 f21
  replace f22 := shm_1534 f22
  replace f23 := shm_1527 f23
  have q3 : n_v vs 3 = n_v vs 0 := f11.symm
  simp only [q3] at f0 f1 f2 f3 f4
  rw [q3] at s1
  simp only [q3] at f21 f22 f23
  have ar_0_0_1 : w_ar w1 (n_v vs 0) 0 = w_ar ws (n_v vs 0) 0 := by show v_ad (w_fd w1 _ _) = v_ad (w_fd ws _ _); rw [s1.2, if_neg (fun e => absurd e.2 (by decide))]
  have cr_0_0 := fdq_95 hD hth r0
  have ad_7 : v_ad (n_v vs 7) = w_ar ws (n_v vs 0) 0 := congrArg v_ad f2
  have g0 : v_iv (n_v vs 13) = w_fi ws (n_v vs 0) 7 := congrArg v_iv f0
  have g1 : v_iv (n_v vs 10) = w_fi ws (n_v vs 0) 8 := congrArg v_iv f1
  have g3 : v_iv (n_v vs 6) = w_fi ws (n_v vs 0) 5 := congrArg v_iv f3
  have g4 : v_iv (n_v vs 5) = w_fi ws (n_v vs 0) 6 := congrArg v_iv f4
  simp only [ad_7] at f17
  have h17 : v_iv (n_v vs 8) = w_ei w1 (w_ar ws (n_v vs 0) 0) (v_iv (n_v vs 5)) := f17
  simp only [ar_0_0_1] at f22
  have fe_0_5_1 : w_fi ws (n_v vs 0) 5 = w_fi w1 (n_v vs 0) 5 := by show v_iv (w_fd _ _ _) = v_iv (w_fd _ _ _); rw [s1.2, if_neg (fun e => absurd e.2 (by decide))]
  have fe_0_6_1 : w_fi ws (n_v vs 0) 6 = w_fi w1 (n_v vs 0) 6 := by show v_iv (w_fd _ _ _) = v_iv (w_fd _ _ _); rw [s1.2, if_neg (fun e => absurd e.2 (by decide))]
  have fe_0_8_1 : w_fi ws (n_v vs 0) 8 = w_fi w1 (n_v vs 0) 8 := by show v_iv (w_fd _ _ _) = v_iv (w_fd _ _ _); rw [s1.2, if_neg (fun e => absurd e.2 (by decide))]
  have fe_0_9_1 : w_fi ws (n_v vs 0) 9 = w_fi w1 (n_v vs 0) 9 := by show v_iv (w_fd _ _ _) = v_iv (w_fd _ _ _); rw [s1.2, if_neg (fun e => absurd e.2 (by decide))]
  have hE_0_0_1 : ∀ j : Int, w_ei ws (w_ar ws (n_v vs 0) 0) j = w_ei w1 (w_ar ws (n_v vs 0) 0) j := fun j => s1.1 _ _
  have hK_0_0 := elq_33 hD hth cr_0_0
  have kz_0_5 := fdq_207 hD hth r0
  have kz_0_6 := fdq_208 hD hth r0
  have kz_0_7 := fdq_297 hD hth r0
  have kz_0_8 := fdq_99 hD hth r0
  have kz_0_9 := fdq_296 hD hth r0
  have nf0 : fc_1 PRD (20, [0, 0, 1], [31, 1, 3, 1, 1, 7, 0, 1, 1, 9, -1, 0, 0]) ws (vs) := ⟨nf_in hl rfl, sgq_1528 (vc_Re_advance_31_0 (v_iv (n_v vs 1)) (v_iv (n_v vs 13)) (w_fi ws (n_v vs 0) 7) (w_fi ws (n_v vs 0) 8) (w_fi ws (n_v vs 0) 5) (w_fi ws (n_v vs 0) 6) (w_fi ws (n_v vs 0) 9) (w_ei ws (w_ar ws (n_v vs 0) 0)) (w_ei w1 (w_ar ws (n_v vs 0) 0)) (w_fi w1 (n_v vs 0) 9) (w_fi w1 (n_v vs 0) 8) (w_fi w1 (n_v vs 0) 6) (w_fi w1 (n_v vs 0) 5) k1 k13 g0 fe_0_5_1 fe_0_6_1 fe_0_8_1 fe_0_9_1 hE_0_0_1 hK_0_0 kz_0_5 kz_0_6 kz_0_7 kz_0_8 kz_0_9)⟩
  have nf1 : fc_1 PRD (20, [0, 0, 1], [31, 1, 3, 1, 1, 7, 0, -1, 1, 9, 1, 0, 0]) ws (vs) := ⟨nf_in hl rfl, sgq_1529 (vc_Re_advance_31_1 (v_iv (n_v vs 1)) (v_iv (n_v vs 13)) (w_fi ws (n_v vs 0) 7) (w_fi ws (n_v vs 0) 8) (w_fi ws (n_v vs 0) 5) (w_fi ws (n_v vs 0) 6) (w_fi ws (n_v vs 0) 9) (w_ei ws (w_ar ws (n_v vs 0) 0)) (w_ei w1 (w_ar ws (n_v vs 0) 0)) (w_fi w1 (n_v vs 0) 9) (w_fi w1 (n_v vs 0) 8) (w_fi w1 (n_v vs 0) 6) (w_fi w1 (n_v vs 0) 5) k1 k13 g0 fe_0_5_1 fe_0_6_1 fe_0_8_1 fe_0_9_1 hE_0_0_1 hK_0_0 kz_0_5 kz_0_6 kz_0_7 kz_0_8 kz_0_9)⟩
  have nf2 : fc_1 PRD (20, [0, 0, 0, 0], [31, 1, -3, -1, 1, 7, 4008, 1, 1, 6, -1, 1, 8, 2000, 1, 7]) ws (vs) := ⟨nf_in hl rfl, sgq_1530 (vc_Re_advance_31_2 (v_iv (n_v vs 5)) (v_iv (n_v vs 10)) (v_iv (n_v vs 11)) (v_iv (n_v vs 13)) (w_fi ws (n_v vs 0) 7) (w_fi ws (n_v vs 0) 8) (w_fi ws (n_v vs 0) 5) (w_fi ws (n_v vs 0) 6) (w_fi ws (n_v vs 0) 9) (w_ei ws (w_ar ws (n_v vs 0) 0)) (w_ei w1 (w_ar ws (n_v vs 0) 0)) (w_fi w1 (n_v vs 0) 9) (w_fi w1 (n_v vs 0) 8) (w_fi w1 (n_v vs 0) 6) (w_fi w1 (n_v vs 0) 5) k5 k10 k11 k13 g0 g1 g4 (shm_14 f14) fe_0_5_1 fe_0_6_1 fe_0_8_1 fe_0_9_1 hE_0_0_1 hK_0_0 kz_0_5 kz_0_6 kz_0_7 kz_0_8 kz_0_9)⟩
  have nf3 : fc_1 PRD (20, [0, 0], [30, 0, 1, 1, 8, -1, 1, 6]) ws (vs) := ⟨nf_in hl rfl, sgq_1531 (vc_Re_advance_31_3 (w_fi ws (n_v vs 0) 8) (w_fi ws (n_v vs 0) 5) (w_fi ws (n_v vs 0) 6) (w_fi ws (n_v vs 0) 9) (w_ei ws (w_ar ws (n_v vs 0) 0)) (w_ei w1 (w_ar ws (n_v vs 0) 0)) (w_fi w1 (n_v vs 0) 9) (w_fi w1 (n_v vs 0) 8) (w_fi w1 (n_v vs 0) 6) (w_fi w1 (n_v vs 0) 5) f21 fe_0_5_1 fe_0_6_1 fe_0_8_1 fe_0_9_1 hE_0_0_1 hK_0_0 kz_0_5 kz_0_6 kz_0_8 kz_0_9)⟩
  have nf4 : fc_1 PRD (20, [0, 2], [60, 5, 1, 1072, 5, 6, 7, 8, 9, 0]) ws (vs) := ⟨nf_in hl rfl, sgq_1532 (vc_Re_advance_31_4 (v_iv (n_v vs 2)) (v_iv (n_v vs 5)) (v_iv (n_v vs 6)) (v_iv (n_v vs 8)) (v_iv (n_v vs 9)) (v_iv (n_v vs 10)) (v_iv (n_v vs 11)) (v_iv (n_v vs 13)) (w_fi ws (n_v vs 0) 7) (w_fi ws (n_v vs 0) 8) (w_fi ws (n_v vs 0) 5) (w_fi ws (n_v vs 0) 6) (w_fi ws (n_v vs 0) 9) (w_ei ws (w_ar ws (n_v vs 0) 0)) (w_ei w1 (w_ar ws (n_v vs 0) 0)) (w_fi w1 (n_v vs 0) 9) (w_fi w1 (n_v vs 0) 8) (w_fi w1 (n_v vs 0) 6) (w_fi w1 (n_v vs 0) 5) k2 k5 k6 k8 k9 k10 k11 k13 g0 g1 g3 g4 (shm_14 f14) (shm_192 f15) (shm_1116 f16) h17 f22 fe_0_5_1 fe_0_6_1 fe_0_8_1 fe_0_9_1 hE_0_0_1 hK_0_0 kz_0_5 kz_0_6 kz_0_7 kz_0_8 kz_0_9)⟩
  have nf5 : fc_1 PRD (20, [2, 0], [30, 0, 1, 0, 0, -1, 1, 6]) ws (vs) := ⟨nf_in hl rfl, sgq_1527 (vc_Re_advance_31_5 (v_iv (n_v vs 2)) (w_fi ws (n_v vs 0) 8) (w_fi ws (n_v vs 0) 5) (w_fi ws (n_v vs 0) 6) (w_fi ws (n_v vs 0) 9) (w_ei ws (w_ar ws (n_v vs 0) 0)) (w_ei w1 (w_ar ws (n_v vs 0) 0)) (w_fi w1 (n_v vs 0) 9) (w_fi w1 (n_v vs 0) 8) (w_fi w1 (n_v vs 0) 6) (w_fi w1 (n_v vs 0) 5) k2 f23 fe_0_5_1 fe_0_6_1 fe_0_8_1 fe_0_9_1 hE_0_0_1 hK_0_0 kz_0_5 kz_0_6 kz_0_8 kz_0_9)⟩
  refine ⟨(fun _ h => (by cases h)), [], trivial, ?_, (fun _ h => (by cases h))⟩
  rw [List.append_nil]
  exact List.forall_mem_cons.mpr ⟨⟨show (20 : Nat) < 100 from by decide, nf0⟩, List.forall_mem_cons.mpr ⟨⟨show (20 : Nat) < 100 from by decide, nf1⟩, List.forall_mem_cons.mpr ⟨⟨show (20 : Nat) < 100 from by decide, nf2⟩, List.forall_mem_cons.mpr ⟨⟨show (20 : Nat) < 100 from by decide, nf3⟩, List.forall_mem_cons.mpr ⟨⟨show (20 : Nat) < 100 from by decide, nf4⟩, List.forall_mem_cons.mpr ⟨⟨show (20 : Nat) < 100 from by decide, nf5⟩, (fun _ h => (by cases h))⟩⟩⟩⟩⟩⟩
set_option maxHeartbeats 4000000 in
theorem vc_Re_advance_32_0 (x1 : Int) (x13 : Int) (kind_0 : Int) (begin_0 : Int) (end_0 : Int) (next_0 : Int) (number_0 : Int) (tape_0 : Int → Int) (tape_1 : Int → Int) (number_1 : Int) (begin_1 : Int) (next_1 : Int) (end_1 : Int) (k1 : (-2147483648) ≤ x1 ∧ x1 ≤ 1000000) (k13 : 2 ≤ x13 ∧ x13 ≤ 2) (g0 : x13 = kind_0) (fe_0_5_1 : end_0 = end_1) (fe_0_6_1 : next_0 = next_1) (fe_0_8_1 : begin_0 = begin_1) (fe_0_9_1 : number_0 = number_1) (hE_0_0_1 : ∀ j : Int, tape_0 j = tape_1 j) (hK_0_0 : ∀ j : Int, 0 ≤ j → j < 2000 → (-128) ≤ tape_0 j ∧ tape_0 j ≤ 127) (kz_0_5 : 0 ≤ end_0 ∧ end_0 ≤ 2000) (kz_0_6 : 0 ≤ next_0 ∧ next_0 ≤ 2000) (kz_0_7 : (-128) ≤ kind_0 ∧ kind_0 ≤ 127) (kz_0_8 : 0 ≤ begin_0 ∧ begin_0 ≤ 2000) (kz_0_9 : (-176) ≤ number_0 ∧ number_0 ≤ 1000000) : (1 * kind_0 + 0 ≤ 3) ∨ (1 * number_0 + ((-1) * x1 + 0) ≤ 0) := by
  subst fe_0_5_1
  subst fe_0_6_1
  subst fe_0_8_1
  subst fe_0_9_1
  have e_hE_0_0_1 := funext hE_0_0_1; subst e_hE_0_0_1
  first | with_reducible assumption | ((try and_intros) <;> first | with_reducible assumption | (clear hE_0_0_1 hK_0_0; omega)) | omega
set_option maxHeartbeats 4000000 in
theorem vc_Re_advance_32_1 (x1 : Int) (x13 : Int) (kind_0 : Int) (begin_0 : Int) (end_0 : Int) (next_0 : Int) (number_0 : Int) (tape_0 : Int → Int) (tape_1 : Int → Int) (number_1 : Int) (begin_1 : Int) (next_1 : Int) (end_1 : Int) (k1 : (-2147483648) ≤ x1 ∧ x1 ≤ 1000000) (k13 : 2 ≤ x13 ∧ x13 ≤ 2) (g0 : x13 = kind_0) (fe_0_5_1 : end_0 = end_1) (fe_0_6_1 : next_0 = next_1) (fe_0_8_1 : begin_0 = begin_1) (fe_0_9_1 : number_0 = number_1) (hE_0_0_1 : ∀ j : Int, tape_0 j = tape_1 j) (hK_0_0 : ∀ j : Int, 0 ≤ j → j < 2000 → (-128) ≤ tape_0 j ∧ tape_0 j ≤ 127) (kz_0_5 : 0 ≤ end_0 ∧ end_0 ≤ 2000) (kz_0_6 : 0 ≤ next_0 ∧ next_0 ≤ 2000) (kz_0_7 : (-128) ≤ kind_0 ∧ kind_0 ≤ 127) (kz_0_8 : 0 ≤ begin_0 ∧ begin_0 ≤ 2000) (kz_0_9 : (-176) ≤ number_0 ∧ number_0 ≤ 1000000) : (1 * kind_0 + 0 ≤ 3) ∨ ((-1) * number_0 + (1 * x1 + 0) ≤ 0) := by
  subst fe_0_5_1
  subst fe_0_6_1
  subst fe_0_8_1
  subst fe_0_9_1
  have e_hE_0_0_1 := funext hE_0_0_1; subst e_hE_0_0_1
  first | with_reducible assumption | ((try and_intros) <;> first | with_reducible assumption | (clear hE_0_0_1 hK_0_0; omega)) | omega
set_option maxHeartbeats 4000000 in
theorem vc_Re_advance_32_2 (x5 : Int) (x10 : Int) (x11 : Int) (x13 : Int) (kind_0 : Int) (begin_0 : Int) (end_0 : Int) (next_0 : Int) (number_0 : Int) (tape_0 : Int → Int) (tape_1 : Int → Int) (number_1 : Int) (begin_1 : Int) (next_1 : Int) (end_1 : Int) (k5 : 0 ≤ x5 ∧ x5 ≤ 1999) (k10 : 0 ≤ x10 ∧ x10 ≤ 2000) (k11 : (-2000) ≤ x11 ∧ x11 ≤ 8) (k13 : 2 ≤ x13 ∧ x13 ≤ 2) (g0 : x13 = kind_0) (g1 : x10 = begin_0) (g4 : x5 = next_0) (f8 : 1 * begin_0 + ((-1) * next_0 + 0) ≤ 0) (f14 : x11 = x5 - x10) (fe_0_5_1 : end_0 = end_1) (fe_0_6_1 : next_0 = next_1) (fe_0_8_1 : begin_0 = begin_1) (fe_0_9_1 : number_0 = number_1) (hE_0_0_1 : ∀ j : Int, tape_0 j = tape_1 j) (hK_0_0 : ∀ j : Int, 0 ≤ j → j < 2000 → (-128) ≤ tape_0 j ∧ tape_0 j ≤ 127) (kz_0_5 : 0 ≤ end_0 ∧ end_0 ≤ 2000) (kz_0_6 : 0 ≤ next_0 ∧ next_0 ≤ 2000) (kz_0_7 : (-128) ≤ kind_0 ∧ kind_0 ≤ 127) (kz_0_8 : 0 ≤ begin_0 ∧ begin_0 ≤ 2000) (kz_0_9 : (-176) ≤ number_0 ∧ number_0 ≤ 1000000) : ((-1) * kind_0 + 0 ≤ (-3)) ∨ (1 * next_0 + ((-1) * begin_0 + (2000 * kind_0 + 0)) ≤ 4008) := by
  subst fe_0_5_1
  subst fe_0_6_1
  subst fe_0_8_1
  subst fe_0_9_1
  have e_hE_0_0_1 := funext hE_0_0_1; subst e_hE_0_0_1
  first | with_reducible assumption | ((try and_intros) <;> first | with_reducible assumption | (clear hE_0_0_1 hK_0_0; omega)) | omega
set_option maxHeartbeats 4000000 in
theorem vc_Re_advance_32_3 (begin_0 : Int) (end_0 : Int) (next_0 : Int) (number_0 : Int) (tape_0 : Int → Int) (tape_1 : Int → Int) (number_1 : Int) (begin_1 : Int) (next_1 : Int) (end_1 : Int) (f21 : 1 * begin_1 + ((-1) * next_1 + 0) ≤ 0) (fe_0_5_1 : end_0 = end_1) (fe_0_6_1 : next_0 = next_1) (fe_0_8_1 : begin_0 = begin_1) (fe_0_9_1 : number_0 = number_1) (hE_0_0_1 : ∀ j : Int, tape_0 j = tape_1 j) (hK_0_0 : ∀ j : Int, 0 ≤ j → j < 2000 → (-128) ≤ tape_0 j ∧ tape_0 j ≤ 127) (kz_0_5 : 0 ≤ end_0 ∧ end_0 ≤ 2000) (kz_0_6 : 0 ≤ next_0 ∧ next_0 ≤ 2000) (kz_0_8 : 0 ≤ begin_0 ∧ begin_0 ≤ 2000) (kz_0_9 : (-176) ≤ number_0 ∧ number_0 ≤ 1000000) : 1 * begin_0 + ((-1) * next_0 + 0) ≤ 0 := by
  subst fe_0_5_1
  subst fe_0_6_1
  subst fe_0_8_1
  subst fe_0_9_1
  have e_hE_0_0_1 := funext hE_0_0_1; subst e_hE_0_0_1
  first | with_reducible assumption | ((try and_intros) <;> first | with_reducible assumption | (clear hE_0_0_1 hK_0_0; omega)) | omega
set_option maxHeartbeats 4000000 in
theorem vc_Re_advance_32_4 (x2 : Int) (x5 : Int) (x6 : Int) (x8 : Int) (x9 : Int) (x10 : Int) (x11 : Int) (x13 : Int) (kind_0 : Int) (begin_0 : Int) (end_0 : Int) (next_0 : Int) (number_0 : Int) (tape_0 : Int → Int) (tape_1 : Int → Int) (number_1 : Int) (begin_1 : Int) (next_1 : Int) (end_1 : Int) (k2 : 0 ≤ x2 ∧ x2 ≤ 2000) (k5 : 0 ≤ x5 ∧ x5 ≤ 1999) (k6 : 1 ≤ x6 ∧ x6 ≤ 2000) (k8 : 58 ≤ x8 ∧ x8 ≤ 64) (k9 : 0 ≤ x9 ∧ x9 ≤ 0) (k10 : 0 ≤ x10 ∧ x10 ≤ 2000) (k11 : (-2000) ≤ x11 ∧ x11 ≤ 8) (k13 : 2 ≤ x13 ∧ x13 ≤ 2) (g0 : x13 = kind_0) (g1 : x10 = begin_0) (g3 : x6 = end_0) (g4 : x5 = next_0) (f8 : 1 * begin_0 + ((-1) * next_0 + 0) ≤ 0) (f14 : x11 = x5 - x10) (f15 : x9 = 0) (f16 : CNBy (x8) (x9)) (h17 : x8 = tape_1 (x5)) (f22 : CXL (end_1) (next_1) (begin_1) (tape_1) (x2)) (fe_0_5_1 : end_0 = end_1) (fe_0_6_1 : next_0 = next_1) (fe_0_8_1 : begin_0 = begin_1) (fe_0_9_1 : number_0 = number_1) (hE_0_0_1 : ∀ j : Int, tape_0 j = tape_1 j) (hK_0_0 : ∀ j : Int, 0 ≤ j → j < 2000 → (-128) ≤ tape_0 j ∧ tape_0 j ≤ 127) (kz_0_5 : 0 ≤ end_0 ∧ end_0 ≤ 2000) (kz_0_6 : 0 ≤ next_0 ∧ next_0 ≤ 2000) (kz_0_7 : (-128) ≤ kind_0 ∧ kind_0 ≤ 127) (kz_0_8 : 0 ≤ begin_0 ∧ begin_0 ≤ 2000) (kz_0_9 : (-176) ≤ number_0 ∧ number_0 ≤ 1000000) : TKC (end_0) (next_0) (kind_0) (begin_0) (number_0) (tape_0) (x2) := by
  subst fe_0_5_1
  subst fe_0_6_1
  subst fe_0_8_1
  subst fe_0_9_1
  have e_hE_0_0_1 := funext hE_0_0_1; subst e_hE_0_0_1
  first | subst g0 | skip
  first | subst g1 | skip
  first | subst g3 | skip
  first | subst g4 | skip
  first
    | exact cxl_e (by assumption) ‹CXL _ _ _ _ _› (fun q => by omega) (by omega)
    | exact cxl_e (by assumption) ‹CXL _ _ _ _ _› (fun q => cnb_f ‹CNBy _ _› (by omega) (by omega)) (by omega)
    | exact cxd_e (by assumption) ‹CXD _ _ _ _ _ _› (fun q => by unfold cIG; omega) (by omega)
    | exact cxs_e (by assumption) (cx_1 (by assumption) ‹CX0 _ _ _ _› (fun q => by omega) (by omega)) (by omega) rfl (by unfold cIL; omega) (by unfold cIG; omega) (by omega) (Or.inl ⟨csg_t ‹CSG _ _› (by omega) (by omega), by omega⟩)
    | exact cxs_e (by assumption) (cx_1 (by assumption) ‹CX0 _ _ _ _› (fun q => by omega) (by omega)) (by omega) rfl (by unfold cIL; omega) (by unfold cIG; omega) (by omega) (Or.inr ⟨csg_f ‹CSG _ _› (by omega) (by omega), by omega⟩)
set_option maxHeartbeats 4000000 in
theorem vc_Re_advance_32_5 (x2 : Int) (begin_0 : Int) (end_0 : Int) (next_0 : Int) (number_0 : Int) (tape_0 : Int → Int) (tape_1 : Int → Int) (number_1 : Int) (begin_1 : Int) (next_1 : Int) (end_1 : Int) (k2 : 0 ≤ x2 ∧ x2 ≤ 2000) (f23 : 1 * x2 + ((-1) * next_1 + 0) ≤ 0) (fe_0_5_1 : end_0 = end_1) (fe_0_6_1 : next_0 = next_1) (fe_0_8_1 : begin_0 = begin_1) (fe_0_9_1 : number_0 = number_1) (hE_0_0_1 : ∀ j : Int, tape_0 j = tape_1 j) (hK_0_0 : ∀ j : Int, 0 ≤ j → j < 2000 → (-128) ≤ tape_0 j ∧ tape_0 j ≤ 127) (kz_0_5 : 0 ≤ end_0 ∧ end_0 ≤ 2000) (kz_0_6 : 0 ≤ next_0 ∧ next_0 ≤ 2000) (kz_0_8 : 0 ≤ begin_0 ∧ begin_0 ≤ 2000) (kz_0_9 : (-176) ≤ number_0 ∧ number_0 ≤ 1000000) : 1 * x2 + ((-1) * next_0 + 0) ≤ 0 := by
  subst fe_0_5_1
  subst fe_0_6_1
  subst fe_0_8_1
  subst fe_0_9_1
  have e_hE_0_0_1 := funext hE_0_0_1; subst e_hE_0_0_1
  first | with_reducible assumption | ((try and_intros) <;> first | with_reducible assumption | (clear hE_0_0_1 hK_0_0; omega)) | omega
def o_Re_advance_32 : or_T := (290, 14, [(0, (2, 0, 0, [8])), (1, (0, -2147483648, 1000000, [])), (2, (0, 0, 2000, [])), (3, (2, 0, 0, [8])), (5, (0, 0, 1999, [])), (6, (0, 1, 2000, [])), (7, (2, 0, 0, [109])), (8, (0, 58, 64, [])), (9, (0, 0, 0, [])), (10, (0, 0, 2000, [])), (11, (0, -2000, 8, [])), (12, (0, 8, 8, [])), (13, (0, 2, 2, []))], [(9, [13, 3], [7]), (9, [10, 3], [8]), (9, [7, 3], [0]), (9, [6, 3], [5]), (9, [5, 3], [6]), (20, [8, 9], [61, 0, 1099]), (20, [3, 1], [30, 0, 1, 1, 9, -1, 0, 0]), (20, [3, 1], [30, 0, -1, 1, 9, 1, 0, 0]), (20, [3, 3], [30, 0, 1, 1, 8, -1, 1, 6]), (20, [3, 2], [60, 3, 1, 1076, 5, 6, 8, 0]), (20, [2, 3], [30, 0, 1, 0, 0, -1, 1, 6]), (24, [0, 3], []), (101, [3, 13], [7]), (7, [11, 12], [5]), (2, [11, 5, 10], []), (8, [9], [0]), (20, [8, 9], [61, 0, 1099]), (10, [8, 7, 5], []), (7, [5, 6], [2]), (20, [3, 1], [30, 0, 1, 1, 9, -1, 0, 0]), (20, [3, 1], [30, 0, -1, 1, 9, 1, 0, 0]), (20, [3, 3], [30, 0, 1, 1, 8, -1, 1, 6]), (20, [3, 2], [60, 3, 1, 1076, 5, 6, 8, 0]), (20, [2, 3], [30, 0, 1, 0, 0, -1, 1, 6])], [], [], [(20, [0, 0, 1], [31, 1, 3, 1, 1, 7, 0, 1, 1, 9, -1, 0, 0]), (20, [0, 0, 1], [31, 1, 3, 1, 1, 7, 0, -1, 1, 9, 1, 0, 0]), (20, [0, 0, 0, 0], [31, 1, -3, -1, 1, 7, 4008, 1, 1, 6, -1, 1, 8, 2000, 1, 7]), (20, [0, 0], [30, 0, 1, 1, 8, -1, 1, 6]), (20, [0, 2], [60, 5, 1, 1072, 5, 6, 7, 8, 9, 0]), (20, [2, 0], [30, 0, 1, 0, 0, -1, 1, 6])], [], [(11, 5, -2000, 0), (11, 6, -4294967296, -1), (5, 6, -4294967296, -1)])
theorem oo_Re_advance_32 {kA : Nat → ClassId} : or_ok PRD kA GG o_Re_advance_32 := by
  refine or_mk fun A ta ws vs hD hth hl => ?_
  intro t0 r0 t1 k1 t2 k2 t3 r3 t5 k5 t6 k6 t7 r7 t8 k8 t9 k9 t10 k10 t11 k11 t12 k12 t13 k13 d0 d1 d2 f0 f1 f2 f3 f4 f5 f6 f7 f8 f9 f10 f11 ta1 w1 le1 s1 f13 f14 f15 f16 f17 f18 f19 f20 f21 f22 f23
  replace f0 := shm_198 f0
  replace f1 := shm_293 f1
  replace f2 := shm_163 f2
  replace f3 := shm_110 f3
  replace f4 := shm_111 f4
  replace f8 := shm_1531 f8
  replace f11 := shm_5 f11
  have s1 : (∀ b j, w_el ws b j = w_el w1 b j) ∧ ∀ b j, w_fd ws b j = if b = v_ad (n_v vs 3) ∧ j = 7 then n_v vs 13 else w_fd w1 b j := s1.2
  replace f17 := shm_107 f17
  replace f21 := shm_1531 f21
  replace f22 := shm_1534 f22
  replace f23 := shm_1527 f23
  have q3 : n_v vs 3 = n_v vs 0 := f11.symm
  simp only [q3] at f0 f1 f2 f3 f4 f8
  rw [q3] at s1
  simp only [q3] at f21 f22 f23
  have ar_0_0_1 : w_ar w1 (n_v vs 0) 0 = w_ar ws (n_v vs 0) 0 := by show v_ad (w_fd w1 _ _) = v_ad (w_fd ws _ _); rw [s1.2, if_neg (fun e => absurd e.2 (by decide))]
  have cr_0_0 := fdq_95 hD hth r0
  have ad_7 : v_ad (n_v vs 7) = w_ar ws (n_v vs 0) 0 := congrArg v_ad f2
  have g0 : v_iv (n_v vs 13) = w_fi ws (n_v vs 0) 7 := congrArg v_iv f0
  have g1 : v_iv (n_v vs 10) = w_fi ws (n_v vs 0) 8 := congrArg v_iv f1
  have g3 : v_iv (n_v vs 6) = w_fi ws (n_v vs 0) 5 := congrArg v_iv f3
  have g4 : v_iv (n_v vs 5) = w_fi ws (n_v vs 0) 6 := congrArg v_iv f4
  simp only [ad_7] at f17
  have h17 : v_iv (n_v vs 8) = w_ei w1 (w_ar ws (n_v vs 0) 0) (v_iv (n_v vs 5)) := f17
  simp only [ar_0_0_1] at f22
  have fe_0_5_1 : w_fi ws (n_v vs 0) 5 = w_fi w1 (n_v vs 0) 5 := by show v_iv (w_fd _ _ _) = v_iv (w_fd _ _ _); rw [s1.2, if_neg (fun e => absurd e.2 (by decide))]
  have fe_0_6_1 : w_fi ws (n_v vs 0) 6 = w_fi w1 (n_v vs 0) 6 := by show v_iv (w_fd _ _ _) = v_iv (w_fd _ _ _); rw [s1.2, if_neg (fun e => absurd e.2 (by decide))]
  have fe_0_8_1 : w_fi ws (n_v vs 0) 8 = w_fi w1 (n_v vs 0) 8 := by show v_iv (w_fd _ _ _) = v_iv (w_fd _ _ _); rw [s1.2, if_neg (fun e => absurd e.2 (by decide))]
  have fe_0_9_1 : w_fi ws (n_v vs 0) 9 = w_fi w1 (n_v vs 0) 9 := by show v_iv (w_fd _ _ _) = v_iv (w_fd _ _ _); rw [s1.2, if_neg (fun e => absurd e.2 (by decide))]
  have hE_0_0_1 : ∀ j : Int, w_ei ws (w_ar ws (n_v vs 0) 0) j = w_ei w1 (w_ar ws (n_v vs 0) 0) j := fun j => s1.1 _ _
  have hK_0_0 := elq_33 hD hth cr_0_0
  have kz_0_5 := fdq_207 hD hth r0
  have kz_0_6 := fdq_208 hD hth r0
  have kz_0_7 := fdq_297 hD hth r0
  have kz_0_8 := fdq_99 hD hth r0
  have kz_0_9 := fdq_296 hD hth r0
  have nf0 : fc_1 PRD (20, [0, 0, 1], [31, 1, 3, 1, 1, 7, 0, 1, 1, 9, -1, 0, 0]) ws (vs) := ⟨nf_in hl rfl, sgq_1528 (vc_Re_advance_32_0 (v_iv (n_v vs 1)) (v_iv (n_v vs 13)) (w_fi ws (n_v vs 0) 7) (w_fi ws (n_v vs 0) 8) (w_fi ws (n_v vs 0) 5) (w_fi ws (n_v vs 0) 6) (w_fi ws (n_v vs 0) 9) (w_ei ws (w_ar ws (n_v vs 0) 0)) (w_ei w1 (w_ar ws (n_v vs 0) 0)) (w_fi w1 (n_v vs 0) 9) (w_fi w1 (n_v vs 0) 8) (w_fi w1 (n_v vs 0) 6) (w_fi w1 (n_v vs 0) 5) k1 k13 g0 fe_0_5_1 fe_0_6_1 fe_0_8_1 fe_0_9_1 hE_0_0_1 hK_0_0 kz_0_5 kz_0_6 kz_0_7 kz_0_8 kz_0_9)⟩
  have nf1 : fc_1 PRD (20, [0, 0, 1], [31, 1, 3, 1, 1, 7, 0, -1, 1, 9, 1, 0, 0]) ws (vs) := ⟨nf_in hl rfl, sgq_1529 (vc_Re_advance_32_1 (v_iv (n_v vs 1)) (v_iv (n_v vs 13)) (w_fi ws (n_v vs 0) 7) (w_fi ws (n_v vs 0) 8) (w_fi ws (n_v vs 0) 5) (w_fi ws (n_v vs 0) 6) (w_fi ws (n_v vs 0) 9) (w_ei ws (w_ar ws (n_v vs 0) 0)) (w_ei w1 (w_ar ws (n_v vs 0) 0)) (w_fi w1 (n_v vs 0) 9) (w_fi w1 (n_v vs 0) 8) (w_fi w1 (n_v vs 0) 6) (w_fi w1 (n_v vs 0) 5) k1 k13 g0 fe_0_5_1 fe_0_6_1 fe_0_8_1 fe_0_9_1 hE_0_0_1 hK_0_0 kz_0_5 kz_0_6 kz_0_7 kz_0_8 kz_0_9)⟩
  have nf2 : fc_1 PRD (20, [0, 0, 0, 0], [31, 1, -3, -1, 1, 7, 4008, 1, 1, 6, -1, 1, 8, 2000, 1, 7]) ws (vs) := ⟨nf_in hl rfl, sgq_1530 (vc_Re_advance_32_2 (v_iv (n_v vs 5)) (v_iv (n_v vs 10)) (v_iv (n_v vs 11)) (v_iv (n_v vs 13)) (w_fi ws (n_v vs 0) 7) (w_fi ws (n_v vs 0) 8) (w_fi ws (n_v vs 0) 5) (w_fi ws (n_v vs 0) 6) (w_fi ws (n_v vs 0) 9) (w_ei ws (w_ar ws (n_v vs 0) 0)) (w_ei w1 (w_ar ws (n_v vs 0) 0)) (w_fi w1 (n_v vs 0) 9) (w_fi w1 (n_v vs 0) 8) (w_fi w1 (n_v vs 0) 6) (w_fi w1 (n_v vs 0) 5) k5 k10 k11 k13 g0 g1 g4 f8 (shm_14 f14) fe_0_5_1 fe_0_6_1 fe_0_8_1 fe_0_9_1 hE_0_0_1 hK_0_0 kz_0_5 kz_0_6 kz_0_7 kz_0_8 kz_0_9)⟩
  have nf3 : fc_1 PRD (20, [0, 0], [30, 0, 1, 1, 8, -1, 1, 6]) ws (vs) := ⟨nf_in hl rfl, sgq_1531 (vc_Re_advance_32_3 (w_fi ws (n_v vs 0) 8) (w_fi ws (n_v vs 0) 5) (w_fi ws (n_v vs 0) 6) (w_fi ws (n_v vs 0) 9) (w_ei ws (w_ar ws (n_v vs 0) 0)) (w_ei w1 (w_ar ws (n_v vs 0) 0)) (w_fi w1 (n_v vs 0) 9) (w_fi w1 (n_v vs 0) 8) (w_fi w1 (n_v vs 0) 6) (w_fi w1 (n_v vs 0) 5) f21 fe_0_5_1 fe_0_6_1 fe_0_8_1 fe_0_9_1 hE_0_0_1 hK_0_0 kz_0_5 kz_0_6 kz_0_8 kz_0_9)⟩
  have nf4 : fc_1 PRD (20, [0, 2], [60, 5, 1, 1072, 5, 6, 7, 8, 9, 0]) ws (vs) := ⟨nf_in hl rfl, sgq_1532 (vc_Re_advance_32_4 (v_iv (n_v vs 2)) (v_iv (n_v vs 5)) (v_iv (n_v vs 6)) (v_iv (n_v vs 8)) (v_iv (n_v vs 9)) (v_iv (n_v vs 10)) (v_iv (n_v vs 11)) (v_iv (n_v vs 13)) (w_fi ws (n_v vs 0) 7) (w_fi ws (n_v vs 0) 8) (w_fi ws (n_v vs 0) 5) (w_fi ws (n_v vs 0) 6) (w_fi ws (n_v vs 0) 9) (w_ei ws (w_ar ws (n_v vs 0) 0)) (w_ei w1 (w_ar ws (n_v vs 0) 0)) (w_fi w1 (n_v vs 0) 9) (w_fi w1 (n_v vs 0) 8) (w_fi w1 (n_v vs 0) 6) (w_fi w1 (n_v vs 0) 5) k2 k5 k6 k8 k9 k10 k11 k13 g0 g1 g3 g4 f8 (shm_14 f14) (shm_192 f15) (shm_1116 f16) h17 f22 fe_0_5_1 fe_0_6_1 fe_0_8_1 fe_0_9_1 hE_0_0_1 hK_0_0 kz_0_5 kz_0_6 kz_0_7 kz_0_8 kz_0_9)⟩
  have nf5 : fc_1 PRD (20, [2, 0], [30, 0, 1, 0, 0, -1, 1, 6]) ws (vs) := ⟨nf_in hl rfl, sgq_1527 (vc_Re_advance_32_5 (v_iv (n_v vs 2)) (w_fi ws (n_v vs 0) 8) (w_fi ws (n_v vs 0) 5) (w_fi ws (n_v vs 0) 6) (w_fi ws (n_v vs 0) 9) (w_ei ws (w_ar ws (n_v vs 0) 0)) (w_ei w1 (w_ar ws (n_v vs 0) 0)) (w_fi w1 (n_v vs 0) 9) (w_fi w1 (n_v vs 0) 8) (w_fi w1 (n_v vs 0) 6) (w_fi w1 (n_v vs 0) 5) k2 f23 fe_0_5_1 fe_0_6_1 fe_0_8_1 fe_0_9_1 hE_0_0_1 hK_0_0 kz_0_5 kz_0_6 kz_0_8 kz_0_9)⟩
  refine ⟨(fun _ h => (by cases h)), [], trivial, ?_, (fun _ h => (by cases h))⟩
  rw [List.append_nil]
  exact List.forall_mem_cons.mpr ⟨⟨show (20 : Nat) < 100 from by decide, nf0⟩, List.forall_mem_cons.mpr ⟨⟨show (20 : Nat) < 100 from by decide, nf1⟩, List.forall_mem_cons.mpr ⟨⟨show (20 : Nat) < 100 from by decide, nf2⟩, List.forall_mem_cons.mpr ⟨⟨show (20 : Nat) < 100 from by decide, nf3⟩, List.forall_mem_cons.mpr ⟨⟨show (20 : Nat) < 100 from by decide, nf4⟩, List.forall_mem_cons.mpr ⟨⟨show (20 : Nat) < 100 from by decide, nf5⟩, (fun _ h => (by cases h))⟩⟩⟩⟩⟩⟩
set_option maxHeartbeats 4000000 in
theorem vc_Re_advance_33_0 (x5 : Int) (x11 : Int) (next_0 : Int) (end_0 : Int) (number_0 : Int) (next_1 : Int) (tape_1 : Int → Int) (number_1 : Int) (begin_1 : Int) (end_1 : Int) (begin_0 : Int) (tape_0 : Int → Int) (k5 : 0 ≤ x5 ∧ x5 ≤ 1999) (k11 : 1 ≤ x11 ∧ x11 ≤ 2000) (d0 : x5 + 1 ≤ x11 ∧ x11 ≤ x5 + 1) (g0 : x11 = next_0) (g9 : x5 = next_1) (f16 : 1 * begin_1 + ((-1) * next_1 + 0) ≤ 0) (fe_0_5_1 : end_0 = end_1) (fe_0_8_1 : begin_0 = begin_1) (fe_0_9_1 : number_0 = number_1) (hE_0_0_1 : ∀ j : Int, tape_0 j = tape_1 j) (hK_0_0 : ∀ j : Int, 0 ≤ j → j < 2000 → (-128) ≤ tape_0 j ∧ tape_0 j ≤ 127) (kz_0_5 : 0 ≤ end_0 ∧ end_0 ≤ 2000) (kz_0_6 : 0 ≤ next_0 ∧ next_0 ≤ 2000) (kz_0_8 : 0 ≤ begin_0 ∧ begin_0 ≤ 2000) (kz_0_9 : (-176) ≤ number_0 ∧ number_0 ≤ 1000000) : 1 * begin_0 + ((-1) * next_0 + 0) ≤ 0 := by
  subst fe_0_5_1
  subst fe_0_8_1
  subst fe_0_9_1
  have e_hE_0_0_1 := funext hE_0_0_1; subst e_hE_0_0_1
  first | with_reducible assumption | ((try and_intros) <;> first | with_reducible assumption | (clear hE_0_0_1 hK_0_0; omega)) | omega
set_option maxHeartbeats 4000000 in
theorem vc_Re_advance_33_1 (x2 : Int) (x5 : Int) (x6 : Int) (x8 : Int) (x11 : Int) (next_0 : Int) (end_0 : Int) (number_0 : Int) (next_1 : Int) (tape_1 : Int → Int) (number_1 : Int) (begin_1 : Int) (end_1 : Int) (begin_0 : Int) (tape_0 : Int → Int) (k2 : 0 ≤ x2 ∧ x2 ≤ 2000) (k5 : 0 ≤ x5 ∧ x5 ≤ 1999) (k6 : 1 ≤ x6 ∧ x6 ≤ 2000) (k8 : 48 ≤ x8 ∧ x8 ≤ 57) (k11 : 1 ≤ x11 ∧ x11 ≤ 2000) (d0 : x5 + 1 ≤ x11 ∧ x11 ≤ x5 + 1) (g0 : x11 = next_0) (g2 : x6 = end_0) (g9 : x5 = next_1) (h12 : x8 = tape_1 (x5)) (f13 : x5 < x6) (f17 : CXL (end_1) (next_1) (begin_1) (tape_1) (x2)) (fe_0_5_1 : end_0 = end_1) (fe_0_8_1 : begin_0 = begin_1) (fe_0_9_1 : number_0 = number_1) (hE_0_0_1 : ∀ j : Int, tape_0 j = tape_1 j) (hK_0_0 : ∀ j : Int, 0 ≤ j → j < 2000 → (-128) ≤ tape_0 j ∧ tape_0 j ≤ 127) (kz_0_5 : 0 ≤ end_0 ∧ end_0 ≤ 2000) (kz_0_6 : 0 ≤ next_0 ∧ next_0 ≤ 2000) (kz_0_8 : 0 ≤ begin_0 ∧ begin_0 ≤ 2000) (kz_0_9 : (-176) ≤ number_0 ∧ number_0 ≤ 1000000) : CXL (end_0) (next_0) (begin_0) (tape_0) (x2) := by
  subst fe_0_5_1
  subst fe_0_8_1
  subst fe_0_9_1
  have e_hE_0_0_1 := funext hE_0_0_1; subst e_hE_0_0_1
  first | subst g0 | skip
  first | subst g2 | skip
  first | subst g9 | skip
  first
    | exact cxl_s (by assumption) ‹CXL _ _ _ _ _› (by omega) (by unfold cIL cIG; omega) (by omega)
    | exact cxl_0 (by assumption) (cx_1 (by assumption) ‹CX0 _ _ _ _› (fun q => by omega) (by omega)) (by omega) (by unfold cIL; omega)
set_option maxHeartbeats 4000000 in
theorem vc_Re_advance_33_2 (x2 : Int) (x5 : Int) (x11 : Int) (next_0 : Int) (end_0 : Int) (number_0 : Int) (next_1 : Int) (tape_1 : Int → Int) (number_1 : Int) (begin_1 : Int) (end_1 : Int) (begin_0 : Int) (tape_0 : Int → Int) (k2 : 0 ≤ x2 ∧ x2 ≤ 2000) (k5 : 0 ≤ x5 ∧ x5 ≤ 1999) (k11 : 1 ≤ x11 ∧ x11 ≤ 2000) (d0 : x5 + 1 ≤ x11 ∧ x11 ≤ x5 + 1) (g0 : x11 = next_0) (g9 : x5 = next_1) (f18 : 1 * x2 + ((-1) * next_1 + 0) ≤ 0) (fe_0_5_1 : end_0 = end_1) (fe_0_8_1 : begin_0 = begin_1) (fe_0_9_1 : number_0 = number_1) (hE_0_0_1 : ∀ j : Int, tape_0 j = tape_1 j) (hK_0_0 : ∀ j : Int, 0 ≤ j → j < 2000 → (-128) ≤ tape_0 j ∧ tape_0 j ≤ 127) (kz_0_5 : 0 ≤ end_0 ∧ end_0 ≤ 2000) (kz_0_6 : 0 ≤ next_0 ∧ next_0 ≤ 2000) (kz_0_8 : 0 ≤ begin_0 ∧ begin_0 ≤ 2000) (kz_0_9 : (-176) ≤ number_0 ∧ number_0 ≤ 1000000) : 1 * x2 + ((-1) * next_0 + 0) ≤ 0 := by
  subst fe_0_5_1
  subst fe_0_8_1
  subst fe_0_9_1
  have e_hE_0_0_1 := funext hE_0_0_1; subst e_hE_0_0_1
  first | with_reducible assumption | ((try and_intros) <;> first | with_reducible assumption | (clear hE_0_0_1 hK_0_0; omega)) | omega
def o_Re_advance_33 : or_T := (94, 12, [(0, (2, 0, 0, [8])), (1, (0, -2147483648, 1000000, [])), (2, (0, 0, 2000, [])), (3, (2, 0, 0, [8])), (5, (0, 0, 1999, [])), (6, (0, 1, 2000, [])), (7, (2, 0, 0, [109])), (8, (0, 48, 57, [])), (9, (0, 1, 1, [])), (10, (0, 1, 1, [])), (11, (0, 1, 2000, []))], [(9, [11, 3], [6]), (9, [7, 3], [0]), (9, [6, 3], [5]), (20, [8, 9], [61, 0, 1099]), (20, [3, 1], [30, 0, 1, 1, 9, -1, 0, 0]), (20, [3, 1], [30, 0, -1, 1, 9, 1, 0, 0]), (24, [0, 3], []), (101, [3, 11], [6]), (1, [11, 5, 10], []), (9, [5, 3], [6]), (8, [9], [1]), (20, [8, 9], [61, 0, 1099]), (10, [8, 7, 5], []), (7, [5, 6], [2]), (20, [3, 1], [30, 0, 1, 1, 9, -1, 0, 0]), (20, [3, 1], [30, 0, -1, 1, 9, 1, 0, 0]), (20, [3, 3], [30, 0, 1, 1, 8, -1, 1, 6]), (20, [3, 2], [60, 3, 1, 1076, 5, 6, 8, 0]), (20, [2, 3], [30, 0, 1, 0, 0, -1, 1, 6])], [], [], [(20, [3, 3], [30, 0, 1, 1, 8, -1, 1, 6]), (20, [3, 2], [60, 3, 1, 1076, 5, 6, 8, 0]), (20, [2, 3], [30, 0, 1, 0, 0, -1, 1, 6])], [], [(11, 5, 1, 1), (11, 6, -4294967296, 0), (5, 6, -4294967296, -1)])
theorem oo_Re_advance_33 {kA : Nat → ClassId} : or_ok PRD kA GG o_Re_advance_33 := by
  refine or_mk fun A ta ws vs hD hth hl => ?_
  intro t0 r0 t1 k1 t2 k2 t3 r3 t5 k5 t6 k6 t7 r7 t8 k8 t9 k9 t10 k10 t11 k11 d0 d1 d2 f0 f1 f2 f3 f4 f5 f6 ta1 w1 le1 s1 f8 f9 f10 f11 f12 f13 f14 f15 f16 f17 f18
  replace f0 := shm_111 f0
  replace f1 := shm_163 f1
  replace f2 := shm_110 f2
  replace f6 := shm_5 f6
  have s1 : (∀ b j, w_el ws b j = w_el w1 b j) ∧ ∀ b j, w_fd ws b j = if b = v_ad (n_v vs 3) ∧ j = 6 then n_v vs 11 else w_fd w1 b j := s1.2
  replace f9 := shm_111 f9
  replace f12 := shm_107 f12
  replace f13 := shm_6 f13
  replace f16 := shm_1531 f16
  replace f17 := shm_1534 f17
  replace f18 := shm_1527 f18
  have q3 : n_v vs 3 = n_v vs 0 := f6.symm
  simp only [q3] at f0 f1 f2
  rw [q3] at s1
  simp only [q3] at f9 f16 f17 f18
  have ar_0_0_1 : w_ar w1 (n_v vs 0) 0 = w_ar ws (n_v vs 0) 0 := by show v_ad (w_fd w1 _ _) = v_ad (w_fd ws _ _); rw [s1.2, if_neg (fun e => absurd e.2 (by decide))]
  have cr_0_0 := fdq_95 hD hth r0
  have ad_7 : v_ad (n_v vs 7) = w_ar ws (n_v vs 0) 0 := congrArg v_ad f1
  have g0 : v_iv (n_v vs 11) = w_fi ws (n_v vs 0) 6 := congrArg v_iv f0
  have g2 : v_iv (n_v vs 6) = w_fi ws (n_v vs 0) 5 := congrArg v_iv f2
  have g9 : v_iv (n_v vs 5) = w_fi w1 (n_v vs 0) 6 := congrArg v_iv f9
  simp only [ad_7] at f12
  have h12 : v_iv (n_v vs 8) = w_ei w1 (w_ar ws (n_v vs 0) 0) (v_iv (n_v vs 5)) := f12
  simp only [ar_0_0_1] at f17
  have fe_0_5_1 : w_fi ws (n_v vs 0) 5 = w_fi w1 (n_v vs 0) 5 := by show v_iv (w_fd _ _ _) = v_iv (w_fd _ _ _); rw [s1.2, if_neg (fun e => absurd e.2 (by decide))]
  have fe_0_8_1 : w_fi ws (n_v vs 0) 8 = w_fi w1 (n_v vs 0) 8 := by show v_iv (w_fd _ _ _) = v_iv (w_fd _ _ _); rw [s1.2, if_neg (fun e => absurd e.2 (by decide))]
  have fe_0_9_1 : w_fi ws (n_v vs 0) 9 = w_fi w1 (n_v vs 0) 9 := by show v_iv (w_fd _ _ _) = v_iv (w_fd _ _ _); rw [s1.2, if_neg (fun e => absurd e.2 (by decide))]
  have hE_0_0_1 : ∀ j : Int, w_ei ws (w_ar ws (n_v vs 0) 0) j = w_ei w1 (w_ar ws (n_v vs 0) 0) j := fun j => s1.1 _ _
  have hK_0_0 := elq_33 hD hth cr_0_0
  have kz_0_5 := fdq_207 hD hth r0
  have kz_0_6 := fdq_208 hD hth r0
  have kz_0_8 := fdq_99 hD hth r0
  have kz_0_9 := fdq_296 hD hth r0
  have nf0 : fc_1 PRD (20, [3, 3], [30, 0, 1, 1, 8, -1, 1, 6]) ws (vs) := by
    refine ⟨nf_in hl rfl, sgq_1531 ?_⟩
    · show 1 * w_fi ws (n_v vs 3) 8 + ((-1) * w_fi ws (n_v vs 3) 6 + 0) ≤ 0
      rw [q3]
      exact vc_Re_advance_33_0 (v_iv (n_v vs 5)) (v_iv (n_v vs 11)) (w_fi ws (n_v vs 0) 6) (w_fi ws (n_v vs 0) 5) (w_fi ws (n_v vs 0) 9) (w_fi w1 (n_v vs 0) 6) (w_ei w1 (w_ar ws (n_v vs 0) 0)) (w_fi w1 (n_v vs 0) 9) (w_fi w1 (n_v vs 0) 8) (w_fi w1 (n_v vs 0) 5) (w_fi ws (n_v vs 0) 8) (w_ei ws (w_ar ws (n_v vs 0) 0)) k5 k11 d0 g0 g9 f16 fe_0_5_1 fe_0_8_1 fe_0_9_1 hE_0_0_1 hK_0_0 kz_0_5 kz_0_6 kz_0_8 kz_0_9
  have nf1 : fc_1 PRD (20, [3, 2], [60, 3, 1, 1076, 5, 6, 8, 0]) ws (vs) := by
    refine ⟨nf_in hl rfl, sgq_1534 ?_⟩
    · show CXL (w_fi ws (n_v vs 3) 5) (w_fi ws (n_v vs 3) 6) (w_fi ws (n_v vs 3) 8) (w_ei ws (w_ar ws (n_v vs 3) 0)) (v_iv (n_v vs 2))
      rw [q3]
      exact vc_Re_advance_33_1 (v_iv (n_v vs 2)) (v_iv (n_v vs 5)) (v_iv (n_v vs 6)) (v_iv (n_v vs 8)) (v_iv (n_v vs 11)) (w_fi ws (n_v vs 0) 6) (w_fi ws (n_v vs 0) 5) (w_fi ws (n_v vs 0) 9) (w_fi w1 (n_v vs 0) 6) (w_ei w1 (w_ar ws (n_v vs 0) 0)) (w_fi w1 (n_v vs 0) 9) (w_fi w1 (n_v vs 0) 8) (w_fi w1 (n_v vs 0) 5) (w_fi ws (n_v vs 0) 8) (w_ei ws (w_ar ws (n_v vs 0) 0)) k2 k5 k6 k8 k11 d0 g0 g2 g9 h12 f13 f17 fe_0_5_1 fe_0_8_1 fe_0_9_1 hE_0_0_1 hK_0_0 kz_0_5 kz_0_6 kz_0_8 kz_0_9
  have nf2 : fc_1 PRD (20, [2, 3], [30, 0, 1, 0, 0, -1, 1, 6]) ws (vs) := by
    refine ⟨nf_in hl rfl, sgq_1527 ?_⟩
    · show 1 * v_iv (n_v vs 2) + ((-1) * w_fi ws (n_v vs 3) 6 + 0) ≤ 0
      rw [q3]
      exact vc_Re_advance_33_2 (v_iv (n_v vs 2)) (v_iv (n_v vs 5)) (v_iv (n_v vs 11)) (w_fi ws (n_v vs 0) 6) (w_fi ws (n_v vs 0) 5) (w_fi ws (n_v vs 0) 9) (w_fi w1 (n_v vs 0) 6) (w_ei w1 (w_ar ws (n_v vs 0) 0)) (w_fi w1 (n_v vs 0) 9) (w_fi w1 (n_v vs 0) 8) (w_fi w1 (n_v vs 0) 5) (w_fi ws (n_v vs 0) 8) (w_ei ws (w_ar ws (n_v vs 0) 0)) k2 k5 k11 d0 g0 g9 f18 fe_0_5_1 fe_0_8_1 fe_0_9_1 hE_0_0_1 hK_0_0 kz_0_5 kz_0_6 kz_0_8 kz_0_9
  refine ⟨(fun _ h => (by cases h)), [], trivial, ?_, (fun _ h => (by cases h))⟩
  rw [List.append_nil]
  exact List.forall_mem_cons.mpr ⟨⟨show (20 : Nat) < 100 from by decide, nf0⟩, List.forall_mem_cons.mpr ⟨⟨show (20 : Nat) < 100 from by decide, nf1⟩, List.forall_mem_cons.mpr ⟨⟨show (20 : Nat) < 100 from by decide, nf2⟩, (fun _ h => (by cases h))⟩⟩⟩
set_option maxHeartbeats 4000000 in
theorem vc_Re_advance_34_0 (x1 : Int) (x13 : Int) (kind_0 : Int) (begin_0 : Int) (end_0 : Int) (next_0 : Int) (number_0 : Int) (tape_0 : Int → Int) (tape_1 : Int → Int) (number_1 : Int) (begin_1 : Int) (next_1 : Int) (end_1 : Int) (k1 : (-2147483648) ≤ x1 ∧ x1 ≤ 1000000) (k13 : 1 ≤ x13 ∧ x13 ≤ 1) (g0 : x13 = kind_0) (fe_0_5_1 : end_0 = end_1) (fe_0_6_1 : next_0 = next_1) (fe_0_8_1 : begin_0 = begin_1) (fe_0_9_1 : number_0 = number_1) (hE_0_0_1 : ∀ j : Int, tape_0 j = tape_1 j) (hK_0_0 : ∀ j : Int, 0 ≤ j → j < 2000 → (-128) ≤ tape_0 j ∧ tape_0 j ≤ 127) (kz_0_5 : 0 ≤ end_0 ∧ end_0 ≤ 2000) (kz_0_6 : 0 ≤ next_0 ∧ next_0 ≤ 2000) (kz_0_7 : (-128) ≤ kind_0 ∧ kind_0 ≤ 127) (kz_0_8 : 0 ≤ begin_0 ∧ begin_0 ≤ 2000) (kz_0_9 : (-176) ≤ number_0 ∧ number_0 ≤ 1000000) : (1 * kind_0 + 0 ≤ 3) ∨ (1 * number_0 + ((-1) * x1 + 0) ≤ 0) := by
  subst fe_0_5_1
  subst fe_0_6_1
  subst fe_0_8_1
  subst fe_0_9_1
  have e_hE_0_0_1 := funext hE_0_0_1; subst e_hE_0_0_1
  first | with_reducible assumption | ((try and_intros) <;> first | with_reducible assumption | (clear hE_0_0_1 hK_0_0; omega)) | omega
set_option maxHeartbeats 4000000 in
theorem vc_Re_advance_34_1 (x1 : Int) (x13 : Int) (kind_0 : Int) (begin_0 : Int) (end_0 : Int) (next_0 : Int) (number_0 : Int) (tape_0 : Int → Int) (tape_1 : Int → Int) (number_1 : Int) (begin_1 : Int) (next_1 : Int) (end_1 : Int) (k1 : (-2147483648) ≤ x1 ∧ x1 ≤ 1000000) (k13 : 1 ≤ x13 ∧ x13 ≤ 1) (g0 : x13 = kind_0) (fe_0_5_1 : end_0 = end_1) (fe_0_6_1 : next_0 = next_1) (fe_0_8_1 : begin_0 = begin_1) (fe_0_9_1 : number_0 = number_1) (hE_0_0_1 : ∀ j : Int, tape_0 j = tape_1 j) (hK_0_0 : ∀ j : Int, 0 ≤ j → j < 2000 → (-128) ≤ tape_0 j ∧ tape_0 j ≤ 127) (kz_0_5 : 0 ≤ end_0 ∧ end_0 ≤ 2000) (kz_0_6 : 0 ≤ next_0 ∧ next_0 ≤ 2000) (kz_0_7 : (-128) ≤ kind_0 ∧ kind_0 ≤ 127) (kz_0_8 : 0 ≤ begin_0 ∧ begin_0 ≤ 2000) (kz_0_9 : (-176) ≤ number_0 ∧ number_0 ≤ 1000000) : (1 * kind_0 + 0 ≤ 3) ∨ ((-1) * number_0 + (1 * x1 + 0) ≤ 0) := by
  subst fe_0_5_1
  subst fe_0_6_1
  subst fe_0_8_1
  subst fe_0_9_1
  have e_hE_0_0_1 := funext hE_0_0_1; subst e_hE_0_0_1
  first | with_reducible assumption | ((try and_intros) <;> first | with_reducible assumption | (clear hE_0_0_1 hK_0_0; omega)) | omega
set_option maxHeartbeats 4000000 in
theorem vc_Re_advance_34_2 (x5 : Int) (x10 : Int) (x11 : Int) (x13 : Int) (kind_0 : Int) (begin_0 : Int) (end_0 : Int) (next_0 : Int) (number_0 : Int) (tape_0 : Int → Int) (tape_1 : Int → Int) (number_1 : Int) (begin_1 : Int) (next_1 : Int) (end_1 : Int) (k5 : 9 ≤ x5 ∧ x5 ≤ 1999) (k10 : 0 ≤ x10 ∧ x10 ≤ 2000) (k11 : 9 ≤ x11 ∧ x11 ≤ 1999) (k13 : 1 ≤ x13 ∧ x13 ≤ 1) (g0 : x13 = kind_0) (g1 : x10 = begin_0) (g4 : x5 = next_0) (f14 : x11 = x5 - x10) (fe_0_5_1 : end_0 = end_1) (fe_0_6_1 : next_0 = next_1) (fe_0_8_1 : begin_0 = begin_1) (fe_0_9_1 : number_0 = number_1) (hE_0_0_1 : ∀ j : Int, tape_0 j = tape_1 j) (hK_0_0 : ∀ j : Int, 0 ≤ j → j < 2000 → (-128) ≤ tape_0 j ∧ tape_0 j ≤ 127) (kz_0_5 : 0 ≤ end_0 ∧ end_0 ≤ 2000) (kz_0_6 : 0 ≤ next_0 ∧ next_0 ≤ 2000) (kz_0_7 : (-128) ≤ kind_0 ∧ kind_0 ≤ 127) (kz_0_8 : 0 ≤ begin_0 ∧ begin_0 ≤ 2000) (kz_0_9 : (-176) ≤ number_0 ∧ number_0 ≤ 1000000) : ((-1) * kind_0 + 0 ≤ (-3)) ∨ (1 * next_0 + ((-1) * begin_0 + (2000 * kind_0 + 0)) ≤ 4008) := by
  subst fe_0_5_1
  subst fe_0_6_1
  subst fe_0_8_1
  subst fe_0_9_1
  have e_hE_0_0_1 := funext hE_0_0_1; subst e_hE_0_0_1
  first | with_reducible assumption | ((try and_intros) <;> first | with_reducible assumption | (clear hE_0_0_1 hK_0_0; omega)) | omega
set_option maxHeartbeats 4000000 in
theorem vc_Re_advance_34_3 (begin_0 : Int) (end_0 : Int) (next_0 : Int) (number_0 : Int) (tape_0 : Int → Int) (tape_1 : Int → Int) (number_1 : Int) (begin_1 : Int) (next_1 : Int) (end_1 : Int) (f21 : 1 * begin_1 + ((-1) * next_1 + 0) ≤ 0) (fe_0_5_1 : end_0 = end_1) (fe_0_6_1 : next_0 = next_1) (fe_0_8_1 : begin_0 = begin_1) (fe_0_9_1 : number_0 = number_1) (hE_0_0_1 : ∀ j : Int, tape_0 j = tape_1 j) (hK_0_0 : ∀ j : Int, 0 ≤ j → j < 2000 → (-128) ≤ tape_0 j ∧ tape_0 j ≤ 127) (kz_0_5 : 0 ≤ end_0 ∧ end_0 ≤ 2000) (kz_0_6 : 0 ≤ next_0 ∧ next_0 ≤ 2000) (kz_0_8 : 0 ≤ begin_0 ∧ begin_0 ≤ 2000) (kz_0_9 : (-176) ≤ number_0 ∧ number_0 ≤ 1000000) : 1 * begin_0 + ((-1) * next_0 + 0) ≤ 0 := by
  subst fe_0_5_1
  subst fe_0_6_1
  subst fe_0_8_1
  subst fe_0_9_1
  have e_hE_0_0_1 := funext hE_0_0_1; subst e_hE_0_0_1
  first | with_reducible assumption | ((try and_intros) <;> first | with_reducible assumption | (clear hE_0_0_1 hK_0_0; omega)) | omega
set_option maxHeartbeats 4000000 in
theorem vc_Re_advance_34_4 (x2 : Int) (x5 : Int) (x6 : Int) (x8 : Int) (x9 : Int) (x10 : Int) (x11 : Int) (x13 : Int) (kind_0 : Int) (begin_0 : Int) (end_0 : Int) (next_0 : Int) (number_0 : Int) (tape_0 : Int → Int) (tape_1 : Int → Int) (number_1 : Int) (begin_1 : Int) (next_1 : Int) (end_1 : Int) (k2 : 0 ≤ x2 ∧ x2 ≤ 2000) (k5 : 9 ≤ x5 ∧ x5 ≤ 1999) (k6 : 10 ≤ x6 ∧ x6 ≤ 2000) (k8 : 91 ≤ x8 ∧ x8 ≤ 96) (k9 : 0 ≤ x9 ∧ x9 ≤ 0) (k10 : 0 ≤ x10 ∧ x10 ≤ 2000) (k11 : 9 ≤ x11 ∧ x11 ≤ 1999) (k13 : 1 ≤ x13 ∧ x13 ≤ 1) (g0 : x13 = kind_0) (g1 : x10 = begin_0) (g3 : x6 = end_0) (g4 : x5 = next_0) (f14 : x11 = x5 - x10) (f15 : x9 = 0) (f16 : CNBy (x8) (x9)) (h17 : x8 = tape_1 (x5)) (f22 : CXL (end_1) (next_1) (begin_1) (tape_1) (x2)) (fe_0_5_1 : end_0 = end_1) (fe_0_6_1 : next_0 = next_1) (fe_0_8_1 : begin_0 = begin_1) (fe_0_9_1 : number_0 = number_1) (hE_0_0_1 : ∀ j : Int, tape_0 j = tape_1 j) (hK_0_0 : ∀ j : Int, 0 ≤ j → j < 2000 → (-128) ≤ tape_0 j ∧ tape_0 j ≤ 127) (kz_0_5 : 0 ≤ end_0 ∧ end_0 ≤ 2000) (kz_0_6 : 0 ≤ next_0 ∧ next_0 ≤ 2000) (kz_0_7 : (-128) ≤ kind_0 ∧ kind_0 ≤ 127) (kz_0_8 : 0 ≤ begin_0 ∧ begin_0 ≤ 2000) (kz_0_9 : (-176) ≤ number_0 ∧ number_0 ≤ 1000000) : TKC (end_0) (next_0) (kind_0) (begin_0) (number_0) (tape_0) (x2) := by
  subst fe_0_5_1
  subst fe_0_6_1
  subst fe_0_8_1
  subst fe_0_9_1
  have e_hE_0_0_1 := funext hE_0_0_1; subst e_hE_0_0_1
  first | subst g0 | skip
  first | subst g1 | skip
  first | subst g3 | skip
  first | subst g4 | skip
  first
    | exact cxl_e (by assumption) ‹CXL _ _ _ _ _› (fun q => by omega) (by omega)
    | exact cxl_e (by assumption) ‹CXL _ _ _ _ _› (fun q => cnb_f ‹CNBy _ _› (by omega) (by omega)) (by omega)
    | exact cxd_e (by assumption) ‹CXD _ _ _ _ _ _› (fun q => by unfold cIG; omega) (by omega)
    | exact cxs_e (by assumption) (cx_1 (by assumption) ‹CX0 _ _ _ _› (fun q => by omega) (by omega)) (by omega) rfl (by unfold cIL; omega) (by unfold cIG; omega) (by omega) (Or.inl ⟨csg_t ‹CSG _ _› (by omega) (by omega), by omega⟩)
    | exact cxs_e (by assumption) (cx_1 (by assumption) ‹CX0 _ _ _ _› (fun q => by omega) (by omega)) (by omega) rfl (by unfold cIL; omega) (by unfold cIG; omega) (by omega) (Or.inr ⟨csg_f ‹CSG _ _› (by omega) (by omega), by omega⟩)
set_option maxHeartbeats 4000000 in
theorem vc_Re_advance_34_5 (x2 : Int) (begin_0 : Int) (end_0 : Int) (next_0 : Int) (number_0 : Int) (tape_0 : Int → Int) (tape_1 : Int → Int) (number_1 : Int) (begin_1 : Int) (next_1 : Int) (end_1 : Int) (k2 : 0 ≤ x2 ∧ x2 ≤ 2000) (f23 : 1 * x2 + ((-1) * next_1 + 0) ≤ 0) (fe_0_5_1 : end_0 = end_1) (fe_0_6_1 : next_0 = next_1) (fe_0_8_1 : begin_0 = begin_1) (fe_0_9_1 : number_0 = number_1) (hE_0_0_1 : ∀ j : Int, tape_0 j = tape_1 j) (hK_0_0 : ∀ j : Int, 0 ≤ j → j < 2000 → (-128) ≤ tape_0 j ∧ tape_0 j ≤ 127) (kz_0_5 : 0 ≤ end_0 ∧ end_0 ≤ 2000) (kz_0_6 : 0 ≤ next_0 ∧ next_0 ≤ 2000) (kz_0_8 : 0 ≤ begin_0 ∧ begin_0 ≤ 2000) (kz_0_9 : (-176) ≤ number_0 ∧ number_0 ≤ 1000000) : 1 * x2 + ((-1) * next_0 + 0) ≤ 0 := by
  subst fe_0_5_1
  subst fe_0_6_1
  subst fe_0_8_1
  subst fe_0_9_1
  have e_hE_0_0_1 := funext hE_0_0_1; subst e_hE_0_0_1
  first | with_reducible assumption | ((try and_intros) <;> first | with_reducible assumption | (clear hE_0_0_1 hK_0_0; omega)) | omega
def o_Re_advance_34 : or_T := (290, 14, [(0, (2, 0, 0, [8])), (1, (0, -2147483648, 1000000, [])), (2, (0, 0, 2000, [])), (3, (2, 0, 0, [8])), (5, (0, 9, 1999, [])), (6, (0, 10, 2000, [])), (7, (2, 0, 0, [109])), (8, (0, 91, 96, [])), (9, (0, 0, 0, [])), (10, (0, 0, 2000, [])), (11, (0, 9, 1999, [])), (12, (0, 8, 8, [])), (13, (0, 1, 1, []))], [(9, [13, 3], [7]), (9, [10, 3], [8]), (9, [7, 3], [0]), (9, [6, 3], [5]), (9, [5, 3], [6]), (20, [8, 9], [61, 0, 1099]), (20, [3, 1], [30, 0, 1, 1, 9, -1, 0, 0]), (20, [3, 1], [30, 0, -1, 1, 9, 1, 0, 0]), (20, [3, 3], [30, 0, 1, 1, 8, -1, 1, 6]), (20, [3, 2], [60, 3, 1, 1076, 5, 6, 8, 0]), (20, [2, 3], [30, 0, 1, 0, 0, -1, 1, 6]), (24, [0, 3], []), (101, [3, 13], [7]), (7, [11, 12], [4]), (2, [11, 5, 10], []), (8, [9], [0]), (20, [8, 9], [61, 0, 1099]), (10, [8, 7, 5], []), (7, [5, 6], [2]), (20, [3, 1], [30, 0, 1, 1, 9, -1, 0, 0]), (20, [3, 1], [30, 0, -1, 1, 9, 1, 0, 0]), (20, [3, 3], [30, 0, 1, 1, 8, -1, 1, 6]), (20, [3, 2], [60, 3, 1, 1076, 5, 6, 8, 0]), (20, [2, 3], [30, 0, 1, 0, 0, -1, 1, 6])], [], [], [(20, [0, 0, 1], [31, 1, 3, 1, 1, 7, 0, 1, 1, 9, -1, 0, 0]), (20, [0, 0, 1], [31, 1, 3, 1, 1, 7, 0, -1, 1, 9, 1, 0, 0]), (20, [0, 0, 0, 0], [31, 1, -3, -1, 1, 7, 4008, 1, 1, 6, -1, 1, 8, 2000, 1, 7]), (20, [0, 0], [30, 0, 1, 1, 8, -1, 1, 6]), (20, [0, 2], [60, 5, 1, 1072, 5, 6, 7, 8, 9, 0]), (20, [2, 0], [30, 0, 1, 0, 0, -1, 1, 6])], [], [(11, 5, -2000, 0), (11, 6, -4294967296, -1), (5, 6, -4294967296, -1)])
theorem oo_Re_advance_34 {kA : Nat → ClassId} : or_ok PRD kA GG o_Re_advance_34 := by
  refine or_mk fun A ta ws vs hD hth hl => ?_
  intro t0 r0 t1 k1 t2 k2 t3 r3 t5 k5 t6 k6 t7 r7 t8 k8 t9 k9 t10 k10 t11 k11 t12 k12 t13 k13 d0 d1 d2 f0 f1 f2 f3 f4 f5 f6 f7 f8 f9 f10 f11 ta1 w1 le1 s1 f13 f14 f15 f16 f17 f18 f19 f20 f21 f22 f23
  replace f0 := shm_198 f0
  replace f1 := shm_293 f1
  replace f2 := shm_163 f2
  replace f3 := shm_110 f3
  replace f4 := shm_111 f4
  replace f11 := shm_5 f11
  have s1 : (∀ b j, w_el ws b j = w_el w1 b j) ∧ ∀ b j, w_fd ws b j = if b = v_ad (n_v vs 3) ∧ j = 7 then n_v vs 13 else w_fd w1 b j := s1.2
  replace f17 := shm_107 f17
  replace f21 := shm_1531 f21
  replace f22 := shm_1534 f22
  replace f23 := shm_1527 f23
  have q3 : n_v vs 3 = n_v vs 0 := f11.symm
  simp only [q3] at f0 f1 f2 f3 f4
  rw [q3] at s1
  simp only [q3] at f21 f22 f23
  have ar_0_0_1 : w_ar w1 (n_v vs 0) 0 = w_ar ws (n_v vs 0) 0 := by show v_ad (w_fd w1 _ _) = v_ad (w_fd ws _ _); rw [s1.2, if_neg (fun e => absurd e.2 (by decide))]
  have cr_0_0 := fdq_95 hD hth r0
  have ad_7 : v_ad (n_v vs 7) = w_ar ws (n_v vs 0) 0 := congrArg v_ad f2
  have g0 : v_iv (n_v vs 13) = w_fi ws (n_v vs 0) 7 := congrArg v_iv f0
  have g1 : v_iv (n_v vs 10) = w_fi ws (n_v vs 0) 8 := congrArg v_iv f1
  have g3 : v_iv (n_v vs 6) = w_fi ws (n_v vs 0) 5 := congrArg v_iv f3
  have g4 : v_iv (n_v vs 5) = w_fi ws (n_v vs 0) 6 := congrArg v_iv f4
  simp only [ad_7] at f17
  have h17 : v_iv (n_v vs 8) = w_ei w1 (w_ar ws (n_v vs 0) 0) (v_iv (n_v vs 5)) := f17
  simp only [ar_0_0_1] at f22
  have fe_0_5_1 : w_fi ws (n_v vs 0) 5 = w_fi w1 (n_v vs 0) 5 := by show v_iv (w_fd _ _ _) = v_iv (w_fd _ _ _); rw [s1.2, if_neg (fun e => absurd e.2 (by decide))]
  have fe_0_6_1 : w_fi ws (n_v vs 0) 6 = w_fi w1 (n_v vs 0) 6 := by show v_iv (w_fd _ _ _) = v_iv (w_fd _ _ _); rw [s1.2, if_neg (fun e => absurd e.2 (by decide))]
  have fe_0_8_1 : w_fi ws (n_v vs 0) 8 = w_fi w1 (n_v vs 0) 8 := by show v_iv (w_fd _ _ _) = v_iv (w_fd _ _ _); rw [s1.2, if_neg (fun e => absurd e.2 (by decide))]
  have fe_0_9_1 : w_fi ws (n_v vs 0) 9 = w_fi w1 (n_v vs 0) 9 := by show v_iv (w_fd _ _ _) = v_iv (w_fd _ _ _); rw [s1.2, if_neg (fun e => absurd e.2 (by decide))]
  have hE_0_0_1 : ∀ j : Int, w_ei ws (w_ar ws (n_v vs 0) 0) j = w_ei w1 (w_ar ws (n_v vs 0) 0) j := fun j => s1.1 _ _
  have hK_0_0 := elq_33 hD hth cr_0_0
  have kz_0_5 := fdq_207 hD hth r0
  have kz_0_6 := fdq_208 hD hth r0
  have kz_0_7 := fdq_297 hD hth r0
  have kz_0_8 := fdq_99 hD hth r0
  have kz_0_9 := fdq_296 hD hth r0
  have nf0 : fc_1 PRD (20, [0, 0, 1], [31, 1, 3, 1, 1, 7, 0, 1, 1, 9, -1, 0, 0]) ws (vs) := ⟨nf_in hl rfl, sgq_1528 (vc_Re_advance_34_0 (v_iv (n_v vs 1)) (v_iv (n_v vs 13)) (w_fi ws (n_v vs 0) 7) (w_fi ws (n_v vs 0) 8) (w_fi ws (n_v vs 0) 5) (w_fi ws (n_v vs 0) 6) (w_fi ws (n_v vs 0) 9) (w_ei ws (w_ar ws (n_v vs 0) 0)) (w_ei w1 (w_ar ws (n_v vs 0) 0)) (w_fi w1 (n_v vs 0) 9) (w_fi w1 (n_v vs 0) 8) (w_fi w1 (n_v vs 0) 6) (w_fi w1 (n_v vs 0) 5) k1 k13 g0 fe_0_5_1 fe_0_6_1 fe_0_8_1 fe_0_9_1 hE_0_0_1 hK_0_0 kz_0_5 kz_0_6 kz_0_7 kz_0_8 kz_0_9)⟩
  have nf1 : fc_1 PRD (20, [0, 0, 1], [31, 1, 3, 1, 1, 7, 0, -1, 1, 9, 1, 0, 0]) ws (vs) := ⟨nf_in hl rfl, sgq_1529 (vc_Re_advance_34_1 (v_iv (n_v vs 1)) (v_iv (n_v vs 13)) (w_fi ws (n_v vs 0) 7) (w_fi ws (n_v vs 0) 8) (w_fi ws (n_v vs 0) 5) (w_fi ws (n_v vs 0) 6) (w_fi ws (n_v vs 0) 9) (w_ei ws (w_ar ws (n_v vs 0) 0)) (w_ei w1 (w_ar ws (n_v vs 0) 0)) (w_fi w1 (n_v vs 0) 9) (w_fi w1 (n_v vs 0) 8) (w_fi w1 (n_v vs 0) 6) (w_fi w1 (n_v vs 0) 5) k1 k13 g0 fe_0_5_1 fe_0_6_1 fe_0_8_1 fe_0_9_1 hE_0_0_1 hK_0_0 kz_0_5 kz_0_6 kz_0_7 kz_0_8 kz_0_9)⟩
  have nf2 : fc_1 PRD (20, [0, 0, 0, 0], [31, 1, -3, -1, 1, 7, 4008, 1, 1, 6, -1, 1, 8, 2000, 1, 7]) ws (vs) := ⟨nf_in hl rfl, sgq_1530 (vc_Re_advance_34_2 (v_iv (n_v vs 5)) (v_iv (n_v vs 10)) (v_iv (n_v vs 11)) (v_iv (n_v vs 13)) (w_fi ws (n_v vs 0) 7) (w_fi ws (n_v vs 0) 8) (w_fi ws (n_v vs 0) 5) (w_fi ws (n_v vs 0) 6) (w_fi ws (n_v vs 0) 9) (w_ei ws (w_ar ws (n_v vs 0) 0)) (w_ei w1 (w_ar ws (n_v vs 0) 0)) (w_fi w1 (n_v vs 0) 9) (w_fi w1 (n_v vs 0) 8) (w_fi w1 (n_v vs 0) 6) (w_fi w1 (n_v vs 0) 5) k5 k10 k11 k13 g0 g1 g4 (shm_14 f14) fe_0_5_1 fe_0_6_1 fe_0_8_1 fe_0_9_1 hE_0_0_1 hK_0_0 kz_0_5 kz_0_6 kz_0_7 kz_0_8 kz_0_9)⟩
  have nf3 : fc_1 PRD (20, [0, 0], [30, 0, 1, 1, 8, -1, 1, 6]) ws (vs) := ⟨nf_in hl rfl, sgq_1531 (vc_Re_advance_34_3 (w_fi ws (n_v vs 0) 8) (w_fi ws (n_v vs 0) 5) (w_fi ws (n_v vs 0) 6) (w_fi ws (n_v vs 0) 9) (w_ei ws (w_ar ws (n_v vs 0) 0)) (w_ei w1 (w_ar ws (n_v vs 0) 0)) (w_fi w1 (n_v vs 0) 9) (w_fi w1 (n_v vs 0) 8) (w_fi w1 (n_v vs 0) 6) (w_fi w1 (n_v vs 0) 5) f21 fe_0_5_1 fe_0_6_1 fe_0_8_1 fe_0_9_1 hE_0_0_1 hK_0_0 kz_0_5 kz_0_6 kz_0_8 kz_0_9)⟩
  have nf4 : fc_1 PRD (20, [0, 2], [60, 5, 1, 1072, 5, 6, 7, 8, 9, 0]) ws (vs) := ⟨nf_in hl rfl, sgq_1532 (vc_Re_advance_34_4 (v_iv (n_v vs 2)) (v_iv (n_v vs 5)) (v_iv (n_v vs 6)) (v_iv (n_v vs 8)) (v_iv (n_v vs 9)) (v_iv (n_v vs 10)) (v_iv (n_v vs 11)) (v_iv (n_v vs 13)) (w_fi ws (n_v vs 0) 7) (w_fi ws (n_v vs 0) 8) (w_fi ws (n_v vs 0) 5) (w_fi ws (n_v vs 0) 6) (w_fi ws (n_v vs 0) 9) (w_ei ws (w_ar ws (n_v vs 0) 0)) (w_ei w1 (w_ar ws (n_v vs 0) 0)) (w_fi w1 (n_v vs 0) 9) (w_fi w1 (n_v vs 0) 8) (w_fi w1 (n_v vs 0) 6) (w_fi w1 (n_v vs 0) 5) k2 k5 k6 k8 k9 k10 k11 k13 g0 g1 g3 g4 (shm_14 f14) (shm_192 f15) (shm_1116 f16) h17 f22 fe_0_5_1 fe_0_6_1 fe_0_8_1 fe_0_9_1 hE_0_0_1 hK_0_0 kz_0_5 kz_0_6 kz_0_7 kz_0_8 kz_0_9)⟩
  have nf5 : fc_1 PRD (20, [2, 0], [30, 0, 1, 0, 0, -1, 1, 6]) ws (vs) := ⟨nf_in hl rfl, sgq_1527 (vc_Re_advance_34_5 (v_iv (n_v vs 2)) (w_fi ws (n_v vs 0) 8) (w_fi ws (n_v vs 0) 5) (w_fi ws (n_v vs 0) 6) (w_fi ws (n_v vs 0) 9) (w_ei ws (w_ar ws (n_v vs 0) 0)) (w_ei w1 (w_ar ws (n_v vs 0) 0)) (w_fi w1 (n_v vs 0) 9) (w_fi w1 (n_v vs 0) 8) (w_fi w1 (n_v vs 0) 6) (w_fi w1 (n_v vs 0) 5) k2 f23 fe_0_5_1 fe_0_6_1 fe_0_8_1 fe_0_9_1 hE_0_0_1 hK_0_0 kz_0_5 kz_0_6 kz_0_8 kz_0_9)⟩
  refine ⟨(fun _ h => (by cases h)), [], trivial, ?_, (fun _ h => (by cases h))⟩
  rw [List.append_nil]
  exact List.forall_mem_cons.mpr ⟨⟨show (20 : Nat) < 100 from by decide, nf0⟩, List.forall_mem_cons.mpr ⟨⟨show (20 : Nat) < 100 from by decide, nf1⟩, List.forall_mem_cons.mpr ⟨⟨show (20 : Nat) < 100 from by decide, nf2⟩, List.forall_mem_cons.mpr ⟨⟨show (20 : Nat) < 100 from by decide, nf3⟩, List.forall_mem_cons.mpr ⟨⟨show (20 : Nat) < 100 from by decide, nf4⟩, List.forall_mem_cons.mpr ⟨⟨show (20 : Nat) < 100 from by decide, nf5⟩, (fun _ h => (by cases h))⟩⟩⟩⟩⟩⟩
set_option maxHeartbeats 4000000 in
theorem vc_Re_advance_35_0 (x1 : Int) (x13 : Int) (kind_0 : Int) (begin_0 : Int) (end_0 : Int) (next_0 : Int) (number_0 : Int) (tape_0 : Int → Int) (tape_1 : Int → Int) (number_1 : Int) (begin_1 : Int) (next_1 : Int) (end_1 : Int) (k1 : (-2147483648) ≤ x1 ∧ x1 ≤ 1000000) (k13 : 2 ≤ x13 ∧ x13 ≤ 2) (g0 : x13 = kind_0) (fe_0_5_1 : end_0 = end_1) (fe_0_6_1 : next_0 = next_1) (fe_0_8_1 : begin_0 = begin_1) (fe_0_9_1 : number_0 = number_1) (hE_0_0_1 : ∀ j : Int, tape_0 j = tape_1 j) (hK_0_0 : ∀ j : Int, 0 ≤ j → j < 2000 → (-128) ≤ tape_0 j ∧ tape_0 j ≤ 127) (kz_0_5 : 0 ≤ end_0 ∧ end_0 ≤ 2000) (kz_0_6 : 0 ≤ next_0 ∧ next_0 ≤ 2000) (kz_0_7 : (-128) ≤ kind_0 ∧ kind_0 ≤ 127) (kz_0_8 : 0 ≤ begin_0 ∧ begin_0 ≤ 2000) (kz_0_9 : (-176) ≤ number_0 ∧ number_0 ≤ 1000000) : (1 * kind_0 + 0 ≤ 3) ∨ (1 * number_0 + ((-1) * x1 + 0) ≤ 0) := by
  subst fe_0_5_1
  subst fe_0_6_1
  subst fe_0_8_1
  subst fe_0_9_1
  have e_hE_0_0_1 := funext hE_0_0_1; subst e_hE_0_0_1
  first | with_reducible assumption | ((try and_intros) <;> first | with_reducible assumption | (clear hE_0_0_1 hK_0_0; omega)) | omega
set_option maxHeartbeats 4000000 in
theorem vc_Re_advance_35_1 (x1 : Int) (x13 : Int) (kind_0 : Int) (begin_0 : Int) (end_0 : Int) (next_0 : Int) (number_0 : Int) (tape_0 : Int → Int) (tape_1 : Int → Int) (number_1 : Int) (begin_1 : Int) (next_1 : Int) (end_1 : Int) (k1 : (-2147483648) ≤ x1 ∧ x1 ≤ 1000000) (k13 : 2 ≤ x13 ∧ x13 ≤ 2) (g0 : x13 = kind_0) (fe_0_5_1 : end_0 = end_1) (fe_0_6_1 : next_0 = next_1) (fe_0_8_1 : begin_0 = begin_1) (fe_0_9_1 : number_0 = number_1) (hE_0_0_1 : ∀ j : Int, tape_0 j = tape_1 j) (hK_0_0 : ∀ j : Int, 0 ≤ j → j < 2000 → (-128) ≤ tape_0 j ∧ tape_0 j ≤ 127) (kz_0_5 : 0 ≤ end_0 ∧ end_0 ≤ 2000) (kz_0_6 : 0 ≤ next_0 ∧ next_0 ≤ 2000) (kz_0_7 : (-128) ≤ kind_0 ∧ kind_0 ≤ 127) (kz_0_8 : 0 ≤ begin_0 ∧ begin_0 ≤ 2000) (kz_0_9 : (-176) ≤ number_0 ∧ number_0 ≤ 1000000) : (1 * kind_0 + 0 ≤ 3) ∨ ((-1) * number_0 + (1 * x1 + 0) ≤ 0) := by
  subst fe_0_5_1
  subst fe_0_6_1
  subst fe_0_8_1
  subst fe_0_9_1
  have e_hE_0_0_1 := funext hE_0_0_1; subst e_hE_0_0_1
  first | with_reducible assumption | ((try and_intros) <;> first | with_reducible assumption | (clear hE_0_0_1 hK_0_0; omega)) | omega
set_option maxHeartbeats 4000000 in
theorem vc_Re_advance_35_2 (x5 : Int) (x10 : Int) (x11 : Int) (x13 : Int) (kind_0 : Int) (begin_0 : Int) (end_0 : Int) (next_0 : Int) (number_0 : Int) (tape_0 : Int → Int) (tape_1 : Int → Int) (number_1 : Int) (begin_1 : Int) (next_1 : Int) (end_1 : Int) (k5 : 0 ≤ x5 ∧ x5 ≤ 1999) (k10 : 0 ≤ x10 ∧ x10 ≤ 2000) (k11 : (-2000) ≤ x11 ∧ x11 ≤ 8) (k13 : 2 ≤ x13 ∧ x13 ≤ 2) (g0 : x13 = kind_0) (g1 : x10 = begin_0) (g4 : x5 = next_0) (f8 : 1 * begin_0 + ((-1) * next_0 + 0) ≤ 0) (f14 : x11 = x5 - x10) (fe_0_5_1 : end_0 = end_1) (fe_0_6_1 : next_0 = next_1) (fe_0_8_1 : begin_0 = begin_1) (fe_0_9_1 : number_0 = number_1) (hE_0_0_1 : ∀ j : Int, tape_0 j = tape_1 j) (hK_0_0 : ∀ j : Int, 0 ≤ j → j < 2000 → (-128) ≤ tape_0 j ∧ tape_0 j ≤ 127) (kz_0_5 : 0 ≤ end_0 ∧ end_0 ≤ 2000) (kz_0_6 : 0 ≤ next_0 ∧ next_0 ≤ 2000) (kz_0_7 : (-128) ≤ kind_0 ∧ kind_0 ≤ 127) (kz_0_8 : 0 ≤ begin_0 ∧ begin_0 ≤ 2000) (kz_0_9 : (-176) ≤ number_0 ∧ number_0 ≤ 1000000) : ((-1) * kind_0 + 0 ≤ (-3)) ∨ (1 * next_0 + ((-1) * begin_0 + (2000 * kind_0 + 0)) ≤ 4008) := by
  subst fe_0_5_1
  subst fe_0_6_1
  subst fe_0_8_1
  subst fe_0_9_1
  have e_hE_0_0_1 := funext hE_0_0_1; subst e_hE_0_0_1
  first | with_reducible assumption | ((try and_intros) <;> first | with_reducible assumption | (clear hE_0_0_1 hK_0_0; omega)) | omega
set_option maxHeartbeats 4000000 in
theorem vc_Re_advance_35_3 (begin_0 : Int) (end_0 : Int) (next_0 : Int) (number_0 : Int) (tape_0 : Int → Int) (tape_1 : Int → Int) (number_1 : Int) (begin_1 : Int) (next_1 : Int) (end_1 : Int) (f21 : 1 * begin_1 + ((-1) * next_1 + 0) ≤ 0) (fe_0_5_1 : end_0 = end_1) (fe_0_6_1 : next_0 = next_1) (fe_0_8_1 : begin_0 = begin_1) (fe_0_9_1 : number_0 = number_1) (hE_0_0_1 : ∀ j : Int, tape_0 j = tape_1 j) (hK_0_0 : ∀ j : Int, 0 ≤ j → j < 2000 → (-128) ≤ tape_0 j ∧ tape_0 j ≤ 127) (kz_0_5 : 0 ≤ end_0 ∧ end_0 ≤ 2000) (kz_0_6 : 0 ≤ next_0 ∧ next_0 ≤ 2000) (kz_0_8 : 0 ≤ begin_0 ∧ begin_0 ≤ 2000) (kz_0_9 : (-176) ≤ number_0 ∧ number_0 ≤ 1000000) : 1 * begin_0 + ((-1) * next_0 + 0) ≤ 0 := by
  subst fe_0_5_1
  subst fe_0_6_1
  subst fe_0_8_1
  subst fe_0_9_1
  have e_hE_0_0_1 := funext hE_0_0_1; subst e_hE_0_0_1
  first | with_reducible assumption | ((try and_intros) <;> first | with_reducible assumption | (clear hE_0_0_1 hK_0_0; omega)) | omega
set_option maxHeartbeats 4000000 in
theorem vc_Re_advance_35_4 (x2 : Int) (x5 : Int) (x6 : Int) (x8 : Int) (x9 : Int) (x10 : Int) (x11 : Int) (x13 : Int) (kind_0 : Int) (begin_0 : Int) (end_0 : Int) (next_0 : Int) (number_0 : Int) (tape_0 : Int → Int) (tape_1 : Int → Int) (number_1 : Int) (begin_1 : Int) (next_1 : Int) (end_1 : Int) (k2 : 0 ≤ x2 ∧ x2 ≤ 2000) (k5 : 0 ≤ x5 ∧ x5 ≤ 1999) (k6 : 1 ≤ x6 ∧ x6 ≤ 2000) (k8 : 91 ≤ x8 ∧ x8 ≤ 96) (k9 : 0 ≤ x9 ∧ x9 ≤ 0) (k10 : 0 ≤ x10 ∧ x10 ≤ 2000) (k11 : (-2000) ≤ x11 ∧ x11 ≤ 8) (k13 : 2 ≤ x13 ∧ x13 ≤ 2) (g0 : x13 = kind_0) (g1 : x10 = begin_0) (g3 : x6 = end_0) (g4 : x5 = next_0) (f8 : 1 * begin_0 + ((-1) * next_0 + 0) ≤ 0) (f14 : x11 = x5 - x10) (f15 : x9 = 0) (f16 : CNBy (x8) (x9)) (h17 : x8 = tape_1 (x5)) (f22 : CXL (end_1) (next_1) (begin_1) (tape_1) (x2)) (fe_0_5_1 : end_0 = end_1) (fe_0_6_1 : next_0 = next_1) (fe_0_8_1 : begin_0 = begin_1) (fe_0_9_1 : number_0 = number_1) (hE_0_0_1 : ∀ j : Int, tape_0 j = tape_1 j) (hK_0_0 : ∀ j : Int, 0 ≤ j → j < 2000 → (-128) ≤ tape_0 j ∧ tape_0 j ≤ 127) (kz_0_5 : 0 ≤ end_0 ∧ end_0 ≤ 2000) (kz_0_6 : 0 ≤ next_0 ∧ next_0 ≤ 2000) (kz_0_7 : (-128) ≤ kind_0 ∧ kind_0 ≤ 127) (kz_0_8 : 0 ≤ begin_0 ∧ begin_0 ≤ 2000) (kz_0_9 : (-176) ≤ number_0 ∧ number_0 ≤ 1000000) : TKC (end_0) (next_0) (kind_0) (begin_0) (number_0) (tape_0) (x2) := by
  subst fe_0_5_1
  subst fe_0_6_1
  subst fe_0_8_1
  subst fe_0_9_1
  have e_hE_0_0_1 := funext hE_0_0_1; subst e_hE_0_0_1
  first | subst g0 | skip
  first | subst g1 | skip
  first | subst g3 | skip
  first | subst g4 | skip
  first
    | exact cxl_e (by assumption) ‹CXL _ _ _ _ _› (fun q => by omega) (by omega)
    | exact cxl_e (by assumption) ‹CXL _ _ _ _ _› (fun q => cnb_f ‹CNBy _ _› (by omega) (by omega)) (by omega)
    | exact cxd_e (by assumption) ‹CXD _ _ _ _ _ _› (fun q => by unfold cIG; omega) (by omega)
    | exact cxs_e (by assumption) (cx_1 (by assumption) ‹CX0 _ _ _ _› (fun q => by omega) (by omega)) (by omega) rfl (by unfold cIL; omega) (by unfold cIG; omega) (by omega) (Or.inl ⟨csg_t ‹CSG _ _› (by omega) (by omega), by omega⟩)
    | exact cxs_e (by assumption) (cx_1 (by assumption) ‹CX0 _ _ _ _› (fun q => by omega) (by omega)) (by omega) rfl (by unfold cIL; omega) (by unfold cIG; omega) (by omega) (Or.inr ⟨csg_f ‹CSG _ _› (by omega) (by omega), by omega⟩)
set_option maxHeartbeats 4000000 in
theorem vc_Re_advance_35_5 (x2 : Int) (begin_0 : Int) (end_0 : Int) (next_0 : Int) (number_0 : Int) (tape_0 : Int → Int) (tape_1 : Int → Int) (number_1 : Int) (begin_1 : Int) (next_1 : Int) (end_1 : Int) (k2 : 0 ≤ x2 ∧ x2 ≤ 2000) (f23 : 1 * x2 + ((-1) * next_1 + 0) ≤ 0) (fe_0_5_1 : end_0 = end_1) (fe_0_6_1 : next_0 = next_1) (fe_0_8_1 : begin_0 = begin_1) (fe_0_9_1 : number_0 = number_1) (hE_0_0_1 : ∀ j : Int, tape_0 j = tape_1 j) (hK_0_0 : ∀ j : Int, 0 ≤ j → j < 2000 → (-128) ≤ tape_0 j ∧ tape_0 j ≤ 127) (kz_0_5 : 0 ≤ end_0 ∧ end_0 ≤ 2000) (kz_0_6 : 0 ≤ next_0 ∧ next_0 ≤ 2000) (kz_0_8 : 0 ≤ begin_0 ∧ begin_0 ≤ 2000) (kz_0_9 : (-176) ≤ number_0 ∧ number_0 ≤ 1000000) : 1 * x2 + ((-1) * next_0 + 0) ≤ 0 := by
  subst fe_0_5_1
  subst fe_0_6_1
  subst fe_0_8_1
  subst fe_0_9_1
  have e_hE_0_0_1 := funext hE_0_0_1; subst e_hE_0_0_1
  first | with_reducible assumption | ((try and_intros) <;> first | with_reducible assumption | (clear hE_0_0_1 hK_0_0; omega)) | omega
def o_Re_advance_35 : or_T := (290, 14, [(0, (2, 0, 0, [8])), (1, (0, -2147483648, 1000000, [])), (2, (0, 0, 2000, [])), (3, (2, 0, 0, [8])), (5, (0, 0, 1999, [])), (6, (0, 1, 2000, [])), (7, (2, 0, 0, [109])), (8, (0, 91, 96, [])), (9, (0, 0, 0, [])), (10, (0, 0, 2000, [])), (11, (0, -2000, 8, [])), (12, (0, 8, 8, [])), (13, (0, 2, 2, []))], [(9, [13, 3], [7]), (9, [10, 3], [8]), (9, [7, 3], [0]), (9, [6, 3], [5]), (9, [5, 3], [6]), (20, [8, 9], [61, 0, 1099]), (20, [3, 1], [30, 0, 1, 1, 9, -1, 0, 0]), (20, [3, 1], [30, 0, -1, 1, 9, 1, 0, 0]), (20, [3, 3], [30, 0, 1, 1, 8, -1, 1, 6]), (20, [3, 2], [60, 3, 1, 1076, 5, 6, 8, 0]), (20, [2, 3], [30, 0, 1, 0, 0, -1, 1, 6]), (24, [0, 3], []), (101, [3, 13], [7]), (7, [11, 12], [5]), (2, [11, 5, 10], []), (8, [9], [0]), (20, [8, 9], [61, 0, 1099]), (10, [8, 7, 5], []), (7, [5, 6], [2]), (20, [3, 1], [30, 0, 1, 1, 9, -1, 0, 0]), (20, [3, 1], [30, 0, -1, 1, 9, 1, 0, 0]), (20, [3, 3], [30, 0, 1, 1, 8, -1, 1, 6]), (20, [3, 2], [60, 3, 1, 1076, 5, 6, 8, 0]), (20, [2, 3], [30, 0, 1, 0, 0, -1, 1, 6])], [], [], [(20, [0, 0, 1], [31, 1, 3, 1, 1, 7, 0, 1, 1, 9, -1, 0, 0]), (20, [0, 0, 1], [31, 1, 3, 1, 1, 7, 0, -1, 1, 9, 1, 0, 0]), (20, [0, 0, 0, 0], [31, 1, -3, -1, 1, 7, 4008, 1, 1, 6, -1, 1, 8, 2000, 1, 7]), (20, [0, 0], [30, 0, 1, 1, 8, -1, 1, 6]), (20, [0, 2], [60, 5, 1, 1072, 5, 6, 7, 8, 9, 0]), (20, [2, 0], [30, 0, 1, 0, 0, -1, 1, 6])], [], [(11, 5, -2000, 0), (11, 6, -4294967296, -1), (5, 6, -4294967296, -1)])
theorem oo_Re_advance_35 {kA : Nat → ClassId} : or_ok PRD kA GG o_Re_advance_35 := by
  refine or_mk fun A ta ws vs hD hth hl => ?_
  intro t0 r0 t1 k1 t2 k2 t3 r3 t5 k5 t6 k6 t7 r7 t8 k8 t9 k9 t10 k10 t11 k11 t12 k12 t13 k13 d0 d1 d2 f0 f1 f2 f3 f4 f5 f6 f7 f8 f9 f10 f11 ta1 w1 le1 s1 f13 f14 f15 f16 f17 f18 f19 f20 f21 f22 f23
  replace f0 := shm_198 f0
  replace f1 := shm_293 f1
  replace f2 := shm_163 f2
  replace f3 := shm_110 f3
  replace f4 := shm_111 f4
  replace f8 := shm_1531 f8
  replace f11 := shm_5 f11
  have s1 : (∀ b j, w_el ws b j = w_el w1 b j) ∧ ∀ b j, w_fd ws b j = if b = v_ad (n_v vs 3) ∧ j = 7 then n_v vs 13 else w_fd w1 b j := s1.2
  replace f17 := shm_107 f17
  replace f21 := shm_1531 f21
  replace f22 := shm_1534 f22
  replace f23 := shm_1527 f23
  have q3 : n_v vs 3 = n_v vs 0 := f11.symm
  simp only [q3] at f0 f1 f2 f3 f4 f8
  rw [q3] at s1
  simp only [q3] at f21 f22 f23
  have ar_0_0_1 : w_ar w1 (n_v vs 0) 0 = w_ar ws (n_v vs 0) 0 := by show v_ad (w_fd w1 _ _) = v_ad (w_fd ws _ _); rw [s1.2, if_neg (fun e => absurd e.2 (by decide))]
  have cr_0_0 := fdq_95 hD hth r0
  have ad_7 : v_ad (n_v vs 7) = w_ar ws (n_v vs 0) 0 := congrArg v_ad f2
  have g0 : v_iv (n_v vs 13) = w_fi ws (n_v vs 0) 7 := congrArg v_iv f0
  have g1 : v_iv (n_v vs 10) = w_fi ws (n_v vs 0) 8 := congrArg v_iv f1
  have g3 : v_iv (n_v vs 6) = w_fi ws (n_v vs 0) 5 := congrArg v_iv f3
  have g4 : v_iv (n_v vs 5) = w_fi ws (n_v vs 0) 6 := congrArg v_iv f4
  simp only [ad_7] at f17
  have h17 : v_iv (n_v vs 8) = w_ei w1 (w_ar ws (n_v vs 0) 0) (v_iv (n_v vs 5)) := f17
  simp only [ar_0_0_1] at f22
  have fe_0_5_1 : w_fi ws (n_v vs 0) 5 = w_fi w1 (n_v vs 0) 5 := by show v_iv (w_fd _ _ _) = v_iv (w_fd _ _ _); rw [s1.2, if_neg (fun e => absurd e.2 (by decide))]
  have fe_0_6_1 : w_fi ws (n_v vs 0) 6 = w_fi w1 (n_v vs 0) 6 := by show v_iv (w_fd _ _ _) = v_iv (w_fd _ _ _); rw [s1.2, if_neg (fun e => absurd e.2 (by decide))]
  have fe_0_8_1 : w_fi ws (n_v vs 0) 8 = w_fi w1 (n_v vs 0) 8 := by show v_iv (w_fd _ _ _) = v_iv (w_fd _ _ _); rw [s1.2, if_neg (fun e => absurd e.2 (by decide))]
  have fe_0_9_1 : w_fi ws (n_v vs 0) 9 = w_fi w1 (n_v vs 0) 9 := by show v_iv (w_fd _ _ _) = v_iv (w_fd _ _ _); rw [s1.2, if_neg (fun e => absurd e.2 (by decide))]
  have hE_0_0_1 : ∀ j : Int, w_ei ws (w_ar ws (n_v vs 0) 0) j = w_ei w1 (w_ar ws (n_v vs 0) 0) j := fun j => s1.1 _ _
  have hK_0_0 := elq_33 hD hth cr_0_0
  have kz_0_5 := fdq_207 hD hth r0
  have kz_0_6 := fdq_208 hD hth r0
  have kz_0_7 := fdq_297 hD hth r0
  have kz_0_8 := fdq_99 hD hth r0
  have kz_0_9 := fdq_296 hD hth r0
  have nf0 : fc_1 PRD (20, [0, 0, 1], [31, 1, 3, 1, 1, 7, 0, 1, 1, 9, -1, 0, 0]) ws (vs) := ⟨nf_in hl rfl, sgq_1528 (vc_Re_advance_35_0 (v_iv (n_v vs 1)) (v_iv (n_v vs 13)) (w_fi ws (n_v vs 0) 7) (w_fi ws (n_v vs 0) 8) (w_fi ws (n_v vs 0) 5) (w_fi ws (n_v vs 0) 6) (w_fi ws (n_v vs 0) 9) (w_ei ws (w_ar ws (n_v vs 0) 0)) (w_ei w1 (w_ar ws (n_v vs 0) 0)) (w_fi w1 (n_v vs 0) 9) (w_fi w1 (n_v vs 0) 8) (w_fi w1 (n_v vs 0) 6) (w_fi w1 (n_v vs 0) 5) k1 k13 g0 fe_0_5_1 fe_0_6_1 fe_0_8_1 fe_0_9_1 hE_0_0_1 hK_0_0 kz_0_5 kz_0_6 kz_0_7 kz_0_8 kz_0_9)⟩
  have nf1 : fc_1 PRD (20, [0, 0, 1], [31, 1, 3, 1, 1, 7, 0, -1, 1, 9, 1, 0, 0]) ws (vs) := ⟨nf_in hl rfl, sgq_1529 (vc_Re_advance_35_1 (v_iv (n_v vs 1)) (v_iv (n_v vs 13)) (w_fi ws (n_v vs 0) 7) (w_fi ws (n_v vs 0) 8) (w_fi ws (n_v vs 0) 5) (w_fi ws (n_v vs 0) 6) (w_fi ws (n_v vs 0) 9) (w_ei ws (w_ar ws (n_v vs 0) 0)) (w_ei w1 (w_ar ws (n_v vs 0) 0)) (w_fi w1 (n_v vs 0) 9) (w_fi w1 (n_v vs 0) 8) (w_fi w1 (n_v vs 0) 6) (w_fi w1 (n_v vs 0) 5) k1 k13 g0 fe_0_5_1 fe_0_6_1 fe_0_8_1 fe_0_9_1 hE_0_0_1 hK_0_0 kz_0_5 kz_0_6 kz_0_7 kz_0_8 kz_0_9)⟩
  have nf2 : fc_1 PRD (20, [0, 0, 0, 0], [31, 1, -3, -1, 1, 7, 4008, 1, 1, 6, -1, 1, 8, 2000, 1, 7]) ws (vs) := ⟨nf_in hl rfl, sgq_1530 (vc_Re_advance_35_2 (v_iv (n_v vs 5)) (v_iv (n_v vs 10)) (v_iv (n_v vs 11)) (v_iv (n_v vs 13)) (w_fi ws (n_v vs 0) 7) (w_fi ws (n_v vs 0) 8) (w_fi ws (n_v vs 0) 5) (w_fi ws (n_v vs 0) 6) (w_fi ws (n_v vs 0) 9) (w_ei ws (w_ar ws (n_v vs 0) 0)) (w_ei w1 (w_ar ws (n_v vs 0) 0)) (w_fi w1 (n_v vs 0) 9) (w_fi w1 (n_v vs 0) 8) (w_fi w1 (n_v vs 0) 6) (w_fi w1 (n_v vs 0) 5) k5 k10 k11 k13 g0 g1 g4 f8 (shm_14 f14) fe_0_5_1 fe_0_6_1 fe_0_8_1 fe_0_9_1 hE_0_0_1 hK_0_0 kz_0_5 kz_0_6 kz_0_7 kz_0_8 kz_0_9)⟩
  have nf3 : fc_1 PRD (20, [0, 0], [30, 0, 1, 1, 8, -1, 1, 6]) ws (vs) := ⟨nf_in hl rfl, sgq_1531 (vc_Re_advance_35_3 (w_fi ws (n_v vs 0) 8) (w_fi ws (n_v vs 0) 5) (w_fi ws (n_v vs 0) 6) (w_fi ws (n_v vs 0) 9) (w_ei ws (w_ar ws (n_v vs 0) 0)) (w_ei w1 (w_ar ws (n_v vs 0) 0)) (w_fi w1 (n_v vs 0) 9) (w_fi w1 (n_v vs 0) 8) (w_fi w1 (n_v vs 0) 6) (w_fi w1 (n_v vs 0) 5) f21 fe_0_5_1 fe_0_6_1 fe_0_8_1 fe_0_9_1 hE_0_0_1 hK_0_0 kz_0_5 kz_0_6 kz_0_8 kz_0_9)⟩
  have nf4 : fc_1 PRD (20, [0, 2], [60, 5, 1, 1072, 5, 6, 7, 8, 9, 0]) ws (vs) := ⟨nf_in hl rfl, sgq_1532 (vc_Re_advance_35_4 (v_iv (n_v vs 2)) (v_iv (n_v vs 5)) (v_iv (n_v vs 6)) (v_iv (n_v vs 8)) (v_iv (n_v vs 9)) (v_iv (n_v vs 10)) (v_iv (n_v vs 11)) (v_iv (n_v vs 13)) (w_fi ws (n_v vs 0) 7) (w_fi ws (n_v vs 0) 8) (w_fi ws (n_v vs 0) 5) (w_fi ws (n_v vs 0) 6) (w_fi ws (n_v vs 0) 9) (w_ei ws (w_ar ws (n_v vs 0) 0)) (w_ei w1 (w_ar ws (n_v vs 0) 0)) (w_fi w1 (n_v vs 0) 9) (w_fi w1 (n_v vs 0) 8) (w_fi w1 (n_v vs 0) 6) (w_fi w1 (n_v vs 0) 5) k2 k5 k6 k8 k9 k10 k11 k13 g0 g1 g3 g4 f8 (shm_14 f14) (shm_192 f15) (shm_1116 f16) h17 f22 fe_0_5_1 fe_0_6_1 fe_0_8_1 fe_0_9_1 hE_0_0_1 hK_0_0 kz_0_5 kz_0_6 kz_0_7 kz_0_8 kz_0_9)⟩
  have nf5 : fc_1 PRD (20, [2, 0], [30, 0, 1, 0, 0, -1, 1, 6]) ws (vs) := ⟨nf_in hl rfl, sgq_1527 (vc_Re_advance_35_5 (v_iv (n_v vs 2)) (w_fi ws (n_v vs 0) 8) (w_fi ws (n_v vs 0) 5) (w_fi ws (n_v vs 0) 6) (w_fi ws (n_v vs 0) 9) (w_ei ws (w_ar ws (n_v vs 0) 0)) (w_ei w1 (w_ar ws (n_v vs 0) 0)) (w_fi w1 (n_v vs 0) 9) (w_fi w1 (n_v vs 0) 8) (w_fi w1 (n_v vs 0) 6) (w_fi w1 (n_v vs 0) 5) k2 f23 fe_0_5_1 fe_0_6_1 fe_0_8_1 fe_0_9_1 hE_0_0_1 hK_0_0 kz_0_5 kz_0_6 kz_0_8 kz_0_9)⟩
  refine ⟨(fun _ h => (by cases h)), [], trivial, ?_, (fun _ h => (by cases h))⟩
  rw [List.append_nil]
  exact List.forall_mem_cons.mpr ⟨⟨show (20 : Nat) < 100 from by decide, nf0⟩, List.forall_mem_cons.mpr ⟨⟨show (20 : Nat) < 100 from by decide, nf1⟩, List.forall_mem_cons.mpr ⟨⟨show (20 : Nat) < 100 from by decide, nf2⟩, List.forall_mem_cons.mpr ⟨⟨show (20 : Nat) < 100 from by decide, nf3⟩, List.forall_mem_cons.mpr ⟨⟨show (20 : Nat) < 100 from by decide, nf4⟩, List.forall_mem_cons.mpr ⟨⟨show (20 : Nat) < 100 from by decide, nf5⟩, (fun _ h => (by cases h))⟩⟩⟩⟩⟩⟩
set_option maxHeartbeats 4000000 in
theorem vc_Re_advance_36_0 (x5 : Int) (x11 : Int) (next_0 : Int) (end_0 : Int) (number_0 : Int) (next_1 : Int) (tape_1 : Int → Int) (number_1 : Int) (begin_1 : Int) (end_1 : Int) (begin_0 : Int) (tape_0 : Int → Int) (k5 : 0 ≤ x5 ∧ x5 ≤ 1999) (k11 : 1 ≤ x11 ∧ x11 ≤ 2000) (d0 : x5 + 1 ≤ x11 ∧ x11 ≤ x5 + 1) (g0 : x11 = next_0) (g9 : x5 = next_1) (f16 : 1 * begin_1 + ((-1) * next_1 + 0) ≤ 0) (fe_0_5_1 : end_0 = end_1) (fe_0_8_1 : begin_0 = begin_1) (fe_0_9_1 : number_0 = number_1) (hE_0_0_1 : ∀ j : Int, tape_0 j = tape_1 j) (hK_0_0 : ∀ j : Int, 0 ≤ j → j < 2000 → (-128) ≤ tape_0 j ∧ tape_0 j ≤ 127) (kz_0_5 : 0 ≤ end_0 ∧ end_0 ≤ 2000) (kz_0_6 : 0 ≤ next_0 ∧ next_0 ≤ 2000) (kz_0_8 : 0 ≤ begin_0 ∧ begin_0 ≤ 2000) (kz_0_9 : (-176) ≤ number_0 ∧ number_0 ≤ 1000000) : 1 * begin_0 + ((-1) * next_0 + 0) ≤ 0 := by
  subst fe_0_5_1
  subst fe_0_8_1
  subst fe_0_9_1
  have e_hE_0_0_1 := funext hE_0_0_1; subst e_hE_0_0_1
  first | with_reducible assumption | ((try and_intros) <;> first | with_reducible assumption | (clear hE_0_0_1 hK_0_0; omega)) | omega
set_option maxHeartbeats 4000000 in
theorem vc_Re_advance_36_1 (x2 : Int) (x5 : Int) (x6 : Int) (x8 : Int) (x11 : Int) (next_0 : Int) (end_0 : Int) (number_0 : Int) (next_1 : Int) (tape_1 : Int → Int) (number_1 : Int) (begin_1 : Int) (end_1 : Int) (begin_0 : Int) (tape_0 : Int → Int) (k2 : 0 ≤ x2 ∧ x2 ≤ 2000) (k5 : 0 ≤ x5 ∧ x5 ≤ 1999) (k6 : 1 ≤ x6 ∧ x6 ≤ 2000) (k8 : 95 ≤ x8 ∧ x8 ≤ 95) (k11 : 1 ≤ x11 ∧ x11 ≤ 2000) (d0 : x5 + 1 ≤ x11 ∧ x11 ≤ x5 + 1) (g0 : x11 = next_0) (g2 : x6 = end_0) (g9 : x5 = next_1) (h12 : x8 = tape_1 (x5)) (f13 : x5 < x6) (f17 : CXL (end_1) (next_1) (begin_1) (tape_1) (x2)) (fe_0_5_1 : end_0 = end_1) (fe_0_8_1 : begin_0 = begin_1) (fe_0_9_1 : number_0 = number_1) (hE_0_0_1 : ∀ j : Int, tape_0 j = tape_1 j) (hK_0_0 : ∀ j : Int, 0 ≤ j → j < 2000 → (-128) ≤ tape_0 j ∧ tape_0 j ≤ 127) (kz_0_5 : 0 ≤ end_0 ∧ end_0 ≤ 2000) (kz_0_6 : 0 ≤ next_0 ∧ next_0 ≤ 2000) (kz_0_8 : 0 ≤ begin_0 ∧ begin_0 ≤ 2000) (kz_0_9 : (-176) ≤ number_0 ∧ number_0 ≤ 1000000) : CXL (end_0) (next_0) (begin_0) (tape_0) (x2) := by
  subst fe_0_5_1
  subst fe_0_8_1
  subst fe_0_9_1
  have e_hE_0_0_1 := funext hE_0_0_1; subst e_hE_0_0_1
  first | subst g0 | skip
  first | subst g2 | skip
  first | subst g9 | skip
  first
    | exact cxl_s (by assumption) ‹CXL _ _ _ _ _› (by omega) (by unfold cIL cIG; omega) (by omega)
    | exact cxl_0 (by assumption) (cx_1 (by assumption) ‹CX0 _ _ _ _› (fun q => by omega) (by omega)) (by omega) (by unfold cIL; omega)
set_option maxHeartbeats 4000000 in
theorem vc_Re_advance_36_2 (x2 : Int) (x5 : Int) (x11 : Int) (next_0 : Int) (end_0 : Int) (number_0 : Int) (next_1 : Int) (tape_1 : Int → Int) (number_1 : Int) (begin_1 : Int) (end_1 : Int) (begin_0 : Int) (tape_0 : Int → Int) (k2 : 0 ≤ x2 ∧ x2 ≤ 2000) (k5 : 0 ≤ x5 ∧ x5 ≤ 1999) (k11 : 1 ≤ x11 ∧ x11 ≤ 2000) (d0 : x5 + 1 ≤ x11 ∧ x11 ≤ x5 + 1) (g0 : x11 = next_0) (g9 : x5 = next_1) (f18 : 1 * x2 + ((-1) * next_1 + 0) ≤ 0) (fe_0_5_1 : end_0 = end_1) (fe_0_8_1 : begin_0 = begin_1) (fe_0_9_1 : number_0 = number_1) (hE_0_0_1 : ∀ j : Int, tape_0 j = tape_1 j) (hK_0_0 : ∀ j : Int, 0 ≤ j → j < 2000 → (-128) ≤ tape_0 j ∧ tape_0 j ≤ 127) (kz_0_5 : 0 ≤ end_0 ∧ end_0 ≤ 2000) (kz_0_6 : 0 ≤ next_0 ∧ next_0 ≤ 2000) (kz_0_8 : 0 ≤ begin_0 ∧ begin_0 ≤ 2000) (kz_0_9 : (-176) ≤ number_0 ∧ number_0 ≤ 1000000) : 1 * x2 + ((-1) * next_0 + 0) ≤ 0 := by
  subst fe_0_5_1
  subst fe_0_8_1
  subst fe_0_9_1
  have e_hE_0_0_1 := funext hE_0_0_1; subst e_hE_0_0_1
  first | with_reducible assumption | ((try and_intros) <;> first | with_reducible assumption | (clear hE_0_0_1 hK_0_0; omega)) | omega
def o_Re_advance_36 : or_T := (94, 12, [(0, (2, 0, 0, [8])), (1, (0, -2147483648, 1000000, [])), (2, (0, 0, 2000, [])), (3, (2, 0, 0, [8])), (5, (0, 0, 1999, [])), (6, (0, 1, 2000, [])), (7, (2, 0, 0, [109])), (8, (0, 95, 95, [])), (9, (0, 1, 1, [])), (10, (0, 1, 1, [])), (11, (0, 1, 2000, []))], [(9, [11, 3], [6]), (9, [7, 3], [0]), (9, [6, 3], [5]), (20, [8, 9], [61, 0, 1099]), (20, [3, 1], [30, 0, 1, 1, 9, -1, 0, 0]), (20, [3, 1], [30, 0, -1, 1, 9, 1, 0, 0]), (24, [0, 3], []), (101, [3, 11], [6]), (1, [11, 5, 10], []), (9, [5, 3], [6]), (8, [9], [1]), (20, [8, 9], [61, 0, 1099]), (10, [8, 7, 5], []), (7, [5, 6], [2]), (20, [3, 1], [30, 0, 1, 1, 9, -1, 0, 0]), (20, [3, 1], [30, 0, -1, 1, 9, 1, 0, 0]), (20, [3, 3], [30, 0, 1, 1, 8, -1, 1, 6]), (20, [3, 2], [60, 3, 1, 1076, 5, 6, 8, 0]), (20, [2, 3], [30, 0, 1, 0, 0, -1, 1, 6])], [], [], [(20, [3, 3], [30, 0, 1, 1, 8, -1, 1, 6]), (20, [3, 2], [60, 3, 1, 1076, 5, 6, 8, 0]), (20, [2, 3], [30, 0, 1, 0, 0, -1, 1, 6])], [], [(11, 5, 1, 1), (11, 6, -4294967296, 0), (5, 6, -4294967296, -1)])
theorem oo_Re_advance_36 {kA : Nat → ClassId} : or_ok PRD kA GG o_Re_advance_36 := by
  refine or_mk fun A ta ws vs hD hth hl => ?_
  intro t0 r0 t1 k1 t2 k2 t3 r3 t5 k5 t6 k6 t7 r7 t8 k8 t9 k9 t10 k10 t11 k11 d0 d1 d2 f0 f1 f2 f3 f4 f5 f6 ta1 w1 le1 s1 f8 f9 f10 f11 f12 f13 f14 f15 f16 f17 f18
  replace f0 := shm_111 f0
  replace f1 := shm_163 f1
  replace f2 := shm_110 f2
  replace f6 := shm_5 f6
  have s1 : (∀ b j, w_el ws b j = w_el w1 b j) ∧ ∀ b j, w_fd ws b j = if b = v_ad (n_v vs 3) ∧ j = 6 then n_v vs 11 else w_fd w1 b j := s1.2
  replace f9 := shm_111 f9
  replace f12 := shm_107 f12
  replace f13 := shm_6 f13
  replace f16 := shm_1531 f16
  replace f17 := shm_1534 f17
  replace f18 := shm_1527 f18
  have q3 : n_v vs 3 = n_v vs 0 := f6.symm
  simp only [q3] at f0 f1 f2
  rw [q3] at s1
  simp only [q3] at f9 f16 f17 f18
  have ar_0_0_1 : w_ar w1 (n_v vs 0) 0 = w_ar ws (n_v vs 0) 0 := by show v_ad (w_fd w1 _ _) = v_ad (w_fd ws _ _); rw [s1.2, if_neg (fun e => absurd e.2 (by decide))]
  have cr_0_0 := fdq_95 hD hth r0
  have ad_7 : v_ad (n_v vs 7) = w_ar ws (n_v vs 0) 0 := congrArg v_ad f1
  have g0 : v_iv (n_v vs 11) = w_fi ws (n_v vs 0) 6 := congrArg v_iv f0
  have g2 : v_iv (n_v vs 6) = w_fi ws (n_v vs 0) 5 := congrArg v_iv f2
  have g9 : v_iv (n_v vs 5) = w_fi w1 (n_v vs 0) 6 := congrArg v_iv f9
  simp only [ad_7] at f12
  have h12 : v_iv (n_v vs 8) = w_ei w1 (w_ar ws (n_v vs 0) 0) (v_iv (n_v vs 5)) := f12
  simp only [ar_0_0_1] at f17
  have fe_0_5_1 : w_fi ws (n_v vs 0) 5 = w_fi w1 (n_v vs 0) 5 := by show v_iv (w_fd _ _ _) = v_iv (w_fd _ _ _); rw [s1.2, if_neg (fun e => absurd e.2 (by decide))]
  have fe_0_8_1 : w_fi ws (n_v vs 0) 8 = w_fi w1 (n_v vs 0) 8 := by show v_iv (w_fd _ _ _) = v_iv (w_fd _ _ _); rw [s1.2, if_neg (fun e => absurd e.2 (by decide))]
  have fe_0_9_1 : w_fi ws (n_v vs 0) 9 = w_fi w1 (n_v vs 0) 9 := by show v_iv (w_fd _ _ _) = v_iv (w_fd _ _ _); rw [s1.2, if_neg (fun e => absurd e.2 (by decide))]
  have hE_0_0_1 : ∀ j : Int, w_ei ws (w_ar ws (n_v vs 0) 0) j = w_ei w1 (w_ar ws (n_v vs 0) 0) j := fun j => s1.1 _ _
  have hK_0_0 := elq_33 hD hth cr_0_0
  have kz_0_5 := fdq_207 hD hth r0
  have kz_0_6 := fdq_208 hD hth r0
  have kz_0_8 := fdq_99 hD hth r0
  have kz_0_9 := fdq_296 hD hth r0
  have nf0 : fc_1 PRD (20, [3, 3], [30, 0, 1, 1, 8, -1, 1, 6]) ws (vs) := by
    refine ⟨nf_in hl rfl, sgq_1531 ?_⟩
    · show 1 * w_fi ws (n_v vs 3) 8 + ((-1) * w_fi ws (n_v vs 3) 6 + 0) ≤ 0
      rw [q3]
      exact vc_Re_advance_36_0 (v_iv (n_v vs 5)) (v_iv (n_v vs 11)) (w_fi ws (n_v vs 0) 6) (w_fi ws (n_v vs 0) 5) (w_fi ws (n_v vs 0) 9) (w_fi w1 (n_v vs 0) 6) (w_ei w1 (w_ar ws (n_v vs 0) 0)) (w_fi w1 (n_v vs 0) 9) (w_fi w1 (n_v vs 0) 8) (w_fi w1 (n_v vs 0) 5) (w_fi ws (n_v vs 0) 8) (w_ei ws (w_ar ws (n_v vs 0) 0)) k5 k11 d0 g0 g9 f16 fe_0_5_1 fe_0_8_1 fe_0_9_1 hE_0_0_1 hK_0_0 kz_0_5 kz_0_6 kz_0_8 kz_0_9
  have nf1 : fc_1 PRD (20, [3, 2], [60, 3, 1, 1076, 5, 6, 8, 0]) ws (vs) := by
    refine ⟨nf_in hl rfl, sgq_1534 ?_⟩
    · show CXL (w_fi ws (n_v vs 3) 5) (w_fi ws (n_v vs 3) 6) (w_fi ws (n_v vs 3) 8) (w_ei ws (w_ar ws (n_v vs 3) 0)) (v_iv (n_v vs 2))
      rw [q3]
      exact vc_Re_advance_36_1 (v_iv (n_v vs 2)) (v_iv (n_v vs 5)) (v_iv (n_v vs 6)) (v_iv (n_v vs 8)) (v_iv (n_v vs 11)) (w_fi ws (n_v vs 0) 6) (w_fi ws (n_v vs 0) 5) (w_fi ws (n_v vs 0) 9) (w_fi w1 (n_v vs 0) 6) (w_ei w1 (w_ar ws (n_v vs 0) 0)) (w_fi w1 (n_v vs 0) 9) (w_fi w1 (n_v vs 0) 8) (w_fi w1 (n_v vs 0) 5) (w_fi ws (n_v vs 0) 8) (w_ei ws (w_ar ws (n_v vs 0) 0)) k2 k5 k6 k8 k11 d0 g0 g2 g9 h12 f13 f17 fe_0_5_1 fe_0_8_1 fe_0_9_1 hE_0_0_1 hK_0_0 kz_0_5 kz_0_6 kz_0_8 kz_0_9
  have nf2 : fc_1 PRD (20, [2, 3], [30, 0, 1, 0, 0, -1, 1, 6]) ws (vs) := by
    refine ⟨nf_in hl rfl, sgq_1527 ?_⟩
    · show 1 * v_iv (n_v vs 2) + ((-1) * w_fi ws (n_v vs 3) 6 + 0) ≤ 0
      rw [q3]
      exact vc_Re_advance_36_2 (v_iv (n_v vs 2)) (v_iv (n_v vs 5)) (v_iv (n_v vs 11)) (w_fi ws (n_v vs 0) 6) (w_fi ws (n_v vs 0) 5) (w_fi ws (n_v vs 0) 9) (w_fi w1 (n_v vs 0) 6) (w_ei w1 (w_ar ws (n_v vs 0) 0)) (w_fi w1 (n_v vs 0) 9) (w_fi w1 (n_v vs 0) 8) (w_fi w1 (n_v vs 0) 5) (w_fi ws (n_v vs 0) 8) (w_ei ws (w_ar ws (n_v vs 0) 0)) k2 k5 k11 d0 g0 g9 f18 fe_0_5_1 fe_0_8_1 fe_0_9_1 hE_0_0_1 hK_0_0 kz_0_5 kz_0_6 kz_0_8 kz_0_9
  refine ⟨(fun _ h => (by cases h)), [], trivial, ?_, (fun _ h => (by cases h))⟩
  rw [List.append_nil]
  exact List.forall_mem_cons.mpr ⟨⟨show (20 : Nat) < 100 from by decide, nf0⟩, List.forall_mem_cons.mpr ⟨⟨show (20 : Nat) < 100 from by decide, nf1⟩, List.forall_mem_cons.mpr ⟨⟨show (20 : Nat) < 100 from by decide, nf2⟩, (fun _ h => (by cases h))⟩⟩⟩
set_option maxHeartbeats 4000000 in
theorem vc_Re_advance_37_0 (x5 : Int) (x11 : Int) (next_0 : Int) (end_0 : Int) (number_0 : Int) (next_1 : Int) (tape_1 : Int → Int) (number_1 : Int) (begin_1 : Int) (end_1 : Int) (begin_0 : Int) (tape_0 : Int → Int) (k5 : 0 ≤ x5 ∧ x5 ≤ 1999) (k11 : 1 ≤ x11 ∧ x11 ≤ 2000) (d0 : x5 + 1 ≤ x11 ∧ x11 ≤ x5 + 1) (g0 : x11 = next_0) (g9 : x5 = next_1) (f16 : 1 * begin_1 + ((-1) * next_1 + 0) ≤ 0) (fe_0_5_1 : end_0 = end_1) (fe_0_8_1 : begin_0 = begin_1) (fe_0_9_1 : number_0 = number_1) (hE_0_0_1 : ∀ j : Int, tape_0 j = tape_1 j) (hK_0_0 : ∀ j : Int, 0 ≤ j → j < 2000 → (-128) ≤ tape_0 j ∧ tape_0 j ≤ 127) (kz_0_5 : 0 ≤ end_0 ∧ end_0 ≤ 2000) (kz_0_6 : 0 ≤ next_0 ∧ next_0 ≤ 2000) (kz_0_8 : 0 ≤ begin_0 ∧ begin_0 ≤ 2000) (kz_0_9 : (-176) ≤ number_0 ∧ number_0 ≤ 1000000) : 1 * begin_0 + ((-1) * next_0 + 0) ≤ 0 := by
  subst fe_0_5_1
  subst fe_0_8_1
  subst fe_0_9_1
  have e_hE_0_0_1 := funext hE_0_0_1; subst e_hE_0_0_1
  first | with_reducible assumption | ((try and_intros) <;> first | with_reducible assumption | (clear hE_0_0_1 hK_0_0; omega)) | omega
set_option maxHeartbeats 4000000 in
theorem vc_Re_advance_37_1 (x2 : Int) (x5 : Int) (x6 : Int) (x8 : Int) (x11 : Int) (next_0 : Int) (end_0 : Int) (number_0 : Int) (next_1 : Int) (tape_1 : Int → Int) (number_1 : Int) (begin_1 : Int) (end_1 : Int) (begin_0 : Int) (tape_0 : Int → Int) (k2 : 0 ≤ x2 ∧ x2 ≤ 2000) (k5 : 0 ≤ x5 ∧ x5 ≤ 1999) (k6 : 1 ≤ x6 ∧ x6 ≤ 2000) (k8 : 65 ≤ x8 ∧ x8 ≤ 90) (k11 : 1 ≤ x11 ∧ x11 ≤ 2000) (d0 : x5 + 1 ≤ x11 ∧ x11 ≤ x5 + 1) (g0 : x11 = next_0) (g2 : x6 = end_0) (g9 : x5 = next_1) (h12 : x8 = tape_1 (x5)) (f13 : x5 < x6) (f17 : CXL (end_1) (next_1) (begin_1) (tape_1) (x2)) (fe_0_5_1 : end_0 = end_1) (fe_0_8_1 : begin_0 = begin_1) (fe_0_9_1 : number_0 = number_1) (hE_0_0_1 : ∀ j : Int, tape_0 j = tape_1 j) (hK_0_0 : ∀ j : Int, 0 ≤ j → j < 2000 → (-128) ≤ tape_0 j ∧ tape_0 j ≤ 127) (kz_0_5 : 0 ≤ end_0 ∧ end_0 ≤ 2000) (kz_0_6 : 0 ≤ next_0 ∧ next_0 ≤ 2000) (kz_0_8 : 0 ≤ begin_0 ∧ begin_0 ≤ 2000) (kz_0_9 : (-176) ≤ number_0 ∧ number_0 ≤ 1000000) : CXL (end_0) (next_0) (begin_0) (tape_0) (x2) := by
  subst fe_0_5_1
  subst fe_0_8_1
  subst fe_0_9_1
  have e_hE_0_0_1 := funext hE_0_0_1; subst e_hE_0_0_1
  first | subst g0 | skip
  first | subst g2 | skip
  first | subst g9 | skip
  first
    | exact cxl_s (by assumption) ‹CXL _ _ _ _ _› (by omega) (by unfold cIL cIG; omega) (by omega)
    | exact cxl_0 (by assumption) (cx_1 (by assumption) ‹CX0 _ _ _ _› (fun q => by omega) (by omega)) (by omega) (by unfold cIL; omega)
set_option maxHeartbeats 4000000 in
theorem vc_Re_advance_37_2 (x2 : Int) (x5 : Int) (x11 : Int) (next_0 : Int) (end_0 : Int) (number_0 : Int) (next_1 : Int) (tape_1 : Int → Int) (number_1 : Int) (begin_1 : Int) (end_1 : Int) (begin_0 : Int) (tape_0 : Int → Int) (k2 : 0 ≤ x2 ∧ x2 ≤ 2000) (k5 : 0 ≤ x5 ∧ x5 ≤ 1999) (k11 : 1 ≤ x11 ∧ x11 ≤ 2000) (d0 : x5 + 1 ≤ x11 ∧ x11 ≤ x5 + 1) (g0 : x11 = next_0) (g9 : x5 = next_1) (f18 : 1 * x2 + ((-1) * next_1 + 0) ≤ 0) (fe_0_5_1 : end_0 = end_1) (fe_0_8_1 : begin_0 = begin_1) (fe_0_9_1 : number_0 = number_1) (hE_0_0_1 : ∀ j : Int, tape_0 j = tape_1 j) (hK_0_0 : ∀ j : Int, 0 ≤ j → j < 2000 → (-128) ≤ tape_0 j ∧ tape_0 j ≤ 127) (kz_0_5 : 0 ≤ end_0 ∧ end_0 ≤ 2000) (kz_0_6 : 0 ≤ next_0 ∧ next_0 ≤ 2000) (kz_0_8 : 0 ≤ begin_0 ∧ begin_0 ≤ 2000) (kz_0_9 : (-176) ≤ number_0 ∧ number_0 ≤ 1000000) : 1 * x2 + ((-1) * next_0 + 0) ≤ 0 := by
  subst fe_0_5_1
  subst fe_0_8_1
  subst fe_0_9_1
  have e_hE_0_0_1 := funext hE_0_0_1; subst e_hE_0_0_1
  first | with_reducible assumption | ((try and_intros) <;> first | with_reducible assumption | (clear hE_0_0_1 hK_0_0; omega)) | omega
def o_Re_advance_37 : or_T := (94, 12, [(0, (2, 0, 0, [8])), (1, (0, -2147483648, 1000000, [])), (2, (0, 0, 2000, [])), (3, (2, 0, 0, [8])), (5, (0, 0, 1999, [])), (6, (0, 1, 2000, [])), (7, (2, 0, 0, [109])), (8, (0, 65, 90, [])), (9, (0, 1, 1, [])), (10, (0, 1, 1, [])), (11, (0, 1, 2000, []))], [(9, [11, 3], [6]), (9, [7, 3], [0]), (9, [6, 3], [5]), (20, [8, 9], [61, 0, 1099]), (20, [3, 1], [30, 0, 1, 1, 9, -1, 0, 0]), (20, [3, 1], [30, 0, -1, 1, 9, 1, 0, 0]), (24, [0, 3], []), (101, [3, 11], [6]), (1, [11, 5, 10], []), (9, [5, 3], [6]), (8, [9], [1]), (20, [8, 9], [61, 0, 1099]), (10, [8, 7, 5], []), (7, [5, 6], [2]), (20, [3, 1], [30, 0, 1, 1, 9, -1, 0, 0]), (20, [3, 1], [30, 0, -1, 1, 9, 1, 0, 0]), (20, [3, 3], [30, 0, 1, 1, 8, -1, 1, 6]), (20, [3, 2], [60, 3, 1, 1076, 5, 6, 8, 0]), (20, [2, 3], [30, 0, 1, 0, 0, -1, 1, 6])], [], [], [(20, [3, 3], [30, 0, 1, 1, 8, -1, 1, 6]), (20, [3, 2], [60, 3, 1, 1076, 5, 6, 8, 0]), (20, [2, 3], [30, 0, 1, 0, 0, -1, 1, 6])], [], [(11, 5, 1, 1), (11, 6, -4294967296, 0), (5, 6, -4294967296, -1)])
theorem oo_Re_advance_37 {kA : Nat → ClassId} : or_ok PRD kA GG o_Re_advance_37 := by
  refine or_mk fun A ta ws vs hD hth hl => ?_
  intro t0 r0 t1 k1 t2 k2 t3 r3 t5 k5 t6 k6 t7 r7 t8 k8 t9 k9 t10 k10 t11 k11 d0 d1 d2 f0 f1 f2 f3 f4 f5 f6 ta1 w1 le1 s1 f8 f9 f10 f11 f12 f13 f14 f15 f16 f17 f18
  replace f0 := shm_111 f0
  replace f1 := shm_163 f1
  replace f2 := shm_110 f2
  replace f6 := shm_5 f6
  have s1 : (∀ b j, w_el ws b j = w_el w1 b j) ∧ ∀ b j, w_fd ws b j = if b = v_ad (n_v vs 3) ∧ j = 6 then n_v vs 11 else w_fd w1 b j := s1.2
  replace f9 := shm_111 f9
  replace f12 := shm_107 f12
  replace f13 := shm_6 f13
  replace f16 := shm_1531 f16
  replace f17 := shm_1534 f17
  replace f18 := shm_1527 f18
  have q3 : n_v vs 3 = n_v vs 0 := f6.symm
  simp only [q3] at f0 f1 f2
  rw [q3] at s1
  simp only [q3] at f9 f16 f17 f18
  have ar_0_0_1 : w_ar w1 (n_v vs 0) 0 = w_ar ws (n_v vs 0) 0 := by show v_ad (w_fd w1 _ _) = v_ad (w_fd ws _ _); rw [s1.2, if_neg (fun e => absurd e.2 (by decide))]
  have cr_0_0 := fdq_95 hD hth r0
  have ad_7 : v_ad (n_v vs 7) = w_ar ws (n_v vs 0) 0 := congrArg v_ad f1
  have g0 : v_iv (n_v vs 11) = w_fi ws (n_v vs 0) 6 := congrArg v_iv f0
  have g2 : v_iv (n_v vs 6) = w_fi ws (n_v vs 0) 5 := congrArg v_iv f2
  have g9 : v_iv (n_v vs 5) = w_fi w1 (n_v vs 0) 6 := congrArg v_iv f9
  simp only [ad_7] at f12
  have h12 : v_iv (n_v vs 8) = w_ei w1 (w_ar ws (n_v vs 0) 0) (v_iv (n_v vs 5)) := f12
  simp only [ar_0_0_1] at f17
  have fe_0_5_1 : w_fi ws (n_v vs 0) 5 = w_fi w1 (n_v vs 0) 5 := by show v_iv (w_fd _ _ _) = v_iv (w_fd _ _ _); rw [s1.2, if_neg (fun e => absurd e.2 (by decide))]
  have fe_0_8_1 : w_fi ws (n_v vs 0) 8 = w_fi w1 (n_v vs 0) 8 := by show v_iv (w_fd _ _ _) = v_iv (w_fd _ _ _); rw [s1.2, if_neg (fun e => absurd e.2 (by decide))]
  have fe_0_9_1 : w_fi ws (n_v vs 0) 9 = w_fi w1 (n_v vs 0) 9 := by show v_iv (w_fd _ _ _) = v_iv (w_fd _ _ _); rw [s1.2, if_neg (fun e => absurd e.2 (by decide))]
  have hE_0_0_1 : ∀ j : Int, w_ei ws (w_ar ws (n_v vs 0) 0) j = w_ei w1 (w_ar ws (n_v vs 0) 0) j := fun j => s1.1 _ _
  have hK_0_0 := elq_33 hD hth cr_0_0
  have kz_0_5 := fdq_207 hD hth r0
  have kz_0_6 := fdq_208 hD hth r0
  have kz_0_8 := fdq_99 hD hth r0
  have kz_0_9 := fdq_296 hD hth r0
  have nf0 : fc_1 PRD (20, [3, 3], [30, 0, 1, 1, 8, -1, 1, 6]) ws (vs) := by
    refine ⟨nf_in hl rfl, sgq_1531 ?_⟩
    · show 1 * w_fi ws (n_v vs 3) 8 + ((-1) * w_fi ws (n_v vs 3) 6 + 0) ≤ 0
      rw [q3]
      exact vc_Re_advance_37_0 (v_iv (n_v vs 5)) (v_iv (n_v vs 11)) (w_fi ws (n_v vs 0) 6) (w_fi ws (n_v vs 0) 5) (w_fi ws (n_v vs 0) 9) (w_fi w1 (n_v vs 0) 6) (w_ei w1 (w_ar ws (n_v vs 0) 0)) (w_fi w1 (n_v vs 0) 9) (w_fi w1 (n_v vs 0) 8) (w_fi w1 (n_v vs 0) 5) (w_fi ws (n_v vs 0) 8) (w_ei ws (w_ar ws (n_v vs 0) 0)) k5 k11 d0 g0 g9 f16 fe_0_5_1 fe_0_8_1 fe_0_9_1 hE_0_0_1 hK_0_0 kz_0_5 kz_0_6 kz_0_8 kz_0_9
  have nf1 : fc_1 PRD (20, [3, 2], [60, 3, 1, 1076, 5, 6, 8, 0]) ws (vs) := by
    refine ⟨nf_in hl rfl, sgq_1534 ?_⟩
    · show CXL (w_fi ws (n_v vs 3) 5) (w_fi ws (n_v vs 3) 6) (w_fi ws (n_v vs 3) 8) (w_ei ws (w_ar ws (n_v vs 3) 0)) (v_iv (n_v vs 2))
      rw [q3]
      exact vc_Re_advance_37_1 (v_iv (n_v vs 2)) (v_iv (n_v vs 5)) (v_iv (n_v vs 6)) (v_iv (n_v vs 8)) (v_iv (n_v vs 11)) (w_fi ws (n_v vs 0) 6) (w_fi ws (n_v vs 0) 5) (w_fi ws (n_v vs 0) 9) (w_fi w1 (n_v vs 0) 6) (w_ei w1 (w_ar ws (n_v vs 0) 0)) (w_fi w1 (n_v vs 0) 9) (w_fi w1 (n_v vs 0) 8) (w_fi w1 (n_v vs 0) 5) (w_fi ws (n_v vs 0) 8) (w_ei ws (w_ar ws (n_v vs 0) 0)) k2 k5 k6 k8 k11 d0 g0 g2 g9 h12 f13 f17 fe_0_5_1 fe_0_8_1 fe_0_9_1 hE_0_0_1 hK_0_0 kz_0_5 kz_0_6 kz_0_8 kz_0_9
  have nf2 : fc_1 PRD (20, [2, 3], [30, 0, 1, 0, 0, -1, 1, 6]) ws (vs) := by
    refine ⟨nf_in hl rfl, sgq_1527 ?_⟩
    · show 1 * v_iv (n_v vs 2) + ((-1) * w_fi ws (n_v vs 3) 6 + 0) ≤ 0
      rw [q3]
      exact vc_Re_advance_37_2 (v_iv (n_v vs 2)) (v_iv (n_v vs 5)) (v_iv (n_v vs 11)) (w_fi ws (n_v vs 0) 6) (w_fi ws (n_v vs 0) 5) (w_fi ws (n_v vs 0) 9) (w_fi w1 (n_v vs 0) 6) (w_ei w1 (w_ar ws (n_v vs 0) 0)) (w_fi w1 (n_v vs 0) 9) (w_fi w1 (n_v vs 0) 8) (w_fi w1 (n_v vs 0) 5) (w_fi ws (n_v vs 0) 8) (w_ei ws (w_ar ws (n_v vs 0) 0)) k2 k5 k11 d0 g0 g9 f18 fe_0_5_1 fe_0_8_1 fe_0_9_1 hE_0_0_1 hK_0_0 kz_0_5 kz_0_6 kz_0_8 kz_0_9
  refine ⟨(fun _ h => (by cases h)), [], trivial, ?_, (fun _ h => (by cases h))⟩
  rw [List.append_nil]
  exact List.forall_mem_cons.mpr ⟨⟨show (20 : Nat) < 100 from by decide, nf0⟩, List.forall_mem_cons.mpr ⟨⟨show (20 : Nat) < 100 from by decide, nf1⟩, List.forall_mem_cons.mpr ⟨⟨show (20 : Nat) < 100 from by decide, nf2⟩, (fun _ h => (by cases h))⟩⟩⟩
set_option maxHeartbeats 4000000 in
theorem vc_Re_advance_38_0 (x5 : Int) (x11 : Int) (next_0 : Int) (end_0 : Int) (number_0 : Int) (next_1 : Int) (tape_1 : Int → Int) (number_1 : Int) (begin_1 : Int) (end_1 : Int) (begin_0 : Int) (tape_0 : Int → Int) (k5 : 0 ≤ x5 ∧ x5 ≤ 1999) (k11 : 1 ≤ x11 ∧ x11 ≤ 2000) (d0 : x5 + 1 ≤ x11 ∧ x11 ≤ x5 + 1) (g0 : x11 = next_0) (g9 : x5 = next_1) (f16 : 1 * begin_1 + ((-1) * next_1 + 0) ≤ 0) (fe_0_5_1 : end_0 = end_1) (fe_0_8_1 : begin_0 = begin_1) (fe_0_9_1 : number_0 = number_1) (hE_0_0_1 : ∀ j : Int, tape_0 j = tape_1 j) (hK_0_0 : ∀ j : Int, 0 ≤ j → j < 2000 → (-128) ≤ tape_0 j ∧ tape_0 j ≤ 127) (kz_0_5 : 0 ≤ end_0 ∧ end_0 ≤ 2000) (kz_0_6 : 0 ≤ next_0 ∧ next_0 ≤ 2000) (kz_0_8 : 0 ≤ begin_0 ∧ begin_0 ≤ 2000) (kz_0_9 : (-176) ≤ number_0 ∧ number_0 ≤ 1000000) : 1 * begin_0 + ((-1) * next_0 + 0) ≤ 0 := by
  subst fe_0_5_1
  subst fe_0_8_1
  subst fe_0_9_1
  have e_hE_0_0_1 := funext hE_0_0_1; subst e_hE_0_0_1
  first | with_reducible assumption | ((try and_intros) <;> first | with_reducible assumption | (clear hE_0_0_1 hK_0_0; omega)) | omega
set_option maxHeartbeats 4000000 in
theorem vc_Re_advance_38_1 (x2 : Int) (x5 : Int) (x6 : Int) (x8 : Int) (x11 : Int) (next_0 : Int) (end_0 : Int) (number_0 : Int) (next_1 : Int) (tape_1 : Int → Int) (number_1 : Int) (begin_1 : Int) (end_1 : Int) (begin_0 : Int) (tape_0 : Int → Int) (k2 : 0 ≤ x2 ∧ x2 ≤ 2000) (k5 : 0 ≤ x5 ∧ x5 ≤ 1999) (k6 : 1 ≤ x6 ∧ x6 ≤ 2000) (k8 : 97 ≤ x8 ∧ x8 ≤ 122) (k11 : 1 ≤ x11 ∧ x11 ≤ 2000) (d0 : x5 + 1 ≤ x11 ∧ x11 ≤ x5 + 1) (g0 : x11 = next_0) (g2 : x6 = end_0) (g9 : x5 = next_1) (h12 : x8 = tape_1 (x5)) (f13 : x5 < x6) (f17 : CXL (end_1) (next_1) (begin_1) (tape_1) (x2)) (fe_0_5_1 : end_0 = end_1) (fe_0_8_1 : begin_0 = begin_1) (fe_0_9_1 : number_0 = number_1) (hE_0_0_1 : ∀ j : Int, tape_0 j = tape_1 j) (hK_0_0 : ∀ j : Int, 0 ≤ j → j < 2000 → (-128) ≤ tape_0 j ∧ tape_0 j ≤ 127) (kz_0_5 : 0 ≤ end_0 ∧ end_0 ≤ 2000) (kz_0_6 : 0 ≤ next_0 ∧ next_0 ≤ 2000) (kz_0_8 : 0 ≤ begin_0 ∧ begin_0 ≤ 2000) (kz_0_9 : (-176) ≤ number_0 ∧ number_0 ≤ 1000000) : CXL (end_0) (next_0) (begin_0) (tape_0) (x2) := by
  subst fe_0_5_1
  subst fe_0_8_1
  subst fe_0_9_1
  have e_hE_0_0_1 := funext hE_0_0_1; subst e_hE_0_0_1
  first | subst g0 | skip
  first | subst g2 | skip
  first | subst g9 | skip
  first
    | exact cxl_s (by assumption) ‹CXL _ _ _ _ _› (by omega) (by unfold cIL cIG; omega) (by omega)
    | exact cxl_0 (by assumption) (cx_1 (by assumption) ‹CX0 _ _ _ _› (fun q => by omega) (by omega)) (by omega) (by unfold cIL; omega)
set_option maxHeartbeats 4000000 in
theorem vc_Re_advance_38_2 (x2 : Int) (x5 : Int) (x11 : Int) (next_0 : Int) (end_0 : Int) (number_0 : Int) (next_1 : Int) (tape_1 : Int → Int) (number_1 : Int) (begin_1 : Int) (end_1 : Int) (begin_0 : Int) (tape_0 : Int → Int) (k2 : 0 ≤ x2 ∧ x2 ≤ 2000) (k5 : 0 ≤ x5 ∧ x5 ≤ 1999) (k11 : 1 ≤ x11 ∧ x11 ≤ 2000) (d0 : x5 + 1 ≤ x11 ∧ x11 ≤ x5 + 1) (g0 : x11 = next_0) (g9 : x5 = next_1) (f18 : 1 * x2 + ((-1) * next_1 + 0) ≤ 0) (fe_0_5_1 : end_0 = end_1) (fe_0_8_1 : begin_0 = begin_1) (fe_0_9_1 : number_0 = number_1) (hE_0_0_1 : ∀ j : Int, tape_0 j = tape_1 j) (hK_0_0 : ∀ j : Int, 0 ≤ j → j < 2000 → (-128) ≤ tape_0 j ∧ tape_0 j ≤ 127) (kz_0_5 : 0 ≤ end_0 ∧ end_0 ≤ 2000) (kz_0_6 : 0 ≤ next_0 ∧ next_0 ≤ 2000) (kz_0_8 : 0 ≤ begin_0 ∧ begin_0 ≤ 2000) (kz_0_9 : (-176) ≤ number_0 ∧ number_0 ≤ 1000000) : 1 * x2 + ((-1) * next_0 + 0) ≤ 0 := by
  subst fe_0_5_1
  subst fe_0_8_1
  subst fe_0_9_1
  have e_hE_0_0_1 := funext hE_0_0_1; subst e_hE_0_0_1
  first | with_reducible assumption | ((try and_intros) <;> first | with_reducible assumption | (clear hE_0_0_1 hK_0_0; omega)) | omega
def o_Re_advance_38 : or_T := (94, 12, [(0, (2, 0, 0, [8])), (1, (0, -2147483648, 1000000, [])), (2, (0, 0, 2000, [])), (3, (2, 0, 0, [8])), (5, (0, 0, 1999, [])), (6, (0, 1, 2000, [])), (7, (2, 0, 0, [109])), (8, (0, 97, 122, [])), (9, (0, 1, 1, [])), (10, (0, 1, 1, [])), (11, (0, 1, 2000, []))], [(9, [11, 3], [6]), (9, [7, 3], [0]), (9, [6, 3], [5]), (20, [8, 9], [61, 0, 1099]), (20, [3, 1], [30, 0, 1, 1, 9, -1, 0, 0]), (20, [3, 1], [30, 0, -1, 1, 9, 1, 0, 0]), (24, [0, 3], []), (101, [3, 11], [6]), (1, [11, 5, 10], []), (9, [5, 3], [6]), (8, [9], [1]), (20, [8, 9], [61, 0, 1099]), (10, [8, 7, 5], []), (7, [5, 6], [2]), (20, [3, 1], [30, 0, 1, 1, 9, -1, 0, 0]), (20, [3, 1], [30, 0, -1, 1, 9, 1, 0, 0]), (20, [3, 3], [30, 0, 1, 1, 8, -1, 1, 6]), (20, [3, 2], [60, 3, 1, 1076, 5, 6, 8, 0]), (20, [2, 3], [30, 0, 1, 0, 0, -1, 1, 6])], [], [], [(20, [3, 3], [30, 0, 1, 1, 8, -1, 1, 6]), (20, [3, 2], [60, 3, 1, 1076, 5, 6, 8, 0]), (20, [2, 3], [30, 0, 1, 0, 0, -1, 1, 6])], [], [(11, 5, 1, 1), (11, 6, -4294967296, 0), (5, 6, -4294967296, -1)])
theorem oo_Re_advance_38 {kA : Nat → ClassId} : or_ok PRD kA GG o_Re_advance_38 := by
  refine or_mk fun A ta ws vs hD hth hl => ?_
  intro t0 r0 t1 k1 t2 k2 t3 r3 t5 k5 t6 k6 t7 r7 t8 k8 t9 k9 t10 k10 t11 k11 d0 d1 d2 f0 f1 f2 f3 f4 f5 f6 ta1 w1 le1 s1 f8 f9 f10 f11 f12 f13 f14 f15 f16 f17 f18
  replace f0 := shm_111 f0
  replace f1 := shm_163 f1
  replace f2 := shm_110 f2
  replace f6 := shm_5 f6
  have s1 : (∀ b j, w_el ws b j = w_el w1 b j) ∧ ∀ b j, w_fd ws b j = if b = v_ad (n_v vs 3) ∧ j = 6 then n_v vs 11 else w_fd w1 b j := s1.2
  replace f9 := shm_111 f9
  replace f12 := shm_107 f12
  replace f13 := shm_6 f13
  replace f16 := shm_1531 f16
  replace f17 := shm_1534 f17
  replace f18 := shm_1527 f18
  have q3 : n_v vs 3 = n_v vs 0 := f6.symm
  simp only [q3] at f0 f1 f2
  rw [q3] at s1
  simp only [q3] at f9 f16 f17 f18
  have ar_0_0_1 : w_ar w1 (n_v vs 0) 0 = w_ar ws (n_v vs 0) 0 := by show v_ad (w_fd w1 _ _) = v_ad (w_fd ws _ _); rw [s1.2, if_neg (fun e => absurd e.2 (by decide))]
  have cr_0_0 := fdq_95 hD hth r0
  have ad_7 : v_ad (n_v vs 7) = w_ar ws (n_v vs 0) 0 := congrArg v_ad f1
  have g0 : v_iv (n_v vs 11) = w_fi ws (n_v vs 0) 6 := congrArg v_iv f0
  have g2 : v_iv (n_v vs 6) = w_fi ws (n_v vs 0) 5 := congrArg v_iv f2
  have g9 : v_iv (n_v vs 5) = w_fi w1 (n_v vs 0) 6 := congrArg v_iv f9
  simp only [ad_7] at f12
  have h12 : v_iv (n_v vs 8) = w_ei w1 (w_ar ws (n_v vs 0) 0) (v_iv (n_v vs 5)) := f12
  simp only [ar_0_0_1] at f17
  have fe_0_5_1 : w_fi ws (n_v vs 0) 5 = w_fi w1 (n_v vs 0) 5 := by show v_iv (w_fd _ _ _) = v_iv (w_fd _ _ _); rw [s1.2, if_neg (fun e => absurd e.2 (by decide))]
  have fe_0_8_1 : w_fi ws (n_v vs 0) 8 = w_fi w1 (n_v vs 0) 8 := by show v_iv (w_fd _ _ _) = v_iv (w_fd _ _ _); rw [s1.2, if_neg (fun e => absurd e.2 (by decide))]
  have fe_0_9_1 : w_fi ws (n_v vs 0) 9 = w_fi w1 (n_v vs 0) 9 := by show v_iv (w_fd _ _ _) = v_iv (w_fd _ _ _); rw [s1.2, if_neg (fun e => absurd e.2 (by decide))]
  have hE_0_0_1 : ∀ j : Int, w_ei ws (w_ar ws (n_v vs 0) 0) j = w_ei w1 (w_ar ws (n_v vs 0) 0) j := fun j => s1.1 _ _
  have hK_0_0 := elq_33 hD hth cr_0_0
  have kz_0_5 := fdq_207 hD hth r0
  have kz_0_6 := fdq_208 hD hth r0
  have kz_0_8 := fdq_99 hD hth r0
  have kz_0_9 := fdq_296 hD hth r0
  have nf0 : fc_1 PRD (20, [3, 3], [30, 0, 1, 1, 8, -1, 1, 6]) ws (vs) := by
    refine ⟨nf_in hl rfl, sgq_1531 ?_⟩
    · show 1 * w_fi ws (n_v vs 3) 8 + ((-1) * w_fi ws (n_v vs 3) 6 + 0) ≤ 0
      rw [q3]
      exact vc_Re_advance_38_0 (v_iv (n_v vs 5)) (v_iv (n_v vs 11)) (w_fi ws (n_v vs 0) 6) (w_fi ws (n_v vs 0) 5) (w_fi ws (n_v vs 0) 9) (w_fi w1 (n_v vs 0) 6) (w_ei w1 (w_ar ws (n_v vs 0) 0)) (w_fi w1 (n_v vs 0) 9) (w_fi w1 (n_v vs 0) 8) (w_fi w1 (n_v vs 0) 5) (w_fi ws (n_v vs 0) 8) (w_ei ws (w_ar ws (n_v vs 0) 0)) k5 k11 d0 g0 g9 f16 fe_0_5_1 fe_0_8_1 fe_0_9_1 hE_0_0_1 hK_0_0 kz_0_5 kz_0_6 kz_0_8 kz_0_9
  have nf1 : fc_1 PRD (20, [3, 2], [60, 3, 1, 1076, 5, 6, 8, 0]) ws (vs) := by
    refine ⟨nf_in hl rfl, sgq_1534 ?_⟩
    · show CXL (w_fi ws (n_v vs 3) 5) (w_fi ws (n_v vs 3) 6) (w_fi ws (n_v vs 3) 8) (w_ei ws (w_ar ws (n_v vs 3) 0)) (v_iv (n_v vs 2))
      rw [q3]
      exact vc_Re_advance_38_1 (v_iv (n_v vs 2)) (v_iv (n_v vs 5)) (v_iv (n_v vs 6)) (v_iv (n_v vs 8)) (v_iv (n_v vs 11)) (w_fi ws (n_v vs 0) 6) (w_fi ws (n_v vs 0) 5) (w_fi ws (n_v vs 0) 9) (w_fi w1 (n_v vs 0) 6) (w_ei w1 (w_ar ws (n_v vs 0) 0)) (w_fi w1 (n_v vs 0) 9) (w_fi w1 (n_v vs 0) 8) (w_fi w1 (n_v vs 0) 5) (w_fi ws (n_v vs 0) 8) (w_ei ws (w_ar ws (n_v vs 0) 0)) k2 k5 k6 k8 k11 d0 g0 g2 g9 h12 f13 f17 fe_0_5_1 fe_0_8_1 fe_0_9_1 hE_0_0_1 hK_0_0 kz_0_5 kz_0_6 kz_0_8 kz_0_9
  have nf2 : fc_1 PRD (20, [2, 3], [30, 0, 1, 0, 0, -1, 1, 6]) ws (vs) := by
    refine ⟨nf_in hl rfl, sgq_1527 ?_⟩
    · show 1 * v_iv (n_v vs 2) + ((-1) * w_fi ws (n_v vs 3) 6 + 0) ≤ 0
      rw [q3]
      exact vc_Re_advance_38_2 (v_iv (n_v vs 2)) (v_iv (n_v vs 5)) (v_iv (n_v vs 11)) (w_fi ws (n_v vs 0) 6) (w_fi ws (n_v vs 0) 5) (w_fi ws (n_v vs 0) 9) (w_fi w1 (n_v vs 0) 6) (w_ei w1 (w_ar ws (n_v vs 0) 0)) (w_fi w1 (n_v vs 0) 9) (w_fi w1 (n_v vs 0) 8) (w_fi w1 (n_v vs 0) 5) (w_fi ws (n_v vs 0) 8) (w_ei ws (w_ar ws (n_v vs 0) 0)) k2 k5 k11 d0 g0 g9 f18 fe_0_5_1 fe_0_8_1 fe_0_9_1 hE_0_0_1 hK_0_0 kz_0_5 kz_0_6 kz_0_8 kz_0_9
  refine ⟨(fun _ h => (by cases h)), [], trivial, ?_, (fun _ h => (by cases h))⟩
  rw [List.append_nil]
  exact List.forall_mem_cons.mpr ⟨⟨show (20 : Nat) < 100 from by decide, nf0⟩, List.forall_mem_cons.mpr ⟨⟨show (20 : Nat) < 100 from by decide, nf1⟩, List.forall_mem_cons.mpr ⟨⟨show (20 : Nat) < 100 from by decide, nf2⟩, (fun _ h => (by cases h))⟩⟩⟩
set_option maxHeartbeats 4000000 in
theorem vc_Re_advance_39_0 (x1 : Int) (x13 : Int) (kind_0 : Int) (begin_0 : Int) (end_0 : Int) (next_0 : Int) (number_0 : Int) (tape_0 : Int → Int) (tape_1 : Int → Int) (number_1 : Int) (begin_1 : Int) (next_1 : Int) (end_1 : Int) (k1 : (-2147483648) ≤ x1 ∧ x1 ≤ 1000000) (k13 : 1 ≤ x13 ∧ x13 ≤ 1) (g0 : x13 = kind_0) (fe_0_5_1 : end_0 = end_1) (fe_0_6_1 : next_0 = next_1) (fe_0_8_1 : begin_0 = begin_1) (fe_0_9_1 : number_0 = number_1) (hE_0_0_1 : ∀ j : Int, tape_0 j = tape_1 j) (hK_0_0 : ∀ j : Int, 0 ≤ j → j < 2000 → (-128) ≤ tape_0 j ∧ tape_0 j ≤ 127) (kz_0_5 : 0 ≤ end_0 ∧ end_0 ≤ 2000) (kz_0_6 : 0 ≤ next_0 ∧ next_0 ≤ 2000) (kz_0_7 : (-128) ≤ kind_0 ∧ kind_0 ≤ 127) (kz_0_8 : 0 ≤ begin_0 ∧ begin_0 ≤ 2000) (kz_0_9 : (-176) ≤ number_0 ∧ number_0 ≤ 1000000) : (1 * kind_0 + 0 ≤ 3) ∨ (1 * number_0 + ((-1) * x1 + 0) ≤ 0) := by
  subst fe_0_5_1
  subst fe_0_6_1
  subst fe_0_8_1
  subst fe_0_9_1
  have e_hE_0_0_1 := funext hE_0_0_1; subst e_hE_0_0_1
  first | with_reducible assumption | ((try and_intros) <;> first | with_reducible assumption | (clear hE_0_0_1 hK_0_0; omega)) | omega
set_option maxHeartbeats 4000000 in
theorem vc_Re_advance_39_1 (x1 : Int) (x13 : Int) (kind_0 : Int) (begin_0 : Int) (end_0 : Int) (next_0 : Int) (number_0 : Int) (tape_0 : Int → Int) (tape_1 : Int → Int) (number_1 : Int) (begin_1 : Int) (next_1 : Int) (end_1 : Int) (k1 : (-2147483648) ≤ x1 ∧ x1 ≤ 1000000) (k13 : 1 ≤ x13 ∧ x13 ≤ 1) (g0 : x13 = kind_0) (fe_0_5_1 : end_0 = end_1) (fe_0_6_1 : next_0 = next_1) (fe_0_8_1 : begin_0 = begin_1) (fe_0_9_1 : number_0 = number_1) (hE_0_0_1 : ∀ j : Int, tape_0 j = tape_1 j) (hK_0_0 : ∀ j : Int, 0 ≤ j → j < 2000 → (-128) ≤ tape_0 j ∧ tape_0 j ≤ 127) (kz_0_5 : 0 ≤ end_0 ∧ end_0 ≤ 2000) (kz_0_6 : 0 ≤ next_0 ∧ next_0 ≤ 2000) (kz_0_7 : (-128) ≤ kind_0 ∧ kind_0 ≤ 127) (kz_0_8 : 0 ≤ begin_0 ∧ begin_0 ≤ 2000) (kz_0_9 : (-176) ≤ number_0 ∧ number_0 ≤ 1000000) : (1 * kind_0 + 0 ≤ 3) ∨ ((-1) * number_0 + (1 * x1 + 0) ≤ 0) := by
  subst fe_0_5_1
  subst fe_0_6_1
  subst fe_0_8_1
  subst fe_0_9_1
  have e_hE_0_0_1 := funext hE_0_0_1; subst e_hE_0_0_1
  first | with_reducible assumption | ((try and_intros) <;> first | with_reducible assumption | (clear hE_0_0_1 hK_0_0; omega)) | omega
set_option maxHeartbeats 4000000 in
theorem vc_Re_advance_39_2 (x5 : Int) (x10 : Int) (x11 : Int) (x13 : Int) (kind_0 : Int) (begin_0 : Int) (end_0 : Int) (next_0 : Int) (number_0 : Int) (tape_0 : Int → Int) (tape_1 : Int → Int) (number_1 : Int) (begin_1 : Int) (next_1 : Int) (end_1 : Int) (k5 : 9 ≤ x5 ∧ x5 ≤ 1999) (k10 : 0 ≤ x10 ∧ x10 ≤ 2000) (k11 : 9 ≤ x11 ∧ x11 ≤ 1999) (k13 : 1 ≤ x13 ∧ x13 ≤ 1) (g0 : x13 = kind_0) (g1 : x10 = begin_0) (g4 : x5 = next_0) (f14 : x11 = x5 - x10) (fe_0_5_1 : end_0 = end_1) (fe_0_6_1 : next_0 = next_1) (fe_0_8_1 : begin_0 = begin_1) (fe_0_9_1 : number_0 = number_1) (hE_0_0_1 : ∀ j : Int, tape_0 j = tape_1 j) (hK_0_0 : ∀ j : Int, 0 ≤ j → j < 2000 → (-128) ≤ tape_0 j ∧ tape_0 j ≤ 127) (kz_0_5 : 0 ≤ end_0 ∧ end_0 ≤ 2000) (kz_0_6 : 0 ≤ next_0 ∧ next_0 ≤ 2000) (kz_0_7 : (-128) ≤ kind_0 ∧ kind_0 ≤ 127) (kz_0_8 : 0 ≤ begin_0 ∧ begin_0 ≤ 2000) (kz_0_9 : (-176) ≤ number_0 ∧ number_0 ≤ 1000000) : ((-1) * kind_0 + 0 ≤ (-3)) ∨ (1 * next_0 + ((-1) * begin_0 + (2000 * kind_0 + 0)) ≤ 4008) := by
  subst fe_0_5_1
  subst fe_0_6_1
  subst fe_0_8_1
  subst fe_0_9_1
  have e_hE_0_0_1 := funext hE_0_0_1; subst e_hE_0_0_1
  first | with_reducible assumption | ((try and_intros) <;> first | with_reducible assumption | (clear hE_0_0_1 hK_0_0; omega)) | omega
set_option maxHeartbeats 4000000 in
theorem vc_Re_advance_39_3 (begin_0 : Int) (end_0 : Int) (next_0 : Int) (number_0 : Int) (tape_0 : Int → Int) (tape_1 : Int → Int) (number_1 : Int) (begin_1 : Int) (next_1 : Int) (end_1 : Int) (f21 : 1 * begin_1 + ((-1) * next_1 + 0) ≤ 0) (fe_0_5_1 : end_0 = end_1) (fe_0_6_1 : next_0 = next_1) (fe_0_8_1 : begin_0 = begin_1) (fe_0_9_1 : number_0 = number_1) (hE_0_0_1 : ∀ j : Int, tape_0 j = tape_1 j) (hK_0_0 : ∀ j : Int, 0 ≤ j → j < 2000 → (-128) ≤ tape_0 j ∧ tape_0 j ≤ 127) (kz_0_5 : 0 ≤ end_0 ∧ end_0 ≤ 2000) (kz_0_6 : 0 ≤ next_0 ∧ next_0 ≤ 2000) (kz_0_8 : 0 ≤ begin_0 ∧ begin_0 ≤ 2000) (kz_0_9 : (-176) ≤ number_0 ∧ number_0 ≤ 1000000) : 1 * begin_0 + ((-1) * next_0 + 0) ≤ 0 := by
  subst fe_0_5_1
  subst fe_0_6_1
  subst fe_0_8_1
  subst fe_0_9_1
  have e_hE_0_0_1 := funext hE_0_0_1; subst e_hE_0_0_1
  first | with_reducible assumption | ((try and_intros) <;> first | with_reducible assumption | (clear hE_0_0_1 hK_0_0; omega)) | omega
set_option maxHeartbeats 4000000 in
theorem vc_Re_advance_39_4 (x2 : Int) (x5 : Int) (x6 : Int) (x8 : Int) (x9 : Int) (x10 : Int) (x11 : Int) (x13 : Int) (kind_0 : Int) (begin_0 : Int) (end_0 : Int) (next_0 : Int) (number_0 : Int) (tape_0 : Int → Int) (tape_1 : Int → Int) (number_1 : Int) (begin_1 : Int) (next_1 : Int) (end_1 : Int) (k2 : 0 ≤ x2 ∧ x2 ≤ 2000) (k5 : 9 ≤ x5 ∧ x5 ≤ 1999) (k6 : 10 ≤ x6 ∧ x6 ≤ 2000) (k8 : 123 ≤ x8 ∧ x8 ≤ 127) (k9 : 0 ≤ x9 ∧ x9 ≤ 0) (k10 : 0 ≤ x10 ∧ x10 ≤ 2000) (k11 : 9 ≤ x11 ∧ x11 ≤ 1999) (k13 : 1 ≤ x13 ∧ x13 ≤ 1) (g0 : x13 = kind_0) (g1 : x10 = begin_0) (g3 : x6 = end_0) (g4 : x5 = next_0) (f14 : x11 = x5 - x10) (f15 : x9 = 0) (f16 : CNBy (x8) (x9)) (h17 : x8 = tape_1 (x5)) (f22 : CXL (end_1) (next_1) (begin_1) (tape_1) (x2)) (fe_0_5_1 : end_0 = end_1) (fe_0_6_1 : next_0 = next_1) (fe_0_8_1 : begin_0 = begin_1) (fe_0_9_1 : number_0 = number_1) (hE_0_0_1 : ∀ j : Int, tape_0 j = tape_1 j) (hK_0_0 : ∀ j : Int, 0 ≤ j → j < 2000 → (-128) ≤ tape_0 j ∧ tape_0 j ≤ 127) (kz_0_5 : 0 ≤ end_0 ∧ end_0 ≤ 2000) (kz_0_6 : 0 ≤ next_0 ∧ next_0 ≤ 2000) (kz_0_7 : (-128) ≤ kind_0 ∧ kind_0 ≤ 127) (kz_0_8 : 0 ≤ begin_0 ∧ begin_0 ≤ 2000) (kz_0_9 : (-176) ≤ number_0 ∧ number_0 ≤ 1000000) : TKC (end_0) (next_0) (kind_0) (begin_0) (number_0) (tape_0) (x2) := by
  subst fe_0_5_1
  subst fe_0_6_1
  subst fe_0_8_1
  subst fe_0_9_1
  have e_hE_0_0_1 := funext hE_0_0_1; subst e_hE_0_0_1
  first | subst g0 | skip
  first | subst g1 | skip
  first | subst g3 | skip
  first | subst g4 | skip
  first
    | exact cxl_e (by assumption) ‹CXL _ _ _ _ _› (fun q => by omega) (by omega)
    | exact cxl_e (by assumption) ‹CXL _ _ _ _ _› (fun q => cnb_f ‹CNBy _ _› (by omega) (by omega)) (by omega)
    | exact cxd_e (by assumption) ‹CXD _ _ _ _ _ _› (fun q => by unfold cIG; omega) (by omega)
    | exact cxs_e (by assumption) (cx_1 (by assumption) ‹CX0 _ _ _ _› (fun q => by omega) (by omega)) (by omega) rfl (by unfold cIL; omega) (by unfold cIG; omega) (by omega) (Or.inl ⟨csg_t ‹CSG _ _› (by omega) (by omega), by omega⟩)
    | exact cxs_e (by assumption) (cx_1 (by assumption) ‹CX0 _ _ _ _› (fun q => by omega) (by omega)) (by omega) rfl (by unfold cIL; omega) (by unfold cIG; omega) (by omega) (Or.inr ⟨csg_f ‹CSG _ _› (by omega) (by omega), by omega⟩)
set_option maxHeartbeats 4000000 in
theorem vc_Re_advance_39_5 (x2 : Int) (begin_0 : Int) (end_0 : Int) (next_0 : Int) (number_0 : Int) (tape_0 : Int → Int) (tape_1 : Int → Int) (number_1 : Int) (begin_1 : Int) (next_1 : Int) (end_1 : Int) (k2 : 0 ≤ x2 ∧ x2 ≤ 2000) (f23 : 1 * x2 + ((-1) * next_1 + 0) ≤ 0) (fe_0_5_1 : end_0 = end_1) (fe_0_6_1 : next_0 = next_1) (fe_0_8_1 : begin_0 = begin_1) (fe_0_9_1 : number_0 = number_1) (hE_0_0_1 : ∀ j : Int, tape_0 j = tape_1 j) (hK_0_0 : ∀ j : Int, 0 ≤ j → j < 2000 → (-128) ≤ tape_0 j ∧ tape_0 j ≤ 127) (kz_0_5 : 0 ≤ end_0 ∧ end_0 ≤ 2000) (kz_0_6 : 0 ≤ next_0 ∧ next_0 ≤ 2000) (kz_0_8 : 0 ≤ begin_0 ∧ begin_0 ≤ 2000) (kz_0_9 : (-176) ≤ number_0 ∧ number_0 ≤ 1000000) : 1 * x2 + ((-1) * next_0 + 0) ≤ 0 := by
  subst fe_0_5_1
  subst fe_0_6_1
  subst fe_0_8_1
  subst fe_0_9_1
  have e_hE_0_0_1 := funext hE_0_0_1; subst e_hE_0_0_1
  first | with_reducible assumption | ((try and_intros) <;> first | with_reducible assumption | (clear hE_0_0_1 hK_0_0; omega)) | omega
def o_Re_advance_39 : or_T := (290, 14, [(0, (2, 0, 0, [8])), (1, (0, -2147483648, 1000000, [])), (2, (0, 0, 2000, [])), (3, (2, 0, 0, [8])), (5, (0, 9, 1999, [])), (6, (0, 10, 2000, [])), (7, (2, 0, 0, [109])), (8, (0, 123, 127, [])), (9, (0, 0, 0, [])), (10, (0, 0, 2000, [])), (11, (0, 9, 1999, [])), (12, (0, 8, 8, [])), (13, (0, 1, 1, []))], [(9, [13, 3], [7]), (9, [10, 3], [8]), (9, [7, 3], [0]), (9, [6, 3], [5]), (9, [5, 3], [6]), (20, [8, 9], [61, 0, 1099]), (20, [3, 1], [30, 0, 1, 1, 9, -1, 0, 0]), (20, [3, 1], [30, 0, -1, 1, 9, 1, 0, 0]), (20, [3, 3], [30, 0, 1, 1, 8, -1, 1, 6]), (20, [3, 2], [60, 3, 1, 1076, 5, 6, 8, 0]), (20, [2, 3], [30, 0, 1, 0, 0, -1, 1, 6]), (24, [0, 3], []), (101, [3, 13], [7]), (7, [11, 12], [4]), (2, [11, 5, 10], []), (8, [9], [0]), (20, [8, 9], [61, 0, 1099]), (10, [8, 7, 5], []), (7, [5, 6], [2]), (20, [3, 1], [30, 0, 1, 1, 9, -1, 0, 0]), (20, [3, 1], [30, 0, -1, 1, 9, 1, 0, 0]), (20, [3, 3], [30, 0, 1, 1, 8, -1, 1, 6]), (20, [3, 2], [60, 3, 1, 1076, 5, 6, 8, 0]), (20, [2, 3], [30, 0, 1, 0, 0, -1, 1, 6])], [], [], [(20, [0, 0, 1], [31, 1, 3, 1, 1, 7, 0, 1, 1, 9, -1, 0, 0]), (20, [0, 0, 1], [31, 1, 3, 1, 1, 7, 0, -1, 1, 9, 1, 0, 0]), (20, [0, 0, 0, 0], [31, 1, -3, -1, 1, 7, 4008, 1, 1, 6, -1, 1, 8, 2000, 1, 7]), (20, [0, 0], [30, 0, 1, 1, 8, -1, 1, 6]), (20, [0, 2], [60, 5, 1, 1072, 5, 6, 7, 8, 9, 0]), (20, [2, 0], [30, 0, 1, 0, 0, -1, 1, 6])], [], [(11, 5, -2000, 0), (11, 6, -4294967296, -1), (5, 6, -4294967296, -1)])
theorem oo_Re_advance_39 {kA : Nat → ClassId} : or_ok PRD kA GG o_Re_advance_39 := by
  refine or_mk fun A ta ws vs hD hth hl => ?_
  intro t0 r0 t1 k1 t2 k2 t3 r3 t5 k5 t6 k6 t7 r7 t8 k8 t9 k9 t10 k10 t11 k11 t12 k12 t13 k13 d0 d1 d2 f0 f1 f2 f3 f4 f5 f6 f7 f8 f9 f10 f11 ta1 w1 le1 s1 f13 f14 f15 f16 f17 f18 f19 f20 f21 f22 f23
  replace f0 := shm_198 f0
  replace f1 := shm_293 f1
  replace f2 := shm_163 f2
  replace f3 := shm_110 f3
  replace f4 := shm_111 f4
  replace f11 := shm_5 f11
  have s1 : (∀ b j, w_el ws b j = w_el w1 b j) ∧ ∀ b j, w_fd ws b j = if b = v_ad (n_v vs 3) ∧ j = 7 then n_v vs 13 else w_fd w1 b j := s1.2
  replace f17 := shm_107 f17
  replace f21 := shm_1531 f21
  replace f22 := shm_1534 f22
  replace f23 := shm_1527 f23
  have q3 : n_v vs 3 = n_v vs 0 := f11.symm
  simp only [q3] at f0 f1 f2 f3 f4
  rw [q3] at s1
  simp only [q3] at f21 f22 f23
  have ar_0_0_1 : w_ar w1 (n_v vs 0) 0 = w_ar ws (n_v vs 0) 0 := by show v_ad (w_fd w1 _ _) = v_ad (w_fd ws _ _); rw [s1.2, if_neg (fun e => absurd e.2 (by decide))]
  have cr_0_0 := fdq_95 hD hth r0
  have ad_7 : v_ad (n_v vs 7) = w_ar ws (n_v vs 0) 0 := congrArg v_ad f2
  have g0 : v_iv (n_v vs 13) = w_fi ws (n_v vs 0) 7 := congrArg v_iv f0
  have g1 : v_iv (n_v vs 10) = w_fi ws (n_v vs 0) 8 := congrArg v_iv f1
  have g3 : v_iv (n_v vs 6) = w_fi ws (n_v vs 0) 5 := congrArg v_iv f3
  have g4 : v_iv (n_v vs 5) = w_fi ws (n_v vs 0) 6 := congrArg v_iv f4
  simp only [ad_7] at f17
  have h17 : v_iv (n_v vs 8) = w_ei w1 (w_ar ws (n_v vs 0) 0) (v_iv (n_v vs 5)) := f17
  simp only [ar_0_0_1] at f22
  have fe_0_5_1 : w_fi ws (n_v vs 0) 5 = w_fi w1 (n_v vs 0) 5 := by show v_iv (w_fd _ _ _) = v_iv (w_fd _ _ _); rw [s1.2, if_neg (fun e => absurd e.2 (by decide))]
  have fe_0_6_1 : w_fi ws (n_v vs 0) 6 = w_fi w1 (n_v vs 0) 6 := by show v_iv (w_fd _ _ _) = v_iv (w_fd _ _ _); rw [s1.2, if_neg (fun e => absurd e.2 (by decide))]
  have fe_0_8_1 : w_fi ws (n_v vs 0) 8 = w_fi w1 (n_v vs 0) 8 := by show v_iv (w_fd _ _ _) = v_iv (w_fd _ _ _); rw [s1.2, if_neg (fun e => absurd e.2 (by decide))]
  have fe_0_9_1 : w_fi ws (n_v vs 0) 9 = w_fi w1 (n_v vs 0) 9 := by show v_iv (w_fd _ _ _) = v_iv (w_fd _ _ _); rw [s1.2, if_neg (fun e => absurd e.2 (by decide))]
  have hE_0_0_1 : ∀ j : Int, w_ei ws (w_ar ws (n_v vs 0) 0) j = w_ei w1 (w_ar ws (n_v vs 0) 0) j := fun j => s1.1 _ _
  have hK_0_0 := elq_33 hD hth cr_0_0
  have kz_0_5 := fdq_207 hD hth r0
  have kz_0_6 := fdq_208 hD hth r0
  have kz_0_7 := fdq_297 hD hth r0
  have kz_0_8 := fdq_99 hD hth r0
  have kz_0_9 := fdq_296 hD hth r0
  have nf0 : fc_1 PRD (20, [0, 0, 1], [31, 1, 3, 1, 1, 7, 0, 1, 1, 9, -1, 0, 0]) ws (vs) := ⟨nf_in hl rfl, sgq_1528 (vc_Re_advance_39_0 (v_iv (n_v vs 1)) (v_iv (n_v vs 13)) (w_fi ws (n_v vs 0) 7) (w_fi ws (n_v vs 0) 8) (w_fi ws (n_v vs 0) 5) (w_fi ws (n_v vs 0) 6) (w_fi ws (n_v vs 0) 9) (w_ei ws (w_ar ws (n_v vs 0) 0)) (w_ei w1 (w_ar ws (n_v vs 0) 0)) (w_fi w1 (n_v vs 0) 9) (w_fi w1 (n_v vs 0) 8) (w_fi w1 (n_v vs 0) 6) (w_fi w1 (n_v vs 0) 5) k1 k13 g0 fe_0_5_1 fe_0_6_1 fe_0_8_1 fe_0_9_1 hE_0_0_1 hK_0_0 kz_0_5 kz_0_6 kz_0_7 kz_0_8 kz_0_9)⟩
  have nf1 : fc_1 PRD (20, [0, 0, 1], [31, 1, 3, 1, 1, 7, 0, -1, 1, 9, 1, 0, 0]) ws (vs) := ⟨nf_in hl rfl, sgq_1529 (vc_Re_advance_39_1 (v_iv (n_v vs 1)) (v_iv (n_v vs 13)) (w_fi ws (n_v vs 0) 7) (w_fi ws (n_v vs 0) 8) (w_fi ws (n_v vs 0) 5) (w_fi ws (n_v vs 0) 6) (w_fi ws (n_v vs 0) 9) (w_ei ws (w_ar ws (n_v vs 0) 0)) (w_ei w1 (w_ar ws (n_v vs 0) 0)) (w_fi w1 (n_v vs 0) 9) (w_fi w1 (n_v vs 0) 8) (w_fi w1 (n_v vs 0) 6) (w_fi w1 (n_v vs 0) 5) k1 k13 g0 fe_0_5_1 fe_0_6_1 fe_0_8_1 fe_0_9_1 hE_0_0_1 hK_0_0 kz_0_5 kz_0_6 kz_0_7 kz_0_8 kz_0_9)⟩
  have nf2 : fc_1 PRD (20, [0, 0, 0, 0], [31, 1, -3, -1, 1, 7, 4008, 1, 1, 6, -1, 1, 8, 2000, 1, 7]) ws (vs) := ⟨nf_in hl rfl, sgq_1530 (vc_Re_advance_39_2 (v_iv (n_v vs 5)) (v_iv (n_v vs 10)) (v_iv (n_v vs 11)) (v_iv (n_v vs 13)) (w_fi ws (n_v vs 0) 7) (w_fi ws (n_v vs 0) 8) (w_fi ws (n_v vs 0) 5) (w_fi ws (n_v vs 0) 6) (w_fi ws (n_v vs 0) 9) (w_ei ws (w_ar ws (n_v vs 0) 0)) (w_ei w1 (w_ar ws (n_v vs 0) 0)) (w_fi w1 (n_v vs 0) 9) (w_fi w1 (n_v vs 0) 8) (w_fi w1 (n_v vs 0) 6) (w_fi w1 (n_v vs 0) 5) k5 k10 k11 k13 g0 g1 g4 (shm_14 f14) fe_0_5_1 fe_0_6_1 fe_0_8_1 fe_0_9_1 hE_0_0_1 hK_0_0 kz_0_5 kz_0_6 kz_0_7 kz_0_8 kz_0_9)⟩
  have nf3 : fc_1 PRD (20, [0, 0], [30, 0, 1, 1, 8, -1, 1, 6]) ws (vs) := ⟨nf_in hl rfl, sgq_1531 (vc_Re_advance_39_3 (w_fi ws (n_v vs 0) 8) (w_fi ws (n_v vs 0) 5) (w_fi ws (n_v vs 0) 6) (w_fi ws (n_v vs 0) 9) (w_ei ws (w_ar ws (n_v vs 0) 0)) (w_ei w1 (w_ar ws (n_v vs 0) 0)) (w_fi w1 (n_v vs 0) 9) (w_fi w1 (n_v vs 0) 8) (w_fi w1 (n_v vs 0) 6) (w_fi w1 (n_v vs 0) 5) f21 fe_0_5_1 fe_0_6_1 fe_0_8_1 fe_0_9_1 hE_0_0_1 hK_0_0 kz_0_5 kz_0_6 kz_0_8 kz_0_9)⟩
  have nf4 : fc_1 PRD (20, [0, 2], [60, 5, 1, 1072, 5, 6, 7, 8, 9, 0]) ws (vs) := ⟨nf_in hl rfl, sgq_1532 (vc_Re_advance_39_4 (v_iv (n_v vs 2)) (v_iv (n_v vs 5)) (v_iv (n_v vs 6)) (v_iv (n_v vs 8)) (v_iv (n_v vs 9)) (v_iv (n_v vs 10)) (v_iv (n_v vs 11)) (v_iv (n_v vs 13)) (w_fi ws (n_v vs 0) 7) (w_fi ws (n_v vs 0) 8) (w_fi ws (n_v vs 0) 5) (w_fi ws (n_v vs 0) 6) (w_fi ws (n_v vs 0) 9) (w_ei ws (w_ar ws (n_v vs 0) 0)) (w_ei w1 (w_ar ws (n_v vs 0) 0)) (w_fi w1 (n_v vs 0) 9) (w_fi w1 (n_v vs 0) 8) (w_fi w1 (n_v vs 0) 6) (w_fi w1 (n_v vs 0) 5) k2 k5 k6 k8 k9 k10 k11 k13 g0 g1 g3 g4 (shm_14 f14) (shm_192 f15) (shm_1116 f16) h17 f22 fe_0_5_1 fe_0_6_1 fe_0_8_1 fe_0_9_1 hE_0_0_1 hK_0_0 kz_0_5 kz_0_6 kz_0_7 kz_0_8 kz_0_9)⟩
  have nf5 : fc_1 PRD (20, [2, 0], [30, 0, 1, 0, 0, -1, 1, 6]) ws (vs) := ⟨nf_in hl rfl, sgq_1527 (vc_Re_advance_39_5 (v_iv (n_v vs 2)) (w_fi ws (n_v vs 0) 8) (w_fi ws (n_v vs 0) 5) (w_fi ws (n_v vs 0) 6) (w_fi ws (n_v vs 0) 9) (w_ei ws (w_ar ws (n_v vs 0) 0)) (w_ei w1 (w_ar ws (n_v vs 0) 0)) (w_fi w1 (n_v vs 0) 9) (w_fi w1 (n_v vs 0) 8) (w_fi w1 (n_v vs 0) 6) (w_fi w1 (n_v vs 0) 5) k2 f23 fe_0_5_1 fe_0_6_1 fe_0_8_1 fe_0_9_1 hE_0_0_1 hK_0_0 kz_0_5 kz_0_6 kz_0_8 kz_0_9)⟩
  refine ⟨(fun _ h => (by cases h)), [], trivial, ?_, (fun _ h => (by cases h))⟩
  rw [List.append_nil]
  exact List.forall_mem_cons.mpr ⟨⟨show (20 : Nat) < 100 from by decide, nf0⟩, List.forall_mem_cons.mpr ⟨⟨show (20 : Nat) < 100 from by decide, nf1⟩, List.forall_mem_cons.mpr ⟨⟨show (20 : Nat) < 100 from by decide, nf2⟩, List.forall_mem_cons.mpr ⟨⟨show (20 : Nat) < 100 from by decide, nf3⟩, List.forall_mem_cons.mpr ⟨⟨show (20 : Nat) < 100 from by decide, nf4⟩, List.forall_mem_cons.mpr ⟨⟨show (20 : Nat) < 100 from by decide, nf5⟩, (fun _ h => (by cases h))⟩⟩⟩⟩⟩⟩
set_option maxHeartbeats 4000000 in
theorem vc_Re_advance_40_0 (x1 : Int) (x13 : Int) (kind_0 : Int) (begin_0 : Int) (end_0 : Int) (next_0 : Int) (number_0 : Int) (tape_0 : Int → Int) (tape_1 : Int → Int) (number_1 : Int) (begin_1 : Int) (next_1 : Int) (end_1 : Int) (k1 : (-2147483648) ≤ x1 ∧ x1 ≤ 1000000) (k13 : 2 ≤ x13 ∧ x13 ≤ 2) (g0 : x13 = kind_0) (fe_0_5_1 : end_0 = end_1) (fe_0_6_1 : next_0 = next_1) (fe_0_8_1 : begin_0 = begin_1) (fe_0_9_1 : number_0 = number_1) (hE_0_0_1 : ∀ j : Int, tape_0 j = tape_1 j) (hK_0_0 : ∀ j : Int, 0 ≤ j → j < 2000 → (-128) ≤ tape_0 j ∧ tape_0 j ≤ 127) (kz_0_5 : 0 ≤ end_0 ∧ end_0 ≤ 2000) (kz_0_6 : 0 ≤ next_0 ∧ next_0 ≤ 2000) (kz_0_7 : (-128) ≤ kind_0 ∧ kind_0 ≤ 127) (kz_0_8 : 0 ≤ begin_0 ∧ begin_0 ≤ 2000) (kz_0_9 : (-176) ≤ number_0 ∧ number_0 ≤ 1000000) : (1 * kind_0 + 0 ≤ 3) ∨ (1 * number_0 + ((-1) * x1 + 0) ≤ 0) := by
  subst fe_0_5_1
  subst fe_0_6_1
  subst fe_0_8_1
  subst fe_0_9_1
  have e_hE_0_0_1 := funext hE_0_0_1; subst e_hE_0_0_1
  first | with_reducible assumption | ((try and_intros) <;> first | with_reducible assumption | (clear hE_0_0_1 hK_0_0; omega)) | omega
set_option maxHeartbeats 4000000 in
theorem vc_Re_advance_40_1 (x1 : Int) (x13 : Int) (kind_0 : Int) (begin_0 : Int) (end_0 : Int) (next_0 : Int) (number_0 : Int) (tape_0 : Int → Int) (tape_1 : Int → Int) (number_1 : Int) (begin_1 : Int) (next_1 : Int) (end_1 : Int) (k1 : (-2147483648) ≤ x1 ∧ x1 ≤ 1000000) (k13 : 2 ≤ x13 ∧ x13 ≤ 2) (g0 : x13 = kind_0) (fe_0_5_1 : end_0 = end_1) (fe_0_6_1 : next_0 = next_1) (fe_0_8_1 : begin_0 = begin_1) (fe_0_9_1 : number_0 = number_1) (hE_0_0_1 : ∀ j : Int, tape_0 j = tape_1 j) (hK_0_0 : ∀ j : Int, 0 ≤ j → j < 2000 → (-128) ≤ tape_0 j ∧ tape_0 j ≤ 127) (kz_0_5 : 0 ≤ end_0 ∧ end_0 ≤ 2000) (kz_0_6 : 0 ≤ next_0 ∧ next_0 ≤ 2000) (kz_0_7 : (-128) ≤ kind_0 ∧ kind_0 ≤ 127) (kz_0_8 : 0 ≤ begin_0 ∧ begin_0 ≤ 2000) (kz_0_9 : (-176) ≤ number_0 ∧ number_0 ≤ 1000000) : (1 * kind_0 + 0 ≤ 3) ∨ ((-1) * number_0 + (1 * x1 + 0) ≤ 0) := by
  subst fe_0_5_1
  subst fe_0_6_1
  subst fe_0_8_1
  subst fe_0_9_1
  have e_hE_0_0_1 := funext hE_0_0_1; subst e_hE_0_0_1
  first | with_reducible assumption | ((try and_intros) <;> first | with_reducible assumption | (clear hE_0_0_1 hK_0_0; omega)) | omega
set_option maxHeartbeats 4000000 in
theorem vc_Re_advance_40_2 (x5 : Int) (x10 : Int) (x11 : Int) (x13 : Int) (kind_0 : Int) (begin_0 : Int) (end_0 : Int) (next_0 : Int) (number_0 : Int) (tape_0 : Int → Int) (tape_1 : Int → Int) (number_1 : Int) (begin_1 : Int) (next_1 : Int) (end_1 : Int) (k5 : 0 ≤ x5 ∧ x5 ≤ 1999) (k10 : 0 ≤ x10 ∧ x10 ≤ 2000) (k11 : (-2000) ≤ x11 ∧ x11 ≤ 8) (k13 : 2 ≤ x13 ∧ x13 ≤ 2) (g0 : x13 = kind_0) (g1 : x10 = begin_0) (g4 : x5 = next_0) (f8 : 1 * begin_0 + ((-1) * next_0 + 0) ≤ 0) (f14 : x11 = x5 - x10) (fe_0_5_1 : end_0 = end_1) (fe_0_6_1 : next_0 = next_1) (fe_0_8_1 : begin_0 = begin_1) (fe_0_9_1 : number_0 = number_1) (hE_0_0_1 : ∀ j : Int, tape_0 j = tape_1 j) (hK_0_0 : ∀ j : Int, 0 ≤ j → j < 2000 → (-128) ≤ tape_0 j ∧ tape_0 j ≤ 127) (kz_0_5 : 0 ≤ end_0 ∧ end_0 ≤ 2000) (kz_0_6 : 0 ≤ next_0 ∧ next_0 ≤ 2000) (kz_0_7 : (-128) ≤ kind_0 ∧ kind_0 ≤ 127) (kz_0_8 : 0 ≤ begin_0 ∧ begin_0 ≤ 2000) (kz_0_9 : (-176) ≤ number_0 ∧ number_0 ≤ 1000000) : ((-1) * kind_0 + 0 ≤ (-3)) ∨ (1 * next_0 + ((-1) * begin_0 + (2000 * kind_0 + 0)) ≤ 4008) := by
  subst fe_0_5_1
  subst fe_0_6_1
  subst fe_0_8_1
  subst fe_0_9_1
  have e_hE_0_0_1 := funext hE_0_0_1; subst e_hE_0_0_1
  first | with_reducible assumption | ((try and_intros) <;> first | with_reducible assumption | (clear hE_0_0_1 hK_0_0; omega)) | omega
set_option maxHeartbeats 4000000 in
theorem vc_Re_advance_40_3 (begin_0 : Int) (end_0 : Int) (next_0 : Int) (number_0 : Int) (tape_0 : Int → Int) (tape_1 : Int → Int) (number_1 : Int) (begin_1 : Int) (next_1 : Int) (end_1 : Int) (f21 : 1 * begin_1 + ((-1) * next_1 + 0) ≤ 0) (fe_0_5_1 : end_0 = end_1) (fe_0_6_1 : next_0 = next_1) (fe_0_8_1 : begin_0 = begin_1) (fe_0_9_1 : number_0 = number_1) (hE_0_0_1 : ∀ j : Int, tape_0 j = tape_1 j) (hK_0_0 : ∀ j : Int, 0 ≤ j → j < 2000 → (-128) ≤ tape_0 j ∧ tape_0 j ≤ 127) (kz_0_5 : 0 ≤ end_0 ∧ end_0 ≤ 2000) (kz_0_6 : 0 ≤ next_0 ∧ next_0 ≤ 2000) (kz_0_8 : 0 ≤ begin_0 ∧ begin_0 ≤ 2000) (kz_0_9 : (-176) ≤ number_0 ∧ number_0 ≤ 1000000) : 1 * begin_0 + ((-1) * next_0 + 0) ≤ 0 := by
  subst fe_0_5_1
  subst fe_0_6_1
  subst fe_0_8_1
  subst fe_0_9_1
  have e_hE_0_0_1 := funext hE_0_0_1; subst e_hE_0_0_1
  first | with_reducible assumption | ((try and_intros) <;> first | with_reducible assumption | (clear hE_0_0_1 hK_0_0; omega)) | omega
set_option maxHeartbeats 4000000 in
theorem vc_Re_advance_40_4 (x2 : Int) (x5 : Int) (x6 : Int) (x8 : Int) (x9 : Int) (x10 : Int) (x11 : Int) (x13 : Int) (kind_0 : Int) (begin_0 : Int) (end_0 : Int) (next_0 : Int) (number_0 : Int) (tape_0 : Int → Int) (tape_1 : Int → Int) (number_1 : Int) (begin_1 : Int) (next_1 : Int) (end_1 : Int) (k2 : 0 ≤ x2 ∧ x2 ≤ 2000) (k5 : 0 ≤ x5 ∧ x5 ≤ 1999) (k6 : 1 ≤ x6 ∧ x6 ≤ 2000) (k8 : 123 ≤ x8 ∧ x8 ≤ 127) (k9 : 0 ≤ x9 ∧ x9 ≤ 0) (k10 : 0 ≤ x10 ∧ x10 ≤ 2000) (k11 : (-2000) ≤ x11 ∧ x11 ≤ 8) (k13 : 2 ≤ x13 ∧ x13 ≤ 2) (g0 : x13 = kind_0) (g1 : x10 = begin_0) (g3 : x6 = end_0) (g4 : x5 = next_0) (f8 : 1 * begin_0 + ((-1) * next_0 + 0) ≤ 0) (f14 : x11 = x5 - x10) (f15 : x9 = 0) (f16 : CNBy (x8) (x9)) (h17 : x8 = tape_1 (x5)) (f22 : CXL (end_1) (next_1) (begin_1) (tape_1) (x2)) (fe_0_5_1 : end_0 = end_1) (fe_0_6_1 : next_0 = next_1) (fe_0_8_1 : begin_0 = begin_1) (fe_0_9_1 : number_0 = number_1) (hE_0_0_1 : ∀ j : Int, tape_0 j = tape_1 j) (hK_0_0 : ∀ j : Int, 0 ≤ j → j < 2000 → (-128) ≤ tape_0 j ∧ tape_0 j ≤ 127) (kz_0_5 : 0 ≤ end_0 ∧ end_0 ≤ 2000) (kz_0_6 : 0 ≤ next_0 ∧ next_0 ≤ 2000) (kz_0_7 : (-128) ≤ kind_0 ∧ kind_0 ≤ 127) (kz_0_8 : 0 ≤ begin_0 ∧ begin_0 ≤ 2000) (kz_0_9 : (-176) ≤ number_0 ∧ number_0 ≤ 1000000) : TKC (end_0) (next_0) (kind_0) (begin_0) (number_0) (tape_0) (x2) := by
  subst fe_0_5_1
  subst fe_0_6_1
  subst fe_0_8_1
  subst fe_0_9_1
  have e_hE_0_0_1 := funext hE_0_0_1; subst e_hE_0_0_1
  first | subst g0 | skip
  first | subst g1 | skip
  first | subst g3 | skip
  first | subst g4 | skip
  first
    | exact cxl_e (by assumption) ‹CXL _ _ _ _ _› (fun q => by omega) (by omega)
    | exact cxl_e (by assumption) ‹CXL _ _ _ _ _› (fun q => cnb_f ‹CNBy _ _› (by omega) (by omega)) (by omega)
    | exact cxd_e (by assumption) ‹CXD _ _ _ _ _ _› (fun q => by unfold cIG; omega) (by omega)
    | exact cxs_e (by assumption) (cx_1 (by assumption) ‹CX0 _ _ _ _› (fun q => by omega) (by omega)) (by omega) rfl (by unfold cIL; omega) (by unfold cIG; omega) (by omega) (Or.inl ⟨csg_t ‹CSG _ _› (by omega) (by omega), by omega⟩)
    | exact cxs_e (by assumption) (cx_1 (by assumption) ‹CX0 _ _ _ _› (fun q => by omega) (by omega)) (by omega) rfl (by unfold cIL; omega) (by unfold cIG; omega) (by omega) (Or.inr ⟨csg_f ‹CSG _ _› (by omega) (by omega), by omega⟩)
set_option maxHeartbeats 4000000 in
theorem vc_Re_advance_40_5 (x2 : Int) (begin_0 : Int) (end_0 : Int) (next_0 : Int) (number_0 : Int) (tape_0 : Int → Int) (tape_1 : Int → Int) (number_1 : Int) (begin_1 : Int) (next_1 : Int) (end_1 : Int) (k2 : 0 ≤ x2 ∧ x2 ≤ 2000) (f23 : 1 * x2 + ((-1) * next_1 + 0) ≤ 0) (fe_0_5_1 : end_0 = end_1) (fe_0_6_1 : next_0 = next_1) (fe_0_8_1 : begin_0 = begin_1) (fe_0_9_1 : number_0 = number_1) (hE_0_0_1 : ∀ j : Int, tape_0 j = tape_1 j) (hK_0_0 : ∀ j : Int, 0 ≤ j → j < 2000 → (-128) ≤ tape_0 j ∧ tape_0 j ≤ 127) (kz_0_5 : 0 ≤ end_0 ∧ end_0 ≤ 2000) (kz_0_6 : 0 ≤ next_0 ∧ next_0 ≤ 2000) (kz_0_8 : 0 ≤ begin_0 ∧ begin_0 ≤ 2000) (kz_0_9 : (-176) ≤ number_0 ∧ number_0 ≤ 1000000) : 1 * x2 + ((-1) * next_0 + 0) ≤ 0 := by
  subst fe_0_5_1
  subst fe_0_6_1
  subst fe_0_8_1
  subst fe_0_9_1
  have e_hE_0_0_1 := funext hE_0_0_1; subst e_hE_0_0_1
  first | with_reducible assumption | ((try and_intros) <;> first | with_reducible assumption | (clear hE_0_0_1 hK_0_0; omega)) | omega
def o_Re_advance_40 : or_T := (290, 14, [(0, (2, 0, 0, [8])), (1, (0, -2147483648, 1000000, [])), (2, (0, 0, 2000, [])), (3, (2, 0, 0, [8])), (5, (0, 0, 1999, [])), (6, (0, 1, 2000, [])), (7, (2, 0, 0, [109])), (8, (0, 123, 127, [])), (9, (0, 0, 0, [])), (10, (0, 0, 2000, [])), (11, (0, -2000, 8, [])), (12, (0, 8, 8, [])), (13, (0, 2, 2, []))], [(9, [13, 3], [7]), (9, [10, 3], [8]), (9, [7, 3], [0]), (9, [6, 3], [5]), (9, [5, 3], [6]), (20, [8, 9], [61, 0, 1099]), (20, [3, 1], [30, 0, 1, 1, 9, -1, 0, 0]), (20, [3, 1], [30, 0, -1, 1, 9, 1, 0, 0]), (20, [3, 3], [30, 0, 1, 1, 8, -1, 1, 6]), (20, [3, 2], [60, 3, 1, 1076, 5, 6, 8, 0]), (20, [2, 3], [30, 0, 1, 0, 0, -1, 1, 6]), (24, [0, 3], []), (101, [3, 13], [7]), (7, [11, 12], [5]), (2, [11, 5, 10], []), (8, [9], [0]), (20, [8, 9], [61, 0, 1099]), (10, [8, 7, 5], []), (7, [5, 6], [2]), (20, [3, 1], [30, 0, 1, 1, 9, -1, 0, 0]), (20, [3, 1], [30, 0, -1, 1, 9, 1, 0, 0]), (20, [3, 3], [30, 0, 1, 1, 8, -1, 1, 6]), (20, [3, 2], [60, 3, 1, 1076, 5, 6, 8, 0]), (20, [2, 3], [30, 0, 1, 0, 0, -1, 1, 6])], [], [], [(20, [0, 0, 1], [31, 1, 3, 1, 1, 7, 0, 1, 1, 9, -1, 0, 0]), (20, [0, 0, 1], [31, 1, 3, 1, 1, 7, 0, -1, 1, 9, 1, 0, 0]), (20, [0, 0, 0, 0], [31, 1, -3, -1, 1, 7, 4008, 1, 1, 6, -1, 1, 8, 2000, 1, 7]), (20, [0, 0], [30, 0, 1, 1, 8, -1, 1, 6]), (20, [0, 2], [60, 5, 1, 1072, 5, 6, 7, 8, 9, 0]), (20, [2, 0], [30, 0, 1, 0, 0, -1, 1, 6])], [], [(11, 5, -2000, 0), (11, 6, -4294967296, -1), (5, 6, -4294967296, -1)])
theorem oo_Re_advance_40 {kA : Nat → ClassId} : or_ok PRD kA GG o_Re_advance_40 := by
  refine or_mk fun A ta ws vs hD hth hl => ?_
  intro t0 r0 t1 k1 t2 k2 t3 r3 t5 k5 t6 k6 t7 r7 t8 k8 t9 k9 t10 k10 t11 k11 t12 k12 t13 k13 d0 d1 d2 f0 f1 f2 f3 f4 f5 f6 f7 f8 f9 f10 f11 ta1 w1 le1 s1 f13 f14 f15 f16 f17 f18 f19 f20 f21 f22 f23
  replace f0 := shm_198 f0
  replace f1 := shm_293 f1
  replace f2 := shm_163 f2
  replace f3 := shm_110 f3
  replace f4 := shm_111 f4
  replace f8 := shm_1531 f8
  replace f11 := shm_5 f11
  have s1 : (∀ b j, w_el ws b j = w_el w1 b j) ∧ ∀ b j, w_fd ws b j = if b = v_ad (n_v vs 3) ∧ j = 7 then n_v vs 13 else w_fd w1 b j := s1.2
  replace f17 := shm_107 f17
  replace f21 := shm_1531 f21
  replace f22 := shm_1534 f22
  replace f23 := shm_1527 f23
  have q3 : n_v vs 3 = n_v vs 0 := f11.symm
  simp only [q3] at f0 f1 f2 f3 f4 f8
  rw [q3] at s1
  simp only [q3] at f21 f22 f23
  have ar_0_0_1 : w_ar w1 (n_v vs 0) 0 = w_ar ws (n_v vs 0) 0 := by show v_ad (w_fd w1 _ _) = v_ad (w_fd ws _ _); rw [s1.2, if_neg (fun e => absurd e.2 (by decide))]
  have cr_0_0 := fdq_95 hD hth r0
  have ad_7 : v_ad (n_v vs 7) = w_ar ws (n_v vs 0) 0 := congrArg v_ad f2
  have g0 : v_iv (n_v vs 13) = w_fi ws (n_v vs 0) 7 := congrArg v_iv f0
  have g1 : v_iv (n_v vs 10) = w_fi ws (n_v vs 0) 8 := congrArg v_iv f1
  have g3 : v_iv (n_v vs 6) = w_fi ws (n_v vs 0) 5 := congrArg v_iv f3
  have g4 : v_iv (n_v vs 5) = w_fi ws (n_v vs 0) 6 := congrArg v_iv f4
  simp only [ad_7] at f17
  have h17 : v_iv (n_v vs 8) = w_ei w1 (w_ar ws (n_v vs 0) 0) (v_iv (n_v vs 5)) := f17
  simp only [ar_0_0_1] at f22
  have fe_0_5_1 : w_fi ws (n_v vs 0) 5 = w_fi w1 (n_v vs 0) 5 := by show v_iv (w_fd _ _ _) = v_iv (w_fd _ _ _); rw [s1.2, if_neg (fun e => absurd e.2 (by decide))]
  have fe_0_6_1 : w_fi ws (n_v vs 0) 6 = w_fi w1 (n_v vs 0) 6 := by show v_iv (w_fd _ _ _) = v_iv (w_fd _ _ _); rw [s1.2, if_neg (fun e => absurd e.2 (by decide))]
  have fe_0_8_1 : w_fi ws (n_v vs 0) 8 = w_fi w1 (n_v vs 0) 8 := by show v_iv (w_fd _ _ _) = v_iv (w_fd _ _ _); rw [s1.2, if_neg (fun e => absurd e.2 (by decide))]
  have fe_0_9_1 : w_fi ws (n_v vs 0) 9 = w_fi w1 (n_v vs 0) 9 := by show v_iv (w_fd _ _ _) = v_iv (w_fd _ _ _); rw [s1.2, if_neg (fun e => absurd e.2 (by decide))]
  have hE_0_0_1 : ∀ j : Int, w_ei ws (w_ar ws (n_v vs 0) 0) j = w_ei w1 (w_ar ws (n_v vs 0) 0) j := fun j => s1.1 _ _
  have hK_0_0 := elq_33 hD hth cr_0_0
  have kz_0_5 := fdq_207 hD hth r0
  have kz_0_6 := fdq_208 hD hth r0
  have kz_0_7 := fdq_297 hD hth r0
  have kz_0_8 := fdq_99 hD hth r0
  have kz_0_9 := fdq_296 hD hth r0
  have nf0 : fc_1 PRD (20, [0, 0, 1], [31, 1, 3, 1, 1, 7, 0, 1, 1, 9, -1, 0, 0]) ws (vs) := ⟨nf_in hl rfl, sgq_1528 (vc_Re_advance_40_0 (v_iv (n_v vs 1)) (v_iv (n_v vs 13)) (w_fi ws (n_v vs 0) 7) (w_fi ws (n_v vs 0) 8) (w_fi ws (n_v vs 0) 5) (w_fi ws (n_v vs 0) 6) (w_fi ws (n_v vs 0) 9) (w_ei ws (w_ar ws (n_v vs 0) 0)) (w_ei w1 (w_ar ws (n_v vs 0) 0)) (w_fi w1 (n_v vs 0) 9) (w_fi w1 (n_v vs 0) 8) (w_fi w1 (n_v vs 0) 6) (w_fi w1 (n_v vs 0) 5) k1 k13 g0 fe_0_5_1 fe_0_6_1 fe_0_8_1 fe_0_9_1 hE_0_0_1 hK_0_0 kz_0_5 kz_0_6 kz_0_7 kz_0_8 kz_0_9)⟩
  have nf1 : fc_1 PRD (20, [0, 0, 1], [31, 1, 3, 1, 1, 7, 0, -1, 1, 9, 1, 0, 0]) ws (vs) := ⟨nf_in hl rfl, sgq_1529 (vc_Re_advance_40_1 (v_iv (n_v vs 1)) (v_iv (n_v vs 13)) (w_fi ws (n_v vs 0) 7) (w_fi ws (n_v vs 0) 8) (w_fi ws (n_v vs 0) 5) (w_fi ws (n_v vs 0) 6) (w_fi ws (n_v vs 0) 9) (w_ei ws (w_ar ws (n_v vs 0) 0)) (w_ei w1 (w_ar ws (n_v vs 0) 0)) (w_fi w1 (n_v vs 0) 9) (w_fi w1 (n_v vs 0) 8) (w_fi w1 (n_v vs 0) 6) (w_fi w1 (n_v vs 0) 5) k1 k13 g0 fe_0_5_1 fe_0_6_1 fe_0_8_1 fe_0_9_1 hE_0_0_1 hK_0_0 kz_0_5 kz_0_6 kz_0_7 kz_0_8 kz_0_9)⟩
  have nf2 : fc_1 PRD (20, [0, 0, 0, 0], [31, 1, -3, -1, 1, 7, 4008, 1, 1, 6, -1, 1, 8, 2000, 1, 7]) ws (vs) := ⟨nf_in hl rfl, sgq_1530 (vc_Re_advance_40_2 (v_iv (n_v vs 5)) (v_iv (n_v vs 10)) (v_iv (n_v vs 11)) (v_iv (n_v vs 13)) (w_fi ws (n_v vs 0) 7) (w_fi ws (n_v vs 0) 8) (w_fi ws (n_v vs 0) 5) (w_fi ws (n_v vs 0) 6) (w_fi ws (n_v vs 0) 9) (w_ei ws (w_ar ws (n_v vs 0) 0)) (w_ei w1 (w_ar ws (n_v vs 0) 0)) (w_fi w1 (n_v vs 0) 9) (w_fi w1 (n_v vs 0) 8) (w_fi w1 (n_v vs 0) 6) (w_fi w1 (n_v vs 0) 5) k5 k10 k11 k13 g0 g1 g4 f8 (shm_14 f14) fe_0_5_1 fe_0_6_1 fe_0_8_1 fe_0_9_1 hE_0_0_1 hK_0_0 kz_0_5 kz_0_6 kz_0_7 kz_0_8 kz_0_9)⟩
  have nf3 : fc_1 PRD (20, [0, 0], [30, 0, 1, 1, 8, -1, 1, 6]) ws (vs) := ⟨nf_in hl rfl, sgq_1531 (vc_Re_advance_40_3 (w_fi ws (n_v vs 0) 8) (w_fi ws (n_v vs 0) 5) (w_fi ws (n_v vs 0) 6) (w_fi ws (n_v vs 0) 9) (w_ei ws (w_ar ws (n_v vs 0) 0)) (w_ei w1 (w_ar ws (n_v vs 0) 0)) (w_fi w1 (n_v vs 0) 9) (w_fi w1 (n_v vs 0) 8) (w_fi w1 (n_v vs 0) 6) (w_fi w1 (n_v vs 0) 5) f21 fe_0_5_1 fe_0_6_1 fe_0_8_1 fe_0_9_1 hE_0_0_1 hK_0_0 kz_0_5 kz_0_6 kz_0_8 kz_0_9)⟩
  have nf4 : fc_1 PRD (20, [0, 2], [60, 5, 1, 1072, 5, 6, 7, 8, 9, 0]) ws (vs) := ⟨nf_in hl rfl, sgq_1532 (vc_Re_advance_40_4 (v_iv (n_v vs 2)) (v_iv (n_v vs 5)) (v_iv (n_v vs 6)) (v_iv (n_v vs 8)) (v_iv (n_v vs 9)) (v_iv (n_v vs 10)) (v_iv (n_v vs 11)) (v_iv (n_v vs 13)) (w_fi ws (n_v vs 0) 7) (w_fi ws (n_v vs 0) 8) (w_fi ws (n_v vs 0) 5) (w_fi ws (n_v vs 0) 6) (w_fi ws (n_v vs 0) 9) (w_ei ws (w_ar ws (n_v vs 0) 0)) (w_ei w1 (w_ar ws (n_v vs 0) 0)) (w_fi w1 (n_v vs 0) 9) (w_fi w1 (n_v vs 0) 8) (w_fi w1 (n_v vs 0) 6) (w_fi w1 (n_v vs 0) 5) k2 k5 k6 k8 k9 k10 k11 k13 g0 g1 g3 g4 f8 (shm_14 f14) (shm_192 f15) (shm_1116 f16) h17 f22 fe_0_5_1 fe_0_6_1 fe_0_8_1 fe_0_9_1 hE_0_0_1 hK_0_0 kz_0_5 kz_0_6 kz_0_7 kz_0_8 kz_0_9)⟩
  have nf5 : fc_1 PRD (20, [2, 0], [30, 0, 1, 0, 0, -1, 1, 6]) ws (vs) := ⟨nf_in hl rfl, sgq_1527 (vc_Re_advance_40_5 (v_iv (n_v vs 2)) (w_fi ws (n_v vs 0) 8) (w_fi ws (n_v vs 0) 5) (w_fi ws (n_v vs 0) 6) (w_fi ws (n_v vs 0) 9) (w_ei ws (w_ar ws (n_v vs 0) 0)) (w_ei w1 (w_ar ws (n_v vs 0) 0)) (w_fi w1 (n_v vs 0) 9) (w_fi w1 (n_v vs 0) 8) (w_fi w1 (n_v vs 0) 6) (w_fi w1 (n_v vs 0) 5) k2 f23 fe_0_5_1 fe_0_6_1 fe_0_8_1 fe_0_9_1 hE_0_0_1 hK_0_0 kz_0_5 kz_0_6 kz_0_8 kz_0_9)⟩
  refine ⟨(fun _ h => (by cases h)), [], trivial, ?_, (fun _ h => (by cases h))⟩
  rw [List.append_nil]
  exact List.forall_mem_cons.mpr ⟨⟨show (20 : Nat) < 100 from by decide, nf0⟩, List.forall_mem_cons.mpr ⟨⟨show (20 : Nat) < 100 from by decide, nf1⟩, List.forall_mem_cons.mpr ⟨⟨show (20 : Nat) < 100 from by decide, nf2⟩, List.forall_mem_cons.mpr ⟨⟨show (20 : Nat) < 100 from by decide, nf3⟩, List.forall_mem_cons.mpr ⟨⟨show (20 : Nat) < 100 from by decide, nf4⟩, List.forall_mem_cons.mpr ⟨⟨show (20 : Nat) < 100 from by decide, nf5⟩, (fun _ h => (by cases h))⟩⟩⟩⟩⟩⟩
set_option maxHeartbeats 4000000 in
theorem vc_Re_advance_41_0 (x1 : Int) (x11 : Int) (kind_0 : Int) (begin_0 : Int) (end_0 : Int) (number_0 : Int) (next_0 : Int) (tape_0 : Int → Int) (begin_1 : Int) (next_1 : Int) (tape_1 : Int → Int) (end_1 : Int) (number_1 : Int) (k1 : (-2147483648) ≤ x1 ∧ x1 ≤ 1000000) (k11 : 1 ≤ x11 ∧ x11 ≤ 1) (g0 : x11 = kind_0) (fe_0_5_1 : end_0 = end_1) (fe_0_6_1 : next_0 = next_1) (fe_0_8_1 : begin_0 = begin_1) (fe_0_9_1 : number_0 = number_1) (hE_0_0_1 : ∀ j : Int, tape_0 j = tape_1 j) (hK_0_0 : ∀ j : Int, 0 ≤ j → j < 2000 → (-128) ≤ tape_0 j ∧ tape_0 j ≤ 127) (kz_0_5 : 0 ≤ end_0 ∧ end_0 ≤ 2000) (kz_0_6 : 0 ≤ next_0 ∧ next_0 ≤ 2000) (kz_0_7 : (-128) ≤ kind_0 ∧ kind_0 ≤ 127) (kz_0_8 : 0 ≤ begin_0 ∧ begin_0 ≤ 2000) (kz_0_9 : (-176) ≤ number_0 ∧ number_0 ≤ 1000000) : (1 * kind_0 + 0 ≤ 3) ∨ (1 * number_0 + ((-1) * x1 + 0) ≤ 0) := by
  subst fe_0_5_1
  subst fe_0_6_1
  subst fe_0_8_1
  subst fe_0_9_1
  have e_hE_0_0_1 := funext hE_0_0_1; subst e_hE_0_0_1
  first | with_reducible assumption | ((try and_intros) <;> first | with_reducible assumption | (clear hE_0_0_1 hK_0_0; omega)) | omega
set_option maxHeartbeats 4000000 in
theorem vc_Re_advance_41_1 (x1 : Int) (x11 : Int) (kind_0 : Int) (begin_0 : Int) (end_0 : Int) (number_0 : Int) (next_0 : Int) (tape_0 : Int → Int) (begin_1 : Int) (next_1 : Int) (tape_1 : Int → Int) (end_1 : Int) (number_1 : Int) (k1 : (-2147483648) ≤ x1 ∧ x1 ≤ 1000000) (k11 : 1 ≤ x11 ∧ x11 ≤ 1) (g0 : x11 = kind_0) (fe_0_5_1 : end_0 = end_1) (fe_0_6_1 : next_0 = next_1) (fe_0_8_1 : begin_0 = begin_1) (fe_0_9_1 : number_0 = number_1) (hE_0_0_1 : ∀ j : Int, tape_0 j = tape_1 j) (hK_0_0 : ∀ j : Int, 0 ≤ j → j < 2000 → (-128) ≤ tape_0 j ∧ tape_0 j ≤ 127) (kz_0_5 : 0 ≤ end_0 ∧ end_0 ≤ 2000) (kz_0_6 : 0 ≤ next_0 ∧ next_0 ≤ 2000) (kz_0_7 : (-128) ≤ kind_0 ∧ kind_0 ≤ 127) (kz_0_8 : 0 ≤ begin_0 ∧ begin_0 ≤ 2000) (kz_0_9 : (-176) ≤ number_0 ∧ number_0 ≤ 1000000) : (1 * kind_0 + 0 ≤ 3) ∨ ((-1) * number_0 + (1 * x1 + 0) ≤ 0) := by
  subst fe_0_5_1
  subst fe_0_6_1
  subst fe_0_8_1
  subst fe_0_9_1
  have e_hE_0_0_1 := funext hE_0_0_1; subst e_hE_0_0_1
  first | with_reducible assumption | ((try and_intros) <;> first | with_reducible assumption | (clear hE_0_0_1 hK_0_0; omega)) | omega
set_option maxHeartbeats 4000000 in
theorem vc_Re_advance_41_2 (x6 : Int) (x8 : Int) (x9 : Int) (x11 : Int) (kind_0 : Int) (begin_0 : Int) (end_0 : Int) (number_0 : Int) (next_0 : Int) (tape_0 : Int → Int) (begin_1 : Int) (next_1 : Int) (tape_1 : Int → Int) (end_1 : Int) (number_1 : Int) (k6 : 4 ≤ x6 ∧ x6 ≤ 2000) (k8 : 0 ≤ x8 ∧ x8 ≤ 2000) (k9 : 4 ≤ x9 ∧ x9 ≤ 2000) (k11 : 1 ≤ x11 ∧ x11 ≤ 1) (g0 : x11 = kind_0) (g1 : x8 = begin_0) (g4 : x6 = next_0) (f11 : x9 = x6 - x8) (fe_0_5_1 : end_0 = end_1) (fe_0_6_1 : next_0 = next_1) (fe_0_8_1 : begin_0 = begin_1) (fe_0_9_1 : number_0 = number_1) (hE_0_0_1 : ∀ j : Int, tape_0 j = tape_1 j) (hK_0_0 : ∀ j : Int, 0 ≤ j → j < 2000 → (-128) ≤ tape_0 j ∧ tape_0 j ≤ 127) (kz_0_5 : 0 ≤ end_0 ∧ end_0 ≤ 2000) (kz_0_6 : 0 ≤ next_0 ∧ next_0 ≤ 2000) (kz_0_7 : (-128) ≤ kind_0 ∧ kind_0 ≤ 127) (kz_0_8 : 0 ≤ begin_0 ∧ begin_0 ≤ 2000) (kz_0_9 : (-176) ≤ number_0 ∧ number_0 ≤ 1000000) : ((-1) * kind_0 + 0 ≤ (-3)) ∨ (1 * next_0 + ((-1) * begin_0 + (2000 * kind_0 + 0)) ≤ 4008) := by
  subst fe_0_5_1
  subst fe_0_6_1
  subst fe_0_8_1
  subst fe_0_9_1
  have e_hE_0_0_1 := funext hE_0_0_1; subst e_hE_0_0_1
  first | with_reducible assumption | ((try and_intros) <;> first | with_reducible assumption | (clear hE_0_0_1 hK_0_0; omega)) | omega
set_option maxHeartbeats 4000000 in
theorem vc_Re_advance_41_3 (begin_0 : Int) (end_0 : Int) (number_0 : Int) (next_0 : Int) (tape_0 : Int → Int) (begin_1 : Int) (next_1 : Int) (tape_1 : Int → Int) (end_1 : Int) (number_1 : Int) (f13 : 1 * begin_1 + ((-1) * next_1 + 0) ≤ 0) (fe_0_5_1 : end_0 = end_1) (fe_0_6_1 : next_0 = next_1) (fe_0_8_1 : begin_0 = begin_1) (fe_0_9_1 : number_0 = number_1) (hE_0_0_1 : ∀ j : Int, tape_0 j = tape_1 j) (hK_0_0 : ∀ j : Int, 0 ≤ j → j < 2000 → (-128) ≤ tape_0 j ∧ tape_0 j ≤ 127) (kz_0_5 : 0 ≤ end_0 ∧ end_0 ≤ 2000) (kz_0_6 : 0 ≤ next_0 ∧ next_0 ≤ 2000) (kz_0_8 : 0 ≤ begin_0 ∧ begin_0 ≤ 2000) (kz_0_9 : (-176) ≤ number_0 ∧ number_0 ≤ 1000000) : 1 * begin_0 + ((-1) * next_0 + 0) ≤ 0 := by
  subst fe_0_5_1
  subst fe_0_6_1
  subst fe_0_8_1
  subst fe_0_9_1
  have e_hE_0_0_1 := funext hE_0_0_1; subst e_hE_0_0_1
  first | with_reducible assumption | ((try and_intros) <;> first | with_reducible assumption | (clear hE_0_0_1 hK_0_0; omega)) | omega
set_option maxHeartbeats 4000000 in
theorem vc_Re_advance_41_4 (x2 : Int) (x5 : Int) (x6 : Int) (x7 : Int) (x8 : Int) (x9 : Int) (x11 : Int) (kind_0 : Int) (begin_0 : Int) (end_0 : Int) (number_0 : Int) (next_0 : Int) (tape_0 : Int → Int) (begin_1 : Int) (next_1 : Int) (tape_1 : Int → Int) (end_1 : Int) (number_1 : Int) (k2 : 0 ≤ x2 ∧ x2 ≤ 2000) (k5 : (-176) ≤ x5 ∧ x5 ≤ 1000000) (k6 : 4 ≤ x6 ∧ x6 ≤ 2000) (k7 : 0 ≤ x7 ∧ x7 ≤ 2000) (k8 : 0 ≤ x8 ∧ x8 ≤ 2000) (k9 : 4 ≤ x9 ∧ x9 ≤ 2000) (k11 : 1 ≤ x11 ∧ x11 ≤ 1) (d1 : x7 + 0 ≤ x6 ∧ x6 ≤ x7 + 4294967296) (g0 : x11 = kind_0) (g1 : x8 = begin_0) (g2 : x7 = end_0) (g3 : x5 = number_0) (g4 : x6 = next_0) (f11 : x9 = x6 - x8) (f14 : CXD (end_1) (next_1) (begin_1) (number_1) (tape_1) (x2)) (fe_0_5_1 : end_0 = end_1) (fe_0_6_1 : next_0 = next_1) (fe_0_8_1 : begin_0 = begin_1) (fe_0_9_1 : number_0 = number_1) (hE_0_0_1 : ∀ j : Int, tape_0 j = tape_1 j) (hK_0_0 : ∀ j : Int, 0 ≤ j → j < 2000 → (-128) ≤ tape_0 j ∧ tape_0 j ≤ 127) (kz_0_5 : 0 ≤ end_0 ∧ end_0 ≤ 2000) (kz_0_6 : 0 ≤ next_0 ∧ next_0 ≤ 2000) (kz_0_7 : (-128) ≤ kind_0 ∧ kind_0 ≤ 127) (kz_0_8 : 0 ≤ begin_0 ∧ begin_0 ≤ 2000) (kz_0_9 : (-176) ≤ number_0 ∧ number_0 ≤ 1000000) : TKC (end_0) (next_0) (kind_0) (begin_0) (number_0) (tape_0) (x2) := by
  subst fe_0_5_1
  subst fe_0_6_1
  subst fe_0_8_1
  subst fe_0_9_1
  have e_hE_0_0_1 := funext hE_0_0_1; subst e_hE_0_0_1
  first | subst g0 | skip
  first | subst g1 | skip
  first | subst g2 | skip
  first | subst g3 | skip
  first | subst g4 | skip
  first
    | exact cxl_e (by assumption) ‹CXL _ _ _ _ _› (fun q => by omega) (by omega)
    | exact cxl_e (by assumption) ‹CXL _ _ _ _ _› (fun q => cnb_f ‹CNBy _ _› (by omega) (by omega)) (by omega)
    | exact cxd_e (by assumption) ‹CXD _ _ _ _ _ _› (fun q => by unfold cIG; omega) (by omega)
    | exact cxs_e (by assumption) (cx_1 (by assumption) ‹CX0 _ _ _ _› (fun q => by omega) (by omega)) (by omega) rfl (by unfold cIL; omega) (by unfold cIG; omega) (by omega) (Or.inl ⟨csg_t ‹CSG _ _› (by omega) (by omega), by omega⟩)
    | exact cxs_e (by assumption) (cx_1 (by assumption) ‹CX0 _ _ _ _› (fun q => by omega) (by omega)) (by omega) rfl (by unfold cIL; omega) (by unfold cIG; omega) (by omega) (Or.inr ⟨csg_f ‹CSG _ _› (by omega) (by omega), by omega⟩)
set_option maxHeartbeats 4000000 in
theorem vc_Re_advance_41_5 (x2 : Int) (begin_0 : Int) (end_0 : Int) (number_0 : Int) (next_0 : Int) (tape_0 : Int → Int) (begin_1 : Int) (next_1 : Int) (tape_1 : Int → Int) (end_1 : Int) (number_1 : Int) (k2 : 0 ≤ x2 ∧ x2 ≤ 2000) (f15 : 1 * x2 + ((-1) * next_1 + 0) ≤ 0) (fe_0_5_1 : end_0 = end_1) (fe_0_6_1 : next_0 = next_1) (fe_0_8_1 : begin_0 = begin_1) (fe_0_9_1 : number_0 = number_1) (hE_0_0_1 : ∀ j : Int, tape_0 j = tape_1 j) (hK_0_0 : ∀ j : Int, 0 ≤ j → j < 2000 → (-128) ≤ tape_0 j ∧ tape_0 j ≤ 127) (kz_0_5 : 0 ≤ end_0 ∧ end_0 ≤ 2000) (kz_0_6 : 0 ≤ next_0 ∧ next_0 ≤ 2000) (kz_0_8 : 0 ≤ begin_0 ∧ begin_0 ≤ 2000) (kz_0_9 : (-176) ≤ number_0 ∧ number_0 ≤ 1000000) : 1 * x2 + ((-1) * next_0 + 0) ≤ 0 := by
  subst fe_0_5_1
  subst fe_0_6_1
  subst fe_0_8_1
  subst fe_0_9_1
  have e_hE_0_0_1 := funext hE_0_0_1; subst e_hE_0_0_1
  first | with_reducible assumption | ((try and_intros) <;> first | with_reducible assumption | (clear hE_0_0_1 hK_0_0; omega)) | omega
end
section

def o_Re_advance_41 : or_T := (290, 12, [(0, (2, 0, 0, [8])), (1, (0, -2147483648, 1000000, [])), (2, (0, 0, 2000, [])), (3, (2, 0, 0, [8])), (5, (0, -176, 1000000, [])), (6, (0, 4, 2000, [])), (7, (0, 0, 2000, [])), (8, (0, 0, 2000, [])), (9, (0, 4, 2000, [])), (10, (0, 3, 3, [])), (11, (0, 1, 1, []))], [(9, [11, 3], [7]), (9, [8, 3], [8]), (9, [7, 3], [5]), (9, [5, 3], [9]), (9, [6, 3], [6]), (20, [3, 3], [30, 0, 1, 1, 8, -1, 1, 6]), (20, [3, 2], [60, 4, 1, 1077, 5, 6, 8, 9, 0]), (20, [2, 3], [30, 0, 1, 0, 0, -1, 1, 6]), (24, [0, 3], []), (101, [3, 11], [7]), (7, [9, 10], [4]), (2, [9, 6, 8], []), (7, [6, 7], [3]), (20, [3, 3], [30, 0, 1, 1, 8, -1, 1, 6]), (20, [3, 2], [60, 4, 1, 1077, 5, 6, 8, 9, 0]), (20, [2, 3], [30, 0, 1, 0, 0, -1, 1, 6])], [], [], [(20, [0, 0, 1], [31, 1, 3, 1, 1, 7, 0, 1, 1, 9, -1, 0, 0]), (20, [0, 0, 1], [31, 1, 3, 1, 1, 7, 0, -1, 1, 9, 1, 0, 0]), (20, [0, 0, 0, 0], [31, 1, -3, -1, 1, 7, 4008, 1, 1, 6, -1, 1, 8, 2000, 1, 7]), (20, [0, 0], [30, 0, 1, 1, 8, -1, 1, 6]), (20, [0, 2], [60, 5, 1, 1072, 5, 6, 7, 8, 9, 0]), (20, [2, 0], [30, 0, 1, 0, 0, -1, 1, 6])], [], [(9, 6, -2000, 0), (6, 7, 0, 4294967296)])
theorem oo_Re_advance_41 {kA : Nat → ClassId} : or_ok PRD kA GG o_Re_advance_41 := by
  refine or_mk fun A ta ws vs hD hth hl => ?_
  intro t0 r0 t1 k1 t2 k2 t3 r3 t5 k5 t6 k6 t7 k7 t8 k8 t9 k9 t10 k10 t11 k11 d0 d1 f0 f1 f2 f3 f4 f5 f6 f7 f8 ta1 w1 le1 s1 f10 f11 f12 f13 f14 f15
  replace f0 := shm_198 f0
  replace f1 := shm_293 f1
  replace f2 := shm_110 f2
  replace f3 := shm_119 f3
  replace f4 := shm_111 f4
  replace f8 := shm_5 f8
  have s1 : (∀ b j, w_el ws b j = w_el w1 b j) ∧ ∀ b j, w_fd ws b j = if b = v_ad (n_v vs 3) ∧ j = 7 then n_v vs 11 else w_fd w1 b j := s1.2
  replace f13 := shm_1531 f13
  replace f14 := shm_1533 f14
  replace f15 := shm_1527 f15
  have q3 : n_v vs 3 = n_v vs 0 := f8.symm
  simp only [q3] at f0 f1 f2 f3 f4
  rw [q3] at s1
  simp only [q3] at f13 f14 f15
  have ar_0_0_1 : w_ar w1 (n_v vs 0) 0 = w_ar ws (n_v vs 0) 0 := by show v_ad (w_fd w1 _ _) = v_ad (w_fd ws _ _); rw [s1.2, if_neg (fun e => absurd e.2 (by decide))]
  have cr_0_0 := fdq_95 hD hth r0
  have g0 : v_iv (n_v vs 11) = w_fi ws (n_v vs 0) 7 := congrArg v_iv f0
  have g1 : v_iv (n_v vs 8) = w_fi ws (n_v vs 0) 8 := congrArg v_iv f1
  have g2 : v_iv (n_v vs 7) = w_fi ws (n_v vs 0) 5 := congrArg v_iv f2
  have g3 : v_iv (n_v vs 5) = w_fi ws (n_v vs 0) 9 := congrArg v_iv f3
  have g4 : v_iv (n_v vs 6) = w_fi ws (n_v vs 0) 6 := congrArg v_iv f4
  simp only [ar_0_0_1] at f14
  have fe_0_5_1 : w_fi ws (n_v vs 0) 5 = w_fi w1 (n_v vs 0) 5 := by show v_iv (w_fd _ _ _) = v_iv (w_fd _ _ _); rw [s1.2, if_neg (fun e => absurd e.2 (by decide))]
  have fe_0_6_1 : w_fi ws (n_v vs 0) 6 = w_fi w1 (n_v vs 0) 6 := by show v_iv (w_fd _ _ _) = v_iv (w_fd _ _ _); rw [s1.2, if_neg (fun e => absurd e.2 (by decide))]
  have fe_0_8_1 : w_fi ws (n_v vs 0) 8 = w_fi w1 (n_v vs 0) 8 := by show v_iv (w_fd _ _ _) = v_iv (w_fd _ _ _); rw [s1.2, if_neg (fun e => absurd e.2 (by decide))]
  have fe_0_9_1 : w_fi ws (n_v vs 0) 9 = w_fi w1 (n_v vs 0) 9 := by show v_iv (w_fd _ _ _) = v_iv (w_fd _ _ _); rw [s1.2, if_neg (fun e => absurd e.2 (by decide))]
  have hE_0_0_1 : ∀ j : Int, w_ei ws (w_ar ws (n_v vs 0) 0) j = w_ei w1 (w_ar ws (n_v vs 0) 0) j := fun j => s1.1 _ _
  have hK_0_0 := elq_33 hD hth cr_0_0
  have kz_0_5 := fdq_207 hD hth r0
  have kz_0_6 := fdq_208 hD hth r0
  have kz_0_7 := fdq_297 hD hth r0
  have kz_0_8 := fdq_99 hD hth r0
  have kz_0_9 := fdq_296 hD hth r0
  have nf0 : fc_1 PRD (20, [0, 0, 1], [31, 1, 3, 1, 1, 7, 0, 1, 1, 9, -1, 0, 0]) ws (vs) := ⟨nf_in hl rfl, sgq_1528 (vc_Re_advance_41_0 (v_iv (n_v vs 1)) (v_iv (n_v vs 11)) (w_fi ws (n_v vs 0) 7) (w_fi ws (n_v vs 0) 8) (w_fi ws (n_v vs 0) 5) (w_fi ws (n_v vs 0) 9) (w_fi ws (n_v vs 0) 6) (w_ei ws (w_ar ws (n_v vs 0) 0)) (w_fi w1 (n_v vs 0) 8) (w_fi w1 (n_v vs 0) 6) (w_ei w1 (w_ar ws (n_v vs 0) 0)) (w_fi w1 (n_v vs 0) 5) (w_fi w1 (n_v vs 0) 9) k1 k11 g0 fe_0_5_1 fe_0_6_1 fe_0_8_1 fe_0_9_1 hE_0_0_1 hK_0_0 kz_0_5 kz_0_6 kz_0_7 kz_0_8 kz_0_9)⟩
  have nf1 : fc_1 PRD (20, [0, 0, 1], [31, 1, 3, 1, 1, 7, 0, -1, 1, 9, 1, 0, 0]) ws (vs) := ⟨nf_in hl rfl, sgq_1529 (vc_Re_advance_41_1 (v_iv (n_v vs 1)) (v_iv (n_v vs 11)) (w_fi ws (n_v vs 0) 7) (w_fi ws (n_v vs 0) 8) (w_fi ws (n_v vs 0) 5) (w_fi ws (n_v vs 0) 9) (w_fi ws (n_v vs 0) 6) (w_ei ws (w_ar ws (n_v vs 0) 0)) (w_fi w1 (n_v vs 0) 8) (w_fi w1 (n_v vs 0) 6) (w_ei w1 (w_ar ws (n_v vs 0) 0)) (w_fi w1 (n_v vs 0) 5) (w_fi w1 (n_v vs 0) 9) k1 k11 g0 fe_0_5_1 fe_0_6_1 fe_0_8_1 fe_0_9_1 hE_0_0_1 hK_0_0 kz_0_5 kz_0_6 kz_0_7 kz_0_8 kz_0_9)⟩
  have nf2 : fc_1 PRD (20, [0, 0, 0, 0], [31, 1, -3, -1, 1, 7, 4008, 1, 1, 6, -1, 1, 8, 2000, 1, 7]) ws (vs) := ⟨nf_in hl rfl, sgq_1530 (vc_Re_advance_41_2 (v_iv (n_v vs 6)) (v_iv (n_v vs 8)) (v_iv (n_v vs 9)) (v_iv (n_v vs 11)) (w_fi ws (n_v vs 0) 7) (w_fi ws (n_v vs 0) 8) (w_fi ws (n_v vs 0) 5) (w_fi ws (n_v vs 0) 9) (w_fi ws (n_v vs 0) 6) (w_ei ws (w_ar ws (n_v vs 0) 0)) (w_fi w1 (n_v vs 0) 8) (w_fi w1 (n_v vs 0) 6) (w_ei w1 (w_ar ws (n_v vs 0) 0)) (w_fi w1 (n_v vs 0) 5) (w_fi w1 (n_v vs 0) 9) k6 k8 k9 k11 g0 g1 g4 (shm_14 f11) fe_0_5_1 fe_0_6_1 fe_0_8_1 fe_0_9_1 hE_0_0_1 hK_0_0 kz_0_5 kz_0_6 kz_0_7 kz_0_8 kz_0_9)⟩
  have nf3 : fc_1 PRD (20, [0, 0], [30, 0, 1, 1, 8, -1, 1, 6]) ws (vs) := ⟨nf_in hl rfl, sgq_1531 (vc_Re_advance_41_3 (w_fi ws (n_v vs 0) 8) (w_fi ws (n_v vs 0) 5) (w_fi ws (n_v vs 0) 9) (w_fi ws (n_v vs 0) 6) (w_ei ws (w_ar ws (n_v vs 0) 0)) (w_fi w1 (n_v vs 0) 8) (w_fi w1 (n_v vs 0) 6) (w_ei w1 (w_ar ws (n_v vs 0) 0)) (w_fi w1 (n_v vs 0) 5) (w_fi w1 (n_v vs 0) 9) f13 fe_0_5_1 fe_0_6_1 fe_0_8_1 fe_0_9_1 hE_0_0_1 hK_0_0 kz_0_5 kz_0_6 kz_0_8 kz_0_9)⟩
  have nf4 : fc_1 PRD (20, [0, 2], [60, 5, 1, 1072, 5, 6, 7, 8, 9, 0]) ws (vs) := ⟨nf_in hl rfl, sgq_1532 (vc_Re_advance_41_4 (v_iv (n_v vs 2)) (v_iv (n_v vs 5)) (v_iv (n_v vs 6)) (v_iv (n_v vs 7)) (v_iv (n_v vs 8)) (v_iv (n_v vs 9)) (v_iv (n_v vs 11)) (w_fi ws (n_v vs 0) 7) (w_fi ws (n_v vs 0) 8) (w_fi ws (n_v vs 0) 5) (w_fi ws (n_v vs 0) 9) (w_fi ws (n_v vs 0) 6) (w_ei ws (w_ar ws (n_v vs 0) 0)) (w_fi w1 (n_v vs 0) 8) (w_fi w1 (n_v vs 0) 6) (w_ei w1 (w_ar ws (n_v vs 0) 0)) (w_fi w1 (n_v vs 0) 5) (w_fi w1 (n_v vs 0) 9) k2 k5 k6 k7 k8 k9 k11 d1 g0 g1 g2 g3 g4 (shm_14 f11) f14 fe_0_5_1 fe_0_6_1 fe_0_8_1 fe_0_9_1 hE_0_0_1 hK_0_0 kz_0_5 kz_0_6 kz_0_7 kz_0_8 kz_0_9)⟩
  have nf5 : fc_1 PRD (20, [2, 0], [30, 0, 1, 0, 0, -1, 1, 6]) ws (vs) := ⟨nf_in hl rfl, sgq_1527 (vc_Re_advance_41_5 (v_iv (n_v vs 2)) (w_fi ws (n_v vs 0) 8) (w_fi ws (n_v vs 0) 5) (w_fi ws (n_v vs 0) 9) (w_fi ws (n_v vs 0) 6) (w_ei ws (w_ar ws (n_v vs 0) 0)) (w_fi w1 (n_v vs 0) 8) (w_fi w1 (n_v vs 0) 6) (w_ei w1 (w_ar ws (n_v vs 0) 0)) (w_fi w1 (n_v vs 0) 5) (w_fi w1 (n_v vs 0) 9) k2 f15 fe_0_5_1 fe_0_6_1 fe_0_8_1 fe_0_9_1 hE_0_0_1 hK_0_0 kz_0_5 kz_0_6 kz_0_8 kz_0_9)⟩
  refine ⟨(fun _ h => (by cases h)), [], trivial, ?_, (fun _ h => (by cases h))⟩
  rw [List.append_nil]
  exact List.forall_mem_cons.mpr ⟨⟨show (20 : Nat) < 100 from by decide, nf0⟩, List.forall_mem_cons.mpr ⟨⟨show (20 : Nat) < 100 from by decide, nf1⟩, List.forall_mem_cons.mpr ⟨⟨show (20 : Nat) < 100 from by decide, nf2⟩, List.forall_mem_cons.mpr ⟨⟨show (20 : Nat) < 100 from by decide, nf3⟩, List.forall_mem_cons.mpr ⟨⟨show (20 : Nat) < 100 from by decide, nf4⟩, List.forall_mem_cons.mpr ⟨⟨show (20 : Nat) < 100 from by decide, nf5⟩, (fun _ h => (by cases h))⟩⟩⟩⟩⟩⟩
set_option maxHeartbeats 4000000 in
theorem vc_Re_advance_42_0 (x1 : Int) (x11 : Int) (kind_0 : Int) (begin_0 : Int) (end_0 : Int) (number_0 : Int) (next_0 : Int) (tape_0 : Int → Int) (begin_1 : Int) (next_1 : Int) (tape_1 : Int → Int) (end_1 : Int) (number_1 : Int) (k1 : (-2147483648) ≤ x1 ∧ x1 ≤ 1000000) (k11 : 3 ≤ x11 ∧ x11 ≤ 3) (g0 : x11 = kind_0) (fe_0_5_1 : end_0 = end_1) (fe_0_6_1 : next_0 = next_1) (fe_0_8_1 : begin_0 = begin_1) (fe_0_9_1 : number_0 = number_1) (hE_0_0_1 : ∀ j : Int, tape_0 j = tape_1 j) (hK_0_0 : ∀ j : Int, 0 ≤ j → j < 2000 → (-128) ≤ tape_0 j ∧ tape_0 j ≤ 127) (kz_0_5 : 0 ≤ end_0 ∧ end_0 ≤ 2000) (kz_0_6 : 0 ≤ next_0 ∧ next_0 ≤ 2000) (kz_0_7 : (-128) ≤ kind_0 ∧ kind_0 ≤ 127) (kz_0_8 : 0 ≤ begin_0 ∧ begin_0 ≤ 2000) (kz_0_9 : (-176) ≤ number_0 ∧ number_0 ≤ 1000000) : (1 * kind_0 + 0 ≤ 3) ∨ (1 * number_0 + ((-1) * x1 + 0) ≤ 0) := by
  subst fe_0_5_1
  subst fe_0_6_1
  subst fe_0_8_1
  subst fe_0_9_1
  have e_hE_0_0_1 := funext hE_0_0_1; subst e_hE_0_0_1
  first | with_reducible assumption | ((try and_intros) <;> first | with_reducible assumption | (clear hE_0_0_1 hK_0_0; omega)) | omega
set_option maxHeartbeats 4000000 in
theorem vc_Re_advance_42_1 (x1 : Int) (x11 : Int) (kind_0 : Int) (begin_0 : Int) (end_0 : Int) (number_0 : Int) (next_0 : Int) (tape_0 : Int → Int) (begin_1 : Int) (next_1 : Int) (tape_1 : Int → Int) (end_1 : Int) (number_1 : Int) (k1 : (-2147483648) ≤ x1 ∧ x1 ≤ 1000000) (k11 : 3 ≤ x11 ∧ x11 ≤ 3) (g0 : x11 = kind_0) (fe_0_5_1 : end_0 = end_1) (fe_0_6_1 : next_0 = next_1) (fe_0_8_1 : begin_0 = begin_1) (fe_0_9_1 : number_0 = number_1) (hE_0_0_1 : ∀ j : Int, tape_0 j = tape_1 j) (hK_0_0 : ∀ j : Int, 0 ≤ j → j < 2000 → (-128) ≤ tape_0 j ∧ tape_0 j ≤ 127) (kz_0_5 : 0 ≤ end_0 ∧ end_0 ≤ 2000) (kz_0_6 : 0 ≤ next_0 ∧ next_0 ≤ 2000) (kz_0_7 : (-128) ≤ kind_0 ∧ kind_0 ≤ 127) (kz_0_8 : 0 ≤ begin_0 ∧ begin_0 ≤ 2000) (kz_0_9 : (-176) ≤ number_0 ∧ number_0 ≤ 1000000) : (1 * kind_0 + 0 ≤ 3) ∨ ((-1) * number_0 + (1 * x1 + 0) ≤ 0) := by
  subst fe_0_5_1
  subst fe_0_6_1
  subst fe_0_8_1
  subst fe_0_9_1
  have e_hE_0_0_1 := funext hE_0_0_1; subst e_hE_0_0_1
  first | with_reducible assumption | ((try and_intros) <;> first | with_reducible assumption | (clear hE_0_0_1 hK_0_0; omega)) | omega
set_option maxHeartbeats 4000000 in
theorem vc_Re_advance_42_2 (x11 : Int) (kind_0 : Int) (begin_0 : Int) (end_0 : Int) (number_0 : Int) (next_0 : Int) (tape_0 : Int → Int) (begin_1 : Int) (next_1 : Int) (tape_1 : Int → Int) (end_1 : Int) (number_1 : Int) (k11 : 3 ≤ x11 ∧ x11 ≤ 3) (g0 : x11 = kind_0) (fe_0_5_1 : end_0 = end_1) (fe_0_6_1 : next_0 = next_1) (fe_0_8_1 : begin_0 = begin_1) (fe_0_9_1 : number_0 = number_1) (hE_0_0_1 : ∀ j : Int, tape_0 j = tape_1 j) (hK_0_0 : ∀ j : Int, 0 ≤ j → j < 2000 → (-128) ≤ tape_0 j ∧ tape_0 j ≤ 127) (kz_0_5 : 0 ≤ end_0 ∧ end_0 ≤ 2000) (kz_0_6 : 0 ≤ next_0 ∧ next_0 ≤ 2000) (kz_0_7 : (-128) ≤ kind_0 ∧ kind_0 ≤ 127) (kz_0_8 : 0 ≤ begin_0 ∧ begin_0 ≤ 2000) (kz_0_9 : (-176) ≤ number_0 ∧ number_0 ≤ 1000000) : ((-1) * kind_0 + 0 ≤ (-3)) ∨ (1 * next_0 + ((-1) * begin_0 + (2000 * kind_0 + 0)) ≤ 4008) := by
  subst fe_0_5_1
  subst fe_0_6_1
  subst fe_0_8_1
  subst fe_0_9_1
  have e_hE_0_0_1 := funext hE_0_0_1; subst e_hE_0_0_1
  first | with_reducible assumption | ((try and_intros) <;> first | with_reducible assumption | (clear hE_0_0_1 hK_0_0; omega)) | omega
set_option maxHeartbeats 4000000 in
theorem vc_Re_advance_42_3 (begin_0 : Int) (end_0 : Int) (number_0 : Int) (next_0 : Int) (tape_0 : Int → Int) (begin_1 : Int) (next_1 : Int) (tape_1 : Int → Int) (end_1 : Int) (number_1 : Int) (f13 : 1 * begin_1 + ((-1) * next_1 + 0) ≤ 0) (fe_0_5_1 : end_0 = end_1) (fe_0_6_1 : next_0 = next_1) (fe_0_8_1 : begin_0 = begin_1) (fe_0_9_1 : number_0 = number_1) (hE_0_0_1 : ∀ j : Int, tape_0 j = tape_1 j) (hK_0_0 : ∀ j : Int, 0 ≤ j → j < 2000 → (-128) ≤ tape_0 j ∧ tape_0 j ≤ 127) (kz_0_5 : 0 ≤ end_0 ∧ end_0 ≤ 2000) (kz_0_6 : 0 ≤ next_0 ∧ next_0 ≤ 2000) (kz_0_8 : 0 ≤ begin_0 ∧ begin_0 ≤ 2000) (kz_0_9 : (-176) ≤ number_0 ∧ number_0 ≤ 1000000) : 1 * begin_0 + ((-1) * next_0 + 0) ≤ 0 := by
  subst fe_0_5_1
  subst fe_0_6_1
  subst fe_0_8_1
  subst fe_0_9_1
  have e_hE_0_0_1 := funext hE_0_0_1; subst e_hE_0_0_1
  first | with_reducible assumption | ((try and_intros) <;> first | with_reducible assumption | (clear hE_0_0_1 hK_0_0; omega)) | omega
set_option maxHeartbeats 4000000 in
theorem vc_Re_advance_42_4 (x2 : Int) (x5 : Int) (x6 : Int) (x7 : Int) (x8 : Int) (x9 : Int) (x11 : Int) (kind_0 : Int) (begin_0 : Int) (end_0 : Int) (number_0 : Int) (next_0 : Int) (tape_0 : Int → Int) (begin_1 : Int) (next_1 : Int) (tape_1 : Int → Int) (end_1 : Int) (number_1 : Int) (k2 : 0 ≤ x2 ∧ x2 ≤ 2000) (k5 : (-176) ≤ x5 ∧ x5 ≤ 1000000) (k6 : 0 ≤ x6 ∧ x6 ≤ 2000) (k7 : 0 ≤ x7 ∧ x7 ≤ 2000) (k8 : 0 ≤ x8 ∧ x8 ≤ 2000) (k9 : (-2000) ≤ x9 ∧ x9 ≤ 3) (k11 : 3 ≤ x11 ∧ x11 ≤ 3) (d2 : x7 + 0 ≤ x6 ∧ x6 ≤ x7 + 4294967296) (g0 : x11 = kind_0) (g1 : x8 = begin_0) (g2 : x7 = end_0) (g3 : x5 = number_0) (g4 : x6 = next_0) (f5 : 1 * begin_0 + ((-1) * next_0 + 0) ≤ 0) (f11 : x9 = x6 - x8) (f14 : CXD (end_1) (next_1) (begin_1) (number_1) (tape_1) (x2)) (fe_0_5_1 : end_0 = end_1) (fe_0_6_1 : next_0 = next_1) (fe_0_8_1 : begin_0 = begin_1) (fe_0_9_1 : number_0 = number_1) (hE_0_0_1 : ∀ j : Int, tape_0 j = tape_1 j) (hK_0_0 : ∀ j : Int, 0 ≤ j → j < 2000 → (-128) ≤ tape_0 j ∧ tape_0 j ≤ 127) (kz_0_5 : 0 ≤ end_0 ∧ end_0 ≤ 2000) (kz_0_6 : 0 ≤ next_0 ∧ next_0 ≤ 2000) (kz_0_7 : (-128) ≤ kind_0 ∧ kind_0 ≤ 127) (kz_0_8 : 0 ≤ begin_0 ∧ begin_0 ≤ 2000) (kz_0_9 : (-176) ≤ number_0 ∧ number_0 ≤ 1000000) : TKC (end_0) (next_0) (kind_0) (begin_0) (number_0) (tape_0) (x2) := by
  subst fe_0_5_1
  subst fe_0_6_1
  subst fe_0_8_1
  subst fe_0_9_1
  have e_hE_0_0_1 := funext hE_0_0_1; subst e_hE_0_0_1
  first | subst g0 | skip
  first | subst g1 | skip
  first | subst g2 | skip
  first | subst g3 | skip
  first | subst g4 | skip
  first
    | exact cxl_e (by assumption) ‹CXL _ _ _ _ _› (fun q => by omega) (by omega)
    | exact cxl_e (by assumption) ‹CXL _ _ _ _ _› (fun q => cnb_f ‹CNBy _ _› (by omega) (by omega)) (by omega)
    | exact cxd_e (by assumption) ‹CXD _ _ _ _ _ _› (fun q => by unfold cIG; omega) (by omega)
    | exact cxs_e (by assumption) (cx_1 (by assumption) ‹CX0 _ _ _ _› (fun q => by omega) (by omega)) (by omega) rfl (by unfold cIL; omega) (by unfold cIG; omega) (by omega) (Or.inl ⟨csg_t ‹CSG _ _› (by omega) (by omega), by omega⟩)
    | exact cxs_e (by assumption) (cx_1 (by assumption) ‹CX0 _ _ _ _› (fun q => by omega) (by omega)) (by omega) rfl (by unfold cIL; omega) (by unfold cIG; omega) (by omega) (Or.inr ⟨csg_f ‹CSG _ _› (by omega) (by omega), by omega⟩)
set_option maxHeartbeats 4000000 in
theorem vc_Re_advance_42_5 (x2 : Int) (begin_0 : Int) (end_0 : Int) (number_0 : Int) (next_0 : Int) (tape_0 : Int → Int) (begin_1 : Int) (next_1 : Int) (tape_1 : Int → Int) (end_1 : Int) (number_1 : Int) (k2 : 0 ≤ x2 ∧ x2 ≤ 2000) (f15 : 1 * x2 + ((-1) * next_1 + 0) ≤ 0) (fe_0_5_1 : end_0 = end_1) (fe_0_6_1 : next_0 = next_1) (fe_0_8_1 : begin_0 = begin_1) (fe_0_9_1 : number_0 = number_1) (hE_0_0_1 : ∀ j : Int, tape_0 j = tape_1 j) (hK_0_0 : ∀ j : Int, 0 ≤ j → j < 2000 → (-128) ≤ tape_0 j ∧ tape_0 j ≤ 127) (kz_0_5 : 0 ≤ end_0 ∧ end_0 ≤ 2000) (kz_0_6 : 0 ≤ next_0 ∧ next_0 ≤ 2000) (kz_0_8 : 0 ≤ begin_0 ∧ begin_0 ≤ 2000) (kz_0_9 : (-176) ≤ number_0 ∧ number_0 ≤ 1000000) : 1 * x2 + ((-1) * next_0 + 0) ≤ 0 := by
  subst fe_0_5_1
  subst fe_0_6_1
  subst fe_0_8_1
  subst fe_0_9_1
  have e_hE_0_0_1 := funext hE_0_0_1; subst e_hE_0_0_1
  first | with_reducible assumption | ((try and_intros) <;> first | with_reducible assumption | (clear hE_0_0_1 hK_0_0; omega)) | omega
def o_Re_advance_42 : or_T := (290, 12, [(0, (2, 0, 0, [8])), (1, (0, -2147483648, 1000000, [])), (2, (0, 0, 2000, [])), (3, (2, 0, 0, [8])), (5, (0, -176, 1000000, [])), (6, (0, 0, 2000, [])), (7, (0, 0, 2000, [])), (8, (0, 0, 2000, [])), (9, (0, -2000, 3, [])), (10, (0, 3, 3, [])), (11, (0, 3, 3, []))], [(9, [11, 3], [7]), (9, [8, 3], [8]), (9, [7, 3], [5]), (9, [5, 3], [9]), (9, [6, 3], [6]), (20, [3, 3], [30, 0, 1, 1, 8, -1, 1, 6]), (20, [3, 2], [60, 4, 1, 1077, 5, 6, 8, 9, 0]), (20, [2, 3], [30, 0, 1, 0, 0, -1, 1, 6]), (24, [0, 3], []), (101, [3, 11], [7]), (7, [9, 10], [5]), (2, [9, 6, 8], []), (7, [6, 7], [3]), (20, [3, 3], [30, 0, 1, 1, 8, -1, 1, 6]), (20, [3, 2], [60, 4, 1, 1077, 5, 6, 8, 9, 0]), (20, [2, 3], [30, 0, 1, 0, 0, -1, 1, 6])], [], [], [(20, [0, 0, 1], [31, 1, 3, 1, 1, 7, 0, 1, 1, 9, -1, 0, 0]), (20, [0, 0, 1], [31, 1, 3, 1, 1, 7, 0, -1, 1, 9, 1, 0, 0]), (20, [0, 0, 0, 0], [31, 1, -3, -1, 1, 7, 4008, 1, 1, 6, -1, 1, 8, 2000, 1, 7]), (20, [0, 0], [30, 0, 1, 1, 8, -1, 1, 6]), (20, [0, 2], [60, 5, 1, 1072, 5, 6, 7, 8, 9, 0]), (20, [2, 0], [30, 0, 1, 0, 0, -1, 1, 6])], [], [(9, 6, -2000, 0), (9, 7, -2000, 4294967296), (6, 7, 0, 4294967296)])
theorem oo_Re_advance_42 {kA : Nat → ClassId} : or_ok PRD kA GG o_Re_advance_42 := by
  refine or_mk fun A ta ws vs hD hth hl => ?_
  intro t0 r0 t1 k1 t2 k2 t3 r3 t5 k5 t6 k6 t7 k7 t8 k8 t9 k9 t10 k10 t11 k11 d0 d1 d2 f0 f1 f2 f3 f4 f5 f6 f7 f8 ta1 w1 le1 s1 f10 f11 f12 f13 f14 f15
  replace f0 := shm_198 f0
  replace f1 := shm_293 f1
  replace f2 := shm_110 f2
  replace f3 := shm_119 f3
  replace f4 := shm_111 f4
  replace f5 := shm_1531 f5
  replace f8 := shm_5 f8
  have s1 : (∀ b j, w_el ws b j = w_el w1 b j) ∧ ∀ b j, w_fd ws b j = if b = v_ad (n_v vs 3) ∧ j = 7 then n_v vs 11 else w_fd w1 b j := s1.2
  replace f13 := shm_1531 f13
  replace f14 := shm_1533 f14
  replace f15 := shm_1527 f15
  have q3 : n_v vs 3 = n_v vs 0 := f8.symm
  simp only [q3] at f0 f1 f2 f3 f4 f5
  rw [q3] at s1
  simp only [q3] at f13 f14 f15
  have ar_0_0_1 : w_ar w1 (n_v vs 0) 0 = w_ar ws (n_v vs 0) 0 := by show v_ad (w_fd w1 _ _) = v_ad (w_fd ws _ _); rw [s1.2, if_neg (fun e => absurd e.2 (by decide))]
  have cr_0_0 := fdq_95 hD hth r0
  have g0 : v_iv (n_v vs 11) = w_fi ws (n_v vs 0) 7 := congrArg v_iv f0
  have g1 : v_iv (n_v vs 8) = w_fi ws (n_v vs 0) 8 := congrArg v_iv f1
  have g2 : v_iv (n_v vs 7) = w_fi ws (n_v vs 0) 5 := congrArg v_iv f2
  have g3 : v_iv (n_v vs 5) = w_fi ws (n_v vs 0) 9 := congrArg v_iv f3
  have g4 : v_iv (n_v vs 6) = w_fi ws (n_v vs 0) 6 := congrArg v_iv f4
  simp only [ar_0_0_1] at f14
  have fe_0_5_1 : w_fi ws (n_v vs 0) 5 = w_fi w1 (n_v vs 0) 5 := by show v_iv (w_fd _ _ _) = v_iv (w_fd _ _ _); rw [s1.2, if_neg (fun e => absurd e.2 (by decide))]
  have fe_0_6_1 : w_fi ws (n_v vs 0) 6 = w_fi w1 (n_v vs 0) 6 := by show v_iv (w_fd _ _ _) = v_iv (w_fd _ _ _); rw [s1.2, if_neg (fun e => absurd e.2 (by decide))]
  have fe_0_8_1 : w_fi ws (n_v vs 0) 8 = w_fi w1 (n_v vs 0) 8 := by show v_iv (w_fd _ _ _) = v_iv (w_fd _ _ _); rw [s1.2, if_neg (fun e => absurd e.2 (by decide))]
  have fe_0_9_1 : w_fi ws (n_v vs 0) 9 = w_fi w1 (n_v vs 0) 9 := by show v_iv (w_fd _ _ _) = v_iv (w_fd _ _ _); rw [s1.2, if_neg (fun e => absurd e.2 (by decide))]
  have hE_0_0_1 : ∀ j : Int, w_ei ws (w_ar ws (n_v vs 0) 0) j = w_ei w1 (w_ar ws (n_v vs 0) 0) j := fun j => s1.1 _ _
  have hK_0_0 := elq_33 hD hth cr_0_0
  have kz_0_5 := fdq_207 hD hth r0
  have kz_0_6 := fdq_208 hD hth r0
  have kz_0_7 := fdq_297 hD hth r0
  have kz_0_8 := fdq_99 hD hth r0
  have kz_0_9 := fdq_296 hD hth r0
  have nf0 : fc_1 PRD (20, [0, 0, 1], [31, 1, 3, 1, 1, 7, 0, 1, 1, 9, -1, 0, 0]) ws (vs) := ⟨nf_in hl rfl, sgq_1528 (vc_Re_advance_42_0 (v_iv (n_v vs 1)) (v_iv (n_v vs 11)) (w_fi ws (n_v vs 0) 7) (w_fi ws (n_v vs 0) 8) (w_fi ws (n_v vs 0) 5) (w_fi ws (n_v vs 0) 9) (w_fi ws (n_v vs 0) 6) (w_ei ws (w_ar ws (n_v vs 0) 0)) (w_fi w1 (n_v vs 0) 8) (w_fi w1 (n_v vs 0) 6) (w_ei w1 (w_ar ws (n_v vs 0) 0)) (w_fi w1 (n_v vs 0) 5) (w_fi w1 (n_v vs 0) 9) k1 k11 g0 fe_0_5_1 fe_0_6_1 fe_0_8_1 fe_0_9_1 hE_0_0_1 hK_0_0 kz_0_5 kz_0_6 kz_0_7 kz_0_8 kz_0_9)⟩
  have nf1 : fc_1 PRD (20, [0, 0, 1], [31, 1, 3, 1, 1, 7, 0, -1, 1, 9, 1, 0, 0]) ws (vs) := ⟨nf_in hl rfl, sgq_1529 (vc_Re_advance_42_1 (v_iv (n_v vs 1)) (v_iv (n_v vs 11)) (w_fi ws (n_v vs 0) 7) (w_fi ws (n_v vs 0) 8) (w_fi ws (n_v vs 0) 5) (w_fi ws (n_v vs 0) 9) (w_fi ws (n_v vs 0) 6) (w_ei ws (w_ar ws (n_v vs 0) 0)) (w_fi w1 (n_v vs 0) 8) (w_fi w1 (n_v vs 0) 6) (w_ei w1 (w_ar ws (n_v vs 0) 0)) (w_fi w1 (n_v vs 0) 5) (w_fi w1 (n_v vs 0) 9) k1 k11 g0 fe_0_5_1 fe_0_6_1 fe_0_8_1 fe_0_9_1 hE_0_0_1 hK_0_0 kz_0_5 kz_0_6 kz_0_7 kz_0_8 kz_0_9)⟩
  have nf2 : fc_1 PRD (20, [0, 0, 0, 0], [31, 1, -3, -1, 1, 7, 4008, 1, 1, 6, -1, 1, 8, 2000, 1, 7]) ws (vs) := ⟨nf_in hl rfl, sgq_1530 (vc_Re_advance_42_2 (v_iv (n_v vs 11)) (w_fi ws (n_v vs 0) 7) (w_fi ws (n_v vs 0) 8) (w_fi ws (n_v vs 0) 5) (w_fi ws (n_v vs 0) 9) (w_fi ws (n_v vs 0) 6) (w_ei ws (w_ar ws (n_v vs 0) 0)) (w_fi w1 (n_v vs 0) 8) (w_fi w1 (n_v vs 0) 6) (w_ei w1 (w_ar ws (n_v vs 0) 0)) (w_fi w1 (n_v vs 0) 5) (w_fi w1 (n_v vs 0) 9) k11 g0 fe_0_5_1 fe_0_6_1 fe_0_8_1 fe_0_9_1 hE_0_0_1 hK_0_0 kz_0_5 kz_0_6 kz_0_7 kz_0_8 kz_0_9)⟩
  have nf3 : fc_1 PRD (20, [0, 0], [30, 0, 1, 1, 8, -1, 1, 6]) ws (vs) := ⟨nf_in hl rfl, sgq_1531 (vc_Re_advance_42_3 (w_fi ws (n_v vs 0) 8) (w_fi ws (n_v vs 0) 5) (w_fi ws (n_v vs 0) 9) (w_fi ws (n_v vs 0) 6) (w_ei ws (w_ar ws (n_v vs 0) 0)) (w_fi w1 (n_v vs 0) 8) (w_fi w1 (n_v vs 0) 6) (w_ei w1 (w_ar ws (n_v vs 0) 0)) (w_fi w1 (n_v vs 0) 5) (w_fi w1 (n_v vs 0) 9) f13 fe_0_5_1 fe_0_6_1 fe_0_8_1 fe_0_9_1 hE_0_0_1 hK_0_0 kz_0_5 kz_0_6 kz_0_8 kz_0_9)⟩
  have nf4 : fc_1 PRD (20, [0, 2], [60, 5, 1, 1072, 5, 6, 7, 8, 9, 0]) ws (vs) := ⟨nf_in hl rfl, sgq_1532 (vc_Re_advance_42_4 (v_iv (n_v vs 2)) (v_iv (n_v vs 5)) (v_iv (n_v vs 6)) (v_iv (n_v vs 7)) (v_iv (n_v vs 8)) (v_iv (n_v vs 9)) (v_iv (n_v vs 11)) (w_fi ws (n_v vs 0) 7) (w_fi ws (n_v vs 0) 8) (w_fi ws (n_v vs 0) 5) (w_fi ws (n_v vs 0) 9) (w_fi ws (n_v vs 0) 6) (w_ei ws (w_ar ws (n_v vs 0) 0)) (w_fi w1 (n_v vs 0) 8) (w_fi w1 (n_v vs 0) 6) (w_ei w1 (w_ar ws (n_v vs 0) 0)) (w_fi w1 (n_v vs 0) 5) (w_fi w1 (n_v vs 0) 9) k2 k5 k6 k7 k8 k9 k11 d2 g0 g1 g2 g3 g4 f5 (shm_14 f11) f14 fe_0_5_1 fe_0_6_1 fe_0_8_1 fe_0_9_1 hE_0_0_1 hK_0_0 kz_0_5 kz_0_6 kz_0_7 kz_0_8 kz_0_9)⟩
  have nf5 : fc_1 PRD (20, [2, 0], [30, 0, 1, 0, 0, -1, 1, 6]) ws (vs) := ⟨nf_in hl rfl, sgq_1527 (vc_Re_advance_42_5 (v_iv (n_v vs 2)) (w_fi ws (n_v vs 0) 8) (w_fi ws (n_v vs 0) 5) (w_fi ws (n_v vs 0) 9) (w_fi ws (n_v vs 0) 6) (w_ei ws (w_ar ws (n_v vs 0) 0)) (w_fi w1 (n_v vs 0) 8) (w_fi w1 (n_v vs 0) 6) (w_ei w1 (w_ar ws (n_v vs 0) 0)) (w_fi w1 (n_v vs 0) 5) (w_fi w1 (n_v vs 0) 9) k2 f15 fe_0_5_1 fe_0_6_1 fe_0_8_1 fe_0_9_1 hE_0_0_1 hK_0_0 kz_0_5 kz_0_6 kz_0_8 kz_0_9)⟩
  refine ⟨(fun _ h => (by cases h)), [], trivial, ?_, (fun _ h => (by cases h))⟩
  rw [List.append_nil]
  exact List.forall_mem_cons.mpr ⟨⟨show (20 : Nat) < 100 from by decide, nf0⟩, List.forall_mem_cons.mpr ⟨⟨show (20 : Nat) < 100 from by decide, nf1⟩, List.forall_mem_cons.mpr ⟨⟨show (20 : Nat) < 100 from by decide, nf2⟩, List.forall_mem_cons.mpr ⟨⟨show (20 : Nat) < 100 from by decide, nf3⟩, List.forall_mem_cons.mpr ⟨⟨show (20 : Nat) < 100 from by decide, nf4⟩, List.forall_mem_cons.mpr ⟨⟨show (20 : Nat) < 100 from by decide, nf5⟩, (fun _ h => (by cases h))⟩⟩⟩⟩⟩⟩
set_option maxHeartbeats 4000000 in
theorem vc_Re_advance_43_0 (x1 : Int) (x14 : Int) (kind_0 : Int) (begin_0 : Int) (end_0 : Int) (number_0 : Int) (next_0 : Int) (tape_0 : Int → Int) (tape_1 : Int → Int) (begin_1 : Int) (next_1 : Int) (end_1 : Int) (number_1 : Int) (k1 : (-2147483648) ≤ x1 ∧ x1 ≤ 1000000) (k14 : 1 ≤ x14 ∧ x14 ≤ 1) (g0 : x14 = kind_0) (fe_0_5_1 : end_0 = end_1) (fe_0_6_1 : next_0 = next_1) (fe_0_8_1 : begin_0 = begin_1) (fe_0_9_1 : number_0 = number_1) (hE_0_0_1 : ∀ j : Int, tape_0 j = tape_1 j) (hK_0_0 : ∀ j : Int, 0 ≤ j → j < 2000 → (-128) ≤ tape_0 j ∧ tape_0 j ≤ 127) (kz_0_5 : 0 ≤ end_0 ∧ end_0 ≤ 2000) (kz_0_6 : 0 ≤ next_0 ∧ next_0 ≤ 2000) (kz_0_7 : (-128) ≤ kind_0 ∧ kind_0 ≤ 127) (kz_0_8 : 0 ≤ begin_0 ∧ begin_0 ≤ 2000) (kz_0_9 : (-176) ≤ number_0 ∧ number_0 ≤ 1000000) : (1 * kind_0 + 0 ≤ 3) ∨ (1 * number_0 + ((-1) * x1 + 0) ≤ 0) := by
  subst fe_0_5_1
  subst fe_0_6_1
  subst fe_0_8_1
  subst fe_0_9_1
  have e_hE_0_0_1 := funext hE_0_0_1; subst e_hE_0_0_1
  first | with_reducible assumption | ((try and_intros) <;> first | with_reducible assumption | (clear hE_0_0_1 hK_0_0; omega)) | omega
set_option maxHeartbeats 4000000 in
theorem vc_Re_advance_43_1 (x1 : Int) (x14 : Int) (kind_0 : Int) (begin_0 : Int) (end_0 : Int) (number_0 : Int) (next_0 : Int) (tape_0 : Int → Int) (tape_1 : Int → Int) (begin_1 : Int) (next_1 : Int) (end_1 : Int) (number_1 : Int) (k1 : (-2147483648) ≤ x1 ∧ x1 ≤ 1000000) (k14 : 1 ≤ x14 ∧ x14 ≤ 1) (g0 : x14 = kind_0) (fe_0_5_1 : end_0 = end_1) (fe_0_6_1 : next_0 = next_1) (fe_0_8_1 : begin_0 = begin_1) (fe_0_9_1 : number_0 = number_1) (hE_0_0_1 : ∀ j : Int, tape_0 j = tape_1 j) (hK_0_0 : ∀ j : Int, 0 ≤ j → j < 2000 → (-128) ≤ tape_0 j ∧ tape_0 j ≤ 127) (kz_0_5 : 0 ≤ end_0 ∧ end_0 ≤ 2000) (kz_0_6 : 0 ≤ next_0 ∧ next_0 ≤ 2000) (kz_0_7 : (-128) ≤ kind_0 ∧ kind_0 ≤ 127) (kz_0_8 : 0 ≤ begin_0 ∧ begin_0 ≤ 2000) (kz_0_9 : (-176) ≤ number_0 ∧ number_0 ≤ 1000000) : (1 * kind_0 + 0 ≤ 3) ∨ ((-1) * number_0 + (1 * x1 + 0) ≤ 0) := by
  subst fe_0_5_1
  subst fe_0_6_1
  subst fe_0_8_1
  subst fe_0_9_1
  have e_hE_0_0_1 := funext hE_0_0_1; subst e_hE_0_0_1
  first | with_reducible assumption | ((try and_intros) <;> first | with_reducible assumption | (clear hE_0_0_1 hK_0_0; omega)) | omega
set_option maxHeartbeats 4000000 in
theorem vc_Re_advance_43_2 (x6 : Int) (x11 : Int) (x12 : Int) (x14 : Int) (kind_0 : Int) (begin_0 : Int) (end_0 : Int) (number_0 : Int) (next_0 : Int) (tape_0 : Int → Int) (tape_1 : Int → Int) (begin_1 : Int) (next_1 : Int) (end_1 : Int) (number_1 : Int) (k6 : 4 ≤ x6 ∧ x6 ≤ 1999) (k11 : 0 ≤ x11 ∧ x11 ≤ 2000) (k12 : 4 ≤ x12 ∧ x12 ≤ 1999) (k14 : 1 ≤ x14 ∧ x14 ≤ 1) (g0 : x14 = kind_0) (g1 : x11 = begin_0) (g5 : x6 = next_0) (f13 : x12 = x6 - x11) (fe_0_5_1 : end_0 = end_1) (fe_0_6_1 : next_0 = next_1) (fe_0_8_1 : begin_0 = begin_1) (fe_0_9_1 : number_0 = number_1) (hE_0_0_1 : ∀ j : Int, tape_0 j = tape_1 j) (hK_0_0 : ∀ j : Int, 0 ≤ j → j < 2000 → (-128) ≤ tape_0 j ∧ tape_0 j ≤ 127) (kz_0_5 : 0 ≤ end_0 ∧ end_0 ≤ 2000) (kz_0_6 : 0 ≤ next_0 ∧ next_0 ≤ 2000) (kz_0_7 : (-128) ≤ kind_0 ∧ kind_0 ≤ 127) (kz_0_8 : 0 ≤ begin_0 ∧ begin_0 ≤ 2000) (kz_0_9 : (-176) ≤ number_0 ∧ number_0 ≤ 1000000) : ((-1) * kind_0 + 0 ≤ (-3)) ∨ (1 * next_0 + ((-1) * begin_0 + (2000 * kind_0 + 0)) ≤ 4008) := by
  subst fe_0_5_1
  subst fe_0_6_1
  subst fe_0_8_1
  subst fe_0_9_1
  have e_hE_0_0_1 := funext hE_0_0_1; subst e_hE_0_0_1
  first | with_reducible assumption | ((try and_intros) <;> first | with_reducible assumption | (clear hE_0_0_1 hK_0_0; omega)) | omega
set_option maxHeartbeats 4000000 in
theorem vc_Re_advance_43_3 (begin_0 : Int) (end_0 : Int) (number_0 : Int) (next_0 : Int) (tape_0 : Int → Int) (tape_1 : Int → Int) (begin_1 : Int) (next_1 : Int) (end_1 : Int) (number_1 : Int) (f18 : 1 * begin_1 + ((-1) * next_1 + 0) ≤ 0) (fe_0_5_1 : end_0 = end_1) (fe_0_6_1 : next_0 = next_1) (fe_0_8_1 : begin_0 = begin_1) (fe_0_9_1 : number_0 = number_1) (hE_0_0_1 : ∀ j : Int, tape_0 j = tape_1 j) (hK_0_0 : ∀ j : Int, 0 ≤ j → j < 2000 → (-128) ≤ tape_0 j ∧ tape_0 j ≤ 127) (kz_0_5 : 0 ≤ end_0 ∧ end_0 ≤ 2000) (kz_0_6 : 0 ≤ next_0 ∧ next_0 ≤ 2000) (kz_0_8 : 0 ≤ begin_0 ∧ begin_0 ≤ 2000) (kz_0_9 : (-176) ≤ number_0 ∧ number_0 ≤ 1000000) : 1 * begin_0 + ((-1) * next_0 + 0) ≤ 0 := by
  subst fe_0_5_1
  subst fe_0_6_1
  subst fe_0_8_1
  subst fe_0_9_1
  have e_hE_0_0_1 := funext hE_0_0_1; subst e_hE_0_0_1
  first | with_reducible assumption | ((try and_intros) <;> first | with_reducible assumption | (clear hE_0_0_1 hK_0_0; omega)) | omega
set_option maxHeartbeats 4000000 in
theorem vc_Re_advance_43_4 (x2 : Int) (x5 : Int) (x6 : Int) (x7 : Int) (x9 : Int) (x11 : Int) (x12 : Int) (x14 : Int) (kind_0 : Int) (begin_0 : Int) (end_0 : Int) (number_0 : Int) (next_0 : Int) (tape_0 : Int → Int) (tape_1 : Int → Int) (begin_1 : Int) (next_1 : Int) (end_1 : Int) (number_1 : Int) (k2 : 0 ≤ x2 ∧ x2 ≤ 2000) (k5 : (-176) ≤ x5 ∧ x5 ≤ 1000000) (k6 : 4 ≤ x6 ∧ x6 ≤ 1999) (k7 : 5 ≤ x7 ∧ x7 ≤ 2000) (k9 : (-128) ≤ x9 ∧ x9 ≤ 47) (k11 : 0 ≤ x11 ∧ x11 ≤ 2000) (k12 : 4 ≤ x12 ∧ x12 ≤ 1999) (k14 : 1 ≤ x14 ∧ x14 ≤ 1) (g0 : x14 = kind_0) (g1 : x11 = begin_0) (g3 : x7 = end_0) (g4 : x5 = number_0) (g5 : x6 = next_0) (f13 : x12 = x6 - x11) (h16 : x9 = tape_1 (x6)) (f19 : CXD (end_1) (next_1) (begin_1) (number_1) (tape_1) (x2)) (fe_0_5_1 : end_0 = end_1) (fe_0_6_1 : next_0 = next_1) (fe_0_8_1 : begin_0 = begin_1) (fe_0_9_1 : number_0 = number_1) (hE_0_0_1 : ∀ j : Int, tape_0 j = tape_1 j) (hK_0_0 : ∀ j : Int, 0 ≤ j → j < 2000 → (-128) ≤ tape_0 j ∧ tape_0 j ≤ 127) (kz_0_5 : 0 ≤ end_0 ∧ end_0 ≤ 2000) (kz_0_6 : 0 ≤ next_0 ∧ next_0 ≤ 2000) (kz_0_7 : (-128) ≤ kind_0 ∧ kind_0 ≤ 127) (kz_0_8 : 0 ≤ begin_0 ∧ begin_0 ≤ 2000) (kz_0_9 : (-176) ≤ number_0 ∧ number_0 ≤ 1000000) : TKC (end_0) (next_0) (kind_0) (begin_0) (number_0) (tape_0) (x2) := by
  subst fe_0_5_1
  subst fe_0_6_1
  subst fe_0_8_1
  subst fe_0_9_1
  have e_hE_0_0_1 := funext hE_0_0_1; subst e_hE_0_0_1
  first | subst g0 | skip
  first | subst g1 | skip
  first | subst g3 | skip
  first | subst g4 | skip
  first | subst g5 | skip
  first
    | exact cxl_e (by assumption) ‹CXL _ _ _ _ _› (fun q => by omega) (by omega)
    | exact cxl_e (by assumption) ‹CXL _ _ _ _ _› (fun q => cnb_f ‹CNBy _ _› (by omega) (by omega)) (by omega)
    | exact cxd_e (by assumption) ‹CXD _ _ _ _ _ _› (fun q => by unfold cIG; omega) (by omega)
    | exact cxs_e (by assumption) (cx_1 (by assumption) ‹CX0 _ _ _ _› (fun q => by omega) (by omega)) (by omega) rfl (by unfold cIL; omega) (by unfold cIG; omega) (by omega) (Or.inl ⟨csg_t ‹CSG _ _› (by omega) (by omega), by omega⟩)
    | exact cxs_e (by assumption) (cx_1 (by assumption) ‹CX0 _ _ _ _› (fun q => by omega) (by omega)) (by omega) rfl (by unfold cIL; omega) (by unfold cIG; omega) (by omega) (Or.inr ⟨csg_f ‹CSG _ _› (by omega) (by omega), by omega⟩)
set_option maxHeartbeats 4000000 in
theorem vc_Re_advance_43_5 (x2 : Int) (begin_0 : Int) (end_0 : Int) (number_0 : Int) (next_0 : Int) (tape_0 : Int → Int) (tape_1 : Int → Int) (begin_1 : Int) (next_1 : Int) (end_1 : Int) (number_1 : Int) (k2 : 0 ≤ x2 ∧ x2 ≤ 2000) (f20 : 1 * x2 + ((-1) * next_1 + 0) ≤ 0) (fe_0_5_1 : end_0 = end_1) (fe_0_6_1 : next_0 = next_1) (fe_0_8_1 : begin_0 = begin_1) (fe_0_9_1 : number_0 = number_1) (hE_0_0_1 : ∀ j : Int, tape_0 j = tape_1 j) (hK_0_0 : ∀ j : Int, 0 ≤ j → j < 2000 → (-128) ≤ tape_0 j ∧ tape_0 j ≤ 127) (kz_0_5 : 0 ≤ end_0 ∧ end_0 ≤ 2000) (kz_0_6 : 0 ≤ next_0 ∧ next_0 ≤ 2000) (kz_0_8 : 0 ≤ begin_0 ∧ begin_0 ≤ 2000) (kz_0_9 : (-176) ≤ number_0 ∧ number_0 ≤ 1000000) : 1 * x2 + ((-1) * next_0 + 0) ≤ 0 := by
  subst fe_0_5_1
  subst fe_0_6_1
  subst fe_0_8_1
  subst fe_0_9_1
  have e_hE_0_0_1 := funext hE_0_0_1; subst e_hE_0_0_1
  first | with_reducible assumption | ((try and_intros) <;> first | with_reducible assumption | (clear hE_0_0_1 hK_0_0; omega)) | omega
def o_Re_advance_43 : or_T := (290, 15, [(0, (2, 0, 0, [8])), (1, (0, -2147483648, 1000000, [])), (2, (0, 0, 2000, [])), (3, (2, 0, 0, [8])), (5, (0, -176, 1000000, [])), (6, (0, 4, 1999, [])), (7, (0, 5, 2000, [])), (8, (2, 0, 0, [109])), (9, (0, -128, 47, [])), (10, (0, 0, 0, [])), (11, (0, 0, 2000, [])), (12, (0, 4, 1999, [])), (13, (0, 3, 3, [])), (14, (0, 1, 1, []))], [(9, [14, 3], [7]), (9, [11, 3], [8]), (9, [8, 3], [0]), (9, [7, 3], [5]), (9, [5, 3], [9]), (9, [6, 3], [6]), (20, [9, 10], [61, 0, 1098]), (20, [3, 3], [30, 0, 1, 1, 8, -1, 1, 6]), (20, [3, 2], [60, 4, 1, 1077, 5, 6, 8, 9, 0]), (20, [2, 3], [30, 0, 1, 0, 0, -1, 1, 6]), (24, [0, 3], []), (101, [3, 14], [7]), (7, [12, 13], [4]), (2, [12, 6, 11], []), (8, [10], [0]), (20, [9, 10], [61, 0, 1098]), (10, [9, 8, 6], []), (7, [6, 7], [2]), (20, [3, 3], [30, 0, 1, 1, 8, -1, 1, 6]), (20, [3, 2], [60, 4, 1, 1077, 5, 6, 8, 9, 0]), (20, [2, 3], [30, 0, 1, 0, 0, -1, 1, 6])], [], [], [(20, [0, 0, 1], [31, 1, 3, 1, 1, 7, 0, 1, 1, 9, -1, 0, 0]), (20, [0, 0, 1], [31, 1, 3, 1, 1, 7, 0, -1, 1, 9, 1, 0, 0]), (20, [0, 0, 0, 0], [31, 1, -3, -1, 1, 7, 4008, 1, 1, 6, -1, 1, 8, 2000, 1, 7]), (20, [0, 0], [30, 0, 1, 1, 8, -1, 1, 6]), (20, [0, 2], [60, 5, 1, 1072, 5, 6, 7, 8, 9, 0]), (20, [2, 0], [30, 0, 1, 0, 0, -1, 1, 6])], [], [(12, 6, -2000, 0), (12, 7, -4294967296, -1), (6, 7, -4294967296, -1)])
theorem oo_Re_advance_43 {kA : Nat → ClassId} : or_ok PRD kA GG o_Re_advance_43 := by
  refine or_mk fun A ta ws vs hD hth hl => ?_
  intro t0 r0 t1 k1 t2 k2 t3 r3 t5 k5 t6 k6 t7 k7 t8 r8 t9 k9 t10 k10 t11 k11 t12 k12 t13 k13 t14 k14 d0 d1 d2 f0 f1 f2 f3 f4 f5 f6 f7 f8 f9 f10 ta1 w1 le1 s1 f12 f13 f14 f15 f16 f17 f18 f19 f20
  replace f0 := shm_198 f0
  replace f1 := shm_293 f1
  replace f2 := shm_163 f2
  replace f3 := shm_110 f3
  replace f4 := shm_119 f4
  replace f5 := shm_111 f5
  replace f10 := shm_5 f10
  have s1 : (∀ b j, w_el ws b j = w_el w1 b j) ∧ ∀ b j, w_fd ws b j = if b = v_ad (n_v vs 3) ∧ j = 7 then n_v vs 14 else w_fd w1 b j := s1.2
  replace f16 := shm_107 f16
  replace f18 := shm_1531 f18
  replace f19 := shm_1533 f19
  replace f20 := shm_1527 f20
  have q3 : n_v vs 3 = n_v vs 0 := f10.symm
  simp only [q3] at f0 f1 f2 f3 f4 f5
  rw [q3] at s1
  simp only [q3] at f18 f19 f20
  have ar_0_0_1 : w_ar w1 (n_v vs 0) 0 = w_ar ws (n_v vs 0) 0 := by show v_ad (w_fd w1 _ _) = v_ad (w_fd ws _ _); rw [s1.2, if_neg (fun e => absurd e.2 (by decide))]
  have cr_0_0 := fdq_95 hD hth r0
  have ad_8 : v_ad (n_v vs 8) = w_ar ws (n_v vs 0) 0 := congrArg v_ad f2
  have g0 : v_iv (n_v vs 14) = w_fi ws (n_v vs 0) 7 := congrArg v_iv f0
  have g1 : v_iv (n_v vs 11) = w_fi ws (n_v vs 0) 8 := congrArg v_iv f1
  have g3 : v_iv (n_v vs 7) = w_fi ws (n_v vs 0) 5 := congrArg v_iv f3
  have g4 : v_iv (n_v vs 5) = w_fi ws (n_v vs 0) 9 := congrArg v_iv f4
  have g5 : v_iv (n_v vs 6) = w_fi ws (n_v vs 0) 6 := congrArg v_iv f5
  simp only [ad_8] at f16
  have h16 : v_iv (n_v vs 9) = w_ei w1 (w_ar ws (n_v vs 0) 0) (v_iv (n_v vs 6)) := f16
  simp only [ar_0_0_1] at f19
  have fe_0_5_1 : w_fi ws (n_v vs 0) 5 = w_fi w1 (n_v vs 0) 5 := by show v_iv (w_fd _ _ _) = v_iv (w_fd _ _ _); rw [s1.2, if_neg (fun e => absurd e.2 (by decide))]
  have fe_0_6_1 : w_fi ws (n_v vs 0) 6 = w_fi w1 (n_v vs 0) 6 := by show v_iv (w_fd _ _ _) = v_iv (w_fd _ _ _); rw [s1.2, if_neg (fun e => absurd e.2 (by decide))]
  have fe_0_8_1 : w_fi ws (n_v vs 0) 8 = w_fi w1 (n_v vs 0) 8 := by show v_iv (w_fd _ _ _) = v_iv (w_fd _ _ _); rw [s1.2, if_neg (fun e => absurd e.2 (by decide))]
  have fe_0_9_1 : w_fi ws (n_v vs 0) 9 = w_fi w1 (n_v vs 0) 9 := by show v_iv (w_fd _ _ _) = v_iv (w_fd _ _ _); rw [s1.2, if_neg (fun e => absurd e.2 (by decide))]
  have hE_0_0_1 : ∀ j : Int, w_ei ws (w_ar ws (n_v vs 0) 0) j = w_ei w1 (w_ar ws (n_v vs 0) 0) j := fun j => s1.1 _ _
  have hK_0_0 := elq_33 hD hth cr_0_0
  have kz_0_5 := fdq_207 hD hth r0
  have kz_0_6 := fdq_208 hD hth r0
  have kz_0_7 := fdq_297 hD hth r0
  have kz_0_8 := fdq_99 hD hth r0
  have kz_0_9 := fdq_296 hD hth r0
  have nf0 : fc_1 PRD (20, [0, 0, 1], [31, 1, 3, 1, 1, 7, 0, 1, 1, 9, -1, 0, 0]) ws (vs) := ⟨nf_in hl rfl, sgq_1528 (vc_Re_advance_43_0 (v_iv (n_v vs 1)) (v_iv (n_v vs 14)) (w_fi ws (n_v vs 0) 7) (w_fi ws (n_v vs 0) 8) (w_fi ws (n_v vs 0) 5) (w_fi ws (n_v vs 0) 9) (w_fi ws (n_v vs 0) 6) (w_ei ws (w_ar ws (n_v vs 0) 0)) (w_ei w1 (w_ar ws (n_v vs 0) 0)) (w_fi w1 (n_v vs 0) 8) (w_fi w1 (n_v vs 0) 6) (w_fi w1 (n_v vs 0) 5) (w_fi w1 (n_v vs 0) 9) k1 k14 g0 fe_0_5_1 fe_0_6_1 fe_0_8_1 fe_0_9_1 hE_0_0_1 hK_0_0 kz_0_5 kz_0_6 kz_0_7 kz_0_8 kz_0_9)⟩
  have nf1 : fc_1 PRD (20, [0, 0, 1], [31, 1, 3, 1, 1, 7, 0, -1, 1, 9, 1, 0, 0]) ws (vs) := ⟨nf_in hl rfl, sgq_1529 (vc_Re_advance_43_1 (v_iv (n_v vs 1)) (v_iv (n_v vs 14)) (w_fi ws (n_v vs 0) 7) (w_fi ws (n_v vs 0) 8) (w_fi ws (n_v vs 0) 5) (w_fi ws (n_v vs 0) 9) (w_fi ws (n_v vs 0) 6) (w_ei ws (w_ar ws (n_v vs 0) 0)) (w_ei w1 (w_ar ws (n_v vs 0) 0)) (w_fi w1 (n_v vs 0) 8) (w_fi w1 (n_v vs 0) 6) (w_fi w1 (n_v vs 0) 5) (w_fi w1 (n_v vs 0) 9) k1 k14 g0 fe_0_5_1 fe_0_6_1 fe_0_8_1 fe_0_9_1 hE_0_0_1 hK_0_0 kz_0_5 kz_0_6 kz_0_7 kz_0_8 kz_0_9)⟩
  have nf2 : fc_1 PRD (20, [0, 0, 0, 0], [31, 1, -3, -1, 1, 7, 4008, 1, 1, 6, -1, 1, 8, 2000, 1, 7]) ws (vs) := ⟨nf_in hl rfl, sgq_1530 (vc_Re_advance_43_2 (v_iv (n_v vs 6)) (v_iv (n_v vs 11)) (v_iv (n_v vs 12)) (v_iv (n_v vs 14)) (w_fi ws (n_v vs 0) 7) (w_fi ws (n_v vs 0) 8) (w_fi ws (n_v vs 0) 5) (w_fi ws (n_v vs 0) 9) (w_fi ws (n_v vs 0) 6) (w_ei ws (w_ar ws (n_v vs 0) 0)) (w_ei w1 (w_ar ws (n_v vs 0) 0)) (w_fi w1 (n_v vs 0) 8) (w_fi w1 (n_v vs 0) 6) (w_fi w1 (n_v vs 0) 5) (w_fi w1 (n_v vs 0) 9) k6 k11 k12 k14 g0 g1 g5 (shm_14 f13) fe_0_5_1 fe_0_6_1 fe_0_8_1 fe_0_9_1 hE_0_0_1 hK_0_0 kz_0_5 kz_0_6 kz_0_7 kz_0_8 kz_0_9)⟩
  have nf3 : fc_1 PRD (20, [0, 0], [30, 0, 1, 1, 8, -1, 1, 6]) ws (vs) := ⟨nf_in hl rfl, sgq_1531 (vc_Re_advance_43_3 (w_fi ws (n_v vs 0) 8) (w_fi ws (n_v vs 0) 5) (w_fi ws (n_v vs 0) 9) (w_fi ws (n_v vs 0) 6) (w_ei ws (w_ar ws (n_v vs 0) 0)) (w_ei w1 (w_ar ws (n_v vs 0) 0)) (w_fi w1 (n_v vs 0) 8) (w_fi w1 (n_v vs 0) 6) (w_fi w1 (n_v vs 0) 5) (w_fi w1 (n_v vs 0) 9) f18 fe_0_5_1 fe_0_6_1 fe_0_8_1 fe_0_9_1 hE_0_0_1 hK_0_0 kz_0_5 kz_0_6 kz_0_8 kz_0_9)⟩
  have nf4 : fc_1 PRD (20, [0, 2], [60, 5, 1, 1072, 5, 6, 7, 8, 9, 0]) ws (vs) := ⟨nf_in hl rfl, sgq_1532 (vc_Re_advance_43_4 (v_iv (n_v vs 2)) (v_iv (n_v vs 5)) (v_iv (n_v vs 6)) (v_iv (n_v vs 7)) (v_iv (n_v vs 9)) (v_iv (n_v vs 11)) (v_iv (n_v vs 12)) (v_iv (n_v vs 14)) (w_fi ws (n_v vs 0) 7) (w_fi ws (n_v vs 0) 8) (w_fi ws (n_v vs 0) 5) (w_fi ws (n_v vs 0) 9) (w_fi ws (n_v vs 0) 6) (w_ei ws (w_ar ws (n_v vs 0) 0)) (w_ei w1 (w_ar ws (n_v vs 0) 0)) (w_fi w1 (n_v vs 0) 8) (w_fi w1 (n_v vs 0) 6) (w_fi w1 (n_v vs 0) 5) (w_fi w1 (n_v vs 0) 9) k2 k5 k6 k7 k9 k11 k12 k14 g0 g1 g3 g4 g5 (shm_14 f13) h16 f19 fe_0_5_1 fe_0_6_1 fe_0_8_1 fe_0_9_1 hE_0_0_1 hK_0_0 kz_0_5 kz_0_6 kz_0_7 kz_0_8 kz_0_9)⟩
  have nf5 : fc_1 PRD (20, [2, 0], [30, 0, 1, 0, 0, -1, 1, 6]) ws (vs) := ⟨nf_in hl rfl, sgq_1527 (vc_Re_advance_43_5 (v_iv (n_v vs 2)) (w_fi ws (n_v vs 0) 8) (w_fi ws (n_v vs 0) 5) (w_fi ws (n_v vs 0) 9) (w_fi ws (n_v vs 0) 6) (w_ei ws (w_ar ws (n_v vs 0) 0)) (w_ei w1 (w_ar ws (n_v vs 0) 0)) (w_fi w1 (n_v vs 0) 8) (w_fi w1 (n_v vs 0) 6) (w_fi w1 (n_v vs 0) 5) (w_fi w1 (n_v vs 0) 9) k2 f20 fe_0_5_1 fe_0_6_1 fe_0_8_1 fe_0_9_1 hE_0_0_1 hK_0_0 kz_0_5 kz_0_6 kz_0_8 kz_0_9)⟩
  refine ⟨(fun _ h => (by cases h)), [], trivial, ?_, (fun _ h => (by cases h))⟩
  rw [List.append_nil]
  exact List.forall_mem_cons.mpr ⟨⟨show (20 : Nat) < 100 from by decide, nf0⟩, List.forall_mem_cons.mpr ⟨⟨show (20 : Nat) < 100 from by decide, nf1⟩, List.forall_mem_cons.mpr ⟨⟨show (20 : Nat) < 100 from by decide, nf2⟩, List.forall_mem_cons.mpr ⟨⟨show (20 : Nat) < 100 from by decide, nf3⟩, List.forall_mem_cons.mpr ⟨⟨show (20 : Nat) < 100 from by decide, nf4⟩, List.forall_mem_cons.mpr ⟨⟨show (20 : Nat) < 100 from by decide, nf5⟩, (fun _ h => (by cases h))⟩⟩⟩⟩⟩⟩
set_option maxHeartbeats 4000000 in
theorem vc_Re_advance_44_0 (x1 : Int) (x14 : Int) (kind_0 : Int) (begin_0 : Int) (end_0 : Int) (number_0 : Int) (next_0 : Int) (tape_0 : Int → Int) (tape_1 : Int → Int) (begin_1 : Int) (next_1 : Int) (end_1 : Int) (number_1 : Int) (k1 : (-2147483648) ≤ x1 ∧ x1 ≤ 1000000) (k14 : 3 ≤ x14 ∧ x14 ≤ 3) (g0 : x14 = kind_0) (fe_0_5_1 : end_0 = end_1) (fe_0_6_1 : next_0 = next_1) (fe_0_8_1 : begin_0 = begin_1) (fe_0_9_1 : number_0 = number_1) (hE_0_0_1 : ∀ j : Int, tape_0 j = tape_1 j) (hK_0_0 : ∀ j : Int, 0 ≤ j → j < 2000 → (-128) ≤ tape_0 j ∧ tape_0 j ≤ 127) (kz_0_5 : 0 ≤ end_0 ∧ end_0 ≤ 2000) (kz_0_6 : 0 ≤ next_0 ∧ next_0 ≤ 2000) (kz_0_7 : (-128) ≤ kind_0 ∧ kind_0 ≤ 127) (kz_0_8 : 0 ≤ begin_0 ∧ begin_0 ≤ 2000) (kz_0_9 : (-176) ≤ number_0 ∧ number_0 ≤ 1000000) : (1 * kind_0 + 0 ≤ 3) ∨ (1 * number_0 + ((-1) * x1 + 0) ≤ 0) := by
  subst fe_0_5_1
  subst fe_0_6_1
  subst fe_0_8_1
  subst fe_0_9_1
  have e_hE_0_0_1 := funext hE_0_0_1; subst e_hE_0_0_1
  first | with_reducible assumption | ((try and_intros) <;> first | with_reducible assumption | (clear hE_0_0_1 hK_0_0; omega)) | omega
set_option maxHeartbeats 4000000 in
theorem vc_Re_advance_44_1 (x1 : Int) (x14 : Int) (kind_0 : Int) (begin_0 : Int) (end_0 : Int) (number_0 : Int) (next_0 : Int) (tape_0 : Int → Int) (tape_1 : Int → Int) (begin_1 : Int) (next_1 : Int) (end_1 : Int) (number_1 : Int) (k1 : (-2147483648) ≤ x1 ∧ x1 ≤ 1000000) (k14 : 3 ≤ x14 ∧ x14 ≤ 3) (g0 : x14 = kind_0) (fe_0_5_1 : end_0 = end_1) (fe_0_6_1 : next_0 = next_1) (fe_0_8_1 : begin_0 = begin_1) (fe_0_9_1 : number_0 = number_1) (hE_0_0_1 : ∀ j : Int, tape_0 j = tape_1 j) (hK_0_0 : ∀ j : Int, 0 ≤ j → j < 2000 → (-128) ≤ tape_0 j ∧ tape_0 j ≤ 127) (kz_0_5 : 0 ≤ end_0 ∧ end_0 ≤ 2000) (kz_0_6 : 0 ≤ next_0 ∧ next_0 ≤ 2000) (kz_0_7 : (-128) ≤ kind_0 ∧ kind_0 ≤ 127) (kz_0_8 : 0 ≤ begin_0 ∧ begin_0 ≤ 2000) (kz_0_9 : (-176) ≤ number_0 ∧ number_0 ≤ 1000000) : (1 * kind_0 + 0 ≤ 3) ∨ ((-1) * number_0 + (1 * x1 + 0) ≤ 0) := by
  subst fe_0_5_1
  subst fe_0_6_1
  subst fe_0_8_1
  subst fe_0_9_1
  have e_hE_0_0_1 := funext hE_0_0_1; subst e_hE_0_0_1
  first | with_reducible assumption | ((try and_intros) <;> first | with_reducible assumption | (clear hE_0_0_1 hK_0_0; omega)) | omega
set_option maxHeartbeats 4000000 in
theorem vc_Re_advance_44_2 (x14 : Int) (kind_0 : Int) (begin_0 : Int) (end_0 : Int) (number_0 : Int) (next_0 : Int) (tape_0 : Int → Int) (tape_1 : Int → Int) (begin_1 : Int) (next_1 : Int) (end_1 : Int) (number_1 : Int) (k14 : 3 ≤ x14 ∧ x14 ≤ 3) (g0 : x14 = kind_0) (fe_0_5_1 : end_0 = end_1) (fe_0_6_1 : next_0 = next_1) (fe_0_8_1 : begin_0 = begin_1) (fe_0_9_1 : number_0 = number_1) (hE_0_0_1 : ∀ j : Int, tape_0 j = tape_1 j) (hK_0_0 : ∀ j : Int, 0 ≤ j → j < 2000 → (-128) ≤ tape_0 j ∧ tape_0 j ≤ 127) (kz_0_5 : 0 ≤ end_0 ∧ end_0 ≤ 2000) (kz_0_6 : 0 ≤ next_0 ∧ next_0 ≤ 2000) (kz_0_7 : (-128) ≤ kind_0 ∧ kind_0 ≤ 127) (kz_0_8 : 0 ≤ begin_0 ∧ begin_0 ≤ 2000) (kz_0_9 : (-176) ≤ number_0 ∧ number_0 ≤ 1000000) : ((-1) * kind_0 + 0 ≤ (-3)) ∨ (1 * next_0 + ((-1) * begin_0 + (2000 * kind_0 + 0)) ≤ 4008) := by
  subst fe_0_5_1
  subst fe_0_6_1
  subst fe_0_8_1
  subst fe_0_9_1
  have e_hE_0_0_1 := funext hE_0_0_1; subst e_hE_0_0_1
  first | with_reducible assumption | ((try and_intros) <;> first | with_reducible assumption | (clear hE_0_0_1 hK_0_0; omega)) | omega
set_option maxHeartbeats 4000000 in
theorem vc_Re_advance_44_3 (begin_0 : Int) (end_0 : Int) (number_0 : Int) (next_0 : Int) (tape_0 : Int → Int) (tape_1 : Int → Int) (begin_1 : Int) (next_1 : Int) (end_1 : Int) (number_1 : Int) (f18 : 1 * begin_1 + ((-1) * next_1 + 0) ≤ 0) (fe_0_5_1 : end_0 = end_1) (fe_0_6_1 : next_0 = next_1) (fe_0_8_1 : begin_0 = begin_1) (fe_0_9_1 : number_0 = number_1) (hE_0_0_1 : ∀ j : Int, tape_0 j = tape_1 j) (hK_0_0 : ∀ j : Int, 0 ≤ j → j < 2000 → (-128) ≤ tape_0 j ∧ tape_0 j ≤ 127) (kz_0_5 : 0 ≤ end_0 ∧ end_0 ≤ 2000) (kz_0_6 : 0 ≤ next_0 ∧ next_0 ≤ 2000) (kz_0_8 : 0 ≤ begin_0 ∧ begin_0 ≤ 2000) (kz_0_9 : (-176) ≤ number_0 ∧ number_0 ≤ 1000000) : 1 * begin_0 + ((-1) * next_0 + 0) ≤ 0 := by
  subst fe_0_5_1
  subst fe_0_6_1
  subst fe_0_8_1
  subst fe_0_9_1
  have e_hE_0_0_1 := funext hE_0_0_1; subst e_hE_0_0_1
  first | with_reducible assumption | ((try and_intros) <;> first | with_reducible assumption | (clear hE_0_0_1 hK_0_0; omega)) | omega
set_option maxHeartbeats 4000000 in
theorem vc_Re_advance_44_4 (x2 : Int) (x5 : Int) (x6 : Int) (x7 : Int) (x9 : Int) (x11 : Int) (x12 : Int) (x14 : Int) (kind_0 : Int) (begin_0 : Int) (end_0 : Int) (number_0 : Int) (next_0 : Int) (tape_0 : Int → Int) (tape_1 : Int → Int) (begin_1 : Int) (next_1 : Int) (end_1 : Int) (number_1 : Int) (k2 : 0 ≤ x2 ∧ x2 ≤ 2000) (k5 : (-176) ≤ x5 ∧ x5 ≤ 1000000) (k6 : 0 ≤ x6 ∧ x6 ≤ 1999) (k7 : 1 ≤ x7 ∧ x7 ≤ 2000) (k9 : (-128) ≤ x9 ∧ x9 ≤ 47) (k11 : 0 ≤ x11 ∧ x11 ≤ 2000) (k12 : (-2000) ≤ x12 ∧ x12 ≤ 3) (k14 : 3 ≤ x14 ∧ x14 ≤ 3) (g0 : x14 = kind_0) (g1 : x11 = begin_0) (g3 : x7 = end_0) (g4 : x5 = number_0) (g5 : x6 = next_0) (f7 : 1 * begin_0 + ((-1) * next_0 + 0) ≤ 0) (f13 : x12 = x6 - x11) (h16 : x9 = tape_1 (x6)) (f19 : CXD (end_1) (next_1) (begin_1) (number_1) (tape_1) (x2)) (fe_0_5_1 : end_0 = end_1) (fe_0_6_1 : next_0 = next_1) (fe_0_8_1 : begin_0 = begin_1) (fe_0_9_1 : number_0 = number_1) (hE_0_0_1 : ∀ j : Int, tape_0 j = tape_1 j) (hK_0_0 : ∀ j : Int, 0 ≤ j → j < 2000 → (-128) ≤ tape_0 j ∧ tape_0 j ≤ 127) (kz_0_5 : 0 ≤ end_0 ∧ end_0 ≤ 2000) (kz_0_6 : 0 ≤ next_0 ∧ next_0 ≤ 2000) (kz_0_7 : (-128) ≤ kind_0 ∧ kind_0 ≤ 127) (kz_0_8 : 0 ≤ begin_0 ∧ begin_0 ≤ 2000) (kz_0_9 : (-176) ≤ number_0 ∧ number_0 ≤ 1000000) : TKC (end_0) (next_0) (kind_0) (begin_0) (number_0) (tape_0) (x2) := by
  subst fe_0_5_1
  subst fe_0_6_1
  subst fe_0_8_1
  subst fe_0_9_1
  have e_hE_0_0_1 := funext hE_0_0_1; subst e_hE_0_0_1
  first | subst g0 | skip
  first | subst g1 | skip
  first | subst g3 | skip
  first | subst g4 | skip
  first | subst g5 | skip
  first
    | exact cxl_e (by assumption) ‹CXL _ _ _ _ _› (fun q => by omega) (by omega)
    | exact cxl_e (by assumption) ‹CXL _ _ _ _ _› (fun q => cnb_f ‹CNBy _ _› (by omega) (by omega)) (by omega)
    | exact cxd_e (by assumption) ‹CXD _ _ _ _ _ _› (fun q => by unfold cIG; omega) (by omega)
    | exact cxs_e (by assumption) (cx_1 (by assumption) ‹CX0 _ _ _ _› (fun q => by omega) (by omega)) (by omega) rfl (by unfold cIL; omega) (by unfold cIG; omega) (by omega) (Or.inl ⟨csg_t ‹CSG _ _› (by omega) (by omega), by omega⟩)
    | exact cxs_e (by assumption) (cx_1 (by assumption) ‹CX0 _ _ _ _› (fun q => by omega) (by omega)) (by omega) rfl (by unfold cIL; omega) (by unfold cIG; omega) (by omega) (Or.inr ⟨csg_f ‹CSG _ _› (by omega) (by omega), by omega⟩)
set_option maxHeartbeats 4000000 in
theorem vc_Re_advance_44_5 (x2 : Int) (begin_0 : Int) (end_0 : Int) (number_0 : Int) (next_0 : Int) (tape_0 : Int → Int) (tape_1 : Int → Int) (begin_1 : Int) (next_1 : Int) (end_1 : Int) (number_1 : Int) (k2 : 0 ≤ x2 ∧ x2 ≤ 2000) (f20 : 1 * x2 + ((-1) * next_1 + 0) ≤ 0) (fe_0_5_1 : end_0 = end_1) (fe_0_6_1 : next_0 = next_1) (fe_0_8_1 : begin_0 = begin_1) (fe_0_9_1 : number_0 = number_1) (hE_0_0_1 : ∀ j : Int, tape_0 j = tape_1 j) (hK_0_0 : ∀ j : Int, 0 ≤ j → j < 2000 → (-128) ≤ tape_0 j ∧ tape_0 j ≤ 127) (kz_0_5 : 0 ≤ end_0 ∧ end_0 ≤ 2000) (kz_0_6 : 0 ≤ next_0 ∧ next_0 ≤ 2000) (kz_0_8 : 0 ≤ begin_0 ∧ begin_0 ≤ 2000) (kz_0_9 : (-176) ≤ number_0 ∧ number_0 ≤ 1000000) : 1 * x2 + ((-1) * next_0 + 0) ≤ 0 := by
  subst fe_0_5_1
  subst fe_0_6_1
  subst fe_0_8_1
  subst fe_0_9_1
  have e_hE_0_0_1 := funext hE_0_0_1; subst e_hE_0_0_1
  first | with_reducible assumption | ((try and_intros) <;> first | with_reducible assumption | (clear hE_0_0_1 hK_0_0; omega)) | omega
def o_Re_advance_44 : or_T := (290, 15, [(0, (2, 0, 0, [8])), (1, (0, -2147483648, 1000000, [])), (2, (0, 0, 2000, [])), (3, (2, 0, 0, [8])), (5, (0, -176, 1000000, [])), (6, (0, 0, 1999, [])), (7, (0, 1, 2000, [])), (8, (2, 0, 0, [109])), (9, (0, -128, 47, [])), (10, (0, 0, 0, [])), (11, (0, 0, 2000, [])), (12, (0, -2000, 3, [])), (13, (0, 3, 3, [])), (14, (0, 3, 3, []))], [(9, [14, 3], [7]), (9, [11, 3], [8]), (9, [8, 3], [0]), (9, [7, 3], [5]), (9, [5, 3], [9]), (9, [6, 3], [6]), (20, [9, 10], [61, 0, 1098]), (20, [3, 3], [30, 0, 1, 1, 8, -1, 1, 6]), (20, [3, 2], [60, 4, 1, 1077, 5, 6, 8, 9, 0]), (20, [2, 3], [30, 0, 1, 0, 0, -1, 1, 6]), (24, [0, 3], []), (101, [3, 14], [7]), (7, [12, 13], [5]), (2, [12, 6, 11], []), (8, [10], [0]), (20, [9, 10], [61, 0, 1098]), (10, [9, 8, 6], []), (7, [6, 7], [2]), (20, [3, 3], [30, 0, 1, 1, 8, -1, 1, 6]), (20, [3, 2], [60, 4, 1, 1077, 5, 6, 8, 9, 0]), (20, [2, 3], [30, 0, 1, 0, 0, -1, 1, 6])], [], [], [(20, [0, 0, 1], [31, 1, 3, 1, 1, 7, 0, 1, 1, 9, -1, 0, 0]), (20, [0, 0, 1], [31, 1, 3, 1, 1, 7, 0, -1, 1, 9, 1, 0, 0]), (20, [0, 0, 0, 0], [31, 1, -3, -1, 1, 7, 4008, 1, 1, 6, -1, 1, 8, 2000, 1, 7]), (20, [0, 0], [30, 0, 1, 1, 8, -1, 1, 6]), (20, [0, 2], [60, 5, 1, 1072, 5, 6, 7, 8, 9, 0]), (20, [2, 0], [30, 0, 1, 0, 0, -1, 1, 6])], [], [(12, 6, -2000, 0), (12, 7, -4294967296, -1), (6, 7, -4294967296, -1)])
theorem oo_Re_advance_44 {kA : Nat → ClassId} : or_ok PRD kA GG o_Re_advance_44 := by
  refine or_mk fun A ta ws vs hD hth hl => ?_
  intro t0 r0 t1 k1 t2 k2 t3 r3 t5 k5 t6 k6 t7 k7 t8 r8 t9 k9 t10 k10 t11 k11 t12 k12 t13 k13 t14 k14 d0 d1 d2 f0 f1 f2 f3 f4 f5 f6 f7 f8 f9 f10 ta1 w1 le1 s1 f12 f13 f14 f15 f16 f17 f18 f19 f20
  replace f0 := shm_198 f0
  replace f1 := shm_293 f1
  replace f2 := shm_163 f2
  replace f3 := shm_110 f3
  replace f4 := shm_119 f4
  replace f5 := shm_111 f5
  replace f7 := shm_1531 f7
  replace f10 := shm_5 f10
  have s1 : (∀ b j, w_el ws b j = w_el w1 b j) ∧ ∀ b j, w_fd ws b j = if b = v_ad (n_v vs 3) ∧ j = 7 then n_v vs 14 else w_fd w1 b j := s1.2
  replace f16 := shm_107 f16
  replace f18 := shm_1531 f18
  replace f19 := shm_1533 f19
  replace f20 := shm_1527 f20
  have q3 : n_v vs 3 = n_v vs 0 := f10.symm
  simp only [q3] at f0 f1 f2 f3 f4 f5 f7
  rw [q3] at s1
  simp only [q3] at f18 f19 f20
  have ar_0_0_1 : w_ar w1 (n_v vs 0) 0 = w_ar ws (n_v vs 0) 0 := by show v_ad (w_fd w1 _ _) = v_ad (w_fd ws _ _); rw [s1.2, if_neg (fun e => absurd e.2 (by decide))]
  have cr_0_0 := fdq_95 hD hth r0
  have ad_8 : v_ad (n_v vs 8) = w_ar ws (n_v vs 0) 0 := congrArg v_ad f2
  have g0 : v_iv (n_v vs 14) = w_fi ws (n_v vs 0) 7 := congrArg v_iv f0
  have g1 : v_iv (n_v vs 11) = w_fi ws (n_v vs 0) 8 := congrArg v_iv f1
  have g3 : v_iv (n_v vs 7) = w_fi ws (n_v vs 0) 5 := congrArg v_iv f3
  have g4 : v_iv (n_v vs 5) = w_fi ws (n_v vs 0) 9 := congrArg v_iv f4
  have g5 : v_iv (n_v vs 6) = w_fi ws (n_v vs 0) 6 := congrArg v_iv f5
  simp only [ad_8] at f16
  have h16 : v_iv (n_v vs 9) = w_ei w1 (w_ar ws (n_v vs 0) 0) (v_iv (n_v vs 6)) := f16
  simp only [ar_0_0_1] at f19
  have fe_0_5_1 : w_fi ws (n_v vs 0) 5 = w_fi w1 (n_v vs 0) 5 := by show v_iv (w_fd _ _ _) = v_iv (w_fd _ _ _); rw [s1.2, if_neg (fun e => absurd e.2 (by decide))]
  have fe_0_6_1 : w_fi ws (n_v vs 0) 6 = w_fi w1 (n_v vs 0) 6 := by show v_iv (w_fd _ _ _) = v_iv (w_fd _ _ _); rw [s1.2, if_neg (fun e => absurd e.2 (by decide))]
  have fe_0_8_1 : w_fi ws (n_v vs 0) 8 = w_fi w1 (n_v vs 0) 8 := by show v_iv (w_fd _ _ _) = v_iv (w_fd _ _ _); rw [s1.2, if_neg (fun e => absurd e.2 (by decide))]
  have fe_0_9_1 : w_fi ws (n_v vs 0) 9 = w_fi w1 (n_v vs 0) 9 := by show v_iv (w_fd _ _ _) = v_iv (w_fd _ _ _); rw [s1.2, if_neg (fun e => absurd e.2 (by decide))]
  have hE_0_0_1 : ∀ j : Int, w_ei ws (w_ar ws (n_v vs 0) 0) j = w_ei w1 (w_ar ws (n_v vs 0) 0) j := fun j => s1.1 _ _
  have hK_0_0 := elq_33 hD hth cr_0_0
  have kz_0_5 := fdq_207 hD hth r0
  have kz_0_6 := fdq_208 hD hth r0
  have kz_0_7 := fdq_297 hD hth r0
  have kz_0_8 := fdq_99 hD hth r0
  have kz_0_9 := fdq_296 hD hth r0
  have nf0 : fc_1 PRD (20, [0, 0, 1], [31, 1, 3, 1, 1, 7, 0, 1, 1, 9, -1, 0, 0]) ws (vs) := ⟨nf_in hl rfl, sgq_1528 (vc_Re_advance_44_0 (v_iv (n_v vs 1)) (v_iv (n_v vs 14)) (w_fi ws (n_v vs 0) 7) (w_fi ws (n_v vs 0) 8) (w_fi ws (n_v vs 0) 5) (w_fi ws (n_v vs 0) 9) (w_fi ws (n_v vs 0) 6) (w_ei ws (w_ar ws (n_v vs 0) 0)) (w_ei w1 (w_ar ws (n_v vs 0) 0)) (w_fi w1 (n_v vs 0) 8) (w_fi w1 (n_v vs 0) 6) (w_fi w1 (n_v vs 0) 5) (w_fi w1 (n_v vs 0) 9) k1 k14 g0 fe_0_5_1 fe_0_6_1 fe_0_8_1 fe_0_9_1 hE_0_0_1 hK_0_0 kz_0_5 kz_0_6 kz_0_7 kz_0_8 kz_0_9)⟩
  have nf1 : fc_1 PRD (20, [0, 0, 1], [31, 1, 3, 1, 1, 7, 0, -1, 1, 9, 1, 0, 0]) ws (vs) := ⟨nf_in hl rfl, sgq_1529 (vc_Re_advance_44_1 (v_iv (n_v vs 1)) (v_iv (n_v vs 14)) (w_fi ws (n_v vs 0) 7) (w_fi ws (n_v vs 0) 8) (w_fi ws (n_v vs 0) 5) (w_fi ws (n_v vs 0) 9) (w_fi ws (n_v vs 0) 6) (w_ei ws (w_ar ws (n_v vs 0) 0)) (w_ei w1 (w_ar ws (n_v vs 0) 0)) (w_fi w1 (n_v vs 0) 8) (w_fi w1 (n_v vs 0) 6) (w_fi w1 (n_v vs 0) 5) (w_fi w1 (n_v vs 0) 9) k1 k14 g0 fe_0_5_1 fe_0_6_1 fe_0_8_1 fe_0_9_1 hE_0_0_1 hK_0_0 kz_0_5 kz_0_6 kz_0_7 kz_0_8 kz_0_9)⟩
  have nf2 : fc_1 PRD (20, [0, 0, 0, 0], [31, 1, -3, -1, 1, 7, 4008, 1, 1, 6, -1, 1, 8, 2000, 1, 7]) ws (vs) := ⟨nf_in hl rfl, sgq_1530 (vc_Re_advance_44_2 (v_iv (n_v vs 14)) (w_fi ws (n_v vs 0) 7) (w_fi ws (n_v vs 0) 8) (w_fi ws (n_v vs 0) 5) (w_fi ws (n_v vs 0) 9) (w_fi ws (n_v vs 0) 6) (w_ei ws (w_ar ws (n_v vs 0) 0)) (w_ei w1 (w_ar ws (n_v vs 0) 0)) (w_fi w1 (n_v vs 0) 8) (w_fi w1 (n_v vs 0) 6) (w_fi w1 (n_v vs 0) 5) (w_fi w1 (n_v vs 0) 9) k14 g0 fe_0_5_1 fe_0_6_1 fe_0_8_1 fe_0_9_1 hE_0_0_1 hK_0_0 kz_0_5 kz_0_6 kz_0_7 kz_0_8 kz_0_9)⟩
  have nf3 : fc_1 PRD (20, [0, 0], [30, 0, 1, 1, 8, -1, 1, 6]) ws (vs) := ⟨nf_in hl rfl, sgq_1531 (vc_Re_advance_44_3 (w_fi ws (n_v vs 0) 8) (w_fi ws (n_v vs 0) 5) (w_fi ws (n_v vs 0) 9) (w_fi ws (n_v vs 0) 6) (w_ei ws (w_ar ws (n_v vs 0) 0)) (w_ei w1 (w_ar ws (n_v vs 0) 0)) (w_fi w1 (n_v vs 0) 8) (w_fi w1 (n_v vs 0) 6) (w_fi w1 (n_v vs 0) 5) (w_fi w1 (n_v vs 0) 9) f18 fe_0_5_1 fe_0_6_1 fe_0_8_1 fe_0_9_1 hE_0_0_1 hK_0_0 kz_0_5 kz_0_6 kz_0_8 kz_0_9)⟩
  have nf4 : fc_1 PRD (20, [0, 2], [60, 5, 1, 1072, 5, 6, 7, 8, 9, 0]) ws (vs) := ⟨nf_in hl rfl, sgq_1532 (vc_Re_advance_44_4 (v_iv (n_v vs 2)) (v_iv (n_v vs 5)) (v_iv (n_v vs 6)) (v_iv (n_v vs 7)) (v_iv (n_v vs 9)) (v_iv (n_v vs 11)) (v_iv (n_v vs 12)) (v_iv (n_v vs 14)) (w_fi ws (n_v vs 0) 7) (w_fi ws (n_v vs 0) 8) (w_fi ws (n_v vs 0) 5) (w_fi ws (n_v vs 0) 9) (w_fi ws (n_v vs 0) 6) (w_ei ws (w_ar ws (n_v vs 0) 0)) (w_ei w1 (w_ar ws (n_v vs 0) 0)) (w_fi w1 (n_v vs 0) 8) (w_fi w1 (n_v vs 0) 6) (w_fi w1 (n_v vs 0) 5) (w_fi w1 (n_v vs 0) 9) k2 k5 k6 k7 k9 k11 k12 k14 g0 g1 g3 g4 g5 f7 (shm_14 f13) h16 f19 fe_0_5_1 fe_0_6_1 fe_0_8_1 fe_0_9_1 hE_0_0_1 hK_0_0 kz_0_5 kz_0_6 kz_0_7 kz_0_8 kz_0_9)⟩
  have nf5 : fc_1 PRD (20, [2, 0], [30, 0, 1, 0, 0, -1, 1, 6]) ws (vs) := ⟨nf_in hl rfl, sgq_1527 (vc_Re_advance_44_5 (v_iv (n_v vs 2)) (w_fi ws (n_v vs 0) 8) (w_fi ws (n_v vs 0) 5) (w_fi ws (n_v vs 0) 9) (w_fi ws (n_v vs 0) 6) (w_ei ws (w_ar ws (n_v vs 0) 0)) (w_ei w1 (w_ar ws (n_v vs 0) 0)) (w_fi w1 (n_v vs 0) 8) (w_fi w1 (n_v vs 0) 6) (w_fi w1 (n_v vs 0) 5) (w_fi w1 (n_v vs 0) 9) k2 f20 fe_0_5_1 fe_0_6_1 fe_0_8_1 fe_0_9_1 hE_0_0_1 hK_0_0 kz_0_5 kz_0_6 kz_0_8 kz_0_9)⟩
  refine ⟨(fun _ h => (by cases h)), [], trivial, ?_, (fun _ h => (by cases h))⟩
  rw [List.append_nil]
  exact List.forall_mem_cons.mpr ⟨⟨show (20 : Nat) < 100 from by decide, nf0⟩, List.forall_mem_cons.mpr ⟨⟨show (20 : Nat) < 100 from by decide, nf1⟩, List.forall_mem_cons.mpr ⟨⟨show (20 : Nat) < 100 from by decide, nf2⟩, List.forall_mem_cons.mpr ⟨⟨show (20 : Nat) < 100 from by decide, nf3⟩, List.forall_mem_cons.mpr ⟨⟨show (20 : Nat) < 100 from by decide, nf4⟩, List.forall_mem_cons.mpr ⟨⟨show (20 : Nat) < 100 from by decide, nf5⟩, (fun _ h => (by cases h))⟩⟩⟩⟩⟩⟩

set_option maxHeartbeats 4000000 in
theorem vc_Re_advance_45_0 (x1 : Int) (x14 : Int) (kind_0 : Int) (begin_0 : Int) (end_0 : Int) (number_0 : Int) (next_0 : Int) (tape_0 : Int → Int) (tape_1 : Int → Int) (begin_1 : Int) (next_1 : Int) (end_1 : Int) (number_1 : Int) (k1 : (-2147483648) ≤ x1 ∧ x1 ≤ 1000000) (k14 : 1 ≤ x14 ∧ x14 ≤ 1) (g0 : x14 = kind_0) (fe_0_5_1 : end_0 = end_1) (fe_0_6_1 : next_0 = next_1) (fe_0_8_1 : begin_0 = begin_1) (fe_0_9_1 : number_0 = number_1) (hE_0_0_1 : ∀ j : Int, tape_0 j = tape_1 j) (hK_0_0 : ∀ j : Int, 0 ≤ j → j < 2000 → (-128) ≤ tape_0 j ∧ tape_0 j ≤ 127) (kz_0_5 : 0 ≤ end_0 ∧ end_0 ≤ 2000) (kz_0_6 : 0 ≤ next_0 ∧ next_0 ≤ 2000) (kz_0_7 : (-128) ≤ kind_0 ∧ kind_0 ≤ 127) (kz_0_8 : 0 ≤ begin_0 ∧ begin_0 ≤ 2000) (kz_0_9 : (-176) ≤ number_0 ∧ number_0 ≤ 1000000) : (1 * kind_0 + 0 ≤ 3) ∨ (1 * number_0 + ((-1) * x1 + 0) ≤ 0) := by
  subst fe_0_5_1
  subst fe_0_6_1
  subst fe_0_8_1
  subst fe_0_9_1
  have e_hE_0_0_1 := funext hE_0_0_1; subst e_hE_0_0_1
  first | with_reducible assumption | ((try and_intros) <;> first | with_reducible assumption | (clear hE_0_0_1 hK_0_0; omega)) | omega
set_option maxHeartbeats 4000000 in
theorem vc_Re_advance_45_1 (x1 : Int) (x14 : Int) (kind_0 : Int) (begin_0 : Int) (end_0 : Int) (number_0 : Int) (next_0 : Int) (tape_0 : Int → Int) (tape_1 : Int → Int) (begin_1 : Int) (next_1 : Int) (end_1 : Int) (number_1 : Int) (k1 : (-2147483648) ≤ x1 ∧ x1 ≤ 1000000) (k14 : 1 ≤ x14 ∧ x14 ≤ 1) (g0 : x14 = kind_0) (fe_0_5_1 : end_0 = end_1) (fe_0_6_1 : next_0 = next_1) (fe_0_8_1 : begin_0 = begin_1) (fe_0_9_1 : number_0 = number_1) (hE_0_0_1 : ∀ j : Int, tape_0 j = tape_1 j) (hK_0_0 : ∀ j : Int, 0 ≤ j → j < 2000 → (-128) ≤ tape_0 j ∧ tape_0 j ≤ 127) (kz_0_5 : 0 ≤ end_0 ∧ end_0 ≤ 2000) (kz_0_6 : 0 ≤ next_0 ∧ next_0 ≤ 2000) (kz_0_7 : (-128) ≤ kind_0 ∧ kind_0 ≤ 127) (kz_0_8 : 0 ≤ begin_0 ∧ begin_0 ≤ 2000) (kz_0_9 : (-176) ≤ number_0 ∧ number_0 ≤ 1000000) : (1 * kind_0 + 0 ≤ 3) ∨ ((-1) * number_0 + (1 * x1 + 0) ≤ 0) := by
  subst fe_0_5_1
  subst fe_0_6_1
  subst fe_0_8_1
  subst fe_0_9_1
  have e_hE_0_0_1 := funext hE_0_0_1; subst e_hE_0_0_1
  first | with_reducible assumption | ((try and_intros) <;> first | with_reducible assumption | (clear hE_0_0_1 hK_0_0; omega)) | omega
set_option maxHeartbeats 4000000 in
theorem vc_Re_advance_45_2 (x6 : Int) (x11 : Int) (x12 : Int) (x14 : Int) (kind_0 : Int) (begin_0 : Int) (end_0 : Int) (number_0 : Int) (next_0 : Int) (tape_0 : Int → Int) (tape_1 : Int → Int) (begin_1 : Int) (next_1 : Int) (end_1 : Int) (number_1 : Int) (k6 : 4 ≤ x6 ∧ x6 ≤ 1999) (k11 : 0 ≤ x11 ∧ x11 ≤ 2000) (k12 : 4 ≤ x12 ∧ x12 ≤ 1999) (k14 : 1 ≤ x14 ∧ x14 ≤ 1) (g0 : x14 = kind_0) (g1 : x11 = begin_0) (g5 : x6 = next_0) (f13 : x12 = x6 - x11) (fe_0_5_1 : end_0 = end_1) (fe_0_6_1 : next_0 = next_1) (fe_0_8_1 : begin_0 = begin_1) (fe_0_9_1 : number_0 = number_1) (hE_0_0_1 : ∀ j : Int, tape_0 j = tape_1 j) (hK_0_0 : ∀ j : Int, 0 ≤ j → j < 2000 → (-128) ≤ tape_0 j ∧ tape_0 j ≤ 127) (kz_0_5 : 0 ≤ end_0 ∧ end_0 ≤ 2000) (kz_0_6 : 0 ≤ next_0 ∧ next_0 ≤ 2000) (kz_0_7 : (-128) ≤ kind_0 ∧ kind_0 ≤ 127) (kz_0_8 : 0 ≤ begin_0 ∧ begin_0 ≤ 2000) (kz_0_9 : (-176) ≤ number_0 ∧ number_0 ≤ 1000000) : ((-1) * kind_0 + 0 ≤ (-3)) ∨ (1 * next_0 + ((-1) * begin_0 + (2000 * kind_0 + 0)) ≤ 4008) := by
  subst fe_0_5_1
  subst fe_0_6_1
  subst fe_0_8_1
  subst fe_0_9_1
  have e_hE_0_0_1 := funext hE_0_0_1; subst e_hE_0_0_1
  first | with_reducible assumption | ((try and_intros) <;> first | with_reducible assumption | (clear hE_0_0_1 hK_0_0; omega)) | omega
set_option maxHeartbeats 4000000 in
theorem vc_Re_advance_45_3 (begin_0 : Int) (end_0 : Int) (number_0 : Int) (next_0 : Int) (tape_0 : Int → Int) (tape_1 : Int → Int) (begin_1 : Int) (next_1 : Int) (end_1 : Int) (number_1 : Int) (f18 : 1 * begin_1 + ((-1) * next_1 + 0) ≤ 0) (fe_0_5_1 : end_0 = end_1) (fe_0_6_1 : next_0 = next_1) (fe_0_8_1 : begin_0 = begin_1) (fe_0_9_1 : number_0 = number_1) (hE_0_0_1 : ∀ j : Int, tape_0 j = tape_1 j) (hK_0_0 : ∀ j : Int, 0 ≤ j → j < 2000 → (-128) ≤ tape_0 j ∧ tape_0 j ≤ 127) (kz_0_5 : 0 ≤ end_0 ∧ end_0 ≤ 2000) (kz_0_6 : 0 ≤ next_0 ∧ next_0 ≤ 2000) (kz_0_8 : 0 ≤ begin_0 ∧ begin_0 ≤ 2000) (kz_0_9 : (-176) ≤ number_0 ∧ number_0 ≤ 1000000) : 1 * begin_0 + ((-1) * next_0 + 0) ≤ 0 := by
  subst fe_0_5_1
  subst fe_0_6_1
  subst fe_0_8_1
  subst fe_0_9_1
  have e_hE_0_0_1 := funext hE_0_0_1; subst e_hE_0_0_1
  first | with_reducible assumption | ((try and_intros) <;> first | with_reducible assumption | (clear hE_0_0_1 hK_0_0; omega)) | omega
set_option maxHeartbeats 4000000 in
theorem vc_Re_advance_45_4 (x2 : Int) (x5 : Int) (x6 : Int) (x7 : Int) (x9 : Int) (x11 : Int) (x12 : Int) (x14 : Int) (kind_0 : Int) (begin_0 : Int) (end_0 : Int) (number_0 : Int) (next_0 : Int) (tape_0 : Int → Int) (tape_1 : Int → Int) (begin_1 : Int) (next_1 : Int) (end_1 : Int) (number_1 : Int) (k2 : 0 ≤ x2 ∧ x2 ≤ 2000) (k5 : (-176) ≤ x5 ∧ x5 ≤ 1000000) (k6 : 4 ≤ x6 ∧ x6 ≤ 1999) (k7 : 5 ≤ x7 ∧ x7 ≤ 2000) (k9 : 58 ≤ x9 ∧ x9 ≤ 127) (k11 : 0 ≤ x11 ∧ x11 ≤ 2000) (k12 : 4 ≤ x12 ∧ x12 ≤ 1999) (k14 : 1 ≤ x14 ∧ x14 ≤ 1) (g0 : x14 = kind_0) (g1 : x11 = begin_0) (g3 : x7 = end_0) (g4 : x5 = number_0) (g5 : x6 = next_0) (f13 : x12 = x6 - x11) (h16 : x9 = tape_1 (x6)) (f19 : CXD (end_1) (next_1) (begin_1) (number_1) (tape_1) (x2)) (fe_0_5_1 : end_0 = end_1) (fe_0_6_1 : next_0 = next_1) (fe_0_8_1 : begin_0 = begin_1) (fe_0_9_1 : number_0 = number_1) (hE_0_0_1 : ∀ j : Int, tape_0 j = tape_1 j) (hK_0_0 : ∀ j : Int, 0 ≤ j → j < 2000 → (-128) ≤ tape_0 j ∧ tape_0 j ≤ 127) (kz_0_5 : 0 ≤ end_0 ∧ end_0 ≤ 2000) (kz_0_6 : 0 ≤ next_0 ∧ next_0 ≤ 2000) (kz_0_7 : (-128) ≤ kind_0 ∧ kind_0 ≤ 127) (kz_0_8 : 0 ≤ begin_0 ∧ begin_0 ≤ 2000) (kz_0_9 : (-176) ≤ number_0 ∧ number_0 ≤ 1000000) : TKC (end_0) (next_0) (kind_0) (begin_0) (number_0) (tape_0) (x2) := by
  subst fe_0_5_1
  subst fe_0_6_1
  subst fe_0_8_1
  subst fe_0_9_1
  have e_hE_0_0_1 := funext hE_0_0_1; subst e_hE_0_0_1
  first | subst g0 | skip
  first | subst g1 | skip
  first | subst g3 | skip
  first | subst g4 | skip
  first | subst g5 | skip
  first
    | exact cxl_e (by assumption) ‹CXL _ _ _ _ _› (fun q => by omega) (by omega)
    | exact cxl_e (by assumption) ‹CXL _ _ _ _ _› (fun q => cnb_f ‹CNBy _ _› (by omega) (by omega)) (by omega)
    | exact cxd_e (by assumption) ‹CXD _ _ _ _ _ _› (fun q => by unfold cIG; omega) (by omega)
    | exact cxs_e (by assumption) (cx_1 (by assumption) ‹CX0 _ _ _ _› (fun q => by omega) (by omega)) (by omega) rfl (by unfold cIL; omega) (by unfold cIG; omega) (by omega) (Or.inl ⟨csg_t ‹CSG _ _› (by omega) (by omega), by omega⟩)
    | exact cxs_e (by assumption) (cx_1 (by assumption) ‹CX0 _ _ _ _› (fun q => by omega) (by omega)) (by omega) rfl (by unfold cIL; omega) (by unfold cIG; omega) (by omega) (Or.inr ⟨csg_f ‹CSG _ _› (by omega) (by omega), by omega⟩)
set_option maxHeartbeats 4000000 in
theorem vc_Re_advance_45_5 (x2 : Int) (begin_0 : Int) (end_0 : Int) (number_0 : Int) (next_0 : Int) (tape_0 : Int → Int) (tape_1 : Int → Int) (begin_1 : Int) (next_1 : Int) (end_1 : Int) (number_1 : Int) (k2 : 0 ≤ x2 ∧ x2 ≤ 2000) (f20 : 1 * x2 + ((-1) * next_1 + 0) ≤ 0) (fe_0_5_1 : end_0 = end_1) (fe_0_6_1 : next_0 = next_1) (fe_0_8_1 : begin_0 = begin_1) (fe_0_9_1 : number_0 = number_1) (hE_0_0_1 : ∀ j : Int, tape_0 j = tape_1 j) (hK_0_0 : ∀ j : Int, 0 ≤ j → j < 2000 → (-128) ≤ tape_0 j ∧ tape_0 j ≤ 127) (kz_0_5 : 0 ≤ end_0 ∧ end_0 ≤ 2000) (kz_0_6 : 0 ≤ next_0 ∧ next_0 ≤ 2000) (kz_0_8 : 0 ≤ begin_0 ∧ begin_0 ≤ 2000) (kz_0_9 : (-176) ≤ number_0 ∧ number_0 ≤ 1000000) : 1 * x2 + ((-1) * next_0 + 0) ≤ 0 := by
  subst fe_0_5_1
  subst fe_0_6_1
  subst fe_0_8_1
  subst fe_0_9_1
  have e_hE_0_0_1 := funext hE_0_0_1; subst e_hE_0_0_1
  first | with_reducible assumption | ((try and_intros) <;> first | with_reducible assumption | (clear hE_0_0_1 hK_0_0; omega)) | omega
def o_Re_advance_45 : or_T := (290, 15, [(0, (2, 0, 0, [8])), (1, (0, -2147483648, 1000000, [])), (2, (0, 0, 2000, [])), (3, (2, 0, 0, [8])), (5, (0, -176, 1000000, [])), (6, (0, 4, 1999, [])), (7, (0, 5, 2000, [])), (8, (2, 0, 0, [109])), (9, (0, 58, 127, [])), (10, (0, 0, 0, [])), (11, (0, 0, 2000, [])), (12, (0, 4, 1999, [])), (13, (0, 3, 3, [])), (14, (0, 1, 1, []))], [(9, [14, 3], [7]), (9, [11, 3], [8]), (9, [8, 3], [0]), (9, [7, 3], [5]), (9, [5, 3], [9]), (9, [6, 3], [6]), (20, [9, 10], [61, 0, 1098]), (20, [3, 3], [30, 0, 1, 1, 8, -1, 1, 6]), (20, [3, 2], [60, 4, 1, 1077, 5, 6, 8, 9, 0]), (20, [2, 3], [30, 0, 1, 0, 0, -1, 1, 6]), (24, [0, 3], []), (101, [3, 14], [7]), (7, [12, 13], [4]), (2, [12, 6, 11], []), (8, [10], [0]), (20, [9, 10], [61, 0, 1098]), (10, [9, 8, 6], []), (7, [6, 7], [2]), (20, [3, 3], [30, 0, 1, 1, 8, -1, 1, 6]), (20, [3, 2], [60, 4, 1, 1077, 5, 6, 8, 9, 0]), (20, [2, 3], [30, 0, 1, 0, 0, -1, 1, 6])], [], [], [(20, [0, 0, 1], [31, 1, 3, 1, 1, 7, 0, 1, 1, 9, -1, 0, 0]), (20, [0, 0, 1], [31, 1, 3, 1, 1, 7, 0, -1, 1, 9, 1, 0, 0]), (20, [0, 0, 0, 0], [31, 1, -3, -1, 1, 7, 4008, 1, 1, 6, -1, 1, 8, 2000, 1, 7]), (20, [0, 0], [30, 0, 1, 1, 8, -1, 1, 6]), (20, [0, 2], [60, 5, 1, 1072, 5, 6, 7, 8, 9, 0]), (20, [2, 0], [30, 0, 1, 0, 0, -1, 1, 6])], [], [(12, 6, -2000, 0), (12, 7, -4294967296, -1), (6, 7, -4294967296, -1)])
theorem oo_Re_advance_45 {kA : Nat → ClassId} : or_ok PRD kA GG o_Re_advance_45 := by
  refine or_mk fun A ta ws vs hD hth hl => ?_
  intro t0 r0 t1 k1 t2 k2 t3 r3 t5 k5 t6 k6 t7 k7 t8 r8 t9 k9 t10 k10 t11 k11 t12 k12 t13 k13 t14 k14 d0 d1 d2 f0 f1 f2 f3 f4 f5 f6 f7 f8 f9 f10 ta1 w1 le1 s1 f12 f13 f14 f15 f16 f17 f18 f19 f20
  replace f0 := shm_198 f0
  replace f1 := shm_293 f1
  replace f2 := shm_163 f2
  replace f3 := shm_110 f3
  replace f4 := shm_119 f4
  replace f5 := shm_111 f5
  replace f10 := shm_5 f10
  have s1 : (∀ b j, w_el ws b j = w_el w1 b j) ∧ ∀ b j, w_fd ws b j = if b = v_ad (n_v vs 3) ∧ j = 7 then n_v vs 14 else w_fd w1 b j := s1.2
  replace f16 := shm_107 f16
  replace f18 := shm_1531 f18
  replace f19 := shm_1533 f19
  replace f20 := shm_1527 f20
  have q3 : n_v vs 3 = n_v vs 0 := f10.symm
  simp only [q3] at f0 f1 f2 f3 f4 f5
  rw [q3] at s1
  simp only [q3] at f18 f19 f20
  have ar_0_0_1 : w_ar w1 (n_v vs 0) 0 = w_ar ws (n_v vs 0) 0 := by show v_ad (w_fd w1 _ _) = v_ad (w_fd ws _ _); rw [s1.2, if_neg (fun e => absurd e.2 (by decide))]
  have cr_0_0 := fdq_95 hD hth r0
  have ad_8 : v_ad (n_v vs 8) = w_ar ws (n_v vs 0) 0 := congrArg v_ad f2
  have g0 : v_iv (n_v vs 14) = w_fi ws (n_v vs 0) 7 := congrArg v_iv f0
  have g1 : v_iv (n_v vs 11) = w_fi ws (n_v vs 0) 8 := congrArg v_iv f1
  have g3 : v_iv (n_v vs 7) = w_fi ws (n_v vs 0) 5 := congrArg v_iv f3
  have g4 : v_iv (n_v vs 5) = w_fi ws (n_v vs 0) 9 := congrArg v_iv f4
  have g5 : v_iv (n_v vs 6) = w_fi ws (n_v vs 0) 6 := congrArg v_iv f5
  simp only [ad_8] at f16
  have h16 : v_iv (n_v vs 9) = w_ei w1 (w_ar ws (n_v vs 0) 0) (v_iv (n_v vs 6)) := f16
  simp only [ar_0_0_1] at f19
  have fe_0_5_1 : w_fi ws (n_v vs 0) 5 = w_fi w1 (n_v vs 0) 5 := by show v_iv (w_fd _ _ _) = v_iv (w_fd _ _ _); rw [s1.2, if_neg (fun e => absurd e.2 (by decide))]
  have fe_0_6_1 : w_fi ws (n_v vs 0) 6 = w_fi w1 (n_v vs 0) 6 := by show v_iv (w_fd _ _ _) = v_iv (w_fd _ _ _); rw [s1.2, if_neg (fun e => absurd e.2 (by decide))]
  have fe_0_8_1 : w_fi ws (n_v vs 0) 8 = w_fi w1 (n_v vs 0) 8 := by show v_iv (w_fd _ _ _) = v_iv (w_fd _ _ _); rw [s1.2, if_neg (fun e => absurd e.2 (by decide))]
  have fe_0_9_1 : w_fi ws (n_v vs 0) 9 = w_fi w1 (n_v vs 0) 9 := by show v_iv (w_fd _ _ _) = v_iv (w_fd _ _ _); rw [s1.2, if_neg (fun e => absurd e.2 (by decide))]
  have hE_0_0_1 : ∀ j : Int, w_ei ws (w_ar ws (n_v vs 0) 0) j = w_ei w1 (w_ar ws (n_v vs 0) 0) j := fun j => s1.1 _ _
  have hK_0_0 := elq_33 hD hth cr_0_0
  have kz_0_5 := fdq_207 hD hth r0
  have kz_0_6 := fdq_208 hD hth r0
  have kz_0_7 := fdq_297 hD hth r0
  have kz_0_8 := fdq_99 hD hth r0
  have kz_0_9 := fdq_296 hD hth r0
  have nf0 : fc_1 PRD (20, [0, 0, 1], [31, 1, 3, 1, 1, 7, 0, 1, 1, 9, -1, 0, 0]) ws (vs) := ⟨nf_in hl rfl, sgq_1528 (vc_Re_advance_45_0 (v_iv (n_v vs 1)) (v_iv (n_v vs 14)) (w_fi ws (n_v vs 0) 7) (w_fi ws (n_v vs 0) 8) (w_fi ws (n_v vs 0) 5) (w_fi ws (n_v vs 0) 9) (w_fi ws (n_v vs 0) 6) (w_ei ws (w_ar ws (n_v vs 0) 0)) (w_ei w1 (w_ar ws (n_v vs 0) 0)) (w_fi w1 (n_v vs 0) 8) (w_fi w1 (n_v vs 0) 6) (w_fi w1 (n_v vs 0) 5) (w_fi w1 (n_v vs 0) 9) k1 k14 g0 fe_0_5_1 fe_0_6_1 fe_0_8_1 fe_0_9_1 hE_0_0_1 hK_0_0 kz_0_5 kz_0_6 kz_0_7 kz_0_8 kz_0_9)⟩
  have nf1 : fc_1 PRD (20, [0, 0, 1], [31, 1, 3, 1, 1, 7, 0, -1, 1, 9, 1, 0, 0]) ws (vs) := ⟨nf_in hl rfl, sgq_1529 (vc_Re_advance_45_1 (v_iv (n_v vs 1)) (v_iv (n_v vs 14)) (w_fi ws (n_v vs 0) 7) (w_fi ws (n_v vs 0) 8) (w_fi ws (n_v vs 0) 5) (w_fi ws (n_v vs 0) 9) (w_fi ws (n_v vs 0) 6) (w_ei ws (w_ar ws (n_v vs 0) 0)) (w_ei w1 (w_ar ws (n_v vs 0) 0)) (w_fi w1 (n_v vs 0) 8) (w_fi w1 (n_v vs 0) 6) (w_fi w1 (n_v vs 0) 5) (w_fi w1 (n_v vs 0) 9) k1 k14 g0 fe_0_5_1 fe_0_6_1 fe_0_8_1 fe_0_9_1 hE_0_0_1 hK_0_0 kz_0_5 kz_0_6 kz_0_7 kz_0_8 kz_0_9)⟩
  have nf2 : fc_1 PRD (20, [0, 0, 0, 0], [31, 1, -3, -1, 1, 7, 4008, 1, 1, 6, -1, 1, 8, 2000, 1, 7]) ws (vs) := ⟨nf_in hl rfl, sgq_1530 (vc_Re_advance_45_2 (v_iv (n_v vs 6)) (v_iv (n_v vs 11)) (v_iv (n_v vs 12)) (v_iv (n_v vs 14)) (w_fi ws (n_v vs 0) 7) (w_fi ws (n_v vs 0) 8) (w_fi ws (n_v vs 0) 5) (w_fi ws (n_v vs 0) 9) (w_fi ws (n_v vs 0) 6) (w_ei ws (w_ar ws (n_v vs 0) 0)) (w_ei w1 (w_ar ws (n_v vs 0) 0)) (w_fi w1 (n_v vs 0) 8) (w_fi w1 (n_v vs 0) 6) (w_fi w1 (n_v vs 0) 5) (w_fi w1 (n_v vs 0) 9) k6 k11 k12 k14 g0 g1 g5 (shm_14 f13) fe_0_5_1 fe_0_6_1 fe_0_8_1 fe_0_9_1 hE_0_0_1 hK_0_0 kz_0_5 kz_0_6 kz_0_7 kz_0_8 kz_0_9)⟩
  have nf3 : fc_1 PRD (20, [0, 0], [30, 0, 1, 1, 8, -1, 1, 6]) ws (vs) := ⟨nf_in hl rfl, sgq_1531 (vc_Re_advance_45_3 (w_fi ws (n_v vs 0) 8) (w_fi ws (n_v vs 0) 5) (w_fi ws (n_v vs 0) 9) (w_fi ws (n_v vs 0) 6) (w_ei ws (w_ar ws (n_v vs 0) 0)) (w_ei w1 (w_ar ws (n_v vs 0) 0)) (w_fi w1 (n_v vs 0) 8) (w_fi w1 (n_v vs 0) 6) (w_fi w1 (n_v vs 0) 5) (w_fi w1 (n_v vs 0) 9) f18 fe_0_5_1 fe_0_6_1 fe_0_8_1 fe_0_9_1 hE_0_0_1 hK_0_0 kz_0_5 kz_0_6 kz_0_8 kz_0_9)⟩
  have nf4 : fc_1 PRD (20, [0, 2], [60, 5, 1, 1072, 5, 6, 7, 8, 9, 0]) ws (vs) := ⟨nf_in hl rfl, sgq_1532 (vc_Re_advance_45_4 (v_iv (n_v vs 2)) (v_iv (n_v vs 5)) (v_iv (n_v vs 6)) (v_iv (n_v vs 7)) (v_iv (n_v vs 9)) (v_iv (n_v vs 11)) (v_iv (n_v vs 12)) (v_iv (n_v vs 14)) (w_fi ws (n_v vs 0) 7) (w_fi ws (n_v vs 0) 8) (w_fi ws (n_v vs 0) 5) (w_fi ws (n_v vs 0) 9) (w_fi ws (n_v vs 0) 6) (w_ei ws (w_ar ws (n_v vs 0) 0)) (w_ei w1 (w_ar ws (n_v vs 0) 0)) (w_fi w1 (n_v vs 0) 8) (w_fi w1 (n_v vs 0) 6) (w_fi w1 (n_v vs 0) 5) (w_fi w1 (n_v vs 0) 9) k2 k5 k6 k7 k9 k11 k12 k14 g0 g1 g3 g4 g5 (shm_14 f13) h16 f19 fe_0_5_1 fe_0_6_1 fe_0_8_1 fe_0_9_1 hE_0_0_1 hK_0_0 kz_0_5 kz_0_6 kz_0_7 kz_0_8 kz_0_9)⟩
  have nf5 : fc_1 PRD (20, [2, 0], [30, 0, 1, 0, 0, -1, 1, 6]) ws (vs) := ⟨nf_in hl rfl, sgq_1527 (vc_Re_advance_45_5 (v_iv (n_v vs 2)) (w_fi ws (n_v vs 0) 8) (w_fi ws (n_v vs 0) 5) (w_fi ws (n_v vs 0) 9) (w_fi ws (n_v vs 0) 6) (w_ei ws (w_ar ws (n_v vs 0) 0)) (w_ei w1 (w_ar ws (n_v vs 0) 0)) (w_fi w1 (n_v vs 0) 8) (w_fi w1 (n_v vs 0) 6) (w_fi w1 (n_v vs 0) 5) (w_fi w1 (n_v vs 0) 9) k2 f20 fe_0_5_1 fe_0_6_1 fe_0_8_1 fe_0_9_1 hE_0_0_1 hK_0_0 kz_0_5 kz_0_6 kz_0_8 kz_0_9)⟩
  refine ⟨(fun _ h => (by cases h)), [], trivial, ?_, (fun _ h => (by cases h))⟩
  rw [List.append_nil]
  exact List.forall_mem_cons.mpr ⟨⟨show (20 : Nat) < 100 from by decide, nf0⟩, List.forall_mem_cons.mpr ⟨⟨show (20 : Nat) < 100 from by decide, nf1⟩, List.forall_mem_cons.mpr ⟨⟨show (20 : Nat) < 100 from by decide, nf2⟩, List.forall_mem_cons.mpr ⟨⟨show (20 : Nat) < 100 from by decide, nf3⟩, List.forall_mem_cons.mpr ⟨⟨show (20 : Nat) < 100 from by decide, nf4⟩, List.forall_mem_cons.mpr ⟨⟨show (20 : Nat) < 100 from by decide, nf5⟩, (fun _ h => (by cases h))⟩⟩⟩⟩⟩⟩
set_option maxHeartbeats 4000000 in
theorem vc_Re_advance_46_0 (x1 : Int) (x14 : Int) (kind_0 : Int) (begin_0 : Int) (end_0 : Int) (number_0 : Int) (next_0 : Int) (tape_0 : Int → Int) (tape_1 : Int → Int) (begin_1 : Int) (next_1 : Int) (end_1 : Int) (number_1 : Int) (k1 : (-2147483648) ≤ x1 ∧ x1 ≤ 1000000) (k14 : 3 ≤ x14 ∧ x14 ≤ 3) (g0 : x14 = kind_0) (fe_0_5_1 : end_0 = end_1) (fe_0_6_1 : next_0 = next_1) (fe_0_8_1 : begin_0 = begin_1) (fe_0_9_1 : number_0 = number_1) (hE_0_0_1 : ∀ j : Int, tape_0 j = tape_1 j) (hK_0_0 : ∀ j : Int, 0 ≤ j → j < 2000 → (-128) ≤ tape_0 j ∧ tape_0 j ≤ 127) (kz_0_5 : 0 ≤ end_0 ∧ end_0 ≤ 2000) (kz_0_6 : 0 ≤ next_0 ∧ next_0 ≤ 2000) (kz_0_7 : (-128) ≤ kind_0 ∧ kind_0 ≤ 127) (kz_0_8 : 0 ≤ begin_0 ∧ begin_0 ≤ 2000) (kz_0_9 : (-176) ≤ number_0 ∧ number_0 ≤ 1000000) : (1 * kind_0 + 0 ≤ 3) ∨ (1 * number_0 + ((-1) * x1 + 0) ≤ 0) := by
  subst fe_0_5_1
  subst fe_0_6_1
  subst fe_0_8_1
  subst fe_0_9_1
  have e_hE_0_0_1 := funext hE_0_0_1; subst e_hE_0_0_1
  first | with_reducible assumption | ((try and_intros) <;> first | with_reducible assumption | (clear hE_0_0_1 hK_0_0; omega)) | omega
set_option maxHeartbeats 4000000 in
theorem vc_Re_advance_46_1 (x1 : Int) (x14 : Int) (kind_0 : Int) (begin_0 : Int) (end_0 : Int) (number_0 : Int) (next_0 : Int) (tape_0 : Int → Int) (tape_1 : Int → Int) (begin_1 : Int) (next_1 : Int) (end_1 : Int) (number_1 : Int) (k1 : (-2147483648) ≤ x1 ∧ x1 ≤ 1000000) (k14 : 3 ≤ x14 ∧ x14 ≤ 3) (g0 : x14 = kind_0) (fe_0_5_1 : end_0 = end_1) (fe_0_6_1 : next_0 = next_1) (fe_0_8_1 : begin_0 = begin_1) (fe_0_9_1 : number_0 = number_1) (hE_0_0_1 : ∀ j : Int, tape_0 j = tape_1 j) (hK_0_0 : ∀ j : Int, 0 ≤ j → j < 2000 → (-128) ≤ tape_0 j ∧ tape_0 j ≤ 127) (kz_0_5 : 0 ≤ end_0 ∧ end_0 ≤ 2000) (kz_0_6 : 0 ≤ next_0 ∧ next_0 ≤ 2000) (kz_0_7 : (-128) ≤ kind_0 ∧ kind_0 ≤ 127) (kz_0_8 : 0 ≤ begin_0 ∧ begin_0 ≤ 2000) (kz_0_9 : (-176) ≤ number_0 ∧ number_0 ≤ 1000000) : (1 * kind_0 + 0 ≤ 3) ∨ ((-1) * number_0 + (1 * x1 + 0) ≤ 0) := by
  subst fe_0_5_1
  subst fe_0_6_1
  subst fe_0_8_1
  subst fe_0_9_1
  have e_hE_0_0_1 := funext hE_0_0_1; subst e_hE_0_0_1
  first | with_reducible assumption | ((try and_intros) <;> first | with_reducible assumption | (clear hE_0_0_1 hK_0_0; omega)) | omega
set_option maxHeartbeats 4000000 in
theorem vc_Re_advance_46_2 (x14 : Int) (kind_0 : Int) (begin_0 : Int) (end_0 : Int) (number_0 : Int) (next_0 : Int) (tape_0 : Int → Int) (tape_1 : Int → Int) (begin_1 : Int) (next_1 : Int) (end_1 : Int) (number_1 : Int) (k14 : 3 ≤ x14 ∧ x14 ≤ 3) (g0 : x14 = kind_0) (fe_0_5_1 : end_0 = end_1) (fe_0_6_1 : next_0 = next_1) (fe_0_8_1 : begin_0 = begin_1) (fe_0_9_1 : number_0 = number_1) (hE_0_0_1 : ∀ j : Int, tape_0 j = tape_1 j) (hK_0_0 : ∀ j : Int, 0 ≤ j → j < 2000 → (-128) ≤ tape_0 j ∧ tape_0 j ≤ 127) (kz_0_5 : 0 ≤ end_0 ∧ end_0 ≤ 2000) (kz_0_6 : 0 ≤ next_0 ∧ next_0 ≤ 2000) (kz_0_7 : (-128) ≤ kind_0 ∧ kind_0 ≤ 127) (kz_0_8 : 0 ≤ begin_0 ∧ begin_0 ≤ 2000) (kz_0_9 : (-176) ≤ number_0 ∧ number_0 ≤ 1000000) : ((-1) * kind_0 + 0 ≤ (-3)) ∨ (1 * next_0 + ((-1) * begin_0 + (2000 * kind_0 + 0)) ≤ 4008) := by
  subst fe_0_5_1
  subst fe_0_6_1
  subst fe_0_8_1
  subst fe_0_9_1
  have e_hE_0_0_1 := funext hE_0_0_1; subst e_hE_0_0_1
  first | with_reducible assumption | ((try and_intros) <;> first | with_reducible assumption | (clear hE_0_0_1 hK_0_0; omega)) | omega
set_option maxHeartbeats 4000000 in
theorem vc_Re_advance_46_3 (begin_0 : Int) (end_0 : Int) (number_0 : Int) (next_0 : Int) (tape_0 : Int → Int) (tape_1 : Int → Int) (begin_1 : Int) (next_1 : Int) (end_1 : Int) (number_1 : Int) (f18 : 1 * begin_1 + ((-1) * next_1 + 0) ≤ 0) (fe_0_5_1 : end_0 = end_1) (fe_0_6_1 : next_0 = next_1) (fe_0_8_1 : begin_0 = begin_1) (fe_0_9_1 : number_0 = number_1) (hE_0_0_1 : ∀ j : Int, tape_0 j = tape_1 j) (hK_0_0 : ∀ j : Int, 0 ≤ j → j < 2000 → (-128) ≤ tape_0 j ∧ tape_0 j ≤ 127) (kz_0_5 : 0 ≤ end_0 ∧ end_0 ≤ 2000) (kz_0_6 : 0 ≤ next_0 ∧ next_0 ≤ 2000) (kz_0_8 : 0 ≤ begin_0 ∧ begin_0 ≤ 2000) (kz_0_9 : (-176) ≤ number_0 ∧ number_0 ≤ 1000000) : 1 * begin_0 + ((-1) * next_0 + 0) ≤ 0 := by
  subst fe_0_5_1
  subst fe_0_6_1
  subst fe_0_8_1
  subst fe_0_9_1
  have e_hE_0_0_1 := funext hE_0_0_1; subst e_hE_0_0_1
  first | with_reducible assumption | ((try and_intros) <;> first | with_reducible assumption | (clear hE_0_0_1 hK_0_0; omega)) | omega
set_option maxHeartbeats 4000000 in
theorem vc_Re_advance_46_4 (x2 : Int) (x5 : Int) (x6 : Int) (x7 : Int) (x9 : Int) (x11 : Int) (x12 : Int) (x14 : Int) (kind_0 : Int) (begin_0 : Int) (end_0 : Int) (number_0 : Int) (next_0 : Int) (tape_0 : Int → Int) (tape_1 : Int → Int) (begin_1 : Int) (next_1 : Int) (end_1 : Int) (number_1 : Int) (k2 : 0 ≤ x2 ∧ x2 ≤ 2000) (k5 : (-176) ≤ x5 ∧ x5 ≤ 1000000) (k6 : 0 ≤ x6 ∧ x6 ≤ 1999) (k7 : 1 ≤ x7 ∧ x7 ≤ 2000) (k9 : 58 ≤ x9 ∧ x9 ≤ 127) (k11 : 0 ≤ x11 ∧ x11 ≤ 2000) (k12 : (-2000) ≤ x12 ∧ x12 ≤ 3) (k14 : 3 ≤ x14 ∧ x14 ≤ 3) (g0 : x14 = kind_0) (g1 : x11 = begin_0) (g3 : x7 = end_0) (g4 : x5 = number_0) (g5 : x6 = next_0) (f7 : 1 * begin_0 + ((-1) * next_0 + 0) ≤ 0) (f13 : x12 = x6 - x11) (h16 : x9 = tape_1 (x6)) (f19 : CXD (end_1) (next_1) (begin_1) (number_1) (tape_1) (x2)) (fe_0_5_1 : end_0 = end_1) (fe_0_6_1 : next_0 = next_1) (fe_0_8_1 : begin_0 = begin_1) (fe_0_9_1 : number_0 = number_1) (hE_0_0_1 : ∀ j : Int, tape_0 j = tape_1 j) (hK_0_0 : ∀ j : Int, 0 ≤ j → j < 2000 → (-128) ≤ tape_0 j ∧ tape_0 j ≤ 127) (kz_0_5 : 0 ≤ end_0 ∧ end_0 ≤ 2000) (kz_0_6 : 0 ≤ next_0 ∧ next_0 ≤ 2000) (kz_0_7 : (-128) ≤ kind_0 ∧ kind_0 ≤ 127) (kz_0_8 : 0 ≤ begin_0 ∧ begin_0 ≤ 2000) (kz_0_9 : (-176) ≤ number_0 ∧ number_0 ≤ 1000000) : TKC (end_0) (next_0) (kind_0) (begin_0) (number_0) (tape_0) (x2) := by
  subst fe_0_5_1
  subst fe_0_6_1
  subst fe_0_8_1
  subst fe_0_9_1
  have e_hE_0_0_1 := funext hE_0_0_1; subst e_hE_0_0_1
  first | subst g0 | skip
  first | subst g1 | skip
  first | subst g3 | skip
  first | subst g4 | skip
  first | subst g5 | skip
  first
    | exact cxl_e (by assumption) ‹CXL _ _ _ _ _› (fun q => by omega) (by omega)
    | exact cxl_e (by assumption) ‹CXL _ _ _ _ _› (fun q => cnb_f ‹CNBy _ _› (by omega) (by omega)) (by omega)
    | exact cxd_e (by assumption) ‹CXD _ _ _ _ _ _› (fun q => by unfold cIG; omega) (by omega)
    | exact cxs_e (by assumption) (cx_1 (by assumption) ‹CX0 _ _ _ _› (fun q => by omega) (by omega)) (by omega) rfl (by unfold cIL; omega) (by unfold cIG; omega) (by omega) (Or.inl ⟨csg_t ‹CSG _ _› (by omega) (by omega), by omega⟩)
    | exact cxs_e (by assumption) (cx_1 (by assumption) ‹CX0 _ _ _ _› (fun q => by omega) (by omega)) (by omega) rfl (by unfold cIL; omega) (by unfold cIG; omega) (by omega) (Or.inr ⟨csg_f ‹CSG _ _› (by omega) (by omega), by omega⟩)
set_option maxHeartbeats 4000000 in
theorem vc_Re_advance_46_5 (x2 : Int) (begin_0 : Int) (end_0 : Int) (number_0 : Int) (next_0 : Int) (tape_0 : Int → Int) (tape_1 : Int → Int) (begin_1 : Int) (next_1 : Int) (end_1 : Int) (number_1 : Int) (k2 : 0 ≤ x2 ∧ x2 ≤ 2000) (f20 : 1 * x2 + ((-1) * next_1 + 0) ≤ 0) (fe_0_5_1 : end_0 = end_1) (fe_0_6_1 : next_0 = next_1) (fe_0_8_1 : begin_0 = begin_1) (fe_0_9_1 : number_0 = number_1) (hE_0_0_1 : ∀ j : Int, tape_0 j = tape_1 j) (hK_0_0 : ∀ j : Int, 0 ≤ j → j < 2000 → (-128) ≤ tape_0 j ∧ tape_0 j ≤ 127) (kz_0_5 : 0 ≤ end_0 ∧ end_0 ≤ 2000) (kz_0_6 : 0 ≤ next_0 ∧ next_0 ≤ 2000) (kz_0_8 : 0 ≤ begin_0 ∧ begin_0 ≤ 2000) (kz_0_9 : (-176) ≤ number_0 ∧ number_0 ≤ 1000000) : 1 * x2 + ((-1) * next_0 + 0) ≤ 0 := by
  subst fe_0_5_1
  subst fe_0_6_1
  subst fe_0_8_1
  subst fe_0_9_1
  have e_hE_0_0_1 := funext hE_0_0_1; subst e_hE_0_0_1
  first | with_reducible assumption | ((try and_intros) <;> first | with_reducible assumption | (clear hE_0_0_1 hK_0_0; omega)) | omega
def o_Re_advance_46 : or_T := (290, 15, [(0, (2, 0, 0, [8])), (1, (0, -2147483648, 1000000, [])), (2, (0, 0, 2000, [])), (3, (2, 0, 0, [8])), (5, (0, -176, 1000000, [])), (6, (0, 0, 1999, [])), (7, (0, 1, 2000, [])), (8, (2, 0, 0, [109])), (9, (0, 58, 127, [])), (10, (0, 0, 0, [])), (11, (0, 0, 2000, [])), (12, (0, -2000, 3, [])), (13, (0, 3, 3, [])), (14, (0, 3, 3, []))], [(9, [14, 3], [7]), (9, [11, 3], [8]), (9, [8, 3], [0]), (9, [7, 3], [5]), (9, [5, 3], [9]), (9, [6, 3], [6]), (20, [9, 10], [61, 0, 1098]), (20, [3, 3], [30, 0, 1, 1, 8, -1, 1, 6]), (20, [3, 2], [60, 4, 1, 1077, 5, 6, 8, 9, 0]), (20, [2, 3], [30, 0, 1, 0, 0, -1, 1, 6]), (24, [0, 3], []), (101, [3, 14], [7]), (7, [12, 13], [5]), (2, [12, 6, 11], []), (8, [10], [0]), (20, [9, 10], [61, 0, 1098]), (10, [9, 8, 6], []), (7, [6, 7], [2]), (20, [3, 3], [30, 0, 1, 1, 8, -1, 1, 6]), (20, [3, 2], [60, 4, 1, 1077, 5, 6, 8, 9, 0]), (20, [2, 3], [30, 0, 1, 0, 0, -1, 1, 6])], [], [], [(20, [0, 0, 1], [31, 1, 3, 1, 1, 7, 0, 1, 1, 9, -1, 0, 0]), (20, [0, 0, 1], [31, 1, 3, 1, 1, 7, 0, -1, 1, 9, 1, 0, 0]), (20, [0, 0, 0, 0], [31, 1, -3, -1, 1, 7, 4008, 1, 1, 6, -1, 1, 8, 2000, 1, 7]), (20, [0, 0], [30, 0, 1, 1, 8, -1, 1, 6]), (20, [0, 2], [60, 5, 1, 1072, 5, 6, 7, 8, 9, 0]), (20, [2, 0], [30, 0, 1, 0, 0, -1, 1, 6])], [], [(12, 6, -2000, 0), (12, 7, -4294967296, -1), (6, 7, -4294967296, -1)])
theorem oo_Re_advance_46 {kA : Nat → ClassId} : or_ok PRD kA GG o_Re_advance_46 := by
  refine or_mk fun A ta ws vs hD hth hl => ?_
  intro t0 r0 t1 k1 t2 k2 t3 r3 t5 k5 t6 k6 t7 k7 t8 r8 t9 k9 t10 k10 t11 k11 t12 k12 t13 k13 t14 k14 d0 d1 d2 f0 f1 f2 f3 f4 f5 f6 f7 f8 f9 f10 ta1 w1 le1 s1 f12 f13 f14 f15 f16 f17 f18 f19 f20
  replace f0 := shm_198 f0
  replace f1 := shm_293 f1
  replace f2 := shm_163 f2
  replace f3 := shm_110 f3
  replace f4 := shm_119 f4
  replace f5 := shm_111 f5
  replace f7 := shm_1531 f7
  replace f10 := shm_5 f10
  have s1 : (∀ b j, w_el ws b j = w_el w1 b j) ∧ ∀ b j, w_fd ws b j = if b = v_ad (n_v vs 3) ∧ j = 7 then n_v vs 14 else w_fd w1 b j := s1.2
  replace f16 := shm_107 f16
  replace f18 := shm_1531 f18
  replace f19 := shm_1533 f19
  replace f20 := shm_1527 f20
  have q3 : n_v vs 3 = n_v vs 0 := f10.symm
  simp only [q3] at f0 f1 f2 f3 f4 f5 f7
  rw [q3] at s1
  simp only [q3] at f18 f19 f20
  have ar_0_0_1 : w_ar w1 (n_v vs 0) 0 = w_ar ws (n_v vs 0) 0 := by show v_ad (w_fd w1 _ _) = v_ad (w_fd ws _ _); rw [s1.2, if_neg (fun e => absurd e.2 (by decide))]
  have cr_0_0 := fdq_95 hD hth r0
  have ad_8 : v_ad (n_v vs 8) = w_ar ws (n_v vs 0) 0 := congrArg v_ad f2
  have g0 : v_iv (n_v vs 14) = w_fi ws (n_v vs 0) 7 := congrArg v_iv f0
  have g1 : v_iv (n_v vs 11) = w_fi ws (n_v vs 0) 8 := congrArg v_iv f1
  have g3 : v_iv (n_v vs 7) = w_fi ws (n_v vs 0) 5 := congrArg v_iv f3
  have g4 : v_iv (n_v vs 5) = w_fi ws (n_v vs 0) 9 := congrArg v_iv f4
  have g5 : v_iv (n_v vs 6) = w_fi ws (n_v vs 0) 6 := congrArg v_iv f5
  simp only [ad_8] at f16
  have h16 : v_iv (n_v vs 9) = w_ei w1 (w_ar ws (n_v vs 0) 0) (v_iv (n_v vs 6)) := f16
  simp only [ar_0_0_1] at f19
  have fe_0_5_1 : w_fi ws (n_v vs 0) 5 = w_fi w1 (n_v vs 0) 5 := by show v_iv (w_fd _ _ _) = v_iv (w_fd _ _ _); rw [s1.2, if_neg (fun e => absurd e.2 (by decide))]
  have fe_0_6_1 : w_fi ws (n_v vs 0) 6 = w_fi w1 (n_v vs 0) 6 := by show v_iv (w_fd _ _ _) = v_iv (w_fd _ _ _); rw [s1.2, if_neg (fun e => absurd e.2 (by decide))]
  have fe_0_8_1 : w_fi ws (n_v vs 0) 8 = w_fi w1 (n_v vs 0) 8 := by show v_iv (w_fd _ _ _) = v_iv (w_fd _ _ _); rw [s1.2, if_neg (fun e => absurd e.2 (by decide))]
  have fe_0_9_1 : w_fi ws (n_v vs 0) 9 = w_fi w1 (n_v vs 0) 9 := by show v_iv (w_fd _ _ _) = v_iv (w_fd _ _ _); rw [s1.2, if_neg (fun e => absurd e.2 (by decide))]
  have hE_0_0_1 : ∀ j : Int, w_ei ws (w_ar ws (n_v vs 0) 0) j = w_ei w1 (w_ar ws (n_v vs 0) 0) j := fun j => s1.1 _ _
  have hK_0_0 := elq_33 hD hth cr_0_0
  have kz_0_5 := fdq_207 hD hth r0
  have kz_0_6 := fdq_208 hD hth r0
  have kz_0_7 := fdq_297 hD hth r0
  have kz_0_8 := fdq_99 hD hth r0
  have kz_0_9 := fdq_296 hD hth r0
  have nf0 : fc_1 PRD (20, [0, 0, 1], [31, 1, 3, 1, 1, 7, 0, 1, 1, 9, -1, 0, 0]) ws (vs) := ⟨nf_in hl rfl, sgq_1528 (vc_Re_advance_46_0 (v_iv (n_v vs 1)) (v_iv (n_v vs 14)) (w_fi ws (n_v vs 0) 7) (w_fi ws (n_v vs 0) 8) (w_fi ws (n_v vs 0) 5) (w_fi ws (n_v vs 0) 9) (w_fi ws (n_v vs 0) 6) (w_ei ws (w_ar ws (n_v vs 0) 0)) (w_ei w1 (w_ar ws (n_v vs 0) 0)) (w_fi w1 (n_v vs 0) 8) (w_fi w1 (n_v vs 0) 6) (w_fi w1 (n_v vs 0) 5) (w_fi w1 (n_v vs 0) 9) k1 k14 g0 fe_0_5_1 fe_0_6_1 fe_0_8_1 fe_0_9_1 hE_0_0_1 hK_0_0 kz_0_5 kz_0_6 kz_0_7 kz_0_8 kz_0_9)⟩
  have nf1 : fc_1 PRD (20, [0, 0, 1], [31, 1, 3, 1, 1, 7, 0, -1, 1, 9, 1, 0, 0]) ws (vs) := ⟨nf_in hl rfl, sgq_1529 (vc_Re_advance_46_1 (v_iv (n_v vs 1)) (v_iv (n_v vs 14)) (w_fi ws (n_v vs 0) 7) (w_fi ws (n_v vs 0) 8) (w_fi ws (n_v vs 0) 5) (w_fi ws (n_v vs 0) 9) (w_fi ws (n_v vs 0) 6) (w_ei ws (w_ar ws (n_v vs 0) 0)) (w_ei w1 (w_ar ws (n_v vs 0) 0)) (w_fi w1 (n_v vs 0) 8) (w_fi w1 (n_v vs 0) 6) (w_fi w1 (n_v vs 0) 5) (w_fi w1 (n_v vs 0) 9) k1 k14 g0 fe_0_5_1 fe_0_6_1 fe_0_8_1 fe_0_9_1 hE_0_0_1 hK_0_0 kz_0_5 kz_0_6 kz_0_7 kz_0_8 kz_0_9)⟩
  have nf2 : fc_1 PRD (20, [0, 0, 0, 0], [31, 1, -3, -1, 1, 7, 4008, 1, 1, 6, -1, 1, 8, 2000, 1, 7]) ws (vs) := ⟨nf_in hl rfl, sgq_1530 (vc_Re_advance_46_2 (v_iv (n_v vs 14)) (w_fi ws (n_v vs 0) 7) (w_fi ws (n_v vs 0) 8) (w_fi ws (n_v vs 0) 5) (w_fi ws (n_v vs 0) 9) (w_fi ws (n_v vs 0) 6) (w_ei ws (w_ar ws (n_v vs 0) 0)) (w_ei w1 (w_ar ws (n_v vs 0) 0)) (w_fi w1 (n_v vs 0) 8) (w_fi w1 (n_v vs 0) 6) (w_fi w1 (n_v vs 0) 5) (w_fi w1 (n_v vs 0) 9) k14 g0 fe_0_5_1 fe_0_6_1 fe_0_8_1 fe_0_9_1 hE_0_0_1 hK_0_0 kz_0_5 kz_0_6 kz_0_7 kz_0_8 kz_0_9)⟩
  have nf3 : fc_1 PRD (20, [0, 0], [30, 0, 1, 1, 8, -1, 1, 6]) ws (vs) := ⟨nf_in hl rfl, sgq_1531 (vc_Re_advance_46_3 (w_fi ws (n_v vs 0) 8) (w_fi ws (n_v vs 0) 5) (w_fi ws (n_v vs 0) 9) (w_fi ws (n_v vs 0) 6) (w_ei ws (w_ar ws (n_v vs 0) 0)) (w_ei w1 (w_ar ws (n_v vs 0) 0)) (w_fi w1 (n_v vs 0) 8) (w_fi w1 (n_v vs 0) 6) (w_fi w1 (n_v vs 0) 5) (w_fi w1 (n_v vs 0) 9) f18 fe_0_5_1 fe_0_6_1 fe_0_8_1 fe_0_9_1 hE_0_0_1 hK_0_0 kz_0_5 kz_0_6 kz_0_8 kz_0_9)⟩
  have nf4 : fc_1 PRD (20, [0, 2], [60, 5, 1, 1072, 5, 6, 7, 8, 9, 0]) ws (vs) := ⟨nf_in hl rfl, sgq_1532 (vc_Re_advance_46_4 (v_iv (n_v vs 2)) (v_iv (n_v vs 5)) (v_iv (n_v vs 6)) (v_iv (n_v vs 7)) (v_iv (n_v vs 9)) (v_iv (n_v vs 11)) (v_iv (n_v vs 12)) (v_iv (n_v vs 14)) (w_fi ws (n_v vs 0) 7) (w_fi ws (n_v vs 0) 8) (w_fi ws (n_v vs 0) 5) (w_fi ws (n_v vs 0) 9) (w_fi ws (n_v vs 0) 6) (w_ei ws (w_ar ws (n_v vs 0) 0)) (w_ei w1 (w_ar ws (n_v vs 0) 0)) (w_fi w1 (n_v vs 0) 8) (w_fi w1 (n_v vs 0) 6) (w_fi w1 (n_v vs 0) 5) (w_fi w1 (n_v vs 0) 9) k2 k5 k6 k7 k9 k11 k12 k14 g0 g1 g3 g4 g5 f7 (shm_14 f13) h16 f19 fe_0_5_1 fe_0_6_1 fe_0_8_1 fe_0_9_1 hE_0_0_1 hK_0_0 kz_0_5 kz_0_6 kz_0_7 kz_0_8 kz_0_9)⟩
  have nf5 : fc_1 PRD (20, [2, 0], [30, 0, 1, 0, 0, -1, 1, 6]) ws (vs) := ⟨nf_in hl rfl, sgq_1527 (vc_Re_advance_46_5 (v_iv (n_v vs 2)) (w_fi ws (n_v vs 0) 8) (w_fi ws (n_v vs 0) 5) (w_fi ws (n_v vs 0) 9) (w_fi ws (n_v vs 0) 6) (w_ei ws (w_ar ws (n_v vs 0) 0)) (w_ei w1 (w_ar ws (n_v vs 0) 0)) (w_fi w1 (n_v vs 0) 8) (w_fi w1 (n_v vs 0) 6) (w_fi w1 (n_v vs 0) 5) (w_fi w1 (n_v vs 0) 9) k2 f20 fe_0_5_1 fe_0_6_1 fe_0_8_1 fe_0_9_1 hE_0_0_1 hK_0_0 kz_0_5 kz_0_6 kz_0_8 kz_0_9)⟩
  refine ⟨(fun _ h => (by cases h)), [], trivial, ?_, (fun _ h => (by cases h))⟩
  rw [List.append_nil]
  exact List.forall_mem_cons.mpr ⟨⟨show (20 : Nat) < 100 from by decide, nf0⟩, List.forall_mem_cons.mpr ⟨⟨show (20 : Nat) < 100 from by decide, nf1⟩, List.forall_mem_cons.mpr ⟨⟨show (20 : Nat) < 100 from by decide, nf2⟩, List.forall_mem_cons.mpr ⟨⟨show (20 : Nat) < 100 from by decide, nf3⟩, List.forall_mem_cons.mpr ⟨⟨show (20 : Nat) < 100 from by decide, nf4⟩, List.forall_mem_cons.mpr ⟨⟨show (20 : Nat) < 100 from by decide, nf5⟩, (fun _ h => (by cases h))⟩⟩⟩⟩⟩⟩
set_option maxHeartbeats 4000000 in
theorem vc_Re_advance_47_r0 (x2 : Int) (x5 : Int) (number_0 : Int) (tape_0 : Int → Int) (next_0 : Int) (end_0 : Int) (begin_0 : Int) (k2 : 0 ≤ x2 ∧ x2 ≤ 2000) (k5 : (-176) ≤ x5 ∧ x5 ≤ 1000000) (g0 : x5 = number_0) (f9 : CXD (end_0) (next_0) (begin_0) (number_0) (tape_0) (x2)) (kz_0_5 : 0 ≤ end_0 ∧ end_0 ≤ 2000) (kz_0_6 : 0 ≤ next_0 ∧ next_0 ≤ 2000) (kz_0_8 : 0 ≤ begin_0 ∧ begin_0 ≤ 2000) (kz_0_9 : (-176) ≤ number_0 ∧ number_0 ≤ 1000000) : 0 ≤ x5 ∧ x5 ≤ 1000000 := by
  have h := (‹CXD _ _ _ _ _ _›).2.2.1
  omega
def o_Re_advance_47 : or_T := (204, 12, [(0, (2, 0, 0, [8])), (2, (0, 0, 2000, [])), (3, (2, 0, 0, [8])), (5, (0, -176, 1000000, [])), (6, (0, 0, 1999, [])), (7, (0, 1, 2000, [])), (8, (2, 0, 0, [109])), (9, (0, 48, 57, [])), (10, (0, 1, 1, []))], [(9, [5, 3], [9]), (8, [10], [1]), (20, [9, 10], [61, 0, 1098]), (10, [9, 8, 6], []), (9, [6, 3], [6]), (9, [8, 3], [0]), (7, [6, 7], [2]), (9, [7, 3], [5]), (20, [3, 3], [30, 0, 1, 1, 8, -1, 1, 6]), (20, [3, 2], [60, 4, 1, 1077, 5, 6, 8, 9, 0]), (20, [2, 3], [30, 0, 1, 0, 0, -1, 1, 6]), (24, [0, 3], [])], [(5, (0, 0, 1000000, []))], [], [], [], [(6, 7, -4294967296, -1)])
theorem oo_Re_advance_47 {kA : Nat → ClassId} : or_ok PRD kA GG o_Re_advance_47 := by
  refine or_mk fun A ta ws vs hD hth hl => ?_
  intro t0 r0 t2 k2 t3 r3 t5 k5 t6 k6 t7 k7 t8 r8 t9 k9 t10 k10 d0 f0 f1 f2 f3 f4 f5 f6 f7 f8 f9 f10 f11
  replace f0 := shm_119 f0
  replace f9 := shm_1533 f9
  replace f11 := shm_5 f11
  have q3 : n_v vs 3 = n_v vs 0 := f11.symm
  simp only [q3] at f0 f9
  have g0 : v_iv (n_v vs 5) = w_fi ws (n_v vs 0) 9 := congrArg v_iv f0
  have kz_0_5 := fdq_207 hD hth r0
  have kz_0_6 := fdq_208 hD hth r0
  have kz_0_8 := fdq_99 hD hth r0
  have kz_0_9 := fdq_296 hD hth r0
  have hrf0 : 0 ≤ v_iv (n_v vs 5) ∧ v_iv (n_v vs 5) ≤ 1000000 := vc_Re_advance_47_r0 (v_iv (n_v vs 2)) (v_iv (n_v vs 5)) (w_fi ws (n_v vs 0) 9) (w_ei ws (w_ar ws (n_v vs 0) 0)) (w_fi ws (n_v vs 0) 6) (w_fi ws (n_v vs 0) 5) (w_fi ws (n_v vs 0) 8) k2 k5 g0 f9 kz_0_5 kz_0_6 kz_0_8 kz_0_9
  have rf5 : tv_ok ta (0, 0, 1000000, []) (n_v vs 5) := tv_in t5 (by first | omega | grind) (by first | omega | grind)
  refine ⟨List.forall_mem_cons.mpr ⟨rf5, (fun _ h => (by cases h))⟩, [], trivial, ?_, (fun _ h => (by cases h))⟩
  rw [List.append_nil]
  exact (fun _ h => (by cases h))
set_option maxHeartbeats 4000000 in
theorem vc_Re_advance_48_0 (x6 : Int) (x16 : Int) (x17 : Int) (x18 : Int) (x20 : Int) (next_0 : Int) (number_0 : Int) (end_0 : Int) (next_1 : Int) (begin_1 : Int) (tape_2 : Int → Int) (begin_2 : Int) (next_2 : Int) (end_2 : Int) (end_1 : Int) (begin_0 : Int) (number_1 : Int) (tape_0 : Int → Int) (tape_1 : Int → Int) (k6 : 0 ≤ x6 ∧ x6 ≤ 1999) (k16 : (-176) ≤ x16 ∧ x16 ≤ 10000079) (k17 : 1000000 ≤ x17 ∧ x17 ≤ 1000000) (k18 : (-176) ≤ x18 ∧ x18 ≤ 1000000) (k20 : 1 ≤ x20 ∧ x20 ≤ 2000) (d0 : x6 + 1 ≤ x20 ∧ x20 ≤ x6 + 1) (g0 : x20 = next_0) (f6 : (x18 = x16) ∨ (x18 = x17)) (g11 : x6 = next_1) (f14 : (x18 = x16) ∨ (x18 = x17)) (f16 : 1 * begin_1 + ((-1) * next_1 + 0) ≤ 0) (f21 : (x18 = x16) ∨ (x18 = x17)) (fe_0_5_1 : end_0 = end_1) (fe_0_8_1 : begin_0 = begin_1) (fe_0_9_1 : number_0 = number_1) (fe_0_5_2 : end_1 = end_2) (fe_0_6_2 : next_1 = next_2) (fe_0_8_2 : begin_1 = begin_2) (hE_0_0_1 : ∀ j : Int, tape_0 j = tape_1 j) (hE_0_0_2 : ∀ j : Int, tape_1 j = tape_2 j) (hK_0_0 : ∀ j : Int, 0 ≤ j → j < 2000 → (-128) ≤ tape_0 j ∧ tape_0 j ≤ 127) (kz_0_5 : 0 ≤ end_0 ∧ end_0 ≤ 2000) (kz_0_6 : 0 ≤ next_0 ∧ next_0 ≤ 2000) (kz_0_8 : 0 ≤ begin_0 ∧ begin_0 ≤ 2000) (kz_0_9 : (-176) ≤ number_0 ∧ number_0 ≤ 1000000) : 1 * begin_0 + ((-1) * next_0 + 0) ≤ 0 := by
  subst fe_0_5_1
  subst fe_0_8_1
  subst fe_0_9_1
  subst fe_0_5_2
  subst fe_0_6_2
  subst fe_0_8_2
  have e_hE_0_0_1 := funext hE_0_0_1; subst e_hE_0_0_1
  have e_hE_0_0_2 := funext hE_0_0_2; subst e_hE_0_0_2
  first | with_reducible assumption | ((try and_intros) <;> first | with_reducible assumption | (clear f6 f14 f21 hE_0_0_1 hE_0_0_2 hK_0_0; omega)) | ((try and_intros) <;> first | with_reducible assumption | (clear hE_0_0_1 hE_0_0_2 hK_0_0; omega)) | omega
set_option maxHeartbeats 4000000 in
theorem vc_Re_advance_48_1 (x2 : Int) (x5 : Int) (x6 : Int) (x7 : Int) (x9 : Int) (x10 : Int) (x12 : Int) (x13 : Int) (x14 : Int) (x16 : Int) (x17 : Int) (x18 : Int) (x20 : Int) (next_0 : Int) (number_0 : Int) (end_0 : Int) (next_1 : Int) (begin_1 : Int) (tape_2 : Int → Int) (number_2 : Int) (begin_2 : Int) (next_2 : Int) (end_2 : Int) (end_1 : Int) (begin_0 : Int) (number_1 : Int) (tape_0 : Int → Int) (tape_1 : Int → Int) (k2 : 0 ≤ x2 ∧ x2 ≤ 2000) (k5 : 0 ≤ x5 ∧ x5 ≤ 1000000) (k6 : 0 ≤ x6 ∧ x6 ≤ 1999) (k7 : 1 ≤ x7 ∧ x7 ≤ 2000) (k9 : 48 ≤ x9 ∧ x9 ≤ 57) (k10 : 1 ≤ x10 ∧ x10 ≤ 1) (k12 : 0 ≤ x12 ∧ x12 ≤ 10000000) (k13 : (-128) ≤ x13 ∧ x13 ≤ 127) (k14 : (-128) ≤ x14 ∧ x14 ≤ 10000127) (k16 : (-176) ≤ x16 ∧ x16 ≤ 10000079) (k17 : 1000000 ≤ x17 ∧ x17 ≤ 1000000) (k18 : (-176) ≤ x18 ∧ x18 ≤ 1000000) (k20 : 1 ≤ x20 ∧ x20 ≤ 2000) (d0 : x6 + 1 ≤ x20 ∧ x20 ≤ x6 + 1) (d2 : x14 + (-48) ≤ x16 ∧ x16 ≤ x14 + (-48)) (g0 : x20 = next_0) (g1 : x18 = number_0) (g3 : x7 = end_0) (f4 : (-1) * x16 + (1 * x18 + 0) ≤ 0) (g11 : x6 = next_1) (f21 : (x18 = x16) ∨ (x18 = x17)) (f23 : x14 = x12 + x13) (h24 : x13 = tape_2 (x6)) (f25 : x12 = x5 * 10) (g26 : x5 = number_2) (f27 : x10 ≠ 0) (h29 : x9 = tape_2 (x6)) (f30 : x6 < x7) (f32 : CXD (end_2) (next_2) (begin_2) (number_2) (tape_2) (x2)) (fe_0_5_1 : end_0 = end_1) (fe_0_8_1 : begin_0 = begin_1) (fe_0_9_1 : number_0 = number_1) (fe_0_5_2 : end_1 = end_2) (fe_0_6_2 : next_1 = next_2) (fe_0_8_2 : begin_1 = begin_2) (hE_0_0_1 : ∀ j : Int, tape_0 j = tape_1 j) (hE_0_0_2 : ∀ j : Int, tape_1 j = tape_2 j) (hK_0_0 : ∀ j : Int, 0 ≤ j → j < 2000 → (-128) ≤ tape_0 j ∧ tape_0 j ≤ 127) (kz_0_5 : 0 ≤ end_0 ∧ end_0 ≤ 2000) (kz_0_6 : 0 ≤ next_0 ∧ next_0 ≤ 2000) (kz_0_8 : 0 ≤ begin_0 ∧ begin_0 ≤ 2000) (kz_0_9 : (-176) ≤ number_0 ∧ number_0 ≤ 1000000) : CXD (end_0) (next_0) (begin_0) (number_0) (tape_0) (x2) := by
  subst fe_0_5_1
  subst fe_0_8_1
  subst fe_0_9_1
  subst fe_0_5_2
  subst fe_0_6_2
  subst fe_0_8_2
  have e_hE_0_0_1 := funext hE_0_0_1; subst e_hE_0_0_1
  have e_hE_0_0_2 := funext hE_0_0_2; subst e_hE_0_0_2
  first | subst g0 | skip
  first | subst g1 | skip
  first | subst g3 | skip
  first | subst g11 | skip
  first | subst g26 | skip
  first
    | exact cxd_s (by assumption) ‹CXD _ _ _ _ _ _› (by omega) (by unfold cIG; omega) (by omega) (by omega)
    | exact cxd_0 (by assumption) (cx_1 (by assumption) ‹CX0 _ _ _ _› (fun q => by omega) (by omega)) (by omega) (by unfold cIG; omega) (by omega)
set_option maxHeartbeats 4000000 in
theorem vc_Re_advance_48_2 (x2 : Int) (x6 : Int) (x16 : Int) (x17 : Int) (x18 : Int) (x20 : Int) (next_0 : Int) (number_0 : Int) (end_0 : Int) (next_1 : Int) (begin_1 : Int) (tape_2 : Int → Int) (begin_2 : Int) (next_2 : Int) (end_2 : Int) (end_1 : Int) (begin_0 : Int) (number_1 : Int) (tape_0 : Int → Int) (tape_1 : Int → Int) (k2 : 0 ≤ x2 ∧ x2 ≤ 2000) (k6 : 0 ≤ x6 ∧ x6 ≤ 1999) (k16 : (-176) ≤ x16 ∧ x16 ≤ 10000079) (k17 : 1000000 ≤ x17 ∧ x17 ≤ 1000000) (k18 : (-176) ≤ x18 ∧ x18 ≤ 1000000) (k20 : 1 ≤ x20 ∧ x20 ≤ 2000) (d0 : x6 + 1 ≤ x20 ∧ x20 ≤ x6 + 1) (g0 : x20 = next_0) (f6 : (x18 = x16) ∨ (x18 = x17)) (g11 : x6 = next_1) (f14 : (x18 = x16) ∨ (x18 = x17)) (f17 : 1 * x2 + ((-1) * next_1 + 0) ≤ 0) (f21 : (x18 = x16) ∨ (x18 = x17)) (fe_0_5_1 : end_0 = end_1) (fe_0_8_1 : begin_0 = begin_1) (fe_0_9_1 : number_0 = number_1) (fe_0_5_2 : end_1 = end_2) (fe_0_6_2 : next_1 = next_2) (fe_0_8_2 : begin_1 = begin_2) (hE_0_0_1 : ∀ j : Int, tape_0 j = tape_1 j) (hE_0_0_2 : ∀ j : Int, tape_1 j = tape_2 j) (hK_0_0 : ∀ j : Int, 0 ≤ j → j < 2000 → (-128) ≤ tape_0 j ∧ tape_0 j ≤ 127) (kz_0_5 : 0 ≤ end_0 ∧ end_0 ≤ 2000) (kz_0_6 : 0 ≤ next_0 ∧ next_0 ≤ 2000) (kz_0_8 : 0 ≤ begin_0 ∧ begin_0 ≤ 2000) (kz_0_9 : (-176) ≤ number_0 ∧ number_0 ≤ 1000000) : 1 * x2 + ((-1) * next_0 + 0) ≤ 0 := by
  subst fe_0_5_1
  subst fe_0_8_1
  subst fe_0_9_1
  subst fe_0_5_2
  subst fe_0_6_2
  subst fe_0_8_2
  have e_hE_0_0_1 := funext hE_0_0_1; subst e_hE_0_0_1
  have e_hE_0_0_2 := funext hE_0_0_2; subst e_hE_0_0_2
  first | with_reducible assumption | ((try and_intros) <;> first | with_reducible assumption | (clear f6 f14 f21 hE_0_0_1 hE_0_0_2 hK_0_0; omega)) | ((try and_intros) <;> first | with_reducible assumption | (clear hE_0_0_1 hE_0_0_2 hK_0_0; omega)) | omega
def o_Re_advance_48 : or_T := (171, 21, [(0, (2, 0, 0, [8])), (2, (0, 0, 2000, [])), (5, (0, 0, 1000000, [])), (6, (0, 0, 1999, [])), (7, (0, 1, 2000, [])), (9, (0, 48, 57, [])), (10, (0, 1, 1, [])), (11, (0, 10, 10, [])), (12, (0, 0, 10000000, [])), (13, (0, -128, 127, [])), (14, (0, -128, 10000127, [])), (16, (0, -176, 10000079, [])), (17, (0, 1000000, 1000000, [])), (18, (0, -176, 1000000, [])), (20, (0, 1, 2000, []))], [(9, [20, 3], [6]), (9, [18, 3], [9]), (9, [8, 3], [0]), (9, [7, 3], [5]), (23, [16, 18], [0, -1, 1]), (20, [18, 16, 17], [50, 0, 0, 3, 6, 1, 2, 1, 0, 1, 1, 1, 2, 1, 0, 1, 2]), (24, [0, 3], []), (101, [3, 20], [6]), (9, [6, 3], [6]), (20, [18, 16, 17], [50, 0, 0, 3, 6, 1, 2, 1, 0, 1, 1, 1, 2, 1, 0, 1, 2]), (20, [3, 3], [30, 0, 1, 1, 8, -1, 1, 6]), (20, [2, 3], [30, 0, 1, 0, 0, -1, 1, 6]), (101, [3, 18], [9]), (20, [18, 16, 17], [50, 0, 0, 3, 6, 1, 2, 1, 0, 1, 1, 1, 2, 1, 0, 1, 2]), (1, [14, 12, 13], []), (10, [13, 8, 6], []), (3, [12, 5, 11], []), (9, [5, 3], [9]), (8, [10], [1]), (10, [9, 8, 6], []), (7, [6, 7], [2]), (20, [3, 2], [60, 4, 1, 1077, 5, 6, 8, 9, 0])], [], [], [(20, [3, 3], [30, 0, 1, 1, 8, -1, 1, 6]), (20, [3, 2], [60, 4, 1, 1077, 5, 6, 8, 9, 0]), (20, [2, 3], [30, 0, 1, 0, 0, -1, 1, 6])], [], [(20, 6, 1, 1), (16, 14, -48, -48)])
theorem oo_Re_advance_48 {kA : Nat → ClassId} : or_ok PRD kA GG o_Re_advance_48 := by
  refine or_mk fun A ta ws vs hD hth hl => ?_
  intro t0 r0 t2 k2 t5 k5 t6 k6 t7 k7 t9 k9 t10 k10 t11 k11 t12 k12 t13 k13 t14 k14 t16 k16 t17 k17 t18 k18 t20 k20 d0 d2 f0 f1 f2 f3 f4 f6 f8 ta1 w1 le1 s1 f11 f14 f16 f17 ta2 w2 le2 s2 f21 f23 f24 f25 f26 f27 f29 f30 f32
  replace f0 := shm_111 f0
  replace f1 := shm_119 f1
  replace f2 := shm_163 f2
  replace f3 := shm_110 f3
  replace f4 := shm_22 f4
  replace f6 := shm_898 f6
  replace f8 := shm_5 f8
  have s1 : (∀ b j, w_el ws b j = w_el w1 b j) ∧ ∀ b j, w_fd ws b j = if b = v_ad (n_v vs 3) ∧ j = 6 then n_v vs 20 else w_fd w1 b j := s1.2
  replace f11 := shm_111 f11
  replace f14 := shm_898 f14
  replace f16 := shm_1531 f16
  replace f17 := shm_1527 f17
  have s2 : (∀ b j, w_el w1 b j = w_el w2 b j) ∧ ∀ b j, w_fd w1 b j = if b = v_ad (n_v vs 3) ∧ j = 9 then n_v vs 18 else w_fd w2 b j := s2.2
  replace f21 := shm_898 f21
  replace f23 := shm_12 f23
  replace f24 := shm_107 f24
  replace f25 := shm_38 f25
  rw [show v_iv (n_v vs 11) = 10 from by omega] at f25
  replace f26 := shm_119 f26
  replace f27 := shm_142 f27
  replace f29 := shm_107 f29
  replace f30 := shm_6 f30
  replace f32 := shm_1533 f32
  have q3 : n_v vs 3 = n_v vs 0 := f8.symm
  simp only [q3] at f0 f1 f2 f3
  rw [q3] at s1
  simp only [q3] at f11 f16 f17
  rw [q3] at s2
  simp only [q3] at f26 f32
  have ar_0_0_1 : w_ar w1 (n_v vs 0) 0 = w_ar ws (n_v vs 0) 0 := by show v_ad (w_fd w1 _ _) = v_ad (w_fd ws _ _); rw [s1.2, if_neg (fun e => absurd e.2 (by decide))]
  have ar_0_0_2 : w_ar w2 (n_v vs 0) 0 = w_ar ws (n_v vs 0) 0 := by rw [← ar_0_0_1]; show v_ad (w_fd w2 _ _) = v_ad (w_fd w1 _ _); rw [s2.2, if_neg (fun e => absurd e.2 (by decide))]
  have cr_0_0 := fdq_95 hD hth r0
  have ad_8 : v_ad (n_v vs 8) = w_ar ws (n_v vs 0) 0 := congrArg v_ad f2
  have g0 : v_iv (n_v vs 20) = w_fi ws (n_v vs 0) 6 := congrArg v_iv f0
  have g1 : v_iv (n_v vs 18) = w_fi ws (n_v vs 0) 9 := congrArg v_iv f1
  have g3 : v_iv (n_v vs 7) = w_fi ws (n_v vs 0) 5 := congrArg v_iv f3
  have g11 : v_iv (n_v vs 6) = w_fi w1 (n_v vs 0) 6 := congrArg v_iv f11
  simp only [ad_8] at f24
  have h24 : v_iv (n_v vs 13) = w_ei w2 (w_ar ws (n_v vs 0) 0) (v_iv (n_v vs 6)) := f24
  have g26 : v_iv (n_v vs 5) = w_fi w2 (n_v vs 0) 9 := congrArg v_iv f26
  simp only [ad_8] at f29
  have h29 : v_iv (n_v vs 9) = w_ei w2 (w_ar ws (n_v vs 0) 0) (v_iv (n_v vs 6)) := f29
  simp only [ar_0_0_2] at f32
  have fe_0_5_1 : w_fi ws (n_v vs 0) 5 = w_fi w1 (n_v vs 0) 5 := by show v_iv (w_fd _ _ _) = v_iv (w_fd _ _ _); rw [s1.2, if_neg (fun e => absurd e.2 (by decide))]
  have fe_0_8_1 : w_fi ws (n_v vs 0) 8 = w_fi w1 (n_v vs 0) 8 := by show v_iv (w_fd _ _ _) = v_iv (w_fd _ _ _); rw [s1.2, if_neg (fun e => absurd e.2 (by decide))]
  have fe_0_9_1 : w_fi ws (n_v vs 0) 9 = w_fi w1 (n_v vs 0) 9 := by show v_iv (w_fd _ _ _) = v_iv (w_fd _ _ _); rw [s1.2, if_neg (fun e => absurd e.2 (by decide))]
  have fe_0_5_2 : w_fi w1 (n_v vs 0) 5 = w_fi w2 (n_v vs 0) 5 := by show v_iv (w_fd _ _ _) = v_iv (w_fd _ _ _); rw [s2.2, if_neg (fun e => absurd e.2 (by decide))]
  have fe_0_6_2 : w_fi w1 (n_v vs 0) 6 = w_fi w2 (n_v vs 0) 6 := by show v_iv (w_fd _ _ _) = v_iv (w_fd _ _ _); rw [s2.2, if_neg (fun e => absurd e.2 (by decide))]
  have fe_0_8_2 : w_fi w1 (n_v vs 0) 8 = w_fi w2 (n_v vs 0) 8 := by show v_iv (w_fd _ _ _) = v_iv (w_fd _ _ _); rw [s2.2, if_neg (fun e => absurd e.2 (by decide))]
  have hE_0_0_1 : ∀ j : Int, w_ei ws (w_ar ws (n_v vs 0) 0) j = w_ei w1 (w_ar ws (n_v vs 0) 0) j := fun j => s1.1 _ _
  have hE_0_0_2 : ∀ j : Int, w_ei w1 (w_ar ws (n_v vs 0) 0) j = w_ei w2 (w_ar ws (n_v vs 0) 0) j := fun j => s2.1 _ _
  have hK_0_0 := elq_33 hD hth cr_0_0
  have kz_0_5 := fdq_207 hD hth r0
  have kz_0_6 := fdq_208 hD hth r0
  have kz_0_8 := fdq_99 hD hth r0
  have kz_0_9 := fdq_296 hD hth r0
  have nf0 : fc_1 PRD (20, [3, 3], [30, 0, 1, 1, 8, -1, 1, 6]) ws (vs) := by
    refine ⟨nf_in hl rfl, sgq_1531 ?_⟩
    · show 1 * w_fi ws (n_v vs 3) 8 + ((-1) * w_fi ws (n_v vs 3) 6 + 0) ≤ 0
      rw [q3]
      exact vc_Re_advance_48_0 (v_iv (n_v vs 6)) (v_iv (n_v vs 16)) (v_iv (n_v vs 17)) (v_iv (n_v vs 18)) (v_iv (n_v vs 20)) (w_fi ws (n_v vs 0) 6) (w_fi ws (n_v vs 0) 9) (w_fi ws (n_v vs 0) 5) (w_fi w1 (n_v vs 0) 6) (w_fi w1 (n_v vs 0) 8) (w_ei w2 (w_ar ws (n_v vs 0) 0)) (w_fi w2 (n_v vs 0) 8) (w_fi w2 (n_v vs 0) 6) (w_fi w2 (n_v vs 0) 5) (w_fi w1 (n_v vs 0) 5) (w_fi ws (n_v vs 0) 8) (w_fi w1 (n_v vs 0) 9) (w_ei ws (w_ar ws (n_v vs 0) 0)) (w_ei w1 (w_ar ws (n_v vs 0) 0)) k6 k16 k17 k18 k20 d0 g0 f6 g11 f14 f16 f21 fe_0_5_1 fe_0_8_1 fe_0_9_1 fe_0_5_2 fe_0_6_2 fe_0_8_2 hE_0_0_1 hE_0_0_2 hK_0_0 kz_0_5 kz_0_6 kz_0_8 kz_0_9
  have nf1 : fc_1 PRD (20, [3, 2], [60, 4, 1, 1077, 5, 6, 8, 9, 0]) ws (vs) := by
    refine ⟨nf_in hl rfl, sgq_1533 ?_⟩
    · show CXD (w_fi ws (n_v vs 3) 5) (w_fi ws (n_v vs 3) 6) (w_fi ws (n_v vs 3) 8) (w_fi ws (n_v vs 3) 9) (w_ei ws (w_ar ws (n_v vs 3) 0)) (v_iv (n_v vs 2))
      rw [q3]
      exact vc_Re_advance_48_1 (v_iv (n_v vs 2)) (v_iv (n_v vs 5)) (v_iv (n_v vs 6)) (v_iv (n_v vs 7)) (v_iv (n_v vs 9)) (v_iv (n_v vs 10)) (v_iv (n_v vs 12)) (v_iv (n_v vs 13)) (v_iv (n_v vs 14)) (v_iv (n_v vs 16)) (v_iv (n_v vs 17)) (v_iv (n_v vs 18)) (v_iv (n_v vs 20)) (w_fi ws (n_v vs 0) 6) (w_fi ws (n_v vs 0) 9) (w_fi ws (n_v vs 0) 5) (w_fi w1 (n_v vs 0) 6) (w_fi w1 (n_v vs 0) 8) (w_ei w2 (w_ar ws (n_v vs 0) 0)) (w_fi w2 (n_v vs 0) 9) (w_fi w2 (n_v vs 0) 8) (w_fi w2 (n_v vs 0) 6) (w_fi w2 (n_v vs 0) 5) (w_fi w1 (n_v vs 0) 5) (w_fi ws (n_v vs 0) 8) (w_fi w1 (n_v vs 0) 9) (w_ei ws (w_ar ws (n_v vs 0) 0)) (w_ei w1 (w_ar ws (n_v vs 0) 0)) k2 k5 k6 k7 k9 k10 k12 k13 k14 k16 k17 k18 k20 d0 d2 g0 g1 g3 f4 g11 f21 f23 h24 f25 g26 f27 h29 f30 f32 fe_0_5_1 fe_0_8_1 fe_0_9_1 fe_0_5_2 fe_0_6_2 fe_0_8_2 hE_0_0_1 hE_0_0_2 hK_0_0 kz_0_5 kz_0_6 kz_0_8 kz_0_9
  have nf2 : fc_1 PRD (20, [2, 3], [30, 0, 1, 0, 0, -1, 1, 6]) ws (vs) := by
    refine ⟨nf_in hl rfl, sgq_1527 ?_⟩
    · show 1 * v_iv (n_v vs 2) + ((-1) * w_fi ws (n_v vs 3) 6 + 0) ≤ 0
      rw [q3]
      exact vc_Re_advance_48_2 (v_iv (n_v vs 2)) (v_iv (n_v vs 6)) (v_iv (n_v vs 16)) (v_iv (n_v vs 17)) (v_iv (n_v vs 18)) (v_iv (n_v vs 20)) (w_fi ws (n_v vs 0) 6) (w_fi ws (n_v vs 0) 9) (w_fi ws (n_v vs 0) 5) (w_fi w1 (n_v vs 0) 6) (w_fi w1 (n_v vs 0) 8) (w_ei w2 (w_ar ws (n_v vs 0) 0)) (w_fi w2 (n_v vs 0) 8) (w_fi w2 (n_v vs 0) 6) (w_fi w2 (n_v vs 0) 5) (w_fi w1 (n_v vs 0) 5) (w_fi ws (n_v vs 0) 8) (w_fi w1 (n_v vs 0) 9) (w_ei ws (w_ar ws (n_v vs 0) 0)) (w_ei w1 (w_ar ws (n_v vs 0) 0)) k2 k6 k16 k17 k18 k20 d0 g0 f6 g11 f14 f17 f21 fe_0_5_1 fe_0_8_1 fe_0_9_1 fe_0_5_2 fe_0_6_2 fe_0_8_2 hE_0_0_1 hE_0_0_2 hK_0_0 kz_0_5 kz_0_6 kz_0_8 kz_0_9
  refine ⟨(fun _ h => (by cases h)), [], trivial, ?_, (fun _ h => (by cases h))⟩
  rw [List.append_nil]
  exact List.forall_mem_cons.mpr ⟨⟨show (20 : Nat) < 100 from by decide, nf0⟩, List.forall_mem_cons.mpr ⟨⟨show (20 : Nat) < 100 from by decide, nf1⟩, List.forall_mem_cons.mpr ⟨⟨show (20 : Nat) < 100 from by decide, nf2⟩, (fun _ h => (by cases h))⟩⟩⟩
def n_Re_advance_an : List an_T := [(0, [(0, (2, 0, 0, [8]))], [], (0, 0), [(0, 0, 100000), (1, 4, 2000), (0, 0, 100000)], [], [((0, 6), (0, 0, 2000, []))], [(2, 0, 0, [8]), (0, (Int.negSucc 2147483647), 1000000, []), (0, 0, 2000, [])], 0, [], [(20, [3, 1], [30, 0, 1, 1, 9, (Int.negSucc 0), 0, 0]), (20, [3, 1], [30, 0, (Int.negSucc 0), 1, 9, 1, 0, 0]), (20, [3, 2], [60, 2, 1, 1074, 5, 6, 0]), (20, [2, 3], [30, 0, 1, 0, 0, (Int.negSucc 0), 1, 6]), (24, [0, 3], [])]), (94, [(0, (2, 0, 0, [8])), (1, (0, 65, 122, []))], [], (0, 0), [(0, 0, 99906), (1, 5, 2000), (0, 0, 100000)], [], [((0, 6), (0, 0, 2000, []))], [(2, 0, 0, [8]), (0, (Int.negSucc 2147483647), 1000000, []), (0, 0, 2000, [])], 0, [], [(20, [3, 1], [30, 0, 1, 1, 9, (Int.negSucc 0), 0, 0]), (20, [3, 1], [30, 0, (Int.negSucc 0), 1, 9, 1, 0, 0]), (20, [3, 3], [30, 0, 1, 1, 8, (Int.negSucc 0), 1, 6]), (20, [3, 2], [60, 3, 1, 1076, 5, 6, 8, 0]), (20, [2, 3], [30, 0, 1, 0, 0, (Int.negSucc 0), 1, 6]), (24, [0, 3], [])]), (171, [(0, (2, 0, 0, [8])), (1, (0, 48, 57, []))], [], (0, 0), [(0, 0, 99829), (1, 6, 2000), (0, 0, 100000)], [], [((0, 9), (0, (Int.negSucc 175), 1000000, [])), ((0, 6), (0, 0, 2000, []))], [(2, 0, 0, [8]), (0, (Int.negSucc 2147483647), 1000000, []), (0, 0, 2000, [])], 0, [], [(20, [3, 3], [30, 0, 1, 1, 8, (Int.negSucc 0), 1, 6]), (20, [3, 2], [60, 4, 1, 1077, 5, 6, 8, 9, 0]), (20, [2, 3], [30, 0, 1, 0, 0, (Int.negSucc 0), 1, 6]), (24, [0, 3], [])])]
def t_Re_advance_ct : ct_L := [(0, 64, e_Re_isLetter), (0, 68, e_Re_isDigit), (0, 71, e_Re_isNameByte), (0, 81, e_Re_isSign), (663, 75, e_jMath_min1_v146), (663, 75, e_jMath_min1_v147), (663, 75, e_jMath_min1_v148), (663, 75, e_jMath_min1_v149), (663, 75, e_jMath_min1_v150), (663, 75, e_jMath_min1_v151)]
end
