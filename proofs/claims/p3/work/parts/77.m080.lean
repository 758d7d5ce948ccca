
set_option maxHeartbeats 4000000 in
theorem vc_Mo_item_at_k3_13_6 (x1 : Int) (x2 : Int) (x3 : Int) (x6 : Int) (x8 : Int) (x10 : Int) (x11 : Int) (x13 : Int) (x14 : Int) (x15 : Int) (x16 : Int) (x17 : Int) (x18 : Int) (x19 : Int) (x21 : Int) (x22 : Int) (x23 : Int) (x24 : Int) (r_0 : Int) (fault_0 : Int) (from_0 : Int) (pos_0 : Int) (kind_0 : Int) (all_1 : Int → Int) (r_1 : Int) (now_1 : Int → Int) (latest_1 : Int → Int) (from_1 : Int) (pos_1 : Int) (kind_1 : Int) (fault_1 : Int) (tape_1 : Int → Int) (limit_1 : Int) (place_1 : Int) (value_1 : Int) (faultPlace_1 : Int) (faultPlace_0 : Int) (limit_0 : Int) (place_0 : Int) (value_0 : Int) (tape_0 : Int → Int) (all_0 : Int → Int) (now_0 : Int → Int) (latest_0 : Int → Int) (gx : Int) (gy : Int) (gu : Int) (k1 : 0 ≤ x1 ∧ x1 ≤ 7) (k2 : 3 ≤ x2 ∧ x2 ≤ 3) (k3 : 0 ≤ x3 ∧ x3 ≤ 2000) (k6 : 0 ≤ x6 ∧ x6 ≤ 2000) (k8 : 0 ≤ x8 ∧ x8 ≤ 2000) (k10 : 0 ≤ x10 ∧ x10 ≤ 4) (k11 : 0 ≤ x11 ∧ x11 ≤ 23) (k13 : 99 ≤ x13 ∧ x13 ≤ 99) (k14 : 0 ≤ x14 ∧ x14 ≤ 2000) (k15 : (-1) ≤ x15 ∧ x15 ≤ 48) (k16 : 0 ≤ x16 ∧ x16 ≤ 7) (k17 : 0 ≤ x17 ∧ x17 ≤ 4) (k18 : 1 ≤ x18 ∧ x18 ≤ 99) (k19 : 0 ≤ x19 ∧ x19 ≤ 0) (k21 : 0 ≤ x21 ∧ x21 ≤ 66297) (k22 : 219 ≤ x22 ∧ x22 ≤ 219) (k23 : 219 ≤ x23 ∧ x23 ≤ 66516) (k24 : 219 ≤ x24 ∧ x24 ≤ 66539) (d0 : x11 + 219 ≤ x24 ∧ x24 ≤ x11 + 66516) (d1 : x23 + 0 ≤ x24 ∧ x24 ≤ x23 + 23) (d2 : x21 + 219 ≤ x24 ∧ x24 ≤ x21 + 242) (d3 : x21 + 219 ≤ x23 ∧ x23 ≤ x21 + 219) (g0 : x21 = r_0) (g2 : x19 = fault_0) (f3 : 1 * x14 + ((-1) * x3 + 0) ≤ 0) (f4 : (-1) * x14 + (1 * x3 + 0) ≤ 0) (f5 : 1 * x15 + ((-1) * x11 + 0) ≤ 0) (f6 : (-1) * x15 + (1 * x11 + 0) ≤ 0) (f7 : 1 * x16 + ((-1) * x1 + 0) ≤ 0) (f8 : (-1) * x16 + (1 * x1 + 0) ≤ 0) (f9 : 1 * x17 + ((-1) * x2 + 0) ≤ 0) (f10 : (-1) * x17 + (1 * x2 + 0) ≤ 0) (f11 : 1 * x8 + ((-1) * x3 + 0) ≤ 0) (f12 : (-1) * x8 + (1 * x3 + 0) ≤ 0) (f13 : 1 * x10 + ((-1) * x2 + 0) ≤ 0) (f14 : (-1) * x10 + (1 * x2 + 0) ≤ 0) (f15 : 1 * x3 + ((-1) * x6 + 0) ≤ 0) (f16 : 1 * from_0 + ((-1) * pos_0 + 0) ≤ 0) (f17 : ((kind_0 = 1) → (pos_0 ≤ (from_0 + 8))) ∧ ((kind_0 = 0) ∨ ((from_0 + 1) ≤ pos_0))) (f18 : 1 * x14 + ((-1) * pos_0 + 0) ≤ 0) (f19 : (1 ≤ fault_0) ∨ ((kind_0 = 0) ∨ ((x14 + 1) ≤ pos_0))) (f20 : (1 ≤ fault_0) ∨ (0 ≤ x15)) (f21 : 1 * x18 + ((-1) * x13 + 0) ≤ 0) (f22 : (-1) * x18 + 0 ≤ 0) (f24 : x24 = x23 + x11) (f25 : x23 = x21 + x22) (f26 : 0 < x18) (f27 : x19 = 0) (f28 : 1 * x14 + ((-1) * x3 + 0) ≤ 0) (f29 : (-1) * x14 + (1 * x3 + 0) ≤ 0) (f30 : 1 * x15 + ((-1) * x11 + 0) ≤ 0) (f31 : (-1) * x15 + (1 * x11 + 0) ≤ 0) (f32 : 1 * x16 + ((-1) * x1 + 0) ≤ 0) (f33 : (-1) * x16 + (1 * x1 + 0) ≤ 0) (f34 : 1 * x17 + ((-1) * x2 + 0) ≤ 0) (f35 : (-1) * x17 + (1 * x2 + 0) ≤ 0) (f36 : 1 * x8 + ((-1) * x3 + 0) ≤ 0) (f37 : (-1) * x8 + (1 * x3 + 0) ≤ 0) (f38 : 1 * x10 + ((-1) * x2 + 0) ≤ 0) (f39 : (-1) * x10 + (1 * x2 + 0) ≤ 0) (f40 : 1 * x3 + ((-1) * x6 + 0) ≤ 0) (f41 : (x1 + 1) ≤ all_1 ((r_1 + 2))) (f42 : RWS (r_1) (all_1) (now_1) (latest_1)) (f43 : 1 * from_1 + ((-1) * pos_1 + 0) ≤ 0) (f44 : ((kind_1 = 1) → (pos_1 ≤ (from_1 + 8))) ∧ ((kind_1 = 0) ∨ ((from_1 + 1) ≤ pos_1))) (f45 : 1 * x14 + ((-1) * pos_1 + 0) ≤ 0) (f46 : (1 ≤ fault_1) ∨ ((kind_1 = 0) ∨ ((x14 + 1) ≤ pos_1))) (f47 : (1 ≤ fault_1) ∨ (0 ≤ x15)) (f48 : 1 * x18 + ((-1) * x13 + 0) ≤ 0) (f49 : (-1) * x18 + 0 ≤ 0) (f50 : zOFs (limit_1) (pos_1) (kind_1) (place_1) (value_1) (from_1) (fault_1) (faultPlace_1) (r_1) (tape_1) (all_1) (x15) (x18) (x16) (x17)) (f52 : 1 * x14 + ((-1) * x3 + 0) ≤ 0) (f53 : (-1) * x14 + (1 * x3 + 0) ≤ 0) (f54 : 1 * x15 + ((-1) * x11 + 0) ≤ 0) (f55 : (-1) * x15 + (1 * x11 + 0) ≤ 0) (f56 : 1 * x16 + ((-1) * x1 + 0) ≤ 0) (f57 : (-1) * x16 + (1 * x1 + 0) ≤ 0) (f58 : 1 * x17 + ((-1) * x2 + 0) ≤ 0) (f59 : (-1) * x17 + (1 * x2 + 0) ≤ 0) (f60 : 1 * x8 + ((-1) * x3 + 0) ≤ 0) (f61 : (-1) * x8 + (1 * x3 + 0) ≤ 0) (f62 : 1 * x10 + ((-1) * x2 + 0) ≤ 0) (f63 : (-1) * x10 + (1 * x2 + 0) ≤ 0) (f65 : 1 * x8 + ((-1) * x3 + 0) ≤ 0) (f66 : (-1) * x8 + (1 * x3 + 0) ≤ 0) (f67 : 1 * x10 + ((-1) * x2 + 0) ≤ 0) (f68 : (-1) * x10 + (1 * x2 + 0) ≤ 0) (fe_0_5_1 : r_0 = r_1) (fe_0_8_1 : fault_0 = fault_1) (fe_0_9_1 : faultPlace_0 = faultPlace_1) (fe_0_10_1 : limit_0 = limit_1) (fe_0_11_1 : pos_0 = pos_1) (fe_0_12_1 : kind_0 = kind_1) (fe_0_13_1 : place_0 = place_1) (fe_0_14_1 : value_0 = value_1) (fe_0_15_1 : from_0 = from_1) (hE_0_1_1 : ∀ j : Int, tape_0 j = tape_1 j) (hK_0_1 : ∀ j : Int, 0 ≤ j → j < 2000 → (-128) ≤ tape_0 j ∧ tape_0 j ≤ 127) (hE_0_2_1 : ∀ j : Int, 0 ≤ j → (j = x24 → all_0 j = x18) ∧ (j ≠ x24 → all_0 j = all_1 j)) (hE_0_3_1 : ∀ j : Int, now_0 j = now_1 j) (hK_0_3 : ∀ j : Int, 0 ≤ j → j < 4 → 0 ≤ now_0 j ∧ now_0 j ≤ 30) (hE_0_4_1 : ∀ j : Int, latest_0 j = latest_1 j) (hK_0_4 : ∀ j : Int, 0 ≤ j → j < 4 → 0 ≤ latest_0 j ∧ latest_0 j ≤ 30) (kz_0_8 : 0 ≤ fault_0 ∧ fault_0 ≤ 5) (kz_0_9 : 0 ≤ faultPlace_0 ∧ faultPlace_0 ≤ 2000) (kz_0_10 : 0 ≤ limit_0 ∧ limit_0 ≤ 2000) (kz_0_11 : 0 ≤ pos_0 ∧ pos_0 ≤ 2000) (kz_0_12 : 0 ≤ kind_0 ∧ kind_0 ≤ 4) (kz_0_13 : 0 ≤ place_0 ∧ place_0 ≤ 2000) (kz_0_14 : (-49) ≤ value_0 ∧ value_0 ≤ 1048575) (kz_0_15 : 0 ≤ from_0 ∧ from_0 ≤ 2000) (ex2 : gx = x3) (ex3 : 0 ≤ gx ∧ gx ≤ 2000) (ey2 : gy = x1) (ey3 : 0 ≤ gy ∧ gy ≤ 7) (eu2 : gu = x2) (eu3 : 0 ≤ gu ∧ gu ≤ 4) : 1 * gu + ((-1) * x2 + 0) ≤ 0 := by
  subst fe_0_5_1
  subst fe_0_8_1
  subst fe_0_9_1
  subst fe_0_10_1
  subst fe_0_11_1
  subst fe_0_12_1
  subst fe_0_13_1
  subst fe_0_14_1
  subst fe_0_15_1
  have e_hE_0_1_1 := funext hE_0_1_1; subst e_hE_0_1_1
  have e_hE_0_3_1 := funext hE_0_3_1; subst e_hE_0_3_1
  have e_hE_0_4_1 := funext hE_0_4_1; subst e_hE_0_4_1
  first
    | omega
    | (have q1 := (hE_0_2_1 (r_0 + 2) (by omega)).2 (by omega)
       have q2 := (hE_0_2_2 (r_0 + 2) (by omega)).2 (by omega)
       omega)
    | (have q1 := (hE_0_2_1 (r_0 + 1) (by omega)).2 (by omega)
       have q2 := (hE_0_2_2 (r_0 + 1) (by omega)).2 (by omega)
       omega)
    | (have q1 := (hE_0_2_1 (r_0 + 2) (by omega)).2 (by omega)
       omega)
    | (have q1 := (hE_0_2_1 (r_0 + 1) (by omega)).2 (by omega)
       omega)
    | (have q1 := (hE_0_2_1 (r_0 + 2) (by omega)).2 (by omega)
       have q2 := (hE_0_2_2 (r_0 + 2) (by omega)).2 (by omega)
       have q3 := (hE_0_2_3 (r_0 + 2) (by omega)).1 (by omega)
       omega)
    | (have q1 := (hE_0_2_1 (r_0 + 2) (by omega)).2 (by omega)
       have q2 := (hE_0_2_2 (r_0 + 2) (by omega)).2 (by omega)
       have q3 := (hE_0_2_3 (r_0 + 2) (by omega)).2 (by omega)
       omega)
set_option maxHeartbeats 4000000 in
theorem vc_Mo_item_at_k3_13_7 (x1 : Int) (x2 : Int) (x3 : Int) (x6 : Int) (x8 : Int) (x10 : Int) (x11 : Int) (x13 : Int) (x14 : Int) (x15 : Int) (x16 : Int) (x17 : Int) (x18 : Int) (x19 : Int) (x21 : Int) (x22 : Int) (x23 : Int) (x24 : Int) (r_0 : Int) (fault_0 : Int) (from_0 : Int) (pos_0 : Int) (kind_0 : Int) (all_1 : Int → Int) (r_1 : Int) (now_1 : Int → Int) (latest_1 : Int → Int) (from_1 : Int) (pos_1 : Int) (kind_1 : Int) (fault_1 : Int) (tape_1 : Int → Int) (limit_1 : Int) (place_1 : Int) (value_1 : Int) (faultPlace_1 : Int) (faultPlace_0 : Int) (limit_0 : Int) (place_0 : Int) (value_0 : Int) (tape_0 : Int → Int) (all_0 : Int → Int) (now_0 : Int → Int) (latest_0 : Int → Int) (gx : Int) (gy : Int) (gu : Int) (k1 : 0 ≤ x1 ∧ x1 ≤ 7) (k2 : 3 ≤ x2 ∧ x2 ≤ 3) (k3 : 0 ≤ x3 ∧ x3 ≤ 2000) (k6 : 0 ≤ x6 ∧ x6 ≤ 2000) (k8 : 0 ≤ x8 ∧ x8 ≤ 2000) (k10 : 0 ≤ x10 ∧ x10 ≤ 4) (k11 : 0 ≤ x11 ∧ x11 ≤ 23) (k13 : 99 ≤ x13 ∧ x13 ≤ 99) (k14 : 0 ≤ x14 ∧ x14 ≤ 2000) (k15 : (-1) ≤ x15 ∧ x15 ≤ 48) (k16 : 0 ≤ x16 ∧ x16 ≤ 7) (k17 : 0 ≤ x17 ∧ x17 ≤ 4) (k18 : 1 ≤ x18 ∧ x18 ≤ 99) (k19 : 0 ≤ x19 ∧ x19 ≤ 0) (k21 : 0 ≤ x21 ∧ x21 ≤ 66297) (k22 : 219 ≤ x22 ∧ x22 ≤ 219) (k23 : 219 ≤ x23 ∧ x23 ≤ 66516) (k24 : 219 ≤ x24 ∧ x24 ≤ 66539) (d0 : x11 + 219 ≤ x24 ∧ x24 ≤ x11 + 66516) (d1 : x23 + 0 ≤ x24 ∧ x24 ≤ x23 + 23) (d2 : x21 + 219 ≤ x24 ∧ x24 ≤ x21 + 242) (d3 : x21 + 219 ≤ x23 ∧ x23 ≤ x21 + 219) (g0 : x21 = r_0) (g2 : x19 = fault_0) (f3 : 1 * x14 + ((-1) * x3 + 0) ≤ 0) (f4 : (-1) * x14 + (1 * x3 + 0) ≤ 0) (f5 : 1 * x15 + ((-1) * x11 + 0) ≤ 0) (f6 : (-1) * x15 + (1 * x11 + 0) ≤ 0) (f7 : 1 * x16 + ((-1) * x1 + 0) ≤ 0) (f8 : (-1) * x16 + (1 * x1 + 0) ≤ 0) (f9 : 1 * x17 + ((-1) * x2 + 0) ≤ 0) (f10 : (-1) * x17 + (1 * x2 + 0) ≤ 0) (f11 : 1 * x8 + ((-1) * x3 + 0) ≤ 0) (f12 : (-1) * x8 + (1 * x3 + 0) ≤ 0) (f13 : 1 * x10 + ((-1) * x2 + 0) ≤ 0) (f14 : (-1) * x10 + (1 * x2 + 0) ≤ 0) (f15 : 1 * x3 + ((-1) * x6 + 0) ≤ 0) (f16 : 1 * from_0 + ((-1) * pos_0 + 0) ≤ 0) (f17 : ((kind_0 = 1) → (pos_0 ≤ (from_0 + 8))) ∧ ((kind_0 = 0) ∨ ((from_0 + 1) ≤ pos_0))) (f18 : 1 * x14 + ((-1) * pos_0 + 0) ≤ 0) (f19 : (1 ≤ fault_0) ∨ ((kind_0 = 0) ∨ ((x14 + 1) ≤ pos_0))) (f20 : (1 ≤ fault_0) ∨ (0 ≤ x15)) (f21 : 1 * x18 + ((-1) * x13 + 0) ≤ 0) (f22 : (-1) * x18 + 0 ≤ 0) (f24 : x24 = x23 + x11) (f25 : x23 = x21 + x22) (f26 : 0 < x18) (f27 : x19 = 0) (f28 : 1 * x14 + ((-1) * x3 + 0) ≤ 0) (f29 : (-1) * x14 + (1 * x3 + 0) ≤ 0) (f30 : 1 * x15 + ((-1) * x11 + 0) ≤ 0) (f31 : (-1) * x15 + (1 * x11 + 0) ≤ 0) (f32 : 1 * x16 + ((-1) * x1 + 0) ≤ 0) (f33 : (-1) * x16 + (1 * x1 + 0) ≤ 0) (f34 : 1 * x17 + ((-1) * x2 + 0) ≤ 0) (f35 : (-1) * x17 + (1 * x2 + 0) ≤ 0) (f36 : 1 * x8 + ((-1) * x3 + 0) ≤ 0) (f37 : (-1) * x8 + (1 * x3 + 0) ≤ 0) (f38 : 1 * x10 + ((-1) * x2 + 0) ≤ 0) (f39 : (-1) * x10 + (1 * x2 + 0) ≤ 0) (f40 : 1 * x3 + ((-1) * x6 + 0) ≤ 0) (f41 : (x1 + 1) ≤ all_1 ((r_1 + 2))) (f42 : RWS (r_1) (all_1) (now_1) (latest_1)) (f43 : 1 * from_1 + ((-1) * pos_1 + 0) ≤ 0) (f44 : ((kind_1 = 1) → (pos_1 ≤ (from_1 + 8))) ∧ ((kind_1 = 0) ∨ ((from_1 + 1) ≤ pos_1))) (f45 : 1 * x14 + ((-1) * pos_1 + 0) ≤ 0) (f46 : (1 ≤ fault_1) ∨ ((kind_1 = 0) ∨ ((x14 + 1) ≤ pos_1))) (f47 : (1 ≤ fault_1) ∨ (0 ≤ x15)) (f48 : 1 * x18 + ((-1) * x13 + 0) ≤ 0) (f49 : (-1) * x18 + 0 ≤ 0) (f50 : zOFs (limit_1) (pos_1) (kind_1) (place_1) (value_1) (from_1) (fault_1) (faultPlace_1) (r_1) (tape_1) (all_1) (x15) (x18) (x16) (x17)) (f52 : 1 * x14 + ((-1) * x3 + 0) ≤ 0) (f53 : (-1) * x14 + (1 * x3 + 0) ≤ 0) (f54 : 1 * x15 + ((-1) * x11 + 0) ≤ 0) (f55 : (-1) * x15 + (1 * x11 + 0) ≤ 0) (f56 : 1 * x16 + ((-1) * x1 + 0) ≤ 0) (f57 : (-1) * x16 + (1 * x1 + 0) ≤ 0) (f58 : 1 * x17 + ((-1) * x2 + 0) ≤ 0) (f59 : (-1) * x17 + (1 * x2 + 0) ≤ 0) (f60 : 1 * x8 + ((-1) * x3 + 0) ≤ 0) (f61 : (-1) * x8 + (1 * x3 + 0) ≤ 0) (f62 : 1 * x10 + ((-1) * x2 + 0) ≤ 0) (f63 : (-1) * x10 + (1 * x2 + 0) ≤ 0) (f65 : 1 * x8 + ((-1) * x3 + 0) ≤ 0) (f66 : (-1) * x8 + (1 * x3 + 0) ≤ 0) (f67 : 1 * x10 + ((-1) * x2 + 0) ≤ 0) (f68 : (-1) * x10 + (1 * x2 + 0) ≤ 0) (fe_0_5_1 : r_0 = r_1) (fe_0_8_1 : fault_0 = fault_1) (fe_0_9_1 : faultPlace_0 = faultPlace_1) (fe_0_10_1 : limit_0 = limit_1) (fe_0_11_1 : pos_0 = pos_1) (fe_0_12_1 : kind_0 = kind_1) (fe_0_13_1 : place_0 = place_1) (fe_0_14_1 : value_0 = value_1) (fe_0_15_1 : from_0 = from_1) (hE_0_1_1 : ∀ j : Int, tape_0 j = tape_1 j) (hK_0_1 : ∀ j : Int, 0 ≤ j → j < 2000 → (-128) ≤ tape_0 j ∧ tape_0 j ≤ 127) (hE_0_2_1 : ∀ j : Int, 0 ≤ j → (j = x24 → all_0 j = x18) ∧ (j ≠ x24 → all_0 j = all_1 j)) (hE_0_3_1 : ∀ j : Int, now_0 j = now_1 j) (hK_0_3 : ∀ j : Int, 0 ≤ j → j < 4 → 0 ≤ now_0 j ∧ now_0 j ≤ 30) (hE_0_4_1 : ∀ j : Int, latest_0 j = latest_1 j) (hK_0_4 : ∀ j : Int, 0 ≤ j → j < 4 → 0 ≤ latest_0 j ∧ latest_0 j ≤ 30) (kz_0_8 : 0 ≤ fault_0 ∧ fault_0 ≤ 5) (kz_0_9 : 0 ≤ faultPlace_0 ∧ faultPlace_0 ≤ 2000) (kz_0_10 : 0 ≤ limit_0 ∧ limit_0 ≤ 2000) (kz_0_11 : 0 ≤ pos_0 ∧ pos_0 ≤ 2000) (kz_0_12 : 0 ≤ kind_0 ∧ kind_0 ≤ 4) (kz_0_13 : 0 ≤ place_0 ∧ place_0 ≤ 2000) (kz_0_14 : (-49) ≤ value_0 ∧ value_0 ≤ 1048575) (kz_0_15 : 0 ≤ from_0 ∧ from_0 ≤ 2000) (ex2 : gx = x3) (ex3 : 0 ≤ gx ∧ gx ≤ 2000) (ey2 : gy = x1) (ey3 : 0 ≤ gy ∧ gy ≤ 7) (eu2 : gu = x2) (eu3 : 0 ≤ gu ∧ gu ≤ 4) : (-1) * gu + (1 * x2 + 0) ≤ 0 := by
  subst fe_0_5_1
  subst fe_0_8_1
  subst fe_0_9_1
  subst fe_0_10_1
  subst fe_0_11_1
  subst fe_0_12_1
  subst fe_0_13_1
  subst fe_0_14_1
  subst fe_0_15_1
  have e_hE_0_1_1 := funext hE_0_1_1; subst e_hE_0_1_1
  have e_hE_0_3_1 := funext hE_0_3_1; subst e_hE_0_3_1
  have e_hE_0_4_1 := funext hE_0_4_1; subst e_hE_0_4_1
  first
    | omega
    | (have q1 := (hE_0_2_1 (r_0 + 2) (by omega)).2 (by omega)
       have q2 := (hE_0_2_2 (r_0 + 2) (by omega)).2 (by omega)
       omega)
    | (have q1 := (hE_0_2_1 (r_0 + 1) (by omega)).2 (by omega)
       have q2 := (hE_0_2_2 (r_0 + 1) (by omega)).2 (by omega)
       omega)
    | (have q1 := (hE_0_2_1 (r_0 + 2) (by omega)).2 (by omega)
       omega)
    | (have q1 := (hE_0_2_1 (r_0 + 1) (by omega)).2 (by omega)
       omega)
    | (have q1 := (hE_0_2_1 (r_0 + 2) (by omega)).2 (by omega)
       have q2 := (hE_0_2_2 (r_0 + 2) (by omega)).2 (by omega)
       have q3 := (hE_0_2_3 (r_0 + 2) (by omega)).1 (by omega)
       omega)
    | (have q1 := (hE_0_2_1 (r_0 + 2) (by omega)).2 (by omega)
       have q2 := (hE_0_2_2 (r_0 + 2) (by omega)).2 (by omega)
       have q3 := (hE_0_2_3 (r_0 + 2) (by omega)).2 (by omega)
       omega)
set_option maxHeartbeats 4000000 in
theorem vc_Mo_item_at_k3_13_8 (x1 : Int) (x2 : Int) (x3 : Int) (x6 : Int) (x8 : Int) (x10 : Int) (x11 : Int) (x13 : Int) (x14 : Int) (x15 : Int) (x16 : Int) (x17 : Int) (x18 : Int) (x19 : Int) (x21 : Int) (x22 : Int) (x23 : Int) (x24 : Int) (r_0 : Int) (fault_0 : Int) (from_0 : Int) (pos_0 : Int) (kind_0 : Int) (all_1 : Int → Int) (r_1 : Int) (now_1 : Int → Int) (latest_1 : Int → Int) (from_1 : Int) (pos_1 : Int) (kind_1 : Int) (fault_1 : Int) (tape_1 : Int → Int) (limit_1 : Int) (place_1 : Int) (value_1 : Int) (faultPlace_1 : Int) (faultPlace_0 : Int) (limit_0 : Int) (place_0 : Int) (value_0 : Int) (tape_0 : Int → Int) (all_0 : Int → Int) (now_0 : Int → Int) (latest_0 : Int → Int) (gx : Int) (gy : Int) (gu : Int) (k1 : 0 ≤ x1 ∧ x1 ≤ 7) (k2 : 3 ≤ x2 ∧ x2 ≤ 3) (k3 : 0 ≤ x3 ∧ x3 ≤ 2000) (k6 : 0 ≤ x6 ∧ x6 ≤ 2000) (k8 : 0 ≤ x8 ∧ x8 ≤ 2000) (k10 : 0 ≤ x10 ∧ x10 ≤ 4) (k11 : 0 ≤ x11 ∧ x11 ≤ 23) (k13 : 99 ≤ x13 ∧ x13 ≤ 99) (k14 : 0 ≤ x14 ∧ x14 ≤ 2000) (k15 : (-1) ≤ x15 ∧ x15 ≤ 48) (k16 : 0 ≤ x16 ∧ x16 ≤ 7) (k17 : 0 ≤ x17 ∧ x17 ≤ 4) (k18 : 1 ≤ x18 ∧ x18 ≤ 99) (k19 : 0 ≤ x19 ∧ x19 ≤ 0) (k21 : 0 ≤ x21 ∧ x21 ≤ 66297) (k22 : 219 ≤ x22 ∧ x22 ≤ 219) (k23 : 219 ≤ x23 ∧ x23 ≤ 66516) (k24 : 219 ≤ x24 ∧ x24 ≤ 66539) (d0 : x11 + 219 ≤ x24 ∧ x24 ≤ x11 + 66516) (d1 : x23 + 0 ≤ x24 ∧ x24 ≤ x23 + 23) (d2 : x21 + 219 ≤ x24 ∧ x24 ≤ x21 + 242) (d3 : x21 + 219 ≤ x23 ∧ x23 ≤ x21 + 219) (g0 : x21 = r_0) (g2 : x19 = fault_0) (f3 : 1 * x14 + ((-1) * x3 + 0) ≤ 0) (f4 : (-1) * x14 + (1 * x3 + 0) ≤ 0) (f5 : 1 * x15 + ((-1) * x11 + 0) ≤ 0) (f6 : (-1) * x15 + (1 * x11 + 0) ≤ 0) (f7 : 1 * x16 + ((-1) * x1 + 0) ≤ 0) (f8 : (-1) * x16 + (1 * x1 + 0) ≤ 0) (f9 : 1 * x17 + ((-1) * x2 + 0) ≤ 0) (f10 : (-1) * x17 + (1 * x2 + 0) ≤ 0) (f11 : 1 * x8 + ((-1) * x3 + 0) ≤ 0) (f12 : (-1) * x8 + (1 * x3 + 0) ≤ 0) (f13 : 1 * x10 + ((-1) * x2 + 0) ≤ 0) (f14 : (-1) * x10 + (1 * x2 + 0) ≤ 0) (f15 : 1 * x3 + ((-1) * x6 + 0) ≤ 0) (f16 : 1 * from_0 + ((-1) * pos_0 + 0) ≤ 0) (f17 : ((kind_0 = 1) → (pos_0 ≤ (from_0 + 8))) ∧ ((kind_0 = 0) ∨ ((from_0 + 1) ≤ pos_0))) (f18 : 1 * x14 + ((-1) * pos_0 + 0) ≤ 0) (f19 : (1 ≤ fault_0) ∨ ((kind_0 = 0) ∨ ((x14 + 1) ≤ pos_0))) (f20 : (1 ≤ fault_0) ∨ (0 ≤ x15)) (f21 : 1 * x18 + ((-1) * x13 + 0) ≤ 0) (f22 : (-1) * x18 + 0 ≤ 0) (f24 : x24 = x23 + x11) (f25 : x23 = x21 + x22) (f26 : 0 < x18) (f27 : x19 = 0) (f28 : 1 * x14 + ((-1) * x3 + 0) ≤ 0) (f29 : (-1) * x14 + (1 * x3 + 0) ≤ 0) (f30 : 1 * x15 + ((-1) * x11 + 0) ≤ 0) (f31 : (-1) * x15 + (1 * x11 + 0) ≤ 0) (f32 : 1 * x16 + ((-1) * x1 + 0) ≤ 0) (f33 : (-1) * x16 + (1 * x1 + 0) ≤ 0) (f34 : 1 * x17 + ((-1) * x2 + 0) ≤ 0) (f35 : (-1) * x17 + (1 * x2 + 0) ≤ 0) (f36 : 1 * x8 + ((-1) * x3 + 0) ≤ 0) (f37 : (-1) * x8 + (1 * x3 + 0) ≤ 0) (f38 : 1 * x10 + ((-1) * x2 + 0) ≤ 0) (f39 : (-1) * x10 + (1 * x2 + 0) ≤ 0) (f40 : 1 * x3 + ((-1) * x6 + 0) ≤ 0) (f41 : (x1 + 1) ≤ all_1 ((r_1 + 2))) (f42 : RWS (r_1) (all_1) (now_1) (latest_1)) (f43 : 1 * from_1 + ((-1) * pos_1 + 0) ≤ 0) (f44 : ((kind_1 = 1) → (pos_1 ≤ (from_1 + 8))) ∧ ((kind_1 = 0) ∨ ((from_1 + 1) ≤ pos_1))) (f45 : 1 * x14 + ((-1) * pos_1 + 0) ≤ 0) (f46 : (1 ≤ fault_1) ∨ ((kind_1 = 0) ∨ ((x14 + 1) ≤ pos_1))) (f47 : (1 ≤ fault_1) ∨ (0 ≤ x15)) (f48 : 1 * x18 + ((-1) * x13 + 0) ≤ 0) (f49 : (-1) * x18 + 0 ≤ 0) (f50 : zOFs (limit_1) (pos_1) (kind_1) (place_1) (value_1) (from_1) (fault_1) (faultPlace_1) (r_1) (tape_1) (all_1) (x15) (x18) (x16) (x17)) (f52 : 1 * x14 + ((-1) * x3 + 0) ≤ 0) (f53 : (-1) * x14 + (1 * x3 + 0) ≤ 0) (f54 : 1 * x15 + ((-1) * x11 + 0) ≤ 0) (f55 : (-1) * x15 + (1 * x11 + 0) ≤ 0) (f56 : 1 * x16 + ((-1) * x1 + 0) ≤ 0) (f57 : (-1) * x16 + (1 * x1 + 0) ≤ 0) (f58 : 1 * x17 + ((-1) * x2 + 0) ≤ 0) (f59 : (-1) * x17 + (1 * x2 + 0) ≤ 0) (f60 : 1 * x8 + ((-1) * x3 + 0) ≤ 0) (f61 : (-1) * x8 + (1 * x3 + 0) ≤ 0) (f62 : 1 * x10 + ((-1) * x2 + 0) ≤ 0) (f63 : (-1) * x10 + (1 * x2 + 0) ≤ 0) (f65 : 1 * x8 + ((-1) * x3 + 0) ≤ 0) (f66 : (-1) * x8 + (1 * x3 + 0) ≤ 0) (f67 : 1 * x10 + ((-1) * x2 + 0) ≤ 0) (f68 : (-1) * x10 + (1 * x2 + 0) ≤ 0) (fe_0_5_1 : r_0 = r_1) (fe_0_8_1 : fault_0 = fault_1) (fe_0_9_1 : faultPlace_0 = faultPlace_1) (fe_0_10_1 : limit_0 = limit_1) (fe_0_11_1 : pos_0 = pos_1) (fe_0_12_1 : kind_0 = kind_1) (fe_0_13_1 : place_0 = place_1) (fe_0_14_1 : value_0 = value_1) (fe_0_15_1 : from_0 = from_1) (hE_0_1_1 : ∀ j : Int, tape_0 j = tape_1 j) (hK_0_1 : ∀ j : Int, 0 ≤ j → j < 2000 → (-128) ≤ tape_0 j ∧ tape_0 j ≤ 127) (hE_0_2_1 : ∀ j : Int, 0 ≤ j → (j = x24 → all_0 j = x18) ∧ (j ≠ x24 → all_0 j = all_1 j)) (hE_0_3_1 : ∀ j : Int, now_0 j = now_1 j) (hK_0_3 : ∀ j : Int, 0 ≤ j → j < 4 → 0 ≤ now_0 j ∧ now_0 j ≤ 30) (hE_0_4_1 : ∀ j : Int, latest_0 j = latest_1 j) (hK_0_4 : ∀ j : Int, 0 ≤ j → j < 4 → 0 ≤ latest_0 j ∧ latest_0 j ≤ 30) (kz_0_8 : 0 ≤ fault_0 ∧ fault_0 ≤ 5) (kz_0_9 : 0 ≤ faultPlace_0 ∧ faultPlace_0 ≤ 2000) (kz_0_10 : 0 ≤ limit_0 ∧ limit_0 ≤ 2000) (kz_0_11 : 0 ≤ pos_0 ∧ pos_0 ≤ 2000) (kz_0_12 : 0 ≤ kind_0 ∧ kind_0 ≤ 4) (kz_0_13 : 0 ≤ place_0 ∧ place_0 ≤ 2000) (kz_0_14 : (-49) ≤ value_0 ∧ value_0 ≤ 1048575) (kz_0_15 : 0 ≤ from_0 ∧ from_0 ≤ 2000) (ex2 : gx = x3) (ex3 : 0 ≤ gx ∧ gx ≤ 2000) (ey2 : gy = x1) (ey3 : 0 ≤ gy ∧ gy ≤ 7) (eu2 : gu = x2) (eu3 : 0 ≤ gu ∧ gu ≤ 4) : 1 * from_0 + ((-1) * pos_0 + 0) ≤ 0 := by
  subst fe_0_5_1
  subst fe_0_8_1
  subst fe_0_9_1
  subst fe_0_10_1
  subst fe_0_11_1
  subst fe_0_12_1
  subst fe_0_13_1
  subst fe_0_14_1
  subst fe_0_15_1
  have e_hE_0_1_1 := funext hE_0_1_1; subst e_hE_0_1_1
  have e_hE_0_3_1 := funext hE_0_3_1; subst e_hE_0_3_1
  have e_hE_0_4_1 := funext hE_0_4_1; subst e_hE_0_4_1
  first
    | omega
    | (have q1 := (hE_0_2_1 (r_0 + 2) (by omega)).2 (by omega)
       have q2 := (hE_0_2_2 (r_0 + 2) (by omega)).2 (by omega)
       omega)
    | (have q1 := (hE_0_2_1 (r_0 + 1) (by omega)).2 (by omega)
       have q2 := (hE_0_2_2 (r_0 + 1) (by omega)).2 (by omega)
       omega)
    | (have q1 := (hE_0_2_1 (r_0 + 2) (by omega)).2 (by omega)
       omega)
    | (have q1 := (hE_0_2_1 (r_0 + 1) (by omega)).2 (by omega)
       omega)
    | (have q1 := (hE_0_2_1 (r_0 + 2) (by omega)).2 (by omega)
       have q2 := (hE_0_2_2 (r_0 + 2) (by omega)).2 (by omega)
       have q3 := (hE_0_2_3 (r_0 + 2) (by omega)).1 (by omega)
       omega)
    | (have q1 := (hE_0_2_1 (r_0 + 2) (by omega)).2 (by omega)
       have q2 := (hE_0_2_2 (r_0 + 2) (by omega)).2 (by omega)
       have q3 := (hE_0_2_3 (r_0 + 2) (by omega)).2 (by omega)
       omega)
set_option maxHeartbeats 4000000 in
theorem vc_Mo_item_at_k3_13_9 (x1 : Int) (x2 : Int) (x3 : Int) (x6 : Int) (x8 : Int) (x10 : Int) (x11 : Int) (x13 : Int) (x14 : Int) (x15 : Int) (x16 : Int) (x17 : Int) (x18 : Int) (x19 : Int) (x21 : Int) (x22 : Int) (x23 : Int) (x24 : Int) (r_0 : Int) (fault_0 : Int) (from_0 : Int) (pos_0 : Int) (kind_0 : Int) (all_1 : Int → Int) (r_1 : Int) (now_1 : Int → Int) (latest_1 : Int → Int) (from_1 : Int) (pos_1 : Int) (kind_1 : Int) (fault_1 : Int) (tape_1 : Int → Int) (limit_1 : Int) (place_1 : Int) (value_1 : Int) (faultPlace_1 : Int) (faultPlace_0 : Int) (limit_0 : Int) (place_0 : Int) (value_0 : Int) (tape_0 : Int → Int) (all_0 : Int → Int) (now_0 : Int → Int) (latest_0 : Int → Int) (gx : Int) (gy : Int) (gu : Int) (k1 : 0 ≤ x1 ∧ x1 ≤ 7) (k2 : 3 ≤ x2 ∧ x2 ≤ 3) (k3 : 0 ≤ x3 ∧ x3 ≤ 2000) (k6 : 0 ≤ x6 ∧ x6 ≤ 2000) (k8 : 0 ≤ x8 ∧ x8 ≤ 2000) (k10 : 0 ≤ x10 ∧ x10 ≤ 4) (k11 : 0 ≤ x11 ∧ x11 ≤ 23) (k13 : 99 ≤ x13 ∧ x13 ≤ 99) (k14 : 0 ≤ x14 ∧ x14 ≤ 2000) (k15 : (-1) ≤ x15 ∧ x15 ≤ 48) (k16 : 0 ≤ x16 ∧ x16 ≤ 7) (k17 : 0 ≤ x17 ∧ x17 ≤ 4) (k18 : 1 ≤ x18 ∧ x18 ≤ 99) (k19 : 0 ≤ x19 ∧ x19 ≤ 0) (k21 : 0 ≤ x21 ∧ x21 ≤ 66297) (k22 : 219 ≤ x22 ∧ x22 ≤ 219) (k23 : 219 ≤ x23 ∧ x23 ≤ 66516) (k24 : 219 ≤ x24 ∧ x24 ≤ 66539) (d0 : x11 + 219 ≤ x24 ∧ x24 ≤ x11 + 66516) (d1 : x23 + 0 ≤ x24 ∧ x24 ≤ x23 + 23) (d2 : x21 + 219 ≤ x24 ∧ x24 ≤ x21 + 242) (d3 : x21 + 219 ≤ x23 ∧ x23 ≤ x21 + 219) (g0 : x21 = r_0) (g2 : x19 = fault_0) (f3 : 1 * x14 + ((-1) * x3 + 0) ≤ 0) (f4 : (-1) * x14 + (1 * x3 + 0) ≤ 0) (f5 : 1 * x15 + ((-1) * x11 + 0) ≤ 0) (f6 : (-1) * x15 + (1 * x11 + 0) ≤ 0) (f7 : 1 * x16 + ((-1) * x1 + 0) ≤ 0) (f8 : (-1) * x16 + (1 * x1 + 0) ≤ 0) (f9 : 1 * x17 + ((-1) * x2 + 0) ≤ 0) (f10 : (-1) * x17 + (1 * x2 + 0) ≤ 0) (f11 : 1 * x8 + ((-1) * x3 + 0) ≤ 0) (f12 : (-1) * x8 + (1 * x3 + 0) ≤ 0) (f13 : 1 * x10 + ((-1) * x2 + 0) ≤ 0) (f14 : (-1) * x10 + (1 * x2 + 0) ≤ 0) (f15 : 1 * x3 + ((-1) * x6 + 0) ≤ 0) (f16 : 1 * from_0 + ((-1) * pos_0 + 0) ≤ 0) (f17 : ((kind_0 = 1) → (pos_0 ≤ (from_0 + 8))) ∧ ((kind_0 = 0) ∨ ((from_0 + 1) ≤ pos_0))) (f18 : 1 * x14 + ((-1) * pos_0 + 0) ≤ 0) (f19 : (1 ≤ fault_0) ∨ ((kind_0 = 0) ∨ ((x14 + 1) ≤ pos_0))) (f20 : (1 ≤ fault_0) ∨ (0 ≤ x15)) (f21 : 1 * x18 + ((-1) * x13 + 0) ≤ 0) (f22 : (-1) * x18 + 0 ≤ 0) (f24 : x24 = x23 + x11) (f25 : x23 = x21 + x22) (f26 : 0 < x18) (f27 : x19 = 0) (f28 : 1 * x14 + ((-1) * x3 + 0) ≤ 0) (f29 : (-1) * x14 + (1 * x3 + 0) ≤ 0) (f30 : 1 * x15 + ((-1) * x11 + 0) ≤ 0) (f31 : (-1) * x15 + (1 * x11 + 0) ≤ 0) (f32 : 1 * x16 + ((-1) * x1 + 0) ≤ 0) (f33 : (-1) * x16 + (1 * x1 + 0) ≤ 0) (f34 : 1 * x17 + ((-1) * x2 + 0) ≤ 0) (f35 : (-1) * x17 + (1 * x2 + 0) ≤ 0) (f36 : 1 * x8 + ((-1) * x3 + 0) ≤ 0) (f37 : (-1) * x8 + (1 * x3 + 0) ≤ 0) (f38 : 1 * x10 + ((-1) * x2 + 0) ≤ 0) (f39 : (-1) * x10 + (1 * x2 + 0) ≤ 0) (f40 : 1 * x3 + ((-1) * x6 + 0) ≤ 0) (f41 : (x1 + 1) ≤ all_1 ((r_1 + 2))) (f42 : RWS (r_1) (all_1) (now_1) (latest_1)) (f43 : 1 * from_1 + ((-1) * pos_1 + 0) ≤ 0) (f44 : ((kind_1 = 1) → (pos_1 ≤ (from_1 + 8))) ∧ ((kind_1 = 0) ∨ ((from_1 + 1) ≤ pos_1))) (f45 : 1 * x14 + ((-1) * pos_1 + 0) ≤ 0) (f46 : (1 ≤ fault_1) ∨ ((kind_1 = 0) ∨ ((x14 + 1) ≤ pos_1))) (f47 : (1 ≤ fault_1) ∨ (0 ≤ x15)) (f48 : 1 * x18 + ((-1) * x13 + 0) ≤ 0) (f49 : (-1) * x18 + 0 ≤ 0) (f50 : zOFs (limit_1) (pos_1) (kind_1) (place_1) (value_1) (from_1) (fault_1) (faultPlace_1) (r_1) (tape_1) (all_1) (x15) (x18) (x16) (x17)) (f52 : 1 * x14 + ((-1) * x3 + 0) ≤ 0) (f53 : (-1) * x14 + (1 * x3 + 0) ≤ 0) (f54 : 1 * x15 + ((-1) * x11 + 0) ≤ 0) (f55 : (-1) * x15 + (1 * x11 + 0) ≤ 0) (f56 : 1 * x16 + ((-1) * x1 + 0) ≤ 0) (f57 : (-1) * x16 + (1 * x1 + 0) ≤ 0) (f58 : 1 * x17 + ((-1) * x2 + 0) ≤ 0) (f59 : (-1) * x17 + (1 * x2 + 0) ≤ 0) (f60 : 1 * x8 + ((-1) * x3 + 0) ≤ 0) (f61 : (-1) * x8 + (1 * x3 + 0) ≤ 0) (f62 : 1 * x10 + ((-1) * x2 + 0) ≤ 0) (f63 : (-1) * x10 + (1 * x2 + 0) ≤ 0) (f65 : 1 * x8 + ((-1) * x3 + 0) ≤ 0) (f66 : (-1) * x8 + (1 * x3 + 0) ≤ 0) (f67 : 1 * x10 + ((-1) * x2 + 0) ≤ 0) (f68 : (-1) * x10 + (1 * x2 + 0) ≤ 0) (fe_0_5_1 : r_0 = r_1) (fe_0_8_1 : fault_0 = fault_1) (fe_0_9_1 : faultPlace_0 = faultPlace_1) (fe_0_10_1 : limit_0 = limit_1) (fe_0_11_1 : pos_0 = pos_1) (fe_0_12_1 : kind_0 = kind_1) (fe_0_13_1 : place_0 = place_1) (fe_0_14_1 : value_0 = value_1) (fe_0_15_1 : from_0 = from_1) (hE_0_1_1 : ∀ j : Int, tape_0 j = tape_1 j) (hK_0_1 : ∀ j : Int, 0 ≤ j → j < 2000 → (-128) ≤ tape_0 j ∧ tape_0 j ≤ 127) (hE_0_2_1 : ∀ j : Int, 0 ≤ j → (j = x24 → all_0 j = x18) ∧ (j ≠ x24 → all_0 j = all_1 j)) (hE_0_3_1 : ∀ j : Int, now_0 j = now_1 j) (hK_0_3 : ∀ j : Int, 0 ≤ j → j < 4 → 0 ≤ now_0 j ∧ now_0 j ≤ 30) (hE_0_4_1 : ∀ j : Int, latest_0 j = latest_1 j) (hK_0_4 : ∀ j : Int, 0 ≤ j → j < 4 → 0 ≤ latest_0 j ∧ latest_0 j ≤ 30) (kz_0_8 : 0 ≤ fault_0 ∧ fault_0 ≤ 5) (kz_0_9 : 0 ≤ faultPlace_0 ∧ faultPlace_0 ≤ 2000) (kz_0_10 : 0 ≤ limit_0 ∧ limit_0 ≤ 2000) (kz_0_11 : 0 ≤ pos_0 ∧ pos_0 ≤ 2000) (kz_0_12 : 0 ≤ kind_0 ∧ kind_0 ≤ 4) (kz_0_13 : 0 ≤ place_0 ∧ place_0 ≤ 2000) (kz_0_14 : (-49) ≤ value_0 ∧ value_0 ≤ 1048575) (kz_0_15 : 0 ≤ from_0 ∧ from_0 ≤ 2000) (ex2 : gx = x3) (ex3 : 0 ≤ gx ∧ gx ≤ 2000) (ey2 : gy = x1) (ey3 : 0 ≤ gy ∧ gy ≤ 7) (eu2 : gu = x2) (eu3 : 0 ≤ gu ∧ gu ≤ 4) : ((kind_0 = 1) → (pos_0 ≤ (from_0 + 8))) ∧ ((kind_0 = 0) ∨ ((from_0 + 1) ≤ pos_0)) := by
  subst fe_0_5_1
  subst fe_0_8_1
  subst fe_0_9_1
  subst fe_0_10_1
  subst fe_0_11_1
  subst fe_0_12_1
  subst fe_0_13_1
  subst fe_0_14_1
  subst fe_0_15_1
  have e_hE_0_1_1 := funext hE_0_1_1; subst e_hE_0_1_1
  have e_hE_0_3_1 := funext hE_0_3_1; subst e_hE_0_3_1
  have e_hE_0_4_1 := funext hE_0_4_1; subst e_hE_0_4_1
  first
    | omega
    | (have q1 := (hE_0_2_1 (r_0 + 2) (by omega)).2 (by omega)
       have q2 := (hE_0_2_2 (r_0 + 2) (by omega)).2 (by omega)
       omega)
    | (have q1 := (hE_0_2_1 (r_0 + 1) (by omega)).2 (by omega)
       have q2 := (hE_0_2_2 (r_0 + 1) (by omega)).2 (by omega)
       omega)
    | (have q1 := (hE_0_2_1 (r_0 + 2) (by omega)).2 (by omega)
       omega)
    | (have q1 := (hE_0_2_1 (r_0 + 1) (by omega)).2 (by omega)
       omega)
    | (have q1 := (hE_0_2_1 (r_0 + 2) (by omega)).2 (by omega)
       have q2 := (hE_0_2_2 (r_0 + 2) (by omega)).2 (by omega)
       have q3 := (hE_0_2_3 (r_0 + 2) (by omega)).1 (by omega)
       omega)
    | (have q1 := (hE_0_2_1 (r_0 + 2) (by omega)).2 (by omega)
       have q2 := (hE_0_2_2 (r_0 + 2) (by omega)).2 (by omega)
       have q3 := (hE_0_2_3 (r_0 + 2) (by omega)).2 (by omega)
       omega)
set_option maxHeartbeats 4000000 in
theorem vc_Mo_item_at_k3_13_10 (x1 : Int) (x2 : Int) (x3 : Int) (x6 : Int) (x8 : Int) (x10 : Int) (x11 : Int) (x13 : Int) (x14 : Int) (x15 : Int) (x16 : Int) (x17 : Int) (x18 : Int) (x19 : Int) (x21 : Int) (x22 : Int) (x23 : Int) (x24 : Int) (r_0 : Int) (fault_0 : Int) (from_0 : Int) (pos_0 : Int) (kind_0 : Int) (all_1 : Int → Int) (r_1 : Int) (now_1 : Int → Int) (latest_1 : Int → Int) (from_1 : Int) (pos_1 : Int) (kind_1 : Int) (fault_1 : Int) (tape_1 : Int → Int) (limit_1 : Int) (place_1 : Int) (value_1 : Int) (faultPlace_1 : Int) (faultPlace_0 : Int) (limit_0 : Int) (place_0 : Int) (value_0 : Int) (tape_0 : Int → Int) (all_0 : Int → Int) (now_0 : Int → Int) (latest_0 : Int → Int) (gx : Int) (gy : Int) (gu : Int) (k1 : 0 ≤ x1 ∧ x1 ≤ 7) (k2 : 3 ≤ x2 ∧ x2 ≤ 3) (k3 : 0 ≤ x3 ∧ x3 ≤ 2000) (k6 : 0 ≤ x6 ∧ x6 ≤ 2000) (k8 : 0 ≤ x8 ∧ x8 ≤ 2000) (k10 : 0 ≤ x10 ∧ x10 ≤ 4) (k11 : 0 ≤ x11 ∧ x11 ≤ 23) (k13 : 99 ≤ x13 ∧ x13 ≤ 99) (k14 : 0 ≤ x14 ∧ x14 ≤ 2000) (k15 : (-1) ≤ x15 ∧ x15 ≤ 48) (k16 : 0 ≤ x16 ∧ x16 ≤ 7) (k17 : 0 ≤ x17 ∧ x17 ≤ 4) (k18 : 1 ≤ x18 ∧ x18 ≤ 99) (k19 : 0 ≤ x19 ∧ x19 ≤ 0) (k21 : 0 ≤ x21 ∧ x21 ≤ 66297) (k22 : 219 ≤ x22 ∧ x22 ≤ 219) (k23 : 219 ≤ x23 ∧ x23 ≤ 66516) (k24 : 219 ≤ x24 ∧ x24 ≤ 66539) (d0 : x11 + 219 ≤ x24 ∧ x24 ≤ x11 + 66516) (d1 : x23 + 0 ≤ x24 ∧ x24 ≤ x23 + 23) (d2 : x21 + 219 ≤ x24 ∧ x24 ≤ x21 + 242) (d3 : x21 + 219 ≤ x23 ∧ x23 ≤ x21 + 219) (g0 : x21 = r_0) (g2 : x19 = fault_0) (f3 : 1 * x14 + ((-1) * x3 + 0) ≤ 0) (f4 : (-1) * x14 + (1 * x3 + 0) ≤ 0) (f5 : 1 * x15 + ((-1) * x11 + 0) ≤ 0) (f6 : (-1) * x15 + (1 * x11 + 0) ≤ 0) (f7 : 1 * x16 + ((-1) * x1 + 0) ≤ 0) (f8 : (-1) * x16 + (1 * x1 + 0) ≤ 0) (f9 : 1 * x17 + ((-1) * x2 + 0) ≤ 0) (f10 : (-1) * x17 + (1 * x2 + 0) ≤ 0) (f11 : 1 * x8 + ((-1) * x3 + 0) ≤ 0) (f12 : (-1) * x8 + (1 * x3 + 0) ≤ 0) (f13 : 1 * x10 + ((-1) * x2 + 0) ≤ 0) (f14 : (-1) * x10 + (1 * x2 + 0) ≤ 0) (f15 : 1 * x3 + ((-1) * x6 + 0) ≤ 0) (f16 : 1 * from_0 + ((-1) * pos_0 + 0) ≤ 0) (f17 : ((kind_0 = 1) → (pos_0 ≤ (from_0 + 8))) ∧ ((kind_0 = 0) ∨ ((from_0 + 1) ≤ pos_0))) (f18 : 1 * x14 + ((-1) * pos_0 + 0) ≤ 0) (f19 : (1 ≤ fault_0) ∨ ((kind_0 = 0) ∨ ((x14 + 1) ≤ pos_0))) (f20 : (1 ≤ fault_0) ∨ (0 ≤ x15)) (f21 : 1 * x18 + ((-1) * x13 + 0) ≤ 0) (f22 : (-1) * x18 + 0 ≤ 0) (f24 : x24 = x23 + x11) (f25 : x23 = x21 + x22) (f26 : 0 < x18) (f27 : x19 = 0) (f28 : 1 * x14 + ((-1) * x3 + 0) ≤ 0) (f29 : (-1) * x14 + (1 * x3 + 0) ≤ 0) (f30 : 1 * x15 + ((-1) * x11 + 0) ≤ 0) (f31 : (-1) * x15 + (1 * x11 + 0) ≤ 0) (f32 : 1 * x16 + ((-1) * x1 + 0) ≤ 0) (f33 : (-1) * x16 + (1 * x1 + 0) ≤ 0) (f34 : 1 * x17 + ((-1) * x2 + 0) ≤ 0) (f35 : (-1) * x17 + (1 * x2 + 0) ≤ 0) (f36 : 1 * x8 + ((-1) * x3 + 0) ≤ 0) (f37 : (-1) * x8 + (1 * x3 + 0) ≤ 0) (f38 : 1 * x10 + ((-1) * x2 + 0) ≤ 0) (f39 : (-1) * x10 + (1 * x2 + 0) ≤ 0) (f40 : 1 * x3 + ((-1) * x6 + 0) ≤ 0) (f41 : (x1 + 1) ≤ all_1 ((r_1 + 2))) (f42 : RWS (r_1) (all_1) (now_1) (latest_1)) (f43 : 1 * from_1 + ((-1) * pos_1 + 0) ≤ 0) (f44 : ((kind_1 = 1) → (pos_1 ≤ (from_1 + 8))) ∧ ((kind_1 = 0) ∨ ((from_1 + 1) ≤ pos_1))) (f45 : 1 * x14 + ((-1) * pos_1 + 0) ≤ 0) (f46 : (1 ≤ fault_1) ∨ ((kind_1 = 0) ∨ ((x14 + 1) ≤ pos_1))) (f47 : (1 ≤ fault_1) ∨ (0 ≤ x15)) (f48 : 1 * x18 + ((-1) * x13 + 0) ≤ 0) (f49 : (-1) * x18 + 0 ≤ 0) (f50 : zOFs (limit_1) (pos_1) (kind_1) (place_1) (value_1) (from_1) (fault_1) (faultPlace_1) (r_1) (tape_1) (all_1) (x15) (x18) (x16) (x17)) (f52 : 1 * x14 + ((-1) * x3 + 0) ≤ 0) (f53 : (-1) * x14 + (1 * x3 + 0) ≤ 0) (f54 : 1 * x15 + ((-1) * x11 + 0) ≤ 0) (f55 : (-1) * x15 + (1 * x11 + 0) ≤ 0) (f56 : 1 * x16 + ((-1) * x1 + 0) ≤ 0) (f57 : (-1) * x16 + (1 * x1 + 0) ≤ 0) (f58 : 1 * x17 + ((-1) * x2 + 0) ≤ 0) (f59 : (-1) * x17 + (1 * x2 + 0) ≤ 0) (f60 : 1 * x8 + ((-1) * x3 + 0) ≤ 0) (f61 : (-1) * x8 + (1 * x3 + 0) ≤ 0) (f62 : 1 * x10 + ((-1) * x2 + 0) ≤ 0) (f63 : (-1) * x10 + (1 * x2 + 0) ≤ 0) (f65 : 1 * x8 + ((-1) * x3 + 0) ≤ 0) (f66 : (-1) * x8 + (1 * x3 + 0) ≤ 0) (f67 : 1 * x10 + ((-1) * x2 + 0) ≤ 0) (f68 : (-1) * x10 + (1 * x2 + 0) ≤ 0) (fe_0_5_1 : r_0 = r_1) (fe_0_8_1 : fault_0 = fault_1) (fe_0_9_1 : faultPlace_0 = faultPlace_1) (fe_0_10_1 : limit_0 = limit_1) (fe_0_11_1 : pos_0 = pos_1) (fe_0_12_1 : kind_0 = kind_1) (fe_0_13_1 : place_0 = place_1) (fe_0_14_1 : value_0 = value_1) (fe_0_15_1 : from_0 = from_1) (hE_0_1_1 : ∀ j : Int, tape_0 j = tape_1 j) (hK_0_1 : ∀ j : Int, 0 ≤ j → j < 2000 → (-128) ≤ tape_0 j ∧ tape_0 j ≤ 127) (hE_0_2_1 : ∀ j : Int, 0 ≤ j → (j = x24 → all_0 j = x18) ∧ (j ≠ x24 → all_0 j = all_1 j)) (hE_0_3_1 : ∀ j : Int, now_0 j = now_1 j) (hK_0_3 : ∀ j : Int, 0 ≤ j → j < 4 → 0 ≤ now_0 j ∧ now_0 j ≤ 30) (hE_0_4_1 : ∀ j : Int, latest_0 j = latest_1 j) (hK_0_4 : ∀ j : Int, 0 ≤ j → j < 4 → 0 ≤ latest_0 j ∧ latest_0 j ≤ 30) (kz_0_8 : 0 ≤ fault_0 ∧ fault_0 ≤ 5) (kz_0_9 : 0 ≤ faultPlace_0 ∧ faultPlace_0 ≤ 2000) (kz_0_10 : 0 ≤ limit_0 ∧ limit_0 ≤ 2000) (kz_0_11 : 0 ≤ pos_0 ∧ pos_0 ≤ 2000) (kz_0_12 : 0 ≤ kind_0 ∧ kind_0 ≤ 4) (kz_0_13 : 0 ≤ place_0 ∧ place_0 ≤ 2000) (kz_0_14 : (-49) ≤ value_0 ∧ value_0 ≤ 1048575) (kz_0_15 : 0 ≤ from_0 ∧ from_0 ≤ 2000) (ex2 : gx = x3) (ex3 : 0 ≤ gx ∧ gx ≤ 2000) (ey2 : gy = x1) (ey3 : 0 ≤ gy ∧ gy ≤ 7) (eu2 : gu = x2) (eu3 : 0 ≤ gu ∧ gu ≤ 4) : 1 * gx + ((-1) * pos_0 + 0) ≤ 0 := by
  subst fe_0_5_1
  subst fe_0_8_1
  subst fe_0_9_1
  subst fe_0_10_1
  subst fe_0_11_1
  subst fe_0_12_1
  subst fe_0_13_1
  subst fe_0_14_1
  subst fe_0_15_1
  have e_hE_0_1_1 := funext hE_0_1_1; subst e_hE_0_1_1
  have e_hE_0_3_1 := funext hE_0_3_1; subst e_hE_0_3_1
  have e_hE_0_4_1 := funext hE_0_4_1; subst e_hE_0_4_1
  first
    | omega
    | (have q1 := (hE_0_2_1 (r_0 + 2) (by omega)).2 (by omega)
       have q2 := (hE_0_2_2 (r_0 + 2) (by omega)).2 (by omega)
       omega)
    | (have q1 := (hE_0_2_1 (r_0 + 1) (by omega)).2 (by omega)
       have q2 := (hE_0_2_2 (r_0 + 1) (by omega)).2 (by omega)
       omega)
    | (have q1 := (hE_0_2_1 (r_0 + 2) (by omega)).2 (by omega)
       omega)
    | (have q1 := (hE_0_2_1 (r_0 + 1) (by omega)).2 (by omega)
       omega)
    | (have q1 := (hE_0_2_1 (r_0 + 2) (by omega)).2 (by omega)
       have q2 := (hE_0_2_2 (r_0 + 2) (by omega)).2 (by omega)
       have q3 := (hE_0_2_3 (r_0 + 2) (by omega)).1 (by omega)
       omega)
    | (have q1 := (hE_0_2_1 (r_0 + 2) (by omega)).2 (by omega)
       have q2 := (hE_0_2_2 (r_0 + 2) (by omega)).2 (by omega)
       have q3 := (hE_0_2_3 (r_0 + 2) (by omega)).2 (by omega)
       omega)
set_option maxHeartbeats 4000000 in
theorem vc_Mo_item_at_k3_13_11 (x1 : Int) (x2 : Int) (x3 : Int) (x6 : Int) (x8 : Int) (x10 : Int) (x11 : Int) (x13 : Int) (x14 : Int) (x15 : Int) (x16 : Int) (x17 : Int) (x18 : Int) (x19 : Int) (x21 : Int) (x22 : Int) (x23 : Int) (x24 : Int) (r_0 : Int) (fault_0 : Int) (from_0 : Int) (pos_0 : Int) (kind_0 : Int) (all_1 : Int → Int) (r_1 : Int) (now_1 : Int → Int) (latest_1 : Int → Int) (from_1 : Int) (pos_1 : Int) (kind_1 : Int) (fault_1 : Int) (tape_1 : Int → Int) (limit_1 : Int) (place_1 : Int) (value_1 : Int) (faultPlace_1 : Int) (faultPlace_0 : Int) (limit_0 : Int) (place_0 : Int) (value_0 : Int) (tape_0 : Int → Int) (all_0 : Int → Int) (now_0 : Int → Int) (latest_0 : Int → Int) (gx : Int) (gy : Int) (gu : Int) (k1 : 0 ≤ x1 ∧ x1 ≤ 7) (k2 : 3 ≤ x2 ∧ x2 ≤ 3) (k3 : 0 ≤ x3 ∧ x3 ≤ 2000) (k6 : 0 ≤ x6 ∧ x6 ≤ 2000) (k8 : 0 ≤ x8 ∧ x8 ≤ 2000) (k10 : 0 ≤ x10 ∧ x10 ≤ 4) (k11 : 0 ≤ x11 ∧ x11 ≤ 23) (k13 : 99 ≤ x13 ∧ x13 ≤ 99) (k14 : 0 ≤ x14 ∧ x14 ≤ 2000) (k15 : (-1) ≤ x15 ∧ x15 ≤ 48) (k16 : 0 ≤ x16 ∧ x16 ≤ 7) (k17 : 0 ≤ x17 ∧ x17 ≤ 4) (k18 : 1 ≤ x18 ∧ x18 ≤ 99) (k19 : 0 ≤ x19 ∧ x19 ≤ 0) (k21 : 0 ≤ x21 ∧ x21 ≤ 66297) (k22 : 219 ≤ x22 ∧ x22 ≤ 219) (k23 : 219 ≤ x23 ∧ x23 ≤ 66516) (k24 : 219 ≤ x24 ∧ x24 ≤ 66539) (d0 : x11 + 219 ≤ x24 ∧ x24 ≤ x11 + 66516) (d1 : x23 + 0 ≤ x24 ∧ x24 ≤ x23 + 23) (d2 : x21 + 219 ≤ x24 ∧ x24 ≤ x21 + 242) (d3 : x21 + 219 ≤ x23 ∧ x23 ≤ x21 + 219) (g0 : x21 = r_0) (g2 : x19 = fault_0) (f3 : 1 * x14 + ((-1) * x3 + 0) ≤ 0) (f4 : (-1) * x14 + (1 * x3 + 0) ≤ 0) (f5 : 1 * x15 + ((-1) * x11 + 0) ≤ 0) (f6 : (-1) * x15 + (1 * x11 + 0) ≤ 0) (f7 : 1 * x16 + ((-1) * x1 + 0) ≤ 0) (f8 : (-1) * x16 + (1 * x1 + 0) ≤ 0) (f9 : 1 * x17 + ((-1) * x2 + 0) ≤ 0) (f10 : (-1) * x17 + (1 * x2 + 0) ≤ 0) (f11 : 1 * x8 + ((-1) * x3 + 0) ≤ 0) (f12 : (-1) * x8 + (1 * x3 + 0) ≤ 0) (f13 : 1 * x10 + ((-1) * x2 + 0) ≤ 0) (f14 : (-1) * x10 + (1 * x2 + 0) ≤ 0) (f15 : 1 * x3 + ((-1) * x6 + 0) ≤ 0) (f16 : 1 * from_0 + ((-1) * pos_0 + 0) ≤ 0) (f17 : ((kind_0 = 1) → (pos_0 ≤ (from_0 + 8))) ∧ ((kind_0 = 0) ∨ ((from_0 + 1) ≤ pos_0))) (f18 : 1 * x14 + ((-1) * pos_0 + 0) ≤ 0) (f19 : (1 ≤ fault_0) ∨ ((kind_0 = 0) ∨ ((x14 + 1) ≤ pos_0))) (f20 : (1 ≤ fault_0) ∨ (0 ≤ x15)) (f21 : 1 * x18 + ((-1) * x13 + 0) ≤ 0) (f22 : (-1) * x18 + 0 ≤ 0) (f24 : x24 = x23 + x11) (f25 : x23 = x21 + x22) (f26 : 0 < x18) (f27 : x19 = 0) (f28 : 1 * x14 + ((-1) * x3 + 0) ≤ 0) (f29 : (-1) * x14 + (1 * x3 + 0) ≤ 0) (f30 : 1 * x15 + ((-1) * x11 + 0) ≤ 0) (f31 : (-1) * x15 + (1 * x11 + 0) ≤ 0) (f32 : 1 * x16 + ((-1) * x1 + 0) ≤ 0) (f33 : (-1) * x16 + (1 * x1 + 0) ≤ 0) (f34 : 1 * x17 + ((-1) * x2 + 0) ≤ 0) (f35 : (-1) * x17 + (1 * x2 + 0) ≤ 0) (f36 : 1 * x8 + ((-1) * x3 + 0) ≤ 0) (f37 : (-1) * x8 + (1 * x3 + 0) ≤ 0) (f38 : 1 * x10 + ((-1) * x2 + 0) ≤ 0) (f39 : (-1) * x10 + (1 * x2 + 0) ≤ 0) (f40 : 1 * x3 + ((-1) * x6 + 0) ≤ 0) (f41 : (x1 + 1) ≤ all_1 ((r_1 + 2))) (f42 : RWS (r_1) (all_1) (now_1) (latest_1)) (f43 : 1 * from_1 + ((-1) * pos_1 + 0) ≤ 0) (f44 : ((kind_1 = 1) → (pos_1 ≤ (from_1 + 8))) ∧ ((kind_1 = 0) ∨ ((from_1 + 1) ≤ pos_1))) (f45 : 1 * x14 + ((-1) * pos_1 + 0) ≤ 0) (f46 : (1 ≤ fault_1) ∨ ((kind_1 = 0) ∨ ((x14 + 1) ≤ pos_1))) (f47 : (1 ≤ fault_1) ∨ (0 ≤ x15)) (f48 : 1 * x18 + ((-1) * x13 + 0) ≤ 0) (f49 : (-1) * x18 + 0 ≤ 0) (f50 : zOFs (limit_1) (pos_1) (kind_1) (place_1) (value_1) (from_1) (fault_1) (faultPlace_1) (r_1) (tape_1) (all_1) (x15) (x18) (x16) (x17)) (f52 : 1 * x14 + ((-1) * x3 + 0) ≤ 0) (f53 : (-1) * x14 + (1 * x3 + 0) ≤ 0) (f54 : 1 * x15 + ((-1) * x11 + 0) ≤ 0) (f55 : (-1) * x15 + (1 * x11 + 0) ≤ 0) (f56 : 1 * x16 + ((-1) * x1 + 0) ≤ 0) (f57 : (-1) * x16 + (1 * x1 + 0) ≤ 0) (f58 : 1 * x17 + ((-1) * x2 + 0) ≤ 0) (f59 : (-1) * x17 + (1 * x2 + 0) ≤ 0) (f60 : 1 * x8 + ((-1) * x3 + 0) ≤ 0) (f61 : (-1) * x8 + (1 * x3 + 0) ≤ 0) (f62 : 1 * x10 + ((-1) * x2 + 0) ≤ 0) (f63 : (-1) * x10 + (1 * x2 + 0) ≤ 0) (f65 : 1 * x8 + ((-1) * x3 + 0) ≤ 0) (f66 : (-1) * x8 + (1 * x3 + 0) ≤ 0) (f67 : 1 * x10 + ((-1) * x2 + 0) ≤ 0) (f68 : (-1) * x10 + (1 * x2 + 0) ≤ 0) (fe_0_5_1 : r_0 = r_1) (fe_0_8_1 : fault_0 = fault_1) (fe_0_9_1 : faultPlace_0 = faultPlace_1) (fe_0_10_1 : limit_0 = limit_1) (fe_0_11_1 : pos_0 = pos_1) (fe_0_12_1 : kind_0 = kind_1) (fe_0_13_1 : place_0 = place_1) (fe_0_14_1 : value_0 = value_1) (fe_0_15_1 : from_0 = from_1) (hE_0_1_1 : ∀ j : Int, tape_0 j = tape_1 j) (hK_0_1 : ∀ j : Int, 0 ≤ j → j < 2000 → (-128) ≤ tape_0 j ∧ tape_0 j ≤ 127) (hE_0_2_1 : ∀ j : Int, 0 ≤ j → (j = x24 → all_0 j = x18) ∧ (j ≠ x24 → all_0 j = all_1 j)) (hE_0_3_1 : ∀ j : Int, now_0 j = now_1 j) (hK_0_3 : ∀ j : Int, 0 ≤ j → j < 4 → 0 ≤ now_0 j ∧ now_0 j ≤ 30) (hE_0_4_1 : ∀ j : Int, latest_0 j = latest_1 j) (hK_0_4 : ∀ j : Int, 0 ≤ j → j < 4 → 0 ≤ latest_0 j ∧ latest_0 j ≤ 30) (kz_0_8 : 0 ≤ fault_0 ∧ fault_0 ≤ 5) (kz_0_9 : 0 ≤ faultPlace_0 ∧ faultPlace_0 ≤ 2000) (kz_0_10 : 0 ≤ limit_0 ∧ limit_0 ≤ 2000) (kz_0_11 : 0 ≤ pos_0 ∧ pos_0 ≤ 2000) (kz_0_12 : 0 ≤ kind_0 ∧ kind_0 ≤ 4) (kz_0_13 : 0 ≤ place_0 ∧ place_0 ≤ 2000) (kz_0_14 : (-49) ≤ value_0 ∧ value_0 ≤ 1048575) (kz_0_15 : 0 ≤ from_0 ∧ from_0 ≤ 2000) (ex2 : gx = x3) (ex3 : 0 ≤ gx ∧ gx ≤ 2000) (ey2 : gy = x1) (ey3 : 0 ≤ gy ∧ gy ≤ 7) (eu2 : gu = x2) (eu3 : 0 ≤ gu ∧ gu ≤ 4) : (1 ≤ fault_0) ∨ ((kind_0 = 0) ∨ ((gx + 1) ≤ pos_0)) := by
  subst fe_0_5_1
  subst fe_0_8_1
  subst fe_0_9_1
  subst fe_0_10_1
  subst fe_0_11_1
  subst fe_0_12_1
  subst fe_0_13_1
  subst fe_0_14_1
  subst fe_0_15_1
  have e_hE_0_1_1 := funext hE_0_1_1; subst e_hE_0_1_1
  have e_hE_0_3_1 := funext hE_0_3_1; subst e_hE_0_3_1
  have e_hE_0_4_1 := funext hE_0_4_1; subst e_hE_0_4_1
  first
    | omega
    | (have q1 := (hE_0_2_1 (r_0 + 2) (by omega)).2 (by omega)
       have q2 := (hE_0_2_2 (r_0 + 2) (by omega)).2 (by omega)
       omega)
    | (have q1 := (hE_0_2_1 (r_0 + 1) (by omega)).2 (by omega)
       have q2 := (hE_0_2_2 (r_0 + 1) (by omega)).2 (by omega)
       omega)
    | (have q1 := (hE_0_2_1 (r_0 + 2) (by omega)).2 (by omega)
       omega)
    | (have q1 := (hE_0_2_1 (r_0 + 1) (by omega)).2 (by omega)
       omega)
    | (have q1 := (hE_0_2_1 (r_0 + 2) (by omega)).2 (by omega)
       have q2 := (hE_0_2_2 (r_0 + 2) (by omega)).2 (by omega)
       have q3 := (hE_0_2_3 (r_0 + 2) (by omega)).1 (by omega)
       omega)
    | (have q1 := (hE_0_2_1 (r_0 + 2) (by omega)).2 (by omega)
       have q2 := (hE_0_2_2 (r_0 + 2) (by omega)).2 (by omega)
       have q3 := (hE_0_2_3 (r_0 + 2) (by omega)).2 (by omega)
       omega)
set_option maxHeartbeats 4000000 in
theorem vc_Mo_item_at_k3_13_12 (x1 : Int) (x2 : Int) (x3 : Int) (x6 : Int) (x8 : Int) (x10 : Int) (x11 : Int) (x13 : Int) (x14 : Int) (x15 : Int) (x16 : Int) (x17 : Int) (x18 : Int) (x19 : Int) (x21 : Int) (x22 : Int) (x23 : Int) (x24 : Int) (r_0 : Int) (fault_0 : Int) (from_0 : Int) (pos_0 : Int) (kind_0 : Int) (all_1 : Int → Int) (r_1 : Int) (now_1 : Int → Int) (latest_1 : Int → Int) (from_1 : Int) (pos_1 : Int) (kind_1 : Int) (fault_1 : Int) (tape_1 : Int → Int) (limit_1 : Int) (place_1 : Int) (value_1 : Int) (faultPlace_1 : Int) (faultPlace_0 : Int) (limit_0 : Int) (place_0 : Int) (value_0 : Int) (tape_0 : Int → Int) (all_0 : Int → Int) (now_0 : Int → Int) (latest_0 : Int → Int) (gx : Int) (gy : Int) (gu : Int) (k1 : 0 ≤ x1 ∧ x1 ≤ 7) (k2 : 3 ≤ x2 ∧ x2 ≤ 3) (k3 : 0 ≤ x3 ∧ x3 ≤ 2000) (k6 : 0 ≤ x6 ∧ x6 ≤ 2000) (k8 : 0 ≤ x8 ∧ x8 ≤ 2000) (k10 : 0 ≤ x10 ∧ x10 ≤ 4) (k11 : 0 ≤ x11 ∧ x11 ≤ 23) (k13 : 99 ≤ x13 ∧ x13 ≤ 99) (k14 : 0 ≤ x14 ∧ x14 ≤ 2000) (k15 : (-1) ≤ x15 ∧ x15 ≤ 48) (k16 : 0 ≤ x16 ∧ x16 ≤ 7) (k17 : 0 ≤ x17 ∧ x17 ≤ 4) (k18 : 1 ≤ x18 ∧ x18 ≤ 99) (k19 : 0 ≤ x19 ∧ x19 ≤ 0) (k21 : 0 ≤ x21 ∧ x21 ≤ 66297) (k22 : 219 ≤ x22 ∧ x22 ≤ 219) (k23 : 219 ≤ x23 ∧ x23 ≤ 66516) (k24 : 219 ≤ x24 ∧ x24 ≤ 66539) (d0 : x11 + 219 ≤ x24 ∧ x24 ≤ x11 + 66516) (d1 : x23 + 0 ≤ x24 ∧ x24 ≤ x23 + 23) (d2 : x21 + 219 ≤ x24 ∧ x24 ≤ x21 + 242) (d3 : x21 + 219 ≤ x23 ∧ x23 ≤ x21 + 219) (g0 : x21 = r_0) (g2 : x19 = fault_0) (f3 : 1 * x14 + ((-1) * x3 + 0) ≤ 0) (f4 : (-1) * x14 + (1 * x3 + 0) ≤ 0) (f5 : 1 * x15 + ((-1) * x11 + 0) ≤ 0) (f6 : (-1) * x15 + (1 * x11 + 0) ≤ 0) (f7 : 1 * x16 + ((-1) * x1 + 0) ≤ 0) (f8 : (-1) * x16 + (1 * x1 + 0) ≤ 0) (f9 : 1 * x17 + ((-1) * x2 + 0) ≤ 0) (f10 : (-1) * x17 + (1 * x2 + 0) ≤ 0) (f11 : 1 * x8 + ((-1) * x3 + 0) ≤ 0) (f12 : (-1) * x8 + (1 * x3 + 0) ≤ 0) (f13 : 1 * x10 + ((-1) * x2 + 0) ≤ 0) (f14 : (-1) * x10 + (1 * x2 + 0) ≤ 0) (f15 : 1 * x3 + ((-1) * x6 + 0) ≤ 0) (f16 : 1 * from_0 + ((-1) * pos_0 + 0) ≤ 0) (f17 : ((kind_0 = 1) → (pos_0 ≤ (from_0 + 8))) ∧ ((kind_0 = 0) ∨ ((from_0 + 1) ≤ pos_0))) (f18 : 1 * x14 + ((-1) * pos_0 + 0) ≤ 0) (f19 : (1 ≤ fault_0) ∨ ((kind_0 = 0) ∨ ((x14 + 1) ≤ pos_0))) (f20 : (1 ≤ fault_0) ∨ (0 ≤ x15)) (f21 : 1 * x18 + ((-1) * x13 + 0) ≤ 0) (f22 : (-1) * x18 + 0 ≤ 0) (f24 : x24 = x23 + x11) (f25 : x23 = x21 + x22) (f26 : 0 < x18) (f27 : x19 = 0) (f28 : 1 * x14 + ((-1) * x3 + 0) ≤ 0) (f29 : (-1) * x14 + (1 * x3 + 0) ≤ 0) (f30 : 1 * x15 + ((-1) * x11 + 0) ≤ 0) (f31 : (-1) * x15 + (1 * x11 + 0) ≤ 0) (f32 : 1 * x16 + ((-1) * x1 + 0) ≤ 0) (f33 : (-1) * x16 + (1 * x1 + 0) ≤ 0) (f34 : 1 * x17 + ((-1) * x2 + 0) ≤ 0) (f35 : (-1) * x17 + (1 * x2 + 0) ≤ 0) (f36 : 1 * x8 + ((-1) * x3 + 0) ≤ 0) (f37 : (-1) * x8 + (1 * x3 + 0) ≤ 0) (f38 : 1 * x10 + ((-1) * x2 + 0) ≤ 0) (f39 : (-1) * x10 + (1 * x2 + 0) ≤ 0) (f40 : 1 * x3 + ((-1) * x6 + 0) ≤ 0) (f41 : (x1 + 1) ≤ all_1 ((r_1 + 2))) (f42 : RWS (r_1) (all_1) (now_1) (latest_1)) (f43 : 1 * from_1 + ((-1) * pos_1 + 0) ≤ 0) (f44 : ((kind_1 = 1) → (pos_1 ≤ (from_1 + 8))) ∧ ((kind_1 = 0) ∨ ((from_1 + 1) ≤ pos_1))) (f45 : 1 * x14 + ((-1) * pos_1 + 0) ≤ 0) (f46 : (1 ≤ fault_1) ∨ ((kind_1 = 0) ∨ ((x14 + 1) ≤ pos_1))) (f47 : (1 ≤ fault_1) ∨ (0 ≤ x15)) (f48 : 1 * x18 + ((-1) * x13 + 0) ≤ 0) (f49 : (-1) * x18 + 0 ≤ 0) (f50 : zOFs (limit_1) (pos_1) (kind_1) (place_1) (value_1) (from_1) (fault_1) (faultPlace_1) (r_1) (tape_1) (all_1) (x15) (x18) (x16) (x17)) (f52 : 1 * x14 + ((-1) * x3 + 0) ≤ 0) (f53 : (-1) * x14 + (1 * x3 + 0) ≤ 0) (f54 : 1 * x15 + ((-1) * x11 + 0) ≤ 0) (f55 : (-1) * x15 + (1 * x11 + 0) ≤ 0) (f56 : 1 * x16 + ((-1) * x1 + 0) ≤ 0) (f57 : (-1) * x16 + (1 * x1 + 0) ≤ 0) (f58 : 1 * x17 + ((-1) * x2 + 0) ≤ 0) (f59 : (-1) * x17 + (1 * x2 + 0) ≤ 0) (f60 : 1 * x8 + ((-1) * x3 + 0) ≤ 0) (f61 : (-1) * x8 + (1 * x3 + 0) ≤ 0) (f62 : 1 * x10 + ((-1) * x2 + 0) ≤ 0) (f63 : (-1) * x10 + (1 * x2 + 0) ≤ 0) (f65 : 1 * x8 + ((-1) * x3 + 0) ≤ 0) (f66 : (-1) * x8 + (1 * x3 + 0) ≤ 0) (f67 : 1 * x10 + ((-1) * x2 + 0) ≤ 0) (f68 : (-1) * x10 + (1 * x2 + 0) ≤ 0) (fe_0_5_1 : r_0 = r_1) (fe_0_8_1 : fault_0 = fault_1) (fe_0_9_1 : faultPlace_0 = faultPlace_1) (fe_0_10_1 : limit_0 = limit_1) (fe_0_11_1 : pos_0 = pos_1) (fe_0_12_1 : kind_0 = kind_1) (fe_0_13_1 : place_0 = place_1) (fe_0_14_1 : value_0 = value_1) (fe_0_15_1 : from_0 = from_1) (hE_0_1_1 : ∀ j : Int, tape_0 j = tape_1 j) (hK_0_1 : ∀ j : Int, 0 ≤ j → j < 2000 → (-128) ≤ tape_0 j ∧ tape_0 j ≤ 127) (hE_0_2_1 : ∀ j : Int, 0 ≤ j → (j = x24 → all_0 j = x18) ∧ (j ≠ x24 → all_0 j = all_1 j)) (hE_0_3_1 : ∀ j : Int, now_0 j = now_1 j) (hK_0_3 : ∀ j : Int, 0 ≤ j → j < 4 → 0 ≤ now_0 j ∧ now_0 j ≤ 30) (hE_0_4_1 : ∀ j : Int, latest_0 j = latest_1 j) (hK_0_4 : ∀ j : Int, 0 ≤ j → j < 4 → 0 ≤ latest_0 j ∧ latest_0 j ≤ 30) (kz_0_8 : 0 ≤ fault_0 ∧ fault_0 ≤ 5) (kz_0_9 : 0 ≤ faultPlace_0 ∧ faultPlace_0 ≤ 2000) (kz_0_10 : 0 ≤ limit_0 ∧ limit_0 ≤ 2000) (kz_0_11 : 0 ≤ pos_0 ∧ pos_0 ≤ 2000) (kz_0_12 : 0 ≤ kind_0 ∧ kind_0 ≤ 4) (kz_0_13 : 0 ≤ place_0 ∧ place_0 ≤ 2000) (kz_0_14 : (-49) ≤ value_0 ∧ value_0 ≤ 1048575) (kz_0_15 : 0 ≤ from_0 ∧ from_0 ≤ 2000) (ex2 : gx = x3) (ex3 : 0 ≤ gx ∧ gx ≤ 2000) (ey2 : gy = x1) (ey3 : 0 ≤ gy ∧ gy ≤ 7) (eu2 : gu = x2) (eu3 : 0 ≤ gu ∧ gu ≤ 4) : zONs (limit_0) (pos_0) (kind_0) (place_0) (value_0) (from_0) (fault_0) (faultPlace_0) (r_0) (tape_0) (all_0) (gy) (gu) := by
  subst fe_0_5_1
  subst fe_0_8_1
  subst fe_0_9_1
  subst fe_0_10_1
  subst fe_0_11_1
  subst fe_0_12_1
  subst fe_0_13_1
  subst fe_0_14_1
  subst fe_0_15_1
  have e_hE_0_1_1 := funext hE_0_1_1; subst e_hE_0_1_1
  have e_hE_0_3_1 := funext hE_0_3_1; subst e_hE_0_3_1
  have e_hE_0_4_1 := funext hE_0_4_1; subst e_hE_0_4_1
  first | (have el_x14 : x14 = x3 := by omega); subst el_x14 | skip
  first | (have el_x15 : x15 = x11 := by omega); subst el_x15 | skip
  first | (have el_x16 : x16 = x1 := by omega); subst el_x16 | skip
  first | (have el_x17 : x17 = x2 := by omega); subst el_x17 | skip
  first | (have el_x8 : x8 = x3 := by omega); subst el_x8 | skip
  first | (have el_x10 : x10 = x2 := by omega); subst el_x10 | skip
  first | subst g0 | skip
  first | subst g2 | skip
  first | subst ex2 | skip
  first | subst ey2 | skip
  first | subst eu2 | skip
  first
    | exact it_nosize ‹zOFs _ _ _ _ _ _ _ _ _ _ _ _ _ _ _› (Or.inl (by omega))
    | exact it_nosize ‹zOFs _ _ _ _ _ _ _ _ _ _ _ _ _ _ _› (Or.inr (by omega))
    | exact it_size ‹zOFs _ _ _ _ _ _ _ _ _ _ _ _ _ _ _› (by omega) (by omega) (by omega) (by omega) (by assumption) (by omega) (by omega)
def o_Mo_item_at_k3_13 : or_T := (64, 26, [(0, (2, 0, 0, [165])), (1, (0, 0, 7, [])), (2, (0, 3, 3, [])), (3, (0, 0, 2000, [])), (6, (0, 0, 2000, [])), (8, (0, 0, 2000, [])), (10, (0, 0, 4, [])), (11, (0, 0, 23, [])), (13, (0, 99, 99, [])), (14, (0, 0, 2000, [])), (15, (0, -1, 48, [])), (16, (0, 0, 7, [])), (17, (0, 0, 4, [])), (18, (0, 1, 99, [])), (19, (0, 0, 0, [])), (20, (2, 0, 0, [167])), (21, (0, 0, 66297, [])), (22, (0, 219, 219, [])), (23, (0, 219, 66516, [])), (24, (0, 219, 66539, []))], [(9, [21, 0], [5]), (9, [20, 0], [2]), (9, [19, 0], [8]), (23, [14, 3], [0, 1, -1]), (23, [14, 3], [0, -1, 1]), (23, [15, 11], [0, 1, -1]), (23, [15, 11], [0, -1, 1]), (23, [16, 1], [0, 1, -1]), (23, [16, 1], [0, -1, 1]), (23, [17, 2], [0, 1, -1]), (23, [17, 2], [0, -1, 1]), (23, [8, 3], [0, 1, -1]), (23, [8, 3], [0, -1, 1]), (23, [10, 2], [0, 1, -1]), (23, [10, 2], [0, -1, 1]), (20, [3, 6], [30, 0, 1, 0, 0, -1, 0, 0]), (20, [0, 0], [30, 0, 1, 1, 15, -1, 1, 11]), (20, [0], [50, 3, 0, 12, 11, 15, 2, 21, 4, 7, 1, 3, 2, 0, 12, 0, 1, 0, 3, 2, 0, 11, 4, 3, 2, 0, 15, 0, 8, 3, 7, 1, 3, 2, 0, 12, 0, 0, 0, 7, 4, 3, 2, 0, 15, 0, 1, 2, 0, 11]), (20, [14, 0], [30, 0, 1, 0, 0, -1, 1, 11]), (20, [0, 14], [50, 3, 0, 8, 12, 11, 3, 7, 0, 2, 0, 1, 2, 0, 8, 3, 7, 1, 3, 2, 0, 12, 0, 0, 0, 6, 4, 2, 1, 1, 0, 1, 2, 0, 11]), (20, [0, 15], [50, 1, 0, 8, 3, 7, 0, 2, 0, 1, 2, 0, 8, 0, 2, 0, 0, 1, 1]), (20, [18, 13], [30, 0, 1, 0, 0, -1, 0, 0]), (20, [18], [30, 0, -1, 0, 0]), (100, [20, 24, 18], []), (1, [24, 23, 11], []), (1, [23, 21, 22], []), (8, [18], [4]), (8, [19], [0]), (23, [14, 3], [0, 1, -1]), (23, [14, 3], [0, -1, 1]), (23, [15, 11], [0, 1, -1]), (23, [15, 11], [0, -1, 1]), (23, [16, 1], [0, 1, -1]), (23, [16, 1], [0, -1, 1]), (23, [17, 2], [0, 1, -1]), (23, [17, 2], [0, -1, 1]), (23, [8, 3], [0, 1, -1]), (23, [8, 3], [0, -1, 1]), (23, [10, 2], [0, 1, -1]), (23, [10, 2], [0, -1, 1]), (20, [3, 6], [30, 0, 1, 0, 0, -1, 0, 0]), (20, [1, 0], [50, 1, 1, 1005, 1002, 0, 6, 4, 2, 1, 0, 0, 1, 3, 1, 2, 4, 3, 2, 1, 5, 0, 2]), (20, [0], [60, 1, 3, 199, 5, 2, 3, 4]), (20, [0, 0], [30, 0, 1, 1, 15, -1, 1, 11]), (20, [0], [50, 3, 0, 12, 11, 15, 2, 21, 4, 7, 1, 3, 2, 0, 12, 0, 1, 0, 3, 2, 0, 11, 4, 3, 2, 0, 15, 0, 8, 3, 7, 1, 3, 2, 0, 12, 0, 0, 0, 7, 4, 3, 2, 0, 15, 0, 1, 2, 0, 11]), (20, [14, 0], [30, 0, 1, 0, 0, -1, 1, 11]), (20, [0, 14], [50, 3, 0, 8, 12, 11, 3, 7, 0, 2, 0, 1, 2, 0, 8, 3, 7, 1, 3, 2, 0, 12, 0, 0, 0, 6, 4, 2, 1, 1, 0, 1, 2, 0, 11]), (20, [0, 15], [50, 1, 0, 8, 3, 7, 0, 2, 0, 1, 2, 0, 8, 0, 2, 0, 0, 1, 1]), (20, [18, 13], [30, 0, 1, 0, 0, -1, 0, 0]), (20, [18], [30, 0, -1, 0, 0]), (20, [0, 15, 18, 16, 17], [60, 9, 2, 1013, 10, 11, 12, 13, 14, 15, 8, 9, 5, 1, 2]), (102, [17], [0, 165008, 165009, 165011, 165012, 165013, 165014, 165015]), (23, [14, 3], [0, 1, -1]), (23, [14, 3], [0, -1, 1]), (23, [15, 11], [0, 1, -1]), (23, [15, 11], [0, -1, 1]), (23, [16, 1], [0, 1, -1]), (23, [16, 1], [0, -1, 1]), (23, [17, 2], [0, 1, -1]), (23, [17, 2], [0, -1, 1]), (23, [8, 3], [0, 1, -1]), (23, [8, 3], [0, -1, 1]), (23, [10, 2], [0, 1, -1]), (23, [10, 2], [0, -1, 1]), (102, [10], [187072209578355573530071658587684226515959365500928, 165008, 165009, 165011, 165012, 165013, 165014, 165015]), (23, [8, 3], [0, 1, -1]), (23, [8, 3], [0, -1, 1]), (23, [10, 2], [0, 1, -1]), (23, [10, 2], [0, -1, 1])], [], [(0, 0, 2000, []), (0, 0, 7, []), (0, 0, 4, [])], [(20, [1, 0], [50, 1, 1, 1005, 1002, 0, 6, 4, 2, 1, 0, 0, 1, 3, 1, 2, 4, 3, 2, 1, 5, 0, 2]), (20, [0], [60, 1, 3, 199, 5, 2, 3, 4]), (23, [26, 3], [0, 1, -1]), (23, [26, 3], [0, -1, 1]), (23, [27, 1], [0, 1, -1]), (23, [27, 1], [0, -1, 1]), (23, [28, 2], [0, 1, -1]), (23, [28, 2], [0, -1, 1]), (20, [0, 0], [30, 0, 1, 1, 15, -1, 1, 11]), (20, [0], [50, 3, 0, 12, 11, 15, 2, 21, 4, 7, 1, 3, 2, 0, 12, 0, 1, 0, 3, 2, 0, 11, 4, 3, 2, 0, 15, 0, 8, 3, 7, 1, 3, 2, 0, 12, 0, 0, 0, 7, 4, 3, 2, 0, 15, 0, 1, 2, 0, 11]), (20, [26, 0], [30, 0, 1, 0, 0, -1, 1, 11]), (20, [0, 26], [50, 3, 0, 8, 12, 11, 3, 7, 0, 2, 0, 1, 2, 0, 8, 3, 7, 1, 3, 2, 0, 12, 0, 0, 0, 6, 4, 2, 1, 1, 0, 1, 2, 0, 11]), (20, [0, 27, 28], [60, 9, 2, 1018, 10, 11, 12, 13, 14, 15, 8, 9, 5, 1, 2])], [], [(24, 11, 219, 66516), (24, 23, 0, 23), (24, 21, 219, 242), (23, 21, 219, 219)])
theorem oo_Mo_item_at_k3_13 {kA : Nat → ClassId} : or_ok PRD kA GG o_Mo_item_at_k3_13 := by
  refine or_mk fun A ta ws vs hD hth hl => ?_
  intro t0 r0 t1 k1 t2 k2 t3 k3 t6 k6 t8 k8 t10 k10 t11 k11 t13 k13 t14 k14 t15 k15 t16 k16 t17 k17 t18 k18 t19 k19 t20 r20 t21 k21 t22 k22 t23 k23 t24 k24 d0 d1 d2 d3 f0 f1 f2 f3 f4 f5 f6 f7 f8 f9 f10 f11 f12 f13 f14 f15 f16 f17 f18 f19 f20 f21 f22 ta1 w1 le1 s1 f24 f25 f26 f27 f28 f29 f30 f31 f32 f33 f34 f35 f36 f37 f38 f39 f40 f41 f42 f43 f44 f45 f46 f47 f48 f49 f50 ta2 w2 le2 s2 f52 f53 f54 f55 f56 f57 f58 f59 f60 f61 f62 f63 ta3 w3 le3 s3 f65 f66 f67 f68
  replace f0 := shm_110 f0
  replace f1 := shm_120 f1
  replace f2 := shm_293 f2
  replace f3 := shm_7 f3
  replace f4 := shm_22 f4
  replace f5 := shm_7 f5
  replace f6 := shm_22 f6
  replace f7 := shm_7 f7
  replace f8 := shm_22 f8
  replace f9 := shm_7 f9
  replace f10 := shm_22 f10
  replace f11 := shm_7 f11
  replace f12 := shm_22 f12
  replace f13 := shm_7 f13
  replace f14 := shm_22 f14
  replace f15 := shm_201 f15
  replace f16 := shm_1437 f16
  replace f17 := shm_1438 f17
  replace f18 := shm_1431 f18
  replace f19 := shm_1722 f19
  replace f20 := shm_2000 f20
  replace f21 := shm_201 f21
  replace f22 := shm_2002 f22
  have s1 : (∀ b j, w_el ws b j = if b = v_ad (n_v vs 20) ∧ j = (v_iv (n_v vs 24)).toNat then v_iv (n_v vs 18) else w_el w1 b j) ∧ ∀ b k, w_fd ws b k = w_fd w1 b k := s1.2
  replace f24 := shm_12 f24
  replace f25 := shm_12 f25
  replace f26 := shm_308 f26
  replace f27 := shm_192 f27
  replace f28 := shm_7 f28
  replace f29 := shm_22 f29
  replace f30 := shm_7 f30
  replace f31 := shm_22 f31
  replace f32 := shm_7 f32
  replace f33 := shm_22 f33
  replace f34 := shm_7 f34
  replace f35 := shm_22 f35
  replace f36 := shm_7 f36
  replace f37 := shm_22 f37
  replace f38 := shm_7 f38
  replace f39 := shm_22 f39
  replace f40 := shm_201 f40
  replace f41 := shm_1009 f41
  replace f42 := shm_980 f42
  replace f43 := shm_1437 f43
  replace f44 := shm_1438 f44
  replace f45 := shm_1431 f45
  replace f46 := shm_1722 f46
  replace f47 := shm_2000 f47
  replace f48 := shm_201 f48
  replace f49 := shm_2002 f49
  replace f50 := shm_2003 f50
  replace f52 := shm_7 f52
  replace f53 := shm_22 f53
  replace f54 := shm_7 f54
  replace f55 := shm_22 f55
  replace f56 := shm_7 f56
  replace f57 := shm_22 f57
  replace f58 := shm_7 f58
  replace f59 := shm_22 f59
  replace f60 := shm_7 f60
  replace f61 := shm_22 f61
  replace f62 := shm_7 f62
  replace f63 := shm_22 f63
  replace f65 := shm_7 f65
  replace f66 := shm_22 f66
  replace f67 := shm_7 f67
  replace f68 := shm_22 f68
  have ar_0_1_1 : w_ar w1 (n_v vs 0) 1 = w_ar ws (n_v vs 0) 1 := congrArg v_ad (s1.2 _ _).symm
  have cr_0_1 := fdq_39 hD hth r0
  have ar_0_2_1 : w_ar w1 (n_v vs 0) 2 = w_ar ws (n_v vs 0) 2 := congrArg v_ad (s1.2 _ _).symm
  have cr_0_2 := fdq_10 hD hth r0
  have ar_0_3_1 : w_ar w1 (n_v vs 0) 3 = w_ar ws (n_v vs 0) 3 := congrArg v_ad (s1.2 _ _).symm
  have cr_0_3 := fdq_142 hD hth r0
  have ar_0_4_1 : w_ar w1 (n_v vs 0) 4 = w_ar ws (n_v vs 0) 4 := congrArg v_ad (s1.2 _ _).symm
  have cr_0_4 := fdq_143 hD hth r0
  have ad_20 : v_ad (n_v vs 20) = w_ar ws (n_v vs 0) 2 := congrArg v_ad f1
  have g0 : v_iv (n_v vs 21) = w_fi ws (n_v vs 0) 5 := congrArg v_iv f0
  have g2 : v_iv (n_v vs 19) = w_fi ws (n_v vs 0) 8 := congrArg v_iv f2
  simp only [ar_0_2_1, ar_0_3_1, ar_0_4_1, ar_0_1_1] at f41 f42 f50
  have fe_0_5_1 : w_fi ws (n_v vs 0) 5 = w_fi w1 (n_v vs 0) 5 := congrArg v_iv (s1.2 _ _)
  have fe_0_8_1 : w_fi ws (n_v vs 0) 8 = w_fi w1 (n_v vs 0) 8 := congrArg v_iv (s1.2 _ _)
  have fe_0_9_1 : w_fi ws (n_v vs 0) 9 = w_fi w1 (n_v vs 0) 9 := congrArg v_iv (s1.2 _ _)
  have fe_0_10_1 : w_fi ws (n_v vs 0) 10 = w_fi w1 (n_v vs 0) 10 := congrArg v_iv (s1.2 _ _)
  have fe_0_11_1 : w_fi ws (n_v vs 0) 11 = w_fi w1 (n_v vs 0) 11 := congrArg v_iv (s1.2 _ _)
  have fe_0_12_1 : w_fi ws (n_v vs 0) 12 = w_fi w1 (n_v vs 0) 12 := congrArg v_iv (s1.2 _ _)
  have fe_0_13_1 : w_fi ws (n_v vs 0) 13 = w_fi w1 (n_v vs 0) 13 := congrArg v_iv (s1.2 _ _)
  have fe_0_14_1 : w_fi ws (n_v vs 0) 14 = w_fi w1 (n_v vs 0) 14 := congrArg v_iv (s1.2 _ _)
  have fe_0_15_1 : w_fi ws (n_v vs 0) 15 = w_fi w1 (n_v vs 0) 15 := congrArg v_iv (s1.2 _ _)
  have hE_0_1_1 : ∀ j : Int, w_ei ws (w_ar ws (n_v vs 0) 1) j = w_ei w1 (w_ar ws (n_v vs 0) 1) j := el_kp s1.1 r20 cr_0_1 (by decide)
  have hK_0_1 := elq_7 hD hth cr_0_1
  have hE_0_2_1 : ∀ j : Int, 0 ≤ j → (j = v_iv (n_v vs 24) → w_ei ws (w_ar ws (n_v vs 0) 2) j = v_iv (n_v vs 18)) ∧ (j ≠ v_iv (n_v vs 24) → w_ei ws (w_ar ws (n_v vs 0) 2) j = w_ei w1 (w_ar ws (n_v vs 0) 2) j) := fun j hj => ⟨fun h => by unfold w_ei; rw [s1.1, if_pos ⟨ad_20.symm, by rw [h]⟩], fun h => by unfold w_ei; rw [s1.1, if_neg (fun e => h (by have := e.2; omega))]⟩
  have hE_0_3_1 : ∀ j : Int, w_ei ws (w_ar ws (n_v vs 0) 3) j = w_ei w1 (w_ar ws (n_v vs 0) 3) j := el_kp s1.1 r20 cr_0_3 (by decide)
  have hK_0_3 := elq_80 hD hth cr_0_3
  have hE_0_4_1 : ∀ j : Int, w_ei ws (w_ar ws (n_v vs 0) 4) j = w_ei w1 (w_ar ws (n_v vs 0) 4) j := el_kp s1.1 r20 cr_0_4 (by decide)
  have hK_0_4 := elq_81 hD hth cr_0_4
  have kz_0_8 := fdq_34 hD hth r0
  have kz_0_9 := fdq_44 hD hth r0
  have kz_0_10 := fdq_43 hD hth r0
  have kz_0_11 := fdq_237 hD hth r0
  have kz_0_12 := fdq_187 hD hth r0
  have kz_0_13 := fdq_238 hD hth r0
  have kz_0_14 := fdq_188 hD hth r0
  have kz_0_15 := fdq_239 hD hth r0
  first | have hJ0 : w_ei w1 (w_ar ws (n_v vs 0) 2) ((w_fi w1 (n_v vs 0) 5 + 2)) = w_ei w1 (w_ar ws (n_v vs 0) 2) ((w_fi ws (n_v vs 0) 5 + 2)) := congrArg _ (show ((w_fi w1 (n_v vs 0) 5 + 2) : Int) = (w_fi ws (n_v vs 0) 5 + 2) from by omega) | skip
  first | have hI1 := (hE_0_2_1 ((w_fi ws (n_v vs 0) 5 + 2)) (by omega)).2 (by omega) | have hI1 := (hE_0_2_1 ((w_fi ws (n_v vs 0) 5 + 2)) (by omega)).1 (by omega) | skip
  obtain ⟨x, ex, hx⟩ := iv_ex (ta := ta) (lo := 0) (hi := 2000) (z := v_iv (n_v vs 3)) (by omega) (by omega) (by omega) (by omega)
  have ex2 : v_iv (Value.int x) = v_iv (n_v vs 3) := ex
  have ex3 : 0 ≤ v_iv (Value.int x) ∧ v_iv (Value.int x) ≤ 2000 := tv_rng hx
  obtain ⟨y, ey, hy⟩ := iv_ex (ta := ta) (lo := 0) (hi := 7) (z := v_iv (n_v vs 1)) (by omega) (by omega) (by omega) (by omega)
  have ey2 : v_iv (Value.int y) = v_iv (n_v vs 1) := ey
  have ey3 : 0 ≤ v_iv (Value.int y) ∧ v_iv (Value.int y) ≤ 7 := tv_rng hy
  obtain ⟨u, eu, hu⟩ := iv_ex (ta := ta) (lo := 0) (hi := 4) (z := v_iv (n_v vs 2)) (by omega) (by omega) (by omega) (by omega)
  have eu2 : v_iv (Value.int u) = v_iv (n_v vs 2) := eu
  have eu3 : 0 ≤ v_iv (Value.int u) ∧ v_iv (Value.int u) ≤ 4 := tv_rng hu
  have e_0 : n_v (vs ++ [Value.int x, Value.int y, Value.int u]) 0 = n_v vs 0 := n_v_old (by rw [hl]; decide)
  have e_1 : n_v (vs ++ [Value.int x, Value.int y, Value.int u]) 1 = n_v vs 1 := n_v_old (by rw [hl]; decide)
  have e_2 : n_v (vs ++ [Value.int x, Value.int y, Value.int u]) 2 = n_v vs 2 := n_v_old (by rw [hl]; decide)
  have e_3 : n_v (vs ++ [Value.int x, Value.int y, Value.int u]) 3 = n_v vs 3 := n_v_old (by rw [hl]; decide)
  have e_26 : n_v (vs ++ [Value.int x, Value.int y, Value.int u]) 26 = Value.int x := n_v_newk (k := 0) hl rfl
  have e_27 : n_v (vs ++ [Value.int x, Value.int y, Value.int u]) 27 = Value.int y := n_v_newk (k := 1) hl rfl
  have e_28 : n_v (vs ++ [Value.int x, Value.int y, Value.int u]) 28 = Value.int u := n_v_newk (k := 2) hl rfl
  have nf0 : fc_1 PRD (20, [1, 0], [50, 1, 1, 1005, 1002, 0, 6, 4, 2, 1, 0, 0, 1, 3, 1, 2, 4, 3, 2, 1, 5, 0, 2]) ws (vs ++ [Value.int x, Value.int y, Value.int u]) := by
    refine ⟨nf_inA hl rfl, sgq_1009 ?_⟩
    · show (v_iv (n_v (vs ++ [Value.int x, Value.int y, Value.int u]) 1) + 1) ≤ w_ei ws (w_ar ws (n_v (vs ++ [Value.int x, Value.int y, Value.int u]) 0) 2) ((w_fi ws (n_v (vs ++ [Value.int x, Value.int y, Value.int u]) 0) 5 + 2))
      simp only [e_0, e_1]
      exact vc_Mo_item_at_k3_13_0 (v_iv (n_v vs 1)) (v_iv (n_v vs 11)) (v_iv (n_v vs 15)) (v_iv (n_v vs 16)) (v_iv (n_v vs 18)) (v_iv (n_v vs 21)) (v_iv (n_v vs 23)) (v_iv (n_v vs 24)) (w_fi ws (n_v vs 0) 5) (w_fi ws (n_v vs 0) 8) (w_fi ws (n_v vs 0) 15) (w_fi ws (n_v vs 0) 11) (w_fi ws (n_v vs 0) 12) (w_ei w1 (w_ar ws (n_v vs 0) 2)) (w_fi w1 (n_v vs 0) 5) (w_ei w1 (w_ar ws (n_v vs 0) 3)) (w_ei w1 (w_ar ws (n_v vs 0) 4)) (w_fi w1 (n_v vs 0) 15) (w_fi w1 (n_v vs 0) 11) (w_fi w1 (n_v vs 0) 12) (w_fi w1 (n_v vs 0) 8) (w_ei w1 (w_ar ws (n_v vs 0) 1)) (w_fi w1 (n_v vs 0) 10) (w_fi w1 (n_v vs 0) 13) (w_fi w1 (n_v vs 0) 14) (w_fi w1 (n_v vs 0) 9) (w_fi ws (n_v vs 0) 9) (w_fi ws (n_v vs 0) 10) (w_fi ws (n_v vs 0) 13) (w_fi ws (n_v vs 0) 14) (w_ei ws (w_ar ws (n_v vs 0) 1)) (w_ei ws (w_ar ws (n_v vs 0) 2)) (w_ei ws (w_ar ws (n_v vs 0) 3)) (w_ei ws (w_ar ws (n_v vs 0) 4)) (v_iv (Value.int y)) k1 k11 k15 k16 k18 k21 k23 k24 d0 d1 d3 g0 f5 f6 f7 f8 f24 f41 fe_0_5_1 fe_0_8_1 fe_0_9_1 fe_0_10_1 fe_0_11_1 fe_0_12_1 fe_0_13_1 fe_0_14_1 fe_0_15_1 hE_0_1_1 hE_0_2_1 hE_0_3_1 hE_0_4_1 kz_0_8 kz_0_9 kz_0_10 kz_0_11 kz_0_12 kz_0_13 kz_0_14 kz_0_15 ey2
  have nf1 : fc_1 PRD (20, [0], [60, 1, 3, 199, 5, 2, 3, 4]) ws (vs ++ [Value.int x, Value.int y, Value.int u]) := by
    refine ⟨nf_inA hl rfl, sgq_980 ?_⟩
    · show RWS (w_fi ws (n_v (vs ++ [Value.int x, Value.int y, Value.int u]) 0) 5) (w_ei ws (w_ar ws (n_v (vs ++ [Value.int x, Value.int y, Value.int u]) 0) 2)) (w_ei ws (w_ar ws (n_v (vs ++ [Value.int x, Value.int y, Value.int u]) 0) 3)) (w_ei ws (w_ar ws (n_v (vs ++ [Value.int x, Value.int y, Value.int u]) 0) 4))
      rw [e_0]
      exact vc_Mo_item_at_k3_13_1 (v_iv (n_v vs 18)) (v_iv (n_v vs 21)) (v_iv (n_v vs 23)) (v_iv (n_v vs 24)) (w_fi ws (n_v vs 0) 5) (w_fi ws (n_v vs 0) 8) (w_fi ws (n_v vs 0) 15) (w_fi ws (n_v vs 0) 11) (w_fi ws (n_v vs 0) 12) (w_ei w1 (w_ar ws (n_v vs 0) 2)) (w_fi w1 (n_v vs 0) 5) (w_ei w1 (w_ar ws (n_v vs 0) 3)) (w_ei w1 (w_ar ws (n_v vs 0) 4)) (w_fi w1 (n_v vs 0) 15) (w_fi w1 (n_v vs 0) 11) (w_fi w1 (n_v vs 0) 12) (w_fi w1 (n_v vs 0) 8) (w_ei w1 (w_ar ws (n_v vs 0) 1)) (w_fi w1 (n_v vs 0) 10) (w_fi w1 (n_v vs 0) 13) (w_fi w1 (n_v vs 0) 14) (w_fi w1 (n_v vs 0) 9) (w_fi ws (n_v vs 0) 9) (w_fi ws (n_v vs 0) 10) (w_fi ws (n_v vs 0) 13) (w_fi ws (n_v vs 0) 14) (w_ei ws (w_ar ws (n_v vs 0) 1)) (w_ei ws (w_ar ws (n_v vs 0) 2)) (w_ei ws (w_ar ws (n_v vs 0) 3)) (w_ei ws (w_ar ws (n_v vs 0) 4)) k18 k21 k23 k24 d1 d3 g0 f42 fe_0_5_1 fe_0_8_1 fe_0_9_1 fe_0_10_1 fe_0_11_1 fe_0_12_1 fe_0_13_1 fe_0_14_1 fe_0_15_1 hE_0_1_1 hE_0_2_1 hE_0_3_1 hE_0_4_1 kz_0_8 kz_0_9 kz_0_10 kz_0_11 kz_0_12 kz_0_13 kz_0_14 kz_0_15
  have nf2 : fc_1 PRD (23, [26, 3], [0, 1, -1]) ws (vs ++ [Value.int x, Value.int y, Value.int u]) := by
    refine ⟨nf_inA hl rfl, sgq_7 ?_⟩
    · show 1 * v_iv (n_v (vs ++ [Value.int x, Value.int y, Value.int u]) 26) + ((-1) * v_iv (n_v (vs ++ [Value.int x, Value.int y, Value.int u]) 3) + 0) ≤ 0
      simp only [e_3, e_26]
      exact vc_Mo_item_at_k3_13_2 (v_iv (n_v vs 1)) (v_iv (n_v vs 2)) (v_iv (n_v vs 3)) (v_iv (n_v vs 6)) (v_iv (n_v vs 8)) (v_iv (n_v vs 10)) (v_iv (n_v vs 11)) (v_iv (n_v vs 13)) (v_iv (n_v vs 14)) (v_iv (n_v vs 15)) (v_iv (n_v vs 16)) (v_iv (n_v vs 17)) (v_iv (n_v vs 18)) (v_iv (n_v vs 19)) (v_iv (n_v vs 21)) (v_iv (n_v vs 22)) (v_iv (n_v vs 23)) (v_iv (n_v vs 24)) (w_fi ws (n_v vs 0) 5) (w_fi ws (n_v vs 0) 8) (w_fi ws (n_v vs 0) 15) (w_fi ws (n_v vs 0) 11) (w_fi ws (n_v vs 0) 12) (w_ei w1 (w_ar ws (n_v vs 0) 2)) (w_fi w1 (n_v vs 0) 5) (w_ei w1 (w_ar ws (n_v vs 0) 3)) (w_ei w1 (w_ar ws (n_v vs 0) 4)) (w_fi w1 (n_v vs 0) 15) (w_fi w1 (n_v vs 0) 11) (w_fi w1 (n_v vs 0) 12) (w_fi w1 (n_v vs 0) 8) (w_ei w1 (w_ar ws (n_v vs 0) 1)) (w_fi w1 (n_v vs 0) 10) (w_fi w1 (n_v vs 0) 13) (w_fi w1 (n_v vs 0) 14) (w_fi w1 (n_v vs 0) 9) (w_fi ws (n_v vs 0) 9) (w_fi ws (n_v vs 0) 10) (w_fi ws (n_v vs 0) 13) (w_fi ws (n_v vs 0) 14) (w_ei ws (w_ar ws (n_v vs 0) 1)) (w_ei ws (w_ar ws (n_v vs 0) 2)) (w_ei ws (w_ar ws (n_v vs 0) 3)) (w_ei ws (w_ar ws (n_v vs 0) 4)) (v_iv (Value.int x)) (v_iv (Value.int y)) (v_iv (Value.int u)) k1 k2 k3 k6 k8 k10 k11 k13 k14 k15 k16 k17 k18 k19 k21 k22 k23 k24 d0 d1 d2 d3 g0 g2 f3 f4 f5 f6 f7 f8 f9 f10 f11 f12 f13 f14 f15 f16 f17 f18 f19 f20 f21 f22 f24 f25 f26 f27 f28 f29 f30 f31 f32 f33 f34 f35 f36 f37 f38 f39 f40 f41 f42 f43 f44 f45 f46 f47 f48 f49 f50 f52 f53 f54 f55 f56 f57 f58 f59 f60 f61 f62 f63 f65 f66 f67 f68 fe_0_5_1 fe_0_8_1 fe_0_9_1 fe_0_10_1 fe_0_11_1 fe_0_12_1 fe_0_13_1 fe_0_14_1 fe_0_15_1 hE_0_1_1 hK_0_1 hE_0_2_1 hE_0_3_1 hK_0_3 hE_0_4_1 hK_0_4 kz_0_8 kz_0_9 kz_0_10 kz_0_11 kz_0_12 kz_0_13 kz_0_14 kz_0_15 ex2 ex3 ey2 ey3 eu2 eu3
  have nf3 : fc_1 PRD (23, [26, 3], [0, -1, 1]) ws (vs ++ [Value.int x, Value.int y, Value.int u]) := by
    refine ⟨nf_inA hl rfl, sgq_22 ?_⟩
    · show (-1) * v_iv (n_v (vs ++ [Value.int x, Value.int y, Value.int u]) 26) + (1 * v_iv (n_v (vs ++ [Value.int x, Value.int y, Value.int u]) 3) + 0) ≤ 0
      simp only [e_3, e_26]
      exact vc_Mo_item_at_k3_13_3 (v_iv (n_v vs 1)) (v_iv (n_v vs 2)) (v_iv (n_v vs 3)) (v_iv (n_v vs 6)) (v_iv (n_v vs 8)) (v_iv (n_v vs 10)) (v_iv (n_v vs 11)) (v_iv (n_v vs 13)) (v_iv (n_v vs 14)) (v_iv (n_v vs 15)) (v_iv (n_v vs 16)) (v_iv (n_v vs 17)) (v_iv (n_v vs 18)) (v_iv (n_v vs 19)) (v_iv (n_v vs 21)) (v_iv (n_v vs 22)) (v_iv (n_v vs 23)) (v_iv (n_v vs 24)) (w_fi ws (n_v vs 0) 5) (w_fi ws (n_v vs 0) 8) (w_fi ws (n_v vs 0) 15) (w_fi ws (n_v vs 0) 11) (w_fi ws (n_v vs 0) 12) (w_ei w1 (w_ar ws (n_v vs 0) 2)) (w_fi w1 (n_v vs 0) 5) (w_ei w1 (w_ar ws (n_v vs 0) 3)) (w_ei w1 (w_ar ws (n_v vs 0) 4)) (w_fi w1 (n_v vs 0) 15) (w_fi w1 (n_v vs 0) 11) (w_fi w1 (n_v vs 0) 12) (w_fi w1 (n_v vs 0) 8) (w_ei w1 (w_ar ws (n_v vs 0) 1)) (w_fi w1 (n_v vs 0) 10) (w_fi w1 (n_v vs 0) 13) (w_fi w1 (n_v vs 0) 14) (w_fi w1 (n_v vs 0) 9) (w_fi ws (n_v vs 0) 9) (w_fi ws (n_v vs 0) 10) (w_fi ws (n_v vs 0) 13) (w_fi ws (n_v vs 0) 14) (w_ei ws (w_ar ws (n_v vs 0) 1)) (w_ei ws (w_ar ws (n_v vs 0) 2)) (w_ei ws (w_ar ws (n_v vs 0) 3)) (w_ei ws (w_ar ws (n_v vs 0) 4)) (v_iv (Value.int x)) (v_iv (Value.int y)) (v_iv (Value.int u)) k1 k2 k3 k6 k8 k10 k11 k13 k14 k15 k16 k17 k18 k19 k21 k22 k23 k24 d0 d1 d2 d3 g0 g2 f3 f4 f5 f6 f7 f8 f9 f10 f11 f12 f13 f14 f15 f16 f17 f18 f19 f20 f21 f22 f24 f25 f26 f27 f28 f29 f30 f31 f32 f33 f34 f35 f36 f37 f38 f39 f40 f41 f42 f43 f44 f45 f46 f47 f48 f49 f50 f52 f53 f54 f55 f56 f57 f58 f59 f60 f61 f62 f63 f65 f66 f67 f68 fe_0_5_1 fe_0_8_1 fe_0_9_1 fe_0_10_1 fe_0_11_1 fe_0_12_1 fe_0_13_1 fe_0_14_1 fe_0_15_1 hE_0_1_1 hK_0_1 hE_0_2_1 hE_0_3_1 hK_0_3 hE_0_4_1 hK_0_4 kz_0_8 kz_0_9 kz_0_10 kz_0_11 kz_0_12 kz_0_13 kz_0_14 kz_0_15 ex2 ex3 ey2 ey3 eu2 eu3
  have nf4 : fc_1 PRD (23, [27, 1], [0, 1, -1]) ws (vs ++ [Value.int x, Value.int y, Value.int u]) := by
    refine ⟨nf_inA hl rfl, sgq_7 ?_⟩
    · show 1 * v_iv (n_v (vs ++ [Value.int x, Value.int y, Value.int u]) 27) + ((-1) * v_iv (n_v (vs ++ [Value.int x, Value.int y, Value.int u]) 1) + 0) ≤ 0
      simp only [e_1, e_27]
      exact vc_Mo_item_at_k3_13_4 (v_iv (n_v vs 1)) (v_iv (n_v vs 2)) (v_iv (n_v vs 3)) (v_iv (n_v vs 6)) (v_iv (n_v vs 8)) (v_iv (n_v vs 10)) (v_iv (n_v vs 11)) (v_iv (n_v vs 13)) (v_iv (n_v vs 14)) (v_iv (n_v vs 15)) (v_iv (n_v vs 16)) (v_iv (n_v vs 17)) (v_iv (n_v vs 18)) (v_iv (n_v vs 19)) (v_iv (n_v vs 21)) (v_iv (n_v vs 22)) (v_iv (n_v vs 23)) (v_iv (n_v vs 24)) (w_fi ws (n_v vs 0) 5) (w_fi ws (n_v vs 0) 8) (w_fi ws (n_v vs 0) 15) (w_fi ws (n_v vs 0) 11) (w_fi ws (n_v vs 0) 12) (w_ei w1 (w_ar ws (n_v vs 0) 2)) (w_fi w1 (n_v vs 0) 5) (w_ei w1 (w_ar ws (n_v vs 0) 3)) (w_ei w1 (w_ar ws (n_v vs 0) 4)) (w_fi w1 (n_v vs 0) 15) (w_fi w1 (n_v vs 0) 11) (w_fi w1 (n_v vs 0) 12) (w_fi w1 (n_v vs 0) 8) (w_ei w1 (w_ar ws (n_v vs 0) 1)) (w_fi w1 (n_v vs 0) 10) (w_fi w1 (n_v vs 0) 13) (w_fi w1 (n_v vs 0) 14) (w_fi w1 (n_v vs 0) 9) (w_fi ws (n_v vs 0) 9) (w_fi ws (n_v vs 0) 10) (w_fi ws (n_v vs 0) 13) (w_fi ws (n_v vs 0) 14) (w_ei ws (w_ar ws (n_v vs 0) 1)) (w_ei ws (w_ar ws (n_v vs 0) 2)) (w_ei ws (w_ar ws (n_v vs 0) 3)) (w_ei ws (w_ar ws (n_v vs 0) 4)) (v_iv (Value.int x)) (v_iv (Value.int y)) (v_iv (Value.int u)) k1 k2 k3 k6 k8 k10 k11 k13 k14 k15 k16 k17 k18 k19 k21 k22 k23 k24 d0 d1 d2 d3 g0 g2 f3 f4 f5 f6 f7 f8 f9 f10 f11 f12 f13 f14 f15 f16 f17 f18 f19 f20 f21 f22 f24 f25 f26 f27 f28 f29 f30 f31 f32 f33 f34 f35 f36 f37 f38 f39 f40 f41 f42 f43 f44 f45 f46 f47 f48 f49 f50 f52 f53 f54 f55 f56 f57 f58 f59 f60 f61 f62 f63 f65 f66 f67 f68 fe_0_5_1 fe_0_8_1 fe_0_9_1 fe_0_10_1 fe_0_11_1 fe_0_12_1 fe_0_13_1 fe_0_14_1 fe_0_15_1 hE_0_1_1 hK_0_1 hE_0_2_1 hE_0_3_1 hK_0_3 hE_0_4_1 hK_0_4 kz_0_8 kz_0_9 kz_0_10 kz_0_11 kz_0_12 kz_0_13 kz_0_14 kz_0_15 ex2 ex3 ey2 ey3 eu2 eu3
  have nf5 : fc_1 PRD (23, [27, 1], [0, -1, 1]) ws (vs ++ [Value.int x, Value.int y, Value.int u]) := by
    refine ⟨nf_inA hl rfl, sgq_22 ?_⟩
    · show (-1) * v_iv (n_v (vs ++ [Value.int x, Value.int y, Value.int u]) 27) + (1 * v_iv (n_v (vs ++ [Value.int x, Value.int y, Value.int u]) 1) + 0) ≤ 0
      simp only [e_1, e_27]
      exact vc_Mo_item_at_k3_13_5 (v_iv (n_v vs 1)) (v_iv (n_v vs 2)) (v_iv (n_v vs 3)) (v_iv (n_v vs 6)) (v_iv (n_v vs 8)) (v_iv (n_v vs 10)) (v_iv (n_v vs 11)) (v_iv (n_v vs 13)) (v_iv (n_v vs 14)) (v_iv (n_v vs 15)) (v_iv (n_v vs 16)) (v_iv (n_v vs 17)) (v_iv (n_v vs 18)) (v_iv (n_v vs 19)) (v_iv (n_v vs 21)) (v_iv (n_v vs 22)) (v_iv (n_v vs 23)) (v_iv (n_v vs 24)) (w_fi ws (n_v vs 0) 5) (w_fi ws (n_v vs 0) 8) (w_fi ws (n_v vs 0) 15) (w_fi ws (n_v vs 0) 11) (w_fi ws (n_v vs 0) 12) (w_ei w1 (w_ar ws (n_v vs 0) 2)) (w_fi w1 (n_v vs 0) 5) (w_ei w1 (w_ar ws (n_v vs 0) 3)) (w_ei w1 (w_ar ws (n_v vs 0) 4)) (w_fi w1 (n_v vs 0) 15) (w_fi w1 (n_v vs 0) 11) (w_fi w1 (n_v vs 0) 12) (w_fi w1 (n_v vs 0) 8) (w_ei w1 (w_ar ws (n_v vs 0) 1)) (w_fi w1 (n_v vs 0) 10) (w_fi w1 (n_v vs 0) 13) (w_fi w1 (n_v vs 0) 14) (w_fi w1 (n_v vs 0) 9) (w_fi ws (n_v vs 0) 9) (w_fi ws (n_v vs 0) 10) (w_fi ws (n_v vs 0) 13) (w_fi ws (n_v vs 0) 14) (w_ei ws (w_ar ws (n_v vs 0) 1)) (w_ei ws (w_ar ws (n_v vs 0) 2)) (w_ei ws (w_ar ws (n_v vs 0) 3)) (w_ei ws (w_ar ws (n_v vs 0) 4)) (v_iv (Value.int x)) (v_iv (Value.int y)) (v_iv (Value.int u)) k1 k2 k3 k6 k8 k10 k11 k13 k14 k15 k16 k17 k18 k19 k21 k22 k23 k24 d0 d1 d2 d3 g0 g2 f3 f4 f5 f6 f7 f8 f9 f10 f11 f12 f13 f14 f15 f16 f17 f18 f19 f20 f21 f22 f24 f25 f26 f27 f28 f29 f30 f31 f32 f33 f34 f35 f36 f37 f38 f39 f40 f41 f42 f43 f44 f45 f46 f47 f48 f49 f50 f52 f53 f54 f55 f56 f57 f58 f59 f60 f61 f62 f63 f65 f66 f67 f68 fe_0_5_1 fe_0_8_1 fe_0_9_1 fe_0_10_1 fe_0_11_1 fe_0_12_1 fe_0_13_1 fe_0_14_1 fe_0_15_1 hE_0_1_1 hK_0_1 hE_0_2_1 hE_0_3_1 hK_0_3 hE_0_4_1 hK_0_4 kz_0_8 kz_0_9 kz_0_10 kz_0_11 kz_0_12 kz_0_13 kz_0_14 kz_0_15 ex2 ex3 ey2 ey3 eu2 eu3
  have nf6 : fc_1 PRD (23, [28, 2], [0, 1, -1]) ws (vs ++ [Value.int x, Value.int y, Value.int u]) := by
    refine ⟨nf_inA hl rfl, sgq_7 ?_⟩
    · show 1 * v_iv (n_v (vs ++ [Value.int x, Value.int y, Value.int u]) 28) + ((-1) * v_iv (n_v (vs ++ [Value.int x, Value.int y, Value.int u]) 2) + 0) ≤ 0
      simp only [e_2, e_28]
      exact vc_Mo_item_at_k3_13_6 (v_iv (n_v vs 1)) (v_iv (n_v vs 2)) (v_iv (n_v vs 3)) (v_iv (n_v vs 6)) (v_iv (n_v vs 8)) (v_iv (n_v vs 10)) (v_iv (n_v vs 11)) (v_iv (n_v vs 13)) (v_iv (n_v vs 14)) (v_iv (n_v vs 15)) (v_iv (n_v vs 16)) (v_iv (n_v vs 17)) (v_iv (n_v vs 18)) (v_iv (n_v vs 19)) (v_iv (n_v vs 21)) (v_iv (n_v vs 22)) (v_iv (n_v vs 23)) (v_iv (n_v vs 24)) (w_fi ws (n_v vs 0) 5) (w_fi ws (n_v vs 0) 8) (w_fi ws (n_v vs 0) 15) (w_fi ws (n_v vs 0) 11) (w_fi ws (n_v vs 0) 12) (w_ei w1 (w_ar ws (n_v vs 0) 2)) (w_fi w1 (n_v vs 0) 5) (w_ei w1 (w_ar ws (n_v vs 0) 3)) (w_ei w1 (w_ar ws (n_v vs 0) 4)) (w_fi w1 (n_v vs 0) 15) (w_fi w1 (n_v vs 0) 11) (w_fi w1 (n_v vs 0) 12) (w_fi w1 (n_v vs 0) 8) (w_ei w1 (w_ar ws (n_v vs 0) 1)) (w_fi w1 (n_v vs 0) 10) (w_fi w1 (n_v vs 0) 13) (w_fi w1 (n_v vs 0) 14) (w_fi w1 (n_v vs 0) 9) (w_fi ws (n_v vs 0) 9) (w_fi ws (n_v vs 0) 10) (w_fi ws (n_v vs 0) 13) (w_fi ws (n_v vs 0) 14) (w_ei ws (w_ar ws (n_v vs 0) 1)) (w_ei ws (w_ar ws (n_v vs 0) 2)) (w_ei ws (w_ar ws (n_v vs 0) 3)) (w_ei ws (w_ar ws (n_v vs 0) 4)) (v_iv (Value.int x)) (v_iv (Value.int y)) (v_iv (Value.int u)) k1 k2 k3 k6 k8 k10 k11 k13 k14 k15 k16 k17 k18 k19 k21 k22 k23 k24 d0 d1 d2 d3 g0 g2 f3 f4 f5 f6 f7 f8 f9 f10 f11 f12 f13 f14 f15 f16 f17 f18 f19 f20 f21 f22 f24 f25 f26 f27 f28 f29 f30 f31 f32 f33 f34 f35 f36 f37 f38 f39 f40 f41 f42 f43 f44 f45 f46 f47 f48 f49 f50 f52 f53 f54 f55 f56 f57 f58 f59 f60 f61 f62 f63 f65 f66 f67 f68 fe_0_5_1 fe_0_8_1 fe_0_9_1 fe_0_10_1 fe_0_11_1 fe_0_12_1 fe_0_13_1 fe_0_14_1 fe_0_15_1 hE_0_1_1 hK_0_1 hE_0_2_1 hE_0_3_1 hK_0_3 hE_0_4_1 hK_0_4 kz_0_8 kz_0_9 kz_0_10 kz_0_11 kz_0_12 kz_0_13 kz_0_14 kz_0_15 ex2 ex3 ey2 ey3 eu2 eu3
  have nf7 : fc_1 PRD (23, [28, 2], [0, -1, 1]) ws (vs ++ [Value.int x, Value.int y, Value.int u]) := by
    refine ⟨nf_inA hl rfl, sgq_22 ?_⟩
    · show (-1) * v_iv (n_v (vs ++ [Value.int x, Value.int y, Value.int u]) 28) + (1 * v_iv (n_v (vs ++ [Value.int x, Value.int y, Value.int u]) 2) + 0) ≤ 0
      simp only [e_2, e_28]
      exact vc_Mo_item_at_k3_13_7 (v_iv (n_v vs 1)) (v_iv (n_v vs 2)) (v_iv (n_v vs 3)) (v_iv (n_v vs 6)) (v_iv (n_v vs 8)) (v_iv (n_v vs 10)) (v_iv (n_v vs 11)) (v_iv (n_v vs 13)) (v_iv (n_v vs 14)) (v_iv (n_v vs 15)) (v_iv (n_v vs 16)) (v_iv (n_v vs 17)) (v_iv (n_v vs 18)) (v_iv (n_v vs 19)) (v_iv (n_v vs 21)) (v_iv (n_v vs 22)) (v_iv (n_v vs 23)) (v_iv (n_v vs 24)) (w_fi ws (n_v vs 0) 5) (w_fi ws (n_v vs 0) 8) (w_fi ws (n_v vs 0) 15) (w_fi ws (n_v vs 0) 11) (w_fi ws (n_v vs 0) 12) (w_ei w1 (w_ar ws (n_v vs 0) 2)) (w_fi w1 (n_v vs 0) 5) (w_ei w1 (w_ar ws (n_v vs 0) 3)) (w_ei w1 (w_ar ws (n_v vs 0) 4)) (w_fi w1 (n_v vs 0) 15) (w_fi w1 (n_v vs 0) 11) (w_fi w1 (n_v vs 0) 12) (w_fi w1 (n_v vs 0) 8) (w_ei w1 (w_ar ws (n_v vs 0) 1)) (w_fi w1 (n_v vs 0) 10) (w_fi w1 (n_v vs 0) 13) (w_fi w1 (n_v vs 0) 14) (w_fi w1 (n_v vs 0) 9) (w_fi ws (n_v vs 0) 9) (w_fi ws (n_v vs 0) 10) (w_fi ws (n_v vs 0) 13) (w_fi ws (n_v vs 0) 14) (w_ei ws (w_ar ws (n_v vs 0) 1)) (w_ei ws (w_ar ws (n_v vs 0) 2)) (w_ei ws (w_ar ws (n_v vs 0) 3)) (w_ei ws (w_ar ws (n_v vs 0) 4)) (v_iv (Value.int x)) (v_iv (Value.int y)) (v_iv (Value.int u)) k1 k2 k3 k6 k8 k10 k11 k13 k14 k15 k16 k17 k18 k19 k21 k22 k23 k24 d0 d1 d2 d3 g0 g2 f3 f4 f5 f6 f7 f8 f9 f10 f11 f12 f13 f14 f15 f16 f17 f18 f19 f20 f21 f22 f24 f25 f26 f27 f28 f29 f30 f31 f32 f33 f34 f35 f36 f37 f38 f39 f40 f41 f42 f43 f44 f45 f46 f47 f48 f49 f50 f52 f53 f54 f55 f56 f57 f58 f59 f60 f61 f62 f63 f65 f66 f67 f68 fe_0_5_1 fe_0_8_1 fe_0_9_1 fe_0_10_1 fe_0_11_1 fe_0_12_1 fe_0_13_1 fe_0_14_1 fe_0_15_1 hE_0_1_1 hK_0_1 hE_0_2_1 hE_0_3_1 hK_0_3 hE_0_4_1 hK_0_4 kz_0_8 kz_0_9 kz_0_10 kz_0_11 kz_0_12 kz_0_13 kz_0_14 kz_0_15 ex2 ex3 ey2 ey3 eu2 eu3
  have nf8 : fc_1 PRD (20, [0, 0], [30, 0, 1, 1, 15, -1, 1, 11]) ws (vs ++ [Value.int x, Value.int y, Value.int u]) := by
    refine ⟨nf_inA hl rfl, sgq_1437 ?_⟩
    · show 1 * w_fi ws (n_v (vs ++ [Value.int x, Value.int y, Value.int u]) 0) 15 + ((-1) * w_fi ws (n_v (vs ++ [Value.int x, Value.int y, Value.int u]) 0) 11 + 0) ≤ 0
      rw [e_0]
      exact vc_Mo_item_at_k3_13_8 (v_iv (n_v vs 1)) (v_iv (n_v vs 2)) (v_iv (n_v vs 3)) (v_iv (n_v vs 6)) (v_iv (n_v vs 8)) (v_iv (n_v vs 10)) (v_iv (n_v vs 11)) (v_iv (n_v vs 13)) (v_iv (n_v vs 14)) (v_iv (n_v vs 15)) (v_iv (n_v vs 16)) (v_iv (n_v vs 17)) (v_iv (n_v vs 18)) (v_iv (n_v vs 19)) (v_iv (n_v vs 21)) (v_iv (n_v vs 22)) (v_iv (n_v vs 23)) (v_iv (n_v vs 24)) (w_fi ws (n_v vs 0) 5) (w_fi ws (n_v vs 0) 8) (w_fi ws (n_v vs 0) 15) (w_fi ws (n_v vs 0) 11) (w_fi ws (n_v vs 0) 12) (w_ei w1 (w_ar ws (n_v vs 0) 2)) (w_fi w1 (n_v vs 0) 5) (w_ei w1 (w_ar ws (n_v vs 0) 3)) (w_ei w1 (w_ar ws (n_v vs 0) 4)) (w_fi w1 (n_v vs 0) 15) (w_fi w1 (n_v vs 0) 11) (w_fi w1 (n_v vs 0) 12) (w_fi w1 (n_v vs 0) 8) (w_ei w1 (w_ar ws (n_v vs 0) 1)) (w_fi w1 (n_v vs 0) 10) (w_fi w1 (n_v vs 0) 13) (w_fi w1 (n_v vs 0) 14) (w_fi w1 (n_v vs 0) 9) (w_fi ws (n_v vs 0) 9) (w_fi ws (n_v vs 0) 10) (w_fi ws (n_v vs 0) 13) (w_fi ws (n_v vs 0) 14) (w_ei ws (w_ar ws (n_v vs 0) 1)) (w_ei ws (w_ar ws (n_v vs 0) 2)) (w_ei ws (w_ar ws (n_v vs 0) 3)) (w_ei ws (w_ar ws (n_v vs 0) 4)) (v_iv (Value.int x)) (v_iv (Value.int y)) (v_iv (Value.int u)) k1 k2 k3 k6 k8 k10 k11 k13 k14 k15 k16 k17 k18 k19 k21 k22 k23 k24 d0 d1 d2 d3 g0 g2 f3 f4 f5 f6 f7 f8 f9 f10 f11 f12 f13 f14 f15 f16 f17 f18 f19 f20 f21 f22 f24 f25 f26 f27 f28 f29 f30 f31 f32 f33 f34 f35 f36 f37 f38 f39 f40 f41 f42 f43 f44 f45 f46 f47 f48 f49 f50 f52 f53 f54 f55 f56 f57 f58 f59 f60 f61 f62 f63 f65 f66 f67 f68 fe_0_5_1 fe_0_8_1 fe_0_9_1 fe_0_10_1 fe_0_11_1 fe_0_12_1 fe_0_13_1 fe_0_14_1 fe_0_15_1 hE_0_1_1 hK_0_1 hE_0_2_1 hE_0_3_1 hK_0_3 hE_0_4_1 hK_0_4 kz_0_8 kz_0_9 kz_0_10 kz_0_11 kz_0_12 kz_0_13 kz_0_14 kz_0_15 ex2 ex3 ey2 ey3 eu2 eu3
  have nf9 : fc_1 PRD (20, [0], [50, 3, 0, 12, 11, 15, 2, 21, 4, 7, 1, 3, 2, 0, 12, 0, 1, 0, 3, 2, 0, 11, 4, 3, 2, 0, 15, 0, 8, 3, 7, 1, 3, 2, 0, 12, 0, 0, 0, 7, 4, 3, 2, 0, 15, 0, 1, 2, 0, 11]) ws (vs ++ [Value.int x, Value.int y, Value.int u]) := by
    refine ⟨nf_inA hl rfl, sgq_1438 ?_⟩
    · show ((w_fi ws (n_v (vs ++ [Value.int x, Value.int y, Value.int u]) 0) 12 = 1) → (w_fi ws (n_v (vs ++ [Value.int x, Value.int y, Value.int u]) 0) 11 ≤ (w_fi ws (n_v (vs ++ [Value.int x, Value.int y, Value.int u]) 0) 15 + 8))) ∧ ((w_fi ws (n_v (vs ++ [Value.int x, Value.int y, Value.int u]) 0) 12 = 0) ∨ ((w_fi ws (n_v (vs ++ [Value.int x, Value.int y, Value.int u]) 0) 15 + 1) ≤ w_fi ws (n_v (vs ++ [Value.int x, Value.int y, Value.int u]) 0) 11))
      rw [e_0]
      exact vc_Mo_item_at_k3_13_9 (v_iv (n_v vs 1)) (v_iv (n_v vs 2)) (v_iv (n_v vs 3)) (v_iv (n_v vs 6)) (v_iv (n_v vs 8)) (v_iv (n_v vs 10)) (v_iv (n_v vs 11)) (v_iv (n_v vs 13)) (v_iv (n_v vs 14)) (v_iv (n_v vs 15)) (v_iv (n_v vs 16)) (v_iv (n_v vs 17)) (v_iv (n_v vs 18)) (v_iv (n_v vs 19)) (v_iv (n_v vs 21)) (v_iv (n_v vs 22)) (v_iv (n_v vs 23)) (v_iv (n_v vs 24)) (w_fi ws (n_v vs 0) 5) (w_fi ws (n_v vs 0) 8) (w_fi ws (n_v vs 0) 15) (w_fi ws (n_v vs 0) 11) (w_fi ws (n_v vs 0) 12) (w_ei w1 (w_ar ws (n_v vs 0) 2)) (w_fi w1 (n_v vs 0) 5) (w_ei w1 (w_ar ws (n_v vs 0) 3)) (w_ei w1 (w_ar ws (n_v vs 0) 4)) (w_fi w1 (n_v vs 0) 15) (w_fi w1 (n_v vs 0) 11) (w_fi w1 (n_v vs 0) 12) (w_fi w1 (n_v vs 0) 8) (w_ei w1 (w_ar ws (n_v vs 0) 1)) (w_fi w1 (n_v vs 0) 10) (w_fi w1 (n_v vs 0) 13) (w_fi w1 (n_v vs 0) 14) (w_fi w1 (n_v vs 0) 9) (w_fi ws (n_v vs 0) 9) (w_fi ws (n_v vs 0) 10) (w_fi ws (n_v vs 0) 13) (w_fi ws (n_v vs 0) 14) (w_ei ws (w_ar ws (n_v vs 0) 1)) (w_ei ws (w_ar ws (n_v vs 0) 2)) (w_ei ws (w_ar ws (n_v vs 0) 3)) (w_ei ws (w_ar ws (n_v vs 0) 4)) (v_iv (Value.int x)) (v_iv (Value.int y)) (v_iv (Value.int u)) k1 k2 k3 k6 k8 k10 k11 k13 k14 k15 k16 k17 k18 k19 k21 k22 k23 k24 d0 d1 d2 d3 g0 g2 f3 f4 f5 f6 f7 f8 f9 f10 f11 f12 f13 f14 f15 f16 f17 f18 f19 f20 f21 f22 f24 f25 f26 f27 f28 f29 f30 f31 f32 f33 f34 f35 f36 f37 f38 f39 f40 f41 f42 f43 f44 f45 f46 f47 f48 f49 f50 f52 f53 f54 f55 f56 f57 f58 f59 f60 f61 f62 f63 f65 f66 f67 f68 fe_0_5_1 fe_0_8_1 fe_0_9_1 fe_0_10_1 fe_0_11_1 fe_0_12_1 fe_0_13_1 fe_0_14_1 fe_0_15_1 hE_0_1_1 hK_0_1 hE_0_2_1 hE_0_3_1 hK_0_3 hE_0_4_1 hK_0_4 kz_0_8 kz_0_9 kz_0_10 kz_0_11 kz_0_12 kz_0_13 kz_0_14 kz_0_15 ex2 ex3 ey2 ey3 eu2 eu3
  have nf10 : fc_1 PRD (20, [26, 0], [30, 0, 1, 0, 0, -1, 1, 11]) ws (vs ++ [Value.int x, Value.int y, Value.int u]) := by
    refine ⟨nf_inA hl rfl, sgq_1431 ?_⟩
    · show 1 * v_iv (n_v (vs ++ [Value.int x, Value.int y, Value.int u]) 26) + ((-1) * w_fi ws (n_v (vs ++ [Value.int x, Value.int y, Value.int u]) 0) 11 + 0) ≤ 0
      simp only [e_0, e_26]
      exact vc_Mo_item_at_k3_13_10 (v_iv (n_v vs 1)) (v_iv (n_v vs 2)) (v_iv (n_v vs 3)) (v_iv (n_v vs 6)) (v_iv (n_v vs 8)) (v_iv (n_v vs 10)) (v_iv (n_v vs 11)) (v_iv (n_v vs 13)) (v_iv (n_v vs 14)) (v_iv (n_v vs 15)) (v_iv (n_v vs 16)) (v_iv (n_v vs 17)) (v_iv (n_v vs 18)) (v_iv (n_v vs 19)) (v_iv (n_v vs 21)) (v_iv (n_v vs 22)) (v_iv (n_v vs 23)) (v_iv (n_v vs 24)) (w_fi ws (n_v vs 0) 5) (w_fi ws (n_v vs 0) 8) (w_fi ws (n_v vs 0) 15) (w_fi ws (n_v vs 0) 11) (w_fi ws (n_v vs 0) 12) (w_ei w1 (w_ar ws (n_v vs 0) 2)) (w_fi w1 (n_v vs 0) 5) (w_ei w1 (w_ar ws (n_v vs 0) 3)) (w_ei w1 (w_ar ws (n_v vs 0) 4)) (w_fi w1 (n_v vs 0) 15) (w_fi w1 (n_v vs 0) 11) (w_fi w1 (n_v vs 0) 12) (w_fi w1 (n_v vs 0) 8) (w_ei w1 (w_ar ws (n_v vs 0) 1)) (w_fi w1 (n_v vs 0) 10) (w_fi w1 (n_v vs 0) 13) (w_fi w1 (n_v vs 0) 14) (w_fi w1 (n_v vs 0) 9) (w_fi ws (n_v vs 0) 9) (w_fi ws (n_v vs 0) 10) (w_fi ws (n_v vs 0) 13) (w_fi ws (n_v vs 0) 14) (w_ei ws (w_ar ws (n_v vs 0) 1)) (w_ei ws (w_ar ws (n_v vs 0) 2)) (w_ei ws (w_ar ws (n_v vs 0) 3)) (w_ei ws (w_ar ws (n_v vs 0) 4)) (v_iv (Value.int x)) (v_iv (Value.int y)) (v_iv (Value.int u)) k1 k2 k3 k6 k8 k10 k11 k13 k14 k15 k16 k17 k18 k19 k21 k22 k23 k24 d0 d1 d2 d3 g0 g2 f3 f4 f5 f6 f7 f8 f9 f10 f11 f12 f13 f14 f15 f16 f17 f18 f19 f20 f21 f22 f24 f25 f26 f27 f28 f29 f30 f31 f32 f33 f34 f35 f36 f37 f38 f39 f40 f41 f42 f43 f44 f45 f46 f47 f48 f49 f50 f52 f53 f54 f55 f56 f57 f58 f59 f60 f61 f62 f63 f65 f66 f67 f68 fe_0_5_1 fe_0_8_1 fe_0_9_1 fe_0_10_1 fe_0_11_1 fe_0_12_1 fe_0_13_1 fe_0_14_1 fe_0_15_1 hE_0_1_1 hK_0_1 hE_0_2_1 hE_0_3_1 hK_0_3 hE_0_4_1 hK_0_4 kz_0_8 kz_0_9 kz_0_10 kz_0_11 kz_0_12 kz_0_13 kz_0_14 kz_0_15 ex2 ex3 ey2 ey3 eu2 eu3
  have nf11 : fc_1 PRD (20, [0, 26], [50, 3, 0, 8, 12, 11, 3, 7, 0, 2, 0, 1, 2, 0, 8, 3, 7, 1, 3, 2, 0, 12, 0, 0, 0, 6, 4, 2, 1, 1, 0, 1, 2, 0, 11]) ws (vs ++ [Value.int x, Value.int y, Value.int u]) := by
    refine ⟨nf_inA hl rfl, sgq_1722 ?_⟩
    · show (1 ≤ w_fi ws (n_v (vs ++ [Value.int x, Value.int y, Value.int u]) 0) 8) ∨ ((w_fi ws (n_v (vs ++ [Value.int x, Value.int y, Value.int u]) 0) 12 = 0) ∨ ((v_iv (n_v (vs ++ [Value.int x, Value.int y, Value.int u]) 26) + 1) ≤ w_fi ws (n_v (vs ++ [Value.int x, Value.int y, Value.int u]) 0) 11))
      simp only [e_0, e_26]
      exact vc_Mo_item_at_k3_13_11 (v_iv (n_v vs 1)) (v_iv (n_v vs 2)) (v_iv (n_v vs 3)) (v_iv (n_v vs 6)) (v_iv (n_v vs 8)) (v_iv (n_v vs 10)) (v_iv (n_v vs 11)) (v_iv (n_v vs 13)) (v_iv (n_v vs 14)) (v_iv (n_v vs 15)) (v_iv (n_v vs 16)) (v_iv (n_v vs 17)) (v_iv (n_v vs 18)) (v_iv (n_v vs 19)) (v_iv (n_v vs 21)) (v_iv (n_v vs 22)) (v_iv (n_v vs 23)) (v_iv (n_v vs 24)) (w_fi ws (n_v vs 0) 5) (w_fi ws (n_v vs 0) 8) (w_fi ws (n_v vs 0) 15) (w_fi ws (n_v vs 0) 11) (w_fi ws (n_v vs 0) 12) (w_ei w1 (w_ar ws (n_v vs 0) 2)) (w_fi w1 (n_v vs 0) 5) (w_ei w1 (w_ar ws (n_v vs 0) 3)) (w_ei w1 (w_ar ws (n_v vs 0) 4)) (w_fi w1 (n_v vs 0) 15) (w_fi w1 (n_v vs 0) 11) (w_fi w1 (n_v vs 0) 12) (w_fi w1 (n_v vs 0) 8) (w_ei w1 (w_ar ws (n_v vs 0) 1)) (w_fi w1 (n_v vs 0) 10) (w_fi w1 (n_v vs 0) 13) (w_fi w1 (n_v vs 0) 14) (w_fi w1 (n_v vs 0) 9) (w_fi ws (n_v vs 0) 9) (w_fi ws (n_v vs 0) 10) (w_fi ws (n_v vs 0) 13) (w_fi ws (n_v vs 0) 14) (w_ei ws (w_ar ws (n_v vs 0) 1)) (w_ei ws (w_ar ws (n_v vs 0) 2)) (w_ei ws (w_ar ws (n_v vs 0) 3)) (w_ei ws (w_ar ws (n_v vs 0) 4)) (v_iv (Value.int x)) (v_iv (Value.int y)) (v_iv (Value.int u)) k1 k2 k3 k6 k8 k10 k11 k13 k14 k15 k16 k17 k18 k19 k21 k22 k23 k24 d0 d1 d2 d3 g0 g2 f3 f4 f5 f6 f7 f8 f9 f10 f11 f12 f13 f14 f15 f16 f17 f18 f19 f20 f21 f22 f24 f25 f26 f27 f28 f29 f30 f31 f32 f33 f34 f35 f36 f37 f38 f39 f40 f41 f42 f43 f44 f45 f46 f47 f48 f49 f50 f52 f53 f54 f55 f56 f57 f58 f59 f60 f61 f62 f63 f65 f66 f67 f68 fe_0_5_1 fe_0_8_1 fe_0_9_1 fe_0_10_1 fe_0_11_1 fe_0_12_1 fe_0_13_1 fe_0_14_1 fe_0_15_1 hE_0_1_1 hK_0_1 hE_0_2_1 hE_0_3_1 hK_0_3 hE_0_4_1 hK_0_4 kz_0_8 kz_0_9 kz_0_10 kz_0_11 kz_0_12 kz_0_13 kz_0_14 kz_0_15 ex2 ex3 ey2 ey3 eu2 eu3
  have nf12 : fc_1 PRD (20, [0, 27, 28], [60, 9, 2, 1018, 10, 11, 12, 13, 14, 15, 8, 9, 5, 1, 2]) ws (vs ++ [Value.int x, Value.int y, Value.int u]) := by
    refine ⟨nf_inA hl rfl, sgq_1732 ?_⟩
    · show zONs (w_fi ws (n_v (vs ++ [Value.int x, Value.int y, Value.int u]) 0) 10) (w_fi ws (n_v (vs ++ [Value.int x, Value.int y, Value.int u]) 0) 11) (w_fi ws (n_v (vs ++ [Value.int x, Value.int y, Value.int u]) 0) 12) (w_fi ws (n_v (vs ++ [Value.int x, Value.int y, Value.int u]) 0) 13) (w_fi ws (n_v (vs ++ [Value.int x, Value.int y, Value.int u]) 0) 14) (w_fi ws (n_v (vs ++ [Value.int x, Value.int y, Value.int u]) 0) 15) (w_fi ws (n_v (vs ++ [Value.int x, Value.int y, Value.int u]) 0) 8) (w_fi ws (n_v (vs ++ [Value.int x, Value.int y, Value.int u]) 0) 9) (w_fi ws (n_v (vs ++ [Value.int x, Value.int y, Value.int u]) 0) 5) (w_ei ws (w_ar ws (n_v (vs ++ [Value.int x, Value.int y, Value.int u]) 0) 1)) (w_ei ws (w_ar ws (n_v (vs ++ [Value.int x, Value.int y, Value.int u]) 0) 2)) (v_iv (n_v (vs ++ [Value.int x, Value.int y, Value.int u]) 27)) (v_iv (n_v (vs ++ [Value.int x, Value.int y, Value.int u]) 28))
      simp only [e_0, e_27, e_28]
      exact vc_Mo_item_at_k3_13_12 (v_iv (n_v vs 1)) (v_iv (n_v vs 2)) (v_iv (n_v vs 3)) (v_iv (n_v vs 6)) (v_iv (n_v vs 8)) (v_iv (n_v vs 10)) (v_iv (n_v vs 11)) (v_iv (n_v vs 13)) (v_iv (n_v vs 14)) (v_iv (n_v vs 15)) (v_iv (n_v vs 16)) (v_iv (n_v vs 17)) (v_iv (n_v vs 18)) (v_iv (n_v vs 19)) (v_iv (n_v vs 21)) (v_iv (n_v vs 22)) (v_iv (n_v vs 23)) (v_iv (n_v vs 24)) (w_fi ws (n_v vs 0) 5) (w_fi ws (n_v vs 0) 8) (w_fi ws (n_v vs 0) 15) (w_fi ws (n_v vs 0) 11) (w_fi ws (n_v vs 0) 12) (w_ei w1 (w_ar ws (n_v vs 0) 2)) (w_fi w1 (n_v vs 0) 5) (w_ei w1 (w_ar ws (n_v vs 0) 3)) (w_ei w1 (w_ar ws (n_v vs 0) 4)) (w_fi w1 (n_v vs 0) 15) (w_fi w1 (n_v vs 0) 11) (w_fi w1 (n_v vs 0) 12) (w_fi w1 (n_v vs 0) 8) (w_ei w1 (w_ar ws (n_v vs 0) 1)) (w_fi w1 (n_v vs 0) 10) (w_fi w1 (n_v vs 0) 13) (w_fi w1 (n_v vs 0) 14) (w_fi w1 (n_v vs 0) 9) (w_fi ws (n_v vs 0) 9) (w_fi ws (n_v vs 0) 10) (w_fi ws (n_v vs 0) 13) (w_fi ws (n_v vs 0) 14) (w_ei ws (w_ar ws (n_v vs 0) 1)) (w_ei ws (w_ar ws (n_v vs 0) 2)) (w_ei ws (w_ar ws (n_v vs 0) 3)) (w_ei ws (w_ar ws (n_v vs 0) 4)) (v_iv (Value.int x)) (v_iv (Value.int y)) (v_iv (Value.int u)) k1 k2 k3 k6 k8 k10 k11 k13 k14 k15 k16 k17 k18 k19 k21 k22 k23 k24 d0 d1 d2 d3 g0 g2 f3 f4 f5 f6 f7 f8 f9 f10 f11 f12 f13 f14 f15 f16 f17 f18 f19 f20 f21 f22 f24 f25 f26 f27 f28 f29 f30 f31 f32 f33 f34 f35 f36 f37 f38 f39 f40 f41 f42 f43 f44 f45 f46 f47 f48 f49 f50 f52 f53 f54 f55 f56 f57 f58 f59 f60 f61 f62 f63 f65 f66 f67 f68 fe_0_5_1 fe_0_8_1 fe_0_9_1 fe_0_10_1 fe_0_11_1 fe_0_12_1 fe_0_13_1 fe_0_14_1 fe_0_15_1 hE_0_1_1 hK_0_1 hE_0_2_1 hE_0_3_1 hK_0_3 hE_0_4_1 hK_0_4 kz_0_8 kz_0_9 kz_0_10 kz_0_11 kz_0_12 kz_0_13 kz_0_14 kz_0_15 ex2 ex3 ey2 ey3 eu2 eu3
  exact ⟨(fun _ h => (by cases h)), [Value.int x, Value.int y, Value.int u], ag_three hx hy hu, List.forall_mem_cons.mpr ⟨⟨show (20 : Nat) < 100 from by decide, nf0⟩, List.forall_mem_cons.mpr ⟨⟨show (20 : Nat) < 100 from by decide, nf1⟩, List.forall_mem_cons.mpr ⟨⟨show (23 : Nat) < 100 from by decide, nf2⟩, List.forall_mem_cons.mpr ⟨⟨show (23 : Nat) < 100 from by decide, nf3⟩, List.forall_mem_cons.mpr ⟨⟨show (23 : Nat) < 100 from by decide, nf4⟩, List.forall_mem_cons.mpr ⟨⟨show (23 : Nat) < 100 from by decide, nf5⟩, List.forall_mem_cons.mpr ⟨⟨show (23 : Nat) < 100 from by decide, nf6⟩, List.forall_mem_cons.mpr ⟨⟨show (23 : Nat) < 100 from by decide, nf7⟩, List.forall_mem_cons.mpr ⟨⟨show (20 : Nat) < 100 from by decide, nf8⟩, List.forall_mem_cons.mpr ⟨⟨show (20 : Nat) < 100 from by decide, nf9⟩, List.forall_mem_cons.mpr ⟨⟨show (20 : Nat) < 100 from by decide, nf10⟩, List.forall_mem_cons.mpr ⟨⟨show (20 : Nat) < 100 from by decide, nf11⟩, List.forall_mem_cons.mpr ⟨⟨show (20 : Nat) < 100 from by decide, nf12⟩, (fun _ h => (by cases h))⟩⟩⟩⟩⟩⟩⟩⟩⟩⟩⟩⟩⟩, (fun _ h => (by cases h))⟩
set_option maxHeartbeats 4000000 in
theorem vc_Mo_item_at_k3_14_0 (x1 : Int) (x2 : Int) (x3 : Int) (x6 : Int) (x8 : Int) (x10 : Int) (x11 : Int) (x13 : Int) (x14 : Int) (x15 : Int) (x16 : Int) (x17 : Int) (x18 : Int) (x21 : Int) (x22 : Int) (x23 : Int) (x24 : Int) (x26 : Int) (x27 : Int) (x28 : Int) (r_0 : Int) (all_0 : Int → Int) (now_0 : Int → Int) (latest_0 : Int → Int) (from_0 : Int) (pos_0 : Int) (kind_0 : Int) (fault_0 : Int) (tape_0 : Int → Int) (limit_0 : Int) (place_0 : Int) (value_0 : Int) (faultPlace_0 : Int) (k1 : 0 ≤ x1 ∧ x1 ≤ 7) (k2 : 3 ≤ x2 ∧ x2 ≤ 3) (k3 : 0 ≤ x3 ∧ x3 ≤ 2000) (k6 : 0 ≤ x6 ∧ x6 ≤ 2000) (k8 : 0 ≤ x8 ∧ x8 ≤ 2000) (k10 : 0 ≤ x10 ∧ x10 ≤ 4) (k11 : 0 ≤ x11 ∧ x11 ≤ 23) (k13 : 99 ≤ x13 ∧ x13 ≤ 99) (k14 : 0 ≤ x14 ∧ x14 ≤ 2000) (k15 : (-1) ≤ x15 ∧ x15 ≤ 48) (k16 : 0 ≤ x16 ∧ x16 ≤ 7) (k17 : 0 ≤ x17 ∧ x17 ≤ 4) (k18 : 1 ≤ x18 ∧ x18 ≤ 99) (k21 : 0 ≤ x21 ∧ x21 ≤ 66297) (k22 : 219 ≤ x22 ∧ x22 ≤ 219) (k23 : 219 ≤ x23 ∧ x23 ≤ 66516) (k24 : 219 ≤ x24 ∧ x24 ≤ 66539) (k26 : 0 ≤ x26 ∧ x26 ≤ 2000) (k27 : 0 ≤ x27 ∧ x27 ≤ 7) (k28 : 0 ≤ x28 ∧ x28 ≤ 4) (d0 : x11 + 219 ≤ x24 ∧ x24 ≤ x11 + 66516) (d1 : x23 + 0 ≤ x24 ∧ x24 ≤ x23 + 23) (d2 : x21 + 219 ≤ x24 ∧ x24 ≤ x21 + 242) (d3 : x21 + 219 ≤ x23 ∧ x23 ≤ x21 + 219) (g0 : x21 = r_0) (f2 : (x1 + 1) ≤ all_0 ((r_0 + 2))) (f3 : RWS (r_0) (all_0) (now_0) (latest_0)) (f4 : 1 * x26 + ((-1) * x3 + 0) ≤ 0) (f5 : (-1) * x26 + (1 * x3 + 0) ≤ 0) (f6 : 1 * x27 + ((-1) * x1 + 0) ≤ 0) (f7 : (-1) * x27 + (1 * x1 + 0) ≤ 0) (f8 : 1 * x28 + ((-1) * x2 + 0) ≤ 0) (f9 : (-1) * x28 + (1 * x2 + 0) ≤ 0) (f10 : 1 * x14 + ((-1) * x3 + 0) ≤ 0) (f11 : (-1) * x14 + (1 * x3 + 0) ≤ 0) (f12 : 1 * x15 + ((-1) * x11 + 0) ≤ 0) (f13 : (-1) * x15 + (1 * x11 + 0) ≤ 0) (f14 : 1 * x16 + ((-1) * x1 + 0) ≤ 0) (f15 : (-1) * x16 + (1 * x1 + 0) ≤ 0) (f16 : 1 * x17 + ((-1) * x2 + 0) ≤ 0) (f17 : (-1) * x17 + (1 * x2 + 0) ≤ 0) (f18 : 1 * x8 + ((-1) * x3 + 0) ≤ 0) (f19 : (-1) * x8 + (1 * x3 + 0) ≤ 0) (f20 : 1 * x10 + ((-1) * x2 + 0) ≤ 0) (f21 : (-1) * x10 + (1 * x2 + 0) ≤ 0) (f22 : 1 * x3 + ((-1) * x6 + 0) ≤ 0) (f23 : 1 * x18 + ((-1) * x13 + 0) ≤ 0) (f24 : (-1) * x18 + 0 ≤ 0) (f25 : 1 * from_0 + ((-1) * pos_0 + 0) ≤ 0) (f26 : ((kind_0 = 1) → (pos_0 ≤ (from_0 + 8))) ∧ ((kind_0 = 0) ∨ ((from_0 + 1) ≤ pos_0))) (f27 : 1 * x26 + ((-1) * pos_0 + 0) ≤ 0) (f28 : (1 ≤ fault_0) ∨ ((x26 + 1) ≤ pos_0)) (f29 : zOS0 (limit_0) (pos_0) (kind_0) (place_0) (value_0) (from_0) (fault_0) (faultPlace_0) (r_0) (tape_0) (all_0) (x27) (x28)) (f31 : 1 * x26 + ((-1) * x3 + 0) ≤ 0) (f32 : (-1) * x26 + (1 * x3 + 0) ≤ 0) (f33 : 1 * x27 + ((-1) * x1 + 0) ≤ 0) (f34 : (-1) * x27 + (1 * x1 + 0) ≤ 0) (f35 : 1 * x28 + ((-1) * x2 + 0) ≤ 0) (f36 : (-1) * x28 + (1 * x2 + 0) ≤ 0) (f37 : 1 * x14 + ((-1) * x3 + 0) ≤ 0) (f38 : (-1) * x14 + (1 * x3 + 0) ≤ 0) (f39 : 1 * x15 + ((-1) * x11 + 0) ≤ 0) (f40 : (-1) * x15 + (1 * x11 + 0) ≤ 0) (f41 : 1 * x16 + ((-1) * x1 + 0) ≤ 0) (f42 : (-1) * x16 + (1 * x1 + 0) ≤ 0) (f43 : 1 * x17 + ((-1) * x2 + 0) ≤ 0) (f44 : (-1) * x17 + (1 * x2 + 0) ≤ 0) (f45 : 1 * x8 + ((-1) * x3 + 0) ≤ 0) (f46 : (-1) * x8 + (1 * x3 + 0) ≤ 0) (f47 : 1 * x10 + ((-1) * x2 + 0) ≤ 0) (f48 : (-1) * x10 + (1 * x2 + 0) ≤ 0) (f50 : x24 = x23 + x11) (f51 : x23 = x21 + x22) (f52 : 0 < x18) (f53 : 1 * x14 + ((-1) * x3 + 0) ≤ 0) (f54 : (-1) * x14 + (1 * x3 + 0) ≤ 0) (f55 : 1 * x15 + ((-1) * x11 + 0) ≤ 0) (f56 : (-1) * x15 + (1 * x11 + 0) ≤ 0) (f57 : 1 * x16 + ((-1) * x1 + 0) ≤ 0) (f58 : (-1) * x16 + (1 * x1 + 0) ≤ 0) (f59 : 1 * x17 + ((-1) * x2 + 0) ≤ 0) (f60 : (-1) * x17 + (1 * x2 + 0) ≤ 0) (f61 : 1 * x8 + ((-1) * x3 + 0) ≤ 0) (f62 : (-1) * x8 + (1 * x3 + 0) ≤ 0) (f63 : 1 * x10 + ((-1) * x2 + 0) ≤ 0) (f64 : (-1) * x10 + (1 * x2 + 0) ≤ 0) (f66 : 1 * x14 + ((-1) * x3 + 0) ≤ 0) (f67 : (-1) * x14 + (1 * x3 + 0) ≤ 0) (f68 : 1 * x15 + ((-1) * x11 + 0) ≤ 0) (f69 : (-1) * x15 + (1 * x11 + 0) ≤ 0) (f70 : 1 * x16 + ((-1) * x1 + 0) ≤ 0) (f71 : (-1) * x16 + (1 * x1 + 0) ≤ 0) (f72 : 1 * x17 + ((-1) * x2 + 0) ≤ 0) (f73 : (-1) * x17 + (1 * x2 + 0) ≤ 0) (f74 : 1 * x8 + ((-1) * x3 + 0) ≤ 0) (f75 : (-1) * x8 + (1 * x3 + 0) ≤ 0) (f76 : 1 * x10 + ((-1) * x2 + 0) ≤ 0) (f77 : (-1) * x10 + (1 * x2 + 0) ≤ 0) (f79 : 1 * x8 + ((-1) * x3 + 0) ≤ 0) (f80 : (-1) * x8 + (1 * x3 + 0) ≤ 0) (f81 : 1 * x10 + ((-1) * x2 + 0) ≤ 0) (f82 : (-1) * x10 + (1 * x2 + 0) ≤ 0) (hK_0_1 : ∀ j : Int, 0 ≤ j → j < 2000 → (-128) ≤ tape_0 j ∧ tape_0 j ≤ 127) (hK_0_3 : ∀ j : Int, 0 ≤ j → j < 4 → 0 ≤ now_0 j ∧ now_0 j ≤ 30) (hK_0_4 : ∀ j : Int, 0 ≤ j → j < 4 → 0 ≤ latest_0 j ∧ latest_0 j ≤ 30) (kz_0_8 : 0 ≤ fault_0 ∧ fault_0 ≤ 5) (kz_0_9 : 0 ≤ faultPlace_0 ∧ faultPlace_0 ≤ 2000) (kz_0_10 : 0 ≤ limit_0 ∧ limit_0 ≤ 2000) (kz_0_11 : 0 ≤ pos_0 ∧ pos_0 ≤ 2000) (kz_0_12 : 0 ≤ kind_0 ∧ kind_0 ≤ 4) (kz_0_13 : 0 ≤ place_0 ∧ place_0 ≤ 2000) (kz_0_14 : (-49) ≤ value_0 ∧ value_0 ≤ 1048575) (kz_0_15 : 0 ≤ from_0 ∧ from_0 ≤ 2000) : 1 * x3 + ((-1) * pos_0 + 0) ≤ 0 := by
  first
    | omega
    | (have q1 := (hE_0_2_1 (r_0 + 2) (by omega)).2 (by omega)
       have q2 := (hE_0_2_2 (r_0 + 2) (by omega)).2 (by omega)
       omega)
    | (have q1 := (hE_0_2_1 (r_0 + 1) (by omega)).2 (by omega)
       have q2 := (hE_0_2_2 (r_0 + 1) (by omega)).2 (by omega)
       omega)
    | (have q1 := (hE_0_2_1 (r_0 + 2) (by omega)).2 (by omega)
       omega)
    | (have q1 := (hE_0_2_1 (r_0 + 1) (by omega)).2 (by omega)
       omega)
    | (have q1 := (hE_0_2_1 (r_0 + 2) (by omega)).2 (by omega)
       have q2 := (hE_0_2_2 (r_0 + 2) (by omega)).2 (by omega)
       have q3 := (hE_0_2_3 (r_0 + 2) (by omega)).1 (by omega)
       omega)
    | (have q1 := (hE_0_2_1 (r_0 + 2) (by omega)).2 (by omega)
       have q2 := (hE_0_2_2 (r_0 + 2) (by omega)).2 (by omega)
       have q3 := (hE_0_2_3 (r_0 + 2) (by omega)).2 (by omega)
       omega)
set_option maxHeartbeats 4000000 in
theorem vc_Mo_item_at_k3_14_1 (x1 : Int) (x2 : Int) (x3 : Int) (x6 : Int) (x8 : Int) (x10 : Int) (x11 : Int) (x13 : Int) (x14 : Int) (x15 : Int) (x16 : Int) (x17 : Int) (x18 : Int) (x21 : Int) (x22 : Int) (x23 : Int) (x24 : Int) (x26 : Int) (x27 : Int) (x28 : Int) (r_0 : Int) (all_0 : Int → Int) (now_0 : Int → Int) (latest_0 : Int → Int) (from_0 : Int) (pos_0 : Int) (kind_0 : Int) (fault_0 : Int) (tape_0 : Int → Int) (limit_0 : Int) (place_0 : Int) (value_0 : Int) (faultPlace_0 : Int) (k1 : 0 ≤ x1 ∧ x1 ≤ 7) (k2 : 3 ≤ x2 ∧ x2 ≤ 3) (k3 : 0 ≤ x3 ∧ x3 ≤ 2000) (k6 : 0 ≤ x6 ∧ x6 ≤ 2000) (k8 : 0 ≤ x8 ∧ x8 ≤ 2000) (k10 : 0 ≤ x10 ∧ x10 ≤ 4) (k11 : 0 ≤ x11 ∧ x11 ≤ 23) (k13 : 99 ≤ x13 ∧ x13 ≤ 99) (k14 : 0 ≤ x14 ∧ x14 ≤ 2000) (k15 : (-1) ≤ x15 ∧ x15 ≤ 48) (k16 : 0 ≤ x16 ∧ x16 ≤ 7) (k17 : 0 ≤ x17 ∧ x17 ≤ 4) (k18 : 1 ≤ x18 ∧ x18 ≤ 99) (k21 : 0 ≤ x21 ∧ x21 ≤ 66297) (k22 : 219 ≤ x22 ∧ x22 ≤ 219) (k23 : 219 ≤ x23 ∧ x23 ≤ 66516) (k24 : 219 ≤ x24 ∧ x24 ≤ 66539) (k26 : 0 ≤ x26 ∧ x26 ≤ 2000) (k27 : 0 ≤ x27 ∧ x27 ≤ 7) (k28 : 0 ≤ x28 ∧ x28 ≤ 4) (d0 : x11 + 219 ≤ x24 ∧ x24 ≤ x11 + 66516) (d1 : x23 + 0 ≤ x24 ∧ x24 ≤ x23 + 23) (d2 : x21 + 219 ≤ x24 ∧ x24 ≤ x21 + 242) (d3 : x21 + 219 ≤ x23 ∧ x23 ≤ x21 + 219) (g0 : x21 = r_0) (f2 : (x1 + 1) ≤ all_0 ((r_0 + 2))) (f3 : RWS (r_0) (all_0) (now_0) (latest_0)) (f4 : 1 * x26 + ((-1) * x3 + 0) ≤ 0) (f5 : (-1) * x26 + (1 * x3 + 0) ≤ 0) (f6 : 1 * x27 + ((-1) * x1 + 0) ≤ 0) (f7 : (-1) * x27 + (1 * x1 + 0) ≤ 0) (f8 : 1 * x28 + ((-1) * x2 + 0) ≤ 0) (f9 : (-1) * x28 + (1 * x2 + 0) ≤ 0) (f10 : 1 * x14 + ((-1) * x3 + 0) ≤ 0) (f11 : (-1) * x14 + (1 * x3 + 0) ≤ 0) (f12 : 1 * x15 + ((-1) * x11 + 0) ≤ 0) (f13 : (-1) * x15 + (1 * x11 + 0) ≤ 0) (f14 : 1 * x16 + ((-1) * x1 + 0) ≤ 0) (f15 : (-1) * x16 + (1 * x1 + 0) ≤ 0) (f16 : 1 * x17 + ((-1) * x2 + 0) ≤ 0) (f17 : (-1) * x17 + (1 * x2 + 0) ≤ 0) (f18 : 1 * x8 + ((-1) * x3 + 0) ≤ 0) (f19 : (-1) * x8 + (1 * x3 + 0) ≤ 0) (f20 : 1 * x10 + ((-1) * x2 + 0) ≤ 0) (f21 : (-1) * x10 + (1 * x2 + 0) ≤ 0) (f22 : 1 * x3 + ((-1) * x6 + 0) ≤ 0) (f23 : 1 * x18 + ((-1) * x13 + 0) ≤ 0) (f24 : (-1) * x18 + 0 ≤ 0) (f25 : 1 * from_0 + ((-1) * pos_0 + 0) ≤ 0) (f26 : ((kind_0 = 1) → (pos_0 ≤ (from_0 + 8))) ∧ ((kind_0 = 0) ∨ ((from_0 + 1) ≤ pos_0))) (f27 : 1 * x26 + ((-1) * pos_0 + 0) ≤ 0) (f28 : (1 ≤ fault_0) ∨ ((x26 + 1) ≤ pos_0)) (f29 : zOS0 (limit_0) (pos_0) (kind_0) (place_0) (value_0) (from_0) (fault_0) (faultPlace_0) (r_0) (tape_0) (all_0) (x27) (x28)) (f31 : 1 * x26 + ((-1) * x3 + 0) ≤ 0) (f32 : (-1) * x26 + (1 * x3 + 0) ≤ 0) (f33 : 1 * x27 + ((-1) * x1 + 0) ≤ 0) (f34 : (-1) * x27 + (1 * x1 + 0) ≤ 0) (f35 : 1 * x28 + ((-1) * x2 + 0) ≤ 0) (f36 : (-1) * x28 + (1 * x2 + 0) ≤ 0) (f37 : 1 * x14 + ((-1) * x3 + 0) ≤ 0) (f38 : (-1) * x14 + (1 * x3 + 0) ≤ 0) (f39 : 1 * x15 + ((-1) * x11 + 0) ≤ 0) (f40 : (-1) * x15 + (1 * x11 + 0) ≤ 0) (f41 : 1 * x16 + ((-1) * x1 + 0) ≤ 0) (f42 : (-1) * x16 + (1 * x1 + 0) ≤ 0) (f43 : 1 * x17 + ((-1) * x2 + 0) ≤ 0) (f44 : (-1) * x17 + (1 * x2 + 0) ≤ 0) (f45 : 1 * x8 + ((-1) * x3 + 0) ≤ 0) (f46 : (-1) * x8 + (1 * x3 + 0) ≤ 0) (f47 : 1 * x10 + ((-1) * x2 + 0) ≤ 0) (f48 : (-1) * x10 + (1 * x2 + 0) ≤ 0) (f50 : x24 = x23 + x11) (f51 : x23 = x21 + x22) (f52 : 0 < x18) (f53 : 1 * x14 + ((-1) * x3 + 0) ≤ 0) (f54 : (-1) * x14 + (1 * x3 + 0) ≤ 0) (f55 : 1 * x15 + ((-1) * x11 + 0) ≤ 0) (f56 : (-1) * x15 + (1 * x11 + 0) ≤ 0) (f57 : 1 * x16 + ((-1) * x1 + 0) ≤ 0) (f58 : (-1) * x16 + (1 * x1 + 0) ≤ 0) (f59 : 1 * x17 + ((-1) * x2 + 0) ≤ 0) (f60 : (-1) * x17 + (1 * x2 + 0) ≤ 0) (f61 : 1 * x8 + ((-1) * x3 + 0) ≤ 0) (f62 : (-1) * x8 + (1 * x3 + 0) ≤ 0) (f63 : 1 * x10 + ((-1) * x2 + 0) ≤ 0) (f64 : (-1) * x10 + (1 * x2 + 0) ≤ 0) (f66 : 1 * x14 + ((-1) * x3 + 0) ≤ 0) (f67 : (-1) * x14 + (1 * x3 + 0) ≤ 0) (f68 : 1 * x15 + ((-1) * x11 + 0) ≤ 0) (f69 : (-1) * x15 + (1 * x11 + 0) ≤ 0) (f70 : 1 * x16 + ((-1) * x1 + 0) ≤ 0) (f71 : (-1) * x16 + (1 * x1 + 0) ≤ 0) (f72 : 1 * x17 + ((-1) * x2 + 0) ≤ 0) (f73 : (-1) * x17 + (1 * x2 + 0) ≤ 0) (f74 : 1 * x8 + ((-1) * x3 + 0) ≤ 0) (f75 : (-1) * x8 + (1 * x3 + 0) ≤ 0) (f76 : 1 * x10 + ((-1) * x2 + 0) ≤ 0) (f77 : (-1) * x10 + (1 * x2 + 0) ≤ 0) (f79 : 1 * x8 + ((-1) * x3 + 0) ≤ 0) (f80 : (-1) * x8 + (1 * x3 + 0) ≤ 0) (f81 : 1 * x10 + ((-1) * x2 + 0) ≤ 0) (f82 : (-1) * x10 + (1 * x2 + 0) ≤ 0) (hK_0_1 : ∀ j : Int, 0 ≤ j → j < 2000 → (-128) ≤ tape_0 j ∧ tape_0 j ≤ 127) (hK_0_3 : ∀ j : Int, 0 ≤ j → j < 4 → 0 ≤ now_0 j ∧ now_0 j ≤ 30) (hK_0_4 : ∀ j : Int, 0 ≤ j → j < 4 → 0 ≤ latest_0 j ∧ latest_0 j ≤ 30) (kz_0_8 : 0 ≤ fault_0 ∧ fault_0 ≤ 5) (kz_0_9 : 0 ≤ faultPlace_0 ∧ faultPlace_0 ≤ 2000) (kz_0_10 : 0 ≤ limit_0 ∧ limit_0 ≤ 2000) (kz_0_11 : 0 ≤ pos_0 ∧ pos_0 ≤ 2000) (kz_0_12 : 0 ≤ kind_0 ∧ kind_0 ≤ 4) (kz_0_13 : 0 ≤ place_0 ∧ place_0 ≤ 2000) (kz_0_14 : (-49) ≤ value_0 ∧ value_0 ≤ 1048575) (kz_0_15 : 0 ≤ from_0 ∧ from_0 ≤ 2000) : (1 ≤ fault_0) ∨ ((x3 + 1) ≤ pos_0) := by
  first
    | omega
    | (have q1 := (hE_0_2_1 (r_0 + 2) (by omega)).2 (by omega)
       have q2 := (hE_0_2_2 (r_0 + 2) (by omega)).2 (by omega)
       omega)
    | (have q1 := (hE_0_2_1 (r_0 + 1) (by omega)).2 (by omega)
       have q2 := (hE_0_2_2 (r_0 + 1) (by omega)).2 (by omega)
       omega)
    | (have q1 := (hE_0_2_1 (r_0 + 2) (by omega)).2 (by omega)
       omega)
    | (have q1 := (hE_0_2_1 (r_0 + 1) (by omega)).2 (by omega)
       omega)
    | (have q1 := (hE_0_2_1 (r_0 + 2) (by omega)).2 (by omega)
       have q2 := (hE_0_2_2 (r_0 + 2) (by omega)).2 (by omega)
       have q3 := (hE_0_2_3 (r_0 + 2) (by omega)).1 (by omega)
       omega)
    | (have q1 := (hE_0_2_1 (r_0 + 2) (by omega)).2 (by omega)
       have q2 := (hE_0_2_2 (r_0 + 2) (by omega)).2 (by omega)
       have q3 := (hE_0_2_3 (r_0 + 2) (by omega)).2 (by omega)
       omega)
set_option maxHeartbeats 4000000 in
theorem vc_Mo_item_at_k3_14_2 (x1 : Int) (x2 : Int) (x3 : Int) (x6 : Int) (x8 : Int) (x10 : Int) (x11 : Int) (x13 : Int) (x14 : Int) (x15 : Int) (x16 : Int) (x17 : Int) (x18 : Int) (x21 : Int) (x22 : Int) (x23 : Int) (x24 : Int) (x26 : Int) (x27 : Int) (x28 : Int) (r_0 : Int) (all_0 : Int → Int) (now_0 : Int → Int) (latest_0 : Int → Int) (from_0 : Int) (pos_0 : Int) (kind_0 : Int) (fault_0 : Int) (tape_0 : Int → Int) (limit_0 : Int) (place_0 : Int) (value_0 : Int) (faultPlace_0 : Int) (k1 : 0 ≤ x1 ∧ x1 ≤ 7) (k2 : 3 ≤ x2 ∧ x2 ≤ 3) (k3 : 0 ≤ x3 ∧ x3 ≤ 2000) (k6 : 0 ≤ x6 ∧ x6 ≤ 2000) (k8 : 0 ≤ x8 ∧ x8 ≤ 2000) (k10 : 0 ≤ x10 ∧ x10 ≤ 4) (k11 : 0 ≤ x11 ∧ x11 ≤ 23) (k13 : 99 ≤ x13 ∧ x13 ≤ 99) (k14 : 0 ≤ x14 ∧ x14 ≤ 2000) (k15 : (-1) ≤ x15 ∧ x15 ≤ 48) (k16 : 0 ≤ x16 ∧ x16 ≤ 7) (k17 : 0 ≤ x17 ∧ x17 ≤ 4) (k18 : 1 ≤ x18 ∧ x18 ≤ 99) (k21 : 0 ≤ x21 ∧ x21 ≤ 66297) (k22 : 219 ≤ x22 ∧ x22 ≤ 219) (k23 : 219 ≤ x23 ∧ x23 ≤ 66516) (k24 : 219 ≤ x24 ∧ x24 ≤ 66539) (k26 : 0 ≤ x26 ∧ x26 ≤ 2000) (k27 : 0 ≤ x27 ∧ x27 ≤ 7) (k28 : 0 ≤ x28 ∧ x28 ≤ 4) (d0 : x11 + 219 ≤ x24 ∧ x24 ≤ x11 + 66516) (d1 : x23 + 0 ≤ x24 ∧ x24 ≤ x23 + 23) (d2 : x21 + 219 ≤ x24 ∧ x24 ≤ x21 + 242) (d3 : x21 + 219 ≤ x23 ∧ x23 ≤ x21 + 219) (g0 : x21 = r_0) (f2 : (x1 + 1) ≤ all_0 ((r_0 + 2))) (f3 : RWS (r_0) (all_0) (now_0) (latest_0)) (f4 : 1 * x26 + ((-1) * x3 + 0) ≤ 0) (f5 : (-1) * x26 + (1 * x3 + 0) ≤ 0) (f6 : 1 * x27 + ((-1) * x1 + 0) ≤ 0) (f7 : (-1) * x27 + (1 * x1 + 0) ≤ 0) (f8 : 1 * x28 + ((-1) * x2 + 0) ≤ 0) (f9 : (-1) * x28 + (1 * x2 + 0) ≤ 0) (f10 : 1 * x14 + ((-1) * x3 + 0) ≤ 0) (f11 : (-1) * x14 + (1 * x3 + 0) ≤ 0) (f12 : 1 * x15 + ((-1) * x11 + 0) ≤ 0) (f13 : (-1) * x15 + (1 * x11 + 0) ≤ 0) (f14 : 1 * x16 + ((-1) * x1 + 0) ≤ 0) (f15 : (-1) * x16 + (1 * x1 + 0) ≤ 0) (f16 : 1 * x17 + ((-1) * x2 + 0) ≤ 0) (f17 : (-1) * x17 + (1 * x2 + 0) ≤ 0) (f18 : 1 * x8 + ((-1) * x3 + 0) ≤ 0) (f19 : (-1) * x8 + (1 * x3 + 0) ≤ 0) (f20 : 1 * x10 + ((-1) * x2 + 0) ≤ 0) (f21 : (-1) * x10 + (1 * x2 + 0) ≤ 0) (f22 : 1 * x3 + ((-1) * x6 + 0) ≤ 0) (f23 : 1 * x18 + ((-1) * x13 + 0) ≤ 0) (f24 : (-1) * x18 + 0 ≤ 0) (f25 : 1 * from_0 + ((-1) * pos_0 + 0) ≤ 0) (f26 : ((kind_0 = 1) → (pos_0 ≤ (from_0 + 8))) ∧ ((kind_0 = 0) ∨ ((from_0 + 1) ≤ pos_0))) (f27 : 1 * x26 + ((-1) * pos_0 + 0) ≤ 0) (f28 : (1 ≤ fault_0) ∨ ((x26 + 1) ≤ pos_0)) (f29 : zOS0 (limit_0) (pos_0) (kind_0) (place_0) (value_0) (from_0) (fault_0) (faultPlace_0) (r_0) (tape_0) (all_0) (x27) (x28)) (f31 : 1 * x26 + ((-1) * x3 + 0) ≤ 0) (f32 : (-1) * x26 + (1 * x3 + 0) ≤ 0) (f33 : 1 * x27 + ((-1) * x1 + 0) ≤ 0) (f34 : (-1) * x27 + (1 * x1 + 0) ≤ 0) (f35 : 1 * x28 + ((-1) * x2 + 0) ≤ 0) (f36 : (-1) * x28 + (1 * x2 + 0) ≤ 0) (f37 : 1 * x14 + ((-1) * x3 + 0) ≤ 0) (f38 : (-1) * x14 + (1 * x3 + 0) ≤ 0) (f39 : 1 * x15 + ((-1) * x11 + 0) ≤ 0) (f40 : (-1) * x15 + (1 * x11 + 0) ≤ 0) (f41 : 1 * x16 + ((-1) * x1 + 0) ≤ 0) (f42 : (-1) * x16 + (1 * x1 + 0) ≤ 0) (f43 : 1 * x17 + ((-1) * x2 + 0) ≤ 0) (f44 : (-1) * x17 + (1 * x2 + 0) ≤ 0) (f45 : 1 * x8 + ((-1) * x3 + 0) ≤ 0) (f46 : (-1) * x8 + (1 * x3 + 0) ≤ 0) (f47 : 1 * x10 + ((-1) * x2 + 0) ≤ 0) (f48 : (-1) * x10 + (1 * x2 + 0) ≤ 0) (f50 : x24 = x23 + x11) (f51 : x23 = x21 + x22) (f52 : 0 < x18) (f53 : 1 * x14 + ((-1) * x3 + 0) ≤ 0) (f54 : (-1) * x14 + (1 * x3 + 0) ≤ 0) (f55 : 1 * x15 + ((-1) * x11 + 0) ≤ 0) (f56 : (-1) * x15 + (1 * x11 + 0) ≤ 0) (f57 : 1 * x16 + ((-1) * x1 + 0) ≤ 0) (f58 : (-1) * x16 + (1 * x1 + 0) ≤ 0) (f59 : 1 * x17 + ((-1) * x2 + 0) ≤ 0) (f60 : (-1) * x17 + (1 * x2 + 0) ≤ 0) (f61 : 1 * x8 + ((-1) * x3 + 0) ≤ 0) (f62 : (-1) * x8 + (1 * x3 + 0) ≤ 0) (f63 : 1 * x10 + ((-1) * x2 + 0) ≤ 0) (f64 : (-1) * x10 + (1 * x2 + 0) ≤ 0) (f66 : 1 * x14 + ((-1) * x3 + 0) ≤ 0) (f67 : (-1) * x14 + (1 * x3 + 0) ≤ 0) (f68 : 1 * x15 + ((-1) * x11 + 0) ≤ 0) (f69 : (-1) * x15 + (1 * x11 + 0) ≤ 0) (f70 : 1 * x16 + ((-1) * x1 + 0) ≤ 0) (f71 : (-1) * x16 + (1 * x1 + 0) ≤ 0) (f72 : 1 * x17 + ((-1) * x2 + 0) ≤ 0) (f73 : (-1) * x17 + (1 * x2 + 0) ≤ 0) (f74 : 1 * x8 + ((-1) * x3 + 0) ≤ 0) (f75 : (-1) * x8 + (1 * x3 + 0) ≤ 0) (f76 : 1 * x10 + ((-1) * x2 + 0) ≤ 0) (f77 : (-1) * x10 + (1 * x2 + 0) ≤ 0) (f79 : 1 * x8 + ((-1) * x3 + 0) ≤ 0) (f80 : (-1) * x8 + (1 * x3 + 0) ≤ 0) (f81 : 1 * x10 + ((-1) * x2 + 0) ≤ 0) (f82 : (-1) * x10 + (1 * x2 + 0) ≤ 0) (hK_0_1 : ∀ j : Int, 0 ≤ j → j < 2000 → (-128) ≤ tape_0 j ∧ tape_0 j ≤ 127) (hK_0_3 : ∀ j : Int, 0 ≤ j → j < 4 → 0 ≤ now_0 j ∧ now_0 j ≤ 30) (hK_0_4 : ∀ j : Int, 0 ≤ j → j < 4 → 0 ≤ latest_0 j ∧ latest_0 j ≤ 30) (kz_0_8 : 0 ≤ fault_0 ∧ fault_0 ≤ 5) (kz_0_9 : 0 ≤ faultPlace_0 ∧ faultPlace_0 ≤ 2000) (kz_0_10 : 0 ≤ limit_0 ∧ limit_0 ≤ 2000) (kz_0_11 : 0 ≤ pos_0 ∧ pos_0 ≤ 2000) (kz_0_12 : 0 ≤ kind_0 ∧ kind_0 ≤ 4) (kz_0_13 : 0 ≤ place_0 ∧ place_0 ≤ 2000) (kz_0_14 : (-49) ≤ value_0 ∧ value_0 ≤ 1048575) (kz_0_15 : 0 ≤ from_0 ∧ from_0 ≤ 2000) : zOS0 (limit_0) (pos_0) (kind_0) (place_0) (value_0) (from_0) (fault_0) (faultPlace_0) (r_0) (tape_0) (all_0) (x1) (x2) := by
  first | (have el_x26 : x26 = x3 := by omega); subst el_x26 | skip
  first | (have el_x27 : x27 = x1 := by omega); subst el_x27 | skip
  first | (have el_x28 : x28 = x2 := by omega); subst el_x28 | skip
  first | (have el_x14 : x14 = x3 := by omega); subst el_x14 | skip
  first | (have el_x15 : x15 = x11 := by omega); subst el_x15 | skip
  first | (have el_x16 : x16 = x1 := by omega); subst el_x16 | skip
  first | (have el_x17 : x17 = x2 := by omega); subst el_x17 | skip
  first | (have el_x8 : x8 = x3 := by omega); subst el_x8 | skip
  first | (have el_x10 : x10 = x2 := by omega); subst el_x10 | skip
  first | subst g0 | skip
  assumption
def o_Mo_item_at_k3_14 : or_T := (94, 29, [(0, (2, 0, 0, [165])), (1, (0, 0, 7, [])), (2, (0, 3, 3, [])), (3, (0, 0, 2000, [])), (6, (0, 0, 2000, [])), (8, (0, 0, 2000, [])), (10, (0, 0, 4, [])), (11, (0, 0, 23, [])), (13, (0, 99, 99, [])), (14, (0, 0, 2000, [])), (15, (0, -1, 48, [])), (16, (0, 0, 7, [])), (17, (0, 0, 4, [])), (18, (0, 1, 99, [])), (21, (0, 0, 66297, [])), (22, (0, 219, 219, [])), (23, (0, 219, 66516, [])), (24, (0, 219, 66539, [])), (26, (0, 0, 2000, [])), (27, (0, 0, 7, [])), (28, (0, 0, 4, []))], [(9, [21, 0], [5]), (20, [1, 0], [50, 1, 1, 1005, 1002, 0, 6, 4, 2, 1, 0, 0, 1, 3, 1, 2, 4, 3, 2, 1, 5, 0, 2]), (20, [0], [60, 1, 3, 199, 5, 2, 3, 4]), (23, [26, 3], [0, 1, -1]), (23, [26, 3], [0, -1, 1]), (23, [27, 1], [0, 1, -1]), (23, [27, 1], [0, -1, 1]), (23, [28, 2], [0, 1, -1]), (23, [28, 2], [0, -1, 1]), (23, [14, 3], [0, 1, -1]), (23, [14, 3], [0, -1, 1]), (23, [15, 11], [0, 1, -1]), (23, [15, 11], [0, -1, 1]), (23, [16, 1], [0, 1, -1]), (23, [16, 1], [0, -1, 1]), (23, [17, 2], [0, 1, -1]), (23, [17, 2], [0, -1, 1]), (23, [8, 3], [0, 1, -1]), (23, [8, 3], [0, -1, 1]), (23, [10, 2], [0, 1, -1]), (23, [10, 2], [0, -1, 1]), (20, [3, 6], [30, 0, 1, 0, 0, -1, 0, 0]), (20, [18, 13], [30, 0, 1, 0, 0, -1, 0, 0]), (20, [18], [30, 0, -1, 0, 0]), (20, [0, 0], [30, 0, 1, 1, 15, -1, 1, 11]), (20, [0], [50, 3, 0, 12, 11, 15, 2, 21, 4, 7, 1, 3, 2, 0, 12, 0, 1, 0, 3, 2, 0, 11, 4, 3, 2, 0, 15, 0, 8, 3, 7, 1, 3, 2, 0, 12, 0, 0, 0, 7, 4, 3, 2, 0, 15, 0, 1, 2, 0, 11]), (20, [26, 0], [30, 0, 1, 0, 0, -1, 1, 11]), (20, [0, 26], [50, 2, 0, 8, 11, 3, 7, 0, 2, 0, 1, 2, 0, 8, 0, 6, 4, 2, 1, 1, 0, 1, 2, 0, 11]), (20, [0, 27, 28], [60, 9, 2, 1007, 10, 11, 12, 13, 14, 15, 8, 9, 5, 1, 2]), (102, [28], [0, 165008, 165009, 165011, 165012, 165013, 165014, 165015]), (23, [26, 3], [0, 1, -1]), (23, [26, 3], [0, -1, 1]), (23, [27, 1], [0, 1, -1]), (23, [27, 1], [0, -1, 1]), (23, [28, 2], [0, 1, -1]), (23, [28, 2], [0, -1, 1]), (23, [14, 3], [0, 1, -1]), (23, [14, 3], [0, -1, 1]), (23, [15, 11], [0, 1, -1]), (23, [15, 11], [0, -1, 1]), (23, [16, 1], [0, 1, -1]), (23, [16, 1], [0, -1, 1]), (23, [17, 2], [0, 1, -1]), (23, [17, 2], [0, -1, 1]), (23, [8, 3], [0, 1, -1]), (23, [8, 3], [0, -1, 1]), (23, [10, 2], [0, 1, -1]), (23, [10, 2], [0, -1, 1]), (100, [20, 24, 18], []), (1, [24, 23, 11], []), (1, [23, 21, 22], []), (8, [18], [4]), (23, [14, 3], [0, 1, -1]), (23, [14, 3], [0, -1, 1]), (23, [15, 11], [0, 1, -1]), (23, [15, 11], [0, -1, 1]), (23, [16, 1], [0, 1, -1]), (23, [16, 1], [0, -1, 1]), (23, [17, 2], [0, 1, -1]), (23, [17, 2], [0, -1, 1]), (23, [8, 3], [0, 1, -1]), (23, [8, 3], [0, -1, 1]), (23, [10, 2], [0, 1, -1]), (23, [10, 2], [0, -1, 1]), (102, [17], [0, 165008, 165009, 165011, 165012, 165013, 165014, 165015]), (23, [14, 3], [0, 1, -1]), (23, [14, 3], [0, -1, 1]), (23, [15, 11], [0, 1, -1]), (23, [15, 11], [0, -1, 1]), (23, [16, 1], [0, 1, -1]), (23, [16, 1], [0, -1, 1]), (23, [17, 2], [0, 1, -1]), (23, [17, 2], [0, -1, 1]), (23, [8, 3], [0, 1, -1]), (23, [8, 3], [0, -1, 1]), (23, [10, 2], [0, 1, -1]), (23, [10, 2], [0, -1, 1]), (102, [10], [187072209578355573530071658587684226515959365500928, 165008, 165009, 165011, 165012, 165013, 165014, 165015]), (23, [8, 3], [0, 1, -1]), (23, [8, 3], [0, -1, 1]), (23, [10, 2], [0, 1, -1]), (23, [10, 2], [0, -1, 1])], [], [], [(20, [3, 0], [30, 0, 1, 0, 0, -1, 1, 11]), (20, [0, 3], [50, 2, 0, 8, 11, 3, 7, 0, 2, 0, 1, 2, 0, 8, 0, 6, 4, 2, 1, 1, 0, 1, 2, 0, 11]), (20, [0, 1, 2], [60, 9, 2, 1007, 10, 11, 12, 13, 14, 15, 8, 9, 5, 1, 2])], [], [(24, 11, 219, 66516), (24, 23, 0, 23), (24, 21, 219, 242), (23, 21, 219, 219)])
theorem oo_Mo_item_at_k3_14 {kA : Nat → ClassId} : or_ok PRD kA GG o_Mo_item_at_k3_14 := by
  refine or_mk fun A ta ws vs hD hth hl => ?_
  intro t0 r0 t1 k1 t2 k2 t3 k3 t6 k6 t8 k8 t10 k10 t11 k11 t13 k13 t14 k14 t15 k15 t16 k16 t17 k17 t18 k18 t21 k21 t22 k22 t23 k23 t24 k24 t26 k26 t27 k27 t28 k28 d0 d1 d2 d3 f0 f2 f3 f4 f5 f6 f7 f8 f9 f10 f11 f12 f13 f14 f15 f16 f17 f18 f19 f20 f21 f22 f23 f24 f25 f26 f27 f28 f29 ta1 w1 le1 s1 f31 f32 f33 f34 f35 f36 f37 f38 f39 f40 f41 f42 f43 f44 f45 f46 f47 f48 ta2 w2 le2 s2 f50 f51 f52 f53 f54 f55 f56 f57 f58 f59 f60 f61 f62 f63 f64 ta3 w3 le3 s3 f66 f67 f68 f69 f70 f71 f72 f73 f74 f75 f76 f77 ta4 w4 le4 s4 f79 f80 f81 f82
  replace f0 := shm_110 f0
  have cr_0_1 := fdq_39 hD hth r0
  have cr_0_3 := fdq_142 hD hth r0
  have cr_0_4 := fdq_143 hD hth r0
  have g0 : v_iv (n_v vs 21) = w_fi ws (n_v vs 0) 5 := congrArg v_iv f0
  have hK_0_1 := elq_7 hD hth cr_0_1
  have hK_0_3 := elq_80 hD hth cr_0_3
  have hK_0_4 := elq_81 hD hth cr_0_4
  have kz_0_8 := fdq_34 hD hth r0
  have kz_0_9 := fdq_44 hD hth r0
  have kz_0_10 := fdq_43 hD hth r0
  have kz_0_11 := fdq_237 hD hth r0
  have kz_0_12 := fdq_187 hD hth r0
  have kz_0_13 := fdq_238 hD hth r0
  have kz_0_14 := fdq_188 hD hth r0
  have kz_0_15 := fdq_239 hD hth r0
  have nf0 : fc_1 PRD (20, [3, 0], [30, 0, 1, 0, 0, -1, 1, 11]) ws (vs) := ⟨nf_in hl rfl, sgq_1431 (vc_Mo_item_at_k3_14_0 (v_iv (n_v vs 1)) (v_iv (n_v vs 2)) (v_iv (n_v vs 3)) (v_iv (n_v vs 6)) (v_iv (n_v vs 8)) (v_iv (n_v vs 10)) (v_iv (n_v vs 11)) (v_iv (n_v vs 13)) (v_iv (n_v vs 14)) (v_iv (n_v vs 15)) (v_iv (n_v vs 16)) (v_iv (n_v vs 17)) (v_iv (n_v vs 18)) (v_iv (n_v vs 21)) (v_iv (n_v vs 22)) (v_iv (n_v vs 23)) (v_iv (n_v vs 24)) (v_iv (n_v vs 26)) (v_iv (n_v vs 27)) (v_iv (n_v vs 28)) (w_fi ws (n_v vs 0) 5) (w_ei ws (w_ar ws (n_v vs 0) 2)) (w_ei ws (w_ar ws (n_v vs 0) 3)) (w_ei ws (w_ar ws (n_v vs 0) 4)) (w_fi ws (n_v vs 0) 15) (w_fi ws (n_v vs 0) 11) (w_fi ws (n_v vs 0) 12) (w_fi ws (n_v vs 0) 8) (w_ei ws (w_ar ws (n_v vs 0) 1)) (w_fi ws (n_v vs 0) 10) (w_fi ws (n_v vs 0) 13) (w_fi ws (n_v vs 0) 14) (w_fi ws (n_v vs 0) 9) k1 k2 k3 k6 k8 k10 k11 k13 k14 k15 k16 k17 k18 k21 k22 k23 k24 k26 k27 k28 d0 d1 d2 d3 g0 (shm_1009 f2) (shm_980 f3) (shm_7 f4) (shm_22 f5) (shm_7 f6) (shm_22 f7) (shm_7 f8) (shm_22 f9) (shm_7 f10) (shm_22 f11) (shm_7 f12) (shm_22 f13) (shm_7 f14) (shm_22 f15) (shm_7 f16) (shm_22 f17) (shm_7 f18) (shm_22 f19) (shm_7 f20) (shm_22 f21) (shm_201 f22) (shm_201 f23) (shm_2002 f24) (shm_1437 f25) (shm_1438 f26) (shm_1431 f27) (shm_1726 f28) (shm_1727 f29) (shm_7 f31) (shm_22 f32) (shm_7 f33) (shm_22 f34) (shm_7 f35) (shm_22 f36) (shm_7 f37) (shm_22 f38) (shm_7 f39) (shm_22 f40) (shm_7 f41) (shm_22 f42) (shm_7 f43) (shm_22 f44) (shm_7 f45) (shm_22 f46) (shm_7 f47) (shm_22 f48) (shm_12 f50) (shm_12 f51) (shm_308 f52) (shm_7 f53) (shm_22 f54) (shm_7 f55) (shm_22 f56) (shm_7 f57) (shm_22 f58) (shm_7 f59) (shm_22 f60) (shm_7 f61) (shm_22 f62) (shm_7 f63) (shm_22 f64) (shm_7 f66) (shm_22 f67) (shm_7 f68) (shm_22 f69) (shm_7 f70) (shm_22 f71) (shm_7 f72) (shm_22 f73) (shm_7 f74) (shm_22 f75) (shm_7 f76) (shm_22 f77) (shm_7 f79) (shm_22 f80) (shm_7 f81) (shm_22 f82) hK_0_1 hK_0_3 hK_0_4 kz_0_8 kz_0_9 kz_0_10 kz_0_11 kz_0_12 kz_0_13 kz_0_14 kz_0_15)⟩
  have nf1 : fc_1 PRD (20, [0, 3], [50, 2, 0, 8, 11, 3, 7, 0, 2, 0, 1, 2, 0, 8, 0, 6, 4, 2, 1, 1, 0, 1, 2, 0, 11]) ws (vs) := ⟨nf_in hl rfl, sgq_1726 (vc_Mo_item_at_k3_14_1 (v_iv (n_v vs 1)) (v_iv (n_v vs 2)) (v_iv (n_v vs 3)) (v_iv (n_v vs 6)) (v_iv (n_v vs 8)) (v_iv (n_v vs 10)) (v_iv (n_v vs 11)) (v_iv (n_v vs 13)) (v_iv (n_v vs 14)) (v_iv (n_v vs 15)) (v_iv (n_v vs 16)) (v_iv (n_v vs 17)) (v_iv (n_v vs 18)) (v_iv (n_v vs 21)) (v_iv (n_v vs 22)) (v_iv (n_v vs 23)) (v_iv (n_v vs 24)) (v_iv (n_v vs 26)) (v_iv (n_v vs 27)) (v_iv (n_v vs 28)) (w_fi ws (n_v vs 0) 5) (w_ei ws (w_ar ws (n_v vs 0) 2)) (w_ei ws (w_ar ws (n_v vs 0) 3)) (w_ei ws (w_ar ws (n_v vs 0) 4)) (w_fi ws (n_v vs 0) 15) (w_fi ws (n_v vs 0) 11) (w_fi ws (n_v vs 0) 12) (w_fi ws (n_v vs 0) 8) (w_ei ws (w_ar ws (n_v vs 0) 1)) (w_fi ws (n_v vs 0) 10) (w_fi ws (n_v vs 0) 13) (w_fi ws (n_v vs 0) 14) (w_fi ws (n_v vs 0) 9) k1 k2 k3 k6 k8 k10 k11 k13 k14 k15 k16 k17 k18 k21 k22 k23 k24 k26 k27 k28 d0 d1 d2 d3 g0 (shm_1009 f2) (shm_980 f3) (shm_7 f4) (shm_22 f5) (shm_7 f6) (shm_22 f7) (shm_7 f8) (shm_22 f9) (shm_7 f10) (shm_22 f11) (shm_7 f12) (shm_22 f13) (shm_7 f14) (shm_22 f15) (shm_7 f16) (shm_22 f17) (shm_7 f18) (shm_22 f19) (shm_7 f20) (shm_22 f21) (shm_201 f22) (shm_201 f23) (shm_2002 f24) (shm_1437 f25) (shm_1438 f26) (shm_1431 f27) (shm_1726 f28) (shm_1727 f29) (shm_7 f31) (shm_22 f32) (shm_7 f33) (shm_22 f34) (shm_7 f35) (shm_22 f36) (shm_7 f37) (shm_22 f38) (shm_7 f39) (shm_22 f40) (shm_7 f41) (shm_22 f42) (shm_7 f43) (shm_22 f44) (shm_7 f45) (shm_22 f46) (shm_7 f47) (shm_22 f48) (shm_12 f50) (shm_12 f51) (shm_308 f52) (shm_7 f53) (shm_22 f54) (shm_7 f55) (shm_22 f56) (shm_7 f57) (shm_22 f58) (shm_7 f59) (shm_22 f60) (shm_7 f61) (shm_22 f62) (shm_7 f63) (shm_22 f64) (shm_7 f66) (shm_22 f67) (shm_7 f68) (shm_22 f69) (shm_7 f70) (shm_22 f71) (shm_7 f72) (shm_22 f73) (shm_7 f74) (shm_22 f75) (shm_7 f76) (shm_22 f77) (shm_7 f79) (shm_22 f80) (shm_7 f81) (shm_22 f82) hK_0_1 hK_0_3 hK_0_4 kz_0_8 kz_0_9 kz_0_10 kz_0_11 kz_0_12 kz_0_13 kz_0_14 kz_0_15)⟩
  have nf2 : fc_1 PRD (20, [0, 1, 2], [60, 9, 2, 1007, 10, 11, 12, 13, 14, 15, 8, 9, 5, 1, 2]) ws (vs) := ⟨nf_in hl rfl, sgq_1727 (vc_Mo_item_at_k3_14_2 (v_iv (n_v vs 1)) (v_iv (n_v vs 2)) (v_iv (n_v vs 3)) (v_iv (n_v vs 6)) (v_iv (n_v vs 8)) (v_iv (n_v vs 10)) (v_iv (n_v vs 11)) (v_iv (n_v vs 13)) (v_iv (n_v vs 14)) (v_iv (n_v vs 15)) (v_iv (n_v vs 16)) (v_iv (n_v vs 17)) (v_iv (n_v vs 18)) (v_iv (n_v vs 21)) (v_iv (n_v vs 22)) (v_iv (n_v vs 23)) (v_iv (n_v vs 24)) (v_iv (n_v vs 26)) (v_iv (n_v vs 27)) (v_iv (n_v vs 28)) (w_fi ws (n_v vs 0) 5) (w_ei ws (w_ar ws (n_v vs 0) 2)) (w_ei ws (w_ar ws (n_v vs 0) 3)) (w_ei ws (w_ar ws (n_v vs 0) 4)) (w_fi ws (n_v vs 0) 15) (w_fi ws (n_v vs 0) 11) (w_fi ws (n_v vs 0) 12) (w_fi ws (n_v vs 0) 8) (w_ei ws (w_ar ws (n_v vs 0) 1)) (w_fi ws (n_v vs 0) 10) (w_fi ws (n_v vs 0) 13) (w_fi ws (n_v vs 0) 14) (w_fi ws (n_v vs 0) 9) k1 k2 k3 k6 k8 k10 k11 k13 k14 k15 k16 k17 k18 k21 k22 k23 k24 k26 k27 k28 d0 d1 d2 d3 g0 (shm_1009 f2) (shm_980 f3) (shm_7 f4) (shm_22 f5) (shm_7 f6) (shm_22 f7) (shm_7 f8) (shm_22 f9) (shm_7 f10) (shm_22 f11) (shm_7 f12) (shm_22 f13) (shm_7 f14) (shm_22 f15) (shm_7 f16) (shm_22 f17) (shm_7 f18) (shm_22 f19) (shm_7 f20) (shm_22 f21) (shm_201 f22) (shm_201 f23) (shm_2002 f24) (shm_1437 f25) (shm_1438 f26) (shm_1431 f27) (shm_1726 f28) (shm_1727 f29) (shm_7 f31) (shm_22 f32) (shm_7 f33) (shm_22 f34) (shm_7 f35) (shm_22 f36) (shm_7 f37) (shm_22 f38) (shm_7 f39) (shm_22 f40) (shm_7 f41) (shm_22 f42) (shm_7 f43) (shm_22 f44) (shm_7 f45) (shm_22 f46) (shm_7 f47) (shm_22 f48) (shm_12 f50) (shm_12 f51) (shm_308 f52) (shm_7 f53) (shm_22 f54) (shm_7 f55) (shm_22 f56) (shm_7 f57) (shm_22 f58) (shm_7 f59) (shm_22 f60) (shm_7 f61) (shm_22 f62) (shm_7 f63) (shm_22 f64) (shm_7 f66) (shm_22 f67) (shm_7 f68) (shm_22 f69) (shm_7 f70) (shm_22 f71) (shm_7 f72) (shm_22 f73) (shm_7 f74) (shm_22 f75) (shm_7 f76) (shm_22 f77) (shm_7 f79) (shm_22 f80) (shm_7 f81) (shm_22 f82) hK_0_1 hK_0_3 hK_0_4 kz_0_8 kz_0_9 kz_0_10 kz_0_11 kz_0_12 kz_0_13 kz_0_14 kz_0_15)⟩
  refine ⟨(fun _ h => (by cases h)), [], trivial, ?_, (fun _ h => (by cases h))⟩
  rw [List.append_nil]
  exact List.forall_mem_cons.mpr ⟨⟨show (20 : Nat) < 100 from by decide, nf0⟩, List.forall_mem_cons.mpr ⟨⟨show (20 : Nat) < 100 from by decide, nf1⟩, List.forall_mem_cons.mpr ⟨⟨show (20 : Nat) < 100 from by decide, nf2⟩, (fun _ h => (by cases h))⟩⟩⟩
def n_Mo_item_at_k3_an : List an_T := []
def t_Mo_item_at_k3_ct : ct_L := [(1, 460, e_Mo_next), (1, 506, e_Mo_edgeItem), (16, 469, e_Mo_isWord_at_s5000), (55, 494, e_Mo_met_at_g1), (85, 499, e_Mo_of_at_s5002), (196, 491, e_Mo_need_at_gs), (226, 469, e_Mo_isWord_at_s5001), (253, 503, e_Mo_groupItem_at_k3), (1000001, 467, en_ro [] (2, 0, 0, [5000])), (1000001, 473, en_ro [] (2, 0, 0, [5001])), (1000001, 497, en_ro [] (2, 0, 0, [5002]))]
set_option maxRecDepth 100000 in
theorem c_Mo_item_at_k3 {l : Launch} {D : va_G} {kA : Nat → ClassId} (h_Mo_edgeItem : ct_ok PRD l D kA GG y_Mo_edgeItem z_Mo_edgeItem e_Mo_edgeItem) (h_Mo_groupItem_at_k3 : ct_ok PRD l D kA GG y_Mo_groupItem_at_k3 z_Mo_groupItem_at_k3 e_Mo_groupItem_at_k3) (h_Mo_isWord_at_s5000 : ct_ok PRD l D kA GG y_Mo_isWord_at_s5000 z_Mo_isWord_at_s5000 e_Mo_isWord_at_s5000) (h_Mo_isWord_at_s5001 : ct_ok PRD l D kA GG y_Mo_isWord_at_s5001 z_Mo_isWord_at_s5001 e_Mo_isWord_at_s5001) (h_Mo_met_at_g1 : ct_ok PRD l D kA GG y_Mo_met_at_g1 z_Mo_met_at_g1 e_Mo_met_at_g1) (h_Mo_need_at_gs : ct_ok PRD l D kA GG y_Mo_need_at_gs z_Mo_need_at_gs e_Mo_need_at_gs) (h_Mo_next : ct_ok PRD l D kA GG y_Mo_next z_Mo_next e_Mo_next) (h_Mo_of_at_s5002 : ct_ok PRD l D kA GG y_Mo_of_at_s5002 z_Mo_of_at_s5002 e_Mo_of_at_s5002) : ct_ok PRD l D kA GG y_Mo_item_at_k3 z_Mo_item_at_k3 e_Mo_item_at_k3 := chk_all_ok (FT := [(16, 13, 2), (391, 13, 5), (413, 13, 8)]) (PT := []) (CT := t_Mo_item_at_k3_ct) (KT := []) (NT := []) (AN := n_Mo_item_at_k3_an) (OT := [o_Mo_item_at_k3_0, o_Mo_item_at_k3_1, o_Mo_item_at_k3_2, o_Mo_item_at_k3_3, o_Mo_item_at_k3_4, o_Mo_item_at_k3_5, o_Mo_item_at_k3_6, o_Mo_item_at_k3_7, o_Mo_item_at_k3_8, o_Mo_item_at_k3_9, o_Mo_item_at_k3_10, o_Mo_item_at_k3_11, o_Mo_item_at_k3_12, o_Mo_item_at_k3_13, o_Mo_item_at_k3_14]) 0 240 (List.forall_mem_cons.mpr ⟨oo_Mo_item_at_k3_0, List.forall_mem_cons.mpr ⟨oo_Mo_item_at_k3_1, List.forall_mem_cons.mpr ⟨oo_Mo_item_at_k3_2, List.forall_mem_cons.mpr ⟨oo_Mo_item_at_k3_3, List.forall_mem_cons.mpr ⟨oo_Mo_item_at_k3_4, List.forall_mem_cons.mpr ⟨oo_Mo_item_at_k3_5, List.forall_mem_cons.mpr ⟨oo_Mo_item_at_k3_6, List.forall_mem_cons.mpr ⟨oo_Mo_item_at_k3_7, List.forall_mem_cons.mpr ⟨oo_Mo_item_at_k3_8, List.forall_mem_cons.mpr ⟨oo_Mo_item_at_k3_9, List.forall_mem_cons.mpr ⟨oo_Mo_item_at_k3_10, List.forall_mem_cons.mpr ⟨oo_Mo_item_at_k3_11, List.forall_mem_cons.mpr ⟨oo_Mo_item_at_k3_12, List.forall_mem_cons.mpr ⟨oo_Mo_item_at_k3_13, List.forall_mem_cons.mpr ⟨oo_Mo_item_at_k3_14, List.forall_mem_nil _⟩⟩⟩⟩⟩⟩⟩⟩⟩⟩⟩⟩⟩⟩⟩) (by decide +kernel) ⟨List.forall_mem_cons.mpr ⟨gf_Mo_16, List.forall_mem_cons.mpr ⟨gf_Mo_391, List.forall_mem_cons.mpr ⟨gf_Mo_413, List.forall_mem_nil _⟩⟩⟩, List.forall_mem_nil _, List.forall_mem_cons.mpr ⟨cl_virtual (y := y_Mo_next) (ci := 13) rfl rfl ⟨_, _, rfl⟩ (by decide +kernel) h_Mo_next wm_2982 wm_9 wm_2979 wm_2981 wv_12_11 ⟨by decide, by decide, by decide +kernel⟩ (by decide), List.forall_mem_cons.mpr ⟨cl_virtual (y := y_Mo_edgeItem) (ci := 13) rfl rfl ⟨_, _, rfl⟩ (by decide +kernel) h_Mo_edgeItem wm_3074 wm_9 wm_3071 wm_3073 wv_13_15 ⟨by decide, by decide, by decide +kernel⟩ (by decide), List.forall_mem_cons.mpr ⟨cl_virtual (y := y_Mo_isWord_at_s5000) (ci := 13) rfl rfl ⟨_, _, rfl⟩ (by decide +kernel) h_Mo_isWord_at_s5000 wm_3002 wm_9 wm_2999 wm_3001 wv_12_14 ⟨by decide, by decide, by decide +kernel⟩ (by decide), List.forall_mem_cons.mpr ⟨cl_virtual (y := y_Mo_met_at_g1) (ci := 13) rfl rfl ⟨_, _, rfl⟩ (by decide +kernel) h_Mo_met_at_g1 wm_3008 wm_9 wm_3005 wm_3007 wv_12_15 ⟨by decide, by decide, by decide +kernel⟩ (by decide), List.forall_mem_cons.mpr ⟨cl_virtual (y := y_Mo_of_at_s5002) (ci := 13) rfl rfl ⟨_, _, rfl⟩ (by decide +kernel) h_Mo_of_at_s5002 wm_3054 wm_9 wm_3051 wm_3053 wv_13_10 ⟨by decide, by decide, by decide +kernel⟩ (by decide), List.forall_mem_cons.mpr ⟨cl_virtual (y := y_Mo_need_at_gs) (ci := 13) rfl rfl ⟨_, _, rfl⟩ (by decide +kernel) h_Mo_need_at_gs wm_3062 wm_9 wm_3059 wm_3061 wv_13_12 ⟨by decide, by decide, by decide +kernel⟩ (by decide), List.forall_mem_cons.mpr ⟨cl_virtual (y := y_Mo_isWord_at_s5001) (ci := 13) rfl rfl ⟨_, _, rfl⟩ (by decide +kernel) h_Mo_isWord_at_s5001 wm_3002 wm_9 wm_2999 wm_3001 wv_12_14 ⟨by decide, by decide, by decide +kernel⟩ (by decide), List.forall_mem_cons.mpr ⟨cl_virtual (y := y_Mo_groupItem_at_k3) (ci := 13) rfl rfl ⟨_, _, rfl⟩ (by decide +kernel) h_Mo_groupItem_at_k3 wm_3066 wm_9 wm_3063 wm_3065 wv_13_13 ⟨by decide, by decide, by decide +kernel⟩ (by decide), List.forall_mem_cons.mpr ⟨cl_ldcw (own := "DrawingHouseModel") (idx := 467) (i := 0) (tx := "node") (by decide +kernel) (by decide +kernel) (by decide +kernel), List.forall_mem_cons.mpr ⟨cl_ldcw (own := "DrawingHouseModel") (idx := 473) (i := 1) (tx := "group") (by decide +kernel) (by decide +kernel) (by decide +kernel), List.forall_mem_cons.mpr ⟨cl_ldcw (own := "DrawingHouseModel") (idx := 497) (i := 2) (tx := "size") (by decide +kernel) (by decide +kernel) (by decide +kernel), List.forall_mem_nil _⟩⟩⟩⟩⟩⟩⟩⟩⟩⟩⟩, List.forall_mem_nil _, List.forall_mem_nil _, GG_pl⟩ (by decide +kernel)

set_option maxHeartbeats 4000000 in
theorem vc_Mo_item_at_k4_0_0 (x3 : Int) (r_0 : Int) (gx : Int) (k3 : 0 ≤ x3 ∧ x3 ≤ 2000) (ex2 : gx = x3) : 1 * gx + ((-1) * x3 + 0) ≤ 0 := by
  first
    | omega
    | (have q1 := (hE_0_2_1 (r_0 + 2) (by omega)).2 (by omega)
       have q2 := (hE_0_2_2 (r_0 + 2) (by omega)).2 (by omega)
       omega)
    | (have q1 := (hE_0_2_1 (r_0 + 1) (by omega)).2 (by omega)
       have q2 := (hE_0_2_2 (r_0 + 1) (by omega)).2 (by omega)
       omega)
    | (have q1 := (hE_0_2_1 (r_0 + 2) (by omega)).2 (by omega)
       omega)
    | (have q1 := (hE_0_2_1 (r_0 + 1) (by omega)).2 (by omega)
       omega)
    | (have q1 := (hE_0_2_1 (r_0 + 2) (by omega)).2 (by omega)
       have q2 := (hE_0_2_2 (r_0 + 2) (by omega)).2 (by omega)
       have q3 := (hE_0_2_3 (r_0 + 2) (by omega)).1 (by omega)
       omega)
    | (have q1 := (hE_0_2_1 (r_0 + 2) (by omega)).2 (by omega)
       have q2 := (hE_0_2_2 (r_0 + 2) (by omega)).2 (by omega)
       have q3 := (hE_0_2_3 (r_0 + 2) (by omega)).2 (by omega)
       omega)
set_option maxHeartbeats 4000000 in
theorem vc_Mo_item_at_k4_0_1 (x3 : Int) (r_0 : Int) (gx : Int) (k3 : 0 ≤ x3 ∧ x3 ≤ 2000) (ex2 : gx = x3) : (-1) * gx + (1 * x3 + 0) ≤ 0 := by
  first
    | omega
    | (have q1 := (hE_0_2_1 (r_0 + 2) (by omega)).2 (by omega)
       have q2 := (hE_0_2_2 (r_0 + 2) (by omega)).2 (by omega)
       omega)
    | (have q1 := (hE_0_2_1 (r_0 + 1) (by omega)).2 (by omega)
       have q2 := (hE_0_2_2 (r_0 + 1) (by omega)).2 (by omega)
       omega)
    | (have q1 := (hE_0_2_1 (r_0 + 2) (by omega)).2 (by omega)
       omega)
    | (have q1 := (hE_0_2_1 (r_0 + 1) (by omega)).2 (by omega)
       omega)
    | (have q1 := (hE_0_2_1 (r_0 + 2) (by omega)).2 (by omega)
       have q2 := (hE_0_2_2 (r_0 + 2) (by omega)).2 (by omega)
       have q3 := (hE_0_2_3 (r_0 + 2) (by omega)).1 (by omega)
       omega)
    | (have q1 := (hE_0_2_1 (r_0 + 2) (by omega)).2 (by omega)
       have q2 := (hE_0_2_2 (r_0 + 2) (by omega)).2 (by omega)
       have q3 := (hE_0_2_3 (r_0 + 2) (by omega)).2 (by omega)
       omega)
set_option maxHeartbeats 4000000 in
theorem vc_Mo_item_at_k4_0_2 (x2 : Int) (r_0 : Int) (gy : Int) (k2 : 4 ≤ x2 ∧ x2 ≤ 4) (ey2 : gy = x2) : 1 * gy + ((-1) * x2 + 0) ≤ 0 := by
  first
    | omega
    | (have q1 := (hE_0_2_1 (r_0 + 2) (by omega)).2 (by omega)
       have q2 := (hE_0_2_2 (r_0 + 2) (by omega)).2 (by omega)
       omega)
    | (have q1 := (hE_0_2_1 (r_0 + 1) (by omega)).2 (by omega)
       have q2 := (hE_0_2_2 (r_0 + 1) (by omega)).2 (by omega)
       omega)
    | (have q1 := (hE_0_2_1 (r_0 + 2) (by omega)).2 (by omega)
       omega)
    | (have q1 := (hE_0_2_1 (r_0 + 1) (by omega)).2 (by omega)
       omega)
    | (have q1 := (hE_0_2_1 (r_0 + 2) (by omega)).2 (by omega)
       have q2 := (hE_0_2_2 (r_0 + 2) (by omega)).2 (by omega)
       have q3 := (hE_0_2_3 (r_0 + 2) (by omega)).1 (by omega)
       omega)
    | (have q1 := (hE_0_2_1 (r_0 + 2) (by omega)).2 (by omega)
       have q2 := (hE_0_2_2 (r_0 + 2) (by omega)).2 (by omega)
       have q3 := (hE_0_2_3 (r_0 + 2) (by omega)).2 (by omega)
       omega)
set_option maxHeartbeats 4000000 in
theorem vc_Mo_item_at_k4_0_3 (x2 : Int) (r_0 : Int) (gy : Int) (k2 : 4 ≤ x2 ∧ x2 ≤ 4) (ey2 : gy = x2) : (-1) * gy + (1 * x2 + 0) ≤ 0 := by
  first
    | omega
    | (have q1 := (hE_0_2_1 (r_0 + 2) (by omega)).2 (by omega)
       have q2 := (hE_0_2_2 (r_0 + 2) (by omega)).2 (by omega)
       omega)
    | (have q1 := (hE_0_2_1 (r_0 + 1) (by omega)).2 (by omega)
       have q2 := (hE_0_2_2 (r_0 + 1) (by omega)).2 (by omega)
       omega)
    | (have q1 := (hE_0_2_1 (r_0 + 2) (by omega)).2 (by omega)
       omega)
    | (have q1 := (hE_0_2_1 (r_0 + 1) (by omega)).2 (by omega)
       omega)
    | (have q1 := (hE_0_2_1 (r_0 + 2) (by omega)).2 (by omega)
       have q2 := (hE_0_2_2 (r_0 + 2) (by omega)).2 (by omega)
       have q3 := (hE_0_2_3 (r_0 + 2) (by omega)).1 (by omega)
       omega)
    | (have q1 := (hE_0_2_1 (r_0 + 2) (by omega)).2 (by omega)
       have q2 := (hE_0_2_2 (r_0 + 2) (by omega)).2 (by omega)
       have q3 := (hE_0_2_3 (r_0 + 2) (by omega)).2 (by omega)
       omega)
set_option maxHeartbeats 4000000 in
theorem vc_Mo_item_at_k4_0_4 (from_0 : Int) (pos_0 : Int) (r_0 : Int) (f1 : 1 * from_0 + ((-1) * pos_0 + 0) ≤ 0) (kz_0_11 : 0 ≤ pos_0 ∧ pos_0 ≤ 2000) (kz_0_15 : 0 ≤ from_0 ∧ from_0 ≤ 2000) : 1 * from_0 + ((-1) * pos_0 + 0) ≤ 0 := by
  first
    | omega
    | (have q1 := (hE_0_2_1 (r_0 + 2) (by omega)).2 (by omega)
       have q2 := (hE_0_2_2 (r_0 + 2) (by omega)).2 (by omega)
       omega)
    | (have q1 := (hE_0_2_1 (r_0 + 1) (by omega)).2 (by omega)
       have q2 := (hE_0_2_2 (r_0 + 1) (by omega)).2 (by omega)
       omega)
    | (have q1 := (hE_0_2_1 (r_0 + 2) (by omega)).2 (by omega)
       omega)
    | (have q1 := (hE_0_2_1 (r_0 + 1) (by omega)).2 (by omega)
       omega)
    | (have q1 := (hE_0_2_1 (r_0 + 2) (by omega)).2 (by omega)
       have q2 := (hE_0_2_2 (r_0 + 2) (by omega)).2 (by omega)
       have q3 := (hE_0_2_3 (r_0 + 2) (by omega)).1 (by omega)
       omega)
    | (have q1 := (hE_0_2_1 (r_0 + 2) (by omega)).2 (by omega)
       have q2 := (hE_0_2_2 (r_0 + 2) (by omega)).2 (by omega)
       have q3 := (hE_0_2_3 (r_0 + 2) (by omega)).2 (by omega)
       omega)
set_option maxHeartbeats 4000000 in
theorem vc_Mo_item_at_k4_0_5 (from_0 : Int) (pos_0 : Int) (kind_0 : Int) (r_0 : Int) (f2 : ((kind_0 = 1) → (pos_0 ≤ (from_0 + 8))) ∧ ((kind_0 = 0) ∨ ((from_0 + 1) ≤ pos_0))) (kz_0_11 : 0 ≤ pos_0 ∧ pos_0 ≤ 2000) (kz_0_12 : 0 ≤ kind_0 ∧ kind_0 ≤ 4) (kz_0_15 : 0 ≤ from_0 ∧ from_0 ≤ 2000) : ((kind_0 = 1) → (pos_0 ≤ (from_0 + 8))) ∧ ((kind_0 = 0) ∨ ((from_0 + 1) ≤ pos_0)) := by
  first
    | omega
    | (have q1 := (hE_0_2_1 (r_0 + 2) (by omega)).2 (by omega)
       have q2 := (hE_0_2_2 (r_0 + 2) (by omega)).2 (by omega)
       omega)
    | (have q1 := (hE_0_2_1 (r_0 + 1) (by omega)).2 (by omega)
       have q2 := (hE_0_2_2 (r_0 + 1) (by omega)).2 (by omega)
       omega)
    | (have q1 := (hE_0_2_1 (r_0 + 2) (by omega)).2 (by omega)
       omega)
    | (have q1 := (hE_0_2_1 (r_0 + 1) (by omega)).2 (by omega)
       omega)
    | (have q1 := (hE_0_2_1 (r_0 + 2) (by omega)).2 (by omega)
       have q2 := (hE_0_2_2 (r_0 + 2) (by omega)).2 (by omega)
       have q3 := (hE_0_2_3 (r_0 + 2) (by omega)).1 (by omega)
       omega)
    | (have q1 := (hE_0_2_1 (r_0 + 2) (by omega)).2 (by omega)
       have q2 := (hE_0_2_2 (r_0 + 2) (by omega)).2 (by omega)
       have q3 := (hE_0_2_3 (r_0 + 2) (by omega)).2 (by omega)
       omega)
set_option maxHeartbeats 4000000 in
theorem vc_Mo_item_at_k4_0_6 (x3 : Int) (pos_0 : Int) (r_0 : Int) (gx : Int) (k3 : 0 ≤ x3 ∧ x3 ≤ 2000) (f3 : 1 * x3 + ((-1) * pos_0 + 0) ≤ 0) (kz_0_11 : 0 ≤ pos_0 ∧ pos_0 ≤ 2000) (ex2 : gx = x3) : 1 * gx + ((-1) * pos_0 + 0) ≤ 0 := by
  first
    | omega
    | (have q1 := (hE_0_2_1 (r_0 + 2) (by omega)).2 (by omega)
       have q2 := (hE_0_2_2 (r_0 + 2) (by omega)).2 (by omega)
       omega)
    | (have q1 := (hE_0_2_1 (r_0 + 1) (by omega)).2 (by omega)
       have q2 := (hE_0_2_2 (r_0 + 1) (by omega)).2 (by omega)
       omega)
    | (have q1 := (hE_0_2_1 (r_0 + 2) (by omega)).2 (by omega)
       omega)
    | (have q1 := (hE_0_2_1 (r_0 + 1) (by omega)).2 (by omega)
       omega)
    | (have q1 := (hE_0_2_1 (r_0 + 2) (by omega)).2 (by omega)
       have q2 := (hE_0_2_2 (r_0 + 2) (by omega)).2 (by omega)
       have q3 := (hE_0_2_3 (r_0 + 2) (by omega)).1 (by omega)
       omega)
    | (have q1 := (hE_0_2_1 (r_0 + 2) (by omega)).2 (by omega)
       have q2 := (hE_0_2_2 (r_0 + 2) (by omega)).2 (by omega)
       have q3 := (hE_0_2_3 (r_0 + 2) (by omega)).2 (by omega)
       omega)
set_option maxHeartbeats 4000000 in
theorem vc_Mo_item_at_k4_0_7 (x1 : Int) (x2 : Int) (x3 : Int) (x5 : Int) (x7 : Int) (from_0 : Int) (pos_0 : Int) (kind_0 : Int) (all_0 : Int → Int) (r_0 : Int) (now_0 : Int → Int) (latest_0 : Int → Int) (tape_0 : Int → Int) (limit_0 : Int) (place_0 : Int) (value_0 : Int) (fault_0 : Int) (gx : Int) (gy : Int) (k1 : 0 ≤ x1 ∧ x1 ≤ 7) (k2 : 4 ≤ x2 ∧ x2 ≤ 4) (k3 : 0 ≤ x3 ∧ x3 ≤ 2000) (k5 : 0 ≤ x5 ∧ x5 ≤ 0) (k7 : 0 ≤ x7 ∧ x7 ≤ 0) (f0 : x7 = 0) (f1 : 1 * from_0 + ((-1) * pos_0 + 0) ≤ 0) (f2 : ((kind_0 = 1) → (pos_0 ≤ (from_0 + 8))) ∧ ((kind_0 = 0) ∨ ((from_0 + 1) ≤ pos_0))) (f3 : 1 * x3 + ((-1) * pos_0 + 0) ≤ 0) (f4 : (x1 + 1) ≤ all_0 ((r_0 + 2))) (f5 : RWS (r_0) (all_0) (now_0) (latest_0)) (f6 : zRSI (limit_0) (pos_0) (kind_0) (place_0) (value_0) (from_0) (fault_0) (r_0) (tape_0) (all_0) (x1) (x2)) (f7 : (x5 = 1) → (kind_0 = 1)) (f8 : WQn (kind_0) (pos_0) (limit_0) (from_0) (tape_0) (x5)) (f9 : (x7 = 1) → (kind_0 = 1)) (f10 : WQg (kind_0) (pos_0) (limit_0) (from_0) (tape_0) (x7)) (f12 : x5 = 0) (hK_0_1 : ∀ j : Int, 0 ≤ j → j < 2000 → (-128) ≤ tape_0 j ∧ tape_0 j ≤ 127) (hK_0_3 : ∀ j : Int, 0 ≤ j → j < 4 → 0 ≤ now_0 j ∧ now_0 j ≤ 30) (hK_0_4 : ∀ j : Int, 0 ≤ j → j < 4 → 0 ≤ latest_0 j ∧ latest_0 j ≤ 30) (kz_0_8 : 0 ≤ fault_0 ∧ fault_0 ≤ 5) (kz_0_10 : 0 ≤ limit_0 ∧ limit_0 ≤ 2000) (kz_0_11 : 0 ≤ pos_0 ∧ pos_0 ≤ 2000) (kz_0_12 : 0 ≤ kind_0 ∧ kind_0 ≤ 4) (kz_0_13 : 0 ≤ place_0 ∧ place_0 ≤ 2000) (kz_0_14 : (-49) ≤ value_0 ∧ value_0 ≤ 1048575) (kz_0_15 : 0 ≤ from_0 ∧ from_0 ≤ 2000) (ex2 : gx = x3) (ex3 : 0 ≤ gx ∧ gx ≤ 2000) (ey2 : gy = x2) (ey3 : 0 ≤ gy ∧ gy ≤ 4) : (x1 + 1) ≤ all_0 ((r_0 + 2)) := by
  first
    | omega
    | (have q1 := (hE_0_2_1 (r_0 + 2) (by omega)).2 (by omega)
       have q2 := (hE_0_2_2 (r_0 + 2) (by omega)).2 (by omega)
       omega)
    | (have q1 := (hE_0_2_1 (r_0 + 1) (by omega)).2 (by omega)
       have q2 := (hE_0_2_2 (r_0 + 1) (by omega)).2 (by omega)
       omega)
    | (have q1 := (hE_0_2_1 (r_0 + 2) (by omega)).2 (by omega)
       omega)
    | (have q1 := (hE_0_2_1 (r_0 + 1) (by omega)).2 (by omega)
       omega)
    | (have q1 := (hE_0_2_1 (r_0 + 2) (by omega)).2 (by omega)
       have q2 := (hE_0_2_2 (r_0 + 2) (by omega)).2 (by omega)
       have q3 := (hE_0_2_3 (r_0 + 2) (by omega)).1 (by omega)
       omega)
    | (have q1 := (hE_0_2_1 (r_0 + 2) (by omega)).2 (by omega)
       have q2 := (hE_0_2_2 (r_0 + 2) (by omega)).2 (by omega)
       have q3 := (hE_0_2_3 (r_0 + 2) (by omega)).2 (by omega)
       omega)
set_option maxHeartbeats 4000000 in
theorem vc_Mo_item_at_k4_0_8 (x1 : Int) (x2 : Int) (x3 : Int) (x5 : Int) (x7 : Int) (from_0 : Int) (pos_0 : Int) (kind_0 : Int) (all_0 : Int → Int) (r_0 : Int) (now_0 : Int → Int) (latest_0 : Int → Int) (tape_0 : Int → Int) (limit_0 : Int) (place_0 : Int) (value_0 : Int) (fault_0 : Int) (gx : Int) (gy : Int) (k1 : 0 ≤ x1 ∧ x1 ≤ 7) (k2 : 4 ≤ x2 ∧ x2 ≤ 4) (k3 : 0 ≤ x3 ∧ x3 ≤ 2000) (k5 : 0 ≤ x5 ∧ x5 ≤ 0) (k7 : 0 ≤ x7 ∧ x7 ≤ 0) (f0 : x7 = 0) (f1 : 1 * from_0 + ((-1) * pos_0 + 0) ≤ 0) (f2 : ((kind_0 = 1) → (pos_0 ≤ (from_0 + 8))) ∧ ((kind_0 = 0) ∨ ((from_0 + 1) ≤ pos_0))) (f3 : 1 * x3 + ((-1) * pos_0 + 0) ≤ 0) (f4 : (x1 + 1) ≤ all_0 ((r_0 + 2))) (f5 : RWS (r_0) (all_0) (now_0) (latest_0)) (f6 : zRSI (limit_0) (pos_0) (kind_0) (place_0) (value_0) (from_0) (fault_0) (r_0) (tape_0) (all_0) (x1) (x2)) (f7 : (x5 = 1) → (kind_0 = 1)) (f8 : WQn (kind_0) (pos_0) (limit_0) (from_0) (tape_0) (x5)) (f9 : (x7 = 1) → (kind_0 = 1)) (f10 : WQg (kind_0) (pos_0) (limit_0) (from_0) (tape_0) (x7)) (f12 : x5 = 0) (hK_0_1 : ∀ j : Int, 0 ≤ j → j < 2000 → (-128) ≤ tape_0 j ∧ tape_0 j ≤ 127) (hK_0_3 : ∀ j : Int, 0 ≤ j → j < 4 → 0 ≤ now_0 j ∧ now_0 j ≤ 30) (hK_0_4 : ∀ j : Int, 0 ≤ j → j < 4 → 0 ≤ latest_0 j ∧ latest_0 j ≤ 30) (kz_0_8 : 0 ≤ fault_0 ∧ fault_0 ≤ 5) (kz_0_10 : 0 ≤ limit_0 ∧ limit_0 ≤ 2000) (kz_0_11 : 0 ≤ pos_0 ∧ pos_0 ≤ 2000) (kz_0_12 : 0 ≤ kind_0 ∧ kind_0 ≤ 4) (kz_0_13 : 0 ≤ place_0 ∧ place_0 ≤ 2000) (kz_0_14 : (-49) ≤ value_0 ∧ value_0 ≤ 1048575) (kz_0_15 : 0 ≤ from_0 ∧ from_0 ≤ 2000) (ex2 : gx = x3) (ex3 : 0 ≤ gx ∧ gx ≤ 2000) (ey2 : gy = x2) (ey3 : 0 ≤ gy ∧ gy ≤ 4) : RWS (r_0) (all_0) (now_0) (latest_0) := by
  first
    | assumption
set_option maxHeartbeats 4000000 in
theorem vc_Mo_item_at_k4_0_9 (x1 : Int) (x2 : Int) (x3 : Int) (x5 : Int) (x7 : Int) (from_0 : Int) (pos_0 : Int) (kind_0 : Int) (all_0 : Int → Int) (r_0 : Int) (now_0 : Int → Int) (latest_0 : Int → Int) (tape_0 : Int → Int) (limit_0 : Int) (place_0 : Int) (value_0 : Int) (fault_0 : Int) (gx : Int) (gy : Int) (k1 : 0 ≤ x1 ∧ x1 ≤ 7) (k2 : 4 ≤ x2 ∧ x2 ≤ 4) (k3 : 0 ≤ x3 ∧ x3 ≤ 2000) (k5 : 0 ≤ x5 ∧ x5 ≤ 0) (k7 : 0 ≤ x7 ∧ x7 ≤ 0) (f0 : x7 = 0) (f1 : 1 * from_0 + ((-1) * pos_0 + 0) ≤ 0) (f2 : ((kind_0 = 1) → (pos_0 ≤ (from_0 + 8))) ∧ ((kind_0 = 0) ∨ ((from_0 + 1) ≤ pos_0))) (f3 : 1 * x3 + ((-1) * pos_0 + 0) ≤ 0) (f4 : (x1 + 1) ≤ all_0 ((r_0 + 2))) (f5 : RWS (r_0) (all_0) (now_0) (latest_0)) (f6 : zRSI (limit_0) (pos_0) (kind_0) (place_0) (value_0) (from_0) (fault_0) (r_0) (tape_0) (all_0) (x1) (x2)) (f7 : (x5 = 1) → (kind_0 = 1)) (f8 : WQn (kind_0) (pos_0) (limit_0) (from_0) (tape_0) (x5)) (f9 : (x7 = 1) → (kind_0 = 1)) (f10 : WQg (kind_0) (pos_0) (limit_0) (from_0) (tape_0) (x7)) (f12 : x5 = 0) (hK_0_1 : ∀ j : Int, 0 ≤ j → j < 2000 → (-128) ≤ tape_0 j ∧ tape_0 j ≤ 127) (hK_0_3 : ∀ j : Int, 0 ≤ j → j < 4 → 0 ≤ now_0 j ∧ now_0 j ≤ 30) (hK_0_4 : ∀ j : Int, 0 ≤ j → j < 4 → 0 ≤ latest_0 j ∧ latest_0 j ≤ 30) (kz_0_8 : 0 ≤ fault_0 ∧ fault_0 ≤ 5) (kz_0_10 : 0 ≤ limit_0 ∧ limit_0 ≤ 2000) (kz_0_11 : 0 ≤ pos_0 ∧ pos_0 ≤ 2000) (kz_0_12 : 0 ≤ kind_0 ∧ kind_0 ≤ 4) (kz_0_13 : 0 ≤ place_0 ∧ place_0 ≤ 2000) (kz_0_14 : (-49) ≤ value_0 ∧ value_0 ≤ 1048575) (kz_0_15 : 0 ≤ from_0 ∧ from_0 ≤ 2000) (ex2 : gx = x3) (ex3 : 0 ≤ gx ∧ gx ≤ 2000) (ey2 : gy = x2) (ey3 : 0 ≤ gy ∧ gy ≤ 4) : zRSE (limit_0) (pos_0) (kind_0) (place_0) (value_0) (from_0) (fault_0) (r_0) (tape_0) (all_0) (x1) (gy) := by
  first | subst ex2 | skip
  first | subst ey2 | skip
  exact it_edge ‹zRSI _ _ _ _ _ _ _ _ _ _ _ _› ‹WQn _ _ _ _ _ _› ‹WQg _ _ _ _ _ _› (by omega) (by omega)
def o_Mo_item_at_k4_0 : or_T := (91, 8, [(0, (2, 0, 0, [165])), (1, (0, 0, 7, [])), (2, (0, 4, 4, [])), (3, (0, 0, 2000, [])), (5, (0, 0, 0, [])), (7, (0, 0, 0, []))], [(8, [7], [0]), (20, [0, 0], [30, 0, 1, 1, 15, -1, 1, 11]), (20, [0], [50, 3, 0, 12, 11, 15, 2, 21, 4, 7, 1, 3, 2, 0, 12, 0, 1, 0, 3, 2, 0, 11, 4, 3, 2, 0, 15, 0, 8, 3, 7, 1, 3, 2, 0, 12, 0, 0, 0, 7, 4, 3, 2, 0, 15, 0, 1, 2, 0, 11]), (20, [3, 0], [30, 0, 1, 0, 0, -1, 1, 11]), (20, [1, 0], [50, 1, 1, 1005, 1002, 0, 6, 4, 2, 1, 0, 0, 1, 3, 1, 2, 4, 3, 2, 1, 5, 0, 2]), (20, [0], [60, 1, 3, 199, 5, 2, 3, 4]), (20, [0, 1, 2], [60, 8, 2, 990, 10, 11, 12, 13, 14, 15, 8, 5, 1, 2]), (20, [5, 0], [50, 1, 0, 1012, 4, 6, 1, 2, 1, 0, 0, 1, 1, 3, 2, 1, 12, 0, 1]), (20, [0, 5], [60, 4, 1, 958, 12, 11, 10, 15, 1]), (20, [7, 0], [50, 1, 0, 1012, 4, 6, 1, 2, 1, 0, 0, 1, 1, 3, 2, 1, 12, 0, 1]), (20, [0, 7], [60, 4, 1, 959, 12, 11, 10, 15, 1]), (102, [6], [0]), (8, [5], [0])], [], [(0, 0, 2000, []), (0, 0, 4, [])], [(23, [8, 3], [0, 1, -1]), (23, [8, 3], [0, -1, 1]), (23, [9, 2], [0, 1, -1]), (23, [9, 2], [0, -1, 1]), (20, [0, 0], [30, 0, 1, 1, 15, -1, 1, 11]), (20, [0], [50, 3, 0, 12, 11, 15, 2, 21, 4, 7, 1, 3, 2, 0, 12, 0, 1, 0, 3, 2, 0, 11, 4, 3, 2, 0, 15, 0, 8, 3, 7, 1, 3, 2, 0, 12, 0, 0, 0, 7, 4, 3, 2, 0, 15, 0, 1, 2, 0, 11]), (20, [8, 0], [30, 0, 1, 0, 0, -1, 1, 11]), (20, [1, 0], [50, 1, 1, 1005, 1002, 0, 6, 4, 2, 1, 0, 0, 1, 3, 1, 2, 4, 3, 2, 1, 5, 0, 2]), (20, [0], [60, 1, 3, 199, 5, 2, 3, 4]), (20, [0, 1, 9], [60, 8, 2, 991, 10, 11, 12, 13, 14, 15, 8, 5, 1, 2])], [], [])
theorem oo_Mo_item_at_k4_0 {kA : Nat → ClassId} : or_ok PRD kA GG o_Mo_item_at_k4_0 := by
  refine or_mk fun A ta ws vs hD hth hl => ?_
  intro t0 r0 t1 k1 t2 k2 t3 k3 t5 k5 t7 k7 f0 f1 f2 f3 f4 f5 f6 f7 f8 f9 f10 ta1 w1 le1 s1 f12
  replace f0 := shm_192 f0
  replace f1 := shm_1437 f1
  replace f2 := shm_1438 f2
  replace f3 := shm_1431 f3
  replace f4 := shm_1009 f4
  replace f5 := shm_980 f5
  replace f6 := shm_2180 f6
  replace f7 := shm_1856 f7
  replace f8 := shm_1857 f8
  replace f9 := shm_1856 f9
  replace f10 := shm_1858 f10
  replace f12 := shm_192 f12
  have cr_0_1 := fdq_39 hD hth r0
  have cr_0_3 := fdq_142 hD hth r0
  have cr_0_4 := fdq_143 hD hth r0
  have hK_0_1 := elq_7 hD hth cr_0_1
  have hK_0_3 := elq_80 hD hth cr_0_3
  have hK_0_4 := elq_81 hD hth cr_0_4
  have kz_0_8 := fdq_34 hD hth r0
  have kz_0_10 := fdq_43 hD hth r0
  have kz_0_11 := fdq_237 hD hth r0
  have kz_0_12 := fdq_187 hD hth r0
  have kz_0_13 := fdq_238 hD hth r0
  have kz_0_14 := fdq_188 hD hth r0
  have kz_0_15 := fdq_239 hD hth r0
  obtain ⟨x, ex, hx⟩ := iv_ex (ta := ta) (lo := 0) (hi := 2000) (z := v_iv (n_v vs 3)) (by omega) (by omega) (by omega) (by omega)
  have ex2 : v_iv (Value.int x) = v_iv (n_v vs 3) := ex
  have ex3 : 0 ≤ v_iv (Value.int x) ∧ v_iv (Value.int x) ≤ 2000 := tv_rng hx
  obtain ⟨y, ey, hy⟩ := iv_ex (ta := ta) (lo := 0) (hi := 4) (z := v_iv (n_v vs 2)) (by omega) (by omega) (by omega) (by omega)
  have ey2 : v_iv (Value.int y) = v_iv (n_v vs 2) := ey
  have ey3 : 0 ≤ v_iv (Value.int y) ∧ v_iv (Value.int y) ≤ 4 := tv_rng hy
  have e_0 : n_v (vs ++ [Value.int x, Value.int y]) 0 = n_v vs 0 := n_v_old (by rw [hl]; decide)
  have e_1 : n_v (vs ++ [Value.int x, Value.int y]) 1 = n_v vs 1 := n_v_old (by rw [hl]; decide)
  have e_2 : n_v (vs ++ [Value.int x, Value.int y]) 2 = n_v vs 2 := n_v_old (by rw [hl]; decide)
  have e_3 : n_v (vs ++ [Value.int x, Value.int y]) 3 = n_v vs 3 := n_v_old (by rw [hl]; decide)
  have e_8 : n_v (vs ++ [Value.int x, Value.int y]) 8 = Value.int x := n_v_new0 hl
  have e_9 : n_v (vs ++ [Value.int x, Value.int y]) 9 = Value.int y := n_v_new1 hl
  have nf0 : fc_1 PRD (23, [8, 3], [0, 1, -1]) ws (vs ++ [Value.int x, Value.int y]) := by
    refine ⟨nf_inA hl rfl, sgq_7 ?_⟩
    · show 1 * v_iv (n_v (vs ++ [Value.int x, Value.int y]) 8) + ((-1) * v_iv (n_v (vs ++ [Value.int x, Value.int y]) 3) + 0) ≤ 0
      simp only [e_3, e_8]
      exact vc_Mo_item_at_k4_0_0 (v_iv (n_v vs 3)) (w_fi ws (n_v vs 0) 5) (v_iv (Value.int x)) k3 ex2
  have nf1 : fc_1 PRD (23, [8, 3], [0, -1, 1]) ws (vs ++ [Value.int x, Value.int y]) := by
    refine ⟨nf_inA hl rfl, sgq_22 ?_⟩
    · show (-1) * v_iv (n_v (vs ++ [Value.int x, Value.int y]) 8) + (1 * v_iv (n_v (vs ++ [Value.int x, Value.int y]) 3) + 0) ≤ 0
      simp only [e_3, e_8]
      exact vc_Mo_item_at_k4_0_1 (v_iv (n_v vs 3)) (w_fi ws (n_v vs 0) 5) (v_iv (Value.int x)) k3 ex2
  have nf2 : fc_1 PRD (23, [9, 2], [0, 1, -1]) ws (vs ++ [Value.int x, Value.int y]) := by
    refine ⟨nf_inA hl rfl, sgq_7 ?_⟩
    · show 1 * v_iv (n_v (vs ++ [Value.int x, Value.int y]) 9) + ((-1) * v_iv (n_v (vs ++ [Value.int x, Value.int y]) 2) + 0) ≤ 0
      simp only [e_2, e_9]
      exact vc_Mo_item_at_k4_0_2 (v_iv (n_v vs 2)) (w_fi ws (n_v vs 0) 5) (v_iv (Value.int y)) k2 ey2
  have nf3 : fc_1 PRD (23, [9, 2], [0, -1, 1]) ws (vs ++ [Value.int x, Value.int y]) := by
    refine ⟨nf_inA hl rfl, sgq_22 ?_⟩
    · show (-1) * v_iv (n_v (vs ++ [Value.int x, Value.int y]) 9) + (1 * v_iv (n_v (vs ++ [Value.int x, Value.int y]) 2) + 0) ≤ 0
      simp only [e_2, e_9]
      exact vc_Mo_item_at_k4_0_3 (v_iv (n_v vs 2)) (w_fi ws (n_v vs 0) 5) (v_iv (Value.int y)) k2 ey2
  have nf4 : fc_1 PRD (20, [0, 0], [30, 0, 1, 1, 15, -1, 1, 11]) ws (vs ++ [Value.int x, Value.int y]) := by
    refine ⟨nf_inA hl rfl, sgq_1437 ?_⟩
    · show 1 * w_fi ws (n_v (vs ++ [Value.int x, Value.int y]) 0) 15 + ((-1) * w_fi ws (n_v (vs ++ [Value.int x, Value.int y]) 0) 11 + 0) ≤ 0
      rw [e_0]
      exact vc_Mo_item_at_k4_0_4 (w_fi ws (n_v vs 0) 15) (w_fi ws (n_v vs 0) 11) (w_fi ws (n_v vs 0) 5) f1 kz_0_11 kz_0_15
  have nf5 : fc_1 PRD (20, [0], [50, 3, 0, 12, 11, 15, 2, 21, 4, 7, 1, 3, 2, 0, 12, 0, 1, 0, 3, 2, 0, 11, 4, 3, 2, 0, 15, 0, 8, 3, 7, 1, 3, 2, 0, 12, 0, 0, 0, 7, 4, 3, 2, 0, 15, 0, 1, 2, 0, 11]) ws (vs ++ [Value.int x, Value.int y]) := by
    refine ⟨nf_inA hl rfl, sgq_1438 ?_⟩
    · show ((w_fi ws (n_v (vs ++ [Value.int x, Value.int y]) 0) 12 = 1) → (w_fi ws (n_v (vs ++ [Value.int x, Value.int y]) 0) 11 ≤ (w_fi ws (n_v (vs ++ [Value.int x, Value.int y]) 0) 15 + 8))) ∧ ((w_fi ws (n_v (vs ++ [Value.int x, Value.int y]) 0) 12 = 0) ∨ ((w_fi ws (n_v (vs ++ [Value.int x, Value.int y]) 0) 15 + 1) ≤ w_fi ws (n_v (vs ++ [Value.int x, Value.int y]) 0) 11))
      rw [e_0]
      exact vc_Mo_item_at_k4_0_5 (w_fi ws (n_v vs 0) 15) (w_fi ws (n_v vs 0) 11) (w_fi ws (n_v vs 0) 12) (w_fi ws (n_v vs 0) 5) f2 kz_0_11 kz_0_12 kz_0_15
  have nf6 : fc_1 PRD (20, [8, 0], [30, 0, 1, 0, 0, -1, 1, 11]) ws (vs ++ [Value.int x, Value.int y]) := by
    refine ⟨nf_inA hl rfl, sgq_1431 ?_⟩
    · show 1 * v_iv (n_v (vs ++ [Value.int x, Value.int y]) 8) + ((-1) * w_fi ws (n_v (vs ++ [Value.int x, Value.int y]) 0) 11 + 0) ≤ 0
      simp only [e_0, e_8]
      exact vc_Mo_item_at_k4_0_6 (v_iv (n_v vs 3)) (w_fi ws (n_v vs 0) 11) (w_fi ws (n_v vs 0) 5) (v_iv (Value.int x)) k3 f3 kz_0_11 ex2
  have nf7 : fc_1 PRD (20, [1, 0], [50, 1, 1, 1005, 1002, 0, 6, 4, 2, 1, 0, 0, 1, 3, 1, 2, 4, 3, 2, 1, 5, 0, 2]) ws (vs ++ [Value.int x, Value.int y]) := by
    refine ⟨nf_inA hl rfl, sgq_1009 ?_⟩
    · show (v_iv (n_v (vs ++ [Value.int x, Value.int y]) 1) + 1) ≤ w_ei ws (w_ar ws (n_v (vs ++ [Value.int x, Value.int y]) 0) 2) ((w_fi ws (n_v (vs ++ [Value.int x, Value.int y]) 0) 5 + 2))
      simp only [e_0, e_1]
      exact vc_Mo_item_at_k4_0_7 (v_iv (n_v vs 1)) (v_iv (n_v vs 2)) (v_iv (n_v vs 3)) (v_iv (n_v vs 5)) (v_iv (n_v vs 7)) (w_fi ws (n_v vs 0) 15) (w_fi ws (n_v vs 0) 11) (w_fi ws (n_v vs 0) 12) (w_ei ws (w_ar ws (n_v vs 0) 2)) (w_fi ws (n_v vs 0) 5) (w_ei ws (w_ar ws (n_v vs 0) 3)) (w_ei ws (w_ar ws (n_v vs 0) 4)) (w_ei ws (w_ar ws (n_v vs 0) 1)) (w_fi ws (n_v vs 0) 10) (w_fi ws (n_v vs 0) 13) (w_fi ws (n_v vs 0) 14) (w_fi ws (n_v vs 0) 8) (v_iv (Value.int x)) (v_iv (Value.int y)) k1 k2 k3 k5 k7 f0 f1 f2 f3 f4 f5 f6 f7 f8 f9 f10 f12 hK_0_1 hK_0_3 hK_0_4 kz_0_8 kz_0_10 kz_0_11 kz_0_12 kz_0_13 kz_0_14 kz_0_15 ex2 ex3 ey2 ey3
  have nf8 : fc_1 PRD (20, [0], [60, 1, 3, 199, 5, 2, 3, 4]) ws (vs ++ [Value.int x, Value.int y]) := by
    refine ⟨nf_inA hl rfl, sgq_980 ?_⟩
    · show RWS (w_fi ws (n_v (vs ++ [Value.int x, Value.int y]) 0) 5) (w_ei ws (w_ar ws (n_v (vs ++ [Value.int x, Value.int y]) 0) 2)) (w_ei ws (w_ar ws (n_v (vs ++ [Value.int x, Value.int y]) 0) 3)) (w_ei ws (w_ar ws (n_v (vs ++ [Value.int x, Value.int y]) 0) 4))
      rw [e_0]
      exact vc_Mo_item_at_k4_0_8 (v_iv (n_v vs 1)) (v_iv (n_v vs 2)) (v_iv (n_v vs 3)) (v_iv (n_v vs 5)) (v_iv (n_v vs 7)) (w_fi ws (n_v vs 0) 15) (w_fi ws (n_v vs 0) 11) (w_fi ws (n_v vs 0) 12) (w_ei ws (w_ar ws (n_v vs 0) 2)) (w_fi ws (n_v vs 0) 5) (w_ei ws (w_ar ws (n_v vs 0) 3)) (w_ei ws (w_ar ws (n_v vs 0) 4)) (w_ei ws (w_ar ws (n_v vs 0) 1)) (w_fi ws (n_v vs 0) 10) (w_fi ws (n_v vs 0) 13) (w_fi ws (n_v vs 0) 14) (w_fi ws (n_v vs 0) 8) (v_iv (Value.int x)) (v_iv (Value.int y)) k1 k2 k3 k5 k7 f0 f1 f2 f3 f4 f5 f6 f7 f8 f9 f10 f12 hK_0_1 hK_0_3 hK_0_4 kz_0_8 kz_0_10 kz_0_11 kz_0_12 kz_0_13 kz_0_14 kz_0_15 ex2 ex3 ey2 ey3
  have nf9 : fc_1 PRD (20, [0, 1, 9], [60, 8, 2, 991, 10, 11, 12, 13, 14, 15, 8, 5, 1, 2]) ws (vs ++ [Value.int x, Value.int y]) := by
    refine ⟨nf_inA hl rfl, sgq_2113 ?_⟩
    · show zRSE (w_fi ws (n_v (vs ++ [Value.int x, Value.int y]) 0) 10) (w_fi ws (n_v (vs ++ [Value.int x, Value.int y]) 0) 11) (w_fi ws (n_v (vs ++ [Value.int x, Value.int y]) 0) 12) (w_fi ws (n_v (vs ++ [Value.int x, Value.int y]) 0) 13) (w_fi ws (n_v (vs ++ [Value.int x, Value.int y]) 0) 14) (w_fi ws (n_v (vs ++ [Value.int x, Value.int y]) 0) 15) (w_fi ws (n_v (vs ++ [Value.int x, Value.int y]) 0) 8) (w_fi ws (n_v (vs ++ [Value.int x, Value.int y]) 0) 5) (w_ei ws (w_ar ws (n_v (vs ++ [Value.int x, Value.int y]) 0) 1)) (w_ei ws (w_ar ws (n_v (vs ++ [Value.int x, Value.int y]) 0) 2)) (v_iv (n_v (vs ++ [Value.int x, Value.int y]) 1)) (v_iv (n_v (vs ++ [Value.int x, Value.int y]) 9))
      simp only [e_0, e_1, e_9]
      exact vc_Mo_item_at_k4_0_9 (v_iv (n_v vs 1)) (v_iv (n_v vs 2)) (v_iv (n_v vs 3)) (v_iv (n_v vs 5)) (v_iv (n_v vs 7)) (w_fi ws (n_v vs 0) 15) (w_fi ws (n_v vs 0) 11) (w_fi ws (n_v vs 0) 12) (w_ei ws (w_ar ws (n_v vs 0) 2)) (w_fi ws (n_v vs 0) 5) (w_ei ws (w_ar ws (n_v vs 0) 3)) (w_ei ws (w_ar ws (n_v vs 0) 4)) (w_ei ws (w_ar ws (n_v vs 0) 1)) (w_fi ws (n_v vs 0) 10) (w_fi ws (n_v vs 0) 13) (w_fi ws (n_v vs 0) 14) (w_fi ws (n_v vs 0) 8) (v_iv (Value.int x)) (v_iv (Value.int y)) k1 k2 k3 k5 k7 f0 f1 f2 f3 f4 f5 f6 f7 f8 f9 f10 f12 hK_0_1 hK_0_3 hK_0_4 kz_0_8 kz_0_10 kz_0_11 kz_0_12 kz_0_13 kz_0_14 kz_0_15 ex2 ex3 ey2 ey3
  exact ⟨(fun _ h => (by cases h)), [Value.int x, Value.int y], ag_two hx hy, List.forall_mem_cons.mpr ⟨⟨show (23 : Nat) < 100 from by decide, nf0⟩, List.forall_mem_cons.mpr ⟨⟨show (23 : Nat) < 100 from by decide, nf1⟩, List.forall_mem_cons.mpr ⟨⟨show (23 : Nat) < 100 from by decide, nf2⟩, List.forall_mem_cons.mpr ⟨⟨show (23 : Nat) < 100 from by decide, nf3⟩, List.forall_mem_cons.mpr ⟨⟨show (20 : Nat) < 100 from by decide, nf4⟩, List.forall_mem_cons.mpr ⟨⟨show (20 : Nat) < 100 from by decide, nf5⟩, List.forall_mem_cons.mpr ⟨⟨show (20 : Nat) < 100 from by decide, nf6⟩, List.forall_mem_cons.mpr ⟨⟨show (20 : Nat) < 100 from by decide, nf7⟩, List.forall_mem_cons.mpr ⟨⟨show (20 : Nat) < 100 from by decide, nf8⟩, List.forall_mem_cons.mpr ⟨⟨show (20 : Nat) < 100 from by decide, nf9⟩, (fun _ h => (by cases h))⟩⟩⟩⟩⟩⟩⟩⟩⟩⟩, (fun _ h => (by cases h))⟩
set_option maxHeartbeats 4000000 in
theorem vc_Mo_item_at_k4_1_0 (x3 : Int) (x8 : Int) (pos_0 : Int) (r_0 : Int) (k3 : 0 ≤ x3 ∧ x3 ≤ 2000) (k8 : 0 ≤ x8 ∧ x8 ≤ 2000) (f0 : 1 * x8 + ((-1) * x3 + 0) ≤ 0) (f1 : (-1) * x8 + (1 * x3 + 0) ≤ 0) (f6 : 1 * x8 + ((-1) * pos_0 + 0) ≤ 0) (kz_0_11 : 0 ≤ pos_0 ∧ pos_0 ≤ 2000) : 1 * x3 + ((-1) * pos_0 + 0) ≤ 0 := by
  first
    | omega
    | (have q1 := (hE_0_2_1 (r_0 + 2) (by omega)).2 (by omega)
       have q2 := (hE_0_2_2 (r_0 + 2) (by omega)).2 (by omega)
       omega)
    | (have q1 := (hE_0_2_1 (r_0 + 1) (by omega)).2 (by omega)
       have q2 := (hE_0_2_2 (r_0 + 1) (by omega)).2 (by omega)
       omega)
    | (have q1 := (hE_0_2_1 (r_0 + 2) (by omega)).2 (by omega)
       omega)
    | (have q1 := (hE_0_2_1 (r_0 + 1) (by omega)).2 (by omega)
       omega)
    | (have q1 := (hE_0_2_1 (r_0 + 2) (by omega)).2 (by omega)
       have q2 := (hE_0_2_2 (r_0 + 2) (by omega)).2 (by omega)
       have q3 := (hE_0_2_3 (r_0 + 2) (by omega)).1 (by omega)
       omega)
    | (have q1 := (hE_0_2_1 (r_0 + 2) (by omega)).2 (by omega)
       have q2 := (hE_0_2_2 (r_0 + 2) (by omega)).2 (by omega)
       have q3 := (hE_0_2_3 (r_0 + 2) (by omega)).2 (by omega)
       omega)
set_option maxHeartbeats 4000000 in
theorem vc_Mo_item_at_k4_1_1 (x3 : Int) (x8 : Int) (pos_0 : Int) (fault_0 : Int) (r_0 : Int) (k3 : 0 ≤ x3 ∧ x3 ≤ 2000) (k8 : 0 ≤ x8 ∧ x8 ≤ 2000) (f0 : 1 * x8 + ((-1) * x3 + 0) ≤ 0) (f1 : (-1) * x8 + (1 * x3 + 0) ≤ 0) (f6 : 1 * x8 + ((-1) * pos_0 + 0) ≤ 0) (f7 : (1 ≤ fault_0) ∨ ((x8 + 1) ≤ pos_0)) (kz_0_8 : 0 ≤ fault_0 ∧ fault_0 ≤ 5) (kz_0_11 : 0 ≤ pos_0 ∧ pos_0 ≤ 2000) : (1 ≤ fault_0) ∨ ((x3 + 1) ≤ pos_0) := by
  first
    | omega
    | (have q1 := (hE_0_2_1 (r_0 + 2) (by omega)).2 (by omega)
       have q2 := (hE_0_2_2 (r_0 + 2) (by omega)).2 (by omega)
       omega)
    | (have q1 := (hE_0_2_1 (r_0 + 1) (by omega)).2 (by omega)
       have q2 := (hE_0_2_2 (r_0 + 1) (by omega)).2 (by omega)
       omega)
    | (have q1 := (hE_0_2_1 (r_0 + 2) (by omega)).2 (by omega)
       omega)
    | (have q1 := (hE_0_2_1 (r_0 + 1) (by omega)).2 (by omega)
       omega)
    | (have q1 := (hE_0_2_1 (r_0 + 2) (by omega)).2 (by omega)
       have q2 := (hE_0_2_2 (r_0 + 2) (by omega)).2 (by omega)
       have q3 := (hE_0_2_3 (r_0 + 2) (by omega)).1 (by omega)
       omega)
    | (have q1 := (hE_0_2_1 (r_0 + 2) (by omega)).2 (by omega)
       have q2 := (hE_0_2_2 (r_0 + 2) (by omega)).2 (by omega)
       have q3 := (hE_0_2_3 (r_0 + 2) (by omega)).2 (by omega)
       omega)
set_option maxHeartbeats 4000000 in
theorem vc_Mo_item_at_k4_1_2 (x1 : Int) (x2 : Int) (x3 : Int) (x8 : Int) (x9 : Int) (from_0 : Int) (pos_0 : Int) (kind_0 : Int) (fault_0 : Int) (all_0 : Int → Int) (r_0 : Int) (now_0 : Int → Int) (latest_0 : Int → Int) (tape_0 : Int → Int) (limit_0 : Int) (place_0 : Int) (value_0 : Int) (faultPlace_0 : Int) (k1 : 0 ≤ x1 ∧ x1 ≤ 7) (k2 : 4 ≤ x2 ∧ x2 ≤ 4) (k3 : 0 ≤ x3 ∧ x3 ≤ 2000) (k8 : 0 ≤ x8 ∧ x8 ≤ 2000) (k9 : 0 ≤ x9 ∧ x9 ≤ 4) (f0 : 1 * x8 + ((-1) * x3 + 0) ≤ 0) (f1 : (-1) * x8 + (1 * x3 + 0) ≤ 0) (f2 : 1 * x9 + ((-1) * x2 + 0) ≤ 0) (f3 : (-1) * x9 + (1 * x2 + 0) ≤ 0) (f4 : 1 * from_0 + ((-1) * pos_0 + 0) ≤ 0) (f5 : ((kind_0 = 1) → (pos_0 ≤ (from_0 + 8))) ∧ ((kind_0 = 0) ∨ ((from_0 + 1) ≤ pos_0))) (f6 : 1 * x8 + ((-1) * pos_0 + 0) ≤ 0) (f7 : (1 ≤ fault_0) ∨ ((x8 + 1) ≤ pos_0)) (f8 : (x1 + 1) ≤ all_0 ((r_0 + 2))) (f9 : RWS (r_0) (all_0) (now_0) (latest_0)) (f10 : zOS0 (limit_0) (pos_0) (kind_0) (place_0) (value_0) (from_0) (fault_0) (faultPlace_0) (r_0) (tape_0) (all_0) (x1) (x9)) (f12 : 1 * x8 + ((-1) * x3 + 0) ≤ 0) (f13 : (-1) * x8 + (1 * x3 + 0) ≤ 0) (f14 : 1 * x9 + ((-1) * x2 + 0) ≤ 0) (f15 : (-1) * x9 + (1 * x2 + 0) ≤ 0) (hK_0_1 : ∀ j : Int, 0 ≤ j → j < 2000 → (-128) ≤ tape_0 j ∧ tape_0 j ≤ 127) (hK_0_3 : ∀ j : Int, 0 ≤ j → j < 4 → 0 ≤ now_0 j ∧ now_0 j ≤ 30) (hK_0_4 : ∀ j : Int, 0 ≤ j → j < 4 → 0 ≤ latest_0 j ∧ latest_0 j ≤ 30) (kz_0_8 : 0 ≤ fault_0 ∧ fault_0 ≤ 5) (kz_0_9 : 0 ≤ faultPlace_0 ∧ faultPlace_0 ≤ 2000) (kz_0_10 : 0 ≤ limit_0 ∧ limit_0 ≤ 2000) (kz_0_11 : 0 ≤ pos_0 ∧ pos_0 ≤ 2000) (kz_0_12 : 0 ≤ kind_0 ∧ kind_0 ≤ 4) (kz_0_13 : 0 ≤ place_0 ∧ place_0 ≤ 2000) (kz_0_14 : (-49) ≤ value_0 ∧ value_0 ≤ 1048575) (kz_0_15 : 0 ≤ from_0 ∧ from_0 ≤ 2000) : zOS0 (limit_0) (pos_0) (kind_0) (place_0) (value_0) (from_0) (fault_0) (faultPlace_0) (r_0) (tape_0) (all_0) (x1) (x2) := by
  first | (have el_x8 : x8 = x3 := by omega); subst el_x8 | skip
  first | (have el_x9 : x9 = x2 := by omega); subst el_x9 | skip
  assumption
def o_Mo_item_at_k4_1 : or_T := (94, 10, [(0, (2, 0, 0, [165])), (1, (0, 0, 7, [])), (2, (0, 4, 4, [])), (3, (0, 0, 2000, [])), (8, (0, 0, 2000, [])), (9, (0, 0, 4, []))], [(23, [8, 3], [0, 1, -1]), (23, [8, 3], [0, -1, 1]), (23, [9, 2], [0, 1, -1]), (23, [9, 2], [0, -1, 1]), (20, [0, 0], [30, 0, 1, 1, 15, -1, 1, 11]), (20, [0], [50, 3, 0, 12, 11, 15, 2, 21, 4, 7, 1, 3, 2, 0, 12, 0, 1, 0, 3, 2, 0, 11, 4, 3, 2, 0, 15, 0, 8, 3, 7, 1, 3, 2, 0, 12, 0, 0, 0, 7, 4, 3, 2, 0, 15, 0, 1, 2, 0, 11]), (20, [8, 0], [30, 0, 1, 0, 0, -1, 1, 11]), (20, [0, 8], [50, 2, 0, 8, 11, 3, 7, 0, 2, 0, 1, 2, 0, 8, 0, 6, 4, 2, 1, 1, 0, 1, 2, 0, 11]), (20, [1, 0], [50, 1, 1, 1005, 1002, 0, 6, 4, 2, 1, 0, 0, 1, 3, 1, 2, 4, 3, 2, 1, 5, 0, 2]), (20, [0], [60, 1, 3, 199, 5, 2, 3, 4]), (20, [0, 1, 9], [60, 9, 2, 1007, 10, 11, 12, 13, 14, 15, 8, 9, 5, 1, 2]), (102, [9], [187072209578355573530071658587684226515959365500928, 165008, 165009, 165011, 165012, 165013, 165014, 165015]), (23, [8, 3], [0, 1, -1]), (23, [8, 3], [0, -1, 1]), (23, [9, 2], [0, 1, -1]), (23, [9, 2], [0, -1, 1])], [], [], [(20, [3, 0], [30, 0, 1, 0, 0, -1, 1, 11]), (20, [0, 3], [50, 2, 0, 8, 11, 3, 7, 0, 2, 0, 1, 2, 0, 8, 0, 6, 4, 2, 1, 1, 0, 1, 2, 0, 11]), (20, [0, 1, 2], [60, 9, 2, 1007, 10, 11, 12, 13, 14, 15, 8, 9, 5, 1, 2])], [], [])
theorem oo_Mo_item_at_k4_1 {kA : Nat → ClassId} : or_ok PRD kA GG o_Mo_item_at_k4_1 := by
  refine or_mk fun A ta ws vs hD hth hl => ?_
  intro t0 r0 t1 k1 t2 k2 t3 k3 t8 k8 t9 k9 f0 f1 f2 f3 f4 f5 f6 f7 f8 f9 f10 ta1 w1 le1 s1 f12 f13 f14 f15
  have cr_0_1 := fdq_39 hD hth r0
  have cr_0_3 := fdq_142 hD hth r0
  have cr_0_4 := fdq_143 hD hth r0
  have hK_0_1 := elq_7 hD hth cr_0_1
  have hK_0_3 := elq_80 hD hth cr_0_3
  have hK_0_4 := elq_81 hD hth cr_0_4
  have kz_0_8 := fdq_34 hD hth r0
  have kz_0_9 := fdq_44 hD hth r0
  have kz_0_10 := fdq_43 hD hth r0
  have kz_0_11 := fdq_237 hD hth r0
  have kz_0_12 := fdq_187 hD hth r0
  have kz_0_13 := fdq_238 hD hth r0
  have kz_0_14 := fdq_188 hD hth r0
  have kz_0_15 := fdq_239 hD hth r0
  have nf0 : fc_1 PRD (20, [3, 0], [30, 0, 1, 0, 0, -1, 1, 11]) ws (vs) := ⟨nf_in hl rfl, sgq_1431 (vc_Mo_item_at_k4_1_0 (v_iv (n_v vs 3)) (v_iv (n_v vs 8)) (w_fi ws (n_v vs 0) 11) (w_fi ws (n_v vs 0) 5) k3 k8 (shm_7 f0) (shm_22 f1) (shm_1431 f6) kz_0_11)⟩
  have nf1 : fc_1 PRD (20, [0, 3], [50, 2, 0, 8, 11, 3, 7, 0, 2, 0, 1, 2, 0, 8, 0, 6, 4, 2, 1, 1, 0, 1, 2, 0, 11]) ws (vs) := ⟨nf_in hl rfl, sgq_1726 (vc_Mo_item_at_k4_1_1 (v_iv (n_v vs 3)) (v_iv (n_v vs 8)) (w_fi ws (n_v vs 0) 11) (w_fi ws (n_v vs 0) 8) (w_fi ws (n_v vs 0) 5) k3 k8 (shm_7 f0) (shm_22 f1) (shm_1431 f6) (shm_1726 f7) kz_0_8 kz_0_11)⟩
  have nf2 : fc_1 PRD (20, [0, 1, 2], [60, 9, 2, 1007, 10, 11, 12, 13, 14, 15, 8, 9, 5, 1, 2]) ws (vs) := ⟨nf_in hl rfl, sgq_1727 (vc_Mo_item_at_k4_1_2 (v_iv (n_v vs 1)) (v_iv (n_v vs 2)) (v_iv (n_v vs 3)) (v_iv (n_v vs 8)) (v_iv (n_v vs 9)) (w_fi ws (n_v vs 0) 15) (w_fi ws (n_v vs 0) 11) (w_fi ws (n_v vs 0) 12) (w_fi ws (n_v vs 0) 8) (w_ei ws (w_ar ws (n_v vs 0) 2)) (w_fi ws (n_v vs 0) 5) (w_ei ws (w_ar ws (n_v vs 0) 3)) (w_ei ws (w_ar ws (n_v vs 0) 4)) (w_ei ws (w_ar ws (n_v vs 0) 1)) (w_fi ws (n_v vs 0) 10) (w_fi ws (n_v vs 0) 13) (w_fi ws (n_v vs 0) 14) (w_fi ws (n_v vs 0) 9) k1 k2 k3 k8 k9 (shm_7 f0) (shm_22 f1) (shm_7 f2) (shm_22 f3) (shm_1437 f4) (shm_1438 f5) (shm_1431 f6) (shm_1726 f7) (shm_1009 f8) (shm_980 f9) (shm_1727 f10) (shm_7 f12) (shm_22 f13) (shm_7 f14) (shm_22 f15) hK_0_1 hK_0_3 hK_0_4 kz_0_8 kz_0_9 kz_0_10 kz_0_11 kz_0_12 kz_0_13 kz_0_14 kz_0_15)⟩
  refine ⟨(fun _ h => (by cases h)), [], trivial, ?_, (fun _ h => (by cases h))⟩
  rw [List.append_nil]
  exact List.forall_mem_cons.mpr ⟨⟨show (20 : Nat) < 100 from by decide, nf0⟩, List.forall_mem_cons.mpr ⟨⟨show (20 : Nat) < 100 from by decide, nf1⟩, List.forall_mem_cons.mpr ⟨⟨show (20 : Nat) < 100 from by decide, nf2⟩, (fun _ h => (by cases h))⟩⟩⟩
set_option maxHeartbeats 4000000 in
theorem vc_Mo_item_at_k4_2_0 (x3 : Int) (r_0 : Int) (gx : Int) (k3 : 0 ≤ x3 ∧ x3 ≤ 2000) (ex2 : gx = x3) : 1 * gx + ((-1) * x3 + 0) ≤ 0 := by
  first
    | omega
    | (have q1 := (hE_0_2_1 (r_0 + 2) (by omega)).2 (by omega)
       have q2 := (hE_0_2_2 (r_0 + 2) (by omega)).2 (by omega)
       omega)
    | (have q1 := (hE_0_2_1 (r_0 + 1) (by omega)).2 (by omega)
       have q2 := (hE_0_2_2 (r_0 + 1) (by omega)).2 (by omega)
       omega)
    | (have q1 := (hE_0_2_1 (r_0 + 2) (by omega)).2 (by omega)
       omega)
    | (have q1 := (hE_0_2_1 (r_0 + 1) (by omega)).2 (by omega)
       omega)
    | (have q1 := (hE_0_2_1 (r_0 + 2) (by omega)).2 (by omega)
       have q2 := (hE_0_2_2 (r_0 + 2) (by omega)).2 (by omega)
       have q3 := (hE_0_2_3 (r_0 + 2) (by omega)).1 (by omega)
       omega)
    | (have q1 := (hE_0_2_1 (r_0 + 2) (by omega)).2 (by omega)
       have q2 := (hE_0_2_2 (r_0 + 2) (by omega)).2 (by omega)
       have q3 := (hE_0_2_3 (r_0 + 2) (by omega)).2 (by omega)
       omega)
set_option maxHeartbeats 4000000 in
theorem vc_Mo_item_at_k4_2_1 (x3 : Int) (r_0 : Int) (gx : Int) (k3 : 0 ≤ x3 ∧ x3 ≤ 2000) (ex2 : gx = x3) : (-1) * gx + (1 * x3 + 0) ≤ 0 := by
  first
    | omega
    | (have q1 := (hE_0_2_1 (r_0 + 2) (by omega)).2 (by omega)
       have q2 := (hE_0_2_2 (r_0 + 2) (by omega)).2 (by omega)
       omega)
    | (have q1 := (hE_0_2_1 (r_0 + 1) (by omega)).2 (by omega)
       have q2 := (hE_0_2_2 (r_0 + 1) (by omega)).2 (by omega)
       omega)
    | (have q1 := (hE_0_2_1 (r_0 + 2) (by omega)).2 (by omega)
       omega)
    | (have q1 := (hE_0_2_1 (r_0 + 1) (by omega)).2 (by omega)
       omega)
    | (have q1 := (hE_0_2_1 (r_0 + 2) (by omega)).2 (by omega)
       have q2 := (hE_0_2_2 (r_0 + 2) (by omega)).2 (by omega)
       have q3 := (hE_0_2_3 (r_0 + 2) (by omega)).1 (by omega)
       omega)
    | (have q1 := (hE_0_2_1 (r_0 + 2) (by omega)).2 (by omega)
       have q2 := (hE_0_2_2 (r_0 + 2) (by omega)).2 (by omega)
       have q3 := (hE_0_2_3 (r_0 + 2) (by omega)).2 (by omega)
       omega)
set_option maxHeartbeats 4000000 in
theorem vc_Mo_item_at_k4_2_2 (from_0 : Int) (pos_0 : Int) (r_0 : Int) (f1 : 1 * from_0 + ((-1) * pos_0 + 0) ≤ 0) (kz_0_11 : 0 ≤ pos_0 ∧ pos_0 ≤ 2000) (kz_0_15 : 0 ≤ from_0 ∧ from_0 ≤ 2000) : 1 * from_0 + ((-1) * pos_0 + 0) ≤ 0 := by
  first
    | omega
    | (have q1 := (hE_0_2_1 (r_0 + 2) (by omega)).2 (by omega)
       have q2 := (hE_0_2_2 (r_0 + 2) (by omega)).2 (by omega)
       omega)
    | (have q1 := (hE_0_2_1 (r_0 + 1) (by omega)).2 (by omega)
       have q2 := (hE_0_2_2 (r_0 + 1) (by omega)).2 (by omega)
       omega)
    | (have q1 := (hE_0_2_1 (r_0 + 2) (by omega)).2 (by omega)
       omega)
    | (have q1 := (hE_0_2_1 (r_0 + 1) (by omega)).2 (by omega)
       omega)
    | (have q1 := (hE_0_2_1 (r_0 + 2) (by omega)).2 (by omega)
       have q2 := (hE_0_2_2 (r_0 + 2) (by omega)).2 (by omega)
       have q3 := (hE_0_2_3 (r_0 + 2) (by omega)).1 (by omega)
       omega)
    | (have q1 := (hE_0_2_1 (r_0 + 2) (by omega)).2 (by omega)
       have q2 := (hE_0_2_2 (r_0 + 2) (by omega)).2 (by omega)
       have q3 := (hE_0_2_3 (r_0 + 2) (by omega)).2 (by omega)
       omega)
set_option maxHeartbeats 4000000 in
theorem vc_Mo_item_at_k4_2_3 (from_0 : Int) (pos_0 : Int) (kind_0 : Int) (r_0 : Int) (f2 : ((kind_0 = 1) → (pos_0 ≤ (from_0 + 8))) ∧ ((kind_0 = 0) ∨ ((from_0 + 1) ≤ pos_0))) (kz_0_11 : 0 ≤ pos_0 ∧ pos_0 ≤ 2000) (kz_0_12 : 0 ≤ kind_0 ∧ kind_0 ≤ 4) (kz_0_15 : 0 ≤ from_0 ∧ from_0 ≤ 2000) : ((kind_0 = 1) → (pos_0 ≤ (from_0 + 8))) ∧ ((kind_0 = 0) ∨ ((from_0 + 1) ≤ pos_0)) := by
  first
    | omega
    | (have q1 := (hE_0_2_1 (r_0 + 2) (by omega)).2 (by omega)
       have q2 := (hE_0_2_2 (r_0 + 2) (by omega)).2 (by omega)
       omega)
    | (have q1 := (hE_0_2_1 (r_0 + 1) (by omega)).2 (by omega)
       have q2 := (hE_0_2_2 (r_0 + 1) (by omega)).2 (by omega)
       omega)
    | (have q1 := (hE_0_2_1 (r_0 + 2) (by omega)).2 (by omega)
       omega)
    | (have q1 := (hE_0_2_1 (r_0 + 1) (by omega)).2 (by omega)
       omega)
    | (have q1 := (hE_0_2_1 (r_0 + 2) (by omega)).2 (by omega)
       have q2 := (hE_0_2_2 (r_0 + 2) (by omega)).2 (by omega)
       have q3 := (hE_0_2_3 (r_0 + 2) (by omega)).1 (by omega)
       omega)
    | (have q1 := (hE_0_2_1 (r_0 + 2) (by omega)).2 (by omega)
       have q2 := (hE_0_2_2 (r_0 + 2) (by omega)).2 (by omega)
       have q3 := (hE_0_2_3 (r_0 + 2) (by omega)).2 (by omega)
       omega)
set_option maxHeartbeats 4000000 in
theorem vc_Mo_item_at_k4_2_4 (x3 : Int) (pos_0 : Int) (r_0 : Int) (gx : Int) (k3 : 0 ≤ x3 ∧ x3 ≤ 2000) (f3 : 1 * x3 + ((-1) * pos_0 + 0) ≤ 0) (kz_0_11 : 0 ≤ pos_0 ∧ pos_0 ≤ 2000) (ex2 : gx = x3) : 1 * gx + ((-1) * pos_0 + 0) ≤ 0 := by
  first
    | omega
    | (have q1 := (hE_0_2_1 (r_0 + 2) (by omega)).2 (by omega)
       have q2 := (hE_0_2_2 (r_0 + 2) (by omega)).2 (by omega)
       omega)
    | (have q1 := (hE_0_2_1 (r_0 + 1) (by omega)).2 (by omega)
       have q2 := (hE_0_2_2 (r_0 + 1) (by omega)).2 (by omega)
       omega)
    | (have q1 := (hE_0_2_1 (r_0 + 2) (by omega)).2 (by omega)
       omega)
    | (have q1 := (hE_0_2_1 (r_0 + 1) (by omega)).2 (by omega)
       omega)
    | (have q1 := (hE_0_2_1 (r_0 + 2) (by omega)).2 (by omega)
       have q2 := (hE_0_2_2 (r_0 + 2) (by omega)).2 (by omega)
       have q3 := (hE_0_2_3 (r_0 + 2) (by omega)).1 (by omega)
       omega)
    | (have q1 := (hE_0_2_1 (r_0 + 2) (by omega)).2 (by omega)
       have q2 := (hE_0_2_2 (r_0 + 2) (by omega)).2 (by omega)
       have q3 := (hE_0_2_3 (r_0 + 2) (by omega)).2 (by omega)
       omega)
set_option maxHeartbeats 4000000 in
theorem vc_Mo_item_at_k4_2_5 (x1 : Int) (all_0 : Int → Int) (r_0 : Int) (k1 : 0 ≤ x1 ∧ x1 ≤ 7) (f4 : (x1 + 1) ≤ all_0 ((r_0 + 2))) : (x1 + 1) ≤ all_0 ((r_0 + 2)) := by
  first
    | omega
    | (have q1 := (hE_0_2_1 (r_0 + 2) (by omega)).2 (by omega)
       have q2 := (hE_0_2_2 (r_0 + 2) (by omega)).2 (by omega)
       omega)
    | (have q1 := (hE_0_2_1 (r_0 + 1) (by omega)).2 (by omega)
       have q2 := (hE_0_2_2 (r_0 + 1) (by omega)).2 (by omega)
       omega)
    | (have q1 := (hE_0_2_1 (r_0 + 2) (by omega)).2 (by omega)
       omega)
    | (have q1 := (hE_0_2_1 (r_0 + 1) (by omega)).2 (by omega)
       omega)
    | (have q1 := (hE_0_2_1 (r_0 + 2) (by omega)).2 (by omega)
       have q2 := (hE_0_2_2 (r_0 + 2) (by omega)).2 (by omega)
       have q3 := (hE_0_2_3 (r_0 + 2) (by omega)).1 (by omega)
       omega)
    | (have q1 := (hE_0_2_1 (r_0 + 2) (by omega)).2 (by omega)
       have q2 := (hE_0_2_2 (r_0 + 2) (by omega)).2 (by omega)
       have q3 := (hE_0_2_3 (r_0 + 2) (by omega)).2 (by omega)
       omega)
set_option maxHeartbeats 4000000 in
theorem vc_Mo_item_at_k4_2_6 (all_0 : Int → Int) (r_0 : Int) (now_0 : Int → Int) (latest_0 : Int → Int) (f5 : RWS (r_0) (all_0) (now_0) (latest_0)) : RWS (r_0) (all_0) (now_0) (latest_0) := by
  first
    | assumption
set_option maxHeartbeats 4000000 in
theorem vc_Mo_item_at_k4_2_7 (x1 : Int) (x2 : Int) (x3 : Int) (x5 : Int) (x7 : Int) (from_0 : Int) (pos_0 : Int) (kind_0 : Int) (all_0 : Int → Int) (r_0 : Int) (now_0 : Int → Int) (latest_0 : Int → Int) (tape_0 : Int → Int) (limit_0 : Int) (place_0 : Int) (value_0 : Int) (fault_0 : Int) (gx : Int) (k1 : 0 ≤ x1 ∧ x1 ≤ 7) (k2 : 4 ≤ x2 ∧ x2 ≤ 4) (k3 : 0 ≤ x3 ∧ x3 ≤ 2000) (k5 : 0 ≤ x5 ∧ x5 ≤ 0) (k7 : 1 ≤ x7 ∧ x7 ≤ 1) (f0 : x7 ≠ 0) (f1 : 1 * from_0 + ((-1) * pos_0 + 0) ≤ 0) (f2 : ((kind_0 = 1) → (pos_0 ≤ (from_0 + 8))) ∧ ((kind_0 = 0) ∨ ((from_0 + 1) ≤ pos_0))) (f3 : 1 * x3 + ((-1) * pos_0 + 0) ≤ 0) (f4 : (x1 + 1) ≤ all_0 ((r_0 + 2))) (f5 : RWS (r_0) (all_0) (now_0) (latest_0)) (f6 : zRSI (limit_0) (pos_0) (kind_0) (place_0) (value_0) (from_0) (fault_0) (r_0) (tape_0) (all_0) (x1) (x2)) (f7 : (x5 = 1) → (kind_0 = 1)) (f8 : WQn (kind_0) (pos_0) (limit_0) (from_0) (tape_0) (x5)) (f9 : (x7 = 1) → (kind_0 = 1)) (f10 : WQg (kind_0) (pos_0) (limit_0) (from_0) (tape_0) (x7)) (f12 : x5 = 0) (hK_0_1 : ∀ j : Int, 0 ≤ j → j < 2000 → (-128) ≤ tape_0 j ∧ tape_0 j ≤ 127) (hK_0_3 : ∀ j : Int, 0 ≤ j → j < 4 → 0 ≤ now_0 j ∧ now_0 j ≤ 30) (hK_0_4 : ∀ j : Int, 0 ≤ j → j < 4 → 0 ≤ latest_0 j ∧ latest_0 j ≤ 30) (kz_0_8 : 0 ≤ fault_0 ∧ fault_0 ≤ 5) (kz_0_10 : 0 ≤ limit_0 ∧ limit_0 ≤ 2000) (kz_0_11 : 0 ≤ pos_0 ∧ pos_0 ≤ 2000) (kz_0_12 : 0 ≤ kind_0 ∧ kind_0 ≤ 4) (kz_0_13 : 0 ≤ place_0 ∧ place_0 ≤ 2000) (kz_0_14 : (-49) ≤ value_0 ∧ value_0 ≤ 1048575) (kz_0_15 : 0 ≤ from_0 ∧ from_0 ≤ 2000) (ex2 : gx = x3) (ex3 : 0 ≤ gx ∧ gx ≤ 2000) : zRSG (limit_0) (pos_0) (kind_0) (place_0) (value_0) (from_0) (fault_0) (r_0) (tape_0) (all_0) (x1) (x2) := by
  first | subst ex2 | skip
  exact it_group ‹zRSI _ _ _ _ _ _ _ _ _ _ _ _› ‹WQg _ _ _ _ _ _› (by omega)
def o_Mo_item_at_k4_2 : or_T := (83, 8, [(0, (2, 0, 0, [165])), (1, (0, 0, 7, [])), (2, (0, 4, 4, [])), (3, (0, 0, 2000, [])), (5, (0, 0, 0, [])), (7, (0, 1, 1, []))], [(8, [7], [1]), (20, [0, 0], [30, 0, 1, 1, 15, -1, 1, 11]), (20, [0], [50, 3, 0, 12, 11, 15, 2, 21, 4, 7, 1, 3, 2, 0, 12, 0, 1, 0, 3, 2, 0, 11, 4, 3, 2, 0, 15, 0, 8, 3, 7, 1, 3, 2, 0, 12, 0, 0, 0, 7, 4, 3, 2, 0, 15, 0, 1, 2, 0, 11]), (20, [3, 0], [30, 0, 1, 0, 0, -1, 1, 11]), (20, [1, 0], [50, 1, 1, 1005, 1002, 0, 6, 4, 2, 1, 0, 0, 1, 3, 1, 2, 4, 3, 2, 1, 5, 0, 2]), (20, [0], [60, 1, 3, 199, 5, 2, 3, 4]), (20, [0, 1, 2], [60, 8, 2, 990, 10, 11, 12, 13, 14, 15, 8, 5, 1, 2]), (20, [5, 0], [50, 1, 0, 1012, 4, 6, 1, 2, 1, 0, 0, 1, 1, 3, 2, 1, 12, 0, 1]), (20, [0, 5], [60, 4, 1, 958, 12, 11, 10, 15, 1]), (20, [7, 0], [50, 1, 0, 1012, 4, 6, 1, 2, 1, 0, 0, 1, 1, 3, 2, 1, 12, 0, 1]), (20, [0, 7], [60, 4, 1, 959, 12, 11, 10, 15, 1]), (102, [6], [0]), (8, [5], [0])], [], [(0, 0, 2000, [])], [(23, [8, 3], [0, 1, -1]), (23, [8, 3], [0, -1, 1]), (20, [0, 0], [30, 0, 1, 1, 15, -1, 1, 11]), (20, [0], [50, 3, 0, 12, 11, 15, 2, 21, 4, 7, 1, 3, 2, 0, 12, 0, 1, 0, 3, 2, 0, 11, 4, 3, 2, 0, 15, 0, 8, 3, 7, 1, 3, 2, 0, 12, 0, 0, 0, 7, 4, 3, 2, 0, 15, 0, 1, 2, 0, 11]), (20, [8, 0], [30, 0, 1, 0, 0, -1, 1, 11]), (20, [1, 0], [50, 1, 1, 1005, 1002, 0, 6, 4, 2, 1, 0, 0, 1, 3, 1, 2, 4, 3, 2, 1, 5, 0, 2]), (20, [0], [60, 1, 3, 199, 5, 2, 3, 4]), (20, [0, 1, 2], [60, 8, 2, 992, 10, 11, 12, 13, 14, 15, 8, 5, 1, 2])], [], [])
theorem oo_Mo_item_at_k4_2 {kA : Nat → ClassId} : or_ok PRD kA GG o_Mo_item_at_k4_2 := by
  refine or_mk fun A ta ws vs hD hth hl => ?_
  intro t0 r0 t1 k1 t2 k2 t3 k3 t5 k5 t7 k7 f0 f1 f2 f3 f4 f5 f6 f7 f8 f9 f10 ta1 w1 le1 s1 f12
  replace f0 := shm_142 f0
  replace f1 := shm_1437 f1
  replace f2 := shm_1438 f2
  replace f3 := shm_1431 f3
  replace f4 := shm_1009 f4
  replace f5 := shm_980 f5
  replace f6 := shm_2180 f6
  replace f7 := shm_1856 f7
  replace f8 := shm_1857 f8
  replace f9 := shm_1856 f9
  replace f10 := shm_1858 f10
  replace f12 := shm_192 f12
  have cr_0_1 := fdq_39 hD hth r0
  have cr_0_3 := fdq_142 hD hth r0
  have cr_0_4 := fdq_143 hD hth r0
  have hK_0_1 := elq_7 hD hth cr_0_1
  have hK_0_3 := elq_80 hD hth cr_0_3
  have hK_0_4 := elq_81 hD hth cr_0_4
  have kz_0_8 := fdq_34 hD hth r0
  have kz_0_10 := fdq_43 hD hth r0
  have kz_0_11 := fdq_237 hD hth r0
  have kz_0_12 := fdq_187 hD hth r0
  have kz_0_13 := fdq_238 hD hth r0
  have kz_0_14 := fdq_188 hD hth r0
  have kz_0_15 := fdq_239 hD hth r0
  obtain ⟨x, ex, hx⟩ := iv_ex (ta := ta) (lo := 0) (hi := 2000) (z := v_iv (n_v vs 3)) (by omega) (by omega) (by omega) (by omega)
  have ex2 : v_iv (Value.int x) = v_iv (n_v vs 3) := ex
  have ex3 : 0 ≤ v_iv (Value.int x) ∧ v_iv (Value.int x) ≤ 2000 := tv_rng hx
  have e_0 : n_v (vs ++ [Value.int x]) 0 = n_v vs 0 := n_v_old (by rw [hl]; decide)
  have e_1 : n_v (vs ++ [Value.int x]) 1 = n_v vs 1 := n_v_old (by rw [hl]; decide)
  have e_2 : n_v (vs ++ [Value.int x]) 2 = n_v vs 2 := n_v_old (by rw [hl]; decide)
  have e_3 : n_v (vs ++ [Value.int x]) 3 = n_v vs 3 := n_v_old (by rw [hl]; decide)
  have e_8 : n_v (vs ++ [Value.int x]) 8 = Value.int x := n_v_new hl
  have nf0 : fc_1 PRD (23, [8, 3], [0, 1, -1]) ws (vs ++ [Value.int x]) := by
    refine ⟨nf_inA hl rfl, sgq_7 ?_⟩
    · show 1 * v_iv (n_v (vs ++ [Value.int x]) 8) + ((-1) * v_iv (n_v (vs ++ [Value.int x]) 3) + 0) ≤ 0
      simp only [e_3, e_8]
      exact vc_Mo_item_at_k4_2_0 (v_iv (n_v vs 3)) (w_fi ws (n_v vs 0) 5) (v_iv (Value.int x)) k3 ex2
  have nf1 : fc_1 PRD (23, [8, 3], [0, -1, 1]) ws (vs ++ [Value.int x]) := by
    refine ⟨nf_inA hl rfl, sgq_22 ?_⟩
    · show (-1) * v_iv (n_v (vs ++ [Value.int x]) 8) + (1 * v_iv (n_v (vs ++ [Value.int x]) 3) + 0) ≤ 0
      simp only [e_3, e_8]
      exact vc_Mo_item_at_k4_2_1 (v_iv (n_v vs 3)) (w_fi ws (n_v vs 0) 5) (v_iv (Value.int x)) k3 ex2
  have nf2 : fc_1 PRD (20, [0, 0], [30, 0, 1, 1, 15, -1, 1, 11]) ws (vs ++ [Value.int x]) := by
    refine ⟨nf_inA hl rfl, sgq_1437 ?_⟩
    · show 1 * w_fi ws (n_v (vs ++ [Value.int x]) 0) 15 + ((-1) * w_fi ws (n_v (vs ++ [Value.int x]) 0) 11 + 0) ≤ 0
      rw [e_0]
      exact vc_Mo_item_at_k4_2_2 (w_fi ws (n_v vs 0) 15) (w_fi ws (n_v vs 0) 11) (w_fi ws (n_v vs 0) 5) f1 kz_0_11 kz_0_15
  have nf3 : fc_1 PRD (20, [0], [50, 3, 0, 12, 11, 15, 2, 21, 4, 7, 1, 3, 2, 0, 12, 0, 1, 0, 3, 2, 0, 11, 4, 3, 2, 0, 15, 0, 8, 3, 7, 1, 3, 2, 0, 12, 0, 0, 0, 7, 4, 3, 2, 0, 15, 0, 1, 2, 0, 11]) ws (vs ++ [Value.int x]) := by
    refine ⟨nf_inA hl rfl, sgq_1438 ?_⟩
    · show ((w_fi ws (n_v (vs ++ [Value.int x]) 0) 12 = 1) → (w_fi ws (n_v (vs ++ [Value.int x]) 0) 11 ≤ (w_fi ws (n_v (vs ++ [Value.int x]) 0) 15 + 8))) ∧ ((w_fi ws (n_v (vs ++ [Value.int x]) 0) 12 = 0) ∨ ((w_fi ws (n_v (vs ++ [Value.int x]) 0) 15 + 1) ≤ w_fi ws (n_v (vs ++ [Value.int x]) 0) 11))
      rw [e_0]
      exact vc_Mo_item_at_k4_2_3 (w_fi ws (n_v vs 0) 15) (w_fi ws (n_v vs 0) 11) (w_fi ws (n_v vs 0) 12) (w_fi ws (n_v vs 0) 5) f2 kz_0_11 kz_0_12 kz_0_15
  have nf4 : fc_1 PRD (20, [8, 0], [30, 0, 1, 0, 0, -1, 1, 11]) ws (vs ++ [Value.int x]) := by
    refine ⟨nf_inA hl rfl, sgq_1431 ?_⟩
    · show 1 * v_iv (n_v (vs ++ [Value.int x]) 8) + ((-1) * w_fi ws (n_v (vs ++ [Value.int x]) 0) 11 + 0) ≤ 0
      simp only [e_0, e_8]
      exact vc_Mo_item_at_k4_2_4 (v_iv (n_v vs 3)) (w_fi ws (n_v vs 0) 11) (w_fi ws (n_v vs 0) 5) (v_iv (Value.int x)) k3 f3 kz_0_11 ex2
  have nf5 : fc_1 PRD (20, [1, 0], [50, 1, 1, 1005, 1002, 0, 6, 4, 2, 1, 0, 0, 1, 3, 1, 2, 4, 3, 2, 1, 5, 0, 2]) ws (vs ++ [Value.int x]) := by
    refine ⟨nf_inA hl rfl, sgq_1009 ?_⟩
    · show (v_iv (n_v (vs ++ [Value.int x]) 1) + 1) ≤ w_ei ws (w_ar ws (n_v (vs ++ [Value.int x]) 0) 2) ((w_fi ws (n_v (vs ++ [Value.int x]) 0) 5 + 2))
      simp only [e_0, e_1]
      exact vc_Mo_item_at_k4_2_5 (v_iv (n_v vs 1)) (w_ei ws (w_ar ws (n_v vs 0) 2)) (w_fi ws (n_v vs 0) 5) k1 f4
  have nf6 : fc_1 PRD (20, [0], [60, 1, 3, 199, 5, 2, 3, 4]) ws (vs ++ [Value.int x]) := by
    refine ⟨nf_inA hl rfl, sgq_980 ?_⟩
    · show RWS (w_fi ws (n_v (vs ++ [Value.int x]) 0) 5) (w_ei ws (w_ar ws (n_v (vs ++ [Value.int x]) 0) 2)) (w_ei ws (w_ar ws (n_v (vs ++ [Value.int x]) 0) 3)) (w_ei ws (w_ar ws (n_v (vs ++ [Value.int x]) 0) 4))
      rw [e_0]
      exact vc_Mo_item_at_k4_2_6 (w_ei ws (w_ar ws (n_v vs 0) 2)) (w_fi ws (n_v vs 0) 5) (w_ei ws (w_ar ws (n_v vs 0) 3)) (w_ei ws (w_ar ws (n_v vs 0) 4)) f5
  have nf7 : fc_1 PRD (20, [0, 1, 2], [60, 8, 2, 992, 10, 11, 12, 13, 14, 15, 8, 5, 1, 2]) ws (vs ++ [Value.int x]) := by
    refine ⟨nf_inA hl rfl, sgq_2173 ?_⟩
    · show zRSG (w_fi ws (n_v (vs ++ [Value.int x]) 0) 10) (w_fi ws (n_v (vs ++ [Value.int x]) 0) 11) (w_fi ws (n_v (vs ++ [Value.int x]) 0) 12) (w_fi ws (n_v (vs ++ [Value.int x]) 0) 13) (w_fi ws (n_v (vs ++ [Value.int x]) 0) 14) (w_fi ws (n_v (vs ++ [Value.int x]) 0) 15) (w_fi ws (n_v (vs ++ [Value.int x]) 0) 8) (w_fi ws (n_v (vs ++ [Value.int x]) 0) 5) (w_ei ws (w_ar ws (n_v (vs ++ [Value.int x]) 0) 1)) (w_ei ws (w_ar ws (n_v (vs ++ [Value.int x]) 0) 2)) (v_iv (n_v (vs ++ [Value.int x]) 1)) (v_iv (n_v (vs ++ [Value.int x]) 2))
      simp only [e_0, e_1, e_2]
      exact vc_Mo_item_at_k4_2_7 (v_iv (n_v vs 1)) (v_iv (n_v vs 2)) (v_iv (n_v vs 3)) (v_iv (n_v vs 5)) (v_iv (n_v vs 7)) (w_fi ws (n_v vs 0) 15) (w_fi ws (n_v vs 0) 11) (w_fi ws (n_v vs 0) 12) (w_ei ws (w_ar ws (n_v vs 0) 2)) (w_fi ws (n_v vs 0) 5) (w_ei ws (w_ar ws (n_v vs 0) 3)) (w_ei ws (w_ar ws (n_v vs 0) 4)) (w_ei ws (w_ar ws (n_v vs 0) 1)) (w_fi ws (n_v vs 0) 10) (w_fi ws (n_v vs 0) 13) (w_fi ws (n_v vs 0) 14) (w_fi ws (n_v vs 0) 8) (v_iv (Value.int x)) k1 k2 k3 k5 k7 f0 f1 f2 f3 f4 f5 f6 f7 f8 f9 f10 f12 hK_0_1 hK_0_3 hK_0_4 kz_0_8 kz_0_10 kz_0_11 kz_0_12 kz_0_13 kz_0_14 kz_0_15 ex2 ex3
  exact ⟨(fun _ h => (by cases h)), [Value.int x], ag_one hx, List.forall_mem_cons.mpr ⟨⟨show (23 : Nat) < 100 from by decide, nf0⟩, List.forall_mem_cons.mpr ⟨⟨show (23 : Nat) < 100 from by decide, nf1⟩, List.forall_mem_cons.mpr ⟨⟨show (20 : Nat) < 100 from by decide, nf2⟩, List.forall_mem_cons.mpr ⟨⟨show (20 : Nat) < 100 from by decide, nf3⟩, List.forall_mem_cons.mpr ⟨⟨show (20 : Nat) < 100 from by decide, nf4⟩, List.forall_mem_cons.mpr ⟨⟨show (20 : Nat) < 100 from by decide, nf5⟩, List.forall_mem_cons.mpr ⟨⟨show (20 : Nat) < 100 from by decide, nf6⟩, List.forall_mem_cons.mpr ⟨⟨show (20 : Nat) < 100 from by decide, nf7⟩, (fun _ h => (by cases h))⟩⟩⟩⟩⟩⟩⟩⟩, (fun _ h => (by cases h))⟩
set_option maxHeartbeats 4000000 in
theorem vc_Mo_item_at_k4_3_0 (x3 : Int) (x7 : Int) (x8 : Int) (pos_0 : Int) (fault_0 : Int) (r_0 : Int) (k3 : 0 ≤ x3 ∧ x3 ≤ 2000) (k7 : 1 ≤ x7 ∧ x7 ≤ 1) (k8 : 0 ≤ x8 ∧ x8 ≤ 2000) (f0 : 1 * x8 + ((-1) * x3 + 0) ≤ 0) (f1 : (-1) * x8 + (1 * x3 + 0) ≤ 0) (f2 : 1 * x3 + ((-1) * pos_0 + 0) ≤ 0) (f10 : (1 ≤ fault_0) ∨ ((x8 + 1) ≤ pos_0)) (f17 : x7 ≠ 0) (kz_0_8 : 0 ≤ fault_0 ∧ fault_0 ≤ 5) (kz_0_11 : 0 ≤ pos_0 ∧ pos_0 ≤ 2000) : (1 ≤ fault_0) ∨ ((x3 + 1) ≤ pos_0) := by
  first
    | omega
    | (have q1 := (hE_0_2_1 (r_0 + 2) (by omega)).2 (by omega)
       have q2 := (hE_0_2_2 (r_0 + 2) (by omega)).2 (by omega)
       omega)
    | (have q1 := (hE_0_2_1 (r_0 + 1) (by omega)).2 (by omega)
       have q2 := (hE_0_2_2 (r_0 + 1) (by omega)).2 (by omega)
       omega)
    | (have q1 := (hE_0_2_1 (r_0 + 2) (by omega)).2 (by omega)
       omega)
    | (have q1 := (hE_0_2_1 (r_0 + 1) (by omega)).2 (by omega)
       omega)
    | (have q1 := (hE_0_2_1 (r_0 + 2) (by omega)).2 (by omega)
       have q2 := (hE_0_2_2 (r_0 + 2) (by omega)).2 (by omega)
       have q3 := (hE_0_2_3 (r_0 + 2) (by omega)).1 (by omega)
       omega)
    | (have q1 := (hE_0_2_1 (r_0 + 2) (by omega)).2 (by omega)
       have q2 := (hE_0_2_2 (r_0 + 2) (by omega)).2 (by omega)
       have q3 := (hE_0_2_3 (r_0 + 2) (by omega)).2 (by omega)
       omega)
def o_Mo_item_at_k4_3 : or_T := (94, 9, [(0, (2, 0, 0, [165])), (3, (0, 0, 2000, [])), (7, (0, 1, 1, [])), (8, (0, 0, 2000, []))], [(23, [8, 3], [0, 1, -1]), (23, [8, 3], [0, -1, 1]), (20, [3, 0], [30, 0, 1, 0, 0, -1, 1, 11]), (20, [0, 8], [50, 2, 0, 8, 11, 3, 7, 0, 2, 0, 1, 2, 0, 8, 0, 6, 4, 2, 1, 1, 0, 1, 2, 0, 11]), (102, [8], [0, 165008, 165009]), (8, [7], [1])], [], [], [(20, [0, 3], [50, 2, 0, 8, 11, 3, 7, 0, 2, 0, 1, 2, 0, 8, 0, 6, 4, 2, 1, 1, 0, 1, 2, 0, 11])], [], [])
theorem oo_Mo_item_at_k4_3 {kA : Nat → ClassId} : or_ok PRD kA GG o_Mo_item_at_k4_3 := by
  refine or_mk fun A ta ws vs hD hth hl => ?_
  intro t0 r0 t3 k3 t7 k7 t8 k8 f0 f1 f2 f10 ta1 w1 le1 s1 f17
  have kz_0_8 := fdq_34 hD hth r0
  have kz_0_11 := fdq_237 hD hth r0
  have nf0 : fc_1 PRD (20, [0, 3], [50, 2, 0, 8, 11, 3, 7, 0, 2, 0, 1, 2, 0, 8, 0, 6, 4, 2, 1, 1, 0, 1, 2, 0, 11]) ws (vs) := ⟨nf_in hl rfl, sgq_1726 (vc_Mo_item_at_k4_3_0 (v_iv (n_v vs 3)) (v_iv (n_v vs 7)) (v_iv (n_v vs 8)) (w_fi ws (n_v vs 0) 11) (w_fi ws (n_v vs 0) 8) (w_fi ws (n_v vs 0) 5) k3 k7 k8 (shm_7 f0) (shm_22 f1) (shm_1431 f2) (shm_1726 f10) (shm_142 f17) kz_0_8 kz_0_11)⟩
  refine ⟨(fun _ h => (by cases h)), [], trivial, ?_, (fun _ h => (by cases h))⟩
  rw [List.append_nil]
  exact List.forall_mem_cons.mpr ⟨⟨show (20 : Nat) < 100 from by decide, nf0⟩, (fun _ h => (by cases h))⟩
set_option maxHeartbeats 4000000 in
theorem vc_Mo_item_at_k4_4_0 (pos_0 : Int) (r_0 : Int) (gx : Int) (kz_0_11 : 0 ≤ pos_0 ∧ pos_0 ≤ 2000) (ex2 : gx = pos_0) : 1 * gx + ((-1) * pos_0 + 0) ≤ 0 := by
  first
    | omega
    | (have q1 := (hE_0_2_1 (r_0 + 2) (by omega)).2 (by omega)
       have q2 := (hE_0_2_2 (r_0 + 2) (by omega)).2 (by omega)
       omega)
    | (have q1 := (hE_0_2_1 (r_0 + 1) (by omega)).2 (by omega)
       have q2 := (hE_0_2_2 (r_0 + 1) (by omega)).2 (by omega)
       omega)
    | (have q1 := (hE_0_2_1 (r_0 + 2) (by omega)).2 (by omega)
       omega)
    | (have q1 := (hE_0_2_1 (r_0 + 1) (by omega)).2 (by omega)
       omega)
    | (have q1 := (hE_0_2_1 (r_0 + 2) (by omega)).2 (by omega)
       have q2 := (hE_0_2_2 (r_0 + 2) (by omega)).2 (by omega)
       have q3 := (hE_0_2_3 (r_0 + 2) (by omega)).1 (by omega)
       omega)
    | (have q1 := (hE_0_2_1 (r_0 + 2) (by omega)).2 (by omega)
       have q2 := (hE_0_2_2 (r_0 + 2) (by omega)).2 (by omega)
       have q3 := (hE_0_2_3 (r_0 + 2) (by omega)).2 (by omega)
       omega)
set_option maxHeartbeats 4000000 in
theorem vc_Mo_item_at_k4_4_1 (pos_0 : Int) (r_0 : Int) (gx : Int) (kz_0_11 : 0 ≤ pos_0 ∧ pos_0 ≤ 2000) (ex2 : gx = pos_0) : gx = pos_0 := by
  first
    | omega
    | (have q1 := (hE_0_2_1 (r_0 + 2) (by omega)).2 (by omega)
       have q2 := (hE_0_2_2 (r_0 + 2) (by omega)).2 (by omega)
       omega)
    | (have q1 := (hE_0_2_1 (r_0 + 1) (by omega)).2 (by omega)
       have q2 := (hE_0_2_2 (r_0 + 1) (by omega)).2 (by omega)
       omega)
    | (have q1 := (hE_0_2_1 (r_0 + 2) (by omega)).2 (by omega)
       omega)
    | (have q1 := (hE_0_2_1 (r_0 + 1) (by omega)).2 (by omega)
       omega)
    | (have q1 := (hE_0_2_1 (r_0 + 2) (by omega)).2 (by omega)
       have q2 := (hE_0_2_2 (r_0 + 2) (by omega)).2 (by omega)
       have q3 := (hE_0_2_3 (r_0 + 2) (by omega)).1 (by omega)
       omega)
    | (have q1 := (hE_0_2_1 (r_0 + 2) (by omega)).2 (by omega)
       have q2 := (hE_0_2_2 (r_0 + 2) (by omega)).2 (by omega)
       have q3 := (hE_0_2_3 (r_0 + 2) (by omega)).2 (by omega)
       omega)
set_option maxHeartbeats 4000000 in
theorem vc_Mo_item_at_k4_4_2 (x1 : Int) (x2 : Int) (from_0 : Int) (pos_0 : Int) (kind_0 : Int) (all_0 : Int → Int) (r_0 : Int) (tape_0 : Int → Int) (limit_0 : Int) (place_0 : Int) (value_0 : Int) (fault_0 : Int) (k1 : 0 ≤ x1 ∧ x1 ≤ 7) (k2 : 4 ≤ x2 ∧ x2 ≤ 4) (f6 : zRSI (limit_0) (pos_0) (kind_0) (place_0) (value_0) (from_0) (fault_0) (r_0) (tape_0) (all_0) (x1) (x2)) (kz_0_8 : 0 ≤ fault_0 ∧ fault_0 ≤ 5) (kz_0_10 : 0 ≤ limit_0 ∧ limit_0 ≤ 2000) (kz_0_11 : 0 ≤ pos_0 ∧ pos_0 ≤ 2000) (kz_0_12 : 0 ≤ kind_0 ∧ kind_0 ≤ 4) (kz_0_13 : 0 ≤ place_0 ∧ place_0 ≤ 2000) (kz_0_14 : (-49) ≤ value_0 ∧ value_0 ≤ 1048575) (kz_0_15 : 0 ≤ from_0 ∧ from_0 ≤ 2000) : ZLM (limit_0) (pos_0) := by
  exact zlm_r (‹zRSI _ _ _ _ _ _ _ _ _ _ _ _›).1
set_option maxHeartbeats 4000000 in
theorem vc_Mo_item_at_k4_4_3 (x1 : Int) (x2 : Int) (x3 : Int) (x5 : Int) (from_0 : Int) (pos_0 : Int) (kind_0 : Int) (all_0 : Int → Int) (r_0 : Int) (now_0 : Int → Int) (latest_0 : Int → Int) (tape_0 : Int → Int) (limit_0 : Int) (place_0 : Int) (value_0 : Int) (fault_0 : Int) (gx : Int) (k1 : 0 ≤ x1 ∧ x1 ≤ 7) (k2 : 4 ≤ x2 ∧ x2 ≤ 4) (k3 : 0 ≤ x3 ∧ x3 ≤ 2000) (k5 : 1 ≤ x5 ∧ x5 ≤ 1) (f0 : x5 ≠ 0) (f1 : 1 * from_0 + ((-1) * pos_0 + 0) ≤ 0) (f2 : ((kind_0 = 1) → (pos_0 ≤ (from_0 + 8))) ∧ ((kind_0 = 0) ∨ ((from_0 + 1) ≤ pos_0))) (f3 : 1 * x3 + ((-1) * pos_0 + 0) ≤ 0) (f4 : (x1 + 1) ≤ all_0 ((r_0 + 2))) (f5 : RWS (r_0) (all_0) (now_0) (latest_0)) (f6 : zRSI (limit_0) (pos_0) (kind_0) (place_0) (value_0) (from_0) (fault_0) (r_0) (tape_0) (all_0) (x1) (x2)) (f7 : (x5 = 1) → (kind_0 = 1)) (f8 : WQn (kind_0) (pos_0) (limit_0) (from_0) (tape_0) (x5)) (hK_0_1 : ∀ j : Int, 0 ≤ j → j < 2000 → (-128) ≤ tape_0 j ∧ tape_0 j ≤ 127) (hK_0_3 : ∀ j : Int, 0 ≤ j → j < 4 → 0 ≤ now_0 j ∧ now_0 j ≤ 30) (hK_0_4 : ∀ j : Int, 0 ≤ j → j < 4 → 0 ≤ latest_0 j ∧ latest_0 j ≤ 30) (kz_0_8 : 0 ≤ fault_0 ∧ fault_0 ≤ 5) (kz_0_10 : 0 ≤ limit_0 ∧ limit_0 ≤ 2000) (kz_0_11 : 0 ≤ pos_0 ∧ pos_0 ≤ 2000) (kz_0_12 : 0 ≤ kind_0 ∧ kind_0 ≤ 4) (kz_0_13 : 0 ≤ place_0 ∧ place_0 ≤ 2000) (kz_0_14 : (-49) ≤ value_0 ∧ value_0 ≤ 1048575) (kz_0_15 : 0 ≤ from_0 ∧ from_0 ≤ 2000) (ex2 : gx = pos_0) (ex3 : 0 ≤ gx ∧ gx ≤ 2000) : zTS1 (limit_0) (fault_0) (r_0) (tape_0) (all_0) (x1) (x2) (gx) := by
  first | subst ex2 | skip
  exact it_node ‹zRSI _ _ _ _ _ _ _ _ _ _ _ _› ‹WQn _ _ _ _ _ _› (by omega) (by omega)
set_option maxHeartbeats 4000000 in
theorem vc_Mo_item_at_k4_4_4 (x1 : Int) (x2 : Int) (x3 : Int) (x5 : Int) (from_0 : Int) (pos_0 : Int) (kind_0 : Int) (all_0 : Int → Int) (r_0 : Int) (now_0 : Int → Int) (latest_0 : Int → Int) (tape_0 : Int → Int) (limit_0 : Int) (place_0 : Int) (value_0 : Int) (fault_0 : Int) (gx : Int) (k1 : 0 ≤ x1 ∧ x1 ≤ 7) (k2 : 4 ≤ x2 ∧ x2 ≤ 4) (k3 : 0 ≤ x3 ∧ x3 ≤ 2000) (k5 : 1 ≤ x5 ∧ x5 ≤ 1) (f0 : x5 ≠ 0) (f1 : 1 * from_0 + ((-1) * pos_0 + 0) ≤ 0) (f2 : ((kind_0 = 1) → (pos_0 ≤ (from_0 + 8))) ∧ ((kind_0 = 0) ∨ ((from_0 + 1) ≤ pos_0))) (f3 : 1 * x3 + ((-1) * pos_0 + 0) ≤ 0) (f4 : (x1 + 1) ≤ all_0 ((r_0 + 2))) (f5 : RWS (r_0) (all_0) (now_0) (latest_0)) (f6 : zRSI (limit_0) (pos_0) (kind_0) (place_0) (value_0) (from_0) (fault_0) (r_0) (tape_0) (all_0) (x1) (x2)) (f7 : (x5 = 1) → (kind_0 = 1)) (f8 : WQn (kind_0) (pos_0) (limit_0) (from_0) (tape_0) (x5)) (hK_0_1 : ∀ j : Int, 0 ≤ j → j < 2000 → (-128) ≤ tape_0 j ∧ tape_0 j ≤ 127) (hK_0_3 : ∀ j : Int, 0 ≤ j → j < 4 → 0 ≤ now_0 j ∧ now_0 j ≤ 30) (hK_0_4 : ∀ j : Int, 0 ≤ j → j < 4 → 0 ≤ latest_0 j ∧ latest_0 j ≤ 30) (kz_0_8 : 0 ≤ fault_0 ∧ fault_0 ≤ 5) (kz_0_10 : 0 ≤ limit_0 ∧ limit_0 ≤ 2000) (kz_0_11 : 0 ≤ pos_0 ∧ pos_0 ≤ 2000) (kz_0_12 : 0 ≤ kind_0 ∧ kind_0 ≤ 4) (kz_0_13 : 0 ≤ place_0 ∧ place_0 ≤ 2000) (kz_0_14 : (-49) ≤ value_0 ∧ value_0 ≤ 1048575) (kz_0_15 : 0 ≤ from_0 ∧ from_0 ≤ 2000) (ex2 : gx = pos_0) (ex3 : 0 ≤ gx ∧ gx ≤ 2000) : 1 * x3 + ((-1) * gx + 0) ≤ 0 := by
  first
    | omega
    | (have q1 := (hE_0_2_1 (r_0 + 2) (by omega)).2 (by omega)
       have q2 := (hE_0_2_2 (r_0 + 2) (by omega)).2 (by omega)
       omega)
    | (have q1 := (hE_0_2_1 (r_0 + 1) (by omega)).2 (by omega)
       have q2 := (hE_0_2_2 (r_0 + 1) (by omega)).2 (by omega)
       omega)
    | (have q1 := (hE_0_2_1 (r_0 + 2) (by omega)).2 (by omega)
       omega)
    | (have q1 := (hE_0_2_1 (r_0 + 1) (by omega)).2 (by omega)
       omega)
    | (have q1 := (hE_0_2_1 (r_0 + 2) (by omega)).2 (by omega)
       have q2 := (hE_0_2_2 (r_0 + 2) (by omega)).2 (by omega)
       have q3 := (hE_0_2_3 (r_0 + 2) (by omega)).1 (by omega)
       omega)
    | (have q1 := (hE_0_2_1 (r_0 + 2) (by omega)).2 (by omega)
       have q2 := (hE_0_2_2 (r_0 + 2) (by omega)).2 (by omega)
       have q3 := (hE_0_2_3 (r_0 + 2) (by omega)).2 (by omega)
       omega)
def o_Mo_item_at_k4_4 : or_T := (11, 6, [(0, (2, 0, 0, [165])), (1, (0, 0, 7, [])), (2, (0, 4, 4, [])), (3, (0, 0, 2000, [])), (5, (0, 1, 1, []))], [(8, [5], [1]), (20, [0, 0], [30, 0, 1, 1, 15, -1, 1, 11]), (20, [0], [50, 3, 0, 12, 11, 15, 2, 21, 4, 7, 1, 3, 2, 0, 12, 0, 1, 0, 3, 2, 0, 11, 4, 3, 2, 0, 15, 0, 8, 3, 7, 1, 3, 2, 0, 12, 0, 0, 0, 7, 4, 3, 2, 0, 15, 0, 1, 2, 0, 11]), (20, [3, 0], [30, 0, 1, 0, 0, -1, 1, 11]), (20, [1, 0], [50, 1, 1, 1005, 1002, 0, 6, 4, 2, 1, 0, 0, 1, 3, 1, 2, 4, 3, 2, 1, 5, 0, 2]), (20, [0], [60, 1, 3, 199, 5, 2, 3, 4]), (20, [0, 1, 2], [60, 8, 2, 990, 10, 11, 12, 13, 14, 15, 8, 5, 1, 2]), (20, [5, 0], [50, 1, 0, 1012, 4, 6, 1, 2, 1, 0, 0, 1, 1, 3, 2, 1, 12, 0, 1]), (20, [0, 5], [60, 4, 1, 958, 12, 11, 10, 15, 1])], [], [(0, 0, 2000, [])], [(20, [6, 0], [30, 0, 1, 0, 0, -1, 1, 11]), (20, [6, 0], [50, 1, 0, 1011, 1, 2, 1, 0, 2, 1, 11]), (20, [0], [60, 2, 0, 947, 10, 11]), (20, [0, 1, 2, 6], [60, 3, 2, 971, 10, 8, 5, 1, 2]), (20, [3, 6], [30, 0, 1, 0, 0, -1, 0, 0])], [], [])
theorem oo_Mo_item_at_k4_4 {kA : Nat → ClassId} : or_ok PRD kA GG o_Mo_item_at_k4_4 := by
  refine or_mk fun A ta ws vs hD hth hl => ?_
  intro t0 r0 t1 k1 t2 k2 t3 k3 t5 k5 f0 f1 f2 f3 f4 f5 f6 f7 f8
  replace f0 := shm_142 f0
  replace f1 := shm_1437 f1
  replace f2 := shm_1438 f2
  replace f3 := shm_1431 f3
  replace f4 := shm_1009 f4
  replace f5 := shm_980 f5
  replace f6 := shm_2180 f6
  replace f7 := shm_1856 f7
  replace f8 := shm_1857 f8
  have cr_0_1 := fdq_39 hD hth r0
  have cr_0_3 := fdq_142 hD hth r0
  have cr_0_4 := fdq_143 hD hth r0
  have hK_0_1 := elq_7 hD hth cr_0_1
  have hK_0_3 := elq_80 hD hth cr_0_3
  have hK_0_4 := elq_81 hD hth cr_0_4
  have kz_0_8 := fdq_34 hD hth r0
  have kz_0_10 := fdq_43 hD hth r0
  have kz_0_11 := fdq_237 hD hth r0
  have kz_0_12 := fdq_187 hD hth r0
  have kz_0_13 := fdq_238 hD hth r0
  have kz_0_14 := fdq_188 hD hth r0
  have kz_0_15 := fdq_239 hD hth r0
  obtain ⟨x, ex, hx⟩ := iv_ex (ta := ta) (lo := 0) (hi := 2000) (z := w_fi ws (n_v vs 0) 11) (by omega) (by omega) (by omega) (by omega)
  have ex2 : v_iv (Value.int x) = w_fi ws (n_v vs 0) 11 := ex
  have ex3 : 0 ≤ v_iv (Value.int x) ∧ v_iv (Value.int x) ≤ 2000 := tv_rng hx
  have e_0 : n_v (vs ++ [Value.int x]) 0 = n_v vs 0 := n_v_old (by rw [hl]; decide)
  have e_1 : n_v (vs ++ [Value.int x]) 1 = n_v vs 1 := n_v_old (by rw [hl]; decide)
  have e_2 : n_v (vs ++ [Value.int x]) 2 = n_v vs 2 := n_v_old (by rw [hl]; decide)
  have e_3 : n_v (vs ++ [Value.int x]) 3 = n_v vs 3 := n_v_old (by rw [hl]; decide)
  have e_6 : n_v (vs ++ [Value.int x]) 6 = Value.int x := n_v_new hl
  have nf0 : fc_1 PRD (20, [6, 0], [30, 0, 1, 0, 0, -1, 1, 11]) ws (vs ++ [Value.int x]) := by
    refine ⟨nf_inA hl rfl, sgq_1431 ?_⟩
    · show 1 * v_iv (n_v (vs ++ [Value.int x]) 6) + ((-1) * w_fi ws (n_v (vs ++ [Value.int x]) 0) 11 + 0) ≤ 0
      simp only [e_0, e_6]
      exact vc_Mo_item_at_k4_4_0 (w_fi ws (n_v vs 0) 11) (w_fi ws (n_v vs 0) 5) (v_iv (Value.int x)) kz_0_11 ex2
  have nf1 : fc_1 PRD (20, [6, 0], [50, 1, 0, 1011, 1, 2, 1, 0, 2, 1, 11]) ws (vs ++ [Value.int x]) := by
    refine ⟨nf_inA hl rfl, sgq_1432 ?_⟩
    · show v_iv (n_v (vs ++ [Value.int x]) 6) = w_fi ws (n_v (vs ++ [Value.int x]) 0) 11
      simp only [e_0, e_6]
      exact vc_Mo_item_at_k4_4_1 (w_fi ws (n_v vs 0) 11) (w_fi ws (n_v vs 0) 5) (v_iv (Value.int x)) kz_0_11 ex2
  have nf2 : fc_1 PRD (20, [0], [60, 2, 0, 947, 10, 11]) ws (vs ++ [Value.int x]) := by
    refine ⟨nf_inA hl rfl, sgq_1433 ?_⟩
    · show ZLM (w_fi ws (n_v (vs ++ [Value.int x]) 0) 10) (w_fi ws (n_v (vs ++ [Value.int x]) 0) 11)
      rw [e_0]
      exact vc_Mo_item_at_k4_4_2 (v_iv (n_v vs 1)) (v_iv (n_v vs 2)) (w_fi ws (n_v vs 0) 15) (w_fi ws (n_v vs 0) 11) (w_fi ws (n_v vs 0) 12) (w_ei ws (w_ar ws (n_v vs 0) 2)) (w_fi ws (n_v vs 0) 5) (w_ei ws (w_ar ws (n_v vs 0) 1)) (w_fi ws (n_v vs 0) 10) (w_fi ws (n_v vs 0) 13) (w_fi ws (n_v vs 0) 14) (w_fi ws (n_v vs 0) 8) k1 k2 f6 kz_0_8 kz_0_10 kz_0_11 kz_0_12 kz_0_13 kz_0_14 kz_0_15
  have nf3 : fc_1 PRD (20, [0, 1, 2, 6], [60, 3, 2, 971, 10, 8, 5, 1, 2]) ws (vs ++ [Value.int x]) := by
    refine ⟨nf_inA hl rfl, sgq_2183 ?_⟩
    · show zTS1 (w_fi ws (n_v (vs ++ [Value.int x]) 0) 10) (w_fi ws (n_v (vs ++ [Value.int x]) 0) 8) (w_fi ws (n_v (vs ++ [Value.int x]) 0) 5) (w_ei ws (w_ar ws (n_v (vs ++ [Value.int x]) 0) 1)) (w_ei ws (w_ar ws (n_v (vs ++ [Value.int x]) 0) 2)) (v_iv (n_v (vs ++ [Value.int x]) 1)) (v_iv (n_v (vs ++ [Value.int x]) 2)) (v_iv (n_v (vs ++ [Value.int x]) 6))
      simp only [e_0, e_1, e_2, e_6]
      exact vc_Mo_item_at_k4_4_3 (v_iv (n_v vs 1)) (v_iv (n_v vs 2)) (v_iv (n_v vs 3)) (v_iv (n_v vs 5)) (w_fi ws (n_v vs 0) 15) (w_fi ws (n_v vs 0) 11) (w_fi ws (n_v vs 0) 12) (w_ei ws (w_ar ws (n_v vs 0) 2)) (w_fi ws (n_v vs 0) 5) (w_ei ws (w_ar ws (n_v vs 0) 3)) (w_ei ws (w_ar ws (n_v vs 0) 4)) (w_ei ws (w_ar ws (n_v vs 0) 1)) (w_fi ws (n_v vs 0) 10) (w_fi ws (n_v vs 0) 13) (w_fi ws (n_v vs 0) 14) (w_fi ws (n_v vs 0) 8) (v_iv (Value.int x)) k1 k2 k3 k5 f0 f1 f2 f3 f4 f5 f6 f7 f8 hK_0_1 hK_0_3 hK_0_4 kz_0_8 kz_0_10 kz_0_11 kz_0_12 kz_0_13 kz_0_14 kz_0_15 ex2 ex3
  have nf4 : fc_1 PRD (20, [3, 6], [30, 0, 1, 0, 0, -1, 0, 0]) ws (vs ++ [Value.int x]) := by
    refine ⟨nf_inA hl rfl, sgq_201 ?_⟩
    · show 1 * v_iv (n_v (vs ++ [Value.int x]) 3) + ((-1) * v_iv (n_v (vs ++ [Value.int x]) 6) + 0) ≤ 0
      simp only [e_3, e_6]
      exact vc_Mo_item_at_k4_4_4 (v_iv (n_v vs 1)) (v_iv (n_v vs 2)) (v_iv (n_v vs 3)) (v_iv (n_v vs 5)) (w_fi ws (n_v vs 0) 15) (w_fi ws (n_v vs 0) 11) (w_fi ws (n_v vs 0) 12) (w_ei ws (w_ar ws (n_v vs 0) 2)) (w_fi ws (n_v vs 0) 5) (w_ei ws (w_ar ws (n_v vs 0) 3)) (w_ei ws (w_ar ws (n_v vs 0) 4)) (w_ei ws (w_ar ws (n_v vs 0) 1)) (w_fi ws (n_v vs 0) 10) (w_fi ws (n_v vs 0) 13) (w_fi ws (n_v vs 0) 14) (w_fi ws (n_v vs 0) 8) (v_iv (Value.int x)) k1 k2 k3 k5 f0 f1 f2 f3 f4 f5 f6 f7 f8 hK_0_1 hK_0_3 hK_0_4 kz_0_8 kz_0_10 kz_0_11 kz_0_12 kz_0_13 kz_0_14 kz_0_15 ex2 ex3
  exact ⟨(fun _ h => (by cases h)), [Value.int x], ag_one hx, List.forall_mem_cons.mpr ⟨⟨show (20 : Nat) < 100 from by decide, nf0⟩, List.forall_mem_cons.mpr ⟨⟨show (20 : Nat) < 100 from by decide, nf1⟩, List.forall_mem_cons.mpr ⟨⟨show (20 : Nat) < 100 from by decide, nf2⟩, List.forall_mem_cons.mpr ⟨⟨show (20 : Nat) < 100 from by decide, nf3⟩, List.forall_mem_cons.mpr ⟨⟨show (20 : Nat) < 100 from by decide, nf4⟩, (fun _ h => (by cases h))⟩⟩⟩⟩⟩, (fun _ h => (by cases h))⟩
set_option maxHeartbeats 4000000 in
theorem vc_Mo_item_at_k4_5_0 (x3 : Int) (r_0 : Int) (gx : Int) (k3 : 0 ≤ x3 ∧ x3 ≤ 2000) (ex2 : gx = x3) : 1 * gx + ((-1) * x3 + 0) ≤ 0 := by
  first
    | omega
    | (have q1 := (hE_0_2_1 (r_0 + 2) (by omega)).2 (by omega)
       have q2 := (hE_0_2_2 (r_0 + 2) (by omega)).2 (by omega)
       omega)
    | (have q1 := (hE_0_2_1 (r_0 + 1) (by omega)).2 (by omega)
       have q2 := (hE_0_2_2 (r_0 + 1) (by omega)).2 (by omega)
       omega)
    | (have q1 := (hE_0_2_1 (r_0 + 2) (by omega)).2 (by omega)
       omega)
    | (have q1 := (hE_0_2_1 (r_0 + 1) (by omega)).2 (by omega)
       omega)
    | (have q1 := (hE_0_2_1 (r_0 + 2) (by omega)).2 (by omega)
       have q2 := (hE_0_2_2 (r_0 + 2) (by omega)).2 (by omega)
       have q3 := (hE_0_2_3 (r_0 + 2) (by omega)).1 (by omega)
       omega)
    | (have q1 := (hE_0_2_1 (r_0 + 2) (by omega)).2 (by omega)
       have q2 := (hE_0_2_2 (r_0 + 2) (by omega)).2 (by omega)
       have q3 := (hE_0_2_3 (r_0 + 2) (by omega)).2 (by omega)
       omega)
set_option maxHeartbeats 4000000 in
theorem vc_Mo_item_at_k4_5_1 (x3 : Int) (r_0 : Int) (gx : Int) (k3 : 0 ≤ x3 ∧ x3 ≤ 2000) (ex2 : gx = x3) : (-1) * gx + (1 * x3 + 0) ≤ 0 := by
  first
    | omega
    | (have q1 := (hE_0_2_1 (r_0 + 2) (by omega)).2 (by omega)
       have q2 := (hE_0_2_2 (r_0 + 2) (by omega)).2 (by omega)
       omega)
    | (have q1 := (hE_0_2_1 (r_0 + 1) (by omega)).2 (by omega)
       have q2 := (hE_0_2_2 (r_0 + 1) (by omega)).2 (by omega)
       omega)
    | (have q1 := (hE_0_2_1 (r_0 + 2) (by omega)).2 (by omega)
       omega)
    | (have q1 := (hE_0_2_1 (r_0 + 1) (by omega)).2 (by omega)
       omega)
    | (have q1 := (hE_0_2_1 (r_0 + 2) (by omega)).2 (by omega)
       have q2 := (hE_0_2_2 (r_0 + 2) (by omega)).2 (by omega)
       have q3 := (hE_0_2_3 (r_0 + 2) (by omega)).1 (by omega)
       omega)
    | (have q1 := (hE_0_2_1 (r_0 + 2) (by omega)).2 (by omega)
       have q2 := (hE_0_2_2 (r_0 + 2) (by omega)).2 (by omega)
       have q3 := (hE_0_2_3 (r_0 + 2) (by omega)).2 (by omega)
       omega)
set_option maxHeartbeats 4000000 in
theorem vc_Mo_item_at_k4_5_2 (x2 : Int) (r_0 : Int) (gu : Int) (k2 : 4 ≤ x2 ∧ x2 ≤ 4) (eu2 : gu = x2) : 1 * gu + ((-1) * x2 + 0) ≤ 0 := by
  first
    | omega
    | (have q1 := (hE_0_2_1 (r_0 + 2) (by omega)).2 (by omega)
       have q2 := (hE_0_2_2 (r_0 + 2) (by omega)).2 (by omega)
       omega)
    | (have q1 := (hE_0_2_1 (r_0 + 1) (by omega)).2 (by omega)
       have q2 := (hE_0_2_2 (r_0 + 1) (by omega)).2 (by omega)
       omega)
    | (have q1 := (hE_0_2_1 (r_0 + 2) (by omega)).2 (by omega)
       omega)
    | (have q1 := (hE_0_2_1 (r_0 + 1) (by omega)).2 (by omega)
       omega)
    | (have q1 := (hE_0_2_1 (r_0 + 2) (by omega)).2 (by omega)
       have q2 := (hE_0_2_2 (r_0 + 2) (by omega)).2 (by omega)
       have q3 := (hE_0_2_3 (r_0 + 2) (by omega)).1 (by omega)
       omega)
    | (have q1 := (hE_0_2_1 (r_0 + 2) (by omega)).2 (by omega)
       have q2 := (hE_0_2_2 (r_0 + 2) (by omega)).2 (by omega)
       have q3 := (hE_0_2_3 (r_0 + 2) (by omega)).2 (by omega)
       omega)
set_option maxHeartbeats 4000000 in
theorem vc_Mo_item_at_k4_5_3 (x2 : Int) (r_0 : Int) (gu : Int) (k2 : 4 ≤ x2 ∧ x2 ≤ 4) (eu2 : gu = x2) : (-1) * gu + (1 * x2 + 0) ≤ 0 := by
  first
    | omega
    | (have q1 := (hE_0_2_1 (r_0 + 2) (by omega)).2 (by omega)
       have q2 := (hE_0_2_2 (r_0 + 2) (by omega)).2 (by omega)
       omega)
    | (have q1 := (hE_0_2_1 (r_0 + 1) (by omega)).2 (by omega)
       have q2 := (hE_0_2_2 (r_0 + 1) (by omega)).2 (by omega)
       omega)
    | (have q1 := (hE_0_2_1 (r_0 + 2) (by omega)).2 (by omega)
       omega)
    | (have q1 := (hE_0_2_1 (r_0 + 1) (by omega)).2 (by omega)
       omega)
    | (have q1 := (hE_0_2_1 (r_0 + 2) (by omega)).2 (by omega)
       have q2 := (hE_0_2_2 (r_0 + 2) (by omega)).2 (by omega)
       have q3 := (hE_0_2_3 (r_0 + 2) (by omega)).1 (by omega)
       omega)
    | (have q1 := (hE_0_2_1 (r_0 + 2) (by omega)).2 (by omega)
       have q2 := (hE_0_2_2 (r_0 + 2) (by omega)).2 (by omega)
       have q3 := (hE_0_2_3 (r_0 + 2) (by omega)).2 (by omega)
       omega)
set_option maxHeartbeats 4000000 in
theorem vc_Mo_item_at_k4_5_4 (r_0 : Int) (from_0 : Int) (pos_0 : Int) (f4 : 1 * from_0 + ((-1) * pos_0 + 0) ≤ 0) (kz_0_11 : 0 ≤ pos_0 ∧ pos_0 ≤ 2000) (kz_0_15 : 0 ≤ from_0 ∧ from_0 ≤ 2000) : 1 * from_0 + ((-1) * pos_0 + 0) ≤ 0 := by
  first
    | omega
    | (have q1 := (hE_0_2_1 (r_0 + 2) (by omega)).2 (by omega)
       have q2 := (hE_0_2_2 (r_0 + 2) (by omega)).2 (by omega)
       omega)
    | (have q1 := (hE_0_2_1 (r_0 + 1) (by omega)).2 (by omega)
       have q2 := (hE_0_2_2 (r_0 + 1) (by omega)).2 (by omega)
       omega)
    | (have q1 := (hE_0_2_1 (r_0 + 2) (by omega)).2 (by omega)
       omega)
    | (have q1 := (hE_0_2_1 (r_0 + 1) (by omega)).2 (by omega)
       omega)
    | (have q1 := (hE_0_2_1 (r_0 + 2) (by omega)).2 (by omega)
       have q2 := (hE_0_2_2 (r_0 + 2) (by omega)).2 (by omega)
       have q3 := (hE_0_2_3 (r_0 + 2) (by omega)).1 (by omega)
       omega)
    | (have q1 := (hE_0_2_1 (r_0 + 2) (by omega)).2 (by omega)
       have q2 := (hE_0_2_2 (r_0 + 2) (by omega)).2 (by omega)
       have q3 := (hE_0_2_3 (r_0 + 2) (by omega)).2 (by omega)
       omega)
set_option maxHeartbeats 4000000 in
theorem vc_Mo_item_at_k4_5_5 (r_0 : Int) (from_0 : Int) (pos_0 : Int) (kind_0 : Int) (f5 : ((kind_0 = 1) → (pos_0 ≤ (from_0 + 8))) ∧ ((kind_0 = 0) ∨ ((from_0 + 1) ≤ pos_0))) (kz_0_11 : 0 ≤ pos_0 ∧ pos_0 ≤ 2000) (kz_0_12 : 0 ≤ kind_0 ∧ kind_0 ≤ 4) (kz_0_15 : 0 ≤ from_0 ∧ from_0 ≤ 2000) : ((kind_0 = 1) → (pos_0 ≤ (from_0 + 8))) ∧ ((kind_0 = 0) ∨ ((from_0 + 1) ≤ pos_0)) := by
  first
    | omega
    | (have q1 := (hE_0_2_1 (r_0 + 2) (by omega)).2 (by omega)
       have q2 := (hE_0_2_2 (r_0 + 2) (by omega)).2 (by omega)
       omega)
    | (have q1 := (hE_0_2_1 (r_0 + 1) (by omega)).2 (by omega)
       have q2 := (hE_0_2_2 (r_0 + 1) (by omega)).2 (by omega)
       omega)
    | (have q1 := (hE_0_2_1 (r_0 + 2) (by omega)).2 (by omega)
       omega)
    | (have q1 := (hE_0_2_1 (r_0 + 1) (by omega)).2 (by omega)
       omega)
    | (have q1 := (hE_0_2_1 (r_0 + 2) (by omega)).2 (by omega)
       have q2 := (hE_0_2_2 (r_0 + 2) (by omega)).2 (by omega)
       have q3 := (hE_0_2_3 (r_0 + 2) (by omega)).1 (by omega)
       omega)
    | (have q1 := (hE_0_2_1 (r_0 + 2) (by omega)).2 (by omega)
       have q2 := (hE_0_2_2 (r_0 + 2) (by omega)).2 (by omega)
       have q3 := (hE_0_2_3 (r_0 + 2) (by omega)).2 (by omega)
       omega)
set_option maxHeartbeats 4000000 in
theorem vc_Mo_item_at_k4_5_6 (x3 : Int) (x6 : Int) (r_0 : Int) (from_0 : Int) (pos_0 : Int) (gx : Int) (gy : Int) (k3 : 0 ≤ x3 ∧ x3 ≤ 2000) (k6 : 0 ≤ x6 ∧ x6 ≤ 2000) (f1 : 1 * x3 + ((-1) * x6 + 0) ≤ 0) (f4 : 1 * from_0 + ((-1) * pos_0 + 0) ≤ 0) (f6 : 1 * x6 + ((-1) * from_0 + 0) ≤ 0) (kz_0_11 : 0 ≤ pos_0 ∧ pos_0 ≤ 2000) (kz_0_15 : 0 ≤ from_0 ∧ from_0 ≤ 2000) (ex2 : gx = x3) (ey2 : gy = from_0) : 1 * gx + ((-1) * pos_0 + 0) ≤ 0 := by
  first
    | omega
    | (have q1 := (hE_0_2_1 (r_0 + 2) (by omega)).2 (by omega)
       have q2 := (hE_0_2_2 (r_0 + 2) (by omega)).2 (by omega)
       omega)
    | (have q1 := (hE_0_2_1 (r_0 + 1) (by omega)).2 (by omega)
       have q2 := (hE_0_2_2 (r_0 + 1) (by omega)).2 (by omega)
       omega)
    | (have q1 := (hE_0_2_1 (r_0 + 2) (by omega)).2 (by omega)
       omega)
    | (have q1 := (hE_0_2_1 (r_0 + 1) (by omega)).2 (by omega)
       omega)
    | (have q1 := (hE_0_2_1 (r_0 + 2) (by omega)).2 (by omega)
       have q2 := (hE_0_2_2 (r_0 + 2) (by omega)).2 (by omega)
       have q3 := (hE_0_2_3 (r_0 + 2) (by omega)).1 (by omega)
       omega)
    | (have q1 := (hE_0_2_1 (r_0 + 2) (by omega)).2 (by omega)
       have q2 := (hE_0_2_2 (r_0 + 2) (by omega)).2 (by omega)
       have q3 := (hE_0_2_3 (r_0 + 2) (by omega)).2 (by omega)
       omega)
set_option maxHeartbeats 4000000 in
theorem vc_Mo_item_at_k4_5_7 (r_0 : Int) (from_0 : Int) (pos_0 : Int) (kind_0 : Int) (gy : Int) (f4 : 1 * from_0 + ((-1) * pos_0 + 0) ≤ 0) (f5 : ((kind_0 = 1) → (pos_0 ≤ (from_0 + 8))) ∧ ((kind_0 = 0) ∨ ((from_0 + 1) ≤ pos_0))) (kz_0_11 : 0 ≤ pos_0 ∧ pos_0 ≤ 2000) (kz_0_12 : 0 ≤ kind_0 ∧ kind_0 ≤ 4) (kz_0_15 : 0 ≤ from_0 ∧ from_0 ≤ 2000) (ey2 : gy = from_0) : (kind_0 = 0) ∨ ((gy + 1) ≤ pos_0) := by
  first
    | omega
    | (have q1 := (hE_0_2_1 (r_0 + 2) (by omega)).2 (by omega)
       have q2 := (hE_0_2_2 (r_0 + 2) (by omega)).2 (by omega)
       omega)
    | (have q1 := (hE_0_2_1 (r_0 + 1) (by omega)).2 (by omega)
       have q2 := (hE_0_2_2 (r_0 + 1) (by omega)).2 (by omega)
       omega)
    | (have q1 := (hE_0_2_1 (r_0 + 2) (by omega)).2 (by omega)
       omega)
    | (have q1 := (hE_0_2_1 (r_0 + 1) (by omega)).2 (by omega)
       omega)
    | (have q1 := (hE_0_2_1 (r_0 + 2) (by omega)).2 (by omega)
       have q2 := (hE_0_2_2 (r_0 + 2) (by omega)).2 (by omega)
       have q3 := (hE_0_2_3 (r_0 + 2) (by omega)).1 (by omega)
       omega)
    | (have q1 := (hE_0_2_1 (r_0 + 2) (by omega)).2 (by omega)
       have q2 := (hE_0_2_2 (r_0 + 2) (by omega)).2 (by omega)
       have q3 := (hE_0_2_3 (r_0 + 2) (by omega)).2 (by omega)
       omega)
set_option maxHeartbeats 4000000 in
theorem vc_Mo_item_at_k4_5_8 (x1 : Int) (all_0 : Int → Int) (r_0 : Int) (k1 : 0 ≤ x1 ∧ x1 ≤ 7) (f2 : (x1 + 1) ≤ all_0 ((r_0 + 2))) : (x1 + 1) ≤ all_0 ((r_0 + 2)) := by
  first
    | omega
    | (have q1 := (hE_0_2_1 (r_0 + 2) (by omega)).2 (by omega)
       have q2 := (hE_0_2_2 (r_0 + 2) (by omega)).2 (by omega)
       omega)
    | (have q1 := (hE_0_2_1 (r_0 + 1) (by omega)).2 (by omega)
       have q2 := (hE_0_2_2 (r_0 + 1) (by omega)).2 (by omega)
       omega)
    | (have q1 := (hE_0_2_1 (r_0 + 2) (by omega)).2 (by omega)
       omega)
    | (have q1 := (hE_0_2_1 (r_0 + 1) (by omega)).2 (by omega)
       omega)
    | (have q1 := (hE_0_2_1 (r_0 + 2) (by omega)).2 (by omega)
       have q2 := (hE_0_2_2 (r_0 + 2) (by omega)).2 (by omega)
       have q3 := (hE_0_2_3 (r_0 + 2) (by omega)).1 (by omega)
       omega)
    | (have q1 := (hE_0_2_1 (r_0 + 2) (by omega)).2 (by omega)
       have q2 := (hE_0_2_2 (r_0 + 2) (by omega)).2 (by omega)
       have q3 := (hE_0_2_3 (r_0 + 2) (by omega)).2 (by omega)
       omega)
set_option maxHeartbeats 4000000 in
theorem vc_Mo_item_at_k4_5_9 (x1 : Int) (x2 : Int) (x3 : Int) (x6 : Int) (x7 : Int) (tape_0 : Int → Int) (all_0 : Int → Int) (limit_0 : Int) (fault_0 : Int) (r_0 : Int) (now_0 : Int → Int) (latest_0 : Int → Int) (from_0 : Int) (pos_0 : Int) (kind_0 : Int) (place_0 : Int) (value_0 : Int) (gx : Int) (gy : Int) (gu : Int) (k1 : 0 ≤ x1 ∧ x1 ≤ 7) (k2 : 4 ≤ x2 ∧ x2 ≤ 4) (k3 : 0 ≤ x3 ∧ x3 ≤ 2000) (k6 : 0 ≤ x6 ∧ x6 ≤ 2000) (k7 : (-1) ≤ x7 ∧ x7 ≤ (-1)) (f0 : zTS1 (limit_0) (fault_0) (r_0) (tape_0) (all_0) (x1) (x2) (x6)) (f1 : 1 * x3 + ((-1) * x6 + 0) ≤ 0) (f2 : (x1 + 1) ≤ all_0 ((r_0 + 2))) (f3 : RWS (r_0) (all_0) (now_0) (latest_0)) (f4 : 1 * from_0 + ((-1) * pos_0 + 0) ≤ 0) (f5 : ((kind_0 = 1) → (pos_0 ≤ (from_0 + 8))) ∧ ((kind_0 = 0) ∨ ((from_0 + 1) ≤ pos_0))) (f6 : 1 * x6 + ((-1) * from_0 + 0) ≤ 0) (f7 : TKR (limit_0) (pos_0) (kind_0) (place_0) (value_0) (from_0) (tape_0) (x6)) (hK_0_1 : ∀ j : Int, 0 ≤ j → j < 2000 → (-128) ≤ tape_0 j ∧ tape_0 j ≤ 127) (hK_0_3 : ∀ j : Int, 0 ≤ j → j < 4 → 0 ≤ now_0 j ∧ now_0 j ≤ 30) (hK_0_4 : ∀ j : Int, 0 ≤ j → j < 4 → 0 ≤ latest_0 j ∧ latest_0 j ≤ 30) (kz_0_8 : 0 ≤ fault_0 ∧ fault_0 ≤ 5) (kz_0_10 : 0 ≤ limit_0 ∧ limit_0 ≤ 2000) (kz_0_11 : 0 ≤ pos_0 ∧ pos_0 ≤ 2000) (kz_0_12 : 0 ≤ kind_0 ∧ kind_0 ≤ 4) (kz_0_13 : 0 ≤ place_0 ∧ place_0 ≤ 2000) (kz_0_14 : (-49) ≤ value_0 ∧ value_0 ≤ 1048575) (kz_0_15 : 0 ≤ from_0 ∧ from_0 ≤ 2000) (ex2 : gx = x3) (ex3 : 0 ≤ gx ∧ gx ≤ 2000) (ey2 : gy = from_0) (ey3 : 0 ≤ gy ∧ gy ≤ 2000) (eu2 : gu = x2) (eu3 : 0 ≤ gu ∧ gu ≤ 4) : RWS (r_0) (all_0) (now_0) (latest_0) := by
  first
    | assumption
set_option maxHeartbeats 4000000 in
theorem vc_Mo_item_at_k4_5_10 (x1 : Int) (x2 : Int) (x3 : Int) (x6 : Int) (x7 : Int) (tape_0 : Int → Int) (all_0 : Int → Int) (limit_0 : Int) (fault_0 : Int) (r_0 : Int) (now_0 : Int → Int) (latest_0 : Int → Int) (from_0 : Int) (pos_0 : Int) (kind_0 : Int) (place_0 : Int) (value_0 : Int) (gx : Int) (gy : Int) (gu : Int) (k1 : 0 ≤ x1 ∧ x1 ≤ 7) (k2 : 4 ≤ x2 ∧ x2 ≤ 4) (k3 : 0 ≤ x3 ∧ x3 ≤ 2000) (k6 : 0 ≤ x6 ∧ x6 ≤ 2000) (k7 : (-1) ≤ x7 ∧ x7 ≤ (-1)) (f0 : zTS1 (limit_0) (fault_0) (r_0) (tape_0) (all_0) (x1) (x2) (x6)) (f1 : 1 * x3 + ((-1) * x6 + 0) ≤ 0) (f2 : (x1 + 1) ≤ all_0 ((r_0 + 2))) (f3 : RWS (r_0) (all_0) (now_0) (latest_0)) (f4 : 1 * from_0 + ((-1) * pos_0 + 0) ≤ 0) (f5 : ((kind_0 = 1) → (pos_0 ≤ (from_0 + 8))) ∧ ((kind_0 = 0) ∨ ((from_0 + 1) ≤ pos_0))) (f6 : 1 * x6 + ((-1) * from_0 + 0) ≤ 0) (f7 : TKR (limit_0) (pos_0) (kind_0) (place_0) (value_0) (from_0) (tape_0) (x6)) (hK_0_1 : ∀ j : Int, 0 ≤ j → j < 2000 → (-128) ≤ tape_0 j ∧ tape_0 j ≤ 127) (hK_0_3 : ∀ j : Int, 0 ≤ j → j < 4 → 0 ≤ now_0 j ∧ now_0 j ≤ 30) (hK_0_4 : ∀ j : Int, 0 ≤ j → j < 4 → 0 ≤ latest_0 j ∧ latest_0 j ≤ 30) (kz_0_8 : 0 ≤ fault_0 ∧ fault_0 ≤ 5) (kz_0_10 : 0 ≤ limit_0 ∧ limit_0 ≤ 2000) (kz_0_11 : 0 ≤ pos_0 ∧ pos_0 ≤ 2000) (kz_0_12 : 0 ≤ kind_0 ∧ kind_0 ≤ 4) (kz_0_13 : 0 ≤ place_0 ∧ place_0 ≤ 2000) (kz_0_14 : (-49) ≤ value_0 ∧ value_0 ≤ 1048575) (kz_0_15 : 0 ≤ from_0 ∧ from_0 ≤ 2000) (ex2 : gx = x3) (ex3 : 0 ≤ gx ∧ gx ≤ 2000) (ey2 : gy = from_0) (ey3 : 0 ≤ gy ∧ gy ≤ 2000) (eu2 : gu = x2) (eu3 : 0 ≤ gu ∧ gu ≤ 4) : MEB (r_0) (all_0) (x7) := by
  intro q; exfalso; omega
set_option maxHeartbeats 4000000 in
theorem vc_Mo_item_at_k4_5_11 (x1 : Int) (x2 : Int) (x3 : Int) (x6 : Int) (x7 : Int) (tape_0 : Int → Int) (all_0 : Int → Int) (limit_0 : Int) (fault_0 : Int) (r_0 : Int) (now_0 : Int → Int) (latest_0 : Int → Int) (from_0 : Int) (pos_0 : Int) (kind_0 : Int) (place_0 : Int) (value_0 : Int) (gx : Int) (gy : Int) (gu : Int) (k1 : 0 ≤ x1 ∧ x1 ≤ 7) (k2 : 4 ≤ x2 ∧ x2 ≤ 4) (k3 : 0 ≤ x3 ∧ x3 ≤ 2000) (k6 : 0 ≤ x6 ∧ x6 ≤ 2000) (k7 : (-1) ≤ x7 ∧ x7 ≤ (-1)) (f0 : zTS1 (limit_0) (fault_0) (r_0) (tape_0) (all_0) (x1) (x2) (x6)) (f1 : 1 * x3 + ((-1) * x6 + 0) ≤ 0) (f2 : (x1 + 1) ≤ all_0 ((r_0 + 2))) (f3 : RWS (r_0) (all_0) (now_0) (latest_0)) (f4 : 1 * from_0 + ((-1) * pos_0 + 0) ≤ 0) (f5 : ((kind_0 = 1) → (pos_0 ≤ (from_0 + 8))) ∧ ((kind_0 = 0) ∨ ((from_0 + 1) ≤ pos_0))) (f6 : 1 * x6 + ((-1) * from_0 + 0) ≤ 0) (f7 : TKR (limit_0) (pos_0) (kind_0) (place_0) (value_0) (from_0) (tape_0) (x6)) (hK_0_1 : ∀ j : Int, 0 ≤ j → j < 2000 → (-128) ≤ tape_0 j ∧ tape_0 j ≤ 127) (hK_0_3 : ∀ j : Int, 0 ≤ j → j < 4 → 0 ≤ now_0 j ∧ now_0 j ≤ 30) (hK_0_4 : ∀ j : Int, 0 ≤ j → j < 4 → 0 ≤ latest_0 j ∧ latest_0 j ≤ 30) (kz_0_8 : 0 ≤ fault_0 ∧ fault_0 ≤ 5) (kz_0_10 : 0 ≤ limit_0 ∧ limit_0 ≤ 2000) (kz_0_11 : 0 ≤ pos_0 ∧ pos_0 ≤ 2000) (kz_0_12 : 0 ≤ kind_0 ∧ kind_0 ≤ 4) (kz_0_13 : 0 ≤ place_0 ∧ place_0 ≤ 2000) (kz_0_14 : (-49) ≤ value_0 ∧ value_0 ≤ 1048575) (kz_0_15 : 0 ≤ from_0 ∧ from_0 ≤ 2000) (ex2 : gx = x3) (ex3 : 0 ≤ gx ∧ gx ≤ 2000) (ey2 : gy = from_0) (ey3 : 0 ≤ gy ∧ gy ≤ 2000) (eu2 : gu = x2) (eu3 : 0 ≤ gu ∧ gu ≤ 4) : zRS1 (limit_0) (pos_0) (kind_0) (place_0) (value_0) (from_0) (fault_0) (r_0) (tape_0) (all_0) (x1) (gu) := by
  first | subst ex2 | skip
  first | subst ey2 | skip
  first | subst eu2 | skip
  exact rsq_of ‹zTS1 _ _ _ _ _ _ _ _› ‹TKR _ _ _ _ _ _ _ _›
def o_Mo_item_at_k4_5 : or_T := (17, 8, [(0, (2, 0, 0, [165])), (1, (0, 0, 7, [])), (2, (0, 4, 4, [])), (3, (0, 0, 2000, [])), (6, (0, 0, 2000, [])), (7, (0, -1, -1, []))], [(20, [0, 1, 2, 6], [60, 3, 2, 971, 10, 8, 5, 1, 2]), (20, [3, 6], [30, 0, 1, 0, 0, -1, 0, 0]), (20, [1, 0], [50, 1, 1, 1005, 1002, 0, 6, 4, 2, 1, 0, 0, 1, 3, 1, 2, 4, 3, 2, 1, 5, 0, 2]), (20, [0], [60, 1, 3, 199, 5, 2, 3, 4]), (20, [0, 0], [30, 0, 1, 1, 15, -1, 1, 11]), (20, [0], [50, 3, 0, 12, 11, 15, 2, 21, 4, 7, 1, 3, 2, 0, 12, 0, 1, 0, 3, 2, 0, 11, 4, 3, 2, 0, 15, 0, 8, 3, 7, 1, 3, 2, 0, 12, 0, 0, 0, 7, 4, 3, 2, 0, 15, 0, 1, 2, 0, 11]), (20, [6, 0], [30, 0, 1, 0, 0, -1, 1, 15]), (20, [0, 6], [60, 6, 1, 948, 10, 11, 12, 13, 14, 15, 1])], [], [(0, 0, 2000, []), (0, 0, 2000, []), (0, 0, 4, [])], [(23, [8, 3], [0, 1, -1]), (23, [8, 3], [0, -1, 1]), (23, [10, 2], [0, 1, -1]), (23, [10, 2], [0, -1, 1]), (20, [0, 0], [30, 0, 1, 1, 15, -1, 1, 11]), (20, [0], [50, 3, 0, 12, 11, 15, 2, 21, 4, 7, 1, 3, 2, 0, 12, 0, 1, 0, 3, 2, 0, 11, 4, 3, 2, 0, 15, 0, 8, 3, 7, 1, 3, 2, 0, 12, 0, 0, 0, 7, 4, 3, 2, 0, 15, 0, 1, 2, 0, 11]), (20, [8, 0], [30, 0, 1, 0, 0, -1, 1, 11]), (20, [0, 9], [50, 2, 0, 12, 11, 3, 7, 1, 3, 2, 0, 12, 0, 0, 0, 6, 4, 2, 1, 1, 0, 1, 2, 0, 11]), (20, [1, 0], [50, 1, 1, 1005, 1002, 0, 6, 4, 2, 1, 0, 0, 1, 3, 1, 2, 4, 3, 2, 1, 5, 0, 2]), (20, [0], [60, 1, 3, 199, 5, 2, 3, 4]), (20, [0, 7], [60, 1, 1, 241, 5, 2]), (20, [0, 1, 10], [60, 8, 2, 965, 10, 11, 12, 13, 14, 15, 8, 5, 1, 2])], [], [])
theorem oo_Mo_item_at_k4_5 {kA : Nat → ClassId} : or_ok PRD kA GG o_Mo_item_at_k4_5 := by
  refine or_mk fun A ta ws vs hD hth hl => ?_
  intro t0 r0 t1 k1 t2 k2 t3 k3 t6 k6 t7 k7 f0 f1 f2 f3 f4 f5 f6 f7
  replace f0 := shm_2183 f0
  replace f1 := shm_201 f1
  replace f2 := shm_1009 f2
  replace f3 := shm_980 f3
  replace f4 := shm_1437 f4
  replace f5 := shm_1438 f5
  replace f6 := shm_1436 f6
  replace f7 := shm_1439 f7
  have cr_0_1 := fdq_39 hD hth r0
  have cr_0_3 := fdq_142 hD hth r0
  have cr_0_4 := fdq_143 hD hth r0
  have hK_0_1 := elq_7 hD hth cr_0_1
  have hK_0_3 := elq_80 hD hth cr_0_3
  have hK_0_4 := elq_81 hD hth cr_0_4
  have kz_0_8 := fdq_34 hD hth r0
  have kz_0_10 := fdq_43 hD hth r0
  have kz_0_11 := fdq_237 hD hth r0
  have kz_0_12 := fdq_187 hD hth r0
  have kz_0_13 := fdq_238 hD hth r0
  have kz_0_14 := fdq_188 hD hth r0
  have kz_0_15 := fdq_239 hD hth r0
  obtain ⟨x, ex, hx⟩ := iv_ex (ta := ta) (lo := 0) (hi := 2000) (z := v_iv (n_v vs 3)) (by omega) (by omega) (by omega) (by omega)
  have ex2 : v_iv (Value.int x) = v_iv (n_v vs 3) := ex
  have ex3 : 0 ≤ v_iv (Value.int x) ∧ v_iv (Value.int x) ≤ 2000 := tv_rng hx
  obtain ⟨y, ey, hy⟩ := iv_ex (ta := ta) (lo := 0) (hi := 2000) (z := w_fi ws (n_v vs 0) 15) (by omega) (by omega) (by omega) (by omega)
  have ey2 : v_iv (Value.int y) = w_fi ws (n_v vs 0) 15 := ey
  have ey3 : 0 ≤ v_iv (Value.int y) ∧ v_iv (Value.int y) ≤ 2000 := tv_rng hy
  obtain ⟨u, eu, hu⟩ := iv_ex (ta := ta) (lo := 0) (hi := 4) (z := v_iv (n_v vs 2)) (by omega) (by omega) (by omega) (by omega)
  have eu2 : v_iv (Value.int u) = v_iv (n_v vs 2) := eu
  have eu3 : 0 ≤ v_iv (Value.int u) ∧ v_iv (Value.int u) ≤ 4 := tv_rng hu
  have e_0 : n_v (vs ++ [Value.int x, Value.int y, Value.int u]) 0 = n_v vs 0 := n_v_old (by rw [hl]; decide)
  have e_1 : n_v (vs ++ [Value.int x, Value.int y, Value.int u]) 1 = n_v vs 1 := n_v_old (by rw [hl]; decide)
  have e_2 : n_v (vs ++ [Value.int x, Value.int y, Value.int u]) 2 = n_v vs 2 := n_v_old (by rw [hl]; decide)
  have e_3 : n_v (vs ++ [Value.int x, Value.int y, Value.int u]) 3 = n_v vs 3 := n_v_old (by rw [hl]; decide)
  have e_7 : n_v (vs ++ [Value.int x, Value.int y, Value.int u]) 7 = n_v vs 7 := n_v_old (by rw [hl]; decide)
  have e_8 : n_v (vs ++ [Value.int x, Value.int y, Value.int u]) 8 = Value.int x := n_v_newk (k := 0) hl rfl
  have e_9 : n_v (vs ++ [Value.int x, Value.int y, Value.int u]) 9 = Value.int y := n_v_newk (k := 1) hl rfl
  have e_10 : n_v (vs ++ [Value.int x, Value.int y, Value.int u]) 10 = Value.int u := n_v_newk (k := 2) hl rfl
  have nf0 : fc_1 PRD (23, [8, 3], [0, 1, -1]) ws (vs ++ [Value.int x, Value.int y, Value.int u]) := by
    refine ⟨nf_inA hl rfl, sgq_7 ?_⟩
    · show 1 * v_iv (n_v (vs ++ [Value.int x, Value.int y, Value.int u]) 8) + ((-1) * v_iv (n_v (vs ++ [Value.int x, Value.int y, Value.int u]) 3) + 0) ≤ 0
      simp only [e_3, e_8]
      exact vc_Mo_item_at_k4_5_0 (v_iv (n_v vs 3)) (w_fi ws (n_v vs 0) 5) (v_iv (Value.int x)) k3 ex2
  have nf1 : fc_1 PRD (23, [8, 3], [0, -1, 1]) ws (vs ++ [Value.int x, Value.int y, Value.int u]) := by
    refine ⟨nf_inA hl rfl, sgq_22 ?_⟩
    · show (-1) * v_iv (n_v (vs ++ [Value.int x, Value.int y, Value.int u]) 8) + (1 * v_iv (n_v (vs ++ [Value.int x, Value.int y, Value.int u]) 3) + 0) ≤ 0
      simp only [e_3, e_8]
      exact vc_Mo_item_at_k4_5_1 (v_iv (n_v vs 3)) (w_fi ws (n_v vs 0) 5) (v_iv (Value.int x)) k3 ex2
  have nf2 : fc_1 PRD (23, [10, 2], [0, 1, -1]) ws (vs ++ [Value.int x, Value.int y, Value.int u]) := by
    refine ⟨nf_inA hl rfl, sgq_7 ?_⟩
    · show 1 * v_iv (n_v (vs ++ [Value.int x, Value.int y, Value.int u]) 10) + ((-1) * v_iv (n_v (vs ++ [Value.int x, Value.int y, Value.int u]) 2) + 0) ≤ 0
      simp only [e_2, e_10]
      exact vc_Mo_item_at_k4_5_2 (v_iv (n_v vs 2)) (w_fi ws (n_v vs 0) 5) (v_iv (Value.int u)) k2 eu2
  have nf3 : fc_1 PRD (23, [10, 2], [0, -1, 1]) ws (vs ++ [Value.int x, Value.int y, Value.int u]) := by
    refine ⟨nf_inA hl rfl, sgq_22 ?_⟩
    · show (-1) * v_iv (n_v (vs ++ [Value.int x, Value.int y, Value.int u]) 10) + (1 * v_iv (n_v (vs ++ [Value.int x, Value.int y, Value.int u]) 2) + 0) ≤ 0
      simp only [e_2, e_10]
      exact vc_Mo_item_at_k4_5_3 (v_iv (n_v vs 2)) (w_fi ws (n_v vs 0) 5) (v_iv (Value.int u)) k2 eu2
  have nf4 : fc_1 PRD (20, [0, 0], [30, 0, 1, 1, 15, -1, 1, 11]) ws (vs ++ [Value.int x, Value.int y, Value.int u]) := by
    refine ⟨nf_inA hl rfl, sgq_1437 ?_⟩
    · show 1 * w_fi ws (n_v (vs ++ [Value.int x, Value.int y, Value.int u]) 0) 15 + ((-1) * w_fi ws (n_v (vs ++ [Value.int x, Value.int y, Value.int u]) 0) 11 + 0) ≤ 0
      rw [e_0]
      exact vc_Mo_item_at_k4_5_4 (w_fi ws (n_v vs 0) 5) (w_fi ws (n_v vs 0) 15) (w_fi ws (n_v vs 0) 11) f4 kz_0_11 kz_0_15
  have nf5 : fc_1 PRD (20, [0], [50, 3, 0, 12, 11, 15, 2, 21, 4, 7, 1, 3, 2, 0, 12, 0, 1, 0, 3, 2, 0, 11, 4, 3, 2, 0, 15, 0, 8, 3, 7, 1, 3, 2, 0, 12, 0, 0, 0, 7, 4, 3, 2, 0, 15, 0, 1, 2, 0, 11]) ws (vs ++ [Value.int x, Value.int y, Value.int u]) := by
    refine ⟨nf_inA hl rfl, sgq_1438 ?_⟩
    · show ((w_fi ws (n_v (vs ++ [Value.int x, Value.int y, Value.int u]) 0) 12 = 1) → (w_fi ws (n_v (vs ++ [Value.int x, Value.int y, Value.int u]) 0) 11 ≤ (w_fi ws (n_v (vs ++ [Value.int x, Value.int y, Value.int u]) 0) 15 + 8))) ∧ ((w_fi ws (n_v (vs ++ [Value.int x, Value.int y, Value.int u]) 0) 12 = 0) ∨ ((w_fi ws (n_v (vs ++ [Value.int x, Value.int y, Value.int u]) 0) 15 + 1) ≤ w_fi ws (n_v (vs ++ [Value.int x, Value.int y, Value.int u]) 0) 11))
      rw [e_0]
      exact vc_Mo_item_at_k4_5_5 (w_fi ws (n_v vs 0) 5) (w_fi ws (n_v vs 0) 15) (w_fi ws (n_v vs 0) 11) (w_fi ws (n_v vs 0) 12) f5 kz_0_11 kz_0_12 kz_0_15
  have nf6 : fc_1 PRD (20, [8, 0], [30, 0, 1, 0, 0, -1, 1, 11]) ws (vs ++ [Value.int x, Value.int y, Value.int u]) := by
    refine ⟨nf_inA hl rfl, sgq_1431 ?_⟩
    · show 1 * v_iv (n_v (vs ++ [Value.int x, Value.int y, Value.int u]) 8) + ((-1) * w_fi ws (n_v (vs ++ [Value.int x, Value.int y, Value.int u]) 0) 11 + 0) ≤ 0
      simp only [e_0, e_8]
      exact vc_Mo_item_at_k4_5_6 (v_iv (n_v vs 3)) (v_iv (n_v vs 6)) (w_fi ws (n_v vs 0) 5) (w_fi ws (n_v vs 0) 15) (w_fi ws (n_v vs 0) 11) (v_iv (Value.int x)) (v_iv (Value.int y)) k3 k6 f1 f4 f6 kz_0_11 kz_0_15 ex2 ey2
  have nf7 : fc_1 PRD (20, [0, 9], [50, 2, 0, 12, 11, 3, 7, 1, 3, 2, 0, 12, 0, 0, 0, 6, 4, 2, 1, 1, 0, 1, 2, 0, 11]) ws (vs ++ [Value.int x, Value.int y, Value.int u]) := by
    refine ⟨nf_inA hl rfl, sgq_2111 ?_⟩
    · show (w_fi ws (n_v (vs ++ [Value.int x, Value.int y, Value.int u]) 0) 12 = 0) ∨ ((v_iv (n_v (vs ++ [Value.int x, Value.int y, Value.int u]) 9) + 1) ≤ w_fi ws (n_v (vs ++ [Value.int x, Value.int y, Value.int u]) 0) 11)
      simp only [e_0, e_9]
      exact vc_Mo_item_at_k4_5_7 (w_fi ws (n_v vs 0) 5) (w_fi ws (n_v vs 0) 15) (w_fi ws (n_v vs 0) 11) (w_fi ws (n_v vs 0) 12) (v_iv (Value.int y)) f4 f5 kz_0_11 kz_0_12 kz_0_15 ey2
  have nf8 : fc_1 PRD (20, [1, 0], [50, 1, 1, 1005, 1002, 0, 6, 4, 2, 1, 0, 0, 1, 3, 1, 2, 4, 3, 2, 1, 5, 0, 2]) ws (vs ++ [Value.int x, Value.int y, Value.int u]) := by
    refine ⟨nf_inA hl rfl, sgq_1009 ?_⟩
    · show (v_iv (n_v (vs ++ [Value.int x, Value.int y, Value.int u]) 1) + 1) ≤ w_ei ws (w_ar ws (n_v (vs ++ [Value.int x, Value.int y, Value.int u]) 0) 2) ((w_fi ws (n_v (vs ++ [Value.int x, Value.int y, Value.int u]) 0) 5 + 2))
      simp only [e_0, e_1]
      exact vc_Mo_item_at_k4_5_8 (v_iv (n_v vs 1)) (w_ei ws (w_ar ws (n_v vs 0) 2)) (w_fi ws (n_v vs 0) 5) k1 f2
  have nf9 : fc_1 PRD (20, [0], [60, 1, 3, 199, 5, 2, 3, 4]) ws (vs ++ [Value.int x, Value.int y, Value.int u]) := by
    refine ⟨nf_inA hl rfl, sgq_980 ?_⟩
    · show RWS (w_fi ws (n_v (vs ++ [Value.int x, Value.int y, Value.int u]) 0) 5) (w_ei ws (w_ar ws (n_v (vs ++ [Value.int x, Value.int y, Value.int u]) 0) 2)) (w_ei ws (w_ar ws (n_v (vs ++ [Value.int x, Value.int y, Value.int u]) 0) 3)) (w_ei ws (w_ar ws (n_v (vs ++ [Value.int x, Value.int y, Value.int u]) 0) 4))
      rw [e_0]
      exact vc_Mo_item_at_k4_5_9 (v_iv (n_v vs 1)) (v_iv (n_v vs 2)) (v_iv (n_v vs 3)) (v_iv (n_v vs 6)) (v_iv (n_v vs 7)) (w_ei ws (w_ar ws (n_v vs 0) 1)) (w_ei ws (w_ar ws (n_v vs 0) 2)) (w_fi ws (n_v vs 0) 10) (w_fi ws (n_v vs 0) 8) (w_fi ws (n_v vs 0) 5) (w_ei ws (w_ar ws (n_v vs 0) 3)) (w_ei ws (w_ar ws (n_v vs 0) 4)) (w_fi ws (n_v vs 0) 15) (w_fi ws (n_v vs 0) 11) (w_fi ws (n_v vs 0) 12) (w_fi ws (n_v vs 0) 13) (w_fi ws (n_v vs 0) 14) (v_iv (Value.int x)) (v_iv (Value.int y)) (v_iv (Value.int u)) k1 k2 k3 k6 k7 f0 f1 f2 f3 f4 f5 f6 f7 hK_0_1 hK_0_3 hK_0_4 kz_0_8 kz_0_10 kz_0_11 kz_0_12 kz_0_13 kz_0_14 kz_0_15 ex2 ex3 ey2 ey3 eu2 eu3
  have nf10 : fc_1 PRD (20, [0, 7], [60, 1, 1, 241, 5, 2]) ws (vs ++ [Value.int x, Value.int y, Value.int u]) := by
    refine ⟨nf_inA hl rfl, sgq_2112 ?_⟩
    · show MEB (w_fi ws (n_v (vs ++ [Value.int x, Value.int y, Value.int u]) 0) 5) (w_ei ws (w_ar ws (n_v (vs ++ [Value.int x, Value.int y, Value.int u]) 0) 2)) (v_iv (n_v (vs ++ [Value.int x, Value.int y, Value.int u]) 7))
      simp only [e_0, e_7]
      exact vc_Mo_item_at_k4_5_10 (v_iv (n_v vs 1)) (v_iv (n_v vs 2)) (v_iv (n_v vs 3)) (v_iv (n_v vs 6)) (v_iv (n_v vs 7)) (w_ei ws (w_ar ws (n_v vs 0) 1)) (w_ei ws (w_ar ws (n_v vs 0) 2)) (w_fi ws (n_v vs 0) 10) (w_fi ws (n_v vs 0) 8) (w_fi ws (n_v vs 0) 5) (w_ei ws (w_ar ws (n_v vs 0) 3)) (w_ei ws (w_ar ws (n_v vs 0) 4)) (w_fi ws (n_v vs 0) 15) (w_fi ws (n_v vs 0) 11) (w_fi ws (n_v vs 0) 12) (w_fi ws (n_v vs 0) 13) (w_fi ws (n_v vs 0) 14) (v_iv (Value.int x)) (v_iv (Value.int y)) (v_iv (Value.int u)) k1 k2 k3 k6 k7 f0 f1 f2 f3 f4 f5 f6 f7 hK_0_1 hK_0_3 hK_0_4 kz_0_8 kz_0_10 kz_0_11 kz_0_12 kz_0_13 kz_0_14 kz_0_15 ex2 ex3 ey2 ey3 eu2 eu3
  have nf11 : fc_1 PRD (20, [0, 1, 10], [60, 8, 2, 965, 10, 11, 12, 13, 14, 15, 8, 5, 1, 2]) ws (vs ++ [Value.int x, Value.int y, Value.int u]) := by
    refine ⟨nf_inA hl rfl, sgq_2122 ?_⟩
    · show zRS1 (w_fi ws (n_v (vs ++ [Value.int x, Value.int y, Value.int u]) 0) 10) (w_fi ws (n_v (vs ++ [Value.int x, Value.int y, Value.int u]) 0) 11) (w_fi ws (n_v (vs ++ [Value.int x, Value.int y, Value.int u]) 0) 12) (w_fi ws (n_v (vs ++ [Value.int x, Value.int y, Value.int u]) 0) 13) (w_fi ws (n_v (vs ++ [Value.int x, Value.int y, Value.int u]) 0) 14) (w_fi ws (n_v (vs ++ [Value.int x, Value.int y, Value.int u]) 0) 15) (w_fi ws (n_v (vs ++ [Value.int x, Value.int y, Value.int u]) 0) 8) (w_fi ws (n_v (vs ++ [Value.int x, Value.int y, Value.int u]) 0) 5) (w_ei ws (w_ar ws (n_v (vs ++ [Value.int x, Value.int y, Value.int u]) 0) 1)) (w_ei ws (w_ar ws (n_v (vs ++ [Value.int x, Value.int y, Value.int u]) 0) 2)) (v_iv (n_v (vs ++ [Value.int x, Value.int y, Value.int u]) 1)) (v_iv (n_v (vs ++ [Value.int x, Value.int y, Value.int u]) 10))
      simp only [e_0, e_1, e_10]
      exact vc_Mo_item_at_k4_5_11 (v_iv (n_v vs 1)) (v_iv (n_v vs 2)) (v_iv (n_v vs 3)) (v_iv (n_v vs 6)) (v_iv (n_v vs 7)) (w_ei ws (w_ar ws (n_v vs 0) 1)) (w_ei ws (w_ar ws (n_v vs 0) 2)) (w_fi ws (n_v vs 0) 10) (w_fi ws (n_v vs 0) 8) (w_fi ws (n_v vs 0) 5) (w_ei ws (w_ar ws (n_v vs 0) 3)) (w_ei ws (w_ar ws (n_v vs 0) 4)) (w_fi ws (n_v vs 0) 15) (w_fi ws (n_v vs 0) 11) (w_fi ws (n_v vs 0) 12) (w_fi ws (n_v vs 0) 13) (w_fi ws (n_v vs 0) 14) (v_iv (Value.int x)) (v_iv (Value.int y)) (v_iv (Value.int u)) k1 k2 k3 k6 k7 f0 f1 f2 f3 f4 f5 f6 f7 hK_0_1 hK_0_3 hK_0_4 kz_0_8 kz_0_10 kz_0_11 kz_0_12 kz_0_13 kz_0_14 kz_0_15 ex2 ex3 ey2 ey3 eu2 eu3
  exact ⟨(fun _ h => (by cases h)), [Value.int x, Value.int y, Value.int u], ag_three hx hy hu, List.forall_mem_cons.mpr ⟨⟨show (23 : Nat) < 100 from by decide, nf0⟩, List.forall_mem_cons.mpr ⟨⟨show (23 : Nat) < 100 from by decide, nf1⟩, List.forall_mem_cons.mpr ⟨⟨show (23 : Nat) < 100 from by decide, nf2⟩, List.forall_mem_cons.mpr ⟨⟨show (23 : Nat) < 100 from by decide, nf3⟩, List.forall_mem_cons.mpr ⟨⟨show (20 : Nat) < 100 from by decide, nf4⟩, List.forall_mem_cons.mpr ⟨⟨show (20 : Nat) < 100 from by decide, nf5⟩, List.forall_mem_cons.mpr ⟨⟨show (20 : Nat) < 100 from by decide, nf6⟩, List.forall_mem_cons.mpr ⟨⟨show (20 : Nat) < 100 from by decide, nf7⟩, List.forall_mem_cons.mpr ⟨⟨show (20 : Nat) < 100 from by decide, nf8⟩, List.forall_mem_cons.mpr ⟨⟨show (20 : Nat) < 100 from by decide, nf9⟩, List.forall_mem_cons.mpr ⟨⟨show (20 : Nat) < 100 from by decide, nf10⟩, List.forall_mem_cons.mpr ⟨⟨show (20 : Nat) < 100 from by decide, nf11⟩, (fun _ h => (by cases h))⟩⟩⟩⟩⟩⟩⟩⟩⟩⟩⟩⟩, (fun _ h => (by cases h))⟩
set_option maxHeartbeats 4000000 in
theorem vc_Mo_item_at_k4_6_0 (x3 : Int) (x8 : Int) (r_0 : Int) (gx : Int) (k3 : 0 ≤ x3 ∧ x3 ≤ 2000) (k8 : 0 ≤ x8 ∧ x8 ≤ 2000) (f0 : 1 * x8 + ((-1) * x3 + 0) ≤ 0) (f1 : (-1) * x8 + (1 * x3 + 0) ≤ 0) (ex2 : gx = x3) : 1 * gx + ((-1) * x3 + 0) ≤ 0 := by
  first
    | omega
    | (have q1 := (hE_0_2_1 (r_0 + 2) (by omega)).2 (by omega)
       have q2 := (hE_0_2_2 (r_0 + 2) (by omega)).2 (by omega)
       omega)
    | (have q1 := (hE_0_2_1 (r_0 + 1) (by omega)).2 (by omega)
       have q2 := (hE_0_2_2 (r_0 + 1) (by omega)).2 (by omega)
       omega)
    | (have q1 := (hE_0_2_1 (r_0 + 2) (by omega)).2 (by omega)
       omega)
    | (have q1 := (hE_0_2_1 (r_0 + 1) (by omega)).2 (by omega)
       omega)
    | (have q1 := (hE_0_2_1 (r_0 + 2) (by omega)).2 (by omega)
       have q2 := (hE_0_2_2 (r_0 + 2) (by omega)).2 (by omega)
       have q3 := (hE_0_2_3 (r_0 + 2) (by omega)).1 (by omega)
       omega)
    | (have q1 := (hE_0_2_1 (r_0 + 2) (by omega)).2 (by omega)
       have q2 := (hE_0_2_2 (r_0 + 2) (by omega)).2 (by omega)
       have q3 := (hE_0_2_3 (r_0 + 2) (by omega)).2 (by omega)
       omega)
set_option maxHeartbeats 4000000 in
theorem vc_Mo_item_at_k4_6_1 (x3 : Int) (x8 : Int) (r_0 : Int) (gx : Int) (k3 : 0 ≤ x3 ∧ x3 ≤ 2000) (k8 : 0 ≤ x8 ∧ x8 ≤ 2000) (f0 : 1 * x8 + ((-1) * x3 + 0) ≤ 0) (f1 : (-1) * x8 + (1 * x3 + 0) ≤ 0) (ex2 : gx = x3) : (-1) * gx + (1 * x3 + 0) ≤ 0 := by
  first
    | omega
    | (have q1 := (hE_0_2_1 (r_0 + 2) (by omega)).2 (by omega)
       have q2 := (hE_0_2_2 (r_0 + 2) (by omega)).2 (by omega)
       omega)
    | (have q1 := (hE_0_2_1 (r_0 + 1) (by omega)).2 (by omega)
       have q2 := (hE_0_2_2 (r_0 + 1) (by omega)).2 (by omega)
       omega)
    | (have q1 := (hE_0_2_1 (r_0 + 2) (by omega)).2 (by omega)
       omega)
    | (have q1 := (hE_0_2_1 (r_0 + 1) (by omega)).2 (by omega)
       omega)
    | (have q1 := (hE_0_2_1 (r_0 + 2) (by omega)).2 (by omega)
       have q2 := (hE_0_2_2 (r_0 + 2) (by omega)).2 (by omega)
       have q3 := (hE_0_2_3 (r_0 + 2) (by omega)).1 (by omega)
       omega)
    | (have q1 := (hE_0_2_1 (r_0 + 2) (by omega)).2 (by omega)
       have q2 := (hE_0_2_2 (r_0 + 2) (by omega)).2 (by omega)
       have q3 := (hE_0_2_3 (r_0 + 2) (by omega)).2 (by omega)
       omega)
set_option maxHeartbeats 4000000 in
theorem vc_Mo_item_at_k4_6_2 (x11 : Int) (r_0 : Int) (gy : Int) (k11 : (-1) ≤ x11 ∧ x11 ≤ 23) (ey2 : gy = x11) : 1 * gy + ((-1) * x11 + 0) ≤ 0 := by
  first
    | omega
    | (have q1 := (hE_0_2_1 (r_0 + 2) (by omega)).2 (by omega)
       have q2 := (hE_0_2_2 (r_0 + 2) (by omega)).2 (by omega)
       omega)
    | (have q1 := (hE_0_2_1 (r_0 + 1) (by omega)).2 (by omega)
       have q2 := (hE_0_2_2 (r_0 + 1) (by omega)).2 (by omega)
       omega)
    | (have q1 := (hE_0_2_1 (r_0 + 2) (by omega)).2 (by omega)
       omega)
    | (have q1 := (hE_0_2_1 (r_0 + 1) (by omega)).2 (by omega)
       omega)
    | (have q1 := (hE_0_2_1 (r_0 + 2) (by omega)).2 (by omega)
       have q2 := (hE_0_2_2 (r_0 + 2) (by omega)).2 (by omega)
       have q3 := (hE_0_2_3 (r_0 + 2) (by omega)).1 (by omega)
       omega)
    | (have q1 := (hE_0_2_1 (r_0 + 2) (by omega)).2 (by omega)
       have q2 := (hE_0_2_2 (r_0 + 2) (by omega)).2 (by omega)
       have q3 := (hE_0_2_3 (r_0 + 2) (by omega)).2 (by omega)
       omega)
set_option maxHeartbeats 4000000 in
theorem vc_Mo_item_at_k4_6_3 (x11 : Int) (r_0 : Int) (gy : Int) (k11 : (-1) ≤ x11 ∧ x11 ≤ 23) (ey2 : gy = x11) : (-1) * gy + (1 * x11 + 0) ≤ 0 := by
  first
    | omega
    | (have q1 := (hE_0_2_1 (r_0 + 2) (by omega)).2 (by omega)
       have q2 := (hE_0_2_2 (r_0 + 2) (by omega)).2 (by omega)
       omega)
    | (have q1 := (hE_0_2_1 (r_0 + 1) (by omega)).2 (by omega)
       have q2 := (hE_0_2_2 (r_0 + 1) (by omega)).2 (by omega)
       omega)
    | (have q1 := (hE_0_2_1 (r_0 + 2) (by omega)).2 (by omega)
       omega)
    | (have q1 := (hE_0_2_1 (r_0 + 1) (by omega)).2 (by omega)
       omega)
    | (have q1 := (hE_0_2_1 (r_0 + 2) (by omega)).2 (by omega)
       have q2 := (hE_0_2_2 (r_0 + 2) (by omega)).2 (by omega)
       have q3 := (hE_0_2_3 (r_0 + 2) (by omega)).1 (by omega)
       omega)
    | (have q1 := (hE_0_2_1 (r_0 + 2) (by omega)).2 (by omega)
       have q2 := (hE_0_2_2 (r_0 + 2) (by omega)).2 (by omega)
       have q3 := (hE_0_2_3 (r_0 + 2) (by omega)).2 (by omega)
       omega)
set_option maxHeartbeats 4000000 in
theorem vc_Mo_item_at_k4_6_4 (x1 : Int) (r_0 : Int) (gu : Int) (k1 : 0 ≤ x1 ∧ x1 ≤ 7) (eu2 : gu = x1) : 1 * gu + ((-1) * x1 + 0) ≤ 0 := by
  first
    | omega
    | (have q1 := (hE_0_2_1 (r_0 + 2) (by omega)).2 (by omega)
       have q2 := (hE_0_2_2 (r_0 + 2) (by omega)).2 (by omega)
       omega)
    | (have q1 := (hE_0_2_1 (r_0 + 1) (by omega)).2 (by omega)
       have q2 := (hE_0_2_2 (r_0 + 1) (by omega)).2 (by omega)
       omega)
    | (have q1 := (hE_0_2_1 (r_0 + 2) (by omega)).2 (by omega)
       omega)
    | (have q1 := (hE_0_2_1 (r_0 + 1) (by omega)).2 (by omega)
       omega)
    | (have q1 := (hE_0_2_1 (r_0 + 2) (by omega)).2 (by omega)
       have q2 := (hE_0_2_2 (r_0 + 2) (by omega)).2 (by omega)
       have q3 := (hE_0_2_3 (r_0 + 2) (by omega)).1 (by omega)
       omega)
    | (have q1 := (hE_0_2_1 (r_0 + 2) (by omega)).2 (by omega)
       have q2 := (hE_0_2_2 (r_0 + 2) (by omega)).2 (by omega)
       have q3 := (hE_0_2_3 (r_0 + 2) (by omega)).2 (by omega)
       omega)
set_option maxHeartbeats 4000000 in
theorem vc_Mo_item_at_k4_6_5 (x1 : Int) (r_0 : Int) (gu : Int) (k1 : 0 ≤ x1 ∧ x1 ≤ 7) (eu2 : gu = x1) : (-1) * gu + (1 * x1 + 0) ≤ 0 := by
  first
    | omega
    | (have q1 := (hE_0_2_1 (r_0 + 2) (by omega)).2 (by omega)
       have q2 := (hE_0_2_2 (r_0 + 2) (by omega)).2 (by omega)
       omega)
    | (have q1 := (hE_0_2_1 (r_0 + 1) (by omega)).2 (by omega)
       have q2 := (hE_0_2_2 (r_0 + 1) (by omega)).2 (by omega)
       omega)
    | (have q1 := (hE_0_2_1 (r_0 + 2) (by omega)).2 (by omega)
       omega)
    | (have q1 := (hE_0_2_1 (r_0 + 1) (by omega)).2 (by omega)
       omega)
    | (have q1 := (hE_0_2_1 (r_0 + 2) (by omega)).2 (by omega)
       have q2 := (hE_0_2_2 (r_0 + 2) (by omega)).2 (by omega)
       have q3 := (hE_0_2_3 (r_0 + 2) (by omega)).1 (by omega)
       omega)
    | (have q1 := (hE_0_2_1 (r_0 + 2) (by omega)).2 (by omega)
       have q2 := (hE_0_2_2 (r_0 + 2) (by omega)).2 (by omega)
       have q3 := (hE_0_2_3 (r_0 + 2) (by omega)).2 (by omega)
       omega)
set_option maxHeartbeats 4000000 in
theorem vc_Mo_item_at_k4_6_6 (x2 : Int) (r_0 : Int) (gw : Int) (k2 : 4 ≤ x2 ∧ x2 ≤ 4) (ew2 : gw = x2) : 1 * gw + ((-1) * x2 + 0) ≤ 0 := by
  first
    | omega
    | (have q1 := (hE_0_2_1 (r_0 + 2) (by omega)).2 (by omega)
       have q2 := (hE_0_2_2 (r_0 + 2) (by omega)).2 (by omega)
       omega)
    | (have q1 := (hE_0_2_1 (r_0 + 1) (by omega)).2 (by omega)
       have q2 := (hE_0_2_2 (r_0 + 1) (by omega)).2 (by omega)
       omega)
    | (have q1 := (hE_0_2_1 (r_0 + 2) (by omega)).2 (by omega)
       omega)
    | (have q1 := (hE_0_2_1 (r_0 + 1) (by omega)).2 (by omega)
       omega)
    | (have q1 := (hE_0_2_1 (r_0 + 2) (by omega)).2 (by omega)
       have q2 := (hE_0_2_2 (r_0 + 2) (by omega)).2 (by omega)
       have q3 := (hE_0_2_3 (r_0 + 2) (by omega)).1 (by omega)
       omega)
    | (have q1 := (hE_0_2_1 (r_0 + 2) (by omega)).2 (by omega)
       have q2 := (hE_0_2_2 (r_0 + 2) (by omega)).2 (by omega)
       have q3 := (hE_0_2_3 (r_0 + 2) (by omega)).2 (by omega)
       omega)
set_option maxHeartbeats 4000000 in
theorem vc_Mo_item_at_k4_6_7 (x2 : Int) (r_0 : Int) (gw : Int) (k2 : 4 ≤ x2 ∧ x2 ≤ 4) (ew2 : gw = x2) : (-1) * gw + (1 * x2 + 0) ≤ 0 := by
  first
    | omega
    | (have q1 := (hE_0_2_1 (r_0 + 2) (by omega)).2 (by omega)
       have q2 := (hE_0_2_2 (r_0 + 2) (by omega)).2 (by omega)
       omega)
    | (have q1 := (hE_0_2_1 (r_0 + 1) (by omega)).2 (by omega)
       have q2 := (hE_0_2_2 (r_0 + 1) (by omega)).2 (by omega)
       omega)
    | (have q1 := (hE_0_2_1 (r_0 + 2) (by omega)).2 (by omega)
       omega)
    | (have q1 := (hE_0_2_1 (r_0 + 1) (by omega)).2 (by omega)
       omega)
    | (have q1 := (hE_0_2_1 (r_0 + 2) (by omega)).2 (by omega)
       have q2 := (hE_0_2_2 (r_0 + 2) (by omega)).2 (by omega)
       have q3 := (hE_0_2_3 (r_0 + 2) (by omega)).1 (by omega)
       omega)
    | (have q1 := (hE_0_2_1 (r_0 + 2) (by omega)).2 (by omega)
       have q2 := (hE_0_2_2 (r_0 + 2) (by omega)).2 (by omega)
       have q3 := (hE_0_2_3 (r_0 + 2) (by omega)).2 (by omega)
       omega)
set_option maxHeartbeats 4000000 in
theorem vc_Mo_item_at_k4_6_8 (from_0 : Int) (pos_0 : Int) (r_0 : Int) (f5 : 1 * from_0 + ((-1) * pos_0 + 0) ≤ 0) (kz_0_11 : 0 ≤ pos_0 ∧ pos_0 ≤ 2000) (kz_0_15 : 0 ≤ from_0 ∧ from_0 ≤ 2000) : 1 * from_0 + ((-1) * pos_0 + 0) ≤ 0 := by
  first
    | omega
    | (have q1 := (hE_0_2_1 (r_0 + 2) (by omega)).2 (by omega)
       have q2 := (hE_0_2_2 (r_0 + 2) (by omega)).2 (by omega)
       omega)
    | (have q1 := (hE_0_2_1 (r_0 + 1) (by omega)).2 (by omega)
       have q2 := (hE_0_2_2 (r_0 + 1) (by omega)).2 (by omega)
       omega)
    | (have q1 := (hE_0_2_1 (r_0 + 2) (by omega)).2 (by omega)
       omega)
    | (have q1 := (hE_0_2_1 (r_0 + 1) (by omega)).2 (by omega)
       omega)
    | (have q1 := (hE_0_2_1 (r_0 + 2) (by omega)).2 (by omega)
       have q2 := (hE_0_2_2 (r_0 + 2) (by omega)).2 (by omega)
       have q3 := (hE_0_2_3 (r_0 + 2) (by omega)).1 (by omega)
       omega)
    | (have q1 := (hE_0_2_1 (r_0 + 2) (by omega)).2 (by omega)
       have q2 := (hE_0_2_2 (r_0 + 2) (by omega)).2 (by omega)
       have q3 := (hE_0_2_3 (r_0 + 2) (by omega)).2 (by omega)
       omega)
set_option maxHeartbeats 4000000 in
theorem vc_Mo_item_at_k4_6_9 (x1 : Int) (x2 : Int) (x3 : Int) (x6 : Int) (x7 : Int) (x8 : Int) (x9 : Int) (x10 : Int) (x11 : Int) (from_0 : Int) (pos_0 : Int) (kind_0 : Int) (fault_0 : Int) (all_0 : Int → Int) (r_0 : Int) (now_0 : Int → Int) (latest_0 : Int → Int) (tape_0 : Int → Int) (limit_0 : Int) (place_0 : Int) (value_0 : Int) (faultPlace_0 : Int) (gx : Int) (gy : Int) (gu : Int) (gw : Int) (k1 : 0 ≤ x1 ∧ x1 ≤ 7) (k2 : 4 ≤ x2 ∧ x2 ≤ 4) (k3 : 0 ≤ x3 ∧ x3 ≤ 2000) (k6 : 0 ≤ x6 ∧ x6 ≤ 2000) (k7 : (-1) ≤ x7 ∧ x7 ≤ (-1)) (k8 : 0 ≤ x8 ∧ x8 ≤ 2000) (k9 : 0 ≤ x9 ∧ x9 ≤ 2000) (k10 : 0 ≤ x10 ∧ x10 ≤ 4) (k11 : (-1) ≤ x11 ∧ x11 ≤ 23) (f0 : 1 * x8 + ((-1) * x3 + 0) ≤ 0) (f1 : (-1) * x8 + (1 * x3 + 0) ≤ 0) (f2 : 1 * x10 + ((-1) * x2 + 0) ≤ 0) (f3 : (-1) * x10 + (1 * x2 + 0) ≤ 0) (f4 : 1 * x3 + ((-1) * x6 + 0) ≤ 0) (f5 : 1 * from_0 + ((-1) * pos_0 + 0) ≤ 0) (f6 : ((kind_0 = 1) → (pos_0 ≤ (from_0 + 8))) ∧ ((kind_0 = 0) ∨ ((from_0 + 1) ≤ pos_0))) (f7 : 1 * x8 + ((-1) * pos_0 + 0) ≤ 0) (f8 : (1 ≤ fault_0) ∨ ((kind_0 = 0) ∨ ((x8 + 1) ≤ pos_0))) (f9 : (1 ≤ fault_0) ∨ ((x9 + 1) ≤ pos_0)) (f10 : ((-1) * fault_0 + 0 ≤ (-1)) ∨ ((-1) * x11 + 0 ≤ 0)) (f11 : (1 ≤ fault_0) ∨ ((x7 ≤ (-1)) ∨ (all_0 ((r_0 + 1)) ≤ 47))) (f12 : (x1 + 1) ≤ all_0 ((r_0 + 2))) (f13 : RWS (r_0) (all_0) (now_0) (latest_0)) (f14 : MET (r_0) (fault_0) (all_0) (x7) (x11)) (f15 : zOS2 (limit_0) (pos_0) (kind_0) (place_0) (value_0) (from_0) (fault_0) (faultPlace_0) (r_0) (tape_0) (all_0) (x11) (x1) (x10)) (f17 : 1 * x8 + ((-1) * x3 + 0) ≤ 0) (f18 : (-1) * x8 + (1 * x3 + 0) ≤ 0) (f19 : 1 * x10 + ((-1) * x2 + 0) ≤ 0) (f20 : (-1) * x10 + (1 * x2 + 0) ≤ 0) (hK_0_1 : ∀ j : Int, 0 ≤ j → j < 2000 → (-128) ≤ tape_0 j ∧ tape_0 j ≤ 127) (hK_0_3 : ∀ j : Int, 0 ≤ j → j < 4 → 0 ≤ now_0 j ∧ now_0 j ≤ 30) (hK_0_4 : ∀ j : Int, 0 ≤ j → j < 4 → 0 ≤ latest_0 j ∧ latest_0 j ≤ 30) (kz_0_8 : 0 ≤ fault_0 ∧ fault_0 ≤ 5) (kz_0_9 : 0 ≤ faultPlace_0 ∧ faultPlace_0 ≤ 2000) (kz_0_10 : 0 ≤ limit_0 ∧ limit_0 ≤ 2000) (kz_0_11 : 0 ≤ pos_0 ∧ pos_0 ≤ 2000) (kz_0_12 : 0 ≤ kind_0 ∧ kind_0 ≤ 4) (kz_0_13 : 0 ≤ place_0 ∧ place_0 ≤ 2000) (kz_0_14 : (-49) ≤ value_0 ∧ value_0 ≤ 1048575) (kz_0_15 : 0 ≤ from_0 ∧ from_0 ≤ 2000) (ex2 : gx = x3) (ex3 : 0 ≤ gx ∧ gx ≤ 2000) (ey2 : gy = x11) (ey3 : (-1) ≤ gy ∧ gy ≤ 48) (eu2 : gu = x1) (eu3 : 0 ≤ gu ∧ gu ≤ 7) (ew2 : gw = x2) (ew3 : 0 ≤ gw ∧ gw ≤ 4) : ((kind_0 = 1) → (pos_0 ≤ (from_0 + 8))) ∧ ((kind_0 = 0) ∨ ((from_0 + 1) ≤ pos_0)) := by
  first
    | omega
    | (have q1 := (hE_0_2_1 (r_0 + 2) (by omega)).2 (by omega)
       have q2 := (hE_0_2_2 (r_0 + 2) (by omega)).2 (by omega)
       omega)
    | (have q1 := (hE_0_2_1 (r_0 + 1) (by omega)).2 (by omega)
       have q2 := (hE_0_2_2 (r_0 + 1) (by omega)).2 (by omega)
       omega)
    | (have q1 := (hE_0_2_1 (r_0 + 2) (by omega)).2 (by omega)
       omega)
    | (have q1 := (hE_0_2_1 (r_0 + 1) (by omega)).2 (by omega)
       omega)
    | (have q1 := (hE_0_2_1 (r_0 + 2) (by omega)).2 (by omega)
       have q2 := (hE_0_2_2 (r_0 + 2) (by omega)).2 (by omega)
       have q3 := (hE_0_2_3 (r_0 + 2) (by omega)).1 (by omega)
       omega)
    | (have q1 := (hE_0_2_1 (r_0 + 2) (by omega)).2 (by omega)
       have q2 := (hE_0_2_2 (r_0 + 2) (by omega)).2 (by omega)
       have q3 := (hE_0_2_3 (r_0 + 2) (by omega)).2 (by omega)
       omega)
set_option maxHeartbeats 4000000 in
theorem vc_Mo_item_at_k4_6_10 (x1 : Int) (x2 : Int) (x3 : Int) (x6 : Int) (x7 : Int) (x8 : Int) (x9 : Int) (x10 : Int) (x11 : Int) (from_0 : Int) (pos_0 : Int) (kind_0 : Int) (fault_0 : Int) (all_0 : Int → Int) (r_0 : Int) (now_0 : Int → Int) (latest_0 : Int → Int) (tape_0 : Int → Int) (limit_0 : Int) (place_0 : Int) (value_0 : Int) (faultPlace_0 : Int) (gx : Int) (gy : Int) (gu : Int) (gw : Int) (k1 : 0 ≤ x1 ∧ x1 ≤ 7) (k2 : 4 ≤ x2 ∧ x2 ≤ 4) (k3 : 0 ≤ x3 ∧ x3 ≤ 2000) (k6 : 0 ≤ x6 ∧ x6 ≤ 2000) (k7 : (-1) ≤ x7 ∧ x7 ≤ (-1)) (k8 : 0 ≤ x8 ∧ x8 ≤ 2000) (k9 : 0 ≤ x9 ∧ x9 ≤ 2000) (k10 : 0 ≤ x10 ∧ x10 ≤ 4) (k11 : (-1) ≤ x11 ∧ x11 ≤ 23) (f0 : 1 * x8 + ((-1) * x3 + 0) ≤ 0) (f1 : (-1) * x8 + (1 * x3 + 0) ≤ 0) (f2 : 1 * x10 + ((-1) * x2 + 0) ≤ 0) (f3 : (-1) * x10 + (1 * x2 + 0) ≤ 0) (f4 : 1 * x3 + ((-1) * x6 + 0) ≤ 0) (f5 : 1 * from_0 + ((-1) * pos_0 + 0) ≤ 0) (f6 : ((kind_0 = 1) → (pos_0 ≤ (from_0 + 8))) ∧ ((kind_0 = 0) ∨ ((from_0 + 1) ≤ pos_0))) (f7 : 1 * x8 + ((-1) * pos_0 + 0) ≤ 0) (f8 : (1 ≤ fault_0) ∨ ((kind_0 = 0) ∨ ((x8 + 1) ≤ pos_0))) (f9 : (1 ≤ fault_0) ∨ ((x9 + 1) ≤ pos_0)) (f10 : ((-1) * fault_0 + 0 ≤ (-1)) ∨ ((-1) * x11 + 0 ≤ 0)) (f11 : (1 ≤ fault_0) ∨ ((x7 ≤ (-1)) ∨ (all_0 ((r_0 + 1)) ≤ 47))) (f12 : (x1 + 1) ≤ all_0 ((r_0 + 2))) (f13 : RWS (r_0) (all_0) (now_0) (latest_0)) (f14 : MET (r_0) (fault_0) (all_0) (x7) (x11)) (f15 : zOS2 (limit_0) (pos_0) (kind_0) (place_0) (value_0) (from_0) (fault_0) (faultPlace_0) (r_0) (tape_0) (all_0) (x11) (x1) (x10)) (f17 : 1 * x8 + ((-1) * x3 + 0) ≤ 0) (f18 : (-1) * x8 + (1 * x3 + 0) ≤ 0) (f19 : 1 * x10 + ((-1) * x2 + 0) ≤ 0) (f20 : (-1) * x10 + (1 * x2 + 0) ≤ 0) (hK_0_1 : ∀ j : Int, 0 ≤ j → j < 2000 → (-128) ≤ tape_0 j ∧ tape_0 j ≤ 127) (hK_0_3 : ∀ j : Int, 0 ≤ j → j < 4 → 0 ≤ now_0 j ∧ now_0 j ≤ 30) (hK_0_4 : ∀ j : Int, 0 ≤ j → j < 4 → 0 ≤ latest_0 j ∧ latest_0 j ≤ 30) (kz_0_8 : 0 ≤ fault_0 ∧ fault_0 ≤ 5) (kz_0_9 : 0 ≤ faultPlace_0 ∧ faultPlace_0 ≤ 2000) (kz_0_10 : 0 ≤ limit_0 ∧ limit_0 ≤ 2000) (kz_0_11 : 0 ≤ pos_0 ∧ pos_0 ≤ 2000) (kz_0_12 : 0 ≤ kind_0 ∧ kind_0 ≤ 4) (kz_0_13 : 0 ≤ place_0 ∧ place_0 ≤ 2000) (kz_0_14 : (-49) ≤ value_0 ∧ value_0 ≤ 1048575) (kz_0_15 : 0 ≤ from_0 ∧ from_0 ≤ 2000) (ex2 : gx = x3) (ex3 : 0 ≤ gx ∧ gx ≤ 2000) (ey2 : gy = x11) (ey3 : (-1) ≤ gy ∧ gy ≤ 48) (eu2 : gu = x1) (eu3 : 0 ≤ gu ∧ gu ≤ 7) (ew2 : gw = x2) (ew3 : 0 ≤ gw ∧ gw ≤ 4) : 1 * gx + ((-1) * pos_0 + 0) ≤ 0 := by
  first
    | omega
    | (have q1 := (hE_0_2_1 (r_0 + 2) (by omega)).2 (by omega)
       have q2 := (hE_0_2_2 (r_0 + 2) (by omega)).2 (by omega)
       omega)
    | (have q1 := (hE_0_2_1 (r_0 + 1) (by omega)).2 (by omega)
       have q2 := (hE_0_2_2 (r_0 + 1) (by omega)).2 (by omega)
       omega)
    | (have q1 := (hE_0_2_1 (r_0 + 2) (by omega)).2 (by omega)
       omega)
    | (have q1 := (hE_0_2_1 (r_0 + 1) (by omega)).2 (by omega)
       omega)
    | (have q1 := (hE_0_2_1 (r_0 + 2) (by omega)).2 (by omega)
       have q2 := (hE_0_2_2 (r_0 + 2) (by omega)).2 (by omega)
       have q3 := (hE_0_2_3 (r_0 + 2) (by omega)).1 (by omega)
       omega)
    | (have q1 := (hE_0_2_1 (r_0 + 2) (by omega)).2 (by omega)
       have q2 := (hE_0_2_2 (r_0 + 2) (by omega)).2 (by omega)
       have q3 := (hE_0_2_3 (r_0 + 2) (by omega)).2 (by omega)
       omega)
set_option maxHeartbeats 4000000 in
theorem vc_Mo_item_at_k4_6_11 (x1 : Int) (x2 : Int) (x3 : Int) (x6 : Int) (x7 : Int) (x8 : Int) (x9 : Int) (x10 : Int) (x11 : Int) (from_0 : Int) (pos_0 : Int) (kind_0 : Int) (fault_0 : Int) (all_0 : Int → Int) (r_0 : Int) (now_0 : Int → Int) (latest_0 : Int → Int) (tape_0 : Int → Int) (limit_0 : Int) (place_0 : Int) (value_0 : Int) (faultPlace_0 : Int) (gx : Int) (gy : Int) (gu : Int) (gw : Int) (k1 : 0 ≤ x1 ∧ x1 ≤ 7) (k2 : 4 ≤ x2 ∧ x2 ≤ 4) (k3 : 0 ≤ x3 ∧ x3 ≤ 2000) (k6 : 0 ≤ x6 ∧ x6 ≤ 2000) (k7 : (-1) ≤ x7 ∧ x7 ≤ (-1)) (k8 : 0 ≤ x8 ∧ x8 ≤ 2000) (k9 : 0 ≤ x9 ∧ x9 ≤ 2000) (k10 : 0 ≤ x10 ∧ x10 ≤ 4) (k11 : (-1) ≤ x11 ∧ x11 ≤ 23) (f0 : 1 * x8 + ((-1) * x3 + 0) ≤ 0) (f1 : (-1) * x8 + (1 * x3 + 0) ≤ 0) (f2 : 1 * x10 + ((-1) * x2 + 0) ≤ 0) (f3 : (-1) * x10 + (1 * x2 + 0) ≤ 0) (f4 : 1 * x3 + ((-1) * x6 + 0) ≤ 0) (f5 : 1 * from_0 + ((-1) * pos_0 + 0) ≤ 0) (f6 : ((kind_0 = 1) → (pos_0 ≤ (from_0 + 8))) ∧ ((kind_0 = 0) ∨ ((from_0 + 1) ≤ pos_0))) (f7 : 1 * x8 + ((-1) * pos_0 + 0) ≤ 0) (f8 : (1 ≤ fault_0) ∨ ((kind_0 = 0) ∨ ((x8 + 1) ≤ pos_0))) (f9 : (1 ≤ fault_0) ∨ ((x9 + 1) ≤ pos_0)) (f10 : ((-1) * fault_0 + 0 ≤ (-1)) ∨ ((-1) * x11 + 0 ≤ 0)) (f11 : (1 ≤ fault_0) ∨ ((x7 ≤ (-1)) ∨ (all_0 ((r_0 + 1)) ≤ 47))) (f12 : (x1 + 1) ≤ all_0 ((r_0 + 2))) (f13 : RWS (r_0) (all_0) (now_0) (latest_0)) (f14 : MET (r_0) (fault_0) (all_0) (x7) (x11)) (f15 : zOS2 (limit_0) (pos_0) (kind_0) (place_0) (value_0) (from_0) (fault_0) (faultPlace_0) (r_0) (tape_0) (all_0) (x11) (x1) (x10)) (f17 : 1 * x8 + ((-1) * x3 + 0) ≤ 0) (f18 : (-1) * x8 + (1 * x3 + 0) ≤ 0) (f19 : 1 * x10 + ((-1) * x2 + 0) ≤ 0) (f20 : (-1) * x10 + (1 * x2 + 0) ≤ 0) (hK_0_1 : ∀ j : Int, 0 ≤ j → j < 2000 → (-128) ≤ tape_0 j ∧ tape_0 j ≤ 127) (hK_0_3 : ∀ j : Int, 0 ≤ j → j < 4 → 0 ≤ now_0 j ∧ now_0 j ≤ 30) (hK_0_4 : ∀ j : Int, 0 ≤ j → j < 4 → 0 ≤ latest_0 j ∧ latest_0 j ≤ 30) (kz_0_8 : 0 ≤ fault_0 ∧ fault_0 ≤ 5) (kz_0_9 : 0 ≤ faultPlace_0 ∧ faultPlace_0 ≤ 2000) (kz_0_10 : 0 ≤ limit_0 ∧ limit_0 ≤ 2000) (kz_0_11 : 0 ≤ pos_0 ∧ pos_0 ≤ 2000) (kz_0_12 : 0 ≤ kind_0 ∧ kind_0 ≤ 4) (kz_0_13 : 0 ≤ place_0 ∧ place_0 ≤ 2000) (kz_0_14 : (-49) ≤ value_0 ∧ value_0 ≤ 1048575) (kz_0_15 : 0 ≤ from_0 ∧ from_0 ≤ 2000) (ex2 : gx = x3) (ex3 : 0 ≤ gx ∧ gx ≤ 2000) (ey2 : gy = x11) (ey3 : (-1) ≤ gy ∧ gy ≤ 48) (eu2 : gu = x1) (eu3 : 0 ≤ gu ∧ gu ≤ 7) (ew2 : gw = x2) (ew3 : 0 ≤ gw ∧ gw ≤ 4) : (1 ≤ fault_0) ∨ ((kind_0 = 0) ∨ ((gx + 1) ≤ pos_0)) := by
  first
    | omega
    | (have q1 := (hE_0_2_1 (r_0 + 2) (by omega)).2 (by omega)
       have q2 := (hE_0_2_2 (r_0 + 2) (by omega)).2 (by omega)
       omega)
    | (have q1 := (hE_0_2_1 (r_0 + 1) (by omega)).2 (by omega)
       have q2 := (hE_0_2_2 (r_0 + 1) (by omega)).2 (by omega)
       omega)
    | (have q1 := (hE_0_2_1 (r_0 + 2) (by omega)).2 (by omega)
       omega)
    | (have q1 := (hE_0_2_1 (r_0 + 1) (by omega)).2 (by omega)
       omega)
    | (have q1 := (hE_0_2_1 (r_0 + 2) (by omega)).2 (by omega)
       have q2 := (hE_0_2_2 (r_0 + 2) (by omega)).2 (by omega)
       have q3 := (hE_0_2_3 (r_0 + 2) (by omega)).1 (by omega)
       omega)
    | (have q1 := (hE_0_2_1 (r_0 + 2) (by omega)).2 (by omega)
       have q2 := (hE_0_2_2 (r_0 + 2) (by omega)).2 (by omega)
       have q3 := (hE_0_2_3 (r_0 + 2) (by omega)).2 (by omega)
       omega)
set_option maxHeartbeats 4000000 in
theorem vc_Mo_item_at_k4_6_12 (x1 : Int) (x2 : Int) (x3 : Int) (x6 : Int) (x7 : Int) (x8 : Int) (x9 : Int) (x10 : Int) (x11 : Int) (from_0 : Int) (pos_0 : Int) (kind_0 : Int) (fault_0 : Int) (all_0 : Int → Int) (r_0 : Int) (now_0 : Int → Int) (latest_0 : Int → Int) (tape_0 : Int → Int) (limit_0 : Int) (place_0 : Int) (value_0 : Int) (faultPlace_0 : Int) (gx : Int) (gy : Int) (gu : Int) (gw : Int) (k1 : 0 ≤ x1 ∧ x1 ≤ 7) (k2 : 4 ≤ x2 ∧ x2 ≤ 4) (k3 : 0 ≤ x3 ∧ x3 ≤ 2000) (k6 : 0 ≤ x6 ∧ x6 ≤ 2000) (k7 : (-1) ≤ x7 ∧ x7 ≤ (-1)) (k8 : 0 ≤ x8 ∧ x8 ≤ 2000) (k9 : 0 ≤ x9 ∧ x9 ≤ 2000) (k10 : 0 ≤ x10 ∧ x10 ≤ 4) (k11 : (-1) ≤ x11 ∧ x11 ≤ 23) (f0 : 1 * x8 + ((-1) * x3 + 0) ≤ 0) (f1 : (-1) * x8 + (1 * x3 + 0) ≤ 0) (f2 : 1 * x10 + ((-1) * x2 + 0) ≤ 0) (f3 : (-1) * x10 + (1 * x2 + 0) ≤ 0) (f4 : 1 * x3 + ((-1) * x6 + 0) ≤ 0) (f5 : 1 * from_0 + ((-1) * pos_0 + 0) ≤ 0) (f6 : ((kind_0 = 1) → (pos_0 ≤ (from_0 + 8))) ∧ ((kind_0 = 0) ∨ ((from_0 + 1) ≤ pos_0))) (f7 : 1 * x8 + ((-1) * pos_0 + 0) ≤ 0) (f8 : (1 ≤ fault_0) ∨ ((kind_0 = 0) ∨ ((x8 + 1) ≤ pos_0))) (f9 : (1 ≤ fault_0) ∨ ((x9 + 1) ≤ pos_0)) (f10 : ((-1) * fault_0 + 0 ≤ (-1)) ∨ ((-1) * x11 + 0 ≤ 0)) (f11 : (1 ≤ fault_0) ∨ ((x7 ≤ (-1)) ∨ (all_0 ((r_0 + 1)) ≤ 47))) (f12 : (x1 + 1) ≤ all_0 ((r_0 + 2))) (f13 : RWS (r_0) (all_0) (now_0) (latest_0)) (f14 : MET (r_0) (fault_0) (all_0) (x7) (x11)) (f15 : zOS2 (limit_0) (pos_0) (kind_0) (place_0) (value_0) (from_0) (fault_0) (faultPlace_0) (r_0) (tape_0) (all_0) (x11) (x1) (x10)) (f17 : 1 * x8 + ((-1) * x3 + 0) ≤ 0) (f18 : (-1) * x8 + (1 * x3 + 0) ≤ 0) (f19 : 1 * x10 + ((-1) * x2 + 0) ≤ 0) (f20 : (-1) * x10 + (1 * x2 + 0) ≤ 0) (hK_0_1 : ∀ j : Int, 0 ≤ j → j < 2000 → (-128) ≤ tape_0 j ∧ tape_0 j ≤ 127) (hK_0_3 : ∀ j : Int, 0 ≤ j → j < 4 → 0 ≤ now_0 j ∧ now_0 j ≤ 30) (hK_0_4 : ∀ j : Int, 0 ≤ j → j < 4 → 0 ≤ latest_0 j ∧ latest_0 j ≤ 30) (kz_0_8 : 0 ≤ fault_0 ∧ fault_0 ≤ 5) (kz_0_9 : 0 ≤ faultPlace_0 ∧ faultPlace_0 ≤ 2000) (kz_0_10 : 0 ≤ limit_0 ∧ limit_0 ≤ 2000) (kz_0_11 : 0 ≤ pos_0 ∧ pos_0 ≤ 2000) (kz_0_12 : 0 ≤ kind_0 ∧ kind_0 ≤ 4) (kz_0_13 : 0 ≤ place_0 ∧ place_0 ≤ 2000) (kz_0_14 : (-49) ≤ value_0 ∧ value_0 ≤ 1048575) (kz_0_15 : 0 ≤ from_0 ∧ from_0 ≤ 2000) (ex2 : gx = x3) (ex3 : 0 ≤ gx ∧ gx ≤ 2000) (ey2 : gy = x11) (ey3 : (-1) ≤ gy ∧ gy ≤ 48) (eu2 : gu = x1) (eu3 : 0 ≤ gu ∧ gu ≤ 7) (ew2 : gw = x2) (ew3 : 0 ≤ gw ∧ gw ≤ 4) : (1 ≤ fault_0) ∨ (0 ≤ gy) := by
  first
    | omega
    | (have q1 := (hE_0_2_1 (r_0 + 2) (by omega)).2 (by omega)
       have q2 := (hE_0_2_2 (r_0 + 2) (by omega)).2 (by omega)
       omega)
    | (have q1 := (hE_0_2_1 (r_0 + 1) (by omega)).2 (by omega)
       have q2 := (hE_0_2_2 (r_0 + 1) (by omega)).2 (by omega)
       omega)
    | (have q1 := (hE_0_2_1 (r_0 + 2) (by omega)).2 (by omega)
       omega)
    | (have q1 := (hE_0_2_1 (r_0 + 1) (by omega)).2 (by omega)
       omega)
    | (have q1 := (hE_0_2_1 (r_0 + 2) (by omega)).2 (by omega)
       have q2 := (hE_0_2_2 (r_0 + 2) (by omega)).2 (by omega)
       have q3 := (hE_0_2_3 (r_0 + 2) (by omega)).1 (by omega)
       omega)
    | (have q1 := (hE_0_2_1 (r_0 + 2) (by omega)).2 (by omega)
       have q2 := (hE_0_2_2 (r_0 + 2) (by omega)).2 (by omega)
       have q3 := (hE_0_2_3 (r_0 + 2) (by omega)).2 (by omega)
       omega)
set_option maxHeartbeats 4000000 in
theorem vc_Mo_item_at_k4_6_13 (x1 : Int) (x2 : Int) (x3 : Int) (x6 : Int) (x7 : Int) (x8 : Int) (x9 : Int) (x10 : Int) (x11 : Int) (from_0 : Int) (pos_0 : Int) (kind_0 : Int) (fault_0 : Int) (all_0 : Int → Int) (r_0 : Int) (now_0 : Int → Int) (latest_0 : Int → Int) (tape_0 : Int → Int) (limit_0 : Int) (place_0 : Int) (value_0 : Int) (faultPlace_0 : Int) (gx : Int) (gy : Int) (gu : Int) (gw : Int) (k1 : 0 ≤ x1 ∧ x1 ≤ 7) (k2 : 4 ≤ x2 ∧ x2 ≤ 4) (k3 : 0 ≤ x3 ∧ x3 ≤ 2000) (k6 : 0 ≤ x6 ∧ x6 ≤ 2000) (k7 : (-1) ≤ x7 ∧ x7 ≤ (-1)) (k8 : 0 ≤ x8 ∧ x8 ≤ 2000) (k9 : 0 ≤ x9 ∧ x9 ≤ 2000) (k10 : 0 ≤ x10 ∧ x10 ≤ 4) (k11 : (-1) ≤ x11 ∧ x11 ≤ 23) (f0 : 1 * x8 + ((-1) * x3 + 0) ≤ 0) (f1 : (-1) * x8 + (1 * x3 + 0) ≤ 0) (f2 : 1 * x10 + ((-1) * x2 + 0) ≤ 0) (f3 : (-1) * x10 + (1 * x2 + 0) ≤ 0) (f4 : 1 * x3 + ((-1) * x6 + 0) ≤ 0) (f5 : 1 * from_0 + ((-1) * pos_0 + 0) ≤ 0) (f6 : ((kind_0 = 1) → (pos_0 ≤ (from_0 + 8))) ∧ ((kind_0 = 0) ∨ ((from_0 + 1) ≤ pos_0))) (f7 : 1 * x8 + ((-1) * pos_0 + 0) ≤ 0) (f8 : (1 ≤ fault_0) ∨ ((kind_0 = 0) ∨ ((x8 + 1) ≤ pos_0))) (f9 : (1 ≤ fault_0) ∨ ((x9 + 1) ≤ pos_0)) (f10 : ((-1) * fault_0 + 0 ≤ (-1)) ∨ ((-1) * x11 + 0 ≤ 0)) (f11 : (1 ≤ fault_0) ∨ ((x7 ≤ (-1)) ∨ (all_0 ((r_0 + 1)) ≤ 47))) (f12 : (x1 + 1) ≤ all_0 ((r_0 + 2))) (f13 : RWS (r_0) (all_0) (now_0) (latest_0)) (f14 : MET (r_0) (fault_0) (all_0) (x7) (x11)) (f15 : zOS2 (limit_0) (pos_0) (kind_0) (place_0) (value_0) (from_0) (fault_0) (faultPlace_0) (r_0) (tape_0) (all_0) (x11) (x1) (x10)) (f17 : 1 * x8 + ((-1) * x3 + 0) ≤ 0) (f18 : (-1) * x8 + (1 * x3 + 0) ≤ 0) (f19 : 1 * x10 + ((-1) * x2 + 0) ≤ 0) (f20 : (-1) * x10 + (1 * x2 + 0) ≤ 0) (hK_0_1 : ∀ j : Int, 0 ≤ j → j < 2000 → (-128) ≤ tape_0 j ∧ tape_0 j ≤ 127) (hK_0_3 : ∀ j : Int, 0 ≤ j → j < 4 → 0 ≤ now_0 j ∧ now_0 j ≤ 30) (hK_0_4 : ∀ j : Int, 0 ≤ j → j < 4 → 0 ≤ latest_0 j ∧ latest_0 j ≤ 30) (kz_0_8 : 0 ≤ fault_0 ∧ fault_0 ≤ 5) (kz_0_9 : 0 ≤ faultPlace_0 ∧ faultPlace_0 ≤ 2000) (kz_0_10 : 0 ≤ limit_0 ∧ limit_0 ≤ 2000) (kz_0_11 : 0 ≤ pos_0 ∧ pos_0 ≤ 2000) (kz_0_12 : 0 ≤ kind_0 ∧ kind_0 ≤ 4) (kz_0_13 : 0 ≤ place_0 ∧ place_0 ≤ 2000) (kz_0_14 : (-49) ≤ value_0 ∧ value_0 ≤ 1048575) (kz_0_15 : 0 ≤ from_0 ∧ from_0 ≤ 2000) (ex2 : gx = x3) (ex3 : 0 ≤ gx ∧ gx ≤ 2000) (ey2 : gy = x11) (ey3 : (-1) ≤ gy ∧ gy ≤ 48) (eu2 : gu = x1) (eu3 : 0 ≤ gu ∧ gu ≤ 7) (ew2 : gw = x2) (ew3 : 0 ≤ gw ∧ gw ≤ 4) : zOBs (limit_0) (pos_0) (kind_0) (place_0) (value_0) (from_0) (fault_0) (faultPlace_0) (r_0) (tape_0) (all_0) (gy) (gu) (gw) := by
  first | (have el_x8 : x8 = x3 := by omega); subst el_x8 | skip
  first | (have el_x10 : x10 = x2 := by omega); subst el_x10 | skip
  first | subst ex2 | skip
  first | subst ey2 | skip
  first | subst eu2 | skip
  first | subst ew2 | skip
  exact (‹zOS2 _ _ _ _ _ _ _ _ _ _ _ _ _ _›).elim Or.inl (fun h => Or.inr ⟨by have := (rsq_0 h).1; omega, h⟩)
def o_Mo_item_at_k4_6 : or_T := (27, 14, [(0, (2, 0, 0, [165])), (1, (0, 0, 7, [])), (2, (0, 4, 4, [])), (3, (0, 0, 2000, [])), (6, (0, 0, 2000, [])), (7, (0, -1, -1, [])), (8, (0, 0, 2000, [])), (9, (0, 0, 2000, [])), (10, (0, 0, 4, [])), (11, (0, -1, 23, []))], [(23, [8, 3], [0, 1, -1]), (23, [8, 3], [0, -1, 1]), (23, [10, 2], [0, 1, -1]), (23, [10, 2], [0, -1, 1]), (20, [3, 6], [30, 0, 1, 0, 0, -1, 0, 0]), (20, [0, 0], [30, 0, 1, 1, 15, -1, 1, 11]), (20, [0], [50, 3, 0, 12, 11, 15, 2, 21, 4, 7, 1, 3, 2, 0, 12, 0, 1, 0, 3, 2, 0, 11, 4, 3, 2, 0, 15, 0, 8, 3, 7, 1, 3, 2, 0, 12, 0, 0, 0, 7, 4, 3, 2, 0, 15, 0, 1, 2, 0, 11]), (20, [8, 0], [30, 0, 1, 0, 0, -1, 1, 11]), (20, [0, 8], [50, 3, 0, 8, 12, 11, 3, 7, 0, 2, 0, 1, 2, 0, 8, 3, 7, 1, 3, 2, 0, 12, 0, 0, 0, 6, 4, 2, 1, 1, 0, 1, 2, 0, 11]), (20, [0, 9], [50, 2, 0, 8, 11, 3, 7, 0, 2, 0, 1, 2, 0, 8, 0, 6, 4, 2, 1, 1, 0, 1, 2, 0, 11]), (20, [0, 11], [31, 1, -1, -1, 1, 8, 0, -1, 0, 0]), (20, [0, 7], [50, 2, 1, 8, 5, 2, 3, 7, 0, 2, 0, 1, 2, 0, 8, 3, 6, 0, 2, 1, 1, 0, -1, 0, 10, 3, 0, 2, 4, 3, 2, 0, 5, 0, 1, 0, 47]), (20, [1, 0], [50, 1, 1, 1005, 1002, 0, 6, 4, 2, 1, 0, 0, 1, 3, 1, 2, 4, 3, 2, 1, 5, 0, 2]), (20, [0], [60, 1, 3, 199, 5, 2, 3, 4]), (20, [0, 7, 11], [60, 2, 1, 240, 5, 8, 2]), (20, [0, 11, 1, 10], [60, 9, 2, 1009, 10, 11, 12, 13, 14, 15, 8, 9, 5, 1, 2]), (102, [10], [187072209578355573530071658587684226515959365500928, 165008, 165009, 165011, 165012, 165013, 165014, 165015]), (23, [8, 3], [0, 1, -1]), (23, [8, 3], [0, -1, 1]), (23, [10, 2], [0, 1, -1]), (23, [10, 2], [0, -1, 1])], [], [(0, 0, 2000, []), (0, -1, 48, []), (0, 0, 7, []), (0, 0, 4, [])], [(23, [14, 3], [0, 1, -1]), (23, [14, 3], [0, -1, 1]), (23, [15, 11], [0, 1, -1]), (23, [15, 11], [0, -1, 1]), (23, [16, 1], [0, 1, -1]), (23, [16, 1], [0, -1, 1]), (23, [17, 2], [0, 1, -1]), (23, [17, 2], [0, -1, 1]), (20, [0, 0], [30, 0, 1, 1, 15, -1, 1, 11]), (20, [0], [50, 3, 0, 12, 11, 15, 2, 21, 4, 7, 1, 3, 2, 0, 12, 0, 1, 0, 3, 2, 0, 11, 4, 3, 2, 0, 15, 0, 8, 3, 7, 1, 3, 2, 0, 12, 0, 0, 0, 7, 4, 3, 2, 0, 15, 0, 1, 2, 0, 11]), (20, [14, 0], [30, 0, 1, 0, 0, -1, 1, 11]), (20, [0, 14], [50, 3, 0, 8, 12, 11, 3, 7, 0, 2, 0, 1, 2, 0, 8, 3, 7, 1, 3, 2, 0, 12, 0, 0, 0, 6, 4, 2, 1, 1, 0, 1, 2, 0, 11]), (20, [0, 15], [50, 1, 0, 8, 3, 7, 0, 2, 0, 1, 2, 0, 8, 0, 2, 0, 0, 1, 1]), (20, [0, 15, 16, 17], [60, 9, 2, 1015, 10, 11, 12, 13, 14, 15, 8, 9, 5, 1, 2])], [], [])
theorem oo_Mo_item_at_k4_6 {kA : Nat → ClassId} : or_ok PRD kA GG o_Mo_item_at_k4_6 := by
  refine or_mk fun A ta ws vs hD hth hl => ?_
  intro t0 r0 t1 k1 t2 k2 t3 k3 t6 k6 t7 k7 t8 k8 t9 k9 t10 k10 t11 k11 f0 f1 f2 f3 f4 f5 f6 f7 f8 f9 f10 f11 f12 f13 f14 f15 ta1 w1 le1 s1 f17 f18 f19 f20
  replace f0 := shm_7 f0
  replace f1 := shm_22 f1
  replace f2 := shm_7 f2
  replace f3 := shm_22 f3
  replace f4 := shm_201 f4
  replace f5 := shm_1437 f5
  replace f6 := shm_1438 f6
  replace f7 := shm_1431 f7
  replace f8 := shm_1722 f8
  replace f9 := shm_1726 f9
  replace f10 := shm_2117 f10
  replace f11 := shm_2118 f11
  replace f12 := shm_1009 f12
  replace f13 := shm_980 f13
  replace f14 := shm_2119 f14
  replace f15 := shm_2124 f15
  replace f17 := shm_7 f17
  replace f18 := shm_22 f18
  replace f19 := shm_7 f19
  replace f20 := shm_22 f20
  have cr_0_1 := fdq_39 hD hth r0
  have cr_0_3 := fdq_142 hD hth r0
  have cr_0_4 := fdq_143 hD hth r0
  have hK_0_1 := elq_7 hD hth cr_0_1
  have hK_0_3 := elq_80 hD hth cr_0_3
  have hK_0_4 := elq_81 hD hth cr_0_4
  have kz_0_8 := fdq_34 hD hth r0
  have kz_0_9 := fdq_44 hD hth r0
  have kz_0_10 := fdq_43 hD hth r0
  have kz_0_11 := fdq_237 hD hth r0
  have kz_0_12 := fdq_187 hD hth r0
  have kz_0_13 := fdq_238 hD hth r0
  have kz_0_14 := fdq_188 hD hth r0
  have kz_0_15 := fdq_239 hD hth r0
  obtain ⟨x, ex, hx⟩ := iv_ex (ta := ta) (lo := 0) (hi := 2000) (z := v_iv (n_v vs 3)) (by omega) (by omega) (by omega) (by omega)
  have ex2 : v_iv (Value.int x) = v_iv (n_v vs 3) := ex
  have ex3 : 0 ≤ v_iv (Value.int x) ∧ v_iv (Value.int x) ≤ 2000 := tv_rng hx
  obtain ⟨y, ey, hy⟩ := iv_ex (ta := ta) (lo := (-1)) (hi := 48) (z := v_iv (n_v vs 11)) (by omega) (by omega) (by omega) (by omega)
  have ey2 : v_iv (Value.int y) = v_iv (n_v vs 11) := ey
  have ey3 : (-1) ≤ v_iv (Value.int y) ∧ v_iv (Value.int y) ≤ 48 := tv_rng hy
  obtain ⟨u, eu, hu⟩ := iv_ex (ta := ta) (lo := 0) (hi := 7) (z := v_iv (n_v vs 1)) (by omega) (by omega) (by omega) (by omega)
  have eu2 : v_iv (Value.int u) = v_iv (n_v vs 1) := eu
  have eu3 : 0 ≤ v_iv (Value.int u) ∧ v_iv (Value.int u) ≤ 7 := tv_rng hu
  obtain ⟨w, ew, hw⟩ := iv_ex (ta := ta) (lo := 0) (hi := 4) (z := v_iv (n_v vs 2)) (by omega) (by omega) (by omega) (by omega)
  have ew2 : v_iv (Value.int w) = v_iv (n_v vs 2) := ew
  have ew3 : 0 ≤ v_iv (Value.int w) ∧ v_iv (Value.int w) ≤ 4 := tv_rng hw
  have e_0 : n_v (vs ++ [Value.int x, Value.int y, Value.int u, Value.int w]) 0 = n_v vs 0 := n_v_old (by rw [hl]; decide)
  have e_1 : n_v (vs ++ [Value.int x, Value.int y, Value.int u, Value.int w]) 1 = n_v vs 1 := n_v_old (by rw [hl]; decide)
  have e_2 : n_v (vs ++ [Value.int x, Value.int y, Value.int u, Value.int w]) 2 = n_v vs 2 := n_v_old (by rw [hl]; decide)
  have e_3 : n_v (vs ++ [Value.int x, Value.int y, Value.int u, Value.int w]) 3 = n_v vs 3 := n_v_old (by rw [hl]; decide)
  have e_11 : n_v (vs ++ [Value.int x, Value.int y, Value.int u, Value.int w]) 11 = n_v vs 11 := n_v_old (by rw [hl]; decide)
  have e_14 : n_v (vs ++ [Value.int x, Value.int y, Value.int u, Value.int w]) 14 = Value.int x := n_v_newk (k := 0) hl rfl
  have e_15 : n_v (vs ++ [Value.int x, Value.int y, Value.int u, Value.int w]) 15 = Value.int y := n_v_newk (k := 1) hl rfl
  have e_16 : n_v (vs ++ [Value.int x, Value.int y, Value.int u, Value.int w]) 16 = Value.int u := n_v_newk (k := 2) hl rfl
  have e_17 : n_v (vs ++ [Value.int x, Value.int y, Value.int u, Value.int w]) 17 = Value.int w := n_v_newk (k := 3) hl rfl
  have nf0 : fc_1 PRD (23, [14, 3], [0, 1, -1]) ws (vs ++ [Value.int x, Value.int y, Value.int u, Value.int w]) := by
    refine ⟨nf_inA hl rfl, sgq_7 ?_⟩
    · show 1 * v_iv (n_v (vs ++ [Value.int x, Value.int y, Value.int u, Value.int w]) 14) + ((-1) * v_iv (n_v (vs ++ [Value.int x, Value.int y, Value.int u, Value.int w]) 3) + 0) ≤ 0
      simp only [e_3, e_14]
      exact vc_Mo_item_at_k4_6_0 (v_iv (n_v vs 3)) (v_iv (n_v vs 8)) (w_fi ws (n_v vs 0) 5) (v_iv (Value.int x)) k3 k8 f0 f1 ex2
  have nf1 : fc_1 PRD (23, [14, 3], [0, -1, 1]) ws (vs ++ [Value.int x, Value.int y, Value.int u, Value.int w]) := by
    refine ⟨nf_inA hl rfl, sgq_22 ?_⟩
    · show (-1) * v_iv (n_v (vs ++ [Value.int x, Value.int y, Value.int u, Value.int w]) 14) + (1 * v_iv (n_v (vs ++ [Value.int x, Value.int y, Value.int u, Value.int w]) 3) + 0) ≤ 0
      simp only [e_3, e_14]
      exact vc_Mo_item_at_k4_6_1 (v_iv (n_v vs 3)) (v_iv (n_v vs 8)) (w_fi ws (n_v vs 0) 5) (v_iv (Value.int x)) k3 k8 f0 f1 ex2
  have nf2 : fc_1 PRD (23, [15, 11], [0, 1, -1]) ws (vs ++ [Value.int x, Value.int y, Value.int u, Value.int w]) := by
    refine ⟨nf_inA hl rfl, sgq_7 ?_⟩
    · show 1 * v_iv (n_v (vs ++ [Value.int x, Value.int y, Value.int u, Value.int w]) 15) + ((-1) * v_iv (n_v (vs ++ [Value.int x, Value.int y, Value.int u, Value.int w]) 11) + 0) ≤ 0
      simp only [e_11, e_15]
      exact vc_Mo_item_at_k4_6_2 (v_iv (n_v vs 11)) (w_fi ws (n_v vs 0) 5) (v_iv (Value.int y)) k11 ey2
  have nf3 : fc_1 PRD (23, [15, 11], [0, -1, 1]) ws (vs ++ [Value.int x, Value.int y, Value.int u, Value.int w]) := by
    refine ⟨nf_inA hl rfl, sgq_22 ?_⟩
    · show (-1) * v_iv (n_v (vs ++ [Value.int x, Value.int y, Value.int u, Value.int w]) 15) + (1 * v_iv (n_v (vs ++ [Value.int x, Value.int y, Value.int u, Value.int w]) 11) + 0) ≤ 0
      simp only [e_11, e_15]
      exact vc_Mo_item_at_k4_6_3 (v_iv (n_v vs 11)) (w_fi ws (n_v vs 0) 5) (v_iv (Value.int y)) k11 ey2
  have nf4 : fc_1 PRD (23, [16, 1], [0, 1, -1]) ws (vs ++ [Value.int x, Value.int y, Value.int u, Value.int w]) := by
    refine ⟨nf_inA hl rfl, sgq_7 ?_⟩
    · show 1 * v_iv (n_v (vs ++ [Value.int x, Value.int y, Value.int u, Value.int w]) 16) + ((-1) * v_iv (n_v (vs ++ [Value.int x, Value.int y, Value.int u, Value.int w]) 1) + 0) ≤ 0
      simp only [e_1, e_16]
      exact vc_Mo_item_at_k4_6_4 (v_iv (n_v vs 1)) (w_fi ws (n_v vs 0) 5) (v_iv (Value.int u)) k1 eu2
  have nf5 : fc_1 PRD (23, [16, 1], [0, -1, 1]) ws (vs ++ [Value.int x, Value.int y, Value.int u, Value.int w]) := by
    refine ⟨nf_inA hl rfl, sgq_22 ?_⟩
    · show (-1) * v_iv (n_v (vs ++ [Value.int x, Value.int y, Value.int u, Value.int w]) 16) + (1 * v_iv (n_v (vs ++ [Value.int x, Value.int y, Value.int u, Value.int w]) 1) + 0) ≤ 0
      simp only [e_1, e_16]
      exact vc_Mo_item_at_k4_6_5 (v_iv (n_v vs 1)) (w_fi ws (n_v vs 0) 5) (v_iv (Value.int u)) k1 eu2
  have nf6 : fc_1 PRD (23, [17, 2], [0, 1, -1]) ws (vs ++ [Value.int x, Value.int y, Value.int u, Value.int w]) := by
    refine ⟨nf_inA hl rfl, sgq_7 ?_⟩
    · show 1 * v_iv (n_v (vs ++ [Value.int x, Value.int y, Value.int u, Value.int w]) 17) + ((-1) * v_iv (n_v (vs ++ [Value.int x, Value.int y, Value.int u, Value.int w]) 2) + 0) ≤ 0
      simp only [e_2, e_17]
      exact vc_Mo_item_at_k4_6_6 (v_iv (n_v vs 2)) (w_fi ws (n_v vs 0) 5) (v_iv (Value.int w)) k2 ew2
  have nf7 : fc_1 PRD (23, [17, 2], [0, -1, 1]) ws (vs ++ [Value.int x, Value.int y, Value.int u, Value.int w]) := by
    refine ⟨nf_inA hl rfl, sgq_22 ?_⟩
    · show (-1) * v_iv (n_v (vs ++ [Value.int x, Value.int y, Value.int u, Value.int w]) 17) + (1 * v_iv (n_v (vs ++ [Value.int x, Value.int y, Value.int u, Value.int w]) 2) + 0) ≤ 0
      simp only [e_2, e_17]
      exact vc_Mo_item_at_k4_6_7 (v_iv (n_v vs 2)) (w_fi ws (n_v vs 0) 5) (v_iv (Value.int w)) k2 ew2
  have nf8 : fc_1 PRD (20, [0, 0], [30, 0, 1, 1, 15, -1, 1, 11]) ws (vs ++ [Value.int x, Value.int y, Value.int u, Value.int w]) := by
    refine ⟨nf_inA hl rfl, sgq_1437 ?_⟩
    · show 1 * w_fi ws (n_v (vs ++ [Value.int x, Value.int y, Value.int u, Value.int w]) 0) 15 + ((-1) * w_fi ws (n_v (vs ++ [Value.int x, Value.int y, Value.int u, Value.int w]) 0) 11 + 0) ≤ 0
      rw [e_0]
      exact vc_Mo_item_at_k4_6_8 (w_fi ws (n_v vs 0) 15) (w_fi ws (n_v vs 0) 11) (w_fi ws (n_v vs 0) 5) f5 kz_0_11 kz_0_15
  have nf9 : fc_1 PRD (20, [0], [50, 3, 0, 12, 11, 15, 2, 21, 4, 7, 1, 3, 2, 0, 12, 0, 1, 0, 3, 2, 0, 11, 4, 3, 2, 0, 15, 0, 8, 3, 7, 1, 3, 2, 0, 12, 0, 0, 0, 7, 4, 3, 2, 0, 15, 0, 1, 2, 0, 11]) ws (vs ++ [Value.int x, Value.int y, Value.int u, Value.int w]) := by
    refine ⟨nf_inA hl rfl, sgq_1438 ?_⟩
    · show ((w_fi ws (n_v (vs ++ [Value.int x, Value.int y, Value.int u, Value.int w]) 0) 12 = 1) → (w_fi ws (n_v (vs ++ [Value.int x, Value.int y, Value.int u, Value.int w]) 0) 11 ≤ (w_fi ws (n_v (vs ++ [Value.int x, Value.int y, Value.int u, Value.int w]) 0) 15 + 8))) ∧ ((w_fi ws (n_v (vs ++ [Value.int x, Value.int y, Value.int u, Value.int w]) 0) 12 = 0) ∨ ((w_fi ws (n_v (vs ++ [Value.int x, Value.int y, Value.int u, Value.int w]) 0) 15 + 1) ≤ w_fi ws (n_v (vs ++ [Value.int x, Value.int y, Value.int u, Value.int w]) 0) 11))
      rw [e_0]
      exact vc_Mo_item_at_k4_6_9 (v_iv (n_v vs 1)) (v_iv (n_v vs 2)) (v_iv (n_v vs 3)) (v_iv (n_v vs 6)) (v_iv (n_v vs 7)) (v_iv (n_v vs 8)) (v_iv (n_v vs 9)) (v_iv (n_v vs 10)) (v_iv (n_v vs 11)) (w_fi ws (n_v vs 0) 15) (w_fi ws (n_v vs 0) 11) (w_fi ws (n_v vs 0) 12) (w_fi ws (n_v vs 0) 8) (w_ei ws (w_ar ws (n_v vs 0) 2)) (w_fi ws (n_v vs 0) 5) (w_ei ws (w_ar ws (n_v vs 0) 3)) (w_ei ws (w_ar ws (n_v vs 0) 4)) (w_ei ws (w_ar ws (n_v vs 0) 1)) (w_fi ws (n_v vs 0) 10) (w_fi ws (n_v vs 0) 13) (w_fi ws (n_v vs 0) 14) (w_fi ws (n_v vs 0) 9) (v_iv (Value.int x)) (v_iv (Value.int y)) (v_iv (Value.int u)) (v_iv (Value.int w)) k1 k2 k3 k6 k7 k8 k9 k10 k11 f0 f1 f2 f3 f4 f5 f6 f7 f8 f9 f10 f11 f12 f13 f14 f15 f17 f18 f19 f20 hK_0_1 hK_0_3 hK_0_4 kz_0_8 kz_0_9 kz_0_10 kz_0_11 kz_0_12 kz_0_13 kz_0_14 kz_0_15 ex2 ex3 ey2 ey3 eu2 eu3 ew2 ew3
  have nf10 : fc_1 PRD (20, [14, 0], [30, 0, 1, 0, 0, -1, 1, 11]) ws (vs ++ [Value.int x, Value.int y, Value.int u, Value.int w]) := by
    refine ⟨nf_inA hl rfl, sgq_1431 ?_⟩
    · show 1 * v_iv (n_v (vs ++ [Value.int x, Value.int y, Value.int u, Value.int w]) 14) + ((-1) * w_fi ws (n_v (vs ++ [Value.int x, Value.int y, Value.int u, Value.int w]) 0) 11 + 0) ≤ 0
      simp only [e_0, e_14]
      exact vc_Mo_item_at_k4_6_10 (v_iv (n_v vs 1)) (v_iv (n_v vs 2)) (v_iv (n_v vs 3)) (v_iv (n_v vs 6)) (v_iv (n_v vs 7)) (v_iv (n_v vs 8)) (v_iv (n_v vs 9)) (v_iv (n_v vs 10)) (v_iv (n_v vs 11)) (w_fi ws (n_v vs 0) 15) (w_fi ws (n_v vs 0) 11) (w_fi ws (n_v vs 0) 12) (w_fi ws (n_v vs 0) 8) (w_ei ws (w_ar ws (n_v vs 0) 2)) (w_fi ws (n_v vs 0) 5) (w_ei ws (w_ar ws (n_v vs 0) 3)) (w_ei ws (w_ar ws (n_v vs 0) 4)) (w_ei ws (w_ar ws (n_v vs 0) 1)) (w_fi ws (n_v vs 0) 10) (w_fi ws (n_v vs 0) 13) (w_fi ws (n_v vs 0) 14) (w_fi ws (n_v vs 0) 9) (v_iv (Value.int x)) (v_iv (Value.int y)) (v_iv (Value.int u)) (v_iv (Value.int w)) k1 k2 k3 k6 k7 k8 k9 k10 k11 f0 f1 f2 f3 f4 f5 f6 f7 f8 f9 f10 f11 f12 f13 f14 f15 f17 f18 f19 f20 hK_0_1 hK_0_3 hK_0_4 kz_0_8 kz_0_9 kz_0_10 kz_0_11 kz_0_12 kz_0_13 kz_0_14 kz_0_15 ex2 ex3 ey2 ey3 eu2 eu3 ew2 ew3
  have nf11 : fc_1 PRD (20, [0, 14], [50, 3, 0, 8, 12, 11, 3, 7, 0, 2, 0, 1, 2, 0, 8, 3, 7, 1, 3, 2, 0, 12, 0, 0, 0, 6, 4, 2, 1, 1, 0, 1, 2, 0, 11]) ws (vs ++ [Value.int x, Value.int y, Value.int u, Value.int w]) := by
    refine ⟨nf_inA hl rfl, sgq_1722 ?_⟩
    · show (1 ≤ w_fi ws (n_v (vs ++ [Value.int x, Value.int y, Value.int u, Value.int w]) 0) 8) ∨ ((w_fi ws (n_v (vs ++ [Value.int x, Value.int y, Value.int u, Value.int w]) 0) 12 = 0) ∨ ((v_iv (n_v (vs ++ [Value.int x, Value.int y, Value.int u, Value.int w]) 14) + 1) ≤ w_fi ws (n_v (vs ++ [Value.int x, Value.int y, Value.int u, Value.int w]) 0) 11))
      simp only [e_0, e_14]
      exact vc_Mo_item_at_k4_6_11 (v_iv (n_v vs 1)) (v_iv (n_v vs 2)) (v_iv (n_v vs 3)) (v_iv (n_v vs 6)) (v_iv (n_v vs 7)) (v_iv (n_v vs 8)) (v_iv (n_v vs 9)) (v_iv (n_v vs 10)) (v_iv (n_v vs 11)) (w_fi ws (n_v vs 0) 15) (w_fi ws (n_v vs 0) 11) (w_fi ws (n_v vs 0) 12) (w_fi ws (n_v vs 0) 8) (w_ei ws (w_ar ws (n_v vs 0) 2)) (w_fi ws (n_v vs 0) 5) (w_ei ws (w_ar ws (n_v vs 0) 3)) (w_ei ws (w_ar ws (n_v vs 0) 4)) (w_ei ws (w_ar ws (n_v vs 0) 1)) (w_fi ws (n_v vs 0) 10) (w_fi ws (n_v vs 0) 13) (w_fi ws (n_v vs 0) 14) (w_fi ws (n_v vs 0) 9) (v_iv (Value.int x)) (v_iv (Value.int y)) (v_iv (Value.int u)) (v_iv (Value.int w)) k1 k2 k3 k6 k7 k8 k9 k10 k11 f0 f1 f2 f3 f4 f5 f6 f7 f8 f9 f10 f11 f12 f13 f14 f15 f17 f18 f19 f20 hK_0_1 hK_0_3 hK_0_4 kz_0_8 kz_0_9 kz_0_10 kz_0_11 kz_0_12 kz_0_13 kz_0_14 kz_0_15 ex2 ex3 ey2 ey3 eu2 eu3 ew2 ew3
  have nf12 : fc_1 PRD (20, [0, 15], [50, 1, 0, 8, 3, 7, 0, 2, 0, 1, 2, 0, 8, 0, 2, 0, 0, 1, 1]) ws (vs ++ [Value.int x, Value.int y, Value.int u, Value.int w]) := by
    refine ⟨nf_inA hl rfl, sgq_2000 ?_⟩
    · show (1 ≤ w_fi ws (n_v (vs ++ [Value.int x, Value.int y, Value.int u, Value.int w]) 0) 8) ∨ (0 ≤ v_iv (n_v (vs ++ [Value.int x, Value.int y, Value.int u, Value.int w]) 15))
      simp only [e_0, e_15]
      exact vc_Mo_item_at_k4_6_12 (v_iv (n_v vs 1)) (v_iv (n_v vs 2)) (v_iv (n_v vs 3)) (v_iv (n_v vs 6)) (v_iv (n_v vs 7)) (v_iv (n_v vs 8)) (v_iv (n_v vs 9)) (v_iv (n_v vs 10)) (v_iv (n_v vs 11)) (w_fi ws (n_v vs 0) 15) (w_fi ws (n_v vs 0) 11) (w_fi ws (n_v vs 0) 12) (w_fi ws (n_v vs 0) 8) (w_ei ws (w_ar ws (n_v vs 0) 2)) (w_fi ws (n_v vs 0) 5) (w_ei ws (w_ar ws (n_v vs 0) 3)) (w_ei ws (w_ar ws (n_v vs 0) 4)) (w_ei ws (w_ar ws (n_v vs 0) 1)) (w_fi ws (n_v vs 0) 10) (w_fi ws (n_v vs 0) 13) (w_fi ws (n_v vs 0) 14) (w_fi ws (n_v vs 0) 9) (v_iv (Value.int x)) (v_iv (Value.int y)) (v_iv (Value.int u)) (v_iv (Value.int w)) k1 k2 k3 k6 k7 k8 k9 k10 k11 f0 f1 f2 f3 f4 f5 f6 f7 f8 f9 f10 f11 f12 f13 f14 f15 f17 f18 f19 f20 hK_0_1 hK_0_3 hK_0_4 kz_0_8 kz_0_9 kz_0_10 kz_0_11 kz_0_12 kz_0_13 kz_0_14 kz_0_15 ex2 ex3 ey2 ey3 eu2 eu3 ew2 ew3
  have nf13 : fc_1 PRD (20, [0, 15, 16, 17], [60, 9, 2, 1015, 10, 11, 12, 13, 14, 15, 8, 9, 5, 1, 2]) ws (vs ++ [Value.int x, Value.int y, Value.int u, Value.int w]) := by
    refine ⟨nf_inA hl rfl, sgq_2001 ?_⟩
    · show zOBs (w_fi ws (n_v (vs ++ [Value.int x, Value.int y, Value.int u, Value.int w]) 0) 10) (w_fi ws (n_v (vs ++ [Value.int x, Value.int y, Value.int u, Value.int w]) 0) 11) (w_fi ws (n_v (vs ++ [Value.int x, Value.int y, Value.int u, Value.int w]) 0) 12) (w_fi ws (n_v (vs ++ [Value.int x, Value.int y, Value.int u, Value.int w]) 0) 13) (w_fi ws (n_v (vs ++ [Value.int x, Value.int y, Value.int u, Value.int w]) 0) 14) (w_fi ws (n_v (vs ++ [Value.int x, Value.int y, Value.int u, Value.int w]) 0) 15) (w_fi ws (n_v (vs ++ [Value.int x, Value.int y, Value.int u, Value.int w]) 0) 8) (w_fi ws (n_v (vs ++ [Value.int x, Value.int y, Value.int u, Value.int w]) 0) 9) (w_fi ws (n_v (vs ++ [Value.int x, Value.int y, Value.int u, Value.int w]) 0) 5) (w_ei ws (w_ar ws (n_v (vs ++ [Value.int x, Value.int y, Value.int u, Value.int w]) 0) 1)) (w_ei ws (w_ar ws (n_v (vs ++ [Value.int x, Value.int y, Value.int u, Value.int w]) 0) 2)) (v_iv (n_v (vs ++ [Value.int x, Value.int y, Value.int u, Value.int w]) 15)) (v_iv (n_v (vs ++ [Value.int x, Value.int y, Value.int u, Value.int w]) 16)) (v_iv (n_v (vs ++ [Value.int x, Value.int y, Value.int u, Value.int w]) 17))
      simp only [e_0, e_15, e_16, e_17]
      exact vc_Mo_item_at_k4_6_13 (v_iv (n_v vs 1)) (v_iv (n_v vs 2)) (v_iv (n_v vs 3)) (v_iv (n_v vs 6)) (v_iv (n_v vs 7)) (v_iv (n_v vs 8)) (v_iv (n_v vs 9)) (v_iv (n_v vs 10)) (v_iv (n_v vs 11)) (w_fi ws (n_v vs 0) 15) (w_fi ws (n_v vs 0) 11) (w_fi ws (n_v vs 0) 12) (w_fi ws (n_v vs 0) 8) (w_ei ws (w_ar ws (n_v vs 0) 2)) (w_fi ws (n_v vs 0) 5) (w_ei ws (w_ar ws (n_v vs 0) 3)) (w_ei ws (w_ar ws (n_v vs 0) 4)) (w_ei ws (w_ar ws (n_v vs 0) 1)) (w_fi ws (n_v vs 0) 10) (w_fi ws (n_v vs 0) 13) (w_fi ws (n_v vs 0) 14) (w_fi ws (n_v vs 0) 9) (v_iv (Value.int x)) (v_iv (Value.int y)) (v_iv (Value.int u)) (v_iv (Value.int w)) k1 k2 k3 k6 k7 k8 k9 k10 k11 f0 f1 f2 f3 f4 f5 f6 f7 f8 f9 f10 f11 f12 f13 f14 f15 f17 f18 f19 f20 hK_0_1 hK_0_3 hK_0_4 kz_0_8 kz_0_9 kz_0_10 kz_0_11 kz_0_12 kz_0_13 kz_0_14 kz_0_15 ex2 ex3 ey2 ey3 eu2 eu3 ew2 ew3
  exact ⟨(fun _ h => (by cases h)), [Value.int x, Value.int y, Value.int u, Value.int w], ag_four hx hy hu hw, List.forall_mem_cons.mpr ⟨⟨show (23 : Nat) < 100 from by decide, nf0⟩, List.forall_mem_cons.mpr ⟨⟨show (23 : Nat) < 100 from by decide, nf1⟩, List.forall_mem_cons.mpr ⟨⟨show (23 : Nat) < 100 from by decide, nf2⟩, List.forall_mem_cons.mpr ⟨⟨show (23 : Nat) < 100 from by decide, nf3⟩, List.forall_mem_cons.mpr ⟨⟨show (23 : Nat) < 100 from by decide, nf4⟩, List.forall_mem_cons.mpr ⟨⟨show (23 : Nat) < 100 from by decide, nf5⟩, List.forall_mem_cons.mpr ⟨⟨show (23 : Nat) < 100 from by decide, nf6⟩, List.forall_mem_cons.mpr ⟨⟨show (23 : Nat) < 100 from by decide, nf7⟩, List.forall_mem_cons.mpr ⟨⟨show (20 : Nat) < 100 from by decide, nf8⟩, List.forall_mem_cons.mpr ⟨⟨show (20 : Nat) < 100 from by decide, nf9⟩, List.forall_mem_cons.mpr ⟨⟨show (20 : Nat) < 100 from by decide, nf10⟩, List.forall_mem_cons.mpr ⟨⟨show (20 : Nat) < 100 from by decide, nf11⟩, List.forall_mem_cons.mpr ⟨⟨show (20 : Nat) < 100 from by decide, nf12⟩, List.forall_mem_cons.mpr ⟨⟨show (20 : Nat) < 100 from by decide, nf13⟩, (fun _ h => (by cases h))⟩⟩⟩⟩⟩⟩⟩⟩⟩⟩⟩⟩⟩⟩, (fun _ h => (by cases h))⟩
set_option maxHeartbeats 4000000 in
theorem vc_Mo_item_at_k4_7_0 (x3 : Int) (x14 : Int) (r_0 : Int) (gx : Int) (k3 : 0 ≤ x3 ∧ x3 ≤ 2000) (k14 : 0 ≤ x14 ∧ x14 ≤ 2000) (f2 : 1 * x14 + ((-1) * x3 + 0) ≤ 0) (f3 : (-1) * x14 + (1 * x3 + 0) ≤ 0) (ex2 : gx = x3) : 1 * gx + ((-1) * x3 + 0) ≤ 0 := by
  first
    | omega
    | (have q1 := (hE_0_2_1 (r_0 + 2) (by omega)).2 (by omega)
       have q2 := (hE_0_2_2 (r_0 + 2) (by omega)).2 (by omega)
       omega)
    | (have q1 := (hE_0_2_1 (r_0 + 1) (by omega)).2 (by omega)
       have q2 := (hE_0_2_2 (r_0 + 1) (by omega)).2 (by omega)
       omega)
    | (have q1 := (hE_0_2_1 (r_0 + 2) (by omega)).2 (by omega)
       omega)
    | (have q1 := (hE_0_2_1 (r_0 + 1) (by omega)).2 (by omega)
       omega)
    | (have q1 := (hE_0_2_1 (r_0 + 2) (by omega)).2 (by omega)
       have q2 := (hE_0_2_2 (r_0 + 2) (by omega)).2 (by omega)
       have q3 := (hE_0_2_3 (r_0 + 2) (by omega)).1 (by omega)
       omega)
    | (have q1 := (hE_0_2_1 (r_0 + 2) (by omega)).2 (by omega)
       have q2 := (hE_0_2_2 (r_0 + 2) (by omega)).2 (by omega)
       have q3 := (hE_0_2_3 (r_0 + 2) (by omega)).2 (by omega)
       omega)
set_option maxHeartbeats 4000000 in
theorem vc_Mo_item_at_k4_7_1 (x3 : Int) (x14 : Int) (r_0 : Int) (gx : Int) (k3 : 0 ≤ x3 ∧ x3 ≤ 2000) (k14 : 0 ≤ x14 ∧ x14 ≤ 2000) (f2 : 1 * x14 + ((-1) * x3 + 0) ≤ 0) (f3 : (-1) * x14 + (1 * x3 + 0) ≤ 0) (ex2 : gx = x3) : (-1) * gx + (1 * x3 + 0) ≤ 0 := by
  first
    | omega
    | (have q1 := (hE_0_2_1 (r_0 + 2) (by omega)).2 (by omega)
       have q2 := (hE_0_2_2 (r_0 + 2) (by omega)).2 (by omega)
       omega)
    | (have q1 := (hE_0_2_1 (r_0 + 1) (by omega)).2 (by omega)
       have q2 := (hE_0_2_2 (r_0 + 1) (by omega)).2 (by omega)
       omega)
    | (have q1 := (hE_0_2_1 (r_0 + 2) (by omega)).2 (by omega)
       omega)
    | (have q1 := (hE_0_2_1 (r_0 + 1) (by omega)).2 (by omega)
       omega)
    | (have q1 := (hE_0_2_1 (r_0 + 2) (by omega)).2 (by omega)
       have q2 := (hE_0_2_2 (r_0 + 2) (by omega)).2 (by omega)
       have q3 := (hE_0_2_3 (r_0 + 2) (by omega)).1 (by omega)
       omega)
    | (have q1 := (hE_0_2_1 (r_0 + 2) (by omega)).2 (by omega)
       have q2 := (hE_0_2_2 (r_0 + 2) (by omega)).2 (by omega)
       have q3 := (hE_0_2_3 (r_0 + 2) (by omega)).2 (by omega)
       omega)
set_option maxHeartbeats 4000000 in
theorem vc_Mo_item_at_k4_7_2 (x1 : Int) (x16 : Int) (r_0 : Int) (gy : Int) (k1 : 0 ≤ x1 ∧ x1 ≤ 7) (k16 : 0 ≤ x16 ∧ x16 ≤ 7) (f6 : 1 * x16 + ((-1) * x1 + 0) ≤ 0) (f7 : (-1) * x16 + (1 * x1 + 0) ≤ 0) (ey2 : gy = x1) : 1 * gy + ((-1) * x1 + 0) ≤ 0 := by
  first
    | omega
    | (have q1 := (hE_0_2_1 (r_0 + 2) (by omega)).2 (by omega)
       have q2 := (hE_0_2_2 (r_0 + 2) (by omega)).2 (by omega)
       omega)
    | (have q1 := (hE_0_2_1 (r_0 + 1) (by omega)).2 (by omega)
       have q2 := (hE_0_2_2 (r_0 + 1) (by omega)).2 (by omega)
       omega)
    | (have q1 := (hE_0_2_1 (r_0 + 2) (by omega)).2 (by omega)
       omega)
    | (have q1 := (hE_0_2_1 (r_0 + 1) (by omega)).2 (by omega)
       omega)
    | (have q1 := (hE_0_2_1 (r_0 + 2) (by omega)).2 (by omega)
       have q2 := (hE_0_2_2 (r_0 + 2) (by omega)).2 (by omega)
       have q3 := (hE_0_2_3 (r_0 + 2) (by omega)).1 (by omega)
       omega)
    | (have q1 := (hE_0_2_1 (r_0 + 2) (by omega)).2 (by omega)
       have q2 := (hE_0_2_2 (r_0 + 2) (by omega)).2 (by omega)
       have q3 := (hE_0_2_3 (r_0 + 2) (by omega)).2 (by omega)
       omega)
set_option maxHeartbeats 4000000 in
theorem vc_Mo_item_at_k4_7_3 (x1 : Int) (x16 : Int) (r_0 : Int) (gy : Int) (k1 : 0 ≤ x1 ∧ x1 ≤ 7) (k16 : 0 ≤ x16 ∧ x16 ≤ 7) (f6 : 1 * x16 + ((-1) * x1 + 0) ≤ 0) (f7 : (-1) * x16 + (1 * x1 + 0) ≤ 0) (ey2 : gy = x1) : (-1) * gy + (1 * x1 + 0) ≤ 0 := by
  first
    | omega
    | (have q1 := (hE_0_2_1 (r_0 + 2) (by omega)).2 (by omega)
       have q2 := (hE_0_2_2 (r_0 + 2) (by omega)).2 (by omega)
       omega)
    | (have q1 := (hE_0_2_1 (r_0 + 1) (by omega)).2 (by omega)
       have q2 := (hE_0_2_2 (r_0 + 1) (by omega)).2 (by omega)
       omega)
    | (have q1 := (hE_0_2_1 (r_0 + 2) (by omega)).2 (by omega)
       omega)
    | (have q1 := (hE_0_2_1 (r_0 + 1) (by omega)).2 (by omega)
       omega)
    | (have q1 := (hE_0_2_1 (r_0 + 2) (by omega)).2 (by omega)
       have q2 := (hE_0_2_2 (r_0 + 2) (by omega)).2 (by omega)
       have q3 := (hE_0_2_3 (r_0 + 2) (by omega)).1 (by omega)
       omega)
    | (have q1 := (hE_0_2_1 (r_0 + 2) (by omega)).2 (by omega)
       have q2 := (hE_0_2_2 (r_0 + 2) (by omega)).2 (by omega)
       have q3 := (hE_0_2_3 (r_0 + 2) (by omega)).2 (by omega)
       omega)
set_option maxHeartbeats 4000000 in
theorem vc_Mo_item_at_k4_7_4 (x2 : Int) (r_0 : Int) (gu : Int) (k2 : 4 ≤ x2 ∧ x2 ≤ 4) (eu2 : gu = x2) : 1 * gu + ((-1) * x2 + 0) ≤ 0 := by
  first
    | omega
    | (have q1 := (hE_0_2_1 (r_0 + 2) (by omega)).2 (by omega)
       have q2 := (hE_0_2_2 (r_0 + 2) (by omega)).2 (by omega)
       omega)
    | (have q1 := (hE_0_2_1 (r_0 + 1) (by omega)).2 (by omega)
       have q2 := (hE_0_2_2 (r_0 + 1) (by omega)).2 (by omega)
       omega)
    | (have q1 := (hE_0_2_1 (r_0 + 2) (by omega)).2 (by omega)
       omega)
    | (have q1 := (hE_0_2_1 (r_0 + 1) (by omega)).2 (by omega)
       omega)
    | (have q1 := (hE_0_2_1 (r_0 + 2) (by omega)).2 (by omega)
       have q2 := (hE_0_2_2 (r_0 + 2) (by omega)).2 (by omega)
       have q3 := (hE_0_2_3 (r_0 + 2) (by omega)).1 (by omega)
       omega)
    | (have q1 := (hE_0_2_1 (r_0 + 2) (by omega)).2 (by omega)
       have q2 := (hE_0_2_2 (r_0 + 2) (by omega)).2 (by omega)
       have q3 := (hE_0_2_3 (r_0 + 2) (by omega)).2 (by omega)
       omega)
set_option maxHeartbeats 4000000 in
theorem vc_Mo_item_at_k4_7_5 (x2 : Int) (r_0 : Int) (gu : Int) (k2 : 4 ≤ x2 ∧ x2 ≤ 4) (eu2 : gu = x2) : (-1) * gu + (1 * x2 + 0) ≤ 0 := by
  first
    | omega
    | (have q1 := (hE_0_2_1 (r_0 + 2) (by omega)).2 (by omega)
       have q2 := (hE_0_2_2 (r_0 + 2) (by omega)).2 (by omega)
       omega)
    | (have q1 := (hE_0_2_1 (r_0 + 1) (by omega)).2 (by omega)
       have q2 := (hE_0_2_2 (r_0 + 1) (by omega)).2 (by omega)
       omega)
    | (have q1 := (hE_0_2_1 (r_0 + 2) (by omega)).2 (by omega)
       omega)
    | (have q1 := (hE_0_2_1 (r_0 + 1) (by omega)).2 (by omega)
       omega)
    | (have q1 := (hE_0_2_1 (r_0 + 2) (by omega)).2 (by omega)
       have q2 := (hE_0_2_2 (r_0 + 2) (by omega)).2 (by omega)
       have q3 := (hE_0_2_3 (r_0 + 2) (by omega)).1 (by omega)
       omega)
    | (have q1 := (hE_0_2_1 (r_0 + 2) (by omega)).2 (by omega)
       have q2 := (hE_0_2_2 (r_0 + 2) (by omega)).2 (by omega)
       have q3 := (hE_0_2_3 (r_0 + 2) (by omega)).2 (by omega)
       omega)
set_option maxHeartbeats 4000000 in
theorem vc_Mo_item_at_k4_7_6 (x1 : Int) (x2 : Int) (x3 : Int) (x6 : Int) (x8 : Int) (x10 : Int) (x11 : Int) (x13 : Int) (x14 : Int) (x15 : Int) (x16 : Int) (x17 : Int) (x18 : Int) (x19 : Int) (fault_0 : Int) (all_0 : Int → Int) (r_0 : Int) (now_0 : Int → Int) (latest_0 : Int → Int) (from_0 : Int) (pos_0 : Int) (kind_0 : Int) (tape_0 : Int → Int) (limit_0 : Int) (place_0 : Int) (value_0 : Int) (faultPlace_0 : Int) (gx : Int) (gy : Int) (gu : Int) (k1 : 0 ≤ x1 ∧ x1 ≤ 7) (k2 : 4 ≤ x2 ∧ x2 ≤ 4) (k3 : 0 ≤ x3 ∧ x3 ≤ 2000) (k6 : 0 ≤ x6 ∧ x6 ≤ 2000) (k8 : 0 ≤ x8 ∧ x8 ≤ 2000) (k10 : 0 ≤ x10 ∧ x10 ≤ 4) (k11 : (-1) ≤ x11 ∧ x11 ≤ 23) (k13 : 99 ≤ x13 ∧ x13 ≤ 99) (k14 : 0 ≤ x14 ∧ x14 ≤ 2000) (k15 : (-1) ≤ x15 ∧ x15 ≤ 48) (k16 : 0 ≤ x16 ∧ x16 ≤ 7) (k17 : 0 ≤ x17 ∧ x17 ≤ 4) (k18 : (-49) ≤ x18 ∧ x18 ≤ 1048575) (k19 : 1 ≤ x19 ∧ x19 ≤ 5) (f0 : x19 ≠ 0) (g1 : x19 = fault_0) (f2 : 1 * x14 + ((-1) * x3 + 0) ≤ 0) (f3 : (-1) * x14 + (1 * x3 + 0) ≤ 0) (f4 : 1 * x15 + ((-1) * x11 + 0) ≤ 0) (f5 : (-1) * x15 + (1 * x11 + 0) ≤ 0) (f6 : 1 * x16 + ((-1) * x1 + 0) ≤ 0) (f7 : (-1) * x16 + (1 * x1 + 0) ≤ 0) (f8 : 1 * x17 + ((-1) * x2 + 0) ≤ 0) (f9 : (-1) * x17 + (1 * x2 + 0) ≤ 0) (f10 : 1 * x8 + ((-1) * x3 + 0) ≤ 0) (f11 : (-1) * x8 + (1 * x3 + 0) ≤ 0) (f12 : 1 * x10 + ((-1) * x2 + 0) ≤ 0) (f13 : (-1) * x10 + (1 * x2 + 0) ≤ 0) (f14 : 1 * x3 + ((-1) * x6 + 0) ≤ 0) (f15 : (x1 + 1) ≤ all_0 ((r_0 + 2))) (f16 : RWS (r_0) (all_0) (now_0) (latest_0)) (f17 : 1 * from_0 + ((-1) * pos_0 + 0) ≤ 0) (f18 : ((kind_0 = 1) → (pos_0 ≤ (from_0 + 8))) ∧ ((kind_0 = 0) ∨ ((from_0 + 1) ≤ pos_0))) (f19 : 1 * x14 + ((-1) * pos_0 + 0) ≤ 0) (f20 : (1 ≤ fault_0) ∨ ((kind_0 = 0) ∨ ((x14 + 1) ≤ pos_0))) (f21 : (1 ≤ fault_0) ∨ (0 ≤ x15)) (f22 : 1 * x18 + ((-1) * x13 + 0) ≤ 0) (f23 : (-1) * x18 + 0 ≤ 0) (f24 : zOFs (limit_0) (pos_0) (kind_0) (place_0) (value_0) (from_0) (fault_0) (faultPlace_0) (r_0) (tape_0) (all_0) (x15) (x18) (x16) (x17)) (f26 : 1 * x14 + ((-1) * x3 + 0) ≤ 0) (f27 : (-1) * x14 + (1 * x3 + 0) ≤ 0) (f28 : 1 * x15 + ((-1) * x11 + 0) ≤ 0) (f29 : (-1) * x15 + (1 * x11 + 0) ≤ 0) (f30 : 1 * x16 + ((-1) * x1 + 0) ≤ 0) (f31 : (-1) * x16 + (1 * x1 + 0) ≤ 0) (f32 : 1 * x17 + ((-1) * x2 + 0) ≤ 0) (f33 : (-1) * x17 + (1 * x2 + 0) ≤ 0) (f34 : 1 * x8 + ((-1) * x3 + 0) ≤ 0) (f35 : (-1) * x8 + (1 * x3 + 0) ≤ 0) (f36 : 1 * x10 + ((-1) * x2 + 0) ≤ 0) (f37 : (-1) * x10 + (1 * x2 + 0) ≤ 0) (f39 : 1 * x8 + ((-1) * x3 + 0) ≤ 0) (f40 : (-1) * x8 + (1 * x3 + 0) ≤ 0) (f41 : 1 * x10 + ((-1) * x2 + 0) ≤ 0) (f42 : (-1) * x10 + (1 * x2 + 0) ≤ 0) (hK_0_1 : ∀ j : Int, 0 ≤ j → j < 2000 → (-128) ≤ tape_0 j ∧ tape_0 j ≤ 127) (hK_0_3 : ∀ j : Int, 0 ≤ j → j < 4 → 0 ≤ now_0 j ∧ now_0 j ≤ 30) (hK_0_4 : ∀ j : Int, 0 ≤ j → j < 4 → 0 ≤ latest_0 j ∧ latest_0 j ≤ 30) (kz_0_8 : 0 ≤ fault_0 ∧ fault_0 ≤ 5) (kz_0_9 : 0 ≤ faultPlace_0 ∧ faultPlace_0 ≤ 2000) (kz_0_10 : 0 ≤ limit_0 ∧ limit_0 ≤ 2000) (kz_0_11 : 0 ≤ pos_0 ∧ pos_0 ≤ 2000) (kz_0_12 : 0 ≤ kind_0 ∧ kind_0 ≤ 4) (kz_0_13 : 0 ≤ place_0 ∧ place_0 ≤ 2000) (kz_0_14 : (-49) ≤ value_0 ∧ value_0 ≤ 1048575) (kz_0_15 : 0 ≤ from_0 ∧ from_0 ≤ 2000) (ex2 : gx = x3) (ex3 : 0 ≤ gx ∧ gx ≤ 2000) (ey2 : gy = x1) (ey3 : 0 ≤ gy ∧ gy ≤ 7) (eu2 : gu = x2) (eu3 : 0 ≤ gu ∧ gu ≤ 4) : 1 * from_0 + ((-1) * pos_0 + 0) ≤ 0 := by
  first
    | omega
    | (have q1 := (hE_0_2_1 (r_0 + 2) (by omega)).2 (by omega)
       have q2 := (hE_0_2_2 (r_0 + 2) (by omega)).2 (by omega)
       omega)
    | (have q1 := (hE_0_2_1 (r_0 + 1) (by omega)).2 (by omega)
       have q2 := (hE_0_2_2 (r_0 + 1) (by omega)).2 (by omega)
       omega)
    | (have q1 := (hE_0_2_1 (r_0 + 2) (by omega)).2 (by omega)
       omega)
    | (have q1 := (hE_0_2_1 (r_0 + 1) (by omega)).2 (by omega)
       omega)
    | (have q1 := (hE_0_2_1 (r_0 + 2) (by omega)).2 (by omega)
       have q2 := (hE_0_2_2 (r_0 + 2) (by omega)).2 (by omega)
       have q3 := (hE_0_2_3 (r_0 + 2) (by omega)).1 (by omega)
       omega)
    | (have q1 := (hE_0_2_1 (r_0 + 2) (by omega)).2 (by omega)
       have q2 := (hE_0_2_2 (r_0 + 2) (by omega)).2 (by omega)
       have q3 := (hE_0_2_3 (r_0 + 2) (by omega)).2 (by omega)
       omega)
set_option maxHeartbeats 4000000 in
theorem vc_Mo_item_at_k4_7_7 (x1 : Int) (x2 : Int) (x3 : Int) (x6 : Int) (x8 : Int) (x10 : Int) (x11 : Int) (x13 : Int) (x14 : Int) (x15 : Int) (x16 : Int) (x17 : Int) (x18 : Int) (x19 : Int) (fault_0 : Int) (all_0 : Int → Int) (r_0 : Int) (now_0 : Int → Int) (latest_0 : Int → Int) (from_0 : Int) (pos_0 : Int) (kind_0 : Int) (tape_0 : Int → Int) (limit_0 : Int) (place_0 : Int) (value_0 : Int) (faultPlace_0 : Int) (gx : Int) (gy : Int) (gu : Int) (k1 : 0 ≤ x1 ∧ x1 ≤ 7) (k2 : 4 ≤ x2 ∧ x2 ≤ 4) (k3 : 0 ≤ x3 ∧ x3 ≤ 2000) (k6 : 0 ≤ x6 ∧ x6 ≤ 2000) (k8 : 0 ≤ x8 ∧ x8 ≤ 2000) (k10 : 0 ≤ x10 ∧ x10 ≤ 4) (k11 : (-1) ≤ x11 ∧ x11 ≤ 23) (k13 : 99 ≤ x13 ∧ x13 ≤ 99) (k14 : 0 ≤ x14 ∧ x14 ≤ 2000) (k15 : (-1) ≤ x15 ∧ x15 ≤ 48) (k16 : 0 ≤ x16 ∧ x16 ≤ 7) (k17 : 0 ≤ x17 ∧ x17 ≤ 4) (k18 : (-49) ≤ x18 ∧ x18 ≤ 1048575) (k19 : 1 ≤ x19 ∧ x19 ≤ 5) (f0 : x19 ≠ 0) (g1 : x19 = fault_0) (f2 : 1 * x14 + ((-1) * x3 + 0) ≤ 0) (f3 : (-1) * x14 + (1 * x3 + 0) ≤ 0) (f4 : 1 * x15 + ((-1) * x11 + 0) ≤ 0) (f5 : (-1) * x15 + (1 * x11 + 0) ≤ 0) (f6 : 1 * x16 + ((-1) * x1 + 0) ≤ 0) (f7 : (-1) * x16 + (1 * x1 + 0) ≤ 0) (f8 : 1 * x17 + ((-1) * x2 + 0) ≤ 0) (f9 : (-1) * x17 + (1 * x2 + 0) ≤ 0) (f10 : 1 * x8 + ((-1) * x3 + 0) ≤ 0) (f11 : (-1) * x8 + (1 * x3 + 0) ≤ 0) (f12 : 1 * x10 + ((-1) * x2 + 0) ≤ 0) (f13 : (-1) * x10 + (1 * x2 + 0) ≤ 0) (f14 : 1 * x3 + ((-1) * x6 + 0) ≤ 0) (f15 : (x1 + 1) ≤ all_0 ((r_0 + 2))) (f16 : RWS (r_0) (all_0) (now_0) (latest_0)) (f17 : 1 * from_0 + ((-1) * pos_0 + 0) ≤ 0) (f18 : ((kind_0 = 1) → (pos_0 ≤ (from_0 + 8))) ∧ ((kind_0 = 0) ∨ ((from_0 + 1) ≤ pos_0))) (f19 : 1 * x14 + ((-1) * pos_0 + 0) ≤ 0) (f20 : (1 ≤ fault_0) ∨ ((kind_0 = 0) ∨ ((x14 + 1) ≤ pos_0))) (f21 : (1 ≤ fault_0) ∨ (0 ≤ x15)) (f22 : 1 * x18 + ((-1) * x13 + 0) ≤ 0) (f23 : (-1) * x18 + 0 ≤ 0) (f24 : zOFs (limit_0) (pos_0) (kind_0) (place_0) (value_0) (from_0) (fault_0) (faultPlace_0) (r_0) (tape_0) (all_0) (x15) (x18) (x16) (x17)) (f26 : 1 * x14 + ((-1) * x3 + 0) ≤ 0) (f27 : (-1) * x14 + (1 * x3 + 0) ≤ 0) (f28 : 1 * x15 + ((-1) * x11 + 0) ≤ 0) (f29 : (-1) * x15 + (1 * x11 + 0) ≤ 0) (f30 : 1 * x16 + ((-1) * x1 + 0) ≤ 0) (f31 : (-1) * x16 + (1 * x1 + 0) ≤ 0) (f32 : 1 * x17 + ((-1) * x2 + 0) ≤ 0) (f33 : (-1) * x17 + (1 * x2 + 0) ≤ 0) (f34 : 1 * x8 + ((-1) * x3 + 0) ≤ 0) (f35 : (-1) * x8 + (1 * x3 + 0) ≤ 0) (f36 : 1 * x10 + ((-1) * x2 + 0) ≤ 0) (f37 : (-1) * x10 + (1 * x2 + 0) ≤ 0) (f39 : 1 * x8 + ((-1) * x3 + 0) ≤ 0) (f40 : (-1) * x8 + (1 * x3 + 0) ≤ 0) (f41 : 1 * x10 + ((-1) * x2 + 0) ≤ 0) (f42 : (-1) * x10 + (1 * x2 + 0) ≤ 0) (hK_0_1 : ∀ j : Int, 0 ≤ j → j < 2000 → (-128) ≤ tape_0 j ∧ tape_0 j ≤ 127) (hK_0_3 : ∀ j : Int, 0 ≤ j → j < 4 → 0 ≤ now_0 j ∧ now_0 j ≤ 30) (hK_0_4 : ∀ j : Int, 0 ≤ j → j < 4 → 0 ≤ latest_0 j ∧ latest_0 j ≤ 30) (kz_0_8 : 0 ≤ fault_0 ∧ fault_0 ≤ 5) (kz_0_9 : 0 ≤ faultPlace_0 ∧ faultPlace_0 ≤ 2000) (kz_0_10 : 0 ≤ limit_0 ∧ limit_0 ≤ 2000) (kz_0_11 : 0 ≤ pos_0 ∧ pos_0 ≤ 2000) (kz_0_12 : 0 ≤ kind_0 ∧ kind_0 ≤ 4) (kz_0_13 : 0 ≤ place_0 ∧ place_0 ≤ 2000) (kz_0_14 : (-49) ≤ value_0 ∧ value_0 ≤ 1048575) (kz_0_15 : 0 ≤ from_0 ∧ from_0 ≤ 2000) (ex2 : gx = x3) (ex3 : 0 ≤ gx ∧ gx ≤ 2000) (ey2 : gy = x1) (ey3 : 0 ≤ gy ∧ gy ≤ 7) (eu2 : gu = x2) (eu3 : 0 ≤ gu ∧ gu ≤ 4) : ((kind_0 = 1) → (pos_0 ≤ (from_0 + 8))) ∧ ((kind_0 = 0) ∨ ((from_0 + 1) ≤ pos_0)) := by
  first
    | omega
    | (have q1 := (hE_0_2_1 (r_0 + 2) (by omega)).2 (by omega)
       have q2 := (hE_0_2_2 (r_0 + 2) (by omega)).2 (by omega)
       omega)
    | (have q1 := (hE_0_2_1 (r_0 + 1) (by omega)).2 (by omega)
       have q2 := (hE_0_2_2 (r_0 + 1) (by omega)).2 (by omega)
       omega)
    | (have q1 := (hE_0_2_1 (r_0 + 2) (by omega)).2 (by omega)
       omega)
    | (have q1 := (hE_0_2_1 (r_0 + 1) (by omega)).2 (by omega)
       omega)
    | (have q1 := (hE_0_2_1 (r_0 + 2) (by omega)).2 (by omega)
       have q2 := (hE_0_2_2 (r_0 + 2) (by omega)).2 (by omega)
       have q3 := (hE_0_2_3 (r_0 + 2) (by omega)).1 (by omega)
       omega)
    | (have q1 := (hE_0_2_1 (r_0 + 2) (by omega)).2 (by omega)
       have q2 := (hE_0_2_2 (r_0 + 2) (by omega)).2 (by omega)
       have q3 := (hE_0_2_3 (r_0 + 2) (by omega)).2 (by omega)
       omega)
set_option maxHeartbeats 4000000 in
theorem vc_Mo_item_at_k4_7_8 (x1 : Int) (x2 : Int) (x3 : Int) (x6 : Int) (x8 : Int) (x10 : Int) (x11 : Int) (x13 : Int) (x14 : Int) (x15 : Int) (x16 : Int) (x17 : Int) (x18 : Int) (x19 : Int) (fault_0 : Int) (all_0 : Int → Int) (r_0 : Int) (now_0 : Int → Int) (latest_0 : Int → Int) (from_0 : Int) (pos_0 : Int) (kind_0 : Int) (tape_0 : Int → Int) (limit_0 : Int) (place_0 : Int) (value_0 : Int) (faultPlace_0 : Int) (gx : Int) (gy : Int) (gu : Int) (k1 : 0 ≤ x1 ∧ x1 ≤ 7) (k2 : 4 ≤ x2 ∧ x2 ≤ 4) (k3 : 0 ≤ x3 ∧ x3 ≤ 2000) (k6 : 0 ≤ x6 ∧ x6 ≤ 2000) (k8 : 0 ≤ x8 ∧ x8 ≤ 2000) (k10 : 0 ≤ x10 ∧ x10 ≤ 4) (k11 : (-1) ≤ x11 ∧ x11 ≤ 23) (k13 : 99 ≤ x13 ∧ x13 ≤ 99) (k14 : 0 ≤ x14 ∧ x14 ≤ 2000) (k15 : (-1) ≤ x15 ∧ x15 ≤ 48) (k16 : 0 ≤ x16 ∧ x16 ≤ 7) (k17 : 0 ≤ x17 ∧ x17 ≤ 4) (k18 : (-49) ≤ x18 ∧ x18 ≤ 1048575) (k19 : 1 ≤ x19 ∧ x19 ≤ 5) (f0 : x19 ≠ 0) (g1 : x19 = fault_0) (f2 : 1 * x14 + ((-1) * x3 + 0) ≤ 0) (f3 : (-1) * x14 + (1 * x3 + 0) ≤ 0) (f4 : 1 * x15 + ((-1) * x11 + 0) ≤ 0) (f5 : (-1) * x15 + (1 * x11 + 0) ≤ 0) (f6 : 1 * x16 + ((-1) * x1 + 0) ≤ 0) (f7 : (-1) * x16 + (1 * x1 + 0) ≤ 0) (f8 : 1 * x17 + ((-1) * x2 + 0) ≤ 0) (f9 : (-1) * x17 + (1 * x2 + 0) ≤ 0) (f10 : 1 * x8 + ((-1) * x3 + 0) ≤ 0) (f11 : (-1) * x8 + (1 * x3 + 0) ≤ 0) (f12 : 1 * x10 + ((-1) * x2 + 0) ≤ 0) (f13 : (-1) * x10 + (1 * x2 + 0) ≤ 0) (f14 : 1 * x3 + ((-1) * x6 + 0) ≤ 0) (f15 : (x1 + 1) ≤ all_0 ((r_0 + 2))) (f16 : RWS (r_0) (all_0) (now_0) (latest_0)) (f17 : 1 * from_0 + ((-1) * pos_0 + 0) ≤ 0) (f18 : ((kind_0 = 1) → (pos_0 ≤ (from_0 + 8))) ∧ ((kind_0 = 0) ∨ ((from_0 + 1) ≤ pos_0))) (f19 : 1 * x14 + ((-1) * pos_0 + 0) ≤ 0) (f20 : (1 ≤ fault_0) ∨ ((kind_0 = 0) ∨ ((x14 + 1) ≤ pos_0))) (f21 : (1 ≤ fault_0) ∨ (0 ≤ x15)) (f22 : 1 * x18 + ((-1) * x13 + 0) ≤ 0) (f23 : (-1) * x18 + 0 ≤ 0) (f24 : zOFs (limit_0) (pos_0) (kind_0) (place_0) (value_0) (from_0) (fault_0) (faultPlace_0) (r_0) (tape_0) (all_0) (x15) (x18) (x16) (x17)) (f26 : 1 * x14 + ((-1) * x3 + 0) ≤ 0) (f27 : (-1) * x14 + (1 * x3 + 0) ≤ 0) (f28 : 1 * x15 + ((-1) * x11 + 0) ≤ 0) (f29 : (-1) * x15 + (1 * x11 + 0) ≤ 0) (f30 : 1 * x16 + ((-1) * x1 + 0) ≤ 0) (f31 : (-1) * x16 + (1 * x1 + 0) ≤ 0) (f32 : 1 * x17 + ((-1) * x2 + 0) ≤ 0) (f33 : (-1) * x17 + (1 * x2 + 0) ≤ 0) (f34 : 1 * x8 + ((-1) * x3 + 0) ≤ 0) (f35 : (-1) * x8 + (1 * x3 + 0) ≤ 0) (f36 : 1 * x10 + ((-1) * x2 + 0) ≤ 0) (f37 : (-1) * x10 + (1 * x2 + 0) ≤ 0) (f39 : 1 * x8 + ((-1) * x3 + 0) ≤ 0) (f40 : (-1) * x8 + (1 * x3 + 0) ≤ 0) (f41 : 1 * x10 + ((-1) * x2 + 0) ≤ 0) (f42 : (-1) * x10 + (1 * x2 + 0) ≤ 0) (hK_0_1 : ∀ j : Int, 0 ≤ j → j < 2000 → (-128) ≤ tape_0 j ∧ tape_0 j ≤ 127) (hK_0_3 : ∀ j : Int, 0 ≤ j → j < 4 → 0 ≤ now_0 j ∧ now_0 j ≤ 30) (hK_0_4 : ∀ j : Int, 0 ≤ j → j < 4 → 0 ≤ latest_0 j ∧ latest_0 j ≤ 30) (kz_0_8 : 0 ≤ fault_0 ∧ fault_0 ≤ 5) (kz_0_9 : 0 ≤ faultPlace_0 ∧ faultPlace_0 ≤ 2000) (kz_0_10 : 0 ≤ limit_0 ∧ limit_0 ≤ 2000) (kz_0_11 : 0 ≤ pos_0 ∧ pos_0 ≤ 2000) (kz_0_12 : 0 ≤ kind_0 ∧ kind_0 ≤ 4) (kz_0_13 : 0 ≤ place_0 ∧ place_0 ≤ 2000) (kz_0_14 : (-49) ≤ value_0 ∧ value_0 ≤ 1048575) (kz_0_15 : 0 ≤ from_0 ∧ from_0 ≤ 2000) (ex2 : gx = x3) (ex3 : 0 ≤ gx ∧ gx ≤ 2000) (ey2 : gy = x1) (ey3 : 0 ≤ gy ∧ gy ≤ 7) (eu2 : gu = x2) (eu3 : 0 ≤ gu ∧ gu ≤ 4) : 1 * gx + ((-1) * pos_0 + 0) ≤ 0 := by
  first
    | omega
    | (have q1 := (hE_0_2_1 (r_0 + 2) (by omega)).2 (by omega)
       have q2 := (hE_0_2_2 (r_0 + 2) (by omega)).2 (by omega)
       omega)
    | (have q1 := (hE_0_2_1 (r_0 + 1) (by omega)).2 (by omega)
       have q2 := (hE_0_2_2 (r_0 + 1) (by omega)).2 (by omega)
       omega)
    | (have q1 := (hE_0_2_1 (r_0 + 2) (by omega)).2 (by omega)
       omega)
    | (have q1 := (hE_0_2_1 (r_0 + 1) (by omega)).2 (by omega)
       omega)
    | (have q1 := (hE_0_2_1 (r_0 + 2) (by omega)).2 (by omega)
       have q2 := (hE_0_2_2 (r_0 + 2) (by omega)).2 (by omega)
       have q3 := (hE_0_2_3 (r_0 + 2) (by omega)).1 (by omega)
       omega)
    | (have q1 := (hE_0_2_1 (r_0 + 2) (by omega)).2 (by omega)
       have q2 := (hE_0_2_2 (r_0 + 2) (by omega)).2 (by omega)
       have q3 := (hE_0_2_3 (r_0 + 2) (by omega)).2 (by omega)
       omega)
set_option maxHeartbeats 4000000 in
theorem vc_Mo_item_at_k4_7_9 (x1 : Int) (x2 : Int) (x3 : Int) (x6 : Int) (x8 : Int) (x10 : Int) (x11 : Int) (x13 : Int) (x14 : Int) (x15 : Int) (x16 : Int) (x17 : Int) (x18 : Int) (x19 : Int) (fault_0 : Int) (all_0 : Int → Int) (r_0 : Int) (now_0 : Int → Int) (latest_0 : Int → Int) (from_0 : Int) (pos_0 : Int) (kind_0 : Int) (tape_0 : Int → Int) (limit_0 : Int) (place_0 : Int) (value_0 : Int) (faultPlace_0 : Int) (gx : Int) (gy : Int) (gu : Int) (k1 : 0 ≤ x1 ∧ x1 ≤ 7) (k2 : 4 ≤ x2 ∧ x2 ≤ 4) (k3 : 0 ≤ x3 ∧ x3 ≤ 2000) (k6 : 0 ≤ x6 ∧ x6 ≤ 2000) (k8 : 0 ≤ x8 ∧ x8 ≤ 2000) (k10 : 0 ≤ x10 ∧ x10 ≤ 4) (k11 : (-1) ≤ x11 ∧ x11 ≤ 23) (k13 : 99 ≤ x13 ∧ x13 ≤ 99) (k14 : 0 ≤ x14 ∧ x14 ≤ 2000) (k15 : (-1) ≤ x15 ∧ x15 ≤ 48) (k16 : 0 ≤ x16 ∧ x16 ≤ 7) (k17 : 0 ≤ x17 ∧ x17 ≤ 4) (k18 : (-49) ≤ x18 ∧ x18 ≤ 1048575) (k19 : 1 ≤ x19 ∧ x19 ≤ 5) (f0 : x19 ≠ 0) (g1 : x19 = fault_0) (f2 : 1 * x14 + ((-1) * x3 + 0) ≤ 0) (f3 : (-1) * x14 + (1 * x3 + 0) ≤ 0) (f4 : 1 * x15 + ((-1) * x11 + 0) ≤ 0) (f5 : (-1) * x15 + (1 * x11 + 0) ≤ 0) (f6 : 1 * x16 + ((-1) * x1 + 0) ≤ 0) (f7 : (-1) * x16 + (1 * x1 + 0) ≤ 0) (f8 : 1 * x17 + ((-1) * x2 + 0) ≤ 0) (f9 : (-1) * x17 + (1 * x2 + 0) ≤ 0) (f10 : 1 * x8 + ((-1) * x3 + 0) ≤ 0) (f11 : (-1) * x8 + (1 * x3 + 0) ≤ 0) (f12 : 1 * x10 + ((-1) * x2 + 0) ≤ 0) (f13 : (-1) * x10 + (1 * x2 + 0) ≤ 0) (f14 : 1 * x3 + ((-1) * x6 + 0) ≤ 0) (f15 : (x1 + 1) ≤ all_0 ((r_0 + 2))) (f16 : RWS (r_0) (all_0) (now_0) (latest_0)) (f17 : 1 * from_0 + ((-1) * pos_0 + 0) ≤ 0) (f18 : ((kind_0 = 1) → (pos_0 ≤ (from_0 + 8))) ∧ ((kind_0 = 0) ∨ ((from_0 + 1) ≤ pos_0))) (f19 : 1 * x14 + ((-1) * pos_0 + 0) ≤ 0) (f20 : (1 ≤ fault_0) ∨ ((kind_0 = 0) ∨ ((x14 + 1) ≤ pos_0))) (f21 : (1 ≤ fault_0) ∨ (0 ≤ x15)) (f22 : 1 * x18 + ((-1) * x13 + 0) ≤ 0) (f23 : (-1) * x18 + 0 ≤ 0) (f24 : zOFs (limit_0) (pos_0) (kind_0) (place_0) (value_0) (from_0) (fault_0) (faultPlace_0) (r_0) (tape_0) (all_0) (x15) (x18) (x16) (x17)) (f26 : 1 * x14 + ((-1) * x3 + 0) ≤ 0) (f27 : (-1) * x14 + (1 * x3 + 0) ≤ 0) (f28 : 1 * x15 + ((-1) * x11 + 0) ≤ 0) (f29 : (-1) * x15 + (1 * x11 + 0) ≤ 0) (f30 : 1 * x16 + ((-1) * x1 + 0) ≤ 0) (f31 : (-1) * x16 + (1 * x1 + 0) ≤ 0) (f32 : 1 * x17 + ((-1) * x2 + 0) ≤ 0) (f33 : (-1) * x17 + (1 * x2 + 0) ≤ 0) (f34 : 1 * x8 + ((-1) * x3 + 0) ≤ 0) (f35 : (-1) * x8 + (1 * x3 + 0) ≤ 0) (f36 : 1 * x10 + ((-1) * x2 + 0) ≤ 0) (f37 : (-1) * x10 + (1 * x2 + 0) ≤ 0) (f39 : 1 * x8 + ((-1) * x3 + 0) ≤ 0) (f40 : (-1) * x8 + (1 * x3 + 0) ≤ 0) (f41 : 1 * x10 + ((-1) * x2 + 0) ≤ 0) (f42 : (-1) * x10 + (1 * x2 + 0) ≤ 0) (hK_0_1 : ∀ j : Int, 0 ≤ j → j < 2000 → (-128) ≤ tape_0 j ∧ tape_0 j ≤ 127) (hK_0_3 : ∀ j : Int, 0 ≤ j → j < 4 → 0 ≤ now_0 j ∧ now_0 j ≤ 30) (hK_0_4 : ∀ j : Int, 0 ≤ j → j < 4 → 0 ≤ latest_0 j ∧ latest_0 j ≤ 30) (kz_0_8 : 0 ≤ fault_0 ∧ fault_0 ≤ 5) (kz_0_9 : 0 ≤ faultPlace_0 ∧ faultPlace_0 ≤ 2000) (kz_0_10 : 0 ≤ limit_0 ∧ limit_0 ≤ 2000) (kz_0_11 : 0 ≤ pos_0 ∧ pos_0 ≤ 2000) (kz_0_12 : 0 ≤ kind_0 ∧ kind_0 ≤ 4) (kz_0_13 : 0 ≤ place_0 ∧ place_0 ≤ 2000) (kz_0_14 : (-49) ≤ value_0 ∧ value_0 ≤ 1048575) (kz_0_15 : 0 ≤ from_0 ∧ from_0 ≤ 2000) (ex2 : gx = x3) (ex3 : 0 ≤ gx ∧ gx ≤ 2000) (ey2 : gy = x1) (ey3 : 0 ≤ gy ∧ gy ≤ 7) (eu2 : gu = x2) (eu3 : 0 ≤ gu ∧ gu ≤ 4) : (1 ≤ fault_0) ∨ ((kind_0 = 0) ∨ ((gx + 1) ≤ pos_0)) := by
  first
    | omega
    | (have q1 := (hE_0_2_1 (r_0 + 2) (by omega)).2 (by omega)
       have q2 := (hE_0_2_2 (r_0 + 2) (by omega)).2 (by omega)
       omega)
    | (have q1 := (hE_0_2_1 (r_0 + 1) (by omega)).2 (by omega)
       have q2 := (hE_0_2_2 (r_0 + 1) (by omega)).2 (by omega)
       omega)
    | (have q1 := (hE_0_2_1 (r_0 + 2) (by omega)).2 (by omega)
       omega)
    | (have q1 := (hE_0_2_1 (r_0 + 1) (by omega)).2 (by omega)
       omega)
    | (have q1 := (hE_0_2_1 (r_0 + 2) (by omega)).2 (by omega)
       have q2 := (hE_0_2_2 (r_0 + 2) (by omega)).2 (by omega)
       have q3 := (hE_0_2_3 (r_0 + 2) (by omega)).1 (by omega)
       omega)
    | (have q1 := (hE_0_2_1 (r_0 + 2) (by omega)).2 (by omega)
       have q2 := (hE_0_2_2 (r_0 + 2) (by omega)).2 (by omega)
       have q3 := (hE_0_2_3 (r_0 + 2) (by omega)).2 (by omega)
       omega)
set_option maxHeartbeats 4000000 in
theorem vc_Mo_item_at_k4_7_10 (x1 : Int) (x2 : Int) (x3 : Int) (x6 : Int) (x8 : Int) (x10 : Int) (x11 : Int) (x13 : Int) (x14 : Int) (x15 : Int) (x16 : Int) (x17 : Int) (x18 : Int) (x19 : Int) (fault_0 : Int) (all_0 : Int → Int) (r_0 : Int) (now_0 : Int → Int) (latest_0 : Int → Int) (from_0 : Int) (pos_0 : Int) (kind_0 : Int) (tape_0 : Int → Int) (limit_0 : Int) (place_0 : Int) (value_0 : Int) (faultPlace_0 : Int) (gx : Int) (gy : Int) (gu : Int) (k1 : 0 ≤ x1 ∧ x1 ≤ 7) (k2 : 4 ≤ x2 ∧ x2 ≤ 4) (k3 : 0 ≤ x3 ∧ x3 ≤ 2000) (k6 : 0 ≤ x6 ∧ x6 ≤ 2000) (k8 : 0 ≤ x8 ∧ x8 ≤ 2000) (k10 : 0 ≤ x10 ∧ x10 ≤ 4) (k11 : (-1) ≤ x11 ∧ x11 ≤ 23) (k13 : 99 ≤ x13 ∧ x13 ≤ 99) (k14 : 0 ≤ x14 ∧ x14 ≤ 2000) (k15 : (-1) ≤ x15 ∧ x15 ≤ 48) (k16 : 0 ≤ x16 ∧ x16 ≤ 7) (k17 : 0 ≤ x17 ∧ x17 ≤ 4) (k18 : (-49) ≤ x18 ∧ x18 ≤ 1048575) (k19 : 1 ≤ x19 ∧ x19 ≤ 5) (f0 : x19 ≠ 0) (g1 : x19 = fault_0) (f2 : 1 * x14 + ((-1) * x3 + 0) ≤ 0) (f3 : (-1) * x14 + (1 * x3 + 0) ≤ 0) (f4 : 1 * x15 + ((-1) * x11 + 0) ≤ 0) (f5 : (-1) * x15 + (1 * x11 + 0) ≤ 0) (f6 : 1 * x16 + ((-1) * x1 + 0) ≤ 0) (f7 : (-1) * x16 + (1 * x1 + 0) ≤ 0) (f8 : 1 * x17 + ((-1) * x2 + 0) ≤ 0) (f9 : (-1) * x17 + (1 * x2 + 0) ≤ 0) (f10 : 1 * x8 + ((-1) * x3 + 0) ≤ 0) (f11 : (-1) * x8 + (1 * x3 + 0) ≤ 0) (f12 : 1 * x10 + ((-1) * x2 + 0) ≤ 0) (f13 : (-1) * x10 + (1 * x2 + 0) ≤ 0) (f14 : 1 * x3 + ((-1) * x6 + 0) ≤ 0) (f15 : (x1 + 1) ≤ all_0 ((r_0 + 2))) (f16 : RWS (r_0) (all_0) (now_0) (latest_0)) (f17 : 1 * from_0 + ((-1) * pos_0 + 0) ≤ 0) (f18 : ((kind_0 = 1) → (pos_0 ≤ (from_0 + 8))) ∧ ((kind_0 = 0) ∨ ((from_0 + 1) ≤ pos_0))) (f19 : 1 * x14 + ((-1) * pos_0 + 0) ≤ 0) (f20 : (1 ≤ fault_0) ∨ ((kind_0 = 0) ∨ ((x14 + 1) ≤ pos_0))) (f21 : (1 ≤ fault_0) ∨ (0 ≤ x15)) (f22 : 1 * x18 + ((-1) * x13 + 0) ≤ 0) (f23 : (-1) * x18 + 0 ≤ 0) (f24 : zOFs (limit_0) (pos_0) (kind_0) (place_0) (value_0) (from_0) (fault_0) (faultPlace_0) (r_0) (tape_0) (all_0) (x15) (x18) (x16) (x17)) (f26 : 1 * x14 + ((-1) * x3 + 0) ≤ 0) (f27 : (-1) * x14 + (1 * x3 + 0) ≤ 0) (f28 : 1 * x15 + ((-1) * x11 + 0) ≤ 0) (f29 : (-1) * x15 + (1 * x11 + 0) ≤ 0) (f30 : 1 * x16 + ((-1) * x1 + 0) ≤ 0) (f31 : (-1) * x16 + (1 * x1 + 0) ≤ 0) (f32 : 1 * x17 + ((-1) * x2 + 0) ≤ 0) (f33 : (-1) * x17 + (1 * x2 + 0) ≤ 0) (f34 : 1 * x8 + ((-1) * x3 + 0) ≤ 0) (f35 : (-1) * x8 + (1 * x3 + 0) ≤ 0) (f36 : 1 * x10 + ((-1) * x2 + 0) ≤ 0) (f37 : (-1) * x10 + (1 * x2 + 0) ≤ 0) (f39 : 1 * x8 + ((-1) * x3 + 0) ≤ 0) (f40 : (-1) * x8 + (1 * x3 + 0) ≤ 0) (f41 : 1 * x10 + ((-1) * x2 + 0) ≤ 0) (f42 : (-1) * x10 + (1 * x2 + 0) ≤ 0) (hK_0_1 : ∀ j : Int, 0 ≤ j → j < 2000 → (-128) ≤ tape_0 j ∧ tape_0 j ≤ 127) (hK_0_3 : ∀ j : Int, 0 ≤ j → j < 4 → 0 ≤ now_0 j ∧ now_0 j ≤ 30) (hK_0_4 : ∀ j : Int, 0 ≤ j → j < 4 → 0 ≤ latest_0 j ∧ latest_0 j ≤ 30) (kz_0_8 : 0 ≤ fault_0 ∧ fault_0 ≤ 5) (kz_0_9 : 0 ≤ faultPlace_0 ∧ faultPlace_0 ≤ 2000) (kz_0_10 : 0 ≤ limit_0 ∧ limit_0 ≤ 2000) (kz_0_11 : 0 ≤ pos_0 ∧ pos_0 ≤ 2000) (kz_0_12 : 0 ≤ kind_0 ∧ kind_0 ≤ 4) (kz_0_13 : 0 ≤ place_0 ∧ place_0 ≤ 2000) (kz_0_14 : (-49) ≤ value_0 ∧ value_0 ≤ 1048575) (kz_0_15 : 0 ≤ from_0 ∧ from_0 ≤ 2000) (ex2 : gx = x3) (ex3 : 0 ≤ gx ∧ gx ≤ 2000) (ey2 : gy = x1) (ey3 : 0 ≤ gy ∧ gy ≤ 7) (eu2 : gu = x2) (eu3 : 0 ≤ gu ∧ gu ≤ 4) : zONs (limit_0) (pos_0) (kind_0) (place_0) (value_0) (from_0) (fault_0) (faultPlace_0) (r_0) (tape_0) (all_0) (gy) (gu) := by
  first | (have el_x14 : x14 = x3 := by omega); subst el_x14 | skip
  first | (have el_x15 : x15 = x11 := by omega); subst el_x15 | skip
  first | (have el_x16 : x16 = x1 := by omega); subst el_x16 | skip
  first | (have el_x17 : x17 = x2 := by omega); subst el_x17 | skip
  first | (have el_x8 : x8 = x3 := by omega); subst el_x8 | skip
  first | (have el_x10 : x10 = x2 := by omega); subst el_x10 | skip
  first | subst g1 | skip
  first | subst ex2 | skip
  first | subst ey2 | skip
  first | subst eu2 | skip
  first
    | exact it_nosize ‹zOFs _ _ _ _ _ _ _ _ _ _ _ _ _ _ _› (Or.inl (by omega))
    | exact it_nosize ‹zOFs _ _ _ _ _ _ _ _ _ _ _ _ _ _ _› (Or.inr (by omega))
    | exact it_size ‹zOFs _ _ _ _ _ _ _ _ _ _ _ _ _ _ _› (by omega) (by omega) (by omega) (by omega) (by assumption) (by omega) (by omega)
def o_Mo_item_at_k4_7 : or_T := (64, 21, [(0, (2, 0, 0, [165])), (1, (0, 0, 7, [])), (2, (0, 4, 4, [])), (3, (0, 0, 2000, [])), (6, (0, 0, 2000, [])), (8, (0, 0, 2000, [])), (10, (0, 0, 4, [])), (11, (0, -1, 23, [])), (13, (0, 99, 99, [])), (14, (0, 0, 2000, [])), (15, (0, -1, 48, [])), (16, (0, 0, 7, [])), (17, (0, 0, 4, [])), (18, (0, -49, 1048575, [])), (19, (0, 1, 5, []))], [(8, [19], [1]), (9, [19, 0], [8]), (23, [14, 3], [0, 1, -1]), (23, [14, 3], [0, -1, 1]), (23, [15, 11], [0, 1, -1]), (23, [15, 11], [0, -1, 1]), (23, [16, 1], [0, 1, -1]), (23, [16, 1], [0, -1, 1]), (23, [17, 2], [0, 1, -1]), (23, [17, 2], [0, -1, 1]), (23, [8, 3], [0, 1, -1]), (23, [8, 3], [0, -1, 1]), (23, [10, 2], [0, 1, -1]), (23, [10, 2], [0, -1, 1]), (20, [3, 6], [30, 0, 1, 0, 0, -1, 0, 0]), (20, [1, 0], [50, 1, 1, 1005, 1002, 0, 6, 4, 2, 1, 0, 0, 1, 3, 1, 2, 4, 3, 2, 1, 5, 0, 2]), (20, [0], [60, 1, 3, 199, 5, 2, 3, 4]), (20, [0, 0], [30, 0, 1, 1, 15, -1, 1, 11]), (20, [0], [50, 3, 0, 12, 11, 15, 2, 21, 4, 7, 1, 3, 2, 0, 12, 0, 1, 0, 3, 2, 0, 11, 4, 3, 2, 0, 15, 0, 8, 3, 7, 1, 3, 2, 0, 12, 0, 0, 0, 7, 4, 3, 2, 0, 15, 0, 1, 2, 0, 11]), (20, [14, 0], [30, 0, 1, 0, 0, -1, 1, 11]), (20, [0, 14], [50, 3, 0, 8, 12, 11, 3, 7, 0, 2, 0, 1, 2, 0, 8, 3, 7, 1, 3, 2, 0, 12, 0, 0, 0, 6, 4, 2, 1, 1, 0, 1, 2, 0, 11]), (20, [0, 15], [50, 1, 0, 8, 3, 7, 0, 2, 0, 1, 2, 0, 8, 0, 2, 0, 0, 1, 1]), (20, [18, 13], [30, 0, 1, 0, 0, -1, 0, 0]), (20, [18], [30, 0, -1, 0, 0]), (20, [0, 15, 18, 16, 17], [60, 9, 2, 1013, 10, 11, 12, 13, 14, 15, 8, 9, 5, 1, 2]), (102, [17], [0, 165008, 165009, 165011, 165012, 165013, 165014, 165015]), (23, [14, 3], [0, 1, -1]), (23, [14, 3], [0, -1, 1]), (23, [15, 11], [0, 1, -1]), (23, [15, 11], [0, -1, 1]), (23, [16, 1], [0, 1, -1]), (23, [16, 1], [0, -1, 1]), (23, [17, 2], [0, 1, -1]), (23, [17, 2], [0, -1, 1]), (23, [8, 3], [0, 1, -1]), (23, [8, 3], [0, -1, 1]), (23, [10, 2], [0, 1, -1]), (23, [10, 2], [0, -1, 1]), (102, [10], [187072209578355573530071658587684226515959365500928, 165008, 165009, 165011, 165012, 165013, 165014, 165015]), (23, [8, 3], [0, 1, -1]), (23, [8, 3], [0, -1, 1]), (23, [10, 2], [0, 1, -1]), (23, [10, 2], [0, -1, 1])], [], [(0, 0, 2000, []), (0, 0, 7, []), (0, 0, 4, [])], [(23, [21, 3], [0, 1, -1]), (23, [21, 3], [0, -1, 1]), (23, [22, 1], [0, 1, -1]), (23, [22, 1], [0, -1, 1]), (23, [23, 2], [0, 1, -1]), (23, [23, 2], [0, -1, 1]), (20, [0, 0], [30, 0, 1, 1, 15, -1, 1, 11]), (20, [0], [50, 3, 0, 12, 11, 15, 2, 21, 4, 7, 1, 3, 2, 0, 12, 0, 1, 0, 3, 2, 0, 11, 4, 3, 2, 0, 15, 0, 8, 3, 7, 1, 3, 2, 0, 12, 0, 0, 0, 7, 4, 3, 2, 0, 15, 0, 1, 2, 0, 11]), (20, [21, 0], [30, 0, 1, 0, 0, -1, 1, 11]), (20, [0, 21], [50, 3, 0, 8, 12, 11, 3, 7, 0, 2, 0, 1, 2, 0, 8, 3, 7, 1, 3, 2, 0, 12, 0, 0, 0, 6, 4, 2, 1, 1, 0, 1, 2, 0, 11]), (20, [0, 22, 23], [60, 9, 2, 1018, 10, 11, 12, 13, 14, 15, 8, 9, 5, 1, 2])], [], [])
theorem oo_Mo_item_at_k4_7 {kA : Nat → ClassId} : or_ok PRD kA GG o_Mo_item_at_k4_7 := by
  refine or_mk fun A ta ws vs hD hth hl => ?_
  intro t0 r0 t1 k1 t2 k2 t3 k3 t6 k6 t8 k8 t10 k10 t11 k11 t13 k13 t14 k14 t15 k15 t16 k16 t17 k17 t18 k18 t19 k19 f0 f1 f2 f3 f4 f5 f6 f7 f8 f9 f10 f11 f12 f13 f14 f15 f16 f17 f18 f19 f20 f21 f22 f23 f24 ta1 w1 le1 s1 f26 f27 f28 f29 f30 f31 f32 f33 f34 f35 f36 f37 ta2 w2 le2 s2 f39 f40 f41 f42
  replace f0 := shm_142 f0
  replace f1 := shm_293 f1
  replace f2 := shm_7 f2
  replace f3 := shm_22 f3
  replace f4 := shm_7 f4
  replace f5 := shm_22 f5
  replace f6 := shm_7 f6
  replace f7 := shm_22 f7
  replace f8 := shm_7 f8
  replace f9 := shm_22 f9
  replace f10 := shm_7 f10
  replace f11 := shm_22 f11
  replace f12 := shm_7 f12
  replace f13 := shm_22 f13
  replace f14 := shm_201 f14
  replace f15 := shm_1009 f15
  replace f16 := shm_980 f16
  replace f17 := shm_1437 f17
  replace f18 := shm_1438 f18
  replace f19 := shm_1431 f19
  replace f20 := shm_1722 f20
  replace f21 := shm_2000 f21
  replace f22 := shm_201 f22
  replace f23 := shm_2002 f23
  replace f24 := shm_2003 f24
  replace f26 := shm_7 f26
  replace f27 := shm_22 f27
  replace f28 := shm_7 f28
  replace f29 := shm_22 f29
  replace f30 := shm_7 f30
  replace f31 := shm_22 f31
  replace f32 := shm_7 f32
  replace f33 := shm_22 f33
  replace f34 := shm_7 f34
  replace f35 := shm_22 f35
  replace f36 := shm_7 f36
  replace f37 := shm_22 f37
  replace f39 := shm_7 f39
  replace f40 := shm_22 f40
  replace f41 := shm_7 f41
  replace f42 := shm_22 f42
  have cr_0_1 := fdq_39 hD hth r0
  have cr_0_3 := fdq_142 hD hth r0
  have cr_0_4 := fdq_143 hD hth r0
  have g1 : v_iv (n_v vs 19) = w_fi ws (n_v vs 0) 8 := congrArg v_iv f1
  have hK_0_1 := elq_7 hD hth cr_0_1
  have hK_0_3 := elq_80 hD hth cr_0_3
  have hK_0_4 := elq_81 hD hth cr_0_4
  have kz_0_8 := fdq_34 hD hth r0
  have kz_0_9 := fdq_44 hD hth r0
  have kz_0_10 := fdq_43 hD hth r0
  have kz_0_11 := fdq_237 hD hth r0
  have kz_0_12 := fdq_187 hD hth r0
  have kz_0_13 := fdq_238 hD hth r0
  have kz_0_14 := fdq_188 hD hth r0
  have kz_0_15 := fdq_239 hD hth r0
  obtain ⟨x, ex, hx⟩ := iv_ex (ta := ta) (lo := 0) (hi := 2000) (z := v_iv (n_v vs 3)) (by omega) (by omega) (by omega) (by omega)
  have ex2 : v_iv (Value.int x) = v_iv (n_v vs 3) := ex
  have ex3 : 0 ≤ v_iv (Value.int x) ∧ v_iv (Value.int x) ≤ 2000 := tv_rng hx
  obtain ⟨y, ey, hy⟩ := iv_ex (ta := ta) (lo := 0) (hi := 7) (z := v_iv (n_v vs 1)) (by omega) (by omega) (by omega) (by omega)
  have ey2 : v_iv (Value.int y) = v_iv (n_v vs 1) := ey
  have ey3 : 0 ≤ v_iv (Value.int y) ∧ v_iv (Value.int y) ≤ 7 := tv_rng hy
  obtain ⟨u, eu, hu⟩ := iv_ex (ta := ta) (lo := 0) (hi := 4) (z := v_iv (n_v vs 2)) (by omega) (by omega) (by omega) (by omega)
  have eu2 : v_iv (Value.int u) = v_iv (n_v vs 2) := eu
  have eu3 : 0 ≤ v_iv (Value.int u) ∧ v_iv (Value.int u) ≤ 4 := tv_rng hu
  have e_0 : n_v (vs ++ [Value.int x, Value.int y, Value.int u]) 0 = n_v vs 0 := n_v_old (by rw [hl]; decide)
  have e_1 : n_v (vs ++ [Value.int x, Value.int y, Value.int u]) 1 = n_v vs 1 := n_v_old (by rw [hl]; decide)
  have e_2 : n_v (vs ++ [Value.int x, Value.int y, Value.int u]) 2 = n_v vs 2 := n_v_old (by rw [hl]; decide)
  have e_3 : n_v (vs ++ [Value.int x, Value.int y, Value.int u]) 3 = n_v vs 3 := n_v_old (by rw [hl]; decide)
  have e_21 : n_v (vs ++ [Value.int x, Value.int y, Value.int u]) 21 = Value.int x := n_v_newk (k := 0) hl rfl
  have e_22 : n_v (vs ++ [Value.int x, Value.int y, Value.int u]) 22 = Value.int y := n_v_newk (k := 1) hl rfl
  have e_23 : n_v (vs ++ [Value.int x, Value.int y, Value.int u]) 23 = Value.int u := n_v_newk (k := 2) hl rfl
  have nf0 : fc_1 PRD (23, [21, 3], [0, 1, -1]) ws (vs ++ [Value.int x, Value.int y, Value.int u]) := by
    refine ⟨nf_inA hl rfl, sgq_7 ?_⟩
    · show 1 * v_iv (n_v (vs ++ [Value.int x, Value.int y, Value.int u]) 21) + ((-1) * v_iv (n_v (vs ++ [Value.int x, Value.int y, Value.int u]) 3) + 0) ≤ 0
      simp only [e_3, e_21]
      exact vc_Mo_item_at_k4_7_0 (v_iv (n_v vs 3)) (v_iv (n_v vs 14)) (w_fi ws (n_v vs 0) 5) (v_iv (Value.int x)) k3 k14 f2 f3 ex2
  have nf1 : fc_1 PRD (23, [21, 3], [0, -1, 1]) ws (vs ++ [Value.int x, Value.int y, Value.int u]) := by
    refine ⟨nf_inA hl rfl, sgq_22 ?_⟩
    · show (-1) * v_iv (n_v (vs ++ [Value.int x, Value.int y, Value.int u]) 21) + (1 * v_iv (n_v (vs ++ [Value.int x, Value.int y, Value.int u]) 3) + 0) ≤ 0
      simp only [e_3, e_21]
      exact vc_Mo_item_at_k4_7_1 (v_iv (n_v vs 3)) (v_iv (n_v vs 14)) (w_fi ws (n_v vs 0) 5) (v_iv (Value.int x)) k3 k14 f2 f3 ex2
  have nf2 : fc_1 PRD (23, [22, 1], [0, 1, -1]) ws (vs ++ [Value.int x, Value.int y, Value.int u]) := by
    refine ⟨nf_inA hl rfl, sgq_7 ?_⟩
    · show 1 * v_iv (n_v (vs ++ [Value.int x, Value.int y, Value.int u]) 22) + ((-1) * v_iv (n_v (vs ++ [Value.int x, Value.int y, Value.int u]) 1) + 0) ≤ 0
      simp only [e_1, e_22]
      exact vc_Mo_item_at_k4_7_2 (v_iv (n_v vs 1)) (v_iv (n_v vs 16)) (w_fi ws (n_v vs 0) 5) (v_iv (Value.int y)) k1 k16 f6 f7 ey2
  have nf3 : fc_1 PRD (23, [22, 1], [0, -1, 1]) ws (vs ++ [Value.int x, Value.int y, Value.int u]) := by
    refine ⟨nf_inA hl rfl, sgq_22 ?_⟩
    · show (-1) * v_iv (n_v (vs ++ [Value.int x, Value.int y, Value.int u]) 22) + (1 * v_iv (n_v (vs ++ [Value.int x, Value.int y, Value.int u]) 1) + 0) ≤ 0
      simp only [e_1, e_22]
      exact vc_Mo_item_at_k4_7_3 (v_iv (n_v vs 1)) (v_iv (n_v vs 16)) (w_fi ws (n_v vs 0) 5) (v_iv (Value.int y)) k1 k16 f6 f7 ey2
  have nf4 : fc_1 PRD (23, [23, 2], [0, 1, -1]) ws (vs ++ [Value.int x, Value.int y, Value.int u]) := by
    refine ⟨nf_inA hl rfl, sgq_7 ?_⟩
    · show 1 * v_iv (n_v (vs ++ [Value.int x, Value.int y, Value.int u]) 23) + ((-1) * v_iv (n_v (vs ++ [Value.int x, Value.int y, Value.int u]) 2) + 0) ≤ 0
      simp only [e_2, e_23]
      exact vc_Mo_item_at_k4_7_4 (v_iv (n_v vs 2)) (w_fi ws (n_v vs 0) 5) (v_iv (Value.int u)) k2 eu2
  have nf5 : fc_1 PRD (23, [23, 2], [0, -1, 1]) ws (vs ++ [Value.int x, Value.int y, Value.int u]) := by
    refine ⟨nf_inA hl rfl, sgq_22 ?_⟩
    · show (-1) * v_iv (n_v (vs ++ [Value.int x, Value.int y, Value.int u]) 23) + (1 * v_iv (n_v (vs ++ [Value.int x, Value.int y, Value.int u]) 2) + 0) ≤ 0
      simp only [e_2, e_23]
      exact vc_Mo_item_at_k4_7_5 (v_iv (n_v vs 2)) (w_fi ws (n_v vs 0) 5) (v_iv (Value.int u)) k2 eu2
  have nf6 : fc_1 PRD (20, [0, 0], [30, 0, 1, 1, 15, -1, 1, 11]) ws (vs ++ [Value.int x, Value.int y, Value.int u]) := by
    refine ⟨nf_inA hl rfl, sgq_1437 ?_⟩
    · show 1 * w_fi ws (n_v (vs ++ [Value.int x, Value.int y, Value.int u]) 0) 15 + ((-1) * w_fi ws (n_v (vs ++ [Value.int x, Value.int y, Value.int u]) 0) 11 + 0) ≤ 0
      rw [e_0]
      exact vc_Mo_item_at_k4_7_6 (v_iv (n_v vs 1)) (v_iv (n_v vs 2)) (v_iv (n_v vs 3)) (v_iv (n_v vs 6)) (v_iv (n_v vs 8)) (v_iv (n_v vs 10)) (v_iv (n_v vs 11)) (v_iv (n_v vs 13)) (v_iv (n_v vs 14)) (v_iv (n_v vs 15)) (v_iv (n_v vs 16)) (v_iv (n_v vs 17)) (v_iv (n_v vs 18)) (v_iv (n_v vs 19)) (w_fi ws (n_v vs 0) 8) (w_ei ws (w_ar ws (n_v vs 0) 2)) (w_fi ws (n_v vs 0) 5) (w_ei ws (w_ar ws (n_v vs 0) 3)) (w_ei ws (w_ar ws (n_v vs 0) 4)) (w_fi ws (n_v vs 0) 15) (w_fi ws (n_v vs 0) 11) (w_fi ws (n_v vs 0) 12) (w_ei ws (w_ar ws (n_v vs 0) 1)) (w_fi ws (n_v vs 0) 10) (w_fi ws (n_v vs 0) 13) (w_fi ws (n_v vs 0) 14) (w_fi ws (n_v vs 0) 9) (v_iv (Value.int x)) (v_iv (Value.int y)) (v_iv (Value.int u)) k1 k2 k3 k6 k8 k10 k11 k13 k14 k15 k16 k17 k18 k19 f0 g1 f2 f3 f4 f5 f6 f7 f8 f9 f10 f11 f12 f13 f14 f15 f16 f17 f18 f19 f20 f21 f22 f23 f24 f26 f27 f28 f29 f30 f31 f32 f33 f34 f35 f36 f37 f39 f40 f41 f42 hK_0_1 hK_0_3 hK_0_4 kz_0_8 kz_0_9 kz_0_10 kz_0_11 kz_0_12 kz_0_13 kz_0_14 kz_0_15 ex2 ex3 ey2 ey3 eu2 eu3
  have nf7 : fc_1 PRD (20, [0], [50, 3, 0, 12, 11, 15, 2, 21, 4, 7, 1, 3, 2, 0, 12, 0, 1, 0, 3, 2, 0, 11, 4, 3, 2, 0, 15, 0, 8, 3, 7, 1, 3, 2, 0, 12, 0, 0, 0, 7, 4, 3, 2, 0, 15, 0, 1, 2, 0, 11]) ws (vs ++ [Value.int x, Value.int y, Value.int u]) := by
    refine ⟨nf_inA hl rfl, sgq_1438 ?_⟩
    · show ((w_fi ws (n_v (vs ++ [Value.int x, Value.int y, Value.int u]) 0) 12 = 1) → (w_fi ws (n_v (vs ++ [Value.int x, Value.int y, Value.int u]) 0) 11 ≤ (w_fi ws (n_v (vs ++ [Value.int x, Value.int y, Value.int u]) 0) 15 + 8))) ∧ ((w_fi ws (n_v (vs ++ [Value.int x, Value.int y, Value.int u]) 0) 12 = 0) ∨ ((w_fi ws (n_v (vs ++ [Value.int x, Value.int y, Value.int u]) 0) 15 + 1) ≤ w_fi ws (n_v (vs ++ [Value.int x, Value.int y, Value.int u]) 0) 11))
      rw [e_0]
      exact vc_Mo_item_at_k4_7_7 (v_iv (n_v vs 1)) (v_iv (n_v vs 2)) (v_iv (n_v vs 3)) (v_iv (n_v vs 6)) (v_iv (n_v vs 8)) (v_iv (n_v vs 10)) (v_iv (n_v vs 11)) (v_iv (n_v vs 13)) (v_iv (n_v vs 14)) (v_iv (n_v vs 15)) (v_iv (n_v vs 16)) (v_iv (n_v vs 17)) (v_iv (n_v vs 18)) (v_iv (n_v vs 19)) (w_fi ws (n_v vs 0) 8) (w_ei ws (w_ar ws (n_v vs 0) 2)) (w_fi ws (n_v vs 0) 5) (w_ei ws (w_ar ws (n_v vs 0) 3)) (w_ei ws (w_ar ws (n_v vs 0) 4)) (w_fi ws (n_v vs 0) 15) (w_fi ws (n_v vs 0) 11) (w_fi ws (n_v vs 0) 12) (w_ei ws (w_ar ws (n_v vs 0) 1)) (w_fi ws (n_v vs 0) 10) (w_fi ws (n_v vs 0) 13) (w_fi ws (n_v vs 0) 14) (w_fi ws (n_v vs 0) 9) (v_iv (Value.int x)) (v_iv (Value.int y)) (v_iv (Value.int u)) k1 k2 k3 k6 k8 k10 k11 k13 k14 k15 k16 k17 k18 k19 f0 g1 f2 f3 f4 f5 f6 f7 f8 f9 f10 f11 f12 f13 f14 f15 f16 f17 f18 f19 f20 f21 f22 f23 f24 f26 f27 f28 f29 f30 f31 f32 f33 f34 f35 f36 f37 f39 f40 f41 f42 hK_0_1 hK_0_3 hK_0_4 kz_0_8 kz_0_9 kz_0_10 kz_0_11 kz_0_12 kz_0_13 kz_0_14 kz_0_15 ex2 ex3 ey2 ey3 eu2 eu3
  have nf8 : fc_1 PRD (20, [21, 0], [30, 0, 1, 0, 0, -1, 1, 11]) ws (vs ++ [Value.int x, Value.int y, Value.int u]) := by
    refine ⟨nf_inA hl rfl, sgq_1431 ?_⟩
    · show 1 * v_iv (n_v (vs ++ [Value.int x, Value.int y, Value.int u]) 21) + ((-1) * w_fi ws (n_v (vs ++ [Value.int x, Value.int y, Value.int u]) 0) 11 + 0) ≤ 0
      simp only [e_0, e_21]
      exact vc_Mo_item_at_k4_7_8 (v_iv (n_v vs 1)) (v_iv (n_v vs 2)) (v_iv (n_v vs 3)) (v_iv (n_v vs 6)) (v_iv (n_v vs 8)) (v_iv (n_v vs 10)) (v_iv (n_v vs 11)) (v_iv (n_v vs 13)) (v_iv (n_v vs 14)) (v_iv (n_v vs 15)) (v_iv (n_v vs 16)) (v_iv (n_v vs 17)) (v_iv (n_v vs 18)) (v_iv (n_v vs 19)) (w_fi ws (n_v vs 0) 8) (w_ei ws (w_ar ws (n_v vs 0) 2)) (w_fi ws (n_v vs 0) 5) (w_ei ws (w_ar ws (n_v vs 0) 3)) (w_ei ws (w_ar ws (n_v vs 0) 4)) (w_fi ws (n_v vs 0) 15) (w_fi ws (n_v vs 0) 11) (w_fi ws (n_v vs 0) 12) (w_ei ws (w_ar ws (n_v vs 0) 1)) (w_fi ws (n_v vs 0) 10) (w_fi ws (n_v vs 0) 13) (w_fi ws (n_v vs 0) 14) (w_fi ws (n_v vs 0) 9) (v_iv (Value.int x)) (v_iv (Value.int y)) (v_iv (Value.int u)) k1 k2 k3 k6 k8 k10 k11 k13 k14 k15 k16 k17 k18 k19 f0 g1 f2 f3 f4 f5 f6 f7 f8 f9 f10 f11 f12 f13 f14 f15 f16 f17 f18 f19 f20 f21 f22 f23 f24 f26 f27 f28 f29 f30 f31 f32 f33 f34 f35 f36 f37 f39 f40 f41 f42 hK_0_1 hK_0_3 hK_0_4 kz_0_8 kz_0_9 kz_0_10 kz_0_11 kz_0_12 kz_0_13 kz_0_14 kz_0_15 ex2 ex3 ey2 ey3 eu2 eu3
  have nf9 : fc_1 PRD (20, [0, 21], [50, 3, 0, 8, 12, 11, 3, 7, 0, 2, 0, 1, 2, 0, 8, 3, 7, 1, 3, 2, 0, 12, 0, 0, 0, 6, 4, 2, 1, 1, 0, 1, 2, 0, 11]) ws (vs ++ [Value.int x, Value.int y, Value.int u]) := by
    refine ⟨nf_inA hl rfl, sgq_1722 ?_⟩
    · show (1 ≤ w_fi ws (n_v (vs ++ [Value.int x, Value.int y, Value.int u]) 0) 8) ∨ ((w_fi ws (n_v (vs ++ [Value.int x, Value.int y, Value.int u]) 0) 12 = 0) ∨ ((v_iv (n_v (vs ++ [Value.int x, Value.int y, Value.int u]) 21) + 1) ≤ w_fi ws (n_v (vs ++ [Value.int x, Value.int y, Value.int u]) 0) 11))
      simp only [e_0, e_21]
      exact vc_Mo_item_at_k4_7_9 (v_iv (n_v vs 1)) (v_iv (n_v vs 2)) (v_iv (n_v vs 3)) (v_iv (n_v vs 6)) (v_iv (n_v vs 8)) (v_iv (n_v vs 10)) (v_iv (n_v vs 11)) (v_iv (n_v vs 13)) (v_iv (n_v vs 14)) (v_iv (n_v vs 15)) (v_iv (n_v vs 16)) (v_iv (n_v vs 17)) (v_iv (n_v vs 18)) (v_iv (n_v vs 19)) (w_fi ws (n_v vs 0) 8) (w_ei ws (w_ar ws (n_v vs 0) 2)) (w_fi ws (n_v vs 0) 5) (w_ei ws (w_ar ws (n_v vs 0) 3)) (w_ei ws (w_ar ws (n_v vs 0) 4)) (w_fi ws (n_v vs 0) 15) (w_fi ws (n_v vs 0) 11) (w_fi ws (n_v vs 0) 12) (w_ei ws (w_ar ws (n_v vs 0) 1)) (w_fi ws (n_v vs 0) 10) (w_fi ws (n_v vs 0) 13) (w_fi ws (n_v vs 0) 14) (w_fi ws (n_v vs 0) 9) (v_iv (Value.int x)) (v_iv (Value.int y)) (v_iv (Value.int u)) k1 k2 k3 k6 k8 k10 k11 k13 k14 k15 k16 k17 k18 k19 f0 g1 f2 f3 f4 f5 f6 f7 f8 f9 f10 f11 f12 f13 f14 f15 f16 f17 f18 f19 f20 f21 f22 f23 f24 f26 f27 f28 f29 f30 f31 f32 f33 f34 f35 f36 f37 f39 f40 f41 f42 hK_0_1 hK_0_3 hK_0_4 kz_0_8 kz_0_9 kz_0_10 kz_0_11 kz_0_12 kz_0_13 kz_0_14 kz_0_15 ex2 ex3 ey2 ey3 eu2 eu3
  have nf10 : fc_1 PRD (20, [0, 22, 23], [60, 9, 2, 1018, 10, 11, 12, 13, 14, 15, 8, 9, 5, 1, 2]) ws (vs ++ [Value.int x, Value.int y, Value.int u]) := by
    refine ⟨nf_inA hl rfl, sgq_1732 ?_⟩
    · show zONs (w_fi ws (n_v (vs ++ [Value.int x, Value.int y, Value.int u]) 0) 10) (w_fi ws (n_v (vs ++ [Value.int x, Value.int y, Value.int u]) 0) 11) (w_fi ws (n_v (vs ++ [Value.int x, Value.int y, Value.int u]) 0) 12) (w_fi ws (n_v (vs ++ [Value.int x, Value.int y, Value.int u]) 0) 13) (w_fi ws (n_v (vs ++ [Value.int x, Value.int y, Value.int u]) 0) 14) (w_fi ws (n_v (vs ++ [Value.int x, Value.int y, Value.int u]) 0) 15) (w_fi ws (n_v (vs ++ [Value.int x, Value.int y, Value.int u]) 0) 8) (w_fi ws (n_v (vs ++ [Value.int x, Value.int y, Value.int u]) 0) 9) (w_fi ws (n_v (vs ++ [Value.int x, Value.int y, Value.int u]) 0) 5) (w_ei ws (w_ar ws (n_v (vs ++ [Value.int x, Value.int y, Value.int u]) 0) 1)) (w_ei ws (w_ar ws (n_v (vs ++ [Value.int x, Value.int y, Value.int u]) 0) 2)) (v_iv (n_v (vs ++ [Value.int x, Value.int y, Value.int u]) 22)) (v_iv (n_v (vs ++ [Value.int x, Value.int y, Value.int u]) 23))
      simp only [e_0, e_22, e_23]
      exact vc_Mo_item_at_k4_7_10 (v_iv (n_v vs 1)) (v_iv (n_v vs 2)) (v_iv (n_v vs 3)) (v_iv (n_v vs 6)) (v_iv (n_v vs 8)) (v_iv (n_v vs 10)) (v_iv (n_v vs 11)) (v_iv (n_v vs 13)) (v_iv (n_v vs 14)) (v_iv (n_v vs 15)) (v_iv (n_v vs 16)) (v_iv (n_v vs 17)) (v_iv (n_v vs 18)) (v_iv (n_v vs 19)) (w_fi ws (n_v vs 0) 8) (w_ei ws (w_ar ws (n_v vs 0) 2)) (w_fi ws (n_v vs 0) 5) (w_ei ws (w_ar ws (n_v vs 0) 3)) (w_ei ws (w_ar ws (n_v vs 0) 4)) (w_fi ws (n_v vs 0) 15) (w_fi ws (n_v vs 0) 11) (w_fi ws (n_v vs 0) 12) (w_ei ws (w_ar ws (n_v vs 0) 1)) (w_fi ws (n_v vs 0) 10) (w_fi ws (n_v vs 0) 13) (w_fi ws (n_v vs 0) 14) (w_fi ws (n_v vs 0) 9) (v_iv (Value.int x)) (v_iv (Value.int y)) (v_iv (Value.int u)) k1 k2 k3 k6 k8 k10 k11 k13 k14 k15 k16 k17 k18 k19 f0 g1 f2 f3 f4 f5 f6 f7 f8 f9 f10 f11 f12 f13 f14 f15 f16 f17 f18 f19 f20 f21 f22 f23 f24 f26 f27 f28 f29 f30 f31 f32 f33 f34 f35 f36 f37 f39 f40 f41 f42 hK_0_1 hK_0_3 hK_0_4 kz_0_8 kz_0_9 kz_0_10 kz_0_11 kz_0_12 kz_0_13 kz_0_14 kz_0_15 ex2 ex3 ey2 ey3 eu2 eu3
  exact ⟨(fun _ h => (by cases h)), [Value.int x, Value.int y, Value.int u], ag_three hx hy hu, List.forall_mem_cons.mpr ⟨⟨show (23 : Nat) < 100 from by decide, nf0⟩, List.forall_mem_cons.mpr ⟨⟨show (23 : Nat) < 100 from by decide, nf1⟩, List.forall_mem_cons.mpr ⟨⟨show (23 : Nat) < 100 from by decide, nf2⟩, List.forall_mem_cons.mpr ⟨⟨show (23 : Nat) < 100 from by decide, nf3⟩, List.forall_mem_cons.mpr ⟨⟨show (23 : Nat) < 100 from by decide, nf4⟩, List.forall_mem_cons.mpr ⟨⟨show (23 : Nat) < 100 from by decide, nf5⟩, List.forall_mem_cons.mpr ⟨⟨show (20 : Nat) < 100 from by decide, nf6⟩, List.forall_mem_cons.mpr ⟨⟨show (20 : Nat) < 100 from by decide, nf7⟩, List.forall_mem_cons.mpr ⟨⟨show (20 : Nat) < 100 from by decide, nf8⟩, List.forall_mem_cons.mpr ⟨⟨show (20 : Nat) < 100 from by decide, nf9⟩, List.forall_mem_cons.mpr ⟨⟨show (20 : Nat) < 100 from by decide, nf10⟩, (fun _ h => (by cases h))⟩⟩⟩⟩⟩⟩⟩⟩⟩⟩⟩, (fun _ h => (by cases h))⟩
set_option maxHeartbeats 4000000 in
theorem vc_Mo_item_at_k4_8_0 (x3 : Int) (x21 : Int) (r_0 : Int) (pos_0 : Int) (k3 : 0 ≤ x3 ∧ x3 ≤ 2000) (k21 : 0 ≤ x21 ∧ x21 ≤ 2000) (f0 : 1 * x21 + ((-1) * x3 + 0) ≤ 0) (f1 : (-1) * x21 + (1 * x3 + 0) ≤ 0) (f23 : 1 * x21 + ((-1) * pos_0 + 0) ≤ 0) (kz_0_11 : 0 ≤ pos_0 ∧ pos_0 ≤ 2000) : 1 * x3 + ((-1) * pos_0 + 0) ≤ 0 := by
  first
    | omega
    | (have q1 := (hE_0_2_1 (r_0 + 2) (by omega)).2 (by omega)
       have q2 := (hE_0_2_2 (r_0 + 2) (by omega)).2 (by omega)
       omega)
    | (have q1 := (hE_0_2_1 (r_0 + 1) (by omega)).2 (by omega)
       have q2 := (hE_0_2_2 (r_0 + 1) (by omega)).2 (by omega)
       omega)
    | (have q1 := (hE_0_2_1 (r_0 + 2) (by omega)).2 (by omega)
       omega)
    | (have q1 := (hE_0_2_1 (r_0 + 1) (by omega)).2 (by omega)
       omega)
    | (have q1 := (hE_0_2_1 (r_0 + 2) (by omega)).2 (by omega)
       have q2 := (hE_0_2_2 (r_0 + 2) (by omega)).2 (by omega)
       have q3 := (hE_0_2_3 (r_0 + 2) (by omega)).1 (by omega)
       omega)
    | (have q1 := (hE_0_2_1 (r_0 + 2) (by omega)).2 (by omega)
       have q2 := (hE_0_2_2 (r_0 + 2) (by omega)).2 (by omega)
       have q3 := (hE_0_2_3 (r_0 + 2) (by omega)).2 (by omega)
       omega)
set_option maxHeartbeats 4000000 in
theorem vc_Mo_item_at_k4_8_1 (x3 : Int) (x21 : Int) (r_0 : Int) (pos_0 : Int) (fault_0 : Int) (k3 : 0 ≤ x3 ∧ x3 ≤ 2000) (k21 : 0 ≤ x21 ∧ x21 ≤ 2000) (f0 : 1 * x21 + ((-1) * x3 + 0) ≤ 0) (f1 : (-1) * x21 + (1 * x3 + 0) ≤ 0) (f23 : 1 * x21 + ((-1) * pos_0 + 0) ≤ 0) (f24 : (1 ≤ fault_0) ∨ ((x21 + 1) ≤ pos_0)) (kz_0_8 : 0 ≤ fault_0 ∧ fault_0 ≤ 5) (kz_0_11 : 0 ≤ pos_0 ∧ pos_0 ≤ 2000) : (1 ≤ fault_0) ∨ ((x3 + 1) ≤ pos_0) := by
  first
    | omega
    | (have q1 := (hE_0_2_1 (r_0 + 2) (by omega)).2 (by omega)
       have q2 := (hE_0_2_2 (r_0 + 2) (by omega)).2 (by omega)
       omega)
    | (have q1 := (hE_0_2_1 (r_0 + 1) (by omega)).2 (by omega)
       have q2 := (hE_0_2_2 (r_0 + 1) (by omega)).2 (by omega)
       omega)
    | (have q1 := (hE_0_2_1 (r_0 + 2) (by omega)).2 (by omega)
       omega)
    | (have q1 := (hE_0_2_1 (r_0 + 1) (by omega)).2 (by omega)
       omega)
    | (have q1 := (hE_0_2_1 (r_0 + 2) (by omega)).2 (by omega)
       have q2 := (hE_0_2_2 (r_0 + 2) (by omega)).2 (by omega)
       have q3 := (hE_0_2_3 (r_0 + 2) (by omega)).1 (by omega)
       omega)
    | (have q1 := (hE_0_2_1 (r_0 + 2) (by omega)).2 (by omega)
       have q2 := (hE_0_2_2 (r_0 + 2) (by omega)).2 (by omega)
       have q3 := (hE_0_2_3 (r_0 + 2) (by omega)).2 (by omega)
       omega)
set_option maxHeartbeats 4000000 in
theorem vc_Mo_item_at_k4_8_2 (x1 : Int) (x2 : Int) (x3 : Int) (x6 : Int) (x8 : Int) (x10 : Int) (x13 : Int) (x14 : Int) (x16 : Int) (x17 : Int) (x18 : Int) (x21 : Int) (x22 : Int) (x23 : Int) (all_0 : Int → Int) (r_0 : Int) (now_0 : Int → Int) (latest_0 : Int → Int) (from_0 : Int) (pos_0 : Int) (kind_0 : Int) (fault_0 : Int) (tape_0 : Int → Int) (limit_0 : Int) (place_0 : Int) (value_0 : Int) (faultPlace_0 : Int) (k1 : 0 ≤ x1 ∧ x1 ≤ 7) (k2 : 4 ≤ x2 ∧ x2 ≤ 4) (k3 : 0 ≤ x3 ∧ x3 ≤ 2000) (k6 : 0 ≤ x6 ∧ x6 ≤ 2000) (k8 : 0 ≤ x8 ∧ x8 ≤ 2000) (k10 : 0 ≤ x10 ∧ x10 ≤ 4) (k13 : 99 ≤ x13 ∧ x13 ≤ 99) (k14 : 0 ≤ x14 ∧ x14 ≤ 2000) (k16 : 0 ≤ x16 ∧ x16 ≤ 7) (k17 : 0 ≤ x17 ∧ x17 ≤ 4) (k18 : (-49) ≤ x18 ∧ x18 ≤ 1048575) (k21 : 0 ≤ x21 ∧ x21 ≤ 2000) (k22 : 0 ≤ x22 ∧ x22 ≤ 7) (k23 : 0 ≤ x23 ∧ x23 ≤ 4) (f0 : 1 * x21 + ((-1) * x3 + 0) ≤ 0) (f1 : (-1) * x21 + (1 * x3 + 0) ≤ 0) (f2 : 1 * x22 + ((-1) * x1 + 0) ≤ 0) (f3 : (-1) * x22 + (1 * x1 + 0) ≤ 0) (f4 : 1 * x23 + ((-1) * x2 + 0) ≤ 0) (f5 : (-1) * x23 + (1 * x2 + 0) ≤ 0) (f6 : 1 * x14 + ((-1) * x3 + 0) ≤ 0) (f7 : (-1) * x14 + (1 * x3 + 0) ≤ 0) (f8 : 1 * x16 + ((-1) * x1 + 0) ≤ 0) (f9 : (-1) * x16 + (1 * x1 + 0) ≤ 0) (f10 : 1 * x17 + ((-1) * x2 + 0) ≤ 0) (f11 : (-1) * x17 + (1 * x2 + 0) ≤ 0) (f12 : 1 * x8 + ((-1) * x3 + 0) ≤ 0) (f13 : (-1) * x8 + (1 * x3 + 0) ≤ 0) (f14 : 1 * x10 + ((-1) * x2 + 0) ≤ 0) (f15 : (-1) * x10 + (1 * x2 + 0) ≤ 0) (f16 : 1 * x3 + ((-1) * x6 + 0) ≤ 0) (f17 : (x1 + 1) ≤ all_0 ((r_0 + 2))) (f18 : RWS (r_0) (all_0) (now_0) (latest_0)) (f19 : 1 * x18 + ((-1) * x13 + 0) ≤ 0) (f20 : (-1) * x18 + 0 ≤ 0) (f21 : 1 * from_0 + ((-1) * pos_0 + 0) ≤ 0) (f22 : ((kind_0 = 1) → (pos_0 ≤ (from_0 + 8))) ∧ ((kind_0 = 0) ∨ ((from_0 + 1) ≤ pos_0))) (f23 : 1 * x21 + ((-1) * pos_0 + 0) ≤ 0) (f24 : (1 ≤ fault_0) ∨ ((x21 + 1) ≤ pos_0)) (f25 : zOS0 (limit_0) (pos_0) (kind_0) (place_0) (value_0) (from_0) (fault_0) (faultPlace_0) (r_0) (tape_0) (all_0) (x22) (x23)) (f27 : 1 * x21 + ((-1) * x3 + 0) ≤ 0) (f28 : (-1) * x21 + (1 * x3 + 0) ≤ 0) (f29 : 1 * x22 + ((-1) * x1 + 0) ≤ 0) (f30 : (-1) * x22 + (1 * x1 + 0) ≤ 0) (f31 : 1 * x23 + ((-1) * x2 + 0) ≤ 0) (f32 : (-1) * x23 + (1 * x2 + 0) ≤ 0) (f33 : 1 * x14 + ((-1) * x3 + 0) ≤ 0) (f34 : (-1) * x14 + (1 * x3 + 0) ≤ 0) (f35 : 1 * x16 + ((-1) * x1 + 0) ≤ 0) (f36 : (-1) * x16 + (1 * x1 + 0) ≤ 0) (f37 : 1 * x17 + ((-1) * x2 + 0) ≤ 0) (f38 : (-1) * x17 + (1 * x2 + 0) ≤ 0) (f39 : 1 * x8 + ((-1) * x3 + 0) ≤ 0) (f40 : (-1) * x8 + (1 * x3 + 0) ≤ 0) (f41 : 1 * x10 + ((-1) * x2 + 0) ≤ 0) (f42 : (-1) * x10 + (1 * x2 + 0) ≤ 0) (f44 : 1 * x14 + ((-1) * x3 + 0) ≤ 0) (f45 : (-1) * x14 + (1 * x3 + 0) ≤ 0) (f46 : 1 * x16 + ((-1) * x1 + 0) ≤ 0) (f47 : (-1) * x16 + (1 * x1 + 0) ≤ 0) (f48 : 1 * x17 + ((-1) * x2 + 0) ≤ 0) (f49 : (-1) * x17 + (1 * x2 + 0) ≤ 0) (f50 : 1 * x8 + ((-1) * x3 + 0) ≤ 0) (f51 : (-1) * x8 + (1 * x3 + 0) ≤ 0) (f52 : 1 * x10 + ((-1) * x2 + 0) ≤ 0) (f53 : (-1) * x10 + (1 * x2 + 0) ≤ 0) (f55 : 1 * x8 + ((-1) * x3 + 0) ≤ 0) (f56 : (-1) * x8 + (1 * x3 + 0) ≤ 0) (f57 : 1 * x10 + ((-1) * x2 + 0) ≤ 0) (f58 : (-1) * x10 + (1 * x2 + 0) ≤ 0) (hK_0_1 : ∀ j : Int, 0 ≤ j → j < 2000 → (-128) ≤ tape_0 j ∧ tape_0 j ≤ 127) (hK_0_3 : ∀ j : Int, 0 ≤ j → j < 4 → 0 ≤ now_0 j ∧ now_0 j ≤ 30) (hK_0_4 : ∀ j : Int, 0 ≤ j → j < 4 → 0 ≤ latest_0 j ∧ latest_0 j ≤ 30) (kz_0_8 : 0 ≤ fault_0 ∧ fault_0 ≤ 5) (kz_0_9 : 0 ≤ faultPlace_0 ∧ faultPlace_0 ≤ 2000) (kz_0_10 : 0 ≤ limit_0 ∧ limit_0 ≤ 2000) (kz_0_11 : 0 ≤ pos_0 ∧ pos_0 ≤ 2000) (kz_0_12 : 0 ≤ kind_0 ∧ kind_0 ≤ 4) (kz_0_13 : 0 ≤ place_0 ∧ place_0 ≤ 2000) (kz_0_14 : (-49) ≤ value_0 ∧ value_0 ≤ 1048575) (kz_0_15 : 0 ≤ from_0 ∧ from_0 ≤ 2000) : zOS0 (limit_0) (pos_0) (kind_0) (place_0) (value_0) (from_0) (fault_0) (faultPlace_0) (r_0) (tape_0) (all_0) (x1) (x2) := by
  first | (have el_x21 : x21 = x3 := by omega); subst el_x21 | skip
  first | (have el_x22 : x22 = x1 := by omega); subst el_x22 | skip
  first | (have el_x23 : x23 = x2 := by omega); subst el_x23 | skip
  first | (have el_x14 : x14 = x3 := by omega); subst el_x14 | skip
  first | (have el_x16 : x16 = x1 := by omega); subst el_x16 | skip
  first | (have el_x17 : x17 = x2 := by omega); subst el_x17 | skip
  first | (have el_x8 : x8 = x3 := by omega); subst el_x8 | skip
  first | (have el_x10 : x10 = x2 := by omega); subst el_x10 | skip
  assumption
def o_Mo_item_at_k4_8 : or_T := (94, 24, [(0, (2, 0, 0, [165])), (1, (0, 0, 7, [])), (2, (0, 4, 4, [])), (3, (0, 0, 2000, [])), (6, (0, 0, 2000, [])), (8, (0, 0, 2000, [])), (10, (0, 0, 4, [])), (13, (0, 99, 99, [])), (14, (0, 0, 2000, [])), (16, (0, 0, 7, [])), (17, (0, 0, 4, [])), (18, (0, -49, 1048575, [])), (21, (0, 0, 2000, [])), (22, (0, 0, 7, [])), (23, (0, 0, 4, []))], [(23, [21, 3], [0, 1, -1]), (23, [21, 3], [0, -1, 1]), (23, [22, 1], [0, 1, -1]), (23, [22, 1], [0, -1, 1]), (23, [23, 2], [0, 1, -1]), (23, [23, 2], [0, -1, 1]), (23, [14, 3], [0, 1, -1]), (23, [14, 3], [0, -1, 1]), (23, [16, 1], [0, 1, -1]), (23, [16, 1], [0, -1, 1]), (23, [17, 2], [0, 1, -1]), (23, [17, 2], [0, -1, 1]), (23, [8, 3], [0, 1, -1]), (23, [8, 3], [0, -1, 1]), (23, [10, 2], [0, 1, -1]), (23, [10, 2], [0, -1, 1]), (20, [3, 6], [30, 0, 1, 0, 0, -1, 0, 0]), (20, [1, 0], [50, 1, 1, 1005, 1002, 0, 6, 4, 2, 1, 0, 0, 1, 3, 1, 2, 4, 3, 2, 1, 5, 0, 2]), (20, [0], [60, 1, 3, 199, 5, 2, 3, 4]), (20, [18, 13], [30, 0, 1, 0, 0, -1, 0, 0]), (20, [18], [30, 0, -1, 0, 0]), (20, [0, 0], [30, 0, 1, 1, 15, -1, 1, 11]), (20, [0], [50, 3, 0, 12, 11, 15, 2, 21, 4, 7, 1, 3, 2, 0, 12, 0, 1, 0, 3, 2, 0, 11, 4, 3, 2, 0, 15, 0, 8, 3, 7, 1, 3, 2, 0, 12, 0, 0, 0, 7, 4, 3, 2, 0, 15, 0, 1, 2, 0, 11]), (20, [21, 0], [30, 0, 1, 0, 0, -1, 1, 11]), (20, [0, 21], [50, 2, 0, 8, 11, 3, 7, 0, 2, 0, 1, 2, 0, 8, 0, 6, 4, 2, 1, 1, 0, 1, 2, 0, 11]), (20, [0, 22, 23], [60, 9, 2, 1007, 10, 11, 12, 13, 14, 15, 8, 9, 5, 1, 2]), (102, [23], [0, 165008, 165009, 165011, 165012, 165013, 165014, 165015]), (23, [21, 3], [0, 1, -1]), (23, [21, 3], [0, -1, 1]), (23, [22, 1], [0, 1, -1]), (23, [22, 1], [0, -1, 1]), (23, [23, 2], [0, 1, -1]), (23, [23, 2], [0, -1, 1]), (23, [14, 3], [0, 1, -1]), (23, [14, 3], [0, -1, 1]), (23, [16, 1], [0, 1, -1]), (23, [16, 1], [0, -1, 1]), (23, [17, 2], [0, 1, -1]), (23, [17, 2], [0, -1, 1]), (23, [8, 3], [0, 1, -1]), (23, [8, 3], [0, -1, 1]), (23, [10, 2], [0, 1, -1]), (23, [10, 2], [0, -1, 1]), (102, [17], [0, 165008, 165009, 165011, 165012, 165013, 165014, 165015]), (23, [14, 3], [0, 1, -1]), (23, [14, 3], [0, -1, 1]), (23, [16, 1], [0, 1, -1]), (23, [16, 1], [0, -1, 1]), (23, [17, 2], [0, 1, -1]), (23, [17, 2], [0, -1, 1]), (23, [8, 3], [0, 1, -1]), (23, [8, 3], [0, -1, 1]), (23, [10, 2], [0, 1, -1]), (23, [10, 2], [0, -1, 1]), (102, [10], [187072209578355573530071658587684226515959365500928, 165008, 165009, 165011, 165012, 165013, 165014, 165015]), (23, [8, 3], [0, 1, -1]), (23, [8, 3], [0, -1, 1]), (23, [10, 2], [0, 1, -1]), (23, [10, 2], [0, -1, 1])], [], [], [(20, [3, 0], [30, 0, 1, 0, 0, -1, 1, 11]), (20, [0, 3], [50, 2, 0, 8, 11, 3, 7, 0, 2, 0, 1, 2, 0, 8, 0, 6, 4, 2, 1, 1, 0, 1, 2, 0, 11]), (20, [0, 1, 2], [60, 9, 2, 1007, 10, 11, 12, 13, 14, 15, 8, 9, 5, 1, 2])], [], [])
theorem oo_Mo_item_at_k4_8 {kA : Nat → ClassId} : or_ok PRD kA GG o_Mo_item_at_k4_8 := by
  refine or_mk fun A ta ws vs hD hth hl => ?_
  intro t0 r0 t1 k1 t2 k2 t3 k3 t6 k6 t8 k8 t10 k10 t13 k13 t14 k14 t16 k16 t17 k17 t18 k18 t21 k21 t22 k22 t23 k23 f0 f1 f2 f3 f4 f5 f6 f7 f8 f9 f10 f11 f12 f13 f14 f15 f16 f17 f18 f19 f20 f21 f22 f23 f24 f25 ta1 w1 le1 s1 f27 f28 f29 f30 f31 f32 f33 f34 f35 f36 f37 f38 f39 f40 f41 f42 ta2 w2 le2 s2 f44 f45 f46 f47 f48 f49 f50 f51 f52 f53 ta3 w3 le3 s3 f55 f56 f57 f58
  have cr_0_1 := fdq_39 hD hth r0
  have cr_0_3 := fdq_142 hD hth r0
  have cr_0_4 := fdq_143 hD hth r0
  have hK_0_1 := elq_7 hD hth cr_0_1
  have hK_0_3 := elq_80 hD hth cr_0_3
  have hK_0_4 := elq_81 hD hth cr_0_4
  have kz_0_8 := fdq_34 hD hth r0
  have kz_0_9 := fdq_44 hD hth r0
  have kz_0_10 := fdq_43 hD hth r0
  have kz_0_11 := fdq_237 hD hth r0
  have kz_0_12 := fdq_187 hD hth r0
  have kz_0_13 := fdq_238 hD hth r0
  have kz_0_14 := fdq_188 hD hth r0
  have kz_0_15 := fdq_239 hD hth r0
  have nf0 : fc_1 PRD (20, [3, 0], [30, 0, 1, 0, 0, -1, 1, 11]) ws (vs) := ⟨nf_in hl rfl, sgq_1431 (vc_Mo_item_at_k4_8_0 (v_iv (n_v vs 3)) (v_iv (n_v vs 21)) (w_fi ws (n_v vs 0) 5) (w_fi ws (n_v vs 0) 11) k3 k21 (shm_7 f0) (shm_22 f1) (shm_1431 f23) kz_0_11)⟩
  have nf1 : fc_1 PRD (20, [0, 3], [50, 2, 0, 8, 11, 3, 7, 0, 2, 0, 1, 2, 0, 8, 0, 6, 4, 2, 1, 1, 0, 1, 2, 0, 11]) ws (vs) := ⟨nf_in hl rfl, sgq_1726 (vc_Mo_item_at_k4_8_1 (v_iv (n_v vs 3)) (v_iv (n_v vs 21)) (w_fi ws (n_v vs 0) 5) (w_fi ws (n_v vs 0) 11) (w_fi ws (n_v vs 0) 8) k3 k21 (shm_7 f0) (shm_22 f1) (shm_1431 f23) (shm_1726 f24) kz_0_8 kz_0_11)⟩
  have nf2 : fc_1 PRD (20, [0, 1, 2], [60, 9, 2, 1007, 10, 11, 12, 13, 14, 15, 8, 9, 5, 1, 2]) ws (vs) := ⟨nf_in hl rfl, sgq_1727 (vc_Mo_item_at_k4_8_2 (v_iv (n_v vs 1)) (v_iv (n_v vs 2)) (v_iv (n_v vs 3)) (v_iv (n_v vs 6)) (v_iv (n_v vs 8)) (v_iv (n_v vs 10)) (v_iv (n_v vs 13)) (v_iv (n_v vs 14)) (v_iv (n_v vs 16)) (v_iv (n_v vs 17)) (v_iv (n_v vs 18)) (v_iv (n_v vs 21)) (v_iv (n_v vs 22)) (v_iv (n_v vs 23)) (w_ei ws (w_ar ws (n_v vs 0) 2)) (w_fi ws (n_v vs 0) 5) (w_ei ws (w_ar ws (n_v vs 0) 3)) (w_ei ws (w_ar ws (n_v vs 0) 4)) (w_fi ws (n_v vs 0) 15) (w_fi ws (n_v vs 0) 11) (w_fi ws (n_v vs 0) 12) (w_fi ws (n_v vs 0) 8) (w_ei ws (w_ar ws (n_v vs 0) 1)) (w_fi ws (n_v vs 0) 10) (w_fi ws (n_v vs 0) 13) (w_fi ws (n_v vs 0) 14) (w_fi ws (n_v vs 0) 9) k1 k2 k3 k6 k8 k10 k13 k14 k16 k17 k18 k21 k22 k23 (shm_7 f0) (shm_22 f1) (shm_7 f2) (shm_22 f3) (shm_7 f4) (shm_22 f5) (shm_7 f6) (shm_22 f7) (shm_7 f8) (shm_22 f9) (shm_7 f10) (shm_22 f11) (shm_7 f12) (shm_22 f13) (shm_7 f14) (shm_22 f15) (shm_201 f16) (shm_1009 f17) (shm_980 f18) (shm_201 f19) (shm_2002 f20) (shm_1437 f21) (shm_1438 f22) (shm_1431 f23) (shm_1726 f24) (shm_1727 f25) (shm_7 f27) (shm_22 f28) (shm_7 f29) (shm_22 f30) (shm_7 f31) (shm_22 f32) (shm_7 f33) (shm_22 f34) (shm_7 f35) (shm_22 f36) (shm_7 f37) (shm_22 f38) (shm_7 f39) (shm_22 f40) (shm_7 f41) (shm_22 f42) (shm_7 f44) (shm_22 f45) (shm_7 f46) (shm_22 f47) (shm_7 f48) (shm_22 f49) (shm_7 f50) (shm_22 f51) (shm_7 f52) (shm_22 f53) (shm_7 f55) (shm_22 f56) (shm_7 f57) (shm_22 f58) hK_0_1 hK_0_3 hK_0_4 kz_0_8 kz_0_9 kz_0_10 kz_0_11 kz_0_12 kz_0_13 kz_0_14 kz_0_15)⟩
  refine ⟨(fun _ h => (by cases h)), [], trivial, ?_, (fun _ h => (by cases h))⟩
  rw [List.append_nil]
  exact List.forall_mem_cons.mpr ⟨⟨show (20 : Nat) < 100 from by decide, nf0⟩, List.forall_mem_cons.mpr ⟨⟨show (20 : Nat) < 100 from by decide, nf1⟩, List.forall_mem_cons.mpr ⟨⟨show (20 : Nat) < 100 from by decide, nf2⟩, (fun _ h => (by cases h))⟩⟩⟩
set_option maxHeartbeats 4000000 in
theorem vc_Mo_item_at_k4_9_0 (x3 : Int) (x14 : Int) (r_0 : Int) (gx : Int) (k3 : 0 ≤ x3 ∧ x3 ≤ 2000) (k14 : 0 ≤ x14 ∧ x14 ≤ 2000) (f3 : 1 * x14 + ((-1) * x3 + 0) ≤ 0) (f4 : (-1) * x14 + (1 * x3 + 0) ≤ 0) (ex2 : gx = x3) : 1 * gx + ((-1) * x3 + 0) ≤ 0 := by
  first
    | omega
    | (have q1 := (hE_0_2_1 (r_0 + 2) (by omega)).2 (by omega)
       have q2 := (hE_0_2_2 (r_0 + 2) (by omega)).2 (by omega)
       omega)
    | (have q1 := (hE_0_2_1 (r_0 + 1) (by omega)).2 (by omega)
       have q2 := (hE_0_2_2 (r_0 + 1) (by omega)).2 (by omega)
       omega)
    | (have q1 := (hE_0_2_1 (r_0 + 2) (by omega)).2 (by omega)
       omega)
    | (have q1 := (hE_0_2_1 (r_0 + 1) (by omega)).2 (by omega)
       omega)
    | (have q1 := (hE_0_2_1 (r_0 + 2) (by omega)).2 (by omega)
       have q2 := (hE_0_2_2 (r_0 + 2) (by omega)).2 (by omega)
       have q3 := (hE_0_2_3 (r_0 + 2) (by omega)).1 (by omega)
       omega)
    | (have q1 := (hE_0_2_1 (r_0 + 2) (by omega)).2 (by omega)
       have q2 := (hE_0_2_2 (r_0 + 2) (by omega)).2 (by omega)
       have q3 := (hE_0_2_3 (r_0 + 2) (by omega)).2 (by omega)
       omega)
set_option maxHeartbeats 4000000 in
theorem vc_Mo_item_at_k4_9_1 (x3 : Int) (x14 : Int) (r_0 : Int) (gx : Int) (k3 : 0 ≤ x3 ∧ x3 ≤ 2000) (k14 : 0 ≤ x14 ∧ x14 ≤ 2000) (f3 : 1 * x14 + ((-1) * x3 + 0) ≤ 0) (f4 : (-1) * x14 + (1 * x3 + 0) ≤ 0) (ex2 : gx = x3) : (-1) * gx + (1 * x3 + 0) ≤ 0 := by
  first
    | omega
    | (have q1 := (hE_0_2_1 (r_0 + 2) (by omega)).2 (by omega)
       have q2 := (hE_0_2_2 (r_0 + 2) (by omega)).2 (by omega)
       omega)
    | (have q1 := (hE_0_2_1 (r_0 + 1) (by omega)).2 (by omega)
       have q2 := (hE_0_2_2 (r_0 + 1) (by omega)).2 (by omega)
       omega)
    | (have q1 := (hE_0_2_1 (r_0 + 2) (by omega)).2 (by omega)
       omega)
    | (have q1 := (hE_0_2_1 (r_0 + 1) (by omega)).2 (by omega)
       omega)
    | (have q1 := (hE_0_2_1 (r_0 + 2) (by omega)).2 (by omega)
       have q2 := (hE_0_2_2 (r_0 + 2) (by omega)).2 (by omega)
       have q3 := (hE_0_2_3 (r_0 + 2) (by omega)).1 (by omega)
       omega)
    | (have q1 := (hE_0_2_1 (r_0 + 2) (by omega)).2 (by omega)
       have q2 := (hE_0_2_2 (r_0 + 2) (by omega)).2 (by omega)
       have q3 := (hE_0_2_3 (r_0 + 2) (by omega)).2 (by omega)
       omega)
set_option maxHeartbeats 4000000 in
theorem vc_Mo_item_at_k4_9_2 (x1 : Int) (x16 : Int) (r_0 : Int) (gy : Int) (k1 : 0 ≤ x1 ∧ x1 ≤ 7) (k16 : 0 ≤ x16 ∧ x16 ≤ 7) (f7 : 1 * x16 + ((-1) * x1 + 0) ≤ 0) (f8 : (-1) * x16 + (1 * x1 + 0) ≤ 0) (ey2 : gy = x1) : 1 * gy + ((-1) * x1 + 0) ≤ 0 := by
  first
    | omega
    | (have q1 := (hE_0_2_1 (r_0 + 2) (by omega)).2 (by omega)
       have q2 := (hE_0_2_2 (r_0 + 2) (by omega)).2 (by omega)
       omega)
    | (have q1 := (hE_0_2_1 (r_0 + 1) (by omega)).2 (by omega)
       have q2 := (hE_0_2_2 (r_0 + 1) (by omega)).2 (by omega)
       omega)
    | (have q1 := (hE_0_2_1 (r_0 + 2) (by omega)).2 (by omega)
       omega)
    | (have q1 := (hE_0_2_1 (r_0 + 1) (by omega)).2 (by omega)
       omega)
    | (have q1 := (hE_0_2_1 (r_0 + 2) (by omega)).2 (by omega)
       have q2 := (hE_0_2_2 (r_0 + 2) (by omega)).2 (by omega)
       have q3 := (hE_0_2_3 (r_0 + 2) (by omega)).1 (by omega)
       omega)
    | (have q1 := (hE_0_2_1 (r_0 + 2) (by omega)).2 (by omega)
       have q2 := (hE_0_2_2 (r_0 + 2) (by omega)).2 (by omega)
       have q3 := (hE_0_2_3 (r_0 + 2) (by omega)).2 (by omega)
       omega)
set_option maxHeartbeats 4000000 in
theorem vc_Mo_item_at_k4_9_3 (x1 : Int) (x16 : Int) (r_0 : Int) (gy : Int) (k1 : 0 ≤ x1 ∧ x1 ≤ 7) (k16 : 0 ≤ x16 ∧ x16 ≤ 7) (f7 : 1 * x16 + ((-1) * x1 + 0) ≤ 0) (f8 : (-1) * x16 + (1 * x1 + 0) ≤ 0) (ey2 : gy = x1) : (-1) * gy + (1 * x1 + 0) ≤ 0 := by
  first
    | omega
    | (have q1 := (hE_0_2_1 (r_0 + 2) (by omega)).2 (by omega)
       have q2 := (hE_0_2_2 (r_0 + 2) (by omega)).2 (by omega)
       omega)
    | (have q1 := (hE_0_2_1 (r_0 + 1) (by omega)).2 (by omega)
       have q2 := (hE_0_2_2 (r_0 + 1) (by omega)).2 (by omega)
       omega)
    | (have q1 := (hE_0_2_1 (r_0 + 2) (by omega)).2 (by omega)
       omega)
    | (have q1 := (hE_0_2_1 (r_0 + 1) (by omega)).2 (by omega)
       omega)
    | (have q1 := (hE_0_2_1 (r_0 + 2) (by omega)).2 (by omega)
       have q2 := (hE_0_2_2 (r_0 + 2) (by omega)).2 (by omega)
       have q3 := (hE_0_2_3 (r_0 + 2) (by omega)).1 (by omega)
       omega)
    | (have q1 := (hE_0_2_1 (r_0 + 2) (by omega)).2 (by omega)
       have q2 := (hE_0_2_2 (r_0 + 2) (by omega)).2 (by omega)
       have q3 := (hE_0_2_3 (r_0 + 2) (by omega)).2 (by omega)
       omega)
set_option maxHeartbeats 4000000 in
theorem vc_Mo_item_at_k4_9_4 (x2 : Int) (r_0 : Int) (gu : Int) (k2 : 4 ≤ x2 ∧ x2 ≤ 4) (eu2 : gu = x2) : 1 * gu + ((-1) * x2 + 0) ≤ 0 := by
  first
    | omega
    | (have q1 := (hE_0_2_1 (r_0 + 2) (by omega)).2 (by omega)
       have q2 := (hE_0_2_2 (r_0 + 2) (by omega)).2 (by omega)
       omega)
    | (have q1 := (hE_0_2_1 (r_0 + 1) (by omega)).2 (by omega)
       have q2 := (hE_0_2_2 (r_0 + 1) (by omega)).2 (by omega)
       omega)
    | (have q1 := (hE_0_2_1 (r_0 + 2) (by omega)).2 (by omega)
       omega)
    | (have q1 := (hE_0_2_1 (r_0 + 1) (by omega)).2 (by omega)
       omega)
    | (have q1 := (hE_0_2_1 (r_0 + 2) (by omega)).2 (by omega)
       have q2 := (hE_0_2_2 (r_0 + 2) (by omega)).2 (by omega)
       have q3 := (hE_0_2_3 (r_0 + 2) (by omega)).1 (by omega)
       omega)
    | (have q1 := (hE_0_2_1 (r_0 + 2) (by omega)).2 (by omega)
       have q2 := (hE_0_2_2 (r_0 + 2) (by omega)).2 (by omega)
       have q3 := (hE_0_2_3 (r_0 + 2) (by omega)).2 (by omega)
       omega)
set_option maxHeartbeats 4000000 in
theorem vc_Mo_item_at_k4_9_5 (x2 : Int) (r_0 : Int) (gu : Int) (k2 : 4 ≤ x2 ∧ x2 ≤ 4) (eu2 : gu = x2) : (-1) * gu + (1 * x2 + 0) ≤ 0 := by
  first
    | omega
    | (have q1 := (hE_0_2_1 (r_0 + 2) (by omega)).2 (by omega)
       have q2 := (hE_0_2_2 (r_0 + 2) (by omega)).2 (by omega)
       omega)
    | (have q1 := (hE_0_2_1 (r_0 + 1) (by omega)).2 (by omega)
       have q2 := (hE_0_2_2 (r_0 + 1) (by omega)).2 (by omega)
       omega)
    | (have q1 := (hE_0_2_1 (r_0 + 2) (by omega)).2 (by omega)
       omega)
    | (have q1 := (hE_0_2_1 (r_0 + 1) (by omega)).2 (by omega)
       omega)
    | (have q1 := (hE_0_2_1 (r_0 + 2) (by omega)).2 (by omega)
       have q2 := (hE_0_2_2 (r_0 + 2) (by omega)).2 (by omega)
       have q3 := (hE_0_2_3 (r_0 + 2) (by omega)).1 (by omega)
       omega)
    | (have q1 := (hE_0_2_1 (r_0 + 2) (by omega)).2 (by omega)
       have q2 := (hE_0_2_2 (r_0 + 2) (by omega)).2 (by omega)
       have q3 := (hE_0_2_3 (r_0 + 2) (by omega)).2 (by omega)
       omega)
set_option maxHeartbeats 4000000 in
theorem vc_Mo_item_at_k4_9_6 (x1 : Int) (x2 : Int) (x3 : Int) (x6 : Int) (x8 : Int) (x10 : Int) (x11 : Int) (x13 : Int) (x14 : Int) (x15 : Int) (x16 : Int) (x17 : Int) (x18 : Int) (x19 : Int) (fault_0 : Int) (all_0 : Int → Int) (r_0 : Int) (now_0 : Int → Int) (latest_0 : Int → Int) (from_0 : Int) (pos_0 : Int) (kind_0 : Int) (tape_0 : Int → Int) (limit_0 : Int) (place_0 : Int) (value_0 : Int) (faultPlace_0 : Int) (gx : Int) (gy : Int) (gu : Int) (k1 : 0 ≤ x1 ∧ x1 ≤ 7) (k2 : 4 ≤ x2 ∧ x2 ≤ 4) (k3 : 0 ≤ x3 ∧ x3 ≤ 2000) (k6 : 0 ≤ x6 ∧ x6 ≤ 2000) (k8 : 0 ≤ x8 ∧ x8 ≤ 2000) (k10 : 0 ≤ x10 ∧ x10 ≤ 4) (k11 : (-1) ≤ x11 ∧ x11 ≤ 23) (k13 : 99 ≤ x13 ∧ x13 ≤ 99) (k14 : 0 ≤ x14 ∧ x14 ≤ 2000) (k15 : (-1) ≤ x15 ∧ x15 ≤ 48) (k16 : 0 ≤ x16 ∧ x16 ≤ 7) (k17 : 0 ≤ x17 ∧ x17 ≤ 4) (k18 : (-49) ≤ x18 ∧ x18 ≤ 0) (k19 : 0 ≤ x19 ∧ x19 ≤ 0) (f0 : x18 ≤ 0) (f1 : x19 = 0) (g2 : x19 = fault_0) (f3 : 1 * x14 + ((-1) * x3 + 0) ≤ 0) (f4 : (-1) * x14 + (1 * x3 + 0) ≤ 0) (f5 : 1 * x15 + ((-1) * x11 + 0) ≤ 0) (f6 : (-1) * x15 + (1 * x11 + 0) ≤ 0) (f7 : 1 * x16 + ((-1) * x1 + 0) ≤ 0) (f8 : (-1) * x16 + (1 * x1 + 0) ≤ 0) (f9 : 1 * x17 + ((-1) * x2 + 0) ≤ 0) (f10 : (-1) * x17 + (1 * x2 + 0) ≤ 0) (f11 : 1 * x8 + ((-1) * x3 + 0) ≤ 0) (f12 : (-1) * x8 + (1 * x3 + 0) ≤ 0) (f13 : 1 * x10 + ((-1) * x2 + 0) ≤ 0) (f14 : (-1) * x10 + (1 * x2 + 0) ≤ 0) (f15 : 1 * x3 + ((-1) * x6 + 0) ≤ 0) (f16 : (x1 + 1) ≤ all_0 ((r_0 + 2))) (f17 : RWS (r_0) (all_0) (now_0) (latest_0)) (f18 : 1 * from_0 + ((-1) * pos_0 + 0) ≤ 0) (f19 : ((kind_0 = 1) → (pos_0 ≤ (from_0 + 8))) ∧ ((kind_0 = 0) ∨ ((from_0 + 1) ≤ pos_0))) (f20 : 1 * x14 + ((-1) * pos_0 + 0) ≤ 0) (f21 : (1 ≤ fault_0) ∨ ((kind_0 = 0) ∨ ((x14 + 1) ≤ pos_0))) (f22 : (1 ≤ fault_0) ∨ (0 ≤ x15)) (f23 : 1 * x18 + ((-1) * x13 + 0) ≤ 0) (f24 : (-1) * x18 + 0 ≤ 0) (f25 : zOFs (limit_0) (pos_0) (kind_0) (place_0) (value_0) (from_0) (fault_0) (faultPlace_0) (r_0) (tape_0) (all_0) (x15) (x18) (x16) (x17)) (f27 : 1 * x14 + ((-1) * x3 + 0) ≤ 0) (f28 : (-1) * x14 + (1 * x3 + 0) ≤ 0) (f29 : 1 * x15 + ((-1) * x11 + 0) ≤ 0) (f30 : (-1) * x15 + (1 * x11 + 0) ≤ 0) (f31 : 1 * x16 + ((-1) * x1 + 0) ≤ 0) (f32 : (-1) * x16 + (1 * x1 + 0) ≤ 0) (f33 : 1 * x17 + ((-1) * x2 + 0) ≤ 0) (f34 : (-1) * x17 + (1 * x2 + 0) ≤ 0) (f35 : 1 * x8 + ((-1) * x3 + 0) ≤ 0) (f36 : (-1) * x8 + (1 * x3 + 0) ≤ 0) (f37 : 1 * x10 + ((-1) * x2 + 0) ≤ 0) (f38 : (-1) * x10 + (1 * x2 + 0) ≤ 0) (f40 : 1 * x8 + ((-1) * x3 + 0) ≤ 0) (f41 : (-1) * x8 + (1 * x3 + 0) ≤ 0) (f42 : 1 * x10 + ((-1) * x2 + 0) ≤ 0) (f43 : (-1) * x10 + (1 * x2 + 0) ≤ 0) (hK_0_1 : ∀ j : Int, 0 ≤ j → j < 2000 → (-128) ≤ tape_0 j ∧ tape_0 j ≤ 127) (hK_0_3 : ∀ j : Int, 0 ≤ j → j < 4 → 0 ≤ now_0 j ∧ now_0 j ≤ 30) (hK_0_4 : ∀ j : Int, 0 ≤ j → j < 4 → 0 ≤ latest_0 j ∧ latest_0 j ≤ 30) (kz_0_8 : 0 ≤ fault_0 ∧ fault_0 ≤ 5) (kz_0_9 : 0 ≤ faultPlace_0 ∧ faultPlace_0 ≤ 2000) (kz_0_10 : 0 ≤ limit_0 ∧ limit_0 ≤ 2000) (kz_0_11 : 0 ≤ pos_0 ∧ pos_0 ≤ 2000) (kz_0_12 : 0 ≤ kind_0 ∧ kind_0 ≤ 4) (kz_0_13 : 0 ≤ place_0 ∧ place_0 ≤ 2000) (kz_0_14 : (-49) ≤ value_0 ∧ value_0 ≤ 1048575) (kz_0_15 : 0 ≤ from_0 ∧ from_0 ≤ 2000) (ex2 : gx = x3) (ex3 : 0 ≤ gx ∧ gx ≤ 2000) (ey2 : gy = x1) (ey3 : 0 ≤ gy ∧ gy ≤ 7) (eu2 : gu = x2) (eu3 : 0 ≤ gu ∧ gu ≤ 4) : 1 * from_0 + ((-1) * pos_0 + 0) ≤ 0 := by
  first
    | omega
    | (have q1 := (hE_0_2_1 (r_0 + 2) (by omega)).2 (by omega)
       have q2 := (hE_0_2_2 (r_0 + 2) (by omega)).2 (by omega)
       omega)
    | (have q1 := (hE_0_2_1 (r_0 + 1) (by omega)).2 (by omega)
       have q2 := (hE_0_2_2 (r_0 + 1) (by omega)).2 (by omega)
       omega)
    | (have q1 := (hE_0_2_1 (r_0 + 2) (by omega)).2 (by omega)
       omega)
    | (have q1 := (hE_0_2_1 (r_0 + 1) (by omega)).2 (by omega)
       omega)
    | (have q1 := (hE_0_2_1 (r_0 + 2) (by omega)).2 (by omega)
       have q2 := (hE_0_2_2 (r_0 + 2) (by omega)).2 (by omega)
       have q3 := (hE_0_2_3 (r_0 + 2) (by omega)).1 (by omega)
       omega)
    | (have q1 := (hE_0_2_1 (r_0 + 2) (by omega)).2 (by omega)
       have q2 := (hE_0_2_2 (r_0 + 2) (by omega)).2 (by omega)
       have q3 := (hE_0_2_3 (r_0 + 2) (by omega)).2 (by omega)
       omega)
set_option maxHeartbeats 4000000 in
theorem vc_Mo_item_at_k4_9_7 (x1 : Int) (x2 : Int) (x3 : Int) (x6 : Int) (x8 : Int) (x10 : Int) (x11 : Int) (x13 : Int) (x14 : Int) (x15 : Int) (x16 : Int) (x17 : Int) (x18 : Int) (x19 : Int) (fault_0 : Int) (all_0 : Int → Int) (r_0 : Int) (now_0 : Int → Int) (latest_0 : Int → Int) (from_0 : Int) (pos_0 : Int) (kind_0 : Int) (tape_0 : Int → Int) (limit_0 : Int) (place_0 : Int) (value_0 : Int) (faultPlace_0 : Int) (gx : Int) (gy : Int) (gu : Int) (k1 : 0 ≤ x1 ∧ x1 ≤ 7) (k2 : 4 ≤ x2 ∧ x2 ≤ 4) (k3 : 0 ≤ x3 ∧ x3 ≤ 2000) (k6 : 0 ≤ x6 ∧ x6 ≤ 2000) (k8 : 0 ≤ x8 ∧ x8 ≤ 2000) (k10 : 0 ≤ x10 ∧ x10 ≤ 4) (k11 : (-1) ≤ x11 ∧ x11 ≤ 23) (k13 : 99 ≤ x13 ∧ x13 ≤ 99) (k14 : 0 ≤ x14 ∧ x14 ≤ 2000) (k15 : (-1) ≤ x15 ∧ x15 ≤ 48) (k16 : 0 ≤ x16 ∧ x16 ≤ 7) (k17 : 0 ≤ x17 ∧ x17 ≤ 4) (k18 : (-49) ≤ x18 ∧ x18 ≤ 0) (k19 : 0 ≤ x19 ∧ x19 ≤ 0) (f0 : x18 ≤ 0) (f1 : x19 = 0) (g2 : x19 = fault_0) (f3 : 1 * x14 + ((-1) * x3 + 0) ≤ 0) (f4 : (-1) * x14 + (1 * x3 + 0) ≤ 0) (f5 : 1 * x15 + ((-1) * x11 + 0) ≤ 0) (f6 : (-1) * x15 + (1 * x11 + 0) ≤ 0) (f7 : 1 * x16 + ((-1) * x1 + 0) ≤ 0) (f8 : (-1) * x16 + (1 * x1 + 0) ≤ 0) (f9 : 1 * x17 + ((-1) * x2 + 0) ≤ 0) (f10 : (-1) * x17 + (1 * x2 + 0) ≤ 0) (f11 : 1 * x8 + ((-1) * x3 + 0) ≤ 0) (f12 : (-1) * x8 + (1 * x3 + 0) ≤ 0) (f13 : 1 * x10 + ((-1) * x2 + 0) ≤ 0) (f14 : (-1) * x10 + (1 * x2 + 0) ≤ 0) (f15 : 1 * x3 + ((-1) * x6 + 0) ≤ 0) (f16 : (x1 + 1) ≤ all_0 ((r_0 + 2))) (f17 : RWS (r_0) (all_0) (now_0) (latest_0)) (f18 : 1 * from_0 + ((-1) * pos_0 + 0) ≤ 0) (f19 : ((kind_0 = 1) → (pos_0 ≤ (from_0 + 8))) ∧ ((kind_0 = 0) ∨ ((from_0 + 1) ≤ pos_0))) (f20 : 1 * x14 + ((-1) * pos_0 + 0) ≤ 0) (f21 : (1 ≤ fault_0) ∨ ((kind_0 = 0) ∨ ((x14 + 1) ≤ pos_0))) (f22 : (1 ≤ fault_0) ∨ (0 ≤ x15)) (f23 : 1 * x18 + ((-1) * x13 + 0) ≤ 0) (f24 : (-1) * x18 + 0 ≤ 0) (f25 : zOFs (limit_0) (pos_0) (kind_0) (place_0) (value_0) (from_0) (fault_0) (faultPlace_0) (r_0) (tape_0) (all_0) (x15) (x18) (x16) (x17)) (f27 : 1 * x14 + ((-1) * x3 + 0) ≤ 0) (f28 : (-1) * x14 + (1 * x3 + 0) ≤ 0) (f29 : 1 * x15 + ((-1) * x11 + 0) ≤ 0) (f30 : (-1) * x15 + (1 * x11 + 0) ≤ 0) (f31 : 1 * x16 + ((-1) * x1 + 0) ≤ 0) (f32 : (-1) * x16 + (1 * x1 + 0) ≤ 0) (f33 : 1 * x17 + ((-1) * x2 + 0) ≤ 0) (f34 : (-1) * x17 + (1 * x2 + 0) ≤ 0) (f35 : 1 * x8 + ((-1) * x3 + 0) ≤ 0) (f36 : (-1) * x8 + (1 * x3 + 0) ≤ 0) (f37 : 1 * x10 + ((-1) * x2 + 0) ≤ 0) (f38 : (-1) * x10 + (1 * x2 + 0) ≤ 0) (f40 : 1 * x8 + ((-1) * x3 + 0) ≤ 0) (f41 : (-1) * x8 + (1 * x3 + 0) ≤ 0) (f42 : 1 * x10 + ((-1) * x2 + 0) ≤ 0) (f43 : (-1) * x10 + (1 * x2 + 0) ≤ 0) (hK_0_1 : ∀ j : Int, 0 ≤ j → j < 2000 → (-128) ≤ tape_0 j ∧ tape_0 j ≤ 127) (hK_0_3 : ∀ j : Int, 0 ≤ j → j < 4 → 0 ≤ now_0 j ∧ now_0 j ≤ 30) (hK_0_4 : ∀ j : Int, 0 ≤ j → j < 4 → 0 ≤ latest_0 j ∧ latest_0 j ≤ 30) (kz_0_8 : 0 ≤ fault_0 ∧ fault_0 ≤ 5) (kz_0_9 : 0 ≤ faultPlace_0 ∧ faultPlace_0 ≤ 2000) (kz_0_10 : 0 ≤ limit_0 ∧ limit_0 ≤ 2000) (kz_0_11 : 0 ≤ pos_0 ∧ pos_0 ≤ 2000) (kz_0_12 : 0 ≤ kind_0 ∧ kind_0 ≤ 4) (kz_0_13 : 0 ≤ place_0 ∧ place_0 ≤ 2000) (kz_0_14 : (-49) ≤ value_0 ∧ value_0 ≤ 1048575) (kz_0_15 : 0 ≤ from_0 ∧ from_0 ≤ 2000) (ex2 : gx = x3) (ex3 : 0 ≤ gx ∧ gx ≤ 2000) (ey2 : gy = x1) (ey3 : 0 ≤ gy ∧ gy ≤ 7) (eu2 : gu = x2) (eu3 : 0 ≤ gu ∧ gu ≤ 4) : ((kind_0 = 1) → (pos_0 ≤ (from_0 + 8))) ∧ ((kind_0 = 0) ∨ ((from_0 + 1) ≤ pos_0)) := by
  first
    | omega
    | (have q1 := (hE_0_2_1 (r_0 + 2) (by omega)).2 (by omega)
       have q2 := (hE_0_2_2 (r_0 + 2) (by omega)).2 (by omega)
       omega)
    | (have q1 := (hE_0_2_1 (r_0 + 1) (by omega)).2 (by omega)
       have q2 := (hE_0_2_2 (r_0 + 1) (by omega)).2 (by omega)
       omega)
    | (have q1 := (hE_0_2_1 (r_0 + 2) (by omega)).2 (by omega)
       omega)
    | (have q1 := (hE_0_2_1 (r_0 + 1) (by omega)).2 (by omega)
       omega)
    | (have q1 := (hE_0_2_1 (r_0 + 2) (by omega)).2 (by omega)
       have q2 := (hE_0_2_2 (r_0 + 2) (by omega)).2 (by omega)
       have q3 := (hE_0_2_3 (r_0 + 2) (by omega)).1 (by omega)
       omega)
    | (have q1 := (hE_0_2_1 (r_0 + 2) (by omega)).2 (by omega)
       have q2 := (hE_0_2_2 (r_0 + 2) (by omega)).2 (by omega)
       have q3 := (hE_0_2_3 (r_0 + 2) (by omega)).2 (by omega)
       omega)
set_option maxHeartbeats 4000000 in
theorem vc_Mo_item_at_k4_9_8 (x1 : Int) (x2 : Int) (x3 : Int) (x6 : Int) (x8 : Int) (x10 : Int) (x11 : Int) (x13 : Int) (x14 : Int) (x15 : Int) (x16 : Int) (x17 : Int) (x18 : Int) (x19 : Int) (fault_0 : Int) (all_0 : Int → Int) (r_0 : Int) (now_0 : Int → Int) (latest_0 : Int → Int) (from_0 : Int) (pos_0 : Int) (kind_0 : Int) (tape_0 : Int → Int) (limit_0 : Int) (place_0 : Int) (value_0 : Int) (faultPlace_0 : Int) (gx : Int) (gy : Int) (gu : Int) (k1 : 0 ≤ x1 ∧ x1 ≤ 7) (k2 : 4 ≤ x2 ∧ x2 ≤ 4) (k3 : 0 ≤ x3 ∧ x3 ≤ 2000) (k6 : 0 ≤ x6 ∧ x6 ≤ 2000) (k8 : 0 ≤ x8 ∧ x8 ≤ 2000) (k10 : 0 ≤ x10 ∧ x10 ≤ 4) (k11 : (-1) ≤ x11 ∧ x11 ≤ 23) (k13 : 99 ≤ x13 ∧ x13 ≤ 99) (k14 : 0 ≤ x14 ∧ x14 ≤ 2000) (k15 : (-1) ≤ x15 ∧ x15 ≤ 48) (k16 : 0 ≤ x16 ∧ x16 ≤ 7) (k17 : 0 ≤ x17 ∧ x17 ≤ 4) (k18 : (-49) ≤ x18 ∧ x18 ≤ 0) (k19 : 0 ≤ x19 ∧ x19 ≤ 0) (f0 : x18 ≤ 0) (f1 : x19 = 0) (g2 : x19 = fault_0) (f3 : 1 * x14 + ((-1) * x3 + 0) ≤ 0) (f4 : (-1) * x14 + (1 * x3 + 0) ≤ 0) (f5 : 1 * x15 + ((-1) * x11 + 0) ≤ 0) (f6 : (-1) * x15 + (1 * x11 + 0) ≤ 0) (f7 : 1 * x16 + ((-1) * x1 + 0) ≤ 0) (f8 : (-1) * x16 + (1 * x1 + 0) ≤ 0) (f9 : 1 * x17 + ((-1) * x2 + 0) ≤ 0) (f10 : (-1) * x17 + (1 * x2 + 0) ≤ 0) (f11 : 1 * x8 + ((-1) * x3 + 0) ≤ 0) (f12 : (-1) * x8 + (1 * x3 + 0) ≤ 0) (f13 : 1 * x10 + ((-1) * x2 + 0) ≤ 0) (f14 : (-1) * x10 + (1 * x2 + 0) ≤ 0) (f15 : 1 * x3 + ((-1) * x6 + 0) ≤ 0) (f16 : (x1 + 1) ≤ all_0 ((r_0 + 2))) (f17 : RWS (r_0) (all_0) (now_0) (latest_0)) (f18 : 1 * from_0 + ((-1) * pos_0 + 0) ≤ 0) (f19 : ((kind_0 = 1) → (pos_0 ≤ (from_0 + 8))) ∧ ((kind_0 = 0) ∨ ((from_0 + 1) ≤ pos_0))) (f20 : 1 * x14 + ((-1) * pos_0 + 0) ≤ 0) (f21 : (1 ≤ fault_0) ∨ ((kind_0 = 0) ∨ ((x14 + 1) ≤ pos_0))) (f22 : (1 ≤ fault_0) ∨ (0 ≤ x15)) (f23 : 1 * x18 + ((-1) * x13 + 0) ≤ 0) (f24 : (-1) * x18 + 0 ≤ 0) (f25 : zOFs (limit_0) (pos_0) (kind_0) (place_0) (value_0) (from_0) (fault_0) (faultPlace_0) (r_0) (tape_0) (all_0) (x15) (x18) (x16) (x17)) (f27 : 1 * x14 + ((-1) * x3 + 0) ≤ 0) (f28 : (-1) * x14 + (1 * x3 + 0) ≤ 0) (f29 : 1 * x15 + ((-1) * x11 + 0) ≤ 0) (f30 : (-1) * x15 + (1 * x11 + 0) ≤ 0) (f31 : 1 * x16 + ((-1) * x1 + 0) ≤ 0) (f32 : (-1) * x16 + (1 * x1 + 0) ≤ 0) (f33 : 1 * x17 + ((-1) * x2 + 0) ≤ 0) (f34 : (-1) * x17 + (1 * x2 + 0) ≤ 0) (f35 : 1 * x8 + ((-1) * x3 + 0) ≤ 0) (f36 : (-1) * x8 + (1 * x3 + 0) ≤ 0) (f37 : 1 * x10 + ((-1) * x2 + 0) ≤ 0) (f38 : (-1) * x10 + (1 * x2 + 0) ≤ 0) (f40 : 1 * x8 + ((-1) * x3 + 0) ≤ 0) (f41 : (-1) * x8 + (1 * x3 + 0) ≤ 0) (f42 : 1 * x10 + ((-1) * x2 + 0) ≤ 0) (f43 : (-1) * x10 + (1 * x2 + 0) ≤ 0) (hK_0_1 : ∀ j : Int, 0 ≤ j → j < 2000 → (-128) ≤ tape_0 j ∧ tape_0 j ≤ 127) (hK_0_3 : ∀ j : Int, 0 ≤ j → j < 4 → 0 ≤ now_0 j ∧ now_0 j ≤ 30) (hK_0_4 : ∀ j : Int, 0 ≤ j → j < 4 → 0 ≤ latest_0 j ∧ latest_0 j ≤ 30) (kz_0_8 : 0 ≤ fault_0 ∧ fault_0 ≤ 5) (kz_0_9 : 0 ≤ faultPlace_0 ∧ faultPlace_0 ≤ 2000) (kz_0_10 : 0 ≤ limit_0 ∧ limit_0 ≤ 2000) (kz_0_11 : 0 ≤ pos_0 ∧ pos_0 ≤ 2000) (kz_0_12 : 0 ≤ kind_0 ∧ kind_0 ≤ 4) (kz_0_13 : 0 ≤ place_0 ∧ place_0 ≤ 2000) (kz_0_14 : (-49) ≤ value_0 ∧ value_0 ≤ 1048575) (kz_0_15 : 0 ≤ from_0 ∧ from_0 ≤ 2000) (ex2 : gx = x3) (ex3 : 0 ≤ gx ∧ gx ≤ 2000) (ey2 : gy = x1) (ey3 : 0 ≤ gy ∧ gy ≤ 7) (eu2 : gu = x2) (eu3 : 0 ≤ gu ∧ gu ≤ 4) : 1 * gx + ((-1) * pos_0 + 0) ≤ 0 := by
  first
    | omega
    | (have q1 := (hE_0_2_1 (r_0 + 2) (by omega)).2 (by omega)
       have q2 := (hE_0_2_2 (r_0 + 2) (by omega)).2 (by omega)
       omega)
    | (have q1 := (hE_0_2_1 (r_0 + 1) (by omega)).2 (by omega)
       have q2 := (hE_0_2_2 (r_0 + 1) (by omega)).2 (by omega)
       omega)
    | (have q1 := (hE_0_2_1 (r_0 + 2) (by omega)).2 (by omega)
       omega)
    | (have q1 := (hE_0_2_1 (r_0 + 1) (by omega)).2 (by omega)
       omega)
    | (have q1 := (hE_0_2_1 (r_0 + 2) (by omega)).2 (by omega)
       have q2 := (hE_0_2_2 (r_0 + 2) (by omega)).2 (by omega)
       have q3 := (hE_0_2_3 (r_0 + 2) (by omega)).1 (by omega)
       omega)
    | (have q1 := (hE_0_2_1 (r_0 + 2) (by omega)).2 (by omega)
       have q2 := (hE_0_2_2 (r_0 + 2) (by omega)).2 (by omega)
       have q3 := (hE_0_2_3 (r_0 + 2) (by omega)).2 (by omega)
       omega)
set_option maxHeartbeats 4000000 in
theorem vc_Mo_item_at_k4_9_9 (x1 : Int) (x2 : Int) (x3 : Int) (x6 : Int) (x8 : Int) (x10 : Int) (x11 : Int) (x13 : Int) (x14 : Int) (x15 : Int) (x16 : Int) (x17 : Int) (x18 : Int) (x19 : Int) (fault_0 : Int) (all_0 : Int → Int) (r_0 : Int) (now_0 : Int → Int) (latest_0 : Int → Int) (from_0 : Int) (pos_0 : Int) (kind_0 : Int) (tape_0 : Int → Int) (limit_0 : Int) (place_0 : Int) (value_0 : Int) (faultPlace_0 : Int) (gx : Int) (gy : Int) (gu : Int) (k1 : 0 ≤ x1 ∧ x1 ≤ 7) (k2 : 4 ≤ x2 ∧ x2 ≤ 4) (k3 : 0 ≤ x3 ∧ x3 ≤ 2000) (k6 : 0 ≤ x6 ∧ x6 ≤ 2000) (k8 : 0 ≤ x8 ∧ x8 ≤ 2000) (k10 : 0 ≤ x10 ∧ x10 ≤ 4) (k11 : (-1) ≤ x11 ∧ x11 ≤ 23) (k13 : 99 ≤ x13 ∧ x13 ≤ 99) (k14 : 0 ≤ x14 ∧ x14 ≤ 2000) (k15 : (-1) ≤ x15 ∧ x15 ≤ 48) (k16 : 0 ≤ x16 ∧ x16 ≤ 7) (k17 : 0 ≤ x17 ∧ x17 ≤ 4) (k18 : (-49) ≤ x18 ∧ x18 ≤ 0) (k19 : 0 ≤ x19 ∧ x19 ≤ 0) (f0 : x18 ≤ 0) (f1 : x19 = 0) (g2 : x19 = fault_0) (f3 : 1 * x14 + ((-1) * x3 + 0) ≤ 0) (f4 : (-1) * x14 + (1 * x3 + 0) ≤ 0) (f5 : 1 * x15 + ((-1) * x11 + 0) ≤ 0) (f6 : (-1) * x15 + (1 * x11 + 0) ≤ 0) (f7 : 1 * x16 + ((-1) * x1 + 0) ≤ 0) (f8 : (-1) * x16 + (1 * x1 + 0) ≤ 0) (f9 : 1 * x17 + ((-1) * x2 + 0) ≤ 0) (f10 : (-1) * x17 + (1 * x2 + 0) ≤ 0) (f11 : 1 * x8 + ((-1) * x3 + 0) ≤ 0) (f12 : (-1) * x8 + (1 * x3 + 0) ≤ 0) (f13 : 1 * x10 + ((-1) * x2 + 0) ≤ 0) (f14 : (-1) * x10 + (1 * x2 + 0) ≤ 0) (f15 : 1 * x3 + ((-1) * x6 + 0) ≤ 0) (f16 : (x1 + 1) ≤ all_0 ((r_0 + 2))) (f17 : RWS (r_0) (all_0) (now_0) (latest_0)) (f18 : 1 * from_0 + ((-1) * pos_0 + 0) ≤ 0) (f19 : ((kind_0 = 1) → (pos_0 ≤ (from_0 + 8))) ∧ ((kind_0 = 0) ∨ ((from_0 + 1) ≤ pos_0))) (f20 : 1 * x14 + ((-1) * pos_0 + 0) ≤ 0) (f21 : (1 ≤ fault_0) ∨ ((kind_0 = 0) ∨ ((x14 + 1) ≤ pos_0))) (f22 : (1 ≤ fault_0) ∨ (0 ≤ x15)) (f23 : 1 * x18 + ((-1) * x13 + 0) ≤ 0) (f24 : (-1) * x18 + 0 ≤ 0) (f25 : zOFs (limit_0) (pos_0) (kind_0) (place_0) (value_0) (from_0) (fault_0) (faultPlace_0) (r_0) (tape_0) (all_0) (x15) (x18) (x16) (x17)) (f27 : 1 * x14 + ((-1) * x3 + 0) ≤ 0) (f28 : (-1) * x14 + (1 * x3 + 0) ≤ 0) (f29 : 1 * x15 + ((-1) * x11 + 0) ≤ 0) (f30 : (-1) * x15 + (1 * x11 + 0) ≤ 0) (f31 : 1 * x16 + ((-1) * x1 + 0) ≤ 0) (f32 : (-1) * x16 + (1 * x1 + 0) ≤ 0) (f33 : 1 * x17 + ((-1) * x2 + 0) ≤ 0) (f34 : (-1) * x17 + (1 * x2 + 0) ≤ 0) (f35 : 1 * x8 + ((-1) * x3 + 0) ≤ 0) (f36 : (-1) * x8 + (1 * x3 + 0) ≤ 0) (f37 : 1 * x10 + ((-1) * x2 + 0) ≤ 0) (f38 : (-1) * x10 + (1 * x2 + 0) ≤ 0) (f40 : 1 * x8 + ((-1) * x3 + 0) ≤ 0) (f41 : (-1) * x8 + (1 * x3 + 0) ≤ 0) (f42 : 1 * x10 + ((-1) * x2 + 0) ≤ 0) (f43 : (-1) * x10 + (1 * x2 + 0) ≤ 0) (hK_0_1 : ∀ j : Int, 0 ≤ j → j < 2000 → (-128) ≤ tape_0 j ∧ tape_0 j ≤ 127) (hK_0_3 : ∀ j : Int, 0 ≤ j → j < 4 → 0 ≤ now_0 j ∧ now_0 j ≤ 30) (hK_0_4 : ∀ j : Int, 0 ≤ j → j < 4 → 0 ≤ latest_0 j ∧ latest_0 j ≤ 30) (kz_0_8 : 0 ≤ fault_0 ∧ fault_0 ≤ 5) (kz_0_9 : 0 ≤ faultPlace_0 ∧ faultPlace_0 ≤ 2000) (kz_0_10 : 0 ≤ limit_0 ∧ limit_0 ≤ 2000) (kz_0_11 : 0 ≤ pos_0 ∧ pos_0 ≤ 2000) (kz_0_12 : 0 ≤ kind_0 ∧ kind_0 ≤ 4) (kz_0_13 : 0 ≤ place_0 ∧ place_0 ≤ 2000) (kz_0_14 : (-49) ≤ value_0 ∧ value_0 ≤ 1048575) (kz_0_15 : 0 ≤ from_0 ∧ from_0 ≤ 2000) (ex2 : gx = x3) (ex3 : 0 ≤ gx ∧ gx ≤ 2000) (ey2 : gy = x1) (ey3 : 0 ≤ gy ∧ gy ≤ 7) (eu2 : gu = x2) (eu3 : 0 ≤ gu ∧ gu ≤ 4) : (1 ≤ fault_0) ∨ ((kind_0 = 0) ∨ ((gx + 1) ≤ pos_0)) := by
  first
    | omega
    | (have q1 := (hE_0_2_1 (r_0 + 2) (by omega)).2 (by omega)
       have q2 := (hE_0_2_2 (r_0 + 2) (by omega)).2 (by omega)
       omega)
    | (have q1 := (hE_0_2_1 (r_0 + 1) (by omega)).2 (by omega)
       have q2 := (hE_0_2_2 (r_0 + 1) (by omega)).2 (by omega)
       omega)
    | (have q1 := (hE_0_2_1 (r_0 + 2) (by omega)).2 (by omega)
       omega)
    | (have q1 := (hE_0_2_1 (r_0 + 1) (by omega)).2 (by omega)
       omega)
    | (have q1 := (hE_0_2_1 (r_0 + 2) (by omega)).2 (by omega)
       have q2 := (hE_0_2_2 (r_0 + 2) (by omega)).2 (by omega)
       have q3 := (hE_0_2_3 (r_0 + 2) (by omega)).1 (by omega)
       omega)
    | (have q1 := (hE_0_2_1 (r_0 + 2) (by omega)).2 (by omega)
       have q2 := (hE_0_2_2 (r_0 + 2) (by omega)).2 (by omega)
       have q3 := (hE_0_2_3 (r_0 + 2) (by omega)).2 (by omega)
       omega)
set_option maxHeartbeats 4000000 in
theorem vc_Mo_item_at_k4_9_10 (x1 : Int) (x2 : Int) (x3 : Int) (x6 : Int) (x8 : Int) (x10 : Int) (x11 : Int) (x13 : Int) (x14 : Int) (x15 : Int) (x16 : Int) (x17 : Int) (x18 : Int) (x19 : Int) (fault_0 : Int) (all_0 : Int → Int) (r_0 : Int) (now_0 : Int → Int) (latest_0 : Int → Int) (from_0 : Int) (pos_0 : Int) (kind_0 : Int) (tape_0 : Int → Int) (limit_0 : Int) (place_0 : Int) (value_0 : Int) (faultPlace_0 : Int) (gx : Int) (gy : Int) (gu : Int) (k1 : 0 ≤ x1 ∧ x1 ≤ 7) (k2 : 4 ≤ x2 ∧ x2 ≤ 4) (k3 : 0 ≤ x3 ∧ x3 ≤ 2000) (k6 : 0 ≤ x6 ∧ x6 ≤ 2000) (k8 : 0 ≤ x8 ∧ x8 ≤ 2000) (k10 : 0 ≤ x10 ∧ x10 ≤ 4) (k11 : (-1) ≤ x11 ∧ x11 ≤ 23) (k13 : 99 ≤ x13 ∧ x13 ≤ 99) (k14 : 0 ≤ x14 ∧ x14 ≤ 2000) (k15 : (-1) ≤ x15 ∧ x15 ≤ 48) (k16 : 0 ≤ x16 ∧ x16 ≤ 7) (k17 : 0 ≤ x17 ∧ x17 ≤ 4) (k18 : (-49) ≤ x18 ∧ x18 ≤ 0) (k19 : 0 ≤ x19 ∧ x19 ≤ 0) (f0 : x18 ≤ 0) (f1 : x19 = 0) (g2 : x19 = fault_0) (f3 : 1 * x14 + ((-1) * x3 + 0) ≤ 0) (f4 : (-1) * x14 + (1 * x3 + 0) ≤ 0) (f5 : 1 * x15 + ((-1) * x11 + 0) ≤ 0) (f6 : (-1) * x15 + (1 * x11 + 0) ≤ 0) (f7 : 1 * x16 + ((-1) * x1 + 0) ≤ 0) (f8 : (-1) * x16 + (1 * x1 + 0) ≤ 0) (f9 : 1 * x17 + ((-1) * x2 + 0) ≤ 0) (f10 : (-1) * x17 + (1 * x2 + 0) ≤ 0) (f11 : 1 * x8 + ((-1) * x3 + 0) ≤ 0) (f12 : (-1) * x8 + (1 * x3 + 0) ≤ 0) (f13 : 1 * x10 + ((-1) * x2 + 0) ≤ 0) (f14 : (-1) * x10 + (1 * x2 + 0) ≤ 0) (f15 : 1 * x3 + ((-1) * x6 + 0) ≤ 0) (f16 : (x1 + 1) ≤ all_0 ((r_0 + 2))) (f17 : RWS (r_0) (all_0) (now_0) (latest_0)) (f18 : 1 * from_0 + ((-1) * pos_0 + 0) ≤ 0) (f19 : ((kind_0 = 1) → (pos_0 ≤ (from_0 + 8))) ∧ ((kind_0 = 0) ∨ ((from_0 + 1) ≤ pos_0))) (f20 : 1 * x14 + ((-1) * pos_0 + 0) ≤ 0) (f21 : (1 ≤ fault_0) ∨ ((kind_0 = 0) ∨ ((x14 + 1) ≤ pos_0))) (f22 : (1 ≤ fault_0) ∨ (0 ≤ x15)) (f23 : 1 * x18 + ((-1) * x13 + 0) ≤ 0) (f24 : (-1) * x18 + 0 ≤ 0) (f25 : zOFs (limit_0) (pos_0) (kind_0) (place_0) (value_0) (from_0) (fault_0) (faultPlace_0) (r_0) (tape_0) (all_0) (x15) (x18) (x16) (x17)) (f27 : 1 * x14 + ((-1) * x3 + 0) ≤ 0) (f28 : (-1) * x14 + (1 * x3 + 0) ≤ 0) (f29 : 1 * x15 + ((-1) * x11 + 0) ≤ 0) (f30 : (-1) * x15 + (1 * x11 + 0) ≤ 0) (f31 : 1 * x16 + ((-1) * x1 + 0) ≤ 0) (f32 : (-1) * x16 + (1 * x1 + 0) ≤ 0) (f33 : 1 * x17 + ((-1) * x2 + 0) ≤ 0) (f34 : (-1) * x17 + (1 * x2 + 0) ≤ 0) (f35 : 1 * x8 + ((-1) * x3 + 0) ≤ 0) (f36 : (-1) * x8 + (1 * x3 + 0) ≤ 0) (f37 : 1 * x10 + ((-1) * x2 + 0) ≤ 0) (f38 : (-1) * x10 + (1 * x2 + 0) ≤ 0) (f40 : 1 * x8 + ((-1) * x3 + 0) ≤ 0) (f41 : (-1) * x8 + (1 * x3 + 0) ≤ 0) (f42 : 1 * x10 + ((-1) * x2 + 0) ≤ 0) (f43 : (-1) * x10 + (1 * x2 + 0) ≤ 0) (hK_0_1 : ∀ j : Int, 0 ≤ j → j < 2000 → (-128) ≤ tape_0 j ∧ tape_0 j ≤ 127) (hK_0_3 : ∀ j : Int, 0 ≤ j → j < 4 → 0 ≤ now_0 j ∧ now_0 j ≤ 30) (hK_0_4 : ∀ j : Int, 0 ≤ j → j < 4 → 0 ≤ latest_0 j ∧ latest_0 j ≤ 30) (kz_0_8 : 0 ≤ fault_0 ∧ fault_0 ≤ 5) (kz_0_9 : 0 ≤ faultPlace_0 ∧ faultPlace_0 ≤ 2000) (kz_0_10 : 0 ≤ limit_0 ∧ limit_0 ≤ 2000) (kz_0_11 : 0 ≤ pos_0 ∧ pos_0 ≤ 2000) (kz_0_12 : 0 ≤ kind_0 ∧ kind_0 ≤ 4) (kz_0_13 : 0 ≤ place_0 ∧ place_0 ≤ 2000) (kz_0_14 : (-49) ≤ value_0 ∧ value_0 ≤ 1048575) (kz_0_15 : 0 ≤ from_0 ∧ from_0 ≤ 2000) (ex2 : gx = x3) (ex3 : 0 ≤ gx ∧ gx ≤ 2000) (ey2 : gy = x1) (ey3 : 0 ≤ gy ∧ gy ≤ 7) (eu2 : gu = x2) (eu3 : 0 ≤ gu ∧ gu ≤ 4) : zONs (limit_0) (pos_0) (kind_0) (place_0) (value_0) (from_0) (fault_0) (faultPlace_0) (r_0) (tape_0) (all_0) (gy) (gu) := by
  first | (have el_x14 : x14 = x3 := by omega); subst el_x14 | skip
  first | (have el_x15 : x15 = x11 := by omega); subst el_x15 | skip
  first | (have el_x16 : x16 = x1 := by omega); subst el_x16 | skip
  first | (have el_x17 : x17 = x2 := by omega); subst el_x17 | skip
  first | (have el_x8 : x8 = x3 := by omega); subst el_x8 | skip
  first | (have el_x10 : x10 = x2 := by omega); subst el_x10 | skip
  first | subst g2 | skip
  first | subst ex2 | skip
  first | subst ey2 | skip
  first | subst eu2 | skip
  first
    | exact it_nosize ‹zOFs _ _ _ _ _ _ _ _ _ _ _ _ _ _ _› (Or.inl (by omega))
    | exact it_nosize ‹zOFs _ _ _ _ _ _ _ _ _ _ _ _ _ _ _› (Or.inr (by omega))
    | exact it_size ‹zOFs _ _ _ _ _ _ _ _ _ _ _ _ _ _ _› (by omega) (by omega) (by omega) (by omega) (by assumption) (by omega) (by omega)
def o_Mo_item_at_k4_9 : or_T := (64, 21, [(0, (2, 0, 0, [165])), (1, (0, 0, 7, [])), (2, (0, 4, 4, [])), (3, (0, 0, 2000, [])), (6, (0, 0, 2000, [])), (8, (0, 0, 2000, [])), (10, (0, 0, 4, [])), (11, (0, -1, 23, [])), (13, (0, 99, 99, [])), (14, (0, 0, 2000, [])), (15, (0, -1, 48, [])), (16, (0, 0, 7, [])), (17, (0, 0, 4, [])), (18, (0, -49, 0, [])), (19, (0, 0, 0, []))], [(8, [18], [5]), (8, [19], [0]), (9, [19, 0], [8]), (23, [14, 3], [0, 1, -1]), (23, [14, 3], [0, -1, 1]), (23, [15, 11], [0, 1, -1]), (23, [15, 11], [0, -1, 1]), (23, [16, 1], [0, 1, -1]), (23, [16, 1], [0, -1, 1]), (23, [17, 2], [0, 1, -1]), (23, [17, 2], [0, -1, 1]), (23, [8, 3], [0, 1, -1]), (23, [8, 3], [0, -1, 1]), (23, [10, 2], [0, 1, -1]), (23, [10, 2], [0, -1, 1]), (20, [3, 6], [30, 0, 1, 0, 0, -1, 0, 0]), (20, [1, 0], [50, 1, 1, 1005, 1002, 0, 6, 4, 2, 1, 0, 0, 1, 3, 1, 2, 4, 3, 2, 1, 5, 0, 2]), (20, [0], [60, 1, 3, 199, 5, 2, 3, 4]), (20, [0, 0], [30, 0, 1, 1, 15, -1, 1, 11]), (20, [0], [50, 3, 0, 12, 11, 15, 2, 21, 4, 7, 1, 3, 2, 0, 12, 0, 1, 0, 3, 2, 0, 11, 4, 3, 2, 0, 15, 0, 8, 3, 7, 1, 3, 2, 0, 12, 0, 0, 0, 7, 4, 3, 2, 0, 15, 0, 1, 2, 0, 11]), (20, [14, 0], [30, 0, 1, 0, 0, -1, 1, 11]), (20, [0, 14], [50, 3, 0, 8, 12, 11, 3, 7, 0, 2, 0, 1, 2, 0, 8, 3, 7, 1, 3, 2, 0, 12, 0, 0, 0, 6, 4, 2, 1, 1, 0, 1, 2, 0, 11]), (20, [0, 15], [50, 1, 0, 8, 3, 7, 0, 2, 0, 1, 2, 0, 8, 0, 2, 0, 0, 1, 1]), (20, [18, 13], [30, 0, 1, 0, 0, -1, 0, 0]), (20, [18], [30, 0, -1, 0, 0]), (20, [0, 15, 18, 16, 17], [60, 9, 2, 1013, 10, 11, 12, 13, 14, 15, 8, 9, 5, 1, 2]), (102, [17], [0, 165008, 165009, 165011, 165012, 165013, 165014, 165015]), (23, [14, 3], [0, 1, -1]), (23, [14, 3], [0, -1, 1]), (23, [15, 11], [0, 1, -1]), (23, [15, 11], [0, -1, 1]), (23, [16, 1], [0, 1, -1]), (23, [16, 1], [0, -1, 1]), (23, [17, 2], [0, 1, -1]), (23, [17, 2], [0, -1, 1]), (23, [8, 3], [0, 1, -1]), (23, [8, 3], [0, -1, 1]), (23, [10, 2], [0, 1, -1]), (23, [10, 2], [0, -1, 1]), (102, [10], [187072209578355573530071658587684226515959365500928, 165008, 165009, 165011, 165012, 165013, 165014, 165015]), (23, [8, 3], [0, 1, -1]), (23, [8, 3], [0, -1, 1]), (23, [10, 2], [0, 1, -1]), (23, [10, 2], [0, -1, 1])], [], [(0, 0, 2000, []), (0, 0, 7, []), (0, 0, 4, [])], [(23, [21, 3], [0, 1, -1]), (23, [21, 3], [0, -1, 1]), (23, [22, 1], [0, 1, -1]), (23, [22, 1], [0, -1, 1]), (23, [23, 2], [0, 1, -1]), (23, [23, 2], [0, -1, 1]), (20, [0, 0], [30, 0, 1, 1, 15, -1, 1, 11]), (20, [0], [50, 3, 0, 12, 11, 15, 2, 21, 4, 7, 1, 3, 2, 0, 12, 0, 1, 0, 3, 2, 0, 11, 4, 3, 2, 0, 15, 0, 8, 3, 7, 1, 3, 2, 0, 12, 0, 0, 0, 7, 4, 3, 2, 0, 15, 0, 1, 2, 0, 11]), (20, [21, 0], [30, 0, 1, 0, 0, -1, 1, 11]), (20, [0, 21], [50, 3, 0, 8, 12, 11, 3, 7, 0, 2, 0, 1, 2, 0, 8, 3, 7, 1, 3, 2, 0, 12, 0, 0, 0, 6, 4, 2, 1, 1, 0, 1, 2, 0, 11]), (20, [0, 22, 23], [60, 9, 2, 1018, 10, 11, 12, 13, 14, 15, 8, 9, 5, 1, 2])], [], [])
theorem oo_Mo_item_at_k4_9 {kA : Nat → ClassId} : or_ok PRD kA GG o_Mo_item_at_k4_9 := by
  refine or_mk fun A ta ws vs hD hth hl => ?_
  intro t0 r0 t1 k1 t2 k2 t3 k3 t6 k6 t8 k8 t10 k10 t11 k11 t13 k13 t14 k14 t15 k15 t16 k16 t17 k17 t18 k18 t19 k19 f0 f1 f2 f3 f4 f5 f6 f7 f8 f9 f10 f11 f12 f13 f14 f15 f16 f17 f18 f19 f20 f21 f22 f23 f24 f25 ta1 w1 le1 s1 f27 f28 f29 f30 f31 f32 f33 f34 f35 f36 f37 f38 ta2 w2 le2 s2 f40 f41 f42 f43
  replace f0 := shm_295 f0
  replace f1 := shm_192 f1
  replace f2 := shm_293 f2
  replace f3 := shm_7 f3
  replace f4 := shm_22 f4
  replace f5 := shm_7 f5
  replace f6 := shm_22 f6
  replace f7 := shm_7 f7
  replace f8 := shm_22 f8
  replace f9 := shm_7 f9
  replace f10 := shm_22 f10
  replace f11 := shm_7 f11
  replace f12 := shm_22 f12
  replace f13 := shm_7 f13
  replace f14 := shm_22 f14
  replace f15 := shm_201 f15
  replace f16 := shm_1009 f16
  replace f17 := shm_980 f17
  replace f18 := shm_1437 f18
  replace f19 := shm_1438 f19
  replace f20 := shm_1431 f20
  replace f21 := shm_1722 f21
  replace f22 := shm_2000 f22
  replace f23 := shm_201 f23
  replace f24 := shm_2002 f24
  replace f25 := shm_2003 f25
  replace f27 := shm_7 f27
  replace f28 := shm_22 f28
  replace f29 := shm_7 f29
  replace f30 := shm_22 f30
  replace f31 := shm_7 f31
  replace f32 := shm_22 f32
  replace f33 := shm_7 f33
  replace f34 := shm_22 f34
  replace f35 := shm_7 f35
  replace f36 := shm_22 f36
  replace f37 := shm_7 f37
  replace f38 := shm_22 f38
  replace f40 := shm_7 f40
  replace f41 := shm_22 f41
  replace f42 := shm_7 f42
  replace f43 := shm_22 f43
  have cr_0_1 := fdq_39 hD hth r0
  have cr_0_3 := fdq_142 hD hth r0
  have cr_0_4 := fdq_143 hD hth r0
  have g2 : v_iv (n_v vs 19) = w_fi ws (n_v vs 0) 8 := congrArg v_iv f2
  have hK_0_1 := elq_7 hD hth cr_0_1
  have hK_0_3 := elq_80 hD hth cr_0_3
  have hK_0_4 := elq_81 hD hth cr_0_4
  have kz_0_8 := fdq_34 hD hth r0
  have kz_0_9 := fdq_44 hD hth r0
  have kz_0_10 := fdq_43 hD hth r0
  have kz_0_11 := fdq_237 hD hth r0
  have kz_0_12 := fdq_187 hD hth r0
  have kz_0_13 := fdq_238 hD hth r0
  have kz_0_14 := fdq_188 hD hth r0
  have kz_0_15 := fdq_239 hD hth r0
  obtain ⟨x, ex, hx⟩ := iv_ex (ta := ta) (lo := 0) (hi := 2000) (z := v_iv (n_v vs 3)) (by omega) (by omega) (by omega) (by omega)
  have ex2 : v_iv (Value.int x) = v_iv (n_v vs 3) := ex
  have ex3 : 0 ≤ v_iv (Value.int x) ∧ v_iv (Value.int x) ≤ 2000 := tv_rng hx
  obtain ⟨y, ey, hy⟩ := iv_ex (ta := ta) (lo := 0) (hi := 7) (z := v_iv (n_v vs 1)) (by omega) (by omega) (by omega) (by omega)
  have ey2 : v_iv (Value.int y) = v_iv (n_v vs 1) := ey
  have ey3 : 0 ≤ v_iv (Value.int y) ∧ v_iv (Value.int y) ≤ 7 := tv_rng hy
  obtain ⟨u, eu, hu⟩ := iv_ex (ta := ta) (lo := 0) (hi := 4) (z := v_iv (n_v vs 2)) (by omega) (by omega) (by omega) (by omega)
  have eu2 : v_iv (Value.int u) = v_iv (n_v vs 2) := eu
  have eu3 : 0 ≤ v_iv (Value.int u) ∧ v_iv (Value.int u) ≤ 4 := tv_rng hu
  have e_0 : n_v (vs ++ [Value.int x, Value.int y, Value.int u]) 0 = n_v vs 0 := n_v_old (by rw [hl]; decide)
  have e_1 : n_v (vs ++ [Value.int x, Value.int y, Value.int u]) 1 = n_v vs 1 := n_v_old (by rw [hl]; decide)
  have e_2 : n_v (vs ++ [Value.int x, Value.int y, Value.int u]) 2 = n_v vs 2 := n_v_old (by rw [hl]; decide)
  have e_3 : n_v (vs ++ [Value.int x, Value.int y, Value.int u]) 3 = n_v vs 3 := n_v_old (by rw [hl]; decide)
  have e_21 : n_v (vs ++ [Value.int x, Value.int y, Value.int u]) 21 = Value.int x := n_v_newk (k := 0) hl rfl
  have e_22 : n_v (vs ++ [Value.int x, Value.int y, Value.int u]) 22 = Value.int y := n_v_newk (k := 1) hl rfl
  have e_23 : n_v (vs ++ [Value.int x, Value.int y, Value.int u]) 23 = Value.int u := n_v_newk (k := 2) hl rfl
  have nf0 : fc_1 PRD (23, [21, 3], [0, 1, -1]) ws (vs ++ [Value.int x, Value.int y, Value.int u]) := by
    refine ⟨nf_inA hl rfl, sgq_7 ?_⟩
    · show 1 * v_iv (n_v (vs ++ [Value.int x, Value.int y, Value.int u]) 21) + ((-1) * v_iv (n_v (vs ++ [Value.int x, Value.int y, Value.int u]) 3) + 0) ≤ 0
      simp only [e_3, e_21]
      exact vc_Mo_item_at_k4_9_0 (v_iv (n_v vs 3)) (v_iv (n_v vs 14)) (w_fi ws (n_v vs 0) 5) (v_iv (Value.int x)) k3 k14 f3 f4 ex2
  have nf1 : fc_1 PRD (23, [21, 3], [0, -1, 1]) ws (vs ++ [Value.int x, Value.int y, Value.int u]) := by
    refine ⟨nf_inA hl rfl, sgq_22 ?_⟩
    · show (-1) * v_iv (n_v (vs ++ [Value.int x, Value.int y, Value.int u]) 21) + (1 * v_iv (n_v (vs ++ [Value.int x, Value.int y, Value.int u]) 3) + 0) ≤ 0
      simp only [e_3, e_21]
      exact vc_Mo_item_at_k4_9_1 (v_iv (n_v vs 3)) (v_iv (n_v vs 14)) (w_fi ws (n_v vs 0) 5) (v_iv (Value.int x)) k3 k14 f3 f4 ex2
  have nf2 : fc_1 PRD (23, [22, 1], [0, 1, -1]) ws (vs ++ [Value.int x, Value.int y, Value.int u]) := by
    refine ⟨nf_inA hl rfl, sgq_7 ?_⟩
    · show 1 * v_iv (n_v (vs ++ [Value.int x, Value.int y, Value.int u]) 22) + ((-1) * v_iv (n_v (vs ++ [Value.int x, Value.int y, Value.int u]) 1) + 0) ≤ 0
      simp only [e_1, e_22]
      exact vc_Mo_item_at_k4_9_2 (v_iv (n_v vs 1)) (v_iv (n_v vs 16)) (w_fi ws (n_v vs 0) 5) (v_iv (Value.int y)) k1 k16 f7 f8 ey2
  have nf3 : fc_1 PRD (23, [22, 1], [0, -1, 1]) ws (vs ++ [Value.int x, Value.int y, Value.int u]) := by
    refine ⟨nf_inA hl rfl, sgq_22 ?_⟩
    · show (-1) * v_iv (n_v (vs ++ [Value.int x, Value.int y, Value.int u]) 22) + (1 * v_iv (n_v (vs ++ [Value.int x, Value.int y, Value.int u]) 1) + 0) ≤ 0
      simp only [e_1, e_22]
      exact vc_Mo_item_at_k4_9_3 (v_iv (n_v vs 1)) (v_iv (n_v vs 16)) (w_fi ws (n_v vs 0) 5) (v_iv (Value.int y)) k1 k16 f7 f8 ey2
  have nf4 : fc_1 PRD (23, [23, 2], [0, 1, -1]) ws (vs ++ [Value.int x, Value.int y, Value.int u]) := by
    refine ⟨nf_inA hl rfl, sgq_7 ?_⟩
    · show 1 * v_iv (n_v (vs ++ [Value.int x, Value.int y, Value.int u]) 23) + ((-1) * v_iv (n_v (vs ++ [Value.int x, Value.int y, Value.int u]) 2) + 0) ≤ 0
      simp only [e_2, e_23]
      exact vc_Mo_item_at_k4_9_4 (v_iv (n_v vs 2)) (w_fi ws (n_v vs 0) 5) (v_iv (Value.int u)) k2 eu2
  have nf5 : fc_1 PRD (23, [23, 2], [0, -1, 1]) ws (vs ++ [Value.int x, Value.int y, Value.int u]) := by
    refine ⟨nf_inA hl rfl, sgq_22 ?_⟩
    · show (-1) * v_iv (n_v (vs ++ [Value.int x, Value.int y, Value.int u]) 23) + (1 * v_iv (n_v (vs ++ [Value.int x, Value.int y, Value.int u]) 2) + 0) ≤ 0
      simp only [e_2, e_23]
      exact vc_Mo_item_at_k4_9_5 (v_iv (n_v vs 2)) (w_fi ws (n_v vs 0) 5) (v_iv (Value.int u)) k2 eu2
  have nf6 : fc_1 PRD (20, [0, 0], [30, 0, 1, 1, 15, -1, 1, 11]) ws (vs ++ [Value.int x, Value.int y, Value.int u]) := by
    refine ⟨nf_inA hl rfl, sgq_1437 ?_⟩
    · show 1 * w_fi ws (n_v (vs ++ [Value.int x, Value.int y, Value.int u]) 0) 15 + ((-1) * w_fi ws (n_v (vs ++ [Value.int x, Value.int y, Value.int u]) 0) 11 + 0) ≤ 0
      rw [e_0]
      exact vc_Mo_item_at_k4_9_6 (v_iv (n_v vs 1)) (v_iv (n_v vs 2)) (v_iv (n_v vs 3)) (v_iv (n_v vs 6)) (v_iv (n_v vs 8)) (v_iv (n_v vs 10)) (v_iv (n_v vs 11)) (v_iv (n_v vs 13)) (v_iv (n_v vs 14)) (v_iv (n_v vs 15)) (v_iv (n_v vs 16)) (v_iv (n_v vs 17)) (v_iv (n_v vs 18)) (v_iv (n_v vs 19)) (w_fi ws (n_v vs 0) 8) (w_ei ws (w_ar ws (n_v vs 0) 2)) (w_fi ws (n_v vs 0) 5) (w_ei ws (w_ar ws (n_v vs 0) 3)) (w_ei ws (w_ar ws (n_v vs 0) 4)) (w_fi ws (n_v vs 0) 15) (w_fi ws (n_v vs 0) 11) (w_fi ws (n_v vs 0) 12) (w_ei ws (w_ar ws (n_v vs 0) 1)) (w_fi ws (n_v vs 0) 10) (w_fi ws (n_v vs 0) 13) (w_fi ws (n_v vs 0) 14) (w_fi ws (n_v vs 0) 9) (v_iv (Value.int x)) (v_iv (Value.int y)) (v_iv (Value.int u)) k1 k2 k3 k6 k8 k10 k11 k13 k14 k15 k16 k17 k18 k19 f0 f1 g2 f3 f4 f5 f6 f7 f8 f9 f10 f11 f12 f13 f14 f15 f16 f17 f18 f19 f20 f21 f22 f23 f24 f25 f27 f28 f29 f30 f31 f32 f33 f34 f35 f36 f37 f38 f40 f41 f42 f43 hK_0_1 hK_0_3 hK_0_4 kz_0_8 kz_0_9 kz_0_10 kz_0_11 kz_0_12 kz_0_13 kz_0_14 kz_0_15 ex2 ex3 ey2 ey3 eu2 eu3
  have nf7 : fc_1 PRD (20, [0], [50, 3, 0, 12, 11, 15, 2, 21, 4, 7, 1, 3, 2, 0, 12, 0, 1, 0, 3, 2, 0, 11, 4, 3, 2, 0, 15, 0, 8, 3, 7, 1, 3, 2, 0, 12, 0, 0, 0, 7, 4, 3, 2, 0, 15, 0, 1, 2, 0, 11]) ws (vs ++ [Value.int x, Value.int y, Value.int u]) := by
    refine ⟨nf_inA hl rfl, sgq_1438 ?_⟩
    · show ((w_fi ws (n_v (vs ++ [Value.int x, Value.int y, Value.int u]) 0) 12 = 1) → (w_fi ws (n_v (vs ++ [Value.int x, Value.int y, Value.int u]) 0) 11 ≤ (w_fi ws (n_v (vs ++ [Value.int x, Value.int y, Value.int u]) 0) 15 + 8))) ∧ ((w_fi ws (n_v (vs ++ [Value.int x, Value.int y, Value.int u]) 0) 12 = 0) ∨ ((w_fi ws (n_v (vs ++ [Value.int x, Value.int y, Value.int u]) 0) 15 + 1) ≤ w_fi ws (n_v (vs ++ [Value.int x, Value.int y, Value.int u]) 0) 11))
      rw [e_0]
      exact vc_Mo_item_at_k4_9_7 (v_iv (n_v vs 1)) (v_iv (n_v vs 2)) (v_iv (n_v vs 3)) (v_iv (n_v vs 6)) (v_iv (n_v vs 8)) (v_iv (n_v vs 10)) (v_iv (n_v vs 11)) (v_iv (n_v vs 13)) (v_iv (n_v vs 14)) (v_iv (n_v vs 15)) (v_iv (n_v vs 16)) (v_iv (n_v vs 17)) (v_iv (n_v vs 18)) (v_iv (n_v vs 19)) (w_fi ws (n_v vs 0) 8) (w_ei ws (w_ar ws (n_v vs 0) 2)) (w_fi ws (n_v vs 0) 5) (w_ei ws (w_ar ws (n_v vs 0) 3)) (w_ei ws (w_ar ws (n_v vs 0) 4)) (w_fi ws (n_v vs 0) 15) (w_fi ws (n_v vs 0) 11) (w_fi ws (n_v vs 0) 12) (w_ei ws (w_ar ws (n_v vs 0) 1)) (w_fi ws (n_v vs 0) 10) (w_fi ws (n_v vs 0) 13) (w_fi ws (n_v vs 0) 14) (w_fi ws (n_v vs 0) 9) (v_iv (Value.int x)) (v_iv (Value.int y)) (v_iv (Value.int u)) k1 k2 k3 k6 k8 k10 k11 k13 k14 k15 k16 k17 k18 k19 f0 f1 g2 f3 f4 f5 f6 f7 f8 f9 f10 f11 f12 f13 f14 f15 f16 f17 f18 f19 f20 f21 f22 f23 f24 f25 f27 f28 f29 f30 f31 f32 f33 f34 f35 f36 f37 f38 f40 f41 f42 f43 hK_0_1 hK_0_3 hK_0_4 kz_0_8 kz_0_9 kz_0_10 kz_0_11 kz_0_12 kz_0_13 kz_0_14 kz_0_15 ex2 ex3 ey2 ey3 eu2 eu3
  have nf8 : fc_1 PRD (20, [21, 0], [30, 0, 1, 0, 0, -1, 1, 11]) ws (vs ++ [Value.int x, Value.int y, Value.int u]) := by
    refine ⟨nf_inA hl rfl, sgq_1431 ?_⟩
    · show 1 * v_iv (n_v (vs ++ [Value.int x, Value.int y, Value.int u]) 21) + ((-1) * w_fi ws (n_v (vs ++ [Value.int x, Value.int y, Value.int u]) 0) 11 + 0) ≤ 0
      simp only [e_0, e_21]
      exact vc_Mo_item_at_k4_9_8 (v_iv (n_v vs 1)) (v_iv (n_v vs 2)) (v_iv (n_v vs 3)) (v_iv (n_v vs 6)) (v_iv (n_v vs 8)) (v_iv (n_v vs 10)) (v_iv (n_v vs 11)) (v_iv (n_v vs 13)) (v_iv (n_v vs 14)) (v_iv (n_v vs 15)) (v_iv (n_v vs 16)) (v_iv (n_v vs 17)) (v_iv (n_v vs 18)) (v_iv (n_v vs 19)) (w_fi ws (n_v vs 0) 8) (w_ei ws (w_ar ws (n_v vs 0) 2)) (w_fi ws (n_v vs 0) 5) (w_ei ws (w_ar ws (n_v vs 0) 3)) (w_ei ws (w_ar ws (n_v vs 0) 4)) (w_fi ws (n_v vs 0) 15) (w_fi ws (n_v vs 0) 11) (w_fi ws (n_v vs 0) 12) (w_ei ws (w_ar ws (n_v vs 0) 1)) (w_fi ws (n_v vs 0) 10) (w_fi ws (n_v vs 0) 13) (w_fi ws (n_v vs 0) 14) (w_fi ws (n_v vs 0) 9) (v_iv (Value.int x)) (v_iv (Value.int y)) (v_iv (Value.int u)) k1 k2 k3 k6 k8 k10 k11 k13 k14 k15 k16 k17 k18 k19 f0 f1 g2 f3 f4 f5 f6 f7 f8 f9 f10 f11 f12 f13 f14 f15 f16 f17 f18 f19 f20 f21 f22 f23 f24 f25 f27 f28 f29 f30 f31 f32 f33 f34 f35 f36 f37 f38 f40 f41 f42 f43 hK_0_1 hK_0_3 hK_0_4 kz_0_8 kz_0_9 kz_0_10 kz_0_11 kz_0_12 kz_0_13 kz_0_14 kz_0_15 ex2 ex3 ey2 ey3 eu2 eu3
  have nf9 : fc_1 PRD (20, [0, 21], [50, 3, 0, 8, 12, 11, 3, 7, 0, 2, 0, 1, 2, 0, 8, 3, 7, 1, 3, 2, 0, 12, 0, 0, 0, 6, 4, 2, 1, 1, 0, 1, 2, 0, 11]) ws (vs ++ [Value.int x, Value.int y, Value.int u]) := by
    refine ⟨nf_inA hl rfl, sgq_1722 ?_⟩
    · show (1 ≤ w_fi ws (n_v (vs ++ [Value.int x, Value.int y, Value.int u]) 0) 8) ∨ ((w_fi ws (n_v (vs ++ [Value.int x, Value.int y, Value.int u]) 0) 12 = 0) ∨ ((v_iv (n_v (vs ++ [Value.int x, Value.int y, Value.int u]) 21) + 1) ≤ w_fi ws (n_v (vs ++ [Value.int x, Value.int y, Value.int u]) 0) 11))
      simp only [e_0, e_21]
      exact vc_Mo_item_at_k4_9_9 (v_iv (n_v vs 1)) (v_iv (n_v vs 2)) (v_iv (n_v vs 3)) (v_iv (n_v vs 6)) (v_iv (n_v vs 8)) (v_iv (n_v vs 10)) (v_iv (n_v vs 11)) (v_iv (n_v vs 13)) (v_iv (n_v vs 14)) (v_iv (n_v vs 15)) (v_iv (n_v vs 16)) (v_iv (n_v vs 17)) (v_iv (n_v vs 18)) (v_iv (n_v vs 19)) (w_fi ws (n_v vs 0) 8) (w_ei ws (w_ar ws (n_v vs 0) 2)) (w_fi ws (n_v vs 0) 5) (w_ei ws (w_ar ws (n_v vs 0) 3)) (w_ei ws (w_ar ws (n_v vs 0) 4)) (w_fi ws (n_v vs 0) 15) (w_fi ws (n_v vs 0) 11) (w_fi ws (n_v vs 0) 12) (w_ei ws (w_ar ws (n_v vs 0) 1)) (w_fi ws (n_v vs 0) 10) (w_fi ws (n_v vs 0) 13) (w_fi ws (n_v vs 0) 14) (w_fi ws (n_v vs 0) 9) (v_iv (Value.int x)) (v_iv (Value.int y)) (v_iv (Value.int u)) k1 k2 k3 k6 k8 k10 k11 k13 k14 k15 k16 k17 k18 k19 f0 f1 g2 f3 f4 f5 f6 f7 f8 f9 f10 f11 f12 f13 f14 f15 f16 f17 f18 f19 f20 f21 f22 f23 f24 f25 f27 f28 f29 f30 f31 f32 f33 f34 f35 f36 f37 f38 f40 f41 f42 f43 hK_0_1 hK_0_3 hK_0_4 kz_0_8 kz_0_9 kz_0_10 kz_0_11 kz_0_12 kz_0_13 kz_0_14 kz_0_15 ex2 ex3 ey2 ey3 eu2 eu3
  have nf10 : fc_1 PRD (20, [0, 22, 23], [60, 9, 2, 1018, 10, 11, 12, 13, 14, 15, 8, 9, 5, 1, 2]) ws (vs ++ [Value.int x, Value.int y, Value.int u]) := by
    refine ⟨nf_inA hl rfl, sgq_1732 ?_⟩
    · show zONs (w_fi ws (n_v (vs ++ [Value.int x, Value.int y, Value.int u]) 0) 10) (w_fi ws (n_v (vs ++ [Value.int x, Value.int y, Value.int u]) 0) 11) (w_fi ws (n_v (vs ++ [Value.int x, Value.int y, Value.int u]) 0) 12) (w_fi ws (n_v (vs ++ [Value.int x, Value.int y, Value.int u]) 0) 13) (w_fi ws (n_v (vs ++ [Value.int x, Value.int y, Value.int u]) 0) 14) (w_fi ws (n_v (vs ++ [Value.int x, Value.int y, Value.int u]) 0) 15) (w_fi ws (n_v (vs ++ [Value.int x, Value.int y, Value.int u]) 0) 8) (w_fi ws (n_v (vs ++ [Value.int x, Value.int y, Value.int u]) 0) 9) (w_fi ws (n_v (vs ++ [Value.int x, Value.int y, Value.int u]) 0) 5) (w_ei ws (w_ar ws (n_v (vs ++ [Value.int x, Value.int y, Value.int u]) 0) 1)) (w_ei ws (w_ar ws (n_v (vs ++ [Value.int x, Value.int y, Value.int u]) 0) 2)) (v_iv (n_v (vs ++ [Value.int x, Value.int y, Value.int u]) 22)) (v_iv (n_v (vs ++ [Value.int x, Value.int y, Value.int u]) 23))
      simp only [e_0, e_22, e_23]
      exact vc_Mo_item_at_k4_9_10 (v_iv (n_v vs 1)) (v_iv (n_v vs 2)) (v_iv (n_v vs 3)) (v_iv (n_v vs 6)) (v_iv (n_v vs 8)) (v_iv (n_v vs 10)) (v_iv (n_v vs 11)) (v_iv (n_v vs 13)) (v_iv (n_v vs 14)) (v_iv (n_v vs 15)) (v_iv (n_v vs 16)) (v_iv (n_v vs 17)) (v_iv (n_v vs 18)) (v_iv (n_v vs 19)) (w_fi ws (n_v vs 0) 8) (w_ei ws (w_ar ws (n_v vs 0) 2)) (w_fi ws (n_v vs 0) 5) (w_ei ws (w_ar ws (n_v vs 0) 3)) (w_ei ws (w_ar ws (n_v vs 0) 4)) (w_fi ws (n_v vs 0) 15) (w_fi ws (n_v vs 0) 11) (w_fi ws (n_v vs 0) 12) (w_ei ws (w_ar ws (n_v vs 0) 1)) (w_fi ws (n_v vs 0) 10) (w_fi ws (n_v vs 0) 13) (w_fi ws (n_v vs 0) 14) (w_fi ws (n_v vs 0) 9) (v_iv (Value.int x)) (v_iv (Value.int y)) (v_iv (Value.int u)) k1 k2 k3 k6 k8 k10 k11 k13 k14 k15 k16 k17 k18 k19 f0 f1 g2 f3 f4 f5 f6 f7 f8 f9 f10 f11 f12 f13 f14 f15 f16 f17 f18 f19 f20 f21 f22 f23 f24 f25 f27 f28 f29 f30 f31 f32 f33 f34 f35 f36 f37 f38 f40 f41 f42 f43 hK_0_1 hK_0_3 hK_0_4 kz_0_8 kz_0_9 kz_0_10 kz_0_11 kz_0_12 kz_0_13 kz_0_14 kz_0_15 ex2 ex3 ey2 ey3 eu2 eu3
  exact ⟨(fun _ h => (by cases h)), [Value.int x, Value.int y, Value.int u], ag_three hx hy hu, List.forall_mem_cons.mpr ⟨⟨show (23 : Nat) < 100 from by decide, nf0⟩, List.forall_mem_cons.mpr ⟨⟨show (23 : Nat) < 100 from by decide, nf1⟩, List.forall_mem_cons.mpr ⟨⟨show (23 : Nat) < 100 from by decide, nf2⟩, List.forall_mem_cons.mpr ⟨⟨show (23 : Nat) < 100 from by decide, nf3⟩, List.forall_mem_cons.mpr ⟨⟨show (23 : Nat) < 100 from by decide, nf4⟩, List.forall_mem_cons.mpr ⟨⟨show (23 : Nat) < 100 from by decide, nf5⟩, List.forall_mem_cons.mpr ⟨⟨show (20 : Nat) < 100 from by decide, nf6⟩, List.forall_mem_cons.mpr ⟨⟨show (20 : Nat) < 100 from by decide, nf7⟩, List.forall_mem_cons.mpr ⟨⟨show (20 : Nat) < 100 from by decide, nf8⟩, List.forall_mem_cons.mpr ⟨⟨show (20 : Nat) < 100 from by decide, nf9⟩, List.forall_mem_cons.mpr ⟨⟨show (20 : Nat) < 100 from by decide, nf10⟩, (fun _ h => (by cases h))⟩⟩⟩⟩⟩⟩⟩⟩⟩⟩⟩, (fun _ h => (by cases h))⟩
set_option maxHeartbeats 4000000 in
theorem vc_Mo_item_at_k4_10_0 (x3 : Int) (x21 : Int) (r_0 : Int) (pos_0 : Int) (k3 : 0 ≤ x3 ∧ x3 ≤ 2000) (k21 : 0 ≤ x21 ∧ x21 ≤ 2000) (f0 : 1 * x21 + ((-1) * x3 + 0) ≤ 0) (f1 : (-1) * x21 + (1 * x3 + 0) ≤ 0) (f23 : 1 * x21 + ((-1) * pos_0 + 0) ≤ 0) (kz_0_11 : 0 ≤ pos_0 ∧ pos_0 ≤ 2000) : 1 * x3 + ((-1) * pos_0 + 0) ≤ 0 := by
  first
    | omega
    | (have q1 := (hE_0_2_1 (r_0 + 2) (by omega)).2 (by omega)
       have q2 := (hE_0_2_2 (r_0 + 2) (by omega)).2 (by omega)
       omega)
    | (have q1 := (hE_0_2_1 (r_0 + 1) (by omega)).2 (by omega)
       have q2 := (hE_0_2_2 (r_0 + 1) (by omega)).2 (by omega)
       omega)
    | (have q1 := (hE_0_2_1 (r_0 + 2) (by omega)).2 (by omega)
       omega)
    | (have q1 := (hE_0_2_1 (r_0 + 1) (by omega)).2 (by omega)
       omega)
    | (have q1 := (hE_0_2_1 (r_0 + 2) (by omega)).2 (by omega)
       have q2 := (hE_0_2_2 (r_0 + 2) (by omega)).2 (by omega)
       have q3 := (hE_0_2_3 (r_0 + 2) (by omega)).1 (by omega)
       omega)
    | (have q1 := (hE_0_2_1 (r_0 + 2) (by omega)).2 (by omega)
       have q2 := (hE_0_2_2 (r_0 + 2) (by omega)).2 (by omega)
       have q3 := (hE_0_2_3 (r_0 + 2) (by omega)).2 (by omega)
       omega)
set_option maxHeartbeats 4000000 in
theorem vc_Mo_item_at_k4_10_1 (x3 : Int) (x21 : Int) (r_0 : Int) (pos_0 : Int) (fault_0 : Int) (k3 : 0 ≤ x3 ∧ x3 ≤ 2000) (k21 : 0 ≤ x21 ∧ x21 ≤ 2000) (f0 : 1 * x21 + ((-1) * x3 + 0) ≤ 0) (f1 : (-1) * x21 + (1 * x3 + 0) ≤ 0) (f23 : 1 * x21 + ((-1) * pos_0 + 0) ≤ 0) (f24 : (1 ≤ fault_0) ∨ ((x21 + 1) ≤ pos_0)) (kz_0_8 : 0 ≤ fault_0 ∧ fault_0 ≤ 5) (kz_0_11 : 0 ≤ pos_0 ∧ pos_0 ≤ 2000) : (1 ≤ fault_0) ∨ ((x3 + 1) ≤ pos_0) := by
  first
    | omega
    | (have q1 := (hE_0_2_1 (r_0 + 2) (by omega)).2 (by omega)
       have q2 := (hE_0_2_2 (r_0 + 2) (by omega)).2 (by omega)
       omega)
    | (have q1 := (hE_0_2_1 (r_0 + 1) (by omega)).2 (by omega)
       have q2 := (hE_0_2_2 (r_0 + 1) (by omega)).2 (by omega)
       omega)
    | (have q1 := (hE_0_2_1 (r_0 + 2) (by omega)).2 (by omega)
       omega)
    | (have q1 := (hE_0_2_1 (r_0 + 1) (by omega)).2 (by omega)
       omega)
    | (have q1 := (hE_0_2_1 (r_0 + 2) (by omega)).2 (by omega)
       have q2 := (hE_0_2_2 (r_0 + 2) (by omega)).2 (by omega)
       have q3 := (hE_0_2_3 (r_0 + 2) (by omega)).1 (by omega)
       omega)
    | (have q1 := (hE_0_2_1 (r_0 + 2) (by omega)).2 (by omega)
       have q2 := (hE_0_2_2 (r_0 + 2) (by omega)).2 (by omega)
       have q3 := (hE_0_2_3 (r_0 + 2) (by omega)).2 (by omega)
       omega)
set_option maxHeartbeats 4000000 in
theorem vc_Mo_item_at_k4_10_2 (x1 : Int) (x2 : Int) (x3 : Int) (x6 : Int) (x8 : Int) (x10 : Int) (x13 : Int) (x14 : Int) (x16 : Int) (x17 : Int) (x18 : Int) (x21 : Int) (x22 : Int) (x23 : Int) (all_0 : Int → Int) (r_0 : Int) (now_0 : Int → Int) (latest_0 : Int → Int) (from_0 : Int) (pos_0 : Int) (kind_0 : Int) (fault_0 : Int) (tape_0 : Int → Int) (limit_0 : Int) (place_0 : Int) (value_0 : Int) (faultPlace_0 : Int) (k1 : 0 ≤ x1 ∧ x1 ≤ 7) (k2 : 4 ≤ x2 ∧ x2 ≤ 4) (k3 : 0 ≤ x3 ∧ x3 ≤ 2000) (k6 : 0 ≤ x6 ∧ x6 ≤ 2000) (k8 : 0 ≤ x8 ∧ x8 ≤ 2000) (k10 : 0 ≤ x10 ∧ x10 ≤ 4) (k13 : 99 ≤ x13 ∧ x13 ≤ 99) (k14 : 0 ≤ x14 ∧ x14 ≤ 2000) (k16 : 0 ≤ x16 ∧ x16 ≤ 7) (k17 : 0 ≤ x17 ∧ x17 ≤ 4) (k18 : (-49) ≤ x18 ∧ x18 ≤ 0) (k21 : 0 ≤ x21 ∧ x21 ≤ 2000) (k22 : 0 ≤ x22 ∧ x22 ≤ 7) (k23 : 0 ≤ x23 ∧ x23 ≤ 4) (f0 : 1 * x21 + ((-1) * x3 + 0) ≤ 0) (f1 : (-1) * x21 + (1 * x3 + 0) ≤ 0) (f2 : 1 * x22 + ((-1) * x1 + 0) ≤ 0) (f3 : (-1) * x22 + (1 * x1 + 0) ≤ 0) (f4 : 1 * x23 + ((-1) * x2 + 0) ≤ 0) (f5 : (-1) * x23 + (1 * x2 + 0) ≤ 0) (f6 : 1 * x14 + ((-1) * x3 + 0) ≤ 0) (f7 : (-1) * x14 + (1 * x3 + 0) ≤ 0) (f8 : 1 * x16 + ((-1) * x1 + 0) ≤ 0) (f9 : (-1) * x16 + (1 * x1 + 0) ≤ 0) (f10 : 1 * x17 + ((-1) * x2 + 0) ≤ 0) (f11 : (-1) * x17 + (1 * x2 + 0) ≤ 0) (f12 : 1 * x8 + ((-1) * x3 + 0) ≤ 0) (f13 : (-1) * x8 + (1 * x3 + 0) ≤ 0) (f14 : 1 * x10 + ((-1) * x2 + 0) ≤ 0) (f15 : (-1) * x10 + (1 * x2 + 0) ≤ 0) (f16 : 1 * x3 + ((-1) * x6 + 0) ≤ 0) (f17 : (x1 + 1) ≤ all_0 ((r_0 + 2))) (f18 : RWS (r_0) (all_0) (now_0) (latest_0)) (f19 : 1 * x18 + ((-1) * x13 + 0) ≤ 0) (f20 : (-1) * x18 + 0 ≤ 0) (f21 : 1 * from_0 + ((-1) * pos_0 + 0) ≤ 0) (f22 : ((kind_0 = 1) → (pos_0 ≤ (from_0 + 8))) ∧ ((kind_0 = 0) ∨ ((from_0 + 1) ≤ pos_0))) (f23 : 1 * x21 + ((-1) * pos_0 + 0) ≤ 0) (f24 : (1 ≤ fault_0) ∨ ((x21 + 1) ≤ pos_0)) (f25 : zOS0 (limit_0) (pos_0) (kind_0) (place_0) (value_0) (from_0) (fault_0) (faultPlace_0) (r_0) (tape_0) (all_0) (x22) (x23)) (f27 : 1 * x21 + ((-1) * x3 + 0) ≤ 0) (f28 : (-1) * x21 + (1 * x3 + 0) ≤ 0) (f29 : 1 * x22 + ((-1) * x1 + 0) ≤ 0) (f30 : (-1) * x22 + (1 * x1 + 0) ≤ 0) (f31 : 1 * x23 + ((-1) * x2 + 0) ≤ 0) (f32 : (-1) * x23 + (1 * x2 + 0) ≤ 0) (f33 : x18 ≤ 0) (f34 : 1 * x14 + ((-1) * x3 + 0) ≤ 0) (f35 : (-1) * x14 + (1 * x3 + 0) ≤ 0) (f36 : 1 * x16 + ((-1) * x1 + 0) ≤ 0) (f37 : (-1) * x16 + (1 * x1 + 0) ≤ 0) (f38 : 1 * x17 + ((-1) * x2 + 0) ≤ 0) (f39 : (-1) * x17 + (1 * x2 + 0) ≤ 0) (f40 : 1 * x8 + ((-1) * x3 + 0) ≤ 0) (f41 : (-1) * x8 + (1 * x3 + 0) ≤ 0) (f42 : 1 * x10 + ((-1) * x2 + 0) ≤ 0) (f43 : (-1) * x10 + (1 * x2 + 0) ≤ 0) (f45 : 1 * x14 + ((-1) * x3 + 0) ≤ 0) (f46 : (-1) * x14 + (1 * x3 + 0) ≤ 0) (f47 : 1 * x16 + ((-1) * x1 + 0) ≤ 0) (f48 : (-1) * x16 + (1 * x1 + 0) ≤ 0) (f49 : 1 * x17 + ((-1) * x2 + 0) ≤ 0) (f50 : (-1) * x17 + (1 * x2 + 0) ≤ 0) (f51 : 1 * x8 + ((-1) * x3 + 0) ≤ 0) (f52 : (-1) * x8 + (1 * x3 + 0) ≤ 0) (f53 : 1 * x10 + ((-1) * x2 + 0) ≤ 0) (f54 : (-1) * x10 + (1 * x2 + 0) ≤ 0) (f56 : 1 * x8 + ((-1) * x3 + 0) ≤ 0) (f57 : (-1) * x8 + (1 * x3 + 0) ≤ 0) (f58 : 1 * x10 + ((-1) * x2 + 0) ≤ 0) (f59 : (-1) * x10 + (1 * x2 + 0) ≤ 0) (hK_0_1 : ∀ j : Int, 0 ≤ j → j < 2000 → (-128) ≤ tape_0 j ∧ tape_0 j ≤ 127) (hK_0_3 : ∀ j : Int, 0 ≤ j → j < 4 → 0 ≤ now_0 j ∧ now_0 j ≤ 30) (hK_0_4 : ∀ j : Int, 0 ≤ j → j < 4 → 0 ≤ latest_0 j ∧ latest_0 j ≤ 30) (kz_0_8 : 0 ≤ fault_0 ∧ fault_0 ≤ 5) (kz_0_9 : 0 ≤ faultPlace_0 ∧ faultPlace_0 ≤ 2000) (kz_0_10 : 0 ≤ limit_0 ∧ limit_0 ≤ 2000) (kz_0_11 : 0 ≤ pos_0 ∧ pos_0 ≤ 2000) (kz_0_12 : 0 ≤ kind_0 ∧ kind_0 ≤ 4) (kz_0_13 : 0 ≤ place_0 ∧ place_0 ≤ 2000) (kz_0_14 : (-49) ≤ value_0 ∧ value_0 ≤ 1048575) (kz_0_15 : 0 ≤ from_0 ∧ from_0 ≤ 2000) : zOS0 (limit_0) (pos_0) (kind_0) (place_0) (value_0) (from_0) (fault_0) (faultPlace_0) (r_0) (tape_0) (all_0) (x1) (x2) := by
  first | (have el_x21 : x21 = x3 := by omega); subst el_x21 | skip
  first | (have el_x22 : x22 = x1 := by omega); subst el_x22 | skip
  first | (have el_x23 : x23 = x2 := by omega); subst el_x23 | skip
  first | (have el_x14 : x14 = x3 := by omega); subst el_x14 | skip
  first | (have el_x16 : x16 = x1 := by omega); subst el_x16 | skip
  first | (have el_x17 : x17 = x2 := by omega); subst el_x17 | skip
  first | (have el_x8 : x8 = x3 := by omega); subst el_x8 | skip
  first | (have el_x10 : x10 = x2 := by omega); subst el_x10 | skip
  assumption
def o_Mo_item_at_k4_10 : or_T := (94, 24, [(0, (2, 0, 0, [165])), (1, (0, 0, 7, [])), (2, (0, 4, 4, [])), (3, (0, 0, 2000, [])), (6, (0, 0, 2000, [])), (8, (0, 0, 2000, [])), (10, (0, 0, 4, [])), (13, (0, 99, 99, [])), (14, (0, 0, 2000, [])), (16, (0, 0, 7, [])), (17, (0, 0, 4, [])), (18, (0, -49, 0, [])), (21, (0, 0, 2000, [])), (22, (0, 0, 7, [])), (23, (0, 0, 4, []))], [(23, [21, 3], [0, 1, -1]), (23, [21, 3], [0, -1, 1]), (23, [22, 1], [0, 1, -1]), (23, [22, 1], [0, -1, 1]), (23, [23, 2], [0, 1, -1]), (23, [23, 2], [0, -1, 1]), (23, [14, 3], [0, 1, -1]), (23, [14, 3], [0, -1, 1]), (23, [16, 1], [0, 1, -1]), (23, [16, 1], [0, -1, 1]), (23, [17, 2], [0, 1, -1]), (23, [17, 2], [0, -1, 1]), (23, [8, 3], [0, 1, -1]), (23, [8, 3], [0, -1, 1]), (23, [10, 2], [0, 1, -1]), (23, [10, 2], [0, -1, 1]), (20, [3, 6], [30, 0, 1, 0, 0, -1, 0, 0]), (20, [1, 0], [50, 1, 1, 1005, 1002, 0, 6, 4, 2, 1, 0, 0, 1, 3, 1, 2, 4, 3, 2, 1, 5, 0, 2]), (20, [0], [60, 1, 3, 199, 5, 2, 3, 4]), (20, [18, 13], [30, 0, 1, 0, 0, -1, 0, 0]), (20, [18], [30, 0, -1, 0, 0]), (20, [0, 0], [30, 0, 1, 1, 15, -1, 1, 11]), (20, [0], [50, 3, 0, 12, 11, 15, 2, 21, 4, 7, 1, 3, 2, 0, 12, 0, 1, 0, 3, 2, 0, 11, 4, 3, 2, 0, 15, 0, 8, 3, 7, 1, 3, 2, 0, 12, 0, 0, 0, 7, 4, 3, 2, 0, 15, 0, 1, 2, 0, 11]), (20, [21, 0], [30, 0, 1, 0, 0, -1, 1, 11]), (20, [0, 21], [50, 2, 0, 8, 11, 3, 7, 0, 2, 0, 1, 2, 0, 8, 0, 6, 4, 2, 1, 1, 0, 1, 2, 0, 11]), (20, [0, 22, 23], [60, 9, 2, 1007, 10, 11, 12, 13, 14, 15, 8, 9, 5, 1, 2]), (102, [23], [0, 165008, 165009, 165011, 165012, 165013, 165014, 165015]), (23, [21, 3], [0, 1, -1]), (23, [21, 3], [0, -1, 1]), (23, [22, 1], [0, 1, -1]), (23, [22, 1], [0, -1, 1]), (23, [23, 2], [0, 1, -1]), (23, [23, 2], [0, -1, 1]), (8, [18], [5]), (23, [14, 3], [0, 1, -1]), (23, [14, 3], [0, -1, 1]), (23, [16, 1], [0, 1, -1]), (23, [16, 1], [0, -1, 1]), (23, [17, 2], [0, 1, -1]), (23, [17, 2], [0, -1, 1]), (23, [8, 3], [0, 1, -1]), (23, [8, 3], [0, -1, 1]), (23, [10, 2], [0, 1, -1]), (23, [10, 2], [0, -1, 1]), (102, [17], [0, 165008, 165009, 165011, 165012, 165013, 165014, 165015]), (23, [14, 3], [0, 1, -1]), (23, [14, 3], [0, -1, 1]), (23, [16, 1], [0, 1, -1]), (23, [16, 1], [0, -1, 1]), (23, [17, 2], [0, 1, -1]), (23, [17, 2], [0, -1, 1]), (23, [8, 3], [0, 1, -1]), (23, [8, 3], [0, -1, 1]), (23, [10, 2], [0, 1, -1]), (23, [10, 2], [0, -1, 1]), (102, [10], [187072209578355573530071658587684226515959365500928, 165008, 165009, 165011, 165012, 165013, 165014, 165015]), (23, [8, 3], [0, 1, -1]), (23, [8, 3], [0, -1, 1]), (23, [10, 2], [0, 1, -1]), (23, [10, 2], [0, -1, 1])], [], [], [(20, [3, 0], [30, 0, 1, 0, 0, -1, 1, 11]), (20, [0, 3], [50, 2, 0, 8, 11, 3, 7, 0, 2, 0, 1, 2, 0, 8, 0, 6, 4, 2, 1, 1, 0, 1, 2, 0, 11]), (20, [0, 1, 2], [60, 9, 2, 1007, 10, 11, 12, 13, 14, 15, 8, 9, 5, 1, 2])], [], [])
theorem oo_Mo_item_at_k4_10 {kA : Nat → ClassId} : or_ok PRD kA GG o_Mo_item_at_k4_10 := by
  refine or_mk fun A ta ws vs hD hth hl => ?_
  intro t0 r0 t1 k1 t2 k2 t3 k3 t6 k6 t8 k8 t10 k10 t13 k13 t14 k14 t16 k16 t17 k17 t18 k18 t21 k21 t22 k22 t23 k23 f0 f1 f2 f3 f4 f5 f6 f7 f8 f9 f10 f11 f12 f13 f14 f15 f16 f17 f18 f19 f20 f21 f22 f23 f24 f25 ta1 w1 le1 s1 f27 f28 f29 f30 f31 f32 f33 f34 f35 f36 f37 f38 f39 f40 f41 f42 f43 ta2 w2 le2 s2 f45 f46 f47 f48 f49 f50 f51 f52 f53 f54 ta3 w3 le3 s3 f56 f57 f58 f59
  have cr_0_1 := fdq_39 hD hth r0
  have cr_0_3 := fdq_142 hD hth r0
  have cr_0_4 := fdq_143 hD hth r0
  have hK_0_1 := elq_7 hD hth cr_0_1
  have hK_0_3 := elq_80 hD hth cr_0_3
  have hK_0_4 := elq_81 hD hth cr_0_4
  have kz_0_8 := fdq_34 hD hth r0
  have kz_0_9 := fdq_44 hD hth r0
  have kz_0_10 := fdq_43 hD hth r0
  have kz_0_11 := fdq_237 hD hth r0
  have kz_0_12 := fdq_187 hD hth r0
  have kz_0_13 := fdq_238 hD hth r0
  have kz_0_14 := fdq_188 hD hth r0
  have kz_0_15 := fdq_239 hD hth r0
  have nf0 : fc_1 PRD (20, [3, 0], [30, 0, 1, 0, 0, -1, 1, 11]) ws (vs) := ⟨nf_in hl rfl, sgq_1431 (vc_Mo_item_at_k4_10_0 (v_iv (n_v vs 3)) (v_iv (n_v vs 21)) (w_fi ws (n_v vs 0) 5) (w_fi ws (n_v vs 0) 11) k3 k21 (shm_7 f0) (shm_22 f1) (shm_1431 f23) kz_0_11)⟩
  have nf1 : fc_1 PRD (20, [0, 3], [50, 2, 0, 8, 11, 3, 7, 0, 2, 0, 1, 2, 0, 8, 0, 6, 4, 2, 1, 1, 0, 1, 2, 0, 11]) ws (vs) := ⟨nf_in hl rfl, sgq_1726 (vc_Mo_item_at_k4_10_1 (v_iv (n_v vs 3)) (v_iv (n_v vs 21)) (w_fi ws (n_v vs 0) 5) (w_fi ws (n_v vs 0) 11) (w_fi ws (n_v vs 0) 8) k3 k21 (shm_7 f0) (shm_22 f1) (shm_1431 f23) (shm_1726 f24) kz_0_8 kz_0_11)⟩
  have nf2 : fc_1 PRD (20, [0, 1, 2], [60, 9, 2, 1007, 10, 11, 12, 13, 14, 15, 8, 9, 5, 1, 2]) ws (vs) := ⟨nf_in hl rfl, sgq_1727 (vc_Mo_item_at_k4_10_2 (v_iv (n_v vs 1)) (v_iv (n_v vs 2)) (v_iv (n_v vs 3)) (v_iv (n_v vs 6)) (v_iv (n_v vs 8)) (v_iv (n_v vs 10)) (v_iv (n_v vs 13)) (v_iv (n_v vs 14)) (v_iv (n_v vs 16)) (v_iv (n_v vs 17)) (v_iv (n_v vs 18)) (v_iv (n_v vs 21)) (v_iv (n_v vs 22)) (v_iv (n_v vs 23)) (w_ei ws (w_ar ws (n_v vs 0) 2)) (w_fi ws (n_v vs 0) 5) (w_ei ws (w_ar ws (n_v vs 0) 3)) (w_ei ws (w_ar ws (n_v vs 0) 4)) (w_fi ws (n_v vs 0) 15) (w_fi ws (n_v vs 0) 11) (w_fi ws (n_v vs 0) 12) (w_fi ws (n_v vs 0) 8) (w_ei ws (w_ar ws (n_v vs 0) 1)) (w_fi ws (n_v vs 0) 10) (w_fi ws (n_v vs 0) 13) (w_fi ws (n_v vs 0) 14) (w_fi ws (n_v vs 0) 9) k1 k2 k3 k6 k8 k10 k13 k14 k16 k17 k18 k21 k22 k23 (shm_7 f0) (shm_22 f1) (shm_7 f2) (shm_22 f3) (shm_7 f4) (shm_22 f5) (shm_7 f6) (shm_22 f7) (shm_7 f8) (shm_22 f9) (shm_7 f10) (shm_22 f11) (shm_7 f12) (shm_22 f13) (shm_7 f14) (shm_22 f15) (shm_201 f16) (shm_1009 f17) (shm_980 f18) (shm_201 f19) (shm_2002 f20) (shm_1437 f21) (shm_1438 f22) (shm_1431 f23) (shm_1726 f24) (shm_1727 f25) (shm_7 f27) (shm_22 f28) (shm_7 f29) (shm_22 f30) (shm_7 f31) (shm_22 f32) (shm_295 f33) (shm_7 f34) (shm_22 f35) (shm_7 f36) (shm_22 f37) (shm_7 f38) (shm_22 f39) (shm_7 f40) (shm_22 f41) (shm_7 f42) (shm_22 f43) (shm_7 f45) (shm_22 f46) (shm_7 f47) (shm_22 f48) (shm_7 f49) (shm_22 f50) (shm_7 f51) (shm_22 f52) (shm_7 f53) (shm_22 f54) (shm_7 f56) (shm_22 f57) (shm_7 f58) (shm_22 f59) hK_0_1 hK_0_3 hK_0_4 kz_0_8 kz_0_9 kz_0_10 kz_0_11 kz_0_12 kz_0_13 kz_0_14 kz_0_15)⟩
  refine ⟨(fun _ h => (by cases h)), [], trivial, ?_, (fun _ h => (by cases h))⟩
  rw [List.append_nil]
  exact List.forall_mem_cons.mpr ⟨⟨show (20 : Nat) < 100 from by decide, nf0⟩, List.forall_mem_cons.mpr ⟨⟨show (20 : Nat) < 100 from by decide, nf1⟩, List.forall_mem_cons.mpr ⟨⟨show (20 : Nat) < 100 from by decide, nf2⟩, (fun _ h => (by cases h))⟩⟩⟩
set_option maxHeartbeats 4000000 in
theorem vc_Mo_item_at_k4_11_r0 (x11 : Int) (x15 : Int) (x19 : Int) (r_0 : Int) (fault_0 : Int) (k11 : (-1) ≤ x11 ∧ x11 ≤ 23) (k15 : (-1) ≤ x15 ∧ x15 ≤ 48) (k19 : 0 ≤ x19 ∧ x19 ≤ 0) (g5 : x19 = fault_0) (f8 : 1 * x15 + ((-1) * x11 + 0) ≤ 0) (f9 : (-1) * x15 + (1 * x11 + 0) ≤ 0) (f25 : (1 ≤ fault_0) ∨ (0 ≤ x15)) (kz_0_8 : 0 ≤ fault_0 ∧ fault_0 ≤ 5) : 0 ≤ x11 ∧ x11 ≤ 23 := by
  first
    | omega
    | (have q1 := (hE_0_2_1 (r_0 + 2) (by omega)).2 (by omega)
       have q2 := (hE_0_2_2 (r_0 + 2) (by omega)).2 (by omega)
       omega)
    | (have q1 := (hE_0_2_1 (r_0 + 1) (by omega)).2 (by omega)
       have q2 := (hE_0_2_2 (r_0 + 1) (by omega)).2 (by omega)
       omega)
    | (have q1 := (hE_0_2_1 (r_0 + 2) (by omega)).2 (by omega)
       omega)
    | (have q1 := (hE_0_2_1 (r_0 + 1) (by omega)).2 (by omega)
       omega)
    | (have q1 := (hE_0_2_1 (r_0 + 2) (by omega)).2 (by omega)
       have q2 := (hE_0_2_2 (r_0 + 2) (by omega)).2 (by omega)
       have q3 := (hE_0_2_3 (r_0 + 2) (by omega)).1 (by omega)
       omega)
    | (have q1 := (hE_0_2_1 (r_0 + 2) (by omega)).2 (by omega)
       have q2 := (hE_0_2_2 (r_0 + 2) (by omega)).2 (by omega)
       have q3 := (hE_0_2_3 (r_0 + 2) (by omega)).2 (by omega)
       omega)
def o_Mo_item_at_k4_11 : or_T := (57, 24, [(0, (2, 0, 0, [165])), (1, (0, 0, 7, [])), (2, (0, 4, 4, [])), (3, (0, 0, 2000, [])), (6, (0, 0, 2000, [])), (8, (0, 0, 2000, [])), (10, (0, 0, 4, [])), (11, (0, -1, 23, [])), (13, (0, 99, 99, [])), (14, (0, 0, 2000, [])), (15, (0, -1, 48, [])), (16, (0, 0, 7, [])), (17, (0, 0, 4, [])), (18, (0, 1, 1048575, [])), (19, (0, 0, 0, [])), (20, (2, 0, 0, [167])), (21, (0, 0, 66297, [])), (22, (0, 219, 219, [])), (23, (0, 219, 66516, []))], [(1, [23, 21, 22], []), (9, [21, 0], [5]), (9, [20, 0], [2]), (8, [18], [4]), (8, [19], [0]), (9, [19, 0], [8]), (23, [14, 3], [0, 1, -1]), (23, [14, 3], [0, -1, 1]), (23, [15, 11], [0, 1, -1]), (23, [15, 11], [0, -1, 1]), (23, [16, 1], [0, 1, -1]), (23, [16, 1], [0, -1, 1]), (23, [17, 2], [0, 1, -1]), (23, [17, 2], [0, -1, 1]), (23, [8, 3], [0, 1, -1]), (23, [8, 3], [0, -1, 1]), (23, [10, 2], [0, 1, -1]), (23, [10, 2], [0, -1, 1]), (20, [3, 6], [30, 0, 1, 0, 0, -1, 0, 0]), (20, [1, 0], [50, 1, 1, 1005, 1002, 0, 6, 4, 2, 1, 0, 0, 1, 3, 1, 2, 4, 3, 2, 1, 5, 0, 2]), (20, [0], [60, 1, 3, 199, 5, 2, 3, 4]), (20, [0, 0], [30, 0, 1, 1, 15, -1, 1, 11]), (20, [0], [50, 3, 0, 12, 11, 15, 2, 21, 4, 7, 1, 3, 2, 0, 12, 0, 1, 0, 3, 2, 0, 11, 4, 3, 2, 0, 15, 0, 8, 3, 7, 1, 3, 2, 0, 12, 0, 0, 0, 7, 4, 3, 2, 0, 15, 0, 1, 2, 0, 11]), (20, [14, 0], [30, 0, 1, 0, 0, -1, 1, 11]), (20, [0, 14], [50, 3, 0, 8, 12, 11, 3, 7, 0, 2, 0, 1, 2, 0, 8, 3, 7, 1, 3, 2, 0, 12, 0, 0, 0, 6, 4, 2, 1, 1, 0, 1, 2, 0, 11]), (20, [0, 15], [50, 1, 0, 8, 3, 7, 0, 2, 0, 1, 2, 0, 8, 0, 2, 0, 0, 1, 1]), (20, [18, 13], [30, 0, 1, 0, 0, -1, 0, 0]), (20, [18], [30, 0, -1, 0, 0]), (20, [0, 15, 18, 16, 17], [60, 9, 2, 1013, 10, 11, 12, 13, 14, 15, 8, 9, 5, 1, 2]), (102, [17], [0, 165008, 165009, 165011, 165012, 165013, 165014, 165015]), (23, [14, 3], [0, 1, -1]), (23, [14, 3], [0, -1, 1]), (23, [15, 11], [0, 1, -1]), (23, [15, 11], [0, -1, 1]), (23, [16, 1], [0, 1, -1]), (23, [16, 1], [0, -1, 1]), (23, [17, 2], [0, 1, -1]), (23, [17, 2], [0, -1, 1]), (23, [8, 3], [0, 1, -1]), (23, [8, 3], [0, -1, 1]), (23, [10, 2], [0, 1, -1]), (23, [10, 2], [0, -1, 1]), (102, [10], [187072209578355573530071658587684226515959365500928, 165008, 165009, 165011, 165012, 165013, 165014, 165015]), (23, [8, 3], [0, 1, -1]), (23, [8, 3], [0, -1, 1]), (23, [10, 2], [0, 1, -1]), (23, [10, 2], [0, -1, 1])], [(11, (0, 0, 23, []))], [], [], [], [(23, 21, 219, 219)])
theorem oo_Mo_item_at_k4_11 {kA : Nat → ClassId} : or_ok PRD kA GG o_Mo_item_at_k4_11 := by
  refine or_mk fun A ta ws vs hD hth hl => ?_
  intro t0 r0 t1 k1 t2 k2 t3 k3 t6 k6 t8 k8 t10 k10 t11 k11 t13 k13 t14 k14 t15 k15 t16 k16 t17 k17 t18 k18 t19 k19 t20 r20 t21 k21 t22 k22 t23 k23 d0 f0 f1 f2 f3 f4 f5 f6 f7 f8 f9 f10 f11 f12 f13 f14 f15 f16 f17 f18 f19 f20 f21 f22 f23 f24 f25 f26 f27 f28 ta1 w1 le1 s1 f30 f31 f32 f33 f34 f35 f36 f37 f38 f39 f40 f41 ta2 w2 le2 s2 f43 f44 f45 f46
  replace f5 := shm_293 f5
  have g5 : v_iv (n_v vs 19) = w_fi ws (n_v vs 0) 8 := congrArg v_iv f5
  have kz_0_8 := fdq_34 hD hth r0
  have hrf0 : 0 ≤ v_iv (n_v vs 11) ∧ v_iv (n_v vs 11) ≤ 23 := vc_Mo_item_at_k4_11_r0 (v_iv (n_v vs 11)) (v_iv (n_v vs 15)) (v_iv (n_v vs 19)) (w_fi ws (n_v vs 0) 5) (w_fi ws (n_v vs 0) 8) k11 k15 k19 g5 (shm_7 f8) (shm_22 f9) (shm_2000 f25) kz_0_8
  have rf11 : tv_ok ta (0, 0, 23, []) (n_v vs 11) := tv_in t11 (by first | omega | grind) (by first | omega | grind)
  refine ⟨List.forall_mem_cons.mpr ⟨rf11, (fun _ h => (by cases h))⟩, [], trivial, ?_, (fun _ h => (by cases h))⟩
  rw [List.append_nil]
  exact (fun _ h => (by cases h))
set_option maxHeartbeats 4000000 in
theorem vc_Mo_item_at_k4_12_r0 (x13 : Int) (x18 : Int) (r_0 : Int) (k13 : 99 ≤ x13 ∧ x13 ≤ 99) (k18 : 1 ≤ x18 ∧ x18 ≤ 1048575) (f27 : 1 * x18 + ((-1) * x13 + 0) ≤ 0) : 1 ≤ x18 ∧ x18 ≤ 99 := by
  first
    | omega
    | (have q1 := (hE_0_2_1 (r_0 + 2) (by omega)).2 (by omega)
       have q2 := (hE_0_2_2 (r_0 + 2) (by omega)).2 (by omega)
       omega)
    | (have q1 := (hE_0_2_1 (r_0 + 1) (by omega)).2 (by omega)
       have q2 := (hE_0_2_2 (r_0 + 1) (by omega)).2 (by omega)
       omega)
    | (have q1 := (hE_0_2_1 (r_0 + 2) (by omega)).2 (by omega)
       omega)
    | (have q1 := (hE_0_2_1 (r_0 + 1) (by omega)).2 (by omega)
       omega)
    | (have q1 := (hE_0_2_1 (r_0 + 2) (by omega)).2 (by omega)
       have q2 := (hE_0_2_2 (r_0 + 2) (by omega)).2 (by omega)
       have q3 := (hE_0_2_3 (r_0 + 2) (by omega)).1 (by omega)
       omega)
    | (have q1 := (hE_0_2_1 (r_0 + 2) (by omega)).2 (by omega)
       have q2 := (hE_0_2_2 (r_0 + 2) (by omega)).2 (by omega)
       have q3 := (hE_0_2_3 (r_0 + 2) (by omega)).2 (by omega)
       omega)
def o_Mo_item_at_k4_12 : or_T := (60, 25, [(0, (2, 0, 0, [165])), (1, (0, 0, 7, [])), (2, (0, 4, 4, [])), (3, (0, 0, 2000, [])), (6, (0, 0, 2000, [])), (8, (0, 0, 2000, [])), (10, (0, 0, 4, [])), (11, (0, 0, 23, [])), (13, (0, 99, 99, [])), (14, (0, 0, 2000, [])), (15, (0, -1, 48, [])), (16, (0, 0, 7, [])), (17, (0, 0, 4, [])), (18, (0, 1, 1048575, [])), (19, (0, 0, 0, [])), (20, (2, 0, 0, [167])), (21, (0, 0, 66297, [])), (22, (0, 219, 219, [])), (23, (0, 219, 66516, [])), (24, (0, 219, 66539, []))], [(1, [24, 23, 11], []), (1, [23, 21, 22], []), (9, [21, 0], [5]), (9, [20, 0], [2]), (8, [18], [4]), (8, [19], [0]), (9, [19, 0], [8]), (23, [14, 3], [0, 1, -1]), (23, [14, 3], [0, -1, 1]), (23, [15, 11], [0, 1, -1]), (23, [15, 11], [0, -1, 1]), (23, [16, 1], [0, 1, -1]), (23, [16, 1], [0, -1, 1]), (23, [17, 2], [0, 1, -1]), (23, [17, 2], [0, -1, 1]), (23, [8, 3], [0, 1, -1]), (23, [8, 3], [0, -1, 1]), (23, [10, 2], [0, 1, -1]), (23, [10, 2], [0, -1, 1]), (20, [3, 6], [30, 0, 1, 0, 0, -1, 0, 0]), (20, [1, 0], [50, 1, 1, 1005, 1002, 0, 6, 4, 2, 1, 0, 0, 1, 3, 1, 2, 4, 3, 2, 1, 5, 0, 2]), (20, [0], [60, 1, 3, 199, 5, 2, 3, 4]), (20, [0, 0], [30, 0, 1, 1, 15, -1, 1, 11]), (20, [0], [50, 3, 0, 12, 11, 15, 2, 21, 4, 7, 1, 3, 2, 0, 12, 0, 1, 0, 3, 2, 0, 11, 4, 3, 2, 0, 15, 0, 8, 3, 7, 1, 3, 2, 0, 12, 0, 0, 0, 7, 4, 3, 2, 0, 15, 0, 1, 2, 0, 11]), (20, [14, 0], [30, 0, 1, 0, 0, -1, 1, 11]), (20, [0, 14], [50, 3, 0, 8, 12, 11, 3, 7, 0, 2, 0, 1, 2, 0, 8, 3, 7, 1, 3, 2, 0, 12, 0, 0, 0, 6, 4, 2, 1, 1, 0, 1, 2, 0, 11]), (20, [0, 15], [50, 1, 0, 8, 3, 7, 0, 2, 0, 1, 2, 0, 8, 0, 2, 0, 0, 1, 1]), (20, [18, 13], [30, 0, 1, 0, 0, -1, 0, 0]), (20, [18], [30, 0, -1, 0, 0]), (20, [0, 15, 18, 16, 17], [60, 9, 2, 1013, 10, 11, 12, 13, 14, 15, 8, 9, 5, 1, 2]), (102, [17], [0, 165008, 165009, 165011, 165012, 165013, 165014, 165015]), (23, [14, 3], [0, 1, -1]), (23, [14, 3], [0, -1, 1]), (23, [15, 11], [0, 1, -1]), (23, [15, 11], [0, -1, 1]), (23, [16, 1], [0, 1, -1]), (23, [16, 1], [0, -1, 1]), (23, [17, 2], [0, 1, -1]), (23, [17, 2], [0, -1, 1]), (23, [8, 3], [0, 1, -1]), (23, [8, 3], [0, -1, 1]), (23, [10, 2], [0, 1, -1]), (23, [10, 2], [0, -1, 1]), (102, [10], [187072209578355573530071658587684226515959365500928, 165008, 165009, 165011, 165012, 165013, 165014, 165015]), (23, [8, 3], [0, 1, -1]), (23, [8, 3], [0, -1, 1]), (23, [10, 2], [0, 1, -1]), (23, [10, 2], [0, -1, 1])], [(18, (0, 1, 99, []))], [], [], [], [(24, 11, 219, 66516), (24, 23, 0, 23), (24, 21, 219, 242), (23, 21, 219, 219)])
theorem oo_Mo_item_at_k4_12 {kA : Nat → ClassId} : or_ok PRD kA GG o_Mo_item_at_k4_12 := by
  refine or_mk fun A ta ws vs hD hth hl => ?_
  intro t0 r0 t1 k1 t2 k2 t3 k3 t6 k6 t8 k8 t10 k10 t11 k11 t13 k13 t14 k14 t15 k15 t16 k16 t17 k17 t18 k18 t19 k19 t20 r20 t21 k21 t22 k22 t23 k23 t24 k24 d0 d1 d2 d3 f0 f1 f2 f3 f4 f5 f6 f7 f8 f9 f10 f11 f12 f13 f14 f15 f16 f17 f18 f19 f20 f21 f22 f23 f24 f25 f26 f27 f28 f29 ta1 w1 le1 s1 f31 f32 f33 f34 f35 f36 f37 f38 f39 f40 f41 f42 ta2 w2 le2 s2 f44 f45 f46 f47
  have hrf0 : 1 ≤ v_iv (n_v vs 18) ∧ v_iv (n_v vs 18) ≤ 99 := vc_Mo_item_at_k4_12_r0 (v_iv (n_v vs 13)) (v_iv (n_v vs 18)) (w_fi ws (n_v vs 0) 5) k13 k18 (shm_201 f27)
  have rf18 : tv_ok ta (0, 1, 99, []) (n_v vs 18) := tv_in t18 (by first | omega | grind) (by first | omega | grind)
  refine ⟨List.forall_mem_cons.mpr ⟨rf18, (fun _ h => (by cases h))⟩, [], trivial, ?_, (fun _ h => (by cases h))⟩
  rw [List.append_nil]
  exact (fun _ h => (by cases h))

set_option maxHeartbeats 4000000 in
theorem vc_Mo_item_at_k4_13_0 (x1 : Int) (x11 : Int) (x15 : Int) (x16 : Int) (x18 : Int) (x21 : Int) (x23 : Int) (x24 : Int) (r_0 : Int) (fault_0 : Int) (from_0 : Int) (pos_0 : Int) (kind_0 : Int) (all_1 : Int → Int) (r_1 : Int) (now_1 : Int → Int) (latest_1 : Int → Int) (from_1 : Int) (pos_1 : Int) (kind_1 : Int) (fault_1 : Int) (tape_1 : Int → Int) (limit_1 : Int) (place_1 : Int) (value_1 : Int) (faultPlace_1 : Int) (faultPlace_0 : Int) (limit_0 : Int) (place_0 : Int) (value_0 : Int) (tape_0 : Int → Int) (all_0 : Int → Int) (now_0 : Int → Int) (latest_0 : Int → Int) (gy : Int) (k1 : 0 ≤ x1 ∧ x1 ≤ 7) (k11 : 0 ≤ x11 ∧ x11 ≤ 23) (k15 : (-1) ≤ x15 ∧ x15 ≤ 48) (k16 : 0 ≤ x16 ∧ x16 ≤ 7) (k18 : 1 ≤ x18 ∧ x18 ≤ 99) (k21 : 0 ≤ x21 ∧ x21 ≤ 66297) (k23 : 219 ≤ x23 ∧ x23 ≤ 66516) (k24 : 219 ≤ x24 ∧ x24 ≤ 66539) (d0 : x11 + 219 ≤ x24 ∧ x24 ≤ x11 + 66516) (d1 : x23 + 0 ≤ x24 ∧ x24 ≤ x23 + 23) (d3 : x21 + 219 ≤ x23 ∧ x23 ≤ x21 + 219) (g0 : x21 = r_0) (f5 : 1 * x15 + ((-1) * x11 + 0) ≤ 0) (f6 : (-1) * x15 + (1 * x11 + 0) ≤ 0) (f7 : 1 * x16 + ((-1) * x1 + 0) ≤ 0) (f8 : (-1) * x16 + (1 * x1 + 0) ≤ 0) (f24 : x24 = x23 + x11) (f41 : (x1 + 1) ≤ all_1 ((r_1 + 2))) (fe_0_5_1 : r_0 = r_1) (fe_0_8_1 : fault_0 = fault_1) (fe_0_9_1 : faultPlace_0 = faultPlace_1) (fe_0_10_1 : limit_0 = limit_1) (fe_0_11_1 : pos_0 = pos_1) (fe_0_12_1 : kind_0 = kind_1) (fe_0_13_1 : place_0 = place_1) (fe_0_14_1 : value_0 = value_1) (fe_0_15_1 : from_0 = from_1) (hE_0_1_1 : ∀ j : Int, tape_0 j = tape_1 j) (hE_0_2_1 : ∀ j : Int, 0 ≤ j → (j = x24 → all_0 j = x18) ∧ (j ≠ x24 → all_0 j = all_1 j)) (hE_0_3_1 : ∀ j : Int, now_0 j = now_1 j) (hE_0_4_1 : ∀ j : Int, latest_0 j = latest_1 j) (kz_0_8 : 0 ≤ fault_0 ∧ fault_0 ≤ 5) (kz_0_9 : 0 ≤ faultPlace_0 ∧ faultPlace_0 ≤ 2000) (kz_0_10 : 0 ≤ limit_0 ∧ limit_0 ≤ 2000) (kz_0_11 : 0 ≤ pos_0 ∧ pos_0 ≤ 2000) (kz_0_12 : 0 ≤ kind_0 ∧ kind_0 ≤ 4) (kz_0_13 : 0 ≤ place_0 ∧ place_0 ≤ 2000) (kz_0_14 : (-49) ≤ value_0 ∧ value_0 ≤ 1048575) (kz_0_15 : 0 ≤ from_0 ∧ from_0 ≤ 2000) (ey2 : gy = x1) : (x1 + 1) ≤ all_0 ((r_0 + 2)) := by
  subst fe_0_5_1
  subst fe_0_8_1
  subst fe_0_9_1
  subst fe_0_10_1
  subst fe_0_11_1
  subst fe_0_12_1
  subst fe_0_13_1
  subst fe_0_14_1
  subst fe_0_15_1
  have e_hE_0_1_1 := funext hE_0_1_1; subst e_hE_0_1_1
  have e_hE_0_3_1 := funext hE_0_3_1; subst e_hE_0_3_1
  have e_hE_0_4_1 := funext hE_0_4_1; subst e_hE_0_4_1
  first
    | omega
    | (have q1 := (hE_0_2_1 (r_0 + 2) (by omega)).2 (by omega)
       have q2 := (hE_0_2_2 (r_0 + 2) (by omega)).2 (by omega)
       omega)
    | (have q1 := (hE_0_2_1 (r_0 + 1) (by omega)).2 (by omega)
       have q2 := (hE_0_2_2 (r_0 + 1) (by omega)).2 (by omega)
       omega)
    | (have q1 := (hE_0_2_1 (r_0 + 2) (by omega)).2 (by omega)
       omega)
    | (have q1 := (hE_0_2_1 (r_0 + 1) (by omega)).2 (by omega)
       omega)
    | (have q1 := (hE_0_2_1 (r_0 + 2) (by omega)).2 (by omega)
       have q2 := (hE_0_2_2 (r_0 + 2) (by omega)).2 (by omega)
       have q3 := (hE_0_2_3 (r_0 + 2) (by omega)).1 (by omega)
       omega)
    | (have q1 := (hE_0_2_1 (r_0 + 2) (by omega)).2 (by omega)
       have q2 := (hE_0_2_2 (r_0 + 2) (by omega)).2 (by omega)
       have q3 := (hE_0_2_3 (r_0 + 2) (by omega)).2 (by omega)
       omega)
set_option maxHeartbeats 4000000 in
theorem vc_Mo_item_at_k4_13_1 (x18 : Int) (x21 : Int) (x23 : Int) (x24 : Int) (r_0 : Int) (fault_0 : Int) (from_0 : Int) (pos_0 : Int) (kind_0 : Int) (all_1 : Int → Int) (r_1 : Int) (now_1 : Int → Int) (latest_1 : Int → Int) (from_1 : Int) (pos_1 : Int) (kind_1 : Int) (fault_1 : Int) (tape_1 : Int → Int) (limit_1 : Int) (place_1 : Int) (value_1 : Int) (faultPlace_1 : Int) (faultPlace_0 : Int) (limit_0 : Int) (place_0 : Int) (value_0 : Int) (tape_0 : Int → Int) (all_0 : Int → Int) (now_0 : Int → Int) (latest_0 : Int → Int) (k18 : 1 ≤ x18 ∧ x18 ≤ 99) (k21 : 0 ≤ x21 ∧ x21 ≤ 66297) (k23 : 219 ≤ x23 ∧ x23 ≤ 66516) (k24 : 219 ≤ x24 ∧ x24 ≤ 66539) (d1 : x23 + 0 ≤ x24 ∧ x24 ≤ x23 + 23) (d3 : x21 + 219 ≤ x23 ∧ x23 ≤ x21 + 219) (g0 : x21 = r_0) (f42 : RWS (r_1) (all_1) (now_1) (latest_1)) (fe_0_5_1 : r_0 = r_1) (fe_0_8_1 : fault_0 = fault_1) (fe_0_9_1 : faultPlace_0 = faultPlace_1) (fe_0_10_1 : limit_0 = limit_1) (fe_0_11_1 : pos_0 = pos_1) (fe_0_12_1 : kind_0 = kind_1) (fe_0_13_1 : place_0 = place_1) (fe_0_14_1 : value_0 = value_1) (fe_0_15_1 : from_0 = from_1) (hE_0_1_1 : ∀ j : Int, tape_0 j = tape_1 j) (hE_0_2_1 : ∀ j : Int, 0 ≤ j → (j = x24 → all_0 j = x18) ∧ (j ≠ x24 → all_0 j = all_1 j)) (hE_0_3_1 : ∀ j : Int, now_0 j = now_1 j) (hE_0_4_1 : ∀ j : Int, latest_0 j = latest_1 j) (kz_0_8 : 0 ≤ fault_0 ∧ fault_0 ≤ 5) (kz_0_9 : 0 ≤ faultPlace_0 ∧ faultPlace_0 ≤ 2000) (kz_0_10 : 0 ≤ limit_0 ∧ limit_0 ≤ 2000) (kz_0_11 : 0 ≤ pos_0 ∧ pos_0 ≤ 2000) (kz_0_12 : 0 ≤ kind_0 ∧ kind_0 ≤ 4) (kz_0_13 : 0 ≤ place_0 ∧ place_0 ≤ 2000) (kz_0_14 : (-49) ≤ value_0 ∧ value_0 ≤ 1048575) (kz_0_15 : 0 ≤ from_0 ∧ from_0 ≤ 2000) : RWS (r_0) (all_0) (now_0) (latest_0) := by
  subst fe_0_5_1
  subst fe_0_8_1
  subst fe_0_9_1
  subst fe_0_10_1
  subst fe_0_11_1
  subst fe_0_12_1
  subst fe_0_13_1
  subst fe_0_14_1
  subst fe_0_15_1
  have e_hE_0_1_1 := funext hE_0_1_1; subst e_hE_0_1_1
  have e_hE_0_3_1 := funext hE_0_3_1; subst e_hE_0_3_1
  have e_hE_0_4_1 := funext hE_0_4_1; subst e_hE_0_4_1
  first
    | (have hr := rws_r ‹RWS _ _ _ _›
       have hc := (rws_sg ‹RWS _ _ _ _›).1
       exact rws_off ‹RWS _ _ _ _› (by assumption) (by omega))
set_option maxHeartbeats 4000000 in
theorem vc_Mo_item_at_k4_13_2 (x3 : Int) (x14 : Int) (x18 : Int) (x24 : Int) (r_0 : Int) (fault_0 : Int) (from_0 : Int) (pos_0 : Int) (kind_0 : Int) (all_1 : Int → Int) (r_1 : Int) (now_1 : Int → Int) (latest_1 : Int → Int) (from_1 : Int) (pos_1 : Int) (kind_1 : Int) (fault_1 : Int) (tape_1 : Int → Int) (limit_1 : Int) (place_1 : Int) (value_1 : Int) (faultPlace_1 : Int) (faultPlace_0 : Int) (limit_0 : Int) (place_0 : Int) (value_0 : Int) (tape_0 : Int → Int) (all_0 : Int → Int) (now_0 : Int → Int) (latest_0 : Int → Int) (gx : Int) (k3 : 0 ≤ x3 ∧ x3 ≤ 2000) (k14 : 0 ≤ x14 ∧ x14 ≤ 2000) (k18 : 1 ≤ x18 ∧ x18 ≤ 99) (k24 : 219 ≤ x24 ∧ x24 ≤ 66539) (f3 : 1 * x14 + ((-1) * x3 + 0) ≤ 0) (f4 : (-1) * x14 + (1 * x3 + 0) ≤ 0) (fe_0_5_1 : r_0 = r_1) (fe_0_8_1 : fault_0 = fault_1) (fe_0_9_1 : faultPlace_0 = faultPlace_1) (fe_0_10_1 : limit_0 = limit_1) (fe_0_11_1 : pos_0 = pos_1) (fe_0_12_1 : kind_0 = kind_1) (fe_0_13_1 : place_0 = place_1) (fe_0_14_1 : value_0 = value_1) (fe_0_15_1 : from_0 = from_1) (hE_0_1_1 : ∀ j : Int, tape_0 j = tape_1 j) (hE_0_2_1 : ∀ j : Int, 0 ≤ j → (j = x24 → all_0 j = x18) ∧ (j ≠ x24 → all_0 j = all_1 j)) (hE_0_3_1 : ∀ j : Int, now_0 j = now_1 j) (hE_0_4_1 : ∀ j : Int, latest_0 j = latest_1 j) (kz_0_8 : 0 ≤ fault_0 ∧ fault_0 ≤ 5) (kz_0_9 : 0 ≤ faultPlace_0 ∧ faultPlace_0 ≤ 2000) (kz_0_10 : 0 ≤ limit_0 ∧ limit_0 ≤ 2000) (kz_0_11 : 0 ≤ pos_0 ∧ pos_0 ≤ 2000) (kz_0_12 : 0 ≤ kind_0 ∧ kind_0 ≤ 4) (kz_0_13 : 0 ≤ place_0 ∧ place_0 ≤ 2000) (kz_0_14 : (-49) ≤ value_0 ∧ value_0 ≤ 1048575) (kz_0_15 : 0 ≤ from_0 ∧ from_0 ≤ 2000) (ex2 : gx = x3) : 1 * gx + ((-1) * x3 + 0) ≤ 0 := by
  subst fe_0_5_1
  subst fe_0_8_1
  subst fe_0_9_1
  subst fe_0_10_1
  subst fe_0_11_1
  subst fe_0_12_1
  subst fe_0_13_1
  subst fe_0_14_1
  subst fe_0_15_1
  have e_hE_0_1_1 := funext hE_0_1_1; subst e_hE_0_1_1
  have e_hE_0_3_1 := funext hE_0_3_1; subst e_hE_0_3_1
  have e_hE_0_4_1 := funext hE_0_4_1; subst e_hE_0_4_1
  first
    | omega
    | (have q1 := (hE_0_2_1 (r_0 + 2) (by omega)).2 (by omega)
       have q2 := (hE_0_2_2 (r_0 + 2) (by omega)).2 (by omega)
       omega)
    | (have q1 := (hE_0_2_1 (r_0 + 1) (by omega)).2 (by omega)
       have q2 := (hE_0_2_2 (r_0 + 1) (by omega)).2 (by omega)
       omega)
    | (have q1 := (hE_0_2_1 (r_0 + 2) (by omega)).2 (by omega)
       omega)
    | (have q1 := (hE_0_2_1 (r_0 + 1) (by omega)).2 (by omega)
       omega)
    | (have q1 := (hE_0_2_1 (r_0 + 2) (by omega)).2 (by omega)
       have q2 := (hE_0_2_2 (r_0 + 2) (by omega)).2 (by omega)
       have q3 := (hE_0_2_3 (r_0 + 2) (by omega)).1 (by omega)
       omega)
    | (have q1 := (hE_0_2_1 (r_0 + 2) (by omega)).2 (by omega)
       have q2 := (hE_0_2_2 (r_0 + 2) (by omega)).2 (by omega)
       have q3 := (hE_0_2_3 (r_0 + 2) (by omega)).2 (by omega)
       omega)
set_option maxHeartbeats 4000000 in
theorem vc_Mo_item_at_k4_13_3 (x3 : Int) (x14 : Int) (x18 : Int) (x24 : Int) (r_0 : Int) (fault_0 : Int) (from_0 : Int) (pos_0 : Int) (kind_0 : Int) (all_1 : Int → Int) (r_1 : Int) (now_1 : Int → Int) (latest_1 : Int → Int) (from_1 : Int) (pos_1 : Int) (kind_1 : Int) (fault_1 : Int) (tape_1 : Int → Int) (limit_1 : Int) (place_1 : Int) (value_1 : Int) (faultPlace_1 : Int) (faultPlace_0 : Int) (limit_0 : Int) (place_0 : Int) (value_0 : Int) (tape_0 : Int → Int) (all_0 : Int → Int) (now_0 : Int → Int) (latest_0 : Int → Int) (gx : Int) (k3 : 0 ≤ x3 ∧ x3 ≤ 2000) (k14 : 0 ≤ x14 ∧ x14 ≤ 2000) (k18 : 1 ≤ x18 ∧ x18 ≤ 99) (k24 : 219 ≤ x24 ∧ x24 ≤ 66539) (f3 : 1 * x14 + ((-1) * x3 + 0) ≤ 0) (f4 : (-1) * x14 + (1 * x3 + 0) ≤ 0) (fe_0_5_1 : r_0 = r_1) (fe_0_8_1 : fault_0 = fault_1) (fe_0_9_1 : faultPlace_0 = faultPlace_1) (fe_0_10_1 : limit_0 = limit_1) (fe_0_11_1 : pos_0 = pos_1) (fe_0_12_1 : kind_0 = kind_1) (fe_0_13_1 : place_0 = place_1) (fe_0_14_1 : value_0 = value_1) (fe_0_15_1 : from_0 = from_1) (hE_0_1_1 : ∀ j : Int, tape_0 j = tape_1 j) (hE_0_2_1 : ∀ j : Int, 0 ≤ j → (j = x24 → all_0 j = x18) ∧ (j ≠ x24 → all_0 j = all_1 j)) (hE_0_3_1 : ∀ j : Int, now_0 j = now_1 j) (hE_0_4_1 : ∀ j : Int, latest_0 j = latest_1 j) (kz_0_8 : 0 ≤ fault_0 ∧ fault_0 ≤ 5) (kz_0_9 : 0 ≤ faultPlace_0 ∧ faultPlace_0 ≤ 2000) (kz_0_10 : 0 ≤ limit_0 ∧ limit_0 ≤ 2000) (kz_0_11 : 0 ≤ pos_0 ∧ pos_0 ≤ 2000) (kz_0_12 : 0 ≤ kind_0 ∧ kind_0 ≤ 4) (kz_0_13 : 0 ≤ place_0 ∧ place_0 ≤ 2000) (kz_0_14 : (-49) ≤ value_0 ∧ value_0 ≤ 1048575) (kz_0_15 : 0 ≤ from_0 ∧ from_0 ≤ 2000) (ex2 : gx = x3) : (-1) * gx + (1 * x3 + 0) ≤ 0 := by
  subst fe_0_5_1
  subst fe_0_8_1
  subst fe_0_9_1
  subst fe_0_10_1
  subst fe_0_11_1
  subst fe_0_12_1
  subst fe_0_13_1
  subst fe_0_14_1
  subst fe_0_15_1
  have e_hE_0_1_1 := funext hE_0_1_1; subst e_hE_0_1_1
  have e_hE_0_3_1 := funext hE_0_3_1; subst e_hE_0_3_1
  have e_hE_0_4_1 := funext hE_0_4_1; subst e_hE_0_4_1
  first
    | omega
    | (have q1 := (hE_0_2_1 (r_0 + 2) (by omega)).2 (by omega)
       have q2 := (hE_0_2_2 (r_0 + 2) (by omega)).2 (by omega)
       omega)
    | (have q1 := (hE_0_2_1 (r_0 + 1) (by omega)).2 (by omega)
       have q2 := (hE_0_2_2 (r_0 + 1) (by omega)).2 (by omega)
       omega)
    | (have q1 := (hE_0_2_1 (r_0 + 2) (by omega)).2 (by omega)
       omega)
    | (have q1 := (hE_0_2_1 (r_0 + 1) (by omega)).2 (by omega)
       omega)
    | (have q1 := (hE_0_2_1 (r_0 + 2) (by omega)).2 (by omega)
       have q2 := (hE_0_2_2 (r_0 + 2) (by omega)).2 (by omega)
       have q3 := (hE_0_2_3 (r_0 + 2) (by omega)).1 (by omega)
       omega)
    | (have q1 := (hE_0_2_1 (r_0 + 2) (by omega)).2 (by omega)
       have q2 := (hE_0_2_2 (r_0 + 2) (by omega)).2 (by omega)
       have q3 := (hE_0_2_3 (r_0 + 2) (by omega)).2 (by omega)
       omega)
set_option maxHeartbeats 4000000 in
theorem vc_Mo_item_at_k4_13_4 (x1 : Int) (x16 : Int) (x18 : Int) (x24 : Int) (r_0 : Int) (fault_0 : Int) (from_0 : Int) (pos_0 : Int) (kind_0 : Int) (all_1 : Int → Int) (r_1 : Int) (now_1 : Int → Int) (latest_1 : Int → Int) (from_1 : Int) (pos_1 : Int) (kind_1 : Int) (fault_1 : Int) (tape_1 : Int → Int) (limit_1 : Int) (place_1 : Int) (value_1 : Int) (faultPlace_1 : Int) (faultPlace_0 : Int) (limit_0 : Int) (place_0 : Int) (value_0 : Int) (tape_0 : Int → Int) (all_0 : Int → Int) (now_0 : Int → Int) (latest_0 : Int → Int) (gy : Int) (k1 : 0 ≤ x1 ∧ x1 ≤ 7) (k16 : 0 ≤ x16 ∧ x16 ≤ 7) (k18 : 1 ≤ x18 ∧ x18 ≤ 99) (k24 : 219 ≤ x24 ∧ x24 ≤ 66539) (f7 : 1 * x16 + ((-1) * x1 + 0) ≤ 0) (f8 : (-1) * x16 + (1 * x1 + 0) ≤ 0) (fe_0_5_1 : r_0 = r_1) (fe_0_8_1 : fault_0 = fault_1) (fe_0_9_1 : faultPlace_0 = faultPlace_1) (fe_0_10_1 : limit_0 = limit_1) (fe_0_11_1 : pos_0 = pos_1) (fe_0_12_1 : kind_0 = kind_1) (fe_0_13_1 : place_0 = place_1) (fe_0_14_1 : value_0 = value_1) (fe_0_15_1 : from_0 = from_1) (hE_0_1_1 : ∀ j : Int, tape_0 j = tape_1 j) (hE_0_2_1 : ∀ j : Int, 0 ≤ j → (j = x24 → all_0 j = x18) ∧ (j ≠ x24 → all_0 j = all_1 j)) (hE_0_3_1 : ∀ j : Int, now_0 j = now_1 j) (hE_0_4_1 : ∀ j : Int, latest_0 j = latest_1 j) (kz_0_8 : 0 ≤ fault_0 ∧ fault_0 ≤ 5) (kz_0_9 : 0 ≤ faultPlace_0 ∧ faultPlace_0 ≤ 2000) (kz_0_10 : 0 ≤ limit_0 ∧ limit_0 ≤ 2000) (kz_0_11 : 0 ≤ pos_0 ∧ pos_0 ≤ 2000) (kz_0_12 : 0 ≤ kind_0 ∧ kind_0 ≤ 4) (kz_0_13 : 0 ≤ place_0 ∧ place_0 ≤ 2000) (kz_0_14 : (-49) ≤ value_0 ∧ value_0 ≤ 1048575) (kz_0_15 : 0 ≤ from_0 ∧ from_0 ≤ 2000) (ey2 : gy = x1) : 1 * gy + ((-1) * x1 + 0) ≤ 0 := by
  subst fe_0_5_1
  subst fe_0_8_1
  subst fe_0_9_1
  subst fe_0_10_1
  subst fe_0_11_1
  subst fe_0_12_1
  subst fe_0_13_1
  subst fe_0_14_1
  subst fe_0_15_1
  have e_hE_0_1_1 := funext hE_0_1_1; subst e_hE_0_1_1
  have e_hE_0_3_1 := funext hE_0_3_1; subst e_hE_0_3_1
  have e_hE_0_4_1 := funext hE_0_4_1; subst e_hE_0_4_1
  first
    | omega
    | (have q1 := (hE_0_2_1 (r_0 + 2) (by omega)).2 (by omega)
       have q2 := (hE_0_2_2 (r_0 + 2) (by omega)).2 (by omega)
       omega)
    | (have q1 := (hE_0_2_1 (r_0 + 1) (by omega)).2 (by omega)
       have q2 := (hE_0_2_2 (r_0 + 1) (by omega)).2 (by omega)
       omega)
    | (have q1 := (hE_0_2_1 (r_0 + 2) (by omega)).2 (by omega)
       omega)
    | (have q1 := (hE_0_2_1 (r_0 + 1) (by omega)).2 (by omega)
       omega)
    | (have q1 := (hE_0_2_1 (r_0 + 2) (by omega)).2 (by omega)
       have q2 := (hE_0_2_2 (r_0 + 2) (by omega)).2 (by omega)
       have q3 := (hE_0_2_3 (r_0 + 2) (by omega)).1 (by omega)
       omega)
    | (have q1 := (hE_0_2_1 (r_0 + 2) (by omega)).2 (by omega)
       have q2 := (hE_0_2_2 (r_0 + 2) (by omega)).2 (by omega)
       have q3 := (hE_0_2_3 (r_0 + 2) (by omega)).2 (by omega)
       omega)
set_option maxHeartbeats 4000000 in
theorem vc_Mo_item_at_k4_13_5 (x1 : Int) (x16 : Int) (x18 : Int) (x24 : Int) (r_0 : Int) (fault_0 : Int) (from_0 : Int) (pos_0 : Int) (kind_0 : Int) (all_1 : Int → Int) (r_1 : Int) (now_1 : Int → Int) (latest_1 : Int → Int) (from_1 : Int) (pos_1 : Int) (kind_1 : Int) (fault_1 : Int) (tape_1 : Int → Int) (limit_1 : Int) (place_1 : Int) (value_1 : Int) (faultPlace_1 : Int) (faultPlace_0 : Int) (limit_0 : Int) (place_0 : Int) (value_0 : Int) (tape_0 : Int → Int) (all_0 : Int → Int) (now_0 : Int → Int) (latest_0 : Int → Int) (gy : Int) (k1 : 0 ≤ x1 ∧ x1 ≤ 7) (k16 : 0 ≤ x16 ∧ x16 ≤ 7) (k18 : 1 ≤ x18 ∧ x18 ≤ 99) (k24 : 219 ≤ x24 ∧ x24 ≤ 66539) (f7 : 1 * x16 + ((-1) * x1 + 0) ≤ 0) (f8 : (-1) * x16 + (1 * x1 + 0) ≤ 0) (fe_0_5_1 : r_0 = r_1) (fe_0_8_1 : fault_0 = fault_1) (fe_0_9_1 : faultPlace_0 = faultPlace_1) (fe_0_10_1 : limit_0 = limit_1) (fe_0_11_1 : pos_0 = pos_1) (fe_0_12_1 : kind_0 = kind_1) (fe_0_13_1 : place_0 = place_1) (fe_0_14_1 : value_0 = value_1) (fe_0_15_1 : from_0 = from_1) (hE_0_1_1 : ∀ j : Int, tape_0 j = tape_1 j) (hE_0_2_1 : ∀ j : Int, 0 ≤ j → (j = x24 → all_0 j = x18) ∧ (j ≠ x24 → all_0 j = all_1 j)) (hE_0_3_1 : ∀ j : Int, now_0 j = now_1 j) (hE_0_4_1 : ∀ j : Int, latest_0 j = latest_1 j) (kz_0_8 : 0 ≤ fault_0 ∧ fault_0 ≤ 5) (kz_0_9 : 0 ≤ faultPlace_0 ∧ faultPlace_0 ≤ 2000) (kz_0_10 : 0 ≤ limit_0 ∧ limit_0 ≤ 2000) (kz_0_11 : 0 ≤ pos_0 ∧ pos_0 ≤ 2000) (kz_0_12 : 0 ≤ kind_0 ∧ kind_0 ≤ 4) (kz_0_13 : 0 ≤ place_0 ∧ place_0 ≤ 2000) (kz_0_14 : (-49) ≤ value_0 ∧ value_0 ≤ 1048575) (kz_0_15 : 0 ≤ from_0 ∧ from_0 ≤ 2000) (ey2 : gy = x1) : (-1) * gy + (1 * x1 + 0) ≤ 0 := by
  subst fe_0_5_1
  subst fe_0_8_1
  subst fe_0_9_1
  subst fe_0_10_1
  subst fe_0_11_1
  subst fe_0_12_1
  subst fe_0_13_1
  subst fe_0_14_1
  subst fe_0_15_1
  have e_hE_0_1_1 := funext hE_0_1_1; subst e_hE_0_1_1
  have e_hE_0_3_1 := funext hE_0_3_1; subst e_hE_0_3_1
  have e_hE_0_4_1 := funext hE_0_4_1; subst e_hE_0_4_1
  first
    | omega
    | (have q1 := (hE_0_2_1 (r_0 + 2) (by omega)).2 (by omega)
       have q2 := (hE_0_2_2 (r_0 + 2) (by omega)).2 (by omega)
       omega)
    | (have q1 := (hE_0_2_1 (r_0 + 1) (by omega)).2 (by omega)
       have q2 := (hE_0_2_2 (r_0 + 1) (by omega)).2 (by omega)
       omega)
    | (have q1 := (hE_0_2_1 (r_0 + 2) (by omega)).2 (by omega)
       omega)
    | (have q1 := (hE_0_2_1 (r_0 + 1) (by omega)).2 (by omega)
       omega)
    | (have q1 := (hE_0_2_1 (r_0 + 2) (by omega)).2 (by omega)
       have q2 := (hE_0_2_2 (r_0 + 2) (by omega)).2 (by omega)
       have q3 := (hE_0_2_3 (r_0 + 2) (by omega)).1 (by omega)
       omega)
    | (have q1 := (hE_0_2_1 (r_0 + 2) (by omega)).2 (by omega)
       have q2 := (hE_0_2_2 (r_0 + 2) (by omega)).2 (by omega)
       have q3 := (hE_0_2_3 (r_0 + 2) (by omega)).2 (by omega)
       omega)
set_option maxHeartbeats 4000000 in
theorem vc_Mo_item_at_k4_13_6 (x2 : Int) (x18 : Int) (x24 : Int) (r_0 : Int) (fault_0 : Int) (from_0 : Int) (pos_0 : Int) (kind_0 : Int) (all_1 : Int → Int) (r_1 : Int) (now_1 : Int → Int) (latest_1 : Int → Int) (from_1 : Int) (pos_1 : Int) (kind_1 : Int) (fault_1 : Int) (tape_1 : Int → Int) (limit_1 : Int) (place_1 : Int) (value_1 : Int) (faultPlace_1 : Int) (faultPlace_0 : Int) (limit_0 : Int) (place_0 : Int) (value_0 : Int) (tape_0 : Int → Int) (all_0 : Int → Int) (now_0 : Int → Int) (latest_0 : Int → Int) (gu : Int) (k2 : 4 ≤ x2 ∧ x2 ≤ 4) (k18 : 1 ≤ x18 ∧ x18 ≤ 99) (k24 : 219 ≤ x24 ∧ x24 ≤ 66539) (fe_0_5_1 : r_0 = r_1) (fe_0_8_1 : fault_0 = fault_1) (fe_0_9_1 : faultPlace_0 = faultPlace_1) (fe_0_10_1 : limit_0 = limit_1) (fe_0_11_1 : pos_0 = pos_1) (fe_0_12_1 : kind_0 = kind_1) (fe_0_13_1 : place_0 = place_1) (fe_0_14_1 : value_0 = value_1) (fe_0_15_1 : from_0 = from_1) (hE_0_1_1 : ∀ j : Int, tape_0 j = tape_1 j) (hE_0_2_1 : ∀ j : Int, 0 ≤ j → (j = x24 → all_0 j = x18) ∧ (j ≠ x24 → all_0 j = all_1 j)) (hE_0_3_1 : ∀ j : Int, now_0 j = now_1 j) (hE_0_4_1 : ∀ j : Int, latest_0 j = latest_1 j) (kz_0_8 : 0 ≤ fault_0 ∧ fault_0 ≤ 5) (kz_0_9 : 0 ≤ faultPlace_0 ∧ faultPlace_0 ≤ 2000) (kz_0_10 : 0 ≤ limit_0 ∧ limit_0 ≤ 2000) (kz_0_11 : 0 ≤ pos_0 ∧ pos_0 ≤ 2000) (kz_0_12 : 0 ≤ kind_0 ∧ kind_0 ≤ 4) (kz_0_13 : 0 ≤ place_0 ∧ place_0 ≤ 2000) (kz_0_14 : (-49) ≤ value_0 ∧ value_0 ≤ 1048575) (kz_0_15 : 0 ≤ from_0 ∧ from_0 ≤ 2000) (eu2 : gu = x2) : 1 * gu + ((-1) * x2 + 0) ≤ 0 := by
  subst fe_0_5_1
  subst fe_0_8_1
  subst fe_0_9_1
  subst fe_0_10_1
  subst fe_0_11_1
  subst fe_0_12_1
  subst fe_0_13_1
  subst fe_0_14_1
  subst fe_0_15_1
  have e_hE_0_1_1 := funext hE_0_1_1; subst e_hE_0_1_1
  have e_hE_0_3_1 := funext hE_0_3_1; subst e_hE_0_3_1
  have e_hE_0_4_1 := funext hE_0_4_1; subst e_hE_0_4_1
  first
    | omega
    | (have q1 := (hE_0_2_1 (r_0 + 2) (by omega)).2 (by omega)
       have q2 := (hE_0_2_2 (r_0 + 2) (by omega)).2 (by omega)
       omega)
    | (have q1 := (hE_0_2_1 (r_0 + 1) (by omega)).2 (by omega)
       have q2 := (hE_0_2_2 (r_0 + 1) (by omega)).2 (by omega)
       omega)
    | (have q1 := (hE_0_2_1 (r_0 + 2) (by omega)).2 (by omega)
       omega)
    | (have q1 := (hE_0_2_1 (r_0 + 1) (by omega)).2 (by omega)
       omega)
    | (have q1 := (hE_0_2_1 (r_0 + 2) (by omega)).2 (by omega)
       have q2 := (hE_0_2_2 (r_0 + 2) (by omega)).2 (by omega)
       have q3 := (hE_0_2_3 (r_0 + 2) (by omega)).1 (by omega)
       omega)
    | (have q1 := (hE_0_2_1 (r_0 + 2) (by omega)).2 (by omega)
       have q2 := (hE_0_2_2 (r_0 + 2) (by omega)).2 (by omega)
       have q3 := (hE_0_2_3 (r_0 + 2) (by omega)).2 (by omega)
       omega)
set_option maxHeartbeats 4000000 in
theorem vc_Mo_item_at_k4_13_7 (x2 : Int) (x18 : Int) (x24 : Int) (r_0 : Int) (fault_0 : Int) (from_0 : Int) (pos_0 : Int) (kind_0 : Int) (all_1 : Int → Int) (r_1 : Int) (now_1 : Int → Int) (latest_1 : Int → Int) (from_1 : Int) (pos_1 : Int) (kind_1 : Int) (fault_1 : Int) (tape_1 : Int → Int) (limit_1 : Int) (place_1 : Int) (value_1 : Int) (faultPlace_1 : Int) (faultPlace_0 : Int) (limit_0 : Int) (place_0 : Int) (value_0 : Int) (tape_0 : Int → Int) (all_0 : Int → Int) (now_0 : Int → Int) (latest_0 : Int → Int) (gu : Int) (k2 : 4 ≤ x2 ∧ x2 ≤ 4) (k18 : 1 ≤ x18 ∧ x18 ≤ 99) (k24 : 219 ≤ x24 ∧ x24 ≤ 66539) (fe_0_5_1 : r_0 = r_1) (fe_0_8_1 : fault_0 = fault_1) (fe_0_9_1 : faultPlace_0 = faultPlace_1) (fe_0_10_1 : limit_0 = limit_1) (fe_0_11_1 : pos_0 = pos_1) (fe_0_12_1 : kind_0 = kind_1) (fe_0_13_1 : place_0 = place_1) (fe_0_14_1 : value_0 = value_1) (fe_0_15_1 : from_0 = from_1) (hE_0_1_1 : ∀ j : Int, tape_0 j = tape_1 j) (hE_0_2_1 : ∀ j : Int, 0 ≤ j → (j = x24 → all_0 j = x18) ∧ (j ≠ x24 → all_0 j = all_1 j)) (hE_0_3_1 : ∀ j : Int, now_0 j = now_1 j) (hE_0_4_1 : ∀ j : Int, latest_0 j = latest_1 j) (kz_0_8 : 0 ≤ fault_0 ∧ fault_0 ≤ 5) (kz_0_9 : 0 ≤ faultPlace_0 ∧ faultPlace_0 ≤ 2000) (kz_0_10 : 0 ≤ limit_0 ∧ limit_0 ≤ 2000) (kz_0_11 : 0 ≤ pos_0 ∧ pos_0 ≤ 2000) (kz_0_12 : 0 ≤ kind_0 ∧ kind_0 ≤ 4) (kz_0_13 : 0 ≤ place_0 ∧ place_0 ≤ 2000) (kz_0_14 : (-49) ≤ value_0 ∧ value_0 ≤ 1048575) (kz_0_15 : 0 ≤ from_0 ∧ from_0 ≤ 2000) (eu2 : gu = x2) : (-1) * gu + (1 * x2 + 0) ≤ 0 := by
  subst fe_0_5_1
  subst fe_0_8_1
  subst fe_0_9_1
  subst fe_0_10_1
  subst fe_0_11_1
  subst fe_0_12_1
  subst fe_0_13_1
  subst fe_0_14_1
  subst fe_0_15_1
  have e_hE_0_1_1 := funext hE_0_1_1; subst e_hE_0_1_1
  have e_hE_0_3_1 := funext hE_0_3_1; subst e_hE_0_3_1
  have e_hE_0_4_1 := funext hE_0_4_1; subst e_hE_0_4_1
  first
    | omega
    | (have q1 := (hE_0_2_1 (r_0 + 2) (by omega)).2 (by omega)
       have q2 := (hE_0_2_2 (r_0 + 2) (by omega)).2 (by omega)
       omega)
    | (have q1 := (hE_0_2_1 (r_0 + 1) (by omega)).2 (by omega)
       have q2 := (hE_0_2_2 (r_0 + 1) (by omega)).2 (by omega)
       omega)
    | (have q1 := (hE_0_2_1 (r_0 + 2) (by omega)).2 (by omega)
       omega)
    | (have q1 := (hE_0_2_1 (r_0 + 1) (by omega)).2 (by omega)
       omega)
    | (have q1 := (hE_0_2_1 (r_0 + 2) (by omega)).2 (by omega)
       have q2 := (hE_0_2_2 (r_0 + 2) (by omega)).2 (by omega)
       have q3 := (hE_0_2_3 (r_0 + 2) (by omega)).1 (by omega)
       omega)
    | (have q1 := (hE_0_2_1 (r_0 + 2) (by omega)).2 (by omega)
       have q2 := (hE_0_2_2 (r_0 + 2) (by omega)).2 (by omega)
       have q3 := (hE_0_2_3 (r_0 + 2) (by omega)).2 (by omega)
       omega)
set_option maxHeartbeats 4000000 in
theorem vc_Mo_item_at_k4_13_8 (x1 : Int) (x2 : Int) (x3 : Int) (x6 : Int) (x8 : Int) (x10 : Int) (x11 : Int) (x13 : Int) (x14 : Int) (x15 : Int) (x16 : Int) (x17 : Int) (x18 : Int) (x19 : Int) (x21 : Int) (x22 : Int) (x23 : Int) (x24 : Int) (r_0 : Int) (fault_0 : Int) (from_0 : Int) (pos_0 : Int) (kind_0 : Int) (all_1 : Int → Int) (r_1 : Int) (now_1 : Int → Int) (latest_1 : Int → Int) (from_1 : Int) (pos_1 : Int) (kind_1 : Int) (fault_1 : Int) (tape_1 : Int → Int) (limit_1 : Int) (place_1 : Int) (value_1 : Int) (faultPlace_1 : Int) (faultPlace_0 : Int) (limit_0 : Int) (place_0 : Int) (value_0 : Int) (tape_0 : Int → Int) (all_0 : Int → Int) (now_0 : Int → Int) (latest_0 : Int → Int) (gx : Int) (gy : Int) (gu : Int) (k1 : 0 ≤ x1 ∧ x1 ≤ 7) (k2 : 4 ≤ x2 ∧ x2 ≤ 4) (k3 : 0 ≤ x3 ∧ x3 ≤ 2000) (k6 : 0 ≤ x6 ∧ x6 ≤ 2000) (k8 : 0 ≤ x8 ∧ x8 ≤ 2000) (k10 : 0 ≤ x10 ∧ x10 ≤ 4) (k11 : 0 ≤ x11 ∧ x11 ≤ 23) (k13 : 99 ≤ x13 ∧ x13 ≤ 99) (k14 : 0 ≤ x14 ∧ x14 ≤ 2000) (k15 : (-1) ≤ x15 ∧ x15 ≤ 48) (k16 : 0 ≤ x16 ∧ x16 ≤ 7) (k17 : 0 ≤ x17 ∧ x17 ≤ 4) (k18 : 1 ≤ x18 ∧ x18 ≤ 99) (k19 : 0 ≤ x19 ∧ x19 ≤ 0) (k21 : 0 ≤ x21 ∧ x21 ≤ 66297) (k22 : 219 ≤ x22 ∧ x22 ≤ 219) (k23 : 219 ≤ x23 ∧ x23 ≤ 66516) (k24 : 219 ≤ x24 ∧ x24 ≤ 66539) (d0 : x11 + 219 ≤ x24 ∧ x24 ≤ x11 + 66516) (d1 : x23 + 0 ≤ x24 ∧ x24 ≤ x23 + 23) (d2 : x21 + 219 ≤ x24 ∧ x24 ≤ x21 + 242) (d3 : x21 + 219 ≤ x23 ∧ x23 ≤ x21 + 219) (g0 : x21 = r_0) (g2 : x19 = fault_0) (f3 : 1 * x14 + ((-1) * x3 + 0) ≤ 0) (f4 : (-1) * x14 + (1 * x3 + 0) ≤ 0) (f5 : 1 * x15 + ((-1) * x11 + 0) ≤ 0) (f6 : (-1) * x15 + (1 * x11 + 0) ≤ 0) (f7 : 1 * x16 + ((-1) * x1 + 0) ≤ 0) (f8 : (-1) * x16 + (1 * x1 + 0) ≤ 0) (f9 : 1 * x17 + ((-1) * x2 + 0) ≤ 0) (f10 : (-1) * x17 + (1 * x2 + 0) ≤ 0) (f11 : 1 * x8 + ((-1) * x3 + 0) ≤ 0) (f12 : (-1) * x8 + (1 * x3 + 0) ≤ 0) (f13 : 1 * x10 + ((-1) * x2 + 0) ≤ 0) (f14 : (-1) * x10 + (1 * x2 + 0) ≤ 0) (f15 : 1 * x3 + ((-1) * x6 + 0) ≤ 0) (f16 : 1 * from_0 + ((-1) * pos_0 + 0) ≤ 0) (f17 : ((kind_0 = 1) → (pos_0 ≤ (from_0 + 8))) ∧ ((kind_0 = 0) ∨ ((from_0 + 1) ≤ pos_0))) (f18 : 1 * x14 + ((-1) * pos_0 + 0) ≤ 0) (f19 : (1 ≤ fault_0) ∨ ((kind_0 = 0) ∨ ((x14 + 1) ≤ pos_0))) (f20 : (1 ≤ fault_0) ∨ (0 ≤ x15)) (f21 : 1 * x18 + ((-1) * x13 + 0) ≤ 0) (f22 : (-1) * x18 + 0 ≤ 0) (f24 : x24 = x23 + x11) (f25 : x23 = x21 + x22) (f26 : 0 < x18) (f27 : x19 = 0) (f28 : 1 * x14 + ((-1) * x3 + 0) ≤ 0) (f29 : (-1) * x14 + (1 * x3 + 0) ≤ 0) (f30 : 1 * x15 + ((-1) * x11 + 0) ≤ 0) (f31 : (-1) * x15 + (1 * x11 + 0) ≤ 0) (f32 : 1 * x16 + ((-1) * x1 + 0) ≤ 0) (f33 : (-1) * x16 + (1 * x1 + 0) ≤ 0) (f34 : 1 * x17 + ((-1) * x2 + 0) ≤ 0) (f35 : (-1) * x17 + (1 * x2 + 0) ≤ 0) (f36 : 1 * x8 + ((-1) * x3 + 0) ≤ 0) (f37 : (-1) * x8 + (1 * x3 + 0) ≤ 0) (f38 : 1 * x10 + ((-1) * x2 + 0) ≤ 0) (f39 : (-1) * x10 + (1 * x2 + 0) ≤ 0) (f40 : 1 * x3 + ((-1) * x6 + 0) ≤ 0) (f41 : (x1 + 1) ≤ all_1 ((r_1 + 2))) (f42 : RWS (r_1) (all_1) (now_1) (latest_1)) (f43 : 1 * from_1 + ((-1) * pos_1 + 0) ≤ 0) (f44 : ((kind_1 = 1) → (pos_1 ≤ (from_1 + 8))) ∧ ((kind_1 = 0) ∨ ((from_1 + 1) ≤ pos_1))) (f45 : 1 * x14 + ((-1) * pos_1 + 0) ≤ 0) (f46 : (1 ≤ fault_1) ∨ ((kind_1 = 0) ∨ ((x14 + 1) ≤ pos_1))) (f47 : (1 ≤ fault_1) ∨ (0 ≤ x15)) (f48 : 1 * x18 + ((-1) * x13 + 0) ≤ 0) (f49 : (-1) * x18 + 0 ≤ 0) (f50 : zOFs (limit_1) (pos_1) (kind_1) (place_1) (value_1) (from_1) (fault_1) (faultPlace_1) (r_1) (tape_1) (all_1) (x15) (x18) (x16) (x17)) (f52 : 1 * x14 + ((-1) * x3 + 0) ≤ 0) (f53 : (-1) * x14 + (1 * x3 + 0) ≤ 0) (f54 : 1 * x15 + ((-1) * x11 + 0) ≤ 0) (f55 : (-1) * x15 + (1 * x11 + 0) ≤ 0) (f56 : 1 * x16 + ((-1) * x1 + 0) ≤ 0) (f57 : (-1) * x16 + (1 * x1 + 0) ≤ 0) (f58 : 1 * x17 + ((-1) * x2 + 0) ≤ 0) (f59 : (-1) * x17 + (1 * x2 + 0) ≤ 0) (f60 : 1 * x8 + ((-1) * x3 + 0) ≤ 0) (f61 : (-1) * x8 + (1 * x3 + 0) ≤ 0) (f62 : 1 * x10 + ((-1) * x2 + 0) ≤ 0) (f63 : (-1) * x10 + (1 * x2 + 0) ≤ 0) (f65 : 1 * x8 + ((-1) * x3 + 0) ≤ 0) (f66 : (-1) * x8 + (1 * x3 + 0) ≤ 0) (f67 : 1 * x10 + ((-1) * x2 + 0) ≤ 0) (f68 : (-1) * x10 + (1 * x2 + 0) ≤ 0) (fe_0_5_1 : r_0 = r_1) (fe_0_8_1 : fault_0 = fault_1) (fe_0_9_1 : faultPlace_0 = faultPlace_1) (fe_0_10_1 : limit_0 = limit_1) (fe_0_11_1 : pos_0 = pos_1) (fe_0_12_1 : kind_0 = kind_1) (fe_0_13_1 : place_0 = place_1) (fe_0_14_1 : value_0 = value_1) (fe_0_15_1 : from_0 = from_1) (hE_0_1_1 : ∀ j : Int, tape_0 j = tape_1 j) (hK_0_1 : ∀ j : Int, 0 ≤ j → j < 2000 → (-128) ≤ tape_0 j ∧ tape_0 j ≤ 127) (hE_0_2_1 : ∀ j : Int, 0 ≤ j → (j = x24 → all_0 j = x18) ∧ (j ≠ x24 → all_0 j = all_1 j)) (hE_0_3_1 : ∀ j : Int, now_0 j = now_1 j) (hK_0_3 : ∀ j : Int, 0 ≤ j → j < 4 → 0 ≤ now_0 j ∧ now_0 j ≤ 30) (hE_0_4_1 : ∀ j : Int, latest_0 j = latest_1 j) (hK_0_4 : ∀ j : Int, 0 ≤ j → j < 4 → 0 ≤ latest_0 j ∧ latest_0 j ≤ 30) (kz_0_8 : 0 ≤ fault_0 ∧ fault_0 ≤ 5) (kz_0_9 : 0 ≤ faultPlace_0 ∧ faultPlace_0 ≤ 2000) (kz_0_10 : 0 ≤ limit_0 ∧ limit_0 ≤ 2000) (kz_0_11 : 0 ≤ pos_0 ∧ pos_0 ≤ 2000) (kz_0_12 : 0 ≤ kind_0 ∧ kind_0 ≤ 4) (kz_0_13 : 0 ≤ place_0 ∧ place_0 ≤ 2000) (kz_0_14 : (-49) ≤ value_0 ∧ value_0 ≤ 1048575) (kz_0_15 : 0 ≤ from_0 ∧ from_0 ≤ 2000) (ex2 : gx = x3) (ex3 : 0 ≤ gx ∧ gx ≤ 2000) (ey2 : gy = x1) (ey3 : 0 ≤ gy ∧ gy ≤ 7) (eu2 : gu = x2) (eu3 : 0 ≤ gu ∧ gu ≤ 4) : 1 * from_0 + ((-1) * pos_0 + 0) ≤ 0 := by
  subst fe_0_5_1
  subst fe_0_8_1
  subst fe_0_9_1
  subst fe_0_10_1
  subst fe_0_11_1
  subst fe_0_12_1
  subst fe_0_13_1
  subst fe_0_14_1
  subst fe_0_15_1
  have e_hE_0_1_1 := funext hE_0_1_1; subst e_hE_0_1_1
  have e_hE_0_3_1 := funext hE_0_3_1; subst e_hE_0_3_1
  have e_hE_0_4_1 := funext hE_0_4_1; subst e_hE_0_4_1
  first
    | omega
    | (have q1 := (hE_0_2_1 (r_0 + 2) (by omega)).2 (by omega)
       have q2 := (hE_0_2_2 (r_0 + 2) (by omega)).2 (by omega)
       omega)
    | (have q1 := (hE_0_2_1 (r_0 + 1) (by omega)).2 (by omega)
       have q2 := (hE_0_2_2 (r_0 + 1) (by omega)).2 (by omega)
       omega)
    | (have q1 := (hE_0_2_1 (r_0 + 2) (by omega)).2 (by omega)
       omega)
    | (have q1 := (hE_0_2_1 (r_0 + 1) (by omega)).2 (by omega)
       omega)
    | (have q1 := (hE_0_2_1 (r_0 + 2) (by omega)).2 (by omega)
       have q2 := (hE_0_2_2 (r_0 + 2) (by omega)).2 (by omega)
       have q3 := (hE_0_2_3 (r_0 + 2) (by omega)).1 (by omega)
       omega)
    | (have q1 := (hE_0_2_1 (r_0 + 2) (by omega)).2 (by omega)
       have q2 := (hE_0_2_2 (r_0 + 2) (by omega)).2 (by omega)
       have q3 := (hE_0_2_3 (r_0 + 2) (by omega)).2 (by omega)
       omega)
set_option maxHeartbeats 4000000 in
theorem vc_Mo_item_at_k4_13_9 (x1 : Int) (x2 : Int) (x3 : Int) (x6 : Int) (x8 : Int) (x10 : Int) (x11 : Int) (x13 : Int) (x14 : Int) (x15 : Int) (x16 : Int) (x17 : Int) (x18 : Int) (x19 : Int) (x21 : Int) (x22 : Int) (x23 : Int) (x24 : Int) (r_0 : Int) (fault_0 : Int) (from_0 : Int) (pos_0 : Int) (kind_0 : Int) (all_1 : Int → Int) (r_1 : Int) (now_1 : Int → Int) (latest_1 : Int → Int) (from_1 : Int) (pos_1 : Int) (kind_1 : Int) (fault_1 : Int) (tape_1 : Int → Int) (limit_1 : Int) (place_1 : Int) (value_1 : Int) (faultPlace_1 : Int) (faultPlace_0 : Int) (limit_0 : Int) (place_0 : Int) (value_0 : Int) (tape_0 : Int → Int) (all_0 : Int → Int) (now_0 : Int → Int) (latest_0 : Int → Int) (gx : Int) (gy : Int) (gu : Int) (k1 : 0 ≤ x1 ∧ x1 ≤ 7) (k2 : 4 ≤ x2 ∧ x2 ≤ 4) (k3 : 0 ≤ x3 ∧ x3 ≤ 2000) (k6 : 0 ≤ x6 ∧ x6 ≤ 2000) (k8 : 0 ≤ x8 ∧ x8 ≤ 2000) (k10 : 0 ≤ x10 ∧ x10 ≤ 4) (k11 : 0 ≤ x11 ∧ x11 ≤ 23) (k13 : 99 ≤ x13 ∧ x13 ≤ 99) (k14 : 0 ≤ x14 ∧ x14 ≤ 2000) (k15 : (-1) ≤ x15 ∧ x15 ≤ 48) (k16 : 0 ≤ x16 ∧ x16 ≤ 7) (k17 : 0 ≤ x17 ∧ x17 ≤ 4) (k18 : 1 ≤ x18 ∧ x18 ≤ 99) (k19 : 0 ≤ x19 ∧ x19 ≤ 0) (k21 : 0 ≤ x21 ∧ x21 ≤ 66297) (k22 : 219 ≤ x22 ∧ x22 ≤ 219) (k23 : 219 ≤ x23 ∧ x23 ≤ 66516) (k24 : 219 ≤ x24 ∧ x24 ≤ 66539) (d0 : x11 + 219 ≤ x24 ∧ x24 ≤ x11 + 66516) (d1 : x23 + 0 ≤ x24 ∧ x24 ≤ x23 + 23) (d2 : x21 + 219 ≤ x24 ∧ x24 ≤ x21 + 242) (d3 : x21 + 219 ≤ x23 ∧ x23 ≤ x21 + 219) (g0 : x21 = r_0) (g2 : x19 = fault_0) (f3 : 1 * x14 + ((-1) * x3 + 0) ≤ 0) (f4 : (-1) * x14 + (1 * x3 + 0) ≤ 0) (f5 : 1 * x15 + ((-1) * x11 + 0) ≤ 0) (f6 : (-1) * x15 + (1 * x11 + 0) ≤ 0) (f7 : 1 * x16 + ((-1) * x1 + 0) ≤ 0) (f8 : (-1) * x16 + (1 * x1 + 0) ≤ 0) (f9 : 1 * x17 + ((-1) * x2 + 0) ≤ 0) (f10 : (-1) * x17 + (1 * x2 + 0) ≤ 0) (f11 : 1 * x8 + ((-1) * x3 + 0) ≤ 0) (f12 : (-1) * x8 + (1 * x3 + 0) ≤ 0) (f13 : 1 * x10 + ((-1) * x2 + 0) ≤ 0) (f14 : (-1) * x10 + (1 * x2 + 0) ≤ 0) (f15 : 1 * x3 + ((-1) * x6 + 0) ≤ 0) (f16 : 1 * from_0 + ((-1) * pos_0 + 0) ≤ 0) (f17 : ((kind_0 = 1) → (pos_0 ≤ (from_0 + 8))) ∧ ((kind_0 = 0) ∨ ((from_0 + 1) ≤ pos_0))) (f18 : 1 * x14 + ((-1) * pos_0 + 0) ≤ 0) (f19 : (1 ≤ fault_0) ∨ ((kind_0 = 0) ∨ ((x14 + 1) ≤ pos_0))) (f20 : (1 ≤ fault_0) ∨ (0 ≤ x15)) (f21 : 1 * x18 + ((-1) * x13 + 0) ≤ 0) (f22 : (-1) * x18 + 0 ≤ 0) (f24 : x24 = x23 + x11) (f25 : x23 = x21 + x22) (f26 : 0 < x18) (f27 : x19 = 0) (f28 : 1 * x14 + ((-1) * x3 + 0) ≤ 0) (f29 : (-1) * x14 + (1 * x3 + 0) ≤ 0) (f30 : 1 * x15 + ((-1) * x11 + 0) ≤ 0) (f31 : (-1) * x15 + (1 * x11 + 0) ≤ 0) (f32 : 1 * x16 + ((-1) * x1 + 0) ≤ 0) (f33 : (-1) * x16 + (1 * x1 + 0) ≤ 0) (f34 : 1 * x17 + ((-1) * x2 + 0) ≤ 0) (f35 : (-1) * x17 + (1 * x2 + 0) ≤ 0) (f36 : 1 * x8 + ((-1) * x3 + 0) ≤ 0) (f37 : (-1) * x8 + (1 * x3 + 0) ≤ 0) (f38 : 1 * x10 + ((-1) * x2 + 0) ≤ 0) (f39 : (-1) * x10 + (1 * x2 + 0) ≤ 0) (f40 : 1 * x3 + ((-1) * x6 + 0) ≤ 0) (f41 : (x1 + 1) ≤ all_1 ((r_1 + 2))) (f42 : RWS (r_1) (all_1) (now_1) (latest_1)) (f43 : 1 * from_1 + ((-1) * pos_1 + 0) ≤ 0) (f44 : ((kind_1 = 1) → (pos_1 ≤ (from_1 + 8))) ∧ ((kind_1 = 0) ∨ ((from_1 + 1) ≤ pos_1))) (f45 : 1 * x14 + ((-1) * pos_1 + 0) ≤ 0) (f46 : (1 ≤ fault_1) ∨ ((kind_1 = 0) ∨ ((x14 + 1) ≤ pos_1))) (f47 : (1 ≤ fault_1) ∨ (0 ≤ x15)) (f48 : 1 * x18 + ((-1) * x13 + 0) ≤ 0) (f49 : (-1) * x18 + 0 ≤ 0) (f50 : zOFs (limit_1) (pos_1) (kind_1) (place_1) (value_1) (from_1) (fault_1) (faultPlace_1) (r_1) (tape_1) (all_1) (x15) (x18) (x16) (x17)) (f52 : 1 * x14 + ((-1) * x3 + 0) ≤ 0) (f53 : (-1) * x14 + (1 * x3 + 0) ≤ 0) (f54 : 1 * x15 + ((-1) * x11 + 0) ≤ 0) (f55 : (-1) * x15 + (1 * x11 + 0) ≤ 0) (f56 : 1 * x16 + ((-1) * x1 + 0) ≤ 0) (f57 : (-1) * x16 + (1 * x1 + 0) ≤ 0) (f58 : 1 * x17 + ((-1) * x2 + 0) ≤ 0) (f59 : (-1) * x17 + (1 * x2 + 0) ≤ 0) (f60 : 1 * x8 + ((-1) * x3 + 0) ≤ 0) (f61 : (-1) * x8 + (1 * x3 + 0) ≤ 0) (f62 : 1 * x10 + ((-1) * x2 + 0) ≤ 0) (f63 : (-1) * x10 + (1 * x2 + 0) ≤ 0) (f65 : 1 * x8 + ((-1) * x3 + 0) ≤ 0) (f66 : (-1) * x8 + (1 * x3 + 0) ≤ 0) (f67 : 1 * x10 + ((-1) * x2 + 0) ≤ 0) (f68 : (-1) * x10 + (1 * x2 + 0) ≤ 0) (fe_0_5_1 : r_0 = r_1) (fe_0_8_1 : fault_0 = fault_1) (fe_0_9_1 : faultPlace_0 = faultPlace_1) (fe_0_10_1 : limit_0 = limit_1) (fe_0_11_1 : pos_0 = pos_1) (fe_0_12_1 : kind_0 = kind_1) (fe_0_13_1 : place_0 = place_1) (fe_0_14_1 : value_0 = value_1) (fe_0_15_1 : from_0 = from_1) (hE_0_1_1 : ∀ j : Int, tape_0 j = tape_1 j) (hK_0_1 : ∀ j : Int, 0 ≤ j → j < 2000 → (-128) ≤ tape_0 j ∧ tape_0 j ≤ 127) (hE_0_2_1 : ∀ j : Int, 0 ≤ j → (j = x24 → all_0 j = x18) ∧ (j ≠ x24 → all_0 j = all_1 j)) (hE_0_3_1 : ∀ j : Int, now_0 j = now_1 j) (hK_0_3 : ∀ j : Int, 0 ≤ j → j < 4 → 0 ≤ now_0 j ∧ now_0 j ≤ 30) (hE_0_4_1 : ∀ j : Int, latest_0 j = latest_1 j) (hK_0_4 : ∀ j : Int, 0 ≤ j → j < 4 → 0 ≤ latest_0 j ∧ latest_0 j ≤ 30) (kz_0_8 : 0 ≤ fault_0 ∧ fault_0 ≤ 5) (kz_0_9 : 0 ≤ faultPlace_0 ∧ faultPlace_0 ≤ 2000) (kz_0_10 : 0 ≤ limit_0 ∧ limit_0 ≤ 2000) (kz_0_11 : 0 ≤ pos_0 ∧ pos_0 ≤ 2000) (kz_0_12 : 0 ≤ kind_0 ∧ kind_0 ≤ 4) (kz_0_13 : 0 ≤ place_0 ∧ place_0 ≤ 2000) (kz_0_14 : (-49) ≤ value_0 ∧ value_0 ≤ 1048575) (kz_0_15 : 0 ≤ from_0 ∧ from_0 ≤ 2000) (ex2 : gx = x3) (ex3 : 0 ≤ gx ∧ gx ≤ 2000) (ey2 : gy = x1) (ey3 : 0 ≤ gy ∧ gy ≤ 7) (eu2 : gu = x2) (eu3 : 0 ≤ gu ∧ gu ≤ 4) : ((kind_0 = 1) → (pos_0 ≤ (from_0 + 8))) ∧ ((kind_0 = 0) ∨ ((from_0 + 1) ≤ pos_0)) := by
  subst fe_0_5_1
  subst fe_0_8_1
  subst fe_0_9_1
  subst fe_0_10_1
  subst fe_0_11_1
  subst fe_0_12_1
  subst fe_0_13_1
  subst fe_0_14_1
  subst fe_0_15_1
  have e_hE_0_1_1 := funext hE_0_1_1; subst e_hE_0_1_1
  have e_hE_0_3_1 := funext hE_0_3_1; subst e_hE_0_3_1
  have e_hE_0_4_1 := funext hE_0_4_1; subst e_hE_0_4_1
  first
    | omega
    | (have q1 := (hE_0_2_1 (r_0 + 2) (by omega)).2 (by omega)
       have q2 := (hE_0_2_2 (r_0 + 2) (by omega)).2 (by omega)
       omega)
    | (have q1 := (hE_0_2_1 (r_0 + 1) (by omega)).2 (by omega)
       have q2 := (hE_0_2_2 (r_0 + 1) (by omega)).2 (by omega)
       omega)
    | (have q1 := (hE_0_2_1 (r_0 + 2) (by omega)).2 (by omega)
       omega)
    | (have q1 := (hE_0_2_1 (r_0 + 1) (by omega)).2 (by omega)
       omega)
    | (have q1 := (hE_0_2_1 (r_0 + 2) (by omega)).2 (by omega)
       have q2 := (hE_0_2_2 (r_0 + 2) (by omega)).2 (by omega)
       have q3 := (hE_0_2_3 (r_0 + 2) (by omega)).1 (by omega)
       omega)
    | (have q1 := (hE_0_2_1 (r_0 + 2) (by omega)).2 (by omega)
       have q2 := (hE_0_2_2 (r_0 + 2) (by omega)).2 (by omega)
       have q3 := (hE_0_2_3 (r_0 + 2) (by omega)).2 (by omega)
       omega)
set_option maxHeartbeats 4000000 in
theorem vc_Mo_item_at_k4_13_10 (x1 : Int) (x2 : Int) (x3 : Int) (x6 : Int) (x8 : Int) (x10 : Int) (x11 : Int) (x13 : Int) (x14 : Int) (x15 : Int) (x16 : Int) (x17 : Int) (x18 : Int) (x19 : Int) (x21 : Int) (x22 : Int) (x23 : Int) (x24 : Int) (r_0 : Int) (fault_0 : Int) (from_0 : Int) (pos_0 : Int) (kind_0 : Int) (all_1 : Int → Int) (r_1 : Int) (now_1 : Int → Int) (latest_1 : Int → Int) (from_1 : Int) (pos_1 : Int) (kind_1 : Int) (fault_1 : Int) (tape_1 : Int → Int) (limit_1 : Int) (place_1 : Int) (value_1 : Int) (faultPlace_1 : Int) (faultPlace_0 : Int) (limit_0 : Int) (place_0 : Int) (value_0 : Int) (tape_0 : Int → Int) (all_0 : Int → Int) (now_0 : Int → Int) (latest_0 : Int → Int) (gx : Int) (gy : Int) (gu : Int) (k1 : 0 ≤ x1 ∧ x1 ≤ 7) (k2 : 4 ≤ x2 ∧ x2 ≤ 4) (k3 : 0 ≤ x3 ∧ x3 ≤ 2000) (k6 : 0 ≤ x6 ∧ x6 ≤ 2000) (k8 : 0 ≤ x8 ∧ x8 ≤ 2000) (k10 : 0 ≤ x10 ∧ x10 ≤ 4) (k11 : 0 ≤ x11 ∧ x11 ≤ 23) (k13 : 99 ≤ x13 ∧ x13 ≤ 99) (k14 : 0 ≤ x14 ∧ x14 ≤ 2000) (k15 : (-1) ≤ x15 ∧ x15 ≤ 48) (k16 : 0 ≤ x16 ∧ x16 ≤ 7) (k17 : 0 ≤ x17 ∧ x17 ≤ 4) (k18 : 1 ≤ x18 ∧ x18 ≤ 99) (k19 : 0 ≤ x19 ∧ x19 ≤ 0) (k21 : 0 ≤ x21 ∧ x21 ≤ 66297) (k22 : 219 ≤ x22 ∧ x22 ≤ 219) (k23 : 219 ≤ x23 ∧ x23 ≤ 66516) (k24 : 219 ≤ x24 ∧ x24 ≤ 66539) (d0 : x11 + 219 ≤ x24 ∧ x24 ≤ x11 + 66516) (d1 : x23 + 0 ≤ x24 ∧ x24 ≤ x23 + 23) (d2 : x21 + 219 ≤ x24 ∧ x24 ≤ x21 + 242) (d3 : x21 + 219 ≤ x23 ∧ x23 ≤ x21 + 219) (g0 : x21 = r_0) (g2 : x19 = fault_0) (f3 : 1 * x14 + ((-1) * x3 + 0) ≤ 0) (f4 : (-1) * x14 + (1 * x3 + 0) ≤ 0) (f5 : 1 * x15 + ((-1) * x11 + 0) ≤ 0) (f6 : (-1) * x15 + (1 * x11 + 0) ≤ 0) (f7 : 1 * x16 + ((-1) * x1 + 0) ≤ 0) (f8 : (-1) * x16 + (1 * x1 + 0) ≤ 0) (f9 : 1 * x17 + ((-1) * x2 + 0) ≤ 0) (f10 : (-1) * x17 + (1 * x2 + 0) ≤ 0) (f11 : 1 * x8 + ((-1) * x3 + 0) ≤ 0) (f12 : (-1) * x8 + (1 * x3 + 0) ≤ 0) (f13 : 1 * x10 + ((-1) * x2 + 0) ≤ 0) (f14 : (-1) * x10 + (1 * x2 + 0) ≤ 0) (f15 : 1 * x3 + ((-1) * x6 + 0) ≤ 0) (f16 : 1 * from_0 + ((-1) * pos_0 + 0) ≤ 0) (f17 : ((kind_0 = 1) → (pos_0 ≤ (from_0 + 8))) ∧ ((kind_0 = 0) ∨ ((from_0 + 1) ≤ pos_0))) (f18 : 1 * x14 + ((-1) * pos_0 + 0) ≤ 0) (f19 : (1 ≤ fault_0) ∨ ((kind_0 = 0) ∨ ((x14 + 1) ≤ pos_0))) (f20 : (1 ≤ fault_0) ∨ (0 ≤ x15)) (f21 : 1 * x18 + ((-1) * x13 + 0) ≤ 0) (f22 : (-1) * x18 + 0 ≤ 0) (f24 : x24 = x23 + x11) (f25 : x23 = x21 + x22) (f26 : 0 < x18) (f27 : x19 = 0) (f28 : 1 * x14 + ((-1) * x3 + 0) ≤ 0) (f29 : (-1) * x14 + (1 * x3 + 0) ≤ 0) (f30 : 1 * x15 + ((-1) * x11 + 0) ≤ 0) (f31 : (-1) * x15 + (1 * x11 + 0) ≤ 0) (f32 : 1 * x16 + ((-1) * x1 + 0) ≤ 0) (f33 : (-1) * x16 + (1 * x1 + 0) ≤ 0) (f34 : 1 * x17 + ((-1) * x2 + 0) ≤ 0) (f35 : (-1) * x17 + (1 * x2 + 0) ≤ 0) (f36 : 1 * x8 + ((-1) * x3 + 0) ≤ 0) (f37 : (-1) * x8 + (1 * x3 + 0) ≤ 0) (f38 : 1 * x10 + ((-1) * x2 + 0) ≤ 0) (f39 : (-1) * x10 + (1 * x2 + 0) ≤ 0) (f40 : 1 * x3 + ((-1) * x6 + 0) ≤ 0) (f41 : (x1 + 1) ≤ all_1 ((r_1 + 2))) (f42 : RWS (r_1) (all_1) (now_1) (latest_1)) (f43 : 1 * from_1 + ((-1) * pos_1 + 0) ≤ 0) (f44 : ((kind_1 = 1) → (pos_1 ≤ (from_1 + 8))) ∧ ((kind_1 = 0) ∨ ((from_1 + 1) ≤ pos_1))) (f45 : 1 * x14 + ((-1) * pos_1 + 0) ≤ 0) (f46 : (1 ≤ fault_1) ∨ ((kind_1 = 0) ∨ ((x14 + 1) ≤ pos_1))) (f47 : (1 ≤ fault_1) ∨ (0 ≤ x15)) (f48 : 1 * x18 + ((-1) * x13 + 0) ≤ 0) (f49 : (-1) * x18 + 0 ≤ 0) (f50 : zOFs (limit_1) (pos_1) (kind_1) (place_1) (value_1) (from_1) (fault_1) (faultPlace_1) (r_1) (tape_1) (all_1) (x15) (x18) (x16) (x17)) (f52 : 1 * x14 + ((-1) * x3 + 0) ≤ 0) (f53 : (-1) * x14 + (1 * x3 + 0) ≤ 0) (f54 : 1 * x15 + ((-1) * x11 + 0) ≤ 0) (f55 : (-1) * x15 + (1 * x11 + 0) ≤ 0) (f56 : 1 * x16 + ((-1) * x1 + 0) ≤ 0) (f57 : (-1) * x16 + (1 * x1 + 0) ≤ 0) (f58 : 1 * x17 + ((-1) * x2 + 0) ≤ 0) (f59 : (-1) * x17 + (1 * x2 + 0) ≤ 0) (f60 : 1 * x8 + ((-1) * x3 + 0) ≤ 0) (f61 : (-1) * x8 + (1 * x3 + 0) ≤ 0) (f62 : 1 * x10 + ((-1) * x2 + 0) ≤ 0) (f63 : (-1) * x10 + (1 * x2 + 0) ≤ 0) (f65 : 1 * x8 + ((-1) * x3 + 0) ≤ 0) (f66 : (-1) * x8 + (1 * x3 + 0) ≤ 0) (f67 : 1 * x10 + ((-1) * x2 + 0) ≤ 0) (f68 : (-1) * x10 + (1 * x2 + 0) ≤ 0) (fe_0_5_1 : r_0 = r_1) (fe_0_8_1 : fault_0 = fault_1) (fe_0_9_1 : faultPlace_0 = faultPlace_1) (fe_0_10_1 : limit_0 = limit_1) (fe_0_11_1 : pos_0 = pos_1) (fe_0_12_1 : kind_0 = kind_1) (fe_0_13_1 : place_0 = place_1) (fe_0_14_1 : value_0 = value_1) (fe_0_15_1 : from_0 = from_1) (hE_0_1_1 : ∀ j : Int, tape_0 j = tape_1 j) (hK_0_1 : ∀ j : Int, 0 ≤ j → j < 2000 → (-128) ≤ tape_0 j ∧ tape_0 j ≤ 127) (hE_0_2_1 : ∀ j : Int, 0 ≤ j → (j = x24 → all_0 j = x18) ∧ (j ≠ x24 → all_0 j = all_1 j)) (hE_0_3_1 : ∀ j : Int, now_0 j = now_1 j) (hK_0_3 : ∀ j : Int, 0 ≤ j → j < 4 → 0 ≤ now_0 j ∧ now_0 j ≤ 30) (hE_0_4_1 : ∀ j : Int, latest_0 j = latest_1 j) (hK_0_4 : ∀ j : Int, 0 ≤ j → j < 4 → 0 ≤ latest_0 j ∧ latest_0 j ≤ 30) (kz_0_8 : 0 ≤ fault_0 ∧ fault_0 ≤ 5) (kz_0_9 : 0 ≤ faultPlace_0 ∧ faultPlace_0 ≤ 2000) (kz_0_10 : 0 ≤ limit_0 ∧ limit_0 ≤ 2000) (kz_0_11 : 0 ≤ pos_0 ∧ pos_0 ≤ 2000) (kz_0_12 : 0 ≤ kind_0 ∧ kind_0 ≤ 4) (kz_0_13 : 0 ≤ place_0 ∧ place_0 ≤ 2000) (kz_0_14 : (-49) ≤ value_0 ∧ value_0 ≤ 1048575) (kz_0_15 : 0 ≤ from_0 ∧ from_0 ≤ 2000) (ex2 : gx = x3) (ex3 : 0 ≤ gx ∧ gx ≤ 2000) (ey2 : gy = x1) (ey3 : 0 ≤ gy ∧ gy ≤ 7) (eu2 : gu = x2) (eu3 : 0 ≤ gu ∧ gu ≤ 4) : 1 * gx + ((-1) * pos_0 + 0) ≤ 0 := by
  subst fe_0_5_1
  subst fe_0_8_1
  subst fe_0_9_1
  subst fe_0_10_1
  subst fe_0_11_1
  subst fe_0_12_1
  subst fe_0_13_1
  subst fe_0_14_1
  subst fe_0_15_1
  have e_hE_0_1_1 := funext hE_0_1_1; subst e_hE_0_1_1
  have e_hE_0_3_1 := funext hE_0_3_1; subst e_hE_0_3_1
  have e_hE_0_4_1 := funext hE_0_4_1; subst e_hE_0_4_1
  first
    | omega
    | (have q1 := (hE_0_2_1 (r_0 + 2) (by omega)).2 (by omega)
       have q2 := (hE_0_2_2 (r_0 + 2) (by omega)).2 (by omega)
       omega)
    | (have q1 := (hE_0_2_1 (r_0 + 1) (by omega)).2 (by omega)
       have q2 := (hE_0_2_2 (r_0 + 1) (by omega)).2 (by omega)
       omega)
    | (have q1 := (hE_0_2_1 (r_0 + 2) (by omega)).2 (by omega)
       omega)
    | (have q1 := (hE_0_2_1 (r_0 + 1) (by omega)).2 (by omega)
       omega)
    | (have q1 := (hE_0_2_1 (r_0 + 2) (by omega)).2 (by omega)
       have q2 := (hE_0_2_2 (r_0 + 2) (by omega)).2 (by omega)
       have q3 := (hE_0_2_3 (r_0 + 2) (by omega)).1 (by omega)
       omega)
    | (have q1 := (hE_0_2_1 (r_0 + 2) (by omega)).2 (by omega)
       have q2 := (hE_0_2_2 (r_0 + 2) (by omega)).2 (by omega)
       have q3 := (hE_0_2_3 (r_0 + 2) (by omega)).2 (by omega)
       omega)
set_option maxHeartbeats 4000000 in
theorem vc_Mo_item_at_k4_13_11 (x1 : Int) (x2 : Int) (x3 : Int) (x6 : Int) (x8 : Int) (x10 : Int) (x11 : Int) (x13 : Int) (x14 : Int) (x15 : Int) (x16 : Int) (x17 : Int) (x18 : Int) (x19 : Int) (x21 : Int) (x22 : Int) (x23 : Int) (x24 : Int) (r_0 : Int) (fault_0 : Int) (from_0 : Int) (pos_0 : Int) (kind_0 : Int) (all_1 : Int → Int) (r_1 : Int) (now_1 : Int → Int) (latest_1 : Int → Int) (from_1 : Int) (pos_1 : Int) (kind_1 : Int) (fault_1 : Int) (tape_1 : Int → Int) (limit_1 : Int) (place_1 : Int) (value_1 : Int) (faultPlace_1 : Int) (faultPlace_0 : Int) (limit_0 : Int) (place_0 : Int) (value_0 : Int) (tape_0 : Int → Int) (all_0 : Int → Int) (now_0 : Int → Int) (latest_0 : Int → Int) (gx : Int) (gy : Int) (gu : Int) (k1 : 0 ≤ x1 ∧ x1 ≤ 7) (k2 : 4 ≤ x2 ∧ x2 ≤ 4) (k3 : 0 ≤ x3 ∧ x3 ≤ 2000) (k6 : 0 ≤ x6 ∧ x6 ≤ 2000) (k8 : 0 ≤ x8 ∧ x8 ≤ 2000) (k10 : 0 ≤ x10 ∧ x10 ≤ 4) (k11 : 0 ≤ x11 ∧ x11 ≤ 23) (k13 : 99 ≤ x13 ∧ x13 ≤ 99) (k14 : 0 ≤ x14 ∧ x14 ≤ 2000) (k15 : (-1) ≤ x15 ∧ x15 ≤ 48) (k16 : 0 ≤ x16 ∧ x16 ≤ 7) (k17 : 0 ≤ x17 ∧ x17 ≤ 4) (k18 : 1 ≤ x18 ∧ x18 ≤ 99) (k19 : 0 ≤ x19 ∧ x19 ≤ 0) (k21 : 0 ≤ x21 ∧ x21 ≤ 66297) (k22 : 219 ≤ x22 ∧ x22 ≤ 219) (k23 : 219 ≤ x23 ∧ x23 ≤ 66516) (k24 : 219 ≤ x24 ∧ x24 ≤ 66539) (d0 : x11 + 219 ≤ x24 ∧ x24 ≤ x11 + 66516) (d1 : x23 + 0 ≤ x24 ∧ x24 ≤ x23 + 23) (d2 : x21 + 219 ≤ x24 ∧ x24 ≤ x21 + 242) (d3 : x21 + 219 ≤ x23 ∧ x23 ≤ x21 + 219) (g0 : x21 = r_0) (g2 : x19 = fault_0) (f3 : 1 * x14 + ((-1) * x3 + 0) ≤ 0) (f4 : (-1) * x14 + (1 * x3 + 0) ≤ 0) (f5 : 1 * x15 + ((-1) * x11 + 0) ≤ 0) (f6 : (-1) * x15 + (1 * x11 + 0) ≤ 0) (f7 : 1 * x16 + ((-1) * x1 + 0) ≤ 0) (f8 : (-1) * x16 + (1 * x1 + 0) ≤ 0) (f9 : 1 * x17 + ((-1) * x2 + 0) ≤ 0) (f10 : (-1) * x17 + (1 * x2 + 0) ≤ 0) (f11 : 1 * x8 + ((-1) * x3 + 0) ≤ 0) (f12 : (-1) * x8 + (1 * x3 + 0) ≤ 0) (f13 : 1 * x10 + ((-1) * x2 + 0) ≤ 0) (f14 : (-1) * x10 + (1 * x2 + 0) ≤ 0) (f15 : 1 * x3 + ((-1) * x6 + 0) ≤ 0) (f16 : 1 * from_0 + ((-1) * pos_0 + 0) ≤ 0) (f17 : ((kind_0 = 1) → (pos_0 ≤ (from_0 + 8))) ∧ ((kind_0 = 0) ∨ ((from_0 + 1) ≤ pos_0))) (f18 : 1 * x14 + ((-1) * pos_0 + 0) ≤ 0) (f19 : (1 ≤ fault_0) ∨ ((kind_0 = 0) ∨ ((x14 + 1) ≤ pos_0))) (f20 : (1 ≤ fault_0) ∨ (0 ≤ x15)) (f21 : 1 * x18 + ((-1) * x13 + 0) ≤ 0) (f22 : (-1) * x18 + 0 ≤ 0) (f24 : x24 = x23 + x11) (f25 : x23 = x21 + x22) (f26 : 0 < x18) (f27 : x19 = 0) (f28 : 1 * x14 + ((-1) * x3 + 0) ≤ 0) (f29 : (-1) * x14 + (1 * x3 + 0) ≤ 0) (f30 : 1 * x15 + ((-1) * x11 + 0) ≤ 0) (f31 : (-1) * x15 + (1 * x11 + 0) ≤ 0) (f32 : 1 * x16 + ((-1) * x1 + 0) ≤ 0) (f33 : (-1) * x16 + (1 * x1 + 0) ≤ 0) (f34 : 1 * x17 + ((-1) * x2 + 0) ≤ 0) (f35 : (-1) * x17 + (1 * x2 + 0) ≤ 0) (f36 : 1 * x8 + ((-1) * x3 + 0) ≤ 0) (f37 : (-1) * x8 + (1 * x3 + 0) ≤ 0) (f38 : 1 * x10 + ((-1) * x2 + 0) ≤ 0) (f39 : (-1) * x10 + (1 * x2 + 0) ≤ 0) (f40 : 1 * x3 + ((-1) * x6 + 0) ≤ 0) (f41 : (x1 + 1) ≤ all_1 ((r_1 + 2))) (f42 : RWS (r_1) (all_1) (now_1) (latest_1)) (f43 : 1 * from_1 + ((-1) * pos_1 + 0) ≤ 0) (f44 : ((kind_1 = 1) → (pos_1 ≤ (from_1 + 8))) ∧ ((kind_1 = 0) ∨ ((from_1 + 1) ≤ pos_1))) (f45 : 1 * x14 + ((-1) * pos_1 + 0) ≤ 0) (f46 : (1 ≤ fault_1) ∨ ((kind_1 = 0) ∨ ((x14 + 1) ≤ pos_1))) (f47 : (1 ≤ fault_1) ∨ (0 ≤ x15)) (f48 : 1 * x18 + ((-1) * x13 + 0) ≤ 0) (f49 : (-1) * x18 + 0 ≤ 0) (f50 : zOFs (limit_1) (pos_1) (kind_1) (place_1) (value_1) (from_1) (fault_1) (faultPlace_1) (r_1) (tape_1) (all_1) (x15) (x18) (x16) (x17)) (f52 : 1 * x14 + ((-1) * x3 + 0) ≤ 0) (f53 : (-1) * x14 + (1 * x3 + 0) ≤ 0) (f54 : 1 * x15 + ((-1) * x11 + 0) ≤ 0) (f55 : (-1) * x15 + (1 * x11 + 0) ≤ 0) (f56 : 1 * x16 + ((-1) * x1 + 0) ≤ 0) (f57 : (-1) * x16 + (1 * x1 + 0) ≤ 0) (f58 : 1 * x17 + ((-1) * x2 + 0) ≤ 0) (f59 : (-1) * x17 + (1 * x2 + 0) ≤ 0) (f60 : 1 * x8 + ((-1) * x3 + 0) ≤ 0) (f61 : (-1) * x8 + (1 * x3 + 0) ≤ 0) (f62 : 1 * x10 + ((-1) * x2 + 0) ≤ 0) (f63 : (-1) * x10 + (1 * x2 + 0) ≤ 0) (f65 : 1 * x8 + ((-1) * x3 + 0) ≤ 0) (f66 : (-1) * x8 + (1 * x3 + 0) ≤ 0) (f67 : 1 * x10 + ((-1) * x2 + 0) ≤ 0) (f68 : (-1) * x10 + (1 * x2 + 0) ≤ 0) (fe_0_5_1 : r_0 = r_1) (fe_0_8_1 : fault_0 = fault_1) (fe_0_9_1 : faultPlace_0 = faultPlace_1) (fe_0_10_1 : limit_0 = limit_1) (fe_0_11_1 : pos_0 = pos_1) (fe_0_12_1 : kind_0 = kind_1) (fe_0_13_1 : place_0 = place_1) (fe_0_14_1 : value_0 = value_1) (fe_0_15_1 : from_0 = from_1) (hE_0_1_1 : ∀ j : Int, tape_0 j = tape_1 j) (hK_0_1 : ∀ j : Int, 0 ≤ j → j < 2000 → (-128) ≤ tape_0 j ∧ tape_0 j ≤ 127) (hE_0_2_1 : ∀ j : Int, 0 ≤ j → (j = x24 → all_0 j = x18) ∧ (j ≠ x24 → all_0 j = all_1 j)) (hE_0_3_1 : ∀ j : Int, now_0 j = now_1 j) (hK_0_3 : ∀ j : Int, 0 ≤ j → j < 4 → 0 ≤ now_0 j ∧ now_0 j ≤ 30) (hE_0_4_1 : ∀ j : Int, latest_0 j = latest_1 j) (hK_0_4 : ∀ j : Int, 0 ≤ j → j < 4 → 0 ≤ latest_0 j ∧ latest_0 j ≤ 30) (kz_0_8 : 0 ≤ fault_0 ∧ fault_0 ≤ 5) (kz_0_9 : 0 ≤ faultPlace_0 ∧ faultPlace_0 ≤ 2000) (kz_0_10 : 0 ≤ limit_0 ∧ limit_0 ≤ 2000) (kz_0_11 : 0 ≤ pos_0 ∧ pos_0 ≤ 2000) (kz_0_12 : 0 ≤ kind_0 ∧ kind_0 ≤ 4) (kz_0_13 : 0 ≤ place_0 ∧ place_0 ≤ 2000) (kz_0_14 : (-49) ≤ value_0 ∧ value_0 ≤ 1048575) (kz_0_15 : 0 ≤ from_0 ∧ from_0 ≤ 2000) (ex2 : gx = x3) (ex3 : 0 ≤ gx ∧ gx ≤ 2000) (ey2 : gy = x1) (ey3 : 0 ≤ gy ∧ gy ≤ 7) (eu2 : gu = x2) (eu3 : 0 ≤ gu ∧ gu ≤ 4) : (1 ≤ fault_0) ∨ ((kind_0 = 0) ∨ ((gx + 1) ≤ pos_0)) := by
  subst fe_0_5_1
  subst fe_0_8_1
  subst fe_0_9_1
  subst fe_0_10_1
  subst fe_0_11_1
  subst fe_0_12_1
  subst fe_0_13_1
  subst fe_0_14_1
  subst fe_0_15_1
  have e_hE_0_1_1 := funext hE_0_1_1; subst e_hE_0_1_1
  have e_hE_0_3_1 := funext hE_0_3_1; subst e_hE_0_3_1
  have e_hE_0_4_1 := funext hE_0_4_1; subst e_hE_0_4_1
  first
    | omega
    | (have q1 := (hE_0_2_1 (r_0 + 2) (by omega)).2 (by omega)
       have q2 := (hE_0_2_2 (r_0 + 2) (by omega)).2 (by omega)
       omega)
    | (have q1 := (hE_0_2_1 (r_0 + 1) (by omega)).2 (by omega)
       have q2 := (hE_0_2_2 (r_0 + 1) (by omega)).2 (by omega)
       omega)
    | (have q1 := (hE_0_2_1 (r_0 + 2) (by omega)).2 (by omega)
       omega)
    | (have q1 := (hE_0_2_1 (r_0 + 1) (by omega)).2 (by omega)
       omega)
    | (have q1 := (hE_0_2_1 (r_0 + 2) (by omega)).2 (by omega)
       have q2 := (hE_0_2_2 (r_0 + 2) (by omega)).2 (by omega)
       have q3 := (hE_0_2_3 (r_0 + 2) (by omega)).1 (by omega)
       omega)
    | (have q1 := (hE_0_2_1 (r_0 + 2) (by omega)).2 (by omega)
       have q2 := (hE_0_2_2 (r_0 + 2) (by omega)).2 (by omega)
       have q3 := (hE_0_2_3 (r_0 + 2) (by omega)).2 (by omega)
       omega)
set_option maxHeartbeats 4000000 in
theorem vc_Mo_item_at_k4_13_12 (x1 : Int) (x2 : Int) (x3 : Int) (x6 : Int) (x8 : Int) (x10 : Int) (x11 : Int) (x13 : Int) (x14 : Int) (x15 : Int) (x16 : Int) (x17 : Int) (x18 : Int) (x19 : Int) (x21 : Int) (x22 : Int) (x23 : Int) (x24 : Int) (r_0 : Int) (fault_0 : Int) (from_0 : Int) (pos_0 : Int) (kind_0 : Int) (all_1 : Int → Int) (r_1 : Int) (now_1 : Int → Int) (latest_1 : Int → Int) (from_1 : Int) (pos_1 : Int) (kind_1 : Int) (fault_1 : Int) (tape_1 : Int → Int) (limit_1 : Int) (place_1 : Int) (value_1 : Int) (faultPlace_1 : Int) (faultPlace_0 : Int) (limit_0 : Int) (place_0 : Int) (value_0 : Int) (tape_0 : Int → Int) (all_0 : Int → Int) (now_0 : Int → Int) (latest_0 : Int → Int) (gx : Int) (gy : Int) (gu : Int) (k1 : 0 ≤ x1 ∧ x1 ≤ 7) (k2 : 4 ≤ x2 ∧ x2 ≤ 4) (k3 : 0 ≤ x3 ∧ x3 ≤ 2000) (k6 : 0 ≤ x6 ∧ x6 ≤ 2000) (k8 : 0 ≤ x8 ∧ x8 ≤ 2000) (k10 : 0 ≤ x10 ∧ x10 ≤ 4) (k11 : 0 ≤ x11 ∧ x11 ≤ 23) (k13 : 99 ≤ x13 ∧ x13 ≤ 99) (k14 : 0 ≤ x14 ∧ x14 ≤ 2000) (k15 : (-1) ≤ x15 ∧ x15 ≤ 48) (k16 : 0 ≤ x16 ∧ x16 ≤ 7) (k17 : 0 ≤ x17 ∧ x17 ≤ 4) (k18 : 1 ≤ x18 ∧ x18 ≤ 99) (k19 : 0 ≤ x19 ∧ x19 ≤ 0) (k21 : 0 ≤ x21 ∧ x21 ≤ 66297) (k22 : 219 ≤ x22 ∧ x22 ≤ 219) (k23 : 219 ≤ x23 ∧ x23 ≤ 66516) (k24 : 219 ≤ x24 ∧ x24 ≤ 66539) (d0 : x11 + 219 ≤ x24 ∧ x24 ≤ x11 + 66516) (d1 : x23 + 0 ≤ x24 ∧ x24 ≤ x23 + 23) (d2 : x21 + 219 ≤ x24 ∧ x24 ≤ x21 + 242) (d3 : x21 + 219 ≤ x23 ∧ x23 ≤ x21 + 219) (g0 : x21 = r_0) (g2 : x19 = fault_0) (f3 : 1 * x14 + ((-1) * x3 + 0) ≤ 0) (f4 : (-1) * x14 + (1 * x3 + 0) ≤ 0) (f5 : 1 * x15 + ((-1) * x11 + 0) ≤ 0) (f6 : (-1) * x15 + (1 * x11 + 0) ≤ 0) (f7 : 1 * x16 + ((-1) * x1 + 0) ≤ 0) (f8 : (-1) * x16 + (1 * x1 + 0) ≤ 0) (f9 : 1 * x17 + ((-1) * x2 + 0) ≤ 0) (f10 : (-1) * x17 + (1 * x2 + 0) ≤ 0) (f11 : 1 * x8 + ((-1) * x3 + 0) ≤ 0) (f12 : (-1) * x8 + (1 * x3 + 0) ≤ 0) (f13 : 1 * x10 + ((-1) * x2 + 0) ≤ 0) (f14 : (-1) * x10 + (1 * x2 + 0) ≤ 0) (f15 : 1 * x3 + ((-1) * x6 + 0) ≤ 0) (f16 : 1 * from_0 + ((-1) * pos_0 + 0) ≤ 0) (f17 : ((kind_0 = 1) → (pos_0 ≤ (from_0 + 8))) ∧ ((kind_0 = 0) ∨ ((from_0 + 1) ≤ pos_0))) (f18 : 1 * x14 + ((-1) * pos_0 + 0) ≤ 0) (f19 : (1 ≤ fault_0) ∨ ((kind_0 = 0) ∨ ((x14 + 1) ≤ pos_0))) (f20 : (1 ≤ fault_0) ∨ (0 ≤ x15)) (f21 : 1 * x18 + ((-1) * x13 + 0) ≤ 0) (f22 : (-1) * x18 + 0 ≤ 0) (f24 : x24 = x23 + x11) (f25 : x23 = x21 + x22) (f26 : 0 < x18) (f27 : x19 = 0) (f28 : 1 * x14 + ((-1) * x3 + 0) ≤ 0) (f29 : (-1) * x14 + (1 * x3 + 0) ≤ 0) (f30 : 1 * x15 + ((-1) * x11 + 0) ≤ 0) (f31 : (-1) * x15 + (1 * x11 + 0) ≤ 0) (f32 : 1 * x16 + ((-1) * x1 + 0) ≤ 0) (f33 : (-1) * x16 + (1 * x1 + 0) ≤ 0) (f34 : 1 * x17 + ((-1) * x2 + 0) ≤ 0) (f35 : (-1) * x17 + (1 * x2 + 0) ≤ 0) (f36 : 1 * x8 + ((-1) * x3 + 0) ≤ 0) (f37 : (-1) * x8 + (1 * x3 + 0) ≤ 0) (f38 : 1 * x10 + ((-1) * x2 + 0) ≤ 0) (f39 : (-1) * x10 + (1 * x2 + 0) ≤ 0) (f40 : 1 * x3 + ((-1) * x6 + 0) ≤ 0) (f41 : (x1 + 1) ≤ all_1 ((r_1 + 2))) (f42 : RWS (r_1) (all_1) (now_1) (latest_1)) (f43 : 1 * from_1 + ((-1) * pos_1 + 0) ≤ 0) (f44 : ((kind_1 = 1) → (pos_1 ≤ (from_1 + 8))) ∧ ((kind_1 = 0) ∨ ((from_1 + 1) ≤ pos_1))) (f45 : 1 * x14 + ((-1) * pos_1 + 0) ≤ 0) (f46 : (1 ≤ fault_1) ∨ ((kind_1 = 0) ∨ ((x14 + 1) ≤ pos_1))) (f47 : (1 ≤ fault_1) ∨ (0 ≤ x15)) (f48 : 1 * x18 + ((-1) * x13 + 0) ≤ 0) (f49 : (-1) * x18 + 0 ≤ 0) (f50 : zOFs (limit_1) (pos_1) (kind_1) (place_1) (value_1) (from_1) (fault_1) (faultPlace_1) (r_1) (tape_1) (all_1) (x15) (x18) (x16) (x17)) (f52 : 1 * x14 + ((-1) * x3 + 0) ≤ 0) (f53 : (-1) * x14 + (1 * x3 + 0) ≤ 0) (f54 : 1 * x15 + ((-1) * x11 + 0) ≤ 0) (f55 : (-1) * x15 + (1 * x11 + 0) ≤ 0) (f56 : 1 * x16 + ((-1) * x1 + 0) ≤ 0) (f57 : (-1) * x16 + (1 * x1 + 0) ≤ 0) (f58 : 1 * x17 + ((-1) * x2 + 0) ≤ 0) (f59 : (-1) * x17 + (1 * x2 + 0) ≤ 0) (f60 : 1 * x8 + ((-1) * x3 + 0) ≤ 0) (f61 : (-1) * x8 + (1 * x3 + 0) ≤ 0) (f62 : 1 * x10 + ((-1) * x2 + 0) ≤ 0) (f63 : (-1) * x10 + (1 * x2 + 0) ≤ 0) (f65 : 1 * x8 + ((-1) * x3 + 0) ≤ 0) (f66 : (-1) * x8 + (1 * x3 + 0) ≤ 0) (f67 : 1 * x10 + ((-1) * x2 + 0) ≤ 0) (f68 : (-1) * x10 + (1 * x2 + 0) ≤ 0) (fe_0_5_1 : r_0 = r_1) (fe_0_8_1 : fault_0 = fault_1) (fe_0_9_1 : faultPlace_0 = faultPlace_1) (fe_0_10_1 : limit_0 = limit_1) (fe_0_11_1 : pos_0 = pos_1) (fe_0_12_1 : kind_0 = kind_1) (fe_0_13_1 : place_0 = place_1) (fe_0_14_1 : value_0 = value_1) (fe_0_15_1 : from_0 = from_1) (hE_0_1_1 : ∀ j : Int, tape_0 j = tape_1 j) (hK_0_1 : ∀ j : Int, 0 ≤ j → j < 2000 → (-128) ≤ tape_0 j ∧ tape_0 j ≤ 127) (hE_0_2_1 : ∀ j : Int, 0 ≤ j → (j = x24 → all_0 j = x18) ∧ (j ≠ x24 → all_0 j = all_1 j)) (hE_0_3_1 : ∀ j : Int, now_0 j = now_1 j) (hK_0_3 : ∀ j : Int, 0 ≤ j → j < 4 → 0 ≤ now_0 j ∧ now_0 j ≤ 30) (hE_0_4_1 : ∀ j : Int, latest_0 j = latest_1 j) (hK_0_4 : ∀ j : Int, 0 ≤ j → j < 4 → 0 ≤ latest_0 j ∧ latest_0 j ≤ 30) (kz_0_8 : 0 ≤ fault_0 ∧ fault_0 ≤ 5) (kz_0_9 : 0 ≤ faultPlace_0 ∧ faultPlace_0 ≤ 2000) (kz_0_10 : 0 ≤ limit_0 ∧ limit_0 ≤ 2000) (kz_0_11 : 0 ≤ pos_0 ∧ pos_0 ≤ 2000) (kz_0_12 : 0 ≤ kind_0 ∧ kind_0 ≤ 4) (kz_0_13 : 0 ≤ place_0 ∧ place_0 ≤ 2000) (kz_0_14 : (-49) ≤ value_0 ∧ value_0 ≤ 1048575) (kz_0_15 : 0 ≤ from_0 ∧ from_0 ≤ 2000) (ex2 : gx = x3) (ex3 : 0 ≤ gx ∧ gx ≤ 2000) (ey2 : gy = x1) (ey3 : 0 ≤ gy ∧ gy ≤ 7) (eu2 : gu = x2) (eu3 : 0 ≤ gu ∧ gu ≤ 4) : zONs (limit_0) (pos_0) (kind_0) (place_0) (value_0) (from_0) (fault_0) (faultPlace_0) (r_0) (tape_0) (all_0) (gy) (gu) := by
  subst fe_0_5_1
  subst fe_0_8_1
  subst fe_0_9_1
  subst fe_0_10_1
  subst fe_0_11_1
  subst fe_0_12_1
  subst fe_0_13_1
  subst fe_0_14_1
  subst fe_0_15_1
  have e_hE_0_1_1 := funext hE_0_1_1; subst e_hE_0_1_1
  have e_hE_0_3_1 := funext hE_0_3_1; subst e_hE_0_3_1
  have e_hE_0_4_1 := funext hE_0_4_1; subst e_hE_0_4_1
  first | (have el_x14 : x14 = x3 := by omega); subst el_x14 | skip
  first | (have el_x15 : x15 = x11 := by omega); subst el_x15 | skip
  first | (have el_x16 : x16 = x1 := by omega); subst el_x16 | skip
  first | (have el_x17 : x17 = x2 := by omega); subst el_x17 | skip
  first | (have el_x8 : x8 = x3 := by omega); subst el_x8 | skip
  first | (have el_x10 : x10 = x2 := by omega); subst el_x10 | skip
  first | subst g0 | skip
  first | subst g2 | skip
  first | subst ex2 | skip
  first | subst ey2 | skip
  first | subst eu2 | skip
  first
    | exact it_nosize ‹zOFs _ _ _ _ _ _ _ _ _ _ _ _ _ _ _› (Or.inl (by omega))
    | exact it_nosize ‹zOFs _ _ _ _ _ _ _ _ _ _ _ _ _ _ _› (Or.inr (by omega))
    | exact it_size ‹zOFs _ _ _ _ _ _ _ _ _ _ _ _ _ _ _› (by omega) (by omega) (by omega) (by omega) (by assumption) (by omega) (by omega)
def o_Mo_item_at_k4_13 : or_T := (64, 26, [(0, (2, 0, 0, [165])), (1, (0, 0, 7, [])), (2, (0, 4, 4, [])), (3, (0, 0, 2000, [])), (6, (0, 0, 2000, [])), (8, (0, 0, 2000, [])), (10, (0, 0, 4, [])), (11, (0, 0, 23, [])), (13, (0, 99, 99, [])), (14, (0, 0, 2000, [])), (15, (0, -1, 48, [])), (16, (0, 0, 7, [])), (17, (0, 0, 4, [])), (18, (0, 1, 99, [])), (19, (0, 0, 0, [])), (20, (2, 0, 0, [167])), (21, (0, 0, 66297, [])), (22, (0, 219, 219, [])), (23, (0, 219, 66516, [])), (24, (0, 219, 66539, []))], [(9, [21, 0], [5]), (9, [20, 0], [2]), (9, [19, 0], [8]), (23, [14, 3], [0, 1, -1]), (23, [14, 3], [0, -1, 1]), (23, [15, 11], [0, 1, -1]), (23, [15, 11], [0, -1, 1]), (23, [16, 1], [0, 1, -1]), (23, [16, 1], [0, -1, 1]), (23, [17, 2], [0, 1, -1]), (23, [17, 2], [0, -1, 1]), (23, [8, 3], [0, 1, -1]), (23, [8, 3], [0, -1, 1]), (23, [10, 2], [0, 1, -1]), (23, [10, 2], [0, -1, 1]), (20, [3, 6], [30, 0, 1, 0, 0, -1, 0, 0]), (20, [0, 0], [30, 0, 1, 1, 15, -1, 1, 11]), (20, [0], [50, 3, 0, 12, 11, 15, 2, 21, 4, 7, 1, 3, 2, 0, 12, 0, 1, 0, 3, 2, 0, 11, 4, 3, 2, 0, 15, 0, 8, 3, 7, 1, 3, 2, 0, 12, 0, 0, 0, 7, 4, 3, 2, 0, 15, 0, 1, 2, 0, 11]), (20, [14, 0], [30, 0, 1, 0, 0, -1, 1, 11]), (20, [0, 14], [50, 3, 0, 8, 12, 11, 3, 7, 0, 2, 0, 1, 2, 0, 8, 3, 7, 1, 3, 2, 0, 12, 0, 0, 0, 6, 4, 2, 1, 1, 0, 1, 2, 0, 11]), (20, [0, 15], [50, 1, 0, 8, 3, 7, 0, 2, 0, 1, 2, 0, 8, 0, 2, 0, 0, 1, 1]), (20, [18, 13], [30, 0, 1, 0, 0, -1, 0, 0]), (20, [18], [30, 0, -1, 0, 0]), (100, [20, 24, 18], []), (1, [24, 23, 11], []), (1, [23, 21, 22], []), (8, [18], [4]), (8, [19], [0]), (23, [14, 3], [0, 1, -1]), (23, [14, 3], [0, -1, 1]), (23, [15, 11], [0, 1, -1]), (23, [15, 11], [0, -1, 1]), (23, [16, 1], [0, 1, -1]), (23, [16, 1], [0, -1, 1]), (23, [17, 2], [0, 1, -1]), (23, [17, 2], [0, -1, 1]), (23, [8, 3], [0, 1, -1]), (23, [8, 3], [0, -1, 1]), (23, [10, 2], [0, 1, -1]), (23, [10, 2], [0, -1, 1]), (20, [3, 6], [30, 0, 1, 0, 0, -1, 0, 0]), (20, [1, 0], [50, 1, 1, 1005, 1002, 0, 6, 4, 2, 1, 0, 0, 1, 3, 1, 2, 4, 3, 2, 1, 5, 0, 2]), (20, [0], [60, 1, 3, 199, 5, 2, 3, 4]), (20, [0, 0], [30, 0, 1, 1, 15, -1, 1, 11]), (20, [0], [50, 3, 0, 12, 11, 15, 2, 21, 4, 7, 1, 3, 2, 0, 12, 0, 1, 0, 3, 2, 0, 11, 4, 3, 2, 0, 15, 0, 8, 3, 7, 1, 3, 2, 0, 12, 0, 0, 0, 7, 4, 3, 2, 0, 15, 0, 1, 2, 0, 11]), (20, [14, 0], [30, 0, 1, 0, 0, -1, 1, 11]), (20, [0, 14], [50, 3, 0, 8, 12, 11, 3, 7, 0, 2, 0, 1, 2, 0, 8, 3, 7, 1, 3, 2, 0, 12, 0, 0, 0, 6, 4, 2, 1, 1, 0, 1, 2, 0, 11]), (20, [0, 15], [50, 1, 0, 8, 3, 7, 0, 2, 0, 1, 2, 0, 8, 0, 2, 0, 0, 1, 1]), (20, [18, 13], [30, 0, 1, 0, 0, -1, 0, 0]), (20, [18], [30, 0, -1, 0, 0]), (20, [0, 15, 18, 16, 17], [60, 9, 2, 1013, 10, 11, 12, 13, 14, 15, 8, 9, 5, 1, 2]), (102, [17], [0, 165008, 165009, 165011, 165012, 165013, 165014, 165015]), (23, [14, 3], [0, 1, -1]), (23, [14, 3], [0, -1, 1]), (23, [15, 11], [0, 1, -1]), (23, [15, 11], [0, -1, 1]), (23, [16, 1], [0, 1, -1]), (23, [16, 1], [0, -1, 1]), (23, [17, 2], [0, 1, -1]), (23, [17, 2], [0, -1, 1]), (23, [8, 3], [0, 1, -1]), (23, [8, 3], [0, -1, 1]), (23, [10, 2], [0, 1, -1]), (23, [10, 2], [0, -1, 1]), (102, [10], [187072209578355573530071658587684226515959365500928, 165008, 165009, 165011, 165012, 165013, 165014, 165015]), (23, [8, 3], [0, 1, -1]), (23, [8, 3], [0, -1, 1]), (23, [10, 2], [0, 1, -1]), (23, [10, 2], [0, -1, 1])], [], [(0, 0, 2000, []), (0, 0, 7, []), (0, 0, 4, [])], [(20, [1, 0], [50, 1, 1, 1005, 1002, 0, 6, 4, 2, 1, 0, 0, 1, 3, 1, 2, 4, 3, 2, 1, 5, 0, 2]), (20, [0], [60, 1, 3, 199, 5, 2, 3, 4]), (23, [26, 3], [0, 1, -1]), (23, [26, 3], [0, -1, 1]), (23, [27, 1], [0, 1, -1]), (23, [27, 1], [0, -1, 1]), (23, [28, 2], [0, 1, -1]), (23, [28, 2], [0, -1, 1]), (20, [0, 0], [30, 0, 1, 1, 15, -1, 1, 11]), (20, [0], [50, 3, 0, 12, 11, 15, 2, 21, 4, 7, 1, 3, 2, 0, 12, 0, 1, 0, 3, 2, 0, 11, 4, 3, 2, 0, 15, 0, 8, 3, 7, 1, 3, 2, 0, 12, 0, 0, 0, 7, 4, 3, 2, 0, 15, 0, 1, 2, 0, 11]), (20, [26, 0], [30, 0, 1, 0, 0, -1, 1, 11]), (20, [0, 26], [50, 3, 0, 8, 12, 11, 3, 7, 0, 2, 0, 1, 2, 0, 8, 3, 7, 1, 3, 2, 0, 12, 0, 0, 0, 6, 4, 2, 1, 1, 0, 1, 2, 0, 11]), (20, [0, 27, 28], [60, 9, 2, 1018, 10, 11, 12, 13, 14, 15, 8, 9, 5, 1, 2])], [], [(24, 11, 219, 66516), (24, 23, 0, 23), (24, 21, 219, 242), (23, 21, 219, 219)])
theorem oo_Mo_item_at_k4_13 {kA : Nat → ClassId} : or_ok PRD kA GG o_Mo_item_at_k4_13 := by
  refine or_mk fun A ta ws vs hD hth hl => ?_
  intro t0 r0 t1 k1 t2 k2 t3 k3 t6 k6 t8 k8 t10 k10 t11 k11 t13 k13 t14 k14 t15 k15 t16 k16 t17 k17 t18 k18 t19 k19 t20 r20 t21 k21 t22 k22 t23 k23 t24 k24 d0 d1 d2 d3 f0 f1 f2 f3 f4 f5 f6 f7 f8 f9 f10 f11 f12 f13 f14 f15 f16 f17 f18 f19 f20 f21 f22 ta1 w1 le1 s1 f24 f25 f26 f27 f28 f29 f30 f31 f32 f33 f34 f35 f36 f37 f38 f39 f40 f41 f42 f43 f44 f45 f46 f47 f48 f49 f50 ta2 w2 le2 s2 f52 f53 f54 f55 f56 f57 f58 f59 f60 f61 f62 f63 ta3 w3 le3 s3 f65 f66 f67 f68
  replace f0 := shm_110 f0
  replace f1 := shm_120 f1
  replace f2 := shm_293 f2
  replace f3 := shm_7 f3
  replace f4 := shm_22 f4
  replace f5 := shm_7 f5
  replace f6 := shm_22 f6
  replace f7 := shm_7 f7
  replace f8 := shm_22 f8
  replace f9 := shm_7 f9
  replace f10 := shm_22 f10
  replace f11 := shm_7 f11
  replace f12 := shm_22 f12
  replace f13 := shm_7 f13
  replace f14 := shm_22 f14
  replace f15 := shm_201 f15
  replace f16 := shm_1437 f16
  replace f17 := shm_1438 f17
  replace f18 := shm_1431 f18
  replace f19 := shm_1722 f19
  replace f20 := shm_2000 f20
  replace f21 := shm_201 f21
  replace f22 := shm_2002 f22
  have s1 : (∀ b j, w_el ws b j = if b = v_ad (n_v vs 20) ∧ j = (v_iv (n_v vs 24)).toNat then v_iv (n_v vs 18) else w_el w1 b j) ∧ ∀ b k, w_fd ws b k = w_fd w1 b k := s1.2
  replace f24 := shm_12 f24
  replace f25 := shm_12 f25
  replace f26 := shm_308 f26
  replace f27 := shm_192 f27
  replace f28 := shm_7 f28
  replace f29 := shm_22 f29
  replace f30 := shm_7 f30
  replace f31 := shm_22 f31
  replace f32 := shm_7 f32
  replace f33 := shm_22 f33
  replace f34 := shm_7 f34
  replace f35 := shm_22 f35
  replace f36 := shm_7 f36
  replace f37 := shm_22 f37
  replace f38 := shm_7 f38
  replace f39 := shm_22 f39
  replace f40 := shm_201 f40
  replace f41 := shm_1009 f41
  replace f42 := shm_980 f42
  replace f43 := shm_1437 f43
  replace f44 := shm_1438 f44
  replace f45 := shm_1431 f45
  replace f46 := shm_1722 f46
  replace f47 := shm_2000 f47
  replace f48 := shm_201 f48
  replace f49 := shm_2002 f49
  replace f50 := shm_2003 f50
  replace f52 := shm_7 f52
  replace f53 := shm_22 f53
  replace f54 := shm_7 f54
  replace f55 := shm_22 f55
  replace f56 := shm_7 f56
  replace f57 := shm_22 f57
  replace f58 := shm_7 f58
  replace f59 := shm_22 f59
  replace f60 := shm_7 f60
  replace f61 := shm_22 f61
  replace f62 := shm_7 f62
  replace f63 := shm_22 f63
  replace f65 := shm_7 f65
  replace f66 := shm_22 f66
  replace f67 := shm_7 f67
  replace f68 := shm_22 f68
  have ar_0_1_1 : w_ar w1 (n_v vs 0) 1 = w_ar ws (n_v vs 0) 1 := congrArg v_ad (s1.2 _ _).symm
  have cr_0_1 := fdq_39 hD hth r0
  have ar_0_2_1 : w_ar w1 (n_v vs 0) 2 = w_ar ws (n_v vs 0) 2 := congrArg v_ad (s1.2 _ _).symm
  have cr_0_2 := fdq_10 hD hth r0
  have ar_0_3_1 : w_ar w1 (n_v vs 0) 3 = w_ar ws (n_v vs 0) 3 := congrArg v_ad (s1.2 _ _).symm
  have cr_0_3 := fdq_142 hD hth r0
  have ar_0_4_1 : w_ar w1 (n_v vs 0) 4 = w_ar ws (n_v vs 0) 4 := congrArg v_ad (s1.2 _ _).symm
  have cr_0_4 := fdq_143 hD hth r0
  have ad_20 : v_ad (n_v vs 20) = w_ar ws (n_v vs 0) 2 := congrArg v_ad f1
  have g0 : v_iv (n_v vs 21) = w_fi ws (n_v vs 0) 5 := congrArg v_iv f0
  have g2 : v_iv (n_v vs 19) = w_fi ws (n_v vs 0) 8 := congrArg v_iv f2
  simp only [ar_0_2_1, ar_0_3_1, ar_0_4_1, ar_0_1_1] at f41 f42 f50
  have fe_0_5_1 : w_fi ws (n_v vs 0) 5 = w_fi w1 (n_v vs 0) 5 := congrArg v_iv (s1.2 _ _)
  have fe_0_8_1 : w_fi ws (n_v vs 0) 8 = w_fi w1 (n_v vs 0) 8 := congrArg v_iv (s1.2 _ _)
  have fe_0_9_1 : w_fi ws (n_v vs 0) 9 = w_fi w1 (n_v vs 0) 9 := congrArg v_iv (s1.2 _ _)
  have fe_0_10_1 : w_fi ws (n_v vs 0) 10 = w_fi w1 (n_v vs 0) 10 := congrArg v_iv (s1.2 _ _)
  have fe_0_11_1 : w_fi ws (n_v vs 0) 11 = w_fi w1 (n_v vs 0) 11 := congrArg v_iv (s1.2 _ _)
  have fe_0_12_1 : w_fi ws (n_v vs 0) 12 = w_fi w1 (n_v vs 0) 12 := congrArg v_iv (s1.2 _ _)
  have fe_0_13_1 : w_fi ws (n_v vs 0) 13 = w_fi w1 (n_v vs 0) 13 := congrArg v_iv (s1.2 _ _)
  have fe_0_14_1 : w_fi ws (n_v vs 0) 14 = w_fi w1 (n_v vs 0) 14 := congrArg v_iv (s1.2 _ _)
  have fe_0_15_1 : w_fi ws (n_v vs 0) 15 = w_fi w1 (n_v vs 0) 15 := congrArg v_iv (s1.2 _ _)
  have hE_0_1_1 : ∀ j : Int, w_ei ws (w_ar ws (n_v vs 0) 1) j = w_ei w1 (w_ar ws (n_v vs 0) 1) j := el_kp s1.1 r20 cr_0_1 (by decide)
  have hK_0_1 := elq_7 hD hth cr_0_1
  have hE_0_2_1 : ∀ j : Int, 0 ≤ j → (j = v_iv (n_v vs 24) → w_ei ws (w_ar ws (n_v vs 0) 2) j = v_iv (n_v vs 18)) ∧ (j ≠ v_iv (n_v vs 24) → w_ei ws (w_ar ws (n_v vs 0) 2) j = w_ei w1 (w_ar ws (n_v vs 0) 2) j) := fun j hj => ⟨fun h => by unfold w_ei; rw [s1.1, if_pos ⟨ad_20.symm, by rw [h]⟩], fun h => by unfold w_ei; rw [s1.1, if_neg (fun e => h (by have := e.2; omega))]⟩
  have hE_0_3_1 : ∀ j : Int, w_ei ws (w_ar ws (n_v vs 0) 3) j = w_ei w1 (w_ar ws (n_v vs 0) 3) j := el_kp s1.1 r20 cr_0_3 (by decide)
  have hK_0_3 := elq_80 hD hth cr_0_3
  have hE_0_4_1 : ∀ j : Int, w_ei ws (w_ar ws (n_v vs 0) 4) j = w_ei w1 (w_ar ws (n_v vs 0) 4) j := el_kp s1.1 r20 cr_0_4 (by decide)
  have hK_0_4 := elq_81 hD hth cr_0_4
  have kz_0_8 := fdq_34 hD hth r0
  have kz_0_9 := fdq_44 hD hth r0
  have kz_0_10 := fdq_43 hD hth r0
  have kz_0_11 := fdq_237 hD hth r0
  have kz_0_12 := fdq_187 hD hth r0
  have kz_0_13 := fdq_238 hD hth r0
  have kz_0_14 := fdq_188 hD hth r0
  have kz_0_15 := fdq_239 hD hth r0
  first | have hJ0 : w_ei w1 (w_ar ws (n_v vs 0) 2) ((w_fi w1 (n_v vs 0) 5 + 2)) = w_ei w1 (w_ar ws (n_v vs 0) 2) ((w_fi ws (n_v vs 0) 5 + 2)) := congrArg _ (show ((w_fi w1 (n_v vs 0) 5 + 2) : Int) = (w_fi ws (n_v vs 0) 5 + 2) from by omega) | skip
  first | have hI1 := (hE_0_2_1 ((w_fi ws (n_v vs 0) 5 + 2)) (by omega)).2 (by omega) | have hI1 := (hE_0_2_1 ((w_fi ws (n_v vs 0) 5 + 2)) (by omega)).1 (by omega) | skip
  obtain ⟨x, ex, hx⟩ := iv_ex (ta := ta) (lo := 0) (hi := 2000) (z := v_iv (n_v vs 3)) (by omega) (by omega) (by omega) (by omega)
  have ex2 : v_iv (Value.int x) = v_iv (n_v vs 3) := ex
  have ex3 : 0 ≤ v_iv (Value.int x) ∧ v_iv (Value.int x) ≤ 2000 := tv_rng hx
  obtain ⟨y, ey, hy⟩ := iv_ex (ta := ta) (lo := 0) (hi := 7) (z := v_iv (n_v vs 1)) (by omega) (by omega) (by omega) (by omega)
  have ey2 : v_iv (Value.int y) = v_iv (n_v vs 1) := ey
  have ey3 : 0 ≤ v_iv (Value.int y) ∧ v_iv (Value.int y) ≤ 7 := tv_rng hy
  obtain ⟨u, eu, hu⟩ := iv_ex (ta := ta) (lo := 0) (hi := 4) (z := v_iv (n_v vs 2)) (by omega) (by omega) (by omega) (by omega)
  have eu2 : v_iv (Value.int u) = v_iv (n_v vs 2) := eu
  have eu3 : 0 ≤ v_iv (Value.int u) ∧ v_iv (Value.int u) ≤ 4 := tv_rng hu
  have e_0 : n_v (vs ++ [Value.int x, Value.int y, Value.int u]) 0 = n_v vs 0 := n_v_old (by rw [hl]; decide)
  have e_1 : n_v (vs ++ [Value.int x, Value.int y, Value.int u]) 1 = n_v vs 1 := n_v_old (by rw [hl]; decide)
  have e_2 : n_v (vs ++ [Value.int x, Value.int y, Value.int u]) 2 = n_v vs 2 := n_v_old (by rw [hl]; decide)
  have e_3 : n_v (vs ++ [Value.int x, Value.int y, Value.int u]) 3 = n_v vs 3 := n_v_old (by rw [hl]; decide)
  have e_26 : n_v (vs ++ [Value.int x, Value.int y, Value.int u]) 26 = Value.int x := n_v_newk (k := 0) hl rfl
  have e_27 : n_v (vs ++ [Value.int x, Value.int y, Value.int u]) 27 = Value.int y := n_v_newk (k := 1) hl rfl
  have e_28 : n_v (vs ++ [Value.int x, Value.int y, Value.int u]) 28 = Value.int u := n_v_newk (k := 2) hl rfl
  have nf0 : fc_1 PRD (20, [1, 0], [50, 1, 1, 1005, 1002, 0, 6, 4, 2, 1, 0, 0, 1, 3, 1, 2, 4, 3, 2, 1, 5, 0, 2]) ws (vs ++ [Value.int x, Value.int y, Value.int u]) := by
    refine ⟨nf_inA hl rfl, sgq_1009 ?_⟩
    · show (v_iv (n_v (vs ++ [Value.int x, Value.int y, Value.int u]) 1) + 1) ≤ w_ei ws (w_ar ws (n_v (vs ++ [Value.int x, Value.int y, Value.int u]) 0) 2) ((w_fi ws (n_v (vs ++ [Value.int x, Value.int y, Value.int u]) 0) 5 + 2))
      simp only [e_0, e_1]
      exact vc_Mo_item_at_k4_13_0 (v_iv (n_v vs 1)) (v_iv (n_v vs 11)) (v_iv (n_v vs 15)) (v_iv (n_v vs 16)) (v_iv (n_v vs 18)) (v_iv (n_v vs 21)) (v_iv (n_v vs 23)) (v_iv (n_v vs 24)) (w_fi ws (n_v vs 0) 5) (w_fi ws (n_v vs 0) 8) (w_fi ws (n_v vs 0) 15) (w_fi ws (n_v vs 0) 11) (w_fi ws (n_v vs 0) 12) (w_ei w1 (w_ar ws (n_v vs 0) 2)) (w_fi w1 (n_v vs 0) 5) (w_ei w1 (w_ar ws (n_v vs 0) 3)) (w_ei w1 (w_ar ws (n_v vs 0) 4)) (w_fi w1 (n_v vs 0) 15) (w_fi w1 (n_v vs 0) 11) (w_fi w1 (n_v vs 0) 12) (w_fi w1 (n_v vs 0) 8) (w_ei w1 (w_ar ws (n_v vs 0) 1)) (w_fi w1 (n_v vs 0) 10) (w_fi w1 (n_v vs 0) 13) (w_fi w1 (n_v vs 0) 14) (w_fi w1 (n_v vs 0) 9) (w_fi ws (n_v vs 0) 9) (w_fi ws (n_v vs 0) 10) (w_fi ws (n_v vs 0) 13) (w_fi ws (n_v vs 0) 14) (w_ei ws (w_ar ws (n_v vs 0) 1)) (w_ei ws (w_ar ws (n_v vs 0) 2)) (w_ei ws (w_ar ws (n_v vs 0) 3)) (w_ei ws (w_ar ws (n_v vs 0) 4)) (v_iv (Value.int y)) k1 k11 k15 k16 k18 k21 k23 k24 d0 d1 d3 g0 f5 f6 f7 f8 f24 f41 fe_0_5_1 fe_0_8_1 fe_0_9_1 fe_0_10_1 fe_0_11_1 fe_0_12_1 fe_0_13_1 fe_0_14_1 fe_0_15_1 hE_0_1_1 hE_0_2_1 hE_0_3_1 hE_0_4_1 kz_0_8 kz_0_9 kz_0_10 kz_0_11 kz_0_12 kz_0_13 kz_0_14 kz_0_15 ey2
  have nf1 : fc_1 PRD (20, [0], [60, 1, 3, 199, 5, 2, 3, 4]) ws (vs ++ [Value.int x, Value.int y, Value.int u]) := by
    refine ⟨nf_inA hl rfl, sgq_980 ?_⟩
    · show RWS (w_fi ws (n_v (vs ++ [Value.int x, Value.int y, Value.int u]) 0) 5) (w_ei ws (w_ar ws (n_v (vs ++ [Value.int x, Value.int y, Value.int u]) 0) 2)) (w_ei ws (w_ar ws (n_v (vs ++ [Value.int x, Value.int y, Value.int u]) 0) 3)) (w_ei ws (w_ar ws (n_v (vs ++ [Value.int x, Value.int y, Value.int u]) 0) 4))
      rw [e_0]
      exact vc_Mo_item_at_k4_13_1 (v_iv (n_v vs 18)) (v_iv (n_v vs 21)) (v_iv (n_v vs 23)) (v_iv (n_v vs 24)) (w_fi ws (n_v vs 0) 5) (w_fi ws (n_v vs 0) 8) (w_fi ws (n_v vs 0) 15) (w_fi ws (n_v vs 0) 11) (w_fi ws (n_v vs 0) 12) (w_ei w1 (w_ar ws (n_v vs 0) 2)) (w_fi w1 (n_v vs 0) 5) (w_ei w1 (w_ar ws (n_v vs 0) 3)) (w_ei w1 (w_ar ws (n_v vs 0) 4)) (w_fi w1 (n_v vs 0) 15) (w_fi w1 (n_v vs 0) 11) (w_fi w1 (n_v vs 0) 12) (w_fi w1 (n_v vs 0) 8) (w_ei w1 (w_ar ws (n_v vs 0) 1)) (w_fi w1 (n_v vs 0) 10) (w_fi w1 (n_v vs 0) 13) (w_fi w1 (n_v vs 0) 14) (w_fi w1 (n_v vs 0) 9) (w_fi ws (n_v vs 0) 9) (w_fi ws (n_v vs 0) 10) (w_fi ws (n_v vs 0) 13) (w_fi ws (n_v vs 0) 14) (w_ei ws (w_ar ws (n_v vs 0) 1)) (w_ei ws (w_ar ws (n_v vs 0) 2)) (w_ei ws (w_ar ws (n_v vs 0) 3)) (w_ei ws (w_ar ws (n_v vs 0) 4)) k18 k21 k23 k24 d1 d3 g0 f42 fe_0_5_1 fe_0_8_1 fe_0_9_1 fe_0_10_1 fe_0_11_1 fe_0_12_1 fe_0_13_1 fe_0_14_1 fe_0_15_1 hE_0_1_1 hE_0_2_1 hE_0_3_1 hE_0_4_1 kz_0_8 kz_0_9 kz_0_10 kz_0_11 kz_0_12 kz_0_13 kz_0_14 kz_0_15
  have nf2 : fc_1 PRD (23, [26, 3], [0, 1, -1]) ws (vs ++ [Value.int x, Value.int y, Value.int u]) := by
    refine ⟨nf_inA hl rfl, sgq_7 ?_⟩
    · show 1 * v_iv (n_v (vs ++ [Value.int x, Value.int y, Value.int u]) 26) + ((-1) * v_iv (n_v (vs ++ [Value.int x, Value.int y, Value.int u]) 3) + 0) ≤ 0
      simp only [e_3, e_26]
      exact vc_Mo_item_at_k4_13_2 (v_iv (n_v vs 3)) (v_iv (n_v vs 14)) (v_iv (n_v vs 18)) (v_iv (n_v vs 24)) (w_fi ws (n_v vs 0) 5) (w_fi ws (n_v vs 0) 8) (w_fi ws (n_v vs 0) 15) (w_fi ws (n_v vs 0) 11) (w_fi ws (n_v vs 0) 12) (w_ei w1 (w_ar ws (n_v vs 0) 2)) (w_fi w1 (n_v vs 0) 5) (w_ei w1 (w_ar ws (n_v vs 0) 3)) (w_ei w1 (w_ar ws (n_v vs 0) 4)) (w_fi w1 (n_v vs 0) 15) (w_fi w1 (n_v vs 0) 11) (w_fi w1 (n_v vs 0) 12) (w_fi w1 (n_v vs 0) 8) (w_ei w1 (w_ar ws (n_v vs 0) 1)) (w_fi w1 (n_v vs 0) 10) (w_fi w1 (n_v vs 0) 13) (w_fi w1 (n_v vs 0) 14) (w_fi w1 (n_v vs 0) 9) (w_fi ws (n_v vs 0) 9) (w_fi ws (n_v vs 0) 10) (w_fi ws (n_v vs 0) 13) (w_fi ws (n_v vs 0) 14) (w_ei ws (w_ar ws (n_v vs 0) 1)) (w_ei ws (w_ar ws (n_v vs 0) 2)) (w_ei ws (w_ar ws (n_v vs 0) 3)) (w_ei ws (w_ar ws (n_v vs 0) 4)) (v_iv (Value.int x)) k3 k14 k18 k24 f3 f4 fe_0_5_1 fe_0_8_1 fe_0_9_1 fe_0_10_1 fe_0_11_1 fe_0_12_1 fe_0_13_1 fe_0_14_1 fe_0_15_1 hE_0_1_1 hE_0_2_1 hE_0_3_1 hE_0_4_1 kz_0_8 kz_0_9 kz_0_10 kz_0_11 kz_0_12 kz_0_13 kz_0_14 kz_0_15 ex2
  have nf3 : fc_1 PRD (23, [26, 3], [0, -1, 1]) ws (vs ++ [Value.int x, Value.int y, Value.int u]) := by
    refine ⟨nf_inA hl rfl, sgq_22 ?_⟩
    · show (-1) * v_iv (n_v (vs ++ [Value.int x, Value.int y, Value.int u]) 26) + (1 * v_iv (n_v (vs ++ [Value.int x, Value.int y, Value.int u]) 3) + 0) ≤ 0
      simp only [e_3, e_26]
      exact vc_Mo_item_at_k4_13_3 (v_iv (n_v vs 3)) (v_iv (n_v vs 14)) (v_iv (n_v vs 18)) (v_iv (n_v vs 24)) (w_fi ws (n_v vs 0) 5) (w_fi ws (n_v vs 0) 8) (w_fi ws (n_v vs 0) 15) (w_fi ws (n_v vs 0) 11) (w_fi ws (n_v vs 0) 12) (w_ei w1 (w_ar ws (n_v vs 0) 2)) (w_fi w1 (n_v vs 0) 5) (w_ei w1 (w_ar ws (n_v vs 0) 3)) (w_ei w1 (w_ar ws (n_v vs 0) 4)) (w_fi w1 (n_v vs 0) 15) (w_fi w1 (n_v vs 0) 11) (w_fi w1 (n_v vs 0) 12) (w_fi w1 (n_v vs 0) 8) (w_ei w1 (w_ar ws (n_v vs 0) 1)) (w_fi w1 (n_v vs 0) 10) (w_fi w1 (n_v vs 0) 13) (w_fi w1 (n_v vs 0) 14) (w_fi w1 (n_v vs 0) 9) (w_fi ws (n_v vs 0) 9) (w_fi ws (n_v vs 0) 10) (w_fi ws (n_v vs 0) 13) (w_fi ws (n_v vs 0) 14) (w_ei ws (w_ar ws (n_v vs 0) 1)) (w_ei ws (w_ar ws (n_v vs 0) 2)) (w_ei ws (w_ar ws (n_v vs 0) 3)) (w_ei ws (w_ar ws (n_v vs 0) 4)) (v_iv (Value.int x)) k3 k14 k18 k24 f3 f4 fe_0_5_1 fe_0_8_1 fe_0_9_1 fe_0_10_1 fe_0_11_1 fe_0_12_1 fe_0_13_1 fe_0_14_1 fe_0_15_1 hE_0_1_1 hE_0_2_1 hE_0_3_1 hE_0_4_1 kz_0_8 kz_0_9 kz_0_10 kz_0_11 kz_0_12 kz_0_13 kz_0_14 kz_0_15 ex2
  have nf4 : fc_1 PRD (23, [27, 1], [0, 1, -1]) ws (vs ++ [Value.int x, Value.int y, Value.int u]) := by
    refine ⟨nf_inA hl rfl, sgq_7 ?_⟩
    · show 1 * v_iv (n_v (vs ++ [Value.int x, Value.int y, Value.int u]) 27) + ((-1) * v_iv (n_v (vs ++ [Value.int x, Value.int y, Value.int u]) 1) + 0) ≤ 0
      simp only [e_1, e_27]
      exact vc_Mo_item_at_k4_13_4 (v_iv (n_v vs 1)) (v_iv (n_v vs 16)) (v_iv (n_v vs 18)) (v_iv (n_v vs 24)) (w_fi ws (n_v vs 0) 5) (w_fi ws (n_v vs 0) 8) (w_fi ws (n_v vs 0) 15) (w_fi ws (n_v vs 0) 11) (w_fi ws (n_v vs 0) 12) (w_ei w1 (w_ar ws (n_v vs 0) 2)) (w_fi w1 (n_v vs 0) 5) (w_ei w1 (w_ar ws (n_v vs 0) 3)) (w_ei w1 (w_ar ws (n_v vs 0) 4)) (w_fi w1 (n_v vs 0) 15) (w_fi w1 (n_v vs 0) 11) (w_fi w1 (n_v vs 0) 12) (w_fi w1 (n_v vs 0) 8) (w_ei w1 (w_ar ws (n_v vs 0) 1)) (w_fi w1 (n_v vs 0) 10) (w_fi w1 (n_v vs 0) 13) (w_fi w1 (n_v vs 0) 14) (w_fi w1 (n_v vs 0) 9) (w_fi ws (n_v vs 0) 9) (w_fi ws (n_v vs 0) 10) (w_fi ws (n_v vs 0) 13) (w_fi ws (n_v vs 0) 14) (w_ei ws (w_ar ws (n_v vs 0) 1)) (w_ei ws (w_ar ws (n_v vs 0) 2)) (w_ei ws (w_ar ws (n_v vs 0) 3)) (w_ei ws (w_ar ws (n_v vs 0) 4)) (v_iv (Value.int y)) k1 k16 k18 k24 f7 f8 fe_0_5_1 fe_0_8_1 fe_0_9_1 fe_0_10_1 fe_0_11_1 fe_0_12_1 fe_0_13_1 fe_0_14_1 fe_0_15_1 hE_0_1_1 hE_0_2_1 hE_0_3_1 hE_0_4_1 kz_0_8 kz_0_9 kz_0_10 kz_0_11 kz_0_12 kz_0_13 kz_0_14 kz_0_15 ey2
  have nf5 : fc_1 PRD (23, [27, 1], [0, -1, 1]) ws (vs ++ [Value.int x, Value.int y, Value.int u]) := by
    refine ⟨nf_inA hl rfl, sgq_22 ?_⟩
    · show (-1) * v_iv (n_v (vs ++ [Value.int x, Value.int y, Value.int u]) 27) + (1 * v_iv (n_v (vs ++ [Value.int x, Value.int y, Value.int u]) 1) + 0) ≤ 0
      simp only [e_1, e_27]
      exact vc_Mo_item_at_k4_13_5 (v_iv (n_v vs 1)) (v_iv (n_v vs 16)) (v_iv (n_v vs 18)) (v_iv (n_v vs 24)) (w_fi ws (n_v vs 0) 5) (w_fi ws (n_v vs 0) 8) (w_fi ws (n_v vs 0) 15) (w_fi ws (n_v vs 0) 11) (w_fi ws (n_v vs 0) 12) (w_ei w1 (w_ar ws (n_v vs 0) 2)) (w_fi w1 (n_v vs 0) 5) (w_ei w1 (w_ar ws (n_v vs 0) 3)) (w_ei w1 (w_ar ws (n_v vs 0) 4)) (w_fi w1 (n_v vs 0) 15) (w_fi w1 (n_v vs 0) 11) (w_fi w1 (n_v vs 0) 12) (w_fi w1 (n_v vs 0) 8) (w_ei w1 (w_ar ws (n_v vs 0) 1)) (w_fi w1 (n_v vs 0) 10) (w_fi w1 (n_v vs 0) 13) (w_fi w1 (n_v vs 0) 14) (w_fi w1 (n_v vs 0) 9) (w_fi ws (n_v vs 0) 9) (w_fi ws (n_v vs 0) 10) (w_fi ws (n_v vs 0) 13) (w_fi ws (n_v vs 0) 14) (w_ei ws (w_ar ws (n_v vs 0) 1)) (w_ei ws (w_ar ws (n_v vs 0) 2)) (w_ei ws (w_ar ws (n_v vs 0) 3)) (w_ei ws (w_ar ws (n_v vs 0) 4)) (v_iv (Value.int y)) k1 k16 k18 k24 f7 f8 fe_0_5_1 fe_0_8_1 fe_0_9_1 fe_0_10_1 fe_0_11_1 fe_0_12_1 fe_0_13_1 fe_0_14_1 fe_0_15_1 hE_0_1_1 hE_0_2_1 hE_0_3_1 hE_0_4_1 kz_0_8 kz_0_9 kz_0_10 kz_0_11 kz_0_12 kz_0_13 kz_0_14 kz_0_15 ey2
  have nf6 : fc_1 PRD (23, [28, 2], [0, 1, -1]) ws (vs ++ [Value.int x, Value.int y, Value.int u]) := by
    refine ⟨nf_inA hl rfl, sgq_7 ?_⟩
    · show 1 * v_iv (n_v (vs ++ [Value.int x, Value.int y, Value.int u]) 28) + ((-1) * v_iv (n_v (vs ++ [Value.int x, Value.int y, Value.int u]) 2) + 0) ≤ 0
      simp only [e_2, e_28]
      exact vc_Mo_item_at_k4_13_6 (v_iv (n_v vs 2)) (v_iv (n_v vs 18)) (v_iv (n_v vs 24)) (w_fi ws (n_v vs 0) 5) (w_fi ws (n_v vs 0) 8) (w_fi ws (n_v vs 0) 15) (w_fi ws (n_v vs 0) 11) (w_fi ws (n_v vs 0) 12) (w_ei w1 (w_ar ws (n_v vs 0) 2)) (w_fi w1 (n_v vs 0) 5) (w_ei w1 (w_ar ws (n_v vs 0) 3)) (w_ei w1 (w_ar ws (n_v vs 0) 4)) (w_fi w1 (n_v vs 0) 15) (w_fi w1 (n_v vs 0) 11) (w_fi w1 (n_v vs 0) 12) (w_fi w1 (n_v vs 0) 8) (w_ei w1 (w_ar ws (n_v vs 0) 1)) (w_fi w1 (n_v vs 0) 10) (w_fi w1 (n_v vs 0) 13) (w_fi w1 (n_v vs 0) 14) (w_fi w1 (n_v vs 0) 9) (w_fi ws (n_v vs 0) 9) (w_fi ws (n_v vs 0) 10) (w_fi ws (n_v vs 0) 13) (w_fi ws (n_v vs 0) 14) (w_ei ws (w_ar ws (n_v vs 0) 1)) (w_ei ws (w_ar ws (n_v vs 0) 2)) (w_ei ws (w_ar ws (n_v vs 0) 3)) (w_ei ws (w_ar ws (n_v vs 0) 4)) (v_iv (Value.int u)) k2 k18 k24 fe_0_5_1 fe_0_8_1 fe_0_9_1 fe_0_10_1 fe_0_11_1 fe_0_12_1 fe_0_13_1 fe_0_14_1 fe_0_15_1 hE_0_1_1 hE_0_2_1 hE_0_3_1 hE_0_4_1 kz_0_8 kz_0_9 kz_0_10 kz_0_11 kz_0_12 kz_0_13 kz_0_14 kz_0_15 eu2
  have nf7 : fc_1 PRD (23, [28, 2], [0, -1, 1]) ws (vs ++ [Value.int x, Value.int y, Value.int u]) := by
    refine ⟨nf_inA hl rfl, sgq_22 ?_⟩
    · show (-1) * v_iv (n_v (vs ++ [Value.int x, Value.int y, Value.int u]) 28) + (1 * v_iv (n_v (vs ++ [Value.int x, Value.int y, Value.int u]) 2) + 0) ≤ 0
      simp only [e_2, e_28]
      exact vc_Mo_item_at_k4_13_7 (v_iv (n_v vs 2)) (v_iv (n_v vs 18)) (v_iv (n_v vs 24)) (w_fi ws (n_v vs 0) 5) (w_fi ws (n_v vs 0) 8) (w_fi ws (n_v vs 0) 15) (w_fi ws (n_v vs 0) 11) (w_fi ws (n_v vs 0) 12) (w_ei w1 (w_ar ws (n_v vs 0) 2)) (w_fi w1 (n_v vs 0) 5) (w_ei w1 (w_ar ws (n_v vs 0) 3)) (w_ei w1 (w_ar ws (n_v vs 0) 4)) (w_fi w1 (n_v vs 0) 15) (w_fi w1 (n_v vs 0) 11) (w_fi w1 (n_v vs 0) 12) (w_fi w1 (n_v vs 0) 8) (w_ei w1 (w_ar ws (n_v vs 0) 1)) (w_fi w1 (n_v vs 0) 10) (w_fi w1 (n_v vs 0) 13) (w_fi w1 (n_v vs 0) 14) (w_fi w1 (n_v vs 0) 9) (w_fi ws (n_v vs 0) 9) (w_fi ws (n_v vs 0) 10) (w_fi ws (n_v vs 0) 13) (w_fi ws (n_v vs 0) 14) (w_ei ws (w_ar ws (n_v vs 0) 1)) (w_ei ws (w_ar ws (n_v vs 0) 2)) (w_ei ws (w_ar ws (n_v vs 0) 3)) (w_ei ws (w_ar ws (n_v vs 0) 4)) (v_iv (Value.int u)) k2 k18 k24 fe_0_5_1 fe_0_8_1 fe_0_9_1 fe_0_10_1 fe_0_11_1 fe_0_12_1 fe_0_13_1 fe_0_14_1 fe_0_15_1 hE_0_1_1 hE_0_2_1 hE_0_3_1 hE_0_4_1 kz_0_8 kz_0_9 kz_0_10 kz_0_11 kz_0_12 kz_0_13 kz_0_14 kz_0_15 eu2
  have nf8 : fc_1 PRD (20, [0, 0], [30, 0, 1, 1, 15, -1, 1, 11]) ws (vs ++ [Value.int x, Value.int y, Value.int u]) := by
    refine ⟨nf_inA hl rfl, sgq_1437 ?_⟩
    · show 1 * w_fi ws (n_v (vs ++ [Value.int x, Value.int y, Value.int u]) 0) 15 + ((-1) * w_fi ws (n_v (vs ++ [Value.int x, Value.int y, Value.int u]) 0) 11 + 0) ≤ 0
      rw [e_0]
      exact vc_Mo_item_at_k4_13_8 (v_iv (n_v vs 1)) (v_iv (n_v vs 2)) (v_iv (n_v vs 3)) (v_iv (n_v vs 6)) (v_iv (n_v vs 8)) (v_iv (n_v vs 10)) (v_iv (n_v vs 11)) (v_iv (n_v vs 13)) (v_iv (n_v vs 14)) (v_iv (n_v vs 15)) (v_iv (n_v vs 16)) (v_iv (n_v vs 17)) (v_iv (n_v vs 18)) (v_iv (n_v vs 19)) (v_iv (n_v vs 21)) (v_iv (n_v vs 22)) (v_iv (n_v vs 23)) (v_iv (n_v vs 24)) (w_fi ws (n_v vs 0) 5) (w_fi ws (n_v vs 0) 8) (w_fi ws (n_v vs 0) 15) (w_fi ws (n_v vs 0) 11) (w_fi ws (n_v vs 0) 12) (w_ei w1 (w_ar ws (n_v vs 0) 2)) (w_fi w1 (n_v vs 0) 5) (w_ei w1 (w_ar ws (n_v vs 0) 3)) (w_ei w1 (w_ar ws (n_v vs 0) 4)) (w_fi w1 (n_v vs 0) 15) (w_fi w1 (n_v vs 0) 11) (w_fi w1 (n_v vs 0) 12) (w_fi w1 (n_v vs 0) 8) (w_ei w1 (w_ar ws (n_v vs 0) 1)) (w_fi w1 (n_v vs 0) 10) (w_fi w1 (n_v vs 0) 13) (w_fi w1 (n_v vs 0) 14) (w_fi w1 (n_v vs 0) 9) (w_fi ws (n_v vs 0) 9) (w_fi ws (n_v vs 0) 10) (w_fi ws (n_v vs 0) 13) (w_fi ws (n_v vs 0) 14) (w_ei ws (w_ar ws (n_v vs 0) 1)) (w_ei ws (w_ar ws (n_v vs 0) 2)) (w_ei ws (w_ar ws (n_v vs 0) 3)) (w_ei ws (w_ar ws (n_v vs 0) 4)) (v_iv (Value.int x)) (v_iv (Value.int y)) (v_iv (Value.int u)) k1 k2 k3 k6 k8 k10 k11 k13 k14 k15 k16 k17 k18 k19 k21 k22 k23 k24 d0 d1 d2 d3 g0 g2 f3 f4 f5 f6 f7 f8 f9 f10 f11 f12 f13 f14 f15 f16 f17 f18 f19 f20 f21 f22 f24 f25 f26 f27 f28 f29 f30 f31 f32 f33 f34 f35 f36 f37 f38 f39 f40 f41 f42 f43 f44 f45 f46 f47 f48 f49 f50 f52 f53 f54 f55 f56 f57 f58 f59 f60 f61 f62 f63 f65 f66 f67 f68 fe_0_5_1 fe_0_8_1 fe_0_9_1 fe_0_10_1 fe_0_11_1 fe_0_12_1 fe_0_13_1 fe_0_14_1 fe_0_15_1 hE_0_1_1 hK_0_1 hE_0_2_1 hE_0_3_1 hK_0_3 hE_0_4_1 hK_0_4 kz_0_8 kz_0_9 kz_0_10 kz_0_11 kz_0_12 kz_0_13 kz_0_14 kz_0_15 ex2 ex3 ey2 ey3 eu2 eu3
  have nf9 : fc_1 PRD (20, [0], [50, 3, 0, 12, 11, 15, 2, 21, 4, 7, 1, 3, 2, 0, 12, 0, 1, 0, 3, 2, 0, 11, 4, 3, 2, 0, 15, 0, 8, 3, 7, 1, 3, 2, 0, 12, 0, 0, 0, 7, 4, 3, 2, 0, 15, 0, 1, 2, 0, 11]) ws (vs ++ [Value.int x, Value.int y, Value.int u]) := by
    refine ⟨nf_inA hl rfl, sgq_1438 ?_⟩
    · show ((w_fi ws (n_v (vs ++ [Value.int x, Value.int y, Value.int u]) 0) 12 = 1) → (w_fi ws (n_v (vs ++ [Value.int x, Value.int y, Value.int u]) 0) 11 ≤ (w_fi ws (n_v (vs ++ [Value.int x, Value.int y, Value.int u]) 0) 15 + 8))) ∧ ((w_fi ws (n_v (vs ++ [Value.int x, Value.int y, Value.int u]) 0) 12 = 0) ∨ ((w_fi ws (n_v (vs ++ [Value.int x, Value.int y, Value.int u]) 0) 15 + 1) ≤ w_fi ws (n_v (vs ++ [Value.int x, Value.int y, Value.int u]) 0) 11))
      rw [e_0]
      exact vc_Mo_item_at_k4_13_9 (v_iv (n_v vs 1)) (v_iv (n_v vs 2)) (v_iv (n_v vs 3)) (v_iv (n_v vs 6)) (v_iv (n_v vs 8)) (v_iv (n_v vs 10)) (v_iv (n_v vs 11)) (v_iv (n_v vs 13)) (v_iv (n_v vs 14)) (v_iv (n_v vs 15)) (v_iv (n_v vs 16)) (v_iv (n_v vs 17)) (v_iv (n_v vs 18)) (v_iv (n_v vs 19)) (v_iv (n_v vs 21)) (v_iv (n_v vs 22)) (v_iv (n_v vs 23)) (v_iv (n_v vs 24)) (w_fi ws (n_v vs 0) 5) (w_fi ws (n_v vs 0) 8) (w_fi ws (n_v vs 0) 15) (w_fi ws (n_v vs 0) 11) (w_fi ws (n_v vs 0) 12) (w_ei w1 (w_ar ws (n_v vs 0) 2)) (w_fi w1 (n_v vs 0) 5) (w_ei w1 (w_ar ws (n_v vs 0) 3)) (w_ei w1 (w_ar ws (n_v vs 0) 4)) (w_fi w1 (n_v vs 0) 15) (w_fi w1 (n_v vs 0) 11) (w_fi w1 (n_v vs 0) 12) (w_fi w1 (n_v vs 0) 8) (w_ei w1 (w_ar ws (n_v vs 0) 1)) (w_fi w1 (n_v vs 0) 10) (w_fi w1 (n_v vs 0) 13) (w_fi w1 (n_v vs 0) 14) (w_fi w1 (n_v vs 0) 9) (w_fi ws (n_v vs 0) 9) (w_fi ws (n_v vs 0) 10) (w_fi ws (n_v vs 0) 13) (w_fi ws (n_v vs 0) 14) (w_ei ws (w_ar ws (n_v vs 0) 1)) (w_ei ws (w_ar ws (n_v vs 0) 2)) (w_ei ws (w_ar ws (n_v vs 0) 3)) (w_ei ws (w_ar ws (n_v vs 0) 4)) (v_iv (Value.int x)) (v_iv (Value.int y)) (v_iv (Value.int u)) k1 k2 k3 k6 k8 k10 k11 k13 k14 k15 k16 k17 k18 k19 k21 k22 k23 k24 d0 d1 d2 d3 g0 g2 f3 f4 f5 f6 f7 f8 f9 f10 f11 f12 f13 f14 f15 f16 f17 f18 f19 f20 f21 f22 f24 f25 f26 f27 f28 f29 f30 f31 f32 f33 f34 f35 f36 f37 f38 f39 f40 f41 f42 f43 f44 f45 f46 f47 f48 f49 f50 f52 f53 f54 f55 f56 f57 f58 f59 f60 f61 f62 f63 f65 f66 f67 f68 fe_0_5_1 fe_0_8_1 fe_0_9_1 fe_0_10_1 fe_0_11_1 fe_0_12_1 fe_0_13_1 fe_0_14_1 fe_0_15_1 hE_0_1_1 hK_0_1 hE_0_2_1 hE_0_3_1 hK_0_3 hE_0_4_1 hK_0_4 kz_0_8 kz_0_9 kz_0_10 kz_0_11 kz_0_12 kz_0_13 kz_0_14 kz_0_15 ex2 ex3 ey2 ey3 eu2 eu3
  have nf10 : fc_1 PRD (20, [26, 0], [30, 0, 1, 0, 0, -1, 1, 11]) ws (vs ++ [Value.int x, Value.int y, Value.int u]) := by
    refine ⟨nf_inA hl rfl, sgq_1431 ?_⟩
    · show 1 * v_iv (n_v (vs ++ [Value.int x, Value.int y, Value.int u]) 26) + ((-1) * w_fi ws (n_v (vs ++ [Value.int x, Value.int y, Value.int u]) 0) 11 + 0) ≤ 0
      simp only [e_0, e_26]
      exact vc_Mo_item_at_k4_13_10 (v_iv (n_v vs 1)) (v_iv (n_v vs 2)) (v_iv (n_v vs 3)) (v_iv (n_v vs 6)) (v_iv (n_v vs 8)) (v_iv (n_v vs 10)) (v_iv (n_v vs 11)) (v_iv (n_v vs 13)) (v_iv (n_v vs 14)) (v_iv (n_v vs 15)) (v_iv (n_v vs 16)) (v_iv (n_v vs 17)) (v_iv (n_v vs 18)) (v_iv (n_v vs 19)) (v_iv (n_v vs 21)) (v_iv (n_v vs 22)) (v_iv (n_v vs 23)) (v_iv (n_v vs 24)) (w_fi ws (n_v vs 0) 5) (w_fi ws (n_v vs 0) 8) (w_fi ws (n_v vs 0) 15) (w_fi ws (n_v vs 0) 11) (w_fi ws (n_v vs 0) 12) (w_ei w1 (w_ar ws (n_v vs 0) 2)) (w_fi w1 (n_v vs 0) 5) (w_ei w1 (w_ar ws (n_v vs 0) 3)) (w_ei w1 (w_ar ws (n_v vs 0) 4)) (w_fi w1 (n_v vs 0) 15) (w_fi w1 (n_v vs 0) 11) (w_fi w1 (n_v vs 0) 12) (w_fi w1 (n_v vs 0) 8) (w_ei w1 (w_ar ws (n_v vs 0) 1)) (w_fi w1 (n_v vs 0) 10) (w_fi w1 (n_v vs 0) 13) (w_fi w1 (n_v vs 0) 14) (w_fi w1 (n_v vs 0) 9) (w_fi ws (n_v vs 0) 9) (w_fi ws (n_v vs 0) 10) (w_fi ws (n_v vs 0) 13) (w_fi ws (n_v vs 0) 14) (w_ei ws (w_ar ws (n_v vs 0) 1)) (w_ei ws (w_ar ws (n_v vs 0) 2)) (w_ei ws (w_ar ws (n_v vs 0) 3)) (w_ei ws (w_ar ws (n_v vs 0) 4)) (v_iv (Value.int x)) (v_iv (Value.int y)) (v_iv (Value.int u)) k1 k2 k3 k6 k8 k10 k11 k13 k14 k15 k16 k17 k18 k19 k21 k22 k23 k24 d0 d1 d2 d3 g0 g2 f3 f4 f5 f6 f7 f8 f9 f10 f11 f12 f13 f14 f15 f16 f17 f18 f19 f20 f21 f22 f24 f25 f26 f27 f28 f29 f30 f31 f32 f33 f34 f35 f36 f37 f38 f39 f40 f41 f42 f43 f44 f45 f46 f47 f48 f49 f50 f52 f53 f54 f55 f56 f57 f58 f59 f60 f61 f62 f63 f65 f66 f67 f68 fe_0_5_1 fe_0_8_1 fe_0_9_1 fe_0_10_1 fe_0_11_1 fe_0_12_1 fe_0_13_1 fe_0_14_1 fe_0_15_1 hE_0_1_1 hK_0_1 hE_0_2_1 hE_0_3_1 hK_0_3 hE_0_4_1 hK_0_4 kz_0_8 kz_0_9 kz_0_10 kz_0_11 kz_0_12 kz_0_13 kz_0_14 kz_0_15 ex2 ex3 ey2 ey3 eu2 eu3
  have nf11 : fc_1 PRD (20, [0, 26], [50, 3, 0, 8, 12, 11, 3, 7, 0, 2, 0, 1, 2, 0, 8, 3, 7, 1, 3, 2, 0, 12, 0, 0, 0, 6, 4, 2, 1, 1, 0, 1, 2, 0, 11]) ws (vs ++ [Value.int x, Value.int y, Value.int u]) := by
    refine ⟨nf_inA hl rfl, sgq_1722 ?_⟩
    · show (1 ≤ w_fi ws (n_v (vs ++ [Value.int x, Value.int y, Value.int u]) 0) 8) ∨ ((w_fi ws (n_v (vs ++ [Value.int x, Value.int y, Value.int u]) 0) 12 = 0) ∨ ((v_iv (n_v (vs ++ [Value.int x, Value.int y, Value.int u]) 26) + 1) ≤ w_fi ws (n_v (vs ++ [Value.int x, Value.int y, Value.int u]) 0) 11))
      simp only [e_0, e_26]
      exact vc_Mo_item_at_k4_13_11 (v_iv (n_v vs 1)) (v_iv (n_v vs 2)) (v_iv (n_v vs 3)) (v_iv (n_v vs 6)) (v_iv (n_v vs 8)) (v_iv (n_v vs 10)) (v_iv (n_v vs 11)) (v_iv (n_v vs 13)) (v_iv (n_v vs 14)) (v_iv (n_v vs 15)) (v_iv (n_v vs 16)) (v_iv (n_v vs 17)) (v_iv (n_v vs 18)) (v_iv (n_v vs 19)) (v_iv (n_v vs 21)) (v_iv (n_v vs 22)) (v_iv (n_v vs 23)) (v_iv (n_v vs 24)) (w_fi ws (n_v vs 0) 5) (w_fi ws (n_v vs 0) 8) (w_fi ws (n_v vs 0) 15) (w_fi ws (n_v vs 0) 11) (w_fi ws (n_v vs 0) 12) (w_ei w1 (w_ar ws (n_v vs 0) 2)) (w_fi w1 (n_v vs 0) 5) (w_ei w1 (w_ar ws (n_v vs 0) 3)) (w_ei w1 (w_ar ws (n_v vs 0) 4)) (w_fi w1 (n_v vs 0) 15) (w_fi w1 (n_v vs 0) 11) (w_fi w1 (n_v vs 0) 12) (w_fi w1 (n_v vs 0) 8) (w_ei w1 (w_ar ws (n_v vs 0) 1)) (w_fi w1 (n_v vs 0) 10) (w_fi w1 (n_v vs 0) 13) (w_fi w1 (n_v vs 0) 14) (w_fi w1 (n_v vs 0) 9) (w_fi ws (n_v vs 0) 9) (w_fi ws (n_v vs 0) 10) (w_fi ws (n_v vs 0) 13) (w_fi ws (n_v vs 0) 14) (w_ei ws (w_ar ws (n_v vs 0) 1)) (w_ei ws (w_ar ws (n_v vs 0) 2)) (w_ei ws (w_ar ws (n_v vs 0) 3)) (w_ei ws (w_ar ws (n_v vs 0) 4)) (v_iv (Value.int x)) (v_iv (Value.int y)) (v_iv (Value.int u)) k1 k2 k3 k6 k8 k10 k11 k13 k14 k15 k16 k17 k18 k19 k21 k22 k23 k24 d0 d1 d2 d3 g0 g2 f3 f4 f5 f6 f7 f8 f9 f10 f11 f12 f13 f14 f15 f16 f17 f18 f19 f20 f21 f22 f24 f25 f26 f27 f28 f29 f30 f31 f32 f33 f34 f35 f36 f37 f38 f39 f40 f41 f42 f43 f44 f45 f46 f47 f48 f49 f50 f52 f53 f54 f55 f56 f57 f58 f59 f60 f61 f62 f63 f65 f66 f67 f68 fe_0_5_1 fe_0_8_1 fe_0_9_1 fe_0_10_1 fe_0_11_1 fe_0_12_1 fe_0_13_1 fe_0_14_1 fe_0_15_1 hE_0_1_1 hK_0_1 hE_0_2_1 hE_0_3_1 hK_0_3 hE_0_4_1 hK_0_4 kz_0_8 kz_0_9 kz_0_10 kz_0_11 kz_0_12 kz_0_13 kz_0_14 kz_0_15 ex2 ex3 ey2 ey3 eu2 eu3
  have nf12 : fc_1 PRD (20, [0, 27, 28], [60, 9, 2, 1018, 10, 11, 12, 13, 14, 15, 8, 9, 5, 1, 2]) ws (vs ++ [Value.int x, Value.int y, Value.int u]) := by
    refine ⟨nf_inA hl rfl, sgq_1732 ?_⟩
    · show zONs (w_fi ws (n_v (vs ++ [Value.int x, Value.int y, Value.int u]) 0) 10) (w_fi ws (n_v (vs ++ [Value.int x, Value.int y, Value.int u]) 0) 11) (w_fi ws (n_v (vs ++ [Value.int x, Value.int y, Value.int u]) 0) 12) (w_fi ws (n_v (vs ++ [Value.int x, Value.int y, Value.int u]) 0) 13) (w_fi ws (n_v (vs ++ [Value.int x, Value.int y, Value.int u]) 0) 14) (w_fi ws (n_v (vs ++ [Value.int x, Value.int y, Value.int u]) 0) 15) (w_fi ws (n_v (vs ++ [Value.int x, Value.int y, Value.int u]) 0) 8) (w_fi ws (n_v (vs ++ [Value.int x, Value.int y, Value.int u]) 0) 9) (w_fi ws (n_v (vs ++ [Value.int x, Value.int y, Value.int u]) 0) 5) (w_ei ws (w_ar ws (n_v (vs ++ [Value.int x, Value.int y, Value.int u]) 0) 1)) (w_ei ws (w_ar ws (n_v (vs ++ [Value.int x, Value.int y, Value.int u]) 0) 2)) (v_iv (n_v (vs ++ [Value.int x, Value.int y, Value.int u]) 27)) (v_iv (n_v (vs ++ [Value.int x, Value.int y, Value.int u]) 28))
      simp only [e_0, e_27, e_28]
      exact vc_Mo_item_at_k4_13_12 (v_iv (n_v vs 1)) (v_iv (n_v vs 2)) (v_iv (n_v vs 3)) (v_iv (n_v vs 6)) (v_iv (n_v vs 8)) (v_iv (n_v vs 10)) (v_iv (n_v vs 11)) (v_iv (n_v vs 13)) (v_iv (n_v vs 14)) (v_iv (n_v vs 15)) (v_iv (n_v vs 16)) (v_iv (n_v vs 17)) (v_iv (n_v vs 18)) (v_iv (n_v vs 19)) (v_iv (n_v vs 21)) (v_iv (n_v vs 22)) (v_iv (n_v vs 23)) (v_iv (n_v vs 24)) (w_fi ws (n_v vs 0) 5) (w_fi ws (n_v vs 0) 8) (w_fi ws (n_v vs 0) 15) (w_fi ws (n_v vs 0) 11) (w_fi ws (n_v vs 0) 12) (w_ei w1 (w_ar ws (n_v vs 0) 2)) (w_fi w1 (n_v vs 0) 5) (w_ei w1 (w_ar ws (n_v vs 0) 3)) (w_ei w1 (w_ar ws (n_v vs 0) 4)) (w_fi w1 (n_v vs 0) 15) (w_fi w1 (n_v vs 0) 11) (w_fi w1 (n_v vs 0) 12) (w_fi w1 (n_v vs 0) 8) (w_ei w1 (w_ar ws (n_v vs 0) 1)) (w_fi w1 (n_v vs 0) 10) (w_fi w1 (n_v vs 0) 13) (w_fi w1 (n_v vs 0) 14) (w_fi w1 (n_v vs 0) 9) (w_fi ws (n_v vs 0) 9) (w_fi ws (n_v vs 0) 10) (w_fi ws (n_v vs 0) 13) (w_fi ws (n_v vs 0) 14) (w_ei ws (w_ar ws (n_v vs 0) 1)) (w_ei ws (w_ar ws (n_v vs 0) 2)) (w_ei ws (w_ar ws (n_v vs 0) 3)) (w_ei ws (w_ar ws (n_v vs 0) 4)) (v_iv (Value.int x)) (v_iv (Value.int y)) (v_iv (Value.int u)) k1 k2 k3 k6 k8 k10 k11 k13 k14 k15 k16 k17 k18 k19 k21 k22 k23 k24 d0 d1 d2 d3 g0 g2 f3 f4 f5 f6 f7 f8 f9 f10 f11 f12 f13 f14 f15 f16 f17 f18 f19 f20 f21 f22 f24 f25 f26 f27 f28 f29 f30 f31 f32 f33 f34 f35 f36 f37 f38 f39 f40 f41 f42 f43 f44 f45 f46 f47 f48 f49 f50 f52 f53 f54 f55 f56 f57 f58 f59 f60 f61 f62 f63 f65 f66 f67 f68 fe_0_5_1 fe_0_8_1 fe_0_9_1 fe_0_10_1 fe_0_11_1 fe_0_12_1 fe_0_13_1 fe_0_14_1 fe_0_15_1 hE_0_1_1 hK_0_1 hE_0_2_1 hE_0_3_1 hK_0_3 hE_0_4_1 hK_0_4 kz_0_8 kz_0_9 kz_0_10 kz_0_11 kz_0_12 kz_0_13 kz_0_14 kz_0_15 ex2 ex3 ey2 ey3 eu2 eu3
  exact ⟨(fun _ h => (by cases h)), [Value.int x, Value.int y, Value.int u], ag_three hx hy hu, List.forall_mem_cons.mpr ⟨⟨show (20 : Nat) < 100 from by decide, nf0⟩, List.forall_mem_cons.mpr ⟨⟨show (20 : Nat) < 100 from by decide, nf1⟩, List.forall_mem_cons.mpr ⟨⟨show (23 : Nat) < 100 from by decide, nf2⟩, List.forall_mem_cons.mpr ⟨⟨show (23 : Nat) < 100 from by decide, nf3⟩, List.forall_mem_cons.mpr ⟨⟨show (23 : Nat) < 100 from by decide, nf4⟩, List.forall_mem_cons.mpr ⟨⟨show (23 : Nat) < 100 from by decide, nf5⟩, List.forall_mem_cons.mpr ⟨⟨show (23 : Nat) < 100 from by decide, nf6⟩, List.forall_mem_cons.mpr ⟨⟨show (23 : Nat) < 100 from by decide, nf7⟩, List.forall_mem_cons.mpr ⟨⟨show (20 : Nat) < 100 from by decide, nf8⟩, List.forall_mem_cons.mpr ⟨⟨show (20 : Nat) < 100 from by decide, nf9⟩, List.forall_mem_cons.mpr ⟨⟨show (20 : Nat) < 100 from by decide, nf10⟩, List.forall_mem_cons.mpr ⟨⟨show (20 : Nat) < 100 from by decide, nf11⟩, List.forall_mem_cons.mpr ⟨⟨show (20 : Nat) < 100 from by decide, nf12⟩, (fun _ h => (by cases h))⟩⟩⟩⟩⟩⟩⟩⟩⟩⟩⟩⟩⟩, (fun _ h => (by cases h))⟩
set_option maxHeartbeats 4000000 in
theorem vc_Mo_item_at_k4_14_0 (x3 : Int) (x26 : Int) (r_0 : Int) (pos_0 : Int) (k3 : 0 ≤ x3 ∧ x3 ≤ 2000) (k26 : 0 ≤ x26 ∧ x26 ≤ 2000) (f4 : 1 * x26 + ((-1) * x3 + 0) ≤ 0) (f5 : (-1) * x26 + (1 * x3 + 0) ≤ 0) (f27 : 1 * x26 + ((-1) * pos_0 + 0) ≤ 0) (kz_0_11 : 0 ≤ pos_0 ∧ pos_0 ≤ 2000) : 1 * x3 + ((-1) * pos_0 + 0) ≤ 0 := by
  first
    | omega
    | (have q1 := (hE_0_2_1 (r_0 + 2) (by omega)).2 (by omega)
       have q2 := (hE_0_2_2 (r_0 + 2) (by omega)).2 (by omega)
       omega)
    | (have q1 := (hE_0_2_1 (r_0 + 1) (by omega)).2 (by omega)
       have q2 := (hE_0_2_2 (r_0 + 1) (by omega)).2 (by omega)
       omega)
    | (have q1 := (hE_0_2_1 (r_0 + 2) (by omega)).2 (by omega)
       omega)
    | (have q1 := (hE_0_2_1 (r_0 + 1) (by omega)).2 (by omega)
       omega)
    | (have q1 := (hE_0_2_1 (r_0 + 2) (by omega)).2 (by omega)
       have q2 := (hE_0_2_2 (r_0 + 2) (by omega)).2 (by omega)
       have q3 := (hE_0_2_3 (r_0 + 2) (by omega)).1 (by omega)
       omega)
    | (have q1 := (hE_0_2_1 (r_0 + 2) (by omega)).2 (by omega)
       have q2 := (hE_0_2_2 (r_0 + 2) (by omega)).2 (by omega)
       have q3 := (hE_0_2_3 (r_0 + 2) (by omega)).2 (by omega)
       omega)
set_option maxHeartbeats 4000000 in
theorem vc_Mo_item_at_k4_14_1 (x3 : Int) (x26 : Int) (r_0 : Int) (pos_0 : Int) (fault_0 : Int) (k3 : 0 ≤ x3 ∧ x3 ≤ 2000) (k26 : 0 ≤ x26 ∧ x26 ≤ 2000) (f4 : 1 * x26 + ((-1) * x3 + 0) ≤ 0) (f5 : (-1) * x26 + (1 * x3 + 0) ≤ 0) (f27 : 1 * x26 + ((-1) * pos_0 + 0) ≤ 0) (f28 : (1 ≤ fault_0) ∨ ((x26 + 1) ≤ pos_0)) (kz_0_8 : 0 ≤ fault_0 ∧ fault_0 ≤ 5) (kz_0_11 : 0 ≤ pos_0 ∧ pos_0 ≤ 2000) : (1 ≤ fault_0) ∨ ((x3 + 1) ≤ pos_0) := by
  first
    | omega
    | (have q1 := (hE_0_2_1 (r_0 + 2) (by omega)).2 (by omega)
       have q2 := (hE_0_2_2 (r_0 + 2) (by omega)).2 (by omega)
       omega)
    | (have q1 := (hE_0_2_1 (r_0 + 1) (by omega)).2 (by omega)
       have q2 := (hE_0_2_2 (r_0 + 1) (by omega)).2 (by omega)
       omega)
    | (have q1 := (hE_0_2_1 (r_0 + 2) (by omega)).2 (by omega)
       omega)
    | (have q1 := (hE_0_2_1 (r_0 + 1) (by omega)).2 (by omega)
       omega)
    | (have q1 := (hE_0_2_1 (r_0 + 2) (by omega)).2 (by omega)
       have q2 := (hE_0_2_2 (r_0 + 2) (by omega)).2 (by omega)
       have q3 := (hE_0_2_3 (r_0 + 2) (by omega)).1 (by omega)
       omega)
    | (have q1 := (hE_0_2_1 (r_0 + 2) (by omega)).2 (by omega)
       have q2 := (hE_0_2_2 (r_0 + 2) (by omega)).2 (by omega)
       have q3 := (hE_0_2_3 (r_0 + 2) (by omega)).2 (by omega)
       omega)
set_option maxHeartbeats 4000000 in
theorem vc_Mo_item_at_k4_14_2 (x1 : Int) (x2 : Int) (x3 : Int) (x6 : Int) (x8 : Int) (x10 : Int) (x11 : Int) (x13 : Int) (x14 : Int) (x15 : Int) (x16 : Int) (x17 : Int) (x18 : Int) (x21 : Int) (x22 : Int) (x23 : Int) (x24 : Int) (x26 : Int) (x27 : Int) (x28 : Int) (r_0 : Int) (all_0 : Int → Int) (now_0 : Int → Int) (latest_0 : Int → Int) (from_0 : Int) (pos_0 : Int) (kind_0 : Int) (fault_0 : Int) (tape_0 : Int → Int) (limit_0 : Int) (place_0 : Int) (value_0 : Int) (faultPlace_0 : Int) (k1 : 0 ≤ x1 ∧ x1 ≤ 7) (k2 : 4 ≤ x2 ∧ x2 ≤ 4) (k3 : 0 ≤ x3 ∧ x3 ≤ 2000) (k6 : 0 ≤ x6 ∧ x6 ≤ 2000) (k8 : 0 ≤ x8 ∧ x8 ≤ 2000) (k10 : 0 ≤ x10 ∧ x10 ≤ 4) (k11 : 0 ≤ x11 ∧ x11 ≤ 23) (k13 : 99 ≤ x13 ∧ x13 ≤ 99) (k14 : 0 ≤ x14 ∧ x14 ≤ 2000) (k15 : (-1) ≤ x15 ∧ x15 ≤ 48) (k16 : 0 ≤ x16 ∧ x16 ≤ 7) (k17 : 0 ≤ x17 ∧ x17 ≤ 4) (k18 : 1 ≤ x18 ∧ x18 ≤ 99) (k21 : 0 ≤ x21 ∧ x21 ≤ 66297) (k22 : 219 ≤ x22 ∧ x22 ≤ 219) (k23 : 219 ≤ x23 ∧ x23 ≤ 66516) (k24 : 219 ≤ x24 ∧ x24 ≤ 66539) (k26 : 0 ≤ x26 ∧ x26 ≤ 2000) (k27 : 0 ≤ x27 ∧ x27 ≤ 7) (k28 : 0 ≤ x28 ∧ x28 ≤ 4) (d0 : x11 + 219 ≤ x24 ∧ x24 ≤ x11 + 66516) (d1 : x23 + 0 ≤ x24 ∧ x24 ≤ x23 + 23) (d2 : x21 + 219 ≤ x24 ∧ x24 ≤ x21 + 242) (d3 : x21 + 219 ≤ x23 ∧ x23 ≤ x21 + 219) (g0 : x21 = r_0) (f2 : (x1 + 1) ≤ all_0 ((r_0 + 2))) (f3 : RWS (r_0) (all_0) (now_0) (latest_0)) (f4 : 1 * x26 + ((-1) * x3 + 0) ≤ 0) (f5 : (-1) * x26 + (1 * x3 + 0) ≤ 0) (f6 : 1 * x27 + ((-1) * x1 + 0) ≤ 0) (f7 : (-1) * x27 + (1 * x1 + 0) ≤ 0) (f8 : 1 * x28 + ((-1) * x2 + 0) ≤ 0) (f9 : (-1) * x28 + (1 * x2 + 0) ≤ 0) (f10 : 1 * x14 + ((-1) * x3 + 0) ≤ 0) (f11 : (-1) * x14 + (1 * x3 + 0) ≤ 0) (f12 : 1 * x15 + ((-1) * x11 + 0) ≤ 0) (f13 : (-1) * x15 + (1 * x11 + 0) ≤ 0) (f14 : 1 * x16 + ((-1) * x1 + 0) ≤ 0) (f15 : (-1) * x16 + (1 * x1 + 0) ≤ 0) (f16 : 1 * x17 + ((-1) * x2 + 0) ≤ 0) (f17 : (-1) * x17 + (1 * x2 + 0) ≤ 0) (f18 : 1 * x8 + ((-1) * x3 + 0) ≤ 0) (f19 : (-1) * x8 + (1 * x3 + 0) ≤ 0) (f20 : 1 * x10 + ((-1) * x2 + 0) ≤ 0) (f21 : (-1) * x10 + (1 * x2 + 0) ≤ 0) (f22 : 1 * x3 + ((-1) * x6 + 0) ≤ 0) (f23 : 1 * x18 + ((-1) * x13 + 0) ≤ 0) (f24 : (-1) * x18 + 0 ≤ 0) (f25 : 1 * from_0 + ((-1) * pos_0 + 0) ≤ 0) (f26 : ((kind_0 = 1) → (pos_0 ≤ (from_0 + 8))) ∧ ((kind_0 = 0) ∨ ((from_0 + 1) ≤ pos_0))) (f27 : 1 * x26 + ((-1) * pos_0 + 0) ≤ 0) (f28 : (1 ≤ fault_0) ∨ ((x26 + 1) ≤ pos_0)) (f29 : zOS0 (limit_0) (pos_0) (kind_0) (place_0) (value_0) (from_0) (fault_0) (faultPlace_0) (r_0) (tape_0) (all_0) (x27) (x28)) (f31 : 1 * x26 + ((-1) * x3 + 0) ≤ 0) (f32 : (-1) * x26 + (1 * x3 + 0) ≤ 0) (f33 : 1 * x27 + ((-1) * x1 + 0) ≤ 0) (f34 : (-1) * x27 + (1 * x1 + 0) ≤ 0) (f35 : 1 * x28 + ((-1) * x2 + 0) ≤ 0) (f36 : (-1) * x28 + (1 * x2 + 0) ≤ 0) (f37 : 1 * x14 + ((-1) * x3 + 0) ≤ 0) (f38 : (-1) * x14 + (1 * x3 + 0) ≤ 0) (f39 : 1 * x15 + ((-1) * x11 + 0) ≤ 0) (f40 : (-1) * x15 + (1 * x11 + 0) ≤ 0) (f41 : 1 * x16 + ((-1) * x1 + 0) ≤ 0) (f42 : (-1) * x16 + (1 * x1 + 0) ≤ 0) (f43 : 1 * x17 + ((-1) * x2 + 0) ≤ 0) (f44 : (-1) * x17 + (1 * x2 + 0) ≤ 0) (f45 : 1 * x8 + ((-1) * x3 + 0) ≤ 0) (f46 : (-1) * x8 + (1 * x3 + 0) ≤ 0) (f47 : 1 * x10 + ((-1) * x2 + 0) ≤ 0) (f48 : (-1) * x10 + (1 * x2 + 0) ≤ 0) (f50 : x24 = x23 + x11) (f51 : x23 = x21 + x22) (f52 : 0 < x18) (f53 : 1 * x14 + ((-1) * x3 + 0) ≤ 0) (f54 : (-1) * x14 + (1 * x3 + 0) ≤ 0) (f55 : 1 * x15 + ((-1) * x11 + 0) ≤ 0) (f56 : (-1) * x15 + (1 * x11 + 0) ≤ 0) (f57 : 1 * x16 + ((-1) * x1 + 0) ≤ 0) (f58 : (-1) * x16 + (1 * x1 + 0) ≤ 0) (f59 : 1 * x17 + ((-1) * x2 + 0) ≤ 0) (f60 : (-1) * x17 + (1 * x2 + 0) ≤ 0) (f61 : 1 * x8 + ((-1) * x3 + 0) ≤ 0) (f62 : (-1) * x8 + (1 * x3 + 0) ≤ 0) (f63 : 1 * x10 + ((-1) * x2 + 0) ≤ 0) (f64 : (-1) * x10 + (1 * x2 + 0) ≤ 0) (f66 : 1 * x14 + ((-1) * x3 + 0) ≤ 0) (f67 : (-1) * x14 + (1 * x3 + 0) ≤ 0) (f68 : 1 * x15 + ((-1) * x11 + 0) ≤ 0) (f69 : (-1) * x15 + (1 * x11 + 0) ≤ 0) (f70 : 1 * x16 + ((-1) * x1 + 0) ≤ 0) (f71 : (-1) * x16 + (1 * x1 + 0) ≤ 0) (f72 : 1 * x17 + ((-1) * x2 + 0) ≤ 0) (f73 : (-1) * x17 + (1 * x2 + 0) ≤ 0) (f74 : 1 * x8 + ((-1) * x3 + 0) ≤ 0) (f75 : (-1) * x8 + (1 * x3 + 0) ≤ 0) (f76 : 1 * x10 + ((-1) * x2 + 0) ≤ 0) (f77 : (-1) * x10 + (1 * x2 + 0) ≤ 0) (f79 : 1 * x8 + ((-1) * x3 + 0) ≤ 0) (f80 : (-1) * x8 + (1 * x3 + 0) ≤ 0) (f81 : 1 * x10 + ((-1) * x2 + 0) ≤ 0) (f82 : (-1) * x10 + (1 * x2 + 0) ≤ 0) (hK_0_1 : ∀ j : Int, 0 ≤ j → j < 2000 → (-128) ≤ tape_0 j ∧ tape_0 j ≤ 127) (hK_0_3 : ∀ j : Int, 0 ≤ j → j < 4 → 0 ≤ now_0 j ∧ now_0 j ≤ 30) (hK_0_4 : ∀ j : Int, 0 ≤ j → j < 4 → 0 ≤ latest_0 j ∧ latest_0 j ≤ 30) (kz_0_8 : 0 ≤ fault_0 ∧ fault_0 ≤ 5) (kz_0_9 : 0 ≤ faultPlace_0 ∧ faultPlace_0 ≤ 2000) (kz_0_10 : 0 ≤ limit_0 ∧ limit_0 ≤ 2000) (kz_0_11 : 0 ≤ pos_0 ∧ pos_0 ≤ 2000) (kz_0_12 : 0 ≤ kind_0 ∧ kind_0 ≤ 4) (kz_0_13 : 0 ≤ place_0 ∧ place_0 ≤ 2000) (kz_0_14 : (-49) ≤ value_0 ∧ value_0 ≤ 1048575) (kz_0_15 : 0 ≤ from_0 ∧ from_0 ≤ 2000) : zOS0 (limit_0) (pos_0) (kind_0) (place_0) (value_0) (from_0) (fault_0) (faultPlace_0) (r_0) (tape_0) (all_0) (x1) (x2) := by
  first | (have el_x26 : x26 = x3 := by omega); subst el_x26 | skip
  first | (have el_x27 : x27 = x1 := by omega); subst el_x27 | skip
  first | (have el_x28 : x28 = x2 := by omega); subst el_x28 | skip
  first | (have el_x14 : x14 = x3 := by omega); subst el_x14 | skip
  first | (have el_x15 : x15 = x11 := by omega); subst el_x15 | skip
  first | (have el_x16 : x16 = x1 := by omega); subst el_x16 | skip
  first | (have el_x17 : x17 = x2 := by omega); subst el_x17 | skip
  first | (have el_x8 : x8 = x3 := by omega); subst el_x8 | skip
  first | (have el_x10 : x10 = x2 := by omega); subst el_x10 | skip
  first | subst g0 | skip
  assumption
def o_Mo_item_at_k4_14 : or_T := (94, 29, [(0, (2, 0, 0, [165])), (1, (0, 0, 7, [])), (2, (0, 4, 4, [])), (3, (0, 0, 2000, [])), (6, (0, 0, 2000, [])), (8, (0, 0, 2000, [])), (10, (0, 0, 4, [])), (11, (0, 0, 23, [])), (13, (0, 99, 99, [])), (14, (0, 0, 2000, [])), (15, (0, -1, 48, [])), (16, (0, 0, 7, [])), (17, (0, 0, 4, [])), (18, (0, 1, 99, [])), (21, (0, 0, 66297, [])), (22, (0, 219, 219, [])), (23, (0, 219, 66516, [])), (24, (0, 219, 66539, [])), (26, (0, 0, 2000, [])), (27, (0, 0, 7, [])), (28, (0, 0, 4, []))], [(9, [21, 0], [5]), (20, [1, 0], [50, 1, 1, 1005, 1002, 0, 6, 4, 2, 1, 0, 0, 1, 3, 1, 2, 4, 3, 2, 1, 5, 0, 2]), (20, [0], [60, 1, 3, 199, 5, 2, 3, 4]), (23, [26, 3], [0, 1, -1]), (23, [26, 3], [0, -1, 1]), (23, [27, 1], [0, 1, -1]), (23, [27, 1], [0, -1, 1]), (23, [28, 2], [0, 1, -1]), (23, [28, 2], [0, -1, 1]), (23, [14, 3], [0, 1, -1]), (23, [14, 3], [0, -1, 1]), (23, [15, 11], [0, 1, -1]), (23, [15, 11], [0, -1, 1]), (23, [16, 1], [0, 1, -1]), (23, [16, 1], [0, -1, 1]), (23, [17, 2], [0, 1, -1]), (23, [17, 2], [0, -1, 1]), (23, [8, 3], [0, 1, -1]), (23, [8, 3], [0, -1, 1]), (23, [10, 2], [0, 1, -1]), (23, [10, 2], [0, -1, 1]), (20, [3, 6], [30, 0, 1, 0, 0, -1, 0, 0]), (20, [18, 13], [30, 0, 1, 0, 0, -1, 0, 0]), (20, [18], [30, 0, -1, 0, 0]), (20, [0, 0], [30, 0, 1, 1, 15, -1, 1, 11]), (20, [0], [50, 3, 0, 12, 11, 15, 2, 21, 4, 7, 1, 3, 2, 0, 12, 0, 1, 0, 3, 2, 0, 11, 4, 3, 2, 0, 15, 0, 8, 3, 7, 1, 3, 2, 0, 12, 0, 0, 0, 7, 4, 3, 2, 0, 15, 0, 1, 2, 0, 11]), (20, [26, 0], [30, 0, 1, 0, 0, -1, 1, 11]), (20, [0, 26], [50, 2, 0, 8, 11, 3, 7, 0, 2, 0, 1, 2, 0, 8, 0, 6, 4, 2, 1, 1, 0, 1, 2, 0, 11]), (20, [0, 27, 28], [60, 9, 2, 1007, 10, 11, 12, 13, 14, 15, 8, 9, 5, 1, 2]), (102, [28], [0, 165008, 165009, 165011, 165012, 165013, 165014, 165015]), (23, [26, 3], [0, 1, -1]), (23, [26, 3], [0, -1, 1]), (23, [27, 1], [0, 1, -1]), (23, [27, 1], [0, -1, 1]), (23, [28, 2], [0, 1, -1]), (23, [28, 2], [0, -1, 1]), (23, [14, 3], [0, 1, -1]), (23, [14, 3], [0, -1, 1]), (23, [15, 11], [0, 1, -1]), (23, [15, 11], [0, -1, 1]), (23, [16, 1], [0, 1, -1]), (23, [16, 1], [0, -1, 1]), (23, [17, 2], [0, 1, -1]), (23, [17, 2], [0, -1, 1]), (23, [8, 3], [0, 1, -1]), (23, [8, 3], [0, -1, 1]), (23, [10, 2], [0, 1, -1]), (23, [10, 2], [0, -1, 1]), (100, [20, 24, 18], []), (1, [24, 23, 11], []), (1, [23, 21, 22], []), (8, [18], [4]), (23, [14, 3], [0, 1, -1]), (23, [14, 3], [0, -1, 1]), (23, [15, 11], [0, 1, -1]), (23, [15, 11], [0, -1, 1]), (23, [16, 1], [0, 1, -1]), (23, [16, 1], [0, -1, 1]), (23, [17, 2], [0, 1, -1]), (23, [17, 2], [0, -1, 1]), (23, [8, 3], [0, 1, -1]), (23, [8, 3], [0, -1, 1]), (23, [10, 2], [0, 1, -1]), (23, [10, 2], [0, -1, 1]), (102, [17], [0, 165008, 165009, 165011, 165012, 165013, 165014, 165015]), (23, [14, 3], [0, 1, -1]), (23, [14, 3], [0, -1, 1]), (23, [15, 11], [0, 1, -1]), (23, [15, 11], [0, -1, 1]), (23, [16, 1], [0, 1, -1]), (23, [16, 1], [0, -1, 1]), (23, [17, 2], [0, 1, -1]), (23, [17, 2], [0, -1, 1]), (23, [8, 3], [0, 1, -1]), (23, [8, 3], [0, -1, 1]), (23, [10, 2], [0, 1, -1]), (23, [10, 2], [0, -1, 1]), (102, [10], [187072209578355573530071658587684226515959365500928, 165008, 165009, 165011, 165012, 165013, 165014, 165015]), (23, [8, 3], [0, 1, -1]), (23, [8, 3], [0, -1, 1]), (23, [10, 2], [0, 1, -1]), (23, [10, 2], [0, -1, 1])], [], [], [(20, [3, 0], [30, 0, 1, 0, 0, -1, 1, 11]), (20, [0, 3], [50, 2, 0, 8, 11, 3, 7, 0, 2, 0, 1, 2, 0, 8, 0, 6, 4, 2, 1, 1, 0, 1, 2, 0, 11]), (20, [0, 1, 2], [60, 9, 2, 1007, 10, 11, 12, 13, 14, 15, 8, 9, 5, 1, 2])], [], [(24, 11, 219, 66516), (24, 23, 0, 23), (24, 21, 219, 242), (23, 21, 219, 219)])
theorem oo_Mo_item_at_k4_14 {kA : Nat → ClassId} : or_ok PRD kA GG o_Mo_item_at_k4_14 := by
  refine or_mk fun A ta ws vs hD hth hl => ?_
  intro t0 r0 t1 k1 t2 k2 t3 k3 t6 k6 t8 k8 t10 k10 t11 k11 t13 k13 t14 k14 t15 k15 t16 k16 t17 k17 t18 k18 t21 k21 t22 k22 t23 k23 t24 k24 t26 k26 t27 k27 t28 k28 d0 d1 d2 d3 f0 f2 f3 f4 f5 f6 f7 f8 f9 f10 f11 f12 f13 f14 f15 f16 f17 f18 f19 f20 f21 f22 f23 f24 f25 f26 f27 f28 f29 ta1 w1 le1 s1 f31 f32 f33 f34 f35 f36 f37 f38 f39 f40 f41 f42 f43 f44 f45 f46 f47 f48 ta2 w2 le2 s2 f50 f51 f52 f53 f54 f55 f56 f57 f58 f59 f60 f61 f62 f63 f64 ta3 w3 le3 s3 f66 f67 f68 f69 f70 f71 f72 f73 f74 f75 f76 f77 ta4 w4 le4 s4 f79 f80 f81 f82
  replace f0 := shm_110 f0
  have cr_0_1 := fdq_39 hD hth r0
  have cr_0_3 := fdq_142 hD hth r0
  have cr_0_4 := fdq_143 hD hth r0
  have g0 : v_iv (n_v vs 21) = w_fi ws (n_v vs 0) 5 := congrArg v_iv f0
  have hK_0_1 := elq_7 hD hth cr_0_1
  have hK_0_3 := elq_80 hD hth cr_0_3
  have hK_0_4 := elq_81 hD hth cr_0_4
  have kz_0_8 := fdq_34 hD hth r0
  have kz_0_9 := fdq_44 hD hth r0
  have kz_0_10 := fdq_43 hD hth r0
  have kz_0_11 := fdq_237 hD hth r0
  have kz_0_12 := fdq_187 hD hth r0
  have kz_0_13 := fdq_238 hD hth r0
  have kz_0_14 := fdq_188 hD hth r0
  have kz_0_15 := fdq_239 hD hth r0
  have nf0 : fc_1 PRD (20, [3, 0], [30, 0, 1, 0, 0, -1, 1, 11]) ws (vs) := ⟨nf_in hl rfl, sgq_1431 (vc_Mo_item_at_k4_14_0 (v_iv (n_v vs 3)) (v_iv (n_v vs 26)) (w_fi ws (n_v vs 0) 5) (w_fi ws (n_v vs 0) 11) k3 k26 (shm_7 f4) (shm_22 f5) (shm_1431 f27) kz_0_11)⟩
  have nf1 : fc_1 PRD (20, [0, 3], [50, 2, 0, 8, 11, 3, 7, 0, 2, 0, 1, 2, 0, 8, 0, 6, 4, 2, 1, 1, 0, 1, 2, 0, 11]) ws (vs) := ⟨nf_in hl rfl, sgq_1726 (vc_Mo_item_at_k4_14_1 (v_iv (n_v vs 3)) (v_iv (n_v vs 26)) (w_fi ws (n_v vs 0) 5) (w_fi ws (n_v vs 0) 11) (w_fi ws (n_v vs 0) 8) k3 k26 (shm_7 f4) (shm_22 f5) (shm_1431 f27) (shm_1726 f28) kz_0_8 kz_0_11)⟩
  have nf2 : fc_1 PRD (20, [0, 1, 2], [60, 9, 2, 1007, 10, 11, 12, 13, 14, 15, 8, 9, 5, 1, 2]) ws (vs) := ⟨nf_in hl rfl, sgq_1727 (vc_Mo_item_at_k4_14_2 (v_iv (n_v vs 1)) (v_iv (n_v vs 2)) (v_iv (n_v vs 3)) (v_iv (n_v vs 6)) (v_iv (n_v vs 8)) (v_iv (n_v vs 10)) (v_iv (n_v vs 11)) (v_iv (n_v vs 13)) (v_iv (n_v vs 14)) (v_iv (n_v vs 15)) (v_iv (n_v vs 16)) (v_iv (n_v vs 17)) (v_iv (n_v vs 18)) (v_iv (n_v vs 21)) (v_iv (n_v vs 22)) (v_iv (n_v vs 23)) (v_iv (n_v vs 24)) (v_iv (n_v vs 26)) (v_iv (n_v vs 27)) (v_iv (n_v vs 28)) (w_fi ws (n_v vs 0) 5) (w_ei ws (w_ar ws (n_v vs 0) 2)) (w_ei ws (w_ar ws (n_v vs 0) 3)) (w_ei ws (w_ar ws (n_v vs 0) 4)) (w_fi ws (n_v vs 0) 15) (w_fi ws (n_v vs 0) 11) (w_fi ws (n_v vs 0) 12) (w_fi ws (n_v vs 0) 8) (w_ei ws (w_ar ws (n_v vs 0) 1)) (w_fi ws (n_v vs 0) 10) (w_fi ws (n_v vs 0) 13) (w_fi ws (n_v vs 0) 14) (w_fi ws (n_v vs 0) 9) k1 k2 k3 k6 k8 k10 k11 k13 k14 k15 k16 k17 k18 k21 k22 k23 k24 k26 k27 k28 d0 d1 d2 d3 g0 (shm_1009 f2) (shm_980 f3) (shm_7 f4) (shm_22 f5) (shm_7 f6) (shm_22 f7) (shm_7 f8) (shm_22 f9) (shm_7 f10) (shm_22 f11) (shm_7 f12) (shm_22 f13) (shm_7 f14) (shm_22 f15) (shm_7 f16) (shm_22 f17) (shm_7 f18) (shm_22 f19) (shm_7 f20) (shm_22 f21) (shm_201 f22) (shm_201 f23) (shm_2002 f24) (shm_1437 f25) (shm_1438 f26) (shm_1431 f27) (shm_1726 f28) (shm_1727 f29) (shm_7 f31) (shm_22 f32) (shm_7 f33) (shm_22 f34) (shm_7 f35) (shm_22 f36) (shm_7 f37) (shm_22 f38) (shm_7 f39) (shm_22 f40) (shm_7 f41) (shm_22 f42) (shm_7 f43) (shm_22 f44) (shm_7 f45) (shm_22 f46) (shm_7 f47) (shm_22 f48) (shm_12 f50) (shm_12 f51) (shm_308 f52) (shm_7 f53) (shm_22 f54) (shm_7 f55) (shm_22 f56) (shm_7 f57) (shm_22 f58) (shm_7 f59) (shm_22 f60) (shm_7 f61) (shm_22 f62) (shm_7 f63) (shm_22 f64) (shm_7 f66) (shm_22 f67) (shm_7 f68) (shm_22 f69) (shm_7 f70) (shm_22 f71) (shm_7 f72) (shm_22 f73) (shm_7 f74) (shm_22 f75) (shm_7 f76) (shm_22 f77) (shm_7 f79) (shm_22 f80) (shm_7 f81) (shm_22 f82) hK_0_1 hK_0_3 hK_0_4 kz_0_8 kz_0_9 kz_0_10 kz_0_11 kz_0_12 kz_0_13 kz_0_14 kz_0_15)⟩
  refine ⟨(fun _ h => (by cases h)), [], trivial, ?_, (fun _ h => (by cases h))⟩
  rw [List.append_nil]
  exact List.forall_mem_cons.mpr ⟨⟨show (20 : Nat) < 100 from by decide, nf0⟩, List.forall_mem_cons.mpr ⟨⟨show (20 : Nat) < 100 from by decide, nf1⟩, List.forall_mem_cons.mpr ⟨⟨show (20 : Nat) < 100 from by decide, nf2⟩, (fun _ h => (by cases h))⟩⟩⟩
def n_Mo_item_at_k4_an : List an_T := []
def t_Mo_item_at_k4_ct : ct_L := [(1, 460, e_Mo_next), (1, 506, e_Mo_edgeItem), (16, 469, e_Mo_isWord_at_s5000), (55, 494, e_Mo_met_at_g1), (85, 499, e_Mo_of_at_s5002), (196, 491, e_Mo_need_at_gs), (226, 469, e_Mo_isWord_at_s5001), (253, 503, e_Mo_groupItem_at_k4), (1000001, 467, en_ro [] (2, 0, 0, [5000])), (1000001, 473, en_ro [] (2, 0, 0, [5001])), (1000001, 497, en_ro [] (2, 0, 0, [5002]))]
set_option maxRecDepth 100000 in
theorem c_Mo_item_at_k4 {l : Launch} {D : va_G} {kA : Nat → ClassId} (h_Mo_edgeItem : ct_ok PRD l D kA GG y_Mo_edgeItem z_Mo_edgeItem e_Mo_edgeItem) (h_Mo_groupItem_at_k4 : ct_ok PRD l D kA GG y_Mo_groupItem_at_k4 z_Mo_groupItem_at_k4 e_Mo_groupItem_at_k4) (h_Mo_isWord_at_s5000 : ct_ok PRD l D kA GG y_Mo_isWord_at_s5000 z_Mo_isWord_at_s5000 e_Mo_isWord_at_s5000) (h_Mo_isWord_at_s5001 : ct_ok PRD l D kA GG y_Mo_isWord_at_s5001 z_Mo_isWord_at_s5001 e_Mo_isWord_at_s5001) (h_Mo_met_at_g1 : ct_ok PRD l D kA GG y_Mo_met_at_g1 z_Mo_met_at_g1 e_Mo_met_at_g1) (h_Mo_need_at_gs : ct_ok PRD l D kA GG y_Mo_need_at_gs z_Mo_need_at_gs e_Mo_need_at_gs) (h_Mo_next : ct_ok PRD l D kA GG y_Mo_next z_Mo_next e_Mo_next) (h_Mo_of_at_s5002 : ct_ok PRD l D kA GG y_Mo_of_at_s5002 z_Mo_of_at_s5002 e_Mo_of_at_s5002) : ct_ok PRD l D kA GG y_Mo_item_at_k4 z_Mo_item_at_k4 e_Mo_item_at_k4 := chk_all_ok (FT := [(16, 13, 2), (391, 13, 5), (413, 13, 8)]) (PT := []) (CT := t_Mo_item_at_k4_ct) (KT := []) (NT := []) (AN := n_Mo_item_at_k4_an) (OT := [o_Mo_item_at_k4_0, o_Mo_item_at_k4_1, o_Mo_item_at_k4_2, o_Mo_item_at_k4_3, o_Mo_item_at_k4_4, o_Mo_item_at_k4_5, o_Mo_item_at_k4_6, o_Mo_item_at_k4_7, o_Mo_item_at_k4_8, o_Mo_item_at_k4_9, o_Mo_item_at_k4_10, o_Mo_item_at_k4_11, o_Mo_item_at_k4_12, o_Mo_item_at_k4_13, o_Mo_item_at_k4_14]) 0 240 (List.forall_mem_cons.mpr ⟨oo_Mo_item_at_k4_0, List.forall_mem_cons.mpr ⟨oo_Mo_item_at_k4_1, List.forall_mem_cons.mpr ⟨oo_Mo_item_at_k4_2, List.forall_mem_cons.mpr ⟨oo_Mo_item_at_k4_3, List.forall_mem_cons.mpr ⟨oo_Mo_item_at_k4_4, List.forall_mem_cons.mpr ⟨oo_Mo_item_at_k4_5, List.forall_mem_cons.mpr ⟨oo_Mo_item_at_k4_6, List.forall_mem_cons.mpr ⟨oo_Mo_item_at_k4_7, List.forall_mem_cons.mpr ⟨oo_Mo_item_at_k4_8, List.forall_mem_cons.mpr ⟨oo_Mo_item_at_k4_9, List.forall_mem_cons.mpr ⟨oo_Mo_item_at_k4_10, List.forall_mem_cons.mpr ⟨oo_Mo_item_at_k4_11, List.forall_mem_cons.mpr ⟨oo_Mo_item_at_k4_12, List.forall_mem_cons.mpr ⟨oo_Mo_item_at_k4_13, List.forall_mem_cons.mpr ⟨oo_Mo_item_at_k4_14, List.forall_mem_nil _⟩⟩⟩⟩⟩⟩⟩⟩⟩⟩⟩⟩⟩⟩⟩) (by decide +kernel) ⟨List.forall_mem_cons.mpr ⟨gf_Mo_16, List.forall_mem_cons.mpr ⟨gf_Mo_391, List.forall_mem_cons.mpr ⟨gf_Mo_413, List.forall_mem_nil _⟩⟩⟩, List.forall_mem_nil _, List.forall_mem_cons.mpr ⟨cl_virtual (y := y_Mo_next) (ci := 13) rfl rfl ⟨_, _, rfl⟩ (by decide +kernel) h_Mo_next wm_2982 wm_9 wm_2979 wm_2981 wv_12_11 ⟨by decide, by decide, by decide +kernel⟩ (by decide), List.forall_mem_cons.mpr ⟨cl_virtual (y := y_Mo_edgeItem) (ci := 13) rfl rfl ⟨_, _, rfl⟩ (by decide +kernel) h_Mo_edgeItem wm_3074 wm_9 wm_3071 wm_3073 wv_13_15 ⟨by decide, by decide, by decide +kernel⟩ (by decide), List.forall_mem_cons.mpr ⟨cl_virtual (y := y_Mo_isWord_at_s5000) (ci := 13) rfl rfl ⟨_, _, rfl⟩ (by decide +kernel) h_Mo_isWord_at_s5000 wm_3002 wm_9 wm_2999 wm_3001 wv_12_14 ⟨by decide, by decide, by decide +kernel⟩ (by decide), List.forall_mem_cons.mpr ⟨cl_virtual (y := y_Mo_met_at_g1) (ci := 13) rfl rfl ⟨_, _, rfl⟩ (by decide +kernel) h_Mo_met_at_g1 wm_3008 wm_9 wm_3005 wm_3007 wv_12_15 ⟨by decide, by decide, by decide +kernel⟩ (by decide), List.forall_mem_cons.mpr ⟨cl_virtual (y := y_Mo_of_at_s5002) (ci := 13) rfl rfl ⟨_, _, rfl⟩ (by decide +kernel) h_Mo_of_at_s5002 wm_3054 wm_9 wm_3051 wm_3053 wv_13_10 ⟨by decide, by decide, by decide +kernel⟩ (by decide), List.forall_mem_cons.mpr ⟨cl_virtual (y := y_Mo_need_at_gs) (ci := 13) rfl rfl ⟨_, _, rfl⟩ (by decide +kernel) h_Mo_need_at_gs wm_3062 wm_9 wm_3059 wm_3061 wv_13_12 ⟨by decide, by decide, by decide +kernel⟩ (by decide), List.forall_mem_cons.mpr ⟨cl_virtual (y := y_Mo_isWord_at_s5001) (ci := 13) rfl rfl ⟨_, _, rfl⟩ (by decide +kernel) h_Mo_isWord_at_s5001 wm_3002 wm_9 wm_2999 wm_3001 wv_12_14 ⟨by decide, by decide, by decide +kernel⟩ (by decide), List.forall_mem_cons.mpr ⟨cl_virtual (y := y_Mo_groupItem_at_k4) (ci := 13) rfl rfl ⟨_, _, rfl⟩ (by decide +kernel) h_Mo_groupItem_at_k4 wm_3066 wm_9 wm_3063 wm_3065 wv_13_13 ⟨by decide, by decide, by decide +kernel⟩ (by decide), List.forall_mem_cons.mpr ⟨cl_ldcw (own := "DrawingHouseModel") (idx := 467) (i := 0) (tx := "node") (by decide +kernel) (by decide +kernel) (by decide +kernel), List.forall_mem_cons.mpr ⟨cl_ldcw (own := "DrawingHouseModel") (idx := 473) (i := 1) (tx := "group") (by decide +kernel) (by decide +kernel) (by decide +kernel), List.forall_mem_cons.mpr ⟨cl_ldcw (own := "DrawingHouseModel") (idx := 497) (i := 2) (tx := "size") (by decide +kernel) (by decide +kernel) (by decide +kernel), List.forall_mem_nil _⟩⟩⟩⟩⟩⟩⟩⟩⟩⟩⟩, List.forall_mem_nil _, List.forall_mem_nil _, GG_pl⟩ (by decide +kernel)

set_option maxHeartbeats 4000000 in
theorem vc_Mo_product_at_f0_0_0 (x1 : Int) (x2 : Int) (x3 : Int) (tokenKind_0 : Int → Int) (cur_0 : Int) (tokens_0 : Int) (styleKind_0 : Int) (styleOne_0 : Int) (opened_0 : Int) (fault_0 : Int) (gx : Int) (gy : Int) (gu : Int) (k1 : 0 ≤ x1 ∧ x1 ≤ 2009) (k2 : 0 ≤ x2 ∧ x2 ≤ 5) (k3 : 0 ≤ x3 ∧ x3 ≤ 13) (f0 : ((cur_0 + 1) ≤ tokens_0) ∧ ((tokens_0 ≤ 2010) ∧ ((tokenKind_0 ((tokens_0 - 1)) = 0) ∨ (tokenKind_0 ((tokens_0 - 1)) = 4)))) (f1 : 1 * cur_0 + ((-1) * x1 + 0) ≤ 0) (f2 : (-1) * cur_0 + (1 * x1 + 0) ≤ 0) (f3 : (styleKind_0 = 0) → (styleOne_0 ≤ 23)) (f4 : 1 * opened_0 + 0 ≤ 0) (f5 : (-1) * opened_0 + 0 ≤ 0) (f6 : fault_0 = x2) (f7 : opened_0 = x3) (hK_0_160 : ∀ j : Int, 0 ≤ j → j < 2010 → 0 ≤ tokenKind_0 j ∧ tokenKind_0 j ≤ 4) (kz_0_8 : 0 ≤ fault_0 ∧ fault_0 ≤ 5) (kz_0_157 : 0 ≤ tokens_0 ∧ tokens_0 ≤ 2010) (kz_0_158 : 0 ≤ cur_0 ∧ cur_0 ≤ 2009) (kz_0_159 : 0 ≤ opened_0 ∧ opened_0 ≤ 13) (kz_0_164 : 0 ≤ styleKind_0 ∧ styleKind_0 ≤ 1) (kz_0_165 : (-1) ≤ styleOne_0 ∧ styleOne_0 ≤ 47) (ex2 : gx = cur_0) (ex3 : 0 ≤ gx ∧ gx ≤ 2009) (ey2 : gy = fault_0) (ey3 : 0 ≤ gy ∧ gy ≤ 5) (eu2 : gu = opened_0) (eu3 : 0 ≤ gu ∧ gu ≤ 13) : 1 * x3 + 0 ≤ 0 := by
  first | with_reducible assumption | ((have f0_c0 := f0.1); (have f0_c1 := f0.2.1); (have f0_c2 := f0.2.2); (try and_intros) <;> first | with_reducible assumption | (clear f0_c2 f0 hK_0_160 f3; omega)) | ((have f0_c0 := f0.1); (have f0_c1 := f0.2.1); (have f0_c2 := f0.2.2); (first | have f3_b := f3 (by clear f0_c2 f0 hK_0_160 f3; omega) | skip); (first | have f3_d := f3 (by with_reducible assumption) | skip); (try and_intros) <;> first | with_reducible assumption | (clear f0_c2 f0 hK_0_160 f3; omega)) | ((have f0_c0 := f0.1); (have f0_c1 := f0.2.1); (have f0_c2 := f0.2.2); (first | have f3_b := f3 (by clear f0_c2 f0 hK_0_160 f3; omega) | skip); (first | have f3_d := f3 (by with_reducible assumption) | skip); (first | have f0_q := tk_nx0 f0 (by clear f0_c2 f0 hK_0_160 f3; omega) | skip); (try and_intros) <;> first | with_reducible assumption | (clear f0_c2 f0 hK_0_160 f3; omega)) | omega
set_option maxHeartbeats 4000000 in
theorem vc_Mo_product_at_f0_0_1 (x1 : Int) (x2 : Int) (x3 : Int) (tokenKind_0 : Int → Int) (cur_0 : Int) (tokens_0 : Int) (styleKind_0 : Int) (styleOne_0 : Int) (opened_0 : Int) (fault_0 : Int) (gx : Int) (gy : Int) (gu : Int) (k1 : 0 ≤ x1 ∧ x1 ≤ 2009) (k2 : 0 ≤ x2 ∧ x2 ≤ 5) (k3 : 0 ≤ x3 ∧ x3 ≤ 13) (f0 : ((cur_0 + 1) ≤ tokens_0) ∧ ((tokens_0 ≤ 2010) ∧ ((tokenKind_0 ((tokens_0 - 1)) = 0) ∨ (tokenKind_0 ((tokens_0 - 1)) = 4)))) (f1 : 1 * cur_0 + ((-1) * x1 + 0) ≤ 0) (f2 : (-1) * cur_0 + (1 * x1 + 0) ≤ 0) (f3 : (styleKind_0 = 0) → (styleOne_0 ≤ 23)) (f4 : 1 * opened_0 + 0 ≤ 0) (f5 : (-1) * opened_0 + 0 ≤ 0) (f6 : fault_0 = x2) (f7 : opened_0 = x3) (hK_0_160 : ∀ j : Int, 0 ≤ j → j < 2010 → 0 ≤ tokenKind_0 j ∧ tokenKind_0 j ≤ 4) (kz_0_8 : 0 ≤ fault_0 ∧ fault_0 ≤ 5) (kz_0_157 : 0 ≤ tokens_0 ∧ tokens_0 ≤ 2010) (kz_0_158 : 0 ≤ cur_0 ∧ cur_0 ≤ 2009) (kz_0_159 : 0 ≤ opened_0 ∧ opened_0 ≤ 13) (kz_0_164 : 0 ≤ styleKind_0 ∧ styleKind_0 ≤ 1) (kz_0_165 : (-1) ≤ styleOne_0 ∧ styleOne_0 ≤ 47) (ex2 : gx = cur_0) (ex3 : 0 ≤ gx ∧ gx ≤ 2009) (ey2 : gy = fault_0) (ey3 : 0 ≤ gy ∧ gy ≤ 5) (eu2 : gu = opened_0) (eu3 : 0 ≤ gu ∧ gu ≤ 13) : (-1) * x3 + 0 ≤ 0 := by
  first | with_reducible assumption | ((have f0_c0 := f0.1); (have f0_c1 := f0.2.1); (have f0_c2 := f0.2.2); (try and_intros) <;> first | with_reducible assumption | (clear f0_c2 f0 hK_0_160 f3; omega)) | ((have f0_c0 := f0.1); (have f0_c1 := f0.2.1); (have f0_c2 := f0.2.2); (first | have f3_b := f3 (by clear f0_c2 f0 hK_0_160 f3; omega) | skip); (first | have f3_d := f3 (by with_reducible assumption) | skip); (try and_intros) <;> first | with_reducible assumption | (clear f0_c2 f0 hK_0_160 f3; omega)) | ((have f0_c0 := f0.1); (have f0_c1 := f0.2.1); (have f0_c2 := f0.2.2); (first | have f3_b := f3 (by clear f0_c2 f0 hK_0_160 f3; omega) | skip); (first | have f3_d := f3 (by with_reducible assumption) | skip); (first | have f0_q := tk_nx0 f0 (by clear f0_c2 f0 hK_0_160 f3; omega) | skip); (try and_intros) <;> first | with_reducible assumption | (clear f0_c2 f0 hK_0_160 f3; omega)) | omega
set_option maxHeartbeats 4000000 in
theorem vc_Mo_product_at_f0_0_2 (x1 : Int) (x2 : Int) (x3 : Int) (tokenKind_0 : Int → Int) (cur_0 : Int) (tokens_0 : Int) (styleKind_0 : Int) (styleOne_0 : Int) (opened_0 : Int) (fault_0 : Int) (gx : Int) (gy : Int) (gu : Int) (k1 : 0 ≤ x1 ∧ x1 ≤ 2009) (k2 : 0 ≤ x2 ∧ x2 ≤ 5) (k3 : 0 ≤ x3 ∧ x3 ≤ 13) (f0 : ((cur_0 + 1) ≤ tokens_0) ∧ ((tokens_0 ≤ 2010) ∧ ((tokenKind_0 ((tokens_0 - 1)) = 0) ∨ (tokenKind_0 ((tokens_0 - 1)) = 4)))) (f1 : 1 * cur_0 + ((-1) * x1 + 0) ≤ 0) (f2 : (-1) * cur_0 + (1 * x1 + 0) ≤ 0) (f3 : (styleKind_0 = 0) → (styleOne_0 ≤ 23)) (f4 : 1 * opened_0 + 0 ≤ 0) (f5 : (-1) * opened_0 + 0 ≤ 0) (f6 : fault_0 = x2) (f7 : opened_0 = x3) (hK_0_160 : ∀ j : Int, 0 ≤ j → j < 2010 → 0 ≤ tokenKind_0 j ∧ tokenKind_0 j ≤ 4) (kz_0_8 : 0 ≤ fault_0 ∧ fault_0 ≤ 5) (kz_0_157 : 0 ≤ tokens_0 ∧ tokens_0 ≤ 2010) (kz_0_158 : 0 ≤ cur_0 ∧ cur_0 ≤ 2009) (kz_0_159 : 0 ≤ opened_0 ∧ opened_0 ≤ 13) (kz_0_164 : 0 ≤ styleKind_0 ∧ styleKind_0 ≤ 1) (kz_0_165 : (-1) ≤ styleOne_0 ∧ styleOne_0 ≤ 47) (ex2 : gx = cur_0) (ex3 : 0 ≤ gx ∧ gx ≤ 2009) (ey2 : gy = fault_0) (ey3 : 0 ≤ gy ∧ gy ≤ 5) (eu2 : gu = opened_0) (eu3 : 0 ≤ gu ∧ gu ≤ 13) : ((cur_0 + 1) ≤ tokens_0) ∧ ((tokens_0 ≤ 2010) ∧ ((tokenKind_0 ((tokens_0 - 1)) = 0) ∨ (tokenKind_0 ((tokens_0 - 1)) = 4))) := by
  first | with_reducible assumption | ((have f0_c0 := f0.1); (have f0_c1 := f0.2.1); (have f0_c2 := f0.2.2); (try and_intros) <;> first | with_reducible assumption | (clear f0_c2 f0 hK_0_160 f3; omega)) | ((have f0_c0 := f0.1); (have f0_c1 := f0.2.1); (have f0_c2 := f0.2.2); (first | have f3_b := f3 (by clear f0_c2 f0 hK_0_160 f3; omega) | skip); (first | have f3_d := f3 (by with_reducible assumption) | skip); (try and_intros) <;> first | with_reducible assumption | (clear f0_c2 f0 hK_0_160 f3; omega)) | ((have f0_c0 := f0.1); (have f0_c1 := f0.2.1); (have f0_c2 := f0.2.2); (first | have f3_b := f3 (by clear f0_c2 f0 hK_0_160 f3; omega) | skip); (first | have f3_d := f3 (by with_reducible assumption) | skip); (first | have f0_q := tk_nx0 f0 (by clear f0_c2 f0 hK_0_160 f3; omega) | skip); (try and_intros) <;> first | with_reducible assumption | (clear f0_c2 f0 hK_0_160 f3; omega)) | omega
set_option maxHeartbeats 4000000 in
theorem vc_Mo_product_at_f0_0_3 (x1 : Int) (x2 : Int) (x3 : Int) (tokenKind_0 : Int → Int) (cur_0 : Int) (tokens_0 : Int) (styleKind_0 : Int) (styleOne_0 : Int) (opened_0 : Int) (fault_0 : Int) (gx : Int) (gy : Int) (gu : Int) (k1 : 0 ≤ x1 ∧ x1 ≤ 2009) (k2 : 0 ≤ x2 ∧ x2 ≤ 5) (k3 : 0 ≤ x3 ∧ x3 ≤ 13) (f0 : ((cur_0 + 1) ≤ tokens_0) ∧ ((tokens_0 ≤ 2010) ∧ ((tokenKind_0 ((tokens_0 - 1)) = 0) ∨ (tokenKind_0 ((tokens_0 - 1)) = 4)))) (f1 : 1 * cur_0 + ((-1) * x1 + 0) ≤ 0) (f2 : (-1) * cur_0 + (1 * x1 + 0) ≤ 0) (f3 : (styleKind_0 = 0) → (styleOne_0 ≤ 23)) (f4 : 1 * opened_0 + 0 ≤ 0) (f5 : (-1) * opened_0 + 0 ≤ 0) (f6 : fault_0 = x2) (f7 : opened_0 = x3) (hK_0_160 : ∀ j : Int, 0 ≤ j → j < 2010 → 0 ≤ tokenKind_0 j ∧ tokenKind_0 j ≤ 4) (kz_0_8 : 0 ≤ fault_0 ∧ fault_0 ≤ 5) (kz_0_157 : 0 ≤ tokens_0 ∧ tokens_0 ≤ 2010) (kz_0_158 : 0 ≤ cur_0 ∧ cur_0 ≤ 2009) (kz_0_159 : 0 ≤ opened_0 ∧ opened_0 ≤ 13) (kz_0_164 : 0 ≤ styleKind_0 ∧ styleKind_0 ≤ 1) (kz_0_165 : (-1) ≤ styleOne_0 ∧ styleOne_0 ≤ 47) (ex2 : gx = cur_0) (ex3 : 0 ≤ gx ∧ gx ≤ 2009) (ey2 : gy = fault_0) (ey3 : 0 ≤ gy ∧ gy ≤ 5) (eu2 : gu = opened_0) (eu3 : 0 ≤ gu ∧ gu ≤ 13) : 1 * cur_0 + ((-1) * gx + 0) ≤ 0 := by
  first | with_reducible assumption | ((have f0_c0 := f0.1); (have f0_c1 := f0.2.1); (have f0_c2 := f0.2.2); (try and_intros) <;> first | with_reducible assumption | (clear f0_c2 f0 hK_0_160 f3; omega)) | ((have f0_c0 := f0.1); (have f0_c1 := f0.2.1); (have f0_c2 := f0.2.2); (first | have f3_b := f3 (by clear f0_c2 f0 hK_0_160 f3; omega) | skip); (first | have f3_d := f3 (by with_reducible assumption) | skip); (try and_intros) <;> first | with_reducible assumption | (clear f0_c2 f0 hK_0_160 f3; omega)) | ((have f0_c0 := f0.1); (have f0_c1 := f0.2.1); (have f0_c2 := f0.2.2); (first | have f3_b := f3 (by clear f0_c2 f0 hK_0_160 f3; omega) | skip); (first | have f3_d := f3 (by with_reducible assumption) | skip); (first | have f0_q := tk_nx0 f0 (by clear f0_c2 f0 hK_0_160 f3; omega) | skip); (try and_intros) <;> first | with_reducible assumption | (clear f0_c2 f0 hK_0_160 f3; omega)) | omega
set_option maxHeartbeats 4000000 in
theorem vc_Mo_product_at_f0_0_4 (x1 : Int) (x2 : Int) (x3 : Int) (tokenKind_0 : Int → Int) (cur_0 : Int) (tokens_0 : Int) (styleKind_0 : Int) (styleOne_0 : Int) (opened_0 : Int) (fault_0 : Int) (gx : Int) (gy : Int) (gu : Int) (k1 : 0 ≤ x1 ∧ x1 ≤ 2009) (k2 : 0 ≤ x2 ∧ x2 ≤ 5) (k3 : 0 ≤ x3 ∧ x3 ≤ 13) (f0 : ((cur_0 + 1) ≤ tokens_0) ∧ ((tokens_0 ≤ 2010) ∧ ((tokenKind_0 ((tokens_0 - 1)) = 0) ∨ (tokenKind_0 ((tokens_0 - 1)) = 4)))) (f1 : 1 * cur_0 + ((-1) * x1 + 0) ≤ 0) (f2 : (-1) * cur_0 + (1 * x1 + 0) ≤ 0) (f3 : (styleKind_0 = 0) → (styleOne_0 ≤ 23)) (f4 : 1 * opened_0 + 0 ≤ 0) (f5 : (-1) * opened_0 + 0 ≤ 0) (f6 : fault_0 = x2) (f7 : opened_0 = x3) (hK_0_160 : ∀ j : Int, 0 ≤ j → j < 2010 → 0 ≤ tokenKind_0 j ∧ tokenKind_0 j ≤ 4) (kz_0_8 : 0 ≤ fault_0 ∧ fault_0 ≤ 5) (kz_0_157 : 0 ≤ tokens_0 ∧ tokens_0 ≤ 2010) (kz_0_158 : 0 ≤ cur_0 ∧ cur_0 ≤ 2009) (kz_0_159 : 0 ≤ opened_0 ∧ opened_0 ≤ 13) (kz_0_164 : 0 ≤ styleKind_0 ∧ styleKind_0 ≤ 1) (kz_0_165 : (-1) ≤ styleOne_0 ∧ styleOne_0 ≤ 47) (ex2 : gx = cur_0) (ex3 : 0 ≤ gx ∧ gx ≤ 2009) (ey2 : gy = fault_0) (ey3 : 0 ≤ gy ∧ gy ≤ 5) (eu2 : gu = opened_0) (eu3 : 0 ≤ gu ∧ gu ≤ 13) : (-1) * cur_0 + (1 * gx + 0) ≤ 0 := by
  first | with_reducible assumption | ((have f0_c0 := f0.1); (have f0_c1 := f0.2.1); (have f0_c2 := f0.2.2); (try and_intros) <;> first | with_reducible assumption | (clear f0_c2 f0 hK_0_160 f3; omega)) | ((have f0_c0 := f0.1); (have f0_c1 := f0.2.1); (have f0_c2 := f0.2.2); (first | have f3_b := f3 (by clear f0_c2 f0 hK_0_160 f3; omega) | skip); (first | have f3_d := f3 (by with_reducible assumption) | skip); (try and_intros) <;> first | with_reducible assumption | (clear f0_c2 f0 hK_0_160 f3; omega)) | ((have f0_c0 := f0.1); (have f0_c1 := f0.2.1); (have f0_c2 := f0.2.2); (first | have f3_b := f3 (by clear f0_c2 f0 hK_0_160 f3; omega) | skip); (first | have f3_d := f3 (by with_reducible assumption) | skip); (first | have f0_q := tk_nx0 f0 (by clear f0_c2 f0 hK_0_160 f3; omega) | skip); (try and_intros) <;> first | with_reducible assumption | (clear f0_c2 f0 hK_0_160 f3; omega)) | omega
set_option maxHeartbeats 4000000 in
theorem vc_Mo_product_at_f0_0_5 (x1 : Int) (x2 : Int) (x3 : Int) (tokenKind_0 : Int → Int) (cur_0 : Int) (tokens_0 : Int) (styleKind_0 : Int) (styleOne_0 : Int) (opened_0 : Int) (fault_0 : Int) (gx : Int) (gy : Int) (gu : Int) (k1 : 0 ≤ x1 ∧ x1 ≤ 2009) (k2 : 0 ≤ x2 ∧ x2 ≤ 5) (k3 : 0 ≤ x3 ∧ x3 ≤ 13) (f0 : ((cur_0 + 1) ≤ tokens_0) ∧ ((tokens_0 ≤ 2010) ∧ ((tokenKind_0 ((tokens_0 - 1)) = 0) ∨ (tokenKind_0 ((tokens_0 - 1)) = 4)))) (f1 : 1 * cur_0 + ((-1) * x1 + 0) ≤ 0) (f2 : (-1) * cur_0 + (1 * x1 + 0) ≤ 0) (f3 : (styleKind_0 = 0) → (styleOne_0 ≤ 23)) (f4 : 1 * opened_0 + 0 ≤ 0) (f5 : (-1) * opened_0 + 0 ≤ 0) (f6 : fault_0 = x2) (f7 : opened_0 = x3) (hK_0_160 : ∀ j : Int, 0 ≤ j → j < 2010 → 0 ≤ tokenKind_0 j ∧ tokenKind_0 j ≤ 4) (kz_0_8 : 0 ≤ fault_0 ∧ fault_0 ≤ 5) (kz_0_157 : 0 ≤ tokens_0 ∧ tokens_0 ≤ 2010) (kz_0_158 : 0 ≤ cur_0 ∧ cur_0 ≤ 2009) (kz_0_159 : 0 ≤ opened_0 ∧ opened_0 ≤ 13) (kz_0_164 : 0 ≤ styleKind_0 ∧ styleKind_0 ≤ 1) (kz_0_165 : (-1) ≤ styleOne_0 ∧ styleOne_0 ≤ 47) (ex2 : gx = cur_0) (ex3 : 0 ≤ gx ∧ gx ≤ 2009) (ey2 : gy = fault_0) (ey3 : 0 ≤ gy ∧ gy ≤ 5) (eu2 : gu = opened_0) (eu3 : 0 ≤ gu ∧ gu ≤ 13) : (styleKind_0 = 0) → (styleOne_0 ≤ 23) := by
  first | with_reducible assumption | ((have f0_c0 := f0.1); (have f0_c1 := f0.2.1); (have f0_c2 := f0.2.2); (try and_intros) <;> first | with_reducible assumption | (clear f0_c2 f0 hK_0_160 f3; omega)) | ((have f0_c0 := f0.1); (have f0_c1 := f0.2.1); (have f0_c2 := f0.2.2); (first | have f3_b := f3 (by clear f0_c2 f0 hK_0_160 f3; omega) | skip); (first | have f3_d := f3 (by with_reducible assumption) | skip); (try and_intros) <;> first | with_reducible assumption | (clear f0_c2 f0 hK_0_160 f3; omega)) | ((have f0_c0 := f0.1); (have f0_c1 := f0.2.1); (have f0_c2 := f0.2.2); (first | have f3_b := f3 (by clear f0_c2 f0 hK_0_160 f3; omega) | skip); (first | have f3_d := f3 (by with_reducible assumption) | skip); (first | have f0_q := tk_nx0 f0 (by clear f0_c2 f0 hK_0_160 f3; omega) | skip); (try and_intros) <;> first | with_reducible assumption | (clear f0_c2 f0 hK_0_160 f3; omega)) | (intro hG; (first | have f3_g := f3 hG | skip); (have f0_c0 := f0.1); (have f0_c1 := f0.2.1); (have f0_c2 := f0.2.2); (first | have f3_b := f3 (by clear f0_c2 f0 hK_0_160 f3; omega) | skip); (try and_intros) <;> first | with_reducible assumption | (clear f0_c2 f0 hK_0_160 f3 hG; omega)) | omega
set_option maxHeartbeats 4000000 in
theorem vc_Mo_product_at_f0_0_6 (x1 : Int) (x2 : Int) (x3 : Int) (tokenKind_0 : Int → Int) (cur_0 : Int) (tokens_0 : Int) (styleKind_0 : Int) (styleOne_0 : Int) (opened_0 : Int) (fault_0 : Int) (gx : Int) (gy : Int) (gu : Int) (k1 : 0 ≤ x1 ∧ x1 ≤ 2009) (k2 : 0 ≤ x2 ∧ x2 ≤ 5) (k3 : 0 ≤ x3 ∧ x3 ≤ 13) (f0 : ((cur_0 + 1) ≤ tokens_0) ∧ ((tokens_0 ≤ 2010) ∧ ((tokenKind_0 ((tokens_0 - 1)) = 0) ∨ (tokenKind_0 ((tokens_0 - 1)) = 4)))) (f1 : 1 * cur_0 + ((-1) * x1 + 0) ≤ 0) (f2 : (-1) * cur_0 + (1 * x1 + 0) ≤ 0) (f3 : (styleKind_0 = 0) → (styleOne_0 ≤ 23)) (f4 : 1 * opened_0 + 0 ≤ 0) (f5 : (-1) * opened_0 + 0 ≤ 0) (f6 : fault_0 = x2) (f7 : opened_0 = x3) (hK_0_160 : ∀ j : Int, 0 ≤ j → j < 2010 → 0 ≤ tokenKind_0 j ∧ tokenKind_0 j ≤ 4) (kz_0_8 : 0 ≤ fault_0 ∧ fault_0 ≤ 5) (kz_0_157 : 0 ≤ tokens_0 ∧ tokens_0 ≤ 2010) (kz_0_158 : 0 ≤ cur_0 ∧ cur_0 ≤ 2009) (kz_0_159 : 0 ≤ opened_0 ∧ opened_0 ≤ 13) (kz_0_164 : 0 ≤ styleKind_0 ∧ styleKind_0 ≤ 1) (kz_0_165 : (-1) ≤ styleOne_0 ∧ styleOne_0 ≤ 47) (ex2 : gx = cur_0) (ex3 : 0 ≤ gx ∧ gx ≤ 2009) (ey2 : gy = fault_0) (ey3 : 0 ≤ gy ∧ gy ≤ 5) (eu2 : gu = opened_0) (eu3 : 0 ≤ gu ∧ gu ≤ 13) : 1 * opened_0 + 0 ≤ 0 := by
  first | with_reducible assumption | ((have f0_c0 := f0.1); (have f0_c1 := f0.2.1); (have f0_c2 := f0.2.2); (try and_intros) <;> first | with_reducible assumption | (clear f0_c2 f0 hK_0_160 f3; omega)) | ((have f0_c0 := f0.1); (have f0_c1 := f0.2.1); (have f0_c2 := f0.2.2); (first | have f3_b := f3 (by clear f0_c2 f0 hK_0_160 f3; omega) | skip); (first | have f3_d := f3 (by with_reducible assumption) | skip); (try and_intros) <;> first | with_reducible assumption | (clear f0_c2 f0 hK_0_160 f3; omega)) | ((have f0_c0 := f0.1); (have f0_c1 := f0.2.1); (have f0_c2 := f0.2.2); (first | have f3_b := f3 (by clear f0_c2 f0 hK_0_160 f3; omega) | skip); (first | have f3_d := f3 (by with_reducible assumption) | skip); (first | have f0_q := tk_nx0 f0 (by clear f0_c2 f0 hK_0_160 f3; omega) | skip); (try and_intros) <;> first | with_reducible assumption | (clear f0_c2 f0 hK_0_160 f3; omega)) | omega
set_option maxHeartbeats 4000000 in
theorem vc_Mo_product_at_f0_0_7 (x1 : Int) (x2 : Int) (x3 : Int) (tokenKind_0 : Int → Int) (cur_0 : Int) (tokens_0 : Int) (styleKind_0 : Int) (styleOne_0 : Int) (opened_0 : Int) (fault_0 : Int) (gx : Int) (gy : Int) (gu : Int) (k1 : 0 ≤ x1 ∧ x1 ≤ 2009) (k2 : 0 ≤ x2 ∧ x2 ≤ 5) (k3 : 0 ≤ x3 ∧ x3 ≤ 13) (f0 : ((cur_0 + 1) ≤ tokens_0) ∧ ((tokens_0 ≤ 2010) ∧ ((tokenKind_0 ((tokens_0 - 1)) = 0) ∨ (tokenKind_0 ((tokens_0 - 1)) = 4)))) (f1 : 1 * cur_0 + ((-1) * x1 + 0) ≤ 0) (f2 : (-1) * cur_0 + (1 * x1 + 0) ≤ 0) (f3 : (styleKind_0 = 0) → (styleOne_0 ≤ 23)) (f4 : 1 * opened_0 + 0 ≤ 0) (f5 : (-1) * opened_0 + 0 ≤ 0) (f6 : fault_0 = x2) (f7 : opened_0 = x3) (hK_0_160 : ∀ j : Int, 0 ≤ j → j < 2010 → 0 ≤ tokenKind_0 j ∧ tokenKind_0 j ≤ 4) (kz_0_8 : 0 ≤ fault_0 ∧ fault_0 ≤ 5) (kz_0_157 : 0 ≤ tokens_0 ∧ tokens_0 ≤ 2010) (kz_0_158 : 0 ≤ cur_0 ∧ cur_0 ≤ 2009) (kz_0_159 : 0 ≤ opened_0 ∧ opened_0 ≤ 13) (kz_0_164 : 0 ≤ styleKind_0 ∧ styleKind_0 ≤ 1) (kz_0_165 : (-1) ≤ styleOne_0 ∧ styleOne_0 ≤ 47) (ex2 : gx = cur_0) (ex3 : 0 ≤ gx ∧ gx ≤ 2009) (ey2 : gy = fault_0) (ey3 : 0 ≤ gy ∧ gy ≤ 5) (eu2 : gu = opened_0) (eu3 : 0 ≤ gu ∧ gu ≤ 13) : (-1) * opened_0 + 0 ≤ 0 := by
  first | with_reducible assumption | ((have f0_c0 := f0.1); (have f0_c1 := f0.2.1); (have f0_c2 := f0.2.2); (try and_intros) <;> first | with_reducible assumption | (clear f0_c2 f0 hK_0_160 f3; omega)) | ((have f0_c0 := f0.1); (have f0_c1 := f0.2.1); (have f0_c2 := f0.2.2); (first | have f3_b := f3 (by clear f0_c2 f0 hK_0_160 f3; omega) | skip); (first | have f3_d := f3 (by with_reducible assumption) | skip); (try and_intros) <;> first | with_reducible assumption | (clear f0_c2 f0 hK_0_160 f3; omega)) | ((have f0_c0 := f0.1); (have f0_c1 := f0.2.1); (have f0_c2 := f0.2.2); (first | have f3_b := f3 (by clear f0_c2 f0 hK_0_160 f3; omega) | skip); (first | have f3_d := f3 (by with_reducible assumption) | skip); (first | have f0_q := tk_nx0 f0 (by clear f0_c2 f0 hK_0_160 f3; omega) | skip); (try and_intros) <;> first | with_reducible assumption | (clear f0_c2 f0 hK_0_160 f3; omega)) | omega
set_option maxHeartbeats 4000000 in
theorem vc_Mo_product_at_f0_0_8 (x1 : Int) (x2 : Int) (x3 : Int) (tokenKind_0 : Int → Int) (cur_0 : Int) (tokens_0 : Int) (styleKind_0 : Int) (styleOne_0 : Int) (opened_0 : Int) (fault_0 : Int) (gx : Int) (gy : Int) (gu : Int) (k1 : 0 ≤ x1 ∧ x1 ≤ 2009) (k2 : 0 ≤ x2 ∧ x2 ≤ 5) (k3 : 0 ≤ x3 ∧ x3 ≤ 13) (f0 : ((cur_0 + 1) ≤ tokens_0) ∧ ((tokens_0 ≤ 2010) ∧ ((tokenKind_0 ((tokens_0 - 1)) = 0) ∨ (tokenKind_0 ((tokens_0 - 1)) = 4)))) (f1 : 1 * cur_0 + ((-1) * x1 + 0) ≤ 0) (f2 : (-1) * cur_0 + (1 * x1 + 0) ≤ 0) (f3 : (styleKind_0 = 0) → (styleOne_0 ≤ 23)) (f4 : 1 * opened_0 + 0 ≤ 0) (f5 : (-1) * opened_0 + 0 ≤ 0) (f6 : fault_0 = x2) (f7 : opened_0 = x3) (hK_0_160 : ∀ j : Int, 0 ≤ j → j < 2010 → 0 ≤ tokenKind_0 j ∧ tokenKind_0 j ≤ 4) (kz_0_8 : 0 ≤ fault_0 ∧ fault_0 ≤ 5) (kz_0_157 : 0 ≤ tokens_0 ∧ tokens_0 ≤ 2010) (kz_0_158 : 0 ≤ cur_0 ∧ cur_0 ≤ 2009) (kz_0_159 : 0 ≤ opened_0 ∧ opened_0 ≤ 13) (kz_0_164 : 0 ≤ styleKind_0 ∧ styleKind_0 ≤ 1) (kz_0_165 : (-1) ≤ styleOne_0 ∧ styleOne_0 ≤ 47) (ex2 : gx = cur_0) (ex3 : 0 ≤ gx ∧ gx ≤ 2009) (ey2 : gy = fault_0) (ey3 : 0 ≤ gy ∧ gy ≤ 5) (eu2 : gu = opened_0) (eu3 : 0 ≤ gu ∧ gu ≤ 13) : fault_0 = gy := by
  first | with_reducible assumption | ((have f0_c0 := f0.1); (have f0_c1 := f0.2.1); (have f0_c2 := f0.2.2); (try and_intros) <;> first | with_reducible assumption | (clear f0_c2 f0 hK_0_160 f3; omega)) | ((have f0_c0 := f0.1); (have f0_c1 := f0.2.1); (have f0_c2 := f0.2.2); (first | have f3_b := f3 (by clear f0_c2 f0 hK_0_160 f3; omega) | skip); (first | have f3_d := f3 (by with_reducible assumption) | skip); (try and_intros) <;> first | with_reducible assumption | (clear f0_c2 f0 hK_0_160 f3; omega)) | ((have f0_c0 := f0.1); (have f0_c1 := f0.2.1); (have f0_c2 := f0.2.2); (first | have f3_b := f3 (by clear f0_c2 f0 hK_0_160 f3; omega) | skip); (first | have f3_d := f3 (by with_reducible assumption) | skip); (first | have f0_q := tk_nx0 f0 (by clear f0_c2 f0 hK_0_160 f3; omega) | skip); (try and_intros) <;> first | with_reducible assumption | (clear f0_c2 f0 hK_0_160 f3; omega)) | omega
set_option maxHeartbeats 4000000 in
theorem vc_Mo_product_at_f0_0_9 (x1 : Int) (x2 : Int) (x3 : Int) (tokenKind_0 : Int → Int) (cur_0 : Int) (tokens_0 : Int) (styleKind_0 : Int) (styleOne_0 : Int) (opened_0 : Int) (fault_0 : Int) (gx : Int) (gy : Int) (gu : Int) (k1 : 0 ≤ x1 ∧ x1 ≤ 2009) (k2 : 0 ≤ x2 ∧ x2 ≤ 5) (k3 : 0 ≤ x3 ∧ x3 ≤ 13) (f0 : ((cur_0 + 1) ≤ tokens_0) ∧ ((tokens_0 ≤ 2010) ∧ ((tokenKind_0 ((tokens_0 - 1)) = 0) ∨ (tokenKind_0 ((tokens_0 - 1)) = 4)))) (f1 : 1 * cur_0 + ((-1) * x1 + 0) ≤ 0) (f2 : (-1) * cur_0 + (1 * x1 + 0) ≤ 0) (f3 : (styleKind_0 = 0) → (styleOne_0 ≤ 23)) (f4 : 1 * opened_0 + 0 ≤ 0) (f5 : (-1) * opened_0 + 0 ≤ 0) (f6 : fault_0 = x2) (f7 : opened_0 = x3) (hK_0_160 : ∀ j : Int, 0 ≤ j → j < 2010 → 0 ≤ tokenKind_0 j ∧ tokenKind_0 j ≤ 4) (kz_0_8 : 0 ≤ fault_0 ∧ fault_0 ≤ 5) (kz_0_157 : 0 ≤ tokens_0 ∧ tokens_0 ≤ 2010) (kz_0_158 : 0 ≤ cur_0 ∧ cur_0 ≤ 2009) (kz_0_159 : 0 ≤ opened_0 ∧ opened_0 ≤ 13) (kz_0_164 : 0 ≤ styleKind_0 ∧ styleKind_0 ≤ 1) (kz_0_165 : (-1) ≤ styleOne_0 ∧ styleOne_0 ≤ 47) (ex2 : gx = cur_0) (ex3 : 0 ≤ gx ∧ gx ≤ 2009) (ey2 : gy = fault_0) (ey3 : 0 ≤ gy ∧ gy ≤ 5) (eu2 : gu = opened_0) (eu3 : 0 ≤ gu ∧ gu ≤ 13) : opened_0 = gu := by
  first | with_reducible assumption | ((have f0_c0 := f0.1); (have f0_c1 := f0.2.1); (have f0_c2 := f0.2.2); (try and_intros) <;> first | with_reducible assumption | (clear f0_c2 f0 hK_0_160 f3; omega)) | ((have f0_c0 := f0.1); (have f0_c1 := f0.2.1); (have f0_c2 := f0.2.2); (first | have f3_b := f3 (by clear f0_c2 f0 hK_0_160 f3; omega) | skip); (first | have f3_d := f3 (by with_reducible assumption) | skip); (try and_intros) <;> first | with_reducible assumption | (clear f0_c2 f0 hK_0_160 f3; omega)) | ((have f0_c0 := f0.1); (have f0_c1 := f0.2.1); (have f0_c2 := f0.2.2); (first | have f3_b := f3 (by clear f0_c2 f0 hK_0_160 f3; omega) | skip); (first | have f3_d := f3 (by with_reducible assumption) | skip); (first | have f0_q := tk_nx0 f0 (by clear f0_c2 f0 hK_0_160 f3; omega) | skip); (try and_intros) <;> first | with_reducible assumption | (clear f0_c2 f0 hK_0_160 f3; omega)) | omega
set_option maxHeartbeats 4000000 in
theorem vc_Mo_product_at_f0_0_10 (x1 : Int) (x2 : Int) (x3 : Int) (tokenKind_0 : Int → Int) (cur_0 : Int) (tokens_0 : Int) (styleKind_0 : Int) (styleOne_0 : Int) (opened_0 : Int) (fault_0 : Int) (gx : Int) (gy : Int) (gu : Int) (k1 : 0 ≤ x1 ∧ x1 ≤ 2009) (k2 : 0 ≤ x2 ∧ x2 ≤ 5) (k3 : 0 ≤ x3 ∧ x3 ≤ 13) (f0 : ((cur_0 + 1) ≤ tokens_0) ∧ ((tokens_0 ≤ 2010) ∧ ((tokenKind_0 ((tokens_0 - 1)) = 0) ∨ (tokenKind_0 ((tokens_0 - 1)) = 4)))) (f1 : 1 * cur_0 + ((-1) * x1 + 0) ≤ 0) (f2 : (-1) * cur_0 + (1 * x1 + 0) ≤ 0) (f3 : (styleKind_0 = 0) → (styleOne_0 ≤ 23)) (f4 : 1 * opened_0 + 0 ≤ 0) (f5 : (-1) * opened_0 + 0 ≤ 0) (f6 : fault_0 = x2) (f7 : opened_0 = x3) (hK_0_160 : ∀ j : Int, 0 ≤ j → j < 2010 → 0 ≤ tokenKind_0 j ∧ tokenKind_0 j ≤ 4) (kz_0_8 : 0 ≤ fault_0 ∧ fault_0 ≤ 5) (kz_0_157 : 0 ≤ tokens_0 ∧ tokens_0 ≤ 2010) (kz_0_158 : 0 ≤ cur_0 ∧ cur_0 ≤ 2009) (kz_0_159 : 0 ≤ opened_0 ∧ opened_0 ≤ 13) (kz_0_164 : 0 ≤ styleKind_0 ∧ styleKind_0 ≤ 1) (kz_0_165 : (-1) ≤ styleOne_0 ∧ styleOne_0 ≤ 47) (ex2 : gx = cur_0) (ex3 : 0 ≤ gx ∧ gx ≤ 2009) (ey2 : gy = fault_0) (ey3 : 0 ≤ gy ∧ gy ≤ 5) (eu2 : gu = opened_0) (eu3 : 0 ≤ gu ∧ gu ≤ 13) : 1 * x1 + ((-1) * gx + 0) ≤ 0 := by
  first | with_reducible assumption | ((have f0_c0 := f0.1); (have f0_c1 := f0.2.1); (have f0_c2 := f0.2.2); (try and_intros) <;> first | with_reducible assumption | (clear f0_c2 f0 hK_0_160 f3; omega)) | ((have f0_c0 := f0.1); (have f0_c1 := f0.2.1); (have f0_c2 := f0.2.2); (first | have f3_b := f3 (by clear f0_c2 f0 hK_0_160 f3; omega) | skip); (first | have f3_d := f3 (by with_reducible assumption) | skip); (try and_intros) <;> first | with_reducible assumption | (clear f0_c2 f0 hK_0_160 f3; omega)) | ((have f0_c0 := f0.1); (have f0_c1 := f0.2.1); (have f0_c2 := f0.2.2); (first | have f3_b := f3 (by clear f0_c2 f0 hK_0_160 f3; omega) | skip); (first | have f3_d := f3 (by with_reducible assumption) | skip); (first | have f0_q := tk_nx0 f0 (by clear f0_c2 f0 hK_0_160 f3; omega) | skip); (try and_intros) <;> first | with_reducible assumption | (clear f0_c2 f0 hK_0_160 f3; omega)) | omega
set_option maxHeartbeats 4000000 in
theorem vc_Mo_product_at_f0_0_11 (x1 : Int) (x2 : Int) (x3 : Int) (tokenKind_0 : Int → Int) (cur_0 : Int) (tokens_0 : Int) (styleKind_0 : Int) (styleOne_0 : Int) (opened_0 : Int) (fault_0 : Int) (gx : Int) (gy : Int) (gu : Int) (k1 : 0 ≤ x1 ∧ x1 ≤ 2009) (k2 : 0 ≤ x2 ∧ x2 ≤ 5) (k3 : 0 ≤ x3 ∧ x3 ≤ 13) (f0 : ((cur_0 + 1) ≤ tokens_0) ∧ ((tokens_0 ≤ 2010) ∧ ((tokenKind_0 ((tokens_0 - 1)) = 0) ∨ (tokenKind_0 ((tokens_0 - 1)) = 4)))) (f1 : 1 * cur_0 + ((-1) * x1 + 0) ≤ 0) (f2 : (-1) * cur_0 + (1 * x1 + 0) ≤ 0) (f3 : (styleKind_0 = 0) → (styleOne_0 ≤ 23)) (f4 : 1 * opened_0 + 0 ≤ 0) (f5 : (-1) * opened_0 + 0 ≤ 0) (f6 : fault_0 = x2) (f7 : opened_0 = x3) (hK_0_160 : ∀ j : Int, 0 ≤ j → j < 2010 → 0 ≤ tokenKind_0 j ∧ tokenKind_0 j ≤ 4) (kz_0_8 : 0 ≤ fault_0 ∧ fault_0 ≤ 5) (kz_0_157 : 0 ≤ tokens_0 ∧ tokens_0 ≤ 2010) (kz_0_158 : 0 ≤ cur_0 ∧ cur_0 ≤ 2009) (kz_0_159 : 0 ≤ opened_0 ∧ opened_0 ≤ 13) (kz_0_164 : 0 ≤ styleKind_0 ∧ styleKind_0 ≤ 1) (kz_0_165 : (-1) ≤ styleOne_0 ∧ styleOne_0 ≤ 47) (ex2 : gx = cur_0) (ex3 : 0 ≤ gx ∧ gx ≤ 2009) (ey2 : gy = fault_0) (ey3 : 0 ≤ gy ∧ gy ≤ 5) (eu2 : gu = opened_0) (eu3 : 0 ≤ gu ∧ gu ≤ 13) : gx = x1 := by
  first | with_reducible assumption | ((have f0_c0 := f0.1); (have f0_c1 := f0.2.1); (have f0_c2 := f0.2.2); (try and_intros) <;> first | with_reducible assumption | (clear f0_c2 f0 hK_0_160 f3; omega)) | ((have f0_c0 := f0.1); (have f0_c1 := f0.2.1); (have f0_c2 := f0.2.2); (first | have f3_b := f3 (by clear f0_c2 f0 hK_0_160 f3; omega) | skip); (first | have f3_d := f3 (by with_reducible assumption) | skip); (try and_intros) <;> first | with_reducible assumption | (clear f0_c2 f0 hK_0_160 f3; omega)) | ((have f0_c0 := f0.1); (have f0_c1 := f0.2.1); (have f0_c2 := f0.2.2); (first | have f3_b := f3 (by clear f0_c2 f0 hK_0_160 f3; omega) | skip); (first | have f3_d := f3 (by with_reducible assumption) | skip); (first | have f0_q := tk_nx0 f0 (by clear f0_c2 f0 hK_0_160 f3; omega) | skip); (try and_intros) <;> first | with_reducible assumption | (clear f0_c2 f0 hK_0_160 f3; omega)) | omega
set_option maxHeartbeats 4000000 in
theorem vc_Mo_product_at_f0_0_12 (x1 : Int) (x2 : Int) (x3 : Int) (tokenKind_0 : Int → Int) (cur_0 : Int) (tokens_0 : Int) (styleKind_0 : Int) (styleOne_0 : Int) (opened_0 : Int) (fault_0 : Int) (gx : Int) (gy : Int) (gu : Int) (k1 : 0 ≤ x1 ∧ x1 ≤ 2009) (k2 : 0 ≤ x2 ∧ x2 ≤ 5) (k3 : 0 ≤ x3 ∧ x3 ≤ 13) (f0 : ((cur_0 + 1) ≤ tokens_0) ∧ ((tokens_0 ≤ 2010) ∧ ((tokenKind_0 ((tokens_0 - 1)) = 0) ∨ (tokenKind_0 ((tokens_0 - 1)) = 4)))) (f1 : 1 * cur_0 + ((-1) * x1 + 0) ≤ 0) (f2 : (-1) * cur_0 + (1 * x1 + 0) ≤ 0) (f3 : (styleKind_0 = 0) → (styleOne_0 ≤ 23)) (f4 : 1 * opened_0 + 0 ≤ 0) (f5 : (-1) * opened_0 + 0 ≤ 0) (f6 : fault_0 = x2) (f7 : opened_0 = x3) (hK_0_160 : ∀ j : Int, 0 ≤ j → j < 2010 → 0 ≤ tokenKind_0 j ∧ tokenKind_0 j ≤ 4) (kz_0_8 : 0 ≤ fault_0 ∧ fault_0 ≤ 5) (kz_0_157 : 0 ≤ tokens_0 ∧ tokens_0 ≤ 2010) (kz_0_158 : 0 ≤ cur_0 ∧ cur_0 ≤ 2009) (kz_0_159 : 0 ≤ opened_0 ∧ opened_0 ≤ 13) (kz_0_164 : 0 ≤ styleKind_0 ∧ styleKind_0 ≤ 1) (kz_0_165 : (-1) ≤ styleOne_0 ∧ styleOne_0 ≤ 47) (ex2 : gx = cur_0) (ex3 : 0 ≤ gx ∧ gx ≤ 2009) (ey2 : gy = fault_0) (ey3 : 0 ≤ gy ∧ gy ≤ 5) (eu2 : gu = opened_0) (eu3 : 0 ≤ gu ∧ gu ≤ 13) : gy = x2 := by
  first | with_reducible assumption | ((have f0_c0 := f0.1); (have f0_c1 := f0.2.1); (have f0_c2 := f0.2.2); (try and_intros) <;> first | with_reducible assumption | (clear f0_c2 f0 hK_0_160 f3; omega)) | ((have f0_c0 := f0.1); (have f0_c1 := f0.2.1); (have f0_c2 := f0.2.2); (first | have f3_b := f3 (by clear f0_c2 f0 hK_0_160 f3; omega) | skip); (first | have f3_d := f3 (by with_reducible assumption) | skip); (try and_intros) <;> first | with_reducible assumption | (clear f0_c2 f0 hK_0_160 f3; omega)) | ((have f0_c0 := f0.1); (have f0_c1 := f0.2.1); (have f0_c2 := f0.2.2); (first | have f3_b := f3 (by clear f0_c2 f0 hK_0_160 f3; omega) | skip); (first | have f3_d := f3 (by with_reducible assumption) | skip); (first | have f0_q := tk_nx0 f0 (by clear f0_c2 f0 hK_0_160 f3; omega) | skip); (try and_intros) <;> first | with_reducible assumption | (clear f0_c2 f0 hK_0_160 f3; omega)) | omega
set_option maxHeartbeats 4000000 in
theorem vc_Mo_product_at_f0_0_13 (x1 : Int) (x2 : Int) (x3 : Int) (tokenKind_0 : Int → Int) (cur_0 : Int) (tokens_0 : Int) (styleKind_0 : Int) (styleOne_0 : Int) (opened_0 : Int) (fault_0 : Int) (gx : Int) (gy : Int) (gu : Int) (k1 : 0 ≤ x1 ∧ x1 ≤ 2009) (k2 : 0 ≤ x2 ∧ x2 ≤ 5) (k3 : 0 ≤ x3 ∧ x3 ≤ 13) (f0 : ((cur_0 + 1) ≤ tokens_0) ∧ ((tokens_0 ≤ 2010) ∧ ((tokenKind_0 ((tokens_0 - 1)) = 0) ∨ (tokenKind_0 ((tokens_0 - 1)) = 4)))) (f1 : 1 * cur_0 + ((-1) * x1 + 0) ≤ 0) (f2 : (-1) * cur_0 + (1 * x1 + 0) ≤ 0) (f3 : (styleKind_0 = 0) → (styleOne_0 ≤ 23)) (f4 : 1 * opened_0 + 0 ≤ 0) (f5 : (-1) * opened_0 + 0 ≤ 0) (f6 : fault_0 = x2) (f7 : opened_0 = x3) (hK_0_160 : ∀ j : Int, 0 ≤ j → j < 2010 → 0 ≤ tokenKind_0 j ∧ tokenKind_0 j ≤ 4) (kz_0_8 : 0 ≤ fault_0 ∧ fault_0 ≤ 5) (kz_0_157 : 0 ≤ tokens_0 ∧ tokens_0 ≤ 2010) (kz_0_158 : 0 ≤ cur_0 ∧ cur_0 ≤ 2009) (kz_0_159 : 0 ≤ opened_0 ∧ opened_0 ≤ 13) (kz_0_164 : 0 ≤ styleKind_0 ∧ styleKind_0 ≤ 1) (kz_0_165 : (-1) ≤ styleOne_0 ∧ styleOne_0 ≤ 47) (ex2 : gx = cur_0) (ex3 : 0 ≤ gx ∧ gx ≤ 2009) (ey2 : gy = fault_0) (ey3 : 0 ≤ gy ∧ gy ≤ 5) (eu2 : gu = opened_0) (eu3 : 0 ≤ gu ∧ gu ≤ 13) : gu = x3 := by
  first | with_reducible assumption | ((have f0_c0 := f0.1); (have f0_c1 := f0.2.1); (have f0_c2 := f0.2.2); (try and_intros) <;> first | with_reducible assumption | (clear f0_c2 f0 hK_0_160 f3; omega)) | ((have f0_c0 := f0.1); (have f0_c1 := f0.2.1); (have f0_c2 := f0.2.2); (first | have f3_b := f3 (by clear f0_c2 f0 hK_0_160 f3; omega) | skip); (first | have f3_d := f3 (by with_reducible assumption) | skip); (try and_intros) <;> first | with_reducible assumption | (clear f0_c2 f0 hK_0_160 f3; omega)) | ((have f0_c0 := f0.1); (have f0_c1 := f0.2.1); (have f0_c2 := f0.2.2); (first | have f3_b := f3 (by clear f0_c2 f0 hK_0_160 f3; omega) | skip); (first | have f3_d := f3 (by with_reducible assumption) | skip); (first | have f0_q := tk_nx0 f0 (by clear f0_c2 f0 hK_0_160 f3; omega) | skip); (try and_intros) <;> first | with_reducible assumption | (clear f0_c2 f0 hK_0_160 f3; omega)) | omega
def o_Mo_product_at_f0_0 : or_T := (1, 4, [(0, (2, 0, 0, [165])), (1, (0, 0, 2009, [])), (2, (0, 0, 5, [])), (3, (0, 0, 13, []))], [(20, [0], [50, 2, 1, 158, 157, 160, 2, 12, 0, 7, 4, 3, 2, 0, 158, 0, 1, 2, 0, 157, 2, 7, 0, 3, 2, 0, 157, 0, 2010, 3, 14, 1, 10, 3, 0, 160, 5, 3, 2, 0, 157, 0, 1, 0, 0, 1, 10, 3, 0, 160, 5, 3, 2, 0, 157, 0, 1, 0, 4]), (20, [0, 1], [30, 0, 1, 1, 158, -1, 0, 0]), (20, [0, 1], [30, 0, -1, 1, 158, 1, 0, 0]), (20, [0], [50, 2, 0, 164, 165, 4, 7, 1, 3, 2, 0, 164, 0, 0, 0, 3, 2, 0, 165, 0, 23]), (20, [0], [30, 0, 1, 1, 159]), (20, [0], [30, 0, -1, 1, 159]), (20, [0, 2], [50, 1, 0, 8, 1, 3, 2, 0, 8, 1, 1]), (20, [0, 3], [50, 1, 0, 159, 1, 3, 2, 0, 159, 1, 1])], [], [(0, 0, 2009, []), (0, 0, 5, []), (0, 0, 13, [])], [(23, [3], [0, 1]), (23, [3], [0, -1]), (20, [0], [50, 2, 1, 158, 157, 160, 2, 12, 0, 7, 4, 3, 2, 0, 158, 0, 1, 2, 0, 157, 2, 7, 0, 3, 2, 0, 157, 0, 2010, 3, 14, 1, 10, 3, 0, 160, 5, 3, 2, 0, 157, 0, 1, 0, 0, 1, 10, 3, 0, 160, 5, 3, 2, 0, 157, 0, 1, 0, 4]), (20, [0, 4], [30, 0, 1, 1, 158, -1, 0, 0]), (20, [0, 4], [30, 0, -1, 1, 158, 1, 0, 0]), (20, [0], [50, 2, 0, 164, 165, 4, 7, 1, 3, 2, 0, 164, 0, 0, 0, 3, 2, 0, 165, 0, 23]), (20, [0], [30, 0, 1, 1, 159]), (20, [0], [30, 0, -1, 1, 159]), (20, [0, 5], [50, 1, 0, 8, 1, 3, 2, 0, 8, 1, 1]), (20, [0, 6], [50, 1, 0, 159, 1, 3, 2, 0, 159, 1, 1]), (23, [1, 4], [0, 1, -1]), (20, [4, 1], [50, 0, 0, 1, 2, 1, 0, 1, 1]), (20, [5, 2], [50, 0, 0, 1, 2, 1, 0, 1, 1]), (20, [6, 3], [50, 0, 0, 1, 2, 1, 0, 1, 1])], [], [])
theorem oo_Mo_product_at_f0_0 {kA : Nat → ClassId} : or_ok PRD kA GG o_Mo_product_at_f0_0 := by
  refine or_mk fun A ta ws vs hD hth hl => ?_
  intro t0 r0 t1 k1 t2 k2 t3 k3 f0 f1 f2 f3 f4 f5 f6 f7
  replace f0 := shm_271 f0
  replace f1 := shm_272 f1
  replace f2 := shm_273 f2
  replace f3 := shm_274 f3
  replace f4 := shm_1029 f4
  replace f5 := shm_1030 f5
  replace f6 := shm_277 f6
  replace f7 := shm_278 f7
  have cr_0_160 := fdq_33 hD hth r0
  have hK_0_160 := elq_6 hD hth cr_0_160
  have kz_0_8 := fdq_34 hD hth r0
  have kz_0_157 := fdq_35 hD hth r0
  have kz_0_158 := fdq_36 hD hth r0
  have kz_0_159 := fdq_37 hD hth r0
  have kz_0_164 := fdq_38 hD hth r0
  have kz_0_165 := fdq_27 hD hth r0
  obtain ⟨x, ex, hx⟩ := iv_ex (ta := ta) (lo := 0) (hi := 2009) (z := w_fi ws (n_v vs 0) 158) (by omega) (by omega) (by omega) (by omega)
  have ex2 : v_iv (Value.int x) = w_fi ws (n_v vs 0) 158 := ex
  have ex3 : 0 ≤ v_iv (Value.int x) ∧ v_iv (Value.int x) ≤ 2009 := tv_rng hx
  obtain ⟨y, ey, hy⟩ := iv_ex (ta := ta) (lo := 0) (hi := 5) (z := w_fi ws (n_v vs 0) 8) (by omega) (by omega) (by omega) (by omega)
  have ey2 : v_iv (Value.int y) = w_fi ws (n_v vs 0) 8 := ey
  have ey3 : 0 ≤ v_iv (Value.int y) ∧ v_iv (Value.int y) ≤ 5 := tv_rng hy
  obtain ⟨u, eu, hu⟩ := iv_ex (ta := ta) (lo := 0) (hi := 13) (z := w_fi ws (n_v vs 0) 159) (by omega) (by omega) (by omega) (by omega)
  have eu2 : v_iv (Value.int u) = w_fi ws (n_v vs 0) 159 := eu
  have eu3 : 0 ≤ v_iv (Value.int u) ∧ v_iv (Value.int u) ≤ 13 := tv_rng hu
  have e_0 : n_v (vs ++ [Value.int x, Value.int y, Value.int u]) 0 = n_v vs 0 := n_v_old (by rw [hl]; decide)
  have e_1 : n_v (vs ++ [Value.int x, Value.int y, Value.int u]) 1 = n_v vs 1 := n_v_old (by rw [hl]; decide)
  have e_2 : n_v (vs ++ [Value.int x, Value.int y, Value.int u]) 2 = n_v vs 2 := n_v_old (by rw [hl]; decide)
  have e_3 : n_v (vs ++ [Value.int x, Value.int y, Value.int u]) 3 = n_v vs 3 := n_v_old (by rw [hl]; decide)
  have e_4 : n_v (vs ++ [Value.int x, Value.int y, Value.int u]) 4 = Value.int x := n_v_newk (k := 0) hl rfl
  have e_5 : n_v (vs ++ [Value.int x, Value.int y, Value.int u]) 5 = Value.int y := n_v_newk (k := 1) hl rfl
  have e_6 : n_v (vs ++ [Value.int x, Value.int y, Value.int u]) 6 = Value.int u := n_v_newk (k := 2) hl rfl
  have nf0 : fc_1 PRD (23, [3], [0, 1]) ws (vs ++ [Value.int x, Value.int y, Value.int u]) := by
    refine ⟨nf_inA hl rfl, sgq_1540 ?_⟩
    · show 1 * v_iv (n_v (vs ++ [Value.int x, Value.int y, Value.int u]) 3) + 0 ≤ 0
      rw [e_3]
      exact vc_Mo_product_at_f0_0_0 (v_iv (n_v vs 1)) (v_iv (n_v vs 2)) (v_iv (n_v vs 3)) (w_ei ws (w_ar ws (n_v vs 0) 160)) (w_fi ws (n_v vs 0) 158) (w_fi ws (n_v vs 0) 157) (w_fi ws (n_v vs 0) 164) (w_fi ws (n_v vs 0) 165) (w_fi ws (n_v vs 0) 159) (w_fi ws (n_v vs 0) 8) (v_iv (Value.int x)) (v_iv (Value.int y)) (v_iv (Value.int u)) k1 k2 k3 f0 f1 f2 f3 f4 f5 f6 f7 hK_0_160 kz_0_8 kz_0_157 kz_0_158 kz_0_159 kz_0_164 kz_0_165 ex2 ex3 ey2 ey3 eu2 eu3
  have nf1 : fc_1 PRD (23, [3], [0, -1]) ws (vs ++ [Value.int x, Value.int y, Value.int u]) := by
    refine ⟨nf_inA hl rfl, sgq_1043 ?_⟩
    · show (-1) * v_iv (n_v (vs ++ [Value.int x, Value.int y, Value.int u]) 3) + 0 ≤ 0
      rw [e_3]
      exact vc_Mo_product_at_f0_0_1 (v_iv (n_v vs 1)) (v_iv (n_v vs 2)) (v_iv (n_v vs 3)) (w_ei ws (w_ar ws (n_v vs 0) 160)) (w_fi ws (n_v vs 0) 158) (w_fi ws (n_v vs 0) 157) (w_fi ws (n_v vs 0) 164) (w_fi ws (n_v vs 0) 165) (w_fi ws (n_v vs 0) 159) (w_fi ws (n_v vs 0) 8) (v_iv (Value.int x)) (v_iv (Value.int y)) (v_iv (Value.int u)) k1 k2 k3 f0 f1 f2 f3 f4 f5 f6 f7 hK_0_160 kz_0_8 kz_0_157 kz_0_158 kz_0_159 kz_0_164 kz_0_165 ex2 ex3 ey2 ey3 eu2 eu3
  have nf2 : fc_1 PRD (20, [0], [50, 2, 1, 158, 157, 160, 2, 12, 0, 7, 4, 3, 2, 0, 158, 0, 1, 2, 0, 157, 2, 7, 0, 3, 2, 0, 157, 0, 2010, 3, 14, 1, 10, 3, 0, 160, 5, 3, 2, 0, 157, 0, 1, 0, 0, 1, 10, 3, 0, 160, 5, 3, 2, 0, 157, 0, 1, 0, 4]) ws (vs ++ [Value.int x, Value.int y, Value.int u]) := by
    refine ⟨nf_inA hl rfl, sgq_271 ?_⟩
    · show ((w_fi ws (n_v (vs ++ [Value.int x, Value.int y, Value.int u]) 0) 158 + 1) ≤ w_fi ws (n_v (vs ++ [Value.int x, Value.int y, Value.int u]) 0) 157) ∧ ((w_fi ws (n_v (vs ++ [Value.int x, Value.int y, Value.int u]) 0) 157 ≤ 2010) ∧ ((w_ei ws (w_ar ws (n_v (vs ++ [Value.int x, Value.int y, Value.int u]) 0) 160) ((w_fi ws (n_v (vs ++ [Value.int x, Value.int y, Value.int u]) 0) 157 - 1)) = 0) ∨ (w_ei ws (w_ar ws (n_v (vs ++ [Value.int x, Value.int y, Value.int u]) 0) 160) ((w_fi ws (n_v (vs ++ [Value.int x, Value.int y, Value.int u]) 0) 157 - 1)) = 4)))
      rw [e_0]
      exact vc_Mo_product_at_f0_0_2 (v_iv (n_v vs 1)) (v_iv (n_v vs 2)) (v_iv (n_v vs 3)) (w_ei ws (w_ar ws (n_v vs 0) 160)) (w_fi ws (n_v vs 0) 158) (w_fi ws (n_v vs 0) 157) (w_fi ws (n_v vs 0) 164) (w_fi ws (n_v vs 0) 165) (w_fi ws (n_v vs 0) 159) (w_fi ws (n_v vs 0) 8) (v_iv (Value.int x)) (v_iv (Value.int y)) (v_iv (Value.int u)) k1 k2 k3 f0 f1 f2 f3 f4 f5 f6 f7 hK_0_160 kz_0_8 kz_0_157 kz_0_158 kz_0_159 kz_0_164 kz_0_165 ex2 ex3 ey2 ey3 eu2 eu3
  have nf3 : fc_1 PRD (20, [0, 4], [30, 0, 1, 1, 158, -1, 0, 0]) ws (vs ++ [Value.int x, Value.int y, Value.int u]) := by
    refine ⟨nf_inA hl rfl, sgq_272 ?_⟩
    · show 1 * w_fi ws (n_v (vs ++ [Value.int x, Value.int y, Value.int u]) 0) 158 + ((-1) * v_iv (n_v (vs ++ [Value.int x, Value.int y, Value.int u]) 4) + 0) ≤ 0
      simp only [e_0, e_4]
      exact vc_Mo_product_at_f0_0_3 (v_iv (n_v vs 1)) (v_iv (n_v vs 2)) (v_iv (n_v vs 3)) (w_ei ws (w_ar ws (n_v vs 0) 160)) (w_fi ws (n_v vs 0) 158) (w_fi ws (n_v vs 0) 157) (w_fi ws (n_v vs 0) 164) (w_fi ws (n_v vs 0) 165) (w_fi ws (n_v vs 0) 159) (w_fi ws (n_v vs 0) 8) (v_iv (Value.int x)) (v_iv (Value.int y)) (v_iv (Value.int u)) k1 k2 k3 f0 f1 f2 f3 f4 f5 f6 f7 hK_0_160 kz_0_8 kz_0_157 kz_0_158 kz_0_159 kz_0_164 kz_0_165 ex2 ex3 ey2 ey3 eu2 eu3
  have nf4 : fc_1 PRD (20, [0, 4], [30, 0, -1, 1, 158, 1, 0, 0]) ws (vs ++ [Value.int x, Value.int y, Value.int u]) := by
    refine ⟨nf_inA hl rfl, sgq_273 ?_⟩
    · show (-1) * w_fi ws (n_v (vs ++ [Value.int x, Value.int y, Value.int u]) 0) 158 + (1 * v_iv (n_v (vs ++ [Value.int x, Value.int y, Value.int u]) 4) + 0) ≤ 0
      simp only [e_0, e_4]
      exact vc_Mo_product_at_f0_0_4 (v_iv (n_v vs 1)) (v_iv (n_v vs 2)) (v_iv (n_v vs 3)) (w_ei ws (w_ar ws (n_v vs 0) 160)) (w_fi ws (n_v vs 0) 158) (w_fi ws (n_v vs 0) 157) (w_fi ws (n_v vs 0) 164) (w_fi ws (n_v vs 0) 165) (w_fi ws (n_v vs 0) 159) (w_fi ws (n_v vs 0) 8) (v_iv (Value.int x)) (v_iv (Value.int y)) (v_iv (Value.int u)) k1 k2 k3 f0 f1 f2 f3 f4 f5 f6 f7 hK_0_160 kz_0_8 kz_0_157 kz_0_158 kz_0_159 kz_0_164 kz_0_165 ex2 ex3 ey2 ey3 eu2 eu3
  have nf5 : fc_1 PRD (20, [0], [50, 2, 0, 164, 165, 4, 7, 1, 3, 2, 0, 164, 0, 0, 0, 3, 2, 0, 165, 0, 23]) ws (vs ++ [Value.int x, Value.int y, Value.int u]) := by
    refine ⟨nf_inA hl rfl, sgq_274 ?_⟩
    · show (w_fi ws (n_v (vs ++ [Value.int x, Value.int y, Value.int u]) 0) 164 = 0) → (w_fi ws (n_v (vs ++ [Value.int x, Value.int y, Value.int u]) 0) 165 ≤ 23)
      rw [e_0]
      exact vc_Mo_product_at_f0_0_5 (v_iv (n_v vs 1)) (v_iv (n_v vs 2)) (v_iv (n_v vs 3)) (w_ei ws (w_ar ws (n_v vs 0) 160)) (w_fi ws (n_v vs 0) 158) (w_fi ws (n_v vs 0) 157) (w_fi ws (n_v vs 0) 164) (w_fi ws (n_v vs 0) 165) (w_fi ws (n_v vs 0) 159) (w_fi ws (n_v vs 0) 8) (v_iv (Value.int x)) (v_iv (Value.int y)) (v_iv (Value.int u)) k1 k2 k3 f0 f1 f2 f3 f4 f5 f6 f7 hK_0_160 kz_0_8 kz_0_157 kz_0_158 kz_0_159 kz_0_164 kz_0_165 ex2 ex3 ey2 ey3 eu2 eu3
  have nf6 : fc_1 PRD (20, [0], [30, 0, 1, 1, 159]) ws (vs ++ [Value.int x, Value.int y, Value.int u]) := by
    refine ⟨nf_inA hl rfl, sgq_1029 ?_⟩
    · show 1 * w_fi ws (n_v (vs ++ [Value.int x, Value.int y, Value.int u]) 0) 159 + 0 ≤ 0
      rw [e_0]
      exact vc_Mo_product_at_f0_0_6 (v_iv (n_v vs 1)) (v_iv (n_v vs 2)) (v_iv (n_v vs 3)) (w_ei ws (w_ar ws (n_v vs 0) 160)) (w_fi ws (n_v vs 0) 158) (w_fi ws (n_v vs 0) 157) (w_fi ws (n_v vs 0) 164) (w_fi ws (n_v vs 0) 165) (w_fi ws (n_v vs 0) 159) (w_fi ws (n_v vs 0) 8) (v_iv (Value.int x)) (v_iv (Value.int y)) (v_iv (Value.int u)) k1 k2 k3 f0 f1 f2 f3 f4 f5 f6 f7 hK_0_160 kz_0_8 kz_0_157 kz_0_158 kz_0_159 kz_0_164 kz_0_165 ex2 ex3 ey2 ey3 eu2 eu3
  have nf7 : fc_1 PRD (20, [0], [30, 0, -1, 1, 159]) ws (vs ++ [Value.int x, Value.int y, Value.int u]) := by
    refine ⟨nf_inA hl rfl, sgq_1030 ?_⟩
    · show (-1) * w_fi ws (n_v (vs ++ [Value.int x, Value.int y, Value.int u]) 0) 159 + 0 ≤ 0
      rw [e_0]
      exact vc_Mo_product_at_f0_0_7 (v_iv (n_v vs 1)) (v_iv (n_v vs 2)) (v_iv (n_v vs 3)) (w_ei ws (w_ar ws (n_v vs 0) 160)) (w_fi ws (n_v vs 0) 158) (w_fi ws (n_v vs 0) 157) (w_fi ws (n_v vs 0) 164) (w_fi ws (n_v vs 0) 165) (w_fi ws (n_v vs 0) 159) (w_fi ws (n_v vs 0) 8) (v_iv (Value.int x)) (v_iv (Value.int y)) (v_iv (Value.int u)) k1 k2 k3 f0 f1 f2 f3 f4 f5 f6 f7 hK_0_160 kz_0_8 kz_0_157 kz_0_158 kz_0_159 kz_0_164 kz_0_165 ex2 ex3 ey2 ey3 eu2 eu3
  have nf8 : fc_1 PRD (20, [0, 5], [50, 1, 0, 8, 1, 3, 2, 0, 8, 1, 1]) ws (vs ++ [Value.int x, Value.int y, Value.int u]) := by
    refine ⟨nf_inA hl rfl, sgq_277 ?_⟩
    · show w_fi ws (n_v (vs ++ [Value.int x, Value.int y, Value.int u]) 0) 8 = v_iv (n_v (vs ++ [Value.int x, Value.int y, Value.int u]) 5)
      simp only [e_0, e_5]
      exact vc_Mo_product_at_f0_0_8 (v_iv (n_v vs 1)) (v_iv (n_v vs 2)) (v_iv (n_v vs 3)) (w_ei ws (w_ar ws (n_v vs 0) 160)) (w_fi ws (n_v vs 0) 158) (w_fi ws (n_v vs 0) 157) (w_fi ws (n_v vs 0) 164) (w_fi ws (n_v vs 0) 165) (w_fi ws (n_v vs 0) 159) (w_fi ws (n_v vs 0) 8) (v_iv (Value.int x)) (v_iv (Value.int y)) (v_iv (Value.int u)) k1 k2 k3 f0 f1 f2 f3 f4 f5 f6 f7 hK_0_160 kz_0_8 kz_0_157 kz_0_158 kz_0_159 kz_0_164 kz_0_165 ex2 ex3 ey2 ey3 eu2 eu3
  have nf9 : fc_1 PRD (20, [0, 6], [50, 1, 0, 159, 1, 3, 2, 0, 159, 1, 1]) ws (vs ++ [Value.int x, Value.int y, Value.int u]) := by
    refine ⟨nf_inA hl rfl, sgq_278 ?_⟩
    · show w_fi ws (n_v (vs ++ [Value.int x, Value.int y, Value.int u]) 0) 159 = v_iv (n_v (vs ++ [Value.int x, Value.int y, Value.int u]) 6)
      simp only [e_0, e_6]
      exact vc_Mo_product_at_f0_0_9 (v_iv (n_v vs 1)) (v_iv (n_v vs 2)) (v_iv (n_v vs 3)) (w_ei ws (w_ar ws (n_v vs 0) 160)) (w_fi ws (n_v vs 0) 158) (w_fi ws (n_v vs 0) 157) (w_fi ws (n_v vs 0) 164) (w_fi ws (n_v vs 0) 165) (w_fi ws (n_v vs 0) 159) (w_fi ws (n_v vs 0) 8) (v_iv (Value.int x)) (v_iv (Value.int y)) (v_iv (Value.int u)) k1 k2 k3 f0 f1 f2 f3 f4 f5 f6 f7 hK_0_160 kz_0_8 kz_0_157 kz_0_158 kz_0_159 kz_0_164 kz_0_165 ex2 ex3 ey2 ey3 eu2 eu3
  have nf10 : fc_1 PRD (23, [1, 4], [0, 1, -1]) ws (vs ++ [Value.int x, Value.int y, Value.int u]) := by
    refine ⟨nf_inA hl rfl, sgq_7 ?_⟩
    · show 1 * v_iv (n_v (vs ++ [Value.int x, Value.int y, Value.int u]) 1) + ((-1) * v_iv (n_v (vs ++ [Value.int x, Value.int y, Value.int u]) 4) + 0) ≤ 0
      simp only [e_1, e_4]
      exact vc_Mo_product_at_f0_0_10 (v_iv (n_v vs 1)) (v_iv (n_v vs 2)) (v_iv (n_v vs 3)) (w_ei ws (w_ar ws (n_v vs 0) 160)) (w_fi ws (n_v vs 0) 158) (w_fi ws (n_v vs 0) 157) (w_fi ws (n_v vs 0) 164) (w_fi ws (n_v vs 0) 165) (w_fi ws (n_v vs 0) 159) (w_fi ws (n_v vs 0) 8) (v_iv (Value.int x)) (v_iv (Value.int y)) (v_iv (Value.int u)) k1 k2 k3 f0 f1 f2 f3 f4 f5 f6 f7 hK_0_160 kz_0_8 kz_0_157 kz_0_158 kz_0_159 kz_0_164 kz_0_165 ex2 ex3 ey2 ey3 eu2 eu3
  have nf11 : fc_1 PRD (20, [4, 1], [50, 0, 0, 1, 2, 1, 0, 1, 1]) ws (vs ++ [Value.int x, Value.int y, Value.int u]) := by
    refine ⟨nf_inA hl rfl, sgq_48 ?_⟩
    · show v_iv (n_v (vs ++ [Value.int x, Value.int y, Value.int u]) 4) = v_iv (n_v (vs ++ [Value.int x, Value.int y, Value.int u]) 1)
      simp only [e_1, e_4]
      exact vc_Mo_product_at_f0_0_11 (v_iv (n_v vs 1)) (v_iv (n_v vs 2)) (v_iv (n_v vs 3)) (w_ei ws (w_ar ws (n_v vs 0) 160)) (w_fi ws (n_v vs 0) 158) (w_fi ws (n_v vs 0) 157) (w_fi ws (n_v vs 0) 164) (w_fi ws (n_v vs 0) 165) (w_fi ws (n_v vs 0) 159) (w_fi ws (n_v vs 0) 8) (v_iv (Value.int x)) (v_iv (Value.int y)) (v_iv (Value.int u)) k1 k2 k3 f0 f1 f2 f3 f4 f5 f6 f7 hK_0_160 kz_0_8 kz_0_157 kz_0_158 kz_0_159 kz_0_164 kz_0_165 ex2 ex3 ey2 ey3 eu2 eu3
  have nf12 : fc_1 PRD (20, [5, 2], [50, 0, 0, 1, 2, 1, 0, 1, 1]) ws (vs ++ [Value.int x, Value.int y, Value.int u]) := by
    refine ⟨nf_inA hl rfl, sgq_48 ?_⟩
    · show v_iv (n_v (vs ++ [Value.int x, Value.int y, Value.int u]) 5) = v_iv (n_v (vs ++ [Value.int x, Value.int y, Value.int u]) 2)
      simp only [e_2, e_5]
      exact vc_Mo_product_at_f0_0_12 (v_iv (n_v vs 1)) (v_iv (n_v vs 2)) (v_iv (n_v vs 3)) (w_ei ws (w_ar ws (n_v vs 0) 160)) (w_fi ws (n_v vs 0) 158) (w_fi ws (n_v vs 0) 157) (w_fi ws (n_v vs 0) 164) (w_fi ws (n_v vs 0) 165) (w_fi ws (n_v vs 0) 159) (w_fi ws (n_v vs 0) 8) (v_iv (Value.int x)) (v_iv (Value.int y)) (v_iv (Value.int u)) k1 k2 k3 f0 f1 f2 f3 f4 f5 f6 f7 hK_0_160 kz_0_8 kz_0_157 kz_0_158 kz_0_159 kz_0_164 kz_0_165 ex2 ex3 ey2 ey3 eu2 eu3
  have nf13 : fc_1 PRD (20, [6, 3], [50, 0, 0, 1, 2, 1, 0, 1, 1]) ws (vs ++ [Value.int x, Value.int y, Value.int u]) := by
    refine ⟨nf_inA hl rfl, sgq_48 ?_⟩
    · show v_iv (n_v (vs ++ [Value.int x, Value.int y, Value.int u]) 6) = v_iv (n_v (vs ++ [Value.int x, Value.int y, Value.int u]) 3)
      simp only [e_3, e_6]
      exact vc_Mo_product_at_f0_0_13 (v_iv (n_v vs 1)) (v_iv (n_v vs 2)) (v_iv (n_v vs 3)) (w_ei ws (w_ar ws (n_v vs 0) 160)) (w_fi ws (n_v vs 0) 158) (w_fi ws (n_v vs 0) 157) (w_fi ws (n_v vs 0) 164) (w_fi ws (n_v vs 0) 165) (w_fi ws (n_v vs 0) 159) (w_fi ws (n_v vs 0) 8) (v_iv (Value.int x)) (v_iv (Value.int y)) (v_iv (Value.int u)) k1 k2 k3 f0 f1 f2 f3 f4 f5 f6 f7 hK_0_160 kz_0_8 kz_0_157 kz_0_158 kz_0_159 kz_0_164 kz_0_165 ex2 ex3 ey2 ey3 eu2 eu3
  exact ⟨(fun _ h => (by cases h)), [Value.int x, Value.int y, Value.int u], ag_three hx hy hu, List.forall_mem_cons.mpr ⟨⟨show (23 : Nat) < 100 from by decide, nf0⟩, List.forall_mem_cons.mpr ⟨⟨show (23 : Nat) < 100 from by decide, nf1⟩, List.forall_mem_cons.mpr ⟨⟨show (20 : Nat) < 100 from by decide, nf2⟩, List.forall_mem_cons.mpr ⟨⟨show (20 : Nat) < 100 from by decide, nf3⟩, List.forall_mem_cons.mpr ⟨⟨show (20 : Nat) < 100 from by decide, nf4⟩, List.forall_mem_cons.mpr ⟨⟨show (20 : Nat) < 100 from by decide, nf5⟩, List.forall_mem_cons.mpr ⟨⟨show (20 : Nat) < 100 from by decide, nf6⟩, List.forall_mem_cons.mpr ⟨⟨show (20 : Nat) < 100 from by decide, nf7⟩, List.forall_mem_cons.mpr ⟨⟨show (20 : Nat) < 100 from by decide, nf8⟩, List.forall_mem_cons.mpr ⟨⟨show (20 : Nat) < 100 from by decide, nf9⟩, List.forall_mem_cons.mpr ⟨⟨show (23 : Nat) < 100 from by decide, nf10⟩, List.forall_mem_cons.mpr ⟨⟨show (20 : Nat) < 100 from by decide, nf11⟩, List.forall_mem_cons.mpr ⟨⟨show (20 : Nat) < 100 from by decide, nf12⟩, List.forall_mem_cons.mpr ⟨⟨show (20 : Nat) < 100 from by decide, nf13⟩, (fun _ h => (by cases h))⟩⟩⟩⟩⟩⟩⟩⟩⟩⟩⟩⟩⟩⟩, (fun _ h => (by cases h))⟩
set_option maxHeartbeats 4000000 in
theorem vc_Mo_product_at_f0_1_0 (x1 : Int) (x2 : Int) (x3 : Int) (x4 : Int) (x5 : Int) (x6 : Int) (styleKind_0 : Int) (styleOne_0 : Int) (tokenKind_0 : Int → Int) (cur_0 : Int) (tokens_0 : Int) (opened_0 : Int) (tokenValue_0 : Int → Int) (tokenPlace_0 : Int → Int) (tokenEnd_0 : Int → Int) (tape_0 : Int → Int) (fault_0 : Int) (limit_0 : Int) (gx : Int) (k1 : 0 ≤ x1 ∧ x1 ≤ 2009) (k2 : 0 ≤ x2 ∧ x2 ≤ 5) (k3 : 0 ≤ x3 ∧ x3 ≤ 13) (k4 : 0 ≤ x4 ∧ x4 ≤ 2009) (k5 : 0 ≤ x5 ∧ x5 ≤ 5) (k6 : 0 ≤ x6 ∧ x6 ≤ 13) (f0 : 1 * x3 + 0 ≤ 0) (f1 : (-1) * x3 + 0 ≤ 0) (f2 : (styleKind_0 = 0) → (styleOne_0 ≤ 23)) (f3 : 1 * x1 + ((-1) * x4 + 0) ≤ 0) (f4 : x4 = x1) (f5 : x5 = x2) (f6 : x6 = x3) (f7 : (styleKind_0 = 0) → (styleOne_0 ≤ 23)) (f8 : ((cur_0 + 1) ≤ tokens_0) ∧ ((tokens_0 ≤ 2010) ∧ ((tokenKind_0 ((tokens_0 - 1)) = 0) ∨ (tokenKind_0 ((tokens_0 - 1)) = 4)))) (f9 : 1 * x4 + ((-1) * cur_0 + 0) ≤ 0) (f10 : 1 * opened_0 + 0 ≤ 0) (f11 : (-1) * opened_0 + 0 ≤ 0) (f12 : SVL (fault_0) (cur_0) (styleKind_0) (limit_0) (tokenKind_0) (tokenValue_0) (tokenPlace_0) (tokenEnd_0) (tape_0) (x4) (x5) (x6)) (f14 : 1 * x3 + 0 ≤ 0) (f15 : (-1) * x3 + 0 ≤ 0) (f16 : 1 * x1 + ((-1) * x4 + 0) ≤ 0) (hK_0_1 : ∀ j : Int, 0 ≤ j → j < 2000 → (-128) ≤ tape_0 j ∧ tape_0 j ≤ 127) (hK_0_160 : ∀ j : Int, 0 ≤ j → j < 2010 → 0 ≤ tokenKind_0 j ∧ tokenKind_0 j ≤ 4) (hK_0_162 : ∀ j : Int, 0 ≤ j → j < 2010 → 0 ≤ tokenPlace_0 j ∧ tokenPlace_0 j ≤ 2000) (hK_0_163 : ∀ j : Int, 0 ≤ j → j < 2010 → 0 ≤ tokenEnd_0 j ∧ tokenEnd_0 j ≤ 2000) (kz_0_8 : 0 ≤ fault_0 ∧ fault_0 ≤ 5) (kz_0_10 : 0 ≤ limit_0 ∧ limit_0 ≤ 2000) (kz_0_157 : 0 ≤ tokens_0 ∧ tokens_0 ≤ 2010) (kz_0_158 : 0 ≤ cur_0 ∧ cur_0 ≤ 2009) (kz_0_159 : 0 ≤ opened_0 ∧ opened_0 ≤ 13) (kz_0_164 : 0 ≤ styleKind_0 ∧ styleKind_0 ≤ 1) (kz_0_165 : (-1) ≤ styleOne_0 ∧ styleOne_0 ≤ 47) (ex2 : gx = 2010 + ((-1) * cur_0 + 0)) (ex3 : 0 ≤ gx ∧ gx ≤ 2010) : ((cur_0 + 1) ≤ tokens_0) ∧ ((tokens_0 ≤ 2010) ∧ ((tokenKind_0 ((tokens_0 - 1)) = 0) ∨ (tokenKind_0 ((tokens_0 - 1)) = 4))) := by
  first | with_reducible assumption | ((have f8_c0 := f8.1); (have f8_c1 := f8.2.1); (have f8_c2 := f8.2.2); (try and_intros) <;> first | with_reducible assumption | (clear f8_c2 f8 hK_0_1 hK_0_160 hK_0_162 hK_0_163 f2 f7; omega)) | ((have f8_c0 := f8.1); (have f8_c1 := f8.2.1); (have f8_c2 := f8.2.2); (first | have f2_b := f2 (by clear f8_c2 f8 hK_0_1 hK_0_160 hK_0_162 hK_0_163 f2 f7; omega) | skip); (first | have f7_b := f7 (by clear f8_c2 f8 hK_0_1 hK_0_160 hK_0_162 hK_0_163 f2 f7; omega) | skip); (first | have f2_d := f2 (by with_reducible assumption) | skip); (first | have f7_d := f7 (by with_reducible assumption) | skip); (try and_intros) <;> first | with_reducible assumption | (clear f8_c2 f8 hK_0_1 hK_0_160 hK_0_162 hK_0_163 f2 f7; omega)) | ((have f8_c0 := f8.1); (have f8_c1 := f8.2.1); (have f8_c2 := f8.2.2); (first | have f2_b := f2 (by clear f8_c2 f8 hK_0_1 hK_0_160 hK_0_162 hK_0_163 f2 f7; omega) | skip); (first | have f7_b := f7 (by clear f8_c2 f8 hK_0_1 hK_0_160 hK_0_162 hK_0_163 f2 f7; omega) | skip); (first | have f2_d := f2 (by with_reducible assumption) | skip); (first | have f7_d := f7 (by with_reducible assumption) | skip); (first | have f8_q := tk_nx0 f8 (by clear f8_c2 f8 hK_0_1 hK_0_160 hK_0_162 hK_0_163 f2 f7; omega) | skip); (try and_intros) <;> first | with_reducible assumption | (clear f8_c2 f8 hK_0_1 hK_0_160 hK_0_162 hK_0_163 f2 f7; omega)) | omega
set_option maxHeartbeats 4000000 in
theorem vc_Mo_product_at_f0_1_1 (x1 : Int) (x2 : Int) (x3 : Int) (x4 : Int) (x5 : Int) (x6 : Int) (styleKind_0 : Int) (styleOne_0 : Int) (tokenKind_0 : Int → Int) (cur_0 : Int) (tokens_0 : Int) (opened_0 : Int) (tokenValue_0 : Int → Int) (tokenPlace_0 : Int → Int) (tokenEnd_0 : Int → Int) (tape_0 : Int → Int) (fault_0 : Int) (limit_0 : Int) (gx : Int) (k1 : 0 ≤ x1 ∧ x1 ≤ 2009) (k2 : 0 ≤ x2 ∧ x2 ≤ 5) (k3 : 0 ≤ x3 ∧ x3 ≤ 13) (k4 : 0 ≤ x4 ∧ x4 ≤ 2009) (k5 : 0 ≤ x5 ∧ x5 ≤ 5) (k6 : 0 ≤ x6 ∧ x6 ≤ 13) (f0 : 1 * x3 + 0 ≤ 0) (f1 : (-1) * x3 + 0 ≤ 0) (f2 : (styleKind_0 = 0) → (styleOne_0 ≤ 23)) (f3 : 1 * x1 + ((-1) * x4 + 0) ≤ 0) (f4 : x4 = x1) (f5 : x5 = x2) (f6 : x6 = x3) (f7 : (styleKind_0 = 0) → (styleOne_0 ≤ 23)) (f8 : ((cur_0 + 1) ≤ tokens_0) ∧ ((tokens_0 ≤ 2010) ∧ ((tokenKind_0 ((tokens_0 - 1)) = 0) ∨ (tokenKind_0 ((tokens_0 - 1)) = 4)))) (f9 : 1 * x4 + ((-1) * cur_0 + 0) ≤ 0) (f10 : 1 * opened_0 + 0 ≤ 0) (f11 : (-1) * opened_0 + 0 ≤ 0) (f12 : SVL (fault_0) (cur_0) (styleKind_0) (limit_0) (tokenKind_0) (tokenValue_0) (tokenPlace_0) (tokenEnd_0) (tape_0) (x4) (x5) (x6)) (f14 : 1 * x3 + 0 ≤ 0) (f15 : (-1) * x3 + 0 ≤ 0) (f16 : 1 * x1 + ((-1) * x4 + 0) ≤ 0) (hK_0_1 : ∀ j : Int, 0 ≤ j → j < 2000 → (-128) ≤ tape_0 j ∧ tape_0 j ≤ 127) (hK_0_160 : ∀ j : Int, 0 ≤ j → j < 2010 → 0 ≤ tokenKind_0 j ∧ tokenKind_0 j ≤ 4) (hK_0_162 : ∀ j : Int, 0 ≤ j → j < 2010 → 0 ≤ tokenPlace_0 j ∧ tokenPlace_0 j ≤ 2000) (hK_0_163 : ∀ j : Int, 0 ≤ j → j < 2010 → 0 ≤ tokenEnd_0 j ∧ tokenEnd_0 j ≤ 2000) (kz_0_8 : 0 ≤ fault_0 ∧ fault_0 ≤ 5) (kz_0_10 : 0 ≤ limit_0 ∧ limit_0 ≤ 2000) (kz_0_157 : 0 ≤ tokens_0 ∧ tokens_0 ≤ 2010) (kz_0_158 : 0 ≤ cur_0 ∧ cur_0 ≤ 2009) (kz_0_159 : 0 ≤ opened_0 ∧ opened_0 ≤ 13) (kz_0_164 : 0 ≤ styleKind_0 ∧ styleKind_0 ≤ 1) (kz_0_165 : (-1) ≤ styleOne_0 ∧ styleOne_0 ≤ 47) (ex2 : gx = 2010 + ((-1) * cur_0 + 0)) (ex3 : 0 ≤ gx ∧ gx ≤ 2010) : 1 * x1 + ((-1) * cur_0 + 0) ≤ 0 := by
  first | with_reducible assumption | ((have f8_c0 := f8.1); (have f8_c1 := f8.2.1); (have f8_c2 := f8.2.2); (try and_intros) <;> first | with_reducible assumption | (clear f8_c2 f8 hK_0_1 hK_0_160 hK_0_162 hK_0_163 f2 f7; omega)) | ((have f8_c0 := f8.1); (have f8_c1 := f8.2.1); (have f8_c2 := f8.2.2); (first | have f2_b := f2 (by clear f8_c2 f8 hK_0_1 hK_0_160 hK_0_162 hK_0_163 f2 f7; omega) | skip); (first | have f7_b := f7 (by clear f8_c2 f8 hK_0_1 hK_0_160 hK_0_162 hK_0_163 f2 f7; omega) | skip); (first | have f2_d := f2 (by with_reducible assumption) | skip); (first | have f7_d := f7 (by with_reducible assumption) | skip); (try and_intros) <;> first | with_reducible assumption | (clear f8_c2 f8 hK_0_1 hK_0_160 hK_0_162 hK_0_163 f2 f7; omega)) | ((have f8_c0 := f8.1); (have f8_c1 := f8.2.1); (have f8_c2 := f8.2.2); (first | have f2_b := f2 (by clear f8_c2 f8 hK_0_1 hK_0_160 hK_0_162 hK_0_163 f2 f7; omega) | skip); (first | have f7_b := f7 (by clear f8_c2 f8 hK_0_1 hK_0_160 hK_0_162 hK_0_163 f2 f7; omega) | skip); (first | have f2_d := f2 (by with_reducible assumption) | skip); (first | have f7_d := f7 (by with_reducible assumption) | skip); (first | have f8_q := tk_nx0 f8 (by clear f8_c2 f8 hK_0_1 hK_0_160 hK_0_162 hK_0_163 f2 f7; omega) | skip); (try and_intros) <;> first | with_reducible assumption | (clear f8_c2 f8 hK_0_1 hK_0_160 hK_0_162 hK_0_163 f2 f7; omega)) | omega
set_option maxHeartbeats 4000000 in
theorem vc_Mo_product_at_f0_1_2 (x1 : Int) (x2 : Int) (x3 : Int) (x4 : Int) (x5 : Int) (x6 : Int) (styleKind_0 : Int) (styleOne_0 : Int) (tokenKind_0 : Int → Int) (cur_0 : Int) (tokens_0 : Int) (opened_0 : Int) (tokenValue_0 : Int → Int) (tokenPlace_0 : Int → Int) (tokenEnd_0 : Int → Int) (tape_0 : Int → Int) (fault_0 : Int) (limit_0 : Int) (gx : Int) (k1 : 0 ≤ x1 ∧ x1 ≤ 2009) (k2 : 0 ≤ x2 ∧ x2 ≤ 5) (k3 : 0 ≤ x3 ∧ x3 ≤ 13) (k4 : 0 ≤ x4 ∧ x4 ≤ 2009) (k5 : 0 ≤ x5 ∧ x5 ≤ 5) (k6 : 0 ≤ x6 ∧ x6 ≤ 13) (f0 : 1 * x3 + 0 ≤ 0) (f1 : (-1) * x3 + 0 ≤ 0) (f2 : (styleKind_0 = 0) → (styleOne_0 ≤ 23)) (f3 : 1 * x1 + ((-1) * x4 + 0) ≤ 0) (f4 : x4 = x1) (f5 : x5 = x2) (f6 : x6 = x3) (f7 : (styleKind_0 = 0) → (styleOne_0 ≤ 23)) (f8 : ((cur_0 + 1) ≤ tokens_0) ∧ ((tokens_0 ≤ 2010) ∧ ((tokenKind_0 ((tokens_0 - 1)) = 0) ∨ (tokenKind_0 ((tokens_0 - 1)) = 4)))) (f9 : 1 * x4 + ((-1) * cur_0 + 0) ≤ 0) (f10 : 1 * opened_0 + 0 ≤ 0) (f11 : (-1) * opened_0 + 0 ≤ 0) (f12 : SVL (fault_0) (cur_0) (styleKind_0) (limit_0) (tokenKind_0) (tokenValue_0) (tokenPlace_0) (tokenEnd_0) (tape_0) (x4) (x5) (x6)) (f14 : 1 * x3 + 0 ≤ 0) (f15 : (-1) * x3 + 0 ≤ 0) (f16 : 1 * x1 + ((-1) * x4 + 0) ≤ 0) (hK_0_1 : ∀ j : Int, 0 ≤ j → j < 2000 → (-128) ≤ tape_0 j ∧ tape_0 j ≤ 127) (hK_0_160 : ∀ j : Int, 0 ≤ j → j < 2010 → 0 ≤ tokenKind_0 j ∧ tokenKind_0 j ≤ 4) (hK_0_162 : ∀ j : Int, 0 ≤ j → j < 2010 → 0 ≤ tokenPlace_0 j ∧ tokenPlace_0 j ≤ 2000) (hK_0_163 : ∀ j : Int, 0 ≤ j → j < 2010 → 0 ≤ tokenEnd_0 j ∧ tokenEnd_0 j ≤ 2000) (kz_0_8 : 0 ≤ fault_0 ∧ fault_0 ≤ 5) (kz_0_10 : 0 ≤ limit_0 ∧ limit_0 ≤ 2000) (kz_0_157 : 0 ≤ tokens_0 ∧ tokens_0 ≤ 2010) (kz_0_158 : 0 ≤ cur_0 ∧ cur_0 ≤ 2009) (kz_0_159 : 0 ≤ opened_0 ∧ opened_0 ≤ 13) (kz_0_164 : 0 ≤ styleKind_0 ∧ styleKind_0 ≤ 1) (kz_0_165 : (-1) ≤ styleOne_0 ∧ styleOne_0 ≤ 47) (ex2 : gx = 2010 + ((-1) * cur_0 + 0)) (ex3 : 0 ≤ gx ∧ gx ≤ 2010) : (styleKind_0 = 0) → (styleOne_0 ≤ 23) := by
  first | with_reducible assumption | ((have f8_c0 := f8.1); (have f8_c1 := f8.2.1); (have f8_c2 := f8.2.2); (try and_intros) <;> first | with_reducible assumption | (clear f8_c2 f8 hK_0_1 hK_0_160 hK_0_162 hK_0_163 f2 f7; omega)) | ((have f8_c0 := f8.1); (have f8_c1 := f8.2.1); (have f8_c2 := f8.2.2); (first | have f2_b := f2 (by clear f8_c2 f8 hK_0_1 hK_0_160 hK_0_162 hK_0_163 f2 f7; omega) | skip); (first | have f7_b := f7 (by clear f8_c2 f8 hK_0_1 hK_0_160 hK_0_162 hK_0_163 f2 f7; omega) | skip); (first | have f2_d := f2 (by with_reducible assumption) | skip); (first | have f7_d := f7 (by with_reducible assumption) | skip); (try and_intros) <;> first | with_reducible assumption | (clear f8_c2 f8 hK_0_1 hK_0_160 hK_0_162 hK_0_163 f2 f7; omega)) | ((have f8_c0 := f8.1); (have f8_c1 := f8.2.1); (have f8_c2 := f8.2.2); (first | have f2_b := f2 (by clear f8_c2 f8 hK_0_1 hK_0_160 hK_0_162 hK_0_163 f2 f7; omega) | skip); (first | have f7_b := f7 (by clear f8_c2 f8 hK_0_1 hK_0_160 hK_0_162 hK_0_163 f2 f7; omega) | skip); (first | have f2_d := f2 (by with_reducible assumption) | skip); (first | have f7_d := f7 (by with_reducible assumption) | skip); (first | have f8_q := tk_nx0 f8 (by clear f8_c2 f8 hK_0_1 hK_0_160 hK_0_162 hK_0_163 f2 f7; omega) | skip); (try and_intros) <;> first | with_reducible assumption | (clear f8_c2 f8 hK_0_1 hK_0_160 hK_0_162 hK_0_163 f2 f7; omega)) | (intro hG; (first | have f2_g := f2 hG | skip); (first | have f7_g := f7 hG | skip); (have f8_c0 := f8.1); (have f8_c1 := f8.2.1); (have f8_c2 := f8.2.2); (first | have f2_b := f2 (by clear f8_c2 f8 hK_0_1 hK_0_160 hK_0_162 hK_0_163 f2 f7; omega) | skip); (first | have f7_b := f7 (by clear f8_c2 f8 hK_0_1 hK_0_160 hK_0_162 hK_0_163 f2 f7; omega) | skip); (try and_intros) <;> first | with_reducible assumption | (clear f8_c2 f8 hK_0_1 hK_0_160 hK_0_162 hK_0_163 f2 f7 hG; omega)) | omega
set_option maxHeartbeats 4000000 in
theorem vc_Mo_product_at_f0_1_3 (x1 : Int) (x2 : Int) (x3 : Int) (x4 : Int) (x5 : Int) (x6 : Int) (styleKind_0 : Int) (styleOne_0 : Int) (tokenKind_0 : Int → Int) (cur_0 : Int) (tokens_0 : Int) (opened_0 : Int) (tokenValue_0 : Int → Int) (tokenPlace_0 : Int → Int) (tokenEnd_0 : Int → Int) (tape_0 : Int → Int) (fault_0 : Int) (limit_0 : Int) (gx : Int) (k1 : 0 ≤ x1 ∧ x1 ≤ 2009) (k2 : 0 ≤ x2 ∧ x2 ≤ 5) (k3 : 0 ≤ x3 ∧ x3 ≤ 13) (k4 : 0 ≤ x4 ∧ x4 ≤ 2009) (k5 : 0 ≤ x5 ∧ x5 ≤ 5) (k6 : 0 ≤ x6 ∧ x6 ≤ 13) (f0 : 1 * x3 + 0 ≤ 0) (f1 : (-1) * x3 + 0 ≤ 0) (f2 : (styleKind_0 = 0) → (styleOne_0 ≤ 23)) (f3 : 1 * x1 + ((-1) * x4 + 0) ≤ 0) (f4 : x4 = x1) (f5 : x5 = x2) (f6 : x6 = x3) (f7 : (styleKind_0 = 0) → (styleOne_0 ≤ 23)) (f8 : ((cur_0 + 1) ≤ tokens_0) ∧ ((tokens_0 ≤ 2010) ∧ ((tokenKind_0 ((tokens_0 - 1)) = 0) ∨ (tokenKind_0 ((tokens_0 - 1)) = 4)))) (f9 : 1 * x4 + ((-1) * cur_0 + 0) ≤ 0) (f10 : 1 * opened_0 + 0 ≤ 0) (f11 : (-1) * opened_0 + 0 ≤ 0) (f12 : SVL (fault_0) (cur_0) (styleKind_0) (limit_0) (tokenKind_0) (tokenValue_0) (tokenPlace_0) (tokenEnd_0) (tape_0) (x4) (x5) (x6)) (f14 : 1 * x3 + 0 ≤ 0) (f15 : (-1) * x3 + 0 ≤ 0) (f16 : 1 * x1 + ((-1) * x4 + 0) ≤ 0) (hK_0_1 : ∀ j : Int, 0 ≤ j → j < 2000 → (-128) ≤ tape_0 j ∧ tape_0 j ≤ 127) (hK_0_160 : ∀ j : Int, 0 ≤ j → j < 2010 → 0 ≤ tokenKind_0 j ∧ tokenKind_0 j ≤ 4) (hK_0_162 : ∀ j : Int, 0 ≤ j → j < 2010 → 0 ≤ tokenPlace_0 j ∧ tokenPlace_0 j ≤ 2000) (hK_0_163 : ∀ j : Int, 0 ≤ j → j < 2010 → 0 ≤ tokenEnd_0 j ∧ tokenEnd_0 j ≤ 2000) (kz_0_8 : 0 ≤ fault_0 ∧ fault_0 ≤ 5) (kz_0_10 : 0 ≤ limit_0 ∧ limit_0 ≤ 2000) (kz_0_157 : 0 ≤ tokens_0 ∧ tokens_0 ≤ 2010) (kz_0_158 : 0 ≤ cur_0 ∧ cur_0 ≤ 2009) (kz_0_159 : 0 ≤ opened_0 ∧ opened_0 ≤ 13) (kz_0_164 : 0 ≤ styleKind_0 ∧ styleKind_0 ≤ 1) (kz_0_165 : (-1) ≤ styleOne_0 ∧ styleOne_0 ≤ 47) (ex2 : gx = 2010 + ((-1) * cur_0 + 0)) (ex3 : 0 ≤ gx ∧ gx ≤ 2010) : 1 * opened_0 + 0 ≤ 0 := by
  first | with_reducible assumption | ((have f8_c0 := f8.1); (have f8_c1 := f8.2.1); (have f8_c2 := f8.2.2); (try and_intros) <;> first | with_reducible assumption | (clear f8_c2 f8 hK_0_1 hK_0_160 hK_0_162 hK_0_163 f2 f7; omega)) | ((have f8_c0 := f8.1); (have f8_c1 := f8.2.1); (have f8_c2 := f8.2.2); (first | have f2_b := f2 (by clear f8_c2 f8 hK_0_1 hK_0_160 hK_0_162 hK_0_163 f2 f7; omega) | skip); (first | have f7_b := f7 (by clear f8_c2 f8 hK_0_1 hK_0_160 hK_0_162 hK_0_163 f2 f7; omega) | skip); (first | have f2_d := f2 (by with_reducible assumption) | skip); (first | have f7_d := f7 (by with_reducible assumption) | skip); (try and_intros) <;> first | with_reducible assumption | (clear f8_c2 f8 hK_0_1 hK_0_160 hK_0_162 hK_0_163 f2 f7; omega)) | ((have f8_c0 := f8.1); (have f8_c1 := f8.2.1); (have f8_c2 := f8.2.2); (first | have f2_b := f2 (by clear f8_c2 f8 hK_0_1 hK_0_160 hK_0_162 hK_0_163 f2 f7; omega) | skip); (first | have f7_b := f7 (by clear f8_c2 f8 hK_0_1 hK_0_160 hK_0_162 hK_0_163 f2 f7; omega) | skip); (first | have f2_d := f2 (by with_reducible assumption) | skip); (first | have f7_d := f7 (by with_reducible assumption) | skip); (first | have f8_q := tk_nx0 f8 (by clear f8_c2 f8 hK_0_1 hK_0_160 hK_0_162 hK_0_163 f2 f7; omega) | skip); (try and_intros) <;> first | with_reducible assumption | (clear f8_c2 f8 hK_0_1 hK_0_160 hK_0_162 hK_0_163 f2 f7; omega)) | omega
set_option maxHeartbeats 4000000 in
theorem vc_Mo_product_at_f0_1_4 (x1 : Int) (x2 : Int) (x3 : Int) (x4 : Int) (x5 : Int) (x6 : Int) (styleKind_0 : Int) (styleOne_0 : Int) (tokenKind_0 : Int → Int) (cur_0 : Int) (tokens_0 : Int) (opened_0 : Int) (tokenValue_0 : Int → Int) (tokenPlace_0 : Int → Int) (tokenEnd_0 : Int → Int) (tape_0 : Int → Int) (fault_0 : Int) (limit_0 : Int) (gx : Int) (k1 : 0 ≤ x1 ∧ x1 ≤ 2009) (k2 : 0 ≤ x2 ∧ x2 ≤ 5) (k3 : 0 ≤ x3 ∧ x3 ≤ 13) (k4 : 0 ≤ x4 ∧ x4 ≤ 2009) (k5 : 0 ≤ x5 ∧ x5 ≤ 5) (k6 : 0 ≤ x6 ∧ x6 ≤ 13) (f0 : 1 * x3 + 0 ≤ 0) (f1 : (-1) * x3 + 0 ≤ 0) (f2 : (styleKind_0 = 0) → (styleOne_0 ≤ 23)) (f3 : 1 * x1 + ((-1) * x4 + 0) ≤ 0) (f4 : x4 = x1) (f5 : x5 = x2) (f6 : x6 = x3) (f7 : (styleKind_0 = 0) → (styleOne_0 ≤ 23)) (f8 : ((cur_0 + 1) ≤ tokens_0) ∧ ((tokens_0 ≤ 2010) ∧ ((tokenKind_0 ((tokens_0 - 1)) = 0) ∨ (tokenKind_0 ((tokens_0 - 1)) = 4)))) (f9 : 1 * x4 + ((-1) * cur_0 + 0) ≤ 0) (f10 : 1 * opened_0 + 0 ≤ 0) (f11 : (-1) * opened_0 + 0 ≤ 0) (f12 : SVL (fault_0) (cur_0) (styleKind_0) (limit_0) (tokenKind_0) (tokenValue_0) (tokenPlace_0) (tokenEnd_0) (tape_0) (x4) (x5) (x6)) (f14 : 1 * x3 + 0 ≤ 0) (f15 : (-1) * x3 + 0 ≤ 0) (f16 : 1 * x1 + ((-1) * x4 + 0) ≤ 0) (hK_0_1 : ∀ j : Int, 0 ≤ j → j < 2000 → (-128) ≤ tape_0 j ∧ tape_0 j ≤ 127) (hK_0_160 : ∀ j : Int, 0 ≤ j → j < 2010 → 0 ≤ tokenKind_0 j ∧ tokenKind_0 j ≤ 4) (hK_0_162 : ∀ j : Int, 0 ≤ j → j < 2010 → 0 ≤ tokenPlace_0 j ∧ tokenPlace_0 j ≤ 2000) (hK_0_163 : ∀ j : Int, 0 ≤ j → j < 2010 → 0 ≤ tokenEnd_0 j ∧ tokenEnd_0 j ≤ 2000) (kz_0_8 : 0 ≤ fault_0 ∧ fault_0 ≤ 5) (kz_0_10 : 0 ≤ limit_0 ∧ limit_0 ≤ 2000) (kz_0_157 : 0 ≤ tokens_0 ∧ tokens_0 ≤ 2010) (kz_0_158 : 0 ≤ cur_0 ∧ cur_0 ≤ 2009) (kz_0_159 : 0 ≤ opened_0 ∧ opened_0 ≤ 13) (kz_0_164 : 0 ≤ styleKind_0 ∧ styleKind_0 ≤ 1) (kz_0_165 : (-1) ≤ styleOne_0 ∧ styleOne_0 ≤ 47) (ex2 : gx = 2010 + ((-1) * cur_0 + 0)) (ex3 : 0 ≤ gx ∧ gx ≤ 2010) : (-1) * opened_0 + 0 ≤ 0 := by
  first | with_reducible assumption | ((have f8_c0 := f8.1); (have f8_c1 := f8.2.1); (have f8_c2 := f8.2.2); (try and_intros) <;> first | with_reducible assumption | (clear f8_c2 f8 hK_0_1 hK_0_160 hK_0_162 hK_0_163 f2 f7; omega)) | ((have f8_c0 := f8.1); (have f8_c1 := f8.2.1); (have f8_c2 := f8.2.2); (first | have f2_b := f2 (by clear f8_c2 f8 hK_0_1 hK_0_160 hK_0_162 hK_0_163 f2 f7; omega) | skip); (first | have f7_b := f7 (by clear f8_c2 f8 hK_0_1 hK_0_160 hK_0_162 hK_0_163 f2 f7; omega) | skip); (first | have f2_d := f2 (by with_reducible assumption) | skip); (first | have f7_d := f7 (by with_reducible assumption) | skip); (try and_intros) <;> first | with_reducible assumption | (clear f8_c2 f8 hK_0_1 hK_0_160 hK_0_162 hK_0_163 f2 f7; omega)) | ((have f8_c0 := f8.1); (have f8_c1 := f8.2.1); (have f8_c2 := f8.2.2); (first | have f2_b := f2 (by clear f8_c2 f8 hK_0_1 hK_0_160 hK_0_162 hK_0_163 f2 f7; omega) | skip); (first | have f7_b := f7 (by clear f8_c2 f8 hK_0_1 hK_0_160 hK_0_162 hK_0_163 f2 f7; omega) | skip); (first | have f2_d := f2 (by with_reducible assumption) | skip); (first | have f7_d := f7 (by with_reducible assumption) | skip); (first | have f8_q := tk_nx0 f8 (by clear f8_c2 f8 hK_0_1 hK_0_160 hK_0_162 hK_0_163 f2 f7; omega) | skip); (try and_intros) <;> first | with_reducible assumption | (clear f8_c2 f8 hK_0_1 hK_0_160 hK_0_162 hK_0_163 f2 f7; omega)) | omega
set_option maxHeartbeats 4000000 in
theorem vc_Mo_product_at_f0_1_5 (x1 : Int) (x2 : Int) (x3 : Int) (x4 : Int) (x5 : Int) (x6 : Int) (styleKind_0 : Int) (styleOne_0 : Int) (tokenKind_0 : Int → Int) (cur_0 : Int) (tokens_0 : Int) (opened_0 : Int) (tokenValue_0 : Int → Int) (tokenPlace_0 : Int → Int) (tokenEnd_0 : Int → Int) (tape_0 : Int → Int) (fault_0 : Int) (limit_0 : Int) (gx : Int) (k1 : 0 ≤ x1 ∧ x1 ≤ 2009) (k2 : 0 ≤ x2 ∧ x2 ≤ 5) (k3 : 0 ≤ x3 ∧ x3 ≤ 13) (k4 : 0 ≤ x4 ∧ x4 ≤ 2009) (k5 : 0 ≤ x5 ∧ x5 ≤ 5) (k6 : 0 ≤ x6 ∧ x6 ≤ 13) (f0 : 1 * x3 + 0 ≤ 0) (f1 : (-1) * x3 + 0 ≤ 0) (f2 : (styleKind_0 = 0) → (styleOne_0 ≤ 23)) (f3 : 1 * x1 + ((-1) * x4 + 0) ≤ 0) (f4 : x4 = x1) (f5 : x5 = x2) (f6 : x6 = x3) (f7 : (styleKind_0 = 0) → (styleOne_0 ≤ 23)) (f8 : ((cur_0 + 1) ≤ tokens_0) ∧ ((tokens_0 ≤ 2010) ∧ ((tokenKind_0 ((tokens_0 - 1)) = 0) ∨ (tokenKind_0 ((tokens_0 - 1)) = 4)))) (f9 : 1 * x4 + ((-1) * cur_0 + 0) ≤ 0) (f10 : 1 * opened_0 + 0 ≤ 0) (f11 : (-1) * opened_0 + 0 ≤ 0) (f12 : SVL (fault_0) (cur_0) (styleKind_0) (limit_0) (tokenKind_0) (tokenValue_0) (tokenPlace_0) (tokenEnd_0) (tape_0) (x4) (x5) (x6)) (f14 : 1 * x3 + 0 ≤ 0) (f15 : (-1) * x3 + 0 ≤ 0) (f16 : 1 * x1 + ((-1) * x4 + 0) ≤ 0) (hK_0_1 : ∀ j : Int, 0 ≤ j → j < 2000 → (-128) ≤ tape_0 j ∧ tape_0 j ≤ 127) (hK_0_160 : ∀ j : Int, 0 ≤ j → j < 2010 → 0 ≤ tokenKind_0 j ∧ tokenKind_0 j ≤ 4) (hK_0_162 : ∀ j : Int, 0 ≤ j → j < 2010 → 0 ≤ tokenPlace_0 j ∧ tokenPlace_0 j ≤ 2000) (hK_0_163 : ∀ j : Int, 0 ≤ j → j < 2010 → 0 ≤ tokenEnd_0 j ∧ tokenEnd_0 j ≤ 2000) (kz_0_8 : 0 ≤ fault_0 ∧ fault_0 ≤ 5) (kz_0_10 : 0 ≤ limit_0 ∧ limit_0 ≤ 2000) (kz_0_157 : 0 ≤ tokens_0 ∧ tokens_0 ≤ 2010) (kz_0_158 : 0 ≤ cur_0 ∧ cur_0 ≤ 2009) (kz_0_159 : 0 ≤ opened_0 ∧ opened_0 ≤ 13) (kz_0_164 : 0 ≤ styleKind_0 ∧ styleKind_0 ≤ 1) (kz_0_165 : (-1) ≤ styleOne_0 ∧ styleOne_0 ≤ 47) (ex2 : gx = 2010 + ((-1) * cur_0 + 0)) (ex3 : 0 ≤ gx ∧ gx ≤ 2010) : SPWv (fault_0) (cur_0) (styleKind_0) (limit_0) (tokenKind_0) (tokenValue_0) (tokenPlace_0) (tokenEnd_0) (tape_0) (x1) (x2) (x3) := by
  first
    | exact spw_start (‹SVL _ _ _ _ _ _ _ _ _ _ _ _›) (by omega) (by omega) (by omega) (by omega)
    | exact spw_go (‹GPW _ _ _ _ _ _ _ _ _ _ _ _›) (‹SVL _ _ _ _ _ _ _ _ _ _ _ _›) (by omega) (by omega) (by omega)
    | assumption
  
set_option maxHeartbeats 4000000 in
theorem vc_Mo_product_at_f0_1_6 (x1 : Int) (x2 : Int) (x3 : Int) (x4 : Int) (x5 : Int) (x6 : Int) (styleKind_0 : Int) (styleOne_0 : Int) (tokenKind_0 : Int → Int) (cur_0 : Int) (tokens_0 : Int) (opened_0 : Int) (tokenValue_0 : Int → Int) (tokenPlace_0 : Int → Int) (tokenEnd_0 : Int → Int) (tape_0 : Int → Int) (fault_0 : Int) (limit_0 : Int) (gx : Int) (k1 : 0 ≤ x1 ∧ x1 ≤ 2009) (k2 : 0 ≤ x2 ∧ x2 ≤ 5) (k3 : 0 ≤ x3 ∧ x3 ≤ 13) (k4 : 0 ≤ x4 ∧ x4 ≤ 2009) (k5 : 0 ≤ x5 ∧ x5 ≤ 5) (k6 : 0 ≤ x6 ∧ x6 ≤ 13) (f0 : 1 * x3 + 0 ≤ 0) (f1 : (-1) * x3 + 0 ≤ 0) (f2 : (styleKind_0 = 0) → (styleOne_0 ≤ 23)) (f3 : 1 * x1 + ((-1) * x4 + 0) ≤ 0) (f4 : x4 = x1) (f5 : x5 = x2) (f6 : x6 = x3) (f7 : (styleKind_0 = 0) → (styleOne_0 ≤ 23)) (f8 : ((cur_0 + 1) ≤ tokens_0) ∧ ((tokens_0 ≤ 2010) ∧ ((tokenKind_0 ((tokens_0 - 1)) = 0) ∨ (tokenKind_0 ((tokens_0 - 1)) = 4)))) (f9 : 1 * x4 + ((-1) * cur_0 + 0) ≤ 0) (f10 : 1 * opened_0 + 0 ≤ 0) (f11 : (-1) * opened_0 + 0 ≤ 0) (f12 : SVL (fault_0) (cur_0) (styleKind_0) (limit_0) (tokenKind_0) (tokenValue_0) (tokenPlace_0) (tokenEnd_0) (tape_0) (x4) (x5) (x6)) (f14 : 1 * x3 + 0 ≤ 0) (f15 : (-1) * x3 + 0 ≤ 0) (f16 : 1 * x1 + ((-1) * x4 + 0) ≤ 0) (hK_0_1 : ∀ j : Int, 0 ≤ j → j < 2000 → (-128) ≤ tape_0 j ∧ tape_0 j ≤ 127) (hK_0_160 : ∀ j : Int, 0 ≤ j → j < 2010 → 0 ≤ tokenKind_0 j ∧ tokenKind_0 j ≤ 4) (hK_0_162 : ∀ j : Int, 0 ≤ j → j < 2010 → 0 ≤ tokenPlace_0 j ∧ tokenPlace_0 j ≤ 2000) (hK_0_163 : ∀ j : Int, 0 ≤ j → j < 2010 → 0 ≤ tokenEnd_0 j ∧ tokenEnd_0 j ≤ 2000) (kz_0_8 : 0 ≤ fault_0 ∧ fault_0 ≤ 5) (kz_0_10 : 0 ≤ limit_0 ∧ limit_0 ≤ 2000) (kz_0_157 : 0 ≤ tokens_0 ∧ tokens_0 ≤ 2010) (kz_0_158 : 0 ≤ cur_0 ∧ cur_0 ≤ 2009) (kz_0_159 : 0 ≤ opened_0 ∧ opened_0 ≤ 13) (kz_0_164 : 0 ≤ styleKind_0 ∧ styleKind_0 ≤ 1) (kz_0_165 : (-1) ≤ styleOne_0 ∧ styleOne_0 ≤ 47) (ex2 : gx = 2010 + ((-1) * cur_0 + 0)) (ex3 : 0 ≤ gx ∧ gx ≤ 2010) : 1 * x3 + 0 ≤ 0 := by
  first | with_reducible assumption | ((have f8_c0 := f8.1); (have f8_c1 := f8.2.1); (have f8_c2 := f8.2.2); (try and_intros) <;> first | with_reducible assumption | (clear f8_c2 f8 hK_0_1 hK_0_160 hK_0_162 hK_0_163 f2 f7; omega)) | ((have f8_c0 := f8.1); (have f8_c1 := f8.2.1); (have f8_c2 := f8.2.2); (first | have f2_b := f2 (by clear f8_c2 f8 hK_0_1 hK_0_160 hK_0_162 hK_0_163 f2 f7; omega) | skip); (first | have f7_b := f7 (by clear f8_c2 f8 hK_0_1 hK_0_160 hK_0_162 hK_0_163 f2 f7; omega) | skip); (first | have f2_d := f2 (by with_reducible assumption) | skip); (first | have f7_d := f7 (by with_reducible assumption) | skip); (try and_intros) <;> first | with_reducible assumption | (clear f8_c2 f8 hK_0_1 hK_0_160 hK_0_162 hK_0_163 f2 f7; omega)) | ((have f8_c0 := f8.1); (have f8_c1 := f8.2.1); (have f8_c2 := f8.2.2); (first | have f2_b := f2 (by clear f8_c2 f8 hK_0_1 hK_0_160 hK_0_162 hK_0_163 f2 f7; omega) | skip); (first | have f7_b := f7 (by clear f8_c2 f8 hK_0_1 hK_0_160 hK_0_162 hK_0_163 f2 f7; omega) | skip); (first | have f2_d := f2 (by with_reducible assumption) | skip); (first | have f7_d := f7 (by with_reducible assumption) | skip); (first | have f8_q := tk_nx0 f8 (by clear f8_c2 f8 hK_0_1 hK_0_160 hK_0_162 hK_0_163 f2 f7; omega) | skip); (try and_intros) <;> first | with_reducible assumption | (clear f8_c2 f8 hK_0_1 hK_0_160 hK_0_162 hK_0_163 f2 f7; omega)) | omega
set_option maxHeartbeats 4000000 in
theorem vc_Mo_product_at_f0_1_7 (x1 : Int) (x2 : Int) (x3 : Int) (x4 : Int) (x5 : Int) (x6 : Int) (styleKind_0 : Int) (styleOne_0 : Int) (tokenKind_0 : Int → Int) (cur_0 : Int) (tokens_0 : Int) (opened_0 : Int) (tokenValue_0 : Int → Int) (tokenPlace_0 : Int → Int) (tokenEnd_0 : Int → Int) (tape_0 : Int → Int) (fault_0 : Int) (limit_0 : Int) (gx : Int) (k1 : 0 ≤ x1 ∧ x1 ≤ 2009) (k2 : 0 ≤ x2 ∧ x2 ≤ 5) (k3 : 0 ≤ x3 ∧ x3 ≤ 13) (k4 : 0 ≤ x4 ∧ x4 ≤ 2009) (k5 : 0 ≤ x5 ∧ x5 ≤ 5) (k6 : 0 ≤ x6 ∧ x6 ≤ 13) (f0 : 1 * x3 + 0 ≤ 0) (f1 : (-1) * x3 + 0 ≤ 0) (f2 : (styleKind_0 = 0) → (styleOne_0 ≤ 23)) (f3 : 1 * x1 + ((-1) * x4 + 0) ≤ 0) (f4 : x4 = x1) (f5 : x5 = x2) (f6 : x6 = x3) (f7 : (styleKind_0 = 0) → (styleOne_0 ≤ 23)) (f8 : ((cur_0 + 1) ≤ tokens_0) ∧ ((tokens_0 ≤ 2010) ∧ ((tokenKind_0 ((tokens_0 - 1)) = 0) ∨ (tokenKind_0 ((tokens_0 - 1)) = 4)))) (f9 : 1 * x4 + ((-1) * cur_0 + 0) ≤ 0) (f10 : 1 * opened_0 + 0 ≤ 0) (f11 : (-1) * opened_0 + 0 ≤ 0) (f12 : SVL (fault_0) (cur_0) (styleKind_0) (limit_0) (tokenKind_0) (tokenValue_0) (tokenPlace_0) (tokenEnd_0) (tape_0) (x4) (x5) (x6)) (f14 : 1 * x3 + 0 ≤ 0) (f15 : (-1) * x3 + 0 ≤ 0) (f16 : 1 * x1 + ((-1) * x4 + 0) ≤ 0) (hK_0_1 : ∀ j : Int, 0 ≤ j → j < 2000 → (-128) ≤ tape_0 j ∧ tape_0 j ≤ 127) (hK_0_160 : ∀ j : Int, 0 ≤ j → j < 2010 → 0 ≤ tokenKind_0 j ∧ tokenKind_0 j ≤ 4) (hK_0_162 : ∀ j : Int, 0 ≤ j → j < 2010 → 0 ≤ tokenPlace_0 j ∧ tokenPlace_0 j ≤ 2000) (hK_0_163 : ∀ j : Int, 0 ≤ j → j < 2010 → 0 ≤ tokenEnd_0 j ∧ tokenEnd_0 j ≤ 2000) (kz_0_8 : 0 ≤ fault_0 ∧ fault_0 ≤ 5) (kz_0_10 : 0 ≤ limit_0 ∧ limit_0 ≤ 2000) (kz_0_157 : 0 ≤ tokens_0 ∧ tokens_0 ≤ 2010) (kz_0_158 : 0 ≤ cur_0 ∧ cur_0 ≤ 2009) (kz_0_159 : 0 ≤ opened_0 ∧ opened_0 ≤ 13) (kz_0_164 : 0 ≤ styleKind_0 ∧ styleKind_0 ≤ 1) (kz_0_165 : (-1) ≤ styleOne_0 ∧ styleOne_0 ≤ 47) (ex2 : gx = 2010 + ((-1) * cur_0 + 0)) (ex3 : 0 ≤ gx ∧ gx ≤ 2010) : (-1) * x3 + 0 ≤ 0 := by
  first | with_reducible assumption | ((have f8_c0 := f8.1); (have f8_c1 := f8.2.1); (have f8_c2 := f8.2.2); (try and_intros) <;> first | with_reducible assumption | (clear f8_c2 f8 hK_0_1 hK_0_160 hK_0_162 hK_0_163 f2 f7; omega)) | ((have f8_c0 := f8.1); (have f8_c1 := f8.2.1); (have f8_c2 := f8.2.2); (first | have f2_b := f2 (by clear f8_c2 f8 hK_0_1 hK_0_160 hK_0_162 hK_0_163 f2 f7; omega) | skip); (first | have f7_b := f7 (by clear f8_c2 f8 hK_0_1 hK_0_160 hK_0_162 hK_0_163 f2 f7; omega) | skip); (first | have f2_d := f2 (by with_reducible assumption) | skip); (first | have f7_d := f7 (by with_reducible assumption) | skip); (try and_intros) <;> first | with_reducible assumption | (clear f8_c2 f8 hK_0_1 hK_0_160 hK_0_162 hK_0_163 f2 f7; omega)) | ((have f8_c0 := f8.1); (have f8_c1 := f8.2.1); (have f8_c2 := f8.2.2); (first | have f2_b := f2 (by clear f8_c2 f8 hK_0_1 hK_0_160 hK_0_162 hK_0_163 f2 f7; omega) | skip); (first | have f7_b := f7 (by clear f8_c2 f8 hK_0_1 hK_0_160 hK_0_162 hK_0_163 f2 f7; omega) | skip); (first | have f2_d := f2 (by with_reducible assumption) | skip); (first | have f7_d := f7 (by with_reducible assumption) | skip); (first | have f8_q := tk_nx0 f8 (by clear f8_c2 f8 hK_0_1 hK_0_160 hK_0_162 hK_0_163 f2 f7; omega) | skip); (try and_intros) <;> first | with_reducible assumption | (clear f8_c2 f8 hK_0_1 hK_0_160 hK_0_162 hK_0_163 f2 f7; omega)) | omega
set_option maxHeartbeats 4000000 in
theorem vc_Mo_product_at_f0_1_9 (x1 : Int) (x2 : Int) (x3 : Int) (x4 : Int) (x5 : Int) (x6 : Int) (styleKind_0 : Int) (styleOne_0 : Int) (tokenKind_0 : Int → Int) (cur_0 : Int) (tokens_0 : Int) (opened_0 : Int) (tokenValue_0 : Int → Int) (tokenPlace_0 : Int → Int) (tokenEnd_0 : Int → Int) (tape_0 : Int → Int) (fault_0 : Int) (limit_0 : Int) (gx : Int) (k1 : 0 ≤ x1 ∧ x1 ≤ 2009) (k2 : 0 ≤ x2 ∧ x2 ≤ 5) (k3 : 0 ≤ x3 ∧ x3 ≤ 13) (k4 : 0 ≤ x4 ∧ x4 ≤ 2009) (k5 : 0 ≤ x5 ∧ x5 ≤ 5) (k6 : 0 ≤ x6 ∧ x6 ≤ 13) (f0 : 1 * x3 + 0 ≤ 0) (f1 : (-1) * x3 + 0 ≤ 0) (f2 : (styleKind_0 = 0) → (styleOne_0 ≤ 23)) (f3 : 1 * x1 + ((-1) * x4 + 0) ≤ 0) (f4 : x4 = x1) (f5 : x5 = x2) (f6 : x6 = x3) (f7 : (styleKind_0 = 0) → (styleOne_0 ≤ 23)) (f8 : ((cur_0 + 1) ≤ tokens_0) ∧ ((tokens_0 ≤ 2010) ∧ ((tokenKind_0 ((tokens_0 - 1)) = 0) ∨ (tokenKind_0 ((tokens_0 - 1)) = 4)))) (f9 : 1 * x4 + ((-1) * cur_0 + 0) ≤ 0) (f10 : 1 * opened_0 + 0 ≤ 0) (f11 : (-1) * opened_0 + 0 ≤ 0) (f12 : SVL (fault_0) (cur_0) (styleKind_0) (limit_0) (tokenKind_0) (tokenValue_0) (tokenPlace_0) (tokenEnd_0) (tape_0) (x4) (x5) (x6)) (f14 : 1 * x3 + 0 ≤ 0) (f15 : (-1) * x3 + 0 ≤ 0) (f16 : 1 * x1 + ((-1) * x4 + 0) ≤ 0) (hK_0_1 : ∀ j : Int, 0 ≤ j → j < 2000 → (-128) ≤ tape_0 j ∧ tape_0 j ≤ 127) (hK_0_160 : ∀ j : Int, 0 ≤ j → j < 2010 → 0 ≤ tokenKind_0 j ∧ tokenKind_0 j ≤ 4) (hK_0_162 : ∀ j : Int, 0 ≤ j → j < 2010 → 0 ≤ tokenPlace_0 j ∧ tokenPlace_0 j ≤ 2000) (hK_0_163 : ∀ j : Int, 0 ≤ j → j < 2010 → 0 ≤ tokenEnd_0 j ∧ tokenEnd_0 j ≤ 2000) (kz_0_8 : 0 ≤ fault_0 ∧ fault_0 ≤ 5) (kz_0_10 : 0 ≤ limit_0 ∧ limit_0 ≤ 2000) (kz_0_157 : 0 ≤ tokens_0 ∧ tokens_0 ≤ 2010) (kz_0_158 : 0 ≤ cur_0 ∧ cur_0 ≤ 2009) (kz_0_159 : 0 ≤ opened_0 ∧ opened_0 ≤ 13) (kz_0_164 : 0 ≤ styleKind_0 ∧ styleKind_0 ≤ 1) (kz_0_165 : (-1) ≤ styleOne_0 ∧ styleOne_0 ≤ 47) (ex2 : gx = 2010 + ((-1) * cur_0 + 0)) (ex3 : 0 ≤ gx ∧ gx ≤ 2010) : 1 * gx + (1 * cur_0 + 0) ≤ 2010 := by
  first | with_reducible assumption | ((have f8_c0 := f8.1); (have f8_c1 := f8.2.1); (have f8_c2 := f8.2.2); (try and_intros) <;> first | with_reducible assumption | (clear f8_c2 f8 hK_0_1 hK_0_160 hK_0_162 hK_0_163 f2 f7; omega)) | ((have f8_c0 := f8.1); (have f8_c1 := f8.2.1); (have f8_c2 := f8.2.2); (first | have f2_b := f2 (by clear f8_c2 f8 hK_0_1 hK_0_160 hK_0_162 hK_0_163 f2 f7; omega) | skip); (first | have f7_b := f7 (by clear f8_c2 f8 hK_0_1 hK_0_160 hK_0_162 hK_0_163 f2 f7; omega) | skip); (first | have f2_d := f2 (by with_reducible assumption) | skip); (first | have f7_d := f7 (by with_reducible assumption) | skip); (try and_intros) <;> first | with_reducible assumption | (clear f8_c2 f8 hK_0_1 hK_0_160 hK_0_162 hK_0_163 f2 f7; omega)) | ((have f8_c0 := f8.1); (have f8_c1 := f8.2.1); (have f8_c2 := f8.2.2); (first | have f2_b := f2 (by clear f8_c2 f8 hK_0_1 hK_0_160 hK_0_162 hK_0_163 f2 f7; omega) | skip); (first | have f7_b := f7 (by clear f8_c2 f8 hK_0_1 hK_0_160 hK_0_162 hK_0_163 f2 f7; omega) | skip); (first | have f2_d := f2 (by with_reducible assumption) | skip); (first | have f7_d := f7 (by with_reducible assumption) | skip); (first | have f8_q := tk_nx0 f8 (by clear f8_c2 f8 hK_0_1 hK_0_160 hK_0_162 hK_0_163 f2 f7; omega) | skip); (try and_intros) <;> first | with_reducible assumption | (clear f8_c2 f8 hK_0_1 hK_0_160 hK_0_162 hK_0_163 f2 f7; omega)) | omega
set_option maxHeartbeats 4000000 in
theorem vc_Mo_product_at_f0_1_10 (x1 : Int) (x2 : Int) (x3 : Int) (x4 : Int) (x5 : Int) (x6 : Int) (styleKind_0 : Int) (styleOne_0 : Int) (tokenKind_0 : Int → Int) (cur_0 : Int) (tokens_0 : Int) (opened_0 : Int) (tokenValue_0 : Int → Int) (tokenPlace_0 : Int → Int) (tokenEnd_0 : Int → Int) (tape_0 : Int → Int) (fault_0 : Int) (limit_0 : Int) (gx : Int) (k1 : 0 ≤ x1 ∧ x1 ≤ 2009) (k2 : 0 ≤ x2 ∧ x2 ≤ 5) (k3 : 0 ≤ x3 ∧ x3 ≤ 13) (k4 : 0 ≤ x4 ∧ x4 ≤ 2009) (k5 : 0 ≤ x5 ∧ x5 ≤ 5) (k6 : 0 ≤ x6 ∧ x6 ≤ 13) (f0 : 1 * x3 + 0 ≤ 0) (f1 : (-1) * x3 + 0 ≤ 0) (f2 : (styleKind_0 = 0) → (styleOne_0 ≤ 23)) (f3 : 1 * x1 + ((-1) * x4 + 0) ≤ 0) (f4 : x4 = x1) (f5 : x5 = x2) (f6 : x6 = x3) (f7 : (styleKind_0 = 0) → (styleOne_0 ≤ 23)) (f8 : ((cur_0 + 1) ≤ tokens_0) ∧ ((tokens_0 ≤ 2010) ∧ ((tokenKind_0 ((tokens_0 - 1)) = 0) ∨ (tokenKind_0 ((tokens_0 - 1)) = 4)))) (f9 : 1 * x4 + ((-1) * cur_0 + 0) ≤ 0) (f10 : 1 * opened_0 + 0 ≤ 0) (f11 : (-1) * opened_0 + 0 ≤ 0) (f12 : SVL (fault_0) (cur_0) (styleKind_0) (limit_0) (tokenKind_0) (tokenValue_0) (tokenPlace_0) (tokenEnd_0) (tape_0) (x4) (x5) (x6)) (f14 : 1 * x3 + 0 ≤ 0) (f15 : (-1) * x3 + 0 ≤ 0) (f16 : 1 * x1 + ((-1) * x4 + 0) ≤ 0) (hK_0_1 : ∀ j : Int, 0 ≤ j → j < 2000 → (-128) ≤ tape_0 j ∧ tape_0 j ≤ 127) (hK_0_160 : ∀ j : Int, 0 ≤ j → j < 2010 → 0 ≤ tokenKind_0 j ∧ tokenKind_0 j ≤ 4) (hK_0_162 : ∀ j : Int, 0 ≤ j → j < 2010 → 0 ≤ tokenPlace_0 j ∧ tokenPlace_0 j ≤ 2000) (hK_0_163 : ∀ j : Int, 0 ≤ j → j < 2010 → 0 ≤ tokenEnd_0 j ∧ tokenEnd_0 j ≤ 2000) (kz_0_8 : 0 ≤ fault_0 ∧ fault_0 ≤ 5) (kz_0_10 : 0 ≤ limit_0 ∧ limit_0 ≤ 2000) (kz_0_157 : 0 ≤ tokens_0 ∧ tokens_0 ≤ 2010) (kz_0_158 : 0 ≤ cur_0 ∧ cur_0 ≤ 2009) (kz_0_159 : 0 ≤ opened_0 ∧ opened_0 ≤ 13) (kz_0_164 : 0 ≤ styleKind_0 ∧ styleKind_0 ≤ 1) (kz_0_165 : (-1) ≤ styleOne_0 ∧ styleOne_0 ≤ 47) (ex2 : gx = 2010 + ((-1) * cur_0 + 0)) (ex3 : 0 ≤ gx ∧ gx ≤ 2010) : (-1) * gx + ((-1) * cur_0 + 0) ≤ (-2010) := by
  first | with_reducible assumption | ((have f8_c0 := f8.1); (have f8_c1 := f8.2.1); (have f8_c2 := f8.2.2); (try and_intros) <;> first | with_reducible assumption | (clear f8_c2 f8 hK_0_1 hK_0_160 hK_0_162 hK_0_163 f2 f7; omega)) | ((have f8_c0 := f8.1); (have f8_c1 := f8.2.1); (have f8_c2 := f8.2.2); (first | have f2_b := f2 (by clear f8_c2 f8 hK_0_1 hK_0_160 hK_0_162 hK_0_163 f2 f7; omega) | skip); (first | have f7_b := f7 (by clear f8_c2 f8 hK_0_1 hK_0_160 hK_0_162 hK_0_163 f2 f7; omega) | skip); (first | have f2_d := f2 (by with_reducible assumption) | skip); (first | have f7_d := f7 (by with_reducible assumption) | skip); (try and_intros) <;> first | with_reducible assumption | (clear f8_c2 f8 hK_0_1 hK_0_160 hK_0_162 hK_0_163 f2 f7; omega)) | ((have f8_c0 := f8.1); (have f8_c1 := f8.2.1); (have f8_c2 := f8.2.2); (first | have f2_b := f2 (by clear f8_c2 f8 hK_0_1 hK_0_160 hK_0_162 hK_0_163 f2 f7; omega) | skip); (first | have f7_b := f7 (by clear f8_c2 f8 hK_0_1 hK_0_160 hK_0_162 hK_0_163 f2 f7; omega) | skip); (first | have f2_d := f2 (by with_reducible assumption) | skip); (first | have f7_d := f7 (by with_reducible assumption) | skip); (first | have f8_q := tk_nx0 f8 (by clear f8_c2 f8 hK_0_1 hK_0_160 hK_0_162 hK_0_163 f2 f7; omega) | skip); (try and_intros) <;> first | with_reducible assumption | (clear f8_c2 f8 hK_0_1 hK_0_160 hK_0_162 hK_0_163 f2 f7; omega)) | omega
def o_Mo_product_at_f0_1 : or_T := (5, 8, [(0, (2, 0, 0, [165])), (1, (0, 0, 2009, [])), (2, (0, 0, 5, [])), (3, (0, 0, 13, [])), (4, (0, 0, 2009, [])), (5, (0, 0, 5, [])), (6, (0, 0, 13, []))], [(23, [3], [0, 1]), (23, [3], [0, -1]), (20, [0], [50, 2, 0, 164, 165, 4, 7, 1, 3, 2, 0, 164, 0, 0, 0, 3, 2, 0, 165, 0, 23]), (23, [1, 4], [0, 1, -1]), (20, [4, 1], [50, 0, 0, 1, 2, 1, 0, 1, 1]), (20, [5, 2], [50, 0, 0, 1, 2, 1, 0, 1, 1]), (20, [6, 3], [50, 0, 0, 1, 2, 1, 0, 1, 1]), (20, [0], [50, 2, 0, 164, 165, 4, 7, 1, 3, 2, 0, 164, 0, 0, 0, 3, 2, 0, 165, 0, 23]), (20, [0], [50, 2, 1, 158, 157, 160, 2, 12, 0, 7, 4, 3, 2, 0, 158, 0, 1, 2, 0, 157, 2, 7, 0, 3, 2, 0, 157, 0, 2010, 3, 14, 1, 10, 3, 0, 160, 5, 3, 2, 0, 157, 0, 1, 0, 0, 1, 10, 3, 0, 160, 5, 3, 2, 0, 157, 0, 1, 0, 4]), (20, [4, 0], [30, 0, 1, 0, 0, -1, 1, 158]), (20, [0], [30, 0, 1, 1, 159]), (20, [0], [30, 0, -1, 1, 159]), (20, [0, 4, 5, 6], [60, 4, 5, 0, 8, 158, 164, 10, 160, 161, 162, 163, 1]), (102, [6], [0, 165008, 165009, 165158, 165159]), (23, [3], [0, 1]), (23, [3], [0, -1]), (23, [1, 4], [0, 1, -1])], [], [(0, 0, 2010, [])], [(20, [0], [50, 2, 1, 158, 157, 160, 2, 12, 0, 7, 4, 3, 2, 0, 158, 0, 1, 2, 0, 157, 2, 7, 0, 3, 2, 0, 157, 0, 2010, 3, 14, 1, 10, 3, 0, 160, 5, 3, 2, 0, 157, 0, 1, 0, 0, 1, 10, 3, 0, 160, 5, 3, 2, 0, 157, 0, 1, 0, 4]), (20, [1, 0], [30, 0, 1, 0, 0, -1, 1, 158]), (20, [0], [50, 2, 0, 164, 165, 4, 7, 1, 3, 2, 0, 164, 0, 0, 0, 3, 2, 0, 165, 0, 23]), (20, [0], [30, 0, 1, 1, 159]), (20, [0], [30, 0, -1, 1, 159]), (20, [0, 1, 2, 3], [60, 4, 5, 6, 8, 158, 164, 10, 160, 161, 162, 163, 1]), (23, [3], [0, 1]), (23, [3], [0, -1]), (24, [0, 0], []), (20, [8, 0], [30, 2010, 1, 0, 0, 1, 1, 158]), (20, [8, 0], [30, -2010, -1, 0, 0, -1, 1, 158])], [], [])
theorem oo_Mo_product_at_f0_1 {kA : Nat → ClassId} : or_ok PRD kA GG o_Mo_product_at_f0_1 := by
  refine or_mk fun A ta ws vs hD hth hl => ?_
  intro t0 r0 t1 k1 t2 k2 t3 k3 t4 k4 t5 k5 t6 k6 f0 f1 f2 f3 f4 f5 f6 f7 f8 f9 f10 f11 f12 ta1 w1 le1 s1 f14 f15 f16
  replace f0 := shm_1540 f0
  replace f1 := shm_1043 f1
  replace f2 := shm_274 f2
  replace f3 := shm_7 f3
  replace f4 := shm_48 f4
  replace f5 := shm_48 f5
  replace f6 := shm_48 f6
  replace f7 := shm_274 f7
  replace f8 := shm_271 f8
  replace f9 := shm_281 f9
  replace f10 := shm_1029 f10
  replace f11 := shm_1030 f11
  replace f12 := shm_323 f12
  replace f14 := shm_1540 f14
  replace f15 := shm_1043 f15
  replace f16 := shm_7 f16
  have cr_0_1 := fdq_39 hD hth r0
  have cr_0_160 := fdq_33 hD hth r0
  have cr_0_162 := fdq_41 hD hth r0
  have cr_0_163 := fdq_42 hD hth r0
  have hK_0_1 := elq_7 hD hth cr_0_1
  have hK_0_160 := elq_6 hD hth cr_0_160
  have hK_0_162 := elq_8 hD hth cr_0_162
  have hK_0_163 := elq_9 hD hth cr_0_163
  have kz_0_8 := fdq_34 hD hth r0
  have kz_0_10 := fdq_43 hD hth r0
  have kz_0_157 := fdq_35 hD hth r0
  have kz_0_158 := fdq_36 hD hth r0
  have kz_0_159 := fdq_37 hD hth r0
  have kz_0_164 := fdq_38 hD hth r0
  have kz_0_165 := fdq_27 hD hth r0
  obtain ⟨x, ex, hx⟩ := iv_ex (ta := ta) (lo := 0) (hi := 2010) (z := 2010 + ((-1) * w_fi ws (n_v vs 0) 158 + 0)) (by omega) (by omega) (by omega) (by omega)
  have ex2 : v_iv (Value.int x) = 2010 + ((-1) * w_fi ws (n_v vs 0) 158 + 0) := ex
  have ex3 : 0 ≤ v_iv (Value.int x) ∧ v_iv (Value.int x) ≤ 2010 := tv_rng hx
  have e_0 : n_v (vs ++ [Value.int x]) 0 = n_v vs 0 := n_v_old (by rw [hl]; decide)
  have e_1 : n_v (vs ++ [Value.int x]) 1 = n_v vs 1 := n_v_old (by rw [hl]; decide)
  have e_2 : n_v (vs ++ [Value.int x]) 2 = n_v vs 2 := n_v_old (by rw [hl]; decide)
  have e_3 : n_v (vs ++ [Value.int x]) 3 = n_v vs 3 := n_v_old (by rw [hl]; decide)
  have e_8 : n_v (vs ++ [Value.int x]) 8 = Value.int x := n_v_new hl
  have nf0 : fc_1 PRD (20, [0], [50, 2, 1, 158, 157, 160, 2, 12, 0, 7, 4, 3, 2, 0, 158, 0, 1, 2, 0, 157, 2, 7, 0, 3, 2, 0, 157, 0, 2010, 3, 14, 1, 10, 3, 0, 160, 5, 3, 2, 0, 157, 0, 1, 0, 0, 1, 10, 3, 0, 160, 5, 3, 2, 0, 157, 0, 1, 0, 4]) ws (vs ++ [Value.int x]) := by
    refine ⟨nf_inA hl rfl, sgq_271 ?_⟩
    · show ((w_fi ws (n_v (vs ++ [Value.int x]) 0) 158 + 1) ≤ w_fi ws (n_v (vs ++ [Value.int x]) 0) 157) ∧ ((w_fi ws (n_v (vs ++ [Value.int x]) 0) 157 ≤ 2010) ∧ ((w_ei ws (w_ar ws (n_v (vs ++ [Value.int x]) 0) 160) ((w_fi ws (n_v (vs ++ [Value.int x]) 0) 157 - 1)) = 0) ∨ (w_ei ws (w_ar ws (n_v (vs ++ [Value.int x]) 0) 160) ((w_fi ws (n_v (vs ++ [Value.int x]) 0) 157 - 1)) = 4)))
      rw [e_0]
      exact vc_Mo_product_at_f0_1_0 (v_iv (n_v vs 1)) (v_iv (n_v vs 2)) (v_iv (n_v vs 3)) (v_iv (n_v vs 4)) (v_iv (n_v vs 5)) (v_iv (n_v vs 6)) (w_fi ws (n_v vs 0) 164) (w_fi ws (n_v vs 0) 165) (w_ei ws (w_ar ws (n_v vs 0) 160)) (w_fi ws (n_v vs 0) 158) (w_fi ws (n_v vs 0) 157) (w_fi ws (n_v vs 0) 159) (w_ei ws (w_ar ws (n_v vs 0) 161)) (w_ei ws (w_ar ws (n_v vs 0) 162)) (w_ei ws (w_ar ws (n_v vs 0) 163)) (w_ei ws (w_ar ws (n_v vs 0) 1)) (w_fi ws (n_v vs 0) 8) (w_fi ws (n_v vs 0) 10) (v_iv (Value.int x)) k1 k2 k3 k4 k5 k6 f0 f1 f2 f3 f4 f5 f6 f7 f8 f9 f10 f11 f12 f14 f15 f16 hK_0_1 hK_0_160 hK_0_162 hK_0_163 kz_0_8 kz_0_10 kz_0_157 kz_0_158 kz_0_159 kz_0_164 kz_0_165 ex2 ex3
  have nf1 : fc_1 PRD (20, [1, 0], [30, 0, 1, 0, 0, -1, 1, 158]) ws (vs ++ [Value.int x]) := by
    refine ⟨nf_inA hl rfl, sgq_281 ?_⟩
    · show 1 * v_iv (n_v (vs ++ [Value.int x]) 1) + ((-1) * w_fi ws (n_v (vs ++ [Value.int x]) 0) 158 + 0) ≤ 0
      simp only [e_0, e_1]
      exact vc_Mo_product_at_f0_1_1 (v_iv (n_v vs 1)) (v_iv (n_v vs 2)) (v_iv (n_v vs 3)) (v_iv (n_v vs 4)) (v_iv (n_v vs 5)) (v_iv (n_v vs 6)) (w_fi ws (n_v vs 0) 164) (w_fi ws (n_v vs 0) 165) (w_ei ws (w_ar ws (n_v vs 0) 160)) (w_fi ws (n_v vs 0) 158) (w_fi ws (n_v vs 0) 157) (w_fi ws (n_v vs 0) 159) (w_ei ws (w_ar ws (n_v vs 0) 161)) (w_ei ws (w_ar ws (n_v vs 0) 162)) (w_ei ws (w_ar ws (n_v vs 0) 163)) (w_ei ws (w_ar ws (n_v vs 0) 1)) (w_fi ws (n_v vs 0) 8) (w_fi ws (n_v vs 0) 10) (v_iv (Value.int x)) k1 k2 k3 k4 k5 k6 f0 f1 f2 f3 f4 f5 f6 f7 f8 f9 f10 f11 f12 f14 f15 f16 hK_0_1 hK_0_160 hK_0_162 hK_0_163 kz_0_8 kz_0_10 kz_0_157 kz_0_158 kz_0_159 kz_0_164 kz_0_165 ex2 ex3
  have nf2 : fc_1 PRD (20, [0], [50, 2, 0, 164, 165, 4, 7, 1, 3, 2, 0, 164, 0, 0, 0, 3, 2, 0, 165, 0, 23]) ws (vs ++ [Value.int x]) := by
    refine ⟨nf_inA hl rfl, sgq_274 ?_⟩
    · show (w_fi ws (n_v (vs ++ [Value.int x]) 0) 164 = 0) → (w_fi ws (n_v (vs ++ [Value.int x]) 0) 165 ≤ 23)
      rw [e_0]
      exact vc_Mo_product_at_f0_1_2 (v_iv (n_v vs 1)) (v_iv (n_v vs 2)) (v_iv (n_v vs 3)) (v_iv (n_v vs 4)) (v_iv (n_v vs 5)) (v_iv (n_v vs 6)) (w_fi ws (n_v vs 0) 164) (w_fi ws (n_v vs 0) 165) (w_ei ws (w_ar ws (n_v vs 0) 160)) (w_fi ws (n_v vs 0) 158) (w_fi ws (n_v vs 0) 157) (w_fi ws (n_v vs 0) 159) (w_ei ws (w_ar ws (n_v vs 0) 161)) (w_ei ws (w_ar ws (n_v vs 0) 162)) (w_ei ws (w_ar ws (n_v vs 0) 163)) (w_ei ws (w_ar ws (n_v vs 0) 1)) (w_fi ws (n_v vs 0) 8) (w_fi ws (n_v vs 0) 10) (v_iv (Value.int x)) k1 k2 k3 k4 k5 k6 f0 f1 f2 f3 f4 f5 f6 f7 f8 f9 f10 f11 f12 f14 f15 f16 hK_0_1 hK_0_160 hK_0_162 hK_0_163 kz_0_8 kz_0_10 kz_0_157 kz_0_158 kz_0_159 kz_0_164 kz_0_165 ex2 ex3
  have nf3 : fc_1 PRD (20, [0], [30, 0, 1, 1, 159]) ws (vs ++ [Value.int x]) := by
    refine ⟨nf_inA hl rfl, sgq_1029 ?_⟩
    · show 1 * w_fi ws (n_v (vs ++ [Value.int x]) 0) 159 + 0 ≤ 0
      rw [e_0]
      exact vc_Mo_product_at_f0_1_3 (v_iv (n_v vs 1)) (v_iv (n_v vs 2)) (v_iv (n_v vs 3)) (v_iv (n_v vs 4)) (v_iv (n_v vs 5)) (v_iv (n_v vs 6)) (w_fi ws (n_v vs 0) 164) (w_fi ws (n_v vs 0) 165) (w_ei ws (w_ar ws (n_v vs 0) 160)) (w_fi ws (n_v vs 0) 158) (w_fi ws (n_v vs 0) 157) (w_fi ws (n_v vs 0) 159) (w_ei ws (w_ar ws (n_v vs 0) 161)) (w_ei ws (w_ar ws (n_v vs 0) 162)) (w_ei ws (w_ar ws (n_v vs 0) 163)) (w_ei ws (w_ar ws (n_v vs 0) 1)) (w_fi ws (n_v vs 0) 8) (w_fi ws (n_v vs 0) 10) (v_iv (Value.int x)) k1 k2 k3 k4 k5 k6 f0 f1 f2 f3 f4 f5 f6 f7 f8 f9 f10 f11 f12 f14 f15 f16 hK_0_1 hK_0_160 hK_0_162 hK_0_163 kz_0_8 kz_0_10 kz_0_157 kz_0_158 kz_0_159 kz_0_164 kz_0_165 ex2 ex3
  have nf4 : fc_1 PRD (20, [0], [30, 0, -1, 1, 159]) ws (vs ++ [Value.int x]) := by
    refine ⟨nf_inA hl rfl, sgq_1030 ?_⟩
    · show (-1) * w_fi ws (n_v (vs ++ [Value.int x]) 0) 159 + 0 ≤ 0
      rw [e_0]
      exact vc_Mo_product_at_f0_1_4 (v_iv (n_v vs 1)) (v_iv (n_v vs 2)) (v_iv (n_v vs 3)) (v_iv (n_v vs 4)) (v_iv (n_v vs 5)) (v_iv (n_v vs 6)) (w_fi ws (n_v vs 0) 164) (w_fi ws (n_v vs 0) 165) (w_ei ws (w_ar ws (n_v vs 0) 160)) (w_fi ws (n_v vs 0) 158) (w_fi ws (n_v vs 0) 157) (w_fi ws (n_v vs 0) 159) (w_ei ws (w_ar ws (n_v vs 0) 161)) (w_ei ws (w_ar ws (n_v vs 0) 162)) (w_ei ws (w_ar ws (n_v vs 0) 163)) (w_ei ws (w_ar ws (n_v vs 0) 1)) (w_fi ws (n_v vs 0) 8) (w_fi ws (n_v vs 0) 10) (v_iv (Value.int x)) k1 k2 k3 k4 k5 k6 f0 f1 f2 f3 f4 f5 f6 f7 f8 f9 f10 f11 f12 f14 f15 f16 hK_0_1 hK_0_160 hK_0_162 hK_0_163 kz_0_8 kz_0_10 kz_0_157 kz_0_158 kz_0_159 kz_0_164 kz_0_165 ex2 ex3
  have nf5 : fc_1 PRD (20, [0, 1, 2, 3], [60, 4, 5, 6, 8, 158, 164, 10, 160, 161, 162, 163, 1]) ws (vs ++ [Value.int x]) := by
    refine ⟨nf_inA hl rfl, sgq_324 ?_⟩
    · show SPWv (w_fi ws (n_v (vs ++ [Value.int x]) 0) 8) (w_fi ws (n_v (vs ++ [Value.int x]) 0) 158) (w_fi ws (n_v (vs ++ [Value.int x]) 0) 164) (w_fi ws (n_v (vs ++ [Value.int x]) 0) 10) (w_ei ws (w_ar ws (n_v (vs ++ [Value.int x]) 0) 160)) (w_ei ws (w_ar ws (n_v (vs ++ [Value.int x]) 0) 161)) (w_ei ws (w_ar ws (n_v (vs ++ [Value.int x]) 0) 162)) (w_ei ws (w_ar ws (n_v (vs ++ [Value.int x]) 0) 163)) (w_ei ws (w_ar ws (n_v (vs ++ [Value.int x]) 0) 1)) (v_iv (n_v (vs ++ [Value.int x]) 1)) (v_iv (n_v (vs ++ [Value.int x]) 2)) (v_iv (n_v (vs ++ [Value.int x]) 3))
      simp only [e_0, e_1, e_2, e_3]
      exact vc_Mo_product_at_f0_1_5 (v_iv (n_v vs 1)) (v_iv (n_v vs 2)) (v_iv (n_v vs 3)) (v_iv (n_v vs 4)) (v_iv (n_v vs 5)) (v_iv (n_v vs 6)) (w_fi ws (n_v vs 0) 164) (w_fi ws (n_v vs 0) 165) (w_ei ws (w_ar ws (n_v vs 0) 160)) (w_fi ws (n_v vs 0) 158) (w_fi ws (n_v vs 0) 157) (w_fi ws (n_v vs 0) 159) (w_ei ws (w_ar ws (n_v vs 0) 161)) (w_ei ws (w_ar ws (n_v vs 0) 162)) (w_ei ws (w_ar ws (n_v vs 0) 163)) (w_ei ws (w_ar ws (n_v vs 0) 1)) (w_fi ws (n_v vs 0) 8) (w_fi ws (n_v vs 0) 10) (v_iv (Value.int x)) k1 k2 k3 k4 k5 k6 f0 f1 f2 f3 f4 f5 f6 f7 f8 f9 f10 f11 f12 f14 f15 f16 hK_0_1 hK_0_160 hK_0_162 hK_0_163 kz_0_8 kz_0_10 kz_0_157 kz_0_158 kz_0_159 kz_0_164 kz_0_165 ex2 ex3
  have nf6 : fc_1 PRD (23, [3], [0, 1]) ws (vs ++ [Value.int x]) := by
    refine ⟨nf_inA hl rfl, sgq_1540 ?_⟩
    · show 1 * v_iv (n_v (vs ++ [Value.int x]) 3) + 0 ≤ 0
      rw [e_3]
      exact vc_Mo_product_at_f0_1_6 (v_iv (n_v vs 1)) (v_iv (n_v vs 2)) (v_iv (n_v vs 3)) (v_iv (n_v vs 4)) (v_iv (n_v vs 5)) (v_iv (n_v vs 6)) (w_fi ws (n_v vs 0) 164) (w_fi ws (n_v vs 0) 165) (w_ei ws (w_ar ws (n_v vs 0) 160)) (w_fi ws (n_v vs 0) 158) (w_fi ws (n_v vs 0) 157) (w_fi ws (n_v vs 0) 159) (w_ei ws (w_ar ws (n_v vs 0) 161)) (w_ei ws (w_ar ws (n_v vs 0) 162)) (w_ei ws (w_ar ws (n_v vs 0) 163)) (w_ei ws (w_ar ws (n_v vs 0) 1)) (w_fi ws (n_v vs 0) 8) (w_fi ws (n_v vs 0) 10) (v_iv (Value.int x)) k1 k2 k3 k4 k5 k6 f0 f1 f2 f3 f4 f5 f6 f7 f8 f9 f10 f11 f12 f14 f15 f16 hK_0_1 hK_0_160 hK_0_162 hK_0_163 kz_0_8 kz_0_10 kz_0_157 kz_0_158 kz_0_159 kz_0_164 kz_0_165 ex2 ex3
  have nf7 : fc_1 PRD (23, [3], [0, -1]) ws (vs ++ [Value.int x]) := by
    refine ⟨nf_inA hl rfl, sgq_1043 ?_⟩
    · show (-1) * v_iv (n_v (vs ++ [Value.int x]) 3) + 0 ≤ 0
      rw [e_3]
      exact vc_Mo_product_at_f0_1_7 (v_iv (n_v vs 1)) (v_iv (n_v vs 2)) (v_iv (n_v vs 3)) (v_iv (n_v vs 4)) (v_iv (n_v vs 5)) (v_iv (n_v vs 6)) (w_fi ws (n_v vs 0) 164) (w_fi ws (n_v vs 0) 165) (w_ei ws (w_ar ws (n_v vs 0) 160)) (w_fi ws (n_v vs 0) 158) (w_fi ws (n_v vs 0) 157) (w_fi ws (n_v vs 0) 159) (w_ei ws (w_ar ws (n_v vs 0) 161)) (w_ei ws (w_ar ws (n_v vs 0) 162)) (w_ei ws (w_ar ws (n_v vs 0) 163)) (w_ei ws (w_ar ws (n_v vs 0) 1)) (w_fi ws (n_v vs 0) 8) (w_fi ws (n_v vs 0) 10) (v_iv (Value.int x)) k1 k2 k3 k4 k5 k6 f0 f1 f2 f3 f4 f5 f6 f7 f8 f9 f10 f11 f12 f14 f15 f16 hK_0_1 hK_0_160 hK_0_162 hK_0_163 kz_0_8 kz_0_10 kz_0_157 kz_0_158 kz_0_159 kz_0_164 kz_0_165 ex2 ex3
  have nf8 : fc_1 PRD (24, [0, 0], []) ws (vs ++ [Value.int x]) := by
    refine ⟨nf_inA hl rfl, sgq_1 ?_⟩
    · show n_v (vs ++ [Value.int x]) 0 = n_v (vs ++ [Value.int x]) 0
      first | rfl | simp only [e_0]
  have nf9 : fc_1 PRD (20, [8, 0], [30, 2010, 1, 0, 0, 1, 1, 158]) ws (vs ++ [Value.int x]) := by
    refine ⟨nf_inA hl rfl, sgq_284 ?_⟩
    · show 1 * v_iv (n_v (vs ++ [Value.int x]) 8) + (1 * w_fi ws (n_v (vs ++ [Value.int x]) 0) 158 + 0) ≤ 2010
      simp only [e_0, e_8]
      exact vc_Mo_product_at_f0_1_9 (v_iv (n_v vs 1)) (v_iv (n_v vs 2)) (v_iv (n_v vs 3)) (v_iv (n_v vs 4)) (v_iv (n_v vs 5)) (v_iv (n_v vs 6)) (w_fi ws (n_v vs 0) 164) (w_fi ws (n_v vs 0) 165) (w_ei ws (w_ar ws (n_v vs 0) 160)) (w_fi ws (n_v vs 0) 158) (w_fi ws (n_v vs 0) 157) (w_fi ws (n_v vs 0) 159) (w_ei ws (w_ar ws (n_v vs 0) 161)) (w_ei ws (w_ar ws (n_v vs 0) 162)) (w_ei ws (w_ar ws (n_v vs 0) 163)) (w_ei ws (w_ar ws (n_v vs 0) 1)) (w_fi ws (n_v vs 0) 8) (w_fi ws (n_v vs 0) 10) (v_iv (Value.int x)) k1 k2 k3 k4 k5 k6 f0 f1 f2 f3 f4 f5 f6 f7 f8 f9 f10 f11 f12 f14 f15 f16 hK_0_1 hK_0_160 hK_0_162 hK_0_163 kz_0_8 kz_0_10 kz_0_157 kz_0_158 kz_0_159 kz_0_164 kz_0_165 ex2 ex3
  have nf10 : fc_1 PRD (20, [8, 0], [30, -2010, -1, 0, 0, -1, 1, 158]) ws (vs ++ [Value.int x]) := by
    refine ⟨nf_inA hl rfl, sgq_285 ?_⟩
    · show (-1) * v_iv (n_v (vs ++ [Value.int x]) 8) + ((-1) * w_fi ws (n_v (vs ++ [Value.int x]) 0) 158 + 0) ≤ (-2010)
      simp only [e_0, e_8]
      exact vc_Mo_product_at_f0_1_10 (v_iv (n_v vs 1)) (v_iv (n_v vs 2)) (v_iv (n_v vs 3)) (v_iv (n_v vs 4)) (v_iv (n_v vs 5)) (v_iv (n_v vs 6)) (w_fi ws (n_v vs 0) 164) (w_fi ws (n_v vs 0) 165) (w_ei ws (w_ar ws (n_v vs 0) 160)) (w_fi ws (n_v vs 0) 158) (w_fi ws (n_v vs 0) 157) (w_fi ws (n_v vs 0) 159) (w_ei ws (w_ar ws (n_v vs 0) 161)) (w_ei ws (w_ar ws (n_v vs 0) 162)) (w_ei ws (w_ar ws (n_v vs 0) 163)) (w_ei ws (w_ar ws (n_v vs 0) 1)) (w_fi ws (n_v vs 0) 8) (w_fi ws (n_v vs 0) 10) (v_iv (Value.int x)) k1 k2 k3 k4 k5 k6 f0 f1 f2 f3 f4 f5 f6 f7 f8 f9 f10 f11 f12 f14 f15 f16 hK_0_1 hK_0_160 hK_0_162 hK_0_163 kz_0_8 kz_0_10 kz_0_157 kz_0_158 kz_0_159 kz_0_164 kz_0_165 ex2 ex3
  exact ⟨(fun _ h => (by cases h)), [Value.int x], ag_one hx, List.forall_mem_cons.mpr ⟨⟨show (20 : Nat) < 100 from by decide, nf0⟩, List.forall_mem_cons.mpr ⟨⟨show (20 : Nat) < 100 from by decide, nf1⟩, List.forall_mem_cons.mpr ⟨⟨show (20 : Nat) < 100 from by decide, nf2⟩, List.forall_mem_cons.mpr ⟨⟨show (20 : Nat) < 100 from by decide, nf3⟩, List.forall_mem_cons.mpr ⟨⟨show (20 : Nat) < 100 from by decide, nf4⟩, List.forall_mem_cons.mpr ⟨⟨show (20 : Nat) < 100 from by decide, nf5⟩, List.forall_mem_cons.mpr ⟨⟨show (23 : Nat) < 100 from by decide, nf6⟩, List.forall_mem_cons.mpr ⟨⟨show (23 : Nat) < 100 from by decide, nf7⟩, List.forall_mem_cons.mpr ⟨⟨show (24 : Nat) < 100 from by decide, nf8⟩, List.forall_mem_cons.mpr ⟨⟨show (20 : Nat) < 100 from by decide, nf9⟩, List.forall_mem_cons.mpr ⟨⟨show (20 : Nat) < 100 from by decide, nf10⟩, (fun _ h => (by cases h))⟩⟩⟩⟩⟩⟩⟩⟩⟩⟩⟩, (fun _ h => (by cases h))⟩
set_option maxHeartbeats 4000000 in
theorem vc_Mo_product_at_f0_2_0 (x1 : Int) (x2 : Int) (x3 : Int) (x6 : Int) (x7 : Int) (cur_0 : Int) (tokenKind_0 : Int → Int) (tokens_0 : Int) (styleKind_0 : Int) (styleOne_0 : Int) (tokenValue_0 : Int → Int) (tokenPlace_0 : Int → Int) (tokenEnd_0 : Int → Int) (tape_0 : Int → Int) (fault_0 : Int) (limit_0 : Int) (gx : Int) (k1 : 0 ≤ x1 ∧ x1 ≤ 2009) (k2 : 0 ≤ x2 ∧ x2 ≤ 5) (k3 : 0 ≤ x3 ∧ x3 ≤ 13) (k6 : 0 ≤ x6 ∧ x6 ≤ 2009) (k7 : 0 ≤ x7 ∧ x7 ≤ 2010) (g0 : x6 = cur_0) (f1 : ((cur_0 + 1) ≤ tokens_0) ∧ ((tokens_0 ≤ 2010) ∧ ((tokenKind_0 ((tokens_0 - 1)) = 0) ∨ (tokenKind_0 ((tokens_0 - 1)) = 4)))) (f2 : 1 * x1 + ((-1) * cur_0 + 0) ≤ 0) (f3 : (styleKind_0 = 0) → (styleOne_0 ≤ 23)) (f4 : SPWv (fault_0) (cur_0) (styleKind_0) (limit_0) (tokenKind_0) (tokenValue_0) (tokenPlace_0) (tokenEnd_0) (tape_0) (x1) (x2) (x3)) (f5 : 1 * x3 + 0 ≤ 0) (f6 : (-1) * x3 + 0 ≤ 0) (f8 : 1 * x7 + (1 * cur_0 + 0) ≤ 2010) (f9 : (-1) * x7 + ((-1) * cur_0 + 0) ≤ (-2010)) (hK_0_1 : ∀ j : Int, 0 ≤ j → j < 2000 → (-128) ≤ tape_0 j ∧ tape_0 j ≤ 127) (hK_0_160 : ∀ j : Int, 0 ≤ j → j < 2010 → 0 ≤ tokenKind_0 j ∧ tokenKind_0 j ≤ 4) (hK_0_162 : ∀ j : Int, 0 ≤ j → j < 2010 → 0 ≤ tokenPlace_0 j ∧ tokenPlace_0 j ≤ 2000) (hK_0_163 : ∀ j : Int, 0 ≤ j → j < 2010 → 0 ≤ tokenEnd_0 j ∧ tokenEnd_0 j ≤ 2000) (kz_0_8 : 0 ≤ fault_0 ∧ fault_0 ≤ 5) (kz_0_10 : 0 ≤ limit_0 ∧ limit_0 ≤ 2000) (kz_0_157 : 0 ≤ tokens_0 ∧ tokens_0 ≤ 2010) (kz_0_158 : 0 ≤ cur_0 ∧ cur_0 ≤ 2009) (kz_0_164 : 0 ≤ styleKind_0 ∧ styleKind_0 ≤ 1) (kz_0_165 : (-1) ≤ styleOne_0 ∧ styleOne_0 ≤ 47) (ex2 : gx = fault_0) (ex3 : 0 ≤ gx ∧ gx ≤ 5) : fault_0 = gx := by
  first | with_reducible assumption | ((have f1_c0 := f1.1); (have f1_c1 := f1.2.1); (have f1_c2 := f1.2.2); (try and_intros) <;> first | with_reducible assumption | (clear f1_c2 f1 hK_0_1 hK_0_160 hK_0_162 hK_0_163 f3; omega)) | ((have f1_c0 := f1.1); (have f1_c1 := f1.2.1); (have f1_c2 := f1.2.2); (first | have f3_b := f3 (by clear f1_c2 f1 hK_0_1 hK_0_160 hK_0_162 hK_0_163 f3; omega) | skip); (first | have f3_d := f3 (by with_reducible assumption) | skip); (try and_intros) <;> first | with_reducible assumption | (clear f1_c2 f1 hK_0_1 hK_0_160 hK_0_162 hK_0_163 f3; omega)) | ((have f1_c0 := f1.1); (have f1_c1 := f1.2.1); (have f1_c2 := f1.2.2); (first | have f3_b := f3 (by clear f1_c2 f1 hK_0_1 hK_0_160 hK_0_162 hK_0_163 f3; omega) | skip); (first | have f3_d := f3 (by with_reducible assumption) | skip); (first | have f1_q := tk_nx0 f1 (by clear f1_c2 f1 hK_0_1 hK_0_160 hK_0_162 hK_0_163 f3; omega) | skip); (try and_intros) <;> first | with_reducible assumption | (clear f1_c2 f1 hK_0_1 hK_0_160 hK_0_162 hK_0_163 f3; omega)) | omega
def o_Mo_product_at_f0_2 : or_T := (8, 9, [(0, (2, 0, 0, [165])), (1, (0, 0, 2009, [])), (2, (0, 0, 5, [])), (3, (0, 0, 13, [])), (6, (0, 0, 2009, [])), (7, (0, 0, 2010, []))], [(9, [6, 4], [158]), (20, [4], [50, 2, 1, 158, 157, 160, 2, 12, 0, 7, 4, 3, 2, 0, 158, 0, 1, 2, 0, 157, 2, 7, 0, 3, 2, 0, 157, 0, 2010, 3, 14, 1, 10, 3, 0, 160, 5, 3, 2, 0, 157, 0, 1, 0, 0, 1, 10, 3, 0, 160, 5, 3, 2, 0, 157, 0, 1, 0, 4]), (20, [1, 4], [30, 0, 1, 0, 0, -1, 1, 158]), (20, [4], [50, 2, 0, 164, 165, 4, 7, 1, 3, 2, 0, 164, 0, 0, 0, 3, 2, 0, 165, 0, 23]), (20, [4, 1, 2, 3], [60, 4, 5, 6, 8, 158, 164, 10, 160, 161, 162, 163, 1]), (23, [3], [0, 1]), (23, [3], [0, -1]), (24, [0, 4], []), (20, [7, 4], [30, 2010, 1, 0, 0, 1, 1, 158]), (20, [7, 4], [30, -2010, -1, 0, 0, -1, 1, 158])], [], [(0, 0, 5, [])], [(20, [4, 9], [50, 1, 0, 8, 1, 3, 2, 0, 8, 1, 1])], [], [])
theorem oo_Mo_product_at_f0_2 {kA : Nat → ClassId} : or_ok PRD kA GG o_Mo_product_at_f0_2 := by
  refine or_mk fun A ta ws vs hD hth hl => ?_
  intro t0 r0 t1 k1 t2 k2 t3 k3 t6 k6 t7 k7 f0 f1 f2 f3 f4 f5 f6 f7 f8 f9
  replace f0 := shm_286 f0
  replace f1 := shm_271 f1
  replace f2 := shm_281 f2
  replace f3 := shm_274 f3
  replace f4 := shm_324 f4
  replace f5 := shm_1540 f5
  replace f6 := shm_1043 f6
  replace f7 := shm_5 f7
  replace f8 := shm_284 f8
  replace f9 := shm_285 f9
  have q4 : n_v vs 4 = n_v vs 0 := f7.symm
  simp only [q4] at f0 f1 f2 f3 f4 f8 f9
  have cr_0_1 := fdq_39 hD hth r0
  have cr_0_160 := fdq_33 hD hth r0
  have cr_0_162 := fdq_41 hD hth r0
  have cr_0_163 := fdq_42 hD hth r0
  have g0 : v_iv (n_v vs 6) = w_fi ws (n_v vs 0) 158 := congrArg v_iv f0
  have hK_0_1 := elq_7 hD hth cr_0_1
  have hK_0_160 := elq_6 hD hth cr_0_160
  have hK_0_162 := elq_8 hD hth cr_0_162
  have hK_0_163 := elq_9 hD hth cr_0_163
  have kz_0_8 := fdq_34 hD hth r0
  have kz_0_10 := fdq_43 hD hth r0
  have kz_0_157 := fdq_35 hD hth r0
  have kz_0_158 := fdq_36 hD hth r0
  have kz_0_164 := fdq_38 hD hth r0
  have kz_0_165 := fdq_27 hD hth r0
  obtain ⟨x, ex, hx⟩ := iv_ex (ta := ta) (lo := 0) (hi := 5) (z := w_fi ws (n_v vs 0) 8) (by omega) (by omega) (by omega) (by omega)
  have ex2 : v_iv (Value.int x) = w_fi ws (n_v vs 0) 8 := ex
  have ex3 : 0 ≤ v_iv (Value.int x) ∧ v_iv (Value.int x) ≤ 5 := tv_rng hx
  have e_4 : n_v (vs ++ [Value.int x]) 4 = n_v vs 4 := n_v_old (by rw [hl]; decide)
  have e_9 : n_v (vs ++ [Value.int x]) 9 = Value.int x := n_v_new hl
  have nf0 : fc_1 PRD (20, [4, 9], [50, 1, 0, 8, 1, 3, 2, 0, 8, 1, 1]) ws (vs ++ [Value.int x]) := by
    refine ⟨nf_inA hl rfl, sgq_277 ?_⟩
    · show w_fi ws (n_v (vs ++ [Value.int x]) 4) 8 = v_iv (n_v (vs ++ [Value.int x]) 9)
      simp only [e_4, e_9, q4]
      exact vc_Mo_product_at_f0_2_0 (v_iv (n_v vs 1)) (v_iv (n_v vs 2)) (v_iv (n_v vs 3)) (v_iv (n_v vs 6)) (v_iv (n_v vs 7)) (w_fi ws (n_v vs 0) 158) (w_ei ws (w_ar ws (n_v vs 0) 160)) (w_fi ws (n_v vs 0) 157) (w_fi ws (n_v vs 0) 164) (w_fi ws (n_v vs 0) 165) (w_ei ws (w_ar ws (n_v vs 0) 161)) (w_ei ws (w_ar ws (n_v vs 0) 162)) (w_ei ws (w_ar ws (n_v vs 0) 163)) (w_ei ws (w_ar ws (n_v vs 0) 1)) (w_fi ws (n_v vs 0) 8) (w_fi ws (n_v vs 0) 10) (v_iv (Value.int x)) k1 k2 k3 k6 k7 g0 f1 f2 f3 f4 f5 f6 f8 f9 hK_0_1 hK_0_160 hK_0_162 hK_0_163 kz_0_8 kz_0_10 kz_0_157 kz_0_158 kz_0_164 kz_0_165 ex2 ex3
  exact ⟨(fun _ h => (by cases h)), [Value.int x], ag_one hx, List.forall_mem_cons.mpr ⟨⟨show (20 : Nat) < 100 from by decide, nf0⟩, (fun _ h => (by cases h))⟩, (fun _ h => (by cases h))⟩
set_option maxHeartbeats 4000000 in
theorem vc_Mo_product_at_f0_3_0 (x1 : Int) (x2 : Int) (x3 : Int) (x6 : Int) (x7 : Int) (x8 : Int) (x9 : Int) (x10 : Int) (cur_0 : Int) (tokenKind_0 : Int → Int) (tokenValue_0 : Int → Int) (fault_0 : Int) (tokens_0 : Int) (styleKind_0 : Int) (styleOne_0 : Int) (tokenPlace_0 : Int → Int) (tokenEnd_0 : Int → Int) (tape_0 : Int → Int) (limit_0 : Int) (gx : Int) (k1 : 0 ≤ x1 ∧ x1 ≤ 2009) (k2 : 0 ≤ x2 ∧ x2 ≤ 5) (k3 : 0 ≤ x3 ∧ x3 ≤ 13) (k6 : 0 ≤ x6 ∧ x6 ≤ 2009) (k7 : 0 ≤ x7 ∧ x7 ≤ 2010) (k8 : 42 ≤ x8 ∧ x8 ≤ 42) (k9 : 0 ≤ x9 ∧ x9 ≤ 5) (k10 : 0 ≤ x10 ∧ x10 ≤ 0) (g0 : x6 = cur_0) (f1 : x10 = 0) (f2 : (x10 = 1) → (tokenKind_0 (cur_0) = 3)) (f3 : SGN (cur_0) (tokenKind_0) (tokenValue_0) (x8) (x10) (x9)) (f4 : fault_0 = x9) (f5 : ((cur_0 + 1) ≤ tokens_0) ∧ ((tokens_0 ≤ 2010) ∧ ((tokenKind_0 ((tokens_0 - 1)) = 0) ∨ (tokenKind_0 ((tokens_0 - 1)) = 4)))) (f6 : 1 * x1 + ((-1) * cur_0 + 0) ≤ 0) (f7 : (styleKind_0 = 0) → (styleOne_0 ≤ 23)) (f8 : SPWv (fault_0) (cur_0) (styleKind_0) (limit_0) (tokenKind_0) (tokenValue_0) (tokenPlace_0) (tokenEnd_0) (tape_0) (x1) (x2) (x3)) (f9 : 1 * x3 + 0 ≤ 0) (f10 : (-1) * x3 + 0 ≤ 0) (f12 : 1 * x7 + (1 * cur_0 + 0) ≤ 2010) (f13 : (-1) * x7 + ((-1) * cur_0 + 0) ≤ (-2010)) (hK_0_1 : ∀ j : Int, 0 ≤ j → j < 2000 → (-128) ≤ tape_0 j ∧ tape_0 j ≤ 127) (hK_0_160 : ∀ j : Int, 0 ≤ j → j < 2010 → 0 ≤ tokenKind_0 j ∧ tokenKind_0 j ≤ 4) (hK_0_162 : ∀ j : Int, 0 ≤ j → j < 2010 → 0 ≤ tokenPlace_0 j ∧ tokenPlace_0 j ≤ 2000) (hK_0_163 : ∀ j : Int, 0 ≤ j → j < 2010 → 0 ≤ tokenEnd_0 j ∧ tokenEnd_0 j ≤ 2000) (kz_0_8 : 0 ≤ fault_0 ∧ fault_0 ≤ 5) (kz_0_10 : 0 ≤ limit_0 ∧ limit_0 ≤ 2000) (kz_0_157 : 0 ≤ tokens_0 ∧ tokens_0 ≤ 2010) (kz_0_158 : 0 ≤ cur_0 ∧ cur_0 ≤ 2009) (kz_0_164 : 0 ≤ styleKind_0 ∧ styleKind_0 ≤ 1) (kz_0_165 : (-1) ≤ styleOne_0 ∧ styleOne_0 ≤ 47) (ex2 : gx = fault_0) (ex3 : 0 ≤ gx ∧ gx ≤ 5) : fault_0 = gx := by
  first | with_reducible assumption | ((have f5_c0 := f5.1); (have f5_c1 := f5.2.1); (have f5_c2 := f5.2.2); (try and_intros) <;> first | with_reducible assumption | (clear f5_c2 f5 hK_0_1 hK_0_160 hK_0_162 hK_0_163 f2 f7; omega)) | ((have f5_c0 := f5.1); (have f5_c1 := f5.2.1); (have f5_c2 := f5.2.2); (first | have f2_b := f2 (by clear f5_c2 f5 hK_0_1 hK_0_160 hK_0_162 hK_0_163 f2 f7; omega) | skip); (first | have f7_b := f7 (by clear f5_c2 f5 hK_0_1 hK_0_160 hK_0_162 hK_0_163 f2 f7; omega) | skip); (first | have f2_d := f2 (by with_reducible assumption) | skip); (first | have f7_d := f7 (by with_reducible assumption) | skip); (try and_intros) <;> first | with_reducible assumption | (clear f5_c2 f5 hK_0_1 hK_0_160 hK_0_162 hK_0_163 f2 f7; omega)) | ((have f5_c0 := f5.1); (have f5_c1 := f5.2.1); (have f5_c2 := f5.2.2); (first | have f2_b := f2 (by clear f5_c2 f5 hK_0_1 hK_0_160 hK_0_162 hK_0_163 f2 f7; omega) | skip); (first | have f7_b := f7 (by clear f5_c2 f5 hK_0_1 hK_0_160 hK_0_162 hK_0_163 f2 f7; omega) | skip); (first | have f2_d := f2 (by with_reducible assumption) | skip); (first | have f7_d := f7 (by with_reducible assumption) | skip); (first | have f5_q := tk_nx0 f5 (by clear f5_c2 f5 hK_0_1 hK_0_160 hK_0_162 hK_0_163 f2 f7; omega) | skip); (try and_intros) <;> first | with_reducible assumption | (clear f5_c2 f5 hK_0_1 hK_0_160 hK_0_162 hK_0_163 f2 f7; omega)) | ((have f5_c0 := f5.1); (have f5_c1 := f5.2.1); (have f5_c2 := f5.2.2); (first | have f2_b := f2 (by clear f5_c2 f5 hK_0_1 hK_0_160 hK_0_162 hK_0_163 f2 f7; omega) | skip); (first | have f7_b := f7 (by clear f5_c2 f5 hK_0_1 hK_0_160 hK_0_162 hK_0_163 f2 f7; omega) | skip); (first | have f2_d := f2 (by with_reducible assumption) | skip); (first | have f7_d := f7 (by with_reducible assumption) | skip); (first | have f5_q := tk_nx0 f5 (by clear f5_c2 f5 hK_0_1 hK_0_160 hK_0_162 hK_0_163 f2 f7; omega) | skip); (first | have f5_r0 := tk_nx1 (c := cur_0) f5.2 (by clear f5_c2 f5 hK_0_1 hK_0_160 hK_0_162 hK_0_163 f2 f7; omega) (by clear f5_c2 f5 hK_0_1 hK_0_160 hK_0_162 hK_0_163 f2 f7; omega) | skip); (try and_intros) <;> first | with_reducible assumption | (clear f5_c2 f5 hK_0_1 hK_0_160 hK_0_162 hK_0_163 f2 f7; omega)) | omega
def o_Mo_product_at_f0_3 : or_T := (17, 12, [(0, (2, 0, 0, [165])), (1, (0, 0, 2009, [])), (2, (0, 0, 5, [])), (3, (0, 0, 13, [])), (6, (0, 0, 2009, [])), (7, (0, 0, 2010, [])), (8, (0, 42, 42, [])), (9, (0, 0, 5, [])), (10, (0, 0, 0, []))], [(9, [6, 4], [158]), (8, [10], [0]), (20, [10, 4], [50, 1, 1, 1158, 1160, 4, 6, 1, 2, 1, 0, 0, 1, 1, 6, 3, 1, 160, 2, 1, 158, 0, 3]), (20, [4, 8, 10, 9], [60, 1, 2, 14, 158, 160, 161]), (20, [4, 9], [50, 1, 0, 8, 1, 3, 2, 0, 8, 1, 1]), (20, [4], [50, 2, 1, 158, 157, 160, 2, 12, 0, 7, 4, 3, 2, 0, 158, 0, 1, 2, 0, 157, 2, 7, 0, 3, 2, 0, 157, 0, 2010, 3, 14, 1, 10, 3, 0, 160, 5, 3, 2, 0, 157, 0, 1, 0, 0, 1, 10, 3, 0, 160, 5, 3, 2, 0, 157, 0, 1, 0, 4]), (20, [1, 4], [30, 0, 1, 0, 0, -1, 1, 158]), (20, [4], [50, 2, 0, 164, 165, 4, 7, 1, 3, 2, 0, 164, 0, 0, 0, 3, 2, 0, 165, 0, 23]), (20, [4, 1, 2, 3], [60, 4, 5, 6, 8, 158, 164, 10, 160, 161, 162, 163, 1]), (23, [3], [0, 1]), (23, [3], [0, -1]), (24, [0, 4], []), (20, [7, 4], [30, 2010, 1, 0, 0, 1, 1, 158]), (20, [7, 4], [30, -2010, -1, 0, 0, -1, 1, 158])], [], [(0, 0, 5, [])], [(20, [4, 12], [50, 1, 0, 8, 1, 3, 2, 0, 8, 1, 1])], [], [])
theorem oo_Mo_product_at_f0_3 {kA : Nat → ClassId} : or_ok PRD kA GG o_Mo_product_at_f0_3 := by
  refine or_mk fun A ta ws vs hD hth hl => ?_
  intro t0 r0 t1 k1 t2 k2 t3 k3 t6 k6 t7 k7 t8 k8 t9 k9 t10 k10 f0 f1 f2 f3 f4 f5 f6 f7 f8 f9 f10 f11 f12 f13
  replace f0 := shm_286 f0
  replace f1 := shm_192 f1
  replace f2 := shm_296 f2
  replace f3 := shm_297 f3
  replace f4 := shm_277 f4
  replace f5 := shm_271 f5
  replace f6 := shm_281 f6
  replace f7 := shm_274 f7
  replace f8 := shm_324 f8
  replace f9 := shm_1540 f9
  replace f10 := shm_1043 f10
  replace f11 := shm_5 f11
  replace f12 := shm_284 f12
  replace f13 := shm_285 f13
  have q4 : n_v vs 4 = n_v vs 0 := f11.symm
  simp only [q4] at f0 f2 f3 f4 f5 f6 f7 f8 f12 f13
  have cr_0_1 := fdq_39 hD hth r0
  have cr_0_160 := fdq_33 hD hth r0
  have cr_0_162 := fdq_41 hD hth r0
  have cr_0_163 := fdq_42 hD hth r0
  have g0 : v_iv (n_v vs 6) = w_fi ws (n_v vs 0) 158 := congrArg v_iv f0
  have hK_0_1 := elq_7 hD hth cr_0_1
  have hK_0_160 := elq_6 hD hth cr_0_160
  have hK_0_162 := elq_8 hD hth cr_0_162
  have hK_0_163 := elq_9 hD hth cr_0_163
  have kz_0_8 := fdq_34 hD hth r0
  have kz_0_10 := fdq_43 hD hth r0
  have kz_0_157 := fdq_35 hD hth r0
  have kz_0_158 := fdq_36 hD hth r0
  have kz_0_164 := fdq_38 hD hth r0
  have kz_0_165 := fdq_27 hD hth r0
  obtain ⟨x, ex, hx⟩ := iv_ex (ta := ta) (lo := 0) (hi := 5) (z := w_fi ws (n_v vs 0) 8) (by omega) (by omega) (by omega) (by omega)
  have ex2 : v_iv (Value.int x) = w_fi ws (n_v vs 0) 8 := ex
  have ex3 : 0 ≤ v_iv (Value.int x) ∧ v_iv (Value.int x) ≤ 5 := tv_rng hx
  have e_4 : n_v (vs ++ [Value.int x]) 4 = n_v vs 4 := n_v_old (by rw [hl]; decide)
  have e_12 : n_v (vs ++ [Value.int x]) 12 = Value.int x := n_v_new hl
  have nf0 : fc_1 PRD (20, [4, 12], [50, 1, 0, 8, 1, 3, 2, 0, 8, 1, 1]) ws (vs ++ [Value.int x]) := by
    refine ⟨nf_inA hl rfl, sgq_277 ?_⟩
    · show w_fi ws (n_v (vs ++ [Value.int x]) 4) 8 = v_iv (n_v (vs ++ [Value.int x]) 12)
      simp only [e_4, e_12, q4]
      exact vc_Mo_product_at_f0_3_0 (v_iv (n_v vs 1)) (v_iv (n_v vs 2)) (v_iv (n_v vs 3)) (v_iv (n_v vs 6)) (v_iv (n_v vs 7)) (v_iv (n_v vs 8)) (v_iv (n_v vs 9)) (v_iv (n_v vs 10)) (w_fi ws (n_v vs 0) 158) (w_ei ws (w_ar ws (n_v vs 0) 160)) (w_ei ws (w_ar ws (n_v vs 0) 161)) (w_fi ws (n_v vs 0) 8) (w_fi ws (n_v vs 0) 157) (w_fi ws (n_v vs 0) 164) (w_fi ws (n_v vs 0) 165) (w_ei ws (w_ar ws (n_v vs 0) 162)) (w_ei ws (w_ar ws (n_v vs 0) 163)) (w_ei ws (w_ar ws (n_v vs 0) 1)) (w_fi ws (n_v vs 0) 10) (v_iv (Value.int x)) k1 k2 k3 k6 k7 k8 k9 k10 g0 f1 f2 f3 f4 f5 f6 f7 f8 f9 f10 f12 f13 hK_0_1 hK_0_160 hK_0_162 hK_0_163 kz_0_8 kz_0_10 kz_0_157 kz_0_158 kz_0_164 kz_0_165 ex2 ex3
  exact ⟨(fun _ h => (by cases h)), [Value.int x], ag_one hx, List.forall_mem_cons.mpr ⟨⟨show (20 : Nat) < 100 from by decide, nf0⟩, (fun _ h => (by cases h))⟩, (fun _ h => (by cases h))⟩
set_option maxHeartbeats 4000000 in
theorem vc_Mo_product_at_f0_4_0 (x1 : Int) (x2 : Int) (x3 : Int) (x6 : Int) (x7 : Int) (x8 : Int) (x9 : Int) (x10 : Int) (x11 : Int) (x12 : Int) (x13 : Int) (cur_0 : Int) (tokenKind_0 : Int → Int) (tokenValue_0 : Int → Int) (fault_0 : Int) (tokens_0 : Int) (styleKind_0 : Int) (styleOne_0 : Int) (opened_0 : Int) (tokenPlace_0 : Int → Int) (tokenEnd_0 : Int → Int) (tape_0 : Int → Int) (limit_0 : Int) (k1 : 0 ≤ x1 ∧ x1 ≤ 2009) (k2 : 0 ≤ x2 ∧ x2 ≤ 5) (k3 : 0 ≤ x3 ∧ x3 ≤ 13) (k6 : 0 ≤ x6 ∧ x6 ≤ 2009) (k7 : 0 ≤ x7 ∧ x7 ≤ 2010) (k8 : 42 ≤ x8 ∧ x8 ≤ 42) (k9 : 0 ≤ x9 ∧ x9 ≤ 5) (k10 : 0 ≤ x10 ∧ x10 ≤ 0) (k11 : 47 ≤ x11 ∧ x11 ≤ 47) (k12 : 0 ≤ x12 ∧ x12 ≤ 5) (k13 : 0 ≤ x13 ∧ x13 ≤ 0) (g0 : x6 = cur_0) (f1 : x13 = 0) (f2 : (x13 = 1) → (tokenKind_0 (cur_0) = 3)) (f3 : SGN (cur_0) (tokenKind_0) (tokenValue_0) (x11) (x13) (x12)) (f4 : fault_0 = x12) (f5 : x10 = 0) (f6 : (x10 = 1) → (tokenKind_0 (cur_0) = 3)) (f7 : SGN (cur_0) (tokenKind_0) (tokenValue_0) (x8) (x10) (x9)) (f8 : fault_0 = x9) (f9 : ((cur_0 + 1) ≤ tokens_0) ∧ ((tokens_0 ≤ 2010) ∧ ((tokenKind_0 ((tokens_0 - 1)) = 0) ∨ (tokenKind_0 ((tokens_0 - 1)) = 4)))) (f10 : 1 * x1 + ((-1) * cur_0 + 0) ≤ 0) (f11 : (styleKind_0 = 0) → (styleOne_0 ≤ 23)) (f12 : 1 * opened_0 + 0 ≤ 0) (f13 : (-1) * opened_0 + 0 ≤ 0) (f14 : SPWv (fault_0) (cur_0) (styleKind_0) (limit_0) (tokenKind_0) (tokenValue_0) (tokenPlace_0) (tokenEnd_0) (tape_0) (x1) (x2) (x3)) (f15 : 1 * x3 + 0 ≤ 0) (f16 : (-1) * x3 + 0 ≤ 0) (f18 : 1 * x7 + (1 * cur_0 + 0) ≤ 2010) (f19 : (-1) * x7 + ((-1) * cur_0 + 0) ≤ (-2010)) (hK_0_1 : ∀ j : Int, 0 ≤ j → j < 2000 → (-128) ≤ tape_0 j ∧ tape_0 j ≤ 127) (hK_0_160 : ∀ j : Int, 0 ≤ j → j < 2010 → 0 ≤ tokenKind_0 j ∧ tokenKind_0 j ≤ 4) (hK_0_162 : ∀ j : Int, 0 ≤ j → j < 2010 → 0 ≤ tokenPlace_0 j ∧ tokenPlace_0 j ≤ 2000) (hK_0_163 : ∀ j : Int, 0 ≤ j → j < 2010 → 0 ≤ tokenEnd_0 j ∧ tokenEnd_0 j ≤ 2000) (kz_0_8 : 0 ≤ fault_0 ∧ fault_0 ≤ 5) (kz_0_10 : 0 ≤ limit_0 ∧ limit_0 ≤ 2000) (kz_0_157 : 0 ≤ tokens_0 ∧ tokens_0 ≤ 2010) (kz_0_158 : 0 ≤ cur_0 ∧ cur_0 ≤ 2009) (kz_0_159 : 0 ≤ opened_0 ∧ opened_0 ≤ 13) (kz_0_164 : 0 ≤ styleKind_0 ∧ styleKind_0 ≤ 1) (kz_0_165 : (-1) ≤ styleOne_0 ∧ styleOne_0 ≤ 47) : ((cur_0 + 1) ≤ tokens_0) ∧ ((tokens_0 ≤ 2010) ∧ ((tokenKind_0 ((tokens_0 - 1)) = 0) ∨ (tokenKind_0 ((tokens_0 - 1)) = 4))) := by
  first | with_reducible assumption | ((have f9_c0 := f9.1); (have f9_c1 := f9.2.1); (have f9_c2 := f9.2.2); (try and_intros) <;> first | with_reducible assumption | (clear f9_c2 f9 hK_0_1 hK_0_160 hK_0_162 hK_0_163 f2 f6 f11; omega)) | ((have f9_c0 := f9.1); (have f9_c1 := f9.2.1); (have f9_c2 := f9.2.2); (first | have f2_b := f2 (by clear f9_c2 f9 hK_0_1 hK_0_160 hK_0_162 hK_0_163 f2 f6 f11; omega) | skip); (first | have f6_b := f6 (by clear f9_c2 f9 hK_0_1 hK_0_160 hK_0_162 hK_0_163 f2 f6 f11; omega) | skip); (first | have f11_b := f11 (by clear f9_c2 f9 hK_0_1 hK_0_160 hK_0_162 hK_0_163 f2 f6 f11; omega) | skip); (first | have f2_d := f2 (by with_reducible assumption) | skip); (first | have f6_d := f6 (by with_reducible assumption) | skip); (first | have f11_d := f11 (by with_reducible assumption) | skip); (try and_intros) <;> first | with_reducible assumption | (clear f9_c2 f9 hK_0_1 hK_0_160 hK_0_162 hK_0_163 f2 f6 f11; omega)) | ((have f9_c0 := f9.1); (have f9_c1 := f9.2.1); (have f9_c2 := f9.2.2); (first | have f2_b := f2 (by clear f9_c2 f9 hK_0_1 hK_0_160 hK_0_162 hK_0_163 f2 f6 f11; omega) | skip); (first | have f6_b := f6 (by clear f9_c2 f9 hK_0_1 hK_0_160 hK_0_162 hK_0_163 f2 f6 f11; omega) | skip); (first | have f11_b := f11 (by clear f9_c2 f9 hK_0_1 hK_0_160 hK_0_162 hK_0_163 f2 f6 f11; omega) | skip); (first | have f2_d := f2 (by with_reducible assumption) | skip); (first | have f6_d := f6 (by with_reducible assumption) | skip); (first | have f11_d := f11 (by with_reducible assumption) | skip); (first | have f9_q := tk_nx0 f9 (by clear f9_c2 f9 hK_0_1 hK_0_160 hK_0_162 hK_0_163 f2 f6 f11; omega) | skip); (try and_intros) <;> first | with_reducible assumption | (clear f9_c2 f9 hK_0_1 hK_0_160 hK_0_162 hK_0_163 f2 f6 f11; omega)) | ((have f9_c0 := f9.1); (have f9_c1 := f9.2.1); (have f9_c2 := f9.2.2); (first | have f2_b := f2 (by clear f9_c2 f9 hK_0_1 hK_0_160 hK_0_162 hK_0_163 f2 f6 f11; omega) | skip); (first | have f6_b := f6 (by clear f9_c2 f9 hK_0_1 hK_0_160 hK_0_162 hK_0_163 f2 f6 f11; omega) | skip); (first | have f11_b := f11 (by clear f9_c2 f9 hK_0_1 hK_0_160 hK_0_162 hK_0_163 f2 f6 f11; omega) | skip); (first | have f2_d := f2 (by with_reducible assumption) | skip); (first | have f6_d := f6 (by with_reducible assumption) | skip); (first | have f11_d := f11 (by with_reducible assumption) | skip); (first | have f9_q := tk_nx0 f9 (by clear f9_c2 f9 hK_0_1 hK_0_160 hK_0_162 hK_0_163 f2 f6 f11; omega) | skip); (first | have f9_r0 := tk_nx1 (c := cur_0) f9.2 (by clear f9_c2 f9 hK_0_1 hK_0_160 hK_0_162 hK_0_163 f2 f6 f11; omega) (by clear f9_c2 f9 hK_0_1 hK_0_160 hK_0_162 hK_0_163 f2 f6 f11; omega) | skip); (try and_intros) <;> first | with_reducible assumption | (clear f9_c2 f9 hK_0_1 hK_0_160 hK_0_162 hK_0_163 f2 f6 f11; omega)) | omega
set_option maxHeartbeats 4000000 in
theorem vc_Mo_product_at_f0_4_1 (x1 : Int) (x2 : Int) (x3 : Int) (x6 : Int) (x7 : Int) (x8 : Int) (x9 : Int) (x10 : Int) (x11 : Int) (x12 : Int) (x13 : Int) (cur_0 : Int) (tokenKind_0 : Int → Int) (tokenValue_0 : Int → Int) (fault_0 : Int) (tokens_0 : Int) (styleKind_0 : Int) (styleOne_0 : Int) (opened_0 : Int) (tokenPlace_0 : Int → Int) (tokenEnd_0 : Int → Int) (tape_0 : Int → Int) (limit_0 : Int) (k1 : 0 ≤ x1 ∧ x1 ≤ 2009) (k2 : 0 ≤ x2 ∧ x2 ≤ 5) (k3 : 0 ≤ x3 ∧ x3 ≤ 13) (k6 : 0 ≤ x6 ∧ x6 ≤ 2009) (k7 : 0 ≤ x7 ∧ x7 ≤ 2010) (k8 : 42 ≤ x8 ∧ x8 ≤ 42) (k9 : 0 ≤ x9 ∧ x9 ≤ 5) (k10 : 0 ≤ x10 ∧ x10 ≤ 0) (k11 : 47 ≤ x11 ∧ x11 ≤ 47) (k12 : 0 ≤ x12 ∧ x12 ≤ 5) (k13 : 0 ≤ x13 ∧ x13 ≤ 0) (g0 : x6 = cur_0) (f1 : x13 = 0) (f2 : (x13 = 1) → (tokenKind_0 (cur_0) = 3)) (f3 : SGN (cur_0) (tokenKind_0) (tokenValue_0) (x11) (x13) (x12)) (f4 : fault_0 = x12) (f5 : x10 = 0) (f6 : (x10 = 1) → (tokenKind_0 (cur_0) = 3)) (f7 : SGN (cur_0) (tokenKind_0) (tokenValue_0) (x8) (x10) (x9)) (f8 : fault_0 = x9) (f9 : ((cur_0 + 1) ≤ tokens_0) ∧ ((tokens_0 ≤ 2010) ∧ ((tokenKind_0 ((tokens_0 - 1)) = 0) ∨ (tokenKind_0 ((tokens_0 - 1)) = 4)))) (f10 : 1 * x1 + ((-1) * cur_0 + 0) ≤ 0) (f11 : (styleKind_0 = 0) → (styleOne_0 ≤ 23)) (f12 : 1 * opened_0 + 0 ≤ 0) (f13 : (-1) * opened_0 + 0 ≤ 0) (f14 : SPWv (fault_0) (cur_0) (styleKind_0) (limit_0) (tokenKind_0) (tokenValue_0) (tokenPlace_0) (tokenEnd_0) (tape_0) (x1) (x2) (x3)) (f15 : 1 * x3 + 0 ≤ 0) (f16 : (-1) * x3 + 0 ≤ 0) (f18 : 1 * x7 + (1 * cur_0 + 0) ≤ 2010) (f19 : (-1) * x7 + ((-1) * cur_0 + 0) ≤ (-2010)) (hK_0_1 : ∀ j : Int, 0 ≤ j → j < 2000 → (-128) ≤ tape_0 j ∧ tape_0 j ≤ 127) (hK_0_160 : ∀ j : Int, 0 ≤ j → j < 2010 → 0 ≤ tokenKind_0 j ∧ tokenKind_0 j ≤ 4) (hK_0_162 : ∀ j : Int, 0 ≤ j → j < 2010 → 0 ≤ tokenPlace_0 j ∧ tokenPlace_0 j ≤ 2000) (hK_0_163 : ∀ j : Int, 0 ≤ j → j < 2010 → 0 ≤ tokenEnd_0 j ∧ tokenEnd_0 j ≤ 2000) (kz_0_8 : 0 ≤ fault_0 ∧ fault_0 ≤ 5) (kz_0_10 : 0 ≤ limit_0 ∧ limit_0 ≤ 2000) (kz_0_157 : 0 ≤ tokens_0 ∧ tokens_0 ≤ 2010) (kz_0_158 : 0 ≤ cur_0 ∧ cur_0 ≤ 2009) (kz_0_159 : 0 ≤ opened_0 ∧ opened_0 ≤ 13) (kz_0_164 : 0 ≤ styleKind_0 ∧ styleKind_0 ≤ 1) (kz_0_165 : (-1) ≤ styleOne_0 ∧ styleOne_0 ≤ 47) : 1 * x1 + ((-1) * cur_0 + 0) ≤ 0 := by
  first | with_reducible assumption | ((have f9_c0 := f9.1); (have f9_c1 := f9.2.1); (have f9_c2 := f9.2.2); (try and_intros) <;> first | with_reducible assumption | (clear f9_c2 f9 hK_0_1 hK_0_160 hK_0_162 hK_0_163 f2 f6 f11; omega)) | ((have f9_c0 := f9.1); (have f9_c1 := f9.2.1); (have f9_c2 := f9.2.2); (first | have f2_b := f2 (by clear f9_c2 f9 hK_0_1 hK_0_160 hK_0_162 hK_0_163 f2 f6 f11; omega) | skip); (first | have f6_b := f6 (by clear f9_c2 f9 hK_0_1 hK_0_160 hK_0_162 hK_0_163 f2 f6 f11; omega) | skip); (first | have f11_b := f11 (by clear f9_c2 f9 hK_0_1 hK_0_160 hK_0_162 hK_0_163 f2 f6 f11; omega) | skip); (first | have f2_d := f2 (by with_reducible assumption) | skip); (first | have f6_d := f6 (by with_reducible assumption) | skip); (first | have f11_d := f11 (by with_reducible assumption) | skip); (try and_intros) <;> first | with_reducible assumption | (clear f9_c2 f9 hK_0_1 hK_0_160 hK_0_162 hK_0_163 f2 f6 f11; omega)) | ((have f9_c0 := f9.1); (have f9_c1 := f9.2.1); (have f9_c2 := f9.2.2); (first | have f2_b := f2 (by clear f9_c2 f9 hK_0_1 hK_0_160 hK_0_162 hK_0_163 f2 f6 f11; omega) | skip); (first | have f6_b := f6 (by clear f9_c2 f9 hK_0_1 hK_0_160 hK_0_162 hK_0_163 f2 f6 f11; omega) | skip); (first | have f11_b := f11 (by clear f9_c2 f9 hK_0_1 hK_0_160 hK_0_162 hK_0_163 f2 f6 f11; omega) | skip); (first | have f2_d := f2 (by with_reducible assumption) | skip); (first | have f6_d := f6 (by with_reducible assumption) | skip); (first | have f11_d := f11 (by with_reducible assumption) | skip); (first | have f9_q := tk_nx0 f9 (by clear f9_c2 f9 hK_0_1 hK_0_160 hK_0_162 hK_0_163 f2 f6 f11; omega) | skip); (try and_intros) <;> first | with_reducible assumption | (clear f9_c2 f9 hK_0_1 hK_0_160 hK_0_162 hK_0_163 f2 f6 f11; omega)) | ((have f9_c0 := f9.1); (have f9_c1 := f9.2.1); (have f9_c2 := f9.2.2); (first | have f2_b := f2 (by clear f9_c2 f9 hK_0_1 hK_0_160 hK_0_162 hK_0_163 f2 f6 f11; omega) | skip); (first | have f6_b := f6 (by clear f9_c2 f9 hK_0_1 hK_0_160 hK_0_162 hK_0_163 f2 f6 f11; omega) | skip); (first | have f11_b := f11 (by clear f9_c2 f9 hK_0_1 hK_0_160 hK_0_162 hK_0_163 f2 f6 f11; omega) | skip); (first | have f2_d := f2 (by with_reducible assumption) | skip); (first | have f6_d := f6 (by with_reducible assumption) | skip); (first | have f11_d := f11 (by with_reducible assumption) | skip); (first | have f9_q := tk_nx0 f9 (by clear f9_c2 f9 hK_0_1 hK_0_160 hK_0_162 hK_0_163 f2 f6 f11; omega) | skip); (first | have f9_r0 := tk_nx1 (c := cur_0) f9.2 (by clear f9_c2 f9 hK_0_1 hK_0_160 hK_0_162 hK_0_163 f2 f6 f11; omega) (by clear f9_c2 f9 hK_0_1 hK_0_160 hK_0_162 hK_0_163 f2 f6 f11; omega) | skip); (try and_intros) <;> first | with_reducible assumption | (clear f9_c2 f9 hK_0_1 hK_0_160 hK_0_162 hK_0_163 f2 f6 f11; omega)) | omega
set_option maxHeartbeats 4000000 in
theorem vc_Mo_product_at_f0_4_2 (x1 : Int) (x2 : Int) (x3 : Int) (x6 : Int) (x7 : Int) (x8 : Int) (x9 : Int) (x10 : Int) (x11 : Int) (x12 : Int) (x13 : Int) (cur_0 : Int) (tokenKind_0 : Int → Int) (tokenValue_0 : Int → Int) (fault_0 : Int) (tokens_0 : Int) (styleKind_0 : Int) (styleOne_0 : Int) (opened_0 : Int) (tokenPlace_0 : Int → Int) (tokenEnd_0 : Int → Int) (tape_0 : Int → Int) (limit_0 : Int) (k1 : 0 ≤ x1 ∧ x1 ≤ 2009) (k2 : 0 ≤ x2 ∧ x2 ≤ 5) (k3 : 0 ≤ x3 ∧ x3 ≤ 13) (k6 : 0 ≤ x6 ∧ x6 ≤ 2009) (k7 : 0 ≤ x7 ∧ x7 ≤ 2010) (k8 : 42 ≤ x8 ∧ x8 ≤ 42) (k9 : 0 ≤ x9 ∧ x9 ≤ 5) (k10 : 0 ≤ x10 ∧ x10 ≤ 0) (k11 : 47 ≤ x11 ∧ x11 ≤ 47) (k12 : 0 ≤ x12 ∧ x12 ≤ 5) (k13 : 0 ≤ x13 ∧ x13 ≤ 0) (g0 : x6 = cur_0) (f1 : x13 = 0) (f2 : (x13 = 1) → (tokenKind_0 (cur_0) = 3)) (f3 : SGN (cur_0) (tokenKind_0) (tokenValue_0) (x11) (x13) (x12)) (f4 : fault_0 = x12) (f5 : x10 = 0) (f6 : (x10 = 1) → (tokenKind_0 (cur_0) = 3)) (f7 : SGN (cur_0) (tokenKind_0) (tokenValue_0) (x8) (x10) (x9)) (f8 : fault_0 = x9) (f9 : ((cur_0 + 1) ≤ tokens_0) ∧ ((tokens_0 ≤ 2010) ∧ ((tokenKind_0 ((tokens_0 - 1)) = 0) ∨ (tokenKind_0 ((tokens_0 - 1)) = 4)))) (f10 : 1 * x1 + ((-1) * cur_0 + 0) ≤ 0) (f11 : (styleKind_0 = 0) → (styleOne_0 ≤ 23)) (f12 : 1 * opened_0 + 0 ≤ 0) (f13 : (-1) * opened_0 + 0 ≤ 0) (f14 : SPWv (fault_0) (cur_0) (styleKind_0) (limit_0) (tokenKind_0) (tokenValue_0) (tokenPlace_0) (tokenEnd_0) (tape_0) (x1) (x2) (x3)) (f15 : 1 * x3 + 0 ≤ 0) (f16 : (-1) * x3 + 0 ≤ 0) (f18 : 1 * x7 + (1 * cur_0 + 0) ≤ 2010) (f19 : (-1) * x7 + ((-1) * cur_0 + 0) ≤ (-2010)) (hK_0_1 : ∀ j : Int, 0 ≤ j → j < 2000 → (-128) ≤ tape_0 j ∧ tape_0 j ≤ 127) (hK_0_160 : ∀ j : Int, 0 ≤ j → j < 2010 → 0 ≤ tokenKind_0 j ∧ tokenKind_0 j ≤ 4) (hK_0_162 : ∀ j : Int, 0 ≤ j → j < 2010 → 0 ≤ tokenPlace_0 j ∧ tokenPlace_0 j ≤ 2000) (hK_0_163 : ∀ j : Int, 0 ≤ j → j < 2010 → 0 ≤ tokenEnd_0 j ∧ tokenEnd_0 j ≤ 2000) (kz_0_8 : 0 ≤ fault_0 ∧ fault_0 ≤ 5) (kz_0_10 : 0 ≤ limit_0 ∧ limit_0 ≤ 2000) (kz_0_157 : 0 ≤ tokens_0 ∧ tokens_0 ≤ 2010) (kz_0_158 : 0 ≤ cur_0 ∧ cur_0 ≤ 2009) (kz_0_159 : 0 ≤ opened_0 ∧ opened_0 ≤ 13) (kz_0_164 : 0 ≤ styleKind_0 ∧ styleKind_0 ≤ 1) (kz_0_165 : (-1) ≤ styleOne_0 ∧ styleOne_0 ≤ 47) : 1 * opened_0 + 0 ≤ 0 := by
  first | with_reducible assumption | ((have f9_c0 := f9.1); (have f9_c1 := f9.2.1); (have f9_c2 := f9.2.2); (try and_intros) <;> first | with_reducible assumption | (clear f9_c2 f9 hK_0_1 hK_0_160 hK_0_162 hK_0_163 f2 f6 f11; omega)) | ((have f9_c0 := f9.1); (have f9_c1 := f9.2.1); (have f9_c2 := f9.2.2); (first | have f2_b := f2 (by clear f9_c2 f9 hK_0_1 hK_0_160 hK_0_162 hK_0_163 f2 f6 f11; omega) | skip); (first | have f6_b := f6 (by clear f9_c2 f9 hK_0_1 hK_0_160 hK_0_162 hK_0_163 f2 f6 f11; omega) | skip); (first | have f11_b := f11 (by clear f9_c2 f9 hK_0_1 hK_0_160 hK_0_162 hK_0_163 f2 f6 f11; omega) | skip); (first | have f2_d := f2 (by with_reducible assumption) | skip); (first | have f6_d := f6 (by with_reducible assumption) | skip); (first | have f11_d := f11 (by with_reducible assumption) | skip); (try and_intros) <;> first | with_reducible assumption | (clear f9_c2 f9 hK_0_1 hK_0_160 hK_0_162 hK_0_163 f2 f6 f11; omega)) | ((have f9_c0 := f9.1); (have f9_c1 := f9.2.1); (have f9_c2 := f9.2.2); (first | have f2_b := f2 (by clear f9_c2 f9 hK_0_1 hK_0_160 hK_0_162 hK_0_163 f2 f6 f11; omega) | skip); (first | have f6_b := f6 (by clear f9_c2 f9 hK_0_1 hK_0_160 hK_0_162 hK_0_163 f2 f6 f11; omega) | skip); (first | have f11_b := f11 (by clear f9_c2 f9 hK_0_1 hK_0_160 hK_0_162 hK_0_163 f2 f6 f11; omega) | skip); (first | have f2_d := f2 (by with_reducible assumption) | skip); (first | have f6_d := f6 (by with_reducible assumption) | skip); (first | have f11_d := f11 (by with_reducible assumption) | skip); (first | have f9_q := tk_nx0 f9 (by clear f9_c2 f9 hK_0_1 hK_0_160 hK_0_162 hK_0_163 f2 f6 f11; omega) | skip); (try and_intros) <;> first | with_reducible assumption | (clear f9_c2 f9 hK_0_1 hK_0_160 hK_0_162 hK_0_163 f2 f6 f11; omega)) | ((have f9_c0 := f9.1); (have f9_c1 := f9.2.1); (have f9_c2 := f9.2.2); (first | have f2_b := f2 (by clear f9_c2 f9 hK_0_1 hK_0_160 hK_0_162 hK_0_163 f2 f6 f11; omega) | skip); (first | have f6_b := f6 (by clear f9_c2 f9 hK_0_1 hK_0_160 hK_0_162 hK_0_163 f2 f6 f11; omega) | skip); (first | have f11_b := f11 (by clear f9_c2 f9 hK_0_1 hK_0_160 hK_0_162 hK_0_163 f2 f6 f11; omega) | skip); (first | have f2_d := f2 (by with_reducible assumption) | skip); (first | have f6_d := f6 (by with_reducible assumption) | skip); (first | have f11_d := f11 (by with_reducible assumption) | skip); (first | have f9_q := tk_nx0 f9 (by clear f9_c2 f9 hK_0_1 hK_0_160 hK_0_162 hK_0_163 f2 f6 f11; omega) | skip); (first | have f9_r0 := tk_nx1 (c := cur_0) f9.2 (by clear f9_c2 f9 hK_0_1 hK_0_160 hK_0_162 hK_0_163 f2 f6 f11; omega) (by clear f9_c2 f9 hK_0_1 hK_0_160 hK_0_162 hK_0_163 f2 f6 f11; omega) | skip); (try and_intros) <;> first | with_reducible assumption | (clear f9_c2 f9 hK_0_1 hK_0_160 hK_0_162 hK_0_163 f2 f6 f11; omega)) | omega
set_option maxHeartbeats 4000000 in
theorem vc_Mo_product_at_f0_4_3 (x1 : Int) (x2 : Int) (x3 : Int) (x6 : Int) (x7 : Int) (x8 : Int) (x9 : Int) (x10 : Int) (x11 : Int) (x12 : Int) (x13 : Int) (cur_0 : Int) (tokenKind_0 : Int → Int) (tokenValue_0 : Int → Int) (fault_0 : Int) (tokens_0 : Int) (styleKind_0 : Int) (styleOne_0 : Int) (opened_0 : Int) (tokenPlace_0 : Int → Int) (tokenEnd_0 : Int → Int) (tape_0 : Int → Int) (limit_0 : Int) (k1 : 0 ≤ x1 ∧ x1 ≤ 2009) (k2 : 0 ≤ x2 ∧ x2 ≤ 5) (k3 : 0 ≤ x3 ∧ x3 ≤ 13) (k6 : 0 ≤ x6 ∧ x6 ≤ 2009) (k7 : 0 ≤ x7 ∧ x7 ≤ 2010) (k8 : 42 ≤ x8 ∧ x8 ≤ 42) (k9 : 0 ≤ x9 ∧ x9 ≤ 5) (k10 : 0 ≤ x10 ∧ x10 ≤ 0) (k11 : 47 ≤ x11 ∧ x11 ≤ 47) (k12 : 0 ≤ x12 ∧ x12 ≤ 5) (k13 : 0 ≤ x13 ∧ x13 ≤ 0) (g0 : x6 = cur_0) (f1 : x13 = 0) (f2 : (x13 = 1) → (tokenKind_0 (cur_0) = 3)) (f3 : SGN (cur_0) (tokenKind_0) (tokenValue_0) (x11) (x13) (x12)) (f4 : fault_0 = x12) (f5 : x10 = 0) (f6 : (x10 = 1) → (tokenKind_0 (cur_0) = 3)) (f7 : SGN (cur_0) (tokenKind_0) (tokenValue_0) (x8) (x10) (x9)) (f8 : fault_0 = x9) (f9 : ((cur_0 + 1) ≤ tokens_0) ∧ ((tokens_0 ≤ 2010) ∧ ((tokenKind_0 ((tokens_0 - 1)) = 0) ∨ (tokenKind_0 ((tokens_0 - 1)) = 4)))) (f10 : 1 * x1 + ((-1) * cur_0 + 0) ≤ 0) (f11 : (styleKind_0 = 0) → (styleOne_0 ≤ 23)) (f12 : 1 * opened_0 + 0 ≤ 0) (f13 : (-1) * opened_0 + 0 ≤ 0) (f14 : SPWv (fault_0) (cur_0) (styleKind_0) (limit_0) (tokenKind_0) (tokenValue_0) (tokenPlace_0) (tokenEnd_0) (tape_0) (x1) (x2) (x3)) (f15 : 1 * x3 + 0 ≤ 0) (f16 : (-1) * x3 + 0 ≤ 0) (f18 : 1 * x7 + (1 * cur_0 + 0) ≤ 2010) (f19 : (-1) * x7 + ((-1) * cur_0 + 0) ≤ (-2010)) (hK_0_1 : ∀ j : Int, 0 ≤ j → j < 2000 → (-128) ≤ tape_0 j ∧ tape_0 j ≤ 127) (hK_0_160 : ∀ j : Int, 0 ≤ j → j < 2010 → 0 ≤ tokenKind_0 j ∧ tokenKind_0 j ≤ 4) (hK_0_162 : ∀ j : Int, 0 ≤ j → j < 2010 → 0 ≤ tokenPlace_0 j ∧ tokenPlace_0 j ≤ 2000) (hK_0_163 : ∀ j : Int, 0 ≤ j → j < 2010 → 0 ≤ tokenEnd_0 j ∧ tokenEnd_0 j ≤ 2000) (kz_0_8 : 0 ≤ fault_0 ∧ fault_0 ≤ 5) (kz_0_10 : 0 ≤ limit_0 ∧ limit_0 ≤ 2000) (kz_0_157 : 0 ≤ tokens_0 ∧ tokens_0 ≤ 2010) (kz_0_158 : 0 ≤ cur_0 ∧ cur_0 ≤ 2009) (kz_0_159 : 0 ≤ opened_0 ∧ opened_0 ≤ 13) (kz_0_164 : 0 ≤ styleKind_0 ∧ styleKind_0 ≤ 1) (kz_0_165 : (-1) ≤ styleOne_0 ∧ styleOne_0 ≤ 47) : (-1) * opened_0 + 0 ≤ 0 := by
  first | with_reducible assumption | ((have f9_c0 := f9.1); (have f9_c1 := f9.2.1); (have f9_c2 := f9.2.2); (try and_intros) <;> first | with_reducible assumption | (clear f9_c2 f9 hK_0_1 hK_0_160 hK_0_162 hK_0_163 f2 f6 f11; omega)) | ((have f9_c0 := f9.1); (have f9_c1 := f9.2.1); (have f9_c2 := f9.2.2); (first | have f2_b := f2 (by clear f9_c2 f9 hK_0_1 hK_0_160 hK_0_162 hK_0_163 f2 f6 f11; omega) | skip); (first | have f6_b := f6 (by clear f9_c2 f9 hK_0_1 hK_0_160 hK_0_162 hK_0_163 f2 f6 f11; omega) | skip); (first | have f11_b := f11 (by clear f9_c2 f9 hK_0_1 hK_0_160 hK_0_162 hK_0_163 f2 f6 f11; omega) | skip); (first | have f2_d := f2 (by with_reducible assumption) | skip); (first | have f6_d := f6 (by with_reducible assumption) | skip); (first | have f11_d := f11 (by with_reducible assumption) | skip); (try and_intros) <;> first | with_reducible assumption | (clear f9_c2 f9 hK_0_1 hK_0_160 hK_0_162 hK_0_163 f2 f6 f11; omega)) | ((have f9_c0 := f9.1); (have f9_c1 := f9.2.1); (have f9_c2 := f9.2.2); (first | have f2_b := f2 (by clear f9_c2 f9 hK_0_1 hK_0_160 hK_0_162 hK_0_163 f2 f6 f11; omega) | skip); (first | have f6_b := f6 (by clear f9_c2 f9 hK_0_1 hK_0_160 hK_0_162 hK_0_163 f2 f6 f11; omega) | skip); (first | have f11_b := f11 (by clear f9_c2 f9 hK_0_1 hK_0_160 hK_0_162 hK_0_163 f2 f6 f11; omega) | skip); (first | have f2_d := f2 (by with_reducible assumption) | skip); (first | have f6_d := f6 (by with_reducible assumption) | skip); (first | have f11_d := f11 (by with_reducible assumption) | skip); (first | have f9_q := tk_nx0 f9 (by clear f9_c2 f9 hK_0_1 hK_0_160 hK_0_162 hK_0_163 f2 f6 f11; omega) | skip); (try and_intros) <;> first | with_reducible assumption | (clear f9_c2 f9 hK_0_1 hK_0_160 hK_0_162 hK_0_163 f2 f6 f11; omega)) | ((have f9_c0 := f9.1); (have f9_c1 := f9.2.1); (have f9_c2 := f9.2.2); (first | have f2_b := f2 (by clear f9_c2 f9 hK_0_1 hK_0_160 hK_0_162 hK_0_163 f2 f6 f11; omega) | skip); (first | have f6_b := f6 (by clear f9_c2 f9 hK_0_1 hK_0_160 hK_0_162 hK_0_163 f2 f6 f11; omega) | skip); (first | have f11_b := f11 (by clear f9_c2 f9 hK_0_1 hK_0_160 hK_0_162 hK_0_163 f2 f6 f11; omega) | skip); (first | have f2_d := f2 (by with_reducible assumption) | skip); (first | have f6_d := f6 (by with_reducible assumption) | skip); (first | have f11_d := f11 (by with_reducible assumption) | skip); (first | have f9_q := tk_nx0 f9 (by clear f9_c2 f9 hK_0_1 hK_0_160 hK_0_162 hK_0_163 f2 f6 f11; omega) | skip); (first | have f9_r0 := tk_nx1 (c := cur_0) f9.2 (by clear f9_c2 f9 hK_0_1 hK_0_160 hK_0_162 hK_0_163 f2 f6 f11; omega) (by clear f9_c2 f9 hK_0_1 hK_0_160 hK_0_162 hK_0_163 f2 f6 f11; omega) | skip); (try and_intros) <;> first | with_reducible assumption | (clear f9_c2 f9 hK_0_1 hK_0_160 hK_0_162 hK_0_163 f2 f6 f11; omega)) | omega
set_option maxHeartbeats 4000000 in
theorem vc_Mo_product_at_f0_4_4 (x1 : Int) (x2 : Int) (x3 : Int) (x6 : Int) (x8 : Int) (x9 : Int) (x10 : Int) (x11 : Int) (x12 : Int) (x13 : Int) (cur_0 : Int) (tokenKind_0 : Int → Int) (tokenValue_0 : Int → Int) (fault_0 : Int) (styleKind_0 : Int) (tokenPlace_0 : Int → Int) (tokenEnd_0 : Int → Int) (tape_0 : Int → Int) (limit_0 : Int) (k1 : 0 ≤ x1 ∧ x1 ≤ 2009) (k2 : 0 ≤ x2 ∧ x2 ≤ 5) (k3 : 0 ≤ x3 ∧ x3 ≤ 13) (k6 : 0 ≤ x6 ∧ x6 ≤ 2009) (k8 : 42 ≤ x8 ∧ x8 ≤ 42) (k9 : 0 ≤ x9 ∧ x9 ≤ 5) (k10 : 0 ≤ x10 ∧ x10 ≤ 0) (k11 : 47 ≤ x11 ∧ x11 ≤ 47) (k12 : 0 ≤ x12 ∧ x12 ≤ 5) (k13 : 0 ≤ x13 ∧ x13 ≤ 0) (g0 : x6 = cur_0) (f1 : x13 = 0) (f3 : SGN (cur_0) (tokenKind_0) (tokenValue_0) (x11) (x13) (x12)) (f4 : fault_0 = x12) (f5 : x10 = 0) (f7 : SGN (cur_0) (tokenKind_0) (tokenValue_0) (x8) (x10) (x9)) (f8 : fault_0 = x9) (f14 : SPWv (fault_0) (cur_0) (styleKind_0) (limit_0) (tokenKind_0) (tokenValue_0) (tokenPlace_0) (tokenEnd_0) (tape_0) (x1) (x2) (x3)) (kz_0_8 : 0 ≤ fault_0 ∧ fault_0 ≤ 5) (kz_0_10 : 0 ≤ limit_0 ∧ limit_0 ≤ 2000) (kz_0_158 : 0 ≤ cur_0 ∧ cur_0 ≤ 2009) (kz_0_164 : 0 ≤ styleKind_0 ∧ styleKind_0 ≤ 1) : SPQv (fault_0) (cur_0) (styleKind_0) (limit_0) (tokenKind_0) (tokenValue_0) (tokenPlace_0) (tokenEnd_0) (tape_0) (x1) (x2) (x3) := by
  first
    | exact spqv_of (‹SPWv _ _ _ _ _ _ _ _ _ _ _ _›) (fun z => by
        rintro (y | y)
        · exact sgn_n (show SGN _ _ _ x8 x10 x9 by assumption) (by omega) (show x8 = 42 by omega) (by omega) y
        · exact sgn_n (show SGN _ _ _ x11 x13 x12 by assumption) (by omega) (show x11 = 47 by omega) (by omega) y) (by omega)
  
def o_Mo_product_at_f0_4 : or_T := (79, 14, [(0, (2, 0, 0, [165])), (1, (0, 0, 2009, [])), (2, (0, 0, 5, [])), (3, (0, 0, 13, [])), (6, (0, 0, 2009, [])), (7, (0, 0, 2010, [])), (8, (0, 42, 42, [])), (9, (0, 0, 5, [])), (10, (0, 0, 0, [])), (11, (0, 47, 47, [])), (12, (0, 0, 5, [])), (13, (0, 0, 0, []))], [(9, [6, 4], [158]), (8, [13], [0]), (20, [13, 4], [50, 1, 1, 1158, 1160, 4, 6, 1, 2, 1, 0, 0, 1, 1, 6, 3, 1, 160, 2, 1, 158, 0, 3]), (20, [4, 11, 13, 12], [60, 1, 2, 14, 158, 160, 161]), (20, [4, 12], [50, 1, 0, 8, 1, 3, 2, 0, 8, 1, 1]), (8, [10], [0]), (20, [10, 4], [50, 1, 1, 1158, 1160, 4, 6, 1, 2, 1, 0, 0, 1, 1, 6, 3, 1, 160, 2, 1, 158, 0, 3]), (20, [4, 8, 10, 9], [60, 1, 2, 14, 158, 160, 161]), (20, [4, 9], [50, 1, 0, 8, 1, 3, 2, 0, 8, 1, 1]), (20, [4], [50, 2, 1, 158, 157, 160, 2, 12, 0, 7, 4, 3, 2, 0, 158, 0, 1, 2, 0, 157, 2, 7, 0, 3, 2, 0, 157, 0, 2010, 3, 14, 1, 10, 3, 0, 160, 5, 3, 2, 0, 157, 0, 1, 0, 0, 1, 10, 3, 0, 160, 5, 3, 2, 0, 157, 0, 1, 0, 4]), (20, [1, 4], [30, 0, 1, 0, 0, -1, 1, 158]), (20, [4], [50, 2, 0, 164, 165, 4, 7, 1, 3, 2, 0, 164, 0, 0, 0, 3, 2, 0, 165, 0, 23]), (20, [4], [30, 0, 1, 1, 159]), (20, [4], [30, 0, -1, 1, 159]), (20, [4, 1, 2, 3], [60, 4, 5, 6, 8, 158, 164, 10, 160, 161, 162, 163, 1]), (23, [3], [0, 1]), (23, [3], [0, -1]), (24, [0, 4], []), (20, [7, 4], [30, 2010, 1, 0, 0, 1, 1, 158]), (20, [7, 4], [30, -2010, -1, 0, 0, -1, 1, 158])], [], [], [(20, [0], [50, 2, 1, 158, 157, 160, 2, 12, 0, 7, 4, 3, 2, 0, 158, 0, 1, 2, 0, 157, 2, 7, 0, 3, 2, 0, 157, 0, 2010, 3, 14, 1, 10, 3, 0, 160, 5, 3, 2, 0, 157, 0, 1, 0, 0, 1, 10, 3, 0, 160, 5, 3, 2, 0, 157, 0, 1, 0, 4]), (20, [1, 0], [30, 0, 1, 0, 0, -1, 1, 158]), (20, [0], [30, 0, 1, 1, 159]), (20, [0], [30, 0, -1, 1, 159]), (20, [0, 1, 2, 3], [60, 4, 5, 1, 8, 158, 164, 10, 160, 161, 162, 163, 1])], [], [])
theorem oo_Mo_product_at_f0_4 {kA : Nat → ClassId} : or_ok PRD kA GG o_Mo_product_at_f0_4 := by
  refine or_mk fun A ta ws vs hD hth hl => ?_
  intro t0 r0 t1 k1 t2 k2 t3 k3 t6 k6 t7 k7 t8 k8 t9 k9 t10 k10 t11 k11 t12 k12 t13 k13 f0 f1 f2 f3 f4 f5 f6 f7 f8 f9 f10 f11 f12 f13 f14 f15 f16 f17 f18 f19
  replace f0 := shm_286 f0
  replace f2 := shm_296 f2
  replace f3 := shm_297 f3
  replace f4 := shm_277 f4
  replace f6 := shm_296 f6
  replace f7 := shm_297 f7
  replace f8 := shm_277 f8
  replace f9 := shm_271 f9
  replace f10 := shm_281 f10
  replace f11 := shm_274 f11
  replace f12 := shm_1029 f12
  replace f13 := shm_1030 f13
  replace f14 := shm_324 f14
  replace f17 := shm_5 f17
  replace f18 := shm_284 f18
  replace f19 := shm_285 f19
  have q4 : n_v vs 4 = n_v vs 0 := f17.symm
  simp only [q4] at f0 f2 f3 f4 f6 f7 f8 f9 f10 f11 f12 f13 f14 f18 f19
  have cr_0_1 := fdq_39 hD hth r0
  have cr_0_160 := fdq_33 hD hth r0
  have cr_0_162 := fdq_41 hD hth r0
  have cr_0_163 := fdq_42 hD hth r0
  have g0 : v_iv (n_v vs 6) = w_fi ws (n_v vs 0) 158 := congrArg v_iv f0
  have hK_0_1 := elq_7 hD hth cr_0_1
  have hK_0_160 := elq_6 hD hth cr_0_160
  have hK_0_162 := elq_8 hD hth cr_0_162
  have hK_0_163 := elq_9 hD hth cr_0_163
  have kz_0_8 := fdq_34 hD hth r0
  have kz_0_10 := fdq_43 hD hth r0
  have kz_0_157 := fdq_35 hD hth r0
  have kz_0_158 := fdq_36 hD hth r0
  have kz_0_159 := fdq_37 hD hth r0
  have kz_0_164 := fdq_38 hD hth r0
  have kz_0_165 := fdq_27 hD hth r0
  have nf0 : fc_1 PRD (20, [0], [50, 2, 1, 158, 157, 160, 2, 12, 0, 7, 4, 3, 2, 0, 158, 0, 1, 2, 0, 157, 2, 7, 0, 3, 2, 0, 157, 0, 2010, 3, 14, 1, 10, 3, 0, 160, 5, 3, 2, 0, 157, 0, 1, 0, 0, 1, 10, 3, 0, 160, 5, 3, 2, 0, 157, 0, 1, 0, 4]) ws (vs) := ⟨nf_in hl rfl, sgq_271 (vc_Mo_product_at_f0_4_0 (v_iv (n_v vs 1)) (v_iv (n_v vs 2)) (v_iv (n_v vs 3)) (v_iv (n_v vs 6)) (v_iv (n_v vs 7)) (v_iv (n_v vs 8)) (v_iv (n_v vs 9)) (v_iv (n_v vs 10)) (v_iv (n_v vs 11)) (v_iv (n_v vs 12)) (v_iv (n_v vs 13)) (w_fi ws (n_v vs 0) 158) (w_ei ws (w_ar ws (n_v vs 0) 160)) (w_ei ws (w_ar ws (n_v vs 0) 161)) (w_fi ws (n_v vs 0) 8) (w_fi ws (n_v vs 0) 157) (w_fi ws (n_v vs 0) 164) (w_fi ws (n_v vs 0) 165) (w_fi ws (n_v vs 0) 159) (w_ei ws (w_ar ws (n_v vs 0) 162)) (w_ei ws (w_ar ws (n_v vs 0) 163)) (w_ei ws (w_ar ws (n_v vs 0) 1)) (w_fi ws (n_v vs 0) 10) k1 k2 k3 k6 k7 k8 k9 k10 k11 k12 k13 g0 (shm_192 f1) f2 f3 f4 (shm_192 f5) f6 f7 f8 f9 f10 f11 f12 f13 f14 (shm_1540 f15) (shm_1043 f16) f18 f19 hK_0_1 hK_0_160 hK_0_162 hK_0_163 kz_0_8 kz_0_10 kz_0_157 kz_0_158 kz_0_159 kz_0_164 kz_0_165)⟩
  have nf1 : fc_1 PRD (20, [1, 0], [30, 0, 1, 0, 0, -1, 1, 158]) ws (vs) := ⟨nf_in hl rfl, sgq_281 (vc_Mo_product_at_f0_4_1 (v_iv (n_v vs 1)) (v_iv (n_v vs 2)) (v_iv (n_v vs 3)) (v_iv (n_v vs 6)) (v_iv (n_v vs 7)) (v_iv (n_v vs 8)) (v_iv (n_v vs 9)) (v_iv (n_v vs 10)) (v_iv (n_v vs 11)) (v_iv (n_v vs 12)) (v_iv (n_v vs 13)) (w_fi ws (n_v vs 0) 158) (w_ei ws (w_ar ws (n_v vs 0) 160)) (w_ei ws (w_ar ws (n_v vs 0) 161)) (w_fi ws (n_v vs 0) 8) (w_fi ws (n_v vs 0) 157) (w_fi ws (n_v vs 0) 164) (w_fi ws (n_v vs 0) 165) (w_fi ws (n_v vs 0) 159) (w_ei ws (w_ar ws (n_v vs 0) 162)) (w_ei ws (w_ar ws (n_v vs 0) 163)) (w_ei ws (w_ar ws (n_v vs 0) 1)) (w_fi ws (n_v vs 0) 10) k1 k2 k3 k6 k7 k8 k9 k10 k11 k12 k13 g0 (shm_192 f1) f2 f3 f4 (shm_192 f5) f6 f7 f8 f9 f10 f11 f12 f13 f14 (shm_1540 f15) (shm_1043 f16) f18 f19 hK_0_1 hK_0_160 hK_0_162 hK_0_163 kz_0_8 kz_0_10 kz_0_157 kz_0_158 kz_0_159 kz_0_164 kz_0_165)⟩
  have nf2 : fc_1 PRD (20, [0], [30, 0, 1, 1, 159]) ws (vs) := ⟨nf_in hl rfl, sgq_1029 (vc_Mo_product_at_f0_4_2 (v_iv (n_v vs 1)) (v_iv (n_v vs 2)) (v_iv (n_v vs 3)) (v_iv (n_v vs 6)) (v_iv (n_v vs 7)) (v_iv (n_v vs 8)) (v_iv (n_v vs 9)) (v_iv (n_v vs 10)) (v_iv (n_v vs 11)) (v_iv (n_v vs 12)) (v_iv (n_v vs 13)) (w_fi ws (n_v vs 0) 158) (w_ei ws (w_ar ws (n_v vs 0) 160)) (w_ei ws (w_ar ws (n_v vs 0) 161)) (w_fi ws (n_v vs 0) 8) (w_fi ws (n_v vs 0) 157) (w_fi ws (n_v vs 0) 164) (w_fi ws (n_v vs 0) 165) (w_fi ws (n_v vs 0) 159) (w_ei ws (w_ar ws (n_v vs 0) 162)) (w_ei ws (w_ar ws (n_v vs 0) 163)) (w_ei ws (w_ar ws (n_v vs 0) 1)) (w_fi ws (n_v vs 0) 10) k1 k2 k3 k6 k7 k8 k9 k10 k11 k12 k13 g0 (shm_192 f1) f2 f3 f4 (shm_192 f5) f6 f7 f8 f9 f10 f11 f12 f13 f14 (shm_1540 f15) (shm_1043 f16) f18 f19 hK_0_1 hK_0_160 hK_0_162 hK_0_163 kz_0_8 kz_0_10 kz_0_157 kz_0_158 kz_0_159 kz_0_164 kz_0_165)⟩
  have nf3 : fc_1 PRD (20, [0], [30, 0, -1, 1, 159]) ws (vs) := ⟨nf_in hl rfl, sgq_1030 (vc_Mo_product_at_f0_4_3 (v_iv (n_v vs 1)) (v_iv (n_v vs 2)) (v_iv (n_v vs 3)) (v_iv (n_v vs 6)) (v_iv (n_v vs 7)) (v_iv (n_v vs 8)) (v_iv (n_v vs 9)) (v_iv (n_v vs 10)) (v_iv (n_v vs 11)) (v_iv (n_v vs 12)) (v_iv (n_v vs 13)) (w_fi ws (n_v vs 0) 158) (w_ei ws (w_ar ws (n_v vs 0) 160)) (w_ei ws (w_ar ws (n_v vs 0) 161)) (w_fi ws (n_v vs 0) 8) (w_fi ws (n_v vs 0) 157) (w_fi ws (n_v vs 0) 164) (w_fi ws (n_v vs 0) 165) (w_fi ws (n_v vs 0) 159) (w_ei ws (w_ar ws (n_v vs 0) 162)) (w_ei ws (w_ar ws (n_v vs 0) 163)) (w_ei ws (w_ar ws (n_v vs 0) 1)) (w_fi ws (n_v vs 0) 10) k1 k2 k3 k6 k7 k8 k9 k10 k11 k12 k13 g0 (shm_192 f1) f2 f3 f4 (shm_192 f5) f6 f7 f8 f9 f10 f11 f12 f13 f14 (shm_1540 f15) (shm_1043 f16) f18 f19 hK_0_1 hK_0_160 hK_0_162 hK_0_163 kz_0_8 kz_0_10 kz_0_157 kz_0_158 kz_0_159 kz_0_164 kz_0_165)⟩
  have nf4 : fc_1 PRD (20, [0, 1, 2, 3], [60, 4, 5, 1, 8, 158, 164, 10, 160, 161, 162, 163, 1]) ws (vs) := ⟨nf_in hl rfl, sgq_325 (vc_Mo_product_at_f0_4_4 (v_iv (n_v vs 1)) (v_iv (n_v vs 2)) (v_iv (n_v vs 3)) (v_iv (n_v vs 6)) (v_iv (n_v vs 8)) (v_iv (n_v vs 9)) (v_iv (n_v vs 10)) (v_iv (n_v vs 11)) (v_iv (n_v vs 12)) (v_iv (n_v vs 13)) (w_fi ws (n_v vs 0) 158) (w_ei ws (w_ar ws (n_v vs 0) 160)) (w_ei ws (w_ar ws (n_v vs 0) 161)) (w_fi ws (n_v vs 0) 8) (w_fi ws (n_v vs 0) 164) (w_ei ws (w_ar ws (n_v vs 0) 162)) (w_ei ws (w_ar ws (n_v vs 0) 163)) (w_ei ws (w_ar ws (n_v vs 0) 1)) (w_fi ws (n_v vs 0) 10) k1 k2 k3 k6 k8 k9 k10 k11 k12 k13 g0 (shm_192 f1) f3 f4 (shm_192 f5) f7 f8 f14 kz_0_8 kz_0_10 kz_0_158 kz_0_164)⟩
  refine ⟨(fun _ h => (by cases h)), [], trivial, ?_, (fun _ h => (by cases h))⟩
  rw [List.append_nil]
  exact List.forall_mem_cons.mpr ⟨⟨show (20 : Nat) < 100 from by decide, nf0⟩, List.forall_mem_cons.mpr ⟨⟨show (20 : Nat) < 100 from by decide, nf1⟩, List.forall_mem_cons.mpr ⟨⟨show (20 : Nat) < 100 from by decide, nf2⟩, List.forall_mem_cons.mpr ⟨⟨show (20 : Nat) < 100 from by decide, nf3⟩, List.forall_mem_cons.mpr ⟨⟨show (20 : Nat) < 100 from by decide, nf4⟩, (fun _ h => (by cases h))⟩⟩⟩⟩⟩
set_option maxHeartbeats 4000000 in
theorem vc_Mo_product_at_f0_5_0 (x1 : Int) (x2 : Int) (x3 : Int) (x6 : Int) (x7 : Int) (x8 : Int) (x9 : Int) (x10 : Int) (x11 : Int) (x12 : Int) (x13 : Int) (cur_0 : Int) (tokenKind_0 : Int → Int) (tokenValue_0 : Int → Int) (fault_0 : Int) (tokens_0 : Int) (styleKind_0 : Int) (styleOne_0 : Int) (tokenPlace_0 : Int → Int) (tokenEnd_0 : Int → Int) (tape_0 : Int → Int) (limit_0 : Int) (gx : Int) (k1 : 0 ≤ x1 ∧ x1 ≤ 2009) (k2 : 0 ≤ x2 ∧ x2 ≤ 5) (k3 : 0 ≤ x3 ∧ x3 ≤ 13) (k6 : 0 ≤ x6 ∧ x6 ≤ 2009) (k7 : 0 ≤ x7 ∧ x7 ≤ 2010) (k8 : 42 ≤ x8 ∧ x8 ≤ 42) (k9 : 0 ≤ x9 ∧ x9 ≤ 5) (k10 : 0 ≤ x10 ∧ x10 ≤ 0) (k11 : 47 ≤ x11 ∧ x11 ≤ 47) (k12 : 0 ≤ x12 ∧ x12 ≤ 5) (k13 : 1 ≤ x13 ∧ x13 ≤ 1) (g0 : x6 = cur_0) (f1 : x13 ≠ 0) (f2 : (x13 = 1) → (tokenKind_0 (cur_0) = 3)) (f3 : SGN (cur_0) (tokenKind_0) (tokenValue_0) (x11) (x13) (x12)) (f4 : fault_0 = x12) (f5 : x10 = 0) (f6 : (x10 = 1) → (tokenKind_0 (cur_0) = 3)) (f7 : SGN (cur_0) (tokenKind_0) (tokenValue_0) (x8) (x10) (x9)) (f8 : fault_0 = x9) (f9 : ((cur_0 + 1) ≤ tokens_0) ∧ ((tokens_0 ≤ 2010) ∧ ((tokenKind_0 ((tokens_0 - 1)) = 0) ∨ (tokenKind_0 ((tokens_0 - 1)) = 4)))) (f10 : 1 * x1 + ((-1) * cur_0 + 0) ≤ 0) (f11 : (styleKind_0 = 0) → (styleOne_0 ≤ 23)) (f12 : SPWv (fault_0) (cur_0) (styleKind_0) (limit_0) (tokenKind_0) (tokenValue_0) (tokenPlace_0) (tokenEnd_0) (tape_0) (x1) (x2) (x3)) (f13 : 1 * x3 + 0 ≤ 0) (f14 : (-1) * x3 + 0 ≤ 0) (f16 : 1 * x7 + (1 * cur_0 + 0) ≤ 2010) (f17 : (-1) * x7 + ((-1) * cur_0 + 0) ≤ (-2010)) (hK_0_1 : ∀ j : Int, 0 ≤ j → j < 2000 → (-128) ≤ tape_0 j ∧ tape_0 j ≤ 127) (hK_0_160 : ∀ j : Int, 0 ≤ j → j < 2010 → 0 ≤ tokenKind_0 j ∧ tokenKind_0 j ≤ 4) (hK_0_162 : ∀ j : Int, 0 ≤ j → j < 2010 → 0 ≤ tokenPlace_0 j ∧ tokenPlace_0 j ≤ 2000) (hK_0_163 : ∀ j : Int, 0 ≤ j → j < 2010 → 0 ≤ tokenEnd_0 j ∧ tokenEnd_0 j ≤ 2000) (kz_0_8 : 0 ≤ fault_0 ∧ fault_0 ≤ 5) (kz_0_10 : 0 ≤ limit_0 ∧ limit_0 ≤ 2000) (kz_0_157 : 0 ≤ tokens_0 ∧ tokens_0 ≤ 2010) (kz_0_158 : 0 ≤ cur_0 ∧ cur_0 ≤ 2009) (kz_0_164 : 0 ≤ styleKind_0 ∧ styleKind_0 ≤ 1) (kz_0_165 : (-1) ≤ styleOne_0 ∧ styleOne_0 ≤ 47) (ex2 : gx = fault_0) (ex3 : 0 ≤ gx ∧ gx ≤ 5) : fault_0 = gx := by
  first | with_reducible assumption | ((have f9_c0 := f9.1); (have f9_c1 := f9.2.1); (have f9_c2 := f9.2.2); (try and_intros) <;> first | with_reducible assumption | (clear f9_c2 f9 hK_0_1 hK_0_160 hK_0_162 hK_0_163 f2 f6 f11; omega)) | ((have f9_c0 := f9.1); (have f9_c1 := f9.2.1); (have f9_c2 := f9.2.2); (first | have f2_b := f2 (by clear f9_c2 f9 hK_0_1 hK_0_160 hK_0_162 hK_0_163 f2 f6 f11; omega) | skip); (first | have f6_b := f6 (by clear f9_c2 f9 hK_0_1 hK_0_160 hK_0_162 hK_0_163 f2 f6 f11; omega) | skip); (first | have f11_b := f11 (by clear f9_c2 f9 hK_0_1 hK_0_160 hK_0_162 hK_0_163 f2 f6 f11; omega) | skip); (first | have f2_d := f2 (by with_reducible assumption) | skip); (first | have f6_d := f6 (by with_reducible assumption) | skip); (first | have f11_d := f11 (by with_reducible assumption) | skip); (try and_intros) <;> first | with_reducible assumption | (clear f9_c2 f9 hK_0_1 hK_0_160 hK_0_162 hK_0_163 f2 f6 f11; omega)) | ((have f9_c0 := f9.1); (have f9_c1 := f9.2.1); (have f9_c2 := f9.2.2); (first | have f2_b := f2 (by clear f9_c2 f9 hK_0_1 hK_0_160 hK_0_162 hK_0_163 f2 f6 f11; omega) | skip); (first | have f6_b := f6 (by clear f9_c2 f9 hK_0_1 hK_0_160 hK_0_162 hK_0_163 f2 f6 f11; omega) | skip); (first | have f11_b := f11 (by clear f9_c2 f9 hK_0_1 hK_0_160 hK_0_162 hK_0_163 f2 f6 f11; omega) | skip); (first | have f2_d := f2 (by with_reducible assumption) | skip); (first | have f6_d := f6 (by with_reducible assumption) | skip); (first | have f11_d := f11 (by with_reducible assumption) | skip); (first | have f9_q := tk_nx0 f9 (by clear f9_c2 f9 hK_0_1 hK_0_160 hK_0_162 hK_0_163 f2 f6 f11; omega) | skip); (try and_intros) <;> first | with_reducible assumption | (clear f9_c2 f9 hK_0_1 hK_0_160 hK_0_162 hK_0_163 f2 f6 f11; omega)) | ((have f9_c0 := f9.1); (have f9_c1 := f9.2.1); (have f9_c2 := f9.2.2); (first | have f2_b := f2 (by clear f9_c2 f9 hK_0_1 hK_0_160 hK_0_162 hK_0_163 f2 f6 f11; omega) | skip); (first | have f6_b := f6 (by clear f9_c2 f9 hK_0_1 hK_0_160 hK_0_162 hK_0_163 f2 f6 f11; omega) | skip); (first | have f11_b := f11 (by clear f9_c2 f9 hK_0_1 hK_0_160 hK_0_162 hK_0_163 f2 f6 f11; omega) | skip); (first | have f2_d := f2 (by with_reducible assumption) | skip); (first | have f6_d := f6 (by with_reducible assumption) | skip); (first | have f11_d := f11 (by with_reducible assumption) | skip); (first | have f9_q := tk_nx0 f9 (by clear f9_c2 f9 hK_0_1 hK_0_160 hK_0_162 hK_0_163 f2 f6 f11; omega) | skip); (first | have f9_r0 := tk_nx1 (c := cur_0) f9.2 (by clear f9_c2 f9 hK_0_1 hK_0_160 hK_0_162 hK_0_163 f2 f6 f11; omega) (by clear f9_c2 f9 hK_0_1 hK_0_160 hK_0_162 hK_0_163 f2 f6 f11; omega) | skip); (try and_intros) <;> first | with_reducible assumption | (clear f9_c2 f9 hK_0_1 hK_0_160 hK_0_162 hK_0_163 f2 f6 f11; omega)) | omega
def o_Mo_product_at_f0_5 : or_T := (26, 15, [(0, (2, 0, 0, [165])), (1, (0, 0, 2009, [])), (2, (0, 0, 5, [])), (3, (0, 0, 13, [])), (6, (0, 0, 2009, [])), (7, (0, 0, 2010, [])), (8, (0, 42, 42, [])), (9, (0, 0, 5, [])), (10, (0, 0, 0, [])), (11, (0, 47, 47, [])), (12, (0, 0, 5, [])), (13, (0, 1, 1, []))], [(9, [6, 4], [158]), (8, [13], [1]), (20, [13, 4], [50, 1, 1, 1158, 1160, 4, 6, 1, 2, 1, 0, 0, 1, 1, 6, 3, 1, 160, 2, 1, 158, 0, 3]), (20, [4, 11, 13, 12], [60, 1, 2, 14, 158, 160, 161]), (20, [4, 12], [50, 1, 0, 8, 1, 3, 2, 0, 8, 1, 1]), (8, [10], [0]), (20, [10, 4], [50, 1, 1, 1158, 1160, 4, 6, 1, 2, 1, 0, 0, 1, 1, 6, 3, 1, 160, 2, 1, 158, 0, 3]), (20, [4, 8, 10, 9], [60, 1, 2, 14, 158, 160, 161]), (20, [4, 9], [50, 1, 0, 8, 1, 3, 2, 0, 8, 1, 1]), (20, [4], [50, 2, 1, 158, 157, 160, 2, 12, 0, 7, 4, 3, 2, 0, 158, 0, 1, 2, 0, 157, 2, 7, 0, 3, 2, 0, 157, 0, 2010, 3, 14, 1, 10, 3, 0, 160, 5, 3, 2, 0, 157, 0, 1, 0, 0, 1, 10, 3, 0, 160, 5, 3, 2, 0, 157, 0, 1, 0, 4]), (20, [1, 4], [30, 0, 1, 0, 0, -1, 1, 158]), (20, [4], [50, 2, 0, 164, 165, 4, 7, 1, 3, 2, 0, 164, 0, 0, 0, 3, 2, 0, 165, 0, 23]), (20, [4, 1, 2, 3], [60, 4, 5, 6, 8, 158, 164, 10, 160, 161, 162, 163, 1]), (23, [3], [0, 1]), (23, [3], [0, -1]), (24, [0, 4], []), (20, [7, 4], [30, 2010, 1, 0, 0, 1, 1, 158]), (20, [7, 4], [30, -2010, -1, 0, 0, -1, 1, 158])], [], [(0, 0, 5, [])], [(20, [4, 15], [50, 1, 0, 8, 1, 3, 2, 0, 8, 1, 1])], [], [])
theorem oo_Mo_product_at_f0_5 {kA : Nat → ClassId} : or_ok PRD kA GG o_Mo_product_at_f0_5 := by
  refine or_mk fun A ta ws vs hD hth hl => ?_
  intro t0 r0 t1 k1 t2 k2 t3 k3 t6 k6 t7 k7 t8 k8 t9 k9 t10 k10 t11 k11 t12 k12 t13 k13 f0 f1 f2 f3 f4 f5 f6 f7 f8 f9 f10 f11 f12 f13 f14 f15 f16 f17
  replace f0 := shm_286 f0
  replace f1 := shm_142 f1
  replace f2 := shm_296 f2
  replace f3 := shm_297 f3
  replace f4 := shm_277 f4
  replace f5 := shm_192 f5
  replace f6 := shm_296 f6
  replace f7 := shm_297 f7
  replace f8 := shm_277 f8
  replace f9 := shm_271 f9
  replace f10 := shm_281 f10
  replace f11 := shm_274 f11
  replace f12 := shm_324 f12
  replace f13 := shm_1540 f13
  replace f14 := shm_1043 f14
  replace f15 := shm_5 f15
  replace f16 := shm_284 f16
  replace f17 := shm_285 f17
  have q4 : n_v vs 4 = n_v vs 0 := f15.symm
  simp only [q4] at f0 f2 f3 f4 f6 f7 f8 f9 f10 f11 f12 f16 f17
  have cr_0_1 := fdq_39 hD hth r0
  have cr_0_160 := fdq_33 hD hth r0
  have cr_0_162 := fdq_41 hD hth r0
  have cr_0_163 := fdq_42 hD hth r0
  have g0 : v_iv (n_v vs 6) = w_fi ws (n_v vs 0) 158 := congrArg v_iv f0
  have hK_0_1 := elq_7 hD hth cr_0_1
  have hK_0_160 := elq_6 hD hth cr_0_160
  have hK_0_162 := elq_8 hD hth cr_0_162
  have hK_0_163 := elq_9 hD hth cr_0_163
  have kz_0_8 := fdq_34 hD hth r0
  have kz_0_10 := fdq_43 hD hth r0
  have kz_0_157 := fdq_35 hD hth r0
  have kz_0_158 := fdq_36 hD hth r0
  have kz_0_164 := fdq_38 hD hth r0
  have kz_0_165 := fdq_27 hD hth r0
  obtain ⟨x, ex, hx⟩ := iv_ex (ta := ta) (lo := 0) (hi := 5) (z := w_fi ws (n_v vs 0) 8) (by omega) (by omega) (by omega) (by omega)
  have ex2 : v_iv (Value.int x) = w_fi ws (n_v vs 0) 8 := ex
  have ex3 : 0 ≤ v_iv (Value.int x) ∧ v_iv (Value.int x) ≤ 5 := tv_rng hx
  have e_4 : n_v (vs ++ [Value.int x]) 4 = n_v vs 4 := n_v_old (by rw [hl]; decide)
  have e_15 : n_v (vs ++ [Value.int x]) 15 = Value.int x := n_v_new hl
  have nf0 : fc_1 PRD (20, [4, 15], [50, 1, 0, 8, 1, 3, 2, 0, 8, 1, 1]) ws (vs ++ [Value.int x]) := by
    refine ⟨nf_inA hl rfl, sgq_277 ?_⟩
    · show w_fi ws (n_v (vs ++ [Value.int x]) 4) 8 = v_iv (n_v (vs ++ [Value.int x]) 15)
      simp only [e_4, e_15, q4]
      exact vc_Mo_product_at_f0_5_0 (v_iv (n_v vs 1)) (v_iv (n_v vs 2)) (v_iv (n_v vs 3)) (v_iv (n_v vs 6)) (v_iv (n_v vs 7)) (v_iv (n_v vs 8)) (v_iv (n_v vs 9)) (v_iv (n_v vs 10)) (v_iv (n_v vs 11)) (v_iv (n_v vs 12)) (v_iv (n_v vs 13)) (w_fi ws (n_v vs 0) 158) (w_ei ws (w_ar ws (n_v vs 0) 160)) (w_ei ws (w_ar ws (n_v vs 0) 161)) (w_fi ws (n_v vs 0) 8) (w_fi ws (n_v vs 0) 157) (w_fi ws (n_v vs 0) 164) (w_fi ws (n_v vs 0) 165) (w_ei ws (w_ar ws (n_v vs 0) 162)) (w_ei ws (w_ar ws (n_v vs 0) 163)) (w_ei ws (w_ar ws (n_v vs 0) 1)) (w_fi ws (n_v vs 0) 10) (v_iv (Value.int x)) k1 k2 k3 k6 k7 k8 k9 k10 k11 k12 k13 g0 f1 f2 f3 f4 f5 f6 f7 f8 f9 f10 f11 f12 f13 f14 f16 f17 hK_0_1 hK_0_160 hK_0_162 hK_0_163 kz_0_8 kz_0_10 kz_0_157 kz_0_158 kz_0_164 kz_0_165 ex2 ex3
  exact ⟨(fun _ h => (by cases h)), [Value.int x], ag_one hx, List.forall_mem_cons.mpr ⟨⟨show (20 : Nat) < 100 from by decide, nf0⟩, (fun _ h => (by cases h))⟩, (fun _ h => (by cases h))⟩
set_option maxHeartbeats 4000000 in
theorem vc_Mo_product_at_f0_6_r0 (x1 : Int) (x2 : Int) (x3 : Int) (x6 : Int) (x7 : Int) (x8 : Int) (x9 : Int) (x10 : Int) (x11 : Int) (x12 : Int) (x13 : Int) (x14 : Int) (x15 : Int) (x16 : Int) (x17 : Int) (x18 : Int) (cur_0 : Int) (tokenKind_0 : Int → Int) (tokenValue_0 : Int → Int) (fault_0 : Int) (tokens_0 : Int) (styleKind_0 : Int) (styleOne_0 : Int) (tokenPlace_0 : Int → Int) (tokenEnd_0 : Int → Int) (tape_0 : Int → Int) (limit_0 : Int) (k1 : 0 ≤ x1 ∧ x1 ≤ 2009) (k2 : 0 ≤ x2 ∧ x2 ≤ 5) (k3 : 0 ≤ x3 ∧ x3 ≤ 13) (k6 : 0 ≤ x6 ∧ x6 ≤ 2009) (k7 : 0 ≤ x7 ∧ x7 ≤ 2010) (k8 : 42 ≤ x8 ∧ x8 ≤ 42) (k9 : 0 ≤ x9 ∧ x9 ≤ 5) (k10 : 0 ≤ x10 ∧ x10 ≤ 0) (k11 : 47 ≤ x11 ∧ x11 ≤ 47) (k12 : 0 ≤ x12 ∧ x12 ≤ 5) (k13 : 1 ≤ x13 ∧ x13 ≤ 1) (k14 : 42 ≤ x14 ∧ x14 ≤ 42) (k15 : 0 ≤ x15 ∧ x15 ≤ 5) (k16 : 0 ≤ x16 ∧ x16 ≤ 0) (k17 : 1 ≤ x17 ∧ x17 ≤ 1) (k18 : 1 ≤ x18 ∧ x18 ≤ 2010) (d0 : x6 + 1 ≤ x18 ∧ x18 ≤ x6 + 1) (f0 : x18 = x6 + x17) (g1 : x6 = cur_0) (f2 : (x16 = 1) → (tokenKind_0 (cur_0) = 3)) (f3 : SGN (cur_0) (tokenKind_0) (tokenValue_0) (x14) (x16) (x15)) (f4 : fault_0 = x15) (f5 : x13 ≠ 0) (f6 : (x13 = 1) → (tokenKind_0 (cur_0) = 3)) (f7 : SGN (cur_0) (tokenKind_0) (tokenValue_0) (x11) (x13) (x12)) (f8 : fault_0 = x12) (f9 : x10 = 0) (f10 : (x10 = 1) → (tokenKind_0 (cur_0) = 3)) (f11 : SGN (cur_0) (tokenKind_0) (tokenValue_0) (x8) (x10) (x9)) (f12 : fault_0 = x9) (f13 : ((cur_0 + 1) ≤ tokens_0) ∧ ((tokens_0 ≤ 2010) ∧ ((tokenKind_0 ((tokens_0 - 1)) = 0) ∨ (tokenKind_0 ((tokens_0 - 1)) = 4)))) (f14 : 1 * x1 + ((-1) * cur_0 + 0) ≤ 0) (f15 : (styleKind_0 = 0) → (styleOne_0 ≤ 23)) (f16 : SPWv (fault_0) (cur_0) (styleKind_0) (limit_0) (tokenKind_0) (tokenValue_0) (tokenPlace_0) (tokenEnd_0) (tape_0) (x1) (x2) (x3)) (f17 : 1 * x3 + 0 ≤ 0) (f18 : (-1) * x3 + 0 ≤ 0) (f20 : 1 * x7 + (1 * cur_0 + 0) ≤ 2010) (f21 : (-1) * x7 + ((-1) * cur_0 + 0) ≤ (-2010)) (hK_0_1 : ∀ j : Int, 0 ≤ j → j < 2000 → (-128) ≤ tape_0 j ∧ tape_0 j ≤ 127) (hK_0_160 : ∀ j : Int, 0 ≤ j → j < 2010 → 0 ≤ tokenKind_0 j ∧ tokenKind_0 j ≤ 4) (hK_0_162 : ∀ j : Int, 0 ≤ j → j < 2010 → 0 ≤ tokenPlace_0 j ∧ tokenPlace_0 j ≤ 2000) (hK_0_163 : ∀ j : Int, 0 ≤ j → j < 2010 → 0 ≤ tokenEnd_0 j ∧ tokenEnd_0 j ≤ 2000) (kz_0_8 : 0 ≤ fault_0 ∧ fault_0 ≤ 5) (kz_0_10 : 0 ≤ limit_0 ∧ limit_0 ≤ 2000) (kz_0_157 : 0 ≤ tokens_0 ∧ tokens_0 ≤ 2010) (kz_0_158 : 0 ≤ cur_0 ∧ cur_0 ≤ 2009) (kz_0_164 : 0 ≤ styleKind_0 ∧ styleKind_0 ≤ 1) (kz_0_165 : (-1) ≤ styleOne_0 ∧ styleOne_0 ≤ 47) : 1 ≤ x18 ∧ x18 ≤ 2009 := by
  first | with_reducible assumption | ((have f13_c0 := f13.1); (have f13_c1 := f13.2.1); (have f13_c2 := f13.2.2); (try and_intros) <;> first | with_reducible assumption | (clear f13_c2 f13 hK_0_1 hK_0_160 hK_0_162 hK_0_163 f2 f6 f10 f15; omega)) | ((have f13_c0 := f13.1); (have f13_c1 := f13.2.1); (have f13_c2 := f13.2.2); (first | have f2_b := f2 (by clear f13_c2 f13 hK_0_1 hK_0_160 hK_0_162 hK_0_163 f2 f6 f10 f15; omega) | skip); (first | have f6_b := f6 (by clear f13_c2 f13 hK_0_1 hK_0_160 hK_0_162 hK_0_163 f2 f6 f10 f15; omega) | skip); (first | have f10_b := f10 (by clear f13_c2 f13 hK_0_1 hK_0_160 hK_0_162 hK_0_163 f2 f6 f10 f15; omega) | skip); (first | have f15_b := f15 (by clear f13_c2 f13 hK_0_1 hK_0_160 hK_0_162 hK_0_163 f2 f6 f10 f15; omega) | skip); (first | have f2_d := f2 (by with_reducible assumption) | skip); (first | have f6_d := f6 (by with_reducible assumption) | skip); (first | have f10_d := f10 (by with_reducible assumption) | skip); (first | have f15_d := f15 (by with_reducible assumption) | skip); (try and_intros) <;> first | with_reducible assumption | (clear f13_c2 f13 hK_0_1 hK_0_160 hK_0_162 hK_0_163 f2 f6 f10 f15; omega)) | ((have f13_c0 := f13.1); (have f13_c1 := f13.2.1); (have f13_c2 := f13.2.2); (first | have f2_b := f2 (by clear f13_c2 f13 hK_0_1 hK_0_160 hK_0_162 hK_0_163 f2 f6 f10 f15; omega) | skip); (first | have f6_b := f6 (by clear f13_c2 f13 hK_0_1 hK_0_160 hK_0_162 hK_0_163 f2 f6 f10 f15; omega) | skip); (first | have f10_b := f10 (by clear f13_c2 f13 hK_0_1 hK_0_160 hK_0_162 hK_0_163 f2 f6 f10 f15; omega) | skip); (first | have f15_b := f15 (by clear f13_c2 f13 hK_0_1 hK_0_160 hK_0_162 hK_0_163 f2 f6 f10 f15; omega) | skip); (first | have f2_d := f2 (by with_reducible assumption) | skip); (first | have f6_d := f6 (by with_reducible assumption) | skip); (first | have f10_d := f10 (by with_reducible assumption) | skip); (first | have f15_d := f15 (by with_reducible assumption) | skip); (first | have f13_q := tk_nx0 f13 (by clear f13_c2 f13 hK_0_1 hK_0_160 hK_0_162 hK_0_163 f2 f6 f10 f15; omega) | skip); (try and_intros) <;> first | with_reducible assumption | (clear f13_c2 f13 hK_0_1 hK_0_160 hK_0_162 hK_0_163 f2 f6 f10 f15; omega)) | ((have f13_c0 := f13.1); (have f13_c1 := f13.2.1); (have f13_c2 := f13.2.2); (first | have f2_b := f2 (by clear f13_c2 f13 hK_0_1 hK_0_160 hK_0_162 hK_0_163 f2 f6 f10 f15; omega) | skip); (first | have f6_b := f6 (by clear f13_c2 f13 hK_0_1 hK_0_160 hK_0_162 hK_0_163 f2 f6 f10 f15; omega) | skip); (first | have f10_b := f10 (by clear f13_c2 f13 hK_0_1 hK_0_160 hK_0_162 hK_0_163 f2 f6 f10 f15; omega) | skip); (first | have f15_b := f15 (by clear f13_c2 f13 hK_0_1 hK_0_160 hK_0_162 hK_0_163 f2 f6 f10 f15; omega) | skip); (first | have f2_d := f2 (by with_reducible assumption) | skip); (first | have f6_d := f6 (by with_reducible assumption) | skip); (first | have f10_d := f10 (by with_reducible assumption) | skip); (first | have f15_d := f15 (by with_reducible assumption) | skip); (first | have f13_q := tk_nx0 f13 (by clear f13_c2 f13 hK_0_1 hK_0_160 hK_0_162 hK_0_163 f2 f6 f10 f15; omega) | skip); (first | have f13_r0 := tk_nx1 (c := cur_0) f13.2 (by clear f13_c2 f13 hK_0_1 hK_0_160 hK_0_162 hK_0_163 f2 f6 f10 f15; omega) (by clear f13_c2 f13 hK_0_1 hK_0_160 hK_0_162 hK_0_163 f2 f6 f10 f15; omega) | skip); (try and_intros) <;> first | with_reducible assumption | (clear f13_c2 f13 hK_0_1 hK_0_160 hK_0_162 hK_0_163 f2 f6 f10 f15; omega)) | omega
def o_Mo_product_at_f0_6 : or_T := (37, 19, [(0, (2, 0, 0, [165])), (1, (0, 0, 2009, [])), (2, (0, 0, 5, [])), (3, (0, 0, 13, [])), (4, (2, 0, 0, [165])), (6, (0, 0, 2009, [])), (7, (0, 0, 2010, [])), (8, (0, 42, 42, [])), (9, (0, 0, 5, [])), (10, (0, 0, 0, [])), (11, (0, 47, 47, [])), (12, (0, 0, 5, [])), (13, (0, 1, 1, [])), (14, (0, 42, 42, [])), (15, (0, 0, 5, [])), (16, (0, 0, 0, [])), (17, (0, 1, 1, [])), (18, (0, 1, 2010, []))], [(1, [18, 6, 17], []), (9, [6, 4], [158]), (20, [16, 4], [50, 1, 1, 1158, 1160, 4, 6, 1, 2, 1, 0, 0, 1, 1, 6, 3, 1, 160, 2, 1, 158, 0, 3]), (20, [4, 14, 16, 15], [60, 1, 2, 14, 158, 160, 161]), (20, [4, 15], [50, 1, 0, 8, 1, 3, 2, 0, 8, 1, 1]), (8, [13], [1]), (20, [13, 4], [50, 1, 1, 1158, 1160, 4, 6, 1, 2, 1, 0, 0, 1, 1, 6, 3, 1, 160, 2, 1, 158, 0, 3]), (20, [4, 11, 13, 12], [60, 1, 2, 14, 158, 160, 161]), (20, [4, 12], [50, 1, 0, 8, 1, 3, 2, 0, 8, 1, 1]), (8, [10], [0]), (20, [10, 4], [50, 1, 1, 1158, 1160, 4, 6, 1, 2, 1, 0, 0, 1, 1, 6, 3, 1, 160, 2, 1, 158, 0, 3]), (20, [4, 8, 10, 9], [60, 1, 2, 14, 158, 160, 161]), (20, [4, 9], [50, 1, 0, 8, 1, 3, 2, 0, 8, 1, 1]), (20, [4], [50, 2, 1, 158, 157, 160, 2, 12, 0, 7, 4, 3, 2, 0, 158, 0, 1, 2, 0, 157, 2, 7, 0, 3, 2, 0, 157, 0, 2010, 3, 14, 1, 10, 3, 0, 160, 5, 3, 2, 0, 157, 0, 1, 0, 0, 1, 10, 3, 0, 160, 5, 3, 2, 0, 157, 0, 1, 0, 4]), (20, [1, 4], [30, 0, 1, 0, 0, -1, 1, 158]), (20, [4], [50, 2, 0, 164, 165, 4, 7, 1, 3, 2, 0, 164, 0, 0, 0, 3, 2, 0, 165, 0, 23]), (20, [4, 1, 2, 3], [60, 4, 5, 6, 8, 158, 164, 10, 160, 161, 162, 163, 1]), (23, [3], [0, 1]), (23, [3], [0, -1]), (24, [0, 4], []), (20, [7, 4], [30, 2010, 1, 0, 0, 1, 1, 158]), (20, [7, 4], [30, -2010, -1, 0, 0, -1, 1, 158])], [(18, (0, 1, 2009, []))], [], [], [], [(18, 6, 1, 1)])
