
set_option maxHeartbeats 4000000 in
theorem vc_Re_readGroup_4_r0 (x14 : Int) (x15 : Int) (x16 : Int) (x21 : Int) (depth_0 : Int) (groups_0o1 : Int) (begin_0 : Int) (next_0 : Int) (tape_0 : Int → Int) (open_0 : Int → Int) (nameLength_0o1 : Int → Int) (name_0o1 : Int → Int) (tail_0o1 : Int → Int) (head_0o1 : Int → Int) (end_0 : Int) (nodes_0o1 : Int) (edges_0o1 : Int) (near_0o1 : Int → Int) (fault_0 : Int) (kind_0 : Int) (number_0 : Int) (tape_1 : Int → Int) (open_1 : Int → Int) (nameLength_1o1 : Int → Int) (name_1o1 : Int → Int) (tail_1o1 : Int → Int) (head_1o1 : Int → Int) (end_1 : Int) (depth_1 : Int) (nodes_1o1 : Int) (edges_1o1 : Int) (groups_1o1 : Int) (near_1o1 : Int → Int) (fault_1 : Int) (kind_1 : Int) (number_1 : Int) (next_1 : Int) (begin_1 : Int) (open_2 : Int → Int) (tape_2 : Int → Int) (nameLength_2o1 : Int → Int) (name_2o1 : Int → Int) (tail_2o1 : Int → Int) (head_2o1 : Int → Int) (end_2 : Int) (depth_2 : Int) (nodes_2o1 : Int) (edges_2o1 : Int) (groups_2o1 : Int) (near_2o1 : Int → Int) (fault_2 : Int) (kind_2 : Int) (number_2 : Int) (next_2 : Int) (begin_2 : Int) (within_0o1 : Int → Int) (within_1o1 : Int → Int) (groupNameLength_1o1 : Int → Int) (groupNameLength_2o1 : Int → Int) (k14 : 0 ≤ x14 ∧ x14 ≤ 2000) (k15 : 0 ≤ x15 ∧ x15 ≤ 2000) (k16 : 0 ≤ x16 ∧ x16 ≤ 8) (k21 : (-2000) ≤ x21 ∧ x21 ≤ 2000) (f5 : x21 = x14 - x15) (g6 : x15 = begin_0) (g7 : x14 = next_0) (f24 : x16 = x14 - x15) (fe_0_2_1 : fault_0 = fault_1) (fe_0_5_1 : end_0 = end_1) (fe_0_6_1 : next_0 = next_1) (fe_0_7_1 : kind_0 = kind_1) (fe_0_8_1 : begin_0 = begin_1) (fe_0_9_1 : number_0 = number_1) (fe_0_11_1 : depth_0 = depth_1) (fe_1_0_1 : nodes_0o1 = nodes_1o1) (fe_1_1_1 : edges_0o1 = edges_1o1) (fe_1_2_1 : groups_0o1 = groups_1o1) (fe_0_2_2 : fault_1 = fault_2) (fe_0_5_2 : end_1 = end_2) (fe_0_6_2 : next_1 = next_2) (fe_0_7_2 : kind_1 = kind_2) (fe_0_8_2 : begin_1 = begin_2) (fe_0_9_2 : number_1 = number_2) (fe_0_11_2 : depth_1 = depth_2) (fe_1_0_2 : nodes_1o1 = nodes_2o1) (fe_1_1_2 : edges_1o1 = edges_2o1) (fe_1_2_2 : groups_1o1 = groups_2o1) (hE_0_0_1 : ∀ j : Int, tape_0 j = tape_1 j) (hE_0_0_2 : ∀ j : Int, tape_1 j = tape_2 j) (hE_0_10_1 : ∀ j : Int, open_0 j = open_1 j) (hE_0_10_2 : ∀ j : Int, open_1 j = open_2 j) (hE_1_3_1 : ∀ j : Int, name_0o1 j = name_1o1 j) (hE_1_3_2 : ∀ j : Int, name_1o1 j = name_2o1 j) (hE_1_4_1 : ∀ j : Int, nameLength_0o1 j = nameLength_1o1 j) (hE_1_4_2 : ∀ j : Int, nameLength_1o1 j = nameLength_2o1 j) (hE_1_7_1 : ∀ j : Int, tail_0o1 j = tail_1o1 j) (hE_1_7_2 : ∀ j : Int, tail_1o1 j = tail_2o1 j) (hE_1_8_1 : ∀ j : Int, head_0o1 j = head_1o1 j) (hE_1_8_2 : ∀ j : Int, head_1o1 j = head_2o1 j) (hE_1_11_1 : ∀ j : Int, within_0o1 j = within_1o1 j) (hE_1_13_2 : ∀ j : Int, groupNameLength_1o1 j = groupNameLength_2o1 j) (hE_1_14_1 : ∀ j : Int, near_0o1 j = near_1o1 j) (hE_1_14_2 : ∀ j : Int, near_1o1 j = near_2o1 j) (kz_0_2 : (-1) ≤ fault_0 ∧ fault_0 ≤ 5) (kz_0_5 : 0 ≤ end_0 ∧ end_0 ≤ 2000) (kz_0_6 : 0 ≤ next_0 ∧ next_0 ≤ 2000) (kz_0_7 : (-128) ≤ kind_0 ∧ kind_0 ≤ 127) (kz_0_8 : 0 ≤ begin_0 ∧ begin_0 ≤ 2000) (kz_0_9 : (-176) ≤ number_0 ∧ number_0 ≤ 1000000) (kz_0_11 : 0 ≤ depth_0 ∧ depth_0 ≤ 4) (kz_1_0 : 0 ≤ nodes_0o1 ∧ nodes_0o1 ≤ 24) (kz_1_1 : 0 ≤ edges_0o1 ∧ edges_0o1 ≤ 48) (kz_1_2 : 0 ≤ groups_0o1 ∧ groups_0o1 ≤ 8) : 0 ≤ x21 ∧ x21 ≤ 64 := by
  subst fe_0_2_1
  subst fe_0_5_1
  subst fe_0_6_1
  subst fe_0_7_1
  subst fe_0_8_1
  subst fe_0_9_1
  subst fe_0_11_1
  subst fe_1_0_1
  subst fe_1_1_1
  subst fe_1_2_1
  subst fe_0_2_2
  subst fe_0_5_2
  subst fe_0_6_2
  subst fe_0_7_2
  subst fe_0_8_2
  subst fe_0_9_2
  subst fe_0_11_2
  subst fe_1_0_2
  subst fe_1_1_2
  subst fe_1_2_2
  have e_hE_0_0_1 := funext hE_0_0_1; subst e_hE_0_0_1
  have e_hE_0_0_2 := funext hE_0_0_2; subst e_hE_0_0_2
  have e_hE_0_10_1 := funext hE_0_10_1; subst e_hE_0_10_1
  have e_hE_0_10_2 := funext hE_0_10_2; subst e_hE_0_10_2
  have e_hE_1_3_1 := funext hE_1_3_1; subst e_hE_1_3_1
  have e_hE_1_3_2 := funext hE_1_3_2; subst e_hE_1_3_2
  have e_hE_1_4_1 := funext hE_1_4_1; subst e_hE_1_4_1
  have e_hE_1_4_2 := funext hE_1_4_2; subst e_hE_1_4_2
  have e_hE_1_7_1 := funext hE_1_7_1; subst e_hE_1_7_1
  have e_hE_1_7_2 := funext hE_1_7_2; subst e_hE_1_7_2
  have e_hE_1_8_1 := funext hE_1_8_1; subst e_hE_1_8_1
  have e_hE_1_8_2 := funext hE_1_8_2; subst e_hE_1_8_2
  have e_hE_1_11_1 := funext hE_1_11_1; subst e_hE_1_11_1
  have e_hE_1_13_2 := funext hE_1_13_2; subst e_hE_1_13_2
  have e_hE_1_14_1 := funext hE_1_14_1; subst e_hE_1_14_1
  have e_hE_1_14_2 := funext hE_1_14_2; subst e_hE_1_14_2
  first
    | omega
  
set_option maxHeartbeats 4000000 in
theorem vc_Re_readGroup_4_0 (x14 : Int) (x15 : Int) (x21 : Int) (depth_0 : Int) (groups_0o1 : Int) (begin_0 : Int) (next_0 : Int) (tape_0 : Int → Int) (open_0 : Int → Int) (nameLength_0o1 : Int → Int) (name_0o1 : Int → Int) (tail_0o1 : Int → Int) (head_0o1 : Int → Int) (end_0 : Int) (nodes_0o1 : Int) (edges_0o1 : Int) (near_0o1 : Int → Int) (fault_0 : Int) (kind_0 : Int) (number_0 : Int) (tape_1 : Int → Int) (open_1 : Int → Int) (nameLength_1o1 : Int → Int) (name_1o1 : Int → Int) (tail_1o1 : Int → Int) (head_1o1 : Int → Int) (end_1 : Int) (depth_1 : Int) (nodes_1o1 : Int) (edges_1o1 : Int) (groups_1o1 : Int) (near_1o1 : Int → Int) (fault_1 : Int) (kind_1 : Int) (number_1 : Int) (next_1 : Int) (begin_1 : Int) (open_2 : Int → Int) (tape_2 : Int → Int) (nameLength_2o1 : Int → Int) (name_2o1 : Int → Int) (tail_2o1 : Int → Int) (head_2o1 : Int → Int) (end_2 : Int) (depth_2 : Int) (nodes_2o1 : Int) (edges_2o1 : Int) (groups_2o1 : Int) (near_2o1 : Int → Int) (fault_2 : Int) (kind_2 : Int) (number_2 : Int) (next_2 : Int) (begin_2 : Int) (within_0o1 : Int → Int) (within_1o1 : Int → Int) (groupNameLength_1o1 : Int → Int) (groupNameLength_2o1 : Int → Int) (k14 : 0 ≤ x14 ∧ x14 ≤ 2000) (k15 : 0 ≤ x15 ∧ x15 ≤ 2000) (k21 : (-2000) ≤ x21 ∧ x21 ≤ 2000) (f5 : x21 = x14 - x15) (g6 : x15 = begin_0) (g7 : x14 = next_0) (fe_0_2_1 : fault_0 = fault_1) (fe_0_5_1 : end_0 = end_1) (fe_0_6_1 : next_0 = next_1) (fe_0_7_1 : kind_0 = kind_1) (fe_0_8_1 : begin_0 = begin_1) (fe_0_9_1 : number_0 = number_1) (fe_0_11_1 : depth_0 = depth_1) (fe_1_0_1 : nodes_0o1 = nodes_1o1) (fe_1_1_1 : edges_0o1 = edges_1o1) (fe_1_2_1 : groups_0o1 = groups_1o1) (fe_0_2_2 : fault_1 = fault_2) (fe_0_5_2 : end_1 = end_2) (fe_0_6_2 : next_1 = next_2) (fe_0_7_2 : kind_1 = kind_2) (fe_0_8_2 : begin_1 = begin_2) (fe_0_9_2 : number_1 = number_2) (fe_0_11_2 : depth_1 = depth_2) (fe_1_0_2 : nodes_1o1 = nodes_2o1) (fe_1_1_2 : edges_1o1 = edges_2o1) (fe_1_2_2 : groups_1o1 = groups_2o1) (hE_0_0_1 : ∀ j : Int, tape_0 j = tape_1 j) (hE_0_0_2 : ∀ j : Int, tape_1 j = tape_2 j) (hE_0_10_1 : ∀ j : Int, open_0 j = open_1 j) (hE_0_10_2 : ∀ j : Int, open_1 j = open_2 j) (hE_1_3_1 : ∀ j : Int, name_0o1 j = name_1o1 j) (hE_1_3_2 : ∀ j : Int, name_1o1 j = name_2o1 j) (hE_1_4_1 : ∀ j : Int, nameLength_0o1 j = nameLength_1o1 j) (hE_1_4_2 : ∀ j : Int, nameLength_1o1 j = nameLength_2o1 j) (hE_1_7_1 : ∀ j : Int, tail_0o1 j = tail_1o1 j) (hE_1_7_2 : ∀ j : Int, tail_1o1 j = tail_2o1 j) (hE_1_8_1 : ∀ j : Int, head_0o1 j = head_1o1 j) (hE_1_8_2 : ∀ j : Int, head_1o1 j = head_2o1 j) (hE_1_11_1 : ∀ j : Int, within_0o1 j = within_1o1 j) (hE_1_13_2 : ∀ j : Int, groupNameLength_1o1 j = groupNameLength_2o1 j) (hE_1_14_1 : ∀ j : Int, near_0o1 j = near_1o1 j) (hE_1_14_2 : ∀ j : Int, near_1o1 j = near_2o1 j) (kz_0_2 : (-1) ≤ fault_0 ∧ fault_0 ≤ 5) (kz_0_5 : 0 ≤ end_0 ∧ end_0 ≤ 2000) (kz_0_6 : 0 ≤ next_0 ∧ next_0 ≤ 2000) (kz_0_7 : (-128) ≤ kind_0 ∧ kind_0 ≤ 127) (kz_0_8 : 0 ≤ begin_0 ∧ begin_0 ≤ 2000) (kz_0_9 : (-176) ≤ number_0 ∧ number_0 ≤ 1000000) (kz_0_11 : 0 ≤ depth_0 ∧ depth_0 ≤ 4) (kz_1_0 : 0 ≤ nodes_0o1 ∧ nodes_0o1 ≤ 24) (kz_1_1 : 0 ≤ edges_0o1 ∧ edges_0o1 ≤ 48) (kz_1_2 : 0 ≤ groups_0o1 ∧ groups_0o1 ≤ 8) : x15 + x21 ≤ 2000 := by
  subst fe_0_2_1
  subst fe_0_5_1
  subst fe_0_6_1
  subst fe_0_7_1
  subst fe_0_8_1
  subst fe_0_9_1
  subst fe_0_11_1
  subst fe_1_0_1
  subst fe_1_1_1
  subst fe_1_2_1
  subst fe_0_2_2
  subst fe_0_5_2
  subst fe_0_6_2
  subst fe_0_7_2
  subst fe_0_8_2
  subst fe_0_9_2
  subst fe_0_11_2
  subst fe_1_0_2
  subst fe_1_1_2
  subst fe_1_2_2
  have e_hE_0_0_1 := funext hE_0_0_1; subst e_hE_0_0_1
  have e_hE_0_0_2 := funext hE_0_0_2; subst e_hE_0_0_2
  have e_hE_0_10_1 := funext hE_0_10_1; subst e_hE_0_10_1
  have e_hE_0_10_2 := funext hE_0_10_2; subst e_hE_0_10_2
  have e_hE_1_3_1 := funext hE_1_3_1; subst e_hE_1_3_1
  have e_hE_1_3_2 := funext hE_1_3_2; subst e_hE_1_3_2
  have e_hE_1_4_1 := funext hE_1_4_1; subst e_hE_1_4_1
  have e_hE_1_4_2 := funext hE_1_4_2; subst e_hE_1_4_2
  have e_hE_1_7_1 := funext hE_1_7_1; subst e_hE_1_7_1
  have e_hE_1_7_2 := funext hE_1_7_2; subst e_hE_1_7_2
  have e_hE_1_8_1 := funext hE_1_8_1; subst e_hE_1_8_1
  have e_hE_1_8_2 := funext hE_1_8_2; subst e_hE_1_8_2
  have e_hE_1_11_1 := funext hE_1_11_1; subst e_hE_1_11_1
  have e_hE_1_13_2 := funext hE_1_13_2; subst e_hE_1_13_2
  have e_hE_1_14_1 := funext hE_1_14_1; subst e_hE_1_14_1
  have e_hE_1_14_2 := funext hE_1_14_2; subst e_hE_1_14_2
  first
    | omega
  
set_option maxHeartbeats 4000000 in
theorem vc_Re_readGroup_4_1 (x3 : Int) (x14 : Int) (x15 : Int) (x16 : Int) (x20 : Int) (x21 : Int) (depth_0 : Int) (groups_0o1 : Int) (begin_0 : Int) (next_0 : Int) (tape_0 : Int → Int) (open_0 : Int → Int) (nameLength_0o1 : Int → Int) (name_0o1 : Int → Int) (tail_0o1 : Int → Int) (head_0o1 : Int → Int) (end_0 : Int) (nodes_0o1 : Int) (edges_0o1 : Int) (near_0o1 : Int → Int) (fault_0 : Int) (kind_0 : Int) (number_0 : Int) (tape_1 : Int → Int) (open_1 : Int → Int) (nameLength_1o1 : Int → Int) (name_1o1 : Int → Int) (tail_1o1 : Int → Int) (head_1o1 : Int → Int) (end_1 : Int) (depth_1 : Int) (nodes_1o1 : Int) (edges_1o1 : Int) (groups_1o1 : Int) (near_1o1 : Int → Int) (fault_1 : Int) (kind_1 : Int) (number_1 : Int) (next_1 : Int) (begin_1 : Int) (open_2 : Int → Int) (tape_2 : Int → Int) (nameLength_2o1 : Int → Int) (name_2o1 : Int → Int) (tail_2o1 : Int → Int) (head_2o1 : Int → Int) (end_2 : Int) (depth_2 : Int) (nodes_2o1 : Int) (edges_2o1 : Int) (groups_2o1 : Int) (near_2o1 : Int → Int) (fault_2 : Int) (kind_2 : Int) (number_2 : Int) (next_2 : Int) (begin_2 : Int) (within_0o1 : Int → Int) (within_1o1 : Int → Int) (groupNameLength_1o1 : Int → Int) (groupNameLength_2o1 : Int → Int) (k3 : 0 ≤ x3 ∧ x3 ≤ 7) (k14 : 0 ≤ x14 ∧ x14 ≤ 2000) (k15 : 0 ≤ x15 ∧ x15 ≤ 2000) (k16 : 0 ≤ x16 ∧ x16 ≤ 8) (k20 : 0 ≤ x20 ∧ x20 ≤ 56) (k21 : (-2000) ≤ x21 ∧ x21 ≤ 2000) (g4 : x3 = groups_0o1) (f5 : x21 = x14 - x15) (g6 : x15 = begin_0) (g7 : x14 = next_0) (f8 : x20 = x3 * 8) (f24 : x16 = x14 - x15) (fe_0_2_1 : fault_0 = fault_1) (fe_0_5_1 : end_0 = end_1) (fe_0_6_1 : next_0 = next_1) (fe_0_7_1 : kind_0 = kind_1) (fe_0_8_1 : begin_0 = begin_1) (fe_0_9_1 : number_0 = number_1) (fe_0_11_1 : depth_0 = depth_1) (fe_1_0_1 : nodes_0o1 = nodes_1o1) (fe_1_1_1 : edges_0o1 = edges_1o1) (fe_1_2_1 : groups_0o1 = groups_1o1) (fe_0_2_2 : fault_1 = fault_2) (fe_0_5_2 : end_1 = end_2) (fe_0_6_2 : next_1 = next_2) (fe_0_7_2 : kind_1 = kind_2) (fe_0_8_2 : begin_1 = begin_2) (fe_0_9_2 : number_1 = number_2) (fe_0_11_2 : depth_1 = depth_2) (fe_1_0_2 : nodes_1o1 = nodes_2o1) (fe_1_1_2 : edges_1o1 = edges_2o1) (fe_1_2_2 : groups_1o1 = groups_2o1) (hE_0_0_1 : ∀ j : Int, tape_0 j = tape_1 j) (hE_0_0_2 : ∀ j : Int, tape_1 j = tape_2 j) (hE_0_10_1 : ∀ j : Int, open_0 j = open_1 j) (hE_0_10_2 : ∀ j : Int, open_1 j = open_2 j) (hE_1_3_1 : ∀ j : Int, name_0o1 j = name_1o1 j) (hE_1_3_2 : ∀ j : Int, name_1o1 j = name_2o1 j) (hE_1_4_1 : ∀ j : Int, nameLength_0o1 j = nameLength_1o1 j) (hE_1_4_2 : ∀ j : Int, nameLength_1o1 j = nameLength_2o1 j) (hE_1_7_1 : ∀ j : Int, tail_0o1 j = tail_1o1 j) (hE_1_7_2 : ∀ j : Int, tail_1o1 j = tail_2o1 j) (hE_1_8_1 : ∀ j : Int, head_0o1 j = head_1o1 j) (hE_1_8_2 : ∀ j : Int, head_1o1 j = head_2o1 j) (hE_1_11_1 : ∀ j : Int, within_0o1 j = within_1o1 j) (hE_1_13_2 : ∀ j : Int, groupNameLength_1o1 j = groupNameLength_2o1 j) (hE_1_14_1 : ∀ j : Int, near_0o1 j = near_1o1 j) (hE_1_14_2 : ∀ j : Int, near_1o1 j = near_2o1 j) (kz_0_2 : (-1) ≤ fault_0 ∧ fault_0 ≤ 5) (kz_0_5 : 0 ≤ end_0 ∧ end_0 ≤ 2000) (kz_0_6 : 0 ≤ next_0 ∧ next_0 ≤ 2000) (kz_0_7 : (-128) ≤ kind_0 ∧ kind_0 ≤ 127) (kz_0_8 : 0 ≤ begin_0 ∧ begin_0 ≤ 2000) (kz_0_9 : (-176) ≤ number_0 ∧ number_0 ≤ 1000000) (kz_0_11 : 0 ≤ depth_0 ∧ depth_0 ≤ 4) (kz_1_0 : 0 ≤ nodes_0o1 ∧ nodes_0o1 ≤ 24) (kz_1_1 : 0 ≤ edges_0o1 ∧ edges_0o1 ≤ 48) (kz_1_2 : 0 ≤ groups_0o1 ∧ groups_0o1 ≤ 8) : x20 + x21 ≤ 64 := by
  subst fe_0_2_1
  subst fe_0_5_1
  subst fe_0_6_1
  subst fe_0_7_1
  subst fe_0_8_1
  subst fe_0_9_1
  subst fe_0_11_1
  subst fe_1_0_1
  subst fe_1_1_1
  subst fe_1_2_1
  subst fe_0_2_2
  subst fe_0_5_2
  subst fe_0_6_2
  subst fe_0_7_2
  subst fe_0_8_2
  subst fe_0_9_2
  subst fe_0_11_2
  subst fe_1_0_2
  subst fe_1_1_2
  subst fe_1_2_2
  have e_hE_0_0_1 := funext hE_0_0_1; subst e_hE_0_0_1
  have e_hE_0_0_2 := funext hE_0_0_2; subst e_hE_0_0_2
  have e_hE_0_10_1 := funext hE_0_10_1; subst e_hE_0_10_1
  have e_hE_0_10_2 := funext hE_0_10_2; subst e_hE_0_10_2
  have e_hE_1_3_1 := funext hE_1_3_1; subst e_hE_1_3_1
  have e_hE_1_3_2 := funext hE_1_3_2; subst e_hE_1_3_2
  have e_hE_1_4_1 := funext hE_1_4_1; subst e_hE_1_4_1
  have e_hE_1_4_2 := funext hE_1_4_2; subst e_hE_1_4_2
  have e_hE_1_7_1 := funext hE_1_7_1; subst e_hE_1_7_1
  have e_hE_1_7_2 := funext hE_1_7_2; subst e_hE_1_7_2
  have e_hE_1_8_1 := funext hE_1_8_1; subst e_hE_1_8_1
  have e_hE_1_8_2 := funext hE_1_8_2; subst e_hE_1_8_2
  have e_hE_1_11_1 := funext hE_1_11_1; subst e_hE_1_11_1
  have e_hE_1_13_2 := funext hE_1_13_2; subst e_hE_1_13_2
  have e_hE_1_14_1 := funext hE_1_14_1; subst e_hE_1_14_1
  have e_hE_1_14_2 := funext hE_1_14_2; subst e_hE_1_14_2
  first
    | omega
  
def o_Re_readGroup_4 : or_T := (115, 22, [(0, (2, 0, 0, [8])), (1, (2, 0, 0, [164])), (2, (0, 0, 2000, [])), (3, (0, 0, 7, [])), (4, (0, 8, 8, [])), (5, (0, 0, 3, [])), (6, (0, 4, 4, [])), (7, (0, -2147483648, 1000000, [])), (8, (0, 0, 2000, [])), (9, (0, 1, 1, [])), (10, (2, 0, 0, [158])), (11, (2, 0, 0, [110])), (12, (0, 0, 7, [])), (13, (2, 0, 0, [160])), (14, (0, 0, 2000, [])), (15, (0, 0, 2000, [])), (16, (0, 0, 8, [])), (17, (2, 0, 0, [109])), (19, (0, 8, 8, [])), (20, (0, 0, 56, [])), (21, (0, -2000, 2000, []))], [(9, [13, 1], [13]), (9, [11, 0], [10]), (9, [10, 1], [11]), (9, [5, 0], [11]), (9, [3, 1], [2]), (2, [21, 14, 15], []), (9, [15, 0], [8]), (9, [14, 0], [6]), (3, [20, 3, 19], []), (9, [17, 0], [0]), (20, [0, 1, 8], [60, 5, 6, 1044, 5, 11, 1000, 1001, 1002, 0, 10, 1004, 1003, 1007, 1008]), (20, [2, 8], [30, 0, 1, 0, 0, -1, 0, 0]), (20, [1], [60, 2, 3, 670, 0, 1, 14, 7, 8]), (20, [1], [60, 2, 2, 596, 0, 1, 7, 8]), (20, [0], [50, 1, 0, 2, 1, 3, 2, 0, 2, 0, 0]), (20, [0, 0, 7], [31, 1, 3, 1, 1, 7, 0, 1, 1, 9, -1, 0, 0]), (20, [0, 0, 7], [31, 1, 3, 1, 1, 7, 0, -1, 1, 9, 1, 0, 0]), (20, [0, 0, 0, 0], [31, 1, -3, -1, 1, 7, 4008, 1, 1, 6, -1, 1, 8, 2000, 1, 7]), (20, [0, 0], [30, 0, 1, 1, 8, -1, 1, 6]), (20, [0, 8], [60, 5, 1, 1072, 5, 6, 7, 8, 9, 0]), (20, [8, 0], [30, 0, 1, 0, 0, -1, 1, 6]), (20, [0, 0, 9], [30, 2008, 1, 1, 6, -1, 1, 8, 2000, 0, 0]), (20, [0, 9], [60, 3, 1, 1079, 7, 6, 8, 0]), (100, [13, 3, 16], []), (2, [16, 14, 15], []), (20, [0, 1, 8], [60, 5, 6, 1044, 5, 11, 1000, 1001, 1002, 0, 10, 1004, 1003, 1007, 1008]), (20, [2, 8], [30, 0, 1, 0, 0, -1, 0, 0]), (20, [1], [60, 2, 3, 670, 0, 1, 14, 7, 8]), (20, [1], [60, 2, 2, 596, 0, 1, 7, 8]), (20, [0], [50, 1, 0, 2, 1, 3, 2, 0, 2, 0, 0]), (20, [0, 0, 7], [31, 1, 3, 1, 1, 7, 0, 1, 1, 9, -1, 0, 0]), (20, [0, 0, 7], [31, 1, 3, 1, 1, 7, 0, -1, 1, 9, 1, 0, 0]), (20, [0, 0, 0, 0], [31, 1, -3, -1, 1, 7, 4008, 1, 1, 6, -1, 1, 8, 2000, 1, 7]), (20, [0, 0], [30, 0, 1, 1, 8, -1, 1, 6]), (20, [0, 8], [60, 5, 1, 1072, 5, 6, 7, 8, 9, 0]), (20, [8, 0], [30, 0, 1, 0, 0, -1, 1, 6]), (20, [0, 0, 9], [30, 2008, 1, 1, 6, -1, 1, 8, 2000, 0, 0]), (20, [0, 9], [60, 3, 1, 1079, 7, 6, 8, 0]), (100, [10, 3, 12], []), (10, [12, 11, 5], []), (8, [9], [1]), (20, [0, 1, 8], [60, 5, 6, 1044, 5, 11, 1000, 1001, 1002, 0, 10, 1004, 1003, 1007, 1008]), (20, [2, 8], [30, 0, 1, 0, 0, -1, 0, 0]), (20, [1], [60, 2, 3, 670, 0, 1, 14, 7, 8]), (20, [1], [60, 2, 2, 596, 0, 1, 7, 8]), (20, [0], [50, 1, 0, 2, 1, 3, 2, 0, 2, 0, 0]), (20, [0, 0, 7], [31, 1, 3, 1, 1, 7, 0, 1, 1, 9, -1, 0, 0]), (20, [0, 0, 7], [31, 1, 3, 1, 1, 7, 0, -1, 1, 9, 1, 0, 0]), (20, [0, 0, 0, 0], [31, 1, -3, -1, 1, 7, 4008, 1, 1, 6, -1, 1, 8, 2000, 1, 7]), (20, [0, 0], [30, 0, 1, 1, 8, -1, 1, 6]), (20, [0, 8], [60, 5, 1, 1072, 5, 6, 7, 8, 9, 0]), (20, [8, 0], [30, 0, 1, 0, 0, -1, 1, 6]), (20, [0, 0, 9], [30, 2008, 1, 1, 6, -1, 1, 8, 2000, 0, 0]), (20, [0, 9], [60, 3, 1, 1079, 7, 6, 8, 0]), (102, [8], [0]), (102, [8], [0, 8006, 8007, 8008, 8009]), (7, [5, 6], [2]), (7, [3, 4], [2])], [(21, (0, 0, 64, []))], [], [(21, [15, 21], [2000]), (21, [20, 21], [64])], [], [(21, 14, -2000, 0), (16, 14, -2000, 0)])
theorem oo_Re_readGroup_4 {kA : Nat → ClassId} : or_ok PRD kA GG o_Re_readGroup_4 := by
  refine or_mk fun A ta ws vs hD hth hl => ?_
  intro t0 r0 t1 r1 t2 k2 t3 k3 t4 k4 t5 k5 t6 k6 t7 k7 t8 k8 t9 k9 t10 r10 t11 r11 t12 k12 t13 r13 t14 k14 t15 k15 t16 k16 t17 r17 t19 k19 t20 k20 t21 k21 d0 d1 f0 f1 f2 f3 f4 f5 f6 f7 f8 f9 f10 f11 f12 f13 f14 f15 f16 f17 f18 f19 f20 f21 f22 ta1 w1 le1 s1 f24 f25 f26 f27 f28 f29 f30 f31 f32 f33 f34 f35 f36 f37 ta2 w2 le2 s2 f39 f40 f41 f42 f43 f44 f45 f46 f47 f48 f49 f50 f51 f52 f53 ta3 w3 le3 s3 ta4 w4 le4 s4 f56 f57
  replace f4 := shm_120 f4
  replace f6 := shm_293 f6
  replace f7 := shm_111 f7
  replace f8 := shm_38 f8
  rw [show v_iv (n_v vs 19) = 8 from by omega] at f8
  have s1 : (∀ b j, w_el ws b j = if b = v_ad (n_v vs 13) ∧ j = (v_iv (n_v vs 3)).toNat then v_iv (n_v vs 16) else w_el w1 b j) ∧ ∀ b k, w_fd ws b k = w_fd w1 b k := s1.2
  have s2 : (∀ b j, w_el w1 b j = if b = v_ad (n_v vs 10) ∧ j = (v_iv (n_v vs 3)).toNat then v_iv (n_v vs 12) else w_el w2 b j) ∧ ∀ b k, w_fd w1 b k = w_fd w2 b k := s2.2
  have cr_0_0 := fdq_95 hD hth r0
  have cr_0_10 := fdq_319 hD hth r0
  have cr_1_3 := fdq_68 hD hth r1
  have cr_1_4 := fdq_67 hD hth r1
  have cr_1_7 := fdq_70 hD hth r1
  have cr_1_8 := fdq_71 hD hth r1
  have cr_1_11 := fdq_321 hD hth r1
  have cr_1_13 := fdq_322 hD hth r1
  have cr_1_14 := fdq_72 hD hth r1
  have g4 : v_iv (n_v vs 3) = w_fi ws (n_v vs 1) 2 := congrArg v_iv f4
  have g6 : v_iv (n_v vs 15) = w_fi ws (n_v vs 0) 8 := congrArg v_iv f6
  have g7 : v_iv (n_v vs 14) = w_fi ws (n_v vs 0) 6 := congrArg v_iv f7
  have fe_0_2_1 : w_fi ws (n_v vs 0) 2 = w_fi w1 (n_v vs 0) 2 := congrArg v_iv (s1.2 _ _)
  have fe_0_5_1 : w_fi ws (n_v vs 0) 5 = w_fi w1 (n_v vs 0) 5 := congrArg v_iv (s1.2 _ _)
  have fe_0_6_1 : w_fi ws (n_v vs 0) 6 = w_fi w1 (n_v vs 0) 6 := congrArg v_iv (s1.2 _ _)
  have fe_0_7_1 : w_fi ws (n_v vs 0) 7 = w_fi w1 (n_v vs 0) 7 := congrArg v_iv (s1.2 _ _)
  have fe_0_8_1 : w_fi ws (n_v vs 0) 8 = w_fi w1 (n_v vs 0) 8 := congrArg v_iv (s1.2 _ _)
  have fe_0_9_1 : w_fi ws (n_v vs 0) 9 = w_fi w1 (n_v vs 0) 9 := congrArg v_iv (s1.2 _ _)
  have fe_0_11_1 : w_fi ws (n_v vs 0) 11 = w_fi w1 (n_v vs 0) 11 := congrArg v_iv (s1.2 _ _)
  have fe_1_0_1 : w_fi ws (n_v vs 1) 0 = w_fi w1 (n_v vs 1) 0 := congrArg v_iv (s1.2 _ _)
  have fe_1_1_1 : w_fi ws (n_v vs 1) 1 = w_fi w1 (n_v vs 1) 1 := congrArg v_iv (s1.2 _ _)
  have fe_1_2_1 : w_fi ws (n_v vs 1) 2 = w_fi w1 (n_v vs 1) 2 := congrArg v_iv (s1.2 _ _)
  have fe_0_2_2 : w_fi w1 (n_v vs 0) 2 = w_fi w2 (n_v vs 0) 2 := congrArg v_iv (s2.2 _ _)
  have fe_0_5_2 : w_fi w1 (n_v vs 0) 5 = w_fi w2 (n_v vs 0) 5 := congrArg v_iv (s2.2 _ _)
  have fe_0_6_2 : w_fi w1 (n_v vs 0) 6 = w_fi w2 (n_v vs 0) 6 := congrArg v_iv (s2.2 _ _)
  have fe_0_7_2 : w_fi w1 (n_v vs 0) 7 = w_fi w2 (n_v vs 0) 7 := congrArg v_iv (s2.2 _ _)
  have fe_0_8_2 : w_fi w1 (n_v vs 0) 8 = w_fi w2 (n_v vs 0) 8 := congrArg v_iv (s2.2 _ _)
  have fe_0_9_2 : w_fi w1 (n_v vs 0) 9 = w_fi w2 (n_v vs 0) 9 := congrArg v_iv (s2.2 _ _)
  have fe_0_11_2 : w_fi w1 (n_v vs 0) 11 = w_fi w2 (n_v vs 0) 11 := congrArg v_iv (s2.2 _ _)
  have fe_1_0_2 : w_fi w1 (n_v vs 1) 0 = w_fi w2 (n_v vs 1) 0 := congrArg v_iv (s2.2 _ _)
  have fe_1_1_2 : w_fi w1 (n_v vs 1) 1 = w_fi w2 (n_v vs 1) 1 := congrArg v_iv (s2.2 _ _)
  have fe_1_2_2 : w_fi w1 (n_v vs 1) 2 = w_fi w2 (n_v vs 1) 2 := congrArg v_iv (s2.2 _ _)
  have hE_0_0_1 : ∀ j : Int, w_ei ws (w_ar ws (n_v vs 0) 0) j = w_ei w1 (w_ar ws (n_v vs 0) 0) j := el_kp s1.1 r13 cr_0_0 (by decide)
  have hE_0_0_2 : ∀ j : Int, w_ei w1 (w_ar ws (n_v vs 0) 0) j = w_ei w2 (w_ar ws (n_v vs 0) 0) j := el_kp s2.1 r10 cr_0_0 (by decide)
  have hE_0_10_1 : ∀ j : Int, w_ei ws (w_ar ws (n_v vs 0) 10) j = w_ei w1 (w_ar ws (n_v vs 0) 10) j := el_kp s1.1 r13 cr_0_10 (by decide)
  have hE_0_10_2 : ∀ j : Int, w_ei w1 (w_ar ws (n_v vs 0) 10) j = w_ei w2 (w_ar ws (n_v vs 0) 10) j := el_kp s2.1 r10 cr_0_10 (by decide)
  have hE_1_3_1 : ∀ j : Int, w_ei ws (w_ar ws (n_v vs 1) 3) j = w_ei w1 (w_ar ws (n_v vs 1) 3) j := el_kp s1.1 r13 cr_1_3 (by decide)
  have hE_1_3_2 : ∀ j : Int, w_ei w1 (w_ar ws (n_v vs 1) 3) j = w_ei w2 (w_ar ws (n_v vs 1) 3) j := el_kp s2.1 r10 cr_1_3 (by decide)
  have hE_1_4_1 : ∀ j : Int, w_ei ws (w_ar ws (n_v vs 1) 4) j = w_ei w1 (w_ar ws (n_v vs 1) 4) j := el_kp s1.1 r13 cr_1_4 (by decide)
  have hE_1_4_2 : ∀ j : Int, w_ei w1 (w_ar ws (n_v vs 1) 4) j = w_ei w2 (w_ar ws (n_v vs 1) 4) j := el_kp s2.1 r10 cr_1_4 (by decide)
  have hE_1_7_1 : ∀ j : Int, w_ei ws (w_ar ws (n_v vs 1) 7) j = w_ei w1 (w_ar ws (n_v vs 1) 7) j := el_kp s1.1 r13 cr_1_7 (by decide)
  have hE_1_7_2 : ∀ j : Int, w_ei w1 (w_ar ws (n_v vs 1) 7) j = w_ei w2 (w_ar ws (n_v vs 1) 7) j := el_kp s2.1 r10 cr_1_7 (by decide)
  have hE_1_8_1 : ∀ j : Int, w_ei ws (w_ar ws (n_v vs 1) 8) j = w_ei w1 (w_ar ws (n_v vs 1) 8) j := el_kp s1.1 r13 cr_1_8 (by decide)
  have hE_1_8_2 : ∀ j : Int, w_ei w1 (w_ar ws (n_v vs 1) 8) j = w_ei w2 (w_ar ws (n_v vs 1) 8) j := el_kp s2.1 r10 cr_1_8 (by decide)
  have hE_1_11_1 : ∀ j : Int, w_ei ws (w_ar ws (n_v vs 1) 11) j = w_ei w1 (w_ar ws (n_v vs 1) 11) j := el_kp s1.1 r13 cr_1_11 (by decide)
  have hE_1_13_2 : ∀ j : Int, w_ei w1 (w_ar ws (n_v vs 1) 13) j = w_ei w2 (w_ar ws (n_v vs 1) 13) j := el_kp s2.1 r10 cr_1_13 (by decide)
  have hE_1_14_1 : ∀ j : Int, w_ei ws (w_ar ws (n_v vs 1) 14) j = w_ei w1 (w_ar ws (n_v vs 1) 14) j := el_kp s1.1 r13 cr_1_14 (by decide)
  have hE_1_14_2 : ∀ j : Int, w_ei w1 (w_ar ws (n_v vs 1) 14) j = w_ei w2 (w_ar ws (n_v vs 1) 14) j := el_kp s2.1 r10 cr_1_14 (by decide)
  have kz_0_2 := fdq_97 hD hth r0
  have kz_0_5 := fdq_207 hD hth r0
  have kz_0_6 := fdq_208 hD hth r0
  have kz_0_7 := fdq_297 hD hth r0
  have kz_0_8 := fdq_99 hD hth r0
  have kz_0_9 := fdq_296 hD hth r0
  have kz_0_11 := fdq_320 hD hth r0
  have kz_1_0 := fdq_73 hD hth r1
  have kz_1_1 := fdq_74 hD hth r1
  have kz_1_2 := fdq_206 hD hth r1
  have hrf0 : 0 ≤ v_iv (n_v vs 21) ∧ v_iv (n_v vs 21) ≤ 64 := vc_Re_readGroup_4_r0 (v_iv (n_v vs 14)) (v_iv (n_v vs 15)) (v_iv (n_v vs 16)) (v_iv (n_v vs 21)) (w_fi ws (n_v vs 0) 11) (w_fi ws (n_v vs 1) 2) (w_fi ws (n_v vs 0) 8) (w_fi ws (n_v vs 0) 6) (w_ei ws (w_ar ws (n_v vs 0) 0)) (w_ei ws (w_ar ws (n_v vs 0) 10)) (w_ei ws (w_ar ws (n_v vs 1) 4)) (w_ei ws (w_ar ws (n_v vs 1) 3)) (w_ei ws (w_ar ws (n_v vs 1) 7)) (w_ei ws (w_ar ws (n_v vs 1) 8)) (w_fi ws (n_v vs 0) 5) (w_fi ws (n_v vs 1) 0) (w_fi ws (n_v vs 1) 1) (w_ei ws (w_ar ws (n_v vs 1) 14)) (w_fi ws (n_v vs 0) 2) (w_fi ws (n_v vs 0) 7) (w_fi ws (n_v vs 0) 9) (w_ei w1 (w_ar ws (n_v vs 0) 0)) (w_ei w1 (w_ar ws (n_v vs 0) 10)) (w_ei w1 (w_ar ws (n_v vs 1) 4)) (w_ei w1 (w_ar ws (n_v vs 1) 3)) (w_ei w1 (w_ar ws (n_v vs 1) 7)) (w_ei w1 (w_ar ws (n_v vs 1) 8)) (w_fi w1 (n_v vs 0) 5) (w_fi w1 (n_v vs 0) 11) (w_fi w1 (n_v vs 1) 0) (w_fi w1 (n_v vs 1) 1) (w_fi w1 (n_v vs 1) 2) (w_ei w1 (w_ar ws (n_v vs 1) 14)) (w_fi w1 (n_v vs 0) 2) (w_fi w1 (n_v vs 0) 7) (w_fi w1 (n_v vs 0) 9) (w_fi w1 (n_v vs 0) 6) (w_fi w1 (n_v vs 0) 8) (w_ei w2 (w_ar ws (n_v vs 0) 10)) (w_ei w2 (w_ar ws (n_v vs 0) 0)) (w_ei w2 (w_ar ws (n_v vs 1) 4)) (w_ei w2 (w_ar ws (n_v vs 1) 3)) (w_ei w2 (w_ar ws (n_v vs 1) 7)) (w_ei w2 (w_ar ws (n_v vs 1) 8)) (w_fi w2 (n_v vs 0) 5) (w_fi w2 (n_v vs 0) 11) (w_fi w2 (n_v vs 1) 0) (w_fi w2 (n_v vs 1) 1) (w_fi w2 (n_v vs 1) 2) (w_ei w2 (w_ar ws (n_v vs 1) 14)) (w_fi w2 (n_v vs 0) 2) (w_fi w2 (n_v vs 0) 7) (w_fi w2 (n_v vs 0) 9) (w_fi w2 (n_v vs 0) 6) (w_fi w2 (n_v vs 0) 8) (w_ei ws (w_ar ws (n_v vs 1) 11)) (w_ei w1 (w_ar ws (n_v vs 1) 11)) (w_ei w1 (w_ar ws (n_v vs 1) 13)) (w_ei w2 (w_ar ws (n_v vs 1) 13)) k14 k15 k16 k21 (shm_14 f5) g6 g7 (shm_14 f24) fe_0_2_1 fe_0_5_1 fe_0_6_1 fe_0_7_1 fe_0_8_1 fe_0_9_1 fe_0_11_1 fe_1_0_1 fe_1_1_1 fe_1_2_1 fe_0_2_2 fe_0_5_2 fe_0_6_2 fe_0_7_2 fe_0_8_2 fe_0_9_2 fe_0_11_2 fe_1_0_2 fe_1_1_2 fe_1_2_2 hE_0_0_1 hE_0_0_2 hE_0_10_1 hE_0_10_2 hE_1_3_1 hE_1_3_2 hE_1_4_1 hE_1_4_2 hE_1_7_1 hE_1_7_2 hE_1_8_1 hE_1_8_2 hE_1_11_1 hE_1_13_2 hE_1_14_1 hE_1_14_2 kz_0_2 kz_0_5 kz_0_6 kz_0_7 kz_0_8 kz_0_9 kz_0_11 kz_1_0 kz_1_1 kz_1_2
  have nf0 : fc_1 PRD (21, [15, 21], [2000]) ws (vs) := ⟨nf_in hl rfl, sgq_831 (vc_Re_readGroup_4_0 (v_iv (n_v vs 14)) (v_iv (n_v vs 15)) (v_iv (n_v vs 21)) (w_fi ws (n_v vs 0) 11) (w_fi ws (n_v vs 1) 2) (w_fi ws (n_v vs 0) 8) (w_fi ws (n_v vs 0) 6) (w_ei ws (w_ar ws (n_v vs 0) 0)) (w_ei ws (w_ar ws (n_v vs 0) 10)) (w_ei ws (w_ar ws (n_v vs 1) 4)) (w_ei ws (w_ar ws (n_v vs 1) 3)) (w_ei ws (w_ar ws (n_v vs 1) 7)) (w_ei ws (w_ar ws (n_v vs 1) 8)) (w_fi ws (n_v vs 0) 5) (w_fi ws (n_v vs 1) 0) (w_fi ws (n_v vs 1) 1) (w_ei ws (w_ar ws (n_v vs 1) 14)) (w_fi ws (n_v vs 0) 2) (w_fi ws (n_v vs 0) 7) (w_fi ws (n_v vs 0) 9) (w_ei w1 (w_ar ws (n_v vs 0) 0)) (w_ei w1 (w_ar ws (n_v vs 0) 10)) (w_ei w1 (w_ar ws (n_v vs 1) 4)) (w_ei w1 (w_ar ws (n_v vs 1) 3)) (w_ei w1 (w_ar ws (n_v vs 1) 7)) (w_ei w1 (w_ar ws (n_v vs 1) 8)) (w_fi w1 (n_v vs 0) 5) (w_fi w1 (n_v vs 0) 11) (w_fi w1 (n_v vs 1) 0) (w_fi w1 (n_v vs 1) 1) (w_fi w1 (n_v vs 1) 2) (w_ei w1 (w_ar ws (n_v vs 1) 14)) (w_fi w1 (n_v vs 0) 2) (w_fi w1 (n_v vs 0) 7) (w_fi w1 (n_v vs 0) 9) (w_fi w1 (n_v vs 0) 6) (w_fi w1 (n_v vs 0) 8) (w_ei w2 (w_ar ws (n_v vs 0) 10)) (w_ei w2 (w_ar ws (n_v vs 0) 0)) (w_ei w2 (w_ar ws (n_v vs 1) 4)) (w_ei w2 (w_ar ws (n_v vs 1) 3)) (w_ei w2 (w_ar ws (n_v vs 1) 7)) (w_ei w2 (w_ar ws (n_v vs 1) 8)) (w_fi w2 (n_v vs 0) 5) (w_fi w2 (n_v vs 0) 11) (w_fi w2 (n_v vs 1) 0) (w_fi w2 (n_v vs 1) 1) (w_fi w2 (n_v vs 1) 2) (w_ei w2 (w_ar ws (n_v vs 1) 14)) (w_fi w2 (n_v vs 0) 2) (w_fi w2 (n_v vs 0) 7) (w_fi w2 (n_v vs 0) 9) (w_fi w2 (n_v vs 0) 6) (w_fi w2 (n_v vs 0) 8) (w_ei ws (w_ar ws (n_v vs 1) 11)) (w_ei w1 (w_ar ws (n_v vs 1) 11)) (w_ei w1 (w_ar ws (n_v vs 1) 13)) (w_ei w2 (w_ar ws (n_v vs 1) 13)) k14 k15 k21 (shm_14 f5) g6 g7 fe_0_2_1 fe_0_5_1 fe_0_6_1 fe_0_7_1 fe_0_8_1 fe_0_9_1 fe_0_11_1 fe_1_0_1 fe_1_1_1 fe_1_2_1 fe_0_2_2 fe_0_5_2 fe_0_6_2 fe_0_7_2 fe_0_8_2 fe_0_9_2 fe_0_11_2 fe_1_0_2 fe_1_1_2 fe_1_2_2 hE_0_0_1 hE_0_0_2 hE_0_10_1 hE_0_10_2 hE_1_3_1 hE_1_3_2 hE_1_4_1 hE_1_4_2 hE_1_7_1 hE_1_7_2 hE_1_8_1 hE_1_8_2 hE_1_11_1 hE_1_13_2 hE_1_14_1 hE_1_14_2 kz_0_2 kz_0_5 kz_0_6 kz_0_7 kz_0_8 kz_0_9 kz_0_11 kz_1_0 kz_1_1 kz_1_2)⟩
  have nf1 : fc_1 PRD (21, [20, 21], [64]) ws (vs) := ⟨nf_in hl rfl, sgq_1360 (vc_Re_readGroup_4_1 (v_iv (n_v vs 3)) (v_iv (n_v vs 14)) (v_iv (n_v vs 15)) (v_iv (n_v vs 16)) (v_iv (n_v vs 20)) (v_iv (n_v vs 21)) (w_fi ws (n_v vs 0) 11) (w_fi ws (n_v vs 1) 2) (w_fi ws (n_v vs 0) 8) (w_fi ws (n_v vs 0) 6) (w_ei ws (w_ar ws (n_v vs 0) 0)) (w_ei ws (w_ar ws (n_v vs 0) 10)) (w_ei ws (w_ar ws (n_v vs 1) 4)) (w_ei ws (w_ar ws (n_v vs 1) 3)) (w_ei ws (w_ar ws (n_v vs 1) 7)) (w_ei ws (w_ar ws (n_v vs 1) 8)) (w_fi ws (n_v vs 0) 5) (w_fi ws (n_v vs 1) 0) (w_fi ws (n_v vs 1) 1) (w_ei ws (w_ar ws (n_v vs 1) 14)) (w_fi ws (n_v vs 0) 2) (w_fi ws (n_v vs 0) 7) (w_fi ws (n_v vs 0) 9) (w_ei w1 (w_ar ws (n_v vs 0) 0)) (w_ei w1 (w_ar ws (n_v vs 0) 10)) (w_ei w1 (w_ar ws (n_v vs 1) 4)) (w_ei w1 (w_ar ws (n_v vs 1) 3)) (w_ei w1 (w_ar ws (n_v vs 1) 7)) (w_ei w1 (w_ar ws (n_v vs 1) 8)) (w_fi w1 (n_v vs 0) 5) (w_fi w1 (n_v vs 0) 11) (w_fi w1 (n_v vs 1) 0) (w_fi w1 (n_v vs 1) 1) (w_fi w1 (n_v vs 1) 2) (w_ei w1 (w_ar ws (n_v vs 1) 14)) (w_fi w1 (n_v vs 0) 2) (w_fi w1 (n_v vs 0) 7) (w_fi w1 (n_v vs 0) 9) (w_fi w1 (n_v vs 0) 6) (w_fi w1 (n_v vs 0) 8) (w_ei w2 (w_ar ws (n_v vs 0) 10)) (w_ei w2 (w_ar ws (n_v vs 0) 0)) (w_ei w2 (w_ar ws (n_v vs 1) 4)) (w_ei w2 (w_ar ws (n_v vs 1) 3)) (w_ei w2 (w_ar ws (n_v vs 1) 7)) (w_ei w2 (w_ar ws (n_v vs 1) 8)) (w_fi w2 (n_v vs 0) 5) (w_fi w2 (n_v vs 0) 11) (w_fi w2 (n_v vs 1) 0) (w_fi w2 (n_v vs 1) 1) (w_fi w2 (n_v vs 1) 2) (w_ei w2 (w_ar ws (n_v vs 1) 14)) (w_fi w2 (n_v vs 0) 2) (w_fi w2 (n_v vs 0) 7) (w_fi w2 (n_v vs 0) 9) (w_fi w2 (n_v vs 0) 6) (w_fi w2 (n_v vs 0) 8) (w_ei ws (w_ar ws (n_v vs 1) 11)) (w_ei w1 (w_ar ws (n_v vs 1) 11)) (w_ei w1 (w_ar ws (n_v vs 1) 13)) (w_ei w2 (w_ar ws (n_v vs 1) 13)) k3 k14 k15 k16 k20 k21 g4 (shm_14 f5) g6 g7 f8 (shm_14 f24) fe_0_2_1 fe_0_5_1 fe_0_6_1 fe_0_7_1 fe_0_8_1 fe_0_9_1 fe_0_11_1 fe_1_0_1 fe_1_1_1 fe_1_2_1 fe_0_2_2 fe_0_5_2 fe_0_6_2 fe_0_7_2 fe_0_8_2 fe_0_9_2 fe_0_11_2 fe_1_0_2 fe_1_1_2 fe_1_2_2 hE_0_0_1 hE_0_0_2 hE_0_10_1 hE_0_10_2 hE_1_3_1 hE_1_3_2 hE_1_4_1 hE_1_4_2 hE_1_7_1 hE_1_7_2 hE_1_8_1 hE_1_8_2 hE_1_11_1 hE_1_13_2 hE_1_14_1 hE_1_14_2 kz_0_2 kz_0_5 kz_0_6 kz_0_7 kz_0_8 kz_0_9 kz_0_11 kz_1_0 kz_1_1 kz_1_2)⟩
  have rf21 : tv_ok ta (0, 0, 64, []) (n_v vs 21) := tv_in t21 (by first | omega | grind) (by first | omega | grind)
  refine ⟨List.forall_mem_cons.mpr ⟨rf21, (fun _ h => (by cases h))⟩, [], trivial, ?_, (fun _ h => (by cases h))⟩
  rw [List.append_nil]
  exact List.forall_mem_cons.mpr ⟨⟨show (21 : Nat) < 100 from by decide, nf0⟩, List.forall_mem_cons.mpr ⟨⟨show (21 : Nat) < 100 from by decide, nf1⟩, (fun _ h => (by cases h))⟩⟩
set_option maxHeartbeats 4000000 in
theorem vc_Re_readGroup_5_0 (depth_0 : Int) (groups_0o1 : Int) (begin_0 : Int) (next_0 : Int) (near_0o1 : Int → Int) (tail_0o1 : Int → Int) (head_0o1 : Int → Int) (nodes_0o1 : Int) (edges_0o1 : Int) (fault_0 : Int) (kind_0 : Int) (number_0 : Int) (tape_0 : Int → Int) (end_0 : Int) (near_1o1 : Int → Int) (tail_1o1 : Int → Int) (head_1o1 : Int → Int) (nodes_1o1 : Int) (edges_1o1 : Int) (fault_1 : Int) (kind_1 : Int) (number_1 : Int) (next_1 : Int) (begin_1 : Int) (tape_1 : Int → Int) (end_1 : Int) (depth_2 : Int) (near_2o1 : Int → Int) (tail_2o1 : Int → Int) (head_2o1 : Int → Int) (nodes_2o1 : Int) (edges_2o1 : Int) (fault_2 : Int) (kind_2 : Int) (number_2 : Int) (next_2 : Int) (begin_2 : Int) (tape_2 : Int → Int) (end_2 : Int) (tape_3 : Int → Int) (open_3 : Int → Int) (nameLength_3o1 : Int → Int) (name_3o1 : Int → Int) (tail_3o1 : Int → Int) (head_3o1 : Int → Int) (end_3 : Int) (depth_3 : Int) (nodes_3o1 : Int) (edges_3o1 : Int) (near_3o1 : Int → Int) (fault_3 : Int) (kind_3 : Int) (number_3 : Int) (next_3 : Int) (begin_3 : Int) (depth_1 : Int) (groups_1o1 : Int) (groups_2o1 : Int) (open_1 : Int → Int) (open_2 : Int → Int) (name_0o1 : Int → Int) (name_1o1 : Int → Int) (name_2o1 : Int → Int) (nameLength_0o1 : Int → Int) (nameLength_1o1 : Int → Int) (nameLength_2o1 : Int → Int) (groupNameLength_0o1 : Int → Int) (groupNameLength_1o1 : Int → Int) (groupNameLength_2o1 : Int → Int) (groupNameLength_3o1 : Int → Int) (gx : Int) (fe_0_2_1 : fault_0 = fault_1) (fe_0_5_1 : end_0 = end_1) (fe_0_6_1 : next_0 = next_1) (fe_0_7_1 : kind_0 = kind_1) (fe_0_8_1 : begin_0 = begin_1) (fe_0_9_1 : number_0 = number_1) (fe_0_11_1 : depth_0 = depth_1) (fe_1_0_1 : nodes_0o1 = nodes_1o1) (fe_1_1_1 : edges_0o1 = edges_1o1) (fe_1_2_1 : groups_0o1 = groups_1o1) (fe_0_2_2 : fault_1 = fault_2) (fe_0_5_2 : end_1 = end_2) (fe_0_6_2 : next_1 = next_2) (fe_0_7_2 : kind_1 = kind_2) (fe_0_8_2 : begin_1 = begin_2) (fe_0_9_2 : number_1 = number_2) (fe_1_0_2 : nodes_1o1 = nodes_2o1) (fe_1_1_2 : edges_1o1 = edges_2o1) (fe_1_2_2 : groups_1o1 = groups_2o1) (fe_0_2_3 : fault_2 = fault_3) (fe_0_5_3 : end_2 = end_3) (fe_0_6_3 : next_2 = next_3) (fe_0_7_3 : kind_2 = kind_3) (fe_0_8_3 : begin_2 = begin_3) (fe_0_9_3 : number_2 = number_3) (fe_0_11_3 : depth_2 = depth_3) (fe_1_0_3 : nodes_2o1 = nodes_3o1) (fe_1_1_3 : edges_2o1 = edges_3o1) (hE_0_0_1 : ∀ j : Int, tape_0 j = tape_1 j) (hE_0_0_2 : ∀ j : Int, tape_1 j = tape_2 j) (hE_0_0_3 : ∀ j : Int, tape_2 j = tape_3 j) (hE_0_10_2 : ∀ j : Int, open_1 j = open_2 j) (hE_0_10_3 : ∀ j : Int, open_2 j = open_3 j) (hE_1_3_1 : ∀ j : Int, name_0o1 j = name_1o1 j) (hE_1_3_2 : ∀ j : Int, name_1o1 j = name_2o1 j) (hE_1_3_3 : ∀ j : Int, name_2o1 j = name_3o1 j) (hE_1_4_1 : ∀ j : Int, nameLength_0o1 j = nameLength_1o1 j) (hE_1_4_2 : ∀ j : Int, nameLength_1o1 j = nameLength_2o1 j) (hE_1_4_3 : ∀ j : Int, nameLength_2o1 j = nameLength_3o1 j) (hE_1_7_1 : ∀ j : Int, tail_0o1 j = tail_1o1 j) (hE_1_7_2 : ∀ j : Int, tail_1o1 j = tail_2o1 j) (hE_1_7_3 : ∀ j : Int, tail_2o1 j = tail_3o1 j) (hE_1_8_1 : ∀ j : Int, head_0o1 j = head_1o1 j) (hE_1_8_2 : ∀ j : Int, head_1o1 j = head_2o1 j) (hE_1_8_3 : ∀ j : Int, head_2o1 j = head_3o1 j) (hE_1_13_1 : ∀ j : Int, groupNameLength_0o1 j = groupNameLength_1o1 j) (hE_1_13_2 : ∀ j : Int, groupNameLength_1o1 j = groupNameLength_2o1 j) (hE_1_13_3 : ∀ j : Int, groupNameLength_2o1 j = groupNameLength_3o1 j) (hE_1_14_1 : ∀ j : Int, near_0o1 j = near_1o1 j) (hE_1_14_2 : ∀ j : Int, near_1o1 j = near_2o1 j) (hE_1_14_3 : ∀ j : Int, near_2o1 j = near_3o1 j) (kz_0_2 : (-1) ≤ fault_0 ∧ fault_0 ≤ 5) (kz_0_5 : 0 ≤ end_0 ∧ end_0 ≤ 2000) (kz_0_6 : 0 ≤ next_0 ∧ next_0 ≤ 2000) (kz_0_7 : (-128) ≤ kind_0 ∧ kind_0 ≤ 127) (kz_0_8 : 0 ≤ begin_0 ∧ begin_0 ≤ 2000) (kz_0_9 : (-176) ≤ number_0 ∧ number_0 ≤ 1000000) (kz_0_11 : 0 ≤ depth_0 ∧ depth_0 ≤ 4) (kz_1_0 : 0 ≤ nodes_0o1 ∧ nodes_0o1 ≤ 24) (kz_1_1 : 0 ≤ edges_0o1 ∧ edges_0o1 ≤ 48) (kz_1_2 : 0 ≤ groups_0o1 ∧ groups_0o1 ≤ 8) (ex2 : gx = number_0) : 1 * number_0 + ((-1) * gx + 0) ≤ 0 := by
  subst fe_0_2_1
  subst fe_0_5_1
  subst fe_0_6_1
  subst fe_0_7_1
  subst fe_0_8_1
  subst fe_0_9_1
  subst fe_0_11_1
  subst fe_1_0_1
  subst fe_1_1_1
  subst fe_1_2_1
  subst fe_0_2_2
  subst fe_0_5_2
  subst fe_0_6_2
  subst fe_0_7_2
  subst fe_0_8_2
  subst fe_0_9_2
  subst fe_1_0_2
  subst fe_1_1_2
  subst fe_1_2_2
  subst fe_0_2_3
  subst fe_0_5_3
  subst fe_0_6_3
  subst fe_0_7_3
  subst fe_0_8_3
  subst fe_0_9_3
  subst fe_0_11_3
  subst fe_1_0_3
  subst fe_1_1_3
  have e_hE_0_0_1 := funext hE_0_0_1; subst e_hE_0_0_1
  have e_hE_0_0_2 := funext hE_0_0_2; subst e_hE_0_0_2
  have e_hE_0_0_3 := funext hE_0_0_3; subst e_hE_0_0_3
  have e_hE_0_10_2 := funext hE_0_10_2; subst e_hE_0_10_2
  have e_hE_0_10_3 := funext hE_0_10_3; subst e_hE_0_10_3
  have e_hE_1_3_1 := funext hE_1_3_1; subst e_hE_1_3_1
  have e_hE_1_3_2 := funext hE_1_3_2; subst e_hE_1_3_2
  have e_hE_1_3_3 := funext hE_1_3_3; subst e_hE_1_3_3
  have e_hE_1_4_1 := funext hE_1_4_1; subst e_hE_1_4_1
  have e_hE_1_4_2 := funext hE_1_4_2; subst e_hE_1_4_2
  have e_hE_1_4_3 := funext hE_1_4_3; subst e_hE_1_4_3
  have e_hE_1_7_1 := funext hE_1_7_1; subst e_hE_1_7_1
  have e_hE_1_7_2 := funext hE_1_7_2; subst e_hE_1_7_2
  have e_hE_1_7_3 := funext hE_1_7_3; subst e_hE_1_7_3
  have e_hE_1_8_1 := funext hE_1_8_1; subst e_hE_1_8_1
  have e_hE_1_8_2 := funext hE_1_8_2; subst e_hE_1_8_2
  have e_hE_1_8_3 := funext hE_1_8_3; subst e_hE_1_8_3
  have e_hE_1_13_1 := funext hE_1_13_1; subst e_hE_1_13_1
  have e_hE_1_13_2 := funext hE_1_13_2; subst e_hE_1_13_2
  have e_hE_1_13_3 := funext hE_1_13_3; subst e_hE_1_13_3
  have e_hE_1_14_1 := funext hE_1_14_1; subst e_hE_1_14_1
  have e_hE_1_14_2 := funext hE_1_14_2; subst e_hE_1_14_2
  have e_hE_1_14_3 := funext hE_1_14_3; subst e_hE_1_14_3
  first
    | omega
  
set_option maxHeartbeats 4000000 in
theorem vc_Re_readGroup_5_1 (depth_0 : Int) (groups_0o1 : Int) (begin_0 : Int) (next_0 : Int) (near_0o1 : Int → Int) (tail_0o1 : Int → Int) (head_0o1 : Int → Int) (nodes_0o1 : Int) (edges_0o1 : Int) (fault_0 : Int) (kind_0 : Int) (number_0 : Int) (tape_0 : Int → Int) (end_0 : Int) (near_1o1 : Int → Int) (tail_1o1 : Int → Int) (head_1o1 : Int → Int) (nodes_1o1 : Int) (edges_1o1 : Int) (fault_1 : Int) (kind_1 : Int) (number_1 : Int) (next_1 : Int) (begin_1 : Int) (tape_1 : Int → Int) (end_1 : Int) (depth_2 : Int) (near_2o1 : Int → Int) (tail_2o1 : Int → Int) (head_2o1 : Int → Int) (nodes_2o1 : Int) (edges_2o1 : Int) (fault_2 : Int) (kind_2 : Int) (number_2 : Int) (next_2 : Int) (begin_2 : Int) (tape_2 : Int → Int) (end_2 : Int) (tape_3 : Int → Int) (open_3 : Int → Int) (nameLength_3o1 : Int → Int) (name_3o1 : Int → Int) (tail_3o1 : Int → Int) (head_3o1 : Int → Int) (end_3 : Int) (depth_3 : Int) (nodes_3o1 : Int) (edges_3o1 : Int) (near_3o1 : Int → Int) (fault_3 : Int) (kind_3 : Int) (number_3 : Int) (next_3 : Int) (begin_3 : Int) (depth_1 : Int) (groups_1o1 : Int) (groups_2o1 : Int) (open_1 : Int → Int) (open_2 : Int → Int) (name_0o1 : Int → Int) (name_1o1 : Int → Int) (name_2o1 : Int → Int) (nameLength_0o1 : Int → Int) (nameLength_1o1 : Int → Int) (nameLength_2o1 : Int → Int) (groupNameLength_0o1 : Int → Int) (groupNameLength_1o1 : Int → Int) (groupNameLength_2o1 : Int → Int) (groupNameLength_3o1 : Int → Int) (gx : Int) (fe_0_2_1 : fault_0 = fault_1) (fe_0_5_1 : end_0 = end_1) (fe_0_6_1 : next_0 = next_1) (fe_0_7_1 : kind_0 = kind_1) (fe_0_8_1 : begin_0 = begin_1) (fe_0_9_1 : number_0 = number_1) (fe_0_11_1 : depth_0 = depth_1) (fe_1_0_1 : nodes_0o1 = nodes_1o1) (fe_1_1_1 : edges_0o1 = edges_1o1) (fe_1_2_1 : groups_0o1 = groups_1o1) (fe_0_2_2 : fault_1 = fault_2) (fe_0_5_2 : end_1 = end_2) (fe_0_6_2 : next_1 = next_2) (fe_0_7_2 : kind_1 = kind_2) (fe_0_8_2 : begin_1 = begin_2) (fe_0_9_2 : number_1 = number_2) (fe_1_0_2 : nodes_1o1 = nodes_2o1) (fe_1_1_2 : edges_1o1 = edges_2o1) (fe_1_2_2 : groups_1o1 = groups_2o1) (fe_0_2_3 : fault_2 = fault_3) (fe_0_5_3 : end_2 = end_3) (fe_0_6_3 : next_2 = next_3) (fe_0_7_3 : kind_2 = kind_3) (fe_0_8_3 : begin_2 = begin_3) (fe_0_9_3 : number_2 = number_3) (fe_0_11_3 : depth_2 = depth_3) (fe_1_0_3 : nodes_2o1 = nodes_3o1) (fe_1_1_3 : edges_2o1 = edges_3o1) (hE_0_0_1 : ∀ j : Int, tape_0 j = tape_1 j) (hE_0_0_2 : ∀ j : Int, tape_1 j = tape_2 j) (hE_0_0_3 : ∀ j : Int, tape_2 j = tape_3 j) (hE_0_10_2 : ∀ j : Int, open_1 j = open_2 j) (hE_0_10_3 : ∀ j : Int, open_2 j = open_3 j) (hE_1_3_1 : ∀ j : Int, name_0o1 j = name_1o1 j) (hE_1_3_2 : ∀ j : Int, name_1o1 j = name_2o1 j) (hE_1_3_3 : ∀ j : Int, name_2o1 j = name_3o1 j) (hE_1_4_1 : ∀ j : Int, nameLength_0o1 j = nameLength_1o1 j) (hE_1_4_2 : ∀ j : Int, nameLength_1o1 j = nameLength_2o1 j) (hE_1_4_3 : ∀ j : Int, nameLength_2o1 j = nameLength_3o1 j) (hE_1_7_1 : ∀ j : Int, tail_0o1 j = tail_1o1 j) (hE_1_7_2 : ∀ j : Int, tail_1o1 j = tail_2o1 j) (hE_1_7_3 : ∀ j : Int, tail_2o1 j = tail_3o1 j) (hE_1_8_1 : ∀ j : Int, head_0o1 j = head_1o1 j) (hE_1_8_2 : ∀ j : Int, head_1o1 j = head_2o1 j) (hE_1_8_3 : ∀ j : Int, head_2o1 j = head_3o1 j) (hE_1_13_1 : ∀ j : Int, groupNameLength_0o1 j = groupNameLength_1o1 j) (hE_1_13_2 : ∀ j : Int, groupNameLength_1o1 j = groupNameLength_2o1 j) (hE_1_13_3 : ∀ j : Int, groupNameLength_2o1 j = groupNameLength_3o1 j) (hE_1_14_1 : ∀ j : Int, near_0o1 j = near_1o1 j) (hE_1_14_2 : ∀ j : Int, near_1o1 j = near_2o1 j) (hE_1_14_3 : ∀ j : Int, near_2o1 j = near_3o1 j) (kz_0_2 : (-1) ≤ fault_0 ∧ fault_0 ≤ 5) (kz_0_5 : 0 ≤ end_0 ∧ end_0 ≤ 2000) (kz_0_6 : 0 ≤ next_0 ∧ next_0 ≤ 2000) (kz_0_7 : (-128) ≤ kind_0 ∧ kind_0 ≤ 127) (kz_0_8 : 0 ≤ begin_0 ∧ begin_0 ≤ 2000) (kz_0_9 : (-176) ≤ number_0 ∧ number_0 ≤ 1000000) (kz_0_11 : 0 ≤ depth_0 ∧ depth_0 ≤ 4) (kz_1_0 : 0 ≤ nodes_0o1 ∧ nodes_0o1 ≤ 24) (kz_1_1 : 0 ≤ edges_0o1 ∧ edges_0o1 ≤ 48) (kz_1_2 : 0 ≤ groups_0o1 ∧ groups_0o1 ≤ 8) (ex2 : gx = number_0) : (-1) * number_0 + (1 * gx + 0) ≤ 0 := by
  subst fe_0_2_1
  subst fe_0_5_1
  subst fe_0_6_1
  subst fe_0_7_1
  subst fe_0_8_1
  subst fe_0_9_1
  subst fe_0_11_1
  subst fe_1_0_1
  subst fe_1_1_1
  subst fe_1_2_1
  subst fe_0_2_2
  subst fe_0_5_2
  subst fe_0_6_2
  subst fe_0_7_2
  subst fe_0_8_2
  subst fe_0_9_2
  subst fe_1_0_2
  subst fe_1_1_2
  subst fe_1_2_2
  subst fe_0_2_3
  subst fe_0_5_3
  subst fe_0_6_3
  subst fe_0_7_3
  subst fe_0_8_3
  subst fe_0_9_3
  subst fe_0_11_3
  subst fe_1_0_3
  subst fe_1_1_3
  have e_hE_0_0_1 := funext hE_0_0_1; subst e_hE_0_0_1
  have e_hE_0_0_2 := funext hE_0_0_2; subst e_hE_0_0_2
  have e_hE_0_0_3 := funext hE_0_0_3; subst e_hE_0_0_3
  have e_hE_0_10_2 := funext hE_0_10_2; subst e_hE_0_10_2
  have e_hE_0_10_3 := funext hE_0_10_3; subst e_hE_0_10_3
  have e_hE_1_3_1 := funext hE_1_3_1; subst e_hE_1_3_1
  have e_hE_1_3_2 := funext hE_1_3_2; subst e_hE_1_3_2
  have e_hE_1_3_3 := funext hE_1_3_3; subst e_hE_1_3_3
  have e_hE_1_4_1 := funext hE_1_4_1; subst e_hE_1_4_1
  have e_hE_1_4_2 := funext hE_1_4_2; subst e_hE_1_4_2
  have e_hE_1_4_3 := funext hE_1_4_3; subst e_hE_1_4_3
  have e_hE_1_7_1 := funext hE_1_7_1; subst e_hE_1_7_1
  have e_hE_1_7_2 := funext hE_1_7_2; subst e_hE_1_7_2
  have e_hE_1_7_3 := funext hE_1_7_3; subst e_hE_1_7_3
  have e_hE_1_8_1 := funext hE_1_8_1; subst e_hE_1_8_1
  have e_hE_1_8_2 := funext hE_1_8_2; subst e_hE_1_8_2
  have e_hE_1_8_3 := funext hE_1_8_3; subst e_hE_1_8_3
  have e_hE_1_13_1 := funext hE_1_13_1; subst e_hE_1_13_1
  have e_hE_1_13_2 := funext hE_1_13_2; subst e_hE_1_13_2
  have e_hE_1_13_3 := funext hE_1_13_3; subst e_hE_1_13_3
  have e_hE_1_14_1 := funext hE_1_14_1; subst e_hE_1_14_1
  have e_hE_1_14_2 := funext hE_1_14_2; subst e_hE_1_14_2
  have e_hE_1_14_3 := funext hE_1_14_3; subst e_hE_1_14_3
  first
    | omega
  
set_option maxHeartbeats 4000000 in
theorem vc_Re_readGroup_5_2 (depth_0 : Int) (groups_0o1 : Int) (begin_0 : Int) (next_0 : Int) (near_0o1 : Int → Int) (tail_0o1 : Int → Int) (head_0o1 : Int → Int) (nodes_0o1 : Int) (edges_0o1 : Int) (fault_0 : Int) (kind_0 : Int) (number_0 : Int) (tape_0 : Int → Int) (end_0 : Int) (near_1o1 : Int → Int) (tail_1o1 : Int → Int) (head_1o1 : Int → Int) (nodes_1o1 : Int) (edges_1o1 : Int) (fault_1 : Int) (kind_1 : Int) (number_1 : Int) (next_1 : Int) (begin_1 : Int) (tape_1 : Int → Int) (end_1 : Int) (depth_2 : Int) (near_2o1 : Int → Int) (tail_2o1 : Int → Int) (head_2o1 : Int → Int) (nodes_2o1 : Int) (edges_2o1 : Int) (fault_2 : Int) (kind_2 : Int) (number_2 : Int) (next_2 : Int) (begin_2 : Int) (tape_2 : Int → Int) (end_2 : Int) (tape_3 : Int → Int) (open_3 : Int → Int) (nameLength_3o1 : Int → Int) (name_3o1 : Int → Int) (tail_3o1 : Int → Int) (head_3o1 : Int → Int) (end_3 : Int) (depth_3 : Int) (nodes_3o1 : Int) (edges_3o1 : Int) (near_3o1 : Int → Int) (fault_3 : Int) (kind_3 : Int) (number_3 : Int) (next_3 : Int) (begin_3 : Int) (depth_1 : Int) (groups_1o1 : Int) (groups_2o1 : Int) (open_1 : Int → Int) (open_2 : Int → Int) (name_0o1 : Int → Int) (name_1o1 : Int → Int) (name_2o1 : Int → Int) (nameLength_0o1 : Int → Int) (nameLength_1o1 : Int → Int) (nameLength_2o1 : Int → Int) (groupNameLength_0o1 : Int → Int) (groupNameLength_1o1 : Int → Int) (groupNameLength_2o1 : Int → Int) (groupNameLength_3o1 : Int → Int) (gy : Int) (fe_0_2_1 : fault_0 = fault_1) (fe_0_5_1 : end_0 = end_1) (fe_0_6_1 : next_0 = next_1) (fe_0_7_1 : kind_0 = kind_1) (fe_0_8_1 : begin_0 = begin_1) (fe_0_9_1 : number_0 = number_1) (fe_0_11_1 : depth_0 = depth_1) (fe_1_0_1 : nodes_0o1 = nodes_1o1) (fe_1_1_1 : edges_0o1 = edges_1o1) (fe_1_2_1 : groups_0o1 = groups_1o1) (fe_0_2_2 : fault_1 = fault_2) (fe_0_5_2 : end_1 = end_2) (fe_0_6_2 : next_1 = next_2) (fe_0_7_2 : kind_1 = kind_2) (fe_0_8_2 : begin_1 = begin_2) (fe_0_9_2 : number_1 = number_2) (fe_1_0_2 : nodes_1o1 = nodes_2o1) (fe_1_1_2 : edges_1o1 = edges_2o1) (fe_1_2_2 : groups_1o1 = groups_2o1) (fe_0_2_3 : fault_2 = fault_3) (fe_0_5_3 : end_2 = end_3) (fe_0_6_3 : next_2 = next_3) (fe_0_7_3 : kind_2 = kind_3) (fe_0_8_3 : begin_2 = begin_3) (fe_0_9_3 : number_2 = number_3) (fe_0_11_3 : depth_2 = depth_3) (fe_1_0_3 : nodes_2o1 = nodes_3o1) (fe_1_1_3 : edges_2o1 = edges_3o1) (hE_0_0_1 : ∀ j : Int, tape_0 j = tape_1 j) (hE_0_0_2 : ∀ j : Int, tape_1 j = tape_2 j) (hE_0_0_3 : ∀ j : Int, tape_2 j = tape_3 j) (hE_0_10_2 : ∀ j : Int, open_1 j = open_2 j) (hE_0_10_3 : ∀ j : Int, open_2 j = open_3 j) (hE_1_3_1 : ∀ j : Int, name_0o1 j = name_1o1 j) (hE_1_3_2 : ∀ j : Int, name_1o1 j = name_2o1 j) (hE_1_3_3 : ∀ j : Int, name_2o1 j = name_3o1 j) (hE_1_4_1 : ∀ j : Int, nameLength_0o1 j = nameLength_1o1 j) (hE_1_4_2 : ∀ j : Int, nameLength_1o1 j = nameLength_2o1 j) (hE_1_4_3 : ∀ j : Int, nameLength_2o1 j = nameLength_3o1 j) (hE_1_7_1 : ∀ j : Int, tail_0o1 j = tail_1o1 j) (hE_1_7_2 : ∀ j : Int, tail_1o1 j = tail_2o1 j) (hE_1_7_3 : ∀ j : Int, tail_2o1 j = tail_3o1 j) (hE_1_8_1 : ∀ j : Int, head_0o1 j = head_1o1 j) (hE_1_8_2 : ∀ j : Int, head_1o1 j = head_2o1 j) (hE_1_8_3 : ∀ j : Int, head_2o1 j = head_3o1 j) (hE_1_13_1 : ∀ j : Int, groupNameLength_0o1 j = groupNameLength_1o1 j) (hE_1_13_2 : ∀ j : Int, groupNameLength_1o1 j = groupNameLength_2o1 j) (hE_1_13_3 : ∀ j : Int, groupNameLength_2o1 j = groupNameLength_3o1 j) (hE_1_14_1 : ∀ j : Int, near_0o1 j = near_1o1 j) (hE_1_14_2 : ∀ j : Int, near_1o1 j = near_2o1 j) (hE_1_14_3 : ∀ j : Int, near_2o1 j = near_3o1 j) (kz_0_2 : (-1) ≤ fault_0 ∧ fault_0 ≤ 5) (kz_0_5 : 0 ≤ end_0 ∧ end_0 ≤ 2000) (kz_0_6 : 0 ≤ next_0 ∧ next_0 ≤ 2000) (kz_0_7 : (-128) ≤ kind_0 ∧ kind_0 ≤ 127) (kz_0_8 : 0 ≤ begin_0 ∧ begin_0 ≤ 2000) (kz_0_9 : (-176) ≤ number_0 ∧ number_0 ≤ 1000000) (kz_0_11 : 0 ≤ depth_0 ∧ depth_0 ≤ 4) (kz_1_0 : 0 ≤ nodes_0o1 ∧ nodes_0o1 ≤ 24) (kz_1_1 : 0 ≤ edges_0o1 ∧ edges_0o1 ≤ 48) (kz_1_2 : 0 ≤ groups_0o1 ∧ groups_0o1 ≤ 8) (ey2 : gy = next_0) : 1 * next_0 + ((-1) * gy + 0) ≤ 0 := by
  subst fe_0_2_1
  subst fe_0_5_1
  subst fe_0_6_1
  subst fe_0_7_1
  subst fe_0_8_1
  subst fe_0_9_1
  subst fe_0_11_1
  subst fe_1_0_1
  subst fe_1_1_1
  subst fe_1_2_1
  subst fe_0_2_2
  subst fe_0_5_2
  subst fe_0_6_2
  subst fe_0_7_2
  subst fe_0_8_2
  subst fe_0_9_2
  subst fe_1_0_2
  subst fe_1_1_2
  subst fe_1_2_2
  subst fe_0_2_3
  subst fe_0_5_3
  subst fe_0_6_3
  subst fe_0_7_3
  subst fe_0_8_3
  subst fe_0_9_3
  subst fe_0_11_3
  subst fe_1_0_3
  subst fe_1_1_3
  have e_hE_0_0_1 := funext hE_0_0_1; subst e_hE_0_0_1
  have e_hE_0_0_2 := funext hE_0_0_2; subst e_hE_0_0_2
  have e_hE_0_0_3 := funext hE_0_0_3; subst e_hE_0_0_3
  have e_hE_0_10_2 := funext hE_0_10_2; subst e_hE_0_10_2
  have e_hE_0_10_3 := funext hE_0_10_3; subst e_hE_0_10_3
  have e_hE_1_3_1 := funext hE_1_3_1; subst e_hE_1_3_1
  have e_hE_1_3_2 := funext hE_1_3_2; subst e_hE_1_3_2
  have e_hE_1_3_3 := funext hE_1_3_3; subst e_hE_1_3_3
  have e_hE_1_4_1 := funext hE_1_4_1; subst e_hE_1_4_1
  have e_hE_1_4_2 := funext hE_1_4_2; subst e_hE_1_4_2
  have e_hE_1_4_3 := funext hE_1_4_3; subst e_hE_1_4_3
  have e_hE_1_7_1 := funext hE_1_7_1; subst e_hE_1_7_1
  have e_hE_1_7_2 := funext hE_1_7_2; subst e_hE_1_7_2
  have e_hE_1_7_3 := funext hE_1_7_3; subst e_hE_1_7_3
  have e_hE_1_8_1 := funext hE_1_8_1; subst e_hE_1_8_1
  have e_hE_1_8_2 := funext hE_1_8_2; subst e_hE_1_8_2
  have e_hE_1_8_3 := funext hE_1_8_3; subst e_hE_1_8_3
  have e_hE_1_13_1 := funext hE_1_13_1; subst e_hE_1_13_1
  have e_hE_1_13_2 := funext hE_1_13_2; subst e_hE_1_13_2
  have e_hE_1_13_3 := funext hE_1_13_3; subst e_hE_1_13_3
  have e_hE_1_14_1 := funext hE_1_14_1; subst e_hE_1_14_1
  have e_hE_1_14_2 := funext hE_1_14_2; subst e_hE_1_14_2
  have e_hE_1_14_3 := funext hE_1_14_3; subst e_hE_1_14_3
  first
    | omega
  
set_option maxHeartbeats 4000000 in
theorem vc_Re_readGroup_5_3 (depth_0 : Int) (groups_0o1 : Int) (begin_0 : Int) (next_0 : Int) (near_0o1 : Int → Int) (tail_0o1 : Int → Int) (head_0o1 : Int → Int) (nodes_0o1 : Int) (edges_0o1 : Int) (fault_0 : Int) (kind_0 : Int) (number_0 : Int) (tape_0 : Int → Int) (end_0 : Int) (near_1o1 : Int → Int) (tail_1o1 : Int → Int) (head_1o1 : Int → Int) (nodes_1o1 : Int) (edges_1o1 : Int) (fault_1 : Int) (kind_1 : Int) (number_1 : Int) (next_1 : Int) (begin_1 : Int) (tape_1 : Int → Int) (end_1 : Int) (depth_2 : Int) (near_2o1 : Int → Int) (tail_2o1 : Int → Int) (head_2o1 : Int → Int) (nodes_2o1 : Int) (edges_2o1 : Int) (fault_2 : Int) (kind_2 : Int) (number_2 : Int) (next_2 : Int) (begin_2 : Int) (tape_2 : Int → Int) (end_2 : Int) (tape_3 : Int → Int) (open_3 : Int → Int) (nameLength_3o1 : Int → Int) (name_3o1 : Int → Int) (tail_3o1 : Int → Int) (head_3o1 : Int → Int) (end_3 : Int) (depth_3 : Int) (nodes_3o1 : Int) (edges_3o1 : Int) (near_3o1 : Int → Int) (fault_3 : Int) (kind_3 : Int) (number_3 : Int) (next_3 : Int) (begin_3 : Int) (depth_1 : Int) (groups_1o1 : Int) (groups_2o1 : Int) (open_1 : Int → Int) (open_2 : Int → Int) (name_0o1 : Int → Int) (name_1o1 : Int → Int) (name_2o1 : Int → Int) (nameLength_0o1 : Int → Int) (nameLength_1o1 : Int → Int) (nameLength_2o1 : Int → Int) (groupNameLength_0o1 : Int → Int) (groupNameLength_1o1 : Int → Int) (groupNameLength_2o1 : Int → Int) (groupNameLength_3o1 : Int → Int) (gy : Int) (fe_0_2_1 : fault_0 = fault_1) (fe_0_5_1 : end_0 = end_1) (fe_0_6_1 : next_0 = next_1) (fe_0_7_1 : kind_0 = kind_1) (fe_0_8_1 : begin_0 = begin_1) (fe_0_9_1 : number_0 = number_1) (fe_0_11_1 : depth_0 = depth_1) (fe_1_0_1 : nodes_0o1 = nodes_1o1) (fe_1_1_1 : edges_0o1 = edges_1o1) (fe_1_2_1 : groups_0o1 = groups_1o1) (fe_0_2_2 : fault_1 = fault_2) (fe_0_5_2 : end_1 = end_2) (fe_0_6_2 : next_1 = next_2) (fe_0_7_2 : kind_1 = kind_2) (fe_0_8_2 : begin_1 = begin_2) (fe_0_9_2 : number_1 = number_2) (fe_1_0_2 : nodes_1o1 = nodes_2o1) (fe_1_1_2 : edges_1o1 = edges_2o1) (fe_1_2_2 : groups_1o1 = groups_2o1) (fe_0_2_3 : fault_2 = fault_3) (fe_0_5_3 : end_2 = end_3) (fe_0_6_3 : next_2 = next_3) (fe_0_7_3 : kind_2 = kind_3) (fe_0_8_3 : begin_2 = begin_3) (fe_0_9_3 : number_2 = number_3) (fe_0_11_3 : depth_2 = depth_3) (fe_1_0_3 : nodes_2o1 = nodes_3o1) (fe_1_1_3 : edges_2o1 = edges_3o1) (hE_0_0_1 : ∀ j : Int, tape_0 j = tape_1 j) (hE_0_0_2 : ∀ j : Int, tape_1 j = tape_2 j) (hE_0_0_3 : ∀ j : Int, tape_2 j = tape_3 j) (hE_0_10_2 : ∀ j : Int, open_1 j = open_2 j) (hE_0_10_3 : ∀ j : Int, open_2 j = open_3 j) (hE_1_3_1 : ∀ j : Int, name_0o1 j = name_1o1 j) (hE_1_3_2 : ∀ j : Int, name_1o1 j = name_2o1 j) (hE_1_3_3 : ∀ j : Int, name_2o1 j = name_3o1 j) (hE_1_4_1 : ∀ j : Int, nameLength_0o1 j = nameLength_1o1 j) (hE_1_4_2 : ∀ j : Int, nameLength_1o1 j = nameLength_2o1 j) (hE_1_4_3 : ∀ j : Int, nameLength_2o1 j = nameLength_3o1 j) (hE_1_7_1 : ∀ j : Int, tail_0o1 j = tail_1o1 j) (hE_1_7_2 : ∀ j : Int, tail_1o1 j = tail_2o1 j) (hE_1_7_3 : ∀ j : Int, tail_2o1 j = tail_3o1 j) (hE_1_8_1 : ∀ j : Int, head_0o1 j = head_1o1 j) (hE_1_8_2 : ∀ j : Int, head_1o1 j = head_2o1 j) (hE_1_8_3 : ∀ j : Int, head_2o1 j = head_3o1 j) (hE_1_13_1 : ∀ j : Int, groupNameLength_0o1 j = groupNameLength_1o1 j) (hE_1_13_2 : ∀ j : Int, groupNameLength_1o1 j = groupNameLength_2o1 j) (hE_1_13_3 : ∀ j : Int, groupNameLength_2o1 j = groupNameLength_3o1 j) (hE_1_14_1 : ∀ j : Int, near_0o1 j = near_1o1 j) (hE_1_14_2 : ∀ j : Int, near_1o1 j = near_2o1 j) (hE_1_14_3 : ∀ j : Int, near_2o1 j = near_3o1 j) (kz_0_2 : (-1) ≤ fault_0 ∧ fault_0 ≤ 5) (kz_0_5 : 0 ≤ end_0 ∧ end_0 ≤ 2000) (kz_0_6 : 0 ≤ next_0 ∧ next_0 ≤ 2000) (kz_0_7 : (-128) ≤ kind_0 ∧ kind_0 ≤ 127) (kz_0_8 : 0 ≤ begin_0 ∧ begin_0 ≤ 2000) (kz_0_9 : (-176) ≤ number_0 ∧ number_0 ≤ 1000000) (kz_0_11 : 0 ≤ depth_0 ∧ depth_0 ≤ 4) (kz_1_0 : 0 ≤ nodes_0o1 ∧ nodes_0o1 ≤ 24) (kz_1_1 : 0 ≤ edges_0o1 ∧ edges_0o1 ≤ 48) (kz_1_2 : 0 ≤ groups_0o1 ∧ groups_0o1 ≤ 8) (ey2 : gy = next_0) : (-1) * next_0 + (1 * gy + 0) ≤ 0 := by
  subst fe_0_2_1
  subst fe_0_5_1
  subst fe_0_6_1
  subst fe_0_7_1
  subst fe_0_8_1
  subst fe_0_9_1
  subst fe_0_11_1
  subst fe_1_0_1
  subst fe_1_1_1
  subst fe_1_2_1
  subst fe_0_2_2
  subst fe_0_5_2
  subst fe_0_6_2
  subst fe_0_7_2
  subst fe_0_8_2
  subst fe_0_9_2
  subst fe_1_0_2
  subst fe_1_1_2
  subst fe_1_2_2
  subst fe_0_2_3
  subst fe_0_5_3
  subst fe_0_6_3
  subst fe_0_7_3
  subst fe_0_8_3
  subst fe_0_9_3
  subst fe_0_11_3
  subst fe_1_0_3
  subst fe_1_1_3
  have e_hE_0_0_1 := funext hE_0_0_1; subst e_hE_0_0_1
  have e_hE_0_0_2 := funext hE_0_0_2; subst e_hE_0_0_2
  have e_hE_0_0_3 := funext hE_0_0_3; subst e_hE_0_0_3
  have e_hE_0_10_2 := funext hE_0_10_2; subst e_hE_0_10_2
  have e_hE_0_10_3 := funext hE_0_10_3; subst e_hE_0_10_3
  have e_hE_1_3_1 := funext hE_1_3_1; subst e_hE_1_3_1
  have e_hE_1_3_2 := funext hE_1_3_2; subst e_hE_1_3_2
  have e_hE_1_3_3 := funext hE_1_3_3; subst e_hE_1_3_3
  have e_hE_1_4_1 := funext hE_1_4_1; subst e_hE_1_4_1
  have e_hE_1_4_2 := funext hE_1_4_2; subst e_hE_1_4_2
  have e_hE_1_4_3 := funext hE_1_4_3; subst e_hE_1_4_3
  have e_hE_1_7_1 := funext hE_1_7_1; subst e_hE_1_7_1
  have e_hE_1_7_2 := funext hE_1_7_2; subst e_hE_1_7_2
  have e_hE_1_7_3 := funext hE_1_7_3; subst e_hE_1_7_3
  have e_hE_1_8_1 := funext hE_1_8_1; subst e_hE_1_8_1
  have e_hE_1_8_2 := funext hE_1_8_2; subst e_hE_1_8_2
  have e_hE_1_8_3 := funext hE_1_8_3; subst e_hE_1_8_3
  have e_hE_1_13_1 := funext hE_1_13_1; subst e_hE_1_13_1
  have e_hE_1_13_2 := funext hE_1_13_2; subst e_hE_1_13_2
  have e_hE_1_13_3 := funext hE_1_13_3; subst e_hE_1_13_3
  have e_hE_1_14_1 := funext hE_1_14_1; subst e_hE_1_14_1
  have e_hE_1_14_2 := funext hE_1_14_2; subst e_hE_1_14_2
  have e_hE_1_14_3 := funext hE_1_14_3; subst e_hE_1_14_3
  first
    | omega
  
set_option maxHeartbeats 4000000 in
theorem vc_Re_readGroup_5_4 (x3 : Int) (x5 : Int) (x8 : Int) (x14 : Int) (x15 : Int) (x23 : Int) (x25 : Int) (depth_0 : Int) (groups_0o1 : Int) (begin_0 : Int) (next_0 : Int) (near_0o1 : Int → Int) (tail_0o1 : Int → Int) (head_0o1 : Int → Int) (nodes_0o1 : Int) (edges_0o1 : Int) (fault_0 : Int) (kind_0 : Int) (number_0 : Int) (tape_0 : Int → Int) (end_0 : Int) (near_1o1 : Int → Int) (tail_1o1 : Int → Int) (head_1o1 : Int → Int) (nodes_1o1 : Int) (edges_1o1 : Int) (fault_1 : Int) (kind_1 : Int) (number_1 : Int) (next_1 : Int) (begin_1 : Int) (tape_1 : Int → Int) (end_1 : Int) (depth_2 : Int) (near_2o1 : Int → Int) (tail_2o1 : Int → Int) (head_2o1 : Int → Int) (nodes_2o1 : Int) (edges_2o1 : Int) (fault_2 : Int) (kind_2 : Int) (number_2 : Int) (next_2 : Int) (begin_2 : Int) (tape_2 : Int → Int) (end_2 : Int) (groups_3o1 : Int) (tape_3 : Int → Int) (open_3 : Int → Int) (nameLength_3o1 : Int → Int) (name_3o1 : Int → Int) (tail_3o1 : Int → Int) (head_3o1 : Int → Int) (end_3 : Int) (depth_3 : Int) (nodes_3o1 : Int) (edges_3o1 : Int) (near_3o1 : Int → Int) (fault_3 : Int) (kind_3 : Int) (number_3 : Int) (next_3 : Int) (begin_3 : Int) (depth_1 : Int) (groups_1o1 : Int) (groups_2o1 : Int) (open_1 : Int → Int) (open_2 : Int → Int) (name_0o1 : Int → Int) (name_1o1 : Int → Int) (name_2o1 : Int → Int) (nameLength_0o1 : Int → Int) (nameLength_1o1 : Int → Int) (nameLength_2o1 : Int → Int) (groupNameLength_0o1 : Int → Int) (groupNameLength_1o1 : Int → Int) (groupNameLength_2o1 : Int → Int) (groupNameLength_3o1 : Int → Int) (gx : Int) (gy : Int) (k3 : 0 ≤ x3 ∧ x3 ≤ 7) (k5 : 0 ≤ x5 ∧ x5 ≤ 3) (k8 : 0 ≤ x8 ∧ x8 ≤ 2000) (k14 : 0 ≤ x14 ∧ x14 ≤ 2000) (k15 : 0 ≤ x15 ∧ x15 ≤ 2000) (k23 : 1 ≤ x23 ∧ x23 ≤ 8) (k25 : 1 ≤ x25 ∧ x25 ≤ 4) (g0 : x25 = depth_0) (g1 : x23 = groups_0o1) (g3 : x15 = begin_0) (g4 : x14 = next_0) (g38 : x5 = depth_2) (g55 : x3 = groups_3o1) (f67 : TKC (end_3) (next_3) (kind_3) (begin_3) (number_3) (tape_3) (x8)) (fe_0_2_1 : fault_0 = fault_1) (fe_0_5_1 : end_0 = end_1) (fe_0_6_1 : next_0 = next_1) (fe_0_7_1 : kind_0 = kind_1) (fe_0_8_1 : begin_0 = begin_1) (fe_0_9_1 : number_0 = number_1) (fe_0_11_1 : depth_0 = depth_1) (fe_1_0_1 : nodes_0o1 = nodes_1o1) (fe_1_1_1 : edges_0o1 = edges_1o1) (fe_1_2_1 : groups_0o1 = groups_1o1) (fe_0_2_2 : fault_1 = fault_2) (fe_0_5_2 : end_1 = end_2) (fe_0_6_2 : next_1 = next_2) (fe_0_7_2 : kind_1 = kind_2) (fe_0_8_2 : begin_1 = begin_2) (fe_0_9_2 : number_1 = number_2) (fe_1_0_2 : nodes_1o1 = nodes_2o1) (fe_1_1_2 : edges_1o1 = edges_2o1) (fe_1_2_2 : groups_1o1 = groups_2o1) (fe_0_2_3 : fault_2 = fault_3) (fe_0_5_3 : end_2 = end_3) (fe_0_6_3 : next_2 = next_3) (fe_0_7_3 : kind_2 = kind_3) (fe_0_8_3 : begin_2 = begin_3) (fe_0_9_3 : number_2 = number_3) (fe_0_11_3 : depth_2 = depth_3) (fe_1_0_3 : nodes_2o1 = nodes_3o1) (fe_1_1_3 : edges_2o1 = edges_3o1) (hE_0_0_1 : ∀ j : Int, tape_0 j = tape_1 j) (hE_0_0_2 : ∀ j : Int, tape_1 j = tape_2 j) (hE_0_0_3 : ∀ j : Int, tape_2 j = tape_3 j) (hE_0_10_2 : ∀ j : Int, open_1 j = open_2 j) (hE_0_10_3 : ∀ j : Int, open_2 j = open_3 j) (hE_1_3_1 : ∀ j : Int, name_0o1 j = name_1o1 j) (hE_1_3_2 : ∀ j : Int, name_1o1 j = name_2o1 j) (hE_1_3_3 : ∀ j : Int, name_2o1 j = name_3o1 j) (hE_1_4_1 : ∀ j : Int, nameLength_0o1 j = nameLength_1o1 j) (hE_1_4_2 : ∀ j : Int, nameLength_1o1 j = nameLength_2o1 j) (hE_1_4_3 : ∀ j : Int, nameLength_2o1 j = nameLength_3o1 j) (hE_1_7_1 : ∀ j : Int, tail_0o1 j = tail_1o1 j) (hE_1_7_2 : ∀ j : Int, tail_1o1 j = tail_2o1 j) (hE_1_7_3 : ∀ j : Int, tail_2o1 j = tail_3o1 j) (hE_1_8_1 : ∀ j : Int, head_0o1 j = head_1o1 j) (hE_1_8_2 : ∀ j : Int, head_1o1 j = head_2o1 j) (hE_1_8_3 : ∀ j : Int, head_2o1 j = head_3o1 j) (hE_1_13_1 : ∀ j : Int, groupNameLength_0o1 j = groupNameLength_1o1 j) (hE_1_13_2 : ∀ j : Int, groupNameLength_1o1 j = groupNameLength_2o1 j) (hE_1_13_3 : ∀ j : Int, groupNameLength_2o1 j = groupNameLength_3o1 j) (hE_1_14_1 : ∀ j : Int, near_0o1 j = near_1o1 j) (hE_1_14_2 : ∀ j : Int, near_1o1 j = near_2o1 j) (hE_1_14_3 : ∀ j : Int, near_2o1 j = near_3o1 j) (kz_0_2 : (-1) ≤ fault_0 ∧ fault_0 ≤ 5) (kz_0_5 : 0 ≤ end_0 ∧ end_0 ≤ 2000) (kz_0_6 : 0 ≤ next_0 ∧ next_0 ≤ 2000) (kz_0_7 : (-128) ≤ kind_0 ∧ kind_0 ≤ 127) (kz_0_8 : 0 ≤ begin_0 ∧ begin_0 ≤ 2000) (kz_0_9 : (-176) ≤ number_0 ∧ number_0 ≤ 1000000) (kz_0_11 : 0 ≤ depth_0 ∧ depth_0 ≤ 4) (kz_1_0 : 0 ≤ nodes_0o1 ∧ nodes_0o1 ≤ 24) (kz_1_1 : 0 ≤ edges_0o1 ∧ edges_0o1 ≤ 48) (kz_1_2 : 0 ≤ groups_0o1 ∧ groups_0o1 ≤ 8) (ex2 : gx = number_0) (ey2 : gy = next_0) (ey3 : 0 ≤ gy ∧ gy ≤ 2000) : CLM (end_0) (next_0) := by
  subst fe_0_2_1
  subst fe_0_5_1
  subst fe_0_6_1
  subst fe_0_7_1
  subst fe_0_8_1
  subst fe_0_9_1
  subst fe_0_11_1
  subst fe_1_0_1
  subst fe_1_1_1
  subst fe_1_2_1
  subst fe_0_2_2
  subst fe_0_5_2
  subst fe_0_6_2
  subst fe_0_7_2
  subst fe_0_8_2
  subst fe_0_9_2
  subst fe_1_0_2
  subst fe_1_1_2
  subst fe_1_2_2
  subst fe_0_2_3
  subst fe_0_5_3
  subst fe_0_6_3
  subst fe_0_7_3
  subst fe_0_8_3
  subst fe_0_9_3
  subst fe_0_11_3
  subst fe_1_0_3
  subst fe_1_1_3
  have e_hE_0_0_1 := funext hE_0_0_1; subst e_hE_0_0_1
  have e_hE_0_0_2 := funext hE_0_0_2; subst e_hE_0_0_2
  have e_hE_0_0_3 := funext hE_0_0_3; subst e_hE_0_0_3
  have e_hE_0_10_2 := funext hE_0_10_2; subst e_hE_0_10_2
  have e_hE_0_10_3 := funext hE_0_10_3; subst e_hE_0_10_3
  have e_hE_1_3_1 := funext hE_1_3_1; subst e_hE_1_3_1
  have e_hE_1_3_2 := funext hE_1_3_2; subst e_hE_1_3_2
  have e_hE_1_3_3 := funext hE_1_3_3; subst e_hE_1_3_3
  have e_hE_1_4_1 := funext hE_1_4_1; subst e_hE_1_4_1
  have e_hE_1_4_2 := funext hE_1_4_2; subst e_hE_1_4_2
  have e_hE_1_4_3 := funext hE_1_4_3; subst e_hE_1_4_3
  have e_hE_1_7_1 := funext hE_1_7_1; subst e_hE_1_7_1
  have e_hE_1_7_2 := funext hE_1_7_2; subst e_hE_1_7_2
  have e_hE_1_7_3 := funext hE_1_7_3; subst e_hE_1_7_3
  have e_hE_1_8_1 := funext hE_1_8_1; subst e_hE_1_8_1
  have e_hE_1_8_2 := funext hE_1_8_2; subst e_hE_1_8_2
  have e_hE_1_8_3 := funext hE_1_8_3; subst e_hE_1_8_3
  have e_hE_1_13_1 := funext hE_1_13_1; subst e_hE_1_13_1
  have e_hE_1_13_2 := funext hE_1_13_2; subst e_hE_1_13_2
  have e_hE_1_13_3 := funext hE_1_13_3; subst e_hE_1_13_3
  have e_hE_1_14_1 := funext hE_1_14_1; subst e_hE_1_14_1
  have e_hE_1_14_2 := funext hE_1_14_2; subst e_hE_1_14_2
  have e_hE_1_14_3 := funext hE_1_14_3; subst e_hE_1_14_3
  first | subst g0 | skip
  first | subst g1 | skip
  first | subst g3 | skip
  first | subst g4 | skip
  first | subst g38 | skip
  first | subst g55 | skip
  first | subst ex2 | skip
  first | subst ey2 | skip
  exact clm_t ‹TKC _ _ _ _ _ _ _› (by omega)
set_option maxHeartbeats 4000000 in
theorem vc_Re_readGroup_5_5 (x3 : Int) (x5 : Int) (x8 : Int) (x9 : Int) (x14 : Int) (x15 : Int) (x23 : Int) (x25 : Int) (depth_0 : Int) (groups_0o1 : Int) (begin_0 : Int) (next_0 : Int) (near_0o1 : Int → Int) (tail_0o1 : Int → Int) (head_0o1 : Int → Int) (nodes_0o1 : Int) (edges_0o1 : Int) (fault_0 : Int) (kind_0 : Int) (number_0 : Int) (tape_0 : Int → Int) (end_0 : Int) (near_1o1 : Int → Int) (tail_1o1 : Int → Int) (head_1o1 : Int → Int) (nodes_1o1 : Int) (edges_1o1 : Int) (fault_1 : Int) (kind_1 : Int) (number_1 : Int) (next_1 : Int) (begin_1 : Int) (tape_1 : Int → Int) (end_1 : Int) (depth_2 : Int) (near_2o1 : Int → Int) (tail_2o1 : Int → Int) (head_2o1 : Int → Int) (nodes_2o1 : Int) (edges_2o1 : Int) (fault_2 : Int) (kind_2 : Int) (number_2 : Int) (next_2 : Int) (begin_2 : Int) (tape_2 : Int → Int) (end_2 : Int) (groups_3o1 : Int) (tape_3 : Int → Int) (open_3 : Int → Int) (nameLength_3o1 : Int → Int) (name_3o1 : Int → Int) (tail_3o1 : Int → Int) (head_3o1 : Int → Int) (end_3 : Int) (depth_3 : Int) (nodes_3o1 : Int) (edges_3o1 : Int) (near_3o1 : Int → Int) (fault_3 : Int) (kind_3 : Int) (number_3 : Int) (next_3 : Int) (begin_3 : Int) (depth_1 : Int) (groups_1o1 : Int) (groups_2o1 : Int) (open_0 : Int → Int) (open_1 : Int → Int) (open_2 : Int → Int) (name_0o1 : Int → Int) (name_1o1 : Int → Int) (name_2o1 : Int → Int) (nameLength_0o1 : Int → Int) (nameLength_1o1 : Int → Int) (nameLength_2o1 : Int → Int) (groupNameLength_0o1 : Int → Int) (groupNameLength_1o1 : Int → Int) (groupNameLength_2o1 : Int → Int) (groupNameLength_3o1 : Int → Int) (gx : Int) (gy : Int) (k3 : 0 ≤ x3 ∧ x3 ≤ 7) (k5 : 0 ≤ x5 ∧ x5 ≤ 3) (k8 : 0 ≤ x8 ∧ x8 ≤ 2000) (k9 : 1 ≤ x9 ∧ x9 ≤ 1) (k14 : 0 ≤ x14 ∧ x14 ≤ 2000) (k15 : 0 ≤ x15 ∧ x15 ≤ 2000) (k23 : 1 ≤ x23 ∧ x23 ≤ 8) (k25 : 1 ≤ x25 ∧ x25 ≤ 4) (d0 : x5 + 1 ≤ x25 ∧ x25 ≤ x5 + 1) (d1 : x3 + 1 ≤ x23 ∧ x23 ≤ x3 + 1) (g0 : x25 = depth_0) (g1 : x23 = groups_0o1) (g3 : x15 = begin_0) (g4 : x14 = next_0) (g38 : x5 = depth_2) (g55 : x3 = groups_3o1) (f58 : cG5 (end_3) (depth_3) (nodes_3o1) (edges_3o1) (groups_3o1) (tape_3) (open_3) (nameLength_3o1) (name_3o1) (tail_3o1) (head_3o1) (x8)) (f67 : TKC (end_3) (next_3) (kind_3) (begin_3) (number_3) (tape_3) (x8)) (f70 : CNM (kind_3) (next_3) (begin_3) (tape_3) (x9)) (f79 : x9 ≠ 0) (fe_0_2_1 : fault_0 = fault_1) (fe_0_5_1 : end_0 = end_1) (fe_0_6_1 : next_0 = next_1) (fe_0_7_1 : kind_0 = kind_1) (fe_0_8_1 : begin_0 = begin_1) (fe_0_9_1 : number_0 = number_1) (fe_0_11_1 : depth_0 = depth_1) (fe_1_0_1 : nodes_0o1 = nodes_1o1) (fe_1_1_1 : edges_0o1 = edges_1o1) (fe_1_2_1 : groups_0o1 = groups_1o1) (fe_0_2_2 : fault_1 = fault_2) (fe_0_5_2 : end_1 = end_2) (fe_0_6_2 : next_1 = next_2) (fe_0_7_2 : kind_1 = kind_2) (fe_0_8_2 : begin_1 = begin_2) (fe_0_9_2 : number_1 = number_2) (fe_0_11_2 : depth_1 = x25) (fe_1_0_2 : nodes_1o1 = nodes_2o1) (fe_1_1_2 : edges_1o1 = edges_2o1) (fe_1_2_2 : groups_1o1 = groups_2o1) (fe_0_2_3 : fault_2 = fault_3) (fe_0_5_3 : end_2 = end_3) (fe_0_6_3 : next_2 = next_3) (fe_0_7_3 : kind_2 = kind_3) (fe_0_8_3 : begin_2 = begin_3) (fe_0_9_3 : number_2 = number_3) (fe_0_11_3 : depth_2 = depth_3) (fe_1_0_3 : nodes_2o1 = nodes_3o1) (fe_1_1_3 : edges_2o1 = edges_3o1) (hE_0_0_1 : ∀ j : Int, tape_0 j = tape_1 j) (hE_0_0_2 : ∀ j : Int, tape_1 j = tape_2 j) (hE_0_0_3 : ∀ j : Int, tape_2 j = tape_3 j) (hE_0_10_1 : ∀ j : Int, 0 ≤ j → (j = x25 → open_0 j = x3) ∧ (j ≠ x25 → open_0 j = open_1 j)) (hE_0_10_2 : ∀ j : Int, open_1 j = open_2 j) (hE_0_10_3 : ∀ j : Int, open_2 j = open_3 j) (hE_1_3_1 : ∀ j : Int, name_0o1 j = name_1o1 j) (hE_1_3_2 : ∀ j : Int, name_1o1 j = name_2o1 j) (hE_1_3_3 : ∀ j : Int, name_2o1 j = name_3o1 j) (hE_1_4_1 : ∀ j : Int, nameLength_0o1 j = nameLength_1o1 j) (hE_1_4_2 : ∀ j : Int, nameLength_1o1 j = nameLength_2o1 j) (hE_1_4_3 : ∀ j : Int, nameLength_2o1 j = nameLength_3o1 j) (hE_1_7_1 : ∀ j : Int, tail_0o1 j = tail_1o1 j) (hE_1_7_2 : ∀ j : Int, tail_1o1 j = tail_2o1 j) (hE_1_7_3 : ∀ j : Int, tail_2o1 j = tail_3o1 j) (hE_1_8_1 : ∀ j : Int, head_0o1 j = head_1o1 j) (hE_1_8_2 : ∀ j : Int, head_1o1 j = head_2o1 j) (hE_1_8_3 : ∀ j : Int, head_2o1 j = head_3o1 j) (hE_1_13_1 : ∀ j : Int, groupNameLength_0o1 j = groupNameLength_1o1 j) (hE_1_13_2 : ∀ j : Int, groupNameLength_1o1 j = groupNameLength_2o1 j) (hE_1_13_3 : ∀ j : Int, groupNameLength_2o1 j = groupNameLength_3o1 j) (hE_1_14_1 : ∀ j : Int, near_0o1 j = near_1o1 j) (hE_1_14_2 : ∀ j : Int, near_1o1 j = near_2o1 j) (hE_1_14_3 : ∀ j : Int, near_2o1 j = near_3o1 j) (kz_0_2 : (-1) ≤ fault_0 ∧ fault_0 ≤ 5) (kz_0_5 : 0 ≤ end_0 ∧ end_0 ≤ 2000) (kz_0_6 : 0 ≤ next_0 ∧ next_0 ≤ 2000) (kz_0_7 : (-128) ≤ kind_0 ∧ kind_0 ≤ 127) (kz_0_8 : 0 ≤ begin_0 ∧ begin_0 ≤ 2000) (kz_0_9 : (-176) ≤ number_0 ∧ number_0 ≤ 1000000) (kz_0_11 : 0 ≤ depth_0 ∧ depth_0 ≤ 4) (kz_1_0 : 0 ≤ nodes_0o1 ∧ nodes_0o1 ≤ 24) (kz_1_1 : 0 ≤ edges_0o1 ∧ edges_0o1 ≤ 48) (kz_1_2 : 0 ≤ groups_0o1 ∧ groups_0o1 ≤ 8) (ex2 : gx = number_0) (ey2 : gy = next_0) : cG7 (end_0) (depth_0) (nodes_0o1) (edges_0o1) (groups_0o1) (tape_0) (open_0) (nameLength_0o1) (name_0o1) (tail_0o1) (head_0o1) (gy) := by
  subst fe_0_2_1
  subst fe_0_5_1
  subst fe_0_6_1
  subst fe_0_7_1
  subst fe_0_8_1
  subst fe_0_9_1
  subst fe_0_11_1
  subst fe_1_0_1
  subst fe_1_1_1
  subst fe_1_2_1
  subst fe_0_2_2
  subst fe_0_5_2
  subst fe_0_6_2
  subst fe_0_7_2
  subst fe_0_8_2
  subst fe_0_9_2
  subst fe_1_0_2
  subst fe_1_1_2
  subst fe_1_2_2
  subst fe_0_2_3
  subst fe_0_5_3
  subst fe_0_6_3
  subst fe_0_7_3
  subst fe_0_8_3
  subst fe_0_9_3
  subst fe_0_11_3
  subst fe_1_0_3
  subst fe_1_1_3
  have e_hE_0_0_1 := funext hE_0_0_1; subst e_hE_0_0_1
  have e_hE_0_0_2 := funext hE_0_0_2; subst e_hE_0_0_2
  have e_hE_0_0_3 := funext hE_0_0_3; subst e_hE_0_0_3
  have e_hE_0_10_2 := funext hE_0_10_2; subst e_hE_0_10_2
  have e_hE_0_10_3 := funext hE_0_10_3; subst e_hE_0_10_3
  have e_hE_1_3_1 := funext hE_1_3_1; subst e_hE_1_3_1
  have e_hE_1_3_2 := funext hE_1_3_2; subst e_hE_1_3_2
  have e_hE_1_3_3 := funext hE_1_3_3; subst e_hE_1_3_3
  have e_hE_1_4_1 := funext hE_1_4_1; subst e_hE_1_4_1
  have e_hE_1_4_2 := funext hE_1_4_2; subst e_hE_1_4_2
  have e_hE_1_4_3 := funext hE_1_4_3; subst e_hE_1_4_3
  have e_hE_1_7_1 := funext hE_1_7_1; subst e_hE_1_7_1
  have e_hE_1_7_2 := funext hE_1_7_2; subst e_hE_1_7_2
  have e_hE_1_7_3 := funext hE_1_7_3; subst e_hE_1_7_3
  have e_hE_1_8_1 := funext hE_1_8_1; subst e_hE_1_8_1
  have e_hE_1_8_2 := funext hE_1_8_2; subst e_hE_1_8_2
  have e_hE_1_8_3 := funext hE_1_8_3; subst e_hE_1_8_3
  have e_hE_1_13_1 := funext hE_1_13_1; subst e_hE_1_13_1
  have e_hE_1_13_2 := funext hE_1_13_2; subst e_hE_1_13_2
  have e_hE_1_13_3 := funext hE_1_13_3; subst e_hE_1_13_3
  have e_hE_1_14_1 := funext hE_1_14_1; subst e_hE_1_14_1
  have e_hE_1_14_2 := funext hE_1_14_2; subst e_hE_1_14_2
  have e_hE_1_14_3 := funext hE_1_14_3; subst e_hE_1_14_3
  first | subst g0 | skip
  first | subst g1 | skip
  first | subst g3 | skip
  first | subst g4 | skip
  first | subst g38 | skip
  first | subst g55 | skip
  first | subst ex2 | skip
  first | subst ey2 | skip
  exact g5_7s ‹TKC _ _ _ _ _ _ _› ‹cG5 _ _ _ _ _ _ _ _ _ _ _ _› (cnm_t ‹CNM _ _ _ _ _› (by omega)) (by assumption) (by omega) (by omega) (by omega) (by omega) (by omega) (by omega)
set_option maxHeartbeats 4000000 in
theorem vc_Re_readGroup_5_6 (x2 : Int) (x8 : Int) (depth_0 : Int) (groups_0o1 : Int) (begin_0 : Int) (next_0 : Int) (near_0o1 : Int → Int) (tail_0o1 : Int → Int) (head_0o1 : Int → Int) (nodes_0o1 : Int) (edges_0o1 : Int) (fault_0 : Int) (kind_0 : Int) (number_0 : Int) (tape_0 : Int → Int) (end_0 : Int) (near_1o1 : Int → Int) (tail_1o1 : Int → Int) (head_1o1 : Int → Int) (nodes_1o1 : Int) (edges_1o1 : Int) (fault_1 : Int) (kind_1 : Int) (number_1 : Int) (next_1 : Int) (begin_1 : Int) (tape_1 : Int → Int) (end_1 : Int) (depth_2 : Int) (near_2o1 : Int → Int) (tail_2o1 : Int → Int) (head_2o1 : Int → Int) (nodes_2o1 : Int) (edges_2o1 : Int) (fault_2 : Int) (kind_2 : Int) (number_2 : Int) (next_2 : Int) (begin_2 : Int) (tape_2 : Int → Int) (end_2 : Int) (tape_3 : Int → Int) (open_3 : Int → Int) (nameLength_3o1 : Int → Int) (name_3o1 : Int → Int) (tail_3o1 : Int → Int) (head_3o1 : Int → Int) (end_3 : Int) (depth_3 : Int) (nodes_3o1 : Int) (edges_3o1 : Int) (near_3o1 : Int → Int) (fault_3 : Int) (kind_3 : Int) (number_3 : Int) (next_3 : Int) (begin_3 : Int) (depth_1 : Int) (groups_1o1 : Int) (groups_2o1 : Int) (open_1 : Int → Int) (open_2 : Int → Int) (name_0o1 : Int → Int) (name_1o1 : Int → Int) (name_2o1 : Int → Int) (nameLength_0o1 : Int → Int) (nameLength_1o1 : Int → Int) (nameLength_2o1 : Int → Int) (groupNameLength_0o1 : Int → Int) (groupNameLength_1o1 : Int → Int) (groupNameLength_2o1 : Int → Int) (groupNameLength_3o1 : Int → Int) (gy : Int) (k2 : 0 ≤ x2 ∧ x2 ≤ 2000) (k8 : 0 ≤ x8 ∧ x8 ≤ 2000) (f9 : 1 * x2 + ((-1) * x8 + 0) ≤ 0) (f18 : 1 * x8 + ((-1) * next_0 + 0) ≤ 0) (fe_0_2_1 : fault_0 = fault_1) (fe_0_5_1 : end_0 = end_1) (fe_0_6_1 : next_0 = next_1) (fe_0_7_1 : kind_0 = kind_1) (fe_0_8_1 : begin_0 = begin_1) (fe_0_9_1 : number_0 = number_1) (fe_0_11_1 : depth_0 = depth_1) (fe_1_0_1 : nodes_0o1 = nodes_1o1) (fe_1_1_1 : edges_0o1 = edges_1o1) (fe_1_2_1 : groups_0o1 = groups_1o1) (fe_0_2_2 : fault_1 = fault_2) (fe_0_5_2 : end_1 = end_2) (fe_0_6_2 : next_1 = next_2) (fe_0_7_2 : kind_1 = kind_2) (fe_0_8_2 : begin_1 = begin_2) (fe_0_9_2 : number_1 = number_2) (fe_1_0_2 : nodes_1o1 = nodes_2o1) (fe_1_1_2 : edges_1o1 = edges_2o1) (fe_1_2_2 : groups_1o1 = groups_2o1) (fe_0_2_3 : fault_2 = fault_3) (fe_0_5_3 : end_2 = end_3) (fe_0_6_3 : next_2 = next_3) (fe_0_7_3 : kind_2 = kind_3) (fe_0_8_3 : begin_2 = begin_3) (fe_0_9_3 : number_2 = number_3) (fe_0_11_3 : depth_2 = depth_3) (fe_1_0_3 : nodes_2o1 = nodes_3o1) (fe_1_1_3 : edges_2o1 = edges_3o1) (hE_0_0_1 : ∀ j : Int, tape_0 j = tape_1 j) (hE_0_0_2 : ∀ j : Int, tape_1 j = tape_2 j) (hE_0_0_3 : ∀ j : Int, tape_2 j = tape_3 j) (hE_0_10_2 : ∀ j : Int, open_1 j = open_2 j) (hE_0_10_3 : ∀ j : Int, open_2 j = open_3 j) (hE_1_3_1 : ∀ j : Int, name_0o1 j = name_1o1 j) (hE_1_3_2 : ∀ j : Int, name_1o1 j = name_2o1 j) (hE_1_3_3 : ∀ j : Int, name_2o1 j = name_3o1 j) (hE_1_4_1 : ∀ j : Int, nameLength_0o1 j = nameLength_1o1 j) (hE_1_4_2 : ∀ j : Int, nameLength_1o1 j = nameLength_2o1 j) (hE_1_4_3 : ∀ j : Int, nameLength_2o1 j = nameLength_3o1 j) (hE_1_7_1 : ∀ j : Int, tail_0o1 j = tail_1o1 j) (hE_1_7_2 : ∀ j : Int, tail_1o1 j = tail_2o1 j) (hE_1_7_3 : ∀ j : Int, tail_2o1 j = tail_3o1 j) (hE_1_8_1 : ∀ j : Int, head_0o1 j = head_1o1 j) (hE_1_8_2 : ∀ j : Int, head_1o1 j = head_2o1 j) (hE_1_8_3 : ∀ j : Int, head_2o1 j = head_3o1 j) (hE_1_13_1 : ∀ j : Int, groupNameLength_0o1 j = groupNameLength_1o1 j) (hE_1_13_2 : ∀ j : Int, groupNameLength_1o1 j = groupNameLength_2o1 j) (hE_1_13_3 : ∀ j : Int, groupNameLength_2o1 j = groupNameLength_3o1 j) (hE_1_14_1 : ∀ j : Int, near_0o1 j = near_1o1 j) (hE_1_14_2 : ∀ j : Int, near_1o1 j = near_2o1 j) (hE_1_14_3 : ∀ j : Int, near_2o1 j = near_3o1 j) (kz_0_2 : (-1) ≤ fault_0 ∧ fault_0 ≤ 5) (kz_0_5 : 0 ≤ end_0 ∧ end_0 ≤ 2000) (kz_0_6 : 0 ≤ next_0 ∧ next_0 ≤ 2000) (kz_0_7 : (-128) ≤ kind_0 ∧ kind_0 ≤ 127) (kz_0_8 : 0 ≤ begin_0 ∧ begin_0 ≤ 2000) (kz_0_9 : (-176) ≤ number_0 ∧ number_0 ≤ 1000000) (kz_0_11 : 0 ≤ depth_0 ∧ depth_0 ≤ 4) (kz_1_0 : 0 ≤ nodes_0o1 ∧ nodes_0o1 ≤ 24) (kz_1_1 : 0 ≤ edges_0o1 ∧ edges_0o1 ≤ 48) (kz_1_2 : 0 ≤ groups_0o1 ∧ groups_0o1 ≤ 8) (ey2 : gy = next_0) : 1 * x2 + ((-1) * gy + 0) ≤ 0 := by
  subst fe_0_2_1
  subst fe_0_5_1
  subst fe_0_6_1
  subst fe_0_7_1
  subst fe_0_8_1
  subst fe_0_9_1
  subst fe_0_11_1
  subst fe_1_0_1
  subst fe_1_1_1
  subst fe_1_2_1
  subst fe_0_2_2
  subst fe_0_5_2
  subst fe_0_6_2
  subst fe_0_7_2
  subst fe_0_8_2
  subst fe_0_9_2
  subst fe_1_0_2
  subst fe_1_1_2
  subst fe_1_2_2
  subst fe_0_2_3
  subst fe_0_5_3
  subst fe_0_6_3
  subst fe_0_7_3
  subst fe_0_8_3
  subst fe_0_9_3
  subst fe_0_11_3
  subst fe_1_0_3
  subst fe_1_1_3
  have e_hE_0_0_1 := funext hE_0_0_1; subst e_hE_0_0_1
  have e_hE_0_0_2 := funext hE_0_0_2; subst e_hE_0_0_2
  have e_hE_0_0_3 := funext hE_0_0_3; subst e_hE_0_0_3
  have e_hE_0_10_2 := funext hE_0_10_2; subst e_hE_0_10_2
  have e_hE_0_10_3 := funext hE_0_10_3; subst e_hE_0_10_3
  have e_hE_1_3_1 := funext hE_1_3_1; subst e_hE_1_3_1
  have e_hE_1_3_2 := funext hE_1_3_2; subst e_hE_1_3_2
  have e_hE_1_3_3 := funext hE_1_3_3; subst e_hE_1_3_3
  have e_hE_1_4_1 := funext hE_1_4_1; subst e_hE_1_4_1
  have e_hE_1_4_2 := funext hE_1_4_2; subst e_hE_1_4_2
  have e_hE_1_4_3 := funext hE_1_4_3; subst e_hE_1_4_3
  have e_hE_1_7_1 := funext hE_1_7_1; subst e_hE_1_7_1
  have e_hE_1_7_2 := funext hE_1_7_2; subst e_hE_1_7_2
  have e_hE_1_7_3 := funext hE_1_7_3; subst e_hE_1_7_3
  have e_hE_1_8_1 := funext hE_1_8_1; subst e_hE_1_8_1
  have e_hE_1_8_2 := funext hE_1_8_2; subst e_hE_1_8_2
  have e_hE_1_8_3 := funext hE_1_8_3; subst e_hE_1_8_3
  have e_hE_1_13_1 := funext hE_1_13_1; subst e_hE_1_13_1
  have e_hE_1_13_2 := funext hE_1_13_2; subst e_hE_1_13_2
  have e_hE_1_13_3 := funext hE_1_13_3; subst e_hE_1_13_3
  have e_hE_1_14_1 := funext hE_1_14_1; subst e_hE_1_14_1
  have e_hE_1_14_2 := funext hE_1_14_2; subst e_hE_1_14_2
  have e_hE_1_14_3 := funext hE_1_14_3; subst e_hE_1_14_3
  first
    | omega
  
def o_Re_readGroup_5 : or_T := (152, 26, [(0, (2, 0, 0, [8])), (1, (2, 0, 0, [164])), (2, (0, 0, 2000, [])), (3, (0, 0, 7, [])), (5, (0, 0, 3, [])), (8, (0, 0, 2000, [])), (9, (0, 1, 1, [])), (11, (2, 0, 0, [110])), (14, (0, 0, 2000, [])), (15, (0, 0, 2000, [])), (23, (0, 1, 8, [])), (25, (0, 1, 4, []))], [(9, [25, 0], [11]), (9, [23, 1], [2]), (9, [15, 0], [8]), (9, [14, 0], [6]), (9, [11, 0], [10]), (20, [2, 8], [30, 0, 1, 0, 0, -1, 0, 0]), (20, [8, 0], [30, 0, 1, 0, 0, -1, 1, 6]), (100, [11, 25, 3], []), (101, [0, 25], [11]), (9, [5, 0], [11]), (101, [1, 23], [2]), (9, [3, 1], [2]), (20, [0, 1, 8], [60, 5, 6, 1044, 5, 11, 1000, 1001, 1002, 0, 10, 1004, 1003, 1007, 1008]), (20, [0, 8], [60, 5, 1, 1072, 5, 6, 7, 8, 9, 0]), (20, [0, 9], [60, 3, 1, 1079, 7, 6, 8, 0]), (102, [21], [730750818665451459101842416358141509827966271488]), (100, [13, 3, 16], []), (100, [10, 3, 12], []), (8, [9], [1])], [], [(0, -2147483648, 1000000, []), (0, 0, 2000, [])], [(20, [0, 26], [30, 0, 1, 1, 9, -1, 0, 0]), (20, [0, 26], [30, 0, -1, 1, 9, 1, 0, 0]), (20, [0, 27], [30, 0, 1, 1, 6, -1, 0, 0]), (20, [0, 27], [30, 0, -1, 1, 6, 1, 0, 0]), (20, [0], [60, 2, 0, 1073, 5, 6]), (20, [0, 1, 27], [60, 5, 6, 1045, 5, 11, 1000, 1001, 1002, 0, 10, 1004, 1003, 1007, 1008]), (20, [2, 27], [30, 0, 1, 0, 0, -1, 0, 0])], [], [(25, 5, 1, 1), (23, 3, 1, 1)])
theorem oo_Re_readGroup_5 {kA : Nat → ClassId} : or_ok PRD kA GG o_Re_readGroup_5 := by
  refine or_mk fun A ta ws vs hD hth hl => ?_
  intro t0 r0 t1 r1 t2 k2 t3 k3 t5 k5 t8 k8 t9 k9 t11 r11 t14 k14 t15 k15 t23 k23 t25 k25 d0 d1 f0 f1 f3 f4 f6 f9 f18 ta1 w1 le1 s1 ta2 w2 le2 s2 f38 ta3 w3 le3 s3 f55 f58 f67 f70 ta4 w4 le4 s4 ta5 w5 le5 s5 ta6 w6 le6 s6 f79
  replace f0 := shm_116 f0
  replace f1 := shm_120 f1
  replace f3 := shm_293 f3
  replace f4 := shm_111 f4
  replace f6 := shm_106 f6
  replace f9 := shm_201 f9
  replace f18 := shm_1527 f18
  have s1 : (∀ b j, w_el ws b j = if b = v_ad (n_v vs 11) ∧ j = (v_iv (n_v vs 25)).toNat then v_iv (n_v vs 3) else w_el w1 b j) ∧ ∀ b k, w_fd ws b k = w_fd w1 b k := s1.2
  have s2 : (∀ b j, w_el w1 b j = w_el w2 b j) ∧ ∀ b j, w_fd w1 b j = if b = v_ad (n_v vs 0) ∧ j = 11 then n_v vs 25 else w_fd w2 b j := s2.2
  replace f38 := shm_116 f38
  have s3 : (∀ b j, w_el w2 b j = w_el w3 b j) ∧ ∀ b j, w_fd w2 b j = if b = v_ad (n_v vs 1) ∧ j = 2 then n_v vs 23 else w_fd w3 b j := s3.2
  replace f55 := shm_120 f55
  replace f58 := shm_2024 f58
  replace f67 := shm_1532 f67
  replace f70 := shm_1837 f70
  replace f79 := shm_142 f79
  have ar_0_0_1 : w_ar w1 (n_v vs 0) 0 = w_ar ws (n_v vs 0) 0 := congrArg v_ad (s1.2 _ _).symm
  have ar_0_0_2 : w_ar w2 (n_v vs 0) 0 = w_ar ws (n_v vs 0) 0 := by rw [← ar_0_0_1]; show v_ad (w_fd w2 _ _) = v_ad (w_fd w1 _ _); rw [s2.2, if_neg (fun e => absurd e.2 (by decide))]
  have ar_0_0_3 : w_ar w3 (n_v vs 0) 0 = w_ar ws (n_v vs 0) 0 := by rw [← ar_0_0_2]; show v_ad (w_fd w3 _ _) = v_ad (w_fd w2 _ _); rw [s3.2, if_neg (fun e => absurd e.2 (by decide))]
  have cr_0_0 := fdq_95 hD hth r0
  have ar_0_10_1 : w_ar w1 (n_v vs 0) 10 = w_ar ws (n_v vs 0) 10 := congrArg v_ad (s1.2 _ _).symm
  have ar_0_10_2 : w_ar w2 (n_v vs 0) 10 = w_ar ws (n_v vs 0) 10 := by rw [← ar_0_10_1]; show v_ad (w_fd w2 _ _) = v_ad (w_fd w1 _ _); rw [s2.2, if_neg (fun e => absurd e.2 (by decide))]
  have ar_0_10_3 : w_ar w3 (n_v vs 0) 10 = w_ar ws (n_v vs 0) 10 := by rw [← ar_0_10_2]; show v_ad (w_fd w3 _ _) = v_ad (w_fd w2 _ _); rw [s3.2, if_neg (fun e => absurd e.2 (by decide))]
  have ar_1_3_1 : w_ar w1 (n_v vs 1) 3 = w_ar ws (n_v vs 1) 3 := congrArg v_ad (s1.2 _ _).symm
  have ar_1_3_2 : w_ar w2 (n_v vs 1) 3 = w_ar ws (n_v vs 1) 3 := by rw [← ar_1_3_1]; show v_ad (w_fd w2 _ _) = v_ad (w_fd w1 _ _); rw [s2.2, if_neg (fun e => absurd e.2 (by decide))]
  have ar_1_3_3 : w_ar w3 (n_v vs 1) 3 = w_ar ws (n_v vs 1) 3 := by rw [← ar_1_3_2]; show v_ad (w_fd w3 _ _) = v_ad (w_fd w2 _ _); rw [s3.2, if_neg (fun e => absurd e.2 (by decide))]
  have cr_1_3 := fdq_68 hD hth r1
  have ar_1_4_1 : w_ar w1 (n_v vs 1) 4 = w_ar ws (n_v vs 1) 4 := congrArg v_ad (s1.2 _ _).symm
  have ar_1_4_2 : w_ar w2 (n_v vs 1) 4 = w_ar ws (n_v vs 1) 4 := by rw [← ar_1_4_1]; show v_ad (w_fd w2 _ _) = v_ad (w_fd w1 _ _); rw [s2.2, if_neg (fun e => absurd e.2 (by decide))]
  have ar_1_4_3 : w_ar w3 (n_v vs 1) 4 = w_ar ws (n_v vs 1) 4 := by rw [← ar_1_4_2]; show v_ad (w_fd w3 _ _) = v_ad (w_fd w2 _ _); rw [s3.2, if_neg (fun e => absurd e.2 (by decide))]
  have cr_1_4 := fdq_67 hD hth r1
  have ar_1_7_1 : w_ar w1 (n_v vs 1) 7 = w_ar ws (n_v vs 1) 7 := congrArg v_ad (s1.2 _ _).symm
  have ar_1_7_2 : w_ar w2 (n_v vs 1) 7 = w_ar ws (n_v vs 1) 7 := by rw [← ar_1_7_1]; show v_ad (w_fd w2 _ _) = v_ad (w_fd w1 _ _); rw [s2.2, if_neg (fun e => absurd e.2 (by decide))]
  have ar_1_7_3 : w_ar w3 (n_v vs 1) 7 = w_ar ws (n_v vs 1) 7 := by rw [← ar_1_7_2]; show v_ad (w_fd w3 _ _) = v_ad (w_fd w2 _ _); rw [s3.2, if_neg (fun e => absurd e.2 (by decide))]
  have cr_1_7 := fdq_70 hD hth r1
  have ar_1_8_1 : w_ar w1 (n_v vs 1) 8 = w_ar ws (n_v vs 1) 8 := congrArg v_ad (s1.2 _ _).symm
  have ar_1_8_2 : w_ar w2 (n_v vs 1) 8 = w_ar ws (n_v vs 1) 8 := by rw [← ar_1_8_1]; show v_ad (w_fd w2 _ _) = v_ad (w_fd w1 _ _); rw [s2.2, if_neg (fun e => absurd e.2 (by decide))]
  have ar_1_8_3 : w_ar w3 (n_v vs 1) 8 = w_ar ws (n_v vs 1) 8 := by rw [← ar_1_8_2]; show v_ad (w_fd w3 _ _) = v_ad (w_fd w2 _ _); rw [s3.2, if_neg (fun e => absurd e.2 (by decide))]
  have cr_1_8 := fdq_71 hD hth r1
  have cr_1_13 := fdq_322 hD hth r1
  have ar_1_14_1 : w_ar w1 (n_v vs 1) 14 = w_ar ws (n_v vs 1) 14 := congrArg v_ad (s1.2 _ _).symm
  have ar_1_14_2 : w_ar w2 (n_v vs 1) 14 = w_ar ws (n_v vs 1) 14 := by rw [← ar_1_14_1]; show v_ad (w_fd w2 _ _) = v_ad (w_fd w1 _ _); rw [s2.2, if_neg (fun e => absurd e.2 (by decide))]
  have ar_1_14_3 : w_ar w3 (n_v vs 1) 14 = w_ar ws (n_v vs 1) 14 := by rw [← ar_1_14_2]; show v_ad (w_fd w3 _ _) = v_ad (w_fd w2 _ _); rw [s3.2, if_neg (fun e => absurd e.2 (by decide))]
  have cr_1_14 := fdq_72 hD hth r1
  have ad_11 : v_ad (n_v vs 11) = w_ar ws (n_v vs 0) 10 := congrArg v_ad f6
  have g0 : v_iv (n_v vs 25) = w_fi ws (n_v vs 0) 11 := congrArg v_iv f0
  have g1 : v_iv (n_v vs 23) = w_fi ws (n_v vs 1) 2 := congrArg v_iv f1
  have g3 : v_iv (n_v vs 15) = w_fi ws (n_v vs 0) 8 := congrArg v_iv f3
  have g4 : v_iv (n_v vs 14) = w_fi ws (n_v vs 0) 6 := congrArg v_iv f4
  have g38 : v_iv (n_v vs 5) = w_fi w2 (n_v vs 0) 11 := congrArg v_iv f38
  have g55 : v_iv (n_v vs 3) = w_fi w3 (n_v vs 1) 2 := congrArg v_iv f55
  simp only [ar_0_0_3, ar_0_10_3, ar_1_3_3, ar_1_4_3, ar_1_7_3, ar_1_8_3, ar_1_14_3] at f58 f67 f70
  have fe_0_2_1 : w_fi ws (n_v vs 0) 2 = w_fi w1 (n_v vs 0) 2 := congrArg v_iv (s1.2 _ _)
  have fe_0_5_1 : w_fi ws (n_v vs 0) 5 = w_fi w1 (n_v vs 0) 5 := congrArg v_iv (s1.2 _ _)
  have fe_0_6_1 : w_fi ws (n_v vs 0) 6 = w_fi w1 (n_v vs 0) 6 := congrArg v_iv (s1.2 _ _)
  have fe_0_7_1 : w_fi ws (n_v vs 0) 7 = w_fi w1 (n_v vs 0) 7 := congrArg v_iv (s1.2 _ _)
  have fe_0_8_1 : w_fi ws (n_v vs 0) 8 = w_fi w1 (n_v vs 0) 8 := congrArg v_iv (s1.2 _ _)
  have fe_0_9_1 : w_fi ws (n_v vs 0) 9 = w_fi w1 (n_v vs 0) 9 := congrArg v_iv (s1.2 _ _)
  have fe_0_11_1 : w_fi ws (n_v vs 0) 11 = w_fi w1 (n_v vs 0) 11 := congrArg v_iv (s1.2 _ _)
  have fe_1_0_1 : w_fi ws (n_v vs 1) 0 = w_fi w1 (n_v vs 1) 0 := congrArg v_iv (s1.2 _ _)
  have fe_1_1_1 : w_fi ws (n_v vs 1) 1 = w_fi w1 (n_v vs 1) 1 := congrArg v_iv (s1.2 _ _)
  have fe_1_2_1 : w_fi ws (n_v vs 1) 2 = w_fi w1 (n_v vs 1) 2 := congrArg v_iv (s1.2 _ _)
  have fe_0_2_2 : w_fi w1 (n_v vs 0) 2 = w_fi w2 (n_v vs 0) 2 := by show v_iv (w_fd _ _ _) = v_iv (w_fd _ _ _); rw [s2.2, if_neg (fun e => absurd e.2 (by decide))]
  have fe_0_5_2 : w_fi w1 (n_v vs 0) 5 = w_fi w2 (n_v vs 0) 5 := by show v_iv (w_fd _ _ _) = v_iv (w_fd _ _ _); rw [s2.2, if_neg (fun e => absurd e.2 (by decide))]
  have fe_0_6_2 : w_fi w1 (n_v vs 0) 6 = w_fi w2 (n_v vs 0) 6 := by show v_iv (w_fd _ _ _) = v_iv (w_fd _ _ _); rw [s2.2, if_neg (fun e => absurd e.2 (by decide))]
  have fe_0_7_2 : w_fi w1 (n_v vs 0) 7 = w_fi w2 (n_v vs 0) 7 := by show v_iv (w_fd _ _ _) = v_iv (w_fd _ _ _); rw [s2.2, if_neg (fun e => absurd e.2 (by decide))]
  have fe_0_8_2 : w_fi w1 (n_v vs 0) 8 = w_fi w2 (n_v vs 0) 8 := by show v_iv (w_fd _ _ _) = v_iv (w_fd _ _ _); rw [s2.2, if_neg (fun e => absurd e.2 (by decide))]
  have fe_0_9_2 : w_fi w1 (n_v vs 0) 9 = w_fi w2 (n_v vs 0) 9 := by show v_iv (w_fd _ _ _) = v_iv (w_fd _ _ _); rw [s2.2, if_neg (fun e => absurd e.2 (by decide))]
  have fe_0_11_2 : w_fi w1 (n_v vs 0) 11 = v_iv (n_v vs 25) := by show v_iv (w_fd _ _ _) = _; rw [s2.2, if_pos ⟨rfl, rfl⟩]
  have fe_1_0_2 : w_fi w1 (n_v vs 1) 0 = w_fi w2 (n_v vs 1) 0 := by show v_iv (w_fd _ _ _) = v_iv (w_fd _ _ _); rw [s2.2, if_neg (fun e => absurd e.2 (by decide))]
  have fe_1_1_2 : w_fi w1 (n_v vs 1) 1 = w_fi w2 (n_v vs 1) 1 := by show v_iv (w_fd _ _ _) = v_iv (w_fd _ _ _); rw [s2.2, if_neg (fun e => absurd e.2 (by decide))]
  have fe_1_2_2 : w_fi w1 (n_v vs 1) 2 = w_fi w2 (n_v vs 1) 2 := by show v_iv (w_fd _ _ _) = v_iv (w_fd _ _ _); rw [s2.2, if_neg (fun e => absurd e.2 (by decide))]
  have fe_0_2_3 : w_fi w2 (n_v vs 0) 2 = w_fi w3 (n_v vs 0) 2 := by show v_iv (w_fd _ _ _) = v_iv (w_fd _ _ _); rw [s3.2, if_neg (fun e => by have e1 := e.1; have e2 := r0; rw [e1, r1] at e2; exact absurd (Option.some.inj e2) (by decide))]
  have fe_0_5_3 : w_fi w2 (n_v vs 0) 5 = w_fi w3 (n_v vs 0) 5 := by show v_iv (w_fd _ _ _) = v_iv (w_fd _ _ _); rw [s3.2, if_neg (fun e => absurd e.2 (by decide))]
  have fe_0_6_3 : w_fi w2 (n_v vs 0) 6 = w_fi w3 (n_v vs 0) 6 := by show v_iv (w_fd _ _ _) = v_iv (w_fd _ _ _); rw [s3.2, if_neg (fun e => absurd e.2 (by decide))]
  have fe_0_7_3 : w_fi w2 (n_v vs 0) 7 = w_fi w3 (n_v vs 0) 7 := by show v_iv (w_fd _ _ _) = v_iv (w_fd _ _ _); rw [s3.2, if_neg (fun e => absurd e.2 (by decide))]
  have fe_0_8_3 : w_fi w2 (n_v vs 0) 8 = w_fi w3 (n_v vs 0) 8 := by show v_iv (w_fd _ _ _) = v_iv (w_fd _ _ _); rw [s3.2, if_neg (fun e => absurd e.2 (by decide))]
  have fe_0_9_3 : w_fi w2 (n_v vs 0) 9 = w_fi w3 (n_v vs 0) 9 := by show v_iv (w_fd _ _ _) = v_iv (w_fd _ _ _); rw [s3.2, if_neg (fun e => absurd e.2 (by decide))]
  have fe_0_11_3 : w_fi w2 (n_v vs 0) 11 = w_fi w3 (n_v vs 0) 11 := by show v_iv (w_fd _ _ _) = v_iv (w_fd _ _ _); rw [s3.2, if_neg (fun e => absurd e.2 (by decide))]
  have fe_1_0_3 : w_fi w2 (n_v vs 1) 0 = w_fi w3 (n_v vs 1) 0 := by show v_iv (w_fd _ _ _) = v_iv (w_fd _ _ _); rw [s3.2, if_neg (fun e => absurd e.2 (by decide))]
  have fe_1_1_3 : w_fi w2 (n_v vs 1) 1 = w_fi w3 (n_v vs 1) 1 := by show v_iv (w_fd _ _ _) = v_iv (w_fd _ _ _); rw [s3.2, if_neg (fun e => absurd e.2 (by decide))]
  have hE_0_0_1 : ∀ j : Int, w_ei ws (w_ar ws (n_v vs 0) 0) j = w_ei w1 (w_ar ws (n_v vs 0) 0) j := el_kp s1.1 r11 cr_0_0 (by decide)
  have hE_0_0_2 : ∀ j : Int, w_ei w1 (w_ar ws (n_v vs 0) 0) j = w_ei w2 (w_ar ws (n_v vs 0) 0) j := fun j => s2.1 _ _
  have hE_0_0_3 : ∀ j : Int, w_ei w2 (w_ar ws (n_v vs 0) 0) j = w_ei w3 (w_ar ws (n_v vs 0) 0) j := fun j => s3.1 _ _
  have hE_0_10_1 : ∀ j : Int, 0 ≤ j → (j = v_iv (n_v vs 25) → w_ei ws (w_ar ws (n_v vs 0) 10) j = v_iv (n_v vs 3)) ∧ (j ≠ v_iv (n_v vs 25) → w_ei ws (w_ar ws (n_v vs 0) 10) j = w_ei w1 (w_ar ws (n_v vs 0) 10) j) := fun j hj => ⟨fun h => by unfold w_ei; rw [s1.1, if_pos ⟨ad_11.symm, by rw [h]⟩], fun h => by unfold w_ei; rw [s1.1, if_neg (fun e => h (by have := e.2; omega))]⟩
  have hE_0_10_2 : ∀ j : Int, w_ei w1 (w_ar ws (n_v vs 0) 10) j = w_ei w2 (w_ar ws (n_v vs 0) 10) j := fun j => s2.1 _ _
  have hE_0_10_3 : ∀ j : Int, w_ei w2 (w_ar ws (n_v vs 0) 10) j = w_ei w3 (w_ar ws (n_v vs 0) 10) j := fun j => s3.1 _ _
  have hE_1_3_1 : ∀ j : Int, w_ei ws (w_ar ws (n_v vs 1) 3) j = w_ei w1 (w_ar ws (n_v vs 1) 3) j := el_kp s1.1 r11 cr_1_3 (by decide)
  have hE_1_3_2 : ∀ j : Int, w_ei w1 (w_ar ws (n_v vs 1) 3) j = w_ei w2 (w_ar ws (n_v vs 1) 3) j := fun j => s2.1 _ _
  have hE_1_3_3 : ∀ j : Int, w_ei w2 (w_ar ws (n_v vs 1) 3) j = w_ei w3 (w_ar ws (n_v vs 1) 3) j := fun j => s3.1 _ _
  have hE_1_4_1 : ∀ j : Int, w_ei ws (w_ar ws (n_v vs 1) 4) j = w_ei w1 (w_ar ws (n_v vs 1) 4) j := el_kp s1.1 r11 cr_1_4 (by decide)
  have hE_1_4_2 : ∀ j : Int, w_ei w1 (w_ar ws (n_v vs 1) 4) j = w_ei w2 (w_ar ws (n_v vs 1) 4) j := fun j => s2.1 _ _
  have hE_1_4_3 : ∀ j : Int, w_ei w2 (w_ar ws (n_v vs 1) 4) j = w_ei w3 (w_ar ws (n_v vs 1) 4) j := fun j => s3.1 _ _
  have hE_1_7_1 : ∀ j : Int, w_ei ws (w_ar ws (n_v vs 1) 7) j = w_ei w1 (w_ar ws (n_v vs 1) 7) j := el_kp s1.1 r11 cr_1_7 (by decide)
  have hE_1_7_2 : ∀ j : Int, w_ei w1 (w_ar ws (n_v vs 1) 7) j = w_ei w2 (w_ar ws (n_v vs 1) 7) j := fun j => s2.1 _ _
  have hE_1_7_3 : ∀ j : Int, w_ei w2 (w_ar ws (n_v vs 1) 7) j = w_ei w3 (w_ar ws (n_v vs 1) 7) j := fun j => s3.1 _ _
  have hE_1_8_1 : ∀ j : Int, w_ei ws (w_ar ws (n_v vs 1) 8) j = w_ei w1 (w_ar ws (n_v vs 1) 8) j := el_kp s1.1 r11 cr_1_8 (by decide)
  have hE_1_8_2 : ∀ j : Int, w_ei w1 (w_ar ws (n_v vs 1) 8) j = w_ei w2 (w_ar ws (n_v vs 1) 8) j := fun j => s2.1 _ _
  have hE_1_8_3 : ∀ j : Int, w_ei w2 (w_ar ws (n_v vs 1) 8) j = w_ei w3 (w_ar ws (n_v vs 1) 8) j := fun j => s3.1 _ _
  have hE_1_13_1 : ∀ j : Int, w_ei ws (w_ar ws (n_v vs 1) 13) j = w_ei w1 (w_ar ws (n_v vs 1) 13) j := el_kp s1.1 r11 cr_1_13 (by decide)
  have hE_1_13_2 : ∀ j : Int, w_ei w1 (w_ar ws (n_v vs 1) 13) j = w_ei w2 (w_ar ws (n_v vs 1) 13) j := fun j => s2.1 _ _
  have hE_1_13_3 : ∀ j : Int, w_ei w2 (w_ar ws (n_v vs 1) 13) j = w_ei w3 (w_ar ws (n_v vs 1) 13) j := fun j => s3.1 _ _
  have hE_1_14_1 : ∀ j : Int, w_ei ws (w_ar ws (n_v vs 1) 14) j = w_ei w1 (w_ar ws (n_v vs 1) 14) j := el_kp s1.1 r11 cr_1_14 (by decide)
  have hE_1_14_2 : ∀ j : Int, w_ei w1 (w_ar ws (n_v vs 1) 14) j = w_ei w2 (w_ar ws (n_v vs 1) 14) j := fun j => s2.1 _ _
  have hE_1_14_3 : ∀ j : Int, w_ei w2 (w_ar ws (n_v vs 1) 14) j = w_ei w3 (w_ar ws (n_v vs 1) 14) j := fun j => s3.1 _ _
  have kz_0_2 := fdq_97 hD hth r0
  have kz_0_5 := fdq_207 hD hth r0
  have kz_0_6 := fdq_208 hD hth r0
  have kz_0_7 := fdq_297 hD hth r0
  have kz_0_8 := fdq_99 hD hth r0
  have kz_0_9 := fdq_296 hD hth r0
  have kz_0_11 := fdq_320 hD hth r0
  have kz_1_0 := fdq_73 hD hth r1
  have kz_1_1 := fdq_74 hD hth r1
  have kz_1_2 := fdq_206 hD hth r1
  obtain ⟨x, ex, hx⟩ := iv_ex (ta := ta) (lo := (-2147483648)) (hi := 1000000) (z := w_fi ws (n_v vs 0) 9) (by omega) (by omega) (by omega) (by omega)
  have ex2 : v_iv (Value.int x) = w_fi ws (n_v vs 0) 9 := ex
  have ex3 : (-2147483648) ≤ v_iv (Value.int x) ∧ v_iv (Value.int x) ≤ 1000000 := tv_rng hx
  obtain ⟨y, ey, hy⟩ := iv_ex (ta := ta) (lo := 0) (hi := 2000) (z := w_fi ws (n_v vs 0) 6) (by omega) (by omega) (by omega) (by omega)
  have ey2 : v_iv (Value.int y) = w_fi ws (n_v vs 0) 6 := ey
  have ey3 : 0 ≤ v_iv (Value.int y) ∧ v_iv (Value.int y) ≤ 2000 := tv_rng hy
  have e_0 : n_v (vs ++ [Value.int x, Value.int y]) 0 = n_v vs 0 := n_v_old (by rw [hl]; decide)
  have e_1 : n_v (vs ++ [Value.int x, Value.int y]) 1 = n_v vs 1 := n_v_old (by rw [hl]; decide)
  have e_2 : n_v (vs ++ [Value.int x, Value.int y]) 2 = n_v vs 2 := n_v_old (by rw [hl]; decide)
  have e_26 : n_v (vs ++ [Value.int x, Value.int y]) 26 = Value.int x := n_v_new0 hl
  have e_27 : n_v (vs ++ [Value.int x, Value.int y]) 27 = Value.int y := n_v_new1 hl
  have nf0 : fc_1 PRD (20, [0, 26], [30, 0, 1, 1, 9, -1, 0, 0]) ws (vs ++ [Value.int x, Value.int y]) := by
    refine ⟨nf_inA hl rfl, sgq_1521 ?_⟩
    · show 1 * w_fi ws (n_v (vs ++ [Value.int x, Value.int y]) 0) 9 + ((-1) * v_iv (n_v (vs ++ [Value.int x, Value.int y]) 26) + 0) ≤ 0
      simp only [e_0, e_26]
      exact vc_Re_readGroup_5_0 (w_fi ws (n_v vs 0) 11) (w_fi ws (n_v vs 1) 2) (w_fi ws (n_v vs 0) 8) (w_fi ws (n_v vs 0) 6) (w_ei ws (w_ar ws (n_v vs 1) 14)) (w_ei ws (w_ar ws (n_v vs 1) 7)) (w_ei ws (w_ar ws (n_v vs 1) 8)) (w_fi ws (n_v vs 1) 0) (w_fi ws (n_v vs 1) 1) (w_fi ws (n_v vs 0) 2) (w_fi ws (n_v vs 0) 7) (w_fi ws (n_v vs 0) 9) (w_ei ws (w_ar ws (n_v vs 0) 0)) (w_fi ws (n_v vs 0) 5) (w_ei w1 (w_ar ws (n_v vs 1) 14)) (w_ei w1 (w_ar ws (n_v vs 1) 7)) (w_ei w1 (w_ar ws (n_v vs 1) 8)) (w_fi w1 (n_v vs 1) 0) (w_fi w1 (n_v vs 1) 1) (w_fi w1 (n_v vs 0) 2) (w_fi w1 (n_v vs 0) 7) (w_fi w1 (n_v vs 0) 9) (w_fi w1 (n_v vs 0) 6) (w_fi w1 (n_v vs 0) 8) (w_ei w1 (w_ar ws (n_v vs 0) 0)) (w_fi w1 (n_v vs 0) 5) (w_fi w2 (n_v vs 0) 11) (w_ei w2 (w_ar ws (n_v vs 1) 14)) (w_ei w2 (w_ar ws (n_v vs 1) 7)) (w_ei w2 (w_ar ws (n_v vs 1) 8)) (w_fi w2 (n_v vs 1) 0) (w_fi w2 (n_v vs 1) 1) (w_fi w2 (n_v vs 0) 2) (w_fi w2 (n_v vs 0) 7) (w_fi w2 (n_v vs 0) 9) (w_fi w2 (n_v vs 0) 6) (w_fi w2 (n_v vs 0) 8) (w_ei w2 (w_ar ws (n_v vs 0) 0)) (w_fi w2 (n_v vs 0) 5) (w_ei w3 (w_ar ws (n_v vs 0) 0)) (w_ei w3 (w_ar ws (n_v vs 0) 10)) (w_ei w3 (w_ar ws (n_v vs 1) 4)) (w_ei w3 (w_ar ws (n_v vs 1) 3)) (w_ei w3 (w_ar ws (n_v vs 1) 7)) (w_ei w3 (w_ar ws (n_v vs 1) 8)) (w_fi w3 (n_v vs 0) 5) (w_fi w3 (n_v vs 0) 11) (w_fi w3 (n_v vs 1) 0) (w_fi w3 (n_v vs 1) 1) (w_ei w3 (w_ar ws (n_v vs 1) 14)) (w_fi w3 (n_v vs 0) 2) (w_fi w3 (n_v vs 0) 7) (w_fi w3 (n_v vs 0) 9) (w_fi w3 (n_v vs 0) 6) (w_fi w3 (n_v vs 0) 8) (w_fi w1 (n_v vs 0) 11) (w_fi w1 (n_v vs 1) 2) (w_fi w2 (n_v vs 1) 2) (w_ei w1 (w_ar ws (n_v vs 0) 10)) (w_ei w2 (w_ar ws (n_v vs 0) 10)) (w_ei ws (w_ar ws (n_v vs 1) 3)) (w_ei w1 (w_ar ws (n_v vs 1) 3)) (w_ei w2 (w_ar ws (n_v vs 1) 3)) (w_ei ws (w_ar ws (n_v vs 1) 4)) (w_ei w1 (w_ar ws (n_v vs 1) 4)) (w_ei w2 (w_ar ws (n_v vs 1) 4)) (w_ei ws (w_ar ws (n_v vs 1) 13)) (w_ei w1 (w_ar ws (n_v vs 1) 13)) (w_ei w2 (w_ar ws (n_v vs 1) 13)) (w_ei w3 (w_ar ws (n_v vs 1) 13)) (v_iv (Value.int x)) fe_0_2_1 fe_0_5_1 fe_0_6_1 fe_0_7_1 fe_0_8_1 fe_0_9_1 fe_0_11_1 fe_1_0_1 fe_1_1_1 fe_1_2_1 fe_0_2_2 fe_0_5_2 fe_0_6_2 fe_0_7_2 fe_0_8_2 fe_0_9_2 fe_1_0_2 fe_1_1_2 fe_1_2_2 fe_0_2_3 fe_0_5_3 fe_0_6_3 fe_0_7_3 fe_0_8_3 fe_0_9_3 fe_0_11_3 fe_1_0_3 fe_1_1_3 hE_0_0_1 hE_0_0_2 hE_0_0_3 hE_0_10_2 hE_0_10_3 hE_1_3_1 hE_1_3_2 hE_1_3_3 hE_1_4_1 hE_1_4_2 hE_1_4_3 hE_1_7_1 hE_1_7_2 hE_1_7_3 hE_1_8_1 hE_1_8_2 hE_1_8_3 hE_1_13_1 hE_1_13_2 hE_1_13_3 hE_1_14_1 hE_1_14_2 hE_1_14_3 kz_0_2 kz_0_5 kz_0_6 kz_0_7 kz_0_8 kz_0_9 kz_0_11 kz_1_0 kz_1_1 kz_1_2 ex2
  have nf1 : fc_1 PRD (20, [0, 26], [30, 0, -1, 1, 9, 1, 0, 0]) ws (vs ++ [Value.int x, Value.int y]) := by
    refine ⟨nf_inA hl rfl, sgq_1522 ?_⟩
    · show (-1) * w_fi ws (n_v (vs ++ [Value.int x, Value.int y]) 0) 9 + (1 * v_iv (n_v (vs ++ [Value.int x, Value.int y]) 26) + 0) ≤ 0
      simp only [e_0, e_26]
      exact vc_Re_readGroup_5_1 (w_fi ws (n_v vs 0) 11) (w_fi ws (n_v vs 1) 2) (w_fi ws (n_v vs 0) 8) (w_fi ws (n_v vs 0) 6) (w_ei ws (w_ar ws (n_v vs 1) 14)) (w_ei ws (w_ar ws (n_v vs 1) 7)) (w_ei ws (w_ar ws (n_v vs 1) 8)) (w_fi ws (n_v vs 1) 0) (w_fi ws (n_v vs 1) 1) (w_fi ws (n_v vs 0) 2) (w_fi ws (n_v vs 0) 7) (w_fi ws (n_v vs 0) 9) (w_ei ws (w_ar ws (n_v vs 0) 0)) (w_fi ws (n_v vs 0) 5) (w_ei w1 (w_ar ws (n_v vs 1) 14)) (w_ei w1 (w_ar ws (n_v vs 1) 7)) (w_ei w1 (w_ar ws (n_v vs 1) 8)) (w_fi w1 (n_v vs 1) 0) (w_fi w1 (n_v vs 1) 1) (w_fi w1 (n_v vs 0) 2) (w_fi w1 (n_v vs 0) 7) (w_fi w1 (n_v vs 0) 9) (w_fi w1 (n_v vs 0) 6) (w_fi w1 (n_v vs 0) 8) (w_ei w1 (w_ar ws (n_v vs 0) 0)) (w_fi w1 (n_v vs 0) 5) (w_fi w2 (n_v vs 0) 11) (w_ei w2 (w_ar ws (n_v vs 1) 14)) (w_ei w2 (w_ar ws (n_v vs 1) 7)) (w_ei w2 (w_ar ws (n_v vs 1) 8)) (w_fi w2 (n_v vs 1) 0) (w_fi w2 (n_v vs 1) 1) (w_fi w2 (n_v vs 0) 2) (w_fi w2 (n_v vs 0) 7) (w_fi w2 (n_v vs 0) 9) (w_fi w2 (n_v vs 0) 6) (w_fi w2 (n_v vs 0) 8) (w_ei w2 (w_ar ws (n_v vs 0) 0)) (w_fi w2 (n_v vs 0) 5) (w_ei w3 (w_ar ws (n_v vs 0) 0)) (w_ei w3 (w_ar ws (n_v vs 0) 10)) (w_ei w3 (w_ar ws (n_v vs 1) 4)) (w_ei w3 (w_ar ws (n_v vs 1) 3)) (w_ei w3 (w_ar ws (n_v vs 1) 7)) (w_ei w3 (w_ar ws (n_v vs 1) 8)) (w_fi w3 (n_v vs 0) 5) (w_fi w3 (n_v vs 0) 11) (w_fi w3 (n_v vs 1) 0) (w_fi w3 (n_v vs 1) 1) (w_ei w3 (w_ar ws (n_v vs 1) 14)) (w_fi w3 (n_v vs 0) 2) (w_fi w3 (n_v vs 0) 7) (w_fi w3 (n_v vs 0) 9) (w_fi w3 (n_v vs 0) 6) (w_fi w3 (n_v vs 0) 8) (w_fi w1 (n_v vs 0) 11) (w_fi w1 (n_v vs 1) 2) (w_fi w2 (n_v vs 1) 2) (w_ei w1 (w_ar ws (n_v vs 0) 10)) (w_ei w2 (w_ar ws (n_v vs 0) 10)) (w_ei ws (w_ar ws (n_v vs 1) 3)) (w_ei w1 (w_ar ws (n_v vs 1) 3)) (w_ei w2 (w_ar ws (n_v vs 1) 3)) (w_ei ws (w_ar ws (n_v vs 1) 4)) (w_ei w1 (w_ar ws (n_v vs 1) 4)) (w_ei w2 (w_ar ws (n_v vs 1) 4)) (w_ei ws (w_ar ws (n_v vs 1) 13)) (w_ei w1 (w_ar ws (n_v vs 1) 13)) (w_ei w2 (w_ar ws (n_v vs 1) 13)) (w_ei w3 (w_ar ws (n_v vs 1) 13)) (v_iv (Value.int x)) fe_0_2_1 fe_0_5_1 fe_0_6_1 fe_0_7_1 fe_0_8_1 fe_0_9_1 fe_0_11_1 fe_1_0_1 fe_1_1_1 fe_1_2_1 fe_0_2_2 fe_0_5_2 fe_0_6_2 fe_0_7_2 fe_0_8_2 fe_0_9_2 fe_1_0_2 fe_1_1_2 fe_1_2_2 fe_0_2_3 fe_0_5_3 fe_0_6_3 fe_0_7_3 fe_0_8_3 fe_0_9_3 fe_0_11_3 fe_1_0_3 fe_1_1_3 hE_0_0_1 hE_0_0_2 hE_0_0_3 hE_0_10_2 hE_0_10_3 hE_1_3_1 hE_1_3_2 hE_1_3_3 hE_1_4_1 hE_1_4_2 hE_1_4_3 hE_1_7_1 hE_1_7_2 hE_1_7_3 hE_1_8_1 hE_1_8_2 hE_1_8_3 hE_1_13_1 hE_1_13_2 hE_1_13_3 hE_1_14_1 hE_1_14_2 hE_1_14_3 kz_0_2 kz_0_5 kz_0_6 kz_0_7 kz_0_8 kz_0_9 kz_0_11 kz_1_0 kz_1_1 kz_1_2 ex2
  have nf2 : fc_1 PRD (20, [0, 27], [30, 0, 1, 1, 6, -1, 0, 0]) ws (vs ++ [Value.int x, Value.int y]) := by
    refine ⟨nf_inA hl rfl, sgq_1523 ?_⟩
    · show 1 * w_fi ws (n_v (vs ++ [Value.int x, Value.int y]) 0) 6 + ((-1) * v_iv (n_v (vs ++ [Value.int x, Value.int y]) 27) + 0) ≤ 0
      simp only [e_0, e_27]
      exact vc_Re_readGroup_5_2 (w_fi ws (n_v vs 0) 11) (w_fi ws (n_v vs 1) 2) (w_fi ws (n_v vs 0) 8) (w_fi ws (n_v vs 0) 6) (w_ei ws (w_ar ws (n_v vs 1) 14)) (w_ei ws (w_ar ws (n_v vs 1) 7)) (w_ei ws (w_ar ws (n_v vs 1) 8)) (w_fi ws (n_v vs 1) 0) (w_fi ws (n_v vs 1) 1) (w_fi ws (n_v vs 0) 2) (w_fi ws (n_v vs 0) 7) (w_fi ws (n_v vs 0) 9) (w_ei ws (w_ar ws (n_v vs 0) 0)) (w_fi ws (n_v vs 0) 5) (w_ei w1 (w_ar ws (n_v vs 1) 14)) (w_ei w1 (w_ar ws (n_v vs 1) 7)) (w_ei w1 (w_ar ws (n_v vs 1) 8)) (w_fi w1 (n_v vs 1) 0) (w_fi w1 (n_v vs 1) 1) (w_fi w1 (n_v vs 0) 2) (w_fi w1 (n_v vs 0) 7) (w_fi w1 (n_v vs 0) 9) (w_fi w1 (n_v vs 0) 6) (w_fi w1 (n_v vs 0) 8) (w_ei w1 (w_ar ws (n_v vs 0) 0)) (w_fi w1 (n_v vs 0) 5) (w_fi w2 (n_v vs 0) 11) (w_ei w2 (w_ar ws (n_v vs 1) 14)) (w_ei w2 (w_ar ws (n_v vs 1) 7)) (w_ei w2 (w_ar ws (n_v vs 1) 8)) (w_fi w2 (n_v vs 1) 0) (w_fi w2 (n_v vs 1) 1) (w_fi w2 (n_v vs 0) 2) (w_fi w2 (n_v vs 0) 7) (w_fi w2 (n_v vs 0) 9) (w_fi w2 (n_v vs 0) 6) (w_fi w2 (n_v vs 0) 8) (w_ei w2 (w_ar ws (n_v vs 0) 0)) (w_fi w2 (n_v vs 0) 5) (w_ei w3 (w_ar ws (n_v vs 0) 0)) (w_ei w3 (w_ar ws (n_v vs 0) 10)) (w_ei w3 (w_ar ws (n_v vs 1) 4)) (w_ei w3 (w_ar ws (n_v vs 1) 3)) (w_ei w3 (w_ar ws (n_v vs 1) 7)) (w_ei w3 (w_ar ws (n_v vs 1) 8)) (w_fi w3 (n_v vs 0) 5) (w_fi w3 (n_v vs 0) 11) (w_fi w3 (n_v vs 1) 0) (w_fi w3 (n_v vs 1) 1) (w_ei w3 (w_ar ws (n_v vs 1) 14)) (w_fi w3 (n_v vs 0) 2) (w_fi w3 (n_v vs 0) 7) (w_fi w3 (n_v vs 0) 9) (w_fi w3 (n_v vs 0) 6) (w_fi w3 (n_v vs 0) 8) (w_fi w1 (n_v vs 0) 11) (w_fi w1 (n_v vs 1) 2) (w_fi w2 (n_v vs 1) 2) (w_ei w1 (w_ar ws (n_v vs 0) 10)) (w_ei w2 (w_ar ws (n_v vs 0) 10)) (w_ei ws (w_ar ws (n_v vs 1) 3)) (w_ei w1 (w_ar ws (n_v vs 1) 3)) (w_ei w2 (w_ar ws (n_v vs 1) 3)) (w_ei ws (w_ar ws (n_v vs 1) 4)) (w_ei w1 (w_ar ws (n_v vs 1) 4)) (w_ei w2 (w_ar ws (n_v vs 1) 4)) (w_ei ws (w_ar ws (n_v vs 1) 13)) (w_ei w1 (w_ar ws (n_v vs 1) 13)) (w_ei w2 (w_ar ws (n_v vs 1) 13)) (w_ei w3 (w_ar ws (n_v vs 1) 13)) (v_iv (Value.int y)) fe_0_2_1 fe_0_5_1 fe_0_6_1 fe_0_7_1 fe_0_8_1 fe_0_9_1 fe_0_11_1 fe_1_0_1 fe_1_1_1 fe_1_2_1 fe_0_2_2 fe_0_5_2 fe_0_6_2 fe_0_7_2 fe_0_8_2 fe_0_9_2 fe_1_0_2 fe_1_1_2 fe_1_2_2 fe_0_2_3 fe_0_5_3 fe_0_6_3 fe_0_7_3 fe_0_8_3 fe_0_9_3 fe_0_11_3 fe_1_0_3 fe_1_1_3 hE_0_0_1 hE_0_0_2 hE_0_0_3 hE_0_10_2 hE_0_10_3 hE_1_3_1 hE_1_3_2 hE_1_3_3 hE_1_4_1 hE_1_4_2 hE_1_4_3 hE_1_7_1 hE_1_7_2 hE_1_7_3 hE_1_8_1 hE_1_8_2 hE_1_8_3 hE_1_13_1 hE_1_13_2 hE_1_13_3 hE_1_14_1 hE_1_14_2 hE_1_14_3 kz_0_2 kz_0_5 kz_0_6 kz_0_7 kz_0_8 kz_0_9 kz_0_11 kz_1_0 kz_1_1 kz_1_2 ey2
  have nf3 : fc_1 PRD (20, [0, 27], [30, 0, -1, 1, 6, 1, 0, 0]) ws (vs ++ [Value.int x, Value.int y]) := by
    refine ⟨nf_inA hl rfl, sgq_1524 ?_⟩
    · show (-1) * w_fi ws (n_v (vs ++ [Value.int x, Value.int y]) 0) 6 + (1 * v_iv (n_v (vs ++ [Value.int x, Value.int y]) 27) + 0) ≤ 0
      simp only [e_0, e_27]
      exact vc_Re_readGroup_5_3 (w_fi ws (n_v vs 0) 11) (w_fi ws (n_v vs 1) 2) (w_fi ws (n_v vs 0) 8) (w_fi ws (n_v vs 0) 6) (w_ei ws (w_ar ws (n_v vs 1) 14)) (w_ei ws (w_ar ws (n_v vs 1) 7)) (w_ei ws (w_ar ws (n_v vs 1) 8)) (w_fi ws (n_v vs 1) 0) (w_fi ws (n_v vs 1) 1) (w_fi ws (n_v vs 0) 2) (w_fi ws (n_v vs 0) 7) (w_fi ws (n_v vs 0) 9) (w_ei ws (w_ar ws (n_v vs 0) 0)) (w_fi ws (n_v vs 0) 5) (w_ei w1 (w_ar ws (n_v vs 1) 14)) (w_ei w1 (w_ar ws (n_v vs 1) 7)) (w_ei w1 (w_ar ws (n_v vs 1) 8)) (w_fi w1 (n_v vs 1) 0) (w_fi w1 (n_v vs 1) 1) (w_fi w1 (n_v vs 0) 2) (w_fi w1 (n_v vs 0) 7) (w_fi w1 (n_v vs 0) 9) (w_fi w1 (n_v vs 0) 6) (w_fi w1 (n_v vs 0) 8) (w_ei w1 (w_ar ws (n_v vs 0) 0)) (w_fi w1 (n_v vs 0) 5) (w_fi w2 (n_v vs 0) 11) (w_ei w2 (w_ar ws (n_v vs 1) 14)) (w_ei w2 (w_ar ws (n_v vs 1) 7)) (w_ei w2 (w_ar ws (n_v vs 1) 8)) (w_fi w2 (n_v vs 1) 0) (w_fi w2 (n_v vs 1) 1) (w_fi w2 (n_v vs 0) 2) (w_fi w2 (n_v vs 0) 7) (w_fi w2 (n_v vs 0) 9) (w_fi w2 (n_v vs 0) 6) (w_fi w2 (n_v vs 0) 8) (w_ei w2 (w_ar ws (n_v vs 0) 0)) (w_fi w2 (n_v vs 0) 5) (w_ei w3 (w_ar ws (n_v vs 0) 0)) (w_ei w3 (w_ar ws (n_v vs 0) 10)) (w_ei w3 (w_ar ws (n_v vs 1) 4)) (w_ei w3 (w_ar ws (n_v vs 1) 3)) (w_ei w3 (w_ar ws (n_v vs 1) 7)) (w_ei w3 (w_ar ws (n_v vs 1) 8)) (w_fi w3 (n_v vs 0) 5) (w_fi w3 (n_v vs 0) 11) (w_fi w3 (n_v vs 1) 0) (w_fi w3 (n_v vs 1) 1) (w_ei w3 (w_ar ws (n_v vs 1) 14)) (w_fi w3 (n_v vs 0) 2) (w_fi w3 (n_v vs 0) 7) (w_fi w3 (n_v vs 0) 9) (w_fi w3 (n_v vs 0) 6) (w_fi w3 (n_v vs 0) 8) (w_fi w1 (n_v vs 0) 11) (w_fi w1 (n_v vs 1) 2) (w_fi w2 (n_v vs 1) 2) (w_ei w1 (w_ar ws (n_v vs 0) 10)) (w_ei w2 (w_ar ws (n_v vs 0) 10)) (w_ei ws (w_ar ws (n_v vs 1) 3)) (w_ei w1 (w_ar ws (n_v vs 1) 3)) (w_ei w2 (w_ar ws (n_v vs 1) 3)) (w_ei ws (w_ar ws (n_v vs 1) 4)) (w_ei w1 (w_ar ws (n_v vs 1) 4)) (w_ei w2 (w_ar ws (n_v vs 1) 4)) (w_ei ws (w_ar ws (n_v vs 1) 13)) (w_ei w1 (w_ar ws (n_v vs 1) 13)) (w_ei w2 (w_ar ws (n_v vs 1) 13)) (w_ei w3 (w_ar ws (n_v vs 1) 13)) (v_iv (Value.int y)) fe_0_2_1 fe_0_5_1 fe_0_6_1 fe_0_7_1 fe_0_8_1 fe_0_9_1 fe_0_11_1 fe_1_0_1 fe_1_1_1 fe_1_2_1 fe_0_2_2 fe_0_5_2 fe_0_6_2 fe_0_7_2 fe_0_8_2 fe_0_9_2 fe_1_0_2 fe_1_1_2 fe_1_2_2 fe_0_2_3 fe_0_5_3 fe_0_6_3 fe_0_7_3 fe_0_8_3 fe_0_9_3 fe_0_11_3 fe_1_0_3 fe_1_1_3 hE_0_0_1 hE_0_0_2 hE_0_0_3 hE_0_10_2 hE_0_10_3 hE_1_3_1 hE_1_3_2 hE_1_3_3 hE_1_4_1 hE_1_4_2 hE_1_4_3 hE_1_7_1 hE_1_7_2 hE_1_7_3 hE_1_8_1 hE_1_8_2 hE_1_8_3 hE_1_13_1 hE_1_13_2 hE_1_13_3 hE_1_14_1 hE_1_14_2 hE_1_14_3 kz_0_2 kz_0_5 kz_0_6 kz_0_7 kz_0_8 kz_0_9 kz_0_11 kz_1_0 kz_1_1 kz_1_2 ey2
  have nf4 : fc_1 PRD (20, [0], [60, 2, 0, 1073, 5, 6]) ws (vs ++ [Value.int x, Value.int y]) := by
    refine ⟨nf_inA hl rfl, sgq_1525 ?_⟩
    · show CLM (w_fi ws (n_v (vs ++ [Value.int x, Value.int y]) 0) 5) (w_fi ws (n_v (vs ++ [Value.int x, Value.int y]) 0) 6)
      rw [e_0]
      exact vc_Re_readGroup_5_4 (v_iv (n_v vs 3)) (v_iv (n_v vs 5)) (v_iv (n_v vs 8)) (v_iv (n_v vs 14)) (v_iv (n_v vs 15)) (v_iv (n_v vs 23)) (v_iv (n_v vs 25)) (w_fi ws (n_v vs 0) 11) (w_fi ws (n_v vs 1) 2) (w_fi ws (n_v vs 0) 8) (w_fi ws (n_v vs 0) 6) (w_ei ws (w_ar ws (n_v vs 1) 14)) (w_ei ws (w_ar ws (n_v vs 1) 7)) (w_ei ws (w_ar ws (n_v vs 1) 8)) (w_fi ws (n_v vs 1) 0) (w_fi ws (n_v vs 1) 1) (w_fi ws (n_v vs 0) 2) (w_fi ws (n_v vs 0) 7) (w_fi ws (n_v vs 0) 9) (w_ei ws (w_ar ws (n_v vs 0) 0)) (w_fi ws (n_v vs 0) 5) (w_ei w1 (w_ar ws (n_v vs 1) 14)) (w_ei w1 (w_ar ws (n_v vs 1) 7)) (w_ei w1 (w_ar ws (n_v vs 1) 8)) (w_fi w1 (n_v vs 1) 0) (w_fi w1 (n_v vs 1) 1) (w_fi w1 (n_v vs 0) 2) (w_fi w1 (n_v vs 0) 7) (w_fi w1 (n_v vs 0) 9) (w_fi w1 (n_v vs 0) 6) (w_fi w1 (n_v vs 0) 8) (w_ei w1 (w_ar ws (n_v vs 0) 0)) (w_fi w1 (n_v vs 0) 5) (w_fi w2 (n_v vs 0) 11) (w_ei w2 (w_ar ws (n_v vs 1) 14)) (w_ei w2 (w_ar ws (n_v vs 1) 7)) (w_ei w2 (w_ar ws (n_v vs 1) 8)) (w_fi w2 (n_v vs 1) 0) (w_fi w2 (n_v vs 1) 1) (w_fi w2 (n_v vs 0) 2) (w_fi w2 (n_v vs 0) 7) (w_fi w2 (n_v vs 0) 9) (w_fi w2 (n_v vs 0) 6) (w_fi w2 (n_v vs 0) 8) (w_ei w2 (w_ar ws (n_v vs 0) 0)) (w_fi w2 (n_v vs 0) 5) (w_fi w3 (n_v vs 1) 2) (w_ei w3 (w_ar ws (n_v vs 0) 0)) (w_ei w3 (w_ar ws (n_v vs 0) 10)) (w_ei w3 (w_ar ws (n_v vs 1) 4)) (w_ei w3 (w_ar ws (n_v vs 1) 3)) (w_ei w3 (w_ar ws (n_v vs 1) 7)) (w_ei w3 (w_ar ws (n_v vs 1) 8)) (w_fi w3 (n_v vs 0) 5) (w_fi w3 (n_v vs 0) 11) (w_fi w3 (n_v vs 1) 0) (w_fi w3 (n_v vs 1) 1) (w_ei w3 (w_ar ws (n_v vs 1) 14)) (w_fi w3 (n_v vs 0) 2) (w_fi w3 (n_v vs 0) 7) (w_fi w3 (n_v vs 0) 9) (w_fi w3 (n_v vs 0) 6) (w_fi w3 (n_v vs 0) 8) (w_fi w1 (n_v vs 0) 11) (w_fi w1 (n_v vs 1) 2) (w_fi w2 (n_v vs 1) 2) (w_ei w1 (w_ar ws (n_v vs 0) 10)) (w_ei w2 (w_ar ws (n_v vs 0) 10)) (w_ei ws (w_ar ws (n_v vs 1) 3)) (w_ei w1 (w_ar ws (n_v vs 1) 3)) (w_ei w2 (w_ar ws (n_v vs 1) 3)) (w_ei ws (w_ar ws (n_v vs 1) 4)) (w_ei w1 (w_ar ws (n_v vs 1) 4)) (w_ei w2 (w_ar ws (n_v vs 1) 4)) (w_ei ws (w_ar ws (n_v vs 1) 13)) (w_ei w1 (w_ar ws (n_v vs 1) 13)) (w_ei w2 (w_ar ws (n_v vs 1) 13)) (w_ei w3 (w_ar ws (n_v vs 1) 13)) (v_iv (Value.int x)) (v_iv (Value.int y)) k3 k5 k8 k14 k15 k23 k25 g0 g1 g3 g4 g38 g55 f67 fe_0_2_1 fe_0_5_1 fe_0_6_1 fe_0_7_1 fe_0_8_1 fe_0_9_1 fe_0_11_1 fe_1_0_1 fe_1_1_1 fe_1_2_1 fe_0_2_2 fe_0_5_2 fe_0_6_2 fe_0_7_2 fe_0_8_2 fe_0_9_2 fe_1_0_2 fe_1_1_2 fe_1_2_2 fe_0_2_3 fe_0_5_3 fe_0_6_3 fe_0_7_3 fe_0_8_3 fe_0_9_3 fe_0_11_3 fe_1_0_3 fe_1_1_3 hE_0_0_1 hE_0_0_2 hE_0_0_3 hE_0_10_2 hE_0_10_3 hE_1_3_1 hE_1_3_2 hE_1_3_3 hE_1_4_1 hE_1_4_2 hE_1_4_3 hE_1_7_1 hE_1_7_2 hE_1_7_3 hE_1_8_1 hE_1_8_2 hE_1_8_3 hE_1_13_1 hE_1_13_2 hE_1_13_3 hE_1_14_1 hE_1_14_2 hE_1_14_3 kz_0_2 kz_0_5 kz_0_6 kz_0_7 kz_0_8 kz_0_9 kz_0_11 kz_1_0 kz_1_1 kz_1_2 ex2 ey2 ey3
  have nf5 : fc_1 PRD (20, [0, 1, 27], [60, 5, 6, 1045, 5, 11, 1000, 1001, 1002, 0, 10, 1004, 1003, 1007, 1008]) ws (vs ++ [Value.int x, Value.int y]) := by
    refine ⟨nf_inA hl rfl, sgq_2025 ?_⟩
    · show cG7 (w_fi ws (n_v (vs ++ [Value.int x, Value.int y]) 0) 5) (w_fi ws (n_v (vs ++ [Value.int x, Value.int y]) 0) 11) (w_fi ws (n_v (vs ++ [Value.int x, Value.int y]) 1) 0) (w_fi ws (n_v (vs ++ [Value.int x, Value.int y]) 1) 1) (w_fi ws (n_v (vs ++ [Value.int x, Value.int y]) 1) 2) (w_ei ws (w_ar ws (n_v (vs ++ [Value.int x, Value.int y]) 0) 0)) (w_ei ws (w_ar ws (n_v (vs ++ [Value.int x, Value.int y]) 0) 10)) (w_ei ws (w_ar ws (n_v (vs ++ [Value.int x, Value.int y]) 1) 4)) (w_ei ws (w_ar ws (n_v (vs ++ [Value.int x, Value.int y]) 1) 3)) (w_ei ws (w_ar ws (n_v (vs ++ [Value.int x, Value.int y]) 1) 7)) (w_ei ws (w_ar ws (n_v (vs ++ [Value.int x, Value.int y]) 1) 8)) (v_iv (n_v (vs ++ [Value.int x, Value.int y]) 27))
      simp only [e_0, e_1, e_27]
      exact vc_Re_readGroup_5_5 (v_iv (n_v vs 3)) (v_iv (n_v vs 5)) (v_iv (n_v vs 8)) (v_iv (n_v vs 9)) (v_iv (n_v vs 14)) (v_iv (n_v vs 15)) (v_iv (n_v vs 23)) (v_iv (n_v vs 25)) (w_fi ws (n_v vs 0) 11) (w_fi ws (n_v vs 1) 2) (w_fi ws (n_v vs 0) 8) (w_fi ws (n_v vs 0) 6) (w_ei ws (w_ar ws (n_v vs 1) 14)) (w_ei ws (w_ar ws (n_v vs 1) 7)) (w_ei ws (w_ar ws (n_v vs 1) 8)) (w_fi ws (n_v vs 1) 0) (w_fi ws (n_v vs 1) 1) (w_fi ws (n_v vs 0) 2) (w_fi ws (n_v vs 0) 7) (w_fi ws (n_v vs 0) 9) (w_ei ws (w_ar ws (n_v vs 0) 0)) (w_fi ws (n_v vs 0) 5) (w_ei w1 (w_ar ws (n_v vs 1) 14)) (w_ei w1 (w_ar ws (n_v vs 1) 7)) (w_ei w1 (w_ar ws (n_v vs 1) 8)) (w_fi w1 (n_v vs 1) 0) (w_fi w1 (n_v vs 1) 1) (w_fi w1 (n_v vs 0) 2) (w_fi w1 (n_v vs 0) 7) (w_fi w1 (n_v vs 0) 9) (w_fi w1 (n_v vs 0) 6) (w_fi w1 (n_v vs 0) 8) (w_ei w1 (w_ar ws (n_v vs 0) 0)) (w_fi w1 (n_v vs 0) 5) (w_fi w2 (n_v vs 0) 11) (w_ei w2 (w_ar ws (n_v vs 1) 14)) (w_ei w2 (w_ar ws (n_v vs 1) 7)) (w_ei w2 (w_ar ws (n_v vs 1) 8)) (w_fi w2 (n_v vs 1) 0) (w_fi w2 (n_v vs 1) 1) (w_fi w2 (n_v vs 0) 2) (w_fi w2 (n_v vs 0) 7) (w_fi w2 (n_v vs 0) 9) (w_fi w2 (n_v vs 0) 6) (w_fi w2 (n_v vs 0) 8) (w_ei w2 (w_ar ws (n_v vs 0) 0)) (w_fi w2 (n_v vs 0) 5) (w_fi w3 (n_v vs 1) 2) (w_ei w3 (w_ar ws (n_v vs 0) 0)) (w_ei w3 (w_ar ws (n_v vs 0) 10)) (w_ei w3 (w_ar ws (n_v vs 1) 4)) (w_ei w3 (w_ar ws (n_v vs 1) 3)) (w_ei w3 (w_ar ws (n_v vs 1) 7)) (w_ei w3 (w_ar ws (n_v vs 1) 8)) (w_fi w3 (n_v vs 0) 5) (w_fi w3 (n_v vs 0) 11) (w_fi w3 (n_v vs 1) 0) (w_fi w3 (n_v vs 1) 1) (w_ei w3 (w_ar ws (n_v vs 1) 14)) (w_fi w3 (n_v vs 0) 2) (w_fi w3 (n_v vs 0) 7) (w_fi w3 (n_v vs 0) 9) (w_fi w3 (n_v vs 0) 6) (w_fi w3 (n_v vs 0) 8) (w_fi w1 (n_v vs 0) 11) (w_fi w1 (n_v vs 1) 2) (w_fi w2 (n_v vs 1) 2) (w_ei ws (w_ar ws (n_v vs 0) 10)) (w_ei w1 (w_ar ws (n_v vs 0) 10)) (w_ei w2 (w_ar ws (n_v vs 0) 10)) (w_ei ws (w_ar ws (n_v vs 1) 3)) (w_ei w1 (w_ar ws (n_v vs 1) 3)) (w_ei w2 (w_ar ws (n_v vs 1) 3)) (w_ei ws (w_ar ws (n_v vs 1) 4)) (w_ei w1 (w_ar ws (n_v vs 1) 4)) (w_ei w2 (w_ar ws (n_v vs 1) 4)) (w_ei ws (w_ar ws (n_v vs 1) 13)) (w_ei w1 (w_ar ws (n_v vs 1) 13)) (w_ei w2 (w_ar ws (n_v vs 1) 13)) (w_ei w3 (w_ar ws (n_v vs 1) 13)) (v_iv (Value.int x)) (v_iv (Value.int y)) k3 k5 k8 k9 k14 k15 k23 k25 d0 d1 g0 g1 g3 g4 g38 g55 f58 f67 f70 f79 fe_0_2_1 fe_0_5_1 fe_0_6_1 fe_0_7_1 fe_0_8_1 fe_0_9_1 fe_0_11_1 fe_1_0_1 fe_1_1_1 fe_1_2_1 fe_0_2_2 fe_0_5_2 fe_0_6_2 fe_0_7_2 fe_0_8_2 fe_0_9_2 fe_0_11_2 fe_1_0_2 fe_1_1_2 fe_1_2_2 fe_0_2_3 fe_0_5_3 fe_0_6_3 fe_0_7_3 fe_0_8_3 fe_0_9_3 fe_0_11_3 fe_1_0_3 fe_1_1_3 hE_0_0_1 hE_0_0_2 hE_0_0_3 hE_0_10_1 hE_0_10_2 hE_0_10_3 hE_1_3_1 hE_1_3_2 hE_1_3_3 hE_1_4_1 hE_1_4_2 hE_1_4_3 hE_1_7_1 hE_1_7_2 hE_1_7_3 hE_1_8_1 hE_1_8_2 hE_1_8_3 hE_1_13_1 hE_1_13_2 hE_1_13_3 hE_1_14_1 hE_1_14_2 hE_1_14_3 kz_0_2 kz_0_5 kz_0_6 kz_0_7 kz_0_8 kz_0_9 kz_0_11 kz_1_0 kz_1_1 kz_1_2 ex2 ey2
  have nf6 : fc_1 PRD (20, [2, 27], [30, 0, 1, 0, 0, -1, 0, 0]) ws (vs ++ [Value.int x, Value.int y]) := by
    refine ⟨nf_inA hl rfl, sgq_201 ?_⟩
    · show 1 * v_iv (n_v (vs ++ [Value.int x, Value.int y]) 2) + ((-1) * v_iv (n_v (vs ++ [Value.int x, Value.int y]) 27) + 0) ≤ 0
      simp only [e_2, e_27]
      exact vc_Re_readGroup_5_6 (v_iv (n_v vs 2)) (v_iv (n_v vs 8)) (w_fi ws (n_v vs 0) 11) (w_fi ws (n_v vs 1) 2) (w_fi ws (n_v vs 0) 8) (w_fi ws (n_v vs 0) 6) (w_ei ws (w_ar ws (n_v vs 1) 14)) (w_ei ws (w_ar ws (n_v vs 1) 7)) (w_ei ws (w_ar ws (n_v vs 1) 8)) (w_fi ws (n_v vs 1) 0) (w_fi ws (n_v vs 1) 1) (w_fi ws (n_v vs 0) 2) (w_fi ws (n_v vs 0) 7) (w_fi ws (n_v vs 0) 9) (w_ei ws (w_ar ws (n_v vs 0) 0)) (w_fi ws (n_v vs 0) 5) (w_ei w1 (w_ar ws (n_v vs 1) 14)) (w_ei w1 (w_ar ws (n_v vs 1) 7)) (w_ei w1 (w_ar ws (n_v vs 1) 8)) (w_fi w1 (n_v vs 1) 0) (w_fi w1 (n_v vs 1) 1) (w_fi w1 (n_v vs 0) 2) (w_fi w1 (n_v vs 0) 7) (w_fi w1 (n_v vs 0) 9) (w_fi w1 (n_v vs 0) 6) (w_fi w1 (n_v vs 0) 8) (w_ei w1 (w_ar ws (n_v vs 0) 0)) (w_fi w1 (n_v vs 0) 5) (w_fi w2 (n_v vs 0) 11) (w_ei w2 (w_ar ws (n_v vs 1) 14)) (w_ei w2 (w_ar ws (n_v vs 1) 7)) (w_ei w2 (w_ar ws (n_v vs 1) 8)) (w_fi w2 (n_v vs 1) 0) (w_fi w2 (n_v vs 1) 1) (w_fi w2 (n_v vs 0) 2) (w_fi w2 (n_v vs 0) 7) (w_fi w2 (n_v vs 0) 9) (w_fi w2 (n_v vs 0) 6) (w_fi w2 (n_v vs 0) 8) (w_ei w2 (w_ar ws (n_v vs 0) 0)) (w_fi w2 (n_v vs 0) 5) (w_ei w3 (w_ar ws (n_v vs 0) 0)) (w_ei w3 (w_ar ws (n_v vs 0) 10)) (w_ei w3 (w_ar ws (n_v vs 1) 4)) (w_ei w3 (w_ar ws (n_v vs 1) 3)) (w_ei w3 (w_ar ws (n_v vs 1) 7)) (w_ei w3 (w_ar ws (n_v vs 1) 8)) (w_fi w3 (n_v vs 0) 5) (w_fi w3 (n_v vs 0) 11) (w_fi w3 (n_v vs 1) 0) (w_fi w3 (n_v vs 1) 1) (w_ei w3 (w_ar ws (n_v vs 1) 14)) (w_fi w3 (n_v vs 0) 2) (w_fi w3 (n_v vs 0) 7) (w_fi w3 (n_v vs 0) 9) (w_fi w3 (n_v vs 0) 6) (w_fi w3 (n_v vs 0) 8) (w_fi w1 (n_v vs 0) 11) (w_fi w1 (n_v vs 1) 2) (w_fi w2 (n_v vs 1) 2) (w_ei w1 (w_ar ws (n_v vs 0) 10)) (w_ei w2 (w_ar ws (n_v vs 0) 10)) (w_ei ws (w_ar ws (n_v vs 1) 3)) (w_ei w1 (w_ar ws (n_v vs 1) 3)) (w_ei w2 (w_ar ws (n_v vs 1) 3)) (w_ei ws (w_ar ws (n_v vs 1) 4)) (w_ei w1 (w_ar ws (n_v vs 1) 4)) (w_ei w2 (w_ar ws (n_v vs 1) 4)) (w_ei ws (w_ar ws (n_v vs 1) 13)) (w_ei w1 (w_ar ws (n_v vs 1) 13)) (w_ei w2 (w_ar ws (n_v vs 1) 13)) (w_ei w3 (w_ar ws (n_v vs 1) 13)) (v_iv (Value.int y)) k2 k8 f9 f18 fe_0_2_1 fe_0_5_1 fe_0_6_1 fe_0_7_1 fe_0_8_1 fe_0_9_1 fe_0_11_1 fe_1_0_1 fe_1_1_1 fe_1_2_1 fe_0_2_2 fe_0_5_2 fe_0_6_2 fe_0_7_2 fe_0_8_2 fe_0_9_2 fe_1_0_2 fe_1_1_2 fe_1_2_2 fe_0_2_3 fe_0_5_3 fe_0_6_3 fe_0_7_3 fe_0_8_3 fe_0_9_3 fe_0_11_3 fe_1_0_3 fe_1_1_3 hE_0_0_1 hE_0_0_2 hE_0_0_3 hE_0_10_2 hE_0_10_3 hE_1_3_1 hE_1_3_2 hE_1_3_3 hE_1_4_1 hE_1_4_2 hE_1_4_3 hE_1_7_1 hE_1_7_2 hE_1_7_3 hE_1_8_1 hE_1_8_2 hE_1_8_3 hE_1_13_1 hE_1_13_2 hE_1_13_3 hE_1_14_1 hE_1_14_2 hE_1_14_3 kz_0_2 kz_0_5 kz_0_6 kz_0_7 kz_0_8 kz_0_9 kz_0_11 kz_1_0 kz_1_1 kz_1_2 ey2
  exact ⟨(fun _ h => (by cases h)), [Value.int x, Value.int y], ag_two hx hy, List.forall_mem_cons.mpr ⟨⟨show (20 : Nat) < 100 from by decide, nf0⟩, List.forall_mem_cons.mpr ⟨⟨show (20 : Nat) < 100 from by decide, nf1⟩, List.forall_mem_cons.mpr ⟨⟨show (20 : Nat) < 100 from by decide, nf2⟩, List.forall_mem_cons.mpr ⟨⟨show (20 : Nat) < 100 from by decide, nf3⟩, List.forall_mem_cons.mpr ⟨⟨show (20 : Nat) < 100 from by decide, nf4⟩, List.forall_mem_cons.mpr ⟨⟨show (20 : Nat) < 100 from by decide, nf5⟩, List.forall_mem_cons.mpr ⟨⟨show (20 : Nat) < 100 from by decide, nf6⟩, (fun _ h => (by cases h))⟩⟩⟩⟩⟩⟩⟩, (fun _ h => (by cases h))⟩
set_option maxHeartbeats 4000000 in
theorem vc_Re_readGroup_6_0 (x23 : Int) (x25 : Int) (x27 : Int) (x28 : Int) (x30 : Int) (depth_0 : Int) (groups_0o1 : Int) (kind_0 : Int) (tape_0 : Int → Int) (open_0 : Int → Int) (nameLength_0o1 : Int → Int) (name_0o1 : Int → Int) (tail_0o1 : Int → Int) (head_0o1 : Int → Int) (end_0 : Int) (nodes_0o1 : Int) (edges_0o1 : Int) (fault_0 : Int) (number_0 : Int) (next_0 : Int) (begin_0 : Int) (faultPlace_0 : Int) (k23 : 1 ≤ x23 ∧ x23 ≤ 8) (k25 : 1 ≤ x25 ∧ x25 ≤ 4) (k27 : 0 ≤ x27 ∧ x27 ≤ 2000) (k28 : 123 ≤ x28 ∧ x28 ≤ 123) (k30 : 1 ≤ x30 ∧ x30 ≤ 1) (g0 : x25 = depth_0) (g1 : x23 = groups_0o1) (g6 : x28 = kind_0) (f7 : cG7 (end_0) (depth_0) (nodes_0o1) (edges_0o1) (groups_0o1) (tape_0) (open_0) (nameLength_0o1) (name_0o1) (tail_0o1) (head_0o1) (x27)) (f12 : fault_0 = 0) (f17 : TKC (end_0) (next_0) (kind_0) (begin_0) (number_0) (tape_0) (x27)) (kz_0_2 : (-1) ≤ fault_0 ∧ fault_0 ≤ 5) (kz_0_3 : (-1) ≤ faultPlace_0 ∧ faultPlace_0 ≤ 2000) (kz_0_5 : 0 ≤ end_0 ∧ end_0 ≤ 2000) (kz_0_6 : 0 ≤ next_0 ∧ next_0 ≤ 2000) (kz_0_7 : (-128) ≤ kind_0 ∧ kind_0 ≤ 127) (kz_0_8 : 0 ≤ begin_0 ∧ begin_0 ≤ 2000) (kz_0_9 : (-176) ≤ number_0 ∧ number_0 ≤ 1000000) (kz_0_11 : 0 ≤ depth_0 ∧ depth_0 ≤ 4) (kz_1_0 : 0 ≤ nodes_0o1 ∧ nodes_0o1 ≤ 24) (kz_1_1 : 0 ≤ edges_0o1 ∧ edges_0o1 ≤ 48) (kz_1_2 : 0 ≤ groups_0o1 ∧ groups_0o1 ≤ 8) : cO0 (end_0) (next_0) (depth_0) (fault_0) (faultPlace_0) (nodes_0o1) (edges_0o1) (groups_0o1) (tape_0) (open_0) (nameLength_0o1) (name_0o1) (tail_0o1) (head_0o1) (x30) := by
  first | subst g0 | skip
  first | subst g1 | skip
  first | subst g6 | skip
  first
    | exact cO0_f ‹FSY _ _ _ _› (by omega) (by omega) (by omega)
    | exact cO0_t (g7_go ‹TKC _ _ _ _ _ _ _› ‹cG7 _ _ _ _ _ _ _ _ _ _ _ _› (by omega) rfl) (by omega) (by omega)
set_option maxHeartbeats 4000000 in
theorem vc_Re_readGroup_6_1 (x2 : Int) (x27 : Int) (next_0 : Int) (k2 : 0 ≤ x2 ∧ x2 ≤ 2000) (k27 : 0 ≤ x27 ∧ x27 ≤ 2000) (f8 : 1 * x2 + ((-1) * x27 + 0) ≤ 0) (f18 : 1 * x27 + ((-1) * next_0 + 0) ≤ 0) (kz_0_6 : 0 ≤ next_0 ∧ next_0 ≤ 2000) : 1 * x2 + ((-1) * next_0 + 0) ≤ 0 := by
  first
    | omega
  
def o_Re_readGroup_6 : or_T := (177, 31, [(0, (2, 0, 0, [8])), (1, (2, 0, 0, [164])), (2, (0, 0, 2000, [])), (23, (0, 1, 8, [])), (25, (0, 1, 4, [])), (27, (0, 0, 2000, [])), (28, (0, 123, 123, [])), (30, (0, 1, 1, []))], [(9, [25, 0], [11]), (9, [23, 1], [2]), (9, [28, 0], [7]), (20, [0, 1, 27], [60, 5, 6, 1045, 5, 11, 1000, 1001, 1002, 0, 10, 1004, 1003, 1007, 1008]), (20, [2, 27], [30, 0, 1, 0, 0, -1, 0, 0]), (20, [0], [50, 1, 0, 2, 1, 3, 2, 0, 2, 0, 0]), (20, [0, 27], [60, 5, 1, 1072, 5, 6, 7, 8, 9, 0]), (20, [27, 0], [30, 0, 1, 0, 0, -1, 1, 6])], [], [], [(20, [0, 1, 30], [60, 8, 6, 1063, 5, 6, 11, 2, 3, 1000, 1001, 1002, 0, 10, 1004, 1003, 1007, 1008]), (20, [2, 0], [30, 0, 1, 0, 0, -1, 1, 6])], [], [])
theorem oo_Re_readGroup_6 {kA : Nat → ClassId} : or_ok PRD kA GG o_Re_readGroup_6 := by
  refine or_mk fun A ta ws vs hD hth hl => ?_
  intro t0 r0 t1 r1 t2 k2 t23 k23 t25 k25 t27 k27 t28 k28 t30 k30 f0 f1 f6 f7 f8 f12 f17 f18
  replace f0 := shm_116 f0
  replace f1 := shm_120 f1
  replace f6 := shm_198 f6
  have g0 : v_iv (n_v vs 25) = w_fi ws (n_v vs 0) 11 := congrArg v_iv f0
  have g1 : v_iv (n_v vs 23) = w_fi ws (n_v vs 1) 2 := congrArg v_iv f1
  have g6 : v_iv (n_v vs 28) = w_fi ws (n_v vs 0) 7 := congrArg v_iv f6
  have kz_0_2 := fdq_97 hD hth r0
  have kz_0_3 := fdq_98 hD hth r0
  have kz_0_5 := fdq_207 hD hth r0
  have kz_0_6 := fdq_208 hD hth r0
  have kz_0_7 := fdq_297 hD hth r0
  have kz_0_8 := fdq_99 hD hth r0
  have kz_0_9 := fdq_296 hD hth r0
  have kz_0_11 := fdq_320 hD hth r0
  have kz_1_0 := fdq_73 hD hth r1
  have kz_1_1 := fdq_74 hD hth r1
  have kz_1_2 := fdq_206 hD hth r1
  have nf0 : fc_1 PRD (20, [0, 1, 30], [60, 8, 6, 1063, 5, 6, 11, 2, 3, 1000, 1001, 1002, 0, 10, 1004, 1003, 1007, 1008]) ws (vs) := ⟨nf_in hl rfl, sgq_2023 (vc_Re_readGroup_6_0 (v_iv (n_v vs 23)) (v_iv (n_v vs 25)) (v_iv (n_v vs 27)) (v_iv (n_v vs 28)) (v_iv (n_v vs 30)) (w_fi ws (n_v vs 0) 11) (w_fi ws (n_v vs 1) 2) (w_fi ws (n_v vs 0) 7) (w_ei ws (w_ar ws (n_v vs 0) 0)) (w_ei ws (w_ar ws (n_v vs 0) 10)) (w_ei ws (w_ar ws (n_v vs 1) 4)) (w_ei ws (w_ar ws (n_v vs 1) 3)) (w_ei ws (w_ar ws (n_v vs 1) 7)) (w_ei ws (w_ar ws (n_v vs 1) 8)) (w_fi ws (n_v vs 0) 5) (w_fi ws (n_v vs 1) 0) (w_fi ws (n_v vs 1) 1) (w_fi ws (n_v vs 0) 2) (w_fi ws (n_v vs 0) 9) (w_fi ws (n_v vs 0) 6) (w_fi ws (n_v vs 0) 8) (w_fi ws (n_v vs 0) 3) k23 k25 k27 k28 k30 g0 g1 g6 (shm_2025 f7) (shm_1985 f12) (shm_1532 f17) kz_0_2 kz_0_3 kz_0_5 kz_0_6 kz_0_7 kz_0_8 kz_0_9 kz_0_11 kz_1_0 kz_1_1 kz_1_2)⟩
  have nf1 : fc_1 PRD (20, [2, 0], [30, 0, 1, 0, 0, -1, 1, 6]) ws (vs) := ⟨nf_in hl rfl, sgq_1527 (vc_Re_readGroup_6_1 (v_iv (n_v vs 2)) (v_iv (n_v vs 27)) (w_fi ws (n_v vs 0) 6) k2 k27 (shm_201 f8) (shm_1527 f18) kz_0_6)⟩
  refine ⟨(fun _ h => (by cases h)), [], trivial, ?_, (fun _ h => (by cases h))⟩
  rw [List.append_nil]
  exact List.forall_mem_cons.mpr ⟨⟨show (20 : Nat) < 100 from by decide, nf0⟩, List.forall_mem_cons.mpr ⟨⟨show (20 : Nat) < 100 from by decide, nf1⟩, (fun _ h => (by cases h))⟩⟩
set_option maxHeartbeats 4000000 in
theorem vc_Re_readGroup_7_0 (x26 : Int) (x27 : Int) (x28 : Int) (x29 : Int) (x30 : Int) (depth_0 : Int) (groups_0o1 : Int) (kind_0 : Int) (tape_0 : Int → Int) (open_0 : Int → Int) (nameLength_0o1 : Int → Int) (name_0o1 : Int → Int) (tail_0o1 : Int → Int) (head_0o1 : Int → Int) (end_0 : Int) (nodes_0o1 : Int) (edges_0o1 : Int) (number_0 : Int) (next_0 : Int) (begin_0 : Int) (k26 : (-2147483648) ≤ x26 ∧ x26 ≤ 1000000) (k27 : 0 ≤ x27 ∧ x27 ≤ 2000) (k28 : (-128) ≤ x28 ∧ x28 ≤ 127) (k29 : 123 ≤ x29 ∧ x29 ≤ 123) (k30 : 1 ≤ x30 ∧ x30 ≤ 1) (f5 : x28 ≠ x29) (g6 : x28 = kind_0) (f7 : cG7 (end_0) (depth_0) (nodes_0o1) (edges_0o1) (groups_0o1) (tape_0) (open_0) (nameLength_0o1) (name_0o1) (tail_0o1) (head_0o1) (x27)) (f13 : (1 * kind_0 + 0 ≤ 3) ∨ (1 * number_0 + ((-1) * x26 + 0) ≤ 0)) (f14 : (1 * kind_0 + 0 ≤ 3) ∨ ((-1) * number_0 + (1 * x26 + 0) ≤ 0)) (f15 : ((-1) * kind_0 + 0 ≤ (-3)) ∨ (1 * next_0 + ((-1) * begin_0 + (2000 * kind_0 + 0)) ≤ 4008)) (f16 : 1 * begin_0 + ((-1) * next_0 + 0) ≤ 0) (f17 : TKC (end_0) (next_0) (kind_0) (begin_0) (number_0) (tape_0) (x27)) (kz_0_5 : 0 ≤ end_0 ∧ end_0 ≤ 2000) (kz_0_6 : 0 ≤ next_0 ∧ next_0 ≤ 2000) (kz_0_7 : (-128) ≤ kind_0 ∧ kind_0 ≤ 127) (kz_0_8 : 0 ≤ begin_0 ∧ begin_0 ≤ 2000) (kz_0_9 : (-176) ≤ number_0 ∧ number_0 ≤ 1000000) (kz_0_11 : 0 ≤ depth_0 ∧ depth_0 ≤ 4) (kz_1_0 : 0 ≤ nodes_0o1 ∧ nodes_0o1 ≤ 24) (kz_1_1 : 0 ≤ edges_0o1 ∧ edges_0o1 ≤ 48) (kz_1_2 : 0 ≤ groups_0o1 ∧ groups_0o1 ≤ 8) : FSY (end_0) (begin_0) (tape_0) (x30) := by
  exact fsy_of (g7_f ‹TKC _ _ _ _ _ _ _› ‹cG7 _ _ _ _ _ _ _ _ _ _ _ _› (by omega)) (by omega)
def o_Re_readGroup_7 : or_T := (166, 31, [(0, (2, 0, 0, [8])), (1, (2, 0, 0, [164])), (26, (0, -2147483648, 1000000, [])), (27, (0, 0, 2000, [])), (28, (0, -128, 127, [])), (29, (0, 123, 123, [])), (30, (0, 1, 1, []))], [(7, [28, 29], [1]), (9, [28, 0], [7]), (20, [0, 1, 27], [60, 5, 6, 1045, 5, 11, 1000, 1001, 1002, 0, 10, 1004, 1003, 1007, 1008]), (20, [0, 0, 26], [31, 1, 3, 1, 1, 7, 0, 1, 1, 9, -1, 0, 0]), (20, [0, 0, 26], [31, 1, 3, 1, 1, 7, 0, -1, 1, 9, 1, 0, 0]), (20, [0, 0, 0, 0], [31, 1, -3, -1, 1, 7, 4008, 1, 1, 6, -1, 1, 8, 2000, 1, 7]), (20, [0, 0], [30, 0, 1, 1, 8, -1, 1, 6]), (20, [0, 27], [60, 5, 1, 1072, 5, 6, 7, 8, 9, 0])], [], [], [(20, [0, 30], [60, 2, 1, 1078, 5, 8, 0])], [], [])
theorem oo_Re_readGroup_7 {kA : Nat → ClassId} : or_ok PRD kA GG o_Re_readGroup_7 := by
  refine or_mk fun A ta ws vs hD hth hl => ?_
  intro t0 r0 t1 r1 t26 k26 t27 k27 t28 k28 t29 k29 t30 k30 f5 f6 f7 f13 f14 f15 f16 f17
  replace f6 := shm_198 f6
  have g6 : v_iv (n_v vs 28) = w_fi ws (n_v vs 0) 7 := congrArg v_iv f6
  have kz_0_5 := fdq_207 hD hth r0
  have kz_0_6 := fdq_208 hD hth r0
  have kz_0_7 := fdq_297 hD hth r0
  have kz_0_8 := fdq_99 hD hth r0
  have kz_0_9 := fdq_296 hD hth r0
  have kz_0_11 := fdq_320 hD hth r0
  have kz_1_0 := fdq_73 hD hth r1
  have kz_1_1 := fdq_74 hD hth r1
  have kz_1_2 := fdq_206 hD hth r1
  have nf0 : fc_1 PRD (20, [0, 30], [60, 2, 1, 1078, 5, 8, 0]) ws (vs) := ⟨nf_in hl rfl, sgq_1988 (vc_Re_readGroup_7_0 (v_iv (n_v vs 26)) (v_iv (n_v vs 27)) (v_iv (n_v vs 28)) (v_iv (n_v vs 29)) (v_iv (n_v vs 30)) (w_fi ws (n_v vs 0) 11) (w_fi ws (n_v vs 1) 2) (w_fi ws (n_v vs 0) 7) (w_ei ws (w_ar ws (n_v vs 0) 0)) (w_ei ws (w_ar ws (n_v vs 0) 10)) (w_ei ws (w_ar ws (n_v vs 1) 4)) (w_ei ws (w_ar ws (n_v vs 1) 3)) (w_ei ws (w_ar ws (n_v vs 1) 7)) (w_ei ws (w_ar ws (n_v vs 1) 8)) (w_fi ws (n_v vs 0) 5) (w_fi ws (n_v vs 1) 0) (w_fi ws (n_v vs 1) 1) (w_fi ws (n_v vs 0) 9) (w_fi ws (n_v vs 0) 6) (w_fi ws (n_v vs 0) 8) k26 k27 k28 k29 k30 (shm_40 f5) g6 (shm_2025 f7) (shm_1528 f13) (shm_1529 f14) (shm_1530 f15) (shm_1531 f16) (shm_1532 f17) kz_0_5 kz_0_6 kz_0_7 kz_0_8 kz_0_9 kz_0_11 kz_1_0 kz_1_1 kz_1_2)⟩
  refine ⟨(fun _ h => (by cases h)), [], trivial, ?_, (fun _ h => (by cases h))⟩
  rw [List.append_nil]
  exact List.forall_mem_cons.mpr ⟨⟨show (20 : Nat) < 100 from by decide, nf0⟩, (fun _ h => (by cases h))⟩
set_option maxHeartbeats 4000000 in
theorem vc_Re_readGroup_8_0 (x23 : Int) (x25 : Int) (x28 : Int) (x30 : Int) (x31 : Int) (x32 : Int) (kind_0 : Int) (depth_0 : Int) (groups_0o1 : Int) (tape_0 : Int → Int) (end_0 : Int) (begin_0 : Int) (open_0 : Int → Int) (nameLength_0o1 : Int → Int) (name_0o1 : Int → Int) (tail_0o1 : Int → Int) (head_0o1 : Int → Int) (nodes_0o1 : Int) (edges_0o1 : Int) (next_0 : Int) (fault_0 : Int) (faultPlace_0 : Int) (k23 : 1 ≤ x23 ∧ x23 ≤ 8) (k25 : 1 ≤ x25 ∧ x25 ≤ 4) (k28 : (-128) ≤ x28 ∧ x28 ≤ 127) (k30 : 1 ≤ x30 ∧ x30 ≤ 1) (k31 : 0 ≤ x31 ∧ x31 ≤ 0) (k32 : 0 ≤ x32 ∧ x32 ≤ 0) (g0 : x28 = kind_0) (g1 : x25 = depth_0) (g2 : x23 = groups_0o1) (f7 : FSY (end_0) (begin_0) (tape_0) (x30)) (f19 : (x31 = 0) ∧ ((fault_0 = x30) ∧ (faultPlace_0 = begin_0))) (kz_0_2 : (-1) ≤ fault_0 ∧ fault_0 ≤ 5) (kz_0_3 : (-1) ≤ faultPlace_0 ∧ faultPlace_0 ≤ 2000) (kz_0_5 : 0 ≤ end_0 ∧ end_0 ≤ 2000) (kz_0_6 : 0 ≤ next_0 ∧ next_0 ≤ 2000) (kz_0_7 : (-128) ≤ kind_0 ∧ kind_0 ≤ 127) (kz_0_8 : 0 ≤ begin_0 ∧ begin_0 ≤ 2000) (kz_0_11 : 0 ≤ depth_0 ∧ depth_0 ≤ 4) (kz_1_0 : 0 ≤ nodes_0o1 ∧ nodes_0o1 ≤ 24) (kz_1_1 : 0 ≤ edges_0o1 ∧ edges_0o1 ≤ 48) (kz_1_2 : 0 ≤ groups_0o1 ∧ groups_0o1 ≤ 8) : cO0 (end_0) (next_0) (depth_0) (fault_0) (faultPlace_0) (nodes_0o1) (edges_0o1) (groups_0o1) (tape_0) (open_0) (nameLength_0o1) (name_0o1) (tail_0o1) (head_0o1) (x32) := by
  first | subst g0 | skip
  first | subst g1 | skip
  first | subst g2 | skip
  first
    | exact cO0_f ‹FSY _ _ _ _› (by omega) (by omega) (by omega)
    | exact cO0_t (g7_go ‹TKC _ _ _ _ _ _ _› ‹cG7 _ _ _ _ _ _ _ _ _ _ _ _› (by omega) rfl) (by omega) (by omega)
set_option maxHeartbeats 4000000 in
theorem vc_Re_readGroup_8_1 (x2 : Int) (x27 : Int) (next_0 : Int) (k2 : 0 ≤ x2 ∧ x2 ≤ 2000) (k27 : 0 ≤ x27 ∧ x27 ≤ 2000) (f9 : 1 * x2 + ((-1) * x27 + 0) ≤ 0) (f18 : 1 * x27 + ((-1) * next_0 + 0) ≤ 0) (kz_0_6 : 0 ≤ next_0 ∧ next_0 ≤ 2000) : 1 * x2 + ((-1) * next_0 + 0) ≤ 0 := by
  first
    | omega
  
def o_Re_readGroup_8 : or_T := (177, 33, [(0, (2, 0, 0, [8])), (1, (2, 0, 0, [164])), (2, (0, 0, 2000, [])), (23, (0, 1, 8, [])), (25, (0, 1, 4, [])), (27, (0, 0, 2000, [])), (28, (0, -128, 127, [])), (30, (0, 1, 1, [])), (31, (0, 0, 0, [])), (32, (0, 0, 0, []))], [(9, [28, 0], [7]), (9, [25, 0], [11]), (9, [23, 1], [2]), (20, [0, 30], [60, 2, 1, 1078, 5, 8, 0]), (20, [2, 27], [30, 0, 1, 0, 0, -1, 0, 0]), (20, [27, 0], [30, 0, 1, 0, 0, -1, 1, 6]), (20, [31, 0, 30], [50, 3, 0, 1002, 1003, 1008, 2, 6, 1, 2, 1, 0, 0, 0, 2, 7, 1, 3, 2, 1, 2, 1, 2, 1, 3, 2, 1, 3, 2, 1, 8])], [], [], [(20, [0, 1, 32], [60, 8, 6, 1063, 5, 6, 11, 2, 3, 1000, 1001, 1002, 0, 10, 1004, 1003, 1007, 1008]), (20, [2, 0], [30, 0, 1, 0, 0, -1, 1, 6])], [], [])
theorem oo_Re_readGroup_8 {kA : Nat → ClassId} : or_ok PRD kA GG o_Re_readGroup_8 := by
  refine or_mk fun A ta ws vs hD hth hl => ?_
  intro t0 r0 t1 r1 t2 k2 t23 k23 t25 k25 t27 k27 t28 k28 t30 k30 t31 k31 t32 k32 f0 f1 f2 f7 f9 f18 f19
  replace f0 := shm_198 f0
  replace f1 := shm_116 f1
  replace f2 := shm_120 f2
  have g0 : v_iv (n_v vs 28) = w_fi ws (n_v vs 0) 7 := congrArg v_iv f0
  have g1 : v_iv (n_v vs 25) = w_fi ws (n_v vs 0) 11 := congrArg v_iv f1
  have g2 : v_iv (n_v vs 23) = w_fi ws (n_v vs 1) 2 := congrArg v_iv f2
  have kz_0_2 := fdq_97 hD hth r0
  have kz_0_3 := fdq_98 hD hth r0
  have kz_0_5 := fdq_207 hD hth r0
  have kz_0_6 := fdq_208 hD hth r0
  have kz_0_7 := fdq_297 hD hth r0
  have kz_0_8 := fdq_99 hD hth r0
  have kz_0_11 := fdq_320 hD hth r0
  have kz_1_0 := fdq_73 hD hth r1
  have kz_1_1 := fdq_74 hD hth r1
  have kz_1_2 := fdq_206 hD hth r1
  have nf0 : fc_1 PRD (20, [0, 1, 32], [60, 8, 6, 1063, 5, 6, 11, 2, 3, 1000, 1001, 1002, 0, 10, 1004, 1003, 1007, 1008]) ws (vs) := ⟨nf_in hl rfl, sgq_2023 (vc_Re_readGroup_8_0 (v_iv (n_v vs 23)) (v_iv (n_v vs 25)) (v_iv (n_v vs 28)) (v_iv (n_v vs 30)) (v_iv (n_v vs 31)) (v_iv (n_v vs 32)) (w_fi ws (n_v vs 0) 7) (w_fi ws (n_v vs 0) 11) (w_fi ws (n_v vs 1) 2) (w_ei ws (w_ar ws (n_v vs 0) 0)) (w_fi ws (n_v vs 0) 5) (w_fi ws (n_v vs 0) 8) (w_ei ws (w_ar ws (n_v vs 0) 10)) (w_ei ws (w_ar ws (n_v vs 1) 4)) (w_ei ws (w_ar ws (n_v vs 1) 3)) (w_ei ws (w_ar ws (n_v vs 1) 7)) (w_ei ws (w_ar ws (n_v vs 1) 8)) (w_fi ws (n_v vs 1) 0) (w_fi ws (n_v vs 1) 1) (w_fi ws (n_v vs 0) 6) (w_fi ws (n_v vs 0) 2) (w_fi ws (n_v vs 0) 3) k23 k25 k28 k30 k31 k32 g0 g1 g2 (shm_1988 f7) (shm_451 f19) kz_0_2 kz_0_3 kz_0_5 kz_0_6 kz_0_7 kz_0_8 kz_0_11 kz_1_0 kz_1_1 kz_1_2)⟩
  have nf1 : fc_1 PRD (20, [2, 0], [30, 0, 1, 0, 0, -1, 1, 6]) ws (vs) := ⟨nf_in hl rfl, sgq_1527 (vc_Re_readGroup_8_1 (v_iv (n_v vs 2)) (v_iv (n_v vs 27)) (w_fi ws (n_v vs 0) 6) k2 k27 (shm_201 f9) (shm_1527 f18) kz_0_6)⟩
  refine ⟨(fun _ h => (by cases h)), [], trivial, ?_, (fun _ h => (by cases h))⟩
  rw [List.append_nil]
  exact List.forall_mem_cons.mpr ⟨⟨show (20 : Nat) < 100 from by decide, nf0⟩, List.forall_mem_cons.mpr ⟨⟨show (20 : Nat) < 100 from by decide, nf1⟩, (fun _ h => (by cases h))⟩⟩
set_option maxHeartbeats 4000000 in
theorem vc_Re_readGroup_9_0 (x8 : Int) (x9 : Int) (x10 : Int) (depth_0 : Int) (groups_0o1 : Int) (tape_0 : Int → Int) (open_0 : Int → Int) (nameLength_0o1 : Int → Int) (name_0o1 : Int → Int) (tail_0o1 : Int → Int) (head_0o1 : Int → Int) (end_0 : Int) (nodes_0o1 : Int) (edges_0o1 : Int) (kind_0 : Int) (number_0 : Int) (next_0 : Int) (begin_0 : Int) (k8 : 0 ≤ x8 ∧ x8 ≤ 2000) (k9 : 0 ≤ x9 ∧ x9 ≤ 0) (k10 : 1 ≤ x10 ∧ x10 ≤ 1) (f2 : x9 = 0) (f3 : cG5 (end_0) (depth_0) (nodes_0o1) (edges_0o1) (groups_0o1) (tape_0) (open_0) (nameLength_0o1) (name_0o1) (tail_0o1) (head_0o1) (x8)) (f12 : TKC (end_0) (next_0) (kind_0) (begin_0) (number_0) (tape_0) (x8)) (f15 : CNM (kind_0) (next_0) (begin_0) (tape_0) (x9)) (kz_0_5 : 0 ≤ end_0 ∧ end_0 ≤ 2000) (kz_0_6 : 0 ≤ next_0 ∧ next_0 ≤ 2000) (kz_0_7 : (-128) ≤ kind_0 ∧ kind_0 ≤ 127) (kz_0_8 : 0 ≤ begin_0 ∧ begin_0 ≤ 2000) (kz_0_9 : (-176) ≤ number_0 ∧ number_0 ≤ 1000000) (kz_0_11 : 0 ≤ depth_0 ∧ depth_0 ≤ 4) (kz_1_0 : 0 ≤ nodes_0o1 ∧ nodes_0o1 ≤ 24) (kz_1_1 : 0 ≤ edges_0o1 ∧ edges_0o1 ≤ 48) (kz_1_2 : 0 ≤ groups_0o1 ∧ groups_0o1 ≤ 8) : FSY (end_0) (begin_0) (tape_0) (x10) := by
  exact fsy_of (n5_f ‹TKC _ _ _ _ _ _ _› ‹cG5 _ _ _ _ _ _ _ _ _ _ _ _› (cnm_f ‹CNM _ _ _ _ _› (by omega))) (by omega)
def o_Re_readGroup_9 : or_T := (39, 11, [(0, (2, 0, 0, [8])), (1, (2, 0, 0, [164])), (8, (0, 0, 2000, [])), (9, (0, 0, 0, [])), (10, (0, 1, 1, []))], [(8, [9], [0]), (20, [0, 1, 8], [60, 5, 6, 1044, 5, 11, 1000, 1001, 1002, 0, 10, 1004, 1003, 1007, 1008]), (20, [0, 8], [60, 5, 1, 1072, 5, 6, 7, 8, 9, 0]), (20, [0, 9], [60, 3, 1, 1079, 7, 6, 8, 0])], [], [], [(20, [0, 10], [60, 2, 1, 1078, 5, 8, 0])], [], [])
theorem oo_Re_readGroup_9 {kA : Nat → ClassId} : or_ok PRD kA GG o_Re_readGroup_9 := by
  refine or_mk fun A ta ws vs hD hth hl => ?_
  intro t0 r0 t1 r1 t8 k8 t9 k9 t10 k10 f2 f3 f12 f15
  have kz_0_5 := fdq_207 hD hth r0
  have kz_0_6 := fdq_208 hD hth r0
  have kz_0_7 := fdq_297 hD hth r0
  have kz_0_8 := fdq_99 hD hth r0
  have kz_0_9 := fdq_296 hD hth r0
  have kz_0_11 := fdq_320 hD hth r0
  have kz_1_0 := fdq_73 hD hth r1
  have kz_1_1 := fdq_74 hD hth r1
  have kz_1_2 := fdq_206 hD hth r1
  have nf0 : fc_1 PRD (20, [0, 10], [60, 2, 1, 1078, 5, 8, 0]) ws (vs) := ⟨nf_in hl rfl, sgq_1988 (vc_Re_readGroup_9_0 (v_iv (n_v vs 8)) (v_iv (n_v vs 9)) (v_iv (n_v vs 10)) (w_fi ws (n_v vs 0) 11) (w_fi ws (n_v vs 1) 2) (w_ei ws (w_ar ws (n_v vs 0) 0)) (w_ei ws (w_ar ws (n_v vs 0) 10)) (w_ei ws (w_ar ws (n_v vs 1) 4)) (w_ei ws (w_ar ws (n_v vs 1) 3)) (w_ei ws (w_ar ws (n_v vs 1) 7)) (w_ei ws (w_ar ws (n_v vs 1) 8)) (w_fi ws (n_v vs 0) 5) (w_fi ws (n_v vs 1) 0) (w_fi ws (n_v vs 1) 1) (w_fi ws (n_v vs 0) 7) (w_fi ws (n_v vs 0) 9) (w_fi ws (n_v vs 0) 6) (w_fi ws (n_v vs 0) 8) k8 k9 k10 (shm_192 f2) (shm_2024 f3) (shm_1532 f12) (shm_1837 f15) kz_0_5 kz_0_6 kz_0_7 kz_0_8 kz_0_9 kz_0_11 kz_1_0 kz_1_1 kz_1_2)⟩
  refine ⟨(fun _ h => (by cases h)), [], trivial, ?_, (fun _ h => (by cases h))⟩
  rw [List.append_nil]
  exact List.forall_mem_cons.mpr ⟨⟨show (20 : Nat) < 100 from by decide, nf0⟩, (fun _ h => (by cases h))⟩
set_option maxHeartbeats 4000000 in
theorem vc_Re_readGroup_10_0 (x3 : Int) (x5 : Int) (x10 : Int) (x11 : Int) (depth_0 : Int) (groups_0o1 : Int) (tape_0 : Int → Int) (end_0 : Int) (begin_0 : Int) (open_0 : Int → Int) (nameLength_0o1 : Int → Int) (name_0o1 : Int → Int) (tail_0o1 : Int → Int) (head_0o1 : Int → Int) (nodes_0o1 : Int) (edges_0o1 : Int) (next_0 : Int) (fault_0 : Int) (faultPlace_0 : Int) (k3 : 0 ≤ x3 ∧ x3 ≤ 7) (k5 : 0 ≤ x5 ∧ x5 ≤ 3) (k10 : 1 ≤ x10 ∧ x10 ≤ 1) (k11 : 0 ≤ x11 ∧ x11 ≤ 0) (g0 : x5 = depth_0) (g1 : x3 = groups_0o1) (f2 : FSY (end_0) (begin_0) (tape_0) (x10)) (f15 : (x11 = 0) ∧ ((fault_0 = x10) ∧ (faultPlace_0 = begin_0))) (kz_0_2 : (-1) ≤ fault_0 ∧ fault_0 ≤ 5) (kz_0_3 : (-1) ≤ faultPlace_0 ∧ faultPlace_0 ≤ 2000) (kz_0_5 : 0 ≤ end_0 ∧ end_0 ≤ 2000) (kz_0_6 : 0 ≤ next_0 ∧ next_0 ≤ 2000) (kz_0_8 : 0 ≤ begin_0 ∧ begin_0 ≤ 2000) (kz_0_11 : 0 ≤ depth_0 ∧ depth_0 ≤ 4) (kz_1_0 : 0 ≤ nodes_0o1 ∧ nodes_0o1 ≤ 24) (kz_1_1 : 0 ≤ edges_0o1 ∧ edges_0o1 ≤ 48) (kz_1_2 : 0 ≤ groups_0o1 ∧ groups_0o1 ≤ 8) : cO0 (end_0) (next_0) (depth_0) (fault_0) (faultPlace_0) (nodes_0o1) (edges_0o1) (groups_0o1) (tape_0) (open_0) (nameLength_0o1) (name_0o1) (tail_0o1) (head_0o1) (x11) := by
  first | subst g0 | skip
  first | subst g1 | skip
  first
    | exact cO0_f ‹FSY _ _ _ _› (by omega) (by omega) (by omega)
    | exact cO0_t (g7_go ‹TKC _ _ _ _ _ _ _› ‹cG7 _ _ _ _ _ _ _ _ _ _ _ _› (by omega) rfl) (by omega) (by omega)
set_option maxHeartbeats 4000000 in
theorem vc_Re_readGroup_10_1 (x2 : Int) (x8 : Int) (next_0 : Int) (k2 : 0 ≤ x2 ∧ x2 ≤ 2000) (k8 : 0 ≤ x8 ∧ x8 ≤ 2000) (f4 : 1 * x2 + ((-1) * x8 + 0) ≤ 0) (f12 : 1 * x8 + ((-1) * next_0 + 0) ≤ 0) (kz_0_6 : 0 ≤ next_0 ∧ next_0 ≤ 2000) : 1 * x2 + ((-1) * next_0 + 0) ≤ 0 := by
  first
    | omega
  
def o_Re_readGroup_10 : or_T := (42, 12, [(0, (2, 0, 0, [8])), (1, (2, 0, 0, [164])), (2, (0, 0, 2000, [])), (3, (0, 0, 7, [])), (5, (0, 0, 3, [])), (8, (0, 0, 2000, [])), (10, (0, 1, 1, [])), (11, (0, 0, 0, []))], [(9, [5, 0], [11]), (9, [3, 1], [2]), (20, [0, 10], [60, 2, 1, 1078, 5, 8, 0]), (20, [2, 8], [30, 0, 1, 0, 0, -1, 0, 0]), (20, [8, 0], [30, 0, 1, 0, 0, -1, 1, 6]), (20, [11, 0, 10], [50, 3, 0, 1002, 1003, 1008, 2, 6, 1, 2, 1, 0, 0, 0, 2, 7, 1, 3, 2, 1, 2, 1, 2, 1, 3, 2, 1, 3, 2, 1, 8])], [], [], [(20, [0, 1, 11], [60, 8, 6, 1063, 5, 6, 11, 2, 3, 1000, 1001, 1002, 0, 10, 1004, 1003, 1007, 1008]), (20, [2, 0], [30, 0, 1, 0, 0, -1, 1, 6])], [], [])
theorem oo_Re_readGroup_10 {kA : Nat → ClassId} : or_ok PRD kA GG o_Re_readGroup_10 := by
  refine or_mk fun A ta ws vs hD hth hl => ?_
  intro t0 r0 t1 r1 t2 k2 t3 k3 t5 k5 t8 k8 t10 k10 t11 k11 f0 f1 f2 f4 f12 f15
  replace f0 := shm_116 f0
  replace f1 := shm_120 f1
  have g0 : v_iv (n_v vs 5) = w_fi ws (n_v vs 0) 11 := congrArg v_iv f0
  have g1 : v_iv (n_v vs 3) = w_fi ws (n_v vs 1) 2 := congrArg v_iv f1
  have kz_0_2 := fdq_97 hD hth r0
  have kz_0_3 := fdq_98 hD hth r0
  have kz_0_5 := fdq_207 hD hth r0
  have kz_0_6 := fdq_208 hD hth r0
  have kz_0_8 := fdq_99 hD hth r0
  have kz_0_11 := fdq_320 hD hth r0
  have kz_1_0 := fdq_73 hD hth r1
  have kz_1_1 := fdq_74 hD hth r1
  have kz_1_2 := fdq_206 hD hth r1
  have nf0 : fc_1 PRD (20, [0, 1, 11], [60, 8, 6, 1063, 5, 6, 11, 2, 3, 1000, 1001, 1002, 0, 10, 1004, 1003, 1007, 1008]) ws (vs) := ⟨nf_in hl rfl, sgq_2023 (vc_Re_readGroup_10_0 (v_iv (n_v vs 3)) (v_iv (n_v vs 5)) (v_iv (n_v vs 10)) (v_iv (n_v vs 11)) (w_fi ws (n_v vs 0) 11) (w_fi ws (n_v vs 1) 2) (w_ei ws (w_ar ws (n_v vs 0) 0)) (w_fi ws (n_v vs 0) 5) (w_fi ws (n_v vs 0) 8) (w_ei ws (w_ar ws (n_v vs 0) 10)) (w_ei ws (w_ar ws (n_v vs 1) 4)) (w_ei ws (w_ar ws (n_v vs 1) 3)) (w_ei ws (w_ar ws (n_v vs 1) 7)) (w_ei ws (w_ar ws (n_v vs 1) 8)) (w_fi ws (n_v vs 1) 0) (w_fi ws (n_v vs 1) 1) (w_fi ws (n_v vs 0) 6) (w_fi ws (n_v vs 0) 2) (w_fi ws (n_v vs 0) 3) k3 k5 k10 k11 g0 g1 (shm_1988 f2) (shm_451 f15) kz_0_2 kz_0_3 kz_0_5 kz_0_6 kz_0_8 kz_0_11 kz_1_0 kz_1_1 kz_1_2)⟩
  have nf1 : fc_1 PRD (20, [2, 0], [30, 0, 1, 0, 0, -1, 1, 6]) ws (vs) := ⟨nf_in hl rfl, sgq_1527 (vc_Re_readGroup_10_1 (v_iv (n_v vs 2)) (v_iv (n_v vs 8)) (w_fi ws (n_v vs 0) 6) k2 k8 (shm_201 f4) (shm_1527 f12) kz_0_6)⟩
  refine ⟨(fun _ h => (by cases h)), [], trivial, ?_, (fun _ h => (by cases h))⟩
  rw [List.append_nil]
  exact List.forall_mem_cons.mpr ⟨⟨show (20 : Nat) < 100 from by decide, nf0⟩, List.forall_mem_cons.mpr ⟨⟨show (20 : Nat) < 100 from by decide, nf1⟩, (fun _ h => (by cases h))⟩⟩
set_option maxHeartbeats 4000000 in
theorem vc_Re_readGroup_11_0 (x5 : Int) (x7 : Int) (depth_0 : Int) (groups_0o1 : Int) (tail_0o1 : Int → Int) (head_0o1 : Int → Int) (nodes_0o1 : Int) (edges_0o1 : Int) (next_0 : Int) (tape_0 : Int → Int) (open_0 : Int → Int) (nameLength_0o1 : Int → Int) (name_0o1 : Int → Int) (end_0 : Int) (kind_0 : Int) (begin_0 : Int) (number_0 : Int) (k5 : 4 ≤ x5 ∧ x5 ≤ 4) (k7 : 3 ≤ x7 ∧ x7 ≤ 3) (g1 : x5 = depth_0) (f8 : cRGp (end_0) (next_0) (kind_0) (begin_0) (number_0) (depth_0) (nodes_0o1) (edges_0o1) (groups_0o1) (tape_0) (open_0) (nameLength_0o1) (name_0o1) (tail_0o1) (head_0o1)) (kz_0_5 : 0 ≤ end_0 ∧ end_0 ≤ 2000) (kz_0_6 : 0 ≤ next_0 ∧ next_0 ≤ 2000) (kz_0_7 : (-128) ≤ kind_0 ∧ kind_0 ≤ 127) (kz_0_8 : 0 ≤ begin_0 ∧ begin_0 ≤ 2000) (kz_0_9 : (-176) ≤ number_0 ∧ number_0 ≤ 1000000) (kz_0_11 : 0 ≤ depth_0 ∧ depth_0 ≤ 4) (kz_1_0 : 0 ≤ nodes_0o1 ∧ nodes_0o1 ≤ 24) (kz_1_1 : 0 ≤ edges_0o1 ∧ edges_0o1 ≤ 48) (kz_1_2 : 0 ≤ groups_0o1 ∧ groups_0o1 ≤ 8) : FSY (end_0) (begin_0) (tape_0) (x7) := by
  exact fsy_of (g0_f ‹cRGp _ _ _ _ _ _ _ _ _ _ _ _ _ _ _› (by omega)) (by omega)
def o_Re_readGroup_11 : or_T := (22, 8, [(0, (2, 0, 0, [8])), (1, (2, 0, 0, [164])), (5, (0, 4, 4, [])), (7, (0, 3, 3, []))], [(9, [5, 0], [11]), (20, [0, 1], [60, 9, 6, 1059, 5, 6, 7, 8, 9, 11, 1000, 1001, 1002, 0, 10, 1004, 1003, 1007, 1008])], [], [], [(20, [0, 7], [60, 2, 1, 1078, 5, 8, 0])], [], [])
theorem oo_Re_readGroup_11 {kA : Nat → ClassId} : or_ok PRD kA GG o_Re_readGroup_11 := by
  refine or_mk fun A ta ws vs hD hth hl => ?_
  intro t0 r0 t1 r1 t5 k5 t7 k7 f1 f8
  replace f1 := shm_116 f1
  have g1 : v_iv (n_v vs 5) = w_fi ws (n_v vs 0) 11 := congrArg v_iv f1
  have kz_0_5 := fdq_207 hD hth r0
  have kz_0_6 := fdq_208 hD hth r0
  have kz_0_7 := fdq_297 hD hth r0
  have kz_0_8 := fdq_99 hD hth r0
  have kz_0_9 := fdq_296 hD hth r0
  have kz_0_11 := fdq_320 hD hth r0
  have kz_1_0 := fdq_73 hD hth r1
  have kz_1_1 := fdq_74 hD hth r1
  have kz_1_2 := fdq_206 hD hth r1
  have nf0 : fc_1 PRD (20, [0, 7], [60, 2, 1, 1078, 5, 8, 0]) ws (vs) := ⟨nf_in hl rfl, sgq_1988 (vc_Re_readGroup_11_0 (v_iv (n_v vs 5)) (v_iv (n_v vs 7)) (w_fi ws (n_v vs 0) 11) (w_fi ws (n_v vs 1) 2) (w_ei ws (w_ar ws (n_v vs 1) 7)) (w_ei ws (w_ar ws (n_v vs 1) 8)) (w_fi ws (n_v vs 1) 0) (w_fi ws (n_v vs 1) 1) (w_fi ws (n_v vs 0) 6) (w_ei ws (w_ar ws (n_v vs 0) 0)) (w_ei ws (w_ar ws (n_v vs 0) 10)) (w_ei ws (w_ar ws (n_v vs 1) 4)) (w_ei ws (w_ar ws (n_v vs 1) 3)) (w_fi ws (n_v vs 0) 5) (w_fi ws (n_v vs 0) 7) (w_fi ws (n_v vs 0) 8) (w_fi ws (n_v vs 0) 9) k5 k7 g1 (shm_2022 f8) kz_0_5 kz_0_6 kz_0_7 kz_0_8 kz_0_9 kz_0_11 kz_1_0 kz_1_1 kz_1_2)⟩
  refine ⟨(fun _ h => (by cases h)), [], trivial, ?_, (fun _ h => (by cases h))⟩
  rw [List.append_nil]
  exact List.forall_mem_cons.mpr ⟨⟨show (20 : Nat) < 100 from by decide, nf0⟩, (fun _ h => (by cases h))⟩
set_option maxHeartbeats 4000000 in
theorem vc_Re_readGroup_12_0 (x3 : Int) (x5 : Int) (x7 : Int) (x8 : Int) (depth_0 : Int) (groups_0o1 : Int) (tape_0 : Int → Int) (end_0 : Int) (begin_0 : Int) (tail_0o1 : Int → Int) (head_0o1 : Int → Int) (nodes_0o1 : Int) (edges_0o1 : Int) (next_0 : Int) (open_0 : Int → Int) (nameLength_0o1 : Int → Int) (name_0o1 : Int → Int) (fault_0 : Int) (faultPlace_0 : Int) (k3 : 0 ≤ x3 ∧ x3 ≤ 7) (k5 : 4 ≤ x5 ∧ x5 ≤ 4) (k7 : 3 ≤ x7 ∧ x7 ≤ 3) (k8 : 0 ≤ x8 ∧ x8 ≤ 0) (g0 : x5 = depth_0) (g1 : x3 = groups_0o1) (f2 : FSY (end_0) (begin_0) (tape_0) (x7)) (f8 : (x8 = 0) ∧ ((fault_0 = x7) ∧ (faultPlace_0 = begin_0))) (kz_0_2 : (-1) ≤ fault_0 ∧ fault_0 ≤ 5) (kz_0_3 : (-1) ≤ faultPlace_0 ∧ faultPlace_0 ≤ 2000) (kz_0_5 : 0 ≤ end_0 ∧ end_0 ≤ 2000) (kz_0_6 : 0 ≤ next_0 ∧ next_0 ≤ 2000) (kz_0_8 : 0 ≤ begin_0 ∧ begin_0 ≤ 2000) (kz_0_11 : 0 ≤ depth_0 ∧ depth_0 ≤ 4) (kz_1_0 : 0 ≤ nodes_0o1 ∧ nodes_0o1 ≤ 24) (kz_1_1 : 0 ≤ edges_0o1 ∧ edges_0o1 ≤ 48) (kz_1_2 : 0 ≤ groups_0o1 ∧ groups_0o1 ≤ 8) : cO0 (end_0) (next_0) (depth_0) (fault_0) (faultPlace_0) (nodes_0o1) (edges_0o1) (groups_0o1) (tape_0) (open_0) (nameLength_0o1) (name_0o1) (tail_0o1) (head_0o1) (x8) := by
  first | subst g0 | skip
  first | subst g1 | skip
  first
    | exact cO0_f ‹FSY _ _ _ _› (by omega) (by omega) (by omega)
    | exact cO0_t (g7_go ‹TKC _ _ _ _ _ _ _› ‹cG7 _ _ _ _ _ _ _ _ _ _ _ _› (by omega) rfl) (by omega) (by omega)
set_option maxHeartbeats 4000000 in
theorem vc_Re_readGroup_12_1 (x2 : Int) (next_0 : Int) (k2 : 0 ≤ x2 ∧ x2 ≤ 2000) (f5 : 1 * next_0 + ((-1) * x2 + 0) ≤ 0) (f6 : (-1) * next_0 + (1 * x2 + 0) ≤ 0) (kz_0_6 : 0 ≤ next_0 ∧ next_0 ≤ 2000) : 1 * x2 + ((-1) * next_0 + 0) ≤ 0 := by
  first
    | omega
  
def o_Re_readGroup_12 : or_T := (25, 9, [(0, (2, 0, 0, [8])), (1, (2, 0, 0, [164])), (2, (0, 0, 2000, [])), (3, (0, 0, 7, [])), (5, (0, 4, 4, [])), (7, (0, 3, 3, [])), (8, (0, 0, 0, []))], [(9, [5, 0], [11]), (9, [3, 1], [2]), (20, [0, 7], [60, 2, 1, 1078, 5, 8, 0]), (20, [0, 2], [30, 0, 1, 1, 6, -1, 0, 0]), (20, [0, 2], [30, 0, -1, 1, 6, 1, 0, 0]), (20, [8, 0, 7], [50, 3, 0, 1002, 1003, 1008, 2, 6, 1, 2, 1, 0, 0, 0, 2, 7, 1, 3, 2, 1, 2, 1, 2, 1, 3, 2, 1, 3, 2, 1, 8])], [], [], [(20, [0, 1, 8], [60, 8, 6, 1063, 5, 6, 11, 2, 3, 1000, 1001, 1002, 0, 10, 1004, 1003, 1007, 1008]), (20, [2, 0], [30, 0, 1, 0, 0, -1, 1, 6])], [], [])
theorem oo_Re_readGroup_12 {kA : Nat → ClassId} : or_ok PRD kA GG o_Re_readGroup_12 := by
  refine or_mk fun A ta ws vs hD hth hl => ?_
  intro t0 r0 t1 r1 t2 k2 t3 k3 t5 k5 t7 k7 t8 k8 f0 f1 f2 f5 f6 f8
  replace f0 := shm_116 f0
  replace f1 := shm_120 f1
  have g0 : v_iv (n_v vs 5) = w_fi ws (n_v vs 0) 11 := congrArg v_iv f0
  have g1 : v_iv (n_v vs 3) = w_fi ws (n_v vs 1) 2 := congrArg v_iv f1
  have kz_0_2 := fdq_97 hD hth r0
  have kz_0_3 := fdq_98 hD hth r0
  have kz_0_5 := fdq_207 hD hth r0
  have kz_0_6 := fdq_208 hD hth r0
  have kz_0_8 := fdq_99 hD hth r0
  have kz_0_11 := fdq_320 hD hth r0
  have kz_1_0 := fdq_73 hD hth r1
  have kz_1_1 := fdq_74 hD hth r1
  have kz_1_2 := fdq_206 hD hth r1
  have nf0 : fc_1 PRD (20, [0, 1, 8], [60, 8, 6, 1063, 5, 6, 11, 2, 3, 1000, 1001, 1002, 0, 10, 1004, 1003, 1007, 1008]) ws (vs) := ⟨nf_in hl rfl, sgq_2023 (vc_Re_readGroup_12_0 (v_iv (n_v vs 3)) (v_iv (n_v vs 5)) (v_iv (n_v vs 7)) (v_iv (n_v vs 8)) (w_fi ws (n_v vs 0) 11) (w_fi ws (n_v vs 1) 2) (w_ei ws (w_ar ws (n_v vs 0) 0)) (w_fi ws (n_v vs 0) 5) (w_fi ws (n_v vs 0) 8) (w_ei ws (w_ar ws (n_v vs 1) 7)) (w_ei ws (w_ar ws (n_v vs 1) 8)) (w_fi ws (n_v vs 1) 0) (w_fi ws (n_v vs 1) 1) (w_fi ws (n_v vs 0) 6) (w_ei ws (w_ar ws (n_v vs 0) 10)) (w_ei ws (w_ar ws (n_v vs 1) 4)) (w_ei ws (w_ar ws (n_v vs 1) 3)) (w_fi ws (n_v vs 0) 2) (w_fi ws (n_v vs 0) 3) k3 k5 k7 k8 g0 g1 (shm_1988 f2) (shm_451 f8) kz_0_2 kz_0_3 kz_0_5 kz_0_6 kz_0_8 kz_0_11 kz_1_0 kz_1_1 kz_1_2)⟩
  have nf1 : fc_1 PRD (20, [2, 0], [30, 0, 1, 0, 0, -1, 1, 6]) ws (vs) := ⟨nf_in hl rfl, sgq_1527 (vc_Re_readGroup_12_1 (v_iv (n_v vs 2)) (w_fi ws (n_v vs 0) 6) k2 (shm_1523 f5) (shm_1524 f6) kz_0_6)⟩
  refine ⟨(fun _ h => (by cases h)), [], trivial, ?_, (fun _ h => (by cases h))⟩
  rw [List.append_nil]
  exact List.forall_mem_cons.mpr ⟨⟨show (20 : Nat) < 100 from by decide, nf0⟩, List.forall_mem_cons.mpr ⟨⟨show (20 : Nat) < 100 from by decide, nf1⟩, (fun _ h => (by cases h))⟩⟩
def n_Re_readGroup_an : List an_T := []
def t_Re_readGroup_ct : ct_L := [(1, 57, e_Re_advance), (1, 107, e_Re_isName), (1, 113, e_Re_fail), (348, 150, e_acp_94)]
set_option maxRecDepth 100000 in
theorem c_Re_readGroup {l : Launch} {D : va_G} {kA : Nat → ClassId} (h_Re_advance : ct_ok PRD l D kA GG y_Re_advance z_Re_advance e_Re_advance) (h_Re_fail : ct_ok PRD l D kA GG y_Re_fail z_Re_fail e_Re_fail) (h_Re_isName : ct_ok PRD l D kA GG y_Re_isName z_Re_isName e_Re_isName) : ct_ok PRD l D kA GG y_Re_readGroup z_Re_readGroup e_Re_readGroup := chk_all_ok (FT := [(9, 8, 0), (28, 8, 4), (35, 8, 6), (38, 8, 7), (41, 8, 8), (47, 8, 10), (51, 8, 11), (138, 3, 2), (141, 3, 11), (144, 3, 13), (147, 3, 12)]) (PT := [(51, 8, 11, .int), (138, 3, 2, .int)]) (CT := t_Re_readGroup_ct) (KT := []) (NT := []) (AN := n_Re_readGroup_an) (OT := [o_Re_readGroup_0, o_Re_readGroup_1, o_Re_readGroup_2, o_Re_readGroup_3, o_Re_readGroup_4, o_Re_readGroup_5, o_Re_readGroup_6, o_Re_readGroup_7, o_Re_readGroup_8, o_Re_readGroup_9, o_Re_readGroup_10, o_Re_readGroup_11, o_Re_readGroup_12]) 0 400 (List.forall_mem_cons.mpr ⟨oo_Re_readGroup_0, List.forall_mem_cons.mpr ⟨oo_Re_readGroup_1, List.forall_mem_cons.mpr ⟨oo_Re_readGroup_2, List.forall_mem_cons.mpr ⟨oo_Re_readGroup_3, List.forall_mem_cons.mpr ⟨oo_Re_readGroup_4, List.forall_mem_cons.mpr ⟨oo_Re_readGroup_5, List.forall_mem_cons.mpr ⟨oo_Re_readGroup_6, List.forall_mem_cons.mpr ⟨oo_Re_readGroup_7, List.forall_mem_cons.mpr ⟨oo_Re_readGroup_8, List.forall_mem_cons.mpr ⟨oo_Re_readGroup_9, List.forall_mem_cons.mpr ⟨oo_Re_readGroup_10, List.forall_mem_cons.mpr ⟨oo_Re_readGroup_11, List.forall_mem_cons.mpr ⟨oo_Re_readGroup_12, List.forall_mem_nil _⟩⟩⟩⟩⟩⟩⟩⟩⟩⟩⟩⟩⟩) (by decide +kernel) ⟨List.forall_mem_cons.mpr ⟨gf_Re_9, List.forall_mem_cons.mpr ⟨gf_Re_28, List.forall_mem_cons.mpr ⟨gf_Re_35, List.forall_mem_cons.mpr ⟨gf_Re_38, List.forall_mem_cons.mpr ⟨gf_Re_41, List.forall_mem_cons.mpr ⟨gf_Re_47, List.forall_mem_cons.mpr ⟨gf_Re_51, List.forall_mem_cons.mpr ⟨gf_Re_138, List.forall_mem_cons.mpr ⟨gf_Re_141, List.forall_mem_cons.mpr ⟨gf_Re_144, List.forall_mem_cons.mpr ⟨gf_Re_147, List.forall_mem_nil _⟩⟩⟩⟩⟩⟩⟩⟩⟩⟩⟩, List.forall_mem_cons.mpr ⟨pf_Re_51, List.forall_mem_cons.mpr ⟨pf_Re_138, List.forall_mem_nil _⟩⟩, List.forall_mem_cons.mpr ⟨cl_virtual (y := y_Re_advance) (ci := 8) rfl rfl ⟨_, _, rfl⟩ (by decide +kernel) h_Re_advance wm_645 wm_2 wm_642 wm_644 wv_1_0 ⟨by decide, by decide, by decide +kernel⟩ (by decide), List.forall_mem_cons.mpr ⟨cl_virtual (y := y_Re_isName) (ci := 8) rfl rfl ⟨_, _, rfl⟩ (by decide +kernel) h_Re_isName wm_726 wm_2 wm_723 wm_725 wv_1_4 ⟨by decide, by decide, by decide +kernel⟩ (by decide), List.forall_mem_cons.mpr ⟨cl_virtual (y := y_Re_fail) (ci := 8) rfl rfl ⟨_, _, rfl⟩ (by decide +kernel) h_Re_fail wm_731 wm_2 wm_728 wm_730 wv_1_5 ⟨by decide, by decide, by decide +kernel⟩ (by decide), List.forall_mem_cons.mpr ⟨cl_copy rfl rfl (by decide) (by decide) (by decide) wm_760 wm_750 wm_749 wm_15, List.forall_mem_nil _⟩⟩⟩⟩, List.forall_mem_nil _, List.forall_mem_nil _, GG_pl⟩ (by decide +kernel)
set_option maxHeartbeats 4000000 in
theorem vc_Mo_count_0_0 (x1 : Int) (all_0 : Int → Int) (now_0 : Int → Int) (latest_0 : Int → Int) (r_0 : Int) (k1 : 0 ≤ x1 ∧ x1 ≤ 3) (f0 : ROWS (all_0) (now_0) (latest_0)) (f1 : r_0 = ((16709 * x1) + (539 * now_0 (x1)))) : SGR (r_0) (all_0) := by
  exact rows_at (g := x1) ‹ROWS _ _ _› (by omega) (by omega) (by omega)
def o_Mo_count_0 : or_T := (81, 4, [(1, (0, 0, 3, []))], [(20, [0], [60, 0, 3, 198, 2, 3, 4]), (20, [0, 1], [50, 1, 1, 5, 3, 1, 3, 2, 0, 5, 4, 6, 6, 2, 0, 16709, 1, 1, 6, 2, 0, 539, 3, 0, 3, 1, 1])], [], [], [(20, [0], [60, 1, 1, 197, 5, 2])], [], [])
theorem oo_Mo_count_0 {kA : Nat → ClassId} : or_ok PRD kA GG o_Mo_count_0 := by
  refine or_mk fun A ta ws vs hD hth hl => ?_
  intro t1 k1 f0 f1
  have nf0 : fc_1 PRD (20, [0], [60, 1, 1, 197, 5, 2]) ws (vs) := ⟨nf_in hl rfl, sgq_1452 (vc_Mo_count_0_0 (v_iv (n_v vs 1)) (w_ei ws (w_ar ws (n_v vs 0) 2)) (w_ei ws (w_ar ws (n_v vs 0) 3)) (w_ei ws (w_ar ws (n_v vs 0) 4)) (w_fi ws (n_v vs 0) 5) k1 (shm_1230 f0) (shm_1037 f1))⟩
  refine ⟨(fun _ h => (by cases h)), [], trivial, ?_, (fun _ h => (by cases h))⟩
  rw [List.append_nil]
  exact List.forall_mem_cons.mpr ⟨⟨show (20 : Nat) < 100 from by decide, nf0⟩, (fun _ h => (by cases h))⟩
set_option maxHeartbeats 4000000 in
theorem vc_Mo_count_1_0 (x1 : Int) (all_0 : Int → Int) (now_0 : Int → Int) (latest_0 : Int → Int) (r_0 : Int) (k1 : 0 ≤ x1 ∧ x1 ≤ 3) (f0 : ROWS (all_0) (now_0) (latest_0)) (f1 : r_0 = ((16709 * x1) + (539 * now_0 (x1)))) : SGR (r_0) (all_0) := by
  exact rows_at (g := x1) ‹ROWS _ _ _› (by omega) (by omega) (by omega)
def o_Mo_count_1 : or_T := (91, 5, [(1, (0, 0, 3, []))], [(20, [0], [60, 0, 3, 198, 2, 3, 4]), (20, [0, 1], [50, 1, 1, 5, 3, 1, 3, 2, 0, 5, 4, 6, 6, 2, 0, 16709, 1, 1, 6, 2, 0, 539, 3, 0, 3, 1, 1])], [], [], [(20, [0], [60, 1, 1, 197, 5, 2])], [], [])
theorem oo_Mo_count_1 {kA : Nat → ClassId} : or_ok PRD kA GG o_Mo_count_1 := by
  refine or_mk fun A ta ws vs hD hth hl => ?_
  intro t1 k1 f0 f1
  have nf0 : fc_1 PRD (20, [0], [60, 1, 1, 197, 5, 2]) ws (vs) := ⟨nf_in hl rfl, sgq_1452 (vc_Mo_count_1_0 (v_iv (n_v vs 1)) (w_ei ws (w_ar ws (n_v vs 0) 2)) (w_ei ws (w_ar ws (n_v vs 0) 3)) (w_ei ws (w_ar ws (n_v vs 0) 4)) (w_fi ws (n_v vs 0) 5) k1 (shm_1230 f0) (shm_1037 f1))⟩
  refine ⟨(fun _ h => (by cases h)), [], trivial, ?_, (fun _ h => (by cases h))⟩
  rw [List.append_nil]
  exact List.forall_mem_cons.mpr ⟨⟨show (20 : Nat) < 100 from by decide, nf0⟩, (fun _ h => (by cases h))⟩
def n_Mo_count_an : List an_T := []
def t_Mo_count_ct : ct_L := [(0, 521, e_Mo_isPlace), (1, 401, e_Mo_edges), (1, 475, e_Mo_nodes), (1, 509, e_Mo_groups), (1, 527, e_Mo_take), (1, 668, e_Mo_blocks), (1, 689, e_Mo_plane), (1, 716, e_Mo_parts), (1, 719, e_Mo_strong)]
set_option maxRecDepth 100000 in
theorem c_Mo_count {l : Launch} {D : va_G} {kA : Nat → ClassId} (h_Mo_blocks : ct_ok PRD l D kA GG y_Mo_blocks z_Mo_blocks e_Mo_blocks) (h_Mo_edges : ct_ok PRD l D kA GG y_Mo_edges z_Mo_edges e_Mo_edges) (h_Mo_groups : ct_ok PRD l D kA GG y_Mo_groups z_Mo_groups e_Mo_groups) (h_Mo_isPlace : ct_ok PRD l D kA GG y_Mo_isPlace z_Mo_isPlace e_Mo_isPlace) (h_Mo_nodes : ct_ok PRD l D kA GG y_Mo_nodes z_Mo_nodes e_Mo_nodes) (h_Mo_parts : ct_ok PRD l D kA GG y_Mo_parts z_Mo_parts e_Mo_parts) (h_Mo_plane : ct_ok PRD l D kA GG y_Mo_plane z_Mo_plane e_Mo_plane) (h_Mo_strong : ct_ok PRD l D kA GG y_Mo_strong z_Mo_strong e_Mo_strong) (h_Mo_take : ct_ok PRD l D kA GG y_Mo_take z_Mo_take e_Mo_take) : ct_ok PRD l D kA GG y_Mo_count z_Mo_count e_Mo_count := chk_all_ok (FT := [(20, 13, 3), (23, 13, 4)]) (PT := []) (CT := t_Mo_count_ct) (KT := []) (NT := []) (AN := n_Mo_count_an) (OT := [o_Mo_count_0, o_Mo_count_1]) 0 208 (List.forall_mem_cons.mpr ⟨oo_Mo_count_0, List.forall_mem_cons.mpr ⟨oo_Mo_count_1, List.forall_mem_nil _⟩⟩) (by decide +kernel) ⟨List.forall_mem_cons.mpr ⟨gf_Mo_20, List.forall_mem_cons.mpr ⟨gf_Mo_23, List.forall_mem_nil _⟩⟩, List.forall_mem_nil _, List.forall_mem_cons.mpr ⟨cl_static (y := y_Mo_isPlace) h_Mo_isPlace wm_2978 wm_9 wm_2976 wm_2977 ⟨by decide, by decide, by decide +kernel⟩ (by decide), List.forall_mem_cons.mpr ⟨cl_virtual (y := y_Mo_edges) (ci := 13) rfl rfl ⟨_, _, rfl⟩ (by decide +kernel) h_Mo_edges wm_3037 wm_9 wm_3034 wm_3036 wv_13_6 ⟨by decide, by decide, by decide +kernel⟩ (by decide), List.forall_mem_cons.mpr ⟨cl_virtual (y := y_Mo_nodes) (ci := 13) rfl rfl ⟨_, _, rfl⟩ (by decide +kernel) h_Mo_nodes wm_3025 wm_9 wm_3022 wm_3024 wv_13_3 ⟨by decide, by decide, by decide +kernel⟩ (by decide), List.forall_mem_cons.mpr ⟨cl_virtual (y := y_Mo_groups) (ci := 13) rfl rfl ⟨_, _, rfl⟩ (by decide +kernel) h_Mo_groups wm_3070 wm_9 wm_3067 wm_3069 wv_13_14 ⟨by decide, by decide, by decide +kernel⟩ (by decide), List.forall_mem_cons.mpr ⟨cl_virtual (y := y_Mo_take) (ci := 13) rfl rfl ⟨_, _, rfl⟩ (by decide +kernel) h_Mo_take wm_3091 wm_9 wm_3088 wm_3090 wv_14_2 ⟨by decide, by decide, by decide +kernel⟩ (by decide), List.forall_mem_cons.mpr ⟨cl_virtual (y := y_Mo_blocks) (ci := 13) rfl rfl ⟨_, _, rfl⟩ (by decide +kernel) h_Mo_blocks wm_3155 wm_9 wm_3152 wm_3154 wv_14_14 ⟨by decide, by decide, by decide +kernel⟩ (by decide), List.forall_mem_cons.mpr ⟨cl_virtual (y := y_Mo_plane) (ci := 13) rfl rfl ⟨_, _, rfl⟩ (by decide +kernel) h_Mo_plane wm_3147 wm_9 wm_3144 wm_3146 wv_14_12 ⟨by decide, by decide, by decide +kernel⟩ (by decide), List.forall_mem_cons.mpr ⟨cl_virtual (y := y_Mo_parts) (ci := 13) rfl rfl ⟨_, _, rfl⟩ (by decide +kernel) h_Mo_parts wm_3283 wm_9 wm_3280 wm_3282 wv_16_11 ⟨by decide, by decide, by decide +kernel⟩ (by decide), List.forall_mem_cons.mpr ⟨cl_virtual (y := y_Mo_strong) (ci := 13) rfl rfl ⟨_, _, rfl⟩ (by decide +kernel) h_Mo_strong wm_3291 wm_9 wm_3288 wm_3290 wv_16_13 ⟨by decide, by decide, by decide +kernel⟩ (by decide), List.forall_mem_nil _⟩⟩⟩⟩⟩⟩⟩⟩⟩, List.forall_mem_nil _, List.forall_mem_nil _, GG_pl⟩ (by decide +kernel)

set_option maxHeartbeats 4000000 in
theorem vc_Mo_writeEdges_0_0 (x1 : Int) (x2 : Int) (texts_0 : Int) (k1 : 0 ≤ x1 ∧ x1 ≤ 99997888) (k2 : 0 ≤ x2 ∧ x2 ≤ 0) (f0 : 1 * texts_0 + ((-1) * x1 + 0) ≤ 0) (kz_0_170 : 0 ≤ texts_0 ∧ texts_0 ≤ 100000000) : 1 * texts_0 + ((-1) * x1 + ((-44) * x2 + 0)) ≤ 0 := by
  first | assumption | omega | grind
def o_Mo_writeEdges_0 : or_T := (2, 3, [(0, (2, 0, 0, [165])), (1, (0, 0, 99997888, [])), (2, (0, 0, 0, []))], [(20, [0, 1], [30, 0, 1, 1, 170, -1, 0, 0])], [], [], [(20, [0, 1, 2], [30, 0, 1, 1, 170, -1, 0, 0, -44, 0, 0]), (24, [0, 0], [])], [], [])
theorem oo_Mo_writeEdges_0 {kA : Nat → ClassId} : or_ok PRD kA GG o_Mo_writeEdges_0 := by
  refine or_mk fun A ta ws vs hD hth hl => ?_
  intro t0 r0 t1 k1 t2 k2 f0
  have kz_0_170 := fdq_11 hD hth r0
  have nf0 : fc_1 PRD (20, [0, 1, 2], [30, 0, 1, 1, 170, -1, 0, 0, -44, 0, 0]) ws (vs) := ⟨nf_in hl rfl, sgq_2026 (vc_Mo_writeEdges_0_0 (v_iv (n_v vs 1)) (v_iv (n_v vs 2)) (w_fi ws (n_v vs 0) 170) k1 k2 (shm_131 f0) kz_0_170)⟩
  have nf1 : fc_1 PRD (24, [0, 0], []) ws (vs) := by
    refine ⟨nf_in hl rfl, sgq_1 ?_⟩
    · show n_v vs 0 = n_v vs 0
      first | rfl | simp only [true_and]
  refine ⟨(fun _ h => (by cases h)), [], trivial, ?_, (fun _ h => (by cases h))⟩
  rw [List.append_nil]
  exact List.forall_mem_cons.mpr ⟨⟨show (20 : Nat) < 100 from by decide, nf0⟩, List.forall_mem_cons.mpr ⟨⟨show (24 : Nat) < 100 from by decide, nf1⟩, (fun _ h => (by cases h))⟩⟩
set_option maxHeartbeats 4000000 in
theorem vc_Mo_writeEdges_1_0 (x1 : Int) (x3 : Int) (x4 : Int) (all_0 : Int → Int) (r_0 : Int) (texts_0 : Int) (k1 : 0 ≤ x1 ∧ x1 ≤ 99997888) (k3 : 0 ≤ x3 ∧ x3 ≤ 48) (k4 : 0 ≤ x4 ∧ x4 ≤ 48) (d0 : x4 + 0 ≤ x3 ∧ x3 ≤ x4 + 4294967296) (f0 : x4 ≤ x3) (f1 : 1 * x4 + ((-1) * all_0 (r_0 + 1) + 0) ≤ 0) (f2 : (-1) * x4 + (1 * all_0 (r_0 + 1) + 0) ≤ 0) (f3 : 1 * texts_0 + ((-1) * x1 + ((-44) * x3 + 0)) ≤ 0) (kz_0_170 : 0 ≤ texts_0 ∧ texts_0 ≤ 100000000) : 1 * texts_0 + ((-1) * x1 + 0) ≤ 2112 := by
  first | assumption | omega | grind
def o_Mo_writeEdges_1 : or_T := (95, 5, [(0, (2, 0, 0, [165])), (1, (0, 0, 99997888, [])), (3, (0, 0, 48, [])), (4, (0, 0, 48, []))], [(7, [3, 4], [3]), (20, [4, 2], [30, 0, 1, 0, 0, -1, 3, 2005001]), (20, [4, 2], [30, 0, -1, 0, 0, 1, 3, 2005001]), (20, [2, 1, 3], [30, 0, 1, 1, 170, -1, 0, 0, -44, 0, 0]), (24, [0, 2], [])], [], [], [(20, [0, 1], [30, 2112, 1, 1, 170, -1, 0, 0])], [], [(3, 4, 0, 4294967296)])
theorem oo_Mo_writeEdges_1 {kA : Nat → ClassId} : or_ok PRD kA GG o_Mo_writeEdges_1 := by
  refine or_mk fun A ta ws vs hD hth hl => ?_
  intro t0 r0 t1 k1 t3 k3 t4 k4 d0 f0 f1 f2 f3 f4
  replace f1 := shm_121 f1
  replace f2 := shm_122 f2
  replace f3 := shm_2026 f3
  replace f4 := shm_5 f4
  have q2 : n_v vs 2 = n_v vs 0 := f4.symm
  simp only [q2] at f1 f2 f3
  have kz_0_170 := fdq_11 hD hth r0
  have nf0 : fc_1 PRD (20, [0, 1], [30, 2112, 1, 1, 170, -1, 0, 0]) ws (vs) := ⟨nf_in hl rfl, sgq_2027 (vc_Mo_writeEdges_1_0 (v_iv (n_v vs 1)) (v_iv (n_v vs 3)) (v_iv (n_v vs 4)) (w_ei ws (w_ar ws (n_v vs 0) 2)) (w_fi ws (n_v vs 0) 5) (w_fi ws (n_v vs 0) 170) k1 k3 k4 d0 (shm_2 f0) f1 f2 f3 kz_0_170)⟩
  refine ⟨(fun _ h => (by cases h)), [], trivial, ?_, (fun _ h => (by cases h))⟩
  rw [List.append_nil]
  exact List.forall_mem_cons.mpr ⟨⟨show (20 : Nat) < 100 from by decide, nf0⟩, (fun _ h => (by cases h))⟩
set_option maxHeartbeats 4000000 in
theorem vc_Mo_writeEdges_2_0 (x1 : Int) (x3 : Int) (x4 : Int) (x5 : Int) (all_0 : Int → Int) (r_0 : Int) (texts_0 : Int) (gx : Int) (k1 : 0 ≤ x1 ∧ x1 ≤ 99997888) (k3 : 0 ≤ x3 ∧ x3 ≤ 47) (k4 : 1 ≤ x4 ∧ x4 ≤ 48) (k5 : 0 ≤ x5 ∧ x5 ≤ 23) (d0 : x4 + (-4294967296) ≤ x3 ∧ x3 ≤ x4 + (-1)) (f0 : x5 = all_0 (((r_0 + 267) + x3))) (f1 : x3 < x4) (f2 : 1 * x4 + ((-1) * all_0 (r_0 + 1) + 0) ≤ 0) (f3 : (-1) * x4 + (1 * all_0 (r_0 + 1) + 0) ≤ 0) (f4 : 1 * texts_0 + ((-1) * x1 + ((-44) * x3 + 0)) ≤ 0) (kz_0_170 : 0 ≤ texts_0 ∧ texts_0 ≤ 100000000) (ex2 : gx = texts_0) (ex3 : 0 ≤ gx ∧ gx ≤ 99999992) : 1 * texts_0 + ((-1) * gx + 0) ≤ 0 := by
  first | assumption | omega | grind
set_option maxHeartbeats 4000000 in
theorem vc_Mo_writeEdges_2_1 (x1 : Int) (x3 : Int) (x4 : Int) (x5 : Int) (all_0 : Int → Int) (r_0 : Int) (texts_0 : Int) (gx : Int) (k1 : 0 ≤ x1 ∧ x1 ≤ 99997888) (k3 : 0 ≤ x3 ∧ x3 ≤ 47) (k4 : 1 ≤ x4 ∧ x4 ≤ 48) (k5 : 0 ≤ x5 ∧ x5 ≤ 23) (d0 : x4 + (-4294967296) ≤ x3 ∧ x3 ≤ x4 + (-1)) (f0 : x5 = all_0 (((r_0 + 267) + x3))) (f1 : x3 < x4) (f2 : 1 * x4 + ((-1) * all_0 (r_0 + 1) + 0) ≤ 0) (f3 : (-1) * x4 + (1 * all_0 (r_0 + 1) + 0) ≤ 0) (f4 : 1 * texts_0 + ((-1) * x1 + ((-44) * x3 + 0)) ≤ 0) (kz_0_170 : 0 ≤ texts_0 ∧ texts_0 ≤ 100000000) (ex2 : gx = texts_0) (ex3 : 0 ≤ gx ∧ gx ≤ 99999992) : 1 * gx + ((-1) * x1 + ((-44) * x3 + 0)) ≤ 0 := by
  first | assumption | omega | grind
def o_Mo_writeEdges_2 : or_T := (16, 6, [(0, (2, 0, 0, [165])), (1, (0, 0, 99997888, [])), (2, (2, 0, 0, [165])), (3, (0, 0, 47, [])), (4, (0, 1, 48, [])), (5, (0, 0, 23, []))], [(20, [5, 2, 3], [50, 1, 1, 1005, 1002, 1, 2, 1, 0, 3, 1, 2, 4, 7, 4, 3, 2, 1, 5, 0, 267, 1, 2]), (7, [3, 4], [2]), (20, [4, 2], [30, 0, 1, 0, 0, -1, 3, 2005001]), (20, [4, 2], [30, 0, -1, 0, 0, 1, 3, 2005001]), (20, [2, 1, 3], [30, 0, 1, 1, 170, -1, 0, 0, -44, 0, 0]), (24, [0, 2], [])], [], [(0, 0, 99999992, [])], [(20, [2, 6], [30, 0, 1, 1, 170, -1, 0, 0]), (23, [6, 1, 3], [0, 1, -1, -44])], [], [(3, 4, -4294967296, -1)])
theorem oo_Mo_writeEdges_2 {kA : Nat → ClassId} : or_ok PRD kA GG o_Mo_writeEdges_2 := by
  refine or_mk fun A ta ws vs hD hth hl => ?_
  intro t0 r0 t1 k1 t2 r2 t3 k3 t4 k4 t5 k5 d0 f0 f1 f2 f3 f4 f5
  replace f0 := shm_749 f0
  replace f1 := shm_6 f1
  replace f2 := shm_121 f2
  replace f3 := shm_122 f3
  replace f4 := shm_2026 f4
  replace f5 := shm_5 f5
  have q2 : n_v vs 2 = n_v vs 0 := f5.symm
  simp only [q2] at f0 f2 f3 f4
  have cr_0_2 := fdq_10 hD hth r0
  have br_0_2_F5_1_0 : w_ei ws (w_ar ws (n_v vs 0) 2) (w_fi ws (n_v vs 0) 5 + 1) = w_el ws (w_ar ws (n_v vs 0) 2) (w_fi ws (n_v vs 0) 5 + 1).toNat := rfl
  have kz_0_170 := fdq_11 hD hth r0
  have kv0 := fdq_11 hD hth r0
  obtain ⟨x, ex, hx⟩ := iv_ex (ta := ta) (lo := 0) (hi := 99999992) (z := w_fi ws (n_v vs 0) 170) (by omega) (by omega) (by omega) (by omega)
  have ex2 : v_iv (Value.int x) = w_fi ws (n_v vs 0) 170 := ex
  have ex3 : 0 ≤ v_iv (Value.int x) ∧ v_iv (Value.int x) ≤ 99999992 := tv_rng hx
  have e_1 : n_v (vs ++ [Value.int x]) 1 = n_v vs 1 := n_v_old (by rw [hl]; decide)
  have e_2 : n_v (vs ++ [Value.int x]) 2 = n_v vs 2 := n_v_old (by rw [hl]; decide)
  have e_3 : n_v (vs ++ [Value.int x]) 3 = n_v vs 3 := n_v_old (by rw [hl]; decide)
  have e_6 : n_v (vs ++ [Value.int x]) 6 = Value.int x := n_v_new hl
  have nf0 : fc_1 PRD (20, [2, 6], [30, 0, 1, 1, 170, -1, 0, 0]) ws (vs ++ [Value.int x]) := by
    refine ⟨nf_inA hl rfl, sgq_131 ?_⟩
    · show 1 * w_fi ws (n_v (vs ++ [Value.int x]) 2) 170 + ((-1) * v_iv (n_v (vs ++ [Value.int x]) 6) + 0) ≤ 0
      simp only [e_2, e_6, q2]
      exact vc_Mo_writeEdges_2_0 (v_iv (n_v vs 1)) (v_iv (n_v vs 3)) (v_iv (n_v vs 4)) (v_iv (n_v vs 5)) (w_ei ws (w_ar ws (n_v vs 0) 2)) (w_fi ws (n_v vs 0) 5) (w_fi ws (n_v vs 0) 170) (v_iv (Value.int x)) k1 k3 k4 k5 d0 f0 f1 f2 f3 f4 kz_0_170 ex2 ex3
  have nf1 : fc_1 PRD (23, [6, 1, 3], [0, 1, -1, -44]) ws (vs ++ [Value.int x]) := by
    refine ⟨nf_inA hl rfl, sgq_2028 ?_⟩
    · show 1 * v_iv (n_v (vs ++ [Value.int x]) 6) + ((-1) * v_iv (n_v (vs ++ [Value.int x]) 1) + ((-44) * v_iv (n_v (vs ++ [Value.int x]) 3) + 0)) ≤ 0
      simp only [e_1, e_3, e_6]
      exact vc_Mo_writeEdges_2_1 (v_iv (n_v vs 1)) (v_iv (n_v vs 3)) (v_iv (n_v vs 4)) (v_iv (n_v vs 5)) (w_ei ws (w_ar ws (n_v vs 0) 2)) (w_fi ws (n_v vs 0) 5) (w_fi ws (n_v vs 0) 170) (v_iv (Value.int x)) k1 k3 k4 k5 d0 f0 f1 f2 f3 f4 kz_0_170 ex2 ex3
  exact ⟨(fun _ h => (by cases h)), [Value.int x], ag_one hx, List.forall_mem_cons.mpr ⟨⟨show (20 : Nat) < 100 from by decide, nf0⟩, List.forall_mem_cons.mpr ⟨⟨show (23 : Nat) < 100 from by decide, nf1⟩, (fun _ h => (by cases h))⟩⟩, (fun _ h => (by cases h))⟩
set_option maxHeartbeats 4000000 in
theorem vc_Mo_writeEdges_3_0 (x1 : Int) (x3 : Int) (x4 : Int) (x5 : Int) (x6 : Int) (all_0 : Int → Int) (r_0 : Int) (texts_0 : Int) (gx : Int) (k1 : 0 ≤ x1 ∧ x1 ≤ 99997888) (k3 : 0 ≤ x3 ∧ x3 ≤ 47) (k4 : 1 ≤ x4 ∧ x4 ≤ 48) (k5 : 0 ≤ x5 ∧ x5 ≤ 23) (k6 : 0 ≤ x6 ∧ x6 ≤ 99999992) (d0 : x4 + (-4294967296) ≤ x3 ∧ x3 ≤ x4 + (-1)) (f0 : 1 * x6 + ((-1) * x1 + ((-44) * x3 + 0)) ≤ 0) (f1 : x5 = all_0 (((r_0 + 267) + x3))) (f2 : 1 * x4 + ((-1) * all_0 (r_0 + 1) + 0) ≤ 0) (f3 : (-1) * x4 + (1 * all_0 (r_0 + 1) + 0) ≤ 0) (f5 : 1 * texts_0 + ((-1) * x6 + 0) ≤ 8) (f7 : 1 * x6 + ((-1) * x1 + ((-44) * x3 + 0)) ≤ 0) (f8 : x3 < x4) (kz_0_170 : 0 ≤ texts_0 ∧ texts_0 ≤ 100000000) (ex2 : gx = texts_0) (ex3 : 0 ≤ gx ∧ gx ≤ 99999997) : 1 * texts_0 + ((-1) * gx + 0) ≤ 0 := by
  first | assumption | omega | grind
set_option maxHeartbeats 4000000 in
theorem vc_Mo_writeEdges_3_1 (x1 : Int) (x3 : Int) (x4 : Int) (x5 : Int) (x6 : Int) (all_0 : Int → Int) (r_0 : Int) (texts_0 : Int) (gx : Int) (k1 : 0 ≤ x1 ∧ x1 ≤ 99997888) (k3 : 0 ≤ x3 ∧ x3 ≤ 47) (k4 : 1 ≤ x4 ∧ x4 ≤ 48) (k5 : 0 ≤ x5 ∧ x5 ≤ 23) (k6 : 0 ≤ x6 ∧ x6 ≤ 99999992) (d0 : x4 + (-4294967296) ≤ x3 ∧ x3 ≤ x4 + (-1)) (f0 : 1 * x6 + ((-1) * x1 + ((-44) * x3 + 0)) ≤ 0) (f1 : x5 = all_0 (((r_0 + 267) + x3))) (f2 : 1 * x4 + ((-1) * all_0 (r_0 + 1) + 0) ≤ 0) (f3 : (-1) * x4 + (1 * all_0 (r_0 + 1) + 0) ≤ 0) (f5 : 1 * texts_0 + ((-1) * x6 + 0) ≤ 8) (f7 : 1 * x6 + ((-1) * x1 + ((-44) * x3 + 0)) ≤ 0) (f8 : x3 < x4) (kz_0_170 : 0 ≤ texts_0 ∧ texts_0 ≤ 100000000) (ex2 : gx = texts_0) (ex3 : 0 ≤ gx ∧ gx ≤ 99999997) : 1 * gx + ((-1) * x1 + ((-44) * x3 + 0)) ≤ 8 := by
  first | assumption | omega | grind
def o_Mo_writeEdges_3 : or_T := (38, 10, [(0, (2, 0, 0, [165])), (1, (0, 0, 99997888, [])), (2, (2, 0, 0, [165])), (3, (0, 0, 47, [])), (4, (0, 1, 48, [])), (5, (0, 0, 23, [])), (6, (0, 0, 99999992, []))], [(23, [6, 1, 3], [0, 1, -1, -44]), (20, [5, 2, 3], [50, 1, 1, 1005, 1002, 1, 2, 1, 0, 3, 1, 2, 4, 7, 4, 3, 2, 1, 5, 0, 267, 1, 2]), (20, [4, 2], [30, 0, 1, 0, 0, -1, 3, 2005001]), (20, [4, 2], [30, 0, -1, 0, 0, 1, 3, 2005001]), (24, [0, 2], []), (20, [2, 6], [30, 8, 1, 1, 170, -1, 0, 0]), (102, [6], [7770675568902916283677847627294075626569627356208558085007249638955617140820833992704, 165170]), (23, [6, 1, 3], [0, 1, -1, -44]), (7, [3, 4], [2])], [], [(0, 0, 99999997, [])], [(20, [2, 10], [30, 0, 1, 1, 170, -1, 0, 0]), (23, [10, 1, 3], [8, 1, -1, -44])], [], [(3, 4, -4294967296, -1)])
theorem oo_Mo_writeEdges_3 {kA : Nat → ClassId} : or_ok PRD kA GG o_Mo_writeEdges_3 := by
  refine or_mk fun A ta ws vs hD hth hl => ?_
  intro t0 r0 t1 k1 t2 r2 t3 k3 t4 k4 t5 k5 t6 k6 d0 f0 f1 f2 f3 f4 f5 ta1 w1 le1 s1 f7 f8
  replace f0 := shm_2028 f0
  replace f1 := shm_749 f1
  replace f2 := shm_121 f2
  replace f3 := shm_122 f3
  replace f4 := shm_5 f4
  replace f5 := shm_160 f5
  replace f7 := shm_2028 f7
  replace f8 := shm_6 f8
  have q2 : n_v vs 2 = n_v vs 0 := f4.symm
  simp only [q2] at f1 f2 f3 f5
  have cr_0_2 := fdq_10 hD hth r0
  have br_0_2_F5_1_0 : w_ei ws (w_ar ws (n_v vs 0) 2) (w_fi ws (n_v vs 0) 5 + 1) = w_el ws (w_ar ws (n_v vs 0) 2) (w_fi ws (n_v vs 0) 5 + 1).toNat := rfl
  have kz_0_170 := fdq_11 hD hth r0
  have kv0 := fdq_11 hD hth r0
  obtain ⟨x, ex, hx⟩ := iv_ex (ta := ta) (lo := 0) (hi := 99999997) (z := w_fi ws (n_v vs 0) 170) (by omega) (by omega) (by omega) (by omega)
  have ex2 : v_iv (Value.int x) = w_fi ws (n_v vs 0) 170 := ex
  have ex3 : 0 ≤ v_iv (Value.int x) ∧ v_iv (Value.int x) ≤ 99999997 := tv_rng hx
  have e_1 : n_v (vs ++ [Value.int x]) 1 = n_v vs 1 := n_v_old (by rw [hl]; decide)
  have e_2 : n_v (vs ++ [Value.int x]) 2 = n_v vs 2 := n_v_old (by rw [hl]; decide)
  have e_3 : n_v (vs ++ [Value.int x]) 3 = n_v vs 3 := n_v_old (by rw [hl]; decide)
  have e_10 : n_v (vs ++ [Value.int x]) 10 = Value.int x := n_v_new hl
  have nf0 : fc_1 PRD (20, [2, 10], [30, 0, 1, 1, 170, -1, 0, 0]) ws (vs ++ [Value.int x]) := by
    refine ⟨nf_inA hl rfl, sgq_131 ?_⟩
    · show 1 * w_fi ws (n_v (vs ++ [Value.int x]) 2) 170 + ((-1) * v_iv (n_v (vs ++ [Value.int x]) 10) + 0) ≤ 0
      simp only [e_2, e_10, q2]
      exact vc_Mo_writeEdges_3_0 (v_iv (n_v vs 1)) (v_iv (n_v vs 3)) (v_iv (n_v vs 4)) (v_iv (n_v vs 5)) (v_iv (n_v vs 6)) (w_ei ws (w_ar ws (n_v vs 0) 2)) (w_fi ws (n_v vs 0) 5) (w_fi ws (n_v vs 0) 170) (v_iv (Value.int x)) k1 k3 k4 k5 k6 d0 f0 f1 f2 f3 f5 f7 f8 kz_0_170 ex2 ex3
  have nf1 : fc_1 PRD (23, [10, 1, 3], [8, 1, -1, -44]) ws (vs ++ [Value.int x]) := by
    refine ⟨nf_inA hl rfl, sgq_2029 ?_⟩
    · show 1 * v_iv (n_v (vs ++ [Value.int x]) 10) + ((-1) * v_iv (n_v (vs ++ [Value.int x]) 1) + ((-44) * v_iv (n_v (vs ++ [Value.int x]) 3) + 0)) ≤ 8
      simp only [e_1, e_3, e_10]
      exact vc_Mo_writeEdges_3_1 (v_iv (n_v vs 1)) (v_iv (n_v vs 3)) (v_iv (n_v vs 4)) (v_iv (n_v vs 5)) (v_iv (n_v vs 6)) (w_ei ws (w_ar ws (n_v vs 0) 2)) (w_fi ws (n_v vs 0) 5) (w_fi ws (n_v vs 0) 170) (v_iv (Value.int x)) k1 k3 k4 k5 k6 d0 f0 f1 f2 f3 f5 f7 f8 kz_0_170 ex2 ex3
  exact ⟨(fun _ h => (by cases h)), [Value.int x], ag_one hx, List.forall_mem_cons.mpr ⟨⟨show (20 : Nat) < 100 from by decide, nf0⟩, List.forall_mem_cons.mpr ⟨⟨show (23 : Nat) < 100 from by decide, nf1⟩, (fun _ h => (by cases h))⟩⟩, (fun _ h => (by cases h))⟩
set_option maxHeartbeats 4000000 in
theorem vc_Mo_writeEdges_4_0 (x1 : Int) (x3 : Int) (x4 : Int) (x5 : Int) (x6 : Int) (x10 : Int) (x11 : Int) (all_0 : Int → Int) (r_0 : Int) (texts_0 : Int) (gx : Int) (k1 : 0 ≤ x1 ∧ x1 ≤ 99997888) (k3 : 0 ≤ x3 ∧ x3 ≤ 47) (k4 : 1 ≤ x4 ∧ x4 ≤ 48) (k5 : 0 ≤ x5 ∧ x5 ≤ 23) (k6 : 0 ≤ x6 ∧ x6 ≤ 99999992) (k10 : 0 ≤ x10 ∧ x10 ≤ 99999997) (k11 : 0 ≤ x11 ∧ x11 ≤ 23) (d0 : x4 + (-4294967296) ≤ x3 ∧ x3 ≤ x4 + (-1)) (f0 : x11 = all_0 (((r_0 + 315) + x3))) (f1 : 1 * x10 + ((-1) * x1 + ((-44) * x3 + 0)) ≤ 8) (f2 : 1 * x6 + ((-1) * x1 + ((-44) * x3 + 0)) ≤ 0) (f3 : x5 = all_0 (((r_0 + 267) + x3))) (f4 : 1 * x4 + ((-1) * all_0 (r_0 + 1) + 0) ≤ 0) (f5 : (-1) * x4 + (1 * all_0 (r_0 + 1) + 0) ≤ 0) (f7 : 1 * texts_0 + ((-1) * x10 + 0) ≤ 3) (f9 : 1 * x10 + ((-1) * x1 + ((-44) * x3 + 0)) ≤ 8) (f10 : 1 * x6 + ((-1) * x1 + ((-44) * x3 + 0)) ≤ 0) (f12 : 1 * x6 + ((-1) * x1 + ((-44) * x3 + 0)) ≤ 0) (f13 : x3 < x4) (kz_0_170 : 0 ≤ texts_0 ∧ texts_0 ≤ 100000000) (ex2 : gx = texts_0) (ex3 : 0 ≤ gx ∧ gx ≤ 99999992) : 1 * texts_0 + ((-1) * gx + 0) ≤ 0 := by
  first | assumption | omega | grind
set_option maxHeartbeats 4000000 in
theorem vc_Mo_writeEdges_4_1 (x1 : Int) (x3 : Int) (x4 : Int) (x5 : Int) (x6 : Int) (x10 : Int) (x11 : Int) (all_0 : Int → Int) (r_0 : Int) (texts_0 : Int) (gx : Int) (k1 : 0 ≤ x1 ∧ x1 ≤ 99997888) (k3 : 0 ≤ x3 ∧ x3 ≤ 47) (k4 : 1 ≤ x4 ∧ x4 ≤ 48) (k5 : 0 ≤ x5 ∧ x5 ≤ 23) (k6 : 0 ≤ x6 ∧ x6 ≤ 99999992) (k10 : 0 ≤ x10 ∧ x10 ≤ 99999997) (k11 : 0 ≤ x11 ∧ x11 ≤ 23) (d0 : x4 + (-4294967296) ≤ x3 ∧ x3 ≤ x4 + (-1)) (f0 : x11 = all_0 (((r_0 + 315) + x3))) (f1 : 1 * x10 + ((-1) * x1 + ((-44) * x3 + 0)) ≤ 8) (f2 : 1 * x6 + ((-1) * x1 + ((-44) * x3 + 0)) ≤ 0) (f3 : x5 = all_0 (((r_0 + 267) + x3))) (f4 : 1 * x4 + ((-1) * all_0 (r_0 + 1) + 0) ≤ 0) (f5 : (-1) * x4 + (1 * all_0 (r_0 + 1) + 0) ≤ 0) (f7 : 1 * texts_0 + ((-1) * x10 + 0) ≤ 3) (f9 : 1 * x10 + ((-1) * x1 + ((-44) * x3 + 0)) ≤ 8) (f10 : 1 * x6 + ((-1) * x1 + ((-44) * x3 + 0)) ≤ 0) (f12 : 1 * x6 + ((-1) * x1 + ((-44) * x3 + 0)) ≤ 0) (f13 : x3 < x4) (kz_0_170 : 0 ≤ texts_0 ∧ texts_0 ≤ 100000000) (ex2 : gx = texts_0) (ex3 : 0 ≤ gx ∧ gx ≤ 99999992) : 1 * gx + ((-1) * x1 + ((-44) * x3 + 0)) ≤ 11 := by
  first | assumption | omega | grind
def o_Mo_writeEdges_4 : or_T := (47, 12, [(0, (2, 0, 0, [165])), (1, (0, 0, 99997888, [])), (2, (2, 0, 0, [165])), (3, (0, 0, 47, [])), (4, (0, 1, 48, [])), (5, (0, 0, 23, [])), (6, (0, 0, 99999992, [])), (10, (0, 0, 99999997, [])), (11, (0, 0, 23, []))], [(20, [11, 2, 3], [50, 1, 1, 1005, 1002, 1, 2, 1, 0, 3, 1, 2, 4, 7, 4, 3, 2, 1, 5, 0, 315, 1, 2]), (23, [10, 1, 3], [8, 1, -1, -44]), (23, [6, 1, 3], [0, 1, -1, -44]), (20, [5, 2, 3], [50, 1, 1, 1005, 1002, 1, 2, 1, 0, 3, 1, 2, 4, 7, 4, 3, 2, 1, 5, 0, 267, 1, 2]), (20, [4, 2], [30, 0, 1, 0, 0, -1, 3, 2005001]), (20, [4, 2], [30, 0, -1, 0, 0, 1, 3, 2005001]), (24, [0, 2], []), (20, [2, 10], [30, 3, 1, 1, 170, -1, 0, 0]), (102, [10], [7770675568902916283677847627294075626569627356208558085007249638955617140820833992704, 165170]), (23, [10, 1, 3], [8, 1, -1, -44]), (23, [6, 1, 3], [0, 1, -1, -44]), (102, [6], [7770675568902916283677847627294075626569627356208558085007249638955617140820833992704, 165170]), (23, [6, 1, 3], [0, 1, -1, -44]), (7, [3, 4], [2])], [], [(0, 0, 99999992, [])], [(20, [2, 12], [30, 0, 1, 1, 170, -1, 0, 0]), (23, [12, 1, 3], [11, 1, -1, -44])], [], [(3, 4, -4294967296, -1)])
theorem oo_Mo_writeEdges_4 {kA : Nat → ClassId} : or_ok PRD kA GG o_Mo_writeEdges_4 := by
  refine or_mk fun A ta ws vs hD hth hl => ?_
  intro t0 r0 t1 k1 t2 r2 t3 k3 t4 k4 t5 k5 t6 k6 t10 k10 t11 k11 d0 f0 f1 f2 f3 f4 f5 f6 f7 ta1 w1 le1 s1 f9 f10 ta2 w2 le2 s2 f12 f13
  replace f0 := shm_603 f0
  replace f1 := shm_2029 f1
  replace f2 := shm_2028 f2
  replace f3 := shm_749 f3
  replace f4 := shm_121 f4
  replace f5 := shm_122 f5
  replace f6 := shm_5 f6
  replace f7 := shm_212 f7
  replace f9 := shm_2029 f9
  replace f10 := shm_2028 f10
  replace f12 := shm_2028 f12
  replace f13 := shm_6 f13
  have q2 : n_v vs 2 = n_v vs 0 := f6.symm
  simp only [q2] at f0 f3 f4 f5 f7
  have cr_0_2 := fdq_10 hD hth r0
  have br_0_2_F5_1_0 : w_ei ws (w_ar ws (n_v vs 0) 2) (w_fi ws (n_v vs 0) 5 + 1) = w_el ws (w_ar ws (n_v vs 0) 2) (w_fi ws (n_v vs 0) 5 + 1).toNat := rfl
  have kz_0_170 := fdq_11 hD hth r0
  have kv0 := fdq_11 hD hth r0
  obtain ⟨x, ex, hx⟩ := iv_ex (ta := ta) (lo := 0) (hi := 99999992) (z := w_fi ws (n_v vs 0) 170) (by omega) (by omega) (by omega) (by omega)
  have ex2 : v_iv (Value.int x) = w_fi ws (n_v vs 0) 170 := ex
  have ex3 : 0 ≤ v_iv (Value.int x) ∧ v_iv (Value.int x) ≤ 99999992 := tv_rng hx
  have e_1 : n_v (vs ++ [Value.int x]) 1 = n_v vs 1 := n_v_old (by rw [hl]; decide)
  have e_2 : n_v (vs ++ [Value.int x]) 2 = n_v vs 2 := n_v_old (by rw [hl]; decide)
  have e_3 : n_v (vs ++ [Value.int x]) 3 = n_v vs 3 := n_v_old (by rw [hl]; decide)
  have e_12 : n_v (vs ++ [Value.int x]) 12 = Value.int x := n_v_new hl
  have nf0 : fc_1 PRD (20, [2, 12], [30, 0, 1, 1, 170, -1, 0, 0]) ws (vs ++ [Value.int x]) := by
    refine ⟨nf_inA hl rfl, sgq_131 ?_⟩
    · show 1 * w_fi ws (n_v (vs ++ [Value.int x]) 2) 170 + ((-1) * v_iv (n_v (vs ++ [Value.int x]) 12) + 0) ≤ 0
      simp only [e_2, e_12, q2]
      exact vc_Mo_writeEdges_4_0 (v_iv (n_v vs 1)) (v_iv (n_v vs 3)) (v_iv (n_v vs 4)) (v_iv (n_v vs 5)) (v_iv (n_v vs 6)) (v_iv (n_v vs 10)) (v_iv (n_v vs 11)) (w_ei ws (w_ar ws (n_v vs 0) 2)) (w_fi ws (n_v vs 0) 5) (w_fi ws (n_v vs 0) 170) (v_iv (Value.int x)) k1 k3 k4 k5 k6 k10 k11 d0 f0 f1 f2 f3 f4 f5 f7 f9 f10 f12 f13 kz_0_170 ex2 ex3
  have nf1 : fc_1 PRD (23, [12, 1, 3], [11, 1, -1, -44]) ws (vs ++ [Value.int x]) := by
    refine ⟨nf_inA hl rfl, sgq_2030 ?_⟩
    · show 1 * v_iv (n_v (vs ++ [Value.int x]) 12) + ((-1) * v_iv (n_v (vs ++ [Value.int x]) 1) + ((-44) * v_iv (n_v (vs ++ [Value.int x]) 3) + 0)) ≤ 11
      simp only [e_1, e_3, e_12]
      exact vc_Mo_writeEdges_4_1 (v_iv (n_v vs 1)) (v_iv (n_v vs 3)) (v_iv (n_v vs 4)) (v_iv (n_v vs 5)) (v_iv (n_v vs 6)) (v_iv (n_v vs 10)) (v_iv (n_v vs 11)) (w_ei ws (w_ar ws (n_v vs 0) 2)) (w_fi ws (n_v vs 0) 5) (w_fi ws (n_v vs 0) 170) (v_iv (Value.int x)) k1 k3 k4 k5 k6 k10 k11 d0 f0 f1 f2 f3 f4 f5 f7 f9 f10 f12 f13 kz_0_170 ex2 ex3
  exact ⟨(fun _ h => (by cases h)), [Value.int x], ag_one hx, List.forall_mem_cons.mpr ⟨⟨show (20 : Nat) < 100 from by decide, nf0⟩, List.forall_mem_cons.mpr ⟨⟨show (23 : Nat) < 100 from by decide, nf1⟩, (fun _ h => (by cases h))⟩⟩, (fun _ h => (by cases h))⟩
set_option maxHeartbeats 4000000 in
theorem vc_Mo_writeEdges_5_0 (x1 : Int) (x3 : Int) (x4 : Int) (x5 : Int) (x6 : Int) (x10 : Int) (x11 : Int) (x12 : Int) (all_0 : Int → Int) (r_0 : Int) (texts_0 : Int) (gx : Int) (k1 : 0 ≤ x1 ∧ x1 ≤ 99997888) (k3 : 0 ≤ x3 ∧ x3 ≤ 47) (k4 : 1 ≤ x4 ∧ x4 ≤ 48) (k5 : 0 ≤ x5 ∧ x5 ≤ 23) (k6 : 0 ≤ x6 ∧ x6 ≤ 99999992) (k10 : 0 ≤ x10 ∧ x10 ≤ 99999997) (k11 : 0 ≤ x11 ∧ x11 ≤ 23) (k12 : 0 ≤ x12 ∧ x12 ≤ 99999992) (d0 : x4 + (-4294967296) ≤ x3 ∧ x3 ≤ x4 + (-1)) (f0 : 1 * x12 + ((-1) * x1 + ((-44) * x3 + 0)) ≤ 11) (f1 : x11 = all_0 (((r_0 + 315) + x3))) (f2 : 1 * x10 + ((-1) * x1 + ((-44) * x3 + 0)) ≤ 8) (f3 : 1 * x6 + ((-1) * x1 + ((-44) * x3 + 0)) ≤ 0) (f4 : x5 = all_0 (((r_0 + 267) + x3))) (f5 : 1 * x4 + ((-1) * all_0 (r_0 + 1) + 0) ≤ 0) (f6 : (-1) * x4 + (1 * all_0 (r_0 + 1) + 0) ≤ 0) (f8 : 1 * texts_0 + ((-1) * x12 + 0) ≤ 8) (f10 : 1 * x12 + ((-1) * x1 + ((-44) * x3 + 0)) ≤ 11) (f11 : 1 * x10 + ((-1) * x1 + ((-44) * x3 + 0)) ≤ 8) (f12 : 1 * x6 + ((-1) * x1 + ((-44) * x3 + 0)) ≤ 0) (f14 : 1 * x10 + ((-1) * x1 + ((-44) * x3 + 0)) ≤ 8) (f15 : 1 * x6 + ((-1) * x1 + ((-44) * x3 + 0)) ≤ 0) (f17 : 1 * x6 + ((-1) * x1 + ((-44) * x3 + 0)) ≤ 0) (f18 : x3 < x4) (kz_0_170 : 0 ≤ texts_0 ∧ texts_0 ≤ 100000000) (ex2 : gx = texts_0) (ex3 : 0 ≤ gx ∧ gx ≤ 99999998) : 1 * texts_0 + ((-1) * gx + 0) ≤ 0 := by
  first | assumption | omega | grind
set_option maxHeartbeats 4000000 in
theorem vc_Mo_writeEdges_5_1 (x1 : Int) (x3 : Int) (x4 : Int) (x5 : Int) (x6 : Int) (x10 : Int) (x11 : Int) (x12 : Int) (all_0 : Int → Int) (r_0 : Int) (texts_0 : Int) (gx : Int) (k1 : 0 ≤ x1 ∧ x1 ≤ 99997888) (k3 : 0 ≤ x3 ∧ x3 ≤ 47) (k4 : 1 ≤ x4 ∧ x4 ≤ 48) (k5 : 0 ≤ x5 ∧ x5 ≤ 23) (k6 : 0 ≤ x6 ∧ x6 ≤ 99999992) (k10 : 0 ≤ x10 ∧ x10 ≤ 99999997) (k11 : 0 ≤ x11 ∧ x11 ≤ 23) (k12 : 0 ≤ x12 ∧ x12 ≤ 99999992) (d0 : x4 + (-4294967296) ≤ x3 ∧ x3 ≤ x4 + (-1)) (f0 : 1 * x12 + ((-1) * x1 + ((-44) * x3 + 0)) ≤ 11) (f1 : x11 = all_0 (((r_0 + 315) + x3))) (f2 : 1 * x10 + ((-1) * x1 + ((-44) * x3 + 0)) ≤ 8) (f3 : 1 * x6 + ((-1) * x1 + ((-44) * x3 + 0)) ≤ 0) (f4 : x5 = all_0 (((r_0 + 267) + x3))) (f5 : 1 * x4 + ((-1) * all_0 (r_0 + 1) + 0) ≤ 0) (f6 : (-1) * x4 + (1 * all_0 (r_0 + 1) + 0) ≤ 0) (f8 : 1 * texts_0 + ((-1) * x12 + 0) ≤ 8) (f10 : 1 * x12 + ((-1) * x1 + ((-44) * x3 + 0)) ≤ 11) (f11 : 1 * x10 + ((-1) * x1 + ((-44) * x3 + 0)) ≤ 8) (f12 : 1 * x6 + ((-1) * x1 + ((-44) * x3 + 0)) ≤ 0) (f14 : 1 * x10 + ((-1) * x1 + ((-44) * x3 + 0)) ≤ 8) (f15 : 1 * x6 + ((-1) * x1 + ((-44) * x3 + 0)) ≤ 0) (f17 : 1 * x6 + ((-1) * x1 + ((-44) * x3 + 0)) ≤ 0) (f18 : x3 < x4) (kz_0_170 : 0 ≤ texts_0 ∧ texts_0 ≤ 100000000) (ex2 : gx = texts_0) (ex3 : 0 ≤ gx ∧ gx ≤ 99999998) : 1 * gx + ((-1) * x1 + ((-44) * x3 + 0)) ≤ 42 := by
  first | assumption | omega | grind
def o_Mo_writeEdges_5 : or_T := (86, 16, [(0, (2, 0, 0, [165])), (1, (0, 0, 99997888, [])), (2, (2, 0, 0, [165])), (3, (0, 0, 47, [])), (4, (0, 1, 48, [])), (5, (0, 0, 23, [])), (6, (0, 0, 99999992, [])), (10, (0, 0, 99999997, [])), (11, (0, 0, 23, [])), (12, (0, 0, 99999992, []))], [(23, [12, 1, 3], [11, 1, -1, -44]), (20, [11, 2, 3], [50, 1, 1, 1005, 1002, 1, 2, 1, 0, 3, 1, 2, 4, 7, 4, 3, 2, 1, 5, 0, 315, 1, 2]), (23, [10, 1, 3], [8, 1, -1, -44]), (23, [6, 1, 3], [0, 1, -1, -44]), (20, [5, 2, 3], [50, 1, 1, 1005, 1002, 1, 2, 1, 0, 3, 1, 2, 4, 7, 4, 3, 2, 1, 5, 0, 267, 1, 2]), (20, [4, 2], [30, 0, 1, 0, 0, -1, 3, 2005001]), (20, [4, 2], [30, 0, -1, 0, 0, 1, 3, 2005001]), (24, [0, 2], []), (20, [2, 12], [30, 8, 1, 1, 170, -1, 0, 0]), (102, [12], [7770675568902916283677847627294075626569627356208558085007249638955617140820833992704, 165170]), (23, [12, 1, 3], [11, 1, -1, -44]), (23, [10, 1, 3], [8, 1, -1, -44]), (23, [6, 1, 3], [0, 1, -1, -44]), (102, [10], [7770675568902916283677847627294075626569627356208558085007249638955617140820833992704, 165170]), (23, [10, 1, 3], [8, 1, -1, -44]), (23, [6, 1, 3], [0, 1, -1, -44]), (102, [6], [7770675568902916283677847627294075626569627356208558085007249638955617140820833992704, 165170]), (23, [6, 1, 3], [0, 1, -1, -44]), (7, [3, 4], [2])], [], [(0, 0, 99999998, [])], [(20, [2, 16], [30, 0, 1, 1, 170, -1, 0, 0]), (23, [16, 1, 3], [42, 1, -1, -44])], [], [(3, 4, -4294967296, -1)])
theorem oo_Mo_writeEdges_5 {kA : Nat → ClassId} : or_ok PRD kA GG o_Mo_writeEdges_5 := by
  refine or_mk fun A ta ws vs hD hth hl => ?_
  intro t0 r0 t1 k1 t2 r2 t3 k3 t4 k4 t5 k5 t6 k6 t10 k10 t11 k11 t12 k12 d0 f0 f1 f2 f3 f4 f5 f6 f7 f8 ta1 w1 le1 s1 f10 f11 f12 ta2 w2 le2 s2 f14 f15 ta3 w3 le3 s3 f17 f18
  replace f0 := shm_2030 f0
  replace f1 := shm_603 f1
  replace f2 := shm_2029 f2
  replace f3 := shm_2028 f3
  replace f4 := shm_749 f4
  replace f5 := shm_121 f5
  replace f6 := shm_122 f6
  replace f7 := shm_5 f7
  replace f8 := shm_160 f8
  replace f10 := shm_2030 f10
  replace f11 := shm_2029 f11
  replace f12 := shm_2028 f12
  replace f14 := shm_2029 f14
  replace f15 := shm_2028 f15
  replace f17 := shm_2028 f17
  replace f18 := shm_6 f18
  have q2 : n_v vs 2 = n_v vs 0 := f7.symm
  simp only [q2] at f1 f4 f5 f6 f8
  have cr_0_2 := fdq_10 hD hth r0
  have br_0_2_F5_1_0 : w_ei ws (w_ar ws (n_v vs 0) 2) (w_fi ws (n_v vs 0) 5 + 1) = w_el ws (w_ar ws (n_v vs 0) 2) (w_fi ws (n_v vs 0) 5 + 1).toNat := rfl
  have kz_0_170 := fdq_11 hD hth r0
  have kv0 := fdq_11 hD hth r0
  obtain ⟨x, ex, hx⟩ := iv_ex (ta := ta) (lo := 0) (hi := 99999998) (z := w_fi ws (n_v vs 0) 170) (by omega) (by omega) (by omega) (by omega)
  have ex2 : v_iv (Value.int x) = w_fi ws (n_v vs 0) 170 := ex
  have ex3 : 0 ≤ v_iv (Value.int x) ∧ v_iv (Value.int x) ≤ 99999998 := tv_rng hx
  have e_1 : n_v (vs ++ [Value.int x]) 1 = n_v vs 1 := n_v_old (by rw [hl]; decide)
  have e_2 : n_v (vs ++ [Value.int x]) 2 = n_v vs 2 := n_v_old (by rw [hl]; decide)
  have e_3 : n_v (vs ++ [Value.int x]) 3 = n_v vs 3 := n_v_old (by rw [hl]; decide)
  have e_16 : n_v (vs ++ [Value.int x]) 16 = Value.int x := n_v_new hl
  have nf0 : fc_1 PRD (20, [2, 16], [30, 0, 1, 1, 170, -1, 0, 0]) ws (vs ++ [Value.int x]) := by
    refine ⟨nf_inA hl rfl, sgq_131 ?_⟩
    · show 1 * w_fi ws (n_v (vs ++ [Value.int x]) 2) 170 + ((-1) * v_iv (n_v (vs ++ [Value.int x]) 16) + 0) ≤ 0
      simp only [e_2, e_16, q2]
      exact vc_Mo_writeEdges_5_0 (v_iv (n_v vs 1)) (v_iv (n_v vs 3)) (v_iv (n_v vs 4)) (v_iv (n_v vs 5)) (v_iv (n_v vs 6)) (v_iv (n_v vs 10)) (v_iv (n_v vs 11)) (v_iv (n_v vs 12)) (w_ei ws (w_ar ws (n_v vs 0) 2)) (w_fi ws (n_v vs 0) 5) (w_fi ws (n_v vs 0) 170) (v_iv (Value.int x)) k1 k3 k4 k5 k6 k10 k11 k12 d0 f0 f1 f2 f3 f4 f5 f6 f8 f10 f11 f12 f14 f15 f17 f18 kz_0_170 ex2 ex3
  have nf1 : fc_1 PRD (23, [16, 1, 3], [42, 1, -1, -44]) ws (vs ++ [Value.int x]) := by
    refine ⟨nf_inA hl rfl, sgq_2031 ?_⟩
    · show 1 * v_iv (n_v (vs ++ [Value.int x]) 16) + ((-1) * v_iv (n_v (vs ++ [Value.int x]) 1) + ((-44) * v_iv (n_v (vs ++ [Value.int x]) 3) + 0)) ≤ 42
      simp only [e_1, e_3, e_16]
      exact vc_Mo_writeEdges_5_1 (v_iv (n_v vs 1)) (v_iv (n_v vs 3)) (v_iv (n_v vs 4)) (v_iv (n_v vs 5)) (v_iv (n_v vs 6)) (v_iv (n_v vs 10)) (v_iv (n_v vs 11)) (v_iv (n_v vs 12)) (w_ei ws (w_ar ws (n_v vs 0) 2)) (w_fi ws (n_v vs 0) 5) (w_fi ws (n_v vs 0) 170) (v_iv (Value.int x)) k1 k3 k4 k5 k6 k10 k11 k12 d0 f0 f1 f2 f3 f4 f5 f6 f8 f10 f11 f12 f14 f15 f17 f18 kz_0_170 ex2 ex3
  exact ⟨(fun _ h => (by cases h)), [Value.int x], ag_one hx, List.forall_mem_cons.mpr ⟨⟨show (20 : Nat) < 100 from by decide, nf0⟩, List.forall_mem_cons.mpr ⟨⟨show (23 : Nat) < 100 from by decide, nf1⟩, (fun _ h => (by cases h))⟩⟩, (fun _ h => (by cases h))⟩
set_option maxHeartbeats 4000000 in
theorem vc_Mo_writeEdges_6_0 (x1 : Int) (x3 : Int) (x4 : Int) (x5 : Int) (x6 : Int) (x10 : Int) (x11 : Int) (x12 : Int) (x16 : Int) (x17 : Int) (all_0 : Int → Int) (r_0 : Int) (texts_0 : Int) (k1 : 0 ≤ x1 ∧ x1 ≤ 99997888) (k3 : 0 ≤ x3 ∧ x3 ≤ 47) (k4 : 1 ≤ x4 ∧ x4 ≤ 48) (k5 : 0 ≤ x5 ∧ x5 ≤ 23) (k6 : 0 ≤ x6 ∧ x6 ≤ 99999992) (k10 : 0 ≤ x10 ∧ x10 ≤ 99999997) (k11 : 0 ≤ x11 ∧ x11 ≤ 23) (k12 : 0 ≤ x12 ∧ x12 ≤ 99999992) (k16 : 0 ≤ x16 ∧ x16 ≤ 99999998) (k17 : 1 ≤ x17 ∧ x17 ≤ 48) (d0 : x3 + 1 ≤ x17 ∧ x17 ≤ x3 + 1) (d1 : x4 + (-4294967296) ≤ x17 ∧ x17 ≤ x4 + 0) (d2 : x4 + (-4294967296) ≤ x3 ∧ x3 ≤ x4 + (-1)) (f0 : x17 = x3 + 1) (f1 : 1 * x16 + ((-1) * x1 + ((-44) * x3 + 0)) ≤ 42) (f2 : 1 * x12 + ((-1) * x1 + ((-44) * x3 + 0)) ≤ 11) (f3 : x11 = all_0 (((r_0 + 315) + x3))) (f4 : 1 * x10 + ((-1) * x1 + ((-44) * x3 + 0)) ≤ 8) (f5 : 1 * x6 + ((-1) * x1 + ((-44) * x3 + 0)) ≤ 0) (f6 : x5 = all_0 (((r_0 + 267) + x3))) (f7 : 1 * x4 + ((-1) * all_0 (r_0 + 1) + 0) ≤ 0) (f8 : (-1) * x4 + (1 * all_0 (r_0 + 1) + 0) ≤ 0) (f10 : 1 * texts_0 + ((-1) * x16 + 0) ≤ 2) (f12 : 1 * x16 + ((-1) * x1 + ((-44) * x3 + 0)) ≤ 42) (f13 : 1 * x12 + ((-1) * x1 + ((-44) * x3 + 0)) ≤ 11) (f14 : 1 * x10 + ((-1) * x1 + ((-44) * x3 + 0)) ≤ 8) (f15 : 1 * x6 + ((-1) * x1 + ((-44) * x3 + 0)) ≤ 0) (f17 : 1 * x12 + ((-1) * x1 + ((-44) * x3 + 0)) ≤ 11) (f18 : 1 * x10 + ((-1) * x1 + ((-44) * x3 + 0)) ≤ 8) (f19 : 1 * x6 + ((-1) * x1 + ((-44) * x3 + 0)) ≤ 0) (f21 : 1 * x10 + ((-1) * x1 + ((-44) * x3 + 0)) ≤ 8) (f22 : 1 * x6 + ((-1) * x1 + ((-44) * x3 + 0)) ≤ 0) (f24 : 1 * x6 + ((-1) * x1 + ((-44) * x3 + 0)) ≤ 0) (f25 : x3 < x4) (kz_0_170 : 0 ≤ texts_0 ∧ texts_0 ≤ 100000000) : 1 * texts_0 + ((-1) * x1 + ((-44) * x17 + 0)) ≤ 0 := by
  first | assumption | omega | grind
def o_Mo_writeEdges_6 : or_T := (2, 18, [(0, (2, 0, 0, [165])), (1, (0, 0, 99997888, [])), (3, (0, 0, 47, [])), (4, (0, 1, 48, [])), (5, (0, 0, 23, [])), (6, (0, 0, 99999992, [])), (10, (0, 0, 99999997, [])), (11, (0, 0, 23, [])), (12, (0, 0, 99999992, [])), (16, (0, 0, 99999998, [])), (17, (0, 1, 48, []))], [(6, [17, 3], [1]), (23, [16, 1, 3], [42, 1, -1, -44]), (23, [12, 1, 3], [11, 1, -1, -44]), (20, [11, 2, 3], [50, 1, 1, 1005, 1002, 1, 2, 1, 0, 3, 1, 2, 4, 7, 4, 3, 2, 1, 5, 0, 315, 1, 2]), (23, [10, 1, 3], [8, 1, -1, -44]), (23, [6, 1, 3], [0, 1, -1, -44]), (20, [5, 2, 3], [50, 1, 1, 1005, 1002, 1, 2, 1, 0, 3, 1, 2, 4, 7, 4, 3, 2, 1, 5, 0, 267, 1, 2]), (20, [4, 2], [30, 0, 1, 0, 0, -1, 3, 2005001]), (20, [4, 2], [30, 0, -1, 0, 0, 1, 3, 2005001]), (24, [0, 2], []), (20, [2, 16], [30, 2, 1, 1, 170, -1, 0, 0]), (102, [16], [7770675568902916283677847627294075626569627356208558085007249638955617140820833992704, 165170]), (23, [16, 1, 3], [42, 1, -1, -44]), (23, [12, 1, 3], [11, 1, -1, -44]), (23, [10, 1, 3], [8, 1, -1, -44]), (23, [6, 1, 3], [0, 1, -1, -44]), (102, [12], [7770675568902916283677847627294075626569627356208558085007249638955617140820833992704, 165170]), (23, [12, 1, 3], [11, 1, -1, -44]), (23, [10, 1, 3], [8, 1, -1, -44]), (23, [6, 1, 3], [0, 1, -1, -44]), (102, [10], [7770675568902916283677847627294075626569627356208558085007249638955617140820833992704, 165170]), (23, [10, 1, 3], [8, 1, -1, -44]), (23, [6, 1, 3], [0, 1, -1, -44]), (102, [6], [7770675568902916283677847627294075626569627356208558085007249638955617140820833992704, 165170]), (23, [6, 1, 3], [0, 1, -1, -44]), (7, [3, 4], [2])], [], [], [(20, [2, 1, 17], [30, 0, 1, 1, 170, -1, 0, 0, -44, 0, 0])], [], [(17, 3, 1, 1), (17, 4, -4294967296, 0), (3, 4, -4294967296, -1)])
theorem oo_Mo_writeEdges_6 {kA : Nat → ClassId} : or_ok PRD kA GG o_Mo_writeEdges_6 := by
  refine or_mk fun A ta ws vs hD hth hl => ?_
  intro t0 r0 t1 k1 t3 k3 t4 k4 t5 k5 t6 k6 t10 k10 t11 k11 t12 k12 t16 k16 t17 k17 d0 d1 d2 f0 f1 f2 f3 f4 f5 f6 f7 f8 f9 f10 ta1 w1 le1 s1 f12 f13 f14 f15 ta2 w2 le2 s2 f17 f18 f19 ta3 w3 le3 s3 f21 f22 ta4 w4 le4 s4 f24 f25
  replace f0 := shm_4 f0
  replace f1 := shm_2031 f1
  replace f2 := shm_2030 f2
  replace f3 := shm_603 f3
  replace f4 := shm_2029 f4
  replace f5 := shm_2028 f5
  replace f6 := shm_749 f6
  replace f7 := shm_121 f7
  replace f8 := shm_122 f8
  replace f9 := shm_5 f9
  replace f10 := shm_210 f10
  replace f12 := shm_2031 f12
  replace f13 := shm_2030 f13
  replace f14 := shm_2029 f14
  replace f15 := shm_2028 f15
  replace f17 := shm_2030 f17
  replace f18 := shm_2029 f18
  replace f19 := shm_2028 f19
  replace f21 := shm_2029 f21
  replace f22 := shm_2028 f22
  replace f24 := shm_2028 f24
  replace f25 := shm_6 f25
  have q2 : n_v vs 2 = n_v vs 0 := f9.symm
  simp only [q2] at f3 f6 f7 f8 f10
  have kz_0_170 := fdq_11 hD hth r0
  have nf0 : fc_1 PRD (20, [2, 1, 17], [30, 0, 1, 1, 170, -1, 0, 0, -44, 0, 0]) ws (vs) := by
    refine ⟨nf_in hl rfl, sgq_2026 ?_⟩
    · show 1 * w_fi ws (n_v vs 2) 170 + ((-1) * v_iv (n_v vs 1) + ((-44) * v_iv (n_v vs 17) + 0)) ≤ 0
      rw [q2]
      exact vc_Mo_writeEdges_6_0 (v_iv (n_v vs 1)) (v_iv (n_v vs 3)) (v_iv (n_v vs 4)) (v_iv (n_v vs 5)) (v_iv (n_v vs 6)) (v_iv (n_v vs 10)) (v_iv (n_v vs 11)) (v_iv (n_v vs 12)) (v_iv (n_v vs 16)) (v_iv (n_v vs 17)) (w_ei ws (w_ar ws (n_v vs 0) 2)) (w_fi ws (n_v vs 0) 5) (w_fi ws (n_v vs 0) 170) k1 k3 k4 k5 k6 k10 k11 k12 k16 k17 d0 d1 d2 f0 f1 f2 f3 f4 f5 f6 f7 f8 f10 f12 f13 f14 f15 f17 f18 f19 f21 f22 f24 f25 kz_0_170
  refine ⟨(fun _ h => (by cases h)), [], trivial, ?_, (fun _ h => (by cases h))⟩
  rw [List.append_nil]
  exact List.forall_mem_cons.mpr ⟨⟨show (20 : Nat) < 100 from by decide, nf0⟩, (fun _ h => (by cases h))⟩
set_option maxHeartbeats 4000000 in
theorem vc_Mo_writeEdges_7_0 (x1 : Int) (x3 : Int) (x4 : Int) (x5 : Int) (x6 : Int) (x10 : Int) (x11 : Int) (x12 : Int) (all_0 : Int → Int) (r_0 : Int) (texts_0 : Int) (gx : Int) (k1 : 0 ≤ x1 ∧ x1 ≤ 99997888) (k3 : 0 ≤ x3 ∧ x3 ≤ 47) (k4 : 1 ≤ x4 ∧ x4 ≤ 48) (k5 : 0 ≤ x5 ∧ x5 ≤ 23) (k6 : 0 ≤ x6 ∧ x6 ≤ 99999992) (k10 : 0 ≤ x10 ∧ x10 ≤ 99999997) (k11 : 0 ≤ x11 ∧ x11 ≤ 23) (k12 : 0 ≤ x12 ∧ x12 ≤ 99999992) (d0 : x4 + (-4294967296) ≤ x3 ∧ x3 ≤ x4 + (-1)) (f0 : 1 * x12 + ((-1) * x1 + ((-44) * x3 + 0)) ≤ 11) (f1 : x11 = all_0 (((r_0 + 315) + x3))) (f2 : 1 * x10 + ((-1) * x1 + ((-44) * x3 + 0)) ≤ 8) (f3 : 1 * x6 + ((-1) * x1 + ((-44) * x3 + 0)) ≤ 0) (f4 : x5 = all_0 (((r_0 + 267) + x3))) (f5 : 1 * x4 + ((-1) * all_0 (r_0 + 1) + 0) ≤ 0) (f6 : (-1) * x4 + (1 * all_0 (r_0 + 1) + 0) ≤ 0) (f8 : 1 * texts_0 + ((-1) * x12 + 0) ≤ 8) (f10 : 1 * x12 + ((-1) * x1 + ((-44) * x3 + 0)) ≤ 11) (f11 : 1 * x10 + ((-1) * x1 + ((-44) * x3 + 0)) ≤ 8) (f12 : 1 * x6 + ((-1) * x1 + ((-44) * x3 + 0)) ≤ 0) (f14 : 1 * x10 + ((-1) * x1 + ((-44) * x3 + 0)) ≤ 8) (f15 : 1 * x6 + ((-1) * x1 + ((-44) * x3 + 0)) ≤ 0) (f17 : 1 * x6 + ((-1) * x1 + ((-44) * x3 + 0)) ≤ 0) (f18 : x3 < x4) (kz_0_170 : 0 ≤ texts_0 ∧ texts_0 ≤ 100000000) (ex2 : gx = texts_0) (ex3 : 0 ≤ gx ∧ gx ≤ 99999991) : 1 * texts_0 + ((-1) * gx + 0) ≤ 0 := by
  first | assumption | omega | grind
set_option maxHeartbeats 4000000 in
theorem vc_Mo_writeEdges_7_1 (x1 : Int) (x3 : Int) (x4 : Int) (x5 : Int) (x6 : Int) (x10 : Int) (x11 : Int) (x12 : Int) (all_0 : Int → Int) (r_0 : Int) (texts_0 : Int) (gx : Int) (k1 : 0 ≤ x1 ∧ x1 ≤ 99997888) (k3 : 0 ≤ x3 ∧ x3 ≤ 47) (k4 : 1 ≤ x4 ∧ x4 ≤ 48) (k5 : 0 ≤ x5 ∧ x5 ≤ 23) (k6 : 0 ≤ x6 ∧ x6 ≤ 99999992) (k10 : 0 ≤ x10 ∧ x10 ≤ 99999997) (k11 : 0 ≤ x11 ∧ x11 ≤ 23) (k12 : 0 ≤ x12 ∧ x12 ≤ 99999992) (d0 : x4 + (-4294967296) ≤ x3 ∧ x3 ≤ x4 + (-1)) (f0 : 1 * x12 + ((-1) * x1 + ((-44) * x3 + 0)) ≤ 11) (f1 : x11 = all_0 (((r_0 + 315) + x3))) (f2 : 1 * x10 + ((-1) * x1 + ((-44) * x3 + 0)) ≤ 8) (f3 : 1 * x6 + ((-1) * x1 + ((-44) * x3 + 0)) ≤ 0) (f4 : x5 = all_0 (((r_0 + 267) + x3))) (f5 : 1 * x4 + ((-1) * all_0 (r_0 + 1) + 0) ≤ 0) (f6 : (-1) * x4 + (1 * all_0 (r_0 + 1) + 0) ≤ 0) (f8 : 1 * texts_0 + ((-1) * x12 + 0) ≤ 8) (f10 : 1 * x12 + ((-1) * x1 + ((-44) * x3 + 0)) ≤ 11) (f11 : 1 * x10 + ((-1) * x1 + ((-44) * x3 + 0)) ≤ 8) (f12 : 1 * x6 + ((-1) * x1 + ((-44) * x3 + 0)) ≤ 0) (f14 : 1 * x10 + ((-1) * x1 + ((-44) * x3 + 0)) ≤ 8) (f15 : 1 * x6 + ((-1) * x1 + ((-44) * x3 + 0)) ≤ 0) (f17 : 1 * x6 + ((-1) * x1 + ((-44) * x3 + 0)) ≤ 0) (f18 : x3 < x4) (kz_0_170 : 0 ≤ texts_0 ∧ texts_0 ≤ 100000000) (ex2 : gx = texts_0) (ex3 : 0 ≤ gx ∧ gx ≤ 99999991) : 1 * gx + ((-1) * x1 + ((-44) * x3 + 0)) ≤ 19 := by
  first | assumption | omega | grind
def o_Mo_writeEdges_7 : or_T := (63, 16, [(0, (2, 0, 0, [165])), (1, (0, 0, 99997888, [])), (2, (2, 0, 0, [165])), (3, (0, 0, 47, [])), (4, (0, 1, 48, [])), (5, (0, 0, 23, [])), (6, (0, 0, 99999992, [])), (10, (0, 0, 99999997, [])), (11, (0, 0, 23, [])), (12, (0, 0, 99999992, []))], [(23, [12, 1, 3], [11, 1, -1, -44]), (20, [11, 2, 3], [50, 1, 1, 1005, 1002, 1, 2, 1, 0, 3, 1, 2, 4, 7, 4, 3, 2, 1, 5, 0, 315, 1, 2]), (23, [10, 1, 3], [8, 1, -1, -44]), (23, [6, 1, 3], [0, 1, -1, -44]), (20, [5, 2, 3], [50, 1, 1, 1005, 1002, 1, 2, 1, 0, 3, 1, 2, 4, 7, 4, 3, 2, 1, 5, 0, 267, 1, 2]), (20, [4, 2], [30, 0, 1, 0, 0, -1, 3, 2005001]), (20, [4, 2], [30, 0, -1, 0, 0, 1, 3, 2005001]), (24, [0, 2], []), (20, [2, 12], [30, 8, 1, 1, 170, -1, 0, 0]), (102, [12], [7770675568902916283677847627294075626569627356208558085007249638955617140820833992704, 165170]), (23, [12, 1, 3], [11, 1, -1, -44]), (23, [10, 1, 3], [8, 1, -1, -44]), (23, [6, 1, 3], [0, 1, -1, -44]), (102, [10], [7770675568902916283677847627294075626569627356208558085007249638955617140820833992704, 165170]), (23, [10, 1, 3], [8, 1, -1, -44]), (23, [6, 1, 3], [0, 1, -1, -44]), (102, [6], [7770675568902916283677847627294075626569627356208558085007249638955617140820833992704, 165170]), (23, [6, 1, 3], [0, 1, -1, -44]), (7, [3, 4], [2])], [], [(0, 0, 99999991, [])], [(20, [2, 16], [30, 0, 1, 1, 170, -1, 0, 0]), (23, [16, 1, 3], [19, 1, -1, -44])], [], [(3, 4, -4294967296, -1)])
theorem oo_Mo_writeEdges_7 {kA : Nat → ClassId} : or_ok PRD kA GG o_Mo_writeEdges_7 := by
  refine or_mk fun A ta ws vs hD hth hl => ?_
  intro t0 r0 t1 k1 t2 r2 t3 k3 t4 k4 t5 k5 t6 k6 t10 k10 t11 k11 t12 k12 d0 f0 f1 f2 f3 f4 f5 f6 f7 f8 ta1 w1 le1 s1 f10 f11 f12 ta2 w2 le2 s2 f14 f15 ta3 w3 le3 s3 f17 f18
  replace f0 := shm_2030 f0
  replace f1 := shm_603 f1
  replace f2 := shm_2029 f2
  replace f3 := shm_2028 f3
  replace f4 := shm_749 f4
  replace f5 := shm_121 f5
  replace f6 := shm_122 f6
  replace f7 := shm_5 f7
  replace f8 := shm_160 f8
  replace f10 := shm_2030 f10
  replace f11 := shm_2029 f11
  replace f12 := shm_2028 f12
  replace f14 := shm_2029 f14
  replace f15 := shm_2028 f15
  replace f17 := shm_2028 f17
  replace f18 := shm_6 f18
  have q2 : n_v vs 2 = n_v vs 0 := f7.symm
  simp only [q2] at f1 f4 f5 f6 f8
  have cr_0_2 := fdq_10 hD hth r0
  have br_0_2_F5_1_0 : w_ei ws (w_ar ws (n_v vs 0) 2) (w_fi ws (n_v vs 0) 5 + 1) = w_el ws (w_ar ws (n_v vs 0) 2) (w_fi ws (n_v vs 0) 5 + 1).toNat := rfl
  have kz_0_170 := fdq_11 hD hth r0
  have kv0 := fdq_11 hD hth r0
  obtain ⟨x, ex, hx⟩ := iv_ex (ta := ta) (lo := 0) (hi := 99999991) (z := w_fi ws (n_v vs 0) 170) (by omega) (by omega) (by omega) (by omega)
  have ex2 : v_iv (Value.int x) = w_fi ws (n_v vs 0) 170 := ex
  have ex3 : 0 ≤ v_iv (Value.int x) ∧ v_iv (Value.int x) ≤ 99999991 := tv_rng hx
  have e_1 : n_v (vs ++ [Value.int x]) 1 = n_v vs 1 := n_v_old (by rw [hl]; decide)
  have e_2 : n_v (vs ++ [Value.int x]) 2 = n_v vs 2 := n_v_old (by rw [hl]; decide)
  have e_3 : n_v (vs ++ [Value.int x]) 3 = n_v vs 3 := n_v_old (by rw [hl]; decide)
  have e_16 : n_v (vs ++ [Value.int x]) 16 = Value.int x := n_v_new hl
  have nf0 : fc_1 PRD (20, [2, 16], [30, 0, 1, 1, 170, -1, 0, 0]) ws (vs ++ [Value.int x]) := by
    refine ⟨nf_inA hl rfl, sgq_131 ?_⟩
    · show 1 * w_fi ws (n_v (vs ++ [Value.int x]) 2) 170 + ((-1) * v_iv (n_v (vs ++ [Value.int x]) 16) + 0) ≤ 0
      simp only [e_2, e_16, q2]
      exact vc_Mo_writeEdges_7_0 (v_iv (n_v vs 1)) (v_iv (n_v vs 3)) (v_iv (n_v vs 4)) (v_iv (n_v vs 5)) (v_iv (n_v vs 6)) (v_iv (n_v vs 10)) (v_iv (n_v vs 11)) (v_iv (n_v vs 12)) (w_ei ws (w_ar ws (n_v vs 0) 2)) (w_fi ws (n_v vs 0) 5) (w_fi ws (n_v vs 0) 170) (v_iv (Value.int x)) k1 k3 k4 k5 k6 k10 k11 k12 d0 f0 f1 f2 f3 f4 f5 f6 f8 f10 f11 f12 f14 f15 f17 f18 kz_0_170 ex2 ex3
  have nf1 : fc_1 PRD (23, [16, 1, 3], [19, 1, -1, -44]) ws (vs ++ [Value.int x]) := by
    refine ⟨nf_inA hl rfl, sgq_2032 ?_⟩
    · show 1 * v_iv (n_v (vs ++ [Value.int x]) 16) + ((-1) * v_iv (n_v (vs ++ [Value.int x]) 1) + ((-44) * v_iv (n_v (vs ++ [Value.int x]) 3) + 0)) ≤ 19
      simp only [e_1, e_3, e_16]
      exact vc_Mo_writeEdges_7_1 (v_iv (n_v vs 1)) (v_iv (n_v vs 3)) (v_iv (n_v vs 4)) (v_iv (n_v vs 5)) (v_iv (n_v vs 6)) (v_iv (n_v vs 10)) (v_iv (n_v vs 11)) (v_iv (n_v vs 12)) (w_ei ws (w_ar ws (n_v vs 0) 2)) (w_fi ws (n_v vs 0) 5) (w_fi ws (n_v vs 0) 170) (v_iv (Value.int x)) k1 k3 k4 k5 k6 k10 k11 k12 d0 f0 f1 f2 f3 f4 f5 f6 f8 f10 f11 f12 f14 f15 f17 f18 kz_0_170 ex2 ex3
  exact ⟨(fun _ h => (by cases h)), [Value.int x], ag_one hx, List.forall_mem_cons.mpr ⟨⟨show (20 : Nat) < 100 from by decide, nf0⟩, List.forall_mem_cons.mpr ⟨⟨show (23 : Nat) < 100 from by decide, nf1⟩, (fun _ h => (by cases h))⟩⟩, (fun _ h => (by cases h))⟩
set_option maxHeartbeats 4000000 in
theorem vc_Mo_writeEdges_8_0 (x1 : Int) (x3 : Int) (x4 : Int) (x5 : Int) (x6 : Int) (x10 : Int) (x11 : Int) (x12 : Int) (x16 : Int) (all_0 : Int → Int) (r_0 : Int) (texts_0 : Int) (gx : Int) (k1 : 0 ≤ x1 ∧ x1 ≤ 99997888) (k3 : 0 ≤ x3 ∧ x3 ≤ 47) (k4 : 1 ≤ x4 ∧ x4 ≤ 48) (k5 : 0 ≤ x5 ∧ x5 ≤ 23) (k6 : 0 ≤ x6 ∧ x6 ≤ 99999992) (k10 : 0 ≤ x10 ∧ x10 ≤ 99999997) (k11 : 0 ≤ x11 ∧ x11 ≤ 23) (k12 : 0 ≤ x12 ∧ x12 ≤ 99999992) (k16 : 0 ≤ x16 ∧ x16 ≤ 99999991) (d0 : x4 + (-4294967296) ≤ x3 ∧ x3 ≤ x4 + (-1)) (f0 : 1 * x16 + ((-1) * x1 + ((-44) * x3 + 0)) ≤ 19) (f1 : 1 * x12 + ((-1) * x1 + ((-44) * x3 + 0)) ≤ 11) (f2 : x11 = all_0 (((r_0 + 315) + x3))) (f3 : 1 * x10 + ((-1) * x1 + ((-44) * x3 + 0)) ≤ 8) (f4 : 1 * x6 + ((-1) * x1 + ((-44) * x3 + 0)) ≤ 0) (f5 : x5 = all_0 (((r_0 + 267) + x3))) (f6 : 1 * x4 + ((-1) * all_0 (r_0 + 1) + 0) ≤ 0) (f7 : (-1) * x4 + (1 * all_0 (r_0 + 1) + 0) ≤ 0) (f9 : 1 * texts_0 + ((-1) * x16 + 0) ≤ 9) (f11 : 1 * x16 + ((-1) * x1 + ((-44) * x3 + 0)) ≤ 19) (f12 : 1 * x12 + ((-1) * x1 + ((-44) * x3 + 0)) ≤ 11) (f13 : 1 * x10 + ((-1) * x1 + ((-44) * x3 + 0)) ≤ 8) (f14 : 1 * x6 + ((-1) * x1 + ((-44) * x3 + 0)) ≤ 0) (f16 : 1 * x12 + ((-1) * x1 + ((-44) * x3 + 0)) ≤ 11) (f17 : 1 * x10 + ((-1) * x1 + ((-44) * x3 + 0)) ≤ 8) (f18 : 1 * x6 + ((-1) * x1 + ((-44) * x3 + 0)) ≤ 0) (f20 : 1 * x10 + ((-1) * x1 + ((-44) * x3 + 0)) ≤ 8) (f21 : 1 * x6 + ((-1) * x1 + ((-44) * x3 + 0)) ≤ 0) (f23 : 1 * x6 + ((-1) * x1 + ((-44) * x3 + 0)) ≤ 0) (f24 : x3 < x4) (kz_0_170 : 0 ≤ texts_0 ∧ texts_0 ≤ 100000000) (ex2 : gx = texts_0) (ex3 : 0 ≤ gx ∧ gx ≤ 99999987) : 1 * texts_0 + ((-1) * gx + 0) ≤ 0 := by
  first | assumption | omega | grind
set_option maxHeartbeats 4000000 in
theorem vc_Mo_writeEdges_8_1 (x1 : Int) (x3 : Int) (x4 : Int) (x5 : Int) (x6 : Int) (x10 : Int) (x11 : Int) (x12 : Int) (x16 : Int) (all_0 : Int → Int) (r_0 : Int) (texts_0 : Int) (gx : Int) (k1 : 0 ≤ x1 ∧ x1 ≤ 99997888) (k3 : 0 ≤ x3 ∧ x3 ≤ 47) (k4 : 1 ≤ x4 ∧ x4 ≤ 48) (k5 : 0 ≤ x5 ∧ x5 ≤ 23) (k6 : 0 ≤ x6 ∧ x6 ≤ 99999992) (k10 : 0 ≤ x10 ∧ x10 ≤ 99999997) (k11 : 0 ≤ x11 ∧ x11 ≤ 23) (k12 : 0 ≤ x12 ∧ x12 ≤ 99999992) (k16 : 0 ≤ x16 ∧ x16 ≤ 99999991) (d0 : x4 + (-4294967296) ≤ x3 ∧ x3 ≤ x4 + (-1)) (f0 : 1 * x16 + ((-1) * x1 + ((-44) * x3 + 0)) ≤ 19) (f1 : 1 * x12 + ((-1) * x1 + ((-44) * x3 + 0)) ≤ 11) (f2 : x11 = all_0 (((r_0 + 315) + x3))) (f3 : 1 * x10 + ((-1) * x1 + ((-44) * x3 + 0)) ≤ 8) (f4 : 1 * x6 + ((-1) * x1 + ((-44) * x3 + 0)) ≤ 0) (f5 : x5 = all_0 (((r_0 + 267) + x3))) (f6 : 1 * x4 + ((-1) * all_0 (r_0 + 1) + 0) ≤ 0) (f7 : (-1) * x4 + (1 * all_0 (r_0 + 1) + 0) ≤ 0) (f9 : 1 * texts_0 + ((-1) * x16 + 0) ≤ 9) (f11 : 1 * x16 + ((-1) * x1 + ((-44) * x3 + 0)) ≤ 19) (f12 : 1 * x12 + ((-1) * x1 + ((-44) * x3 + 0)) ≤ 11) (f13 : 1 * x10 + ((-1) * x1 + ((-44) * x3 + 0)) ≤ 8) (f14 : 1 * x6 + ((-1) * x1 + ((-44) * x3 + 0)) ≤ 0) (f16 : 1 * x12 + ((-1) * x1 + ((-44) * x3 + 0)) ≤ 11) (f17 : 1 * x10 + ((-1) * x1 + ((-44) * x3 + 0)) ≤ 8) (f18 : 1 * x6 + ((-1) * x1 + ((-44) * x3 + 0)) ≤ 0) (f20 : 1 * x10 + ((-1) * x1 + ((-44) * x3 + 0)) ≤ 8) (f21 : 1 * x6 + ((-1) * x1 + ((-44) * x3 + 0)) ≤ 0) (f23 : 1 * x6 + ((-1) * x1 + ((-44) * x3 + 0)) ≤ 0) (f24 : x3 < x4) (kz_0_170 : 0 ≤ texts_0 ∧ texts_0 ≤ 100000000) (ex2 : gx = texts_0) (ex3 : 0 ≤ gx ∧ gx ≤ 99999987) : 1 * gx + ((-1) * x1 + ((-44) * x3 + 0)) ≤ 28 := by
  first | assumption | omega | grind
def o_Mo_writeEdges_8 : or_T := (72, 18, [(0, (2, 0, 0, [165])), (1, (0, 0, 99997888, [])), (2, (2, 0, 0, [165])), (3, (0, 0, 47, [])), (4, (0, 1, 48, [])), (5, (0, 0, 23, [])), (6, (0, 0, 99999992, [])), (10, (0, 0, 99999997, [])), (11, (0, 0, 23, [])), (12, (0, 0, 99999992, [])), (16, (0, 0, 99999991, []))], [(23, [16, 1, 3], [19, 1, -1, -44]), (23, [12, 1, 3], [11, 1, -1, -44]), (20, [11, 2, 3], [50, 1, 1, 1005, 1002, 1, 2, 1, 0, 3, 1, 2, 4, 7, 4, 3, 2, 1, 5, 0, 315, 1, 2]), (23, [10, 1, 3], [8, 1, -1, -44]), (23, [6, 1, 3], [0, 1, -1, -44]), (20, [5, 2, 3], [50, 1, 1, 1005, 1002, 1, 2, 1, 0, 3, 1, 2, 4, 7, 4, 3, 2, 1, 5, 0, 267, 1, 2]), (20, [4, 2], [30, 0, 1, 0, 0, -1, 3, 2005001]), (20, [4, 2], [30, 0, -1, 0, 0, 1, 3, 2005001]), (24, [0, 2], []), (20, [2, 16], [30, 9, 1, 1, 170, -1, 0, 0]), (102, [16], [7770675568902916283677847627294075626569627356208558085007249638955617140820833992704, 165170]), (23, [16, 1, 3], [19, 1, -1, -44]), (23, [12, 1, 3], [11, 1, -1, -44]), (23, [10, 1, 3], [8, 1, -1, -44]), (23, [6, 1, 3], [0, 1, -1, -44]), (102, [12], [7770675568902916283677847627294075626569627356208558085007249638955617140820833992704, 165170]), (23, [12, 1, 3], [11, 1, -1, -44]), (23, [10, 1, 3], [8, 1, -1, -44]), (23, [6, 1, 3], [0, 1, -1, -44]), (102, [10], [7770675568902916283677847627294075626569627356208558085007249638955617140820833992704, 165170]), (23, [10, 1, 3], [8, 1, -1, -44]), (23, [6, 1, 3], [0, 1, -1, -44]), (102, [6], [7770675568902916283677847627294075626569627356208558085007249638955617140820833992704, 165170]), (23, [6, 1, 3], [0, 1, -1, -44]), (7, [3, 4], [2])], [], [(0, 0, 99999987, [])], [(20, [2, 18], [30, 0, 1, 1, 170, -1, 0, 0]), (23, [18, 1, 3], [28, 1, -1, -44])], [], [(3, 4, -4294967296, -1)])
theorem oo_Mo_writeEdges_8 {kA : Nat → ClassId} : or_ok PRD kA GG o_Mo_writeEdges_8 := by
  refine or_mk fun A ta ws vs hD hth hl => ?_
  intro t0 r0 t1 k1 t2 r2 t3 k3 t4 k4 t5 k5 t6 k6 t10 k10 t11 k11 t12 k12 t16 k16 d0 f0 f1 f2 f3 f4 f5 f6 f7 f8 f9 ta1 w1 le1 s1 f11 f12 f13 f14 ta2 w2 le2 s2 f16 f17 f18 ta3 w3 le3 s3 f20 f21 ta4 w4 le4 s4 f23 f24
  replace f0 := shm_2032 f0
  replace f1 := shm_2030 f1
  replace f2 := shm_603 f2
  replace f3 := shm_2029 f3
  replace f4 := shm_2028 f4
  replace f5 := shm_749 f5
  replace f6 := shm_121 f6
  replace f7 := shm_122 f7
  replace f8 := shm_5 f8
  replace f9 := shm_213 f9
  replace f11 := shm_2032 f11
  replace f12 := shm_2030 f12
  replace f13 := shm_2029 f13
  replace f14 := shm_2028 f14
  replace f16 := shm_2030 f16
  replace f17 := shm_2029 f17
  replace f18 := shm_2028 f18
  replace f20 := shm_2029 f20
  replace f21 := shm_2028 f21
  replace f23 := shm_2028 f23
  replace f24 := shm_6 f24
  have q2 : n_v vs 2 = n_v vs 0 := f8.symm
  simp only [q2] at f2 f5 f6 f7 f9
  have cr_0_2 := fdq_10 hD hth r0
  have br_0_2_F5_1_0 : w_ei ws (w_ar ws (n_v vs 0) 2) (w_fi ws (n_v vs 0) 5 + 1) = w_el ws (w_ar ws (n_v vs 0) 2) (w_fi ws (n_v vs 0) 5 + 1).toNat := rfl
  have kz_0_170 := fdq_11 hD hth r0
  have kv0 := fdq_11 hD hth r0
  obtain ⟨x, ex, hx⟩ := iv_ex (ta := ta) (lo := 0) (hi := 99999987) (z := w_fi ws (n_v vs 0) 170) (by omega) (by omega) (by omega) (by omega)
  have ex2 : v_iv (Value.int x) = w_fi ws (n_v vs 0) 170 := ex
  have ex3 : 0 ≤ v_iv (Value.int x) ∧ v_iv (Value.int x) ≤ 99999987 := tv_rng hx
  have e_1 : n_v (vs ++ [Value.int x]) 1 = n_v vs 1 := n_v_old (by rw [hl]; decide)
  have e_2 : n_v (vs ++ [Value.int x]) 2 = n_v vs 2 := n_v_old (by rw [hl]; decide)
  have e_3 : n_v (vs ++ [Value.int x]) 3 = n_v vs 3 := n_v_old (by rw [hl]; decide)
  have e_18 : n_v (vs ++ [Value.int x]) 18 = Value.int x := n_v_new hl
  have nf0 : fc_1 PRD (20, [2, 18], [30, 0, 1, 1, 170, -1, 0, 0]) ws (vs ++ [Value.int x]) := by
    refine ⟨nf_inA hl rfl, sgq_131 ?_⟩
    · show 1 * w_fi ws (n_v (vs ++ [Value.int x]) 2) 170 + ((-1) * v_iv (n_v (vs ++ [Value.int x]) 18) + 0) ≤ 0
      simp only [e_2, e_18, q2]
      exact vc_Mo_writeEdges_8_0 (v_iv (n_v vs 1)) (v_iv (n_v vs 3)) (v_iv (n_v vs 4)) (v_iv (n_v vs 5)) (v_iv (n_v vs 6)) (v_iv (n_v vs 10)) (v_iv (n_v vs 11)) (v_iv (n_v vs 12)) (v_iv (n_v vs 16)) (w_ei ws (w_ar ws (n_v vs 0) 2)) (w_fi ws (n_v vs 0) 5) (w_fi ws (n_v vs 0) 170) (v_iv (Value.int x)) k1 k3 k4 k5 k6 k10 k11 k12 k16 d0 f0 f1 f2 f3 f4 f5 f6 f7 f9 f11 f12 f13 f14 f16 f17 f18 f20 f21 f23 f24 kz_0_170 ex2 ex3
  have nf1 : fc_1 PRD (23, [18, 1, 3], [28, 1, -1, -44]) ws (vs ++ [Value.int x]) := by
    refine ⟨nf_inA hl rfl, sgq_2033 ?_⟩
    · show 1 * v_iv (n_v (vs ++ [Value.int x]) 18) + ((-1) * v_iv (n_v (vs ++ [Value.int x]) 1) + ((-44) * v_iv (n_v (vs ++ [Value.int x]) 3) + 0)) ≤ 28
      simp only [e_1, e_3, e_18]
      exact vc_Mo_writeEdges_8_1 (v_iv (n_v vs 1)) (v_iv (n_v vs 3)) (v_iv (n_v vs 4)) (v_iv (n_v vs 5)) (v_iv (n_v vs 6)) (v_iv (n_v vs 10)) (v_iv (n_v vs 11)) (v_iv (n_v vs 12)) (v_iv (n_v vs 16)) (w_ei ws (w_ar ws (n_v vs 0) 2)) (w_fi ws (n_v vs 0) 5) (w_fi ws (n_v vs 0) 170) (v_iv (Value.int x)) k1 k3 k4 k5 k6 k10 k11 k12 k16 d0 f0 f1 f2 f3 f4 f5 f6 f7 f9 f11 f12 f13 f14 f16 f17 f18 f20 f21 f23 f24 kz_0_170 ex2 ex3
  exact ⟨(fun _ h => (by cases h)), [Value.int x], ag_one hx, List.forall_mem_cons.mpr ⟨⟨show (20 : Nat) < 100 from by decide, nf0⟩, List.forall_mem_cons.mpr ⟨⟨show (23 : Nat) < 100 from by decide, nf1⟩, (fun _ h => (by cases h))⟩⟩, (fun _ h => (by cases h))⟩
set_option maxHeartbeats 4000000 in
theorem vc_Mo_writeEdges_9_0 (x1 : Int) (x3 : Int) (x4 : Int) (x5 : Int) (x6 : Int) (x10 : Int) (x11 : Int) (x12 : Int) (x16 : Int) (x18 : Int) (all_0 : Int → Int) (r_0 : Int) (texts_0 : Int) (gx : Int) (k1 : 0 ≤ x1 ∧ x1 ≤ 99997888) (k3 : 0 ≤ x3 ∧ x3 ≤ 47) (k4 : 1 ≤ x4 ∧ x4 ≤ 48) (k5 : 0 ≤ x5 ∧ x5 ≤ 23) (k6 : 0 ≤ x6 ∧ x6 ≤ 99999992) (k10 : 0 ≤ x10 ∧ x10 ≤ 99999997) (k11 : 0 ≤ x11 ∧ x11 ≤ 23) (k12 : 0 ≤ x12 ∧ x12 ≤ 99999992) (k16 : 0 ≤ x16 ∧ x16 ≤ 99999991) (k18 : 0 ≤ x18 ∧ x18 ≤ 99999987) (d0 : x4 + (-4294967296) ≤ x3 ∧ x3 ≤ x4 + (-1)) (f0 : 1 * x18 + ((-1) * x1 + ((-44) * x3 + 0)) ≤ 28) (f1 : 1 * x16 + ((-1) * x1 + ((-44) * x3 + 0)) ≤ 19) (f2 : 1 * x12 + ((-1) * x1 + ((-44) * x3 + 0)) ≤ 11) (f3 : x11 = all_0 (((r_0 + 315) + x3))) (f4 : 1 * x10 + ((-1) * x1 + ((-44) * x3 + 0)) ≤ 8) (f5 : 1 * x6 + ((-1) * x1 + ((-44) * x3 + 0)) ≤ 0) (f6 : x5 = all_0 (((r_0 + 267) + x3))) (f7 : 1 * x4 + ((-1) * all_0 (r_0 + 1) + 0) ≤ 0) (f8 : (-1) * x4 + (1 * all_0 (r_0 + 1) + 0) ≤ 0) (f10 : 1 * texts_0 + ((-1) * x18 + 0) ≤ 13) (f12 : 1 * x18 + ((-1) * x1 + ((-44) * x3 + 0)) ≤ 28) (f13 : 1 * x16 + ((-1) * x1 + ((-44) * x3 + 0)) ≤ 19) (f14 : 1 * x12 + ((-1) * x1 + ((-44) * x3 + 0)) ≤ 11) (f15 : 1 * x10 + ((-1) * x1 + ((-44) * x3 + 0)) ≤ 8) (f16 : 1 * x6 + ((-1) * x1 + ((-44) * x3 + 0)) ≤ 0) (f18 : 1 * x16 + ((-1) * x1 + ((-44) * x3 + 0)) ≤ 19) (f19 : 1 * x12 + ((-1) * x1 + ((-44) * x3 + 0)) ≤ 11) (f20 : 1 * x10 + ((-1) * x1 + ((-44) * x3 + 0)) ≤ 8) (f21 : 1 * x6 + ((-1) * x1 + ((-44) * x3 + 0)) ≤ 0) (f23 : 1 * x12 + ((-1) * x1 + ((-44) * x3 + 0)) ≤ 11) (f24 : 1 * x10 + ((-1) * x1 + ((-44) * x3 + 0)) ≤ 8) (f25 : 1 * x6 + ((-1) * x1 + ((-44) * x3 + 0)) ≤ 0) (f27 : 1 * x10 + ((-1) * x1 + ((-44) * x3 + 0)) ≤ 8) (f28 : 1 * x6 + ((-1) * x1 + ((-44) * x3 + 0)) ≤ 0) (f30 : 1 * x6 + ((-1) * x1 + ((-44) * x3 + 0)) ≤ 0) (f31 : x3 < x4) (kz_0_170 : 0 ≤ texts_0 ∧ texts_0 ≤ 100000000) (ex2 : gx = texts_0) (ex3 : 0 ≤ gx ∧ gx ≤ 99999999) : 1 * texts_0 + ((-1) * gx + 0) ≤ 0 := by
  first | assumption | omega | grind
set_option maxHeartbeats 4000000 in
theorem vc_Mo_writeEdges_9_1 (x1 : Int) (x3 : Int) (x4 : Int) (x5 : Int) (x6 : Int) (x10 : Int) (x11 : Int) (x12 : Int) (x16 : Int) (x18 : Int) (all_0 : Int → Int) (r_0 : Int) (texts_0 : Int) (gx : Int) (k1 : 0 ≤ x1 ∧ x1 ≤ 99997888) (k3 : 0 ≤ x3 ∧ x3 ≤ 47) (k4 : 1 ≤ x4 ∧ x4 ≤ 48) (k5 : 0 ≤ x5 ∧ x5 ≤ 23) (k6 : 0 ≤ x6 ∧ x6 ≤ 99999992) (k10 : 0 ≤ x10 ∧ x10 ≤ 99999997) (k11 : 0 ≤ x11 ∧ x11 ≤ 23) (k12 : 0 ≤ x12 ∧ x12 ≤ 99999992) (k16 : 0 ≤ x16 ∧ x16 ≤ 99999991) (k18 : 0 ≤ x18 ∧ x18 ≤ 99999987) (d0 : x4 + (-4294967296) ≤ x3 ∧ x3 ≤ x4 + (-1)) (f0 : 1 * x18 + ((-1) * x1 + ((-44) * x3 + 0)) ≤ 28) (f1 : 1 * x16 + ((-1) * x1 + ((-44) * x3 + 0)) ≤ 19) (f2 : 1 * x12 + ((-1) * x1 + ((-44) * x3 + 0)) ≤ 11) (f3 : x11 = all_0 (((r_0 + 315) + x3))) (f4 : 1 * x10 + ((-1) * x1 + ((-44) * x3 + 0)) ≤ 8) (f5 : 1 * x6 + ((-1) * x1 + ((-44) * x3 + 0)) ≤ 0) (f6 : x5 = all_0 (((r_0 + 267) + x3))) (f7 : 1 * x4 + ((-1) * all_0 (r_0 + 1) + 0) ≤ 0) (f8 : (-1) * x4 + (1 * all_0 (r_0 + 1) + 0) ≤ 0) (f10 : 1 * texts_0 + ((-1) * x18 + 0) ≤ 13) (f12 : 1 * x18 + ((-1) * x1 + ((-44) * x3 + 0)) ≤ 28) (f13 : 1 * x16 + ((-1) * x1 + ((-44) * x3 + 0)) ≤ 19) (f14 : 1 * x12 + ((-1) * x1 + ((-44) * x3 + 0)) ≤ 11) (f15 : 1 * x10 + ((-1) * x1 + ((-44) * x3 + 0)) ≤ 8) (f16 : 1 * x6 + ((-1) * x1 + ((-44) * x3 + 0)) ≤ 0) (f18 : 1 * x16 + ((-1) * x1 + ((-44) * x3 + 0)) ≤ 19) (f19 : 1 * x12 + ((-1) * x1 + ((-44) * x3 + 0)) ≤ 11) (f20 : 1 * x10 + ((-1) * x1 + ((-44) * x3 + 0)) ≤ 8) (f21 : 1 * x6 + ((-1) * x1 + ((-44) * x3 + 0)) ≤ 0) (f23 : 1 * x12 + ((-1) * x1 + ((-44) * x3 + 0)) ≤ 11) (f24 : 1 * x10 + ((-1) * x1 + ((-44) * x3 + 0)) ≤ 8) (f25 : 1 * x6 + ((-1) * x1 + ((-44) * x3 + 0)) ≤ 0) (f27 : 1 * x10 + ((-1) * x1 + ((-44) * x3 + 0)) ≤ 8) (f28 : 1 * x6 + ((-1) * x1 + ((-44) * x3 + 0)) ≤ 0) (f30 : 1 * x6 + ((-1) * x1 + ((-44) * x3 + 0)) ≤ 0) (f31 : x3 < x4) (kz_0_170 : 0 ≤ texts_0 ∧ texts_0 ≤ 100000000) (ex2 : gx = texts_0) (ex3 : 0 ≤ gx ∧ gx ≤ 99999999) : 1 * gx + ((-1) * x1 + ((-44) * x3 + 0)) ≤ 41 := by
  first | assumption | omega | grind
def o_Mo_writeEdges_9 : or_T := (79, 20, [(0, (2, 0, 0, [165])), (1, (0, 0, 99997888, [])), (2, (2, 0, 0, [165])), (3, (0, 0, 47, [])), (4, (0, 1, 48, [])), (5, (0, 0, 23, [])), (6, (0, 0, 99999992, [])), (10, (0, 0, 99999997, [])), (11, (0, 0, 23, [])), (12, (0, 0, 99999992, [])), (16, (0, 0, 99999991, [])), (18, (0, 0, 99999987, []))], [(23, [18, 1, 3], [28, 1, -1, -44]), (23, [16, 1, 3], [19, 1, -1, -44]), (23, [12, 1, 3], [11, 1, -1, -44]), (20, [11, 2, 3], [50, 1, 1, 1005, 1002, 1, 2, 1, 0, 3, 1, 2, 4, 7, 4, 3, 2, 1, 5, 0, 315, 1, 2]), (23, [10, 1, 3], [8, 1, -1, -44]), (23, [6, 1, 3], [0, 1, -1, -44]), (20, [5, 2, 3], [50, 1, 1, 1005, 1002, 1, 2, 1, 0, 3, 1, 2, 4, 7, 4, 3, 2, 1, 5, 0, 267, 1, 2]), (20, [4, 2], [30, 0, 1, 0, 0, -1, 3, 2005001]), (20, [4, 2], [30, 0, -1, 0, 0, 1, 3, 2005001]), (24, [0, 2], []), (20, [2, 18], [30, 13, 1, 1, 170, -1, 0, 0]), (102, [18], [7770675568902916283677847627294075626569627356208558085007249638955617140820833992704, 165170]), (23, [18, 1, 3], [28, 1, -1, -44]), (23, [16, 1, 3], [19, 1, -1, -44]), (23, [12, 1, 3], [11, 1, -1, -44]), (23, [10, 1, 3], [8, 1, -1, -44]), (23, [6, 1, 3], [0, 1, -1, -44]), (102, [16], [7770675568902916283677847627294075626569627356208558085007249638955617140820833992704, 165170]), (23, [16, 1, 3], [19, 1, -1, -44]), (23, [12, 1, 3], [11, 1, -1, -44]), (23, [10, 1, 3], [8, 1, -1, -44]), (23, [6, 1, 3], [0, 1, -1, -44]), (102, [12], [7770675568902916283677847627294075626569627356208558085007249638955617140820833992704, 165170]), (23, [12, 1, 3], [11, 1, -1, -44]), (23, [10, 1, 3], [8, 1, -1, -44]), (23, [6, 1, 3], [0, 1, -1, -44]), (102, [10], [7770675568902916283677847627294075626569627356208558085007249638955617140820833992704, 165170]), (23, [10, 1, 3], [8, 1, -1, -44]), (23, [6, 1, 3], [0, 1, -1, -44]), (102, [6], [7770675568902916283677847627294075626569627356208558085007249638955617140820833992704, 165170]), (23, [6, 1, 3], [0, 1, -1, -44]), (7, [3, 4], [2])], [], [(0, 0, 99999999, [])], [(20, [2, 20], [30, 0, 1, 1, 170, -1, 0, 0]), (23, [20, 1, 3], [41, 1, -1, -44])], [], [(3, 4, -4294967296, -1)])
theorem oo_Mo_writeEdges_9 {kA : Nat → ClassId} : or_ok PRD kA GG o_Mo_writeEdges_9 := by
  refine or_mk fun A ta ws vs hD hth hl => ?_
  intro t0 r0 t1 k1 t2 r2 t3 k3 t4 k4 t5 k5 t6 k6 t10 k10 t11 k11 t12 k12 t16 k16 t18 k18 d0 f0 f1 f2 f3 f4 f5 f6 f7 f8 f9 f10 ta1 w1 le1 s1 f12 f13 f14 f15 f16 ta2 w2 le2 s2 f18 f19 f20 f21 ta3 w3 le3 s3 f23 f24 f25 ta4 w4 le4 s4 f27 f28 ta5 w5 le5 s5 f30 f31
  replace f0 := shm_2033 f0
  replace f1 := shm_2032 f1
  replace f2 := shm_2030 f2
  replace f3 := shm_603 f3
  replace f4 := shm_2029 f4
  replace f5 := shm_2028 f5
  replace f6 := shm_749 f6
  replace f7 := shm_121 f7
  replace f8 := shm_122 f8
  replace f9 := shm_5 f9
  replace f10 := shm_1056 f10
  replace f12 := shm_2033 f12
  replace f13 := shm_2032 f13
  replace f14 := shm_2030 f14
  replace f15 := shm_2029 f15
  replace f16 := shm_2028 f16
  replace f18 := shm_2032 f18
  replace f19 := shm_2030 f19
  replace f20 := shm_2029 f20
  replace f21 := shm_2028 f21
  replace f23 := shm_2030 f23
  replace f24 := shm_2029 f24
  replace f25 := shm_2028 f25
  replace f27 := shm_2029 f27
  replace f28 := shm_2028 f28
  replace f30 := shm_2028 f30
  replace f31 := shm_6 f31
  have q2 : n_v vs 2 = n_v vs 0 := f9.symm
  simp only [q2] at f3 f6 f7 f8 f10
  have cr_0_2 := fdq_10 hD hth r0
  have br_0_2_F5_1_0 : w_ei ws (w_ar ws (n_v vs 0) 2) (w_fi ws (n_v vs 0) 5 + 1) = w_el ws (w_ar ws (n_v vs 0) 2) (w_fi ws (n_v vs 0) 5 + 1).toNat := rfl
  have kz_0_170 := fdq_11 hD hth r0
  have kv0 := fdq_11 hD hth r0
  obtain ⟨x, ex, hx⟩ := iv_ex (ta := ta) (lo := 0) (hi := 99999999) (z := w_fi ws (n_v vs 0) 170) (by omega) (by omega) (by omega) (by omega)
  have ex2 : v_iv (Value.int x) = w_fi ws (n_v vs 0) 170 := ex
  have ex3 : 0 ≤ v_iv (Value.int x) ∧ v_iv (Value.int x) ≤ 99999999 := tv_rng hx
  have e_1 : n_v (vs ++ [Value.int x]) 1 = n_v vs 1 := n_v_old (by rw [hl]; decide)
  have e_2 : n_v (vs ++ [Value.int x]) 2 = n_v vs 2 := n_v_old (by rw [hl]; decide)
  have e_3 : n_v (vs ++ [Value.int x]) 3 = n_v vs 3 := n_v_old (by rw [hl]; decide)
  have e_20 : n_v (vs ++ [Value.int x]) 20 = Value.int x := n_v_new hl
  have nf0 : fc_1 PRD (20, [2, 20], [30, 0, 1, 1, 170, -1, 0, 0]) ws (vs ++ [Value.int x]) := by
    refine ⟨nf_inA hl rfl, sgq_131 ?_⟩
    · show 1 * w_fi ws (n_v (vs ++ [Value.int x]) 2) 170 + ((-1) * v_iv (n_v (vs ++ [Value.int x]) 20) + 0) ≤ 0
      simp only [e_2, e_20, q2]
      exact vc_Mo_writeEdges_9_0 (v_iv (n_v vs 1)) (v_iv (n_v vs 3)) (v_iv (n_v vs 4)) (v_iv (n_v vs 5)) (v_iv (n_v vs 6)) (v_iv (n_v vs 10)) (v_iv (n_v vs 11)) (v_iv (n_v vs 12)) (v_iv (n_v vs 16)) (v_iv (n_v vs 18)) (w_ei ws (w_ar ws (n_v vs 0) 2)) (w_fi ws (n_v vs 0) 5) (w_fi ws (n_v vs 0) 170) (v_iv (Value.int x)) k1 k3 k4 k5 k6 k10 k11 k12 k16 k18 d0 f0 f1 f2 f3 f4 f5 f6 f7 f8 f10 f12 f13 f14 f15 f16 f18 f19 f20 f21 f23 f24 f25 f27 f28 f30 f31 kz_0_170 ex2 ex3
  have nf1 : fc_1 PRD (23, [20, 1, 3], [41, 1, -1, -44]) ws (vs ++ [Value.int x]) := by
    refine ⟨nf_inA hl rfl, sgq_2034 ?_⟩
    · show 1 * v_iv (n_v (vs ++ [Value.int x]) 20) + ((-1) * v_iv (n_v (vs ++ [Value.int x]) 1) + ((-44) * v_iv (n_v (vs ++ [Value.int x]) 3) + 0)) ≤ 41
      simp only [e_1, e_3, e_20]
      exact vc_Mo_writeEdges_9_1 (v_iv (n_v vs 1)) (v_iv (n_v vs 3)) (v_iv (n_v vs 4)) (v_iv (n_v vs 5)) (v_iv (n_v vs 6)) (v_iv (n_v vs 10)) (v_iv (n_v vs 11)) (v_iv (n_v vs 12)) (v_iv (n_v vs 16)) (v_iv (n_v vs 18)) (w_ei ws (w_ar ws (n_v vs 0) 2)) (w_fi ws (n_v vs 0) 5) (w_fi ws (n_v vs 0) 170) (v_iv (Value.int x)) k1 k3 k4 k5 k6 k10 k11 k12 k16 k18 d0 f0 f1 f2 f3 f4 f5 f6 f7 f8 f10 f12 f13 f14 f15 f16 f18 f19 f20 f21 f23 f24 f25 f27 f28 f30 f31 kz_0_170 ex2 ex3
  exact ⟨(fun _ h => (by cases h)), [Value.int x], ag_one hx, List.forall_mem_cons.mpr ⟨⟨show (20 : Nat) < 100 from by decide, nf0⟩, List.forall_mem_cons.mpr ⟨⟨show (23 : Nat) < 100 from by decide, nf1⟩, (fun _ h => (by cases h))⟩⟩, (fun _ h => (by cases h))⟩
set_option maxHeartbeats 4000000 in
theorem vc_Mo_writeEdges_10_0 (x1 : Int) (x3 : Int) (x4 : Int) (x5 : Int) (x6 : Int) (x10 : Int) (x11 : Int) (x12 : Int) (x16 : Int) (x18 : Int) (x20 : Int) (all_0 : Int → Int) (r_0 : Int) (texts_0 : Int) (gx : Int) (k1 : 0 ≤ x1 ∧ x1 ≤ 99997888) (k3 : 0 ≤ x3 ∧ x3 ≤ 47) (k4 : 1 ≤ x4 ∧ x4 ≤ 48) (k5 : 0 ≤ x5 ∧ x5 ≤ 23) (k6 : 0 ≤ x6 ∧ x6 ≤ 99999992) (k10 : 0 ≤ x10 ∧ x10 ≤ 99999997) (k11 : 0 ≤ x11 ∧ x11 ≤ 23) (k12 : 0 ≤ x12 ∧ x12 ≤ 99999992) (k16 : 0 ≤ x16 ∧ x16 ≤ 99999991) (k18 : 0 ≤ x18 ∧ x18 ≤ 99999987) (k20 : 0 ≤ x20 ∧ x20 ≤ 99999999) (d0 : x4 + (-4294967296) ≤ x3 ∧ x3 ≤ x4 + (-1)) (f0 : 1 * x20 + ((-1) * x1 + ((-44) * x3 + 0)) ≤ 41) (f1 : 1 * x18 + ((-1) * x1 + ((-44) * x3 + 0)) ≤ 28) (f2 : 1 * x16 + ((-1) * x1 + ((-44) * x3 + 0)) ≤ 19) (f3 : 1 * x12 + ((-1) * x1 + ((-44) * x3 + 0)) ≤ 11) (f4 : x11 = all_0 (((r_0 + 315) + x3))) (f5 : 1 * x10 + ((-1) * x1 + ((-44) * x3 + 0)) ≤ 8) (f6 : 1 * x6 + ((-1) * x1 + ((-44) * x3 + 0)) ≤ 0) (f7 : x5 = all_0 (((r_0 + 267) + x3))) (f8 : 1 * x4 + ((-1) * all_0 (r_0 + 1) + 0) ≤ 0) (f9 : (-1) * x4 + (1 * all_0 (r_0 + 1) + 0) ≤ 0) (f11 : 1 * texts_0 + ((-1) * x20 + 0) ≤ 1) (f13 : 1 * x20 + ((-1) * x1 + ((-44) * x3 + 0)) ≤ 41) (f14 : 1 * x18 + ((-1) * x1 + ((-44) * x3 + 0)) ≤ 28) (f15 : 1 * x16 + ((-1) * x1 + ((-44) * x3 + 0)) ≤ 19) (f16 : 1 * x12 + ((-1) * x1 + ((-44) * x3 + 0)) ≤ 11) (f17 : 1 * x10 + ((-1) * x1 + ((-44) * x3 + 0)) ≤ 8) (f18 : 1 * x6 + ((-1) * x1 + ((-44) * x3 + 0)) ≤ 0) (f20 : 1 * x18 + ((-1) * x1 + ((-44) * x3 + 0)) ≤ 28) (f21 : 1 * x16 + ((-1) * x1 + ((-44) * x3 + 0)) ≤ 19) (f22 : 1 * x12 + ((-1) * x1 + ((-44) * x3 + 0)) ≤ 11) (f23 : 1 * x10 + ((-1) * x1 + ((-44) * x3 + 0)) ≤ 8) (f24 : 1 * x6 + ((-1) * x1 + ((-44) * x3 + 0)) ≤ 0) (f26 : 1 * x16 + ((-1) * x1 + ((-44) * x3 + 0)) ≤ 19) (f27 : 1 * x12 + ((-1) * x1 + ((-44) * x3 + 0)) ≤ 11) (f28 : 1 * x10 + ((-1) * x1 + ((-44) * x3 + 0)) ≤ 8) (f29 : 1 * x6 + ((-1) * x1 + ((-44) * x3 + 0)) ≤ 0) (f31 : 1 * x12 + ((-1) * x1 + ((-44) * x3 + 0)) ≤ 11) (f32 : 1 * x10 + ((-1) * x1 + ((-44) * x3 + 0)) ≤ 8) (f33 : 1 * x6 + ((-1) * x1 + ((-44) * x3 + 0)) ≤ 0) (f35 : 1 * x10 + ((-1) * x1 + ((-44) * x3 + 0)) ≤ 8) (f36 : 1 * x6 + ((-1) * x1 + ((-44) * x3 + 0)) ≤ 0) (f38 : 1 * x6 + ((-1) * x1 + ((-44) * x3 + 0)) ≤ 0) (f39 : x3 < x4) (kz_0_170 : 0 ≤ texts_0 ∧ texts_0 ≤ 100000000) (ex2 : gx = texts_0) (ex3 : 0 ≤ gx ∧ gx ≤ 99999998) : 1 * texts_0 + ((-1) * gx + 0) ≤ 0 := by
  first | assumption | omega | grind
set_option maxHeartbeats 4000000 in
theorem vc_Mo_writeEdges_10_1 (x1 : Int) (x3 : Int) (x4 : Int) (x5 : Int) (x6 : Int) (x10 : Int) (x11 : Int) (x12 : Int) (x16 : Int) (x18 : Int) (x20 : Int) (all_0 : Int → Int) (r_0 : Int) (texts_0 : Int) (gx : Int) (k1 : 0 ≤ x1 ∧ x1 ≤ 99997888) (k3 : 0 ≤ x3 ∧ x3 ≤ 47) (k4 : 1 ≤ x4 ∧ x4 ≤ 48) (k5 : 0 ≤ x5 ∧ x5 ≤ 23) (k6 : 0 ≤ x6 ∧ x6 ≤ 99999992) (k10 : 0 ≤ x10 ∧ x10 ≤ 99999997) (k11 : 0 ≤ x11 ∧ x11 ≤ 23) (k12 : 0 ≤ x12 ∧ x12 ≤ 99999992) (k16 : 0 ≤ x16 ∧ x16 ≤ 99999991) (k18 : 0 ≤ x18 ∧ x18 ≤ 99999987) (k20 : 0 ≤ x20 ∧ x20 ≤ 99999999) (d0 : x4 + (-4294967296) ≤ x3 ∧ x3 ≤ x4 + (-1)) (f0 : 1 * x20 + ((-1) * x1 + ((-44) * x3 + 0)) ≤ 41) (f1 : 1 * x18 + ((-1) * x1 + ((-44) * x3 + 0)) ≤ 28) (f2 : 1 * x16 + ((-1) * x1 + ((-44) * x3 + 0)) ≤ 19) (f3 : 1 * x12 + ((-1) * x1 + ((-44) * x3 + 0)) ≤ 11) (f4 : x11 = all_0 (((r_0 + 315) + x3))) (f5 : 1 * x10 + ((-1) * x1 + ((-44) * x3 + 0)) ≤ 8) (f6 : 1 * x6 + ((-1) * x1 + ((-44) * x3 + 0)) ≤ 0) (f7 : x5 = all_0 (((r_0 + 267) + x3))) (f8 : 1 * x4 + ((-1) * all_0 (r_0 + 1) + 0) ≤ 0) (f9 : (-1) * x4 + (1 * all_0 (r_0 + 1) + 0) ≤ 0) (f11 : 1 * texts_0 + ((-1) * x20 + 0) ≤ 1) (f13 : 1 * x20 + ((-1) * x1 + ((-44) * x3 + 0)) ≤ 41) (f14 : 1 * x18 + ((-1) * x1 + ((-44) * x3 + 0)) ≤ 28) (f15 : 1 * x16 + ((-1) * x1 + ((-44) * x3 + 0)) ≤ 19) (f16 : 1 * x12 + ((-1) * x1 + ((-44) * x3 + 0)) ≤ 11) (f17 : 1 * x10 + ((-1) * x1 + ((-44) * x3 + 0)) ≤ 8) (f18 : 1 * x6 + ((-1) * x1 + ((-44) * x3 + 0)) ≤ 0) (f20 : 1 * x18 + ((-1) * x1 + ((-44) * x3 + 0)) ≤ 28) (f21 : 1 * x16 + ((-1) * x1 + ((-44) * x3 + 0)) ≤ 19) (f22 : 1 * x12 + ((-1) * x1 + ((-44) * x3 + 0)) ≤ 11) (f23 : 1 * x10 + ((-1) * x1 + ((-44) * x3 + 0)) ≤ 8) (f24 : 1 * x6 + ((-1) * x1 + ((-44) * x3 + 0)) ≤ 0) (f26 : 1 * x16 + ((-1) * x1 + ((-44) * x3 + 0)) ≤ 19) (f27 : 1 * x12 + ((-1) * x1 + ((-44) * x3 + 0)) ≤ 11) (f28 : 1 * x10 + ((-1) * x1 + ((-44) * x3 + 0)) ≤ 8) (f29 : 1 * x6 + ((-1) * x1 + ((-44) * x3 + 0)) ≤ 0) (f31 : 1 * x12 + ((-1) * x1 + ((-44) * x3 + 0)) ≤ 11) (f32 : 1 * x10 + ((-1) * x1 + ((-44) * x3 + 0)) ≤ 8) (f33 : 1 * x6 + ((-1) * x1 + ((-44) * x3 + 0)) ≤ 0) (f35 : 1 * x10 + ((-1) * x1 + ((-44) * x3 + 0)) ≤ 8) (f36 : 1 * x6 + ((-1) * x1 + ((-44) * x3 + 0)) ≤ 0) (f38 : 1 * x6 + ((-1) * x1 + ((-44) * x3 + 0)) ≤ 0) (f39 : x3 < x4) (kz_0_170 : 0 ≤ texts_0 ∧ texts_0 ≤ 100000000) (ex2 : gx = texts_0) (ex3 : 0 ≤ gx ∧ gx ≤ 99999998) : 1 * gx + ((-1) * x1 + ((-44) * x3 + 0)) ≤ 42 := by
  first | assumption | omega | grind
def o_Mo_writeEdges_10 : or_T := (86, 22, [(0, (2, 0, 0, [165])), (1, (0, 0, 99997888, [])), (2, (2, 0, 0, [165])), (3, (0, 0, 47, [])), (4, (0, 1, 48, [])), (5, (0, 0, 23, [])), (6, (0, 0, 99999992, [])), (10, (0, 0, 99999997, [])), (11, (0, 0, 23, [])), (12, (0, 0, 99999992, [])), (16, (0, 0, 99999991, [])), (18, (0, 0, 99999987, [])), (20, (0, 0, 99999999, []))], [(23, [20, 1, 3], [41, 1, -1, -44]), (23, [18, 1, 3], [28, 1, -1, -44]), (23, [16, 1, 3], [19, 1, -1, -44]), (23, [12, 1, 3], [11, 1, -1, -44]), (20, [11, 2, 3], [50, 1, 1, 1005, 1002, 1, 2, 1, 0, 3, 1, 2, 4, 7, 4, 3, 2, 1, 5, 0, 315, 1, 2]), (23, [10, 1, 3], [8, 1, -1, -44]), (23, [6, 1, 3], [0, 1, -1, -44]), (20, [5, 2, 3], [50, 1, 1, 1005, 1002, 1, 2, 1, 0, 3, 1, 2, 4, 7, 4, 3, 2, 1, 5, 0, 267, 1, 2]), (20, [4, 2], [30, 0, 1, 0, 0, -1, 3, 2005001]), (20, [4, 2], [30, 0, -1, 0, 0, 1, 3, 2005001]), (24, [0, 2], []), (20, [2, 20], [30, 1, 1, 1, 170, -1, 0, 0]), (102, [20], [7770675568902916283677847627294075626569627356208558085007249638955617140820833992704, 165170]), (23, [20, 1, 3], [41, 1, -1, -44]), (23, [18, 1, 3], [28, 1, -1, -44]), (23, [16, 1, 3], [19, 1, -1, -44]), (23, [12, 1, 3], [11, 1, -1, -44]), (23, [10, 1, 3], [8, 1, -1, -44]), (23, [6, 1, 3], [0, 1, -1, -44]), (102, [18], [7770675568902916283677847627294075626569627356208558085007249638955617140820833992704, 165170]), (23, [18, 1, 3], [28, 1, -1, -44]), (23, [16, 1, 3], [19, 1, -1, -44]), (23, [12, 1, 3], [11, 1, -1, -44]), (23, [10, 1, 3], [8, 1, -1, -44]), (23, [6, 1, 3], [0, 1, -1, -44]), (102, [16], [7770675568902916283677847627294075626569627356208558085007249638955617140820833992704, 165170]), (23, [16, 1, 3], [19, 1, -1, -44]), (23, [12, 1, 3], [11, 1, -1, -44]), (23, [10, 1, 3], [8, 1, -1, -44]), (23, [6, 1, 3], [0, 1, -1, -44]), (102, [12], [7770675568902916283677847627294075626569627356208558085007249638955617140820833992704, 165170]), (23, [12, 1, 3], [11, 1, -1, -44]), (23, [10, 1, 3], [8, 1, -1, -44]), (23, [6, 1, 3], [0, 1, -1, -44]), (102, [10], [7770675568902916283677847627294075626569627356208558085007249638955617140820833992704, 165170]), (23, [10, 1, 3], [8, 1, -1, -44]), (23, [6, 1, 3], [0, 1, -1, -44]), (102, [6], [7770675568902916283677847627294075626569627356208558085007249638955617140820833992704, 165170]), (23, [6, 1, 3], [0, 1, -1, -44]), (7, [3, 4], [2])], [], [(0, 0, 99999998, [])], [(20, [2, 22], [30, 0, 1, 1, 170, -1, 0, 0]), (23, [22, 1, 3], [42, 1, -1, -44])], [], [(3, 4, -4294967296, -1)])
theorem oo_Mo_writeEdges_10 {kA : Nat → ClassId} : or_ok PRD kA GG o_Mo_writeEdges_10 := by
  refine or_mk fun A ta ws vs hD hth hl => ?_
  intro t0 r0 t1 k1 t2 r2 t3 k3 t4 k4 t5 k5 t6 k6 t10 k10 t11 k11 t12 k12 t16 k16 t18 k18 t20 k20 d0 f0 f1 f2 f3 f4 f5 f6 f7 f8 f9 f10 f11 ta1 w1 le1 s1 f13 f14 f15 f16 f17 f18 ta2 w2 le2 s2 f20 f21 f22 f23 f24 ta3 w3 le3 s3 f26 f27 f28 f29 ta4 w4 le4 s4 f31 f32 f33 ta5 w5 le5 s5 f35 f36 ta6 w6 le6 s6 f38 f39
  replace f0 := shm_2034 f0
  replace f1 := shm_2033 f1
  replace f2 := shm_2032 f2
  replace f3 := shm_2030 f3
  replace f4 := shm_603 f4
  replace f5 := shm_2029 f5
  replace f6 := shm_2028 f6
  replace f7 := shm_749 f7
  replace f8 := shm_121 f8
  replace f9 := shm_122 f9
  replace f10 := shm_5 f10
  replace f11 := shm_132 f11
  replace f13 := shm_2034 f13
  replace f14 := shm_2033 f14
  replace f15 := shm_2032 f15
  replace f16 := shm_2030 f16
  replace f17 := shm_2029 f17
  replace f18 := shm_2028 f18
  replace f20 := shm_2033 f20
  replace f21 := shm_2032 f21
  replace f22 := shm_2030 f22
  replace f23 := shm_2029 f23
  replace f24 := shm_2028 f24
  replace f26 := shm_2032 f26
  replace f27 := shm_2030 f27
  replace f28 := shm_2029 f28
  replace f29 := shm_2028 f29
  replace f31 := shm_2030 f31
  replace f32 := shm_2029 f32
  replace f33 := shm_2028 f33
  replace f35 := shm_2029 f35
  replace f36 := shm_2028 f36
  replace f38 := shm_2028 f38
  replace f39 := shm_6 f39
  have q2 : n_v vs 2 = n_v vs 0 := f10.symm
  simp only [q2] at f4 f7 f8 f9 f11
  have cr_0_2 := fdq_10 hD hth r0
  have br_0_2_F5_1_0 : w_ei ws (w_ar ws (n_v vs 0) 2) (w_fi ws (n_v vs 0) 5 + 1) = w_el ws (w_ar ws (n_v vs 0) 2) (w_fi ws (n_v vs 0) 5 + 1).toNat := rfl
  have kz_0_170 := fdq_11 hD hth r0
  have kv0 := fdq_11 hD hth r0
  obtain ⟨x, ex, hx⟩ := iv_ex (ta := ta) (lo := 0) (hi := 99999998) (z := w_fi ws (n_v vs 0) 170) (by omega) (by omega) (by omega) (by omega)
  have ex2 : v_iv (Value.int x) = w_fi ws (n_v vs 0) 170 := ex
  have ex3 : 0 ≤ v_iv (Value.int x) ∧ v_iv (Value.int x) ≤ 99999998 := tv_rng hx
  have e_1 : n_v (vs ++ [Value.int x]) 1 = n_v vs 1 := n_v_old (by rw [hl]; decide)
  have e_2 : n_v (vs ++ [Value.int x]) 2 = n_v vs 2 := n_v_old (by rw [hl]; decide)
  have e_3 : n_v (vs ++ [Value.int x]) 3 = n_v vs 3 := n_v_old (by rw [hl]; decide)
  have e_22 : n_v (vs ++ [Value.int x]) 22 = Value.int x := n_v_new hl
  have nf0 : fc_1 PRD (20, [2, 22], [30, 0, 1, 1, 170, -1, 0, 0]) ws (vs ++ [Value.int x]) := by
    refine ⟨nf_inA hl rfl, sgq_131 ?_⟩
    · show 1 * w_fi ws (n_v (vs ++ [Value.int x]) 2) 170 + ((-1) * v_iv (n_v (vs ++ [Value.int x]) 22) + 0) ≤ 0
      simp only [e_2, e_22, q2]
      exact vc_Mo_writeEdges_10_0 (v_iv (n_v vs 1)) (v_iv (n_v vs 3)) (v_iv (n_v vs 4)) (v_iv (n_v vs 5)) (v_iv (n_v vs 6)) (v_iv (n_v vs 10)) (v_iv (n_v vs 11)) (v_iv (n_v vs 12)) (v_iv (n_v vs 16)) (v_iv (n_v vs 18)) (v_iv (n_v vs 20)) (w_ei ws (w_ar ws (n_v vs 0) 2)) (w_fi ws (n_v vs 0) 5) (w_fi ws (n_v vs 0) 170) (v_iv (Value.int x)) k1 k3 k4 k5 k6 k10 k11 k12 k16 k18 k20 d0 f0 f1 f2 f3 f4 f5 f6 f7 f8 f9 f11 f13 f14 f15 f16 f17 f18 f20 f21 f22 f23 f24 f26 f27 f28 f29 f31 f32 f33 f35 f36 f38 f39 kz_0_170 ex2 ex3
  have nf1 : fc_1 PRD (23, [22, 1, 3], [42, 1, -1, -44]) ws (vs ++ [Value.int x]) := by
    refine ⟨nf_inA hl rfl, sgq_2031 ?_⟩
    · show 1 * v_iv (n_v (vs ++ [Value.int x]) 22) + ((-1) * v_iv (n_v (vs ++ [Value.int x]) 1) + ((-44) * v_iv (n_v (vs ++ [Value.int x]) 3) + 0)) ≤ 42
      simp only [e_1, e_3, e_22]
      exact vc_Mo_writeEdges_10_1 (v_iv (n_v vs 1)) (v_iv (n_v vs 3)) (v_iv (n_v vs 4)) (v_iv (n_v vs 5)) (v_iv (n_v vs 6)) (v_iv (n_v vs 10)) (v_iv (n_v vs 11)) (v_iv (n_v vs 12)) (v_iv (n_v vs 16)) (v_iv (n_v vs 18)) (v_iv (n_v vs 20)) (w_ei ws (w_ar ws (n_v vs 0) 2)) (w_fi ws (n_v vs 0) 5) (w_fi ws (n_v vs 0) 170) (v_iv (Value.int x)) k1 k3 k4 k5 k6 k10 k11 k12 k16 k18 k20 d0 f0 f1 f2 f3 f4 f5 f6 f7 f8 f9 f11 f13 f14 f15 f16 f17 f18 f20 f21 f22 f23 f24 f26 f27 f28 f29 f31 f32 f33 f35 f36 f38 f39 kz_0_170 ex2 ex3
  exact ⟨(fun _ h => (by cases h)), [Value.int x], ag_one hx, List.forall_mem_cons.mpr ⟨⟨show (20 : Nat) < 100 from by decide, nf0⟩, List.forall_mem_cons.mpr ⟨⟨show (23 : Nat) < 100 from by decide, nf1⟩, (fun _ h => (by cases h))⟩⟩, (fun _ h => (by cases h))⟩
set_option maxHeartbeats 4000000 in
theorem vc_Mo_writeEdges_11_0 (x1 : Int) (x3 : Int) (x4 : Int) (x5 : Int) (x6 : Int) (x10 : Int) (x11 : Int) (x12 : Int) (x16 : Int) (x18 : Int) (x20 : Int) (x22 : Int) (x23 : Int) (all_0 : Int → Int) (r_0 : Int) (texts_0 : Int) (k1 : 0 ≤ x1 ∧ x1 ≤ 99997888) (k3 : 0 ≤ x3 ∧ x3 ≤ 47) (k4 : 1 ≤ x4 ∧ x4 ≤ 48) (k5 : 0 ≤ x5 ∧ x5 ≤ 23) (k6 : 0 ≤ x6 ∧ x6 ≤ 99999992) (k10 : 0 ≤ x10 ∧ x10 ≤ 99999997) (k11 : 0 ≤ x11 ∧ x11 ≤ 23) (k12 : 0 ≤ x12 ∧ x12 ≤ 99999992) (k16 : 0 ≤ x16 ∧ x16 ≤ 99999991) (k18 : 0 ≤ x18 ∧ x18 ≤ 99999987) (k20 : 0 ≤ x20 ∧ x20 ≤ 99999999) (k22 : 0 ≤ x22 ∧ x22 ≤ 99999998) (k23 : 1 ≤ x23 ∧ x23 ≤ 48) (d0 : x3 + 1 ≤ x23 ∧ x23 ≤ x3 + 1) (d1 : x4 + (-4294967296) ≤ x23 ∧ x23 ≤ x4 + 0) (d2 : x4 + (-4294967296) ≤ x3 ∧ x3 ≤ x4 + (-1)) (f0 : x23 = x3 + 1) (f1 : 1 * x22 + ((-1) * x1 + ((-44) * x3 + 0)) ≤ 42) (f2 : 1 * x20 + ((-1) * x1 + ((-44) * x3 + 0)) ≤ 41) (f3 : 1 * x18 + ((-1) * x1 + ((-44) * x3 + 0)) ≤ 28) (f4 : 1 * x16 + ((-1) * x1 + ((-44) * x3 + 0)) ≤ 19) (f5 : 1 * x12 + ((-1) * x1 + ((-44) * x3 + 0)) ≤ 11) (f6 : x11 = all_0 (((r_0 + 315) + x3))) (f7 : 1 * x10 + ((-1) * x1 + ((-44) * x3 + 0)) ≤ 8) (f8 : 1 * x6 + ((-1) * x1 + ((-44) * x3 + 0)) ≤ 0) (f9 : x5 = all_0 (((r_0 + 267) + x3))) (f10 : 1 * x4 + ((-1) * all_0 (r_0 + 1) + 0) ≤ 0) (f11 : (-1) * x4 + (1 * all_0 (r_0 + 1) + 0) ≤ 0) (f13 : 1 * texts_0 + ((-1) * x22 + 0) ≤ 2) (f15 : 1 * x22 + ((-1) * x1 + ((-44) * x3 + 0)) ≤ 42) (f16 : 1 * x20 + ((-1) * x1 + ((-44) * x3 + 0)) ≤ 41) (f17 : 1 * x18 + ((-1) * x1 + ((-44) * x3 + 0)) ≤ 28) (f18 : 1 * x16 + ((-1) * x1 + ((-44) * x3 + 0)) ≤ 19) (f19 : 1 * x12 + ((-1) * x1 + ((-44) * x3 + 0)) ≤ 11) (f20 : 1 * x10 + ((-1) * x1 + ((-44) * x3 + 0)) ≤ 8) (f21 : 1 * x6 + ((-1) * x1 + ((-44) * x3 + 0)) ≤ 0) (f23 : 1 * x20 + ((-1) * x1 + ((-44) * x3 + 0)) ≤ 41) (f24 : 1 * x18 + ((-1) * x1 + ((-44) * x3 + 0)) ≤ 28) (f25 : 1 * x16 + ((-1) * x1 + ((-44) * x3 + 0)) ≤ 19) (f26 : 1 * x12 + ((-1) * x1 + ((-44) * x3 + 0)) ≤ 11) (f27 : 1 * x10 + ((-1) * x1 + ((-44) * x3 + 0)) ≤ 8) (f28 : 1 * x6 + ((-1) * x1 + ((-44) * x3 + 0)) ≤ 0) (f30 : 1 * x18 + ((-1) * x1 + ((-44) * x3 + 0)) ≤ 28) (f31 : 1 * x16 + ((-1) * x1 + ((-44) * x3 + 0)) ≤ 19) (f32 : 1 * x12 + ((-1) * x1 + ((-44) * x3 + 0)) ≤ 11) (f33 : 1 * x10 + ((-1) * x1 + ((-44) * x3 + 0)) ≤ 8) (f34 : 1 * x6 + ((-1) * x1 + ((-44) * x3 + 0)) ≤ 0) (f36 : 1 * x16 + ((-1) * x1 + ((-44) * x3 + 0)) ≤ 19) (f37 : 1 * x12 + ((-1) * x1 + ((-44) * x3 + 0)) ≤ 11) (f38 : 1 * x10 + ((-1) * x1 + ((-44) * x3 + 0)) ≤ 8) (f39 : 1 * x6 + ((-1) * x1 + ((-44) * x3 + 0)) ≤ 0) (f41 : 1 * x12 + ((-1) * x1 + ((-44) * x3 + 0)) ≤ 11) (f42 : 1 * x10 + ((-1) * x1 + ((-44) * x3 + 0)) ≤ 8) (f43 : 1 * x6 + ((-1) * x1 + ((-44) * x3 + 0)) ≤ 0) (f45 : 1 * x10 + ((-1) * x1 + ((-44) * x3 + 0)) ≤ 8) (f46 : 1 * x6 + ((-1) * x1 + ((-44) * x3 + 0)) ≤ 0) (f48 : 1 * x6 + ((-1) * x1 + ((-44) * x3 + 0)) ≤ 0) (f49 : x3 < x4) (kz_0_170 : 0 ≤ texts_0 ∧ texts_0 ≤ 100000000) : 1 * texts_0 + ((-1) * x1 + ((-44) * x23 + 0)) ≤ 0 := by
  first | assumption | omega | grind
def o_Mo_writeEdges_11 : or_T := (2, 24, [(0, (2, 0, 0, [165])), (1, (0, 0, 99997888, [])), (3, (0, 0, 47, [])), (4, (0, 1, 48, [])), (5, (0, 0, 23, [])), (6, (0, 0, 99999992, [])), (10, (0, 0, 99999997, [])), (11, (0, 0, 23, [])), (12, (0, 0, 99999992, [])), (16, (0, 0, 99999991, [])), (18, (0, 0, 99999987, [])), (20, (0, 0, 99999999, [])), (22, (0, 0, 99999998, [])), (23, (0, 1, 48, []))], [(6, [23, 3], [1]), (23, [22, 1, 3], [42, 1, -1, -44]), (23, [20, 1, 3], [41, 1, -1, -44]), (23, [18, 1, 3], [28, 1, -1, -44]), (23, [16, 1, 3], [19, 1, -1, -44]), (23, [12, 1, 3], [11, 1, -1, -44]), (20, [11, 2, 3], [50, 1, 1, 1005, 1002, 1, 2, 1, 0, 3, 1, 2, 4, 7, 4, 3, 2, 1, 5, 0, 315, 1, 2]), (23, [10, 1, 3], [8, 1, -1, -44]), (23, [6, 1, 3], [0, 1, -1, -44]), (20, [5, 2, 3], [50, 1, 1, 1005, 1002, 1, 2, 1, 0, 3, 1, 2, 4, 7, 4, 3, 2, 1, 5, 0, 267, 1, 2]), (20, [4, 2], [30, 0, 1, 0, 0, -1, 3, 2005001]), (20, [4, 2], [30, 0, -1, 0, 0, 1, 3, 2005001]), (24, [0, 2], []), (20, [2, 22], [30, 2, 1, 1, 170, -1, 0, 0]), (102, [22], [7770675568902916283677847627294075626569627356208558085007249638955617140820833992704, 165170]), (23, [22, 1, 3], [42, 1, -1, -44]), (23, [20, 1, 3], [41, 1, -1, -44]), (23, [18, 1, 3], [28, 1, -1, -44]), (23, [16, 1, 3], [19, 1, -1, -44]), (23, [12, 1, 3], [11, 1, -1, -44]), (23, [10, 1, 3], [8, 1, -1, -44]), (23, [6, 1, 3], [0, 1, -1, -44]), (102, [20], [7770675568902916283677847627294075626569627356208558085007249638955617140820833992704, 165170]), (23, [20, 1, 3], [41, 1, -1, -44]), (23, [18, 1, 3], [28, 1, -1, -44]), (23, [16, 1, 3], [19, 1, -1, -44]), (23, [12, 1, 3], [11, 1, -1, -44]), (23, [10, 1, 3], [8, 1, -1, -44]), (23, [6, 1, 3], [0, 1, -1, -44]), (102, [18], [7770675568902916283677847627294075626569627356208558085007249638955617140820833992704, 165170]), (23, [18, 1, 3], [28, 1, -1, -44]), (23, [16, 1, 3], [19, 1, -1, -44]), (23, [12, 1, 3], [11, 1, -1, -44]), (23, [10, 1, 3], [8, 1, -1, -44]), (23, [6, 1, 3], [0, 1, -1, -44]), (102, [16], [7770675568902916283677847627294075626569627356208558085007249638955617140820833992704, 165170]), (23, [16, 1, 3], [19, 1, -1, -44]), (23, [12, 1, 3], [11, 1, -1, -44]), (23, [10, 1, 3], [8, 1, -1, -44]), (23, [6, 1, 3], [0, 1, -1, -44]), (102, [12], [7770675568902916283677847627294075626569627356208558085007249638955617140820833992704, 165170]), (23, [12, 1, 3], [11, 1, -1, -44]), (23, [10, 1, 3], [8, 1, -1, -44]), (23, [6, 1, 3], [0, 1, -1, -44]), (102, [10], [7770675568902916283677847627294075626569627356208558085007249638955617140820833992704, 165170]), (23, [10, 1, 3], [8, 1, -1, -44]), (23, [6, 1, 3], [0, 1, -1, -44]), (102, [6], [7770675568902916283677847627294075626569627356208558085007249638955617140820833992704, 165170]), (23, [6, 1, 3], [0, 1, -1, -44]), (7, [3, 4], [2])], [], [], [(20, [2, 1, 23], [30, 0, 1, 1, 170, -1, 0, 0, -44, 0, 0])], [], [(23, 3, 1, 1), (23, 4, -4294967296, 0), (3, 4, -4294967296, -1)])
theorem oo_Mo_writeEdges_11 {kA : Nat → ClassId} : or_ok PRD kA GG o_Mo_writeEdges_11 := by
  refine or_mk fun A ta ws vs hD hth hl => ?_
  intro t0 r0 t1 k1 t3 k3 t4 k4 t5 k5 t6 k6 t10 k10 t11 k11 t12 k12 t16 k16 t18 k18 t20 k20 t22 k22 t23 k23 d0 d1 d2 f0 f1 f2 f3 f4 f5 f6 f7 f8 f9 f10 f11 f12 f13 ta1 w1 le1 s1 f15 f16 f17 f18 f19 f20 f21 ta2 w2 le2 s2 f23 f24 f25 f26 f27 f28 ta3 w3 le3 s3 f30 f31 f32 f33 f34 ta4 w4 le4 s4 f36 f37 f38 f39 ta5 w5 le5 s5 f41 f42 f43 ta6 w6 le6 s6 f45 f46 ta7 w7 le7 s7 f48 f49
  replace f0 := shm_4 f0
  replace f1 := shm_2031 f1
  replace f2 := shm_2034 f2
  replace f3 := shm_2033 f3
  replace f4 := shm_2032 f4
  replace f5 := shm_2030 f5
  replace f6 := shm_603 f6
  replace f7 := shm_2029 f7
  replace f8 := shm_2028 f8
  replace f9 := shm_749 f9
  replace f10 := shm_121 f10
  replace f11 := shm_122 f11
  replace f12 := shm_5 f12
  replace f13 := shm_210 f13
  replace f15 := shm_2031 f15
  replace f16 := shm_2034 f16
  replace f17 := shm_2033 f17
  replace f18 := shm_2032 f18
  replace f19 := shm_2030 f19
  replace f20 := shm_2029 f20
  replace f21 := shm_2028 f21
  replace f23 := shm_2034 f23
  replace f24 := shm_2033 f24
  replace f25 := shm_2032 f25
  replace f26 := shm_2030 f26
  replace f27 := shm_2029 f27
  replace f28 := shm_2028 f28
  replace f30 := shm_2033 f30
  replace f31 := shm_2032 f31
  replace f32 := shm_2030 f32
  replace f33 := shm_2029 f33
  replace f34 := shm_2028 f34
  replace f36 := shm_2032 f36
  replace f37 := shm_2030 f37
  replace f38 := shm_2029 f38
  replace f39 := shm_2028 f39
  replace f41 := shm_2030 f41
  replace f42 := shm_2029 f42
  replace f43 := shm_2028 f43
  replace f45 := shm_2029 f45
  replace f46 := shm_2028 f46
  replace f48 := shm_2028 f48
  replace f49 := shm_6 f49
  have q2 : n_v vs 2 = n_v vs 0 := f12.symm
  simp only [q2] at f6 f9 f10 f11 f13
  have kz_0_170 := fdq_11 hD hth r0
  have nf0 : fc_1 PRD (20, [2, 1, 23], [30, 0, 1, 1, 170, -1, 0, 0, -44, 0, 0]) ws (vs) := by
    refine ⟨nf_in hl rfl, sgq_2026 ?_⟩
    · show 1 * w_fi ws (n_v vs 2) 170 + ((-1) * v_iv (n_v vs 1) + ((-44) * v_iv (n_v vs 23) + 0)) ≤ 0
      rw [q2]
      exact vc_Mo_writeEdges_11_0 (v_iv (n_v vs 1)) (v_iv (n_v vs 3)) (v_iv (n_v vs 4)) (v_iv (n_v vs 5)) (v_iv (n_v vs 6)) (v_iv (n_v vs 10)) (v_iv (n_v vs 11)) (v_iv (n_v vs 12)) (v_iv (n_v vs 16)) (v_iv (n_v vs 18)) (v_iv (n_v vs 20)) (v_iv (n_v vs 22)) (v_iv (n_v vs 23)) (w_ei ws (w_ar ws (n_v vs 0) 2)) (w_fi ws (n_v vs 0) 5) (w_fi ws (n_v vs 0) 170) k1 k3 k4 k5 k6 k10 k11 k12 k16 k18 k20 k22 k23 d0 d1 d2 f0 f1 f2 f3 f4 f5 f6 f7 f8 f9 f10 f11 f13 f15 f16 f17 f18 f19 f20 f21 f23 f24 f25 f26 f27 f28 f30 f31 f32 f33 f34 f36 f37 f38 f39 f41 f42 f43 f45 f46 f48 f49 kz_0_170
  refine ⟨(fun _ h => (by cases h)), [], trivial, ?_, (fun _ h => (by cases h))⟩
  rw [List.append_nil]
  exact List.forall_mem_cons.mpr ⟨⟨show (20 : Nat) < 100 from by decide, nf0⟩, (fun _ h => (by cases h))⟩
def n_Mo_writeEdges_an : List an_T := [(2, [(0, (2, 0, 0, [165])), (1, (0, 0, 48, []))], [], (0, 0), [(0, 0, 99998), (1, 3, 48), (0, 0, 100000)], [], [], [(2, 0, 0, [165]), (0, 0, 99997888, [])], 0, [], [(20, [2, 1, 3], [30, 0, 1, 1, 170, (Int.negSucc 0), 0, 0, (Int.negSucc 43), 0, 0]), (24, [0, 2], [])])]
def t_Mo_writeEdges_ct : ct_L := [(1, 394, e_Mo_tail), (1, 398, e_Mo_head), (1, 401, e_Mo_edges), (1, 553, e_Mo_one), (1, 737, e_Mo_weight), (1, 1293, e_Mo_writeNode), (1, 1298, e_Mo_writeNumber), (118, 1290, e_Mo_write_at_s5019), (118, 1290, e_Mo_write_at_s5020), (193, 1290, e_Mo_write_at_s5021), (241, 1290, e_Mo_write_at_s5045), (262, 1290, e_Mo_write_at_s5015), (1000001, 1301, en_ro [] (2, 0, 0, [5045])), (1000001, 1303, en_ro [] (2, 0, 0, [5015])), (1000001, 1314, en_ro [] (2, 0, 0, [5019])), (1000001, 1316, en_ro [] (2, 0, 0, [5020])), (1000001, 1318, en_ro [] (2, 0, 0, [5021]))]
set_option maxRecDepth 100000 in
theorem c_Mo_writeEdges {l : Launch} {D : va_G} {kA : Nat → ClassId} (h_Mo_edges : ct_ok PRD l D kA GG y_Mo_edges z_Mo_edges e_Mo_edges) (h_Mo_head : ct_ok PRD l D kA GG y_Mo_head z_Mo_head e_Mo_head) (h_Mo_one : ct_ok PRD l D kA GG y_Mo_one z_Mo_one e_Mo_one) (h_Mo_tail : ct_ok PRD l D kA GG y_Mo_tail z_Mo_tail e_Mo_tail) (h_Mo_weight : ct_ok PRD l D kA GG y_Mo_weight z_Mo_weight e_Mo_weight) (h_Mo_writeNode : ct_ok PRD l D kA GG y_Mo_writeNode z_Mo_writeNode e_Mo_writeNode) (h_Mo_writeNumber : ct_ok PRD l D kA GG y_Mo_writeNumber z_Mo_writeNumber e_Mo_writeNumber) (h_Mo_write_at_s5015 : ct_ok PRD l D kA GG y_Mo_write_at_s5015 z_Mo_write_at_s5015 e_Mo_write_at_s5015) (h_Mo_write_at_s5019 : ct_ok PRD l D kA GG y_Mo_write_at_s5019 z_Mo_write_at_s5019 e_Mo_write_at_s5019) (h_Mo_write_at_s5020 : ct_ok PRD l D kA GG y_Mo_write_at_s5020 z_Mo_write_at_s5020 e_Mo_write_at_s5020) (h_Mo_write_at_s5021 : ct_ok PRD l D kA GG y_Mo_write_at_s5021 z_Mo_write_at_s5021 e_Mo_write_at_s5021) (h_Mo_write_at_s5045 : ct_ok PRD l D kA GG y_Mo_write_at_s5045 z_Mo_write_at_s5045 e_Mo_write_at_s5045) : ct_ok PRD l D kA GG y_Mo_writeEdges z_Mo_writeEdges e_Mo_writeEdges := chk_all_ok (FT := []) (PT := []) (CT := t_Mo_writeEdges_ct) (KT := []) (NT := []) (AN := n_Mo_writeEdges_an) (OT := [o_Mo_writeEdges_0, o_Mo_writeEdges_1, o_Mo_writeEdges_2, o_Mo_writeEdges_3, o_Mo_writeEdges_4, o_Mo_writeEdges_5, o_Mo_writeEdges_6, o_Mo_writeEdges_7, o_Mo_writeEdges_8, o_Mo_writeEdges_9, o_Mo_writeEdges_10, o_Mo_writeEdges_11]) 3 340 (List.forall_mem_cons.mpr ⟨oo_Mo_writeEdges_0, List.forall_mem_cons.mpr ⟨oo_Mo_writeEdges_1, List.forall_mem_cons.mpr ⟨oo_Mo_writeEdges_2, List.forall_mem_cons.mpr ⟨oo_Mo_writeEdges_3, List.forall_mem_cons.mpr ⟨oo_Mo_writeEdges_4, List.forall_mem_cons.mpr ⟨oo_Mo_writeEdges_5, List.forall_mem_cons.mpr ⟨oo_Mo_writeEdges_6, List.forall_mem_cons.mpr ⟨oo_Mo_writeEdges_7, List.forall_mem_cons.mpr ⟨oo_Mo_writeEdges_8, List.forall_mem_cons.mpr ⟨oo_Mo_writeEdges_9, List.forall_mem_cons.mpr ⟨oo_Mo_writeEdges_10, List.forall_mem_cons.mpr ⟨oo_Mo_writeEdges_11, List.forall_mem_nil _⟩⟩⟩⟩⟩⟩⟩⟩⟩⟩⟩⟩) (by decide +kernel) ⟨List.forall_mem_nil _, List.forall_mem_nil _, List.forall_mem_cons.mpr ⟨cl_virtual (y := y_Mo_tail) (ci := 13) rfl rfl ⟨_, _, rfl⟩ (by decide +kernel) h_Mo_tail wm_3045 wm_9 wm_3042 wm_3044 wv_13_8 ⟨by decide, by decide, by decide +kernel⟩ (by decide), List.forall_mem_cons.mpr ⟨cl_virtual (y := y_Mo_head) (ci := 13) rfl rfl ⟨_, _, rfl⟩ (by decide +kernel) h_Mo_head wm_3049 wm_9 wm_3046 wm_3048 wv_13_9 ⟨by decide, by decide, by decide +kernel⟩ (by decide), List.forall_mem_cons.mpr ⟨cl_virtual (y := y_Mo_edges) (ci := 13) rfl rfl ⟨_, _, rfl⟩ (by decide +kernel) h_Mo_edges wm_3037 wm_9 wm_3034 wm_3036 wv_13_6 ⟨by decide, by decide, by decide +kernel⟩ (by decide), List.forall_mem_cons.mpr ⟨cl_virtual (y := y_Mo_one) (ci := 13) rfl rfl ⟨_, _, rfl⟩ (by decide +kernel) h_Mo_one wm_3299 wm_9 wm_3296 wm_3298 wv_16_15 ⟨by decide, by decide, by decide +kernel⟩ (by decide), List.forall_mem_cons.mpr ⟨cl_virtual (y := y_Mo_weight) (ci := 13) rfl rfl ⟨_, _, rfl⟩ (by decide +kernel) h_Mo_weight wm_3339 wm_9 wm_3336 wm_3338 wv_17_7 ⟨by decide, by decide, by decide +kernel⟩ (by decide), List.forall_mem_cons.mpr ⟨cl_virtual (y := y_Mo_writeNode) (ci := 13) rfl rfl ⟨_, _, rfl⟩ (by decide +kernel) h_Mo_writeNode wm_3918 wm_9 wm_3915 wm_3917 wv_24_9 ⟨by decide, by decide, by decide +kernel⟩ (by decide), List.forall_mem_cons.mpr ⟨cl_virtual (y := y_Mo_writeNumber) (ci := 13) rfl rfl ⟨_, _, rfl⟩ (by decide +kernel) h_Mo_writeNumber wm_3927 wm_9 wm_3924 wm_3926 wv_24_11 ⟨by decide, by decide, by decide +kernel⟩ (by decide), List.forall_mem_cons.mpr ⟨cl_virtual (y := y_Mo_write_at_s5019) (ci := 13) rfl rfl ⟨_, _, rfl⟩ (by decide +kernel) h_Mo_write_at_s5019 wm_3910 wm_9 wm_3907 wm_3909 wv_24_7 ⟨by decide, by decide, by decide +kernel⟩ (by decide), List.forall_mem_cons.mpr ⟨cl_virtual (y := y_Mo_write_at_s5020) (ci := 13) rfl rfl ⟨_, _, rfl⟩ (by decide +kernel) h_Mo_write_at_s5020 wm_3910 wm_9 wm_3907 wm_3909 wv_24_7 ⟨by decide, by decide, by decide +kernel⟩ (by decide), List.forall_mem_cons.mpr ⟨cl_virtual (y := y_Mo_write_at_s5021) (ci := 13) rfl rfl ⟨_, _, rfl⟩ (by decide +kernel) h_Mo_write_at_s5021 wm_3910 wm_9 wm_3907 wm_3909 wv_24_7 ⟨by decide, by decide, by decide +kernel⟩ (by decide), List.forall_mem_cons.mpr ⟨cl_virtual (y := y_Mo_write_at_s5045) (ci := 13) rfl rfl ⟨_, _, rfl⟩ (by decide +kernel) h_Mo_write_at_s5045 wm_3910 wm_9 wm_3907 wm_3909 wv_24_7 ⟨by decide, by decide, by decide +kernel⟩ (by decide), List.forall_mem_cons.mpr ⟨cl_virtual (y := y_Mo_write_at_s5015) (ci := 13) rfl rfl ⟨_, _, rfl⟩ (by decide +kernel) h_Mo_write_at_s5015 wm_3910 wm_9 wm_3907 wm_3909 wv_24_7 ⟨by decide, by decide, by decide +kernel⟩ (by decide), List.forall_mem_cons.mpr ⟨cl_ldcw (own := "DrawingHouseModel") (idx := 1301) (i := 45) (tx := "]") (by decide +kernel) (by decide +kernel) (by decide +kernel), List.forall_mem_cons.mpr ⟨cl_ldcw (own := "DrawingHouseModel") (idx := 1303) (i := 15) (tx := ";\n") (by decide +kernel) (by decide +kernel) (by decide +kernel), List.forall_mem_cons.mpr ⟨cl_ldcw (own := "DrawingHouseModel") (idx := 1314) (i := 19) (tx := " > ") (by decide +kernel) (by decide +kernel) (by decide +kernel), List.forall_mem_cons.mpr ⟨cl_ldcw (own := "DrawingHouseModel") (idx := 1316) (i := 20) (tx := " - ") (by decide +kernel) (by decide +kernel) (by decide +kernel), List.forall_mem_cons.mpr ⟨cl_ldcw (own := "DrawingHouseModel") (idx := 1318) (i := 21) (tx := " [weight=") (by decide +kernel) (by decide +kernel) (by decide +kernel), List.forall_mem_nil _⟩⟩⟩⟩⟩⟩⟩⟩⟩⟩⟩⟩⟩⟩⟩⟩⟩, List.forall_mem_nil _, List.forall_mem_nil _, GG_pl⟩ (by decide +kernel)
set_option maxHeartbeats 4000000 in
theorem vc_Mo_writeGroup_at_l0_0_0 (x2 : Int) (x3 : Int) (texts_0 : Int) (k2 : 0 ≤ x2 ∧ x2 ≤ 87902919) (k3 : 0 ≤ x3 ∧ x3 ≤ 0) (f0 : 1 * texts_0 + ((-1) * x2 + 0) ≤ 0) (kz_0_170 : 0 ≤ texts_0 ∧ texts_0 ≤ 100000000) : 1 * texts_0 + ((-1) * x2 + ((-36) * x3 + 0)) ≤ 0 := by
  first | assumption | omega | grind
def o_Mo_writeGroup_at_l0_0 : or_T := (2, 4, [(0, (2, 0, 0, [165])), (2, (0, 0, 87902919, [])), (3, (0, 0, 0, []))], [(20, [0, 2], [30, 0, 1, 1, 170, -1, 0, 0])], [], [], [(20, [0, 2, 3], [30, 0, 1, 1, 170, -1, 0, 0, -36, 0, 0]), (24, [0, 0], [])], [], [])
theorem oo_Mo_writeGroup_at_l0_0 {kA : Nat → ClassId} : or_ok PRD kA GG o_Mo_writeGroup_at_l0_0 := by
  refine or_mk fun A ta ws vs hD hth hl => ?_
  intro t0 r0 t2 k2 t3 k3 f0
  have kz_0_170 := fdq_11 hD hth r0
  have nf0 : fc_1 PRD (20, [0, 2, 3], [30, 0, 1, 1, 170, -1, 0, 0, -36, 0, 0]) ws (vs) := ⟨nf_in hl rfl, sgq_2035 (vc_Mo_writeGroup_at_l0_0_0 (v_iv (n_v vs 2)) (v_iv (n_v vs 3)) (w_fi ws (n_v vs 0) 170) k2 k3 (shm_131 f0) kz_0_170)⟩
  have nf1 : fc_1 PRD (24, [0, 0], []) ws (vs) := by
    refine ⟨nf_in hl rfl, sgq_1 ?_⟩
    · show n_v vs 0 = n_v vs 0
      first | rfl | simp only [true_and]
  refine ⟨(fun _ h => (by cases h)), [], trivial, ?_, (fun _ h => (by cases h))⟩
  rw [List.append_nil]
  exact List.forall_mem_cons.mpr ⟨⟨show (20 : Nat) < 100 from by decide, nf0⟩, List.forall_mem_cons.mpr ⟨⟨show (24 : Nat) < 100 from by decide, nf1⟩, (fun _ h => (by cases h))⟩⟩
set_option maxHeartbeats 4000000 in
theorem vc_Mo_writeGroup_at_l0_1_0 (x2 : Int) (x4 : Int) (x5 : Int) (x6 : Int) (x7 : Int) (x8 : Int) (all_0 : Int → Int) (r_0 : Int) (texts_0 : Int) (k2 : 0 ≤ x2 ∧ x2 ≤ 87902919) (k4 : 0 ≤ x4 ∧ x4 ≤ 0) (k5 : 0 ≤ x5 ∧ x5 ≤ 24) (k6 : 0 ≤ x6 ∧ x6 ≤ 24) (k7 : 1 ≤ x7 ∧ x7 ≤ 1) (k8 : 1 ≤ x8 ∧ x8 ≤ 1) (d0 : x6 + 0 ≤ x5 ∧ x5 ≤ x6 + 4294967296) (f0 : x8 = x4 + x7) (f1 : x6 ≤ x5) (f2 : 1 * x6 + ((-1) * all_0 (r_0 + 0) + 0) ≤ 0) (f3 : (-1) * x6 + (1 * all_0 (r_0 + 0) + 0) ≤ 0) (f4 : 1 * texts_0 + ((-1) * x2 + ((-36) * x5 + 0)) ≤ 0) (kz_0_170 : 0 ≤ texts_0 ∧ texts_0 ≤ 100000000) : 1 * texts_0 + ((-1) * x2 + ((-1728031) * x8 + (1728031 * x4 + 0))) ≤ (-1727167) := by
  first | assumption | omega | grind
def o_Mo_writeGroup_at_l0_1 : or_T := (83, 9, [(0, (2, 0, 0, [165])), (2, (0, 0, 87902919, [])), (4, (0, 0, 0, [])), (5, (0, 0, 24, [])), (6, (0, 0, 24, [])), (7, (0, 1, 1, [])), (8, (0, 1, 1, []))], [(1, [8, 4, 7], []), (7, [5, 6], [3]), (20, [6, 3], [30, 0, 1, 0, 0, -1, 3, 2005000]), (20, [6, 3], [30, 0, -1, 0, 0, 1, 3, 2005000]), (20, [3, 2, 5], [30, 0, 1, 1, 170, -1, 0, 0, -36, 0, 0]), (24, [0, 3], [])], [], [], [(20, [3, 2, 8, 4], [30, -1727167, 1, 1, 170, -1, 0, 0, -1728031, 0, 0, 1728031, 0, 0])], [], [(5, 6, 0, 4294967296)])
theorem oo_Mo_writeGroup_at_l0_1 {kA : Nat → ClassId} : or_ok PRD kA GG o_Mo_writeGroup_at_l0_1 := by
  refine or_mk fun A ta ws vs hD hth hl => ?_
  intro t0 r0 t2 k2 t4 k4 t5 k5 t6 k6 t7 k7 t8 k8 d0 f0 f1 f2 f3 f4 f5
  replace f0 := shm_12 f0
  replace f1 := shm_2 f1
  replace f2 := shm_126 f2
  replace f3 := shm_127 f3
  replace f4 := shm_2035 f4
  replace f5 := shm_5 f5
  have q3 : n_v vs 3 = n_v vs 0 := f5.symm
  simp only [q3] at f2 f3 f4
  have kz_0_170 := fdq_11 hD hth r0
  have nf0 : fc_1 PRD (20, [3, 2, 8, 4], [30, -1727167, 1, 1, 170, -1, 0, 0, -1728031, 0, 0, 1728031, 0, 0]) ws (vs) := by
    refine ⟨nf_in hl rfl, sgq_2036 ?_⟩
    · show 1 * w_fi ws (n_v vs 3) 170 + ((-1) * v_iv (n_v vs 2) + ((-1728031) * v_iv (n_v vs 8) + (1728031 * v_iv (n_v vs 4) + 0))) ≤ (-1727167)
      rw [q3]
      exact vc_Mo_writeGroup_at_l0_1_0 (v_iv (n_v vs 2)) (v_iv (n_v vs 4)) (v_iv (n_v vs 5)) (v_iv (n_v vs 6)) (v_iv (n_v vs 7)) (v_iv (n_v vs 8)) (w_ei ws (w_ar ws (n_v vs 0) 2)) (w_fi ws (n_v vs 0) 5) (w_fi ws (n_v vs 0) 170) k2 k4 k5 k6 k7 k8 d0 f0 f1 f2 f3 f4 kz_0_170
  refine ⟨(fun _ h => (by cases h)), [], trivial, ?_, (fun _ h => (by cases h))⟩
  rw [List.append_nil]
  exact List.forall_mem_cons.mpr ⟨⟨show (20 : Nat) < 100 from by decide, nf0⟩, (fun _ h => (by cases h))⟩
set_option maxHeartbeats 4000000 in
theorem vc_Mo_writeGroup_at_l0_2_0 (x2 : Int) (x4 : Int) (x5 : Int) (x6 : Int) (x7 : Int) (all_0 : Int → Int) (r_0 : Int) (texts_0 : Int) (gx : Int) (k2 : 0 ≤ x2 ∧ x2 ≤ 87902919) (k4 : 0 ≤ x4 ∧ x4 ≤ 0) (k5 : 0 ≤ x5 ∧ x5 ≤ 23) (k6 : 1 ≤ x6 ∧ x6 ≤ 24) (k7 : 0 ≤ x7 ∧ x7 ≤ 0) (d0 : x6 + (-4294967296) ≤ x5 ∧ x5 ≤ x6 + (-1)) (f0 : x7 = x4) (f1 : x7 = all_0 (((r_0 + 243) + x5))) (f2 : x5 < x6) (f3 : 1 * x6 + ((-1) * all_0 (r_0 + 0) + 0) ≤ 0) (f4 : (-1) * x6 + (1 * all_0 (r_0 + 0) + 0) ≤ 0) (f5 : 1 * texts_0 + ((-1) * x2 + ((-36) * x5 + 0)) ≤ 0) (kz_0_170 : 0 ≤ texts_0 ∧ texts_0 ≤ 100000000) (ex2 : gx = texts_0) (ex3 : 0 ≤ gx ∧ gx ≤ 99999995) : 1 * texts_0 + ((-1) * gx + 0) ≤ 0 := by
  first | assumption | omega | grind
set_option maxHeartbeats 4000000 in
theorem vc_Mo_writeGroup_at_l0_2_1 (x2 : Int) (x4 : Int) (x5 : Int) (x6 : Int) (x7 : Int) (all_0 : Int → Int) (r_0 : Int) (texts_0 : Int) (gx : Int) (k2 : 0 ≤ x2 ∧ x2 ≤ 87902919) (k4 : 0 ≤ x4 ∧ x4 ≤ 0) (k5 : 0 ≤ x5 ∧ x5 ≤ 23) (k6 : 1 ≤ x6 ∧ x6 ≤ 24) (k7 : 0 ≤ x7 ∧ x7 ≤ 0) (d0 : x6 + (-4294967296) ≤ x5 ∧ x5 ≤ x6 + (-1)) (f0 : x7 = x4) (f1 : x7 = all_0 (((r_0 + 243) + x5))) (f2 : x5 < x6) (f3 : 1 * x6 + ((-1) * all_0 (r_0 + 0) + 0) ≤ 0) (f4 : (-1) * x6 + (1 * all_0 (r_0 + 0) + 0) ≤ 0) (f5 : 1 * texts_0 + ((-1) * x2 + ((-36) * x5 + 0)) ≤ 0) (kz_0_170 : 0 ≤ texts_0 ∧ texts_0 ≤ 100000000) (ex2 : gx = texts_0) (ex3 : 0 ≤ gx ∧ gx ≤ 99999995) : 1 * gx + ((-1) * x2 + ((-36) * x5 + 0)) ≤ 0 := by
  first | assumption | omega | grind
def o_Mo_writeGroup_at_l0_2 : or_T := (26, 9, [(0, (2, 0, 0, [165])), (2, (0, 0, 87902919, [])), (3, (2, 0, 0, [165])), (4, (0, 0, 0, [])), (5, (0, 0, 23, [])), (6, (0, 1, 24, [])), (7, (0, 0, 0, []))], [(7, [7, 4], [0]), (20, [7, 3, 5], [50, 1, 1, 1005, 1002, 1, 2, 1, 0, 3, 1, 2, 4, 7, 4, 3, 2, 1, 5, 0, 243, 1, 2]), (7, [5, 6], [2]), (20, [6, 3], [30, 0, 1, 0, 0, -1, 3, 2005000]), (20, [6, 3], [30, 0, -1, 0, 0, 1, 3, 2005000]), (20, [3, 2, 5], [30, 0, 1, 1, 170, -1, 0, 0, -36, 0, 0]), (24, [0, 3], [])], [], [(0, 0, 99999995, [])], [(20, [3, 9], [30, 0, 1, 1, 170, -1, 0, 0]), (23, [9, 2, 5], [0, 1, -1, -36])], [], [(5, 6, -4294967296, -1)])
theorem oo_Mo_writeGroup_at_l0_2 {kA : Nat → ClassId} : or_ok PRD kA GG o_Mo_writeGroup_at_l0_2 := by
  refine or_mk fun A ta ws vs hD hth hl => ?_
  intro t0 r0 t2 k2 t3 r3 t4 k4 t5 k5 t6 k6 t7 k7 d0 f0 f1 f2 f3 f4 f5 f6
  replace f0 := shm_37 f0
  replace f1 := shm_597 f1
  replace f2 := shm_6 f2
  replace f3 := shm_126 f3
  replace f4 := shm_127 f4
  replace f5 := shm_2035 f5
  replace f6 := shm_5 f6
  have q3 : n_v vs 3 = n_v vs 0 := f6.symm
  simp only [q3] at f1 f3 f4 f5
  have cr_0_2 := fdq_10 hD hth r0
  have br_0_2_F5_0_0 : w_ei ws (w_ar ws (n_v vs 0) 2) (w_fi ws (n_v vs 0) 5 + 0) = w_el ws (w_ar ws (n_v vs 0) 2) (w_fi ws (n_v vs 0) 5 + 0).toNat := rfl
  have kz_0_170 := fdq_11 hD hth r0
  have kv0 := fdq_11 hD hth r0
  obtain ⟨x, ex, hx⟩ := iv_ex (ta := ta) (lo := 0) (hi := 99999995) (z := w_fi ws (n_v vs 0) 170) (by omega) (by omega) (by omega) (by omega)
  have ex2 : v_iv (Value.int x) = w_fi ws (n_v vs 0) 170 := ex
  have ex3 : 0 ≤ v_iv (Value.int x) ∧ v_iv (Value.int x) ≤ 99999995 := tv_rng hx
  have e_2 : n_v (vs ++ [Value.int x]) 2 = n_v vs 2 := n_v_old (by rw [hl]; decide)
  have e_3 : n_v (vs ++ [Value.int x]) 3 = n_v vs 3 := n_v_old (by rw [hl]; decide)
  have e_5 : n_v (vs ++ [Value.int x]) 5 = n_v vs 5 := n_v_old (by rw [hl]; decide)
  have e_9 : n_v (vs ++ [Value.int x]) 9 = Value.int x := n_v_new hl
  have nf0 : fc_1 PRD (20, [3, 9], [30, 0, 1, 1, 170, -1, 0, 0]) ws (vs ++ [Value.int x]) := by
    refine ⟨nf_inA hl rfl, sgq_131 ?_⟩
    · show 1 * w_fi ws (n_v (vs ++ [Value.int x]) 3) 170 + ((-1) * v_iv (n_v (vs ++ [Value.int x]) 9) + 0) ≤ 0
      simp only [e_3, e_9, q3]
      exact vc_Mo_writeGroup_at_l0_2_0 (v_iv (n_v vs 2)) (v_iv (n_v vs 4)) (v_iv (n_v vs 5)) (v_iv (n_v vs 6)) (v_iv (n_v vs 7)) (w_ei ws (w_ar ws (n_v vs 0) 2)) (w_fi ws (n_v vs 0) 5) (w_fi ws (n_v vs 0) 170) (v_iv (Value.int x)) k2 k4 k5 k6 k7 d0 f0 f1 f2 f3 f4 f5 kz_0_170 ex2 ex3
  have nf1 : fc_1 PRD (23, [9, 2, 5], [0, 1, -1, -36]) ws (vs ++ [Value.int x]) := by
    refine ⟨nf_inA hl rfl, sgq_2037 ?_⟩
    · show 1 * v_iv (n_v (vs ++ [Value.int x]) 9) + ((-1) * v_iv (n_v (vs ++ [Value.int x]) 2) + ((-36) * v_iv (n_v (vs ++ [Value.int x]) 5) + 0)) ≤ 0
      simp only [e_2, e_5, e_9]
      exact vc_Mo_writeGroup_at_l0_2_1 (v_iv (n_v vs 2)) (v_iv (n_v vs 4)) (v_iv (n_v vs 5)) (v_iv (n_v vs 6)) (v_iv (n_v vs 7)) (w_ei ws (w_ar ws (n_v vs 0) 2)) (w_fi ws (n_v vs 0) 5) (w_fi ws (n_v vs 0) 170) (v_iv (Value.int x)) k2 k4 k5 k6 k7 d0 f0 f1 f2 f3 f4 f5 kz_0_170 ex2 ex3
  exact ⟨(fun _ h => (by cases h)), [Value.int x], ag_one hx, List.forall_mem_cons.mpr ⟨⟨show (20 : Nat) < 100 from by decide, nf0⟩, List.forall_mem_cons.mpr ⟨⟨show (23 : Nat) < 100 from by decide, nf1⟩, (fun _ h => (by cases h))⟩⟩, (fun _ h => (by cases h))⟩
set_option maxHeartbeats 4000000 in
theorem vc_Mo_writeGroup_at_l0_3_0 (x2 : Int) (x4 : Int) (x5 : Int) (x6 : Int) (x7 : Int) (x9 : Int) (all_0 : Int → Int) (r_0 : Int) (texts_0 : Int) (gx : Int) (k2 : 0 ≤ x2 ∧ x2 ≤ 87902919) (k4 : 0 ≤ x4 ∧ x4 ≤ 0) (k5 : 0 ≤ x5 ∧ x5 ≤ 23) (k6 : 1 ≤ x6 ∧ x6 ≤ 24) (k7 : 0 ≤ x7 ∧ x7 ≤ 0) (k9 : 0 ≤ x9 ∧ x9 ≤ 99999995) (d0 : x6 + (-4294967296) ≤ x5 ∧ x5 ≤ x6 + (-1)) (f0 : 1 * x9 + ((-1) * x2 + ((-36) * x5 + 0)) ≤ 0) (f1 : x7 = all_0 (((r_0 + 243) + x5))) (f2 : 1 * x6 + ((-1) * all_0 (r_0 + 0) + 0) ≤ 0) (f3 : (-1) * x6 + (1 * all_0 (r_0 + 0) + 0) ≤ 0) (f5 : 1 * texts_0 + ((-1) * x9 + 0) ≤ 5) (f7 : 1 * x9 + ((-1) * x2 + ((-36) * x5 + 0)) ≤ 0) (f8 : x7 = x4) (f9 : x5 < x6) (kz_0_170 : 0 ≤ texts_0 ∧ texts_0 ≤ 100000000) (ex2 : gx = texts_0) (ex3 : 0 ≤ gx ∧ gx ≤ 99999992) : 1 * texts_0 + ((-1) * gx + 0) ≤ 0 := by
  first | assumption | omega | grind
set_option maxHeartbeats 4000000 in
theorem vc_Mo_writeGroup_at_l0_3_1 (x2 : Int) (x4 : Int) (x5 : Int) (x6 : Int) (x7 : Int) (x9 : Int) (all_0 : Int → Int) (r_0 : Int) (texts_0 : Int) (gx : Int) (k2 : 0 ≤ x2 ∧ x2 ≤ 87902919) (k4 : 0 ≤ x4 ∧ x4 ≤ 0) (k5 : 0 ≤ x5 ∧ x5 ≤ 23) (k6 : 1 ≤ x6 ∧ x6 ≤ 24) (k7 : 0 ≤ x7 ∧ x7 ≤ 0) (k9 : 0 ≤ x9 ∧ x9 ≤ 99999995) (d0 : x6 + (-4294967296) ≤ x5 ∧ x5 ≤ x6 + (-1)) (f0 : 1 * x9 + ((-1) * x2 + ((-36) * x5 + 0)) ≤ 0) (f1 : x7 = all_0 (((r_0 + 243) + x5))) (f2 : 1 * x6 + ((-1) * all_0 (r_0 + 0) + 0) ≤ 0) (f3 : (-1) * x6 + (1 * all_0 (r_0 + 0) + 0) ≤ 0) (f5 : 1 * texts_0 + ((-1) * x9 + 0) ≤ 5) (f7 : 1 * x9 + ((-1) * x2 + ((-36) * x5 + 0)) ≤ 0) (f8 : x7 = x4) (f9 : x5 < x6) (kz_0_170 : 0 ≤ texts_0 ∧ texts_0 ≤ 100000000) (ex2 : gx = texts_0) (ex3 : 0 ≤ gx ∧ gx ≤ 99999992) : 1 * gx + ((-1) * x2 + ((-36) * x5 + 0)) ≤ 5 := by
  first | assumption | omega | grind
def o_Mo_writeGroup_at_l0_3 : or_T := (31, 10, [(0, (2, 0, 0, [165])), (2, (0, 0, 87902919, [])), (3, (2, 0, 0, [165])), (4, (0, 0, 0, [])), (5, (0, 0, 23, [])), (6, (0, 1, 24, [])), (7, (0, 0, 0, [])), (9, (0, 0, 99999995, []))], [(23, [9, 2, 5], [0, 1, -1, -36]), (20, [7, 3, 5], [50, 1, 1, 1005, 1002, 1, 2, 1, 0, 3, 1, 2, 4, 7, 4, 3, 2, 1, 5, 0, 243, 1, 2]), (20, [6, 3], [30, 0, 1, 0, 0, -1, 3, 2005000]), (20, [6, 3], [30, 0, -1, 0, 0, 1, 3, 2005000]), (24, [0, 3], []), (20, [3, 9], [30, 5, 1, 1, 170, -1, 0, 0]), (102, [9], [7770675568902916283677847627294075626569627356208558085007249638955617140820833992704, 165170]), (23, [9, 2, 5], [0, 1, -1, -36]), (7, [7, 4], [0]), (7, [5, 6], [2])], [], [(0, 0, 99999992, [])], [(20, [3, 10], [30, 0, 1, 1, 170, -1, 0, 0]), (23, [10, 2, 5], [5, 1, -1, -36])], [], [(5, 6, -4294967296, -1)])
theorem oo_Mo_writeGroup_at_l0_3 {kA : Nat → ClassId} : or_ok PRD kA GG o_Mo_writeGroup_at_l0_3 := by
  refine or_mk fun A ta ws vs hD hth hl => ?_
  intro t0 r0 t2 k2 t3 r3 t4 k4 t5 k5 t6 k6 t7 k7 t9 k9 d0 f0 f1 f2 f3 f4 f5 ta1 w1 le1 s1 f7 f8 f9
  replace f0 := shm_2037 f0
  replace f1 := shm_597 f1
  replace f2 := shm_126 f2
  replace f3 := shm_127 f3
  replace f4 := shm_5 f4
  replace f5 := shm_208 f5
  replace f7 := shm_2037 f7
  replace f8 := shm_37 f8
  replace f9 := shm_6 f9
  have q3 : n_v vs 3 = n_v vs 0 := f4.symm
  simp only [q3] at f1 f2 f3 f5
  have cr_0_2 := fdq_10 hD hth r0
  have br_0_2_F5_0_0 : w_ei ws (w_ar ws (n_v vs 0) 2) (w_fi ws (n_v vs 0) 5 + 0) = w_el ws (w_ar ws (n_v vs 0) 2) (w_fi ws (n_v vs 0) 5 + 0).toNat := rfl
  have kz_0_170 := fdq_11 hD hth r0
  have kv0 := fdq_11 hD hth r0
  obtain ⟨x, ex, hx⟩ := iv_ex (ta := ta) (lo := 0) (hi := 99999992) (z := w_fi ws (n_v vs 0) 170) (by omega) (by omega) (by omega) (by omega)
  have ex2 : v_iv (Value.int x) = w_fi ws (n_v vs 0) 170 := ex
  have ex3 : 0 ≤ v_iv (Value.int x) ∧ v_iv (Value.int x) ≤ 99999992 := tv_rng hx
  have e_2 : n_v (vs ++ [Value.int x]) 2 = n_v vs 2 := n_v_old (by rw [hl]; decide)
  have e_3 : n_v (vs ++ [Value.int x]) 3 = n_v vs 3 := n_v_old (by rw [hl]; decide)
  have e_5 : n_v (vs ++ [Value.int x]) 5 = n_v vs 5 := n_v_old (by rw [hl]; decide)
  have e_10 : n_v (vs ++ [Value.int x]) 10 = Value.int x := n_v_new hl
  have nf0 : fc_1 PRD (20, [3, 10], [30, 0, 1, 1, 170, -1, 0, 0]) ws (vs ++ [Value.int x]) := by
    refine ⟨nf_inA hl rfl, sgq_131 ?_⟩
    · show 1 * w_fi ws (n_v (vs ++ [Value.int x]) 3) 170 + ((-1) * v_iv (n_v (vs ++ [Value.int x]) 10) + 0) ≤ 0
      simp only [e_3, e_10, q3]
      exact vc_Mo_writeGroup_at_l0_3_0 (v_iv (n_v vs 2)) (v_iv (n_v vs 4)) (v_iv (n_v vs 5)) (v_iv (n_v vs 6)) (v_iv (n_v vs 7)) (v_iv (n_v vs 9)) (w_ei ws (w_ar ws (n_v vs 0) 2)) (w_fi ws (n_v vs 0) 5) (w_fi ws (n_v vs 0) 170) (v_iv (Value.int x)) k2 k4 k5 k6 k7 k9 d0 f0 f1 f2 f3 f5 f7 f8 f9 kz_0_170 ex2 ex3
  have nf1 : fc_1 PRD (23, [10, 2, 5], [5, 1, -1, -36]) ws (vs ++ [Value.int x]) := by
    refine ⟨nf_inA hl rfl, sgq_2038 ?_⟩
    · show 1 * v_iv (n_v (vs ++ [Value.int x]) 10) + ((-1) * v_iv (n_v (vs ++ [Value.int x]) 2) + ((-36) * v_iv (n_v (vs ++ [Value.int x]) 5) + 0)) ≤ 5
      simp only [e_2, e_5, e_10]
      exact vc_Mo_writeGroup_at_l0_3_1 (v_iv (n_v vs 2)) (v_iv (n_v vs 4)) (v_iv (n_v vs 5)) (v_iv (n_v vs 6)) (v_iv (n_v vs 7)) (v_iv (n_v vs 9)) (w_ei ws (w_ar ws (n_v vs 0) 2)) (w_fi ws (n_v vs 0) 5) (w_fi ws (n_v vs 0) 170) (v_iv (Value.int x)) k2 k4 k5 k6 k7 k9 d0 f0 f1 f2 f3 f5 f7 f8 f9 kz_0_170 ex2 ex3
  exact ⟨(fun _ h => (by cases h)), [Value.int x], ag_one hx, List.forall_mem_cons.mpr ⟨⟨show (20 : Nat) < 100 from by decide, nf0⟩, List.forall_mem_cons.mpr ⟨⟨show (23 : Nat) < 100 from by decide, nf1⟩, (fun _ h => (by cases h))⟩⟩, (fun _ h => (by cases h))⟩
set_option maxHeartbeats 4000000 in
theorem vc_Mo_writeGroup_at_l0_4_0 (x2 : Int) (x4 : Int) (x5 : Int) (x6 : Int) (x7 : Int) (x9 : Int) (x10 : Int) (x11 : Int) (x12 : Int) (all_0 : Int → Int) (r_0 : Int) (texts_0 : Int) (gx : Int) (k2 : 0 ≤ x2 ∧ x2 ≤ 87902919) (k4 : 0 ≤ x4 ∧ x4 ≤ 0) (k5 : 0 ≤ x5 ∧ x5 ≤ 23) (k6 : 1 ≤ x6 ∧ x6 ≤ 24) (k7 : 0 ≤ x7 ∧ x7 ≤ 0) (k9 : 0 ≤ x9 ∧ x9 ≤ 99999995) (k10 : 0 ≤ x10 ∧ x10 ≤ 99999992) (k11 : 0 ≤ x11 ∧ x11 ≤ 1) (k12 : 1 ≤ x12 ∧ x12 ≤ 1) (d0 : x6 + (-4294967296) ≤ x5 ∧ x5 ≤ x6 + (-1)) (f0 : x11 ≤ x12) (f1 : x11 = all_0 (((r_0 + 219) + x5))) (f2 : 1 * x10 + ((-1) * x2 + ((-36) * x5 + 0)) ≤ 5) (f3 : 1 * x9 + ((-1) * x2 + ((-36) * x5 + 0)) ≤ 0) (f4 : x7 = all_0 (((r_0 + 243) + x5))) (f5 : 1 * x6 + ((-1) * all_0 (r_0 + 0) + 0) ≤ 0) (f6 : (-1) * x6 + (1 * all_0 (r_0 + 0) + 0) ≤ 0) (f8 : 1 * texts_0 + ((-1) * x10 + 0) ≤ 8) (f10 : 1 * x10 + ((-1) * x2 + ((-36) * x5 + 0)) ≤ 5) (f11 : 1 * x9 + ((-1) * x2 + ((-36) * x5 + 0)) ≤ 0) (f13 : 1 * x9 + ((-1) * x2 + ((-36) * x5 + 0)) ≤ 0) (f14 : x7 = x4) (f15 : x5 < x6) (kz_0_170 : 0 ≤ texts_0 ∧ texts_0 ≤ 100000000) (ex2 : gx = texts_0) (ex3 : 0 ≤ gx ∧ gx ≤ 99999998) : 1 * texts_0 + ((-1) * gx + 0) ≤ 0 := by
  first | assumption | omega | grind
set_option maxHeartbeats 4000000 in
theorem vc_Mo_writeGroup_at_l0_4_1 (x2 : Int) (x4 : Int) (x5 : Int) (x6 : Int) (x7 : Int) (x9 : Int) (x10 : Int) (x11 : Int) (x12 : Int) (all_0 : Int → Int) (r_0 : Int) (texts_0 : Int) (gx : Int) (k2 : 0 ≤ x2 ∧ x2 ≤ 87902919) (k4 : 0 ≤ x4 ∧ x4 ≤ 0) (k5 : 0 ≤ x5 ∧ x5 ≤ 23) (k6 : 1 ≤ x6 ∧ x6 ≤ 24) (k7 : 0 ≤ x7 ∧ x7 ≤ 0) (k9 : 0 ≤ x9 ∧ x9 ≤ 99999995) (k10 : 0 ≤ x10 ∧ x10 ≤ 99999992) (k11 : 0 ≤ x11 ∧ x11 ≤ 1) (k12 : 1 ≤ x12 ∧ x12 ≤ 1) (d0 : x6 + (-4294967296) ≤ x5 ∧ x5 ≤ x6 + (-1)) (f0 : x11 ≤ x12) (f1 : x11 = all_0 (((r_0 + 219) + x5))) (f2 : 1 * x10 + ((-1) * x2 + ((-36) * x5 + 0)) ≤ 5) (f3 : 1 * x9 + ((-1) * x2 + ((-36) * x5 + 0)) ≤ 0) (f4 : x7 = all_0 (((r_0 + 243) + x5))) (f5 : 1 * x6 + ((-1) * all_0 (r_0 + 0) + 0) ≤ 0) (f6 : (-1) * x6 + (1 * all_0 (r_0 + 0) + 0) ≤ 0) (f8 : 1 * texts_0 + ((-1) * x10 + 0) ≤ 8) (f10 : 1 * x10 + ((-1) * x2 + ((-36) * x5 + 0)) ≤ 5) (f11 : 1 * x9 + ((-1) * x2 + ((-36) * x5 + 0)) ≤ 0) (f13 : 1 * x9 + ((-1) * x2 + ((-36) * x5 + 0)) ≤ 0) (f14 : x7 = x4) (f15 : x5 < x6) (kz_0_170 : 0 ≤ texts_0 ∧ texts_0 ≤ 100000000) (ex2 : gx = texts_0) (ex3 : 0 ≤ gx ∧ gx ≤ 99999998) : 1 * gx + ((-1) * x2 + ((-36) * x5 + 0)) ≤ 34 := by
  first | assumption | omega | grind
def o_Mo_writeGroup_at_l0_4 : or_T := (70, 14, [(0, (2, 0, 0, [165])), (2, (0, 0, 87902919, [])), (3, (2, 0, 0, [165])), (4, (0, 0, 0, [])), (5, (0, 0, 23, [])), (6, (0, 1, 24, [])), (7, (0, 0, 0, [])), (9, (0, 0, 99999995, [])), (10, (0, 0, 99999992, [])), (11, (0, 0, 1, [])), (12, (0, 1, 1, []))], [(7, [11, 12], [5]), (20, [11, 3, 5], [50, 1, 1, 1005, 1002, 1, 2, 1, 0, 3, 1, 2, 4, 7, 4, 3, 2, 1, 5, 0, 219, 1, 2]), (23, [10, 2, 5], [5, 1, -1, -36]), (23, [9, 2, 5], [0, 1, -1, -36]), (20, [7, 3, 5], [50, 1, 1, 1005, 1002, 1, 2, 1, 0, 3, 1, 2, 4, 7, 4, 3, 2, 1, 5, 0, 243, 1, 2]), (20, [6, 3], [30, 0, 1, 0, 0, -1, 3, 2005000]), (20, [6, 3], [30, 0, -1, 0, 0, 1, 3, 2005000]), (24, [0, 3], []), (20, [3, 10], [30, 8, 1, 1, 170, -1, 0, 0]), (102, [10], [7770675568902916283677847627294075626569627356208558085007249638955617140820833992704, 165170]), (23, [10, 2, 5], [5, 1, -1, -36]), (23, [9, 2, 5], [0, 1, -1, -36]), (102, [9], [7770675568902916283677847627294075626569627356208558085007249638955617140820833992704, 165170]), (23, [9, 2, 5], [0, 1, -1, -36]), (7, [7, 4], [0]), (7, [5, 6], [2])], [], [(0, 0, 99999998, [])], [(20, [3, 14], [30, 0, 1, 1, 170, -1, 0, 0]), (23, [14, 2, 5], [34, 1, -1, -36])], [], [(5, 6, -4294967296, -1)])
theorem oo_Mo_writeGroup_at_l0_4 {kA : Nat → ClassId} : or_ok PRD kA GG o_Mo_writeGroup_at_l0_4 := by
  refine or_mk fun A ta ws vs hD hth hl => ?_
  intro t0 r0 t2 k2 t3 r3 t4 k4 t5 k5 t6 k6 t7 k7 t9 k9 t10 k10 t11 k11 t12 k12 d0 f0 f1 f2 f3 f4 f5 f6 f7 f8 ta1 w1 le1 s1 f10 f11 ta2 w2 le2 s2 f13 f14 f15
  replace f0 := shm_24 f0
  replace f1 := shm_732 f1
  replace f2 := shm_2038 f2
  replace f3 := shm_2037 f3
  replace f4 := shm_597 f4
  replace f5 := shm_126 f5
  replace f6 := shm_127 f6
  replace f7 := shm_5 f7
  replace f8 := shm_160 f8
  replace f10 := shm_2038 f10
  replace f11 := shm_2037 f11
  replace f13 := shm_2037 f13
  replace f14 := shm_37 f14
  replace f15 := shm_6 f15
  have q3 : n_v vs 3 = n_v vs 0 := f7.symm
  simp only [q3] at f1 f4 f5 f6 f8
  have cr_0_2 := fdq_10 hD hth r0
  have br_0_2_F5_0_0 : w_ei ws (w_ar ws (n_v vs 0) 2) (w_fi ws (n_v vs 0) 5 + 0) = w_el ws (w_ar ws (n_v vs 0) 2) (w_fi ws (n_v vs 0) 5 + 0).toNat := rfl
  have kz_0_170 := fdq_11 hD hth r0
  have kv0 := fdq_11 hD hth r0
  obtain ⟨x, ex, hx⟩ := iv_ex (ta := ta) (lo := 0) (hi := 99999998) (z := w_fi ws (n_v vs 0) 170) (by omega) (by omega) (by omega) (by omega)
  have ex2 : v_iv (Value.int x) = w_fi ws (n_v vs 0) 170 := ex
  have ex3 : 0 ≤ v_iv (Value.int x) ∧ v_iv (Value.int x) ≤ 99999998 := tv_rng hx
  have e_2 : n_v (vs ++ [Value.int x]) 2 = n_v vs 2 := n_v_old (by rw [hl]; decide)
  have e_3 : n_v (vs ++ [Value.int x]) 3 = n_v vs 3 := n_v_old (by rw [hl]; decide)
  have e_5 : n_v (vs ++ [Value.int x]) 5 = n_v vs 5 := n_v_old (by rw [hl]; decide)
  have e_14 : n_v (vs ++ [Value.int x]) 14 = Value.int x := n_v_new hl
  have nf0 : fc_1 PRD (20, [3, 14], [30, 0, 1, 1, 170, -1, 0, 0]) ws (vs ++ [Value.int x]) := by
    refine ⟨nf_inA hl rfl, sgq_131 ?_⟩
    · show 1 * w_fi ws (n_v (vs ++ [Value.int x]) 3) 170 + ((-1) * v_iv (n_v (vs ++ [Value.int x]) 14) + 0) ≤ 0
      simp only [e_3, e_14, q3]
      exact vc_Mo_writeGroup_at_l0_4_0 (v_iv (n_v vs 2)) (v_iv (n_v vs 4)) (v_iv (n_v vs 5)) (v_iv (n_v vs 6)) (v_iv (n_v vs 7)) (v_iv (n_v vs 9)) (v_iv (n_v vs 10)) (v_iv (n_v vs 11)) (v_iv (n_v vs 12)) (w_ei ws (w_ar ws (n_v vs 0) 2)) (w_fi ws (n_v vs 0) 5) (w_fi ws (n_v vs 0) 170) (v_iv (Value.int x)) k2 k4 k5 k6 k7 k9 k10 k11 k12 d0 f0 f1 f2 f3 f4 f5 f6 f8 f10 f11 f13 f14 f15 kz_0_170 ex2 ex3
  have nf1 : fc_1 PRD (23, [14, 2, 5], [34, 1, -1, -36]) ws (vs ++ [Value.int x]) := by
    refine ⟨nf_inA hl rfl, sgq_2039 ?_⟩
    · show 1 * v_iv (n_v (vs ++ [Value.int x]) 14) + ((-1) * v_iv (n_v (vs ++ [Value.int x]) 2) + ((-36) * v_iv (n_v (vs ++ [Value.int x]) 5) + 0)) ≤ 34
      simp only [e_2, e_5, e_14]
      exact vc_Mo_writeGroup_at_l0_4_1 (v_iv (n_v vs 2)) (v_iv (n_v vs 4)) (v_iv (n_v vs 5)) (v_iv (n_v vs 6)) (v_iv (n_v vs 7)) (v_iv (n_v vs 9)) (v_iv (n_v vs 10)) (v_iv (n_v vs 11)) (v_iv (n_v vs 12)) (w_ei ws (w_ar ws (n_v vs 0) 2)) (w_fi ws (n_v vs 0) 5) (w_fi ws (n_v vs 0) 170) (v_iv (Value.int x)) k2 k4 k5 k6 k7 k9 k10 k11 k12 d0 f0 f1 f2 f3 f4 f5 f6 f8 f10 f11 f13 f14 f15 kz_0_170 ex2 ex3
  exact ⟨(fun _ h => (by cases h)), [Value.int x], ag_one hx, List.forall_mem_cons.mpr ⟨⟨show (20 : Nat) < 100 from by decide, nf0⟩, List.forall_mem_cons.mpr ⟨⟨show (23 : Nat) < 100 from by decide, nf1⟩, (fun _ h => (by cases h))⟩⟩, (fun _ h => (by cases h))⟩
set_option maxHeartbeats 4000000 in
theorem vc_Mo_writeGroup_at_l0_5_0 (x2 : Int) (x4 : Int) (x5 : Int) (x6 : Int) (x7 : Int) (x9 : Int) (x10 : Int) (x11 : Int) (x12 : Int) (x14 : Int) (x15 : Int) (all_0 : Int → Int) (r_0 : Int) (texts_0 : Int) (k2 : 0 ≤ x2 ∧ x2 ≤ 87902919) (k4 : 0 ≤ x4 ∧ x4 ≤ 0) (k5 : 0 ≤ x5 ∧ x5 ≤ 23) (k6 : 1 ≤ x6 ∧ x6 ≤ 24) (k7 : 0 ≤ x7 ∧ x7 ≤ 0) (k9 : 0 ≤ x9 ∧ x9 ≤ 99999995) (k10 : 0 ≤ x10 ∧ x10 ≤ 99999992) (k11 : 0 ≤ x11 ∧ x11 ≤ 1) (k12 : 1 ≤ x12 ∧ x12 ≤ 1) (k14 : 0 ≤ x14 ∧ x14 ≤ 99999998) (k15 : 1 ≤ x15 ∧ x15 ≤ 24) (d0 : x5 + 1 ≤ x15 ∧ x15 ≤ x5 + 1) (d1 : x6 + (-4294967296) ≤ x15 ∧ x15 ≤ x6 + 0) (d2 : x6 + (-4294967296) ≤ x5 ∧ x5 ≤ x6 + (-1)) (f0 : x15 = x5 + 1) (f1 : 1 * x14 + ((-1) * x2 + ((-36) * x5 + 0)) ≤ 34) (f2 : x11 = all_0 (((r_0 + 219) + x5))) (f3 : 1 * x10 + ((-1) * x2 + ((-36) * x5 + 0)) ≤ 5) (f4 : 1 * x9 + ((-1) * x2 + ((-36) * x5 + 0)) ≤ 0) (f5 : x7 = all_0 (((r_0 + 243) + x5))) (f6 : 1 * x6 + ((-1) * all_0 (r_0 + 0) + 0) ≤ 0) (f7 : (-1) * x6 + (1 * all_0 (r_0 + 0) + 0) ≤ 0) (f9 : 1 * texts_0 + ((-1) * x14 + 0) ≤ 2) (f11 : 1 * x14 + ((-1) * x2 + ((-36) * x5 + 0)) ≤ 34) (f12 : x11 ≤ x12) (f13 : 1 * x10 + ((-1) * x2 + ((-36) * x5 + 0)) ≤ 5) (f14 : 1 * x9 + ((-1) * x2 + ((-36) * x5 + 0)) ≤ 0) (f16 : 1 * x10 + ((-1) * x2 + ((-36) * x5 + 0)) ≤ 5) (f17 : 1 * x9 + ((-1) * x2 + ((-36) * x5 + 0)) ≤ 0) (f19 : 1 * x9 + ((-1) * x2 + ((-36) * x5 + 0)) ≤ 0) (f20 : x7 = x4) (f21 : x5 < x6) (kz_0_170 : 0 ≤ texts_0 ∧ texts_0 ≤ 100000000) : 1 * texts_0 + ((-1) * x2 + ((-36) * x15 + 0)) ≤ 0 := by
  first | assumption | omega | grind
def o_Mo_writeGroup_at_l0_5 : or_T := (2, 16, [(0, (2, 0, 0, [165])), (2, (0, 0, 87902919, [])), (4, (0, 0, 0, [])), (5, (0, 0, 23, [])), (6, (0, 1, 24, [])), (7, (0, 0, 0, [])), (9, (0, 0, 99999995, [])), (10, (0, 0, 99999992, [])), (11, (0, 0, 1, [])), (12, (0, 1, 1, [])), (14, (0, 0, 99999998, [])), (15, (0, 1, 24, []))], [(6, [15, 5], [1]), (23, [14, 2, 5], [34, 1, -1, -36]), (20, [11, 3, 5], [50, 1, 1, 1005, 1002, 1, 2, 1, 0, 3, 1, 2, 4, 7, 4, 3, 2, 1, 5, 0, 219, 1, 2]), (23, [10, 2, 5], [5, 1, -1, -36]), (23, [9, 2, 5], [0, 1, -1, -36]), (20, [7, 3, 5], [50, 1, 1, 1005, 1002, 1, 2, 1, 0, 3, 1, 2, 4, 7, 4, 3, 2, 1, 5, 0, 243, 1, 2]), (20, [6, 3], [30, 0, 1, 0, 0, -1, 3, 2005000]), (20, [6, 3], [30, 0, -1, 0, 0, 1, 3, 2005000]), (24, [0, 3], []), (20, [3, 14], [30, 2, 1, 1, 170, -1, 0, 0]), (102, [14], [7770675568902916283677847627294075626569627356208558085007249638955617140820833992704, 165170]), (23, [14, 2, 5], [34, 1, -1, -36]), (7, [11, 12], [5]), (23, [10, 2, 5], [5, 1, -1, -36]), (23, [9, 2, 5], [0, 1, -1, -36]), (102, [10], [7770675568902916283677847627294075626569627356208558085007249638955617140820833992704, 165170]), (23, [10, 2, 5], [5, 1, -1, -36]), (23, [9, 2, 5], [0, 1, -1, -36]), (102, [9], [7770675568902916283677847627294075626569627356208558085007249638955617140820833992704, 165170]), (23, [9, 2, 5], [0, 1, -1, -36]), (7, [7, 4], [0]), (7, [5, 6], [2])], [], [], [(20, [3, 2, 15], [30, 0, 1, 1, 170, -1, 0, 0, -36, 0, 0])], [], [(15, 5, 1, 1), (15, 6, -4294967296, 0), (5, 6, -4294967296, -1)])
theorem oo_Mo_writeGroup_at_l0_5 {kA : Nat → ClassId} : or_ok PRD kA GG o_Mo_writeGroup_at_l0_5 := by
  refine or_mk fun A ta ws vs hD hth hl => ?_
  intro t0 r0 t2 k2 t4 k4 t5 k5 t6 k6 t7 k7 t9 k9 t10 k10 t11 k11 t12 k12 t14 k14 t15 k15 d0 d1 d2 f0 f1 f2 f3 f4 f5 f6 f7 f8 f9 ta1 w1 le1 s1 f11 f12 f13 f14 ta2 w2 le2 s2 f16 f17 ta3 w3 le3 s3 f19 f20 f21
  replace f0 := shm_4 f0
  replace f1 := shm_2039 f1
  replace f2 := shm_732 f2
  replace f3 := shm_2038 f3
  replace f4 := shm_2037 f4
  replace f5 := shm_597 f5
  replace f6 := shm_126 f6
  replace f7 := shm_127 f7
  replace f8 := shm_5 f8
  replace f9 := shm_210 f9
  replace f11 := shm_2039 f11
  replace f12 := shm_24 f12
  replace f13 := shm_2038 f13
  replace f14 := shm_2037 f14
  replace f16 := shm_2038 f16
  replace f17 := shm_2037 f17
  replace f19 := shm_2037 f19
  replace f20 := shm_37 f20
  replace f21 := shm_6 f21
  have q3 : n_v vs 3 = n_v vs 0 := f8.symm
  simp only [q3] at f2 f5 f6 f7 f9
  have kz_0_170 := fdq_11 hD hth r0
  have nf0 : fc_1 PRD (20, [3, 2, 15], [30, 0, 1, 1, 170, -1, 0, 0, -36, 0, 0]) ws (vs) := by
    refine ⟨nf_in hl rfl, sgq_2035 ?_⟩
    · show 1 * w_fi ws (n_v vs 3) 170 + ((-1) * v_iv (n_v vs 2) + ((-36) * v_iv (n_v vs 15) + 0)) ≤ 0
      rw [q3]
      exact vc_Mo_writeGroup_at_l0_5_0 (v_iv (n_v vs 2)) (v_iv (n_v vs 4)) (v_iv (n_v vs 5)) (v_iv (n_v vs 6)) (v_iv (n_v vs 7)) (v_iv (n_v vs 9)) (v_iv (n_v vs 10)) (v_iv (n_v vs 11)) (v_iv (n_v vs 12)) (v_iv (n_v vs 14)) (v_iv (n_v vs 15)) (w_ei ws (w_ar ws (n_v vs 0) 2)) (w_fi ws (n_v vs 0) 5) (w_fi ws (n_v vs 0) 170) k2 k4 k5 k6 k7 k9 k10 k11 k12 k14 k15 d0 d1 d2 f0 f1 f2 f3 f4 f5 f6 f7 f9 f11 f12 f13 f14 f16 f17 f19 f20 f21 kz_0_170
  refine ⟨(fun _ h => (by cases h)), [], trivial, ?_, (fun _ h => (by cases h))⟩
  rw [List.append_nil]
  exact List.forall_mem_cons.mpr ⟨⟨show (20 : Nat) < 100 from by decide, nf0⟩, (fun _ h => (by cases h))⟩
set_option maxHeartbeats 4000000 in
theorem vc_Mo_writeGroup_at_l0_6_0 (x2 : Int) (x4 : Int) (x5 : Int) (x6 : Int) (x7 : Int) (x9 : Int) (x10 : Int) (x11 : Int) (x12 : Int) (all_0 : Int → Int) (r_0 : Int) (texts_0 : Int) (gx : Int) (k2 : 0 ≤ x2 ∧ x2 ≤ 87902919) (k4 : 0 ≤ x4 ∧ x4 ≤ 0) (k5 : 0 ≤ x5 ∧ x5 ≤ 23) (k6 : 1 ≤ x6 ∧ x6 ≤ 24) (k7 : 0 ≤ x7 ∧ x7 ≤ 0) (k9 : 0 ≤ x9 ∧ x9 ≤ 99999995) (k10 : 0 ≤ x10 ∧ x10 ≤ 99999992) (k11 : 2 ≤ x11 ∧ x11 ≤ 99) (k12 : 1 ≤ x12 ∧ x12 ≤ 1) (d0 : x6 + (-4294967296) ≤ x5 ∧ x5 ≤ x6 + (-1)) (f0 : x12 < x11) (f1 : x11 = all_0 (((r_0 + 219) + x5))) (f2 : 1 * x10 + ((-1) * x2 + ((-36) * x5 + 0)) ≤ 5) (f3 : 1 * x9 + ((-1) * x2 + ((-36) * x5 + 0)) ≤ 0) (f4 : x7 = all_0 (((r_0 + 243) + x5))) (f5 : 1 * x6 + ((-1) * all_0 (r_0 + 0) + 0) ≤ 0) (f6 : (-1) * x6 + (1 * all_0 (r_0 + 0) + 0) ≤ 0) (f8 : 1 * texts_0 + ((-1) * x10 + 0) ≤ 8) (f10 : 1 * x10 + ((-1) * x2 + ((-36) * x5 + 0)) ≤ 5) (f11 : 1 * x9 + ((-1) * x2 + ((-36) * x5 + 0)) ≤ 0) (f13 : 1 * x9 + ((-1) * x2 + ((-36) * x5 + 0)) ≤ 0) (f14 : x7 = x4) (f15 : x5 < x6) (kz_0_170 : 0 ≤ texts_0 ∧ texts_0 ≤ 100000000) (ex2 : gx = texts_0) (ex3 : 0 ≤ gx ∧ gx ≤ 99999993) : 1 * texts_0 + ((-1) * gx + 0) ≤ 0 := by
  first | assumption | omega | grind
set_option maxHeartbeats 4000000 in
theorem vc_Mo_writeGroup_at_l0_6_1 (x2 : Int) (x4 : Int) (x5 : Int) (x6 : Int) (x7 : Int) (x9 : Int) (x10 : Int) (x11 : Int) (x12 : Int) (all_0 : Int → Int) (r_0 : Int) (texts_0 : Int) (gx : Int) (k2 : 0 ≤ x2 ∧ x2 ≤ 87902919) (k4 : 0 ≤ x4 ∧ x4 ≤ 0) (k5 : 0 ≤ x5 ∧ x5 ≤ 23) (k6 : 1 ≤ x6 ∧ x6 ≤ 24) (k7 : 0 ≤ x7 ∧ x7 ≤ 0) (k9 : 0 ≤ x9 ∧ x9 ≤ 99999995) (k10 : 0 ≤ x10 ∧ x10 ≤ 99999992) (k11 : 2 ≤ x11 ∧ x11 ≤ 99) (k12 : 1 ≤ x12 ∧ x12 ≤ 1) (d0 : x6 + (-4294967296) ≤ x5 ∧ x5 ≤ x6 + (-1)) (f0 : x12 < x11) (f1 : x11 = all_0 (((r_0 + 219) + x5))) (f2 : 1 * x10 + ((-1) * x2 + ((-36) * x5 + 0)) ≤ 5) (f3 : 1 * x9 + ((-1) * x2 + ((-36) * x5 + 0)) ≤ 0) (f4 : x7 = all_0 (((r_0 + 243) + x5))) (f5 : 1 * x6 + ((-1) * all_0 (r_0 + 0) + 0) ≤ 0) (f6 : (-1) * x6 + (1 * all_0 (r_0 + 0) + 0) ≤ 0) (f8 : 1 * texts_0 + ((-1) * x10 + 0) ≤ 8) (f10 : 1 * x10 + ((-1) * x2 + ((-36) * x5 + 0)) ≤ 5) (f11 : 1 * x9 + ((-1) * x2 + ((-36) * x5 + 0)) ≤ 0) (f13 : 1 * x9 + ((-1) * x2 + ((-36) * x5 + 0)) ≤ 0) (f14 : x7 = x4) (f15 : x5 < x6) (kz_0_170 : 0 ≤ texts_0 ∧ texts_0 ≤ 100000000) (ex2 : gx = texts_0) (ex3 : 0 ≤ gx ∧ gx ≤ 99999993) : 1 * gx + ((-1) * x2 + ((-36) * x5 + 0)) ≤ 13 := by
  first | assumption | omega | grind
def o_Mo_writeGroup_at_l0_6 : or_T := (47, 14, [(0, (2, 0, 0, [165])), (2, (0, 0, 87902919, [])), (3, (2, 0, 0, [165])), (4, (0, 0, 0, [])), (5, (0, 0, 23, [])), (6, (0, 1, 24, [])), (7, (0, 0, 0, [])), (9, (0, 0, 99999995, [])), (10, (0, 0, 99999992, [])), (11, (0, 2, 99, [])), (12, (0, 1, 1, []))], [(7, [11, 12], [4]), (20, [11, 3, 5], [50, 1, 1, 1005, 1002, 1, 2, 1, 0, 3, 1, 2, 4, 7, 4, 3, 2, 1, 5, 0, 219, 1, 2]), (23, [10, 2, 5], [5, 1, -1, -36]), (23, [9, 2, 5], [0, 1, -1, -36]), (20, [7, 3, 5], [50, 1, 1, 1005, 1002, 1, 2, 1, 0, 3, 1, 2, 4, 7, 4, 3, 2, 1, 5, 0, 243, 1, 2]), (20, [6, 3], [30, 0, 1, 0, 0, -1, 3, 2005000]), (20, [6, 3], [30, 0, -1, 0, 0, 1, 3, 2005000]), (24, [0, 3], []), (20, [3, 10], [30, 8, 1, 1, 170, -1, 0, 0]), (102, [10], [7770675568902916283677847627294075626569627356208558085007249638955617140820833992704, 165170]), (23, [10, 2, 5], [5, 1, -1, -36]), (23, [9, 2, 5], [0, 1, -1, -36]), (102, [9], [7770675568902916283677847627294075626569627356208558085007249638955617140820833992704, 165170]), (23, [9, 2, 5], [0, 1, -1, -36]), (7, [7, 4], [0]), (7, [5, 6], [2])], [], [(0, 0, 99999993, [])], [(20, [3, 14], [30, 0, 1, 1, 170, -1, 0, 0]), (23, [14, 2, 5], [13, 1, -1, -36])], [], [(5, 6, -4294967296, -1)])
theorem oo_Mo_writeGroup_at_l0_6 {kA : Nat → ClassId} : or_ok PRD kA GG o_Mo_writeGroup_at_l0_6 := by
  refine or_mk fun A ta ws vs hD hth hl => ?_
  intro t0 r0 t2 k2 t3 r3 t4 k4 t5 k5 t6 k6 t7 k7 t9 k9 t10 k10 t11 k11 t12 k12 d0 f0 f1 f2 f3 f4 f5 f6 f7 f8 ta1 w1 le1 s1 f10 f11 ta2 w2 le2 s2 f13 f14 f15
  replace f0 := shm_21 f0
  replace f1 := shm_732 f1
  replace f2 := shm_2038 f2
  replace f3 := shm_2037 f3
  replace f4 := shm_597 f4
  replace f5 := shm_126 f5
  replace f6 := shm_127 f6
  replace f7 := shm_5 f7
  replace f8 := shm_160 f8
  replace f10 := shm_2038 f10
  replace f11 := shm_2037 f11
  replace f13 := shm_2037 f13
  replace f14 := shm_37 f14
  replace f15 := shm_6 f15
  have q3 : n_v vs 3 = n_v vs 0 := f7.symm
  simp only [q3] at f1 f4 f5 f6 f8
  have cr_0_2 := fdq_10 hD hth r0
  have br_0_2_F5_0_0 : w_ei ws (w_ar ws (n_v vs 0) 2) (w_fi ws (n_v vs 0) 5 + 0) = w_el ws (w_ar ws (n_v vs 0) 2) (w_fi ws (n_v vs 0) 5 + 0).toNat := rfl
  have kz_0_170 := fdq_11 hD hth r0
  have kv0 := fdq_11 hD hth r0
  obtain ⟨x, ex, hx⟩ := iv_ex (ta := ta) (lo := 0) (hi := 99999993) (z := w_fi ws (n_v vs 0) 170) (by omega) (by omega) (by omega) (by omega)
  have ex2 : v_iv (Value.int x) = w_fi ws (n_v vs 0) 170 := ex
  have ex3 : 0 ≤ v_iv (Value.int x) ∧ v_iv (Value.int x) ≤ 99999993 := tv_rng hx
  have e_2 : n_v (vs ++ [Value.int x]) 2 = n_v vs 2 := n_v_old (by rw [hl]; decide)
  have e_3 : n_v (vs ++ [Value.int x]) 3 = n_v vs 3 := n_v_old (by rw [hl]; decide)
  have e_5 : n_v (vs ++ [Value.int x]) 5 = n_v vs 5 := n_v_old (by rw [hl]; decide)
  have e_14 : n_v (vs ++ [Value.int x]) 14 = Value.int x := n_v_new hl
  have nf0 : fc_1 PRD (20, [3, 14], [30, 0, 1, 1, 170, -1, 0, 0]) ws (vs ++ [Value.int x]) := by
    refine ⟨nf_inA hl rfl, sgq_131 ?_⟩
    · show 1 * w_fi ws (n_v (vs ++ [Value.int x]) 3) 170 + ((-1) * v_iv (n_v (vs ++ [Value.int x]) 14) + 0) ≤ 0
      simp only [e_3, e_14, q3]
      exact vc_Mo_writeGroup_at_l0_6_0 (v_iv (n_v vs 2)) (v_iv (n_v vs 4)) (v_iv (n_v vs 5)) (v_iv (n_v vs 6)) (v_iv (n_v vs 7)) (v_iv (n_v vs 9)) (v_iv (n_v vs 10)) (v_iv (n_v vs 11)) (v_iv (n_v vs 12)) (w_ei ws (w_ar ws (n_v vs 0) 2)) (w_fi ws (n_v vs 0) 5) (w_fi ws (n_v vs 0) 170) (v_iv (Value.int x)) k2 k4 k5 k6 k7 k9 k10 k11 k12 d0 f0 f1 f2 f3 f4 f5 f6 f8 f10 f11 f13 f14 f15 kz_0_170 ex2 ex3
  have nf1 : fc_1 PRD (23, [14, 2, 5], [13, 1, -1, -36]) ws (vs ++ [Value.int x]) := by
    refine ⟨nf_inA hl rfl, sgq_2040 ?_⟩
    · show 1 * v_iv (n_v (vs ++ [Value.int x]) 14) + ((-1) * v_iv (n_v (vs ++ [Value.int x]) 2) + ((-36) * v_iv (n_v (vs ++ [Value.int x]) 5) + 0)) ≤ 13
      simp only [e_2, e_5, e_14]
      exact vc_Mo_writeGroup_at_l0_6_1 (v_iv (n_v vs 2)) (v_iv (n_v vs 4)) (v_iv (n_v vs 5)) (v_iv (n_v vs 6)) (v_iv (n_v vs 7)) (v_iv (n_v vs 9)) (v_iv (n_v vs 10)) (v_iv (n_v vs 11)) (v_iv (n_v vs 12)) (w_ei ws (w_ar ws (n_v vs 0) 2)) (w_fi ws (n_v vs 0) 5) (w_fi ws (n_v vs 0) 170) (v_iv (Value.int x)) k2 k4 k5 k6 k7 k9 k10 k11 k12 d0 f0 f1 f2 f3 f4 f5 f6 f8 f10 f11 f13 f14 f15 kz_0_170 ex2 ex3
  exact ⟨(fun _ h => (by cases h)), [Value.int x], ag_one hx, List.forall_mem_cons.mpr ⟨⟨show (20 : Nat) < 100 from by decide, nf0⟩, List.forall_mem_cons.mpr ⟨⟨show (23 : Nat) < 100 from by decide, nf1⟩, (fun _ h => (by cases h))⟩⟩, (fun _ h => (by cases h))⟩
set_option maxHeartbeats 4000000 in
theorem vc_Mo_writeGroup_at_l0_7_0 (x2 : Int) (x4 : Int) (x5 : Int) (x6 : Int) (x7 : Int) (x9 : Int) (x10 : Int) (x11 : Int) (x12 : Int) (x14 : Int) (x15 : Int) (all_0 : Int → Int) (r_0 : Int) (texts_0 : Int) (gx : Int) (k2 : 0 ≤ x2 ∧ x2 ≤ 87902919) (k4 : 0 ≤ x4 ∧ x4 ≤ 0) (k5 : 0 ≤ x5 ∧ x5 ≤ 23) (k6 : 1 ≤ x6 ∧ x6 ≤ 24) (k7 : 0 ≤ x7 ∧ x7 ≤ 0) (k9 : 0 ≤ x9 ∧ x9 ≤ 99999995) (k10 : 0 ≤ x10 ∧ x10 ≤ 99999992) (k11 : 2 ≤ x11 ∧ x11 ≤ 99) (k12 : 1 ≤ x12 ∧ x12 ≤ 1) (k14 : 0 ≤ x14 ∧ x14 ≤ 99999993) (k15 : 0 ≤ x15 ∧ x15 ≤ 99) (d0 : x6 + (-4294967296) ≤ x5 ∧ x5 ≤ x6 + (-1)) (f0 : x15 = all_0 (((r_0 + 219) + x5))) (f1 : 1 * x14 + ((-1) * x2 + ((-36) * x5 + 0)) ≤ 13) (f2 : x11 = all_0 (((r_0 + 219) + x5))) (f3 : 1 * x10 + ((-1) * x2 + ((-36) * x5 + 0)) ≤ 5) (f4 : 1 * x9 + ((-1) * x2 + ((-36) * x5 + 0)) ≤ 0) (f5 : x7 = all_0 (((r_0 + 243) + x5))) (f6 : 1 * x6 + ((-1) * all_0 (r_0 + 0) + 0) ≤ 0) (f7 : (-1) * x6 + (1 * all_0 (r_0 + 0) + 0) ≤ 0) (f9 : 1 * texts_0 + ((-1) * x14 + 0) ≤ 7) (f11 : 1 * x14 + ((-1) * x2 + ((-36) * x5 + 0)) ≤ 13) (f12 : x12 < x11) (f13 : 1 * x10 + ((-1) * x2 + ((-36) * x5 + 0)) ≤ 5) (f14 : 1 * x9 + ((-1) * x2 + ((-36) * x5 + 0)) ≤ 0) (f16 : 1 * x10 + ((-1) * x2 + ((-36) * x5 + 0)) ≤ 5) (f17 : 1 * x9 + ((-1) * x2 + ((-36) * x5 + 0)) ≤ 0) (f19 : 1 * x9 + ((-1) * x2 + ((-36) * x5 + 0)) ≤ 0) (f20 : x7 = x4) (f21 : x5 < x6) (kz_0_170 : 0 ≤ texts_0 ∧ texts_0 ≤ 100000000) (ex2 : gx = texts_0) (ex3 : 0 ≤ gx ∧ gx ≤ 99999987) : 1 * texts_0 + ((-1) * gx + 0) ≤ 0 := by
  first | assumption | omega | grind
set_option maxHeartbeats 4000000 in
theorem vc_Mo_writeGroup_at_l0_7_1 (x2 : Int) (x4 : Int) (x5 : Int) (x6 : Int) (x7 : Int) (x9 : Int) (x10 : Int) (x11 : Int) (x12 : Int) (x14 : Int) (x15 : Int) (all_0 : Int → Int) (r_0 : Int) (texts_0 : Int) (gx : Int) (k2 : 0 ≤ x2 ∧ x2 ≤ 87902919) (k4 : 0 ≤ x4 ∧ x4 ≤ 0) (k5 : 0 ≤ x5 ∧ x5 ≤ 23) (k6 : 1 ≤ x6 ∧ x6 ≤ 24) (k7 : 0 ≤ x7 ∧ x7 ≤ 0) (k9 : 0 ≤ x9 ∧ x9 ≤ 99999995) (k10 : 0 ≤ x10 ∧ x10 ≤ 99999992) (k11 : 2 ≤ x11 ∧ x11 ≤ 99) (k12 : 1 ≤ x12 ∧ x12 ≤ 1) (k14 : 0 ≤ x14 ∧ x14 ≤ 99999993) (k15 : 0 ≤ x15 ∧ x15 ≤ 99) (d0 : x6 + (-4294967296) ≤ x5 ∧ x5 ≤ x6 + (-1)) (f0 : x15 = all_0 (((r_0 + 219) + x5))) (f1 : 1 * x14 + ((-1) * x2 + ((-36) * x5 + 0)) ≤ 13) (f2 : x11 = all_0 (((r_0 + 219) + x5))) (f3 : 1 * x10 + ((-1) * x2 + ((-36) * x5 + 0)) ≤ 5) (f4 : 1 * x9 + ((-1) * x2 + ((-36) * x5 + 0)) ≤ 0) (f5 : x7 = all_0 (((r_0 + 243) + x5))) (f6 : 1 * x6 + ((-1) * all_0 (r_0 + 0) + 0) ≤ 0) (f7 : (-1) * x6 + (1 * all_0 (r_0 + 0) + 0) ≤ 0) (f9 : 1 * texts_0 + ((-1) * x14 + 0) ≤ 7) (f11 : 1 * x14 + ((-1) * x2 + ((-36) * x5 + 0)) ≤ 13) (f12 : x12 < x11) (f13 : 1 * x10 + ((-1) * x2 + ((-36) * x5 + 0)) ≤ 5) (f14 : 1 * x9 + ((-1) * x2 + ((-36) * x5 + 0)) ≤ 0) (f16 : 1 * x10 + ((-1) * x2 + ((-36) * x5 + 0)) ≤ 5) (f17 : 1 * x9 + ((-1) * x2 + ((-36) * x5 + 0)) ≤ 0) (f19 : 1 * x9 + ((-1) * x2 + ((-36) * x5 + 0)) ≤ 0) (f20 : x7 = x4) (f21 : x5 < x6) (kz_0_170 : 0 ≤ texts_0 ∧ texts_0 ≤ 100000000) (ex2 : gx = texts_0) (ex3 : 0 ≤ gx ∧ gx ≤ 99999987) : 1 * gx + ((-1) * x2 + ((-36) * x5 + 0)) ≤ 20 := by
  first | assumption | omega | grind
def o_Mo_writeGroup_at_l0_7 : or_T := (56, 16, [(0, (2, 0, 0, [165])), (2, (0, 0, 87902919, [])), (3, (2, 0, 0, [165])), (4, (0, 0, 0, [])), (5, (0, 0, 23, [])), (6, (0, 1, 24, [])), (7, (0, 0, 0, [])), (9, (0, 0, 99999995, [])), (10, (0, 0, 99999992, [])), (11, (0, 2, 99, [])), (12, (0, 1, 1, [])), (14, (0, 0, 99999993, [])), (15, (0, 0, 99, []))], [(20, [15, 3, 5], [50, 1, 1, 1005, 1002, 1, 2, 1, 0, 3, 1, 2, 4, 7, 4, 3, 2, 1, 5, 0, 219, 1, 2]), (23, [14, 2, 5], [13, 1, -1, -36]), (20, [11, 3, 5], [50, 1, 1, 1005, 1002, 1, 2, 1, 0, 3, 1, 2, 4, 7, 4, 3, 2, 1, 5, 0, 219, 1, 2]), (23, [10, 2, 5], [5, 1, -1, -36]), (23, [9, 2, 5], [0, 1, -1, -36]), (20, [7, 3, 5], [50, 1, 1, 1005, 1002, 1, 2, 1, 0, 3, 1, 2, 4, 7, 4, 3, 2, 1, 5, 0, 243, 1, 2]), (20, [6, 3], [30, 0, 1, 0, 0, -1, 3, 2005000]), (20, [6, 3], [30, 0, -1, 0, 0, 1, 3, 2005000]), (24, [0, 3], []), (20, [3, 14], [30, 7, 1, 1, 170, -1, 0, 0]), (102, [14], [7770675568902916283677847627294075626569627356208558085007249638955617140820833992704, 165170]), (23, [14, 2, 5], [13, 1, -1, -36]), (7, [11, 12], [4]), (23, [10, 2, 5], [5, 1, -1, -36]), (23, [9, 2, 5], [0, 1, -1, -36]), (102, [10], [7770675568902916283677847627294075626569627356208558085007249638955617140820833992704, 165170]), (23, [10, 2, 5], [5, 1, -1, -36]), (23, [9, 2, 5], [0, 1, -1, -36]), (102, [9], [7770675568902916283677847627294075626569627356208558085007249638955617140820833992704, 165170]), (23, [9, 2, 5], [0, 1, -1, -36]), (7, [7, 4], [0]), (7, [5, 6], [2])], [], [(0, 0, 99999987, [])], [(20, [3, 16], [30, 0, 1, 1, 170, -1, 0, 0]), (23, [16, 2, 5], [20, 1, -1, -36])], [], [(5, 6, -4294967296, -1)])
theorem oo_Mo_writeGroup_at_l0_7 {kA : Nat → ClassId} : or_ok PRD kA GG o_Mo_writeGroup_at_l0_7 := by
  refine or_mk fun A ta ws vs hD hth hl => ?_
  intro t0 r0 t2 k2 t3 r3 t4 k4 t5 k5 t6 k6 t7 k7 t9 k9 t10 k10 t11 k11 t12 k12 t14 k14 t15 k15 d0 f0 f1 f2 f3 f4 f5 f6 f7 f8 f9 ta1 w1 le1 s1 f11 f12 f13 f14 ta2 w2 le2 s2 f16 f17 ta3 w3 le3 s3 f19 f20 f21
  replace f0 := shm_732 f0
  replace f1 := shm_2040 f1
  replace f2 := shm_732 f2
  replace f3 := shm_2038 f3
  replace f4 := shm_2037 f4
  replace f5 := shm_597 f5
  replace f6 := shm_126 f6
  replace f7 := shm_127 f7
  replace f8 := shm_5 f8
  replace f9 := shm_209 f9
  replace f11 := shm_2040 f11
  replace f12 := shm_21 f12
  replace f13 := shm_2038 f13
  replace f14 := shm_2037 f14
  replace f16 := shm_2038 f16
  replace f17 := shm_2037 f17
  replace f19 := shm_2037 f19
  replace f20 := shm_37 f20
  replace f21 := shm_6 f21
  have q3 : n_v vs 3 = n_v vs 0 := f8.symm
  simp only [q3] at f0 f2 f5 f6 f7 f9
  have cr_0_2 := fdq_10 hD hth r0
  have br_0_2_F5_0_0 : w_ei ws (w_ar ws (n_v vs 0) 2) (w_fi ws (n_v vs 0) 5 + 0) = w_el ws (w_ar ws (n_v vs 0) 2) (w_fi ws (n_v vs 0) 5 + 0).toNat := rfl
  have kz_0_170 := fdq_11 hD hth r0
  have kv0 := fdq_11 hD hth r0
  obtain ⟨x, ex, hx⟩ := iv_ex (ta := ta) (lo := 0) (hi := 99999987) (z := w_fi ws (n_v vs 0) 170) (by omega) (by omega) (by omega) (by omega)
  have ex2 : v_iv (Value.int x) = w_fi ws (n_v vs 0) 170 := ex
  have ex3 : 0 ≤ v_iv (Value.int x) ∧ v_iv (Value.int x) ≤ 99999987 := tv_rng hx
  have e_2 : n_v (vs ++ [Value.int x]) 2 = n_v vs 2 := n_v_old (by rw [hl]; decide)
  have e_3 : n_v (vs ++ [Value.int x]) 3 = n_v vs 3 := n_v_old (by rw [hl]; decide)
  have e_5 : n_v (vs ++ [Value.int x]) 5 = n_v vs 5 := n_v_old (by rw [hl]; decide)
  have e_16 : n_v (vs ++ [Value.int x]) 16 = Value.int x := n_v_new hl
  have nf0 : fc_1 PRD (20, [3, 16], [30, 0, 1, 1, 170, -1, 0, 0]) ws (vs ++ [Value.int x]) := by
    refine ⟨nf_inA hl rfl, sgq_131 ?_⟩
    · show 1 * w_fi ws (n_v (vs ++ [Value.int x]) 3) 170 + ((-1) * v_iv (n_v (vs ++ [Value.int x]) 16) + 0) ≤ 0
      simp only [e_3, e_16, q3]
      exact vc_Mo_writeGroup_at_l0_7_0 (v_iv (n_v vs 2)) (v_iv (n_v vs 4)) (v_iv (n_v vs 5)) (v_iv (n_v vs 6)) (v_iv (n_v vs 7)) (v_iv (n_v vs 9)) (v_iv (n_v vs 10)) (v_iv (n_v vs 11)) (v_iv (n_v vs 12)) (v_iv (n_v vs 14)) (v_iv (n_v vs 15)) (w_ei ws (w_ar ws (n_v vs 0) 2)) (w_fi ws (n_v vs 0) 5) (w_fi ws (n_v vs 0) 170) (v_iv (Value.int x)) k2 k4 k5 k6 k7 k9 k10 k11 k12 k14 k15 d0 f0 f1 f2 f3 f4 f5 f6 f7 f9 f11 f12 f13 f14 f16 f17 f19 f20 f21 kz_0_170 ex2 ex3
  have nf1 : fc_1 PRD (23, [16, 2, 5], [20, 1, -1, -36]) ws (vs ++ [Value.int x]) := by
    refine ⟨nf_inA hl rfl, sgq_2041 ?_⟩
    · show 1 * v_iv (n_v (vs ++ [Value.int x]) 16) + ((-1) * v_iv (n_v (vs ++ [Value.int x]) 2) + ((-36) * v_iv (n_v (vs ++ [Value.int x]) 5) + 0)) ≤ 20
      simp only [e_2, e_5, e_16]
      exact vc_Mo_writeGroup_at_l0_7_1 (v_iv (n_v vs 2)) (v_iv (n_v vs 4)) (v_iv (n_v vs 5)) (v_iv (n_v vs 6)) (v_iv (n_v vs 7)) (v_iv (n_v vs 9)) (v_iv (n_v vs 10)) (v_iv (n_v vs 11)) (v_iv (n_v vs 12)) (v_iv (n_v vs 14)) (v_iv (n_v vs 15)) (w_ei ws (w_ar ws (n_v vs 0) 2)) (w_fi ws (n_v vs 0) 5) (w_fi ws (n_v vs 0) 170) (v_iv (Value.int x)) k2 k4 k5 k6 k7 k9 k10 k11 k12 k14 k15 d0 f0 f1 f2 f3 f4 f5 f6 f7 f9 f11 f12 f13 f14 f16 f17 f19 f20 f21 kz_0_170 ex2 ex3
  exact ⟨(fun _ h => (by cases h)), [Value.int x], ag_one hx, List.forall_mem_cons.mpr ⟨⟨show (20 : Nat) < 100 from by decide, nf0⟩, List.forall_mem_cons.mpr ⟨⟨show (23 : Nat) < 100 from by decide, nf1⟩, (fun _ h => (by cases h))⟩⟩, (fun _ h => (by cases h))⟩
set_option maxHeartbeats 4000000 in
theorem vc_Mo_writeGroup_at_l0_8_0 (x2 : Int) (x4 : Int) (x5 : Int) (x6 : Int) (x7 : Int) (x9 : Int) (x10 : Int) (x11 : Int) (x12 : Int) (x14 : Int) (x15 : Int) (x16 : Int) (all_0 : Int → Int) (r_0 : Int) (texts_0 : Int) (gx : Int) (k2 : 0 ≤ x2 ∧ x2 ≤ 87902919) (k4 : 0 ≤ x4 ∧ x4 ≤ 0) (k5 : 0 ≤ x5 ∧ x5 ≤ 23) (k6 : 1 ≤ x6 ∧ x6 ≤ 24) (k7 : 0 ≤ x7 ∧ x7 ≤ 0) (k9 : 0 ≤ x9 ∧ x9 ≤ 99999995) (k10 : 0 ≤ x10 ∧ x10 ≤ 99999992) (k11 : 2 ≤ x11 ∧ x11 ≤ 99) (k12 : 1 ≤ x12 ∧ x12 ≤ 1) (k14 : 0 ≤ x14 ∧ x14 ≤ 99999993) (k15 : 0 ≤ x15 ∧ x15 ≤ 99) (k16 : 0 ≤ x16 ∧ x16 ≤ 99999987) (d0 : x6 + (-4294967296) ≤ x5 ∧ x5 ≤ x6 + (-1)) (f0 : 1 * x16 + ((-1) * x2 + ((-36) * x5 + 0)) ≤ 20) (f1 : x15 = all_0 (((r_0 + 219) + x5))) (f2 : 1 * x14 + ((-1) * x2 + ((-36) * x5 + 0)) ≤ 13) (f3 : x11 = all_0 (((r_0 + 219) + x5))) (f4 : 1 * x10 + ((-1) * x2 + ((-36) * x5 + 0)) ≤ 5) (f5 : 1 * x9 + ((-1) * x2 + ((-36) * x5 + 0)) ≤ 0) (f6 : x7 = all_0 (((r_0 + 243) + x5))) (f7 : 1 * x6 + ((-1) * all_0 (r_0 + 0) + 0) ≤ 0) (f8 : (-1) * x6 + (1 * all_0 (r_0 + 0) + 0) ≤ 0) (f10 : 1 * texts_0 + ((-1) * x16 + 0) ≤ 13) (f12 : 1 * x16 + ((-1) * x2 + ((-36) * x5 + 0)) ≤ 20) (f13 : 1 * x14 + ((-1) * x2 + ((-36) * x5 + 0)) ≤ 13) (f14 : 1 * x10 + ((-1) * x2 + ((-36) * x5 + 0)) ≤ 5) (f15 : 1 * x9 + ((-1) * x2 + ((-36) * x5 + 0)) ≤ 0) (f17 : 1 * x14 + ((-1) * x2 + ((-36) * x5 + 0)) ≤ 13) (f18 : x12 < x11) (f19 : 1 * x10 + ((-1) * x2 + ((-36) * x5 + 0)) ≤ 5) (f20 : 1 * x9 + ((-1) * x2 + ((-36) * x5 + 0)) ≤ 0) (f22 : 1 * x10 + ((-1) * x2 + ((-36) * x5 + 0)) ≤ 5) (f23 : 1 * x9 + ((-1) * x2 + ((-36) * x5 + 0)) ≤ 0) (f25 : 1 * x9 + ((-1) * x2 + ((-36) * x5 + 0)) ≤ 0) (f26 : x7 = x4) (f27 : x5 < x6) (kz_0_170 : 0 ≤ texts_0 ∧ texts_0 ≤ 100000000) (ex2 : gx = texts_0) (ex3 : 0 ≤ gx ∧ gx ≤ 99999999) : 1 * texts_0 + ((-1) * gx + 0) ≤ 0 := by
  first | assumption | omega | grind
set_option maxHeartbeats 4000000 in
theorem vc_Mo_writeGroup_at_l0_8_1 (x2 : Int) (x4 : Int) (x5 : Int) (x6 : Int) (x7 : Int) (x9 : Int) (x10 : Int) (x11 : Int) (x12 : Int) (x14 : Int) (x15 : Int) (x16 : Int) (all_0 : Int → Int) (r_0 : Int) (texts_0 : Int) (gx : Int) (k2 : 0 ≤ x2 ∧ x2 ≤ 87902919) (k4 : 0 ≤ x4 ∧ x4 ≤ 0) (k5 : 0 ≤ x5 ∧ x5 ≤ 23) (k6 : 1 ≤ x6 ∧ x6 ≤ 24) (k7 : 0 ≤ x7 ∧ x7 ≤ 0) (k9 : 0 ≤ x9 ∧ x9 ≤ 99999995) (k10 : 0 ≤ x10 ∧ x10 ≤ 99999992) (k11 : 2 ≤ x11 ∧ x11 ≤ 99) (k12 : 1 ≤ x12 ∧ x12 ≤ 1) (k14 : 0 ≤ x14 ∧ x14 ≤ 99999993) (k15 : 0 ≤ x15 ∧ x15 ≤ 99) (k16 : 0 ≤ x16 ∧ x16 ≤ 99999987) (d0 : x6 + (-4294967296) ≤ x5 ∧ x5 ≤ x6 + (-1)) (f0 : 1 * x16 + ((-1) * x2 + ((-36) * x5 + 0)) ≤ 20) (f1 : x15 = all_0 (((r_0 + 219) + x5))) (f2 : 1 * x14 + ((-1) * x2 + ((-36) * x5 + 0)) ≤ 13) (f3 : x11 = all_0 (((r_0 + 219) + x5))) (f4 : 1 * x10 + ((-1) * x2 + ((-36) * x5 + 0)) ≤ 5) (f5 : 1 * x9 + ((-1) * x2 + ((-36) * x5 + 0)) ≤ 0) (f6 : x7 = all_0 (((r_0 + 243) + x5))) (f7 : 1 * x6 + ((-1) * all_0 (r_0 + 0) + 0) ≤ 0) (f8 : (-1) * x6 + (1 * all_0 (r_0 + 0) + 0) ≤ 0) (f10 : 1 * texts_0 + ((-1) * x16 + 0) ≤ 13) (f12 : 1 * x16 + ((-1) * x2 + ((-36) * x5 + 0)) ≤ 20) (f13 : 1 * x14 + ((-1) * x2 + ((-36) * x5 + 0)) ≤ 13) (f14 : 1 * x10 + ((-1) * x2 + ((-36) * x5 + 0)) ≤ 5) (f15 : 1 * x9 + ((-1) * x2 + ((-36) * x5 + 0)) ≤ 0) (f17 : 1 * x14 + ((-1) * x2 + ((-36) * x5 + 0)) ≤ 13) (f18 : x12 < x11) (f19 : 1 * x10 + ((-1) * x2 + ((-36) * x5 + 0)) ≤ 5) (f20 : 1 * x9 + ((-1) * x2 + ((-36) * x5 + 0)) ≤ 0) (f22 : 1 * x10 + ((-1) * x2 + ((-36) * x5 + 0)) ≤ 5) (f23 : 1 * x9 + ((-1) * x2 + ((-36) * x5 + 0)) ≤ 0) (f25 : 1 * x9 + ((-1) * x2 + ((-36) * x5 + 0)) ≤ 0) (f26 : x7 = x4) (f27 : x5 < x6) (kz_0_170 : 0 ≤ texts_0 ∧ texts_0 ≤ 100000000) (ex2 : gx = texts_0) (ex3 : 0 ≤ gx ∧ gx ≤ 99999999) : 1 * gx + ((-1) * x2 + ((-36) * x5 + 0)) ≤ 33 := by
  first | assumption | omega | grind
def o_Mo_writeGroup_at_l0_8 : or_T := (63, 18, [(0, (2, 0, 0, [165])), (2, (0, 0, 87902919, [])), (3, (2, 0, 0, [165])), (4, (0, 0, 0, [])), (5, (0, 0, 23, [])), (6, (0, 1, 24, [])), (7, (0, 0, 0, [])), (9, (0, 0, 99999995, [])), (10, (0, 0, 99999992, [])), (11, (0, 2, 99, [])), (12, (0, 1, 1, [])), (14, (0, 0, 99999993, [])), (15, (0, 0, 99, [])), (16, (0, 0, 99999987, []))], [(23, [16, 2, 5], [20, 1, -1, -36]), (20, [15, 3, 5], [50, 1, 1, 1005, 1002, 1, 2, 1, 0, 3, 1, 2, 4, 7, 4, 3, 2, 1, 5, 0, 219, 1, 2]), (23, [14, 2, 5], [13, 1, -1, -36]), (20, [11, 3, 5], [50, 1, 1, 1005, 1002, 1, 2, 1, 0, 3, 1, 2, 4, 7, 4, 3, 2, 1, 5, 0, 219, 1, 2]), (23, [10, 2, 5], [5, 1, -1, -36]), (23, [9, 2, 5], [0, 1, -1, -36]), (20, [7, 3, 5], [50, 1, 1, 1005, 1002, 1, 2, 1, 0, 3, 1, 2, 4, 7, 4, 3, 2, 1, 5, 0, 243, 1, 2]), (20, [6, 3], [30, 0, 1, 0, 0, -1, 3, 2005000]), (20, [6, 3], [30, 0, -1, 0, 0, 1, 3, 2005000]), (24, [0, 3], []), (20, [3, 16], [30, 13, 1, 1, 170, -1, 0, 0]), (102, [16], [7770675568902916283677847627294075626569627356208558085007249638955617140820833992704, 165170]), (23, [16, 2, 5], [20, 1, -1, -36]), (23, [14, 2, 5], [13, 1, -1, -36]), (23, [10, 2, 5], [5, 1, -1, -36]), (23, [9, 2, 5], [0, 1, -1, -36]), (102, [14], [7770675568902916283677847627294075626569627356208558085007249638955617140820833992704, 165170]), (23, [14, 2, 5], [13, 1, -1, -36]), (7, [11, 12], [4]), (23, [10, 2, 5], [5, 1, -1, -36]), (23, [9, 2, 5], [0, 1, -1, -36]), (102, [10], [7770675568902916283677847627294075626569627356208558085007249638955617140820833992704, 165170]), (23, [10, 2, 5], [5, 1, -1, -36]), (23, [9, 2, 5], [0, 1, -1, -36]), (102, [9], [7770675568902916283677847627294075626569627356208558085007249638955617140820833992704, 165170]), (23, [9, 2, 5], [0, 1, -1, -36]), (7, [7, 4], [0]), (7, [5, 6], [2])], [], [(0, 0, 99999999, [])], [(20, [3, 18], [30, 0, 1, 1, 170, -1, 0, 0]), (23, [18, 2, 5], [33, 1, -1, -36])], [], [(5, 6, -4294967296, -1)])
theorem oo_Mo_writeGroup_at_l0_8 {kA : Nat → ClassId} : or_ok PRD kA GG o_Mo_writeGroup_at_l0_8 := by
  refine or_mk fun A ta ws vs hD hth hl => ?_
  intro t0 r0 t2 k2 t3 r3 t4 k4 t5 k5 t6 k6 t7 k7 t9 k9 t10 k10 t11 k11 t12 k12 t14 k14 t15 k15 t16 k16 d0 f0 f1 f2 f3 f4 f5 f6 f7 f8 f9 f10 ta1 w1 le1 s1 f12 f13 f14 f15 ta2 w2 le2 s2 f17 f18 f19 f20 ta3 w3 le3 s3 f22 f23 ta4 w4 le4 s4 f25 f26 f27
  replace f0 := shm_2041 f0
  replace f1 := shm_732 f1
  replace f2 := shm_2040 f2
  replace f3 := shm_732 f3
  replace f4 := shm_2038 f4
  replace f5 := shm_2037 f5
  replace f6 := shm_597 f6
  replace f7 := shm_126 f7
  replace f8 := shm_127 f8
  replace f9 := shm_5 f9
  replace f10 := shm_1056 f10
  replace f12 := shm_2041 f12
  replace f13 := shm_2040 f13
  replace f14 := shm_2038 f14
  replace f15 := shm_2037 f15
  replace f17 := shm_2040 f17
  replace f18 := shm_21 f18
  replace f19 := shm_2038 f19
  replace f20 := shm_2037 f20
  replace f22 := shm_2038 f22
  replace f23 := shm_2037 f23
  replace f25 := shm_2037 f25
  replace f26 := shm_37 f26
  replace f27 := shm_6 f27
  have q3 : n_v vs 3 = n_v vs 0 := f9.symm
  simp only [q3] at f1 f3 f6 f7 f8 f10
  have cr_0_2 := fdq_10 hD hth r0
  have br_0_2_F5_0_0 : w_ei ws (w_ar ws (n_v vs 0) 2) (w_fi ws (n_v vs 0) 5 + 0) = w_el ws (w_ar ws (n_v vs 0) 2) (w_fi ws (n_v vs 0) 5 + 0).toNat := rfl
  have kz_0_170 := fdq_11 hD hth r0
  have kv0 := fdq_11 hD hth r0
  obtain ⟨x, ex, hx⟩ := iv_ex (ta := ta) (lo := 0) (hi := 99999999) (z := w_fi ws (n_v vs 0) 170) (by omega) (by omega) (by omega) (by omega)
  have ex2 : v_iv (Value.int x) = w_fi ws (n_v vs 0) 170 := ex
  have ex3 : 0 ≤ v_iv (Value.int x) ∧ v_iv (Value.int x) ≤ 99999999 := tv_rng hx
  have e_2 : n_v (vs ++ [Value.int x]) 2 = n_v vs 2 := n_v_old (by rw [hl]; decide)
  have e_3 : n_v (vs ++ [Value.int x]) 3 = n_v vs 3 := n_v_old (by rw [hl]; decide)
  have e_5 : n_v (vs ++ [Value.int x]) 5 = n_v vs 5 := n_v_old (by rw [hl]; decide)
  have e_18 : n_v (vs ++ [Value.int x]) 18 = Value.int x := n_v_new hl
  have nf0 : fc_1 PRD (20, [3, 18], [30, 0, 1, 1, 170, -1, 0, 0]) ws (vs ++ [Value.int x]) := by
    refine ⟨nf_inA hl rfl, sgq_131 ?_⟩
    · show 1 * w_fi ws (n_v (vs ++ [Value.int x]) 3) 170 + ((-1) * v_iv (n_v (vs ++ [Value.int x]) 18) + 0) ≤ 0
      simp only [e_3, e_18, q3]
      exact vc_Mo_writeGroup_at_l0_8_0 (v_iv (n_v vs 2)) (v_iv (n_v vs 4)) (v_iv (n_v vs 5)) (v_iv (n_v vs 6)) (v_iv (n_v vs 7)) (v_iv (n_v vs 9)) (v_iv (n_v vs 10)) (v_iv (n_v vs 11)) (v_iv (n_v vs 12)) (v_iv (n_v vs 14)) (v_iv (n_v vs 15)) (v_iv (n_v vs 16)) (w_ei ws (w_ar ws (n_v vs 0) 2)) (w_fi ws (n_v vs 0) 5) (w_fi ws (n_v vs 0) 170) (v_iv (Value.int x)) k2 k4 k5 k6 k7 k9 k10 k11 k12 k14 k15 k16 d0 f0 f1 f2 f3 f4 f5 f6 f7 f8 f10 f12 f13 f14 f15 f17 f18 f19 f20 f22 f23 f25 f26 f27 kz_0_170 ex2 ex3
  have nf1 : fc_1 PRD (23, [18, 2, 5], [33, 1, -1, -36]) ws (vs ++ [Value.int x]) := by
    refine ⟨nf_inA hl rfl, sgq_2042 ?_⟩
    · show 1 * v_iv (n_v (vs ++ [Value.int x]) 18) + ((-1) * v_iv (n_v (vs ++ [Value.int x]) 2) + ((-36) * v_iv (n_v (vs ++ [Value.int x]) 5) + 0)) ≤ 33
      simp only [e_2, e_5, e_18]
      exact vc_Mo_writeGroup_at_l0_8_1 (v_iv (n_v vs 2)) (v_iv (n_v vs 4)) (v_iv (n_v vs 5)) (v_iv (n_v vs 6)) (v_iv (n_v vs 7)) (v_iv (n_v vs 9)) (v_iv (n_v vs 10)) (v_iv (n_v vs 11)) (v_iv (n_v vs 12)) (v_iv (n_v vs 14)) (v_iv (n_v vs 15)) (v_iv (n_v vs 16)) (w_ei ws (w_ar ws (n_v vs 0) 2)) (w_fi ws (n_v vs 0) 5) (w_fi ws (n_v vs 0) 170) (v_iv (Value.int x)) k2 k4 k5 k6 k7 k9 k10 k11 k12 k14 k15 k16 d0 f0 f1 f2 f3 f4 f5 f6 f7 f8 f10 f12 f13 f14 f15 f17 f18 f19 f20 f22 f23 f25 f26 f27 kz_0_170 ex2 ex3
  exact ⟨(fun _ h => (by cases h)), [Value.int x], ag_one hx, List.forall_mem_cons.mpr ⟨⟨show (20 : Nat) < 100 from by decide, nf0⟩, List.forall_mem_cons.mpr ⟨⟨show (23 : Nat) < 100 from by decide, nf1⟩, (fun _ h => (by cases h))⟩⟩, (fun _ h => (by cases h))⟩
set_option maxHeartbeats 4000000 in
theorem vc_Mo_writeGroup_at_l0_9_0 (x2 : Int) (x4 : Int) (x5 : Int) (x6 : Int) (x7 : Int) (x9 : Int) (x10 : Int) (x11 : Int) (x12 : Int) (x14 : Int) (x15 : Int) (x16 : Int) (x18 : Int) (all_0 : Int → Int) (r_0 : Int) (texts_0 : Int) (gx : Int) (k2 : 0 ≤ x2 ∧ x2 ≤ 87902919) (k4 : 0 ≤ x4 ∧ x4 ≤ 0) (k5 : 0 ≤ x5 ∧ x5 ≤ 23) (k6 : 1 ≤ x6 ∧ x6 ≤ 24) (k7 : 0 ≤ x7 ∧ x7 ≤ 0) (k9 : 0 ≤ x9 ∧ x9 ≤ 99999995) (k10 : 0 ≤ x10 ∧ x10 ≤ 99999992) (k11 : 2 ≤ x11 ∧ x11 ≤ 99) (k12 : 1 ≤ x12 ∧ x12 ≤ 1) (k14 : 0 ≤ x14 ∧ x14 ≤ 99999993) (k15 : 0 ≤ x15 ∧ x15 ≤ 99) (k16 : 0 ≤ x16 ∧ x16 ≤ 99999987) (k18 : 0 ≤ x18 ∧ x18 ≤ 99999999) (d0 : x6 + (-4294967296) ≤ x5 ∧ x5 ≤ x6 + (-1)) (f0 : 1 * x18 + ((-1) * x2 + ((-36) * x5 + 0)) ≤ 33) (f1 : 1 * x16 + ((-1) * x2 + ((-36) * x5 + 0)) ≤ 20) (f2 : x15 = all_0 (((r_0 + 219) + x5))) (f3 : 1 * x14 + ((-1) * x2 + ((-36) * x5 + 0)) ≤ 13) (f4 : x11 = all_0 (((r_0 + 219) + x5))) (f5 : 1 * x10 + ((-1) * x2 + ((-36) * x5 + 0)) ≤ 5) (f6 : 1 * x9 + ((-1) * x2 + ((-36) * x5 + 0)) ≤ 0) (f7 : x7 = all_0 (((r_0 + 243) + x5))) (f8 : 1 * x6 + ((-1) * all_0 (r_0 + 0) + 0) ≤ 0) (f9 : (-1) * x6 + (1 * all_0 (r_0 + 0) + 0) ≤ 0) (f11 : 1 * texts_0 + ((-1) * x18 + 0) ≤ 1) (f13 : 1 * x18 + ((-1) * x2 + ((-36) * x5 + 0)) ≤ 33) (f14 : 1 * x16 + ((-1) * x2 + ((-36) * x5 + 0)) ≤ 20) (f15 : 1 * x14 + ((-1) * x2 + ((-36) * x5 + 0)) ≤ 13) (f16 : 1 * x10 + ((-1) * x2 + ((-36) * x5 + 0)) ≤ 5) (f17 : 1 * x9 + ((-1) * x2 + ((-36) * x5 + 0)) ≤ 0) (f19 : 1 * x16 + ((-1) * x2 + ((-36) * x5 + 0)) ≤ 20) (f20 : 1 * x14 + ((-1) * x2 + ((-36) * x5 + 0)) ≤ 13) (f21 : 1 * x10 + ((-1) * x2 + ((-36) * x5 + 0)) ≤ 5) (f22 : 1 * x9 + ((-1) * x2 + ((-36) * x5 + 0)) ≤ 0) (f24 : 1 * x14 + ((-1) * x2 + ((-36) * x5 + 0)) ≤ 13) (f25 : x12 < x11) (f26 : 1 * x10 + ((-1) * x2 + ((-36) * x5 + 0)) ≤ 5) (f27 : 1 * x9 + ((-1) * x2 + ((-36) * x5 + 0)) ≤ 0) (f29 : 1 * x10 + ((-1) * x2 + ((-36) * x5 + 0)) ≤ 5) (f30 : 1 * x9 + ((-1) * x2 + ((-36) * x5 + 0)) ≤ 0) (f32 : 1 * x9 + ((-1) * x2 + ((-36) * x5 + 0)) ≤ 0) (f33 : x7 = x4) (f34 : x5 < x6) (kz_0_170 : 0 ≤ texts_0 ∧ texts_0 ≤ 100000000) (ex2 : gx = texts_0) (ex3 : 0 ≤ gx ∧ gx ≤ 99999998) : 1 * texts_0 + ((-1) * gx + 0) ≤ 0 := by
  first | assumption | omega | grind
set_option maxHeartbeats 4000000 in
theorem vc_Mo_writeGroup_at_l0_9_1 (x2 : Int) (x4 : Int) (x5 : Int) (x6 : Int) (x7 : Int) (x9 : Int) (x10 : Int) (x11 : Int) (x12 : Int) (x14 : Int) (x15 : Int) (x16 : Int) (x18 : Int) (all_0 : Int → Int) (r_0 : Int) (texts_0 : Int) (gx : Int) (k2 : 0 ≤ x2 ∧ x2 ≤ 87902919) (k4 : 0 ≤ x4 ∧ x4 ≤ 0) (k5 : 0 ≤ x5 ∧ x5 ≤ 23) (k6 : 1 ≤ x6 ∧ x6 ≤ 24) (k7 : 0 ≤ x7 ∧ x7 ≤ 0) (k9 : 0 ≤ x9 ∧ x9 ≤ 99999995) (k10 : 0 ≤ x10 ∧ x10 ≤ 99999992) (k11 : 2 ≤ x11 ∧ x11 ≤ 99) (k12 : 1 ≤ x12 ∧ x12 ≤ 1) (k14 : 0 ≤ x14 ∧ x14 ≤ 99999993) (k15 : 0 ≤ x15 ∧ x15 ≤ 99) (k16 : 0 ≤ x16 ∧ x16 ≤ 99999987) (k18 : 0 ≤ x18 ∧ x18 ≤ 99999999) (d0 : x6 + (-4294967296) ≤ x5 ∧ x5 ≤ x6 + (-1)) (f0 : 1 * x18 + ((-1) * x2 + ((-36) * x5 + 0)) ≤ 33) (f1 : 1 * x16 + ((-1) * x2 + ((-36) * x5 + 0)) ≤ 20) (f2 : x15 = all_0 (((r_0 + 219) + x5))) (f3 : 1 * x14 + ((-1) * x2 + ((-36) * x5 + 0)) ≤ 13) (f4 : x11 = all_0 (((r_0 + 219) + x5))) (f5 : 1 * x10 + ((-1) * x2 + ((-36) * x5 + 0)) ≤ 5) (f6 : 1 * x9 + ((-1) * x2 + ((-36) * x5 + 0)) ≤ 0) (f7 : x7 = all_0 (((r_0 + 243) + x5))) (f8 : 1 * x6 + ((-1) * all_0 (r_0 + 0) + 0) ≤ 0) (f9 : (-1) * x6 + (1 * all_0 (r_0 + 0) + 0) ≤ 0) (f11 : 1 * texts_0 + ((-1) * x18 + 0) ≤ 1) (f13 : 1 * x18 + ((-1) * x2 + ((-36) * x5 + 0)) ≤ 33) (f14 : 1 * x16 + ((-1) * x2 + ((-36) * x5 + 0)) ≤ 20) (f15 : 1 * x14 + ((-1) * x2 + ((-36) * x5 + 0)) ≤ 13) (f16 : 1 * x10 + ((-1) * x2 + ((-36) * x5 + 0)) ≤ 5) (f17 : 1 * x9 + ((-1) * x2 + ((-36) * x5 + 0)) ≤ 0) (f19 : 1 * x16 + ((-1) * x2 + ((-36) * x5 + 0)) ≤ 20) (f20 : 1 * x14 + ((-1) * x2 + ((-36) * x5 + 0)) ≤ 13) (f21 : 1 * x10 + ((-1) * x2 + ((-36) * x5 + 0)) ≤ 5) (f22 : 1 * x9 + ((-1) * x2 + ((-36) * x5 + 0)) ≤ 0) (f24 : 1 * x14 + ((-1) * x2 + ((-36) * x5 + 0)) ≤ 13) (f25 : x12 < x11) (f26 : 1 * x10 + ((-1) * x2 + ((-36) * x5 + 0)) ≤ 5) (f27 : 1 * x9 + ((-1) * x2 + ((-36) * x5 + 0)) ≤ 0) (f29 : 1 * x10 + ((-1) * x2 + ((-36) * x5 + 0)) ≤ 5) (f30 : 1 * x9 + ((-1) * x2 + ((-36) * x5 + 0)) ≤ 0) (f32 : 1 * x9 + ((-1) * x2 + ((-36) * x5 + 0)) ≤ 0) (f33 : x7 = x4) (f34 : x5 < x6) (kz_0_170 : 0 ≤ texts_0 ∧ texts_0 ≤ 100000000) (ex2 : gx = texts_0) (ex3 : 0 ≤ gx ∧ gx ≤ 99999998) : 1 * gx + ((-1) * x2 + ((-36) * x5 + 0)) ≤ 34 := by
  first | assumption | omega | grind
def o_Mo_writeGroup_at_l0_9 : or_T := (70, 20, [(0, (2, 0, 0, [165])), (2, (0, 0, 87902919, [])), (3, (2, 0, 0, [165])), (4, (0, 0, 0, [])), (5, (0, 0, 23, [])), (6, (0, 1, 24, [])), (7, (0, 0, 0, [])), (9, (0, 0, 99999995, [])), (10, (0, 0, 99999992, [])), (11, (0, 2, 99, [])), (12, (0, 1, 1, [])), (14, (0, 0, 99999993, [])), (15, (0, 0, 99, [])), (16, (0, 0, 99999987, [])), (18, (0, 0, 99999999, []))], [(23, [18, 2, 5], [33, 1, -1, -36]), (23, [16, 2, 5], [20, 1, -1, -36]), (20, [15, 3, 5], [50, 1, 1, 1005, 1002, 1, 2, 1, 0, 3, 1, 2, 4, 7, 4, 3, 2, 1, 5, 0, 219, 1, 2]), (23, [14, 2, 5], [13, 1, -1, -36]), (20, [11, 3, 5], [50, 1, 1, 1005, 1002, 1, 2, 1, 0, 3, 1, 2, 4, 7, 4, 3, 2, 1, 5, 0, 219, 1, 2]), (23, [10, 2, 5], [5, 1, -1, -36]), (23, [9, 2, 5], [0, 1, -1, -36]), (20, [7, 3, 5], [50, 1, 1, 1005, 1002, 1, 2, 1, 0, 3, 1, 2, 4, 7, 4, 3, 2, 1, 5, 0, 243, 1, 2]), (20, [6, 3], [30, 0, 1, 0, 0, -1, 3, 2005000]), (20, [6, 3], [30, 0, -1, 0, 0, 1, 3, 2005000]), (24, [0, 3], []), (20, [3, 18], [30, 1, 1, 1, 170, -1, 0, 0]), (102, [18], [7770675568902916283677847627294075626569627356208558085007249638955617140820833992704, 165170]), (23, [18, 2, 5], [33, 1, -1, -36]), (23, [16, 2, 5], [20, 1, -1, -36]), (23, [14, 2, 5], [13, 1, -1, -36]), (23, [10, 2, 5], [5, 1, -1, -36]), (23, [9, 2, 5], [0, 1, -1, -36]), (102, [16], [7770675568902916283677847627294075626569627356208558085007249638955617140820833992704, 165170]), (23, [16, 2, 5], [20, 1, -1, -36]), (23, [14, 2, 5], [13, 1, -1, -36]), (23, [10, 2, 5], [5, 1, -1, -36]), (23, [9, 2, 5], [0, 1, -1, -36]), (102, [14], [7770675568902916283677847627294075626569627356208558085007249638955617140820833992704, 165170]), (23, [14, 2, 5], [13, 1, -1, -36]), (7, [11, 12], [4]), (23, [10, 2, 5], [5, 1, -1, -36]), (23, [9, 2, 5], [0, 1, -1, -36]), (102, [10], [7770675568902916283677847627294075626569627356208558085007249638955617140820833992704, 165170]), (23, [10, 2, 5], [5, 1, -1, -36]), (23, [9, 2, 5], [0, 1, -1, -36]), (102, [9], [7770675568902916283677847627294075626569627356208558085007249638955617140820833992704, 165170]), (23, [9, 2, 5], [0, 1, -1, -36]), (7, [7, 4], [0]), (7, [5, 6], [2])], [], [(0, 0, 99999998, [])], [(20, [3, 20], [30, 0, 1, 1, 170, -1, 0, 0]), (23, [20, 2, 5], [34, 1, -1, -36])], [], [(5, 6, -4294967296, -1)])
theorem oo_Mo_writeGroup_at_l0_9 {kA : Nat → ClassId} : or_ok PRD kA GG o_Mo_writeGroup_at_l0_9 := by
  refine or_mk fun A ta ws vs hD hth hl => ?_
  intro t0 r0 t2 k2 t3 r3 t4 k4 t5 k5 t6 k6 t7 k7 t9 k9 t10 k10 t11 k11 t12 k12 t14 k14 t15 k15 t16 k16 t18 k18 d0 f0 f1 f2 f3 f4 f5 f6 f7 f8 f9 f10 f11 ta1 w1 le1 s1 f13 f14 f15 f16 f17 ta2 w2 le2 s2 f19 f20 f21 f22 ta3 w3 le3 s3 f24 f25 f26 f27 ta4 w4 le4 s4 f29 f30 ta5 w5 le5 s5 f32 f33 f34
  replace f0 := shm_2042 f0
  replace f1 := shm_2041 f1
  replace f2 := shm_732 f2
  replace f3 := shm_2040 f3
  replace f4 := shm_732 f4
  replace f5 := shm_2038 f5
  replace f6 := shm_2037 f6
  replace f7 := shm_597 f7
  replace f8 := shm_126 f8
  replace f9 := shm_127 f9
  replace f10 := shm_5 f10
  replace f11 := shm_132 f11
  replace f13 := shm_2042 f13
  replace f14 := shm_2041 f14
  replace f15 := shm_2040 f15
  replace f16 := shm_2038 f16
  replace f17 := shm_2037 f17
  replace f19 := shm_2041 f19
  replace f20 := shm_2040 f20
  replace f21 := shm_2038 f21
  replace f22 := shm_2037 f22
  replace f24 := shm_2040 f24
  replace f25 := shm_21 f25
  replace f26 := shm_2038 f26
  replace f27 := shm_2037 f27
  replace f29 := shm_2038 f29
  replace f30 := shm_2037 f30
  replace f32 := shm_2037 f32
  replace f33 := shm_37 f33
  replace f34 := shm_6 f34
  have q3 : n_v vs 3 = n_v vs 0 := f10.symm
  simp only [q3] at f2 f4 f7 f8 f9 f11
  have cr_0_2 := fdq_10 hD hth r0
  have br_0_2_F5_0_0 : w_ei ws (w_ar ws (n_v vs 0) 2) (w_fi ws (n_v vs 0) 5 + 0) = w_el ws (w_ar ws (n_v vs 0) 2) (w_fi ws (n_v vs 0) 5 + 0).toNat := rfl
  have kz_0_170 := fdq_11 hD hth r0
  have kv0 := fdq_11 hD hth r0
  obtain ⟨x, ex, hx⟩ := iv_ex (ta := ta) (lo := 0) (hi := 99999998) (z := w_fi ws (n_v vs 0) 170) (by omega) (by omega) (by omega) (by omega)
  have ex2 : v_iv (Value.int x) = w_fi ws (n_v vs 0) 170 := ex
  have ex3 : 0 ≤ v_iv (Value.int x) ∧ v_iv (Value.int x) ≤ 99999998 := tv_rng hx
  have e_2 : n_v (vs ++ [Value.int x]) 2 = n_v vs 2 := n_v_old (by rw [hl]; decide)
  have e_3 : n_v (vs ++ [Value.int x]) 3 = n_v vs 3 := n_v_old (by rw [hl]; decide)
  have e_5 : n_v (vs ++ [Value.int x]) 5 = n_v vs 5 := n_v_old (by rw [hl]; decide)
  have e_20 : n_v (vs ++ [Value.int x]) 20 = Value.int x := n_v_new hl
  have nf0 : fc_1 PRD (20, [3, 20], [30, 0, 1, 1, 170, -1, 0, 0]) ws (vs ++ [Value.int x]) := by
    refine ⟨nf_inA hl rfl, sgq_131 ?_⟩
    · show 1 * w_fi ws (n_v (vs ++ [Value.int x]) 3) 170 + ((-1) * v_iv (n_v (vs ++ [Value.int x]) 20) + 0) ≤ 0
      simp only [e_3, e_20, q3]
      exact vc_Mo_writeGroup_at_l0_9_0 (v_iv (n_v vs 2)) (v_iv (n_v vs 4)) (v_iv (n_v vs 5)) (v_iv (n_v vs 6)) (v_iv (n_v vs 7)) (v_iv (n_v vs 9)) (v_iv (n_v vs 10)) (v_iv (n_v vs 11)) (v_iv (n_v vs 12)) (v_iv (n_v vs 14)) (v_iv (n_v vs 15)) (v_iv (n_v vs 16)) (v_iv (n_v vs 18)) (w_ei ws (w_ar ws (n_v vs 0) 2)) (w_fi ws (n_v vs 0) 5) (w_fi ws (n_v vs 0) 170) (v_iv (Value.int x)) k2 k4 k5 k6 k7 k9 k10 k11 k12 k14 k15 k16 k18 d0 f0 f1 f2 f3 f4 f5 f6 f7 f8 f9 f11 f13 f14 f15 f16 f17 f19 f20 f21 f22 f24 f25 f26 f27 f29 f30 f32 f33 f34 kz_0_170 ex2 ex3
  have nf1 : fc_1 PRD (23, [20, 2, 5], [34, 1, -1, -36]) ws (vs ++ [Value.int x]) := by
    refine ⟨nf_inA hl rfl, sgq_2039 ?_⟩
    · show 1 * v_iv (n_v (vs ++ [Value.int x]) 20) + ((-1) * v_iv (n_v (vs ++ [Value.int x]) 2) + ((-36) * v_iv (n_v (vs ++ [Value.int x]) 5) + 0)) ≤ 34
      simp only [e_2, e_5, e_20]
      exact vc_Mo_writeGroup_at_l0_9_1 (v_iv (n_v vs 2)) (v_iv (n_v vs 4)) (v_iv (n_v vs 5)) (v_iv (n_v vs 6)) (v_iv (n_v vs 7)) (v_iv (n_v vs 9)) (v_iv (n_v vs 10)) (v_iv (n_v vs 11)) (v_iv (n_v vs 12)) (v_iv (n_v vs 14)) (v_iv (n_v vs 15)) (v_iv (n_v vs 16)) (v_iv (n_v vs 18)) (w_ei ws (w_ar ws (n_v vs 0) 2)) (w_fi ws (n_v vs 0) 5) (w_fi ws (n_v vs 0) 170) (v_iv (Value.int x)) k2 k4 k5 k6 k7 k9 k10 k11 k12 k14 k15 k16 k18 d0 f0 f1 f2 f3 f4 f5 f6 f7 f8 f9 f11 f13 f14 f15 f16 f17 f19 f20 f21 f22 f24 f25 f26 f27 f29 f30 f32 f33 f34 kz_0_170 ex2 ex3
  exact ⟨(fun _ h => (by cases h)), [Value.int x], ag_one hx, List.forall_mem_cons.mpr ⟨⟨show (20 : Nat) < 100 from by decide, nf0⟩, List.forall_mem_cons.mpr ⟨⟨show (23 : Nat) < 100 from by decide, nf1⟩, (fun _ h => (by cases h))⟩⟩, (fun _ h => (by cases h))⟩
set_option maxHeartbeats 4000000 in
theorem vc_Mo_writeGroup_at_l0_10_0 (x2 : Int) (x4 : Int) (x5 : Int) (x6 : Int) (x7 : Int) (x9 : Int) (x10 : Int) (x11 : Int) (x12 : Int) (x14 : Int) (x15 : Int) (x16 : Int) (x18 : Int) (x20 : Int) (x21 : Int) (all_0 : Int → Int) (r_0 : Int) (texts_0 : Int) (k2 : 0 ≤ x2 ∧ x2 ≤ 87902919) (k4 : 0 ≤ x4 ∧ x4 ≤ 0) (k5 : 0 ≤ x5 ∧ x5 ≤ 23) (k6 : 1 ≤ x6 ∧ x6 ≤ 24) (k7 : 0 ≤ x7 ∧ x7 ≤ 0) (k9 : 0 ≤ x9 ∧ x9 ≤ 99999995) (k10 : 0 ≤ x10 ∧ x10 ≤ 99999992) (k11 : 2 ≤ x11 ∧ x11 ≤ 99) (k12 : 1 ≤ x12 ∧ x12 ≤ 1) (k14 : 0 ≤ x14 ∧ x14 ≤ 99999993) (k15 : 0 ≤ x15 ∧ x15 ≤ 99) (k16 : 0 ≤ x16 ∧ x16 ≤ 99999987) (k18 : 0 ≤ x18 ∧ x18 ≤ 99999999) (k20 : 0 ≤ x20 ∧ x20 ≤ 99999998) (k21 : 1 ≤ x21 ∧ x21 ≤ 24) (d0 : x5 + 1 ≤ x21 ∧ x21 ≤ x5 + 1) (d1 : x6 + (-4294967296) ≤ x21 ∧ x21 ≤ x6 + 0) (d2 : x6 + (-4294967296) ≤ x5 ∧ x5 ≤ x6 + (-1)) (f0 : x21 = x5 + 1) (f1 : 1 * x20 + ((-1) * x2 + ((-36) * x5 + 0)) ≤ 34) (f2 : 1 * x18 + ((-1) * x2 + ((-36) * x5 + 0)) ≤ 33) (f3 : 1 * x16 + ((-1) * x2 + ((-36) * x5 + 0)) ≤ 20) (f4 : x15 = all_0 (((r_0 + 219) + x5))) (f5 : 1 * x14 + ((-1) * x2 + ((-36) * x5 + 0)) ≤ 13) (f6 : x11 = all_0 (((r_0 + 219) + x5))) (f7 : 1 * x10 + ((-1) * x2 + ((-36) * x5 + 0)) ≤ 5) (f8 : 1 * x9 + ((-1) * x2 + ((-36) * x5 + 0)) ≤ 0) (f9 : x7 = all_0 (((r_0 + 243) + x5))) (f10 : 1 * x6 + ((-1) * all_0 (r_0 + 0) + 0) ≤ 0) (f11 : (-1) * x6 + (1 * all_0 (r_0 + 0) + 0) ≤ 0) (f13 : 1 * texts_0 + ((-1) * x20 + 0) ≤ 2) (f15 : 1 * x20 + ((-1) * x2 + ((-36) * x5 + 0)) ≤ 34) (f16 : 1 * x18 + ((-1) * x2 + ((-36) * x5 + 0)) ≤ 33) (f17 : 1 * x16 + ((-1) * x2 + ((-36) * x5 + 0)) ≤ 20) (f18 : 1 * x14 + ((-1) * x2 + ((-36) * x5 + 0)) ≤ 13) (f19 : 1 * x10 + ((-1) * x2 + ((-36) * x5 + 0)) ≤ 5) (f20 : 1 * x9 + ((-1) * x2 + ((-36) * x5 + 0)) ≤ 0) (f22 : 1 * x18 + ((-1) * x2 + ((-36) * x5 + 0)) ≤ 33) (f23 : 1 * x16 + ((-1) * x2 + ((-36) * x5 + 0)) ≤ 20) (f24 : 1 * x14 + ((-1) * x2 + ((-36) * x5 + 0)) ≤ 13) (f25 : 1 * x10 + ((-1) * x2 + ((-36) * x5 + 0)) ≤ 5) (f26 : 1 * x9 + ((-1) * x2 + ((-36) * x5 + 0)) ≤ 0) (f28 : 1 * x16 + ((-1) * x2 + ((-36) * x5 + 0)) ≤ 20) (f29 : 1 * x14 + ((-1) * x2 + ((-36) * x5 + 0)) ≤ 13) (f30 : 1 * x10 + ((-1) * x2 + ((-36) * x5 + 0)) ≤ 5) (f31 : 1 * x9 + ((-1) * x2 + ((-36) * x5 + 0)) ≤ 0) (f33 : 1 * x14 + ((-1) * x2 + ((-36) * x5 + 0)) ≤ 13) (f34 : x12 < x11) (f35 : 1 * x10 + ((-1) * x2 + ((-36) * x5 + 0)) ≤ 5) (f36 : 1 * x9 + ((-1) * x2 + ((-36) * x5 + 0)) ≤ 0) (f38 : 1 * x10 + ((-1) * x2 + ((-36) * x5 + 0)) ≤ 5) (f39 : 1 * x9 + ((-1) * x2 + ((-36) * x5 + 0)) ≤ 0) (f41 : 1 * x9 + ((-1) * x2 + ((-36) * x5 + 0)) ≤ 0) (f42 : x7 = x4) (f43 : x5 < x6) (kz_0_170 : 0 ≤ texts_0 ∧ texts_0 ≤ 100000000) : 1 * texts_0 + ((-1) * x2 + ((-36) * x21 + 0)) ≤ 0 := by
  first | assumption | omega | grind
def o_Mo_writeGroup_at_l0_10 : or_T := (2, 22, [(0, (2, 0, 0, [165])), (2, (0, 0, 87902919, [])), (4, (0, 0, 0, [])), (5, (0, 0, 23, [])), (6, (0, 1, 24, [])), (7, (0, 0, 0, [])), (9, (0, 0, 99999995, [])), (10, (0, 0, 99999992, [])), (11, (0, 2, 99, [])), (12, (0, 1, 1, [])), (14, (0, 0, 99999993, [])), (15, (0, 0, 99, [])), (16, (0, 0, 99999987, [])), (18, (0, 0, 99999999, [])), (20, (0, 0, 99999998, [])), (21, (0, 1, 24, []))], [(6, [21, 5], [1]), (23, [20, 2, 5], [34, 1, -1, -36]), (23, [18, 2, 5], [33, 1, -1, -36]), (23, [16, 2, 5], [20, 1, -1, -36]), (20, [15, 3, 5], [50, 1, 1, 1005, 1002, 1, 2, 1, 0, 3, 1, 2, 4, 7, 4, 3, 2, 1, 5, 0, 219, 1, 2]), (23, [14, 2, 5], [13, 1, -1, -36]), (20, [11, 3, 5], [50, 1, 1, 1005, 1002, 1, 2, 1, 0, 3, 1, 2, 4, 7, 4, 3, 2, 1, 5, 0, 219, 1, 2]), (23, [10, 2, 5], [5, 1, -1, -36]), (23, [9, 2, 5], [0, 1, -1, -36]), (20, [7, 3, 5], [50, 1, 1, 1005, 1002, 1, 2, 1, 0, 3, 1, 2, 4, 7, 4, 3, 2, 1, 5, 0, 243, 1, 2]), (20, [6, 3], [30, 0, 1, 0, 0, -1, 3, 2005000]), (20, [6, 3], [30, 0, -1, 0, 0, 1, 3, 2005000]), (24, [0, 3], []), (20, [3, 20], [30, 2, 1, 1, 170, -1, 0, 0]), (102, [20], [7770675568902916283677847627294075626569627356208558085007249638955617140820833992704, 165170]), (23, [20, 2, 5], [34, 1, -1, -36]), (23, [18, 2, 5], [33, 1, -1, -36]), (23, [16, 2, 5], [20, 1, -1, -36]), (23, [14, 2, 5], [13, 1, -1, -36]), (23, [10, 2, 5], [5, 1, -1, -36]), (23, [9, 2, 5], [0, 1, -1, -36]), (102, [18], [7770675568902916283677847627294075626569627356208558085007249638955617140820833992704, 165170]), (23, [18, 2, 5], [33, 1, -1, -36]), (23, [16, 2, 5], [20, 1, -1, -36]), (23, [14, 2, 5], [13, 1, -1, -36]), (23, [10, 2, 5], [5, 1, -1, -36]), (23, [9, 2, 5], [0, 1, -1, -36]), (102, [16], [7770675568902916283677847627294075626569627356208558085007249638955617140820833992704, 165170]), (23, [16, 2, 5], [20, 1, -1, -36]), (23, [14, 2, 5], [13, 1, -1, -36]), (23, [10, 2, 5], [5, 1, -1, -36]), (23, [9, 2, 5], [0, 1, -1, -36]), (102, [14], [7770675568902916283677847627294075626569627356208558085007249638955617140820833992704, 165170]), (23, [14, 2, 5], [13, 1, -1, -36]), (7, [11, 12], [4]), (23, [10, 2, 5], [5, 1, -1, -36]), (23, [9, 2, 5], [0, 1, -1, -36]), (102, [10], [7770675568902916283677847627294075626569627356208558085007249638955617140820833992704, 165170]), (23, [10, 2, 5], [5, 1, -1, -36]), (23, [9, 2, 5], [0, 1, -1, -36]), (102, [9], [7770675568902916283677847627294075626569627356208558085007249638955617140820833992704, 165170]), (23, [9, 2, 5], [0, 1, -1, -36]), (7, [7, 4], [0]), (7, [5, 6], [2])], [], [], [(20, [3, 2, 21], [30, 0, 1, 1, 170, -1, 0, 0, -36, 0, 0])], [], [(21, 5, 1, 1), (21, 6, -4294967296, 0), (5, 6, -4294967296, -1)])
theorem oo_Mo_writeGroup_at_l0_10 {kA : Nat → ClassId} : or_ok PRD kA GG o_Mo_writeGroup_at_l0_10 := by
  refine or_mk fun A ta ws vs hD hth hl => ?_
  intro t0 r0 t2 k2 t4 k4 t5 k5 t6 k6 t7 k7 t9 k9 t10 k10 t11 k11 t12 k12 t14 k14 t15 k15 t16 k16 t18 k18 t20 k20 t21 k21 d0 d1 d2 f0 f1 f2 f3 f4 f5 f6 f7 f8 f9 f10 f11 f12 f13 ta1 w1 le1 s1 f15 f16 f17 f18 f19 f20 ta2 w2 le2 s2 f22 f23 f24 f25 f26 ta3 w3 le3 s3 f28 f29 f30 f31 ta4 w4 le4 s4 f33 f34 f35 f36 ta5 w5 le5 s5 f38 f39 ta6 w6 le6 s6 f41 f42 f43
  replace f0 := shm_4 f0
  replace f1 := shm_2039 f1
  replace f2 := shm_2042 f2
  replace f3 := shm_2041 f3
  replace f4 := shm_732 f4
  replace f5 := shm_2040 f5
  replace f6 := shm_732 f6
  replace f7 := shm_2038 f7
  replace f8 := shm_2037 f8
  replace f9 := shm_597 f9
  replace f10 := shm_126 f10
  replace f11 := shm_127 f11
  replace f12 := shm_5 f12
  replace f13 := shm_210 f13
  replace f15 := shm_2039 f15
  replace f16 := shm_2042 f16
  replace f17 := shm_2041 f17
  replace f18 := shm_2040 f18
  replace f19 := shm_2038 f19
  replace f20 := shm_2037 f20
  replace f22 := shm_2042 f22
  replace f23 := shm_2041 f23
  replace f24 := shm_2040 f24
  replace f25 := shm_2038 f25
  replace f26 := shm_2037 f26
  replace f28 := shm_2041 f28
  replace f29 := shm_2040 f29
  replace f30 := shm_2038 f30
  replace f31 := shm_2037 f31
  replace f33 := shm_2040 f33
  replace f34 := shm_21 f34
  replace f35 := shm_2038 f35
  replace f36 := shm_2037 f36
  replace f38 := shm_2038 f38
  replace f39 := shm_2037 f39
  replace f41 := shm_2037 f41
  replace f42 := shm_37 f42
  replace f43 := shm_6 f43
  have q3 : n_v vs 3 = n_v vs 0 := f12.symm
  simp only [q3] at f4 f6 f9 f10 f11 f13
  have kz_0_170 := fdq_11 hD hth r0
  have nf0 : fc_1 PRD (20, [3, 2, 21], [30, 0, 1, 1, 170, -1, 0, 0, -36, 0, 0]) ws (vs) := by
    refine ⟨nf_in hl rfl, sgq_2035 ?_⟩
    · show 1 * w_fi ws (n_v vs 3) 170 + ((-1) * v_iv (n_v vs 2) + ((-36) * v_iv (n_v vs 21) + 0)) ≤ 0
      rw [q3]
      exact vc_Mo_writeGroup_at_l0_10_0 (v_iv (n_v vs 2)) (v_iv (n_v vs 4)) (v_iv (n_v vs 5)) (v_iv (n_v vs 6)) (v_iv (n_v vs 7)) (v_iv (n_v vs 9)) (v_iv (n_v vs 10)) (v_iv (n_v vs 11)) (v_iv (n_v vs 12)) (v_iv (n_v vs 14)) (v_iv (n_v vs 15)) (v_iv (n_v vs 16)) (v_iv (n_v vs 18)) (v_iv (n_v vs 20)) (v_iv (n_v vs 21)) (w_ei ws (w_ar ws (n_v vs 0) 2)) (w_fi ws (n_v vs 0) 5) (w_fi ws (n_v vs 0) 170) k2 k4 k5 k6 k7 k9 k10 k11 k12 k14 k15 k16 k18 k20 k21 d0 d1 d2 f0 f1 f2 f3 f4 f5 f6 f7 f8 f9 f10 f11 f13 f15 f16 f17 f18 f19 f20 f22 f23 f24 f25 f26 f28 f29 f30 f31 f33 f34 f35 f36 f38 f39 f41 f42 f43 kz_0_170
  refine ⟨(fun _ h => (by cases h)), [], trivial, ?_, (fun _ h => (by cases h))⟩
  rw [List.append_nil]
  exact List.forall_mem_cons.mpr ⟨⟨show (20 : Nat) < 100 from by decide, nf0⟩, (fun _ h => (by cases h))⟩
set_option maxHeartbeats 4000000 in
theorem vc_Mo_writeGroup_at_l0_11_0 (x2 : Int) (x4 : Int) (x5 : Int) (x6 : Int) (x7 : Int) (x8 : Int) (all_0 : Int → Int) (r_0 : Int) (texts_0 : Int) (k2 : 0 ≤ x2 ∧ x2 ≤ 87902919) (k4 : 0 ≤ x4 ∧ x4 ≤ 0) (k5 : 0 ≤ x5 ∧ x5 ≤ 23) (k6 : 1 ≤ x6 ∧ x6 ≤ 24) (k7 : 1 ≤ x7 ∧ x7 ≤ 7) (k8 : 1 ≤ x8 ∧ x8 ≤ 24) (d0 : x5 + 1 ≤ x8 ∧ x8 ≤ x5 + 1) (d1 : x6 + (-4294967296) ≤ x8 ∧ x8 ≤ x6 + 0) (d2 : x6 + (-4294967296) ≤ x5 ∧ x5 ≤ x6 + (-1)) (f0 : x8 = x5 + 1) (f1 : x7 ≠ x4) (f2 : x7 = all_0 (((r_0 + 243) + x5))) (f3 : x5 < x6) (f4 : 1 * x6 + ((-1) * all_0 (r_0 + 0) + 0) ≤ 0) (f5 : (-1) * x6 + (1 * all_0 (r_0 + 0) + 0) ≤ 0) (f6 : 1 * texts_0 + ((-1) * x2 + ((-36) * x5 + 0)) ≤ 0) (kz_0_170 : 0 ≤ texts_0 ∧ texts_0 ≤ 100000000) : 1 * texts_0 + ((-1) * x2 + ((-36) * x8 + 0)) ≤ 0 := by
  first | assumption | omega | grind
def o_Mo_writeGroup_at_l0_11 : or_T := (2, 9, [(0, (2, 0, 0, [165])), (2, (0, 0, 87902919, [])), (4, (0, 0, 0, [])), (5, (0, 0, 23, [])), (6, (0, 1, 24, [])), (7, (0, 1, 7, [])), (8, (0, 1, 24, []))], [(6, [8, 5], [1]), (7, [7, 4], [1]), (20, [7, 3, 5], [50, 1, 1, 1005, 1002, 1, 2, 1, 0, 3, 1, 2, 4, 7, 4, 3, 2, 1, 5, 0, 243, 1, 2]), (7, [5, 6], [2]), (20, [6, 3], [30, 0, 1, 0, 0, -1, 3, 2005000]), (20, [6, 3], [30, 0, -1, 0, 0, 1, 3, 2005000]), (20, [3, 2, 5], [30, 0, 1, 1, 170, -1, 0, 0, -36, 0, 0]), (24, [0, 3], [])], [], [], [(20, [3, 2, 8], [30, 0, 1, 1, 170, -1, 0, 0, -36, 0, 0])], [], [(8, 5, 1, 1), (8, 6, -4294967296, 0), (5, 6, -4294967296, -1)])
theorem oo_Mo_writeGroup_at_l0_11 {kA : Nat → ClassId} : or_ok PRD kA GG o_Mo_writeGroup_at_l0_11 := by
  refine or_mk fun A ta ws vs hD hth hl => ?_
  intro t0 r0 t2 k2 t4 k4 t5 k5 t6 k6 t7 k7 t8 k8 d0 d1 d2 f0 f1 f2 f3 f4 f5 f6 f7
  replace f0 := shm_4 f0
  replace f1 := shm_40 f1
  replace f2 := shm_597 f2
  replace f3 := shm_6 f3
  replace f4 := shm_126 f4
  replace f5 := shm_127 f5
  replace f6 := shm_2035 f6
  replace f7 := shm_5 f7
  have q3 : n_v vs 3 = n_v vs 0 := f7.symm
  simp only [q3] at f2 f4 f5 f6
  have kz_0_170 := fdq_11 hD hth r0
  have nf0 : fc_1 PRD (20, [3, 2, 8], [30, 0, 1, 1, 170, -1, 0, 0, -36, 0, 0]) ws (vs) := by
    refine ⟨nf_in hl rfl, sgq_2035 ?_⟩
    · show 1 * w_fi ws (n_v vs 3) 170 + ((-1) * v_iv (n_v vs 2) + ((-36) * v_iv (n_v vs 8) + 0)) ≤ 0
      rw [q3]
      exact vc_Mo_writeGroup_at_l0_11_0 (v_iv (n_v vs 2)) (v_iv (n_v vs 4)) (v_iv (n_v vs 5)) (v_iv (n_v vs 6)) (v_iv (n_v vs 7)) (v_iv (n_v vs 8)) (w_ei ws (w_ar ws (n_v vs 0) 2)) (w_fi ws (n_v vs 0) 5) (w_fi ws (n_v vs 0) 170) k2 k4 k5 k6 k7 k8 d0 d1 d2 f0 f1 f2 f3 f4 f5 f6 kz_0_170
  refine ⟨(fun _ h => (by cases h)), [], trivial, ?_, (fun _ h => (by cases h))⟩
  rw [List.append_nil]
  exact List.forall_mem_cons.mpr ⟨⟨show (20 : Nat) < 100 from by decide, nf0⟩, (fun _ h => (by cases h))⟩
set_option maxHeartbeats 4000000 in
theorem vc_Mo_writeGroup_at_l0_12_0 (x2 : Int) (x4 : Int) (x5 : Int) (x6 : Int) (all_0 : Int → Int) (r_0 : Int) (texts_0 : Int) (k2 : 0 ≤ x2 ∧ x2 ≤ 87902919) (k4 : 0 ≤ x4 ∧ x4 ≤ 0) (k5 : 1 ≤ x5 ∧ x5 ≤ 8) (k6 : 0 ≤ x6 ∧ x6 ≤ 8) (d0 : x6 + 0 ≤ x5 ∧ x5 ≤ x6 + 4294967296) (f0 : x6 ≤ x5) (f1 : 1 * x6 + ((-1) * all_0 (r_0 + 2) + 0) ≤ 0) (f2 : (-1) * x6 + (1 * all_0 (r_0 + 2) + 0) ≤ 0) (f3 : 1 * texts_0 + ((-1) * x2 + ((-1728031) * x5 + (1728031 * x4 + 0))) ≤ (-1727167)) (kz_0_170 : 0 ≤ texts_0 ∧ texts_0 ≤ 100000000) : 1 * texts_0 + ((-1) * x2 + 0) ≤ 12097081 := by
  first | assumption | omega | grind
def o_Mo_writeGroup_at_l0_12 : or_T := (177, 7, [(0, (2, 0, 0, [165])), (2, (0, 0, 87902919, [])), (4, (0, 0, 0, [])), (5, (0, 1, 8, [])), (6, (0, 0, 8, []))], [(7, [5, 6], [3]), (20, [6, 3], [30, 0, 1, 0, 0, -1, 3, 2005002]), (20, [6, 3], [30, 0, -1, 0, 0, 1, 3, 2005002]), (20, [3, 2, 5, 4], [30, -1727167, 1, 1, 170, -1, 0, 0, -1728031, 0, 0, 1728031, 0, 0]), (24, [0, 3], [])], [], [], [(20, [0, 2], [30, 12097081, 1, 1, 170, -1, 0, 0])], [], [(5, 6, 0, 4294967296)])
theorem oo_Mo_writeGroup_at_l0_12 {kA : Nat → ClassId} : or_ok PRD kA GG o_Mo_writeGroup_at_l0_12 := by
  refine or_mk fun A ta ws vs hD hth hl => ?_
  intro t0 r0 t2 k2 t4 k4 t5 k5 t6 k6 d0 f0 f1 f2 f3 f4
  replace f1 := shm_123 f1
  replace f2 := shm_124 f2
  replace f3 := shm_2036 f3
  replace f4 := shm_5 f4
  have q3 : n_v vs 3 = n_v vs 0 := f4.symm
  simp only [q3] at f1 f2 f3
  have kz_0_170 := fdq_11 hD hth r0
  have nf0 : fc_1 PRD (20, [0, 2], [30, 12097081, 1, 1, 170, -1, 0, 0]) ws (vs) := ⟨nf_in hl rfl, sgq_2043 (vc_Mo_writeGroup_at_l0_12_0 (v_iv (n_v vs 2)) (v_iv (n_v vs 4)) (v_iv (n_v vs 5)) (v_iv (n_v vs 6)) (w_ei ws (w_ar ws (n_v vs 0) 2)) (w_fi ws (n_v vs 0) 5) (w_fi ws (n_v vs 0) 170) k2 k4 k5 k6 d0 (shm_2 f0) f1 f2 f3 kz_0_170)⟩
  refine ⟨(fun _ h => (by cases h)), [], trivial, ?_, (fun _ h => (by cases h))⟩
  rw [List.append_nil]
  exact List.forall_mem_cons.mpr ⟨⟨show (20 : Nat) < 100 from by decide, nf0⟩, (fun _ h => (by cases h))⟩
def o_Mo_writeGroup_at_l0_13 : or_T := (117, 14, [(0, (2, 0, 0, [165])), (2, (0, 0, 87902919, [])), (3, (2, 0, 0, [165])), (4, (0, 0, 0, [])), (5, (0, 1, 7, [])), (6, (0, 2, 8, [])), (7, (2, 0, 0, [167])), (8, (0, 0, 66297, [])), (9, (0, 531, 531, [])), (10, (0, 531, 66828, [])), (11, (0, 532, 66835, [])), (12, (0, 0, 0, []))], [(7, [12, 4], [0]), (10, [12, 7, 11], []), (1, [11, 10, 5], []), (1, [10, 8, 9], []), (9, [8, 3], [5]), (9, [7, 3], [2]), (7, [5, 6], [2]), (20, [6, 3], [30, 0, 1, 0, 0, -1, 3, 2005002]), (20, [6, 3], [30, 0, -1, 0, 0, 1, 3, 2005002]), (20, [3, 2, 5, 4], [30, -1727167, 1, 1, 170, -1, 0, 0, -1728031, 0, 0, 1728031, 0, 0]), (24, [0, 3], [])], [], [(0, 0, 99999994, [])], [(20, [3, 14], [30, 0, 1, 1, 170, -1, 0, 0]), (23, [14, 2, 5, 4], [-1727167, 1, -1, -1728031, 1728031])], [], [(11, 5, 531, 66828), (11, 6, -4294967296, 66827), (11, 10, 1, 7), (11, 8, 532, 538), (10, 8, 531, 531), (5, 6, -4294967296, -1)])
theorem oo_Mo_writeGroup_at_l0_13 {kA : Nat → ClassId} : or_ok PRD kA GG o_Mo_writeGroup_at_l0_13 := by
  refine or_mk fun A ta ws vs hD hth hl => ?_
  intro t0 r0 t2 k2 t3 r3 t4 k4 t5 k5 t6 k6 t7 r7 t8 k8 t9 k9 t10 k10 t11 k11 t12 k12 d0 d1 d2 d3 d4 d5 f0 f1 f2 f3 f4 f5 f6 f7 f8 f9 f10
  replace f0 := shm_37 f0
  replace f1 := shm_107 f1
  replace f2 := shm_12 f2
  replace f3 := shm_12 f3
  replace f4 := shm_110 f4
  replace f5 := shm_120 f5
  replace f6 := shm_6 f6
  replace f7 := shm_123 f7
  replace f8 := shm_124 f8
  replace f9 := shm_2036 f9
  replace f10 := shm_5 f10
  have q3 : n_v vs 3 = n_v vs 0 := f10.symm
  simp only [q3] at f4 f5 f7 f8 f9
  have cr_0_2 := fdq_10 hD hth r0
  have ad_7 : v_ad (n_v vs 7) = w_ar ws (n_v vs 0) 2 := congrArg v_ad f5
  simp only [ad_7] at f1
  have h1 : v_iv (n_v vs 12) = w_ei ws (w_ar ws (n_v vs 0) 2) (v_iv (n_v vs 11)) := f1
  have g4 : v_iv (n_v vs 8) = w_fi ws (n_v vs 0) 5 := congrArg v_iv f4
  have cg1_F5_2 : v_iv (n_v vs 11) = w_fi ws (n_v vs 0) 5 + 2 → w_el ws (w_ar ws (n_v vs 0) 2) (v_iv (n_v vs 11)).toNat = w_el ws (w_ar ws (n_v vs 0) 2) (w_fi ws (n_v vs 0) 5 + 2).toNat := fun h => by rw [h]
  have kz_0_170 := fdq_11 hD hth r0
  have kv0 := fdq_11 hD hth r0
  obtain ⟨x, ex, hx⟩ := iv_ex (ta := ta) (lo := 0) (hi := 99999994) (z := w_fi ws (n_v vs 0) 170) (by omega) (by omega) (by omega) (by omega)
  have ex2 : v_iv (Value.int x) = w_fi ws (n_v vs 0) 170 := ex
  have ex3 : 0 ≤ v_iv (Value.int x) ∧ v_iv (Value.int x) ≤ 99999994 := tv_rng hx
  have e_2 : n_v (vs ++ [Value.int x]) 2 = n_v vs 2 := n_v_old (by rw [hl]; decide)
  have e_3 : n_v (vs ++ [Value.int x]) 3 = n_v vs 3 := n_v_old (by rw [hl]; decide)
  have e_4 : n_v (vs ++ [Value.int x]) 4 = n_v vs 4 := n_v_old (by rw [hl]; decide)
  have e_5 : n_v (vs ++ [Value.int x]) 5 = n_v vs 5 := n_v_old (by rw [hl]; decide)
  have e_14 : n_v (vs ++ [Value.int x]) 14 = Value.int x := n_v_new hl
  have nf0 : fc_1 PRD (20, [3, 14], [30, 0, 1, 1, 170, -1, 0, 0]) ws (vs ++ [Value.int x]) := by
    refine ⟨nf_inA hl rfl, sgq_131 ?_⟩
    · show 1 * w_fi ws (n_v (vs ++ [Value.int x]) 3) 170 + ((-1) * v_iv (n_v (vs ++ [Value.int x]) 14) + 0) ≤ 0
      simp only [e_3, e_14, q3]
      omega
  have nf1 : fc_1 PRD (23, [14, 2, 5, 4], [-1727167, 1, -1, -1728031, 1728031]) ws (vs ++ [Value.int x]) := by
    refine ⟨nf_inA hl rfl, sgq_2044 ?_⟩
    · show 1 * v_iv (n_v (vs ++ [Value.int x]) 14) + ((-1) * v_iv (n_v (vs ++ [Value.int x]) 2) + ((-1728031) * v_iv (n_v (vs ++ [Value.int x]) 5) + (1728031 * v_iv (n_v (vs ++ [Value.int x]) 4) + 0))) ≤ (-1727167)
      simp only [e_2, e_4, e_5, e_14]
      omega
  exact ⟨(fun _ h => (by cases h)), [Value.int x], ag_one hx, List.forall_mem_cons.mpr ⟨⟨show (20 : Nat) < 100 from by decide, nf0⟩, List.forall_mem_cons.mpr ⟨⟨show (23 : Nat) < 100 from by decide, nf1⟩, (fun _ h => (by cases h))⟩⟩, (fun _ h => (by cases h))⟩
set_option maxHeartbeats 4000000 in
theorem vc_Mo_writeGroup_at_l0_14_0 (x2 : Int) (x4 : Int) (x5 : Int) (x6 : Int) (x8 : Int) (x12 : Int) (x14 : Int) (r_0 : Int) (all_0 : Int → Int) (texts_0 : Int) (gx : Int) (k2 : 0 ≤ x2 ∧ x2 ≤ 87902919) (k4 : 0 ≤ x4 ∧ x4 ≤ 0) (k5 : 1 ≤ x5 ∧ x5 ≤ 7) (k6 : 2 ≤ x6 ∧ x6 ≤ 8) (k8 : 0 ≤ x8 ∧ x8 ≤ 66297) (k12 : 0 ≤ x12 ∧ x12 ≤ 0) (k14 : 0 ≤ x14 ∧ x14 ≤ 99999994) (d0 : x6 + (-4294967296) ≤ x5 ∧ x5 ≤ x6 + (-1)) (g0 : x8 = r_0) (f2 : 1 * x14 + ((-1) * x2 + ((-1728031) * x5 + (1728031 * x4 + 0))) ≤ (-1727167)) (f3 : 1 * x6 + ((-1) * all_0 (r_0 + 2) + 0) ≤ 0) (f4 : (-1) * x6 + (1 * all_0 (r_0 + 2) + 0) ≤ 0) (f6 : 1 * texts_0 + ((-1) * x14 + 0) ≤ 6) (f8 : 1 * x14 + ((-1) * x2 + ((-1728031) * x5 + (1728031 * x4 + 0))) ≤ (-1727167)) (f9 : x12 = x4) (f10 : x5 < x6) (kz_0_170 : 0 ≤ texts_0 ∧ texts_0 ≤ 100000000) (ex2 : gx = texts_0) (ex3 : 0 ≤ gx ∧ gx ≤ 99999992) : 1 * texts_0 + ((-1) * gx + 0) ≤ 0 := by
  first | assumption | omega | grind
set_option maxHeartbeats 4000000 in
theorem vc_Mo_writeGroup_at_l0_14_1 (x2 : Int) (x4 : Int) (x5 : Int) (x6 : Int) (x8 : Int) (x12 : Int) (x14 : Int) (r_0 : Int) (all_0 : Int → Int) (texts_0 : Int) (gx : Int) (k2 : 0 ≤ x2 ∧ x2 ≤ 87902919) (k4 : 0 ≤ x4 ∧ x4 ≤ 0) (k5 : 1 ≤ x5 ∧ x5 ≤ 7) (k6 : 2 ≤ x6 ∧ x6 ≤ 8) (k8 : 0 ≤ x8 ∧ x8 ≤ 66297) (k12 : 0 ≤ x12 ∧ x12 ≤ 0) (k14 : 0 ≤ x14 ∧ x14 ≤ 99999994) (d0 : x6 + (-4294967296) ≤ x5 ∧ x5 ≤ x6 + (-1)) (g0 : x8 = r_0) (f2 : 1 * x14 + ((-1) * x2 + ((-1728031) * x5 + (1728031 * x4 + 0))) ≤ (-1727167)) (f3 : 1 * x6 + ((-1) * all_0 (r_0 + 2) + 0) ≤ 0) (f4 : (-1) * x6 + (1 * all_0 (r_0 + 2) + 0) ≤ 0) (f6 : 1 * texts_0 + ((-1) * x14 + 0) ≤ 6) (f8 : 1 * x14 + ((-1) * x2 + ((-1728031) * x5 + (1728031 * x4 + 0))) ≤ (-1727167)) (f9 : x12 = x4) (f10 : x5 < x6) (kz_0_170 : 0 ≤ texts_0 ∧ texts_0 ≤ 100000000) (ex2 : gx = texts_0) (ex3 : 0 ≤ gx ∧ gx ≤ 99999992) : 1 * gx + ((-1) * x2 + ((-1728031) * x5 + (1728031 * x4 + 0))) ≤ (-1727161) := by
  first | assumption | omega | grind
def o_Mo_writeGroup_at_l0_14 : or_T := (149, 24, [(0, (2, 0, 0, [165])), (2, (0, 0, 87902919, [])), (3, (2, 0, 0, [165])), (4, (0, 0, 0, [])), (5, (0, 1, 7, [])), (6, (0, 2, 8, [])), (7, (2, 0, 0, [167])), (8, (0, 0, 66297, [])), (12, (0, 0, 0, [])), (14, (0, 0, 99999994, []))], [(9, [8, 3], [5]), (9, [7, 3], [2]), (23, [14, 2, 5, 4], [-1727167, 1, -1, -1728031, 1728031]), (20, [6, 3], [30, 0, 1, 0, 0, -1, 3, 2005002]), (20, [6, 3], [30, 0, -1, 0, 0, 1, 3, 2005002]), (24, [0, 3], []), (20, [3, 14], [30, 6, 1, 1, 170, -1, 0, 0]), (102, [14], [7770675568902916283677847627294075626569627356208558085007249638955617140820833992704, 165170]), (23, [14, 2, 5, 4], [-1727167, 1, -1, -1728031, 1728031]), (7, [12, 4], [0]), (7, [5, 6], [2])], [], [(0, 0, 99999992, [])], [(20, [3, 24], [30, 0, 1, 1, 170, -1, 0, 0]), (23, [24, 2, 5, 4], [-1727161, 1, -1, -1728031, 1728031])], [], [(5, 6, -4294967296, -1)])
theorem oo_Mo_writeGroup_at_l0_14 {kA : Nat → ClassId} : or_ok PRD kA GG o_Mo_writeGroup_at_l0_14 := by
  refine or_mk fun A ta ws vs hD hth hl => ?_
  intro t0 r0 t2 k2 t3 r3 t4 k4 t5 k5 t6 k6 t7 r7 t8 k8 t12 k12 t14 k14 d0 f0 f1 f2 f3 f4 f5 f6 ta1 w1 le1 s1 f8 f9 f10
  replace f0 := shm_110 f0
  replace f1 := shm_120 f1
  replace f2 := shm_2044 f2
  replace f3 := shm_123 f3
  replace f4 := shm_124 f4
  replace f5 := shm_5 f5
  replace f6 := shm_211 f6
  replace f8 := shm_2044 f8
  replace f9 := shm_37 f9
  replace f10 := shm_6 f10
  have q3 : n_v vs 3 = n_v vs 0 := f5.symm
  simp only [q3] at f0 f1 f3 f4 f6
  have cr_0_2 := fdq_10 hD hth r0
  have ad_7 : v_ad (n_v vs 7) = w_ar ws (n_v vs 0) 2 := congrArg v_ad f1
  have g0 : v_iv (n_v vs 8) = w_fi ws (n_v vs 0) 5 := congrArg v_iv f0
  have kz_0_170 := fdq_11 hD hth r0
  have kv0 := fdq_11 hD hth r0
  obtain ⟨x, ex, hx⟩ := iv_ex (ta := ta) (lo := 0) (hi := 99999992) (z := w_fi ws (n_v vs 0) 170) (by omega) (by omega) (by omega) (by omega)
  have ex2 : v_iv (Value.int x) = w_fi ws (n_v vs 0) 170 := ex
  have ex3 : 0 ≤ v_iv (Value.int x) ∧ v_iv (Value.int x) ≤ 99999992 := tv_rng hx
  have e_2 : n_v (vs ++ [Value.int x]) 2 = n_v vs 2 := n_v_old (by rw [hl]; decide)
  have e_3 : n_v (vs ++ [Value.int x]) 3 = n_v vs 3 := n_v_old (by rw [hl]; decide)
  have e_4 : n_v (vs ++ [Value.int x]) 4 = n_v vs 4 := n_v_old (by rw [hl]; decide)
  have e_5 : n_v (vs ++ [Value.int x]) 5 = n_v vs 5 := n_v_old (by rw [hl]; decide)
  have e_24 : n_v (vs ++ [Value.int x]) 24 = Value.int x := n_v_new hl
  have nf0 : fc_1 PRD (20, [3, 24], [30, 0, 1, 1, 170, -1, 0, 0]) ws (vs ++ [Value.int x]) := by
    refine ⟨nf_inA hl rfl, sgq_131 ?_⟩
    · show 1 * w_fi ws (n_v (vs ++ [Value.int x]) 3) 170 + ((-1) * v_iv (n_v (vs ++ [Value.int x]) 24) + 0) ≤ 0
      simp only [e_3, e_24, q3]
      exact vc_Mo_writeGroup_at_l0_14_0 (v_iv (n_v vs 2)) (v_iv (n_v vs 4)) (v_iv (n_v vs 5)) (v_iv (n_v vs 6)) (v_iv (n_v vs 8)) (v_iv (n_v vs 12)) (v_iv (n_v vs 14)) (w_fi ws (n_v vs 0) 5) (w_ei ws (w_ar ws (n_v vs 0) 2)) (w_fi ws (n_v vs 0) 170) (v_iv (Value.int x)) k2 k4 k5 k6 k8 k12 k14 d0 g0 f2 f3 f4 f6 f8 f9 f10 kz_0_170 ex2 ex3
  have nf1 : fc_1 PRD (23, [24, 2, 5, 4], [-1727161, 1, -1, -1728031, 1728031]) ws (vs ++ [Value.int x]) := by
    refine ⟨nf_inA hl rfl, sgq_2045 ?_⟩
    · show 1 * v_iv (n_v (vs ++ [Value.int x]) 24) + ((-1) * v_iv (n_v (vs ++ [Value.int x]) 2) + ((-1728031) * v_iv (n_v (vs ++ [Value.int x]) 5) + (1728031 * v_iv (n_v (vs ++ [Value.int x]) 4) + 0))) ≤ (-1727161)
      simp only [e_2, e_4, e_5, e_24]
      exact vc_Mo_writeGroup_at_l0_14_1 (v_iv (n_v vs 2)) (v_iv (n_v vs 4)) (v_iv (n_v vs 5)) (v_iv (n_v vs 6)) (v_iv (n_v vs 8)) (v_iv (n_v vs 12)) (v_iv (n_v vs 14)) (w_fi ws (n_v vs 0) 5) (w_ei ws (w_ar ws (n_v vs 0) 2)) (w_fi ws (n_v vs 0) 170) (v_iv (Value.int x)) k2 k4 k5 k6 k8 k12 k14 d0 g0 f2 f3 f4 f6 f8 f9 f10 kz_0_170 ex2 ex3
  exact ⟨(fun _ h => (by cases h)), [Value.int x], ag_one hx, List.forall_mem_cons.mpr ⟨⟨show (20 : Nat) < 100 from by decide, nf0⟩, List.forall_mem_cons.mpr ⟨⟨show (23 : Nat) < 100 from by decide, nf1⟩, (fun _ h => (by cases h))⟩⟩, (fun _ h => (by cases h))⟩
set_option maxHeartbeats 4000000 in
theorem vc_Mo_writeGroup_at_l0_15_0 (x2 : Int) (x4 : Int) (x5 : Int) (x6 : Int) (x12 : Int) (x14 : Int) (x24 : Int) (all_0 : Int → Int) (r_0 : Int) (texts_0 : Int) (gx : Int) (k2 : 0 ≤ x2 ∧ x2 ≤ 87902919) (k4 : 0 ≤ x4 ∧ x4 ≤ 0) (k5 : 1 ≤ x5 ∧ x5 ≤ 7) (k6 : 2 ≤ x6 ∧ x6 ≤ 8) (k12 : 0 ≤ x12 ∧ x12 ≤ 0) (k14 : 0 ≤ x14 ∧ x14 ≤ 99999994) (k24 : 0 ≤ x24 ∧ x24 ≤ 99999992) (d0 : x6 + (-4294967296) ≤ x5 ∧ x5 ≤ x6 + (-1)) (f0 : 1 * x24 + ((-1) * x2 + ((-1728031) * x5 + (1728031 * x4 + 0))) ≤ (-1727161)) (f1 : 1 * x14 + ((-1) * x2 + ((-1728031) * x5 + (1728031 * x4 + 0))) ≤ (-1727167)) (f2 : 1 * x6 + ((-1) * all_0 (r_0 + 2) + 0) ≤ 0) (f3 : (-1) * x6 + (1 * all_0 (r_0 + 2) + 0) ≤ 0) (f5 : 1 * texts_0 + ((-1) * x24 + 0) ≤ 8) (f7 : 1 * x24 + ((-1) * x2 + ((-1728031) * x5 + (1728031 * x4 + 0))) ≤ (-1727161)) (f8 : 1 * x14 + ((-1) * x2 + ((-1728031) * x5 + (1728031 * x4 + 0))) ≤ (-1727167)) (f10 : 1 * x14 + ((-1) * x2 + ((-1728031) * x5 + (1728031 * x4 + 0))) ≤ (-1727167)) (f11 : x12 = x4) (f12 : x5 < x6) (kz_0_170 : 0 ≤ texts_0 ∧ texts_0 ≤ 100000000) (ex2 : gx = texts_0) (ex3 : 0 ≤ gx ∧ gx ≤ 99999997) : 1 * texts_0 + ((-1) * gx + 0) ≤ 0 := by
  first | assumption | omega | grind
set_option maxHeartbeats 4000000 in
theorem vc_Mo_writeGroup_at_l0_15_1 (x2 : Int) (x4 : Int) (x5 : Int) (x6 : Int) (x12 : Int) (x14 : Int) (x24 : Int) (all_0 : Int → Int) (r_0 : Int) (texts_0 : Int) (gx : Int) (k2 : 0 ≤ x2 ∧ x2 ≤ 87902919) (k4 : 0 ≤ x4 ∧ x4 ≤ 0) (k5 : 1 ≤ x5 ∧ x5 ≤ 7) (k6 : 2 ≤ x6 ∧ x6 ≤ 8) (k12 : 0 ≤ x12 ∧ x12 ≤ 0) (k14 : 0 ≤ x14 ∧ x14 ≤ 99999994) (k24 : 0 ≤ x24 ∧ x24 ≤ 99999992) (d0 : x6 + (-4294967296) ≤ x5 ∧ x5 ≤ x6 + (-1)) (f0 : 1 * x24 + ((-1) * x2 + ((-1728031) * x5 + (1728031 * x4 + 0))) ≤ (-1727161)) (f1 : 1 * x14 + ((-1) * x2 + ((-1728031) * x5 + (1728031 * x4 + 0))) ≤ (-1727167)) (f2 : 1 * x6 + ((-1) * all_0 (r_0 + 2) + 0) ≤ 0) (f3 : (-1) * x6 + (1 * all_0 (r_0 + 2) + 0) ≤ 0) (f5 : 1 * texts_0 + ((-1) * x24 + 0) ≤ 8) (f7 : 1 * x24 + ((-1) * x2 + ((-1728031) * x5 + (1728031 * x4 + 0))) ≤ (-1727161)) (f8 : 1 * x14 + ((-1) * x2 + ((-1728031) * x5 + (1728031 * x4 + 0))) ≤ (-1727167)) (f10 : 1 * x14 + ((-1) * x2 + ((-1728031) * x5 + (1728031 * x4 + 0))) ≤ (-1727167)) (f11 : x12 = x4) (f12 : x5 < x6) (kz_0_170 : 0 ≤ texts_0 ∧ texts_0 ≤ 100000000) (ex2 : gx = texts_0) (ex3 : 0 ≤ gx ∧ gx ≤ 99999997) : 1 * gx + ((-1) * x2 + ((-1728031) * x5 + (1728031 * x4 + 0))) ≤ (-1727153) := by
  first | assumption | omega | grind
def o_Mo_writeGroup_at_l0_15 : or_T := (156, 26, [(0, (2, 0, 0, [165])), (2, (0, 0, 87902919, [])), (3, (2, 0, 0, [165])), (4, (0, 0, 0, [])), (5, (0, 1, 7, [])), (6, (0, 2, 8, [])), (12, (0, 0, 0, [])), (14, (0, 0, 99999994, [])), (24, (0, 0, 99999992, []))], [(23, [24, 2, 5, 4], [-1727161, 1, -1, -1728031, 1728031]), (23, [14, 2, 5, 4], [-1727167, 1, -1, -1728031, 1728031]), (20, [6, 3], [30, 0, 1, 0, 0, -1, 3, 2005002]), (20, [6, 3], [30, 0, -1, 0, 0, 1, 3, 2005002]), (24, [0, 3], []), (20, [3, 24], [30, 8, 1, 1, 170, -1, 0, 0]), (102, [24], [7770675568902916283677847627294075626569627356208558085007249638955617140820833992704, 165170]), (23, [24, 2, 5, 4], [-1727161, 1, -1, -1728031, 1728031]), (23, [14, 2, 5, 4], [-1727167, 1, -1, -1728031, 1728031]), (102, [14], [7770675568902916283677847627294075626569627356208558085007249638955617140820833992704, 165170]), (23, [14, 2, 5, 4], [-1727167, 1, -1, -1728031, 1728031]), (7, [12, 4], [0]), (7, [5, 6], [2])], [], [(0, 0, 99999997, [])], [(20, [3, 26], [30, 0, 1, 1, 170, -1, 0, 0]), (23, [26, 2, 5, 4], [-1727153, 1, -1, -1728031, 1728031])], [], [(5, 6, -4294967296, -1)])
theorem oo_Mo_writeGroup_at_l0_15 {kA : Nat → ClassId} : or_ok PRD kA GG o_Mo_writeGroup_at_l0_15 := by
  refine or_mk fun A ta ws vs hD hth hl => ?_
  intro t0 r0 t2 k2 t3 r3 t4 k4 t5 k5 t6 k6 t12 k12 t14 k14 t24 k24 d0 f0 f1 f2 f3 f4 f5 ta1 w1 le1 s1 f7 f8 ta2 w2 le2 s2 f10 f11 f12
  replace f0 := shm_2045 f0
  replace f1 := shm_2044 f1
  replace f2 := shm_123 f2
  replace f3 := shm_124 f3
  replace f4 := shm_5 f4
  replace f5 := shm_160 f5
  replace f7 := shm_2045 f7
  replace f8 := shm_2044 f8
  replace f10 := shm_2044 f10
  replace f11 := shm_37 f11
  replace f12 := shm_6 f12
  have q3 : n_v vs 3 = n_v vs 0 := f4.symm
  simp only [q3] at f2 f3 f5
  have cr_0_2 := fdq_10 hD hth r0
  have kz_0_170 := fdq_11 hD hth r0
  have kv0 := fdq_11 hD hth r0
  obtain ⟨x, ex, hx⟩ := iv_ex (ta := ta) (lo := 0) (hi := 99999997) (z := w_fi ws (n_v vs 0) 170) (by omega) (by omega) (by omega) (by omega)
  have ex2 : v_iv (Value.int x) = w_fi ws (n_v vs 0) 170 := ex
  have ex3 : 0 ≤ v_iv (Value.int x) ∧ v_iv (Value.int x) ≤ 99999997 := tv_rng hx
  have e_2 : n_v (vs ++ [Value.int x]) 2 = n_v vs 2 := n_v_old (by rw [hl]; decide)
  have e_3 : n_v (vs ++ [Value.int x]) 3 = n_v vs 3 := n_v_old (by rw [hl]; decide)
  have e_4 : n_v (vs ++ [Value.int x]) 4 = n_v vs 4 := n_v_old (by rw [hl]; decide)
  have e_5 : n_v (vs ++ [Value.int x]) 5 = n_v vs 5 := n_v_old (by rw [hl]; decide)
  have e_26 : n_v (vs ++ [Value.int x]) 26 = Value.int x := n_v_new hl
  have nf0 : fc_1 PRD (20, [3, 26], [30, 0, 1, 1, 170, -1, 0, 0]) ws (vs ++ [Value.int x]) := by
    refine ⟨nf_inA hl rfl, sgq_131 ?_⟩
    · show 1 * w_fi ws (n_v (vs ++ [Value.int x]) 3) 170 + ((-1) * v_iv (n_v (vs ++ [Value.int x]) 26) + 0) ≤ 0
      simp only [e_3, e_26, q3]
      exact vc_Mo_writeGroup_at_l0_15_0 (v_iv (n_v vs 2)) (v_iv (n_v vs 4)) (v_iv (n_v vs 5)) (v_iv (n_v vs 6)) (v_iv (n_v vs 12)) (v_iv (n_v vs 14)) (v_iv (n_v vs 24)) (w_ei ws (w_ar ws (n_v vs 0) 2)) (w_fi ws (n_v vs 0) 5) (w_fi ws (n_v vs 0) 170) (v_iv (Value.int x)) k2 k4 k5 k6 k12 k14 k24 d0 f0 f1 f2 f3 f5 f7 f8 f10 f11 f12 kz_0_170 ex2 ex3
  have nf1 : fc_1 PRD (23, [26, 2, 5, 4], [-1727153, 1, -1, -1728031, 1728031]) ws (vs ++ [Value.int x]) := by
    refine ⟨nf_inA hl rfl, sgq_2046 ?_⟩
    · show 1 * v_iv (n_v (vs ++ [Value.int x]) 26) + ((-1) * v_iv (n_v (vs ++ [Value.int x]) 2) + ((-1728031) * v_iv (n_v (vs ++ [Value.int x]) 5) + (1728031 * v_iv (n_v (vs ++ [Value.int x]) 4) + 0))) ≤ (-1727153)
      simp only [e_2, e_4, e_5, e_26]
      exact vc_Mo_writeGroup_at_l0_15_1 (v_iv (n_v vs 2)) (v_iv (n_v vs 4)) (v_iv (n_v vs 5)) (v_iv (n_v vs 6)) (v_iv (n_v vs 12)) (v_iv (n_v vs 14)) (v_iv (n_v vs 24)) (w_ei ws (w_ar ws (n_v vs 0) 2)) (w_fi ws (n_v vs 0) 5) (w_fi ws (n_v vs 0) 170) (v_iv (Value.int x)) k2 k4 k5 k6 k12 k14 k24 d0 f0 f1 f2 f3 f5 f7 f8 f10 f11 f12 kz_0_170 ex2 ex3
  exact ⟨(fun _ h => (by cases h)), [Value.int x], ag_one hx, List.forall_mem_cons.mpr ⟨⟨show (20 : Nat) < 100 from by decide, nf0⟩, List.forall_mem_cons.mpr ⟨⟨show (23 : Nat) < 100 from by decide, nf1⟩, (fun _ h => (by cases h))⟩⟩, (fun _ h => (by cases h))⟩
set_option maxHeartbeats 4000000 in
theorem vc_Mo_writeGroup_at_l0_16_0 (x2 : Int) (x4 : Int) (x5 : Int) (x6 : Int) (x12 : Int) (x14 : Int) (x24 : Int) (x26 : Int) (all_0 : Int → Int) (r_0 : Int) (texts_0 : Int) (gx : Int) (k2 : 0 ≤ x2 ∧ x2 ≤ 87902919) (k4 : 0 ≤ x4 ∧ x4 ≤ 0) (k5 : 1 ≤ x5 ∧ x5 ≤ 7) (k6 : 2 ≤ x6 ∧ x6 ≤ 8) (k12 : 0 ≤ x12 ∧ x12 ≤ 0) (k14 : 0 ≤ x14 ∧ x14 ≤ 99999994) (k24 : 0 ≤ x24 ∧ x24 ≤ 99999992) (k26 : 0 ≤ x26 ∧ x26 ≤ 99999997) (d0 : x6 + (-4294967296) ≤ x5 ∧ x5 ≤ x6 + (-1)) (f0 : 1 * x26 + ((-1) * x2 + ((-1728031) * x5 + (1728031 * x4 + 0))) ≤ (-1727153)) (f1 : 1 * x24 + ((-1) * x2 + ((-1728031) * x5 + (1728031 * x4 + 0))) ≤ (-1727161)) (f2 : 1 * x14 + ((-1) * x2 + ((-1728031) * x5 + (1728031 * x4 + 0))) ≤ (-1727167)) (f3 : 1 * x6 + ((-1) * all_0 (r_0 + 2) + 0) ≤ 0) (f4 : (-1) * x6 + (1 * all_0 (r_0 + 2) + 0) ≤ 0) (f6 : 1 * texts_0 + ((-1) * x26 + 0) ≤ 3) (f8 : 1 * x26 + ((-1) * x2 + ((-1728031) * x5 + (1728031 * x4 + 0))) ≤ (-1727153)) (f9 : 1 * x24 + ((-1) * x2 + ((-1728031) * x5 + (1728031 * x4 + 0))) ≤ (-1727161)) (f10 : 1 * x14 + ((-1) * x2 + ((-1728031) * x5 + (1728031 * x4 + 0))) ≤ (-1727167)) (f12 : 1 * x24 + ((-1) * x2 + ((-1728031) * x5 + (1728031 * x4 + 0))) ≤ (-1727161)) (f13 : 1 * x14 + ((-1) * x2 + ((-1728031) * x5 + (1728031 * x4 + 0))) ≤ (-1727167)) (f15 : 1 * x14 + ((-1) * x2 + ((-1728031) * x5 + (1728031 * x4 + 0))) ≤ (-1727167)) (f16 : x12 = x4) (f17 : x5 < x6) (kz_0_170 : 0 ≤ texts_0 ∧ texts_0 ≤ 100000000) (ex2 : gx = texts_0) (ex3 : 0 ≤ gx ∧ gx ≤ 98271988) : 1 * texts_0 + ((-1) * gx + 0) ≤ 0 := by
  first | assumption | omega | grind
set_option maxHeartbeats 4000000 in
theorem vc_Mo_writeGroup_at_l0_16_1 (x2 : Int) (x4 : Int) (x5 : Int) (x6 : Int) (x12 : Int) (x14 : Int) (x24 : Int) (x26 : Int) (all_0 : Int → Int) (r_0 : Int) (texts_0 : Int) (gx : Int) (k2 : 0 ≤ x2 ∧ x2 ≤ 87902919) (k4 : 0 ≤ x4 ∧ x4 ≤ 0) (k5 : 1 ≤ x5 ∧ x5 ≤ 7) (k6 : 2 ≤ x6 ∧ x6 ≤ 8) (k12 : 0 ≤ x12 ∧ x12 ≤ 0) (k14 : 0 ≤ x14 ∧ x14 ≤ 99999994) (k24 : 0 ≤ x24 ∧ x24 ≤ 99999992) (k26 : 0 ≤ x26 ∧ x26 ≤ 99999997) (d0 : x6 + (-4294967296) ≤ x5 ∧ x5 ≤ x6 + (-1)) (f0 : 1 * x26 + ((-1) * x2 + ((-1728031) * x5 + (1728031 * x4 + 0))) ≤ (-1727153)) (f1 : 1 * x24 + ((-1) * x2 + ((-1728031) * x5 + (1728031 * x4 + 0))) ≤ (-1727161)) (f2 : 1 * x14 + ((-1) * x2 + ((-1728031) * x5 + (1728031 * x4 + 0))) ≤ (-1727167)) (f3 : 1 * x6 + ((-1) * all_0 (r_0 + 2) + 0) ≤ 0) (f4 : (-1) * x6 + (1 * all_0 (r_0 + 2) + 0) ≤ 0) (f6 : 1 * texts_0 + ((-1) * x26 + 0) ≤ 3) (f8 : 1 * x26 + ((-1) * x2 + ((-1728031) * x5 + (1728031 * x4 + 0))) ≤ (-1727153)) (f9 : 1 * x24 + ((-1) * x2 + ((-1728031) * x5 + (1728031 * x4 + 0))) ≤ (-1727161)) (f10 : 1 * x14 + ((-1) * x2 + ((-1728031) * x5 + (1728031 * x4 + 0))) ≤ (-1727167)) (f12 : 1 * x24 + ((-1) * x2 + ((-1728031) * x5 + (1728031 * x4 + 0))) ≤ (-1727161)) (f13 : 1 * x14 + ((-1) * x2 + ((-1728031) * x5 + (1728031 * x4 + 0))) ≤ (-1727167)) (f15 : 1 * x14 + ((-1) * x2 + ((-1728031) * x5 + (1728031 * x4 + 0))) ≤ (-1727167)) (f16 : x12 = x4) (f17 : x5 < x6) (kz_0_170 : 0 ≤ texts_0 ∧ texts_0 ≤ 100000000) (ex2 : gx = texts_0) (ex3 : 0 ≤ gx ∧ gx ≤ 98271988) : 1 * gx + ((-1) * x2 + ((-1728031) * x5 + (1728031 * x4 + 0))) ≤ (-1727150) := by
  first | assumption | omega | grind
def o_Mo_writeGroup_at_l0_16 : or_T := (161, 27, [(0, (2, 0, 0, [165])), (2, (0, 0, 87902919, [])), (3, (2, 0, 0, [165])), (4, (0, 0, 0, [])), (5, (0, 1, 7, [])), (6, (0, 2, 8, [])), (12, (0, 0, 0, [])), (14, (0, 0, 99999994, [])), (24, (0, 0, 99999992, [])), (26, (0, 0, 99999997, []))], [(23, [26, 2, 5, 4], [-1727153, 1, -1, -1728031, 1728031]), (23, [24, 2, 5, 4], [-1727161, 1, -1, -1728031, 1728031]), (23, [14, 2, 5, 4], [-1727167, 1, -1, -1728031, 1728031]), (20, [6, 3], [30, 0, 1, 0, 0, -1, 3, 2005002]), (20, [6, 3], [30, 0, -1, 0, 0, 1, 3, 2005002]), (24, [0, 3], []), (20, [3, 26], [30, 3, 1, 1, 170, -1, 0, 0]), (102, [26], [7770675568902916283677847627294075626569627356208558085007249638955617140820833992704, 165170]), (23, [26, 2, 5, 4], [-1727153, 1, -1, -1728031, 1728031]), (23, [24, 2, 5, 4], [-1727161, 1, -1, -1728031, 1728031]), (23, [14, 2, 5, 4], [-1727167, 1, -1, -1728031, 1728031]), (102, [24], [7770675568902916283677847627294075626569627356208558085007249638955617140820833992704, 165170]), (23, [24, 2, 5, 4], [-1727161, 1, -1, -1728031, 1728031]), (23, [14, 2, 5, 4], [-1727167, 1, -1, -1728031, 1728031]), (102, [14], [7770675568902916283677847627294075626569627356208558085007249638955617140820833992704, 165170]), (23, [14, 2, 5, 4], [-1727167, 1, -1, -1728031, 1728031]), (7, [12, 4], [0]), (7, [5, 6], [2])], [], [(0, 0, 98271988, [])], [(20, [3, 27], [30, 0, 1, 1, 170, -1, 0, 0]), (23, [27, 2, 5, 4], [-1727150, 1, -1, -1728031, 1728031])], [], [(5, 6, -4294967296, -1)])
theorem oo_Mo_writeGroup_at_l0_16 {kA : Nat → ClassId} : or_ok PRD kA GG o_Mo_writeGroup_at_l0_16 := by
  refine or_mk fun A ta ws vs hD hth hl => ?_
  intro t0 r0 t2 k2 t3 r3 t4 k4 t5 k5 t6 k6 t12 k12 t14 k14 t24 k24 t26 k26 d0 f0 f1 f2 f3 f4 f5 f6 ta1 w1 le1 s1 f8 f9 f10 ta2 w2 le2 s2 f12 f13 ta3 w3 le3 s3 f15 f16 f17
  replace f0 := shm_2046 f0
  replace f1 := shm_2045 f1
  replace f2 := shm_2044 f2
  replace f3 := shm_123 f3
  replace f4 := shm_124 f4
  replace f5 := shm_5 f5
  replace f6 := shm_212 f6
  replace f8 := shm_2046 f8
  replace f9 := shm_2045 f9
  replace f10 := shm_2044 f10
  replace f12 := shm_2045 f12
  replace f13 := shm_2044 f13
  replace f15 := shm_2044 f15
  replace f16 := shm_37 f16
  replace f17 := shm_6 f17
  have q3 : n_v vs 3 = n_v vs 0 := f5.symm
  simp only [q3] at f3 f4 f6
  have cr_0_2 := fdq_10 hD hth r0
  have kz_0_170 := fdq_11 hD hth r0
  have kv0 := fdq_11 hD hth r0
  obtain ⟨x, ex, hx⟩ := iv_ex (ta := ta) (lo := 0) (hi := 98271988) (z := w_fi ws (n_v vs 0) 170) (by omega) (by omega) (by omega) (by omega)
  have ex2 : v_iv (Value.int x) = w_fi ws (n_v vs 0) 170 := ex
  have ex3 : 0 ≤ v_iv (Value.int x) ∧ v_iv (Value.int x) ≤ 98271988 := tv_rng hx
  have e_2 : n_v (vs ++ [Value.int x]) 2 = n_v vs 2 := n_v_old (by rw [hl]; decide)
  have e_3 : n_v (vs ++ [Value.int x]) 3 = n_v vs 3 := n_v_old (by rw [hl]; decide)
  have e_4 : n_v (vs ++ [Value.int x]) 4 = n_v vs 4 := n_v_old (by rw [hl]; decide)
  have e_5 : n_v (vs ++ [Value.int x]) 5 = n_v vs 5 := n_v_old (by rw [hl]; decide)
  have e_27 : n_v (vs ++ [Value.int x]) 27 = Value.int x := n_v_new hl
  have nf0 : fc_1 PRD (20, [3, 27], [30, 0, 1, 1, 170, -1, 0, 0]) ws (vs ++ [Value.int x]) := by
    refine ⟨nf_inA hl rfl, sgq_131 ?_⟩
    · show 1 * w_fi ws (n_v (vs ++ [Value.int x]) 3) 170 + ((-1) * v_iv (n_v (vs ++ [Value.int x]) 27) + 0) ≤ 0
      simp only [e_3, e_27, q3]
      exact vc_Mo_writeGroup_at_l0_16_0 (v_iv (n_v vs 2)) (v_iv (n_v vs 4)) (v_iv (n_v vs 5)) (v_iv (n_v vs 6)) (v_iv (n_v vs 12)) (v_iv (n_v vs 14)) (v_iv (n_v vs 24)) (v_iv (n_v vs 26)) (w_ei ws (w_ar ws (n_v vs 0) 2)) (w_fi ws (n_v vs 0) 5) (w_fi ws (n_v vs 0) 170) (v_iv (Value.int x)) k2 k4 k5 k6 k12 k14 k24 k26 d0 f0 f1 f2 f3 f4 f6 f8 f9 f10 f12 f13 f15 f16 f17 kz_0_170 ex2 ex3
  have nf1 : fc_1 PRD (23, [27, 2, 5, 4], [-1727150, 1, -1, -1728031, 1728031]) ws (vs ++ [Value.int x]) := by
    refine ⟨nf_inA hl rfl, sgq_2047 ?_⟩
    · show 1 * v_iv (n_v (vs ++ [Value.int x]) 27) + ((-1) * v_iv (n_v (vs ++ [Value.int x]) 2) + ((-1728031) * v_iv (n_v (vs ++ [Value.int x]) 5) + (1728031 * v_iv (n_v (vs ++ [Value.int x]) 4) + 0))) ≤ (-1727150)
      simp only [e_2, e_4, e_5, e_27]
      exact vc_Mo_writeGroup_at_l0_16_1 (v_iv (n_v vs 2)) (v_iv (n_v vs 4)) (v_iv (n_v vs 5)) (v_iv (n_v vs 6)) (v_iv (n_v vs 12)) (v_iv (n_v vs 14)) (v_iv (n_v vs 24)) (v_iv (n_v vs 26)) (w_ei ws (w_ar ws (n_v vs 0) 2)) (w_fi ws (n_v vs 0) 5) (w_fi ws (n_v vs 0) 170) (v_iv (Value.int x)) k2 k4 k5 k6 k12 k14 k24 k26 d0 f0 f1 f2 f3 f4 f6 f8 f9 f10 f12 f13 f15 f16 f17 kz_0_170 ex2 ex3
  exact ⟨(fun _ h => (by cases h)), [Value.int x], ag_one hx, List.forall_mem_cons.mpr ⟨⟨show (20 : Nat) < 100 from by decide, nf0⟩, List.forall_mem_cons.mpr ⟨⟨show (23 : Nat) < 100 from by decide, nf1⟩, (fun _ h => (by cases h))⟩⟩, (fun _ h => (by cases h))⟩
set_option maxHeartbeats 4000000 in
theorem vc_Mo_writeGroup_at_l0_17_0 (x2 : Int) (x4 : Int) (x5 : Int) (x6 : Int) (x12 : Int) (x14 : Int) (x24 : Int) (x26 : Int) (x27 : Int) (all_0 : Int → Int) (r_0 : Int) (texts_0 : Int) (gx : Int) (k2 : 0 ≤ x2 ∧ x2 ≤ 87902919) (k4 : 0 ≤ x4 ∧ x4 ≤ 0) (k5 : 1 ≤ x5 ∧ x5 ≤ 7) (k6 : 2 ≤ x6 ∧ x6 ≤ 8) (k12 : 0 ≤ x12 ∧ x12 ≤ 0) (k14 : 0 ≤ x14 ∧ x14 ≤ 99999994) (k24 : 0 ≤ x24 ∧ x24 ≤ 99999992) (k26 : 0 ≤ x26 ∧ x26 ≤ 99999997) (k27 : 0 ≤ x27 ∧ x27 ≤ 98271988) (d0 : x6 + (-4294967296) ≤ x5 ∧ x5 ≤ x6 + (-1)) (f0 : 1 * x27 + ((-1) * x2 + ((-1728031) * x5 + (1728031 * x4 + 0))) ≤ (-1727150)) (f1 : 1 * x26 + ((-1) * x2 + ((-1728031) * x5 + (1728031 * x4 + 0))) ≤ (-1727153)) (f2 : 1 * x24 + ((-1) * x2 + ((-1728031) * x5 + (1728031 * x4 + 0))) ≤ (-1727161)) (f3 : 1 * x14 + ((-1) * x2 + ((-1728031) * x5 + (1728031 * x4 + 0))) ≤ (-1727167)) (f4 : 1 * x6 + ((-1) * all_0 (r_0 + 2) + 0) ≤ 0) (f5 : (-1) * x6 + (1 * all_0 (r_0 + 2) + 0) ≤ 0) (f7 : 1 * texts_0 + ((-1) * x27 + 0) ≤ 1728012) (f9 : 1 * x27 + ((-1) * x2 + ((-1728031) * x5 + (1728031 * x4 + 0))) ≤ (-1727150)) (f10 : 1 * x26 + ((-1) * x2 + ((-1728031) * x5 + (1728031 * x4 + 0))) ≤ (-1727153)) (f11 : 1 * x24 + ((-1) * x2 + ((-1728031) * x5 + (1728031 * x4 + 0))) ≤ (-1727161)) (f12 : 1 * x14 + ((-1) * x2 + ((-1728031) * x5 + (1728031 * x4 + 0))) ≤ (-1727167)) (f14 : 1 * x26 + ((-1) * x2 + ((-1728031) * x5 + (1728031 * x4 + 0))) ≤ (-1727153)) (f15 : 1 * x24 + ((-1) * x2 + ((-1728031) * x5 + (1728031 * x4 + 0))) ≤ (-1727161)) (f16 : 1 * x14 + ((-1) * x2 + ((-1728031) * x5 + (1728031 * x4 + 0))) ≤ (-1727167)) (f18 : 1 * x24 + ((-1) * x2 + ((-1728031) * x5 + (1728031 * x4 + 0))) ≤ (-1727161)) (f19 : 1 * x14 + ((-1) * x2 + ((-1728031) * x5 + (1728031 * x4 + 0))) ≤ (-1727167)) (f21 : 1 * x14 + ((-1) * x2 + ((-1728031) * x5 + (1728031 * x4 + 0))) ≤ (-1727167)) (f22 : x12 = x4) (f23 : x5 < x6) (kz_0_170 : 0 ≤ texts_0 ∧ texts_0 ≤ 100000000) (ex2 : gx = texts_0) (ex3 : 0 ≤ gx ∧ gx ≤ 99999998) : 1 * texts_0 + ((-1) * gx + 0) ≤ 0 := by
  first | assumption | omega | grind
set_option maxHeartbeats 4000000 in
theorem vc_Mo_writeGroup_at_l0_17_1 (x2 : Int) (x4 : Int) (x5 : Int) (x6 : Int) (x12 : Int) (x14 : Int) (x24 : Int) (x26 : Int) (x27 : Int) (all_0 : Int → Int) (r_0 : Int) (texts_0 : Int) (gx : Int) (k2 : 0 ≤ x2 ∧ x2 ≤ 87902919) (k4 : 0 ≤ x4 ∧ x4 ≤ 0) (k5 : 1 ≤ x5 ∧ x5 ≤ 7) (k6 : 2 ≤ x6 ∧ x6 ≤ 8) (k12 : 0 ≤ x12 ∧ x12 ≤ 0) (k14 : 0 ≤ x14 ∧ x14 ≤ 99999994) (k24 : 0 ≤ x24 ∧ x24 ≤ 99999992) (k26 : 0 ≤ x26 ∧ x26 ≤ 99999997) (k27 : 0 ≤ x27 ∧ x27 ≤ 98271988) (d0 : x6 + (-4294967296) ≤ x5 ∧ x5 ≤ x6 + (-1)) (f0 : 1 * x27 + ((-1) * x2 + ((-1728031) * x5 + (1728031 * x4 + 0))) ≤ (-1727150)) (f1 : 1 * x26 + ((-1) * x2 + ((-1728031) * x5 + (1728031 * x4 + 0))) ≤ (-1727153)) (f2 : 1 * x24 + ((-1) * x2 + ((-1728031) * x5 + (1728031 * x4 + 0))) ≤ (-1727161)) (f3 : 1 * x14 + ((-1) * x2 + ((-1728031) * x5 + (1728031 * x4 + 0))) ≤ (-1727167)) (f4 : 1 * x6 + ((-1) * all_0 (r_0 + 2) + 0) ≤ 0) (f5 : (-1) * x6 + (1 * all_0 (r_0 + 2) + 0) ≤ 0) (f7 : 1 * texts_0 + ((-1) * x27 + 0) ≤ 1728012) (f9 : 1 * x27 + ((-1) * x2 + ((-1728031) * x5 + (1728031 * x4 + 0))) ≤ (-1727150)) (f10 : 1 * x26 + ((-1) * x2 + ((-1728031) * x5 + (1728031 * x4 + 0))) ≤ (-1727153)) (f11 : 1 * x24 + ((-1) * x2 + ((-1728031) * x5 + (1728031 * x4 + 0))) ≤ (-1727161)) (f12 : 1 * x14 + ((-1) * x2 + ((-1728031) * x5 + (1728031 * x4 + 0))) ≤ (-1727167)) (f14 : 1 * x26 + ((-1) * x2 + ((-1728031) * x5 + (1728031 * x4 + 0))) ≤ (-1727153)) (f15 : 1 * x24 + ((-1) * x2 + ((-1728031) * x5 + (1728031 * x4 + 0))) ≤ (-1727161)) (f16 : 1 * x14 + ((-1) * x2 + ((-1728031) * x5 + (1728031 * x4 + 0))) ≤ (-1727167)) (f18 : 1 * x24 + ((-1) * x2 + ((-1728031) * x5 + (1728031 * x4 + 0))) ≤ (-1727161)) (f19 : 1 * x14 + ((-1) * x2 + ((-1728031) * x5 + (1728031 * x4 + 0))) ≤ (-1727167)) (f21 : 1 * x14 + ((-1) * x2 + ((-1728031) * x5 + (1728031 * x4 + 0))) ≤ (-1727167)) (f22 : x12 = x4) (f23 : x5 < x6) (kz_0_170 : 0 ≤ texts_0 ∧ texts_0 ≤ 100000000) (ex2 : gx = texts_0) (ex3 : 0 ≤ gx ∧ gx ≤ 99999998) : 1 * gx + ((-1) * x2 + ((-1728031) * x5 + (1728031 * x4 + 0))) ≤ 862 := by
  first | assumption | omega | grind
def o_Mo_writeGroup_at_l0_17 : or_T := (168, 29, [(0, (2, 0, 0, [165])), (2, (0, 0, 87902919, [])), (3, (2, 0, 0, [165])), (4, (0, 0, 0, [])), (5, (0, 1, 7, [])), (6, (0, 2, 8, [])), (12, (0, 0, 0, [])), (14, (0, 0, 99999994, [])), (24, (0, 0, 99999992, [])), (26, (0, 0, 99999997, [])), (27, (0, 0, 98271988, []))], [(23, [27, 2, 5, 4], [-1727150, 1, -1, -1728031, 1728031]), (23, [26, 2, 5, 4], [-1727153, 1, -1, -1728031, 1728031]), (23, [24, 2, 5, 4], [-1727161, 1, -1, -1728031, 1728031]), (23, [14, 2, 5, 4], [-1727167, 1, -1, -1728031, 1728031]), (20, [6, 3], [30, 0, 1, 0, 0, -1, 3, 2005002]), (20, [6, 3], [30, 0, -1, 0, 0, 1, 3, 2005002]), (24, [0, 3], []), (20, [3, 27], [30, 1728012, 1, 1, 170, -1, 0, 0]), (102, [27], [7770675568902916283677847627294075626569627356208558085007249638955617140820833992704, 165170]), (23, [27, 2, 5, 4], [-1727150, 1, -1, -1728031, 1728031]), (23, [26, 2, 5, 4], [-1727153, 1, -1, -1728031, 1728031]), (23, [24, 2, 5, 4], [-1727161, 1, -1, -1728031, 1728031]), (23, [14, 2, 5, 4], [-1727167, 1, -1, -1728031, 1728031]), (102, [26], [7770675568902916283677847627294075626569627356208558085007249638955617140820833992704, 165170]), (23, [26, 2, 5, 4], [-1727153, 1, -1, -1728031, 1728031]), (23, [24, 2, 5, 4], [-1727161, 1, -1, -1728031, 1728031]), (23, [14, 2, 5, 4], [-1727167, 1, -1, -1728031, 1728031]), (102, [24], [7770675568902916283677847627294075626569627356208558085007249638955617140820833992704, 165170]), (23, [24, 2, 5, 4], [-1727161, 1, -1, -1728031, 1728031]), (23, [14, 2, 5, 4], [-1727167, 1, -1, -1728031, 1728031]), (102, [14], [7770675568902916283677847627294075626569627356208558085007249638955617140820833992704, 165170]), (23, [14, 2, 5, 4], [-1727167, 1, -1, -1728031, 1728031]), (7, [12, 4], [0]), (7, [5, 6], [2])], [], [(0, 0, 99999998, [])], [(20, [3, 29], [30, 0, 1, 1, 170, -1, 0, 0]), (23, [29, 2, 5, 4], [862, 1, -1, -1728031, 1728031])], [], [(5, 6, -4294967296, -1)])
theorem oo_Mo_writeGroup_at_l0_17 {kA : Nat → ClassId} : or_ok PRD kA GG o_Mo_writeGroup_at_l0_17 := by
  refine or_mk fun A ta ws vs hD hth hl => ?_
  intro t0 r0 t2 k2 t3 r3 t4 k4 t5 k5 t6 k6 t12 k12 t14 k14 t24 k24 t26 k26 t27 k27 d0 f0 f1 f2 f3 f4 f5 f6 f7 ta1 w1 le1 s1 f9 f10 f11 f12 ta2 w2 le2 s2 f14 f15 f16 ta3 w3 le3 s3 f18 f19 ta4 w4 le4 s4 f21 f22 f23
  replace f0 := shm_2047 f0
  replace f1 := shm_2046 f1
  replace f2 := shm_2045 f2
  replace f3 := shm_2044 f3
  replace f4 := shm_123 f4
  replace f5 := shm_124 f5
  replace f6 := shm_5 f6
  replace f7 := shm_2048 f7
  replace f9 := shm_2047 f9
  replace f10 := shm_2046 f10
  replace f11 := shm_2045 f11
  replace f12 := shm_2044 f12
  replace f14 := shm_2046 f14
  replace f15 := shm_2045 f15
  replace f16 := shm_2044 f16
  replace f18 := shm_2045 f18
  replace f19 := shm_2044 f19
  replace f21 := shm_2044 f21
  replace f22 := shm_37 f22
  replace f23 := shm_6 f23
  have q3 : n_v vs 3 = n_v vs 0 := f6.symm
  simp only [q3] at f4 f5 f7
  have cr_0_2 := fdq_10 hD hth r0
  have kz_0_170 := fdq_11 hD hth r0
  have kv0 := fdq_11 hD hth r0
  obtain ⟨x, ex, hx⟩ := iv_ex (ta := ta) (lo := 0) (hi := 99999998) (z := w_fi ws (n_v vs 0) 170) (by omega) (by omega) (by omega) (by omega)
  have ex2 : v_iv (Value.int x) = w_fi ws (n_v vs 0) 170 := ex
  have ex3 : 0 ≤ v_iv (Value.int x) ∧ v_iv (Value.int x) ≤ 99999998 := tv_rng hx
  have e_2 : n_v (vs ++ [Value.int x]) 2 = n_v vs 2 := n_v_old (by rw [hl]; decide)
  have e_3 : n_v (vs ++ [Value.int x]) 3 = n_v vs 3 := n_v_old (by rw [hl]; decide)
  have e_4 : n_v (vs ++ [Value.int x]) 4 = n_v vs 4 := n_v_old (by rw [hl]; decide)
  have e_5 : n_v (vs ++ [Value.int x]) 5 = n_v vs 5 := n_v_old (by rw [hl]; decide)
  have e_29 : n_v (vs ++ [Value.int x]) 29 = Value.int x := n_v_new hl
  have nf0 : fc_1 PRD (20, [3, 29], [30, 0, 1, 1, 170, -1, 0, 0]) ws (vs ++ [Value.int x]) := by
    refine ⟨nf_inA hl rfl, sgq_131 ?_⟩
    · show 1 * w_fi ws (n_v (vs ++ [Value.int x]) 3) 170 + ((-1) * v_iv (n_v (vs ++ [Value.int x]) 29) + 0) ≤ 0
      simp only [e_3, e_29, q3]
      exact vc_Mo_writeGroup_at_l0_17_0 (v_iv (n_v vs 2)) (v_iv (n_v vs 4)) (v_iv (n_v vs 5)) (v_iv (n_v vs 6)) (v_iv (n_v vs 12)) (v_iv (n_v vs 14)) (v_iv (n_v vs 24)) (v_iv (n_v vs 26)) (v_iv (n_v vs 27)) (w_ei ws (w_ar ws (n_v vs 0) 2)) (w_fi ws (n_v vs 0) 5) (w_fi ws (n_v vs 0) 170) (v_iv (Value.int x)) k2 k4 k5 k6 k12 k14 k24 k26 k27 d0 f0 f1 f2 f3 f4 f5 f7 f9 f10 f11 f12 f14 f15 f16 f18 f19 f21 f22 f23 kz_0_170 ex2 ex3
  have nf1 : fc_1 PRD (23, [29, 2, 5, 4], [862, 1, -1, -1728031, 1728031]) ws (vs ++ [Value.int x]) := by
    refine ⟨nf_inA hl rfl, sgq_2049 ?_⟩
    · show 1 * v_iv (n_v (vs ++ [Value.int x]) 29) + ((-1) * v_iv (n_v (vs ++ [Value.int x]) 2) + ((-1728031) * v_iv (n_v (vs ++ [Value.int x]) 5) + (1728031 * v_iv (n_v (vs ++ [Value.int x]) 4) + 0))) ≤ 862
      simp only [e_2, e_4, e_5, e_29]
      exact vc_Mo_writeGroup_at_l0_17_1 (v_iv (n_v vs 2)) (v_iv (n_v vs 4)) (v_iv (n_v vs 5)) (v_iv (n_v vs 6)) (v_iv (n_v vs 12)) (v_iv (n_v vs 14)) (v_iv (n_v vs 24)) (v_iv (n_v vs 26)) (v_iv (n_v vs 27)) (w_ei ws (w_ar ws (n_v vs 0) 2)) (w_fi ws (n_v vs 0) 5) (w_fi ws (n_v vs 0) 170) (v_iv (Value.int x)) k2 k4 k5 k6 k12 k14 k24 k26 k27 d0 f0 f1 f2 f3 f4 f5 f7 f9 f10 f11 f12 f14 f15 f16 f18 f19 f21 f22 f23 kz_0_170 ex2 ex3
  exact ⟨(fun _ h => (by cases h)), [Value.int x], ag_one hx, List.forall_mem_cons.mpr ⟨⟨show (20 : Nat) < 100 from by decide, nf0⟩, List.forall_mem_cons.mpr ⟨⟨show (23 : Nat) < 100 from by decide, nf1⟩, (fun _ h => (by cases h))⟩⟩, (fun _ h => (by cases h))⟩
set_option maxHeartbeats 4000000 in
theorem vc_Mo_writeGroup_at_l0_18_0 (x2 : Int) (x4 : Int) (x5 : Int) (x6 : Int) (x12 : Int) (x14 : Int) (x24 : Int) (x26 : Int) (x27 : Int) (x29 : Int) (x30 : Int) (all_0 : Int → Int) (r_0 : Int) (texts_0 : Int) (k2 : 0 ≤ x2 ∧ x2 ≤ 87902919) (k4 : 0 ≤ x4 ∧ x4 ≤ 0) (k5 : 1 ≤ x5 ∧ x5 ≤ 7) (k6 : 2 ≤ x6 ∧ x6 ≤ 8) (k12 : 0 ≤ x12 ∧ x12 ≤ 0) (k14 : 0 ≤ x14 ∧ x14 ≤ 99999994) (k24 : 0 ≤ x24 ∧ x24 ≤ 99999992) (k26 : 0 ≤ x26 ∧ x26 ≤ 99999997) (k27 : 0 ≤ x27 ∧ x27 ≤ 98271988) (k29 : 0 ≤ x29 ∧ x29 ≤ 99999998) (k30 : 2 ≤ x30 ∧ x30 ≤ 8) (d0 : x5 + 1 ≤ x30 ∧ x30 ≤ x5 + 1) (d1 : x6 + (-4294967296) ≤ x30 ∧ x30 ≤ x6 + 0) (d2 : x6 + (-4294967296) ≤ x5 ∧ x5 ≤ x6 + (-1)) (f0 : x30 = x5 + 1) (f1 : 1 * x29 + ((-1) * x2 + ((-1728031) * x5 + (1728031 * x4 + 0))) ≤ 862) (f2 : 1 * x27 + ((-1) * x2 + ((-1728031) * x5 + (1728031 * x4 + 0))) ≤ (-1727150)) (f3 : 1 * x26 + ((-1) * x2 + ((-1728031) * x5 + (1728031 * x4 + 0))) ≤ (-1727153)) (f4 : 1 * x24 + ((-1) * x2 + ((-1728031) * x5 + (1728031 * x4 + 0))) ≤ (-1727161)) (f5 : 1 * x14 + ((-1) * x2 + ((-1728031) * x5 + (1728031 * x4 + 0))) ≤ (-1727167)) (f6 : 1 * x6 + ((-1) * all_0 (r_0 + 2) + 0) ≤ 0) (f7 : (-1) * x6 + (1 * all_0 (r_0 + 2) + 0) ≤ 0) (f9 : 1 * texts_0 + ((-1) * x29 + 0) ≤ 2) (f11 : 1 * x29 + ((-1) * x2 + ((-1728031) * x5 + (1728031 * x4 + 0))) ≤ 862) (f12 : 1 * x27 + ((-1) * x2 + ((-1728031) * x5 + (1728031 * x4 + 0))) ≤ (-1727150)) (f13 : 1 * x26 + ((-1) * x2 + ((-1728031) * x5 + (1728031 * x4 + 0))) ≤ (-1727153)) (f14 : 1 * x24 + ((-1) * x2 + ((-1728031) * x5 + (1728031 * x4 + 0))) ≤ (-1727161)) (f15 : 1 * x14 + ((-1) * x2 + ((-1728031) * x5 + (1728031 * x4 + 0))) ≤ (-1727167)) (f17 : 1 * x27 + ((-1) * x2 + ((-1728031) * x5 + (1728031 * x4 + 0))) ≤ (-1727150)) (f18 : 1 * x26 + ((-1) * x2 + ((-1728031) * x5 + (1728031 * x4 + 0))) ≤ (-1727153)) (f19 : 1 * x24 + ((-1) * x2 + ((-1728031) * x5 + (1728031 * x4 + 0))) ≤ (-1727161)) (f20 : 1 * x14 + ((-1) * x2 + ((-1728031) * x5 + (1728031 * x4 + 0))) ≤ (-1727167)) (f22 : 1 * x26 + ((-1) * x2 + ((-1728031) * x5 + (1728031 * x4 + 0))) ≤ (-1727153)) (f23 : 1 * x24 + ((-1) * x2 + ((-1728031) * x5 + (1728031 * x4 + 0))) ≤ (-1727161)) (f24 : 1 * x14 + ((-1) * x2 + ((-1728031) * x5 + (1728031 * x4 + 0))) ≤ (-1727167)) (f26 : 1 * x24 + ((-1) * x2 + ((-1728031) * x5 + (1728031 * x4 + 0))) ≤ (-1727161)) (f27 : 1 * x14 + ((-1) * x2 + ((-1728031) * x5 + (1728031 * x4 + 0))) ≤ (-1727167)) (f29 : 1 * x14 + ((-1) * x2 + ((-1728031) * x5 + (1728031 * x4 + 0))) ≤ (-1727167)) (f30 : x12 = x4) (f31 : x5 < x6) (kz_0_170 : 0 ≤ texts_0 ∧ texts_0 ≤ 100000000) : 1 * texts_0 + ((-1) * x2 + ((-1728031) * x30 + (1728031 * x4 + 0))) ≤ (-1727167) := by
  first | assumption | omega | grind
def o_Mo_writeGroup_at_l0_18 : or_T := (83, 31, [(0, (2, 0, 0, [165])), (2, (0, 0, 87902919, [])), (4, (0, 0, 0, [])), (5, (0, 1, 7, [])), (6, (0, 2, 8, [])), (12, (0, 0, 0, [])), (14, (0, 0, 99999994, [])), (24, (0, 0, 99999992, [])), (26, (0, 0, 99999997, [])), (27, (0, 0, 98271988, [])), (29, (0, 0, 99999998, [])), (30, (0, 2, 8, []))], [(6, [30, 5], [1]), (23, [29, 2, 5, 4], [862, 1, -1, -1728031, 1728031]), (23, [27, 2, 5, 4], [-1727150, 1, -1, -1728031, 1728031]), (23, [26, 2, 5, 4], [-1727153, 1, -1, -1728031, 1728031]), (23, [24, 2, 5, 4], [-1727161, 1, -1, -1728031, 1728031]), (23, [14, 2, 5, 4], [-1727167, 1, -1, -1728031, 1728031]), (20, [6, 3], [30, 0, 1, 0, 0, -1, 3, 2005002]), (20, [6, 3], [30, 0, -1, 0, 0, 1, 3, 2005002]), (24, [0, 3], []), (20, [3, 29], [30, 2, 1, 1, 170, -1, 0, 0]), (102, [29], [7770675568902916283677847627294075626569627356208558085007249638955617140820833992704, 165170]), (23, [29, 2, 5, 4], [862, 1, -1, -1728031, 1728031]), (23, [27, 2, 5, 4], [-1727150, 1, -1, -1728031, 1728031]), (23, [26, 2, 5, 4], [-1727153, 1, -1, -1728031, 1728031]), (23, [24, 2, 5, 4], [-1727161, 1, -1, -1728031, 1728031]), (23, [14, 2, 5, 4], [-1727167, 1, -1, -1728031, 1728031]), (102, [27], [7770675568902916283677847627294075626569627356208558085007249638955617140820833992704, 165170]), (23, [27, 2, 5, 4], [-1727150, 1, -1, -1728031, 1728031]), (23, [26, 2, 5, 4], [-1727153, 1, -1, -1728031, 1728031]), (23, [24, 2, 5, 4], [-1727161, 1, -1, -1728031, 1728031]), (23, [14, 2, 5, 4], [-1727167, 1, -1, -1728031, 1728031]), (102, [26], [7770675568902916283677847627294075626569627356208558085007249638955617140820833992704, 165170]), (23, [26, 2, 5, 4], [-1727153, 1, -1, -1728031, 1728031]), (23, [24, 2, 5, 4], [-1727161, 1, -1, -1728031, 1728031]), (23, [14, 2, 5, 4], [-1727167, 1, -1, -1728031, 1728031]), (102, [24], [7770675568902916283677847627294075626569627356208558085007249638955617140820833992704, 165170]), (23, [24, 2, 5, 4], [-1727161, 1, -1, -1728031, 1728031]), (23, [14, 2, 5, 4], [-1727167, 1, -1, -1728031, 1728031]), (102, [14], [7770675568902916283677847627294075626569627356208558085007249638955617140820833992704, 165170]), (23, [14, 2, 5, 4], [-1727167, 1, -1, -1728031, 1728031]), (7, [12, 4], [0]), (7, [5, 6], [2])], [], [], [(20, [3, 2, 30, 4], [30, -1727167, 1, 1, 170, -1, 0, 0, -1728031, 0, 0, 1728031, 0, 0])], [], [(30, 5, 1, 1), (30, 6, -4294967296, 0), (5, 6, -4294967296, -1)])
theorem oo_Mo_writeGroup_at_l0_18 {kA : Nat → ClassId} : or_ok PRD kA GG o_Mo_writeGroup_at_l0_18 := by
  refine or_mk fun A ta ws vs hD hth hl => ?_
  intro t0 r0 t2 k2 t4 k4 t5 k5 t6 k6 t12 k12 t14 k14 t24 k24 t26 k26 t27 k27 t29 k29 t30 k30 d0 d1 d2 f0 f1 f2 f3 f4 f5 f6 f7 f8 f9 ta1 w1 le1 s1 f11 f12 f13 f14 f15 ta2 w2 le2 s2 f17 f18 f19 f20 ta3 w3 le3 s3 f22 f23 f24 ta4 w4 le4 s4 f26 f27 ta5 w5 le5 s5 f29 f30 f31
  replace f0 := shm_4 f0
  replace f1 := shm_2049 f1
  replace f2 := shm_2047 f2
  replace f3 := shm_2046 f3
  replace f4 := shm_2045 f4
  replace f5 := shm_2044 f5
  replace f6 := shm_123 f6
  replace f7 := shm_124 f7
  replace f8 := shm_5 f8
  replace f9 := shm_210 f9
  replace f11 := shm_2049 f11
  replace f12 := shm_2047 f12
  replace f13 := shm_2046 f13
  replace f14 := shm_2045 f14
  replace f15 := shm_2044 f15
  replace f17 := shm_2047 f17
  replace f18 := shm_2046 f18
  replace f19 := shm_2045 f19
  replace f20 := shm_2044 f20
  replace f22 := shm_2046 f22
  replace f23 := shm_2045 f23
  replace f24 := shm_2044 f24
  replace f26 := shm_2045 f26
  replace f27 := shm_2044 f27
  replace f29 := shm_2044 f29
  replace f30 := shm_37 f30
  replace f31 := shm_6 f31
  have q3 : n_v vs 3 = n_v vs 0 := f8.symm
  simp only [q3] at f6 f7 f9
  have kz_0_170 := fdq_11 hD hth r0
  have nf0 : fc_1 PRD (20, [3, 2, 30, 4], [30, -1727167, 1, 1, 170, -1, 0, 0, -1728031, 0, 0, 1728031, 0, 0]) ws (vs) := by
    refine ⟨nf_in hl rfl, sgq_2036 ?_⟩
    · show 1 * w_fi ws (n_v vs 3) 170 + ((-1) * v_iv (n_v vs 2) + ((-1728031) * v_iv (n_v vs 30) + (1728031 * v_iv (n_v vs 4) + 0))) ≤ (-1727167)
      rw [q3]
      exact vc_Mo_writeGroup_at_l0_18_0 (v_iv (n_v vs 2)) (v_iv (n_v vs 4)) (v_iv (n_v vs 5)) (v_iv (n_v vs 6)) (v_iv (n_v vs 12)) (v_iv (n_v vs 14)) (v_iv (n_v vs 24)) (v_iv (n_v vs 26)) (v_iv (n_v vs 27)) (v_iv (n_v vs 29)) (v_iv (n_v vs 30)) (w_ei ws (w_ar ws (n_v vs 0) 2)) (w_fi ws (n_v vs 0) 5) (w_fi ws (n_v vs 0) 170) k2 k4 k5 k6 k12 k14 k24 k26 k27 k29 k30 d0 d1 d2 f0 f1 f2 f3 f4 f5 f6 f7 f9 f11 f12 f13 f14 f15 f17 f18 f19 f20 f22 f23 f24 f26 f27 f29 f30 f31 kz_0_170
  refine ⟨(fun _ h => (by cases h)), [], trivial, ?_, (fun _ h => (by cases h))⟩
  rw [List.append_nil]
  exact List.forall_mem_cons.mpr ⟨⟨show (20 : Nat) < 100 from by decide, nf0⟩, (fun _ h => (by cases h))⟩
def o_Mo_writeGroup_at_l0_19 : or_T := (83, 14, [(0, (2, 0, 0, [165])), (2, (0, 0, 87902919, [])), (3, (2, 0, 0, [165])), (4, (0, 0, 0, [])), (5, (0, 1, 7, [])), (6, (0, 2, 8, [])), (7, (2, 0, 0, [167])), (8, (0, 0, 66297, [])), (9, (0, 531, 531, [])), (10, (0, 531, 66828, [])), (11, (0, 532, 66835, [])), (12, (0, -1, 6, [])), (13, (0, 2, 8, []))], [(6, [13, 5], [1]), (7, [12, 4], [1]), (10, [12, 7, 11], []), (1, [11, 10, 5], []), (1, [10, 8, 9], []), (9, [8, 3], [5]), (9, [7, 3], [2]), (7, [5, 6], [2]), (20, [6, 3], [30, 0, 1, 0, 0, -1, 3, 2005002]), (20, [6, 3], [30, 0, -1, 0, 0, 1, 3, 2005002]), (20, [3, 2, 5, 4], [30, -1727167, 1, 1, 170, -1, 0, 0, -1728031, 0, 0, 1728031, 0, 0]), (24, [0, 3], [])], [], [], [(20, [3, 2, 13, 4], [30, -1727167, 1, 1, 170, -1, 0, 0, -1728031, 0, 0, 1728031, 0, 0])], [], [(13, 5, 1, 1), (13, 6, -4294967296, 0), (11, 5, 531, 66828), (11, 6, -4294967296, 66827), (11, 10, 1, 7), (11, 8, 532, 538), (10, 8, 531, 531), (5, 6, -4294967296, -1)])
theorem oo_Mo_writeGroup_at_l0_19 {kA : Nat → ClassId} : or_ok PRD kA GG o_Mo_writeGroup_at_l0_19 := by
  refine or_mk fun A ta ws vs hD hth hl => ?_
  intro t0 r0 t2 k2 t3 r3 t4 k4 t5 k5 t6 k6 t7 r7 t8 k8 t9 k9 t10 k10 t11 k11 t12 k12 t13 k13 d0 d1 d2 d3 d4 d5 d6 d7 f0 f1 f2 f3 f4 f5 f6 f7 f8 f9 f10 f11
  replace f0 := shm_4 f0
  replace f1 := shm_40 f1
  replace f2 := shm_107 f2
  replace f3 := shm_12 f3
  replace f4 := shm_12 f4
  replace f5 := shm_110 f5
  replace f6 := shm_120 f6
  replace f7 := shm_6 f7
  replace f8 := shm_123 f8
  replace f9 := shm_124 f9
  replace f10 := shm_2036 f10
  replace f11 := shm_5 f11
  have q3 : n_v vs 3 = n_v vs 0 := f11.symm
  simp only [q3] at f5 f6 f8 f9 f10
  have cr_0_2 := fdq_10 hD hth r0
  have ad_7 : v_ad (n_v vs 7) = w_ar ws (n_v vs 0) 2 := congrArg v_ad f6
  simp only [ad_7] at f2
  have h2 : v_iv (n_v vs 12) = w_ei ws (w_ar ws (n_v vs 0) 2) (v_iv (n_v vs 11)) := f2
  have g5 : v_iv (n_v vs 8) = w_fi ws (n_v vs 0) 5 := congrArg v_iv f5
  have cg2_F5_2 : v_iv (n_v vs 11) = w_fi ws (n_v vs 0) 5 + 2 → w_el ws (w_ar ws (n_v vs 0) 2) (v_iv (n_v vs 11)).toNat = w_el ws (w_ar ws (n_v vs 0) 2) (w_fi ws (n_v vs 0) 5 + 2).toNat := fun h => by rw [h]
  have kz_0_170 := fdq_11 hD hth r0
  have nf0 : fc_1 PRD (20, [3, 2, 13, 4], [30, -1727167, 1, 1, 170, -1, 0, 0, -1728031, 0, 0, 1728031, 0, 0]) ws (vs) := by
    refine ⟨nf_in hl rfl, sgq_2036 ?_⟩
    · show 1 * w_fi ws (n_v vs 3) 170 + ((-1) * v_iv (n_v vs 2) + ((-1728031) * v_iv (n_v vs 13) + (1728031 * v_iv (n_v vs 4) + 0))) ≤ (-1727167)
      rw [q3]
      omega
  refine ⟨(fun _ h => (by cases h)), [], trivial, ?_, (fun _ h => (by cases h))⟩
  rw [List.append_nil]
  exact List.forall_mem_cons.mpr ⟨⟨show (20 : Nat) < 100 from by decide, nf0⟩, (fun _ h => (by cases h))⟩
def n_Mo_writeGroup_at_l0_an : List an_T := [(2, [(0, (2, 0, 0, [165])), (1, (0, 0, 0, [])), (2, (0, 0, 24, []))], [], (0, 0), [(0, 0, 99998), (1, 5, 24), (0, 0, 100000)], [], [], [(2, 0, 0, [165]), (0, 0, 0, []), (0, 0, 87902919, [])], 0, [], [(20, [3, 2, 5], [30, 0, 1, 1, 170, (Int.negSucc 0), 0, 0, (Int.negSucc 35), 0, 0]), (24, [0, 3], [])]), (83, [(0, (2, 0, 0, [165])), (1, (0, 0, 0, [])), (2, (0, 1, 8, []))], [], (0, 0), [(0, 0, 99917), (1, 5, 8), (0, 0, 100000)], [], [], [(2, 0, 0, [165]), (0, 0, 0, []), (0, 0, 87902919, [])], 0, [], [(20, [3, 2, 5, 4], [30, (Int.negSucc 1727166), 1, 1, 170, (Int.negSucc 0), 0, 0, (Int.negSucc 1728030), 0, 0, 1728031, 0, 0]), (24, [0, 3], [])])]
def t_Mo_writeGroup_at_l0_ct : ct_L := [(1, 475, e_Mo_nodes), (1, 509, e_Mo_groups), (1, 723, e_Mo_size), (1, 725, e_Mo_groupOf), (1, 1285, e_Mo_writeName), (1, 1293, e_Mo_writeNode), (1, 1298, e_Mo_writeNumber), (82, 1290, e_Mo_write_at_s5013), (145, 1290, e_Mo_write_at_s5014), (193, 1290, e_Mo_write_at_s5045), (214, 1290, e_Mo_write_at_s5015), (355, 1290, e_Mo_write_at_s5016), (472, 1290, e_Mo_write_at_s5017), (487, 1309, e_Mo_writeGroup_at_l1), (508, 1290, e_Mo_write_at_s5018), (1000001, 1288, en_ro [] (2, 0, 0, [5013])), (1000001, 1296, en_ro [] (2, 0, 0, [5014])), (1000001, 1301, en_ro [] (2, 0, 0, [5045])), (1000001, 1303, en_ro [] (2, 0, 0, [5015])), (1000001, 1305, en_ro [] (2, 0, 0, [5016])), (1000001, 1307, en_ro [] (2, 0, 0, [5017])), (1000001, 1312, en_ro [] (2, 0, 0, [5018]))]
set_option maxRecDepth 100000 in
theorem c_Mo_writeGroup_at_l0 {l : Launch} {D : va_G} {kA : Nat → ClassId} (h_Mo_groupOf : ct_ok PRD l D kA GG y_Mo_groupOf z_Mo_groupOf e_Mo_groupOf) (h_Mo_groups : ct_ok PRD l D kA GG y_Mo_groups z_Mo_groups e_Mo_groups) (h_Mo_nodes : ct_ok PRD l D kA GG y_Mo_nodes z_Mo_nodes e_Mo_nodes) (h_Mo_size : ct_ok PRD l D kA GG y_Mo_size z_Mo_size e_Mo_size) (h_Mo_writeGroup_at_l1 : ct_ok PRD l D kA GG y_Mo_writeGroup_at_l1 z_Mo_writeGroup_at_l1 e_Mo_writeGroup_at_l1) (h_Mo_writeName : ct_ok PRD l D kA GG y_Mo_writeName z_Mo_writeName e_Mo_writeName) (h_Mo_writeNode : ct_ok PRD l D kA GG y_Mo_writeNode z_Mo_writeNode e_Mo_writeNode) (h_Mo_writeNumber : ct_ok PRD l D kA GG y_Mo_writeNumber z_Mo_writeNumber e_Mo_writeNumber) (h_Mo_write_at_s5013 : ct_ok PRD l D kA GG y_Mo_write_at_s5013 z_Mo_write_at_s5013 e_Mo_write_at_s5013) (h_Mo_write_at_s5014 : ct_ok PRD l D kA GG y_Mo_write_at_s5014 z_Mo_write_at_s5014 e_Mo_write_at_s5014) (h_Mo_write_at_s5015 : ct_ok PRD l D kA GG y_Mo_write_at_s5015 z_Mo_write_at_s5015 e_Mo_write_at_s5015) (h_Mo_write_at_s5016 : ct_ok PRD l D kA GG y_Mo_write_at_s5016 z_Mo_write_at_s5016 e_Mo_write_at_s5016) (h_Mo_write_at_s5017 : ct_ok PRD l D kA GG y_Mo_write_at_s5017 z_Mo_write_at_s5017 e_Mo_write_at_s5017) (h_Mo_write_at_s5018 : ct_ok PRD l D kA GG y_Mo_write_at_s5018 z_Mo_write_at_s5018 e_Mo_write_at_s5018) (h_Mo_write_at_s5045 : ct_ok PRD l D kA GG y_Mo_write_at_s5045 z_Mo_write_at_s5045 e_Mo_write_at_s5045) : ct_ok PRD l D kA GG y_Mo_writeGroup_at_l0 z_Mo_writeGroup_at_l0 e_Mo_writeGroup_at_l0 := chk_all_ok (FT := [(16, 13, 2), (391, 13, 5)]) (PT := []) (CT := t_Mo_writeGroup_at_l0_ct) (KT := []) (NT := []) (AN := n_Mo_writeGroup_at_l0_an) (OT := [o_Mo_writeGroup_at_l0_0, o_Mo_writeGroup_at_l0_1, o_Mo_writeGroup_at_l0_2, o_Mo_writeGroup_at_l0_3, o_Mo_writeGroup_at_l0_4, o_Mo_writeGroup_at_l0_5, o_Mo_writeGroup_at_l0_6, o_Mo_writeGroup_at_l0_7, o_Mo_writeGroup_at_l0_8, o_Mo_writeGroup_at_l0_9, o_Mo_writeGroup_at_l0_10, o_Mo_writeGroup_at_l0_11, o_Mo_writeGroup_at_l0_12, o_Mo_writeGroup_at_l0_13, o_Mo_writeGroup_at_l0_14, o_Mo_writeGroup_at_l0_15, o_Mo_writeGroup_at_l0_16, o_Mo_writeGroup_at_l0_17, o_Mo_writeGroup_at_l0_18, o_Mo_writeGroup_at_l0_19]) 3 408 (List.forall_mem_cons.mpr ⟨oo_Mo_writeGroup_at_l0_0, List.forall_mem_cons.mpr ⟨oo_Mo_writeGroup_at_l0_1, List.forall_mem_cons.mpr ⟨oo_Mo_writeGroup_at_l0_2, List.forall_mem_cons.mpr ⟨oo_Mo_writeGroup_at_l0_3, List.forall_mem_cons.mpr ⟨oo_Mo_writeGroup_at_l0_4, List.forall_mem_cons.mpr ⟨oo_Mo_writeGroup_at_l0_5, List.forall_mem_cons.mpr ⟨oo_Mo_writeGroup_at_l0_6, List.forall_mem_cons.mpr ⟨oo_Mo_writeGroup_at_l0_7, List.forall_mem_cons.mpr ⟨oo_Mo_writeGroup_at_l0_8, List.forall_mem_cons.mpr ⟨oo_Mo_writeGroup_at_l0_9, List.forall_mem_cons.mpr ⟨oo_Mo_writeGroup_at_l0_10, List.forall_mem_cons.mpr ⟨oo_Mo_writeGroup_at_l0_11, List.forall_mem_cons.mpr ⟨oo_Mo_writeGroup_at_l0_12, List.forall_mem_cons.mpr ⟨oo_Mo_writeGroup_at_l0_13, List.forall_mem_cons.mpr ⟨oo_Mo_writeGroup_at_l0_14, List.forall_mem_cons.mpr ⟨oo_Mo_writeGroup_at_l0_15, List.forall_mem_cons.mpr ⟨oo_Mo_writeGroup_at_l0_16, List.forall_mem_cons.mpr ⟨oo_Mo_writeGroup_at_l0_17, List.forall_mem_cons.mpr ⟨oo_Mo_writeGroup_at_l0_18, List.forall_mem_cons.mpr ⟨oo_Mo_writeGroup_at_l0_19, List.forall_mem_nil _⟩⟩⟩⟩⟩⟩⟩⟩⟩⟩⟩⟩⟩⟩⟩⟩⟩⟩⟩⟩) (by decide +kernel) ⟨List.forall_mem_cons.mpr ⟨gf_Mo_16, List.forall_mem_cons.mpr ⟨gf_Mo_391, List.forall_mem_nil _⟩⟩, List.forall_mem_nil _, List.forall_mem_cons.mpr ⟨cl_virtual (y := y_Mo_nodes) (ci := 13) rfl rfl ⟨_, _, rfl⟩ (by decide +kernel) h_Mo_nodes wm_3025 wm_9 wm_3022 wm_3024 wv_13_3 ⟨by decide, by decide, by decide +kernel⟩ (by decide), List.forall_mem_cons.mpr ⟨cl_virtual (y := y_Mo_groups) (ci := 13) rfl rfl ⟨_, _, rfl⟩ (by decide +kernel) h_Mo_groups wm_3070 wm_9 wm_3067 wm_3069 wv_13_14 ⟨by decide, by decide, by decide +kernel⟩ (by decide), List.forall_mem_cons.mpr ⟨cl_virtual (y := y_Mo_size) (ci := 13) rfl rfl ⟨_, _, rfl⟩ (by decide +kernel) h_Mo_size wm_3307 wm_9 wm_3304 wm_3306 wv_17_0 ⟨by decide, by decide, by decide +kernel⟩ (by decide), List.forall_mem_cons.mpr ⟨cl_virtual (y := y_Mo_groupOf) (ci := 13) rfl rfl ⟨_, _, rfl⟩ (by decide +kernel) h_Mo_groupOf wm_3311 wm_9 wm_3308 wm_3310 wv_17_1 ⟨by decide, by decide, by decide +kernel⟩ (by decide), List.forall_mem_cons.mpr ⟨cl_virtual (y := y_Mo_writeName) (ci := 13) rfl rfl ⟨_, _, rfl⟩ (by decide +kernel) h_Mo_writeName wm_3922 wm_9 wm_3919 wm_3921 wv_24_10 ⟨by decide, by decide, by decide +kernel⟩ (by decide), List.forall_mem_cons.mpr ⟨cl_virtual (y := y_Mo_writeNode) (ci := 13) rfl rfl ⟨_, _, rfl⟩ (by decide +kernel) h_Mo_writeNode wm_3918 wm_9 wm_3915 wm_3917 wv_24_9 ⟨by decide, by decide, by decide +kernel⟩ (by decide), List.forall_mem_cons.mpr ⟨cl_virtual (y := y_Mo_writeNumber) (ci := 13) rfl rfl ⟨_, _, rfl⟩ (by decide +kernel) h_Mo_writeNumber wm_3927 wm_9 wm_3924 wm_3926 wv_24_11 ⟨by decide, by decide, by decide +kernel⟩ (by decide), List.forall_mem_cons.mpr ⟨cl_virtual (y := y_Mo_write_at_s5013) (ci := 13) rfl rfl ⟨_, _, rfl⟩ (by decide +kernel) h_Mo_write_at_s5013 wm_3910 wm_9 wm_3907 wm_3909 wv_24_7 ⟨by decide, by decide, by decide +kernel⟩ (by decide), List.forall_mem_cons.mpr ⟨cl_virtual (y := y_Mo_write_at_s5014) (ci := 13) rfl rfl ⟨_, _, rfl⟩ (by decide +kernel) h_Mo_write_at_s5014 wm_3910 wm_9 wm_3907 wm_3909 wv_24_7 ⟨by decide, by decide, by decide +kernel⟩ (by decide), List.forall_mem_cons.mpr ⟨cl_virtual (y := y_Mo_write_at_s5045) (ci := 13) rfl rfl ⟨_, _, rfl⟩ (by decide +kernel) h_Mo_write_at_s5045 wm_3910 wm_9 wm_3907 wm_3909 wv_24_7 ⟨by decide, by decide, by decide +kernel⟩ (by decide), List.forall_mem_cons.mpr ⟨cl_virtual (y := y_Mo_write_at_s5015) (ci := 13) rfl rfl ⟨_, _, rfl⟩ (by decide +kernel) h_Mo_write_at_s5015 wm_3910 wm_9 wm_3907 wm_3909 wv_24_7 ⟨by decide, by decide, by decide +kernel⟩ (by decide), List.forall_mem_cons.mpr ⟨cl_virtual (y := y_Mo_write_at_s5016) (ci := 13) rfl rfl ⟨_, _, rfl⟩ (by decide +kernel) h_Mo_write_at_s5016 wm_3910 wm_9 wm_3907 wm_3909 wv_24_7 ⟨by decide, by decide, by decide +kernel⟩ (by decide), List.forall_mem_cons.mpr ⟨cl_virtual (y := y_Mo_write_at_s5017) (ci := 13) rfl rfl ⟨_, _, rfl⟩ (by decide +kernel) h_Mo_write_at_s5017 wm_3910 wm_9 wm_3907 wm_3909 wv_24_7 ⟨by decide, by decide, by decide +kernel⟩ (by decide), List.forall_mem_cons.mpr ⟨cl_virtual (y := y_Mo_writeGroup_at_l1) (ci := 13) rfl rfl ⟨_, _, rfl⟩ (by decide +kernel) h_Mo_writeGroup_at_l1 wm_3905 wm_9 wm_3902 wm_3904 wv_24_6 ⟨by decide, by decide, by decide +kernel⟩ (by decide), List.forall_mem_cons.mpr ⟨cl_virtual (y := y_Mo_write_at_s5018) (ci := 13) rfl rfl ⟨_, _, rfl⟩ (by decide +kernel) h_Mo_write_at_s5018 wm_3910 wm_9 wm_3907 wm_3909 wv_24_7 ⟨by decide, by decide, by decide +kernel⟩ (by decide), List.forall_mem_cons.mpr ⟨cl_ldcw (own := "DrawingHouseModel") (idx := 1288) (i := 13) (tx := "node ") (by decide +kernel) (by decide +kernel) (by decide +kernel), List.forall_mem_cons.mpr ⟨cl_ldcw (own := "DrawingHouseModel") (idx := 1296) (i := 14) (tx := " [size=") (by decide +kernel) (by decide +kernel) (by decide +kernel), List.forall_mem_cons.mpr ⟨cl_ldcw (own := "DrawingHouseModel") (idx := 1301) (i := 45) (tx := "]") (by decide +kernel) (by decide +kernel) (by decide +kernel), List.forall_mem_cons.mpr ⟨cl_ldcw (own := "DrawingHouseModel") (idx := 1303) (i := 15) (tx := ";\n") (by decide +kernel) (by decide +kernel) (by decide +kernel), List.forall_mem_cons.mpr ⟨cl_ldcw (own := "DrawingHouseModel") (idx := 1305) (i := 16) (tx := "group ") (by decide +kernel) (by decide +kernel) (by decide +kernel), List.forall_mem_cons.mpr ⟨cl_ldcw (own := "DrawingHouseModel") (idx := 1307) (i := 17) (tx := " {\n") (by decide +kernel) (by decide +kernel) (by decide +kernel), List.forall_mem_cons.mpr ⟨cl_ldcw (own := "DrawingHouseModel") (idx := 1312) (i := 18) (tx := "}\n") (by decide +kernel) (by decide +kernel) (by decide +kernel), List.forall_mem_nil _⟩⟩⟩⟩⟩⟩⟩⟩⟩⟩⟩⟩⟩⟩⟩⟩⟩⟩⟩⟩⟩⟩, List.forall_mem_nil _, List.forall_mem_nil _, GG_pl⟩ (by decide +kernel)

set_option maxHeartbeats 4000000 in
theorem vc_Mo_writeGroup_at_l1_0_0 (x2 : Int) (x3 : Int) (texts_0 : Int) (k2 : 0 ≤ x2 ∧ x2 ≤ 98271988) (k3 : 0 ≤ x3 ∧ x3 ≤ 0) (f0 : 1 * texts_0 + ((-1) * x2 + 0) ≤ 0) (kz_0_170 : 0 ≤ texts_0 ∧ texts_0 ≤ 100000000) : 1 * texts_0 + ((-1) * x2 + ((-36) * x3 + 0)) ≤ 0 := by
  first | assumption | omega | grind
def o_Mo_writeGroup_at_l1_0 : or_T := (2, 4, [(0, (2, 0, 0, [165])), (2, (0, 0, 98271988, [])), (3, (0, 0, 0, []))], [(20, [0, 2], [30, 0, 1, 1, 170, -1, 0, 0])], [], [], [(20, [0, 2, 3], [30, 0, 1, 1, 170, -1, 0, 0, -36, 0, 0]), (24, [0, 0], [])], [], [])
theorem oo_Mo_writeGroup_at_l1_0 {kA : Nat → ClassId} : or_ok PRD kA GG o_Mo_writeGroup_at_l1_0 := by
  refine or_mk fun A ta ws vs hD hth hl => ?_
  intro t0 r0 t2 k2 t3 k3 f0
  have kz_0_170 := fdq_11 hD hth r0
  have nf0 : fc_1 PRD (20, [0, 2, 3], [30, 0, 1, 1, 170, -1, 0, 0, -36, 0, 0]) ws (vs) := ⟨nf_in hl rfl, sgq_2035 (vc_Mo_writeGroup_at_l1_0_0 (v_iv (n_v vs 2)) (v_iv (n_v vs 3)) (w_fi ws (n_v vs 0) 170) k2 k3 (shm_131 f0) kz_0_170)⟩
  have nf1 : fc_1 PRD (24, [0, 0], []) ws (vs) := by
    refine ⟨nf_in hl rfl, sgq_1 ?_⟩
    · show n_v vs 0 = n_v vs 0
      first | rfl | simp only [true_and]
  refine ⟨(fun _ h => (by cases h)), [], trivial, ?_, (fun _ h => (by cases h))⟩
  rw [List.append_nil]
  exact List.forall_mem_cons.mpr ⟨⟨show (20 : Nat) < 100 from by decide, nf0⟩, List.forall_mem_cons.mpr ⟨⟨show (24 : Nat) < 100 from by decide, nf1⟩, (fun _ h => (by cases h))⟩⟩
set_option maxHeartbeats 4000000 in
theorem vc_Mo_writeGroup_at_l1_1_0 (x2 : Int) (x4 : Int) (x5 : Int) (x6 : Int) (x7 : Int) (x8 : Int) (all_0 : Int → Int) (r_0 : Int) (texts_0 : Int) (k2 : 0 ≤ x2 ∧ x2 ≤ 98271988) (k4 : 1 ≤ x4 ∧ x4 ≤ 7) (k5 : 0 ≤ x5 ∧ x5 ≤ 24) (k6 : 0 ≤ x6 ∧ x6 ≤ 24) (k7 : 1 ≤ x7 ∧ x7 ≤ 1) (k8 : 2 ≤ x8 ∧ x8 ≤ 8) (d0 : x4 + 1 ≤ x8 ∧ x8 ≤ x4 + 1) (d1 : x6 + 0 ≤ x5 ∧ x5 ≤ x6 + 4294967296) (f0 : x8 = x4 + x7) (f1 : x6 ≤ x5) (f2 : 1 * x6 + ((-1) * all_0 (r_0 + 0) + 0) ≤ 0) (f3 : (-1) * x6 + (1 * all_0 (r_0 + 0) + 0) ≤ 0) (f4 : 1 * texts_0 + ((-1) * x2 + ((-36) * x5 + 0)) ≤ 0) (kz_0_170 : 0 ≤ texts_0 ∧ texts_0 ≤ 100000000) : 1 * texts_0 + ((-1) * x2 + ((-287858) * x8 + (287858 * x4 + 0))) ≤ (-286994) := by
  first | assumption | omega | grind
def o_Mo_writeGroup_at_l1_1 : or_T := (83, 9, [(0, (2, 0, 0, [165])), (2, (0, 0, 98271988, [])), (4, (0, 1, 7, [])), (5, (0, 0, 24, [])), (6, (0, 0, 24, [])), (7, (0, 1, 1, [])), (8, (0, 2, 8, []))], [(1, [8, 4, 7], []), (7, [5, 6], [3]), (20, [6, 3], [30, 0, 1, 0, 0, -1, 3, 2005000]), (20, [6, 3], [30, 0, -1, 0, 0, 1, 3, 2005000]), (20, [3, 2, 5], [30, 0, 1, 1, 170, -1, 0, 0, -36, 0, 0]), (24, [0, 3], [])], [], [], [(20, [3, 2, 8, 4], [30, -286994, 1, 1, 170, -1, 0, 0, -287858, 0, 0, 287858, 0, 0])], [], [(8, 4, 1, 1), (5, 6, 0, 4294967296)])
theorem oo_Mo_writeGroup_at_l1_1 {kA : Nat → ClassId} : or_ok PRD kA GG o_Mo_writeGroup_at_l1_1 := by
  refine or_mk fun A ta ws vs hD hth hl => ?_
  intro t0 r0 t2 k2 t4 k4 t5 k5 t6 k6 t7 k7 t8 k8 d0 d1 f0 f1 f2 f3 f4 f5
  replace f0 := shm_12 f0
  replace f1 := shm_2 f1
  replace f2 := shm_126 f2
  replace f3 := shm_127 f3
  replace f4 := shm_2035 f4
  replace f5 := shm_5 f5
  have q3 : n_v vs 3 = n_v vs 0 := f5.symm
  simp only [q3] at f2 f3 f4
  have kz_0_170 := fdq_11 hD hth r0
  have nf0 : fc_1 PRD (20, [3, 2, 8, 4], [30, -286994, 1, 1, 170, -1, 0, 0, -287858, 0, 0, 287858, 0, 0]) ws (vs) := by
    refine ⟨nf_in hl rfl, sgq_2050 ?_⟩
    · show 1 * w_fi ws (n_v vs 3) 170 + ((-1) * v_iv (n_v vs 2) + ((-287858) * v_iv (n_v vs 8) + (287858 * v_iv (n_v vs 4) + 0))) ≤ (-286994)
      rw [q3]
      exact vc_Mo_writeGroup_at_l1_1_0 (v_iv (n_v vs 2)) (v_iv (n_v vs 4)) (v_iv (n_v vs 5)) (v_iv (n_v vs 6)) (v_iv (n_v vs 7)) (v_iv (n_v vs 8)) (w_ei ws (w_ar ws (n_v vs 0) 2)) (w_fi ws (n_v vs 0) 5) (w_fi ws (n_v vs 0) 170) k2 k4 k5 k6 k7 k8 d0 d1 f0 f1 f2 f3 f4 kz_0_170
  refine ⟨(fun _ h => (by cases h)), [], trivial, ?_, (fun _ h => (by cases h))⟩
  rw [List.append_nil]
  exact List.forall_mem_cons.mpr ⟨⟨show (20 : Nat) < 100 from by decide, nf0⟩, (fun _ h => (by cases h))⟩
set_option maxHeartbeats 4000000 in
theorem vc_Mo_writeGroup_at_l1_2_0 (x2 : Int) (x4 : Int) (x5 : Int) (x6 : Int) (x7 : Int) (all_0 : Int → Int) (r_0 : Int) (texts_0 : Int) (gx : Int) (k2 : 0 ≤ x2 ∧ x2 ≤ 98271988) (k4 : 1 ≤ x4 ∧ x4 ≤ 7) (k5 : 0 ≤ x5 ∧ x5 ≤ 23) (k6 : 1 ≤ x6 ∧ x6 ≤ 24) (k7 : 1 ≤ x7 ∧ x7 ≤ 7) (d0 : x4 + 0 ≤ x7 ∧ x7 ≤ x4 + 0) (d1 : x6 + (-4294967296) ≤ x5 ∧ x5 ≤ x6 + (-1)) (f0 : x7 = x4) (f1 : x7 = all_0 (((r_0 + 243) + x5))) (f2 : x5 < x6) (f3 : 1 * x6 + ((-1) * all_0 (r_0 + 0) + 0) ≤ 0) (f4 : (-1) * x6 + (1 * all_0 (r_0 + 0) + 0) ≤ 0) (f5 : 1 * texts_0 + ((-1) * x2 + ((-36) * x5 + 0)) ≤ 0) (kz_0_170 : 0 ≤ texts_0 ∧ texts_0 ≤ 100000000) (ex2 : gx = texts_0) (ex3 : 0 ≤ gx ∧ gx ≤ 99999995) : 1 * texts_0 + ((-1) * gx + 0) ≤ 0 := by
  first | assumption | omega | grind
set_option maxHeartbeats 4000000 in
theorem vc_Mo_writeGroup_at_l1_2_1 (x2 : Int) (x4 : Int) (x5 : Int) (x6 : Int) (x7 : Int) (all_0 : Int → Int) (r_0 : Int) (texts_0 : Int) (gx : Int) (k2 : 0 ≤ x2 ∧ x2 ≤ 98271988) (k4 : 1 ≤ x4 ∧ x4 ≤ 7) (k5 : 0 ≤ x5 ∧ x5 ≤ 23) (k6 : 1 ≤ x6 ∧ x6 ≤ 24) (k7 : 1 ≤ x7 ∧ x7 ≤ 7) (d0 : x4 + 0 ≤ x7 ∧ x7 ≤ x4 + 0) (d1 : x6 + (-4294967296) ≤ x5 ∧ x5 ≤ x6 + (-1)) (f0 : x7 = x4) (f1 : x7 = all_0 (((r_0 + 243) + x5))) (f2 : x5 < x6) (f3 : 1 * x6 + ((-1) * all_0 (r_0 + 0) + 0) ≤ 0) (f4 : (-1) * x6 + (1 * all_0 (r_0 + 0) + 0) ≤ 0) (f5 : 1 * texts_0 + ((-1) * x2 + ((-36) * x5 + 0)) ≤ 0) (kz_0_170 : 0 ≤ texts_0 ∧ texts_0 ≤ 100000000) (ex2 : gx = texts_0) (ex3 : 0 ≤ gx ∧ gx ≤ 99999995) : 1 * gx + ((-1) * x2 + ((-36) * x5 + 0)) ≤ 0 := by
  first | assumption | omega | grind
def o_Mo_writeGroup_at_l1_2 : or_T := (26, 9, [(0, (2, 0, 0, [165])), (2, (0, 0, 98271988, [])), (3, (2, 0, 0, [165])), (4, (0, 1, 7, [])), (5, (0, 0, 23, [])), (6, (0, 1, 24, [])), (7, (0, 1, 7, []))], [(7, [7, 4], [0]), (20, [7, 3, 5], [50, 1, 1, 1005, 1002, 1, 2, 1, 0, 3, 1, 2, 4, 7, 4, 3, 2, 1, 5, 0, 243, 1, 2]), (7, [5, 6], [2]), (20, [6, 3], [30, 0, 1, 0, 0, -1, 3, 2005000]), (20, [6, 3], [30, 0, -1, 0, 0, 1, 3, 2005000]), (20, [3, 2, 5], [30, 0, 1, 1, 170, -1, 0, 0, -36, 0, 0]), (24, [0, 3], [])], [], [(0, 0, 99999995, [])], [(20, [3, 9], [30, 0, 1, 1, 170, -1, 0, 0]), (23, [9, 2, 5], [0, 1, -1, -36])], [], [(7, 4, 0, 0), (5, 6, -4294967296, -1)])
theorem oo_Mo_writeGroup_at_l1_2 {kA : Nat → ClassId} : or_ok PRD kA GG o_Mo_writeGroup_at_l1_2 := by
  refine or_mk fun A ta ws vs hD hth hl => ?_
  intro t0 r0 t2 k2 t3 r3 t4 k4 t5 k5 t6 k6 t7 k7 d0 d1 f0 f1 f2 f3 f4 f5 f6
  replace f0 := shm_37 f0
  replace f1 := shm_597 f1
  replace f2 := shm_6 f2
  replace f3 := shm_126 f3
  replace f4 := shm_127 f4
  replace f5 := shm_2035 f5
  replace f6 := shm_5 f6
  have q3 : n_v vs 3 = n_v vs 0 := f6.symm
  simp only [q3] at f1 f3 f4 f5
  have cr_0_2 := fdq_10 hD hth r0
  have br_0_2_F5_0_0 : w_ei ws (w_ar ws (n_v vs 0) 2) (w_fi ws (n_v vs 0) 5 + 0) = w_el ws (w_ar ws (n_v vs 0) 2) (w_fi ws (n_v vs 0) 5 + 0).toNat := rfl
  have kz_0_170 := fdq_11 hD hth r0
  have kv0 := fdq_11 hD hth r0
  obtain ⟨x, ex, hx⟩ := iv_ex (ta := ta) (lo := 0) (hi := 99999995) (z := w_fi ws (n_v vs 0) 170) (by omega) (by omega) (by omega) (by omega)
  have ex2 : v_iv (Value.int x) = w_fi ws (n_v vs 0) 170 := ex
  have ex3 : 0 ≤ v_iv (Value.int x) ∧ v_iv (Value.int x) ≤ 99999995 := tv_rng hx
  have e_2 : n_v (vs ++ [Value.int x]) 2 = n_v vs 2 := n_v_old (by rw [hl]; decide)
  have e_3 : n_v (vs ++ [Value.int x]) 3 = n_v vs 3 := n_v_old (by rw [hl]; decide)
  have e_5 : n_v (vs ++ [Value.int x]) 5 = n_v vs 5 := n_v_old (by rw [hl]; decide)
  have e_9 : n_v (vs ++ [Value.int x]) 9 = Value.int x := n_v_new hl
  have nf0 : fc_1 PRD (20, [3, 9], [30, 0, 1, 1, 170, -1, 0, 0]) ws (vs ++ [Value.int x]) := by
    refine ⟨nf_inA hl rfl, sgq_131 ?_⟩
    · show 1 * w_fi ws (n_v (vs ++ [Value.int x]) 3) 170 + ((-1) * v_iv (n_v (vs ++ [Value.int x]) 9) + 0) ≤ 0
      simp only [e_3, e_9, q3]
      exact vc_Mo_writeGroup_at_l1_2_0 (v_iv (n_v vs 2)) (v_iv (n_v vs 4)) (v_iv (n_v vs 5)) (v_iv (n_v vs 6)) (v_iv (n_v vs 7)) (w_ei ws (w_ar ws (n_v vs 0) 2)) (w_fi ws (n_v vs 0) 5) (w_fi ws (n_v vs 0) 170) (v_iv (Value.int x)) k2 k4 k5 k6 k7 d0 d1 f0 f1 f2 f3 f4 f5 kz_0_170 ex2 ex3
  have nf1 : fc_1 PRD (23, [9, 2, 5], [0, 1, -1, -36]) ws (vs ++ [Value.int x]) := by
    refine ⟨nf_inA hl rfl, sgq_2037 ?_⟩
    · show 1 * v_iv (n_v (vs ++ [Value.int x]) 9) + ((-1) * v_iv (n_v (vs ++ [Value.int x]) 2) + ((-36) * v_iv (n_v (vs ++ [Value.int x]) 5) + 0)) ≤ 0
      simp only [e_2, e_5, e_9]
      exact vc_Mo_writeGroup_at_l1_2_1 (v_iv (n_v vs 2)) (v_iv (n_v vs 4)) (v_iv (n_v vs 5)) (v_iv (n_v vs 6)) (v_iv (n_v vs 7)) (w_ei ws (w_ar ws (n_v vs 0) 2)) (w_fi ws (n_v vs 0) 5) (w_fi ws (n_v vs 0) 170) (v_iv (Value.int x)) k2 k4 k5 k6 k7 d0 d1 f0 f1 f2 f3 f4 f5 kz_0_170 ex2 ex3
  exact ⟨(fun _ h => (by cases h)), [Value.int x], ag_one hx, List.forall_mem_cons.mpr ⟨⟨show (20 : Nat) < 100 from by decide, nf0⟩, List.forall_mem_cons.mpr ⟨⟨show (23 : Nat) < 100 from by decide, nf1⟩, (fun _ h => (by cases h))⟩⟩, (fun _ h => (by cases h))⟩
set_option maxHeartbeats 4000000 in
theorem vc_Mo_writeGroup_at_l1_3_0 (x2 : Int) (x4 : Int) (x5 : Int) (x6 : Int) (x7 : Int) (x9 : Int) (all_0 : Int → Int) (r_0 : Int) (texts_0 : Int) (gx : Int) (k2 : 0 ≤ x2 ∧ x2 ≤ 98271988) (k4 : 1 ≤ x4 ∧ x4 ≤ 7) (k5 : 0 ≤ x5 ∧ x5 ≤ 23) (k6 : 1 ≤ x6 ∧ x6 ≤ 24) (k7 : 1 ≤ x7 ∧ x7 ≤ 7) (k9 : 0 ≤ x9 ∧ x9 ≤ 99999995) (d0 : x4 + 0 ≤ x7 ∧ x7 ≤ x4 + 0) (d1 : x6 + (-4294967296) ≤ x5 ∧ x5 ≤ x6 + (-1)) (f0 : 1 * x9 + ((-1) * x2 + ((-36) * x5 + 0)) ≤ 0) (f1 : x7 = all_0 (((r_0 + 243) + x5))) (f2 : 1 * x6 + ((-1) * all_0 (r_0 + 0) + 0) ≤ 0) (f3 : (-1) * x6 + (1 * all_0 (r_0 + 0) + 0) ≤ 0) (f5 : 1 * texts_0 + ((-1) * x9 + 0) ≤ 5) (f7 : 1 * x9 + ((-1) * x2 + ((-36) * x5 + 0)) ≤ 0) (f8 : x7 = x4) (f9 : x5 < x6) (kz_0_170 : 0 ≤ texts_0 ∧ texts_0 ≤ 100000000) (ex2 : gx = texts_0) (ex3 : 0 ≤ gx ∧ gx ≤ 99999992) : 1 * texts_0 + ((-1) * gx + 0) ≤ 0 := by
  first | assumption | omega | grind
set_option maxHeartbeats 4000000 in
theorem vc_Mo_writeGroup_at_l1_3_1 (x2 : Int) (x4 : Int) (x5 : Int) (x6 : Int) (x7 : Int) (x9 : Int) (all_0 : Int → Int) (r_0 : Int) (texts_0 : Int) (gx : Int) (k2 : 0 ≤ x2 ∧ x2 ≤ 98271988) (k4 : 1 ≤ x4 ∧ x4 ≤ 7) (k5 : 0 ≤ x5 ∧ x5 ≤ 23) (k6 : 1 ≤ x6 ∧ x6 ≤ 24) (k7 : 1 ≤ x7 ∧ x7 ≤ 7) (k9 : 0 ≤ x9 ∧ x9 ≤ 99999995) (d0 : x4 + 0 ≤ x7 ∧ x7 ≤ x4 + 0) (d1 : x6 + (-4294967296) ≤ x5 ∧ x5 ≤ x6 + (-1)) (f0 : 1 * x9 + ((-1) * x2 + ((-36) * x5 + 0)) ≤ 0) (f1 : x7 = all_0 (((r_0 + 243) + x5))) (f2 : 1 * x6 + ((-1) * all_0 (r_0 + 0) + 0) ≤ 0) (f3 : (-1) * x6 + (1 * all_0 (r_0 + 0) + 0) ≤ 0) (f5 : 1 * texts_0 + ((-1) * x9 + 0) ≤ 5) (f7 : 1 * x9 + ((-1) * x2 + ((-36) * x5 + 0)) ≤ 0) (f8 : x7 = x4) (f9 : x5 < x6) (kz_0_170 : 0 ≤ texts_0 ∧ texts_0 ≤ 100000000) (ex2 : gx = texts_0) (ex3 : 0 ≤ gx ∧ gx ≤ 99999992) : 1 * gx + ((-1) * x2 + ((-36) * x5 + 0)) ≤ 5 := by
  first | assumption | omega | grind
def o_Mo_writeGroup_at_l1_3 : or_T := (31, 10, [(0, (2, 0, 0, [165])), (2, (0, 0, 98271988, [])), (3, (2, 0, 0, [165])), (4, (0, 1, 7, [])), (5, (0, 0, 23, [])), (6, (0, 1, 24, [])), (7, (0, 1, 7, [])), (9, (0, 0, 99999995, []))], [(23, [9, 2, 5], [0, 1, -1, -36]), (20, [7, 3, 5], [50, 1, 1, 1005, 1002, 1, 2, 1, 0, 3, 1, 2, 4, 7, 4, 3, 2, 1, 5, 0, 243, 1, 2]), (20, [6, 3], [30, 0, 1, 0, 0, -1, 3, 2005000]), (20, [6, 3], [30, 0, -1, 0, 0, 1, 3, 2005000]), (24, [0, 3], []), (20, [3, 9], [30, 5, 1, 1, 170, -1, 0, 0]), (102, [9], [7770675568902916283677847627294075626569627356208558085007249638955617140820833992704, 165170]), (23, [9, 2, 5], [0, 1, -1, -36]), (7, [7, 4], [0]), (7, [5, 6], [2])], [], [(0, 0, 99999992, [])], [(20, [3, 10], [30, 0, 1, 1, 170, -1, 0, 0]), (23, [10, 2, 5], [5, 1, -1, -36])], [], [(7, 4, 0, 0), (5, 6, -4294967296, -1)])
theorem oo_Mo_writeGroup_at_l1_3 {kA : Nat → ClassId} : or_ok PRD kA GG o_Mo_writeGroup_at_l1_3 := by
  refine or_mk fun A ta ws vs hD hth hl => ?_
  intro t0 r0 t2 k2 t3 r3 t4 k4 t5 k5 t6 k6 t7 k7 t9 k9 d0 d1 f0 f1 f2 f3 f4 f5 ta1 w1 le1 s1 f7 f8 f9
  replace f0 := shm_2037 f0
  replace f1 := shm_597 f1
  replace f2 := shm_126 f2
  replace f3 := shm_127 f3
  replace f4 := shm_5 f4
  replace f5 := shm_208 f5
  replace f7 := shm_2037 f7
  replace f8 := shm_37 f8
  replace f9 := shm_6 f9
  have q3 : n_v vs 3 = n_v vs 0 := f4.symm
  simp only [q3] at f1 f2 f3 f5
  have cr_0_2 := fdq_10 hD hth r0
  have br_0_2_F5_0_0 : w_ei ws (w_ar ws (n_v vs 0) 2) (w_fi ws (n_v vs 0) 5 + 0) = w_el ws (w_ar ws (n_v vs 0) 2) (w_fi ws (n_v vs 0) 5 + 0).toNat := rfl
  have kz_0_170 := fdq_11 hD hth r0
  have kv0 := fdq_11 hD hth r0
  obtain ⟨x, ex, hx⟩ := iv_ex (ta := ta) (lo := 0) (hi := 99999992) (z := w_fi ws (n_v vs 0) 170) (by omega) (by omega) (by omega) (by omega)
  have ex2 : v_iv (Value.int x) = w_fi ws (n_v vs 0) 170 := ex
  have ex3 : 0 ≤ v_iv (Value.int x) ∧ v_iv (Value.int x) ≤ 99999992 := tv_rng hx
  have e_2 : n_v (vs ++ [Value.int x]) 2 = n_v vs 2 := n_v_old (by rw [hl]; decide)
  have e_3 : n_v (vs ++ [Value.int x]) 3 = n_v vs 3 := n_v_old (by rw [hl]; decide)
  have e_5 : n_v (vs ++ [Value.int x]) 5 = n_v vs 5 := n_v_old (by rw [hl]; decide)
  have e_10 : n_v (vs ++ [Value.int x]) 10 = Value.int x := n_v_new hl
  have nf0 : fc_1 PRD (20, [3, 10], [30, 0, 1, 1, 170, -1, 0, 0]) ws (vs ++ [Value.int x]) := by
    refine ⟨nf_inA hl rfl, sgq_131 ?_⟩
    · show 1 * w_fi ws (n_v (vs ++ [Value.int x]) 3) 170 + ((-1) * v_iv (n_v (vs ++ [Value.int x]) 10) + 0) ≤ 0
      simp only [e_3, e_10, q3]
      exact vc_Mo_writeGroup_at_l1_3_0 (v_iv (n_v vs 2)) (v_iv (n_v vs 4)) (v_iv (n_v vs 5)) (v_iv (n_v vs 6)) (v_iv (n_v vs 7)) (v_iv (n_v vs 9)) (w_ei ws (w_ar ws (n_v vs 0) 2)) (w_fi ws (n_v vs 0) 5) (w_fi ws (n_v vs 0) 170) (v_iv (Value.int x)) k2 k4 k5 k6 k7 k9 d0 d1 f0 f1 f2 f3 f5 f7 f8 f9 kz_0_170 ex2 ex3
  have nf1 : fc_1 PRD (23, [10, 2, 5], [5, 1, -1, -36]) ws (vs ++ [Value.int x]) := by
    refine ⟨nf_inA hl rfl, sgq_2038 ?_⟩
    · show 1 * v_iv (n_v (vs ++ [Value.int x]) 10) + ((-1) * v_iv (n_v (vs ++ [Value.int x]) 2) + ((-36) * v_iv (n_v (vs ++ [Value.int x]) 5) + 0)) ≤ 5
      simp only [e_2, e_5, e_10]
      exact vc_Mo_writeGroup_at_l1_3_1 (v_iv (n_v vs 2)) (v_iv (n_v vs 4)) (v_iv (n_v vs 5)) (v_iv (n_v vs 6)) (v_iv (n_v vs 7)) (v_iv (n_v vs 9)) (w_ei ws (w_ar ws (n_v vs 0) 2)) (w_fi ws (n_v vs 0) 5) (w_fi ws (n_v vs 0) 170) (v_iv (Value.int x)) k2 k4 k5 k6 k7 k9 d0 d1 f0 f1 f2 f3 f5 f7 f8 f9 kz_0_170 ex2 ex3
  exact ⟨(fun _ h => (by cases h)), [Value.int x], ag_one hx, List.forall_mem_cons.mpr ⟨⟨show (20 : Nat) < 100 from by decide, nf0⟩, List.forall_mem_cons.mpr ⟨⟨show (23 : Nat) < 100 from by decide, nf1⟩, (fun _ h => (by cases h))⟩⟩, (fun _ h => (by cases h))⟩
set_option maxHeartbeats 4000000 in
theorem vc_Mo_writeGroup_at_l1_4_0 (x2 : Int) (x4 : Int) (x5 : Int) (x6 : Int) (x7 : Int) (x9 : Int) (x10 : Int) (x11 : Int) (x12 : Int) (all_0 : Int → Int) (r_0 : Int) (texts_0 : Int) (gx : Int) (k2 : 0 ≤ x2 ∧ x2 ≤ 98271988) (k4 : 1 ≤ x4 ∧ x4 ≤ 7) (k5 : 0 ≤ x5 ∧ x5 ≤ 23) (k6 : 1 ≤ x6 ∧ x6 ≤ 24) (k7 : 1 ≤ x7 ∧ x7 ≤ 7) (k9 : 0 ≤ x9 ∧ x9 ≤ 99999995) (k10 : 0 ≤ x10 ∧ x10 ≤ 99999992) (k11 : 0 ≤ x11 ∧ x11 ≤ 1) (k12 : 1 ≤ x12 ∧ x12 ≤ 1) (d0 : x4 + 0 ≤ x7 ∧ x7 ≤ x4 + 0) (d1 : x6 + (-4294967296) ≤ x5 ∧ x5 ≤ x6 + (-1)) (f0 : x11 ≤ x12) (f1 : x11 = all_0 (((r_0 + 219) + x5))) (f2 : 1 * x10 + ((-1) * x2 + ((-36) * x5 + 0)) ≤ 5) (f3 : 1 * x9 + ((-1) * x2 + ((-36) * x5 + 0)) ≤ 0) (f4 : x7 = all_0 (((r_0 + 243) + x5))) (f5 : 1 * x6 + ((-1) * all_0 (r_0 + 0) + 0) ≤ 0) (f6 : (-1) * x6 + (1 * all_0 (r_0 + 0) + 0) ≤ 0) (f8 : 1 * texts_0 + ((-1) * x10 + 0) ≤ 8) (f10 : 1 * x10 + ((-1) * x2 + ((-36) * x5 + 0)) ≤ 5) (f11 : 1 * x9 + ((-1) * x2 + ((-36) * x5 + 0)) ≤ 0) (f13 : 1 * x9 + ((-1) * x2 + ((-36) * x5 + 0)) ≤ 0) (f14 : x7 = x4) (f15 : x5 < x6) (kz_0_170 : 0 ≤ texts_0 ∧ texts_0 ≤ 100000000) (ex2 : gx = texts_0) (ex3 : 0 ≤ gx ∧ gx ≤ 99999998) : 1 * texts_0 + ((-1) * gx + 0) ≤ 0 := by
  first | assumption | omega | grind
set_option maxHeartbeats 4000000 in
theorem vc_Mo_writeGroup_at_l1_4_1 (x2 : Int) (x4 : Int) (x5 : Int) (x6 : Int) (x7 : Int) (x9 : Int) (x10 : Int) (x11 : Int) (x12 : Int) (all_0 : Int → Int) (r_0 : Int) (texts_0 : Int) (gx : Int) (k2 : 0 ≤ x2 ∧ x2 ≤ 98271988) (k4 : 1 ≤ x4 ∧ x4 ≤ 7) (k5 : 0 ≤ x5 ∧ x5 ≤ 23) (k6 : 1 ≤ x6 ∧ x6 ≤ 24) (k7 : 1 ≤ x7 ∧ x7 ≤ 7) (k9 : 0 ≤ x9 ∧ x9 ≤ 99999995) (k10 : 0 ≤ x10 ∧ x10 ≤ 99999992) (k11 : 0 ≤ x11 ∧ x11 ≤ 1) (k12 : 1 ≤ x12 ∧ x12 ≤ 1) (d0 : x4 + 0 ≤ x7 ∧ x7 ≤ x4 + 0) (d1 : x6 + (-4294967296) ≤ x5 ∧ x5 ≤ x6 + (-1)) (f0 : x11 ≤ x12) (f1 : x11 = all_0 (((r_0 + 219) + x5))) (f2 : 1 * x10 + ((-1) * x2 + ((-36) * x5 + 0)) ≤ 5) (f3 : 1 * x9 + ((-1) * x2 + ((-36) * x5 + 0)) ≤ 0) (f4 : x7 = all_0 (((r_0 + 243) + x5))) (f5 : 1 * x6 + ((-1) * all_0 (r_0 + 0) + 0) ≤ 0) (f6 : (-1) * x6 + (1 * all_0 (r_0 + 0) + 0) ≤ 0) (f8 : 1 * texts_0 + ((-1) * x10 + 0) ≤ 8) (f10 : 1 * x10 + ((-1) * x2 + ((-36) * x5 + 0)) ≤ 5) (f11 : 1 * x9 + ((-1) * x2 + ((-36) * x5 + 0)) ≤ 0) (f13 : 1 * x9 + ((-1) * x2 + ((-36) * x5 + 0)) ≤ 0) (f14 : x7 = x4) (f15 : x5 < x6) (kz_0_170 : 0 ≤ texts_0 ∧ texts_0 ≤ 100000000) (ex2 : gx = texts_0) (ex3 : 0 ≤ gx ∧ gx ≤ 99999998) : 1 * gx + ((-1) * x2 + ((-36) * x5 + 0)) ≤ 34 := by
  first | assumption | omega | grind
def o_Mo_writeGroup_at_l1_4 : or_T := (70, 14, [(0, (2, 0, 0, [165])), (2, (0, 0, 98271988, [])), (3, (2, 0, 0, [165])), (4, (0, 1, 7, [])), (5, (0, 0, 23, [])), (6, (0, 1, 24, [])), (7, (0, 1, 7, [])), (9, (0, 0, 99999995, [])), (10, (0, 0, 99999992, [])), (11, (0, 0, 1, [])), (12, (0, 1, 1, []))], [(7, [11, 12], [5]), (20, [11, 3, 5], [50, 1, 1, 1005, 1002, 1, 2, 1, 0, 3, 1, 2, 4, 7, 4, 3, 2, 1, 5, 0, 219, 1, 2]), (23, [10, 2, 5], [5, 1, -1, -36]), (23, [9, 2, 5], [0, 1, -1, -36]), (20, [7, 3, 5], [50, 1, 1, 1005, 1002, 1, 2, 1, 0, 3, 1, 2, 4, 7, 4, 3, 2, 1, 5, 0, 243, 1, 2]), (20, [6, 3], [30, 0, 1, 0, 0, -1, 3, 2005000]), (20, [6, 3], [30, 0, -1, 0, 0, 1, 3, 2005000]), (24, [0, 3], []), (20, [3, 10], [30, 8, 1, 1, 170, -1, 0, 0]), (102, [10], [7770675568902916283677847627294075626569627356208558085007249638955617140820833992704, 165170]), (23, [10, 2, 5], [5, 1, -1, -36]), (23, [9, 2, 5], [0, 1, -1, -36]), (102, [9], [7770675568902916283677847627294075626569627356208558085007249638955617140820833992704, 165170]), (23, [9, 2, 5], [0, 1, -1, -36]), (7, [7, 4], [0]), (7, [5, 6], [2])], [], [(0, 0, 99999998, [])], [(20, [3, 14], [30, 0, 1, 1, 170, -1, 0, 0]), (23, [14, 2, 5], [34, 1, -1, -36])], [], [(7, 4, 0, 0), (5, 6, -4294967296, -1)])
theorem oo_Mo_writeGroup_at_l1_4 {kA : Nat → ClassId} : or_ok PRD kA GG o_Mo_writeGroup_at_l1_4 := by
  refine or_mk fun A ta ws vs hD hth hl => ?_
  intro t0 r0 t2 k2 t3 r3 t4 k4 t5 k5 t6 k6 t7 k7 t9 k9 t10 k10 t11 k11 t12 k12 d0 d1 f0 f1 f2 f3 f4 f5 f6 f7 f8 ta1 w1 le1 s1 f10 f11 ta2 w2 le2 s2 f13 f14 f15
  replace f0 := shm_24 f0
  replace f1 := shm_732 f1
  replace f2 := shm_2038 f2
  replace f3 := shm_2037 f3
  replace f4 := shm_597 f4
  replace f5 := shm_126 f5
  replace f6 := shm_127 f6
  replace f7 := shm_5 f7
  replace f8 := shm_160 f8
  replace f10 := shm_2038 f10
  replace f11 := shm_2037 f11
  replace f13 := shm_2037 f13
  replace f14 := shm_37 f14
  replace f15 := shm_6 f15
  have q3 : n_v vs 3 = n_v vs 0 := f7.symm
  simp only [q3] at f1 f4 f5 f6 f8
  have cr_0_2 := fdq_10 hD hth r0
  have br_0_2_F5_0_0 : w_ei ws (w_ar ws (n_v vs 0) 2) (w_fi ws (n_v vs 0) 5 + 0) = w_el ws (w_ar ws (n_v vs 0) 2) (w_fi ws (n_v vs 0) 5 + 0).toNat := rfl
  have kz_0_170 := fdq_11 hD hth r0
  have kv0 := fdq_11 hD hth r0
  obtain ⟨x, ex, hx⟩ := iv_ex (ta := ta) (lo := 0) (hi := 99999998) (z := w_fi ws (n_v vs 0) 170) (by omega) (by omega) (by omega) (by omega)
  have ex2 : v_iv (Value.int x) = w_fi ws (n_v vs 0) 170 := ex
  have ex3 : 0 ≤ v_iv (Value.int x) ∧ v_iv (Value.int x) ≤ 99999998 := tv_rng hx
  have e_2 : n_v (vs ++ [Value.int x]) 2 = n_v vs 2 := n_v_old (by rw [hl]; decide)
  have e_3 : n_v (vs ++ [Value.int x]) 3 = n_v vs 3 := n_v_old (by rw [hl]; decide)
  have e_5 : n_v (vs ++ [Value.int x]) 5 = n_v vs 5 := n_v_old (by rw [hl]; decide)
  have e_14 : n_v (vs ++ [Value.int x]) 14 = Value.int x := n_v_new hl
  have nf0 : fc_1 PRD (20, [3, 14], [30, 0, 1, 1, 170, -1, 0, 0]) ws (vs ++ [Value.int x]) := by
    refine ⟨nf_inA hl rfl, sgq_131 ?_⟩
    · show 1 * w_fi ws (n_v (vs ++ [Value.int x]) 3) 170 + ((-1) * v_iv (n_v (vs ++ [Value.int x]) 14) + 0) ≤ 0
      simp only [e_3, e_14, q3]
      exact vc_Mo_writeGroup_at_l1_4_0 (v_iv (n_v vs 2)) (v_iv (n_v vs 4)) (v_iv (n_v vs 5)) (v_iv (n_v vs 6)) (v_iv (n_v vs 7)) (v_iv (n_v vs 9)) (v_iv (n_v vs 10)) (v_iv (n_v vs 11)) (v_iv (n_v vs 12)) (w_ei ws (w_ar ws (n_v vs 0) 2)) (w_fi ws (n_v vs 0) 5) (w_fi ws (n_v vs 0) 170) (v_iv (Value.int x)) k2 k4 k5 k6 k7 k9 k10 k11 k12 d0 d1 f0 f1 f2 f3 f4 f5 f6 f8 f10 f11 f13 f14 f15 kz_0_170 ex2 ex3
  have nf1 : fc_1 PRD (23, [14, 2, 5], [34, 1, -1, -36]) ws (vs ++ [Value.int x]) := by
    refine ⟨nf_inA hl rfl, sgq_2039 ?_⟩
    · show 1 * v_iv (n_v (vs ++ [Value.int x]) 14) + ((-1) * v_iv (n_v (vs ++ [Value.int x]) 2) + ((-36) * v_iv (n_v (vs ++ [Value.int x]) 5) + 0)) ≤ 34
      simp only [e_2, e_5, e_14]
      exact vc_Mo_writeGroup_at_l1_4_1 (v_iv (n_v vs 2)) (v_iv (n_v vs 4)) (v_iv (n_v vs 5)) (v_iv (n_v vs 6)) (v_iv (n_v vs 7)) (v_iv (n_v vs 9)) (v_iv (n_v vs 10)) (v_iv (n_v vs 11)) (v_iv (n_v vs 12)) (w_ei ws (w_ar ws (n_v vs 0) 2)) (w_fi ws (n_v vs 0) 5) (w_fi ws (n_v vs 0) 170) (v_iv (Value.int x)) k2 k4 k5 k6 k7 k9 k10 k11 k12 d0 d1 f0 f1 f2 f3 f4 f5 f6 f8 f10 f11 f13 f14 f15 kz_0_170 ex2 ex3
  exact ⟨(fun _ h => (by cases h)), [Value.int x], ag_one hx, List.forall_mem_cons.mpr ⟨⟨show (20 : Nat) < 100 from by decide, nf0⟩, List.forall_mem_cons.mpr ⟨⟨show (23 : Nat) < 100 from by decide, nf1⟩, (fun _ h => (by cases h))⟩⟩, (fun _ h => (by cases h))⟩
set_option maxHeartbeats 4000000 in
theorem vc_Mo_writeGroup_at_l1_5_0 (x2 : Int) (x4 : Int) (x5 : Int) (x6 : Int) (x7 : Int) (x9 : Int) (x10 : Int) (x11 : Int) (x12 : Int) (x14 : Int) (x15 : Int) (all_0 : Int → Int) (r_0 : Int) (texts_0 : Int) (k2 : 0 ≤ x2 ∧ x2 ≤ 98271988) (k4 : 1 ≤ x4 ∧ x4 ≤ 7) (k5 : 0 ≤ x5 ∧ x5 ≤ 23) (k6 : 1 ≤ x6 ∧ x6 ≤ 24) (k7 : 1 ≤ x7 ∧ x7 ≤ 7) (k9 : 0 ≤ x9 ∧ x9 ≤ 99999995) (k10 : 0 ≤ x10 ∧ x10 ≤ 99999992) (k11 : 0 ≤ x11 ∧ x11 ≤ 1) (k12 : 1 ≤ x12 ∧ x12 ≤ 1) (k14 : 0 ≤ x14 ∧ x14 ≤ 99999998) (k15 : 1 ≤ x15 ∧ x15 ≤ 24) (d0 : x5 + 1 ≤ x15 ∧ x15 ≤ x5 + 1) (d1 : x6 + (-4294967296) ≤ x15 ∧ x15 ≤ x6 + 0) (d2 : x4 + 0 ≤ x7 ∧ x7 ≤ x4 + 0) (d3 : x6 + (-4294967296) ≤ x5 ∧ x5 ≤ x6 + (-1)) (f0 : x15 = x5 + 1) (f1 : 1 * x14 + ((-1) * x2 + ((-36) * x5 + 0)) ≤ 34) (f2 : x11 = all_0 (((r_0 + 219) + x5))) (f3 : 1 * x10 + ((-1) * x2 + ((-36) * x5 + 0)) ≤ 5) (f4 : 1 * x9 + ((-1) * x2 + ((-36) * x5 + 0)) ≤ 0) (f5 : x7 = all_0 (((r_0 + 243) + x5))) (f6 : 1 * x6 + ((-1) * all_0 (r_0 + 0) + 0) ≤ 0) (f7 : (-1) * x6 + (1 * all_0 (r_0 + 0) + 0) ≤ 0) (f9 : 1 * texts_0 + ((-1) * x14 + 0) ≤ 2) (f11 : 1 * x14 + ((-1) * x2 + ((-36) * x5 + 0)) ≤ 34) (f12 : x11 ≤ x12) (f13 : 1 * x10 + ((-1) * x2 + ((-36) * x5 + 0)) ≤ 5) (f14 : 1 * x9 + ((-1) * x2 + ((-36) * x5 + 0)) ≤ 0) (f16 : 1 * x10 + ((-1) * x2 + ((-36) * x5 + 0)) ≤ 5) (f17 : 1 * x9 + ((-1) * x2 + ((-36) * x5 + 0)) ≤ 0) (f19 : 1 * x9 + ((-1) * x2 + ((-36) * x5 + 0)) ≤ 0) (f20 : x7 = x4) (f21 : x5 < x6) (kz_0_170 : 0 ≤ texts_0 ∧ texts_0 ≤ 100000000) : 1 * texts_0 + ((-1) * x2 + ((-36) * x15 + 0)) ≤ 0 := by
  first | assumption | omega | grind
def o_Mo_writeGroup_at_l1_5 : or_T := (2, 16, [(0, (2, 0, 0, [165])), (2, (0, 0, 98271988, [])), (4, (0, 1, 7, [])), (5, (0, 0, 23, [])), (6, (0, 1, 24, [])), (7, (0, 1, 7, [])), (9, (0, 0, 99999995, [])), (10, (0, 0, 99999992, [])), (11, (0, 0, 1, [])), (12, (0, 1, 1, [])), (14, (0, 0, 99999998, [])), (15, (0, 1, 24, []))], [(6, [15, 5], [1]), (23, [14, 2, 5], [34, 1, -1, -36]), (20, [11, 3, 5], [50, 1, 1, 1005, 1002, 1, 2, 1, 0, 3, 1, 2, 4, 7, 4, 3, 2, 1, 5, 0, 219, 1, 2]), (23, [10, 2, 5], [5, 1, -1, -36]), (23, [9, 2, 5], [0, 1, -1, -36]), (20, [7, 3, 5], [50, 1, 1, 1005, 1002, 1, 2, 1, 0, 3, 1, 2, 4, 7, 4, 3, 2, 1, 5, 0, 243, 1, 2]), (20, [6, 3], [30, 0, 1, 0, 0, -1, 3, 2005000]), (20, [6, 3], [30, 0, -1, 0, 0, 1, 3, 2005000]), (24, [0, 3], []), (20, [3, 14], [30, 2, 1, 1, 170, -1, 0, 0]), (102, [14], [7770675568902916283677847627294075626569627356208558085007249638955617140820833992704, 165170]), (23, [14, 2, 5], [34, 1, -1, -36]), (7, [11, 12], [5]), (23, [10, 2, 5], [5, 1, -1, -36]), (23, [9, 2, 5], [0, 1, -1, -36]), (102, [10], [7770675568902916283677847627294075626569627356208558085007249638955617140820833992704, 165170]), (23, [10, 2, 5], [5, 1, -1, -36]), (23, [9, 2, 5], [0, 1, -1, -36]), (102, [9], [7770675568902916283677847627294075626569627356208558085007249638955617140820833992704, 165170]), (23, [9, 2, 5], [0, 1, -1, -36]), (7, [7, 4], [0]), (7, [5, 6], [2])], [], [], [(20, [3, 2, 15], [30, 0, 1, 1, 170, -1, 0, 0, -36, 0, 0])], [], [(15, 5, 1, 1), (15, 6, -4294967296, 0), (7, 4, 0, 0), (5, 6, -4294967296, -1)])
theorem oo_Mo_writeGroup_at_l1_5 {kA : Nat → ClassId} : or_ok PRD kA GG o_Mo_writeGroup_at_l1_5 := by
  refine or_mk fun A ta ws vs hD hth hl => ?_
  intro t0 r0 t2 k2 t4 k4 t5 k5 t6 k6 t7 k7 t9 k9 t10 k10 t11 k11 t12 k12 t14 k14 t15 k15 d0 d1 d2 d3 f0 f1 f2 f3 f4 f5 f6 f7 f8 f9 ta1 w1 le1 s1 f11 f12 f13 f14 ta2 w2 le2 s2 f16 f17 ta3 w3 le3 s3 f19 f20 f21
  replace f0 := shm_4 f0
  replace f1 := shm_2039 f1
  replace f2 := shm_732 f2
  replace f3 := shm_2038 f3
  replace f4 := shm_2037 f4
  replace f5 := shm_597 f5
  replace f6 := shm_126 f6
  replace f7 := shm_127 f7
  replace f8 := shm_5 f8
  replace f9 := shm_210 f9
  replace f11 := shm_2039 f11
  replace f12 := shm_24 f12
  replace f13 := shm_2038 f13
  replace f14 := shm_2037 f14
  replace f16 := shm_2038 f16
  replace f17 := shm_2037 f17
  replace f19 := shm_2037 f19
  replace f20 := shm_37 f20
  replace f21 := shm_6 f21
  have q3 : n_v vs 3 = n_v vs 0 := f8.symm
  simp only [q3] at f2 f5 f6 f7 f9
  have kz_0_170 := fdq_11 hD hth r0
  have nf0 : fc_1 PRD (20, [3, 2, 15], [30, 0, 1, 1, 170, -1, 0, 0, -36, 0, 0]) ws (vs) := by
    refine ⟨nf_in hl rfl, sgq_2035 ?_⟩
    · show 1 * w_fi ws (n_v vs 3) 170 + ((-1) * v_iv (n_v vs 2) + ((-36) * v_iv (n_v vs 15) + 0)) ≤ 0
      rw [q3]
      exact vc_Mo_writeGroup_at_l1_5_0 (v_iv (n_v vs 2)) (v_iv (n_v vs 4)) (v_iv (n_v vs 5)) (v_iv (n_v vs 6)) (v_iv (n_v vs 7)) (v_iv (n_v vs 9)) (v_iv (n_v vs 10)) (v_iv (n_v vs 11)) (v_iv (n_v vs 12)) (v_iv (n_v vs 14)) (v_iv (n_v vs 15)) (w_ei ws (w_ar ws (n_v vs 0) 2)) (w_fi ws (n_v vs 0) 5) (w_fi ws (n_v vs 0) 170) k2 k4 k5 k6 k7 k9 k10 k11 k12 k14 k15 d0 d1 d2 d3 f0 f1 f2 f3 f4 f5 f6 f7 f9 f11 f12 f13 f14 f16 f17 f19 f20 f21 kz_0_170
  refine ⟨(fun _ h => (by cases h)), [], trivial, ?_, (fun _ h => (by cases h))⟩
  rw [List.append_nil]
  exact List.forall_mem_cons.mpr ⟨⟨show (20 : Nat) < 100 from by decide, nf0⟩, (fun _ h => (by cases h))⟩
set_option maxHeartbeats 4000000 in
theorem vc_Mo_writeGroup_at_l1_6_0 (x2 : Int) (x4 : Int) (x5 : Int) (x6 : Int) (x7 : Int) (x9 : Int) (x10 : Int) (x11 : Int) (x12 : Int) (all_0 : Int → Int) (r_0 : Int) (texts_0 : Int) (gx : Int) (k2 : 0 ≤ x2 ∧ x2 ≤ 98271988) (k4 : 1 ≤ x4 ∧ x4 ≤ 7) (k5 : 0 ≤ x5 ∧ x5 ≤ 23) (k6 : 1 ≤ x6 ∧ x6 ≤ 24) (k7 : 1 ≤ x7 ∧ x7 ≤ 7) (k9 : 0 ≤ x9 ∧ x9 ≤ 99999995) (k10 : 0 ≤ x10 ∧ x10 ≤ 99999992) (k11 : 2 ≤ x11 ∧ x11 ≤ 99) (k12 : 1 ≤ x12 ∧ x12 ≤ 1) (d0 : x4 + 0 ≤ x7 ∧ x7 ≤ x4 + 0) (d1 : x6 + (-4294967296) ≤ x5 ∧ x5 ≤ x6 + (-1)) (f0 : x12 < x11) (f1 : x11 = all_0 (((r_0 + 219) + x5))) (f2 : 1 * x10 + ((-1) * x2 + ((-36) * x5 + 0)) ≤ 5) (f3 : 1 * x9 + ((-1) * x2 + ((-36) * x5 + 0)) ≤ 0) (f4 : x7 = all_0 (((r_0 + 243) + x5))) (f5 : 1 * x6 + ((-1) * all_0 (r_0 + 0) + 0) ≤ 0) (f6 : (-1) * x6 + (1 * all_0 (r_0 + 0) + 0) ≤ 0) (f8 : 1 * texts_0 + ((-1) * x10 + 0) ≤ 8) (f10 : 1 * x10 + ((-1) * x2 + ((-36) * x5 + 0)) ≤ 5) (f11 : 1 * x9 + ((-1) * x2 + ((-36) * x5 + 0)) ≤ 0) (f13 : 1 * x9 + ((-1) * x2 + ((-36) * x5 + 0)) ≤ 0) (f14 : x7 = x4) (f15 : x5 < x6) (kz_0_170 : 0 ≤ texts_0 ∧ texts_0 ≤ 100000000) (ex2 : gx = texts_0) (ex3 : 0 ≤ gx ∧ gx ≤ 99999993) : 1 * texts_0 + ((-1) * gx + 0) ≤ 0 := by
  first | assumption | omega | grind
set_option maxHeartbeats 4000000 in
theorem vc_Mo_writeGroup_at_l1_6_1 (x2 : Int) (x4 : Int) (x5 : Int) (x6 : Int) (x7 : Int) (x9 : Int) (x10 : Int) (x11 : Int) (x12 : Int) (all_0 : Int → Int) (r_0 : Int) (texts_0 : Int) (gx : Int) (k2 : 0 ≤ x2 ∧ x2 ≤ 98271988) (k4 : 1 ≤ x4 ∧ x4 ≤ 7) (k5 : 0 ≤ x5 ∧ x5 ≤ 23) (k6 : 1 ≤ x6 ∧ x6 ≤ 24) (k7 : 1 ≤ x7 ∧ x7 ≤ 7) (k9 : 0 ≤ x9 ∧ x9 ≤ 99999995) (k10 : 0 ≤ x10 ∧ x10 ≤ 99999992) (k11 : 2 ≤ x11 ∧ x11 ≤ 99) (k12 : 1 ≤ x12 ∧ x12 ≤ 1) (d0 : x4 + 0 ≤ x7 ∧ x7 ≤ x4 + 0) (d1 : x6 + (-4294967296) ≤ x5 ∧ x5 ≤ x6 + (-1)) (f0 : x12 < x11) (f1 : x11 = all_0 (((r_0 + 219) + x5))) (f2 : 1 * x10 + ((-1) * x2 + ((-36) * x5 + 0)) ≤ 5) (f3 : 1 * x9 + ((-1) * x2 + ((-36) * x5 + 0)) ≤ 0) (f4 : x7 = all_0 (((r_0 + 243) + x5))) (f5 : 1 * x6 + ((-1) * all_0 (r_0 + 0) + 0) ≤ 0) (f6 : (-1) * x6 + (1 * all_0 (r_0 + 0) + 0) ≤ 0) (f8 : 1 * texts_0 + ((-1) * x10 + 0) ≤ 8) (f10 : 1 * x10 + ((-1) * x2 + ((-36) * x5 + 0)) ≤ 5) (f11 : 1 * x9 + ((-1) * x2 + ((-36) * x5 + 0)) ≤ 0) (f13 : 1 * x9 + ((-1) * x2 + ((-36) * x5 + 0)) ≤ 0) (f14 : x7 = x4) (f15 : x5 < x6) (kz_0_170 : 0 ≤ texts_0 ∧ texts_0 ≤ 100000000) (ex2 : gx = texts_0) (ex3 : 0 ≤ gx ∧ gx ≤ 99999993) : 1 * gx + ((-1) * x2 + ((-36) * x5 + 0)) ≤ 13 := by
  first | assumption | omega | grind
def o_Mo_writeGroup_at_l1_6 : or_T := (47, 14, [(0, (2, 0, 0, [165])), (2, (0, 0, 98271988, [])), (3, (2, 0, 0, [165])), (4, (0, 1, 7, [])), (5, (0, 0, 23, [])), (6, (0, 1, 24, [])), (7, (0, 1, 7, [])), (9, (0, 0, 99999995, [])), (10, (0, 0, 99999992, [])), (11, (0, 2, 99, [])), (12, (0, 1, 1, []))], [(7, [11, 12], [4]), (20, [11, 3, 5], [50, 1, 1, 1005, 1002, 1, 2, 1, 0, 3, 1, 2, 4, 7, 4, 3, 2, 1, 5, 0, 219, 1, 2]), (23, [10, 2, 5], [5, 1, -1, -36]), (23, [9, 2, 5], [0, 1, -1, -36]), (20, [7, 3, 5], [50, 1, 1, 1005, 1002, 1, 2, 1, 0, 3, 1, 2, 4, 7, 4, 3, 2, 1, 5, 0, 243, 1, 2]), (20, [6, 3], [30, 0, 1, 0, 0, -1, 3, 2005000]), (20, [6, 3], [30, 0, -1, 0, 0, 1, 3, 2005000]), (24, [0, 3], []), (20, [3, 10], [30, 8, 1, 1, 170, -1, 0, 0]), (102, [10], [7770675568902916283677847627294075626569627356208558085007249638955617140820833992704, 165170]), (23, [10, 2, 5], [5, 1, -1, -36]), (23, [9, 2, 5], [0, 1, -1, -36]), (102, [9], [7770675568902916283677847627294075626569627356208558085007249638955617140820833992704, 165170]), (23, [9, 2, 5], [0, 1, -1, -36]), (7, [7, 4], [0]), (7, [5, 6], [2])], [], [(0, 0, 99999993, [])], [(20, [3, 14], [30, 0, 1, 1, 170, -1, 0, 0]), (23, [14, 2, 5], [13, 1, -1, -36])], [], [(7, 4, 0, 0), (5, 6, -4294967296, -1)])
theorem oo_Mo_writeGroup_at_l1_6 {kA : Nat → ClassId} : or_ok PRD kA GG o_Mo_writeGroup_at_l1_6 := by
  refine or_mk fun A ta ws vs hD hth hl => ?_
  intro t0 r0 t2 k2 t3 r3 t4 k4 t5 k5 t6 k6 t7 k7 t9 k9 t10 k10 t11 k11 t12 k12 d0 d1 f0 f1 f2 f3 f4 f5 f6 f7 f8 ta1 w1 le1 s1 f10 f11 ta2 w2 le2 s2 f13 f14 f15
  replace f0 := shm_21 f0
  replace f1 := shm_732 f1
  replace f2 := shm_2038 f2
  replace f3 := shm_2037 f3
  replace f4 := shm_597 f4
  replace f5 := shm_126 f5
  replace f6 := shm_127 f6
  replace f7 := shm_5 f7
  replace f8 := shm_160 f8
  replace f10 := shm_2038 f10
  replace f11 := shm_2037 f11
  replace f13 := shm_2037 f13
  replace f14 := shm_37 f14
  replace f15 := shm_6 f15
  have q3 : n_v vs 3 = n_v vs 0 := f7.symm
  simp only [q3] at f1 f4 f5 f6 f8
  have cr_0_2 := fdq_10 hD hth r0
  have br_0_2_F5_0_0 : w_ei ws (w_ar ws (n_v vs 0) 2) (w_fi ws (n_v vs 0) 5 + 0) = w_el ws (w_ar ws (n_v vs 0) 2) (w_fi ws (n_v vs 0) 5 + 0).toNat := rfl
  have kz_0_170 := fdq_11 hD hth r0
  have kv0 := fdq_11 hD hth r0
  obtain ⟨x, ex, hx⟩ := iv_ex (ta := ta) (lo := 0) (hi := 99999993) (z := w_fi ws (n_v vs 0) 170) (by omega) (by omega) (by omega) (by omega)
  have ex2 : v_iv (Value.int x) = w_fi ws (n_v vs 0) 170 := ex
  have ex3 : 0 ≤ v_iv (Value.int x) ∧ v_iv (Value.int x) ≤ 99999993 := tv_rng hx
  have e_2 : n_v (vs ++ [Value.int x]) 2 = n_v vs 2 := n_v_old (by rw [hl]; decide)
  have e_3 : n_v (vs ++ [Value.int x]) 3 = n_v vs 3 := n_v_old (by rw [hl]; decide)
  have e_5 : n_v (vs ++ [Value.int x]) 5 = n_v vs 5 := n_v_old (by rw [hl]; decide)
  have e_14 : n_v (vs ++ [Value.int x]) 14 = Value.int x := n_v_new hl
  have nf0 : fc_1 PRD (20, [3, 14], [30, 0, 1, 1, 170, -1, 0, 0]) ws (vs ++ [Value.int x]) := by
    refine ⟨nf_inA hl rfl, sgq_131 ?_⟩
    · show 1 * w_fi ws (n_v (vs ++ [Value.int x]) 3) 170 + ((-1) * v_iv (n_v (vs ++ [Value.int x]) 14) + 0) ≤ 0
      simp only [e_3, e_14, q3]
      exact vc_Mo_writeGroup_at_l1_6_0 (v_iv (n_v vs 2)) (v_iv (n_v vs 4)) (v_iv (n_v vs 5)) (v_iv (n_v vs 6)) (v_iv (n_v vs 7)) (v_iv (n_v vs 9)) (v_iv (n_v vs 10)) (v_iv (n_v vs 11)) (v_iv (n_v vs 12)) (w_ei ws (w_ar ws (n_v vs 0) 2)) (w_fi ws (n_v vs 0) 5) (w_fi ws (n_v vs 0) 170) (v_iv (Value.int x)) k2 k4 k5 k6 k7 k9 k10 k11 k12 d0 d1 f0 f1 f2 f3 f4 f5 f6 f8 f10 f11 f13 f14 f15 kz_0_170 ex2 ex3
  have nf1 : fc_1 PRD (23, [14, 2, 5], [13, 1, -1, -36]) ws (vs ++ [Value.int x]) := by
    refine ⟨nf_inA hl rfl, sgq_2040 ?_⟩
    · show 1 * v_iv (n_v (vs ++ [Value.int x]) 14) + ((-1) * v_iv (n_v (vs ++ [Value.int x]) 2) + ((-36) * v_iv (n_v (vs ++ [Value.int x]) 5) + 0)) ≤ 13
      simp only [e_2, e_5, e_14]
      exact vc_Mo_writeGroup_at_l1_6_1 (v_iv (n_v vs 2)) (v_iv (n_v vs 4)) (v_iv (n_v vs 5)) (v_iv (n_v vs 6)) (v_iv (n_v vs 7)) (v_iv (n_v vs 9)) (v_iv (n_v vs 10)) (v_iv (n_v vs 11)) (v_iv (n_v vs 12)) (w_ei ws (w_ar ws (n_v vs 0) 2)) (w_fi ws (n_v vs 0) 5) (w_fi ws (n_v vs 0) 170) (v_iv (Value.int x)) k2 k4 k5 k6 k7 k9 k10 k11 k12 d0 d1 f0 f1 f2 f3 f4 f5 f6 f8 f10 f11 f13 f14 f15 kz_0_170 ex2 ex3
  exact ⟨(fun _ h => (by cases h)), [Value.int x], ag_one hx, List.forall_mem_cons.mpr ⟨⟨show (20 : Nat) < 100 from by decide, nf0⟩, List.forall_mem_cons.mpr ⟨⟨show (23 : Nat) < 100 from by decide, nf1⟩, (fun _ h => (by cases h))⟩⟩, (fun _ h => (by cases h))⟩
set_option maxHeartbeats 4000000 in
theorem vc_Mo_writeGroup_at_l1_7_0 (x2 : Int) (x4 : Int) (x5 : Int) (x6 : Int) (x7 : Int) (x9 : Int) (x10 : Int) (x11 : Int) (x12 : Int) (x14 : Int) (x15 : Int) (all_0 : Int → Int) (r_0 : Int) (texts_0 : Int) (gx : Int) (k2 : 0 ≤ x2 ∧ x2 ≤ 98271988) (k4 : 1 ≤ x4 ∧ x4 ≤ 7) (k5 : 0 ≤ x5 ∧ x5 ≤ 23) (k6 : 1 ≤ x6 ∧ x6 ≤ 24) (k7 : 1 ≤ x7 ∧ x7 ≤ 7) (k9 : 0 ≤ x9 ∧ x9 ≤ 99999995) (k10 : 0 ≤ x10 ∧ x10 ≤ 99999992) (k11 : 2 ≤ x11 ∧ x11 ≤ 99) (k12 : 1 ≤ x12 ∧ x12 ≤ 1) (k14 : 0 ≤ x14 ∧ x14 ≤ 99999993) (k15 : 0 ≤ x15 ∧ x15 ≤ 99) (d0 : x4 + 0 ≤ x7 ∧ x7 ≤ x4 + 0) (d1 : x6 + (-4294967296) ≤ x5 ∧ x5 ≤ x6 + (-1)) (f0 : x15 = all_0 (((r_0 + 219) + x5))) (f1 : 1 * x14 + ((-1) * x2 + ((-36) * x5 + 0)) ≤ 13) (f2 : x11 = all_0 (((r_0 + 219) + x5))) (f3 : 1 * x10 + ((-1) * x2 + ((-36) * x5 + 0)) ≤ 5) (f4 : 1 * x9 + ((-1) * x2 + ((-36) * x5 + 0)) ≤ 0) (f5 : x7 = all_0 (((r_0 + 243) + x5))) (f6 : 1 * x6 + ((-1) * all_0 (r_0 + 0) + 0) ≤ 0) (f7 : (-1) * x6 + (1 * all_0 (r_0 + 0) + 0) ≤ 0) (f9 : 1 * texts_0 + ((-1) * x14 + 0) ≤ 7) (f11 : 1 * x14 + ((-1) * x2 + ((-36) * x5 + 0)) ≤ 13) (f12 : x12 < x11) (f13 : 1 * x10 + ((-1) * x2 + ((-36) * x5 + 0)) ≤ 5) (f14 : 1 * x9 + ((-1) * x2 + ((-36) * x5 + 0)) ≤ 0) (f16 : 1 * x10 + ((-1) * x2 + ((-36) * x5 + 0)) ≤ 5) (f17 : 1 * x9 + ((-1) * x2 + ((-36) * x5 + 0)) ≤ 0) (f19 : 1 * x9 + ((-1) * x2 + ((-36) * x5 + 0)) ≤ 0) (f20 : x7 = x4) (f21 : x5 < x6) (kz_0_170 : 0 ≤ texts_0 ∧ texts_0 ≤ 100000000) (ex2 : gx = texts_0) (ex3 : 0 ≤ gx ∧ gx ≤ 99999987) : 1 * texts_0 + ((-1) * gx + 0) ≤ 0 := by
  first | assumption | omega | grind
set_option maxHeartbeats 4000000 in
theorem vc_Mo_writeGroup_at_l1_7_1 (x2 : Int) (x4 : Int) (x5 : Int) (x6 : Int) (x7 : Int) (x9 : Int) (x10 : Int) (x11 : Int) (x12 : Int) (x14 : Int) (x15 : Int) (all_0 : Int → Int) (r_0 : Int) (texts_0 : Int) (gx : Int) (k2 : 0 ≤ x2 ∧ x2 ≤ 98271988) (k4 : 1 ≤ x4 ∧ x4 ≤ 7) (k5 : 0 ≤ x5 ∧ x5 ≤ 23) (k6 : 1 ≤ x6 ∧ x6 ≤ 24) (k7 : 1 ≤ x7 ∧ x7 ≤ 7) (k9 : 0 ≤ x9 ∧ x9 ≤ 99999995) (k10 : 0 ≤ x10 ∧ x10 ≤ 99999992) (k11 : 2 ≤ x11 ∧ x11 ≤ 99) (k12 : 1 ≤ x12 ∧ x12 ≤ 1) (k14 : 0 ≤ x14 ∧ x14 ≤ 99999993) (k15 : 0 ≤ x15 ∧ x15 ≤ 99) (d0 : x4 + 0 ≤ x7 ∧ x7 ≤ x4 + 0) (d1 : x6 + (-4294967296) ≤ x5 ∧ x5 ≤ x6 + (-1)) (f0 : x15 = all_0 (((r_0 + 219) + x5))) (f1 : 1 * x14 + ((-1) * x2 + ((-36) * x5 + 0)) ≤ 13) (f2 : x11 = all_0 (((r_0 + 219) + x5))) (f3 : 1 * x10 + ((-1) * x2 + ((-36) * x5 + 0)) ≤ 5) (f4 : 1 * x9 + ((-1) * x2 + ((-36) * x5 + 0)) ≤ 0) (f5 : x7 = all_0 (((r_0 + 243) + x5))) (f6 : 1 * x6 + ((-1) * all_0 (r_0 + 0) + 0) ≤ 0) (f7 : (-1) * x6 + (1 * all_0 (r_0 + 0) + 0) ≤ 0) (f9 : 1 * texts_0 + ((-1) * x14 + 0) ≤ 7) (f11 : 1 * x14 + ((-1) * x2 + ((-36) * x5 + 0)) ≤ 13) (f12 : x12 < x11) (f13 : 1 * x10 + ((-1) * x2 + ((-36) * x5 + 0)) ≤ 5) (f14 : 1 * x9 + ((-1) * x2 + ((-36) * x5 + 0)) ≤ 0) (f16 : 1 * x10 + ((-1) * x2 + ((-36) * x5 + 0)) ≤ 5) (f17 : 1 * x9 + ((-1) * x2 + ((-36) * x5 + 0)) ≤ 0) (f19 : 1 * x9 + ((-1) * x2 + ((-36) * x5 + 0)) ≤ 0) (f20 : x7 = x4) (f21 : x5 < x6) (kz_0_170 : 0 ≤ texts_0 ∧ texts_0 ≤ 100000000) (ex2 : gx = texts_0) (ex3 : 0 ≤ gx ∧ gx ≤ 99999987) : 1 * gx + ((-1) * x2 + ((-36) * x5 + 0)) ≤ 20 := by
  first | assumption | omega | grind
def o_Mo_writeGroup_at_l1_7 : or_T := (56, 16, [(0, (2, 0, 0, [165])), (2, (0, 0, 98271988, [])), (3, (2, 0, 0, [165])), (4, (0, 1, 7, [])), (5, (0, 0, 23, [])), (6, (0, 1, 24, [])), (7, (0, 1, 7, [])), (9, (0, 0, 99999995, [])), (10, (0, 0, 99999992, [])), (11, (0, 2, 99, [])), (12, (0, 1, 1, [])), (14, (0, 0, 99999993, [])), (15, (0, 0, 99, []))], [(20, [15, 3, 5], [50, 1, 1, 1005, 1002, 1, 2, 1, 0, 3, 1, 2, 4, 7, 4, 3, 2, 1, 5, 0, 219, 1, 2]), (23, [14, 2, 5], [13, 1, -1, -36]), (20, [11, 3, 5], [50, 1, 1, 1005, 1002, 1, 2, 1, 0, 3, 1, 2, 4, 7, 4, 3, 2, 1, 5, 0, 219, 1, 2]), (23, [10, 2, 5], [5, 1, -1, -36]), (23, [9, 2, 5], [0, 1, -1, -36]), (20, [7, 3, 5], [50, 1, 1, 1005, 1002, 1, 2, 1, 0, 3, 1, 2, 4, 7, 4, 3, 2, 1, 5, 0, 243, 1, 2]), (20, [6, 3], [30, 0, 1, 0, 0, -1, 3, 2005000]), (20, [6, 3], [30, 0, -1, 0, 0, 1, 3, 2005000]), (24, [0, 3], []), (20, [3, 14], [30, 7, 1, 1, 170, -1, 0, 0]), (102, [14], [7770675568902916283677847627294075626569627356208558085007249638955617140820833992704, 165170]), (23, [14, 2, 5], [13, 1, -1, -36]), (7, [11, 12], [4]), (23, [10, 2, 5], [5, 1, -1, -36]), (23, [9, 2, 5], [0, 1, -1, -36]), (102, [10], [7770675568902916283677847627294075626569627356208558085007249638955617140820833992704, 165170]), (23, [10, 2, 5], [5, 1, -1, -36]), (23, [9, 2, 5], [0, 1, -1, -36]), (102, [9], [7770675568902916283677847627294075626569627356208558085007249638955617140820833992704, 165170]), (23, [9, 2, 5], [0, 1, -1, -36]), (7, [7, 4], [0]), (7, [5, 6], [2])], [], [(0, 0, 99999987, [])], [(20, [3, 16], [30, 0, 1, 1, 170, -1, 0, 0]), (23, [16, 2, 5], [20, 1, -1, -36])], [], [(7, 4, 0, 0), (5, 6, -4294967296, -1)])
theorem oo_Mo_writeGroup_at_l1_7 {kA : Nat → ClassId} : or_ok PRD kA GG o_Mo_writeGroup_at_l1_7 := by
  refine or_mk fun A ta ws vs hD hth hl => ?_
  intro t0 r0 t2 k2 t3 r3 t4 k4 t5 k5 t6 k6 t7 k7 t9 k9 t10 k10 t11 k11 t12 k12 t14 k14 t15 k15 d0 d1 f0 f1 f2 f3 f4 f5 f6 f7 f8 f9 ta1 w1 le1 s1 f11 f12 f13 f14 ta2 w2 le2 s2 f16 f17 ta3 w3 le3 s3 f19 f20 f21
  replace f0 := shm_732 f0
  replace f1 := shm_2040 f1
  replace f2 := shm_732 f2
  replace f3 := shm_2038 f3
  replace f4 := shm_2037 f4
  replace f5 := shm_597 f5
  replace f6 := shm_126 f6
  replace f7 := shm_127 f7
  replace f8 := shm_5 f8
  replace f9 := shm_209 f9
  replace f11 := shm_2040 f11
  replace f12 := shm_21 f12
  replace f13 := shm_2038 f13
  replace f14 := shm_2037 f14
  replace f16 := shm_2038 f16
  replace f17 := shm_2037 f17
  replace f19 := shm_2037 f19
  replace f20 := shm_37 f20
  replace f21 := shm_6 f21
  have q3 : n_v vs 3 = n_v vs 0 := f8.symm
  simp only [q3] at f0 f2 f5 f6 f7 f9
  have cr_0_2 := fdq_10 hD hth r0
  have br_0_2_F5_0_0 : w_ei ws (w_ar ws (n_v vs 0) 2) (w_fi ws (n_v vs 0) 5 + 0) = w_el ws (w_ar ws (n_v vs 0) 2) (w_fi ws (n_v vs 0) 5 + 0).toNat := rfl
  have kz_0_170 := fdq_11 hD hth r0
  have kv0 := fdq_11 hD hth r0
  obtain ⟨x, ex, hx⟩ := iv_ex (ta := ta) (lo := 0) (hi := 99999987) (z := w_fi ws (n_v vs 0) 170) (by omega) (by omega) (by omega) (by omega)
  have ex2 : v_iv (Value.int x) = w_fi ws (n_v vs 0) 170 := ex
  have ex3 : 0 ≤ v_iv (Value.int x) ∧ v_iv (Value.int x) ≤ 99999987 := tv_rng hx
  have e_2 : n_v (vs ++ [Value.int x]) 2 = n_v vs 2 := n_v_old (by rw [hl]; decide)
  have e_3 : n_v (vs ++ [Value.int x]) 3 = n_v vs 3 := n_v_old (by rw [hl]; decide)
  have e_5 : n_v (vs ++ [Value.int x]) 5 = n_v vs 5 := n_v_old (by rw [hl]; decide)
  have e_16 : n_v (vs ++ [Value.int x]) 16 = Value.int x := n_v_new hl
  have nf0 : fc_1 PRD (20, [3, 16], [30, 0, 1, 1, 170, -1, 0, 0]) ws (vs ++ [Value.int x]) := by
    refine ⟨nf_inA hl rfl, sgq_131 ?_⟩
    · show 1 * w_fi ws (n_v (vs ++ [Value.int x]) 3) 170 + ((-1) * v_iv (n_v (vs ++ [Value.int x]) 16) + 0) ≤ 0
      simp only [e_3, e_16, q3]
      exact vc_Mo_writeGroup_at_l1_7_0 (v_iv (n_v vs 2)) (v_iv (n_v vs 4)) (v_iv (n_v vs 5)) (v_iv (n_v vs 6)) (v_iv (n_v vs 7)) (v_iv (n_v vs 9)) (v_iv (n_v vs 10)) (v_iv (n_v vs 11)) (v_iv (n_v vs 12)) (v_iv (n_v vs 14)) (v_iv (n_v vs 15)) (w_ei ws (w_ar ws (n_v vs 0) 2)) (w_fi ws (n_v vs 0) 5) (w_fi ws (n_v vs 0) 170) (v_iv (Value.int x)) k2 k4 k5 k6 k7 k9 k10 k11 k12 k14 k15 d0 d1 f0 f1 f2 f3 f4 f5 f6 f7 f9 f11 f12 f13 f14 f16 f17 f19 f20 f21 kz_0_170 ex2 ex3
  have nf1 : fc_1 PRD (23, [16, 2, 5], [20, 1, -1, -36]) ws (vs ++ [Value.int x]) := by
    refine ⟨nf_inA hl rfl, sgq_2041 ?_⟩
    · show 1 * v_iv (n_v (vs ++ [Value.int x]) 16) + ((-1) * v_iv (n_v (vs ++ [Value.int x]) 2) + ((-36) * v_iv (n_v (vs ++ [Value.int x]) 5) + 0)) ≤ 20
      simp only [e_2, e_5, e_16]
      exact vc_Mo_writeGroup_at_l1_7_1 (v_iv (n_v vs 2)) (v_iv (n_v vs 4)) (v_iv (n_v vs 5)) (v_iv (n_v vs 6)) (v_iv (n_v vs 7)) (v_iv (n_v vs 9)) (v_iv (n_v vs 10)) (v_iv (n_v vs 11)) (v_iv (n_v vs 12)) (v_iv (n_v vs 14)) (v_iv (n_v vs 15)) (w_ei ws (w_ar ws (n_v vs 0) 2)) (w_fi ws (n_v vs 0) 5) (w_fi ws (n_v vs 0) 170) (v_iv (Value.int x)) k2 k4 k5 k6 k7 k9 k10 k11 k12 k14 k15 d0 d1 f0 f1 f2 f3 f4 f5 f6 f7 f9 f11 f12 f13 f14 f16 f17 f19 f20 f21 kz_0_170 ex2 ex3
  exact ⟨(fun _ h => (by cases h)), [Value.int x], ag_one hx, List.forall_mem_cons.mpr ⟨⟨show (20 : Nat) < 100 from by decide, nf0⟩, List.forall_mem_cons.mpr ⟨⟨show (23 : Nat) < 100 from by decide, nf1⟩, (fun _ h => (by cases h))⟩⟩, (fun _ h => (by cases h))⟩
set_option maxHeartbeats 4000000 in
theorem vc_Mo_writeGroup_at_l1_8_0 (x2 : Int) (x4 : Int) (x5 : Int) (x6 : Int) (x7 : Int) (x9 : Int) (x10 : Int) (x11 : Int) (x12 : Int) (x14 : Int) (x15 : Int) (x16 : Int) (all_0 : Int → Int) (r_0 : Int) (texts_0 : Int) (gx : Int) (k2 : 0 ≤ x2 ∧ x2 ≤ 98271988) (k4 : 1 ≤ x4 ∧ x4 ≤ 7) (k5 : 0 ≤ x5 ∧ x5 ≤ 23) (k6 : 1 ≤ x6 ∧ x6 ≤ 24) (k7 : 1 ≤ x7 ∧ x7 ≤ 7) (k9 : 0 ≤ x9 ∧ x9 ≤ 99999995) (k10 : 0 ≤ x10 ∧ x10 ≤ 99999992) (k11 : 2 ≤ x11 ∧ x11 ≤ 99) (k12 : 1 ≤ x12 ∧ x12 ≤ 1) (k14 : 0 ≤ x14 ∧ x14 ≤ 99999993) (k15 : 0 ≤ x15 ∧ x15 ≤ 99) (k16 : 0 ≤ x16 ∧ x16 ≤ 99999987) (d0 : x4 + 0 ≤ x7 ∧ x7 ≤ x4 + 0) (d1 : x6 + (-4294967296) ≤ x5 ∧ x5 ≤ x6 + (-1)) (f0 : 1 * x16 + ((-1) * x2 + ((-36) * x5 + 0)) ≤ 20) (f1 : x15 = all_0 (((r_0 + 219) + x5))) (f2 : 1 * x14 + ((-1) * x2 + ((-36) * x5 + 0)) ≤ 13) (f3 : x11 = all_0 (((r_0 + 219) + x5))) (f4 : 1 * x10 + ((-1) * x2 + ((-36) * x5 + 0)) ≤ 5) (f5 : 1 * x9 + ((-1) * x2 + ((-36) * x5 + 0)) ≤ 0) (f6 : x7 = all_0 (((r_0 + 243) + x5))) (f7 : 1 * x6 + ((-1) * all_0 (r_0 + 0) + 0) ≤ 0) (f8 : (-1) * x6 + (1 * all_0 (r_0 + 0) + 0) ≤ 0) (f10 : 1 * texts_0 + ((-1) * x16 + 0) ≤ 13) (f12 : 1 * x16 + ((-1) * x2 + ((-36) * x5 + 0)) ≤ 20) (f13 : 1 * x14 + ((-1) * x2 + ((-36) * x5 + 0)) ≤ 13) (f14 : 1 * x10 + ((-1) * x2 + ((-36) * x5 + 0)) ≤ 5) (f15 : 1 * x9 + ((-1) * x2 + ((-36) * x5 + 0)) ≤ 0) (f17 : 1 * x14 + ((-1) * x2 + ((-36) * x5 + 0)) ≤ 13) (f18 : x12 < x11) (f19 : 1 * x10 + ((-1) * x2 + ((-36) * x5 + 0)) ≤ 5) (f20 : 1 * x9 + ((-1) * x2 + ((-36) * x5 + 0)) ≤ 0) (f22 : 1 * x10 + ((-1) * x2 + ((-36) * x5 + 0)) ≤ 5) (f23 : 1 * x9 + ((-1) * x2 + ((-36) * x5 + 0)) ≤ 0) (f25 : 1 * x9 + ((-1) * x2 + ((-36) * x5 + 0)) ≤ 0) (f26 : x7 = x4) (f27 : x5 < x6) (kz_0_170 : 0 ≤ texts_0 ∧ texts_0 ≤ 100000000) (ex2 : gx = texts_0) (ex3 : 0 ≤ gx ∧ gx ≤ 99999999) : 1 * texts_0 + ((-1) * gx + 0) ≤ 0 := by
  first | assumption | omega | grind
set_option maxHeartbeats 4000000 in
theorem vc_Mo_writeGroup_at_l1_8_1 (x2 : Int) (x4 : Int) (x5 : Int) (x6 : Int) (x7 : Int) (x9 : Int) (x10 : Int) (x11 : Int) (x12 : Int) (x14 : Int) (x15 : Int) (x16 : Int) (all_0 : Int → Int) (r_0 : Int) (texts_0 : Int) (gx : Int) (k2 : 0 ≤ x2 ∧ x2 ≤ 98271988) (k4 : 1 ≤ x4 ∧ x4 ≤ 7) (k5 : 0 ≤ x5 ∧ x5 ≤ 23) (k6 : 1 ≤ x6 ∧ x6 ≤ 24) (k7 : 1 ≤ x7 ∧ x7 ≤ 7) (k9 : 0 ≤ x9 ∧ x9 ≤ 99999995) (k10 : 0 ≤ x10 ∧ x10 ≤ 99999992) (k11 : 2 ≤ x11 ∧ x11 ≤ 99) (k12 : 1 ≤ x12 ∧ x12 ≤ 1) (k14 : 0 ≤ x14 ∧ x14 ≤ 99999993) (k15 : 0 ≤ x15 ∧ x15 ≤ 99) (k16 : 0 ≤ x16 ∧ x16 ≤ 99999987) (d0 : x4 + 0 ≤ x7 ∧ x7 ≤ x4 + 0) (d1 : x6 + (-4294967296) ≤ x5 ∧ x5 ≤ x6 + (-1)) (f0 : 1 * x16 + ((-1) * x2 + ((-36) * x5 + 0)) ≤ 20) (f1 : x15 = all_0 (((r_0 + 219) + x5))) (f2 : 1 * x14 + ((-1) * x2 + ((-36) * x5 + 0)) ≤ 13) (f3 : x11 = all_0 (((r_0 + 219) + x5))) (f4 : 1 * x10 + ((-1) * x2 + ((-36) * x5 + 0)) ≤ 5) (f5 : 1 * x9 + ((-1) * x2 + ((-36) * x5 + 0)) ≤ 0) (f6 : x7 = all_0 (((r_0 + 243) + x5))) (f7 : 1 * x6 + ((-1) * all_0 (r_0 + 0) + 0) ≤ 0) (f8 : (-1) * x6 + (1 * all_0 (r_0 + 0) + 0) ≤ 0) (f10 : 1 * texts_0 + ((-1) * x16 + 0) ≤ 13) (f12 : 1 * x16 + ((-1) * x2 + ((-36) * x5 + 0)) ≤ 20) (f13 : 1 * x14 + ((-1) * x2 + ((-36) * x5 + 0)) ≤ 13) (f14 : 1 * x10 + ((-1) * x2 + ((-36) * x5 + 0)) ≤ 5) (f15 : 1 * x9 + ((-1) * x2 + ((-36) * x5 + 0)) ≤ 0) (f17 : 1 * x14 + ((-1) * x2 + ((-36) * x5 + 0)) ≤ 13) (f18 : x12 < x11) (f19 : 1 * x10 + ((-1) * x2 + ((-36) * x5 + 0)) ≤ 5) (f20 : 1 * x9 + ((-1) * x2 + ((-36) * x5 + 0)) ≤ 0) (f22 : 1 * x10 + ((-1) * x2 + ((-36) * x5 + 0)) ≤ 5) (f23 : 1 * x9 + ((-1) * x2 + ((-36) * x5 + 0)) ≤ 0) (f25 : 1 * x9 + ((-1) * x2 + ((-36) * x5 + 0)) ≤ 0) (f26 : x7 = x4) (f27 : x5 < x6) (kz_0_170 : 0 ≤ texts_0 ∧ texts_0 ≤ 100000000) (ex2 : gx = texts_0) (ex3 : 0 ≤ gx ∧ gx ≤ 99999999) : 1 * gx + ((-1) * x2 + ((-36) * x5 + 0)) ≤ 33 := by
  first | assumption | omega | grind
def o_Mo_writeGroup_at_l1_8 : or_T := (63, 18, [(0, (2, 0, 0, [165])), (2, (0, 0, 98271988, [])), (3, (2, 0, 0, [165])), (4, (0, 1, 7, [])), (5, (0, 0, 23, [])), (6, (0, 1, 24, [])), (7, (0, 1, 7, [])), (9, (0, 0, 99999995, [])), (10, (0, 0, 99999992, [])), (11, (0, 2, 99, [])), (12, (0, 1, 1, [])), (14, (0, 0, 99999993, [])), (15, (0, 0, 99, [])), (16, (0, 0, 99999987, []))], [(23, [16, 2, 5], [20, 1, -1, -36]), (20, [15, 3, 5], [50, 1, 1, 1005, 1002, 1, 2, 1, 0, 3, 1, 2, 4, 7, 4, 3, 2, 1, 5, 0, 219, 1, 2]), (23, [14, 2, 5], [13, 1, -1, -36]), (20, [11, 3, 5], [50, 1, 1, 1005, 1002, 1, 2, 1, 0, 3, 1, 2, 4, 7, 4, 3, 2, 1, 5, 0, 219, 1, 2]), (23, [10, 2, 5], [5, 1, -1, -36]), (23, [9, 2, 5], [0, 1, -1, -36]), (20, [7, 3, 5], [50, 1, 1, 1005, 1002, 1, 2, 1, 0, 3, 1, 2, 4, 7, 4, 3, 2, 1, 5, 0, 243, 1, 2]), (20, [6, 3], [30, 0, 1, 0, 0, -1, 3, 2005000]), (20, [6, 3], [30, 0, -1, 0, 0, 1, 3, 2005000]), (24, [0, 3], []), (20, [3, 16], [30, 13, 1, 1, 170, -1, 0, 0]), (102, [16], [7770675568902916283677847627294075626569627356208558085007249638955617140820833992704, 165170]), (23, [16, 2, 5], [20, 1, -1, -36]), (23, [14, 2, 5], [13, 1, -1, -36]), (23, [10, 2, 5], [5, 1, -1, -36]), (23, [9, 2, 5], [0, 1, -1, -36]), (102, [14], [7770675568902916283677847627294075626569627356208558085007249638955617140820833992704, 165170]), (23, [14, 2, 5], [13, 1, -1, -36]), (7, [11, 12], [4]), (23, [10, 2, 5], [5, 1, -1, -36]), (23, [9, 2, 5], [0, 1, -1, -36]), (102, [10], [7770675568902916283677847627294075626569627356208558085007249638955617140820833992704, 165170]), (23, [10, 2, 5], [5, 1, -1, -36]), (23, [9, 2, 5], [0, 1, -1, -36]), (102, [9], [7770675568902916283677847627294075626569627356208558085007249638955617140820833992704, 165170]), (23, [9, 2, 5], [0, 1, -1, -36]), (7, [7, 4], [0]), (7, [5, 6], [2])], [], [(0, 0, 99999999, [])], [(20, [3, 18], [30, 0, 1, 1, 170, -1, 0, 0]), (23, [18, 2, 5], [33, 1, -1, -36])], [], [(7, 4, 0, 0), (5, 6, -4294967296, -1)])
theorem oo_Mo_writeGroup_at_l1_8 {kA : Nat → ClassId} : or_ok PRD kA GG o_Mo_writeGroup_at_l1_8 := by
  refine or_mk fun A ta ws vs hD hth hl => ?_
  intro t0 r0 t2 k2 t3 r3 t4 k4 t5 k5 t6 k6 t7 k7 t9 k9 t10 k10 t11 k11 t12 k12 t14 k14 t15 k15 t16 k16 d0 d1 f0 f1 f2 f3 f4 f5 f6 f7 f8 f9 f10 ta1 w1 le1 s1 f12 f13 f14 f15 ta2 w2 le2 s2 f17 f18 f19 f20 ta3 w3 le3 s3 f22 f23 ta4 w4 le4 s4 f25 f26 f27
  replace f0 := shm_2041 f0
  replace f1 := shm_732 f1
  replace f2 := shm_2040 f2
  replace f3 := shm_732 f3
  replace f4 := shm_2038 f4
  replace f5 := shm_2037 f5
  replace f6 := shm_597 f6
  replace f7 := shm_126 f7
  replace f8 := shm_127 f8
  replace f9 := shm_5 f9
  replace f10 := shm_1056 f10
  replace f12 := shm_2041 f12
  replace f13 := shm_2040 f13
  replace f14 := shm_2038 f14
  replace f15 := shm_2037 f15
  replace f17 := shm_2040 f17
  replace f18 := shm_21 f18
  replace f19 := shm_2038 f19
  replace f20 := shm_2037 f20
  replace f22 := shm_2038 f22
  replace f23 := shm_2037 f23
  replace f25 := shm_2037 f25
  replace f26 := shm_37 f26
  replace f27 := shm_6 f27
  have q3 : n_v vs 3 = n_v vs 0 := f9.symm
  simp only [q3] at f1 f3 f6 f7 f8 f10
  have cr_0_2 := fdq_10 hD hth r0
  have br_0_2_F5_0_0 : w_ei ws (w_ar ws (n_v vs 0) 2) (w_fi ws (n_v vs 0) 5 + 0) = w_el ws (w_ar ws (n_v vs 0) 2) (w_fi ws (n_v vs 0) 5 + 0).toNat := rfl
  have kz_0_170 := fdq_11 hD hth r0
  have kv0 := fdq_11 hD hth r0
  obtain ⟨x, ex, hx⟩ := iv_ex (ta := ta) (lo := 0) (hi := 99999999) (z := w_fi ws (n_v vs 0) 170) (by omega) (by omega) (by omega) (by omega)
  have ex2 : v_iv (Value.int x) = w_fi ws (n_v vs 0) 170 := ex
  have ex3 : 0 ≤ v_iv (Value.int x) ∧ v_iv (Value.int x) ≤ 99999999 := tv_rng hx
  have e_2 : n_v (vs ++ [Value.int x]) 2 = n_v vs 2 := n_v_old (by rw [hl]; decide)
  have e_3 : n_v (vs ++ [Value.int x]) 3 = n_v vs 3 := n_v_old (by rw [hl]; decide)
  have e_5 : n_v (vs ++ [Value.int x]) 5 = n_v vs 5 := n_v_old (by rw [hl]; decide)
  have e_18 : n_v (vs ++ [Value.int x]) 18 = Value.int x := n_v_new hl
  have nf0 : fc_1 PRD (20, [3, 18], [30, 0, 1, 1, 170, -1, 0, 0]) ws (vs ++ [Value.int x]) := by
    refine ⟨nf_inA hl rfl, sgq_131 ?_⟩
    · show 1 * w_fi ws (n_v (vs ++ [Value.int x]) 3) 170 + ((-1) * v_iv (n_v (vs ++ [Value.int x]) 18) + 0) ≤ 0
      simp only [e_3, e_18, q3]
      exact vc_Mo_writeGroup_at_l1_8_0 (v_iv (n_v vs 2)) (v_iv (n_v vs 4)) (v_iv (n_v vs 5)) (v_iv (n_v vs 6)) (v_iv (n_v vs 7)) (v_iv (n_v vs 9)) (v_iv (n_v vs 10)) (v_iv (n_v vs 11)) (v_iv (n_v vs 12)) (v_iv (n_v vs 14)) (v_iv (n_v vs 15)) (v_iv (n_v vs 16)) (w_ei ws (w_ar ws (n_v vs 0) 2)) (w_fi ws (n_v vs 0) 5) (w_fi ws (n_v vs 0) 170) (v_iv (Value.int x)) k2 k4 k5 k6 k7 k9 k10 k11 k12 k14 k15 k16 d0 d1 f0 f1 f2 f3 f4 f5 f6 f7 f8 f10 f12 f13 f14 f15 f17 f18 f19 f20 f22 f23 f25 f26 f27 kz_0_170 ex2 ex3
  have nf1 : fc_1 PRD (23, [18, 2, 5], [33, 1, -1, -36]) ws (vs ++ [Value.int x]) := by
    refine ⟨nf_inA hl rfl, sgq_2042 ?_⟩
    · show 1 * v_iv (n_v (vs ++ [Value.int x]) 18) + ((-1) * v_iv (n_v (vs ++ [Value.int x]) 2) + ((-36) * v_iv (n_v (vs ++ [Value.int x]) 5) + 0)) ≤ 33
      simp only [e_2, e_5, e_18]
      exact vc_Mo_writeGroup_at_l1_8_1 (v_iv (n_v vs 2)) (v_iv (n_v vs 4)) (v_iv (n_v vs 5)) (v_iv (n_v vs 6)) (v_iv (n_v vs 7)) (v_iv (n_v vs 9)) (v_iv (n_v vs 10)) (v_iv (n_v vs 11)) (v_iv (n_v vs 12)) (v_iv (n_v vs 14)) (v_iv (n_v vs 15)) (v_iv (n_v vs 16)) (w_ei ws (w_ar ws (n_v vs 0) 2)) (w_fi ws (n_v vs 0) 5) (w_fi ws (n_v vs 0) 170) (v_iv (Value.int x)) k2 k4 k5 k6 k7 k9 k10 k11 k12 k14 k15 k16 d0 d1 f0 f1 f2 f3 f4 f5 f6 f7 f8 f10 f12 f13 f14 f15 f17 f18 f19 f20 f22 f23 f25 f26 f27 kz_0_170 ex2 ex3
  exact ⟨(fun _ h => (by cases h)), [Value.int x], ag_one hx, List.forall_mem_cons.mpr ⟨⟨show (20 : Nat) < 100 from by decide, nf0⟩, List.forall_mem_cons.mpr ⟨⟨show (23 : Nat) < 100 from by decide, nf1⟩, (fun _ h => (by cases h))⟩⟩, (fun _ h => (by cases h))⟩
set_option maxHeartbeats 4000000 in
theorem vc_Mo_writeGroup_at_l1_9_0 (x2 : Int) (x4 : Int) (x5 : Int) (x6 : Int) (x7 : Int) (x9 : Int) (x10 : Int) (x11 : Int) (x12 : Int) (x14 : Int) (x15 : Int) (x16 : Int) (x18 : Int) (all_0 : Int → Int) (r_0 : Int) (texts_0 : Int) (gx : Int) (k2 : 0 ≤ x2 ∧ x2 ≤ 98271988) (k4 : 1 ≤ x4 ∧ x4 ≤ 7) (k5 : 0 ≤ x5 ∧ x5 ≤ 23) (k6 : 1 ≤ x6 ∧ x6 ≤ 24) (k7 : 1 ≤ x7 ∧ x7 ≤ 7) (k9 : 0 ≤ x9 ∧ x9 ≤ 99999995) (k10 : 0 ≤ x10 ∧ x10 ≤ 99999992) (k11 : 2 ≤ x11 ∧ x11 ≤ 99) (k12 : 1 ≤ x12 ∧ x12 ≤ 1) (k14 : 0 ≤ x14 ∧ x14 ≤ 99999993) (k15 : 0 ≤ x15 ∧ x15 ≤ 99) (k16 : 0 ≤ x16 ∧ x16 ≤ 99999987) (k18 : 0 ≤ x18 ∧ x18 ≤ 99999999) (d0 : x4 + 0 ≤ x7 ∧ x7 ≤ x4 + 0) (d1 : x6 + (-4294967296) ≤ x5 ∧ x5 ≤ x6 + (-1)) (f0 : 1 * x18 + ((-1) * x2 + ((-36) * x5 + 0)) ≤ 33) (f1 : 1 * x16 + ((-1) * x2 + ((-36) * x5 + 0)) ≤ 20) (f2 : x15 = all_0 (((r_0 + 219) + x5))) (f3 : 1 * x14 + ((-1) * x2 + ((-36) * x5 + 0)) ≤ 13) (f4 : x11 = all_0 (((r_0 + 219) + x5))) (f5 : 1 * x10 + ((-1) * x2 + ((-36) * x5 + 0)) ≤ 5) (f6 : 1 * x9 + ((-1) * x2 + ((-36) * x5 + 0)) ≤ 0) (f7 : x7 = all_0 (((r_0 + 243) + x5))) (f8 : 1 * x6 + ((-1) * all_0 (r_0 + 0) + 0) ≤ 0) (f9 : (-1) * x6 + (1 * all_0 (r_0 + 0) + 0) ≤ 0) (f11 : 1 * texts_0 + ((-1) * x18 + 0) ≤ 1) (f13 : 1 * x18 + ((-1) * x2 + ((-36) * x5 + 0)) ≤ 33) (f14 : 1 * x16 + ((-1) * x2 + ((-36) * x5 + 0)) ≤ 20) (f15 : 1 * x14 + ((-1) * x2 + ((-36) * x5 + 0)) ≤ 13) (f16 : 1 * x10 + ((-1) * x2 + ((-36) * x5 + 0)) ≤ 5) (f17 : 1 * x9 + ((-1) * x2 + ((-36) * x5 + 0)) ≤ 0) (f19 : 1 * x16 + ((-1) * x2 + ((-36) * x5 + 0)) ≤ 20) (f20 : 1 * x14 + ((-1) * x2 + ((-36) * x5 + 0)) ≤ 13) (f21 : 1 * x10 + ((-1) * x2 + ((-36) * x5 + 0)) ≤ 5) (f22 : 1 * x9 + ((-1) * x2 + ((-36) * x5 + 0)) ≤ 0) (f24 : 1 * x14 + ((-1) * x2 + ((-36) * x5 + 0)) ≤ 13) (f25 : x12 < x11) (f26 : 1 * x10 + ((-1) * x2 + ((-36) * x5 + 0)) ≤ 5) (f27 : 1 * x9 + ((-1) * x2 + ((-36) * x5 + 0)) ≤ 0) (f29 : 1 * x10 + ((-1) * x2 + ((-36) * x5 + 0)) ≤ 5) (f30 : 1 * x9 + ((-1) * x2 + ((-36) * x5 + 0)) ≤ 0) (f32 : 1 * x9 + ((-1) * x2 + ((-36) * x5 + 0)) ≤ 0) (f33 : x7 = x4) (f34 : x5 < x6) (kz_0_170 : 0 ≤ texts_0 ∧ texts_0 ≤ 100000000) (ex2 : gx = texts_0) (ex3 : 0 ≤ gx ∧ gx ≤ 99999998) : 1 * texts_0 + ((-1) * gx + 0) ≤ 0 := by
  first | assumption | omega | grind
set_option maxHeartbeats 4000000 in
theorem vc_Mo_writeGroup_at_l1_9_1 (x2 : Int) (x4 : Int) (x5 : Int) (x6 : Int) (x7 : Int) (x9 : Int) (x10 : Int) (x11 : Int) (x12 : Int) (x14 : Int) (x15 : Int) (x16 : Int) (x18 : Int) (all_0 : Int → Int) (r_0 : Int) (texts_0 : Int) (gx : Int) (k2 : 0 ≤ x2 ∧ x2 ≤ 98271988) (k4 : 1 ≤ x4 ∧ x4 ≤ 7) (k5 : 0 ≤ x5 ∧ x5 ≤ 23) (k6 : 1 ≤ x6 ∧ x6 ≤ 24) (k7 : 1 ≤ x7 ∧ x7 ≤ 7) (k9 : 0 ≤ x9 ∧ x9 ≤ 99999995) (k10 : 0 ≤ x10 ∧ x10 ≤ 99999992) (k11 : 2 ≤ x11 ∧ x11 ≤ 99) (k12 : 1 ≤ x12 ∧ x12 ≤ 1) (k14 : 0 ≤ x14 ∧ x14 ≤ 99999993) (k15 : 0 ≤ x15 ∧ x15 ≤ 99) (k16 : 0 ≤ x16 ∧ x16 ≤ 99999987) (k18 : 0 ≤ x18 ∧ x18 ≤ 99999999) (d0 : x4 + 0 ≤ x7 ∧ x7 ≤ x4 + 0) (d1 : x6 + (-4294967296) ≤ x5 ∧ x5 ≤ x6 + (-1)) (f0 : 1 * x18 + ((-1) * x2 + ((-36) * x5 + 0)) ≤ 33) (f1 : 1 * x16 + ((-1) * x2 + ((-36) * x5 + 0)) ≤ 20) (f2 : x15 = all_0 (((r_0 + 219) + x5))) (f3 : 1 * x14 + ((-1) * x2 + ((-36) * x5 + 0)) ≤ 13) (f4 : x11 = all_0 (((r_0 + 219) + x5))) (f5 : 1 * x10 + ((-1) * x2 + ((-36) * x5 + 0)) ≤ 5) (f6 : 1 * x9 + ((-1) * x2 + ((-36) * x5 + 0)) ≤ 0) (f7 : x7 = all_0 (((r_0 + 243) + x5))) (f8 : 1 * x6 + ((-1) * all_0 (r_0 + 0) + 0) ≤ 0) (f9 : (-1) * x6 + (1 * all_0 (r_0 + 0) + 0) ≤ 0) (f11 : 1 * texts_0 + ((-1) * x18 + 0) ≤ 1) (f13 : 1 * x18 + ((-1) * x2 + ((-36) * x5 + 0)) ≤ 33) (f14 : 1 * x16 + ((-1) * x2 + ((-36) * x5 + 0)) ≤ 20) (f15 : 1 * x14 + ((-1) * x2 + ((-36) * x5 + 0)) ≤ 13) (f16 : 1 * x10 + ((-1) * x2 + ((-36) * x5 + 0)) ≤ 5) (f17 : 1 * x9 + ((-1) * x2 + ((-36) * x5 + 0)) ≤ 0) (f19 : 1 * x16 + ((-1) * x2 + ((-36) * x5 + 0)) ≤ 20) (f20 : 1 * x14 + ((-1) * x2 + ((-36) * x5 + 0)) ≤ 13) (f21 : 1 * x10 + ((-1) * x2 + ((-36) * x5 + 0)) ≤ 5) (f22 : 1 * x9 + ((-1) * x2 + ((-36) * x5 + 0)) ≤ 0) (f24 : 1 * x14 + ((-1) * x2 + ((-36) * x5 + 0)) ≤ 13) (f25 : x12 < x11) (f26 : 1 * x10 + ((-1) * x2 + ((-36) * x5 + 0)) ≤ 5) (f27 : 1 * x9 + ((-1) * x2 + ((-36) * x5 + 0)) ≤ 0) (f29 : 1 * x10 + ((-1) * x2 + ((-36) * x5 + 0)) ≤ 5) (f30 : 1 * x9 + ((-1) * x2 + ((-36) * x5 + 0)) ≤ 0) (f32 : 1 * x9 + ((-1) * x2 + ((-36) * x5 + 0)) ≤ 0) (f33 : x7 = x4) (f34 : x5 < x6) (kz_0_170 : 0 ≤ texts_0 ∧ texts_0 ≤ 100000000) (ex2 : gx = texts_0) (ex3 : 0 ≤ gx ∧ gx ≤ 99999998) : 1 * gx + ((-1) * x2 + ((-36) * x5 + 0)) ≤ 34 := by
  first | assumption | omega | grind
def o_Mo_writeGroup_at_l1_9 : or_T := (70, 20, [(0, (2, 0, 0, [165])), (2, (0, 0, 98271988, [])), (3, (2, 0, 0, [165])), (4, (0, 1, 7, [])), (5, (0, 0, 23, [])), (6, (0, 1, 24, [])), (7, (0, 1, 7, [])), (9, (0, 0, 99999995, [])), (10, (0, 0, 99999992, [])), (11, (0, 2, 99, [])), (12, (0, 1, 1, [])), (14, (0, 0, 99999993, [])), (15, (0, 0, 99, [])), (16, (0, 0, 99999987, [])), (18, (0, 0, 99999999, []))], [(23, [18, 2, 5], [33, 1, -1, -36]), (23, [16, 2, 5], [20, 1, -1, -36]), (20, [15, 3, 5], [50, 1, 1, 1005, 1002, 1, 2, 1, 0, 3, 1, 2, 4, 7, 4, 3, 2, 1, 5, 0, 219, 1, 2]), (23, [14, 2, 5], [13, 1, -1, -36]), (20, [11, 3, 5], [50, 1, 1, 1005, 1002, 1, 2, 1, 0, 3, 1, 2, 4, 7, 4, 3, 2, 1, 5, 0, 219, 1, 2]), (23, [10, 2, 5], [5, 1, -1, -36]), (23, [9, 2, 5], [0, 1, -1, -36]), (20, [7, 3, 5], [50, 1, 1, 1005, 1002, 1, 2, 1, 0, 3, 1, 2, 4, 7, 4, 3, 2, 1, 5, 0, 243, 1, 2]), (20, [6, 3], [30, 0, 1, 0, 0, -1, 3, 2005000]), (20, [6, 3], [30, 0, -1, 0, 0, 1, 3, 2005000]), (24, [0, 3], []), (20, [3, 18], [30, 1, 1, 1, 170, -1, 0, 0]), (102, [18], [7770675568902916283677847627294075626569627356208558085007249638955617140820833992704, 165170]), (23, [18, 2, 5], [33, 1, -1, -36]), (23, [16, 2, 5], [20, 1, -1, -36]), (23, [14, 2, 5], [13, 1, -1, -36]), (23, [10, 2, 5], [5, 1, -1, -36]), (23, [9, 2, 5], [0, 1, -1, -36]), (102, [16], [7770675568902916283677847627294075626569627356208558085007249638955617140820833992704, 165170]), (23, [16, 2, 5], [20, 1, -1, -36]), (23, [14, 2, 5], [13, 1, -1, -36]), (23, [10, 2, 5], [5, 1, -1, -36]), (23, [9, 2, 5], [0, 1, -1, -36]), (102, [14], [7770675568902916283677847627294075626569627356208558085007249638955617140820833992704, 165170]), (23, [14, 2, 5], [13, 1, -1, -36]), (7, [11, 12], [4]), (23, [10, 2, 5], [5, 1, -1, -36]), (23, [9, 2, 5], [0, 1, -1, -36]), (102, [10], [7770675568902916283677847627294075626569627356208558085007249638955617140820833992704, 165170]), (23, [10, 2, 5], [5, 1, -1, -36]), (23, [9, 2, 5], [0, 1, -1, -36]), (102, [9], [7770675568902916283677847627294075626569627356208558085007249638955617140820833992704, 165170]), (23, [9, 2, 5], [0, 1, -1, -36]), (7, [7, 4], [0]), (7, [5, 6], [2])], [], [(0, 0, 99999998, [])], [(20, [3, 20], [30, 0, 1, 1, 170, -1, 0, 0]), (23, [20, 2, 5], [34, 1, -1, -36])], [], [(7, 4, 0, 0), (5, 6, -4294967296, -1)])
theorem oo_Mo_writeGroup_at_l1_9 {kA : Nat → ClassId} : or_ok PRD kA GG o_Mo_writeGroup_at_l1_9 := by
  refine or_mk fun A ta ws vs hD hth hl => ?_
  intro t0 r0 t2 k2 t3 r3 t4 k4 t5 k5 t6 k6 t7 k7 t9 k9 t10 k10 t11 k11 t12 k12 t14 k14 t15 k15 t16 k16 t18 k18 d0 d1 f0 f1 f2 f3 f4 f5 f6 f7 f8 f9 f10 f11 ta1 w1 le1 s1 f13 f14 f15 f16 f17 ta2 w2 le2 s2 f19 f20 f21 f22 ta3 w3 le3 s3 f24 f25 f26 f27 ta4 w4 le4 s4 f29 f30 ta5 w5 le5 s5 f32 f33 f34
  replace f0 := shm_2042 f0
  replace f1 := shm_2041 f1
  replace f2 := shm_732 f2
  replace f3 := shm_2040 f3
  replace f4 := shm_732 f4
  replace f5 := shm_2038 f5
  replace f6 := shm_2037 f6
  replace f7 := shm_597 f7
  replace f8 := shm_126 f8
  replace f9 := shm_127 f9
  replace f10 := shm_5 f10
  replace f11 := shm_132 f11
  replace f13 := shm_2042 f13
  replace f14 := shm_2041 f14
  replace f15 := shm_2040 f15
  replace f16 := shm_2038 f16
  replace f17 := shm_2037 f17
  replace f19 := shm_2041 f19
  replace f20 := shm_2040 f20
  replace f21 := shm_2038 f21
  replace f22 := shm_2037 f22
  replace f24 := shm_2040 f24
  replace f25 := shm_21 f25
  replace f26 := shm_2038 f26
  replace f27 := shm_2037 f27
  replace f29 := shm_2038 f29
  replace f30 := shm_2037 f30
  replace f32 := shm_2037 f32
  replace f33 := shm_37 f33
  replace f34 := shm_6 f34
  have q3 : n_v vs 3 = n_v vs 0 := f10.symm
  simp only [q3] at f2 f4 f7 f8 f9 f11
  have cr_0_2 := fdq_10 hD hth r0
  have br_0_2_F5_0_0 : w_ei ws (w_ar ws (n_v vs 0) 2) (w_fi ws (n_v vs 0) 5 + 0) = w_el ws (w_ar ws (n_v vs 0) 2) (w_fi ws (n_v vs 0) 5 + 0).toNat := rfl
  have kz_0_170 := fdq_11 hD hth r0
  have kv0 := fdq_11 hD hth r0
  obtain ⟨x, ex, hx⟩ := iv_ex (ta := ta) (lo := 0) (hi := 99999998) (z := w_fi ws (n_v vs 0) 170) (by omega) (by omega) (by omega) (by omega)
  have ex2 : v_iv (Value.int x) = w_fi ws (n_v vs 0) 170 := ex
  have ex3 : 0 ≤ v_iv (Value.int x) ∧ v_iv (Value.int x) ≤ 99999998 := tv_rng hx
  have e_2 : n_v (vs ++ [Value.int x]) 2 = n_v vs 2 := n_v_old (by rw [hl]; decide)
  have e_3 : n_v (vs ++ [Value.int x]) 3 = n_v vs 3 := n_v_old (by rw [hl]; decide)
  have e_5 : n_v (vs ++ [Value.int x]) 5 = n_v vs 5 := n_v_old (by rw [hl]; decide)
  have e_20 : n_v (vs ++ [Value.int x]) 20 = Value.int x := n_v_new hl
  have nf0 : fc_1 PRD (20, [3, 20], [30, 0, 1, 1, 170, -1, 0, 0]) ws (vs ++ [Value.int x]) := by
    refine ⟨nf_inA hl rfl, sgq_131 ?_⟩
    · show 1 * w_fi ws (n_v (vs ++ [Value.int x]) 3) 170 + ((-1) * v_iv (n_v (vs ++ [Value.int x]) 20) + 0) ≤ 0
      simp only [e_3, e_20, q3]
      exact vc_Mo_writeGroup_at_l1_9_0 (v_iv (n_v vs 2)) (v_iv (n_v vs 4)) (v_iv (n_v vs 5)) (v_iv (n_v vs 6)) (v_iv (n_v vs 7)) (v_iv (n_v vs 9)) (v_iv (n_v vs 10)) (v_iv (n_v vs 11)) (v_iv (n_v vs 12)) (v_iv (n_v vs 14)) (v_iv (n_v vs 15)) (v_iv (n_v vs 16)) (v_iv (n_v vs 18)) (w_ei ws (w_ar ws (n_v vs 0) 2)) (w_fi ws (n_v vs 0) 5) (w_fi ws (n_v vs 0) 170) (v_iv (Value.int x)) k2 k4 k5 k6 k7 k9 k10 k11 k12 k14 k15 k16 k18 d0 d1 f0 f1 f2 f3 f4 f5 f6 f7 f8 f9 f11 f13 f14 f15 f16 f17 f19 f20 f21 f22 f24 f25 f26 f27 f29 f30 f32 f33 f34 kz_0_170 ex2 ex3
  have nf1 : fc_1 PRD (23, [20, 2, 5], [34, 1, -1, -36]) ws (vs ++ [Value.int x]) := by
    refine ⟨nf_inA hl rfl, sgq_2039 ?_⟩
    · show 1 * v_iv (n_v (vs ++ [Value.int x]) 20) + ((-1) * v_iv (n_v (vs ++ [Value.int x]) 2) + ((-36) * v_iv (n_v (vs ++ [Value.int x]) 5) + 0)) ≤ 34
      simp only [e_2, e_5, e_20]
      exact vc_Mo_writeGroup_at_l1_9_1 (v_iv (n_v vs 2)) (v_iv (n_v vs 4)) (v_iv (n_v vs 5)) (v_iv (n_v vs 6)) (v_iv (n_v vs 7)) (v_iv (n_v vs 9)) (v_iv (n_v vs 10)) (v_iv (n_v vs 11)) (v_iv (n_v vs 12)) (v_iv (n_v vs 14)) (v_iv (n_v vs 15)) (v_iv (n_v vs 16)) (v_iv (n_v vs 18)) (w_ei ws (w_ar ws (n_v vs 0) 2)) (w_fi ws (n_v vs 0) 5) (w_fi ws (n_v vs 0) 170) (v_iv (Value.int x)) k2 k4 k5 k6 k7 k9 k10 k11 k12 k14 k15 k16 k18 d0 d1 f0 f1 f2 f3 f4 f5 f6 f7 f8 f9 f11 f13 f14 f15 f16 f17 f19 f20 f21 f22 f24 f25 f26 f27 f29 f30 f32 f33 f34 kz_0_170 ex2 ex3
  exact ⟨(fun _ h => (by cases h)), [Value.int x], ag_one hx, List.forall_mem_cons.mpr ⟨⟨show (20 : Nat) < 100 from by decide, nf0⟩, List.forall_mem_cons.mpr ⟨⟨show (23 : Nat) < 100 from by decide, nf1⟩, (fun _ h => (by cases h))⟩⟩, (fun _ h => (by cases h))⟩
set_option maxHeartbeats 4000000 in
theorem vc_Mo_writeGroup_at_l1_10_0 (x2 : Int) (x4 : Int) (x5 : Int) (x6 : Int) (x7 : Int) (x9 : Int) (x10 : Int) (x11 : Int) (x12 : Int) (x14 : Int) (x15 : Int) (x16 : Int) (x18 : Int) (x20 : Int) (x21 : Int) (all_0 : Int → Int) (r_0 : Int) (texts_0 : Int) (k2 : 0 ≤ x2 ∧ x2 ≤ 98271988) (k4 : 1 ≤ x4 ∧ x4 ≤ 7) (k5 : 0 ≤ x5 ∧ x5 ≤ 23) (k6 : 1 ≤ x6 ∧ x6 ≤ 24) (k7 : 1 ≤ x7 ∧ x7 ≤ 7) (k9 : 0 ≤ x9 ∧ x9 ≤ 99999995) (k10 : 0 ≤ x10 ∧ x10 ≤ 99999992) (k11 : 2 ≤ x11 ∧ x11 ≤ 99) (k12 : 1 ≤ x12 ∧ x12 ≤ 1) (k14 : 0 ≤ x14 ∧ x14 ≤ 99999993) (k15 : 0 ≤ x15 ∧ x15 ≤ 99) (k16 : 0 ≤ x16 ∧ x16 ≤ 99999987) (k18 : 0 ≤ x18 ∧ x18 ≤ 99999999) (k20 : 0 ≤ x20 ∧ x20 ≤ 99999998) (k21 : 1 ≤ x21 ∧ x21 ≤ 24) (d0 : x5 + 1 ≤ x21 ∧ x21 ≤ x5 + 1) (d1 : x6 + (-4294967296) ≤ x21 ∧ x21 ≤ x6 + 0) (d2 : x4 + 0 ≤ x7 ∧ x7 ≤ x4 + 0) (d3 : x6 + (-4294967296) ≤ x5 ∧ x5 ≤ x6 + (-1)) (f0 : x21 = x5 + 1) (f1 : 1 * x20 + ((-1) * x2 + ((-36) * x5 + 0)) ≤ 34) (f2 : 1 * x18 + ((-1) * x2 + ((-36) * x5 + 0)) ≤ 33) (f3 : 1 * x16 + ((-1) * x2 + ((-36) * x5 + 0)) ≤ 20) (f4 : x15 = all_0 (((r_0 + 219) + x5))) (f5 : 1 * x14 + ((-1) * x2 + ((-36) * x5 + 0)) ≤ 13) (f6 : x11 = all_0 (((r_0 + 219) + x5))) (f7 : 1 * x10 + ((-1) * x2 + ((-36) * x5 + 0)) ≤ 5) (f8 : 1 * x9 + ((-1) * x2 + ((-36) * x5 + 0)) ≤ 0) (f9 : x7 = all_0 (((r_0 + 243) + x5))) (f10 : 1 * x6 + ((-1) * all_0 (r_0 + 0) + 0) ≤ 0) (f11 : (-1) * x6 + (1 * all_0 (r_0 + 0) + 0) ≤ 0) (f13 : 1 * texts_0 + ((-1) * x20 + 0) ≤ 2) (f15 : 1 * x20 + ((-1) * x2 + ((-36) * x5 + 0)) ≤ 34) (f16 : 1 * x18 + ((-1) * x2 + ((-36) * x5 + 0)) ≤ 33) (f17 : 1 * x16 + ((-1) * x2 + ((-36) * x5 + 0)) ≤ 20) (f18 : 1 * x14 + ((-1) * x2 + ((-36) * x5 + 0)) ≤ 13) (f19 : 1 * x10 + ((-1) * x2 + ((-36) * x5 + 0)) ≤ 5) (f20 : 1 * x9 + ((-1) * x2 + ((-36) * x5 + 0)) ≤ 0) (f22 : 1 * x18 + ((-1) * x2 + ((-36) * x5 + 0)) ≤ 33) (f23 : 1 * x16 + ((-1) * x2 + ((-36) * x5 + 0)) ≤ 20) (f24 : 1 * x14 + ((-1) * x2 + ((-36) * x5 + 0)) ≤ 13) (f25 : 1 * x10 + ((-1) * x2 + ((-36) * x5 + 0)) ≤ 5) (f26 : 1 * x9 + ((-1) * x2 + ((-36) * x5 + 0)) ≤ 0) (f28 : 1 * x16 + ((-1) * x2 + ((-36) * x5 + 0)) ≤ 20) (f29 : 1 * x14 + ((-1) * x2 + ((-36) * x5 + 0)) ≤ 13) (f30 : 1 * x10 + ((-1) * x2 + ((-36) * x5 + 0)) ≤ 5) (f31 : 1 * x9 + ((-1) * x2 + ((-36) * x5 + 0)) ≤ 0) (f33 : 1 * x14 + ((-1) * x2 + ((-36) * x5 + 0)) ≤ 13) (f34 : x12 < x11) (f35 : 1 * x10 + ((-1) * x2 + ((-36) * x5 + 0)) ≤ 5) (f36 : 1 * x9 + ((-1) * x2 + ((-36) * x5 + 0)) ≤ 0) (f38 : 1 * x10 + ((-1) * x2 + ((-36) * x5 + 0)) ≤ 5) (f39 : 1 * x9 + ((-1) * x2 + ((-36) * x5 + 0)) ≤ 0) (f41 : 1 * x9 + ((-1) * x2 + ((-36) * x5 + 0)) ≤ 0) (f42 : x7 = x4) (f43 : x5 < x6) (kz_0_170 : 0 ≤ texts_0 ∧ texts_0 ≤ 100000000) : 1 * texts_0 + ((-1) * x2 + ((-36) * x21 + 0)) ≤ 0 := by
  first | assumption | omega | grind
def o_Mo_writeGroup_at_l1_10 : or_T := (2, 22, [(0, (2, 0, 0, [165])), (2, (0, 0, 98271988, [])), (4, (0, 1, 7, [])), (5, (0, 0, 23, [])), (6, (0, 1, 24, [])), (7, (0, 1, 7, [])), (9, (0, 0, 99999995, [])), (10, (0, 0, 99999992, [])), (11, (0, 2, 99, [])), (12, (0, 1, 1, [])), (14, (0, 0, 99999993, [])), (15, (0, 0, 99, [])), (16, (0, 0, 99999987, [])), (18, (0, 0, 99999999, [])), (20, (0, 0, 99999998, [])), (21, (0, 1, 24, []))], [(6, [21, 5], [1]), (23, [20, 2, 5], [34, 1, -1, -36]), (23, [18, 2, 5], [33, 1, -1, -36]), (23, [16, 2, 5], [20, 1, -1, -36]), (20, [15, 3, 5], [50, 1, 1, 1005, 1002, 1, 2, 1, 0, 3, 1, 2, 4, 7, 4, 3, 2, 1, 5, 0, 219, 1, 2]), (23, [14, 2, 5], [13, 1, -1, -36]), (20, [11, 3, 5], [50, 1, 1, 1005, 1002, 1, 2, 1, 0, 3, 1, 2, 4, 7, 4, 3, 2, 1, 5, 0, 219, 1, 2]), (23, [10, 2, 5], [5, 1, -1, -36]), (23, [9, 2, 5], [0, 1, -1, -36]), (20, [7, 3, 5], [50, 1, 1, 1005, 1002, 1, 2, 1, 0, 3, 1, 2, 4, 7, 4, 3, 2, 1, 5, 0, 243, 1, 2]), (20, [6, 3], [30, 0, 1, 0, 0, -1, 3, 2005000]), (20, [6, 3], [30, 0, -1, 0, 0, 1, 3, 2005000]), (24, [0, 3], []), (20, [3, 20], [30, 2, 1, 1, 170, -1, 0, 0]), (102, [20], [7770675568902916283677847627294075626569627356208558085007249638955617140820833992704, 165170]), (23, [20, 2, 5], [34, 1, -1, -36]), (23, [18, 2, 5], [33, 1, -1, -36]), (23, [16, 2, 5], [20, 1, -1, -36]), (23, [14, 2, 5], [13, 1, -1, -36]), (23, [10, 2, 5], [5, 1, -1, -36]), (23, [9, 2, 5], [0, 1, -1, -36]), (102, [18], [7770675568902916283677847627294075626569627356208558085007249638955617140820833992704, 165170]), (23, [18, 2, 5], [33, 1, -1, -36]), (23, [16, 2, 5], [20, 1, -1, -36]), (23, [14, 2, 5], [13, 1, -1, -36]), (23, [10, 2, 5], [5, 1, -1, -36]), (23, [9, 2, 5], [0, 1, -1, -36]), (102, [16], [7770675568902916283677847627294075626569627356208558085007249638955617140820833992704, 165170]), (23, [16, 2, 5], [20, 1, -1, -36]), (23, [14, 2, 5], [13, 1, -1, -36]), (23, [10, 2, 5], [5, 1, -1, -36]), (23, [9, 2, 5], [0, 1, -1, -36]), (102, [14], [7770675568902916283677847627294075626569627356208558085007249638955617140820833992704, 165170]), (23, [14, 2, 5], [13, 1, -1, -36]), (7, [11, 12], [4]), (23, [10, 2, 5], [5, 1, -1, -36]), (23, [9, 2, 5], [0, 1, -1, -36]), (102, [10], [7770675568902916283677847627294075626569627356208558085007249638955617140820833992704, 165170]), (23, [10, 2, 5], [5, 1, -1, -36]), (23, [9, 2, 5], [0, 1, -1, -36]), (102, [9], [7770675568902916283677847627294075626569627356208558085007249638955617140820833992704, 165170]), (23, [9, 2, 5], [0, 1, -1, -36]), (7, [7, 4], [0]), (7, [5, 6], [2])], [], [], [(20, [3, 2, 21], [30, 0, 1, 1, 170, -1, 0, 0, -36, 0, 0])], [], [(21, 5, 1, 1), (21, 6, -4294967296, 0), (7, 4, 0, 0), (5, 6, -4294967296, -1)])
theorem oo_Mo_writeGroup_at_l1_10 {kA : Nat → ClassId} : or_ok PRD kA GG o_Mo_writeGroup_at_l1_10 := by
  refine or_mk fun A ta ws vs hD hth hl => ?_
  intro t0 r0 t2 k2 t4 k4 t5 k5 t6 k6 t7 k7 t9 k9 t10 k10 t11 k11 t12 k12 t14 k14 t15 k15 t16 k16 t18 k18 t20 k20 t21 k21 d0 d1 d2 d3 f0 f1 f2 f3 f4 f5 f6 f7 f8 f9 f10 f11 f12 f13 ta1 w1 le1 s1 f15 f16 f17 f18 f19 f20 ta2 w2 le2 s2 f22 f23 f24 f25 f26 ta3 w3 le3 s3 f28 f29 f30 f31 ta4 w4 le4 s4 f33 f34 f35 f36 ta5 w5 le5 s5 f38 f39 ta6 w6 le6 s6 f41 f42 f43
  replace f0 := shm_4 f0
  replace f1 := shm_2039 f1
  replace f2 := shm_2042 f2
  replace f3 := shm_2041 f3
  replace f4 := shm_732 f4
  replace f5 := shm_2040 f5
  replace f6 := shm_732 f6
  replace f7 := shm_2038 f7
  replace f8 := shm_2037 f8
  replace f9 := shm_597 f9
  replace f10 := shm_126 f10
  replace f11 := shm_127 f11
  replace f12 := shm_5 f12
  replace f13 := shm_210 f13
  replace f15 := shm_2039 f15
  replace f16 := shm_2042 f16
  replace f17 := shm_2041 f17
  replace f18 := shm_2040 f18
  replace f19 := shm_2038 f19
  replace f20 := shm_2037 f20
  replace f22 := shm_2042 f22
  replace f23 := shm_2041 f23
  replace f24 := shm_2040 f24
  replace f25 := shm_2038 f25
  replace f26 := shm_2037 f26
  replace f28 := shm_2041 f28
  replace f29 := shm_2040 f29
  replace f30 := shm_2038 f30
  replace f31 := shm_2037 f31
  replace f33 := shm_2040 f33
  replace f34 := shm_21 f34
  replace f35 := shm_2038 f35
  replace f36 := shm_2037 f36
  replace f38 := shm_2038 f38
  replace f39 := shm_2037 f39
  replace f41 := shm_2037 f41
  replace f42 := shm_37 f42
  replace f43 := shm_6 f43
  have q3 : n_v vs 3 = n_v vs 0 := f12.symm
  simp only [q3] at f4 f6 f9 f10 f11 f13
  have kz_0_170 := fdq_11 hD hth r0
  have nf0 : fc_1 PRD (20, [3, 2, 21], [30, 0, 1, 1, 170, -1, 0, 0, -36, 0, 0]) ws (vs) := by
    refine ⟨nf_in hl rfl, sgq_2035 ?_⟩
    · show 1 * w_fi ws (n_v vs 3) 170 + ((-1) * v_iv (n_v vs 2) + ((-36) * v_iv (n_v vs 21) + 0)) ≤ 0
      rw [q3]
      exact vc_Mo_writeGroup_at_l1_10_0 (v_iv (n_v vs 2)) (v_iv (n_v vs 4)) (v_iv (n_v vs 5)) (v_iv (n_v vs 6)) (v_iv (n_v vs 7)) (v_iv (n_v vs 9)) (v_iv (n_v vs 10)) (v_iv (n_v vs 11)) (v_iv (n_v vs 12)) (v_iv (n_v vs 14)) (v_iv (n_v vs 15)) (v_iv (n_v vs 16)) (v_iv (n_v vs 18)) (v_iv (n_v vs 20)) (v_iv (n_v vs 21)) (w_ei ws (w_ar ws (n_v vs 0) 2)) (w_fi ws (n_v vs 0) 5) (w_fi ws (n_v vs 0) 170) k2 k4 k5 k6 k7 k9 k10 k11 k12 k14 k15 k16 k18 k20 k21 d0 d1 d2 d3 f0 f1 f2 f3 f4 f5 f6 f7 f8 f9 f10 f11 f13 f15 f16 f17 f18 f19 f20 f22 f23 f24 f25 f26 f28 f29 f30 f31 f33 f34 f35 f36 f38 f39 f41 f42 f43 kz_0_170
  refine ⟨(fun _ h => (by cases h)), [], trivial, ?_, (fun _ h => (by cases h))⟩
  rw [List.append_nil]
  exact List.forall_mem_cons.mpr ⟨⟨show (20 : Nat) < 100 from by decide, nf0⟩, (fun _ h => (by cases h))⟩
set_option maxHeartbeats 4000000 in
theorem vc_Mo_writeGroup_at_l1_11_0 (x2 : Int) (x4 : Int) (x5 : Int) (x6 : Int) (x7 : Int) (x8 : Int) (all_0 : Int → Int) (r_0 : Int) (texts_0 : Int) (k2 : 0 ≤ x2 ∧ x2 ≤ 98271988) (k4 : 1 ≤ x4 ∧ x4 ≤ 7) (k5 : 0 ≤ x5 ∧ x5 ≤ 23) (k6 : 1 ≤ x6 ∧ x6 ≤ 24) (k7 : 0 ≤ x7 ∧ x7 ≤ 7) (k8 : 1 ≤ x8 ∧ x8 ≤ 24) (d0 : x5 + 1 ≤ x8 ∧ x8 ≤ x5 + 1) (d1 : x6 + (-4294967296) ≤ x8 ∧ x8 ≤ x6 + 0) (d2 : x6 + (-4294967296) ≤ x5 ∧ x5 ≤ x6 + (-1)) (f0 : x8 = x5 + 1) (f1 : x7 ≠ x4) (f2 : x7 = all_0 (((r_0 + 243) + x5))) (f3 : x5 < x6) (f4 : 1 * x6 + ((-1) * all_0 (r_0 + 0) + 0) ≤ 0) (f5 : (-1) * x6 + (1 * all_0 (r_0 + 0) + 0) ≤ 0) (f6 : 1 * texts_0 + ((-1) * x2 + ((-36) * x5 + 0)) ≤ 0) (kz_0_170 : 0 ≤ texts_0 ∧ texts_0 ≤ 100000000) : 1 * texts_0 + ((-1) * x2 + ((-36) * x8 + 0)) ≤ 0 := by
  first | assumption | omega | grind
def o_Mo_writeGroup_at_l1_11 : or_T := (2, 9, [(0, (2, 0, 0, [165])), (2, (0, 0, 98271988, [])), (4, (0, 1, 7, [])), (5, (0, 0, 23, [])), (6, (0, 1, 24, [])), (7, (0, 0, 7, [])), (8, (0, 1, 24, []))], [(6, [8, 5], [1]), (7, [7, 4], [1]), (20, [7, 3, 5], [50, 1, 1, 1005, 1002, 1, 2, 1, 0, 3, 1, 2, 4, 7, 4, 3, 2, 1, 5, 0, 243, 1, 2]), (7, [5, 6], [2]), (20, [6, 3], [30, 0, 1, 0, 0, -1, 3, 2005000]), (20, [6, 3], [30, 0, -1, 0, 0, 1, 3, 2005000]), (20, [3, 2, 5], [30, 0, 1, 1, 170, -1, 0, 0, -36, 0, 0]), (24, [0, 3], [])], [], [], [(20, [3, 2, 8], [30, 0, 1, 1, 170, -1, 0, 0, -36, 0, 0])], [], [(8, 5, 1, 1), (8, 6, -4294967296, 0), (5, 6, -4294967296, -1)])
theorem oo_Mo_writeGroup_at_l1_11 {kA : Nat → ClassId} : or_ok PRD kA GG o_Mo_writeGroup_at_l1_11 := by
  refine or_mk fun A ta ws vs hD hth hl => ?_
  intro t0 r0 t2 k2 t4 k4 t5 k5 t6 k6 t7 k7 t8 k8 d0 d1 d2 f0 f1 f2 f3 f4 f5 f6 f7
  replace f0 := shm_4 f0
  replace f1 := shm_40 f1
  replace f2 := shm_597 f2
  replace f3 := shm_6 f3
  replace f4 := shm_126 f4
  replace f5 := shm_127 f5
  replace f6 := shm_2035 f6
  replace f7 := shm_5 f7
  have q3 : n_v vs 3 = n_v vs 0 := f7.symm
  simp only [q3] at f2 f4 f5 f6
  have kz_0_170 := fdq_11 hD hth r0
  have nf0 : fc_1 PRD (20, [3, 2, 8], [30, 0, 1, 1, 170, -1, 0, 0, -36, 0, 0]) ws (vs) := by
    refine ⟨nf_in hl rfl, sgq_2035 ?_⟩
    · show 1 * w_fi ws (n_v vs 3) 170 + ((-1) * v_iv (n_v vs 2) + ((-36) * v_iv (n_v vs 8) + 0)) ≤ 0
      rw [q3]
      exact vc_Mo_writeGroup_at_l1_11_0 (v_iv (n_v vs 2)) (v_iv (n_v vs 4)) (v_iv (n_v vs 5)) (v_iv (n_v vs 6)) (v_iv (n_v vs 7)) (v_iv (n_v vs 8)) (w_ei ws (w_ar ws (n_v vs 0) 2)) (w_fi ws (n_v vs 0) 5) (w_fi ws (n_v vs 0) 170) k2 k4 k5 k6 k7 k8 d0 d1 d2 f0 f1 f2 f3 f4 f5 f6 kz_0_170
  refine ⟨(fun _ h => (by cases h)), [], trivial, ?_, (fun _ h => (by cases h))⟩
  rw [List.append_nil]
  exact List.forall_mem_cons.mpr ⟨⟨show (20 : Nat) < 100 from by decide, nf0⟩, (fun _ h => (by cases h))⟩
set_option maxHeartbeats 4000000 in
theorem vc_Mo_writeGroup_at_l1_12_0 (x2 : Int) (x4 : Int) (x5 : Int) (x6 : Int) (all_0 : Int → Int) (r_0 : Int) (texts_0 : Int) (k2 : 0 ≤ x2 ∧ x2 ≤ 98271988) (k4 : 1 ≤ x4 ∧ x4 ≤ 7) (k5 : 2 ≤ x5 ∧ x5 ≤ 8) (k6 : 0 ≤ x6 ∧ x6 ≤ 8) (d0 : x6 + 0 ≤ x5 ∧ x5 ≤ x6 + 4294967296) (d1 : x5 + (-4294967296) ≤ x4 ∧ x4 ≤ x5 + (-1)) (f0 : x6 ≤ x5) (f1 : 1 * x6 + ((-1) * all_0 (r_0 + 2) + 0) ≤ 0) (f2 : (-1) * x6 + (1 * all_0 (r_0 + 2) + 0) ≤ 0) (f3 : 1 * texts_0 + ((-1) * x2 + ((-287858) * x5 + (287858 * x4 + 0))) ≤ (-286994)) (kz_0_170 : 0 ≤ texts_0 ∧ texts_0 ≤ 100000000) : 1 * texts_0 + ((-1) * x2 + 0) ≤ 1728012 := by
  first | assumption | omega | grind
def o_Mo_writeGroup_at_l1_12 : or_T := (177, 7, [(0, (2, 0, 0, [165])), (2, (0, 0, 98271988, [])), (4, (0, 1, 7, [])), (5, (0, 2, 8, [])), (6, (0, 0, 8, []))], [(7, [5, 6], [3]), (20, [6, 3], [30, 0, 1, 0, 0, -1, 3, 2005002]), (20, [6, 3], [30, 0, -1, 0, 0, 1, 3, 2005002]), (20, [3, 2, 5, 4], [30, -286994, 1, 1, 170, -1, 0, 0, -287858, 0, 0, 287858, 0, 0]), (24, [0, 3], [])], [], [], [(20, [0, 2], [30, 1728012, 1, 1, 170, -1, 0, 0])], [], [(5, 6, 0, 4294967296), (4, 5, -4294967296, -1)])
theorem oo_Mo_writeGroup_at_l1_12 {kA : Nat → ClassId} : or_ok PRD kA GG o_Mo_writeGroup_at_l1_12 := by
  refine or_mk fun A ta ws vs hD hth hl => ?_
  intro t0 r0 t2 k2 t4 k4 t5 k5 t6 k6 d0 d1 f0 f1 f2 f3 f4
  replace f1 := shm_123 f1
  replace f2 := shm_124 f2
  replace f3 := shm_2050 f3
  replace f4 := shm_5 f4
  have q3 : n_v vs 3 = n_v vs 0 := f4.symm
  simp only [q3] at f1 f2 f3
  have kz_0_170 := fdq_11 hD hth r0
  have nf0 : fc_1 PRD (20, [0, 2], [30, 1728012, 1, 1, 170, -1, 0, 0]) ws (vs) := ⟨nf_in hl rfl, sgq_2048 (vc_Mo_writeGroup_at_l1_12_0 (v_iv (n_v vs 2)) (v_iv (n_v vs 4)) (v_iv (n_v vs 5)) (v_iv (n_v vs 6)) (w_ei ws (w_ar ws (n_v vs 0) 2)) (w_fi ws (n_v vs 0) 5) (w_fi ws (n_v vs 0) 170) k2 k4 k5 k6 d0 d1 (shm_2 f0) f1 f2 f3 kz_0_170)⟩
  refine ⟨(fun _ h => (by cases h)), [], trivial, ?_, (fun _ h => (by cases h))⟩
  rw [List.append_nil]
  exact List.forall_mem_cons.mpr ⟨⟨show (20 : Nat) < 100 from by decide, nf0⟩, (fun _ h => (by cases h))⟩
def o_Mo_writeGroup_at_l1_13 : or_T := (117, 14, [(0, (2, 0, 0, [165])), (2, (0, 0, 98271988, [])), (3, (2, 0, 0, [165])), (4, (0, 1, 6, [])), (5, (0, 2, 7, [])), (6, (0, 3, 8, [])), (7, (2, 0, 0, [167])), (8, (0, 0, 66297, [])), (9, (0, 531, 531, [])), (10, (0, 531, 66828, [])), (11, (0, 533, 66835, [])), (12, (0, 1, 6, []))], [(7, [12, 4], [0]), (10, [12, 7, 11], []), (1, [11, 10, 5], []), (1, [10, 8, 9], []), (9, [8, 3], [5]), (9, [7, 3], [2]), (7, [5, 6], [2]), (20, [6, 3], [30, 0, 1, 0, 0, -1, 3, 2005002]), (20, [6, 3], [30, 0, -1, 0, 0, 1, 3, 2005002]), (20, [3, 2, 5, 4], [30, -286994, 1, 1, 170, -1, 0, 0, -287858, 0, 0, 287858, 0, 0]), (24, [0, 3], [])], [], [(0, 0, 99999994, [])], [(20, [3, 14], [30, 0, 1, 1, 170, -1, 0, 0]), (23, [14, 2, 5, 4], [-286994, 1, -1, -287858, 287858])], [], [(12, 4, 0, 0), (11, 5, 531, 66828), (11, 6, -4294967296, 66827), (11, 10, 2, 7), (11, 8, 533, 538), (10, 8, 531, 531), (5, 6, -4294967296, -1), (4, 5, -4294967296, -1)])
theorem oo_Mo_writeGroup_at_l1_13 {kA : Nat → ClassId} : or_ok PRD kA GG o_Mo_writeGroup_at_l1_13 := by
  refine or_mk fun A ta ws vs hD hth hl => ?_
  intro t0 r0 t2 k2 t3 r3 t4 k4 t5 k5 t6 k6 t7 r7 t8 k8 t9 k9 t10 k10 t11 k11 t12 k12 d0 d1 d2 d3 d4 d5 d6 d7 f0 f1 f2 f3 f4 f5 f6 f7 f8 f9 f10
  replace f0 := shm_37 f0
  replace f1 := shm_107 f1
  replace f2 := shm_12 f2
  replace f3 := shm_12 f3
  replace f4 := shm_110 f4
  replace f5 := shm_120 f5
  replace f6 := shm_6 f6
  replace f7 := shm_123 f7
  replace f8 := shm_124 f8
  replace f9 := shm_2050 f9
  replace f10 := shm_5 f10
  have q3 : n_v vs 3 = n_v vs 0 := f10.symm
  simp only [q3] at f4 f5 f7 f8 f9
  have cr_0_2 := fdq_10 hD hth r0
  have ad_7 : v_ad (n_v vs 7) = w_ar ws (n_v vs 0) 2 := congrArg v_ad f5
  simp only [ad_7] at f1
  have h1 : v_iv (n_v vs 12) = w_ei ws (w_ar ws (n_v vs 0) 2) (v_iv (n_v vs 11)) := f1
  have g4 : v_iv (n_v vs 8) = w_fi ws (n_v vs 0) 5 := congrArg v_iv f4
  have cg1_F5_2 : v_iv (n_v vs 11) = w_fi ws (n_v vs 0) 5 + 2 → w_el ws (w_ar ws (n_v vs 0) 2) (v_iv (n_v vs 11)).toNat = w_el ws (w_ar ws (n_v vs 0) 2) (w_fi ws (n_v vs 0) 5 + 2).toNat := fun h => by rw [h]
  have kz_0_170 := fdq_11 hD hth r0
  have kv0 := fdq_11 hD hth r0
  obtain ⟨x, ex, hx⟩ := iv_ex (ta := ta) (lo := 0) (hi := 99999994) (z := w_fi ws (n_v vs 0) 170) (by omega) (by omega) (by omega) (by omega)
  have ex2 : v_iv (Value.int x) = w_fi ws (n_v vs 0) 170 := ex
  have ex3 : 0 ≤ v_iv (Value.int x) ∧ v_iv (Value.int x) ≤ 99999994 := tv_rng hx
  have e_2 : n_v (vs ++ [Value.int x]) 2 = n_v vs 2 := n_v_old (by rw [hl]; decide)
  have e_3 : n_v (vs ++ [Value.int x]) 3 = n_v vs 3 := n_v_old (by rw [hl]; decide)
  have e_4 : n_v (vs ++ [Value.int x]) 4 = n_v vs 4 := n_v_old (by rw [hl]; decide)
  have e_5 : n_v (vs ++ [Value.int x]) 5 = n_v vs 5 := n_v_old (by rw [hl]; decide)
  have e_14 : n_v (vs ++ [Value.int x]) 14 = Value.int x := n_v_new hl
  have nf0 : fc_1 PRD (20, [3, 14], [30, 0, 1, 1, 170, -1, 0, 0]) ws (vs ++ [Value.int x]) := by
    refine ⟨nf_inA hl rfl, sgq_131 ?_⟩
    · show 1 * w_fi ws (n_v (vs ++ [Value.int x]) 3) 170 + ((-1) * v_iv (n_v (vs ++ [Value.int x]) 14) + 0) ≤ 0
      simp only [e_3, e_14, q3]
      omega
  have nf1 : fc_1 PRD (23, [14, 2, 5, 4], [-286994, 1, -1, -287858, 287858]) ws (vs ++ [Value.int x]) := by
    refine ⟨nf_inA hl rfl, sgq_2051 ?_⟩
    · show 1 * v_iv (n_v (vs ++ [Value.int x]) 14) + ((-1) * v_iv (n_v (vs ++ [Value.int x]) 2) + ((-287858) * v_iv (n_v (vs ++ [Value.int x]) 5) + (287858 * v_iv (n_v (vs ++ [Value.int x]) 4) + 0))) ≤ (-286994)
      simp only [e_2, e_4, e_5, e_14]
      omega
  exact ⟨(fun _ h => (by cases h)), [Value.int x], ag_one hx, List.forall_mem_cons.mpr ⟨⟨show (20 : Nat) < 100 from by decide, nf0⟩, List.forall_mem_cons.mpr ⟨⟨show (23 : Nat) < 100 from by decide, nf1⟩, (fun _ h => (by cases h))⟩⟩, (fun _ h => (by cases h))⟩
set_option maxHeartbeats 4000000 in
theorem vc_Mo_writeGroup_at_l1_14_0 (x2 : Int) (x4 : Int) (x5 : Int) (x6 : Int) (x8 : Int) (x12 : Int) (x14 : Int) (r_0 : Int) (all_0 : Int → Int) (texts_0 : Int) (gx : Int) (k2 : 0 ≤ x2 ∧ x2 ≤ 98271988) (k4 : 1 ≤ x4 ∧ x4 ≤ 6) (k5 : 2 ≤ x5 ∧ x5 ≤ 7) (k6 : 3 ≤ x6 ∧ x6 ≤ 8) (k8 : 0 ≤ x8 ∧ x8 ≤ 66297) (k12 : 1 ≤ x12 ∧ x12 ≤ 6) (k14 : 0 ≤ x14 ∧ x14 ≤ 99999994) (d0 : x4 + 0 ≤ x12 ∧ x12 ≤ x4 + 0) (d1 : x6 + (-4294967296) ≤ x5 ∧ x5 ≤ x6 + (-1)) (d2 : x5 + (-4294967296) ≤ x4 ∧ x4 ≤ x5 + (-1)) (g0 : x8 = r_0) (f2 : 1 * x14 + ((-1) * x2 + ((-287858) * x5 + (287858 * x4 + 0))) ≤ (-286994)) (f3 : 1 * x6 + ((-1) * all_0 (r_0 + 2) + 0) ≤ 0) (f4 : (-1) * x6 + (1 * all_0 (r_0 + 2) + 0) ≤ 0) (f6 : 1 * texts_0 + ((-1) * x14 + 0) ≤ 6) (f8 : 1 * x14 + ((-1) * x2 + ((-287858) * x5 + (287858 * x4 + 0))) ≤ (-286994)) (f9 : x12 = x4) (f10 : x5 < x6) (kz_0_170 : 0 ≤ texts_0 ∧ texts_0 ≤ 100000000) (ex2 : gx = texts_0) (ex3 : 0 ≤ gx ∧ gx ≤ 99999992) : 1 * texts_0 + ((-1) * gx + 0) ≤ 0 := by
  first | assumption | omega | grind
set_option maxHeartbeats 4000000 in
theorem vc_Mo_writeGroup_at_l1_14_1 (x2 : Int) (x4 : Int) (x5 : Int) (x6 : Int) (x8 : Int) (x12 : Int) (x14 : Int) (r_0 : Int) (all_0 : Int → Int) (texts_0 : Int) (gx : Int) (k2 : 0 ≤ x2 ∧ x2 ≤ 98271988) (k4 : 1 ≤ x4 ∧ x4 ≤ 6) (k5 : 2 ≤ x5 ∧ x5 ≤ 7) (k6 : 3 ≤ x6 ∧ x6 ≤ 8) (k8 : 0 ≤ x8 ∧ x8 ≤ 66297) (k12 : 1 ≤ x12 ∧ x12 ≤ 6) (k14 : 0 ≤ x14 ∧ x14 ≤ 99999994) (d0 : x4 + 0 ≤ x12 ∧ x12 ≤ x4 + 0) (d1 : x6 + (-4294967296) ≤ x5 ∧ x5 ≤ x6 + (-1)) (d2 : x5 + (-4294967296) ≤ x4 ∧ x4 ≤ x5 + (-1)) (g0 : x8 = r_0) (f2 : 1 * x14 + ((-1) * x2 + ((-287858) * x5 + (287858 * x4 + 0))) ≤ (-286994)) (f3 : 1 * x6 + ((-1) * all_0 (r_0 + 2) + 0) ≤ 0) (f4 : (-1) * x6 + (1 * all_0 (r_0 + 2) + 0) ≤ 0) (f6 : 1 * texts_0 + ((-1) * x14 + 0) ≤ 6) (f8 : 1 * x14 + ((-1) * x2 + ((-287858) * x5 + (287858 * x4 + 0))) ≤ (-286994)) (f9 : x12 = x4) (f10 : x5 < x6) (kz_0_170 : 0 ≤ texts_0 ∧ texts_0 ≤ 100000000) (ex2 : gx = texts_0) (ex3 : 0 ≤ gx ∧ gx ≤ 99999992) : 1 * gx + ((-1) * x2 + ((-287858) * x5 + (287858 * x4 + 0))) ≤ (-286988) := by
  first | assumption | omega | grind
def o_Mo_writeGroup_at_l1_14 : or_T := (149, 24, [(0, (2, 0, 0, [165])), (2, (0, 0, 98271988, [])), (3, (2, 0, 0, [165])), (4, (0, 1, 6, [])), (5, (0, 2, 7, [])), (6, (0, 3, 8, [])), (7, (2, 0, 0, [167])), (8, (0, 0, 66297, [])), (12, (0, 1, 6, [])), (14, (0, 0, 99999994, []))], [(9, [8, 3], [5]), (9, [7, 3], [2]), (23, [14, 2, 5, 4], [-286994, 1, -1, -287858, 287858]), (20, [6, 3], [30, 0, 1, 0, 0, -1, 3, 2005002]), (20, [6, 3], [30, 0, -1, 0, 0, 1, 3, 2005002]), (24, [0, 3], []), (20, [3, 14], [30, 6, 1, 1, 170, -1, 0, 0]), (102, [14], [7770675568902916283677847627294075626569627356208558085007249638955617140820833992704, 165170]), (23, [14, 2, 5, 4], [-286994, 1, -1, -287858, 287858]), (7, [12, 4], [0]), (7, [5, 6], [2])], [], [(0, 0, 99999992, [])], [(20, [3, 24], [30, 0, 1, 1, 170, -1, 0, 0]), (23, [24, 2, 5, 4], [-286988, 1, -1, -287858, 287858])], [], [(12, 4, 0, 0), (5, 6, -4294967296, -1), (4, 5, -4294967296, -1)])
theorem oo_Mo_writeGroup_at_l1_14 {kA : Nat → ClassId} : or_ok PRD kA GG o_Mo_writeGroup_at_l1_14 := by
  refine or_mk fun A ta ws vs hD hth hl => ?_
  intro t0 r0 t2 k2 t3 r3 t4 k4 t5 k5 t6 k6 t7 r7 t8 k8 t12 k12 t14 k14 d0 d1 d2 f0 f1 f2 f3 f4 f5 f6 ta1 w1 le1 s1 f8 f9 f10
  replace f0 := shm_110 f0
  replace f1 := shm_120 f1
  replace f2 := shm_2051 f2
  replace f3 := shm_123 f3
  replace f4 := shm_124 f4
  replace f5 := shm_5 f5
  replace f6 := shm_211 f6
  replace f8 := shm_2051 f8
  replace f9 := shm_37 f9
  replace f10 := shm_6 f10
  have q3 : n_v vs 3 = n_v vs 0 := f5.symm
  simp only [q3] at f0 f1 f3 f4 f6
  have cr_0_2 := fdq_10 hD hth r0
  have ad_7 : v_ad (n_v vs 7) = w_ar ws (n_v vs 0) 2 := congrArg v_ad f1
  have g0 : v_iv (n_v vs 8) = w_fi ws (n_v vs 0) 5 := congrArg v_iv f0
  have kz_0_170 := fdq_11 hD hth r0
  have kv0 := fdq_11 hD hth r0
  obtain ⟨x, ex, hx⟩ := iv_ex (ta := ta) (lo := 0) (hi := 99999992) (z := w_fi ws (n_v vs 0) 170) (by omega) (by omega) (by omega) (by omega)
  have ex2 : v_iv (Value.int x) = w_fi ws (n_v vs 0) 170 := ex
  have ex3 : 0 ≤ v_iv (Value.int x) ∧ v_iv (Value.int x) ≤ 99999992 := tv_rng hx
  have e_2 : n_v (vs ++ [Value.int x]) 2 = n_v vs 2 := n_v_old (by rw [hl]; decide)
  have e_3 : n_v (vs ++ [Value.int x]) 3 = n_v vs 3 := n_v_old (by rw [hl]; decide)
  have e_4 : n_v (vs ++ [Value.int x]) 4 = n_v vs 4 := n_v_old (by rw [hl]; decide)
  have e_5 : n_v (vs ++ [Value.int x]) 5 = n_v vs 5 := n_v_old (by rw [hl]; decide)
  have e_24 : n_v (vs ++ [Value.int x]) 24 = Value.int x := n_v_new hl
  have nf0 : fc_1 PRD (20, [3, 24], [30, 0, 1, 1, 170, -1, 0, 0]) ws (vs ++ [Value.int x]) := by
    refine ⟨nf_inA hl rfl, sgq_131 ?_⟩
    · show 1 * w_fi ws (n_v (vs ++ [Value.int x]) 3) 170 + ((-1) * v_iv (n_v (vs ++ [Value.int x]) 24) + 0) ≤ 0
      simp only [e_3, e_24, q3]
      exact vc_Mo_writeGroup_at_l1_14_0 (v_iv (n_v vs 2)) (v_iv (n_v vs 4)) (v_iv (n_v vs 5)) (v_iv (n_v vs 6)) (v_iv (n_v vs 8)) (v_iv (n_v vs 12)) (v_iv (n_v vs 14)) (w_fi ws (n_v vs 0) 5) (w_ei ws (w_ar ws (n_v vs 0) 2)) (w_fi ws (n_v vs 0) 170) (v_iv (Value.int x)) k2 k4 k5 k6 k8 k12 k14 d0 d1 d2 g0 f2 f3 f4 f6 f8 f9 f10 kz_0_170 ex2 ex3
  have nf1 : fc_1 PRD (23, [24, 2, 5, 4], [-286988, 1, -1, -287858, 287858]) ws (vs ++ [Value.int x]) := by
    refine ⟨nf_inA hl rfl, sgq_2052 ?_⟩
    · show 1 * v_iv (n_v (vs ++ [Value.int x]) 24) + ((-1) * v_iv (n_v (vs ++ [Value.int x]) 2) + ((-287858) * v_iv (n_v (vs ++ [Value.int x]) 5) + (287858 * v_iv (n_v (vs ++ [Value.int x]) 4) + 0))) ≤ (-286988)
      simp only [e_2, e_4, e_5, e_24]
      exact vc_Mo_writeGroup_at_l1_14_1 (v_iv (n_v vs 2)) (v_iv (n_v vs 4)) (v_iv (n_v vs 5)) (v_iv (n_v vs 6)) (v_iv (n_v vs 8)) (v_iv (n_v vs 12)) (v_iv (n_v vs 14)) (w_fi ws (n_v vs 0) 5) (w_ei ws (w_ar ws (n_v vs 0) 2)) (w_fi ws (n_v vs 0) 170) (v_iv (Value.int x)) k2 k4 k5 k6 k8 k12 k14 d0 d1 d2 g0 f2 f3 f4 f6 f8 f9 f10 kz_0_170 ex2 ex3
  exact ⟨(fun _ h => (by cases h)), [Value.int x], ag_one hx, List.forall_mem_cons.mpr ⟨⟨show (20 : Nat) < 100 from by decide, nf0⟩, List.forall_mem_cons.mpr ⟨⟨show (23 : Nat) < 100 from by decide, nf1⟩, (fun _ h => (by cases h))⟩⟩, (fun _ h => (by cases h))⟩
set_option maxHeartbeats 4000000 in
theorem vc_Mo_writeGroup_at_l1_15_0 (x2 : Int) (x4 : Int) (x5 : Int) (x6 : Int) (x12 : Int) (x14 : Int) (x24 : Int) (all_0 : Int → Int) (r_0 : Int) (texts_0 : Int) (gx : Int) (k2 : 0 ≤ x2 ∧ x2 ≤ 98271988) (k4 : 1 ≤ x4 ∧ x4 ≤ 6) (k5 : 2 ≤ x5 ∧ x5 ≤ 7) (k6 : 3 ≤ x6 ∧ x6 ≤ 8) (k12 : 1 ≤ x12 ∧ x12 ≤ 6) (k14 : 0 ≤ x14 ∧ x14 ≤ 99999994) (k24 : 0 ≤ x24 ∧ x24 ≤ 99999992) (d0 : x4 + 0 ≤ x12 ∧ x12 ≤ x4 + 0) (d1 : x6 + (-4294967296) ≤ x5 ∧ x5 ≤ x6 + (-1)) (d2 : x5 + (-4294967296) ≤ x4 ∧ x4 ≤ x5 + (-1)) (f0 : 1 * x24 + ((-1) * x2 + ((-287858) * x5 + (287858 * x4 + 0))) ≤ (-286988)) (f1 : 1 * x14 + ((-1) * x2 + ((-287858) * x5 + (287858 * x4 + 0))) ≤ (-286994)) (f2 : 1 * x6 + ((-1) * all_0 (r_0 + 2) + 0) ≤ 0) (f3 : (-1) * x6 + (1 * all_0 (r_0 + 2) + 0) ≤ 0) (f5 : 1 * texts_0 + ((-1) * x24 + 0) ≤ 8) (f7 : 1 * x24 + ((-1) * x2 + ((-287858) * x5 + (287858 * x4 + 0))) ≤ (-286988)) (f8 : 1 * x14 + ((-1) * x2 + ((-287858) * x5 + (287858 * x4 + 0))) ≤ (-286994)) (f10 : 1 * x14 + ((-1) * x2 + ((-287858) * x5 + (287858 * x4 + 0))) ≤ (-286994)) (f11 : x12 = x4) (f12 : x5 < x6) (kz_0_170 : 0 ≤ texts_0 ∧ texts_0 ≤ 100000000) (ex2 : gx = texts_0) (ex3 : 0 ≤ gx ∧ gx ≤ 99999997) : 1 * texts_0 + ((-1) * gx + 0) ≤ 0 := by
  first | assumption | omega | grind
set_option maxHeartbeats 4000000 in
theorem vc_Mo_writeGroup_at_l1_15_1 (x2 : Int) (x4 : Int) (x5 : Int) (x6 : Int) (x12 : Int) (x14 : Int) (x24 : Int) (all_0 : Int → Int) (r_0 : Int) (texts_0 : Int) (gx : Int) (k2 : 0 ≤ x2 ∧ x2 ≤ 98271988) (k4 : 1 ≤ x4 ∧ x4 ≤ 6) (k5 : 2 ≤ x5 ∧ x5 ≤ 7) (k6 : 3 ≤ x6 ∧ x6 ≤ 8) (k12 : 1 ≤ x12 ∧ x12 ≤ 6) (k14 : 0 ≤ x14 ∧ x14 ≤ 99999994) (k24 : 0 ≤ x24 ∧ x24 ≤ 99999992) (d0 : x4 + 0 ≤ x12 ∧ x12 ≤ x4 + 0) (d1 : x6 + (-4294967296) ≤ x5 ∧ x5 ≤ x6 + (-1)) (d2 : x5 + (-4294967296) ≤ x4 ∧ x4 ≤ x5 + (-1)) (f0 : 1 * x24 + ((-1) * x2 + ((-287858) * x5 + (287858 * x4 + 0))) ≤ (-286988)) (f1 : 1 * x14 + ((-1) * x2 + ((-287858) * x5 + (287858 * x4 + 0))) ≤ (-286994)) (f2 : 1 * x6 + ((-1) * all_0 (r_0 + 2) + 0) ≤ 0) (f3 : (-1) * x6 + (1 * all_0 (r_0 + 2) + 0) ≤ 0) (f5 : 1 * texts_0 + ((-1) * x24 + 0) ≤ 8) (f7 : 1 * x24 + ((-1) * x2 + ((-287858) * x5 + (287858 * x4 + 0))) ≤ (-286988)) (f8 : 1 * x14 + ((-1) * x2 + ((-287858) * x5 + (287858 * x4 + 0))) ≤ (-286994)) (f10 : 1 * x14 + ((-1) * x2 + ((-287858) * x5 + (287858 * x4 + 0))) ≤ (-286994)) (f11 : x12 = x4) (f12 : x5 < x6) (kz_0_170 : 0 ≤ texts_0 ∧ texts_0 ≤ 100000000) (ex2 : gx = texts_0) (ex3 : 0 ≤ gx ∧ gx ≤ 99999997) : 1 * gx + ((-1) * x2 + ((-287858) * x5 + (287858 * x4 + 0))) ≤ (-286980) := by
  first | assumption | omega | grind
def o_Mo_writeGroup_at_l1_15 : or_T := (156, 26, [(0, (2, 0, 0, [165])), (2, (0, 0, 98271988, [])), (3, (2, 0, 0, [165])), (4, (0, 1, 6, [])), (5, (0, 2, 7, [])), (6, (0, 3, 8, [])), (12, (0, 1, 6, [])), (14, (0, 0, 99999994, [])), (24, (0, 0, 99999992, []))], [(23, [24, 2, 5, 4], [-286988, 1, -1, -287858, 287858]), (23, [14, 2, 5, 4], [-286994, 1, -1, -287858, 287858]), (20, [6, 3], [30, 0, 1, 0, 0, -1, 3, 2005002]), (20, [6, 3], [30, 0, -1, 0, 0, 1, 3, 2005002]), (24, [0, 3], []), (20, [3, 24], [30, 8, 1, 1, 170, -1, 0, 0]), (102, [24], [7770675568902916283677847627294075626569627356208558085007249638955617140820833992704, 165170]), (23, [24, 2, 5, 4], [-286988, 1, -1, -287858, 287858]), (23, [14, 2, 5, 4], [-286994, 1, -1, -287858, 287858]), (102, [14], [7770675568902916283677847627294075626569627356208558085007249638955617140820833992704, 165170]), (23, [14, 2, 5, 4], [-286994, 1, -1, -287858, 287858]), (7, [12, 4], [0]), (7, [5, 6], [2])], [], [(0, 0, 99999997, [])], [(20, [3, 26], [30, 0, 1, 1, 170, -1, 0, 0]), (23, [26, 2, 5, 4], [-286980, 1, -1, -287858, 287858])], [], [(12, 4, 0, 0), (5, 6, -4294967296, -1), (4, 5, -4294967296, -1)])
theorem oo_Mo_writeGroup_at_l1_15 {kA : Nat → ClassId} : or_ok PRD kA GG o_Mo_writeGroup_at_l1_15 := by
  refine or_mk fun A ta ws vs hD hth hl => ?_
  intro t0 r0 t2 k2 t3 r3 t4 k4 t5 k5 t6 k6 t12 k12 t14 k14 t24 k24 d0 d1 d2 f0 f1 f2 f3 f4 f5 ta1 w1 le1 s1 f7 f8 ta2 w2 le2 s2 f10 f11 f12
  replace f0 := shm_2052 f0
  replace f1 := shm_2051 f1
  replace f2 := shm_123 f2
  replace f3 := shm_124 f3
  replace f4 := shm_5 f4
  replace f5 := shm_160 f5
  replace f7 := shm_2052 f7
  replace f8 := shm_2051 f8
  replace f10 := shm_2051 f10
  replace f11 := shm_37 f11
  replace f12 := shm_6 f12
  have q3 : n_v vs 3 = n_v vs 0 := f4.symm
  simp only [q3] at f2 f3 f5
  have cr_0_2 := fdq_10 hD hth r0
  have kz_0_170 := fdq_11 hD hth r0
  have kv0 := fdq_11 hD hth r0
  obtain ⟨x, ex, hx⟩ := iv_ex (ta := ta) (lo := 0) (hi := 99999997) (z := w_fi ws (n_v vs 0) 170) (by omega) (by omega) (by omega) (by omega)
  have ex2 : v_iv (Value.int x) = w_fi ws (n_v vs 0) 170 := ex
  have ex3 : 0 ≤ v_iv (Value.int x) ∧ v_iv (Value.int x) ≤ 99999997 := tv_rng hx
  have e_2 : n_v (vs ++ [Value.int x]) 2 = n_v vs 2 := n_v_old (by rw [hl]; decide)
  have e_3 : n_v (vs ++ [Value.int x]) 3 = n_v vs 3 := n_v_old (by rw [hl]; decide)
  have e_4 : n_v (vs ++ [Value.int x]) 4 = n_v vs 4 := n_v_old (by rw [hl]; decide)
  have e_5 : n_v (vs ++ [Value.int x]) 5 = n_v vs 5 := n_v_old (by rw [hl]; decide)
  have e_26 : n_v (vs ++ [Value.int x]) 26 = Value.int x := n_v_new hl
  have nf0 : fc_1 PRD (20, [3, 26], [30, 0, 1, 1, 170, -1, 0, 0]) ws (vs ++ [Value.int x]) := by
    refine ⟨nf_inA hl rfl, sgq_131 ?_⟩
    · show 1 * w_fi ws (n_v (vs ++ [Value.int x]) 3) 170 + ((-1) * v_iv (n_v (vs ++ [Value.int x]) 26) + 0) ≤ 0
      simp only [e_3, e_26, q3]
      exact vc_Mo_writeGroup_at_l1_15_0 (v_iv (n_v vs 2)) (v_iv (n_v vs 4)) (v_iv (n_v vs 5)) (v_iv (n_v vs 6)) (v_iv (n_v vs 12)) (v_iv (n_v vs 14)) (v_iv (n_v vs 24)) (w_ei ws (w_ar ws (n_v vs 0) 2)) (w_fi ws (n_v vs 0) 5) (w_fi ws (n_v vs 0) 170) (v_iv (Value.int x)) k2 k4 k5 k6 k12 k14 k24 d0 d1 d2 f0 f1 f2 f3 f5 f7 f8 f10 f11 f12 kz_0_170 ex2 ex3
  have nf1 : fc_1 PRD (23, [26, 2, 5, 4], [-286980, 1, -1, -287858, 287858]) ws (vs ++ [Value.int x]) := by
    refine ⟨nf_inA hl rfl, sgq_2053 ?_⟩
    · show 1 * v_iv (n_v (vs ++ [Value.int x]) 26) + ((-1) * v_iv (n_v (vs ++ [Value.int x]) 2) + ((-287858) * v_iv (n_v (vs ++ [Value.int x]) 5) + (287858 * v_iv (n_v (vs ++ [Value.int x]) 4) + 0))) ≤ (-286980)
      simp only [e_2, e_4, e_5, e_26]
      exact vc_Mo_writeGroup_at_l1_15_1 (v_iv (n_v vs 2)) (v_iv (n_v vs 4)) (v_iv (n_v vs 5)) (v_iv (n_v vs 6)) (v_iv (n_v vs 12)) (v_iv (n_v vs 14)) (v_iv (n_v vs 24)) (w_ei ws (w_ar ws (n_v vs 0) 2)) (w_fi ws (n_v vs 0) 5) (w_fi ws (n_v vs 0) 170) (v_iv (Value.int x)) k2 k4 k5 k6 k12 k14 k24 d0 d1 d2 f0 f1 f2 f3 f5 f7 f8 f10 f11 f12 kz_0_170 ex2 ex3
  exact ⟨(fun _ h => (by cases h)), [Value.int x], ag_one hx, List.forall_mem_cons.mpr ⟨⟨show (20 : Nat) < 100 from by decide, nf0⟩, List.forall_mem_cons.mpr ⟨⟨show (23 : Nat) < 100 from by decide, nf1⟩, (fun _ h => (by cases h))⟩⟩, (fun _ h => (by cases h))⟩
set_option maxHeartbeats 4000000 in
theorem vc_Mo_writeGroup_at_l1_16_0 (x2 : Int) (x4 : Int) (x5 : Int) (x6 : Int) (x12 : Int) (x14 : Int) (x24 : Int) (x26 : Int) (all_0 : Int → Int) (r_0 : Int) (texts_0 : Int) (gx : Int) (k2 : 0 ≤ x2 ∧ x2 ≤ 98271988) (k4 : 1 ≤ x4 ∧ x4 ≤ 6) (k5 : 2 ≤ x5 ∧ x5 ≤ 7) (k6 : 3 ≤ x6 ∧ x6 ≤ 8) (k12 : 1 ≤ x12 ∧ x12 ≤ 6) (k14 : 0 ≤ x14 ∧ x14 ≤ 99999994) (k24 : 0 ≤ x24 ∧ x24 ≤ 99999992) (k26 : 0 ≤ x26 ∧ x26 ≤ 99999997) (d0 : x4 + 0 ≤ x12 ∧ x12 ≤ x4 + 0) (d1 : x6 + (-4294967296) ≤ x5 ∧ x5 ≤ x6 + (-1)) (d2 : x5 + (-4294967296) ≤ x4 ∧ x4 ≤ x5 + (-1)) (f0 : 1 * x26 + ((-1) * x2 + ((-287858) * x5 + (287858 * x4 + 0))) ≤ (-286980)) (f1 : 1 * x24 + ((-1) * x2 + ((-287858) * x5 + (287858 * x4 + 0))) ≤ (-286988)) (f2 : 1 * x14 + ((-1) * x2 + ((-287858) * x5 + (287858 * x4 + 0))) ≤ (-286994)) (f3 : 1 * x6 + ((-1) * all_0 (r_0 + 2) + 0) ≤ 0) (f4 : (-1) * x6 + (1 * all_0 (r_0 + 2) + 0) ≤ 0) (f6 : 1 * texts_0 + ((-1) * x26 + 0) ≤ 3) (f8 : 1 * x26 + ((-1) * x2 + ((-287858) * x5 + (287858 * x4 + 0))) ≤ (-286980)) (f9 : 1 * x24 + ((-1) * x2 + ((-287858) * x5 + (287858 * x4 + 0))) ≤ (-286988)) (f10 : 1 * x14 + ((-1) * x2 + ((-287858) * x5 + (287858 * x4 + 0))) ≤ (-286994)) (f12 : 1 * x24 + ((-1) * x2 + ((-287858) * x5 + (287858 * x4 + 0))) ≤ (-286988)) (f13 : 1 * x14 + ((-1) * x2 + ((-287858) * x5 + (287858 * x4 + 0))) ≤ (-286994)) (f15 : 1 * x14 + ((-1) * x2 + ((-287858) * x5 + (287858 * x4 + 0))) ≤ (-286994)) (f16 : x12 = x4) (f17 : x5 < x6) (kz_0_170 : 0 ≤ texts_0 ∧ texts_0 ≤ 100000000) (ex2 : gx = texts_0) (ex3 : 0 ≤ gx ∧ gx ≤ 99712161) : 1 * texts_0 + ((-1) * gx + 0) ≤ 0 := by
  first | assumption | omega | grind
set_option maxHeartbeats 4000000 in
theorem vc_Mo_writeGroup_at_l1_16_1 (x2 : Int) (x4 : Int) (x5 : Int) (x6 : Int) (x12 : Int) (x14 : Int) (x24 : Int) (x26 : Int) (all_0 : Int → Int) (r_0 : Int) (texts_0 : Int) (gx : Int) (k2 : 0 ≤ x2 ∧ x2 ≤ 98271988) (k4 : 1 ≤ x4 ∧ x4 ≤ 6) (k5 : 2 ≤ x5 ∧ x5 ≤ 7) (k6 : 3 ≤ x6 ∧ x6 ≤ 8) (k12 : 1 ≤ x12 ∧ x12 ≤ 6) (k14 : 0 ≤ x14 ∧ x14 ≤ 99999994) (k24 : 0 ≤ x24 ∧ x24 ≤ 99999992) (k26 : 0 ≤ x26 ∧ x26 ≤ 99999997) (d0 : x4 + 0 ≤ x12 ∧ x12 ≤ x4 + 0) (d1 : x6 + (-4294967296) ≤ x5 ∧ x5 ≤ x6 + (-1)) (d2 : x5 + (-4294967296) ≤ x4 ∧ x4 ≤ x5 + (-1)) (f0 : 1 * x26 + ((-1) * x2 + ((-287858) * x5 + (287858 * x4 + 0))) ≤ (-286980)) (f1 : 1 * x24 + ((-1) * x2 + ((-287858) * x5 + (287858 * x4 + 0))) ≤ (-286988)) (f2 : 1 * x14 + ((-1) * x2 + ((-287858) * x5 + (287858 * x4 + 0))) ≤ (-286994)) (f3 : 1 * x6 + ((-1) * all_0 (r_0 + 2) + 0) ≤ 0) (f4 : (-1) * x6 + (1 * all_0 (r_0 + 2) + 0) ≤ 0) (f6 : 1 * texts_0 + ((-1) * x26 + 0) ≤ 3) (f8 : 1 * x26 + ((-1) * x2 + ((-287858) * x5 + (287858 * x4 + 0))) ≤ (-286980)) (f9 : 1 * x24 + ((-1) * x2 + ((-287858) * x5 + (287858 * x4 + 0))) ≤ (-286988)) (f10 : 1 * x14 + ((-1) * x2 + ((-287858) * x5 + (287858 * x4 + 0))) ≤ (-286994)) (f12 : 1 * x24 + ((-1) * x2 + ((-287858) * x5 + (287858 * x4 + 0))) ≤ (-286988)) (f13 : 1 * x14 + ((-1) * x2 + ((-287858) * x5 + (287858 * x4 + 0))) ≤ (-286994)) (f15 : 1 * x14 + ((-1) * x2 + ((-287858) * x5 + (287858 * x4 + 0))) ≤ (-286994)) (f16 : x12 = x4) (f17 : x5 < x6) (kz_0_170 : 0 ≤ texts_0 ∧ texts_0 ≤ 100000000) (ex2 : gx = texts_0) (ex3 : 0 ≤ gx ∧ gx ≤ 99712161) : 1 * gx + ((-1) * x2 + ((-287858) * x5 + (287858 * x4 + 0))) ≤ (-286977) := by
  first | assumption | omega | grind
def o_Mo_writeGroup_at_l1_16 : or_T := (161, 27, [(0, (2, 0, 0, [165])), (2, (0, 0, 98271988, [])), (3, (2, 0, 0, [165])), (4, (0, 1, 6, [])), (5, (0, 2, 7, [])), (6, (0, 3, 8, [])), (12, (0, 1, 6, [])), (14, (0, 0, 99999994, [])), (24, (0, 0, 99999992, [])), (26, (0, 0, 99999997, []))], [(23, [26, 2, 5, 4], [-286980, 1, -1, -287858, 287858]), (23, [24, 2, 5, 4], [-286988, 1, -1, -287858, 287858]), (23, [14, 2, 5, 4], [-286994, 1, -1, -287858, 287858]), (20, [6, 3], [30, 0, 1, 0, 0, -1, 3, 2005002]), (20, [6, 3], [30, 0, -1, 0, 0, 1, 3, 2005002]), (24, [0, 3], []), (20, [3, 26], [30, 3, 1, 1, 170, -1, 0, 0]), (102, [26], [7770675568902916283677847627294075626569627356208558085007249638955617140820833992704, 165170]), (23, [26, 2, 5, 4], [-286980, 1, -1, -287858, 287858]), (23, [24, 2, 5, 4], [-286988, 1, -1, -287858, 287858]), (23, [14, 2, 5, 4], [-286994, 1, -1, -287858, 287858]), (102, [24], [7770675568902916283677847627294075626569627356208558085007249638955617140820833992704, 165170]), (23, [24, 2, 5, 4], [-286988, 1, -1, -287858, 287858]), (23, [14, 2, 5, 4], [-286994, 1, -1, -287858, 287858]), (102, [14], [7770675568902916283677847627294075626569627356208558085007249638955617140820833992704, 165170]), (23, [14, 2, 5, 4], [-286994, 1, -1, -287858, 287858]), (7, [12, 4], [0]), (7, [5, 6], [2])], [], [(0, 0, 99712161, [])], [(20, [3, 27], [30, 0, 1, 1, 170, -1, 0, 0]), (23, [27, 2, 5, 4], [-286977, 1, -1, -287858, 287858])], [], [(12, 4, 0, 0), (5, 6, -4294967296, -1), (4, 5, -4294967296, -1)])
theorem oo_Mo_writeGroup_at_l1_16 {kA : Nat → ClassId} : or_ok PRD kA GG o_Mo_writeGroup_at_l1_16 := by
  refine or_mk fun A ta ws vs hD hth hl => ?_
  intro t0 r0 t2 k2 t3 r3 t4 k4 t5 k5 t6 k6 t12 k12 t14 k14 t24 k24 t26 k26 d0 d1 d2 f0 f1 f2 f3 f4 f5 f6 ta1 w1 le1 s1 f8 f9 f10 ta2 w2 le2 s2 f12 f13 ta3 w3 le3 s3 f15 f16 f17
  replace f0 := shm_2053 f0
  replace f1 := shm_2052 f1
  replace f2 := shm_2051 f2
  replace f3 := shm_123 f3
  replace f4 := shm_124 f4
  replace f5 := shm_5 f5
  replace f6 := shm_212 f6
  replace f8 := shm_2053 f8
  replace f9 := shm_2052 f9
  replace f10 := shm_2051 f10
  replace f12 := shm_2052 f12
  replace f13 := shm_2051 f13
  replace f15 := shm_2051 f15
  replace f16 := shm_37 f16
  replace f17 := shm_6 f17
  have q3 : n_v vs 3 = n_v vs 0 := f5.symm
  simp only [q3] at f3 f4 f6
  have cr_0_2 := fdq_10 hD hth r0
  have kz_0_170 := fdq_11 hD hth r0
  have kv0 := fdq_11 hD hth r0
  obtain ⟨x, ex, hx⟩ := iv_ex (ta := ta) (lo := 0) (hi := 99712161) (z := w_fi ws (n_v vs 0) 170) (by omega) (by omega) (by omega) (by omega)
  have ex2 : v_iv (Value.int x) = w_fi ws (n_v vs 0) 170 := ex
  have ex3 : 0 ≤ v_iv (Value.int x) ∧ v_iv (Value.int x) ≤ 99712161 := tv_rng hx
  have e_2 : n_v (vs ++ [Value.int x]) 2 = n_v vs 2 := n_v_old (by rw [hl]; decide)
  have e_3 : n_v (vs ++ [Value.int x]) 3 = n_v vs 3 := n_v_old (by rw [hl]; decide)
  have e_4 : n_v (vs ++ [Value.int x]) 4 = n_v vs 4 := n_v_old (by rw [hl]; decide)
  have e_5 : n_v (vs ++ [Value.int x]) 5 = n_v vs 5 := n_v_old (by rw [hl]; decide)
  have e_27 : n_v (vs ++ [Value.int x]) 27 = Value.int x := n_v_new hl
  have nf0 : fc_1 PRD (20, [3, 27], [30, 0, 1, 1, 170, -1, 0, 0]) ws (vs ++ [Value.int x]) := by
    refine ⟨nf_inA hl rfl, sgq_131 ?_⟩
    · show 1 * w_fi ws (n_v (vs ++ [Value.int x]) 3) 170 + ((-1) * v_iv (n_v (vs ++ [Value.int x]) 27) + 0) ≤ 0
      simp only [e_3, e_27, q3]
      exact vc_Mo_writeGroup_at_l1_16_0 (v_iv (n_v vs 2)) (v_iv (n_v vs 4)) (v_iv (n_v vs 5)) (v_iv (n_v vs 6)) (v_iv (n_v vs 12)) (v_iv (n_v vs 14)) (v_iv (n_v vs 24)) (v_iv (n_v vs 26)) (w_ei ws (w_ar ws (n_v vs 0) 2)) (w_fi ws (n_v vs 0) 5) (w_fi ws (n_v vs 0) 170) (v_iv (Value.int x)) k2 k4 k5 k6 k12 k14 k24 k26 d0 d1 d2 f0 f1 f2 f3 f4 f6 f8 f9 f10 f12 f13 f15 f16 f17 kz_0_170 ex2 ex3
  have nf1 : fc_1 PRD (23, [27, 2, 5, 4], [-286977, 1, -1, -287858, 287858]) ws (vs ++ [Value.int x]) := by
    refine ⟨nf_inA hl rfl, sgq_2054 ?_⟩
    · show 1 * v_iv (n_v (vs ++ [Value.int x]) 27) + ((-1) * v_iv (n_v (vs ++ [Value.int x]) 2) + ((-287858) * v_iv (n_v (vs ++ [Value.int x]) 5) + (287858 * v_iv (n_v (vs ++ [Value.int x]) 4) + 0))) ≤ (-286977)
      simp only [e_2, e_4, e_5, e_27]
      exact vc_Mo_writeGroup_at_l1_16_1 (v_iv (n_v vs 2)) (v_iv (n_v vs 4)) (v_iv (n_v vs 5)) (v_iv (n_v vs 6)) (v_iv (n_v vs 12)) (v_iv (n_v vs 14)) (v_iv (n_v vs 24)) (v_iv (n_v vs 26)) (w_ei ws (w_ar ws (n_v vs 0) 2)) (w_fi ws (n_v vs 0) 5) (w_fi ws (n_v vs 0) 170) (v_iv (Value.int x)) k2 k4 k5 k6 k12 k14 k24 k26 d0 d1 d2 f0 f1 f2 f3 f4 f6 f8 f9 f10 f12 f13 f15 f16 f17 kz_0_170 ex2 ex3
  exact ⟨(fun _ h => (by cases h)), [Value.int x], ag_one hx, List.forall_mem_cons.mpr ⟨⟨show (20 : Nat) < 100 from by decide, nf0⟩, List.forall_mem_cons.mpr ⟨⟨show (23 : Nat) < 100 from by decide, nf1⟩, (fun _ h => (by cases h))⟩⟩, (fun _ h => (by cases h))⟩
set_option maxHeartbeats 4000000 in
theorem vc_Mo_writeGroup_at_l1_17_0 (x2 : Int) (x4 : Int) (x5 : Int) (x6 : Int) (x12 : Int) (x14 : Int) (x24 : Int) (x26 : Int) (x27 : Int) (all_0 : Int → Int) (r_0 : Int) (texts_0 : Int) (gx : Int) (k2 : 0 ≤ x2 ∧ x2 ≤ 98271988) (k4 : 1 ≤ x4 ∧ x4 ≤ 6) (k5 : 2 ≤ x5 ∧ x5 ≤ 7) (k6 : 3 ≤ x6 ∧ x6 ≤ 8) (k12 : 1 ≤ x12 ∧ x12 ≤ 6) (k14 : 0 ≤ x14 ∧ x14 ≤ 99999994) (k24 : 0 ≤ x24 ∧ x24 ≤ 99999992) (k26 : 0 ≤ x26 ∧ x26 ≤ 99999997) (k27 : 0 ≤ x27 ∧ x27 ≤ 99712161) (d0 : x4 + 0 ≤ x12 ∧ x12 ≤ x4 + 0) (d1 : x6 + (-4294967296) ≤ x5 ∧ x5 ≤ x6 + (-1)) (d2 : x5 + (-4294967296) ≤ x4 ∧ x4 ≤ x5 + (-1)) (f0 : 1 * x27 + ((-1) * x2 + ((-287858) * x5 + (287858 * x4 + 0))) ≤ (-286977)) (f1 : 1 * x26 + ((-1) * x2 + ((-287858) * x5 + (287858 * x4 + 0))) ≤ (-286980)) (f2 : 1 * x24 + ((-1) * x2 + ((-287858) * x5 + (287858 * x4 + 0))) ≤ (-286988)) (f3 : 1 * x14 + ((-1) * x2 + ((-287858) * x5 + (287858 * x4 + 0))) ≤ (-286994)) (f4 : 1 * x6 + ((-1) * all_0 (r_0 + 2) + 0) ≤ 0) (f5 : (-1) * x6 + (1 * all_0 (r_0 + 2) + 0) ≤ 0) (f7 : 1 * texts_0 + ((-1) * x27 + 0) ≤ 287839) (f9 : 1 * x27 + ((-1) * x2 + ((-287858) * x5 + (287858 * x4 + 0))) ≤ (-286977)) (f10 : 1 * x26 + ((-1) * x2 + ((-287858) * x5 + (287858 * x4 + 0))) ≤ (-286980)) (f11 : 1 * x24 + ((-1) * x2 + ((-287858) * x5 + (287858 * x4 + 0))) ≤ (-286988)) (f12 : 1 * x14 + ((-1) * x2 + ((-287858) * x5 + (287858 * x4 + 0))) ≤ (-286994)) (f14 : 1 * x26 + ((-1) * x2 + ((-287858) * x5 + (287858 * x4 + 0))) ≤ (-286980)) (f15 : 1 * x24 + ((-1) * x2 + ((-287858) * x5 + (287858 * x4 + 0))) ≤ (-286988)) (f16 : 1 * x14 + ((-1) * x2 + ((-287858) * x5 + (287858 * x4 + 0))) ≤ (-286994)) (f18 : 1 * x24 + ((-1) * x2 + ((-287858) * x5 + (287858 * x4 + 0))) ≤ (-286988)) (f19 : 1 * x14 + ((-1) * x2 + ((-287858) * x5 + (287858 * x4 + 0))) ≤ (-286994)) (f21 : 1 * x14 + ((-1) * x2 + ((-287858) * x5 + (287858 * x4 + 0))) ≤ (-286994)) (f22 : x12 = x4) (f23 : x5 < x6) (kz_0_170 : 0 ≤ texts_0 ∧ texts_0 ≤ 100000000) (ex2 : gx = texts_0) (ex3 : 0 ≤ gx ∧ gx ≤ 99999998) : 1 * texts_0 + ((-1) * gx + 0) ≤ 0 := by
  first | assumption | omega | grind
set_option maxHeartbeats 4000000 in
theorem vc_Mo_writeGroup_at_l1_17_1 (x2 : Int) (x4 : Int) (x5 : Int) (x6 : Int) (x12 : Int) (x14 : Int) (x24 : Int) (x26 : Int) (x27 : Int) (all_0 : Int → Int) (r_0 : Int) (texts_0 : Int) (gx : Int) (k2 : 0 ≤ x2 ∧ x2 ≤ 98271988) (k4 : 1 ≤ x4 ∧ x4 ≤ 6) (k5 : 2 ≤ x5 ∧ x5 ≤ 7) (k6 : 3 ≤ x6 ∧ x6 ≤ 8) (k12 : 1 ≤ x12 ∧ x12 ≤ 6) (k14 : 0 ≤ x14 ∧ x14 ≤ 99999994) (k24 : 0 ≤ x24 ∧ x24 ≤ 99999992) (k26 : 0 ≤ x26 ∧ x26 ≤ 99999997) (k27 : 0 ≤ x27 ∧ x27 ≤ 99712161) (d0 : x4 + 0 ≤ x12 ∧ x12 ≤ x4 + 0) (d1 : x6 + (-4294967296) ≤ x5 ∧ x5 ≤ x6 + (-1)) (d2 : x5 + (-4294967296) ≤ x4 ∧ x4 ≤ x5 + (-1)) (f0 : 1 * x27 + ((-1) * x2 + ((-287858) * x5 + (287858 * x4 + 0))) ≤ (-286977)) (f1 : 1 * x26 + ((-1) * x2 + ((-287858) * x5 + (287858 * x4 + 0))) ≤ (-286980)) (f2 : 1 * x24 + ((-1) * x2 + ((-287858) * x5 + (287858 * x4 + 0))) ≤ (-286988)) (f3 : 1 * x14 + ((-1) * x2 + ((-287858) * x5 + (287858 * x4 + 0))) ≤ (-286994)) (f4 : 1 * x6 + ((-1) * all_0 (r_0 + 2) + 0) ≤ 0) (f5 : (-1) * x6 + (1 * all_0 (r_0 + 2) + 0) ≤ 0) (f7 : 1 * texts_0 + ((-1) * x27 + 0) ≤ 287839) (f9 : 1 * x27 + ((-1) * x2 + ((-287858) * x5 + (287858 * x4 + 0))) ≤ (-286977)) (f10 : 1 * x26 + ((-1) * x2 + ((-287858) * x5 + (287858 * x4 + 0))) ≤ (-286980)) (f11 : 1 * x24 + ((-1) * x2 + ((-287858) * x5 + (287858 * x4 + 0))) ≤ (-286988)) (f12 : 1 * x14 + ((-1) * x2 + ((-287858) * x5 + (287858 * x4 + 0))) ≤ (-286994)) (f14 : 1 * x26 + ((-1) * x2 + ((-287858) * x5 + (287858 * x4 + 0))) ≤ (-286980)) (f15 : 1 * x24 + ((-1) * x2 + ((-287858) * x5 + (287858 * x4 + 0))) ≤ (-286988)) (f16 : 1 * x14 + ((-1) * x2 + ((-287858) * x5 + (287858 * x4 + 0))) ≤ (-286994)) (f18 : 1 * x24 + ((-1) * x2 + ((-287858) * x5 + (287858 * x4 + 0))) ≤ (-286988)) (f19 : 1 * x14 + ((-1) * x2 + ((-287858) * x5 + (287858 * x4 + 0))) ≤ (-286994)) (f21 : 1 * x14 + ((-1) * x2 + ((-287858) * x5 + (287858 * x4 + 0))) ≤ (-286994)) (f22 : x12 = x4) (f23 : x5 < x6) (kz_0_170 : 0 ≤ texts_0 ∧ texts_0 ≤ 100000000) (ex2 : gx = texts_0) (ex3 : 0 ≤ gx ∧ gx ≤ 99999998) : 1 * gx + ((-1) * x2 + ((-287858) * x5 + (287858 * x4 + 0))) ≤ 862 := by
  first | assumption | omega | grind
def o_Mo_writeGroup_at_l1_17 : or_T := (168, 29, [(0, (2, 0, 0, [165])), (2, (0, 0, 98271988, [])), (3, (2, 0, 0, [165])), (4, (0, 1, 6, [])), (5, (0, 2, 7, [])), (6, (0, 3, 8, [])), (12, (0, 1, 6, [])), (14, (0, 0, 99999994, [])), (24, (0, 0, 99999992, [])), (26, (0, 0, 99999997, [])), (27, (0, 0, 99712161, []))], [(23, [27, 2, 5, 4], [-286977, 1, -1, -287858, 287858]), (23, [26, 2, 5, 4], [-286980, 1, -1, -287858, 287858]), (23, [24, 2, 5, 4], [-286988, 1, -1, -287858, 287858]), (23, [14, 2, 5, 4], [-286994, 1, -1, -287858, 287858]), (20, [6, 3], [30, 0, 1, 0, 0, -1, 3, 2005002]), (20, [6, 3], [30, 0, -1, 0, 0, 1, 3, 2005002]), (24, [0, 3], []), (20, [3, 27], [30, 287839, 1, 1, 170, -1, 0, 0]), (102, [27], [7770675568902916283677847627294075626569627356208558085007249638955617140820833992704, 165170]), (23, [27, 2, 5, 4], [-286977, 1, -1, -287858, 287858]), (23, [26, 2, 5, 4], [-286980, 1, -1, -287858, 287858]), (23, [24, 2, 5, 4], [-286988, 1, -1, -287858, 287858]), (23, [14, 2, 5, 4], [-286994, 1, -1, -287858, 287858]), (102, [26], [7770675568902916283677847627294075626569627356208558085007249638955617140820833992704, 165170]), (23, [26, 2, 5, 4], [-286980, 1, -1, -287858, 287858]), (23, [24, 2, 5, 4], [-286988, 1, -1, -287858, 287858]), (23, [14, 2, 5, 4], [-286994, 1, -1, -287858, 287858]), (102, [24], [7770675568902916283677847627294075626569627356208558085007249638955617140820833992704, 165170]), (23, [24, 2, 5, 4], [-286988, 1, -1, -287858, 287858]), (23, [14, 2, 5, 4], [-286994, 1, -1, -287858, 287858]), (102, [14], [7770675568902916283677847627294075626569627356208558085007249638955617140820833992704, 165170]), (23, [14, 2, 5, 4], [-286994, 1, -1, -287858, 287858]), (7, [12, 4], [0]), (7, [5, 6], [2])], [], [(0, 0, 99999998, [])], [(20, [3, 29], [30, 0, 1, 1, 170, -1, 0, 0]), (23, [29, 2, 5, 4], [862, 1, -1, -287858, 287858])], [], [(12, 4, 0, 0), (5, 6, -4294967296, -1), (4, 5, -4294967296, -1)])
theorem oo_Mo_writeGroup_at_l1_17 {kA : Nat → ClassId} : or_ok PRD kA GG o_Mo_writeGroup_at_l1_17 := by
  refine or_mk fun A ta ws vs hD hth hl => ?_
  intro t0 r0 t2 k2 t3 r3 t4 k4 t5 k5 t6 k6 t12 k12 t14 k14 t24 k24 t26 k26 t27 k27 d0 d1 d2 f0 f1 f2 f3 f4 f5 f6 f7 ta1 w1 le1 s1 f9 f10 f11 f12 ta2 w2 le2 s2 f14 f15 f16 ta3 w3 le3 s3 f18 f19 ta4 w4 le4 s4 f21 f22 f23
  replace f0 := shm_2054 f0
  replace f1 := shm_2053 f1
  replace f2 := shm_2052 f2
  replace f3 := shm_2051 f3
  replace f4 := shm_123 f4
  replace f5 := shm_124 f5
  replace f6 := shm_5 f6
  replace f7 := shm_2055 f7
  replace f9 := shm_2054 f9
  replace f10 := shm_2053 f10
  replace f11 := shm_2052 f11
  replace f12 := shm_2051 f12
  replace f14 := shm_2053 f14
  replace f15 := shm_2052 f15
  replace f16 := shm_2051 f16
  replace f18 := shm_2052 f18
  replace f19 := shm_2051 f19
  replace f21 := shm_2051 f21
  replace f22 := shm_37 f22
  replace f23 := shm_6 f23
  have q3 : n_v vs 3 = n_v vs 0 := f6.symm
  simp only [q3] at f4 f5 f7
  have cr_0_2 := fdq_10 hD hth r0
  have kz_0_170 := fdq_11 hD hth r0
  have kv0 := fdq_11 hD hth r0
  obtain ⟨x, ex, hx⟩ := iv_ex (ta := ta) (lo := 0) (hi := 99999998) (z := w_fi ws (n_v vs 0) 170) (by omega) (by omega) (by omega) (by omega)
  have ex2 : v_iv (Value.int x) = w_fi ws (n_v vs 0) 170 := ex
  have ex3 : 0 ≤ v_iv (Value.int x) ∧ v_iv (Value.int x) ≤ 99999998 := tv_rng hx
  have e_2 : n_v (vs ++ [Value.int x]) 2 = n_v vs 2 := n_v_old (by rw [hl]; decide)
  have e_3 : n_v (vs ++ [Value.int x]) 3 = n_v vs 3 := n_v_old (by rw [hl]; decide)
  have e_4 : n_v (vs ++ [Value.int x]) 4 = n_v vs 4 := n_v_old (by rw [hl]; decide)
  have e_5 : n_v (vs ++ [Value.int x]) 5 = n_v vs 5 := n_v_old (by rw [hl]; decide)
  have e_29 : n_v (vs ++ [Value.int x]) 29 = Value.int x := n_v_new hl
  have nf0 : fc_1 PRD (20, [3, 29], [30, 0, 1, 1, 170, -1, 0, 0]) ws (vs ++ [Value.int x]) := by
    refine ⟨nf_inA hl rfl, sgq_131 ?_⟩
    · show 1 * w_fi ws (n_v (vs ++ [Value.int x]) 3) 170 + ((-1) * v_iv (n_v (vs ++ [Value.int x]) 29) + 0) ≤ 0
      simp only [e_3, e_29, q3]
      exact vc_Mo_writeGroup_at_l1_17_0 (v_iv (n_v vs 2)) (v_iv (n_v vs 4)) (v_iv (n_v vs 5)) (v_iv (n_v vs 6)) (v_iv (n_v vs 12)) (v_iv (n_v vs 14)) (v_iv (n_v vs 24)) (v_iv (n_v vs 26)) (v_iv (n_v vs 27)) (w_ei ws (w_ar ws (n_v vs 0) 2)) (w_fi ws (n_v vs 0) 5) (w_fi ws (n_v vs 0) 170) (v_iv (Value.int x)) k2 k4 k5 k6 k12 k14 k24 k26 k27 d0 d1 d2 f0 f1 f2 f3 f4 f5 f7 f9 f10 f11 f12 f14 f15 f16 f18 f19 f21 f22 f23 kz_0_170 ex2 ex3
  have nf1 : fc_1 PRD (23, [29, 2, 5, 4], [862, 1, -1, -287858, 287858]) ws (vs ++ [Value.int x]) := by
    refine ⟨nf_inA hl rfl, sgq_2056 ?_⟩
    · show 1 * v_iv (n_v (vs ++ [Value.int x]) 29) + ((-1) * v_iv (n_v (vs ++ [Value.int x]) 2) + ((-287858) * v_iv (n_v (vs ++ [Value.int x]) 5) + (287858 * v_iv (n_v (vs ++ [Value.int x]) 4) + 0))) ≤ 862
      simp only [e_2, e_4, e_5, e_29]
      exact vc_Mo_writeGroup_at_l1_17_1 (v_iv (n_v vs 2)) (v_iv (n_v vs 4)) (v_iv (n_v vs 5)) (v_iv (n_v vs 6)) (v_iv (n_v vs 12)) (v_iv (n_v vs 14)) (v_iv (n_v vs 24)) (v_iv (n_v vs 26)) (v_iv (n_v vs 27)) (w_ei ws (w_ar ws (n_v vs 0) 2)) (w_fi ws (n_v vs 0) 5) (w_fi ws (n_v vs 0) 170) (v_iv (Value.int x)) k2 k4 k5 k6 k12 k14 k24 k26 k27 d0 d1 d2 f0 f1 f2 f3 f4 f5 f7 f9 f10 f11 f12 f14 f15 f16 f18 f19 f21 f22 f23 kz_0_170 ex2 ex3
  exact ⟨(fun _ h => (by cases h)), [Value.int x], ag_one hx, List.forall_mem_cons.mpr ⟨⟨show (20 : Nat) < 100 from by decide, nf0⟩, List.forall_mem_cons.mpr ⟨⟨show (23 : Nat) < 100 from by decide, nf1⟩, (fun _ h => (by cases h))⟩⟩, (fun _ h => (by cases h))⟩
set_option maxHeartbeats 4000000 in
theorem vc_Mo_writeGroup_at_l1_18_0 (x2 : Int) (x4 : Int) (x5 : Int) (x6 : Int) (x12 : Int) (x14 : Int) (x24 : Int) (x26 : Int) (x27 : Int) (x29 : Int) (x30 : Int) (all_0 : Int → Int) (r_0 : Int) (texts_0 : Int) (k2 : 0 ≤ x2 ∧ x2 ≤ 98271988) (k4 : 1 ≤ x4 ∧ x4 ≤ 6) (k5 : 2 ≤ x5 ∧ x5 ≤ 7) (k6 : 3 ≤ x6 ∧ x6 ≤ 8) (k12 : 1 ≤ x12 ∧ x12 ≤ 6) (k14 : 0 ≤ x14 ∧ x14 ≤ 99999994) (k24 : 0 ≤ x24 ∧ x24 ≤ 99999992) (k26 : 0 ≤ x26 ∧ x26 ≤ 99999997) (k27 : 0 ≤ x27 ∧ x27 ≤ 99712161) (k29 : 0 ≤ x29 ∧ x29 ≤ 99999998) (k30 : 3 ≤ x30 ∧ x30 ≤ 8) (d0 : x5 + 1 ≤ x30 ∧ x30 ≤ x5 + 1) (d1 : x6 + (-4294967296) ≤ x30 ∧ x30 ≤ x6 + 0) (d2 : x4 + 0 ≤ x12 ∧ x12 ≤ x4 + 0) (d3 : x6 + (-4294967296) ≤ x5 ∧ x5 ≤ x6 + (-1)) (d4 : x5 + (-4294967296) ≤ x4 ∧ x4 ≤ x5 + (-1)) (f0 : x30 = x5 + 1) (f1 : 1 * x29 + ((-1) * x2 + ((-287858) * x5 + (287858 * x4 + 0))) ≤ 862) (f2 : 1 * x27 + ((-1) * x2 + ((-287858) * x5 + (287858 * x4 + 0))) ≤ (-286977)) (f3 : 1 * x26 + ((-1) * x2 + ((-287858) * x5 + (287858 * x4 + 0))) ≤ (-286980)) (f4 : 1 * x24 + ((-1) * x2 + ((-287858) * x5 + (287858 * x4 + 0))) ≤ (-286988)) (f5 : 1 * x14 + ((-1) * x2 + ((-287858) * x5 + (287858 * x4 + 0))) ≤ (-286994)) (f6 : 1 * x6 + ((-1) * all_0 (r_0 + 2) + 0) ≤ 0) (f7 : (-1) * x6 + (1 * all_0 (r_0 + 2) + 0) ≤ 0) (f9 : 1 * texts_0 + ((-1) * x29 + 0) ≤ 2) (f11 : 1 * x29 + ((-1) * x2 + ((-287858) * x5 + (287858 * x4 + 0))) ≤ 862) (f12 : 1 * x27 + ((-1) * x2 + ((-287858) * x5 + (287858 * x4 + 0))) ≤ (-286977)) (f13 : 1 * x26 + ((-1) * x2 + ((-287858) * x5 + (287858 * x4 + 0))) ≤ (-286980)) (f14 : 1 * x24 + ((-1) * x2 + ((-287858) * x5 + (287858 * x4 + 0))) ≤ (-286988)) (f15 : 1 * x14 + ((-1) * x2 + ((-287858) * x5 + (287858 * x4 + 0))) ≤ (-286994)) (f17 : 1 * x27 + ((-1) * x2 + ((-287858) * x5 + (287858 * x4 + 0))) ≤ (-286977)) (f18 : 1 * x26 + ((-1) * x2 + ((-287858) * x5 + (287858 * x4 + 0))) ≤ (-286980)) (f19 : 1 * x24 + ((-1) * x2 + ((-287858) * x5 + (287858 * x4 + 0))) ≤ (-286988)) (f20 : 1 * x14 + ((-1) * x2 + ((-287858) * x5 + (287858 * x4 + 0))) ≤ (-286994)) (f22 : 1 * x26 + ((-1) * x2 + ((-287858) * x5 + (287858 * x4 + 0))) ≤ (-286980)) (f23 : 1 * x24 + ((-1) * x2 + ((-287858) * x5 + (287858 * x4 + 0))) ≤ (-286988)) (f24 : 1 * x14 + ((-1) * x2 + ((-287858) * x5 + (287858 * x4 + 0))) ≤ (-286994)) (f26 : 1 * x24 + ((-1) * x2 + ((-287858) * x5 + (287858 * x4 + 0))) ≤ (-286988)) (f27 : 1 * x14 + ((-1) * x2 + ((-287858) * x5 + (287858 * x4 + 0))) ≤ (-286994)) (f29 : 1 * x14 + ((-1) * x2 + ((-287858) * x5 + (287858 * x4 + 0))) ≤ (-286994)) (f30 : x12 = x4) (f31 : x5 < x6) (kz_0_170 : 0 ≤ texts_0 ∧ texts_0 ≤ 100000000) : 1 * texts_0 + ((-1) * x2 + ((-287858) * x30 + (287858 * x4 + 0))) ≤ (-286994) := by
  first | assumption | omega | grind
def o_Mo_writeGroup_at_l1_18 : or_T := (83, 31, [(0, (2, 0, 0, [165])), (2, (0, 0, 98271988, [])), (4, (0, 1, 6, [])), (5, (0, 2, 7, [])), (6, (0, 3, 8, [])), (12, (0, 1, 6, [])), (14, (0, 0, 99999994, [])), (24, (0, 0, 99999992, [])), (26, (0, 0, 99999997, [])), (27, (0, 0, 99712161, [])), (29, (0, 0, 99999998, [])), (30, (0, 3, 8, []))], [(6, [30, 5], [1]), (23, [29, 2, 5, 4], [862, 1, -1, -287858, 287858]), (23, [27, 2, 5, 4], [-286977, 1, -1, -287858, 287858]), (23, [26, 2, 5, 4], [-286980, 1, -1, -287858, 287858]), (23, [24, 2, 5, 4], [-286988, 1, -1, -287858, 287858]), (23, [14, 2, 5, 4], [-286994, 1, -1, -287858, 287858]), (20, [6, 3], [30, 0, 1, 0, 0, -1, 3, 2005002]), (20, [6, 3], [30, 0, -1, 0, 0, 1, 3, 2005002]), (24, [0, 3], []), (20, [3, 29], [30, 2, 1, 1, 170, -1, 0, 0]), (102, [29], [7770675568902916283677847627294075626569627356208558085007249638955617140820833992704, 165170]), (23, [29, 2, 5, 4], [862, 1, -1, -287858, 287858]), (23, [27, 2, 5, 4], [-286977, 1, -1, -287858, 287858]), (23, [26, 2, 5, 4], [-286980, 1, -1, -287858, 287858]), (23, [24, 2, 5, 4], [-286988, 1, -1, -287858, 287858]), (23, [14, 2, 5, 4], [-286994, 1, -1, -287858, 287858]), (102, [27], [7770675568902916283677847627294075626569627356208558085007249638955617140820833992704, 165170]), (23, [27, 2, 5, 4], [-286977, 1, -1, -287858, 287858]), (23, [26, 2, 5, 4], [-286980, 1, -1, -287858, 287858]), (23, [24, 2, 5, 4], [-286988, 1, -1, -287858, 287858]), (23, [14, 2, 5, 4], [-286994, 1, -1, -287858, 287858]), (102, [26], [7770675568902916283677847627294075626569627356208558085007249638955617140820833992704, 165170]), (23, [26, 2, 5, 4], [-286980, 1, -1, -287858, 287858]), (23, [24, 2, 5, 4], [-286988, 1, -1, -287858, 287858]), (23, [14, 2, 5, 4], [-286994, 1, -1, -287858, 287858]), (102, [24], [7770675568902916283677847627294075626569627356208558085007249638955617140820833992704, 165170]), (23, [24, 2, 5, 4], [-286988, 1, -1, -287858, 287858]), (23, [14, 2, 5, 4], [-286994, 1, -1, -287858, 287858]), (102, [14], [7770675568902916283677847627294075626569627356208558085007249638955617140820833992704, 165170]), (23, [14, 2, 5, 4], [-286994, 1, -1, -287858, 287858]), (7, [12, 4], [0]), (7, [5, 6], [2])], [], [], [(20, [3, 2, 30, 4], [30, -286994, 1, 1, 170, -1, 0, 0, -287858, 0, 0, 287858, 0, 0])], [], [(30, 5, 1, 1), (30, 6, -4294967296, 0), (12, 4, 0, 0), (5, 6, -4294967296, -1), (4, 5, -4294967296, -1)])
theorem oo_Mo_writeGroup_at_l1_18 {kA : Nat → ClassId} : or_ok PRD kA GG o_Mo_writeGroup_at_l1_18 := by
  refine or_mk fun A ta ws vs hD hth hl => ?_
  intro t0 r0 t2 k2 t4 k4 t5 k5 t6 k6 t12 k12 t14 k14 t24 k24 t26 k26 t27 k27 t29 k29 t30 k30 d0 d1 d2 d3 d4 f0 f1 f2 f3 f4 f5 f6 f7 f8 f9 ta1 w1 le1 s1 f11 f12 f13 f14 f15 ta2 w2 le2 s2 f17 f18 f19 f20 ta3 w3 le3 s3 f22 f23 f24 ta4 w4 le4 s4 f26 f27 ta5 w5 le5 s5 f29 f30 f31
  replace f0 := shm_4 f0
  replace f1 := shm_2056 f1
  replace f2 := shm_2054 f2
  replace f3 := shm_2053 f3
  replace f4 := shm_2052 f4
  replace f5 := shm_2051 f5
  replace f6 := shm_123 f6
  replace f7 := shm_124 f7
  replace f8 := shm_5 f8
  replace f9 := shm_210 f9
  replace f11 := shm_2056 f11
  replace f12 := shm_2054 f12
  replace f13 := shm_2053 f13
  replace f14 := shm_2052 f14
  replace f15 := shm_2051 f15
  replace f17 := shm_2054 f17
  replace f18 := shm_2053 f18
  replace f19 := shm_2052 f19
  replace f20 := shm_2051 f20
  replace f22 := shm_2053 f22
  replace f23 := shm_2052 f23
  replace f24 := shm_2051 f24
  replace f26 := shm_2052 f26
  replace f27 := shm_2051 f27
  replace f29 := shm_2051 f29
  replace f30 := shm_37 f30
  replace f31 := shm_6 f31
  have q3 : n_v vs 3 = n_v vs 0 := f8.symm
  simp only [q3] at f6 f7 f9
  have kz_0_170 := fdq_11 hD hth r0
  have nf0 : fc_1 PRD (20, [3, 2, 30, 4], [30, -286994, 1, 1, 170, -1, 0, 0, -287858, 0, 0, 287858, 0, 0]) ws (vs) := by
    refine ⟨nf_in hl rfl, sgq_2050 ?_⟩
    · show 1 * w_fi ws (n_v vs 3) 170 + ((-1) * v_iv (n_v vs 2) + ((-287858) * v_iv (n_v vs 30) + (287858 * v_iv (n_v vs 4) + 0))) ≤ (-286994)
      rw [q3]
      exact vc_Mo_writeGroup_at_l1_18_0 (v_iv (n_v vs 2)) (v_iv (n_v vs 4)) (v_iv (n_v vs 5)) (v_iv (n_v vs 6)) (v_iv (n_v vs 12)) (v_iv (n_v vs 14)) (v_iv (n_v vs 24)) (v_iv (n_v vs 26)) (v_iv (n_v vs 27)) (v_iv (n_v vs 29)) (v_iv (n_v vs 30)) (w_ei ws (w_ar ws (n_v vs 0) 2)) (w_fi ws (n_v vs 0) 5) (w_fi ws (n_v vs 0) 170) k2 k4 k5 k6 k12 k14 k24 k26 k27 k29 k30 d0 d1 d2 d3 d4 f0 f1 f2 f3 f4 f5 f6 f7 f9 f11 f12 f13 f14 f15 f17 f18 f19 f20 f22 f23 f24 f26 f27 f29 f30 f31 kz_0_170
  refine ⟨(fun _ h => (by cases h)), [], trivial, ?_, (fun _ h => (by cases h))⟩
  rw [List.append_nil]
  exact List.forall_mem_cons.mpr ⟨⟨show (20 : Nat) < 100 from by decide, nf0⟩, (fun _ h => (by cases h))⟩
def o_Mo_writeGroup_at_l1_19 : or_T := (83, 14, [(0, (2, 0, 0, [165])), (2, (0, 0, 98271988, [])), (3, (2, 0, 0, [165])), (4, (0, 1, 6, [])), (5, (0, 2, 7, [])), (6, (0, 3, 8, [])), (7, (2, 0, 0, [167])), (8, (0, 0, 66297, [])), (9, (0, 531, 531, [])), (10, (0, 531, 66828, [])), (11, (0, 533, 66835, [])), (12, (0, -1, 6, [])), (13, (0, 3, 8, []))], [(6, [13, 5], [1]), (7, [12, 4], [1]), (10, [12, 7, 11], []), (1, [11, 10, 5], []), (1, [10, 8, 9], []), (9, [8, 3], [5]), (9, [7, 3], [2]), (7, [5, 6], [2]), (20, [6, 3], [30, 0, 1, 0, 0, -1, 3, 2005002]), (20, [6, 3], [30, 0, -1, 0, 0, 1, 3, 2005002]), (20, [3, 2, 5, 4], [30, -286994, 1, 1, 170, -1, 0, 0, -287858, 0, 0, 287858, 0, 0]), (24, [0, 3], [])], [], [], [(20, [3, 2, 13, 4], [30, -286994, 1, 1, 170, -1, 0, 0, -287858, 0, 0, 287858, 0, 0])], [], [(13, 5, 1, 1), (13, 6, -4294967296, 0), (11, 5, 531, 66828), (11, 6, -4294967296, 66827), (11, 10, 2, 7), (11, 8, 533, 538), (10, 8, 531, 531), (5, 6, -4294967296, -1), (4, 5, -4294967296, -1)])
theorem oo_Mo_writeGroup_at_l1_19 {kA : Nat → ClassId} : or_ok PRD kA GG o_Mo_writeGroup_at_l1_19 := by
  refine or_mk fun A ta ws vs hD hth hl => ?_
  intro t0 r0 t2 k2 t3 r3 t4 k4 t5 k5 t6 k6 t7 r7 t8 k8 t9 k9 t10 k10 t11 k11 t12 k12 t13 k13 d0 d1 d2 d3 d4 d5 d6 d7 d8 f0 f1 f2 f3 f4 f5 f6 f7 f8 f9 f10 f11
  replace f0 := shm_4 f0
  replace f1 := shm_40 f1
  replace f2 := shm_107 f2
  replace f3 := shm_12 f3
  replace f4 := shm_12 f4
  replace f5 := shm_110 f5
  replace f6 := shm_120 f6
  replace f7 := shm_6 f7
  replace f8 := shm_123 f8
  replace f9 := shm_124 f9
  replace f10 := shm_2050 f10
  replace f11 := shm_5 f11
  have q3 : n_v vs 3 = n_v vs 0 := f11.symm
  simp only [q3] at f5 f6 f8 f9 f10
  have cr_0_2 := fdq_10 hD hth r0
  have ad_7 : v_ad (n_v vs 7) = w_ar ws (n_v vs 0) 2 := congrArg v_ad f6
  simp only [ad_7] at f2
  have h2 : v_iv (n_v vs 12) = w_ei ws (w_ar ws (n_v vs 0) 2) (v_iv (n_v vs 11)) := f2
  have g5 : v_iv (n_v vs 8) = w_fi ws (n_v vs 0) 5 := congrArg v_iv f5
  have cg2_F5_2 : v_iv (n_v vs 11) = w_fi ws (n_v vs 0) 5 + 2 → w_el ws (w_ar ws (n_v vs 0) 2) (v_iv (n_v vs 11)).toNat = w_el ws (w_ar ws (n_v vs 0) 2) (w_fi ws (n_v vs 0) 5 + 2).toNat := fun h => by rw [h]
  have kz_0_170 := fdq_11 hD hth r0
  have nf0 : fc_1 PRD (20, [3, 2, 13, 4], [30, -286994, 1, 1, 170, -1, 0, 0, -287858, 0, 0, 287858, 0, 0]) ws (vs) := by
    refine ⟨nf_in hl rfl, sgq_2050 ?_⟩
    · show 1 * w_fi ws (n_v vs 3) 170 + ((-1) * v_iv (n_v vs 2) + ((-287858) * v_iv (n_v vs 13) + (287858 * v_iv (n_v vs 4) + 0))) ≤ (-286994)
      rw [q3]
      omega
  refine ⟨(fun _ h => (by cases h)), [], trivial, ?_, (fun _ h => (by cases h))⟩
  rw [List.append_nil]
  exact List.forall_mem_cons.mpr ⟨⟨show (20 : Nat) < 100 from by decide, nf0⟩, (fun _ h => (by cases h))⟩
def n_Mo_writeGroup_at_l1_an : List an_T := [(2, [(0, (2, 0, 0, [165])), (1, (0, 1, 7, [])), (2, (0, 0, 24, []))], [], (0, 0), [(0, 0, 99998), (1, 5, 24), (0, 0, 100000)], [(1, 4, (Int.negSucc 999999999999), 0), (4, 1, (Int.negSucc 999999999999), 0)], [], [(2, 0, 0, [165]), (0, 1, 7, []), (0, 0, 98271988, [])], 0, [], [(20, [3, 2, 5], [30, 0, 1, 1, 170, (Int.negSucc 0), 0, 0, (Int.negSucc 35), 0, 0]), (24, [0, 3], [])]), (83, [(0, (2, 0, 0, [165])), (1, (0, 1, 7, [])), (2, (0, 2, 8, []))], [], (0, 0), [(0, 0, 99917), (1, 5, 8), (0, 0, 100000)], [(1, 4, (Int.negSucc 999999999999), 0), (1, 5, (Int.negSucc 999999999999), (Int.negSucc 0)), (4, 1, (Int.negSucc 999999999999), 0), (4, 5, (Int.negSucc 999999999999), (Int.negSucc 0))], [], [(2, 0, 0, [165]), (0, 1, 7, []), (0, 0, 98271988, [])], 0, [], [(20, [3, 2, 5, 4], [30, (Int.negSucc 286993), 1, 1, 170, (Int.negSucc 0), 0, 0, (Int.negSucc 287857), 0, 0, 287858, 0, 0]), (24, [0, 3], [])])]
def t_Mo_writeGroup_at_l1_ct : ct_L := [(1, 475, e_Mo_nodes), (1, 509, e_Mo_groups), (1, 723, e_Mo_size), (1, 725, e_Mo_groupOf), (1, 1285, e_Mo_writeName), (1, 1293, e_Mo_writeNode), (1, 1298, e_Mo_writeNumber), (82, 1290, e_Mo_write_at_s5013), (145, 1290, e_Mo_write_at_s5014), (193, 1290, e_Mo_write_at_s5045), (214, 1290, e_Mo_write_at_s5015), (355, 1290, e_Mo_write_at_s5016), (472, 1290, e_Mo_write_at_s5017), (487, 1309, e_Mo_writeGroup_at_l2), (508, 1290, e_Mo_write_at_s5018), (1000001, 1288, en_ro [] (2, 0, 0, [5013])), (1000001, 1296, en_ro [] (2, 0, 0, [5014])), (1000001, 1301, en_ro [] (2, 0, 0, [5045])), (1000001, 1303, en_ro [] (2, 0, 0, [5015])), (1000001, 1305, en_ro [] (2, 0, 0, [5016])), (1000001, 1307, en_ro [] (2, 0, 0, [5017])), (1000001, 1312, en_ro [] (2, 0, 0, [5018]))]
set_option maxRecDepth 100000 in
theorem c_Mo_writeGroup_at_l1 {l : Launch} {D : va_G} {kA : Nat → ClassId} (h_Mo_groupOf : ct_ok PRD l D kA GG y_Mo_groupOf z_Mo_groupOf e_Mo_groupOf) (h_Mo_groups : ct_ok PRD l D kA GG y_Mo_groups z_Mo_groups e_Mo_groups) (h_Mo_nodes : ct_ok PRD l D kA GG y_Mo_nodes z_Mo_nodes e_Mo_nodes) (h_Mo_size : ct_ok PRD l D kA GG y_Mo_size z_Mo_size e_Mo_size) (h_Mo_writeGroup_at_l2 : ct_ok PRD l D kA GG y_Mo_writeGroup_at_l2 z_Mo_writeGroup_at_l2 e_Mo_writeGroup_at_l2) (h_Mo_writeName : ct_ok PRD l D kA GG y_Mo_writeName z_Mo_writeName e_Mo_writeName) (h_Mo_writeNode : ct_ok PRD l D kA GG y_Mo_writeNode z_Mo_writeNode e_Mo_writeNode) (h_Mo_writeNumber : ct_ok PRD l D kA GG y_Mo_writeNumber z_Mo_writeNumber e_Mo_writeNumber) (h_Mo_write_at_s5013 : ct_ok PRD l D kA GG y_Mo_write_at_s5013 z_Mo_write_at_s5013 e_Mo_write_at_s5013) (h_Mo_write_at_s5014 : ct_ok PRD l D kA GG y_Mo_write_at_s5014 z_Mo_write_at_s5014 e_Mo_write_at_s5014) (h_Mo_write_at_s5015 : ct_ok PRD l D kA GG y_Mo_write_at_s5015 z_Mo_write_at_s5015 e_Mo_write_at_s5015) (h_Mo_write_at_s5016 : ct_ok PRD l D kA GG y_Mo_write_at_s5016 z_Mo_write_at_s5016 e_Mo_write_at_s5016) (h_Mo_write_at_s5017 : ct_ok PRD l D kA GG y_Mo_write_at_s5017 z_Mo_write_at_s5017 e_Mo_write_at_s5017) (h_Mo_write_at_s5018 : ct_ok PRD l D kA GG y_Mo_write_at_s5018 z_Mo_write_at_s5018 e_Mo_write_at_s5018) (h_Mo_write_at_s5045 : ct_ok PRD l D kA GG y_Mo_write_at_s5045 z_Mo_write_at_s5045 e_Mo_write_at_s5045) : ct_ok PRD l D kA GG y_Mo_writeGroup_at_l1 z_Mo_writeGroup_at_l1 e_Mo_writeGroup_at_l1 := chk_all_ok (FT := [(16, 13, 2), (391, 13, 5)]) (PT := []) (CT := t_Mo_writeGroup_at_l1_ct) (KT := []) (NT := []) (AN := n_Mo_writeGroup_at_l1_an) (OT := [o_Mo_writeGroup_at_l1_0, o_Mo_writeGroup_at_l1_1, o_Mo_writeGroup_at_l1_2, o_Mo_writeGroup_at_l1_3, o_Mo_writeGroup_at_l1_4, o_Mo_writeGroup_at_l1_5, o_Mo_writeGroup_at_l1_6, o_Mo_writeGroup_at_l1_7, o_Mo_writeGroup_at_l1_8, o_Mo_writeGroup_at_l1_9, o_Mo_writeGroup_at_l1_10, o_Mo_writeGroup_at_l1_11, o_Mo_writeGroup_at_l1_12, o_Mo_writeGroup_at_l1_13, o_Mo_writeGroup_at_l1_14, o_Mo_writeGroup_at_l1_15, o_Mo_writeGroup_at_l1_16, o_Mo_writeGroup_at_l1_17, o_Mo_writeGroup_at_l1_18, o_Mo_writeGroup_at_l1_19]) 3 408 (List.forall_mem_cons.mpr ⟨oo_Mo_writeGroup_at_l1_0, List.forall_mem_cons.mpr ⟨oo_Mo_writeGroup_at_l1_1, List.forall_mem_cons.mpr ⟨oo_Mo_writeGroup_at_l1_2, List.forall_mem_cons.mpr ⟨oo_Mo_writeGroup_at_l1_3, List.forall_mem_cons.mpr ⟨oo_Mo_writeGroup_at_l1_4, List.forall_mem_cons.mpr ⟨oo_Mo_writeGroup_at_l1_5, List.forall_mem_cons.mpr ⟨oo_Mo_writeGroup_at_l1_6, List.forall_mem_cons.mpr ⟨oo_Mo_writeGroup_at_l1_7, List.forall_mem_cons.mpr ⟨oo_Mo_writeGroup_at_l1_8, List.forall_mem_cons.mpr ⟨oo_Mo_writeGroup_at_l1_9, List.forall_mem_cons.mpr ⟨oo_Mo_writeGroup_at_l1_10, List.forall_mem_cons.mpr ⟨oo_Mo_writeGroup_at_l1_11, List.forall_mem_cons.mpr ⟨oo_Mo_writeGroup_at_l1_12, List.forall_mem_cons.mpr ⟨oo_Mo_writeGroup_at_l1_13, List.forall_mem_cons.mpr ⟨oo_Mo_writeGroup_at_l1_14, List.forall_mem_cons.mpr ⟨oo_Mo_writeGroup_at_l1_15, List.forall_mem_cons.mpr ⟨oo_Mo_writeGroup_at_l1_16, List.forall_mem_cons.mpr ⟨oo_Mo_writeGroup_at_l1_17, List.forall_mem_cons.mpr ⟨oo_Mo_writeGroup_at_l1_18, List.forall_mem_cons.mpr ⟨oo_Mo_writeGroup_at_l1_19, List.forall_mem_nil _⟩⟩⟩⟩⟩⟩⟩⟩⟩⟩⟩⟩⟩⟩⟩⟩⟩⟩⟩⟩) (by decide +kernel) ⟨List.forall_mem_cons.mpr ⟨gf_Mo_16, List.forall_mem_cons.mpr ⟨gf_Mo_391, List.forall_mem_nil _⟩⟩, List.forall_mem_nil _, List.forall_mem_cons.mpr ⟨cl_virtual (y := y_Mo_nodes) (ci := 13) rfl rfl ⟨_, _, rfl⟩ (by decide +kernel) h_Mo_nodes wm_3025 wm_9 wm_3022 wm_3024 wv_13_3 ⟨by decide, by decide, by decide +kernel⟩ (by decide), List.forall_mem_cons.mpr ⟨cl_virtual (y := y_Mo_groups) (ci := 13) rfl rfl ⟨_, _, rfl⟩ (by decide +kernel) h_Mo_groups wm_3070 wm_9 wm_3067 wm_3069 wv_13_14 ⟨by decide, by decide, by decide +kernel⟩ (by decide), List.forall_mem_cons.mpr ⟨cl_virtual (y := y_Mo_size) (ci := 13) rfl rfl ⟨_, _, rfl⟩ (by decide +kernel) h_Mo_size wm_3307 wm_9 wm_3304 wm_3306 wv_17_0 ⟨by decide, by decide, by decide +kernel⟩ (by decide), List.forall_mem_cons.mpr ⟨cl_virtual (y := y_Mo_groupOf) (ci := 13) rfl rfl ⟨_, _, rfl⟩ (by decide +kernel) h_Mo_groupOf wm_3311 wm_9 wm_3308 wm_3310 wv_17_1 ⟨by decide, by decide, by decide +kernel⟩ (by decide), List.forall_mem_cons.mpr ⟨cl_virtual (y := y_Mo_writeName) (ci := 13) rfl rfl ⟨_, _, rfl⟩ (by decide +kernel) h_Mo_writeName wm_3922 wm_9 wm_3919 wm_3921 wv_24_10 ⟨by decide, by decide, by decide +kernel⟩ (by decide), List.forall_mem_cons.mpr ⟨cl_virtual (y := y_Mo_writeNode) (ci := 13) rfl rfl ⟨_, _, rfl⟩ (by decide +kernel) h_Mo_writeNode wm_3918 wm_9 wm_3915 wm_3917 wv_24_9 ⟨by decide, by decide, by decide +kernel⟩ (by decide), List.forall_mem_cons.mpr ⟨cl_virtual (y := y_Mo_writeNumber) (ci := 13) rfl rfl ⟨_, _, rfl⟩ (by decide +kernel) h_Mo_writeNumber wm_3927 wm_9 wm_3924 wm_3926 wv_24_11 ⟨by decide, by decide, by decide +kernel⟩ (by decide), List.forall_mem_cons.mpr ⟨cl_virtual (y := y_Mo_write_at_s5013) (ci := 13) rfl rfl ⟨_, _, rfl⟩ (by decide +kernel) h_Mo_write_at_s5013 wm_3910 wm_9 wm_3907 wm_3909 wv_24_7 ⟨by decide, by decide, by decide +kernel⟩ (by decide), List.forall_mem_cons.mpr ⟨cl_virtual (y := y_Mo_write_at_s5014) (ci := 13) rfl rfl ⟨_, _, rfl⟩ (by decide +kernel) h_Mo_write_at_s5014 wm_3910 wm_9 wm_3907 wm_3909 wv_24_7 ⟨by decide, by decide, by decide +kernel⟩ (by decide), List.forall_mem_cons.mpr ⟨cl_virtual (y := y_Mo_write_at_s5045) (ci := 13) rfl rfl ⟨_, _, rfl⟩ (by decide +kernel) h_Mo_write_at_s5045 wm_3910 wm_9 wm_3907 wm_3909 wv_24_7 ⟨by decide, by decide, by decide +kernel⟩ (by decide), List.forall_mem_cons.mpr ⟨cl_virtual (y := y_Mo_write_at_s5015) (ci := 13) rfl rfl ⟨_, _, rfl⟩ (by decide +kernel) h_Mo_write_at_s5015 wm_3910 wm_9 wm_3907 wm_3909 wv_24_7 ⟨by decide, by decide, by decide +kernel⟩ (by decide), List.forall_mem_cons.mpr ⟨cl_virtual (y := y_Mo_write_at_s5016) (ci := 13) rfl rfl ⟨_, _, rfl⟩ (by decide +kernel) h_Mo_write_at_s5016 wm_3910 wm_9 wm_3907 wm_3909 wv_24_7 ⟨by decide, by decide, by decide +kernel⟩ (by decide), List.forall_mem_cons.mpr ⟨cl_virtual (y := y_Mo_write_at_s5017) (ci := 13) rfl rfl ⟨_, _, rfl⟩ (by decide +kernel) h_Mo_write_at_s5017 wm_3910 wm_9 wm_3907 wm_3909 wv_24_7 ⟨by decide, by decide, by decide +kernel⟩ (by decide), List.forall_mem_cons.mpr ⟨cl_virtual (y := y_Mo_writeGroup_at_l2) (ci := 13) rfl rfl ⟨_, _, rfl⟩ (by decide +kernel) h_Mo_writeGroup_at_l2 wm_3905 wm_9 wm_3902 wm_3904 wv_24_6 ⟨by decide, by decide, by decide +kernel⟩ (by decide), List.forall_mem_cons.mpr ⟨cl_virtual (y := y_Mo_write_at_s5018) (ci := 13) rfl rfl ⟨_, _, rfl⟩ (by decide +kernel) h_Mo_write_at_s5018 wm_3910 wm_9 wm_3907 wm_3909 wv_24_7 ⟨by decide, by decide, by decide +kernel⟩ (by decide), List.forall_mem_cons.mpr ⟨cl_ldcw (own := "DrawingHouseModel") (idx := 1288) (i := 13) (tx := "node ") (by decide +kernel) (by decide +kernel) (by decide +kernel), List.forall_mem_cons.mpr ⟨cl_ldcw (own := "DrawingHouseModel") (idx := 1296) (i := 14) (tx := " [size=") (by decide +kernel) (by decide +kernel) (by decide +kernel), List.forall_mem_cons.mpr ⟨cl_ldcw (own := "DrawingHouseModel") (idx := 1301) (i := 45) (tx := "]") (by decide +kernel) (by decide +kernel) (by decide +kernel), List.forall_mem_cons.mpr ⟨cl_ldcw (own := "DrawingHouseModel") (idx := 1303) (i := 15) (tx := ";\n") (by decide +kernel) (by decide +kernel) (by decide +kernel), List.forall_mem_cons.mpr ⟨cl_ldcw (own := "DrawingHouseModel") (idx := 1305) (i := 16) (tx := "group ") (by decide +kernel) (by decide +kernel) (by decide +kernel), List.forall_mem_cons.mpr ⟨cl_ldcw (own := "DrawingHouseModel") (idx := 1307) (i := 17) (tx := " {\n") (by decide +kernel) (by decide +kernel) (by decide +kernel), List.forall_mem_cons.mpr ⟨cl_ldcw (own := "DrawingHouseModel") (idx := 1312) (i := 18) (tx := "}\n") (by decide +kernel) (by decide +kernel) (by decide +kernel), List.forall_mem_nil _⟩⟩⟩⟩⟩⟩⟩⟩⟩⟩⟩⟩⟩⟩⟩⟩⟩⟩⟩⟩⟩⟩, List.forall_mem_nil _, List.forall_mem_nil _, GG_pl⟩ (by decide +kernel)

set_option maxHeartbeats 4000000 in
theorem vc_Mo_writeGroup_at_l2_0_0 (x2 : Int) (x3 : Int) (texts_0 : Int) (k2 : 0 ≤ x2 ∧ x2 ≤ 99712161) (k3 : 0 ≤ x3 ∧ x3 ≤ 0) (f0 : 1 * texts_0 + ((-1) * x2 + 0) ≤ 0) (kz_0_170 : 0 ≤ texts_0 ∧ texts_0 ≤ 100000000) : 1 * texts_0 + ((-1) * x2 + ((-36) * x3 + 0)) ≤ 0 := by
  first | assumption | omega | grind
def o_Mo_writeGroup_at_l2_0 : or_T := (2, 4, [(0, (2, 0, 0, [165])), (2, (0, 0, 99712161, [])), (3, (0, 0, 0, []))], [(20, [0, 2], [30, 0, 1, 1, 170, -1, 0, 0])], [], [], [(20, [0, 2, 3], [30, 0, 1, 1, 170, -1, 0, 0, -36, 0, 0]), (24, [0, 0], [])], [], [])
theorem oo_Mo_writeGroup_at_l2_0 {kA : Nat → ClassId} : or_ok PRD kA GG o_Mo_writeGroup_at_l2_0 := by
  refine or_mk fun A ta ws vs hD hth hl => ?_
  intro t0 r0 t2 k2 t3 k3 f0
  have kz_0_170 := fdq_11 hD hth r0
  have nf0 : fc_1 PRD (20, [0, 2, 3], [30, 0, 1, 1, 170, -1, 0, 0, -36, 0, 0]) ws (vs) := ⟨nf_in hl rfl, sgq_2035 (vc_Mo_writeGroup_at_l2_0_0 (v_iv (n_v vs 2)) (v_iv (n_v vs 3)) (w_fi ws (n_v vs 0) 170) k2 k3 (shm_131 f0) kz_0_170)⟩
  have nf1 : fc_1 PRD (24, [0, 0], []) ws (vs) := by
    refine ⟨nf_in hl rfl, sgq_1 ?_⟩
    · show n_v vs 0 = n_v vs 0
      first | rfl | simp only [true_and]
  refine ⟨(fun _ h => (by cases h)), [], trivial, ?_, (fun _ h => (by cases h))⟩
  rw [List.append_nil]
  exact List.forall_mem_cons.mpr ⟨⟨show (20 : Nat) < 100 from by decide, nf0⟩, List.forall_mem_cons.mpr ⟨⟨show (24 : Nat) < 100 from by decide, nf1⟩, (fun _ h => (by cases h))⟩⟩
set_option maxHeartbeats 4000000 in
theorem vc_Mo_writeGroup_at_l2_1_0 (x2 : Int) (x4 : Int) (x5 : Int) (x6 : Int) (x7 : Int) (x8 : Int) (all_0 : Int → Int) (r_0 : Int) (texts_0 : Int) (k2 : 0 ≤ x2 ∧ x2 ≤ 99712161) (k4 : 2 ≤ x4 ∧ x4 ≤ 7) (k5 : 0 ≤ x5 ∧ x5 ≤ 24) (k6 : 0 ≤ x6 ∧ x6 ≤ 24) (k7 : 1 ≤ x7 ∧ x7 ≤ 1) (k8 : 3 ≤ x8 ∧ x8 ≤ 8) (d0 : x4 + 1 ≤ x8 ∧ x8 ≤ x4 + 1) (d1 : x6 + 0 ≤ x5 ∧ x5 ≤ x6 + 4294967296) (f0 : x8 = x4 + x7) (f1 : x6 ≤ x5) (f2 : 1 * x6 + ((-1) * all_0 (r_0 + 0) + 0) ≤ 0) (f3 : (-1) * x6 + (1 * all_0 (r_0 + 0) + 0) ≤ 0) (f4 : 1 * texts_0 + ((-1) * x2 + ((-36) * x5 + 0)) ≤ 0) (kz_0_170 : 0 ≤ texts_0 ∧ texts_0 ≤ 100000000) : 1 * texts_0 + ((-1) * x2 + ((-57395) * x8 + (57395 * x4 + 0))) ≤ (-56531) := by
  first | assumption | omega | grind
def o_Mo_writeGroup_at_l2_1 : or_T := (83, 9, [(0, (2, 0, 0, [165])), (2, (0, 0, 99712161, [])), (4, (0, 2, 7, [])), (5, (0, 0, 24, [])), (6, (0, 0, 24, [])), (7, (0, 1, 1, [])), (8, (0, 3, 8, []))], [(1, [8, 4, 7], []), (7, [5, 6], [3]), (20, [6, 3], [30, 0, 1, 0, 0, -1, 3, 2005000]), (20, [6, 3], [30, 0, -1, 0, 0, 1, 3, 2005000]), (20, [3, 2, 5], [30, 0, 1, 1, 170, -1, 0, 0, -36, 0, 0]), (24, [0, 3], [])], [], [], [(20, [3, 2, 8, 4], [30, -56531, 1, 1, 170, -1, 0, 0, -57395, 0, 0, 57395, 0, 0])], [], [(8, 4, 1, 1), (5, 6, 0, 4294967296)])
theorem oo_Mo_writeGroup_at_l2_1 {kA : Nat → ClassId} : or_ok PRD kA GG o_Mo_writeGroup_at_l2_1 := by
  refine or_mk fun A ta ws vs hD hth hl => ?_
  intro t0 r0 t2 k2 t4 k4 t5 k5 t6 k6 t7 k7 t8 k8 d0 d1 f0 f1 f2 f3 f4 f5
  replace f0 := shm_12 f0
  replace f1 := shm_2 f1
  replace f2 := shm_126 f2
  replace f3 := shm_127 f3
  replace f4 := shm_2035 f4
  replace f5 := shm_5 f5
  have q3 : n_v vs 3 = n_v vs 0 := f5.symm
  simp only [q3] at f2 f3 f4
  have kz_0_170 := fdq_11 hD hth r0
  have nf0 : fc_1 PRD (20, [3, 2, 8, 4], [30, -56531, 1, 1, 170, -1, 0, 0, -57395, 0, 0, 57395, 0, 0]) ws (vs) := by
    refine ⟨nf_in hl rfl, sgq_2057 ?_⟩
    · show 1 * w_fi ws (n_v vs 3) 170 + ((-1) * v_iv (n_v vs 2) + ((-57395) * v_iv (n_v vs 8) + (57395 * v_iv (n_v vs 4) + 0))) ≤ (-56531)
      rw [q3]
      exact vc_Mo_writeGroup_at_l2_1_0 (v_iv (n_v vs 2)) (v_iv (n_v vs 4)) (v_iv (n_v vs 5)) (v_iv (n_v vs 6)) (v_iv (n_v vs 7)) (v_iv (n_v vs 8)) (w_ei ws (w_ar ws (n_v vs 0) 2)) (w_fi ws (n_v vs 0) 5) (w_fi ws (n_v vs 0) 170) k2 k4 k5 k6 k7 k8 d0 d1 f0 f1 f2 f3 f4 kz_0_170
  refine ⟨(fun _ h => (by cases h)), [], trivial, ?_, (fun _ h => (by cases h))⟩
  rw [List.append_nil]
  exact List.forall_mem_cons.mpr ⟨⟨show (20 : Nat) < 100 from by decide, nf0⟩, (fun _ h => (by cases h))⟩
set_option maxHeartbeats 4000000 in
theorem vc_Mo_writeGroup_at_l2_2_0 (x2 : Int) (x4 : Int) (x5 : Int) (x6 : Int) (x7 : Int) (all_0 : Int → Int) (r_0 : Int) (texts_0 : Int) (gx : Int) (k2 : 0 ≤ x2 ∧ x2 ≤ 99712161) (k4 : 2 ≤ x4 ∧ x4 ≤ 7) (k5 : 0 ≤ x5 ∧ x5 ≤ 23) (k6 : 1 ≤ x6 ∧ x6 ≤ 24) (k7 : 2 ≤ x7 ∧ x7 ≤ 7) (d0 : x4 + 0 ≤ x7 ∧ x7 ≤ x4 + 0) (d1 : x6 + (-4294967296) ≤ x5 ∧ x5 ≤ x6 + (-1)) (f0 : x7 = x4) (f1 : x7 = all_0 (((r_0 + 243) + x5))) (f2 : x5 < x6) (f3 : 1 * x6 + ((-1) * all_0 (r_0 + 0) + 0) ≤ 0) (f4 : (-1) * x6 + (1 * all_0 (r_0 + 0) + 0) ≤ 0) (f5 : 1 * texts_0 + ((-1) * x2 + ((-36) * x5 + 0)) ≤ 0) (kz_0_170 : 0 ≤ texts_0 ∧ texts_0 ≤ 100000000) (ex2 : gx = texts_0) (ex3 : 0 ≤ gx ∧ gx ≤ 99999995) : 1 * texts_0 + ((-1) * gx + 0) ≤ 0 := by
  first | assumption | omega | grind
set_option maxHeartbeats 4000000 in
theorem vc_Mo_writeGroup_at_l2_2_1 (x2 : Int) (x4 : Int) (x5 : Int) (x6 : Int) (x7 : Int) (all_0 : Int → Int) (r_0 : Int) (texts_0 : Int) (gx : Int) (k2 : 0 ≤ x2 ∧ x2 ≤ 99712161) (k4 : 2 ≤ x4 ∧ x4 ≤ 7) (k5 : 0 ≤ x5 ∧ x5 ≤ 23) (k6 : 1 ≤ x6 ∧ x6 ≤ 24) (k7 : 2 ≤ x7 ∧ x7 ≤ 7) (d0 : x4 + 0 ≤ x7 ∧ x7 ≤ x4 + 0) (d1 : x6 + (-4294967296) ≤ x5 ∧ x5 ≤ x6 + (-1)) (f0 : x7 = x4) (f1 : x7 = all_0 (((r_0 + 243) + x5))) (f2 : x5 < x6) (f3 : 1 * x6 + ((-1) * all_0 (r_0 + 0) + 0) ≤ 0) (f4 : (-1) * x6 + (1 * all_0 (r_0 + 0) + 0) ≤ 0) (f5 : 1 * texts_0 + ((-1) * x2 + ((-36) * x5 + 0)) ≤ 0) (kz_0_170 : 0 ≤ texts_0 ∧ texts_0 ≤ 100000000) (ex2 : gx = texts_0) (ex3 : 0 ≤ gx ∧ gx ≤ 99999995) : 1 * gx + ((-1) * x2 + ((-36) * x5 + 0)) ≤ 0 := by
  first | assumption | omega | grind
def o_Mo_writeGroup_at_l2_2 : or_T := (26, 9, [(0, (2, 0, 0, [165])), (2, (0, 0, 99712161, [])), (3, (2, 0, 0, [165])), (4, (0, 2, 7, [])), (5, (0, 0, 23, [])), (6, (0, 1, 24, [])), (7, (0, 2, 7, []))], [(7, [7, 4], [0]), (20, [7, 3, 5], [50, 1, 1, 1005, 1002, 1, 2, 1, 0, 3, 1, 2, 4, 7, 4, 3, 2, 1, 5, 0, 243, 1, 2]), (7, [5, 6], [2]), (20, [6, 3], [30, 0, 1, 0, 0, -1, 3, 2005000]), (20, [6, 3], [30, 0, -1, 0, 0, 1, 3, 2005000]), (20, [3, 2, 5], [30, 0, 1, 1, 170, -1, 0, 0, -36, 0, 0]), (24, [0, 3], [])], [], [(0, 0, 99999995, [])], [(20, [3, 9], [30, 0, 1, 1, 170, -1, 0, 0]), (23, [9, 2, 5], [0, 1, -1, -36])], [], [(7, 4, 0, 0), (5, 6, -4294967296, -1)])
theorem oo_Mo_writeGroup_at_l2_2 {kA : Nat → ClassId} : or_ok PRD kA GG o_Mo_writeGroup_at_l2_2 := by
  refine or_mk fun A ta ws vs hD hth hl => ?_
  intro t0 r0 t2 k2 t3 r3 t4 k4 t5 k5 t6 k6 t7 k7 d0 d1 f0 f1 f2 f3 f4 f5 f6
  replace f0 := shm_37 f0
  replace f1 := shm_597 f1
  replace f2 := shm_6 f2
  replace f3 := shm_126 f3
  replace f4 := shm_127 f4
  replace f5 := shm_2035 f5
  replace f6 := shm_5 f6
  have q3 : n_v vs 3 = n_v vs 0 := f6.symm
  simp only [q3] at f1 f3 f4 f5
  have cr_0_2 := fdq_10 hD hth r0
  have br_0_2_F5_0_0 : w_ei ws (w_ar ws (n_v vs 0) 2) (w_fi ws (n_v vs 0) 5 + 0) = w_el ws (w_ar ws (n_v vs 0) 2) (w_fi ws (n_v vs 0) 5 + 0).toNat := rfl
  have kz_0_170 := fdq_11 hD hth r0
  have kv0 := fdq_11 hD hth r0
  obtain ⟨x, ex, hx⟩ := iv_ex (ta := ta) (lo := 0) (hi := 99999995) (z := w_fi ws (n_v vs 0) 170) (by omega) (by omega) (by omega) (by omega)
  have ex2 : v_iv (Value.int x) = w_fi ws (n_v vs 0) 170 := ex
  have ex3 : 0 ≤ v_iv (Value.int x) ∧ v_iv (Value.int x) ≤ 99999995 := tv_rng hx
  have e_2 : n_v (vs ++ [Value.int x]) 2 = n_v vs 2 := n_v_old (by rw [hl]; decide)
  have e_3 : n_v (vs ++ [Value.int x]) 3 = n_v vs 3 := n_v_old (by rw [hl]; decide)
  have e_5 : n_v (vs ++ [Value.int x]) 5 = n_v vs 5 := n_v_old (by rw [hl]; decide)
  have e_9 : n_v (vs ++ [Value.int x]) 9 = Value.int x := n_v_new hl
  have nf0 : fc_1 PRD (20, [3, 9], [30, 0, 1, 1, 170, -1, 0, 0]) ws (vs ++ [Value.int x]) := by
    refine ⟨nf_inA hl rfl, sgq_131 ?_⟩
    · show 1 * w_fi ws (n_v (vs ++ [Value.int x]) 3) 170 + ((-1) * v_iv (n_v (vs ++ [Value.int x]) 9) + 0) ≤ 0
      simp only [e_3, e_9, q3]
      exact vc_Mo_writeGroup_at_l2_2_0 (v_iv (n_v vs 2)) (v_iv (n_v vs 4)) (v_iv (n_v vs 5)) (v_iv (n_v vs 6)) (v_iv (n_v vs 7)) (w_ei ws (w_ar ws (n_v vs 0) 2)) (w_fi ws (n_v vs 0) 5) (w_fi ws (n_v vs 0) 170) (v_iv (Value.int x)) k2 k4 k5 k6 k7 d0 d1 f0 f1 f2 f3 f4 f5 kz_0_170 ex2 ex3
  have nf1 : fc_1 PRD (23, [9, 2, 5], [0, 1, -1, -36]) ws (vs ++ [Value.int x]) := by
    refine ⟨nf_inA hl rfl, sgq_2037 ?_⟩
    · show 1 * v_iv (n_v (vs ++ [Value.int x]) 9) + ((-1) * v_iv (n_v (vs ++ [Value.int x]) 2) + ((-36) * v_iv (n_v (vs ++ [Value.int x]) 5) + 0)) ≤ 0
      simp only [e_2, e_5, e_9]
      exact vc_Mo_writeGroup_at_l2_2_1 (v_iv (n_v vs 2)) (v_iv (n_v vs 4)) (v_iv (n_v vs 5)) (v_iv (n_v vs 6)) (v_iv (n_v vs 7)) (w_ei ws (w_ar ws (n_v vs 0) 2)) (w_fi ws (n_v vs 0) 5) (w_fi ws (n_v vs 0) 170) (v_iv (Value.int x)) k2 k4 k5 k6 k7 d0 d1 f0 f1 f2 f3 f4 f5 kz_0_170 ex2 ex3
  exact ⟨(fun _ h => (by cases h)), [Value.int x], ag_one hx, List.forall_mem_cons.mpr ⟨⟨show (20 : Nat) < 100 from by decide, nf0⟩, List.forall_mem_cons.mpr ⟨⟨show (23 : Nat) < 100 from by decide, nf1⟩, (fun _ h => (by cases h))⟩⟩, (fun _ h => (by cases h))⟩
set_option maxHeartbeats 4000000 in
theorem vc_Mo_writeGroup_at_l2_3_0 (x2 : Int) (x4 : Int) (x5 : Int) (x6 : Int) (x7 : Int) (x9 : Int) (all_0 : Int → Int) (r_0 : Int) (texts_0 : Int) (gx : Int) (k2 : 0 ≤ x2 ∧ x2 ≤ 99712161) (k4 : 2 ≤ x4 ∧ x4 ≤ 7) (k5 : 0 ≤ x5 ∧ x5 ≤ 23) (k6 : 1 ≤ x6 ∧ x6 ≤ 24) (k7 : 2 ≤ x7 ∧ x7 ≤ 7) (k9 : 0 ≤ x9 ∧ x9 ≤ 99999995) (d0 : x4 + 0 ≤ x7 ∧ x7 ≤ x4 + 0) (d1 : x6 + (-4294967296) ≤ x5 ∧ x5 ≤ x6 + (-1)) (f0 : 1 * x9 + ((-1) * x2 + ((-36) * x5 + 0)) ≤ 0) (f1 : x7 = all_0 (((r_0 + 243) + x5))) (f2 : 1 * x6 + ((-1) * all_0 (r_0 + 0) + 0) ≤ 0) (f3 : (-1) * x6 + (1 * all_0 (r_0 + 0) + 0) ≤ 0) (f5 : 1 * texts_0 + ((-1) * x9 + 0) ≤ 5) (f7 : 1 * x9 + ((-1) * x2 + ((-36) * x5 + 0)) ≤ 0) (f8 : x7 = x4) (f9 : x5 < x6) (kz_0_170 : 0 ≤ texts_0 ∧ texts_0 ≤ 100000000) (ex2 : gx = texts_0) (ex3 : 0 ≤ gx ∧ gx ≤ 99999992) : 1 * texts_0 + ((-1) * gx + 0) ≤ 0 := by
  first | assumption | omega | grind
set_option maxHeartbeats 4000000 in
theorem vc_Mo_writeGroup_at_l2_3_1 (x2 : Int) (x4 : Int) (x5 : Int) (x6 : Int) (x7 : Int) (x9 : Int) (all_0 : Int → Int) (r_0 : Int) (texts_0 : Int) (gx : Int) (k2 : 0 ≤ x2 ∧ x2 ≤ 99712161) (k4 : 2 ≤ x4 ∧ x4 ≤ 7) (k5 : 0 ≤ x5 ∧ x5 ≤ 23) (k6 : 1 ≤ x6 ∧ x6 ≤ 24) (k7 : 2 ≤ x7 ∧ x7 ≤ 7) (k9 : 0 ≤ x9 ∧ x9 ≤ 99999995) (d0 : x4 + 0 ≤ x7 ∧ x7 ≤ x4 + 0) (d1 : x6 + (-4294967296) ≤ x5 ∧ x5 ≤ x6 + (-1)) (f0 : 1 * x9 + ((-1) * x2 + ((-36) * x5 + 0)) ≤ 0) (f1 : x7 = all_0 (((r_0 + 243) + x5))) (f2 : 1 * x6 + ((-1) * all_0 (r_0 + 0) + 0) ≤ 0) (f3 : (-1) * x6 + (1 * all_0 (r_0 + 0) + 0) ≤ 0) (f5 : 1 * texts_0 + ((-1) * x9 + 0) ≤ 5) (f7 : 1 * x9 + ((-1) * x2 + ((-36) * x5 + 0)) ≤ 0) (f8 : x7 = x4) (f9 : x5 < x6) (kz_0_170 : 0 ≤ texts_0 ∧ texts_0 ≤ 100000000) (ex2 : gx = texts_0) (ex3 : 0 ≤ gx ∧ gx ≤ 99999992) : 1 * gx + ((-1) * x2 + ((-36) * x5 + 0)) ≤ 5 := by
  first | assumption | omega | grind
def o_Mo_writeGroup_at_l2_3 : or_T := (31, 10, [(0, (2, 0, 0, [165])), (2, (0, 0, 99712161, [])), (3, (2, 0, 0, [165])), (4, (0, 2, 7, [])), (5, (0, 0, 23, [])), (6, (0, 1, 24, [])), (7, (0, 2, 7, [])), (9, (0, 0, 99999995, []))], [(23, [9, 2, 5], [0, 1, -1, -36]), (20, [7, 3, 5], [50, 1, 1, 1005, 1002, 1, 2, 1, 0, 3, 1, 2, 4, 7, 4, 3, 2, 1, 5, 0, 243, 1, 2]), (20, [6, 3], [30, 0, 1, 0, 0, -1, 3, 2005000]), (20, [6, 3], [30, 0, -1, 0, 0, 1, 3, 2005000]), (24, [0, 3], []), (20, [3, 9], [30, 5, 1, 1, 170, -1, 0, 0]), (102, [9], [7770675568902916283677847627294075626569627356208558085007249638955617140820833992704, 165170]), (23, [9, 2, 5], [0, 1, -1, -36]), (7, [7, 4], [0]), (7, [5, 6], [2])], [], [(0, 0, 99999992, [])], [(20, [3, 10], [30, 0, 1, 1, 170, -1, 0, 0]), (23, [10, 2, 5], [5, 1, -1, -36])], [], [(7, 4, 0, 0), (5, 6, -4294967296, -1)])
theorem oo_Mo_writeGroup_at_l2_3 {kA : Nat → ClassId} : or_ok PRD kA GG o_Mo_writeGroup_at_l2_3 := by
  refine or_mk fun A ta ws vs hD hth hl => ?_
  intro t0 r0 t2 k2 t3 r3 t4 k4 t5 k5 t6 k6 t7 k7 t9 k9 d0 d1 f0 f1 f2 f3 f4 f5 ta1 w1 le1 s1 f7 f8 f9
  replace f0 := shm_2037 f0
  replace f1 := shm_597 f1
  replace f2 := shm_126 f2
  replace f3 := shm_127 f3
  replace f4 := shm_5 f4
  replace f5 := shm_208 f5
  replace f7 := shm_2037 f7
  replace f8 := shm_37 f8
  replace f9 := shm_6 f9
  have q3 : n_v vs 3 = n_v vs 0 := f4.symm
  simp only [q3] at f1 f2 f3 f5
  have cr_0_2 := fdq_10 hD hth r0
  have br_0_2_F5_0_0 : w_ei ws (w_ar ws (n_v vs 0) 2) (w_fi ws (n_v vs 0) 5 + 0) = w_el ws (w_ar ws (n_v vs 0) 2) (w_fi ws (n_v vs 0) 5 + 0).toNat := rfl
  have kz_0_170 := fdq_11 hD hth r0
  have kv0 := fdq_11 hD hth r0
  obtain ⟨x, ex, hx⟩ := iv_ex (ta := ta) (lo := 0) (hi := 99999992) (z := w_fi ws (n_v vs 0) 170) (by omega) (by omega) (by omega) (by omega)
  have ex2 : v_iv (Value.int x) = w_fi ws (n_v vs 0) 170 := ex
  have ex3 : 0 ≤ v_iv (Value.int x) ∧ v_iv (Value.int x) ≤ 99999992 := tv_rng hx
  have e_2 : n_v (vs ++ [Value.int x]) 2 = n_v vs 2 := n_v_old (by rw [hl]; decide)
  have e_3 : n_v (vs ++ [Value.int x]) 3 = n_v vs 3 := n_v_old (by rw [hl]; decide)
  have e_5 : n_v (vs ++ [Value.int x]) 5 = n_v vs 5 := n_v_old (by rw [hl]; decide)
  have e_10 : n_v (vs ++ [Value.int x]) 10 = Value.int x := n_v_new hl
  have nf0 : fc_1 PRD (20, [3, 10], [30, 0, 1, 1, 170, -1, 0, 0]) ws (vs ++ [Value.int x]) := by
    refine ⟨nf_inA hl rfl, sgq_131 ?_⟩
    · show 1 * w_fi ws (n_v (vs ++ [Value.int x]) 3) 170 + ((-1) * v_iv (n_v (vs ++ [Value.int x]) 10) + 0) ≤ 0
      simp only [e_3, e_10, q3]
      exact vc_Mo_writeGroup_at_l2_3_0 (v_iv (n_v vs 2)) (v_iv (n_v vs 4)) (v_iv (n_v vs 5)) (v_iv (n_v vs 6)) (v_iv (n_v vs 7)) (v_iv (n_v vs 9)) (w_ei ws (w_ar ws (n_v vs 0) 2)) (w_fi ws (n_v vs 0) 5) (w_fi ws (n_v vs 0) 170) (v_iv (Value.int x)) k2 k4 k5 k6 k7 k9 d0 d1 f0 f1 f2 f3 f5 f7 f8 f9 kz_0_170 ex2 ex3
  have nf1 : fc_1 PRD (23, [10, 2, 5], [5, 1, -1, -36]) ws (vs ++ [Value.int x]) := by
    refine ⟨nf_inA hl rfl, sgq_2038 ?_⟩
    · show 1 * v_iv (n_v (vs ++ [Value.int x]) 10) + ((-1) * v_iv (n_v (vs ++ [Value.int x]) 2) + ((-36) * v_iv (n_v (vs ++ [Value.int x]) 5) + 0)) ≤ 5
      simp only [e_2, e_5, e_10]
      exact vc_Mo_writeGroup_at_l2_3_1 (v_iv (n_v vs 2)) (v_iv (n_v vs 4)) (v_iv (n_v vs 5)) (v_iv (n_v vs 6)) (v_iv (n_v vs 7)) (v_iv (n_v vs 9)) (w_ei ws (w_ar ws (n_v vs 0) 2)) (w_fi ws (n_v vs 0) 5) (w_fi ws (n_v vs 0) 170) (v_iv (Value.int x)) k2 k4 k5 k6 k7 k9 d0 d1 f0 f1 f2 f3 f5 f7 f8 f9 kz_0_170 ex2 ex3
  exact ⟨(fun _ h => (by cases h)), [Value.int x], ag_one hx, List.forall_mem_cons.mpr ⟨⟨show (20 : Nat) < 100 from by decide, nf0⟩, List.forall_mem_cons.mpr ⟨⟨show (23 : Nat) < 100 from by decide, nf1⟩, (fun _ h => (by cases h))⟩⟩, (fun _ h => (by cases h))⟩
set_option maxHeartbeats 4000000 in
theorem vc_Mo_writeGroup_at_l2_4_0 (x2 : Int) (x4 : Int) (x5 : Int) (x6 : Int) (x7 : Int) (x9 : Int) (x10 : Int) (x11 : Int) (x12 : Int) (all_0 : Int → Int) (r_0 : Int) (texts_0 : Int) (gx : Int) (k2 : 0 ≤ x2 ∧ x2 ≤ 99712161) (k4 : 2 ≤ x4 ∧ x4 ≤ 7) (k5 : 0 ≤ x5 ∧ x5 ≤ 23) (k6 : 1 ≤ x6 ∧ x6 ≤ 24) (k7 : 2 ≤ x7 ∧ x7 ≤ 7) (k9 : 0 ≤ x9 ∧ x9 ≤ 99999995) (k10 : 0 ≤ x10 ∧ x10 ≤ 99999992) (k11 : 0 ≤ x11 ∧ x11 ≤ 1) (k12 : 1 ≤ x12 ∧ x12 ≤ 1) (d0 : x4 + 0 ≤ x7 ∧ x7 ≤ x4 + 0) (d1 : x6 + (-4294967296) ≤ x5 ∧ x5 ≤ x6 + (-1)) (f0 : x11 ≤ x12) (f1 : x11 = all_0 (((r_0 + 219) + x5))) (f2 : 1 * x10 + ((-1) * x2 + ((-36) * x5 + 0)) ≤ 5) (f3 : 1 * x9 + ((-1) * x2 + ((-36) * x5 + 0)) ≤ 0) (f4 : x7 = all_0 (((r_0 + 243) + x5))) (f5 : 1 * x6 + ((-1) * all_0 (r_0 + 0) + 0) ≤ 0) (f6 : (-1) * x6 + (1 * all_0 (r_0 + 0) + 0) ≤ 0) (f8 : 1 * texts_0 + ((-1) * x10 + 0) ≤ 8) (f10 : 1 * x10 + ((-1) * x2 + ((-36) * x5 + 0)) ≤ 5) (f11 : 1 * x9 + ((-1) * x2 + ((-36) * x5 + 0)) ≤ 0) (f13 : 1 * x9 + ((-1) * x2 + ((-36) * x5 + 0)) ≤ 0) (f14 : x7 = x4) (f15 : x5 < x6) (kz_0_170 : 0 ≤ texts_0 ∧ texts_0 ≤ 100000000) (ex2 : gx = texts_0) (ex3 : 0 ≤ gx ∧ gx ≤ 99999998) : 1 * texts_0 + ((-1) * gx + 0) ≤ 0 := by
  first | assumption | omega | grind
set_option maxHeartbeats 4000000 in
theorem vc_Mo_writeGroup_at_l2_4_1 (x2 : Int) (x4 : Int) (x5 : Int) (x6 : Int) (x7 : Int) (x9 : Int) (x10 : Int) (x11 : Int) (x12 : Int) (all_0 : Int → Int) (r_0 : Int) (texts_0 : Int) (gx : Int) (k2 : 0 ≤ x2 ∧ x2 ≤ 99712161) (k4 : 2 ≤ x4 ∧ x4 ≤ 7) (k5 : 0 ≤ x5 ∧ x5 ≤ 23) (k6 : 1 ≤ x6 ∧ x6 ≤ 24) (k7 : 2 ≤ x7 ∧ x7 ≤ 7) (k9 : 0 ≤ x9 ∧ x9 ≤ 99999995) (k10 : 0 ≤ x10 ∧ x10 ≤ 99999992) (k11 : 0 ≤ x11 ∧ x11 ≤ 1) (k12 : 1 ≤ x12 ∧ x12 ≤ 1) (d0 : x4 + 0 ≤ x7 ∧ x7 ≤ x4 + 0) (d1 : x6 + (-4294967296) ≤ x5 ∧ x5 ≤ x6 + (-1)) (f0 : x11 ≤ x12) (f1 : x11 = all_0 (((r_0 + 219) + x5))) (f2 : 1 * x10 + ((-1) * x2 + ((-36) * x5 + 0)) ≤ 5) (f3 : 1 * x9 + ((-1) * x2 + ((-36) * x5 + 0)) ≤ 0) (f4 : x7 = all_0 (((r_0 + 243) + x5))) (f5 : 1 * x6 + ((-1) * all_0 (r_0 + 0) + 0) ≤ 0) (f6 : (-1) * x6 + (1 * all_0 (r_0 + 0) + 0) ≤ 0) (f8 : 1 * texts_0 + ((-1) * x10 + 0) ≤ 8) (f10 : 1 * x10 + ((-1) * x2 + ((-36) * x5 + 0)) ≤ 5) (f11 : 1 * x9 + ((-1) * x2 + ((-36) * x5 + 0)) ≤ 0) (f13 : 1 * x9 + ((-1) * x2 + ((-36) * x5 + 0)) ≤ 0) (f14 : x7 = x4) (f15 : x5 < x6) (kz_0_170 : 0 ≤ texts_0 ∧ texts_0 ≤ 100000000) (ex2 : gx = texts_0) (ex3 : 0 ≤ gx ∧ gx ≤ 99999998) : 1 * gx + ((-1) * x2 + ((-36) * x5 + 0)) ≤ 34 := by
  first | assumption | omega | grind
def o_Mo_writeGroup_at_l2_4 : or_T := (70, 14, [(0, (2, 0, 0, [165])), (2, (0, 0, 99712161, [])), (3, (2, 0, 0, [165])), (4, (0, 2, 7, [])), (5, (0, 0, 23, [])), (6, (0, 1, 24, [])), (7, (0, 2, 7, [])), (9, (0, 0, 99999995, [])), (10, (0, 0, 99999992, [])), (11, (0, 0, 1, [])), (12, (0, 1, 1, []))], [(7, [11, 12], [5]), (20, [11, 3, 5], [50, 1, 1, 1005, 1002, 1, 2, 1, 0, 3, 1, 2, 4, 7, 4, 3, 2, 1, 5, 0, 219, 1, 2]), (23, [10, 2, 5], [5, 1, -1, -36]), (23, [9, 2, 5], [0, 1, -1, -36]), (20, [7, 3, 5], [50, 1, 1, 1005, 1002, 1, 2, 1, 0, 3, 1, 2, 4, 7, 4, 3, 2, 1, 5, 0, 243, 1, 2]), (20, [6, 3], [30, 0, 1, 0, 0, -1, 3, 2005000]), (20, [6, 3], [30, 0, -1, 0, 0, 1, 3, 2005000]), (24, [0, 3], []), (20, [3, 10], [30, 8, 1, 1, 170, -1, 0, 0]), (102, [10], [7770675568902916283677847627294075626569627356208558085007249638955617140820833992704, 165170]), (23, [10, 2, 5], [5, 1, -1, -36]), (23, [9, 2, 5], [0, 1, -1, -36]), (102, [9], [7770675568902916283677847627294075626569627356208558085007249638955617140820833992704, 165170]), (23, [9, 2, 5], [0, 1, -1, -36]), (7, [7, 4], [0]), (7, [5, 6], [2])], [], [(0, 0, 99999998, [])], [(20, [3, 14], [30, 0, 1, 1, 170, -1, 0, 0]), (23, [14, 2, 5], [34, 1, -1, -36])], [], [(7, 4, 0, 0), (5, 6, -4294967296, -1)])
theorem oo_Mo_writeGroup_at_l2_4 {kA : Nat → ClassId} : or_ok PRD kA GG o_Mo_writeGroup_at_l2_4 := by
  refine or_mk fun A ta ws vs hD hth hl => ?_
  intro t0 r0 t2 k2 t3 r3 t4 k4 t5 k5 t6 k6 t7 k7 t9 k9 t10 k10 t11 k11 t12 k12 d0 d1 f0 f1 f2 f3 f4 f5 f6 f7 f8 ta1 w1 le1 s1 f10 f11 ta2 w2 le2 s2 f13 f14 f15
  replace f0 := shm_24 f0
  replace f1 := shm_732 f1
  replace f2 := shm_2038 f2
  replace f3 := shm_2037 f3
  replace f4 := shm_597 f4
  replace f5 := shm_126 f5
  replace f6 := shm_127 f6
  replace f7 := shm_5 f7
  replace f8 := shm_160 f8
  replace f10 := shm_2038 f10
  replace f11 := shm_2037 f11
  replace f13 := shm_2037 f13
  replace f14 := shm_37 f14
  replace f15 := shm_6 f15
  have q3 : n_v vs 3 = n_v vs 0 := f7.symm
  simp only [q3] at f1 f4 f5 f6 f8
  have cr_0_2 := fdq_10 hD hth r0
  have br_0_2_F5_0_0 : w_ei ws (w_ar ws (n_v vs 0) 2) (w_fi ws (n_v vs 0) 5 + 0) = w_el ws (w_ar ws (n_v vs 0) 2) (w_fi ws (n_v vs 0) 5 + 0).toNat := rfl
  have kz_0_170 := fdq_11 hD hth r0
  have kv0 := fdq_11 hD hth r0
  obtain ⟨x, ex, hx⟩ := iv_ex (ta := ta) (lo := 0) (hi := 99999998) (z := w_fi ws (n_v vs 0) 170) (by omega) (by omega) (by omega) (by omega)
  have ex2 : v_iv (Value.int x) = w_fi ws (n_v vs 0) 170 := ex
  have ex3 : 0 ≤ v_iv (Value.int x) ∧ v_iv (Value.int x) ≤ 99999998 := tv_rng hx
  have e_2 : n_v (vs ++ [Value.int x]) 2 = n_v vs 2 := n_v_old (by rw [hl]; decide)
  have e_3 : n_v (vs ++ [Value.int x]) 3 = n_v vs 3 := n_v_old (by rw [hl]; decide)
  have e_5 : n_v (vs ++ [Value.int x]) 5 = n_v vs 5 := n_v_old (by rw [hl]; decide)
  have e_14 : n_v (vs ++ [Value.int x]) 14 = Value.int x := n_v_new hl
  have nf0 : fc_1 PRD (20, [3, 14], [30, 0, 1, 1, 170, -1, 0, 0]) ws (vs ++ [Value.int x]) := by
    refine ⟨nf_inA hl rfl, sgq_131 ?_⟩
    · show 1 * w_fi ws (n_v (vs ++ [Value.int x]) 3) 170 + ((-1) * v_iv (n_v (vs ++ [Value.int x]) 14) + 0) ≤ 0
      simp only [e_3, e_14, q3]
      exact vc_Mo_writeGroup_at_l2_4_0 (v_iv (n_v vs 2)) (v_iv (n_v vs 4)) (v_iv (n_v vs 5)) (v_iv (n_v vs 6)) (v_iv (n_v vs 7)) (v_iv (n_v vs 9)) (v_iv (n_v vs 10)) (v_iv (n_v vs 11)) (v_iv (n_v vs 12)) (w_ei ws (w_ar ws (n_v vs 0) 2)) (w_fi ws (n_v vs 0) 5) (w_fi ws (n_v vs 0) 170) (v_iv (Value.int x)) k2 k4 k5 k6 k7 k9 k10 k11 k12 d0 d1 f0 f1 f2 f3 f4 f5 f6 f8 f10 f11 f13 f14 f15 kz_0_170 ex2 ex3
  have nf1 : fc_1 PRD (23, [14, 2, 5], [34, 1, -1, -36]) ws (vs ++ [Value.int x]) := by
    refine ⟨nf_inA hl rfl, sgq_2039 ?_⟩
    · show 1 * v_iv (n_v (vs ++ [Value.int x]) 14) + ((-1) * v_iv (n_v (vs ++ [Value.int x]) 2) + ((-36) * v_iv (n_v (vs ++ [Value.int x]) 5) + 0)) ≤ 34
      simp only [e_2, e_5, e_14]
      exact vc_Mo_writeGroup_at_l2_4_1 (v_iv (n_v vs 2)) (v_iv (n_v vs 4)) (v_iv (n_v vs 5)) (v_iv (n_v vs 6)) (v_iv (n_v vs 7)) (v_iv (n_v vs 9)) (v_iv (n_v vs 10)) (v_iv (n_v vs 11)) (v_iv (n_v vs 12)) (w_ei ws (w_ar ws (n_v vs 0) 2)) (w_fi ws (n_v vs 0) 5) (w_fi ws (n_v vs 0) 170) (v_iv (Value.int x)) k2 k4 k5 k6 k7 k9 k10 k11 k12 d0 d1 f0 f1 f2 f3 f4 f5 f6 f8 f10 f11 f13 f14 f15 kz_0_170 ex2 ex3
  exact ⟨(fun _ h => (by cases h)), [Value.int x], ag_one hx, List.forall_mem_cons.mpr ⟨⟨show (20 : Nat) < 100 from by decide, nf0⟩, List.forall_mem_cons.mpr ⟨⟨show (23 : Nat) < 100 from by decide, nf1⟩, (fun _ h => (by cases h))⟩⟩, (fun _ h => (by cases h))⟩
set_option maxHeartbeats 4000000 in
theorem vc_Mo_writeGroup_at_l2_5_0 (x2 : Int) (x4 : Int) (x5 : Int) (x6 : Int) (x7 : Int) (x9 : Int) (x10 : Int) (x11 : Int) (x12 : Int) (x14 : Int) (x15 : Int) (all_0 : Int → Int) (r_0 : Int) (texts_0 : Int) (k2 : 0 ≤ x2 ∧ x2 ≤ 99712161) (k4 : 2 ≤ x4 ∧ x4 ≤ 7) (k5 : 0 ≤ x5 ∧ x5 ≤ 23) (k6 : 1 ≤ x6 ∧ x6 ≤ 24) (k7 : 2 ≤ x7 ∧ x7 ≤ 7) (k9 : 0 ≤ x9 ∧ x9 ≤ 99999995) (k10 : 0 ≤ x10 ∧ x10 ≤ 99999992) (k11 : 0 ≤ x11 ∧ x11 ≤ 1) (k12 : 1 ≤ x12 ∧ x12 ≤ 1) (k14 : 0 ≤ x14 ∧ x14 ≤ 99999998) (k15 : 1 ≤ x15 ∧ x15 ≤ 24) (d0 : x5 + 1 ≤ x15 ∧ x15 ≤ x5 + 1) (d1 : x6 + (-4294967296) ≤ x15 ∧ x15 ≤ x6 + 0) (d2 : x4 + 0 ≤ x7 ∧ x7 ≤ x4 + 0) (d3 : x6 + (-4294967296) ≤ x5 ∧ x5 ≤ x6 + (-1)) (f0 : x15 = x5 + 1) (f1 : 1 * x14 + ((-1) * x2 + ((-36) * x5 + 0)) ≤ 34) (f2 : x11 = all_0 (((r_0 + 219) + x5))) (f3 : 1 * x10 + ((-1) * x2 + ((-36) * x5 + 0)) ≤ 5) (f4 : 1 * x9 + ((-1) * x2 + ((-36) * x5 + 0)) ≤ 0) (f5 : x7 = all_0 (((r_0 + 243) + x5))) (f6 : 1 * x6 + ((-1) * all_0 (r_0 + 0) + 0) ≤ 0) (f7 : (-1) * x6 + (1 * all_0 (r_0 + 0) + 0) ≤ 0) (f9 : 1 * texts_0 + ((-1) * x14 + 0) ≤ 2) (f11 : 1 * x14 + ((-1) * x2 + ((-36) * x5 + 0)) ≤ 34) (f12 : x11 ≤ x12) (f13 : 1 * x10 + ((-1) * x2 + ((-36) * x5 + 0)) ≤ 5) (f14 : 1 * x9 + ((-1) * x2 + ((-36) * x5 + 0)) ≤ 0) (f16 : 1 * x10 + ((-1) * x2 + ((-36) * x5 + 0)) ≤ 5) (f17 : 1 * x9 + ((-1) * x2 + ((-36) * x5 + 0)) ≤ 0) (f19 : 1 * x9 + ((-1) * x2 + ((-36) * x5 + 0)) ≤ 0) (f20 : x7 = x4) (f21 : x5 < x6) (kz_0_170 : 0 ≤ texts_0 ∧ texts_0 ≤ 100000000) : 1 * texts_0 + ((-1) * x2 + ((-36) * x15 + 0)) ≤ 0 := by
  first | assumption | omega | grind
def o_Mo_writeGroup_at_l2_5 : or_T := (2, 16, [(0, (2, 0, 0, [165])), (2, (0, 0, 99712161, [])), (4, (0, 2, 7, [])), (5, (0, 0, 23, [])), (6, (0, 1, 24, [])), (7, (0, 2, 7, [])), (9, (0, 0, 99999995, [])), (10, (0, 0, 99999992, [])), (11, (0, 0, 1, [])), (12, (0, 1, 1, [])), (14, (0, 0, 99999998, [])), (15, (0, 1, 24, []))], [(6, [15, 5], [1]), (23, [14, 2, 5], [34, 1, -1, -36]), (20, [11, 3, 5], [50, 1, 1, 1005, 1002, 1, 2, 1, 0, 3, 1, 2, 4, 7, 4, 3, 2, 1, 5, 0, 219, 1, 2]), (23, [10, 2, 5], [5, 1, -1, -36]), (23, [9, 2, 5], [0, 1, -1, -36]), (20, [7, 3, 5], [50, 1, 1, 1005, 1002, 1, 2, 1, 0, 3, 1, 2, 4, 7, 4, 3, 2, 1, 5, 0, 243, 1, 2]), (20, [6, 3], [30, 0, 1, 0, 0, -1, 3, 2005000]), (20, [6, 3], [30, 0, -1, 0, 0, 1, 3, 2005000]), (24, [0, 3], []), (20, [3, 14], [30, 2, 1, 1, 170, -1, 0, 0]), (102, [14], [7770675568902916283677847627294075626569627356208558085007249638955617140820833992704, 165170]), (23, [14, 2, 5], [34, 1, -1, -36]), (7, [11, 12], [5]), (23, [10, 2, 5], [5, 1, -1, -36]), (23, [9, 2, 5], [0, 1, -1, -36]), (102, [10], [7770675568902916283677847627294075626569627356208558085007249638955617140820833992704, 165170]), (23, [10, 2, 5], [5, 1, -1, -36]), (23, [9, 2, 5], [0, 1, -1, -36]), (102, [9], [7770675568902916283677847627294075626569627356208558085007249638955617140820833992704, 165170]), (23, [9, 2, 5], [0, 1, -1, -36]), (7, [7, 4], [0]), (7, [5, 6], [2])], [], [], [(20, [3, 2, 15], [30, 0, 1, 1, 170, -1, 0, 0, -36, 0, 0])], [], [(15, 5, 1, 1), (15, 6, -4294967296, 0), (7, 4, 0, 0), (5, 6, -4294967296, -1)])
theorem oo_Mo_writeGroup_at_l2_5 {kA : Nat → ClassId} : or_ok PRD kA GG o_Mo_writeGroup_at_l2_5 := by
  refine or_mk fun A ta ws vs hD hth hl => ?_
  intro t0 r0 t2 k2 t4 k4 t5 k5 t6 k6 t7 k7 t9 k9 t10 k10 t11 k11 t12 k12 t14 k14 t15 k15 d0 d1 d2 d3 f0 f1 f2 f3 f4 f5 f6 f7 f8 f9 ta1 w1 le1 s1 f11 f12 f13 f14 ta2 w2 le2 s2 f16 f17 ta3 w3 le3 s3 f19 f20 f21
  replace f0 := shm_4 f0
  replace f1 := shm_2039 f1
  replace f2 := shm_732 f2
  replace f3 := shm_2038 f3
  replace f4 := shm_2037 f4
  replace f5 := shm_597 f5
  replace f6 := shm_126 f6
  replace f7 := shm_127 f7
  replace f8 := shm_5 f8
  replace f9 := shm_210 f9
  replace f11 := shm_2039 f11
  replace f12 := shm_24 f12
  replace f13 := shm_2038 f13
  replace f14 := shm_2037 f14
  replace f16 := shm_2038 f16
  replace f17 := shm_2037 f17
  replace f19 := shm_2037 f19
  replace f20 := shm_37 f20
  replace f21 := shm_6 f21
  have q3 : n_v vs 3 = n_v vs 0 := f8.symm
  simp only [q3] at f2 f5 f6 f7 f9
  have kz_0_170 := fdq_11 hD hth r0
  have nf0 : fc_1 PRD (20, [3, 2, 15], [30, 0, 1, 1, 170, -1, 0, 0, -36, 0, 0]) ws (vs) := by
    refine ⟨nf_in hl rfl, sgq_2035 ?_⟩
    · show 1 * w_fi ws (n_v vs 3) 170 + ((-1) * v_iv (n_v vs 2) + ((-36) * v_iv (n_v vs 15) + 0)) ≤ 0
      rw [q3]
      exact vc_Mo_writeGroup_at_l2_5_0 (v_iv (n_v vs 2)) (v_iv (n_v vs 4)) (v_iv (n_v vs 5)) (v_iv (n_v vs 6)) (v_iv (n_v vs 7)) (v_iv (n_v vs 9)) (v_iv (n_v vs 10)) (v_iv (n_v vs 11)) (v_iv (n_v vs 12)) (v_iv (n_v vs 14)) (v_iv (n_v vs 15)) (w_ei ws (w_ar ws (n_v vs 0) 2)) (w_fi ws (n_v vs 0) 5) (w_fi ws (n_v vs 0) 170) k2 k4 k5 k6 k7 k9 k10 k11 k12 k14 k15 d0 d1 d2 d3 f0 f1 f2 f3 f4 f5 f6 f7 f9 f11 f12 f13 f14 f16 f17 f19 f20 f21 kz_0_170
  refine ⟨(fun _ h => (by cases h)), [], trivial, ?_, (fun _ h => (by cases h))⟩
  rw [List.append_nil]
  exact List.forall_mem_cons.mpr ⟨⟨show (20 : Nat) < 100 from by decide, nf0⟩, (fun _ h => (by cases h))⟩
set_option maxHeartbeats 4000000 in
theorem vc_Mo_writeGroup_at_l2_6_0 (x2 : Int) (x4 : Int) (x5 : Int) (x6 : Int) (x7 : Int) (x9 : Int) (x10 : Int) (x11 : Int) (x12 : Int) (all_0 : Int → Int) (r_0 : Int) (texts_0 : Int) (gx : Int) (k2 : 0 ≤ x2 ∧ x2 ≤ 99712161) (k4 : 2 ≤ x4 ∧ x4 ≤ 7) (k5 : 0 ≤ x5 ∧ x5 ≤ 23) (k6 : 1 ≤ x6 ∧ x6 ≤ 24) (k7 : 2 ≤ x7 ∧ x7 ≤ 7) (k9 : 0 ≤ x9 ∧ x9 ≤ 99999995) (k10 : 0 ≤ x10 ∧ x10 ≤ 99999992) (k11 : 2 ≤ x11 ∧ x11 ≤ 99) (k12 : 1 ≤ x12 ∧ x12 ≤ 1) (d0 : x4 + 0 ≤ x7 ∧ x7 ≤ x4 + 0) (d1 : x6 + (-4294967296) ≤ x5 ∧ x5 ≤ x6 + (-1)) (f0 : x12 < x11) (f1 : x11 = all_0 (((r_0 + 219) + x5))) (f2 : 1 * x10 + ((-1) * x2 + ((-36) * x5 + 0)) ≤ 5) (f3 : 1 * x9 + ((-1) * x2 + ((-36) * x5 + 0)) ≤ 0) (f4 : x7 = all_0 (((r_0 + 243) + x5))) (f5 : 1 * x6 + ((-1) * all_0 (r_0 + 0) + 0) ≤ 0) (f6 : (-1) * x6 + (1 * all_0 (r_0 + 0) + 0) ≤ 0) (f8 : 1 * texts_0 + ((-1) * x10 + 0) ≤ 8) (f10 : 1 * x10 + ((-1) * x2 + ((-36) * x5 + 0)) ≤ 5) (f11 : 1 * x9 + ((-1) * x2 + ((-36) * x5 + 0)) ≤ 0) (f13 : 1 * x9 + ((-1) * x2 + ((-36) * x5 + 0)) ≤ 0) (f14 : x7 = x4) (f15 : x5 < x6) (kz_0_170 : 0 ≤ texts_0 ∧ texts_0 ≤ 100000000) (ex2 : gx = texts_0) (ex3 : 0 ≤ gx ∧ gx ≤ 99999993) : 1 * texts_0 + ((-1) * gx + 0) ≤ 0 := by
  first | assumption | omega | grind
set_option maxHeartbeats 4000000 in
theorem vc_Mo_writeGroup_at_l2_6_1 (x2 : Int) (x4 : Int) (x5 : Int) (x6 : Int) (x7 : Int) (x9 : Int) (x10 : Int) (x11 : Int) (x12 : Int) (all_0 : Int → Int) (r_0 : Int) (texts_0 : Int) (gx : Int) (k2 : 0 ≤ x2 ∧ x2 ≤ 99712161) (k4 : 2 ≤ x4 ∧ x4 ≤ 7) (k5 : 0 ≤ x5 ∧ x5 ≤ 23) (k6 : 1 ≤ x6 ∧ x6 ≤ 24) (k7 : 2 ≤ x7 ∧ x7 ≤ 7) (k9 : 0 ≤ x9 ∧ x9 ≤ 99999995) (k10 : 0 ≤ x10 ∧ x10 ≤ 99999992) (k11 : 2 ≤ x11 ∧ x11 ≤ 99) (k12 : 1 ≤ x12 ∧ x12 ≤ 1) (d0 : x4 + 0 ≤ x7 ∧ x7 ≤ x4 + 0) (d1 : x6 + (-4294967296) ≤ x5 ∧ x5 ≤ x6 + (-1)) (f0 : x12 < x11) (f1 : x11 = all_0 (((r_0 + 219) + x5))) (f2 : 1 * x10 + ((-1) * x2 + ((-36) * x5 + 0)) ≤ 5) (f3 : 1 * x9 + ((-1) * x2 + ((-36) * x5 + 0)) ≤ 0) (f4 : x7 = all_0 (((r_0 + 243) + x5))) (f5 : 1 * x6 + ((-1) * all_0 (r_0 + 0) + 0) ≤ 0) (f6 : (-1) * x6 + (1 * all_0 (r_0 + 0) + 0) ≤ 0) (f8 : 1 * texts_0 + ((-1) * x10 + 0) ≤ 8) (f10 : 1 * x10 + ((-1) * x2 + ((-36) * x5 + 0)) ≤ 5) (f11 : 1 * x9 + ((-1) * x2 + ((-36) * x5 + 0)) ≤ 0) (f13 : 1 * x9 + ((-1) * x2 + ((-36) * x5 + 0)) ≤ 0) (f14 : x7 = x4) (f15 : x5 < x6) (kz_0_170 : 0 ≤ texts_0 ∧ texts_0 ≤ 100000000) (ex2 : gx = texts_0) (ex3 : 0 ≤ gx ∧ gx ≤ 99999993) : 1 * gx + ((-1) * x2 + ((-36) * x5 + 0)) ≤ 13 := by
  first | assumption | omega | grind
def o_Mo_writeGroup_at_l2_6 : or_T := (47, 14, [(0, (2, 0, 0, [165])), (2, (0, 0, 99712161, [])), (3, (2, 0, 0, [165])), (4, (0, 2, 7, [])), (5, (0, 0, 23, [])), (6, (0, 1, 24, [])), (7, (0, 2, 7, [])), (9, (0, 0, 99999995, [])), (10, (0, 0, 99999992, [])), (11, (0, 2, 99, [])), (12, (0, 1, 1, []))], [(7, [11, 12], [4]), (20, [11, 3, 5], [50, 1, 1, 1005, 1002, 1, 2, 1, 0, 3, 1, 2, 4, 7, 4, 3, 2, 1, 5, 0, 219, 1, 2]), (23, [10, 2, 5], [5, 1, -1, -36]), (23, [9, 2, 5], [0, 1, -1, -36]), (20, [7, 3, 5], [50, 1, 1, 1005, 1002, 1, 2, 1, 0, 3, 1, 2, 4, 7, 4, 3, 2, 1, 5, 0, 243, 1, 2]), (20, [6, 3], [30, 0, 1, 0, 0, -1, 3, 2005000]), (20, [6, 3], [30, 0, -1, 0, 0, 1, 3, 2005000]), (24, [0, 3], []), (20, [3, 10], [30, 8, 1, 1, 170, -1, 0, 0]), (102, [10], [7770675568902916283677847627294075626569627356208558085007249638955617140820833992704, 165170]), (23, [10, 2, 5], [5, 1, -1, -36]), (23, [9, 2, 5], [0, 1, -1, -36]), (102, [9], [7770675568902916283677847627294075626569627356208558085007249638955617140820833992704, 165170]), (23, [9, 2, 5], [0, 1, -1, -36]), (7, [7, 4], [0]), (7, [5, 6], [2])], [], [(0, 0, 99999993, [])], [(20, [3, 14], [30, 0, 1, 1, 170, -1, 0, 0]), (23, [14, 2, 5], [13, 1, -1, -36])], [], [(7, 4, 0, 0), (5, 6, -4294967296, -1)])
theorem oo_Mo_writeGroup_at_l2_6 {kA : Nat → ClassId} : or_ok PRD kA GG o_Mo_writeGroup_at_l2_6 := by
  refine or_mk fun A ta ws vs hD hth hl => ?_
  intro t0 r0 t2 k2 t3 r3 t4 k4 t5 k5 t6 k6 t7 k7 t9 k9 t10 k10 t11 k11 t12 k12 d0 d1 f0 f1 f2 f3 f4 f5 f6 f7 f8 ta1 w1 le1 s1 f10 f11 ta2 w2 le2 s2 f13 f14 f15
  replace f0 := shm_21 f0
  replace f1 := shm_732 f1
  replace f2 := shm_2038 f2
  replace f3 := shm_2037 f3
  replace f4 := shm_597 f4
  replace f5 := shm_126 f5
  replace f6 := shm_127 f6
  replace f7 := shm_5 f7
  replace f8 := shm_160 f8
  replace f10 := shm_2038 f10
  replace f11 := shm_2037 f11
  replace f13 := shm_2037 f13
  replace f14 := shm_37 f14
  replace f15 := shm_6 f15
  have q3 : n_v vs 3 = n_v vs 0 := f7.symm
  simp only [q3] at f1 f4 f5 f6 f8
  have cr_0_2 := fdq_10 hD hth r0
  have br_0_2_F5_0_0 : w_ei ws (w_ar ws (n_v vs 0) 2) (w_fi ws (n_v vs 0) 5 + 0) = w_el ws (w_ar ws (n_v vs 0) 2) (w_fi ws (n_v vs 0) 5 + 0).toNat := rfl
  have kz_0_170 := fdq_11 hD hth r0
  have kv0 := fdq_11 hD hth r0
  obtain ⟨x, ex, hx⟩ := iv_ex (ta := ta) (lo := 0) (hi := 99999993) (z := w_fi ws (n_v vs 0) 170) (by omega) (by omega) (by omega) (by omega)
  have ex2 : v_iv (Value.int x) = w_fi ws (n_v vs 0) 170 := ex
  have ex3 : 0 ≤ v_iv (Value.int x) ∧ v_iv (Value.int x) ≤ 99999993 := tv_rng hx
  have e_2 : n_v (vs ++ [Value.int x]) 2 = n_v vs 2 := n_v_old (by rw [hl]; decide)
  have e_3 : n_v (vs ++ [Value.int x]) 3 = n_v vs 3 := n_v_old (by rw [hl]; decide)
  have e_5 : n_v (vs ++ [Value.int x]) 5 = n_v vs 5 := n_v_old (by rw [hl]; decide)
  have e_14 : n_v (vs ++ [Value.int x]) 14 = Value.int x := n_v_new hl
  have nf0 : fc_1 PRD (20, [3, 14], [30, 0, 1, 1, 170, -1, 0, 0]) ws (vs ++ [Value.int x]) := by
    refine ⟨nf_inA hl rfl, sgq_131 ?_⟩
    · show 1 * w_fi ws (n_v (vs ++ [Value.int x]) 3) 170 + ((-1) * v_iv (n_v (vs ++ [Value.int x]) 14) + 0) ≤ 0
      simp only [e_3, e_14, q3]
      exact vc_Mo_writeGroup_at_l2_6_0 (v_iv (n_v vs 2)) (v_iv (n_v vs 4)) (v_iv (n_v vs 5)) (v_iv (n_v vs 6)) (v_iv (n_v vs 7)) (v_iv (n_v vs 9)) (v_iv (n_v vs 10)) (v_iv (n_v vs 11)) (v_iv (n_v vs 12)) (w_ei ws (w_ar ws (n_v vs 0) 2)) (w_fi ws (n_v vs 0) 5) (w_fi ws (n_v vs 0) 170) (v_iv (Value.int x)) k2 k4 k5 k6 k7 k9 k10 k11 k12 d0 d1 f0 f1 f2 f3 f4 f5 f6 f8 f10 f11 f13 f14 f15 kz_0_170 ex2 ex3
  have nf1 : fc_1 PRD (23, [14, 2, 5], [13, 1, -1, -36]) ws (vs ++ [Value.int x]) := by
    refine ⟨nf_inA hl rfl, sgq_2040 ?_⟩
    · show 1 * v_iv (n_v (vs ++ [Value.int x]) 14) + ((-1) * v_iv (n_v (vs ++ [Value.int x]) 2) + ((-36) * v_iv (n_v (vs ++ [Value.int x]) 5) + 0)) ≤ 13
      simp only [e_2, e_5, e_14]
      exact vc_Mo_writeGroup_at_l2_6_1 (v_iv (n_v vs 2)) (v_iv (n_v vs 4)) (v_iv (n_v vs 5)) (v_iv (n_v vs 6)) (v_iv (n_v vs 7)) (v_iv (n_v vs 9)) (v_iv (n_v vs 10)) (v_iv (n_v vs 11)) (v_iv (n_v vs 12)) (w_ei ws (w_ar ws (n_v vs 0) 2)) (w_fi ws (n_v vs 0) 5) (w_fi ws (n_v vs 0) 170) (v_iv (Value.int x)) k2 k4 k5 k6 k7 k9 k10 k11 k12 d0 d1 f0 f1 f2 f3 f4 f5 f6 f8 f10 f11 f13 f14 f15 kz_0_170 ex2 ex3
  exact ⟨(fun _ h => (by cases h)), [Value.int x], ag_one hx, List.forall_mem_cons.mpr ⟨⟨show (20 : Nat) < 100 from by decide, nf0⟩, List.forall_mem_cons.mpr ⟨⟨show (23 : Nat) < 100 from by decide, nf1⟩, (fun _ h => (by cases h))⟩⟩, (fun _ h => (by cases h))⟩
set_option maxHeartbeats 4000000 in
theorem vc_Mo_writeGroup_at_l2_7_0 (x2 : Int) (x4 : Int) (x5 : Int) (x6 : Int) (x7 : Int) (x9 : Int) (x10 : Int) (x11 : Int) (x12 : Int) (x14 : Int) (x15 : Int) (all_0 : Int → Int) (r_0 : Int) (texts_0 : Int) (gx : Int) (k2 : 0 ≤ x2 ∧ x2 ≤ 99712161) (k4 : 2 ≤ x4 ∧ x4 ≤ 7) (k5 : 0 ≤ x5 ∧ x5 ≤ 23) (k6 : 1 ≤ x6 ∧ x6 ≤ 24) (k7 : 2 ≤ x7 ∧ x7 ≤ 7) (k9 : 0 ≤ x9 ∧ x9 ≤ 99999995) (k10 : 0 ≤ x10 ∧ x10 ≤ 99999992) (k11 : 2 ≤ x11 ∧ x11 ≤ 99) (k12 : 1 ≤ x12 ∧ x12 ≤ 1) (k14 : 0 ≤ x14 ∧ x14 ≤ 99999993) (k15 : 0 ≤ x15 ∧ x15 ≤ 99) (d0 : x4 + 0 ≤ x7 ∧ x7 ≤ x4 + 0) (d1 : x6 + (-4294967296) ≤ x5 ∧ x5 ≤ x6 + (-1)) (f0 : x15 = all_0 (((r_0 + 219) + x5))) (f1 : 1 * x14 + ((-1) * x2 + ((-36) * x5 + 0)) ≤ 13) (f2 : x11 = all_0 (((r_0 + 219) + x5))) (f3 : 1 * x10 + ((-1) * x2 + ((-36) * x5 + 0)) ≤ 5) (f4 : 1 * x9 + ((-1) * x2 + ((-36) * x5 + 0)) ≤ 0) (f5 : x7 = all_0 (((r_0 + 243) + x5))) (f6 : 1 * x6 + ((-1) * all_0 (r_0 + 0) + 0) ≤ 0) (f7 : (-1) * x6 + (1 * all_0 (r_0 + 0) + 0) ≤ 0) (f9 : 1 * texts_0 + ((-1) * x14 + 0) ≤ 7) (f11 : 1 * x14 + ((-1) * x2 + ((-36) * x5 + 0)) ≤ 13) (f12 : x12 < x11) (f13 : 1 * x10 + ((-1) * x2 + ((-36) * x5 + 0)) ≤ 5) (f14 : 1 * x9 + ((-1) * x2 + ((-36) * x5 + 0)) ≤ 0) (f16 : 1 * x10 + ((-1) * x2 + ((-36) * x5 + 0)) ≤ 5) (f17 : 1 * x9 + ((-1) * x2 + ((-36) * x5 + 0)) ≤ 0) (f19 : 1 * x9 + ((-1) * x2 + ((-36) * x5 + 0)) ≤ 0) (f20 : x7 = x4) (f21 : x5 < x6) (kz_0_170 : 0 ≤ texts_0 ∧ texts_0 ≤ 100000000) (ex2 : gx = texts_0) (ex3 : 0 ≤ gx ∧ gx ≤ 99999987) : 1 * texts_0 + ((-1) * gx + 0) ≤ 0 := by
  first | assumption | omega | grind
set_option maxHeartbeats 4000000 in
theorem vc_Mo_writeGroup_at_l2_7_1 (x2 : Int) (x4 : Int) (x5 : Int) (x6 : Int) (x7 : Int) (x9 : Int) (x10 : Int) (x11 : Int) (x12 : Int) (x14 : Int) (x15 : Int) (all_0 : Int → Int) (r_0 : Int) (texts_0 : Int) (gx : Int) (k2 : 0 ≤ x2 ∧ x2 ≤ 99712161) (k4 : 2 ≤ x4 ∧ x4 ≤ 7) (k5 : 0 ≤ x5 ∧ x5 ≤ 23) (k6 : 1 ≤ x6 ∧ x6 ≤ 24) (k7 : 2 ≤ x7 ∧ x7 ≤ 7) (k9 : 0 ≤ x9 ∧ x9 ≤ 99999995) (k10 : 0 ≤ x10 ∧ x10 ≤ 99999992) (k11 : 2 ≤ x11 ∧ x11 ≤ 99) (k12 : 1 ≤ x12 ∧ x12 ≤ 1) (k14 : 0 ≤ x14 ∧ x14 ≤ 99999993) (k15 : 0 ≤ x15 ∧ x15 ≤ 99) (d0 : x4 + 0 ≤ x7 ∧ x7 ≤ x4 + 0) (d1 : x6 + (-4294967296) ≤ x5 ∧ x5 ≤ x6 + (-1)) (f0 : x15 = all_0 (((r_0 + 219) + x5))) (f1 : 1 * x14 + ((-1) * x2 + ((-36) * x5 + 0)) ≤ 13) (f2 : x11 = all_0 (((r_0 + 219) + x5))) (f3 : 1 * x10 + ((-1) * x2 + ((-36) * x5 + 0)) ≤ 5) (f4 : 1 * x9 + ((-1) * x2 + ((-36) * x5 + 0)) ≤ 0) (f5 : x7 = all_0 (((r_0 + 243) + x5))) (f6 : 1 * x6 + ((-1) * all_0 (r_0 + 0) + 0) ≤ 0) (f7 : (-1) * x6 + (1 * all_0 (r_0 + 0) + 0) ≤ 0) (f9 : 1 * texts_0 + ((-1) * x14 + 0) ≤ 7) (f11 : 1 * x14 + ((-1) * x2 + ((-36) * x5 + 0)) ≤ 13) (f12 : x12 < x11) (f13 : 1 * x10 + ((-1) * x2 + ((-36) * x5 + 0)) ≤ 5) (f14 : 1 * x9 + ((-1) * x2 + ((-36) * x5 + 0)) ≤ 0) (f16 : 1 * x10 + ((-1) * x2 + ((-36) * x5 + 0)) ≤ 5) (f17 : 1 * x9 + ((-1) * x2 + ((-36) * x5 + 0)) ≤ 0) (f19 : 1 * x9 + ((-1) * x2 + ((-36) * x5 + 0)) ≤ 0) (f20 : x7 = x4) (f21 : x5 < x6) (kz_0_170 : 0 ≤ texts_0 ∧ texts_0 ≤ 100000000) (ex2 : gx = texts_0) (ex3 : 0 ≤ gx ∧ gx ≤ 99999987) : 1 * gx + ((-1) * x2 + ((-36) * x5 + 0)) ≤ 20 := by
  first | assumption | omega | grind
def o_Mo_writeGroup_at_l2_7 : or_T := (56, 16, [(0, (2, 0, 0, [165])), (2, (0, 0, 99712161, [])), (3, (2, 0, 0, [165])), (4, (0, 2, 7, [])), (5, (0, 0, 23, [])), (6, (0, 1, 24, [])), (7, (0, 2, 7, [])), (9, (0, 0, 99999995, [])), (10, (0, 0, 99999992, [])), (11, (0, 2, 99, [])), (12, (0, 1, 1, [])), (14, (0, 0, 99999993, [])), (15, (0, 0, 99, []))], [(20, [15, 3, 5], [50, 1, 1, 1005, 1002, 1, 2, 1, 0, 3, 1, 2, 4, 7, 4, 3, 2, 1, 5, 0, 219, 1, 2]), (23, [14, 2, 5], [13, 1, -1, -36]), (20, [11, 3, 5], [50, 1, 1, 1005, 1002, 1, 2, 1, 0, 3, 1, 2, 4, 7, 4, 3, 2, 1, 5, 0, 219, 1, 2]), (23, [10, 2, 5], [5, 1, -1, -36]), (23, [9, 2, 5], [0, 1, -1, -36]), (20, [7, 3, 5], [50, 1, 1, 1005, 1002, 1, 2, 1, 0, 3, 1, 2, 4, 7, 4, 3, 2, 1, 5, 0, 243, 1, 2]), (20, [6, 3], [30, 0, 1, 0, 0, -1, 3, 2005000]), (20, [6, 3], [30, 0, -1, 0, 0, 1, 3, 2005000]), (24, [0, 3], []), (20, [3, 14], [30, 7, 1, 1, 170, -1, 0, 0]), (102, [14], [7770675568902916283677847627294075626569627356208558085007249638955617140820833992704, 165170]), (23, [14, 2, 5], [13, 1, -1, -36]), (7, [11, 12], [4]), (23, [10, 2, 5], [5, 1, -1, -36]), (23, [9, 2, 5], [0, 1, -1, -36]), (102, [10], [7770675568902916283677847627294075626569627356208558085007249638955617140820833992704, 165170]), (23, [10, 2, 5], [5, 1, -1, -36]), (23, [9, 2, 5], [0, 1, -1, -36]), (102, [9], [7770675568902916283677847627294075626569627356208558085007249638955617140820833992704, 165170]), (23, [9, 2, 5], [0, 1, -1, -36]), (7, [7, 4], [0]), (7, [5, 6], [2])], [], [(0, 0, 99999987, [])], [(20, [3, 16], [30, 0, 1, 1, 170, -1, 0, 0]), (23, [16, 2, 5], [20, 1, -1, -36])], [], [(7, 4, 0, 0), (5, 6, -4294967296, -1)])
theorem oo_Mo_writeGroup_at_l2_7 {kA : Nat → ClassId} : or_ok PRD kA GG o_Mo_writeGroup_at_l2_7 := by
  refine or_mk fun A ta ws vs hD hth hl => ?_
  intro t0 r0 t2 k2 t3 r3 t4 k4 t5 k5 t6 k6 t7 k7 t9 k9 t10 k10 t11 k11 t12 k12 t14 k14 t15 k15 d0 d1 f0 f1 f2 f3 f4 f5 f6 f7 f8 f9 ta1 w1 le1 s1 f11 f12 f13 f14 ta2 w2 le2 s2 f16 f17 ta3 w3 le3 s3 f19 f20 f21
  replace f0 := shm_732 f0
  replace f1 := shm_2040 f1
  replace f2 := shm_732 f2
  replace f3 := shm_2038 f3
  replace f4 := shm_2037 f4
  replace f5 := shm_597 f5
  replace f6 := shm_126 f6
  replace f7 := shm_127 f7
  replace f8 := shm_5 f8
  replace f9 := shm_209 f9
  replace f11 := shm_2040 f11
  replace f12 := shm_21 f12
  replace f13 := shm_2038 f13
  replace f14 := shm_2037 f14
  replace f16 := shm_2038 f16
  replace f17 := shm_2037 f17
  replace f19 := shm_2037 f19
  replace f20 := shm_37 f20
  replace f21 := shm_6 f21
  have q3 : n_v vs 3 = n_v vs 0 := f8.symm
  simp only [q3] at f0 f2 f5 f6 f7 f9
  have cr_0_2 := fdq_10 hD hth r0
  have br_0_2_F5_0_0 : w_ei ws (w_ar ws (n_v vs 0) 2) (w_fi ws (n_v vs 0) 5 + 0) = w_el ws (w_ar ws (n_v vs 0) 2) (w_fi ws (n_v vs 0) 5 + 0).toNat := rfl
  have kz_0_170 := fdq_11 hD hth r0
  have kv0 := fdq_11 hD hth r0
  obtain ⟨x, ex, hx⟩ := iv_ex (ta := ta) (lo := 0) (hi := 99999987) (z := w_fi ws (n_v vs 0) 170) (by omega) (by omega) (by omega) (by omega)
  have ex2 : v_iv (Value.int x) = w_fi ws (n_v vs 0) 170 := ex
  have ex3 : 0 ≤ v_iv (Value.int x) ∧ v_iv (Value.int x) ≤ 99999987 := tv_rng hx
  have e_2 : n_v (vs ++ [Value.int x]) 2 = n_v vs 2 := n_v_old (by rw [hl]; decide)
  have e_3 : n_v (vs ++ [Value.int x]) 3 = n_v vs 3 := n_v_old (by rw [hl]; decide)
  have e_5 : n_v (vs ++ [Value.int x]) 5 = n_v vs 5 := n_v_old (by rw [hl]; decide)
  have e_16 : n_v (vs ++ [Value.int x]) 16 = Value.int x := n_v_new hl
  have nf0 : fc_1 PRD (20, [3, 16], [30, 0, 1, 1, 170, -1, 0, 0]) ws (vs ++ [Value.int x]) := by
    refine ⟨nf_inA hl rfl, sgq_131 ?_⟩
    · show 1 * w_fi ws (n_v (vs ++ [Value.int x]) 3) 170 + ((-1) * v_iv (n_v (vs ++ [Value.int x]) 16) + 0) ≤ 0
      simp only [e_3, e_16, q3]
      exact vc_Mo_writeGroup_at_l2_7_0 (v_iv (n_v vs 2)) (v_iv (n_v vs 4)) (v_iv (n_v vs 5)) (v_iv (n_v vs 6)) (v_iv (n_v vs 7)) (v_iv (n_v vs 9)) (v_iv (n_v vs 10)) (v_iv (n_v vs 11)) (v_iv (n_v vs 12)) (v_iv (n_v vs 14)) (v_iv (n_v vs 15)) (w_ei ws (w_ar ws (n_v vs 0) 2)) (w_fi ws (n_v vs 0) 5) (w_fi ws (n_v vs 0) 170) (v_iv (Value.int x)) k2 k4 k5 k6 k7 k9 k10 k11 k12 k14 k15 d0 d1 f0 f1 f2 f3 f4 f5 f6 f7 f9 f11 f12 f13 f14 f16 f17 f19 f20 f21 kz_0_170 ex2 ex3
  have nf1 : fc_1 PRD (23, [16, 2, 5], [20, 1, -1, -36]) ws (vs ++ [Value.int x]) := by
    refine ⟨nf_inA hl rfl, sgq_2041 ?_⟩
    · show 1 * v_iv (n_v (vs ++ [Value.int x]) 16) + ((-1) * v_iv (n_v (vs ++ [Value.int x]) 2) + ((-36) * v_iv (n_v (vs ++ [Value.int x]) 5) + 0)) ≤ 20
      simp only [e_2, e_5, e_16]
      exact vc_Mo_writeGroup_at_l2_7_1 (v_iv (n_v vs 2)) (v_iv (n_v vs 4)) (v_iv (n_v vs 5)) (v_iv (n_v vs 6)) (v_iv (n_v vs 7)) (v_iv (n_v vs 9)) (v_iv (n_v vs 10)) (v_iv (n_v vs 11)) (v_iv (n_v vs 12)) (v_iv (n_v vs 14)) (v_iv (n_v vs 15)) (w_ei ws (w_ar ws (n_v vs 0) 2)) (w_fi ws (n_v vs 0) 5) (w_fi ws (n_v vs 0) 170) (v_iv (Value.int x)) k2 k4 k5 k6 k7 k9 k10 k11 k12 k14 k15 d0 d1 f0 f1 f2 f3 f4 f5 f6 f7 f9 f11 f12 f13 f14 f16 f17 f19 f20 f21 kz_0_170 ex2 ex3
  exact ⟨(fun _ h => (by cases h)), [Value.int x], ag_one hx, List.forall_mem_cons.mpr ⟨⟨show (20 : Nat) < 100 from by decide, nf0⟩, List.forall_mem_cons.mpr ⟨⟨show (23 : Nat) < 100 from by decide, nf1⟩, (fun _ h => (by cases h))⟩⟩, (fun _ h => (by cases h))⟩
set_option maxHeartbeats 4000000 in
theorem vc_Mo_writeGroup_at_l2_8_0 (x2 : Int) (x4 : Int) (x5 : Int) (x6 : Int) (x7 : Int) (x9 : Int) (x10 : Int) (x11 : Int) (x12 : Int) (x14 : Int) (x15 : Int) (x16 : Int) (all_0 : Int → Int) (r_0 : Int) (texts_0 : Int) (gx : Int) (k2 : 0 ≤ x2 ∧ x2 ≤ 99712161) (k4 : 2 ≤ x4 ∧ x4 ≤ 7) (k5 : 0 ≤ x5 ∧ x5 ≤ 23) (k6 : 1 ≤ x6 ∧ x6 ≤ 24) (k7 : 2 ≤ x7 ∧ x7 ≤ 7) (k9 : 0 ≤ x9 ∧ x9 ≤ 99999995) (k10 : 0 ≤ x10 ∧ x10 ≤ 99999992) (k11 : 2 ≤ x11 ∧ x11 ≤ 99) (k12 : 1 ≤ x12 ∧ x12 ≤ 1) (k14 : 0 ≤ x14 ∧ x14 ≤ 99999993) (k15 : 0 ≤ x15 ∧ x15 ≤ 99) (k16 : 0 ≤ x16 ∧ x16 ≤ 99999987) (d0 : x4 + 0 ≤ x7 ∧ x7 ≤ x4 + 0) (d1 : x6 + (-4294967296) ≤ x5 ∧ x5 ≤ x6 + (-1)) (f0 : 1 * x16 + ((-1) * x2 + ((-36) * x5 + 0)) ≤ 20) (f1 : x15 = all_0 (((r_0 + 219) + x5))) (f2 : 1 * x14 + ((-1) * x2 + ((-36) * x5 + 0)) ≤ 13) (f3 : x11 = all_0 (((r_0 + 219) + x5))) (f4 : 1 * x10 + ((-1) * x2 + ((-36) * x5 + 0)) ≤ 5) (f5 : 1 * x9 + ((-1) * x2 + ((-36) * x5 + 0)) ≤ 0) (f6 : x7 = all_0 (((r_0 + 243) + x5))) (f7 : 1 * x6 + ((-1) * all_0 (r_0 + 0) + 0) ≤ 0) (f8 : (-1) * x6 + (1 * all_0 (r_0 + 0) + 0) ≤ 0) (f10 : 1 * texts_0 + ((-1) * x16 + 0) ≤ 13) (f12 : 1 * x16 + ((-1) * x2 + ((-36) * x5 + 0)) ≤ 20) (f13 : 1 * x14 + ((-1) * x2 + ((-36) * x5 + 0)) ≤ 13) (f14 : 1 * x10 + ((-1) * x2 + ((-36) * x5 + 0)) ≤ 5) (f15 : 1 * x9 + ((-1) * x2 + ((-36) * x5 + 0)) ≤ 0) (f17 : 1 * x14 + ((-1) * x2 + ((-36) * x5 + 0)) ≤ 13) (f18 : x12 < x11) (f19 : 1 * x10 + ((-1) * x2 + ((-36) * x5 + 0)) ≤ 5) (f20 : 1 * x9 + ((-1) * x2 + ((-36) * x5 + 0)) ≤ 0) (f22 : 1 * x10 + ((-1) * x2 + ((-36) * x5 + 0)) ≤ 5) (f23 : 1 * x9 + ((-1) * x2 + ((-36) * x5 + 0)) ≤ 0) (f25 : 1 * x9 + ((-1) * x2 + ((-36) * x5 + 0)) ≤ 0) (f26 : x7 = x4) (f27 : x5 < x6) (kz_0_170 : 0 ≤ texts_0 ∧ texts_0 ≤ 100000000) (ex2 : gx = texts_0) (ex3 : 0 ≤ gx ∧ gx ≤ 99999999) : 1 * texts_0 + ((-1) * gx + 0) ≤ 0 := by
  first | assumption | omega | grind
set_option maxHeartbeats 4000000 in
theorem vc_Mo_writeGroup_at_l2_8_1 (x2 : Int) (x4 : Int) (x5 : Int) (x6 : Int) (x7 : Int) (x9 : Int) (x10 : Int) (x11 : Int) (x12 : Int) (x14 : Int) (x15 : Int) (x16 : Int) (all_0 : Int → Int) (r_0 : Int) (texts_0 : Int) (gx : Int) (k2 : 0 ≤ x2 ∧ x2 ≤ 99712161) (k4 : 2 ≤ x4 ∧ x4 ≤ 7) (k5 : 0 ≤ x5 ∧ x5 ≤ 23) (k6 : 1 ≤ x6 ∧ x6 ≤ 24) (k7 : 2 ≤ x7 ∧ x7 ≤ 7) (k9 : 0 ≤ x9 ∧ x9 ≤ 99999995) (k10 : 0 ≤ x10 ∧ x10 ≤ 99999992) (k11 : 2 ≤ x11 ∧ x11 ≤ 99) (k12 : 1 ≤ x12 ∧ x12 ≤ 1) (k14 : 0 ≤ x14 ∧ x14 ≤ 99999993) (k15 : 0 ≤ x15 ∧ x15 ≤ 99) (k16 : 0 ≤ x16 ∧ x16 ≤ 99999987) (d0 : x4 + 0 ≤ x7 ∧ x7 ≤ x4 + 0) (d1 : x6 + (-4294967296) ≤ x5 ∧ x5 ≤ x6 + (-1)) (f0 : 1 * x16 + ((-1) * x2 + ((-36) * x5 + 0)) ≤ 20) (f1 : x15 = all_0 (((r_0 + 219) + x5))) (f2 : 1 * x14 + ((-1) * x2 + ((-36) * x5 + 0)) ≤ 13) (f3 : x11 = all_0 (((r_0 + 219) + x5))) (f4 : 1 * x10 + ((-1) * x2 + ((-36) * x5 + 0)) ≤ 5) (f5 : 1 * x9 + ((-1) * x2 + ((-36) * x5 + 0)) ≤ 0) (f6 : x7 = all_0 (((r_0 + 243) + x5))) (f7 : 1 * x6 + ((-1) * all_0 (r_0 + 0) + 0) ≤ 0) (f8 : (-1) * x6 + (1 * all_0 (r_0 + 0) + 0) ≤ 0) (f10 : 1 * texts_0 + ((-1) * x16 + 0) ≤ 13) (f12 : 1 * x16 + ((-1) * x2 + ((-36) * x5 + 0)) ≤ 20) (f13 : 1 * x14 + ((-1) * x2 + ((-36) * x5 + 0)) ≤ 13) (f14 : 1 * x10 + ((-1) * x2 + ((-36) * x5 + 0)) ≤ 5) (f15 : 1 * x9 + ((-1) * x2 + ((-36) * x5 + 0)) ≤ 0) (f17 : 1 * x14 + ((-1) * x2 + ((-36) * x5 + 0)) ≤ 13) (f18 : x12 < x11) (f19 : 1 * x10 + ((-1) * x2 + ((-36) * x5 + 0)) ≤ 5) (f20 : 1 * x9 + ((-1) * x2 + ((-36) * x5 + 0)) ≤ 0) (f22 : 1 * x10 + ((-1) * x2 + ((-36) * x5 + 0)) ≤ 5) (f23 : 1 * x9 + ((-1) * x2 + ((-36) * x5 + 0)) ≤ 0) (f25 : 1 * x9 + ((-1) * x2 + ((-36) * x5 + 0)) ≤ 0) (f26 : x7 = x4) (f27 : x5 < x6) (kz_0_170 : 0 ≤ texts_0 ∧ texts_0 ≤ 100000000) (ex2 : gx = texts_0) (ex3 : 0 ≤ gx ∧ gx ≤ 99999999) : 1 * gx + ((-1) * x2 + ((-36) * x5 + 0)) ≤ 33 := by
  first | assumption | omega | grind
def o_Mo_writeGroup_at_l2_8 : or_T := (63, 18, [(0, (2, 0, 0, [165])), (2, (0, 0, 99712161, [])), (3, (2, 0, 0, [165])), (4, (0, 2, 7, [])), (5, (0, 0, 23, [])), (6, (0, 1, 24, [])), (7, (0, 2, 7, [])), (9, (0, 0, 99999995, [])), (10, (0, 0, 99999992, [])), (11, (0, 2, 99, [])), (12, (0, 1, 1, [])), (14, (0, 0, 99999993, [])), (15, (0, 0, 99, [])), (16, (0, 0, 99999987, []))], [(23, [16, 2, 5], [20, 1, -1, -36]), (20, [15, 3, 5], [50, 1, 1, 1005, 1002, 1, 2, 1, 0, 3, 1, 2, 4, 7, 4, 3, 2, 1, 5, 0, 219, 1, 2]), (23, [14, 2, 5], [13, 1, -1, -36]), (20, [11, 3, 5], [50, 1, 1, 1005, 1002, 1, 2, 1, 0, 3, 1, 2, 4, 7, 4, 3, 2, 1, 5, 0, 219, 1, 2]), (23, [10, 2, 5], [5, 1, -1, -36]), (23, [9, 2, 5], [0, 1, -1, -36]), (20, [7, 3, 5], [50, 1, 1, 1005, 1002, 1, 2, 1, 0, 3, 1, 2, 4, 7, 4, 3, 2, 1, 5, 0, 243, 1, 2]), (20, [6, 3], [30, 0, 1, 0, 0, -1, 3, 2005000]), (20, [6, 3], [30, 0, -1, 0, 0, 1, 3, 2005000]), (24, [0, 3], []), (20, [3, 16], [30, 13, 1, 1, 170, -1, 0, 0]), (102, [16], [7770675568902916283677847627294075626569627356208558085007249638955617140820833992704, 165170]), (23, [16, 2, 5], [20, 1, -1, -36]), (23, [14, 2, 5], [13, 1, -1, -36]), (23, [10, 2, 5], [5, 1, -1, -36]), (23, [9, 2, 5], [0, 1, -1, -36]), (102, [14], [7770675568902916283677847627294075626569627356208558085007249638955617140820833992704, 165170]), (23, [14, 2, 5], [13, 1, -1, -36]), (7, [11, 12], [4]), (23, [10, 2, 5], [5, 1, -1, -36]), (23, [9, 2, 5], [0, 1, -1, -36]), (102, [10], [7770675568902916283677847627294075626569627356208558085007249638955617140820833992704, 165170]), (23, [10, 2, 5], [5, 1, -1, -36]), (23, [9, 2, 5], [0, 1, -1, -36]), (102, [9], [7770675568902916283677847627294075626569627356208558085007249638955617140820833992704, 165170]), (23, [9, 2, 5], [0, 1, -1, -36]), (7, [7, 4], [0]), (7, [5, 6], [2])], [], [(0, 0, 99999999, [])], [(20, [3, 18], [30, 0, 1, 1, 170, -1, 0, 0]), (23, [18, 2, 5], [33, 1, -1, -36])], [], [(7, 4, 0, 0), (5, 6, -4294967296, -1)])
theorem oo_Mo_writeGroup_at_l2_8 {kA : Nat → ClassId} : or_ok PRD kA GG o_Mo_writeGroup_at_l2_8 := by
  refine or_mk fun A ta ws vs hD hth hl => ?_
  intro t0 r0 t2 k2 t3 r3 t4 k4 t5 k5 t6 k6 t7 k7 t9 k9 t10 k10 t11 k11 t12 k12 t14 k14 t15 k15 t16 k16 d0 d1 f0 f1 f2 f3 f4 f5 f6 f7 f8 f9 f10 ta1 w1 le1 s1 f12 f13 f14 f15 ta2 w2 le2 s2 f17 f18 f19 f20 ta3 w3 le3 s3 f22 f23 ta4 w4 le4 s4 f25 f26 f27
  replace f0 := shm_2041 f0
  replace f1 := shm_732 f1
  replace f2 := shm_2040 f2
  replace f3 := shm_732 f3
  replace f4 := shm_2038 f4
  replace f5 := shm_2037 f5
  replace f6 := shm_597 f6
  replace f7 := shm_126 f7
  replace f8 := shm_127 f8
  replace f9 := shm_5 f9
  replace f10 := shm_1056 f10
  replace f12 := shm_2041 f12
  replace f13 := shm_2040 f13
  replace f14 := shm_2038 f14
  replace f15 := shm_2037 f15
  replace f17 := shm_2040 f17
  replace f18 := shm_21 f18
  replace f19 := shm_2038 f19
  replace f20 := shm_2037 f20
  replace f22 := shm_2038 f22
  replace f23 := shm_2037 f23
  replace f25 := shm_2037 f25
  replace f26 := shm_37 f26
  replace f27 := shm_6 f27
  have q3 : n_v vs 3 = n_v vs 0 := f9.symm
  simp only [q3] at f1 f3 f6 f7 f8 f10
  have cr_0_2 := fdq_10 hD hth r0
  have br_0_2_F5_0_0 : w_ei ws (w_ar ws (n_v vs 0) 2) (w_fi ws (n_v vs 0) 5 + 0) = w_el ws (w_ar ws (n_v vs 0) 2) (w_fi ws (n_v vs 0) 5 + 0).toNat := rfl
  have kz_0_170 := fdq_11 hD hth r0
  have kv0 := fdq_11 hD hth r0
  obtain ⟨x, ex, hx⟩ := iv_ex (ta := ta) (lo := 0) (hi := 99999999) (z := w_fi ws (n_v vs 0) 170) (by omega) (by omega) (by omega) (by omega)
  have ex2 : v_iv (Value.int x) = w_fi ws (n_v vs 0) 170 := ex
  have ex3 : 0 ≤ v_iv (Value.int x) ∧ v_iv (Value.int x) ≤ 99999999 := tv_rng hx
  have e_2 : n_v (vs ++ [Value.int x]) 2 = n_v vs 2 := n_v_old (by rw [hl]; decide)
  have e_3 : n_v (vs ++ [Value.int x]) 3 = n_v vs 3 := n_v_old (by rw [hl]; decide)
  have e_5 : n_v (vs ++ [Value.int x]) 5 = n_v vs 5 := n_v_old (by rw [hl]; decide)
  have e_18 : n_v (vs ++ [Value.int x]) 18 = Value.int x := n_v_new hl
  have nf0 : fc_1 PRD (20, [3, 18], [30, 0, 1, 1, 170, -1, 0, 0]) ws (vs ++ [Value.int x]) := by
    refine ⟨nf_inA hl rfl, sgq_131 ?_⟩
    · show 1 * w_fi ws (n_v (vs ++ [Value.int x]) 3) 170 + ((-1) * v_iv (n_v (vs ++ [Value.int x]) 18) + 0) ≤ 0
      simp only [e_3, e_18, q3]
      exact vc_Mo_writeGroup_at_l2_8_0 (v_iv (n_v vs 2)) (v_iv (n_v vs 4)) (v_iv (n_v vs 5)) (v_iv (n_v vs 6)) (v_iv (n_v vs 7)) (v_iv (n_v vs 9)) (v_iv (n_v vs 10)) (v_iv (n_v vs 11)) (v_iv (n_v vs 12)) (v_iv (n_v vs 14)) (v_iv (n_v vs 15)) (v_iv (n_v vs 16)) (w_ei ws (w_ar ws (n_v vs 0) 2)) (w_fi ws (n_v vs 0) 5) (w_fi ws (n_v vs 0) 170) (v_iv (Value.int x)) k2 k4 k5 k6 k7 k9 k10 k11 k12 k14 k15 k16 d0 d1 f0 f1 f2 f3 f4 f5 f6 f7 f8 f10 f12 f13 f14 f15 f17 f18 f19 f20 f22 f23 f25 f26 f27 kz_0_170 ex2 ex3
  have nf1 : fc_1 PRD (23, [18, 2, 5], [33, 1, -1, -36]) ws (vs ++ [Value.int x]) := by
    refine ⟨nf_inA hl rfl, sgq_2042 ?_⟩
    · show 1 * v_iv (n_v (vs ++ [Value.int x]) 18) + ((-1) * v_iv (n_v (vs ++ [Value.int x]) 2) + ((-36) * v_iv (n_v (vs ++ [Value.int x]) 5) + 0)) ≤ 33
      simp only [e_2, e_5, e_18]
      exact vc_Mo_writeGroup_at_l2_8_1 (v_iv (n_v vs 2)) (v_iv (n_v vs 4)) (v_iv (n_v vs 5)) (v_iv (n_v vs 6)) (v_iv (n_v vs 7)) (v_iv (n_v vs 9)) (v_iv (n_v vs 10)) (v_iv (n_v vs 11)) (v_iv (n_v vs 12)) (v_iv (n_v vs 14)) (v_iv (n_v vs 15)) (v_iv (n_v vs 16)) (w_ei ws (w_ar ws (n_v vs 0) 2)) (w_fi ws (n_v vs 0) 5) (w_fi ws (n_v vs 0) 170) (v_iv (Value.int x)) k2 k4 k5 k6 k7 k9 k10 k11 k12 k14 k15 k16 d0 d1 f0 f1 f2 f3 f4 f5 f6 f7 f8 f10 f12 f13 f14 f15 f17 f18 f19 f20 f22 f23 f25 f26 f27 kz_0_170 ex2 ex3
  exact ⟨(fun _ h => (by cases h)), [Value.int x], ag_one hx, List.forall_mem_cons.mpr ⟨⟨show (20 : Nat) < 100 from by decide, nf0⟩, List.forall_mem_cons.mpr ⟨⟨show (23 : Nat) < 100 from by decide, nf1⟩, (fun _ h => (by cases h))⟩⟩, (fun _ h => (by cases h))⟩
set_option maxHeartbeats 4000000 in
theorem vc_Mo_writeGroup_at_l2_9_0 (x2 : Int) (x4 : Int) (x5 : Int) (x6 : Int) (x7 : Int) (x9 : Int) (x10 : Int) (x11 : Int) (x12 : Int) (x14 : Int) (x15 : Int) (x16 : Int) (x18 : Int) (all_0 : Int → Int) (r_0 : Int) (texts_0 : Int) (gx : Int) (k2 : 0 ≤ x2 ∧ x2 ≤ 99712161) (k4 : 2 ≤ x4 ∧ x4 ≤ 7) (k5 : 0 ≤ x5 ∧ x5 ≤ 23) (k6 : 1 ≤ x6 ∧ x6 ≤ 24) (k7 : 2 ≤ x7 ∧ x7 ≤ 7) (k9 : 0 ≤ x9 ∧ x9 ≤ 99999995) (k10 : 0 ≤ x10 ∧ x10 ≤ 99999992) (k11 : 2 ≤ x11 ∧ x11 ≤ 99) (k12 : 1 ≤ x12 ∧ x12 ≤ 1) (k14 : 0 ≤ x14 ∧ x14 ≤ 99999993) (k15 : 0 ≤ x15 ∧ x15 ≤ 99) (k16 : 0 ≤ x16 ∧ x16 ≤ 99999987) (k18 : 0 ≤ x18 ∧ x18 ≤ 99999999) (d0 : x4 + 0 ≤ x7 ∧ x7 ≤ x4 + 0) (d1 : x6 + (-4294967296) ≤ x5 ∧ x5 ≤ x6 + (-1)) (f0 : 1 * x18 + ((-1) * x2 + ((-36) * x5 + 0)) ≤ 33) (f1 : 1 * x16 + ((-1) * x2 + ((-36) * x5 + 0)) ≤ 20) (f2 : x15 = all_0 (((r_0 + 219) + x5))) (f3 : 1 * x14 + ((-1) * x2 + ((-36) * x5 + 0)) ≤ 13) (f4 : x11 = all_0 (((r_0 + 219) + x5))) (f5 : 1 * x10 + ((-1) * x2 + ((-36) * x5 + 0)) ≤ 5) (f6 : 1 * x9 + ((-1) * x2 + ((-36) * x5 + 0)) ≤ 0) (f7 : x7 = all_0 (((r_0 + 243) + x5))) (f8 : 1 * x6 + ((-1) * all_0 (r_0 + 0) + 0) ≤ 0) (f9 : (-1) * x6 + (1 * all_0 (r_0 + 0) + 0) ≤ 0) (f11 : 1 * texts_0 + ((-1) * x18 + 0) ≤ 1) (f13 : 1 * x18 + ((-1) * x2 + ((-36) * x5 + 0)) ≤ 33) (f14 : 1 * x16 + ((-1) * x2 + ((-36) * x5 + 0)) ≤ 20) (f15 : 1 * x14 + ((-1) * x2 + ((-36) * x5 + 0)) ≤ 13) (f16 : 1 * x10 + ((-1) * x2 + ((-36) * x5 + 0)) ≤ 5) (f17 : 1 * x9 + ((-1) * x2 + ((-36) * x5 + 0)) ≤ 0) (f19 : 1 * x16 + ((-1) * x2 + ((-36) * x5 + 0)) ≤ 20) (f20 : 1 * x14 + ((-1) * x2 + ((-36) * x5 + 0)) ≤ 13) (f21 : 1 * x10 + ((-1) * x2 + ((-36) * x5 + 0)) ≤ 5) (f22 : 1 * x9 + ((-1) * x2 + ((-36) * x5 + 0)) ≤ 0) (f24 : 1 * x14 + ((-1) * x2 + ((-36) * x5 + 0)) ≤ 13) (f25 : x12 < x11) (f26 : 1 * x10 + ((-1) * x2 + ((-36) * x5 + 0)) ≤ 5) (f27 : 1 * x9 + ((-1) * x2 + ((-36) * x5 + 0)) ≤ 0) (f29 : 1 * x10 + ((-1) * x2 + ((-36) * x5 + 0)) ≤ 5) (f30 : 1 * x9 + ((-1) * x2 + ((-36) * x5 + 0)) ≤ 0) (f32 : 1 * x9 + ((-1) * x2 + ((-36) * x5 + 0)) ≤ 0) (f33 : x7 = x4) (f34 : x5 < x6) (kz_0_170 : 0 ≤ texts_0 ∧ texts_0 ≤ 100000000) (ex2 : gx = texts_0) (ex3 : 0 ≤ gx ∧ gx ≤ 99999998) : 1 * texts_0 + ((-1) * gx + 0) ≤ 0 := by
  first | assumption | omega | grind
set_option maxHeartbeats 4000000 in
theorem vc_Mo_writeGroup_at_l2_9_1 (x2 : Int) (x4 : Int) (x5 : Int) (x6 : Int) (x7 : Int) (x9 : Int) (x10 : Int) (x11 : Int) (x12 : Int) (x14 : Int) (x15 : Int) (x16 : Int) (x18 : Int) (all_0 : Int → Int) (r_0 : Int) (texts_0 : Int) (gx : Int) (k2 : 0 ≤ x2 ∧ x2 ≤ 99712161) (k4 : 2 ≤ x4 ∧ x4 ≤ 7) (k5 : 0 ≤ x5 ∧ x5 ≤ 23) (k6 : 1 ≤ x6 ∧ x6 ≤ 24) (k7 : 2 ≤ x7 ∧ x7 ≤ 7) (k9 : 0 ≤ x9 ∧ x9 ≤ 99999995) (k10 : 0 ≤ x10 ∧ x10 ≤ 99999992) (k11 : 2 ≤ x11 ∧ x11 ≤ 99) (k12 : 1 ≤ x12 ∧ x12 ≤ 1) (k14 : 0 ≤ x14 ∧ x14 ≤ 99999993) (k15 : 0 ≤ x15 ∧ x15 ≤ 99) (k16 : 0 ≤ x16 ∧ x16 ≤ 99999987) (k18 : 0 ≤ x18 ∧ x18 ≤ 99999999) (d0 : x4 + 0 ≤ x7 ∧ x7 ≤ x4 + 0) (d1 : x6 + (-4294967296) ≤ x5 ∧ x5 ≤ x6 + (-1)) (f0 : 1 * x18 + ((-1) * x2 + ((-36) * x5 + 0)) ≤ 33) (f1 : 1 * x16 + ((-1) * x2 + ((-36) * x5 + 0)) ≤ 20) (f2 : x15 = all_0 (((r_0 + 219) + x5))) (f3 : 1 * x14 + ((-1) * x2 + ((-36) * x5 + 0)) ≤ 13) (f4 : x11 = all_0 (((r_0 + 219) + x5))) (f5 : 1 * x10 + ((-1) * x2 + ((-36) * x5 + 0)) ≤ 5) (f6 : 1 * x9 + ((-1) * x2 + ((-36) * x5 + 0)) ≤ 0) (f7 : x7 = all_0 (((r_0 + 243) + x5))) (f8 : 1 * x6 + ((-1) * all_0 (r_0 + 0) + 0) ≤ 0) (f9 : (-1) * x6 + (1 * all_0 (r_0 + 0) + 0) ≤ 0) (f11 : 1 * texts_0 + ((-1) * x18 + 0) ≤ 1) (f13 : 1 * x18 + ((-1) * x2 + ((-36) * x5 + 0)) ≤ 33) (f14 : 1 * x16 + ((-1) * x2 + ((-36) * x5 + 0)) ≤ 20) (f15 : 1 * x14 + ((-1) * x2 + ((-36) * x5 + 0)) ≤ 13) (f16 : 1 * x10 + ((-1) * x2 + ((-36) * x5 + 0)) ≤ 5) (f17 : 1 * x9 + ((-1) * x2 + ((-36) * x5 + 0)) ≤ 0) (f19 : 1 * x16 + ((-1) * x2 + ((-36) * x5 + 0)) ≤ 20) (f20 : 1 * x14 + ((-1) * x2 + ((-36) * x5 + 0)) ≤ 13) (f21 : 1 * x10 + ((-1) * x2 + ((-36) * x5 + 0)) ≤ 5) (f22 : 1 * x9 + ((-1) * x2 + ((-36) * x5 + 0)) ≤ 0) (f24 : 1 * x14 + ((-1) * x2 + ((-36) * x5 + 0)) ≤ 13) (f25 : x12 < x11) (f26 : 1 * x10 + ((-1) * x2 + ((-36) * x5 + 0)) ≤ 5) (f27 : 1 * x9 + ((-1) * x2 + ((-36) * x5 + 0)) ≤ 0) (f29 : 1 * x10 + ((-1) * x2 + ((-36) * x5 + 0)) ≤ 5) (f30 : 1 * x9 + ((-1) * x2 + ((-36) * x5 + 0)) ≤ 0) (f32 : 1 * x9 + ((-1) * x2 + ((-36) * x5 + 0)) ≤ 0) (f33 : x7 = x4) (f34 : x5 < x6) (kz_0_170 : 0 ≤ texts_0 ∧ texts_0 ≤ 100000000) (ex2 : gx = texts_0) (ex3 : 0 ≤ gx ∧ gx ≤ 99999998) : 1 * gx + ((-1) * x2 + ((-36) * x5 + 0)) ≤ 34 := by
  first | assumption | omega | grind
def o_Mo_writeGroup_at_l2_9 : or_T := (70, 20, [(0, (2, 0, 0, [165])), (2, (0, 0, 99712161, [])), (3, (2, 0, 0, [165])), (4, (0, 2, 7, [])), (5, (0, 0, 23, [])), (6, (0, 1, 24, [])), (7, (0, 2, 7, [])), (9, (0, 0, 99999995, [])), (10, (0, 0, 99999992, [])), (11, (0, 2, 99, [])), (12, (0, 1, 1, [])), (14, (0, 0, 99999993, [])), (15, (0, 0, 99, [])), (16, (0, 0, 99999987, [])), (18, (0, 0, 99999999, []))], [(23, [18, 2, 5], [33, 1, -1, -36]), (23, [16, 2, 5], [20, 1, -1, -36]), (20, [15, 3, 5], [50, 1, 1, 1005, 1002, 1, 2, 1, 0, 3, 1, 2, 4, 7, 4, 3, 2, 1, 5, 0, 219, 1, 2]), (23, [14, 2, 5], [13, 1, -1, -36]), (20, [11, 3, 5], [50, 1, 1, 1005, 1002, 1, 2, 1, 0, 3, 1, 2, 4, 7, 4, 3, 2, 1, 5, 0, 219, 1, 2]), (23, [10, 2, 5], [5, 1, -1, -36]), (23, [9, 2, 5], [0, 1, -1, -36]), (20, [7, 3, 5], [50, 1, 1, 1005, 1002, 1, 2, 1, 0, 3, 1, 2, 4, 7, 4, 3, 2, 1, 5, 0, 243, 1, 2]), (20, [6, 3], [30, 0, 1, 0, 0, -1, 3, 2005000]), (20, [6, 3], [30, 0, -1, 0, 0, 1, 3, 2005000]), (24, [0, 3], []), (20, [3, 18], [30, 1, 1, 1, 170, -1, 0, 0]), (102, [18], [7770675568902916283677847627294075626569627356208558085007249638955617140820833992704, 165170]), (23, [18, 2, 5], [33, 1, -1, -36]), (23, [16, 2, 5], [20, 1, -1, -36]), (23, [14, 2, 5], [13, 1, -1, -36]), (23, [10, 2, 5], [5, 1, -1, -36]), (23, [9, 2, 5], [0, 1, -1, -36]), (102, [16], [7770675568902916283677847627294075626569627356208558085007249638955617140820833992704, 165170]), (23, [16, 2, 5], [20, 1, -1, -36]), (23, [14, 2, 5], [13, 1, -1, -36]), (23, [10, 2, 5], [5, 1, -1, -36]), (23, [9, 2, 5], [0, 1, -1, -36]), (102, [14], [7770675568902916283677847627294075626569627356208558085007249638955617140820833992704, 165170]), (23, [14, 2, 5], [13, 1, -1, -36]), (7, [11, 12], [4]), (23, [10, 2, 5], [5, 1, -1, -36]), (23, [9, 2, 5], [0, 1, -1, -36]), (102, [10], [7770675568902916283677847627294075626569627356208558085007249638955617140820833992704, 165170]), (23, [10, 2, 5], [5, 1, -1, -36]), (23, [9, 2, 5], [0, 1, -1, -36]), (102, [9], [7770675568902916283677847627294075626569627356208558085007249638955617140820833992704, 165170]), (23, [9, 2, 5], [0, 1, -1, -36]), (7, [7, 4], [0]), (7, [5, 6], [2])], [], [(0, 0, 99999998, [])], [(20, [3, 20], [30, 0, 1, 1, 170, -1, 0, 0]), (23, [20, 2, 5], [34, 1, -1, -36])], [], [(7, 4, 0, 0), (5, 6, -4294967296, -1)])
theorem oo_Mo_writeGroup_at_l2_9 {kA : Nat → ClassId} : or_ok PRD kA GG o_Mo_writeGroup_at_l2_9 := by
  refine or_mk fun A ta ws vs hD hth hl => ?_
  intro t0 r0 t2 k2 t3 r3 t4 k4 t5 k5 t6 k6 t7 k7 t9 k9 t10 k10 t11 k11 t12 k12 t14 k14 t15 k15 t16 k16 t18 k18 d0 d1 f0 f1 f2 f3 f4 f5 f6 f7 f8 f9 f10 f11 ta1 w1 le1 s1 f13 f14 f15 f16 f17 ta2 w2 le2 s2 f19 f20 f21 f22 ta3 w3 le3 s3 f24 f25 f26 f27 ta4 w4 le4 s4 f29 f30 ta5 w5 le5 s5 f32 f33 f34
  replace f0 := shm_2042 f0
  replace f1 := shm_2041 f1
  replace f2 := shm_732 f2
  replace f3 := shm_2040 f3
  replace f4 := shm_732 f4
  replace f5 := shm_2038 f5
  replace f6 := shm_2037 f6
  replace f7 := shm_597 f7
  replace f8 := shm_126 f8
  replace f9 := shm_127 f9
  replace f10 := shm_5 f10
  replace f11 := shm_132 f11
  replace f13 := shm_2042 f13
  replace f14 := shm_2041 f14
  replace f15 := shm_2040 f15
  replace f16 := shm_2038 f16
  replace f17 := shm_2037 f17
  replace f19 := shm_2041 f19
  replace f20 := shm_2040 f20
  replace f21 := shm_2038 f21
  replace f22 := shm_2037 f22
  replace f24 := shm_2040 f24
  replace f25 := shm_21 f25
  replace f26 := shm_2038 f26
  replace f27 := shm_2037 f27
  replace f29 := shm_2038 f29
  replace f30 := shm_2037 f30
  replace f32 := shm_2037 f32
  replace f33 := shm_37 f33
  replace f34 := shm_6 f34
  have q3 : n_v vs 3 = n_v vs 0 := f10.symm
  simp only [q3] at f2 f4 f7 f8 f9 f11
  have cr_0_2 := fdq_10 hD hth r0
  have br_0_2_F5_0_0 : w_ei ws (w_ar ws (n_v vs 0) 2) (w_fi ws (n_v vs 0) 5 + 0) = w_el ws (w_ar ws (n_v vs 0) 2) (w_fi ws (n_v vs 0) 5 + 0).toNat := rfl
  have kz_0_170 := fdq_11 hD hth r0
  have kv0 := fdq_11 hD hth r0
  obtain ⟨x, ex, hx⟩ := iv_ex (ta := ta) (lo := 0) (hi := 99999998) (z := w_fi ws (n_v vs 0) 170) (by omega) (by omega) (by omega) (by omega)
  have ex2 : v_iv (Value.int x) = w_fi ws (n_v vs 0) 170 := ex
  have ex3 : 0 ≤ v_iv (Value.int x) ∧ v_iv (Value.int x) ≤ 99999998 := tv_rng hx
  have e_2 : n_v (vs ++ [Value.int x]) 2 = n_v vs 2 := n_v_old (by rw [hl]; decide)
  have e_3 : n_v (vs ++ [Value.int x]) 3 = n_v vs 3 := n_v_old (by rw [hl]; decide)
  have e_5 : n_v (vs ++ [Value.int x]) 5 = n_v vs 5 := n_v_old (by rw [hl]; decide)
  have e_20 : n_v (vs ++ [Value.int x]) 20 = Value.int x := n_v_new hl
  have nf0 : fc_1 PRD (20, [3, 20], [30, 0, 1, 1, 170, -1, 0, 0]) ws (vs ++ [Value.int x]) := by
    refine ⟨nf_inA hl rfl, sgq_131 ?_⟩
    · show 1 * w_fi ws (n_v (vs ++ [Value.int x]) 3) 170 + ((-1) * v_iv (n_v (vs ++ [Value.int x]) 20) + 0) ≤ 0
      simp only [e_3, e_20, q3]
      exact vc_Mo_writeGroup_at_l2_9_0 (v_iv (n_v vs 2)) (v_iv (n_v vs 4)) (v_iv (n_v vs 5)) (v_iv (n_v vs 6)) (v_iv (n_v vs 7)) (v_iv (n_v vs 9)) (v_iv (n_v vs 10)) (v_iv (n_v vs 11)) (v_iv (n_v vs 12)) (v_iv (n_v vs 14)) (v_iv (n_v vs 15)) (v_iv (n_v vs 16)) (v_iv (n_v vs 18)) (w_ei ws (w_ar ws (n_v vs 0) 2)) (w_fi ws (n_v vs 0) 5) (w_fi ws (n_v vs 0) 170) (v_iv (Value.int x)) k2 k4 k5 k6 k7 k9 k10 k11 k12 k14 k15 k16 k18 d0 d1 f0 f1 f2 f3 f4 f5 f6 f7 f8 f9 f11 f13 f14 f15 f16 f17 f19 f20 f21 f22 f24 f25 f26 f27 f29 f30 f32 f33 f34 kz_0_170 ex2 ex3
  have nf1 : fc_1 PRD (23, [20, 2, 5], [34, 1, -1, -36]) ws (vs ++ [Value.int x]) := by
    refine ⟨nf_inA hl rfl, sgq_2039 ?_⟩
    · show 1 * v_iv (n_v (vs ++ [Value.int x]) 20) + ((-1) * v_iv (n_v (vs ++ [Value.int x]) 2) + ((-36) * v_iv (n_v (vs ++ [Value.int x]) 5) + 0)) ≤ 34
      simp only [e_2, e_5, e_20]
      exact vc_Mo_writeGroup_at_l2_9_1 (v_iv (n_v vs 2)) (v_iv (n_v vs 4)) (v_iv (n_v vs 5)) (v_iv (n_v vs 6)) (v_iv (n_v vs 7)) (v_iv (n_v vs 9)) (v_iv (n_v vs 10)) (v_iv (n_v vs 11)) (v_iv (n_v vs 12)) (v_iv (n_v vs 14)) (v_iv (n_v vs 15)) (v_iv (n_v vs 16)) (v_iv (n_v vs 18)) (w_ei ws (w_ar ws (n_v vs 0) 2)) (w_fi ws (n_v vs 0) 5) (w_fi ws (n_v vs 0) 170) (v_iv (Value.int x)) k2 k4 k5 k6 k7 k9 k10 k11 k12 k14 k15 k16 k18 d0 d1 f0 f1 f2 f3 f4 f5 f6 f7 f8 f9 f11 f13 f14 f15 f16 f17 f19 f20 f21 f22 f24 f25 f26 f27 f29 f30 f32 f33 f34 kz_0_170 ex2 ex3
  exact ⟨(fun _ h => (by cases h)), [Value.int x], ag_one hx, List.forall_mem_cons.mpr ⟨⟨show (20 : Nat) < 100 from by decide, nf0⟩, List.forall_mem_cons.mpr ⟨⟨show (23 : Nat) < 100 from by decide, nf1⟩, (fun _ h => (by cases h))⟩⟩, (fun _ h => (by cases h))⟩
set_option maxHeartbeats 4000000 in
theorem vc_Mo_writeGroup_at_l2_10_0 (x2 : Int) (x4 : Int) (x5 : Int) (x6 : Int) (x7 : Int) (x9 : Int) (x10 : Int) (x11 : Int) (x12 : Int) (x14 : Int) (x15 : Int) (x16 : Int) (x18 : Int) (x20 : Int) (x21 : Int) (all_0 : Int → Int) (r_0 : Int) (texts_0 : Int) (k2 : 0 ≤ x2 ∧ x2 ≤ 99712161) (k4 : 2 ≤ x4 ∧ x4 ≤ 7) (k5 : 0 ≤ x5 ∧ x5 ≤ 23) (k6 : 1 ≤ x6 ∧ x6 ≤ 24) (k7 : 2 ≤ x7 ∧ x7 ≤ 7) (k9 : 0 ≤ x9 ∧ x9 ≤ 99999995) (k10 : 0 ≤ x10 ∧ x10 ≤ 99999992) (k11 : 2 ≤ x11 ∧ x11 ≤ 99) (k12 : 1 ≤ x12 ∧ x12 ≤ 1) (k14 : 0 ≤ x14 ∧ x14 ≤ 99999993) (k15 : 0 ≤ x15 ∧ x15 ≤ 99) (k16 : 0 ≤ x16 ∧ x16 ≤ 99999987) (k18 : 0 ≤ x18 ∧ x18 ≤ 99999999) (k20 : 0 ≤ x20 ∧ x20 ≤ 99999998) (k21 : 1 ≤ x21 ∧ x21 ≤ 24) (d0 : x5 + 1 ≤ x21 ∧ x21 ≤ x5 + 1) (d1 : x6 + (-4294967296) ≤ x21 ∧ x21 ≤ x6 + 0) (d2 : x4 + 0 ≤ x7 ∧ x7 ≤ x4 + 0) (d3 : x6 + (-4294967296) ≤ x5 ∧ x5 ≤ x6 + (-1)) (f0 : x21 = x5 + 1) (f1 : 1 * x20 + ((-1) * x2 + ((-36) * x5 + 0)) ≤ 34) (f2 : 1 * x18 + ((-1) * x2 + ((-36) * x5 + 0)) ≤ 33) (f3 : 1 * x16 + ((-1) * x2 + ((-36) * x5 + 0)) ≤ 20) (f4 : x15 = all_0 (((r_0 + 219) + x5))) (f5 : 1 * x14 + ((-1) * x2 + ((-36) * x5 + 0)) ≤ 13) (f6 : x11 = all_0 (((r_0 + 219) + x5))) (f7 : 1 * x10 + ((-1) * x2 + ((-36) * x5 + 0)) ≤ 5) (f8 : 1 * x9 + ((-1) * x2 + ((-36) * x5 + 0)) ≤ 0) (f9 : x7 = all_0 (((r_0 + 243) + x5))) (f10 : 1 * x6 + ((-1) * all_0 (r_0 + 0) + 0) ≤ 0) (f11 : (-1) * x6 + (1 * all_0 (r_0 + 0) + 0) ≤ 0) (f13 : 1 * texts_0 + ((-1) * x20 + 0) ≤ 2) (f15 : 1 * x20 + ((-1) * x2 + ((-36) * x5 + 0)) ≤ 34) (f16 : 1 * x18 + ((-1) * x2 + ((-36) * x5 + 0)) ≤ 33) (f17 : 1 * x16 + ((-1) * x2 + ((-36) * x5 + 0)) ≤ 20) (f18 : 1 * x14 + ((-1) * x2 + ((-36) * x5 + 0)) ≤ 13) (f19 : 1 * x10 + ((-1) * x2 + ((-36) * x5 + 0)) ≤ 5) (f20 : 1 * x9 + ((-1) * x2 + ((-36) * x5 + 0)) ≤ 0) (f22 : 1 * x18 + ((-1) * x2 + ((-36) * x5 + 0)) ≤ 33) (f23 : 1 * x16 + ((-1) * x2 + ((-36) * x5 + 0)) ≤ 20) (f24 : 1 * x14 + ((-1) * x2 + ((-36) * x5 + 0)) ≤ 13) (f25 : 1 * x10 + ((-1) * x2 + ((-36) * x5 + 0)) ≤ 5) (f26 : 1 * x9 + ((-1) * x2 + ((-36) * x5 + 0)) ≤ 0) (f28 : 1 * x16 + ((-1) * x2 + ((-36) * x5 + 0)) ≤ 20) (f29 : 1 * x14 + ((-1) * x2 + ((-36) * x5 + 0)) ≤ 13) (f30 : 1 * x10 + ((-1) * x2 + ((-36) * x5 + 0)) ≤ 5) (f31 : 1 * x9 + ((-1) * x2 + ((-36) * x5 + 0)) ≤ 0) (f33 : 1 * x14 + ((-1) * x2 + ((-36) * x5 + 0)) ≤ 13) (f34 : x12 < x11) (f35 : 1 * x10 + ((-1) * x2 + ((-36) * x5 + 0)) ≤ 5) (f36 : 1 * x9 + ((-1) * x2 + ((-36) * x5 + 0)) ≤ 0) (f38 : 1 * x10 + ((-1) * x2 + ((-36) * x5 + 0)) ≤ 5) (f39 : 1 * x9 + ((-1) * x2 + ((-36) * x5 + 0)) ≤ 0) (f41 : 1 * x9 + ((-1) * x2 + ((-36) * x5 + 0)) ≤ 0) (f42 : x7 = x4) (f43 : x5 < x6) (kz_0_170 : 0 ≤ texts_0 ∧ texts_0 ≤ 100000000) : 1 * texts_0 + ((-1) * x2 + ((-36) * x21 + 0)) ≤ 0 := by
  first | assumption | omega | grind
def o_Mo_writeGroup_at_l2_10 : or_T := (2, 22, [(0, (2, 0, 0, [165])), (2, (0, 0, 99712161, [])), (4, (0, 2, 7, [])), (5, (0, 0, 23, [])), (6, (0, 1, 24, [])), (7, (0, 2, 7, [])), (9, (0, 0, 99999995, [])), (10, (0, 0, 99999992, [])), (11, (0, 2, 99, [])), (12, (0, 1, 1, [])), (14, (0, 0, 99999993, [])), (15, (0, 0, 99, [])), (16, (0, 0, 99999987, [])), (18, (0, 0, 99999999, [])), (20, (0, 0, 99999998, [])), (21, (0, 1, 24, []))], [(6, [21, 5], [1]), (23, [20, 2, 5], [34, 1, -1, -36]), (23, [18, 2, 5], [33, 1, -1, -36]), (23, [16, 2, 5], [20, 1, -1, -36]), (20, [15, 3, 5], [50, 1, 1, 1005, 1002, 1, 2, 1, 0, 3, 1, 2, 4, 7, 4, 3, 2, 1, 5, 0, 219, 1, 2]), (23, [14, 2, 5], [13, 1, -1, -36]), (20, [11, 3, 5], [50, 1, 1, 1005, 1002, 1, 2, 1, 0, 3, 1, 2, 4, 7, 4, 3, 2, 1, 5, 0, 219, 1, 2]), (23, [10, 2, 5], [5, 1, -1, -36]), (23, [9, 2, 5], [0, 1, -1, -36]), (20, [7, 3, 5], [50, 1, 1, 1005, 1002, 1, 2, 1, 0, 3, 1, 2, 4, 7, 4, 3, 2, 1, 5, 0, 243, 1, 2]), (20, [6, 3], [30, 0, 1, 0, 0, -1, 3, 2005000]), (20, [6, 3], [30, 0, -1, 0, 0, 1, 3, 2005000]), (24, [0, 3], []), (20, [3, 20], [30, 2, 1, 1, 170, -1, 0, 0]), (102, [20], [7770675568902916283677847627294075626569627356208558085007249638955617140820833992704, 165170]), (23, [20, 2, 5], [34, 1, -1, -36]), (23, [18, 2, 5], [33, 1, -1, -36]), (23, [16, 2, 5], [20, 1, -1, -36]), (23, [14, 2, 5], [13, 1, -1, -36]), (23, [10, 2, 5], [5, 1, -1, -36]), (23, [9, 2, 5], [0, 1, -1, -36]), (102, [18], [7770675568902916283677847627294075626569627356208558085007249638955617140820833992704, 165170]), (23, [18, 2, 5], [33, 1, -1, -36]), (23, [16, 2, 5], [20, 1, -1, -36]), (23, [14, 2, 5], [13, 1, -1, -36]), (23, [10, 2, 5], [5, 1, -1, -36]), (23, [9, 2, 5], [0, 1, -1, -36]), (102, [16], [7770675568902916283677847627294075626569627356208558085007249638955617140820833992704, 165170]), (23, [16, 2, 5], [20, 1, -1, -36]), (23, [14, 2, 5], [13, 1, -1, -36]), (23, [10, 2, 5], [5, 1, -1, -36]), (23, [9, 2, 5], [0, 1, -1, -36]), (102, [14], [7770675568902916283677847627294075626569627356208558085007249638955617140820833992704, 165170]), (23, [14, 2, 5], [13, 1, -1, -36]), (7, [11, 12], [4]), (23, [10, 2, 5], [5, 1, -1, -36]), (23, [9, 2, 5], [0, 1, -1, -36]), (102, [10], [7770675568902916283677847627294075626569627356208558085007249638955617140820833992704, 165170]), (23, [10, 2, 5], [5, 1, -1, -36]), (23, [9, 2, 5], [0, 1, -1, -36]), (102, [9], [7770675568902916283677847627294075626569627356208558085007249638955617140820833992704, 165170]), (23, [9, 2, 5], [0, 1, -1, -36]), (7, [7, 4], [0]), (7, [5, 6], [2])], [], [], [(20, [3, 2, 21], [30, 0, 1, 1, 170, -1, 0, 0, -36, 0, 0])], [], [(21, 5, 1, 1), (21, 6, -4294967296, 0), (7, 4, 0, 0), (5, 6, -4294967296, -1)])
theorem oo_Mo_writeGroup_at_l2_10 {kA : Nat → ClassId} : or_ok PRD kA GG o_Mo_writeGroup_at_l2_10 := by
  refine or_mk fun A ta ws vs hD hth hl => ?_
  intro t0 r0 t2 k2 t4 k4 t5 k5 t6 k6 t7 k7 t9 k9 t10 k10 t11 k11 t12 k12 t14 k14 t15 k15 t16 k16 t18 k18 t20 k20 t21 k21 d0 d1 d2 d3 f0 f1 f2 f3 f4 f5 f6 f7 f8 f9 f10 f11 f12 f13 ta1 w1 le1 s1 f15 f16 f17 f18 f19 f20 ta2 w2 le2 s2 f22 f23 f24 f25 f26 ta3 w3 le3 s3 f28 f29 f30 f31 ta4 w4 le4 s4 f33 f34 f35 f36 ta5 w5 le5 s5 f38 f39 ta6 w6 le6 s6 f41 f42 f43
  replace f0 := shm_4 f0
  replace f1 := shm_2039 f1
  replace f2 := shm_2042 f2
  replace f3 := shm_2041 f3
  replace f4 := shm_732 f4
  replace f5 := shm_2040 f5
  replace f6 := shm_732 f6
  replace f7 := shm_2038 f7
  replace f8 := shm_2037 f8
  replace f9 := shm_597 f9
  replace f10 := shm_126 f10
  replace f11 := shm_127 f11
  replace f12 := shm_5 f12
  replace f13 := shm_210 f13
  replace f15 := shm_2039 f15
  replace f16 := shm_2042 f16
  replace f17 := shm_2041 f17
  replace f18 := shm_2040 f18
  replace f19 := shm_2038 f19
  replace f20 := shm_2037 f20
  replace f22 := shm_2042 f22
  replace f23 := shm_2041 f23
  replace f24 := shm_2040 f24
  replace f25 := shm_2038 f25
  replace f26 := shm_2037 f26
  replace f28 := shm_2041 f28
  replace f29 := shm_2040 f29
  replace f30 := shm_2038 f30
  replace f31 := shm_2037 f31
  replace f33 := shm_2040 f33
  replace f34 := shm_21 f34
  replace f35 := shm_2038 f35
  replace f36 := shm_2037 f36
  replace f38 := shm_2038 f38
  replace f39 := shm_2037 f39
  replace f41 := shm_2037 f41
  replace f42 := shm_37 f42
  replace f43 := shm_6 f43
  have q3 : n_v vs 3 = n_v vs 0 := f12.symm
  simp only [q3] at f4 f6 f9 f10 f11 f13
  have kz_0_170 := fdq_11 hD hth r0
  have nf0 : fc_1 PRD (20, [3, 2, 21], [30, 0, 1, 1, 170, -1, 0, 0, -36, 0, 0]) ws (vs) := by
    refine ⟨nf_in hl rfl, sgq_2035 ?_⟩
    · show 1 * w_fi ws (n_v vs 3) 170 + ((-1) * v_iv (n_v vs 2) + ((-36) * v_iv (n_v vs 21) + 0)) ≤ 0
      rw [q3]
      exact vc_Mo_writeGroup_at_l2_10_0 (v_iv (n_v vs 2)) (v_iv (n_v vs 4)) (v_iv (n_v vs 5)) (v_iv (n_v vs 6)) (v_iv (n_v vs 7)) (v_iv (n_v vs 9)) (v_iv (n_v vs 10)) (v_iv (n_v vs 11)) (v_iv (n_v vs 12)) (v_iv (n_v vs 14)) (v_iv (n_v vs 15)) (v_iv (n_v vs 16)) (v_iv (n_v vs 18)) (v_iv (n_v vs 20)) (v_iv (n_v vs 21)) (w_ei ws (w_ar ws (n_v vs 0) 2)) (w_fi ws (n_v vs 0) 5) (w_fi ws (n_v vs 0) 170) k2 k4 k5 k6 k7 k9 k10 k11 k12 k14 k15 k16 k18 k20 k21 d0 d1 d2 d3 f0 f1 f2 f3 f4 f5 f6 f7 f8 f9 f10 f11 f13 f15 f16 f17 f18 f19 f20 f22 f23 f24 f25 f26 f28 f29 f30 f31 f33 f34 f35 f36 f38 f39 f41 f42 f43 kz_0_170
  refine ⟨(fun _ h => (by cases h)), [], trivial, ?_, (fun _ h => (by cases h))⟩
  rw [List.append_nil]
  exact List.forall_mem_cons.mpr ⟨⟨show (20 : Nat) < 100 from by decide, nf0⟩, (fun _ h => (by cases h))⟩
set_option maxHeartbeats 4000000 in
theorem vc_Mo_writeGroup_at_l2_11_0 (x2 : Int) (x4 : Int) (x5 : Int) (x6 : Int) (x7 : Int) (x8 : Int) (all_0 : Int → Int) (r_0 : Int) (texts_0 : Int) (k2 : 0 ≤ x2 ∧ x2 ≤ 99712161) (k4 : 2 ≤ x4 ∧ x4 ≤ 7) (k5 : 0 ≤ x5 ∧ x5 ≤ 23) (k6 : 1 ≤ x6 ∧ x6 ≤ 24) (k7 : 0 ≤ x7 ∧ x7 ≤ 7) (k8 : 1 ≤ x8 ∧ x8 ≤ 24) (d0 : x5 + 1 ≤ x8 ∧ x8 ≤ x5 + 1) (d1 : x6 + (-4294967296) ≤ x8 ∧ x8 ≤ x6 + 0) (d2 : x6 + (-4294967296) ≤ x5 ∧ x5 ≤ x6 + (-1)) (f0 : x8 = x5 + 1) (f1 : x7 ≠ x4) (f2 : x7 = all_0 (((r_0 + 243) + x5))) (f3 : x5 < x6) (f4 : 1 * x6 + ((-1) * all_0 (r_0 + 0) + 0) ≤ 0) (f5 : (-1) * x6 + (1 * all_0 (r_0 + 0) + 0) ≤ 0) (f6 : 1 * texts_0 + ((-1) * x2 + ((-36) * x5 + 0)) ≤ 0) (kz_0_170 : 0 ≤ texts_0 ∧ texts_0 ≤ 100000000) : 1 * texts_0 + ((-1) * x2 + ((-36) * x8 + 0)) ≤ 0 := by
  first | assumption | omega | grind
def o_Mo_writeGroup_at_l2_11 : or_T := (2, 9, [(0, (2, 0, 0, [165])), (2, (0, 0, 99712161, [])), (4, (0, 2, 7, [])), (5, (0, 0, 23, [])), (6, (0, 1, 24, [])), (7, (0, 0, 7, [])), (8, (0, 1, 24, []))], [(6, [8, 5], [1]), (7, [7, 4], [1]), (20, [7, 3, 5], [50, 1, 1, 1005, 1002, 1, 2, 1, 0, 3, 1, 2, 4, 7, 4, 3, 2, 1, 5, 0, 243, 1, 2]), (7, [5, 6], [2]), (20, [6, 3], [30, 0, 1, 0, 0, -1, 3, 2005000]), (20, [6, 3], [30, 0, -1, 0, 0, 1, 3, 2005000]), (20, [3, 2, 5], [30, 0, 1, 1, 170, -1, 0, 0, -36, 0, 0]), (24, [0, 3], [])], [], [], [(20, [3, 2, 8], [30, 0, 1, 1, 170, -1, 0, 0, -36, 0, 0])], [], [(8, 5, 1, 1), (8, 6, -4294967296, 0), (5, 6, -4294967296, -1)])
theorem oo_Mo_writeGroup_at_l2_11 {kA : Nat → ClassId} : or_ok PRD kA GG o_Mo_writeGroup_at_l2_11 := by
  refine or_mk fun A ta ws vs hD hth hl => ?_
  intro t0 r0 t2 k2 t4 k4 t5 k5 t6 k6 t7 k7 t8 k8 d0 d1 d2 f0 f1 f2 f3 f4 f5 f6 f7
  replace f0 := shm_4 f0
  replace f1 := shm_40 f1
  replace f2 := shm_597 f2
  replace f3 := shm_6 f3
  replace f4 := shm_126 f4
  replace f5 := shm_127 f5
  replace f6 := shm_2035 f6
  replace f7 := shm_5 f7
  have q3 : n_v vs 3 = n_v vs 0 := f7.symm
  simp only [q3] at f2 f4 f5 f6
  have kz_0_170 := fdq_11 hD hth r0
  have nf0 : fc_1 PRD (20, [3, 2, 8], [30, 0, 1, 1, 170, -1, 0, 0, -36, 0, 0]) ws (vs) := by
    refine ⟨nf_in hl rfl, sgq_2035 ?_⟩
    · show 1 * w_fi ws (n_v vs 3) 170 + ((-1) * v_iv (n_v vs 2) + ((-36) * v_iv (n_v vs 8) + 0)) ≤ 0
      rw [q3]
      exact vc_Mo_writeGroup_at_l2_11_0 (v_iv (n_v vs 2)) (v_iv (n_v vs 4)) (v_iv (n_v vs 5)) (v_iv (n_v vs 6)) (v_iv (n_v vs 7)) (v_iv (n_v vs 8)) (w_ei ws (w_ar ws (n_v vs 0) 2)) (w_fi ws (n_v vs 0) 5) (w_fi ws (n_v vs 0) 170) k2 k4 k5 k6 k7 k8 d0 d1 d2 f0 f1 f2 f3 f4 f5 f6 kz_0_170
  refine ⟨(fun _ h => (by cases h)), [], trivial, ?_, (fun _ h => (by cases h))⟩
  rw [List.append_nil]
  exact List.forall_mem_cons.mpr ⟨⟨show (20 : Nat) < 100 from by decide, nf0⟩, (fun _ h => (by cases h))⟩
set_option maxHeartbeats 4000000 in
theorem vc_Mo_writeGroup_at_l2_12_0 (x2 : Int) (x4 : Int) (x5 : Int) (x6 : Int) (all_0 : Int → Int) (r_0 : Int) (texts_0 : Int) (k2 : 0 ≤ x2 ∧ x2 ≤ 99712161) (k4 : 2 ≤ x4 ∧ x4 ≤ 7) (k5 : 3 ≤ x5 ∧ x5 ≤ 8) (k6 : 0 ≤ x6 ∧ x6 ≤ 8) (d0 : x6 + 0 ≤ x5 ∧ x5 ≤ x6 + 4294967296) (d1 : x5 + (-4294967296) ≤ x4 ∧ x4 ≤ x5 + (-1)) (f0 : x6 ≤ x5) (f1 : 1 * x6 + ((-1) * all_0 (r_0 + 2) + 0) ≤ 0) (f2 : (-1) * x6 + (1 * all_0 (r_0 + 2) + 0) ≤ 0) (f3 : 1 * texts_0 + ((-1) * x2 + ((-57395) * x5 + (57395 * x4 + 0))) ≤ (-56531)) (kz_0_170 : 0 ≤ texts_0 ∧ texts_0 ≤ 100000000) : 1 * texts_0 + ((-1) * x2 + 0) ≤ 287839 := by
  first | assumption | omega | grind
def o_Mo_writeGroup_at_l2_12 : or_T := (177, 7, [(0, (2, 0, 0, [165])), (2, (0, 0, 99712161, [])), (4, (0, 2, 7, [])), (5, (0, 3, 8, [])), (6, (0, 0, 8, []))], [(7, [5, 6], [3]), (20, [6, 3], [30, 0, 1, 0, 0, -1, 3, 2005002]), (20, [6, 3], [30, 0, -1, 0, 0, 1, 3, 2005002]), (20, [3, 2, 5, 4], [30, -56531, 1, 1, 170, -1, 0, 0, -57395, 0, 0, 57395, 0, 0]), (24, [0, 3], [])], [], [], [(20, [0, 2], [30, 287839, 1, 1, 170, -1, 0, 0])], [], [(5, 6, 0, 4294967296), (4, 5, -4294967296, -1)])
theorem oo_Mo_writeGroup_at_l2_12 {kA : Nat → ClassId} : or_ok PRD kA GG o_Mo_writeGroup_at_l2_12 := by
  refine or_mk fun A ta ws vs hD hth hl => ?_
  intro t0 r0 t2 k2 t4 k4 t5 k5 t6 k6 d0 d1 f0 f1 f2 f3 f4
  replace f1 := shm_123 f1
  replace f2 := shm_124 f2
  replace f3 := shm_2057 f3
  replace f4 := shm_5 f4
  have q3 : n_v vs 3 = n_v vs 0 := f4.symm
  simp only [q3] at f1 f2 f3
  have kz_0_170 := fdq_11 hD hth r0
  have nf0 : fc_1 PRD (20, [0, 2], [30, 287839, 1, 1, 170, -1, 0, 0]) ws (vs) := ⟨nf_in hl rfl, sgq_2055 (vc_Mo_writeGroup_at_l2_12_0 (v_iv (n_v vs 2)) (v_iv (n_v vs 4)) (v_iv (n_v vs 5)) (v_iv (n_v vs 6)) (w_ei ws (w_ar ws (n_v vs 0) 2)) (w_fi ws (n_v vs 0) 5) (w_fi ws (n_v vs 0) 170) k2 k4 k5 k6 d0 d1 (shm_2 f0) f1 f2 f3 kz_0_170)⟩
  refine ⟨(fun _ h => (by cases h)), [], trivial, ?_, (fun _ h => (by cases h))⟩
  rw [List.append_nil]
  exact List.forall_mem_cons.mpr ⟨⟨show (20 : Nat) < 100 from by decide, nf0⟩, (fun _ h => (by cases h))⟩
def o_Mo_writeGroup_at_l2_13 : or_T := (117, 14, [(0, (2, 0, 0, [165])), (2, (0, 0, 99712161, [])), (3, (2, 0, 0, [165])), (4, (0, 2, 6, [])), (5, (0, 3, 7, [])), (6, (0, 4, 8, [])), (7, (2, 0, 0, [167])), (8, (0, 0, 66297, [])), (9, (0, 531, 531, [])), (10, (0, 531, 66828, [])), (11, (0, 534, 66835, [])), (12, (0, 2, 6, []))], [(7, [12, 4], [0]), (10, [12, 7, 11], []), (1, [11, 10, 5], []), (1, [10, 8, 9], []), (9, [8, 3], [5]), (9, [7, 3], [2]), (7, [5, 6], [2]), (20, [6, 3], [30, 0, 1, 0, 0, -1, 3, 2005002]), (20, [6, 3], [30, 0, -1, 0, 0, 1, 3, 2005002]), (20, [3, 2, 5, 4], [30, -56531, 1, 1, 170, -1, 0, 0, -57395, 0, 0, 57395, 0, 0]), (24, [0, 3], [])], [], [(0, 0, 99999994, [])], [(20, [3, 14], [30, 0, 1, 1, 170, -1, 0, 0]), (23, [14, 2, 5, 4], [-56531, 1, -1, -57395, 57395])], [], [(12, 4, 0, 0), (11, 5, 531, 66828), (11, 6, -4294967296, 66827), (11, 10, 3, 7), (11, 8, 534, 538), (10, 8, 531, 531), (5, 6, -4294967296, -1), (4, 5, -4294967296, -1)])
theorem oo_Mo_writeGroup_at_l2_13 {kA : Nat → ClassId} : or_ok PRD kA GG o_Mo_writeGroup_at_l2_13 := by
  refine or_mk fun A ta ws vs hD hth hl => ?_
  intro t0 r0 t2 k2 t3 r3 t4 k4 t5 k5 t6 k6 t7 r7 t8 k8 t9 k9 t10 k10 t11 k11 t12 k12 d0 d1 d2 d3 d4 d5 d6 d7 f0 f1 f2 f3 f4 f5 f6 f7 f8 f9 f10
  replace f0 := shm_37 f0
  replace f1 := shm_107 f1
  replace f2 := shm_12 f2
  replace f3 := shm_12 f3
  replace f4 := shm_110 f4
  replace f5 := shm_120 f5
  replace f6 := shm_6 f6
  replace f7 := shm_123 f7
  replace f8 := shm_124 f8
  replace f9 := shm_2057 f9
  replace f10 := shm_5 f10
  have q3 : n_v vs 3 = n_v vs 0 := f10.symm
  simp only [q3] at f4 f5 f7 f8 f9
  have cr_0_2 := fdq_10 hD hth r0
  have ad_7 : v_ad (n_v vs 7) = w_ar ws (n_v vs 0) 2 := congrArg v_ad f5
  simp only [ad_7] at f1
  have h1 : v_iv (n_v vs 12) = w_ei ws (w_ar ws (n_v vs 0) 2) (v_iv (n_v vs 11)) := f1
  have g4 : v_iv (n_v vs 8) = w_fi ws (n_v vs 0) 5 := congrArg v_iv f4
  have cg1_F5_2 : v_iv (n_v vs 11) = w_fi ws (n_v vs 0) 5 + 2 → w_el ws (w_ar ws (n_v vs 0) 2) (v_iv (n_v vs 11)).toNat = w_el ws (w_ar ws (n_v vs 0) 2) (w_fi ws (n_v vs 0) 5 + 2).toNat := fun h => by rw [h]
  have kz_0_170 := fdq_11 hD hth r0
  have kv0 := fdq_11 hD hth r0
  obtain ⟨x, ex, hx⟩ := iv_ex (ta := ta) (lo := 0) (hi := 99999994) (z := w_fi ws (n_v vs 0) 170) (by omega) (by omega) (by omega) (by omega)
  have ex2 : v_iv (Value.int x) = w_fi ws (n_v vs 0) 170 := ex
  have ex3 : 0 ≤ v_iv (Value.int x) ∧ v_iv (Value.int x) ≤ 99999994 := tv_rng hx
  have e_2 : n_v (vs ++ [Value.int x]) 2 = n_v vs 2 := n_v_old (by rw [hl]; decide)
  have e_3 : n_v (vs ++ [Value.int x]) 3 = n_v vs 3 := n_v_old (by rw [hl]; decide)
  have e_4 : n_v (vs ++ [Value.int x]) 4 = n_v vs 4 := n_v_old (by rw [hl]; decide)
  have e_5 : n_v (vs ++ [Value.int x]) 5 = n_v vs 5 := n_v_old (by rw [hl]; decide)
  have e_14 : n_v (vs ++ [Value.int x]) 14 = Value.int x := n_v_new hl
  have nf0 : fc_1 PRD (20, [3, 14], [30, 0, 1, 1, 170, -1, 0, 0]) ws (vs ++ [Value.int x]) := by
    refine ⟨nf_inA hl rfl, sgq_131 ?_⟩
    · show 1 * w_fi ws (n_v (vs ++ [Value.int x]) 3) 170 + ((-1) * v_iv (n_v (vs ++ [Value.int x]) 14) + 0) ≤ 0
      simp only [e_3, e_14, q3]
      omega
  have nf1 : fc_1 PRD (23, [14, 2, 5, 4], [-56531, 1, -1, -57395, 57395]) ws (vs ++ [Value.int x]) := by
    refine ⟨nf_inA hl rfl, sgq_2058 ?_⟩
    · show 1 * v_iv (n_v (vs ++ [Value.int x]) 14) + ((-1) * v_iv (n_v (vs ++ [Value.int x]) 2) + ((-57395) * v_iv (n_v (vs ++ [Value.int x]) 5) + (57395 * v_iv (n_v (vs ++ [Value.int x]) 4) + 0))) ≤ (-56531)
      simp only [e_2, e_4, e_5, e_14]
      omega
  exact ⟨(fun _ h => (by cases h)), [Value.int x], ag_one hx, List.forall_mem_cons.mpr ⟨⟨show (20 : Nat) < 100 from by decide, nf0⟩, List.forall_mem_cons.mpr ⟨⟨show (23 : Nat) < 100 from by decide, nf1⟩, (fun _ h => (by cases h))⟩⟩, (fun _ h => (by cases h))⟩
set_option maxHeartbeats 4000000 in
theorem vc_Mo_writeGroup_at_l2_14_0 (x2 : Int) (x4 : Int) (x5 : Int) (x6 : Int) (x8 : Int) (x12 : Int) (x14 : Int) (r_0 : Int) (all_0 : Int → Int) (texts_0 : Int) (gx : Int) (k2 : 0 ≤ x2 ∧ x2 ≤ 99712161) (k4 : 2 ≤ x4 ∧ x4 ≤ 6) (k5 : 3 ≤ x5 ∧ x5 ≤ 7) (k6 : 4 ≤ x6 ∧ x6 ≤ 8) (k8 : 0 ≤ x8 ∧ x8 ≤ 66297) (k12 : 2 ≤ x12 ∧ x12 ≤ 6) (k14 : 0 ≤ x14 ∧ x14 ≤ 99999994) (d0 : x4 + 0 ≤ x12 ∧ x12 ≤ x4 + 0) (d1 : x6 + (-4294967296) ≤ x5 ∧ x5 ≤ x6 + (-1)) (d2 : x5 + (-4294967296) ≤ x4 ∧ x4 ≤ x5 + (-1)) (g0 : x8 = r_0) (f2 : 1 * x14 + ((-1) * x2 + ((-57395) * x5 + (57395 * x4 + 0))) ≤ (-56531)) (f3 : 1 * x6 + ((-1) * all_0 (r_0 + 2) + 0) ≤ 0) (f4 : (-1) * x6 + (1 * all_0 (r_0 + 2) + 0) ≤ 0) (f6 : 1 * texts_0 + ((-1) * x14 + 0) ≤ 6) (f8 : 1 * x14 + ((-1) * x2 + ((-57395) * x5 + (57395 * x4 + 0))) ≤ (-56531)) (f9 : x12 = x4) (f10 : x5 < x6) (kz_0_170 : 0 ≤ texts_0 ∧ texts_0 ≤ 100000000) (ex2 : gx = texts_0) (ex3 : 0 ≤ gx ∧ gx ≤ 99999992) : 1 * texts_0 + ((-1) * gx + 0) ≤ 0 := by
  first | assumption | omega | grind
set_option maxHeartbeats 4000000 in
theorem vc_Mo_writeGroup_at_l2_14_1 (x2 : Int) (x4 : Int) (x5 : Int) (x6 : Int) (x8 : Int) (x12 : Int) (x14 : Int) (r_0 : Int) (all_0 : Int → Int) (texts_0 : Int) (gx : Int) (k2 : 0 ≤ x2 ∧ x2 ≤ 99712161) (k4 : 2 ≤ x4 ∧ x4 ≤ 6) (k5 : 3 ≤ x5 ∧ x5 ≤ 7) (k6 : 4 ≤ x6 ∧ x6 ≤ 8) (k8 : 0 ≤ x8 ∧ x8 ≤ 66297) (k12 : 2 ≤ x12 ∧ x12 ≤ 6) (k14 : 0 ≤ x14 ∧ x14 ≤ 99999994) (d0 : x4 + 0 ≤ x12 ∧ x12 ≤ x4 + 0) (d1 : x6 + (-4294967296) ≤ x5 ∧ x5 ≤ x6 + (-1)) (d2 : x5 + (-4294967296) ≤ x4 ∧ x4 ≤ x5 + (-1)) (g0 : x8 = r_0) (f2 : 1 * x14 + ((-1) * x2 + ((-57395) * x5 + (57395 * x4 + 0))) ≤ (-56531)) (f3 : 1 * x6 + ((-1) * all_0 (r_0 + 2) + 0) ≤ 0) (f4 : (-1) * x6 + (1 * all_0 (r_0 + 2) + 0) ≤ 0) (f6 : 1 * texts_0 + ((-1) * x14 + 0) ≤ 6) (f8 : 1 * x14 + ((-1) * x2 + ((-57395) * x5 + (57395 * x4 + 0))) ≤ (-56531)) (f9 : x12 = x4) (f10 : x5 < x6) (kz_0_170 : 0 ≤ texts_0 ∧ texts_0 ≤ 100000000) (ex2 : gx = texts_0) (ex3 : 0 ≤ gx ∧ gx ≤ 99999992) : 1 * gx + ((-1) * x2 + ((-57395) * x5 + (57395 * x4 + 0))) ≤ (-56525) := by
  first | assumption | omega | grind
def o_Mo_writeGroup_at_l2_14 : or_T := (149, 24, [(0, (2, 0, 0, [165])), (2, (0, 0, 99712161, [])), (3, (2, 0, 0, [165])), (4, (0, 2, 6, [])), (5, (0, 3, 7, [])), (6, (0, 4, 8, [])), (7, (2, 0, 0, [167])), (8, (0, 0, 66297, [])), (12, (0, 2, 6, [])), (14, (0, 0, 99999994, []))], [(9, [8, 3], [5]), (9, [7, 3], [2]), (23, [14, 2, 5, 4], [-56531, 1, -1, -57395, 57395]), (20, [6, 3], [30, 0, 1, 0, 0, -1, 3, 2005002]), (20, [6, 3], [30, 0, -1, 0, 0, 1, 3, 2005002]), (24, [0, 3], []), (20, [3, 14], [30, 6, 1, 1, 170, -1, 0, 0]), (102, [14], [7770675568902916283677847627294075626569627356208558085007249638955617140820833992704, 165170]), (23, [14, 2, 5, 4], [-56531, 1, -1, -57395, 57395]), (7, [12, 4], [0]), (7, [5, 6], [2])], [], [(0, 0, 99999992, [])], [(20, [3, 24], [30, 0, 1, 1, 170, -1, 0, 0]), (23, [24, 2, 5, 4], [-56525, 1, -1, -57395, 57395])], [], [(12, 4, 0, 0), (5, 6, -4294967296, -1), (4, 5, -4294967296, -1)])
theorem oo_Mo_writeGroup_at_l2_14 {kA : Nat → ClassId} : or_ok PRD kA GG o_Mo_writeGroup_at_l2_14 := by
  refine or_mk fun A ta ws vs hD hth hl => ?_
  intro t0 r0 t2 k2 t3 r3 t4 k4 t5 k5 t6 k6 t7 r7 t8 k8 t12 k12 t14 k14 d0 d1 d2 f0 f1 f2 f3 f4 f5 f6 ta1 w1 le1 s1 f8 f9 f10
  replace f0 := shm_110 f0
  replace f1 := shm_120 f1
  replace f2 := shm_2058 f2
  replace f3 := shm_123 f3
  replace f4 := shm_124 f4
  replace f5 := shm_5 f5
  replace f6 := shm_211 f6
  replace f8 := shm_2058 f8
  replace f9 := shm_37 f9
  replace f10 := shm_6 f10
  have q3 : n_v vs 3 = n_v vs 0 := f5.symm
  simp only [q3] at f0 f1 f3 f4 f6
  have cr_0_2 := fdq_10 hD hth r0
  have ad_7 : v_ad (n_v vs 7) = w_ar ws (n_v vs 0) 2 := congrArg v_ad f1
  have g0 : v_iv (n_v vs 8) = w_fi ws (n_v vs 0) 5 := congrArg v_iv f0
  have kz_0_170 := fdq_11 hD hth r0
  have kv0 := fdq_11 hD hth r0
  obtain ⟨x, ex, hx⟩ := iv_ex (ta := ta) (lo := 0) (hi := 99999992) (z := w_fi ws (n_v vs 0) 170) (by omega) (by omega) (by omega) (by omega)
  have ex2 : v_iv (Value.int x) = w_fi ws (n_v vs 0) 170 := ex
  have ex3 : 0 ≤ v_iv (Value.int x) ∧ v_iv (Value.int x) ≤ 99999992 := tv_rng hx
  have e_2 : n_v (vs ++ [Value.int x]) 2 = n_v vs 2 := n_v_old (by rw [hl]; decide)
  have e_3 : n_v (vs ++ [Value.int x]) 3 = n_v vs 3 := n_v_old (by rw [hl]; decide)
  have e_4 : n_v (vs ++ [Value.int x]) 4 = n_v vs 4 := n_v_old (by rw [hl]; decide)
  have e_5 : n_v (vs ++ [Value.int x]) 5 = n_v vs 5 := n_v_old (by rw [hl]; decide)
  have e_24 : n_v (vs ++ [Value.int x]) 24 = Value.int x := n_v_new hl
  have nf0 : fc_1 PRD (20, [3, 24], [30, 0, 1, 1, 170, -1, 0, 0]) ws (vs ++ [Value.int x]) := by
    refine ⟨nf_inA hl rfl, sgq_131 ?_⟩
    · show 1 * w_fi ws (n_v (vs ++ [Value.int x]) 3) 170 + ((-1) * v_iv (n_v (vs ++ [Value.int x]) 24) + 0) ≤ 0
      simp only [e_3, e_24, q3]
      exact vc_Mo_writeGroup_at_l2_14_0 (v_iv (n_v vs 2)) (v_iv (n_v vs 4)) (v_iv (n_v vs 5)) (v_iv (n_v vs 6)) (v_iv (n_v vs 8)) (v_iv (n_v vs 12)) (v_iv (n_v vs 14)) (w_fi ws (n_v vs 0) 5) (w_ei ws (w_ar ws (n_v vs 0) 2)) (w_fi ws (n_v vs 0) 170) (v_iv (Value.int x)) k2 k4 k5 k6 k8 k12 k14 d0 d1 d2 g0 f2 f3 f4 f6 f8 f9 f10 kz_0_170 ex2 ex3
  have nf1 : fc_1 PRD (23, [24, 2, 5, 4], [-56525, 1, -1, -57395, 57395]) ws (vs ++ [Value.int x]) := by
    refine ⟨nf_inA hl rfl, sgq_2059 ?_⟩
    · show 1 * v_iv (n_v (vs ++ [Value.int x]) 24) + ((-1) * v_iv (n_v (vs ++ [Value.int x]) 2) + ((-57395) * v_iv (n_v (vs ++ [Value.int x]) 5) + (57395 * v_iv (n_v (vs ++ [Value.int x]) 4) + 0))) ≤ (-56525)
      simp only [e_2, e_4, e_5, e_24]
      exact vc_Mo_writeGroup_at_l2_14_1 (v_iv (n_v vs 2)) (v_iv (n_v vs 4)) (v_iv (n_v vs 5)) (v_iv (n_v vs 6)) (v_iv (n_v vs 8)) (v_iv (n_v vs 12)) (v_iv (n_v vs 14)) (w_fi ws (n_v vs 0) 5) (w_ei ws (w_ar ws (n_v vs 0) 2)) (w_fi ws (n_v vs 0) 170) (v_iv (Value.int x)) k2 k4 k5 k6 k8 k12 k14 d0 d1 d2 g0 f2 f3 f4 f6 f8 f9 f10 kz_0_170 ex2 ex3
  exact ⟨(fun _ h => (by cases h)), [Value.int x], ag_one hx, List.forall_mem_cons.mpr ⟨⟨show (20 : Nat) < 100 from by decide, nf0⟩, List.forall_mem_cons.mpr ⟨⟨show (23 : Nat) < 100 from by decide, nf1⟩, (fun _ h => (by cases h))⟩⟩, (fun _ h => (by cases h))⟩
set_option maxHeartbeats 4000000 in
theorem vc_Mo_writeGroup_at_l2_15_0 (x2 : Int) (x4 : Int) (x5 : Int) (x6 : Int) (x12 : Int) (x14 : Int) (x24 : Int) (all_0 : Int → Int) (r_0 : Int) (texts_0 : Int) (gx : Int) (k2 : 0 ≤ x2 ∧ x2 ≤ 99712161) (k4 : 2 ≤ x4 ∧ x4 ≤ 6) (k5 : 3 ≤ x5 ∧ x5 ≤ 7) (k6 : 4 ≤ x6 ∧ x6 ≤ 8) (k12 : 2 ≤ x12 ∧ x12 ≤ 6) (k14 : 0 ≤ x14 ∧ x14 ≤ 99999994) (k24 : 0 ≤ x24 ∧ x24 ≤ 99999992) (d0 : x4 + 0 ≤ x12 ∧ x12 ≤ x4 + 0) (d1 : x6 + (-4294967296) ≤ x5 ∧ x5 ≤ x6 + (-1)) (d2 : x5 + (-4294967296) ≤ x4 ∧ x4 ≤ x5 + (-1)) (f0 : 1 * x24 + ((-1) * x2 + ((-57395) * x5 + (57395 * x4 + 0))) ≤ (-56525)) (f1 : 1 * x14 + ((-1) * x2 + ((-57395) * x5 + (57395 * x4 + 0))) ≤ (-56531)) (f2 : 1 * x6 + ((-1) * all_0 (r_0 + 2) + 0) ≤ 0) (f3 : (-1) * x6 + (1 * all_0 (r_0 + 2) + 0) ≤ 0) (f5 : 1 * texts_0 + ((-1) * x24 + 0) ≤ 8) (f7 : 1 * x24 + ((-1) * x2 + ((-57395) * x5 + (57395 * x4 + 0))) ≤ (-56525)) (f8 : 1 * x14 + ((-1) * x2 + ((-57395) * x5 + (57395 * x4 + 0))) ≤ (-56531)) (f10 : 1 * x14 + ((-1) * x2 + ((-57395) * x5 + (57395 * x4 + 0))) ≤ (-56531)) (f11 : x12 = x4) (f12 : x5 < x6) (kz_0_170 : 0 ≤ texts_0 ∧ texts_0 ≤ 100000000) (ex2 : gx = texts_0) (ex3 : 0 ≤ gx ∧ gx ≤ 99999997) : 1 * texts_0 + ((-1) * gx + 0) ≤ 0 := by
  first | assumption | omega | grind
set_option maxHeartbeats 4000000 in
theorem vc_Mo_writeGroup_at_l2_15_1 (x2 : Int) (x4 : Int) (x5 : Int) (x6 : Int) (x12 : Int) (x14 : Int) (x24 : Int) (all_0 : Int → Int) (r_0 : Int) (texts_0 : Int) (gx : Int) (k2 : 0 ≤ x2 ∧ x2 ≤ 99712161) (k4 : 2 ≤ x4 ∧ x4 ≤ 6) (k5 : 3 ≤ x5 ∧ x5 ≤ 7) (k6 : 4 ≤ x6 ∧ x6 ≤ 8) (k12 : 2 ≤ x12 ∧ x12 ≤ 6) (k14 : 0 ≤ x14 ∧ x14 ≤ 99999994) (k24 : 0 ≤ x24 ∧ x24 ≤ 99999992) (d0 : x4 + 0 ≤ x12 ∧ x12 ≤ x4 + 0) (d1 : x6 + (-4294967296) ≤ x5 ∧ x5 ≤ x6 + (-1)) (d2 : x5 + (-4294967296) ≤ x4 ∧ x4 ≤ x5 + (-1)) (f0 : 1 * x24 + ((-1) * x2 + ((-57395) * x5 + (57395 * x4 + 0))) ≤ (-56525)) (f1 : 1 * x14 + ((-1) * x2 + ((-57395) * x5 + (57395 * x4 + 0))) ≤ (-56531)) (f2 : 1 * x6 + ((-1) * all_0 (r_0 + 2) + 0) ≤ 0) (f3 : (-1) * x6 + (1 * all_0 (r_0 + 2) + 0) ≤ 0) (f5 : 1 * texts_0 + ((-1) * x24 + 0) ≤ 8) (f7 : 1 * x24 + ((-1) * x2 + ((-57395) * x5 + (57395 * x4 + 0))) ≤ (-56525)) (f8 : 1 * x14 + ((-1) * x2 + ((-57395) * x5 + (57395 * x4 + 0))) ≤ (-56531)) (f10 : 1 * x14 + ((-1) * x2 + ((-57395) * x5 + (57395 * x4 + 0))) ≤ (-56531)) (f11 : x12 = x4) (f12 : x5 < x6) (kz_0_170 : 0 ≤ texts_0 ∧ texts_0 ≤ 100000000) (ex2 : gx = texts_0) (ex3 : 0 ≤ gx ∧ gx ≤ 99999997) : 1 * gx + ((-1) * x2 + ((-57395) * x5 + (57395 * x4 + 0))) ≤ (-56517) := by
  first | assumption | omega | grind
def o_Mo_writeGroup_at_l2_15 : or_T := (156, 26, [(0, (2, 0, 0, [165])), (2, (0, 0, 99712161, [])), (3, (2, 0, 0, [165])), (4, (0, 2, 6, [])), (5, (0, 3, 7, [])), (6, (0, 4, 8, [])), (12, (0, 2, 6, [])), (14, (0, 0, 99999994, [])), (24, (0, 0, 99999992, []))], [(23, [24, 2, 5, 4], [-56525, 1, -1, -57395, 57395]), (23, [14, 2, 5, 4], [-56531, 1, -1, -57395, 57395]), (20, [6, 3], [30, 0, 1, 0, 0, -1, 3, 2005002]), (20, [6, 3], [30, 0, -1, 0, 0, 1, 3, 2005002]), (24, [0, 3], []), (20, [3, 24], [30, 8, 1, 1, 170, -1, 0, 0]), (102, [24], [7770675568902916283677847627294075626569627356208558085007249638955617140820833992704, 165170]), (23, [24, 2, 5, 4], [-56525, 1, -1, -57395, 57395]), (23, [14, 2, 5, 4], [-56531, 1, -1, -57395, 57395]), (102, [14], [7770675568902916283677847627294075626569627356208558085007249638955617140820833992704, 165170]), (23, [14, 2, 5, 4], [-56531, 1, -1, -57395, 57395]), (7, [12, 4], [0]), (7, [5, 6], [2])], [], [(0, 0, 99999997, [])], [(20, [3, 26], [30, 0, 1, 1, 170, -1, 0, 0]), (23, [26, 2, 5, 4], [-56517, 1, -1, -57395, 57395])], [], [(12, 4, 0, 0), (5, 6, -4294967296, -1), (4, 5, -4294967296, -1)])
theorem oo_Mo_writeGroup_at_l2_15 {kA : Nat → ClassId} : or_ok PRD kA GG o_Mo_writeGroup_at_l2_15 := by
  refine or_mk fun A ta ws vs hD hth hl => ?_
  intro t0 r0 t2 k2 t3 r3 t4 k4 t5 k5 t6 k6 t12 k12 t14 k14 t24 k24 d0 d1 d2 f0 f1 f2 f3 f4 f5 ta1 w1 le1 s1 f7 f8 ta2 w2 le2 s2 f10 f11 f12
  replace f0 := shm_2059 f0
  replace f1 := shm_2058 f1
  replace f2 := shm_123 f2
  replace f3 := shm_124 f3
  replace f4 := shm_5 f4
  replace f5 := shm_160 f5
  replace f7 := shm_2059 f7
  replace f8 := shm_2058 f8
  replace f10 := shm_2058 f10
  replace f11 := shm_37 f11
  replace f12 := shm_6 f12
  have q3 : n_v vs 3 = n_v vs 0 := f4.symm
  simp only [q3] at f2 f3 f5
  have cr_0_2 := fdq_10 hD hth r0
  have kz_0_170 := fdq_11 hD hth r0
  have kv0 := fdq_11 hD hth r0
  obtain ⟨x, ex, hx⟩ := iv_ex (ta := ta) (lo := 0) (hi := 99999997) (z := w_fi ws (n_v vs 0) 170) (by omega) (by omega) (by omega) (by omega)
  have ex2 : v_iv (Value.int x) = w_fi ws (n_v vs 0) 170 := ex
  have ex3 : 0 ≤ v_iv (Value.int x) ∧ v_iv (Value.int x) ≤ 99999997 := tv_rng hx
  have e_2 : n_v (vs ++ [Value.int x]) 2 = n_v vs 2 := n_v_old (by rw [hl]; decide)
  have e_3 : n_v (vs ++ [Value.int x]) 3 = n_v vs 3 := n_v_old (by rw [hl]; decide)
  have e_4 : n_v (vs ++ [Value.int x]) 4 = n_v vs 4 := n_v_old (by rw [hl]; decide)
  have e_5 : n_v (vs ++ [Value.int x]) 5 = n_v vs 5 := n_v_old (by rw [hl]; decide)
  have e_26 : n_v (vs ++ [Value.int x]) 26 = Value.int x := n_v_new hl
  have nf0 : fc_1 PRD (20, [3, 26], [30, 0, 1, 1, 170, -1, 0, 0]) ws (vs ++ [Value.int x]) := by
    refine ⟨nf_inA hl rfl, sgq_131 ?_⟩
    · show 1 * w_fi ws (n_v (vs ++ [Value.int x]) 3) 170 + ((-1) * v_iv (n_v (vs ++ [Value.int x]) 26) + 0) ≤ 0
      simp only [e_3, e_26, q3]
      exact vc_Mo_writeGroup_at_l2_15_0 (v_iv (n_v vs 2)) (v_iv (n_v vs 4)) (v_iv (n_v vs 5)) (v_iv (n_v vs 6)) (v_iv (n_v vs 12)) (v_iv (n_v vs 14)) (v_iv (n_v vs 24)) (w_ei ws (w_ar ws (n_v vs 0) 2)) (w_fi ws (n_v vs 0) 5) (w_fi ws (n_v vs 0) 170) (v_iv (Value.int x)) k2 k4 k5 k6 k12 k14 k24 d0 d1 d2 f0 f1 f2 f3 f5 f7 f8 f10 f11 f12 kz_0_170 ex2 ex3
  have nf1 : fc_1 PRD (23, [26, 2, 5, 4], [-56517, 1, -1, -57395, 57395]) ws (vs ++ [Value.int x]) := by
    refine ⟨nf_inA hl rfl, sgq_2060 ?_⟩
    · show 1 * v_iv (n_v (vs ++ [Value.int x]) 26) + ((-1) * v_iv (n_v (vs ++ [Value.int x]) 2) + ((-57395) * v_iv (n_v (vs ++ [Value.int x]) 5) + (57395 * v_iv (n_v (vs ++ [Value.int x]) 4) + 0))) ≤ (-56517)
      simp only [e_2, e_4, e_5, e_26]
      exact vc_Mo_writeGroup_at_l2_15_1 (v_iv (n_v vs 2)) (v_iv (n_v vs 4)) (v_iv (n_v vs 5)) (v_iv (n_v vs 6)) (v_iv (n_v vs 12)) (v_iv (n_v vs 14)) (v_iv (n_v vs 24)) (w_ei ws (w_ar ws (n_v vs 0) 2)) (w_fi ws (n_v vs 0) 5) (w_fi ws (n_v vs 0) 170) (v_iv (Value.int x)) k2 k4 k5 k6 k12 k14 k24 d0 d1 d2 f0 f1 f2 f3 f5 f7 f8 f10 f11 f12 kz_0_170 ex2 ex3
  exact ⟨(fun _ h => (by cases h)), [Value.int x], ag_one hx, List.forall_mem_cons.mpr ⟨⟨show (20 : Nat) < 100 from by decide, nf0⟩, List.forall_mem_cons.mpr ⟨⟨show (23 : Nat) < 100 from by decide, nf1⟩, (fun _ h => (by cases h))⟩⟩, (fun _ h => (by cases h))⟩
set_option maxHeartbeats 4000000 in
theorem vc_Mo_writeGroup_at_l2_16_0 (x2 : Int) (x4 : Int) (x5 : Int) (x6 : Int) (x12 : Int) (x14 : Int) (x24 : Int) (x26 : Int) (all_0 : Int → Int) (r_0 : Int) (texts_0 : Int) (gx : Int) (k2 : 0 ≤ x2 ∧ x2 ≤ 99712161) (k4 : 2 ≤ x4 ∧ x4 ≤ 6) (k5 : 3 ≤ x5 ∧ x5 ≤ 7) (k6 : 4 ≤ x6 ∧ x6 ≤ 8) (k12 : 2 ≤ x12 ∧ x12 ≤ 6) (k14 : 0 ≤ x14 ∧ x14 ≤ 99999994) (k24 : 0 ≤ x24 ∧ x24 ≤ 99999992) (k26 : 0 ≤ x26 ∧ x26 ≤ 99999997) (d0 : x4 + 0 ≤ x12 ∧ x12 ≤ x4 + 0) (d1 : x6 + (-4294967296) ≤ x5 ∧ x5 ≤ x6 + (-1)) (d2 : x5 + (-4294967296) ≤ x4 ∧ x4 ≤ x5 + (-1)) (f0 : 1 * x26 + ((-1) * x2 + ((-57395) * x5 + (57395 * x4 + 0))) ≤ (-56517)) (f1 : 1 * x24 + ((-1) * x2 + ((-57395) * x5 + (57395 * x4 + 0))) ≤ (-56525)) (f2 : 1 * x14 + ((-1) * x2 + ((-57395) * x5 + (57395 * x4 + 0))) ≤ (-56531)) (f3 : 1 * x6 + ((-1) * all_0 (r_0 + 2) + 0) ≤ 0) (f4 : (-1) * x6 + (1 * all_0 (r_0 + 2) + 0) ≤ 0) (f6 : 1 * texts_0 + ((-1) * x26 + 0) ≤ 3) (f8 : 1 * x26 + ((-1) * x2 + ((-57395) * x5 + (57395 * x4 + 0))) ≤ (-56517)) (f9 : 1 * x24 + ((-1) * x2 + ((-57395) * x5 + (57395 * x4 + 0))) ≤ (-56525)) (f10 : 1 * x14 + ((-1) * x2 + ((-57395) * x5 + (57395 * x4 + 0))) ≤ (-56531)) (f12 : 1 * x24 + ((-1) * x2 + ((-57395) * x5 + (57395 * x4 + 0))) ≤ (-56525)) (f13 : 1 * x14 + ((-1) * x2 + ((-57395) * x5 + (57395 * x4 + 0))) ≤ (-56531)) (f15 : 1 * x14 + ((-1) * x2 + ((-57395) * x5 + (57395 * x4 + 0))) ≤ (-56531)) (f16 : x12 = x4) (f17 : x5 < x6) (kz_0_170 : 0 ≤ texts_0 ∧ texts_0 ≤ 100000000) (ex2 : gx = texts_0) (ex3 : 0 ≤ gx ∧ gx ≤ 99942624) : 1 * texts_0 + ((-1) * gx + 0) ≤ 0 := by
  first | assumption | omega | grind
set_option maxHeartbeats 4000000 in
theorem vc_Mo_writeGroup_at_l2_16_1 (x2 : Int) (x4 : Int) (x5 : Int) (x6 : Int) (x12 : Int) (x14 : Int) (x24 : Int) (x26 : Int) (all_0 : Int → Int) (r_0 : Int) (texts_0 : Int) (gx : Int) (k2 : 0 ≤ x2 ∧ x2 ≤ 99712161) (k4 : 2 ≤ x4 ∧ x4 ≤ 6) (k5 : 3 ≤ x5 ∧ x5 ≤ 7) (k6 : 4 ≤ x6 ∧ x6 ≤ 8) (k12 : 2 ≤ x12 ∧ x12 ≤ 6) (k14 : 0 ≤ x14 ∧ x14 ≤ 99999994) (k24 : 0 ≤ x24 ∧ x24 ≤ 99999992) (k26 : 0 ≤ x26 ∧ x26 ≤ 99999997) (d0 : x4 + 0 ≤ x12 ∧ x12 ≤ x4 + 0) (d1 : x6 + (-4294967296) ≤ x5 ∧ x5 ≤ x6 + (-1)) (d2 : x5 + (-4294967296) ≤ x4 ∧ x4 ≤ x5 + (-1)) (f0 : 1 * x26 + ((-1) * x2 + ((-57395) * x5 + (57395 * x4 + 0))) ≤ (-56517)) (f1 : 1 * x24 + ((-1) * x2 + ((-57395) * x5 + (57395 * x4 + 0))) ≤ (-56525)) (f2 : 1 * x14 + ((-1) * x2 + ((-57395) * x5 + (57395 * x4 + 0))) ≤ (-56531)) (f3 : 1 * x6 + ((-1) * all_0 (r_0 + 2) + 0) ≤ 0) (f4 : (-1) * x6 + (1 * all_0 (r_0 + 2) + 0) ≤ 0) (f6 : 1 * texts_0 + ((-1) * x26 + 0) ≤ 3) (f8 : 1 * x26 + ((-1) * x2 + ((-57395) * x5 + (57395 * x4 + 0))) ≤ (-56517)) (f9 : 1 * x24 + ((-1) * x2 + ((-57395) * x5 + (57395 * x4 + 0))) ≤ (-56525)) (f10 : 1 * x14 + ((-1) * x2 + ((-57395) * x5 + (57395 * x4 + 0))) ≤ (-56531)) (f12 : 1 * x24 + ((-1) * x2 + ((-57395) * x5 + (57395 * x4 + 0))) ≤ (-56525)) (f13 : 1 * x14 + ((-1) * x2 + ((-57395) * x5 + (57395 * x4 + 0))) ≤ (-56531)) (f15 : 1 * x14 + ((-1) * x2 + ((-57395) * x5 + (57395 * x4 + 0))) ≤ (-56531)) (f16 : x12 = x4) (f17 : x5 < x6) (kz_0_170 : 0 ≤ texts_0 ∧ texts_0 ≤ 100000000) (ex2 : gx = texts_0) (ex3 : 0 ≤ gx ∧ gx ≤ 99942624) : 1 * gx + ((-1) * x2 + ((-57395) * x5 + (57395 * x4 + 0))) ≤ (-56514) := by
  first | assumption | omega | grind
def o_Mo_writeGroup_at_l2_16 : or_T := (161, 27, [(0, (2, 0, 0, [165])), (2, (0, 0, 99712161, [])), (3, (2, 0, 0, [165])), (4, (0, 2, 6, [])), (5, (0, 3, 7, [])), (6, (0, 4, 8, [])), (12, (0, 2, 6, [])), (14, (0, 0, 99999994, [])), (24, (0, 0, 99999992, [])), (26, (0, 0, 99999997, []))], [(23, [26, 2, 5, 4], [-56517, 1, -1, -57395, 57395]), (23, [24, 2, 5, 4], [-56525, 1, -1, -57395, 57395]), (23, [14, 2, 5, 4], [-56531, 1, -1, -57395, 57395]), (20, [6, 3], [30, 0, 1, 0, 0, -1, 3, 2005002]), (20, [6, 3], [30, 0, -1, 0, 0, 1, 3, 2005002]), (24, [0, 3], []), (20, [3, 26], [30, 3, 1, 1, 170, -1, 0, 0]), (102, [26], [7770675568902916283677847627294075626569627356208558085007249638955617140820833992704, 165170]), (23, [26, 2, 5, 4], [-56517, 1, -1, -57395, 57395]), (23, [24, 2, 5, 4], [-56525, 1, -1, -57395, 57395]), (23, [14, 2, 5, 4], [-56531, 1, -1, -57395, 57395]), (102, [24], [7770675568902916283677847627294075626569627356208558085007249638955617140820833992704, 165170]), (23, [24, 2, 5, 4], [-56525, 1, -1, -57395, 57395]), (23, [14, 2, 5, 4], [-56531, 1, -1, -57395, 57395]), (102, [14], [7770675568902916283677847627294075626569627356208558085007249638955617140820833992704, 165170]), (23, [14, 2, 5, 4], [-56531, 1, -1, -57395, 57395]), (7, [12, 4], [0]), (7, [5, 6], [2])], [], [(0, 0, 99942624, [])], [(20, [3, 27], [30, 0, 1, 1, 170, -1, 0, 0]), (23, [27, 2, 5, 4], [-56514, 1, -1, -57395, 57395])], [], [(12, 4, 0, 0), (5, 6, -4294967296, -1), (4, 5, -4294967296, -1)])
theorem oo_Mo_writeGroup_at_l2_16 {kA : Nat → ClassId} : or_ok PRD kA GG o_Mo_writeGroup_at_l2_16 := by
  refine or_mk fun A ta ws vs hD hth hl => ?_
  intro t0 r0 t2 k2 t3 r3 t4 k4 t5 k5 t6 k6 t12 k12 t14 k14 t24 k24 t26 k26 d0 d1 d2 f0 f1 f2 f3 f4 f5 f6 ta1 w1 le1 s1 f8 f9 f10 ta2 w2 le2 s2 f12 f13 ta3 w3 le3 s3 f15 f16 f17
  replace f0 := shm_2060 f0
  replace f1 := shm_2059 f1
  replace f2 := shm_2058 f2
  replace f3 := shm_123 f3
  replace f4 := shm_124 f4
  replace f5 := shm_5 f5
  replace f6 := shm_212 f6
  replace f8 := shm_2060 f8
  replace f9 := shm_2059 f9
  replace f10 := shm_2058 f10
  replace f12 := shm_2059 f12
  replace f13 := shm_2058 f13
  replace f15 := shm_2058 f15
  replace f16 := shm_37 f16
  replace f17 := shm_6 f17
  have q3 : n_v vs 3 = n_v vs 0 := f5.symm
  simp only [q3] at f3 f4 f6
  have cr_0_2 := fdq_10 hD hth r0
  have kz_0_170 := fdq_11 hD hth r0
  have kv0 := fdq_11 hD hth r0
  obtain ⟨x, ex, hx⟩ := iv_ex (ta := ta) (lo := 0) (hi := 99942624) (z := w_fi ws (n_v vs 0) 170) (by omega) (by omega) (by omega) (by omega)
  have ex2 : v_iv (Value.int x) = w_fi ws (n_v vs 0) 170 := ex
  have ex3 : 0 ≤ v_iv (Value.int x) ∧ v_iv (Value.int x) ≤ 99942624 := tv_rng hx
  have e_2 : n_v (vs ++ [Value.int x]) 2 = n_v vs 2 := n_v_old (by rw [hl]; decide)
  have e_3 : n_v (vs ++ [Value.int x]) 3 = n_v vs 3 := n_v_old (by rw [hl]; decide)
  have e_4 : n_v (vs ++ [Value.int x]) 4 = n_v vs 4 := n_v_old (by rw [hl]; decide)
  have e_5 : n_v (vs ++ [Value.int x]) 5 = n_v vs 5 := n_v_old (by rw [hl]; decide)
  have e_27 : n_v (vs ++ [Value.int x]) 27 = Value.int x := n_v_new hl
  have nf0 : fc_1 PRD (20, [3, 27], [30, 0, 1, 1, 170, -1, 0, 0]) ws (vs ++ [Value.int x]) := by
    refine ⟨nf_inA hl rfl, sgq_131 ?_⟩
    · show 1 * w_fi ws (n_v (vs ++ [Value.int x]) 3) 170 + ((-1) * v_iv (n_v (vs ++ [Value.int x]) 27) + 0) ≤ 0
      simp only [e_3, e_27, q3]
      exact vc_Mo_writeGroup_at_l2_16_0 (v_iv (n_v vs 2)) (v_iv (n_v vs 4)) (v_iv (n_v vs 5)) (v_iv (n_v vs 6)) (v_iv (n_v vs 12)) (v_iv (n_v vs 14)) (v_iv (n_v vs 24)) (v_iv (n_v vs 26)) (w_ei ws (w_ar ws (n_v vs 0) 2)) (w_fi ws (n_v vs 0) 5) (w_fi ws (n_v vs 0) 170) (v_iv (Value.int x)) k2 k4 k5 k6 k12 k14 k24 k26 d0 d1 d2 f0 f1 f2 f3 f4 f6 f8 f9 f10 f12 f13 f15 f16 f17 kz_0_170 ex2 ex3
  have nf1 : fc_1 PRD (23, [27, 2, 5, 4], [-56514, 1, -1, -57395, 57395]) ws (vs ++ [Value.int x]) := by
    refine ⟨nf_inA hl rfl, sgq_2061 ?_⟩
    · show 1 * v_iv (n_v (vs ++ [Value.int x]) 27) + ((-1) * v_iv (n_v (vs ++ [Value.int x]) 2) + ((-57395) * v_iv (n_v (vs ++ [Value.int x]) 5) + (57395 * v_iv (n_v (vs ++ [Value.int x]) 4) + 0))) ≤ (-56514)
      simp only [e_2, e_4, e_5, e_27]
      exact vc_Mo_writeGroup_at_l2_16_1 (v_iv (n_v vs 2)) (v_iv (n_v vs 4)) (v_iv (n_v vs 5)) (v_iv (n_v vs 6)) (v_iv (n_v vs 12)) (v_iv (n_v vs 14)) (v_iv (n_v vs 24)) (v_iv (n_v vs 26)) (w_ei ws (w_ar ws (n_v vs 0) 2)) (w_fi ws (n_v vs 0) 5) (w_fi ws (n_v vs 0) 170) (v_iv (Value.int x)) k2 k4 k5 k6 k12 k14 k24 k26 d0 d1 d2 f0 f1 f2 f3 f4 f6 f8 f9 f10 f12 f13 f15 f16 f17 kz_0_170 ex2 ex3
  exact ⟨(fun _ h => (by cases h)), [Value.int x], ag_one hx, List.forall_mem_cons.mpr ⟨⟨show (20 : Nat) < 100 from by decide, nf0⟩, List.forall_mem_cons.mpr ⟨⟨show (23 : Nat) < 100 from by decide, nf1⟩, (fun _ h => (by cases h))⟩⟩, (fun _ h => (by cases h))⟩
set_option maxHeartbeats 4000000 in
theorem vc_Mo_writeGroup_at_l2_17_0 (x2 : Int) (x4 : Int) (x5 : Int) (x6 : Int) (x12 : Int) (x14 : Int) (x24 : Int) (x26 : Int) (x27 : Int) (all_0 : Int → Int) (r_0 : Int) (texts_0 : Int) (gx : Int) (k2 : 0 ≤ x2 ∧ x2 ≤ 99712161) (k4 : 2 ≤ x4 ∧ x4 ≤ 6) (k5 : 3 ≤ x5 ∧ x5 ≤ 7) (k6 : 4 ≤ x6 ∧ x6 ≤ 8) (k12 : 2 ≤ x12 ∧ x12 ≤ 6) (k14 : 0 ≤ x14 ∧ x14 ≤ 99999994) (k24 : 0 ≤ x24 ∧ x24 ≤ 99999992) (k26 : 0 ≤ x26 ∧ x26 ≤ 99999997) (k27 : 0 ≤ x27 ∧ x27 ≤ 99942624) (d0 : x4 + 0 ≤ x12 ∧ x12 ≤ x4 + 0) (d1 : x6 + (-4294967296) ≤ x5 ∧ x5 ≤ x6 + (-1)) (d2 : x5 + (-4294967296) ≤ x4 ∧ x4 ≤ x5 + (-1)) (f0 : 1 * x27 + ((-1) * x2 + ((-57395) * x5 + (57395 * x4 + 0))) ≤ (-56514)) (f1 : 1 * x26 + ((-1) * x2 + ((-57395) * x5 + (57395 * x4 + 0))) ≤ (-56517)) (f2 : 1 * x24 + ((-1) * x2 + ((-57395) * x5 + (57395 * x4 + 0))) ≤ (-56525)) (f3 : 1 * x14 + ((-1) * x2 + ((-57395) * x5 + (57395 * x4 + 0))) ≤ (-56531)) (f4 : 1 * x6 + ((-1) * all_0 (r_0 + 2) + 0) ≤ 0) (f5 : (-1) * x6 + (1 * all_0 (r_0 + 2) + 0) ≤ 0) (f7 : 1 * texts_0 + ((-1) * x27 + 0) ≤ 57376) (f9 : 1 * x27 + ((-1) * x2 + ((-57395) * x5 + (57395 * x4 + 0))) ≤ (-56514)) (f10 : 1 * x26 + ((-1) * x2 + ((-57395) * x5 + (57395 * x4 + 0))) ≤ (-56517)) (f11 : 1 * x24 + ((-1) * x2 + ((-57395) * x5 + (57395 * x4 + 0))) ≤ (-56525)) (f12 : 1 * x14 + ((-1) * x2 + ((-57395) * x5 + (57395 * x4 + 0))) ≤ (-56531)) (f14 : 1 * x26 + ((-1) * x2 + ((-57395) * x5 + (57395 * x4 + 0))) ≤ (-56517)) (f15 : 1 * x24 + ((-1) * x2 + ((-57395) * x5 + (57395 * x4 + 0))) ≤ (-56525)) (f16 : 1 * x14 + ((-1) * x2 + ((-57395) * x5 + (57395 * x4 + 0))) ≤ (-56531)) (f18 : 1 * x24 + ((-1) * x2 + ((-57395) * x5 + (57395 * x4 + 0))) ≤ (-56525)) (f19 : 1 * x14 + ((-1) * x2 + ((-57395) * x5 + (57395 * x4 + 0))) ≤ (-56531)) (f21 : 1 * x14 + ((-1) * x2 + ((-57395) * x5 + (57395 * x4 + 0))) ≤ (-56531)) (f22 : x12 = x4) (f23 : x5 < x6) (kz_0_170 : 0 ≤ texts_0 ∧ texts_0 ≤ 100000000) (ex2 : gx = texts_0) (ex3 : 0 ≤ gx ∧ gx ≤ 99999998) : 1 * texts_0 + ((-1) * gx + 0) ≤ 0 := by
  first | assumption | omega | grind
set_option maxHeartbeats 4000000 in
theorem vc_Mo_writeGroup_at_l2_17_1 (x2 : Int) (x4 : Int) (x5 : Int) (x6 : Int) (x12 : Int) (x14 : Int) (x24 : Int) (x26 : Int) (x27 : Int) (all_0 : Int → Int) (r_0 : Int) (texts_0 : Int) (gx : Int) (k2 : 0 ≤ x2 ∧ x2 ≤ 99712161) (k4 : 2 ≤ x4 ∧ x4 ≤ 6) (k5 : 3 ≤ x5 ∧ x5 ≤ 7) (k6 : 4 ≤ x6 ∧ x6 ≤ 8) (k12 : 2 ≤ x12 ∧ x12 ≤ 6) (k14 : 0 ≤ x14 ∧ x14 ≤ 99999994) (k24 : 0 ≤ x24 ∧ x24 ≤ 99999992) (k26 : 0 ≤ x26 ∧ x26 ≤ 99999997) (k27 : 0 ≤ x27 ∧ x27 ≤ 99942624) (d0 : x4 + 0 ≤ x12 ∧ x12 ≤ x4 + 0) (d1 : x6 + (-4294967296) ≤ x5 ∧ x5 ≤ x6 + (-1)) (d2 : x5 + (-4294967296) ≤ x4 ∧ x4 ≤ x5 + (-1)) (f0 : 1 * x27 + ((-1) * x2 + ((-57395) * x5 + (57395 * x4 + 0))) ≤ (-56514)) (f1 : 1 * x26 + ((-1) * x2 + ((-57395) * x5 + (57395 * x4 + 0))) ≤ (-56517)) (f2 : 1 * x24 + ((-1) * x2 + ((-57395) * x5 + (57395 * x4 + 0))) ≤ (-56525)) (f3 : 1 * x14 + ((-1) * x2 + ((-57395) * x5 + (57395 * x4 + 0))) ≤ (-56531)) (f4 : 1 * x6 + ((-1) * all_0 (r_0 + 2) + 0) ≤ 0) (f5 : (-1) * x6 + (1 * all_0 (r_0 + 2) + 0) ≤ 0) (f7 : 1 * texts_0 + ((-1) * x27 + 0) ≤ 57376) (f9 : 1 * x27 + ((-1) * x2 + ((-57395) * x5 + (57395 * x4 + 0))) ≤ (-56514)) (f10 : 1 * x26 + ((-1) * x2 + ((-57395) * x5 + (57395 * x4 + 0))) ≤ (-56517)) (f11 : 1 * x24 + ((-1) * x2 + ((-57395) * x5 + (57395 * x4 + 0))) ≤ (-56525)) (f12 : 1 * x14 + ((-1) * x2 + ((-57395) * x5 + (57395 * x4 + 0))) ≤ (-56531)) (f14 : 1 * x26 + ((-1) * x2 + ((-57395) * x5 + (57395 * x4 + 0))) ≤ (-56517)) (f15 : 1 * x24 + ((-1) * x2 + ((-57395) * x5 + (57395 * x4 + 0))) ≤ (-56525)) (f16 : 1 * x14 + ((-1) * x2 + ((-57395) * x5 + (57395 * x4 + 0))) ≤ (-56531)) (f18 : 1 * x24 + ((-1) * x2 + ((-57395) * x5 + (57395 * x4 + 0))) ≤ (-56525)) (f19 : 1 * x14 + ((-1) * x2 + ((-57395) * x5 + (57395 * x4 + 0))) ≤ (-56531)) (f21 : 1 * x14 + ((-1) * x2 + ((-57395) * x5 + (57395 * x4 + 0))) ≤ (-56531)) (f22 : x12 = x4) (f23 : x5 < x6) (kz_0_170 : 0 ≤ texts_0 ∧ texts_0 ≤ 100000000) (ex2 : gx = texts_0) (ex3 : 0 ≤ gx ∧ gx ≤ 99999998) : 1 * gx + ((-1) * x2 + ((-57395) * x5 + (57395 * x4 + 0))) ≤ 862 := by
  first | assumption | omega | grind
def o_Mo_writeGroup_at_l2_17 : or_T := (168, 29, [(0, (2, 0, 0, [165])), (2, (0, 0, 99712161, [])), (3, (2, 0, 0, [165])), (4, (0, 2, 6, [])), (5, (0, 3, 7, [])), (6, (0, 4, 8, [])), (12, (0, 2, 6, [])), (14, (0, 0, 99999994, [])), (24, (0, 0, 99999992, [])), (26, (0, 0, 99999997, [])), (27, (0, 0, 99942624, []))], [(23, [27, 2, 5, 4], [-56514, 1, -1, -57395, 57395]), (23, [26, 2, 5, 4], [-56517, 1, -1, -57395, 57395]), (23, [24, 2, 5, 4], [-56525, 1, -1, -57395, 57395]), (23, [14, 2, 5, 4], [-56531, 1, -1, -57395, 57395]), (20, [6, 3], [30, 0, 1, 0, 0, -1, 3, 2005002]), (20, [6, 3], [30, 0, -1, 0, 0, 1, 3, 2005002]), (24, [0, 3], []), (20, [3, 27], [30, 57376, 1, 1, 170, -1, 0, 0]), (102, [27], [7770675568902916283677847627294075626569627356208558085007249638955617140820833992704, 165170]), (23, [27, 2, 5, 4], [-56514, 1, -1, -57395, 57395]), (23, [26, 2, 5, 4], [-56517, 1, -1, -57395, 57395]), (23, [24, 2, 5, 4], [-56525, 1, -1, -57395, 57395]), (23, [14, 2, 5, 4], [-56531, 1, -1, -57395, 57395]), (102, [26], [7770675568902916283677847627294075626569627356208558085007249638955617140820833992704, 165170]), (23, [26, 2, 5, 4], [-56517, 1, -1, -57395, 57395]), (23, [24, 2, 5, 4], [-56525, 1, -1, -57395, 57395]), (23, [14, 2, 5, 4], [-56531, 1, -1, -57395, 57395]), (102, [24], [7770675568902916283677847627294075626569627356208558085007249638955617140820833992704, 165170]), (23, [24, 2, 5, 4], [-56525, 1, -1, -57395, 57395]), (23, [14, 2, 5, 4], [-56531, 1, -1, -57395, 57395]), (102, [14], [7770675568902916283677847627294075626569627356208558085007249638955617140820833992704, 165170]), (23, [14, 2, 5, 4], [-56531, 1, -1, -57395, 57395]), (7, [12, 4], [0]), (7, [5, 6], [2])], [], [(0, 0, 99999998, [])], [(20, [3, 29], [30, 0, 1, 1, 170, -1, 0, 0]), (23, [29, 2, 5, 4], [862, 1, -1, -57395, 57395])], [], [(12, 4, 0, 0), (5, 6, -4294967296, -1), (4, 5, -4294967296, -1)])
theorem oo_Mo_writeGroup_at_l2_17 {kA : Nat → ClassId} : or_ok PRD kA GG o_Mo_writeGroup_at_l2_17 := by
  refine or_mk fun A ta ws vs hD hth hl => ?_
  intro t0 r0 t2 k2 t3 r3 t4 k4 t5 k5 t6 k6 t12 k12 t14 k14 t24 k24 t26 k26 t27 k27 d0 d1 d2 f0 f1 f2 f3 f4 f5 f6 f7 ta1 w1 le1 s1 f9 f10 f11 f12 ta2 w2 le2 s2 f14 f15 f16 ta3 w3 le3 s3 f18 f19 ta4 w4 le4 s4 f21 f22 f23
  replace f0 := shm_2061 f0
  replace f1 := shm_2060 f1
  replace f2 := shm_2059 f2
  replace f3 := shm_2058 f3
  replace f4 := shm_123 f4
  replace f5 := shm_124 f5
  replace f6 := shm_5 f6
  replace f7 := shm_2062 f7
  replace f9 := shm_2061 f9
  replace f10 := shm_2060 f10
  replace f11 := shm_2059 f11
  replace f12 := shm_2058 f12
  replace f14 := shm_2060 f14
  replace f15 := shm_2059 f15
  replace f16 := shm_2058 f16
  replace f18 := shm_2059 f18
  replace f19 := shm_2058 f19
  replace f21 := shm_2058 f21
  replace f22 := shm_37 f22
  replace f23 := shm_6 f23
  have q3 : n_v vs 3 = n_v vs 0 := f6.symm
  simp only [q3] at f4 f5 f7
  have cr_0_2 := fdq_10 hD hth r0
  have kz_0_170 := fdq_11 hD hth r0
  have kv0 := fdq_11 hD hth r0
  obtain ⟨x, ex, hx⟩ := iv_ex (ta := ta) (lo := 0) (hi := 99999998) (z := w_fi ws (n_v vs 0) 170) (by omega) (by omega) (by omega) (by omega)
  have ex2 : v_iv (Value.int x) = w_fi ws (n_v vs 0) 170 := ex
  have ex3 : 0 ≤ v_iv (Value.int x) ∧ v_iv (Value.int x) ≤ 99999998 := tv_rng hx
  have e_2 : n_v (vs ++ [Value.int x]) 2 = n_v vs 2 := n_v_old (by rw [hl]; decide)
  have e_3 : n_v (vs ++ [Value.int x]) 3 = n_v vs 3 := n_v_old (by rw [hl]; decide)
  have e_4 : n_v (vs ++ [Value.int x]) 4 = n_v vs 4 := n_v_old (by rw [hl]; decide)
  have e_5 : n_v (vs ++ [Value.int x]) 5 = n_v vs 5 := n_v_old (by rw [hl]; decide)
  have e_29 : n_v (vs ++ [Value.int x]) 29 = Value.int x := n_v_new hl
  have nf0 : fc_1 PRD (20, [3, 29], [30, 0, 1, 1, 170, -1, 0, 0]) ws (vs ++ [Value.int x]) := by
    refine ⟨nf_inA hl rfl, sgq_131 ?_⟩
    · show 1 * w_fi ws (n_v (vs ++ [Value.int x]) 3) 170 + ((-1) * v_iv (n_v (vs ++ [Value.int x]) 29) + 0) ≤ 0
      simp only [e_3, e_29, q3]
      exact vc_Mo_writeGroup_at_l2_17_0 (v_iv (n_v vs 2)) (v_iv (n_v vs 4)) (v_iv (n_v vs 5)) (v_iv (n_v vs 6)) (v_iv (n_v vs 12)) (v_iv (n_v vs 14)) (v_iv (n_v vs 24)) (v_iv (n_v vs 26)) (v_iv (n_v vs 27)) (w_ei ws (w_ar ws (n_v vs 0) 2)) (w_fi ws (n_v vs 0) 5) (w_fi ws (n_v vs 0) 170) (v_iv (Value.int x)) k2 k4 k5 k6 k12 k14 k24 k26 k27 d0 d1 d2 f0 f1 f2 f3 f4 f5 f7 f9 f10 f11 f12 f14 f15 f16 f18 f19 f21 f22 f23 kz_0_170 ex2 ex3
  have nf1 : fc_1 PRD (23, [29, 2, 5, 4], [862, 1, -1, -57395, 57395]) ws (vs ++ [Value.int x]) := by
    refine ⟨nf_inA hl rfl, sgq_2063 ?_⟩
    · show 1 * v_iv (n_v (vs ++ [Value.int x]) 29) + ((-1) * v_iv (n_v (vs ++ [Value.int x]) 2) + ((-57395) * v_iv (n_v (vs ++ [Value.int x]) 5) + (57395 * v_iv (n_v (vs ++ [Value.int x]) 4) + 0))) ≤ 862
      simp only [e_2, e_4, e_5, e_29]
      exact vc_Mo_writeGroup_at_l2_17_1 (v_iv (n_v vs 2)) (v_iv (n_v vs 4)) (v_iv (n_v vs 5)) (v_iv (n_v vs 6)) (v_iv (n_v vs 12)) (v_iv (n_v vs 14)) (v_iv (n_v vs 24)) (v_iv (n_v vs 26)) (v_iv (n_v vs 27)) (w_ei ws (w_ar ws (n_v vs 0) 2)) (w_fi ws (n_v vs 0) 5) (w_fi ws (n_v vs 0) 170) (v_iv (Value.int x)) k2 k4 k5 k6 k12 k14 k24 k26 k27 d0 d1 d2 f0 f1 f2 f3 f4 f5 f7 f9 f10 f11 f12 f14 f15 f16 f18 f19 f21 f22 f23 kz_0_170 ex2 ex3
  exact ⟨(fun _ h => (by cases h)), [Value.int x], ag_one hx, List.forall_mem_cons.mpr ⟨⟨show (20 : Nat) < 100 from by decide, nf0⟩, List.forall_mem_cons.mpr ⟨⟨show (23 : Nat) < 100 from by decide, nf1⟩, (fun _ h => (by cases h))⟩⟩, (fun _ h => (by cases h))⟩
set_option maxHeartbeats 4000000 in
theorem vc_Mo_writeGroup_at_l2_18_0 (x2 : Int) (x4 : Int) (x5 : Int) (x6 : Int) (x12 : Int) (x14 : Int) (x24 : Int) (x26 : Int) (x27 : Int) (x29 : Int) (x30 : Int) (all_0 : Int → Int) (r_0 : Int) (texts_0 : Int) (k2 : 0 ≤ x2 ∧ x2 ≤ 99712161) (k4 : 2 ≤ x4 ∧ x4 ≤ 6) (k5 : 3 ≤ x5 ∧ x5 ≤ 7) (k6 : 4 ≤ x6 ∧ x6 ≤ 8) (k12 : 2 ≤ x12 ∧ x12 ≤ 6) (k14 : 0 ≤ x14 ∧ x14 ≤ 99999994) (k24 : 0 ≤ x24 ∧ x24 ≤ 99999992) (k26 : 0 ≤ x26 ∧ x26 ≤ 99999997) (k27 : 0 ≤ x27 ∧ x27 ≤ 99942624) (k29 : 0 ≤ x29 ∧ x29 ≤ 99999998) (k30 : 4 ≤ x30 ∧ x30 ≤ 8) (d0 : x5 + 1 ≤ x30 ∧ x30 ≤ x5 + 1) (d1 : x6 + (-4294967296) ≤ x30 ∧ x30 ≤ x6 + 0) (d2 : x4 + 0 ≤ x12 ∧ x12 ≤ x4 + 0) (d3 : x6 + (-4294967296) ≤ x5 ∧ x5 ≤ x6 + (-1)) (d4 : x5 + (-4294967296) ≤ x4 ∧ x4 ≤ x5 + (-1)) (f0 : x30 = x5 + 1) (f1 : 1 * x29 + ((-1) * x2 + ((-57395) * x5 + (57395 * x4 + 0))) ≤ 862) (f2 : 1 * x27 + ((-1) * x2 + ((-57395) * x5 + (57395 * x4 + 0))) ≤ (-56514)) (f3 : 1 * x26 + ((-1) * x2 + ((-57395) * x5 + (57395 * x4 + 0))) ≤ (-56517)) (f4 : 1 * x24 + ((-1) * x2 + ((-57395) * x5 + (57395 * x4 + 0))) ≤ (-56525)) (f5 : 1 * x14 + ((-1) * x2 + ((-57395) * x5 + (57395 * x4 + 0))) ≤ (-56531)) (f6 : 1 * x6 + ((-1) * all_0 (r_0 + 2) + 0) ≤ 0) (f7 : (-1) * x6 + (1 * all_0 (r_0 + 2) + 0) ≤ 0) (f9 : 1 * texts_0 + ((-1) * x29 + 0) ≤ 2) (f11 : 1 * x29 + ((-1) * x2 + ((-57395) * x5 + (57395 * x4 + 0))) ≤ 862) (f12 : 1 * x27 + ((-1) * x2 + ((-57395) * x5 + (57395 * x4 + 0))) ≤ (-56514)) (f13 : 1 * x26 + ((-1) * x2 + ((-57395) * x5 + (57395 * x4 + 0))) ≤ (-56517)) (f14 : 1 * x24 + ((-1) * x2 + ((-57395) * x5 + (57395 * x4 + 0))) ≤ (-56525)) (f15 : 1 * x14 + ((-1) * x2 + ((-57395) * x5 + (57395 * x4 + 0))) ≤ (-56531)) (f17 : 1 * x27 + ((-1) * x2 + ((-57395) * x5 + (57395 * x4 + 0))) ≤ (-56514)) (f18 : 1 * x26 + ((-1) * x2 + ((-57395) * x5 + (57395 * x4 + 0))) ≤ (-56517)) (f19 : 1 * x24 + ((-1) * x2 + ((-57395) * x5 + (57395 * x4 + 0))) ≤ (-56525)) (f20 : 1 * x14 + ((-1) * x2 + ((-57395) * x5 + (57395 * x4 + 0))) ≤ (-56531)) (f22 : 1 * x26 + ((-1) * x2 + ((-57395) * x5 + (57395 * x4 + 0))) ≤ (-56517)) (f23 : 1 * x24 + ((-1) * x2 + ((-57395) * x5 + (57395 * x4 + 0))) ≤ (-56525)) (f24 : 1 * x14 + ((-1) * x2 + ((-57395) * x5 + (57395 * x4 + 0))) ≤ (-56531)) (f26 : 1 * x24 + ((-1) * x2 + ((-57395) * x5 + (57395 * x4 + 0))) ≤ (-56525)) (f27 : 1 * x14 + ((-1) * x2 + ((-57395) * x5 + (57395 * x4 + 0))) ≤ (-56531)) (f29 : 1 * x14 + ((-1) * x2 + ((-57395) * x5 + (57395 * x4 + 0))) ≤ (-56531)) (f30 : x12 = x4) (f31 : x5 < x6) (kz_0_170 : 0 ≤ texts_0 ∧ texts_0 ≤ 100000000) : 1 * texts_0 + ((-1) * x2 + ((-57395) * x30 + (57395 * x4 + 0))) ≤ (-56531) := by
  first | assumption | omega | grind
def o_Mo_writeGroup_at_l2_18 : or_T := (83, 31, [(0, (2, 0, 0, [165])), (2, (0, 0, 99712161, [])), (4, (0, 2, 6, [])), (5, (0, 3, 7, [])), (6, (0, 4, 8, [])), (12, (0, 2, 6, [])), (14, (0, 0, 99999994, [])), (24, (0, 0, 99999992, [])), (26, (0, 0, 99999997, [])), (27, (0, 0, 99942624, [])), (29, (0, 0, 99999998, [])), (30, (0, 4, 8, []))], [(6, [30, 5], [1]), (23, [29, 2, 5, 4], [862, 1, -1, -57395, 57395]), (23, [27, 2, 5, 4], [-56514, 1, -1, -57395, 57395]), (23, [26, 2, 5, 4], [-56517, 1, -1, -57395, 57395]), (23, [24, 2, 5, 4], [-56525, 1, -1, -57395, 57395]), (23, [14, 2, 5, 4], [-56531, 1, -1, -57395, 57395]), (20, [6, 3], [30, 0, 1, 0, 0, -1, 3, 2005002]), (20, [6, 3], [30, 0, -1, 0, 0, 1, 3, 2005002]), (24, [0, 3], []), (20, [3, 29], [30, 2, 1, 1, 170, -1, 0, 0]), (102, [29], [7770675568902916283677847627294075626569627356208558085007249638955617140820833992704, 165170]), (23, [29, 2, 5, 4], [862, 1, -1, -57395, 57395]), (23, [27, 2, 5, 4], [-56514, 1, -1, -57395, 57395]), (23, [26, 2, 5, 4], [-56517, 1, -1, -57395, 57395]), (23, [24, 2, 5, 4], [-56525, 1, -1, -57395, 57395]), (23, [14, 2, 5, 4], [-56531, 1, -1, -57395, 57395]), (102, [27], [7770675568902916283677847627294075626569627356208558085007249638955617140820833992704, 165170]), (23, [27, 2, 5, 4], [-56514, 1, -1, -57395, 57395]), (23, [26, 2, 5, 4], [-56517, 1, -1, -57395, 57395]), (23, [24, 2, 5, 4], [-56525, 1, -1, -57395, 57395]), (23, [14, 2, 5, 4], [-56531, 1, -1, -57395, 57395]), (102, [26], [7770675568902916283677847627294075626569627356208558085007249638955617140820833992704, 165170]), (23, [26, 2, 5, 4], [-56517, 1, -1, -57395, 57395]), (23, [24, 2, 5, 4], [-56525, 1, -1, -57395, 57395]), (23, [14, 2, 5, 4], [-56531, 1, -1, -57395, 57395]), (102, [24], [7770675568902916283677847627294075626569627356208558085007249638955617140820833992704, 165170]), (23, [24, 2, 5, 4], [-56525, 1, -1, -57395, 57395]), (23, [14, 2, 5, 4], [-56531, 1, -1, -57395, 57395]), (102, [14], [7770675568902916283677847627294075626569627356208558085007249638955617140820833992704, 165170]), (23, [14, 2, 5, 4], [-56531, 1, -1, -57395, 57395]), (7, [12, 4], [0]), (7, [5, 6], [2])], [], [], [(20, [3, 2, 30, 4], [30, -56531, 1, 1, 170, -1, 0, 0, -57395, 0, 0, 57395, 0, 0])], [], [(30, 5, 1, 1), (30, 6, -4294967296, 0), (12, 4, 0, 0), (5, 6, -4294967296, -1), (4, 5, -4294967296, -1)])
theorem oo_Mo_writeGroup_at_l2_18 {kA : Nat → ClassId} : or_ok PRD kA GG o_Mo_writeGroup_at_l2_18 := by
  refine or_mk fun A ta ws vs hD hth hl => ?_
  intro t0 r0 t2 k2 t4 k4 t5 k5 t6 k6 t12 k12 t14 k14 t24 k24 t26 k26 t27 k27 t29 k29 t30 k30 d0 d1 d2 d3 d4 f0 f1 f2 f3 f4 f5 f6 f7 f8 f9 ta1 w1 le1 s1 f11 f12 f13 f14 f15 ta2 w2 le2 s2 f17 f18 f19 f20 ta3 w3 le3 s3 f22 f23 f24 ta4 w4 le4 s4 f26 f27 ta5 w5 le5 s5 f29 f30 f31
  replace f0 := shm_4 f0
  replace f1 := shm_2063 f1
  replace f2 := shm_2061 f2
  replace f3 := shm_2060 f3
  replace f4 := shm_2059 f4
  replace f5 := shm_2058 f5
  replace f6 := shm_123 f6
  replace f7 := shm_124 f7
  replace f8 := shm_5 f8
  replace f9 := shm_210 f9
  replace f11 := shm_2063 f11
  replace f12 := shm_2061 f12
  replace f13 := shm_2060 f13
  replace f14 := shm_2059 f14
  replace f15 := shm_2058 f15
  replace f17 := shm_2061 f17
  replace f18 := shm_2060 f18
  replace f19 := shm_2059 f19
  replace f20 := shm_2058 f20
  replace f22 := shm_2060 f22
  replace f23 := shm_2059 f23
  replace f24 := shm_2058 f24
  replace f26 := shm_2059 f26
  replace f27 := shm_2058 f27
  replace f29 := shm_2058 f29
  replace f30 := shm_37 f30
  replace f31 := shm_6 f31
  have q3 : n_v vs 3 = n_v vs 0 := f8.symm
  simp only [q3] at f6 f7 f9
  have kz_0_170 := fdq_11 hD hth r0
  have nf0 : fc_1 PRD (20, [3, 2, 30, 4], [30, -56531, 1, 1, 170, -1, 0, 0, -57395, 0, 0, 57395, 0, 0]) ws (vs) := by
    refine ⟨nf_in hl rfl, sgq_2057 ?_⟩
    · show 1 * w_fi ws (n_v vs 3) 170 + ((-1) * v_iv (n_v vs 2) + ((-57395) * v_iv (n_v vs 30) + (57395 * v_iv (n_v vs 4) + 0))) ≤ (-56531)
      rw [q3]
      exact vc_Mo_writeGroup_at_l2_18_0 (v_iv (n_v vs 2)) (v_iv (n_v vs 4)) (v_iv (n_v vs 5)) (v_iv (n_v vs 6)) (v_iv (n_v vs 12)) (v_iv (n_v vs 14)) (v_iv (n_v vs 24)) (v_iv (n_v vs 26)) (v_iv (n_v vs 27)) (v_iv (n_v vs 29)) (v_iv (n_v vs 30)) (w_ei ws (w_ar ws (n_v vs 0) 2)) (w_fi ws (n_v vs 0) 5) (w_fi ws (n_v vs 0) 170) k2 k4 k5 k6 k12 k14 k24 k26 k27 k29 k30 d0 d1 d2 d3 d4 f0 f1 f2 f3 f4 f5 f6 f7 f9 f11 f12 f13 f14 f15 f17 f18 f19 f20 f22 f23 f24 f26 f27 f29 f30 f31 kz_0_170
  refine ⟨(fun _ h => (by cases h)), [], trivial, ?_, (fun _ h => (by cases h))⟩
  rw [List.append_nil]
  exact List.forall_mem_cons.mpr ⟨⟨show (20 : Nat) < 100 from by decide, nf0⟩, (fun _ h => (by cases h))⟩
def o_Mo_writeGroup_at_l2_19 : or_T := (83, 14, [(0, (2, 0, 0, [165])), (2, (0, 0, 99712161, [])), (3, (2, 0, 0, [165])), (4, (0, 2, 6, [])), (5, (0, 3, 7, [])), (6, (0, 4, 8, [])), (7, (2, 0, 0, [167])), (8, (0, 0, 66297, [])), (9, (0, 531, 531, [])), (10, (0, 531, 66828, [])), (11, (0, 534, 66835, [])), (12, (0, -1, 6, [])), (13, (0, 4, 8, []))], [(6, [13, 5], [1]), (7, [12, 4], [1]), (10, [12, 7, 11], []), (1, [11, 10, 5], []), (1, [10, 8, 9], []), (9, [8, 3], [5]), (9, [7, 3], [2]), (7, [5, 6], [2]), (20, [6, 3], [30, 0, 1, 0, 0, -1, 3, 2005002]), (20, [6, 3], [30, 0, -1, 0, 0, 1, 3, 2005002]), (20, [3, 2, 5, 4], [30, -56531, 1, 1, 170, -1, 0, 0, -57395, 0, 0, 57395, 0, 0]), (24, [0, 3], [])], [], [], [(20, [3, 2, 13, 4], [30, -56531, 1, 1, 170, -1, 0, 0, -57395, 0, 0, 57395, 0, 0])], [], [(13, 5, 1, 1), (13, 6, -4294967296, 0), (11, 5, 531, 66828), (11, 6, -4294967296, 66827), (11, 10, 3, 7), (11, 8, 534, 538), (10, 8, 531, 531), (5, 6, -4294967296, -1), (4, 5, -4294967296, -1)])
theorem oo_Mo_writeGroup_at_l2_19 {kA : Nat → ClassId} : or_ok PRD kA GG o_Mo_writeGroup_at_l2_19 := by
  refine or_mk fun A ta ws vs hD hth hl => ?_
  intro t0 r0 t2 k2 t3 r3 t4 k4 t5 k5 t6 k6 t7 r7 t8 k8 t9 k9 t10 k10 t11 k11 t12 k12 t13 k13 d0 d1 d2 d3 d4 d5 d6 d7 d8 f0 f1 f2 f3 f4 f5 f6 f7 f8 f9 f10 f11
  replace f0 := shm_4 f0
  replace f1 := shm_40 f1
  replace f2 := shm_107 f2
  replace f3 := shm_12 f3
  replace f4 := shm_12 f4
  replace f5 := shm_110 f5
  replace f6 := shm_120 f6
  replace f7 := shm_6 f7
  replace f8 := shm_123 f8
  replace f9 := shm_124 f9
  replace f10 := shm_2057 f10
  replace f11 := shm_5 f11
  have q3 : n_v vs 3 = n_v vs 0 := f11.symm
  simp only [q3] at f5 f6 f8 f9 f10
  have cr_0_2 := fdq_10 hD hth r0
  have ad_7 : v_ad (n_v vs 7) = w_ar ws (n_v vs 0) 2 := congrArg v_ad f6
  simp only [ad_7] at f2
  have h2 : v_iv (n_v vs 12) = w_ei ws (w_ar ws (n_v vs 0) 2) (v_iv (n_v vs 11)) := f2
  have g5 : v_iv (n_v vs 8) = w_fi ws (n_v vs 0) 5 := congrArg v_iv f5
  have cg2_F5_2 : v_iv (n_v vs 11) = w_fi ws (n_v vs 0) 5 + 2 → w_el ws (w_ar ws (n_v vs 0) 2) (v_iv (n_v vs 11)).toNat = w_el ws (w_ar ws (n_v vs 0) 2) (w_fi ws (n_v vs 0) 5 + 2).toNat := fun h => by rw [h]
  have kz_0_170 := fdq_11 hD hth r0
  have nf0 : fc_1 PRD (20, [3, 2, 13, 4], [30, -56531, 1, 1, 170, -1, 0, 0, -57395, 0, 0, 57395, 0, 0]) ws (vs) := by
    refine ⟨nf_in hl rfl, sgq_2057 ?_⟩
    · show 1 * w_fi ws (n_v vs 3) 170 + ((-1) * v_iv (n_v vs 2) + ((-57395) * v_iv (n_v vs 13) + (57395 * v_iv (n_v vs 4) + 0))) ≤ (-56531)
      rw [q3]
      omega
  refine ⟨(fun _ h => (by cases h)), [], trivial, ?_, (fun _ h => (by cases h))⟩
  rw [List.append_nil]
  exact List.forall_mem_cons.mpr ⟨⟨show (20 : Nat) < 100 from by decide, nf0⟩, (fun _ h => (by cases h))⟩
def n_Mo_writeGroup_at_l2_an : List an_T := [(2, [(0, (2, 0, 0, [165])), (1, (0, 2, 7, [])), (2, (0, 0, 24, []))], [], (0, 0), [(0, 0, 99998), (1, 5, 24), (0, 0, 100000)], [(1, 4, (Int.negSucc 999999999999), 0), (4, 1, (Int.negSucc 999999999999), 0)], [], [(2, 0, 0, [165]), (0, 2, 7, []), (0, 0, 99712161, [])], 0, [], [(20, [3, 2, 5], [30, 0, 1, 1, 170, (Int.negSucc 0), 0, 0, (Int.negSucc 35), 0, 0]), (24, [0, 3], [])]), (83, [(0, (2, 0, 0, [165])), (1, (0, 2, 7, [])), (2, (0, 3, 8, []))], [], (0, 0), [(0, 0, 99917), (1, 5, 8), (0, 0, 100000)], [(1, 4, (Int.negSucc 999999999999), 0), (1, 5, (Int.negSucc 999999999999), (Int.negSucc 0)), (4, 1, (Int.negSucc 999999999999), 0), (4, 5, (Int.negSucc 999999999999), (Int.negSucc 0))], [], [(2, 0, 0, [165]), (0, 2, 7, []), (0, 0, 99712161, [])], 0, [], [(20, [3, 2, 5, 4], [30, (Int.negSucc 56530), 1, 1, 170, (Int.negSucc 0), 0, 0, (Int.negSucc 57394), 0, 0, 57395, 0, 0]), (24, [0, 3], [])])]
def t_Mo_writeGroup_at_l2_ct : ct_L := [(1, 475, e_Mo_nodes), (1, 509, e_Mo_groups), (1, 723, e_Mo_size), (1, 725, e_Mo_groupOf), (1, 1285, e_Mo_writeName), (1, 1293, e_Mo_writeNode), (1, 1298, e_Mo_writeNumber), (82, 1290, e_Mo_write_at_s5013), (145, 1290, e_Mo_write_at_s5014), (193, 1290, e_Mo_write_at_s5045), (214, 1290, e_Mo_write_at_s5015), (355, 1290, e_Mo_write_at_s5016), (472, 1290, e_Mo_write_at_s5017), (487, 1309, e_Mo_writeGroup_at_l3), (508, 1290, e_Mo_write_at_s5018), (1000001, 1288, en_ro [] (2, 0, 0, [5013])), (1000001, 1296, en_ro [] (2, 0, 0, [5014])), (1000001, 1301, en_ro [] (2, 0, 0, [5045])), (1000001, 1303, en_ro [] (2, 0, 0, [5015])), (1000001, 1305, en_ro [] (2, 0, 0, [5016])), (1000001, 1307, en_ro [] (2, 0, 0, [5017])), (1000001, 1312, en_ro [] (2, 0, 0, [5018]))]
set_option maxRecDepth 100000 in
theorem c_Mo_writeGroup_at_l2 {l : Launch} {D : va_G} {kA : Nat → ClassId} (h_Mo_groupOf : ct_ok PRD l D kA GG y_Mo_groupOf z_Mo_groupOf e_Mo_groupOf) (h_Mo_groups : ct_ok PRD l D kA GG y_Mo_groups z_Mo_groups e_Mo_groups) (h_Mo_nodes : ct_ok PRD l D kA GG y_Mo_nodes z_Mo_nodes e_Mo_nodes) (h_Mo_size : ct_ok PRD l D kA GG y_Mo_size z_Mo_size e_Mo_size) (h_Mo_writeGroup_at_l3 : ct_ok PRD l D kA GG y_Mo_writeGroup_at_l3 z_Mo_writeGroup_at_l3 e_Mo_writeGroup_at_l3) (h_Mo_writeName : ct_ok PRD l D kA GG y_Mo_writeName z_Mo_writeName e_Mo_writeName) (h_Mo_writeNode : ct_ok PRD l D kA GG y_Mo_writeNode z_Mo_writeNode e_Mo_writeNode) (h_Mo_writeNumber : ct_ok PRD l D kA GG y_Mo_writeNumber z_Mo_writeNumber e_Mo_writeNumber) (h_Mo_write_at_s5013 : ct_ok PRD l D kA GG y_Mo_write_at_s5013 z_Mo_write_at_s5013 e_Mo_write_at_s5013) (h_Mo_write_at_s5014 : ct_ok PRD l D kA GG y_Mo_write_at_s5014 z_Mo_write_at_s5014 e_Mo_write_at_s5014) (h_Mo_write_at_s5015 : ct_ok PRD l D kA GG y_Mo_write_at_s5015 z_Mo_write_at_s5015 e_Mo_write_at_s5015) (h_Mo_write_at_s5016 : ct_ok PRD l D kA GG y_Mo_write_at_s5016 z_Mo_write_at_s5016 e_Mo_write_at_s5016) (h_Mo_write_at_s5017 : ct_ok PRD l D kA GG y_Mo_write_at_s5017 z_Mo_write_at_s5017 e_Mo_write_at_s5017) (h_Mo_write_at_s5018 : ct_ok PRD l D kA GG y_Mo_write_at_s5018 z_Mo_write_at_s5018 e_Mo_write_at_s5018) (h_Mo_write_at_s5045 : ct_ok PRD l D kA GG y_Mo_write_at_s5045 z_Mo_write_at_s5045 e_Mo_write_at_s5045) : ct_ok PRD l D kA GG y_Mo_writeGroup_at_l2 z_Mo_writeGroup_at_l2 e_Mo_writeGroup_at_l2 := chk_all_ok (FT := [(16, 13, 2), (391, 13, 5)]) (PT := []) (CT := t_Mo_writeGroup_at_l2_ct) (KT := []) (NT := []) (AN := n_Mo_writeGroup_at_l2_an) (OT := [o_Mo_writeGroup_at_l2_0, o_Mo_writeGroup_at_l2_1, o_Mo_writeGroup_at_l2_2, o_Mo_writeGroup_at_l2_3, o_Mo_writeGroup_at_l2_4, o_Mo_writeGroup_at_l2_5, o_Mo_writeGroup_at_l2_6, o_Mo_writeGroup_at_l2_7, o_Mo_writeGroup_at_l2_8, o_Mo_writeGroup_at_l2_9, o_Mo_writeGroup_at_l2_10, o_Mo_writeGroup_at_l2_11, o_Mo_writeGroup_at_l2_12, o_Mo_writeGroup_at_l2_13, o_Mo_writeGroup_at_l2_14, o_Mo_writeGroup_at_l2_15, o_Mo_writeGroup_at_l2_16, o_Mo_writeGroup_at_l2_17, o_Mo_writeGroup_at_l2_18, o_Mo_writeGroup_at_l2_19]) 3 408 (List.forall_mem_cons.mpr ⟨oo_Mo_writeGroup_at_l2_0, List.forall_mem_cons.mpr ⟨oo_Mo_writeGroup_at_l2_1, List.forall_mem_cons.mpr ⟨oo_Mo_writeGroup_at_l2_2, List.forall_mem_cons.mpr ⟨oo_Mo_writeGroup_at_l2_3, List.forall_mem_cons.mpr ⟨oo_Mo_writeGroup_at_l2_4, List.forall_mem_cons.mpr ⟨oo_Mo_writeGroup_at_l2_5, List.forall_mem_cons.mpr ⟨oo_Mo_writeGroup_at_l2_6, List.forall_mem_cons.mpr ⟨oo_Mo_writeGroup_at_l2_7, List.forall_mem_cons.mpr ⟨oo_Mo_writeGroup_at_l2_8, List.forall_mem_cons.mpr ⟨oo_Mo_writeGroup_at_l2_9, List.forall_mem_cons.mpr ⟨oo_Mo_writeGroup_at_l2_10, List.forall_mem_cons.mpr ⟨oo_Mo_writeGroup_at_l2_11, List.forall_mem_cons.mpr ⟨oo_Mo_writeGroup_at_l2_12, List.forall_mem_cons.mpr ⟨oo_Mo_writeGroup_at_l2_13, List.forall_mem_cons.mpr ⟨oo_Mo_writeGroup_at_l2_14, List.forall_mem_cons.mpr ⟨oo_Mo_writeGroup_at_l2_15, List.forall_mem_cons.mpr ⟨oo_Mo_writeGroup_at_l2_16, List.forall_mem_cons.mpr ⟨oo_Mo_writeGroup_at_l2_17, List.forall_mem_cons.mpr ⟨oo_Mo_writeGroup_at_l2_18, List.forall_mem_cons.mpr ⟨oo_Mo_writeGroup_at_l2_19, List.forall_mem_nil _⟩⟩⟩⟩⟩⟩⟩⟩⟩⟩⟩⟩⟩⟩⟩⟩⟩⟩⟩⟩) (by decide +kernel) ⟨List.forall_mem_cons.mpr ⟨gf_Mo_16, List.forall_mem_cons.mpr ⟨gf_Mo_391, List.forall_mem_nil _⟩⟩, List.forall_mem_nil _, List.forall_mem_cons.mpr ⟨cl_virtual (y := y_Mo_nodes) (ci := 13) rfl rfl ⟨_, _, rfl⟩ (by decide +kernel) h_Mo_nodes wm_3025 wm_9 wm_3022 wm_3024 wv_13_3 ⟨by decide, by decide, by decide +kernel⟩ (by decide), List.forall_mem_cons.mpr ⟨cl_virtual (y := y_Mo_groups) (ci := 13) rfl rfl ⟨_, _, rfl⟩ (by decide +kernel) h_Mo_groups wm_3070 wm_9 wm_3067 wm_3069 wv_13_14 ⟨by decide, by decide, by decide +kernel⟩ (by decide), List.forall_mem_cons.mpr ⟨cl_virtual (y := y_Mo_size) (ci := 13) rfl rfl ⟨_, _, rfl⟩ (by decide +kernel) h_Mo_size wm_3307 wm_9 wm_3304 wm_3306 wv_17_0 ⟨by decide, by decide, by decide +kernel⟩ (by decide), List.forall_mem_cons.mpr ⟨cl_virtual (y := y_Mo_groupOf) (ci := 13) rfl rfl ⟨_, _, rfl⟩ (by decide +kernel) h_Mo_groupOf wm_3311 wm_9 wm_3308 wm_3310 wv_17_1 ⟨by decide, by decide, by decide +kernel⟩ (by decide), List.forall_mem_cons.mpr ⟨cl_virtual (y := y_Mo_writeName) (ci := 13) rfl rfl ⟨_, _, rfl⟩ (by decide +kernel) h_Mo_writeName wm_3922 wm_9 wm_3919 wm_3921 wv_24_10 ⟨by decide, by decide, by decide +kernel⟩ (by decide), List.forall_mem_cons.mpr ⟨cl_virtual (y := y_Mo_writeNode) (ci := 13) rfl rfl ⟨_, _, rfl⟩ (by decide +kernel) h_Mo_writeNode wm_3918 wm_9 wm_3915 wm_3917 wv_24_9 ⟨by decide, by decide, by decide +kernel⟩ (by decide), List.forall_mem_cons.mpr ⟨cl_virtual (y := y_Mo_writeNumber) (ci := 13) rfl rfl ⟨_, _, rfl⟩ (by decide +kernel) h_Mo_writeNumber wm_3927 wm_9 wm_3924 wm_3926 wv_24_11 ⟨by decide, by decide, by decide +kernel⟩ (by decide), List.forall_mem_cons.mpr ⟨cl_virtual (y := y_Mo_write_at_s5013) (ci := 13) rfl rfl ⟨_, _, rfl⟩ (by decide +kernel) h_Mo_write_at_s5013 wm_3910 wm_9 wm_3907 wm_3909 wv_24_7 ⟨by decide, by decide, by decide +kernel⟩ (by decide), List.forall_mem_cons.mpr ⟨cl_virtual (y := y_Mo_write_at_s5014) (ci := 13) rfl rfl ⟨_, _, rfl⟩ (by decide +kernel) h_Mo_write_at_s5014 wm_3910 wm_9 wm_3907 wm_3909 wv_24_7 ⟨by decide, by decide, by decide +kernel⟩ (by decide), List.forall_mem_cons.mpr ⟨cl_virtual (y := y_Mo_write_at_s5045) (ci := 13) rfl rfl ⟨_, _, rfl⟩ (by decide +kernel) h_Mo_write_at_s5045 wm_3910 wm_9 wm_3907 wm_3909 wv_24_7 ⟨by decide, by decide, by decide +kernel⟩ (by decide), List.forall_mem_cons.mpr ⟨cl_virtual (y := y_Mo_write_at_s5015) (ci := 13) rfl rfl ⟨_, _, rfl⟩ (by decide +kernel) h_Mo_write_at_s5015 wm_3910 wm_9 wm_3907 wm_3909 wv_24_7 ⟨by decide, by decide, by decide +kernel⟩ (by decide), List.forall_mem_cons.mpr ⟨cl_virtual (y := y_Mo_write_at_s5016) (ci := 13) rfl rfl ⟨_, _, rfl⟩ (by decide +kernel) h_Mo_write_at_s5016 wm_3910 wm_9 wm_3907 wm_3909 wv_24_7 ⟨by decide, by decide, by decide +kernel⟩ (by decide), List.forall_mem_cons.mpr ⟨cl_virtual (y := y_Mo_write_at_s5017) (ci := 13) rfl rfl ⟨_, _, rfl⟩ (by decide +kernel) h_Mo_write_at_s5017 wm_3910 wm_9 wm_3907 wm_3909 wv_24_7 ⟨by decide, by decide, by decide +kernel⟩ (by decide), List.forall_mem_cons.mpr ⟨cl_virtual (y := y_Mo_writeGroup_at_l3) (ci := 13) rfl rfl ⟨_, _, rfl⟩ (by decide +kernel) h_Mo_writeGroup_at_l3 wm_3905 wm_9 wm_3902 wm_3904 wv_24_6 ⟨by decide, by decide, by decide +kernel⟩ (by decide), List.forall_mem_cons.mpr ⟨cl_virtual (y := y_Mo_write_at_s5018) (ci := 13) rfl rfl ⟨_, _, rfl⟩ (by decide +kernel) h_Mo_write_at_s5018 wm_3910 wm_9 wm_3907 wm_3909 wv_24_7 ⟨by decide, by decide, by decide +kernel⟩ (by decide), List.forall_mem_cons.mpr ⟨cl_ldcw (own := "DrawingHouseModel") (idx := 1288) (i := 13) (tx := "node ") (by decide +kernel) (by decide +kernel) (by decide +kernel), List.forall_mem_cons.mpr ⟨cl_ldcw (own := "DrawingHouseModel") (idx := 1296) (i := 14) (tx := " [size=") (by decide +kernel) (by decide +kernel) (by decide +kernel), List.forall_mem_cons.mpr ⟨cl_ldcw (own := "DrawingHouseModel") (idx := 1301) (i := 45) (tx := "]") (by decide +kernel) (by decide +kernel) (by decide +kernel), List.forall_mem_cons.mpr ⟨cl_ldcw (own := "DrawingHouseModel") (idx := 1303) (i := 15) (tx := ";\n") (by decide +kernel) (by decide +kernel) (by decide +kernel), List.forall_mem_cons.mpr ⟨cl_ldcw (own := "DrawingHouseModel") (idx := 1305) (i := 16) (tx := "group ") (by decide +kernel) (by decide +kernel) (by decide +kernel), List.forall_mem_cons.mpr ⟨cl_ldcw (own := "DrawingHouseModel") (idx := 1307) (i := 17) (tx := " {\n") (by decide +kernel) (by decide +kernel) (by decide +kernel), List.forall_mem_cons.mpr ⟨cl_ldcw (own := "DrawingHouseModel") (idx := 1312) (i := 18) (tx := "}\n") (by decide +kernel) (by decide +kernel) (by decide +kernel), List.forall_mem_nil _⟩⟩⟩⟩⟩⟩⟩⟩⟩⟩⟩⟩⟩⟩⟩⟩⟩⟩⟩⟩⟩⟩, List.forall_mem_nil _, List.forall_mem_nil _, GG_pl⟩ (by decide +kernel)

set_option maxHeartbeats 4000000 in
theorem vc_Mo_writeGroup_at_l3_0_0 (x2 : Int) (x3 : Int) (texts_0 : Int) (k2 : 0 ≤ x2 ∧ x2 ≤ 99942624) (k3 : 0 ≤ x3 ∧ x3 ≤ 0) (f0 : 1 * texts_0 + ((-1) * x2 + 0) ≤ 0) (kz_0_170 : 0 ≤ texts_0 ∧ texts_0 ≤ 100000000) : 1 * texts_0 + ((-1) * x2 + ((-36) * x3 + 0)) ≤ 0 := by
  first | assumption | omega | grind
def o_Mo_writeGroup_at_l3_0 : or_T := (2, 4, [(0, (2, 0, 0, [165])), (2, (0, 0, 99942624, [])), (3, (0, 0, 0, []))], [(20, [0, 2], [30, 0, 1, 1, 170, -1, 0, 0])], [], [], [(20, [0, 2, 3], [30, 0, 1, 1, 170, -1, 0, 0, -36, 0, 0]), (24, [0, 0], [])], [], [])
theorem oo_Mo_writeGroup_at_l3_0 {kA : Nat → ClassId} : or_ok PRD kA GG o_Mo_writeGroup_at_l3_0 := by
  refine or_mk fun A ta ws vs hD hth hl => ?_
  intro t0 r0 t2 k2 t3 k3 f0
  have kz_0_170 := fdq_11 hD hth r0
  have nf0 : fc_1 PRD (20, [0, 2, 3], [30, 0, 1, 1, 170, -1, 0, 0, -36, 0, 0]) ws (vs) := ⟨nf_in hl rfl, sgq_2035 (vc_Mo_writeGroup_at_l3_0_0 (v_iv (n_v vs 2)) (v_iv (n_v vs 3)) (w_fi ws (n_v vs 0) 170) k2 k3 (shm_131 f0) kz_0_170)⟩
  have nf1 : fc_1 PRD (24, [0, 0], []) ws (vs) := by
    refine ⟨nf_in hl rfl, sgq_1 ?_⟩
    · show n_v vs 0 = n_v vs 0
      first | rfl | simp only [true_and]
  refine ⟨(fun _ h => (by cases h)), [], trivial, ?_, (fun _ h => (by cases h))⟩
  rw [List.append_nil]
  exact List.forall_mem_cons.mpr ⟨⟨show (20 : Nat) < 100 from by decide, nf0⟩, List.forall_mem_cons.mpr ⟨⟨show (24 : Nat) < 100 from by decide, nf1⟩, (fun _ h => (by cases h))⟩⟩
set_option maxHeartbeats 4000000 in
theorem vc_Mo_writeGroup_at_l3_1_0 (x2 : Int) (x4 : Int) (x5 : Int) (x6 : Int) (x7 : Int) (x8 : Int) (all_0 : Int → Int) (r_0 : Int) (texts_0 : Int) (k2 : 0 ≤ x2 ∧ x2 ≤ 99942624) (k4 : 3 ≤ x4 ∧ x4 ≤ 7) (k5 : 0 ≤ x5 ∧ x5 ≤ 24) (k6 : 0 ≤ x6 ∧ x6 ≤ 24) (k7 : 1 ≤ x7 ∧ x7 ≤ 1) (k8 : 4 ≤ x8 ∧ x8 ≤ 8) (d0 : x4 + 1 ≤ x8 ∧ x8 ≤ x4 + 1) (d1 : x6 + 0 ≤ x5 ∧ x5 ≤ x6 + 4294967296) (f0 : x8 = x4 + x7) (f1 : x6 ≤ x5) (f2 : 1 * x6 + ((-1) * all_0 (r_0 + 0) + 0) ≤ 0) (f3 : (-1) * x6 + (1 * all_0 (r_0 + 0) + 0) ≤ 0) (f4 : 1 * texts_0 + ((-1) * x2 + ((-36) * x5 + 0)) ≤ 0) (kz_0_170 : 0 ≤ texts_0 ∧ texts_0 ≤ 100000000) : 1 * texts_0 + ((-1) * x2 + ((-14128) * x8 + (14128 * x4 + 0))) ≤ (-13264) := by
  first | assumption | omega | grind
def o_Mo_writeGroup_at_l3_1 : or_T := (83, 9, [(0, (2, 0, 0, [165])), (2, (0, 0, 99942624, [])), (4, (0, 3, 7, [])), (5, (0, 0, 24, [])), (6, (0, 0, 24, [])), (7, (0, 1, 1, [])), (8, (0, 4, 8, []))], [(1, [8, 4, 7], []), (7, [5, 6], [3]), (20, [6, 3], [30, 0, 1, 0, 0, -1, 3, 2005000]), (20, [6, 3], [30, 0, -1, 0, 0, 1, 3, 2005000]), (20, [3, 2, 5], [30, 0, 1, 1, 170, -1, 0, 0, -36, 0, 0]), (24, [0, 3], [])], [], [], [(20, [3, 2, 8, 4], [30, -13264, 1, 1, 170, -1, 0, 0, -14128, 0, 0, 14128, 0, 0])], [], [(8, 4, 1, 1), (5, 6, 0, 4294967296)])
theorem oo_Mo_writeGroup_at_l3_1 {kA : Nat → ClassId} : or_ok PRD kA GG o_Mo_writeGroup_at_l3_1 := by
  refine or_mk fun A ta ws vs hD hth hl => ?_
  intro t0 r0 t2 k2 t4 k4 t5 k5 t6 k6 t7 k7 t8 k8 d0 d1 f0 f1 f2 f3 f4 f5
  replace f0 := shm_12 f0
  replace f1 := shm_2 f1
  replace f2 := shm_126 f2
  replace f3 := shm_127 f3
  replace f4 := shm_2035 f4
  replace f5 := shm_5 f5
  have q3 : n_v vs 3 = n_v vs 0 := f5.symm
  simp only [q3] at f2 f3 f4
  have kz_0_170 := fdq_11 hD hth r0
  have nf0 : fc_1 PRD (20, [3, 2, 8, 4], [30, -13264, 1, 1, 170, -1, 0, 0, -14128, 0, 0, 14128, 0, 0]) ws (vs) := by
    refine ⟨nf_in hl rfl, sgq_2064 ?_⟩
    · show 1 * w_fi ws (n_v vs 3) 170 + ((-1) * v_iv (n_v vs 2) + ((-14128) * v_iv (n_v vs 8) + (14128 * v_iv (n_v vs 4) + 0))) ≤ (-13264)
      rw [q3]
      exact vc_Mo_writeGroup_at_l3_1_0 (v_iv (n_v vs 2)) (v_iv (n_v vs 4)) (v_iv (n_v vs 5)) (v_iv (n_v vs 6)) (v_iv (n_v vs 7)) (v_iv (n_v vs 8)) (w_ei ws (w_ar ws (n_v vs 0) 2)) (w_fi ws (n_v vs 0) 5) (w_fi ws (n_v vs 0) 170) k2 k4 k5 k6 k7 k8 d0 d1 f0 f1 f2 f3 f4 kz_0_170
  refine ⟨(fun _ h => (by cases h)), [], trivial, ?_, (fun _ h => (by cases h))⟩
  rw [List.append_nil]
  exact List.forall_mem_cons.mpr ⟨⟨show (20 : Nat) < 100 from by decide, nf0⟩, (fun _ h => (by cases h))⟩
set_option maxHeartbeats 4000000 in
theorem vc_Mo_writeGroup_at_l3_2_0 (x2 : Int) (x4 : Int) (x5 : Int) (x6 : Int) (x7 : Int) (all_0 : Int → Int) (r_0 : Int) (texts_0 : Int) (gx : Int) (k2 : 0 ≤ x2 ∧ x2 ≤ 99942624) (k4 : 3 ≤ x4 ∧ x4 ≤ 7) (k5 : 0 ≤ x5 ∧ x5 ≤ 23) (k6 : 1 ≤ x6 ∧ x6 ≤ 24) (k7 : 3 ≤ x7 ∧ x7 ≤ 7) (d0 : x4 + 0 ≤ x7 ∧ x7 ≤ x4 + 0) (d1 : x6 + (-4294967296) ≤ x5 ∧ x5 ≤ x6 + (-1)) (f0 : x7 = x4) (f1 : x7 = all_0 (((r_0 + 243) + x5))) (f2 : x5 < x6) (f3 : 1 * x6 + ((-1) * all_0 (r_0 + 0) + 0) ≤ 0) (f4 : (-1) * x6 + (1 * all_0 (r_0 + 0) + 0) ≤ 0) (f5 : 1 * texts_0 + ((-1) * x2 + ((-36) * x5 + 0)) ≤ 0) (kz_0_170 : 0 ≤ texts_0 ∧ texts_0 ≤ 100000000) (ex2 : gx = texts_0) (ex3 : 0 ≤ gx ∧ gx ≤ 99999995) : 1 * texts_0 + ((-1) * gx + 0) ≤ 0 := by
  first | assumption | omega | grind
set_option maxHeartbeats 4000000 in
theorem vc_Mo_writeGroup_at_l3_2_1 (x2 : Int) (x4 : Int) (x5 : Int) (x6 : Int) (x7 : Int) (all_0 : Int → Int) (r_0 : Int) (texts_0 : Int) (gx : Int) (k2 : 0 ≤ x2 ∧ x2 ≤ 99942624) (k4 : 3 ≤ x4 ∧ x4 ≤ 7) (k5 : 0 ≤ x5 ∧ x5 ≤ 23) (k6 : 1 ≤ x6 ∧ x6 ≤ 24) (k7 : 3 ≤ x7 ∧ x7 ≤ 7) (d0 : x4 + 0 ≤ x7 ∧ x7 ≤ x4 + 0) (d1 : x6 + (-4294967296) ≤ x5 ∧ x5 ≤ x6 + (-1)) (f0 : x7 = x4) (f1 : x7 = all_0 (((r_0 + 243) + x5))) (f2 : x5 < x6) (f3 : 1 * x6 + ((-1) * all_0 (r_0 + 0) + 0) ≤ 0) (f4 : (-1) * x6 + (1 * all_0 (r_0 + 0) + 0) ≤ 0) (f5 : 1 * texts_0 + ((-1) * x2 + ((-36) * x5 + 0)) ≤ 0) (kz_0_170 : 0 ≤ texts_0 ∧ texts_0 ≤ 100000000) (ex2 : gx = texts_0) (ex3 : 0 ≤ gx ∧ gx ≤ 99999995) : 1 * gx + ((-1) * x2 + ((-36) * x5 + 0)) ≤ 0 := by
  first | assumption | omega | grind
def o_Mo_writeGroup_at_l3_2 : or_T := (26, 9, [(0, (2, 0, 0, [165])), (2, (0, 0, 99942624, [])), (3, (2, 0, 0, [165])), (4, (0, 3, 7, [])), (5, (0, 0, 23, [])), (6, (0, 1, 24, [])), (7, (0, 3, 7, []))], [(7, [7, 4], [0]), (20, [7, 3, 5], [50, 1, 1, 1005, 1002, 1, 2, 1, 0, 3, 1, 2, 4, 7, 4, 3, 2, 1, 5, 0, 243, 1, 2]), (7, [5, 6], [2]), (20, [6, 3], [30, 0, 1, 0, 0, -1, 3, 2005000]), (20, [6, 3], [30, 0, -1, 0, 0, 1, 3, 2005000]), (20, [3, 2, 5], [30, 0, 1, 1, 170, -1, 0, 0, -36, 0, 0]), (24, [0, 3], [])], [], [(0, 0, 99999995, [])], [(20, [3, 9], [30, 0, 1, 1, 170, -1, 0, 0]), (23, [9, 2, 5], [0, 1, -1, -36])], [], [(7, 4, 0, 0), (5, 6, -4294967296, -1)])
theorem oo_Mo_writeGroup_at_l3_2 {kA : Nat → ClassId} : or_ok PRD kA GG o_Mo_writeGroup_at_l3_2 := by
  refine or_mk fun A ta ws vs hD hth hl => ?_
  intro t0 r0 t2 k2 t3 r3 t4 k4 t5 k5 t6 k6 t7 k7 d0 d1 f0 f1 f2 f3 f4 f5 f6
  replace f0 := shm_37 f0
  replace f1 := shm_597 f1
  replace f2 := shm_6 f2
  replace f3 := shm_126 f3
  replace f4 := shm_127 f4
  replace f5 := shm_2035 f5
  replace f6 := shm_5 f6
  have q3 : n_v vs 3 = n_v vs 0 := f6.symm
  simp only [q3] at f1 f3 f4 f5
  have cr_0_2 := fdq_10 hD hth r0
  have br_0_2_F5_0_0 : w_ei ws (w_ar ws (n_v vs 0) 2) (w_fi ws (n_v vs 0) 5 + 0) = w_el ws (w_ar ws (n_v vs 0) 2) (w_fi ws (n_v vs 0) 5 + 0).toNat := rfl
  have kz_0_170 := fdq_11 hD hth r0
  have kv0 := fdq_11 hD hth r0
  obtain ⟨x, ex, hx⟩ := iv_ex (ta := ta) (lo := 0) (hi := 99999995) (z := w_fi ws (n_v vs 0) 170) (by omega) (by omega) (by omega) (by omega)
  have ex2 : v_iv (Value.int x) = w_fi ws (n_v vs 0) 170 := ex
  have ex3 : 0 ≤ v_iv (Value.int x) ∧ v_iv (Value.int x) ≤ 99999995 := tv_rng hx
  have e_2 : n_v (vs ++ [Value.int x]) 2 = n_v vs 2 := n_v_old (by rw [hl]; decide)
  have e_3 : n_v (vs ++ [Value.int x]) 3 = n_v vs 3 := n_v_old (by rw [hl]; decide)
  have e_5 : n_v (vs ++ [Value.int x]) 5 = n_v vs 5 := n_v_old (by rw [hl]; decide)
  have e_9 : n_v (vs ++ [Value.int x]) 9 = Value.int x := n_v_new hl
  have nf0 : fc_1 PRD (20, [3, 9], [30, 0, 1, 1, 170, -1, 0, 0]) ws (vs ++ [Value.int x]) := by
    refine ⟨nf_inA hl rfl, sgq_131 ?_⟩
    · show 1 * w_fi ws (n_v (vs ++ [Value.int x]) 3) 170 + ((-1) * v_iv (n_v (vs ++ [Value.int x]) 9) + 0) ≤ 0
      simp only [e_3, e_9, q3]
      exact vc_Mo_writeGroup_at_l3_2_0 (v_iv (n_v vs 2)) (v_iv (n_v vs 4)) (v_iv (n_v vs 5)) (v_iv (n_v vs 6)) (v_iv (n_v vs 7)) (w_ei ws (w_ar ws (n_v vs 0) 2)) (w_fi ws (n_v vs 0) 5) (w_fi ws (n_v vs 0) 170) (v_iv (Value.int x)) k2 k4 k5 k6 k7 d0 d1 f0 f1 f2 f3 f4 f5 kz_0_170 ex2 ex3
  have nf1 : fc_1 PRD (23, [9, 2, 5], [0, 1, -1, -36]) ws (vs ++ [Value.int x]) := by
    refine ⟨nf_inA hl rfl, sgq_2037 ?_⟩
    · show 1 * v_iv (n_v (vs ++ [Value.int x]) 9) + ((-1) * v_iv (n_v (vs ++ [Value.int x]) 2) + ((-36) * v_iv (n_v (vs ++ [Value.int x]) 5) + 0)) ≤ 0
      simp only [e_2, e_5, e_9]
      exact vc_Mo_writeGroup_at_l3_2_1 (v_iv (n_v vs 2)) (v_iv (n_v vs 4)) (v_iv (n_v vs 5)) (v_iv (n_v vs 6)) (v_iv (n_v vs 7)) (w_ei ws (w_ar ws (n_v vs 0) 2)) (w_fi ws (n_v vs 0) 5) (w_fi ws (n_v vs 0) 170) (v_iv (Value.int x)) k2 k4 k5 k6 k7 d0 d1 f0 f1 f2 f3 f4 f5 kz_0_170 ex2 ex3
  exact ⟨(fun _ h => (by cases h)), [Value.int x], ag_one hx, List.forall_mem_cons.mpr ⟨⟨show (20 : Nat) < 100 from by decide, nf0⟩, List.forall_mem_cons.mpr ⟨⟨show (23 : Nat) < 100 from by decide, nf1⟩, (fun _ h => (by cases h))⟩⟩, (fun _ h => (by cases h))⟩
set_option maxHeartbeats 4000000 in
theorem vc_Mo_writeGroup_at_l3_3_0 (x2 : Int) (x4 : Int) (x5 : Int) (x6 : Int) (x7 : Int) (x9 : Int) (all_0 : Int → Int) (r_0 : Int) (texts_0 : Int) (gx : Int) (k2 : 0 ≤ x2 ∧ x2 ≤ 99942624) (k4 : 3 ≤ x4 ∧ x4 ≤ 7) (k5 : 0 ≤ x5 ∧ x5 ≤ 23) (k6 : 1 ≤ x6 ∧ x6 ≤ 24) (k7 : 3 ≤ x7 ∧ x7 ≤ 7) (k9 : 0 ≤ x9 ∧ x9 ≤ 99999995) (d0 : x4 + 0 ≤ x7 ∧ x7 ≤ x4 + 0) (d1 : x6 + (-4294967296) ≤ x5 ∧ x5 ≤ x6 + (-1)) (f0 : 1 * x9 + ((-1) * x2 + ((-36) * x5 + 0)) ≤ 0) (f1 : x7 = all_0 (((r_0 + 243) + x5))) (f2 : 1 * x6 + ((-1) * all_0 (r_0 + 0) + 0) ≤ 0) (f3 : (-1) * x6 + (1 * all_0 (r_0 + 0) + 0) ≤ 0) (f5 : 1 * texts_0 + ((-1) * x9 + 0) ≤ 5) (f7 : 1 * x9 + ((-1) * x2 + ((-36) * x5 + 0)) ≤ 0) (f8 : x7 = x4) (f9 : x5 < x6) (kz_0_170 : 0 ≤ texts_0 ∧ texts_0 ≤ 100000000) (ex2 : gx = texts_0) (ex3 : 0 ≤ gx ∧ gx ≤ 99999992) : 1 * texts_0 + ((-1) * gx + 0) ≤ 0 := by
  first | assumption | omega | grind
set_option maxHeartbeats 4000000 in
theorem vc_Mo_writeGroup_at_l3_3_1 (x2 : Int) (x4 : Int) (x5 : Int) (x6 : Int) (x7 : Int) (x9 : Int) (all_0 : Int → Int) (r_0 : Int) (texts_0 : Int) (gx : Int) (k2 : 0 ≤ x2 ∧ x2 ≤ 99942624) (k4 : 3 ≤ x4 ∧ x4 ≤ 7) (k5 : 0 ≤ x5 ∧ x5 ≤ 23) (k6 : 1 ≤ x6 ∧ x6 ≤ 24) (k7 : 3 ≤ x7 ∧ x7 ≤ 7) (k9 : 0 ≤ x9 ∧ x9 ≤ 99999995) (d0 : x4 + 0 ≤ x7 ∧ x7 ≤ x4 + 0) (d1 : x6 + (-4294967296) ≤ x5 ∧ x5 ≤ x6 + (-1)) (f0 : 1 * x9 + ((-1) * x2 + ((-36) * x5 + 0)) ≤ 0) (f1 : x7 = all_0 (((r_0 + 243) + x5))) (f2 : 1 * x6 + ((-1) * all_0 (r_0 + 0) + 0) ≤ 0) (f3 : (-1) * x6 + (1 * all_0 (r_0 + 0) + 0) ≤ 0) (f5 : 1 * texts_0 + ((-1) * x9 + 0) ≤ 5) (f7 : 1 * x9 + ((-1) * x2 + ((-36) * x5 + 0)) ≤ 0) (f8 : x7 = x4) (f9 : x5 < x6) (kz_0_170 : 0 ≤ texts_0 ∧ texts_0 ≤ 100000000) (ex2 : gx = texts_0) (ex3 : 0 ≤ gx ∧ gx ≤ 99999992) : 1 * gx + ((-1) * x2 + ((-36) * x5 + 0)) ≤ 5 := by
  first | assumption | omega | grind
def o_Mo_writeGroup_at_l3_3 : or_T := (31, 10, [(0, (2, 0, 0, [165])), (2, (0, 0, 99942624, [])), (3, (2, 0, 0, [165])), (4, (0, 3, 7, [])), (5, (0, 0, 23, [])), (6, (0, 1, 24, [])), (7, (0, 3, 7, [])), (9, (0, 0, 99999995, []))], [(23, [9, 2, 5], [0, 1, -1, -36]), (20, [7, 3, 5], [50, 1, 1, 1005, 1002, 1, 2, 1, 0, 3, 1, 2, 4, 7, 4, 3, 2, 1, 5, 0, 243, 1, 2]), (20, [6, 3], [30, 0, 1, 0, 0, -1, 3, 2005000]), (20, [6, 3], [30, 0, -1, 0, 0, 1, 3, 2005000]), (24, [0, 3], []), (20, [3, 9], [30, 5, 1, 1, 170, -1, 0, 0]), (102, [9], [7770675568902916283677847627294075626569627356208558085007249638955617140820833992704, 165170]), (23, [9, 2, 5], [0, 1, -1, -36]), (7, [7, 4], [0]), (7, [5, 6], [2])], [], [(0, 0, 99999992, [])], [(20, [3, 10], [30, 0, 1, 1, 170, -1, 0, 0]), (23, [10, 2, 5], [5, 1, -1, -36])], [], [(7, 4, 0, 0), (5, 6, -4294967296, -1)])
theorem oo_Mo_writeGroup_at_l3_3 {kA : Nat → ClassId} : or_ok PRD kA GG o_Mo_writeGroup_at_l3_3 := by
  refine or_mk fun A ta ws vs hD hth hl => ?_
  intro t0 r0 t2 k2 t3 r3 t4 k4 t5 k5 t6 k6 t7 k7 t9 k9 d0 d1 f0 f1 f2 f3 f4 f5 ta1 w1 le1 s1 f7 f8 f9
  replace f0 := shm_2037 f0
  replace f1 := shm_597 f1
  replace f2 := shm_126 f2
  replace f3 := shm_127 f3
  replace f4 := shm_5 f4
  replace f5 := shm_208 f5
  replace f7 := shm_2037 f7
  replace f8 := shm_37 f8
  replace f9 := shm_6 f9
  have q3 : n_v vs 3 = n_v vs 0 := f4.symm
  simp only [q3] at f1 f2 f3 f5
  have cr_0_2 := fdq_10 hD hth r0
  have br_0_2_F5_0_0 : w_ei ws (w_ar ws (n_v vs 0) 2) (w_fi ws (n_v vs 0) 5 + 0) = w_el ws (w_ar ws (n_v vs 0) 2) (w_fi ws (n_v vs 0) 5 + 0).toNat := rfl
  have kz_0_170 := fdq_11 hD hth r0
  have kv0 := fdq_11 hD hth r0
  obtain ⟨x, ex, hx⟩ := iv_ex (ta := ta) (lo := 0) (hi := 99999992) (z := w_fi ws (n_v vs 0) 170) (by omega) (by omega) (by omega) (by omega)
  have ex2 : v_iv (Value.int x) = w_fi ws (n_v vs 0) 170 := ex
  have ex3 : 0 ≤ v_iv (Value.int x) ∧ v_iv (Value.int x) ≤ 99999992 := tv_rng hx
  have e_2 : n_v (vs ++ [Value.int x]) 2 = n_v vs 2 := n_v_old (by rw [hl]; decide)
  have e_3 : n_v (vs ++ [Value.int x]) 3 = n_v vs 3 := n_v_old (by rw [hl]; decide)
  have e_5 : n_v (vs ++ [Value.int x]) 5 = n_v vs 5 := n_v_old (by rw [hl]; decide)
  have e_10 : n_v (vs ++ [Value.int x]) 10 = Value.int x := n_v_new hl
  have nf0 : fc_1 PRD (20, [3, 10], [30, 0, 1, 1, 170, -1, 0, 0]) ws (vs ++ [Value.int x]) := by
    refine ⟨nf_inA hl rfl, sgq_131 ?_⟩
    · show 1 * w_fi ws (n_v (vs ++ [Value.int x]) 3) 170 + ((-1) * v_iv (n_v (vs ++ [Value.int x]) 10) + 0) ≤ 0
      simp only [e_3, e_10, q3]
      exact vc_Mo_writeGroup_at_l3_3_0 (v_iv (n_v vs 2)) (v_iv (n_v vs 4)) (v_iv (n_v vs 5)) (v_iv (n_v vs 6)) (v_iv (n_v vs 7)) (v_iv (n_v vs 9)) (w_ei ws (w_ar ws (n_v vs 0) 2)) (w_fi ws (n_v vs 0) 5) (w_fi ws (n_v vs 0) 170) (v_iv (Value.int x)) k2 k4 k5 k6 k7 k9 d0 d1 f0 f1 f2 f3 f5 f7 f8 f9 kz_0_170 ex2 ex3
  have nf1 : fc_1 PRD (23, [10, 2, 5], [5, 1, -1, -36]) ws (vs ++ [Value.int x]) := by
    refine ⟨nf_inA hl rfl, sgq_2038 ?_⟩
    · show 1 * v_iv (n_v (vs ++ [Value.int x]) 10) + ((-1) * v_iv (n_v (vs ++ [Value.int x]) 2) + ((-36) * v_iv (n_v (vs ++ [Value.int x]) 5) + 0)) ≤ 5
      simp only [e_2, e_5, e_10]
      exact vc_Mo_writeGroup_at_l3_3_1 (v_iv (n_v vs 2)) (v_iv (n_v vs 4)) (v_iv (n_v vs 5)) (v_iv (n_v vs 6)) (v_iv (n_v vs 7)) (v_iv (n_v vs 9)) (w_ei ws (w_ar ws (n_v vs 0) 2)) (w_fi ws (n_v vs 0) 5) (w_fi ws (n_v vs 0) 170) (v_iv (Value.int x)) k2 k4 k5 k6 k7 k9 d0 d1 f0 f1 f2 f3 f5 f7 f8 f9 kz_0_170 ex2 ex3
  exact ⟨(fun _ h => (by cases h)), [Value.int x], ag_one hx, List.forall_mem_cons.mpr ⟨⟨show (20 : Nat) < 100 from by decide, nf0⟩, List.forall_mem_cons.mpr ⟨⟨show (23 : Nat) < 100 from by decide, nf1⟩, (fun _ h => (by cases h))⟩⟩, (fun _ h => (by cases h))⟩
set_option maxHeartbeats 4000000 in
theorem vc_Mo_writeGroup_at_l3_4_0 (x2 : Int) (x4 : Int) (x5 : Int) (x6 : Int) (x7 : Int) (x9 : Int) (x10 : Int) (x11 : Int) (x12 : Int) (all_0 : Int → Int) (r_0 : Int) (texts_0 : Int) (gx : Int) (k2 : 0 ≤ x2 ∧ x2 ≤ 99942624) (k4 : 3 ≤ x4 ∧ x4 ≤ 7) (k5 : 0 ≤ x5 ∧ x5 ≤ 23) (k6 : 1 ≤ x6 ∧ x6 ≤ 24) (k7 : 3 ≤ x7 ∧ x7 ≤ 7) (k9 : 0 ≤ x9 ∧ x9 ≤ 99999995) (k10 : 0 ≤ x10 ∧ x10 ≤ 99999992) (k11 : 0 ≤ x11 ∧ x11 ≤ 1) (k12 : 1 ≤ x12 ∧ x12 ≤ 1) (d0 : x4 + 0 ≤ x7 ∧ x7 ≤ x4 + 0) (d1 : x6 + (-4294967296) ≤ x5 ∧ x5 ≤ x6 + (-1)) (f0 : x11 ≤ x12) (f1 : x11 = all_0 (((r_0 + 219) + x5))) (f2 : 1 * x10 + ((-1) * x2 + ((-36) * x5 + 0)) ≤ 5) (f3 : 1 * x9 + ((-1) * x2 + ((-36) * x5 + 0)) ≤ 0) (f4 : x7 = all_0 (((r_0 + 243) + x5))) (f5 : 1 * x6 + ((-1) * all_0 (r_0 + 0) + 0) ≤ 0) (f6 : (-1) * x6 + (1 * all_0 (r_0 + 0) + 0) ≤ 0) (f8 : 1 * texts_0 + ((-1) * x10 + 0) ≤ 8) (f10 : 1 * x10 + ((-1) * x2 + ((-36) * x5 + 0)) ≤ 5) (f11 : 1 * x9 + ((-1) * x2 + ((-36) * x5 + 0)) ≤ 0) (f13 : 1 * x9 + ((-1) * x2 + ((-36) * x5 + 0)) ≤ 0) (f14 : x7 = x4) (f15 : x5 < x6) (kz_0_170 : 0 ≤ texts_0 ∧ texts_0 ≤ 100000000) (ex2 : gx = texts_0) (ex3 : 0 ≤ gx ∧ gx ≤ 99999998) : 1 * texts_0 + ((-1) * gx + 0) ≤ 0 := by
  first | assumption | omega | grind
set_option maxHeartbeats 4000000 in
theorem vc_Mo_writeGroup_at_l3_4_1 (x2 : Int) (x4 : Int) (x5 : Int) (x6 : Int) (x7 : Int) (x9 : Int) (x10 : Int) (x11 : Int) (x12 : Int) (all_0 : Int → Int) (r_0 : Int) (texts_0 : Int) (gx : Int) (k2 : 0 ≤ x2 ∧ x2 ≤ 99942624) (k4 : 3 ≤ x4 ∧ x4 ≤ 7) (k5 : 0 ≤ x5 ∧ x5 ≤ 23) (k6 : 1 ≤ x6 ∧ x6 ≤ 24) (k7 : 3 ≤ x7 ∧ x7 ≤ 7) (k9 : 0 ≤ x9 ∧ x9 ≤ 99999995) (k10 : 0 ≤ x10 ∧ x10 ≤ 99999992) (k11 : 0 ≤ x11 ∧ x11 ≤ 1) (k12 : 1 ≤ x12 ∧ x12 ≤ 1) (d0 : x4 + 0 ≤ x7 ∧ x7 ≤ x4 + 0) (d1 : x6 + (-4294967296) ≤ x5 ∧ x5 ≤ x6 + (-1)) (f0 : x11 ≤ x12) (f1 : x11 = all_0 (((r_0 + 219) + x5))) (f2 : 1 * x10 + ((-1) * x2 + ((-36) * x5 + 0)) ≤ 5) (f3 : 1 * x9 + ((-1) * x2 + ((-36) * x5 + 0)) ≤ 0) (f4 : x7 = all_0 (((r_0 + 243) + x5))) (f5 : 1 * x6 + ((-1) * all_0 (r_0 + 0) + 0) ≤ 0) (f6 : (-1) * x6 + (1 * all_0 (r_0 + 0) + 0) ≤ 0) (f8 : 1 * texts_0 + ((-1) * x10 + 0) ≤ 8) (f10 : 1 * x10 + ((-1) * x2 + ((-36) * x5 + 0)) ≤ 5) (f11 : 1 * x9 + ((-1) * x2 + ((-36) * x5 + 0)) ≤ 0) (f13 : 1 * x9 + ((-1) * x2 + ((-36) * x5 + 0)) ≤ 0) (f14 : x7 = x4) (f15 : x5 < x6) (kz_0_170 : 0 ≤ texts_0 ∧ texts_0 ≤ 100000000) (ex2 : gx = texts_0) (ex3 : 0 ≤ gx ∧ gx ≤ 99999998) : 1 * gx + ((-1) * x2 + ((-36) * x5 + 0)) ≤ 34 := by
  first | assumption | omega | grind
def o_Mo_writeGroup_at_l3_4 : or_T := (70, 14, [(0, (2, 0, 0, [165])), (2, (0, 0, 99942624, [])), (3, (2, 0, 0, [165])), (4, (0, 3, 7, [])), (5, (0, 0, 23, [])), (6, (0, 1, 24, [])), (7, (0, 3, 7, [])), (9, (0, 0, 99999995, [])), (10, (0, 0, 99999992, [])), (11, (0, 0, 1, [])), (12, (0, 1, 1, []))], [(7, [11, 12], [5]), (20, [11, 3, 5], [50, 1, 1, 1005, 1002, 1, 2, 1, 0, 3, 1, 2, 4, 7, 4, 3, 2, 1, 5, 0, 219, 1, 2]), (23, [10, 2, 5], [5, 1, -1, -36]), (23, [9, 2, 5], [0, 1, -1, -36]), (20, [7, 3, 5], [50, 1, 1, 1005, 1002, 1, 2, 1, 0, 3, 1, 2, 4, 7, 4, 3, 2, 1, 5, 0, 243, 1, 2]), (20, [6, 3], [30, 0, 1, 0, 0, -1, 3, 2005000]), (20, [6, 3], [30, 0, -1, 0, 0, 1, 3, 2005000]), (24, [0, 3], []), (20, [3, 10], [30, 8, 1, 1, 170, -1, 0, 0]), (102, [10], [7770675568902916283677847627294075626569627356208558085007249638955617140820833992704, 165170]), (23, [10, 2, 5], [5, 1, -1, -36]), (23, [9, 2, 5], [0, 1, -1, -36]), (102, [9], [7770675568902916283677847627294075626569627356208558085007249638955617140820833992704, 165170]), (23, [9, 2, 5], [0, 1, -1, -36]), (7, [7, 4], [0]), (7, [5, 6], [2])], [], [(0, 0, 99999998, [])], [(20, [3, 14], [30, 0, 1, 1, 170, -1, 0, 0]), (23, [14, 2, 5], [34, 1, -1, -36])], [], [(7, 4, 0, 0), (5, 6, -4294967296, -1)])
theorem oo_Mo_writeGroup_at_l3_4 {kA : Nat → ClassId} : or_ok PRD kA GG o_Mo_writeGroup_at_l3_4 := by
  refine or_mk fun A ta ws vs hD hth hl => ?_
  intro t0 r0 t2 k2 t3 r3 t4 k4 t5 k5 t6 k6 t7 k7 t9 k9 t10 k10 t11 k11 t12 k12 d0 d1 f0 f1 f2 f3 f4 f5 f6 f7 f8 ta1 w1 le1 s1 f10 f11 ta2 w2 le2 s2 f13 f14 f15
  replace f0 := shm_24 f0
  replace f1 := shm_732 f1
  replace f2 := shm_2038 f2
  replace f3 := shm_2037 f3
  replace f4 := shm_597 f4
  replace f5 := shm_126 f5
  replace f6 := shm_127 f6
  replace f7 := shm_5 f7
  replace f8 := shm_160 f8
  replace f10 := shm_2038 f10
  replace f11 := shm_2037 f11
  replace f13 := shm_2037 f13
  replace f14 := shm_37 f14
  replace f15 := shm_6 f15
  have q3 : n_v vs 3 = n_v vs 0 := f7.symm
  simp only [q3] at f1 f4 f5 f6 f8
  have cr_0_2 := fdq_10 hD hth r0
  have br_0_2_F5_0_0 : w_ei ws (w_ar ws (n_v vs 0) 2) (w_fi ws (n_v vs 0) 5 + 0) = w_el ws (w_ar ws (n_v vs 0) 2) (w_fi ws (n_v vs 0) 5 + 0).toNat := rfl
  have kz_0_170 := fdq_11 hD hth r0
  have kv0 := fdq_11 hD hth r0
  obtain ⟨x, ex, hx⟩ := iv_ex (ta := ta) (lo := 0) (hi := 99999998) (z := w_fi ws (n_v vs 0) 170) (by omega) (by omega) (by omega) (by omega)
  have ex2 : v_iv (Value.int x) = w_fi ws (n_v vs 0) 170 := ex
  have ex3 : 0 ≤ v_iv (Value.int x) ∧ v_iv (Value.int x) ≤ 99999998 := tv_rng hx
  have e_2 : n_v (vs ++ [Value.int x]) 2 = n_v vs 2 := n_v_old (by rw [hl]; decide)
  have e_3 : n_v (vs ++ [Value.int x]) 3 = n_v vs 3 := n_v_old (by rw [hl]; decide)
  have e_5 : n_v (vs ++ [Value.int x]) 5 = n_v vs 5 := n_v_old (by rw [hl]; decide)
  have e_14 : n_v (vs ++ [Value.int x]) 14 = Value.int x := n_v_new hl
  have nf0 : fc_1 PRD (20, [3, 14], [30, 0, 1, 1, 170, -1, 0, 0]) ws (vs ++ [Value.int x]) := by
    refine ⟨nf_inA hl rfl, sgq_131 ?_⟩
    · show 1 * w_fi ws (n_v (vs ++ [Value.int x]) 3) 170 + ((-1) * v_iv (n_v (vs ++ [Value.int x]) 14) + 0) ≤ 0
      simp only [e_3, e_14, q3]
      exact vc_Mo_writeGroup_at_l3_4_0 (v_iv (n_v vs 2)) (v_iv (n_v vs 4)) (v_iv (n_v vs 5)) (v_iv (n_v vs 6)) (v_iv (n_v vs 7)) (v_iv (n_v vs 9)) (v_iv (n_v vs 10)) (v_iv (n_v vs 11)) (v_iv (n_v vs 12)) (w_ei ws (w_ar ws (n_v vs 0) 2)) (w_fi ws (n_v vs 0) 5) (w_fi ws (n_v vs 0) 170) (v_iv (Value.int x)) k2 k4 k5 k6 k7 k9 k10 k11 k12 d0 d1 f0 f1 f2 f3 f4 f5 f6 f8 f10 f11 f13 f14 f15 kz_0_170 ex2 ex3
  have nf1 : fc_1 PRD (23, [14, 2, 5], [34, 1, -1, -36]) ws (vs ++ [Value.int x]) := by
    refine ⟨nf_inA hl rfl, sgq_2039 ?_⟩
    · show 1 * v_iv (n_v (vs ++ [Value.int x]) 14) + ((-1) * v_iv (n_v (vs ++ [Value.int x]) 2) + ((-36) * v_iv (n_v (vs ++ [Value.int x]) 5) + 0)) ≤ 34
      simp only [e_2, e_5, e_14]
      exact vc_Mo_writeGroup_at_l3_4_1 (v_iv (n_v vs 2)) (v_iv (n_v vs 4)) (v_iv (n_v vs 5)) (v_iv (n_v vs 6)) (v_iv (n_v vs 7)) (v_iv (n_v vs 9)) (v_iv (n_v vs 10)) (v_iv (n_v vs 11)) (v_iv (n_v vs 12)) (w_ei ws (w_ar ws (n_v vs 0) 2)) (w_fi ws (n_v vs 0) 5) (w_fi ws (n_v vs 0) 170) (v_iv (Value.int x)) k2 k4 k5 k6 k7 k9 k10 k11 k12 d0 d1 f0 f1 f2 f3 f4 f5 f6 f8 f10 f11 f13 f14 f15 kz_0_170 ex2 ex3
  exact ⟨(fun _ h => (by cases h)), [Value.int x], ag_one hx, List.forall_mem_cons.mpr ⟨⟨show (20 : Nat) < 100 from by decide, nf0⟩, List.forall_mem_cons.mpr ⟨⟨show (23 : Nat) < 100 from by decide, nf1⟩, (fun _ h => (by cases h))⟩⟩, (fun _ h => (by cases h))⟩
set_option maxHeartbeats 4000000 in
theorem vc_Mo_writeGroup_at_l3_5_0 (x2 : Int) (x4 : Int) (x5 : Int) (x6 : Int) (x7 : Int) (x9 : Int) (x10 : Int) (x11 : Int) (x12 : Int) (x14 : Int) (x15 : Int) (all_0 : Int → Int) (r_0 : Int) (texts_0 : Int) (k2 : 0 ≤ x2 ∧ x2 ≤ 99942624) (k4 : 3 ≤ x4 ∧ x4 ≤ 7) (k5 : 0 ≤ x5 ∧ x5 ≤ 23) (k6 : 1 ≤ x6 ∧ x6 ≤ 24) (k7 : 3 ≤ x7 ∧ x7 ≤ 7) (k9 : 0 ≤ x9 ∧ x9 ≤ 99999995) (k10 : 0 ≤ x10 ∧ x10 ≤ 99999992) (k11 : 0 ≤ x11 ∧ x11 ≤ 1) (k12 : 1 ≤ x12 ∧ x12 ≤ 1) (k14 : 0 ≤ x14 ∧ x14 ≤ 99999998) (k15 : 1 ≤ x15 ∧ x15 ≤ 24) (d0 : x5 + 1 ≤ x15 ∧ x15 ≤ x5 + 1) (d1 : x6 + (-4294967296) ≤ x15 ∧ x15 ≤ x6 + 0) (d2 : x4 + 0 ≤ x7 ∧ x7 ≤ x4 + 0) (d3 : x6 + (-4294967296) ≤ x5 ∧ x5 ≤ x6 + (-1)) (f0 : x15 = x5 + 1) (f1 : 1 * x14 + ((-1) * x2 + ((-36) * x5 + 0)) ≤ 34) (f2 : x11 = all_0 (((r_0 + 219) + x5))) (f3 : 1 * x10 + ((-1) * x2 + ((-36) * x5 + 0)) ≤ 5) (f4 : 1 * x9 + ((-1) * x2 + ((-36) * x5 + 0)) ≤ 0) (f5 : x7 = all_0 (((r_0 + 243) + x5))) (f6 : 1 * x6 + ((-1) * all_0 (r_0 + 0) + 0) ≤ 0) (f7 : (-1) * x6 + (1 * all_0 (r_0 + 0) + 0) ≤ 0) (f9 : 1 * texts_0 + ((-1) * x14 + 0) ≤ 2) (f11 : 1 * x14 + ((-1) * x2 + ((-36) * x5 + 0)) ≤ 34) (f12 : x11 ≤ x12) (f13 : 1 * x10 + ((-1) * x2 + ((-36) * x5 + 0)) ≤ 5) (f14 : 1 * x9 + ((-1) * x2 + ((-36) * x5 + 0)) ≤ 0) (f16 : 1 * x10 + ((-1) * x2 + ((-36) * x5 + 0)) ≤ 5) (f17 : 1 * x9 + ((-1) * x2 + ((-36) * x5 + 0)) ≤ 0) (f19 : 1 * x9 + ((-1) * x2 + ((-36) * x5 + 0)) ≤ 0) (f20 : x7 = x4) (f21 : x5 < x6) (kz_0_170 : 0 ≤ texts_0 ∧ texts_0 ≤ 100000000) : 1 * texts_0 + ((-1) * x2 + ((-36) * x15 + 0)) ≤ 0 := by
  first | assumption | omega | grind
def o_Mo_writeGroup_at_l3_5 : or_T := (2, 16, [(0, (2, 0, 0, [165])), (2, (0, 0, 99942624, [])), (4, (0, 3, 7, [])), (5, (0, 0, 23, [])), (6, (0, 1, 24, [])), (7, (0, 3, 7, [])), (9, (0, 0, 99999995, [])), (10, (0, 0, 99999992, [])), (11, (0, 0, 1, [])), (12, (0, 1, 1, [])), (14, (0, 0, 99999998, [])), (15, (0, 1, 24, []))], [(6, [15, 5], [1]), (23, [14, 2, 5], [34, 1, -1, -36]), (20, [11, 3, 5], [50, 1, 1, 1005, 1002, 1, 2, 1, 0, 3, 1, 2, 4, 7, 4, 3, 2, 1, 5, 0, 219, 1, 2]), (23, [10, 2, 5], [5, 1, -1, -36]), (23, [9, 2, 5], [0, 1, -1, -36]), (20, [7, 3, 5], [50, 1, 1, 1005, 1002, 1, 2, 1, 0, 3, 1, 2, 4, 7, 4, 3, 2, 1, 5, 0, 243, 1, 2]), (20, [6, 3], [30, 0, 1, 0, 0, -1, 3, 2005000]), (20, [6, 3], [30, 0, -1, 0, 0, 1, 3, 2005000]), (24, [0, 3], []), (20, [3, 14], [30, 2, 1, 1, 170, -1, 0, 0]), (102, [14], [7770675568902916283677847627294075626569627356208558085007249638955617140820833992704, 165170]), (23, [14, 2, 5], [34, 1, -1, -36]), (7, [11, 12], [5]), (23, [10, 2, 5], [5, 1, -1, -36]), (23, [9, 2, 5], [0, 1, -1, -36]), (102, [10], [7770675568902916283677847627294075626569627356208558085007249638955617140820833992704, 165170]), (23, [10, 2, 5], [5, 1, -1, -36]), (23, [9, 2, 5], [0, 1, -1, -36]), (102, [9], [7770675568902916283677847627294075626569627356208558085007249638955617140820833992704, 165170]), (23, [9, 2, 5], [0, 1, -1, -36]), (7, [7, 4], [0]), (7, [5, 6], [2])], [], [], [(20, [3, 2, 15], [30, 0, 1, 1, 170, -1, 0, 0, -36, 0, 0])], [], [(15, 5, 1, 1), (15, 6, -4294967296, 0), (7, 4, 0, 0), (5, 6, -4294967296, -1)])
theorem oo_Mo_writeGroup_at_l3_5 {kA : Nat → ClassId} : or_ok PRD kA GG o_Mo_writeGroup_at_l3_5 := by
  refine or_mk fun A ta ws vs hD hth hl => ?_
  intro t0 r0 t2 k2 t4 k4 t5 k5 t6 k6 t7 k7 t9 k9 t10 k10 t11 k11 t12 k12 t14 k14 t15 k15 d0 d1 d2 d3 f0 f1 f2 f3 f4 f5 f6 f7 f8 f9 ta1 w1 le1 s1 f11 f12 f13 f14 ta2 w2 le2 s2 f16 f17 ta3 w3 le3 s3 f19 f20 f21
  replace f0 := shm_4 f0
  replace f1 := shm_2039 f1
  replace f2 := shm_732 f2
  replace f3 := shm_2038 f3
  replace f4 := shm_2037 f4
  replace f5 := shm_597 f5
  replace f6 := shm_126 f6
  replace f7 := shm_127 f7
  replace f8 := shm_5 f8
  replace f9 := shm_210 f9
  replace f11 := shm_2039 f11
  replace f12 := shm_24 f12
  replace f13 := shm_2038 f13
  replace f14 := shm_2037 f14
  replace f16 := shm_2038 f16
  replace f17 := shm_2037 f17
  replace f19 := shm_2037 f19
  replace f20 := shm_37 f20
  replace f21 := shm_6 f21
  have q3 : n_v vs 3 = n_v vs 0 := f8.symm
  simp only [q3] at f2 f5 f6 f7 f9
  have kz_0_170 := fdq_11 hD hth r0
  have nf0 : fc_1 PRD (20, [3, 2, 15], [30, 0, 1, 1, 170, -1, 0, 0, -36, 0, 0]) ws (vs) := by
    refine ⟨nf_in hl rfl, sgq_2035 ?_⟩
    · show 1 * w_fi ws (n_v vs 3) 170 + ((-1) * v_iv (n_v vs 2) + ((-36) * v_iv (n_v vs 15) + 0)) ≤ 0
      rw [q3]
      exact vc_Mo_writeGroup_at_l3_5_0 (v_iv (n_v vs 2)) (v_iv (n_v vs 4)) (v_iv (n_v vs 5)) (v_iv (n_v vs 6)) (v_iv (n_v vs 7)) (v_iv (n_v vs 9)) (v_iv (n_v vs 10)) (v_iv (n_v vs 11)) (v_iv (n_v vs 12)) (v_iv (n_v vs 14)) (v_iv (n_v vs 15)) (w_ei ws (w_ar ws (n_v vs 0) 2)) (w_fi ws (n_v vs 0) 5) (w_fi ws (n_v vs 0) 170) k2 k4 k5 k6 k7 k9 k10 k11 k12 k14 k15 d0 d1 d2 d3 f0 f1 f2 f3 f4 f5 f6 f7 f9 f11 f12 f13 f14 f16 f17 f19 f20 f21 kz_0_170
  refine ⟨(fun _ h => (by cases h)), [], trivial, ?_, (fun _ h => (by cases h))⟩
  rw [List.append_nil]
  exact List.forall_mem_cons.mpr ⟨⟨show (20 : Nat) < 100 from by decide, nf0⟩, (fun _ h => (by cases h))⟩
set_option maxHeartbeats 4000000 in
theorem vc_Mo_writeGroup_at_l3_6_0 (x2 : Int) (x4 : Int) (x5 : Int) (x6 : Int) (x7 : Int) (x9 : Int) (x10 : Int) (x11 : Int) (x12 : Int) (all_0 : Int → Int) (r_0 : Int) (texts_0 : Int) (gx : Int) (k2 : 0 ≤ x2 ∧ x2 ≤ 99942624) (k4 : 3 ≤ x4 ∧ x4 ≤ 7) (k5 : 0 ≤ x5 ∧ x5 ≤ 23) (k6 : 1 ≤ x6 ∧ x6 ≤ 24) (k7 : 3 ≤ x7 ∧ x7 ≤ 7) (k9 : 0 ≤ x9 ∧ x9 ≤ 99999995) (k10 : 0 ≤ x10 ∧ x10 ≤ 99999992) (k11 : 2 ≤ x11 ∧ x11 ≤ 99) (k12 : 1 ≤ x12 ∧ x12 ≤ 1) (d0 : x4 + 0 ≤ x7 ∧ x7 ≤ x4 + 0) (d1 : x6 + (-4294967296) ≤ x5 ∧ x5 ≤ x6 + (-1)) (f0 : x12 < x11) (f1 : x11 = all_0 (((r_0 + 219) + x5))) (f2 : 1 * x10 + ((-1) * x2 + ((-36) * x5 + 0)) ≤ 5) (f3 : 1 * x9 + ((-1) * x2 + ((-36) * x5 + 0)) ≤ 0) (f4 : x7 = all_0 (((r_0 + 243) + x5))) (f5 : 1 * x6 + ((-1) * all_0 (r_0 + 0) + 0) ≤ 0) (f6 : (-1) * x6 + (1 * all_0 (r_0 + 0) + 0) ≤ 0) (f8 : 1 * texts_0 + ((-1) * x10 + 0) ≤ 8) (f10 : 1 * x10 + ((-1) * x2 + ((-36) * x5 + 0)) ≤ 5) (f11 : 1 * x9 + ((-1) * x2 + ((-36) * x5 + 0)) ≤ 0) (f13 : 1 * x9 + ((-1) * x2 + ((-36) * x5 + 0)) ≤ 0) (f14 : x7 = x4) (f15 : x5 < x6) (kz_0_170 : 0 ≤ texts_0 ∧ texts_0 ≤ 100000000) (ex2 : gx = texts_0) (ex3 : 0 ≤ gx ∧ gx ≤ 99999993) : 1 * texts_0 + ((-1) * gx + 0) ≤ 0 := by
  first | assumption | omega | grind
set_option maxHeartbeats 4000000 in
theorem vc_Mo_writeGroup_at_l3_6_1 (x2 : Int) (x4 : Int) (x5 : Int) (x6 : Int) (x7 : Int) (x9 : Int) (x10 : Int) (x11 : Int) (x12 : Int) (all_0 : Int → Int) (r_0 : Int) (texts_0 : Int) (gx : Int) (k2 : 0 ≤ x2 ∧ x2 ≤ 99942624) (k4 : 3 ≤ x4 ∧ x4 ≤ 7) (k5 : 0 ≤ x5 ∧ x5 ≤ 23) (k6 : 1 ≤ x6 ∧ x6 ≤ 24) (k7 : 3 ≤ x7 ∧ x7 ≤ 7) (k9 : 0 ≤ x9 ∧ x9 ≤ 99999995) (k10 : 0 ≤ x10 ∧ x10 ≤ 99999992) (k11 : 2 ≤ x11 ∧ x11 ≤ 99) (k12 : 1 ≤ x12 ∧ x12 ≤ 1) (d0 : x4 + 0 ≤ x7 ∧ x7 ≤ x4 + 0) (d1 : x6 + (-4294967296) ≤ x5 ∧ x5 ≤ x6 + (-1)) (f0 : x12 < x11) (f1 : x11 = all_0 (((r_0 + 219) + x5))) (f2 : 1 * x10 + ((-1) * x2 + ((-36) * x5 + 0)) ≤ 5) (f3 : 1 * x9 + ((-1) * x2 + ((-36) * x5 + 0)) ≤ 0) (f4 : x7 = all_0 (((r_0 + 243) + x5))) (f5 : 1 * x6 + ((-1) * all_0 (r_0 + 0) + 0) ≤ 0) (f6 : (-1) * x6 + (1 * all_0 (r_0 + 0) + 0) ≤ 0) (f8 : 1 * texts_0 + ((-1) * x10 + 0) ≤ 8) (f10 : 1 * x10 + ((-1) * x2 + ((-36) * x5 + 0)) ≤ 5) (f11 : 1 * x9 + ((-1) * x2 + ((-36) * x5 + 0)) ≤ 0) (f13 : 1 * x9 + ((-1) * x2 + ((-36) * x5 + 0)) ≤ 0) (f14 : x7 = x4) (f15 : x5 < x6) (kz_0_170 : 0 ≤ texts_0 ∧ texts_0 ≤ 100000000) (ex2 : gx = texts_0) (ex3 : 0 ≤ gx ∧ gx ≤ 99999993) : 1 * gx + ((-1) * x2 + ((-36) * x5 + 0)) ≤ 13 := by
  first | assumption | omega | grind
def o_Mo_writeGroup_at_l3_6 : or_T := (47, 14, [(0, (2, 0, 0, [165])), (2, (0, 0, 99942624, [])), (3, (2, 0, 0, [165])), (4, (0, 3, 7, [])), (5, (0, 0, 23, [])), (6, (0, 1, 24, [])), (7, (0, 3, 7, [])), (9, (0, 0, 99999995, [])), (10, (0, 0, 99999992, [])), (11, (0, 2, 99, [])), (12, (0, 1, 1, []))], [(7, [11, 12], [4]), (20, [11, 3, 5], [50, 1, 1, 1005, 1002, 1, 2, 1, 0, 3, 1, 2, 4, 7, 4, 3, 2, 1, 5, 0, 219, 1, 2]), (23, [10, 2, 5], [5, 1, -1, -36]), (23, [9, 2, 5], [0, 1, -1, -36]), (20, [7, 3, 5], [50, 1, 1, 1005, 1002, 1, 2, 1, 0, 3, 1, 2, 4, 7, 4, 3, 2, 1, 5, 0, 243, 1, 2]), (20, [6, 3], [30, 0, 1, 0, 0, -1, 3, 2005000]), (20, [6, 3], [30, 0, -1, 0, 0, 1, 3, 2005000]), (24, [0, 3], []), (20, [3, 10], [30, 8, 1, 1, 170, -1, 0, 0]), (102, [10], [7770675568902916283677847627294075626569627356208558085007249638955617140820833992704, 165170]), (23, [10, 2, 5], [5, 1, -1, -36]), (23, [9, 2, 5], [0, 1, -1, -36]), (102, [9], [7770675568902916283677847627294075626569627356208558085007249638955617140820833992704, 165170]), (23, [9, 2, 5], [0, 1, -1, -36]), (7, [7, 4], [0]), (7, [5, 6], [2])], [], [(0, 0, 99999993, [])], [(20, [3, 14], [30, 0, 1, 1, 170, -1, 0, 0]), (23, [14, 2, 5], [13, 1, -1, -36])], [], [(7, 4, 0, 0), (5, 6, -4294967296, -1)])
theorem oo_Mo_writeGroup_at_l3_6 {kA : Nat → ClassId} : or_ok PRD kA GG o_Mo_writeGroup_at_l3_6 := by
  refine or_mk fun A ta ws vs hD hth hl => ?_
  intro t0 r0 t2 k2 t3 r3 t4 k4 t5 k5 t6 k6 t7 k7 t9 k9 t10 k10 t11 k11 t12 k12 d0 d1 f0 f1 f2 f3 f4 f5 f6 f7 f8 ta1 w1 le1 s1 f10 f11 ta2 w2 le2 s2 f13 f14 f15
  replace f0 := shm_21 f0
  replace f1 := shm_732 f1
  replace f2 := shm_2038 f2
  replace f3 := shm_2037 f3
  replace f4 := shm_597 f4
  replace f5 := shm_126 f5
  replace f6 := shm_127 f6
  replace f7 := shm_5 f7
  replace f8 := shm_160 f8
  replace f10 := shm_2038 f10
  replace f11 := shm_2037 f11
  replace f13 := shm_2037 f13
  replace f14 := shm_37 f14
  replace f15 := shm_6 f15
  have q3 : n_v vs 3 = n_v vs 0 := f7.symm
  simp only [q3] at f1 f4 f5 f6 f8
  have cr_0_2 := fdq_10 hD hth r0
  have br_0_2_F5_0_0 : w_ei ws (w_ar ws (n_v vs 0) 2) (w_fi ws (n_v vs 0) 5 + 0) = w_el ws (w_ar ws (n_v vs 0) 2) (w_fi ws (n_v vs 0) 5 + 0).toNat := rfl
  have kz_0_170 := fdq_11 hD hth r0
  have kv0 := fdq_11 hD hth r0
  obtain ⟨x, ex, hx⟩ := iv_ex (ta := ta) (lo := 0) (hi := 99999993) (z := w_fi ws (n_v vs 0) 170) (by omega) (by omega) (by omega) (by omega)
  have ex2 : v_iv (Value.int x) = w_fi ws (n_v vs 0) 170 := ex
  have ex3 : 0 ≤ v_iv (Value.int x) ∧ v_iv (Value.int x) ≤ 99999993 := tv_rng hx
  have e_2 : n_v (vs ++ [Value.int x]) 2 = n_v vs 2 := n_v_old (by rw [hl]; decide)
  have e_3 : n_v (vs ++ [Value.int x]) 3 = n_v vs 3 := n_v_old (by rw [hl]; decide)
  have e_5 : n_v (vs ++ [Value.int x]) 5 = n_v vs 5 := n_v_old (by rw [hl]; decide)
  have e_14 : n_v (vs ++ [Value.int x]) 14 = Value.int x := n_v_new hl
  have nf0 : fc_1 PRD (20, [3, 14], [30, 0, 1, 1, 170, -1, 0, 0]) ws (vs ++ [Value.int x]) := by
    refine ⟨nf_inA hl rfl, sgq_131 ?_⟩
    · show 1 * w_fi ws (n_v (vs ++ [Value.int x]) 3) 170 + ((-1) * v_iv (n_v (vs ++ [Value.int x]) 14) + 0) ≤ 0
      simp only [e_3, e_14, q3]
      exact vc_Mo_writeGroup_at_l3_6_0 (v_iv (n_v vs 2)) (v_iv (n_v vs 4)) (v_iv (n_v vs 5)) (v_iv (n_v vs 6)) (v_iv (n_v vs 7)) (v_iv (n_v vs 9)) (v_iv (n_v vs 10)) (v_iv (n_v vs 11)) (v_iv (n_v vs 12)) (w_ei ws (w_ar ws (n_v vs 0) 2)) (w_fi ws (n_v vs 0) 5) (w_fi ws (n_v vs 0) 170) (v_iv (Value.int x)) k2 k4 k5 k6 k7 k9 k10 k11 k12 d0 d1 f0 f1 f2 f3 f4 f5 f6 f8 f10 f11 f13 f14 f15 kz_0_170 ex2 ex3
  have nf1 : fc_1 PRD (23, [14, 2, 5], [13, 1, -1, -36]) ws (vs ++ [Value.int x]) := by
    refine ⟨nf_inA hl rfl, sgq_2040 ?_⟩
    · show 1 * v_iv (n_v (vs ++ [Value.int x]) 14) + ((-1) * v_iv (n_v (vs ++ [Value.int x]) 2) + ((-36) * v_iv (n_v (vs ++ [Value.int x]) 5) + 0)) ≤ 13
      simp only [e_2, e_5, e_14]
      exact vc_Mo_writeGroup_at_l3_6_1 (v_iv (n_v vs 2)) (v_iv (n_v vs 4)) (v_iv (n_v vs 5)) (v_iv (n_v vs 6)) (v_iv (n_v vs 7)) (v_iv (n_v vs 9)) (v_iv (n_v vs 10)) (v_iv (n_v vs 11)) (v_iv (n_v vs 12)) (w_ei ws (w_ar ws (n_v vs 0) 2)) (w_fi ws (n_v vs 0) 5) (w_fi ws (n_v vs 0) 170) (v_iv (Value.int x)) k2 k4 k5 k6 k7 k9 k10 k11 k12 d0 d1 f0 f1 f2 f3 f4 f5 f6 f8 f10 f11 f13 f14 f15 kz_0_170 ex2 ex3
  exact ⟨(fun _ h => (by cases h)), [Value.int x], ag_one hx, List.forall_mem_cons.mpr ⟨⟨show (20 : Nat) < 100 from by decide, nf0⟩, List.forall_mem_cons.mpr ⟨⟨show (23 : Nat) < 100 from by decide, nf1⟩, (fun _ h => (by cases h))⟩⟩, (fun _ h => (by cases h))⟩
set_option maxHeartbeats 4000000 in
theorem vc_Mo_writeGroup_at_l3_7_0 (x2 : Int) (x4 : Int) (x5 : Int) (x6 : Int) (x7 : Int) (x9 : Int) (x10 : Int) (x11 : Int) (x12 : Int) (x14 : Int) (x15 : Int) (all_0 : Int → Int) (r_0 : Int) (texts_0 : Int) (gx : Int) (k2 : 0 ≤ x2 ∧ x2 ≤ 99942624) (k4 : 3 ≤ x4 ∧ x4 ≤ 7) (k5 : 0 ≤ x5 ∧ x5 ≤ 23) (k6 : 1 ≤ x6 ∧ x6 ≤ 24) (k7 : 3 ≤ x7 ∧ x7 ≤ 7) (k9 : 0 ≤ x9 ∧ x9 ≤ 99999995) (k10 : 0 ≤ x10 ∧ x10 ≤ 99999992) (k11 : 2 ≤ x11 ∧ x11 ≤ 99) (k12 : 1 ≤ x12 ∧ x12 ≤ 1) (k14 : 0 ≤ x14 ∧ x14 ≤ 99999993) (k15 : 0 ≤ x15 ∧ x15 ≤ 99) (d0 : x4 + 0 ≤ x7 ∧ x7 ≤ x4 + 0) (d1 : x6 + (-4294967296) ≤ x5 ∧ x5 ≤ x6 + (-1)) (f0 : x15 = all_0 (((r_0 + 219) + x5))) (f1 : 1 * x14 + ((-1) * x2 + ((-36) * x5 + 0)) ≤ 13) (f2 : x11 = all_0 (((r_0 + 219) + x5))) (f3 : 1 * x10 + ((-1) * x2 + ((-36) * x5 + 0)) ≤ 5) (f4 : 1 * x9 + ((-1) * x2 + ((-36) * x5 + 0)) ≤ 0) (f5 : x7 = all_0 (((r_0 + 243) + x5))) (f6 : 1 * x6 + ((-1) * all_0 (r_0 + 0) + 0) ≤ 0) (f7 : (-1) * x6 + (1 * all_0 (r_0 + 0) + 0) ≤ 0) (f9 : 1 * texts_0 + ((-1) * x14 + 0) ≤ 7) (f11 : 1 * x14 + ((-1) * x2 + ((-36) * x5 + 0)) ≤ 13) (f12 : x12 < x11) (f13 : 1 * x10 + ((-1) * x2 + ((-36) * x5 + 0)) ≤ 5) (f14 : 1 * x9 + ((-1) * x2 + ((-36) * x5 + 0)) ≤ 0) (f16 : 1 * x10 + ((-1) * x2 + ((-36) * x5 + 0)) ≤ 5) (f17 : 1 * x9 + ((-1) * x2 + ((-36) * x5 + 0)) ≤ 0) (f19 : 1 * x9 + ((-1) * x2 + ((-36) * x5 + 0)) ≤ 0) (f20 : x7 = x4) (f21 : x5 < x6) (kz_0_170 : 0 ≤ texts_0 ∧ texts_0 ≤ 100000000) (ex2 : gx = texts_0) (ex3 : 0 ≤ gx ∧ gx ≤ 99999987) : 1 * texts_0 + ((-1) * gx + 0) ≤ 0 := by
  first | assumption | omega | grind
set_option maxHeartbeats 4000000 in
theorem vc_Mo_writeGroup_at_l3_7_1 (x2 : Int) (x4 : Int) (x5 : Int) (x6 : Int) (x7 : Int) (x9 : Int) (x10 : Int) (x11 : Int) (x12 : Int) (x14 : Int) (x15 : Int) (all_0 : Int → Int) (r_0 : Int) (texts_0 : Int) (gx : Int) (k2 : 0 ≤ x2 ∧ x2 ≤ 99942624) (k4 : 3 ≤ x4 ∧ x4 ≤ 7) (k5 : 0 ≤ x5 ∧ x5 ≤ 23) (k6 : 1 ≤ x6 ∧ x6 ≤ 24) (k7 : 3 ≤ x7 ∧ x7 ≤ 7) (k9 : 0 ≤ x9 ∧ x9 ≤ 99999995) (k10 : 0 ≤ x10 ∧ x10 ≤ 99999992) (k11 : 2 ≤ x11 ∧ x11 ≤ 99) (k12 : 1 ≤ x12 ∧ x12 ≤ 1) (k14 : 0 ≤ x14 ∧ x14 ≤ 99999993) (k15 : 0 ≤ x15 ∧ x15 ≤ 99) (d0 : x4 + 0 ≤ x7 ∧ x7 ≤ x4 + 0) (d1 : x6 + (-4294967296) ≤ x5 ∧ x5 ≤ x6 + (-1)) (f0 : x15 = all_0 (((r_0 + 219) + x5))) (f1 : 1 * x14 + ((-1) * x2 + ((-36) * x5 + 0)) ≤ 13) (f2 : x11 = all_0 (((r_0 + 219) + x5))) (f3 : 1 * x10 + ((-1) * x2 + ((-36) * x5 + 0)) ≤ 5) (f4 : 1 * x9 + ((-1) * x2 + ((-36) * x5 + 0)) ≤ 0) (f5 : x7 = all_0 (((r_0 + 243) + x5))) (f6 : 1 * x6 + ((-1) * all_0 (r_0 + 0) + 0) ≤ 0) (f7 : (-1) * x6 + (1 * all_0 (r_0 + 0) + 0) ≤ 0) (f9 : 1 * texts_0 + ((-1) * x14 + 0) ≤ 7) (f11 : 1 * x14 + ((-1) * x2 + ((-36) * x5 + 0)) ≤ 13) (f12 : x12 < x11) (f13 : 1 * x10 + ((-1) * x2 + ((-36) * x5 + 0)) ≤ 5) (f14 : 1 * x9 + ((-1) * x2 + ((-36) * x5 + 0)) ≤ 0) (f16 : 1 * x10 + ((-1) * x2 + ((-36) * x5 + 0)) ≤ 5) (f17 : 1 * x9 + ((-1) * x2 + ((-36) * x5 + 0)) ≤ 0) (f19 : 1 * x9 + ((-1) * x2 + ((-36) * x5 + 0)) ≤ 0) (f20 : x7 = x4) (f21 : x5 < x6) (kz_0_170 : 0 ≤ texts_0 ∧ texts_0 ≤ 100000000) (ex2 : gx = texts_0) (ex3 : 0 ≤ gx ∧ gx ≤ 99999987) : 1 * gx + ((-1) * x2 + ((-36) * x5 + 0)) ≤ 20 := by
  first | assumption | omega | grind
def o_Mo_writeGroup_at_l3_7 : or_T := (56, 16, [(0, (2, 0, 0, [165])), (2, (0, 0, 99942624, [])), (3, (2, 0, 0, [165])), (4, (0, 3, 7, [])), (5, (0, 0, 23, [])), (6, (0, 1, 24, [])), (7, (0, 3, 7, [])), (9, (0, 0, 99999995, [])), (10, (0, 0, 99999992, [])), (11, (0, 2, 99, [])), (12, (0, 1, 1, [])), (14, (0, 0, 99999993, [])), (15, (0, 0, 99, []))], [(20, [15, 3, 5], [50, 1, 1, 1005, 1002, 1, 2, 1, 0, 3, 1, 2, 4, 7, 4, 3, 2, 1, 5, 0, 219, 1, 2]), (23, [14, 2, 5], [13, 1, -1, -36]), (20, [11, 3, 5], [50, 1, 1, 1005, 1002, 1, 2, 1, 0, 3, 1, 2, 4, 7, 4, 3, 2, 1, 5, 0, 219, 1, 2]), (23, [10, 2, 5], [5, 1, -1, -36]), (23, [9, 2, 5], [0, 1, -1, -36]), (20, [7, 3, 5], [50, 1, 1, 1005, 1002, 1, 2, 1, 0, 3, 1, 2, 4, 7, 4, 3, 2, 1, 5, 0, 243, 1, 2]), (20, [6, 3], [30, 0, 1, 0, 0, -1, 3, 2005000]), (20, [6, 3], [30, 0, -1, 0, 0, 1, 3, 2005000]), (24, [0, 3], []), (20, [3, 14], [30, 7, 1, 1, 170, -1, 0, 0]), (102, [14], [7770675568902916283677847627294075626569627356208558085007249638955617140820833992704, 165170]), (23, [14, 2, 5], [13, 1, -1, -36]), (7, [11, 12], [4]), (23, [10, 2, 5], [5, 1, -1, -36]), (23, [9, 2, 5], [0, 1, -1, -36]), (102, [10], [7770675568902916283677847627294075626569627356208558085007249638955617140820833992704, 165170]), (23, [10, 2, 5], [5, 1, -1, -36]), (23, [9, 2, 5], [0, 1, -1, -36]), (102, [9], [7770675568902916283677847627294075626569627356208558085007249638955617140820833992704, 165170]), (23, [9, 2, 5], [0, 1, -1, -36]), (7, [7, 4], [0]), (7, [5, 6], [2])], [], [(0, 0, 99999987, [])], [(20, [3, 16], [30, 0, 1, 1, 170, -1, 0, 0]), (23, [16, 2, 5], [20, 1, -1, -36])], [], [(7, 4, 0, 0), (5, 6, -4294967296, -1)])
theorem oo_Mo_writeGroup_at_l3_7 {kA : Nat → ClassId} : or_ok PRD kA GG o_Mo_writeGroup_at_l3_7 := by
  refine or_mk fun A ta ws vs hD hth hl => ?_
  intro t0 r0 t2 k2 t3 r3 t4 k4 t5 k5 t6 k6 t7 k7 t9 k9 t10 k10 t11 k11 t12 k12 t14 k14 t15 k15 d0 d1 f0 f1 f2 f3 f4 f5 f6 f7 f8 f9 ta1 w1 le1 s1 f11 f12 f13 f14 ta2 w2 le2 s2 f16 f17 ta3 w3 le3 s3 f19 f20 f21
  replace f0 := shm_732 f0
  replace f1 := shm_2040 f1
  replace f2 := shm_732 f2
  replace f3 := shm_2038 f3
  replace f4 := shm_2037 f4
  replace f5 := shm_597 f5
  replace f6 := shm_126 f6
  replace f7 := shm_127 f7
  replace f8 := shm_5 f8
  replace f9 := shm_209 f9
  replace f11 := shm_2040 f11
  replace f12 := shm_21 f12
  replace f13 := shm_2038 f13
  replace f14 := shm_2037 f14
  replace f16 := shm_2038 f16
  replace f17 := shm_2037 f17
  replace f19 := shm_2037 f19
  replace f20 := shm_37 f20
  replace f21 := shm_6 f21
  have q3 : n_v vs 3 = n_v vs 0 := f8.symm
  simp only [q3] at f0 f2 f5 f6 f7 f9
  have cr_0_2 := fdq_10 hD hth r0
  have br_0_2_F5_0_0 : w_ei ws (w_ar ws (n_v vs 0) 2) (w_fi ws (n_v vs 0) 5 + 0) = w_el ws (w_ar ws (n_v vs 0) 2) (w_fi ws (n_v vs 0) 5 + 0).toNat := rfl
  have kz_0_170 := fdq_11 hD hth r0
  have kv0 := fdq_11 hD hth r0
  obtain ⟨x, ex, hx⟩ := iv_ex (ta := ta) (lo := 0) (hi := 99999987) (z := w_fi ws (n_v vs 0) 170) (by omega) (by omega) (by omega) (by omega)
  have ex2 : v_iv (Value.int x) = w_fi ws (n_v vs 0) 170 := ex
  have ex3 : 0 ≤ v_iv (Value.int x) ∧ v_iv (Value.int x) ≤ 99999987 := tv_rng hx
  have e_2 : n_v (vs ++ [Value.int x]) 2 = n_v vs 2 := n_v_old (by rw [hl]; decide)
  have e_3 : n_v (vs ++ [Value.int x]) 3 = n_v vs 3 := n_v_old (by rw [hl]; decide)
  have e_5 : n_v (vs ++ [Value.int x]) 5 = n_v vs 5 := n_v_old (by rw [hl]; decide)
  have e_16 : n_v (vs ++ [Value.int x]) 16 = Value.int x := n_v_new hl
  have nf0 : fc_1 PRD (20, [3, 16], [30, 0, 1, 1, 170, -1, 0, 0]) ws (vs ++ [Value.int x]) := by
    refine ⟨nf_inA hl rfl, sgq_131 ?_⟩
    · show 1 * w_fi ws (n_v (vs ++ [Value.int x]) 3) 170 + ((-1) * v_iv (n_v (vs ++ [Value.int x]) 16) + 0) ≤ 0
      simp only [e_3, e_16, q3]
      exact vc_Mo_writeGroup_at_l3_7_0 (v_iv (n_v vs 2)) (v_iv (n_v vs 4)) (v_iv (n_v vs 5)) (v_iv (n_v vs 6)) (v_iv (n_v vs 7)) (v_iv (n_v vs 9)) (v_iv (n_v vs 10)) (v_iv (n_v vs 11)) (v_iv (n_v vs 12)) (v_iv (n_v vs 14)) (v_iv (n_v vs 15)) (w_ei ws (w_ar ws (n_v vs 0) 2)) (w_fi ws (n_v vs 0) 5) (w_fi ws (n_v vs 0) 170) (v_iv (Value.int x)) k2 k4 k5 k6 k7 k9 k10 k11 k12 k14 k15 d0 d1 f0 f1 f2 f3 f4 f5 f6 f7 f9 f11 f12 f13 f14 f16 f17 f19 f20 f21 kz_0_170 ex2 ex3
  have nf1 : fc_1 PRD (23, [16, 2, 5], [20, 1, -1, -36]) ws (vs ++ [Value.int x]) := by
    refine ⟨nf_inA hl rfl, sgq_2041 ?_⟩
    · show 1 * v_iv (n_v (vs ++ [Value.int x]) 16) + ((-1) * v_iv (n_v (vs ++ [Value.int x]) 2) + ((-36) * v_iv (n_v (vs ++ [Value.int x]) 5) + 0)) ≤ 20
      simp only [e_2, e_5, e_16]
      exact vc_Mo_writeGroup_at_l3_7_1 (v_iv (n_v vs 2)) (v_iv (n_v vs 4)) (v_iv (n_v vs 5)) (v_iv (n_v vs 6)) (v_iv (n_v vs 7)) (v_iv (n_v vs 9)) (v_iv (n_v vs 10)) (v_iv (n_v vs 11)) (v_iv (n_v vs 12)) (v_iv (n_v vs 14)) (v_iv (n_v vs 15)) (w_ei ws (w_ar ws (n_v vs 0) 2)) (w_fi ws (n_v vs 0) 5) (w_fi ws (n_v vs 0) 170) (v_iv (Value.int x)) k2 k4 k5 k6 k7 k9 k10 k11 k12 k14 k15 d0 d1 f0 f1 f2 f3 f4 f5 f6 f7 f9 f11 f12 f13 f14 f16 f17 f19 f20 f21 kz_0_170 ex2 ex3
  exact ⟨(fun _ h => (by cases h)), [Value.int x], ag_one hx, List.forall_mem_cons.mpr ⟨⟨show (20 : Nat) < 100 from by decide, nf0⟩, List.forall_mem_cons.mpr ⟨⟨show (23 : Nat) < 100 from by decide, nf1⟩, (fun _ h => (by cases h))⟩⟩, (fun _ h => (by cases h))⟩
set_option maxHeartbeats 4000000 in
theorem vc_Mo_writeGroup_at_l3_8_0 (x2 : Int) (x4 : Int) (x5 : Int) (x6 : Int) (x7 : Int) (x9 : Int) (x10 : Int) (x11 : Int) (x12 : Int) (x14 : Int) (x15 : Int) (x16 : Int) (all_0 : Int → Int) (r_0 : Int) (texts_0 : Int) (gx : Int) (k2 : 0 ≤ x2 ∧ x2 ≤ 99942624) (k4 : 3 ≤ x4 ∧ x4 ≤ 7) (k5 : 0 ≤ x5 ∧ x5 ≤ 23) (k6 : 1 ≤ x6 ∧ x6 ≤ 24) (k7 : 3 ≤ x7 ∧ x7 ≤ 7) (k9 : 0 ≤ x9 ∧ x9 ≤ 99999995) (k10 : 0 ≤ x10 ∧ x10 ≤ 99999992) (k11 : 2 ≤ x11 ∧ x11 ≤ 99) (k12 : 1 ≤ x12 ∧ x12 ≤ 1) (k14 : 0 ≤ x14 ∧ x14 ≤ 99999993) (k15 : 0 ≤ x15 ∧ x15 ≤ 99) (k16 : 0 ≤ x16 ∧ x16 ≤ 99999987) (d0 : x4 + 0 ≤ x7 ∧ x7 ≤ x4 + 0) (d1 : x6 + (-4294967296) ≤ x5 ∧ x5 ≤ x6 + (-1)) (f0 : 1 * x16 + ((-1) * x2 + ((-36) * x5 + 0)) ≤ 20) (f1 : x15 = all_0 (((r_0 + 219) + x5))) (f2 : 1 * x14 + ((-1) * x2 + ((-36) * x5 + 0)) ≤ 13) (f3 : x11 = all_0 (((r_0 + 219) + x5))) (f4 : 1 * x10 + ((-1) * x2 + ((-36) * x5 + 0)) ≤ 5) (f5 : 1 * x9 + ((-1) * x2 + ((-36) * x5 + 0)) ≤ 0) (f6 : x7 = all_0 (((r_0 + 243) + x5))) (f7 : 1 * x6 + ((-1) * all_0 (r_0 + 0) + 0) ≤ 0) (f8 : (-1) * x6 + (1 * all_0 (r_0 + 0) + 0) ≤ 0) (f10 : 1 * texts_0 + ((-1) * x16 + 0) ≤ 13) (f12 : 1 * x16 + ((-1) * x2 + ((-36) * x5 + 0)) ≤ 20) (f13 : 1 * x14 + ((-1) * x2 + ((-36) * x5 + 0)) ≤ 13) (f14 : 1 * x10 + ((-1) * x2 + ((-36) * x5 + 0)) ≤ 5) (f15 : 1 * x9 + ((-1) * x2 + ((-36) * x5 + 0)) ≤ 0) (f17 : 1 * x14 + ((-1) * x2 + ((-36) * x5 + 0)) ≤ 13) (f18 : x12 < x11) (f19 : 1 * x10 + ((-1) * x2 + ((-36) * x5 + 0)) ≤ 5) (f20 : 1 * x9 + ((-1) * x2 + ((-36) * x5 + 0)) ≤ 0) (f22 : 1 * x10 + ((-1) * x2 + ((-36) * x5 + 0)) ≤ 5) (f23 : 1 * x9 + ((-1) * x2 + ((-36) * x5 + 0)) ≤ 0) (f25 : 1 * x9 + ((-1) * x2 + ((-36) * x5 + 0)) ≤ 0) (f26 : x7 = x4) (f27 : x5 < x6) (kz_0_170 : 0 ≤ texts_0 ∧ texts_0 ≤ 100000000) (ex2 : gx = texts_0) (ex3 : 0 ≤ gx ∧ gx ≤ 99999999) : 1 * texts_0 + ((-1) * gx + 0) ≤ 0 := by
  first | assumption | omega | grind
set_option maxHeartbeats 4000000 in
theorem vc_Mo_writeGroup_at_l3_8_1 (x2 : Int) (x4 : Int) (x5 : Int) (x6 : Int) (x7 : Int) (x9 : Int) (x10 : Int) (x11 : Int) (x12 : Int) (x14 : Int) (x15 : Int) (x16 : Int) (all_0 : Int → Int) (r_0 : Int) (texts_0 : Int) (gx : Int) (k2 : 0 ≤ x2 ∧ x2 ≤ 99942624) (k4 : 3 ≤ x4 ∧ x4 ≤ 7) (k5 : 0 ≤ x5 ∧ x5 ≤ 23) (k6 : 1 ≤ x6 ∧ x6 ≤ 24) (k7 : 3 ≤ x7 ∧ x7 ≤ 7) (k9 : 0 ≤ x9 ∧ x9 ≤ 99999995) (k10 : 0 ≤ x10 ∧ x10 ≤ 99999992) (k11 : 2 ≤ x11 ∧ x11 ≤ 99) (k12 : 1 ≤ x12 ∧ x12 ≤ 1) (k14 : 0 ≤ x14 ∧ x14 ≤ 99999993) (k15 : 0 ≤ x15 ∧ x15 ≤ 99) (k16 : 0 ≤ x16 ∧ x16 ≤ 99999987) (d0 : x4 + 0 ≤ x7 ∧ x7 ≤ x4 + 0) (d1 : x6 + (-4294967296) ≤ x5 ∧ x5 ≤ x6 + (-1)) (f0 : 1 * x16 + ((-1) * x2 + ((-36) * x5 + 0)) ≤ 20) (f1 : x15 = all_0 (((r_0 + 219) + x5))) (f2 : 1 * x14 + ((-1) * x2 + ((-36) * x5 + 0)) ≤ 13) (f3 : x11 = all_0 (((r_0 + 219) + x5))) (f4 : 1 * x10 + ((-1) * x2 + ((-36) * x5 + 0)) ≤ 5) (f5 : 1 * x9 + ((-1) * x2 + ((-36) * x5 + 0)) ≤ 0) (f6 : x7 = all_0 (((r_0 + 243) + x5))) (f7 : 1 * x6 + ((-1) * all_0 (r_0 + 0) + 0) ≤ 0) (f8 : (-1) * x6 + (1 * all_0 (r_0 + 0) + 0) ≤ 0) (f10 : 1 * texts_0 + ((-1) * x16 + 0) ≤ 13) (f12 : 1 * x16 + ((-1) * x2 + ((-36) * x5 + 0)) ≤ 20) (f13 : 1 * x14 + ((-1) * x2 + ((-36) * x5 + 0)) ≤ 13) (f14 : 1 * x10 + ((-1) * x2 + ((-36) * x5 + 0)) ≤ 5) (f15 : 1 * x9 + ((-1) * x2 + ((-36) * x5 + 0)) ≤ 0) (f17 : 1 * x14 + ((-1) * x2 + ((-36) * x5 + 0)) ≤ 13) (f18 : x12 < x11) (f19 : 1 * x10 + ((-1) * x2 + ((-36) * x5 + 0)) ≤ 5) (f20 : 1 * x9 + ((-1) * x2 + ((-36) * x5 + 0)) ≤ 0) (f22 : 1 * x10 + ((-1) * x2 + ((-36) * x5 + 0)) ≤ 5) (f23 : 1 * x9 + ((-1) * x2 + ((-36) * x5 + 0)) ≤ 0) (f25 : 1 * x9 + ((-1) * x2 + ((-36) * x5 + 0)) ≤ 0) (f26 : x7 = x4) (f27 : x5 < x6) (kz_0_170 : 0 ≤ texts_0 ∧ texts_0 ≤ 100000000) (ex2 : gx = texts_0) (ex3 : 0 ≤ gx ∧ gx ≤ 99999999) : 1 * gx + ((-1) * x2 + ((-36) * x5 + 0)) ≤ 33 := by
  first | assumption | omega | grind
def o_Mo_writeGroup_at_l3_8 : or_T := (63, 18, [(0, (2, 0, 0, [165])), (2, (0, 0, 99942624, [])), (3, (2, 0, 0, [165])), (4, (0, 3, 7, [])), (5, (0, 0, 23, [])), (6, (0, 1, 24, [])), (7, (0, 3, 7, [])), (9, (0, 0, 99999995, [])), (10, (0, 0, 99999992, [])), (11, (0, 2, 99, [])), (12, (0, 1, 1, [])), (14, (0, 0, 99999993, [])), (15, (0, 0, 99, [])), (16, (0, 0, 99999987, []))], [(23, [16, 2, 5], [20, 1, -1, -36]), (20, [15, 3, 5], [50, 1, 1, 1005, 1002, 1, 2, 1, 0, 3, 1, 2, 4, 7, 4, 3, 2, 1, 5, 0, 219, 1, 2]), (23, [14, 2, 5], [13, 1, -1, -36]), (20, [11, 3, 5], [50, 1, 1, 1005, 1002, 1, 2, 1, 0, 3, 1, 2, 4, 7, 4, 3, 2, 1, 5, 0, 219, 1, 2]), (23, [10, 2, 5], [5, 1, -1, -36]), (23, [9, 2, 5], [0, 1, -1, -36]), (20, [7, 3, 5], [50, 1, 1, 1005, 1002, 1, 2, 1, 0, 3, 1, 2, 4, 7, 4, 3, 2, 1, 5, 0, 243, 1, 2]), (20, [6, 3], [30, 0, 1, 0, 0, -1, 3, 2005000]), (20, [6, 3], [30, 0, -1, 0, 0, 1, 3, 2005000]), (24, [0, 3], []), (20, [3, 16], [30, 13, 1, 1, 170, -1, 0, 0]), (102, [16], [7770675568902916283677847627294075626569627356208558085007249638955617140820833992704, 165170]), (23, [16, 2, 5], [20, 1, -1, -36]), (23, [14, 2, 5], [13, 1, -1, -36]), (23, [10, 2, 5], [5, 1, -1, -36]), (23, [9, 2, 5], [0, 1, -1, -36]), (102, [14], [7770675568902916283677847627294075626569627356208558085007249638955617140820833992704, 165170]), (23, [14, 2, 5], [13, 1, -1, -36]), (7, [11, 12], [4]), (23, [10, 2, 5], [5, 1, -1, -36]), (23, [9, 2, 5], [0, 1, -1, -36]), (102, [10], [7770675568902916283677847627294075626569627356208558085007249638955617140820833992704, 165170]), (23, [10, 2, 5], [5, 1, -1, -36]), (23, [9, 2, 5], [0, 1, -1, -36]), (102, [9], [7770675568902916283677847627294075626569627356208558085007249638955617140820833992704, 165170]), (23, [9, 2, 5], [0, 1, -1, -36]), (7, [7, 4], [0]), (7, [5, 6], [2])], [], [(0, 0, 99999999, [])], [(20, [3, 18], [30, 0, 1, 1, 170, -1, 0, 0]), (23, [18, 2, 5], [33, 1, -1, -36])], [], [(7, 4, 0, 0), (5, 6, -4294967296, -1)])
theorem oo_Mo_writeGroup_at_l3_8 {kA : Nat → ClassId} : or_ok PRD kA GG o_Mo_writeGroup_at_l3_8 := by
  refine or_mk fun A ta ws vs hD hth hl => ?_
  intro t0 r0 t2 k2 t3 r3 t4 k4 t5 k5 t6 k6 t7 k7 t9 k9 t10 k10 t11 k11 t12 k12 t14 k14 t15 k15 t16 k16 d0 d1 f0 f1 f2 f3 f4 f5 f6 f7 f8 f9 f10 ta1 w1 le1 s1 f12 f13 f14 f15 ta2 w2 le2 s2 f17 f18 f19 f20 ta3 w3 le3 s3 f22 f23 ta4 w4 le4 s4 f25 f26 f27
  replace f0 := shm_2041 f0
  replace f1 := shm_732 f1
  replace f2 := shm_2040 f2
  replace f3 := shm_732 f3
  replace f4 := shm_2038 f4
  replace f5 := shm_2037 f5
  replace f6 := shm_597 f6
  replace f7 := shm_126 f7
  replace f8 := shm_127 f8
  replace f9 := shm_5 f9
  replace f10 := shm_1056 f10
  replace f12 := shm_2041 f12
  replace f13 := shm_2040 f13
  replace f14 := shm_2038 f14
  replace f15 := shm_2037 f15
  replace f17 := shm_2040 f17
  replace f18 := shm_21 f18
  replace f19 := shm_2038 f19
  replace f20 := shm_2037 f20
  replace f22 := shm_2038 f22
  replace f23 := shm_2037 f23
  replace f25 := shm_2037 f25
  replace f26 := shm_37 f26
  replace f27 := shm_6 f27
  have q3 : n_v vs 3 = n_v vs 0 := f9.symm
  simp only [q3] at f1 f3 f6 f7 f8 f10
  have cr_0_2 := fdq_10 hD hth r0
  have br_0_2_F5_0_0 : w_ei ws (w_ar ws (n_v vs 0) 2) (w_fi ws (n_v vs 0) 5 + 0) = w_el ws (w_ar ws (n_v vs 0) 2) (w_fi ws (n_v vs 0) 5 + 0).toNat := rfl
  have kz_0_170 := fdq_11 hD hth r0
  have kv0 := fdq_11 hD hth r0
  obtain ⟨x, ex, hx⟩ := iv_ex (ta := ta) (lo := 0) (hi := 99999999) (z := w_fi ws (n_v vs 0) 170) (by omega) (by omega) (by omega) (by omega)
  have ex2 : v_iv (Value.int x) = w_fi ws (n_v vs 0) 170 := ex
  have ex3 : 0 ≤ v_iv (Value.int x) ∧ v_iv (Value.int x) ≤ 99999999 := tv_rng hx
  have e_2 : n_v (vs ++ [Value.int x]) 2 = n_v vs 2 := n_v_old (by rw [hl]; decide)
  have e_3 : n_v (vs ++ [Value.int x]) 3 = n_v vs 3 := n_v_old (by rw [hl]; decide)
  have e_5 : n_v (vs ++ [Value.int x]) 5 = n_v vs 5 := n_v_old (by rw [hl]; decide)
  have e_18 : n_v (vs ++ [Value.int x]) 18 = Value.int x := n_v_new hl
  have nf0 : fc_1 PRD (20, [3, 18], [30, 0, 1, 1, 170, -1, 0, 0]) ws (vs ++ [Value.int x]) := by
    refine ⟨nf_inA hl rfl, sgq_131 ?_⟩
    · show 1 * w_fi ws (n_v (vs ++ [Value.int x]) 3) 170 + ((-1) * v_iv (n_v (vs ++ [Value.int x]) 18) + 0) ≤ 0
      simp only [e_3, e_18, q3]
      exact vc_Mo_writeGroup_at_l3_8_0 (v_iv (n_v vs 2)) (v_iv (n_v vs 4)) (v_iv (n_v vs 5)) (v_iv (n_v vs 6)) (v_iv (n_v vs 7)) (v_iv (n_v vs 9)) (v_iv (n_v vs 10)) (v_iv (n_v vs 11)) (v_iv (n_v vs 12)) (v_iv (n_v vs 14)) (v_iv (n_v vs 15)) (v_iv (n_v vs 16)) (w_ei ws (w_ar ws (n_v vs 0) 2)) (w_fi ws (n_v vs 0) 5) (w_fi ws (n_v vs 0) 170) (v_iv (Value.int x)) k2 k4 k5 k6 k7 k9 k10 k11 k12 k14 k15 k16 d0 d1 f0 f1 f2 f3 f4 f5 f6 f7 f8 f10 f12 f13 f14 f15 f17 f18 f19 f20 f22 f23 f25 f26 f27 kz_0_170 ex2 ex3
  have nf1 : fc_1 PRD (23, [18, 2, 5], [33, 1, -1, -36]) ws (vs ++ [Value.int x]) := by
    refine ⟨nf_inA hl rfl, sgq_2042 ?_⟩
    · show 1 * v_iv (n_v (vs ++ [Value.int x]) 18) + ((-1) * v_iv (n_v (vs ++ [Value.int x]) 2) + ((-36) * v_iv (n_v (vs ++ [Value.int x]) 5) + 0)) ≤ 33
      simp only [e_2, e_5, e_18]
      exact vc_Mo_writeGroup_at_l3_8_1 (v_iv (n_v vs 2)) (v_iv (n_v vs 4)) (v_iv (n_v vs 5)) (v_iv (n_v vs 6)) (v_iv (n_v vs 7)) (v_iv (n_v vs 9)) (v_iv (n_v vs 10)) (v_iv (n_v vs 11)) (v_iv (n_v vs 12)) (v_iv (n_v vs 14)) (v_iv (n_v vs 15)) (v_iv (n_v vs 16)) (w_ei ws (w_ar ws (n_v vs 0) 2)) (w_fi ws (n_v vs 0) 5) (w_fi ws (n_v vs 0) 170) (v_iv (Value.int x)) k2 k4 k5 k6 k7 k9 k10 k11 k12 k14 k15 k16 d0 d1 f0 f1 f2 f3 f4 f5 f6 f7 f8 f10 f12 f13 f14 f15 f17 f18 f19 f20 f22 f23 f25 f26 f27 kz_0_170 ex2 ex3
  exact ⟨(fun _ h => (by cases h)), [Value.int x], ag_one hx, List.forall_mem_cons.mpr ⟨⟨show (20 : Nat) < 100 from by decide, nf0⟩, List.forall_mem_cons.mpr ⟨⟨show (23 : Nat) < 100 from by decide, nf1⟩, (fun _ h => (by cases h))⟩⟩, (fun _ h => (by cases h))⟩
set_option maxHeartbeats 4000000 in
theorem vc_Mo_writeGroup_at_l3_9_0 (x2 : Int) (x4 : Int) (x5 : Int) (x6 : Int) (x7 : Int) (x9 : Int) (x10 : Int) (x11 : Int) (x12 : Int) (x14 : Int) (x15 : Int) (x16 : Int) (x18 : Int) (all_0 : Int → Int) (r_0 : Int) (texts_0 : Int) (gx : Int) (k2 : 0 ≤ x2 ∧ x2 ≤ 99942624) (k4 : 3 ≤ x4 ∧ x4 ≤ 7) (k5 : 0 ≤ x5 ∧ x5 ≤ 23) (k6 : 1 ≤ x6 ∧ x6 ≤ 24) (k7 : 3 ≤ x7 ∧ x7 ≤ 7) (k9 : 0 ≤ x9 ∧ x9 ≤ 99999995) (k10 : 0 ≤ x10 ∧ x10 ≤ 99999992) (k11 : 2 ≤ x11 ∧ x11 ≤ 99) (k12 : 1 ≤ x12 ∧ x12 ≤ 1) (k14 : 0 ≤ x14 ∧ x14 ≤ 99999993) (k15 : 0 ≤ x15 ∧ x15 ≤ 99) (k16 : 0 ≤ x16 ∧ x16 ≤ 99999987) (k18 : 0 ≤ x18 ∧ x18 ≤ 99999999) (d0 : x4 + 0 ≤ x7 ∧ x7 ≤ x4 + 0) (d1 : x6 + (-4294967296) ≤ x5 ∧ x5 ≤ x6 + (-1)) (f0 : 1 * x18 + ((-1) * x2 + ((-36) * x5 + 0)) ≤ 33) (f1 : 1 * x16 + ((-1) * x2 + ((-36) * x5 + 0)) ≤ 20) (f2 : x15 = all_0 (((r_0 + 219) + x5))) (f3 : 1 * x14 + ((-1) * x2 + ((-36) * x5 + 0)) ≤ 13) (f4 : x11 = all_0 (((r_0 + 219) + x5))) (f5 : 1 * x10 + ((-1) * x2 + ((-36) * x5 + 0)) ≤ 5) (f6 : 1 * x9 + ((-1) * x2 + ((-36) * x5 + 0)) ≤ 0) (f7 : x7 = all_0 (((r_0 + 243) + x5))) (f8 : 1 * x6 + ((-1) * all_0 (r_0 + 0) + 0) ≤ 0) (f9 : (-1) * x6 + (1 * all_0 (r_0 + 0) + 0) ≤ 0) (f11 : 1 * texts_0 + ((-1) * x18 + 0) ≤ 1) (f13 : 1 * x18 + ((-1) * x2 + ((-36) * x5 + 0)) ≤ 33) (f14 : 1 * x16 + ((-1) * x2 + ((-36) * x5 + 0)) ≤ 20) (f15 : 1 * x14 + ((-1) * x2 + ((-36) * x5 + 0)) ≤ 13) (f16 : 1 * x10 + ((-1) * x2 + ((-36) * x5 + 0)) ≤ 5) (f17 : 1 * x9 + ((-1) * x2 + ((-36) * x5 + 0)) ≤ 0) (f19 : 1 * x16 + ((-1) * x2 + ((-36) * x5 + 0)) ≤ 20) (f20 : 1 * x14 + ((-1) * x2 + ((-36) * x5 + 0)) ≤ 13) (f21 : 1 * x10 + ((-1) * x2 + ((-36) * x5 + 0)) ≤ 5) (f22 : 1 * x9 + ((-1) * x2 + ((-36) * x5 + 0)) ≤ 0) (f24 : 1 * x14 + ((-1) * x2 + ((-36) * x5 + 0)) ≤ 13) (f25 : x12 < x11) (f26 : 1 * x10 + ((-1) * x2 + ((-36) * x5 + 0)) ≤ 5) (f27 : 1 * x9 + ((-1) * x2 + ((-36) * x5 + 0)) ≤ 0) (f29 : 1 * x10 + ((-1) * x2 + ((-36) * x5 + 0)) ≤ 5) (f30 : 1 * x9 + ((-1) * x2 + ((-36) * x5 + 0)) ≤ 0) (f32 : 1 * x9 + ((-1) * x2 + ((-36) * x5 + 0)) ≤ 0) (f33 : x7 = x4) (f34 : x5 < x6) (kz_0_170 : 0 ≤ texts_0 ∧ texts_0 ≤ 100000000) (ex2 : gx = texts_0) (ex3 : 0 ≤ gx ∧ gx ≤ 99999998) : 1 * texts_0 + ((-1) * gx + 0) ≤ 0 := by
  first | assumption | omega | grind
set_option maxHeartbeats 4000000 in
theorem vc_Mo_writeGroup_at_l3_9_1 (x2 : Int) (x4 : Int) (x5 : Int) (x6 : Int) (x7 : Int) (x9 : Int) (x10 : Int) (x11 : Int) (x12 : Int) (x14 : Int) (x15 : Int) (x16 : Int) (x18 : Int) (all_0 : Int → Int) (r_0 : Int) (texts_0 : Int) (gx : Int) (k2 : 0 ≤ x2 ∧ x2 ≤ 99942624) (k4 : 3 ≤ x4 ∧ x4 ≤ 7) (k5 : 0 ≤ x5 ∧ x5 ≤ 23) (k6 : 1 ≤ x6 ∧ x6 ≤ 24) (k7 : 3 ≤ x7 ∧ x7 ≤ 7) (k9 : 0 ≤ x9 ∧ x9 ≤ 99999995) (k10 : 0 ≤ x10 ∧ x10 ≤ 99999992) (k11 : 2 ≤ x11 ∧ x11 ≤ 99) (k12 : 1 ≤ x12 ∧ x12 ≤ 1) (k14 : 0 ≤ x14 ∧ x14 ≤ 99999993) (k15 : 0 ≤ x15 ∧ x15 ≤ 99) (k16 : 0 ≤ x16 ∧ x16 ≤ 99999987) (k18 : 0 ≤ x18 ∧ x18 ≤ 99999999) (d0 : x4 + 0 ≤ x7 ∧ x7 ≤ x4 + 0) (d1 : x6 + (-4294967296) ≤ x5 ∧ x5 ≤ x6 + (-1)) (f0 : 1 * x18 + ((-1) * x2 + ((-36) * x5 + 0)) ≤ 33) (f1 : 1 * x16 + ((-1) * x2 + ((-36) * x5 + 0)) ≤ 20) (f2 : x15 = all_0 (((r_0 + 219) + x5))) (f3 : 1 * x14 + ((-1) * x2 + ((-36) * x5 + 0)) ≤ 13) (f4 : x11 = all_0 (((r_0 + 219) + x5))) (f5 : 1 * x10 + ((-1) * x2 + ((-36) * x5 + 0)) ≤ 5) (f6 : 1 * x9 + ((-1) * x2 + ((-36) * x5 + 0)) ≤ 0) (f7 : x7 = all_0 (((r_0 + 243) + x5))) (f8 : 1 * x6 + ((-1) * all_0 (r_0 + 0) + 0) ≤ 0) (f9 : (-1) * x6 + (1 * all_0 (r_0 + 0) + 0) ≤ 0) (f11 : 1 * texts_0 + ((-1) * x18 + 0) ≤ 1) (f13 : 1 * x18 + ((-1) * x2 + ((-36) * x5 + 0)) ≤ 33) (f14 : 1 * x16 + ((-1) * x2 + ((-36) * x5 + 0)) ≤ 20) (f15 : 1 * x14 + ((-1) * x2 + ((-36) * x5 + 0)) ≤ 13) (f16 : 1 * x10 + ((-1) * x2 + ((-36) * x5 + 0)) ≤ 5) (f17 : 1 * x9 + ((-1) * x2 + ((-36) * x5 + 0)) ≤ 0) (f19 : 1 * x16 + ((-1) * x2 + ((-36) * x5 + 0)) ≤ 20) (f20 : 1 * x14 + ((-1) * x2 + ((-36) * x5 + 0)) ≤ 13) (f21 : 1 * x10 + ((-1) * x2 + ((-36) * x5 + 0)) ≤ 5) (f22 : 1 * x9 + ((-1) * x2 + ((-36) * x5 + 0)) ≤ 0) (f24 : 1 * x14 + ((-1) * x2 + ((-36) * x5 + 0)) ≤ 13) (f25 : x12 < x11) (f26 : 1 * x10 + ((-1) * x2 + ((-36) * x5 + 0)) ≤ 5) (f27 : 1 * x9 + ((-1) * x2 + ((-36) * x5 + 0)) ≤ 0) (f29 : 1 * x10 + ((-1) * x2 + ((-36) * x5 + 0)) ≤ 5) (f30 : 1 * x9 + ((-1) * x2 + ((-36) * x5 + 0)) ≤ 0) (f32 : 1 * x9 + ((-1) * x2 + ((-36) * x5 + 0)) ≤ 0) (f33 : x7 = x4) (f34 : x5 < x6) (kz_0_170 : 0 ≤ texts_0 ∧ texts_0 ≤ 100000000) (ex2 : gx = texts_0) (ex3 : 0 ≤ gx ∧ gx ≤ 99999998) : 1 * gx + ((-1) * x2 + ((-36) * x5 + 0)) ≤ 34 := by
  first | assumption | omega | grind
def o_Mo_writeGroup_at_l3_9 : or_T := (70, 20, [(0, (2, 0, 0, [165])), (2, (0, 0, 99942624, [])), (3, (2, 0, 0, [165])), (4, (0, 3, 7, [])), (5, (0, 0, 23, [])), (6, (0, 1, 24, [])), (7, (0, 3, 7, [])), (9, (0, 0, 99999995, [])), (10, (0, 0, 99999992, [])), (11, (0, 2, 99, [])), (12, (0, 1, 1, [])), (14, (0, 0, 99999993, [])), (15, (0, 0, 99, [])), (16, (0, 0, 99999987, [])), (18, (0, 0, 99999999, []))], [(23, [18, 2, 5], [33, 1, -1, -36]), (23, [16, 2, 5], [20, 1, -1, -36]), (20, [15, 3, 5], [50, 1, 1, 1005, 1002, 1, 2, 1, 0, 3, 1, 2, 4, 7, 4, 3, 2, 1, 5, 0, 219, 1, 2]), (23, [14, 2, 5], [13, 1, -1, -36]), (20, [11, 3, 5], [50, 1, 1, 1005, 1002, 1, 2, 1, 0, 3, 1, 2, 4, 7, 4, 3, 2, 1, 5, 0, 219, 1, 2]), (23, [10, 2, 5], [5, 1, -1, -36]), (23, [9, 2, 5], [0, 1, -1, -36]), (20, [7, 3, 5], [50, 1, 1, 1005, 1002, 1, 2, 1, 0, 3, 1, 2, 4, 7, 4, 3, 2, 1, 5, 0, 243, 1, 2]), (20, [6, 3], [30, 0, 1, 0, 0, -1, 3, 2005000]), (20, [6, 3], [30, 0, -1, 0, 0, 1, 3, 2005000]), (24, [0, 3], []), (20, [3, 18], [30, 1, 1, 1, 170, -1, 0, 0]), (102, [18], [7770675568902916283677847627294075626569627356208558085007249638955617140820833992704, 165170]), (23, [18, 2, 5], [33, 1, -1, -36]), (23, [16, 2, 5], [20, 1, -1, -36]), (23, [14, 2, 5], [13, 1, -1, -36]), (23, [10, 2, 5], [5, 1, -1, -36]), (23, [9, 2, 5], [0, 1, -1, -36]), (102, [16], [7770675568902916283677847627294075626569627356208558085007249638955617140820833992704, 165170]), (23, [16, 2, 5], [20, 1, -1, -36]), (23, [14, 2, 5], [13, 1, -1, -36]), (23, [10, 2, 5], [5, 1, -1, -36]), (23, [9, 2, 5], [0, 1, -1, -36]), (102, [14], [7770675568902916283677847627294075626569627356208558085007249638955617140820833992704, 165170]), (23, [14, 2, 5], [13, 1, -1, -36]), (7, [11, 12], [4]), (23, [10, 2, 5], [5, 1, -1, -36]), (23, [9, 2, 5], [0, 1, -1, -36]), (102, [10], [7770675568902916283677847627294075626569627356208558085007249638955617140820833992704, 165170]), (23, [10, 2, 5], [5, 1, -1, -36]), (23, [9, 2, 5], [0, 1, -1, -36]), (102, [9], [7770675568902916283677847627294075626569627356208558085007249638955617140820833992704, 165170]), (23, [9, 2, 5], [0, 1, -1, -36]), (7, [7, 4], [0]), (7, [5, 6], [2])], [], [(0, 0, 99999998, [])], [(20, [3, 20], [30, 0, 1, 1, 170, -1, 0, 0]), (23, [20, 2, 5], [34, 1, -1, -36])], [], [(7, 4, 0, 0), (5, 6, -4294967296, -1)])
theorem oo_Mo_writeGroup_at_l3_9 {kA : Nat → ClassId} : or_ok PRD kA GG o_Mo_writeGroup_at_l3_9 := by
  refine or_mk fun A ta ws vs hD hth hl => ?_
  intro t0 r0 t2 k2 t3 r3 t4 k4 t5 k5 t6 k6 t7 k7 t9 k9 t10 k10 t11 k11 t12 k12 t14 k14 t15 k15 t16 k16 t18 k18 d0 d1 f0 f1 f2 f3 f4 f5 f6 f7 f8 f9 f10 f11 ta1 w1 le1 s1 f13 f14 f15 f16 f17 ta2 w2 le2 s2 f19 f20 f21 f22 ta3 w3 le3 s3 f24 f25 f26 f27 ta4 w4 le4 s4 f29 f30 ta5 w5 le5 s5 f32 f33 f34
  replace f0 := shm_2042 f0
  replace f1 := shm_2041 f1
  replace f2 := shm_732 f2
  replace f3 := shm_2040 f3
  replace f4 := shm_732 f4
  replace f5 := shm_2038 f5
  replace f6 := shm_2037 f6
  replace f7 := shm_597 f7
  replace f8 := shm_126 f8
  replace f9 := shm_127 f9
  replace f10 := shm_5 f10
  replace f11 := shm_132 f11
  replace f13 := shm_2042 f13
  replace f14 := shm_2041 f14
  replace f15 := shm_2040 f15
  replace f16 := shm_2038 f16
  replace f17 := shm_2037 f17
  replace f19 := shm_2041 f19
  replace f20 := shm_2040 f20
  replace f21 := shm_2038 f21
  replace f22 := shm_2037 f22
  replace f24 := shm_2040 f24
  replace f25 := shm_21 f25
  replace f26 := shm_2038 f26
  replace f27 := shm_2037 f27
  replace f29 := shm_2038 f29
  replace f30 := shm_2037 f30
  replace f32 := shm_2037 f32
  replace f33 := shm_37 f33
  replace f34 := shm_6 f34
  have q3 : n_v vs 3 = n_v vs 0 := f10.symm
  simp only [q3] at f2 f4 f7 f8 f9 f11
  have cr_0_2 := fdq_10 hD hth r0
  have br_0_2_F5_0_0 : w_ei ws (w_ar ws (n_v vs 0) 2) (w_fi ws (n_v vs 0) 5 + 0) = w_el ws (w_ar ws (n_v vs 0) 2) (w_fi ws (n_v vs 0) 5 + 0).toNat := rfl
  have kz_0_170 := fdq_11 hD hth r0
  have kv0 := fdq_11 hD hth r0
  obtain ⟨x, ex, hx⟩ := iv_ex (ta := ta) (lo := 0) (hi := 99999998) (z := w_fi ws (n_v vs 0) 170) (by omega) (by omega) (by omega) (by omega)
  have ex2 : v_iv (Value.int x) = w_fi ws (n_v vs 0) 170 := ex
  have ex3 : 0 ≤ v_iv (Value.int x) ∧ v_iv (Value.int x) ≤ 99999998 := tv_rng hx
  have e_2 : n_v (vs ++ [Value.int x]) 2 = n_v vs 2 := n_v_old (by rw [hl]; decide)
  have e_3 : n_v (vs ++ [Value.int x]) 3 = n_v vs 3 := n_v_old (by rw [hl]; decide)
  have e_5 : n_v (vs ++ [Value.int x]) 5 = n_v vs 5 := n_v_old (by rw [hl]; decide)
  have e_20 : n_v (vs ++ [Value.int x]) 20 = Value.int x := n_v_new hl
  have nf0 : fc_1 PRD (20, [3, 20], [30, 0, 1, 1, 170, -1, 0, 0]) ws (vs ++ [Value.int x]) := by
    refine ⟨nf_inA hl rfl, sgq_131 ?_⟩
    · show 1 * w_fi ws (n_v (vs ++ [Value.int x]) 3) 170 + ((-1) * v_iv (n_v (vs ++ [Value.int x]) 20) + 0) ≤ 0
      simp only [e_3, e_20, q3]
      exact vc_Mo_writeGroup_at_l3_9_0 (v_iv (n_v vs 2)) (v_iv (n_v vs 4)) (v_iv (n_v vs 5)) (v_iv (n_v vs 6)) (v_iv (n_v vs 7)) (v_iv (n_v vs 9)) (v_iv (n_v vs 10)) (v_iv (n_v vs 11)) (v_iv (n_v vs 12)) (v_iv (n_v vs 14)) (v_iv (n_v vs 15)) (v_iv (n_v vs 16)) (v_iv (n_v vs 18)) (w_ei ws (w_ar ws (n_v vs 0) 2)) (w_fi ws (n_v vs 0) 5) (w_fi ws (n_v vs 0) 170) (v_iv (Value.int x)) k2 k4 k5 k6 k7 k9 k10 k11 k12 k14 k15 k16 k18 d0 d1 f0 f1 f2 f3 f4 f5 f6 f7 f8 f9 f11 f13 f14 f15 f16 f17 f19 f20 f21 f22 f24 f25 f26 f27 f29 f30 f32 f33 f34 kz_0_170 ex2 ex3
  have nf1 : fc_1 PRD (23, [20, 2, 5], [34, 1, -1, -36]) ws (vs ++ [Value.int x]) := by
    refine ⟨nf_inA hl rfl, sgq_2039 ?_⟩
    · show 1 * v_iv (n_v (vs ++ [Value.int x]) 20) + ((-1) * v_iv (n_v (vs ++ [Value.int x]) 2) + ((-36) * v_iv (n_v (vs ++ [Value.int x]) 5) + 0)) ≤ 34
      simp only [e_2, e_5, e_20]
      exact vc_Mo_writeGroup_at_l3_9_1 (v_iv (n_v vs 2)) (v_iv (n_v vs 4)) (v_iv (n_v vs 5)) (v_iv (n_v vs 6)) (v_iv (n_v vs 7)) (v_iv (n_v vs 9)) (v_iv (n_v vs 10)) (v_iv (n_v vs 11)) (v_iv (n_v vs 12)) (v_iv (n_v vs 14)) (v_iv (n_v vs 15)) (v_iv (n_v vs 16)) (v_iv (n_v vs 18)) (w_ei ws (w_ar ws (n_v vs 0) 2)) (w_fi ws (n_v vs 0) 5) (w_fi ws (n_v vs 0) 170) (v_iv (Value.int x)) k2 k4 k5 k6 k7 k9 k10 k11 k12 k14 k15 k16 k18 d0 d1 f0 f1 f2 f3 f4 f5 f6 f7 f8 f9 f11 f13 f14 f15 f16 f17 f19 f20 f21 f22 f24 f25 f26 f27 f29 f30 f32 f33 f34 kz_0_170 ex2 ex3
  exact ⟨(fun _ h => (by cases h)), [Value.int x], ag_one hx, List.forall_mem_cons.mpr ⟨⟨show (20 : Nat) < 100 from by decide, nf0⟩, List.forall_mem_cons.mpr ⟨⟨show (23 : Nat) < 100 from by decide, nf1⟩, (fun _ h => (by cases h))⟩⟩, (fun _ h => (by cases h))⟩
set_option maxHeartbeats 4000000 in
theorem vc_Mo_writeGroup_at_l3_10_0 (x2 : Int) (x4 : Int) (x5 : Int) (x6 : Int) (x7 : Int) (x9 : Int) (x10 : Int) (x11 : Int) (x12 : Int) (x14 : Int) (x15 : Int) (x16 : Int) (x18 : Int) (x20 : Int) (x21 : Int) (all_0 : Int → Int) (r_0 : Int) (texts_0 : Int) (k2 : 0 ≤ x2 ∧ x2 ≤ 99942624) (k4 : 3 ≤ x4 ∧ x4 ≤ 7) (k5 : 0 ≤ x5 ∧ x5 ≤ 23) (k6 : 1 ≤ x6 ∧ x6 ≤ 24) (k7 : 3 ≤ x7 ∧ x7 ≤ 7) (k9 : 0 ≤ x9 ∧ x9 ≤ 99999995) (k10 : 0 ≤ x10 ∧ x10 ≤ 99999992) (k11 : 2 ≤ x11 ∧ x11 ≤ 99) (k12 : 1 ≤ x12 ∧ x12 ≤ 1) (k14 : 0 ≤ x14 ∧ x14 ≤ 99999993) (k15 : 0 ≤ x15 ∧ x15 ≤ 99) (k16 : 0 ≤ x16 ∧ x16 ≤ 99999987) (k18 : 0 ≤ x18 ∧ x18 ≤ 99999999) (k20 : 0 ≤ x20 ∧ x20 ≤ 99999998) (k21 : 1 ≤ x21 ∧ x21 ≤ 24) (d0 : x5 + 1 ≤ x21 ∧ x21 ≤ x5 + 1) (d1 : x6 + (-4294967296) ≤ x21 ∧ x21 ≤ x6 + 0) (d2 : x4 + 0 ≤ x7 ∧ x7 ≤ x4 + 0) (d3 : x6 + (-4294967296) ≤ x5 ∧ x5 ≤ x6 + (-1)) (f0 : x21 = x5 + 1) (f1 : 1 * x20 + ((-1) * x2 + ((-36) * x5 + 0)) ≤ 34) (f2 : 1 * x18 + ((-1) * x2 + ((-36) * x5 + 0)) ≤ 33) (f3 : 1 * x16 + ((-1) * x2 + ((-36) * x5 + 0)) ≤ 20) (f4 : x15 = all_0 (((r_0 + 219) + x5))) (f5 : 1 * x14 + ((-1) * x2 + ((-36) * x5 + 0)) ≤ 13) (f6 : x11 = all_0 (((r_0 + 219) + x5))) (f7 : 1 * x10 + ((-1) * x2 + ((-36) * x5 + 0)) ≤ 5) (f8 : 1 * x9 + ((-1) * x2 + ((-36) * x5 + 0)) ≤ 0) (f9 : x7 = all_0 (((r_0 + 243) + x5))) (f10 : 1 * x6 + ((-1) * all_0 (r_0 + 0) + 0) ≤ 0) (f11 : (-1) * x6 + (1 * all_0 (r_0 + 0) + 0) ≤ 0) (f13 : 1 * texts_0 + ((-1) * x20 + 0) ≤ 2) (f15 : 1 * x20 + ((-1) * x2 + ((-36) * x5 + 0)) ≤ 34) (f16 : 1 * x18 + ((-1) * x2 + ((-36) * x5 + 0)) ≤ 33) (f17 : 1 * x16 + ((-1) * x2 + ((-36) * x5 + 0)) ≤ 20) (f18 : 1 * x14 + ((-1) * x2 + ((-36) * x5 + 0)) ≤ 13) (f19 : 1 * x10 + ((-1) * x2 + ((-36) * x5 + 0)) ≤ 5) (f20 : 1 * x9 + ((-1) * x2 + ((-36) * x5 + 0)) ≤ 0) (f22 : 1 * x18 + ((-1) * x2 + ((-36) * x5 + 0)) ≤ 33) (f23 : 1 * x16 + ((-1) * x2 + ((-36) * x5 + 0)) ≤ 20) (f24 : 1 * x14 + ((-1) * x2 + ((-36) * x5 + 0)) ≤ 13) (f25 : 1 * x10 + ((-1) * x2 + ((-36) * x5 + 0)) ≤ 5) (f26 : 1 * x9 + ((-1) * x2 + ((-36) * x5 + 0)) ≤ 0) (f28 : 1 * x16 + ((-1) * x2 + ((-36) * x5 + 0)) ≤ 20) (f29 : 1 * x14 + ((-1) * x2 + ((-36) * x5 + 0)) ≤ 13) (f30 : 1 * x10 + ((-1) * x2 + ((-36) * x5 + 0)) ≤ 5) (f31 : 1 * x9 + ((-1) * x2 + ((-36) * x5 + 0)) ≤ 0) (f33 : 1 * x14 + ((-1) * x2 + ((-36) * x5 + 0)) ≤ 13) (f34 : x12 < x11) (f35 : 1 * x10 + ((-1) * x2 + ((-36) * x5 + 0)) ≤ 5) (f36 : 1 * x9 + ((-1) * x2 + ((-36) * x5 + 0)) ≤ 0) (f38 : 1 * x10 + ((-1) * x2 + ((-36) * x5 + 0)) ≤ 5) (f39 : 1 * x9 + ((-1) * x2 + ((-36) * x5 + 0)) ≤ 0) (f41 : 1 * x9 + ((-1) * x2 + ((-36) * x5 + 0)) ≤ 0) (f42 : x7 = x4) (f43 : x5 < x6) (kz_0_170 : 0 ≤ texts_0 ∧ texts_0 ≤ 100000000) : 1 * texts_0 + ((-1) * x2 + ((-36) * x21 + 0)) ≤ 0 := by
  first | assumption | omega | grind
def o_Mo_writeGroup_at_l3_10 : or_T := (2, 22, [(0, (2, 0, 0, [165])), (2, (0, 0, 99942624, [])), (4, (0, 3, 7, [])), (5, (0, 0, 23, [])), (6, (0, 1, 24, [])), (7, (0, 3, 7, [])), (9, (0, 0, 99999995, [])), (10, (0, 0, 99999992, [])), (11, (0, 2, 99, [])), (12, (0, 1, 1, [])), (14, (0, 0, 99999993, [])), (15, (0, 0, 99, [])), (16, (0, 0, 99999987, [])), (18, (0, 0, 99999999, [])), (20, (0, 0, 99999998, [])), (21, (0, 1, 24, []))], [(6, [21, 5], [1]), (23, [20, 2, 5], [34, 1, -1, -36]), (23, [18, 2, 5], [33, 1, -1, -36]), (23, [16, 2, 5], [20, 1, -1, -36]), (20, [15, 3, 5], [50, 1, 1, 1005, 1002, 1, 2, 1, 0, 3, 1, 2, 4, 7, 4, 3, 2, 1, 5, 0, 219, 1, 2]), (23, [14, 2, 5], [13, 1, -1, -36]), (20, [11, 3, 5], [50, 1, 1, 1005, 1002, 1, 2, 1, 0, 3, 1, 2, 4, 7, 4, 3, 2, 1, 5, 0, 219, 1, 2]), (23, [10, 2, 5], [5, 1, -1, -36]), (23, [9, 2, 5], [0, 1, -1, -36]), (20, [7, 3, 5], [50, 1, 1, 1005, 1002, 1, 2, 1, 0, 3, 1, 2, 4, 7, 4, 3, 2, 1, 5, 0, 243, 1, 2]), (20, [6, 3], [30, 0, 1, 0, 0, -1, 3, 2005000]), (20, [6, 3], [30, 0, -1, 0, 0, 1, 3, 2005000]), (24, [0, 3], []), (20, [3, 20], [30, 2, 1, 1, 170, -1, 0, 0]), (102, [20], [7770675568902916283677847627294075626569627356208558085007249638955617140820833992704, 165170]), (23, [20, 2, 5], [34, 1, -1, -36]), (23, [18, 2, 5], [33, 1, -1, -36]), (23, [16, 2, 5], [20, 1, -1, -36]), (23, [14, 2, 5], [13, 1, -1, -36]), (23, [10, 2, 5], [5, 1, -1, -36]), (23, [9, 2, 5], [0, 1, -1, -36]), (102, [18], [7770675568902916283677847627294075626569627356208558085007249638955617140820833992704, 165170]), (23, [18, 2, 5], [33, 1, -1, -36]), (23, [16, 2, 5], [20, 1, -1, -36]), (23, [14, 2, 5], [13, 1, -1, -36]), (23, [10, 2, 5], [5, 1, -1, -36]), (23, [9, 2, 5], [0, 1, -1, -36]), (102, [16], [7770675568902916283677847627294075626569627356208558085007249638955617140820833992704, 165170]), (23, [16, 2, 5], [20, 1, -1, -36]), (23, [14, 2, 5], [13, 1, -1, -36]), (23, [10, 2, 5], [5, 1, -1, -36]), (23, [9, 2, 5], [0, 1, -1, -36]), (102, [14], [7770675568902916283677847627294075626569627356208558085007249638955617140820833992704, 165170]), (23, [14, 2, 5], [13, 1, -1, -36]), (7, [11, 12], [4]), (23, [10, 2, 5], [5, 1, -1, -36]), (23, [9, 2, 5], [0, 1, -1, -36]), (102, [10], [7770675568902916283677847627294075626569627356208558085007249638955617140820833992704, 165170]), (23, [10, 2, 5], [5, 1, -1, -36]), (23, [9, 2, 5], [0, 1, -1, -36]), (102, [9], [7770675568902916283677847627294075626569627356208558085007249638955617140820833992704, 165170]), (23, [9, 2, 5], [0, 1, -1, -36]), (7, [7, 4], [0]), (7, [5, 6], [2])], [], [], [(20, [3, 2, 21], [30, 0, 1, 1, 170, -1, 0, 0, -36, 0, 0])], [], [(21, 5, 1, 1), (21, 6, -4294967296, 0), (7, 4, 0, 0), (5, 6, -4294967296, -1)])
theorem oo_Mo_writeGroup_at_l3_10 {kA : Nat → ClassId} : or_ok PRD kA GG o_Mo_writeGroup_at_l3_10 := by
  refine or_mk fun A ta ws vs hD hth hl => ?_
  intro t0 r0 t2 k2 t4 k4 t5 k5 t6 k6 t7 k7 t9 k9 t10 k10 t11 k11 t12 k12 t14 k14 t15 k15 t16 k16 t18 k18 t20 k20 t21 k21 d0 d1 d2 d3 f0 f1 f2 f3 f4 f5 f6 f7 f8 f9 f10 f11 f12 f13 ta1 w1 le1 s1 f15 f16 f17 f18 f19 f20 ta2 w2 le2 s2 f22 f23 f24 f25 f26 ta3 w3 le3 s3 f28 f29 f30 f31 ta4 w4 le4 s4 f33 f34 f35 f36 ta5 w5 le5 s5 f38 f39 ta6 w6 le6 s6 f41 f42 f43
  replace f0 := shm_4 f0
  replace f1 := shm_2039 f1
  replace f2 := shm_2042 f2
  replace f3 := shm_2041 f3
  replace f4 := shm_732 f4
  replace f5 := shm_2040 f5
  replace f6 := shm_732 f6
  replace f7 := shm_2038 f7
  replace f8 := shm_2037 f8
  replace f9 := shm_597 f9
  replace f10 := shm_126 f10
  replace f11 := shm_127 f11
  replace f12 := shm_5 f12
  replace f13 := shm_210 f13
  replace f15 := shm_2039 f15
  replace f16 := shm_2042 f16
  replace f17 := shm_2041 f17
  replace f18 := shm_2040 f18
  replace f19 := shm_2038 f19
  replace f20 := shm_2037 f20
  replace f22 := shm_2042 f22
  replace f23 := shm_2041 f23
  replace f24 := shm_2040 f24
  replace f25 := shm_2038 f25
  replace f26 := shm_2037 f26
  replace f28 := shm_2041 f28
  replace f29 := shm_2040 f29
  replace f30 := shm_2038 f30
  replace f31 := shm_2037 f31
  replace f33 := shm_2040 f33
  replace f34 := shm_21 f34
  replace f35 := shm_2038 f35
  replace f36 := shm_2037 f36
  replace f38 := shm_2038 f38
  replace f39 := shm_2037 f39
  replace f41 := shm_2037 f41
  replace f42 := shm_37 f42
  replace f43 := shm_6 f43
  have q3 : n_v vs 3 = n_v vs 0 := f12.symm
  simp only [q3] at f4 f6 f9 f10 f11 f13
  have kz_0_170 := fdq_11 hD hth r0
  have nf0 : fc_1 PRD (20, [3, 2, 21], [30, 0, 1, 1, 170, -1, 0, 0, -36, 0, 0]) ws (vs) := by
    refine ⟨nf_in hl rfl, sgq_2035 ?_⟩
    · show 1 * w_fi ws (n_v vs 3) 170 + ((-1) * v_iv (n_v vs 2) + ((-36) * v_iv (n_v vs 21) + 0)) ≤ 0
      rw [q3]
      exact vc_Mo_writeGroup_at_l3_10_0 (v_iv (n_v vs 2)) (v_iv (n_v vs 4)) (v_iv (n_v vs 5)) (v_iv (n_v vs 6)) (v_iv (n_v vs 7)) (v_iv (n_v vs 9)) (v_iv (n_v vs 10)) (v_iv (n_v vs 11)) (v_iv (n_v vs 12)) (v_iv (n_v vs 14)) (v_iv (n_v vs 15)) (v_iv (n_v vs 16)) (v_iv (n_v vs 18)) (v_iv (n_v vs 20)) (v_iv (n_v vs 21)) (w_ei ws (w_ar ws (n_v vs 0) 2)) (w_fi ws (n_v vs 0) 5) (w_fi ws (n_v vs 0) 170) k2 k4 k5 k6 k7 k9 k10 k11 k12 k14 k15 k16 k18 k20 k21 d0 d1 d2 d3 f0 f1 f2 f3 f4 f5 f6 f7 f8 f9 f10 f11 f13 f15 f16 f17 f18 f19 f20 f22 f23 f24 f25 f26 f28 f29 f30 f31 f33 f34 f35 f36 f38 f39 f41 f42 f43 kz_0_170
  refine ⟨(fun _ h => (by cases h)), [], trivial, ?_, (fun _ h => (by cases h))⟩
  rw [List.append_nil]
  exact List.forall_mem_cons.mpr ⟨⟨show (20 : Nat) < 100 from by decide, nf0⟩, (fun _ h => (by cases h))⟩
set_option maxHeartbeats 4000000 in
theorem vc_Mo_writeGroup_at_l3_11_0 (x2 : Int) (x4 : Int) (x5 : Int) (x6 : Int) (x7 : Int) (x8 : Int) (all_0 : Int → Int) (r_0 : Int) (texts_0 : Int) (k2 : 0 ≤ x2 ∧ x2 ≤ 99942624) (k4 : 3 ≤ x4 ∧ x4 ≤ 7) (k5 : 0 ≤ x5 ∧ x5 ≤ 23) (k6 : 1 ≤ x6 ∧ x6 ≤ 24) (k7 : 0 ≤ x7 ∧ x7 ≤ 7) (k8 : 1 ≤ x8 ∧ x8 ≤ 24) (d0 : x5 + 1 ≤ x8 ∧ x8 ≤ x5 + 1) (d1 : x6 + (-4294967296) ≤ x8 ∧ x8 ≤ x6 + 0) (d2 : x6 + (-4294967296) ≤ x5 ∧ x5 ≤ x6 + (-1)) (f0 : x8 = x5 + 1) (f1 : x7 ≠ x4) (f2 : x7 = all_0 (((r_0 + 243) + x5))) (f3 : x5 < x6) (f4 : 1 * x6 + ((-1) * all_0 (r_0 + 0) + 0) ≤ 0) (f5 : (-1) * x6 + (1 * all_0 (r_0 + 0) + 0) ≤ 0) (f6 : 1 * texts_0 + ((-1) * x2 + ((-36) * x5 + 0)) ≤ 0) (kz_0_170 : 0 ≤ texts_0 ∧ texts_0 ≤ 100000000) : 1 * texts_0 + ((-1) * x2 + ((-36) * x8 + 0)) ≤ 0 := by
  first | assumption | omega | grind
def o_Mo_writeGroup_at_l3_11 : or_T := (2, 9, [(0, (2, 0, 0, [165])), (2, (0, 0, 99942624, [])), (4, (0, 3, 7, [])), (5, (0, 0, 23, [])), (6, (0, 1, 24, [])), (7, (0, 0, 7, [])), (8, (0, 1, 24, []))], [(6, [8, 5], [1]), (7, [7, 4], [1]), (20, [7, 3, 5], [50, 1, 1, 1005, 1002, 1, 2, 1, 0, 3, 1, 2, 4, 7, 4, 3, 2, 1, 5, 0, 243, 1, 2]), (7, [5, 6], [2]), (20, [6, 3], [30, 0, 1, 0, 0, -1, 3, 2005000]), (20, [6, 3], [30, 0, -1, 0, 0, 1, 3, 2005000]), (20, [3, 2, 5], [30, 0, 1, 1, 170, -1, 0, 0, -36, 0, 0]), (24, [0, 3], [])], [], [], [(20, [3, 2, 8], [30, 0, 1, 1, 170, -1, 0, 0, -36, 0, 0])], [], [(8, 5, 1, 1), (8, 6, -4294967296, 0), (5, 6, -4294967296, -1)])
theorem oo_Mo_writeGroup_at_l3_11 {kA : Nat → ClassId} : or_ok PRD kA GG o_Mo_writeGroup_at_l3_11 := by
  refine or_mk fun A ta ws vs hD hth hl => ?_
  intro t0 r0 t2 k2 t4 k4 t5 k5 t6 k6 t7 k7 t8 k8 d0 d1 d2 f0 f1 f2 f3 f4 f5 f6 f7
  replace f0 := shm_4 f0
  replace f1 := shm_40 f1
  replace f2 := shm_597 f2
  replace f3 := shm_6 f3
  replace f4 := shm_126 f4
  replace f5 := shm_127 f5
  replace f6 := shm_2035 f6
  replace f7 := shm_5 f7
  have q3 : n_v vs 3 = n_v vs 0 := f7.symm
  simp only [q3] at f2 f4 f5 f6
  have kz_0_170 := fdq_11 hD hth r0
  have nf0 : fc_1 PRD (20, [3, 2, 8], [30, 0, 1, 1, 170, -1, 0, 0, -36, 0, 0]) ws (vs) := by
    refine ⟨nf_in hl rfl, sgq_2035 ?_⟩
    · show 1 * w_fi ws (n_v vs 3) 170 + ((-1) * v_iv (n_v vs 2) + ((-36) * v_iv (n_v vs 8) + 0)) ≤ 0
      rw [q3]
      exact vc_Mo_writeGroup_at_l3_11_0 (v_iv (n_v vs 2)) (v_iv (n_v vs 4)) (v_iv (n_v vs 5)) (v_iv (n_v vs 6)) (v_iv (n_v vs 7)) (v_iv (n_v vs 8)) (w_ei ws (w_ar ws (n_v vs 0) 2)) (w_fi ws (n_v vs 0) 5) (w_fi ws (n_v vs 0) 170) k2 k4 k5 k6 k7 k8 d0 d1 d2 f0 f1 f2 f3 f4 f5 f6 kz_0_170
  refine ⟨(fun _ h => (by cases h)), [], trivial, ?_, (fun _ h => (by cases h))⟩
  rw [List.append_nil]
  exact List.forall_mem_cons.mpr ⟨⟨show (20 : Nat) < 100 from by decide, nf0⟩, (fun _ h => (by cases h))⟩
set_option maxHeartbeats 4000000 in
theorem vc_Mo_writeGroup_at_l3_12_0 (x2 : Int) (x4 : Int) (x5 : Int) (x6 : Int) (all_0 : Int → Int) (r_0 : Int) (texts_0 : Int) (k2 : 0 ≤ x2 ∧ x2 ≤ 99942624) (k4 : 3 ≤ x4 ∧ x4 ≤ 7) (k5 : 4 ≤ x5 ∧ x5 ≤ 8) (k6 : 0 ≤ x6 ∧ x6 ≤ 8) (d0 : x6 + 0 ≤ x5 ∧ x5 ≤ x6 + 4294967296) (d1 : x5 + (-4294967296) ≤ x4 ∧ x4 ≤ x5 + (-1)) (f0 : x6 ≤ x5) (f1 : 1 * x6 + ((-1) * all_0 (r_0 + 2) + 0) ≤ 0) (f2 : (-1) * x6 + (1 * all_0 (r_0 + 2) + 0) ≤ 0) (f3 : 1 * texts_0 + ((-1) * x2 + ((-14128) * x5 + (14128 * x4 + 0))) ≤ (-13264)) (kz_0_170 : 0 ≤ texts_0 ∧ texts_0 ≤ 100000000) : 1 * texts_0 + ((-1) * x2 + 0) ≤ 57376 := by
  first | assumption | omega | grind
def o_Mo_writeGroup_at_l3_12 : or_T := (177, 7, [(0, (2, 0, 0, [165])), (2, (0, 0, 99942624, [])), (4, (0, 3, 7, [])), (5, (0, 4, 8, [])), (6, (0, 0, 8, []))], [(7, [5, 6], [3]), (20, [6, 3], [30, 0, 1, 0, 0, -1, 3, 2005002]), (20, [6, 3], [30, 0, -1, 0, 0, 1, 3, 2005002]), (20, [3, 2, 5, 4], [30, -13264, 1, 1, 170, -1, 0, 0, -14128, 0, 0, 14128, 0, 0]), (24, [0, 3], [])], [], [], [(20, [0, 2], [30, 57376, 1, 1, 170, -1, 0, 0])], [], [(5, 6, 0, 4294967296), (4, 5, -4294967296, -1)])
theorem oo_Mo_writeGroup_at_l3_12 {kA : Nat → ClassId} : or_ok PRD kA GG o_Mo_writeGroup_at_l3_12 := by
  refine or_mk fun A ta ws vs hD hth hl => ?_
  intro t0 r0 t2 k2 t4 k4 t5 k5 t6 k6 d0 d1 f0 f1 f2 f3 f4
  replace f1 := shm_123 f1
  replace f2 := shm_124 f2
  replace f3 := shm_2064 f3
  replace f4 := shm_5 f4
  have q3 : n_v vs 3 = n_v vs 0 := f4.symm
  simp only [q3] at f1 f2 f3
  have kz_0_170 := fdq_11 hD hth r0
  have nf0 : fc_1 PRD (20, [0, 2], [30, 57376, 1, 1, 170, -1, 0, 0]) ws (vs) := ⟨nf_in hl rfl, sgq_2062 (vc_Mo_writeGroup_at_l3_12_0 (v_iv (n_v vs 2)) (v_iv (n_v vs 4)) (v_iv (n_v vs 5)) (v_iv (n_v vs 6)) (w_ei ws (w_ar ws (n_v vs 0) 2)) (w_fi ws (n_v vs 0) 5) (w_fi ws (n_v vs 0) 170) k2 k4 k5 k6 d0 d1 (shm_2 f0) f1 f2 f3 kz_0_170)⟩
  refine ⟨(fun _ h => (by cases h)), [], trivial, ?_, (fun _ h => (by cases h))⟩
  rw [List.append_nil]
  exact List.forall_mem_cons.mpr ⟨⟨show (20 : Nat) < 100 from by decide, nf0⟩, (fun _ h => (by cases h))⟩
def o_Mo_writeGroup_at_l3_13 : or_T := (117, 14, [(0, (2, 0, 0, [165])), (2, (0, 0, 99942624, [])), (3, (2, 0, 0, [165])), (4, (0, 3, 6, [])), (5, (0, 4, 7, [])), (6, (0, 5, 8, [])), (7, (2, 0, 0, [167])), (8, (0, 0, 66297, [])), (9, (0, 531, 531, [])), (10, (0, 531, 66828, [])), (11, (0, 535, 66835, [])), (12, (0, 3, 6, []))], [(7, [12, 4], [0]), (10, [12, 7, 11], []), (1, [11, 10, 5], []), (1, [10, 8, 9], []), (9, [8, 3], [5]), (9, [7, 3], [2]), (7, [5, 6], [2]), (20, [6, 3], [30, 0, 1, 0, 0, -1, 3, 2005002]), (20, [6, 3], [30, 0, -1, 0, 0, 1, 3, 2005002]), (20, [3, 2, 5, 4], [30, -13264, 1, 1, 170, -1, 0, 0, -14128, 0, 0, 14128, 0, 0]), (24, [0, 3], [])], [], [(0, 0, 99999994, [])], [(20, [3, 14], [30, 0, 1, 1, 170, -1, 0, 0]), (23, [14, 2, 5, 4], [-13264, 1, -1, -14128, 14128])], [], [(12, 4, 0, 0), (11, 5, 531, 66828), (11, 6, -4294967296, 66827), (11, 10, 4, 7), (11, 8, 535, 538), (10, 8, 531, 531), (5, 6, -4294967296, -1), (4, 5, -4294967296, -1)])
theorem oo_Mo_writeGroup_at_l3_13 {kA : Nat → ClassId} : or_ok PRD kA GG o_Mo_writeGroup_at_l3_13 := by
  refine or_mk fun A ta ws vs hD hth hl => ?_
  intro t0 r0 t2 k2 t3 r3 t4 k4 t5 k5 t6 k6 t7 r7 t8 k8 t9 k9 t10 k10 t11 k11 t12 k12 d0 d1 d2 d3 d4 d5 d6 d7 f0 f1 f2 f3 f4 f5 f6 f7 f8 f9 f10
  replace f0 := shm_37 f0
  replace f1 := shm_107 f1
  replace f2 := shm_12 f2
  replace f3 := shm_12 f3
  replace f4 := shm_110 f4
  replace f5 := shm_120 f5
  replace f6 := shm_6 f6
  replace f7 := shm_123 f7
  replace f8 := shm_124 f8
  replace f9 := shm_2064 f9
  replace f10 := shm_5 f10
  have q3 : n_v vs 3 = n_v vs 0 := f10.symm
  simp only [q3] at f4 f5 f7 f8 f9
  have cr_0_2 := fdq_10 hD hth r0
  have ad_7 : v_ad (n_v vs 7) = w_ar ws (n_v vs 0) 2 := congrArg v_ad f5
  simp only [ad_7] at f1
  have h1 : v_iv (n_v vs 12) = w_ei ws (w_ar ws (n_v vs 0) 2) (v_iv (n_v vs 11)) := f1
  have g4 : v_iv (n_v vs 8) = w_fi ws (n_v vs 0) 5 := congrArg v_iv f4
  have cg1_F5_2 : v_iv (n_v vs 11) = w_fi ws (n_v vs 0) 5 + 2 → w_el ws (w_ar ws (n_v vs 0) 2) (v_iv (n_v vs 11)).toNat = w_el ws (w_ar ws (n_v vs 0) 2) (w_fi ws (n_v vs 0) 5 + 2).toNat := fun h => by rw [h]
  have kz_0_170 := fdq_11 hD hth r0
  have kv0 := fdq_11 hD hth r0
  obtain ⟨x, ex, hx⟩ := iv_ex (ta := ta) (lo := 0) (hi := 99999994) (z := w_fi ws (n_v vs 0) 170) (by omega) (by omega) (by omega) (by omega)
  have ex2 : v_iv (Value.int x) = w_fi ws (n_v vs 0) 170 := ex
  have ex3 : 0 ≤ v_iv (Value.int x) ∧ v_iv (Value.int x) ≤ 99999994 := tv_rng hx
  have e_2 : n_v (vs ++ [Value.int x]) 2 = n_v vs 2 := n_v_old (by rw [hl]; decide)
  have e_3 : n_v (vs ++ [Value.int x]) 3 = n_v vs 3 := n_v_old (by rw [hl]; decide)
  have e_4 : n_v (vs ++ [Value.int x]) 4 = n_v vs 4 := n_v_old (by rw [hl]; decide)
  have e_5 : n_v (vs ++ [Value.int x]) 5 = n_v vs 5 := n_v_old (by rw [hl]; decide)
  have e_14 : n_v (vs ++ [Value.int x]) 14 = Value.int x := n_v_new hl
  have nf0 : fc_1 PRD (20, [3, 14], [30, 0, 1, 1, 170, -1, 0, 0]) ws (vs ++ [Value.int x]) := by
    refine ⟨nf_inA hl rfl, sgq_131 ?_⟩
    · show 1 * w_fi ws (n_v (vs ++ [Value.int x]) 3) 170 + ((-1) * v_iv (n_v (vs ++ [Value.int x]) 14) + 0) ≤ 0
      simp only [e_3, e_14, q3]
      omega
  have nf1 : fc_1 PRD (23, [14, 2, 5, 4], [-13264, 1, -1, -14128, 14128]) ws (vs ++ [Value.int x]) := by
    refine ⟨nf_inA hl rfl, sgq_2065 ?_⟩
    · show 1 * v_iv (n_v (vs ++ [Value.int x]) 14) + ((-1) * v_iv (n_v (vs ++ [Value.int x]) 2) + ((-14128) * v_iv (n_v (vs ++ [Value.int x]) 5) + (14128 * v_iv (n_v (vs ++ [Value.int x]) 4) + 0))) ≤ (-13264)
      simp only [e_2, e_4, e_5, e_14]
      omega
  exact ⟨(fun _ h => (by cases h)), [Value.int x], ag_one hx, List.forall_mem_cons.mpr ⟨⟨show (20 : Nat) < 100 from by decide, nf0⟩, List.forall_mem_cons.mpr ⟨⟨show (23 : Nat) < 100 from by decide, nf1⟩, (fun _ h => (by cases h))⟩⟩, (fun _ h => (by cases h))⟩
set_option maxHeartbeats 4000000 in
theorem vc_Mo_writeGroup_at_l3_14_0 (x2 : Int) (x4 : Int) (x5 : Int) (x6 : Int) (x8 : Int) (x12 : Int) (x14 : Int) (r_0 : Int) (all_0 : Int → Int) (texts_0 : Int) (gx : Int) (k2 : 0 ≤ x2 ∧ x2 ≤ 99942624) (k4 : 3 ≤ x4 ∧ x4 ≤ 6) (k5 : 4 ≤ x5 ∧ x5 ≤ 7) (k6 : 5 ≤ x6 ∧ x6 ≤ 8) (k8 : 0 ≤ x8 ∧ x8 ≤ 66297) (k12 : 3 ≤ x12 ∧ x12 ≤ 6) (k14 : 0 ≤ x14 ∧ x14 ≤ 99999994) (d0 : x4 + 0 ≤ x12 ∧ x12 ≤ x4 + 0) (d1 : x6 + (-4294967296) ≤ x5 ∧ x5 ≤ x6 + (-1)) (d2 : x5 + (-4294967296) ≤ x4 ∧ x4 ≤ x5 + (-1)) (g0 : x8 = r_0) (f2 : 1 * x14 + ((-1) * x2 + ((-14128) * x5 + (14128 * x4 + 0))) ≤ (-13264)) (f3 : 1 * x6 + ((-1) * all_0 (r_0 + 2) + 0) ≤ 0) (f4 : (-1) * x6 + (1 * all_0 (r_0 + 2) + 0) ≤ 0) (f6 : 1 * texts_0 + ((-1) * x14 + 0) ≤ 6) (f8 : 1 * x14 + ((-1) * x2 + ((-14128) * x5 + (14128 * x4 + 0))) ≤ (-13264)) (f9 : x12 = x4) (f10 : x5 < x6) (kz_0_170 : 0 ≤ texts_0 ∧ texts_0 ≤ 100000000) (ex2 : gx = texts_0) (ex3 : 0 ≤ gx ∧ gx ≤ 99999992) : 1 * texts_0 + ((-1) * gx + 0) ≤ 0 := by
  first | assumption | omega | grind
set_option maxHeartbeats 4000000 in
theorem vc_Mo_writeGroup_at_l3_14_1 (x2 : Int) (x4 : Int) (x5 : Int) (x6 : Int) (x8 : Int) (x12 : Int) (x14 : Int) (r_0 : Int) (all_0 : Int → Int) (texts_0 : Int) (gx : Int) (k2 : 0 ≤ x2 ∧ x2 ≤ 99942624) (k4 : 3 ≤ x4 ∧ x4 ≤ 6) (k5 : 4 ≤ x5 ∧ x5 ≤ 7) (k6 : 5 ≤ x6 ∧ x6 ≤ 8) (k8 : 0 ≤ x8 ∧ x8 ≤ 66297) (k12 : 3 ≤ x12 ∧ x12 ≤ 6) (k14 : 0 ≤ x14 ∧ x14 ≤ 99999994) (d0 : x4 + 0 ≤ x12 ∧ x12 ≤ x4 + 0) (d1 : x6 + (-4294967296) ≤ x5 ∧ x5 ≤ x6 + (-1)) (d2 : x5 + (-4294967296) ≤ x4 ∧ x4 ≤ x5 + (-1)) (g0 : x8 = r_0) (f2 : 1 * x14 + ((-1) * x2 + ((-14128) * x5 + (14128 * x4 + 0))) ≤ (-13264)) (f3 : 1 * x6 + ((-1) * all_0 (r_0 + 2) + 0) ≤ 0) (f4 : (-1) * x6 + (1 * all_0 (r_0 + 2) + 0) ≤ 0) (f6 : 1 * texts_0 + ((-1) * x14 + 0) ≤ 6) (f8 : 1 * x14 + ((-1) * x2 + ((-14128) * x5 + (14128 * x4 + 0))) ≤ (-13264)) (f9 : x12 = x4) (f10 : x5 < x6) (kz_0_170 : 0 ≤ texts_0 ∧ texts_0 ≤ 100000000) (ex2 : gx = texts_0) (ex3 : 0 ≤ gx ∧ gx ≤ 99999992) : 1 * gx + ((-1) * x2 + ((-14128) * x5 + (14128 * x4 + 0))) ≤ (-13258) := by
  first | assumption | omega | grind
def o_Mo_writeGroup_at_l3_14 : or_T := (149, 24, [(0, (2, 0, 0, [165])), (2, (0, 0, 99942624, [])), (3, (2, 0, 0, [165])), (4, (0, 3, 6, [])), (5, (0, 4, 7, [])), (6, (0, 5, 8, [])), (7, (2, 0, 0, [167])), (8, (0, 0, 66297, [])), (12, (0, 3, 6, [])), (14, (0, 0, 99999994, []))], [(9, [8, 3], [5]), (9, [7, 3], [2]), (23, [14, 2, 5, 4], [-13264, 1, -1, -14128, 14128]), (20, [6, 3], [30, 0, 1, 0, 0, -1, 3, 2005002]), (20, [6, 3], [30, 0, -1, 0, 0, 1, 3, 2005002]), (24, [0, 3], []), (20, [3, 14], [30, 6, 1, 1, 170, -1, 0, 0]), (102, [14], [7770675568902916283677847627294075626569627356208558085007249638955617140820833992704, 165170]), (23, [14, 2, 5, 4], [-13264, 1, -1, -14128, 14128]), (7, [12, 4], [0]), (7, [5, 6], [2])], [], [(0, 0, 99999992, [])], [(20, [3, 24], [30, 0, 1, 1, 170, -1, 0, 0]), (23, [24, 2, 5, 4], [-13258, 1, -1, -14128, 14128])], [], [(12, 4, 0, 0), (5, 6, -4294967296, -1), (4, 5, -4294967296, -1)])
theorem oo_Mo_writeGroup_at_l3_14 {kA : Nat → ClassId} : or_ok PRD kA GG o_Mo_writeGroup_at_l3_14 := by
  refine or_mk fun A ta ws vs hD hth hl => ?_
  intro t0 r0 t2 k2 t3 r3 t4 k4 t5 k5 t6 k6 t7 r7 t8 k8 t12 k12 t14 k14 d0 d1 d2 f0 f1 f2 f3 f4 f5 f6 ta1 w1 le1 s1 f8 f9 f10
  replace f0 := shm_110 f0
  replace f1 := shm_120 f1
  replace f2 := shm_2065 f2
  replace f3 := shm_123 f3
  replace f4 := shm_124 f4
  replace f5 := shm_5 f5
  replace f6 := shm_211 f6
  replace f8 := shm_2065 f8
  replace f9 := shm_37 f9
  replace f10 := shm_6 f10
  have q3 : n_v vs 3 = n_v vs 0 := f5.symm
  simp only [q3] at f0 f1 f3 f4 f6
  have cr_0_2 := fdq_10 hD hth r0
  have ad_7 : v_ad (n_v vs 7) = w_ar ws (n_v vs 0) 2 := congrArg v_ad f1
  have g0 : v_iv (n_v vs 8) = w_fi ws (n_v vs 0) 5 := congrArg v_iv f0
  have kz_0_170 := fdq_11 hD hth r0
  have kv0 := fdq_11 hD hth r0
  obtain ⟨x, ex, hx⟩ := iv_ex (ta := ta) (lo := 0) (hi := 99999992) (z := w_fi ws (n_v vs 0) 170) (by omega) (by omega) (by omega) (by omega)
  have ex2 : v_iv (Value.int x) = w_fi ws (n_v vs 0) 170 := ex
  have ex3 : 0 ≤ v_iv (Value.int x) ∧ v_iv (Value.int x) ≤ 99999992 := tv_rng hx
  have e_2 : n_v (vs ++ [Value.int x]) 2 = n_v vs 2 := n_v_old (by rw [hl]; decide)
  have e_3 : n_v (vs ++ [Value.int x]) 3 = n_v vs 3 := n_v_old (by rw [hl]; decide)
  have e_4 : n_v (vs ++ [Value.int x]) 4 = n_v vs 4 := n_v_old (by rw [hl]; decide)
  have e_5 : n_v (vs ++ [Value.int x]) 5 = n_v vs 5 := n_v_old (by rw [hl]; decide)
  have e_24 : n_v (vs ++ [Value.int x]) 24 = Value.int x := n_v_new hl
  have nf0 : fc_1 PRD (20, [3, 24], [30, 0, 1, 1, 170, -1, 0, 0]) ws (vs ++ [Value.int x]) := by
    refine ⟨nf_inA hl rfl, sgq_131 ?_⟩
    · show 1 * w_fi ws (n_v (vs ++ [Value.int x]) 3) 170 + ((-1) * v_iv (n_v (vs ++ [Value.int x]) 24) + 0) ≤ 0
      simp only [e_3, e_24, q3]
      exact vc_Mo_writeGroup_at_l3_14_0 (v_iv (n_v vs 2)) (v_iv (n_v vs 4)) (v_iv (n_v vs 5)) (v_iv (n_v vs 6)) (v_iv (n_v vs 8)) (v_iv (n_v vs 12)) (v_iv (n_v vs 14)) (w_fi ws (n_v vs 0) 5) (w_ei ws (w_ar ws (n_v vs 0) 2)) (w_fi ws (n_v vs 0) 170) (v_iv (Value.int x)) k2 k4 k5 k6 k8 k12 k14 d0 d1 d2 g0 f2 f3 f4 f6 f8 f9 f10 kz_0_170 ex2 ex3
  have nf1 : fc_1 PRD (23, [24, 2, 5, 4], [-13258, 1, -1, -14128, 14128]) ws (vs ++ [Value.int x]) := by
    refine ⟨nf_inA hl rfl, sgq_2066 ?_⟩
    · show 1 * v_iv (n_v (vs ++ [Value.int x]) 24) + ((-1) * v_iv (n_v (vs ++ [Value.int x]) 2) + ((-14128) * v_iv (n_v (vs ++ [Value.int x]) 5) + (14128 * v_iv (n_v (vs ++ [Value.int x]) 4) + 0))) ≤ (-13258)
      simp only [e_2, e_4, e_5, e_24]
      exact vc_Mo_writeGroup_at_l3_14_1 (v_iv (n_v vs 2)) (v_iv (n_v vs 4)) (v_iv (n_v vs 5)) (v_iv (n_v vs 6)) (v_iv (n_v vs 8)) (v_iv (n_v vs 12)) (v_iv (n_v vs 14)) (w_fi ws (n_v vs 0) 5) (w_ei ws (w_ar ws (n_v vs 0) 2)) (w_fi ws (n_v vs 0) 170) (v_iv (Value.int x)) k2 k4 k5 k6 k8 k12 k14 d0 d1 d2 g0 f2 f3 f4 f6 f8 f9 f10 kz_0_170 ex2 ex3
  exact ⟨(fun _ h => (by cases h)), [Value.int x], ag_one hx, List.forall_mem_cons.mpr ⟨⟨show (20 : Nat) < 100 from by decide, nf0⟩, List.forall_mem_cons.mpr ⟨⟨show (23 : Nat) < 100 from by decide, nf1⟩, (fun _ h => (by cases h))⟩⟩, (fun _ h => (by cases h))⟩
set_option maxHeartbeats 4000000 in
theorem vc_Mo_writeGroup_at_l3_15_0 (x2 : Int) (x4 : Int) (x5 : Int) (x6 : Int) (x12 : Int) (x14 : Int) (x24 : Int) (all_0 : Int → Int) (r_0 : Int) (texts_0 : Int) (gx : Int) (k2 : 0 ≤ x2 ∧ x2 ≤ 99942624) (k4 : 3 ≤ x4 ∧ x4 ≤ 6) (k5 : 4 ≤ x5 ∧ x5 ≤ 7) (k6 : 5 ≤ x6 ∧ x6 ≤ 8) (k12 : 3 ≤ x12 ∧ x12 ≤ 6) (k14 : 0 ≤ x14 ∧ x14 ≤ 99999994) (k24 : 0 ≤ x24 ∧ x24 ≤ 99999992) (d0 : x4 + 0 ≤ x12 ∧ x12 ≤ x4 + 0) (d1 : x6 + (-4294967296) ≤ x5 ∧ x5 ≤ x6 + (-1)) (d2 : x5 + (-4294967296) ≤ x4 ∧ x4 ≤ x5 + (-1)) (f0 : 1 * x24 + ((-1) * x2 + ((-14128) * x5 + (14128 * x4 + 0))) ≤ (-13258)) (f1 : 1 * x14 + ((-1) * x2 + ((-14128) * x5 + (14128 * x4 + 0))) ≤ (-13264)) (f2 : 1 * x6 + ((-1) * all_0 (r_0 + 2) + 0) ≤ 0) (f3 : (-1) * x6 + (1 * all_0 (r_0 + 2) + 0) ≤ 0) (f5 : 1 * texts_0 + ((-1) * x24 + 0) ≤ 8) (f7 : 1 * x24 + ((-1) * x2 + ((-14128) * x5 + (14128 * x4 + 0))) ≤ (-13258)) (f8 : 1 * x14 + ((-1) * x2 + ((-14128) * x5 + (14128 * x4 + 0))) ≤ (-13264)) (f10 : 1 * x14 + ((-1) * x2 + ((-14128) * x5 + (14128 * x4 + 0))) ≤ (-13264)) (f11 : x12 = x4) (f12 : x5 < x6) (kz_0_170 : 0 ≤ texts_0 ∧ texts_0 ≤ 100000000) (ex2 : gx = texts_0) (ex3 : 0 ≤ gx ∧ gx ≤ 99999997) : 1 * texts_0 + ((-1) * gx + 0) ≤ 0 := by
  first | assumption | omega | grind
set_option maxHeartbeats 4000000 in
theorem vc_Mo_writeGroup_at_l3_15_1 (x2 : Int) (x4 : Int) (x5 : Int) (x6 : Int) (x12 : Int) (x14 : Int) (x24 : Int) (all_0 : Int → Int) (r_0 : Int) (texts_0 : Int) (gx : Int) (k2 : 0 ≤ x2 ∧ x2 ≤ 99942624) (k4 : 3 ≤ x4 ∧ x4 ≤ 6) (k5 : 4 ≤ x5 ∧ x5 ≤ 7) (k6 : 5 ≤ x6 ∧ x6 ≤ 8) (k12 : 3 ≤ x12 ∧ x12 ≤ 6) (k14 : 0 ≤ x14 ∧ x14 ≤ 99999994) (k24 : 0 ≤ x24 ∧ x24 ≤ 99999992) (d0 : x4 + 0 ≤ x12 ∧ x12 ≤ x4 + 0) (d1 : x6 + (-4294967296) ≤ x5 ∧ x5 ≤ x6 + (-1)) (d2 : x5 + (-4294967296) ≤ x4 ∧ x4 ≤ x5 + (-1)) (f0 : 1 * x24 + ((-1) * x2 + ((-14128) * x5 + (14128 * x4 + 0))) ≤ (-13258)) (f1 : 1 * x14 + ((-1) * x2 + ((-14128) * x5 + (14128 * x4 + 0))) ≤ (-13264)) (f2 : 1 * x6 + ((-1) * all_0 (r_0 + 2) + 0) ≤ 0) (f3 : (-1) * x6 + (1 * all_0 (r_0 + 2) + 0) ≤ 0) (f5 : 1 * texts_0 + ((-1) * x24 + 0) ≤ 8) (f7 : 1 * x24 + ((-1) * x2 + ((-14128) * x5 + (14128 * x4 + 0))) ≤ (-13258)) (f8 : 1 * x14 + ((-1) * x2 + ((-14128) * x5 + (14128 * x4 + 0))) ≤ (-13264)) (f10 : 1 * x14 + ((-1) * x2 + ((-14128) * x5 + (14128 * x4 + 0))) ≤ (-13264)) (f11 : x12 = x4) (f12 : x5 < x6) (kz_0_170 : 0 ≤ texts_0 ∧ texts_0 ≤ 100000000) (ex2 : gx = texts_0) (ex3 : 0 ≤ gx ∧ gx ≤ 99999997) : 1 * gx + ((-1) * x2 + ((-14128) * x5 + (14128 * x4 + 0))) ≤ (-13250) := by
  first | assumption | omega | grind
def o_Mo_writeGroup_at_l3_15 : or_T := (156, 26, [(0, (2, 0, 0, [165])), (2, (0, 0, 99942624, [])), (3, (2, 0, 0, [165])), (4, (0, 3, 6, [])), (5, (0, 4, 7, [])), (6, (0, 5, 8, [])), (12, (0, 3, 6, [])), (14, (0, 0, 99999994, [])), (24, (0, 0, 99999992, []))], [(23, [24, 2, 5, 4], [-13258, 1, -1, -14128, 14128]), (23, [14, 2, 5, 4], [-13264, 1, -1, -14128, 14128]), (20, [6, 3], [30, 0, 1, 0, 0, -1, 3, 2005002]), (20, [6, 3], [30, 0, -1, 0, 0, 1, 3, 2005002]), (24, [0, 3], []), (20, [3, 24], [30, 8, 1, 1, 170, -1, 0, 0]), (102, [24], [7770675568902916283677847627294075626569627356208558085007249638955617140820833992704, 165170]), (23, [24, 2, 5, 4], [-13258, 1, -1, -14128, 14128]), (23, [14, 2, 5, 4], [-13264, 1, -1, -14128, 14128]), (102, [14], [7770675568902916283677847627294075626569627356208558085007249638955617140820833992704, 165170]), (23, [14, 2, 5, 4], [-13264, 1, -1, -14128, 14128]), (7, [12, 4], [0]), (7, [5, 6], [2])], [], [(0, 0, 99999997, [])], [(20, [3, 26], [30, 0, 1, 1, 170, -1, 0, 0]), (23, [26, 2, 5, 4], [-13250, 1, -1, -14128, 14128])], [], [(12, 4, 0, 0), (5, 6, -4294967296, -1), (4, 5, -4294967296, -1)])
theorem oo_Mo_writeGroup_at_l3_15 {kA : Nat → ClassId} : or_ok PRD kA GG o_Mo_writeGroup_at_l3_15 := by
  refine or_mk fun A ta ws vs hD hth hl => ?_
  intro t0 r0 t2 k2 t3 r3 t4 k4 t5 k5 t6 k6 t12 k12 t14 k14 t24 k24 d0 d1 d2 f0 f1 f2 f3 f4 f5 ta1 w1 le1 s1 f7 f8 ta2 w2 le2 s2 f10 f11 f12
  replace f0 := shm_2066 f0
  replace f1 := shm_2065 f1
  replace f2 := shm_123 f2
  replace f3 := shm_124 f3
  replace f4 := shm_5 f4
  replace f5 := shm_160 f5
  replace f7 := shm_2066 f7
  replace f8 := shm_2065 f8
  replace f10 := shm_2065 f10
  replace f11 := shm_37 f11
  replace f12 := shm_6 f12
  have q3 : n_v vs 3 = n_v vs 0 := f4.symm
  simp only [q3] at f2 f3 f5
  have cr_0_2 := fdq_10 hD hth r0
  have kz_0_170 := fdq_11 hD hth r0
  have kv0 := fdq_11 hD hth r0
  obtain ⟨x, ex, hx⟩ := iv_ex (ta := ta) (lo := 0) (hi := 99999997) (z := w_fi ws (n_v vs 0) 170) (by omega) (by omega) (by omega) (by omega)
  have ex2 : v_iv (Value.int x) = w_fi ws (n_v vs 0) 170 := ex
  have ex3 : 0 ≤ v_iv (Value.int x) ∧ v_iv (Value.int x) ≤ 99999997 := tv_rng hx
  have e_2 : n_v (vs ++ [Value.int x]) 2 = n_v vs 2 := n_v_old (by rw [hl]; decide)
  have e_3 : n_v (vs ++ [Value.int x]) 3 = n_v vs 3 := n_v_old (by rw [hl]; decide)
  have e_4 : n_v (vs ++ [Value.int x]) 4 = n_v vs 4 := n_v_old (by rw [hl]; decide)
  have e_5 : n_v (vs ++ [Value.int x]) 5 = n_v vs 5 := n_v_old (by rw [hl]; decide)
  have e_26 : n_v (vs ++ [Value.int x]) 26 = Value.int x := n_v_new hl
  have nf0 : fc_1 PRD (20, [3, 26], [30, 0, 1, 1, 170, -1, 0, 0]) ws (vs ++ [Value.int x]) := by
    refine ⟨nf_inA hl rfl, sgq_131 ?_⟩
    · show 1 * w_fi ws (n_v (vs ++ [Value.int x]) 3) 170 + ((-1) * v_iv (n_v (vs ++ [Value.int x]) 26) + 0) ≤ 0
      simp only [e_3, e_26, q3]
      exact vc_Mo_writeGroup_at_l3_15_0 (v_iv (n_v vs 2)) (v_iv (n_v vs 4)) (v_iv (n_v vs 5)) (v_iv (n_v vs 6)) (v_iv (n_v vs 12)) (v_iv (n_v vs 14)) (v_iv (n_v vs 24)) (w_ei ws (w_ar ws (n_v vs 0) 2)) (w_fi ws (n_v vs 0) 5) (w_fi ws (n_v vs 0) 170) (v_iv (Value.int x)) k2 k4 k5 k6 k12 k14 k24 d0 d1 d2 f0 f1 f2 f3 f5 f7 f8 f10 f11 f12 kz_0_170 ex2 ex3
  have nf1 : fc_1 PRD (23, [26, 2, 5, 4], [-13250, 1, -1, -14128, 14128]) ws (vs ++ [Value.int x]) := by
    refine ⟨nf_inA hl rfl, sgq_2067 ?_⟩
    · show 1 * v_iv (n_v (vs ++ [Value.int x]) 26) + ((-1) * v_iv (n_v (vs ++ [Value.int x]) 2) + ((-14128) * v_iv (n_v (vs ++ [Value.int x]) 5) + (14128 * v_iv (n_v (vs ++ [Value.int x]) 4) + 0))) ≤ (-13250)
      simp only [e_2, e_4, e_5, e_26]
      exact vc_Mo_writeGroup_at_l3_15_1 (v_iv (n_v vs 2)) (v_iv (n_v vs 4)) (v_iv (n_v vs 5)) (v_iv (n_v vs 6)) (v_iv (n_v vs 12)) (v_iv (n_v vs 14)) (v_iv (n_v vs 24)) (w_ei ws (w_ar ws (n_v vs 0) 2)) (w_fi ws (n_v vs 0) 5) (w_fi ws (n_v vs 0) 170) (v_iv (Value.int x)) k2 k4 k5 k6 k12 k14 k24 d0 d1 d2 f0 f1 f2 f3 f5 f7 f8 f10 f11 f12 kz_0_170 ex2 ex3
  exact ⟨(fun _ h => (by cases h)), [Value.int x], ag_one hx, List.forall_mem_cons.mpr ⟨⟨show (20 : Nat) < 100 from by decide, nf0⟩, List.forall_mem_cons.mpr ⟨⟨show (23 : Nat) < 100 from by decide, nf1⟩, (fun _ h => (by cases h))⟩⟩, (fun _ h => (by cases h))⟩
set_option maxHeartbeats 4000000 in
theorem vc_Mo_writeGroup_at_l3_16_0 (x2 : Int) (x4 : Int) (x5 : Int) (x6 : Int) (x12 : Int) (x14 : Int) (x24 : Int) (x26 : Int) (all_0 : Int → Int) (r_0 : Int) (texts_0 : Int) (gx : Int) (k2 : 0 ≤ x2 ∧ x2 ≤ 99942624) (k4 : 3 ≤ x4 ∧ x4 ≤ 6) (k5 : 4 ≤ x5 ∧ x5 ≤ 7) (k6 : 5 ≤ x6 ∧ x6 ≤ 8) (k12 : 3 ≤ x12 ∧ x12 ≤ 6) (k14 : 0 ≤ x14 ∧ x14 ≤ 99999994) (k24 : 0 ≤ x24 ∧ x24 ≤ 99999992) (k26 : 0 ≤ x26 ∧ x26 ≤ 99999997) (d0 : x4 + 0 ≤ x12 ∧ x12 ≤ x4 + 0) (d1 : x6 + (-4294967296) ≤ x5 ∧ x5 ≤ x6 + (-1)) (d2 : x5 + (-4294967296) ≤ x4 ∧ x4 ≤ x5 + (-1)) (f0 : 1 * x26 + ((-1) * x2 + ((-14128) * x5 + (14128 * x4 + 0))) ≤ (-13250)) (f1 : 1 * x24 + ((-1) * x2 + ((-14128) * x5 + (14128 * x4 + 0))) ≤ (-13258)) (f2 : 1 * x14 + ((-1) * x2 + ((-14128) * x5 + (14128 * x4 + 0))) ≤ (-13264)) (f3 : 1 * x6 + ((-1) * all_0 (r_0 + 2) + 0) ≤ 0) (f4 : (-1) * x6 + (1 * all_0 (r_0 + 2) + 0) ≤ 0) (f6 : 1 * texts_0 + ((-1) * x26 + 0) ≤ 3) (f8 : 1 * x26 + ((-1) * x2 + ((-14128) * x5 + (14128 * x4 + 0))) ≤ (-13250)) (f9 : 1 * x24 + ((-1) * x2 + ((-14128) * x5 + (14128 * x4 + 0))) ≤ (-13258)) (f10 : 1 * x14 + ((-1) * x2 + ((-14128) * x5 + (14128 * x4 + 0))) ≤ (-13264)) (f12 : 1 * x24 + ((-1) * x2 + ((-14128) * x5 + (14128 * x4 + 0))) ≤ (-13258)) (f13 : 1 * x14 + ((-1) * x2 + ((-14128) * x5 + (14128 * x4 + 0))) ≤ (-13264)) (f15 : 1 * x14 + ((-1) * x2 + ((-14128) * x5 + (14128 * x4 + 0))) ≤ (-13264)) (f16 : x12 = x4) (f17 : x5 < x6) (kz_0_170 : 0 ≤ texts_0 ∧ texts_0 ≤ 100000000) (ex2 : gx = texts_0) (ex3 : 0 ≤ gx ∧ gx ≤ 99985891) : 1 * texts_0 + ((-1) * gx + 0) ≤ 0 := by
  first | assumption | omega | grind
set_option maxHeartbeats 4000000 in
theorem vc_Mo_writeGroup_at_l3_16_1 (x2 : Int) (x4 : Int) (x5 : Int) (x6 : Int) (x12 : Int) (x14 : Int) (x24 : Int) (x26 : Int) (all_0 : Int → Int) (r_0 : Int) (texts_0 : Int) (gx : Int) (k2 : 0 ≤ x2 ∧ x2 ≤ 99942624) (k4 : 3 ≤ x4 ∧ x4 ≤ 6) (k5 : 4 ≤ x5 ∧ x5 ≤ 7) (k6 : 5 ≤ x6 ∧ x6 ≤ 8) (k12 : 3 ≤ x12 ∧ x12 ≤ 6) (k14 : 0 ≤ x14 ∧ x14 ≤ 99999994) (k24 : 0 ≤ x24 ∧ x24 ≤ 99999992) (k26 : 0 ≤ x26 ∧ x26 ≤ 99999997) (d0 : x4 + 0 ≤ x12 ∧ x12 ≤ x4 + 0) (d1 : x6 + (-4294967296) ≤ x5 ∧ x5 ≤ x6 + (-1)) (d2 : x5 + (-4294967296) ≤ x4 ∧ x4 ≤ x5 + (-1)) (f0 : 1 * x26 + ((-1) * x2 + ((-14128) * x5 + (14128 * x4 + 0))) ≤ (-13250)) (f1 : 1 * x24 + ((-1) * x2 + ((-14128) * x5 + (14128 * x4 + 0))) ≤ (-13258)) (f2 : 1 * x14 + ((-1) * x2 + ((-14128) * x5 + (14128 * x4 + 0))) ≤ (-13264)) (f3 : 1 * x6 + ((-1) * all_0 (r_0 + 2) + 0) ≤ 0) (f4 : (-1) * x6 + (1 * all_0 (r_0 + 2) + 0) ≤ 0) (f6 : 1 * texts_0 + ((-1) * x26 + 0) ≤ 3) (f8 : 1 * x26 + ((-1) * x2 + ((-14128) * x5 + (14128 * x4 + 0))) ≤ (-13250)) (f9 : 1 * x24 + ((-1) * x2 + ((-14128) * x5 + (14128 * x4 + 0))) ≤ (-13258)) (f10 : 1 * x14 + ((-1) * x2 + ((-14128) * x5 + (14128 * x4 + 0))) ≤ (-13264)) (f12 : 1 * x24 + ((-1) * x2 + ((-14128) * x5 + (14128 * x4 + 0))) ≤ (-13258)) (f13 : 1 * x14 + ((-1) * x2 + ((-14128) * x5 + (14128 * x4 + 0))) ≤ (-13264)) (f15 : 1 * x14 + ((-1) * x2 + ((-14128) * x5 + (14128 * x4 + 0))) ≤ (-13264)) (f16 : x12 = x4) (f17 : x5 < x6) (kz_0_170 : 0 ≤ texts_0 ∧ texts_0 ≤ 100000000) (ex2 : gx = texts_0) (ex3 : 0 ≤ gx ∧ gx ≤ 99985891) : 1 * gx + ((-1) * x2 + ((-14128) * x5 + (14128 * x4 + 0))) ≤ (-13247) := by
  first | assumption | omega | grind
def o_Mo_writeGroup_at_l3_16 : or_T := (161, 27, [(0, (2, 0, 0, [165])), (2, (0, 0, 99942624, [])), (3, (2, 0, 0, [165])), (4, (0, 3, 6, [])), (5, (0, 4, 7, [])), (6, (0, 5, 8, [])), (12, (0, 3, 6, [])), (14, (0, 0, 99999994, [])), (24, (0, 0, 99999992, [])), (26, (0, 0, 99999997, []))], [(23, [26, 2, 5, 4], [-13250, 1, -1, -14128, 14128]), (23, [24, 2, 5, 4], [-13258, 1, -1, -14128, 14128]), (23, [14, 2, 5, 4], [-13264, 1, -1, -14128, 14128]), (20, [6, 3], [30, 0, 1, 0, 0, -1, 3, 2005002]), (20, [6, 3], [30, 0, -1, 0, 0, 1, 3, 2005002]), (24, [0, 3], []), (20, [3, 26], [30, 3, 1, 1, 170, -1, 0, 0]), (102, [26], [7770675568902916283677847627294075626569627356208558085007249638955617140820833992704, 165170]), (23, [26, 2, 5, 4], [-13250, 1, -1, -14128, 14128]), (23, [24, 2, 5, 4], [-13258, 1, -1, -14128, 14128]), (23, [14, 2, 5, 4], [-13264, 1, -1, -14128, 14128]), (102, [24], [7770675568902916283677847627294075626569627356208558085007249638955617140820833992704, 165170]), (23, [24, 2, 5, 4], [-13258, 1, -1, -14128, 14128]), (23, [14, 2, 5, 4], [-13264, 1, -1, -14128, 14128]), (102, [14], [7770675568902916283677847627294075626569627356208558085007249638955617140820833992704, 165170]), (23, [14, 2, 5, 4], [-13264, 1, -1, -14128, 14128]), (7, [12, 4], [0]), (7, [5, 6], [2])], [], [(0, 0, 99985891, [])], [(20, [3, 27], [30, 0, 1, 1, 170, -1, 0, 0]), (23, [27, 2, 5, 4], [-13247, 1, -1, -14128, 14128])], [], [(12, 4, 0, 0), (5, 6, -4294967296, -1), (4, 5, -4294967296, -1)])
theorem oo_Mo_writeGroup_at_l3_16 {kA : Nat → ClassId} : or_ok PRD kA GG o_Mo_writeGroup_at_l3_16 := by
  refine or_mk fun A ta ws vs hD hth hl => ?_
  intro t0 r0 t2 k2 t3 r3 t4 k4 t5 k5 t6 k6 t12 k12 t14 k14 t24 k24 t26 k26 d0 d1 d2 f0 f1 f2 f3 f4 f5 f6 ta1 w1 le1 s1 f8 f9 f10 ta2 w2 le2 s2 f12 f13 ta3 w3 le3 s3 f15 f16 f17
  replace f0 := shm_2067 f0
  replace f1 := shm_2066 f1
  replace f2 := shm_2065 f2
  replace f3 := shm_123 f3
  replace f4 := shm_124 f4
  replace f5 := shm_5 f5
  replace f6 := shm_212 f6
  replace f8 := shm_2067 f8
  replace f9 := shm_2066 f9
  replace f10 := shm_2065 f10
  replace f12 := shm_2066 f12
  replace f13 := shm_2065 f13
  replace f15 := shm_2065 f15
  replace f16 := shm_37 f16
  replace f17 := shm_6 f17
  have q3 : n_v vs 3 = n_v vs 0 := f5.symm
  simp only [q3] at f3 f4 f6
  have cr_0_2 := fdq_10 hD hth r0
  have kz_0_170 := fdq_11 hD hth r0
  have kv0 := fdq_11 hD hth r0
  obtain ⟨x, ex, hx⟩ := iv_ex (ta := ta) (lo := 0) (hi := 99985891) (z := w_fi ws (n_v vs 0) 170) (by omega) (by omega) (by omega) (by omega)
  have ex2 : v_iv (Value.int x) = w_fi ws (n_v vs 0) 170 := ex
  have ex3 : 0 ≤ v_iv (Value.int x) ∧ v_iv (Value.int x) ≤ 99985891 := tv_rng hx
  have e_2 : n_v (vs ++ [Value.int x]) 2 = n_v vs 2 := n_v_old (by rw [hl]; decide)
  have e_3 : n_v (vs ++ [Value.int x]) 3 = n_v vs 3 := n_v_old (by rw [hl]; decide)
  have e_4 : n_v (vs ++ [Value.int x]) 4 = n_v vs 4 := n_v_old (by rw [hl]; decide)
  have e_5 : n_v (vs ++ [Value.int x]) 5 = n_v vs 5 := n_v_old (by rw [hl]; decide)
  have e_27 : n_v (vs ++ [Value.int x]) 27 = Value.int x := n_v_new hl
  have nf0 : fc_1 PRD (20, [3, 27], [30, 0, 1, 1, 170, -1, 0, 0]) ws (vs ++ [Value.int x]) := by
    refine ⟨nf_inA hl rfl, sgq_131 ?_⟩
    · show 1 * w_fi ws (n_v (vs ++ [Value.int x]) 3) 170 + ((-1) * v_iv (n_v (vs ++ [Value.int x]) 27) + 0) ≤ 0
      simp only [e_3, e_27, q3]
      exact vc_Mo_writeGroup_at_l3_16_0 (v_iv (n_v vs 2)) (v_iv (n_v vs 4)) (v_iv (n_v vs 5)) (v_iv (n_v vs 6)) (v_iv (n_v vs 12)) (v_iv (n_v vs 14)) (v_iv (n_v vs 24)) (v_iv (n_v vs 26)) (w_ei ws (w_ar ws (n_v vs 0) 2)) (w_fi ws (n_v vs 0) 5) (w_fi ws (n_v vs 0) 170) (v_iv (Value.int x)) k2 k4 k5 k6 k12 k14 k24 k26 d0 d1 d2 f0 f1 f2 f3 f4 f6 f8 f9 f10 f12 f13 f15 f16 f17 kz_0_170 ex2 ex3
  have nf1 : fc_1 PRD (23, [27, 2, 5, 4], [-13247, 1, -1, -14128, 14128]) ws (vs ++ [Value.int x]) := by
    refine ⟨nf_inA hl rfl, sgq_2068 ?_⟩
    · show 1 * v_iv (n_v (vs ++ [Value.int x]) 27) + ((-1) * v_iv (n_v (vs ++ [Value.int x]) 2) + ((-14128) * v_iv (n_v (vs ++ [Value.int x]) 5) + (14128 * v_iv (n_v (vs ++ [Value.int x]) 4) + 0))) ≤ (-13247)
      simp only [e_2, e_4, e_5, e_27]
      exact vc_Mo_writeGroup_at_l3_16_1 (v_iv (n_v vs 2)) (v_iv (n_v vs 4)) (v_iv (n_v vs 5)) (v_iv (n_v vs 6)) (v_iv (n_v vs 12)) (v_iv (n_v vs 14)) (v_iv (n_v vs 24)) (v_iv (n_v vs 26)) (w_ei ws (w_ar ws (n_v vs 0) 2)) (w_fi ws (n_v vs 0) 5) (w_fi ws (n_v vs 0) 170) (v_iv (Value.int x)) k2 k4 k5 k6 k12 k14 k24 k26 d0 d1 d2 f0 f1 f2 f3 f4 f6 f8 f9 f10 f12 f13 f15 f16 f17 kz_0_170 ex2 ex3
  exact ⟨(fun _ h => (by cases h)), [Value.int x], ag_one hx, List.forall_mem_cons.mpr ⟨⟨show (20 : Nat) < 100 from by decide, nf0⟩, List.forall_mem_cons.mpr ⟨⟨show (23 : Nat) < 100 from by decide, nf1⟩, (fun _ h => (by cases h))⟩⟩, (fun _ h => (by cases h))⟩
set_option maxHeartbeats 4000000 in
theorem vc_Mo_writeGroup_at_l3_17_0 (x2 : Int) (x4 : Int) (x5 : Int) (x6 : Int) (x12 : Int) (x14 : Int) (x24 : Int) (x26 : Int) (x27 : Int) (all_0 : Int → Int) (r_0 : Int) (texts_0 : Int) (gx : Int) (k2 : 0 ≤ x2 ∧ x2 ≤ 99942624) (k4 : 3 ≤ x4 ∧ x4 ≤ 6) (k5 : 4 ≤ x5 ∧ x5 ≤ 7) (k6 : 5 ≤ x6 ∧ x6 ≤ 8) (k12 : 3 ≤ x12 ∧ x12 ≤ 6) (k14 : 0 ≤ x14 ∧ x14 ≤ 99999994) (k24 : 0 ≤ x24 ∧ x24 ≤ 99999992) (k26 : 0 ≤ x26 ∧ x26 ≤ 99999997) (k27 : 0 ≤ x27 ∧ x27 ≤ 99985891) (d0 : x4 + 0 ≤ x12 ∧ x12 ≤ x4 + 0) (d1 : x6 + (-4294967296) ≤ x5 ∧ x5 ≤ x6 + (-1)) (d2 : x5 + (-4294967296) ≤ x4 ∧ x4 ≤ x5 + (-1)) (f0 : 1 * x27 + ((-1) * x2 + ((-14128) * x5 + (14128 * x4 + 0))) ≤ (-13247)) (f1 : 1 * x26 + ((-1) * x2 + ((-14128) * x5 + (14128 * x4 + 0))) ≤ (-13250)) (f2 : 1 * x24 + ((-1) * x2 + ((-14128) * x5 + (14128 * x4 + 0))) ≤ (-13258)) (f3 : 1 * x14 + ((-1) * x2 + ((-14128) * x5 + (14128 * x4 + 0))) ≤ (-13264)) (f4 : 1 * x6 + ((-1) * all_0 (r_0 + 2) + 0) ≤ 0) (f5 : (-1) * x6 + (1 * all_0 (r_0 + 2) + 0) ≤ 0) (f7 : 1 * texts_0 + ((-1) * x27 + 0) ≤ 14109) (f9 : 1 * x27 + ((-1) * x2 + ((-14128) * x5 + (14128 * x4 + 0))) ≤ (-13247)) (f10 : 1 * x26 + ((-1) * x2 + ((-14128) * x5 + (14128 * x4 + 0))) ≤ (-13250)) (f11 : 1 * x24 + ((-1) * x2 + ((-14128) * x5 + (14128 * x4 + 0))) ≤ (-13258)) (f12 : 1 * x14 + ((-1) * x2 + ((-14128) * x5 + (14128 * x4 + 0))) ≤ (-13264)) (f14 : 1 * x26 + ((-1) * x2 + ((-14128) * x5 + (14128 * x4 + 0))) ≤ (-13250)) (f15 : 1 * x24 + ((-1) * x2 + ((-14128) * x5 + (14128 * x4 + 0))) ≤ (-13258)) (f16 : 1 * x14 + ((-1) * x2 + ((-14128) * x5 + (14128 * x4 + 0))) ≤ (-13264)) (f18 : 1 * x24 + ((-1) * x2 + ((-14128) * x5 + (14128 * x4 + 0))) ≤ (-13258)) (f19 : 1 * x14 + ((-1) * x2 + ((-14128) * x5 + (14128 * x4 + 0))) ≤ (-13264)) (f21 : 1 * x14 + ((-1) * x2 + ((-14128) * x5 + (14128 * x4 + 0))) ≤ (-13264)) (f22 : x12 = x4) (f23 : x5 < x6) (kz_0_170 : 0 ≤ texts_0 ∧ texts_0 ≤ 100000000) (ex2 : gx = texts_0) (ex3 : 0 ≤ gx ∧ gx ≤ 99999998) : 1 * texts_0 + ((-1) * gx + 0) ≤ 0 := by
  first | assumption | omega | grind
set_option maxHeartbeats 4000000 in
theorem vc_Mo_writeGroup_at_l3_17_1 (x2 : Int) (x4 : Int) (x5 : Int) (x6 : Int) (x12 : Int) (x14 : Int) (x24 : Int) (x26 : Int) (x27 : Int) (all_0 : Int → Int) (r_0 : Int) (texts_0 : Int) (gx : Int) (k2 : 0 ≤ x2 ∧ x2 ≤ 99942624) (k4 : 3 ≤ x4 ∧ x4 ≤ 6) (k5 : 4 ≤ x5 ∧ x5 ≤ 7) (k6 : 5 ≤ x6 ∧ x6 ≤ 8) (k12 : 3 ≤ x12 ∧ x12 ≤ 6) (k14 : 0 ≤ x14 ∧ x14 ≤ 99999994) (k24 : 0 ≤ x24 ∧ x24 ≤ 99999992) (k26 : 0 ≤ x26 ∧ x26 ≤ 99999997) (k27 : 0 ≤ x27 ∧ x27 ≤ 99985891) (d0 : x4 + 0 ≤ x12 ∧ x12 ≤ x4 + 0) (d1 : x6 + (-4294967296) ≤ x5 ∧ x5 ≤ x6 + (-1)) (d2 : x5 + (-4294967296) ≤ x4 ∧ x4 ≤ x5 + (-1)) (f0 : 1 * x27 + ((-1) * x2 + ((-14128) * x5 + (14128 * x4 + 0))) ≤ (-13247)) (f1 : 1 * x26 + ((-1) * x2 + ((-14128) * x5 + (14128 * x4 + 0))) ≤ (-13250)) (f2 : 1 * x24 + ((-1) * x2 + ((-14128) * x5 + (14128 * x4 + 0))) ≤ (-13258)) (f3 : 1 * x14 + ((-1) * x2 + ((-14128) * x5 + (14128 * x4 + 0))) ≤ (-13264)) (f4 : 1 * x6 + ((-1) * all_0 (r_0 + 2) + 0) ≤ 0) (f5 : (-1) * x6 + (1 * all_0 (r_0 + 2) + 0) ≤ 0) (f7 : 1 * texts_0 + ((-1) * x27 + 0) ≤ 14109) (f9 : 1 * x27 + ((-1) * x2 + ((-14128) * x5 + (14128 * x4 + 0))) ≤ (-13247)) (f10 : 1 * x26 + ((-1) * x2 + ((-14128) * x5 + (14128 * x4 + 0))) ≤ (-13250)) (f11 : 1 * x24 + ((-1) * x2 + ((-14128) * x5 + (14128 * x4 + 0))) ≤ (-13258)) (f12 : 1 * x14 + ((-1) * x2 + ((-14128) * x5 + (14128 * x4 + 0))) ≤ (-13264)) (f14 : 1 * x26 + ((-1) * x2 + ((-14128) * x5 + (14128 * x4 + 0))) ≤ (-13250)) (f15 : 1 * x24 + ((-1) * x2 + ((-14128) * x5 + (14128 * x4 + 0))) ≤ (-13258)) (f16 : 1 * x14 + ((-1) * x2 + ((-14128) * x5 + (14128 * x4 + 0))) ≤ (-13264)) (f18 : 1 * x24 + ((-1) * x2 + ((-14128) * x5 + (14128 * x4 + 0))) ≤ (-13258)) (f19 : 1 * x14 + ((-1) * x2 + ((-14128) * x5 + (14128 * x4 + 0))) ≤ (-13264)) (f21 : 1 * x14 + ((-1) * x2 + ((-14128) * x5 + (14128 * x4 + 0))) ≤ (-13264)) (f22 : x12 = x4) (f23 : x5 < x6) (kz_0_170 : 0 ≤ texts_0 ∧ texts_0 ≤ 100000000) (ex2 : gx = texts_0) (ex3 : 0 ≤ gx ∧ gx ≤ 99999998) : 1 * gx + ((-1) * x2 + ((-14128) * x5 + (14128 * x4 + 0))) ≤ 862 := by
  first | assumption | omega | grind
def o_Mo_writeGroup_at_l3_17 : or_T := (168, 29, [(0, (2, 0, 0, [165])), (2, (0, 0, 99942624, [])), (3, (2, 0, 0, [165])), (4, (0, 3, 6, [])), (5, (0, 4, 7, [])), (6, (0, 5, 8, [])), (12, (0, 3, 6, [])), (14, (0, 0, 99999994, [])), (24, (0, 0, 99999992, [])), (26, (0, 0, 99999997, [])), (27, (0, 0, 99985891, []))], [(23, [27, 2, 5, 4], [-13247, 1, -1, -14128, 14128]), (23, [26, 2, 5, 4], [-13250, 1, -1, -14128, 14128]), (23, [24, 2, 5, 4], [-13258, 1, -1, -14128, 14128]), (23, [14, 2, 5, 4], [-13264, 1, -1, -14128, 14128]), (20, [6, 3], [30, 0, 1, 0, 0, -1, 3, 2005002]), (20, [6, 3], [30, 0, -1, 0, 0, 1, 3, 2005002]), (24, [0, 3], []), (20, [3, 27], [30, 14109, 1, 1, 170, -1, 0, 0]), (102, [27], [7770675568902916283677847627294075626569627356208558085007249638955617140820833992704, 165170]), (23, [27, 2, 5, 4], [-13247, 1, -1, -14128, 14128]), (23, [26, 2, 5, 4], [-13250, 1, -1, -14128, 14128]), (23, [24, 2, 5, 4], [-13258, 1, -1, -14128, 14128]), (23, [14, 2, 5, 4], [-13264, 1, -1, -14128, 14128]), (102, [26], [7770675568902916283677847627294075626569627356208558085007249638955617140820833992704, 165170]), (23, [26, 2, 5, 4], [-13250, 1, -1, -14128, 14128]), (23, [24, 2, 5, 4], [-13258, 1, -1, -14128, 14128]), (23, [14, 2, 5, 4], [-13264, 1, -1, -14128, 14128]), (102, [24], [7770675568902916283677847627294075626569627356208558085007249638955617140820833992704, 165170]), (23, [24, 2, 5, 4], [-13258, 1, -1, -14128, 14128]), (23, [14, 2, 5, 4], [-13264, 1, -1, -14128, 14128]), (102, [14], [7770675568902916283677847627294075626569627356208558085007249638955617140820833992704, 165170]), (23, [14, 2, 5, 4], [-13264, 1, -1, -14128, 14128]), (7, [12, 4], [0]), (7, [5, 6], [2])], [], [(0, 0, 99999998, [])], [(20, [3, 29], [30, 0, 1, 1, 170, -1, 0, 0]), (23, [29, 2, 5, 4], [862, 1, -1, -14128, 14128])], [], [(12, 4, 0, 0), (5, 6, -4294967296, -1), (4, 5, -4294967296, -1)])
theorem oo_Mo_writeGroup_at_l3_17 {kA : Nat → ClassId} : or_ok PRD kA GG o_Mo_writeGroup_at_l3_17 := by
  refine or_mk fun A ta ws vs hD hth hl => ?_
  intro t0 r0 t2 k2 t3 r3 t4 k4 t5 k5 t6 k6 t12 k12 t14 k14 t24 k24 t26 k26 t27 k27 d0 d1 d2 f0 f1 f2 f3 f4 f5 f6 f7 ta1 w1 le1 s1 f9 f10 f11 f12 ta2 w2 le2 s2 f14 f15 f16 ta3 w3 le3 s3 f18 f19 ta4 w4 le4 s4 f21 f22 f23
  replace f0 := shm_2068 f0
  replace f1 := shm_2067 f1
  replace f2 := shm_2066 f2
  replace f3 := shm_2065 f3
  replace f4 := shm_123 f4
  replace f5 := shm_124 f5
  replace f6 := shm_5 f6
  replace f7 := shm_2069 f7
  replace f9 := shm_2068 f9
  replace f10 := shm_2067 f10
  replace f11 := shm_2066 f11
  replace f12 := shm_2065 f12
  replace f14 := shm_2067 f14
  replace f15 := shm_2066 f15
  replace f16 := shm_2065 f16
  replace f18 := shm_2066 f18
  replace f19 := shm_2065 f19
  replace f21 := shm_2065 f21
  replace f22 := shm_37 f22
  replace f23 := shm_6 f23
  have q3 : n_v vs 3 = n_v vs 0 := f6.symm
  simp only [q3] at f4 f5 f7
  have cr_0_2 := fdq_10 hD hth r0
  have kz_0_170 := fdq_11 hD hth r0
  have kv0 := fdq_11 hD hth r0
  obtain ⟨x, ex, hx⟩ := iv_ex (ta := ta) (lo := 0) (hi := 99999998) (z := w_fi ws (n_v vs 0) 170) (by omega) (by omega) (by omega) (by omega)
  have ex2 : v_iv (Value.int x) = w_fi ws (n_v vs 0) 170 := ex
  have ex3 : 0 ≤ v_iv (Value.int x) ∧ v_iv (Value.int x) ≤ 99999998 := tv_rng hx
  have e_2 : n_v (vs ++ [Value.int x]) 2 = n_v vs 2 := n_v_old (by rw [hl]; decide)
  have e_3 : n_v (vs ++ [Value.int x]) 3 = n_v vs 3 := n_v_old (by rw [hl]; decide)
  have e_4 : n_v (vs ++ [Value.int x]) 4 = n_v vs 4 := n_v_old (by rw [hl]; decide)
  have e_5 : n_v (vs ++ [Value.int x]) 5 = n_v vs 5 := n_v_old (by rw [hl]; decide)
  have e_29 : n_v (vs ++ [Value.int x]) 29 = Value.int x := n_v_new hl
  have nf0 : fc_1 PRD (20, [3, 29], [30, 0, 1, 1, 170, -1, 0, 0]) ws (vs ++ [Value.int x]) := by
    refine ⟨nf_inA hl rfl, sgq_131 ?_⟩
    · show 1 * w_fi ws (n_v (vs ++ [Value.int x]) 3) 170 + ((-1) * v_iv (n_v (vs ++ [Value.int x]) 29) + 0) ≤ 0
      simp only [e_3, e_29, q3]
      exact vc_Mo_writeGroup_at_l3_17_0 (v_iv (n_v vs 2)) (v_iv (n_v vs 4)) (v_iv (n_v vs 5)) (v_iv (n_v vs 6)) (v_iv (n_v vs 12)) (v_iv (n_v vs 14)) (v_iv (n_v vs 24)) (v_iv (n_v vs 26)) (v_iv (n_v vs 27)) (w_ei ws (w_ar ws (n_v vs 0) 2)) (w_fi ws (n_v vs 0) 5) (w_fi ws (n_v vs 0) 170) (v_iv (Value.int x)) k2 k4 k5 k6 k12 k14 k24 k26 k27 d0 d1 d2 f0 f1 f2 f3 f4 f5 f7 f9 f10 f11 f12 f14 f15 f16 f18 f19 f21 f22 f23 kz_0_170 ex2 ex3
  have nf1 : fc_1 PRD (23, [29, 2, 5, 4], [862, 1, -1, -14128, 14128]) ws (vs ++ [Value.int x]) := by
    refine ⟨nf_inA hl rfl, sgq_2070 ?_⟩
    · show 1 * v_iv (n_v (vs ++ [Value.int x]) 29) + ((-1) * v_iv (n_v (vs ++ [Value.int x]) 2) + ((-14128) * v_iv (n_v (vs ++ [Value.int x]) 5) + (14128 * v_iv (n_v (vs ++ [Value.int x]) 4) + 0))) ≤ 862
      simp only [e_2, e_4, e_5, e_29]
      exact vc_Mo_writeGroup_at_l3_17_1 (v_iv (n_v vs 2)) (v_iv (n_v vs 4)) (v_iv (n_v vs 5)) (v_iv (n_v vs 6)) (v_iv (n_v vs 12)) (v_iv (n_v vs 14)) (v_iv (n_v vs 24)) (v_iv (n_v vs 26)) (v_iv (n_v vs 27)) (w_ei ws (w_ar ws (n_v vs 0) 2)) (w_fi ws (n_v vs 0) 5) (w_fi ws (n_v vs 0) 170) (v_iv (Value.int x)) k2 k4 k5 k6 k12 k14 k24 k26 k27 d0 d1 d2 f0 f1 f2 f3 f4 f5 f7 f9 f10 f11 f12 f14 f15 f16 f18 f19 f21 f22 f23 kz_0_170 ex2 ex3
  exact ⟨(fun _ h => (by cases h)), [Value.int x], ag_one hx, List.forall_mem_cons.mpr ⟨⟨show (20 : Nat) < 100 from by decide, nf0⟩, List.forall_mem_cons.mpr ⟨⟨show (23 : Nat) < 100 from by decide, nf1⟩, (fun _ h => (by cases h))⟩⟩, (fun _ h => (by cases h))⟩
set_option maxHeartbeats 4000000 in
theorem vc_Mo_writeGroup_at_l3_18_0 (x2 : Int) (x4 : Int) (x5 : Int) (x6 : Int) (x12 : Int) (x14 : Int) (x24 : Int) (x26 : Int) (x27 : Int) (x29 : Int) (x30 : Int) (all_0 : Int → Int) (r_0 : Int) (texts_0 : Int) (k2 : 0 ≤ x2 ∧ x2 ≤ 99942624) (k4 : 3 ≤ x4 ∧ x4 ≤ 6) (k5 : 4 ≤ x5 ∧ x5 ≤ 7) (k6 : 5 ≤ x6 ∧ x6 ≤ 8) (k12 : 3 ≤ x12 ∧ x12 ≤ 6) (k14 : 0 ≤ x14 ∧ x14 ≤ 99999994) (k24 : 0 ≤ x24 ∧ x24 ≤ 99999992) (k26 : 0 ≤ x26 ∧ x26 ≤ 99999997) (k27 : 0 ≤ x27 ∧ x27 ≤ 99985891) (k29 : 0 ≤ x29 ∧ x29 ≤ 99999998) (k30 : 5 ≤ x30 ∧ x30 ≤ 8) (d0 : x5 + 1 ≤ x30 ∧ x30 ≤ x5 + 1) (d1 : x6 + (-4294967296) ≤ x30 ∧ x30 ≤ x6 + 0) (d2 : x4 + 0 ≤ x12 ∧ x12 ≤ x4 + 0) (d3 : x6 + (-4294967296) ≤ x5 ∧ x5 ≤ x6 + (-1)) (d4 : x5 + (-4294967296) ≤ x4 ∧ x4 ≤ x5 + (-1)) (f0 : x30 = x5 + 1) (f1 : 1 * x29 + ((-1) * x2 + ((-14128) * x5 + (14128 * x4 + 0))) ≤ 862) (f2 : 1 * x27 + ((-1) * x2 + ((-14128) * x5 + (14128 * x4 + 0))) ≤ (-13247)) (f3 : 1 * x26 + ((-1) * x2 + ((-14128) * x5 + (14128 * x4 + 0))) ≤ (-13250)) (f4 : 1 * x24 + ((-1) * x2 + ((-14128) * x5 + (14128 * x4 + 0))) ≤ (-13258)) (f5 : 1 * x14 + ((-1) * x2 + ((-14128) * x5 + (14128 * x4 + 0))) ≤ (-13264)) (f6 : 1 * x6 + ((-1) * all_0 (r_0 + 2) + 0) ≤ 0) (f7 : (-1) * x6 + (1 * all_0 (r_0 + 2) + 0) ≤ 0) (f9 : 1 * texts_0 + ((-1) * x29 + 0) ≤ 2) (f11 : 1 * x29 + ((-1) * x2 + ((-14128) * x5 + (14128 * x4 + 0))) ≤ 862) (f12 : 1 * x27 + ((-1) * x2 + ((-14128) * x5 + (14128 * x4 + 0))) ≤ (-13247)) (f13 : 1 * x26 + ((-1) * x2 + ((-14128) * x5 + (14128 * x4 + 0))) ≤ (-13250)) (f14 : 1 * x24 + ((-1) * x2 + ((-14128) * x5 + (14128 * x4 + 0))) ≤ (-13258)) (f15 : 1 * x14 + ((-1) * x2 + ((-14128) * x5 + (14128 * x4 + 0))) ≤ (-13264)) (f17 : 1 * x27 + ((-1) * x2 + ((-14128) * x5 + (14128 * x4 + 0))) ≤ (-13247)) (f18 : 1 * x26 + ((-1) * x2 + ((-14128) * x5 + (14128 * x4 + 0))) ≤ (-13250)) (f19 : 1 * x24 + ((-1) * x2 + ((-14128) * x5 + (14128 * x4 + 0))) ≤ (-13258)) (f20 : 1 * x14 + ((-1) * x2 + ((-14128) * x5 + (14128 * x4 + 0))) ≤ (-13264)) (f22 : 1 * x26 + ((-1) * x2 + ((-14128) * x5 + (14128 * x4 + 0))) ≤ (-13250)) (f23 : 1 * x24 + ((-1) * x2 + ((-14128) * x5 + (14128 * x4 + 0))) ≤ (-13258)) (f24 : 1 * x14 + ((-1) * x2 + ((-14128) * x5 + (14128 * x4 + 0))) ≤ (-13264)) (f26 : 1 * x24 + ((-1) * x2 + ((-14128) * x5 + (14128 * x4 + 0))) ≤ (-13258)) (f27 : 1 * x14 + ((-1) * x2 + ((-14128) * x5 + (14128 * x4 + 0))) ≤ (-13264)) (f29 : 1 * x14 + ((-1) * x2 + ((-14128) * x5 + (14128 * x4 + 0))) ≤ (-13264)) (f30 : x12 = x4) (f31 : x5 < x6) (kz_0_170 : 0 ≤ texts_0 ∧ texts_0 ≤ 100000000) : 1 * texts_0 + ((-1) * x2 + ((-14128) * x30 + (14128 * x4 + 0))) ≤ (-13264) := by
  first | assumption | omega | grind
def o_Mo_writeGroup_at_l3_18 : or_T := (83, 31, [(0, (2, 0, 0, [165])), (2, (0, 0, 99942624, [])), (4, (0, 3, 6, [])), (5, (0, 4, 7, [])), (6, (0, 5, 8, [])), (12, (0, 3, 6, [])), (14, (0, 0, 99999994, [])), (24, (0, 0, 99999992, [])), (26, (0, 0, 99999997, [])), (27, (0, 0, 99985891, [])), (29, (0, 0, 99999998, [])), (30, (0, 5, 8, []))], [(6, [30, 5], [1]), (23, [29, 2, 5, 4], [862, 1, -1, -14128, 14128]), (23, [27, 2, 5, 4], [-13247, 1, -1, -14128, 14128]), (23, [26, 2, 5, 4], [-13250, 1, -1, -14128, 14128]), (23, [24, 2, 5, 4], [-13258, 1, -1, -14128, 14128]), (23, [14, 2, 5, 4], [-13264, 1, -1, -14128, 14128]), (20, [6, 3], [30, 0, 1, 0, 0, -1, 3, 2005002]), (20, [6, 3], [30, 0, -1, 0, 0, 1, 3, 2005002]), (24, [0, 3], []), (20, [3, 29], [30, 2, 1, 1, 170, -1, 0, 0]), (102, [29], [7770675568902916283677847627294075626569627356208558085007249638955617140820833992704, 165170]), (23, [29, 2, 5, 4], [862, 1, -1, -14128, 14128]), (23, [27, 2, 5, 4], [-13247, 1, -1, -14128, 14128]), (23, [26, 2, 5, 4], [-13250, 1, -1, -14128, 14128]), (23, [24, 2, 5, 4], [-13258, 1, -1, -14128, 14128]), (23, [14, 2, 5, 4], [-13264, 1, -1, -14128, 14128]), (102, [27], [7770675568902916283677847627294075626569627356208558085007249638955617140820833992704, 165170]), (23, [27, 2, 5, 4], [-13247, 1, -1, -14128, 14128]), (23, [26, 2, 5, 4], [-13250, 1, -1, -14128, 14128]), (23, [24, 2, 5, 4], [-13258, 1, -1, -14128, 14128]), (23, [14, 2, 5, 4], [-13264, 1, -1, -14128, 14128]), (102, [26], [7770675568902916283677847627294075626569627356208558085007249638955617140820833992704, 165170]), (23, [26, 2, 5, 4], [-13250, 1, -1, -14128, 14128]), (23, [24, 2, 5, 4], [-13258, 1, -1, -14128, 14128]), (23, [14, 2, 5, 4], [-13264, 1, -1, -14128, 14128]), (102, [24], [7770675568902916283677847627294075626569627356208558085007249638955617140820833992704, 165170]), (23, [24, 2, 5, 4], [-13258, 1, -1, -14128, 14128]), (23, [14, 2, 5, 4], [-13264, 1, -1, -14128, 14128]), (102, [14], [7770675568902916283677847627294075626569627356208558085007249638955617140820833992704, 165170]), (23, [14, 2, 5, 4], [-13264, 1, -1, -14128, 14128]), (7, [12, 4], [0]), (7, [5, 6], [2])], [], [], [(20, [3, 2, 30, 4], [30, -13264, 1, 1, 170, -1, 0, 0, -14128, 0, 0, 14128, 0, 0])], [], [(30, 5, 1, 1), (30, 6, -4294967296, 0), (12, 4, 0, 0), (5, 6, -4294967296, -1), (4, 5, -4294967296, -1)])
theorem oo_Mo_writeGroup_at_l3_18 {kA : Nat → ClassId} : or_ok PRD kA GG o_Mo_writeGroup_at_l3_18 := by
  refine or_mk fun A ta ws vs hD hth hl => ?_
  intro t0 r0 t2 k2 t4 k4 t5 k5 t6 k6 t12 k12 t14 k14 t24 k24 t26 k26 t27 k27 t29 k29 t30 k30 d0 d1 d2 d3 d4 f0 f1 f2 f3 f4 f5 f6 f7 f8 f9 ta1 w1 le1 s1 f11 f12 f13 f14 f15 ta2 w2 le2 s2 f17 f18 f19 f20 ta3 w3 le3 s3 f22 f23 f24 ta4 w4 le4 s4 f26 f27 ta5 w5 le5 s5 f29 f30 f31
  replace f0 := shm_4 f0
  replace f1 := shm_2070 f1
  replace f2 := shm_2068 f2
  replace f3 := shm_2067 f3
  replace f4 := shm_2066 f4
  replace f5 := shm_2065 f5
  replace f6 := shm_123 f6
  replace f7 := shm_124 f7
  replace f8 := shm_5 f8
  replace f9 := shm_210 f9
  replace f11 := shm_2070 f11
  replace f12 := shm_2068 f12
  replace f13 := shm_2067 f13
  replace f14 := shm_2066 f14
  replace f15 := shm_2065 f15
  replace f17 := shm_2068 f17
  replace f18 := shm_2067 f18
  replace f19 := shm_2066 f19
  replace f20 := shm_2065 f20
  replace f22 := shm_2067 f22
  replace f23 := shm_2066 f23
  replace f24 := shm_2065 f24
  replace f26 := shm_2066 f26
  replace f27 := shm_2065 f27
  replace f29 := shm_2065 f29
  replace f30 := shm_37 f30
  replace f31 := shm_6 f31
  have q3 : n_v vs 3 = n_v vs 0 := f8.symm
  simp only [q3] at f6 f7 f9
  have kz_0_170 := fdq_11 hD hth r0
  have nf0 : fc_1 PRD (20, [3, 2, 30, 4], [30, -13264, 1, 1, 170, -1, 0, 0, -14128, 0, 0, 14128, 0, 0]) ws (vs) := by
    refine ⟨nf_in hl rfl, sgq_2064 ?_⟩
    · show 1 * w_fi ws (n_v vs 3) 170 + ((-1) * v_iv (n_v vs 2) + ((-14128) * v_iv (n_v vs 30) + (14128 * v_iv (n_v vs 4) + 0))) ≤ (-13264)
      rw [q3]
      exact vc_Mo_writeGroup_at_l3_18_0 (v_iv (n_v vs 2)) (v_iv (n_v vs 4)) (v_iv (n_v vs 5)) (v_iv (n_v vs 6)) (v_iv (n_v vs 12)) (v_iv (n_v vs 14)) (v_iv (n_v vs 24)) (v_iv (n_v vs 26)) (v_iv (n_v vs 27)) (v_iv (n_v vs 29)) (v_iv (n_v vs 30)) (w_ei ws (w_ar ws (n_v vs 0) 2)) (w_fi ws (n_v vs 0) 5) (w_fi ws (n_v vs 0) 170) k2 k4 k5 k6 k12 k14 k24 k26 k27 k29 k30 d0 d1 d2 d3 d4 f0 f1 f2 f3 f4 f5 f6 f7 f9 f11 f12 f13 f14 f15 f17 f18 f19 f20 f22 f23 f24 f26 f27 f29 f30 f31 kz_0_170
  refine ⟨(fun _ h => (by cases h)), [], trivial, ?_, (fun _ h => (by cases h))⟩
  rw [List.append_nil]
  exact List.forall_mem_cons.mpr ⟨⟨show (20 : Nat) < 100 from by decide, nf0⟩, (fun _ h => (by cases h))⟩
def o_Mo_writeGroup_at_l3_19 : or_T := (83, 14, [(0, (2, 0, 0, [165])), (2, (0, 0, 99942624, [])), (3, (2, 0, 0, [165])), (4, (0, 3, 6, [])), (5, (0, 4, 7, [])), (6, (0, 5, 8, [])), (7, (2, 0, 0, [167])), (8, (0, 0, 66297, [])), (9, (0, 531, 531, [])), (10, (0, 531, 66828, [])), (11, (0, 535, 66835, [])), (12, (0, -1, 6, [])), (13, (0, 5, 8, []))], [(6, [13, 5], [1]), (7, [12, 4], [1]), (10, [12, 7, 11], []), (1, [11, 10, 5], []), (1, [10, 8, 9], []), (9, [8, 3], [5]), (9, [7, 3], [2]), (7, [5, 6], [2]), (20, [6, 3], [30, 0, 1, 0, 0, -1, 3, 2005002]), (20, [6, 3], [30, 0, -1, 0, 0, 1, 3, 2005002]), (20, [3, 2, 5, 4], [30, -13264, 1, 1, 170, -1, 0, 0, -14128, 0, 0, 14128, 0, 0]), (24, [0, 3], [])], [], [], [(20, [3, 2, 13, 4], [30, -13264, 1, 1, 170, -1, 0, 0, -14128, 0, 0, 14128, 0, 0])], [], [(13, 5, 1, 1), (13, 6, -4294967296, 0), (11, 5, 531, 66828), (11, 6, -4294967296, 66827), (11, 10, 4, 7), (11, 8, 535, 538), (10, 8, 531, 531), (5, 6, -4294967296, -1), (4, 5, -4294967296, -1)])
theorem oo_Mo_writeGroup_at_l3_19 {kA : Nat → ClassId} : or_ok PRD kA GG o_Mo_writeGroup_at_l3_19 := by
  refine or_mk fun A ta ws vs hD hth hl => ?_
  intro t0 r0 t2 k2 t3 r3 t4 k4 t5 k5 t6 k6 t7 r7 t8 k8 t9 k9 t10 k10 t11 k11 t12 k12 t13 k13 d0 d1 d2 d3 d4 d5 d6 d7 d8 f0 f1 f2 f3 f4 f5 f6 f7 f8 f9 f10 f11
  replace f0 := shm_4 f0
  replace f1 := shm_40 f1
  replace f2 := shm_107 f2
  replace f3 := shm_12 f3
  replace f4 := shm_12 f4
  replace f5 := shm_110 f5
  replace f6 := shm_120 f6
  replace f7 := shm_6 f7
  replace f8 := shm_123 f8
  replace f9 := shm_124 f9
  replace f10 := shm_2064 f10
  replace f11 := shm_5 f11
  have q3 : n_v vs 3 = n_v vs 0 := f11.symm
  simp only [q3] at f5 f6 f8 f9 f10
  have cr_0_2 := fdq_10 hD hth r0
  have ad_7 : v_ad (n_v vs 7) = w_ar ws (n_v vs 0) 2 := congrArg v_ad f6
  simp only [ad_7] at f2
  have h2 : v_iv (n_v vs 12) = w_ei ws (w_ar ws (n_v vs 0) 2) (v_iv (n_v vs 11)) := f2
  have g5 : v_iv (n_v vs 8) = w_fi ws (n_v vs 0) 5 := congrArg v_iv f5
  have cg2_F5_2 : v_iv (n_v vs 11) = w_fi ws (n_v vs 0) 5 + 2 → w_el ws (w_ar ws (n_v vs 0) 2) (v_iv (n_v vs 11)).toNat = w_el ws (w_ar ws (n_v vs 0) 2) (w_fi ws (n_v vs 0) 5 + 2).toNat := fun h => by rw [h]
  have kz_0_170 := fdq_11 hD hth r0
  have nf0 : fc_1 PRD (20, [3, 2, 13, 4], [30, -13264, 1, 1, 170, -1, 0, 0, -14128, 0, 0, 14128, 0, 0]) ws (vs) := by
    refine ⟨nf_in hl rfl, sgq_2064 ?_⟩
    · show 1 * w_fi ws (n_v vs 3) 170 + ((-1) * v_iv (n_v vs 2) + ((-14128) * v_iv (n_v vs 13) + (14128 * v_iv (n_v vs 4) + 0))) ≤ (-13264)
      rw [q3]
      omega
  refine ⟨(fun _ h => (by cases h)), [], trivial, ?_, (fun _ h => (by cases h))⟩
  rw [List.append_nil]
  exact List.forall_mem_cons.mpr ⟨⟨show (20 : Nat) < 100 from by decide, nf0⟩, (fun _ h => (by cases h))⟩
def n_Mo_writeGroup_at_l3_an : List an_T := [(2, [(0, (2, 0, 0, [165])), (1, (0, 3, 7, [])), (2, (0, 0, 24, []))], [], (0, 0), [(0, 0, 99998), (1, 5, 24), (0, 0, 100000)], [(1, 4, (Int.negSucc 999999999999), 0), (4, 1, (Int.negSucc 999999999999), 0)], [], [(2, 0, 0, [165]), (0, 3, 7, []), (0, 0, 99942624, [])], 0, [], [(20, [3, 2, 5], [30, 0, 1, 1, 170, (Int.negSucc 0), 0, 0, (Int.negSucc 35), 0, 0]), (24, [0, 3], [])]), (83, [(0, (2, 0, 0, [165])), (1, (0, 3, 7, [])), (2, (0, 4, 8, []))], [], (0, 0), [(0, 0, 99917), (1, 5, 8), (0, 0, 100000)], [(1, 4, (Int.negSucc 999999999999), 0), (1, 5, (Int.negSucc 999999999999), (Int.negSucc 0)), (4, 1, (Int.negSucc 999999999999), 0), (4, 5, (Int.negSucc 999999999999), (Int.negSucc 0))], [], [(2, 0, 0, [165]), (0, 3, 7, []), (0, 0, 99942624, [])], 0, [], [(20, [3, 2, 5, 4], [30, (Int.negSucc 13263), 1, 1, 170, (Int.negSucc 0), 0, 0, (Int.negSucc 14127), 0, 0, 14128, 0, 0]), (24, [0, 3], [])])]
def t_Mo_writeGroup_at_l3_ct : ct_L := [(1, 475, e_Mo_nodes), (1, 509, e_Mo_groups), (1, 723, e_Mo_size), (1, 725, e_Mo_groupOf), (1, 1285, e_Mo_writeName), (1, 1293, e_Mo_writeNode), (1, 1298, e_Mo_writeNumber), (82, 1290, e_Mo_write_at_s5013), (145, 1290, e_Mo_write_at_s5014), (193, 1290, e_Mo_write_at_s5045), (214, 1290, e_Mo_write_at_s5015), (355, 1290, e_Mo_write_at_s5016), (472, 1290, e_Mo_write_at_s5017), (487, 1309, e_Mo_writeGroup_at_l4), (508, 1290, e_Mo_write_at_s5018), (1000001, 1288, en_ro [] (2, 0, 0, [5013])), (1000001, 1296, en_ro [] (2, 0, 0, [5014])), (1000001, 1301, en_ro [] (2, 0, 0, [5045])), (1000001, 1303, en_ro [] (2, 0, 0, [5015])), (1000001, 1305, en_ro [] (2, 0, 0, [5016])), (1000001, 1307, en_ro [] (2, 0, 0, [5017])), (1000001, 1312, en_ro [] (2, 0, 0, [5018]))]
set_option maxRecDepth 100000 in
theorem c_Mo_writeGroup_at_l3 {l : Launch} {D : va_G} {kA : Nat → ClassId} (h_Mo_groupOf : ct_ok PRD l D kA GG y_Mo_groupOf z_Mo_groupOf e_Mo_groupOf) (h_Mo_groups : ct_ok PRD l D kA GG y_Mo_groups z_Mo_groups e_Mo_groups) (h_Mo_nodes : ct_ok PRD l D kA GG y_Mo_nodes z_Mo_nodes e_Mo_nodes) (h_Mo_size : ct_ok PRD l D kA GG y_Mo_size z_Mo_size e_Mo_size) (h_Mo_writeGroup_at_l4 : ct_ok PRD l D kA GG y_Mo_writeGroup_at_l4 z_Mo_writeGroup_at_l4 e_Mo_writeGroup_at_l4) (h_Mo_writeName : ct_ok PRD l D kA GG y_Mo_writeName z_Mo_writeName e_Mo_writeName) (h_Mo_writeNode : ct_ok PRD l D kA GG y_Mo_writeNode z_Mo_writeNode e_Mo_writeNode) (h_Mo_writeNumber : ct_ok PRD l D kA GG y_Mo_writeNumber z_Mo_writeNumber e_Mo_writeNumber) (h_Mo_write_at_s5013 : ct_ok PRD l D kA GG y_Mo_write_at_s5013 z_Mo_write_at_s5013 e_Mo_write_at_s5013) (h_Mo_write_at_s5014 : ct_ok PRD l D kA GG y_Mo_write_at_s5014 z_Mo_write_at_s5014 e_Mo_write_at_s5014) (h_Mo_write_at_s5015 : ct_ok PRD l D kA GG y_Mo_write_at_s5015 z_Mo_write_at_s5015 e_Mo_write_at_s5015) (h_Mo_write_at_s5016 : ct_ok PRD l D kA GG y_Mo_write_at_s5016 z_Mo_write_at_s5016 e_Mo_write_at_s5016) (h_Mo_write_at_s5017 : ct_ok PRD l D kA GG y_Mo_write_at_s5017 z_Mo_write_at_s5017 e_Mo_write_at_s5017) (h_Mo_write_at_s5018 : ct_ok PRD l D kA GG y_Mo_write_at_s5018 z_Mo_write_at_s5018 e_Mo_write_at_s5018) (h_Mo_write_at_s5045 : ct_ok PRD l D kA GG y_Mo_write_at_s5045 z_Mo_write_at_s5045 e_Mo_write_at_s5045) : ct_ok PRD l D kA GG y_Mo_writeGroup_at_l3 z_Mo_writeGroup_at_l3 e_Mo_writeGroup_at_l3 := chk_all_ok (FT := [(16, 13, 2), (391, 13, 5)]) (PT := []) (CT := t_Mo_writeGroup_at_l3_ct) (KT := []) (NT := []) (AN := n_Mo_writeGroup_at_l3_an) (OT := [o_Mo_writeGroup_at_l3_0, o_Mo_writeGroup_at_l3_1, o_Mo_writeGroup_at_l3_2, o_Mo_writeGroup_at_l3_3, o_Mo_writeGroup_at_l3_4, o_Mo_writeGroup_at_l3_5, o_Mo_writeGroup_at_l3_6, o_Mo_writeGroup_at_l3_7, o_Mo_writeGroup_at_l3_8, o_Mo_writeGroup_at_l3_9, o_Mo_writeGroup_at_l3_10, o_Mo_writeGroup_at_l3_11, o_Mo_writeGroup_at_l3_12, o_Mo_writeGroup_at_l3_13, o_Mo_writeGroup_at_l3_14, o_Mo_writeGroup_at_l3_15, o_Mo_writeGroup_at_l3_16, o_Mo_writeGroup_at_l3_17, o_Mo_writeGroup_at_l3_18, o_Mo_writeGroup_at_l3_19]) 3 408 (List.forall_mem_cons.mpr ⟨oo_Mo_writeGroup_at_l3_0, List.forall_mem_cons.mpr ⟨oo_Mo_writeGroup_at_l3_1, List.forall_mem_cons.mpr ⟨oo_Mo_writeGroup_at_l3_2, List.forall_mem_cons.mpr ⟨oo_Mo_writeGroup_at_l3_3, List.forall_mem_cons.mpr ⟨oo_Mo_writeGroup_at_l3_4, List.forall_mem_cons.mpr ⟨oo_Mo_writeGroup_at_l3_5, List.forall_mem_cons.mpr ⟨oo_Mo_writeGroup_at_l3_6, List.forall_mem_cons.mpr ⟨oo_Mo_writeGroup_at_l3_7, List.forall_mem_cons.mpr ⟨oo_Mo_writeGroup_at_l3_8, List.forall_mem_cons.mpr ⟨oo_Mo_writeGroup_at_l3_9, List.forall_mem_cons.mpr ⟨oo_Mo_writeGroup_at_l3_10, List.forall_mem_cons.mpr ⟨oo_Mo_writeGroup_at_l3_11, List.forall_mem_cons.mpr ⟨oo_Mo_writeGroup_at_l3_12, List.forall_mem_cons.mpr ⟨oo_Mo_writeGroup_at_l3_13, List.forall_mem_cons.mpr ⟨oo_Mo_writeGroup_at_l3_14, List.forall_mem_cons.mpr ⟨oo_Mo_writeGroup_at_l3_15, List.forall_mem_cons.mpr ⟨oo_Mo_writeGroup_at_l3_16, List.forall_mem_cons.mpr ⟨oo_Mo_writeGroup_at_l3_17, List.forall_mem_cons.mpr ⟨oo_Mo_writeGroup_at_l3_18, List.forall_mem_cons.mpr ⟨oo_Mo_writeGroup_at_l3_19, List.forall_mem_nil _⟩⟩⟩⟩⟩⟩⟩⟩⟩⟩⟩⟩⟩⟩⟩⟩⟩⟩⟩⟩) (by decide +kernel) ⟨List.forall_mem_cons.mpr ⟨gf_Mo_16, List.forall_mem_cons.mpr ⟨gf_Mo_391, List.forall_mem_nil _⟩⟩, List.forall_mem_nil _, List.forall_mem_cons.mpr ⟨cl_virtual (y := y_Mo_nodes) (ci := 13) rfl rfl ⟨_, _, rfl⟩ (by decide +kernel) h_Mo_nodes wm_3025 wm_9 wm_3022 wm_3024 wv_13_3 ⟨by decide, by decide, by decide +kernel⟩ (by decide), List.forall_mem_cons.mpr ⟨cl_virtual (y := y_Mo_groups) (ci := 13) rfl rfl ⟨_, _, rfl⟩ (by decide +kernel) h_Mo_groups wm_3070 wm_9 wm_3067 wm_3069 wv_13_14 ⟨by decide, by decide, by decide +kernel⟩ (by decide), List.forall_mem_cons.mpr ⟨cl_virtual (y := y_Mo_size) (ci := 13) rfl rfl ⟨_, _, rfl⟩ (by decide +kernel) h_Mo_size wm_3307 wm_9 wm_3304 wm_3306 wv_17_0 ⟨by decide, by decide, by decide +kernel⟩ (by decide), List.forall_mem_cons.mpr ⟨cl_virtual (y := y_Mo_groupOf) (ci := 13) rfl rfl ⟨_, _, rfl⟩ (by decide +kernel) h_Mo_groupOf wm_3311 wm_9 wm_3308 wm_3310 wv_17_1 ⟨by decide, by decide, by decide +kernel⟩ (by decide), List.forall_mem_cons.mpr ⟨cl_virtual (y := y_Mo_writeName) (ci := 13) rfl rfl ⟨_, _, rfl⟩ (by decide +kernel) h_Mo_writeName wm_3922 wm_9 wm_3919 wm_3921 wv_24_10 ⟨by decide, by decide, by decide +kernel⟩ (by decide), List.forall_mem_cons.mpr ⟨cl_virtual (y := y_Mo_writeNode) (ci := 13) rfl rfl ⟨_, _, rfl⟩ (by decide +kernel) h_Mo_writeNode wm_3918 wm_9 wm_3915 wm_3917 wv_24_9 ⟨by decide, by decide, by decide +kernel⟩ (by decide), List.forall_mem_cons.mpr ⟨cl_virtual (y := y_Mo_writeNumber) (ci := 13) rfl rfl ⟨_, _, rfl⟩ (by decide +kernel) h_Mo_writeNumber wm_3927 wm_9 wm_3924 wm_3926 wv_24_11 ⟨by decide, by decide, by decide +kernel⟩ (by decide), List.forall_mem_cons.mpr ⟨cl_virtual (y := y_Mo_write_at_s5013) (ci := 13) rfl rfl ⟨_, _, rfl⟩ (by decide +kernel) h_Mo_write_at_s5013 wm_3910 wm_9 wm_3907 wm_3909 wv_24_7 ⟨by decide, by decide, by decide +kernel⟩ (by decide), List.forall_mem_cons.mpr ⟨cl_virtual (y := y_Mo_write_at_s5014) (ci := 13) rfl rfl ⟨_, _, rfl⟩ (by decide +kernel) h_Mo_write_at_s5014 wm_3910 wm_9 wm_3907 wm_3909 wv_24_7 ⟨by decide, by decide, by decide +kernel⟩ (by decide), List.forall_mem_cons.mpr ⟨cl_virtual (y := y_Mo_write_at_s5045) (ci := 13) rfl rfl ⟨_, _, rfl⟩ (by decide +kernel) h_Mo_write_at_s5045 wm_3910 wm_9 wm_3907 wm_3909 wv_24_7 ⟨by decide, by decide, by decide +kernel⟩ (by decide), List.forall_mem_cons.mpr ⟨cl_virtual (y := y_Mo_write_at_s5015) (ci := 13) rfl rfl ⟨_, _, rfl⟩ (by decide +kernel) h_Mo_write_at_s5015 wm_3910 wm_9 wm_3907 wm_3909 wv_24_7 ⟨by decide, by decide, by decide +kernel⟩ (by decide), List.forall_mem_cons.mpr ⟨cl_virtual (y := y_Mo_write_at_s5016) (ci := 13) rfl rfl ⟨_, _, rfl⟩ (by decide +kernel) h_Mo_write_at_s5016 wm_3910 wm_9 wm_3907 wm_3909 wv_24_7 ⟨by decide, by decide, by decide +kernel⟩ (by decide), List.forall_mem_cons.mpr ⟨cl_virtual (y := y_Mo_write_at_s5017) (ci := 13) rfl rfl ⟨_, _, rfl⟩ (by decide +kernel) h_Mo_write_at_s5017 wm_3910 wm_9 wm_3907 wm_3909 wv_24_7 ⟨by decide, by decide, by decide +kernel⟩ (by decide), List.forall_mem_cons.mpr ⟨cl_virtual (y := y_Mo_writeGroup_at_l4) (ci := 13) rfl rfl ⟨_, _, rfl⟩ (by decide +kernel) h_Mo_writeGroup_at_l4 wm_3905 wm_9 wm_3902 wm_3904 wv_24_6 ⟨by decide, by decide, by decide +kernel⟩ (by decide), List.forall_mem_cons.mpr ⟨cl_virtual (y := y_Mo_write_at_s5018) (ci := 13) rfl rfl ⟨_, _, rfl⟩ (by decide +kernel) h_Mo_write_at_s5018 wm_3910 wm_9 wm_3907 wm_3909 wv_24_7 ⟨by decide, by decide, by decide +kernel⟩ (by decide), List.forall_mem_cons.mpr ⟨cl_ldcw (own := "DrawingHouseModel") (idx := 1288) (i := 13) (tx := "node ") (by decide +kernel) (by decide +kernel) (by decide +kernel), List.forall_mem_cons.mpr ⟨cl_ldcw (own := "DrawingHouseModel") (idx := 1296) (i := 14) (tx := " [size=") (by decide +kernel) (by decide +kernel) (by decide +kernel), List.forall_mem_cons.mpr ⟨cl_ldcw (own := "DrawingHouseModel") (idx := 1301) (i := 45) (tx := "]") (by decide +kernel) (by decide +kernel) (by decide +kernel), List.forall_mem_cons.mpr ⟨cl_ldcw (own := "DrawingHouseModel") (idx := 1303) (i := 15) (tx := ";\n") (by decide +kernel) (by decide +kernel) (by decide +kernel), List.forall_mem_cons.mpr ⟨cl_ldcw (own := "DrawingHouseModel") (idx := 1305) (i := 16) (tx := "group ") (by decide +kernel) (by decide +kernel) (by decide +kernel), List.forall_mem_cons.mpr ⟨cl_ldcw (own := "DrawingHouseModel") (idx := 1307) (i := 17) (tx := " {\n") (by decide +kernel) (by decide +kernel) (by decide +kernel), List.forall_mem_cons.mpr ⟨cl_ldcw (own := "DrawingHouseModel") (idx := 1312) (i := 18) (tx := "}\n") (by decide +kernel) (by decide +kernel) (by decide +kernel), List.forall_mem_nil _⟩⟩⟩⟩⟩⟩⟩⟩⟩⟩⟩⟩⟩⟩⟩⟩⟩⟩⟩⟩⟩⟩, List.forall_mem_nil _, List.forall_mem_nil _, GG_pl⟩ (by decide +kernel)

