set_option maxHeartbeats 4000000 in
theorem vc_Mo_styleSign_0_1 (x1 : Int) (x2 : Int) (x3 : Int) (x4 : Int) (fault_0 : Int) (tokenKind_0 : Int → Int) (cur_0 : Int) (tokenValue_0 : Int → Int) (k1 : 40 ≤ x1 ∧ x1 ≤ 125) (k2 : 0 ≤ x2 ∧ x2 ≤ 5) (k3 : 1 ≤ x3 ∧ x3 ≤ 5) (k4 : 0 ≤ x4 ∧ x4 ≤ 0) (f0 : x3 ≠ 0) (g1 : x3 = fault_0) (f2 : fault_0 = x2) (hK_0_160 : ∀ j : Int, 0 ≤ j → j < 2010 → 0 ≤ tokenKind_0 j ∧ tokenKind_0 j ≤ 4) (kz_0_8 : 0 ≤ fault_0 ∧ fault_0 ≤ 5) (kz_0_158 : 0 ≤ cur_0 ∧ cur_0 ≤ 2009) : SGN (cur_0) (tokenKind_0) (tokenValue_0) (x1) (x4) (x2) := by
  first
    | exact ⟨fun z => by omega, fun z => by have := z.1; omega⟩
    | (have e := (‹x5 = cur_0›)
       rw [← e]
       exact ⟨fun z => by omega, fun z => by have h1 := z.2.1; omega⟩)
    | (have e := (‹x5 = cur_0›)
       rw [← e]
       exact ⟨fun z => by omega, fun z => by have h2 := z.2.2; omega⟩)
    | (have e := (‹x5 = cur_0›)
       rw [← e]
       exact ⟨fun z => ⟨by omega, by omega, by omega⟩, fun z => by omega⟩)
    | sorry
set_option maxHeartbeats 4000000 in
theorem vc_Mo_styleSign_1_1 (x1 : Int) (x2 : Int) (x3 : Int) (x5 : Int) (x6 : Int) (x7 : Int) (x8 : Int) (tokenKind_0 : Int → Int) (cur_0 : Int) (fault_0 : Int) (tokenValue_0 : Int → Int) (k1 : 40 ≤ x1 ∧ x1 ≤ 125) (k2 : 0 ≤ x2 ∧ x2 ≤ 5) (k3 : 0 ≤ x3 ∧ x3 ≤ 0) (k5 : 0 ≤ x5 ∧ x5 ≤ 2009) (k6 : 0 ≤ x6 ∧ x6 ≤ 4) (k7 : 3 ≤ x7 ∧ x7 ≤ 3) (k8 : 0 ≤ x8 ∧ x8 ≤ 0) (f0 : x6 ≠ x7) (h1 : x6 = tokenKind_0 (x5)) (g2 : x5 = cur_0) (f4 : x3 = 0) (g5 : x3 = fault_0) (f6 : fault_0 = x2) (hK_0_160 : ∀ j : Int, 0 ≤ j → j < 2010 → 0 ≤ tokenKind_0 j ∧ tokenKind_0 j ≤ 4) (kz_0_8 : 0 ≤ fault_0 ∧ fault_0 ≤ 5) (kz_0_158 : 0 ≤ cur_0 ∧ cur_0 ≤ 2009) : SGN (cur_0) (tokenKind_0) (tokenValue_0) (x1) (x8) (x2) := by
  first
    | exact ⟨fun z => by omega, fun z => by have := z.1; omega⟩
    | (have e := (‹x5 = cur_0›)
       rw [← e]
       exact ⟨fun z => by omega, fun z => by have h1 := z.2.1; omega⟩)
    | (have e := (‹x5 = cur_0›)
       rw [← e]
       exact ⟨fun z => by omega, fun z => by have h2 := z.2.2; omega⟩)
    | (have e := (‹x5 = cur_0›)
       rw [← e]
       exact ⟨fun z => ⟨by omega, by omega, by omega⟩, fun z => by omega⟩)
    | sorry
set_option maxHeartbeats 4000000 in
theorem vc_Mo_styleSign_2_1 (x1 : Int) (x2 : Int) (x3 : Int) (x5 : Int) (x6 : Int) (x7 : Int) (x9 : Int) (x10 : Int) (x11 : Int) (tokenValue_0 : Int → Int) (cur_0 : Int) (tokenKind_0 : Int → Int) (fault_0 : Int) (k1 : 40 ≤ x1 ∧ x1 ≤ 125) (k2 : 0 ≤ x2 ∧ x2 ≤ 5) (k3 : 0 ≤ x3 ∧ x3 ≤ 0) (k5 : 0 ≤ x5 ∧ x5 ≤ 2009) (k6 : 3 ≤ x6 ∧ x6 ≤ 3) (k7 : 3 ≤ x7 ∧ x7 ≤ 3) (k9 : (-9223372036854775808) ≤ x9 ∧ x9 ≤ 9223372036854775807) (k10 : 40 ≤ x10 ∧ x10 ≤ 125) (k11 : 0 ≤ x11 ∧ x11 ≤ 0) (f0 : x9 ≠ x10) (f1 : x10 = x1) (h2 : x9 = tokenValue_0 (x5)) (g3 : x5 = cur_0) (f5 : x6 = x7) (h6 : x6 = tokenKind_0 (x5)) (f8 : x3 = 0) (g9 : x3 = fault_0) (f10 : fault_0 = x2) (hK_0_160 : ∀ j : Int, 0 ≤ j → j < 2010 → 0 ≤ tokenKind_0 j ∧ tokenKind_0 j ≤ 4) (kz_0_8 : 0 ≤ fault_0 ∧ fault_0 ≤ 5) (kz_0_158 : 0 ≤ cur_0 ∧ cur_0 ≤ 2009) : SGN (cur_0) (tokenKind_0) (tokenValue_0) (x1) (x11) (x2) := by
  first
    | exact ⟨fun z => by omega, fun z => by have := z.1; omega⟩
    | (have e := (‹x5 = cur_0›)
       rw [← e]
       exact ⟨fun z => by omega, fun z => by have h1 := z.2.1; omega⟩)
    | (have e := (‹x5 = cur_0›)
       rw [← e]
       exact ⟨fun z => by omega, fun z => by have h2 := z.2.2; omega⟩)
    | (have e := (‹x5 = cur_0›)
       rw [← e]
       exact ⟨fun z => ⟨by omega, by omega, by omega⟩, fun z => by omega⟩)
    | sorry
set_option maxHeartbeats 4000000 in
theorem vc_Mo_styleSign_3_1 (x1 : Int) (x2 : Int) (x3 : Int) (x5 : Int) (x6 : Int) (x7 : Int) (x9 : Int) (x10 : Int) (x11 : Int) (tokenValue_0 : Int → Int) (cur_0 : Int) (tokenKind_0 : Int → Int) (fault_0 : Int) (k1 : 40 ≤ x1 ∧ x1 ≤ 125) (k2 : 0 ≤ x2 ∧ x2 ≤ 5) (k3 : 0 ≤ x3 ∧ x3 ≤ 0) (k5 : 0 ≤ x5 ∧ x5 ≤ 2009) (k6 : 3 ≤ x6 ∧ x6 ≤ 3) (k7 : 3 ≤ x7 ∧ x7 ≤ 3) (k9 : 40 ≤ x9 ∧ x9 ≤ 125) (k10 : 40 ≤ x10 ∧ x10 ≤ 125) (k11 : 1 ≤ x11 ∧ x11 ≤ 1) (f0 : x9 = x10) (f1 : x10 = x1) (h2 : x9 = tokenValue_0 (x5)) (g3 : x5 = cur_0) (f5 : x6 = x7) (h6 : x6 = tokenKind_0 (x5)) (f8 : x3 = 0) (g9 : x3 = fault_0) (f10 : fault_0 = x2) (hK_0_160 : ∀ j : Int, 0 ≤ j → j < 2010 → 0 ≤ tokenKind_0 j ∧ tokenKind_0 j ≤ 4) (kz_0_8 : 0 ≤ fault_0 ∧ fault_0 ≤ 5) (kz_0_158 : 0 ≤ cur_0 ∧ cur_0 ≤ 2009) : SGN (cur_0) (tokenKind_0) (tokenValue_0) (x1) (x11) (x2) := by
  first
    | exact ⟨fun z => by omega, fun z => by have := z.1; omega⟩
    | (have e := (‹x5 = cur_0›)
       rw [← e]
       exact ⟨fun z => by omega, fun z => by have h1 := z.2.1; omega⟩)
    | (have e := (‹x5 = cur_0›)
       rw [← e]
       exact ⟨fun z => by omega, fun z => by have h2 := z.2.2; omega⟩)
    | (have e := (‹x5 = cur_0›)
       rw [← e]
       exact ⟨fun z => ⟨by omega, by omega, by omega⟩, fun z => by omega⟩)
    | sorry
set_option maxHeartbeats 4000000 in
theorem vc_Mo_styleNeed_1_1 (x1 : Int) (x2 : Int) (x3 : Int) (x5 : Int) (x8 : Int) (cur_0 : Int) (tokenKind_0 : Int → Int) (tokenValue_0 : Int → Int) (tokens_0 : Int) (fault_0 : Int) (k1 : 41 ≤ x1 ∧ x1 ≤ 125) (k2 : 0 ≤ x2 ∧ x2 ≤ 2009) (k3 : 0 ≤ x3 ∧ x3 ≤ 5) (k5 : 0 ≤ x5 ∧ x5 ≤ 0) (k8 : 0 ≤ x8 ∧ x8 ≤ 2009) (g0 : x8 = cur_0) (f1 : (x5 = 1) → (tokenKind_0 (cur_0) = 3)) (f2 : SGN (cur_0) (tokenKind_0) (tokenValue_0) (x1) (x5) (x5)) (f3 : x5 = 0) (f4 : ((cur_0 + 1) ≤ tokens_0) ∧ ((tokens_0 ≤ 2010) ∧ ((tokenKind_0 ((tokens_0 - 1)) = 0) ∨ (tokenKind_0 ((tokens_0 - 1)) = 4)))) (f5 : 1 * cur_0 + ((-1) * x2 + 0) ≤ 0) (f6 : (-1) * cur_0 + (1 * x2 + 0) ≤ 0) (f7 : (-1) * fault_0 + 0 ≤ (-1)) (f9 : x5 = 0) (hK_0_160 : ∀ j : Int, 0 ≤ j → j < 2010 → 0 ≤ tokenKind_0 j ∧ tokenKind_0 j ≤ 4) (kz_0_8 : 0 ≤ fault_0 ∧ fault_0 ≤ 5) (kz_0_157 : 0 ≤ tokens_0 ∧ tokens_0 ≤ 2010) (kz_0_158 : 0 ≤ cur_0 ∧ cur_0 ≤ 2009) : SND (fault_0) (cur_0) (tokenKind_0) (tokenValue_0) (x1) (x2) (x3) := by
  first
    | exact snd_fault (by omega) (by omega)
    | (have h := (‹SGN _ _ _ _ _ _›)
       have e : x2 = cur_0 := by omega
       rw [e]
       exact snd_no (fun z => by have := h.mpr ⟨by omega, z⟩; omega) (by omega))
    | (have h := (‹SGN _ _ _ _ _ _›)
       have e : x2 = cur_1 := by omega
       rw [e]
       exact snd_yes (h.mp (by omega)).2 (by omega) (by omega) (by omega))
    | sorry
set_option maxHeartbeats 4000000 in
theorem vc_Mo_styleNeed_3_2 (x1 : Int) (x2 : Int) (x3 : Int) (x4 : Int) (x5 : Int) (x6 : Int) (x7 : Int) (x8 : Int) (cur_0 : Int) (fault_0 : Int) (cur_1 : Int) (tokenKind_1 : Int → Int) (tokenValue_1 : Int → Int) (fault_1 : Int) (tokens_1 : Int) (tokens_0 : Int) (tokenKind_0 : Int → Int) (tokenValue_0 : Int → Int) (k1 : 41 ≤ x1 ∧ x1 ≤ 125) (k2 : 0 ≤ x2 ∧ x2 ≤ 2009) (k3 : 0 ≤ x3 ∧ x3 ≤ 5) (k4 : 0 ≤ x4 ∧ x4 ≤ 0) (k5 : 1 ≤ x5 ∧ x5 ≤ 1) (k6 : 0 ≤ x6 ∧ x6 ≤ 2009) (k7 : 1 ≤ x7 ∧ x7 ≤ 1) (k8 : 1 ≤ x8 ∧ x8 ≤ 2009) (d0 : x6 + 1 ≤ x8 ∧ x8 ≤ x6 + 1) (g0 : x8 = cur_0) (g1 : x4 = fault_0) (f2 : fault_0 = x5) (f3 : x5 = 0) (f4 : fault_0 = x3) (f6 : x8 = x6 + x7) (g7 : x6 = cur_1) (f8 : x5 ≠ 0) (f9 : (x5 = 1) → (tokenKind_1 (cur_1) = 3)) (f10 : SGN (cur_1) (tokenKind_1) (tokenValue_1) (x1) (x5) (x5)) (f11 : fault_1 = x5) (f12 : x5 = 0) (f13 : x4 ≤ 0) (f14 : ((cur_1 + 1) ≤ tokens_1) ∧ ((tokens_1 ≤ 2010) ∧ ((tokenKind_1 ((tokens_1 - 1)) = 0) ∨ (tokenKind_1 ((tokens_1 - 1)) = 4)))) (f15 : 1 * cur_1 + ((-1) * x2 + 0) ≤ 0) (f16 : (-1) * cur_1 + (1 * x2 + 0) ≤ 0) (f17 : fault_1 = x3) (fe_0_8_1 : fault_0 = fault_1) (fe_0_157_1 : tokens_0 = tokens_1) (fe_0_158_1 : cur_0 = x8) (hE_0_160_1 : ∀ j : Int, tokenKind_0 j = tokenKind_1 j) (hK_0_160 : ∀ j : Int, 0 ≤ j → j < 2010 → 0 ≤ tokenKind_0 j ∧ tokenKind_0 j ≤ 4) (hE_0_161_1 : ∀ j : Int, tokenValue_0 j = tokenValue_1 j) (kz_0_8 : 0 ≤ fault_0 ∧ fault_0 ≤ 5) (kz_0_157 : 0 ≤ tokens_0 ∧ tokens_0 ≤ 2010) (kz_0_158 : 0 ≤ cur_0 ∧ cur_0 ≤ 2009) : SND (fault_0) (cur_0) (tokenKind_0) (tokenValue_0) (x1) (x2) (x3) := by
  subst fe_0_8_1
  subst fe_0_157_1
  have e_hE_0_160_1 := funext hE_0_160_1; subst e_hE_0_160_1
  have e_hE_0_161_1 := funext hE_0_161_1; subst e_hE_0_161_1
  first
    | exact snd_fault (by omega) (by omega)
    | (have h := (‹SGN _ _ _ _ _ _›)
       have e : x2 = cur_0 := by omega
       rw [e]
       exact snd_no (fun z => by have := h.mpr ⟨by omega, z⟩; omega) (by omega))
    | (have h := (‹SGN _ _ _ _ _ _›)
       have e : x2 = cur_1 := by omega
       rw [e]
       exact snd_yes (h.mp (by omega)).2 (by omega) (by omega) (by omega))
    | sorry
set_option maxHeartbeats 4000000 in
theorem vc_Mo_styleNeed_4_1 (x1 : Int) (x2 : Int) (x3 : Int) (x4 : Int) (fault_0 : Int) (tokenKind_0 : Int → Int) (cur_0 : Int) (tokens_0 : Int) (tokenValue_0 : Int → Int) (k1 : 41 ≤ x1 ∧ x1 ≤ 125) (k2 : 0 ≤ x2 ∧ x2 ≤ 2009) (k3 : 0 ≤ x3 ∧ x3 ≤ 5) (k4 : 1 ≤ x4 ∧ x4 ≤ 5) (f0 : 0 < x4) (g1 : x4 = fault_0) (f2 : ((cur_0 + 1) ≤ tokens_0) ∧ ((tokens_0 ≤ 2010) ∧ ((tokenKind_0 ((tokens_0 - 1)) = 0) ∨ (tokenKind_0 ((tokens_0 - 1)) = 4)))) (f3 : 1 * cur_0 + ((-1) * x2 + 0) ≤ 0) (f4 : (-1) * cur_0 + (1 * x2 + 0) ≤ 0) (f5 : fault_0 = x3) (hK_0_160 : ∀ j : Int, 0 ≤ j → j < 2010 → 0 ≤ tokenKind_0 j ∧ tokenKind_0 j ≤ 4) (kz_0_8 : 0 ≤ fault_0 ∧ fault_0 ≤ 5) (kz_0_157 : 0 ≤ tokens_0 ∧ tokens_0 ≤ 2010) (kz_0_158 : 0 ≤ cur_0 ∧ cur_0 ≤ 2009) : SND (fault_0) (cur_0) (tokenKind_0) (tokenValue_0) (x1) (x2) (x3) := by
  first
    | exact snd_fault (by omega) (by omega)
    | (have h := (‹SGN _ _ _ _ _ _›)
       have e : x2 = cur_0 := by omega
       rw [e]
       exact snd_no (fun z => by have := h.mpr ⟨by omega, z⟩; omega) (by omega))
    | (have h := (‹SGN _ _ _ _ _ _›)
       have e : x2 = cur_1 := by omega
       rw [e]
       exact snd_yes (h.mp (by omega)).2 (by omega) (by omega) (by omega))
    | sorry
