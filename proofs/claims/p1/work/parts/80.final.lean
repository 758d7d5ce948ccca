theorem d_law_law_27 : decode b_law_law 27 = .ok (.aload_n 0, 1) := by decide +kernel
theorem d_law_law_28 : decode b_law_law 28 = .ok (.iload_n 3, 1) := by decide +kernel
theorem d_law_law_29 : decode b_law_law 29 = .ok (.iaload, 1) := by decide +kernel
theorem d_law_law_30 : decode b_law_law 30 = .ok (.bipush 31, 2) := by decide +kernel
theorem d_law_law_32 : decode b_law_law 32 = .ok (.iand, 1) := by decide +kernel
theorem d_law_law_33 : decode b_law_law 33 = .ok (.tableswitch 1262 0 27 #[127, 190, 223, 246, 279, 322, 365, 408, 461, 514, 547, 590, 623, 646, 679, 732, 775, 828, 871, 934, 967, 1010, 1044, 1077, 1130, 1163, 1186, 1229], 127) := by decide +kernel
theorem sh6 {L : Nat} (hL : L < 6) : Int32.ofNat L - 6 < 0 := by
  match L, hL with
  | 0, _ => decide
  | 1, _ => decide
  | 2, _ => decide
  | 3, _ => decide
  | 4, _ => decide
  | 5, _ => decide
  | L + 6, hL => exact absurd hL (by omega)
set_option maxRecDepth 100000 in
theorem law_short {p : Program} {e : Env} {s : State} {m : MethodId} {below : List Frame} {meth : Method} {c : Code} (l : Launch) {b L : Nat} {xs : Nat → Int32} (C0 : lw_At p s m meth c b L xs) (hL : L < 6) {h h2 k n : Nat} (hk : k ≤ 600000) (hn : n ≤ 7302250) {H : Heap} {locs : List Loc} {ls : Array Slot} (hS : va_S (fun q : Nat => s.heap.size ≤ q) s.heap H locs) (hl : lv_has ls 4 [(3, .int 0), (2, .ref h2), (1, .ref h), (0, .ref b)]) : W p l e room_1 s m #[Value.ref b] below meth c H locs k n (lw_Z below #[Value.ref b] s) (F0 m 18 ls []) := by
  obtain ⟨hx, hb, hr, hml, hown, hts0, hX, hbl, hlocks, hgv⟩ := id C0
  have hts : ∀ w ∈ lw_g, w.before #[Value.ref b] s = true := fun w h => hts0 w (lw_gt h)
  have X : cx p s m #[Value.ref b] meth c b_law_law 4 ret "DrawingHouseLaw" meth.name := ⟨hx, hb, hml, hown, hts, hr, hlocks, rfl⟩
  obtain ⟨A, hAe⟩ : ∃ A : Nat → Prop, A = fun q : Nat => s.heap.size ≤ q := ⟨_, rfl⟩
  have hA : ∀ q : Nat, s.heap.size ≤ q → A q := fun q h => by rw [hAe]; exact h
  have hbA : ¬ A b := by rw [hAe]; exact Nat.not_le.mpr hbl
  rw [← hAe] at hS
  refine lv_iload_n (pc := 18) hx hb d_law_law_18 rfl (lv_at hl 0 rfl) ?_
  refine lv_aload_n (pc := 19) hx hb d_law_law_19 rfl (lv_at hl 3 rfl) ?_
  refine va_slen (pc := 20) hx hb hX hbl hbA hS d_law_law_20 ?_
  refine lv_bipush (pc := 21) (v := 6) hx hb d_law_law_21 (by decide) ?_
  refine lv_isub (pc := 23) hx hb d_law_law_23 ?_
  refine lv_icmp_gt (pc := 24) (tgt := 1301) hx hb d_law_law_24 (by decide) (fun c1 => ?_) (fun c1 => absurd (sh6 hL) c1)
  refine lv_iconst (pc := 1301) (v := 1) hx hb d_law_law_1301 (by decide) ?_
  rw [hAe] at hS
  refine va_forget (fun q hq => hS.2.2 q hq) ?_
  refine W.widen (k := 600000) (n := 7302250) hk hn ?_
  exact lw_ret hx hb hr hlocks d_law_law_1302
set_option maxRecDepth 100000 in
set_option maxHeartbeats 8000000 in
/-- the law's loop on fresh worlds, a script of six ints -/
theorem law_first {p : Program} {e : Env} {s : State} {m : MethodId} {below : List Frame} {meth : Method} {c : Code} (l : Launch) {b : Nat} {xs : Nat → Int32} (C0 : lw_At p s m meth c b 6 xs) {D : va_G} {kA : Nat → ClassId} (h h2 : Nat) (u1 : Nat → Nat → Nat) (qm : Nat → Nat) {H : Heap} {locs : List Loc} {ls : Array Slot} (hK : va_K D classes (TY kA) s) (hN : nst s) (hpost : u1 50 1 = u1 0 4 ∧ u1 50 3 = u1 0 5 ∧ u1 50 2 = u1 1 4 ∧ u1 50 4 = u1 3 1 ∧ u1 8 0 = u1 50 5 ∧ u1 12 0 = u1 50 9 ∧ u1 16 0 = u1 50 13 ∧ u1 20 0 = u1 50 17) (hP : va_P D classes (cat [cat (sHo kA h u1), cat (sMo kA h2 qm)]) H) (hD : va_D (fun q : Nat => s.heap.size ≤ q) (cat [cat (sHo kA h u1), cat (sMo kA h2 qm)])) (hS : va_S (fun q : Nat => s.heap.size ≤ q) s.heap H locs) (hl : lv_has ls 4 [(3, .int 0), (2, .ref h2), (1, .ref h), (0, .ref b)]) : W p l e room_1 s m #[Value.ref b] below meth c H locs 368 365796 (lw_Z below #[Value.ref b] s) (F0 m 18 ls []) := by
  obtain ⟨hx, hb, hr, hml, hown, hts0, hX, hbl, hlocks, hgv⟩ := id C0
  have hts : ∀ w ∈ lw_g, w.before #[Value.ref b] s = true := fun w h => hts0 w (lw_gt h)
  have X : cx p s m #[Value.ref b] meth c b_law_law 4 ret "DrawingHouseLaw" meth.name := ⟨hx, hb, hml, hown, hts, hr, hlocks, rfl⟩
  obtain ⟨A, hAe⟩ : ∃ A : Nat → Prop, A = fun q : Nat => s.heap.size ≤ q := ⟨_, rfl⟩
  have hA : ∀ q : Nat, s.heap.size ≤ q → A q := fun q h => by rw [hAe]; exact h
  have hbA : ¬ A b := by rw [hAe]; exact Nat.not_le.mpr hbl
  have hS0 := hS
  rw [← hAe] at hS
  refine lv_iload_n (pc := 18) hx hb d_law_law_18 rfl (lv_at hl 0 rfl) ?_
  refine lv_aload_n (pc := 19) hx hb d_law_law_19 rfl (lv_at hl 3 rfl) ?_
  refine va_slen (pc := 20) hx hb hX hbl hbA hS d_law_law_20 ?_
  refine lv_bipush (pc := 21) (v := 6) hx hb d_law_law_21 (by decide) ?_
  refine lv_isub (pc := 23) hx hb d_law_law_23 ?_
  refine lv_icmp_gt (pc := 24) (tgt := 1301) hx hb d_law_law_24 (by decide) (fun c1 => absurd c1 (by decide)) (fun c1 => ?_)
  refine lv_aload_n (pc := 27) hx hb d_law_law_27 rfl (lv_at hl 3 rfl) ?_
  refine lv_iload_n (pc := 28) hx hb d_law_law_28 rfl (lv_at hl 0 rfl) ?_
  refine va_sld (pc := 29) hx hb hX hbl hbA hS (by unfold vp_in; decide) d_law_law_29 ?_
  refine lv_bipush (pc := 30) (v := 31) hx hb d_law_law_30 (by decide) ?_
  refine lv_iand (pc := 32) hx hb d_law_law_32 ?_
  obtain ⟨w0, hw0⟩ : ∃ z : Int32, xs ((0 : Int32).toNatClampNeg) &&& 31 = z := ⟨_, rfl⟩
  refine k_cst (v := w0) hw0 ?_
  rcases k_tsw w0 28 (by decide) with hs | ⟨jw, hjw, ew⟩
  · refine lv_tableOut (pc := 33) (tgt := 1295) hx hb d_law_law_33 hs (by decide) ?_
    exact law_exit l C0 (Nat.le_of_ble_eq_true rfl) (Nat.le_of_ble_eq_true rfl) hS0 hl
  · match jw, hjw, ew with
    | 0, _, ew =>
      rw [ew]
      refine lv_tableIn (pc := 33) (tgt := 160) hx hb d_law_law_33 (by decide) (by decide) rfl (by decide) ?_
      exact op_feed l C0 h h2 u1 qm _ _ _ _ _ rfl rfl rfl rfl rfl hK hN hpost hP hD hS0 hl
    | 1, _, ew =>
      rw [ew]
      refine lv_tableIn (pc := 33) (tgt := 223) hx hb d_law_law_33 (by decide) (by decide) rfl (by decide) ?_
      exact op_read l C0 h h2 u1 qm _ _ rfl rfl hK hN hpost hP hD hS0 hl
    | 2, _, ew =>
      rw [ew]
      refine lv_tableIn (pc := 33) (tgt := 256) hx hb d_law_law_33 (by decide) (by decide) rfl (by decide) ?_
      exact op_fault l C0 h h2 u1 qm _ rfl hK hN hpost hP hD hS0 hl
    | 3, _, ew =>
      rw [ew]
      refine lv_tableIn (pc := 33) (tgt := 279) hx hb d_law_law_33 (by decide) (by decide) rfl (by decide) ?_
      exact op_count l C0 h h2 u1 qm _ _ rfl rfl hK hN hpost hP hD hS0 hl
    | 4, _, ew =>
      rw [ew]
      refine lv_tableIn (pc := 33) (tgt := 312) hx hb d_law_law_33 (by decide) (by decide) rfl (by decide) ?_
      exact op_node l C0 h h2 u1 qm _ _ _ rfl rfl rfl hK hN hpost hP hD hS0 hl
    | 5, _, ew =>
      rw [ew]
      refine lv_tableIn (pc := 33) (tgt := 355) hx hb d_law_law_33 (by decide) (by decide) rfl (by decide) ?_
      exact op_edge l C0 h h2 u1 qm _ _ _ rfl rfl rfl hK hN hpost hP hD hS0 hl
    | 6, _, ew =>
      rw [ew]
      refine lv_tableIn (pc := 33) (tgt := 398) hx hb d_law_law_33 (by decide) (by decide) rfl (by decide) ?_
      exact op_group l C0 h h2 u1 qm _ _ _ rfl rfl rfl hK hN hpost hP hD hS0 hl
    | 7, _, ew =>
      rw [ew]
      refine lv_tableIn (pc := 33) (tgt := 441) hx hb d_law_law_33 (by decide) (by decide) rfl (by decide) ?_
      exact op_letter l C0 h h2 u1 qm _ _ _ _ rfl rfl rfl rfl hK hN hpost hP hD hS0 hl
    | 8, _, ew =>
      rw [ew]
      refine lv_tableIn (pc := 33) (tgt := 494) hx hb d_law_law_33 (by decide) (by decide) rfl (by decide) ?_
      exact op_change l C0 h h2 u1 qm _ _ _ _ rfl rfl rfl rfl hK hN hpost hP hD hS0 hl
    | 9, _, ew =>
      rw [ew]
      refine lv_tableIn (pc := 33) (tgt := 547) hx hb d_law_law_33 (by decide) (by decide) rfl (by decide) ?_
      exact op_back l C0 h h2 u1 qm _ _ rfl rfl hK hN hpost hP hD hS0 hl
    | 10, _, ew =>
      rw [ew]
      refine lv_tableIn (pc := 33) (tgt := 580) hx hb d_law_law_33 (by decide) (by decide) rfl (by decide) ?_
      exact op_far l C0 h h2 u1 qm _ _ _ rfl rfl rfl hK hN hpost hP hD hS0 hl
    | 11, _, ew =>
      rw [ew]
      refine lv_tableIn (pc := 33) (tgt := 623) hx hb d_law_law_33 (by decide) (by decide) rfl (by decide) ?_
      exact op_same l C0 h h2 u1 qm _ _ rfl rfl hK hN hpost hP hD hS0 hl
    | 12, _, ew =>
      rw [ew]
      refine lv_tableIn (pc := 33) (tgt := 656) hx hb d_law_law_33 (by decide) (by decide) rfl (by decide) ?_
      exact op_map l C0 h h2 u1 qm _ rfl hK hN hpost hP hD hS0 hl
    | 13, _, ew =>
      rw [ew]
      refine lv_tableIn (pc := 33) (tgt := 679) hx hb d_law_law_33 (by decide) (by decide) rfl (by decide) ?_
      exact op_planar l C0 h h2 u1 qm _ _ rfl rfl hK hN hpost hP hD hS0 hl
    | 14, _, ew =>
      rw [ew]
      refine lv_tableIn (pc := 33) (tgt := 712) hx hb d_law_law_33 (by decide) (by decide) rfl (by decide) ?_
      exact op_turn l C0 h h2 u1 qm _ _ _ _ rfl rfl rfl rfl hK hN hpost hP hD hS0 hl
    | 15, _, ew =>
      rw [ew]
      refine lv_tableIn (pc := 33) (tgt := 765) hx hb d_law_law_33 (by decide) (by decide) rfl (by decide) ?_
      exact op_draw l C0 h h2 u1 qm _ _ _ rfl rfl rfl hK hN hpost hP hD hS0 hl
    | 16, _, ew =>
      rw [ew]
      refine lv_tableIn (pc := 33) (tgt := 808) hx hb d_law_law_33 (by decide) (by decide) rfl (by decide) ?_
      exact op_at l C0 h h2 u1 qm _ _ _ _ rfl rfl rfl rfl hK hN hpost hP hD hS0 hl
    | 17, _, ew =>
      rw [ew]
      refine lv_tableIn (pc := 33) (tgt := 861) hx hb d_law_law_33 (by decide) (by decide) rfl (by decide) ?_
      exact op_told l C0 h h2 u1 qm _ _ _ rfl rfl rfl hK hN hpost hP hD hS0 hl
    | 18, _, ew =>
      rw [ew]
      refine lv_tableIn (pc := 33) (tgt := 904) hx hb d_law_law_33 (by decide) (by decide) rfl (by decide) ?_
      exact op_put l C0 h h2 u1 qm _ _ _ _ _ rfl rfl rfl rfl rfl hK hN hpost hP hD hS0 hl
    | 19, _, ew =>
      rw [ew]
      refine lv_tableIn (pc := 33) (tgt := 967) hx hb d_law_law_33 (by decide) (by decide) rfl (by decide) ?_
      exact op_route l C0 h h2 u1 qm _ _ rfl rfl hK hN hpost hP hD hS0 hl
    | 20, _, ew =>
      rw [ew]
      refine lv_tableIn (pc := 33) (tgt := 1000) hx hb d_law_law_33 (by decide) (by decide) rfl (by decide) ?_
      exact op_label l C0 h h2 u1 qm _ _ _ rfl rfl rfl hK hN hpost hP hD hS0 hl
    | 21, _, ew =>
      rw [ew]
      refine lv_tableIn (pc := 33) (tgt := 1043) hx hb d_law_law_33 (by decide) (by decide) rfl (by decide) ?_
      exact op_judge l C0 h h2 u1 qm _ _ rfl rfl hK hN hpost hP hD hS0 hl
    | 22, _, ew =>
      rw [ew]
      refine lv_tableIn (pc := 33) (tgt := 1077) hx hb d_law_law_33 (by decide) (by decide) rfl (by decide) ?_
      exact op_style l C0 h h2 u1 qm _ _ rfl rfl hK hN hpost hP hD hS0 hl
    | 23, _, ew =>
      rw [ew]
      refine lv_tableIn (pc := 33) (tgt := 1110) hx hb d_law_law_33 (by decide) (by decide) rfl (by decide) ?_
      exact op_shade l C0 h h2 u1 qm _ _ _ _ rfl rfl rfl rfl hK hN hpost hP hD hS0 hl
    | 24, _, ew =>
      rw [ew]
      refine lv_tableIn (pc := 33) (tgt := 1163) hx hb d_law_law_33 (by decide) (by decide) rfl (by decide) ?_
      exact op_text l C0 h h2 u1 qm _ _ rfl rfl hK hN hpost hP hD hS0 hl
    | 25, _, ew =>
      rw [ew]
      refine lv_tableIn (pc := 33) (tgt := 1196) hx hb d_law_law_33 (by decide) (by decide) rfl (by decide) ?_
      exact op_octet l C0 h h2 u1 qm _ rfl hK hN hpost hP hD hS0 hl
    | 26, _, ew =>
      rw [ew]
      refine lv_tableIn (pc := 33) (tgt := 1219) hx hb d_law_law_33 (by decide) (by decide) rfl (by decide) ?_
      exact op_dots l C0 h h2 u1 qm _ _ _ rfl rfl rfl hK hN hpost hP hD hS0 hl
    | 27, _, ew =>
      rw [ew]
      refine lv_tableIn (pc := 33) (tgt := 1262) hx hb d_law_law_33 (by decide) (by decide) rfl (by decide) ?_
      exact op_dot l C0 h h2 u1 qm _ _ rfl rfl hK hN hpost hP hD hS0 hl
    | jw + 28, hjw, _ => exact absurd hjw (by omega)
set_option maxRecDepth 100000 in
set_option maxHeartbeats 4000000 in
/-- the law from its entry, a script of at most six ints -/
theorem whole_start {p : Program} {e : Env} {s : State} {m : MethodId} {below : List Frame} {meth : Method} {c : Code} (l : Launch) {b L : Nat} {xs : Nat → Int32} (hL : L ≤ 6) (C0 : lw_At p s m meth c b L xs) : W p l e room_1 s m #[Value.ref b] below meth c s.heap [] 0 0 (lw_Z below #[Value.ref b] s) (entryFrame m ([Value.ref b] : List Value).toArray 4) := by
  refine law_start l C0 (fun D kA h1 h2 u1 u2 H locs ls hK hN hpost hP hD hS hl => ?_)
  rcases Nat.lt_or_ge L 6 with h6 | h6
  · exact law_short l C0 h6 (Nat.le_of_ble_eq_true rfl) (Nat.le_of_ble_eq_true rfl) hS hl
  · have e6 : L = 6 := Nat.le_antisymm hL h6
    subst e6
    exact law_first l C0 h1 h2 u1 u2 hK hN hpost hP hD hS hl
