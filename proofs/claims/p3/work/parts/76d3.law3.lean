section
theorem L_sub6 {L : Nat} (hL : L ≤ 3072) : (Int32.ofNat L - 6).toInt = (L : Int) - 6 := by
  rw [Int32.toInt_sub, show (Int32.ofNat L).toInt = (L : Int) from nI_toInt (by omega), show (6 : Int32).toInt = 6 from rfl]
  simp only [Int.bmod]
  split <;> omega
theorem LI_skip {kA : Nat → ClassId} {h1 h2 rd i n : Nat} {ta : Nat → Option Nat} {ws : va_W} (hi : i + 6 ≤ 3072) (h : LI kA h1 h2 rd i n ta ws) : LI kA h1 h2 rd (i + 6) n ta ws := by
  obtain ⟨q1, q2, q3, f0, f1, f2, f3⟩ := h
  refine ⟨q1, q2, q3, f0, f1, ?_, f3⟩
  have z : HY ws (.ref h1) ((nI i).toInt + ((2000000 : Nat) - 2000000 : Int)) := f2
  show HY ws (.ref h1) ((nI (i + 6)).toInt + ((2000000 : Nat) - 2000000 : Int))
  rw [nI_toInt (by omega)] at z ⊢
  exact hy_le z (by omega)
set_option maxRecDepth 100000 in
theorem law_end {p : Program} {e : Env} {s : State} {m : MethodId} {below : List Frame} {meth : Method} {c : Code} {l : Launch} {b L : Nat} {xs : Nat → Int32} (C0 : lw_At p s m meth c b L xs) (hL : L ≤ 3072) {h1 h2 i : Nat} (hi : L < i + 6) (hi2 : i ≤ 3078) {H : Heap} {locs : List Loc} {ls : Array Slot} {cells slots : Nat} (hc : cells ≤ 60000) (hs : slots ≤ 8922250) (hS : va_S (fun q : Nat => s.heap.size ≤ q) s.heap H locs) (hl : lv_has ls 4 [(3, .int (nI i)), (2, .ref h2), (1, .ref h1), (0, .ref b)]) : W p l e room_1 s m #[Value.ref b] below meth c H locs cells slots (lw_Z below #[Value.ref b] s) (F0 m 18 ls []) := by
  obtain ⟨hx, hb, hr, hml, hown, hts0, hX, hbl, hlocks, hgv⟩ := id C0
  obtain ⟨A, hAe⟩ : ∃ A : Nat → Prop, A = fun q : Nat => s.heap.size ≤ q := ⟨_, rfl⟩
  have hbA : ¬ A b := by rw [hAe]; exact Nat.not_le.mpr hbl
  have hSA : va_S A s.heap H locs := by rw [hAe]; exact hS
  refine lv_iload_n (pc := 18) hx hb d_law_law_18 rfl (lv_at hl 0 rfl) ?_
  refine lv_aload_n (pc := 19) hx hb d_law_law_19 rfl (lv_at hl 3 rfl) ?_
  refine va_slen (pc := 20) hx hb hX hbl hbA hSA d_law_law_20 ?_
  refine lv_bipush (pc := 21) (v := 6) hx hb d_law_law_21 (by decide) ?_
  refine lv_isub (pc := 23) hx hb d_law_law_23 ?_
  have hlt : Int32.ofNat L - 6 < nI i := by rw [Int32.lt_iff_toInt_lt, L_sub6 hL, nI_toInt (by omega)]; omega
  refine lv_icmp_gt (pc := 24) (tgt := 1300) hx hb d_law_law_24 (by decide) (fun _ => ?_) (fun c1 => absurd hlt c1)
  refine lv_iconst (pc := 1300) (v := 1) hx hb d_law_law_1300 (by decide) ?_
  refine va_forget (fun q hq => hS.2.2 q hq) ?_
  refine W.widen (k := 60000) (n := 8922250) hc hs ?_
  exact lw_ret hx hb hr hlocks d_law_law_1301
set_option maxRecDepth 100000 in
set_option maxHeartbeats 8000000 in
theorem law_loop {p : Program} {e : Env} {s : State} {m : MethodId} {below : List Frame} {meth : Method} {c : Code} {l : Launch} {b L : Nat} {xs : Nat → Int32} (C0 : lw_At p s m meth c b L xs) (hL : L ≤ 3072) {D : va_G} {kA : Nat → ClassId} (hK : va_K D classes (TY kA) s) (hN : nsr kA (fun q : Nat => s.heap.size ≤ q) s) (h_Ho_feed : ct_ok PRD l D kA GG y_Ho_feed z_Ho_feed e_Ho_feed) (h_Mo_feed : ct_ok PRD l D kA GG y_Mo_feed z_Mo_feed e_Mo_feed) (h_Ho_read : ct_ok PRD l D kA GG y_Ho_read z_Ho_read e_Ho_read) (h_Mo_read : ct_ok PRD l D kA GG y_Mo_read z_Mo_read e_Mo_read) (h_Ho_fault : ct_ok PRD l D kA GG y_Ho_fault z_Ho_fault e_Ho_fault) (h_Mo_fault : ct_ok PRD l D kA GG y_Mo_fault z_Mo_fault e_Mo_fault) (h_Ho_count : ct_ok PRD l D kA GG y_Ho_count z_Ho_count e_Ho_count) (h_Mo_count : ct_ok PRD l D kA GG y_Mo_count z_Mo_count e_Mo_count) (h_Ho_node : ct_ok PRD l D kA GG y_Ho_node z_Ho_node e_Ho_node) (h_Mo_node : ct_ok PRD l D kA GG y_Mo_node z_Mo_node e_Mo_node) (h_Ho_edge : ct_ok PRD l D kA GG y_Ho_edge z_Ho_edge e_Ho_edge) (h_Mo_edge : ct_ok PRD l D kA GG y_Mo_edge z_Mo_edge e_Mo_edge) (h_Ho_group : ct_ok PRD l D kA GG y_Ho_group z_Ho_group e_Ho_group) (h_Mo_group : ct_ok PRD l D kA GG y_Mo_group z_Mo_group e_Mo_group) (h_Ho_letter : ct_ok PRD l D kA GG y_Ho_letter z_Ho_letter e_Ho_letter) (h_Mo_letter : ct_ok PRD l D kA GG y_Mo_letter z_Mo_letter e_Mo_letter) (h_Ho_change : ct_ok PRD l D kA GG y_Ho_change z_Ho_change e_Ho_change) (h_Mo_change : ct_ok PRD l D kA GG y_Mo_change z_Mo_change e_Mo_change) (h_Ho_back : ct_ok PRD l D kA GG y_Ho_back z_Ho_back e_Ho_back) (h_Mo_back : ct_ok PRD l D kA GG y_Mo_back z_Mo_back e_Mo_back) (h_Ho_far : ct_ok PRD l D kA GG y_Ho_far z_Ho_far e_Ho_far) (h_Mo_far : ct_ok PRD l D kA GG y_Mo_far z_Mo_far e_Mo_far) (h_Ho_same : ct_ok PRD l D kA GG y_Ho_same z_Ho_same e_Ho_same) (h_Mo_same : ct_ok PRD l D kA GG y_Mo_same z_Mo_same e_Mo_same) (h_Ho_map : ct_ok PRD l D kA GG y_Ho_map z_Ho_map e_Ho_map) (h_Mo_map : ct_ok PRD l D kA GG y_Mo_map z_Mo_map e_Mo_map) (h_Ho_planar : ct_ok PRD l D kA GG y_Ho_planar z_Ho_planar e_Ho_planar) (h_Mo_planar : ct_ok PRD l D kA GG y_Mo_planar z_Mo_planar e_Mo_planar) (h_Ho_turn : ct_ok PRD l D kA GG y_Ho_turn z_Ho_turn e_Ho_turn) (h_Mo_turn : ct_ok PRD l D kA GG y_Mo_turn z_Mo_turn e_Mo_turn) (h_Ho_draw_at_n : ct_ok PRD l D kA GG y_Ho_draw_at_n z_Ho_draw_at_n e_Ho_draw_at_n) (h_Ho_draw_at_p : ct_ok PRD l D kA GG y_Ho_draw_at_p z_Ho_draw_at_p e_Ho_draw_at_p) (h_Ho_draw_at_r0 : ct_ok PRD l D kA GG y_Ho_draw_at_r0 z_Ho_draw_at_r0 e_Ho_draw_at_r0) (h_Ho_draw_at_r1 : ct_ok PRD l D kA GG y_Ho_draw_at_r1 z_Ho_draw_at_r1 e_Ho_draw_at_r1) (h_Ho_draw_at_b : ct_ok PRD l D kA GG y_Ho_draw_at_b z_Ho_draw_at_b e_Ho_draw_at_b) (h_Ho_draw_at_c : ct_ok PRD l D kA GG y_Ho_draw_at_c z_Ho_draw_at_c e_Ho_draw_at_c) (h_Ho_draw_at_d : ct_ok PRD l D kA GG y_Ho_draw_at_d z_Ho_draw_at_d e_Ho_draw_at_d) (h_Mo_draw : ct_ok PRD l D kA GG y_Mo_draw z_Mo_draw e_Mo_draw) (h_Ho_at : ct_ok PRD l D kA GG y_Ho_at z_Ho_at e_Ho_at) (h_Mo_at2 : ct_ok PRD l D kA GG y_Mo_at2 z_Mo_at2 e_Mo_at2) (h_Ho_told : ct_ok PRD l D kA GG y_Ho_told z_Ho_told e_Ho_told) (h_Mo_told : ct_ok PRD l D kA GG y_Mo_told z_Mo_told e_Mo_told) (h_Ho_put : ct_ok PRD l D kA GG y_Ho_put z_Ho_put e_Ho_put) (h_Mo_put : ct_ok PRD l D kA GG y_Mo_put z_Mo_put e_Mo_put) (h_Ho_route_at_c : ct_ok PRD l D kA GG y_Ho_route_at_c z_Ho_route_at_c e_Ho_route_at_c) (h_Ho_route_at_b : ct_ok PRD l D kA GG y_Ho_route_at_b z_Ho_route_at_b e_Ho_route_at_b) (h_Ho_route_at_d : ct_ok PRD l D kA GG y_Ho_route_at_d z_Ho_route_at_d e_Ho_route_at_d) (h_Mo_route : ct_ok PRD l D kA GG y_Mo_route z_Mo_route e_Mo_route) (h_Ho_label : ct_ok PRD l D kA GG y_Ho_label z_Ho_label e_Ho_label) (h_Mo_label : ct_ok PRD l D kA GG y_Mo_label z_Mo_label e_Mo_label) (h_Ho_judge : ct_ok PRD l D kA GG y_Ho_judge z_Ho_judge e_Ho_judge) (h_Mo_judge : ct_ok PRD l D kA GG y_Mo_judge z_Mo_judge e_Mo_judge) (h_Ho_style : ct_ok PRD l D kA GG y_Ho_style z_Ho_style e_Ho_style) (h_Mo_style : ct_ok PRD l D kA GG y_Mo_style z_Mo_style e_Mo_style) (h_Ho_shade : ct_ok PRD l D kA GG y_Ho_shade z_Ho_shade e_Ho_shade) (h_Mo_shade : ct_ok PRD l D kA GG y_Mo_shade z_Mo_shade e_Mo_shade) (h_Ho_text : ct_ok PRD l D kA GG y_Ho_text z_Ho_text e_Ho_text) (h_Mo_text : ct_ok PRD l D kA GG y_Mo_text z_Mo_text e_Mo_text) (h_Ho_octet : ct_ok PRD l D kA GG y_Ho_octet z_Ho_octet e_Ho_octet) (h_Mo_octet : ct_ok PRD l D kA GG y_Mo_octet z_Mo_octet e_Mo_octet) (h_Ho_dots : ct_ok PRD l D kA GG y_Ho_dots z_Ho_dots e_Ho_dots) (h_Mo_dots : ct_ok PRD l D kA GG y_Mo_dots z_Mo_dots e_Mo_dots) (h_Ho_dot : ct_ok PRD l D kA GG y_Ho_dot z_Ho_dot e_Ho_dot) (h_Mo_dot : ct_ok PRD l D kA GG y_Mo_dot z_Mo_dot e_Mo_dot) {h1 h2 rd : Nat} : ∀ (r i n b17 b20 : Nat) (ta : Nat → Option Nat) (ws : va_W) (H : Heap) (locs : List Loc) (ls : Array Slot) (cells slots : Nat), i ≤ 3078 → L < i + 6 * (r + 1) → cells + 64 * r ≤ 60000 → slots + 3800 * r + b17 + b20 ≤ 8922250 → (TN ws h1 17 ∨ 26011 ≤ b17) → (TN ws h1 20 ∨ 126078 ≤ b20) → va_P D classes ws H → va_D (fun q : Nat => s.heap.size ≤ q) ws → va_S (fun q : Nat => s.heap.size ≤ q) s.heap H locs → LI kA h1 h2 rd i n ta ws → lv_has ls 4 [(3, .int (nI i)), (2, .ref h2), (1, .ref h1), (0, .ref b)] → W p l e room_1 s m #[Value.ref b] below meth c H locs cells slots (lw_Z below #[Value.ref b] s) (F0 m 18 ls []) := by
  intro r
  induction r with
  | zero =>
    intro i n b17 b20 ta ws H locs ls cells slots hi0 hr0 hc hs _ _ hP hD hS hI hl
    exact law_end C0 hL (by omega) hi0 (by omega) (by omega) hS hl
  | succ r ih =>
    intro i n b17 b20 ta ws H locs ls cells slots hi0 hr0 hc hs hb17 hb20 hP hD hS hI hl
    by_cases hi : i + 6 ≤ L
    · have hS0 := hS
      obtain ⟨hx, hb, hr, hml, hown, hts0, hX, hbl, hlocks, hgv⟩ := id C0
      obtain ⟨A, hAe⟩ : ∃ A : Nat → Prop, A = fun q : Nat => s.heap.size ≤ q := ⟨_, rfl⟩
      have hbA : ¬ A b := by rw [hAe]; exact Nat.not_le.mpr hbl
      have hSA : va_S A s.heap H locs := by rw [hAe]; exact hS
      have nxt : ∀ (k c17 c20 : Nat) (ta2 : Nat → Option Nat) (w2 : va_W) (H2 : Heap) (locs2 : List Loc) (c2 s2 : Nat), c2 + 64 * r ≤ 60000 → s2 + 3800 * r + c17 + c20 ≤ 8922250 → (TN w2 h1 17 ∨ 26011 ≤ c17) → (TN w2 h1 20 ∨ 126078 ≤ c20) → va_P D classes w2 H2 → va_D (fun q : Nat => s.heap.size ≤ q) w2 → va_S (fun q : Nat => s.heap.size ≤ q) s.heap H2 locs2 → LI kA h1 h2 rd (i + 6) k ta2 w2 → W p l e room_1 s m #[Value.ref b] below meth c H2 locs2 c2 s2 (lw_Z below #[Value.ref b] s) (F0 m 1294 ls []) := by
        intro k c17 c20 ta2 w2 H2 locs2 c2 s2 g1 g2 g3 g4 g5 g6 g7 g8
        refine lv_iinc (pc := 1294) (v := nI (i + 6)) (lv' := [(3, .int (nI (i + 6))), (2, .ref h2), (1, .ref h1), (0, .ref b)]) hx hb d_law_law_1294 hl (k := 0) rfl (nI_add _ 6) (by decide) rfl (fun ls2 hl2 => ?_)
        refine lv_goto (pc := 1297) (tgt := 18) hx hb d_law_law_1297 (by decide) ?_
        exact ih (i + 6) k c17 c20 ta2 w2 H2 locs2 ls2 c2 s2 (by omega) (by omega) g1 g2 g3 g4 g5 g6 g7 g8 hl2
      refine lv_iload_n (pc := 18) hx hb d_law_law_18 rfl (lv_at hl 0 rfl) ?_
      refine lv_aload_n (pc := 19) hx hb d_law_law_19 rfl (lv_at hl 3 rfl) ?_
      refine va_slen (pc := 20) hx hb hX hbl hbA hSA d_law_law_20 ?_
      refine lv_bipush (pc := 21) (v := 6) hx hb d_law_law_21 (by decide) ?_
      refine lv_isub (pc := 23) hx hb d_law_law_23 ?_
      have hge : ¬ Int32.ofNat L - 6 < nI i := by rw [Int32.lt_iff_toInt_lt, L_sub6 hL, nI_toInt (by omega)]; omega
      refine lv_icmp_gt (pc := 24) (tgt := 1300) hx hb d_law_law_24 (by decide) (fun c1 => absurd c1 hge) (fun _ => ?_)
      refine lv_aload_n (pc := 27) hx hb d_law_law_27 rfl (lv_at hl 3 rfl) ?_
      refine lv_iload_n (pc := 28) hx hb d_law_law_28 rfl (lv_at hl 0 rfl) ?_
      refine sc_ld (pc := 29) (j := i) hx hb hX hbl hbA hSA (by omega) (by omega) d_law_law_29 ?_
      refine lv_bipush (pc := 30) (v := 31) hx hb d_law_law_30 (by decide) ?_
      refine lv_iand (pc := 32) hx hb d_law_law_32 ?_
      obtain ⟨w0, hw0⟩ : ∃ z : Int32, xs i &&& 31 = z := ⟨_, rfl⟩
      refine k_cst (v := w0) hw0 ?_
      rcases k_tsw w0 28 (by decide) with hsw | ⟨jw, hjw, ew⟩
      · refine lv_tableOut (pc := 33) (tgt := 1294) hx hb d_law_law_33 hsw (by decide) ?_
        exact nxt n b17 b20 ta ws H locs cells slots (by omega) (by omega) hb17 hb20 hP hD hS (LI_skip (by omega) hI)
      · match jw, hjw, ew with
        | 0, _, ew =>
          rw [ew]
          refine lv_tableIn (pc := 33) (tgt := 160) hx hb d_law_law_33 (by decide) (by decide) rfl (by decide) ?_
          exact lc_feed C0 hL hK hN h_Ho_feed h_Mo_feed hi hP hD hS hI hl (by omega) (by omega) (fun k ta2 w2 H2 locs2 p1 p2 p3 p4 t17 t20 => nxt k b17 b20 ta2 w2 H2 locs2 _ _ (by omega) (by omega) (hb17.imp t17 id) (hb20.imp t20 id) p1 p2 p3 p4)
        | 1, _, ew =>
          rw [ew]
          refine lv_tableIn (pc := 33) (tgt := 223) hx hb d_law_law_33 (by decide) (by decide) rfl (by decide) ?_
          exact lc_read C0 hL hK hN h_Ho_read h_Mo_read hi hP hD hS hI hl (by omega) (by omega) (fun k ta2 w2 H2 locs2 p1 p2 p3 p4 t17 t20 => nxt k b17 b20 ta2 w2 H2 locs2 _ _ (by omega) (by omega) (hb17.imp t17 id) (hb20.imp t20 id) p1 p2 p3 p4)
        | 2, _, ew =>
          rw [ew]
          refine lv_tableIn (pc := 33) (tgt := 256) hx hb d_law_law_33 (by decide) (by decide) rfl (by decide) ?_
          exact lc_fault C0 hL hK hN h_Ho_fault h_Mo_fault hi hP hD hS hI hl (by omega) (by omega) (fun k ta2 w2 H2 locs2 p1 p2 p3 p4 t17 t20 => nxt k b17 b20 ta2 w2 H2 locs2 _ _ (by omega) (by omega) (hb17.imp t17 id) (hb20.imp t20 id) p1 p2 p3 p4)
        | 3, _, ew =>
          rw [ew]
          refine lv_tableIn (pc := 33) (tgt := 279) hx hb d_law_law_33 (by decide) (by decide) rfl (by decide) ?_
          exact lc_count C0 hL hK hN h_Ho_count h_Mo_count hi hP hD hS hI hl (by omega) (by omega) (fun k ta2 w2 H2 locs2 p1 p2 p3 p4 t17 t20 => nxt k b17 b20 ta2 w2 H2 locs2 _ _ (by omega) (by omega) (hb17.imp t17 id) (hb20.imp t20 id) p1 p2 p3 p4)
        | 4, _, ew =>
          rw [ew]
          refine lv_tableIn (pc := 33) (tgt := 312) hx hb d_law_law_33 (by decide) (by decide) rfl (by decide) ?_
          exact lc_node C0 hL hK hN h_Ho_node h_Mo_node hi hP hD hS hI hl (by omega) (by omega) (fun k ta2 w2 H2 locs2 p1 p2 p3 p4 t17 t20 => nxt k b17 b20 ta2 w2 H2 locs2 _ _ (by omega) (by omega) (hb17.imp t17 id) (hb20.imp t20 id) p1 p2 p3 p4)
        | 5, _, ew =>
          rw [ew]
          refine lv_tableIn (pc := 33) (tgt := 355) hx hb d_law_law_33 (by decide) (by decide) rfl (by decide) ?_
          exact lc_edge C0 hL hK hN h_Ho_edge h_Mo_edge hi hP hD hS hI hl (by omega) (by omega) (fun k ta2 w2 H2 locs2 p1 p2 p3 p4 t17 t20 => nxt k b17 b20 ta2 w2 H2 locs2 _ _ (by omega) (by omega) (hb17.imp t17 id) (hb20.imp t20 id) p1 p2 p3 p4)
        | 6, _, ew =>
          rw [ew]
          refine lv_tableIn (pc := 33) (tgt := 398) hx hb d_law_law_33 (by decide) (by decide) rfl (by decide) ?_
          exact lc_group C0 hL hK hN h_Ho_group h_Mo_group hi hP hD hS hI hl (by omega) (by omega) (fun k ta2 w2 H2 locs2 p1 p2 p3 p4 t17 t20 => nxt k b17 b20 ta2 w2 H2 locs2 _ _ (by omega) (by omega) (hb17.imp t17 id) (hb20.imp t20 id) p1 p2 p3 p4)
        | 7, _, ew =>
          rw [ew]
          refine lv_tableIn (pc := 33) (tgt := 441) hx hb d_law_law_33 (by decide) (by decide) rfl (by decide) ?_
          exact lc_letter C0 hL hK hN h_Ho_letter h_Mo_letter hi hP hD hS hI hl (by omega) (by omega) (fun k ta2 w2 H2 locs2 p1 p2 p3 p4 t17 t20 => nxt k b17 b20 ta2 w2 H2 locs2 _ _ (by omega) (by omega) (hb17.imp t17 id) (hb20.imp t20 id) p1 p2 p3 p4)
        | 8, _, ew =>
          rw [ew]
          refine lv_tableIn (pc := 33) (tgt := 494) hx hb d_law_law_33 (by decide) (by decide) rfl (by decide) ?_
          exact lc_change C0 hL hK hN h_Ho_change h_Mo_change hi hP hD hS hI hl (by omega) (by omega) (fun k ta2 w2 H2 locs2 p1 p2 p3 p4 t17 t20 => nxt k b17 b20 ta2 w2 H2 locs2 _ _ (by omega) (by omega) (hb17.imp t17 id) (hb20.imp t20 id) p1 p2 p3 p4)
        | 9, _, ew =>
          rw [ew]
          refine lv_tableIn (pc := 33) (tgt := 547) hx hb d_law_law_33 (by decide) (by decide) rfl (by decide) ?_
          exact lc_back C0 hL hK hN h_Ho_back h_Mo_back hi hP hD hS hI hl (by omega) (by omega) (fun k ta2 w2 H2 locs2 p1 p2 p3 p4 t17 t20 => nxt k b17 b20 ta2 w2 H2 locs2 _ _ (by omega) (by omega) (hb17.imp t17 id) (hb20.imp t20 id) p1 p2 p3 p4)
        | 10, _, ew =>
          rw [ew]
          refine lv_tableIn (pc := 33) (tgt := 580) hx hb d_law_law_33 (by decide) (by decide) rfl (by decide) ?_
          exact lc_far C0 hL hK hN h_Ho_far h_Mo_far hi hP hD hS hI hl (by omega) (by omega) (fun k ta2 w2 H2 locs2 p1 p2 p3 p4 t17 t20 => nxt k b17 b20 ta2 w2 H2 locs2 _ _ (by omega) (by omega) (hb17.imp t17 id) (hb20.imp t20 id) p1 p2 p3 p4)
        | 11, _, ew =>
          rw [ew]
          refine lv_tableIn (pc := 33) (tgt := 623) hx hb d_law_law_33 (by decide) (by decide) rfl (by decide) ?_
          exact lc_same C0 hL hK hN h_Ho_same h_Mo_same hi hP hD hS hI hl (by omega) (by omega) (fun k ta2 w2 H2 locs2 p1 p2 p3 p4 t17 t20 => nxt k b17 b20 ta2 w2 H2 locs2 _ _ (by omega) (by omega) (hb17.imp t17 id) (hb20.imp t20 id) p1 p2 p3 p4)
        | 12, _, ew =>
          rw [ew]
          refine lv_tableIn (pc := 33) (tgt := 656) hx hb d_law_law_33 (by decide) (by decide) rfl (by decide) ?_
          exact lc_map C0 hL hK hN h_Ho_map h_Mo_map hi hP hD hS hI hl (by omega) (by omega) (fun k ta2 w2 H2 locs2 p1 p2 p3 p4 t17 t20 => nxt k b17 b20 ta2 w2 H2 locs2 _ _ (by omega) (by omega) (hb17.imp t17 id) (hb20.imp t20 id) p1 p2 p3 p4)
        | 13, _, ew =>
          rw [ew]
          refine lv_tableIn (pc := 33) (tgt := 679) hx hb d_law_law_33 (by decide) (by decide) rfl (by decide) ?_
          exact lc_planar C0 hL hK hN h_Ho_planar h_Mo_planar hi hP hD hS hI hl (by omega) (by omega) (fun k ta2 w2 H2 locs2 p1 p2 p3 p4 t17 t20 => nxt k b17 b20 ta2 w2 H2 locs2 _ _ (by omega) (by omega) (hb17.imp t17 id) (hb20.imp t20 id) p1 p2 p3 p4)
        | 14, _, ew =>
          rw [ew]
          refine lv_tableIn (pc := 33) (tgt := 712) hx hb d_law_law_33 (by decide) (by decide) rfl (by decide) ?_
          exact lc_turn C0 hL hK hN h_Ho_turn h_Mo_turn hi hP hD hS hI hl (by omega) (by omega) (fun k ta2 w2 H2 locs2 p1 p2 p3 p4 t17 t20 => nxt k b17 b20 ta2 w2 H2 locs2 _ _ (by omega) (by omega) (hb17.imp t17 id) (hb20.imp t20 id) p1 p2 p3 p4)
        | 15, _, ew =>
          rw [ew]
          refine lv_tableIn (pc := 33) (tgt := 765) hx hb d_law_law_33 (by decide) (by decide) rfl (by decide) ?_
          have lo1 := Int32.le_toInt (xs (i + 1))
          have hi1 := Int32.toInt_lt (xs (i + 1))
          have lo2 := Int32.le_toInt (xs (i + 2))
          have hi2 := Int32.toInt_lt (xs (i + 2))
          rcases Int.lt_trichotomy (xs (i + 2)).toInt 0 with w | w | w
          · exact lc_draw_n C0 hL hK hN h_Ho_draw_at_n h_Mo_draw hi hP hD hS hI hl (by omega) (by omega) ⟨by omega, by omega⟩ (fun k ta2 w2 H2 locs2 p1 p2 p3 p4 t17 t20 => nxt k b17 b20 ta2 w2 H2 locs2 _ _ (by omega) (by omega) (hb17.imp t17 id) (hb20.imp t20 id) p1 p2 p3 p4)
          · by_cases g0 : (xs (i + 1)).toInt < 0
            · exact lc_draw_r0 C0 hL hK hN h_Ho_draw_at_r0 h_Mo_draw hi hP hD hS hI hl (by omega) (by omega) ⟨by omega, by omega⟩ ⟨by omega, by omega⟩ (fun k ta2 w2 H2 locs2 p1 p2 p3 p4 t17 t20 => nxt k b17 b20 ta2 w2 H2 locs2 _ _ (by omega) (by omega) (hb17.imp t17 id) (hb20.imp t20 id) p1 p2 p3 p4)
            · by_cases g3 : 3 < (xs (i + 1)).toInt
              · exact lc_draw_r1 C0 hL hK hN h_Ho_draw_at_r1 h_Mo_draw hi hP hD hS hI hl (by omega) (by omega) ⟨by omega, by omega⟩ ⟨by omega, by omega⟩ (fun k ta2 w2 H2 locs2 p1 p2 p3 p4 t17 t20 => nxt k b17 b20 ta2 w2 H2 locs2 _ _ (by omega) (by omega) (hb17.imp t17 id) (hb20.imp t20 id) p1 p2 p3 p4)
              · by_cases hz : w_rfi ws (w_ar ws (.ref h1) 0) (xs (i + 1)).toInt 4 0 ≤ 0
                · exact lc_draw_b C0 hL hK hN h_Ho_draw_at_b h_Mo_draw hi hP hD hS hI hl (by omega) (by omega) ⟨by omega, by omega⟩ ⟨by omega, by omega⟩ hz (fun k ta2 w2 H2 locs2 p1 p2 p3 p4 t17 t20 => nxt k b17 b20 ta2 w2 H2 locs2 _ _ (by omega) (by omega) (hb17.imp t17 id) (hb20.imp t20 id) p1 p2 p3 p4)
                · rcases hb17 with ht | ht
                  · exact lc_draw_c C0 hL hK hN h_Ho_draw_at_c h_Mo_draw hi hP hD hS hI hl (by omega) (by omega) ⟨by omega, by omega⟩ ⟨by omega, by omega⟩ ht (fun k ta2 w2 H2 locs2 p1 p2 p3 p4 t17 t20 => nxt k b17 b20 ta2 w2 H2 locs2 _ _ (by omega) (by omega) (Or.inl (t17 ht)) (hb20.imp t20 id) p1 p2 p3 p4)
                  · exact lc_draw_d C0 hL hK hN h_Ho_draw_at_d h_Mo_draw hi hP hD hS hI hl (by omega) (by omega) ⟨by omega, by omega⟩ ⟨by omega, by omega⟩ (show 1 ≤ w_rfi ws (w_ar ws (.ref h1) 0) (xs (i + 1)).toInt 4 0 by omega) (fun k ta2 w2 H2 locs2 p1 p2 p3 p4 t17 t20 => nxt k 0 b20 ta2 w2 H2 locs2 _ _ (by omega) (by omega) (Or.inl t17) (hb20.imp t20 id) p1 p2 p3 p4)
          · exact lc_draw_p C0 hL hK hN h_Ho_draw_at_p h_Mo_draw hi hP hD hS hI hl (by omega) (by omega) ⟨by omega, by omega⟩ (fun k ta2 w2 H2 locs2 p1 p2 p3 p4 t17 t20 => nxt k b17 b20 ta2 w2 H2 locs2 _ _ (by omega) (by omega) (hb17.imp t17 id) (hb20.imp t20 id) p1 p2 p3 p4)
        | 16, _, ew =>
          rw [ew]
          refine lv_tableIn (pc := 33) (tgt := 808) hx hb d_law_law_33 (by decide) (by decide) rfl (by decide) ?_
          exact lc_at C0 hL hK hN h_Ho_at h_Mo_at2 hi hP hD hS hI hl (by omega) (by omega) (fun k ta2 w2 H2 locs2 p1 p2 p3 p4 t17 t20 => nxt k b17 b20 ta2 w2 H2 locs2 _ _ (by omega) (by omega) (hb17.imp t17 id) (hb20.imp t20 id) p1 p2 p3 p4)
        | 17, _, ew =>
          rw [ew]
          refine lv_tableIn (pc := 33) (tgt := 861) hx hb d_law_law_33 (by decide) (by decide) rfl (by decide) ?_
          exact lc_told C0 hL hK hN h_Ho_told h_Mo_told hi hP hD hS hI hl (by omega) (by omega) (fun k ta2 w2 H2 locs2 p1 p2 p3 p4 t17 t20 => nxt k b17 b20 ta2 w2 H2 locs2 _ _ (by omega) (by omega) (hb17.imp t17 id) (hb20.imp t20 id) p1 p2 p3 p4)
        | 18, _, ew =>
          rw [ew]
          refine lv_tableIn (pc := 33) (tgt := 904) hx hb d_law_law_33 (by decide) (by decide) rfl (by decide) ?_
          exact lc_put C0 hL hK hN h_Ho_put h_Mo_put hi hP hD hS hI hl (by omega) (by omega) (fun k ta2 w2 H2 locs2 p1 p2 p3 p4 t17 t20 => nxt k b17 b20 ta2 w2 H2 locs2 _ _ (by omega) (by omega) (hb17.imp t17 id) (hb20.imp t20 id) p1 p2 p3 p4)
        | 19, _, ew =>
          rw [ew]
          refine lv_tableIn (pc := 33) (tgt := 967) hx hb d_law_law_33 (by decide) (by decide) rfl (by decide) ?_
          by_cases hz : (xs (i + 1)).toInt ≤ -1 ∨ 4 ≤ (xs (i + 1)).toInt ∨ w_rfi ws (w_ar ws (.ref h1) 3) (xs (i + 1)).toInt 4 1 = -1 ∨ (xs (i + 2)).toInt ≤ -1 ∨ w_rfi ws (w_ar ws (.ref h1) 0) (xs (i + 1)).toInt 4 1 ≤ (xs (i + 2)).toInt
          · exact lc_route_b C0 hL hK hN h_Ho_route_at_b h_Mo_route hi hP hD hS hI hl (by omega) (by omega) hz (fun k ta2 w2 H2 locs2 p1 p2 p3 p4 t17 t20 => nxt k b17 b20 ta2 w2 H2 locs2 _ _ (by omega) (by omega) (hb17.imp t17 id) (hb20.imp t20 id) p1 p2 p3 p4)
          · rcases hb20 with ht | ht
            · exact lc_route_c C0 hL hK hN h_Ho_route_at_c h_Mo_route hi hP hD hS hI hl (by omega) (by omega) ht (fun k ta2 w2 H2 locs2 p1 p2 p3 p4 t17 t20 => nxt k b17 b20 ta2 w2 H2 locs2 _ _ (by omega) (by omega) (hb17.imp t17 id) (Or.inl (t20 ht)) p1 p2 p3 p4)
            · exact lc_route_d C0 hL hK hN h_Ho_route_at_d h_Mo_route hi hP hD hS hI hl (by omega) (by omega) ⟨by omega, by omega⟩ (show w_rfi ws (w_ar ws (.ref h1) 3) (xs (i + 1)).toInt 4 1 ≠ -1 ∧ 0 ≤ (xs (i + 2)).toInt ∧ (xs (i + 2)).toInt + 1 ≤ w_rfi ws (w_ar ws (.ref h1) 0) (xs (i + 1)).toInt 4 1 from ⟨by omega, by omega, by omega⟩) (fun k ta2 w2 H2 locs2 p1 p2 p3 p4 t17 t20 => nxt k b17 0 ta2 w2 H2 locs2 _ _ (by omega) (by omega) (hb17.imp t17 id) (Or.inl t20) p1 p2 p3 p4)
        | 20, _, ew =>
          rw [ew]
          refine lv_tableIn (pc := 33) (tgt := 1000) hx hb d_law_law_33 (by decide) (by decide) rfl (by decide) ?_
          exact lc_label C0 hL hK hN h_Ho_label h_Mo_label hi hP hD hS hI hl (by omega) (by omega) (fun k ta2 w2 H2 locs2 p1 p2 p3 p4 t17 t20 => nxt k b17 b20 ta2 w2 H2 locs2 _ _ (by omega) (by omega) (hb17.imp t17 id) (hb20.imp t20 id) p1 p2 p3 p4)
        | 21, _, ew =>
          rw [ew]
          refine lv_tableIn (pc := 33) (tgt := 1043) hx hb d_law_law_33 (by decide) (by decide) rfl (by decide) ?_
          exact lc_judge C0 hL hK hN h_Ho_judge h_Mo_judge hi hP hD hS hI hl (by omega) (by omega) (fun k ta2 w2 H2 locs2 p1 p2 p3 p4 t17 t20 => nxt k b17 b20 ta2 w2 H2 locs2 _ _ (by omega) (by omega) (hb17.imp t17 id) (hb20.imp t20 id) p1 p2 p3 p4)
        | 22, _, ew =>
          rw [ew]
          refine lv_tableIn (pc := 33) (tgt := 1076) hx hb d_law_law_33 (by decide) (by decide) rfl (by decide) ?_
          exact lc_style C0 hL hK hN h_Ho_style h_Mo_style hi hP hD hS hI hl (by omega) (by omega) (fun k ta2 w2 H2 locs2 p1 p2 p3 p4 t17 t20 => nxt k b17 b20 ta2 w2 H2 locs2 _ _ (by omega) (by omega) (hb17.imp t17 id) (hb20.imp t20 id) p1 p2 p3 p4)
        | 23, _, ew =>
          rw [ew]
          refine lv_tableIn (pc := 33) (tgt := 1109) hx hb d_law_law_33 (by decide) (by decide) rfl (by decide) ?_
          exact lc_shade C0 hL hK hN h_Ho_shade h_Mo_shade hi hP hD hS hI hl (by omega) (by omega) (fun k ta2 w2 H2 locs2 p1 p2 p3 p4 t17 t20 => nxt k b17 b20 ta2 w2 H2 locs2 _ _ (by omega) (by omega) (hb17.imp t17 id) (hb20.imp t20 id) p1 p2 p3 p4)
        | 24, _, ew =>
          rw [ew]
          refine lv_tableIn (pc := 33) (tgt := 1162) hx hb d_law_law_33 (by decide) (by decide) rfl (by decide) ?_
          exact lc_text C0 hL hK hN h_Ho_text h_Mo_text hi hP hD hS hI hl (by omega) (by omega) (fun k ta2 w2 H2 locs2 p1 p2 p3 p4 t17 t20 => nxt k b17 b20 ta2 w2 H2 locs2 _ _ (by omega) (by omega) (hb17.imp t17 id) (hb20.imp t20 id) p1 p2 p3 p4)
        | 25, _, ew =>
          rw [ew]
          refine lv_tableIn (pc := 33) (tgt := 1195) hx hb d_law_law_33 (by decide) (by decide) rfl (by decide) ?_
          exact lc_octet C0 hL hK hN h_Ho_octet h_Mo_octet hi hP hD hS hI hl (by omega) (by omega) (fun k ta2 w2 H2 locs2 p1 p2 p3 p4 t17 t20 => nxt k b17 b20 ta2 w2 H2 locs2 _ _ (by omega) (by omega) (hb17.imp t17 id) (hb20.imp t20 id) p1 p2 p3 p4)
        | 26, _, ew =>
          rw [ew]
          refine lv_tableIn (pc := 33) (tgt := 1218) hx hb d_law_law_33 (by decide) (by decide) rfl (by decide) ?_
          exact lc_dots C0 hL hK hN h_Ho_dots h_Mo_dots hi hP hD hS hI hl (by omega) (by omega) (fun k ta2 w2 H2 locs2 p1 p2 p3 p4 t17 t20 => nxt k b17 b20 ta2 w2 H2 locs2 _ _ (by omega) (by omega) (hb17.imp t17 id) (hb20.imp t20 id) p1 p2 p3 p4)
        | 27, _, ew =>
          rw [ew]
          refine lv_tableIn (pc := 33) (tgt := 1261) hx hb d_law_law_33 (by decide) (by decide) rfl (by decide) ?_
          exact lc_dot C0 hL hK hN h_Ho_dot h_Mo_dot hi hP hD hS hI hl (by omega) (by omega) (fun k ta2 w2 H2 locs2 p1 p2 p3 p4 t17 t20 => nxt k b17 b20 ta2 w2 H2 locs2 _ _ (by omega) (by omega) (hb17.imp t17 id) (hb20.imp t20 id) p1 p2 p3 p4)
        | jw + 28, hjw, _ => exact absurd hjw (by omega)
    · exact law_end C0 hL (by omega) hi0 (by omega) (by omega) hS hl
end
section
theorem d_jArr_fill1_0 : decode b_jArr_fill1 0 = .ok (.iconst 0, 1) := by decide +kernel
theorem d_jArr_fill1_1 : decode b_jArr_fill1 1 = .ok (.istore_n 2, 1) := by decide +kernel
theorem d_jArr_fill1_2 : decode b_jArr_fill1 2 = .ok (.aload_n 0, 1) := by decide +kernel
theorem d_jArr_fill1_3 : decode b_jArr_fill1 3 = .ok (.arraylength, 1) := by decide +kernel
theorem d_jArr_fill1_4 : decode b_jArr_fill1 4 = .ok (.istore_n 3, 1) := by decide +kernel
theorem d_jArr_fill1_5 : decode b_jArr_fill1 5 = .ok (.iload_n 2, 1) := by decide +kernel
theorem d_jArr_fill1_6 : decode b_jArr_fill1 6 = .ok (.iload_n 3, 1) := by decide +kernel
theorem d_jArr_fill1_7 : decode b_jArr_fill1 7 = .ok (.if_icmp .ge 13, 3) := by decide +kernel
theorem d_jArr_fill1_10 : decode b_jArr_fill1 10 = .ok (.aload_n 0, 1) := by decide +kernel
theorem d_jArr_fill1_11 : decode b_jArr_fill1 11 = .ok (.iload_n 2, 1) := by decide +kernel
theorem d_jArr_fill1_12 : decode b_jArr_fill1 12 = .ok (.iload_n 1, 1) := by decide +kernel
theorem d_jArr_fill1_13 : decode b_jArr_fill1 13 = .ok (.iastore, 1) := by decide +kernel
theorem d_jArr_fill1_14 : decode b_jArr_fill1 14 = .ok (.iinc 2 1, 3) := by decide +kernel
theorem d_jArr_fill1_17 : decode b_jArr_fill1 17 = .ok (.goto (-12), 3) := by decide +kernel
theorem d_jArr_fill1_20 : decode b_jArr_fill1 20 = .ok (.return_, 1) := by decide +kernel
set_option maxRecDepth 100000 in
set_option maxHeartbeats 4000000 in
/-- Arrays.fill(int[], int) -/
theorem c_fillI (l : Launch) (D : va_G) (tys : List (ClassId × FieldType)) (t0 : Nat) (cA : ClassId) (ht0 : tys[t0]? = some (cA, .int)) (a n : Nat) (hn : n < 2 ^ 31) (f : Nat → Int32) (v : Int32) :
    Cv l y_jArr_fill1 z_jArr_fill1 { frames := 0, cells := 0, slots := 0, locals := 0 } D classes tys [.ref a, .int v] [[(a, .inl (cA, n, .inl f))]] (fun _ : Unit => True) (fun _ => [[(a, .inl (cA, n, .inl (fl f n v)))]]) 0 0 := by
  intro sz
  refine k_met (cc := b_jArr_fill1) (maxL := 4) (ret := none) (by decide) rfl (Nat.le_of_ble_eq_true rfl) (fun p e s m below meth c ls X hl hB => ?_)
  obtain ⟨hsz, hP, hK, hD0, hN⟩ := hB
  subst hsz
  have hD := hD0.self (sz := s.heap.size)
  generalize hAe : va_A (cat [[(a, .inl (cA, n, .inl f))]]) s.heap.size = A at hD ⊢
  have hA : ∀ q : Nat, s.heap.size ≤ q → A q := fun q h => by rw [← hAe]; exact Or.inr h
  have hS : va_S A s.heap s.heap [] := va_S.rf
  obtain ⟨hx, hb, hml, hown, hts, hr, hlk, hnm⟩ := id X
  have hl : lv_has ls 4 [(0, .ref a), (1, .int v)] := hl
  refine lv_iconst (pc := 0) (v := 0) hx hb d_jArr_fill1_0 (by decide) ?_
  refine lv_istore_n (pc := 1) (lv' := [(2, .int 0), (0, .ref a), (1, .int v)]) hx hb d_jArr_fill1_1 rfl hl (by decide) rfl (fun ls hl => ?_)
  refine lv_aload_n (pc := 2) hx hb d_jArr_fill1_2 rfl (lv_at hl 1 rfl) ?_
  refine va_alen (pc := 3) hx hb hK hP 0 t0 rfl ht0 (v := nI n) rfl d_jArr_fill1_3 ?_
  refine lv_istore_n (pc := 4) (lv' := [(3, .int (nI n)), (2, .int 0), (0, .ref a), (1, .int v)]) hx hb d_jArr_fill1_4 rfl hl (by decide) rfl (fun ls hl => ?_)
  have loop : ∀ (k i : Nat), i + k = n → ∀ (H : Heap) (locs : List Loc) (ls : Array Slot), va_P D classes [(a, .inl (cA, n, .inl (fl f i v)))] H → va_D A [(a, .inl (cA, n, .inl (fl f i v)))] → va_S A s.heap H locs → lv_has ls 4 [(3, .int (nI n)), (2, .int (nI i)), (0, .ref a), (1, .int v)] →
      W p l e { frames := 0, cells := 0, slots := 0, locals := 0 } s m [Value.ref a, Value.int v].toArray below meth c H locs 0 0 (MQ below (va_Qv (fun _ : Unit => True) (fun u t => wq D classes tys A (cat [[(a, .inl (cA, n, .inl (fl f n v)))]]) t) A) [Value.ref a, Value.int v].toArray s 0 0 A) (F0 m 5 ls []) := by
    intro k
    induction k with
    | zero =>
      intro i hi H locs ls hP hD hS hl
      have hi : i = n := hi
      subst hi
      refine lv_iload_n (pc := 5) hx hb d_jArr_fill1_5 rfl (lv_at hl 1 rfl) ?_
      refine lv_iload_n (pc := 6) hx hb d_jArr_fill1_6 rfl (lv_at hl 0 rfl) ?_
      refine lv_icmp_ge (pc := 7) (tgt := 20) hx hb d_jArr_fill1_7 (by decide) (fun _ => ?_) (fun c1 => absurd (nI_le (Nat.le_refl _) hn) c1)
      exact W.vret hx hb hr (fun t ht hW => ⟨⟨(), rfl, trivial, by rw [ht]; exact hP, va_K.moved hW.alike hK, hD⟩, hS.F ht⟩) hS.2.2 d_jArr_fill1_20
    | succ k ih =>
      intro i hi H locs ls hP hD hS hl
      have hlt : i < n := by omega
      refine lv_iload_n (pc := 5) hx hb d_jArr_fill1_5 rfl (lv_at hl 1 rfl) ?_
      refine lv_iload_n (pc := 6) hx hb d_jArr_fill1_6 rfl (lv_at hl 0 rfl) ?_
      refine lv_icmp_ge (pc := 7) (tgt := 20) hx hb d_jArr_fill1_7 (by decide) (fun c1 => absurd c1 (nI_ge hlt hn)) (fun _ => ?_)
      refine lv_aload_n (pc := 10) hx hb d_jArr_fill1_10 rfl (lv_at hl 2 rfl) ?_
      refine lv_iload_n (pc := 11) hx hb d_jArr_fill1_11 rfl (lv_at hl 1 rfl) ?_
      refine lv_iload_n (pc := 12) hx hb d_jArr_fill1_12 rfl (lv_at hl 3 rfl) ?_
      refine va_iast (pc := 13) hx hb hK hP hD hS 0 t0 rfl ht0 (vp_in_nI hlt hn) d_jArr_fill1_13 (fun H locs hP hD hS => ?_)
      rw [nI_clamp (by omega), fl_s] at hP hD
      refine lv_iinc (pc := 14) (v := nI (i + 1)) (lv' := [(2, .int (nI (i + 1))), (3, .int (nI n)), (0, .ref a), (1, .int v)]) hx hb d_jArr_fill1_14 hl (k := 1) rfl (by rw [← nI_1]; rfl) (by decide) rfl (fun ls hl => ?_)
      refine lv_goto (pc := 17) (tgt := 5) hx hb d_jArr_fill1_17 (by decide) ?_
      exact ih (i + 1) (by omega) H locs ls hP hD hS (lv_sub hl [1, 0, 2, 3] rfl)
  exact loop n 0 (by omega) _ _ ls (by rw [fl_0]; exact hP) (by rw [fl_0]; exact hD) hS hl
end
section
theorem wm_51 : (Cond.code ({ cls := "DrawingHouse$Graph", name := "<init>", desc := "()V" } : MethodName) prog_5_method_1_code (1 : Nat) (Option.none : Option ClassFile.FieldType) : Cond) ∈ lw_g := lw_gi (lw_c1 (List.mem_of_getElem? (i := 51) rfl)) rfl
theorem wm_52 : (Cond.methodLink "DrawingHouse$Graph" (3 : Nat) ({ cls := "java/lang/Object", name := "<init>", desc := "()V" } : MethodName) : Cond) ∈ lw_g := lw_gi (lw_c1 (List.mem_of_getElem? (i := 52) rfl)) rfl
abbrev b_Gr_init : ByteArray := prog_5_method_1_code
def y_Gr_init : MethodName := ⟨"DrawingHouse$Graph", "<init>", "()V"⟩
abbrev z_Gr_init : List Cond := Cond.code y_Gr_init b_Gr_init 1 none :: lw_g
theorem d_Gr_init_0 : decode b_Gr_init 0 = .ok (.aload_n 0, 1) := by decide +kernel
theorem d_Gr_init_1 : decode b_Gr_init 1 = .ok (.invokespecial 3, 3) := by decide +kernel
theorem d_Gr_init_4 : decode b_Gr_init 4 = .ok (.aload_n 0, 1) := by decide +kernel
theorem d_Gr_init_5 : decode b_Gr_init 5 = .ok (.iconst 0, 1) := by decide +kernel
theorem d_Gr_init_6 : decode b_Gr_init 6 = .ok (.putfield 9, 3) := by decide +kernel
theorem d_Gr_init_9 : decode b_Gr_init 9 = .ok (.aload_n 0, 1) := by decide +kernel
theorem d_Gr_init_10 : decode b_Gr_init 10 = .ok (.iconst 0, 1) := by decide +kernel
theorem d_Gr_init_11 : decode b_Gr_init 11 = .ok (.putfield 15, 3) := by decide +kernel
theorem d_Gr_init_14 : decode b_Gr_init 14 = .ok (.aload_n 0, 1) := by decide +kernel
theorem d_Gr_init_15 : decode b_Gr_init 15 = .ok (.iconst 1, 1) := by decide +kernel
theorem d_Gr_init_16 : decode b_Gr_init 16 = .ok (.putfield 18, 3) := by decide +kernel
theorem d_Gr_init_19 : decode b_Gr_init 19 = .ok (.aload_n 0, 1) := by decide +kernel
theorem d_Gr_init_20 : decode b_Gr_init 20 = .ok (.sipush 192, 3) := by decide +kernel
theorem d_Gr_init_23 : decode b_Gr_init 23 = .ok (.newarray .byte, 2) := by decide +kernel
theorem d_Gr_init_25 : decode b_Gr_init 25 = .ok (.putfield 21, 3) := by decide +kernel
theorem d_Gr_init_28 : decode b_Gr_init 28 = .ok (.aload_n 0, 1) := by decide +kernel
theorem d_Gr_init_29 : decode b_Gr_init 29 = .ok (.bipush 24, 2) := by decide +kernel
theorem d_Gr_init_31 : decode b_Gr_init 31 = .ok (.newarray .int, 2) := by decide +kernel
theorem d_Gr_init_33 : decode b_Gr_init 33 = .ok (.putfield 25, 3) := by decide +kernel
theorem d_Gr_init_36 : decode b_Gr_init 36 = .ok (.aload_n 0, 1) := by decide +kernel
theorem d_Gr_init_37 : decode b_Gr_init 37 = .ok (.bipush 24, 2) := by decide +kernel
theorem d_Gr_init_39 : decode b_Gr_init 39 = .ok (.newarray .int, 2) := by decide +kernel
theorem d_Gr_init_41 : decode b_Gr_init 41 = .ok (.putfield 29, 3) := by decide +kernel
theorem d_Gr_init_44 : decode b_Gr_init 44 = .ok (.aload_n 0, 1) := by decide +kernel
theorem d_Gr_init_45 : decode b_Gr_init 45 = .ok (.bipush 24, 2) := by decide +kernel
theorem d_Gr_init_47 : decode b_Gr_init 47 = .ok (.newarray .int, 2) := by decide +kernel
theorem d_Gr_init_49 : decode b_Gr_init 49 = .ok (.putfield 32, 3) := by decide +kernel
theorem d_Gr_init_52 : decode b_Gr_init 52 = .ok (.aload_n 0, 1) := by decide +kernel
theorem d_Gr_init_53 : decode b_Gr_init 53 = .ok (.bipush 48, 2) := by decide +kernel
theorem d_Gr_init_55 : decode b_Gr_init 55 = .ok (.newarray .int, 2) := by decide +kernel
theorem d_Gr_init_57 : decode b_Gr_init 57 = .ok (.putfield 35, 3) := by decide +kernel
theorem d_Gr_init_60 : decode b_Gr_init 60 = .ok (.aload_n 0, 1) := by decide +kernel
theorem d_Gr_init_61 : decode b_Gr_init 61 = .ok (.bipush 48, 2) := by decide +kernel
theorem d_Gr_init_63 : decode b_Gr_init 63 = .ok (.newarray .int, 2) := by decide +kernel
theorem d_Gr_init_65 : decode b_Gr_init 65 = .ok (.putfield 38, 3) := by decide +kernel
theorem d_Gr_init_68 : decode b_Gr_init 68 = .ok (.aload_n 0, 1) := by decide +kernel
theorem d_Gr_init_69 : decode b_Gr_init 69 = .ok (.bipush 48, 2) := by decide +kernel
theorem d_Gr_init_71 : decode b_Gr_init 71 = .ok (.newarray .int, 2) := by decide +kernel
theorem d_Gr_init_73 : decode b_Gr_init 73 = .ok (.putfield 41, 3) := by decide +kernel
theorem d_Gr_init_76 : decode b_Gr_init 76 = .ok (.aload_n 0, 1) := by decide +kernel
theorem d_Gr_init_77 : decode b_Gr_init 77 = .ok (.bipush 48, 2) := by decide +kernel
theorem d_Gr_init_79 : decode b_Gr_init 79 = .ok (.newarray .int, 2) := by decide +kernel
theorem d_Gr_init_81 : decode b_Gr_init 81 = .ok (.putfield 44, 3) := by decide +kernel
theorem d_Gr_init_84 : decode b_Gr_init 84 = .ok (.aload_n 0, 1) := by decide +kernel
theorem d_Gr_init_85 : decode b_Gr_init 85 = .ok (.bipush 8, 2) := by decide +kernel
theorem d_Gr_init_87 : decode b_Gr_init 87 = .ok (.newarray .int, 2) := by decide +kernel
theorem d_Gr_init_89 : decode b_Gr_init 89 = .ok (.putfield 47, 3) := by decide +kernel
theorem d_Gr_init_92 : decode b_Gr_init 92 = .ok (.aload_n 0, 1) := by decide +kernel
theorem d_Gr_init_93 : decode b_Gr_init 93 = .ok (.bipush 64, 2) := by decide +kernel
theorem d_Gr_init_95 : decode b_Gr_init 95 = .ok (.newarray .byte, 2) := by decide +kernel
theorem d_Gr_init_97 : decode b_Gr_init 97 = .ok (.putfield 50, 3) := by decide +kernel
theorem d_Gr_init_100 : decode b_Gr_init 100 = .ok (.aload_n 0, 1) := by decide +kernel
theorem d_Gr_init_101 : decode b_Gr_init 101 = .ok (.bipush 8, 2) := by decide +kernel
theorem d_Gr_init_103 : decode b_Gr_init 103 = .ok (.newarray .int, 2) := by decide +kernel
theorem d_Gr_init_105 : decode b_Gr_init 105 = .ok (.putfield 53, 3) := by decide +kernel
theorem d_Gr_init_108 : decode b_Gr_init 108 = .ok (.aload_n 0, 1) := by decide +kernel
theorem d_Gr_init_109 : decode b_Gr_init 109 = .ok (.bipush 24, 2) := by decide +kernel
theorem d_Gr_init_111 : decode b_Gr_init 111 = .ok (.newarray .int, 2) := by decide +kernel
theorem d_Gr_init_113 : decode b_Gr_init 113 = .ok (.putfield 56, 3) := by decide +kernel
theorem d_Gr_init_116 : decode b_Gr_init 116 = .ok (.aload_n 0, 1) := by decide +kernel
theorem d_Gr_init_117 : decode b_Gr_init 117 = .ok (.sipush 576, 3) := by decide +kernel
theorem d_Gr_init_120 : decode b_Gr_init 120 = .ok (.newarray .int, 2) := by decide +kernel
theorem d_Gr_init_122 : decode b_Gr_init 122 = .ok (.putfield 59, 3) := by decide +kernel
theorem d_Gr_init_125 : decode b_Gr_init 125 = .ok (.aload_n 0, 1) := by decide +kernel
theorem d_Gr_init_126 : decode b_Gr_init 126 = .ok (.aconst_null, 1) := by decide +kernel
theorem d_Gr_init_127 : decode b_Gr_init 127 = .ok (.putfield 62, 3) := by decide +kernel
theorem d_Gr_init_130 : decode b_Gr_init 130 = .ok (.aload_n 0, 1) := by decide +kernel
theorem d_Gr_init_131 : decode b_Gr_init 131 = .ok (.iconst 0, 1) := by decide +kernel
theorem d_Gr_init_132 : decode b_Gr_init 132 = .ok (.putfield 65, 3) := by decide +kernel
theorem d_Gr_init_135 : decode b_Gr_init 135 = .ok (.aload_n 0, 1) := by decide +kernel
theorem d_Gr_init_136 : decode b_Gr_init 136 = .ok (.iconst 0, 1) := by decide +kernel
theorem d_Gr_init_137 : decode b_Gr_init 137 = .ok (.putfield 68, 3) := by decide +kernel
theorem d_Gr_init_140 : decode b_Gr_init 140 = .ok (.aload_n 0, 1) := by decide +kernel
theorem d_Gr_init_141 : decode b_Gr_init 141 = .ok (.getfield 47, 3) := by decide +kernel
theorem d_Gr_init_144 : decode b_Gr_init 144 = .ok (.iconst 0, 1) := by decide +kernel
theorem d_Gr_init_145 : decode b_Gr_init 145 = .ok (.iconst (-1), 1) := by decide +kernel
theorem d_Gr_init_146 : decode b_Gr_init 146 = .ok (.iastore, 1) := by decide +kernel
theorem d_Gr_init_147 : decode b_Gr_init 147 = .ok (.aload_n 0, 1) := by decide +kernel
theorem d_Gr_init_148 : decode b_Gr_init 148 = .ok (.getfield 59, 3) := by decide +kernel
theorem d_Gr_init_151 : decode b_Gr_init 151 = .ok (.iconst (-1), 1) := by decide +kernel
theorem d_Gr_init_152 : decode b_Gr_init 152 = .ok (.invokestatic 71, 3) := by decide +kernel
theorem d_Gr_init_155 : decode b_Gr_init 155 = .ok (.return_, 1) := by decide +kernel
abbrev f0Gr : List Value := [.int 0, .int 0, .int 0, .null, .null, .null, .null, .null, .null, .null, .null, .null, .null, .null, .null, .null, .null, .int 0, .int 0]
set_option maxRecDepth 20000 in
theorem f0Gr_ok : ∀ j, j < 19 → defaultValue (t_Gr j) = vp_V f0Gr j := by decide +kernel
def wGr (kA : Nat → ClassId) (h : Nat) (q : Nat → Nat) (x : Nat → Int32) (a : Nat → Nat → Int32) (o16 : Option Nat) : va_W := [(h, .inr (3, [.int (x 0), .int (x 1), .int (x 2), .ref (q 3), .ref (q 4), .ref (q 5), .ref (q 6), .ref (q 7), .ref (q 8), .ref (q 9), .ref (q 10), .ref (q 11), .ref (q 12), .ref (q 13), .ref (q 14), .ref (q 15), va_rf o16, .int (x 17), .int (x 18)])), (q 3, .inl (kA 1, 192, .inl (a 3))), (q 4, .inl (kA 0, 24, .inl (a 4))), (q 5, .inl (kA 0, 24, .inl (a 5))), (q 6, .inl (kA 0, 24, .inl (a 6))), (q 7, .inl (kA 0, 48, .inl (a 7))), (q 8, .inl (kA 0, 48, .inl (a 8))), (q 9, .inl (kA 0, 48, .inl (a 9))), (q 10, .inl (kA 0, 48, .inl (a 10))), (q 11, .inl (kA 0, 8, .inl (a 11))), (q 12, .inl (kA 1, 64, .inl (a 12))), (q 13, .inl (kA 0, 8, .inl (a 13))), (q 14, .inl (kA 0, 24, .inl (a 14))), (q 15, .inl (kA 0, 576, .inl (a 15)))]
def x0Gr : Nat → Int32 := fun k => match k with | 2 => 1 | _ => 0
def a0Gr : Nat → Nat → Int32 := fun k => match k with | 11 => upd (fun _ => 0) 0 (-1) | 15 => fl (fun _ => 0) 576 (-1) | _ => fun _ => 0
set_option maxRecDepth 100000 in
set_option maxHeartbeats 4000000 in
/-- DrawingHouse$Graph()V -/
theorem c_Gr_init (l : Launch) (D : va_G) (kA : Nat → ClassId) (h : Nat) : Cv l y_Gr_init z_Gr_init { frames := 1, cells := 13, slots := 1136, locals := 23 } D classes (TY kA) [.ref h] [[(h, .inr (3, f0Gr))]] (fun u : (Nat → Nat) => True) (fun u => [wGr kA h u x0Gr a0Gr none]) 13 1136 := by
  intro sz
  refine k_met (cc := b_Gr_init) (maxL := 1) (ret := none) (by decide) rfl (Nat.le_of_ble_eq_true rfl) (fun p e s m below meth c ls X hl hB => ?_)
  obtain ⟨hsz, hP, hK, hD0, hN⟩ := hB
  subst hsz
  have hD := hD0.self (sz := s.heap.size)
  generalize hAe : va_A (cat [[(h, .inr (3, [.int 0, .int 0, .int 0, .null, .null, .null, .null, .null, .null, .null, .null, .null, .null, .null, .null, .null, .null, .int 0, .int 0]))]]) s.heap.size = A at hD ⊢
  have hA : ∀ q : Nat, s.heap.size ≤ q → A q := fun q h => by rw [← hAe]; exact Or.inr h
  have hS : va_S A s.heap s.heap [] := va_S.rf
  obtain ⟨hx, hb, hml, hown, hts, hr, hlk, hnm⟩ := id X
  have hl : lv_has ls 1 [(0, .ref h)] := hl
  have hP : va_P D classes (cat [[(h, .inr (3, [.int 0, .int 0, .int 0, .null, .null, .null, .null, .null, .null, .null, .null, .null, .null, .null, .null, .null, .null, .int 0, .int 0]))]]) s.heap := hP
  have hK : va_K D classes (TY kA) s := hK
  refine lv_aload_n (pc := 0) hx hb d_Gr_init_0 rfl (lv_at hl 0 rfl) ?_
  refine W.objInit hx hb hown (hts _ wm_52) (hts _ wm_31) (hts _ wm_32) rfl (by rw [hml]; exact hl.1) rfl d_Gr_init_1 (Nat.le_of_ble_eq_true rfl) (Nat.le_of_ble_eq_true rfl) ?_
  refine W.eq (g2 := F0 m 4 ls []) rfl ?_
  refine lv_aload_n (pc := 4) hx hb d_Gr_init_4 rfl (lv_at hl 0 rfl) ?_
  refine lv_iconst (pc := 5) (v := 0) hx hb d_Gr_init_5 (by decide) ?_
  refine k_put (pc := 6) X hK hP hD hS 0 rfl rfl i_Gr t_Gr t_Gr_ok n_Gr 0 (by decide) wm_56 rfl (Or.inl rfl) rfl rfl (Nat.le_of_ble_eq_true rfl) d_Gr_init_6 (fun H locs hP hD hS => ?_)
  have hP : va_P D classes (cat [[(h, .inr (3, [.int 0, .int 0, .int 0, .null, .null, .null, .null, .null, .null, .null, .null, .null, .null, .null, .null, .null, .null, .int 0, .int 0]))]]) H := hP
  have hD : va_D A (cat [[(h, .inr (3, [.int 0, .int 0, .int 0, .null, .null, .null, .null, .null, .null, .null, .null, .null, .null, .null, .null, .null, .null, .int 0, .int 0]))]]) := hD
  refine lv_aload_n (pc := 9) hx hb d_Gr_init_9 rfl (lv_at hl 0 rfl) ?_
  refine lv_iconst (pc := 10) (v := 0) hx hb d_Gr_init_10 (by decide) ?_
  refine k_put (pc := 11) X hK hP hD hS 0 rfl rfl i_Gr t_Gr t_Gr_ok n_Gr 1 (by decide) wm_68 rfl (Or.inl rfl) rfl rfl (Nat.le_of_ble_eq_true rfl) d_Gr_init_11 (fun H locs hP hD hS => ?_)
  have hP : va_P D classes (cat [[(h, .inr (3, [.int 0, .int 0, .int 0, .null, .null, .null, .null, .null, .null, .null, .null, .null, .null, .null, .null, .null, .null, .int 0, .int 0]))]]) H := hP
  have hD : va_D A (cat [[(h, .inr (3, [.int 0, .int 0, .int 0, .null, .null, .null, .null, .null, .null, .null, .null, .null, .null, .null, .null, .null, .null, .int 0, .int 0]))]]) := hD
  refine lv_aload_n (pc := 14) hx hb d_Gr_init_14 rfl (lv_at hl 0 rfl) ?_
  refine lv_iconst (pc := 15) (v := 1) hx hb d_Gr_init_15 (by decide) ?_
  refine k_put (pc := 16) X hK hP hD hS 0 rfl rfl i_Gr t_Gr t_Gr_ok n_Gr 2 (by decide) wm_79 rfl (Or.inl rfl) rfl rfl (Nat.le_of_ble_eq_true rfl) d_Gr_init_16 (fun H locs hP hD hS => ?_)
  have hP : va_P D classes (cat [[(h, .inr (3, [.int 0, .int 0, .int 1, .null, .null, .null, .null, .null, .null, .null, .null, .null, .null, .null, .null, .null, .null, .int 0, .int 0]))]]) H := hP
  have hD : va_D A (cat [[(h, .inr (3, [.int 0, .int 0, .int 1, .null, .null, .null, .null, .null, .null, .null, .null, .null, .null, .null, .null, .null, .null, .int 0, .int 0]))]]) := hD
  refine lv_aload_n (pc := 19) hx hb d_Gr_init_19 rfl (lv_at hl 0 rfl) ?_
  refine lv_sipush (pc := 20) (v := 192) hx hb d_Gr_init_20 (by decide) ?_
  refine k_newa (pc := 23) (atype := .byte) X (ty := .byte) (a0 := (192, .inl (fun _ => 0))) rfl rfl wm_192 hK hP hD hS hA 1 rfl (fun _ => rfl) (by decide) rfl (by decide) (Nat.le_of_ble_eq_true rfl) (Nat.le_of_ble_eq_true rfl) d_Gr_init_23 (fun q1 H hP hD hS => ?_)
  have hP : va_P D classes (cat [[(h, .inr (3, [.int 0, .int 0, .int 1, .null, .null, .null, .null, .null, .null, .null, .null, .null, .null, .null, .null, .null, .null, .int 0, .int 0]))], [(q1, .inl (kA 1, 192, .inl (fun _ => 0)))]]) H := hP
  have hD : va_D A (cat [[(h, .inr (3, [.int 0, .int 0, .int 1, .null, .null, .null, .null, .null, .null, .null, .null, .null, .null, .null, .null, .null, .null, .int 0, .int 0]))], [(q1, .inl (kA 1, 192, .inl (fun _ => 0)))]]) := hD
  refine W.widen (k := 1) (n := 192) (by omega) (by omega) ?_
  refine k_put (pc := 25) X hK hP hD hS 0 rfl rfl i_Gr t_Gr t_Gr_ok n_Gr 3 (by decide) wm_83 rfl (Or.inr ⟨rfl, rfl⟩) rfl rfl (Nat.le_of_ble_eq_true rfl) d_Gr_init_25 (fun H locs hP hD hS => ?_)
  have hP : va_P D classes (cat [[(h, .inr (3, [.int 0, .int 0, .int 1, .ref q1, .null, .null, .null, .null, .null, .null, .null, .null, .null, .null, .null, .null, .null, .int 0, .int 0]))], [(q1, .inl (kA 1, 192, .inl (fun _ => 0)))]]) H := hP
  have hD : va_D A (cat [[(h, .inr (3, [.int 0, .int 0, .int 1, .ref q1, .null, .null, .null, .null, .null, .null, .null, .null, .null, .null, .null, .null, .null, .int 0, .int 0]))], [(q1, .inl (kA 1, 192, .inl (fun _ => 0)))]]) := hD
  refine lv_aload_n (pc := 28) hx hb d_Gr_init_28 rfl (lv_at hl 0 rfl) ?_
  refine lv_bipush (pc := 29) (v := 24) hx hb d_Gr_init_29 (by decide) ?_
  refine k_newa (pc := 31) (atype := .int) X (ty := .int) (a0 := (24, .inl (fun _ => 0))) rfl rfl wm_193 hK hP hD hS hA 0 rfl (fun _ => rfl) (by decide) rfl (by decide) (Nat.le_of_ble_eq_true rfl) (Nat.le_of_ble_eq_true rfl) d_Gr_init_31 (fun q2 H hP hD hS => ?_)
  have hP : va_P D classes (cat [[(h, .inr (3, [.int 0, .int 0, .int 1, .ref q1, .null, .null, .null, .null, .null, .null, .null, .null, .null, .null, .null, .null, .null, .int 0, .int 0]))], [(q1, .inl (kA 1, 192, .inl (fun _ => 0)))], [(q2, .inl (kA 0, 24, .inl (fun _ => 0)))]]) H := hP
  have hD : va_D A (cat [[(h, .inr (3, [.int 0, .int 0, .int 1, .ref q1, .null, .null, .null, .null, .null, .null, .null, .null, .null, .null, .null, .null, .null, .int 0, .int 0]))], [(q1, .inl (kA 1, 192, .inl (fun _ => 0)))], [(q2, .inl (kA 0, 24, .inl (fun _ => 0)))]]) := hD
  refine W.widen (k := 2) (n := 216) (by omega) (by omega) ?_
  refine k_put (pc := 33) X hK hP hD hS 0 rfl rfl i_Gr t_Gr t_Gr_ok n_Gr 4 (by decide) wm_85 rfl (Or.inr ⟨rfl, rfl⟩) rfl rfl (Nat.le_of_ble_eq_true rfl) d_Gr_init_33 (fun H locs hP hD hS => ?_)
  have hP : va_P D classes (cat [[(h, .inr (3, [.int 0, .int 0, .int 1, .ref q1, .ref q2, .null, .null, .null, .null, .null, .null, .null, .null, .null, .null, .null, .null, .int 0, .int 0]))], [(q1, .inl (kA 1, 192, .inl (fun _ => 0)))], [(q2, .inl (kA 0, 24, .inl (fun _ => 0)))]]) H := hP
  have hD : va_D A (cat [[(h, .inr (3, [.int 0, .int 0, .int 1, .ref q1, .ref q2, .null, .null, .null, .null, .null, .null, .null, .null, .null, .null, .null, .null, .int 0, .int 0]))], [(q1, .inl (kA 1, 192, .inl (fun _ => 0)))], [(q2, .inl (kA 0, 24, .inl (fun _ => 0)))]]) := hD
  refine lv_aload_n (pc := 36) hx hb d_Gr_init_36 rfl (lv_at hl 0 rfl) ?_
  refine lv_bipush (pc := 37) (v := 24) hx hb d_Gr_init_37 (by decide) ?_
  refine k_newa (pc := 39) (atype := .int) X (ty := .int) (a0 := (24, .inl (fun _ => 0))) rfl rfl wm_193 hK hP hD hS hA 0 rfl (fun _ => rfl) (by decide) rfl (by decide) (Nat.le_of_ble_eq_true rfl) (Nat.le_of_ble_eq_true rfl) d_Gr_init_39 (fun q3 H hP hD hS => ?_)
  have hP : va_P D classes (cat [[(h, .inr (3, [.int 0, .int 0, .int 1, .ref q1, .ref q2, .null, .null, .null, .null, .null, .null, .null, .null, .null, .null, .null, .null, .int 0, .int 0]))], [(q1, .inl (kA 1, 192, .inl (fun _ => 0)))], [(q2, .inl (kA 0, 24, .inl (fun _ => 0)))], [(q3, .inl (kA 0, 24, .inl (fun _ => 0)))]]) H := hP
  have hD : va_D A (cat [[(h, .inr (3, [.int 0, .int 0, .int 1, .ref q1, .ref q2, .null, .null, .null, .null, .null, .null, .null, .null, .null, .null, .null, .null, .int 0, .int 0]))], [(q1, .inl (kA 1, 192, .inl (fun _ => 0)))], [(q2, .inl (kA 0, 24, .inl (fun _ => 0)))], [(q3, .inl (kA 0, 24, .inl (fun _ => 0)))]]) := hD
  refine W.widen (k := 3) (n := 240) (by omega) (by omega) ?_
  refine k_put (pc := 41) X hK hP hD hS 0 rfl rfl i_Gr t_Gr t_Gr_ok n_Gr 5 (by decide) wm_87 rfl (Or.inr ⟨rfl, rfl⟩) rfl rfl (Nat.le_of_ble_eq_true rfl) d_Gr_init_41 (fun H locs hP hD hS => ?_)
  have hP : va_P D classes (cat [[(h, .inr (3, [.int 0, .int 0, .int 1, .ref q1, .ref q2, .ref q3, .null, .null, .null, .null, .null, .null, .null, .null, .null, .null, .null, .int 0, .int 0]))], [(q1, .inl (kA 1, 192, .inl (fun _ => 0)))], [(q2, .inl (kA 0, 24, .inl (fun _ => 0)))], [(q3, .inl (kA 0, 24, .inl (fun _ => 0)))]]) H := hP
  have hD : va_D A (cat [[(h, .inr (3, [.int 0, .int 0, .int 1, .ref q1, .ref q2, .ref q3, .null, .null, .null, .null, .null, .null, .null, .null, .null, .null, .null, .int 0, .int 0]))], [(q1, .inl (kA 1, 192, .inl (fun _ => 0)))], [(q2, .inl (kA 0, 24, .inl (fun _ => 0)))], [(q3, .inl (kA 0, 24, .inl (fun _ => 0)))]]) := hD
  refine lv_aload_n (pc := 44) hx hb d_Gr_init_44 rfl (lv_at hl 0 rfl) ?_
  refine lv_bipush (pc := 45) (v := 24) hx hb d_Gr_init_45 (by decide) ?_
  refine k_newa (pc := 47) (atype := .int) X (ty := .int) (a0 := (24, .inl (fun _ => 0))) rfl rfl wm_193 hK hP hD hS hA 0 rfl (fun _ => rfl) (by decide) rfl (by decide) (Nat.le_of_ble_eq_true rfl) (Nat.le_of_ble_eq_true rfl) d_Gr_init_47 (fun q4 H hP hD hS => ?_)
  have hP : va_P D classes (cat [[(h, .inr (3, [.int 0, .int 0, .int 1, .ref q1, .ref q2, .ref q3, .null, .null, .null, .null, .null, .null, .null, .null, .null, .null, .null, .int 0, .int 0]))], [(q1, .inl (kA 1, 192, .inl (fun _ => 0)))], [(q2, .inl (kA 0, 24, .inl (fun _ => 0)))], [(q3, .inl (kA 0, 24, .inl (fun _ => 0)))], [(q4, .inl (kA 0, 24, .inl (fun _ => 0)))]]) H := hP
  have hD : va_D A (cat [[(h, .inr (3, [.int 0, .int 0, .int 1, .ref q1, .ref q2, .ref q3, .null, .null, .null, .null, .null, .null, .null, .null, .null, .null, .null, .int 0, .int 0]))], [(q1, .inl (kA 1, 192, .inl (fun _ => 0)))], [(q2, .inl (kA 0, 24, .inl (fun _ => 0)))], [(q3, .inl (kA 0, 24, .inl (fun _ => 0)))], [(q4, .inl (kA 0, 24, .inl (fun _ => 0)))]]) := hD
  refine W.widen (k := 4) (n := 264) (by omega) (by omega) ?_
  refine k_put (pc := 49) X hK hP hD hS 0 rfl rfl i_Gr t_Gr t_Gr_ok n_Gr 6 (by decide) wm_92 rfl (Or.inr ⟨rfl, rfl⟩) rfl rfl (Nat.le_of_ble_eq_true rfl) d_Gr_init_49 (fun H locs hP hD hS => ?_)
  have hP : va_P D classes (cat [[(h, .inr (3, [.int 0, .int 0, .int 1, .ref q1, .ref q2, .ref q3, .ref q4, .null, .null, .null, .null, .null, .null, .null, .null, .null, .null, .int 0, .int 0]))], [(q1, .inl (kA 1, 192, .inl (fun _ => 0)))], [(q2, .inl (kA 0, 24, .inl (fun _ => 0)))], [(q3, .inl (kA 0, 24, .inl (fun _ => 0)))], [(q4, .inl (kA 0, 24, .inl (fun _ => 0)))]]) H := hP
  have hD : va_D A (cat [[(h, .inr (3, [.int 0, .int 0, .int 1, .ref q1, .ref q2, .ref q3, .ref q4, .null, .null, .null, .null, .null, .null, .null, .null, .null, .null, .int 0, .int 0]))], [(q1, .inl (kA 1, 192, .inl (fun _ => 0)))], [(q2, .inl (kA 0, 24, .inl (fun _ => 0)))], [(q3, .inl (kA 0, 24, .inl (fun _ => 0)))], [(q4, .inl (kA 0, 24, .inl (fun _ => 0)))]]) := hD
  refine lv_aload_n (pc := 52) hx hb d_Gr_init_52 rfl (lv_at hl 0 rfl) ?_
  refine lv_bipush (pc := 53) (v := 48) hx hb d_Gr_init_53 (by decide) ?_
  refine k_newa (pc := 55) (atype := .int) X (ty := .int) (a0 := (48, .inl (fun _ => 0))) rfl rfl wm_193 hK hP hD hS hA 0 rfl (fun _ => rfl) (by decide) rfl (by decide) (Nat.le_of_ble_eq_true rfl) (Nat.le_of_ble_eq_true rfl) d_Gr_init_55 (fun q5 H hP hD hS => ?_)
  have hP : va_P D classes (cat [[(h, .inr (3, [.int 0, .int 0, .int 1, .ref q1, .ref q2, .ref q3, .ref q4, .null, .null, .null, .null, .null, .null, .null, .null, .null, .null, .int 0, .int 0]))], [(q1, .inl (kA 1, 192, .inl (fun _ => 0)))], [(q2, .inl (kA 0, 24, .inl (fun _ => 0)))], [(q3, .inl (kA 0, 24, .inl (fun _ => 0)))], [(q4, .inl (kA 0, 24, .inl (fun _ => 0)))], [(q5, .inl (kA 0, 48, .inl (fun _ => 0)))]]) H := hP
  have hD : va_D A (cat [[(h, .inr (3, [.int 0, .int 0, .int 1, .ref q1, .ref q2, .ref q3, .ref q4, .null, .null, .null, .null, .null, .null, .null, .null, .null, .null, .int 0, .int 0]))], [(q1, .inl (kA 1, 192, .inl (fun _ => 0)))], [(q2, .inl (kA 0, 24, .inl (fun _ => 0)))], [(q3, .inl (kA 0, 24, .inl (fun _ => 0)))], [(q4, .inl (kA 0, 24, .inl (fun _ => 0)))], [(q5, .inl (kA 0, 48, .inl (fun _ => 0)))]]) := hD
  refine W.widen (k := 5) (n := 312) (by omega) (by omega) ?_
  refine k_put (pc := 57) X hK hP hD hS 0 rfl rfl i_Gr t_Gr t_Gr_ok n_Gr 7 (by decide) wm_96 rfl (Or.inr ⟨rfl, rfl⟩) rfl rfl (Nat.le_of_ble_eq_true rfl) d_Gr_init_57 (fun H locs hP hD hS => ?_)
  have hP : va_P D classes (cat [[(h, .inr (3, [.int 0, .int 0, .int 1, .ref q1, .ref q2, .ref q3, .ref q4, .ref q5, .null, .null, .null, .null, .null, .null, .null, .null, .null, .int 0, .int 0]))], [(q1, .inl (kA 1, 192, .inl (fun _ => 0)))], [(q2, .inl (kA 0, 24, .inl (fun _ => 0)))], [(q3, .inl (kA 0, 24, .inl (fun _ => 0)))], [(q4, .inl (kA 0, 24, .inl (fun _ => 0)))], [(q5, .inl (kA 0, 48, .inl (fun _ => 0)))]]) H := hP
  have hD : va_D A (cat [[(h, .inr (3, [.int 0, .int 0, .int 1, .ref q1, .ref q2, .ref q3, .ref q4, .ref q5, .null, .null, .null, .null, .null, .null, .null, .null, .null, .int 0, .int 0]))], [(q1, .inl (kA 1, 192, .inl (fun _ => 0)))], [(q2, .inl (kA 0, 24, .inl (fun _ => 0)))], [(q3, .inl (kA 0, 24, .inl (fun _ => 0)))], [(q4, .inl (kA 0, 24, .inl (fun _ => 0)))], [(q5, .inl (kA 0, 48, .inl (fun _ => 0)))]]) := hD
  refine lv_aload_n (pc := 60) hx hb d_Gr_init_60 rfl (lv_at hl 0 rfl) ?_
  refine lv_bipush (pc := 61) (v := 48) hx hb d_Gr_init_61 (by decide) ?_
  refine k_newa (pc := 63) (atype := .int) X (ty := .int) (a0 := (48, .inl (fun _ => 0))) rfl rfl wm_193 hK hP hD hS hA 0 rfl (fun _ => rfl) (by decide) rfl (by decide) (Nat.le_of_ble_eq_true rfl) (Nat.le_of_ble_eq_true rfl) d_Gr_init_63 (fun q6 H hP hD hS => ?_)
  have hP : va_P D classes (cat [[(h, .inr (3, [.int 0, .int 0, .int 1, .ref q1, .ref q2, .ref q3, .ref q4, .ref q5, .null, .null, .null, .null, .null, .null, .null, .null, .null, .int 0, .int 0]))], [(q1, .inl (kA 1, 192, .inl (fun _ => 0)))], [(q2, .inl (kA 0, 24, .inl (fun _ => 0)))], [(q3, .inl (kA 0, 24, .inl (fun _ => 0)))], [(q4, .inl (kA 0, 24, .inl (fun _ => 0)))], [(q5, .inl (kA 0, 48, .inl (fun _ => 0)))], [(q6, .inl (kA 0, 48, .inl (fun _ => 0)))]]) H := hP
  have hD : va_D A (cat [[(h, .inr (3, [.int 0, .int 0, .int 1, .ref q1, .ref q2, .ref q3, .ref q4, .ref q5, .null, .null, .null, .null, .null, .null, .null, .null, .null, .int 0, .int 0]))], [(q1, .inl (kA 1, 192, .inl (fun _ => 0)))], [(q2, .inl (kA 0, 24, .inl (fun _ => 0)))], [(q3, .inl (kA 0, 24, .inl (fun _ => 0)))], [(q4, .inl (kA 0, 24, .inl (fun _ => 0)))], [(q5, .inl (kA 0, 48, .inl (fun _ => 0)))], [(q6, .inl (kA 0, 48, .inl (fun _ => 0)))]]) := hD
  refine W.widen (k := 6) (n := 360) (by omega) (by omega) ?_
  refine k_put (pc := 65) X hK hP hD hS 0 rfl rfl i_Gr t_Gr t_Gr_ok n_Gr 8 (by decide) wm_107 rfl (Or.inr ⟨rfl, rfl⟩) rfl rfl (Nat.le_of_ble_eq_true rfl) d_Gr_init_65 (fun H locs hP hD hS => ?_)
  have hP : va_P D classes (cat [[(h, .inr (3, [.int 0, .int 0, .int 1, .ref q1, .ref q2, .ref q3, .ref q4, .ref q5, .ref q6, .null, .null, .null, .null, .null, .null, .null, .null, .int 0, .int 0]))], [(q1, .inl (kA 1, 192, .inl (fun _ => 0)))], [(q2, .inl (kA 0, 24, .inl (fun _ => 0)))], [(q3, .inl (kA 0, 24, .inl (fun _ => 0)))], [(q4, .inl (kA 0, 24, .inl (fun _ => 0)))], [(q5, .inl (kA 0, 48, .inl (fun _ => 0)))], [(q6, .inl (kA 0, 48, .inl (fun _ => 0)))]]) H := hP
  have hD : va_D A (cat [[(h, .inr (3, [.int 0, .int 0, .int 1, .ref q1, .ref q2, .ref q3, .ref q4, .ref q5, .ref q6, .null, .null, .null, .null, .null, .null, .null, .null, .int 0, .int 0]))], [(q1, .inl (kA 1, 192, .inl (fun _ => 0)))], [(q2, .inl (kA 0, 24, .inl (fun _ => 0)))], [(q3, .inl (kA 0, 24, .inl (fun _ => 0)))], [(q4, .inl (kA 0, 24, .inl (fun _ => 0)))], [(q5, .inl (kA 0, 48, .inl (fun _ => 0)))], [(q6, .inl (kA 0, 48, .inl (fun _ => 0)))]]) := hD
  refine lv_aload_n (pc := 68) hx hb d_Gr_init_68 rfl (lv_at hl 0 rfl) ?_
  refine lv_bipush (pc := 69) (v := 48) hx hb d_Gr_init_69 (by decide) ?_
  refine k_newa (pc := 71) (atype := .int) X (ty := .int) (a0 := (48, .inl (fun _ => 0))) rfl rfl wm_193 hK hP hD hS hA 0 rfl (fun _ => rfl) (by decide) rfl (by decide) (Nat.le_of_ble_eq_true rfl) (Nat.le_of_ble_eq_true rfl) d_Gr_init_71 (fun q7 H hP hD hS => ?_)
  have hP : va_P D classes (cat [[(h, .inr (3, [.int 0, .int 0, .int 1, .ref q1, .ref q2, .ref q3, .ref q4, .ref q5, .ref q6, .null, .null, .null, .null, .null, .null, .null, .null, .int 0, .int 0]))], [(q1, .inl (kA 1, 192, .inl (fun _ => 0)))], [(q2, .inl (kA 0, 24, .inl (fun _ => 0)))], [(q3, .inl (kA 0, 24, .inl (fun _ => 0)))], [(q4, .inl (kA 0, 24, .inl (fun _ => 0)))], [(q5, .inl (kA 0, 48, .inl (fun _ => 0)))], [(q6, .inl (kA 0, 48, .inl (fun _ => 0)))], [(q7, .inl (kA 0, 48, .inl (fun _ => 0)))]]) H := hP
  have hD : va_D A (cat [[(h, .inr (3, [.int 0, .int 0, .int 1, .ref q1, .ref q2, .ref q3, .ref q4, .ref q5, .ref q6, .null, .null, .null, .null, .null, .null, .null, .null, .int 0, .int 0]))], [(q1, .inl (kA 1, 192, .inl (fun _ => 0)))], [(q2, .inl (kA 0, 24, .inl (fun _ => 0)))], [(q3, .inl (kA 0, 24, .inl (fun _ => 0)))], [(q4, .inl (kA 0, 24, .inl (fun _ => 0)))], [(q5, .inl (kA 0, 48, .inl (fun _ => 0)))], [(q6, .inl (kA 0, 48, .inl (fun _ => 0)))], [(q7, .inl (kA 0, 48, .inl (fun _ => 0)))]]) := hD
  refine W.widen (k := 7) (n := 408) (by omega) (by omega) ?_
  refine k_put (pc := 73) X hK hP hD hS 0 rfl rfl i_Gr t_Gr t_Gr_ok n_Gr 9 (by decide) wm_118 rfl (Or.inr ⟨rfl, rfl⟩) rfl rfl (Nat.le_of_ble_eq_true rfl) d_Gr_init_73 (fun H locs hP hD hS => ?_)
  have hP : va_P D classes (cat [[(h, .inr (3, [.int 0, .int 0, .int 1, .ref q1, .ref q2, .ref q3, .ref q4, .ref q5, .ref q6, .ref q7, .null, .null, .null, .null, .null, .null, .null, .int 0, .int 0]))], [(q1, .inl (kA 1, 192, .inl (fun _ => 0)))], [(q2, .inl (kA 0, 24, .inl (fun _ => 0)))], [(q3, .inl (kA 0, 24, .inl (fun _ => 0)))], [(q4, .inl (kA 0, 24, .inl (fun _ => 0)))], [(q5, .inl (kA 0, 48, .inl (fun _ => 0)))], [(q6, .inl (kA 0, 48, .inl (fun _ => 0)))], [(q7, .inl (kA 0, 48, .inl (fun _ => 0)))]]) H := hP
  have hD : va_D A (cat [[(h, .inr (3, [.int 0, .int 0, .int 1, .ref q1, .ref q2, .ref q3, .ref q4, .ref q5, .ref q6, .ref q7, .null, .null, .null, .null, .null, .null, .null, .int 0, .int 0]))], [(q1, .inl (kA 1, 192, .inl (fun _ => 0)))], [(q2, .inl (kA 0, 24, .inl (fun _ => 0)))], [(q3, .inl (kA 0, 24, .inl (fun _ => 0)))], [(q4, .inl (kA 0, 24, .inl (fun _ => 0)))], [(q5, .inl (kA 0, 48, .inl (fun _ => 0)))], [(q6, .inl (kA 0, 48, .inl (fun _ => 0)))], [(q7, .inl (kA 0, 48, .inl (fun _ => 0)))]]) := hD
  refine lv_aload_n (pc := 76) hx hb d_Gr_init_76 rfl (lv_at hl 0 rfl) ?_
  refine lv_bipush (pc := 77) (v := 48) hx hb d_Gr_init_77 (by decide) ?_
  refine k_newa (pc := 79) (atype := .int) X (ty := .int) (a0 := (48, .inl (fun _ => 0))) rfl rfl wm_193 hK hP hD hS hA 0 rfl (fun _ => rfl) (by decide) rfl (by decide) (Nat.le_of_ble_eq_true rfl) (Nat.le_of_ble_eq_true rfl) d_Gr_init_79 (fun q8 H hP hD hS => ?_)
  have hP : va_P D classes (cat [[(h, .inr (3, [.int 0, .int 0, .int 1, .ref q1, .ref q2, .ref q3, .ref q4, .ref q5, .ref q6, .ref q7, .null, .null, .null, .null, .null, .null, .null, .int 0, .int 0]))], [(q1, .inl (kA 1, 192, .inl (fun _ => 0)))], [(q2, .inl (kA 0, 24, .inl (fun _ => 0)))], [(q3, .inl (kA 0, 24, .inl (fun _ => 0)))], [(q4, .inl (kA 0, 24, .inl (fun _ => 0)))], [(q5, .inl (kA 0, 48, .inl (fun _ => 0)))], [(q6, .inl (kA 0, 48, .inl (fun _ => 0)))], [(q7, .inl (kA 0, 48, .inl (fun _ => 0)))], [(q8, .inl (kA 0, 48, .inl (fun _ => 0)))]]) H := hP
  have hD : va_D A (cat [[(h, .inr (3, [.int 0, .int 0, .int 1, .ref q1, .ref q2, .ref q3, .ref q4, .ref q5, .ref q6, .ref q7, .null, .null, .null, .null, .null, .null, .null, .int 0, .int 0]))], [(q1, .inl (kA 1, 192, .inl (fun _ => 0)))], [(q2, .inl (kA 0, 24, .inl (fun _ => 0)))], [(q3, .inl (kA 0, 24, .inl (fun _ => 0)))], [(q4, .inl (kA 0, 24, .inl (fun _ => 0)))], [(q5, .inl (kA 0, 48, .inl (fun _ => 0)))], [(q6, .inl (kA 0, 48, .inl (fun _ => 0)))], [(q7, .inl (kA 0, 48, .inl (fun _ => 0)))], [(q8, .inl (kA 0, 48, .inl (fun _ => 0)))]]) := hD
  refine W.widen (k := 8) (n := 456) (by omega) (by omega) ?_
  refine k_put (pc := 81) X hK hP hD hS 0 rfl rfl i_Gr t_Gr t_Gr_ok n_Gr 10 (by decide) wm_126 rfl (Or.inr ⟨rfl, rfl⟩) rfl rfl (Nat.le_of_ble_eq_true rfl) d_Gr_init_81 (fun H locs hP hD hS => ?_)
  have hP : va_P D classes (cat [[(h, .inr (3, [.int 0, .int 0, .int 1, .ref q1, .ref q2, .ref q3, .ref q4, .ref q5, .ref q6, .ref q7, .ref q8, .null, .null, .null, .null, .null, .null, .int 0, .int 0]))], [(q1, .inl (kA 1, 192, .inl (fun _ => 0)))], [(q2, .inl (kA 0, 24, .inl (fun _ => 0)))], [(q3, .inl (kA 0, 24, .inl (fun _ => 0)))], [(q4, .inl (kA 0, 24, .inl (fun _ => 0)))], [(q5, .inl (kA 0, 48, .inl (fun _ => 0)))], [(q6, .inl (kA 0, 48, .inl (fun _ => 0)))], [(q7, .inl (kA 0, 48, .inl (fun _ => 0)))], [(q8, .inl (kA 0, 48, .inl (fun _ => 0)))]]) H := hP
  have hD : va_D A (cat [[(h, .inr (3, [.int 0, .int 0, .int 1, .ref q1, .ref q2, .ref q3, .ref q4, .ref q5, .ref q6, .ref q7, .ref q8, .null, .null, .null, .null, .null, .null, .int 0, .int 0]))], [(q1, .inl (kA 1, 192, .inl (fun _ => 0)))], [(q2, .inl (kA 0, 24, .inl (fun _ => 0)))], [(q3, .inl (kA 0, 24, .inl (fun _ => 0)))], [(q4, .inl (kA 0, 24, .inl (fun _ => 0)))], [(q5, .inl (kA 0, 48, .inl (fun _ => 0)))], [(q6, .inl (kA 0, 48, .inl (fun _ => 0)))], [(q7, .inl (kA 0, 48, .inl (fun _ => 0)))], [(q8, .inl (kA 0, 48, .inl (fun _ => 0)))]]) := hD
  refine lv_aload_n (pc := 84) hx hb d_Gr_init_84 rfl (lv_at hl 0 rfl) ?_
  refine lv_bipush (pc := 85) (v := 8) hx hb d_Gr_init_85 (by decide) ?_
  refine k_newa (pc := 87) (atype := .int) X (ty := .int) (a0 := (8, .inl (fun _ => 0))) rfl rfl wm_193 hK hP hD hS hA 0 rfl (fun _ => rfl) (by decide) rfl (by decide) (Nat.le_of_ble_eq_true rfl) (Nat.le_of_ble_eq_true rfl) d_Gr_init_87 (fun q9 H hP hD hS => ?_)
  have hP : va_P D classes (cat [[(h, .inr (3, [.int 0, .int 0, .int 1, .ref q1, .ref q2, .ref q3, .ref q4, .ref q5, .ref q6, .ref q7, .ref q8, .null, .null, .null, .null, .null, .null, .int 0, .int 0]))], [(q1, .inl (kA 1, 192, .inl (fun _ => 0)))], [(q2, .inl (kA 0, 24, .inl (fun _ => 0)))], [(q3, .inl (kA 0, 24, .inl (fun _ => 0)))], [(q4, .inl (kA 0, 24, .inl (fun _ => 0)))], [(q5, .inl (kA 0, 48, .inl (fun _ => 0)))], [(q6, .inl (kA 0, 48, .inl (fun _ => 0)))], [(q7, .inl (kA 0, 48, .inl (fun _ => 0)))], [(q8, .inl (kA 0, 48, .inl (fun _ => 0)))], [(q9, .inl (kA 0, 8, .inl (fun _ => 0)))]]) H := hP
  have hD : va_D A (cat [[(h, .inr (3, [.int 0, .int 0, .int 1, .ref q1, .ref q2, .ref q3, .ref q4, .ref q5, .ref q6, .ref q7, .ref q8, .null, .null, .null, .null, .null, .null, .int 0, .int 0]))], [(q1, .inl (kA 1, 192, .inl (fun _ => 0)))], [(q2, .inl (kA 0, 24, .inl (fun _ => 0)))], [(q3, .inl (kA 0, 24, .inl (fun _ => 0)))], [(q4, .inl (kA 0, 24, .inl (fun _ => 0)))], [(q5, .inl (kA 0, 48, .inl (fun _ => 0)))], [(q6, .inl (kA 0, 48, .inl (fun _ => 0)))], [(q7, .inl (kA 0, 48, .inl (fun _ => 0)))], [(q8, .inl (kA 0, 48, .inl (fun _ => 0)))], [(q9, .inl (kA 0, 8, .inl (fun _ => 0)))]]) := hD
  refine W.widen (k := 9) (n := 464) (by omega) (by omega) ?_
  refine k_put (pc := 89) X hK hP hD hS 0 rfl rfl i_Gr t_Gr t_Gr_ok n_Gr 11 (by decide) wm_130 rfl (Or.inr ⟨rfl, rfl⟩) rfl rfl (Nat.le_of_ble_eq_true rfl) d_Gr_init_89 (fun H locs hP hD hS => ?_)
  have hP : va_P D classes (cat [[(h, .inr (3, [.int 0, .int 0, .int 1, .ref q1, .ref q2, .ref q3, .ref q4, .ref q5, .ref q6, .ref q7, .ref q8, .ref q9, .null, .null, .null, .null, .null, .int 0, .int 0]))], [(q1, .inl (kA 1, 192, .inl (fun _ => 0)))], [(q2, .inl (kA 0, 24, .inl (fun _ => 0)))], [(q3, .inl (kA 0, 24, .inl (fun _ => 0)))], [(q4, .inl (kA 0, 24, .inl (fun _ => 0)))], [(q5, .inl (kA 0, 48, .inl (fun _ => 0)))], [(q6, .inl (kA 0, 48, .inl (fun _ => 0)))], [(q7, .inl (kA 0, 48, .inl (fun _ => 0)))], [(q8, .inl (kA 0, 48, .inl (fun _ => 0)))], [(q9, .inl (kA 0, 8, .inl (fun _ => 0)))]]) H := hP
  have hD : va_D A (cat [[(h, .inr (3, [.int 0, .int 0, .int 1, .ref q1, .ref q2, .ref q3, .ref q4, .ref q5, .ref q6, .ref q7, .ref q8, .ref q9, .null, .null, .null, .null, .null, .int 0, .int 0]))], [(q1, .inl (kA 1, 192, .inl (fun _ => 0)))], [(q2, .inl (kA 0, 24, .inl (fun _ => 0)))], [(q3, .inl (kA 0, 24, .inl (fun _ => 0)))], [(q4, .inl (kA 0, 24, .inl (fun _ => 0)))], [(q5, .inl (kA 0, 48, .inl (fun _ => 0)))], [(q6, .inl (kA 0, 48, .inl (fun _ => 0)))], [(q7, .inl (kA 0, 48, .inl (fun _ => 0)))], [(q8, .inl (kA 0, 48, .inl (fun _ => 0)))], [(q9, .inl (kA 0, 8, .inl (fun _ => 0)))]]) := hD
  refine lv_aload_n (pc := 92) hx hb d_Gr_init_92 rfl (lv_at hl 0 rfl) ?_
  refine lv_bipush (pc := 93) (v := 64) hx hb d_Gr_init_93 (by decide) ?_
  refine k_newa (pc := 95) (atype := .byte) X (ty := .byte) (a0 := (64, .inl (fun _ => 0))) rfl rfl wm_192 hK hP hD hS hA 1 rfl (fun _ => rfl) (by decide) rfl (by decide) (Nat.le_of_ble_eq_true rfl) (Nat.le_of_ble_eq_true rfl) d_Gr_init_95 (fun q10 H hP hD hS => ?_)
  have hP : va_P D classes (cat [[(h, .inr (3, [.int 0, .int 0, .int 1, .ref q1, .ref q2, .ref q3, .ref q4, .ref q5, .ref q6, .ref q7, .ref q8, .ref q9, .null, .null, .null, .null, .null, .int 0, .int 0]))], [(q1, .inl (kA 1, 192, .inl (fun _ => 0)))], [(q2, .inl (kA 0, 24, .inl (fun _ => 0)))], [(q3, .inl (kA 0, 24, .inl (fun _ => 0)))], [(q4, .inl (kA 0, 24, .inl (fun _ => 0)))], [(q5, .inl (kA 0, 48, .inl (fun _ => 0)))], [(q6, .inl (kA 0, 48, .inl (fun _ => 0)))], [(q7, .inl (kA 0, 48, .inl (fun _ => 0)))], [(q8, .inl (kA 0, 48, .inl (fun _ => 0)))], [(q9, .inl (kA 0, 8, .inl (fun _ => 0)))], [(q10, .inl (kA 1, 64, .inl (fun _ => 0)))]]) H := hP
  have hD : va_D A (cat [[(h, .inr (3, [.int 0, .int 0, .int 1, .ref q1, .ref q2, .ref q3, .ref q4, .ref q5, .ref q6, .ref q7, .ref q8, .ref q9, .null, .null, .null, .null, .null, .int 0, .int 0]))], [(q1, .inl (kA 1, 192, .inl (fun _ => 0)))], [(q2, .inl (kA 0, 24, .inl (fun _ => 0)))], [(q3, .inl (kA 0, 24, .inl (fun _ => 0)))], [(q4, .inl (kA 0, 24, .inl (fun _ => 0)))], [(q5, .inl (kA 0, 48, .inl (fun _ => 0)))], [(q6, .inl (kA 0, 48, .inl (fun _ => 0)))], [(q7, .inl (kA 0, 48, .inl (fun _ => 0)))], [(q8, .inl (kA 0, 48, .inl (fun _ => 0)))], [(q9, .inl (kA 0, 8, .inl (fun _ => 0)))], [(q10, .inl (kA 1, 64, .inl (fun _ => 0)))]]) := hD
  refine W.widen (k := 10) (n := 528) (by omega) (by omega) ?_
  refine k_put (pc := 97) X hK hP hD hS 0 rfl rfl i_Gr t_Gr t_Gr_ok n_Gr 12 (by decide) wm_134 rfl (Or.inr ⟨rfl, rfl⟩) rfl rfl (Nat.le_of_ble_eq_true rfl) d_Gr_init_97 (fun H locs hP hD hS => ?_)
  have hP : va_P D classes (cat [[(h, .inr (3, [.int 0, .int 0, .int 1, .ref q1, .ref q2, .ref q3, .ref q4, .ref q5, .ref q6, .ref q7, .ref q8, .ref q9, .ref q10, .null, .null, .null, .null, .int 0, .int 0]))], [(q1, .inl (kA 1, 192, .inl (fun _ => 0)))], [(q2, .inl (kA 0, 24, .inl (fun _ => 0)))], [(q3, .inl (kA 0, 24, .inl (fun _ => 0)))], [(q4, .inl (kA 0, 24, .inl (fun _ => 0)))], [(q5, .inl (kA 0, 48, .inl (fun _ => 0)))], [(q6, .inl (kA 0, 48, .inl (fun _ => 0)))], [(q7, .inl (kA 0, 48, .inl (fun _ => 0)))], [(q8, .inl (kA 0, 48, .inl (fun _ => 0)))], [(q9, .inl (kA 0, 8, .inl (fun _ => 0)))], [(q10, .inl (kA 1, 64, .inl (fun _ => 0)))]]) H := hP
  have hD : va_D A (cat [[(h, .inr (3, [.int 0, .int 0, .int 1, .ref q1, .ref q2, .ref q3, .ref q4, .ref q5, .ref q6, .ref q7, .ref q8, .ref q9, .ref q10, .null, .null, .null, .null, .int 0, .int 0]))], [(q1, .inl (kA 1, 192, .inl (fun _ => 0)))], [(q2, .inl (kA 0, 24, .inl (fun _ => 0)))], [(q3, .inl (kA 0, 24, .inl (fun _ => 0)))], [(q4, .inl (kA 0, 24, .inl (fun _ => 0)))], [(q5, .inl (kA 0, 48, .inl (fun _ => 0)))], [(q6, .inl (kA 0, 48, .inl (fun _ => 0)))], [(q7, .inl (kA 0, 48, .inl (fun _ => 0)))], [(q8, .inl (kA 0, 48, .inl (fun _ => 0)))], [(q9, .inl (kA 0, 8, .inl (fun _ => 0)))], [(q10, .inl (kA 1, 64, .inl (fun _ => 0)))]]) := hD
  refine lv_aload_n (pc := 100) hx hb d_Gr_init_100 rfl (lv_at hl 0 rfl) ?_
  refine lv_bipush (pc := 101) (v := 8) hx hb d_Gr_init_101 (by decide) ?_
  refine k_newa (pc := 103) (atype := .int) X (ty := .int) (a0 := (8, .inl (fun _ => 0))) rfl rfl wm_193 hK hP hD hS hA 0 rfl (fun _ => rfl) (by decide) rfl (by decide) (Nat.le_of_ble_eq_true rfl) (Nat.le_of_ble_eq_true rfl) d_Gr_init_103 (fun q11 H hP hD hS => ?_)
  have hP : va_P D classes (cat [[(h, .inr (3, [.int 0, .int 0, .int 1, .ref q1, .ref q2, .ref q3, .ref q4, .ref q5, .ref q6, .ref q7, .ref q8, .ref q9, .ref q10, .null, .null, .null, .null, .int 0, .int 0]))], [(q1, .inl (kA 1, 192, .inl (fun _ => 0)))], [(q2, .inl (kA 0, 24, .inl (fun _ => 0)))], [(q3, .inl (kA 0, 24, .inl (fun _ => 0)))], [(q4, .inl (kA 0, 24, .inl (fun _ => 0)))], [(q5, .inl (kA 0, 48, .inl (fun _ => 0)))], [(q6, .inl (kA 0, 48, .inl (fun _ => 0)))], [(q7, .inl (kA 0, 48, .inl (fun _ => 0)))], [(q8, .inl (kA 0, 48, .inl (fun _ => 0)))], [(q9, .inl (kA 0, 8, .inl (fun _ => 0)))], [(q10, .inl (kA 1, 64, .inl (fun _ => 0)))], [(q11, .inl (kA 0, 8, .inl (fun _ => 0)))]]) H := hP
  have hD : va_D A (cat [[(h, .inr (3, [.int 0, .int 0, .int 1, .ref q1, .ref q2, .ref q3, .ref q4, .ref q5, .ref q6, .ref q7, .ref q8, .ref q9, .ref q10, .null, .null, .null, .null, .int 0, .int 0]))], [(q1, .inl (kA 1, 192, .inl (fun _ => 0)))], [(q2, .inl (kA 0, 24, .inl (fun _ => 0)))], [(q3, .inl (kA 0, 24, .inl (fun _ => 0)))], [(q4, .inl (kA 0, 24, .inl (fun _ => 0)))], [(q5, .inl (kA 0, 48, .inl (fun _ => 0)))], [(q6, .inl (kA 0, 48, .inl (fun _ => 0)))], [(q7, .inl (kA 0, 48, .inl (fun _ => 0)))], [(q8, .inl (kA 0, 48, .inl (fun _ => 0)))], [(q9, .inl (kA 0, 8, .inl (fun _ => 0)))], [(q10, .inl (kA 1, 64, .inl (fun _ => 0)))], [(q11, .inl (kA 0, 8, .inl (fun _ => 0)))]]) := hD
  refine W.widen (k := 11) (n := 536) (by omega) (by omega) ?_
  refine k_put (pc := 105) X hK hP hD hS 0 rfl rfl i_Gr t_Gr t_Gr_ok n_Gr 13 (by decide) wm_137 rfl (Or.inr ⟨rfl, rfl⟩) rfl rfl (Nat.le_of_ble_eq_true rfl) d_Gr_init_105 (fun H locs hP hD hS => ?_)
  have hP : va_P D classes (cat [[(h, .inr (3, [.int 0, .int 0, .int 1, .ref q1, .ref q2, .ref q3, .ref q4, .ref q5, .ref q6, .ref q7, .ref q8, .ref q9, .ref q10, .ref q11, .null, .null, .null, .int 0, .int 0]))], [(q1, .inl (kA 1, 192, .inl (fun _ => 0)))], [(q2, .inl (kA 0, 24, .inl (fun _ => 0)))], [(q3, .inl (kA 0, 24, .inl (fun _ => 0)))], [(q4, .inl (kA 0, 24, .inl (fun _ => 0)))], [(q5, .inl (kA 0, 48, .inl (fun _ => 0)))], [(q6, .inl (kA 0, 48, .inl (fun _ => 0)))], [(q7, .inl (kA 0, 48, .inl (fun _ => 0)))], [(q8, .inl (kA 0, 48, .inl (fun _ => 0)))], [(q9, .inl (kA 0, 8, .inl (fun _ => 0)))], [(q10, .inl (kA 1, 64, .inl (fun _ => 0)))], [(q11, .inl (kA 0, 8, .inl (fun _ => 0)))]]) H := hP
  have hD : va_D A (cat [[(h, .inr (3, [.int 0, .int 0, .int 1, .ref q1, .ref q2, .ref q3, .ref q4, .ref q5, .ref q6, .ref q7, .ref q8, .ref q9, .ref q10, .ref q11, .null, .null, .null, .int 0, .int 0]))], [(q1, .inl (kA 1, 192, .inl (fun _ => 0)))], [(q2, .inl (kA 0, 24, .inl (fun _ => 0)))], [(q3, .inl (kA 0, 24, .inl (fun _ => 0)))], [(q4, .inl (kA 0, 24, .inl (fun _ => 0)))], [(q5, .inl (kA 0, 48, .inl (fun _ => 0)))], [(q6, .inl (kA 0, 48, .inl (fun _ => 0)))], [(q7, .inl (kA 0, 48, .inl (fun _ => 0)))], [(q8, .inl (kA 0, 48, .inl (fun _ => 0)))], [(q9, .inl (kA 0, 8, .inl (fun _ => 0)))], [(q10, .inl (kA 1, 64, .inl (fun _ => 0)))], [(q11, .inl (kA 0, 8, .inl (fun _ => 0)))]]) := hD
  refine lv_aload_n (pc := 108) hx hb d_Gr_init_108 rfl (lv_at hl 0 rfl) ?_
  refine lv_bipush (pc := 109) (v := 24) hx hb d_Gr_init_109 (by decide) ?_
  refine k_newa (pc := 111) (atype := .int) X (ty := .int) (a0 := (24, .inl (fun _ => 0))) rfl rfl wm_193 hK hP hD hS hA 0 rfl (fun _ => rfl) (by decide) rfl (by decide) (Nat.le_of_ble_eq_true rfl) (Nat.le_of_ble_eq_true rfl) d_Gr_init_111 (fun q12 H hP hD hS => ?_)
  have hP : va_P D classes (cat [[(h, .inr (3, [.int 0, .int 0, .int 1, .ref q1, .ref q2, .ref q3, .ref q4, .ref q5, .ref q6, .ref q7, .ref q8, .ref q9, .ref q10, .ref q11, .null, .null, .null, .int 0, .int 0]))], [(q1, .inl (kA 1, 192, .inl (fun _ => 0)))], [(q2, .inl (kA 0, 24, .inl (fun _ => 0)))], [(q3, .inl (kA 0, 24, .inl (fun _ => 0)))], [(q4, .inl (kA 0, 24, .inl (fun _ => 0)))], [(q5, .inl (kA 0, 48, .inl (fun _ => 0)))], [(q6, .inl (kA 0, 48, .inl (fun _ => 0)))], [(q7, .inl (kA 0, 48, .inl (fun _ => 0)))], [(q8, .inl (kA 0, 48, .inl (fun _ => 0)))], [(q9, .inl (kA 0, 8, .inl (fun _ => 0)))], [(q10, .inl (kA 1, 64, .inl (fun _ => 0)))], [(q11, .inl (kA 0, 8, .inl (fun _ => 0)))], [(q12, .inl (kA 0, 24, .inl (fun _ => 0)))]]) H := hP
  have hD : va_D A (cat [[(h, .inr (3, [.int 0, .int 0, .int 1, .ref q1, .ref q2, .ref q3, .ref q4, .ref q5, .ref q6, .ref q7, .ref q8, .ref q9, .ref q10, .ref q11, .null, .null, .null, .int 0, .int 0]))], [(q1, .inl (kA 1, 192, .inl (fun _ => 0)))], [(q2, .inl (kA 0, 24, .inl (fun _ => 0)))], [(q3, .inl (kA 0, 24, .inl (fun _ => 0)))], [(q4, .inl (kA 0, 24, .inl (fun _ => 0)))], [(q5, .inl (kA 0, 48, .inl (fun _ => 0)))], [(q6, .inl (kA 0, 48, .inl (fun _ => 0)))], [(q7, .inl (kA 0, 48, .inl (fun _ => 0)))], [(q8, .inl (kA 0, 48, .inl (fun _ => 0)))], [(q9, .inl (kA 0, 8, .inl (fun _ => 0)))], [(q10, .inl (kA 1, 64, .inl (fun _ => 0)))], [(q11, .inl (kA 0, 8, .inl (fun _ => 0)))], [(q12, .inl (kA 0, 24, .inl (fun _ => 0)))]]) := hD
  refine W.widen (k := 12) (n := 560) (by omega) (by omega) ?_
  refine k_put (pc := 113) X hK hP hD hS 0 rfl rfl i_Gr t_Gr t_Gr_ok n_Gr 14 (by decide) wm_140 rfl (Or.inr ⟨rfl, rfl⟩) rfl rfl (Nat.le_of_ble_eq_true rfl) d_Gr_init_113 (fun H locs hP hD hS => ?_)
  have hP : va_P D classes (cat [[(h, .inr (3, [.int 0, .int 0, .int 1, .ref q1, .ref q2, .ref q3, .ref q4, .ref q5, .ref q6, .ref q7, .ref q8, .ref q9, .ref q10, .ref q11, .ref q12, .null, .null, .int 0, .int 0]))], [(q1, .inl (kA 1, 192, .inl (fun _ => 0)))], [(q2, .inl (kA 0, 24, .inl (fun _ => 0)))], [(q3, .inl (kA 0, 24, .inl (fun _ => 0)))], [(q4, .inl (kA 0, 24, .inl (fun _ => 0)))], [(q5, .inl (kA 0, 48, .inl (fun _ => 0)))], [(q6, .inl (kA 0, 48, .inl (fun _ => 0)))], [(q7, .inl (kA 0, 48, .inl (fun _ => 0)))], [(q8, .inl (kA 0, 48, .inl (fun _ => 0)))], [(q9, .inl (kA 0, 8, .inl (fun _ => 0)))], [(q10, .inl (kA 1, 64, .inl (fun _ => 0)))], [(q11, .inl (kA 0, 8, .inl (fun _ => 0)))], [(q12, .inl (kA 0, 24, .inl (fun _ => 0)))]]) H := hP
  have hD : va_D A (cat [[(h, .inr (3, [.int 0, .int 0, .int 1, .ref q1, .ref q2, .ref q3, .ref q4, .ref q5, .ref q6, .ref q7, .ref q8, .ref q9, .ref q10, .ref q11, .ref q12, .null, .null, .int 0, .int 0]))], [(q1, .inl (kA 1, 192, .inl (fun _ => 0)))], [(q2, .inl (kA 0, 24, .inl (fun _ => 0)))], [(q3, .inl (kA 0, 24, .inl (fun _ => 0)))], [(q4, .inl (kA 0, 24, .inl (fun _ => 0)))], [(q5, .inl (kA 0, 48, .inl (fun _ => 0)))], [(q6, .inl (kA 0, 48, .inl (fun _ => 0)))], [(q7, .inl (kA 0, 48, .inl (fun _ => 0)))], [(q8, .inl (kA 0, 48, .inl (fun _ => 0)))], [(q9, .inl (kA 0, 8, .inl (fun _ => 0)))], [(q10, .inl (kA 1, 64, .inl (fun _ => 0)))], [(q11, .inl (kA 0, 8, .inl (fun _ => 0)))], [(q12, .inl (kA 0, 24, .inl (fun _ => 0)))]]) := hD
  refine lv_aload_n (pc := 116) hx hb d_Gr_init_116 rfl (lv_at hl 0 rfl) ?_
  refine lv_sipush (pc := 117) (v := 576) hx hb d_Gr_init_117 (by decide) ?_
  refine k_newa (pc := 120) (atype := .int) X (ty := .int) (a0 := (576, .inl (fun _ => 0))) rfl rfl wm_193 hK hP hD hS hA 0 rfl (fun _ => rfl) (by decide) rfl (by decide) (Nat.le_of_ble_eq_true rfl) (Nat.le_of_ble_eq_true rfl) d_Gr_init_120 (fun q13 H hP hD hS => ?_)
  have hP : va_P D classes (cat [[(h, .inr (3, [.int 0, .int 0, .int 1, .ref q1, .ref q2, .ref q3, .ref q4, .ref q5, .ref q6, .ref q7, .ref q8, .ref q9, .ref q10, .ref q11, .ref q12, .null, .null, .int 0, .int 0]))], [(q1, .inl (kA 1, 192, .inl (fun _ => 0)))], [(q2, .inl (kA 0, 24, .inl (fun _ => 0)))], [(q3, .inl (kA 0, 24, .inl (fun _ => 0)))], [(q4, .inl (kA 0, 24, .inl (fun _ => 0)))], [(q5, .inl (kA 0, 48, .inl (fun _ => 0)))], [(q6, .inl (kA 0, 48, .inl (fun _ => 0)))], [(q7, .inl (kA 0, 48, .inl (fun _ => 0)))], [(q8, .inl (kA 0, 48, .inl (fun _ => 0)))], [(q9, .inl (kA 0, 8, .inl (fun _ => 0)))], [(q10, .inl (kA 1, 64, .inl (fun _ => 0)))], [(q11, .inl (kA 0, 8, .inl (fun _ => 0)))], [(q12, .inl (kA 0, 24, .inl (fun _ => 0)))], [(q13, .inl (kA 0, 576, .inl (fun _ => 0)))]]) H := hP
  have hD : va_D A (cat [[(h, .inr (3, [.int 0, .int 0, .int 1, .ref q1, .ref q2, .ref q3, .ref q4, .ref q5, .ref q6, .ref q7, .ref q8, .ref q9, .ref q10, .ref q11, .ref q12, .null, .null, .int 0, .int 0]))], [(q1, .inl (kA 1, 192, .inl (fun _ => 0)))], [(q2, .inl (kA 0, 24, .inl (fun _ => 0)))], [(q3, .inl (kA 0, 24, .inl (fun _ => 0)))], [(q4, .inl (kA 0, 24, .inl (fun _ => 0)))], [(q5, .inl (kA 0, 48, .inl (fun _ => 0)))], [(q6, .inl (kA 0, 48, .inl (fun _ => 0)))], [(q7, .inl (kA 0, 48, .inl (fun _ => 0)))], [(q8, .inl (kA 0, 48, .inl (fun _ => 0)))], [(q9, .inl (kA 0, 8, .inl (fun _ => 0)))], [(q10, .inl (kA 1, 64, .inl (fun _ => 0)))], [(q11, .inl (kA 0, 8, .inl (fun _ => 0)))], [(q12, .inl (kA 0, 24, .inl (fun _ => 0)))], [(q13, .inl (kA 0, 576, .inl (fun _ => 0)))]]) := hD
  refine W.widen (k := 13) (n := 1136) (by omega) (by omega) ?_
  refine k_put (pc := 122) X hK hP hD hS 0 rfl rfl i_Gr t_Gr t_Gr_ok n_Gr 15 (by decide) wm_147 rfl (Or.inr ⟨rfl, rfl⟩) rfl rfl (Nat.le_of_ble_eq_true rfl) d_Gr_init_122 (fun H locs hP hD hS => ?_)
  have hP : va_P D classes (cat [[(h, .inr (3, [.int 0, .int 0, .int 1, .ref q1, .ref q2, .ref q3, .ref q4, .ref q5, .ref q6, .ref q7, .ref q8, .ref q9, .ref q10, .ref q11, .ref q12, .ref q13, .null, .int 0, .int 0]))], [(q1, .inl (kA 1, 192, .inl (fun _ => 0)))], [(q2, .inl (kA 0, 24, .inl (fun _ => 0)))], [(q3, .inl (kA 0, 24, .inl (fun _ => 0)))], [(q4, .inl (kA 0, 24, .inl (fun _ => 0)))], [(q5, .inl (kA 0, 48, .inl (fun _ => 0)))], [(q6, .inl (kA 0, 48, .inl (fun _ => 0)))], [(q7, .inl (kA 0, 48, .inl (fun _ => 0)))], [(q8, .inl (kA 0, 48, .inl (fun _ => 0)))], [(q9, .inl (kA 0, 8, .inl (fun _ => 0)))], [(q10, .inl (kA 1, 64, .inl (fun _ => 0)))], [(q11, .inl (kA 0, 8, .inl (fun _ => 0)))], [(q12, .inl (kA 0, 24, .inl (fun _ => 0)))], [(q13, .inl (kA 0, 576, .inl (fun _ => 0)))]]) H := hP
  have hD : va_D A (cat [[(h, .inr (3, [.int 0, .int 0, .int 1, .ref q1, .ref q2, .ref q3, .ref q4, .ref q5, .ref q6, .ref q7, .ref q8, .ref q9, .ref q10, .ref q11, .ref q12, .ref q13, .null, .int 0, .int 0]))], [(q1, .inl (kA 1, 192, .inl (fun _ => 0)))], [(q2, .inl (kA 0, 24, .inl (fun _ => 0)))], [(q3, .inl (kA 0, 24, .inl (fun _ => 0)))], [(q4, .inl (kA 0, 24, .inl (fun _ => 0)))], [(q5, .inl (kA 0, 48, .inl (fun _ => 0)))], [(q6, .inl (kA 0, 48, .inl (fun _ => 0)))], [(q7, .inl (kA 0, 48, .inl (fun _ => 0)))], [(q8, .inl (kA 0, 48, .inl (fun _ => 0)))], [(q9, .inl (kA 0, 8, .inl (fun _ => 0)))], [(q10, .inl (kA 1, 64, .inl (fun _ => 0)))], [(q11, .inl (kA 0, 8, .inl (fun _ => 0)))], [(q12, .inl (kA 0, 24, .inl (fun _ => 0)))], [(q13, .inl (kA 0, 576, .inl (fun _ => 0)))]]) := hD
  refine lv_aload_n (pc := 125) hx hb d_Gr_init_125 rfl (lv_at hl 0 rfl) ?_
  refine lv_null (pc := 126) hx hb d_Gr_init_126 ?_
  refine k_put (pc := 127) X hK hP hD hS 0 rfl rfl i_Gr t_Gr t_Gr_ok n_Gr 16 (by decide) wm_148 rfl (Or.inl rfl) rfl rfl (Nat.le_of_ble_eq_true rfl) d_Gr_init_127 (fun H locs hP hD hS => ?_)
  have hP : va_P D classes (cat [[(h, .inr (3, [.int 0, .int 0, .int 1, .ref q1, .ref q2, .ref q3, .ref q4, .ref q5, .ref q6, .ref q7, .ref q8, .ref q9, .ref q10, .ref q11, .ref q12, .ref q13, .null, .int 0, .int 0]))], [(q1, .inl (kA 1, 192, .inl (fun _ => 0)))], [(q2, .inl (kA 0, 24, .inl (fun _ => 0)))], [(q3, .inl (kA 0, 24, .inl (fun _ => 0)))], [(q4, .inl (kA 0, 24, .inl (fun _ => 0)))], [(q5, .inl (kA 0, 48, .inl (fun _ => 0)))], [(q6, .inl (kA 0, 48, .inl (fun _ => 0)))], [(q7, .inl (kA 0, 48, .inl (fun _ => 0)))], [(q8, .inl (kA 0, 48, .inl (fun _ => 0)))], [(q9, .inl (kA 0, 8, .inl (fun _ => 0)))], [(q10, .inl (kA 1, 64, .inl (fun _ => 0)))], [(q11, .inl (kA 0, 8, .inl (fun _ => 0)))], [(q12, .inl (kA 0, 24, .inl (fun _ => 0)))], [(q13, .inl (kA 0, 576, .inl (fun _ => 0)))]]) H := hP
  have hD : va_D A (cat [[(h, .inr (3, [.int 0, .int 0, .int 1, .ref q1, .ref q2, .ref q3, .ref q4, .ref q5, .ref q6, .ref q7, .ref q8, .ref q9, .ref q10, .ref q11, .ref q12, .ref q13, .null, .int 0, .int 0]))], [(q1, .inl (kA 1, 192, .inl (fun _ => 0)))], [(q2, .inl (kA 0, 24, .inl (fun _ => 0)))], [(q3, .inl (kA 0, 24, .inl (fun _ => 0)))], [(q4, .inl (kA 0, 24, .inl (fun _ => 0)))], [(q5, .inl (kA 0, 48, .inl (fun _ => 0)))], [(q6, .inl (kA 0, 48, .inl (fun _ => 0)))], [(q7, .inl (kA 0, 48, .inl (fun _ => 0)))], [(q8, .inl (kA 0, 48, .inl (fun _ => 0)))], [(q9, .inl (kA 0, 8, .inl (fun _ => 0)))], [(q10, .inl (kA 1, 64, .inl (fun _ => 0)))], [(q11, .inl (kA 0, 8, .inl (fun _ => 0)))], [(q12, .inl (kA 0, 24, .inl (fun _ => 0)))], [(q13, .inl (kA 0, 576, .inl (fun _ => 0)))]]) := hD
  refine lv_aload_n (pc := 130) hx hb d_Gr_init_130 rfl (lv_at hl 0 rfl) ?_
  refine lv_iconst (pc := 131) (v := 0) hx hb d_Gr_init_131 (by decide) ?_
  refine k_put (pc := 132) X hK hP hD hS 0 rfl rfl i_Gr t_Gr t_Gr_ok n_Gr 17 (by decide) wm_149 rfl (Or.inl rfl) rfl rfl (Nat.le_of_ble_eq_true rfl) d_Gr_init_132 (fun H locs hP hD hS => ?_)
  have hP : va_P D classes (cat [[(h, .inr (3, [.int 0, .int 0, .int 1, .ref q1, .ref q2, .ref q3, .ref q4, .ref q5, .ref q6, .ref q7, .ref q8, .ref q9, .ref q10, .ref q11, .ref q12, .ref q13, .null, .int 0, .int 0]))], [(q1, .inl (kA 1, 192, .inl (fun _ => 0)))], [(q2, .inl (kA 0, 24, .inl (fun _ => 0)))], [(q3, .inl (kA 0, 24, .inl (fun _ => 0)))], [(q4, .inl (kA 0, 24, .inl (fun _ => 0)))], [(q5, .inl (kA 0, 48, .inl (fun _ => 0)))], [(q6, .inl (kA 0, 48, .inl (fun _ => 0)))], [(q7, .inl (kA 0, 48, .inl (fun _ => 0)))], [(q8, .inl (kA 0, 48, .inl (fun _ => 0)))], [(q9, .inl (kA 0, 8, .inl (fun _ => 0)))], [(q10, .inl (kA 1, 64, .inl (fun _ => 0)))], [(q11, .inl (kA 0, 8, .inl (fun _ => 0)))], [(q12, .inl (kA 0, 24, .inl (fun _ => 0)))], [(q13, .inl (kA 0, 576, .inl (fun _ => 0)))]]) H := hP
  have hD : va_D A (cat [[(h, .inr (3, [.int 0, .int 0, .int 1, .ref q1, .ref q2, .ref q3, .ref q4, .ref q5, .ref q6, .ref q7, .ref q8, .ref q9, .ref q10, .ref q11, .ref q12, .ref q13, .null, .int 0, .int 0]))], [(q1, .inl (kA 1, 192, .inl (fun _ => 0)))], [(q2, .inl (kA 0, 24, .inl (fun _ => 0)))], [(q3, .inl (kA 0, 24, .inl (fun _ => 0)))], [(q4, .inl (kA 0, 24, .inl (fun _ => 0)))], [(q5, .inl (kA 0, 48, .inl (fun _ => 0)))], [(q6, .inl (kA 0, 48, .inl (fun _ => 0)))], [(q7, .inl (kA 0, 48, .inl (fun _ => 0)))], [(q8, .inl (kA 0, 48, .inl (fun _ => 0)))], [(q9, .inl (kA 0, 8, .inl (fun _ => 0)))], [(q10, .inl (kA 1, 64, .inl (fun _ => 0)))], [(q11, .inl (kA 0, 8, .inl (fun _ => 0)))], [(q12, .inl (kA 0, 24, .inl (fun _ => 0)))], [(q13, .inl (kA 0, 576, .inl (fun _ => 0)))]]) := hD
  refine lv_aload_n (pc := 135) hx hb d_Gr_init_135 rfl (lv_at hl 0 rfl) ?_
  refine lv_iconst (pc := 136) (v := 0) hx hb d_Gr_init_136 (by decide) ?_
  refine k_put (pc := 137) X hK hP hD hS 0 rfl rfl i_Gr t_Gr t_Gr_ok n_Gr 18 (by decide) wm_151 rfl (Or.inl rfl) rfl rfl (Nat.le_of_ble_eq_true rfl) d_Gr_init_137 (fun H locs hP hD hS => ?_)
  have hP : va_P D classes (cat [[(h, .inr (3, [.int 0, .int 0, .int 1, .ref q1, .ref q2, .ref q3, .ref q4, .ref q5, .ref q6, .ref q7, .ref q8, .ref q9, .ref q10, .ref q11, .ref q12, .ref q13, .null, .int 0, .int 0]))], [(q1, .inl (kA 1, 192, .inl (fun _ => 0)))], [(q2, .inl (kA 0, 24, .inl (fun _ => 0)))], [(q3, .inl (kA 0, 24, .inl (fun _ => 0)))], [(q4, .inl (kA 0, 24, .inl (fun _ => 0)))], [(q5, .inl (kA 0, 48, .inl (fun _ => 0)))], [(q6, .inl (kA 0, 48, .inl (fun _ => 0)))], [(q7, .inl (kA 0, 48, .inl (fun _ => 0)))], [(q8, .inl (kA 0, 48, .inl (fun _ => 0)))], [(q9, .inl (kA 0, 8, .inl (fun _ => 0)))], [(q10, .inl (kA 1, 64, .inl (fun _ => 0)))], [(q11, .inl (kA 0, 8, .inl (fun _ => 0)))], [(q12, .inl (kA 0, 24, .inl (fun _ => 0)))], [(q13, .inl (kA 0, 576, .inl (fun _ => 0)))]]) H := hP
  have hD : va_D A (cat [[(h, .inr (3, [.int 0, .int 0, .int 1, .ref q1, .ref q2, .ref q3, .ref q4, .ref q5, .ref q6, .ref q7, .ref q8, .ref q9, .ref q10, .ref q11, .ref q12, .ref q13, .null, .int 0, .int 0]))], [(q1, .inl (kA 1, 192, .inl (fun _ => 0)))], [(q2, .inl (kA 0, 24, .inl (fun _ => 0)))], [(q3, .inl (kA 0, 24, .inl (fun _ => 0)))], [(q4, .inl (kA 0, 24, .inl (fun _ => 0)))], [(q5, .inl (kA 0, 48, .inl (fun _ => 0)))], [(q6, .inl (kA 0, 48, .inl (fun _ => 0)))], [(q7, .inl (kA 0, 48, .inl (fun _ => 0)))], [(q8, .inl (kA 0, 48, .inl (fun _ => 0)))], [(q9, .inl (kA 0, 8, .inl (fun _ => 0)))], [(q10, .inl (kA 1, 64, .inl (fun _ => 0)))], [(q11, .inl (kA 0, 8, .inl (fun _ => 0)))], [(q12, .inl (kA 0, 24, .inl (fun _ => 0)))], [(q13, .inl (kA 0, 576, .inl (fun _ => 0)))]]) := hD
  refine lv_aload_n (pc := 140) hx hb d_Gr_init_140 rfl (lv_at hl 0 rfl) ?_
  refine k_get (pc := 141) X hK hP 0 rfl rfl i_Gr 11 (by decide) wm_130 rfl rfl d_Gr_init_141 ?_
  refine lv_iconst (pc := 144) (v := 0) hx hb d_Gr_init_144 (by decide) ?_
  refine lv_iconst (pc := 145) (v := -1) hx hb d_Gr_init_145 (by decide) ?_
  refine va_iast (pc := 146) hx hb hK hP hD hS 9 0 rfl rfl (by unfold vp_in; decide) d_Gr_init_146 (fun H locs hP hD hS => ?_)
  have hP : va_P D classes (cat [[(h, .inr (3, [.int 0, .int 0, .int 1, .ref q1, .ref q2, .ref q3, .ref q4, .ref q5, .ref q6, .ref q7, .ref q8, .ref q9, .ref q10, .ref q11, .ref q12, .ref q13, .null, .int 0, .int 0]))], [(q1, .inl (kA 1, 192, .inl (fun _ => 0)))], [(q2, .inl (kA 0, 24, .inl (fun _ => 0)))], [(q3, .inl (kA 0, 24, .inl (fun _ => 0)))], [(q4, .inl (kA 0, 24, .inl (fun _ => 0)))], [(q5, .inl (kA 0, 48, .inl (fun _ => 0)))], [(q6, .inl (kA 0, 48, .inl (fun _ => 0)))], [(q7, .inl (kA 0, 48, .inl (fun _ => 0)))], [(q8, .inl (kA 0, 48, .inl (fun _ => 0)))], [(q9, .inl (kA 0, 8, .inl (upd (fun _ => 0) 0 (-1))))], [(q10, .inl (kA 1, 64, .inl (fun _ => 0)))], [(q11, .inl (kA 0, 8, .inl (fun _ => 0)))], [(q12, .inl (kA 0, 24, .inl (fun _ => 0)))], [(q13, .inl (kA 0, 576, .inl (fun _ => 0)))]]) H := hP
  have hD : va_D A (cat [[(h, .inr (3, [.int 0, .int 0, .int 1, .ref q1, .ref q2, .ref q3, .ref q4, .ref q5, .ref q6, .ref q7, .ref q8, .ref q9, .ref q10, .ref q11, .ref q12, .ref q13, .null, .int 0, .int 0]))], [(q1, .inl (kA 1, 192, .inl (fun _ => 0)))], [(q2, .inl (kA 0, 24, .inl (fun _ => 0)))], [(q3, .inl (kA 0, 24, .inl (fun _ => 0)))], [(q4, .inl (kA 0, 24, .inl (fun _ => 0)))], [(q5, .inl (kA 0, 48, .inl (fun _ => 0)))], [(q6, .inl (kA 0, 48, .inl (fun _ => 0)))], [(q7, .inl (kA 0, 48, .inl (fun _ => 0)))], [(q8, .inl (kA 0, 48, .inl (fun _ => 0)))], [(q9, .inl (kA 0, 8, .inl (upd (fun _ => 0) 0 (-1))))], [(q10, .inl (kA 1, 64, .inl (fun _ => 0)))], [(q11, .inl (kA 0, 8, .inl (fun _ => 0)))], [(q12, .inl (kA 0, 24, .inl (fun _ => 0)))], [(q13, .inl (kA 0, 576, .inl (fun _ => 0)))]]) := hD
  refine lv_aload_n (pc := 147) hx hb d_Gr_init_147 rfl (lv_at hl 0 rfl) ?_
  refine k_get (pc := 148) X hK hP 0 rfl rfl i_Gr 15 (by decide) wm_147 rfl rfl d_Gr_init_148 ?_
  refine lv_iconst (pc := 151) (v := -1) hx hb d_Gr_init_151 (by decide) ?_
  refine k_goV (gr := [[(h, .inr (3, [.int 0, .int 0, .int 1, .ref q1, .ref q2, .ref q3, .ref q4, .ref q5, .ref q6, .ref q7, .ref q8, .ref q9, .ref q10, .ref q11, .ref q12, .ref q13, .null, .int 0, .int 0]))], [(q1, .inl (kA 1, 192, .inl (fun _ => 0)))], [(q2, .inl (kA 0, 24, .inl (fun _ => 0)))], [(q3, .inl (kA 0, 24, .inl (fun _ => 0)))], [(q4, .inl (kA 0, 24, .inl (fun _ => 0)))], [(q5, .inl (kA 0, 48, .inl (fun _ => 0)))], [(q6, .inl (kA 0, 48, .inl (fun _ => 0)))], [(q7, .inl (kA 0, 48, .inl (fun _ => 0)))], [(q8, .inl (kA 0, 48, .inl (fun _ => 0)))], [(q9, .inl (kA 0, 8, .inl (upd (fun _ => 0) 0 (-1))))], [(q10, .inl (kA 1, 64, .inl (fun _ => 0)))], [(q11, .inl (kA 0, 8, .inl (fun _ => 0)))], [(q12, .inl (kA 0, 24, .inl (fun _ => 0)))]]) (k_rS (pc := 152) (As := [.ref q13, .int ((-1))]) (rest := []) X (c_fillI l D (TY kA) 0 (kA 0) rfl q13 576 (by decide) (fun _ => 0) (-1) H.size) rfl wm_55 wm_4 wm_53 wm_54 2 (by decide +kernel) ⟨Nat.le_of_ble_eq_true rfl, Nat.le_of_ble_eq_true rfl⟩ rfl rfl (k_pre hN hK hP hD [13] [0, 1, 2, 3, 4, 5, 6, 7, 8, 9, 10, 11, 12] 14 rfl (by decide) rfl) rfl hl.1 rfl (Nat.le_of_ble_eq_true rfl) d_Gr_init_152 ⟨Nat.le_of_ble_eq_true rfl, Nat.le_of_ble_eq_true rfl⟩) hP hD hS hA [13] [0, 1, 2, 3, 4, 5, 6, 7, 8, 9, 10, 11, 12] 14 rfl (by decide) rfl rfl (fun u14 H locs hu14 hP hD hS => ?_)
  have hP : va_P D classes (cat [[(h, .inr (3, [.int 0, .int 0, .int 1, .ref q1, .ref q2, .ref q3, .ref q4, .ref q5, .ref q6, .ref q7, .ref q8, .ref q9, .ref q10, .ref q11, .ref q12, .ref q13, .null, .int 0, .int 0]))], [(q1, .inl (kA 1, 192, .inl (fun _ => 0)))], [(q2, .inl (kA 0, 24, .inl (fun _ => 0)))], [(q3, .inl (kA 0, 24, .inl (fun _ => 0)))], [(q4, .inl (kA 0, 24, .inl (fun _ => 0)))], [(q5, .inl (kA 0, 48, .inl (fun _ => 0)))], [(q6, .inl (kA 0, 48, .inl (fun _ => 0)))], [(q7, .inl (kA 0, 48, .inl (fun _ => 0)))], [(q8, .inl (kA 0, 48, .inl (fun _ => 0)))], [(q9, .inl (kA 0, 8, .inl (upd (fun _ => 0) 0 (-1))))], [(q10, .inl (kA 1, 64, .inl (fun _ => 0)))], [(q11, .inl (kA 0, 8, .inl (fun _ => 0)))], [(q12, .inl (kA 0, 24, .inl (fun _ => 0)))], [(q13, .inl (kA 0, 576, .inl (fl (fun _ => 0) 576 (-1))))]]) H := hP
  have hD : va_D A (cat [[(h, .inr (3, [.int 0, .int 0, .int 1, .ref q1, .ref q2, .ref q3, .ref q4, .ref q5, .ref q6, .ref q7, .ref q8, .ref q9, .ref q10, .ref q11, .ref q12, .ref q13, .null, .int 0, .int 0]))], [(q1, .inl (kA 1, 192, .inl (fun _ => 0)))], [(q2, .inl (kA 0, 24, .inl (fun _ => 0)))], [(q3, .inl (kA 0, 24, .inl (fun _ => 0)))], [(q4, .inl (kA 0, 24, .inl (fun _ => 0)))], [(q5, .inl (kA 0, 48, .inl (fun _ => 0)))], [(q6, .inl (kA 0, 48, .inl (fun _ => 0)))], [(q7, .inl (kA 0, 48, .inl (fun _ => 0)))], [(q8, .inl (kA 0, 48, .inl (fun _ => 0)))], [(q9, .inl (kA 0, 8, .inl (upd (fun _ => 0) 0 (-1))))], [(q10, .inl (kA 1, 64, .inl (fun _ => 0)))], [(q11, .inl (kA 0, 8, .inl (fun _ => 0)))], [(q12, .inl (kA 0, 24, .inl (fun _ => 0)))], [(q13, .inl (kA 0, 576, .inl (fl (fun _ => 0) 576 (-1))))]]) := hD
  obtain ⟨hP, hD⟩ := k_ord (gc := [[(h, .inr (3, [.int 0, .int 0, .int 1, .ref q1, .ref q2, .ref q3, .ref q4, .ref q5, .ref q6, .ref q7, .ref q8, .ref q9, .ref q10, .ref q11, .ref q12, .ref q13, .null, .int 0, .int 0]))], [(q1, .inl (kA 1, 192, .inl (fun _ => 0)))], [(q2, .inl (kA 0, 24, .inl (fun _ => 0)))], [(q3, .inl (kA 0, 24, .inl (fun _ => 0)))], [(q4, .inl (kA 0, 24, .inl (fun _ => 0)))], [(q5, .inl (kA 0, 48, .inl (fun _ => 0)))], [(q6, .inl (kA 0, 48, .inl (fun _ => 0)))], [(q7, .inl (kA 0, 48, .inl (fun _ => 0)))], [(q8, .inl (kA 0, 48, .inl (fun _ => 0)))], [(q9, .inl (kA 0, 8, .inl (upd (fun _ => 0) 0 (-1))))], [(q10, .inl (kA 1, 64, .inl (fun _ => 0)))], [(q11, .inl (kA 0, 8, .inl (fun _ => 0)))], [(q12, .inl (kA 0, 24, .inl (fun _ => 0)))], [(q13, .inl (kA 0, 576, .inl (fl (fun _ => 0) 576 (-1))))]]) hP hD [0, 1, 2, 3, 4, 5, 6, 7, 8, 9, 10, 11, 12, 13] 14 rfl (by decide) rfl
  refine W.widen (k := 13) (n := 1136) (Nat.le_of_ble_eq_true rfl) (Nat.le_of_ble_eq_true rfl) ?_
  exact W.vret hx hb hr (fun t ht hW => ⟨⟨(fun k => match k with | 3 => q1 | 4 => q2 | 5 => q3 | 6 => q4 | 7 => q5 | 8 => q6 | 9 => q7 | 10 => q8 | 11 => q9 | 12 => q10 | 13 => q11 | 14 => q12 | 15 => q13 | _ => 0), rfl, trivial, by rw [ht]; exact hP, va_K.moved hW.alike hK, hD⟩, hS.F ht⟩) hS.2.2 d_Gr_init_155
end
section
theorem wm_392 : (Cond.code ({ cls := "DrawingHouse$Facts", name := "<init>", desc := "()V" } : MethodName) prog_4_method_1_code (1 : Nat) (Option.none : Option ClassFile.FieldType) : Cond) ∈ lw_g := lw_gi (lw_c2 (List.mem_of_getElem? (i := 152) rfl)) rfl
theorem wm_393 : (Cond.methodLink "DrawingHouse$Facts" (3 : Nat) ({ cls := "java/lang/Object", name := "<init>", desc := "()V" } : MethodName) : Cond) ∈ lw_g := lw_gi (lw_c2 (List.mem_of_getElem? (i := 153) rfl)) rfl
abbrev b_Fa_init : ByteArray := prog_4_method_1_code
def y_Fa_init : MethodName := ⟨"DrawingHouse$Facts", "<init>", "()V"⟩
abbrev z_Fa_init : List Cond := Cond.code y_Fa_init b_Fa_init 1 none :: lw_g
theorem d_Fa_init_0 : decode b_Fa_init 0 = .ok (.aload_n 0, 1) := by decide +kernel
theorem d_Fa_init_1 : decode b_Fa_init 1 = .ok (.invokespecial 3, 3) := by decide +kernel
theorem d_Fa_init_4 : decode b_Fa_init 4 = .ok (.aload_n 0, 1) := by decide +kernel
theorem d_Fa_init_5 : decode b_Fa_init 5 = .ok (.iconst 0, 1) := by decide +kernel
theorem d_Fa_init_6 : decode b_Fa_init 6 = .ok (.putfield 9, 3) := by decide +kernel
theorem d_Fa_init_9 : decode b_Fa_init 9 = .ok (.aload_n 0, 1) := by decide +kernel
theorem d_Fa_init_10 : decode b_Fa_init 10 = .ok (.iconst 0, 1) := by decide +kernel
theorem d_Fa_init_11 : decode b_Fa_init 11 = .ok (.putfield 15, 3) := by decide +kernel
theorem d_Fa_init_14 : decode b_Fa_init 14 = .ok (.aload_n 0, 1) := by decide +kernel
theorem d_Fa_init_15 : decode b_Fa_init 15 = .ok (.iconst 0, 1) := by decide +kernel
theorem d_Fa_init_16 : decode b_Fa_init 16 = .ok (.putfield 19, 3) := by decide +kernel
theorem d_Fa_init_19 : decode b_Fa_init 19 = .ok (.aload_n 0, 1) := by decide +kernel
theorem d_Fa_init_20 : decode b_Fa_init 20 = .ok (.iconst 0, 1) := by decide +kernel
theorem d_Fa_init_21 : decode b_Fa_init 21 = .ok (.putfield 22, 3) := by decide +kernel
theorem d_Fa_init_24 : decode b_Fa_init 24 = .ok (.aload_n 0, 1) := by decide +kernel
theorem d_Fa_init_25 : decode b_Fa_init 25 = .ok (.bipush 24, 2) := by decide +kernel
theorem d_Fa_init_27 : decode b_Fa_init 27 = .ok (.newarray .int, 2) := by decide +kernel
theorem d_Fa_init_29 : decode b_Fa_init 29 = .ok (.putfield 25, 3) := by decide +kernel
theorem d_Fa_init_32 : decode b_Fa_init 32 = .ok (.aload_n 0, 1) := by decide +kernel
theorem d_Fa_init_33 : decode b_Fa_init 33 = .ok (.bipush 48, 2) := by decide +kernel
theorem d_Fa_init_35 : decode b_Fa_init 35 = .ok (.newarray .int, 2) := by decide +kernel
theorem d_Fa_init_37 : decode b_Fa_init 37 = .ok (.putfield 29, 3) := by decide +kernel
theorem d_Fa_init_40 : decode b_Fa_init 40 = .ok (.aload_n 0, 1) := by decide +kernel
theorem d_Fa_init_41 : decode b_Fa_init 41 = .ok (.bipush 24, 2) := by decide +kernel
theorem d_Fa_init_43 : decode b_Fa_init 43 = .ok (.newarray .int, 2) := by decide +kernel
theorem d_Fa_init_45 : decode b_Fa_init 45 = .ok (.putfield 32, 3) := by decide +kernel
theorem d_Fa_init_48 : decode b_Fa_init 48 = .ok (.aload_n 0, 1) := by decide +kernel
theorem d_Fa_init_49 : decode b_Fa_init 49 = .ok (.bipush 24, 2) := by decide +kernel
theorem d_Fa_init_51 : decode b_Fa_init 51 = .ok (.newarray .int, 2) := by decide +kernel
theorem d_Fa_init_53 : decode b_Fa_init 53 = .ok (.putfield 35, 3) := by decide +kernel
theorem d_Fa_init_56 : decode b_Fa_init 56 = .ok (.aload_n 0, 1) := by decide +kernel
theorem d_Fa_init_57 : decode b_Fa_init 57 = .ok (.bipush 24, 2) := by decide +kernel
theorem d_Fa_init_59 : decode b_Fa_init 59 = .ok (.newarray .int, 2) := by decide +kernel
theorem d_Fa_init_61 : decode b_Fa_init 61 = .ok (.putfield 38, 3) := by decide +kernel
theorem d_Fa_init_64 : decode b_Fa_init 64 = .ok (.aload_n 0, 1) := by decide +kernel
theorem d_Fa_init_65 : decode b_Fa_init 65 = .ok (.bipush 48, 2) := by decide +kernel
theorem d_Fa_init_67 : decode b_Fa_init 67 = .ok (.newarray .boolean, 2) := by decide +kernel
theorem d_Fa_init_69 : decode b_Fa_init 69 = .ok (.putfield 41, 3) := by decide +kernel
theorem d_Fa_init_72 : decode b_Fa_init 72 = .ok (.aload_n 0, 1) := by decide +kernel
theorem d_Fa_init_73 : decode b_Fa_init 73 = .ok (.bipush 24, 2) := by decide +kernel
theorem d_Fa_init_75 : decode b_Fa_init 75 = .ok (.newarray .int, 2) := by decide +kernel
theorem d_Fa_init_77 : decode b_Fa_init 77 = .ok (.putfield 45, 3) := by decide +kernel
theorem d_Fa_init_80 : decode b_Fa_init 80 = .ok (.aload_n 0, 1) := by decide +kernel
theorem d_Fa_init_81 : decode b_Fa_init 81 = .ok (.bipush 24, 2) := by decide +kernel
theorem d_Fa_init_83 : decode b_Fa_init 83 = .ok (.newarray .int, 2) := by decide +kernel
theorem d_Fa_init_85 : decode b_Fa_init 85 = .ok (.putfield 48, 3) := by decide +kernel
theorem d_Fa_init_88 : decode b_Fa_init 88 = .ok (.aload_n 0, 1) := by decide +kernel
theorem d_Fa_init_89 : decode b_Fa_init 89 = .ok (.bipush 24, 2) := by decide +kernel
theorem d_Fa_init_91 : decode b_Fa_init 91 = .ok (.newarray .int, 2) := by decide +kernel
theorem d_Fa_init_93 : decode b_Fa_init 93 = .ok (.putfield 51, 3) := by decide +kernel
theorem d_Fa_init_96 : decode b_Fa_init 96 = .ok (.aload_n 0, 1) := by decide +kernel
theorem d_Fa_init_97 : decode b_Fa_init 97 = .ok (.bipush 24, 2) := by decide +kernel
theorem d_Fa_init_99 : decode b_Fa_init 99 = .ok (.newarray .int, 2) := by decide +kernel
theorem d_Fa_init_101 : decode b_Fa_init 101 = .ok (.putfield 54, 3) := by decide +kernel
theorem d_Fa_init_104 : decode b_Fa_init 104 = .ok (.aload_n 0, 1) := by decide +kernel
theorem d_Fa_init_105 : decode b_Fa_init 105 = .ok (.sipush 128, 3) := by decide +kernel
theorem d_Fa_init_108 : decode b_Fa_init 108 = .ok (.newarray .int, 2) := by decide +kernel
theorem d_Fa_init_110 : decode b_Fa_init 110 = .ok (.putfield 57, 3) := by decide +kernel
theorem d_Fa_init_113 : decode b_Fa_init 113 = .ok (.return_, 1) := by decide +kernel
abbrev f0Fa : List Value := [.int 0, .int 0, .int 0, .int 0, .null, .null, .null, .null, .null, .null, .null, .null, .null, .null, .null]
set_option maxRecDepth 20000 in
theorem f0Fa_ok : ∀ j, j < 15 → defaultValue (t_Fa j) = vp_V f0Fa j := by decide +kernel
def wFa (kA : Nat → ClassId) (h : Nat) (q : Nat → Nat) (x : Nat → Int32) (a : Nat → Nat → Int32) : va_W := [(h, .inr (2, [.int (x 0), .int (x 1), .int (x 2), .int (x 3), .ref (q 4), .ref (q 5), .ref (q 6), .ref (q 7), .ref (q 8), .ref (q 9), .ref (q 10), .ref (q 11), .ref (q 12), .ref (q 13), .ref (q 14)])), (q 4, .inl (kA 0, 24, .inl (a 4))), (q 5, .inl (kA 0, 48, .inl (a 5))), (q 6, .inl (kA 0, 24, .inl (a 6))), (q 7, .inl (kA 0, 24, .inl (a 7))), (q 8, .inl (kA 0, 24, .inl (a 8))), (q 9, .inl (kA 2, 48, .inl (a 9))), (q 10, .inl (kA 0, 24, .inl (a 10))), (q 11, .inl (kA 0, 24, .inl (a 11))), (q 12, .inl (kA 0, 24, .inl (a 12))), (q 13, .inl (kA 0, 24, .inl (a 13))), (q 14, .inl (kA 0, 128, .inl (a 14)))]
def x0Fa : Nat → Int32 := fun _ => 0
def a0Fa : Nat → Nat → Int32 := fun _ => fun _ => 0
set_option maxRecDepth 100000 in
set_option maxHeartbeats 4000000 in
/-- DrawingHouse$Facts()V -/
theorem c_Fa_init (l : Launch) (D : va_G) (kA : Nat → ClassId) (h : Nat) : Cv l y_Fa_init z_Fa_init { frames := 1, cells := 11, slots := 416, locals := 12 } D classes (TY kA) [.ref h] [[(h, .inr (2, f0Fa))]] (fun u : (Nat → Nat) => True) (fun u => [wFa kA h u x0Fa a0Fa]) 11 416 := by
  intro sz
  refine k_met (cc := b_Fa_init) (maxL := 1) (ret := none) (by decide) rfl (Nat.le_of_ble_eq_true rfl) (fun p e s m below meth c ls X hl hB => ?_)
  obtain ⟨hsz, hP, hK, hD0, hN⟩ := hB
  subst hsz
  have hD := hD0.self (sz := s.heap.size)
  generalize hAe : va_A (cat [[(h, .inr (2, [.int 0, .int 0, .int 0, .int 0, .null, .null, .null, .null, .null, .null, .null, .null, .null, .null, .null]))]]) s.heap.size = A at hD ⊢
  have hA : ∀ q : Nat, s.heap.size ≤ q → A q := fun q h => by rw [← hAe]; exact Or.inr h
  have hS : va_S A s.heap s.heap [] := va_S.rf
  obtain ⟨hx, hb, hml, hown, hts, hr, hlk, hnm⟩ := id X
  have hl : lv_has ls 1 [(0, .ref h)] := hl
  have hP : va_P D classes (cat [[(h, .inr (2, [.int 0, .int 0, .int 0, .int 0, .null, .null, .null, .null, .null, .null, .null, .null, .null, .null, .null]))]]) s.heap := hP
  have hK : va_K D classes (TY kA) s := hK
  refine lv_aload_n (pc := 0) hx hb d_Fa_init_0 rfl (lv_at hl 0 rfl) ?_
  refine W.objInit hx hb hown (hts _ wm_393) (hts _ wm_31) (hts _ wm_32) rfl (by rw [hml]; exact hl.1) rfl d_Fa_init_1 (Nat.le_of_ble_eq_true rfl) (Nat.le_of_ble_eq_true rfl) ?_
  refine W.eq (g2 := F0 m 4 ls []) rfl ?_
  refine lv_aload_n (pc := 4) hx hb d_Fa_init_4 rfl (lv_at hl 0 rfl) ?_
  refine lv_iconst (pc := 5) (v := 0) hx hb d_Fa_init_5 (by decide) ?_
  refine k_put (pc := 6) X hK hP hD hS 0 rfl rfl i_Fa t_Fa t_Fa_ok n_Fa 0 (by decide) wm_394 rfl (Or.inl rfl) rfl rfl (Nat.le_of_ble_eq_true rfl) d_Fa_init_6 (fun H locs hP hD hS => ?_)
  have hP : va_P D classes (cat [[(h, .inr (2, [.int 0, .int 0, .int 0, .int 0, .null, .null, .null, .null, .null, .null, .null, .null, .null, .null, .null]))]]) H := hP
  have hD : va_D A (cat [[(h, .inr (2, [.int 0, .int 0, .int 0, .int 0, .null, .null, .null, .null, .null, .null, .null, .null, .null, .null, .null]))]]) := hD
  refine lv_aload_n (pc := 9) hx hb d_Fa_init_9 rfl (lv_at hl 0 rfl) ?_
  refine lv_iconst (pc := 10) (v := 0) hx hb d_Fa_init_10 (by decide) ?_
  refine k_put (pc := 11) X hK hP hD hS 0 rfl rfl i_Fa t_Fa t_Fa_ok n_Fa 1 (by decide) wm_396 rfl (Or.inl rfl) rfl rfl (Nat.le_of_ble_eq_true rfl) d_Fa_init_11 (fun H locs hP hD hS => ?_)
  have hP : va_P D classes (cat [[(h, .inr (2, [.int 0, .int 0, .int 0, .int 0, .null, .null, .null, .null, .null, .null, .null, .null, .null, .null, .null]))]]) H := hP
  have hD : va_D A (cat [[(h, .inr (2, [.int 0, .int 0, .int 0, .int 0, .null, .null, .null, .null, .null, .null, .null, .null, .null, .null, .null]))]]) := hD
  refine lv_aload_n (pc := 14) hx hb d_Fa_init_14 rfl (lv_at hl 0 rfl) ?_
  refine lv_iconst (pc := 15) (v := 0) hx hb d_Fa_init_15 (by decide) ?_
  refine k_put (pc := 16) X hK hP hD hS 0 rfl rfl i_Fa t_Fa t_Fa_ok n_Fa 2 (by decide) wm_400 rfl (Or.inl rfl) rfl rfl (Nat.le_of_ble_eq_true rfl) d_Fa_init_16 (fun H locs hP hD hS => ?_)
  have hP : va_P D classes (cat [[(h, .inr (2, [.int 0, .int 0, .int 0, .int 0, .null, .null, .null, .null, .null, .null, .null, .null, .null, .null, .null]))]]) H := hP
  have hD : va_D A (cat [[(h, .inr (2, [.int 0, .int 0, .int 0, .int 0, .null, .null, .null, .null, .null, .null, .null, .null, .null, .null, .null]))]]) := hD
  refine lv_aload_n (pc := 19) hx hb d_Fa_init_19 rfl (lv_at hl 0 rfl) ?_
  refine lv_iconst (pc := 20) (v := 0) hx hb d_Fa_init_20 (by decide) ?_
  refine k_put (pc := 21) X hK hP hD hS 0 rfl rfl i_Fa t_Fa t_Fa_ok n_Fa 3 (by decide) wm_403 rfl (Or.inl rfl) rfl rfl (Nat.le_of_ble_eq_true rfl) d_Fa_init_21 (fun H locs hP hD hS => ?_)
  have hP : va_P D classes (cat [[(h, .inr (2, [.int 0, .int 0, .int 0, .int 0, .null, .null, .null, .null, .null, .null, .null, .null, .null, .null, .null]))]]) H := hP
  have hD : va_D A (cat [[(h, .inr (2, [.int 0, .int 0, .int 0, .int 0, .null, .null, .null, .null, .null, .null, .null, .null, .null, .null, .null]))]]) := hD
  refine lv_aload_n (pc := 24) hx hb d_Fa_init_24 rfl (lv_at hl 0 rfl) ?_
  refine lv_bipush (pc := 25) (v := 24) hx hb d_Fa_init_25 (by decide) ?_
  refine k_newa (pc := 27) (atype := .int) X (ty := .int) (a0 := (24, .inl (fun _ => 0))) rfl rfl wm_193 hK hP hD hS hA 0 rfl (fun _ => rfl) (by decide) rfl (by decide) (Nat.le_of_ble_eq_true rfl) (Nat.le_of_ble_eq_true rfl) d_Fa_init_27 (fun q1 H hP hD hS => ?_)
  have hP : va_P D classes (cat [[(h, .inr (2, [.int 0, .int 0, .int 0, .int 0, .null, .null, .null, .null, .null, .null, .null, .null, .null, .null, .null]))], [(q1, .inl (kA 0, 24, .inl (fun _ => 0)))]]) H := hP
  have hD : va_D A (cat [[(h, .inr (2, [.int 0, .int 0, .int 0, .int 0, .null, .null, .null, .null, .null, .null, .null, .null, .null, .null, .null]))], [(q1, .inl (kA 0, 24, .inl (fun _ => 0)))]]) := hD
  refine W.widen (k := 1) (n := 24) (by omega) (by omega) ?_
  refine k_put (pc := 29) X hK hP hD hS 0 rfl rfl i_Fa t_Fa t_Fa_ok n_Fa 4 (by decide) wm_405 rfl (Or.inr ⟨rfl, rfl⟩) rfl rfl (Nat.le_of_ble_eq_true rfl) d_Fa_init_29 (fun H locs hP hD hS => ?_)
  have hP : va_P D classes (cat [[(h, .inr (2, [.int 0, .int 0, .int 0, .int 0, .ref q1, .null, .null, .null, .null, .null, .null, .null, .null, .null, .null]))], [(q1, .inl (kA 0, 24, .inl (fun _ => 0)))]]) H := hP
  have hD : va_D A (cat [[(h, .inr (2, [.int 0, .int 0, .int 0, .int 0, .ref q1, .null, .null, .null, .null, .null, .null, .null, .null, .null, .null]))], [(q1, .inl (kA 0, 24, .inl (fun _ => 0)))]]) := hD
  refine lv_aload_n (pc := 32) hx hb d_Fa_init_32 rfl (lv_at hl 0 rfl) ?_
  refine lv_bipush (pc := 33) (v := 48) hx hb d_Fa_init_33 (by decide) ?_
  refine k_newa (pc := 35) (atype := .int) X (ty := .int) (a0 := (48, .inl (fun _ => 0))) rfl rfl wm_193 hK hP hD hS hA 0 rfl (fun _ => rfl) (by decide) rfl (by decide) (Nat.le_of_ble_eq_true rfl) (Nat.le_of_ble_eq_true rfl) d_Fa_init_35 (fun q2 H hP hD hS => ?_)
  have hP : va_P D classes (cat [[(h, .inr (2, [.int 0, .int 0, .int 0, .int 0, .ref q1, .null, .null, .null, .null, .null, .null, .null, .null, .null, .null]))], [(q1, .inl (kA 0, 24, .inl (fun _ => 0)))], [(q2, .inl (kA 0, 48, .inl (fun _ => 0)))]]) H := hP
  have hD : va_D A (cat [[(h, .inr (2, [.int 0, .int 0, .int 0, .int 0, .ref q1, .null, .null, .null, .null, .null, .null, .null, .null, .null, .null]))], [(q1, .inl (kA 0, 24, .inl (fun _ => 0)))], [(q2, .inl (kA 0, 48, .inl (fun _ => 0)))]]) := hD
  refine W.widen (k := 2) (n := 72) (by omega) (by omega) ?_
  refine k_put (pc := 37) X hK hP hD hS 0 rfl rfl i_Fa t_Fa t_Fa_ok n_Fa 5 (by decide) wm_409 rfl (Or.inr ⟨rfl, rfl⟩) rfl rfl (Nat.le_of_ble_eq_true rfl) d_Fa_init_37 (fun H locs hP hD hS => ?_)
  have hP : va_P D classes (cat [[(h, .inr (2, [.int 0, .int 0, .int 0, .int 0, .ref q1, .ref q2, .null, .null, .null, .null, .null, .null, .null, .null, .null]))], [(q1, .inl (kA 0, 24, .inl (fun _ => 0)))], [(q2, .inl (kA 0, 48, .inl (fun _ => 0)))]]) H := hP
  have hD : va_D A (cat [[(h, .inr (2, [.int 0, .int 0, .int 0, .int 0, .ref q1, .ref q2, .null, .null, .null, .null, .null, .null, .null, .null, .null]))], [(q1, .inl (kA 0, 24, .inl (fun _ => 0)))], [(q2, .inl (kA 0, 48, .inl (fun _ => 0)))]]) := hD
  refine lv_aload_n (pc := 40) hx hb d_Fa_init_40 rfl (lv_at hl 0 rfl) ?_
  refine lv_bipush (pc := 41) (v := 24) hx hb d_Fa_init_41 (by decide) ?_
  refine k_newa (pc := 43) (atype := .int) X (ty := .int) (a0 := (24, .inl (fun _ => 0))) rfl rfl wm_193 hK hP hD hS hA 0 rfl (fun _ => rfl) (by decide) rfl (by decide) (Nat.le_of_ble_eq_true rfl) (Nat.le_of_ble_eq_true rfl) d_Fa_init_43 (fun q3 H hP hD hS => ?_)
  have hP : va_P D classes (cat [[(h, .inr (2, [.int 0, .int 0, .int 0, .int 0, .ref q1, .ref q2, .null, .null, .null, .null, .null, .null, .null, .null, .null]))], [(q1, .inl (kA 0, 24, .inl (fun _ => 0)))], [(q2, .inl (kA 0, 48, .inl (fun _ => 0)))], [(q3, .inl (kA 0, 24, .inl (fun _ => 0)))]]) H := hP
  have hD : va_D A (cat [[(h, .inr (2, [.int 0, .int 0, .int 0, .int 0, .ref q1, .ref q2, .null, .null, .null, .null, .null, .null, .null, .null, .null]))], [(q1, .inl (kA 0, 24, .inl (fun _ => 0)))], [(q2, .inl (kA 0, 48, .inl (fun _ => 0)))], [(q3, .inl (kA 0, 24, .inl (fun _ => 0)))]]) := hD
  refine W.widen (k := 3) (n := 96) (by omega) (by omega) ?_
  refine k_put (pc := 45) X hK hP hD hS 0 rfl rfl i_Fa t_Fa t_Fa_ok n_Fa 6 (by decide) wm_412 rfl (Or.inr ⟨rfl, rfl⟩) rfl rfl (Nat.le_of_ble_eq_true rfl) d_Fa_init_45 (fun H locs hP hD hS => ?_)
  have hP : va_P D classes (cat [[(h, .inr (2, [.int 0, .int 0, .int 0, .int 0, .ref q1, .ref q2, .ref q3, .null, .null, .null, .null, .null, .null, .null, .null]))], [(q1, .inl (kA 0, 24, .inl (fun _ => 0)))], [(q2, .inl (kA 0, 48, .inl (fun _ => 0)))], [(q3, .inl (kA 0, 24, .inl (fun _ => 0)))]]) H := hP
  have hD : va_D A (cat [[(h, .inr (2, [.int 0, .int 0, .int 0, .int 0, .ref q1, .ref q2, .ref q3, .null, .null, .null, .null, .null, .null, .null, .null]))], [(q1, .inl (kA 0, 24, .inl (fun _ => 0)))], [(q2, .inl (kA 0, 48, .inl (fun _ => 0)))], [(q3, .inl (kA 0, 24, .inl (fun _ => 0)))]]) := hD
  refine lv_aload_n (pc := 48) hx hb d_Fa_init_48 rfl (lv_at hl 0 rfl) ?_
  refine lv_bipush (pc := 49) (v := 24) hx hb d_Fa_init_49 (by decide) ?_
  refine k_newa (pc := 51) (atype := .int) X (ty := .int) (a0 := (24, .inl (fun _ => 0))) rfl rfl wm_193 hK hP hD hS hA 0 rfl (fun _ => rfl) (by decide) rfl (by decide) (Nat.le_of_ble_eq_true rfl) (Nat.le_of_ble_eq_true rfl) d_Fa_init_51 (fun q4 H hP hD hS => ?_)
  have hP : va_P D classes (cat [[(h, .inr (2, [.int 0, .int 0, .int 0, .int 0, .ref q1, .ref q2, .ref q3, .null, .null, .null, .null, .null, .null, .null, .null]))], [(q1, .inl (kA 0, 24, .inl (fun _ => 0)))], [(q2, .inl (kA 0, 48, .inl (fun _ => 0)))], [(q3, .inl (kA 0, 24, .inl (fun _ => 0)))], [(q4, .inl (kA 0, 24, .inl (fun _ => 0)))]]) H := hP
  have hD : va_D A (cat [[(h, .inr (2, [.int 0, .int 0, .int 0, .int 0, .ref q1, .ref q2, .ref q3, .null, .null, .null, .null, .null, .null, .null, .null]))], [(q1, .inl (kA 0, 24, .inl (fun _ => 0)))], [(q2, .inl (kA 0, 48, .inl (fun _ => 0)))], [(q3, .inl (kA 0, 24, .inl (fun _ => 0)))], [(q4, .inl (kA 0, 24, .inl (fun _ => 0)))]]) := hD
  refine W.widen (k := 4) (n := 120) (by omega) (by omega) ?_
  refine k_put (pc := 53) X hK hP hD hS 0 rfl rfl i_Fa t_Fa t_Fa_ok n_Fa 7 (by decide) wm_414 rfl (Or.inr ⟨rfl, rfl⟩) rfl rfl (Nat.le_of_ble_eq_true rfl) d_Fa_init_53 (fun H locs hP hD hS => ?_)
  have hP : va_P D classes (cat [[(h, .inr (2, [.int 0, .int 0, .int 0, .int 0, .ref q1, .ref q2, .ref q3, .ref q4, .null, .null, .null, .null, .null, .null, .null]))], [(q1, .inl (kA 0, 24, .inl (fun _ => 0)))], [(q2, .inl (kA 0, 48, .inl (fun _ => 0)))], [(q3, .inl (kA 0, 24, .inl (fun _ => 0)))], [(q4, .inl (kA 0, 24, .inl (fun _ => 0)))]]) H := hP
  have hD : va_D A (cat [[(h, .inr (2, [.int 0, .int 0, .int 0, .int 0, .ref q1, .ref q2, .ref q3, .ref q4, .null, .null, .null, .null, .null, .null, .null]))], [(q1, .inl (kA 0, 24, .inl (fun _ => 0)))], [(q2, .inl (kA 0, 48, .inl (fun _ => 0)))], [(q3, .inl (kA 0, 24, .inl (fun _ => 0)))], [(q4, .inl (kA 0, 24, .inl (fun _ => 0)))]]) := hD
  refine lv_aload_n (pc := 56) hx hb d_Fa_init_56 rfl (lv_at hl 0 rfl) ?_
  refine lv_bipush (pc := 57) (v := 24) hx hb d_Fa_init_57 (by decide) ?_
  refine k_newa (pc := 59) (atype := .int) X (ty := .int) (a0 := (24, .inl (fun _ => 0))) rfl rfl wm_193 hK hP hD hS hA 0 rfl (fun _ => rfl) (by decide) rfl (by decide) (Nat.le_of_ble_eq_true rfl) (Nat.le_of_ble_eq_true rfl) d_Fa_init_59 (fun q5 H hP hD hS => ?_)
  have hP : va_P D classes (cat [[(h, .inr (2, [.int 0, .int 0, .int 0, .int 0, .ref q1, .ref q2, .ref q3, .ref q4, .null, .null, .null, .null, .null, .null, .null]))], [(q1, .inl (kA 0, 24, .inl (fun _ => 0)))], [(q2, .inl (kA 0, 48, .inl (fun _ => 0)))], [(q3, .inl (kA 0, 24, .inl (fun _ => 0)))], [(q4, .inl (kA 0, 24, .inl (fun _ => 0)))], [(q5, .inl (kA 0, 24, .inl (fun _ => 0)))]]) H := hP
  have hD : va_D A (cat [[(h, .inr (2, [.int 0, .int 0, .int 0, .int 0, .ref q1, .ref q2, .ref q3, .ref q4, .null, .null, .null, .null, .null, .null, .null]))], [(q1, .inl (kA 0, 24, .inl (fun _ => 0)))], [(q2, .inl (kA 0, 48, .inl (fun _ => 0)))], [(q3, .inl (kA 0, 24, .inl (fun _ => 0)))], [(q4, .inl (kA 0, 24, .inl (fun _ => 0)))], [(q5, .inl (kA 0, 24, .inl (fun _ => 0)))]]) := hD
  refine W.widen (k := 5) (n := 144) (by omega) (by omega) ?_
  refine k_put (pc := 61) X hK hP hD hS 0 rfl rfl i_Fa t_Fa t_Fa_ok n_Fa 8 (by decide) wm_417 rfl (Or.inr ⟨rfl, rfl⟩) rfl rfl (Nat.le_of_ble_eq_true rfl) d_Fa_init_61 (fun H locs hP hD hS => ?_)
  have hP : va_P D classes (cat [[(h, .inr (2, [.int 0, .int 0, .int 0, .int 0, .ref q1, .ref q2, .ref q3, .ref q4, .ref q5, .null, .null, .null, .null, .null, .null]))], [(q1, .inl (kA 0, 24, .inl (fun _ => 0)))], [(q2, .inl (kA 0, 48, .inl (fun _ => 0)))], [(q3, .inl (kA 0, 24, .inl (fun _ => 0)))], [(q4, .inl (kA 0, 24, .inl (fun _ => 0)))], [(q5, .inl (kA 0, 24, .inl (fun _ => 0)))]]) H := hP
  have hD : va_D A (cat [[(h, .inr (2, [.int 0, .int 0, .int 0, .int 0, .ref q1, .ref q2, .ref q3, .ref q4, .ref q5, .null, .null, .null, .null, .null, .null]))], [(q1, .inl (kA 0, 24, .inl (fun _ => 0)))], [(q2, .inl (kA 0, 48, .inl (fun _ => 0)))], [(q3, .inl (kA 0, 24, .inl (fun _ => 0)))], [(q4, .inl (kA 0, 24, .inl (fun _ => 0)))], [(q5, .inl (kA 0, 24, .inl (fun _ => 0)))]]) := hD
  refine lv_aload_n (pc := 64) hx hb d_Fa_init_64 rfl (lv_at hl 0 rfl) ?_
  refine lv_bipush (pc := 65) (v := 48) hx hb d_Fa_init_65 (by decide) ?_
  refine k_newa (pc := 67) (atype := .boolean) X (ty := .boolean) (a0 := (48, .inl (fun _ => 0))) rfl rfl wm_387 hK hP hD hS hA 2 rfl (fun _ => rfl) (by decide) rfl (by decide) (Nat.le_of_ble_eq_true rfl) (Nat.le_of_ble_eq_true rfl) d_Fa_init_67 (fun q6 H hP hD hS => ?_)
  have hP : va_P D classes (cat [[(h, .inr (2, [.int 0, .int 0, .int 0, .int 0, .ref q1, .ref q2, .ref q3, .ref q4, .ref q5, .null, .null, .null, .null, .null, .null]))], [(q1, .inl (kA 0, 24, .inl (fun _ => 0)))], [(q2, .inl (kA 0, 48, .inl (fun _ => 0)))], [(q3, .inl (kA 0, 24, .inl (fun _ => 0)))], [(q4, .inl (kA 0, 24, .inl (fun _ => 0)))], [(q5, .inl (kA 0, 24, .inl (fun _ => 0)))], [(q6, .inl (kA 2, 48, .inl (fun _ => 0)))]]) H := hP
  have hD : va_D A (cat [[(h, .inr (2, [.int 0, .int 0, .int 0, .int 0, .ref q1, .ref q2, .ref q3, .ref q4, .ref q5, .null, .null, .null, .null, .null, .null]))], [(q1, .inl (kA 0, 24, .inl (fun _ => 0)))], [(q2, .inl (kA 0, 48, .inl (fun _ => 0)))], [(q3, .inl (kA 0, 24, .inl (fun _ => 0)))], [(q4, .inl (kA 0, 24, .inl (fun _ => 0)))], [(q5, .inl (kA 0, 24, .inl (fun _ => 0)))], [(q6, .inl (kA 2, 48, .inl (fun _ => 0)))]]) := hD
  refine W.widen (k := 6) (n := 192) (by omega) (by omega) ?_
  refine k_put (pc := 69) X hK hP hD hS 0 rfl rfl i_Fa t_Fa t_Fa_ok n_Fa 9 (by decide) wm_420 rfl (Or.inr ⟨rfl, rfl⟩) rfl rfl (Nat.le_of_ble_eq_true rfl) d_Fa_init_69 (fun H locs hP hD hS => ?_)
  have hP : va_P D classes (cat [[(h, .inr (2, [.int 0, .int 0, .int 0, .int 0, .ref q1, .ref q2, .ref q3, .ref q4, .ref q5, .ref q6, .null, .null, .null, .null, .null]))], [(q1, .inl (kA 0, 24, .inl (fun _ => 0)))], [(q2, .inl (kA 0, 48, .inl (fun _ => 0)))], [(q3, .inl (kA 0, 24, .inl (fun _ => 0)))], [(q4, .inl (kA 0, 24, .inl (fun _ => 0)))], [(q5, .inl (kA 0, 24, .inl (fun _ => 0)))], [(q6, .inl (kA 2, 48, .inl (fun _ => 0)))]]) H := hP
  have hD : va_D A (cat [[(h, .inr (2, [.int 0, .int 0, .int 0, .int 0, .ref q1, .ref q2, .ref q3, .ref q4, .ref q5, .ref q6, .null, .null, .null, .null, .null]))], [(q1, .inl (kA 0, 24, .inl (fun _ => 0)))], [(q2, .inl (kA 0, 48, .inl (fun _ => 0)))], [(q3, .inl (kA 0, 24, .inl (fun _ => 0)))], [(q4, .inl (kA 0, 24, .inl (fun _ => 0)))], [(q5, .inl (kA 0, 24, .inl (fun _ => 0)))], [(q6, .inl (kA 2, 48, .inl (fun _ => 0)))]]) := hD
  refine lv_aload_n (pc := 72) hx hb d_Fa_init_72 rfl (lv_at hl 0 rfl) ?_
  refine lv_bipush (pc := 73) (v := 24) hx hb d_Fa_init_73 (by decide) ?_
  refine k_newa (pc := 75) (atype := .int) X (ty := .int) (a0 := (24, .inl (fun _ => 0))) rfl rfl wm_193 hK hP hD hS hA 0 rfl (fun _ => rfl) (by decide) rfl (by decide) (Nat.le_of_ble_eq_true rfl) (Nat.le_of_ble_eq_true rfl) d_Fa_init_75 (fun q7 H hP hD hS => ?_)
  have hP : va_P D classes (cat [[(h, .inr (2, [.int 0, .int 0, .int 0, .int 0, .ref q1, .ref q2, .ref q3, .ref q4, .ref q5, .ref q6, .null, .null, .null, .null, .null]))], [(q1, .inl (kA 0, 24, .inl (fun _ => 0)))], [(q2, .inl (kA 0, 48, .inl (fun _ => 0)))], [(q3, .inl (kA 0, 24, .inl (fun _ => 0)))], [(q4, .inl (kA 0, 24, .inl (fun _ => 0)))], [(q5, .inl (kA 0, 24, .inl (fun _ => 0)))], [(q6, .inl (kA 2, 48, .inl (fun _ => 0)))], [(q7, .inl (kA 0, 24, .inl (fun _ => 0)))]]) H := hP
  have hD : va_D A (cat [[(h, .inr (2, [.int 0, .int 0, .int 0, .int 0, .ref q1, .ref q2, .ref q3, .ref q4, .ref q5, .ref q6, .null, .null, .null, .null, .null]))], [(q1, .inl (kA 0, 24, .inl (fun _ => 0)))], [(q2, .inl (kA 0, 48, .inl (fun _ => 0)))], [(q3, .inl (kA 0, 24, .inl (fun _ => 0)))], [(q4, .inl (kA 0, 24, .inl (fun _ => 0)))], [(q5, .inl (kA 0, 24, .inl (fun _ => 0)))], [(q6, .inl (kA 2, 48, .inl (fun _ => 0)))], [(q7, .inl (kA 0, 24, .inl (fun _ => 0)))]]) := hD
  refine W.widen (k := 7) (n := 216) (by omega) (by omega) ?_
  refine k_put (pc := 77) X hK hP hD hS 0 rfl rfl i_Fa t_Fa t_Fa_ok n_Fa 10 (by decide) wm_423 rfl (Or.inr ⟨rfl, rfl⟩) rfl rfl (Nat.le_of_ble_eq_true rfl) d_Fa_init_77 (fun H locs hP hD hS => ?_)
  have hP : va_P D classes (cat [[(h, .inr (2, [.int 0, .int 0, .int 0, .int 0, .ref q1, .ref q2, .ref q3, .ref q4, .ref q5, .ref q6, .ref q7, .null, .null, .null, .null]))], [(q1, .inl (kA 0, 24, .inl (fun _ => 0)))], [(q2, .inl (kA 0, 48, .inl (fun _ => 0)))], [(q3, .inl (kA 0, 24, .inl (fun _ => 0)))], [(q4, .inl (kA 0, 24, .inl (fun _ => 0)))], [(q5, .inl (kA 0, 24, .inl (fun _ => 0)))], [(q6, .inl (kA 2, 48, .inl (fun _ => 0)))], [(q7, .inl (kA 0, 24, .inl (fun _ => 0)))]]) H := hP
  have hD : va_D A (cat [[(h, .inr (2, [.int 0, .int 0, .int 0, .int 0, .ref q1, .ref q2, .ref q3, .ref q4, .ref q5, .ref q6, .ref q7, .null, .null, .null, .null]))], [(q1, .inl (kA 0, 24, .inl (fun _ => 0)))], [(q2, .inl (kA 0, 48, .inl (fun _ => 0)))], [(q3, .inl (kA 0, 24, .inl (fun _ => 0)))], [(q4, .inl (kA 0, 24, .inl (fun _ => 0)))], [(q5, .inl (kA 0, 24, .inl (fun _ => 0)))], [(q6, .inl (kA 2, 48, .inl (fun _ => 0)))], [(q7, .inl (kA 0, 24, .inl (fun _ => 0)))]]) := hD
  refine lv_aload_n (pc := 80) hx hb d_Fa_init_80 rfl (lv_at hl 0 rfl) ?_
  refine lv_bipush (pc := 81) (v := 24) hx hb d_Fa_init_81 (by decide) ?_
  refine k_newa (pc := 83) (atype := .int) X (ty := .int) (a0 := (24, .inl (fun _ => 0))) rfl rfl wm_193 hK hP hD hS hA 0 rfl (fun _ => rfl) (by decide) rfl (by decide) (Nat.le_of_ble_eq_true rfl) (Nat.le_of_ble_eq_true rfl) d_Fa_init_83 (fun q8 H hP hD hS => ?_)
  have hP : va_P D classes (cat [[(h, .inr (2, [.int 0, .int 0, .int 0, .int 0, .ref q1, .ref q2, .ref q3, .ref q4, .ref q5, .ref q6, .ref q7, .null, .null, .null, .null]))], [(q1, .inl (kA 0, 24, .inl (fun _ => 0)))], [(q2, .inl (kA 0, 48, .inl (fun _ => 0)))], [(q3, .inl (kA 0, 24, .inl (fun _ => 0)))], [(q4, .inl (kA 0, 24, .inl (fun _ => 0)))], [(q5, .inl (kA 0, 24, .inl (fun _ => 0)))], [(q6, .inl (kA 2, 48, .inl (fun _ => 0)))], [(q7, .inl (kA 0, 24, .inl (fun _ => 0)))], [(q8, .inl (kA 0, 24, .inl (fun _ => 0)))]]) H := hP
  have hD : va_D A (cat [[(h, .inr (2, [.int 0, .int 0, .int 0, .int 0, .ref q1, .ref q2, .ref q3, .ref q4, .ref q5, .ref q6, .ref q7, .null, .null, .null, .null]))], [(q1, .inl (kA 0, 24, .inl (fun _ => 0)))], [(q2, .inl (kA 0, 48, .inl (fun _ => 0)))], [(q3, .inl (kA 0, 24, .inl (fun _ => 0)))], [(q4, .inl (kA 0, 24, .inl (fun _ => 0)))], [(q5, .inl (kA 0, 24, .inl (fun _ => 0)))], [(q6, .inl (kA 2, 48, .inl (fun _ => 0)))], [(q7, .inl (kA 0, 24, .inl (fun _ => 0)))], [(q8, .inl (kA 0, 24, .inl (fun _ => 0)))]]) := hD
  refine W.widen (k := 8) (n := 240) (by omega) (by omega) ?_
  refine k_put (pc := 85) X hK hP hD hS 0 rfl rfl i_Fa t_Fa t_Fa_ok n_Fa 11 (by decide) wm_424 rfl (Or.inr ⟨rfl, rfl⟩) rfl rfl (Nat.le_of_ble_eq_true rfl) d_Fa_init_85 (fun H locs hP hD hS => ?_)
  have hP : va_P D classes (cat [[(h, .inr (2, [.int 0, .int 0, .int 0, .int 0, .ref q1, .ref q2, .ref q3, .ref q4, .ref q5, .ref q6, .ref q7, .ref q8, .null, .null, .null]))], [(q1, .inl (kA 0, 24, .inl (fun _ => 0)))], [(q2, .inl (kA 0, 48, .inl (fun _ => 0)))], [(q3, .inl (kA 0, 24, .inl (fun _ => 0)))], [(q4, .inl (kA 0, 24, .inl (fun _ => 0)))], [(q5, .inl (kA 0, 24, .inl (fun _ => 0)))], [(q6, .inl (kA 2, 48, .inl (fun _ => 0)))], [(q7, .inl (kA 0, 24, .inl (fun _ => 0)))], [(q8, .inl (kA 0, 24, .inl (fun _ => 0)))]]) H := hP
  have hD : va_D A (cat [[(h, .inr (2, [.int 0, .int 0, .int 0, .int 0, .ref q1, .ref q2, .ref q3, .ref q4, .ref q5, .ref q6, .ref q7, .ref q8, .null, .null, .null]))], [(q1, .inl (kA 0, 24, .inl (fun _ => 0)))], [(q2, .inl (kA 0, 48, .inl (fun _ => 0)))], [(q3, .inl (kA 0, 24, .inl (fun _ => 0)))], [(q4, .inl (kA 0, 24, .inl (fun _ => 0)))], [(q5, .inl (kA 0, 24, .inl (fun _ => 0)))], [(q6, .inl (kA 2, 48, .inl (fun _ => 0)))], [(q7, .inl (kA 0, 24, .inl (fun _ => 0)))], [(q8, .inl (kA 0, 24, .inl (fun _ => 0)))]]) := hD
  refine lv_aload_n (pc := 88) hx hb d_Fa_init_88 rfl (lv_at hl 0 rfl) ?_
  refine lv_bipush (pc := 89) (v := 24) hx hb d_Fa_init_89 (by decide) ?_
  refine k_newa (pc := 91) (atype := .int) X (ty := .int) (a0 := (24, .inl (fun _ => 0))) rfl rfl wm_193 hK hP hD hS hA 0 rfl (fun _ => rfl) (by decide) rfl (by decide) (Nat.le_of_ble_eq_true rfl) (Nat.le_of_ble_eq_true rfl) d_Fa_init_91 (fun q9 H hP hD hS => ?_)
  have hP : va_P D classes (cat [[(h, .inr (2, [.int 0, .int 0, .int 0, .int 0, .ref q1, .ref q2, .ref q3, .ref q4, .ref q5, .ref q6, .ref q7, .ref q8, .null, .null, .null]))], [(q1, .inl (kA 0, 24, .inl (fun _ => 0)))], [(q2, .inl (kA 0, 48, .inl (fun _ => 0)))], [(q3, .inl (kA 0, 24, .inl (fun _ => 0)))], [(q4, .inl (kA 0, 24, .inl (fun _ => 0)))], [(q5, .inl (kA 0, 24, .inl (fun _ => 0)))], [(q6, .inl (kA 2, 48, .inl (fun _ => 0)))], [(q7, .inl (kA 0, 24, .inl (fun _ => 0)))], [(q8, .inl (kA 0, 24, .inl (fun _ => 0)))], [(q9, .inl (kA 0, 24, .inl (fun _ => 0)))]]) H := hP
  have hD : va_D A (cat [[(h, .inr (2, [.int 0, .int 0, .int 0, .int 0, .ref q1, .ref q2, .ref q3, .ref q4, .ref q5, .ref q6, .ref q7, .ref q8, .null, .null, .null]))], [(q1, .inl (kA 0, 24, .inl (fun _ => 0)))], [(q2, .inl (kA 0, 48, .inl (fun _ => 0)))], [(q3, .inl (kA 0, 24, .inl (fun _ => 0)))], [(q4, .inl (kA 0, 24, .inl (fun _ => 0)))], [(q5, .inl (kA 0, 24, .inl (fun _ => 0)))], [(q6, .inl (kA 2, 48, .inl (fun _ => 0)))], [(q7, .inl (kA 0, 24, .inl (fun _ => 0)))], [(q8, .inl (kA 0, 24, .inl (fun _ => 0)))], [(q9, .inl (kA 0, 24, .inl (fun _ => 0)))]]) := hD
  refine W.widen (k := 9) (n := 264) (by omega) (by omega) ?_
  refine k_put (pc := 93) X hK hP hD hS 0 rfl rfl i_Fa t_Fa t_Fa_ok n_Fa 12 (by decide) wm_425 rfl (Or.inr ⟨rfl, rfl⟩) rfl rfl (Nat.le_of_ble_eq_true rfl) d_Fa_init_93 (fun H locs hP hD hS => ?_)
  have hP : va_P D classes (cat [[(h, .inr (2, [.int 0, .int 0, .int 0, .int 0, .ref q1, .ref q2, .ref q3, .ref q4, .ref q5, .ref q6, .ref q7, .ref q8, .ref q9, .null, .null]))], [(q1, .inl (kA 0, 24, .inl (fun _ => 0)))], [(q2, .inl (kA 0, 48, .inl (fun _ => 0)))], [(q3, .inl (kA 0, 24, .inl (fun _ => 0)))], [(q4, .inl (kA 0, 24, .inl (fun _ => 0)))], [(q5, .inl (kA 0, 24, .inl (fun _ => 0)))], [(q6, .inl (kA 2, 48, .inl (fun _ => 0)))], [(q7, .inl (kA 0, 24, .inl (fun _ => 0)))], [(q8, .inl (kA 0, 24, .inl (fun _ => 0)))], [(q9, .inl (kA 0, 24, .inl (fun _ => 0)))]]) H := hP
  have hD : va_D A (cat [[(h, .inr (2, [.int 0, .int 0, .int 0, .int 0, .ref q1, .ref q2, .ref q3, .ref q4, .ref q5, .ref q6, .ref q7, .ref q8, .ref q9, .null, .null]))], [(q1, .inl (kA 0, 24, .inl (fun _ => 0)))], [(q2, .inl (kA 0, 48, .inl (fun _ => 0)))], [(q3, .inl (kA 0, 24, .inl (fun _ => 0)))], [(q4, .inl (kA 0, 24, .inl (fun _ => 0)))], [(q5, .inl (kA 0, 24, .inl (fun _ => 0)))], [(q6, .inl (kA 2, 48, .inl (fun _ => 0)))], [(q7, .inl (kA 0, 24, .inl (fun _ => 0)))], [(q8, .inl (kA 0, 24, .inl (fun _ => 0)))], [(q9, .inl (kA 0, 24, .inl (fun _ => 0)))]]) := hD
  refine lv_aload_n (pc := 96) hx hb d_Fa_init_96 rfl (lv_at hl 0 rfl) ?_
  refine lv_bipush (pc := 97) (v := 24) hx hb d_Fa_init_97 (by decide) ?_
  refine k_newa (pc := 99) (atype := .int) X (ty := .int) (a0 := (24, .inl (fun _ => 0))) rfl rfl wm_193 hK hP hD hS hA 0 rfl (fun _ => rfl) (by decide) rfl (by decide) (Nat.le_of_ble_eq_true rfl) (Nat.le_of_ble_eq_true rfl) d_Fa_init_99 (fun q10 H hP hD hS => ?_)
  have hP : va_P D classes (cat [[(h, .inr (2, [.int 0, .int 0, .int 0, .int 0, .ref q1, .ref q2, .ref q3, .ref q4, .ref q5, .ref q6, .ref q7, .ref q8, .ref q9, .null, .null]))], [(q1, .inl (kA 0, 24, .inl (fun _ => 0)))], [(q2, .inl (kA 0, 48, .inl (fun _ => 0)))], [(q3, .inl (kA 0, 24, .inl (fun _ => 0)))], [(q4, .inl (kA 0, 24, .inl (fun _ => 0)))], [(q5, .inl (kA 0, 24, .inl (fun _ => 0)))], [(q6, .inl (kA 2, 48, .inl (fun _ => 0)))], [(q7, .inl (kA 0, 24, .inl (fun _ => 0)))], [(q8, .inl (kA 0, 24, .inl (fun _ => 0)))], [(q9, .inl (kA 0, 24, .inl (fun _ => 0)))], [(q10, .inl (kA 0, 24, .inl (fun _ => 0)))]]) H := hP
  have hD : va_D A (cat [[(h, .inr (2, [.int 0, .int 0, .int 0, .int 0, .ref q1, .ref q2, .ref q3, .ref q4, .ref q5, .ref q6, .ref q7, .ref q8, .ref q9, .null, .null]))], [(q1, .inl (kA 0, 24, .inl (fun _ => 0)))], [(q2, .inl (kA 0, 48, .inl (fun _ => 0)))], [(q3, .inl (kA 0, 24, .inl (fun _ => 0)))], [(q4, .inl (kA 0, 24, .inl (fun _ => 0)))], [(q5, .inl (kA 0, 24, .inl (fun _ => 0)))], [(q6, .inl (kA 2, 48, .inl (fun _ => 0)))], [(q7, .inl (kA 0, 24, .inl (fun _ => 0)))], [(q8, .inl (kA 0, 24, .inl (fun _ => 0)))], [(q9, .inl (kA 0, 24, .inl (fun _ => 0)))], [(q10, .inl (kA 0, 24, .inl (fun _ => 0)))]]) := hD
  refine W.widen (k := 10) (n := 288) (by omega) (by omega) ?_
  refine k_put (pc := 101) X hK hP hD hS 0 rfl rfl i_Fa t_Fa t_Fa_ok n_Fa 13 (by decide) wm_426 rfl (Or.inr ⟨rfl, rfl⟩) rfl rfl (Nat.le_of_ble_eq_true rfl) d_Fa_init_101 (fun H locs hP hD hS => ?_)
  have hP : va_P D classes (cat [[(h, .inr (2, [.int 0, .int 0, .int 0, .int 0, .ref q1, .ref q2, .ref q3, .ref q4, .ref q5, .ref q6, .ref q7, .ref q8, .ref q9, .ref q10, .null]))], [(q1, .inl (kA 0, 24, .inl (fun _ => 0)))], [(q2, .inl (kA 0, 48, .inl (fun _ => 0)))], [(q3, .inl (kA 0, 24, .inl (fun _ => 0)))], [(q4, .inl (kA 0, 24, .inl (fun _ => 0)))], [(q5, .inl (kA 0, 24, .inl (fun _ => 0)))], [(q6, .inl (kA 2, 48, .inl (fun _ => 0)))], [(q7, .inl (kA 0, 24, .inl (fun _ => 0)))], [(q8, .inl (kA 0, 24, .inl (fun _ => 0)))], [(q9, .inl (kA 0, 24, .inl (fun _ => 0)))], [(q10, .inl (kA 0, 24, .inl (fun _ => 0)))]]) H := hP
  have hD : va_D A (cat [[(h, .inr (2, [.int 0, .int 0, .int 0, .int 0, .ref q1, .ref q2, .ref q3, .ref q4, .ref q5, .ref q6, .ref q7, .ref q8, .ref q9, .ref q10, .null]))], [(q1, .inl (kA 0, 24, .inl (fun _ => 0)))], [(q2, .inl (kA 0, 48, .inl (fun _ => 0)))], [(q3, .inl (kA 0, 24, .inl (fun _ => 0)))], [(q4, .inl (kA 0, 24, .inl (fun _ => 0)))], [(q5, .inl (kA 0, 24, .inl (fun _ => 0)))], [(q6, .inl (kA 2, 48, .inl (fun _ => 0)))], [(q7, .inl (kA 0, 24, .inl (fun _ => 0)))], [(q8, .inl (kA 0, 24, .inl (fun _ => 0)))], [(q9, .inl (kA 0, 24, .inl (fun _ => 0)))], [(q10, .inl (kA 0, 24, .inl (fun _ => 0)))]]) := hD
  refine lv_aload_n (pc := 104) hx hb d_Fa_init_104 rfl (lv_at hl 0 rfl) ?_
  refine lv_sipush (pc := 105) (v := 128) hx hb d_Fa_init_105 (by decide) ?_
  refine k_newa (pc := 108) (atype := .int) X (ty := .int) (a0 := (128, .inl (fun _ => 0))) rfl rfl wm_193 hK hP hD hS hA 0 rfl (fun _ => rfl) (by decide) rfl (by decide) (Nat.le_of_ble_eq_true rfl) (Nat.le_of_ble_eq_true rfl) d_Fa_init_108 (fun q11 H hP hD hS => ?_)
  have hP : va_P D classes (cat [[(h, .inr (2, [.int 0, .int 0, .int 0, .int 0, .ref q1, .ref q2, .ref q3, .ref q4, .ref q5, .ref q6, .ref q7, .ref q8, .ref q9, .ref q10, .null]))], [(q1, .inl (kA 0, 24, .inl (fun _ => 0)))], [(q2, .inl (kA 0, 48, .inl (fun _ => 0)))], [(q3, .inl (kA 0, 24, .inl (fun _ => 0)))], [(q4, .inl (kA 0, 24, .inl (fun _ => 0)))], [(q5, .inl (kA 0, 24, .inl (fun _ => 0)))], [(q6, .inl (kA 2, 48, .inl (fun _ => 0)))], [(q7, .inl (kA 0, 24, .inl (fun _ => 0)))], [(q8, .inl (kA 0, 24, .inl (fun _ => 0)))], [(q9, .inl (kA 0, 24, .inl (fun _ => 0)))], [(q10, .inl (kA 0, 24, .inl (fun _ => 0)))], [(q11, .inl (kA 0, 128, .inl (fun _ => 0)))]]) H := hP
  have hD : va_D A (cat [[(h, .inr (2, [.int 0, .int 0, .int 0, .int 0, .ref q1, .ref q2, .ref q3, .ref q4, .ref q5, .ref q6, .ref q7, .ref q8, .ref q9, .ref q10, .null]))], [(q1, .inl (kA 0, 24, .inl (fun _ => 0)))], [(q2, .inl (kA 0, 48, .inl (fun _ => 0)))], [(q3, .inl (kA 0, 24, .inl (fun _ => 0)))], [(q4, .inl (kA 0, 24, .inl (fun _ => 0)))], [(q5, .inl (kA 0, 24, .inl (fun _ => 0)))], [(q6, .inl (kA 2, 48, .inl (fun _ => 0)))], [(q7, .inl (kA 0, 24, .inl (fun _ => 0)))], [(q8, .inl (kA 0, 24, .inl (fun _ => 0)))], [(q9, .inl (kA 0, 24, .inl (fun _ => 0)))], [(q10, .inl (kA 0, 24, .inl (fun _ => 0)))], [(q11, .inl (kA 0, 128, .inl (fun _ => 0)))]]) := hD
  refine W.widen (k := 11) (n := 416) (by omega) (by omega) ?_
  refine k_put (pc := 110) X hK hP hD hS 0 rfl rfl i_Fa t_Fa t_Fa_ok n_Fa 14 (by decide) wm_427 rfl (Or.inr ⟨rfl, rfl⟩) rfl rfl (Nat.le_of_ble_eq_true rfl) d_Fa_init_110 (fun H locs hP hD hS => ?_)
  have hP : va_P D classes (cat [[(h, .inr (2, [.int 0, .int 0, .int 0, .int 0, .ref q1, .ref q2, .ref q3, .ref q4, .ref q5, .ref q6, .ref q7, .ref q8, .ref q9, .ref q10, .ref q11]))], [(q1, .inl (kA 0, 24, .inl (fun _ => 0)))], [(q2, .inl (kA 0, 48, .inl (fun _ => 0)))], [(q3, .inl (kA 0, 24, .inl (fun _ => 0)))], [(q4, .inl (kA 0, 24, .inl (fun _ => 0)))], [(q5, .inl (kA 0, 24, .inl (fun _ => 0)))], [(q6, .inl (kA 2, 48, .inl (fun _ => 0)))], [(q7, .inl (kA 0, 24, .inl (fun _ => 0)))], [(q8, .inl (kA 0, 24, .inl (fun _ => 0)))], [(q9, .inl (kA 0, 24, .inl (fun _ => 0)))], [(q10, .inl (kA 0, 24, .inl (fun _ => 0)))], [(q11, .inl (kA 0, 128, .inl (fun _ => 0)))]]) H := hP
  have hD : va_D A (cat [[(h, .inr (2, [.int 0, .int 0, .int 0, .int 0, .ref q1, .ref q2, .ref q3, .ref q4, .ref q5, .ref q6, .ref q7, .ref q8, .ref q9, .ref q10, .ref q11]))], [(q1, .inl (kA 0, 24, .inl (fun _ => 0)))], [(q2, .inl (kA 0, 48, .inl (fun _ => 0)))], [(q3, .inl (kA 0, 24, .inl (fun _ => 0)))], [(q4, .inl (kA 0, 24, .inl (fun _ => 0)))], [(q5, .inl (kA 0, 24, .inl (fun _ => 0)))], [(q6, .inl (kA 2, 48, .inl (fun _ => 0)))], [(q7, .inl (kA 0, 24, .inl (fun _ => 0)))], [(q8, .inl (kA 0, 24, .inl (fun _ => 0)))], [(q9, .inl (kA 0, 24, .inl (fun _ => 0)))], [(q10, .inl (kA 0, 24, .inl (fun _ => 0)))], [(q11, .inl (kA 0, 128, .inl (fun _ => 0)))]]) := hD
  obtain ⟨hP, hD⟩ := k_ord (gc := [[(h, .inr (2, [.int 0, .int 0, .int 0, .int 0, .ref q1, .ref q2, .ref q3, .ref q4, .ref q5, .ref q6, .ref q7, .ref q8, .ref q9, .ref q10, .ref q11]))], [(q1, .inl (kA 0, 24, .inl (fun _ => 0)))], [(q2, .inl (kA 0, 48, .inl (fun _ => 0)))], [(q3, .inl (kA 0, 24, .inl (fun _ => 0)))], [(q4, .inl (kA 0, 24, .inl (fun _ => 0)))], [(q5, .inl (kA 0, 24, .inl (fun _ => 0)))], [(q6, .inl (kA 2, 48, .inl (fun _ => 0)))], [(q7, .inl (kA 0, 24, .inl (fun _ => 0)))], [(q8, .inl (kA 0, 24, .inl (fun _ => 0)))], [(q9, .inl (kA 0, 24, .inl (fun _ => 0)))], [(q10, .inl (kA 0, 24, .inl (fun _ => 0)))], [(q11, .inl (kA 0, 128, .inl (fun _ => 0)))]]) hP hD [0, 1, 2, 3, 4, 5, 6, 7, 8, 9, 10, 11] 12 rfl (by decide) rfl
  refine W.widen (k := 11) (n := 416) (Nat.le_of_ble_eq_true rfl) (Nat.le_of_ble_eq_true rfl) ?_
  exact W.vret hx hb hr (fun t ht hW => ⟨⟨(fun k => match k with | 4 => q1 | 5 => q2 | 6 => q3 | 7 => q4 | 8 => q5 | 9 => q6 | 10 => q7 | 11 => q8 | 12 => q9 | 13 => q10 | 14 => q11 | _ => 0), rfl, trivial, by rw [ht]; exact hP, va_K.moved hW.alike hK, hD⟩, hS.F ht⟩) hS.2.2 d_Fa_init_113
end
section
theorem d_Ne_init_0 : decode b_Ne_init 0 = .ok (.aload_n 0, 1) := by decide +kernel
theorem d_Ne_init_1 : decode b_Ne_init 1 = .ok (.invokespecial 3, 3) := by decide +kernel
theorem d_Ne_init_4 : decode b_Ne_init 4 = .ok (.aload_n 0, 1) := by decide +kernel
theorem d_Ne_init_5 : decode b_Ne_init 5 = .ok (.iconst (-1), 1) := by decide +kernel
theorem d_Ne_init_6 : decode b_Ne_init 6 = .ok (.putfield 9, 3) := by decide +kernel
theorem d_Ne_init_9 : decode b_Ne_init 9 = .ok (.aload_n 0, 1) := by decide +kernel
theorem d_Ne_init_10 : decode b_Ne_init 10 = .ok (.iconst (-1), 1) := by decide +kernel
theorem d_Ne_init_11 : decode b_Ne_init 11 = .ok (.putfield 15, 3) := by decide +kernel
theorem d_Ne_init_14 : decode b_Ne_init 14 = .ok (.aload_n 0, 1) := by decide +kernel
theorem d_Ne_init_15 : decode b_Ne_init 15 = .ok (.iconst (-1), 1) := by decide +kernel
theorem d_Ne_init_16 : decode b_Ne_init 16 = .ok (.putfield 18, 3) := by decide +kernel
theorem d_Ne_init_19 : decode b_Ne_init 19 = .ok (.aload_n 0, 1) := by decide +kernel
theorem d_Ne_init_20 : decode b_Ne_init 20 = .ok (.iconst 0, 1) := by decide +kernel
theorem d_Ne_init_21 : decode b_Ne_init 21 = .ok (.putfield 21, 3) := by decide +kernel
theorem d_Ne_init_24 : decode b_Ne_init 24 = .ok (.aload_n 0, 1) := by decide +kernel
theorem d_Ne_init_25 : decode b_Ne_init 25 = .ok (.bipush 48, 2) := by decide +kernel
theorem d_Ne_init_27 : decode b_Ne_init 27 = .ok (.newarray .int, 2) := by decide +kernel
theorem d_Ne_init_29 : decode b_Ne_init 29 = .ok (.putfield 24, 3) := by decide +kernel
theorem d_Ne_init_32 : decode b_Ne_init 32 = .ok (.aload_n 0, 1) := by decide +kernel
theorem d_Ne_init_33 : decode b_Ne_init 33 = .ok (.iconst 0, 1) := by decide +kernel
theorem d_Ne_init_34 : decode b_Ne_init 34 = .ok (.putfield 28, 3) := by decide +kernel
theorem d_Ne_init_37 : decode b_Ne_init 37 = .ok (.aload_n 0, 1) := by decide +kernel
theorem d_Ne_init_38 : decode b_Ne_init 38 = .ok (.iconst 0, 1) := by decide +kernel
theorem d_Ne_init_39 : decode b_Ne_init 39 = .ok (.putfield 31, 3) := by decide +kernel
theorem d_Ne_init_42 : decode b_Ne_init 42 = .ok (.aload_n 0, 1) := by decide +kernel
theorem d_Ne_init_43 : decode b_Ne_init 43 = .ok (.bipush 72, 2) := by decide +kernel
theorem d_Ne_init_45 : decode b_Ne_init 45 = .ok (.newarray .int, 2) := by decide +kernel
theorem d_Ne_init_47 : decode b_Ne_init 47 = .ok (.putfield 34, 3) := by decide +kernel
theorem d_Ne_init_50 : decode b_Ne_init 50 = .ok (.aload_n 0, 1) := by decide +kernel
theorem d_Ne_init_51 : decode b_Ne_init 51 = .ok (.bipush 72, 2) := by decide +kernel
theorem d_Ne_init_53 : decode b_Ne_init 53 = .ok (.newarray .int, 2) := by decide +kernel
theorem d_Ne_init_55 : decode b_Ne_init 55 = .ok (.putfield 37, 3) := by decide +kernel
theorem d_Ne_init_58 : decode b_Ne_init 58 = .ok (.aload_n 0, 1) := by decide +kernel
theorem d_Ne_init_59 : decode b_Ne_init 59 = .ok (.bipush 25, 2) := by decide +kernel
theorem d_Ne_init_61 : decode b_Ne_init 61 = .ok (.newarray .int, 2) := by decide +kernel
theorem d_Ne_init_63 : decode b_Ne_init 63 = .ok (.putfield 40, 3) := by decide +kernel
theorem d_Ne_init_66 : decode b_Ne_init 66 = .ok (.aload_n 0, 1) := by decide +kernel
theorem d_Ne_init_67 : decode b_Ne_init 67 = .ok (.sipush 625, 3) := by decide +kernel
theorem d_Ne_init_70 : decode b_Ne_init 70 = .ok (.newarray .int, 2) := by decide +kernel
theorem d_Ne_init_72 : decode b_Ne_init 72 = .ok (.putfield 43, 3) := by decide +kernel
theorem d_Ne_init_75 : decode b_Ne_init 75 = .ok (.aload_n 0, 1) := by decide +kernel
theorem d_Ne_init_76 : decode b_Ne_init 76 = .ok (.sipush 144, 3) := by decide +kernel
theorem d_Ne_init_79 : decode b_Ne_init 79 = .ok (.newarray .int, 2) := by decide +kernel
theorem d_Ne_init_81 : decode b_Ne_init 81 = .ok (.putfield 46, 3) := by decide +kernel
theorem d_Ne_init_84 : decode b_Ne_init 84 = .ok (.aload_n 0, 1) := by decide +kernel
theorem d_Ne_init_85 : decode b_Ne_init 85 = .ok (.bipush 25, 2) := by decide +kernel
theorem d_Ne_init_87 : decode b_Ne_init 87 = .ok (.newarray .int, 2) := by decide +kernel
theorem d_Ne_init_89 : decode b_Ne_init 89 = .ok (.putfield 49, 3) := by decide +kernel
theorem d_Ne_init_92 : decode b_Ne_init 92 = .ok (.aload_n 0, 1) := by decide +kernel
theorem d_Ne_init_93 : decode b_Ne_init 93 = .ok (.iconst 0, 1) := by decide +kernel
theorem d_Ne_init_94 : decode b_Ne_init 94 = .ok (.putfield 52, 3) := by decide +kernel
theorem d_Ne_init_97 : decode b_Ne_init 97 = .ok (.aload_n 0, 1) := by decide +kernel
theorem d_Ne_init_98 : decode b_Ne_init 98 = .ok (.sipush 145, 3) := by decide +kernel
theorem d_Ne_init_101 : decode b_Ne_init 101 = .ok (.newarray .int, 2) := by decide +kernel
theorem d_Ne_init_103 : decode b_Ne_init 103 = .ok (.putfield 55, 3) := by decide +kernel
theorem d_Ne_init_106 : decode b_Ne_init 106 = .ok (.aload_n 0, 1) := by decide +kernel
theorem d_Ne_init_107 : decode b_Ne_init 107 = .ok (.sipush 144, 3) := by decide +kernel
theorem d_Ne_init_110 : decode b_Ne_init 110 = .ok (.newarray .int, 2) := by decide +kernel
theorem d_Ne_init_112 : decode b_Ne_init 112 = .ok (.putfield 58, 3) := by decide +kernel
theorem d_Ne_init_115 : decode b_Ne_init 115 = .ok (.aload_n 0, 1) := by decide +kernel
theorem d_Ne_init_116 : decode b_Ne_init 116 = .ok (.sipush 144, 3) := by decide +kernel
theorem d_Ne_init_119 : decode b_Ne_init 119 = .ok (.newarray .int, 2) := by decide +kernel
theorem d_Ne_init_121 : decode b_Ne_init 121 = .ok (.putfield 61, 3) := by decide +kernel
theorem d_Ne_init_124 : decode b_Ne_init 124 = .ok (.return_, 1) := by decide +kernel
def wNe (kA : Nat → ClassId) (h : Nat) (q : Nat → Nat) (x : Nat → Int32) (a : Nat → Nat → Int32) : va_W := [(h, .inr (5, [.int (x 0), .int (x 1), .int (x 2), .int (x 3), .ref (q 4), .int (x 5), .int (x 6), .ref (q 7), .ref (q 8), .ref (q 9), .ref (q 10), .ref (q 11), .ref (q 12), .int (x 13), .ref (q 14), .ref (q 15), .ref (q 16)])), (q 4, .inl (kA 0, 48, .inl (a 4))), (q 7, .inl (kA 0, 72, .inl (a 7))), (q 8, .inl (kA 0, 72, .inl (a 8))), (q 9, .inl (kA 0, 25, .inl (a 9))), (q 10, .inl (kA 0, 625, .inl (a 10))), (q 11, .inl (kA 0, 144, .inl (a 11))), (q 12, .inl (kA 0, 25, .inl (a 12))), (q 14, .inl (kA 0, 145, .inl (a 14))), (q 15, .inl (kA 0, 144, .inl (a 15))), (q 16, .inl (kA 0, 144, .inl (a 16)))]
def x0Ne : Nat → Int32 := fun k => match k with | 0 => (-1) | 1 => (-1) | 2 => (-1) | _ => 0
def a0Ne : Nat → Nat → Int32 := fun _ => fun _ => 0
set_option maxRecDepth 100000 in
set_option maxHeartbeats 4000000 in
/-- DrawingHouse$Net()V -/
theorem c_Ne_init (l : Launch) (D : va_G) (kA : Nat → ClassId) (h : Nat) : Cv l y_Ne_init z_Ne_init { frames := 1, cells := 10, slots := 1444, locals := 12 } D classes (TY kA) [.ref h] [[(h, .inr (5, f0Ne))]] (fun u : (Nat → Nat) => True) (fun u => [wNe kA h u x0Ne a0Ne]) 10 1444 := by
  intro sz
  refine k_met (cc := b_Ne_init) (maxL := 1) (ret := none) (by decide) rfl (Nat.le_of_ble_eq_true rfl) (fun p e s m below meth c ls X hl hB => ?_)
  obtain ⟨hsz, hP, hK, hD0, hN⟩ := hB
  subst hsz
  have hD := hD0.self (sz := s.heap.size)
  generalize hAe : va_A (cat [[(h, .inr (5, [.int 0, .int 0, .int 0, .int 0, .null, .int 0, .int 0, .null, .null, .null, .null, .null, .null, .int 0, .null, .null, .null]))]]) s.heap.size = A at hD ⊢
  have hA : ∀ q : Nat, s.heap.size ≤ q → A q := fun q h => by rw [← hAe]; exact Or.inr h
  have hS : va_S A s.heap s.heap [] := va_S.rf
  obtain ⟨hx, hb, hml, hown, hts, hr, hlk, hnm⟩ := id X
  have hl : lv_has ls 1 [(0, .ref h)] := hl
  have hP : va_P D classes (cat [[(h, .inr (5, [.int 0, .int 0, .int 0, .int 0, .null, .int 0, .int 0, .null, .null, .null, .null, .null, .null, .int 0, .null, .null, .null]))]]) s.heap := hP
  have hK : va_K D classes (TY kA) s := hK
  refine lv_aload_n (pc := 0) hx hb d_Ne_init_0 rfl (lv_at hl 0 rfl) ?_
  refine W.objInit hx hb hown (hts _ wm_247) (hts _ wm_31) (hts _ wm_32) rfl (by rw [hml]; exact hl.1) rfl d_Ne_init_1 (Nat.le_of_ble_eq_true rfl) (Nat.le_of_ble_eq_true rfl) ?_
  refine W.eq (g2 := F0 m 4 ls []) rfl ?_
  refine lv_aload_n (pc := 4) hx hb d_Ne_init_4 rfl (lv_at hl 0 rfl) ?_
  refine lv_iconst (pc := 5) (v := -1) hx hb d_Ne_init_5 (by decide) ?_
  refine k_put (pc := 6) X hK hP hD hS 0 rfl rfl i_Ne t_Ne t_Ne_ok n_Ne 0 (by decide) wm_248 rfl (Or.inl rfl) rfl rfl (Nat.le_of_ble_eq_true rfl) d_Ne_init_6 (fun H locs hP hD hS => ?_)
  have hP : va_P D classes (cat [[(h, .inr (5, [.int ((-1)), .int 0, .int 0, .int 0, .null, .int 0, .int 0, .null, .null, .null, .null, .null, .null, .int 0, .null, .null, .null]))]]) H := hP
  have hD : va_D A (cat [[(h, .inr (5, [.int ((-1)), .int 0, .int 0, .int 0, .null, .int 0, .int 0, .null, .null, .null, .null, .null, .null, .int 0, .null, .null, .null]))]]) := hD
  refine lv_aload_n (pc := 9) hx hb d_Ne_init_9 rfl (lv_at hl 0 rfl) ?_
  refine lv_iconst (pc := 10) (v := -1) hx hb d_Ne_init_10 (by decide) ?_
  refine k_put (pc := 11) X hK hP hD hS 0 rfl rfl i_Ne t_Ne t_Ne_ok n_Ne 1 (by decide) wm_251 rfl (Or.inl rfl) rfl rfl (Nat.le_of_ble_eq_true rfl) d_Ne_init_11 (fun H locs hP hD hS => ?_)
  have hP : va_P D classes (cat [[(h, .inr (5, [.int ((-1)), .int ((-1)), .int 0, .int 0, .null, .int 0, .int 0, .null, .null, .null, .null, .null, .null, .int 0, .null, .null, .null]))]]) H := hP
  have hD : va_D A (cat [[(h, .inr (5, [.int ((-1)), .int ((-1)), .int 0, .int 0, .null, .int 0, .int 0, .null, .null, .null, .null, .null, .null, .int 0, .null, .null, .null]))]]) := hD
  refine lv_aload_n (pc := 14) hx hb d_Ne_init_14 rfl (lv_at hl 0 rfl) ?_
  refine lv_iconst (pc := 15) (v := -1) hx hb d_Ne_init_15 (by decide) ?_
  refine k_put (pc := 16) X hK hP hD hS 0 rfl rfl i_Ne t_Ne t_Ne_ok n_Ne 2 (by decide) wm_253 rfl (Or.inl rfl) rfl rfl (Nat.le_of_ble_eq_true rfl) d_Ne_init_16 (fun H locs hP hD hS => ?_)
  have hP : va_P D classes (cat [[(h, .inr (5, [.int ((-1)), .int ((-1)), .int ((-1)), .int 0, .null, .int 0, .int 0, .null, .null, .null, .null, .null, .null, .int 0, .null, .null, .null]))]]) H := hP
  have hD : va_D A (cat [[(h, .inr (5, [.int ((-1)), .int ((-1)), .int ((-1)), .int 0, .null, .int 0, .int 0, .null, .null, .null, .null, .null, .null, .int 0, .null, .null, .null]))]]) := hD
  refine lv_aload_n (pc := 19) hx hb d_Ne_init_19 rfl (lv_at hl 0 rfl) ?_
  refine lv_iconst (pc := 20) (v := 0) hx hb d_Ne_init_20 (by decide) ?_
  refine k_put (pc := 21) X hK hP hD hS 0 rfl rfl i_Ne t_Ne t_Ne_ok n_Ne 3 (by decide) wm_256 rfl (Or.inl rfl) rfl rfl (Nat.le_of_ble_eq_true rfl) d_Ne_init_21 (fun H locs hP hD hS => ?_)
  have hP : va_P D classes (cat [[(h, .inr (5, [.int ((-1)), .int ((-1)), .int ((-1)), .int 0, .null, .int 0, .int 0, .null, .null, .null, .null, .null, .null, .int 0, .null, .null, .null]))]]) H := hP
  have hD : va_D A (cat [[(h, .inr (5, [.int ((-1)), .int ((-1)), .int ((-1)), .int 0, .null, .int 0, .int 0, .null, .null, .null, .null, .null, .null, .int 0, .null, .null, .null]))]]) := hD
  refine lv_aload_n (pc := 24) hx hb d_Ne_init_24 rfl (lv_at hl 0 rfl) ?_
  refine lv_bipush (pc := 25) (v := 48) hx hb d_Ne_init_25 (by decide) ?_
  refine k_newa (pc := 27) (atype := .int) X (ty := .int) (a0 := (48, .inl (fun _ => 0))) rfl rfl wm_193 hK hP hD hS hA 0 rfl (fun _ => rfl) (by decide) rfl (by decide) (Nat.le_of_ble_eq_true rfl) (Nat.le_of_ble_eq_true rfl) d_Ne_init_27 (fun q1 H hP hD hS => ?_)
  have hP : va_P D classes (cat [[(h, .inr (5, [.int ((-1)), .int ((-1)), .int ((-1)), .int 0, .null, .int 0, .int 0, .null, .null, .null, .null, .null, .null, .int 0, .null, .null, .null]))], [(q1, .inl (kA 0, 48, .inl (fun _ => 0)))]]) H := hP
  have hD : va_D A (cat [[(h, .inr (5, [.int ((-1)), .int ((-1)), .int ((-1)), .int 0, .null, .int 0, .int 0, .null, .null, .null, .null, .null, .null, .int 0, .null, .null, .null]))], [(q1, .inl (kA 0, 48, .inl (fun _ => 0)))]]) := hD
  refine W.widen (k := 1) (n := 48) (by omega) (by omega) ?_
  refine k_put (pc := 29) X hK hP hD hS 0 rfl rfl i_Ne t_Ne t_Ne_ok n_Ne 4 (by decide) wm_259 rfl (Or.inr ⟨rfl, rfl⟩) rfl rfl (Nat.le_of_ble_eq_true rfl) d_Ne_init_29 (fun H locs hP hD hS => ?_)
  have hP : va_P D classes (cat [[(h, .inr (5, [.int ((-1)), .int ((-1)), .int ((-1)), .int 0, .ref q1, .int 0, .int 0, .null, .null, .null, .null, .null, .null, .int 0, .null, .null, .null]))], [(q1, .inl (kA 0, 48, .inl (fun _ => 0)))]]) H := hP
  have hD : va_D A (cat [[(h, .inr (5, [.int ((-1)), .int ((-1)), .int ((-1)), .int 0, .ref q1, .int 0, .int 0, .null, .null, .null, .null, .null, .null, .int 0, .null, .null, .null]))], [(q1, .inl (kA 0, 48, .inl (fun _ => 0)))]]) := hD
  refine lv_aload_n (pc := 32) hx hb d_Ne_init_32 rfl (lv_at hl 0 rfl) ?_
  refine lv_iconst (pc := 33) (v := 0) hx hb d_Ne_init_33 (by decide) ?_
  refine k_put (pc := 34) X hK hP hD hS 0 rfl rfl i_Ne t_Ne t_Ne_ok n_Ne 5 (by decide) wm_262 rfl (Or.inl rfl) rfl rfl (Nat.le_of_ble_eq_true rfl) d_Ne_init_34 (fun H locs hP hD hS => ?_)
  have hP : va_P D classes (cat [[(h, .inr (5, [.int ((-1)), .int ((-1)), .int ((-1)), .int 0, .ref q1, .int 0, .int 0, .null, .null, .null, .null, .null, .null, .int 0, .null, .null, .null]))], [(q1, .inl (kA 0, 48, .inl (fun _ => 0)))]]) H := hP
  have hD : va_D A (cat [[(h, .inr (5, [.int ((-1)), .int ((-1)), .int ((-1)), .int 0, .ref q1, .int 0, .int 0, .null, .null, .null, .null, .null, .null, .int 0, .null, .null, .null]))], [(q1, .inl (kA 0, 48, .inl (fun _ => 0)))]]) := hD
  refine lv_aload_n (pc := 37) hx hb d_Ne_init_37 rfl (lv_at hl 0 rfl) ?_
  refine lv_iconst (pc := 38) (v := 0) hx hb d_Ne_init_38 (by decide) ?_
  refine k_put (pc := 39) X hK hP hD hS 0 rfl rfl i_Ne t_Ne t_Ne_ok n_Ne 6 (by decide) wm_265 rfl (Or.inl rfl) rfl rfl (Nat.le_of_ble_eq_true rfl) d_Ne_init_39 (fun H locs hP hD hS => ?_)
  have hP : va_P D classes (cat [[(h, .inr (5, [.int ((-1)), .int ((-1)), .int ((-1)), .int 0, .ref q1, .int 0, .int 0, .null, .null, .null, .null, .null, .null, .int 0, .null, .null, .null]))], [(q1, .inl (kA 0, 48, .inl (fun _ => 0)))]]) H := hP
  have hD : va_D A (cat [[(h, .inr (5, [.int ((-1)), .int ((-1)), .int ((-1)), .int 0, .ref q1, .int 0, .int 0, .null, .null, .null, .null, .null, .null, .int 0, .null, .null, .null]))], [(q1, .inl (kA 0, 48, .inl (fun _ => 0)))]]) := hD
  refine lv_aload_n (pc := 42) hx hb d_Ne_init_42 rfl (lv_at hl 0 rfl) ?_
  refine lv_bipush (pc := 43) (v := 72) hx hb d_Ne_init_43 (by decide) ?_
  refine k_newa (pc := 45) (atype := .int) X (ty := .int) (a0 := (72, .inl (fun _ => 0))) rfl rfl wm_193 hK hP hD hS hA 0 rfl (fun _ => rfl) (by decide) rfl (by decide) (Nat.le_of_ble_eq_true rfl) (Nat.le_of_ble_eq_true rfl) d_Ne_init_45 (fun q2 H hP hD hS => ?_)
  have hP : va_P D classes (cat [[(h, .inr (5, [.int ((-1)), .int ((-1)), .int ((-1)), .int 0, .ref q1, .int 0, .int 0, .null, .null, .null, .null, .null, .null, .int 0, .null, .null, .null]))], [(q1, .inl (kA 0, 48, .inl (fun _ => 0)))], [(q2, .inl (kA 0, 72, .inl (fun _ => 0)))]]) H := hP
  have hD : va_D A (cat [[(h, .inr (5, [.int ((-1)), .int ((-1)), .int ((-1)), .int 0, .ref q1, .int 0, .int 0, .null, .null, .null, .null, .null, .null, .int 0, .null, .null, .null]))], [(q1, .inl (kA 0, 48, .inl (fun _ => 0)))], [(q2, .inl (kA 0, 72, .inl (fun _ => 0)))]]) := hD
  refine W.widen (k := 2) (n := 120) (by omega) (by omega) ?_
  refine k_put (pc := 47) X hK hP hD hS 0 rfl rfl i_Ne t_Ne t_Ne_ok n_Ne 7 (by decide) wm_267 rfl (Or.inr ⟨rfl, rfl⟩) rfl rfl (Nat.le_of_ble_eq_true rfl) d_Ne_init_47 (fun H locs hP hD hS => ?_)
  have hP : va_P D classes (cat [[(h, .inr (5, [.int ((-1)), .int ((-1)), .int ((-1)), .int 0, .ref q1, .int 0, .int 0, .ref q2, .null, .null, .null, .null, .null, .int 0, .null, .null, .null]))], [(q1, .inl (kA 0, 48, .inl (fun _ => 0)))], [(q2, .inl (kA 0, 72, .inl (fun _ => 0)))]]) H := hP
  have hD : va_D A (cat [[(h, .inr (5, [.int ((-1)), .int ((-1)), .int ((-1)), .int 0, .ref q1, .int 0, .int 0, .ref q2, .null, .null, .null, .null, .null, .int 0, .null, .null, .null]))], [(q1, .inl (kA 0, 48, .inl (fun _ => 0)))], [(q2, .inl (kA 0, 72, .inl (fun _ => 0)))]]) := hD
  refine lv_aload_n (pc := 50) hx hb d_Ne_init_50 rfl (lv_at hl 0 rfl) ?_
  refine lv_bipush (pc := 51) (v := 72) hx hb d_Ne_init_51 (by decide) ?_
  refine k_newa (pc := 53) (atype := .int) X (ty := .int) (a0 := (72, .inl (fun _ => 0))) rfl rfl wm_193 hK hP hD hS hA 0 rfl (fun _ => rfl) (by decide) rfl (by decide) (Nat.le_of_ble_eq_true rfl) (Nat.le_of_ble_eq_true rfl) d_Ne_init_53 (fun q3 H hP hD hS => ?_)
  have hP : va_P D classes (cat [[(h, .inr (5, [.int ((-1)), .int ((-1)), .int ((-1)), .int 0, .ref q1, .int 0, .int 0, .ref q2, .null, .null, .null, .null, .null, .int 0, .null, .null, .null]))], [(q1, .inl (kA 0, 48, .inl (fun _ => 0)))], [(q2, .inl (kA 0, 72, .inl (fun _ => 0)))], [(q3, .inl (kA 0, 72, .inl (fun _ => 0)))]]) H := hP
  have hD : va_D A (cat [[(h, .inr (5, [.int ((-1)), .int ((-1)), .int ((-1)), .int 0, .ref q1, .int 0, .int 0, .ref q2, .null, .null, .null, .null, .null, .int 0, .null, .null, .null]))], [(q1, .inl (kA 0, 48, .inl (fun _ => 0)))], [(q2, .inl (kA 0, 72, .inl (fun _ => 0)))], [(q3, .inl (kA 0, 72, .inl (fun _ => 0)))]]) := hD
  refine W.widen (k := 3) (n := 192) (by omega) (by omega) ?_
  refine k_put (pc := 55) X hK hP hD hS 0 rfl rfl i_Ne t_Ne t_Ne_ok n_Ne 8 (by decide) wm_270 rfl (Or.inr ⟨rfl, rfl⟩) rfl rfl (Nat.le_of_ble_eq_true rfl) d_Ne_init_55 (fun H locs hP hD hS => ?_)
  have hP : va_P D classes (cat [[(h, .inr (5, [.int ((-1)), .int ((-1)), .int ((-1)), .int 0, .ref q1, .int 0, .int 0, .ref q2, .ref q3, .null, .null, .null, .null, .int 0, .null, .null, .null]))], [(q1, .inl (kA 0, 48, .inl (fun _ => 0)))], [(q2, .inl (kA 0, 72, .inl (fun _ => 0)))], [(q3, .inl (kA 0, 72, .inl (fun _ => 0)))]]) H := hP
  have hD : va_D A (cat [[(h, .inr (5, [.int ((-1)), .int ((-1)), .int ((-1)), .int 0, .ref q1, .int 0, .int 0, .ref q2, .ref q3, .null, .null, .null, .null, .int 0, .null, .null, .null]))], [(q1, .inl (kA 0, 48, .inl (fun _ => 0)))], [(q2, .inl (kA 0, 72, .inl (fun _ => 0)))], [(q3, .inl (kA 0, 72, .inl (fun _ => 0)))]]) := hD
  refine lv_aload_n (pc := 58) hx hb d_Ne_init_58 rfl (lv_at hl 0 rfl) ?_
  refine lv_bipush (pc := 59) (v := 25) hx hb d_Ne_init_59 (by decide) ?_
  refine k_newa (pc := 61) (atype := .int) X (ty := .int) (a0 := (25, .inl (fun _ => 0))) rfl rfl wm_193 hK hP hD hS hA 0 rfl (fun _ => rfl) (by decide) rfl (by decide) (Nat.le_of_ble_eq_true rfl) (Nat.le_of_ble_eq_true rfl) d_Ne_init_61 (fun q4 H hP hD hS => ?_)
  have hP : va_P D classes (cat [[(h, .inr (5, [.int ((-1)), .int ((-1)), .int ((-1)), .int 0, .ref q1, .int 0, .int 0, .ref q2, .ref q3, .null, .null, .null, .null, .int 0, .null, .null, .null]))], [(q1, .inl (kA 0, 48, .inl (fun _ => 0)))], [(q2, .inl (kA 0, 72, .inl (fun _ => 0)))], [(q3, .inl (kA 0, 72, .inl (fun _ => 0)))], [(q4, .inl (kA 0, 25, .inl (fun _ => 0)))]]) H := hP
  have hD : va_D A (cat [[(h, .inr (5, [.int ((-1)), .int ((-1)), .int ((-1)), .int 0, .ref q1, .int 0, .int 0, .ref q2, .ref q3, .null, .null, .null, .null, .int 0, .null, .null, .null]))], [(q1, .inl (kA 0, 48, .inl (fun _ => 0)))], [(q2, .inl (kA 0, 72, .inl (fun _ => 0)))], [(q3, .inl (kA 0, 72, .inl (fun _ => 0)))], [(q4, .inl (kA 0, 25, .inl (fun _ => 0)))]]) := hD
  refine W.widen (k := 4) (n := 217) (by omega) (by omega) ?_
  refine k_put (pc := 63) X hK hP hD hS 0 rfl rfl i_Ne t_Ne t_Ne_ok n_Ne 9 (by decide) wm_273 rfl (Or.inr ⟨rfl, rfl⟩) rfl rfl (Nat.le_of_ble_eq_true rfl) d_Ne_init_63 (fun H locs hP hD hS => ?_)
  have hP : va_P D classes (cat [[(h, .inr (5, [.int ((-1)), .int ((-1)), .int ((-1)), .int 0, .ref q1, .int 0, .int 0, .ref q2, .ref q3, .ref q4, .null, .null, .null, .int 0, .null, .null, .null]))], [(q1, .inl (kA 0, 48, .inl (fun _ => 0)))], [(q2, .inl (kA 0, 72, .inl (fun _ => 0)))], [(q3, .inl (kA 0, 72, .inl (fun _ => 0)))], [(q4, .inl (kA 0, 25, .inl (fun _ => 0)))]]) H := hP
  have hD : va_D A (cat [[(h, .inr (5, [.int ((-1)), .int ((-1)), .int ((-1)), .int 0, .ref q1, .int 0, .int 0, .ref q2, .ref q3, .ref q4, .null, .null, .null, .int 0, .null, .null, .null]))], [(q1, .inl (kA 0, 48, .inl (fun _ => 0)))], [(q2, .inl (kA 0, 72, .inl (fun _ => 0)))], [(q3, .inl (kA 0, 72, .inl (fun _ => 0)))], [(q4, .inl (kA 0, 25, .inl (fun _ => 0)))]]) := hD
  refine lv_aload_n (pc := 66) hx hb d_Ne_init_66 rfl (lv_at hl 0 rfl) ?_
  refine lv_sipush (pc := 67) (v := 625) hx hb d_Ne_init_67 (by decide) ?_
  refine k_newa (pc := 70) (atype := .int) X (ty := .int) (a0 := (625, .inl (fun _ => 0))) rfl rfl wm_193 hK hP hD hS hA 0 rfl (fun _ => rfl) (by decide) rfl (by decide) (Nat.le_of_ble_eq_true rfl) (Nat.le_of_ble_eq_true rfl) d_Ne_init_70 (fun q5 H hP hD hS => ?_)
  have hP : va_P D classes (cat [[(h, .inr (5, [.int ((-1)), .int ((-1)), .int ((-1)), .int 0, .ref q1, .int 0, .int 0, .ref q2, .ref q3, .ref q4, .null, .null, .null, .int 0, .null, .null, .null]))], [(q1, .inl (kA 0, 48, .inl (fun _ => 0)))], [(q2, .inl (kA 0, 72, .inl (fun _ => 0)))], [(q3, .inl (kA 0, 72, .inl (fun _ => 0)))], [(q4, .inl (kA 0, 25, .inl (fun _ => 0)))], [(q5, .inl (kA 0, 625, .inl (fun _ => 0)))]]) H := hP
  have hD : va_D A (cat [[(h, .inr (5, [.int ((-1)), .int ((-1)), .int ((-1)), .int 0, .ref q1, .int 0, .int 0, .ref q2, .ref q3, .ref q4, .null, .null, .null, .int 0, .null, .null, .null]))], [(q1, .inl (kA 0, 48, .inl (fun _ => 0)))], [(q2, .inl (kA 0, 72, .inl (fun _ => 0)))], [(q3, .inl (kA 0, 72, .inl (fun _ => 0)))], [(q4, .inl (kA 0, 25, .inl (fun _ => 0)))], [(q5, .inl (kA 0, 625, .inl (fun _ => 0)))]]) := hD
  refine W.widen (k := 5) (n := 842) (by omega) (by omega) ?_
  refine k_put (pc := 72) X hK hP hD hS 0 rfl rfl i_Ne t_Ne t_Ne_ok n_Ne 10 (by decide) wm_276 rfl (Or.inr ⟨rfl, rfl⟩) rfl rfl (Nat.le_of_ble_eq_true rfl) d_Ne_init_72 (fun H locs hP hD hS => ?_)
  have hP : va_P D classes (cat [[(h, .inr (5, [.int ((-1)), .int ((-1)), .int ((-1)), .int 0, .ref q1, .int 0, .int 0, .ref q2, .ref q3, .ref q4, .ref q5, .null, .null, .int 0, .null, .null, .null]))], [(q1, .inl (kA 0, 48, .inl (fun _ => 0)))], [(q2, .inl (kA 0, 72, .inl (fun _ => 0)))], [(q3, .inl (kA 0, 72, .inl (fun _ => 0)))], [(q4, .inl (kA 0, 25, .inl (fun _ => 0)))], [(q5, .inl (kA 0, 625, .inl (fun _ => 0)))]]) H := hP
  have hD : va_D A (cat [[(h, .inr (5, [.int ((-1)), .int ((-1)), .int ((-1)), .int 0, .ref q1, .int 0, .int 0, .ref q2, .ref q3, .ref q4, .ref q5, .null, .null, .int 0, .null, .null, .null]))], [(q1, .inl (kA 0, 48, .inl (fun _ => 0)))], [(q2, .inl (kA 0, 72, .inl (fun _ => 0)))], [(q3, .inl (kA 0, 72, .inl (fun _ => 0)))], [(q4, .inl (kA 0, 25, .inl (fun _ => 0)))], [(q5, .inl (kA 0, 625, .inl (fun _ => 0)))]]) := hD
  refine lv_aload_n (pc := 75) hx hb d_Ne_init_75 rfl (lv_at hl 0 rfl) ?_
  refine lv_sipush (pc := 76) (v := 144) hx hb d_Ne_init_76 (by decide) ?_
  refine k_newa (pc := 79) (atype := .int) X (ty := .int) (a0 := (144, .inl (fun _ => 0))) rfl rfl wm_193 hK hP hD hS hA 0 rfl (fun _ => rfl) (by decide) rfl (by decide) (Nat.le_of_ble_eq_true rfl) (Nat.le_of_ble_eq_true rfl) d_Ne_init_79 (fun q6 H hP hD hS => ?_)
  have hP : va_P D classes (cat [[(h, .inr (5, [.int ((-1)), .int ((-1)), .int ((-1)), .int 0, .ref q1, .int 0, .int 0, .ref q2, .ref q3, .ref q4, .ref q5, .null, .null, .int 0, .null, .null, .null]))], [(q1, .inl (kA 0, 48, .inl (fun _ => 0)))], [(q2, .inl (kA 0, 72, .inl (fun _ => 0)))], [(q3, .inl (kA 0, 72, .inl (fun _ => 0)))], [(q4, .inl (kA 0, 25, .inl (fun _ => 0)))], [(q5, .inl (kA 0, 625, .inl (fun _ => 0)))], [(q6, .inl (kA 0, 144, .inl (fun _ => 0)))]]) H := hP
  have hD : va_D A (cat [[(h, .inr (5, [.int ((-1)), .int ((-1)), .int ((-1)), .int 0, .ref q1, .int 0, .int 0, .ref q2, .ref q3, .ref q4, .ref q5, .null, .null, .int 0, .null, .null, .null]))], [(q1, .inl (kA 0, 48, .inl (fun _ => 0)))], [(q2, .inl (kA 0, 72, .inl (fun _ => 0)))], [(q3, .inl (kA 0, 72, .inl (fun _ => 0)))], [(q4, .inl (kA 0, 25, .inl (fun _ => 0)))], [(q5, .inl (kA 0, 625, .inl (fun _ => 0)))], [(q6, .inl (kA 0, 144, .inl (fun _ => 0)))]]) := hD
  refine W.widen (k := 6) (n := 986) (by omega) (by omega) ?_
  refine k_put (pc := 81) X hK hP hD hS 0 rfl rfl i_Ne t_Ne t_Ne_ok n_Ne 11 (by decide) wm_277 rfl (Or.inr ⟨rfl, rfl⟩) rfl rfl (Nat.le_of_ble_eq_true rfl) d_Ne_init_81 (fun H locs hP hD hS => ?_)
  have hP : va_P D classes (cat [[(h, .inr (5, [.int ((-1)), .int ((-1)), .int ((-1)), .int 0, .ref q1, .int 0, .int 0, .ref q2, .ref q3, .ref q4, .ref q5, .ref q6, .null, .int 0, .null, .null, .null]))], [(q1, .inl (kA 0, 48, .inl (fun _ => 0)))], [(q2, .inl (kA 0, 72, .inl (fun _ => 0)))], [(q3, .inl (kA 0, 72, .inl (fun _ => 0)))], [(q4, .inl (kA 0, 25, .inl (fun _ => 0)))], [(q5, .inl (kA 0, 625, .inl (fun _ => 0)))], [(q6, .inl (kA 0, 144, .inl (fun _ => 0)))]]) H := hP
  have hD : va_D A (cat [[(h, .inr (5, [.int ((-1)), .int ((-1)), .int ((-1)), .int 0, .ref q1, .int 0, .int 0, .ref q2, .ref q3, .ref q4, .ref q5, .ref q6, .null, .int 0, .null, .null, .null]))], [(q1, .inl (kA 0, 48, .inl (fun _ => 0)))], [(q2, .inl (kA 0, 72, .inl (fun _ => 0)))], [(q3, .inl (kA 0, 72, .inl (fun _ => 0)))], [(q4, .inl (kA 0, 25, .inl (fun _ => 0)))], [(q5, .inl (kA 0, 625, .inl (fun _ => 0)))], [(q6, .inl (kA 0, 144, .inl (fun _ => 0)))]]) := hD
  refine lv_aload_n (pc := 84) hx hb d_Ne_init_84 rfl (lv_at hl 0 rfl) ?_
  refine lv_bipush (pc := 85) (v := 25) hx hb d_Ne_init_85 (by decide) ?_
  refine k_newa (pc := 87) (atype := .int) X (ty := .int) (a0 := (25, .inl (fun _ => 0))) rfl rfl wm_193 hK hP hD hS hA 0 rfl (fun _ => rfl) (by decide) rfl (by decide) (Nat.le_of_ble_eq_true rfl) (Nat.le_of_ble_eq_true rfl) d_Ne_init_87 (fun q7 H hP hD hS => ?_)
  have hP : va_P D classes (cat [[(h, .inr (5, [.int ((-1)), .int ((-1)), .int ((-1)), .int 0, .ref q1, .int 0, .int 0, .ref q2, .ref q3, .ref q4, .ref q5, .ref q6, .null, .int 0, .null, .null, .null]))], [(q1, .inl (kA 0, 48, .inl (fun _ => 0)))], [(q2, .inl (kA 0, 72, .inl (fun _ => 0)))], [(q3, .inl (kA 0, 72, .inl (fun _ => 0)))], [(q4, .inl (kA 0, 25, .inl (fun _ => 0)))], [(q5, .inl (kA 0, 625, .inl (fun _ => 0)))], [(q6, .inl (kA 0, 144, .inl (fun _ => 0)))], [(q7, .inl (kA 0, 25, .inl (fun _ => 0)))]]) H := hP
  have hD : va_D A (cat [[(h, .inr (5, [.int ((-1)), .int ((-1)), .int ((-1)), .int 0, .ref q1, .int 0, .int 0, .ref q2, .ref q3, .ref q4, .ref q5, .ref q6, .null, .int 0, .null, .null, .null]))], [(q1, .inl (kA 0, 48, .inl (fun _ => 0)))], [(q2, .inl (kA 0, 72, .inl (fun _ => 0)))], [(q3, .inl (kA 0, 72, .inl (fun _ => 0)))], [(q4, .inl (kA 0, 25, .inl (fun _ => 0)))], [(q5, .inl (kA 0, 625, .inl (fun _ => 0)))], [(q6, .inl (kA 0, 144, .inl (fun _ => 0)))], [(q7, .inl (kA 0, 25, .inl (fun _ => 0)))]]) := hD
  refine W.widen (k := 7) (n := 1011) (by omega) (by omega) ?_
  refine k_put (pc := 89) X hK hP hD hS 0 rfl rfl i_Ne t_Ne t_Ne_ok n_Ne 12 (by decide) wm_280 rfl (Or.inr ⟨rfl, rfl⟩) rfl rfl (Nat.le_of_ble_eq_true rfl) d_Ne_init_89 (fun H locs hP hD hS => ?_)
  have hP : va_P D classes (cat [[(h, .inr (5, [.int ((-1)), .int ((-1)), .int ((-1)), .int 0, .ref q1, .int 0, .int 0, .ref q2, .ref q3, .ref q4, .ref q5, .ref q6, .ref q7, .int 0, .null, .null, .null]))], [(q1, .inl (kA 0, 48, .inl (fun _ => 0)))], [(q2, .inl (kA 0, 72, .inl (fun _ => 0)))], [(q3, .inl (kA 0, 72, .inl (fun _ => 0)))], [(q4, .inl (kA 0, 25, .inl (fun _ => 0)))], [(q5, .inl (kA 0, 625, .inl (fun _ => 0)))], [(q6, .inl (kA 0, 144, .inl (fun _ => 0)))], [(q7, .inl (kA 0, 25, .inl (fun _ => 0)))]]) H := hP
  have hD : va_D A (cat [[(h, .inr (5, [.int ((-1)), .int ((-1)), .int ((-1)), .int 0, .ref q1, .int 0, .int 0, .ref q2, .ref q3, .ref q4, .ref q5, .ref q6, .ref q7, .int 0, .null, .null, .null]))], [(q1, .inl (kA 0, 48, .inl (fun _ => 0)))], [(q2, .inl (kA 0, 72, .inl (fun _ => 0)))], [(q3, .inl (kA 0, 72, .inl (fun _ => 0)))], [(q4, .inl (kA 0, 25, .inl (fun _ => 0)))], [(q5, .inl (kA 0, 625, .inl (fun _ => 0)))], [(q6, .inl (kA 0, 144, .inl (fun _ => 0)))], [(q7, .inl (kA 0, 25, .inl (fun _ => 0)))]]) := hD
  refine lv_aload_n (pc := 92) hx hb d_Ne_init_92 rfl (lv_at hl 0 rfl) ?_
  refine lv_iconst (pc := 93) (v := 0) hx hb d_Ne_init_93 (by decide) ?_
  refine k_put (pc := 94) X hK hP hD hS 0 rfl rfl i_Ne t_Ne t_Ne_ok n_Ne 13 (by decide) wm_282 rfl (Or.inl rfl) rfl rfl (Nat.le_of_ble_eq_true rfl) d_Ne_init_94 (fun H locs hP hD hS => ?_)
  have hP : va_P D classes (cat [[(h, .inr (5, [.int ((-1)), .int ((-1)), .int ((-1)), .int 0, .ref q1, .int 0, .int 0, .ref q2, .ref q3, .ref q4, .ref q5, .ref q6, .ref q7, .int 0, .null, .null, .null]))], [(q1, .inl (kA 0, 48, .inl (fun _ => 0)))], [(q2, .inl (kA 0, 72, .inl (fun _ => 0)))], [(q3, .inl (kA 0, 72, .inl (fun _ => 0)))], [(q4, .inl (kA 0, 25, .inl (fun _ => 0)))], [(q5, .inl (kA 0, 625, .inl (fun _ => 0)))], [(q6, .inl (kA 0, 144, .inl (fun _ => 0)))], [(q7, .inl (kA 0, 25, .inl (fun _ => 0)))]]) H := hP
  have hD : va_D A (cat [[(h, .inr (5, [.int ((-1)), .int ((-1)), .int ((-1)), .int 0, .ref q1, .int 0, .int 0, .ref q2, .ref q3, .ref q4, .ref q5, .ref q6, .ref q7, .int 0, .null, .null, .null]))], [(q1, .inl (kA 0, 48, .inl (fun _ => 0)))], [(q2, .inl (kA 0, 72, .inl (fun _ => 0)))], [(q3, .inl (kA 0, 72, .inl (fun _ => 0)))], [(q4, .inl (kA 0, 25, .inl (fun _ => 0)))], [(q5, .inl (kA 0, 625, .inl (fun _ => 0)))], [(q6, .inl (kA 0, 144, .inl (fun _ => 0)))], [(q7, .inl (kA 0, 25, .inl (fun _ => 0)))]]) := hD
  refine lv_aload_n (pc := 97) hx hb d_Ne_init_97 rfl (lv_at hl 0 rfl) ?_
  refine lv_sipush (pc := 98) (v := 145) hx hb d_Ne_init_98 (by decide) ?_
  refine k_newa (pc := 101) (atype := .int) X (ty := .int) (a0 := (145, .inl (fun _ => 0))) rfl rfl wm_193 hK hP hD hS hA 0 rfl (fun _ => rfl) (by decide) rfl (by decide) (Nat.le_of_ble_eq_true rfl) (Nat.le_of_ble_eq_true rfl) d_Ne_init_101 (fun q8 H hP hD hS => ?_)
  have hP : va_P D classes (cat [[(h, .inr (5, [.int ((-1)), .int ((-1)), .int ((-1)), .int 0, .ref q1, .int 0, .int 0, .ref q2, .ref q3, .ref q4, .ref q5, .ref q6, .ref q7, .int 0, .null, .null, .null]))], [(q1, .inl (kA 0, 48, .inl (fun _ => 0)))], [(q2, .inl (kA 0, 72, .inl (fun _ => 0)))], [(q3, .inl (kA 0, 72, .inl (fun _ => 0)))], [(q4, .inl (kA 0, 25, .inl (fun _ => 0)))], [(q5, .inl (kA 0, 625, .inl (fun _ => 0)))], [(q6, .inl (kA 0, 144, .inl (fun _ => 0)))], [(q7, .inl (kA 0, 25, .inl (fun _ => 0)))], [(q8, .inl (kA 0, 145, .inl (fun _ => 0)))]]) H := hP
  have hD : va_D A (cat [[(h, .inr (5, [.int ((-1)), .int ((-1)), .int ((-1)), .int 0, .ref q1, .int 0, .int 0, .ref q2, .ref q3, .ref q4, .ref q5, .ref q6, .ref q7, .int 0, .null, .null, .null]))], [(q1, .inl (kA 0, 48, .inl (fun _ => 0)))], [(q2, .inl (kA 0, 72, .inl (fun _ => 0)))], [(q3, .inl (kA 0, 72, .inl (fun _ => 0)))], [(q4, .inl (kA 0, 25, .inl (fun _ => 0)))], [(q5, .inl (kA 0, 625, .inl (fun _ => 0)))], [(q6, .inl (kA 0, 144, .inl (fun _ => 0)))], [(q7, .inl (kA 0, 25, .inl (fun _ => 0)))], [(q8, .inl (kA 0, 145, .inl (fun _ => 0)))]]) := hD
  refine W.widen (k := 8) (n := 1156) (by omega) (by omega) ?_
  refine k_put (pc := 103) X hK hP hD hS 0 rfl rfl i_Ne t_Ne t_Ne_ok n_Ne 14 (by decide) wm_285 rfl (Or.inr ⟨rfl, rfl⟩) rfl rfl (Nat.le_of_ble_eq_true rfl) d_Ne_init_103 (fun H locs hP hD hS => ?_)
  have hP : va_P D classes (cat [[(h, .inr (5, [.int ((-1)), .int ((-1)), .int ((-1)), .int 0, .ref q1, .int 0, .int 0, .ref q2, .ref q3, .ref q4, .ref q5, .ref q6, .ref q7, .int 0, .ref q8, .null, .null]))], [(q1, .inl (kA 0, 48, .inl (fun _ => 0)))], [(q2, .inl (kA 0, 72, .inl (fun _ => 0)))], [(q3, .inl (kA 0, 72, .inl (fun _ => 0)))], [(q4, .inl (kA 0, 25, .inl (fun _ => 0)))], [(q5, .inl (kA 0, 625, .inl (fun _ => 0)))], [(q6, .inl (kA 0, 144, .inl (fun _ => 0)))], [(q7, .inl (kA 0, 25, .inl (fun _ => 0)))], [(q8, .inl (kA 0, 145, .inl (fun _ => 0)))]]) H := hP
  have hD : va_D A (cat [[(h, .inr (5, [.int ((-1)), .int ((-1)), .int ((-1)), .int 0, .ref q1, .int 0, .int 0, .ref q2, .ref q3, .ref q4, .ref q5, .ref q6, .ref q7, .int 0, .ref q8, .null, .null]))], [(q1, .inl (kA 0, 48, .inl (fun _ => 0)))], [(q2, .inl (kA 0, 72, .inl (fun _ => 0)))], [(q3, .inl (kA 0, 72, .inl (fun _ => 0)))], [(q4, .inl (kA 0, 25, .inl (fun _ => 0)))], [(q5, .inl (kA 0, 625, .inl (fun _ => 0)))], [(q6, .inl (kA 0, 144, .inl (fun _ => 0)))], [(q7, .inl (kA 0, 25, .inl (fun _ => 0)))], [(q8, .inl (kA 0, 145, .inl (fun _ => 0)))]]) := hD
  refine lv_aload_n (pc := 106) hx hb d_Ne_init_106 rfl (lv_at hl 0 rfl) ?_
  refine lv_sipush (pc := 107) (v := 144) hx hb d_Ne_init_107 (by decide) ?_
  refine k_newa (pc := 110) (atype := .int) X (ty := .int) (a0 := (144, .inl (fun _ => 0))) rfl rfl wm_193 hK hP hD hS hA 0 rfl (fun _ => rfl) (by decide) rfl (by decide) (Nat.le_of_ble_eq_true rfl) (Nat.le_of_ble_eq_true rfl) d_Ne_init_110 (fun q9 H hP hD hS => ?_)
  have hP : va_P D classes (cat [[(h, .inr (5, [.int ((-1)), .int ((-1)), .int ((-1)), .int 0, .ref q1, .int 0, .int 0, .ref q2, .ref q3, .ref q4, .ref q5, .ref q6, .ref q7, .int 0, .ref q8, .null, .null]))], [(q1, .inl (kA 0, 48, .inl (fun _ => 0)))], [(q2, .inl (kA 0, 72, .inl (fun _ => 0)))], [(q3, .inl (kA 0, 72, .inl (fun _ => 0)))], [(q4, .inl (kA 0, 25, .inl (fun _ => 0)))], [(q5, .inl (kA 0, 625, .inl (fun _ => 0)))], [(q6, .inl (kA 0, 144, .inl (fun _ => 0)))], [(q7, .inl (kA 0, 25, .inl (fun _ => 0)))], [(q8, .inl (kA 0, 145, .inl (fun _ => 0)))], [(q9, .inl (kA 0, 144, .inl (fun _ => 0)))]]) H := hP
  have hD : va_D A (cat [[(h, .inr (5, [.int ((-1)), .int ((-1)), .int ((-1)), .int 0, .ref q1, .int 0, .int 0, .ref q2, .ref q3, .ref q4, .ref q5, .ref q6, .ref q7, .int 0, .ref q8, .null, .null]))], [(q1, .inl (kA 0, 48, .inl (fun _ => 0)))], [(q2, .inl (kA 0, 72, .inl (fun _ => 0)))], [(q3, .inl (kA 0, 72, .inl (fun _ => 0)))], [(q4, .inl (kA 0, 25, .inl (fun _ => 0)))], [(q5, .inl (kA 0, 625, .inl (fun _ => 0)))], [(q6, .inl (kA 0, 144, .inl (fun _ => 0)))], [(q7, .inl (kA 0, 25, .inl (fun _ => 0)))], [(q8, .inl (kA 0, 145, .inl (fun _ => 0)))], [(q9, .inl (kA 0, 144, .inl (fun _ => 0)))]]) := hD
  refine W.widen (k := 9) (n := 1300) (by omega) (by omega) ?_
  refine k_put (pc := 112) X hK hP hD hS 0 rfl rfl i_Ne t_Ne t_Ne_ok n_Ne 15 (by decide) wm_287 rfl (Or.inr ⟨rfl, rfl⟩) rfl rfl (Nat.le_of_ble_eq_true rfl) d_Ne_init_112 (fun H locs hP hD hS => ?_)
  have hP : va_P D classes (cat [[(h, .inr (5, [.int ((-1)), .int ((-1)), .int ((-1)), .int 0, .ref q1, .int 0, .int 0, .ref q2, .ref q3, .ref q4, .ref q5, .ref q6, .ref q7, .int 0, .ref q8, .ref q9, .null]))], [(q1, .inl (kA 0, 48, .inl (fun _ => 0)))], [(q2, .inl (kA 0, 72, .inl (fun _ => 0)))], [(q3, .inl (kA 0, 72, .inl (fun _ => 0)))], [(q4, .inl (kA 0, 25, .inl (fun _ => 0)))], [(q5, .inl (kA 0, 625, .inl (fun _ => 0)))], [(q6, .inl (kA 0, 144, .inl (fun _ => 0)))], [(q7, .inl (kA 0, 25, .inl (fun _ => 0)))], [(q8, .inl (kA 0, 145, .inl (fun _ => 0)))], [(q9, .inl (kA 0, 144, .inl (fun _ => 0)))]]) H := hP
  have hD : va_D A (cat [[(h, .inr (5, [.int ((-1)), .int ((-1)), .int ((-1)), .int 0, .ref q1, .int 0, .int 0, .ref q2, .ref q3, .ref q4, .ref q5, .ref q6, .ref q7, .int 0, .ref q8, .ref q9, .null]))], [(q1, .inl (kA 0, 48, .inl (fun _ => 0)))], [(q2, .inl (kA 0, 72, .inl (fun _ => 0)))], [(q3, .inl (kA 0, 72, .inl (fun _ => 0)))], [(q4, .inl (kA 0, 25, .inl (fun _ => 0)))], [(q5, .inl (kA 0, 625, .inl (fun _ => 0)))], [(q6, .inl (kA 0, 144, .inl (fun _ => 0)))], [(q7, .inl (kA 0, 25, .inl (fun _ => 0)))], [(q8, .inl (kA 0, 145, .inl (fun _ => 0)))], [(q9, .inl (kA 0, 144, .inl (fun _ => 0)))]]) := hD
  refine lv_aload_n (pc := 115) hx hb d_Ne_init_115 rfl (lv_at hl 0 rfl) ?_
  refine lv_sipush (pc := 116) (v := 144) hx hb d_Ne_init_116 (by decide) ?_
  refine k_newa (pc := 119) (atype := .int) X (ty := .int) (a0 := (144, .inl (fun _ => 0))) rfl rfl wm_193 hK hP hD hS hA 0 rfl (fun _ => rfl) (by decide) rfl (by decide) (Nat.le_of_ble_eq_true rfl) (Nat.le_of_ble_eq_true rfl) d_Ne_init_119 (fun q10 H hP hD hS => ?_)
  have hP : va_P D classes (cat [[(h, .inr (5, [.int ((-1)), .int ((-1)), .int ((-1)), .int 0, .ref q1, .int 0, .int 0, .ref q2, .ref q3, .ref q4, .ref q5, .ref q6, .ref q7, .int 0, .ref q8, .ref q9, .null]))], [(q1, .inl (kA 0, 48, .inl (fun _ => 0)))], [(q2, .inl (kA 0, 72, .inl (fun _ => 0)))], [(q3, .inl (kA 0, 72, .inl (fun _ => 0)))], [(q4, .inl (kA 0, 25, .inl (fun _ => 0)))], [(q5, .inl (kA 0, 625, .inl (fun _ => 0)))], [(q6, .inl (kA 0, 144, .inl (fun _ => 0)))], [(q7, .inl (kA 0, 25, .inl (fun _ => 0)))], [(q8, .inl (kA 0, 145, .inl (fun _ => 0)))], [(q9, .inl (kA 0, 144, .inl (fun _ => 0)))], [(q10, .inl (kA 0, 144, .inl (fun _ => 0)))]]) H := hP
  have hD : va_D A (cat [[(h, .inr (5, [.int ((-1)), .int ((-1)), .int ((-1)), .int 0, .ref q1, .int 0, .int 0, .ref q2, .ref q3, .ref q4, .ref q5, .ref q6, .ref q7, .int 0, .ref q8, .ref q9, .null]))], [(q1, .inl (kA 0, 48, .inl (fun _ => 0)))], [(q2, .inl (kA 0, 72, .inl (fun _ => 0)))], [(q3, .inl (kA 0, 72, .inl (fun _ => 0)))], [(q4, .inl (kA 0, 25, .inl (fun _ => 0)))], [(q5, .inl (kA 0, 625, .inl (fun _ => 0)))], [(q6, .inl (kA 0, 144, .inl (fun _ => 0)))], [(q7, .inl (kA 0, 25, .inl (fun _ => 0)))], [(q8, .inl (kA 0, 145, .inl (fun _ => 0)))], [(q9, .inl (kA 0, 144, .inl (fun _ => 0)))], [(q10, .inl (kA 0, 144, .inl (fun _ => 0)))]]) := hD
  refine W.widen (k := 10) (n := 1444) (by omega) (by omega) ?_
  refine k_put (pc := 121) X hK hP hD hS 0 rfl rfl i_Ne t_Ne t_Ne_ok n_Ne 16 (by decide) wm_289 rfl (Or.inr ⟨rfl, rfl⟩) rfl rfl (Nat.le_of_ble_eq_true rfl) d_Ne_init_121 (fun H locs hP hD hS => ?_)
  have hP : va_P D classes (cat [[(h, .inr (5, [.int ((-1)), .int ((-1)), .int ((-1)), .int 0, .ref q1, .int 0, .int 0, .ref q2, .ref q3, .ref q4, .ref q5, .ref q6, .ref q7, .int 0, .ref q8, .ref q9, .ref q10]))], [(q1, .inl (kA 0, 48, .inl (fun _ => 0)))], [(q2, .inl (kA 0, 72, .inl (fun _ => 0)))], [(q3, .inl (kA 0, 72, .inl (fun _ => 0)))], [(q4, .inl (kA 0, 25, .inl (fun _ => 0)))], [(q5, .inl (kA 0, 625, .inl (fun _ => 0)))], [(q6, .inl (kA 0, 144, .inl (fun _ => 0)))], [(q7, .inl (kA 0, 25, .inl (fun _ => 0)))], [(q8, .inl (kA 0, 145, .inl (fun _ => 0)))], [(q9, .inl (kA 0, 144, .inl (fun _ => 0)))], [(q10, .inl (kA 0, 144, .inl (fun _ => 0)))]]) H := hP
  have hD : va_D A (cat [[(h, .inr (5, [.int ((-1)), .int ((-1)), .int ((-1)), .int 0, .ref q1, .int 0, .int 0, .ref q2, .ref q3, .ref q4, .ref q5, .ref q6, .ref q7, .int 0, .ref q8, .ref q9, .ref q10]))], [(q1, .inl (kA 0, 48, .inl (fun _ => 0)))], [(q2, .inl (kA 0, 72, .inl (fun _ => 0)))], [(q3, .inl (kA 0, 72, .inl (fun _ => 0)))], [(q4, .inl (kA 0, 25, .inl (fun _ => 0)))], [(q5, .inl (kA 0, 625, .inl (fun _ => 0)))], [(q6, .inl (kA 0, 144, .inl (fun _ => 0)))], [(q7, .inl (kA 0, 25, .inl (fun _ => 0)))], [(q8, .inl (kA 0, 145, .inl (fun _ => 0)))], [(q9, .inl (kA 0, 144, .inl (fun _ => 0)))], [(q10, .inl (kA 0, 144, .inl (fun _ => 0)))]]) := hD
  obtain ⟨hP, hD⟩ := k_ord (gc := [[(h, .inr (5, [.int ((-1)), .int ((-1)), .int ((-1)), .int 0, .ref q1, .int 0, .int 0, .ref q2, .ref q3, .ref q4, .ref q5, .ref q6, .ref q7, .int 0, .ref q8, .ref q9, .ref q10]))], [(q1, .inl (kA 0, 48, .inl (fun _ => 0)))], [(q2, .inl (kA 0, 72, .inl (fun _ => 0)))], [(q3, .inl (kA 0, 72, .inl (fun _ => 0)))], [(q4, .inl (kA 0, 25, .inl (fun _ => 0)))], [(q5, .inl (kA 0, 625, .inl (fun _ => 0)))], [(q6, .inl (kA 0, 144, .inl (fun _ => 0)))], [(q7, .inl (kA 0, 25, .inl (fun _ => 0)))], [(q8, .inl (kA 0, 145, .inl (fun _ => 0)))], [(q9, .inl (kA 0, 144, .inl (fun _ => 0)))], [(q10, .inl (kA 0, 144, .inl (fun _ => 0)))]]) hP hD [0, 1, 2, 3, 4, 5, 6, 7, 8, 9, 10] 11 rfl (by decide) rfl
  refine W.widen (k := 10) (n := 1444) (Nat.le_of_ble_eq_true rfl) (Nat.le_of_ble_eq_true rfl) ?_
  exact W.vret hx hb hr (fun t ht hW => ⟨⟨(fun k => match k with | 4 => q1 | 7 => q2 | 8 => q3 | 9 => q4 | 10 => q5 | 11 => q6 | 12 => q7 | 14 => q8 | 15 => q9 | 16 => q10 | _ => 0), rfl, trivial, by rw [ht]; exact hP, va_K.moved hW.alike hK, hD⟩, hS.F ht⟩) hS.2.2 d_Ne_init_124
end
section
theorem wm_463 : (Cond.code ({ cls := "DrawingHouse$Drawing", name := "<init>", desc := "(LDrawingHouse$Graph;)V" } : MethodName) prog_2_method_1_code (2 : Nat) (Option.none : Option ClassFile.FieldType) : Cond) ∈ lw_g := lw_gi (lw_c2 (List.mem_of_getElem? (i := 223) rfl)) rfl
theorem wm_464 : (Cond.methodLink "DrawingHouse$Drawing" (3 : Nat) ({ cls := "java/lang/Object", name := "<init>", desc := "()V" } : MethodName) : Cond) ∈ lw_g := lw_gi (lw_c2 (List.mem_of_getElem? (i := 224) rfl)) rfl
abbrev b_Dr_init : ByteArray := prog_2_method_1_code
def y_Dr_init : MethodName := ⟨"DrawingHouse$Drawing", "<init>", "(LDrawingHouse$Graph;)V"⟩
abbrev z_Dr_init : List Cond := Cond.code y_Dr_init b_Dr_init 2 none :: lw_g
theorem d_Dr_init_0 : decode b_Dr_init 0 = .ok (.aload_n 0, 1) := by decide +kernel
theorem d_Dr_init_1 : decode b_Dr_init 1 = .ok (.invokespecial 3, 3) := by decide +kernel
theorem d_Dr_init_4 : decode b_Dr_init 4 = .ok (.aload_n 0, 1) := by decide +kernel
theorem d_Dr_init_5 : decode b_Dr_init 5 = .ok (.iconst (-1), 1) := by decide +kernel
theorem d_Dr_init_6 : decode b_Dr_init 6 = .ok (.putfield 9, 3) := by decide +kernel
theorem d_Dr_init_9 : decode b_Dr_init 9 = .ok (.aload_n 0, 1) := by decide +kernel
theorem d_Dr_init_10 : decode b_Dr_init 10 = .ok (.bipush 24, 2) := by decide +kernel
theorem d_Dr_init_12 : decode b_Dr_init 12 = .ok (.newarray .int, 2) := by decide +kernel
theorem d_Dr_init_14 : decode b_Dr_init 14 = .ok (.putfield 15, 3) := by decide +kernel
theorem d_Dr_init_17 : decode b_Dr_init 17 = .ok (.aload_n 0, 1) := by decide +kernel
theorem d_Dr_init_18 : decode b_Dr_init 18 = .ok (.bipush 24, 2) := by decide +kernel
theorem d_Dr_init_20 : decode b_Dr_init 20 = .ok (.newarray .int, 2) := by decide +kernel
theorem d_Dr_init_22 : decode b_Dr_init 22 = .ok (.putfield 19, 3) := by decide +kernel
theorem d_Dr_init_25 : decode b_Dr_init 25 = .ok (.aload_n 0, 1) := by decide +kernel
theorem d_Dr_init_26 : decode b_Dr_init 26 = .ok (.bipush 48, 2) := by decide +kernel
theorem d_Dr_init_28 : decode b_Dr_init 28 = .ok (.newarray .int, 2) := by decide +kernel
theorem d_Dr_init_30 : decode b_Dr_init 30 = .ok (.putfield 22, 3) := by decide +kernel
theorem d_Dr_init_33 : decode b_Dr_init 33 = .ok (.aload_n 0, 1) := by decide +kernel
theorem d_Dr_init_34 : decode b_Dr_init 34 = .ok (.sipush 1152, 3) := by decide +kernel
theorem d_Dr_init_37 : decode b_Dr_init 37 = .ok (.newarray .int, 2) := by decide +kernel
theorem d_Dr_init_39 : decode b_Dr_init 39 = .ok (.putfield 25, 3) := by decide +kernel
theorem d_Dr_init_42 : decode b_Dr_init 42 = .ok (.aload_n 0, 1) := by decide +kernel
theorem d_Dr_init_43 : decode b_Dr_init 43 = .ok (.sipush 1152, 3) := by decide +kernel
theorem d_Dr_init_46 : decode b_Dr_init 46 = .ok (.newarray .int, 2) := by decide +kernel
theorem d_Dr_init_48 : decode b_Dr_init 48 = .ok (.putfield 28, 3) := by decide +kernel
theorem d_Dr_init_51 : decode b_Dr_init 51 = .ok (.aload_n 0, 1) := by decide +kernel
theorem d_Dr_init_52 : decode b_Dr_init 52 = .ok (.iconst 0, 1) := by decide +kernel
theorem d_Dr_init_53 : decode b_Dr_init 53 = .ok (.putfield 31, 3) := by decide +kernel
theorem d_Dr_init_56 : decode b_Dr_init 56 = .ok (.aload_n 0, 1) := by decide +kernel
theorem d_Dr_init_57 : decode b_Dr_init 57 = .ok (.iconst 0, 1) := by decide +kernel
theorem d_Dr_init_58 : decode b_Dr_init 58 = .ok (.putfield 34, 3) := by decide +kernel
theorem d_Dr_init_61 : decode b_Dr_init 61 = .ok (.aload_n 0, 1) := by decide +kernel
theorem d_Dr_init_62 : decode b_Dr_init 62 = .ok (.iconst 0, 1) := by decide +kernel
theorem d_Dr_init_63 : decode b_Dr_init 63 = .ok (.putfield 37, 3) := by decide +kernel
theorem d_Dr_init_66 : decode b_Dr_init 66 = .ok (.aload_n 0, 1) := by decide +kernel
theorem d_Dr_init_67 : decode b_Dr_init 67 = .ok (.bipush 24, 2) := by decide +kernel
theorem d_Dr_init_69 : decode b_Dr_init 69 = .ok (.newarray .int, 2) := by decide +kernel
theorem d_Dr_init_71 : decode b_Dr_init 71 = .ok (.putfield 40, 3) := by decide +kernel
theorem d_Dr_init_74 : decode b_Dr_init 74 = .ok (.aload_n 0, 1) := by decide +kernel
theorem d_Dr_init_75 : decode b_Dr_init 75 = .ok (.bipush 48, 2) := by decide +kernel
theorem d_Dr_init_77 : decode b_Dr_init 77 = .ok (.newarray .boolean, 2) := by decide +kernel
theorem d_Dr_init_79 : decode b_Dr_init 79 = .ok (.putfield 43, 3) := by decide +kernel
theorem d_Dr_init_82 : decode b_Dr_init 82 = .ok (.aload_n 0, 1) := by decide +kernel
theorem d_Dr_init_83 : decode b_Dr_init 83 = .ok (.bipush 24, 2) := by decide +kernel
theorem d_Dr_init_85 : decode b_Dr_init 85 = .ok (.newarray .int, 2) := by decide +kernel
theorem d_Dr_init_87 : decode b_Dr_init 87 = .ok (.putfield 47, 3) := by decide +kernel
theorem d_Dr_init_90 : decode b_Dr_init 90 = .ok (.aload_n 0, 1) := by decide +kernel
theorem d_Dr_init_91 : decode b_Dr_init 91 = .ok (.sipush 128, 3) := by decide +kernel
theorem d_Dr_init_94 : decode b_Dr_init 94 = .ok (.newarray .int, 2) := by decide +kernel
theorem d_Dr_init_96 : decode b_Dr_init 96 = .ok (.putfield 50, 3) := by decide +kernel
theorem d_Dr_init_99 : decode b_Dr_init 99 = .ok (.aload_n 0, 1) := by decide +kernel
theorem d_Dr_init_100 : decode b_Dr_init 100 = .ok (.sipush 216, 3) := by decide +kernel
theorem d_Dr_init_103 : decode b_Dr_init 103 = .ok (.newarray .int, 2) := by decide +kernel
theorem d_Dr_init_105 : decode b_Dr_init 105 = .ok (.putfield 53, 3) := by decide +kernel
theorem d_Dr_init_108 : decode b_Dr_init 108 = .ok (.aload_n 0, 1) := by decide +kernel
theorem d_Dr_init_109 : decode b_Dr_init 109 = .ok (.bipush 48, 2) := by decide +kernel
theorem d_Dr_init_111 : decode b_Dr_init 111 = .ok (.newarray .int, 2) := by decide +kernel
theorem d_Dr_init_113 : decode b_Dr_init 113 = .ok (.putfield 56, 3) := by decide +kernel
theorem d_Dr_init_116 : decode b_Dr_init 116 = .ok (.aload_n 0, 1) := by decide +kernel
theorem d_Dr_init_117 : decode b_Dr_init 117 = .ok (.bipush 48, 2) := by decide +kernel
theorem d_Dr_init_119 : decode b_Dr_init 119 = .ok (.newarray .int, 2) := by decide +kernel
theorem d_Dr_init_121 : decode b_Dr_init 121 = .ok (.putfield 59, 3) := by decide +kernel
theorem d_Dr_init_124 : decode b_Dr_init 124 = .ok (.aload_n 0, 1) := by decide +kernel
theorem d_Dr_init_125 : decode b_Dr_init 125 = .ok (.iconst 0, 1) := by decide +kernel
theorem d_Dr_init_126 : decode b_Dr_init 126 = .ok (.putfield 62, 3) := by decide +kernel
theorem d_Dr_init_129 : decode b_Dr_init 129 = .ok (.aload_n 0, 1) := by decide +kernel
theorem d_Dr_init_130 : decode b_Dr_init 130 = .ok (.iconst 0, 1) := by decide +kernel
theorem d_Dr_init_131 : decode b_Dr_init 131 = .ok (.putfield 65, 3) := by decide +kernel
theorem d_Dr_init_134 : decode b_Dr_init 134 = .ok (.aload_n 0, 1) := by decide +kernel
theorem d_Dr_init_135 : decode b_Dr_init 135 = .ok (.iconst 0, 1) := by decide +kernel
theorem d_Dr_init_136 : decode b_Dr_init 136 = .ok (.putfield 68, 3) := by decide +kernel
theorem d_Dr_init_139 : decode b_Dr_init 139 = .ok (.aload_n 0, 1) := by decide +kernel
theorem d_Dr_init_140 : decode b_Dr_init 140 = .ok (.iconst 0, 1) := by decide +kernel
theorem d_Dr_init_141 : decode b_Dr_init 141 = .ok (.putfield 71, 3) := by decide +kernel
theorem d_Dr_init_144 : decode b_Dr_init 144 = .ok (.aload_n 0, 1) := by decide +kernel
theorem d_Dr_init_145 : decode b_Dr_init 145 = .ok (.aload_n 1, 1) := by decide +kernel
theorem d_Dr_init_146 : decode b_Dr_init 146 = .ok (.putfield 74, 3) := by decide +kernel
theorem d_Dr_init_149 : decode b_Dr_init 149 = .ok (.return_, 1) := by decide +kernel
abbrev f0Dr : List Value := [.null, .int 0, .null, .null, .null, .null, .null, .int 0, .int 0, .int 0, .null, .null, .null, .null, .null, .null, .null, .int 0, .int 0, .int 0, .int 0]
set_option maxRecDepth 20000 in
theorem f0Dr_ok : ∀ j, j < 21 → defaultValue (t_Dr j) = vp_V f0Dr j := by decide +kernel
def wDr (kA : Nat → ClassId) (h : Nat) (q : Nat → Nat) (x : Nat → Int32) (a : Nat → Nat → Int32) : va_W := [(h, .inr (0, [.ref (q 0), .int (x 1), .ref (q 2), .ref (q 3), .ref (q 4), .ref (q 5), .ref (q 6), .int (x 7), .int (x 8), .int (x 9), .ref (q 10), .ref (q 11), .ref (q 12), .ref (q 13), .ref (q 14), .ref (q 15), .ref (q 16), .int (x 17), .int (x 18), .int (x 19), .int (x 20)])), (q 2, .inl (kA 0, 24, .inl (a 2))), (q 3, .inl (kA 0, 24, .inl (a 3))), (q 4, .inl (kA 0, 48, .inl (a 4))), (q 5, .inl (kA 0, 1152, .inl (a 5))), (q 6, .inl (kA 0, 1152, .inl (a 6))), (q 10, .inl (kA 0, 24, .inl (a 10))), (q 11, .inl (kA 2, 48, .inl (a 11))), (q 12, .inl (kA 0, 24, .inl (a 12))), (q 13, .inl (kA 0, 128, .inl (a 13))), (q 14, .inl (kA 0, 216, .inl (a 14))), (q 15, .inl (kA 0, 48, .inl (a 15))), (q 16, .inl (kA 0, 48, .inl (a 16)))]
def x0Dr : Nat → Int32 := fun k => match k with | 1 => (-1) | _ => 0
def a0Dr : Nat → Nat → Int32 := fun _ => fun _ => 0
set_option maxRecDepth 100000 in
set_option maxHeartbeats 4000000 in
/-- DrawingHouse$Drawing(LDrawingHouse$Graph;)V -/
theorem c_Dr_init (l : Launch) (D : va_G) (kA : Nat → ClassId) (h : Nat) (p1 : Nat) : Cv l y_Dr_init z_Dr_init { frames := 1, cells := 12, slots := 2936, locals := 12 } D classes (TY kA) [.ref h, .ref p1] [[(h, .inr (0, f0Dr))]] (fun u : (Nat → Nat) => u 0 = p1) (fun u => [wDr kA h u x0Dr a0Dr]) 12 2936 := by
  intro sz
  refine k_met (cc := b_Dr_init) (maxL := 2) (ret := none) (by decide) rfl (Nat.le_of_ble_eq_true rfl) (fun p e s m below meth c ls X hl hB => ?_)
  obtain ⟨hsz, hP, hK, hD0, hN⟩ := hB
  subst hsz
  have hD := hD0.self (sz := s.heap.size)
  generalize hAe : va_A (cat [[(h, .inr (0, [.null, .int 0, .null, .null, .null, .null, .null, .int 0, .int 0, .int 0, .null, .null, .null, .null, .null, .null, .null, .int 0, .int 0, .int 0, .int 0]))]]) s.heap.size = A at hD ⊢
  have hA : ∀ q : Nat, s.heap.size ≤ q → A q := fun q h => by rw [← hAe]; exact Or.inr h
  have hS : va_S A s.heap s.heap [] := va_S.rf
  obtain ⟨hx, hb, hml, hown, hts, hr, hlk, hnm⟩ := id X
  have hl : lv_has ls 2 [(0, .ref h), (1, .ref p1)] := hl
  have hP : va_P D classes (cat [[(h, .inr (0, [.null, .int 0, .null, .null, .null, .null, .null, .int 0, .int 0, .int 0, .null, .null, .null, .null, .null, .null, .null, .int 0, .int 0, .int 0, .int 0]))]]) s.heap := hP
  have hK : va_K D classes (TY kA) s := hK
  refine lv_aload_n (pc := 0) hx hb d_Dr_init_0 rfl (lv_at hl 0 rfl) ?_
  refine W.objInit hx hb hown (hts _ wm_464) (hts _ wm_31) (hts _ wm_32) rfl (by rw [hml]; exact hl.1) rfl d_Dr_init_1 (Nat.le_of_ble_eq_true rfl) (Nat.le_of_ble_eq_true rfl) ?_
  refine W.eq (g2 := F0 m 4 ls []) rfl ?_
  refine lv_aload_n (pc := 4) hx hb d_Dr_init_4 rfl (lv_at hl 0 rfl) ?_
  refine lv_iconst (pc := 5) (v := -1) hx hb d_Dr_init_5 (by decide) ?_
  refine k_put (pc := 6) X hK hP hD hS 0 rfl rfl i_Dr t_Dr t_Dr_ok n_Dr 1 (by decide) wm_466 rfl (Or.inl rfl) rfl rfl (Nat.le_of_ble_eq_true rfl) d_Dr_init_6 (fun H locs hP hD hS => ?_)
  have hP : va_P D classes (cat [[(h, .inr (0, [.null, .int ((-1)), .null, .null, .null, .null, .null, .int 0, .int 0, .int 0, .null, .null, .null, .null, .null, .null, .null, .int 0, .int 0, .int 0, .int 0]))]]) H := hP
  have hD : va_D A (cat [[(h, .inr (0, [.null, .int ((-1)), .null, .null, .null, .null, .null, .int 0, .int 0, .int 0, .null, .null, .null, .null, .null, .null, .null, .int 0, .int 0, .int 0, .int 0]))]]) := hD
  refine lv_aload_n (pc := 9) hx hb d_Dr_init_9 rfl (lv_at hl 0 rfl) ?_
  refine lv_bipush (pc := 10) (v := 24) hx hb d_Dr_init_10 (by decide) ?_
  refine k_newa (pc := 12) (atype := .int) X (ty := .int) (a0 := (24, .inl (fun _ => 0))) rfl rfl wm_193 hK hP hD hS hA 0 rfl (fun _ => rfl) (by decide) rfl (by decide) (Nat.le_of_ble_eq_true rfl) (Nat.le_of_ble_eq_true rfl) d_Dr_init_12 (fun q1 H hP hD hS => ?_)
  have hP : va_P D classes (cat [[(h, .inr (0, [.null, .int ((-1)), .null, .null, .null, .null, .null, .int 0, .int 0, .int 0, .null, .null, .null, .null, .null, .null, .null, .int 0, .int 0, .int 0, .int 0]))], [(q1, .inl (kA 0, 24, .inl (fun _ => 0)))]]) H := hP
  have hD : va_D A (cat [[(h, .inr (0, [.null, .int ((-1)), .null, .null, .null, .null, .null, .int 0, .int 0, .int 0, .null, .null, .null, .null, .null, .null, .null, .int 0, .int 0, .int 0, .int 0]))], [(q1, .inl (kA 0, 24, .inl (fun _ => 0)))]]) := hD
  refine W.widen (k := 1) (n := 24) (by omega) (by omega) ?_
  refine k_put (pc := 14) X hK hP hD hS 0 rfl rfl i_Dr t_Dr t_Dr_ok n_Dr 2 (by decide) wm_469 rfl (Or.inr ⟨rfl, rfl⟩) rfl rfl (Nat.le_of_ble_eq_true rfl) d_Dr_init_14 (fun H locs hP hD hS => ?_)
  have hP : va_P D classes (cat [[(h, .inr (0, [.null, .int ((-1)), .ref q1, .null, .null, .null, .null, .int 0, .int 0, .int 0, .null, .null, .null, .null, .null, .null, .null, .int 0, .int 0, .int 0, .int 0]))], [(q1, .inl (kA 0, 24, .inl (fun _ => 0)))]]) H := hP
  have hD : va_D A (cat [[(h, .inr (0, [.null, .int ((-1)), .ref q1, .null, .null, .null, .null, .int 0, .int 0, .int 0, .null, .null, .null, .null, .null, .null, .null, .int 0, .int 0, .int 0, .int 0]))], [(q1, .inl (kA 0, 24, .inl (fun _ => 0)))]]) := hD
  refine lv_aload_n (pc := 17) hx hb d_Dr_init_17 rfl (lv_at hl 0 rfl) ?_
  refine lv_bipush (pc := 18) (v := 24) hx hb d_Dr_init_18 (by decide) ?_
  refine k_newa (pc := 20) (atype := .int) X (ty := .int) (a0 := (24, .inl (fun _ => 0))) rfl rfl wm_193 hK hP hD hS hA 0 rfl (fun _ => rfl) (by decide) rfl (by decide) (Nat.le_of_ble_eq_true rfl) (Nat.le_of_ble_eq_true rfl) d_Dr_init_20 (fun q2 H hP hD hS => ?_)
  have hP : va_P D classes (cat [[(h, .inr (0, [.null, .int ((-1)), .ref q1, .null, .null, .null, .null, .int 0, .int 0, .int 0, .null, .null, .null, .null, .null, .null, .null, .int 0, .int 0, .int 0, .int 0]))], [(q1, .inl (kA 0, 24, .inl (fun _ => 0)))], [(q2, .inl (kA 0, 24, .inl (fun _ => 0)))]]) H := hP
  have hD : va_D A (cat [[(h, .inr (0, [.null, .int ((-1)), .ref q1, .null, .null, .null, .null, .int 0, .int 0, .int 0, .null, .null, .null, .null, .null, .null, .null, .int 0, .int 0, .int 0, .int 0]))], [(q1, .inl (kA 0, 24, .inl (fun _ => 0)))], [(q2, .inl (kA 0, 24, .inl (fun _ => 0)))]]) := hD
  refine W.widen (k := 2) (n := 48) (by omega) (by omega) ?_
  refine k_put (pc := 22) X hK hP hD hS 0 rfl rfl i_Dr t_Dr t_Dr_ok n_Dr 3 (by decide) wm_476 rfl (Or.inr ⟨rfl, rfl⟩) rfl rfl (Nat.le_of_ble_eq_true rfl) d_Dr_init_22 (fun H locs hP hD hS => ?_)
  have hP : va_P D classes (cat [[(h, .inr (0, [.null, .int ((-1)), .ref q1, .ref q2, .null, .null, .null, .int 0, .int 0, .int 0, .null, .null, .null, .null, .null, .null, .null, .int 0, .int 0, .int 0, .int 0]))], [(q1, .inl (kA 0, 24, .inl (fun _ => 0)))], [(q2, .inl (kA 0, 24, .inl (fun _ => 0)))]]) H := hP
  have hD : va_D A (cat [[(h, .inr (0, [.null, .int ((-1)), .ref q1, .ref q2, .null, .null, .null, .int 0, .int 0, .int 0, .null, .null, .null, .null, .null, .null, .null, .int 0, .int 0, .int 0, .int 0]))], [(q1, .inl (kA 0, 24, .inl (fun _ => 0)))], [(q2, .inl (kA 0, 24, .inl (fun _ => 0)))]]) := hD
  refine lv_aload_n (pc := 25) hx hb d_Dr_init_25 rfl (lv_at hl 0 rfl) ?_
  refine lv_bipush (pc := 26) (v := 48) hx hb d_Dr_init_26 (by decide) ?_
  refine k_newa (pc := 28) (atype := .int) X (ty := .int) (a0 := (48, .inl (fun _ => 0))) rfl rfl wm_193 hK hP hD hS hA 0 rfl (fun _ => rfl) (by decide) rfl (by decide) (Nat.le_of_ble_eq_true rfl) (Nat.le_of_ble_eq_true rfl) d_Dr_init_28 (fun q3 H hP hD hS => ?_)
  have hP : va_P D classes (cat [[(h, .inr (0, [.null, .int ((-1)), .ref q1, .ref q2, .null, .null, .null, .int 0, .int 0, .int 0, .null, .null, .null, .null, .null, .null, .null, .int 0, .int 0, .int 0, .int 0]))], [(q1, .inl (kA 0, 24, .inl (fun _ => 0)))], [(q2, .inl (kA 0, 24, .inl (fun _ => 0)))], [(q3, .inl (kA 0, 48, .inl (fun _ => 0)))]]) H := hP
  have hD : va_D A (cat [[(h, .inr (0, [.null, .int ((-1)), .ref q1, .ref q2, .null, .null, .null, .int 0, .int 0, .int 0, .null, .null, .null, .null, .null, .null, .null, .int 0, .int 0, .int 0, .int 0]))], [(q1, .inl (kA 0, 24, .inl (fun _ => 0)))], [(q2, .inl (kA 0, 24, .inl (fun _ => 0)))], [(q3, .inl (kA 0, 48, .inl (fun _ => 0)))]]) := hD
  refine W.widen (k := 3) (n := 96) (by omega) (by omega) ?_
  refine k_put (pc := 30) X hK hP hD hS 0 rfl rfl i_Dr t_Dr t_Dr_ok n_Dr 4 (by decide) wm_483 rfl (Or.inr ⟨rfl, rfl⟩) rfl rfl (Nat.le_of_ble_eq_true rfl) d_Dr_init_30 (fun H locs hP hD hS => ?_)
  have hP : va_P D classes (cat [[(h, .inr (0, [.null, .int ((-1)), .ref q1, .ref q2, .ref q3, .null, .null, .int 0, .int 0, .int 0, .null, .null, .null, .null, .null, .null, .null, .int 0, .int 0, .int 0, .int 0]))], [(q1, .inl (kA 0, 24, .inl (fun _ => 0)))], [(q2, .inl (kA 0, 24, .inl (fun _ => 0)))], [(q3, .inl (kA 0, 48, .inl (fun _ => 0)))]]) H := hP
  have hD : va_D A (cat [[(h, .inr (0, [.null, .int ((-1)), .ref q1, .ref q2, .ref q3, .null, .null, .int 0, .int 0, .int 0, .null, .null, .null, .null, .null, .null, .null, .int 0, .int 0, .int 0, .int 0]))], [(q1, .inl (kA 0, 24, .inl (fun _ => 0)))], [(q2, .inl (kA 0, 24, .inl (fun _ => 0)))], [(q3, .inl (kA 0, 48, .inl (fun _ => 0)))]]) := hD
  refine lv_aload_n (pc := 33) hx hb d_Dr_init_33 rfl (lv_at hl 0 rfl) ?_
  refine lv_sipush (pc := 34) (v := 1152) hx hb d_Dr_init_34 (by decide) ?_
  refine k_newa (pc := 37) (atype := .int) X (ty := .int) (a0 := (1152, .inl (fun _ => 0))) rfl rfl wm_193 hK hP hD hS hA 0 rfl (fun _ => rfl) (by decide) rfl (by decide) (Nat.le_of_ble_eq_true rfl) (Nat.le_of_ble_eq_true rfl) d_Dr_init_37 (fun q4 H hP hD hS => ?_)
  have hP : va_P D classes (cat [[(h, .inr (0, [.null, .int ((-1)), .ref q1, .ref q2, .ref q3, .null, .null, .int 0, .int 0, .int 0, .null, .null, .null, .null, .null, .null, .null, .int 0, .int 0, .int 0, .int 0]))], [(q1, .inl (kA 0, 24, .inl (fun _ => 0)))], [(q2, .inl (kA 0, 24, .inl (fun _ => 0)))], [(q3, .inl (kA 0, 48, .inl (fun _ => 0)))], [(q4, .inl (kA 0, 1152, .inl (fun _ => 0)))]]) H := hP
  have hD : va_D A (cat [[(h, .inr (0, [.null, .int ((-1)), .ref q1, .ref q2, .ref q3, .null, .null, .int 0, .int 0, .int 0, .null, .null, .null, .null, .null, .null, .null, .int 0, .int 0, .int 0, .int 0]))], [(q1, .inl (kA 0, 24, .inl (fun _ => 0)))], [(q2, .inl (kA 0, 24, .inl (fun _ => 0)))], [(q3, .inl (kA 0, 48, .inl (fun _ => 0)))], [(q4, .inl (kA 0, 1152, .inl (fun _ => 0)))]]) := hD
  refine W.widen (k := 4) (n := 1248) (by omega) (by omega) ?_
  refine k_put (pc := 39) X hK hP hD hS 0 rfl rfl i_Dr t_Dr t_Dr_ok n_Dr 5 (by decide) wm_486 rfl (Or.inr ⟨rfl, rfl⟩) rfl rfl (Nat.le_of_ble_eq_true rfl) d_Dr_init_39 (fun H locs hP hD hS => ?_)
  have hP : va_P D classes (cat [[(h, .inr (0, [.null, .int ((-1)), .ref q1, .ref q2, .ref q3, .ref q4, .null, .int 0, .int 0, .int 0, .null, .null, .null, .null, .null, .null, .null, .int 0, .int 0, .int 0, .int 0]))], [(q1, .inl (kA 0, 24, .inl (fun _ => 0)))], [(q2, .inl (kA 0, 24, .inl (fun _ => 0)))], [(q3, .inl (kA 0, 48, .inl (fun _ => 0)))], [(q4, .inl (kA 0, 1152, .inl (fun _ => 0)))]]) H := hP
  have hD : va_D A (cat [[(h, .inr (0, [.null, .int ((-1)), .ref q1, .ref q2, .ref q3, .ref q4, .null, .int 0, .int 0, .int 0, .null, .null, .null, .null, .null, .null, .null, .int 0, .int 0, .int 0, .int 0]))], [(q1, .inl (kA 0, 24, .inl (fun _ => 0)))], [(q2, .inl (kA 0, 24, .inl (fun _ => 0)))], [(q3, .inl (kA 0, 48, .inl (fun _ => 0)))], [(q4, .inl (kA 0, 1152, .inl (fun _ => 0)))]]) := hD
  refine lv_aload_n (pc := 42) hx hb d_Dr_init_42 rfl (lv_at hl 0 rfl) ?_
  refine lv_sipush (pc := 43) (v := 1152) hx hb d_Dr_init_43 (by decide) ?_
  refine k_newa (pc := 46) (atype := .int) X (ty := .int) (a0 := (1152, .inl (fun _ => 0))) rfl rfl wm_193 hK hP hD hS hA 0 rfl (fun _ => rfl) (by decide) rfl (by decide) (Nat.le_of_ble_eq_true rfl) (Nat.le_of_ble_eq_true rfl) d_Dr_init_46 (fun q5 H hP hD hS => ?_)
  have hP : va_P D classes (cat [[(h, .inr (0, [.null, .int ((-1)), .ref q1, .ref q2, .ref q3, .ref q4, .null, .int 0, .int 0, .int 0, .null, .null, .null, .null, .null, .null, .null, .int 0, .int 0, .int 0, .int 0]))], [(q1, .inl (kA 0, 24, .inl (fun _ => 0)))], [(q2, .inl (kA 0, 24, .inl (fun _ => 0)))], [(q3, .inl (kA 0, 48, .inl (fun _ => 0)))], [(q4, .inl (kA 0, 1152, .inl (fun _ => 0)))], [(q5, .inl (kA 0, 1152, .inl (fun _ => 0)))]]) H := hP
  have hD : va_D A (cat [[(h, .inr (0, [.null, .int ((-1)), .ref q1, .ref q2, .ref q3, .ref q4, .null, .int 0, .int 0, .int 0, .null, .null, .null, .null, .null, .null, .null, .int 0, .int 0, .int 0, .int 0]))], [(q1, .inl (kA 0, 24, .inl (fun _ => 0)))], [(q2, .inl (kA 0, 24, .inl (fun _ => 0)))], [(q3, .inl (kA 0, 48, .inl (fun _ => 0)))], [(q4, .inl (kA 0, 1152, .inl (fun _ => 0)))], [(q5, .inl (kA 0, 1152, .inl (fun _ => 0)))]]) := hD
  refine W.widen (k := 5) (n := 2400) (by omega) (by omega) ?_
  refine k_put (pc := 48) X hK hP hD hS 0 rfl rfl i_Dr t_Dr t_Dr_ok n_Dr 6 (by decide) wm_487 rfl (Or.inr ⟨rfl, rfl⟩) rfl rfl (Nat.le_of_ble_eq_true rfl) d_Dr_init_48 (fun H locs hP hD hS => ?_)
  have hP : va_P D classes (cat [[(h, .inr (0, [.null, .int ((-1)), .ref q1, .ref q2, .ref q3, .ref q4, .ref q5, .int 0, .int 0, .int 0, .null, .null, .null, .null, .null, .null, .null, .int 0, .int 0, .int 0, .int 0]))], [(q1, .inl (kA 0, 24, .inl (fun _ => 0)))], [(q2, .inl (kA 0, 24, .inl (fun _ => 0)))], [(q3, .inl (kA 0, 48, .inl (fun _ => 0)))], [(q4, .inl (kA 0, 1152, .inl (fun _ => 0)))], [(q5, .inl (kA 0, 1152, .inl (fun _ => 0)))]]) H := hP
  have hD : va_D A (cat [[(h, .inr (0, [.null, .int ((-1)), .ref q1, .ref q2, .ref q3, .ref q4, .ref q5, .int 0, .int 0, .int 0, .null, .null, .null, .null, .null, .null, .null, .int 0, .int 0, .int 0, .int 0]))], [(q1, .inl (kA 0, 24, .inl (fun _ => 0)))], [(q2, .inl (kA 0, 24, .inl (fun _ => 0)))], [(q3, .inl (kA 0, 48, .inl (fun _ => 0)))], [(q4, .inl (kA 0, 1152, .inl (fun _ => 0)))], [(q5, .inl (kA 0, 1152, .inl (fun _ => 0)))]]) := hD
  refine lv_aload_n (pc := 51) hx hb d_Dr_init_51 rfl (lv_at hl 0 rfl) ?_
  refine lv_iconst (pc := 52) (v := 0) hx hb d_Dr_init_52 (by decide) ?_
  refine k_put (pc := 53) X hK hP hD hS 0 rfl rfl i_Dr t_Dr t_Dr_ok n_Dr 7 (by decide) wm_488 rfl (Or.inl rfl) rfl rfl (Nat.le_of_ble_eq_true rfl) d_Dr_init_53 (fun H locs hP hD hS => ?_)
  have hP : va_P D classes (cat [[(h, .inr (0, [.null, .int ((-1)), .ref q1, .ref q2, .ref q3, .ref q4, .ref q5, .int 0, .int 0, .int 0, .null, .null, .null, .null, .null, .null, .null, .int 0, .int 0, .int 0, .int 0]))], [(q1, .inl (kA 0, 24, .inl (fun _ => 0)))], [(q2, .inl (kA 0, 24, .inl (fun _ => 0)))], [(q3, .inl (kA 0, 48, .inl (fun _ => 0)))], [(q4, .inl (kA 0, 1152, .inl (fun _ => 0)))], [(q5, .inl (kA 0, 1152, .inl (fun _ => 0)))]]) H := hP
  have hD : va_D A (cat [[(h, .inr (0, [.null, .int ((-1)), .ref q1, .ref q2, .ref q3, .ref q4, .ref q5, .int 0, .int 0, .int 0, .null, .null, .null, .null, .null, .null, .null, .int 0, .int 0, .int 0, .int 0]))], [(q1, .inl (kA 0, 24, .inl (fun _ => 0)))], [(q2, .inl (kA 0, 24, .inl (fun _ => 0)))], [(q3, .inl (kA 0, 48, .inl (fun _ => 0)))], [(q4, .inl (kA 0, 1152, .inl (fun _ => 0)))], [(q5, .inl (kA 0, 1152, .inl (fun _ => 0)))]]) := hD
  refine lv_aload_n (pc := 56) hx hb d_Dr_init_56 rfl (lv_at hl 0 rfl) ?_
  refine lv_iconst (pc := 57) (v := 0) hx hb d_Dr_init_57 (by decide) ?_
  refine k_put (pc := 58) X hK hP hD hS 0 rfl rfl i_Dr t_Dr t_Dr_ok n_Dr 8 (by decide) wm_491 rfl (Or.inl rfl) rfl rfl (Nat.le_of_ble_eq_true rfl) d_Dr_init_58 (fun H locs hP hD hS => ?_)
  have hP : va_P D classes (cat [[(h, .inr (0, [.null, .int ((-1)), .ref q1, .ref q2, .ref q3, .ref q4, .ref q5, .int 0, .int 0, .int 0, .null, .null, .null, .null, .null, .null, .null, .int 0, .int 0, .int 0, .int 0]))], [(q1, .inl (kA 0, 24, .inl (fun _ => 0)))], [(q2, .inl (kA 0, 24, .inl (fun _ => 0)))], [(q3, .inl (kA 0, 48, .inl (fun _ => 0)))], [(q4, .inl (kA 0, 1152, .inl (fun _ => 0)))], [(q5, .inl (kA 0, 1152, .inl (fun _ => 0)))]]) H := hP
  have hD : va_D A (cat [[(h, .inr (0, [.null, .int ((-1)), .ref q1, .ref q2, .ref q3, .ref q4, .ref q5, .int 0, .int 0, .int 0, .null, .null, .null, .null, .null, .null, .null, .int 0, .int 0, .int 0, .int 0]))], [(q1, .inl (kA 0, 24, .inl (fun _ => 0)))], [(q2, .inl (kA 0, 24, .inl (fun _ => 0)))], [(q3, .inl (kA 0, 48, .inl (fun _ => 0)))], [(q4, .inl (kA 0, 1152, .inl (fun _ => 0)))], [(q5, .inl (kA 0, 1152, .inl (fun _ => 0)))]]) := hD
  refine lv_aload_n (pc := 61) hx hb d_Dr_init_61 rfl (lv_at hl 0 rfl) ?_
  refine lv_iconst (pc := 62) (v := 0) hx hb d_Dr_init_62 (by decide) ?_
  refine k_put (pc := 63) X hK hP hD hS 0 rfl rfl i_Dr t_Dr t_Dr_ok n_Dr 9 (by decide) wm_493 rfl (Or.inl rfl) rfl rfl (Nat.le_of_ble_eq_true rfl) d_Dr_init_63 (fun H locs hP hD hS => ?_)
  have hP : va_P D classes (cat [[(h, .inr (0, [.null, .int ((-1)), .ref q1, .ref q2, .ref q3, .ref q4, .ref q5, .int 0, .int 0, .int 0, .null, .null, .null, .null, .null, .null, .null, .int 0, .int 0, .int 0, .int 0]))], [(q1, .inl (kA 0, 24, .inl (fun _ => 0)))], [(q2, .inl (kA 0, 24, .inl (fun _ => 0)))], [(q3, .inl (kA 0, 48, .inl (fun _ => 0)))], [(q4, .inl (kA 0, 1152, .inl (fun _ => 0)))], [(q5, .inl (kA 0, 1152, .inl (fun _ => 0)))]]) H := hP
  have hD : va_D A (cat [[(h, .inr (0, [.null, .int ((-1)), .ref q1, .ref q2, .ref q3, .ref q4, .ref q5, .int 0, .int 0, .int 0, .null, .null, .null, .null, .null, .null, .null, .int 0, .int 0, .int 0, .int 0]))], [(q1, .inl (kA 0, 24, .inl (fun _ => 0)))], [(q2, .inl (kA 0, 24, .inl (fun _ => 0)))], [(q3, .inl (kA 0, 48, .inl (fun _ => 0)))], [(q4, .inl (kA 0, 1152, .inl (fun _ => 0)))], [(q5, .inl (kA 0, 1152, .inl (fun _ => 0)))]]) := hD
  refine lv_aload_n (pc := 66) hx hb d_Dr_init_66 rfl (lv_at hl 0 rfl) ?_
  refine lv_bipush (pc := 67) (v := 24) hx hb d_Dr_init_67 (by decide) ?_
  refine k_newa (pc := 69) (atype := .int) X (ty := .int) (a0 := (24, .inl (fun _ => 0))) rfl rfl wm_193 hK hP hD hS hA 0 rfl (fun _ => rfl) (by decide) rfl (by decide) (Nat.le_of_ble_eq_true rfl) (Nat.le_of_ble_eq_true rfl) d_Dr_init_69 (fun q6 H hP hD hS => ?_)
  have hP : va_P D classes (cat [[(h, .inr (0, [.null, .int ((-1)), .ref q1, .ref q2, .ref q3, .ref q4, .ref q5, .int 0, .int 0, .int 0, .null, .null, .null, .null, .null, .null, .null, .int 0, .int 0, .int 0, .int 0]))], [(q1, .inl (kA 0, 24, .inl (fun _ => 0)))], [(q2, .inl (kA 0, 24, .inl (fun _ => 0)))], [(q3, .inl (kA 0, 48, .inl (fun _ => 0)))], [(q4, .inl (kA 0, 1152, .inl (fun _ => 0)))], [(q5, .inl (kA 0, 1152, .inl (fun _ => 0)))], [(q6, .inl (kA 0, 24, .inl (fun _ => 0)))]]) H := hP
  have hD : va_D A (cat [[(h, .inr (0, [.null, .int ((-1)), .ref q1, .ref q2, .ref q3, .ref q4, .ref q5, .int 0, .int 0, .int 0, .null, .null, .null, .null, .null, .null, .null, .int 0, .int 0, .int 0, .int 0]))], [(q1, .inl (kA 0, 24, .inl (fun _ => 0)))], [(q2, .inl (kA 0, 24, .inl (fun _ => 0)))], [(q3, .inl (kA 0, 48, .inl (fun _ => 0)))], [(q4, .inl (kA 0, 1152, .inl (fun _ => 0)))], [(q5, .inl (kA 0, 1152, .inl (fun _ => 0)))], [(q6, .inl (kA 0, 24, .inl (fun _ => 0)))]]) := hD
  refine W.widen (k := 6) (n := 2424) (by omega) (by omega) ?_
  refine k_put (pc := 71) X hK hP hD hS 0 rfl rfl i_Dr t_Dr t_Dr_ok n_Dr 10 (by decide) wm_495 rfl (Or.inr ⟨rfl, rfl⟩) rfl rfl (Nat.le_of_ble_eq_true rfl) d_Dr_init_71 (fun H locs hP hD hS => ?_)
  have hP : va_P D classes (cat [[(h, .inr (0, [.null, .int ((-1)), .ref q1, .ref q2, .ref q3, .ref q4, .ref q5, .int 0, .int 0, .int 0, .ref q6, .null, .null, .null, .null, .null, .null, .int 0, .int 0, .int 0, .int 0]))], [(q1, .inl (kA 0, 24, .inl (fun _ => 0)))], [(q2, .inl (kA 0, 24, .inl (fun _ => 0)))], [(q3, .inl (kA 0, 48, .inl (fun _ => 0)))], [(q4, .inl (kA 0, 1152, .inl (fun _ => 0)))], [(q5, .inl (kA 0, 1152, .inl (fun _ => 0)))], [(q6, .inl (kA 0, 24, .inl (fun _ => 0)))]]) H := hP
  have hD : va_D A (cat [[(h, .inr (0, [.null, .int ((-1)), .ref q1, .ref q2, .ref q3, .ref q4, .ref q5, .int 0, .int 0, .int 0, .ref q6, .null, .null, .null, .null, .null, .null, .int 0, .int 0, .int 0, .int 0]))], [(q1, .inl (kA 0, 24, .inl (fun _ => 0)))], [(q2, .inl (kA 0, 24, .inl (fun _ => 0)))], [(q3, .inl (kA 0, 48, .inl (fun _ => 0)))], [(q4, .inl (kA 0, 1152, .inl (fun _ => 0)))], [(q5, .inl (kA 0, 1152, .inl (fun _ => 0)))], [(q6, .inl (kA 0, 24, .inl (fun _ => 0)))]]) := hD
  refine lv_aload_n (pc := 74) hx hb d_Dr_init_74 rfl (lv_at hl 0 rfl) ?_
  refine lv_bipush (pc := 75) (v := 48) hx hb d_Dr_init_75 (by decide) ?_
  refine k_newa (pc := 77) (atype := .boolean) X (ty := .boolean) (a0 := (48, .inl (fun _ => 0))) rfl rfl wm_387 hK hP hD hS hA 2 rfl (fun _ => rfl) (by decide) rfl (by decide) (Nat.le_of_ble_eq_true rfl) (Nat.le_of_ble_eq_true rfl) d_Dr_init_77 (fun q7 H hP hD hS => ?_)
  have hP : va_P D classes (cat [[(h, .inr (0, [.null, .int ((-1)), .ref q1, .ref q2, .ref q3, .ref q4, .ref q5, .int 0, .int 0, .int 0, .ref q6, .null, .null, .null, .null, .null, .null, .int 0, .int 0, .int 0, .int 0]))], [(q1, .inl (kA 0, 24, .inl (fun _ => 0)))], [(q2, .inl (kA 0, 24, .inl (fun _ => 0)))], [(q3, .inl (kA 0, 48, .inl (fun _ => 0)))], [(q4, .inl (kA 0, 1152, .inl (fun _ => 0)))], [(q5, .inl (kA 0, 1152, .inl (fun _ => 0)))], [(q6, .inl (kA 0, 24, .inl (fun _ => 0)))], [(q7, .inl (kA 2, 48, .inl (fun _ => 0)))]]) H := hP
  have hD : va_D A (cat [[(h, .inr (0, [.null, .int ((-1)), .ref q1, .ref q2, .ref q3, .ref q4, .ref q5, .int 0, .int 0, .int 0, .ref q6, .null, .null, .null, .null, .null, .null, .int 0, .int 0, .int 0, .int 0]))], [(q1, .inl (kA 0, 24, .inl (fun _ => 0)))], [(q2, .inl (kA 0, 24, .inl (fun _ => 0)))], [(q3, .inl (kA 0, 48, .inl (fun _ => 0)))], [(q4, .inl (kA 0, 1152, .inl (fun _ => 0)))], [(q5, .inl (kA 0, 1152, .inl (fun _ => 0)))], [(q6, .inl (kA 0, 24, .inl (fun _ => 0)))], [(q7, .inl (kA 2, 48, .inl (fun _ => 0)))]]) := hD
  refine W.widen (k := 7) (n := 2472) (by omega) (by omega) ?_
  refine k_put (pc := 79) X hK hP hD hS 0 rfl rfl i_Dr t_Dr t_Dr_ok n_Dr 11 (by decide) wm_497 rfl (Or.inr ⟨rfl, rfl⟩) rfl rfl (Nat.le_of_ble_eq_true rfl) d_Dr_init_79 (fun H locs hP hD hS => ?_)
  have hP : va_P D classes (cat [[(h, .inr (0, [.null, .int ((-1)), .ref q1, .ref q2, .ref q3, .ref q4, .ref q5, .int 0, .int 0, .int 0, .ref q6, .ref q7, .null, .null, .null, .null, .null, .int 0, .int 0, .int 0, .int 0]))], [(q1, .inl (kA 0, 24, .inl (fun _ => 0)))], [(q2, .inl (kA 0, 24, .inl (fun _ => 0)))], [(q3, .inl (kA 0, 48, .inl (fun _ => 0)))], [(q4, .inl (kA 0, 1152, .inl (fun _ => 0)))], [(q5, .inl (kA 0, 1152, .inl (fun _ => 0)))], [(q6, .inl (kA 0, 24, .inl (fun _ => 0)))], [(q7, .inl (kA 2, 48, .inl (fun _ => 0)))]]) H := hP
  have hD : va_D A (cat [[(h, .inr (0, [.null, .int ((-1)), .ref q1, .ref q2, .ref q3, .ref q4, .ref q5, .int 0, .int 0, .int 0, .ref q6, .ref q7, .null, .null, .null, .null, .null, .int 0, .int 0, .int 0, .int 0]))], [(q1, .inl (kA 0, 24, .inl (fun _ => 0)))], [(q2, .inl (kA 0, 24, .inl (fun _ => 0)))], [(q3, .inl (kA 0, 48, .inl (fun _ => 0)))], [(q4, .inl (kA 0, 1152, .inl (fun _ => 0)))], [(q5, .inl (kA 0, 1152, .inl (fun _ => 0)))], [(q6, .inl (kA 0, 24, .inl (fun _ => 0)))], [(q7, .inl (kA 2, 48, .inl (fun _ => 0)))]]) := hD
  refine lv_aload_n (pc := 82) hx hb d_Dr_init_82 rfl (lv_at hl 0 rfl) ?_
  refine lv_bipush (pc := 83) (v := 24) hx hb d_Dr_init_83 (by decide) ?_
  refine k_newa (pc := 85) (atype := .int) X (ty := .int) (a0 := (24, .inl (fun _ => 0))) rfl rfl wm_193 hK hP hD hS hA 0 rfl (fun _ => rfl) (by decide) rfl (by decide) (Nat.le_of_ble_eq_true rfl) (Nat.le_of_ble_eq_true rfl) d_Dr_init_85 (fun q8 H hP hD hS => ?_)
  have hP : va_P D classes (cat [[(h, .inr (0, [.null, .int ((-1)), .ref q1, .ref q2, .ref q3, .ref q4, .ref q5, .int 0, .int 0, .int 0, .ref q6, .ref q7, .null, .null, .null, .null, .null, .int 0, .int 0, .int 0, .int 0]))], [(q1, .inl (kA 0, 24, .inl (fun _ => 0)))], [(q2, .inl (kA 0, 24, .inl (fun _ => 0)))], [(q3, .inl (kA 0, 48, .inl (fun _ => 0)))], [(q4, .inl (kA 0, 1152, .inl (fun _ => 0)))], [(q5, .inl (kA 0, 1152, .inl (fun _ => 0)))], [(q6, .inl (kA 0, 24, .inl (fun _ => 0)))], [(q7, .inl (kA 2, 48, .inl (fun _ => 0)))], [(q8, .inl (kA 0, 24, .inl (fun _ => 0)))]]) H := hP
  have hD : va_D A (cat [[(h, .inr (0, [.null, .int ((-1)), .ref q1, .ref q2, .ref q3, .ref q4, .ref q5, .int 0, .int 0, .int 0, .ref q6, .ref q7, .null, .null, .null, .null, .null, .int 0, .int 0, .int 0, .int 0]))], [(q1, .inl (kA 0, 24, .inl (fun _ => 0)))], [(q2, .inl (kA 0, 24, .inl (fun _ => 0)))], [(q3, .inl (kA 0, 48, .inl (fun _ => 0)))], [(q4, .inl (kA 0, 1152, .inl (fun _ => 0)))], [(q5, .inl (kA 0, 1152, .inl (fun _ => 0)))], [(q6, .inl (kA 0, 24, .inl (fun _ => 0)))], [(q7, .inl (kA 2, 48, .inl (fun _ => 0)))], [(q8, .inl (kA 0, 24, .inl (fun _ => 0)))]]) := hD
  refine W.widen (k := 8) (n := 2496) (by omega) (by omega) ?_
  refine k_put (pc := 87) X hK hP hD hS 0 rfl rfl i_Dr t_Dr t_Dr_ok n_Dr 12 (by decide) wm_499 rfl (Or.inr ⟨rfl, rfl⟩) rfl rfl (Nat.le_of_ble_eq_true rfl) d_Dr_init_87 (fun H locs hP hD hS => ?_)
  have hP : va_P D classes (cat [[(h, .inr (0, [.null, .int ((-1)), .ref q1, .ref q2, .ref q3, .ref q4, .ref q5, .int 0, .int 0, .int 0, .ref q6, .ref q7, .ref q8, .null, .null, .null, .null, .int 0, .int 0, .int 0, .int 0]))], [(q1, .inl (kA 0, 24, .inl (fun _ => 0)))], [(q2, .inl (kA 0, 24, .inl (fun _ => 0)))], [(q3, .inl (kA 0, 48, .inl (fun _ => 0)))], [(q4, .inl (kA 0, 1152, .inl (fun _ => 0)))], [(q5, .inl (kA 0, 1152, .inl (fun _ => 0)))], [(q6, .inl (kA 0, 24, .inl (fun _ => 0)))], [(q7, .inl (kA 2, 48, .inl (fun _ => 0)))], [(q8, .inl (kA 0, 24, .inl (fun _ => 0)))]]) H := hP
  have hD : va_D A (cat [[(h, .inr (0, [.null, .int ((-1)), .ref q1, .ref q2, .ref q3, .ref q4, .ref q5, .int 0, .int 0, .int 0, .ref q6, .ref q7, .ref q8, .null, .null, .null, .null, .int 0, .int 0, .int 0, .int 0]))], [(q1, .inl (kA 0, 24, .inl (fun _ => 0)))], [(q2, .inl (kA 0, 24, .inl (fun _ => 0)))], [(q3, .inl (kA 0, 48, .inl (fun _ => 0)))], [(q4, .inl (kA 0, 1152, .inl (fun _ => 0)))], [(q5, .inl (kA 0, 1152, .inl (fun _ => 0)))], [(q6, .inl (kA 0, 24, .inl (fun _ => 0)))], [(q7, .inl (kA 2, 48, .inl (fun _ => 0)))], [(q8, .inl (kA 0, 24, .inl (fun _ => 0)))]]) := hD
  refine lv_aload_n (pc := 90) hx hb d_Dr_init_90 rfl (lv_at hl 0 rfl) ?_
  refine lv_sipush (pc := 91) (v := 128) hx hb d_Dr_init_91 (by decide) ?_
  refine k_newa (pc := 94) (atype := .int) X (ty := .int) (a0 := (128, .inl (fun _ => 0))) rfl rfl wm_193 hK hP hD hS hA 0 rfl (fun _ => rfl) (by decide) rfl (by decide) (Nat.le_of_ble_eq_true rfl) (Nat.le_of_ble_eq_true rfl) d_Dr_init_94 (fun q9 H hP hD hS => ?_)
  have hP : va_P D classes (cat [[(h, .inr (0, [.null, .int ((-1)), .ref q1, .ref q2, .ref q3, .ref q4, .ref q5, .int 0, .int 0, .int 0, .ref q6, .ref q7, .ref q8, .null, .null, .null, .null, .int 0, .int 0, .int 0, .int 0]))], [(q1, .inl (kA 0, 24, .inl (fun _ => 0)))], [(q2, .inl (kA 0, 24, .inl (fun _ => 0)))], [(q3, .inl (kA 0, 48, .inl (fun _ => 0)))], [(q4, .inl (kA 0, 1152, .inl (fun _ => 0)))], [(q5, .inl (kA 0, 1152, .inl (fun _ => 0)))], [(q6, .inl (kA 0, 24, .inl (fun _ => 0)))], [(q7, .inl (kA 2, 48, .inl (fun _ => 0)))], [(q8, .inl (kA 0, 24, .inl (fun _ => 0)))], [(q9, .inl (kA 0, 128, .inl (fun _ => 0)))]]) H := hP
  have hD : va_D A (cat [[(h, .inr (0, [.null, .int ((-1)), .ref q1, .ref q2, .ref q3, .ref q4, .ref q5, .int 0, .int 0, .int 0, .ref q6, .ref q7, .ref q8, .null, .null, .null, .null, .int 0, .int 0, .int 0, .int 0]))], [(q1, .inl (kA 0, 24, .inl (fun _ => 0)))], [(q2, .inl (kA 0, 24, .inl (fun _ => 0)))], [(q3, .inl (kA 0, 48, .inl (fun _ => 0)))], [(q4, .inl (kA 0, 1152, .inl (fun _ => 0)))], [(q5, .inl (kA 0, 1152, .inl (fun _ => 0)))], [(q6, .inl (kA 0, 24, .inl (fun _ => 0)))], [(q7, .inl (kA 2, 48, .inl (fun _ => 0)))], [(q8, .inl (kA 0, 24, .inl (fun _ => 0)))], [(q9, .inl (kA 0, 128, .inl (fun _ => 0)))]]) := hD
  refine W.widen (k := 9) (n := 2624) (by omega) (by omega) ?_
  refine k_put (pc := 96) X hK hP hD hS 0 rfl rfl i_Dr t_Dr t_Dr_ok n_Dr 13 (by decide) wm_501 rfl (Or.inr ⟨rfl, rfl⟩) rfl rfl (Nat.le_of_ble_eq_true rfl) d_Dr_init_96 (fun H locs hP hD hS => ?_)
  have hP : va_P D classes (cat [[(h, .inr (0, [.null, .int ((-1)), .ref q1, .ref q2, .ref q3, .ref q4, .ref q5, .int 0, .int 0, .int 0, .ref q6, .ref q7, .ref q8, .ref q9, .null, .null, .null, .int 0, .int 0, .int 0, .int 0]))], [(q1, .inl (kA 0, 24, .inl (fun _ => 0)))], [(q2, .inl (kA 0, 24, .inl (fun _ => 0)))], [(q3, .inl (kA 0, 48, .inl (fun _ => 0)))], [(q4, .inl (kA 0, 1152, .inl (fun _ => 0)))], [(q5, .inl (kA 0, 1152, .inl (fun _ => 0)))], [(q6, .inl (kA 0, 24, .inl (fun _ => 0)))], [(q7, .inl (kA 2, 48, .inl (fun _ => 0)))], [(q8, .inl (kA 0, 24, .inl (fun _ => 0)))], [(q9, .inl (kA 0, 128, .inl (fun _ => 0)))]]) H := hP
  have hD : va_D A (cat [[(h, .inr (0, [.null, .int ((-1)), .ref q1, .ref q2, .ref q3, .ref q4, .ref q5, .int 0, .int 0, .int 0, .ref q6, .ref q7, .ref q8, .ref q9, .null, .null, .null, .int 0, .int 0, .int 0, .int 0]))], [(q1, .inl (kA 0, 24, .inl (fun _ => 0)))], [(q2, .inl (kA 0, 24, .inl (fun _ => 0)))], [(q3, .inl (kA 0, 48, .inl (fun _ => 0)))], [(q4, .inl (kA 0, 1152, .inl (fun _ => 0)))], [(q5, .inl (kA 0, 1152, .inl (fun _ => 0)))], [(q6, .inl (kA 0, 24, .inl (fun _ => 0)))], [(q7, .inl (kA 2, 48, .inl (fun _ => 0)))], [(q8, .inl (kA 0, 24, .inl (fun _ => 0)))], [(q9, .inl (kA 0, 128, .inl (fun _ => 0)))]]) := hD
  refine lv_aload_n (pc := 99) hx hb d_Dr_init_99 rfl (lv_at hl 0 rfl) ?_
  refine lv_sipush (pc := 100) (v := 216) hx hb d_Dr_init_100 (by decide) ?_
  refine k_newa (pc := 103) (atype := .int) X (ty := .int) (a0 := (216, .inl (fun _ => 0))) rfl rfl wm_193 hK hP hD hS hA 0 rfl (fun _ => rfl) (by decide) rfl (by decide) (Nat.le_of_ble_eq_true rfl) (Nat.le_of_ble_eq_true rfl) d_Dr_init_103 (fun q10 H hP hD hS => ?_)
  have hP : va_P D classes (cat [[(h, .inr (0, [.null, .int ((-1)), .ref q1, .ref q2, .ref q3, .ref q4, .ref q5, .int 0, .int 0, .int 0, .ref q6, .ref q7, .ref q8, .ref q9, .null, .null, .null, .int 0, .int 0, .int 0, .int 0]))], [(q1, .inl (kA 0, 24, .inl (fun _ => 0)))], [(q2, .inl (kA 0, 24, .inl (fun _ => 0)))], [(q3, .inl (kA 0, 48, .inl (fun _ => 0)))], [(q4, .inl (kA 0, 1152, .inl (fun _ => 0)))], [(q5, .inl (kA 0, 1152, .inl (fun _ => 0)))], [(q6, .inl (kA 0, 24, .inl (fun _ => 0)))], [(q7, .inl (kA 2, 48, .inl (fun _ => 0)))], [(q8, .inl (kA 0, 24, .inl (fun _ => 0)))], [(q9, .inl (kA 0, 128, .inl (fun _ => 0)))], [(q10, .inl (kA 0, 216, .inl (fun _ => 0)))]]) H := hP
  have hD : va_D A (cat [[(h, .inr (0, [.null, .int ((-1)), .ref q1, .ref q2, .ref q3, .ref q4, .ref q5, .int 0, .int 0, .int 0, .ref q6, .ref q7, .ref q8, .ref q9, .null, .null, .null, .int 0, .int 0, .int 0, .int 0]))], [(q1, .inl (kA 0, 24, .inl (fun _ => 0)))], [(q2, .inl (kA 0, 24, .inl (fun _ => 0)))], [(q3, .inl (kA 0, 48, .inl (fun _ => 0)))], [(q4, .inl (kA 0, 1152, .inl (fun _ => 0)))], [(q5, .inl (kA 0, 1152, .inl (fun _ => 0)))], [(q6, .inl (kA 0, 24, .inl (fun _ => 0)))], [(q7, .inl (kA 2, 48, .inl (fun _ => 0)))], [(q8, .inl (kA 0, 24, .inl (fun _ => 0)))], [(q9, .inl (kA 0, 128, .inl (fun _ => 0)))], [(q10, .inl (kA 0, 216, .inl (fun _ => 0)))]]) := hD
  refine W.widen (k := 10) (n := 2840) (by omega) (by omega) ?_
  refine k_put (pc := 105) X hK hP hD hS 0 rfl rfl i_Dr t_Dr t_Dr_ok n_Dr 14 (by decide) wm_503 rfl (Or.inr ⟨rfl, rfl⟩) rfl rfl (Nat.le_of_ble_eq_true rfl) d_Dr_init_105 (fun H locs hP hD hS => ?_)
  have hP : va_P D classes (cat [[(h, .inr (0, [.null, .int ((-1)), .ref q1, .ref q2, .ref q3, .ref q4, .ref q5, .int 0, .int 0, .int 0, .ref q6, .ref q7, .ref q8, .ref q9, .ref q10, .null, .null, .int 0, .int 0, .int 0, .int 0]))], [(q1, .inl (kA 0, 24, .inl (fun _ => 0)))], [(q2, .inl (kA 0, 24, .inl (fun _ => 0)))], [(q3, .inl (kA 0, 48, .inl (fun _ => 0)))], [(q4, .inl (kA 0, 1152, .inl (fun _ => 0)))], [(q5, .inl (kA 0, 1152, .inl (fun _ => 0)))], [(q6, .inl (kA 0, 24, .inl (fun _ => 0)))], [(q7, .inl (kA 2, 48, .inl (fun _ => 0)))], [(q8, .inl (kA 0, 24, .inl (fun _ => 0)))], [(q9, .inl (kA 0, 128, .inl (fun _ => 0)))], [(q10, .inl (kA 0, 216, .inl (fun _ => 0)))]]) H := hP
  have hD : va_D A (cat [[(h, .inr (0, [.null, .int ((-1)), .ref q1, .ref q2, .ref q3, .ref q4, .ref q5, .int 0, .int 0, .int 0, .ref q6, .ref q7, .ref q8, .ref q9, .ref q10, .null, .null, .int 0, .int 0, .int 0, .int 0]))], [(q1, .inl (kA 0, 24, .inl (fun _ => 0)))], [(q2, .inl (kA 0, 24, .inl (fun _ => 0)))], [(q3, .inl (kA 0, 48, .inl (fun _ => 0)))], [(q4, .inl (kA 0, 1152, .inl (fun _ => 0)))], [(q5, .inl (kA 0, 1152, .inl (fun _ => 0)))], [(q6, .inl (kA 0, 24, .inl (fun _ => 0)))], [(q7, .inl (kA 2, 48, .inl (fun _ => 0)))], [(q8, .inl (kA 0, 24, .inl (fun _ => 0)))], [(q9, .inl (kA 0, 128, .inl (fun _ => 0)))], [(q10, .inl (kA 0, 216, .inl (fun _ => 0)))]]) := hD
  refine lv_aload_n (pc := 108) hx hb d_Dr_init_108 rfl (lv_at hl 0 rfl) ?_
  refine lv_bipush (pc := 109) (v := 48) hx hb d_Dr_init_109 (by decide) ?_
  refine k_newa (pc := 111) (atype := .int) X (ty := .int) (a0 := (48, .inl (fun _ => 0))) rfl rfl wm_193 hK hP hD hS hA 0 rfl (fun _ => rfl) (by decide) rfl (by decide) (Nat.le_of_ble_eq_true rfl) (Nat.le_of_ble_eq_true rfl) d_Dr_init_111 (fun q11 H hP hD hS => ?_)
  have hP : va_P D classes (cat [[(h, .inr (0, [.null, .int ((-1)), .ref q1, .ref q2, .ref q3, .ref q4, .ref q5, .int 0, .int 0, .int 0, .ref q6, .ref q7, .ref q8, .ref q9, .ref q10, .null, .null, .int 0, .int 0, .int 0, .int 0]))], [(q1, .inl (kA 0, 24, .inl (fun _ => 0)))], [(q2, .inl (kA 0, 24, .inl (fun _ => 0)))], [(q3, .inl (kA 0, 48, .inl (fun _ => 0)))], [(q4, .inl (kA 0, 1152, .inl (fun _ => 0)))], [(q5, .inl (kA 0, 1152, .inl (fun _ => 0)))], [(q6, .inl (kA 0, 24, .inl (fun _ => 0)))], [(q7, .inl (kA 2, 48, .inl (fun _ => 0)))], [(q8, .inl (kA 0, 24, .inl (fun _ => 0)))], [(q9, .inl (kA 0, 128, .inl (fun _ => 0)))], [(q10, .inl (kA 0, 216, .inl (fun _ => 0)))], [(q11, .inl (kA 0, 48, .inl (fun _ => 0)))]]) H := hP
  have hD : va_D A (cat [[(h, .inr (0, [.null, .int ((-1)), .ref q1, .ref q2, .ref q3, .ref q4, .ref q5, .int 0, .int 0, .int 0, .ref q6, .ref q7, .ref q8, .ref q9, .ref q10, .null, .null, .int 0, .int 0, .int 0, .int 0]))], [(q1, .inl (kA 0, 24, .inl (fun _ => 0)))], [(q2, .inl (kA 0, 24, .inl (fun _ => 0)))], [(q3, .inl (kA 0, 48, .inl (fun _ => 0)))], [(q4, .inl (kA 0, 1152, .inl (fun _ => 0)))], [(q5, .inl (kA 0, 1152, .inl (fun _ => 0)))], [(q6, .inl (kA 0, 24, .inl (fun _ => 0)))], [(q7, .inl (kA 2, 48, .inl (fun _ => 0)))], [(q8, .inl (kA 0, 24, .inl (fun _ => 0)))], [(q9, .inl (kA 0, 128, .inl (fun _ => 0)))], [(q10, .inl (kA 0, 216, .inl (fun _ => 0)))], [(q11, .inl (kA 0, 48, .inl (fun _ => 0)))]]) := hD
  refine W.widen (k := 11) (n := 2888) (by omega) (by omega) ?_
  refine k_put (pc := 113) X hK hP hD hS 0 rfl rfl i_Dr t_Dr t_Dr_ok n_Dr 15 (by decide) wm_506 rfl (Or.inr ⟨rfl, rfl⟩) rfl rfl (Nat.le_of_ble_eq_true rfl) d_Dr_init_113 (fun H locs hP hD hS => ?_)
  have hP : va_P D classes (cat [[(h, .inr (0, [.null, .int ((-1)), .ref q1, .ref q2, .ref q3, .ref q4, .ref q5, .int 0, .int 0, .int 0, .ref q6, .ref q7, .ref q8, .ref q9, .ref q10, .ref q11, .null, .int 0, .int 0, .int 0, .int 0]))], [(q1, .inl (kA 0, 24, .inl (fun _ => 0)))], [(q2, .inl (kA 0, 24, .inl (fun _ => 0)))], [(q3, .inl (kA 0, 48, .inl (fun _ => 0)))], [(q4, .inl (kA 0, 1152, .inl (fun _ => 0)))], [(q5, .inl (kA 0, 1152, .inl (fun _ => 0)))], [(q6, .inl (kA 0, 24, .inl (fun _ => 0)))], [(q7, .inl (kA 2, 48, .inl (fun _ => 0)))], [(q8, .inl (kA 0, 24, .inl (fun _ => 0)))], [(q9, .inl (kA 0, 128, .inl (fun _ => 0)))], [(q10, .inl (kA 0, 216, .inl (fun _ => 0)))], [(q11, .inl (kA 0, 48, .inl (fun _ => 0)))]]) H := hP
  have hD : va_D A (cat [[(h, .inr (0, [.null, .int ((-1)), .ref q1, .ref q2, .ref q3, .ref q4, .ref q5, .int 0, .int 0, .int 0, .ref q6, .ref q7, .ref q8, .ref q9, .ref q10, .ref q11, .null, .int 0, .int 0, .int 0, .int 0]))], [(q1, .inl (kA 0, 24, .inl (fun _ => 0)))], [(q2, .inl (kA 0, 24, .inl (fun _ => 0)))], [(q3, .inl (kA 0, 48, .inl (fun _ => 0)))], [(q4, .inl (kA 0, 1152, .inl (fun _ => 0)))], [(q5, .inl (kA 0, 1152, .inl (fun _ => 0)))], [(q6, .inl (kA 0, 24, .inl (fun _ => 0)))], [(q7, .inl (kA 2, 48, .inl (fun _ => 0)))], [(q8, .inl (kA 0, 24, .inl (fun _ => 0)))], [(q9, .inl (kA 0, 128, .inl (fun _ => 0)))], [(q10, .inl (kA 0, 216, .inl (fun _ => 0)))], [(q11, .inl (kA 0, 48, .inl (fun _ => 0)))]]) := hD
  refine lv_aload_n (pc := 116) hx hb d_Dr_init_116 rfl (lv_at hl 0 rfl) ?_
  refine lv_bipush (pc := 117) (v := 48) hx hb d_Dr_init_117 (by decide) ?_
  refine k_newa (pc := 119) (atype := .int) X (ty := .int) (a0 := (48, .inl (fun _ => 0))) rfl rfl wm_193 hK hP hD hS hA 0 rfl (fun _ => rfl) (by decide) rfl (by decide) (Nat.le_of_ble_eq_true rfl) (Nat.le_of_ble_eq_true rfl) d_Dr_init_119 (fun q12 H hP hD hS => ?_)
  have hP : va_P D classes (cat [[(h, .inr (0, [.null, .int ((-1)), .ref q1, .ref q2, .ref q3, .ref q4, .ref q5, .int 0, .int 0, .int 0, .ref q6, .ref q7, .ref q8, .ref q9, .ref q10, .ref q11, .null, .int 0, .int 0, .int 0, .int 0]))], [(q1, .inl (kA 0, 24, .inl (fun _ => 0)))], [(q2, .inl (kA 0, 24, .inl (fun _ => 0)))], [(q3, .inl (kA 0, 48, .inl (fun _ => 0)))], [(q4, .inl (kA 0, 1152, .inl (fun _ => 0)))], [(q5, .inl (kA 0, 1152, .inl (fun _ => 0)))], [(q6, .inl (kA 0, 24, .inl (fun _ => 0)))], [(q7, .inl (kA 2, 48, .inl (fun _ => 0)))], [(q8, .inl (kA 0, 24, .inl (fun _ => 0)))], [(q9, .inl (kA 0, 128, .inl (fun _ => 0)))], [(q10, .inl (kA 0, 216, .inl (fun _ => 0)))], [(q11, .inl (kA 0, 48, .inl (fun _ => 0)))], [(q12, .inl (kA 0, 48, .inl (fun _ => 0)))]]) H := hP
  have hD : va_D A (cat [[(h, .inr (0, [.null, .int ((-1)), .ref q1, .ref q2, .ref q3, .ref q4, .ref q5, .int 0, .int 0, .int 0, .ref q6, .ref q7, .ref q8, .ref q9, .ref q10, .ref q11, .null, .int 0, .int 0, .int 0, .int 0]))], [(q1, .inl (kA 0, 24, .inl (fun _ => 0)))], [(q2, .inl (kA 0, 24, .inl (fun _ => 0)))], [(q3, .inl (kA 0, 48, .inl (fun _ => 0)))], [(q4, .inl (kA 0, 1152, .inl (fun _ => 0)))], [(q5, .inl (kA 0, 1152, .inl (fun _ => 0)))], [(q6, .inl (kA 0, 24, .inl (fun _ => 0)))], [(q7, .inl (kA 2, 48, .inl (fun _ => 0)))], [(q8, .inl (kA 0, 24, .inl (fun _ => 0)))], [(q9, .inl (kA 0, 128, .inl (fun _ => 0)))], [(q10, .inl (kA 0, 216, .inl (fun _ => 0)))], [(q11, .inl (kA 0, 48, .inl (fun _ => 0)))], [(q12, .inl (kA 0, 48, .inl (fun _ => 0)))]]) := hD
  refine W.widen (k := 12) (n := 2936) (by omega) (by omega) ?_
  refine k_put (pc := 121) X hK hP hD hS 0 rfl rfl i_Dr t_Dr t_Dr_ok n_Dr 16 (by decide) wm_507 rfl (Or.inr ⟨rfl, rfl⟩) rfl rfl (Nat.le_of_ble_eq_true rfl) d_Dr_init_121 (fun H locs hP hD hS => ?_)
  have hP : va_P D classes (cat [[(h, .inr (0, [.null, .int ((-1)), .ref q1, .ref q2, .ref q3, .ref q4, .ref q5, .int 0, .int 0, .int 0, .ref q6, .ref q7, .ref q8, .ref q9, .ref q10, .ref q11, .ref q12, .int 0, .int 0, .int 0, .int 0]))], [(q1, .inl (kA 0, 24, .inl (fun _ => 0)))], [(q2, .inl (kA 0, 24, .inl (fun _ => 0)))], [(q3, .inl (kA 0, 48, .inl (fun _ => 0)))], [(q4, .inl (kA 0, 1152, .inl (fun _ => 0)))], [(q5, .inl (kA 0, 1152, .inl (fun _ => 0)))], [(q6, .inl (kA 0, 24, .inl (fun _ => 0)))], [(q7, .inl (kA 2, 48, .inl (fun _ => 0)))], [(q8, .inl (kA 0, 24, .inl (fun _ => 0)))], [(q9, .inl (kA 0, 128, .inl (fun _ => 0)))], [(q10, .inl (kA 0, 216, .inl (fun _ => 0)))], [(q11, .inl (kA 0, 48, .inl (fun _ => 0)))], [(q12, .inl (kA 0, 48, .inl (fun _ => 0)))]]) H := hP
  have hD : va_D A (cat [[(h, .inr (0, [.null, .int ((-1)), .ref q1, .ref q2, .ref q3, .ref q4, .ref q5, .int 0, .int 0, .int 0, .ref q6, .ref q7, .ref q8, .ref q9, .ref q10, .ref q11, .ref q12, .int 0, .int 0, .int 0, .int 0]))], [(q1, .inl (kA 0, 24, .inl (fun _ => 0)))], [(q2, .inl (kA 0, 24, .inl (fun _ => 0)))], [(q3, .inl (kA 0, 48, .inl (fun _ => 0)))], [(q4, .inl (kA 0, 1152, .inl (fun _ => 0)))], [(q5, .inl (kA 0, 1152, .inl (fun _ => 0)))], [(q6, .inl (kA 0, 24, .inl (fun _ => 0)))], [(q7, .inl (kA 2, 48, .inl (fun _ => 0)))], [(q8, .inl (kA 0, 24, .inl (fun _ => 0)))], [(q9, .inl (kA 0, 128, .inl (fun _ => 0)))], [(q10, .inl (kA 0, 216, .inl (fun _ => 0)))], [(q11, .inl (kA 0, 48, .inl (fun _ => 0)))], [(q12, .inl (kA 0, 48, .inl (fun _ => 0)))]]) := hD
  refine lv_aload_n (pc := 124) hx hb d_Dr_init_124 rfl (lv_at hl 0 rfl) ?_
  refine lv_iconst (pc := 125) (v := 0) hx hb d_Dr_init_125 (by decide) ?_
  refine k_put (pc := 126) X hK hP hD hS 0 rfl rfl i_Dr t_Dr t_Dr_ok n_Dr 17 (by decide) wm_508 rfl (Or.inl rfl) rfl rfl (Nat.le_of_ble_eq_true rfl) d_Dr_init_126 (fun H locs hP hD hS => ?_)
  have hP : va_P D classes (cat [[(h, .inr (0, [.null, .int ((-1)), .ref q1, .ref q2, .ref q3, .ref q4, .ref q5, .int 0, .int 0, .int 0, .ref q6, .ref q7, .ref q8, .ref q9, .ref q10, .ref q11, .ref q12, .int 0, .int 0, .int 0, .int 0]))], [(q1, .inl (kA 0, 24, .inl (fun _ => 0)))], [(q2, .inl (kA 0, 24, .inl (fun _ => 0)))], [(q3, .inl (kA 0, 48, .inl (fun _ => 0)))], [(q4, .inl (kA 0, 1152, .inl (fun _ => 0)))], [(q5, .inl (kA 0, 1152, .inl (fun _ => 0)))], [(q6, .inl (kA 0, 24, .inl (fun _ => 0)))], [(q7, .inl (kA 2, 48, .inl (fun _ => 0)))], [(q8, .inl (kA 0, 24, .inl (fun _ => 0)))], [(q9, .inl (kA 0, 128, .inl (fun _ => 0)))], [(q10, .inl (kA 0, 216, .inl (fun _ => 0)))], [(q11, .inl (kA 0, 48, .inl (fun _ => 0)))], [(q12, .inl (kA 0, 48, .inl (fun _ => 0)))]]) H := hP
  have hD : va_D A (cat [[(h, .inr (0, [.null, .int ((-1)), .ref q1, .ref q2, .ref q3, .ref q4, .ref q5, .int 0, .int 0, .int 0, .ref q6, .ref q7, .ref q8, .ref q9, .ref q10, .ref q11, .ref q12, .int 0, .int 0, .int 0, .int 0]))], [(q1, .inl (kA 0, 24, .inl (fun _ => 0)))], [(q2, .inl (kA 0, 24, .inl (fun _ => 0)))], [(q3, .inl (kA 0, 48, .inl (fun _ => 0)))], [(q4, .inl (kA 0, 1152, .inl (fun _ => 0)))], [(q5, .inl (kA 0, 1152, .inl (fun _ => 0)))], [(q6, .inl (kA 0, 24, .inl (fun _ => 0)))], [(q7, .inl (kA 2, 48, .inl (fun _ => 0)))], [(q8, .inl (kA 0, 24, .inl (fun _ => 0)))], [(q9, .inl (kA 0, 128, .inl (fun _ => 0)))], [(q10, .inl (kA 0, 216, .inl (fun _ => 0)))], [(q11, .inl (kA 0, 48, .inl (fun _ => 0)))], [(q12, .inl (kA 0, 48, .inl (fun _ => 0)))]]) := hD
  refine lv_aload_n (pc := 129) hx hb d_Dr_init_129 rfl (lv_at hl 0 rfl) ?_
  refine lv_iconst (pc := 130) (v := 0) hx hb d_Dr_init_130 (by decide) ?_
  refine k_put (pc := 131) X hK hP hD hS 0 rfl rfl i_Dr t_Dr t_Dr_ok n_Dr 18 (by decide) wm_509 rfl (Or.inl rfl) rfl rfl (Nat.le_of_ble_eq_true rfl) d_Dr_init_131 (fun H locs hP hD hS => ?_)
  have hP : va_P D classes (cat [[(h, .inr (0, [.null, .int ((-1)), .ref q1, .ref q2, .ref q3, .ref q4, .ref q5, .int 0, .int 0, .int 0, .ref q6, .ref q7, .ref q8, .ref q9, .ref q10, .ref q11, .ref q12, .int 0, .int 0, .int 0, .int 0]))], [(q1, .inl (kA 0, 24, .inl (fun _ => 0)))], [(q2, .inl (kA 0, 24, .inl (fun _ => 0)))], [(q3, .inl (kA 0, 48, .inl (fun _ => 0)))], [(q4, .inl (kA 0, 1152, .inl (fun _ => 0)))], [(q5, .inl (kA 0, 1152, .inl (fun _ => 0)))], [(q6, .inl (kA 0, 24, .inl (fun _ => 0)))], [(q7, .inl (kA 2, 48, .inl (fun _ => 0)))], [(q8, .inl (kA 0, 24, .inl (fun _ => 0)))], [(q9, .inl (kA 0, 128, .inl (fun _ => 0)))], [(q10, .inl (kA 0, 216, .inl (fun _ => 0)))], [(q11, .inl (kA 0, 48, .inl (fun _ => 0)))], [(q12, .inl (kA 0, 48, .inl (fun _ => 0)))]]) H := hP
  have hD : va_D A (cat [[(h, .inr (0, [.null, .int ((-1)), .ref q1, .ref q2, .ref q3, .ref q4, .ref q5, .int 0, .int 0, .int 0, .ref q6, .ref q7, .ref q8, .ref q9, .ref q10, .ref q11, .ref q12, .int 0, .int 0, .int 0, .int 0]))], [(q1, .inl (kA 0, 24, .inl (fun _ => 0)))], [(q2, .inl (kA 0, 24, .inl (fun _ => 0)))], [(q3, .inl (kA 0, 48, .inl (fun _ => 0)))], [(q4, .inl (kA 0, 1152, .inl (fun _ => 0)))], [(q5, .inl (kA 0, 1152, .inl (fun _ => 0)))], [(q6, .inl (kA 0, 24, .inl (fun _ => 0)))], [(q7, .inl (kA 2, 48, .inl (fun _ => 0)))], [(q8, .inl (kA 0, 24, .inl (fun _ => 0)))], [(q9, .inl (kA 0, 128, .inl (fun _ => 0)))], [(q10, .inl (kA 0, 216, .inl (fun _ => 0)))], [(q11, .inl (kA 0, 48, .inl (fun _ => 0)))], [(q12, .inl (kA 0, 48, .inl (fun _ => 0)))]]) := hD
  refine lv_aload_n (pc := 134) hx hb d_Dr_init_134 rfl (lv_at hl 0 rfl) ?_
  refine lv_iconst (pc := 135) (v := 0) hx hb d_Dr_init_135 (by decide) ?_
  refine k_put (pc := 136) X hK hP hD hS 0 rfl rfl i_Dr t_Dr t_Dr_ok n_Dr 19 (by decide) wm_510 rfl (Or.inl rfl) rfl rfl (Nat.le_of_ble_eq_true rfl) d_Dr_init_136 (fun H locs hP hD hS => ?_)
  have hP : va_P D classes (cat [[(h, .inr (0, [.null, .int ((-1)), .ref q1, .ref q2, .ref q3, .ref q4, .ref q5, .int 0, .int 0, .int 0, .ref q6, .ref q7, .ref q8, .ref q9, .ref q10, .ref q11, .ref q12, .int 0, .int 0, .int 0, .int 0]))], [(q1, .inl (kA 0, 24, .inl (fun _ => 0)))], [(q2, .inl (kA 0, 24, .inl (fun _ => 0)))], [(q3, .inl (kA 0, 48, .inl (fun _ => 0)))], [(q4, .inl (kA 0, 1152, .inl (fun _ => 0)))], [(q5, .inl (kA 0, 1152, .inl (fun _ => 0)))], [(q6, .inl (kA 0, 24, .inl (fun _ => 0)))], [(q7, .inl (kA 2, 48, .inl (fun _ => 0)))], [(q8, .inl (kA 0, 24, .inl (fun _ => 0)))], [(q9, .inl (kA 0, 128, .inl (fun _ => 0)))], [(q10, .inl (kA 0, 216, .inl (fun _ => 0)))], [(q11, .inl (kA 0, 48, .inl (fun _ => 0)))], [(q12, .inl (kA 0, 48, .inl (fun _ => 0)))]]) H := hP
  have hD : va_D A (cat [[(h, .inr (0, [.null, .int ((-1)), .ref q1, .ref q2, .ref q3, .ref q4, .ref q5, .int 0, .int 0, .int 0, .ref q6, .ref q7, .ref q8, .ref q9, .ref q10, .ref q11, .ref q12, .int 0, .int 0, .int 0, .int 0]))], [(q1, .inl (kA 0, 24, .inl (fun _ => 0)))], [(q2, .inl (kA 0, 24, .inl (fun _ => 0)))], [(q3, .inl (kA 0, 48, .inl (fun _ => 0)))], [(q4, .inl (kA 0, 1152, .inl (fun _ => 0)))], [(q5, .inl (kA 0, 1152, .inl (fun _ => 0)))], [(q6, .inl (kA 0, 24, .inl (fun _ => 0)))], [(q7, .inl (kA 2, 48, .inl (fun _ => 0)))], [(q8, .inl (kA 0, 24, .inl (fun _ => 0)))], [(q9, .inl (kA 0, 128, .inl (fun _ => 0)))], [(q10, .inl (kA 0, 216, .inl (fun _ => 0)))], [(q11, .inl (kA 0, 48, .inl (fun _ => 0)))], [(q12, .inl (kA 0, 48, .inl (fun _ => 0)))]]) := hD
  refine lv_aload_n (pc := 139) hx hb d_Dr_init_139 rfl (lv_at hl 0 rfl) ?_
  refine lv_iconst (pc := 140) (v := 0) hx hb d_Dr_init_140 (by decide) ?_
  refine k_put (pc := 141) X hK hP hD hS 0 rfl rfl i_Dr t_Dr t_Dr_ok n_Dr 20 (by decide) wm_511 rfl (Or.inl rfl) rfl rfl (Nat.le_of_ble_eq_true rfl) d_Dr_init_141 (fun H locs hP hD hS => ?_)
  have hP : va_P D classes (cat [[(h, .inr (0, [.null, .int ((-1)), .ref q1, .ref q2, .ref q3, .ref q4, .ref q5, .int 0, .int 0, .int 0, .ref q6, .ref q7, .ref q8, .ref q9, .ref q10, .ref q11, .ref q12, .int 0, .int 0, .int 0, .int 0]))], [(q1, .inl (kA 0, 24, .inl (fun _ => 0)))], [(q2, .inl (kA 0, 24, .inl (fun _ => 0)))], [(q3, .inl (kA 0, 48, .inl (fun _ => 0)))], [(q4, .inl (kA 0, 1152, .inl (fun _ => 0)))], [(q5, .inl (kA 0, 1152, .inl (fun _ => 0)))], [(q6, .inl (kA 0, 24, .inl (fun _ => 0)))], [(q7, .inl (kA 2, 48, .inl (fun _ => 0)))], [(q8, .inl (kA 0, 24, .inl (fun _ => 0)))], [(q9, .inl (kA 0, 128, .inl (fun _ => 0)))], [(q10, .inl (kA 0, 216, .inl (fun _ => 0)))], [(q11, .inl (kA 0, 48, .inl (fun _ => 0)))], [(q12, .inl (kA 0, 48, .inl (fun _ => 0)))]]) H := hP
  have hD : va_D A (cat [[(h, .inr (0, [.null, .int ((-1)), .ref q1, .ref q2, .ref q3, .ref q4, .ref q5, .int 0, .int 0, .int 0, .ref q6, .ref q7, .ref q8, .ref q9, .ref q10, .ref q11, .ref q12, .int 0, .int 0, .int 0, .int 0]))], [(q1, .inl (kA 0, 24, .inl (fun _ => 0)))], [(q2, .inl (kA 0, 24, .inl (fun _ => 0)))], [(q3, .inl (kA 0, 48, .inl (fun _ => 0)))], [(q4, .inl (kA 0, 1152, .inl (fun _ => 0)))], [(q5, .inl (kA 0, 1152, .inl (fun _ => 0)))], [(q6, .inl (kA 0, 24, .inl (fun _ => 0)))], [(q7, .inl (kA 2, 48, .inl (fun _ => 0)))], [(q8, .inl (kA 0, 24, .inl (fun _ => 0)))], [(q9, .inl (kA 0, 128, .inl (fun _ => 0)))], [(q10, .inl (kA 0, 216, .inl (fun _ => 0)))], [(q11, .inl (kA 0, 48, .inl (fun _ => 0)))], [(q12, .inl (kA 0, 48, .inl (fun _ => 0)))]]) := hD
  refine lv_aload_n (pc := 144) hx hb d_Dr_init_144 rfl (lv_at hl 0 rfl) ?_
  refine lv_aload_n (pc := 145) hx hb d_Dr_init_145 rfl (lv_at hl 1 rfl) ?_
  refine k_put (pc := 146) X hK hP hD hS 0 rfl rfl i_Dr t_Dr t_Dr_ok n_Dr 0 (by decide) wm_465 rfl (Or.inr ⟨rfl, rfl⟩) rfl rfl (Nat.le_of_ble_eq_true rfl) d_Dr_init_146 (fun H locs hP hD hS => ?_)
  have hP : va_P D classes (cat [[(h, .inr (0, [.ref p1, .int ((-1)), .ref q1, .ref q2, .ref q3, .ref q4, .ref q5, .int 0, .int 0, .int 0, .ref q6, .ref q7, .ref q8, .ref q9, .ref q10, .ref q11, .ref q12, .int 0, .int 0, .int 0, .int 0]))], [(q1, .inl (kA 0, 24, .inl (fun _ => 0)))], [(q2, .inl (kA 0, 24, .inl (fun _ => 0)))], [(q3, .inl (kA 0, 48, .inl (fun _ => 0)))], [(q4, .inl (kA 0, 1152, .inl (fun _ => 0)))], [(q5, .inl (kA 0, 1152, .inl (fun _ => 0)))], [(q6, .inl (kA 0, 24, .inl (fun _ => 0)))], [(q7, .inl (kA 2, 48, .inl (fun _ => 0)))], [(q8, .inl (kA 0, 24, .inl (fun _ => 0)))], [(q9, .inl (kA 0, 128, .inl (fun _ => 0)))], [(q10, .inl (kA 0, 216, .inl (fun _ => 0)))], [(q11, .inl (kA 0, 48, .inl (fun _ => 0)))], [(q12, .inl (kA 0, 48, .inl (fun _ => 0)))]]) H := hP
  have hD : va_D A (cat [[(h, .inr (0, [.ref p1, .int ((-1)), .ref q1, .ref q2, .ref q3, .ref q4, .ref q5, .int 0, .int 0, .int 0, .ref q6, .ref q7, .ref q8, .ref q9, .ref q10, .ref q11, .ref q12, .int 0, .int 0, .int 0, .int 0]))], [(q1, .inl (kA 0, 24, .inl (fun _ => 0)))], [(q2, .inl (kA 0, 24, .inl (fun _ => 0)))], [(q3, .inl (kA 0, 48, .inl (fun _ => 0)))], [(q4, .inl (kA 0, 1152, .inl (fun _ => 0)))], [(q5, .inl (kA 0, 1152, .inl (fun _ => 0)))], [(q6, .inl (kA 0, 24, .inl (fun _ => 0)))], [(q7, .inl (kA 2, 48, .inl (fun _ => 0)))], [(q8, .inl (kA 0, 24, .inl (fun _ => 0)))], [(q9, .inl (kA 0, 128, .inl (fun _ => 0)))], [(q10, .inl (kA 0, 216, .inl (fun _ => 0)))], [(q11, .inl (kA 0, 48, .inl (fun _ => 0)))], [(q12, .inl (kA 0, 48, .inl (fun _ => 0)))]]) := hD
  obtain ⟨hP, hD⟩ := k_ord (gc := [[(h, .inr (0, [.ref p1, .int ((-1)), .ref q1, .ref q2, .ref q3, .ref q4, .ref q5, .int 0, .int 0, .int 0, .ref q6, .ref q7, .ref q8, .ref q9, .ref q10, .ref q11, .ref q12, .int 0, .int 0, .int 0, .int 0]))], [(q1, .inl (kA 0, 24, .inl (fun _ => 0)))], [(q2, .inl (kA 0, 24, .inl (fun _ => 0)))], [(q3, .inl (kA 0, 48, .inl (fun _ => 0)))], [(q4, .inl (kA 0, 1152, .inl (fun _ => 0)))], [(q5, .inl (kA 0, 1152, .inl (fun _ => 0)))], [(q6, .inl (kA 0, 24, .inl (fun _ => 0)))], [(q7, .inl (kA 2, 48, .inl (fun _ => 0)))], [(q8, .inl (kA 0, 24, .inl (fun _ => 0)))], [(q9, .inl (kA 0, 128, .inl (fun _ => 0)))], [(q10, .inl (kA 0, 216, .inl (fun _ => 0)))], [(q11, .inl (kA 0, 48, .inl (fun _ => 0)))], [(q12, .inl (kA 0, 48, .inl (fun _ => 0)))]]) hP hD [0, 1, 2, 3, 4, 5, 6, 7, 8, 9, 10, 11, 12] 13 rfl (by decide) rfl
  refine W.widen (k := 12) (n := 2936) (Nat.le_of_ble_eq_true rfl) (Nat.le_of_ble_eq_true rfl) ?_
  exact W.vret hx hb hr (fun t ht hW => ⟨⟨(fun k => match k with | 2 => q1 | 3 => q2 | 4 => q3 | 5 => q4 | 6 => q5 | 10 => q6 | 11 => q7 | 12 => q8 | 13 => q9 | 14 => q10 | 15 => q11 | 16 => q12 | 0 => p1 | _ => 0), rfl, rfl, by rw [ht]; exact hP, va_K.moved hW.alike hK, hD⟩, hS.F ht⟩) hS.2.2 d_Dr_init_149
end
section
theorem wm_45 : (Cond.code ({ cls := "DrawingHouse$Reader", name := "<init>", desc := "()V" } : MethodName) prog_10_method_1_code (1 : Nat) (Option.none : Option ClassFile.FieldType) : Cond) ∈ lw_g := lw_gi (lw_c1 (List.mem_of_getElem? (i := 45) rfl)) rfl
theorem wm_46 : (Cond.methodLink "DrawingHouse$Reader" (3 : Nat) ({ cls := "java/lang/Object", name := "<init>", desc := "()V" } : MethodName) : Cond) ∈ lw_g := lw_gi (lw_c1 (List.mem_of_getElem? (i := 46) rfl)) rfl
theorem wm_47 : (Cond.classLink "DrawingHouse$Reader" (25 : Nat) "DrawingHouse$Graph" : Cond) ∈ lw_g := lw_gi (lw_c1 (List.mem_of_getElem? (i := 47) rfl)) rfl
theorem wm_48 : (Cond.instantiable "DrawingHouse$Graph" (19 : Nat) : Cond) ∈ lw_g := lw_gi (lw_c1 (List.mem_of_getElem? (i := 48) rfl)) rfl
theorem wm_49 : (Cond.methodLink "DrawingHouse$Reader" (27 : Nat) ({ cls := "DrawingHouse$Graph", name := "<init>", desc := "()V" } : MethodName) : Cond) ∈ lw_g := lw_gi (lw_c1 (List.mem_of_getElem? (i := 49) rfl)) rfl
theorem wm_50 : (Cond.instanceMethod ({ cls := "DrawingHouse$Graph", name := "<init>", desc := "()V" } : MethodName) : Cond) ∈ lw_g := lw_gi (lw_c1 (List.mem_of_getElem? (i := 50) rfl)) rfl
abbrev b_Re_init : ByteArray := prog_10_method_1_code
def y_Re_init : MethodName := ⟨"DrawingHouse$Reader", "<init>", "()V"⟩
abbrev z_Re_init : List Cond := Cond.code y_Re_init b_Re_init 1 none :: lw_g
theorem d_Re_init_0 : decode b_Re_init 0 = .ok (.aload_n 0, 1) := by decide +kernel
theorem d_Re_init_1 : decode b_Re_init 1 = .ok (.invokespecial 3, 3) := by decide +kernel
theorem d_Re_init_4 : decode b_Re_init 4 = .ok (.aload_n 0, 1) := by decide +kernel
theorem d_Re_init_5 : decode b_Re_init 5 = .ok (.sipush 2000, 3) := by decide +kernel
theorem d_Re_init_8 : decode b_Re_init 8 = .ok (.newarray .byte, 2) := by decide +kernel
theorem d_Re_init_10 : decode b_Re_init 10 = .ok (.putfield 9, 3) := by decide +kernel
theorem d_Re_init_13 : decode b_Re_init 13 = .ok (.aload_n 0, 1) := by decide +kernel
theorem d_Re_init_14 : decode b_Re_init 14 = .ok (.iconst 0, 1) := by decide +kernel
theorem d_Re_init_15 : decode b_Re_init 15 = .ok (.putfield 15, 3) := by decide +kernel
theorem d_Re_init_18 : decode b_Re_init 18 = .ok (.aload_n 0, 1) := by decide +kernel
theorem d_Re_init_19 : decode b_Re_init 19 = .ok (.iconst (-1), 1) := by decide +kernel
theorem d_Re_init_20 : decode b_Re_init 20 = .ok (.putfield 19, 3) := by decide +kernel
theorem d_Re_init_23 : decode b_Re_init 23 = .ok (.aload_n 0, 1) := by decide +kernel
theorem d_Re_init_24 : decode b_Re_init 24 = .ok (.iconst (-1), 1) := by decide +kernel
theorem d_Re_init_25 : decode b_Re_init 25 = .ok (.putfield 22, 3) := by decide +kernel
theorem d_Re_init_28 : decode b_Re_init 28 = .ok (.aload_n 0, 1) := by decide +kernel
theorem d_Re_init_29 : decode b_Re_init 29 = .ok (.new 25, 3) := by decide +kernel
theorem d_Re_init_32 : decode b_Re_init 32 = .ok (.dup, 1) := by decide +kernel
theorem d_Re_init_33 : decode b_Re_init 33 = .ok (.invokespecial 27, 3) := by decide +kernel
theorem d_Re_init_36 : decode b_Re_init 36 = .ok (.putfield 28, 3) := by decide +kernel
theorem d_Re_init_39 : decode b_Re_init 39 = .ok (.aload_n 0, 1) := by decide +kernel
theorem d_Re_init_40 : decode b_Re_init 40 = .ok (.iconst 0, 1) := by decide +kernel
theorem d_Re_init_41 : decode b_Re_init 41 = .ok (.putfield 32, 3) := by decide +kernel
theorem d_Re_init_44 : decode b_Re_init 44 = .ok (.aload_n 0, 1) := by decide +kernel
theorem d_Re_init_45 : decode b_Re_init 45 = .ok (.iconst 0, 1) := by decide +kernel
theorem d_Re_init_46 : decode b_Re_init 46 = .ok (.putfield 35, 3) := by decide +kernel
theorem d_Re_init_49 : decode b_Re_init 49 = .ok (.aload_n 0, 1) := by decide +kernel
theorem d_Re_init_50 : decode b_Re_init 50 = .ok (.iconst 0, 1) := by decide +kernel
theorem d_Re_init_51 : decode b_Re_init 51 = .ok (.putfield 38, 3) := by decide +kernel
theorem d_Re_init_54 : decode b_Re_init 54 = .ok (.aload_n 0, 1) := by decide +kernel
theorem d_Re_init_55 : decode b_Re_init 55 = .ok (.iconst 0, 1) := by decide +kernel
theorem d_Re_init_56 : decode b_Re_init 56 = .ok (.putfield 41, 3) := by decide +kernel
theorem d_Re_init_59 : decode b_Re_init 59 = .ok (.aload_n 0, 1) := by decide +kernel
theorem d_Re_init_60 : decode b_Re_init 60 = .ok (.iconst 0, 1) := by decide +kernel
theorem d_Re_init_61 : decode b_Re_init 61 = .ok (.putfield 44, 3) := by decide +kernel
theorem d_Re_init_64 : decode b_Re_init 64 = .ok (.aload_n 0, 1) := by decide +kernel
theorem d_Re_init_65 : decode b_Re_init 65 = .ok (.iconst 5, 1) := by decide +kernel
theorem d_Re_init_66 : decode b_Re_init 66 = .ok (.newarray .int, 2) := by decide +kernel
theorem d_Re_init_68 : decode b_Re_init 68 = .ok (.putfield 47, 3) := by decide +kernel
theorem d_Re_init_71 : decode b_Re_init 71 = .ok (.aload_n 0, 1) := by decide +kernel
theorem d_Re_init_72 : decode b_Re_init 72 = .ok (.iconst 0, 1) := by decide +kernel
theorem d_Re_init_73 : decode b_Re_init 73 = .ok (.putfield 51, 3) := by decide +kernel
theorem d_Re_init_76 : decode b_Re_init 76 = .ok (.return_, 1) := by decide +kernel
abbrev f0Re : List Value := [.null, .int 0, .int 0, .int 0, .null, .int 0, .int 0, .int 0, .int 0, .int 0, .null, .int 0]
set_option maxRecDepth 20000 in
theorem f0Re_ok : ∀ j, j < 12 → defaultValue (t_Re j) = vp_V f0Re j := by decide +kernel
def wRe (kA : Nat → ClassId) (h : Nat) (q : Nat → Nat) (x : Nat → Int32) (a : Nat → Nat → Int32) : va_W := [(h, .inr (8, [.ref (q 0), .int (x 1), .int (x 2), .int (x 3), .ref (q 4), .int (x 5), .int (x 6), .int (x 7), .int (x 8), .int (x 9), .ref (q 10), .int (x 11)])), (q 0, .inl (kA 1, 2000, .inl (a 0))), (q 10, .inl (kA 0, 5, .inl (a 10)))]
def x0Re : Nat → Int32 := fun k => match k with | 2 => (-1) | 3 => (-1) | _ => 0
def a0Re : Nat → Nat → Int32 := fun _ => fun _ => 0
set_option maxRecDepth 100000 in
set_option maxHeartbeats 4000000 in
/-- DrawingHouse$Reader()V -/
theorem c_Re_init (l : Launch) (D : va_G) (kA : Nat → ClassId) (h : Nat) : Cv l y_Re_init z_Re_init { frames := 2, cells := 16, slots := 3160, locals := 43 } D classes (TY kA) [.ref h] [[(h, .inr (8, f0Re))]] (fun u : (Nat → Nat → Nat) => True) (fun u => [wRe kA h ((u 0)) x0Re a0Re, wGr kA (u 0 4) ((u 1)) x0Gr a0Gr none]) 16 3160 := by
  intro sz
  refine k_met (cc := b_Re_init) (maxL := 1) (ret := none) (by decide) rfl (Nat.le_of_ble_eq_true rfl) (fun p e s m below meth c ls X hl hB => ?_)
  obtain ⟨hsz, hP, hK, hD0, hN⟩ := hB
  subst hsz
  have hD := hD0.self (sz := s.heap.size)
  generalize hAe : va_A (cat [[(h, .inr (8, [.null, .int 0, .int 0, .int 0, .null, .int 0, .int 0, .int 0, .int 0, .int 0, .null, .int 0]))]]) s.heap.size = A at hD ⊢
  have hA : ∀ q : Nat, s.heap.size ≤ q → A q := fun q h => by rw [← hAe]; exact Or.inr h
  have hS : va_S A s.heap s.heap [] := va_S.rf
  obtain ⟨hx, hb, hml, hown, hts, hr, hlk, hnm⟩ := id X
  have hl : lv_has ls 1 [(0, .ref h)] := hl
  have hP : va_P D classes (cat [[(h, .inr (8, [.null, .int 0, .int 0, .int 0, .null, .int 0, .int 0, .int 0, .int 0, .int 0, .null, .int 0]))]]) s.heap := hP
  have hK : va_K D classes (TY kA) s := hK
  refine lv_aload_n (pc := 0) hx hb d_Re_init_0 rfl (lv_at hl 0 rfl) ?_
  refine W.objInit hx hb hown (hts _ wm_46) (hts _ wm_31) (hts _ wm_32) rfl (by rw [hml]; exact hl.1) rfl d_Re_init_1 (Nat.le_of_ble_eq_true rfl) (Nat.le_of_ble_eq_true rfl) ?_
  refine W.eq (g2 := F0 m 4 ls []) rfl ?_
  refine lv_aload_n (pc := 4) hx hb d_Re_init_4 rfl (lv_at hl 0 rfl) ?_
  refine lv_sipush (pc := 5) (v := 2000) hx hb d_Re_init_5 (by decide) ?_
  refine k_newa (pc := 8) (atype := .byte) X (ty := .byte) (a0 := (2000, .inl (fun _ => 0))) rfl rfl wm_192 hK hP hD hS hA 1 rfl (fun _ => rfl) (by decide) rfl (by decide) (Nat.le_of_ble_eq_true rfl) (Nat.le_of_ble_eq_true rfl) d_Re_init_8 (fun q1 H hP hD hS => ?_)
  have hP : va_P D classes (cat [[(h, .inr (8, [.null, .int 0, .int 0, .int 0, .null, .int 0, .int 0, .int 0, .int 0, .int 0, .null, .int 0]))], [(q1, .inl (kA 1, 2000, .inl (fun _ => 0)))]]) H := hP
  have hD : va_D A (cat [[(h, .inr (8, [.null, .int 0, .int 0, .int 0, .null, .int 0, .int 0, .int 0, .int 0, .int 0, .null, .int 0]))], [(q1, .inl (kA 1, 2000, .inl (fun _ => 0)))]]) := hD
  refine W.widen (k := 1) (n := 2000) (by omega) (by omega) ?_
  refine k_put (pc := 10) X hK hP hD hS 0 rfl rfl i_Re t_Re t_Re_ok n_Re 0 (by decide) wm_194 rfl (Or.inr ⟨rfl, rfl⟩) rfl rfl (Nat.le_of_ble_eq_true rfl) d_Re_init_10 (fun H locs hP hD hS => ?_)
  have hP : va_P D classes (cat [[(h, .inr (8, [.ref q1, .int 0, .int 0, .int 0, .null, .int 0, .int 0, .int 0, .int 0, .int 0, .null, .int 0]))], [(q1, .inl (kA 1, 2000, .inl (fun _ => 0)))]]) H := hP
  have hD : va_D A (cat [[(h, .inr (8, [.ref q1, .int 0, .int 0, .int 0, .null, .int 0, .int 0, .int 0, .int 0, .int 0, .null, .int 0]))], [(q1, .inl (kA 1, 2000, .inl (fun _ => 0)))]]) := hD
  refine lv_aload_n (pc := 13) hx hb d_Re_init_13 rfl (lv_at hl 0 rfl) ?_
  refine lv_iconst (pc := 14) (v := 0) hx hb d_Re_init_14 (by decide) ?_
  refine k_put (pc := 15) X hK hP hD hS 0 rfl rfl i_Re t_Re t_Re_ok n_Re 1 (by decide) wm_196 rfl (Or.inl rfl) rfl rfl (Nat.le_of_ble_eq_true rfl) d_Re_init_15 (fun H locs hP hD hS => ?_)
  have hP : va_P D classes (cat [[(h, .inr (8, [.ref q1, .int 0, .int 0, .int 0, .null, .int 0, .int 0, .int 0, .int 0, .int 0, .null, .int 0]))], [(q1, .inl (kA 1, 2000, .inl (fun _ => 0)))]]) H := hP
  have hD : va_D A (cat [[(h, .inr (8, [.ref q1, .int 0, .int 0, .int 0, .null, .int 0, .int 0, .int 0, .int 0, .int 0, .null, .int 0]))], [(q1, .inl (kA 1, 2000, .inl (fun _ => 0)))]]) := hD
  refine lv_aload_n (pc := 18) hx hb d_Re_init_18 rfl (lv_at hl 0 rfl) ?_
  refine lv_iconst (pc := 19) (v := -1) hx hb d_Re_init_19 (by decide) ?_
  refine k_put (pc := 20) X hK hP hD hS 0 rfl rfl i_Re t_Re t_Re_ok n_Re 2 (by decide) wm_198 rfl (Or.inl rfl) rfl rfl (Nat.le_of_ble_eq_true rfl) d_Re_init_20 (fun H locs hP hD hS => ?_)
  have hP : va_P D classes (cat [[(h, .inr (8, [.ref q1, .int 0, .int ((-1)), .int 0, .null, .int 0, .int 0, .int 0, .int 0, .int 0, .null, .int 0]))], [(q1, .inl (kA 1, 2000, .inl (fun _ => 0)))]]) H := hP
  have hD : va_D A (cat [[(h, .inr (8, [.ref q1, .int 0, .int ((-1)), .int 0, .null, .int 0, .int 0, .int 0, .int 0, .int 0, .null, .int 0]))], [(q1, .inl (kA 1, 2000, .inl (fun _ => 0)))]]) := hD
  refine lv_aload_n (pc := 23) hx hb d_Re_init_23 rfl (lv_at hl 0 rfl) ?_
  refine lv_iconst (pc := 24) (v := -1) hx hb d_Re_init_24 (by decide) ?_
  refine k_put (pc := 25) X hK hP hD hS 0 rfl rfl i_Re t_Re t_Re_ok n_Re 3 (by decide) wm_200 rfl (Or.inl rfl) rfl rfl (Nat.le_of_ble_eq_true rfl) d_Re_init_25 (fun H locs hP hD hS => ?_)
  have hP : va_P D classes (cat [[(h, .inr (8, [.ref q1, .int 0, .int ((-1)), .int ((-1)), .null, .int 0, .int 0, .int 0, .int 0, .int 0, .null, .int 0]))], [(q1, .inl (kA 1, 2000, .inl (fun _ => 0)))]]) H := hP
  have hD : va_D A (cat [[(h, .inr (8, [.ref q1, .int 0, .int ((-1)), .int ((-1)), .null, .int 0, .int 0, .int 0, .int 0, .int 0, .null, .int 0]))], [(q1, .inl (kA 1, 2000, .inl (fun _ => 0)))]]) := hD
  refine lv_aload_n (pc := 28) hx hb d_Re_init_28 rfl (lv_at hl 0 rfl) ?_
  refine k_new (pc := 29) (fs := f0Gr) X i_Gr t_Gr t_Gr_ok wm_47 wm_48 wm_3 hK hP hD hS hA (ci := 3) rfl f0Gr_ok (Nat.le_of_ble_eq_true rfl) (Nat.le_of_ble_eq_true rfl) d_Re_init_29 (fun q2 H hP hD hS => ?_)
  have hP : va_P D classes (cat [[(h, .inr (8, [.ref q1, .int 0, .int ((-1)), .int ((-1)), .null, .int 0, .int 0, .int 0, .int 0, .int 0, .null, .int 0]))], [(q1, .inl (kA 1, 2000, .inl (fun _ => 0)))], [(q2, .inr (3, [.int 0, .int 0, .int 0, .null, .null, .null, .null, .null, .null, .null, .null, .null, .null, .null, .null, .null, .null, .int 0, .int 0]))]]) H := hP
  have hD : va_D A (cat [[(h, .inr (8, [.ref q1, .int 0, .int ((-1)), .int ((-1)), .null, .int 0, .int 0, .int 0, .int 0, .int 0, .null, .int 0]))], [(q1, .inl (kA 1, 2000, .inl (fun _ => 0)))], [(q2, .inr (3, [.int 0, .int 0, .int 0, .null, .null, .null, .null, .null, .null, .null, .null, .null, .null, .null, .null, .null, .null, .int 0, .int 0]))]]) := hD
  refine W.widen (k := 2) (n := 2019) (by omega) (by omega) ?_
  refine lv_dup (pc := 32) hx hb d_Re_init_32 rfl ?_
  refine k_goV (gr := [[(h, .inr (8, [.ref q1, .int 0, .int ((-1)), .int ((-1)), .null, .int 0, .int 0, .int 0, .int 0, .int 0, .null, .int 0]))], [(q1, .inl (kA 1, 2000, .inl (fun _ => 0)))]]) (k_rI (pc := 33) (As := []) (rest := [.ref q2, .ref h]) X (c_Gr_init l D kA q2 H.size) rfl wm_51 wm_3 wm_49 wm_50 rfl 0 (by decide +kernel) ⟨Nat.le_of_ble_eq_true rfl, Nat.le_of_ble_eq_true rfl⟩ rfl rfl (k_pre hN hK hP hD [2] [0, 1] 3 rfl (by decide) rfl) rfl hl.1 rfl (Nat.le_of_ble_eq_true rfl) d_Re_init_33 ⟨Nat.le_of_ble_eq_true rfl, Nat.le_of_ble_eq_true rfl⟩) hP hD hS hA [2] [0, 1] 3 rfl (by decide) rfl rfl (fun u3 H locs hu3 hP hD hS => ?_)
  have hP : va_P D classes (cat [[(h, .inr (8, [.ref q1, .int 0, .int ((-1)), .int ((-1)), .null, .int 0, .int 0, .int 0, .int 0, .int 0, .null, .int 0]))], [(q1, .inl (kA 1, 2000, .inl (fun _ => 0)))], wGr kA q2 u3 x0Gr a0Gr none]) H := hP
  have hD : va_D A (cat [[(h, .inr (8, [.ref q1, .int 0, .int ((-1)), .int ((-1)), .null, .int 0, .int 0, .int 0, .int 0, .int 0, .null, .int 0]))], [(q1, .inl (kA 1, 2000, .inl (fun _ => 0)))], wGr kA q2 u3 x0Gr a0Gr none]) := hD
  refine W.widen (k := 15) (n := 3155) (by omega) (by omega) ?_
  refine k_put (pc := 36) X hK hP hD hS 0 rfl rfl i_Re t_Re t_Re_ok n_Re 4 (by decide) wm_202 rfl (Or.inr ⟨rfl, rfl⟩) rfl rfl (Nat.le_of_ble_eq_true rfl) d_Re_init_36 (fun H locs hP hD hS => ?_)
  have hP : va_P D classes (cat [[(h, .inr (8, [.ref q1, .int 0, .int ((-1)), .int ((-1)), .ref q2, .int 0, .int 0, .int 0, .int 0, .int 0, .null, .int 0]))], [(q1, .inl (kA 1, 2000, .inl (fun _ => 0)))], wGr kA q2 u3 x0Gr a0Gr none]) H := hP
  have hD : va_D A (cat [[(h, .inr (8, [.ref q1, .int 0, .int ((-1)), .int ((-1)), .ref q2, .int 0, .int 0, .int 0, .int 0, .int 0, .null, .int 0]))], [(q1, .inl (kA 1, 2000, .inl (fun _ => 0)))], wGr kA q2 u3 x0Gr a0Gr none]) := hD
  refine lv_aload_n (pc := 39) hx hb d_Re_init_39 rfl (lv_at hl 0 rfl) ?_
  refine lv_iconst (pc := 40) (v := 0) hx hb d_Re_init_40 (by decide) ?_
  refine k_put (pc := 41) X hK hP hD hS 0 rfl rfl i_Re t_Re t_Re_ok n_Re 5 (by decide) wm_204 rfl (Or.inl rfl) rfl rfl (Nat.le_of_ble_eq_true rfl) d_Re_init_41 (fun H locs hP hD hS => ?_)
  have hP : va_P D classes (cat [[(h, .inr (8, [.ref q1, .int 0, .int ((-1)), .int ((-1)), .ref q2, .int 0, .int 0, .int 0, .int 0, .int 0, .null, .int 0]))], [(q1, .inl (kA 1, 2000, .inl (fun _ => 0)))], wGr kA q2 u3 x0Gr a0Gr none]) H := hP
  have hD : va_D A (cat [[(h, .inr (8, [.ref q1, .int 0, .int ((-1)), .int ((-1)), .ref q2, .int 0, .int 0, .int 0, .int 0, .int 0, .null, .int 0]))], [(q1, .inl (kA 1, 2000, .inl (fun _ => 0)))], wGr kA q2 u3 x0Gr a0Gr none]) := hD
  refine lv_aload_n (pc := 44) hx hb d_Re_init_44 rfl (lv_at hl 0 rfl) ?_
  refine lv_iconst (pc := 45) (v := 0) hx hb d_Re_init_45 (by decide) ?_
  refine k_put (pc := 46) X hK hP hD hS 0 rfl rfl i_Re t_Re t_Re_ok n_Re 6 (by decide) wm_205 rfl (Or.inl rfl) rfl rfl (Nat.le_of_ble_eq_true rfl) d_Re_init_46 (fun H locs hP hD hS => ?_)
  have hP : va_P D classes (cat [[(h, .inr (8, [.ref q1, .int 0, .int ((-1)), .int ((-1)), .ref q2, .int 0, .int 0, .int 0, .int 0, .int 0, .null, .int 0]))], [(q1, .inl (kA 1, 2000, .inl (fun _ => 0)))], wGr kA q2 u3 x0Gr a0Gr none]) H := hP
  have hD : va_D A (cat [[(h, .inr (8, [.ref q1, .int 0, .int ((-1)), .int ((-1)), .ref q2, .int 0, .int 0, .int 0, .int 0, .int 0, .null, .int 0]))], [(q1, .inl (kA 1, 2000, .inl (fun _ => 0)))], wGr kA q2 u3 x0Gr a0Gr none]) := hD
  refine lv_aload_n (pc := 49) hx hb d_Re_init_49 rfl (lv_at hl 0 rfl) ?_
  refine lv_iconst (pc := 50) (v := 0) hx hb d_Re_init_50 (by decide) ?_
  refine k_put (pc := 51) X hK hP hD hS 0 rfl rfl i_Re t_Re t_Re_ok n_Re 7 (by decide) wm_206 rfl (Or.inl rfl) rfl rfl (Nat.le_of_ble_eq_true rfl) d_Re_init_51 (fun H locs hP hD hS => ?_)
  have hP : va_P D classes (cat [[(h, .inr (8, [.ref q1, .int 0, .int ((-1)), .int ((-1)), .ref q2, .int 0, .int 0, .int 0, .int 0, .int 0, .null, .int 0]))], [(q1, .inl (kA 1, 2000, .inl (fun _ => 0)))], wGr kA q2 u3 x0Gr a0Gr none]) H := hP
  have hD : va_D A (cat [[(h, .inr (8, [.ref q1, .int 0, .int ((-1)), .int ((-1)), .ref q2, .int 0, .int 0, .int 0, .int 0, .int 0, .null, .int 0]))], [(q1, .inl (kA 1, 2000, .inl (fun _ => 0)))], wGr kA q2 u3 x0Gr a0Gr none]) := hD
  refine lv_aload_n (pc := 54) hx hb d_Re_init_54 rfl (lv_at hl 0 rfl) ?_
  refine lv_iconst (pc := 55) (v := 0) hx hb d_Re_init_55 (by decide) ?_
  refine k_put (pc := 56) X hK hP hD hS 0 rfl rfl i_Re t_Re t_Re_ok n_Re 8 (by decide) wm_207 rfl (Or.inl rfl) rfl rfl (Nat.le_of_ble_eq_true rfl) d_Re_init_56 (fun H locs hP hD hS => ?_)
  have hP : va_P D classes (cat [[(h, .inr (8, [.ref q1, .int 0, .int ((-1)), .int ((-1)), .ref q2, .int 0, .int 0, .int 0, .int 0, .int 0, .null, .int 0]))], [(q1, .inl (kA 1, 2000, .inl (fun _ => 0)))], wGr kA q2 u3 x0Gr a0Gr none]) H := hP
  have hD : va_D A (cat [[(h, .inr (8, [.ref q1, .int 0, .int ((-1)), .int ((-1)), .ref q2, .int 0, .int 0, .int 0, .int 0, .int 0, .null, .int 0]))], [(q1, .inl (kA 1, 2000, .inl (fun _ => 0)))], wGr kA q2 u3 x0Gr a0Gr none]) := hD
  refine lv_aload_n (pc := 59) hx hb d_Re_init_59 rfl (lv_at hl 0 rfl) ?_
  refine lv_iconst (pc := 60) (v := 0) hx hb d_Re_init_60 (by decide) ?_
  refine k_put (pc := 61) X hK hP hD hS 0 rfl rfl i_Re t_Re t_Re_ok n_Re 9 (by decide) wm_208 rfl (Or.inl rfl) rfl rfl (Nat.le_of_ble_eq_true rfl) d_Re_init_61 (fun H locs hP hD hS => ?_)
  have hP : va_P D classes (cat [[(h, .inr (8, [.ref q1, .int 0, .int ((-1)), .int ((-1)), .ref q2, .int 0, .int 0, .int 0, .int 0, .int 0, .null, .int 0]))], [(q1, .inl (kA 1, 2000, .inl (fun _ => 0)))], wGr kA q2 u3 x0Gr a0Gr none]) H := hP
  have hD : va_D A (cat [[(h, .inr (8, [.ref q1, .int 0, .int ((-1)), .int ((-1)), .ref q2, .int 0, .int 0, .int 0, .int 0, .int 0, .null, .int 0]))], [(q1, .inl (kA 1, 2000, .inl (fun _ => 0)))], wGr kA q2 u3 x0Gr a0Gr none]) := hD
  refine lv_aload_n (pc := 64) hx hb d_Re_init_64 rfl (lv_at hl 0 rfl) ?_
  refine lv_iconst (pc := 65) (v := 5) hx hb d_Re_init_65 (by decide) ?_
  refine k_newa (pc := 66) (atype := .int) X (ty := .int) (a0 := (5, .inl (fun _ => 0))) rfl rfl wm_193 hK hP hD hS hA 0 rfl (fun _ => rfl) (by decide) rfl (by decide) (Nat.le_of_ble_eq_true rfl) (Nat.le_of_ble_eq_true rfl) d_Re_init_66 (fun q4 H hP hD hS => ?_)
  have hP : va_P D classes (cat [[(h, .inr (8, [.ref q1, .int 0, .int ((-1)), .int ((-1)), .ref q2, .int 0, .int 0, .int 0, .int 0, .int 0, .null, .int 0]))], [(q1, .inl (kA 1, 2000, .inl (fun _ => 0)))], wGr kA q2 u3 x0Gr a0Gr none, [(q4, .inl (kA 0, 5, .inl (fun _ => 0)))]]) H := hP
  have hD : va_D A (cat [[(h, .inr (8, [.ref q1, .int 0, .int ((-1)), .int ((-1)), .ref q2, .int 0, .int 0, .int 0, .int 0, .int 0, .null, .int 0]))], [(q1, .inl (kA 1, 2000, .inl (fun _ => 0)))], wGr kA q2 u3 x0Gr a0Gr none, [(q4, .inl (kA 0, 5, .inl (fun _ => 0)))]]) := hD
  refine W.widen (k := 16) (n := 3160) (by omega) (by omega) ?_
  refine k_put (pc := 68) X hK hP hD hS 0 rfl rfl i_Re t_Re t_Re_ok n_Re 10 (by decide) wm_209 rfl (Or.inr ⟨rfl, rfl⟩) rfl rfl (Nat.le_of_ble_eq_true rfl) d_Re_init_68 (fun H locs hP hD hS => ?_)
  have hP : va_P D classes (cat [[(h, .inr (8, [.ref q1, .int 0, .int ((-1)), .int ((-1)), .ref q2, .int 0, .int 0, .int 0, .int 0, .int 0, .ref q4, .int 0]))], [(q1, .inl (kA 1, 2000, .inl (fun _ => 0)))], wGr kA q2 u3 x0Gr a0Gr none, [(q4, .inl (kA 0, 5, .inl (fun _ => 0)))]]) H := hP
  have hD : va_D A (cat [[(h, .inr (8, [.ref q1, .int 0, .int ((-1)), .int ((-1)), .ref q2, .int 0, .int 0, .int 0, .int 0, .int 0, .ref q4, .int 0]))], [(q1, .inl (kA 1, 2000, .inl (fun _ => 0)))], wGr kA q2 u3 x0Gr a0Gr none, [(q4, .inl (kA 0, 5, .inl (fun _ => 0)))]]) := hD
  refine lv_aload_n (pc := 71) hx hb d_Re_init_71 rfl (lv_at hl 0 rfl) ?_
  refine lv_iconst (pc := 72) (v := 0) hx hb d_Re_init_72 (by decide) ?_
  refine k_put (pc := 73) X hK hP hD hS 0 rfl rfl i_Re t_Re t_Re_ok n_Re 11 (by decide) wm_210 rfl (Or.inl rfl) rfl rfl (Nat.le_of_ble_eq_true rfl) d_Re_init_73 (fun H locs hP hD hS => ?_)
  have hP : va_P D classes (cat [[(h, .inr (8, [.ref q1, .int 0, .int ((-1)), .int ((-1)), .ref q2, .int 0, .int 0, .int 0, .int 0, .int 0, .ref q4, .int 0]))], [(q1, .inl (kA 1, 2000, .inl (fun _ => 0)))], wGr kA q2 u3 x0Gr a0Gr none, [(q4, .inl (kA 0, 5, .inl (fun _ => 0)))]]) H := hP
  have hD : va_D A (cat [[(h, .inr (8, [.ref q1, .int 0, .int ((-1)), .int ((-1)), .ref q2, .int 0, .int 0, .int 0, .int 0, .int 0, .ref q4, .int 0]))], [(q1, .inl (kA 1, 2000, .inl (fun _ => 0)))], wGr kA q2 u3 x0Gr a0Gr none, [(q4, .inl (kA 0, 5, .inl (fun _ => 0)))]]) := hD
  obtain ⟨hP, hD⟩ := k_ord (gc := [[(h, .inr (8, [.ref q1, .int 0, .int ((-1)), .int ((-1)), .ref q2, .int 0, .int 0, .int 0, .int 0, .int 0, .ref q4, .int 0]))], [(q1, .inl (kA 1, 2000, .inl (fun _ => 0)))], [(q4, .inl (kA 0, 5, .inl (fun _ => 0)))], wGr kA q2 u3 x0Gr a0Gr none]) hP hD [0, 1, 3, 2] 4 rfl (by decide) rfl
  refine W.widen (k := 16) (n := 3160) (Nat.le_of_ble_eq_true rfl) (Nat.le_of_ble_eq_true rfl) ?_
  exact W.vret hx hb hr (fun t ht hW => ⟨⟨(fun i => match i with | 0 => (fun k => match k with | 0 => q1 | 10 => q4 | 4 => q2 | _ => 0) | 1 => u3 | _ => fun _ => 0), rfl, trivial, by rw [ht]; exact hP, va_K.moved hW.alike hK, hD⟩, hS.F ht⟩) hS.2.2 d_Re_init_76
end
section
theorem wm_240 : (Cond.code ({ cls := "DrawingHouse$Embedder", name := "<init>", desc := "()V" } : MethodName) prog_3_method_1_code (1 : Nat) (Option.none : Option ClassFile.FieldType) : Cond) ∈ lw_g := lw_gi (lw_c2 (List.mem_of_getElem? (i := 0) rfl)) rfl
theorem wm_241 : (Cond.methodLink "DrawingHouse$Embedder" (3 : Nat) ({ cls := "java/lang/Object", name := "<init>", desc := "()V" } : MethodName) : Cond) ∈ lw_g := lw_gi (lw_c2 (List.mem_of_getElem? (i := 1) rfl)) rfl
theorem wm_242 : (Cond.classLink "DrawingHouse$Embedder" (15 : Nat) "DrawingHouse$Net" : Cond) ∈ lw_g := lw_gi (lw_c2 (List.mem_of_getElem? (i := 2) rfl)) rfl
theorem wn_244 : (Cond.methodLinkNest "DrawingHouse$Embedder" (17 : Nat) ({ cls := "DrawingHouse$Net", name := "<init>", desc := "()V" } : MethodName) "DrawingHouse" : Cond) ∈ lw_n := lw_ni (lw_c2 (List.mem_of_getElem? (i := 4) rfl)) rfl
abbrev b_Em_init : ByteArray := prog_3_method_1_code
def y_Em_init : MethodName := ⟨"DrawingHouse$Embedder", "<init>", "()V"⟩
abbrev z_Em_init : List Cond := Cond.code y_Em_init b_Em_init 1 none :: lw_g
theorem d_Em_init_0 : decode b_Em_init 0 = .ok (.aload_n 0, 1) := by decide +kernel
theorem d_Em_init_1 : decode b_Em_init 1 = .ok (.invokespecial 3, 3) := by decide +kernel
theorem d_Em_init_4 : decode b_Em_init 4 = .ok (.aload_n 0, 1) := by decide +kernel
theorem d_Em_init_5 : decode b_Em_init 5 = .ok (.aconst_null, 1) := by decide +kernel
theorem d_Em_init_6 : decode b_Em_init 6 = .ok (.putfield 9, 3) := by decide +kernel
theorem d_Em_init_9 : decode b_Em_init 9 = .ok (.aload_n 0, 1) := by decide +kernel
theorem d_Em_init_10 : decode b_Em_init 10 = .ok (.new 15, 3) := by decide +kernel
theorem d_Em_init_13 : decode b_Em_init 13 = .ok (.dup, 1) := by decide +kernel
theorem d_Em_init_14 : decode b_Em_init 14 = .ok (.invokespecial 17, 3) := by decide +kernel
theorem d_Em_init_17 : decode b_Em_init 17 = .ok (.putfield 18, 3) := by decide +kernel
theorem d_Em_init_20 : decode b_Em_init 20 = .ok (.aload_n 0, 1) := by decide +kernel
theorem d_Em_init_21 : decode b_Em_init 21 = .ok (.bipush 72, 2) := by decide +kernel
theorem d_Em_init_23 : decode b_Em_init 23 = .ok (.newarray .int, 2) := by decide +kernel
theorem d_Em_init_25 : decode b_Em_init 25 = .ok (.putfield 21, 3) := by decide +kernel
theorem d_Em_init_28 : decode b_Em_init 28 = .ok (.aload_n 0, 1) := by decide +kernel
theorem d_Em_init_29 : decode b_Em_init 29 = .ok (.bipush 72, 2) := by decide +kernel
theorem d_Em_init_31 : decode b_Em_init 31 = .ok (.newarray .boolean, 2) := by decide +kernel
theorem d_Em_init_33 : decode b_Em_init 33 = .ok (.putfield 25, 3) := by decide +kernel
theorem d_Em_init_36 : decode b_Em_init 36 = .ok (.aload_n 0, 1) := by decide +kernel
theorem d_Em_init_37 : decode b_Em_init 37 = .ok (.bipush 48, 2) := by decide +kernel
theorem d_Em_init_39 : decode b_Em_init 39 = .ok (.newarray .boolean, 2) := by decide +kernel
theorem d_Em_init_41 : decode b_Em_init 41 = .ok (.putfield 29, 3) := by decide +kernel
theorem d_Em_init_44 : decode b_Em_init 44 = .ok (.aload_n 0, 1) := by decide +kernel
theorem d_Em_init_45 : decode b_Em_init 45 = .ok (.iconst 0, 1) := by decide +kernel
theorem d_Em_init_46 : decode b_Em_init 46 = .ok (.putfield 32, 3) := by decide +kernel
theorem d_Em_init_49 : decode b_Em_init 49 = .ok (.aload_n 0, 1) := by decide +kernel
theorem d_Em_init_50 : decode b_Em_init 50 = .ok (.iconst 0, 1) := by decide +kernel
theorem d_Em_init_51 : decode b_Em_init 51 = .ok (.putfield 36, 3) := by decide +kernel
theorem d_Em_init_54 : decode b_Em_init 54 = .ok (.aload_n 0, 1) := by decide +kernel
theorem d_Em_init_55 : decode b_Em_init 55 = .ok (.iconst 0, 1) := by decide +kernel
theorem d_Em_init_56 : decode b_Em_init 56 = .ok (.putfield 39, 3) := by decide +kernel
theorem d_Em_init_59 : decode b_Em_init 59 = .ok (.aload_n 0, 1) := by decide +kernel
theorem d_Em_init_60 : decode b_Em_init 60 = .ok (.sipush 1250, 3) := by decide +kernel
theorem d_Em_init_63 : decode b_Em_init 63 = .ok (.newarray .int, 2) := by decide +kernel
theorem d_Em_init_65 : decode b_Em_init 65 = .ok (.putfield 42, 3) := by decide +kernel
theorem d_Em_init_68 : decode b_Em_init 68 = .ok (.aload_n 0, 1) := by decide +kernel
theorem d_Em_init_69 : decode b_Em_init 69 = .ok (.bipush 50, 2) := by decide +kernel
theorem d_Em_init_71 : decode b_Em_init 71 = .ok (.newarray .int, 2) := by decide +kernel
theorem d_Em_init_73 : decode b_Em_init 73 = .ok (.putfield 45, 3) := by decide +kernel
theorem d_Em_init_76 : decode b_Em_init 76 = .ok (.aload_n 0, 1) := by decide +kernel
theorem d_Em_init_77 : decode b_Em_init 77 = .ok (.bipush 50, 2) := by decide +kernel
theorem d_Em_init_79 : decode b_Em_init 79 = .ok (.newarray .int, 2) := by decide +kernel
theorem d_Em_init_81 : decode b_Em_init 81 = .ok (.putfield 48, 3) := by decide +kernel
theorem d_Em_init_84 : decode b_Em_init 84 = .ok (.aload_n 0, 1) := by decide +kernel
theorem d_Em_init_85 : decode b_Em_init 85 = .ok (.bipush 50, 2) := by decide +kernel
theorem d_Em_init_87 : decode b_Em_init 87 = .ok (.newarray .int, 2) := by decide +kernel
theorem d_Em_init_89 : decode b_Em_init 89 = .ok (.putfield 51, 3) := by decide +kernel
theorem d_Em_init_92 : decode b_Em_init 92 = .ok (.aload_n 0, 1) := by decide +kernel
theorem d_Em_init_93 : decode b_Em_init 93 = .ok (.sipush 144, 3) := by decide +kernel
theorem d_Em_init_96 : decode b_Em_init 96 = .ok (.newarray .int, 2) := by decide +kernel
theorem d_Em_init_98 : decode b_Em_init 98 = .ok (.putfield 54, 3) := by decide +kernel
theorem d_Em_init_101 : decode b_Em_init 101 = .ok (.aload_n 0, 1) := by decide +kernel
theorem d_Em_init_102 : decode b_Em_init 102 = .ok (.bipush 26, 2) := by decide +kernel
theorem d_Em_init_104 : decode b_Em_init 104 = .ok (.newarray .int, 2) := by decide +kernel
theorem d_Em_init_106 : decode b_Em_init 106 = .ok (.putfield 57, 3) := by decide +kernel
theorem d_Em_init_109 : decode b_Em_init 109 = .ok (.aload_n 0, 1) := by decide +kernel
theorem d_Em_init_110 : decode b_Em_init 110 = .ok (.bipush 27, 2) := by decide +kernel
theorem d_Em_init_112 : decode b_Em_init 112 = .ok (.newarray .int, 2) := by decide +kernel
theorem d_Em_init_114 : decode b_Em_init 114 = .ok (.putfield 60, 3) := by decide +kernel
theorem d_Em_init_117 : decode b_Em_init 117 = .ok (.aload_n 0, 1) := by decide +kernel
theorem d_Em_init_118 : decode b_Em_init 118 = .ok (.iconst 0, 1) := by decide +kernel
theorem d_Em_init_119 : decode b_Em_init 119 = .ok (.putfield 63, 3) := by decide +kernel
theorem d_Em_init_122 : decode b_Em_init 122 = .ok (.aload_n 0, 1) := by decide +kernel
theorem d_Em_init_123 : decode b_Em_init 123 = .ok (.iconst 0, 1) := by decide +kernel
theorem d_Em_init_124 : decode b_Em_init 124 = .ok (.putfield 66, 3) := by decide +kernel
theorem d_Em_init_127 : decode b_Em_init 127 = .ok (.aload_n 0, 1) := by decide +kernel
theorem d_Em_init_128 : decode b_Em_init 128 = .ok (.iconst 0, 1) := by decide +kernel
theorem d_Em_init_129 : decode b_Em_init 129 = .ok (.putfield 69, 3) := by decide +kernel
theorem d_Em_init_132 : decode b_Em_init 132 = .ok (.aload_n 0, 1) := by decide +kernel
theorem d_Em_init_133 : decode b_Em_init 133 = .ok (.iconst 0, 1) := by decide +kernel
theorem d_Em_init_134 : decode b_Em_init 134 = .ok (.putfield 72, 3) := by decide +kernel
theorem d_Em_init_137 : decode b_Em_init 137 = .ok (.aload_n 0, 1) := by decide +kernel
theorem d_Em_init_138 : decode b_Em_init 138 = .ok (.bipush 72, 2) := by decide +kernel
theorem d_Em_init_140 : decode b_Em_init 140 = .ok (.newarray .int, 2) := by decide +kernel
theorem d_Em_init_142 : decode b_Em_init 142 = .ok (.putfield 75, 3) := by decide +kernel
theorem d_Em_init_145 : decode b_Em_init 145 = .ok (.return_, 1) := by decide +kernel
abbrev f0Em : List Value := [.null, .null, .null, .null, .null, .int 0, .int 0, .int 0, .null, .null, .null, .null, .null, .null, .null, .int 0, .int 0, .int 0, .int 0, .null]
set_option maxRecDepth 20000 in
theorem f0Em_ok : ∀ j, j < 20 → defaultValue (t_Em j) = vp_V f0Em j := by decide +kernel
def wEm (kA : Nat → ClassId) (h : Nat) (q : Nat → Nat) (x : Nat → Int32) (a : Nat → Nat → Int32) (o0 : Option Nat) : va_W := [(h, .inr (1, [va_rf o0, .ref (q 1), .ref (q 2), .ref (q 3), .ref (q 4), .int (x 5), .int (x 6), .int (x 7), .ref (q 8), .ref (q 9), .ref (q 10), .ref (q 11), .ref (q 12), .ref (q 13), .ref (q 14), .int (x 15), .int (x 16), .int (x 17), .int (x 18), .ref (q 19)])), (q 2, .inl (kA 0, 72, .inl (a 2))), (q 3, .inl (kA 2, 72, .inl (a 3))), (q 4, .inl (kA 2, 48, .inl (a 4))), (q 8, .inl (kA 0, 1250, .inl (a 8))), (q 9, .inl (kA 0, 50, .inl (a 9))), (q 10, .inl (kA 0, 50, .inl (a 10))), (q 11, .inl (kA 0, 50, .inl (a 11))), (q 12, .inl (kA 0, 144, .inl (a 12))), (q 13, .inl (kA 0, 26, .inl (a 13))), (q 14, .inl (kA 0, 27, .inl (a 14))), (q 19, .inl (kA 0, 72, .inl (a 19)))]
def x0Em : Nat → Int32 := fun _ => 0
def a0Em : Nat → Nat → Int32 := fun _ => fun _ => 0
set_option maxRecDepth 100000 in
set_option maxHeartbeats 4000000 in
/-- DrawingHouse$Embedder()V -/
theorem c_Em_init (l : Launch) (D : va_G) (kA : Nat → ClassId) (h : Nat) : Cv l y_Em_init z_Em_init { frames := 2, cells := 22, slots := 3322, locals := 32 } D classes (TY kA) [.ref h] [[(h, .inr (1, f0Em))]] (fun u : (Nat → Nat → Nat) => True) (fun u => [wEm kA h ((u 0)) x0Em a0Em none, wNe kA (u 0 1) ((u 1)) x0Ne a0Ne]) 22 3322 := by
  intro sz
  refine k_met (cc := b_Em_init) (maxL := 1) (ret := none) (by decide) rfl (Nat.le_of_ble_eq_true rfl) (fun p e s m below meth c ls X hl hB => ?_)
  obtain ⟨hsz, hP, hK, hD0, hN⟩ := hB
  subst hsz
  have hD := hD0.self (sz := s.heap.size)
  generalize hAe : va_A (cat [[(h, .inr (1, [.null, .null, .null, .null, .null, .int 0, .int 0, .int 0, .null, .null, .null, .null, .null, .null, .null, .int 0, .int 0, .int 0, .int 0, .null]))]]) s.heap.size = A at hD ⊢
  have hA : ∀ q : Nat, s.heap.size ≤ q → A q := fun q h => by rw [← hAe]; exact Or.inr h
  have hS : va_S A s.heap s.heap [] := va_S.rf
  obtain ⟨hx, hb, hml, hown, hts, hr, hlk, hnm⟩ := id X
  have hl : lv_has ls 1 [(0, .ref h)] := hl
  have hP : va_P D classes (cat [[(h, .inr (1, [.null, .null, .null, .null, .null, .int 0, .int 0, .int 0, .null, .null, .null, .null, .null, .null, .null, .int 0, .int 0, .int 0, .int 0, .null]))]]) s.heap := hP
  have hK : va_K D classes (TY kA) s := hK
  refine lv_aload_n (pc := 0) hx hb d_Em_init_0 rfl (lv_at hl 0 rfl) ?_
  refine W.objInit hx hb hown (hts _ wm_241) (hts _ wm_31) (hts _ wm_32) rfl (by rw [hml]; exact hl.1) rfl d_Em_init_1 (Nat.le_of_ble_eq_true rfl) (Nat.le_of_ble_eq_true rfl) ?_
  refine W.eq (g2 := F0 m 4 ls []) rfl ?_
  refine lv_aload_n (pc := 4) hx hb d_Em_init_4 rfl (lv_at hl 0 rfl) ?_
  refine lv_null (pc := 5) hx hb d_Em_init_5 ?_
  refine k_put (pc := 6) X hK hP hD hS 0 rfl rfl i_Em t_Em t_Em_ok n_Em 0 (by decide) wm_326 rfl (Or.inl rfl) rfl rfl (Nat.le_of_ble_eq_true rfl) d_Em_init_6 (fun H locs hP hD hS => ?_)
  have hP : va_P D classes (cat [[(h, .inr (1, [.null, .null, .null, .null, .null, .int 0, .int 0, .int 0, .null, .null, .null, .null, .null, .null, .null, .int 0, .int 0, .int 0, .int 0, .null]))]]) H := hP
  have hD : va_D A (cat [[(h, .inr (1, [.null, .null, .null, .null, .null, .int 0, .int 0, .int 0, .null, .null, .null, .null, .null, .null, .null, .int 0, .int 0, .int 0, .int 0, .null]))]]) := hD
  refine lv_aload_n (pc := 9) hx hb d_Em_init_9 rfl (lv_at hl 0 rfl) ?_
  refine k_new (pc := 10) (fs := f0Ne) X i_Ne t_Ne t_Ne_ok wm_242 wm_243 wm_6 hK hP hD hS hA (ci := 5) rfl f0Ne_ok (Nat.le_of_ble_eq_true rfl) (Nat.le_of_ble_eq_true rfl) d_Em_init_10 (fun q1 H hP hD hS => ?_)
  have hP : va_P D classes (cat [[(h, .inr (1, [.null, .null, .null, .null, .null, .int 0, .int 0, .int 0, .null, .null, .null, .null, .null, .null, .null, .int 0, .int 0, .int 0, .int 0, .null]))], [(q1, .inr (5, [.int 0, .int 0, .int 0, .int 0, .null, .int 0, .int 0, .null, .null, .null, .null, .null, .null, .int 0, .null, .null, .null]))]]) H := hP
  have hD : va_D A (cat [[(h, .inr (1, [.null, .null, .null, .null, .null, .int 0, .int 0, .int 0, .null, .null, .null, .null, .null, .null, .null, .int 0, .int 0, .int 0, .int 0, .null]))], [(q1, .inr (5, [.int 0, .int 0, .int 0, .int 0, .null, .int 0, .int 0, .null, .null, .null, .null, .null, .null, .int 0, .null, .null, .null]))]]) := hD
  refine W.widen (k := 1) (n := 17) (by omega) (by omega) ?_
  refine lv_dup (pc := 13) hx hb d_Em_init_13 rfl ?_
  refine k_goV (gr := [[(h, .inr (1, [.null, .null, .null, .null, .null, .int 0, .int 0, .int 0, .null, .null, .null, .null, .null, .null, .null, .int 0, .int 0, .int 0, .int 0, .null]))]]) (k_rIN (pc := 14) (As := []) (rest := [.ref q1, .ref h]) hN X (c_Ne_init l D kA q1 H.size) rfl wm_246 wm_6 wn_244 wm_245 rfl 0 (by decide +kernel) ⟨Nat.le_of_ble_eq_true rfl, Nat.le_of_ble_eq_true rfl⟩ rfl rfl (k_pre hN hK hP hD [1] [0] 2 rfl (by decide) rfl) rfl hl.1 rfl (Nat.le_of_ble_eq_true rfl) d_Em_init_14 ⟨Nat.le_of_ble_eq_true rfl, Nat.le_of_ble_eq_true rfl⟩) hP hD hS hA [1] [0] 2 rfl (by decide) rfl rfl (fun u2 H locs hu2 hP hD hS => ?_)
  have hP : va_P D classes (cat [[(h, .inr (1, [.null, .null, .null, .null, .null, .int 0, .int 0, .int 0, .null, .null, .null, .null, .null, .null, .null, .int 0, .int 0, .int 0, .int 0, .null]))], wNe kA q1 u2 x0Ne a0Ne]) H := hP
  have hD : va_D A (cat [[(h, .inr (1, [.null, .null, .null, .null, .null, .int 0, .int 0, .int 0, .null, .null, .null, .null, .null, .null, .null, .int 0, .int 0, .int 0, .int 0, .null]))], wNe kA q1 u2 x0Ne a0Ne]) := hD
  refine W.widen (k := 11) (n := 1461) (by omega) (by omega) ?_
  refine k_put (pc := 17) X hK hP hD hS 0 rfl rfl i_Em t_Em t_Em_ok n_Em 1 (by decide) wm_327 rfl (Or.inr ⟨rfl, rfl⟩) rfl rfl (Nat.le_of_ble_eq_true rfl) d_Em_init_17 (fun H locs hP hD hS => ?_)
  have hP : va_P D classes (cat [[(h, .inr (1, [.null, .ref q1, .null, .null, .null, .int 0, .int 0, .int 0, .null, .null, .null, .null, .null, .null, .null, .int 0, .int 0, .int 0, .int 0, .null]))], wNe kA q1 u2 x0Ne a0Ne]) H := hP
  have hD : va_D A (cat [[(h, .inr (1, [.null, .ref q1, .null, .null, .null, .int 0, .int 0, .int 0, .null, .null, .null, .null, .null, .null, .null, .int 0, .int 0, .int 0, .int 0, .null]))], wNe kA q1 u2 x0Ne a0Ne]) := hD
  refine lv_aload_n (pc := 20) hx hb d_Em_init_20 rfl (lv_at hl 0 rfl) ?_
  refine lv_bipush (pc := 21) (v := 72) hx hb d_Em_init_21 (by decide) ?_
  refine k_newa (pc := 23) (atype := .int) X (ty := .int) (a0 := (72, .inl (fun _ => 0))) rfl rfl wm_193 hK hP hD hS hA 0 rfl (fun _ => rfl) (by decide) rfl (by decide) (Nat.le_of_ble_eq_true rfl) (Nat.le_of_ble_eq_true rfl) d_Em_init_23 (fun q3 H hP hD hS => ?_)
  have hP : va_P D classes (cat [[(h, .inr (1, [.null, .ref q1, .null, .null, .null, .int 0, .int 0, .int 0, .null, .null, .null, .null, .null, .null, .null, .int 0, .int 0, .int 0, .int 0, .null]))], wNe kA q1 u2 x0Ne a0Ne, [(q3, .inl (kA 0, 72, .inl (fun _ => 0)))]]) H := hP
  have hD : va_D A (cat [[(h, .inr (1, [.null, .ref q1, .null, .null, .null, .int 0, .int 0, .int 0, .null, .null, .null, .null, .null, .null, .null, .int 0, .int 0, .int 0, .int 0, .null]))], wNe kA q1 u2 x0Ne a0Ne, [(q3, .inl (kA 0, 72, .inl (fun _ => 0)))]]) := hD
  refine W.widen (k := 12) (n := 1533) (by omega) (by omega) ?_
  refine k_put (pc := 25) X hK hP hD hS 0 rfl rfl i_Em t_Em t_Em_ok n_Em 2 (by decide) wm_328 rfl (Or.inr ⟨rfl, rfl⟩) rfl rfl (Nat.le_of_ble_eq_true rfl) d_Em_init_25 (fun H locs hP hD hS => ?_)
  have hP : va_P D classes (cat [[(h, .inr (1, [.null, .ref q1, .ref q3, .null, .null, .int 0, .int 0, .int 0, .null, .null, .null, .null, .null, .null, .null, .int 0, .int 0, .int 0, .int 0, .null]))], wNe kA q1 u2 x0Ne a0Ne, [(q3, .inl (kA 0, 72, .inl (fun _ => 0)))]]) H := hP
  have hD : va_D A (cat [[(h, .inr (1, [.null, .ref q1, .ref q3, .null, .null, .int 0, .int 0, .int 0, .null, .null, .null, .null, .null, .null, .null, .int 0, .int 0, .int 0, .int 0, .null]))], wNe kA q1 u2 x0Ne a0Ne, [(q3, .inl (kA 0, 72, .inl (fun _ => 0)))]]) := hD
  refine lv_aload_n (pc := 28) hx hb d_Em_init_28 rfl (lv_at hl 0 rfl) ?_
  refine lv_bipush (pc := 29) (v := 72) hx hb d_Em_init_29 (by decide) ?_
  refine k_newa (pc := 31) (atype := .boolean) X (ty := .boolean) (a0 := (72, .inl (fun _ => 0))) rfl rfl wm_387 hK hP hD hS hA 2 rfl (fun _ => rfl) (by decide) rfl (by decide) (Nat.le_of_ble_eq_true rfl) (Nat.le_of_ble_eq_true rfl) d_Em_init_31 (fun q4 H hP hD hS => ?_)
  have hP : va_P D classes (cat [[(h, .inr (1, [.null, .ref q1, .ref q3, .null, .null, .int 0, .int 0, .int 0, .null, .null, .null, .null, .null, .null, .null, .int 0, .int 0, .int 0, .int 0, .null]))], wNe kA q1 u2 x0Ne a0Ne, [(q3, .inl (kA 0, 72, .inl (fun _ => 0)))], [(q4, .inl (kA 2, 72, .inl (fun _ => 0)))]]) H := hP
  have hD : va_D A (cat [[(h, .inr (1, [.null, .ref q1, .ref q3, .null, .null, .int 0, .int 0, .int 0, .null, .null, .null, .null, .null, .null, .null, .int 0, .int 0, .int 0, .int 0, .null]))], wNe kA q1 u2 x0Ne a0Ne, [(q3, .inl (kA 0, 72, .inl (fun _ => 0)))], [(q4, .inl (kA 2, 72, .inl (fun _ => 0)))]]) := hD
  refine W.widen (k := 13) (n := 1605) (by omega) (by omega) ?_
  refine k_put (pc := 33) X hK hP hD hS 0 rfl rfl i_Em t_Em t_Em_ok n_Em 3 (by decide) wm_329 rfl (Or.inr ⟨rfl, rfl⟩) rfl rfl (Nat.le_of_ble_eq_true rfl) d_Em_init_33 (fun H locs hP hD hS => ?_)
  have hP : va_P D classes (cat [[(h, .inr (1, [.null, .ref q1, .ref q3, .ref q4, .null, .int 0, .int 0, .int 0, .null, .null, .null, .null, .null, .null, .null, .int 0, .int 0, .int 0, .int 0, .null]))], wNe kA q1 u2 x0Ne a0Ne, [(q3, .inl (kA 0, 72, .inl (fun _ => 0)))], [(q4, .inl (kA 2, 72, .inl (fun _ => 0)))]]) H := hP
  have hD : va_D A (cat [[(h, .inr (1, [.null, .ref q1, .ref q3, .ref q4, .null, .int 0, .int 0, .int 0, .null, .null, .null, .null, .null, .null, .null, .int 0, .int 0, .int 0, .int 0, .null]))], wNe kA q1 u2 x0Ne a0Ne, [(q3, .inl (kA 0, 72, .inl (fun _ => 0)))], [(q4, .inl (kA 2, 72, .inl (fun _ => 0)))]]) := hD
  refine lv_aload_n (pc := 36) hx hb d_Em_init_36 rfl (lv_at hl 0 rfl) ?_
  refine lv_bipush (pc := 37) (v := 48) hx hb d_Em_init_37 (by decide) ?_
  refine k_newa (pc := 39) (atype := .boolean) X (ty := .boolean) (a0 := (48, .inl (fun _ => 0))) rfl rfl wm_387 hK hP hD hS hA 2 rfl (fun _ => rfl) (by decide) rfl (by decide) (Nat.le_of_ble_eq_true rfl) (Nat.le_of_ble_eq_true rfl) d_Em_init_39 (fun q5 H hP hD hS => ?_)
  have hP : va_P D classes (cat [[(h, .inr (1, [.null, .ref q1, .ref q3, .ref q4, .null, .int 0, .int 0, .int 0, .null, .null, .null, .null, .null, .null, .null, .int 0, .int 0, .int 0, .int 0, .null]))], wNe kA q1 u2 x0Ne a0Ne, [(q3, .inl (kA 0, 72, .inl (fun _ => 0)))], [(q4, .inl (kA 2, 72, .inl (fun _ => 0)))], [(q5, .inl (kA 2, 48, .inl (fun _ => 0)))]]) H := hP
  have hD : va_D A (cat [[(h, .inr (1, [.null, .ref q1, .ref q3, .ref q4, .null, .int 0, .int 0, .int 0, .null, .null, .null, .null, .null, .null, .null, .int 0, .int 0, .int 0, .int 0, .null]))], wNe kA q1 u2 x0Ne a0Ne, [(q3, .inl (kA 0, 72, .inl (fun _ => 0)))], [(q4, .inl (kA 2, 72, .inl (fun _ => 0)))], [(q5, .inl (kA 2, 48, .inl (fun _ => 0)))]]) := hD
  refine W.widen (k := 14) (n := 1653) (by omega) (by omega) ?_
  refine k_put (pc := 41) X hK hP hD hS 0 rfl rfl i_Em t_Em t_Em_ok n_Em 4 (by decide) wm_330 rfl (Or.inr ⟨rfl, rfl⟩) rfl rfl (Nat.le_of_ble_eq_true rfl) d_Em_init_41 (fun H locs hP hD hS => ?_)
  have hP : va_P D classes (cat [[(h, .inr (1, [.null, .ref q1, .ref q3, .ref q4, .ref q5, .int 0, .int 0, .int 0, .null, .null, .null, .null, .null, .null, .null, .int 0, .int 0, .int 0, .int 0, .null]))], wNe kA q1 u2 x0Ne a0Ne, [(q3, .inl (kA 0, 72, .inl (fun _ => 0)))], [(q4, .inl (kA 2, 72, .inl (fun _ => 0)))], [(q5, .inl (kA 2, 48, .inl (fun _ => 0)))]]) H := hP
  have hD : va_D A (cat [[(h, .inr (1, [.null, .ref q1, .ref q3, .ref q4, .ref q5, .int 0, .int 0, .int 0, .null, .null, .null, .null, .null, .null, .null, .int 0, .int 0, .int 0, .int 0, .null]))], wNe kA q1 u2 x0Ne a0Ne, [(q3, .inl (kA 0, 72, .inl (fun _ => 0)))], [(q4, .inl (kA 2, 72, .inl (fun _ => 0)))], [(q5, .inl (kA 2, 48, .inl (fun _ => 0)))]]) := hD
  refine lv_aload_n (pc := 44) hx hb d_Em_init_44 rfl (lv_at hl 0 rfl) ?_
  refine lv_iconst (pc := 45) (v := 0) hx hb d_Em_init_45 (by decide) ?_
  refine k_put (pc := 46) X hK hP hD hS 0 rfl rfl i_Em t_Em t_Em_ok n_Em 5 (by decide) wm_331 rfl (Or.inl rfl) rfl rfl (Nat.le_of_ble_eq_true rfl) d_Em_init_46 (fun H locs hP hD hS => ?_)
  have hP : va_P D classes (cat [[(h, .inr (1, [.null, .ref q1, .ref q3, .ref q4, .ref q5, .int 0, .int 0, .int 0, .null, .null, .null, .null, .null, .null, .null, .int 0, .int 0, .int 0, .int 0, .null]))], wNe kA q1 u2 x0Ne a0Ne, [(q3, .inl (kA 0, 72, .inl (fun _ => 0)))], [(q4, .inl (kA 2, 72, .inl (fun _ => 0)))], [(q5, .inl (kA 2, 48, .inl (fun _ => 0)))]]) H := hP
  have hD : va_D A (cat [[(h, .inr (1, [.null, .ref q1, .ref q3, .ref q4, .ref q5, .int 0, .int 0, .int 0, .null, .null, .null, .null, .null, .null, .null, .int 0, .int 0, .int 0, .int 0, .null]))], wNe kA q1 u2 x0Ne a0Ne, [(q3, .inl (kA 0, 72, .inl (fun _ => 0)))], [(q4, .inl (kA 2, 72, .inl (fun _ => 0)))], [(q5, .inl (kA 2, 48, .inl (fun _ => 0)))]]) := hD
  refine lv_aload_n (pc := 49) hx hb d_Em_init_49 rfl (lv_at hl 0 rfl) ?_
  refine lv_iconst (pc := 50) (v := 0) hx hb d_Em_init_50 (by decide) ?_
  refine k_put (pc := 51) X hK hP hD hS 0 rfl rfl i_Em t_Em t_Em_ok n_Em 6 (by decide) wm_332 rfl (Or.inl rfl) rfl rfl (Nat.le_of_ble_eq_true rfl) d_Em_init_51 (fun H locs hP hD hS => ?_)
  have hP : va_P D classes (cat [[(h, .inr (1, [.null, .ref q1, .ref q3, .ref q4, .ref q5, .int 0, .int 0, .int 0, .null, .null, .null, .null, .null, .null, .null, .int 0, .int 0, .int 0, .int 0, .null]))], wNe kA q1 u2 x0Ne a0Ne, [(q3, .inl (kA 0, 72, .inl (fun _ => 0)))], [(q4, .inl (kA 2, 72, .inl (fun _ => 0)))], [(q5, .inl (kA 2, 48, .inl (fun _ => 0)))]]) H := hP
  have hD : va_D A (cat [[(h, .inr (1, [.null, .ref q1, .ref q3, .ref q4, .ref q5, .int 0, .int 0, .int 0, .null, .null, .null, .null, .null, .null, .null, .int 0, .int 0, .int 0, .int 0, .null]))], wNe kA q1 u2 x0Ne a0Ne, [(q3, .inl (kA 0, 72, .inl (fun _ => 0)))], [(q4, .inl (kA 2, 72, .inl (fun _ => 0)))], [(q5, .inl (kA 2, 48, .inl (fun _ => 0)))]]) := hD
  refine lv_aload_n (pc := 54) hx hb d_Em_init_54 rfl (lv_at hl 0 rfl) ?_
  refine lv_iconst (pc := 55) (v := 0) hx hb d_Em_init_55 (by decide) ?_
  refine k_put (pc := 56) X hK hP hD hS 0 rfl rfl i_Em t_Em t_Em_ok n_Em 7 (by decide) wm_333 rfl (Or.inl rfl) rfl rfl (Nat.le_of_ble_eq_true rfl) d_Em_init_56 (fun H locs hP hD hS => ?_)
  have hP : va_P D classes (cat [[(h, .inr (1, [.null, .ref q1, .ref q3, .ref q4, .ref q5, .int 0, .int 0, .int 0, .null, .null, .null, .null, .null, .null, .null, .int 0, .int 0, .int 0, .int 0, .null]))], wNe kA q1 u2 x0Ne a0Ne, [(q3, .inl (kA 0, 72, .inl (fun _ => 0)))], [(q4, .inl (kA 2, 72, .inl (fun _ => 0)))], [(q5, .inl (kA 2, 48, .inl (fun _ => 0)))]]) H := hP
  have hD : va_D A (cat [[(h, .inr (1, [.null, .ref q1, .ref q3, .ref q4, .ref q5, .int 0, .int 0, .int 0, .null, .null, .null, .null, .null, .null, .null, .int 0, .int 0, .int 0, .int 0, .null]))], wNe kA q1 u2 x0Ne a0Ne, [(q3, .inl (kA 0, 72, .inl (fun _ => 0)))], [(q4, .inl (kA 2, 72, .inl (fun _ => 0)))], [(q5, .inl (kA 2, 48, .inl (fun _ => 0)))]]) := hD
  refine lv_aload_n (pc := 59) hx hb d_Em_init_59 rfl (lv_at hl 0 rfl) ?_
  refine lv_sipush (pc := 60) (v := 1250) hx hb d_Em_init_60 (by decide) ?_
  refine k_newa (pc := 63) (atype := .int) X (ty := .int) (a0 := (1250, .inl (fun _ => 0))) rfl rfl wm_193 hK hP hD hS hA 0 rfl (fun _ => rfl) (by decide) rfl (by decide) (Nat.le_of_ble_eq_true rfl) (Nat.le_of_ble_eq_true rfl) d_Em_init_63 (fun q6 H hP hD hS => ?_)
  have hP : va_P D classes (cat [[(h, .inr (1, [.null, .ref q1, .ref q3, .ref q4, .ref q5, .int 0, .int 0, .int 0, .null, .null, .null, .null, .null, .null, .null, .int 0, .int 0, .int 0, .int 0, .null]))], wNe kA q1 u2 x0Ne a0Ne, [(q3, .inl (kA 0, 72, .inl (fun _ => 0)))], [(q4, .inl (kA 2, 72, .inl (fun _ => 0)))], [(q5, .inl (kA 2, 48, .inl (fun _ => 0)))], [(q6, .inl (kA 0, 1250, .inl (fun _ => 0)))]]) H := hP
  have hD : va_D A (cat [[(h, .inr (1, [.null, .ref q1, .ref q3, .ref q4, .ref q5, .int 0, .int 0, .int 0, .null, .null, .null, .null, .null, .null, .null, .int 0, .int 0, .int 0, .int 0, .null]))], wNe kA q1 u2 x0Ne a0Ne, [(q3, .inl (kA 0, 72, .inl (fun _ => 0)))], [(q4, .inl (kA 2, 72, .inl (fun _ => 0)))], [(q5, .inl (kA 2, 48, .inl (fun _ => 0)))], [(q6, .inl (kA 0, 1250, .inl (fun _ => 0)))]]) := hD
  refine W.widen (k := 15) (n := 2903) (by omega) (by omega) ?_
  refine k_put (pc := 65) X hK hP hD hS 0 rfl rfl i_Em t_Em t_Em_ok n_Em 8 (by decide) wm_334 rfl (Or.inr ⟨rfl, rfl⟩) rfl rfl (Nat.le_of_ble_eq_true rfl) d_Em_init_65 (fun H locs hP hD hS => ?_)
  have hP : va_P D classes (cat [[(h, .inr (1, [.null, .ref q1, .ref q3, .ref q4, .ref q5, .int 0, .int 0, .int 0, .ref q6, .null, .null, .null, .null, .null, .null, .int 0, .int 0, .int 0, .int 0, .null]))], wNe kA q1 u2 x0Ne a0Ne, [(q3, .inl (kA 0, 72, .inl (fun _ => 0)))], [(q4, .inl (kA 2, 72, .inl (fun _ => 0)))], [(q5, .inl (kA 2, 48, .inl (fun _ => 0)))], [(q6, .inl (kA 0, 1250, .inl (fun _ => 0)))]]) H := hP
  have hD : va_D A (cat [[(h, .inr (1, [.null, .ref q1, .ref q3, .ref q4, .ref q5, .int 0, .int 0, .int 0, .ref q6, .null, .null, .null, .null, .null, .null, .int 0, .int 0, .int 0, .int 0, .null]))], wNe kA q1 u2 x0Ne a0Ne, [(q3, .inl (kA 0, 72, .inl (fun _ => 0)))], [(q4, .inl (kA 2, 72, .inl (fun _ => 0)))], [(q5, .inl (kA 2, 48, .inl (fun _ => 0)))], [(q6, .inl (kA 0, 1250, .inl (fun _ => 0)))]]) := hD
  refine lv_aload_n (pc := 68) hx hb d_Em_init_68 rfl (lv_at hl 0 rfl) ?_
  refine lv_bipush (pc := 69) (v := 50) hx hb d_Em_init_69 (by decide) ?_
  refine k_newa (pc := 71) (atype := .int) X (ty := .int) (a0 := (50, .inl (fun _ => 0))) rfl rfl wm_193 hK hP hD hS hA 0 rfl (fun _ => rfl) (by decide) rfl (by decide) (Nat.le_of_ble_eq_true rfl) (Nat.le_of_ble_eq_true rfl) d_Em_init_71 (fun q7 H hP hD hS => ?_)
  have hP : va_P D classes (cat [[(h, .inr (1, [.null, .ref q1, .ref q3, .ref q4, .ref q5, .int 0, .int 0, .int 0, .ref q6, .null, .null, .null, .null, .null, .null, .int 0, .int 0, .int 0, .int 0, .null]))], wNe kA q1 u2 x0Ne a0Ne, [(q3, .inl (kA 0, 72, .inl (fun _ => 0)))], [(q4, .inl (kA 2, 72, .inl (fun _ => 0)))], [(q5, .inl (kA 2, 48, .inl (fun _ => 0)))], [(q6, .inl (kA 0, 1250, .inl (fun _ => 0)))], [(q7, .inl (kA 0, 50, .inl (fun _ => 0)))]]) H := hP
  have hD : va_D A (cat [[(h, .inr (1, [.null, .ref q1, .ref q3, .ref q4, .ref q5, .int 0, .int 0, .int 0, .ref q6, .null, .null, .null, .null, .null, .null, .int 0, .int 0, .int 0, .int 0, .null]))], wNe kA q1 u2 x0Ne a0Ne, [(q3, .inl (kA 0, 72, .inl (fun _ => 0)))], [(q4, .inl (kA 2, 72, .inl (fun _ => 0)))], [(q5, .inl (kA 2, 48, .inl (fun _ => 0)))], [(q6, .inl (kA 0, 1250, .inl (fun _ => 0)))], [(q7, .inl (kA 0, 50, .inl (fun _ => 0)))]]) := hD
  refine W.widen (k := 16) (n := 2953) (by omega) (by omega) ?_
  refine k_put (pc := 73) X hK hP hD hS 0 rfl rfl i_Em t_Em t_Em_ok n_Em 9 (by decide) wm_335 rfl (Or.inr ⟨rfl, rfl⟩) rfl rfl (Nat.le_of_ble_eq_true rfl) d_Em_init_73 (fun H locs hP hD hS => ?_)
  have hP : va_P D classes (cat [[(h, .inr (1, [.null, .ref q1, .ref q3, .ref q4, .ref q5, .int 0, .int 0, .int 0, .ref q6, .ref q7, .null, .null, .null, .null, .null, .int 0, .int 0, .int 0, .int 0, .null]))], wNe kA q1 u2 x0Ne a0Ne, [(q3, .inl (kA 0, 72, .inl (fun _ => 0)))], [(q4, .inl (kA 2, 72, .inl (fun _ => 0)))], [(q5, .inl (kA 2, 48, .inl (fun _ => 0)))], [(q6, .inl (kA 0, 1250, .inl (fun _ => 0)))], [(q7, .inl (kA 0, 50, .inl (fun _ => 0)))]]) H := hP
  have hD : va_D A (cat [[(h, .inr (1, [.null, .ref q1, .ref q3, .ref q4, .ref q5, .int 0, .int 0, .int 0, .ref q6, .ref q7, .null, .null, .null, .null, .null, .int 0, .int 0, .int 0, .int 0, .null]))], wNe kA q1 u2 x0Ne a0Ne, [(q3, .inl (kA 0, 72, .inl (fun _ => 0)))], [(q4, .inl (kA 2, 72, .inl (fun _ => 0)))], [(q5, .inl (kA 2, 48, .inl (fun _ => 0)))], [(q6, .inl (kA 0, 1250, .inl (fun _ => 0)))], [(q7, .inl (kA 0, 50, .inl (fun _ => 0)))]]) := hD
  refine lv_aload_n (pc := 76) hx hb d_Em_init_76 rfl (lv_at hl 0 rfl) ?_
  refine lv_bipush (pc := 77) (v := 50) hx hb d_Em_init_77 (by decide) ?_
  refine k_newa (pc := 79) (atype := .int) X (ty := .int) (a0 := (50, .inl (fun _ => 0))) rfl rfl wm_193 hK hP hD hS hA 0 rfl (fun _ => rfl) (by decide) rfl (by decide) (Nat.le_of_ble_eq_true rfl) (Nat.le_of_ble_eq_true rfl) d_Em_init_79 (fun q8 H hP hD hS => ?_)
  have hP : va_P D classes (cat [[(h, .inr (1, [.null, .ref q1, .ref q3, .ref q4, .ref q5, .int 0, .int 0, .int 0, .ref q6, .ref q7, .null, .null, .null, .null, .null, .int 0, .int 0, .int 0, .int 0, .null]))], wNe kA q1 u2 x0Ne a0Ne, [(q3, .inl (kA 0, 72, .inl (fun _ => 0)))], [(q4, .inl (kA 2, 72, .inl (fun _ => 0)))], [(q5, .inl (kA 2, 48, .inl (fun _ => 0)))], [(q6, .inl (kA 0, 1250, .inl (fun _ => 0)))], [(q7, .inl (kA 0, 50, .inl (fun _ => 0)))], [(q8, .inl (kA 0, 50, .inl (fun _ => 0)))]]) H := hP
  have hD : va_D A (cat [[(h, .inr (1, [.null, .ref q1, .ref q3, .ref q4, .ref q5, .int 0, .int 0, .int 0, .ref q6, .ref q7, .null, .null, .null, .null, .null, .int 0, .int 0, .int 0, .int 0, .null]))], wNe kA q1 u2 x0Ne a0Ne, [(q3, .inl (kA 0, 72, .inl (fun _ => 0)))], [(q4, .inl (kA 2, 72, .inl (fun _ => 0)))], [(q5, .inl (kA 2, 48, .inl (fun _ => 0)))], [(q6, .inl (kA 0, 1250, .inl (fun _ => 0)))], [(q7, .inl (kA 0, 50, .inl (fun _ => 0)))], [(q8, .inl (kA 0, 50, .inl (fun _ => 0)))]]) := hD
  refine W.widen (k := 17) (n := 3003) (by omega) (by omega) ?_
  refine k_put (pc := 81) X hK hP hD hS 0 rfl rfl i_Em t_Em t_Em_ok n_Em 10 (by decide) wm_336 rfl (Or.inr ⟨rfl, rfl⟩) rfl rfl (Nat.le_of_ble_eq_true rfl) d_Em_init_81 (fun H locs hP hD hS => ?_)
  have hP : va_P D classes (cat [[(h, .inr (1, [.null, .ref q1, .ref q3, .ref q4, .ref q5, .int 0, .int 0, .int 0, .ref q6, .ref q7, .ref q8, .null, .null, .null, .null, .int 0, .int 0, .int 0, .int 0, .null]))], wNe kA q1 u2 x0Ne a0Ne, [(q3, .inl (kA 0, 72, .inl (fun _ => 0)))], [(q4, .inl (kA 2, 72, .inl (fun _ => 0)))], [(q5, .inl (kA 2, 48, .inl (fun _ => 0)))], [(q6, .inl (kA 0, 1250, .inl (fun _ => 0)))], [(q7, .inl (kA 0, 50, .inl (fun _ => 0)))], [(q8, .inl (kA 0, 50, .inl (fun _ => 0)))]]) H := hP
  have hD : va_D A (cat [[(h, .inr (1, [.null, .ref q1, .ref q3, .ref q4, .ref q5, .int 0, .int 0, .int 0, .ref q6, .ref q7, .ref q8, .null, .null, .null, .null, .int 0, .int 0, .int 0, .int 0, .null]))], wNe kA q1 u2 x0Ne a0Ne, [(q3, .inl (kA 0, 72, .inl (fun _ => 0)))], [(q4, .inl (kA 2, 72, .inl (fun _ => 0)))], [(q5, .inl (kA 2, 48, .inl (fun _ => 0)))], [(q6, .inl (kA 0, 1250, .inl (fun _ => 0)))], [(q7, .inl (kA 0, 50, .inl (fun _ => 0)))], [(q8, .inl (kA 0, 50, .inl (fun _ => 0)))]]) := hD
  refine lv_aload_n (pc := 84) hx hb d_Em_init_84 rfl (lv_at hl 0 rfl) ?_
  refine lv_bipush (pc := 85) (v := 50) hx hb d_Em_init_85 (by decide) ?_
  refine k_newa (pc := 87) (atype := .int) X (ty := .int) (a0 := (50, .inl (fun _ => 0))) rfl rfl wm_193 hK hP hD hS hA 0 rfl (fun _ => rfl) (by decide) rfl (by decide) (Nat.le_of_ble_eq_true rfl) (Nat.le_of_ble_eq_true rfl) d_Em_init_87 (fun q9 H hP hD hS => ?_)
  have hP : va_P D classes (cat [[(h, .inr (1, [.null, .ref q1, .ref q3, .ref q4, .ref q5, .int 0, .int 0, .int 0, .ref q6, .ref q7, .ref q8, .null, .null, .null, .null, .int 0, .int 0, .int 0, .int 0, .null]))], wNe kA q1 u2 x0Ne a0Ne, [(q3, .inl (kA 0, 72, .inl (fun _ => 0)))], [(q4, .inl (kA 2, 72, .inl (fun _ => 0)))], [(q5, .inl (kA 2, 48, .inl (fun _ => 0)))], [(q6, .inl (kA 0, 1250, .inl (fun _ => 0)))], [(q7, .inl (kA 0, 50, .inl (fun _ => 0)))], [(q8, .inl (kA 0, 50, .inl (fun _ => 0)))], [(q9, .inl (kA 0, 50, .inl (fun _ => 0)))]]) H := hP
  have hD : va_D A (cat [[(h, .inr (1, [.null, .ref q1, .ref q3, .ref q4, .ref q5, .int 0, .int 0, .int 0, .ref q6, .ref q7, .ref q8, .null, .null, .null, .null, .int 0, .int 0, .int 0, .int 0, .null]))], wNe kA q1 u2 x0Ne a0Ne, [(q3, .inl (kA 0, 72, .inl (fun _ => 0)))], [(q4, .inl (kA 2, 72, .inl (fun _ => 0)))], [(q5, .inl (kA 2, 48, .inl (fun _ => 0)))], [(q6, .inl (kA 0, 1250, .inl (fun _ => 0)))], [(q7, .inl (kA 0, 50, .inl (fun _ => 0)))], [(q8, .inl (kA 0, 50, .inl (fun _ => 0)))], [(q9, .inl (kA 0, 50, .inl (fun _ => 0)))]]) := hD
  refine W.widen (k := 18) (n := 3053) (by omega) (by omega) ?_
  refine k_put (pc := 89) X hK hP hD hS 0 rfl rfl i_Em t_Em t_Em_ok n_Em 11 (by decide) wm_337 rfl (Or.inr ⟨rfl, rfl⟩) rfl rfl (Nat.le_of_ble_eq_true rfl) d_Em_init_89 (fun H locs hP hD hS => ?_)
  have hP : va_P D classes (cat [[(h, .inr (1, [.null, .ref q1, .ref q3, .ref q4, .ref q5, .int 0, .int 0, .int 0, .ref q6, .ref q7, .ref q8, .ref q9, .null, .null, .null, .int 0, .int 0, .int 0, .int 0, .null]))], wNe kA q1 u2 x0Ne a0Ne, [(q3, .inl (kA 0, 72, .inl (fun _ => 0)))], [(q4, .inl (kA 2, 72, .inl (fun _ => 0)))], [(q5, .inl (kA 2, 48, .inl (fun _ => 0)))], [(q6, .inl (kA 0, 1250, .inl (fun _ => 0)))], [(q7, .inl (kA 0, 50, .inl (fun _ => 0)))], [(q8, .inl (kA 0, 50, .inl (fun _ => 0)))], [(q9, .inl (kA 0, 50, .inl (fun _ => 0)))]]) H := hP
  have hD : va_D A (cat [[(h, .inr (1, [.null, .ref q1, .ref q3, .ref q4, .ref q5, .int 0, .int 0, .int 0, .ref q6, .ref q7, .ref q8, .ref q9, .null, .null, .null, .int 0, .int 0, .int 0, .int 0, .null]))], wNe kA q1 u2 x0Ne a0Ne, [(q3, .inl (kA 0, 72, .inl (fun _ => 0)))], [(q4, .inl (kA 2, 72, .inl (fun _ => 0)))], [(q5, .inl (kA 2, 48, .inl (fun _ => 0)))], [(q6, .inl (kA 0, 1250, .inl (fun _ => 0)))], [(q7, .inl (kA 0, 50, .inl (fun _ => 0)))], [(q8, .inl (kA 0, 50, .inl (fun _ => 0)))], [(q9, .inl (kA 0, 50, .inl (fun _ => 0)))]]) := hD
  refine lv_aload_n (pc := 92) hx hb d_Em_init_92 rfl (lv_at hl 0 rfl) ?_
  refine lv_sipush (pc := 93) (v := 144) hx hb d_Em_init_93 (by decide) ?_
  refine k_newa (pc := 96) (atype := .int) X (ty := .int) (a0 := (144, .inl (fun _ => 0))) rfl rfl wm_193 hK hP hD hS hA 0 rfl (fun _ => rfl) (by decide) rfl (by decide) (Nat.le_of_ble_eq_true rfl) (Nat.le_of_ble_eq_true rfl) d_Em_init_96 (fun q10 H hP hD hS => ?_)
  have hP : va_P D classes (cat [[(h, .inr (1, [.null, .ref q1, .ref q3, .ref q4, .ref q5, .int 0, .int 0, .int 0, .ref q6, .ref q7, .ref q8, .ref q9, .null, .null, .null, .int 0, .int 0, .int 0, .int 0, .null]))], wNe kA q1 u2 x0Ne a0Ne, [(q3, .inl (kA 0, 72, .inl (fun _ => 0)))], [(q4, .inl (kA 2, 72, .inl (fun _ => 0)))], [(q5, .inl (kA 2, 48, .inl (fun _ => 0)))], [(q6, .inl (kA 0, 1250, .inl (fun _ => 0)))], [(q7, .inl (kA 0, 50, .inl (fun _ => 0)))], [(q8, .inl (kA 0, 50, .inl (fun _ => 0)))], [(q9, .inl (kA 0, 50, .inl (fun _ => 0)))], [(q10, .inl (kA 0, 144, .inl (fun _ => 0)))]]) H := hP
  have hD : va_D A (cat [[(h, .inr (1, [.null, .ref q1, .ref q3, .ref q4, .ref q5, .int 0, .int 0, .int 0, .ref q6, .ref q7, .ref q8, .ref q9, .null, .null, .null, .int 0, .int 0, .int 0, .int 0, .null]))], wNe kA q1 u2 x0Ne a0Ne, [(q3, .inl (kA 0, 72, .inl (fun _ => 0)))], [(q4, .inl (kA 2, 72, .inl (fun _ => 0)))], [(q5, .inl (kA 2, 48, .inl (fun _ => 0)))], [(q6, .inl (kA 0, 1250, .inl (fun _ => 0)))], [(q7, .inl (kA 0, 50, .inl (fun _ => 0)))], [(q8, .inl (kA 0, 50, .inl (fun _ => 0)))], [(q9, .inl (kA 0, 50, .inl (fun _ => 0)))], [(q10, .inl (kA 0, 144, .inl (fun _ => 0)))]]) := hD
  refine W.widen (k := 19) (n := 3197) (by omega) (by omega) ?_
  refine k_put (pc := 98) X hK hP hD hS 0 rfl rfl i_Em t_Em t_Em_ok n_Em 12 (by decide) wm_338 rfl (Or.inr ⟨rfl, rfl⟩) rfl rfl (Nat.le_of_ble_eq_true rfl) d_Em_init_98 (fun H locs hP hD hS => ?_)
  have hP : va_P D classes (cat [[(h, .inr (1, [.null, .ref q1, .ref q3, .ref q4, .ref q5, .int 0, .int 0, .int 0, .ref q6, .ref q7, .ref q8, .ref q9, .ref q10, .null, .null, .int 0, .int 0, .int 0, .int 0, .null]))], wNe kA q1 u2 x0Ne a0Ne, [(q3, .inl (kA 0, 72, .inl (fun _ => 0)))], [(q4, .inl (kA 2, 72, .inl (fun _ => 0)))], [(q5, .inl (kA 2, 48, .inl (fun _ => 0)))], [(q6, .inl (kA 0, 1250, .inl (fun _ => 0)))], [(q7, .inl (kA 0, 50, .inl (fun _ => 0)))], [(q8, .inl (kA 0, 50, .inl (fun _ => 0)))], [(q9, .inl (kA 0, 50, .inl (fun _ => 0)))], [(q10, .inl (kA 0, 144, .inl (fun _ => 0)))]]) H := hP
  have hD : va_D A (cat [[(h, .inr (1, [.null, .ref q1, .ref q3, .ref q4, .ref q5, .int 0, .int 0, .int 0, .ref q6, .ref q7, .ref q8, .ref q9, .ref q10, .null, .null, .int 0, .int 0, .int 0, .int 0, .null]))], wNe kA q1 u2 x0Ne a0Ne, [(q3, .inl (kA 0, 72, .inl (fun _ => 0)))], [(q4, .inl (kA 2, 72, .inl (fun _ => 0)))], [(q5, .inl (kA 2, 48, .inl (fun _ => 0)))], [(q6, .inl (kA 0, 1250, .inl (fun _ => 0)))], [(q7, .inl (kA 0, 50, .inl (fun _ => 0)))], [(q8, .inl (kA 0, 50, .inl (fun _ => 0)))], [(q9, .inl (kA 0, 50, .inl (fun _ => 0)))], [(q10, .inl (kA 0, 144, .inl (fun _ => 0)))]]) := hD
  refine lv_aload_n (pc := 101) hx hb d_Em_init_101 rfl (lv_at hl 0 rfl) ?_
  refine lv_bipush (pc := 102) (v := 26) hx hb d_Em_init_102 (by decide) ?_
  refine k_newa (pc := 104) (atype := .int) X (ty := .int) (a0 := (26, .inl (fun _ => 0))) rfl rfl wm_193 hK hP hD hS hA 0 rfl (fun _ => rfl) (by decide) rfl (by decide) (Nat.le_of_ble_eq_true rfl) (Nat.le_of_ble_eq_true rfl) d_Em_init_104 (fun q11 H hP hD hS => ?_)
  have hP : va_P D classes (cat [[(h, .inr (1, [.null, .ref q1, .ref q3, .ref q4, .ref q5, .int 0, .int 0, .int 0, .ref q6, .ref q7, .ref q8, .ref q9, .ref q10, .null, .null, .int 0, .int 0, .int 0, .int 0, .null]))], wNe kA q1 u2 x0Ne a0Ne, [(q3, .inl (kA 0, 72, .inl (fun _ => 0)))], [(q4, .inl (kA 2, 72, .inl (fun _ => 0)))], [(q5, .inl (kA 2, 48, .inl (fun _ => 0)))], [(q6, .inl (kA 0, 1250, .inl (fun _ => 0)))], [(q7, .inl (kA 0, 50, .inl (fun _ => 0)))], [(q8, .inl (kA 0, 50, .inl (fun _ => 0)))], [(q9, .inl (kA 0, 50, .inl (fun _ => 0)))], [(q10, .inl (kA 0, 144, .inl (fun _ => 0)))], [(q11, .inl (kA 0, 26, .inl (fun _ => 0)))]]) H := hP
  have hD : va_D A (cat [[(h, .inr (1, [.null, .ref q1, .ref q3, .ref q4, .ref q5, .int 0, .int 0, .int 0, .ref q6, .ref q7, .ref q8, .ref q9, .ref q10, .null, .null, .int 0, .int 0, .int 0, .int 0, .null]))], wNe kA q1 u2 x0Ne a0Ne, [(q3, .inl (kA 0, 72, .inl (fun _ => 0)))], [(q4, .inl (kA 2, 72, .inl (fun _ => 0)))], [(q5, .inl (kA 2, 48, .inl (fun _ => 0)))], [(q6, .inl (kA 0, 1250, .inl (fun _ => 0)))], [(q7, .inl (kA 0, 50, .inl (fun _ => 0)))], [(q8, .inl (kA 0, 50, .inl (fun _ => 0)))], [(q9, .inl (kA 0, 50, .inl (fun _ => 0)))], [(q10, .inl (kA 0, 144, .inl (fun _ => 0)))], [(q11, .inl (kA 0, 26, .inl (fun _ => 0)))]]) := hD
  refine W.widen (k := 20) (n := 3223) (by omega) (by omega) ?_
  refine k_put (pc := 106) X hK hP hD hS 0 rfl rfl i_Em t_Em t_Em_ok n_Em 13 (by decide) wm_339 rfl (Or.inr ⟨rfl, rfl⟩) rfl rfl (Nat.le_of_ble_eq_true rfl) d_Em_init_106 (fun H locs hP hD hS => ?_)
  have hP : va_P D classes (cat [[(h, .inr (1, [.null, .ref q1, .ref q3, .ref q4, .ref q5, .int 0, .int 0, .int 0, .ref q6, .ref q7, .ref q8, .ref q9, .ref q10, .ref q11, .null, .int 0, .int 0, .int 0, .int 0, .null]))], wNe kA q1 u2 x0Ne a0Ne, [(q3, .inl (kA 0, 72, .inl (fun _ => 0)))], [(q4, .inl (kA 2, 72, .inl (fun _ => 0)))], [(q5, .inl (kA 2, 48, .inl (fun _ => 0)))], [(q6, .inl (kA 0, 1250, .inl (fun _ => 0)))], [(q7, .inl (kA 0, 50, .inl (fun _ => 0)))], [(q8, .inl (kA 0, 50, .inl (fun _ => 0)))], [(q9, .inl (kA 0, 50, .inl (fun _ => 0)))], [(q10, .inl (kA 0, 144, .inl (fun _ => 0)))], [(q11, .inl (kA 0, 26, .inl (fun _ => 0)))]]) H := hP
  have hD : va_D A (cat [[(h, .inr (1, [.null, .ref q1, .ref q3, .ref q4, .ref q5, .int 0, .int 0, .int 0, .ref q6, .ref q7, .ref q8, .ref q9, .ref q10, .ref q11, .null, .int 0, .int 0, .int 0, .int 0, .null]))], wNe kA q1 u2 x0Ne a0Ne, [(q3, .inl (kA 0, 72, .inl (fun _ => 0)))], [(q4, .inl (kA 2, 72, .inl (fun _ => 0)))], [(q5, .inl (kA 2, 48, .inl (fun _ => 0)))], [(q6, .inl (kA 0, 1250, .inl (fun _ => 0)))], [(q7, .inl (kA 0, 50, .inl (fun _ => 0)))], [(q8, .inl (kA 0, 50, .inl (fun _ => 0)))], [(q9, .inl (kA 0, 50, .inl (fun _ => 0)))], [(q10, .inl (kA 0, 144, .inl (fun _ => 0)))], [(q11, .inl (kA 0, 26, .inl (fun _ => 0)))]]) := hD
  refine lv_aload_n (pc := 109) hx hb d_Em_init_109 rfl (lv_at hl 0 rfl) ?_
  refine lv_bipush (pc := 110) (v := 27) hx hb d_Em_init_110 (by decide) ?_
  refine k_newa (pc := 112) (atype := .int) X (ty := .int) (a0 := (27, .inl (fun _ => 0))) rfl rfl wm_193 hK hP hD hS hA 0 rfl (fun _ => rfl) (by decide) rfl (by decide) (Nat.le_of_ble_eq_true rfl) (Nat.le_of_ble_eq_true rfl) d_Em_init_112 (fun q12 H hP hD hS => ?_)
  have hP : va_P D classes (cat [[(h, .inr (1, [.null, .ref q1, .ref q3, .ref q4, .ref q5, .int 0, .int 0, .int 0, .ref q6, .ref q7, .ref q8, .ref q9, .ref q10, .ref q11, .null, .int 0, .int 0, .int 0, .int 0, .null]))], wNe kA q1 u2 x0Ne a0Ne, [(q3, .inl (kA 0, 72, .inl (fun _ => 0)))], [(q4, .inl (kA 2, 72, .inl (fun _ => 0)))], [(q5, .inl (kA 2, 48, .inl (fun _ => 0)))], [(q6, .inl (kA 0, 1250, .inl (fun _ => 0)))], [(q7, .inl (kA 0, 50, .inl (fun _ => 0)))], [(q8, .inl (kA 0, 50, .inl (fun _ => 0)))], [(q9, .inl (kA 0, 50, .inl (fun _ => 0)))], [(q10, .inl (kA 0, 144, .inl (fun _ => 0)))], [(q11, .inl (kA 0, 26, .inl (fun _ => 0)))], [(q12, .inl (kA 0, 27, .inl (fun _ => 0)))]]) H := hP
  have hD : va_D A (cat [[(h, .inr (1, [.null, .ref q1, .ref q3, .ref q4, .ref q5, .int 0, .int 0, .int 0, .ref q6, .ref q7, .ref q8, .ref q9, .ref q10, .ref q11, .null, .int 0, .int 0, .int 0, .int 0, .null]))], wNe kA q1 u2 x0Ne a0Ne, [(q3, .inl (kA 0, 72, .inl (fun _ => 0)))], [(q4, .inl (kA 2, 72, .inl (fun _ => 0)))], [(q5, .inl (kA 2, 48, .inl (fun _ => 0)))], [(q6, .inl (kA 0, 1250, .inl (fun _ => 0)))], [(q7, .inl (kA 0, 50, .inl (fun _ => 0)))], [(q8, .inl (kA 0, 50, .inl (fun _ => 0)))], [(q9, .inl (kA 0, 50, .inl (fun _ => 0)))], [(q10, .inl (kA 0, 144, .inl (fun _ => 0)))], [(q11, .inl (kA 0, 26, .inl (fun _ => 0)))], [(q12, .inl (kA 0, 27, .inl (fun _ => 0)))]]) := hD
  refine W.widen (k := 21) (n := 3250) (by omega) (by omega) ?_
  refine k_put (pc := 114) X hK hP hD hS 0 rfl rfl i_Em t_Em t_Em_ok n_Em 14 (by decide) wm_340 rfl (Or.inr ⟨rfl, rfl⟩) rfl rfl (Nat.le_of_ble_eq_true rfl) d_Em_init_114 (fun H locs hP hD hS => ?_)
  have hP : va_P D classes (cat [[(h, .inr (1, [.null, .ref q1, .ref q3, .ref q4, .ref q5, .int 0, .int 0, .int 0, .ref q6, .ref q7, .ref q8, .ref q9, .ref q10, .ref q11, .ref q12, .int 0, .int 0, .int 0, .int 0, .null]))], wNe kA q1 u2 x0Ne a0Ne, [(q3, .inl (kA 0, 72, .inl (fun _ => 0)))], [(q4, .inl (kA 2, 72, .inl (fun _ => 0)))], [(q5, .inl (kA 2, 48, .inl (fun _ => 0)))], [(q6, .inl (kA 0, 1250, .inl (fun _ => 0)))], [(q7, .inl (kA 0, 50, .inl (fun _ => 0)))], [(q8, .inl (kA 0, 50, .inl (fun _ => 0)))], [(q9, .inl (kA 0, 50, .inl (fun _ => 0)))], [(q10, .inl (kA 0, 144, .inl (fun _ => 0)))], [(q11, .inl (kA 0, 26, .inl (fun _ => 0)))], [(q12, .inl (kA 0, 27, .inl (fun _ => 0)))]]) H := hP
  have hD : va_D A (cat [[(h, .inr (1, [.null, .ref q1, .ref q3, .ref q4, .ref q5, .int 0, .int 0, .int 0, .ref q6, .ref q7, .ref q8, .ref q9, .ref q10, .ref q11, .ref q12, .int 0, .int 0, .int 0, .int 0, .null]))], wNe kA q1 u2 x0Ne a0Ne, [(q3, .inl (kA 0, 72, .inl (fun _ => 0)))], [(q4, .inl (kA 2, 72, .inl (fun _ => 0)))], [(q5, .inl (kA 2, 48, .inl (fun _ => 0)))], [(q6, .inl (kA 0, 1250, .inl (fun _ => 0)))], [(q7, .inl (kA 0, 50, .inl (fun _ => 0)))], [(q8, .inl (kA 0, 50, .inl (fun _ => 0)))], [(q9, .inl (kA 0, 50, .inl (fun _ => 0)))], [(q10, .inl (kA 0, 144, .inl (fun _ => 0)))], [(q11, .inl (kA 0, 26, .inl (fun _ => 0)))], [(q12, .inl (kA 0, 27, .inl (fun _ => 0)))]]) := hD
  refine lv_aload_n (pc := 117) hx hb d_Em_init_117 rfl (lv_at hl 0 rfl) ?_
  refine lv_iconst (pc := 118) (v := 0) hx hb d_Em_init_118 (by decide) ?_
  refine k_put (pc := 119) X hK hP hD hS 0 rfl rfl i_Em t_Em t_Em_ok n_Em 15 (by decide) wm_341 rfl (Or.inl rfl) rfl rfl (Nat.le_of_ble_eq_true rfl) d_Em_init_119 (fun H locs hP hD hS => ?_)
  have hP : va_P D classes (cat [[(h, .inr (1, [.null, .ref q1, .ref q3, .ref q4, .ref q5, .int 0, .int 0, .int 0, .ref q6, .ref q7, .ref q8, .ref q9, .ref q10, .ref q11, .ref q12, .int 0, .int 0, .int 0, .int 0, .null]))], wNe kA q1 u2 x0Ne a0Ne, [(q3, .inl (kA 0, 72, .inl (fun _ => 0)))], [(q4, .inl (kA 2, 72, .inl (fun _ => 0)))], [(q5, .inl (kA 2, 48, .inl (fun _ => 0)))], [(q6, .inl (kA 0, 1250, .inl (fun _ => 0)))], [(q7, .inl (kA 0, 50, .inl (fun _ => 0)))], [(q8, .inl (kA 0, 50, .inl (fun _ => 0)))], [(q9, .inl (kA 0, 50, .inl (fun _ => 0)))], [(q10, .inl (kA 0, 144, .inl (fun _ => 0)))], [(q11, .inl (kA 0, 26, .inl (fun _ => 0)))], [(q12, .inl (kA 0, 27, .inl (fun _ => 0)))]]) H := hP
  have hD : va_D A (cat [[(h, .inr (1, [.null, .ref q1, .ref q3, .ref q4, .ref q5, .int 0, .int 0, .int 0, .ref q6, .ref q7, .ref q8, .ref q9, .ref q10, .ref q11, .ref q12, .int 0, .int 0, .int 0, .int 0, .null]))], wNe kA q1 u2 x0Ne a0Ne, [(q3, .inl (kA 0, 72, .inl (fun _ => 0)))], [(q4, .inl (kA 2, 72, .inl (fun _ => 0)))], [(q5, .inl (kA 2, 48, .inl (fun _ => 0)))], [(q6, .inl (kA 0, 1250, .inl (fun _ => 0)))], [(q7, .inl (kA 0, 50, .inl (fun _ => 0)))], [(q8, .inl (kA 0, 50, .inl (fun _ => 0)))], [(q9, .inl (kA 0, 50, .inl (fun _ => 0)))], [(q10, .inl (kA 0, 144, .inl (fun _ => 0)))], [(q11, .inl (kA 0, 26, .inl (fun _ => 0)))], [(q12, .inl (kA 0, 27, .inl (fun _ => 0)))]]) := hD
  refine lv_aload_n (pc := 122) hx hb d_Em_init_122 rfl (lv_at hl 0 rfl) ?_
  refine lv_iconst (pc := 123) (v := 0) hx hb d_Em_init_123 (by decide) ?_
  refine k_put (pc := 124) X hK hP hD hS 0 rfl rfl i_Em t_Em t_Em_ok n_Em 16 (by decide) wm_342 rfl (Or.inl rfl) rfl rfl (Nat.le_of_ble_eq_true rfl) d_Em_init_124 (fun H locs hP hD hS => ?_)
  have hP : va_P D classes (cat [[(h, .inr (1, [.null, .ref q1, .ref q3, .ref q4, .ref q5, .int 0, .int 0, .int 0, .ref q6, .ref q7, .ref q8, .ref q9, .ref q10, .ref q11, .ref q12, .int 0, .int 0, .int 0, .int 0, .null]))], wNe kA q1 u2 x0Ne a0Ne, [(q3, .inl (kA 0, 72, .inl (fun _ => 0)))], [(q4, .inl (kA 2, 72, .inl (fun _ => 0)))], [(q5, .inl (kA 2, 48, .inl (fun _ => 0)))], [(q6, .inl (kA 0, 1250, .inl (fun _ => 0)))], [(q7, .inl (kA 0, 50, .inl (fun _ => 0)))], [(q8, .inl (kA 0, 50, .inl (fun _ => 0)))], [(q9, .inl (kA 0, 50, .inl (fun _ => 0)))], [(q10, .inl (kA 0, 144, .inl (fun _ => 0)))], [(q11, .inl (kA 0, 26, .inl (fun _ => 0)))], [(q12, .inl (kA 0, 27, .inl (fun _ => 0)))]]) H := hP
  have hD : va_D A (cat [[(h, .inr (1, [.null, .ref q1, .ref q3, .ref q4, .ref q5, .int 0, .int 0, .int 0, .ref q6, .ref q7, .ref q8, .ref q9, .ref q10, .ref q11, .ref q12, .int 0, .int 0, .int 0, .int 0, .null]))], wNe kA q1 u2 x0Ne a0Ne, [(q3, .inl (kA 0, 72, .inl (fun _ => 0)))], [(q4, .inl (kA 2, 72, .inl (fun _ => 0)))], [(q5, .inl (kA 2, 48, .inl (fun _ => 0)))], [(q6, .inl (kA 0, 1250, .inl (fun _ => 0)))], [(q7, .inl (kA 0, 50, .inl (fun _ => 0)))], [(q8, .inl (kA 0, 50, .inl (fun _ => 0)))], [(q9, .inl (kA 0, 50, .inl (fun _ => 0)))], [(q10, .inl (kA 0, 144, .inl (fun _ => 0)))], [(q11, .inl (kA 0, 26, .inl (fun _ => 0)))], [(q12, .inl (kA 0, 27, .inl (fun _ => 0)))]]) := hD
  refine lv_aload_n (pc := 127) hx hb d_Em_init_127 rfl (lv_at hl 0 rfl) ?_
  refine lv_iconst (pc := 128) (v := 0) hx hb d_Em_init_128 (by decide) ?_
  refine k_put (pc := 129) X hK hP hD hS 0 rfl rfl i_Em t_Em t_Em_ok n_Em 17 (by decide) wm_343 rfl (Or.inl rfl) rfl rfl (Nat.le_of_ble_eq_true rfl) d_Em_init_129 (fun H locs hP hD hS => ?_)
  have hP : va_P D classes (cat [[(h, .inr (1, [.null, .ref q1, .ref q3, .ref q4, .ref q5, .int 0, .int 0, .int 0, .ref q6, .ref q7, .ref q8, .ref q9, .ref q10, .ref q11, .ref q12, .int 0, .int 0, .int 0, .int 0, .null]))], wNe kA q1 u2 x0Ne a0Ne, [(q3, .inl (kA 0, 72, .inl (fun _ => 0)))], [(q4, .inl (kA 2, 72, .inl (fun _ => 0)))], [(q5, .inl (kA 2, 48, .inl (fun _ => 0)))], [(q6, .inl (kA 0, 1250, .inl (fun _ => 0)))], [(q7, .inl (kA 0, 50, .inl (fun _ => 0)))], [(q8, .inl (kA 0, 50, .inl (fun _ => 0)))], [(q9, .inl (kA 0, 50, .inl (fun _ => 0)))], [(q10, .inl (kA 0, 144, .inl (fun _ => 0)))], [(q11, .inl (kA 0, 26, .inl (fun _ => 0)))], [(q12, .inl (kA 0, 27, .inl (fun _ => 0)))]]) H := hP
  have hD : va_D A (cat [[(h, .inr (1, [.null, .ref q1, .ref q3, .ref q4, .ref q5, .int 0, .int 0, .int 0, .ref q6, .ref q7, .ref q8, .ref q9, .ref q10, .ref q11, .ref q12, .int 0, .int 0, .int 0, .int 0, .null]))], wNe kA q1 u2 x0Ne a0Ne, [(q3, .inl (kA 0, 72, .inl (fun _ => 0)))], [(q4, .inl (kA 2, 72, .inl (fun _ => 0)))], [(q5, .inl (kA 2, 48, .inl (fun _ => 0)))], [(q6, .inl (kA 0, 1250, .inl (fun _ => 0)))], [(q7, .inl (kA 0, 50, .inl (fun _ => 0)))], [(q8, .inl (kA 0, 50, .inl (fun _ => 0)))], [(q9, .inl (kA 0, 50, .inl (fun _ => 0)))], [(q10, .inl (kA 0, 144, .inl (fun _ => 0)))], [(q11, .inl (kA 0, 26, .inl (fun _ => 0)))], [(q12, .inl (kA 0, 27, .inl (fun _ => 0)))]]) := hD
  refine lv_aload_n (pc := 132) hx hb d_Em_init_132 rfl (lv_at hl 0 rfl) ?_
  refine lv_iconst (pc := 133) (v := 0) hx hb d_Em_init_133 (by decide) ?_
  refine k_put (pc := 134) X hK hP hD hS 0 rfl rfl i_Em t_Em t_Em_ok n_Em 18 (by decide) wm_344 rfl (Or.inl rfl) rfl rfl (Nat.le_of_ble_eq_true rfl) d_Em_init_134 (fun H locs hP hD hS => ?_)
  have hP : va_P D classes (cat [[(h, .inr (1, [.null, .ref q1, .ref q3, .ref q4, .ref q5, .int 0, .int 0, .int 0, .ref q6, .ref q7, .ref q8, .ref q9, .ref q10, .ref q11, .ref q12, .int 0, .int 0, .int 0, .int 0, .null]))], wNe kA q1 u2 x0Ne a0Ne, [(q3, .inl (kA 0, 72, .inl (fun _ => 0)))], [(q4, .inl (kA 2, 72, .inl (fun _ => 0)))], [(q5, .inl (kA 2, 48, .inl (fun _ => 0)))], [(q6, .inl (kA 0, 1250, .inl (fun _ => 0)))], [(q7, .inl (kA 0, 50, .inl (fun _ => 0)))], [(q8, .inl (kA 0, 50, .inl (fun _ => 0)))], [(q9, .inl (kA 0, 50, .inl (fun _ => 0)))], [(q10, .inl (kA 0, 144, .inl (fun _ => 0)))], [(q11, .inl (kA 0, 26, .inl (fun _ => 0)))], [(q12, .inl (kA 0, 27, .inl (fun _ => 0)))]]) H := hP
  have hD : va_D A (cat [[(h, .inr (1, [.null, .ref q1, .ref q3, .ref q4, .ref q5, .int 0, .int 0, .int 0, .ref q6, .ref q7, .ref q8, .ref q9, .ref q10, .ref q11, .ref q12, .int 0, .int 0, .int 0, .int 0, .null]))], wNe kA q1 u2 x0Ne a0Ne, [(q3, .inl (kA 0, 72, .inl (fun _ => 0)))], [(q4, .inl (kA 2, 72, .inl (fun _ => 0)))], [(q5, .inl (kA 2, 48, .inl (fun _ => 0)))], [(q6, .inl (kA 0, 1250, .inl (fun _ => 0)))], [(q7, .inl (kA 0, 50, .inl (fun _ => 0)))], [(q8, .inl (kA 0, 50, .inl (fun _ => 0)))], [(q9, .inl (kA 0, 50, .inl (fun _ => 0)))], [(q10, .inl (kA 0, 144, .inl (fun _ => 0)))], [(q11, .inl (kA 0, 26, .inl (fun _ => 0)))], [(q12, .inl (kA 0, 27, .inl (fun _ => 0)))]]) := hD
  refine lv_aload_n (pc := 137) hx hb d_Em_init_137 rfl (lv_at hl 0 rfl) ?_
  refine lv_bipush (pc := 138) (v := 72) hx hb d_Em_init_138 (by decide) ?_
  refine k_newa (pc := 140) (atype := .int) X (ty := .int) (a0 := (72, .inl (fun _ => 0))) rfl rfl wm_193 hK hP hD hS hA 0 rfl (fun _ => rfl) (by decide) rfl (by decide) (Nat.le_of_ble_eq_true rfl) (Nat.le_of_ble_eq_true rfl) d_Em_init_140 (fun q13 H hP hD hS => ?_)
  have hP : va_P D classes (cat [[(h, .inr (1, [.null, .ref q1, .ref q3, .ref q4, .ref q5, .int 0, .int 0, .int 0, .ref q6, .ref q7, .ref q8, .ref q9, .ref q10, .ref q11, .ref q12, .int 0, .int 0, .int 0, .int 0, .null]))], wNe kA q1 u2 x0Ne a0Ne, [(q3, .inl (kA 0, 72, .inl (fun _ => 0)))], [(q4, .inl (kA 2, 72, .inl (fun _ => 0)))], [(q5, .inl (kA 2, 48, .inl (fun _ => 0)))], [(q6, .inl (kA 0, 1250, .inl (fun _ => 0)))], [(q7, .inl (kA 0, 50, .inl (fun _ => 0)))], [(q8, .inl (kA 0, 50, .inl (fun _ => 0)))], [(q9, .inl (kA 0, 50, .inl (fun _ => 0)))], [(q10, .inl (kA 0, 144, .inl (fun _ => 0)))], [(q11, .inl (kA 0, 26, .inl (fun _ => 0)))], [(q12, .inl (kA 0, 27, .inl (fun _ => 0)))], [(q13, .inl (kA 0, 72, .inl (fun _ => 0)))]]) H := hP
  have hD : va_D A (cat [[(h, .inr (1, [.null, .ref q1, .ref q3, .ref q4, .ref q5, .int 0, .int 0, .int 0, .ref q6, .ref q7, .ref q8, .ref q9, .ref q10, .ref q11, .ref q12, .int 0, .int 0, .int 0, .int 0, .null]))], wNe kA q1 u2 x0Ne a0Ne, [(q3, .inl (kA 0, 72, .inl (fun _ => 0)))], [(q4, .inl (kA 2, 72, .inl (fun _ => 0)))], [(q5, .inl (kA 2, 48, .inl (fun _ => 0)))], [(q6, .inl (kA 0, 1250, .inl (fun _ => 0)))], [(q7, .inl (kA 0, 50, .inl (fun _ => 0)))], [(q8, .inl (kA 0, 50, .inl (fun _ => 0)))], [(q9, .inl (kA 0, 50, .inl (fun _ => 0)))], [(q10, .inl (kA 0, 144, .inl (fun _ => 0)))], [(q11, .inl (kA 0, 26, .inl (fun _ => 0)))], [(q12, .inl (kA 0, 27, .inl (fun _ => 0)))], [(q13, .inl (kA 0, 72, .inl (fun _ => 0)))]]) := hD
  refine W.widen (k := 22) (n := 3322) (by omega) (by omega) ?_
  refine k_put (pc := 142) X hK hP hD hS 0 rfl rfl i_Em t_Em t_Em_ok n_Em 19 (by decide) wm_345 rfl (Or.inr ⟨rfl, rfl⟩) rfl rfl (Nat.le_of_ble_eq_true rfl) d_Em_init_142 (fun H locs hP hD hS => ?_)
  have hP : va_P D classes (cat [[(h, .inr (1, [.null, .ref q1, .ref q3, .ref q4, .ref q5, .int 0, .int 0, .int 0, .ref q6, .ref q7, .ref q8, .ref q9, .ref q10, .ref q11, .ref q12, .int 0, .int 0, .int 0, .int 0, .ref q13]))], wNe kA q1 u2 x0Ne a0Ne, [(q3, .inl (kA 0, 72, .inl (fun _ => 0)))], [(q4, .inl (kA 2, 72, .inl (fun _ => 0)))], [(q5, .inl (kA 2, 48, .inl (fun _ => 0)))], [(q6, .inl (kA 0, 1250, .inl (fun _ => 0)))], [(q7, .inl (kA 0, 50, .inl (fun _ => 0)))], [(q8, .inl (kA 0, 50, .inl (fun _ => 0)))], [(q9, .inl (kA 0, 50, .inl (fun _ => 0)))], [(q10, .inl (kA 0, 144, .inl (fun _ => 0)))], [(q11, .inl (kA 0, 26, .inl (fun _ => 0)))], [(q12, .inl (kA 0, 27, .inl (fun _ => 0)))], [(q13, .inl (kA 0, 72, .inl (fun _ => 0)))]]) H := hP
  have hD : va_D A (cat [[(h, .inr (1, [.null, .ref q1, .ref q3, .ref q4, .ref q5, .int 0, .int 0, .int 0, .ref q6, .ref q7, .ref q8, .ref q9, .ref q10, .ref q11, .ref q12, .int 0, .int 0, .int 0, .int 0, .ref q13]))], wNe kA q1 u2 x0Ne a0Ne, [(q3, .inl (kA 0, 72, .inl (fun _ => 0)))], [(q4, .inl (kA 2, 72, .inl (fun _ => 0)))], [(q5, .inl (kA 2, 48, .inl (fun _ => 0)))], [(q6, .inl (kA 0, 1250, .inl (fun _ => 0)))], [(q7, .inl (kA 0, 50, .inl (fun _ => 0)))], [(q8, .inl (kA 0, 50, .inl (fun _ => 0)))], [(q9, .inl (kA 0, 50, .inl (fun _ => 0)))], [(q10, .inl (kA 0, 144, .inl (fun _ => 0)))], [(q11, .inl (kA 0, 26, .inl (fun _ => 0)))], [(q12, .inl (kA 0, 27, .inl (fun _ => 0)))], [(q13, .inl (kA 0, 72, .inl (fun _ => 0)))]]) := hD
  obtain ⟨hP, hD⟩ := k_ord (gc := [[(h, .inr (1, [.null, .ref q1, .ref q3, .ref q4, .ref q5, .int 0, .int 0, .int 0, .ref q6, .ref q7, .ref q8, .ref q9, .ref q10, .ref q11, .ref q12, .int 0, .int 0, .int 0, .int 0, .ref q13]))], [(q3, .inl (kA 0, 72, .inl (fun _ => 0)))], [(q4, .inl (kA 2, 72, .inl (fun _ => 0)))], [(q5, .inl (kA 2, 48, .inl (fun _ => 0)))], [(q6, .inl (kA 0, 1250, .inl (fun _ => 0)))], [(q7, .inl (kA 0, 50, .inl (fun _ => 0)))], [(q8, .inl (kA 0, 50, .inl (fun _ => 0)))], [(q9, .inl (kA 0, 50, .inl (fun _ => 0)))], [(q10, .inl (kA 0, 144, .inl (fun _ => 0)))], [(q11, .inl (kA 0, 26, .inl (fun _ => 0)))], [(q12, .inl (kA 0, 27, .inl (fun _ => 0)))], [(q13, .inl (kA 0, 72, .inl (fun _ => 0)))], wNe kA q1 u2 x0Ne a0Ne]) hP hD [0, 2, 3, 4, 5, 6, 7, 8, 9, 10, 11, 12, 1] 13 rfl (by decide) rfl
  refine W.widen (k := 22) (n := 3322) (Nat.le_of_ble_eq_true rfl) (Nat.le_of_ble_eq_true rfl) ?_
  exact W.vret hx hb hr (fun t ht hW => ⟨⟨(fun i => match i with | 0 => (fun k => match k with | 2 => q3 | 3 => q4 | 4 => q5 | 8 => q6 | 9 => q7 | 10 => q8 | 11 => q9 | 12 => q10 | 13 => q11 | 14 => q12 | 19 => q13 | 1 => q1 | _ => 0) | 1 => u2 | _ => fun _ => 0), rfl, trivial, by rw [ht]; exact hP, va_K.moved hW.alike hK, hD⟩, hS.F ht⟩) hS.2.2 d_Em_init_145
end
