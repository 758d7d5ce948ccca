set_option maxRecDepth 100000 in
set_option maxHeartbeats 8000000 in
/-- from the entry, for every script of at most 3072 ints, the law comes to its end with true -/
theorem whole_start {p : Program} {e : Env} {s : State} {m : MethodId} {below : List Frame} {meth : Method} {c : Code} (l : Launch) {b L : Nat} {xs : Nat → Int32} (hL : L ≤ 3072) (C0 : lw_At p s m meth c b L xs) : W p l e room_1 s m #[Value.ref b] below meth c s.heap [] 0 0 (lw_Z below #[Value.ref b] s) (entryFrame m ([Value.ref b] : List Value).toArray 4) := by
  refine law_start l C0 (fun D kA h1 h2 u1 u2 H locs ls hK hN hp hP hD hS hl => ?_)
  obtain ⟨_, _, _, _, _, hts0, _, _, _, hgv, hfit⟩ := id C0
  obtain ⟨kB, e8, e55, e59, hro⟩ := ro_mk hts0 (flat_of_before _ hgv) hN kA
  have hRI := ro_RI hfit hro
  have eT : TY kB = TY kA := by
    unfold TY
    rw [e8 0 (by decide), e8 1 (by decide), e8 2 (by decide), e8 3 (by decide), e8 4 (by decide), e8 5 (by decide), e8 6 (by decide), e8 7 (by decide)]
  have eW : cat [cat (sHo kA h1 u1), cat (sMo kA h2 u2)] = W0 kB h1 h2 u1 u2 := by
    unfold W0
    rw [sHo_kk e8, sMo_kk e8]
  rw [eW] at hP hD
  rw [← eT] at hK
  have hth := st_th hD (fun r hr => hro.1 r hr) hRI e55 e59 (ro_none (G := GG) (by decide +kernel)) (w0_all hD hp)
  have hI := w0_LI hD hp hth
  exact law_loop C0 hL hK ⟨hN, hro⟩ k_Ho_feed k_Mo_feed k_Ho_read k_Mo_read k_Ho_fault k_Mo_fault k_Ho_count k_Mo_count k_Ho_node k_Mo_node k_Ho_edge k_Mo_edge k_Ho_group k_Mo_group k_Ho_letter k_Mo_letter k_Ho_change k_Mo_change k_Ho_back k_Mo_back k_Ho_far k_Mo_far k_Ho_same k_Mo_same k_Ho_map k_Mo_map k_Ho_planar k_Mo_planar k_Ho_turn k_Mo_turn k_Ho_draw_at_n k_Ho_draw_at_p k_Ho_draw_at_r0 k_Ho_draw_at_r1 k_Ho_draw_at_b k_Ho_draw_at_c k_Ho_draw_at_d k_Mo_draw k_Ho_at k_Mo_at2 k_Ho_told k_Mo_told k_Ho_put k_Mo_put k_Ho_route_at_c k_Ho_route_at_b k_Ho_route_at_d k_Mo_route k_Ho_label k_Mo_label k_Ho_judge k_Mo_judge k_Ho_style k_Mo_style k_Ho_shade k_Mo_shade k_Ho_text k_Mo_text k_Ho_octet k_Mo_octet k_Ho_dots k_Mo_dots k_Ho_dot k_Mo_dot 512 0 0 26011 126078 _ _ H locs ls 368 365796 (by decide) (by omega) (by decide) (by decide) (Or.inr (Nat.le_refl _)) (Or.inr (Nat.le_refl _)) hP hD hS hI hl
