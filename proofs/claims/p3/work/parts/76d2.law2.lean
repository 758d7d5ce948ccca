set_option maxRecDepth 100000 in
set_option maxHeartbeats 4000000 in
/-- feed -/
theorem lc_feed {p : Program} {e : Env} {s : State} {m : MethodId} {below : List Frame} {meth : Method} {c : Code} {l : Launch} {b L : Nat} {xs : Nat → Int32} (C0 : lw_At p s m meth c b L xs) (hL : L ≤ 3072) {D : va_G} {kA : Nat → ClassId} (hK : va_K D classes (TY kA) s) (hN : nsr kA (fun q : Nat => s.heap.size ≤ q) s) (h_Ho_feed : ct_ok PRD l D kA GG y_Ho_feed z_Ho_feed e_Ho_feed) (h_Mo_feed : ct_ok PRD l D kA GG y_Mo_feed z_Mo_feed e_Mo_feed) {h1 h2 rd i n : Nat} (hi : i + 6 ≤ L) {ta : Nat → Option Nat} {ws : va_W} {H : Heap} {locs : List Loc} {ls : Array Slot} {cells slots : Nat} (hP : va_P D classes ws H) (hD : va_D (fun q : Nat => s.heap.size ≤ q) ws) (hS : va_S (fun q : Nat => s.heap.size ≤ q) s.heap H locs) (hI : LI kA h1 h2 rd i n ta ws) (hl : lv_has ls 4 [(3, .int (nI i)), (2, .ref h2), (1, .ref h1), (0, .ref b)]) (hc : cells + 0 ≤ 60000) (hs : slots + 0 ≤ 8922250) (kk : ∀ (k : Nat) (ta : Nat → Option Nat) (w2 : va_W) (H : Heap) (locs : List Loc), va_P D classes w2 H → va_D (fun q : Nat => s.heap.size ≤ q) w2 → va_S (fun q : Nat => s.heap.size ≤ q) s.heap H locs → LI kA h1 h2 rd (i + 6) k ta w2 → (TN ws h1 17 → TN w2 h1 17) → (TN ws h1 20 → TN w2 h1 20) → W p l e room_1 s m #[Value.ref b] below meth c H locs (cells + 0) (slots + 0) (lw_Z below #[Value.ref b] s) (F0 m 1294 ls [])) : W p l e room_1 s m #[Value.ref b] below meth c H locs cells slots (lw_Z below #[Value.ref b] s) (F0 m 160 ls []) := by
  obtain ⟨hx, hb, hr, hml, hown, hts0, hX, hbl, hlocks, hgv⟩ := id C0
  have hts : ∀ w ∈ lw_g, w.before #[Value.ref b] s = true := fun w h => hts0 w (lw_gt h)
  have X : cx p s m #[Value.ref b] meth c b_law_law 4 ret "DrawingHouseLaw" meth.name := ⟨hx, hb, hml, hown, hts, hr, hlocks, rfl⟩
  obtain ⟨A, hAe⟩ : ∃ A : Nat → Prop, A = fun q : Nat => s.heap.size ≤ q := ⟨_, rfl⟩
  have hA : ∀ q : Nat, s.heap.size ≤ q → A q := fun q h => by rw [hAe]; exact h
  have hbA : ¬ A b := by rw [hAe]; exact Nat.not_le.mpr hbl
  rw [← hAe] at hD hS hN kk
  obtain ⟨hth, ⟨a1, a2, a3, hn⟩, hrd, F_HI, F_HL, F_HY, F_RO, F_PT, F_LE, F_TA, F_TE⟩ := hI
  obtain ⟨k, u, hk, hu, hkk⟩ : ∃ (k : Nat) (u : Int32), k ≤ 2000 ∧ (-1 ≤ u.toInt ∧ u.toInt ≤ 2000) ∧ (n + 20 ≤ 2000 ∧ k = n + 20 ∧ u = nI k ∨ 1981 ≤ n ∧ k = n ∧ u = -1) := by
    by_cases q : n + 20 ≤ 2000
    · exact ⟨n + 20, nI (n + 20), q, by rw [nI_toInt (by omega)]; omega, Or.inl ⟨q, rfl, rfl⟩⟩
    · exact ⟨n, -1, hn, by decide, Or.inr ⟨by omega, rfl, rfl⟩⟩
  have henv : sy_env ta L_env (L_vs h1 h2 rd i n k) := L_envs a1 a2 a3 (by omega) hn hk
  refine lv_aload_n (pc := 160) hx hb d_law_law_160 rfl (lv_at hl 2 rfl) ?_
  refine lv_aload_n (pc := 161) hx hb d_law_law_161 rfl (lv_at hl 3 rfl) ?_
  refine lv_iload_n (pc := 162) hx hb d_law_law_162 rfl (lv_at hl 0 rfl) ?_
  refine lv_iconst (pc := 163) (v := 1) hx hb d_law_law_163 (by decide) ?_
  refine k_add (pc := 164) (x := i) (y := 1) hx hb d_law_law_164 ?_
  refine sc_ld (pc := 165) (j := i + 1) hx hb hX hbl hbA hS (by omega) (by omega) d_law_law_165 ?_
  refine lv_aload_n (pc := 166) hx hb d_law_law_166 rfl (lv_at hl 3 rfl) ?_
  refine lv_iload_n (pc := 167) hx hb d_law_law_167 rfl (lv_at hl 0 rfl) ?_
  refine lv_iconst (pc := 168) (v := 2) hx hb d_law_law_168 (by decide) ?_
  refine k_add (pc := 169) (x := i) (y := 2) hx hb d_law_law_169 ?_
  refine sc_ld (pc := 170) (j := i + 2) hx hb hX hbl hbA hS (by omega) (by omega) d_law_law_170 ?_
  refine lv_aload_n (pc := 171) hx hb d_law_law_171 rfl (lv_at hl 3 rfl) ?_
  refine lv_iload_n (pc := 172) hx hb d_law_law_172 rfl (lv_at hl 0 rfl) ?_
  refine lv_iconst (pc := 173) (v := 3) hx hb d_law_law_173 (by decide) ?_
  refine k_add (pc := 174) (x := i) (y := 3) hx hb d_law_law_174 ?_
  refine sc_ld (pc := 175) (j := i + 3) hx hb hX hbl hbA hS (by omega) (by omega) d_law_law_175 ?_
  refine lv_aload_n (pc := 176) hx hb d_law_law_176 rfl (lv_at hl 3 rfl) ?_
  refine lv_iload_n (pc := 177) hx hb d_law_law_177 rfl (lv_at hl 0 rfl) ?_
  refine lv_iconst (pc := 178) (v := 4) hx hb d_law_law_178 (by decide) ?_
  refine k_add (pc := 179) (x := i) (y := 4) hx hb d_law_law_179 ?_
  refine sc_ld (pc := 180) (j := i + 4) hx hb hX hbl hbA hS (by omega) (by omega) d_law_law_180 ?_
  refine lv_aload_n (pc := 181) hx hb d_law_law_181 rfl (lv_at hl 3 rfl) ?_
  refine lv_iload_n (pc := 182) hx hb d_law_law_182 rfl (lv_at hl 0 rfl) ?_
  refine lv_iconst (pc := 183) (v := 5) hx hb d_law_law_183 (by decide) ?_
  refine k_add (pc := 184) (x := i) (y := 5) hx hb d_law_law_184 ?_
  refine sc_ld (pc := 185) (j := i + 5) hx hb hX hbl hbA hS (by omega) (by omega) d_law_law_185 ?_
  refine W.eq (g2 := F0 m 186 ls (List.reverse [.ref h1, .int (xs (i + 1)), .int (xs (i + 2)), .int (xs (i + 3)), .int (xs (i + 4)), .int (xs (i + 5))] ++ [])) rfl ?_
  refine (cl_virtual (y := y_Ho_feed) (ci := 12) rfl rfl ⟨_, _, rfl⟩ (by decide +kernel) h_Ho_feed wm_622 wm_1 wm_619 wm_620 wm_621 ⟨by decide, by decide, by decide +kernel⟩ (by decide) : cl_ok PRD l D kA GG "DrawingHouseLaw" _ _ e_Ho_feed) p e room_1 s m #[Value.ref b] below meth c H locs cells slots (lw_Z below #[Value.ref b] s) b_law_law 186 4 ret meth.name A ws ta ls [.ref h1, .int (xs (i + 1)), .int (xs (i + 2)), .int (xs (i + 3)), .int (xs (i + 4)), .int (xs (i + 5))] [.ref rd] [.int (nI k), .int u, .ref h2] [] X hK hN hA hP hD hS hth (ag_c (tv_rf a1) (ag_c tv_top (ag_c tv_top (ag_c tv_top (ag_c tv_top (ag_c tv_top (ag_n))))))) (gv_rd hrd a3) (ag_c (tv_nI hk (by decide)) (ag_c (Or.inl ⟨rfl, u, rfl, hu.1, hu.2⟩) (ag_c (tv_rf a2) (ag_n)))) (show ∀ f ∈ ([(20, [6, 7, 8], [50, 1, 0, 1, 3, 32, 2, 11, 0, 7, 4, 3, 2, 0, 1, 0, 20, 0, 2000, 2, 11, 1, 2, 1, 1, 4, 3, 2, 0, 1, 0, 20, 1, 2, 1, 2, 1, 1, 2, 7, 0, 2, 0, 1981, 2, 0, 1, 2, 7, 1, 2, 1, 1, 2, 0, 1, 1, 2, 1, 2, 0, -1]), (20, [9, 7, 8], [50, 1, 0, 0, 3, 32, 2, 11, 0, 7, 4, 3, 2, 0, 0, 0, 20, 0, 2000, 2, 11, 1, 2, 1, 1, 4, 3, 2, 0, 0, 0, 20, 1, 2, 1, 2, 1, 1, 2, 7, 0, 2, 0, 1981, 2, 0, 0, 2, 7, 1, 2, 1, 1, 2, 0, 0, 1, 2, 1, 2, 0, -1]), (20, [6, 9], [60, 1, 2, 1101, 1, 0, 1001])] : List fc_T), fc_1 PRD f ws ([.ref h1, .int (xs (i + 1)), .int (xs (i + 2)), .int (xs (i + 3)), .int (xs (i + 4)), .int (xs (i + 5))] ++ [.ref rd] ++ [.int (nI k), .int u, .ref h2]) from (List.forall_mem_cons.mpr ⟨⟨nf_in (N := 10) rfl rfl, (by
      have z : w_fi ws (.ref rd) 1 = (nI n).toInt := F_LE
      rw [nI_toInt (by omega)] at z
      show (w_fi ws (.ref rd) 1 + 20 ≤ 2000 ∧ (nI k).toInt = w_fi ws (.ref rd) 1 + 20 ∧ u.toInt = (nI k).toInt) ∨ (1981 ≤ w_fi ws (.ref rd) 1 ∧ (nI k).toInt = w_fi ws (.ref rd) 1 ∧ u.toInt = -1)
      rw [z, nI_toInt (by omega)]
      rcases hkk with ⟨q1, q2, q3⟩ | ⟨q1, q2, q3⟩
      · exact Or.inl ⟨by omega, by omega, by rw [q3, nI_toInt (by omega)]⟩
      · exact Or.inr ⟨by omega, by omega, by rw [q3]; rfl⟩)⟩, (List.forall_mem_cons.mpr ⟨⟨nf_in (N := 10) rfl rfl, (by
      have z : w_fi ws (.ref h2) 0 = (nI n).toInt := F_TA
      rw [nI_toInt (by omega)] at z
      show (w_fi ws (.ref h2) 0 + 20 ≤ 2000 ∧ (nI k).toInt = w_fi ws (.ref h2) 0 + 20 ∧ u.toInt = (nI k).toInt) ∨ (1981 ≤ w_fi ws (.ref h2) 0 ∧ (nI k).toInt = w_fi ws (.ref h2) 0 ∧ u.toInt = -1)
      rw [z, nI_toInt (by omega)]
      rcases hkk with ⟨q1, q2, q3⟩ | ⟨q1, q2, q3⟩
      · exact Or.inl ⟨by omega, by omega, by rw [q3, nI_toInt (by omega)]⟩
      · exact Or.inr ⟨by omega, by omega, by rw [q3]; rfl⟩)⟩, (List.forall_mem_cons.mpr ⟨⟨nf_in (N := 10) rfl rfl, (by have z : w_fi ws (.ref rd) 1 = (nI n).toInt := F_LE; have z2 : TEQ (w_ei ws (w_ar ws (.ref h2) 1)) (w_ei ws (w_ar ws (.ref rd) 0)) (nI n).toInt := F_TE; exact L_te0 z2 z)⟩, (fun _ h => by cases h)⟩)⟩)⟩)) (by first | decide | exact Nat.le_of_ble_eq_true rfl) (by first | decide | exact Nat.le_of_ble_eq_true rfl) (by first | decide | exact Nat.le_of_ble_eq_true rfl) (show cells + 0 ≤ 60000 by omega) (show slots + 0 ≤ 8922250 by omega) hl.1 d_law_law_186 (fun ta1 ws1 H1 locs1 r hle1 hth1 hP1 hD1 hS1 hrt hpo _ hkp => ?_)
  obtain ⟨x1, rfl⟩ := rt_i rfl hrt
  have hpost : ∀ f ∈ ([(20, [6, 7], [50, 1, 0, 1, 1, 3, 2, 0, 1, 1, 1]), (20, [10, 8], [50, 0, 0, 1, 2, 1, 0, 1, 1]), (20, [9, 6, 1, 2, 3, 4, 5, 7, 8], [60, 1, 2, 1107, 0, 1, 1000])] : List fc_T), fc_1 PRD f ws1 ([.ref h1, .int (xs (i + 1)), .int (xs (i + 2)), .int (xs (i + 3)), .int (xs (i + 4)), .int (xs (i + 5))] ++ [.ref rd] ++ [.int (nI k), .int u, .ref h2] ++ [.int x1]) := hpo.1
  have hkeep := L_keep (M := [(20, [0], [62, 0]), (20, [0], [62, 1000000]), (20, [0, 2], [62, 2000000]), (20, [1], [60, 0, 3, 198, 2, 3, 4]), (20, [1], [60, 0, 3, 367, 110, 111, 112]), (20, [3, 4], [50, 1, 0, 1, 1, 3, 2, 0, 1, 1, 1]), (20, [1, 4], [50, 1, 0, 0, 1, 3, 2, 0, 0, 1, 1])]) (S := [(20, [0], [62, 0]), (20, [0], [62, 1000000]), (20, [0, 2], [62, 2000000]), (20, [1], [60, 0, 3, 198, 2, 3, 4]), (20, [1], [60, 0, 3, 367, 110, 111, 112]), (20, [1, 4], [50, 1, 0, 0, 1, 3, 2, 0, 0, 1, 1])]) hth henv hD hle1 hth1 hD1 hkp (by decide +kernel) (List.forall_mem_cons.mpr ⟨F_HI, (List.forall_mem_cons.mpr ⟨F_HL, (List.forall_mem_cons.mpr ⟨F_HY, (List.forall_mem_cons.mpr ⟨F_RO, (List.forall_mem_cons.mpr ⟨F_PT, (List.forall_mem_cons.mpr ⟨F_LE, (List.forall_mem_cons.mpr ⟨F_TA, (fun _ h => by cases h)⟩)⟩)⟩)⟩)⟩)⟩)⟩)
  have G_HI : fc_m PRD 20 [.ref h1] [62, 0] ws1 := hkeep _ List.mem_cons_self
  have G_HL : fc_m PRD 20 [.ref h1] [62, 1000000] ws1 := hkeep _ (List.mem_cons_of_mem _ List.mem_cons_self)
  have G_HY : fc_m PRD 20 [.ref h1, .int (nI i)] [62, 2000000] ws1 := hkeep _ (List.mem_cons_of_mem _ (List.mem_cons_of_mem _ List.mem_cons_self))
  have G_RO : fc_m PRD 20 [.ref h2] [60, 0, 3, 198, 2, 3, 4] ws1 := hkeep _ (List.mem_cons_of_mem _ (List.mem_cons_of_mem _ (List.mem_cons_of_mem _ List.mem_cons_self)))
  have G_PT : fc_m PRD 20 [.ref h2] [60, 0, 3, 367, 110, 111, 112] ws1 := hkeep _ (List.mem_cons_of_mem _ (List.mem_cons_of_mem _ (List.mem_cons_of_mem _ (List.mem_cons_of_mem _ List.mem_cons_self))))
  have G_TA : fc_m PRD 20 [.ref h2, .int (nI n)] [50, 1, 0, 0, 1, 3, 2, 0, 0, 1, 1] ws1 := hkeep _ (List.mem_cons_of_mem _ (List.mem_cons_of_mem _ (List.mem_cons_of_mem _ (List.mem_cons_of_mem _ (List.mem_cons_of_mem _ List.mem_cons_self)))))
  have G_LE6 : fc_m PRD 20 [.ref rd, .int (nI k)] [50, 1, 0, 1, 1, 3, 2, 0, 1, 1, 1] ws1 := (hpost _ List.mem_cons_self).2
  have ans1 : x1.toInt = u.toInt := (hpost _ (List.mem_cons_of_mem _ List.mem_cons_self)).2
  have G_TFX := (hpost _ (List.mem_cons_of_mem _ (List.mem_cons_of_mem _ List.mem_cons_self))).2
  have G_HY6 : fc_m PRD 20 [.ref h1, .int (nI (i + 6))] [62, 2000000] ws1 := by have z : HY ws1 (.ref h1) ((nI i).toInt + ((2000000 : Nat) - 2000000 : Int)) := G_HY; show HY ws1 (.ref h1) ((nI (i + 6)).toInt + ((2000000 : Nat) - 2000000 : Int)); rw [nI_toInt (by omega)] at z ⊢; exact hy_le z (by omega)
  have hrd : L_rd ws1 h1 rd := L_rdk hrd a1 hkp (by decide +kernel)
  have tn17 : TN ws h1 17 → TN ws1 h1 17 := TN_kp a1 hkp (by decide +kernel)
  have tn20 : TN ws h1 20 → TN ws1 h1 20 := TN_kp a1 hkp (by decide +kernel)
  have F_HI := G_HI
  have F_HL := G_HL
  have F_HY6 := G_HY6
  have F_RO := G_RO
  have F_PT := G_PT
  have F_LE6 := G_LE6
  have F_TA := G_TA
  have F_TFX := G_TFX
  show W p l e room_1 s m #[Value.ref b] below meth c H1 locs1 (cells + 0) (slots + 0) (lw_Z below #[Value.ref b] s) (F0 m 189 ls [.int x1])
  have hS := hS1
  refine lv_pop (pc := 189) hx hb d_law_law_189 rfl ?_
  refine lv_aload_n (pc := 190) hx hb d_law_law_190 rfl (lv_at hl 1 rfl) ?_
  refine lv_aload_n (pc := 191) hx hb d_law_law_191 rfl (lv_at hl 3 rfl) ?_
  refine lv_iload_n (pc := 192) hx hb d_law_law_192 rfl (lv_at hl 0 rfl) ?_
  refine lv_iconst (pc := 193) (v := 1) hx hb d_law_law_193 (by decide) ?_
  refine k_add (pc := 194) (x := i) (y := 1) hx hb d_law_law_194 ?_
  refine sc_ld (pc := 195) (j := i + 1) hx hb hX hbl hbA hS (by omega) (by omega) d_law_law_195 ?_
  refine lv_aload_n (pc := 196) hx hb d_law_law_196 rfl (lv_at hl 3 rfl) ?_
  refine lv_iload_n (pc := 197) hx hb d_law_law_197 rfl (lv_at hl 0 rfl) ?_
  refine lv_iconst (pc := 198) (v := 2) hx hb d_law_law_198 (by decide) ?_
  refine k_add (pc := 199) (x := i) (y := 2) hx hb d_law_law_199 ?_
  refine sc_ld (pc := 200) (j := i + 2) hx hb hX hbl hbA hS (by omega) (by omega) d_law_law_200 ?_
  refine lv_aload_n (pc := 201) hx hb d_law_law_201 rfl (lv_at hl 3 rfl) ?_
  refine lv_iload_n (pc := 202) hx hb d_law_law_202 rfl (lv_at hl 0 rfl) ?_
  refine lv_iconst (pc := 203) (v := 3) hx hb d_law_law_203 (by decide) ?_
  refine k_add (pc := 204) (x := i) (y := 3) hx hb d_law_law_204 ?_
  refine sc_ld (pc := 205) (j := i + 3) hx hb hX hbl hbA hS (by omega) (by omega) d_law_law_205 ?_
  refine lv_aload_n (pc := 206) hx hb d_law_law_206 rfl (lv_at hl 3 rfl) ?_
  refine lv_iload_n (pc := 207) hx hb d_law_law_207 rfl (lv_at hl 0 rfl) ?_
  refine lv_iconst (pc := 208) (v := 4) hx hb d_law_law_208 (by decide) ?_
  refine k_add (pc := 209) (x := i) (y := 4) hx hb d_law_law_209 ?_
  refine sc_ld (pc := 210) (j := i + 4) hx hb hX hbl hbA hS (by omega) (by omega) d_law_law_210 ?_
  refine lv_aload_n (pc := 211) hx hb d_law_law_211 rfl (lv_at hl 3 rfl) ?_
  refine lv_iload_n (pc := 212) hx hb d_law_law_212 rfl (lv_at hl 0 rfl) ?_
  refine lv_iconst (pc := 213) (v := 5) hx hb d_law_law_213 (by decide) ?_
  refine k_add (pc := 214) (x := i) (y := 5) hx hb d_law_law_214 ?_
  refine sc_ld (pc := 215) (j := i + 5) hx hb hX hbl hbA hS (by omega) (by omega) d_law_law_215 ?_
  refine W.eq (g2 := F0 m 216 ls (List.reverse [.ref h2, .int (xs (i + 1)), .int (xs (i + 2)), .int (xs (i + 3)), .int (xs (i + 4)), .int (xs (i + 5))] ++ [])) rfl ?_
  refine (cl_virtual (y := y_Mo_feed) (ci := 13) rfl rfl ⟨_, _, rfl⟩ (by decide +kernel) h_Mo_feed wm_2964 wm_9 wm_2961 wm_2962 wm_2963 ⟨by decide, by decide, by decide +kernel⟩ (by decide) : cl_ok PRD l D kA GG "DrawingHouseLaw" _ _ e_Mo_feed) p e room_1 s m #[Value.ref b] below meth c H1 locs1 (cells + 0) (slots + 0) (lw_Z below #[Value.ref b] s) b_law_law 216 4 ret meth.name A ws1 ta1 ls [.ref h2, .int (xs (i + 1)), .int (xs (i + 2)), .int (xs (i + 3)), .int (xs (i + 4)), .int (xs (i + 5))] [] [.int (nI k), .int u, .ref rd] [] X hK hN hA hP1 hD1 hS1 hth1 (ag_c (tv_rf (hle1 _ _ a2)) (ag_c tv_top (ag_c tv_top (ag_c tv_top (ag_c tv_top (ag_c tv_top (ag_n))))))) (gv_n) (ag_c (tv_nI hk (by decide)) (ag_c (Or.inl ⟨rfl, u, rfl, hu.1, hu.2⟩) (ag_c (tv_rf (hle1 _ _ a3)) (ag_n)))) (show ∀ f ∈ ([(20, [0, 6, 7], [50, 1, 0, 0, 3, 32, 2, 11, 0, 7, 4, 3, 2, 0, 0, 0, 20, 0, 2000, 2, 11, 1, 2, 1, 1, 4, 3, 2, 0, 0, 0, 20, 1, 2, 1, 2, 1, 1, 2, 7, 0, 2, 0, 1981, 2, 0, 0, 2, 7, 1, 2, 1, 1, 2, 0, 0, 1, 2, 1, 2, 0, -1]), (20, [0, 8, 1, 2, 3, 4, 5, 6, 7], [60, 1, 2, 1107, 0, 1, 1000])] : List fc_T), fc_1 PRD f ws1 ([.ref h2, .int (xs (i + 1)), .int (xs (i + 2)), .int (xs (i + 3)), .int (xs (i + 4)), .int (xs (i + 5))] ++ [] ++ [.int (nI k), .int u, .ref rd]) from (List.forall_mem_cons.mpr ⟨⟨nf_in (N := 9) rfl rfl, (by
      have z : w_fi ws1 (.ref h2) 0 = (nI n).toInt := F_TA
      rw [nI_toInt (by omega)] at z
      show (w_fi ws1 (.ref h2) 0 + 20 ≤ 2000 ∧ (nI k).toInt = w_fi ws1 (.ref h2) 0 + 20 ∧ u.toInt = (nI k).toInt) ∨ (1981 ≤ w_fi ws1 (.ref h2) 0 ∧ (nI k).toInt = w_fi ws1 (.ref h2) 0 ∧ u.toInt = -1)
      rw [z, nI_toInt (by omega)]
      rcases hkk with ⟨q1, q2, q3⟩ | ⟨q1, q2, q3⟩
      · exact Or.inl ⟨by omega, by omega, by rw [q3, nI_toInt (by omega)]⟩
      · exact Or.inr ⟨by omega, by omega, by rw [q3]; rfl⟩)⟩, (List.forall_mem_cons.mpr ⟨⟨nf_in (N := 9) rfl rfl, F_TFX⟩, (fun _ h => by cases h)⟩)⟩)) (by first | decide | exact Nat.le_of_ble_eq_true rfl) (by first | decide | exact Nat.le_of_ble_eq_true rfl) (by first | decide | exact Nat.le_of_ble_eq_true rfl) (show (cells + 0) + 0 ≤ 60000 by omega) (show (slots + 0) + 0 ≤ 8922250 by omega) hl.1 d_law_law_216 (fun ta2 ws2 H2 locs2 r hle2 hth2 hP2 hD2 hS2 hrt hpo _ hkp => ?_)
  obtain ⟨x2, rfl⟩ := rt_i rfl hrt
  have hpost : ∀ f ∈ ([(20, [0, 6], [50, 1, 0, 0, 1, 3, 2, 0, 0, 1, 1]), (20, [9, 7], [50, 0, 0, 1, 2, 1, 0, 1, 1]), (20, [0, 8, 6], [60, 0, 2, 1109, 1, 1000])] : List fc_T), fc_1 PRD f ws2 ([.ref h2, .int (xs (i + 1)), .int (xs (i + 2)), .int (xs (i + 3)), .int (xs (i + 4)), .int (xs (i + 5))] ++ [] ++ [.int (nI k), .int u, .ref rd] ++ [.int x2]) := hpo.1
  have hkeep := L_keep (M := [(20, [0], [62, 0]), (20, [0], [62, 1000000]), (20, [0, 6], [62, 2000000]), (20, [1], [60, 0, 3, 198, 2, 3, 4]), (20, [1], [60, 0, 3, 367, 110, 111, 112]), (20, [3, 5], [50, 1, 0, 1, 1, 3, 2, 0, 1, 1, 1]), (20, [1, 4], [50, 1, 0, 0, 1, 3, 2, 0, 0, 1, 1])]) (S := [(20, [0], [62, 0]), (20, [0], [62, 1000000]), (20, [0, 6], [62, 2000000]), (20, [1], [60, 0, 3, 198, 2, 3, 4]), (20, [1], [60, 0, 3, 367, 110, 111, 112]), (20, [3, 5], [50, 1, 0, 1, 1, 3, 2, 0, 1, 1, 1])]) hth1 (sy_env_up hle1 henv) hD1 hle2 hth2 hD2 hkp (by decide +kernel) (List.forall_mem_cons.mpr ⟨F_HI, (List.forall_mem_cons.mpr ⟨F_HL, (List.forall_mem_cons.mpr ⟨F_HY6, (List.forall_mem_cons.mpr ⟨F_RO, (List.forall_mem_cons.mpr ⟨F_PT, (List.forall_mem_cons.mpr ⟨F_LE6, (List.forall_mem_cons.mpr ⟨F_TA, (fun _ h => by cases h)⟩)⟩)⟩)⟩)⟩)⟩)⟩)
  have G_HI : fc_m PRD 20 [.ref h1] [62, 0] ws2 := hkeep _ List.mem_cons_self
  have G_HL : fc_m PRD 20 [.ref h1] [62, 1000000] ws2 := hkeep _ (List.mem_cons_of_mem _ List.mem_cons_self)
  have G_HY6 : fc_m PRD 20 [.ref h1, .int (nI (i + 6))] [62, 2000000] ws2 := hkeep _ (List.mem_cons_of_mem _ (List.mem_cons_of_mem _ List.mem_cons_self))
  have G_RO : fc_m PRD 20 [.ref h2] [60, 0, 3, 198, 2, 3, 4] ws2 := hkeep _ (List.mem_cons_of_mem _ (List.mem_cons_of_mem _ (List.mem_cons_of_mem _ List.mem_cons_self)))
  have G_PT : fc_m PRD 20 [.ref h2] [60, 0, 3, 367, 110, 111, 112] ws2 := hkeep _ (List.mem_cons_of_mem _ (List.mem_cons_of_mem _ (List.mem_cons_of_mem _ (List.mem_cons_of_mem _ List.mem_cons_self))))
  have G_LE6 : fc_m PRD 20 [.ref rd, .int (nI k)] [50, 1, 0, 1, 1, 3, 2, 0, 1, 1, 1] ws2 := hkeep _ (List.mem_cons_of_mem _ (List.mem_cons_of_mem _ (List.mem_cons_of_mem _ (List.mem_cons_of_mem _ (List.mem_cons_of_mem _ List.mem_cons_self)))))
  have G_TA6 : fc_m PRD 20 [.ref h2, .int (nI k)] [50, 1, 0, 0, 1, 3, 2, 0, 0, 1, 1] ws2 := (hpost _ List.mem_cons_self).2
  have ans2 : x2.toInt = u.toInt := (hpost _ (List.mem_cons_of_mem _ List.mem_cons_self)).2
  have G_TE6 : fc_m PRD 20 [.ref h2, .ref rd, .int (nI k)] [60, 0, 2, 1109, 1, 1000] ws2 := (hpost _ (List.mem_cons_of_mem _ (List.mem_cons_of_mem _ List.mem_cons_self))).2
  have hrd : L_rd ws2 h1 rd := L_rdk hrd (hle1 _ _ a1) hkp (by decide +kernel)
  have tm17 : TN ws1 h1 17 → TN ws2 h1 17 := TN_kp (hle1 _ _ a1) hkp (by decide +kernel)
  have tm20 : TN ws1 h1 20 → TN ws2 h1 20 := TN_kp (hle1 _ _ a1) hkp (by decide +kernel)
  have F_HI := G_HI
  have F_HL := G_HL
  have F_HY6 := G_HY6
  have F_RO := G_RO
  have F_PT := G_PT
  have F_LE6 := G_LE6
  have F_TA6 := G_TA6
  have F_TE6 := G_TE6
  show W p l e room_1 s m #[Value.ref b] below meth c H2 locs2 (cells + 0 + 0) (slots + 0 + 0) (lw_Z below #[Value.ref b] s) (F0 m 219 ls [.int x2])
  have hS := hS2
  refine lv_pop (pc := 219) hx hb d_law_law_219 rfl ?_
  refine lv_goto (pc := 220) (tgt := 1294) hx hb d_law_law_220 (by decide) ?_
  have q1 : cells + 0 + 0 = cells + 0 := by omega
  have q2 : slots + 0 + 0 = slots + 0 := by omega
  rw [q1, q2]
  exact kk k ta2 ws2 H2 locs2 hP2 hD2 hS2 ⟨hth2, ⟨hle2 _ _ (hle1 _ _ a1), hle2 _ _ (hle1 _ _ a2), hle2 _ _ (hle1 _ _ a3), hk⟩, hrd, F_HI, F_HL, F_HY6, F_RO, F_PT, F_LE6, F_TA6, F_TE6⟩ (fun q => tm17 (tn17 q)) (fun q => tm20 (tn20 q))
set_option maxRecDepth 100000 in
set_option maxHeartbeats 4000000 in
/-- read -/
theorem lc_read {p : Program} {e : Env} {s : State} {m : MethodId} {below : List Frame} {meth : Method} {c : Code} {l : Launch} {b L : Nat} {xs : Nat → Int32} (C0 : lw_At p s m meth c b L xs) (hL : L ≤ 3072) {D : va_G} {kA : Nat → ClassId} (hK : va_K D classes (TY kA) s) (hN : nsr kA (fun q : Nat => s.heap.size ≤ q) s) (h_Ho_read : ct_ok PRD l D kA GG y_Ho_read z_Ho_read e_Ho_read) (h_Mo_read : ct_ok PRD l D kA GG y_Mo_read z_Mo_read e_Mo_read) {h1 h2 rd i n : Nat} (hi : i + 6 ≤ L) {ta : Nat → Option Nat} {ws : va_W} {H : Heap} {locs : List Loc} {ls : Array Slot} {cells slots : Nat} (hP : va_P D classes ws H) (hD : va_D (fun q : Nat => s.heap.size ≤ q) ws) (hS : va_S (fun q : Nat => s.heap.size ≤ q) s.heap H locs) (hI : LI kA h1 h2 rd i n ta ws) (hl : lv_has ls 4 [(3, .int (nI i)), (2, .ref h2), (1, .ref h1), (0, .ref b)]) (hc : cells + 0 ≤ 60000) (hs : slots + 0 ≤ 8922250) (kk : ∀ (k : Nat) (ta : Nat → Option Nat) (w2 : va_W) (H : Heap) (locs : List Loc), va_P D classes w2 H → va_D (fun q : Nat => s.heap.size ≤ q) w2 → va_S (fun q : Nat => s.heap.size ≤ q) s.heap H locs → LI kA h1 h2 rd (i + 6) k ta w2 → (TN ws h1 17 → TN w2 h1 17) → (TN ws h1 20 → TN w2 h1 20) → W p l e room_1 s m #[Value.ref b] below meth c H locs (cells + 0) (slots + 0) (lw_Z below #[Value.ref b] s) (F0 m 1294 ls [])) : W p l e room_1 s m #[Value.ref b] below meth c H locs cells slots (lw_Z below #[Value.ref b] s) (F0 m 223 ls []) := by
  obtain ⟨hx, hb, hr, hml, hown, hts0, hX, hbl, hlocks, hgv⟩ := id C0
  have hts : ∀ w ∈ lw_g, w.before #[Value.ref b] s = true := fun w h => hts0 w (lw_gt h)
  have X : cx p s m #[Value.ref b] meth c b_law_law 4 ret "DrawingHouseLaw" meth.name := ⟨hx, hb, hml, hown, hts, hr, hlocks, rfl⟩
  obtain ⟨A, hAe⟩ : ∃ A : Nat → Prop, A = fun q : Nat => s.heap.size ≤ q := ⟨_, rfl⟩
  have hA : ∀ q : Nat, s.heap.size ≤ q → A q := fun q h => by rw [hAe]; exact h
  have hbA : ¬ A b := by rw [hAe]; exact Nat.not_le.mpr hbl
  rw [← hAe] at hD hS hN kk
  obtain ⟨hth, ⟨a1, a2, a3, hn⟩, hrd, F_HI, F_HL, F_HY, F_RO, F_PT, F_LE, F_TA, F_TE⟩ := hI
  obtain ⟨k, hk, hkk⟩ : ∃ k : Nat, k ≤ 2000 ∧ ((0 ≤ (xs (i + 1)).toInt ∧ (xs (i + 1)).toInt ≤ 3 ∧ 0 ≤ (xs (i + 2)).toInt ∧ (xs (i + 2)).toInt ≤ (n : Int)) ∧ k = 0 ∨ ¬ (0 ≤ (xs (i + 1)).toInt ∧ (xs (i + 1)).toInt ≤ 3 ∧ 0 ≤ (xs (i + 2)).toInt ∧ (xs (i + 2)).toInt ≤ (n : Int)) ∧ k = n) := by
    by_cases q : 0 ≤ (xs (i + 1)).toInt ∧ (xs (i + 1)).toInt ≤ 3 ∧ 0 ≤ (xs (i + 2)).toInt ∧ (xs (i + 2)).toInt ≤ (n : Int)
    · exact ⟨0, by omega, Or.inl ⟨q, rfl⟩⟩
    · exact ⟨n, hn, Or.inr ⟨q, rfl⟩⟩
  have henv : sy_env ta L_env (L_vs h1 h2 rd i n k) := L_envs a1 a2 a3 (by omega) hn hk
  refine lv_aload_n (pc := 223) hx hb d_law_law_223 rfl (lv_at hl 2 rfl) ?_
  refine lv_aload_n (pc := 224) hx hb d_law_law_224 rfl (lv_at hl 3 rfl) ?_
  refine lv_iload_n (pc := 225) hx hb d_law_law_225 rfl (lv_at hl 0 rfl) ?_
  refine lv_iconst (pc := 226) (v := 1) hx hb d_law_law_226 (by decide) ?_
  refine k_add (pc := 227) (x := i) (y := 1) hx hb d_law_law_227 ?_
  refine sc_ld (pc := 228) (j := i + 1) hx hb hX hbl hbA hS (by omega) (by omega) d_law_law_228 ?_
  refine lv_aload_n (pc := 229) hx hb d_law_law_229 rfl (lv_at hl 3 rfl) ?_
  refine lv_iload_n (pc := 230) hx hb d_law_law_230 rfl (lv_at hl 0 rfl) ?_
  refine lv_iconst (pc := 231) (v := 2) hx hb d_law_law_231 (by decide) ?_
  refine k_add (pc := 232) (x := i) (y := 2) hx hb d_law_law_232 ?_
  refine sc_ld (pc := 233) (j := i + 2) hx hb hX hbl hbA hS (by omega) (by omega) d_law_law_233 ?_
  refine W.eq (g2 := F0 m 234 ls (List.reverse [.ref h1, .int (xs (i + 1)), .int (xs (i + 2))] ++ [])) rfl ?_
  refine (cl_virtual (y := y_Ho_read) (ci := 12) rfl rfl ⟨_, _, rfl⟩ (by decide +kernel) h_Ho_read wm_630 wm_1 wm_627 wm_628 wm_629 ⟨by decide, by decide, by decide +kernel⟩ (by decide) : cl_ok PRD l D kA GG "DrawingHouseLaw" _ _ e_Ho_read) p e room_1 s m #[Value.ref b] below meth c H locs cells slots (lw_Z below #[Value.ref b] s) b_law_law 234 4 ret meth.name A ws ta ls [.ref h1, .int (xs (i + 1)), .int (xs (i + 2))] [.ref rd] [.int (nI k), .int (nI n)] [] X hK hN hA hP hD hS hth (ag_c (tv_rf a1) (ag_c tv_top (ag_c tv_top (ag_n)))) (gv_rd hrd a3) (ag_c (tv_nI hk (by decide)) (ag_c (tv_nI hn (by decide)) (ag_n))) (show ∀ f ∈ ([(20, [0], [62, 0]), (20, [1, 2, 3, 4], [50, 1, 0, 2001, 3, 39, 2, 6, 0, 2, 0, 0, 1, 0, 2, 6, 0, 2, 1, 0, 0, 3, 2, 6, 0, 2, 0, 0, 1, 1, 2, 7, 0, 2, 1, 1, 2, 2, 1, 1, 2, 1, 3, 0, 0, 2, 35, 3, 6, 0, 2, 1, 0, 0, -1, 3, 6, 0, 2, 0, 4, 1, 0, 3, 6, 0, 2, 1, 1, 0, -1, 0, 7, 4, 3, 2, 2, 1, 0, 1, 1, 1, 1, 2, 1, 3, 2, 2, 1]), (20, [3, 5], [50, 1, 0, 1, 1, 3, 2, 0, 1, 1, 1])] : List fc_T), fc_1 PRD f ws ([.ref h1, .int (xs (i + 1)), .int (xs (i + 2))] ++ [.ref rd] ++ [.int (nI k), .int (nI n)]) from (List.forall_mem_cons.mpr ⟨⟨nf_in (N := 6) rfl rfl, F_HI⟩, (List.forall_mem_cons.mpr ⟨⟨nf_in (N := 6) rfl rfl, (by
      have z : w_fi ws (.ref rd) 1 = (nI n).toInt := F_LE
      rw [nI_toInt (by omega)] at z
      show (0 ≤ (xs (i + 1)).toInt ∧ (xs (i + 1)).toInt ≤ 3 ∧ 0 ≤ (xs (i + 2)).toInt ∧ (xs (i + 2)).toInt ≤ w_fi ws (.ref rd) 1 ∧ (nI k).toInt = 0) ∨ (((xs (i + 1)).toInt ≤ -1 ∨ 4 ≤ (xs (i + 1)).toInt ∨ (xs (i + 2)).toInt ≤ -1 ∨ w_fi ws (.ref rd) 1 + 1 ≤ (xs (i + 2)).toInt) ∧ (nI k).toInt = w_fi ws (.ref rd) 1)
      rw [z, nI_toInt (by omega)]
      omega)⟩, (List.forall_mem_cons.mpr ⟨⟨nf_in (N := 6) rfl rfl, (show w_fi ws (.ref rd) 1 = (nI n).toInt from F_LE)⟩, (fun _ h => by cases h)⟩)⟩)⟩)) (by first | decide | exact Nat.le_of_ble_eq_true rfl) (by first | decide | exact Nat.le_of_ble_eq_true rfl) (by first | decide | exact Nat.le_of_ble_eq_true rfl) (show cells + 0 ≤ 60000 by omega) (show slots + 0 ≤ 8922250 by omega) hl.1 d_law_law_234 (fun ta1 ws1 H1 locs1 r hle1 hth1 hP1 hD1 hS1 hrt hpo _ hkp => ?_)
  obtain ⟨x1, rfl⟩ := rt_i rfl hrt
  have hpost : ∀ f ∈ ([(20, [0], [62, 0]), (20, [3, 4], [50, 1, 0, 1, 1, 3, 2, 0, 1, 1, 1]), (20, [3, 1, 2, 5, 6], [60, 2, 1, 1110, 2, 3, 0])] : List fc_T), fc_1 PRD f ws1 ([.ref h1, .int (xs (i + 1)), .int (xs (i + 2))] ++ [.ref rd] ++ [.int (nI k), .int (nI n)] ++ [.int x1]) := hpo.1
  have hkeep := L_keep (M := [(20, [0], [62, 0]), (20, [0], [62, 1000000]), (20, [0, 2], [62, 2000000]), (20, [1], [60, 0, 3, 198, 2, 3, 4]), (20, [1], [60, 0, 3, 367, 110, 111, 112]), (20, [3, 4], [50, 1, 0, 1, 1, 3, 2, 0, 1, 1, 1]), (20, [1, 4], [50, 1, 0, 0, 1, 3, 2, 0, 0, 1, 1]), (20, [1, 3, 4], [60, 0, 2, 1109, 1, 1000])]) (S := [(20, [0], [62, 1000000]), (20, [0, 2], [62, 2000000]), (20, [1], [60, 0, 3, 198, 2, 3, 4]), (20, [1], [60, 0, 3, 367, 110, 111, 112]), (20, [1, 4], [50, 1, 0, 0, 1, 3, 2, 0, 0, 1, 1]), (20, [1, 3, 4], [60, 0, 2, 1109, 1, 1000])]) hth henv hD hle1 hth1 hD1 hkp (by decide +kernel) (List.forall_mem_cons.mpr ⟨F_HI, (List.forall_mem_cons.mpr ⟨F_HL, (List.forall_mem_cons.mpr ⟨F_HY, (List.forall_mem_cons.mpr ⟨F_RO, (List.forall_mem_cons.mpr ⟨F_PT, (List.forall_mem_cons.mpr ⟨F_LE, (List.forall_mem_cons.mpr ⟨F_TA, (List.forall_mem_cons.mpr ⟨F_TE, (fun _ h => by cases h)⟩)⟩)⟩)⟩)⟩)⟩)⟩)⟩)
  have G_HL : fc_m PRD 20 [.ref h1] [62, 1000000] ws1 := hkeep _ List.mem_cons_self
  have G_HY : fc_m PRD 20 [.ref h1, .int (nI i)] [62, 2000000] ws1 := hkeep _ (List.mem_cons_of_mem _ List.mem_cons_self)
  have G_RO : fc_m PRD 20 [.ref h2] [60, 0, 3, 198, 2, 3, 4] ws1 := hkeep _ (List.mem_cons_of_mem _ (List.mem_cons_of_mem _ List.mem_cons_self))
  have G_PT : fc_m PRD 20 [.ref h2] [60, 0, 3, 367, 110, 111, 112] ws1 := hkeep _ (List.mem_cons_of_mem _ (List.mem_cons_of_mem _ (List.mem_cons_of_mem _ List.mem_cons_self)))
  have G_TA : fc_m PRD 20 [.ref h2, .int (nI n)] [50, 1, 0, 0, 1, 3, 2, 0, 0, 1, 1] ws1 := hkeep _ (List.mem_cons_of_mem _ (List.mem_cons_of_mem _ (List.mem_cons_of_mem _ (List.mem_cons_of_mem _ List.mem_cons_self))))
  have G_TE : fc_m PRD 20 [.ref h2, .ref rd, .int (nI n)] [60, 0, 2, 1109, 1, 1000] ws1 := hkeep _ (List.mem_cons_of_mem _ (List.mem_cons_of_mem _ (List.mem_cons_of_mem _ (List.mem_cons_of_mem _ (List.mem_cons_of_mem _ List.mem_cons_self)))))
  have G_HI : fc_m PRD 20 [.ref h1] [62, 0] ws1 := (hpost _ List.mem_cons_self).2
  have G_LE6 : fc_m PRD 20 [.ref rd, .int (nI k)] [50, 1, 0, 1, 1, 3, 2, 0, 1, 1, 1] ws1 := (hpost _ (List.mem_cons_of_mem _ List.mem_cons_self)).2
  have G_RDY : fc_m PRD 20 [.ref rd, .int (xs (i + 1)), .int (xs (i + 2)), .int (nI n), .int x1] [60, 2, 1, 1110, 2, 3, 0] ws1 := (hpost _ (List.mem_cons_of_mem _ (List.mem_cons_of_mem _ List.mem_cons_self))).2
  have G_HY6 : fc_m PRD 20 [.ref h1, .int (nI (i + 6))] [62, 2000000] ws1 := by have z : HY ws1 (.ref h1) ((nI i).toInt + ((2000000 : Nat) - 2000000 : Int)) := G_HY; show HY ws1 (.ref h1) ((nI (i + 6)).toInt + ((2000000 : Nat) - 2000000 : Int)); rw [nI_toInt (by omega)] at z ⊢; exact hy_le z (by omega)
  have hrd : L_rd ws1 h1 rd := L_rdk hrd a1 hkp (by decide +kernel)
  have tn17 : TN ws h1 17 → TN ws1 h1 17 := TN_kp a1 hkp (by decide +kernel)
  have tn20 : TN ws h1 20 → TN ws1 h1 20 := TN_kp a1 hkp (by decide +kernel)
  have F_HI := G_HI
  have F_HL := G_HL
  have F_HY6 := G_HY6
  have F_RO := G_RO
  have F_PT := G_PT
  have F_LE6 := G_LE6
  have F_TA := G_TA
  have F_TE := G_TE
  have F_RDY := G_RDY
  show W p l e room_1 s m #[Value.ref b] below meth c H1 locs1 (cells + 0) (slots + 0) (lw_Z below #[Value.ref b] s) (F0 m 237 ls [.int x1])
  have hS := hS1
  refine lv_aload_n (pc := 237) hx hb d_law_law_237 rfl (lv_at hl 1 rfl) ?_
  refine lv_aload_n (pc := 238) hx hb d_law_law_238 rfl (lv_at hl 3 rfl) ?_
  refine lv_iload_n (pc := 239) hx hb d_law_law_239 rfl (lv_at hl 0 rfl) ?_
  refine lv_iconst (pc := 240) (v := 1) hx hb d_law_law_240 (by decide) ?_
  refine k_add (pc := 241) (x := i) (y := 1) hx hb d_law_law_241 ?_
  refine sc_ld (pc := 242) (j := i + 1) hx hb hX hbl hbA hS (by omega) (by omega) d_law_law_242 ?_
  refine lv_aload_n (pc := 243) hx hb d_law_law_243 rfl (lv_at hl 3 rfl) ?_
  refine lv_iload_n (pc := 244) hx hb d_law_law_244 rfl (lv_at hl 0 rfl) ?_
  refine lv_iconst (pc := 245) (v := 2) hx hb d_law_law_245 (by decide) ?_
  refine k_add (pc := 246) (x := i) (y := 2) hx hb d_law_law_246 ?_
  refine sc_ld (pc := 247) (j := i + 2) hx hb hX hbl hbA hS (by omega) (by omega) d_law_law_247 ?_
  refine W.eq (g2 := F0 m 248 ls (List.reverse [.ref h2, .int (xs (i + 1)), .int (xs (i + 2))] ++ [.int x1])) rfl ?_
  refine (cl_virtual (y := y_Mo_read) (ci := 13) rfl rfl ⟨_, _, rfl⟩ (by decide +kernel) h_Mo_read wm_2975 wm_9 wm_2972 wm_2973 wm_2974 ⟨by decide, by decide, by decide +kernel⟩ (by decide) : cl_ok PRD l D kA GG "DrawingHouseLaw" _ _ e_Mo_read) p e room_1 s m #[Value.ref b] below meth c H1 locs1 (cells + 0) (slots + 0) (lw_Z below #[Value.ref b] s) b_law_law 248 4 ret meth.name A ws1 ta1 ls [.ref h2, .int (xs (i + 1)), .int (xs (i + 2))] [] [.int (nI k), .int (nI n)] [.int x1] X hK hN hA hP1 hD1 hS1 hth1 (ag_c (tv_rf (hle1 _ _ a2)) (ag_c tv_top (ag_c tv_top (ag_n)))) (gv_n) (ag_c (tv_nI hk (by decide)) (ag_c (tv_nI hn (by decide)) (ag_n))) (show ∀ f ∈ ([(20, [0], [60, 0, 3, 198, 2, 3, 4]), (20, [1, 2, 0, 3], [50, 1, 0, 2000, 3, 39, 2, 6, 0, 2, 0, 0, 1, 0, 2, 6, 0, 2, 1, 0, 0, 3, 2, 6, 0, 2, 0, 0, 1, 1, 2, 7, 0, 2, 1, 1, 2, 2, 0, 1, 2, 1, 3, 0, 0, 2, 35, 3, 6, 0, 2, 1, 0, 0, -1, 3, 6, 0, 2, 0, 4, 1, 0, 3, 6, 0, 2, 1, 1, 0, -1, 0, 7, 4, 3, 2, 2, 0, 0, 1, 1, 1, 1, 2, 1, 3, 2, 2, 0]), (20, [0, 4], [30, 0, 1, 1, 0, -1, 0, 0]), (20, [0, 4], [30, 0, -1, 1, 0, 1, 0, 0])] : List fc_T), fc_1 PRD f ws1 ([.ref h2, .int (xs (i + 1)), .int (xs (i + 2))] ++ [] ++ [.int (nI k), .int (nI n)]) from (List.forall_mem_cons.mpr ⟨⟨nf_in (N := 5) rfl rfl, F_RO⟩, (List.forall_mem_cons.mpr ⟨⟨nf_in (N := 5) rfl rfl, (by
      have z : w_fi ws1 (.ref h2) 0 = (nI n).toInt := F_TA
      rw [nI_toInt (by omega)] at z
      show (0 ≤ (xs (i + 1)).toInt ∧ (xs (i + 1)).toInt ≤ 3 ∧ 0 ≤ (xs (i + 2)).toInt ∧ (xs (i + 2)).toInt ≤ w_fi ws1 (.ref h2) 0 ∧ (nI k).toInt = 0) ∨ (((xs (i + 1)).toInt ≤ -1 ∨ 4 ≤ (xs (i + 1)).toInt ∨ (xs (i + 2)).toInt ≤ -1 ∨ w_fi ws1 (.ref h2) 0 + 1 ≤ (xs (i + 2)).toInt) ∧ (nI k).toInt = w_fi ws1 (.ref h2) 0)
      rw [z, nI_toInt (by omega)]
      omega)⟩, (List.forall_mem_cons.mpr ⟨⟨nf_in (N := 5) rfl rfl, (by
      have z : w_fi ws1 (.ref h2) 0 = (nI n).toInt := F_TA
      have e : lt_v [1, 1, 0, -1, 0, 0] [.ref h2, .int (nI n)] ws1 = 1 * w_fi ws1 (.ref h2) 0 + (-1 * (nI n).toInt + 0) := rfl
      show lt_v [1, 1, 0, -1, 0, 0] [.ref h2, .int (nI n)] ws1 ≤ 0
      rw [e, z]; omega)⟩, (List.forall_mem_cons.mpr ⟨⟨nf_in (N := 5) rfl rfl, (by
      have z : w_fi ws1 (.ref h2) 0 = (nI n).toInt := F_TA
      have e : lt_v [-1, 1, 0, 1, 0, 0] [.ref h2, .int (nI n)] ws1 = -1 * w_fi ws1 (.ref h2) 0 + (1 * (nI n).toInt + 0) := rfl
      show lt_v [-1, 1, 0, 1, 0, 0] [.ref h2, .int (nI n)] ws1 ≤ 0
      rw [e, z]; omega)⟩, (fun _ h => by cases h)⟩)⟩)⟩)⟩)) (by first | decide | exact Nat.le_of_ble_eq_true rfl) (by first | decide | exact Nat.le_of_ble_eq_true rfl) (by first | decide | exact Nat.le_of_ble_eq_true rfl) (show (cells + 0) + 0 ≤ 60000 by omega) (show (slots + 0) + 0 ≤ 8922250 by omega) hl.1 d_law_law_248 (fun ta2 ws2 H2 locs2 r hle2 hth2 hP2 hD2 hS2 hrt hpo _ hkp => ?_)
  obtain ⟨x2, rfl⟩ := rt_i rfl hrt
  have hpost : ∀ f ∈ ([(20, [0], [60, 0, 3, 198, 2, 3, 4]), (20, [0, 3], [50, 1, 0, 0, 1, 3, 2, 0, 0, 1, 1]), (20, [0, 1, 2, 4, 5], [60, 2, 1, 1038, 8, 9, 1])] : List fc_T), fc_1 PRD f ws2 ([.ref h2, .int (xs (i + 1)), .int (xs (i + 2))] ++ [] ++ [.int (nI k), .int (nI n)] ++ [.int x2]) := hpo.1
  have hkeep := L_keep10 (M := [(20, [0], [62, 0]), (20, [0], [62, 1000000]), (20, [0, 6], [62, 2000000]), (20, [1], [60, 0, 3, 198, 2, 3, 4]), (20, [1], [60, 0, 3, 367, 110, 111, 112]), (20, [3, 5], [50, 1, 0, 1, 1, 3, 2, 0, 1, 1, 1]), (20, [1, 4], [50, 1, 0, 0, 1, 3, 2, 0, 0, 1, 1]), (20, [1, 3, 4], [60, 0, 2, 1109, 1, 1000]), (20, [3, 7, 8, 4, 9], [60, 2, 1, 1110, 2, 3, 0])]) (S := [(20, [0], [62, 0]), (20, [0], [62, 1000000]), (20, [0, 6], [62, 2000000]), (20, [1], [60, 0, 3, 367, 110, 111, 112]), (20, [3, 5], [50, 1, 0, 1, 1, 3, 2, 0, 1, 1, 1]), (20, [1, 3, 4], [60, 0, 2, 1109, 1, 1000]), (20, [3, 7, 8, 4, 9], [60, 2, 1, 1110, 2, 3, 0])]) hth1 (L_envs10 (a := xs (i + 1)) (b := xs (i + 2)) (c := x1) (sy_env_up hle1 henv)) hD1 hle2 hth2 hD2 hkp (by decide +kernel) (List.forall_mem_cons.mpr ⟨F_HI, (List.forall_mem_cons.mpr ⟨F_HL, (List.forall_mem_cons.mpr ⟨F_HY6, (List.forall_mem_cons.mpr ⟨F_RO, (List.forall_mem_cons.mpr ⟨F_PT, (List.forall_mem_cons.mpr ⟨F_LE6, (List.forall_mem_cons.mpr ⟨F_TA, (List.forall_mem_cons.mpr ⟨F_TE, (List.forall_mem_cons.mpr ⟨F_RDY, (fun _ h => by cases h)⟩)⟩)⟩)⟩)⟩)⟩)⟩)⟩)⟩)
  have G_HI : fc_m PRD 20 [.ref h1] [62, 0] ws2 := hkeep _ List.mem_cons_self
  have G_HL : fc_m PRD 20 [.ref h1] [62, 1000000] ws2 := hkeep _ (List.mem_cons_of_mem _ List.mem_cons_self)
  have G_HY6 : fc_m PRD 20 [.ref h1, .int (nI (i + 6))] [62, 2000000] ws2 := hkeep _ (List.mem_cons_of_mem _ (List.mem_cons_of_mem _ List.mem_cons_self))
  have G_PT : fc_m PRD 20 [.ref h2] [60, 0, 3, 367, 110, 111, 112] ws2 := hkeep _ (List.mem_cons_of_mem _ (List.mem_cons_of_mem _ (List.mem_cons_of_mem _ List.mem_cons_self)))
  have G_LE6 : fc_m PRD 20 [.ref rd, .int (nI k)] [50, 1, 0, 1, 1, 3, 2, 0, 1, 1, 1] ws2 := hkeep _ (List.mem_cons_of_mem _ (List.mem_cons_of_mem _ (List.mem_cons_of_mem _ (List.mem_cons_of_mem _ List.mem_cons_self))))
  have G_TE : fc_m PRD 20 [.ref h2, .ref rd, .int (nI n)] [60, 0, 2, 1109, 1, 1000] ws2 := hkeep _ (List.mem_cons_of_mem _ (List.mem_cons_of_mem _ (List.mem_cons_of_mem _ (List.mem_cons_of_mem _ (List.mem_cons_of_mem _ List.mem_cons_self)))))
  have G_RDY : fc_m PRD 20 [.ref rd, .int (xs (i + 1)), .int (xs (i + 2)), .int (nI n), .int x1] [60, 2, 1, 1110, 2, 3, 0] ws2 := hkeep _ (List.mem_cons_of_mem _ (List.mem_cons_of_mem _ (List.mem_cons_of_mem _ (List.mem_cons_of_mem _ (List.mem_cons_of_mem _ (List.mem_cons_of_mem _ List.mem_cons_self))))))
  have G_RO : fc_m PRD 20 [.ref h2] [60, 0, 3, 198, 2, 3, 4] ws2 := (hpost _ List.mem_cons_self).2
  have G_TA6 : fc_m PRD 20 [.ref h2, .int (nI k)] [50, 1, 0, 0, 1, 3, 2, 0, 0, 1, 1] ws2 := (hpost _ (List.mem_cons_of_mem _ List.mem_cons_self)).2
  have G_RDM := (hpost _ (List.mem_cons_of_mem _ (List.mem_cons_of_mem _ List.mem_cons_self))).2
  have G_TE6 : fc_m PRD 20 [.ref h2, .ref rd, .int (nI k)] [60, 0, 2, 1109, 1, 1000] ws2 := by have z : TEQ (w_ei ws2 (w_ar ws2 (.ref h2) 1)) (w_ei ws2 (w_ar ws2 (.ref rd) 0)) (nI n).toInt := G_TE; have z2 : TEQ (w_ei ws2 (w_ar ws2 (.ref h2) 1)) (w_ei ws2 (w_ar ws2 (.ref rd) 0)) (nI k).toInt := L_tek z (show k ≤ n by omega) hn; exact z2
  have hrd : L_rd ws2 h1 rd := L_rdk hrd (hle1 _ _ a1) hkp (by decide +kernel)
  have tm17 : TN ws1 h1 17 → TN ws2 h1 17 := TN_kp (hle1 _ _ a1) hkp (by decide +kernel)
  have tm20 : TN ws1 h1 20 → TN ws2 h1 20 := TN_kp (hle1 _ _ a1) hkp (by decide +kernel)
  have F_HI := G_HI
  have F_HL := G_HL
  have F_HY6 := G_HY6
  have F_RO := G_RO
  have F_PT := G_PT
  have F_LE6 := G_LE6
  have F_TA6 := G_TA6
  have F_TE := G_TE
  have F_TE6 := G_TE6
  have F_RDY := G_RDY
  have F_RDM := G_RDM
  show W p l e room_1 s m #[Value.ref b] below meth c H2 locs2 (cells + 0 + 0) (slots + 0 + 0) (lw_Z below #[Value.ref b] s) (F0 m 251 ls [.int x2, .int x1])
  have zT : TEQ (w_ei ws2 (w_ar ws2 (.ref h2) 1)) (w_ei ws2 (w_ar ws2 (.ref rd) 0)) (nI n).toInt := F_TE
  have zY : RDY (w_fi ws2 (.ref rd) 2) (w_fi ws2 (.ref rd) 3) (w_ei ws2 (w_ar ws2 (.ref rd) 0)) (xs (i + 1)).toInt (xs (i + 2)).toInt (nI n).toInt x1.toInt := F_RDY
  have zM : RDM (w_fi ws2 (.ref h2) 8) (w_fi ws2 (.ref h2) 9) (w_ei ws2 (w_ar ws2 (.ref h2) 1)) (xs (i + 1)).toInt (xs (i + 2)).toInt (nI n).toInt x2.toInt := F_RDM
  have exx : x1 = x2 := Int32.toInt_inj.mp (rdm_eq zT zY zM)
  have hS := hS2
  refine lv_icmp_eq (pc := 251) (tgt := 1294) hx hb d_law_law_251 (by decide) (fun _ => ?_) (fun q => absurd exx q)
  have q1 : cells + 0 + 0 = cells + 0 := by omega
  have q2 : slots + 0 + 0 = slots + 0 := by omega
  rw [q1, q2]
  exact kk k ta2 ws2 H2 locs2 hP2 hD2 hS2 ⟨hth2, ⟨hle2 _ _ (hle1 _ _ a1), hle2 _ _ (hle1 _ _ a2), hle2 _ _ (hle1 _ _ a3), hk⟩, hrd, F_HI, F_HL, F_HY6, F_RO, F_PT, F_LE6, F_TA6, F_TE6⟩ (fun q => tm17 (tn17 q)) (fun q => tm20 (tn20 q))
set_option maxRecDepth 100000 in
set_option maxHeartbeats 4000000 in
/-- fault -/
theorem lc_fault {p : Program} {e : Env} {s : State} {m : MethodId} {below : List Frame} {meth : Method} {c : Code} {l : Launch} {b L : Nat} {xs : Nat → Int32} (C0 : lw_At p s m meth c b L xs) (hL : L ≤ 3072) {D : va_G} {kA : Nat → ClassId} (hK : va_K D classes (TY kA) s) (hN : nsr kA (fun q : Nat => s.heap.size ≤ q) s) (h_Ho_fault : ct_ok PRD l D kA GG y_Ho_fault z_Ho_fault e_Ho_fault) (h_Mo_fault : ct_ok PRD l D kA GG y_Mo_fault z_Mo_fault e_Mo_fault) {h1 h2 rd i n : Nat} (hi : i + 6 ≤ L) {ta : Nat → Option Nat} {ws : va_W} {H : Heap} {locs : List Loc} {ls : Array Slot} {cells slots : Nat} (hP : va_P D classes ws H) (hD : va_D (fun q : Nat => s.heap.size ≤ q) ws) (hS : va_S (fun q : Nat => s.heap.size ≤ q) s.heap H locs) (hI : LI kA h1 h2 rd i n ta ws) (hl : lv_has ls 4 [(3, .int (nI i)), (2, .ref h2), (1, .ref h1), (0, .ref b)]) (hc : cells + 0 ≤ 60000) (hs : slots + 0 ≤ 8922250) (kk : ∀ (k : Nat) (ta : Nat → Option Nat) (w2 : va_W) (H : Heap) (locs : List Loc), va_P D classes w2 H → va_D (fun q : Nat => s.heap.size ≤ q) w2 → va_S (fun q : Nat => s.heap.size ≤ q) s.heap H locs → LI kA h1 h2 rd (i + 6) k ta w2 → (TN ws h1 17 → TN w2 h1 17) → (TN ws h1 20 → TN w2 h1 20) → W p l e room_1 s m #[Value.ref b] below meth c H locs (cells + 0) (slots + 0) (lw_Z below #[Value.ref b] s) (F0 m 1294 ls [])) : W p l e room_1 s m #[Value.ref b] below meth c H locs cells slots (lw_Z below #[Value.ref b] s) (F0 m 256 ls []) := by
  obtain ⟨hx, hb, hr, hml, hown, hts0, hX, hbl, hlocks, hgv⟩ := id C0
  have hts : ∀ w ∈ lw_g, w.before #[Value.ref b] s = true := fun w h => hts0 w (lw_gt h)
  have X : cx p s m #[Value.ref b] meth c b_law_law 4 ret "DrawingHouseLaw" meth.name := ⟨hx, hb, hml, hown, hts, hr, hlocks, rfl⟩
  obtain ⟨A, hAe⟩ : ∃ A : Nat → Prop, A = fun q : Nat => s.heap.size ≤ q := ⟨_, rfl⟩
  have hA : ∀ q : Nat, s.heap.size ≤ q → A q := fun q h => by rw [hAe]; exact h
  have hbA : ¬ A b := by rw [hAe]; exact Nat.not_le.mpr hbl
  rw [← hAe] at hD hS hN kk
  obtain ⟨hth, ⟨a1, a2, a3, hn⟩, hrd, F_HI, F_HL, F_HY, F_RO, F_PT, F_LE, F_TA, F_TE⟩ := hI
  obtain ⟨k, hk, hkk⟩ : ∃ k : Nat, k ≤ 2000 ∧ k = n := ⟨n, hn, rfl⟩
  have henv : sy_env ta L_env (L_vs h1 h2 rd i n k) := L_envs a1 a2 a3 (by omega) hn hk
  refine lv_aload_n (pc := 256) hx hb d_law_law_256 rfl (lv_at hl 2 rfl) ?_
  refine lv_aload_n (pc := 257) hx hb d_law_law_257 rfl (lv_at hl 3 rfl) ?_
  refine lv_iload_n (pc := 258) hx hb d_law_law_258 rfl (lv_at hl 0 rfl) ?_
  refine lv_iconst (pc := 259) (v := 1) hx hb d_law_law_259 (by decide) ?_
  refine k_add (pc := 260) (x := i) (y := 1) hx hb d_law_law_260 ?_
  refine sc_ld (pc := 261) (j := i + 1) hx hb hX hbl hbA hS (by omega) (by omega) d_law_law_261 ?_
  refine W.eq (g2 := F0 m 262 ls (List.reverse [.ref h1, .int (xs (i + 1))] ++ [])) rfl ?_
  refine (cl_virtual (y := y_Ho_fault) (ci := 12) rfl rfl ⟨_, _, rfl⟩ (by decide +kernel) h_Ho_fault wm_802 wm_1 wm_799 wm_800 wm_801 ⟨by decide, by decide, by decide +kernel⟩ (by decide) : cl_ok PRD l D kA GG "DrawingHouseLaw" _ _ e_Ho_fault) p e room_1 s m #[Value.ref b] below meth c H locs cells slots (lw_Z below #[Value.ref b] s) b_law_law 262 4 ret meth.name A ws ta ls [.ref h1, .int (xs (i + 1))] [] [] [] X hK hN hA hP hD hS hth (ag_c (tv_rf a1) (ag_c tv_top (ag_n))) (gv_n) (ag_n) (fun _ h => by cases h) (by first | decide | exact Nat.le_of_ble_eq_true rfl) (by first | decide | exact Nat.le_of_ble_eq_true rfl) (by first | decide | exact Nat.le_of_ble_eq_true rfl) (show cells + 0 ≤ 60000 by omega) (show slots + 0 ≤ 8922250 by omega) hl.1 d_law_law_262 (fun ta1 ws1 H1 locs1 r hle1 hth1 hP1 hD1 hS1 hrt hpo _ hkp => ?_)
  obtain ⟨x1, rfl⟩ := rt_i rfl hrt
  have hpost : ∀ f ∈ ([] : List fc_T), fc_1 PRD f ws1 ([.ref h1, .int (xs (i + 1))] ++ [] ++ [] ++ [.int x1]) := hpo.1
  have hkeep := L_keep (M := [(20, [0], [62, 0]), (20, [0], [62, 1000000]), (20, [0, 2], [62, 2000000]), (20, [1], [60, 0, 3, 198, 2, 3, 4]), (20, [1], [60, 0, 3, 367, 110, 111, 112]), (20, [3, 4], [50, 1, 0, 1, 1, 3, 2, 0, 1, 1, 1]), (20, [1, 4], [50, 1, 0, 0, 1, 3, 2, 0, 0, 1, 1]), (20, [1, 3, 4], [60, 0, 2, 1109, 1, 1000])]) (S := [(20, [0], [62, 0]), (20, [0], [62, 1000000]), (20, [0, 2], [62, 2000000]), (20, [1], [60, 0, 3, 198, 2, 3, 4]), (20, [1], [60, 0, 3, 367, 110, 111, 112]), (20, [3, 4], [50, 1, 0, 1, 1, 3, 2, 0, 1, 1, 1]), (20, [1, 4], [50, 1, 0, 0, 1, 3, 2, 0, 0, 1, 1]), (20, [1, 3, 4], [60, 0, 2, 1109, 1, 1000])]) hth henv hD hle1 hth1 hD1 hkp (by decide +kernel) (List.forall_mem_cons.mpr ⟨F_HI, (List.forall_mem_cons.mpr ⟨F_HL, (List.forall_mem_cons.mpr ⟨F_HY, (List.forall_mem_cons.mpr ⟨F_RO, (List.forall_mem_cons.mpr ⟨F_PT, (List.forall_mem_cons.mpr ⟨F_LE, (List.forall_mem_cons.mpr ⟨F_TA, (List.forall_mem_cons.mpr ⟨F_TE, (fun _ h => by cases h)⟩)⟩)⟩)⟩)⟩)⟩)⟩)⟩)
  have G_HI : fc_m PRD 20 [.ref h1] [62, 0] ws1 := hkeep _ List.mem_cons_self
  have G_HL : fc_m PRD 20 [.ref h1] [62, 1000000] ws1 := hkeep _ (List.mem_cons_of_mem _ List.mem_cons_self)
  have G_HY : fc_m PRD 20 [.ref h1, .int (nI i)] [62, 2000000] ws1 := hkeep _ (List.mem_cons_of_mem _ (List.mem_cons_of_mem _ List.mem_cons_self))
  have G_RO : fc_m PRD 20 [.ref h2] [60, 0, 3, 198, 2, 3, 4] ws1 := hkeep _ (List.mem_cons_of_mem _ (List.mem_cons_of_mem _ (List.mem_cons_of_mem _ List.mem_cons_self)))
  have G_PT : fc_m PRD 20 [.ref h2] [60, 0, 3, 367, 110, 111, 112] ws1 := hkeep _ (List.mem_cons_of_mem _ (List.mem_cons_of_mem _ (List.mem_cons_of_mem _ (List.mem_cons_of_mem _ List.mem_cons_self))))
  have G_LE : fc_m PRD 20 [.ref rd, .int (nI n)] [50, 1, 0, 1, 1, 3, 2, 0, 1, 1, 1] ws1 := hkeep _ (List.mem_cons_of_mem _ (List.mem_cons_of_mem _ (List.mem_cons_of_mem _ (List.mem_cons_of_mem _ (List.mem_cons_of_mem _ List.mem_cons_self)))))
  have G_TA : fc_m PRD 20 [.ref h2, .int (nI n)] [50, 1, 0, 0, 1, 3, 2, 0, 0, 1, 1] ws1 := hkeep _ (List.mem_cons_of_mem _ (List.mem_cons_of_mem _ (List.mem_cons_of_mem _ (List.mem_cons_of_mem _ (List.mem_cons_of_mem _ (List.mem_cons_of_mem _ List.mem_cons_self))))))
  have G_TE : fc_m PRD 20 [.ref h2, .ref rd, .int (nI n)] [60, 0, 2, 1109, 1, 1000] ws1 := hkeep _ (List.mem_cons_of_mem _ (List.mem_cons_of_mem _ (List.mem_cons_of_mem _ (List.mem_cons_of_mem _ (List.mem_cons_of_mem _ (List.mem_cons_of_mem _ (List.mem_cons_of_mem _ List.mem_cons_self)))))))
  have G_HY6 : fc_m PRD 20 [.ref h1, .int (nI (i + 6))] [62, 2000000] ws1 := by have z : HY ws1 (.ref h1) ((nI i).toInt + ((2000000 : Nat) - 2000000 : Int)) := G_HY; show HY ws1 (.ref h1) ((nI (i + 6)).toInt + ((2000000 : Nat) - 2000000 : Int)); rw [nI_toInt (by omega)] at z ⊢; exact hy_le z (by omega)
  have G_LE6 : fc_m PRD 20 [.ref rd, .int (nI k)] [50, 1, 0, 1, 1, 3, 2, 0, 1, 1, 1] ws1 := by rw [hkk]; exact G_LE
  have hrd : L_rd ws1 h1 rd := L_rdk hrd a1 hkp (by decide +kernel)
  have tn17 : TN ws h1 17 → TN ws1 h1 17 := TN_kp a1 hkp (by decide +kernel)
  have tn20 : TN ws h1 20 → TN ws1 h1 20 := TN_kp a1 hkp (by decide +kernel)
  have F_HI := G_HI
  have F_HL := G_HL
  have F_HY6 := G_HY6
  have F_RO := G_RO
  have F_PT := G_PT
  have F_LE6 := G_LE6
  have F_TA := G_TA
  have F_TE := G_TE
  show W p l e room_1 s m #[Value.ref b] below meth c H1 locs1 (cells + 0) (slots + 0) (lw_Z below #[Value.ref b] s) (F0 m 265 ls [.int x1])
  have hS := hS1
  refine lv_pop (pc := 265) hx hb d_law_law_265 rfl ?_
  refine lv_aload_n (pc := 266) hx hb d_law_law_266 rfl (lv_at hl 1 rfl) ?_
  refine lv_aload_n (pc := 267) hx hb d_law_law_267 rfl (lv_at hl 3 rfl) ?_
  refine lv_iload_n (pc := 268) hx hb d_law_law_268 rfl (lv_at hl 0 rfl) ?_
  refine lv_iconst (pc := 269) (v := 1) hx hb d_law_law_269 (by decide) ?_
  refine k_add (pc := 270) (x := i) (y := 1) hx hb d_law_law_270 ?_
  refine sc_ld (pc := 271) (j := i + 1) hx hb hX hbl hbA hS (by omega) (by omega) d_law_law_271 ?_
  refine W.eq (g2 := F0 m 272 ls (List.reverse [.ref h2, .int (xs (i + 1))] ++ [])) rfl ?_
  refine (cl_virtual (y := y_Mo_fault) (ci := 13) rfl rfl ⟨_, _, rfl⟩ (by decide +kernel) h_Mo_fault wm_2968 wm_9 wm_2965 wm_2966 wm_2967 ⟨by decide, by decide, by decide +kernel⟩ (by decide) : cl_ok PRD l D kA GG "DrawingHouseLaw" _ _ e_Mo_fault) p e room_1 s m #[Value.ref b] below meth c H1 locs1 (cells + 0) (slots + 0) (lw_Z below #[Value.ref b] s) b_law_law 272 4 ret meth.name A ws1 ta1 ls [.ref h2, .int (xs (i + 1))] [] [] [] X hK hN hA hP1 hD1 hS1 hth1 (ag_c (tv_rf (hle1 _ _ a2)) (ag_c tv_top (ag_n))) (gv_n) (ag_n) (fun _ h => by cases h) (by first | decide | exact Nat.le_of_ble_eq_true rfl) (by first | decide | exact Nat.le_of_ble_eq_true rfl) (by first | decide | exact Nat.le_of_ble_eq_true rfl) (show (cells + 0) + 0 ≤ 60000 by omega) (show (slots + 0) + 0 ≤ 8922250 by omega) hl.1 d_law_law_272 (fun ta2 ws2 H2 locs2 r hle2 hth2 hP2 hD2 hS2 hrt hpo _ hkp => ?_)
  obtain ⟨x2, rfl⟩ := rt_i rfl hrt
  have hpost : ∀ f ∈ ([] : List fc_T), fc_1 PRD f ws2 ([.ref h2, .int (xs (i + 1))] ++ [] ++ [] ++ [.int x2]) := hpo.1
  have hkeep := L_keep (M := [(20, [0], [62, 0]), (20, [0], [62, 1000000]), (20, [0, 6], [62, 2000000]), (20, [1], [60, 0, 3, 198, 2, 3, 4]), (20, [1], [60, 0, 3, 367, 110, 111, 112]), (20, [3, 5], [50, 1, 0, 1, 1, 3, 2, 0, 1, 1, 1]), (20, [1, 4], [50, 1, 0, 0, 1, 3, 2, 0, 0, 1, 1]), (20, [1, 3, 4], [60, 0, 2, 1109, 1, 1000])]) (S := [(20, [0], [62, 0]), (20, [0], [62, 1000000]), (20, [0, 6], [62, 2000000]), (20, [1], [60, 0, 3, 198, 2, 3, 4]), (20, [1], [60, 0, 3, 367, 110, 111, 112]), (20, [3, 5], [50, 1, 0, 1, 1, 3, 2, 0, 1, 1, 1]), (20, [1, 4], [50, 1, 0, 0, 1, 3, 2, 0, 0, 1, 1]), (20, [1, 3, 4], [60, 0, 2, 1109, 1, 1000])]) hth1 (sy_env_up hle1 henv) hD1 hle2 hth2 hD2 hkp (by decide +kernel) (List.forall_mem_cons.mpr ⟨F_HI, (List.forall_mem_cons.mpr ⟨F_HL, (List.forall_mem_cons.mpr ⟨F_HY6, (List.forall_mem_cons.mpr ⟨F_RO, (List.forall_mem_cons.mpr ⟨F_PT, (List.forall_mem_cons.mpr ⟨F_LE6, (List.forall_mem_cons.mpr ⟨F_TA, (List.forall_mem_cons.mpr ⟨F_TE, (fun _ h => by cases h)⟩)⟩)⟩)⟩)⟩)⟩)⟩)⟩)
  have G_HI : fc_m PRD 20 [.ref h1] [62, 0] ws2 := hkeep _ List.mem_cons_self
  have G_HL : fc_m PRD 20 [.ref h1] [62, 1000000] ws2 := hkeep _ (List.mem_cons_of_mem _ List.mem_cons_self)
  have G_HY6 : fc_m PRD 20 [.ref h1, .int (nI (i + 6))] [62, 2000000] ws2 := hkeep _ (List.mem_cons_of_mem _ (List.mem_cons_of_mem _ List.mem_cons_self))
  have G_RO : fc_m PRD 20 [.ref h2] [60, 0, 3, 198, 2, 3, 4] ws2 := hkeep _ (List.mem_cons_of_mem _ (List.mem_cons_of_mem _ (List.mem_cons_of_mem _ List.mem_cons_self)))
  have G_PT : fc_m PRD 20 [.ref h2] [60, 0, 3, 367, 110, 111, 112] ws2 := hkeep _ (List.mem_cons_of_mem _ (List.mem_cons_of_mem _ (List.mem_cons_of_mem _ (List.mem_cons_of_mem _ List.mem_cons_self))))
  have G_LE6 : fc_m PRD 20 [.ref rd, .int (nI k)] [50, 1, 0, 1, 1, 3, 2, 0, 1, 1, 1] ws2 := hkeep _ (List.mem_cons_of_mem _ (List.mem_cons_of_mem _ (List.mem_cons_of_mem _ (List.mem_cons_of_mem _ (List.mem_cons_of_mem _ List.mem_cons_self)))))
  have G_TA : fc_m PRD 20 [.ref h2, .int (nI n)] [50, 1, 0, 0, 1, 3, 2, 0, 0, 1, 1] ws2 := hkeep _ (List.mem_cons_of_mem _ (List.mem_cons_of_mem _ (List.mem_cons_of_mem _ (List.mem_cons_of_mem _ (List.mem_cons_of_mem _ (List.mem_cons_of_mem _ List.mem_cons_self))))))
  have G_TE : fc_m PRD 20 [.ref h2, .ref rd, .int (nI n)] [60, 0, 2, 1109, 1, 1000] ws2 := hkeep _ (List.mem_cons_of_mem _ (List.mem_cons_of_mem _ (List.mem_cons_of_mem _ (List.mem_cons_of_mem _ (List.mem_cons_of_mem _ (List.mem_cons_of_mem _ (List.mem_cons_of_mem _ List.mem_cons_self)))))))
  have G_TA6 : fc_m PRD 20 [.ref h2, .int (nI k)] [50, 1, 0, 0, 1, 3, 2, 0, 0, 1, 1] ws2 := by rw [hkk]; exact G_TA
  have G_TE6 : fc_m PRD 20 [.ref h2, .ref rd, .int (nI k)] [60, 0, 2, 1109, 1, 1000] ws2 := by have z : TEQ (w_ei ws2 (w_ar ws2 (.ref h2) 1)) (w_ei ws2 (w_ar ws2 (.ref rd) 0)) (nI n).toInt := G_TE; have z2 : TEQ (w_ei ws2 (w_ar ws2 (.ref h2) 1)) (w_ei ws2 (w_ar ws2 (.ref rd) 0)) (nI k).toInt := L_tek z (show k ≤ n by omega) hn; exact z2
  have hrd : L_rd ws2 h1 rd := L_rdk hrd (hle1 _ _ a1) hkp (by decide +kernel)
  have tm17 : TN ws1 h1 17 → TN ws2 h1 17 := TN_kp (hle1 _ _ a1) hkp (by decide +kernel)
  have tm20 : TN ws1 h1 20 → TN ws2 h1 20 := TN_kp (hle1 _ _ a1) hkp (by decide +kernel)
  have F_HI := G_HI
  have F_HL := G_HL
  have F_HY6 := G_HY6
  have F_RO := G_RO
  have F_PT := G_PT
  have F_LE6 := G_LE6
  have F_TA6 := G_TA6
  have F_TE := G_TE
  have F_TE6 := G_TE6
  show W p l e room_1 s m #[Value.ref b] below meth c H2 locs2 (cells + 0 + 0) (slots + 0 + 0) (lw_Z below #[Value.ref b] s) (F0 m 275 ls [.int x2])
  have hS := hS2
  refine lv_pop (pc := 275) hx hb d_law_law_275 rfl ?_
  refine lv_goto (pc := 276) (tgt := 1294) hx hb d_law_law_276 (by decide) ?_
  have q1 : cells + 0 + 0 = cells + 0 := by omega
  have q2 : slots + 0 + 0 = slots + 0 := by omega
  rw [q1, q2]
  exact kk k ta2 ws2 H2 locs2 hP2 hD2 hS2 ⟨hth2, ⟨hle2 _ _ (hle1 _ _ a1), hle2 _ _ (hle1 _ _ a2), hle2 _ _ (hle1 _ _ a3), hk⟩, hrd, F_HI, F_HL, F_HY6, F_RO, F_PT, F_LE6, F_TA6, F_TE6⟩ (fun q => tm17 (tn17 q)) (fun q => tm20 (tn20 q))
set_option maxRecDepth 100000 in
set_option maxHeartbeats 4000000 in
/-- count -/
theorem lc_count {p : Program} {e : Env} {s : State} {m : MethodId} {below : List Frame} {meth : Method} {c : Code} {l : Launch} {b L : Nat} {xs : Nat → Int32} (C0 : lw_At p s m meth c b L xs) (hL : L ≤ 3072) {D : va_G} {kA : Nat → ClassId} (hK : va_K D classes (TY kA) s) (hN : nsr kA (fun q : Nat => s.heap.size ≤ q) s) (h_Ho_count : ct_ok PRD l D kA GG y_Ho_count z_Ho_count e_Ho_count) (h_Mo_count : ct_ok PRD l D kA GG y_Mo_count z_Mo_count e_Mo_count) {h1 h2 rd i n : Nat} (hi : i + 6 ≤ L) {ta : Nat → Option Nat} {ws : va_W} {H : Heap} {locs : List Loc} {ls : Array Slot} {cells slots : Nat} (hP : va_P D classes ws H) (hD : va_D (fun q : Nat => s.heap.size ≤ q) ws) (hS : va_S (fun q : Nat => s.heap.size ≤ q) s.heap H locs) (hI : LI kA h1 h2 rd i n ta ws) (hl : lv_has ls 4 [(3, .int (nI i)), (2, .ref h2), (1, .ref h1), (0, .ref b)]) (hc : cells + 0 ≤ 60000) (hs : slots + 0 ≤ 8922250) (kk : ∀ (k : Nat) (ta : Nat → Option Nat) (w2 : va_W) (H : Heap) (locs : List Loc), va_P D classes w2 H → va_D (fun q : Nat => s.heap.size ≤ q) w2 → va_S (fun q : Nat => s.heap.size ≤ q) s.heap H locs → LI kA h1 h2 rd (i + 6) k ta w2 → (TN ws h1 17 → TN w2 h1 17) → (TN ws h1 20 → TN w2 h1 20) → W p l e room_1 s m #[Value.ref b] below meth c H locs (cells + 0) (slots + 0) (lw_Z below #[Value.ref b] s) (F0 m 1294 ls [])) : W p l e room_1 s m #[Value.ref b] below meth c H locs cells slots (lw_Z below #[Value.ref b] s) (F0 m 279 ls []) := by
  obtain ⟨hx, hb, hr, hml, hown, hts0, hX, hbl, hlocks, hgv⟩ := id C0
  have hts : ∀ w ∈ lw_g, w.before #[Value.ref b] s = true := fun w h => hts0 w (lw_gt h)
  have X : cx p s m #[Value.ref b] meth c b_law_law 4 ret "DrawingHouseLaw" meth.name := ⟨hx, hb, hml, hown, hts, hr, hlocks, rfl⟩
  obtain ⟨A, hAe⟩ : ∃ A : Nat → Prop, A = fun q : Nat => s.heap.size ≤ q := ⟨_, rfl⟩
  have hA : ∀ q : Nat, s.heap.size ≤ q → A q := fun q h => by rw [hAe]; exact h
  have hbA : ¬ A b := by rw [hAe]; exact Nat.not_le.mpr hbl
  rw [← hAe] at hD hS hN kk
  obtain ⟨hth, ⟨a1, a2, a3, hn⟩, hrd, F_HI, F_HL, F_HY, F_RO, F_PT, F_LE, F_TA, F_TE⟩ := hI
  obtain ⟨k, hk, hkk⟩ : ∃ k : Nat, k ≤ 2000 ∧ k = n := ⟨n, hn, rfl⟩
  have henv : sy_env ta L_env (L_vs h1 h2 rd i n k) := L_envs a1 a2 a3 (by omega) hn hk
  refine lv_aload_n (pc := 279) hx hb d_law_law_279 rfl (lv_at hl 2 rfl) ?_
  refine lv_aload_n (pc := 280) hx hb d_law_law_280 rfl (lv_at hl 3 rfl) ?_
  refine lv_iload_n (pc := 281) hx hb d_law_law_281 rfl (lv_at hl 0 rfl) ?_
  refine lv_iconst (pc := 282) (v := 1) hx hb d_law_law_282 (by decide) ?_
  refine k_add (pc := 283) (x := i) (y := 1) hx hb d_law_law_283 ?_
  refine sc_ld (pc := 284) (j := i + 1) hx hb hX hbl hbA hS (by omega) (by omega) d_law_law_284 ?_
  refine lv_aload_n (pc := 285) hx hb d_law_law_285 rfl (lv_at hl 3 rfl) ?_
  refine lv_iload_n (pc := 286) hx hb d_law_law_286 rfl (lv_at hl 0 rfl) ?_
  refine lv_iconst (pc := 287) (v := 2) hx hb d_law_law_287 (by decide) ?_
  refine k_add (pc := 288) (x := i) (y := 2) hx hb d_law_law_288 ?_
  refine sc_ld (pc := 289) (j := i + 2) hx hb hX hbl hbA hS (by omega) (by omega) d_law_law_289 ?_
  refine W.eq (g2 := F0 m 290 ls (List.reverse [.ref h1, .int (xs (i + 1)), .int (xs (i + 2))] ++ [])) rfl ?_
  refine (cl_virtual (y := y_Ho_count) (ci := 12) rfl rfl ⟨_, _, rfl⟩ (by decide +kernel) h_Ho_count wm_806 wm_1 wm_803 wm_804 wm_805 ⟨by decide, by decide, by decide +kernel⟩ (by decide) : cl_ok PRD l D kA GG "DrawingHouseLaw" _ _ e_Ho_count) p e room_1 s m #[Value.ref b] below meth c H locs cells slots (lw_Z below #[Value.ref b] s) b_law_law 290 4 ret meth.name A ws ta ls [.ref h1, .int (xs (i + 1)), .int (xs (i + 2))] [] [] [] X hK hN hA hP hD hS hth (ag_c (tv_rf a1) (ag_c tv_top (ag_c tv_top (ag_n)))) (gv_n) (ag_n) (show ∀ f ∈ ([(20, [0], [62, 0])] : List fc_T), fc_1 PRD f ws ([.ref h1, .int (xs (i + 1)), .int (xs (i + 2))] ++ [] ++ []) from (List.forall_mem_cons.mpr ⟨⟨nf_in (N := 3) rfl rfl, F_HI⟩, (fun _ h => by cases h)⟩)) (by first | decide | exact Nat.le_of_ble_eq_true rfl) (by first | decide | exact Nat.le_of_ble_eq_true rfl) (by first | decide | exact Nat.le_of_ble_eq_true rfl) (show cells + 0 ≤ 60000 by omega) (show slots + 0 ≤ 8922250 by omega) hl.1 d_law_law_290 (fun ta1 ws1 H1 locs1 r hle1 hth1 hP1 hD1 hS1 hrt hpo _ hkp => ?_)
  obtain ⟨x1, rfl⟩ := rt_i rfl hrt
  have hpost : ∀ f ∈ ([(20, [0], [62, 0])] : List fc_T), fc_1 PRD f ws1 ([.ref h1, .int (xs (i + 1)), .int (xs (i + 2))] ++ [] ++ [] ++ [.int x1]) := hpo.1
  have hkeep := L_keep (M := [(20, [0], [62, 0]), (20, [0], [62, 1000000]), (20, [0, 2], [62, 2000000]), (20, [1], [60, 0, 3, 198, 2, 3, 4]), (20, [1], [60, 0, 3, 367, 110, 111, 112]), (20, [3, 4], [50, 1, 0, 1, 1, 3, 2, 0, 1, 1, 1]), (20, [1, 4], [50, 1, 0, 0, 1, 3, 2, 0, 0, 1, 1]), (20, [1, 3, 4], [60, 0, 2, 1109, 1, 1000])]) (S := [(20, [0], [62, 1000000]), (20, [0, 2], [62, 2000000]), (20, [1], [60, 0, 3, 198, 2, 3, 4]), (20, [1], [60, 0, 3, 367, 110, 111, 112]), (20, [3, 4], [50, 1, 0, 1, 1, 3, 2, 0, 1, 1, 1]), (20, [1, 4], [50, 1, 0, 0, 1, 3, 2, 0, 0, 1, 1]), (20, [1, 3, 4], [60, 0, 2, 1109, 1, 1000])]) hth henv hD hle1 hth1 hD1 hkp (by decide +kernel) (List.forall_mem_cons.mpr ⟨F_HI, (List.forall_mem_cons.mpr ⟨F_HL, (List.forall_mem_cons.mpr ⟨F_HY, (List.forall_mem_cons.mpr ⟨F_RO, (List.forall_mem_cons.mpr ⟨F_PT, (List.forall_mem_cons.mpr ⟨F_LE, (List.forall_mem_cons.mpr ⟨F_TA, (List.forall_mem_cons.mpr ⟨F_TE, (fun _ h => by cases h)⟩)⟩)⟩)⟩)⟩)⟩)⟩)⟩)
  have G_HL : fc_m PRD 20 [.ref h1] [62, 1000000] ws1 := hkeep _ List.mem_cons_self
  have G_HY : fc_m PRD 20 [.ref h1, .int (nI i)] [62, 2000000] ws1 := hkeep _ (List.mem_cons_of_mem _ List.mem_cons_self)
  have G_RO : fc_m PRD 20 [.ref h2] [60, 0, 3, 198, 2, 3, 4] ws1 := hkeep _ (List.mem_cons_of_mem _ (List.mem_cons_of_mem _ List.mem_cons_self))
  have G_PT : fc_m PRD 20 [.ref h2] [60, 0, 3, 367, 110, 111, 112] ws1 := hkeep _ (List.mem_cons_of_mem _ (List.mem_cons_of_mem _ (List.mem_cons_of_mem _ List.mem_cons_self)))
  have G_LE : fc_m PRD 20 [.ref rd, .int (nI n)] [50, 1, 0, 1, 1, 3, 2, 0, 1, 1, 1] ws1 := hkeep _ (List.mem_cons_of_mem _ (List.mem_cons_of_mem _ (List.mem_cons_of_mem _ (List.mem_cons_of_mem _ List.mem_cons_self))))
  have G_TA : fc_m PRD 20 [.ref h2, .int (nI n)] [50, 1, 0, 0, 1, 3, 2, 0, 0, 1, 1] ws1 := hkeep _ (List.mem_cons_of_mem _ (List.mem_cons_of_mem _ (List.mem_cons_of_mem _ (List.mem_cons_of_mem _ (List.mem_cons_of_mem _ List.mem_cons_self)))))
  have G_TE : fc_m PRD 20 [.ref h2, .ref rd, .int (nI n)] [60, 0, 2, 1109, 1, 1000] ws1 := hkeep _ (List.mem_cons_of_mem _ (List.mem_cons_of_mem _ (List.mem_cons_of_mem _ (List.mem_cons_of_mem _ (List.mem_cons_of_mem _ (List.mem_cons_of_mem _ List.mem_cons_self))))))
  have G_HI : fc_m PRD 20 [.ref h1] [62, 0] ws1 := (hpost _ List.mem_cons_self).2
  have G_HY6 : fc_m PRD 20 [.ref h1, .int (nI (i + 6))] [62, 2000000] ws1 := by have z : HY ws1 (.ref h1) ((nI i).toInt + ((2000000 : Nat) - 2000000 : Int)) := G_HY; show HY ws1 (.ref h1) ((nI (i + 6)).toInt + ((2000000 : Nat) - 2000000 : Int)); rw [nI_toInt (by omega)] at z ⊢; exact hy_le z (by omega)
  have G_LE6 : fc_m PRD 20 [.ref rd, .int (nI k)] [50, 1, 0, 1, 1, 3, 2, 0, 1, 1, 1] ws1 := by rw [hkk]; exact G_LE
  have hrd : L_rd ws1 h1 rd := L_rdk hrd a1 hkp (by decide +kernel)
  have tn17 : TN ws h1 17 → TN ws1 h1 17 := TN_kp a1 hkp (by decide +kernel)
  have tn20 : TN ws h1 20 → TN ws1 h1 20 := TN_kp a1 hkp (by decide +kernel)
  have F_HI := G_HI
  have F_HL := G_HL
  have F_HY6 := G_HY6
  have F_RO := G_RO
  have F_PT := G_PT
  have F_LE6 := G_LE6
  have F_TA := G_TA
  have F_TE := G_TE
  show W p l e room_1 s m #[Value.ref b] below meth c H1 locs1 (cells + 0) (slots + 0) (lw_Z below #[Value.ref b] s) (F0 m 293 ls [.int x1])
  have hS := hS1
  refine lv_pop (pc := 293) hx hb d_law_law_293 rfl ?_
  refine lv_aload_n (pc := 294) hx hb d_law_law_294 rfl (lv_at hl 1 rfl) ?_
  refine lv_aload_n (pc := 295) hx hb d_law_law_295 rfl (lv_at hl 3 rfl) ?_
  refine lv_iload_n (pc := 296) hx hb d_law_law_296 rfl (lv_at hl 0 rfl) ?_
  refine lv_iconst (pc := 297) (v := 1) hx hb d_law_law_297 (by decide) ?_
  refine k_add (pc := 298) (x := i) (y := 1) hx hb d_law_law_298 ?_
  refine sc_ld (pc := 299) (j := i + 1) hx hb hX hbl hbA hS (by omega) (by omega) d_law_law_299 ?_
  refine lv_aload_n (pc := 300) hx hb d_law_law_300 rfl (lv_at hl 3 rfl) ?_
  refine lv_iload_n (pc := 301) hx hb d_law_law_301 rfl (lv_at hl 0 rfl) ?_
  refine lv_iconst (pc := 302) (v := 2) hx hb d_law_law_302 (by decide) ?_
  refine k_add (pc := 303) (x := i) (y := 2) hx hb d_law_law_303 ?_
  refine sc_ld (pc := 304) (j := i + 2) hx hb hX hbl hbA hS (by omega) (by omega) d_law_law_304 ?_
  refine W.eq (g2 := F0 m 305 ls (List.reverse [.ref h2, .int (xs (i + 1)), .int (xs (i + 2))] ++ [])) rfl ?_
  refine (cl_virtual (y := y_Mo_count) (ci := 13) rfl rfl ⟨_, _, rfl⟩ (by decide +kernel) h_Mo_count wm_3279 wm_9 wm_3276 wm_3277 wm_3278 ⟨by decide, by decide, by decide +kernel⟩ (by decide) : cl_ok PRD l D kA GG "DrawingHouseLaw" _ _ e_Mo_count) p e room_1 s m #[Value.ref b] below meth c H1 locs1 (cells + 0) (slots + 0) (lw_Z below #[Value.ref b] s) b_law_law 305 4 ret meth.name A ws1 ta1 ls [.ref h2, .int (xs (i + 1)), .int (xs (i + 2))] [] [] [] X hK hN hA hP1 hD1 hS1 hth1 (ag_c (tv_rf (hle1 _ _ a2)) (ag_c tv_top (ag_c tv_top (ag_n)))) (gv_n) (ag_n) (show ∀ f ∈ ([(20, [0], [60, 0, 3, 198, 2, 3, 4])] : List fc_T), fc_1 PRD f ws1 ([.ref h2, .int (xs (i + 1)), .int (xs (i + 2))] ++ [] ++ []) from (List.forall_mem_cons.mpr ⟨⟨nf_in (N := 3) rfl rfl, F_RO⟩, (fun _ h => by cases h)⟩)) (by first | decide | exact Nat.le_of_ble_eq_true rfl) (by first | decide | exact Nat.le_of_ble_eq_true rfl) (by first | decide | exact Nat.le_of_ble_eq_true rfl) (show (cells + 0) + 0 ≤ 60000 by omega) (show (slots + 0) + 0 ≤ 8922250 by omega) hl.1 d_law_law_305 (fun ta2 ws2 H2 locs2 r hle2 hth2 hP2 hD2 hS2 hrt hpo _ hkp => ?_)
  obtain ⟨x2, rfl⟩ := rt_i rfl hrt
  have hpost : ∀ f ∈ ([] : List fc_T), fc_1 PRD f ws2 ([.ref h2, .int (xs (i + 1)), .int (xs (i + 2))] ++ [] ++ [] ++ [.int x2]) := hpo.1
  have hkeep := L_keep (M := [(20, [0], [62, 0]), (20, [0], [62, 1000000]), (20, [0, 6], [62, 2000000]), (20, [1], [60, 0, 3, 198, 2, 3, 4]), (20, [1], [60, 0, 3, 367, 110, 111, 112]), (20, [3, 5], [50, 1, 0, 1, 1, 3, 2, 0, 1, 1, 1]), (20, [1, 4], [50, 1, 0, 0, 1, 3, 2, 0, 0, 1, 1]), (20, [1, 3, 4], [60, 0, 2, 1109, 1, 1000])]) (S := [(20, [0], [62, 0]), (20, [0], [62, 1000000]), (20, [0, 6], [62, 2000000]), (20, [1], [60, 0, 3, 198, 2, 3, 4]), (20, [1], [60, 0, 3, 367, 110, 111, 112]), (20, [3, 5], [50, 1, 0, 1, 1, 3, 2, 0, 1, 1, 1]), (20, [1, 4], [50, 1, 0, 0, 1, 3, 2, 0, 0, 1, 1]), (20, [1, 3, 4], [60, 0, 2, 1109, 1, 1000])]) hth1 (sy_env_up hle1 henv) hD1 hle2 hth2 hD2 hkp (by decide +kernel) (List.forall_mem_cons.mpr ⟨F_HI, (List.forall_mem_cons.mpr ⟨F_HL, (List.forall_mem_cons.mpr ⟨F_HY6, (List.forall_mem_cons.mpr ⟨F_RO, (List.forall_mem_cons.mpr ⟨F_PT, (List.forall_mem_cons.mpr ⟨F_LE6, (List.forall_mem_cons.mpr ⟨F_TA, (List.forall_mem_cons.mpr ⟨F_TE, (fun _ h => by cases h)⟩)⟩)⟩)⟩)⟩)⟩)⟩)⟩)
  have G_HI : fc_m PRD 20 [.ref h1] [62, 0] ws2 := hkeep _ List.mem_cons_self
  have G_HL : fc_m PRD 20 [.ref h1] [62, 1000000] ws2 := hkeep _ (List.mem_cons_of_mem _ List.mem_cons_self)
  have G_HY6 : fc_m PRD 20 [.ref h1, .int (nI (i + 6))] [62, 2000000] ws2 := hkeep _ (List.mem_cons_of_mem _ (List.mem_cons_of_mem _ List.mem_cons_self))
  have G_RO : fc_m PRD 20 [.ref h2] [60, 0, 3, 198, 2, 3, 4] ws2 := hkeep _ (List.mem_cons_of_mem _ (List.mem_cons_of_mem _ (List.mem_cons_of_mem _ List.mem_cons_self)))
  have G_PT : fc_m PRD 20 [.ref h2] [60, 0, 3, 367, 110, 111, 112] ws2 := hkeep _ (List.mem_cons_of_mem _ (List.mem_cons_of_mem _ (List.mem_cons_of_mem _ (List.mem_cons_of_mem _ List.mem_cons_self))))
  have G_LE6 : fc_m PRD 20 [.ref rd, .int (nI k)] [50, 1, 0, 1, 1, 3, 2, 0, 1, 1, 1] ws2 := hkeep _ (List.mem_cons_of_mem _ (List.mem_cons_of_mem _ (List.mem_cons_of_mem _ (List.mem_cons_of_mem _ (List.mem_cons_of_mem _ List.mem_cons_self)))))
  have G_TA : fc_m PRD 20 [.ref h2, .int (nI n)] [50, 1, 0, 0, 1, 3, 2, 0, 0, 1, 1] ws2 := hkeep _ (List.mem_cons_of_mem _ (List.mem_cons_of_mem _ (List.mem_cons_of_mem _ (List.mem_cons_of_mem _ (List.mem_cons_of_mem _ (List.mem_cons_of_mem _ List.mem_cons_self))))))
  have G_TE : fc_m PRD 20 [.ref h2, .ref rd, .int (nI n)] [60, 0, 2, 1109, 1, 1000] ws2 := hkeep _ (List.mem_cons_of_mem _ (List.mem_cons_of_mem _ (List.mem_cons_of_mem _ (List.mem_cons_of_mem _ (List.mem_cons_of_mem _ (List.mem_cons_of_mem _ (List.mem_cons_of_mem _ List.mem_cons_self)))))))
  have G_TA6 : fc_m PRD 20 [.ref h2, .int (nI k)] [50, 1, 0, 0, 1, 3, 2, 0, 0, 1, 1] ws2 := by rw [hkk]; exact G_TA
  have G_TE6 : fc_m PRD 20 [.ref h2, .ref rd, .int (nI k)] [60, 0, 2, 1109, 1, 1000] ws2 := by have z : TEQ (w_ei ws2 (w_ar ws2 (.ref h2) 1)) (w_ei ws2 (w_ar ws2 (.ref rd) 0)) (nI n).toInt := G_TE; have z2 : TEQ (w_ei ws2 (w_ar ws2 (.ref h2) 1)) (w_ei ws2 (w_ar ws2 (.ref rd) 0)) (nI k).toInt := L_tek z (show k ≤ n by omega) hn; exact z2
  have hrd : L_rd ws2 h1 rd := L_rdk hrd (hle1 _ _ a1) hkp (by decide +kernel)
  have tm17 : TN ws1 h1 17 → TN ws2 h1 17 := TN_kp (hle1 _ _ a1) hkp (by decide +kernel)
  have tm20 : TN ws1 h1 20 → TN ws2 h1 20 := TN_kp (hle1 _ _ a1) hkp (by decide +kernel)
  have F_HI := G_HI
  have F_HL := G_HL
  have F_HY6 := G_HY6
  have F_RO := G_RO
  have F_PT := G_PT
  have F_LE6 := G_LE6
  have F_TA6 := G_TA6
  have F_TE := G_TE
  have F_TE6 := G_TE6
  show W p l e room_1 s m #[Value.ref b] below meth c H2 locs2 (cells + 0 + 0) (slots + 0 + 0) (lw_Z below #[Value.ref b] s) (F0 m 308 ls [.int x2])
  have hS := hS2
  refine lv_pop (pc := 308) hx hb d_law_law_308 rfl ?_
  refine lv_goto (pc := 309) (tgt := 1294) hx hb d_law_law_309 (by decide) ?_
  have q1 : cells + 0 + 0 = cells + 0 := by omega
  have q2 : slots + 0 + 0 = slots + 0 := by omega
  rw [q1, q2]
  exact kk k ta2 ws2 H2 locs2 hP2 hD2 hS2 ⟨hth2, ⟨hle2 _ _ (hle1 _ _ a1), hle2 _ _ (hle1 _ _ a2), hle2 _ _ (hle1 _ _ a3), hk⟩, hrd, F_HI, F_HL, F_HY6, F_RO, F_PT, F_LE6, F_TA6, F_TE6⟩ (fun q => tm17 (tn17 q)) (fun q => tm20 (tn20 q))
set_option maxRecDepth 100000 in
set_option maxHeartbeats 4000000 in
/-- node -/
theorem lc_node {p : Program} {e : Env} {s : State} {m : MethodId} {below : List Frame} {meth : Method} {c : Code} {l : Launch} {b L : Nat} {xs : Nat → Int32} (C0 : lw_At p s m meth c b L xs) (hL : L ≤ 3072) {D : va_G} {kA : Nat → ClassId} (hK : va_K D classes (TY kA) s) (hN : nsr kA (fun q : Nat => s.heap.size ≤ q) s) (h_Ho_node : ct_ok PRD l D kA GG y_Ho_node z_Ho_node e_Ho_node) (h_Mo_node : ct_ok PRD l D kA GG y_Mo_node z_Mo_node e_Mo_node) {h1 h2 rd i n : Nat} (hi : i + 6 ≤ L) {ta : Nat → Option Nat} {ws : va_W} {H : Heap} {locs : List Loc} {ls : Array Slot} {cells slots : Nat} (hP : va_P D classes ws H) (hD : va_D (fun q : Nat => s.heap.size ≤ q) ws) (hS : va_S (fun q : Nat => s.heap.size ≤ q) s.heap H locs) (hI : LI kA h1 h2 rd i n ta ws) (hl : lv_has ls 4 [(3, .int (nI i)), (2, .ref h2), (1, .ref h1), (0, .ref b)]) (hc : cells + 0 ≤ 60000) (hs : slots + 0 ≤ 8922250) (kk : ∀ (k : Nat) (ta : Nat → Option Nat) (w2 : va_W) (H : Heap) (locs : List Loc), va_P D classes w2 H → va_D (fun q : Nat => s.heap.size ≤ q) w2 → va_S (fun q : Nat => s.heap.size ≤ q) s.heap H locs → LI kA h1 h2 rd (i + 6) k ta w2 → (TN ws h1 17 → TN w2 h1 17) → (TN ws h1 20 → TN w2 h1 20) → W p l e room_1 s m #[Value.ref b] below meth c H locs (cells + 0) (slots + 0) (lw_Z below #[Value.ref b] s) (F0 m 1294 ls [])) : W p l e room_1 s m #[Value.ref b] below meth c H locs cells slots (lw_Z below #[Value.ref b] s) (F0 m 312 ls []) := by
  obtain ⟨hx, hb, hr, hml, hown, hts0, hX, hbl, hlocks, hgv⟩ := id C0
  have hts : ∀ w ∈ lw_g, w.before #[Value.ref b] s = true := fun w h => hts0 w (lw_gt h)
  have X : cx p s m #[Value.ref b] meth c b_law_law 4 ret "DrawingHouseLaw" meth.name := ⟨hx, hb, hml, hown, hts, hr, hlocks, rfl⟩
  obtain ⟨A, hAe⟩ : ∃ A : Nat → Prop, A = fun q : Nat => s.heap.size ≤ q := ⟨_, rfl⟩
  have hA : ∀ q : Nat, s.heap.size ≤ q → A q := fun q h => by rw [hAe]; exact h
  have hbA : ¬ A b := by rw [hAe]; exact Nat.not_le.mpr hbl
  rw [← hAe] at hD hS hN kk
  obtain ⟨hth, ⟨a1, a2, a3, hn⟩, hrd, F_HI, F_HL, F_HY, F_RO, F_PT, F_LE, F_TA, F_TE⟩ := hI
  obtain ⟨k, hk, hkk⟩ : ∃ k : Nat, k ≤ 2000 ∧ k = n := ⟨n, hn, rfl⟩
  have henv : sy_env ta L_env (L_vs h1 h2 rd i n k) := L_envs a1 a2 a3 (by omega) hn hk
  refine lv_aload_n (pc := 312) hx hb d_law_law_312 rfl (lv_at hl 2 rfl) ?_
  refine lv_aload_n (pc := 313) hx hb d_law_law_313 rfl (lv_at hl 3 rfl) ?_
  refine lv_iload_n (pc := 314) hx hb d_law_law_314 rfl (lv_at hl 0 rfl) ?_
  refine lv_iconst (pc := 315) (v := 1) hx hb d_law_law_315 (by decide) ?_
  refine k_add (pc := 316) (x := i) (y := 1) hx hb d_law_law_316 ?_
  refine sc_ld (pc := 317) (j := i + 1) hx hb hX hbl hbA hS (by omega) (by omega) d_law_law_317 ?_
  refine lv_aload_n (pc := 318) hx hb d_law_law_318 rfl (lv_at hl 3 rfl) ?_
  refine lv_iload_n (pc := 319) hx hb d_law_law_319 rfl (lv_at hl 0 rfl) ?_
  refine lv_iconst (pc := 320) (v := 2) hx hb d_law_law_320 (by decide) ?_
  refine k_add (pc := 321) (x := i) (y := 2) hx hb d_law_law_321 ?_
  refine sc_ld (pc := 322) (j := i + 2) hx hb hX hbl hbA hS (by omega) (by omega) d_law_law_322 ?_
  refine lv_aload_n (pc := 323) hx hb d_law_law_323 rfl (lv_at hl 3 rfl) ?_
  refine lv_iload_n (pc := 324) hx hb d_law_law_324 rfl (lv_at hl 0 rfl) ?_
  refine lv_iconst (pc := 325) (v := 3) hx hb d_law_law_325 (by decide) ?_
  refine k_add (pc := 326) (x := i) (y := 3) hx hb d_law_law_326 ?_
  refine sc_ld (pc := 327) (j := i + 3) hx hb hX hbl hbA hS (by omega) (by omega) d_law_law_327 ?_
  refine W.eq (g2 := F0 m 328 ls (List.reverse [.ref h1, .int (xs (i + 1)), .int (xs (i + 2)), .int (xs (i + 3))] ++ [])) rfl ?_
  refine (cl_virtual (y := y_Ho_node) (ci := 12) rfl rfl ⟨_, _, rfl⟩ (by decide +kernel) h_Ho_node wm_917 wm_1 wm_914 wm_915 wm_916 ⟨by decide, by decide, by decide +kernel⟩ (by decide) : cl_ok PRD l D kA GG "DrawingHouseLaw" _ _ e_Ho_node) p e room_1 s m #[Value.ref b] below meth c H locs cells slots (lw_Z below #[Value.ref b] s) b_law_law 328 4 ret meth.name A ws ta ls [.ref h1, .int (xs (i + 1)), .int (xs (i + 2)), .int (xs (i + 3))] [] [] [] X hK hN hA hP hD hS hth (ag_c (tv_rf a1) (ag_c tv_top (ag_c tv_top (ag_c tv_top (ag_n))))) (gv_n) (ag_n) (show ∀ f ∈ ([(20, [0], [62, 0])] : List fc_T), fc_1 PRD f ws ([.ref h1, .int (xs (i + 1)), .int (xs (i + 2)), .int (xs (i + 3))] ++ [] ++ []) from (List.forall_mem_cons.mpr ⟨⟨nf_in (N := 4) rfl rfl, F_HI⟩, (fun _ h => by cases h)⟩)) (by first | decide | exact Nat.le_of_ble_eq_true rfl) (by first | decide | exact Nat.le_of_ble_eq_true rfl) (by first | decide | exact Nat.le_of_ble_eq_true rfl) (show cells + 0 ≤ 60000 by omega) (show slots + 0 ≤ 8922250 by omega) hl.1 d_law_law_328 (fun ta1 ws1 H1 locs1 r hle1 hth1 hP1 hD1 hS1 hrt hpo _ hkp => ?_)
  obtain ⟨x1, rfl⟩ := rt_i rfl hrt
  have hpost : ∀ f ∈ ([(20, [0], [62, 0])] : List fc_T), fc_1 PRD f ws1 ([.ref h1, .int (xs (i + 1)), .int (xs (i + 2)), .int (xs (i + 3))] ++ [] ++ [] ++ [.int x1]) := hpo.1
  have hkeep := L_keep (M := [(20, [0], [62, 0]), (20, [0], [62, 1000000]), (20, [0, 2], [62, 2000000]), (20, [1], [60, 0, 3, 198, 2, 3, 4]), (20, [1], [60, 0, 3, 367, 110, 111, 112]), (20, [3, 4], [50, 1, 0, 1, 1, 3, 2, 0, 1, 1, 1]), (20, [1, 4], [50, 1, 0, 0, 1, 3, 2, 0, 0, 1, 1]), (20, [1, 3, 4], [60, 0, 2, 1109, 1, 1000])]) (S := [(20, [0], [62, 1000000]), (20, [0, 2], [62, 2000000]), (20, [1], [60, 0, 3, 198, 2, 3, 4]), (20, [1], [60, 0, 3, 367, 110, 111, 112]), (20, [3, 4], [50, 1, 0, 1, 1, 3, 2, 0, 1, 1, 1]), (20, [1, 4], [50, 1, 0, 0, 1, 3, 2, 0, 0, 1, 1]), (20, [1, 3, 4], [60, 0, 2, 1109, 1, 1000])]) hth henv hD hle1 hth1 hD1 hkp (by decide +kernel) (List.forall_mem_cons.mpr ⟨F_HI, (List.forall_mem_cons.mpr ⟨F_HL, (List.forall_mem_cons.mpr ⟨F_HY, (List.forall_mem_cons.mpr ⟨F_RO, (List.forall_mem_cons.mpr ⟨F_PT, (List.forall_mem_cons.mpr ⟨F_LE, (List.forall_mem_cons.mpr ⟨F_TA, (List.forall_mem_cons.mpr ⟨F_TE, (fun _ h => by cases h)⟩)⟩)⟩)⟩)⟩)⟩)⟩)⟩)
  have G_HL : fc_m PRD 20 [.ref h1] [62, 1000000] ws1 := hkeep _ List.mem_cons_self
  have G_HY : fc_m PRD 20 [.ref h1, .int (nI i)] [62, 2000000] ws1 := hkeep _ (List.mem_cons_of_mem _ List.mem_cons_self)
  have G_RO : fc_m PRD 20 [.ref h2] [60, 0, 3, 198, 2, 3, 4] ws1 := hkeep _ (List.mem_cons_of_mem _ (List.mem_cons_of_mem _ List.mem_cons_self))
  have G_PT : fc_m PRD 20 [.ref h2] [60, 0, 3, 367, 110, 111, 112] ws1 := hkeep _ (List.mem_cons_of_mem _ (List.mem_cons_of_mem _ (List.mem_cons_of_mem _ List.mem_cons_self)))
  have G_LE : fc_m PRD 20 [.ref rd, .int (nI n)] [50, 1, 0, 1, 1, 3, 2, 0, 1, 1, 1] ws1 := hkeep _ (List.mem_cons_of_mem _ (List.mem_cons_of_mem _ (List.mem_cons_of_mem _ (List.mem_cons_of_mem _ List.mem_cons_self))))
  have G_TA : fc_m PRD 20 [.ref h2, .int (nI n)] [50, 1, 0, 0, 1, 3, 2, 0, 0, 1, 1] ws1 := hkeep _ (List.mem_cons_of_mem _ (List.mem_cons_of_mem _ (List.mem_cons_of_mem _ (List.mem_cons_of_mem _ (List.mem_cons_of_mem _ List.mem_cons_self)))))
  have G_TE : fc_m PRD 20 [.ref h2, .ref rd, .int (nI n)] [60, 0, 2, 1109, 1, 1000] ws1 := hkeep _ (List.mem_cons_of_mem _ (List.mem_cons_of_mem _ (List.mem_cons_of_mem _ (List.mem_cons_of_mem _ (List.mem_cons_of_mem _ (List.mem_cons_of_mem _ List.mem_cons_self))))))
  have G_HI : fc_m PRD 20 [.ref h1] [62, 0] ws1 := (hpost _ List.mem_cons_self).2
  have G_HY6 : fc_m PRD 20 [.ref h1, .int (nI (i + 6))] [62, 2000000] ws1 := by have z : HY ws1 (.ref h1) ((nI i).toInt + ((2000000 : Nat) - 2000000 : Int)) := G_HY; show HY ws1 (.ref h1) ((nI (i + 6)).toInt + ((2000000 : Nat) - 2000000 : Int)); rw [nI_toInt (by omega)] at z ⊢; exact hy_le z (by omega)
  have G_LE6 : fc_m PRD 20 [.ref rd, .int (nI k)] [50, 1, 0, 1, 1, 3, 2, 0, 1, 1, 1] ws1 := by rw [hkk]; exact G_LE
  have hrd : L_rd ws1 h1 rd := L_rdk hrd a1 hkp (by decide +kernel)
  have tn17 : TN ws h1 17 → TN ws1 h1 17 := TN_kp a1 hkp (by decide +kernel)
  have tn20 : TN ws h1 20 → TN ws1 h1 20 := TN_kp a1 hkp (by decide +kernel)
  have F_HI := G_HI
  have F_HL := G_HL
  have F_HY6 := G_HY6
  have F_RO := G_RO
  have F_PT := G_PT
  have F_LE6 := G_LE6
  have F_TA := G_TA
  have F_TE := G_TE
  show W p l e room_1 s m #[Value.ref b] below meth c H1 locs1 (cells + 0) (slots + 0) (lw_Z below #[Value.ref b] s) (F0 m 331 ls [.int x1])
  have hS := hS1
  refine lv_pop (pc := 331) hx hb d_law_law_331 rfl ?_
  refine lv_aload_n (pc := 332) hx hb d_law_law_332 rfl (lv_at hl 1 rfl) ?_
  refine lv_aload_n (pc := 333) hx hb d_law_law_333 rfl (lv_at hl 3 rfl) ?_
  refine lv_iload_n (pc := 334) hx hb d_law_law_334 rfl (lv_at hl 0 rfl) ?_
  refine lv_iconst (pc := 335) (v := 1) hx hb d_law_law_335 (by decide) ?_
  refine k_add (pc := 336) (x := i) (y := 1) hx hb d_law_law_336 ?_
  refine sc_ld (pc := 337) (j := i + 1) hx hb hX hbl hbA hS (by omega) (by omega) d_law_law_337 ?_
  refine lv_aload_n (pc := 338) hx hb d_law_law_338 rfl (lv_at hl 3 rfl) ?_
  refine lv_iload_n (pc := 339) hx hb d_law_law_339 rfl (lv_at hl 0 rfl) ?_
  refine lv_iconst (pc := 340) (v := 2) hx hb d_law_law_340 (by decide) ?_
  refine k_add (pc := 341) (x := i) (y := 2) hx hb d_law_law_341 ?_
  refine sc_ld (pc := 342) (j := i + 2) hx hb hX hbl hbA hS (by omega) (by omega) d_law_law_342 ?_
  refine lv_aload_n (pc := 343) hx hb d_law_law_343 rfl (lv_at hl 3 rfl) ?_
  refine lv_iload_n (pc := 344) hx hb d_law_law_344 rfl (lv_at hl 0 rfl) ?_
  refine lv_iconst (pc := 345) (v := 3) hx hb d_law_law_345 (by decide) ?_
  refine k_add (pc := 346) (x := i) (y := 3) hx hb d_law_law_346 ?_
  refine sc_ld (pc := 347) (j := i + 3) hx hb hX hbl hbA hS (by omega) (by omega) d_law_law_347 ?_
  refine W.eq (g2 := F0 m 348 ls (List.reverse [.ref h2, .int (xs (i + 1)), .int (xs (i + 2)), .int (xs (i + 3))] ++ [])) rfl ?_
  refine (cl_virtual (y := y_Mo_node) (ci := 13) rfl rfl ⟨_, _, rfl⟩ (by decide +kernel) h_Mo_node wm_3303 wm_9 wm_3300 wm_3301 wm_3302 ⟨by decide, by decide, by decide +kernel⟩ (by decide) : cl_ok PRD l D kA GG "DrawingHouseLaw" _ _ e_Mo_node) p e room_1 s m #[Value.ref b] below meth c H1 locs1 (cells + 0) (slots + 0) (lw_Z below #[Value.ref b] s) b_law_law 348 4 ret meth.name A ws1 ta1 ls [.ref h2, .int (xs (i + 1)), .int (xs (i + 2)), .int (xs (i + 3))] [] [] [] X hK hN hA hP1 hD1 hS1 hth1 (ag_c (tv_rf (hle1 _ _ a2)) (ag_c tv_top (ag_c tv_top (ag_c tv_top (ag_n))))) (gv_n) (ag_n) (show ∀ f ∈ ([(20, [0], [60, 0, 3, 198, 2, 3, 4])] : List fc_T), fc_1 PRD f ws1 ([.ref h2, .int (xs (i + 1)), .int (xs (i + 2)), .int (xs (i + 3))] ++ [] ++ []) from (List.forall_mem_cons.mpr ⟨⟨nf_in (N := 4) rfl rfl, F_RO⟩, (fun _ h => by cases h)⟩)) (by first | decide | exact Nat.le_of_ble_eq_true rfl) (by first | decide | exact Nat.le_of_ble_eq_true rfl) (by first | decide | exact Nat.le_of_ble_eq_true rfl) (show (cells + 0) + 0 ≤ 60000 by omega) (show (slots + 0) + 0 ≤ 8922250 by omega) hl.1 d_law_law_348 (fun ta2 ws2 H2 locs2 r hle2 hth2 hP2 hD2 hS2 hrt hpo _ hkp => ?_)
  obtain ⟨x2, rfl⟩ := rt_i rfl hrt
  have hpost : ∀ f ∈ ([] : List fc_T), fc_1 PRD f ws2 ([.ref h2, .int (xs (i + 1)), .int (xs (i + 2)), .int (xs (i + 3))] ++ [] ++ [] ++ [.int x2]) := hpo.1
  have hkeep := L_keep (M := [(20, [0], [62, 0]), (20, [0], [62, 1000000]), (20, [0, 6], [62, 2000000]), (20, [1], [60, 0, 3, 198, 2, 3, 4]), (20, [1], [60, 0, 3, 367, 110, 111, 112]), (20, [3, 5], [50, 1, 0, 1, 1, 3, 2, 0, 1, 1, 1]), (20, [1, 4], [50, 1, 0, 0, 1, 3, 2, 0, 0, 1, 1]), (20, [1, 3, 4], [60, 0, 2, 1109, 1, 1000])]) (S := [(20, [0], [62, 0]), (20, [0], [62, 1000000]), (20, [0, 6], [62, 2000000]), (20, [1], [60, 0, 3, 198, 2, 3, 4]), (20, [1], [60, 0, 3, 367, 110, 111, 112]), (20, [3, 5], [50, 1, 0, 1, 1, 3, 2, 0, 1, 1, 1]), (20, [1, 4], [50, 1, 0, 0, 1, 3, 2, 0, 0, 1, 1]), (20, [1, 3, 4], [60, 0, 2, 1109, 1, 1000])]) hth1 (sy_env_up hle1 henv) hD1 hle2 hth2 hD2 hkp (by decide +kernel) (List.forall_mem_cons.mpr ⟨F_HI, (List.forall_mem_cons.mpr ⟨F_HL, (List.forall_mem_cons.mpr ⟨F_HY6, (List.forall_mem_cons.mpr ⟨F_RO, (List.forall_mem_cons.mpr ⟨F_PT, (List.forall_mem_cons.mpr ⟨F_LE6, (List.forall_mem_cons.mpr ⟨F_TA, (List.forall_mem_cons.mpr ⟨F_TE, (fun _ h => by cases h)⟩)⟩)⟩)⟩)⟩)⟩)⟩)⟩)
  have G_HI : fc_m PRD 20 [.ref h1] [62, 0] ws2 := hkeep _ List.mem_cons_self
  have G_HL : fc_m PRD 20 [.ref h1] [62, 1000000] ws2 := hkeep _ (List.mem_cons_of_mem _ List.mem_cons_self)
  have G_HY6 : fc_m PRD 20 [.ref h1, .int (nI (i + 6))] [62, 2000000] ws2 := hkeep _ (List.mem_cons_of_mem _ (List.mem_cons_of_mem _ List.mem_cons_self))
  have G_RO : fc_m PRD 20 [.ref h2] [60, 0, 3, 198, 2, 3, 4] ws2 := hkeep _ (List.mem_cons_of_mem _ (List.mem_cons_of_mem _ (List.mem_cons_of_mem _ List.mem_cons_self)))
  have G_PT : fc_m PRD 20 [.ref h2] [60, 0, 3, 367, 110, 111, 112] ws2 := hkeep _ (List.mem_cons_of_mem _ (List.mem_cons_of_mem _ (List.mem_cons_of_mem _ (List.mem_cons_of_mem _ List.mem_cons_self))))
  have G_LE6 : fc_m PRD 20 [.ref rd, .int (nI k)] [50, 1, 0, 1, 1, 3, 2, 0, 1, 1, 1] ws2 := hkeep _ (List.mem_cons_of_mem _ (List.mem_cons_of_mem _ (List.mem_cons_of_mem _ (List.mem_cons_of_mem _ (List.mem_cons_of_mem _ List.mem_cons_self)))))
  have G_TA : fc_m PRD 20 [.ref h2, .int (nI n)] [50, 1, 0, 0, 1, 3, 2, 0, 0, 1, 1] ws2 := hkeep _ (List.mem_cons_of_mem _ (List.mem_cons_of_mem _ (List.mem_cons_of_mem _ (List.mem_cons_of_mem _ (List.mem_cons_of_mem _ (List.mem_cons_of_mem _ List.mem_cons_self))))))
  have G_TE : fc_m PRD 20 [.ref h2, .ref rd, .int (nI n)] [60, 0, 2, 1109, 1, 1000] ws2 := hkeep _ (List.mem_cons_of_mem _ (List.mem_cons_of_mem _ (List.mem_cons_of_mem _ (List.mem_cons_of_mem _ (List.mem_cons_of_mem _ (List.mem_cons_of_mem _ (List.mem_cons_of_mem _ List.mem_cons_self)))))))
  have G_TA6 : fc_m PRD 20 [.ref h2, .int (nI k)] [50, 1, 0, 0, 1, 3, 2, 0, 0, 1, 1] ws2 := by rw [hkk]; exact G_TA
  have G_TE6 : fc_m PRD 20 [.ref h2, .ref rd, .int (nI k)] [60, 0, 2, 1109, 1, 1000] ws2 := by have z : TEQ (w_ei ws2 (w_ar ws2 (.ref h2) 1)) (w_ei ws2 (w_ar ws2 (.ref rd) 0)) (nI n).toInt := G_TE; have z2 : TEQ (w_ei ws2 (w_ar ws2 (.ref h2) 1)) (w_ei ws2 (w_ar ws2 (.ref rd) 0)) (nI k).toInt := L_tek z (show k ≤ n by omega) hn; exact z2
  have hrd : L_rd ws2 h1 rd := L_rdk hrd (hle1 _ _ a1) hkp (by decide +kernel)
  have tm17 : TN ws1 h1 17 → TN ws2 h1 17 := TN_kp (hle1 _ _ a1) hkp (by decide +kernel)
  have tm20 : TN ws1 h1 20 → TN ws2 h1 20 := TN_kp (hle1 _ _ a1) hkp (by decide +kernel)
  have F_HI := G_HI
  have F_HL := G_HL
  have F_HY6 := G_HY6
  have F_RO := G_RO
  have F_PT := G_PT
  have F_LE6 := G_LE6
  have F_TA6 := G_TA6
  have F_TE := G_TE
  have F_TE6 := G_TE6
  show W p l e room_1 s m #[Value.ref b] below meth c H2 locs2 (cells + 0 + 0) (slots + 0 + 0) (lw_Z below #[Value.ref b] s) (F0 m 351 ls [.int x2])
  have hS := hS2
  refine lv_pop (pc := 351) hx hb d_law_law_351 rfl ?_
  refine lv_goto (pc := 352) (tgt := 1294) hx hb d_law_law_352 (by decide) ?_
  have q1 : cells + 0 + 0 = cells + 0 := by omega
  have q2 : slots + 0 + 0 = slots + 0 := by omega
  rw [q1, q2]
  exact kk k ta2 ws2 H2 locs2 hP2 hD2 hS2 ⟨hth2, ⟨hle2 _ _ (hle1 _ _ a1), hle2 _ _ (hle1 _ _ a2), hle2 _ _ (hle1 _ _ a3), hk⟩, hrd, F_HI, F_HL, F_HY6, F_RO, F_PT, F_LE6, F_TA6, F_TE6⟩ (fun q => tm17 (tn17 q)) (fun q => tm20 (tn20 q))
set_option maxRecDepth 100000 in
set_option maxHeartbeats 4000000 in
/-- edge -/
theorem lc_edge {p : Program} {e : Env} {s : State} {m : MethodId} {below : List Frame} {meth : Method} {c : Code} {l : Launch} {b L : Nat} {xs : Nat → Int32} (C0 : lw_At p s m meth c b L xs) (hL : L ≤ 3072) {D : va_G} {kA : Nat → ClassId} (hK : va_K D classes (TY kA) s) (hN : nsr kA (fun q : Nat => s.heap.size ≤ q) s) (h_Ho_edge : ct_ok PRD l D kA GG y_Ho_edge z_Ho_edge e_Ho_edge) (h_Mo_edge : ct_ok PRD l D kA GG y_Mo_edge z_Mo_edge e_Mo_edge) {h1 h2 rd i n : Nat} (hi : i + 6 ≤ L) {ta : Nat → Option Nat} {ws : va_W} {H : Heap} {locs : List Loc} {ls : Array Slot} {cells slots : Nat} (hP : va_P D classes ws H) (hD : va_D (fun q : Nat => s.heap.size ≤ q) ws) (hS : va_S (fun q : Nat => s.heap.size ≤ q) s.heap H locs) (hI : LI kA h1 h2 rd i n ta ws) (hl : lv_has ls 4 [(3, .int (nI i)), (2, .ref h2), (1, .ref h1), (0, .ref b)]) (hc : cells + 0 ≤ 60000) (hs : slots + 0 ≤ 8922250) (kk : ∀ (k : Nat) (ta : Nat → Option Nat) (w2 : va_W) (H : Heap) (locs : List Loc), va_P D classes w2 H → va_D (fun q : Nat => s.heap.size ≤ q) w2 → va_S (fun q : Nat => s.heap.size ≤ q) s.heap H locs → LI kA h1 h2 rd (i + 6) k ta w2 → (TN ws h1 17 → TN w2 h1 17) → (TN ws h1 20 → TN w2 h1 20) → W p l e room_1 s m #[Value.ref b] below meth c H locs (cells + 0) (slots + 0) (lw_Z below #[Value.ref b] s) (F0 m 1294 ls [])) : W p l e room_1 s m #[Value.ref b] below meth c H locs cells slots (lw_Z below #[Value.ref b] s) (F0 m 355 ls []) := by
  obtain ⟨hx, hb, hr, hml, hown, hts0, hX, hbl, hlocks, hgv⟩ := id C0
  have hts : ∀ w ∈ lw_g, w.before #[Value.ref b] s = true := fun w h => hts0 w (lw_gt h)
  have X : cx p s m #[Value.ref b] meth c b_law_law 4 ret "DrawingHouseLaw" meth.name := ⟨hx, hb, hml, hown, hts, hr, hlocks, rfl⟩
  obtain ⟨A, hAe⟩ : ∃ A : Nat → Prop, A = fun q : Nat => s.heap.size ≤ q := ⟨_, rfl⟩
  have hA : ∀ q : Nat, s.heap.size ≤ q → A q := fun q h => by rw [hAe]; exact h
  have hbA : ¬ A b := by rw [hAe]; exact Nat.not_le.mpr hbl
  rw [← hAe] at hD hS hN kk
  obtain ⟨hth, ⟨a1, a2, a3, hn⟩, hrd, F_HI, F_HL, F_HY, F_RO, F_PT, F_LE, F_TA, F_TE⟩ := hI
  obtain ⟨k, hk, hkk⟩ : ∃ k : Nat, k ≤ 2000 ∧ k = n := ⟨n, hn, rfl⟩
  have henv : sy_env ta L_env (L_vs h1 h2 rd i n k) := L_envs a1 a2 a3 (by omega) hn hk
  refine lv_aload_n (pc := 355) hx hb d_law_law_355 rfl (lv_at hl 2 rfl) ?_
  refine lv_aload_n (pc := 356) hx hb d_law_law_356 rfl (lv_at hl 3 rfl) ?_
  refine lv_iload_n (pc := 357) hx hb d_law_law_357 rfl (lv_at hl 0 rfl) ?_
  refine lv_iconst (pc := 358) (v := 1) hx hb d_law_law_358 (by decide) ?_
  refine k_add (pc := 359) (x := i) (y := 1) hx hb d_law_law_359 ?_
  refine sc_ld (pc := 360) (j := i + 1) hx hb hX hbl hbA hS (by omega) (by omega) d_law_law_360 ?_
  refine lv_aload_n (pc := 361) hx hb d_law_law_361 rfl (lv_at hl 3 rfl) ?_
  refine lv_iload_n (pc := 362) hx hb d_law_law_362 rfl (lv_at hl 0 rfl) ?_
  refine lv_iconst (pc := 363) (v := 2) hx hb d_law_law_363 (by decide) ?_
  refine k_add (pc := 364) (x := i) (y := 2) hx hb d_law_law_364 ?_
  refine sc_ld (pc := 365) (j := i + 2) hx hb hX hbl hbA hS (by omega) (by omega) d_law_law_365 ?_
  refine lv_aload_n (pc := 366) hx hb d_law_law_366 rfl (lv_at hl 3 rfl) ?_
  refine lv_iload_n (pc := 367) hx hb d_law_law_367 rfl (lv_at hl 0 rfl) ?_
  refine lv_iconst (pc := 368) (v := 3) hx hb d_law_law_368 (by decide) ?_
  refine k_add (pc := 369) (x := i) (y := 3) hx hb d_law_law_369 ?_
  refine sc_ld (pc := 370) (j := i + 3) hx hb hX hbl hbA hS (by omega) (by omega) d_law_law_370 ?_
  refine W.eq (g2 := F0 m 371 ls (List.reverse [.ref h1, .int (xs (i + 1)), .int (xs (i + 2)), .int (xs (i + 3))] ++ [])) rfl ?_
  refine (cl_virtual (y := y_Ho_edge) (ci := 12) rfl rfl ⟨_, _, rfl⟩ (by decide +kernel) h_Ho_edge wm_926 wm_1 wm_923 wm_924 wm_925 ⟨by decide, by decide, by decide +kernel⟩ (by decide) : cl_ok PRD l D kA GG "DrawingHouseLaw" _ _ e_Ho_edge) p e room_1 s m #[Value.ref b] below meth c H locs cells slots (lw_Z below #[Value.ref b] s) b_law_law 371 4 ret meth.name A ws ta ls [.ref h1, .int (xs (i + 1)), .int (xs (i + 2)), .int (xs (i + 3))] [] [] [] X hK hN hA hP hD hS hth (ag_c (tv_rf a1) (ag_c tv_top (ag_c tv_top (ag_c tv_top (ag_n))))) (gv_n) (ag_n) (show ∀ f ∈ ([(20, [0], [62, 0])] : List fc_T), fc_1 PRD f ws ([.ref h1, .int (xs (i + 1)), .int (xs (i + 2)), .int (xs (i + 3))] ++ [] ++ []) from (List.forall_mem_cons.mpr ⟨⟨nf_in (N := 4) rfl rfl, F_HI⟩, (fun _ h => by cases h)⟩)) (by first | decide | exact Nat.le_of_ble_eq_true rfl) (by first | decide | exact Nat.le_of_ble_eq_true rfl) (by first | decide | exact Nat.le_of_ble_eq_true rfl) (show cells + 0 ≤ 60000 by omega) (show slots + 0 ≤ 8922250 by omega) hl.1 d_law_law_371 (fun ta1 ws1 H1 locs1 r hle1 hth1 hP1 hD1 hS1 hrt hpo _ hkp => ?_)
  obtain ⟨x1, rfl⟩ := rt_i rfl hrt
  have hpost : ∀ f ∈ ([(20, [0], [62, 0])] : List fc_T), fc_1 PRD f ws1 ([.ref h1, .int (xs (i + 1)), .int (xs (i + 2)), .int (xs (i + 3))] ++ [] ++ [] ++ [.int x1]) := hpo.1
  have hkeep := L_keep (M := [(20, [0], [62, 0]), (20, [0], [62, 1000000]), (20, [0, 2], [62, 2000000]), (20, [1], [60, 0, 3, 198, 2, 3, 4]), (20, [1], [60, 0, 3, 367, 110, 111, 112]), (20, [3, 4], [50, 1, 0, 1, 1, 3, 2, 0, 1, 1, 1]), (20, [1, 4], [50, 1, 0, 0, 1, 3, 2, 0, 0, 1, 1]), (20, [1, 3, 4], [60, 0, 2, 1109, 1, 1000])]) (S := [(20, [0], [62, 1000000]), (20, [0, 2], [62, 2000000]), (20, [1], [60, 0, 3, 198, 2, 3, 4]), (20, [1], [60, 0, 3, 367, 110, 111, 112]), (20, [3, 4], [50, 1, 0, 1, 1, 3, 2, 0, 1, 1, 1]), (20, [1, 4], [50, 1, 0, 0, 1, 3, 2, 0, 0, 1, 1]), (20, [1, 3, 4], [60, 0, 2, 1109, 1, 1000])]) hth henv hD hle1 hth1 hD1 hkp (by decide +kernel) (List.forall_mem_cons.mpr ⟨F_HI, (List.forall_mem_cons.mpr ⟨F_HL, (List.forall_mem_cons.mpr ⟨F_HY, (List.forall_mem_cons.mpr ⟨F_RO, (List.forall_mem_cons.mpr ⟨F_PT, (List.forall_mem_cons.mpr ⟨F_LE, (List.forall_mem_cons.mpr ⟨F_TA, (List.forall_mem_cons.mpr ⟨F_TE, (fun _ h => by cases h)⟩)⟩)⟩)⟩)⟩)⟩)⟩)⟩)
  have G_HL : fc_m PRD 20 [.ref h1] [62, 1000000] ws1 := hkeep _ List.mem_cons_self
  have G_HY : fc_m PRD 20 [.ref h1, .int (nI i)] [62, 2000000] ws1 := hkeep _ (List.mem_cons_of_mem _ List.mem_cons_self)
  have G_RO : fc_m PRD 20 [.ref h2] [60, 0, 3, 198, 2, 3, 4] ws1 := hkeep _ (List.mem_cons_of_mem _ (List.mem_cons_of_mem _ List.mem_cons_self))
  have G_PT : fc_m PRD 20 [.ref h2] [60, 0, 3, 367, 110, 111, 112] ws1 := hkeep _ (List.mem_cons_of_mem _ (List.mem_cons_of_mem _ (List.mem_cons_of_mem _ List.mem_cons_self)))
  have G_LE : fc_m PRD 20 [.ref rd, .int (nI n)] [50, 1, 0, 1, 1, 3, 2, 0, 1, 1, 1] ws1 := hkeep _ (List.mem_cons_of_mem _ (List.mem_cons_of_mem _ (List.mem_cons_of_mem _ (List.mem_cons_of_mem _ List.mem_cons_self))))
  have G_TA : fc_m PRD 20 [.ref h2, .int (nI n)] [50, 1, 0, 0, 1, 3, 2, 0, 0, 1, 1] ws1 := hkeep _ (List.mem_cons_of_mem _ (List.mem_cons_of_mem _ (List.mem_cons_of_mem _ (List.mem_cons_of_mem _ (List.mem_cons_of_mem _ List.mem_cons_self)))))
  have G_TE : fc_m PRD 20 [.ref h2, .ref rd, .int (nI n)] [60, 0, 2, 1109, 1, 1000] ws1 := hkeep _ (List.mem_cons_of_mem _ (List.mem_cons_of_mem _ (List.mem_cons_of_mem _ (List.mem_cons_of_mem _ (List.mem_cons_of_mem _ (List.mem_cons_of_mem _ List.mem_cons_self))))))
  have G_HI : fc_m PRD 20 [.ref h1] [62, 0] ws1 := (hpost _ List.mem_cons_self).2
  have G_HY6 : fc_m PRD 20 [.ref h1, .int (nI (i + 6))] [62, 2000000] ws1 := by have z : HY ws1 (.ref h1) ((nI i).toInt + ((2000000 : Nat) - 2000000 : Int)) := G_HY; show HY ws1 (.ref h1) ((nI (i + 6)).toInt + ((2000000 : Nat) - 2000000 : Int)); rw [nI_toInt (by omega)] at z ⊢; exact hy_le z (by omega)
  have G_LE6 : fc_m PRD 20 [.ref rd, .int (nI k)] [50, 1, 0, 1, 1, 3, 2, 0, 1, 1, 1] ws1 := by rw [hkk]; exact G_LE
  have hrd : L_rd ws1 h1 rd := L_rdk hrd a1 hkp (by decide +kernel)
  have tn17 : TN ws h1 17 → TN ws1 h1 17 := TN_kp a1 hkp (by decide +kernel)
  have tn20 : TN ws h1 20 → TN ws1 h1 20 := TN_kp a1 hkp (by decide +kernel)
  have F_HI := G_HI
  have F_HL := G_HL
  have F_HY6 := G_HY6
  have F_RO := G_RO
  have F_PT := G_PT
  have F_LE6 := G_LE6
  have F_TA := G_TA
  have F_TE := G_TE
  show W p l e room_1 s m #[Value.ref b] below meth c H1 locs1 (cells + 0) (slots + 0) (lw_Z below #[Value.ref b] s) (F0 m 374 ls [.int x1])
  have hS := hS1
  refine lv_pop (pc := 374) hx hb d_law_law_374 rfl ?_
  refine lv_aload_n (pc := 375) hx hb d_law_law_375 rfl (lv_at hl 1 rfl) ?_
  refine lv_aload_n (pc := 376) hx hb d_law_law_376 rfl (lv_at hl 3 rfl) ?_
  refine lv_iload_n (pc := 377) hx hb d_law_law_377 rfl (lv_at hl 0 rfl) ?_
  refine lv_iconst (pc := 378) (v := 1) hx hb d_law_law_378 (by decide) ?_
  refine k_add (pc := 379) (x := i) (y := 1) hx hb d_law_law_379 ?_
  refine sc_ld (pc := 380) (j := i + 1) hx hb hX hbl hbA hS (by omega) (by omega) d_law_law_380 ?_
  refine lv_aload_n (pc := 381) hx hb d_law_law_381 rfl (lv_at hl 3 rfl) ?_
  refine lv_iload_n (pc := 382) hx hb d_law_law_382 rfl (lv_at hl 0 rfl) ?_
  refine lv_iconst (pc := 383) (v := 2) hx hb d_law_law_383 (by decide) ?_
  refine k_add (pc := 384) (x := i) (y := 2) hx hb d_law_law_384 ?_
  refine sc_ld (pc := 385) (j := i + 2) hx hb hX hbl hbA hS (by omega) (by omega) d_law_law_385 ?_
  refine lv_aload_n (pc := 386) hx hb d_law_law_386 rfl (lv_at hl 3 rfl) ?_
  refine lv_iload_n (pc := 387) hx hb d_law_law_387 rfl (lv_at hl 0 rfl) ?_
  refine lv_iconst (pc := 388) (v := 3) hx hb d_law_law_388 (by decide) ?_
  refine k_add (pc := 389) (x := i) (y := 3) hx hb d_law_law_389 ?_
  refine sc_ld (pc := 390) (j := i + 3) hx hb hX hbl hbA hS (by omega) (by omega) d_law_law_390 ?_
  refine W.eq (g2 := F0 m 391 ls (List.reverse [.ref h2, .int (xs (i + 1)), .int (xs (i + 2)), .int (xs (i + 3))] ++ [])) rfl ?_
  refine (cl_virtual (y := y_Mo_edge) (ci := 13) rfl rfl ⟨_, _, rfl⟩ (by decide +kernel) h_Mo_edge wm_3335 wm_9 wm_3332 wm_3333 wm_3334 ⟨by decide, by decide, by decide +kernel⟩ (by decide) : cl_ok PRD l D kA GG "DrawingHouseLaw" _ _ e_Mo_edge) p e room_1 s m #[Value.ref b] below meth c H1 locs1 (cells + 0) (slots + 0) (lw_Z below #[Value.ref b] s) b_law_law 391 4 ret meth.name A ws1 ta1 ls [.ref h2, .int (xs (i + 1)), .int (xs (i + 2)), .int (xs (i + 3))] [] [] [] X hK hN hA hP1 hD1 hS1 hth1 (ag_c (tv_rf (hle1 _ _ a2)) (ag_c tv_top (ag_c tv_top (ag_c tv_top (ag_n))))) (gv_n) (ag_n) (show ∀ f ∈ ([(20, [0], [60, 0, 3, 198, 2, 3, 4])] : List fc_T), fc_1 PRD f ws1 ([.ref h2, .int (xs (i + 1)), .int (xs (i + 2)), .int (xs (i + 3))] ++ [] ++ []) from (List.forall_mem_cons.mpr ⟨⟨nf_in (N := 4) rfl rfl, F_RO⟩, (fun _ h => by cases h)⟩)) (by first | decide | exact Nat.le_of_ble_eq_true rfl) (by first | decide | exact Nat.le_of_ble_eq_true rfl) (by first | decide | exact Nat.le_of_ble_eq_true rfl) (show (cells + 0) + 0 ≤ 60000 by omega) (show (slots + 0) + 0 ≤ 8922250 by omega) hl.1 d_law_law_391 (fun ta2 ws2 H2 locs2 r hle2 hth2 hP2 hD2 hS2 hrt hpo _ hkp => ?_)
  obtain ⟨x2, rfl⟩ := rt_i rfl hrt
  have hpost : ∀ f ∈ ([] : List fc_T), fc_1 PRD f ws2 ([.ref h2, .int (xs (i + 1)), .int (xs (i + 2)), .int (xs (i + 3))] ++ [] ++ [] ++ [.int x2]) := hpo.1
  have hkeep := L_keep (M := [(20, [0], [62, 0]), (20, [0], [62, 1000000]), (20, [0, 6], [62, 2000000]), (20, [1], [60, 0, 3, 198, 2, 3, 4]), (20, [1], [60, 0, 3, 367, 110, 111, 112]), (20, [3, 5], [50, 1, 0, 1, 1, 3, 2, 0, 1, 1, 1]), (20, [1, 4], [50, 1, 0, 0, 1, 3, 2, 0, 0, 1, 1]), (20, [1, 3, 4], [60, 0, 2, 1109, 1, 1000])]) (S := [(20, [0], [62, 0]), (20, [0], [62, 1000000]), (20, [0, 6], [62, 2000000]), (20, [1], [60, 0, 3, 198, 2, 3, 4]), (20, [1], [60, 0, 3, 367, 110, 111, 112]), (20, [3, 5], [50, 1, 0, 1, 1, 3, 2, 0, 1, 1, 1]), (20, [1, 4], [50, 1, 0, 0, 1, 3, 2, 0, 0, 1, 1]), (20, [1, 3, 4], [60, 0, 2, 1109, 1, 1000])]) hth1 (sy_env_up hle1 henv) hD1 hle2 hth2 hD2 hkp (by decide +kernel) (List.forall_mem_cons.mpr ⟨F_HI, (List.forall_mem_cons.mpr ⟨F_HL, (List.forall_mem_cons.mpr ⟨F_HY6, (List.forall_mem_cons.mpr ⟨F_RO, (List.forall_mem_cons.mpr ⟨F_PT, (List.forall_mem_cons.mpr ⟨F_LE6, (List.forall_mem_cons.mpr ⟨F_TA, (List.forall_mem_cons.mpr ⟨F_TE, (fun _ h => by cases h)⟩)⟩)⟩)⟩)⟩)⟩)⟩)⟩)
  have G_HI : fc_m PRD 20 [.ref h1] [62, 0] ws2 := hkeep _ List.mem_cons_self
  have G_HL : fc_m PRD 20 [.ref h1] [62, 1000000] ws2 := hkeep _ (List.mem_cons_of_mem _ List.mem_cons_self)
  have G_HY6 : fc_m PRD 20 [.ref h1, .int (nI (i + 6))] [62, 2000000] ws2 := hkeep _ (List.mem_cons_of_mem _ (List.mem_cons_of_mem _ List.mem_cons_self))
  have G_RO : fc_m PRD 20 [.ref h2] [60, 0, 3, 198, 2, 3, 4] ws2 := hkeep _ (List.mem_cons_of_mem _ (List.mem_cons_of_mem _ (List.mem_cons_of_mem _ List.mem_cons_self)))
  have G_PT : fc_m PRD 20 [.ref h2] [60, 0, 3, 367, 110, 111, 112] ws2 := hkeep _ (List.mem_cons_of_mem _ (List.mem_cons_of_mem _ (List.mem_cons_of_mem _ (List.mem_cons_of_mem _ List.mem_cons_self))))
  have G_LE6 : fc_m PRD 20 [.ref rd, .int (nI k)] [50, 1, 0, 1, 1, 3, 2, 0, 1, 1, 1] ws2 := hkeep _ (List.mem_cons_of_mem _ (List.mem_cons_of_mem _ (List.mem_cons_of_mem _ (List.mem_cons_of_mem _ (List.mem_cons_of_mem _ List.mem_cons_self)))))
  have G_TA : fc_m PRD 20 [.ref h2, .int (nI n)] [50, 1, 0, 0, 1, 3, 2, 0, 0, 1, 1] ws2 := hkeep _ (List.mem_cons_of_mem _ (List.mem_cons_of_mem _ (List.mem_cons_of_mem _ (List.mem_cons_of_mem _ (List.mem_cons_of_mem _ (List.mem_cons_of_mem _ List.mem_cons_self))))))
  have G_TE : fc_m PRD 20 [.ref h2, .ref rd, .int (nI n)] [60, 0, 2, 1109, 1, 1000] ws2 := hkeep _ (List.mem_cons_of_mem _ (List.mem_cons_of_mem _ (List.mem_cons_of_mem _ (List.mem_cons_of_mem _ (List.mem_cons_of_mem _ (List.mem_cons_of_mem _ (List.mem_cons_of_mem _ List.mem_cons_self)))))))
  have G_TA6 : fc_m PRD 20 [.ref h2, .int (nI k)] [50, 1, 0, 0, 1, 3, 2, 0, 0, 1, 1] ws2 := by rw [hkk]; exact G_TA
  have G_TE6 : fc_m PRD 20 [.ref h2, .ref rd, .int (nI k)] [60, 0, 2, 1109, 1, 1000] ws2 := by have z : TEQ (w_ei ws2 (w_ar ws2 (.ref h2) 1)) (w_ei ws2 (w_ar ws2 (.ref rd) 0)) (nI n).toInt := G_TE; have z2 : TEQ (w_ei ws2 (w_ar ws2 (.ref h2) 1)) (w_ei ws2 (w_ar ws2 (.ref rd) 0)) (nI k).toInt := L_tek z (show k ≤ n by omega) hn; exact z2
  have hrd : L_rd ws2 h1 rd := L_rdk hrd (hle1 _ _ a1) hkp (by decide +kernel)
  have tm17 : TN ws1 h1 17 → TN ws2 h1 17 := TN_kp (hle1 _ _ a1) hkp (by decide +kernel)
  have tm20 : TN ws1 h1 20 → TN ws2 h1 20 := TN_kp (hle1 _ _ a1) hkp (by decide +kernel)
  have F_HI := G_HI
  have F_HL := G_HL
  have F_HY6 := G_HY6
  have F_RO := G_RO
  have F_PT := G_PT
  have F_LE6 := G_LE6
  have F_TA6 := G_TA6
  have F_TE := G_TE
  have F_TE6 := G_TE6
  show W p l e room_1 s m #[Value.ref b] below meth c H2 locs2 (cells + 0 + 0) (slots + 0 + 0) (lw_Z below #[Value.ref b] s) (F0 m 394 ls [.int x2])
  have hS := hS2
  refine lv_pop (pc := 394) hx hb d_law_law_394 rfl ?_
  refine lv_goto (pc := 395) (tgt := 1294) hx hb d_law_law_395 (by decide) ?_
  have q1 : cells + 0 + 0 = cells + 0 := by omega
  have q2 : slots + 0 + 0 = slots + 0 := by omega
  rw [q1, q2]
  exact kk k ta2 ws2 H2 locs2 hP2 hD2 hS2 ⟨hth2, ⟨hle2 _ _ (hle1 _ _ a1), hle2 _ _ (hle1 _ _ a2), hle2 _ _ (hle1 _ _ a3), hk⟩, hrd, F_HI, F_HL, F_HY6, F_RO, F_PT, F_LE6, F_TA6, F_TE6⟩ (fun q => tm17 (tn17 q)) (fun q => tm20 (tn20 q))
set_option maxRecDepth 100000 in
set_option maxHeartbeats 4000000 in
/-- group -/
theorem lc_group {p : Program} {e : Env} {s : State} {m : MethodId} {below : List Frame} {meth : Method} {c : Code} {l : Launch} {b L : Nat} {xs : Nat → Int32} (C0 : lw_At p s m meth c b L xs) (hL : L ≤ 3072) {D : va_G} {kA : Nat → ClassId} (hK : va_K D classes (TY kA) s) (hN : nsr kA (fun q : Nat => s.heap.size ≤ q) s) (h_Ho_group : ct_ok PRD l D kA GG y_Ho_group z_Ho_group e_Ho_group) (h_Mo_group : ct_ok PRD l D kA GG y_Mo_group z_Mo_group e_Mo_group) {h1 h2 rd i n : Nat} (hi : i + 6 ≤ L) {ta : Nat → Option Nat} {ws : va_W} {H : Heap} {locs : List Loc} {ls : Array Slot} {cells slots : Nat} (hP : va_P D classes ws H) (hD : va_D (fun q : Nat => s.heap.size ≤ q) ws) (hS : va_S (fun q : Nat => s.heap.size ≤ q) s.heap H locs) (hI : LI kA h1 h2 rd i n ta ws) (hl : lv_has ls 4 [(3, .int (nI i)), (2, .ref h2), (1, .ref h1), (0, .ref b)]) (hc : cells + 0 ≤ 60000) (hs : slots + 0 ≤ 8922250) (kk : ∀ (k : Nat) (ta : Nat → Option Nat) (w2 : va_W) (H : Heap) (locs : List Loc), va_P D classes w2 H → va_D (fun q : Nat => s.heap.size ≤ q) w2 → va_S (fun q : Nat => s.heap.size ≤ q) s.heap H locs → LI kA h1 h2 rd (i + 6) k ta w2 → (TN ws h1 17 → TN w2 h1 17) → (TN ws h1 20 → TN w2 h1 20) → W p l e room_1 s m #[Value.ref b] below meth c H locs (cells + 0) (slots + 0) (lw_Z below #[Value.ref b] s) (F0 m 1294 ls [])) : W p l e room_1 s m #[Value.ref b] below meth c H locs cells slots (lw_Z below #[Value.ref b] s) (F0 m 398 ls []) := by
  obtain ⟨hx, hb, hr, hml, hown, hts0, hX, hbl, hlocks, hgv⟩ := id C0
  have hts : ∀ w ∈ lw_g, w.before #[Value.ref b] s = true := fun w h => hts0 w (lw_gt h)
  have X : cx p s m #[Value.ref b] meth c b_law_law 4 ret "DrawingHouseLaw" meth.name := ⟨hx, hb, hml, hown, hts, hr, hlocks, rfl⟩
  obtain ⟨A, hAe⟩ : ∃ A : Nat → Prop, A = fun q : Nat => s.heap.size ≤ q := ⟨_, rfl⟩
  have hA : ∀ q : Nat, s.heap.size ≤ q → A q := fun q h => by rw [hAe]; exact h
  have hbA : ¬ A b := by rw [hAe]; exact Nat.not_le.mpr hbl
  rw [← hAe] at hD hS hN kk
  obtain ⟨hth, ⟨a1, a2, a3, hn⟩, hrd, F_HI, F_HL, F_HY, F_RO, F_PT, F_LE, F_TA, F_TE⟩ := hI
  obtain ⟨k, hk, hkk⟩ : ∃ k : Nat, k ≤ 2000 ∧ k = n := ⟨n, hn, rfl⟩
  have henv : sy_env ta L_env (L_vs h1 h2 rd i n k) := L_envs a1 a2 a3 (by omega) hn hk
  refine lv_aload_n (pc := 398) hx hb d_law_law_398 rfl (lv_at hl 2 rfl) ?_
  refine lv_aload_n (pc := 399) hx hb d_law_law_399 rfl (lv_at hl 3 rfl) ?_
  refine lv_iload_n (pc := 400) hx hb d_law_law_400 rfl (lv_at hl 0 rfl) ?_
  refine lv_iconst (pc := 401) (v := 1) hx hb d_law_law_401 (by decide) ?_
  refine k_add (pc := 402) (x := i) (y := 1) hx hb d_law_law_402 ?_
  refine sc_ld (pc := 403) (j := i + 1) hx hb hX hbl hbA hS (by omega) (by omega) d_law_law_403 ?_
  refine lv_aload_n (pc := 404) hx hb d_law_law_404 rfl (lv_at hl 3 rfl) ?_
  refine lv_iload_n (pc := 405) hx hb d_law_law_405 rfl (lv_at hl 0 rfl) ?_
  refine lv_iconst (pc := 406) (v := 2) hx hb d_law_law_406 (by decide) ?_
  refine k_add (pc := 407) (x := i) (y := 2) hx hb d_law_law_407 ?_
  refine sc_ld (pc := 408) (j := i + 2) hx hb hX hbl hbA hS (by omega) (by omega) d_law_law_408 ?_
  refine lv_aload_n (pc := 409) hx hb d_law_law_409 rfl (lv_at hl 3 rfl) ?_
  refine lv_iload_n (pc := 410) hx hb d_law_law_410 rfl (lv_at hl 0 rfl) ?_
  refine lv_iconst (pc := 411) (v := 3) hx hb d_law_law_411 (by decide) ?_
  refine k_add (pc := 412) (x := i) (y := 3) hx hb d_law_law_412 ?_
  refine sc_ld (pc := 413) (j := i + 3) hx hb hX hbl hbA hS (by omega) (by omega) d_law_law_413 ?_
  refine W.eq (g2 := F0 m 414 ls (List.reverse [.ref h1, .int (xs (i + 1)), .int (xs (i + 2)), .int (xs (i + 3))] ++ [])) rfl ?_
  refine (cl_virtual (y := y_Ho_group) (ci := 12) rfl rfl ⟨_, _, rfl⟩ (by decide +kernel) h_Ho_group wm_938 wm_1 wm_935 wm_936 wm_937 ⟨by decide, by decide, by decide +kernel⟩ (by decide) : cl_ok PRD l D kA GG "DrawingHouseLaw" _ _ e_Ho_group) p e room_1 s m #[Value.ref b] below meth c H locs cells slots (lw_Z below #[Value.ref b] s) b_law_law 414 4 ret meth.name A ws ta ls [.ref h1, .int (xs (i + 1)), .int (xs (i + 2)), .int (xs (i + 3))] [] [] [] X hK hN hA hP hD hS hth (ag_c (tv_rf a1) (ag_c tv_top (ag_c tv_top (ag_c tv_top (ag_n))))) (gv_n) (ag_n) (fun _ h => by cases h) (by first | decide | exact Nat.le_of_ble_eq_true rfl) (by first | decide | exact Nat.le_of_ble_eq_true rfl) (by first | decide | exact Nat.le_of_ble_eq_true rfl) (show cells + 0 ≤ 60000 by omega) (show slots + 0 ≤ 8922250 by omega) hl.1 d_law_law_414 (fun ta1 ws1 H1 locs1 r hle1 hth1 hP1 hD1 hS1 hrt hpo _ hkp => ?_)
  obtain ⟨x1, rfl⟩ := rt_i rfl hrt
  have hpost : ∀ f ∈ ([] : List fc_T), fc_1 PRD f ws1 ([.ref h1, .int (xs (i + 1)), .int (xs (i + 2)), .int (xs (i + 3))] ++ [] ++ [] ++ [.int x1]) := hpo.1
  have hkeep := L_keep (M := [(20, [0], [62, 0]), (20, [0], [62, 1000000]), (20, [0, 2], [62, 2000000]), (20, [1], [60, 0, 3, 198, 2, 3, 4]), (20, [1], [60, 0, 3, 367, 110, 111, 112]), (20, [3, 4], [50, 1, 0, 1, 1, 3, 2, 0, 1, 1, 1]), (20, [1, 4], [50, 1, 0, 0, 1, 3, 2, 0, 0, 1, 1]), (20, [1, 3, 4], [60, 0, 2, 1109, 1, 1000])]) (S := [(20, [0], [62, 0]), (20, [0], [62, 1000000]), (20, [0, 2], [62, 2000000]), (20, [1], [60, 0, 3, 198, 2, 3, 4]), (20, [1], [60, 0, 3, 367, 110, 111, 112]), (20, [3, 4], [50, 1, 0, 1, 1, 3, 2, 0, 1, 1, 1]), (20, [1, 4], [50, 1, 0, 0, 1, 3, 2, 0, 0, 1, 1]), (20, [1, 3, 4], [60, 0, 2, 1109, 1, 1000])]) hth henv hD hle1 hth1 hD1 hkp (by decide +kernel) (List.forall_mem_cons.mpr ⟨F_HI, (List.forall_mem_cons.mpr ⟨F_HL, (List.forall_mem_cons.mpr ⟨F_HY, (List.forall_mem_cons.mpr ⟨F_RO, (List.forall_mem_cons.mpr ⟨F_PT, (List.forall_mem_cons.mpr ⟨F_LE, (List.forall_mem_cons.mpr ⟨F_TA, (List.forall_mem_cons.mpr ⟨F_TE, (fun _ h => by cases h)⟩)⟩)⟩)⟩)⟩)⟩)⟩)⟩)
  have G_HI : fc_m PRD 20 [.ref h1] [62, 0] ws1 := hkeep _ List.mem_cons_self
  have G_HL : fc_m PRD 20 [.ref h1] [62, 1000000] ws1 := hkeep _ (List.mem_cons_of_mem _ List.mem_cons_self)
  have G_HY : fc_m PRD 20 [.ref h1, .int (nI i)] [62, 2000000] ws1 := hkeep _ (List.mem_cons_of_mem _ (List.mem_cons_of_mem _ List.mem_cons_self))
  have G_RO : fc_m PRD 20 [.ref h2] [60, 0, 3, 198, 2, 3, 4] ws1 := hkeep _ (List.mem_cons_of_mem _ (List.mem_cons_of_mem _ (List.mem_cons_of_mem _ List.mem_cons_self)))
  have G_PT : fc_m PRD 20 [.ref h2] [60, 0, 3, 367, 110, 111, 112] ws1 := hkeep _ (List.mem_cons_of_mem _ (List.mem_cons_of_mem _ (List.mem_cons_of_mem _ (List.mem_cons_of_mem _ List.mem_cons_self))))
  have G_LE : fc_m PRD 20 [.ref rd, .int (nI n)] [50, 1, 0, 1, 1, 3, 2, 0, 1, 1, 1] ws1 := hkeep _ (List.mem_cons_of_mem _ (List.mem_cons_of_mem _ (List.mem_cons_of_mem _ (List.mem_cons_of_mem _ (List.mem_cons_of_mem _ List.mem_cons_self)))))
  have G_TA : fc_m PRD 20 [.ref h2, .int (nI n)] [50, 1, 0, 0, 1, 3, 2, 0, 0, 1, 1] ws1 := hkeep _ (List.mem_cons_of_mem _ (List.mem_cons_of_mem _ (List.mem_cons_of_mem _ (List.mem_cons_of_mem _ (List.mem_cons_of_mem _ (List.mem_cons_of_mem _ List.mem_cons_self))))))
  have G_TE : fc_m PRD 20 [.ref h2, .ref rd, .int (nI n)] [60, 0, 2, 1109, 1, 1000] ws1 := hkeep _ (List.mem_cons_of_mem _ (List.mem_cons_of_mem _ (List.mem_cons_of_mem _ (List.mem_cons_of_mem _ (List.mem_cons_of_mem _ (List.mem_cons_of_mem _ (List.mem_cons_of_mem _ List.mem_cons_self)))))))
  have G_HY6 : fc_m PRD 20 [.ref h1, .int (nI (i + 6))] [62, 2000000] ws1 := by have z : HY ws1 (.ref h1) ((nI i).toInt + ((2000000 : Nat) - 2000000 : Int)) := G_HY; show HY ws1 (.ref h1) ((nI (i + 6)).toInt + ((2000000 : Nat) - 2000000 : Int)); rw [nI_toInt (by omega)] at z ⊢; exact hy_le z (by omega)
  have G_LE6 : fc_m PRD 20 [.ref rd, .int (nI k)] [50, 1, 0, 1, 1, 3, 2, 0, 1, 1, 1] ws1 := by rw [hkk]; exact G_LE
  have hrd : L_rd ws1 h1 rd := L_rdk hrd a1 hkp (by decide +kernel)
  have tn17 : TN ws h1 17 → TN ws1 h1 17 := TN_kp a1 hkp (by decide +kernel)
  have tn20 : TN ws h1 20 → TN ws1 h1 20 := TN_kp a1 hkp (by decide +kernel)
  have F_HI := G_HI
  have F_HL := G_HL
  have F_HY6 := G_HY6
  have F_RO := G_RO
  have F_PT := G_PT
  have F_LE6 := G_LE6
  have F_TA := G_TA
  have F_TE := G_TE
  show W p l e room_1 s m #[Value.ref b] below meth c H1 locs1 (cells + 0) (slots + 0) (lw_Z below #[Value.ref b] s) (F0 m 417 ls [.int x1])
  have hS := hS1
  refine lv_pop (pc := 417) hx hb d_law_law_417 rfl ?_
  refine lv_aload_n (pc := 418) hx hb d_law_law_418 rfl (lv_at hl 1 rfl) ?_
  refine lv_aload_n (pc := 419) hx hb d_law_law_419 rfl (lv_at hl 3 rfl) ?_
  refine lv_iload_n (pc := 420) hx hb d_law_law_420 rfl (lv_at hl 0 rfl) ?_
  refine lv_iconst (pc := 421) (v := 1) hx hb d_law_law_421 (by decide) ?_
  refine k_add (pc := 422) (x := i) (y := 1) hx hb d_law_law_422 ?_
  refine sc_ld (pc := 423) (j := i + 1) hx hb hX hbl hbA hS (by omega) (by omega) d_law_law_423 ?_
  refine lv_aload_n (pc := 424) hx hb d_law_law_424 rfl (lv_at hl 3 rfl) ?_
  refine lv_iload_n (pc := 425) hx hb d_law_law_425 rfl (lv_at hl 0 rfl) ?_
  refine lv_iconst (pc := 426) (v := 2) hx hb d_law_law_426 (by decide) ?_
  refine k_add (pc := 427) (x := i) (y := 2) hx hb d_law_law_427 ?_
  refine sc_ld (pc := 428) (j := i + 2) hx hb hX hbl hbA hS (by omega) (by omega) d_law_law_428 ?_
  refine lv_aload_n (pc := 429) hx hb d_law_law_429 rfl (lv_at hl 3 rfl) ?_
  refine lv_iload_n (pc := 430) hx hb d_law_law_430 rfl (lv_at hl 0 rfl) ?_
  refine lv_iconst (pc := 431) (v := 3) hx hb d_law_law_431 (by decide) ?_
  refine k_add (pc := 432) (x := i) (y := 3) hx hb d_law_law_432 ?_
  refine sc_ld (pc := 433) (j := i + 3) hx hb hX hbl hbA hS (by omega) (by omega) d_law_law_433 ?_
  refine W.eq (g2 := F0 m 434 ls (List.reverse [.ref h2, .int (xs (i + 1)), .int (xs (i + 2)), .int (xs (i + 3))] ++ [])) rfl ?_
  refine (cl_virtual (y := y_Mo_group) (ci := 13) rfl rfl ⟨_, _, rfl⟩ (by decide +kernel) h_Mo_group wm_3347 wm_9 wm_3344 wm_3345 wm_3346 ⟨by decide, by decide, by decide +kernel⟩ (by decide) : cl_ok PRD l D kA GG "DrawingHouseLaw" _ _ e_Mo_group) p e room_1 s m #[Value.ref b] below meth c H1 locs1 (cells + 0) (slots + 0) (lw_Z below #[Value.ref b] s) b_law_law 434 4 ret meth.name A ws1 ta1 ls [.ref h2, .int (xs (i + 1)), .int (xs (i + 2)), .int (xs (i + 3))] [] [] [] X hK hN hA hP1 hD1 hS1 hth1 (ag_c (tv_rf (hle1 _ _ a2)) (ag_c tv_top (ag_c tv_top (ag_c tv_top (ag_n))))) (gv_n) (ag_n) (fun _ h => by cases h) (by first | decide | exact Nat.le_of_ble_eq_true rfl) (by first | decide | exact Nat.le_of_ble_eq_true rfl) (by first | decide | exact Nat.le_of_ble_eq_true rfl) (show (cells + 0) + 0 ≤ 60000 by omega) (show (slots + 0) + 0 ≤ 8922250 by omega) hl.1 d_law_law_434 (fun ta2 ws2 H2 locs2 r hle2 hth2 hP2 hD2 hS2 hrt hpo _ hkp => ?_)
  obtain ⟨x2, rfl⟩ := rt_i rfl hrt
  have hpost : ∀ f ∈ ([] : List fc_T), fc_1 PRD f ws2 ([.ref h2, .int (xs (i + 1)), .int (xs (i + 2)), .int (xs (i + 3))] ++ [] ++ [] ++ [.int x2]) := hpo.1
  have hkeep := L_keep (M := [(20, [0], [62, 0]), (20, [0], [62, 1000000]), (20, [0, 6], [62, 2000000]), (20, [1], [60, 0, 3, 198, 2, 3, 4]), (20, [1], [60, 0, 3, 367, 110, 111, 112]), (20, [3, 5], [50, 1, 0, 1, 1, 3, 2, 0, 1, 1, 1]), (20, [1, 4], [50, 1, 0, 0, 1, 3, 2, 0, 0, 1, 1]), (20, [1, 3, 4], [60, 0, 2, 1109, 1, 1000])]) (S := [(20, [0], [62, 0]), (20, [0], [62, 1000000]), (20, [0, 6], [62, 2000000]), (20, [1], [60, 0, 3, 198, 2, 3, 4]), (20, [1], [60, 0, 3, 367, 110, 111, 112]), (20, [3, 5], [50, 1, 0, 1, 1, 3, 2, 0, 1, 1, 1]), (20, [1, 4], [50, 1, 0, 0, 1, 3, 2, 0, 0, 1, 1]), (20, [1, 3, 4], [60, 0, 2, 1109, 1, 1000])]) hth1 (sy_env_up hle1 henv) hD1 hle2 hth2 hD2 hkp (by decide +kernel) (List.forall_mem_cons.mpr ⟨F_HI, (List.forall_mem_cons.mpr ⟨F_HL, (List.forall_mem_cons.mpr ⟨F_HY6, (List.forall_mem_cons.mpr ⟨F_RO, (List.forall_mem_cons.mpr ⟨F_PT, (List.forall_mem_cons.mpr ⟨F_LE6, (List.forall_mem_cons.mpr ⟨F_TA, (List.forall_mem_cons.mpr ⟨F_TE, (fun _ h => by cases h)⟩)⟩)⟩)⟩)⟩)⟩)⟩)⟩)
  have G_HI : fc_m PRD 20 [.ref h1] [62, 0] ws2 := hkeep _ List.mem_cons_self
  have G_HL : fc_m PRD 20 [.ref h1] [62, 1000000] ws2 := hkeep _ (List.mem_cons_of_mem _ List.mem_cons_self)
  have G_HY6 : fc_m PRD 20 [.ref h1, .int (nI (i + 6))] [62, 2000000] ws2 := hkeep _ (List.mem_cons_of_mem _ (List.mem_cons_of_mem _ List.mem_cons_self))
  have G_RO : fc_m PRD 20 [.ref h2] [60, 0, 3, 198, 2, 3, 4] ws2 := hkeep _ (List.mem_cons_of_mem _ (List.mem_cons_of_mem _ (List.mem_cons_of_mem _ List.mem_cons_self)))
  have G_PT : fc_m PRD 20 [.ref h2] [60, 0, 3, 367, 110, 111, 112] ws2 := hkeep _ (List.mem_cons_of_mem _ (List.mem_cons_of_mem _ (List.mem_cons_of_mem _ (List.mem_cons_of_mem _ List.mem_cons_self))))
  have G_LE6 : fc_m PRD 20 [.ref rd, .int (nI k)] [50, 1, 0, 1, 1, 3, 2, 0, 1, 1, 1] ws2 := hkeep _ (List.mem_cons_of_mem _ (List.mem_cons_of_mem _ (List.mem_cons_of_mem _ (List.mem_cons_of_mem _ (List.mem_cons_of_mem _ List.mem_cons_self)))))
  have G_TA : fc_m PRD 20 [.ref h2, .int (nI n)] [50, 1, 0, 0, 1, 3, 2, 0, 0, 1, 1] ws2 := hkeep _ (List.mem_cons_of_mem _ (List.mem_cons_of_mem _ (List.mem_cons_of_mem _ (List.mem_cons_of_mem _ (List.mem_cons_of_mem _ (List.mem_cons_of_mem _ List.mem_cons_self))))))
  have G_TE : fc_m PRD 20 [.ref h2, .ref rd, .int (nI n)] [60, 0, 2, 1109, 1, 1000] ws2 := hkeep _ (List.mem_cons_of_mem _ (List.mem_cons_of_mem _ (List.mem_cons_of_mem _ (List.mem_cons_of_mem _ (List.mem_cons_of_mem _ (List.mem_cons_of_mem _ (List.mem_cons_of_mem _ List.mem_cons_self)))))))
  have G_TA6 : fc_m PRD 20 [.ref h2, .int (nI k)] [50, 1, 0, 0, 1, 3, 2, 0, 0, 1, 1] ws2 := by rw [hkk]; exact G_TA
  have G_TE6 : fc_m PRD 20 [.ref h2, .ref rd, .int (nI k)] [60, 0, 2, 1109, 1, 1000] ws2 := by have z : TEQ (w_ei ws2 (w_ar ws2 (.ref h2) 1)) (w_ei ws2 (w_ar ws2 (.ref rd) 0)) (nI n).toInt := G_TE; have z2 : TEQ (w_ei ws2 (w_ar ws2 (.ref h2) 1)) (w_ei ws2 (w_ar ws2 (.ref rd) 0)) (nI k).toInt := L_tek z (show k ≤ n by omega) hn; exact z2
  have hrd : L_rd ws2 h1 rd := L_rdk hrd (hle1 _ _ a1) hkp (by decide +kernel)
  have tm17 : TN ws1 h1 17 → TN ws2 h1 17 := TN_kp (hle1 _ _ a1) hkp (by decide +kernel)
  have tm20 : TN ws1 h1 20 → TN ws2 h1 20 := TN_kp (hle1 _ _ a1) hkp (by decide +kernel)
  have F_HI := G_HI
  have F_HL := G_HL
  have F_HY6 := G_HY6
  have F_RO := G_RO
  have F_PT := G_PT
  have F_LE6 := G_LE6
  have F_TA6 := G_TA6
  have F_TE := G_TE
  have F_TE6 := G_TE6
  show W p l e room_1 s m #[Value.ref b] below meth c H2 locs2 (cells + 0 + 0) (slots + 0 + 0) (lw_Z below #[Value.ref b] s) (F0 m 437 ls [.int x2])
  have hS := hS2
  refine lv_pop (pc := 437) hx hb d_law_law_437 rfl ?_
  refine lv_goto (pc := 438) (tgt := 1294) hx hb d_law_law_438 (by decide) ?_
  have q1 : cells + 0 + 0 = cells + 0 := by omega
  have q2 : slots + 0 + 0 = slots + 0 := by omega
  rw [q1, q2]
  exact kk k ta2 ws2 H2 locs2 hP2 hD2 hS2 ⟨hth2, ⟨hle2 _ _ (hle1 _ _ a1), hle2 _ _ (hle1 _ _ a2), hle2 _ _ (hle1 _ _ a3), hk⟩, hrd, F_HI, F_HL, F_HY6, F_RO, F_PT, F_LE6, F_TA6, F_TE6⟩ (fun q => tm17 (tn17 q)) (fun q => tm20 (tn20 q))
set_option maxRecDepth 100000 in
set_option maxHeartbeats 4000000 in
/-- letter -/
theorem lc_letter {p : Program} {e : Env} {s : State} {m : MethodId} {below : List Frame} {meth : Method} {c : Code} {l : Launch} {b L : Nat} {xs : Nat → Int32} (C0 : lw_At p s m meth c b L xs) (hL : L ≤ 3072) {D : va_G} {kA : Nat → ClassId} (hK : va_K D classes (TY kA) s) (hN : nsr kA (fun q : Nat => s.heap.size ≤ q) s) (h_Ho_letter : ct_ok PRD l D kA GG y_Ho_letter z_Ho_letter e_Ho_letter) (h_Mo_letter : ct_ok PRD l D kA GG y_Mo_letter z_Mo_letter e_Mo_letter) {h1 h2 rd i n : Nat} (hi : i + 6 ≤ L) {ta : Nat → Option Nat} {ws : va_W} {H : Heap} {locs : List Loc} {ls : Array Slot} {cells slots : Nat} (hP : va_P D classes ws H) (hD : va_D (fun q : Nat => s.heap.size ≤ q) ws) (hS : va_S (fun q : Nat => s.heap.size ≤ q) s.heap H locs) (hI : LI kA h1 h2 rd i n ta ws) (hl : lv_has ls 4 [(3, .int (nI i)), (2, .ref h2), (1, .ref h1), (0, .ref b)]) (hc : cells + 0 ≤ 60000) (hs : slots + 0 ≤ 8922250) (kk : ∀ (k : Nat) (ta : Nat → Option Nat) (w2 : va_W) (H : Heap) (locs : List Loc), va_P D classes w2 H → va_D (fun q : Nat => s.heap.size ≤ q) w2 → va_S (fun q : Nat => s.heap.size ≤ q) s.heap H locs → LI kA h1 h2 rd (i + 6) k ta w2 → (TN ws h1 17 → TN w2 h1 17) → (TN ws h1 20 → TN w2 h1 20) → W p l e room_1 s m #[Value.ref b] below meth c H locs (cells + 0) (slots + 0) (lw_Z below #[Value.ref b] s) (F0 m 1294 ls [])) : W p l e room_1 s m #[Value.ref b] below meth c H locs cells slots (lw_Z below #[Value.ref b] s) (F0 m 441 ls []) := by
  obtain ⟨hx, hb, hr, hml, hown, hts0, hX, hbl, hlocks, hgv⟩ := id C0
  have hts : ∀ w ∈ lw_g, w.before #[Value.ref b] s = true := fun w h => hts0 w (lw_gt h)
  have X : cx p s m #[Value.ref b] meth c b_law_law 4 ret "DrawingHouseLaw" meth.name := ⟨hx, hb, hml, hown, hts, hr, hlocks, rfl⟩
  obtain ⟨A, hAe⟩ : ∃ A : Nat → Prop, A = fun q : Nat => s.heap.size ≤ q := ⟨_, rfl⟩
  have hA : ∀ q : Nat, s.heap.size ≤ q → A q := fun q h => by rw [hAe]; exact h
  have hbA : ¬ A b := by rw [hAe]; exact Nat.not_le.mpr hbl
  rw [← hAe] at hD hS hN kk
  obtain ⟨hth, ⟨a1, a2, a3, hn⟩, hrd, F_HI, F_HL, F_HY, F_RO, F_PT, F_LE, F_TA, F_TE⟩ := hI
  obtain ⟨k, hk, hkk⟩ : ∃ k : Nat, k ≤ 2000 ∧ k = n := ⟨n, hn, rfl⟩
  have henv : sy_env ta L_env (L_vs h1 h2 rd i n k) := L_envs a1 a2 a3 (by omega) hn hk
  refine lv_aload_n (pc := 441) hx hb d_law_law_441 rfl (lv_at hl 2 rfl) ?_
  refine lv_aload_n (pc := 442) hx hb d_law_law_442 rfl (lv_at hl 3 rfl) ?_
  refine lv_iload_n (pc := 443) hx hb d_law_law_443 rfl (lv_at hl 0 rfl) ?_
  refine lv_iconst (pc := 444) (v := 1) hx hb d_law_law_444 (by decide) ?_
  refine k_add (pc := 445) (x := i) (y := 1) hx hb d_law_law_445 ?_
  refine sc_ld (pc := 446) (j := i + 1) hx hb hX hbl hbA hS (by omega) (by omega) d_law_law_446 ?_
  refine lv_aload_n (pc := 447) hx hb d_law_law_447 rfl (lv_at hl 3 rfl) ?_
  refine lv_iload_n (pc := 448) hx hb d_law_law_448 rfl (lv_at hl 0 rfl) ?_
  refine lv_iconst (pc := 449) (v := 2) hx hb d_law_law_449 (by decide) ?_
  refine k_add (pc := 450) (x := i) (y := 2) hx hb d_law_law_450 ?_
  refine sc_ld (pc := 451) (j := i + 2) hx hb hX hbl hbA hS (by omega) (by omega) d_law_law_451 ?_
  refine lv_aload_n (pc := 452) hx hb d_law_law_452 rfl (lv_at hl 3 rfl) ?_
  refine lv_iload_n (pc := 453) hx hb d_law_law_453 rfl (lv_at hl 0 rfl) ?_
  refine lv_iconst (pc := 454) (v := 3) hx hb d_law_law_454 (by decide) ?_
  refine k_add (pc := 455) (x := i) (y := 3) hx hb d_law_law_455 ?_
  refine sc_ld (pc := 456) (j := i + 3) hx hb hX hbl hbA hS (by omega) (by omega) d_law_law_456 ?_
  refine lv_aload_n (pc := 457) hx hb d_law_law_457 rfl (lv_at hl 3 rfl) ?_
  refine lv_iload_n (pc := 458) hx hb d_law_law_458 rfl (lv_at hl 0 rfl) ?_
  refine lv_iconst (pc := 459) (v := 4) hx hb d_law_law_459 (by decide) ?_
  refine k_add (pc := 460) (x := i) (y := 4) hx hb d_law_law_460 ?_
  refine sc_ld (pc := 461) (j := i + 4) hx hb hX hbl hbA hS (by omega) (by omega) d_law_law_461 ?_
  refine W.eq (g2 := F0 m 462 ls (List.reverse [.ref h1, .int (xs (i + 1)), .int (xs (i + 2)), .int (xs (i + 3)), .int (xs (i + 4))] ++ [])) rfl ?_
  refine (cl_virtual (y := y_Ho_letter) (ci := 12) rfl rfl ⟨_, _, rfl⟩ (by decide +kernel) h_Ho_letter wm_950 wm_1 wm_947 wm_948 wm_949 ⟨by decide, by decide, by decide +kernel⟩ (by decide) : cl_ok PRD l D kA GG "DrawingHouseLaw" _ _ e_Ho_letter) p e room_1 s m #[Value.ref b] below meth c H locs cells slots (lw_Z below #[Value.ref b] s) b_law_law 462 4 ret meth.name A ws ta ls [.ref h1, .int (xs (i + 1)), .int (xs (i + 2)), .int (xs (i + 3)), .int (xs (i + 4))] [] [] [] X hK hN hA hP hD hS hth (ag_c (tv_rf a1) (ag_c tv_top (ag_c tv_top (ag_c tv_top (ag_c tv_top (ag_n)))))) (gv_n) (ag_n) (fun _ h => by cases h) (by first | decide | exact Nat.le_of_ble_eq_true rfl) (by first | decide | exact Nat.le_of_ble_eq_true rfl) (by first | decide | exact Nat.le_of_ble_eq_true rfl) (show cells + 0 ≤ 60000 by omega) (show slots + 0 ≤ 8922250 by omega) hl.1 d_law_law_462 (fun ta1 ws1 H1 locs1 r hle1 hth1 hP1 hD1 hS1 hrt hpo _ hkp => ?_)
  obtain ⟨x1, rfl⟩ := rt_i rfl hrt
  have hpost : ∀ f ∈ ([] : List fc_T), fc_1 PRD f ws1 ([.ref h1, .int (xs (i + 1)), .int (xs (i + 2)), .int (xs (i + 3)), .int (xs (i + 4))] ++ [] ++ [] ++ [.int x1]) := hpo.1
  have hkeep := L_keep (M := [(20, [0], [62, 0]), (20, [0], [62, 1000000]), (20, [0, 2], [62, 2000000]), (20, [1], [60, 0, 3, 198, 2, 3, 4]), (20, [1], [60, 0, 3, 367, 110, 111, 112]), (20, [3, 4], [50, 1, 0, 1, 1, 3, 2, 0, 1, 1, 1]), (20, [1, 4], [50, 1, 0, 0, 1, 3, 2, 0, 0, 1, 1]), (20, [1, 3, 4], [60, 0, 2, 1109, 1, 1000])]) (S := [(20, [0], [62, 0]), (20, [0], [62, 1000000]), (20, [0, 2], [62, 2000000]), (20, [1], [60, 0, 3, 198, 2, 3, 4]), (20, [1], [60, 0, 3, 367, 110, 111, 112]), (20, [3, 4], [50, 1, 0, 1, 1, 3, 2, 0, 1, 1, 1]), (20, [1, 4], [50, 1, 0, 0, 1, 3, 2, 0, 0, 1, 1]), (20, [1, 3, 4], [60, 0, 2, 1109, 1, 1000])]) hth henv hD hle1 hth1 hD1 hkp (by decide +kernel) (List.forall_mem_cons.mpr ⟨F_HI, (List.forall_mem_cons.mpr ⟨F_HL, (List.forall_mem_cons.mpr ⟨F_HY, (List.forall_mem_cons.mpr ⟨F_RO, (List.forall_mem_cons.mpr ⟨F_PT, (List.forall_mem_cons.mpr ⟨F_LE, (List.forall_mem_cons.mpr ⟨F_TA, (List.forall_mem_cons.mpr ⟨F_TE, (fun _ h => by cases h)⟩)⟩)⟩)⟩)⟩)⟩)⟩)⟩)
  have G_HI : fc_m PRD 20 [.ref h1] [62, 0] ws1 := hkeep _ List.mem_cons_self
  have G_HL : fc_m PRD 20 [.ref h1] [62, 1000000] ws1 := hkeep _ (List.mem_cons_of_mem _ List.mem_cons_self)
  have G_HY : fc_m PRD 20 [.ref h1, .int (nI i)] [62, 2000000] ws1 := hkeep _ (List.mem_cons_of_mem _ (List.mem_cons_of_mem _ List.mem_cons_self))
  have G_RO : fc_m PRD 20 [.ref h2] [60, 0, 3, 198, 2, 3, 4] ws1 := hkeep _ (List.mem_cons_of_mem _ (List.mem_cons_of_mem _ (List.mem_cons_of_mem _ List.mem_cons_self)))
  have G_PT : fc_m PRD 20 [.ref h2] [60, 0, 3, 367, 110, 111, 112] ws1 := hkeep _ (List.mem_cons_of_mem _ (List.mem_cons_of_mem _ (List.mem_cons_of_mem _ (List.mem_cons_of_mem _ List.mem_cons_self))))
  have G_LE : fc_m PRD 20 [.ref rd, .int (nI n)] [50, 1, 0, 1, 1, 3, 2, 0, 1, 1, 1] ws1 := hkeep _ (List.mem_cons_of_mem _ (List.mem_cons_of_mem _ (List.mem_cons_of_mem _ (List.mem_cons_of_mem _ (List.mem_cons_of_mem _ List.mem_cons_self)))))
  have G_TA : fc_m PRD 20 [.ref h2, .int (nI n)] [50, 1, 0, 0, 1, 3, 2, 0, 0, 1, 1] ws1 := hkeep _ (List.mem_cons_of_mem _ (List.mem_cons_of_mem _ (List.mem_cons_of_mem _ (List.mem_cons_of_mem _ (List.mem_cons_of_mem _ (List.mem_cons_of_mem _ List.mem_cons_self))))))
  have G_TE : fc_m PRD 20 [.ref h2, .ref rd, .int (nI n)] [60, 0, 2, 1109, 1, 1000] ws1 := hkeep _ (List.mem_cons_of_mem _ (List.mem_cons_of_mem _ (List.mem_cons_of_mem _ (List.mem_cons_of_mem _ (List.mem_cons_of_mem _ (List.mem_cons_of_mem _ (List.mem_cons_of_mem _ List.mem_cons_self)))))))
  have G_HY6 : fc_m PRD 20 [.ref h1, .int (nI (i + 6))] [62, 2000000] ws1 := by have z : HY ws1 (.ref h1) ((nI i).toInt + ((2000000 : Nat) - 2000000 : Int)) := G_HY; show HY ws1 (.ref h1) ((nI (i + 6)).toInt + ((2000000 : Nat) - 2000000 : Int)); rw [nI_toInt (by omega)] at z ⊢; exact hy_le z (by omega)
  have G_LE6 : fc_m PRD 20 [.ref rd, .int (nI k)] [50, 1, 0, 1, 1, 3, 2, 0, 1, 1, 1] ws1 := by rw [hkk]; exact G_LE
  have hrd : L_rd ws1 h1 rd := L_rdk hrd a1 hkp (by decide +kernel)
  have tn17 : TN ws h1 17 → TN ws1 h1 17 := TN_kp a1 hkp (by decide +kernel)
  have tn20 : TN ws h1 20 → TN ws1 h1 20 := TN_kp a1 hkp (by decide +kernel)
  have F_HI := G_HI
  have F_HL := G_HL
  have F_HY6 := G_HY6
  have F_RO := G_RO
  have F_PT := G_PT
  have F_LE6 := G_LE6
  have F_TA := G_TA
  have F_TE := G_TE
  show W p l e room_1 s m #[Value.ref b] below meth c H1 locs1 (cells + 0) (slots + 0) (lw_Z below #[Value.ref b] s) (F0 m 465 ls [.int x1])
  have hS := hS1
  refine lv_pop (pc := 465) hx hb d_law_law_465 rfl ?_
  refine lv_aload_n (pc := 466) hx hb d_law_law_466 rfl (lv_at hl 1 rfl) ?_
  refine lv_aload_n (pc := 467) hx hb d_law_law_467 rfl (lv_at hl 3 rfl) ?_
  refine lv_iload_n (pc := 468) hx hb d_law_law_468 rfl (lv_at hl 0 rfl) ?_
  refine lv_iconst (pc := 469) (v := 1) hx hb d_law_law_469 (by decide) ?_
  refine k_add (pc := 470) (x := i) (y := 1) hx hb d_law_law_470 ?_
  refine sc_ld (pc := 471) (j := i + 1) hx hb hX hbl hbA hS (by omega) (by omega) d_law_law_471 ?_
  refine lv_aload_n (pc := 472) hx hb d_law_law_472 rfl (lv_at hl 3 rfl) ?_
  refine lv_iload_n (pc := 473) hx hb d_law_law_473 rfl (lv_at hl 0 rfl) ?_
  refine lv_iconst (pc := 474) (v := 2) hx hb d_law_law_474 (by decide) ?_
  refine k_add (pc := 475) (x := i) (y := 2) hx hb d_law_law_475 ?_
  refine sc_ld (pc := 476) (j := i + 2) hx hb hX hbl hbA hS (by omega) (by omega) d_law_law_476 ?_
  refine lv_aload_n (pc := 477) hx hb d_law_law_477 rfl (lv_at hl 3 rfl) ?_
  refine lv_iload_n (pc := 478) hx hb d_law_law_478 rfl (lv_at hl 0 rfl) ?_
  refine lv_iconst (pc := 479) (v := 3) hx hb d_law_law_479 (by decide) ?_
  refine k_add (pc := 480) (x := i) (y := 3) hx hb d_law_law_480 ?_
  refine sc_ld (pc := 481) (j := i + 3) hx hb hX hbl hbA hS (by omega) (by omega) d_law_law_481 ?_
  refine lv_aload_n (pc := 482) hx hb d_law_law_482 rfl (lv_at hl 3 rfl) ?_
  refine lv_iload_n (pc := 483) hx hb d_law_law_483 rfl (lv_at hl 0 rfl) ?_
  refine lv_iconst (pc := 484) (v := 4) hx hb d_law_law_484 (by decide) ?_
  refine k_add (pc := 485) (x := i) (y := 4) hx hb d_law_law_485 ?_
  refine sc_ld (pc := 486) (j := i + 4) hx hb hX hbl hbA hS (by omega) (by omega) d_law_law_486 ?_
  refine W.eq (g2 := F0 m 487 ls (List.reverse [.ref h2, .int (xs (i + 1)), .int (xs (i + 2)), .int (xs (i + 3)), .int (xs (i + 4))] ++ [])) rfl ?_
  refine (cl_virtual (y := y_Mo_letter) (ci := 13) rfl rfl ⟨_, _, rfl⟩ (by decide +kernel) h_Mo_letter wm_3359 wm_9 wm_3356 wm_3357 wm_3358 ⟨by decide, by decide, by decide +kernel⟩ (by decide) : cl_ok PRD l D kA GG "DrawingHouseLaw" _ _ e_Mo_letter) p e room_1 s m #[Value.ref b] below meth c H1 locs1 (cells + 0) (slots + 0) (lw_Z below #[Value.ref b] s) b_law_law 487 4 ret meth.name A ws1 ta1 ls [.ref h2, .int (xs (i + 1)), .int (xs (i + 2)), .int (xs (i + 3)), .int (xs (i + 4))] [] [] [] X hK hN hA hP1 hD1 hS1 hth1 (ag_c (tv_rf (hle1 _ _ a2)) (ag_c tv_top (ag_c tv_top (ag_c tv_top (ag_c tv_top (ag_n)))))) (gv_n) (ag_n) (fun _ h => by cases h) (by first | decide | exact Nat.le_of_ble_eq_true rfl) (by first | decide | exact Nat.le_of_ble_eq_true rfl) (by first | decide | exact Nat.le_of_ble_eq_true rfl) (show (cells + 0) + 0 ≤ 60000 by omega) (show (slots + 0) + 0 ≤ 8922250 by omega) hl.1 d_law_law_487 (fun ta2 ws2 H2 locs2 r hle2 hth2 hP2 hD2 hS2 hrt hpo _ hkp => ?_)
  obtain ⟨x2, rfl⟩ := rt_i rfl hrt
  have hpost : ∀ f ∈ ([] : List fc_T), fc_1 PRD f ws2 ([.ref h2, .int (xs (i + 1)), .int (xs (i + 2)), .int (xs (i + 3)), .int (xs (i + 4))] ++ [] ++ [] ++ [.int x2]) := hpo.1
  have hkeep := L_keep (M := [(20, [0], [62, 0]), (20, [0], [62, 1000000]), (20, [0, 6], [62, 2000000]), (20, [1], [60, 0, 3, 198, 2, 3, 4]), (20, [1], [60, 0, 3, 367, 110, 111, 112]), (20, [3, 5], [50, 1, 0, 1, 1, 3, 2, 0, 1, 1, 1]), (20, [1, 4], [50, 1, 0, 0, 1, 3, 2, 0, 0, 1, 1]), (20, [1, 3, 4], [60, 0, 2, 1109, 1, 1000])]) (S := [(20, [0], [62, 0]), (20, [0], [62, 1000000]), (20, [0, 6], [62, 2000000]), (20, [1], [60, 0, 3, 198, 2, 3, 4]), (20, [1], [60, 0, 3, 367, 110, 111, 112]), (20, [3, 5], [50, 1, 0, 1, 1, 3, 2, 0, 1, 1, 1]), (20, [1, 4], [50, 1, 0, 0, 1, 3, 2, 0, 0, 1, 1]), (20, [1, 3, 4], [60, 0, 2, 1109, 1, 1000])]) hth1 (sy_env_up hle1 henv) hD1 hle2 hth2 hD2 hkp (by decide +kernel) (List.forall_mem_cons.mpr ⟨F_HI, (List.forall_mem_cons.mpr ⟨F_HL, (List.forall_mem_cons.mpr ⟨F_HY6, (List.forall_mem_cons.mpr ⟨F_RO, (List.forall_mem_cons.mpr ⟨F_PT, (List.forall_mem_cons.mpr ⟨F_LE6, (List.forall_mem_cons.mpr ⟨F_TA, (List.forall_mem_cons.mpr ⟨F_TE, (fun _ h => by cases h)⟩)⟩)⟩)⟩)⟩)⟩)⟩)⟩)
  have G_HI : fc_m PRD 20 [.ref h1] [62, 0] ws2 := hkeep _ List.mem_cons_self
  have G_HL : fc_m PRD 20 [.ref h1] [62, 1000000] ws2 := hkeep _ (List.mem_cons_of_mem _ List.mem_cons_self)
  have G_HY6 : fc_m PRD 20 [.ref h1, .int (nI (i + 6))] [62, 2000000] ws2 := hkeep _ (List.mem_cons_of_mem _ (List.mem_cons_of_mem _ List.mem_cons_self))
  have G_RO : fc_m PRD 20 [.ref h2] [60, 0, 3, 198, 2, 3, 4] ws2 := hkeep _ (List.mem_cons_of_mem _ (List.mem_cons_of_mem _ (List.mem_cons_of_mem _ List.mem_cons_self)))
  have G_PT : fc_m PRD 20 [.ref h2] [60, 0, 3, 367, 110, 111, 112] ws2 := hkeep _ (List.mem_cons_of_mem _ (List.mem_cons_of_mem _ (List.mem_cons_of_mem _ (List.mem_cons_of_mem _ List.mem_cons_self))))
  have G_LE6 : fc_m PRD 20 [.ref rd, .int (nI k)] [50, 1, 0, 1, 1, 3, 2, 0, 1, 1, 1] ws2 := hkeep _ (List.mem_cons_of_mem _ (List.mem_cons_of_mem _ (List.mem_cons_of_mem _ (List.mem_cons_of_mem _ (List.mem_cons_of_mem _ List.mem_cons_self)))))
  have G_TA : fc_m PRD 20 [.ref h2, .int (nI n)] [50, 1, 0, 0, 1, 3, 2, 0, 0, 1, 1] ws2 := hkeep _ (List.mem_cons_of_mem _ (List.mem_cons_of_mem _ (List.mem_cons_of_mem _ (List.mem_cons_of_mem _ (List.mem_cons_of_mem _ (List.mem_cons_of_mem _ List.mem_cons_self))))))
  have G_TE : fc_m PRD 20 [.ref h2, .ref rd, .int (nI n)] [60, 0, 2, 1109, 1, 1000] ws2 := hkeep _ (List.mem_cons_of_mem _ (List.mem_cons_of_mem _ (List.mem_cons_of_mem _ (List.mem_cons_of_mem _ (List.mem_cons_of_mem _ (List.mem_cons_of_mem _ (List.mem_cons_of_mem _ List.mem_cons_self)))))))
  have G_TA6 : fc_m PRD 20 [.ref h2, .int (nI k)] [50, 1, 0, 0, 1, 3, 2, 0, 0, 1, 1] ws2 := by rw [hkk]; exact G_TA
  have G_TE6 : fc_m PRD 20 [.ref h2, .ref rd, .int (nI k)] [60, 0, 2, 1109, 1, 1000] ws2 := by have z : TEQ (w_ei ws2 (w_ar ws2 (.ref h2) 1)) (w_ei ws2 (w_ar ws2 (.ref rd) 0)) (nI n).toInt := G_TE; have z2 : TEQ (w_ei ws2 (w_ar ws2 (.ref h2) 1)) (w_ei ws2 (w_ar ws2 (.ref rd) 0)) (nI k).toInt := L_tek z (show k ≤ n by omega) hn; exact z2
  have hrd : L_rd ws2 h1 rd := L_rdk hrd (hle1 _ _ a1) hkp (by decide +kernel)
  have tm17 : TN ws1 h1 17 → TN ws2 h1 17 := TN_kp (hle1 _ _ a1) hkp (by decide +kernel)
  have tm20 : TN ws1 h1 20 → TN ws2 h1 20 := TN_kp (hle1 _ _ a1) hkp (by decide +kernel)
  have F_HI := G_HI
  have F_HL := G_HL
  have F_HY6 := G_HY6
  have F_RO := G_RO
  have F_PT := G_PT
  have F_LE6 := G_LE6
  have F_TA6 := G_TA6
  have F_TE := G_TE
  have F_TE6 := G_TE6
  show W p l e room_1 s m #[Value.ref b] below meth c H2 locs2 (cells + 0 + 0) (slots + 0 + 0) (lw_Z below #[Value.ref b] s) (F0 m 490 ls [.int x2])
  have hS := hS2
  refine lv_pop (pc := 490) hx hb d_law_law_490 rfl ?_
  refine lv_goto (pc := 491) (tgt := 1294) hx hb d_law_law_491 (by decide) ?_
  have q1 : cells + 0 + 0 = cells + 0 := by omega
  have q2 : slots + 0 + 0 = slots + 0 := by omega
  rw [q1, q2]
  exact kk k ta2 ws2 H2 locs2 hP2 hD2 hS2 ⟨hth2, ⟨hle2 _ _ (hle1 _ _ a1), hle2 _ _ (hle1 _ _ a2), hle2 _ _ (hle1 _ _ a3), hk⟩, hrd, F_HI, F_HL, F_HY6, F_RO, F_PT, F_LE6, F_TA6, F_TE6⟩ (fun q => tm17 (tn17 q)) (fun q => tm20 (tn20 q))
set_option maxRecDepth 100000 in
set_option maxHeartbeats 4000000 in
/-- change -/
theorem lc_change {p : Program} {e : Env} {s : State} {m : MethodId} {below : List Frame} {meth : Method} {c : Code} {l : Launch} {b L : Nat} {xs : Nat → Int32} (C0 : lw_At p s m meth c b L xs) (hL : L ≤ 3072) {D : va_G} {kA : Nat → ClassId} (hK : va_K D classes (TY kA) s) (hN : nsr kA (fun q : Nat => s.heap.size ≤ q) s) (h_Ho_change : ct_ok PRD l D kA GG y_Ho_change z_Ho_change e_Ho_change) (h_Mo_change : ct_ok PRD l D kA GG y_Mo_change z_Mo_change e_Mo_change) {h1 h2 rd i n : Nat} (hi : i + 6 ≤ L) {ta : Nat → Option Nat} {ws : va_W} {H : Heap} {locs : List Loc} {ls : Array Slot} {cells slots : Nat} (hP : va_P D classes ws H) (hD : va_D (fun q : Nat => s.heap.size ≤ q) ws) (hS : va_S (fun q : Nat => s.heap.size ≤ q) s.heap H locs) (hI : LI kA h1 h2 rd i n ta ws) (hl : lv_has ls 4 [(3, .int (nI i)), (2, .ref h2), (1, .ref h1), (0, .ref b)]) (hc : cells + 3 ≤ 60000) (hs : slots + 3788 ≤ 8922250) (kk : ∀ (k : Nat) (ta : Nat → Option Nat) (w2 : va_W) (H : Heap) (locs : List Loc), va_P D classes w2 H → va_D (fun q : Nat => s.heap.size ≤ q) w2 → va_S (fun q : Nat => s.heap.size ≤ q) s.heap H locs → LI kA h1 h2 rd (i + 6) k ta w2 → (TN ws h1 17 → TN w2 h1 17) → (TN ws h1 20 → TN w2 h1 20) → W p l e room_1 s m #[Value.ref b] below meth c H locs (cells + 3) (slots + 3788) (lw_Z below #[Value.ref b] s) (F0 m 1294 ls [])) : W p l e room_1 s m #[Value.ref b] below meth c H locs cells slots (lw_Z below #[Value.ref b] s) (F0 m 494 ls []) := by
  obtain ⟨hx, hb, hr, hml, hown, hts0, hX, hbl, hlocks, hgv⟩ := id C0
  have hts : ∀ w ∈ lw_g, w.before #[Value.ref b] s = true := fun w h => hts0 w (lw_gt h)
  have X : cx p s m #[Value.ref b] meth c b_law_law 4 ret "DrawingHouseLaw" meth.name := ⟨hx, hb, hml, hown, hts, hr, hlocks, rfl⟩
  obtain ⟨A, hAe⟩ : ∃ A : Nat → Prop, A = fun q : Nat => s.heap.size ≤ q := ⟨_, rfl⟩
  have hA : ∀ q : Nat, s.heap.size ≤ q → A q := fun q h => by rw [hAe]; exact h
  have hbA : ¬ A b := by rw [hAe]; exact Nat.not_le.mpr hbl
  rw [← hAe] at hD hS hN kk
  obtain ⟨hth, ⟨a1, a2, a3, hn⟩, hrd, F_HI, F_HL, F_HY, F_RO, F_PT, F_LE, F_TA, F_TE⟩ := hI
  obtain ⟨k, hk, hkk⟩ : ∃ k : Nat, k ≤ 2000 ∧ k = n := ⟨n, hn, rfl⟩
  have henv : sy_env ta L_env (L_vs h1 h2 rd i n k) := L_envs a1 a2 a3 (by omega) hn hk
  refine lv_aload_n (pc := 494) hx hb d_law_law_494 rfl (lv_at hl 2 rfl) ?_
  refine lv_aload_n (pc := 495) hx hb d_law_law_495 rfl (lv_at hl 3 rfl) ?_
  refine lv_iload_n (pc := 496) hx hb d_law_law_496 rfl (lv_at hl 0 rfl) ?_
  refine lv_iconst (pc := 497) (v := 1) hx hb d_law_law_497 (by decide) ?_
  refine k_add (pc := 498) (x := i) (y := 1) hx hb d_law_law_498 ?_
  refine sc_ld (pc := 499) (j := i + 1) hx hb hX hbl hbA hS (by omega) (by omega) d_law_law_499 ?_
  refine lv_aload_n (pc := 500) hx hb d_law_law_500 rfl (lv_at hl 3 rfl) ?_
  refine lv_iload_n (pc := 501) hx hb d_law_law_501 rfl (lv_at hl 0 rfl) ?_
  refine lv_iconst (pc := 502) (v := 2) hx hb d_law_law_502 (by decide) ?_
  refine k_add (pc := 503) (x := i) (y := 2) hx hb d_law_law_503 ?_
  refine sc_ld (pc := 504) (j := i + 2) hx hb hX hbl hbA hS (by omega) (by omega) d_law_law_504 ?_
  refine lv_aload_n (pc := 505) hx hb d_law_law_505 rfl (lv_at hl 3 rfl) ?_
  refine lv_iload_n (pc := 506) hx hb d_law_law_506 rfl (lv_at hl 0 rfl) ?_
  refine lv_iconst (pc := 507) (v := 3) hx hb d_law_law_507 (by decide) ?_
  refine k_add (pc := 508) (x := i) (y := 3) hx hb d_law_law_508 ?_
  refine sc_ld (pc := 509) (j := i + 3) hx hb hX hbl hbA hS (by omega) (by omega) d_law_law_509 ?_
  refine lv_aload_n (pc := 510) hx hb d_law_law_510 rfl (lv_at hl 3 rfl) ?_
  refine lv_iload_n (pc := 511) hx hb d_law_law_511 rfl (lv_at hl 0 rfl) ?_
  refine lv_iconst (pc := 512) (v := 4) hx hb d_law_law_512 (by decide) ?_
  refine k_add (pc := 513) (x := i) (y := 4) hx hb d_law_law_513 ?_
  refine sc_ld (pc := 514) (j := i + 4) hx hb hX hbl hbA hS (by omega) (by omega) d_law_law_514 ?_
  refine W.eq (g2 := F0 m 515 ls (List.reverse [.ref h1, .int (xs (i + 1)), .int (xs (i + 2)), .int (xs (i + 3)), .int (xs (i + 4))] ++ [])) rfl ?_
  refine (cl_virtual (y := y_Ho_change) (ci := 12) rfl rfl ⟨_, _, rfl⟩ (by decide +kernel) h_Ho_change wm_954 wm_1 wm_951 wm_952 wm_953 ⟨by decide, by decide, by decide +kernel⟩ (by decide) : cl_ok PRD l D kA GG "DrawingHouseLaw" _ _ e_Ho_change) p e room_1 s m #[Value.ref b] below meth c H locs cells slots (lw_Z below #[Value.ref b] s) b_law_law 515 4 ret meth.name A ws ta ls [.ref h1, .int (xs (i + 1)), .int (xs (i + 2)), .int (xs (i + 3)), .int (xs (i + 4))] [] [] [] X hK hN hA hP hD hS hth (ag_c (tv_rf a1) (ag_c tv_top (ag_c tv_top (ag_c tv_top (ag_c tv_top (ag_n)))))) (gv_n) (ag_n) (show ∀ f ∈ ([(20, [0], [62, 0])] : List fc_T), fc_1 PRD f ws ([.ref h1, .int (xs (i + 1)), .int (xs (i + 2)), .int (xs (i + 3)), .int (xs (i + 4))] ++ [] ++ []) from (List.forall_mem_cons.mpr ⟨⟨nf_in (N := 5) rfl rfl, F_HI⟩, (fun _ h => by cases h)⟩)) (by first | decide | exact Nat.le_of_ble_eq_true rfl) (by first | decide | exact Nat.le_of_ble_eq_true rfl) (by first | decide | exact Nat.le_of_ble_eq_true rfl) (show cells + 3 ≤ 60000 by omega) (show slots + 3788 ≤ 8922250 by omega) hl.1 d_law_law_515 (fun ta1 ws1 H1 locs1 r hle1 hth1 hP1 hD1 hS1 hrt hpo _ hkp => ?_)
  obtain ⟨x1, rfl⟩ := rt_i rfl hrt
  have hpost : ∀ f ∈ ([(20, [0], [62, 0])] : List fc_T), fc_1 PRD f ws1 ([.ref h1, .int (xs (i + 1)), .int (xs (i + 2)), .int (xs (i + 3)), .int (xs (i + 4))] ++ [] ++ [] ++ [.int x1]) := hpo.1
  have hkeep := L_keep (M := [(20, [0], [62, 0]), (20, [0], [62, 1000000]), (20, [0, 2], [62, 2000000]), (20, [1], [60, 0, 3, 198, 2, 3, 4]), (20, [1], [60, 0, 3, 367, 110, 111, 112]), (20, [3, 4], [50, 1, 0, 1, 1, 3, 2, 0, 1, 1, 1]), (20, [1, 4], [50, 1, 0, 0, 1, 3, 2, 0, 0, 1, 1]), (20, [1, 3, 4], [60, 0, 2, 1109, 1, 1000])]) (S := [(20, [0], [62, 1000000]), (20, [0, 2], [62, 2000000]), (20, [1], [60, 0, 3, 198, 2, 3, 4]), (20, [1], [60, 0, 3, 367, 110, 111, 112]), (20, [3, 4], [50, 1, 0, 1, 1, 3, 2, 0, 1, 1, 1]), (20, [1, 4], [50, 1, 0, 0, 1, 3, 2, 0, 0, 1, 1]), (20, [1, 3, 4], [60, 0, 2, 1109, 1, 1000])]) hth henv hD hle1 hth1 hD1 hkp (by decide +kernel) (List.forall_mem_cons.mpr ⟨F_HI, (List.forall_mem_cons.mpr ⟨F_HL, (List.forall_mem_cons.mpr ⟨F_HY, (List.forall_mem_cons.mpr ⟨F_RO, (List.forall_mem_cons.mpr ⟨F_PT, (List.forall_mem_cons.mpr ⟨F_LE, (List.forall_mem_cons.mpr ⟨F_TA, (List.forall_mem_cons.mpr ⟨F_TE, (fun _ h => by cases h)⟩)⟩)⟩)⟩)⟩)⟩)⟩)⟩)
  have G_HL : fc_m PRD 20 [.ref h1] [62, 1000000] ws1 := hkeep _ List.mem_cons_self
  have G_HY : fc_m PRD 20 [.ref h1, .int (nI i)] [62, 2000000] ws1 := hkeep _ (List.mem_cons_of_mem _ List.mem_cons_self)
  have G_RO : fc_m PRD 20 [.ref h2] [60, 0, 3, 198, 2, 3, 4] ws1 := hkeep _ (List.mem_cons_of_mem _ (List.mem_cons_of_mem _ List.mem_cons_self))
  have G_PT : fc_m PRD 20 [.ref h2] [60, 0, 3, 367, 110, 111, 112] ws1 := hkeep _ (List.mem_cons_of_mem _ (List.mem_cons_of_mem _ (List.mem_cons_of_mem _ List.mem_cons_self)))
  have G_LE : fc_m PRD 20 [.ref rd, .int (nI n)] [50, 1, 0, 1, 1, 3, 2, 0, 1, 1, 1] ws1 := hkeep _ (List.mem_cons_of_mem _ (List.mem_cons_of_mem _ (List.mem_cons_of_mem _ (List.mem_cons_of_mem _ List.mem_cons_self))))
  have G_TA : fc_m PRD 20 [.ref h2, .int (nI n)] [50, 1, 0, 0, 1, 3, 2, 0, 0, 1, 1] ws1 := hkeep _ (List.mem_cons_of_mem _ (List.mem_cons_of_mem _ (List.mem_cons_of_mem _ (List.mem_cons_of_mem _ (List.mem_cons_of_mem _ List.mem_cons_self)))))
  have G_TE : fc_m PRD 20 [.ref h2, .ref rd, .int (nI n)] [60, 0, 2, 1109, 1, 1000] ws1 := hkeep _ (List.mem_cons_of_mem _ (List.mem_cons_of_mem _ (List.mem_cons_of_mem _ (List.mem_cons_of_mem _ (List.mem_cons_of_mem _ (List.mem_cons_of_mem _ List.mem_cons_self))))))
  have G_HI : fc_m PRD 20 [.ref h1] [62, 0] ws1 := (hpost _ List.mem_cons_self).2
  have G_HY6 : fc_m PRD 20 [.ref h1, .int (nI (i + 6))] [62, 2000000] ws1 := by have z : HY ws1 (.ref h1) ((nI i).toInt + ((2000000 : Nat) - 2000000 : Int)) := G_HY; show HY ws1 (.ref h1) ((nI (i + 6)).toInt + ((2000000 : Nat) - 2000000 : Int)); rw [nI_toInt (by omega)] at z ⊢; exact hy_le z (by omega)
  have G_LE6 : fc_m PRD 20 [.ref rd, .int (nI k)] [50, 1, 0, 1, 1, 3, 2, 0, 1, 1, 1] ws1 := by rw [hkk]; exact G_LE
  have hrd : L_rd ws1 h1 rd := L_rdk hrd a1 hkp (by decide +kernel)
  have tn17 : TN ws h1 17 → TN ws1 h1 17 := TN_kp a1 hkp (by decide +kernel)
  have tn20 : TN ws h1 20 → TN ws1 h1 20 := TN_kp a1 hkp (by decide +kernel)
  have F_HI := G_HI
  have F_HL := G_HL
  have F_HY6 := G_HY6
  have F_RO := G_RO
  have F_PT := G_PT
  have F_LE6 := G_LE6
  have F_TA := G_TA
  have F_TE := G_TE
  show W p l e room_1 s m #[Value.ref b] below meth c H1 locs1 (cells + 3) (slots + 3788) (lw_Z below #[Value.ref b] s) (F0 m 518 ls [.int x1])
  have hS := hS1
  refine lv_pop (pc := 518) hx hb d_law_law_518 rfl ?_
  refine lv_aload_n (pc := 519) hx hb d_law_law_519 rfl (lv_at hl 1 rfl) ?_
  refine lv_aload_n (pc := 520) hx hb d_law_law_520 rfl (lv_at hl 3 rfl) ?_
  refine lv_iload_n (pc := 521) hx hb d_law_law_521 rfl (lv_at hl 0 rfl) ?_
  refine lv_iconst (pc := 522) (v := 1) hx hb d_law_law_522 (by decide) ?_
  refine k_add (pc := 523) (x := i) (y := 1) hx hb d_law_law_523 ?_
  refine sc_ld (pc := 524) (j := i + 1) hx hb hX hbl hbA hS (by omega) (by omega) d_law_law_524 ?_
  refine lv_aload_n (pc := 525) hx hb d_law_law_525 rfl (lv_at hl 3 rfl) ?_
  refine lv_iload_n (pc := 526) hx hb d_law_law_526 rfl (lv_at hl 0 rfl) ?_
  refine lv_iconst (pc := 527) (v := 2) hx hb d_law_law_527 (by decide) ?_
  refine k_add (pc := 528) (x := i) (y := 2) hx hb d_law_law_528 ?_
  refine sc_ld (pc := 529) (j := i + 2) hx hb hX hbl hbA hS (by omega) (by omega) d_law_law_529 ?_
  refine lv_aload_n (pc := 530) hx hb d_law_law_530 rfl (lv_at hl 3 rfl) ?_
  refine lv_iload_n (pc := 531) hx hb d_law_law_531 rfl (lv_at hl 0 rfl) ?_
  refine lv_iconst (pc := 532) (v := 3) hx hb d_law_law_532 (by decide) ?_
  refine k_add (pc := 533) (x := i) (y := 3) hx hb d_law_law_533 ?_
  refine sc_ld (pc := 534) (j := i + 3) hx hb hX hbl hbA hS (by omega) (by omega) d_law_law_534 ?_
  refine lv_aload_n (pc := 535) hx hb d_law_law_535 rfl (lv_at hl 3 rfl) ?_
  refine lv_iload_n (pc := 536) hx hb d_law_law_536 rfl (lv_at hl 0 rfl) ?_
  refine lv_iconst (pc := 537) (v := 4) hx hb d_law_law_537 (by decide) ?_
  refine k_add (pc := 538) (x := i) (y := 4) hx hb d_law_law_538 ?_
  refine sc_ld (pc := 539) (j := i + 4) hx hb hX hbl hbA hS (by omega) (by omega) d_law_law_539 ?_
  refine W.eq (g2 := F0 m 540 ls (List.reverse [.ref h2, .int (xs (i + 1)), .int (xs (i + 2)), .int (xs (i + 3)), .int (xs (i + 4))] ++ [])) rfl ?_
  refine (cl_virtual (y := y_Mo_change) (ci := 13) rfl rfl ⟨_, _, rfl⟩ (by decide +kernel) h_Mo_change wm_3087 wm_9 wm_3084 wm_3085 wm_3086 ⟨by decide, by decide, by decide +kernel⟩ (by decide) : cl_ok PRD l D kA GG "DrawingHouseLaw" _ _ e_Mo_change) p e room_1 s m #[Value.ref b] below meth c H1 locs1 (cells + 3) (slots + 3788) (lw_Z below #[Value.ref b] s) b_law_law 540 4 ret meth.name A ws1 ta1 ls [.ref h2, .int (xs (i + 1)), .int (xs (i + 2)), .int (xs (i + 3)), .int (xs (i + 4))] [] [] [] X hK hN hA hP1 hD1 hS1 hth1 (ag_c (tv_rf (hle1 _ _ a2)) (ag_c tv_top (ag_c tv_top (ag_c tv_top (ag_c tv_top (ag_n)))))) (gv_n) (ag_n) (show ∀ f ∈ ([(20, [0], [60, 0, 3, 198, 2, 3, 4])] : List fc_T), fc_1 PRD f ws1 ([.ref h2, .int (xs (i + 1)), .int (xs (i + 2)), .int (xs (i + 3)), .int (xs (i + 4))] ++ [] ++ []) from (List.forall_mem_cons.mpr ⟨⟨nf_in (N := 5) rfl rfl, F_RO⟩, (fun _ h => by cases h)⟩)) (by first | decide | exact Nat.le_of_ble_eq_true rfl) (by first | decide | exact Nat.le_of_ble_eq_true rfl) (by first | decide | exact Nat.le_of_ble_eq_true rfl) (show (cells + 3) + 0 ≤ 60000 by omega) (show (slots + 3788) + 0 ≤ 8922250 by omega) hl.1 d_law_law_540 (fun ta2 ws2 H2 locs2 r hle2 hth2 hP2 hD2 hS2 hrt hpo _ hkp => ?_)
  obtain ⟨x2, rfl⟩ := rt_i rfl hrt
  have hpost : ∀ f ∈ ([(20, [0], [60, 0, 3, 198, 2, 3, 4])] : List fc_T), fc_1 PRD f ws2 ([.ref h2, .int (xs (i + 1)), .int (xs (i + 2)), .int (xs (i + 3)), .int (xs (i + 4))] ++ [] ++ [] ++ [.int x2]) := hpo.1
  have hkeep := L_keep (M := [(20, [0], [62, 0]), (20, [0], [62, 1000000]), (20, [0, 6], [62, 2000000]), (20, [1], [60, 0, 3, 198, 2, 3, 4]), (20, [1], [60, 0, 3, 367, 110, 111, 112]), (20, [3, 5], [50, 1, 0, 1, 1, 3, 2, 0, 1, 1, 1]), (20, [1, 4], [50, 1, 0, 0, 1, 3, 2, 0, 0, 1, 1]), (20, [1, 3, 4], [60, 0, 2, 1109, 1, 1000])]) (S := [(20, [0], [62, 0]), (20, [0], [62, 1000000]), (20, [0, 6], [62, 2000000]), (20, [1], [60, 0, 3, 367, 110, 111, 112]), (20, [3, 5], [50, 1, 0, 1, 1, 3, 2, 0, 1, 1, 1]), (20, [1, 4], [50, 1, 0, 0, 1, 3, 2, 0, 0, 1, 1]), (20, [1, 3, 4], [60, 0, 2, 1109, 1, 1000])]) hth1 (sy_env_up hle1 henv) hD1 hle2 hth2 hD2 hkp (by decide +kernel) (List.forall_mem_cons.mpr ⟨F_HI, (List.forall_mem_cons.mpr ⟨F_HL, (List.forall_mem_cons.mpr ⟨F_HY6, (List.forall_mem_cons.mpr ⟨F_RO, (List.forall_mem_cons.mpr ⟨F_PT, (List.forall_mem_cons.mpr ⟨F_LE6, (List.forall_mem_cons.mpr ⟨F_TA, (List.forall_mem_cons.mpr ⟨F_TE, (fun _ h => by cases h)⟩)⟩)⟩)⟩)⟩)⟩)⟩)⟩)
  have G_HI : fc_m PRD 20 [.ref h1] [62, 0] ws2 := hkeep _ List.mem_cons_self
  have G_HL : fc_m PRD 20 [.ref h1] [62, 1000000] ws2 := hkeep _ (List.mem_cons_of_mem _ List.mem_cons_self)
  have G_HY6 : fc_m PRD 20 [.ref h1, .int (nI (i + 6))] [62, 2000000] ws2 := hkeep _ (List.mem_cons_of_mem _ (List.mem_cons_of_mem _ List.mem_cons_self))
  have G_PT : fc_m PRD 20 [.ref h2] [60, 0, 3, 367, 110, 111, 112] ws2 := hkeep _ (List.mem_cons_of_mem _ (List.mem_cons_of_mem _ (List.mem_cons_of_mem _ List.mem_cons_self)))
  have G_LE6 : fc_m PRD 20 [.ref rd, .int (nI k)] [50, 1, 0, 1, 1, 3, 2, 0, 1, 1, 1] ws2 := hkeep _ (List.mem_cons_of_mem _ (List.mem_cons_of_mem _ (List.mem_cons_of_mem _ (List.mem_cons_of_mem _ List.mem_cons_self))))
  have G_TA : fc_m PRD 20 [.ref h2, .int (nI n)] [50, 1, 0, 0, 1, 3, 2, 0, 0, 1, 1] ws2 := hkeep _ (List.mem_cons_of_mem _ (List.mem_cons_of_mem _ (List.mem_cons_of_mem _ (List.mem_cons_of_mem _ (List.mem_cons_of_mem _ List.mem_cons_self)))))
  have G_TE : fc_m PRD 20 [.ref h2, .ref rd, .int (nI n)] [60, 0, 2, 1109, 1, 1000] ws2 := hkeep _ (List.mem_cons_of_mem _ (List.mem_cons_of_mem _ (List.mem_cons_of_mem _ (List.mem_cons_of_mem _ (List.mem_cons_of_mem _ (List.mem_cons_of_mem _ List.mem_cons_self))))))
  have G_RO : fc_m PRD 20 [.ref h2] [60, 0, 3, 198, 2, 3, 4] ws2 := (hpost _ List.mem_cons_self).2
  have G_TA6 : fc_m PRD 20 [.ref h2, .int (nI k)] [50, 1, 0, 0, 1, 3, 2, 0, 0, 1, 1] ws2 := by rw [hkk]; exact G_TA
  have G_TE6 : fc_m PRD 20 [.ref h2, .ref rd, .int (nI k)] [60, 0, 2, 1109, 1, 1000] ws2 := by have z : TEQ (w_ei ws2 (w_ar ws2 (.ref h2) 1)) (w_ei ws2 (w_ar ws2 (.ref rd) 0)) (nI n).toInt := G_TE; have z2 : TEQ (w_ei ws2 (w_ar ws2 (.ref h2) 1)) (w_ei ws2 (w_ar ws2 (.ref rd) 0)) (nI k).toInt := L_tek z (show k ≤ n by omega) hn; exact z2
  have hrd : L_rd ws2 h1 rd := L_rdk hrd (hle1 _ _ a1) hkp (by decide +kernel)
  have tm17 : TN ws1 h1 17 → TN ws2 h1 17 := TN_kp (hle1 _ _ a1) hkp (by decide +kernel)
  have tm20 : TN ws1 h1 20 → TN ws2 h1 20 := TN_kp (hle1 _ _ a1) hkp (by decide +kernel)
  have F_HI := G_HI
  have F_HL := G_HL
  have F_HY6 := G_HY6
  have F_RO := G_RO
  have F_PT := G_PT
  have F_LE6 := G_LE6
  have F_TA6 := G_TA6
  have F_TE := G_TE
  have F_TE6 := G_TE6
  show W p l e room_1 s m #[Value.ref b] below meth c H2 locs2 (cells + 3 + 0) (slots + 3788 + 0) (lw_Z below #[Value.ref b] s) (F0 m 543 ls [.int x2])
  have hS := hS2
  refine lv_pop (pc := 543) hx hb d_law_law_543 rfl ?_
  refine lv_goto (pc := 544) (tgt := 1294) hx hb d_law_law_544 (by decide) ?_
  have q1 : cells + 3 + 0 = cells + 3 := by omega
  have q2 : slots + 3788 + 0 = slots + 3788 := by omega
  rw [q1, q2]
  exact kk k ta2 ws2 H2 locs2 hP2 hD2 hS2 ⟨hth2, ⟨hle2 _ _ (hle1 _ _ a1), hle2 _ _ (hle1 _ _ a2), hle2 _ _ (hle1 _ _ a3), hk⟩, hrd, F_HI, F_HL, F_HY6, F_RO, F_PT, F_LE6, F_TA6, F_TE6⟩ (fun q => tm17 (tn17 q)) (fun q => tm20 (tn20 q))
set_option maxRecDepth 100000 in
set_option maxHeartbeats 4000000 in
/-- back -/
theorem lc_back {p : Program} {e : Env} {s : State} {m : MethodId} {below : List Frame} {meth : Method} {c : Code} {l : Launch} {b L : Nat} {xs : Nat → Int32} (C0 : lw_At p s m meth c b L xs) (hL : L ≤ 3072) {D : va_G} {kA : Nat → ClassId} (hK : va_K D classes (TY kA) s) (hN : nsr kA (fun q : Nat => s.heap.size ≤ q) s) (h_Ho_back : ct_ok PRD l D kA GG y_Ho_back z_Ho_back e_Ho_back) (h_Mo_back : ct_ok PRD l D kA GG y_Mo_back z_Mo_back e_Mo_back) {h1 h2 rd i n : Nat} (hi : i + 6 ≤ L) {ta : Nat → Option Nat} {ws : va_W} {H : Heap} {locs : List Loc} {ls : Array Slot} {cells slots : Nat} (hP : va_P D classes ws H) (hD : va_D (fun q : Nat => s.heap.size ≤ q) ws) (hS : va_S (fun q : Nat => s.heap.size ≤ q) s.heap H locs) (hI : LI kA h1 h2 rd i n ta ws) (hl : lv_has ls 4 [(3, .int (nI i)), (2, .ref h2), (1, .ref h1), (0, .ref b)]) (hc : cells + 0 ≤ 60000) (hs : slots + 0 ≤ 8922250) (kk : ∀ (k : Nat) (ta : Nat → Option Nat) (w2 : va_W) (H : Heap) (locs : List Loc), va_P D classes w2 H → va_D (fun q : Nat => s.heap.size ≤ q) w2 → va_S (fun q : Nat => s.heap.size ≤ q) s.heap H locs → LI kA h1 h2 rd (i + 6) k ta w2 → (TN ws h1 17 → TN w2 h1 17) → (TN ws h1 20 → TN w2 h1 20) → W p l e room_1 s m #[Value.ref b] below meth c H locs (cells + 0) (slots + 0) (lw_Z below #[Value.ref b] s) (F0 m 1294 ls [])) : W p l e room_1 s m #[Value.ref b] below meth c H locs cells slots (lw_Z below #[Value.ref b] s) (F0 m 547 ls []) := by
  obtain ⟨hx, hb, hr, hml, hown, hts0, hX, hbl, hlocks, hgv⟩ := id C0
  have hts : ∀ w ∈ lw_g, w.before #[Value.ref b] s = true := fun w h => hts0 w (lw_gt h)
  have X : cx p s m #[Value.ref b] meth c b_law_law 4 ret "DrawingHouseLaw" meth.name := ⟨hx, hb, hml, hown, hts, hr, hlocks, rfl⟩
  obtain ⟨A, hAe⟩ : ∃ A : Nat → Prop, A = fun q : Nat => s.heap.size ≤ q := ⟨_, rfl⟩
  have hA : ∀ q : Nat, s.heap.size ≤ q → A q := fun q h => by rw [hAe]; exact h
  have hbA : ¬ A b := by rw [hAe]; exact Nat.not_le.mpr hbl
  rw [← hAe] at hD hS hN kk
  obtain ⟨hth, ⟨a1, a2, a3, hn⟩, hrd, F_HI, F_HL, F_HY, F_RO, F_PT, F_LE, F_TA, F_TE⟩ := hI
  obtain ⟨k, hk, hkk⟩ : ∃ k : Nat, k ≤ 2000 ∧ k = n := ⟨n, hn, rfl⟩
  have henv : sy_env ta L_env (L_vs h1 h2 rd i n k) := L_envs a1 a2 a3 (by omega) hn hk
  refine lv_aload_n (pc := 547) hx hb d_law_law_547 rfl (lv_at hl 2 rfl) ?_
  refine lv_aload_n (pc := 548) hx hb d_law_law_548 rfl (lv_at hl 3 rfl) ?_
  refine lv_iload_n (pc := 549) hx hb d_law_law_549 rfl (lv_at hl 0 rfl) ?_
  refine lv_iconst (pc := 550) (v := 1) hx hb d_law_law_550 (by decide) ?_
  refine k_add (pc := 551) (x := i) (y := 1) hx hb d_law_law_551 ?_
  refine sc_ld (pc := 552) (j := i + 1) hx hb hX hbl hbA hS (by omega) (by omega) d_law_law_552 ?_
  refine lv_aload_n (pc := 553) hx hb d_law_law_553 rfl (lv_at hl 3 rfl) ?_
  refine lv_iload_n (pc := 554) hx hb d_law_law_554 rfl (lv_at hl 0 rfl) ?_
  refine lv_iconst (pc := 555) (v := 2) hx hb d_law_law_555 (by decide) ?_
  refine k_add (pc := 556) (x := i) (y := 2) hx hb d_law_law_556 ?_
  refine sc_ld (pc := 557) (j := i + 2) hx hb hX hbl hbA hS (by omega) (by omega) d_law_law_557 ?_
  refine W.eq (g2 := F0 m 558 ls (List.reverse [.ref h1, .int (xs (i + 1)), .int (xs (i + 2))] ++ [])) rfl ?_
  refine (cl_virtual (y := y_Ho_back) (ci := 12) rfl rfl ⟨_, _, rfl⟩ (by decide +kernel) h_Ho_back wm_1001 wm_1 wm_998 wm_999 wm_1000 ⟨by decide, by decide, by decide +kernel⟩ (by decide) : cl_ok PRD l D kA GG "DrawingHouseLaw" _ _ e_Ho_back) p e room_1 s m #[Value.ref b] below meth c H locs cells slots (lw_Z below #[Value.ref b] s) b_law_law 558 4 ret meth.name A ws ta ls [.ref h1, .int (xs (i + 1)), .int (xs (i + 2))] [] [] [] X hK hN hA hP hD hS hth (ag_c (tv_rf a1) (ag_c tv_top (ag_c tv_top (ag_n)))) (gv_n) (ag_n) (show ∀ f ∈ ([(20, [0], [62, 0])] : List fc_T), fc_1 PRD f ws ([.ref h1, .int (xs (i + 1)), .int (xs (i + 2))] ++ [] ++ []) from (List.forall_mem_cons.mpr ⟨⟨nf_in (N := 3) rfl rfl, F_HI⟩, (fun _ h => by cases h)⟩)) (by first | decide | exact Nat.le_of_ble_eq_true rfl) (by first | decide | exact Nat.le_of_ble_eq_true rfl) (by first | decide | exact Nat.le_of_ble_eq_true rfl) (show cells + 0 ≤ 60000 by omega) (show slots + 0 ≤ 8922250 by omega) hl.1 d_law_law_558 (fun ta1 ws1 H1 locs1 r hle1 hth1 hP1 hD1 hS1 hrt hpo _ hkp => ?_)
  obtain ⟨x1, rfl⟩ := rt_i rfl hrt
  have hpost : ∀ f ∈ ([(20, [0], [62, 0])] : List fc_T), fc_1 PRD f ws1 ([.ref h1, .int (xs (i + 1)), .int (xs (i + 2))] ++ [] ++ [] ++ [.int x1]) := hpo.1
  have hkeep := L_keep (M := [(20, [0], [62, 0]), (20, [0], [62, 1000000]), (20, [0, 2], [62, 2000000]), (20, [1], [60, 0, 3, 198, 2, 3, 4]), (20, [1], [60, 0, 3, 367, 110, 111, 112]), (20, [3, 4], [50, 1, 0, 1, 1, 3, 2, 0, 1, 1, 1]), (20, [1, 4], [50, 1, 0, 0, 1, 3, 2, 0, 0, 1, 1]), (20, [1, 3, 4], [60, 0, 2, 1109, 1, 1000])]) (S := [(20, [0], [62, 1000000]), (20, [0, 2], [62, 2000000]), (20, [1], [60, 0, 3, 198, 2, 3, 4]), (20, [1], [60, 0, 3, 367, 110, 111, 112]), (20, [3, 4], [50, 1, 0, 1, 1, 3, 2, 0, 1, 1, 1]), (20, [1, 4], [50, 1, 0, 0, 1, 3, 2, 0, 0, 1, 1]), (20, [1, 3, 4], [60, 0, 2, 1109, 1, 1000])]) hth henv hD hle1 hth1 hD1 hkp (by decide +kernel) (List.forall_mem_cons.mpr ⟨F_HI, (List.forall_mem_cons.mpr ⟨F_HL, (List.forall_mem_cons.mpr ⟨F_HY, (List.forall_mem_cons.mpr ⟨F_RO, (List.forall_mem_cons.mpr ⟨F_PT, (List.forall_mem_cons.mpr ⟨F_LE, (List.forall_mem_cons.mpr ⟨F_TA, (List.forall_mem_cons.mpr ⟨F_TE, (fun _ h => by cases h)⟩)⟩)⟩)⟩)⟩)⟩)⟩)⟩)
  have G_HL : fc_m PRD 20 [.ref h1] [62, 1000000] ws1 := hkeep _ List.mem_cons_self
  have G_HY : fc_m PRD 20 [.ref h1, .int (nI i)] [62, 2000000] ws1 := hkeep _ (List.mem_cons_of_mem _ List.mem_cons_self)
  have G_RO : fc_m PRD 20 [.ref h2] [60, 0, 3, 198, 2, 3, 4] ws1 := hkeep _ (List.mem_cons_of_mem _ (List.mem_cons_of_mem _ List.mem_cons_self))
  have G_PT : fc_m PRD 20 [.ref h2] [60, 0, 3, 367, 110, 111, 112] ws1 := hkeep _ (List.mem_cons_of_mem _ (List.mem_cons_of_mem _ (List.mem_cons_of_mem _ List.mem_cons_self)))
  have G_LE : fc_m PRD 20 [.ref rd, .int (nI n)] [50, 1, 0, 1, 1, 3, 2, 0, 1, 1, 1] ws1 := hkeep _ (List.mem_cons_of_mem _ (List.mem_cons_of_mem _ (List.mem_cons_of_mem _ (List.mem_cons_of_mem _ List.mem_cons_self))))
  have G_TA : fc_m PRD 20 [.ref h2, .int (nI n)] [50, 1, 0, 0, 1, 3, 2, 0, 0, 1, 1] ws1 := hkeep _ (List.mem_cons_of_mem _ (List.mem_cons_of_mem _ (List.mem_cons_of_mem _ (List.mem_cons_of_mem _ (List.mem_cons_of_mem _ List.mem_cons_self)))))
  have G_TE : fc_m PRD 20 [.ref h2, .ref rd, .int (nI n)] [60, 0, 2, 1109, 1, 1000] ws1 := hkeep _ (List.mem_cons_of_mem _ (List.mem_cons_of_mem _ (List.mem_cons_of_mem _ (List.mem_cons_of_mem _ (List.mem_cons_of_mem _ (List.mem_cons_of_mem _ List.mem_cons_self))))))
  have G_HI : fc_m PRD 20 [.ref h1] [62, 0] ws1 := (hpost _ List.mem_cons_self).2
  have G_HY6 : fc_m PRD 20 [.ref h1, .int (nI (i + 6))] [62, 2000000] ws1 := by have z : HY ws1 (.ref h1) ((nI i).toInt + ((2000000 : Nat) - 2000000 : Int)) := G_HY; show HY ws1 (.ref h1) ((nI (i + 6)).toInt + ((2000000 : Nat) - 2000000 : Int)); rw [nI_toInt (by omega)] at z ⊢; exact hy_le z (by omega)
  have G_LE6 : fc_m PRD 20 [.ref rd, .int (nI k)] [50, 1, 0, 1, 1, 3, 2, 0, 1, 1, 1] ws1 := by rw [hkk]; exact G_LE
  have hrd : L_rd ws1 h1 rd := L_rdk hrd a1 hkp (by decide +kernel)
  have tn17 : TN ws h1 17 → TN ws1 h1 17 := TN_kp a1 hkp (by decide +kernel)
  have tn20 : TN ws h1 20 → TN ws1 h1 20 := TN_kp a1 hkp (by decide +kernel)
  have F_HI := G_HI
  have F_HL := G_HL
  have F_HY6 := G_HY6
  have F_RO := G_RO
  have F_PT := G_PT
  have F_LE6 := G_LE6
  have F_TA := G_TA
  have F_TE := G_TE
  show W p l e room_1 s m #[Value.ref b] below meth c H1 locs1 (cells + 0) (slots + 0) (lw_Z below #[Value.ref b] s) (F0 m 561 ls [.int x1])
  have hS := hS1
  refine lv_pop (pc := 561) hx hb d_law_law_561 rfl ?_
  refine lv_aload_n (pc := 562) hx hb d_law_law_562 rfl (lv_at hl 1 rfl) ?_
  refine lv_aload_n (pc := 563) hx hb d_law_law_563 rfl (lv_at hl 3 rfl) ?_
  refine lv_iload_n (pc := 564) hx hb d_law_law_564 rfl (lv_at hl 0 rfl) ?_
  refine lv_iconst (pc := 565) (v := 1) hx hb d_law_law_565 (by decide) ?_
  refine k_add (pc := 566) (x := i) (y := 1) hx hb d_law_law_566 ?_
  refine sc_ld (pc := 567) (j := i + 1) hx hb hX hbl hbA hS (by omega) (by omega) d_law_law_567 ?_
  refine lv_aload_n (pc := 568) hx hb d_law_law_568 rfl (lv_at hl 3 rfl) ?_
  refine lv_iload_n (pc := 569) hx hb d_law_law_569 rfl (lv_at hl 0 rfl) ?_
  refine lv_iconst (pc := 570) (v := 2) hx hb d_law_law_570 (by decide) ?_
  refine k_add (pc := 571) (x := i) (y := 2) hx hb d_law_law_571 ?_
  refine sc_ld (pc := 572) (j := i + 2) hx hb hX hbl hbA hS (by omega) (by omega) d_law_law_572 ?_
  refine W.eq (g2 := F0 m 573 ls (List.reverse [.ref h2, .int (xs (i + 1)), .int (xs (i + 2))] ++ [])) rfl ?_
  refine (cl_virtual (y := y_Mo_back) (ci := 13) rfl rfl ⟨_, _, rfl⟩ (by decide +kernel) h_Mo_back wm_3115 wm_9 wm_3112 wm_3113 wm_3114 ⟨by decide, by decide, by decide +kernel⟩ (by decide) : cl_ok PRD l D kA GG "DrawingHouseLaw" _ _ e_Mo_back) p e room_1 s m #[Value.ref b] below meth c H1 locs1 (cells + 0) (slots + 0) (lw_Z below #[Value.ref b] s) b_law_law 573 4 ret meth.name A ws1 ta1 ls [.ref h2, .int (xs (i + 1)), .int (xs (i + 2))] [] [] [] X hK hN hA hP1 hD1 hS1 hth1 (ag_c (tv_rf (hle1 _ _ a2)) (ag_c tv_top (ag_c tv_top (ag_n)))) (gv_n) (ag_n) (show ∀ f ∈ ([(20, [0], [60, 0, 3, 198, 2, 3, 4])] : List fc_T), fc_1 PRD f ws1 ([.ref h2, .int (xs (i + 1)), .int (xs (i + 2))] ++ [] ++ []) from (List.forall_mem_cons.mpr ⟨⟨nf_in (N := 3) rfl rfl, F_RO⟩, (fun _ h => by cases h)⟩)) (by first | decide | exact Nat.le_of_ble_eq_true rfl) (by first | decide | exact Nat.le_of_ble_eq_true rfl) (by first | decide | exact Nat.le_of_ble_eq_true rfl) (show (cells + 0) + 0 ≤ 60000 by omega) (show (slots + 0) + 0 ≤ 8922250 by omega) hl.1 d_law_law_573 (fun ta2 ws2 H2 locs2 r hle2 hth2 hP2 hD2 hS2 hrt hpo _ hkp => ?_)
  obtain ⟨x2, rfl⟩ := rt_i rfl hrt
  have hpost : ∀ f ∈ ([(20, [0], [60, 0, 3, 198, 2, 3, 4])] : List fc_T), fc_1 PRD f ws2 ([.ref h2, .int (xs (i + 1)), .int (xs (i + 2))] ++ [] ++ [] ++ [.int x2]) := hpo.1
  have hkeep := L_keep (M := [(20, [0], [62, 0]), (20, [0], [62, 1000000]), (20, [0, 6], [62, 2000000]), (20, [1], [60, 0, 3, 198, 2, 3, 4]), (20, [1], [60, 0, 3, 367, 110, 111, 112]), (20, [3, 5], [50, 1, 0, 1, 1, 3, 2, 0, 1, 1, 1]), (20, [1, 4], [50, 1, 0, 0, 1, 3, 2, 0, 0, 1, 1]), (20, [1, 3, 4], [60, 0, 2, 1109, 1, 1000])]) (S := [(20, [0], [62, 0]), (20, [0], [62, 1000000]), (20, [0, 6], [62, 2000000]), (20, [1], [60, 0, 3, 367, 110, 111, 112]), (20, [3, 5], [50, 1, 0, 1, 1, 3, 2, 0, 1, 1, 1]), (20, [1, 4], [50, 1, 0, 0, 1, 3, 2, 0, 0, 1, 1]), (20, [1, 3, 4], [60, 0, 2, 1109, 1, 1000])]) hth1 (sy_env_up hle1 henv) hD1 hle2 hth2 hD2 hkp (by decide +kernel) (List.forall_mem_cons.mpr ⟨F_HI, (List.forall_mem_cons.mpr ⟨F_HL, (List.forall_mem_cons.mpr ⟨F_HY6, (List.forall_mem_cons.mpr ⟨F_RO, (List.forall_mem_cons.mpr ⟨F_PT, (List.forall_mem_cons.mpr ⟨F_LE6, (List.forall_mem_cons.mpr ⟨F_TA, (List.forall_mem_cons.mpr ⟨F_TE, (fun _ h => by cases h)⟩)⟩)⟩)⟩)⟩)⟩)⟩)⟩)
  have G_HI : fc_m PRD 20 [.ref h1] [62, 0] ws2 := hkeep _ List.mem_cons_self
  have G_HL : fc_m PRD 20 [.ref h1] [62, 1000000] ws2 := hkeep _ (List.mem_cons_of_mem _ List.mem_cons_self)
  have G_HY6 : fc_m PRD 20 [.ref h1, .int (nI (i + 6))] [62, 2000000] ws2 := hkeep _ (List.mem_cons_of_mem _ (List.mem_cons_of_mem _ List.mem_cons_self))
  have G_PT : fc_m PRD 20 [.ref h2] [60, 0, 3, 367, 110, 111, 112] ws2 := hkeep _ (List.mem_cons_of_mem _ (List.mem_cons_of_mem _ (List.mem_cons_of_mem _ List.mem_cons_self)))
  have G_LE6 : fc_m PRD 20 [.ref rd, .int (nI k)] [50, 1, 0, 1, 1, 3, 2, 0, 1, 1, 1] ws2 := hkeep _ (List.mem_cons_of_mem _ (List.mem_cons_of_mem _ (List.mem_cons_of_mem _ (List.mem_cons_of_mem _ List.mem_cons_self))))
  have G_TA : fc_m PRD 20 [.ref h2, .int (nI n)] [50, 1, 0, 0, 1, 3, 2, 0, 0, 1, 1] ws2 := hkeep _ (List.mem_cons_of_mem _ (List.mem_cons_of_mem _ (List.mem_cons_of_mem _ (List.mem_cons_of_mem _ (List.mem_cons_of_mem _ List.mem_cons_self)))))
  have G_TE : fc_m PRD 20 [.ref h2, .ref rd, .int (nI n)] [60, 0, 2, 1109, 1, 1000] ws2 := hkeep _ (List.mem_cons_of_mem _ (List.mem_cons_of_mem _ (List.mem_cons_of_mem _ (List.mem_cons_of_mem _ (List.mem_cons_of_mem _ (List.mem_cons_of_mem _ List.mem_cons_self))))))
  have G_RO : fc_m PRD 20 [.ref h2] [60, 0, 3, 198, 2, 3, 4] ws2 := (hpost _ List.mem_cons_self).2
  have G_TA6 : fc_m PRD 20 [.ref h2, .int (nI k)] [50, 1, 0, 0, 1, 3, 2, 0, 0, 1, 1] ws2 := by rw [hkk]; exact G_TA
  have G_TE6 : fc_m PRD 20 [.ref h2, .ref rd, .int (nI k)] [60, 0, 2, 1109, 1, 1000] ws2 := by have z : TEQ (w_ei ws2 (w_ar ws2 (.ref h2) 1)) (w_ei ws2 (w_ar ws2 (.ref rd) 0)) (nI n).toInt := G_TE; have z2 : TEQ (w_ei ws2 (w_ar ws2 (.ref h2) 1)) (w_ei ws2 (w_ar ws2 (.ref rd) 0)) (nI k).toInt := L_tek z (show k ≤ n by omega) hn; exact z2
  have hrd : L_rd ws2 h1 rd := L_rdk hrd (hle1 _ _ a1) hkp (by decide +kernel)
  have tm17 : TN ws1 h1 17 → TN ws2 h1 17 := TN_kp (hle1 _ _ a1) hkp (by decide +kernel)
  have tm20 : TN ws1 h1 20 → TN ws2 h1 20 := TN_kp (hle1 _ _ a1) hkp (by decide +kernel)
  have F_HI := G_HI
  have F_HL := G_HL
  have F_HY6 := G_HY6
  have F_RO := G_RO
  have F_PT := G_PT
  have F_LE6 := G_LE6
  have F_TA6 := G_TA6
  have F_TE := G_TE
  have F_TE6 := G_TE6
  show W p l e room_1 s m #[Value.ref b] below meth c H2 locs2 (cells + 0 + 0) (slots + 0 + 0) (lw_Z below #[Value.ref b] s) (F0 m 576 ls [.int x2])
  have hS := hS2
  refine lv_pop (pc := 576) hx hb d_law_law_576 rfl ?_
  refine lv_goto (pc := 577) (tgt := 1294) hx hb d_law_law_577 (by decide) ?_
  have q1 : cells + 0 + 0 = cells + 0 := by omega
  have q2 : slots + 0 + 0 = slots + 0 := by omega
  rw [q1, q2]
  exact kk k ta2 ws2 H2 locs2 hP2 hD2 hS2 ⟨hth2, ⟨hle2 _ _ (hle1 _ _ a1), hle2 _ _ (hle1 _ _ a2), hle2 _ _ (hle1 _ _ a3), hk⟩, hrd, F_HI, F_HL, F_HY6, F_RO, F_PT, F_LE6, F_TA6, F_TE6⟩ (fun q => tm17 (tn17 q)) (fun q => tm20 (tn20 q))
set_option maxRecDepth 100000 in
set_option maxHeartbeats 4000000 in
/-- far -/
theorem lc_far {p : Program} {e : Env} {s : State} {m : MethodId} {below : List Frame} {meth : Method} {c : Code} {l : Launch} {b L : Nat} {xs : Nat → Int32} (C0 : lw_At p s m meth c b L xs) (hL : L ≤ 3072) {D : va_G} {kA : Nat → ClassId} (hK : va_K D classes (TY kA) s) (hN : nsr kA (fun q : Nat => s.heap.size ≤ q) s) (h_Ho_far : ct_ok PRD l D kA GG y_Ho_far z_Ho_far e_Ho_far) (h_Mo_far : ct_ok PRD l D kA GG y_Mo_far z_Mo_far e_Mo_far) {h1 h2 rd i n : Nat} (hi : i + 6 ≤ L) {ta : Nat → Option Nat} {ws : va_W} {H : Heap} {locs : List Loc} {ls : Array Slot} {cells slots : Nat} (hP : va_P D classes ws H) (hD : va_D (fun q : Nat => s.heap.size ≤ q) ws) (hS : va_S (fun q : Nat => s.heap.size ≤ q) s.heap H locs) (hI : LI kA h1 h2 rd i n ta ws) (hl : lv_has ls 4 [(3, .int (nI i)), (2, .ref h2), (1, .ref h1), (0, .ref b)]) (hc : cells + 0 ≤ 60000) (hs : slots + 0 ≤ 8922250) (kk : ∀ (k : Nat) (ta : Nat → Option Nat) (w2 : va_W) (H : Heap) (locs : List Loc), va_P D classes w2 H → va_D (fun q : Nat => s.heap.size ≤ q) w2 → va_S (fun q : Nat => s.heap.size ≤ q) s.heap H locs → LI kA h1 h2 rd (i + 6) k ta w2 → (TN ws h1 17 → TN w2 h1 17) → (TN ws h1 20 → TN w2 h1 20) → W p l e room_1 s m #[Value.ref b] below meth c H locs (cells + 0) (slots + 0) (lw_Z below #[Value.ref b] s) (F0 m 1294 ls [])) : W p l e room_1 s m #[Value.ref b] below meth c H locs cells slots (lw_Z below #[Value.ref b] s) (F0 m 580 ls []) := by
  obtain ⟨hx, hb, hr, hml, hown, hts0, hX, hbl, hlocks, hgv⟩ := id C0
  have hts : ∀ w ∈ lw_g, w.before #[Value.ref b] s = true := fun w h => hts0 w (lw_gt h)
  have X : cx p s m #[Value.ref b] meth c b_law_law 4 ret "DrawingHouseLaw" meth.name := ⟨hx, hb, hml, hown, hts, hr, hlocks, rfl⟩
  obtain ⟨A, hAe⟩ : ∃ A : Nat → Prop, A = fun q : Nat => s.heap.size ≤ q := ⟨_, rfl⟩
  have hA : ∀ q : Nat, s.heap.size ≤ q → A q := fun q h => by rw [hAe]; exact h
  have hbA : ¬ A b := by rw [hAe]; exact Nat.not_le.mpr hbl
  rw [← hAe] at hD hS hN kk
  obtain ⟨hth, ⟨a1, a2, a3, hn⟩, hrd, F_HI, F_HL, F_HY, F_RO, F_PT, F_LE, F_TA, F_TE⟩ := hI
  obtain ⟨k, hk, hkk⟩ : ∃ k : Nat, k ≤ 2000 ∧ k = n := ⟨n, hn, rfl⟩
  have henv : sy_env ta L_env (L_vs h1 h2 rd i n k) := L_envs a1 a2 a3 (by omega) hn hk
  refine lv_aload_n (pc := 580) hx hb d_law_law_580 rfl (lv_at hl 2 rfl) ?_
  refine lv_aload_n (pc := 581) hx hb d_law_law_581 rfl (lv_at hl 3 rfl) ?_
  refine lv_iload_n (pc := 582) hx hb d_law_law_582 rfl (lv_at hl 0 rfl) ?_
  refine lv_iconst (pc := 583) (v := 1) hx hb d_law_law_583 (by decide) ?_
  refine k_add (pc := 584) (x := i) (y := 1) hx hb d_law_law_584 ?_
  refine sc_ld (pc := 585) (j := i + 1) hx hb hX hbl hbA hS (by omega) (by omega) d_law_law_585 ?_
  refine lv_aload_n (pc := 586) hx hb d_law_law_586 rfl (lv_at hl 3 rfl) ?_
  refine lv_iload_n (pc := 587) hx hb d_law_law_587 rfl (lv_at hl 0 rfl) ?_
  refine lv_iconst (pc := 588) (v := 2) hx hb d_law_law_588 (by decide) ?_
  refine k_add (pc := 589) (x := i) (y := 2) hx hb d_law_law_589 ?_
  refine sc_ld (pc := 590) (j := i + 2) hx hb hX hbl hbA hS (by omega) (by omega) d_law_law_590 ?_
  refine lv_aload_n (pc := 591) hx hb d_law_law_591 rfl (lv_at hl 3 rfl) ?_
  refine lv_iload_n (pc := 592) hx hb d_law_law_592 rfl (lv_at hl 0 rfl) ?_
  refine lv_iconst (pc := 593) (v := 3) hx hb d_law_law_593 (by decide) ?_
  refine k_add (pc := 594) (x := i) (y := 3) hx hb d_law_law_594 ?_
  refine sc_ld (pc := 595) (j := i + 3) hx hb hX hbl hbA hS (by omega) (by omega) d_law_law_595 ?_
  refine W.eq (g2 := F0 m 596 ls (List.reverse [.ref h1, .int (xs (i + 1)), .int (xs (i + 2)), .int (xs (i + 3))] ++ [])) rfl ?_
  refine (cl_virtual (y := y_Ho_far) (ci := 12) rfl rfl ⟨_, _, rfl⟩ (by decide +kernel) h_Ho_far wm_1017 wm_1 wm_1014 wm_1015 wm_1016 ⟨by decide, by decide, by decide +kernel⟩ (by decide) : cl_ok PRD l D kA GG "DrawingHouseLaw" _ _ e_Ho_far) p e room_1 s m #[Value.ref b] below meth c H locs cells slots (lw_Z below #[Value.ref b] s) b_law_law 596 4 ret meth.name A ws ta ls [.ref h1, .int (xs (i + 1)), .int (xs (i + 2)), .int (xs (i + 3))] [] [] [] X hK hN hA hP hD hS hth (ag_c (tv_rf a1) (ag_c tv_top (ag_c tv_top (ag_c tv_top (ag_n))))) (gv_n) (ag_n) (fun _ h => by cases h) (by first | decide | exact Nat.le_of_ble_eq_true rfl) (by first | decide | exact Nat.le_of_ble_eq_true rfl) (by first | decide | exact Nat.le_of_ble_eq_true rfl) (show cells + 0 ≤ 60000 by omega) (show slots + 0 ≤ 8922250 by omega) hl.1 d_law_law_596 (fun ta1 ws1 H1 locs1 r hle1 hth1 hP1 hD1 hS1 hrt hpo _ hkp => ?_)
  obtain ⟨x1, rfl⟩ := rt_i rfl hrt
  have hpost : ∀ f ∈ ([] : List fc_T), fc_1 PRD f ws1 ([.ref h1, .int (xs (i + 1)), .int (xs (i + 2)), .int (xs (i + 3))] ++ [] ++ [] ++ [.int x1]) := hpo.1
  have hkeep := L_keep (M := [(20, [0], [62, 0]), (20, [0], [62, 1000000]), (20, [0, 2], [62, 2000000]), (20, [1], [60, 0, 3, 198, 2, 3, 4]), (20, [1], [60, 0, 3, 367, 110, 111, 112]), (20, [3, 4], [50, 1, 0, 1, 1, 3, 2, 0, 1, 1, 1]), (20, [1, 4], [50, 1, 0, 0, 1, 3, 2, 0, 0, 1, 1]), (20, [1, 3, 4], [60, 0, 2, 1109, 1, 1000])]) (S := [(20, [0], [62, 0]), (20, [0], [62, 1000000]), (20, [0, 2], [62, 2000000]), (20, [1], [60, 0, 3, 198, 2, 3, 4]), (20, [1], [60, 0, 3, 367, 110, 111, 112]), (20, [3, 4], [50, 1, 0, 1, 1, 3, 2, 0, 1, 1, 1]), (20, [1, 4], [50, 1, 0, 0, 1, 3, 2, 0, 0, 1, 1]), (20, [1, 3, 4], [60, 0, 2, 1109, 1, 1000])]) hth henv hD hle1 hth1 hD1 hkp (by decide +kernel) (List.forall_mem_cons.mpr ⟨F_HI, (List.forall_mem_cons.mpr ⟨F_HL, (List.forall_mem_cons.mpr ⟨F_HY, (List.forall_mem_cons.mpr ⟨F_RO, (List.forall_mem_cons.mpr ⟨F_PT, (List.forall_mem_cons.mpr ⟨F_LE, (List.forall_mem_cons.mpr ⟨F_TA, (List.forall_mem_cons.mpr ⟨F_TE, (fun _ h => by cases h)⟩)⟩)⟩)⟩)⟩)⟩)⟩)⟩)
  have G_HI : fc_m PRD 20 [.ref h1] [62, 0] ws1 := hkeep _ List.mem_cons_self
  have G_HL : fc_m PRD 20 [.ref h1] [62, 1000000] ws1 := hkeep _ (List.mem_cons_of_mem _ List.mem_cons_self)
  have G_HY : fc_m PRD 20 [.ref h1, .int (nI i)] [62, 2000000] ws1 := hkeep _ (List.mem_cons_of_mem _ (List.mem_cons_of_mem _ List.mem_cons_self))
  have G_RO : fc_m PRD 20 [.ref h2] [60, 0, 3, 198, 2, 3, 4] ws1 := hkeep _ (List.mem_cons_of_mem _ (List.mem_cons_of_mem _ (List.mem_cons_of_mem _ List.mem_cons_self)))
  have G_PT : fc_m PRD 20 [.ref h2] [60, 0, 3, 367, 110, 111, 112] ws1 := hkeep _ (List.mem_cons_of_mem _ (List.mem_cons_of_mem _ (List.mem_cons_of_mem _ (List.mem_cons_of_mem _ List.mem_cons_self))))
  have G_LE : fc_m PRD 20 [.ref rd, .int (nI n)] [50, 1, 0, 1, 1, 3, 2, 0, 1, 1, 1] ws1 := hkeep _ (List.mem_cons_of_mem _ (List.mem_cons_of_mem _ (List.mem_cons_of_mem _ (List.mem_cons_of_mem _ (List.mem_cons_of_mem _ List.mem_cons_self)))))
  have G_TA : fc_m PRD 20 [.ref h2, .int (nI n)] [50, 1, 0, 0, 1, 3, 2, 0, 0, 1, 1] ws1 := hkeep _ (List.mem_cons_of_mem _ (List.mem_cons_of_mem _ (List.mem_cons_of_mem _ (List.mem_cons_of_mem _ (List.mem_cons_of_mem _ (List.mem_cons_of_mem _ List.mem_cons_self))))))
  have G_TE : fc_m PRD 20 [.ref h2, .ref rd, .int (nI n)] [60, 0, 2, 1109, 1, 1000] ws1 := hkeep _ (List.mem_cons_of_mem _ (List.mem_cons_of_mem _ (List.mem_cons_of_mem _ (List.mem_cons_of_mem _ (List.mem_cons_of_mem _ (List.mem_cons_of_mem _ (List.mem_cons_of_mem _ List.mem_cons_self)))))))
  have G_HY6 : fc_m PRD 20 [.ref h1, .int (nI (i + 6))] [62, 2000000] ws1 := by have z : HY ws1 (.ref h1) ((nI i).toInt + ((2000000 : Nat) - 2000000 : Int)) := G_HY; show HY ws1 (.ref h1) ((nI (i + 6)).toInt + ((2000000 : Nat) - 2000000 : Int)); rw [nI_toInt (by omega)] at z ⊢; exact hy_le z (by omega)
  have G_LE6 : fc_m PRD 20 [.ref rd, .int (nI k)] [50, 1, 0, 1, 1, 3, 2, 0, 1, 1, 1] ws1 := by rw [hkk]; exact G_LE
  have hrd : L_rd ws1 h1 rd := L_rdk hrd a1 hkp (by decide +kernel)
  have tn17 : TN ws h1 17 → TN ws1 h1 17 := TN_kp a1 hkp (by decide +kernel)
  have tn20 : TN ws h1 20 → TN ws1 h1 20 := TN_kp a1 hkp (by decide +kernel)
  have F_HI := G_HI
  have F_HL := G_HL
  have F_HY6 := G_HY6
  have F_RO := G_RO
  have F_PT := G_PT
  have F_LE6 := G_LE6
  have F_TA := G_TA
  have F_TE := G_TE
  show W p l e room_1 s m #[Value.ref b] below meth c H1 locs1 (cells + 0) (slots + 0) (lw_Z below #[Value.ref b] s) (F0 m 599 ls [.int x1])
  have hS := hS1
  refine lv_pop (pc := 599) hx hb d_law_law_599 rfl ?_
  refine lv_aload_n (pc := 600) hx hb d_law_law_600 rfl (lv_at hl 1 rfl) ?_
  refine lv_aload_n (pc := 601) hx hb d_law_law_601 rfl (lv_at hl 3 rfl) ?_
  refine lv_iload_n (pc := 602) hx hb d_law_law_602 rfl (lv_at hl 0 rfl) ?_
  refine lv_iconst (pc := 603) (v := 1) hx hb d_law_law_603 (by decide) ?_
  refine k_add (pc := 604) (x := i) (y := 1) hx hb d_law_law_604 ?_
  refine sc_ld (pc := 605) (j := i + 1) hx hb hX hbl hbA hS (by omega) (by omega) d_law_law_605 ?_
  refine lv_aload_n (pc := 606) hx hb d_law_law_606 rfl (lv_at hl 3 rfl) ?_
  refine lv_iload_n (pc := 607) hx hb d_law_law_607 rfl (lv_at hl 0 rfl) ?_
  refine lv_iconst (pc := 608) (v := 2) hx hb d_law_law_608 (by decide) ?_
  refine k_add (pc := 609) (x := i) (y := 2) hx hb d_law_law_609 ?_
  refine sc_ld (pc := 610) (j := i + 2) hx hb hX hbl hbA hS (by omega) (by omega) d_law_law_610 ?_
  refine lv_aload_n (pc := 611) hx hb d_law_law_611 rfl (lv_at hl 3 rfl) ?_
  refine lv_iload_n (pc := 612) hx hb d_law_law_612 rfl (lv_at hl 0 rfl) ?_
  refine lv_iconst (pc := 613) (v := 3) hx hb d_law_law_613 (by decide) ?_
  refine k_add (pc := 614) (x := i) (y := 3) hx hb d_law_law_614 ?_
  refine sc_ld (pc := 615) (j := i + 3) hx hb hX hbl hbA hS (by omega) (by omega) d_law_law_615 ?_
  refine W.eq (g2 := F0 m 616 ls (List.reverse [.ref h2, .int (xs (i + 1)), .int (xs (i + 2)), .int (xs (i + 3))] ++ [])) rfl ?_
  refine (cl_virtual (y := y_Mo_far) (ci := 13) rfl rfl ⟨_, _, rfl⟩ (by decide +kernel) h_Mo_far wm_3363 wm_9 wm_3360 wm_3361 wm_3362 ⟨by decide, by decide, by decide +kernel⟩ (by decide) : cl_ok PRD l D kA GG "DrawingHouseLaw" _ _ e_Mo_far) p e room_1 s m #[Value.ref b] below meth c H1 locs1 (cells + 0) (slots + 0) (lw_Z below #[Value.ref b] s) b_law_law 616 4 ret meth.name A ws1 ta1 ls [.ref h2, .int (xs (i + 1)), .int (xs (i + 2)), .int (xs (i + 3))] [] [] [] X hK hN hA hP1 hD1 hS1 hth1 (ag_c (tv_rf (hle1 _ _ a2)) (ag_c tv_top (ag_c tv_top (ag_c tv_top (ag_n))))) (gv_n) (ag_n) (fun _ h => by cases h) (by first | decide | exact Nat.le_of_ble_eq_true rfl) (by first | decide | exact Nat.le_of_ble_eq_true rfl) (by first | decide | exact Nat.le_of_ble_eq_true rfl) (show (cells + 0) + 0 ≤ 60000 by omega) (show (slots + 0) + 0 ≤ 8922250 by omega) hl.1 d_law_law_616 (fun ta2 ws2 H2 locs2 r hle2 hth2 hP2 hD2 hS2 hrt hpo _ hkp => ?_)
  obtain ⟨x2, rfl⟩ := rt_i rfl hrt
  have hpost : ∀ f ∈ ([] : List fc_T), fc_1 PRD f ws2 ([.ref h2, .int (xs (i + 1)), .int (xs (i + 2)), .int (xs (i + 3))] ++ [] ++ [] ++ [.int x2]) := hpo.1
  have hkeep := L_keep (M := [(20, [0], [62, 0]), (20, [0], [62, 1000000]), (20, [0, 6], [62, 2000000]), (20, [1], [60, 0, 3, 198, 2, 3, 4]), (20, [1], [60, 0, 3, 367, 110, 111, 112]), (20, [3, 5], [50, 1, 0, 1, 1, 3, 2, 0, 1, 1, 1]), (20, [1, 4], [50, 1, 0, 0, 1, 3, 2, 0, 0, 1, 1]), (20, [1, 3, 4], [60, 0, 2, 1109, 1, 1000])]) (S := [(20, [0], [62, 0]), (20, [0], [62, 1000000]), (20, [0, 6], [62, 2000000]), (20, [1], [60, 0, 3, 198, 2, 3, 4]), (20, [1], [60, 0, 3, 367, 110, 111, 112]), (20, [3, 5], [50, 1, 0, 1, 1, 3, 2, 0, 1, 1, 1]), (20, [1, 4], [50, 1, 0, 0, 1, 3, 2, 0, 0, 1, 1]), (20, [1, 3, 4], [60, 0, 2, 1109, 1, 1000])]) hth1 (sy_env_up hle1 henv) hD1 hle2 hth2 hD2 hkp (by decide +kernel) (List.forall_mem_cons.mpr ⟨F_HI, (List.forall_mem_cons.mpr ⟨F_HL, (List.forall_mem_cons.mpr ⟨F_HY6, (List.forall_mem_cons.mpr ⟨F_RO, (List.forall_mem_cons.mpr ⟨F_PT, (List.forall_mem_cons.mpr ⟨F_LE6, (List.forall_mem_cons.mpr ⟨F_TA, (List.forall_mem_cons.mpr ⟨F_TE, (fun _ h => by cases h)⟩)⟩)⟩)⟩)⟩)⟩)⟩)⟩)
  have G_HI : fc_m PRD 20 [.ref h1] [62, 0] ws2 := hkeep _ List.mem_cons_self
  have G_HL : fc_m PRD 20 [.ref h1] [62, 1000000] ws2 := hkeep _ (List.mem_cons_of_mem _ List.mem_cons_self)
  have G_HY6 : fc_m PRD 20 [.ref h1, .int (nI (i + 6))] [62, 2000000] ws2 := hkeep _ (List.mem_cons_of_mem _ (List.mem_cons_of_mem _ List.mem_cons_self))
  have G_RO : fc_m PRD 20 [.ref h2] [60, 0, 3, 198, 2, 3, 4] ws2 := hkeep _ (List.mem_cons_of_mem _ (List.mem_cons_of_mem _ (List.mem_cons_of_mem _ List.mem_cons_self)))
  have G_PT : fc_m PRD 20 [.ref h2] [60, 0, 3, 367, 110, 111, 112] ws2 := hkeep _ (List.mem_cons_of_mem _ (List.mem_cons_of_mem _ (List.mem_cons_of_mem _ (List.mem_cons_of_mem _ List.mem_cons_self))))
  have G_LE6 : fc_m PRD 20 [.ref rd, .int (nI k)] [50, 1, 0, 1, 1, 3, 2, 0, 1, 1, 1] ws2 := hkeep _ (List.mem_cons_of_mem _ (List.mem_cons_of_mem _ (List.mem_cons_of_mem _ (List.mem_cons_of_mem _ (List.mem_cons_of_mem _ List.mem_cons_self)))))
  have G_TA : fc_m PRD 20 [.ref h2, .int (nI n)] [50, 1, 0, 0, 1, 3, 2, 0, 0, 1, 1] ws2 := hkeep _ (List.mem_cons_of_mem _ (List.mem_cons_of_mem _ (List.mem_cons_of_mem _ (List.mem_cons_of_mem _ (List.mem_cons_of_mem _ (List.mem_cons_of_mem _ List.mem_cons_self))))))
  have G_TE : fc_m PRD 20 [.ref h2, .ref rd, .int (nI n)] [60, 0, 2, 1109, 1, 1000] ws2 := hkeep _ (List.mem_cons_of_mem _ (List.mem_cons_of_mem _ (List.mem_cons_of_mem _ (List.mem_cons_of_mem _ (List.mem_cons_of_mem _ (List.mem_cons_of_mem _ (List.mem_cons_of_mem _ List.mem_cons_self)))))))
  have G_TA6 : fc_m PRD 20 [.ref h2, .int (nI k)] [50, 1, 0, 0, 1, 3, 2, 0, 0, 1, 1] ws2 := by rw [hkk]; exact G_TA
  have G_TE6 : fc_m PRD 20 [.ref h2, .ref rd, .int (nI k)] [60, 0, 2, 1109, 1, 1000] ws2 := by have z : TEQ (w_ei ws2 (w_ar ws2 (.ref h2) 1)) (w_ei ws2 (w_ar ws2 (.ref rd) 0)) (nI n).toInt := G_TE; have z2 : TEQ (w_ei ws2 (w_ar ws2 (.ref h2) 1)) (w_ei ws2 (w_ar ws2 (.ref rd) 0)) (nI k).toInt := L_tek z (show k ≤ n by omega) hn; exact z2
  have hrd : L_rd ws2 h1 rd := L_rdk hrd (hle1 _ _ a1) hkp (by decide +kernel)
  have tm17 : TN ws1 h1 17 → TN ws2 h1 17 := TN_kp (hle1 _ _ a1) hkp (by decide +kernel)
  have tm20 : TN ws1 h1 20 → TN ws2 h1 20 := TN_kp (hle1 _ _ a1) hkp (by decide +kernel)
  have F_HI := G_HI
  have F_HL := G_HL
  have F_HY6 := G_HY6
  have F_RO := G_RO
  have F_PT := G_PT
  have F_LE6 := G_LE6
  have F_TA6 := G_TA6
  have F_TE := G_TE
  have F_TE6 := G_TE6
  show W p l e room_1 s m #[Value.ref b] below meth c H2 locs2 (cells + 0 + 0) (slots + 0 + 0) (lw_Z below #[Value.ref b] s) (F0 m 619 ls [.int x2])
  have hS := hS2
  refine lv_pop (pc := 619) hx hb d_law_law_619 rfl ?_
  refine lv_goto (pc := 620) (tgt := 1294) hx hb d_law_law_620 (by decide) ?_
  have q1 : cells + 0 + 0 = cells + 0 := by omega
  have q2 : slots + 0 + 0 = slots + 0 := by omega
  rw [q1, q2]
  exact kk k ta2 ws2 H2 locs2 hP2 hD2 hS2 ⟨hth2, ⟨hle2 _ _ (hle1 _ _ a1), hle2 _ _ (hle1 _ _ a2), hle2 _ _ (hle1 _ _ a3), hk⟩, hrd, F_HI, F_HL, F_HY6, F_RO, F_PT, F_LE6, F_TA6, F_TE6⟩ (fun q => tm17 (tn17 q)) (fun q => tm20 (tn20 q))
set_option maxRecDepth 100000 in
set_option maxHeartbeats 4000000 in
/-- same -/
theorem lc_same {p : Program} {e : Env} {s : State} {m : MethodId} {below : List Frame} {meth : Method} {c : Code} {l : Launch} {b L : Nat} {xs : Nat → Int32} (C0 : lw_At p s m meth c b L xs) (hL : L ≤ 3072) {D : va_G} {kA : Nat → ClassId} (hK : va_K D classes (TY kA) s) (hN : nsr kA (fun q : Nat => s.heap.size ≤ q) s) (h_Ho_same : ct_ok PRD l D kA GG y_Ho_same z_Ho_same e_Ho_same) (h_Mo_same : ct_ok PRD l D kA GG y_Mo_same z_Mo_same e_Mo_same) {h1 h2 rd i n : Nat} (hi : i + 6 ≤ L) {ta : Nat → Option Nat} {ws : va_W} {H : Heap} {locs : List Loc} {ls : Array Slot} {cells slots : Nat} (hP : va_P D classes ws H) (hD : va_D (fun q : Nat => s.heap.size ≤ q) ws) (hS : va_S (fun q : Nat => s.heap.size ≤ q) s.heap H locs) (hI : LI kA h1 h2 rd i n ta ws) (hl : lv_has ls 4 [(3, .int (nI i)), (2, .ref h2), (1, .ref h1), (0, .ref b)]) (hc : cells + 1 ≤ 60000) (hs : slots + 24 ≤ 8922250) (kk : ∀ (k : Nat) (ta : Nat → Option Nat) (w2 : va_W) (H : Heap) (locs : List Loc), va_P D classes w2 H → va_D (fun q : Nat => s.heap.size ≤ q) w2 → va_S (fun q : Nat => s.heap.size ≤ q) s.heap H locs → LI kA h1 h2 rd (i + 6) k ta w2 → (TN ws h1 17 → TN w2 h1 17) → (TN ws h1 20 → TN w2 h1 20) → W p l e room_1 s m #[Value.ref b] below meth c H locs (cells + 1) (slots + 24) (lw_Z below #[Value.ref b] s) (F0 m 1294 ls [])) : W p l e room_1 s m #[Value.ref b] below meth c H locs cells slots (lw_Z below #[Value.ref b] s) (F0 m 623 ls []) := by
  obtain ⟨hx, hb, hr, hml, hown, hts0, hX, hbl, hlocks, hgv⟩ := id C0
  have hts : ∀ w ∈ lw_g, w.before #[Value.ref b] s = true := fun w h => hts0 w (lw_gt h)
  have X : cx p s m #[Value.ref b] meth c b_law_law 4 ret "DrawingHouseLaw" meth.name := ⟨hx, hb, hml, hown, hts, hr, hlocks, rfl⟩
  obtain ⟨A, hAe⟩ : ∃ A : Nat → Prop, A = fun q : Nat => s.heap.size ≤ q := ⟨_, rfl⟩
  have hA : ∀ q : Nat, s.heap.size ≤ q → A q := fun q h => by rw [hAe]; exact h
  have hbA : ¬ A b := by rw [hAe]; exact Nat.not_le.mpr hbl
  rw [← hAe] at hD hS hN kk
  obtain ⟨hth, ⟨a1, a2, a3, hn⟩, hrd, F_HI, F_HL, F_HY, F_RO, F_PT, F_LE, F_TA, F_TE⟩ := hI
  obtain ⟨k, hk, hkk⟩ : ∃ k : Nat, k ≤ 2000 ∧ k = n := ⟨n, hn, rfl⟩
  have henv : sy_env ta L_env (L_vs h1 h2 rd i n k) := L_envs a1 a2 a3 (by omega) hn hk
  refine lv_aload_n (pc := 623) hx hb d_law_law_623 rfl (lv_at hl 2 rfl) ?_
  refine lv_aload_n (pc := 624) hx hb d_law_law_624 rfl (lv_at hl 3 rfl) ?_
  refine lv_iload_n (pc := 625) hx hb d_law_law_625 rfl (lv_at hl 0 rfl) ?_
  refine lv_iconst (pc := 626) (v := 1) hx hb d_law_law_626 (by decide) ?_
  refine k_add (pc := 627) (x := i) (y := 1) hx hb d_law_law_627 ?_
  refine sc_ld (pc := 628) (j := i + 1) hx hb hX hbl hbA hS (by omega) (by omega) d_law_law_628 ?_
  refine lv_aload_n (pc := 629) hx hb d_law_law_629 rfl (lv_at hl 3 rfl) ?_
  refine lv_iload_n (pc := 630) hx hb d_law_law_630 rfl (lv_at hl 0 rfl) ?_
  refine lv_iconst (pc := 631) (v := 2) hx hb d_law_law_631 (by decide) ?_
  refine k_add (pc := 632) (x := i) (y := 2) hx hb d_law_law_632 ?_
  refine sc_ld (pc := 633) (j := i + 2) hx hb hX hbl hbA hS (by omega) (by omega) d_law_law_633 ?_
  refine W.eq (g2 := F0 m 634 ls (List.reverse [.ref h1, .int (xs (i + 1)), .int (xs (i + 2))] ++ [])) rfl ?_
  refine (cl_virtual (y := y_Ho_same) (ci := 12) rfl rfl ⟨_, _, rfl⟩ (by decide +kernel) h_Ho_same wm_1026 wm_1 wm_1023 wm_1024 wm_1025 ⟨by decide, by decide, by decide +kernel⟩ (by decide) : cl_ok PRD l D kA GG "DrawingHouseLaw" _ _ e_Ho_same) p e room_1 s m #[Value.ref b] below meth c H locs cells slots (lw_Z below #[Value.ref b] s) b_law_law 634 4 ret meth.name A ws ta ls [.ref h1, .int (xs (i + 1)), .int (xs (i + 2))] [] [] [] X hK hN hA hP hD hS hth (ag_c (tv_rf a1) (ag_c tv_top (ag_c tv_top (ag_n)))) (gv_n) (ag_n) (fun _ h => by cases h) (by first | decide | exact Nat.le_of_ble_eq_true rfl) (by first | decide | exact Nat.le_of_ble_eq_true rfl) (by first | decide | exact Nat.le_of_ble_eq_true rfl) (show cells + 1 ≤ 60000 by omega) (show slots + 24 ≤ 8922250 by omega) hl.1 d_law_law_634 (fun ta1 ws1 H1 locs1 r hle1 hth1 hP1 hD1 hS1 hrt hpo _ hkp => ?_)
  obtain ⟨x1, rfl⟩ := rt_i rfl hrt
  have hpost : ∀ f ∈ ([] : List fc_T), fc_1 PRD f ws1 ([.ref h1, .int (xs (i + 1)), .int (xs (i + 2))] ++ [] ++ [] ++ [.int x1]) := hpo.1
  have hkeep := L_keep (M := [(20, [0], [62, 0]), (20, [0], [62, 1000000]), (20, [0, 2], [62, 2000000]), (20, [1], [60, 0, 3, 198, 2, 3, 4]), (20, [1], [60, 0, 3, 367, 110, 111, 112]), (20, [3, 4], [50, 1, 0, 1, 1, 3, 2, 0, 1, 1, 1]), (20, [1, 4], [50, 1, 0, 0, 1, 3, 2, 0, 0, 1, 1]), (20, [1, 3, 4], [60, 0, 2, 1109, 1, 1000])]) (S := [(20, [0], [62, 0]), (20, [0], [62, 1000000]), (20, [0, 2], [62, 2000000]), (20, [1], [60, 0, 3, 198, 2, 3, 4]), (20, [1], [60, 0, 3, 367, 110, 111, 112]), (20, [3, 4], [50, 1, 0, 1, 1, 3, 2, 0, 1, 1, 1]), (20, [1, 4], [50, 1, 0, 0, 1, 3, 2, 0, 0, 1, 1]), (20, [1, 3, 4], [60, 0, 2, 1109, 1, 1000])]) hth henv hD hle1 hth1 hD1 hkp (by decide +kernel) (List.forall_mem_cons.mpr ⟨F_HI, (List.forall_mem_cons.mpr ⟨F_HL, (List.forall_mem_cons.mpr ⟨F_HY, (List.forall_mem_cons.mpr ⟨F_RO, (List.forall_mem_cons.mpr ⟨F_PT, (List.forall_mem_cons.mpr ⟨F_LE, (List.forall_mem_cons.mpr ⟨F_TA, (List.forall_mem_cons.mpr ⟨F_TE, (fun _ h => by cases h)⟩)⟩)⟩)⟩)⟩)⟩)⟩)⟩)
  have G_HI : fc_m PRD 20 [.ref h1] [62, 0] ws1 := hkeep _ List.mem_cons_self
  have G_HL : fc_m PRD 20 [.ref h1] [62, 1000000] ws1 := hkeep _ (List.mem_cons_of_mem _ List.mem_cons_self)
  have G_HY : fc_m PRD 20 [.ref h1, .int (nI i)] [62, 2000000] ws1 := hkeep _ (List.mem_cons_of_mem _ (List.mem_cons_of_mem _ List.mem_cons_self))
  have G_RO : fc_m PRD 20 [.ref h2] [60, 0, 3, 198, 2, 3, 4] ws1 := hkeep _ (List.mem_cons_of_mem _ (List.mem_cons_of_mem _ (List.mem_cons_of_mem _ List.mem_cons_self)))
  have G_PT : fc_m PRD 20 [.ref h2] [60, 0, 3, 367, 110, 111, 112] ws1 := hkeep _ (List.mem_cons_of_mem _ (List.mem_cons_of_mem _ (List.mem_cons_of_mem _ (List.mem_cons_of_mem _ List.mem_cons_self))))
  have G_LE : fc_m PRD 20 [.ref rd, .int (nI n)] [50, 1, 0, 1, 1, 3, 2, 0, 1, 1, 1] ws1 := hkeep _ (List.mem_cons_of_mem _ (List.mem_cons_of_mem _ (List.mem_cons_of_mem _ (List.mem_cons_of_mem _ (List.mem_cons_of_mem _ List.mem_cons_self)))))
  have G_TA : fc_m PRD 20 [.ref h2, .int (nI n)] [50, 1, 0, 0, 1, 3, 2, 0, 0, 1, 1] ws1 := hkeep _ (List.mem_cons_of_mem _ (List.mem_cons_of_mem _ (List.mem_cons_of_mem _ (List.mem_cons_of_mem _ (List.mem_cons_of_mem _ (List.mem_cons_of_mem _ List.mem_cons_self))))))
  have G_TE : fc_m PRD 20 [.ref h2, .ref rd, .int (nI n)] [60, 0, 2, 1109, 1, 1000] ws1 := hkeep _ (List.mem_cons_of_mem _ (List.mem_cons_of_mem _ (List.mem_cons_of_mem _ (List.mem_cons_of_mem _ (List.mem_cons_of_mem _ (List.mem_cons_of_mem _ (List.mem_cons_of_mem _ List.mem_cons_self)))))))
  have G_HY6 : fc_m PRD 20 [.ref h1, .int (nI (i + 6))] [62, 2000000] ws1 := by have z : HY ws1 (.ref h1) ((nI i).toInt + ((2000000 : Nat) - 2000000 : Int)) := G_HY; show HY ws1 (.ref h1) ((nI (i + 6)).toInt + ((2000000 : Nat) - 2000000 : Int)); rw [nI_toInt (by omega)] at z ⊢; exact hy_le z (by omega)
  have G_LE6 : fc_m PRD 20 [.ref rd, .int (nI k)] [50, 1, 0, 1, 1, 3, 2, 0, 1, 1, 1] ws1 := by rw [hkk]; exact G_LE
  have hrd : L_rd ws1 h1 rd := L_rdk hrd a1 hkp (by decide +kernel)
  have tn17 : TN ws h1 17 → TN ws1 h1 17 := TN_kp a1 hkp (by decide +kernel)
  have tn20 : TN ws h1 20 → TN ws1 h1 20 := TN_kp a1 hkp (by decide +kernel)
  have F_HI := G_HI
  have F_HL := G_HL
  have F_HY6 := G_HY6
  have F_RO := G_RO
  have F_PT := G_PT
  have F_LE6 := G_LE6
  have F_TA := G_TA
  have F_TE := G_TE
  show W p l e room_1 s m #[Value.ref b] below meth c H1 locs1 (cells + 1) (slots + 24) (lw_Z below #[Value.ref b] s) (F0 m 637 ls [.int x1])
  have hS := hS1
  refine lv_pop (pc := 637) hx hb d_law_law_637 rfl ?_
  refine lv_aload_n (pc := 638) hx hb d_law_law_638 rfl (lv_at hl 1 rfl) ?_
  refine lv_aload_n (pc := 639) hx hb d_law_law_639 rfl (lv_at hl 3 rfl) ?_
  refine lv_iload_n (pc := 640) hx hb d_law_law_640 rfl (lv_at hl 0 rfl) ?_
  refine lv_iconst (pc := 641) (v := 1) hx hb d_law_law_641 (by decide) ?_
  refine k_add (pc := 642) (x := i) (y := 1) hx hb d_law_law_642 ?_
  refine sc_ld (pc := 643) (j := i + 1) hx hb hX hbl hbA hS (by omega) (by omega) d_law_law_643 ?_
  refine lv_aload_n (pc := 644) hx hb d_law_law_644 rfl (lv_at hl 3 rfl) ?_
  refine lv_iload_n (pc := 645) hx hb d_law_law_645 rfl (lv_at hl 0 rfl) ?_
  refine lv_iconst (pc := 646) (v := 2) hx hb d_law_law_646 (by decide) ?_
  refine k_add (pc := 647) (x := i) (y := 2) hx hb d_law_law_647 ?_
  refine sc_ld (pc := 648) (j := i + 2) hx hb hX hbl hbA hS (by omega) (by omega) d_law_law_648 ?_
  refine W.eq (g2 := F0 m 649 ls (List.reverse [.ref h2, .int (xs (i + 1)), .int (xs (i + 2))] ++ [])) rfl ?_
  refine (cl_virtual (y := y_Mo_same) (ci := 13) rfl rfl ⟨_, _, rfl⟩ (by decide +kernel) h_Mo_same wm_3119 wm_9 wm_3116 wm_3117 wm_3118 ⟨by decide, by decide, by decide +kernel⟩ (by decide) : cl_ok PRD l D kA GG "DrawingHouseLaw" _ _ e_Mo_same) p e room_1 s m #[Value.ref b] below meth c H1 locs1 (cells + 1) (slots + 24) (lw_Z below #[Value.ref b] s) b_law_law 649 4 ret meth.name A ws1 ta1 ls [.ref h2, .int (xs (i + 1)), .int (xs (i + 2))] [] [] [] X hK hN hA hP1 hD1 hS1 hth1 (ag_c (tv_rf (hle1 _ _ a2)) (ag_c tv_top (ag_c tv_top (ag_n)))) (gv_n) (ag_n) (fun _ h => by cases h) (by first | decide | exact Nat.le_of_ble_eq_true rfl) (by first | decide | exact Nat.le_of_ble_eq_true rfl) (by first | decide | exact Nat.le_of_ble_eq_true rfl) (show (cells + 1) + 0 ≤ 60000 by omega) (show (slots + 24) + 0 ≤ 8922250 by omega) hl.1 d_law_law_649 (fun ta2 ws2 H2 locs2 r hle2 hth2 hP2 hD2 hS2 hrt hpo _ hkp => ?_)
  obtain ⟨x2, rfl⟩ := rt_i rfl hrt
  have hpost : ∀ f ∈ ([] : List fc_T), fc_1 PRD f ws2 ([.ref h2, .int (xs (i + 1)), .int (xs (i + 2))] ++ [] ++ [] ++ [.int x2]) := hpo.1
  have hkeep := L_keep (M := [(20, [0], [62, 0]), (20, [0], [62, 1000000]), (20, [0, 6], [62, 2000000]), (20, [1], [60, 0, 3, 198, 2, 3, 4]), (20, [1], [60, 0, 3, 367, 110, 111, 112]), (20, [3, 5], [50, 1, 0, 1, 1, 3, 2, 0, 1, 1, 1]), (20, [1, 4], [50, 1, 0, 0, 1, 3, 2, 0, 0, 1, 1]), (20, [1, 3, 4], [60, 0, 2, 1109, 1, 1000])]) (S := [(20, [0], [62, 0]), (20, [0], [62, 1000000]), (20, [0, 6], [62, 2000000]), (20, [1], [60, 0, 3, 198, 2, 3, 4]), (20, [1], [60, 0, 3, 367, 110, 111, 112]), (20, [3, 5], [50, 1, 0, 1, 1, 3, 2, 0, 1, 1, 1]), (20, [1, 4], [50, 1, 0, 0, 1, 3, 2, 0, 0, 1, 1]), (20, [1, 3, 4], [60, 0, 2, 1109, 1, 1000])]) hth1 (sy_env_up hle1 henv) hD1 hle2 hth2 hD2 hkp (by decide +kernel) (List.forall_mem_cons.mpr ⟨F_HI, (List.forall_mem_cons.mpr ⟨F_HL, (List.forall_mem_cons.mpr ⟨F_HY6, (List.forall_mem_cons.mpr ⟨F_RO, (List.forall_mem_cons.mpr ⟨F_PT, (List.forall_mem_cons.mpr ⟨F_LE6, (List.forall_mem_cons.mpr ⟨F_TA, (List.forall_mem_cons.mpr ⟨F_TE, (fun _ h => by cases h)⟩)⟩)⟩)⟩)⟩)⟩)⟩)⟩)
  have G_HI : fc_m PRD 20 [.ref h1] [62, 0] ws2 := hkeep _ List.mem_cons_self
  have G_HL : fc_m PRD 20 [.ref h1] [62, 1000000] ws2 := hkeep _ (List.mem_cons_of_mem _ List.mem_cons_self)
  have G_HY6 : fc_m PRD 20 [.ref h1, .int (nI (i + 6))] [62, 2000000] ws2 := hkeep _ (List.mem_cons_of_mem _ (List.mem_cons_of_mem _ List.mem_cons_self))
  have G_RO : fc_m PRD 20 [.ref h2] [60, 0, 3, 198, 2, 3, 4] ws2 := hkeep _ (List.mem_cons_of_mem _ (List.mem_cons_of_mem _ (List.mem_cons_of_mem _ List.mem_cons_self)))
  have G_PT : fc_m PRD 20 [.ref h2] [60, 0, 3, 367, 110, 111, 112] ws2 := hkeep _ (List.mem_cons_of_mem _ (List.mem_cons_of_mem _ (List.mem_cons_of_mem _ (List.mem_cons_of_mem _ List.mem_cons_self))))
  have G_LE6 : fc_m PRD 20 [.ref rd, .int (nI k)] [50, 1, 0, 1, 1, 3, 2, 0, 1, 1, 1] ws2 := hkeep _ (List.mem_cons_of_mem _ (List.mem_cons_of_mem _ (List.mem_cons_of_mem _ (List.mem_cons_of_mem _ (List.mem_cons_of_mem _ List.mem_cons_self)))))
  have G_TA : fc_m PRD 20 [.ref h2, .int (nI n)] [50, 1, 0, 0, 1, 3, 2, 0, 0, 1, 1] ws2 := hkeep _ (List.mem_cons_of_mem _ (List.mem_cons_of_mem _ (List.mem_cons_of_mem _ (List.mem_cons_of_mem _ (List.mem_cons_of_mem _ (List.mem_cons_of_mem _ List.mem_cons_self))))))
  have G_TE : fc_m PRD 20 [.ref h2, .ref rd, .int (nI n)] [60, 0, 2, 1109, 1, 1000] ws2 := hkeep _ (List.mem_cons_of_mem _ (List.mem_cons_of_mem _ (List.mem_cons_of_mem _ (List.mem_cons_of_mem _ (List.mem_cons_of_mem _ (List.mem_cons_of_mem _ (List.mem_cons_of_mem _ List.mem_cons_self)))))))
  have G_TA6 : fc_m PRD 20 [.ref h2, .int (nI k)] [50, 1, 0, 0, 1, 3, 2, 0, 0, 1, 1] ws2 := by rw [hkk]; exact G_TA
  have G_TE6 : fc_m PRD 20 [.ref h2, .ref rd, .int (nI k)] [60, 0, 2, 1109, 1, 1000] ws2 := by have z : TEQ (w_ei ws2 (w_ar ws2 (.ref h2) 1)) (w_ei ws2 (w_ar ws2 (.ref rd) 0)) (nI n).toInt := G_TE; have z2 : TEQ (w_ei ws2 (w_ar ws2 (.ref h2) 1)) (w_ei ws2 (w_ar ws2 (.ref rd) 0)) (nI k).toInt := L_tek z (show k ≤ n by omega) hn; exact z2
  have hrd : L_rd ws2 h1 rd := L_rdk hrd (hle1 _ _ a1) hkp (by decide +kernel)
  have tm17 : TN ws1 h1 17 → TN ws2 h1 17 := TN_kp (hle1 _ _ a1) hkp (by decide +kernel)
  have tm20 : TN ws1 h1 20 → TN ws2 h1 20 := TN_kp (hle1 _ _ a1) hkp (by decide +kernel)
  have F_HI := G_HI
  have F_HL := G_HL
  have F_HY6 := G_HY6
  have F_RO := G_RO
  have F_PT := G_PT
  have F_LE6 := G_LE6
  have F_TA6 := G_TA6
  have F_TE := G_TE
  have F_TE6 := G_TE6
  show W p l e room_1 s m #[Value.ref b] below meth c H2 locs2 (cells + 1 + 0) (slots + 24 + 0) (lw_Z below #[Value.ref b] s) (F0 m 652 ls [.int x2])
  have hS := hS2
  refine lv_pop (pc := 652) hx hb d_law_law_652 rfl ?_
  refine lv_goto (pc := 653) (tgt := 1294) hx hb d_law_law_653 (by decide) ?_
  have q1 : cells + 1 + 0 = cells + 1 := by omega
  have q2 : slots + 24 + 0 = slots + 24 := by omega
  rw [q1, q2]
  exact kk k ta2 ws2 H2 locs2 hP2 hD2 hS2 ⟨hth2, ⟨hle2 _ _ (hle1 _ _ a1), hle2 _ _ (hle1 _ _ a2), hle2 _ _ (hle1 _ _ a3), hk⟩, hrd, F_HI, F_HL, F_HY6, F_RO, F_PT, F_LE6, F_TA6, F_TE6⟩ (fun q => tm17 (tn17 q)) (fun q => tm20 (tn20 q))
set_option maxRecDepth 100000 in
set_option maxHeartbeats 4000000 in
/-- map -/
theorem lc_map {p : Program} {e : Env} {s : State} {m : MethodId} {below : List Frame} {meth : Method} {c : Code} {l : Launch} {b L : Nat} {xs : Nat → Int32} (C0 : lw_At p s m meth c b L xs) (hL : L ≤ 3072) {D : va_G} {kA : Nat → ClassId} (hK : va_K D classes (TY kA) s) (hN : nsr kA (fun q : Nat => s.heap.size ≤ q) s) (h_Ho_map : ct_ok PRD l D kA GG y_Ho_map z_Ho_map e_Ho_map) (h_Mo_map : ct_ok PRD l D kA GG y_Mo_map z_Mo_map e_Mo_map) {h1 h2 rd i n : Nat} (hi : i + 6 ≤ L) {ta : Nat → Option Nat} {ws : va_W} {H : Heap} {locs : List Loc} {ls : Array Slot} {cells slots : Nat} (hP : va_P D classes ws H) (hD : va_D (fun q : Nat => s.heap.size ≤ q) ws) (hS : va_S (fun q : Nat => s.heap.size ≤ q) s.heap H locs) (hI : LI kA h1 h2 rd i n ta ws) (hl : lv_has ls 4 [(3, .int (nI i)), (2, .ref h2), (1, .ref h1), (0, .ref b)]) (hc : cells + 0 ≤ 60000) (hs : slots + 0 ≤ 8922250) (kk : ∀ (k : Nat) (ta : Nat → Option Nat) (w2 : va_W) (H : Heap) (locs : List Loc), va_P D classes w2 H → va_D (fun q : Nat => s.heap.size ≤ q) w2 → va_S (fun q : Nat => s.heap.size ≤ q) s.heap H locs → LI kA h1 h2 rd (i + 6) k ta w2 → (TN ws h1 17 → TN w2 h1 17) → (TN ws h1 20 → TN w2 h1 20) → W p l e room_1 s m #[Value.ref b] below meth c H locs (cells + 0) (slots + 0) (lw_Z below #[Value.ref b] s) (F0 m 1294 ls [])) : W p l e room_1 s m #[Value.ref b] below meth c H locs cells slots (lw_Z below #[Value.ref b] s) (F0 m 656 ls []) := by
  obtain ⟨hx, hb, hr, hml, hown, hts0, hX, hbl, hlocks, hgv⟩ := id C0
  have hts : ∀ w ∈ lw_g, w.before #[Value.ref b] s = true := fun w h => hts0 w (lw_gt h)
  have X : cx p s m #[Value.ref b] meth c b_law_law 4 ret "DrawingHouseLaw" meth.name := ⟨hx, hb, hml, hown, hts, hr, hlocks, rfl⟩
  obtain ⟨A, hAe⟩ : ∃ A : Nat → Prop, A = fun q : Nat => s.heap.size ≤ q := ⟨_, rfl⟩
  have hA : ∀ q : Nat, s.heap.size ≤ q → A q := fun q h => by rw [hAe]; exact h
  have hbA : ¬ A b := by rw [hAe]; exact Nat.not_le.mpr hbl
  rw [← hAe] at hD hS hN kk
  obtain ⟨hth, ⟨a1, a2, a3, hn⟩, hrd, F_HI, F_HL, F_HY, F_RO, F_PT, F_LE, F_TA, F_TE⟩ := hI
  obtain ⟨k, hk, hkk⟩ : ∃ k : Nat, k ≤ 2000 ∧ k = n := ⟨n, hn, rfl⟩
  have henv : sy_env ta L_env (L_vs h1 h2 rd i n k) := L_envs a1 a2 a3 (by omega) hn hk
  refine lv_aload_n (pc := 656) hx hb d_law_law_656 rfl (lv_at hl 2 rfl) ?_
  refine lv_aload_n (pc := 657) hx hb d_law_law_657 rfl (lv_at hl 3 rfl) ?_
  refine lv_iload_n (pc := 658) hx hb d_law_law_658 rfl (lv_at hl 0 rfl) ?_
  refine lv_iconst (pc := 659) (v := 1) hx hb d_law_law_659 (by decide) ?_
  refine k_add (pc := 660) (x := i) (y := 1) hx hb d_law_law_660 ?_
  refine sc_ld (pc := 661) (j := i + 1) hx hb hX hbl hbA hS (by omega) (by omega) d_law_law_661 ?_
  refine W.eq (g2 := F0 m 662 ls (List.reverse [.ref h1, .int (xs (i + 1))] ++ [])) rfl ?_
  refine (cl_virtual (y := y_Ho_map) (ci := 12) rfl rfl ⟨_, _, rfl⟩ (by decide +kernel) h_Ho_map wm_1044 wm_1 wm_1041 wm_1042 wm_1043 ⟨by decide, by decide, by decide +kernel⟩ (by decide) : cl_ok PRD l D kA GG "DrawingHouseLaw" _ _ e_Ho_map) p e room_1 s m #[Value.ref b] below meth c H locs cells slots (lw_Z below #[Value.ref b] s) b_law_law 662 4 ret meth.name A ws ta ls [.ref h1, .int (xs (i + 1))] [] [] [] X hK hN hA hP hD hS hth (ag_c (tv_rf a1) (ag_c tv_top (ag_n))) (gv_n) (ag_n) (fun _ h => by cases h) (by first | decide | exact Nat.le_of_ble_eq_true rfl) (by first | decide | exact Nat.le_of_ble_eq_true rfl) (by first | decide | exact Nat.le_of_ble_eq_true rfl) (show cells + 0 ≤ 60000 by omega) (show slots + 0 ≤ 8922250 by omega) hl.1 d_law_law_662 (fun ta1 ws1 H1 locs1 r hle1 hth1 hP1 hD1 hS1 hrt hpo _ hkp => ?_)
  obtain ⟨x1, rfl⟩ := rt_i rfl hrt
  have hpost : ∀ f ∈ ([] : List fc_T), fc_1 PRD f ws1 ([.ref h1, .int (xs (i + 1))] ++ [] ++ [] ++ [.int x1]) := hpo.1
  have hkeep := L_keep (M := [(20, [0], [62, 0]), (20, [0], [62, 1000000]), (20, [0, 2], [62, 2000000]), (20, [1], [60, 0, 3, 198, 2, 3, 4]), (20, [1], [60, 0, 3, 367, 110, 111, 112]), (20, [3, 4], [50, 1, 0, 1, 1, 3, 2, 0, 1, 1, 1]), (20, [1, 4], [50, 1, 0, 0, 1, 3, 2, 0, 0, 1, 1]), (20, [1, 3, 4], [60, 0, 2, 1109, 1, 1000])]) (S := [(20, [0], [62, 0]), (20, [0], [62, 1000000]), (20, [0, 2], [62, 2000000]), (20, [1], [60, 0, 3, 198, 2, 3, 4]), (20, [1], [60, 0, 3, 367, 110, 111, 112]), (20, [3, 4], [50, 1, 0, 1, 1, 3, 2, 0, 1, 1, 1]), (20, [1, 4], [50, 1, 0, 0, 1, 3, 2, 0, 0, 1, 1]), (20, [1, 3, 4], [60, 0, 2, 1109, 1, 1000])]) hth henv hD hle1 hth1 hD1 hkp (by decide +kernel) (List.forall_mem_cons.mpr ⟨F_HI, (List.forall_mem_cons.mpr ⟨F_HL, (List.forall_mem_cons.mpr ⟨F_HY, (List.forall_mem_cons.mpr ⟨F_RO, (List.forall_mem_cons.mpr ⟨F_PT, (List.forall_mem_cons.mpr ⟨F_LE, (List.forall_mem_cons.mpr ⟨F_TA, (List.forall_mem_cons.mpr ⟨F_TE, (fun _ h => by cases h)⟩)⟩)⟩)⟩)⟩)⟩)⟩)⟩)
  have G_HI : fc_m PRD 20 [.ref h1] [62, 0] ws1 := hkeep _ List.mem_cons_self
  have G_HL : fc_m PRD 20 [.ref h1] [62, 1000000] ws1 := hkeep _ (List.mem_cons_of_mem _ List.mem_cons_self)
  have G_HY : fc_m PRD 20 [.ref h1, .int (nI i)] [62, 2000000] ws1 := hkeep _ (List.mem_cons_of_mem _ (List.mem_cons_of_mem _ List.mem_cons_self))
  have G_RO : fc_m PRD 20 [.ref h2] [60, 0, 3, 198, 2, 3, 4] ws1 := hkeep _ (List.mem_cons_of_mem _ (List.mem_cons_of_mem _ (List.mem_cons_of_mem _ List.mem_cons_self)))
  have G_PT : fc_m PRD 20 [.ref h2] [60, 0, 3, 367, 110, 111, 112] ws1 := hkeep _ (List.mem_cons_of_mem _ (List.mem_cons_of_mem _ (List.mem_cons_of_mem _ (List.mem_cons_of_mem _ List.mem_cons_self))))
  have G_LE : fc_m PRD 20 [.ref rd, .int (nI n)] [50, 1, 0, 1, 1, 3, 2, 0, 1, 1, 1] ws1 := hkeep _ (List.mem_cons_of_mem _ (List.mem_cons_of_mem _ (List.mem_cons_of_mem _ (List.mem_cons_of_mem _ (List.mem_cons_of_mem _ List.mem_cons_self)))))
  have G_TA : fc_m PRD 20 [.ref h2, .int (nI n)] [50, 1, 0, 0, 1, 3, 2, 0, 0, 1, 1] ws1 := hkeep _ (List.mem_cons_of_mem _ (List.mem_cons_of_mem _ (List.mem_cons_of_mem _ (List.mem_cons_of_mem _ (List.mem_cons_of_mem _ (List.mem_cons_of_mem _ List.mem_cons_self))))))
  have G_TE : fc_m PRD 20 [.ref h2, .ref rd, .int (nI n)] [60, 0, 2, 1109, 1, 1000] ws1 := hkeep _ (List.mem_cons_of_mem _ (List.mem_cons_of_mem _ (List.mem_cons_of_mem _ (List.mem_cons_of_mem _ (List.mem_cons_of_mem _ (List.mem_cons_of_mem _ (List.mem_cons_of_mem _ List.mem_cons_self)))))))
  have G_HY6 : fc_m PRD 20 [.ref h1, .int (nI (i + 6))] [62, 2000000] ws1 := by have z : HY ws1 (.ref h1) ((nI i).toInt + ((2000000 : Nat) - 2000000 : Int)) := G_HY; show HY ws1 (.ref h1) ((nI (i + 6)).toInt + ((2000000 : Nat) - 2000000 : Int)); rw [nI_toInt (by omega)] at z ⊢; exact hy_le z (by omega)
  have G_LE6 : fc_m PRD 20 [.ref rd, .int (nI k)] [50, 1, 0, 1, 1, 3, 2, 0, 1, 1, 1] ws1 := by rw [hkk]; exact G_LE
  have hrd : L_rd ws1 h1 rd := L_rdk hrd a1 hkp (by decide +kernel)
  have tn17 : TN ws h1 17 → TN ws1 h1 17 := TN_kp a1 hkp (by decide +kernel)
  have tn20 : TN ws h1 20 → TN ws1 h1 20 := TN_kp a1 hkp (by decide +kernel)
  have F_HI := G_HI
  have F_HL := G_HL
  have F_HY6 := G_HY6
  have F_RO := G_RO
  have F_PT := G_PT
  have F_LE6 := G_LE6
  have F_TA := G_TA
  have F_TE := G_TE
  show W p l e room_1 s m #[Value.ref b] below meth c H1 locs1 (cells + 0) (slots + 0) (lw_Z below #[Value.ref b] s) (F0 m 665 ls [.int x1])
  have hS := hS1
  refine lv_pop (pc := 665) hx hb d_law_law_665 rfl ?_
  refine lv_aload_n (pc := 666) hx hb d_law_law_666 rfl (lv_at hl 1 rfl) ?_
  refine lv_aload_n (pc := 667) hx hb d_law_law_667 rfl (lv_at hl 3 rfl) ?_
  refine lv_iload_n (pc := 668) hx hb d_law_law_668 rfl (lv_at hl 0 rfl) ?_
  refine lv_iconst (pc := 669) (v := 1) hx hb d_law_law_669 (by decide) ?_
  refine k_add (pc := 670) (x := i) (y := 1) hx hb d_law_law_670 ?_
  refine sc_ld (pc := 671) (j := i + 1) hx hb hX hbl hbA hS (by omega) (by omega) d_law_law_671 ?_
  refine W.eq (g2 := F0 m 672 ls (List.reverse [.ref h2, .int (xs (i + 1))] ++ [])) rfl ?_
  refine (cl_virtual (y := y_Mo_map) (ci := 13) rfl rfl ⟨_, _, rfl⟩ (by decide +kernel) h_Mo_map wm_3135 wm_9 wm_3132 wm_3133 wm_3134 ⟨by decide, by decide, by decide +kernel⟩ (by decide) : cl_ok PRD l D kA GG "DrawingHouseLaw" _ _ e_Mo_map) p e room_1 s m #[Value.ref b] below meth c H1 locs1 (cells + 0) (slots + 0) (lw_Z below #[Value.ref b] s) b_law_law 672 4 ret meth.name A ws1 ta1 ls [.ref h2, .int (xs (i + 1))] [] [] [] X hK hN hA hP1 hD1 hS1 hth1 (ag_c (tv_rf (hle1 _ _ a2)) (ag_c tv_top (ag_n))) (gv_n) (ag_n) (fun _ h => by cases h) (by first | decide | exact Nat.le_of_ble_eq_true rfl) (by first | decide | exact Nat.le_of_ble_eq_true rfl) (by first | decide | exact Nat.le_of_ble_eq_true rfl) (show (cells + 0) + 0 ≤ 60000 by omega) (show (slots + 0) + 0 ≤ 8922250 by omega) hl.1 d_law_law_672 (fun ta2 ws2 H2 locs2 r hle2 hth2 hP2 hD2 hS2 hrt hpo _ hkp => ?_)
  obtain ⟨x2, rfl⟩ := rt_i rfl hrt
  have hpost : ∀ f ∈ ([] : List fc_T), fc_1 PRD f ws2 ([.ref h2, .int (xs (i + 1))] ++ [] ++ [] ++ [.int x2]) := hpo.1
  have hkeep := L_keep (M := [(20, [0], [62, 0]), (20, [0], [62, 1000000]), (20, [0, 6], [62, 2000000]), (20, [1], [60, 0, 3, 198, 2, 3, 4]), (20, [1], [60, 0, 3, 367, 110, 111, 112]), (20, [3, 5], [50, 1, 0, 1, 1, 3, 2, 0, 1, 1, 1]), (20, [1, 4], [50, 1, 0, 0, 1, 3, 2, 0, 0, 1, 1]), (20, [1, 3, 4], [60, 0, 2, 1109, 1, 1000])]) (S := [(20, [0], [62, 0]), (20, [0], [62, 1000000]), (20, [0, 6], [62, 2000000]), (20, [1], [60, 0, 3, 198, 2, 3, 4]), (20, [1], [60, 0, 3, 367, 110, 111, 112]), (20, [3, 5], [50, 1, 0, 1, 1, 3, 2, 0, 1, 1, 1]), (20, [1, 4], [50, 1, 0, 0, 1, 3, 2, 0, 0, 1, 1]), (20, [1, 3, 4], [60, 0, 2, 1109, 1, 1000])]) hth1 (sy_env_up hle1 henv) hD1 hle2 hth2 hD2 hkp (by decide +kernel) (List.forall_mem_cons.mpr ⟨F_HI, (List.forall_mem_cons.mpr ⟨F_HL, (List.forall_mem_cons.mpr ⟨F_HY6, (List.forall_mem_cons.mpr ⟨F_RO, (List.forall_mem_cons.mpr ⟨F_PT, (List.forall_mem_cons.mpr ⟨F_LE6, (List.forall_mem_cons.mpr ⟨F_TA, (List.forall_mem_cons.mpr ⟨F_TE, (fun _ h => by cases h)⟩)⟩)⟩)⟩)⟩)⟩)⟩)⟩)
  have G_HI : fc_m PRD 20 [.ref h1] [62, 0] ws2 := hkeep _ List.mem_cons_self
  have G_HL : fc_m PRD 20 [.ref h1] [62, 1000000] ws2 := hkeep _ (List.mem_cons_of_mem _ List.mem_cons_self)
  have G_HY6 : fc_m PRD 20 [.ref h1, .int (nI (i + 6))] [62, 2000000] ws2 := hkeep _ (List.mem_cons_of_mem _ (List.mem_cons_of_mem _ List.mem_cons_self))
  have G_RO : fc_m PRD 20 [.ref h2] [60, 0, 3, 198, 2, 3, 4] ws2 := hkeep _ (List.mem_cons_of_mem _ (List.mem_cons_of_mem _ (List.mem_cons_of_mem _ List.mem_cons_self)))
  have G_PT : fc_m PRD 20 [.ref h2] [60, 0, 3, 367, 110, 111, 112] ws2 := hkeep _ (List.mem_cons_of_mem _ (List.mem_cons_of_mem _ (List.mem_cons_of_mem _ (List.mem_cons_of_mem _ List.mem_cons_self))))
  have G_LE6 : fc_m PRD 20 [.ref rd, .int (nI k)] [50, 1, 0, 1, 1, 3, 2, 0, 1, 1, 1] ws2 := hkeep _ (List.mem_cons_of_mem _ (List.mem_cons_of_mem _ (List.mem_cons_of_mem _ (List.mem_cons_of_mem _ (List.mem_cons_of_mem _ List.mem_cons_self)))))
  have G_TA : fc_m PRD 20 [.ref h2, .int (nI n)] [50, 1, 0, 0, 1, 3, 2, 0, 0, 1, 1] ws2 := hkeep _ (List.mem_cons_of_mem _ (List.mem_cons_of_mem _ (List.mem_cons_of_mem _ (List.mem_cons_of_mem _ (List.mem_cons_of_mem _ (List.mem_cons_of_mem _ List.mem_cons_self))))))
  have G_TE : fc_m PRD 20 [.ref h2, .ref rd, .int (nI n)] [60, 0, 2, 1109, 1, 1000] ws2 := hkeep _ (List.mem_cons_of_mem _ (List.mem_cons_of_mem _ (List.mem_cons_of_mem _ (List.mem_cons_of_mem _ (List.mem_cons_of_mem _ (List.mem_cons_of_mem _ (List.mem_cons_of_mem _ List.mem_cons_self)))))))
  have G_TA6 : fc_m PRD 20 [.ref h2, .int (nI k)] [50, 1, 0, 0, 1, 3, 2, 0, 0, 1, 1] ws2 := by rw [hkk]; exact G_TA
  have G_TE6 : fc_m PRD 20 [.ref h2, .ref rd, .int (nI k)] [60, 0, 2, 1109, 1, 1000] ws2 := by have z : TEQ (w_ei ws2 (w_ar ws2 (.ref h2) 1)) (w_ei ws2 (w_ar ws2 (.ref rd) 0)) (nI n).toInt := G_TE; have z2 : TEQ (w_ei ws2 (w_ar ws2 (.ref h2) 1)) (w_ei ws2 (w_ar ws2 (.ref rd) 0)) (nI k).toInt := L_tek z (show k ≤ n by omega) hn; exact z2
  have hrd : L_rd ws2 h1 rd := L_rdk hrd (hle1 _ _ a1) hkp (by decide +kernel)
  have tm17 : TN ws1 h1 17 → TN ws2 h1 17 := TN_kp (hle1 _ _ a1) hkp (by decide +kernel)
  have tm20 : TN ws1 h1 20 → TN ws2 h1 20 := TN_kp (hle1 _ _ a1) hkp (by decide +kernel)
  have F_HI := G_HI
  have F_HL := G_HL
  have F_HY6 := G_HY6
  have F_RO := G_RO
  have F_PT := G_PT
  have F_LE6 := G_LE6
  have F_TA6 := G_TA6
  have F_TE := G_TE
  have F_TE6 := G_TE6
  show W p l e room_1 s m #[Value.ref b] below meth c H2 locs2 (cells + 0 + 0) (slots + 0 + 0) (lw_Z below #[Value.ref b] s) (F0 m 675 ls [.int x2])
  have hS := hS2
  refine lv_pop (pc := 675) hx hb d_law_law_675 rfl ?_
  refine lv_goto (pc := 676) (tgt := 1294) hx hb d_law_law_676 (by decide) ?_
  have q1 : cells + 0 + 0 = cells + 0 := by omega
  have q2 : slots + 0 + 0 = slots + 0 := by omega
  rw [q1, q2]
  exact kk k ta2 ws2 H2 locs2 hP2 hD2 hS2 ⟨hth2, ⟨hle2 _ _ (hle1 _ _ a1), hle2 _ _ (hle1 _ _ a2), hle2 _ _ (hle1 _ _ a3), hk⟩, hrd, F_HI, F_HL, F_HY6, F_RO, F_PT, F_LE6, F_TA6, F_TE6⟩ (fun q => tm17 (tn17 q)) (fun q => tm20 (tn20 q))
set_option maxRecDepth 100000 in
set_option maxHeartbeats 4000000 in
/-- planar -/
theorem lc_planar {p : Program} {e : Env} {s : State} {m : MethodId} {below : List Frame} {meth : Method} {c : Code} {l : Launch} {b L : Nat} {xs : Nat → Int32} (C0 : lw_At p s m meth c b L xs) (hL : L ≤ 3072) {D : va_G} {kA : Nat → ClassId} (hK : va_K D classes (TY kA) s) (hN : nsr kA (fun q : Nat => s.heap.size ≤ q) s) (h_Ho_planar : ct_ok PRD l D kA GG y_Ho_planar z_Ho_planar e_Ho_planar) (h_Mo_planar : ct_ok PRD l D kA GG y_Mo_planar z_Mo_planar e_Mo_planar) {h1 h2 rd i n : Nat} (hi : i + 6 ≤ L) {ta : Nat → Option Nat} {ws : va_W} {H : Heap} {locs : List Loc} {ls : Array Slot} {cells slots : Nat} (hP : va_P D classes ws H) (hD : va_D (fun q : Nat => s.heap.size ≤ q) ws) (hS : va_S (fun q : Nat => s.heap.size ≤ q) s.heap H locs) (hI : LI kA h1 h2 rd i n ta ws) (hl : lv_has ls 4 [(3, .int (nI i)), (2, .ref h2), (1, .ref h1), (0, .ref b)]) (hc : cells + 0 ≤ 60000) (hs : slots + 0 ≤ 8922250) (kk : ∀ (k : Nat) (ta : Nat → Option Nat) (w2 : va_W) (H : Heap) (locs : List Loc), va_P D classes w2 H → va_D (fun q : Nat => s.heap.size ≤ q) w2 → va_S (fun q : Nat => s.heap.size ≤ q) s.heap H locs → LI kA h1 h2 rd (i + 6) k ta w2 → (TN ws h1 17 → TN w2 h1 17) → (TN ws h1 20 → TN w2 h1 20) → W p l e room_1 s m #[Value.ref b] below meth c H locs (cells + 0) (slots + 0) (lw_Z below #[Value.ref b] s) (F0 m 1294 ls [])) : W p l e room_1 s m #[Value.ref b] below meth c H locs cells slots (lw_Z below #[Value.ref b] s) (F0 m 679 ls []) := by
  obtain ⟨hx, hb, hr, hml, hown, hts0, hX, hbl, hlocks, hgv⟩ := id C0
  have hts : ∀ w ∈ lw_g, w.before #[Value.ref b] s = true := fun w h => hts0 w (lw_gt h)
  have X : cx p s m #[Value.ref b] meth c b_law_law 4 ret "DrawingHouseLaw" meth.name := ⟨hx, hb, hml, hown, hts, hr, hlocks, rfl⟩
  obtain ⟨A, hAe⟩ : ∃ A : Nat → Prop, A = fun q : Nat => s.heap.size ≤ q := ⟨_, rfl⟩
  have hA : ∀ q : Nat, s.heap.size ≤ q → A q := fun q h => by rw [hAe]; exact h
  have hbA : ¬ A b := by rw [hAe]; exact Nat.not_le.mpr hbl
  rw [← hAe] at hD hS hN kk
  obtain ⟨hth, ⟨a1, a2, a3, hn⟩, hrd, F_HI, F_HL, F_HY, F_RO, F_PT, F_LE, F_TA, F_TE⟩ := hI
  obtain ⟨k, hk, hkk⟩ : ∃ k : Nat, k ≤ 2000 ∧ k = n := ⟨n, hn, rfl⟩
  have henv : sy_env ta L_env (L_vs h1 h2 rd i n k) := L_envs a1 a2 a3 (by omega) hn hk
  refine lv_aload_n (pc := 679) hx hb d_law_law_679 rfl (lv_at hl 2 rfl) ?_
  refine lv_aload_n (pc := 680) hx hb d_law_law_680 rfl (lv_at hl 3 rfl) ?_
  refine lv_iload_n (pc := 681) hx hb d_law_law_681 rfl (lv_at hl 0 rfl) ?_
  refine lv_iconst (pc := 682) (v := 1) hx hb d_law_law_682 (by decide) ?_
  refine k_add (pc := 683) (x := i) (y := 1) hx hb d_law_law_683 ?_
  refine sc_ld (pc := 684) (j := i + 1) hx hb hX hbl hbA hS (by omega) (by omega) d_law_law_684 ?_
  refine lv_aload_n (pc := 685) hx hb d_law_law_685 rfl (lv_at hl 3 rfl) ?_
  refine lv_iload_n (pc := 686) hx hb d_law_law_686 rfl (lv_at hl 0 rfl) ?_
  refine lv_iconst (pc := 687) (v := 2) hx hb d_law_law_687 (by decide) ?_
  refine k_add (pc := 688) (x := i) (y := 2) hx hb d_law_law_688 ?_
  refine sc_ld (pc := 689) (j := i + 2) hx hb hX hbl hbA hS (by omega) (by omega) d_law_law_689 ?_
  refine W.eq (g2 := F0 m 690 ls (List.reverse [.ref h1, .int (xs (i + 1)), .int (xs (i + 2))] ++ [])) rfl ?_
  refine (cl_virtual (y := y_Ho_planar) (ci := 12) rfl rfl ⟨_, _, rfl⟩ (by decide +kernel) h_Ho_planar wm_1048 wm_1 wm_1045 wm_1046 wm_1047 ⟨by decide, by decide, by decide +kernel⟩ (by decide) : cl_ok PRD l D kA GG "DrawingHouseLaw" _ _ e_Ho_planar) p e room_1 s m #[Value.ref b] below meth c H locs cells slots (lw_Z below #[Value.ref b] s) b_law_law 690 4 ret meth.name A ws ta ls [.ref h1, .int (xs (i + 1)), .int (xs (i + 2))] [] [] [] X hK hN hA hP hD hS hth (ag_c (tv_rf a1) (ag_c tv_top (ag_c tv_top (ag_n)))) (gv_n) (ag_n) (show ∀ f ∈ ([(20, [0], [62, 0])] : List fc_T), fc_1 PRD f ws ([.ref h1, .int (xs (i + 1)), .int (xs (i + 2))] ++ [] ++ []) from (List.forall_mem_cons.mpr ⟨⟨nf_in (N := 3) rfl rfl, F_HI⟩, (fun _ h => by cases h)⟩)) (by first | decide | exact Nat.le_of_ble_eq_true rfl) (by first | decide | exact Nat.le_of_ble_eq_true rfl) (by first | decide | exact Nat.le_of_ble_eq_true rfl) (show cells + 0 ≤ 60000 by omega) (show slots + 0 ≤ 8922250 by omega) hl.1 d_law_law_690 (fun ta1 ws1 H1 locs1 r hle1 hth1 hP1 hD1 hS1 hrt hpo _ hkp => ?_)
  obtain ⟨x1, rfl⟩ := rt_i rfl hrt
  have hpost : ∀ f ∈ ([(20, [0], [62, 0])] : List fc_T), fc_1 PRD f ws1 ([.ref h1, .int (xs (i + 1)), .int (xs (i + 2))] ++ [] ++ [] ++ [.int x1]) := hpo.1
  have hkeep := L_keep (M := [(20, [0], [62, 0]), (20, [0], [62, 1000000]), (20, [0, 2], [62, 2000000]), (20, [1], [60, 0, 3, 198, 2, 3, 4]), (20, [1], [60, 0, 3, 367, 110, 111, 112]), (20, [3, 4], [50, 1, 0, 1, 1, 3, 2, 0, 1, 1, 1]), (20, [1, 4], [50, 1, 0, 0, 1, 3, 2, 0, 0, 1, 1]), (20, [1, 3, 4], [60, 0, 2, 1109, 1, 1000])]) (S := [(20, [0], [62, 1000000]), (20, [0, 2], [62, 2000000]), (20, [1], [60, 0, 3, 198, 2, 3, 4]), (20, [1], [60, 0, 3, 367, 110, 111, 112]), (20, [3, 4], [50, 1, 0, 1, 1, 3, 2, 0, 1, 1, 1]), (20, [1, 4], [50, 1, 0, 0, 1, 3, 2, 0, 0, 1, 1]), (20, [1, 3, 4], [60, 0, 2, 1109, 1, 1000])]) hth henv hD hle1 hth1 hD1 hkp (by decide +kernel) (List.forall_mem_cons.mpr ⟨F_HI, (List.forall_mem_cons.mpr ⟨F_HL, (List.forall_mem_cons.mpr ⟨F_HY, (List.forall_mem_cons.mpr ⟨F_RO, (List.forall_mem_cons.mpr ⟨F_PT, (List.forall_mem_cons.mpr ⟨F_LE, (List.forall_mem_cons.mpr ⟨F_TA, (List.forall_mem_cons.mpr ⟨F_TE, (fun _ h => by cases h)⟩)⟩)⟩)⟩)⟩)⟩)⟩)⟩)
  have G_HL : fc_m PRD 20 [.ref h1] [62, 1000000] ws1 := hkeep _ List.mem_cons_self
  have G_HY : fc_m PRD 20 [.ref h1, .int (nI i)] [62, 2000000] ws1 := hkeep _ (List.mem_cons_of_mem _ List.mem_cons_self)
  have G_RO : fc_m PRD 20 [.ref h2] [60, 0, 3, 198, 2, 3, 4] ws1 := hkeep _ (List.mem_cons_of_mem _ (List.mem_cons_of_mem _ List.mem_cons_self))
  have G_PT : fc_m PRD 20 [.ref h2] [60, 0, 3, 367, 110, 111, 112] ws1 := hkeep _ (List.mem_cons_of_mem _ (List.mem_cons_of_mem _ (List.mem_cons_of_mem _ List.mem_cons_self)))
  have G_LE : fc_m PRD 20 [.ref rd, .int (nI n)] [50, 1, 0, 1, 1, 3, 2, 0, 1, 1, 1] ws1 := hkeep _ (List.mem_cons_of_mem _ (List.mem_cons_of_mem _ (List.mem_cons_of_mem _ (List.mem_cons_of_mem _ List.mem_cons_self))))
  have G_TA : fc_m PRD 20 [.ref h2, .int (nI n)] [50, 1, 0, 0, 1, 3, 2, 0, 0, 1, 1] ws1 := hkeep _ (List.mem_cons_of_mem _ (List.mem_cons_of_mem _ (List.mem_cons_of_mem _ (List.mem_cons_of_mem _ (List.mem_cons_of_mem _ List.mem_cons_self)))))
  have G_TE : fc_m PRD 20 [.ref h2, .ref rd, .int (nI n)] [60, 0, 2, 1109, 1, 1000] ws1 := hkeep _ (List.mem_cons_of_mem _ (List.mem_cons_of_mem _ (List.mem_cons_of_mem _ (List.mem_cons_of_mem _ (List.mem_cons_of_mem _ (List.mem_cons_of_mem _ List.mem_cons_self))))))
  have G_HI : fc_m PRD 20 [.ref h1] [62, 0] ws1 := (hpost _ List.mem_cons_self).2
  have G_HY6 : fc_m PRD 20 [.ref h1, .int (nI (i + 6))] [62, 2000000] ws1 := by have z : HY ws1 (.ref h1) ((nI i).toInt + ((2000000 : Nat) - 2000000 : Int)) := G_HY; show HY ws1 (.ref h1) ((nI (i + 6)).toInt + ((2000000 : Nat) - 2000000 : Int)); rw [nI_toInt (by omega)] at z ⊢; exact hy_le z (by omega)
  have G_LE6 : fc_m PRD 20 [.ref rd, .int (nI k)] [50, 1, 0, 1, 1, 3, 2, 0, 1, 1, 1] ws1 := by rw [hkk]; exact G_LE
  have hrd : L_rd ws1 h1 rd := L_rdk hrd a1 hkp (by decide +kernel)
  have tn17 : TN ws h1 17 → TN ws1 h1 17 := TN_kp a1 hkp (by decide +kernel)
  have tn20 : TN ws h1 20 → TN ws1 h1 20 := TN_kp a1 hkp (by decide +kernel)
  have F_HI := G_HI
  have F_HL := G_HL
  have F_HY6 := G_HY6
  have F_RO := G_RO
  have F_PT := G_PT
  have F_LE6 := G_LE6
  have F_TA := G_TA
  have F_TE := G_TE
  show W p l e room_1 s m #[Value.ref b] below meth c H1 locs1 (cells + 0) (slots + 0) (lw_Z below #[Value.ref b] s) (F0 m 693 ls [.int x1])
  have hS := hS1
  refine lv_pop (pc := 693) hx hb d_law_law_693 rfl ?_
  refine lv_aload_n (pc := 694) hx hb d_law_law_694 rfl (lv_at hl 1 rfl) ?_
  refine lv_aload_n (pc := 695) hx hb d_law_law_695 rfl (lv_at hl 3 rfl) ?_
  refine lv_iload_n (pc := 696) hx hb d_law_law_696 rfl (lv_at hl 0 rfl) ?_
  refine lv_iconst (pc := 697) (v := 1) hx hb d_law_law_697 (by decide) ?_
  refine k_add (pc := 698) (x := i) (y := 1) hx hb d_law_law_698 ?_
  refine sc_ld (pc := 699) (j := i + 1) hx hb hX hbl hbA hS (by omega) (by omega) d_law_law_699 ?_
  refine lv_aload_n (pc := 700) hx hb d_law_law_700 rfl (lv_at hl 3 rfl) ?_
  refine lv_iload_n (pc := 701) hx hb d_law_law_701 rfl (lv_at hl 0 rfl) ?_
  refine lv_iconst (pc := 702) (v := 2) hx hb d_law_law_702 (by decide) ?_
  refine k_add (pc := 703) (x := i) (y := 2) hx hb d_law_law_703 ?_
  refine sc_ld (pc := 704) (j := i + 2) hx hb hX hbl hbA hS (by omega) (by omega) d_law_law_704 ?_
  refine W.eq (g2 := F0 m 705 ls (List.reverse [.ref h2, .int (xs (i + 1)), .int (xs (i + 2))] ++ [])) rfl ?_
  refine (cl_virtual (y := y_Mo_planar) (ci := 13) rfl rfl ⟨_, _, rfl⟩ (by decide +kernel) h_Mo_planar wm_3139 wm_9 wm_3136 wm_3137 wm_3138 ⟨by decide, by decide, by decide +kernel⟩ (by decide) : cl_ok PRD l D kA GG "DrawingHouseLaw" _ _ e_Mo_planar) p e room_1 s m #[Value.ref b] below meth c H1 locs1 (cells + 0) (slots + 0) (lw_Z below #[Value.ref b] s) b_law_law 705 4 ret meth.name A ws1 ta1 ls [.ref h2, .int (xs (i + 1)), .int (xs (i + 2))] [] [] [] X hK hN hA hP1 hD1 hS1 hth1 (ag_c (tv_rf (hle1 _ _ a2)) (ag_c tv_top (ag_c tv_top (ag_n)))) (gv_n) (ag_n) (show ∀ f ∈ ([(20, [0], [60, 0, 3, 198, 2, 3, 4])] : List fc_T), fc_1 PRD f ws1 ([.ref h2, .int (xs (i + 1)), .int (xs (i + 2))] ++ [] ++ []) from (List.forall_mem_cons.mpr ⟨⟨nf_in (N := 3) rfl rfl, F_RO⟩, (fun _ h => by cases h)⟩)) (by first | decide | exact Nat.le_of_ble_eq_true rfl) (by first | decide | exact Nat.le_of_ble_eq_true rfl) (by first | decide | exact Nat.le_of_ble_eq_true rfl) (show (cells + 0) + 0 ≤ 60000 by omega) (show (slots + 0) + 0 ≤ 8922250 by omega) hl.1 d_law_law_705 (fun ta2 ws2 H2 locs2 r hle2 hth2 hP2 hD2 hS2 hrt hpo _ hkp => ?_)
  obtain ⟨x2, rfl⟩ := rt_i rfl hrt
  have hpost : ∀ f ∈ ([] : List fc_T), fc_1 PRD f ws2 ([.ref h2, .int (xs (i + 1)), .int (xs (i + 2))] ++ [] ++ [] ++ [.int x2]) := hpo.1
  have hkeep := L_keep (M := [(20, [0], [62, 0]), (20, [0], [62, 1000000]), (20, [0, 6], [62, 2000000]), (20, [1], [60, 0, 3, 198, 2, 3, 4]), (20, [1], [60, 0, 3, 367, 110, 111, 112]), (20, [3, 5], [50, 1, 0, 1, 1, 3, 2, 0, 1, 1, 1]), (20, [1, 4], [50, 1, 0, 0, 1, 3, 2, 0, 0, 1, 1]), (20, [1, 3, 4], [60, 0, 2, 1109, 1, 1000])]) (S := [(20, [0], [62, 0]), (20, [0], [62, 1000000]), (20, [0, 6], [62, 2000000]), (20, [1], [60, 0, 3, 198, 2, 3, 4]), (20, [1], [60, 0, 3, 367, 110, 111, 112]), (20, [3, 5], [50, 1, 0, 1, 1, 3, 2, 0, 1, 1, 1]), (20, [1, 4], [50, 1, 0, 0, 1, 3, 2, 0, 0, 1, 1]), (20, [1, 3, 4], [60, 0, 2, 1109, 1, 1000])]) hth1 (sy_env_up hle1 henv) hD1 hle2 hth2 hD2 hkp (by decide +kernel) (List.forall_mem_cons.mpr ⟨F_HI, (List.forall_mem_cons.mpr ⟨F_HL, (List.forall_mem_cons.mpr ⟨F_HY6, (List.forall_mem_cons.mpr ⟨F_RO, (List.forall_mem_cons.mpr ⟨F_PT, (List.forall_mem_cons.mpr ⟨F_LE6, (List.forall_mem_cons.mpr ⟨F_TA, (List.forall_mem_cons.mpr ⟨F_TE, (fun _ h => by cases h)⟩)⟩)⟩)⟩)⟩)⟩)⟩)⟩)
  have G_HI : fc_m PRD 20 [.ref h1] [62, 0] ws2 := hkeep _ List.mem_cons_self
  have G_HL : fc_m PRD 20 [.ref h1] [62, 1000000] ws2 := hkeep _ (List.mem_cons_of_mem _ List.mem_cons_self)
  have G_HY6 : fc_m PRD 20 [.ref h1, .int (nI (i + 6))] [62, 2000000] ws2 := hkeep _ (List.mem_cons_of_mem _ (List.mem_cons_of_mem _ List.mem_cons_self))
  have G_RO : fc_m PRD 20 [.ref h2] [60, 0, 3, 198, 2, 3, 4] ws2 := hkeep _ (List.mem_cons_of_mem _ (List.mem_cons_of_mem _ (List.mem_cons_of_mem _ List.mem_cons_self)))
  have G_PT : fc_m PRD 20 [.ref h2] [60, 0, 3, 367, 110, 111, 112] ws2 := hkeep _ (List.mem_cons_of_mem _ (List.mem_cons_of_mem _ (List.mem_cons_of_mem _ (List.mem_cons_of_mem _ List.mem_cons_self))))
  have G_LE6 : fc_m PRD 20 [.ref rd, .int (nI k)] [50, 1, 0, 1, 1, 3, 2, 0, 1, 1, 1] ws2 := hkeep _ (List.mem_cons_of_mem _ (List.mem_cons_of_mem _ (List.mem_cons_of_mem _ (List.mem_cons_of_mem _ (List.mem_cons_of_mem _ List.mem_cons_self)))))
  have G_TA : fc_m PRD 20 [.ref h2, .int (nI n)] [50, 1, 0, 0, 1, 3, 2, 0, 0, 1, 1] ws2 := hkeep _ (List.mem_cons_of_mem _ (List.mem_cons_of_mem _ (List.mem_cons_of_mem _ (List.mem_cons_of_mem _ (List.mem_cons_of_mem _ (List.mem_cons_of_mem _ List.mem_cons_self))))))
  have G_TE : fc_m PRD 20 [.ref h2, .ref rd, .int (nI n)] [60, 0, 2, 1109, 1, 1000] ws2 := hkeep _ (List.mem_cons_of_mem _ (List.mem_cons_of_mem _ (List.mem_cons_of_mem _ (List.mem_cons_of_mem _ (List.mem_cons_of_mem _ (List.mem_cons_of_mem _ (List.mem_cons_of_mem _ List.mem_cons_self)))))))
  have G_TA6 : fc_m PRD 20 [.ref h2, .int (nI k)] [50, 1, 0, 0, 1, 3, 2, 0, 0, 1, 1] ws2 := by rw [hkk]; exact G_TA
  have G_TE6 : fc_m PRD 20 [.ref h2, .ref rd, .int (nI k)] [60, 0, 2, 1109, 1, 1000] ws2 := by have z : TEQ (w_ei ws2 (w_ar ws2 (.ref h2) 1)) (w_ei ws2 (w_ar ws2 (.ref rd) 0)) (nI n).toInt := G_TE; have z2 : TEQ (w_ei ws2 (w_ar ws2 (.ref h2) 1)) (w_ei ws2 (w_ar ws2 (.ref rd) 0)) (nI k).toInt := L_tek z (show k ≤ n by omega) hn; exact z2
  have hrd : L_rd ws2 h1 rd := L_rdk hrd (hle1 _ _ a1) hkp (by decide +kernel)
  have tm17 : TN ws1 h1 17 → TN ws2 h1 17 := TN_kp (hle1 _ _ a1) hkp (by decide +kernel)
  have tm20 : TN ws1 h1 20 → TN ws2 h1 20 := TN_kp (hle1 _ _ a1) hkp (by decide +kernel)
  have F_HI := G_HI
  have F_HL := G_HL
  have F_HY6 := G_HY6
  have F_RO := G_RO
  have F_PT := G_PT
  have F_LE6 := G_LE6
  have F_TA6 := G_TA6
  have F_TE := G_TE
  have F_TE6 := G_TE6
  show W p l e room_1 s m #[Value.ref b] below meth c H2 locs2 (cells + 0 + 0) (slots + 0 + 0) (lw_Z below #[Value.ref b] s) (F0 m 708 ls [.int x2])
  have hS := hS2
  refine lv_pop (pc := 708) hx hb d_law_law_708 rfl ?_
  refine lv_goto (pc := 709) (tgt := 1294) hx hb d_law_law_709 (by decide) ?_
  have q1 : cells + 0 + 0 = cells + 0 := by omega
  have q2 : slots + 0 + 0 = slots + 0 := by omega
  rw [q1, q2]
  exact kk k ta2 ws2 H2 locs2 hP2 hD2 hS2 ⟨hth2, ⟨hle2 _ _ (hle1 _ _ a1), hle2 _ _ (hle1 _ _ a2), hle2 _ _ (hle1 _ _ a3), hk⟩, hrd, F_HI, F_HL, F_HY6, F_RO, F_PT, F_LE6, F_TA6, F_TE6⟩ (fun q => tm17 (tn17 q)) (fun q => tm20 (tn20 q))
set_option maxRecDepth 100000 in
set_option maxHeartbeats 4000000 in
/-- turn -/
theorem lc_turn {p : Program} {e : Env} {s : State} {m : MethodId} {below : List Frame} {meth : Method} {c : Code} {l : Launch} {b L : Nat} {xs : Nat → Int32} (C0 : lw_At p s m meth c b L xs) (hL : L ≤ 3072) {D : va_G} {kA : Nat → ClassId} (hK : va_K D classes (TY kA) s) (hN : nsr kA (fun q : Nat => s.heap.size ≤ q) s) (h_Ho_turn : ct_ok PRD l D kA GG y_Ho_turn z_Ho_turn e_Ho_turn) (h_Mo_turn : ct_ok PRD l D kA GG y_Mo_turn z_Mo_turn e_Mo_turn) {h1 h2 rd i n : Nat} (hi : i + 6 ≤ L) {ta : Nat → Option Nat} {ws : va_W} {H : Heap} {locs : List Loc} {ls : Array Slot} {cells slots : Nat} (hP : va_P D classes ws H) (hD : va_D (fun q : Nat => s.heap.size ≤ q) ws) (hS : va_S (fun q : Nat => s.heap.size ≤ q) s.heap H locs) (hI : LI kA h1 h2 rd i n ta ws) (hl : lv_has ls 4 [(3, .int (nI i)), (2, .ref h2), (1, .ref h1), (0, .ref b)]) (hc : cells + 0 ≤ 60000) (hs : slots + 0 ≤ 8922250) (kk : ∀ (k : Nat) (ta : Nat → Option Nat) (w2 : va_W) (H : Heap) (locs : List Loc), va_P D classes w2 H → va_D (fun q : Nat => s.heap.size ≤ q) w2 → va_S (fun q : Nat => s.heap.size ≤ q) s.heap H locs → LI kA h1 h2 rd (i + 6) k ta w2 → (TN ws h1 17 → TN w2 h1 17) → (TN ws h1 20 → TN w2 h1 20) → W p l e room_1 s m #[Value.ref b] below meth c H locs (cells + 0) (slots + 0) (lw_Z below #[Value.ref b] s) (F0 m 1294 ls [])) : W p l e room_1 s m #[Value.ref b] below meth c H locs cells slots (lw_Z below #[Value.ref b] s) (F0 m 712 ls []) := by
  obtain ⟨hx, hb, hr, hml, hown, hts0, hX, hbl, hlocks, hgv⟩ := id C0
  have hts : ∀ w ∈ lw_g, w.before #[Value.ref b] s = true := fun w h => hts0 w (lw_gt h)
  have X : cx p s m #[Value.ref b] meth c b_law_law 4 ret "DrawingHouseLaw" meth.name := ⟨hx, hb, hml, hown, hts, hr, hlocks, rfl⟩
  obtain ⟨A, hAe⟩ : ∃ A : Nat → Prop, A = fun q : Nat => s.heap.size ≤ q := ⟨_, rfl⟩
  have hA : ∀ q : Nat, s.heap.size ≤ q → A q := fun q h => by rw [hAe]; exact h
  have hbA : ¬ A b := by rw [hAe]; exact Nat.not_le.mpr hbl
  rw [← hAe] at hD hS hN kk
  obtain ⟨hth, ⟨a1, a2, a3, hn⟩, hrd, F_HI, F_HL, F_HY, F_RO, F_PT, F_LE, F_TA, F_TE⟩ := hI
  obtain ⟨k, hk, hkk⟩ : ∃ k : Nat, k ≤ 2000 ∧ k = n := ⟨n, hn, rfl⟩
  have henv : sy_env ta L_env (L_vs h1 h2 rd i n k) := L_envs a1 a2 a3 (by omega) hn hk
  refine lv_aload_n (pc := 712) hx hb d_law_law_712 rfl (lv_at hl 2 rfl) ?_
  refine lv_aload_n (pc := 713) hx hb d_law_law_713 rfl (lv_at hl 3 rfl) ?_
  refine lv_iload_n (pc := 714) hx hb d_law_law_714 rfl (lv_at hl 0 rfl) ?_
  refine lv_iconst (pc := 715) (v := 1) hx hb d_law_law_715 (by decide) ?_
  refine k_add (pc := 716) (x := i) (y := 1) hx hb d_law_law_716 ?_
  refine sc_ld (pc := 717) (j := i + 1) hx hb hX hbl hbA hS (by omega) (by omega) d_law_law_717 ?_
  refine lv_aload_n (pc := 718) hx hb d_law_law_718 rfl (lv_at hl 3 rfl) ?_
  refine lv_iload_n (pc := 719) hx hb d_law_law_719 rfl (lv_at hl 0 rfl) ?_
  refine lv_iconst (pc := 720) (v := 2) hx hb d_law_law_720 (by decide) ?_
  refine k_add (pc := 721) (x := i) (y := 2) hx hb d_law_law_721 ?_
  refine sc_ld (pc := 722) (j := i + 2) hx hb hX hbl hbA hS (by omega) (by omega) d_law_law_722 ?_
  refine lv_aload_n (pc := 723) hx hb d_law_law_723 rfl (lv_at hl 3 rfl) ?_
  refine lv_iload_n (pc := 724) hx hb d_law_law_724 rfl (lv_at hl 0 rfl) ?_
  refine lv_iconst (pc := 725) (v := 3) hx hb d_law_law_725 (by decide) ?_
  refine k_add (pc := 726) (x := i) (y := 3) hx hb d_law_law_726 ?_
  refine sc_ld (pc := 727) (j := i + 3) hx hb hX hbl hbA hS (by omega) (by omega) d_law_law_727 ?_
  refine lv_aload_n (pc := 728) hx hb d_law_law_728 rfl (lv_at hl 3 rfl) ?_
  refine lv_iload_n (pc := 729) hx hb d_law_law_729 rfl (lv_at hl 0 rfl) ?_
  refine lv_iconst (pc := 730) (v := 4) hx hb d_law_law_730 (by decide) ?_
  refine k_add (pc := 731) (x := i) (y := 4) hx hb d_law_law_731 ?_
  refine sc_ld (pc := 732) (j := i + 4) hx hb hX hbl hbA hS (by omega) (by omega) d_law_law_732 ?_
  refine W.eq (g2 := F0 m 733 ls (List.reverse [.ref h1, .int (xs (i + 1)), .int (xs (i + 2)), .int (xs (i + 3)), .int (xs (i + 4))] ++ [])) rfl ?_
  refine (cl_virtual (y := y_Ho_turn) (ci := 12) rfl rfl ⟨_, _, rfl⟩ (by decide +kernel) h_Ho_turn wm_1172 wm_1 wm_1169 wm_1170 wm_1171 ⟨by decide, by decide, by decide +kernel⟩ (by decide) : cl_ok PRD l D kA GG "DrawingHouseLaw" _ _ e_Ho_turn) p e room_1 s m #[Value.ref b] below meth c H locs cells slots (lw_Z below #[Value.ref b] s) b_law_law 733 4 ret meth.name A ws ta ls [.ref h1, .int (xs (i + 1)), .int (xs (i + 2)), .int (xs (i + 3)), .int (xs (i + 4))] [] [] [] X hK hN hA hP hD hS hth (ag_c (tv_rf a1) (ag_c tv_top (ag_c tv_top (ag_c tv_top (ag_c tv_top (ag_n)))))) (gv_n) (ag_n) (show ∀ f ∈ ([(20, [0], [62, 0])] : List fc_T), fc_1 PRD f ws ([.ref h1, .int (xs (i + 1)), .int (xs (i + 2)), .int (xs (i + 3)), .int (xs (i + 4))] ++ [] ++ []) from (List.forall_mem_cons.mpr ⟨⟨nf_in (N := 5) rfl rfl, F_HI⟩, (fun _ h => by cases h)⟩)) (by first | decide | exact Nat.le_of_ble_eq_true rfl) (by first | decide | exact Nat.le_of_ble_eq_true rfl) (by first | decide | exact Nat.le_of_ble_eq_true rfl) (show cells + 0 ≤ 60000 by omega) (show slots + 0 ≤ 8922250 by omega) hl.1 d_law_law_733 (fun ta1 ws1 H1 locs1 r hle1 hth1 hP1 hD1 hS1 hrt hpo _ hkp => ?_)
  obtain ⟨x1, rfl⟩ := rt_i rfl hrt
  have hpost : ∀ f ∈ ([(20, [0], [62, 0])] : List fc_T), fc_1 PRD f ws1 ([.ref h1, .int (xs (i + 1)), .int (xs (i + 2)), .int (xs (i + 3)), .int (xs (i + 4))] ++ [] ++ [] ++ [.int x1]) := hpo.1
  have hkeep := L_keep (M := [(20, [0], [62, 0]), (20, [0], [62, 1000000]), (20, [0, 2], [62, 2000000]), (20, [1], [60, 0, 3, 198, 2, 3, 4]), (20, [1], [60, 0, 3, 367, 110, 111, 112]), (20, [3, 4], [50, 1, 0, 1, 1, 3, 2, 0, 1, 1, 1]), (20, [1, 4], [50, 1, 0, 0, 1, 3, 2, 0, 0, 1, 1]), (20, [1, 3, 4], [60, 0, 2, 1109, 1, 1000])]) (S := [(20, [0], [62, 1000000]), (20, [0, 2], [62, 2000000]), (20, [1], [60, 0, 3, 198, 2, 3, 4]), (20, [1], [60, 0, 3, 367, 110, 111, 112]), (20, [3, 4], [50, 1, 0, 1, 1, 3, 2, 0, 1, 1, 1]), (20, [1, 4], [50, 1, 0, 0, 1, 3, 2, 0, 0, 1, 1]), (20, [1, 3, 4], [60, 0, 2, 1109, 1, 1000])]) hth henv hD hle1 hth1 hD1 hkp (by decide +kernel) (List.forall_mem_cons.mpr ⟨F_HI, (List.forall_mem_cons.mpr ⟨F_HL, (List.forall_mem_cons.mpr ⟨F_HY, (List.forall_mem_cons.mpr ⟨F_RO, (List.forall_mem_cons.mpr ⟨F_PT, (List.forall_mem_cons.mpr ⟨F_LE, (List.forall_mem_cons.mpr ⟨F_TA, (List.forall_mem_cons.mpr ⟨F_TE, (fun _ h => by cases h)⟩)⟩)⟩)⟩)⟩)⟩)⟩)⟩)
  have G_HL : fc_m PRD 20 [.ref h1] [62, 1000000] ws1 := hkeep _ List.mem_cons_self
  have G_HY : fc_m PRD 20 [.ref h1, .int (nI i)] [62, 2000000] ws1 := hkeep _ (List.mem_cons_of_mem _ List.mem_cons_self)
  have G_RO : fc_m PRD 20 [.ref h2] [60, 0, 3, 198, 2, 3, 4] ws1 := hkeep _ (List.mem_cons_of_mem _ (List.mem_cons_of_mem _ List.mem_cons_self))
  have G_PT : fc_m PRD 20 [.ref h2] [60, 0, 3, 367, 110, 111, 112] ws1 := hkeep _ (List.mem_cons_of_mem _ (List.mem_cons_of_mem _ (List.mem_cons_of_mem _ List.mem_cons_self)))
  have G_LE : fc_m PRD 20 [.ref rd, .int (nI n)] [50, 1, 0, 1, 1, 3, 2, 0, 1, 1, 1] ws1 := hkeep _ (List.mem_cons_of_mem _ (List.mem_cons_of_mem _ (List.mem_cons_of_mem _ (List.mem_cons_of_mem _ List.mem_cons_self))))
  have G_TA : fc_m PRD 20 [.ref h2, .int (nI n)] [50, 1, 0, 0, 1, 3, 2, 0, 0, 1, 1] ws1 := hkeep _ (List.mem_cons_of_mem _ (List.mem_cons_of_mem _ (List.mem_cons_of_mem _ (List.mem_cons_of_mem _ (List.mem_cons_of_mem _ List.mem_cons_self)))))
  have G_TE : fc_m PRD 20 [.ref h2, .ref rd, .int (nI n)] [60, 0, 2, 1109, 1, 1000] ws1 := hkeep _ (List.mem_cons_of_mem _ (List.mem_cons_of_mem _ (List.mem_cons_of_mem _ (List.mem_cons_of_mem _ (List.mem_cons_of_mem _ (List.mem_cons_of_mem _ List.mem_cons_self))))))
  have G_HI : fc_m PRD 20 [.ref h1] [62, 0] ws1 := (hpost _ List.mem_cons_self).2
  have G_HY6 : fc_m PRD 20 [.ref h1, .int (nI (i + 6))] [62, 2000000] ws1 := by have z : HY ws1 (.ref h1) ((nI i).toInt + ((2000000 : Nat) - 2000000 : Int)) := G_HY; show HY ws1 (.ref h1) ((nI (i + 6)).toInt + ((2000000 : Nat) - 2000000 : Int)); rw [nI_toInt (by omega)] at z ⊢; exact hy_le z (by omega)
  have G_LE6 : fc_m PRD 20 [.ref rd, .int (nI k)] [50, 1, 0, 1, 1, 3, 2, 0, 1, 1, 1] ws1 := by rw [hkk]; exact G_LE
  have hrd : L_rd ws1 h1 rd := L_rdk hrd a1 hkp (by decide +kernel)
  have tn17 : TN ws h1 17 → TN ws1 h1 17 := TN_kp a1 hkp (by decide +kernel)
  have tn20 : TN ws h1 20 → TN ws1 h1 20 := TN_kp a1 hkp (by decide +kernel)
  have F_HI := G_HI
  have F_HL := G_HL
  have F_HY6 := G_HY6
  have F_RO := G_RO
  have F_PT := G_PT
  have F_LE6 := G_LE6
  have F_TA := G_TA
  have F_TE := G_TE
  show W p l e room_1 s m #[Value.ref b] below meth c H1 locs1 (cells + 0) (slots + 0) (lw_Z below #[Value.ref b] s) (F0 m 736 ls [.int x1])
  have hS := hS1
  refine lv_pop (pc := 736) hx hb d_law_law_736 rfl ?_
  refine lv_aload_n (pc := 737) hx hb d_law_law_737 rfl (lv_at hl 1 rfl) ?_
  refine lv_aload_n (pc := 738) hx hb d_law_law_738 rfl (lv_at hl 3 rfl) ?_
  refine lv_iload_n (pc := 739) hx hb d_law_law_739 rfl (lv_at hl 0 rfl) ?_
  refine lv_iconst (pc := 740) (v := 1) hx hb d_law_law_740 (by decide) ?_
  refine k_add (pc := 741) (x := i) (y := 1) hx hb d_law_law_741 ?_
  refine sc_ld (pc := 742) (j := i + 1) hx hb hX hbl hbA hS (by omega) (by omega) d_law_law_742 ?_
  refine lv_aload_n (pc := 743) hx hb d_law_law_743 rfl (lv_at hl 3 rfl) ?_
  refine lv_iload_n (pc := 744) hx hb d_law_law_744 rfl (lv_at hl 0 rfl) ?_
  refine lv_iconst (pc := 745) (v := 2) hx hb d_law_law_745 (by decide) ?_
  refine k_add (pc := 746) (x := i) (y := 2) hx hb d_law_law_746 ?_
  refine sc_ld (pc := 747) (j := i + 2) hx hb hX hbl hbA hS (by omega) (by omega) d_law_law_747 ?_
  refine lv_aload_n (pc := 748) hx hb d_law_law_748 rfl (lv_at hl 3 rfl) ?_
  refine lv_iload_n (pc := 749) hx hb d_law_law_749 rfl (lv_at hl 0 rfl) ?_
  refine lv_iconst (pc := 750) (v := 3) hx hb d_law_law_750 (by decide) ?_
  refine k_add (pc := 751) (x := i) (y := 3) hx hb d_law_law_751 ?_
  refine sc_ld (pc := 752) (j := i + 3) hx hb hX hbl hbA hS (by omega) (by omega) d_law_law_752 ?_
  refine lv_aload_n (pc := 753) hx hb d_law_law_753 rfl (lv_at hl 3 rfl) ?_
  refine lv_iload_n (pc := 754) hx hb d_law_law_754 rfl (lv_at hl 0 rfl) ?_
  refine lv_iconst (pc := 755) (v := 4) hx hb d_law_law_755 (by decide) ?_
  refine k_add (pc := 756) (x := i) (y := 4) hx hb d_law_law_756 ?_
  refine sc_ld (pc := 757) (j := i + 4) hx hb hX hbl hbA hS (by omega) (by omega) d_law_law_757 ?_
  refine W.eq (g2 := F0 m 758 ls (List.reverse [.ref h2, .int (xs (i + 1)), .int (xs (i + 2)), .int (xs (i + 3)), .int (xs (i + 4))] ++ [])) rfl ?_
  refine (cl_virtual (y := y_Mo_turn) (ci := 13) rfl rfl ⟨_, _, rfl⟩ (by decide +kernel) h_Mo_turn wm_3271 wm_9 wm_3268 wm_3269 wm_3270 ⟨by decide, by decide, by decide +kernel⟩ (by decide) : cl_ok PRD l D kA GG "DrawingHouseLaw" _ _ e_Mo_turn) p e room_1 s m #[Value.ref b] below meth c H1 locs1 (cells + 0) (slots + 0) (lw_Z below #[Value.ref b] s) b_law_law 758 4 ret meth.name A ws1 ta1 ls [.ref h2, .int (xs (i + 1)), .int (xs (i + 2)), .int (xs (i + 3)), .int (xs (i + 4))] [] [] [] X hK hN hA hP1 hD1 hS1 hth1 (ag_c (tv_rf (hle1 _ _ a2)) (ag_c tv_top (ag_c tv_top (ag_c tv_top (ag_c tv_top (ag_n)))))) (gv_n) (ag_n) (show ∀ f ∈ ([(20, [0], [60, 0, 3, 198, 2, 3, 4])] : List fc_T), fc_1 PRD f ws1 ([.ref h2, .int (xs (i + 1)), .int (xs (i + 2)), .int (xs (i + 3)), .int (xs (i + 4))] ++ [] ++ []) from (List.forall_mem_cons.mpr ⟨⟨nf_in (N := 5) rfl rfl, F_RO⟩, (fun _ h => by cases h)⟩)) (by first | decide | exact Nat.le_of_ble_eq_true rfl) (by first | decide | exact Nat.le_of_ble_eq_true rfl) (by first | decide | exact Nat.le_of_ble_eq_true rfl) (show (cells + 0) + 0 ≤ 60000 by omega) (show (slots + 0) + 0 ≤ 8922250 by omega) hl.1 d_law_law_758 (fun ta2 ws2 H2 locs2 r hle2 hth2 hP2 hD2 hS2 hrt hpo _ hkp => ?_)
  obtain ⟨x2, rfl⟩ := rt_i rfl hrt
  have hpost : ∀ f ∈ ([] : List fc_T), fc_1 PRD f ws2 ([.ref h2, .int (xs (i + 1)), .int (xs (i + 2)), .int (xs (i + 3)), .int (xs (i + 4))] ++ [] ++ [] ++ [.int x2]) := hpo.1
  have hkeep := L_keep (M := [(20, [0], [62, 0]), (20, [0], [62, 1000000]), (20, [0, 6], [62, 2000000]), (20, [1], [60, 0, 3, 198, 2, 3, 4]), (20, [1], [60, 0, 3, 367, 110, 111, 112]), (20, [3, 5], [50, 1, 0, 1, 1, 3, 2, 0, 1, 1, 1]), (20, [1, 4], [50, 1, 0, 0, 1, 3, 2, 0, 0, 1, 1]), (20, [1, 3, 4], [60, 0, 2, 1109, 1, 1000])]) (S := [(20, [0], [62, 0]), (20, [0], [62, 1000000]), (20, [0, 6], [62, 2000000]), (20, [1], [60, 0, 3, 198, 2, 3, 4]), (20, [1], [60, 0, 3, 367, 110, 111, 112]), (20, [3, 5], [50, 1, 0, 1, 1, 3, 2, 0, 1, 1, 1]), (20, [1, 4], [50, 1, 0, 0, 1, 3, 2, 0, 0, 1, 1]), (20, [1, 3, 4], [60, 0, 2, 1109, 1, 1000])]) hth1 (sy_env_up hle1 henv) hD1 hle2 hth2 hD2 hkp (by decide +kernel) (List.forall_mem_cons.mpr ⟨F_HI, (List.forall_mem_cons.mpr ⟨F_HL, (List.forall_mem_cons.mpr ⟨F_HY6, (List.forall_mem_cons.mpr ⟨F_RO, (List.forall_mem_cons.mpr ⟨F_PT, (List.forall_mem_cons.mpr ⟨F_LE6, (List.forall_mem_cons.mpr ⟨F_TA, (List.forall_mem_cons.mpr ⟨F_TE, (fun _ h => by cases h)⟩)⟩)⟩)⟩)⟩)⟩)⟩)⟩)
  have G_HI : fc_m PRD 20 [.ref h1] [62, 0] ws2 := hkeep _ List.mem_cons_self
  have G_HL : fc_m PRD 20 [.ref h1] [62, 1000000] ws2 := hkeep _ (List.mem_cons_of_mem _ List.mem_cons_self)
  have G_HY6 : fc_m PRD 20 [.ref h1, .int (nI (i + 6))] [62, 2000000] ws2 := hkeep _ (List.mem_cons_of_mem _ (List.mem_cons_of_mem _ List.mem_cons_self))
  have G_RO : fc_m PRD 20 [.ref h2] [60, 0, 3, 198, 2, 3, 4] ws2 := hkeep _ (List.mem_cons_of_mem _ (List.mem_cons_of_mem _ (List.mem_cons_of_mem _ List.mem_cons_self)))
  have G_PT : fc_m PRD 20 [.ref h2] [60, 0, 3, 367, 110, 111, 112] ws2 := hkeep _ (List.mem_cons_of_mem _ (List.mem_cons_of_mem _ (List.mem_cons_of_mem _ (List.mem_cons_of_mem _ List.mem_cons_self))))
  have G_LE6 : fc_m PRD 20 [.ref rd, .int (nI k)] [50, 1, 0, 1, 1, 3, 2, 0, 1, 1, 1] ws2 := hkeep _ (List.mem_cons_of_mem _ (List.mem_cons_of_mem _ (List.mem_cons_of_mem _ (List.mem_cons_of_mem _ (List.mem_cons_of_mem _ List.mem_cons_self)))))
  have G_TA : fc_m PRD 20 [.ref h2, .int (nI n)] [50, 1, 0, 0, 1, 3, 2, 0, 0, 1, 1] ws2 := hkeep _ (List.mem_cons_of_mem _ (List.mem_cons_of_mem _ (List.mem_cons_of_mem _ (List.mem_cons_of_mem _ (List.mem_cons_of_mem _ (List.mem_cons_of_mem _ List.mem_cons_self))))))
  have G_TE : fc_m PRD 20 [.ref h2, .ref rd, .int (nI n)] [60, 0, 2, 1109, 1, 1000] ws2 := hkeep _ (List.mem_cons_of_mem _ (List.mem_cons_of_mem _ (List.mem_cons_of_mem _ (List.mem_cons_of_mem _ (List.mem_cons_of_mem _ (List.mem_cons_of_mem _ (List.mem_cons_of_mem _ List.mem_cons_self)))))))
  have G_TA6 : fc_m PRD 20 [.ref h2, .int (nI k)] [50, 1, 0, 0, 1, 3, 2, 0, 0, 1, 1] ws2 := by rw [hkk]; exact G_TA
  have G_TE6 : fc_m PRD 20 [.ref h2, .ref rd, .int (nI k)] [60, 0, 2, 1109, 1, 1000] ws2 := by have z : TEQ (w_ei ws2 (w_ar ws2 (.ref h2) 1)) (w_ei ws2 (w_ar ws2 (.ref rd) 0)) (nI n).toInt := G_TE; have z2 : TEQ (w_ei ws2 (w_ar ws2 (.ref h2) 1)) (w_ei ws2 (w_ar ws2 (.ref rd) 0)) (nI k).toInt := L_tek z (show k ≤ n by omega) hn; exact z2
  have hrd : L_rd ws2 h1 rd := L_rdk hrd (hle1 _ _ a1) hkp (by decide +kernel)
  have tm17 : TN ws1 h1 17 → TN ws2 h1 17 := TN_kp (hle1 _ _ a1) hkp (by decide +kernel)
  have tm20 : TN ws1 h1 20 → TN ws2 h1 20 := TN_kp (hle1 _ _ a1) hkp (by decide +kernel)
  have F_HI := G_HI
  have F_HL := G_HL
  have F_HY6 := G_HY6
  have F_RO := G_RO
  have F_PT := G_PT
  have F_LE6 := G_LE6
  have F_TA6 := G_TA6
  have F_TE := G_TE
  have F_TE6 := G_TE6
  show W p l e room_1 s m #[Value.ref b] below meth c H2 locs2 (cells + 0 + 0) (slots + 0 + 0) (lw_Z below #[Value.ref b] s) (F0 m 761 ls [.int x2])
  have hS := hS2
  refine lv_pop (pc := 761) hx hb d_law_law_761 rfl ?_
  refine lv_goto (pc := 762) (tgt := 1294) hx hb d_law_law_762 (by decide) ?_
  have q1 : cells + 0 + 0 = cells + 0 := by omega
  have q2 : slots + 0 + 0 = slots + 0 := by omega
  rw [q1, q2]
  exact kk k ta2 ws2 H2 locs2 hP2 hD2 hS2 ⟨hth2, ⟨hle2 _ _ (hle1 _ _ a1), hle2 _ _ (hle1 _ _ a2), hle2 _ _ (hle1 _ _ a3), hk⟩, hrd, F_HI, F_HL, F_HY6, F_RO, F_PT, F_LE6, F_TA6, F_TE6⟩ (fun q => tm17 (tn17 q)) (fun q => tm20 (tn20 q))
set_option maxRecDepth 100000 in
set_option maxHeartbeats 4000000 in
/-- draw -/
theorem lc_draw_n {p : Program} {e : Env} {s : State} {m : MethodId} {below : List Frame} {meth : Method} {c : Code} {l : Launch} {b L : Nat} {xs : Nat → Int32} (C0 : lw_At p s m meth c b L xs) (hL : L ≤ 3072) {D : va_G} {kA : Nat → ClassId} (hK : va_K D classes (TY kA) s) (hN : nsr kA (fun q : Nat => s.heap.size ≤ q) s) (h_Ho_draw_at_n : ct_ok PRD l D kA GG y_Ho_draw_at_n z_Ho_draw_at_n e_Ho_draw_at_n) (h_Mo_draw : ct_ok PRD l D kA GG y_Mo_draw z_Mo_draw e_Mo_draw) {h1 h2 rd i n : Nat} (hi : i + 6 ≤ L) {ta : Nat → Option Nat} {ws : va_W} {H : Heap} {locs : List Loc} {ls : Array Slot} {cells slots : Nat} (hP : va_P D classes ws H) (hD : va_D (fun q : Nat => s.heap.size ≤ q) ws) (hS : va_S (fun q : Nat => s.heap.size ≤ q) s.heap H locs) (hI : LI kA h1 h2 rd i n ta ws) (hl : lv_has ls 4 [(3, .int (nI i)), (2, .ref h2), (1, .ref h1), (0, .ref b)]) (hc : cells + 0 ≤ 60000) (hs : slots + 0 ≤ 8922250) (ha2 : (-2147483648) ≤ (xs (i + 2)).toInt ∧ (xs (i + 2)).toInt ≤ (-1)) (kk : ∀ (k : Nat) (ta : Nat → Option Nat) (w2 : va_W) (H : Heap) (locs : List Loc), va_P D classes w2 H → va_D (fun q : Nat => s.heap.size ≤ q) w2 → va_S (fun q : Nat => s.heap.size ≤ q) s.heap H locs → LI kA h1 h2 rd (i + 6) k ta w2 → (TN ws h1 17 → TN w2 h1 17) → (TN ws h1 20 → TN w2 h1 20) → W p l e room_1 s m #[Value.ref b] below meth c H locs (cells + 0) (slots + 0) (lw_Z below #[Value.ref b] s) (F0 m 1294 ls [])) : W p l e room_1 s m #[Value.ref b] below meth c H locs cells slots (lw_Z below #[Value.ref b] s) (F0 m 765 ls []) := by
  obtain ⟨hx, hb, hr, hml, hown, hts0, hX, hbl, hlocks, hgv⟩ := id C0
  have hts : ∀ w ∈ lw_g, w.before #[Value.ref b] s = true := fun w h => hts0 w (lw_gt h)
  have X : cx p s m #[Value.ref b] meth c b_law_law 4 ret "DrawingHouseLaw" meth.name := ⟨hx, hb, hml, hown, hts, hr, hlocks, rfl⟩
  obtain ⟨A, hAe⟩ : ∃ A : Nat → Prop, A = fun q : Nat => s.heap.size ≤ q := ⟨_, rfl⟩
  have hA : ∀ q : Nat, s.heap.size ≤ q → A q := fun q h => by rw [hAe]; exact h
  have hbA : ¬ A b := by rw [hAe]; exact Nat.not_le.mpr hbl
  rw [← hAe] at hD hS hN kk
  obtain ⟨hth, ⟨a1, a2, a3, hn⟩, hrd, F_HI, F_HL, F_HY, F_RO, F_PT, F_LE, F_TA, F_TE⟩ := hI
  obtain ⟨k, hk, hkk⟩ : ∃ k : Nat, k ≤ 2000 ∧ k = n := ⟨n, hn, rfl⟩
  have henv : sy_env ta L_env (L_vs h1 h2 rd i n k) := L_envs a1 a2 a3 (by omega) hn hk
  refine lv_aload_n (pc := 765) hx hb d_law_law_765 rfl (lv_at hl 2 rfl) ?_
  refine lv_aload_n (pc := 766) hx hb d_law_law_766 rfl (lv_at hl 3 rfl) ?_
  refine lv_iload_n (pc := 767) hx hb d_law_law_767 rfl (lv_at hl 0 rfl) ?_
  refine lv_iconst (pc := 768) (v := 1) hx hb d_law_law_768 (by decide) ?_
  refine k_add (pc := 769) (x := i) (y := 1) hx hb d_law_law_769 ?_
  refine sc_ld (pc := 770) (j := i + 1) hx hb hX hbl hbA hS (by omega) (by omega) d_law_law_770 ?_
  refine lv_aload_n (pc := 771) hx hb d_law_law_771 rfl (lv_at hl 3 rfl) ?_
  refine lv_iload_n (pc := 772) hx hb d_law_law_772 rfl (lv_at hl 0 rfl) ?_
  refine lv_iconst (pc := 773) (v := 2) hx hb d_law_law_773 (by decide) ?_
  refine k_add (pc := 774) (x := i) (y := 2) hx hb d_law_law_774 ?_
  refine sc_ld (pc := 775) (j := i + 2) hx hb hX hbl hbA hS (by omega) (by omega) d_law_law_775 ?_
  refine lv_aload_n (pc := 776) hx hb d_law_law_776 rfl (lv_at hl 3 rfl) ?_
  refine lv_iload_n (pc := 777) hx hb d_law_law_777 rfl (lv_at hl 0 rfl) ?_
  refine lv_iconst (pc := 778) (v := 3) hx hb d_law_law_778 (by decide) ?_
  refine k_add (pc := 779) (x := i) (y := 3) hx hb d_law_law_779 ?_
  refine sc_ld (pc := 780) (j := i + 3) hx hb hX hbl hbA hS (by omega) (by omega) d_law_law_780 ?_
  refine W.eq (g2 := F0 m 781 ls (List.reverse [.ref h1, .int (xs (i + 1)), .int (xs (i + 2)), .int (xs (i + 3))] ++ [])) rfl ?_
  refine (cl_virtual (y := y_Ho_draw_at_n) (ci := 12) rfl rfl ⟨_, _, rfl⟩ (by decide +kernel) h_Ho_draw_at_n wm_1185 wm_1 wm_1182 wm_1183 wm_1184 ⟨by decide, by decide, by decide +kernel⟩ (by decide) : cl_ok PRD l D kA GG "DrawingHouseLaw" _ _ e_Ho_draw_at_n) p e room_1 s m #[Value.ref b] below meth c H locs cells slots (lw_Z below #[Value.ref b] s) b_law_law 781 4 ret meth.name A ws ta ls [.ref h1, .int (xs (i + 1)), .int (xs (i + 2)), .int (xs (i + 3))] [] [.int (nI i)] [] X hK hN hA hP hD hS hth (ag_c (tv_rf a1) (ag_c tv_top (ag_c (Or.inl ⟨rfl, _, rfl, ha2.1, ha2.2⟩) (ag_c tv_top (ag_n))))) (gv_n) (ag_c (tv_nI (show i ≤ 3066 by omega) (by decide)) (ag_n)) (show ∀ f ∈ ([(20, [0], [62, 0]), (20, [0], [62, 1000000]), (20, [0, 4], [62, 2000000])] : List fc_T), fc_1 PRD f ws ([.ref h1, .int (xs (i + 1)), .int (xs (i + 2)), .int (xs (i + 3))] ++ [] ++ [.int (nI i)]) from (List.forall_mem_cons.mpr ⟨⟨nf_in (N := 5) rfl rfl, F_HI⟩, (List.forall_mem_cons.mpr ⟨⟨nf_in (N := 5) rfl rfl, F_HL⟩, (List.forall_mem_cons.mpr ⟨⟨nf_in (N := 5) rfl rfl, F_HY⟩, (fun _ h => by cases h)⟩)⟩)⟩)) (by first | decide | exact Nat.le_of_ble_eq_true rfl) (by first | decide | exact Nat.le_of_ble_eq_true rfl) (by first | decide | exact Nat.le_of_ble_eq_true rfl) (show cells + 0 ≤ 60000 by omega) (show slots + 0 ≤ 8922250 by omega) hl.1 d_law_law_781 (fun ta1 ws1 H1 locs1 r hle1 hth1 hP1 hD1 hS1 hrt hpo _ hkp => ?_)
  obtain ⟨x1, rfl⟩ := rt_i rfl hrt
  have hpost : ∀ f ∈ ([(20, [0], [62, 0]), (20, [0], [62, 1000000]), (20, [0, 4], [62, 2000006])] : List fc_T), fc_1 PRD f ws1 ([.ref h1, .int (xs (i + 1)), .int (xs (i + 2)), .int (xs (i + 3))] ++ [] ++ [.int (nI i)] ++ [.int x1]) := hpo.1
  have hkeep := L_keep (M := [(20, [0], [62, 0]), (20, [0], [62, 1000000]), (20, [0, 2], [62, 2000000]), (20, [1], [60, 0, 3, 198, 2, 3, 4]), (20, [1], [60, 0, 3, 367, 110, 111, 112]), (20, [3, 4], [50, 1, 0, 1, 1, 3, 2, 0, 1, 1, 1]), (20, [1, 4], [50, 1, 0, 0, 1, 3, 2, 0, 0, 1, 1]), (20, [1, 3, 4], [60, 0, 2, 1109, 1, 1000])]) (S := [(20, [1], [60, 0, 3, 198, 2, 3, 4]), (20, [1], [60, 0, 3, 367, 110, 111, 112]), (20, [3, 4], [50, 1, 0, 1, 1, 3, 2, 0, 1, 1, 1]), (20, [1, 4], [50, 1, 0, 0, 1, 3, 2, 0, 0, 1, 1]), (20, [1, 3, 4], [60, 0, 2, 1109, 1, 1000])]) hth henv hD hle1 hth1 hD1 hkp (by decide +kernel) (List.forall_mem_cons.mpr ⟨F_HI, (List.forall_mem_cons.mpr ⟨F_HL, (List.forall_mem_cons.mpr ⟨F_HY, (List.forall_mem_cons.mpr ⟨F_RO, (List.forall_mem_cons.mpr ⟨F_PT, (List.forall_mem_cons.mpr ⟨F_LE, (List.forall_mem_cons.mpr ⟨F_TA, (List.forall_mem_cons.mpr ⟨F_TE, (fun _ h => by cases h)⟩)⟩)⟩)⟩)⟩)⟩)⟩)⟩)
  have G_RO : fc_m PRD 20 [.ref h2] [60, 0, 3, 198, 2, 3, 4] ws1 := hkeep _ List.mem_cons_self
  have G_PT : fc_m PRD 20 [.ref h2] [60, 0, 3, 367, 110, 111, 112] ws1 := hkeep _ (List.mem_cons_of_mem _ List.mem_cons_self)
  have G_LE : fc_m PRD 20 [.ref rd, .int (nI n)] [50, 1, 0, 1, 1, 3, 2, 0, 1, 1, 1] ws1 := hkeep _ (List.mem_cons_of_mem _ (List.mem_cons_of_mem _ List.mem_cons_self))
  have G_TA : fc_m PRD 20 [.ref h2, .int (nI n)] [50, 1, 0, 0, 1, 3, 2, 0, 0, 1, 1] ws1 := hkeep _ (List.mem_cons_of_mem _ (List.mem_cons_of_mem _ (List.mem_cons_of_mem _ List.mem_cons_self)))
  have G_TE : fc_m PRD 20 [.ref h2, .ref rd, .int (nI n)] [60, 0, 2, 1109, 1, 1000] ws1 := hkeep _ (List.mem_cons_of_mem _ (List.mem_cons_of_mem _ (List.mem_cons_of_mem _ (List.mem_cons_of_mem _ List.mem_cons_self))))
  have G_HI : fc_m PRD 20 [.ref h1] [62, 0] ws1 := (hpost _ List.mem_cons_self).2
  have G_HL : fc_m PRD 20 [.ref h1] [62, 1000000] ws1 := (hpost _ (List.mem_cons_of_mem _ List.mem_cons_self)).2
  have G_HY6 : fc_m PRD 20 [.ref h1, .int (nI (i + 6))] [62, 2000000] ws1 := by have z : HY ws1 (.ref h1) ((nI i).toInt + ((2000006 : Nat) - 2000000 : Int)) := (hpost _ (List.mem_cons_of_mem _ (List.mem_cons_of_mem _ List.mem_cons_self))).2; show HY ws1 (.ref h1) ((nI (i + 6)).toInt + ((2000000 : Nat) - 2000000 : Int)); rw [nI_toInt (by omega)] at z ⊢; exact hy_le z (by omega)
  have G_LE6 : fc_m PRD 20 [.ref rd, .int (nI k)] [50, 1, 0, 1, 1, 3, 2, 0, 1, 1, 1] ws1 := by rw [hkk]; exact G_LE
  have hrd : L_rd ws1 h1 rd := L_rdk hrd a1 hkp (by decide +kernel)
  have tn17 : TN ws h1 17 → TN ws1 h1 17 := TN_kp a1 hkp (by decide +kernel)
  have tn20 : TN ws h1 20 → TN ws1 h1 20 := TN_kp a1 hkp (by decide +kernel)
  have F_HI := G_HI
  have F_HL := G_HL
  have F_HY6 := G_HY6
  have F_RO := G_RO
  have F_PT := G_PT
  have F_LE6 := G_LE6
  have F_TA := G_TA
  have F_TE := G_TE
  show W p l e room_1 s m #[Value.ref b] below meth c H1 locs1 (cells + 0) (slots + 0) (lw_Z below #[Value.ref b] s) (F0 m 784 ls [.int x1])
  have hS := hS1
  refine lv_pop (pc := 784) hx hb d_law_law_784 rfl ?_
  refine lv_aload_n (pc := 785) hx hb d_law_law_785 rfl (lv_at hl 1 rfl) ?_
  refine lv_aload_n (pc := 786) hx hb d_law_law_786 rfl (lv_at hl 3 rfl) ?_
  refine lv_iload_n (pc := 787) hx hb d_law_law_787 rfl (lv_at hl 0 rfl) ?_
  refine lv_iconst (pc := 788) (v := 1) hx hb d_law_law_788 (by decide) ?_
  refine k_add (pc := 789) (x := i) (y := 1) hx hb d_law_law_789 ?_
  refine sc_ld (pc := 790) (j := i + 1) hx hb hX hbl hbA hS (by omega) (by omega) d_law_law_790 ?_
  refine lv_aload_n (pc := 791) hx hb d_law_law_791 rfl (lv_at hl 3 rfl) ?_
  refine lv_iload_n (pc := 792) hx hb d_law_law_792 rfl (lv_at hl 0 rfl) ?_
  refine lv_iconst (pc := 793) (v := 2) hx hb d_law_law_793 (by decide) ?_
  refine k_add (pc := 794) (x := i) (y := 2) hx hb d_law_law_794 ?_
  refine sc_ld (pc := 795) (j := i + 2) hx hb hX hbl hbA hS (by omega) (by omega) d_law_law_795 ?_
  refine lv_aload_n (pc := 796) hx hb d_law_law_796 rfl (lv_at hl 3 rfl) ?_
  refine lv_iload_n (pc := 797) hx hb d_law_law_797 rfl (lv_at hl 0 rfl) ?_
  refine lv_iconst (pc := 798) (v := 3) hx hb d_law_law_798 (by decide) ?_
  refine k_add (pc := 799) (x := i) (y := 3) hx hb d_law_law_799 ?_
  refine sc_ld (pc := 800) (j := i + 3) hx hb hX hbl hbA hS (by omega) (by omega) d_law_law_800 ?_
  refine W.eq (g2 := F0 m 801 ls (List.reverse [.ref h2, .int (xs (i + 1)), .int (xs (i + 2)), .int (xs (i + 3))] ++ [])) rfl ?_
  refine (cl_virtual (y := y_Mo_draw) (ci := 13) rfl rfl ⟨_, _, rfl⟩ (by decide +kernel) h_Mo_draw wm_3367 wm_9 wm_3364 wm_3365 wm_3366 ⟨by decide, by decide, by decide +kernel⟩ (by decide) : cl_ok PRD l D kA GG "DrawingHouseLaw" _ _ e_Mo_draw) p e room_1 s m #[Value.ref b] below meth c H1 locs1 (cells + 0) (slots + 0) (lw_Z below #[Value.ref b] s) b_law_law 801 4 ret meth.name A ws1 ta1 ls [.ref h2, .int (xs (i + 1)), .int (xs (i + 2)), .int (xs (i + 3))] [] [] [] X hK hN hA hP1 hD1 hS1 hth1 (ag_c (tv_rf (hle1 _ _ a2)) (ag_c tv_top (ag_c tv_top (ag_c tv_top (ag_n))))) (gv_n) (ag_n) (show ∀ f ∈ ([(20, [0], [60, 0, 3, 198, 2, 3, 4]), (20, [0], [60, 0, 3, 367, 110, 111, 112])] : List fc_T), fc_1 PRD f ws1 ([.ref h2, .int (xs (i + 1)), .int (xs (i + 2)), .int (xs (i + 3))] ++ [] ++ []) from (List.forall_mem_cons.mpr ⟨⟨nf_in (N := 4) rfl rfl, F_RO⟩, (List.forall_mem_cons.mpr ⟨⟨nf_in (N := 4) rfl rfl, F_PT⟩, (fun _ h => by cases h)⟩)⟩)) (by first | decide | exact Nat.le_of_ble_eq_true rfl) (by first | decide | exact Nat.le_of_ble_eq_true rfl) (by first | decide | exact Nat.le_of_ble_eq_true rfl) (show (cells + 0) + 0 ≤ 60000 by omega) (show (slots + 0) + 0 ≤ 8922250 by omega) hl.1 d_law_law_801 (fun ta2 ws2 H2 locs2 r hle2 hth2 hP2 hD2 hS2 hrt hpo _ hkp => ?_)
  obtain ⟨x2, rfl⟩ := rt_i rfl hrt
  have hpost : ∀ f ∈ ([] : List fc_T), fc_1 PRD f ws2 ([.ref h2, .int (xs (i + 1)), .int (xs (i + 2)), .int (xs (i + 3))] ++ [] ++ [] ++ [.int x2]) := hpo.1
  have hkeep := L_keep (M := [(20, [0], [62, 0]), (20, [0], [62, 1000000]), (20, [0, 6], [62, 2000000]), (20, [1], [60, 0, 3, 198, 2, 3, 4]), (20, [1], [60, 0, 3, 367, 110, 111, 112]), (20, [3, 5], [50, 1, 0, 1, 1, 3, 2, 0, 1, 1, 1]), (20, [1, 4], [50, 1, 0, 0, 1, 3, 2, 0, 0, 1, 1]), (20, [1, 3, 4], [60, 0, 2, 1109, 1, 1000])]) (S := [(20, [0], [62, 0]), (20, [0], [62, 1000000]), (20, [0, 6], [62, 2000000]), (20, [1], [60, 0, 3, 198, 2, 3, 4]), (20, [1], [60, 0, 3, 367, 110, 111, 112]), (20, [3, 5], [50, 1, 0, 1, 1, 3, 2, 0, 1, 1, 1]), (20, [1, 4], [50, 1, 0, 0, 1, 3, 2, 0, 0, 1, 1]), (20, [1, 3, 4], [60, 0, 2, 1109, 1, 1000])]) hth1 (sy_env_up hle1 henv) hD1 hle2 hth2 hD2 hkp (by decide +kernel) (List.forall_mem_cons.mpr ⟨F_HI, (List.forall_mem_cons.mpr ⟨F_HL, (List.forall_mem_cons.mpr ⟨F_HY6, (List.forall_mem_cons.mpr ⟨F_RO, (List.forall_mem_cons.mpr ⟨F_PT, (List.forall_mem_cons.mpr ⟨F_LE6, (List.forall_mem_cons.mpr ⟨F_TA, (List.forall_mem_cons.mpr ⟨F_TE, (fun _ h => by cases h)⟩)⟩)⟩)⟩)⟩)⟩)⟩)⟩)
  have G_HI : fc_m PRD 20 [.ref h1] [62, 0] ws2 := hkeep _ List.mem_cons_self
  have G_HL : fc_m PRD 20 [.ref h1] [62, 1000000] ws2 := hkeep _ (List.mem_cons_of_mem _ List.mem_cons_self)
  have G_HY6 : fc_m PRD 20 [.ref h1, .int (nI (i + 6))] [62, 2000000] ws2 := hkeep _ (List.mem_cons_of_mem _ (List.mem_cons_of_mem _ List.mem_cons_self))
  have G_RO : fc_m PRD 20 [.ref h2] [60, 0, 3, 198, 2, 3, 4] ws2 := hkeep _ (List.mem_cons_of_mem _ (List.mem_cons_of_mem _ (List.mem_cons_of_mem _ List.mem_cons_self)))
  have G_PT : fc_m PRD 20 [.ref h2] [60, 0, 3, 367, 110, 111, 112] ws2 := hkeep _ (List.mem_cons_of_mem _ (List.mem_cons_of_mem _ (List.mem_cons_of_mem _ (List.mem_cons_of_mem _ List.mem_cons_self))))
  have G_LE6 : fc_m PRD 20 [.ref rd, .int (nI k)] [50, 1, 0, 1, 1, 3, 2, 0, 1, 1, 1] ws2 := hkeep _ (List.mem_cons_of_mem _ (List.mem_cons_of_mem _ (List.mem_cons_of_mem _ (List.mem_cons_of_mem _ (List.mem_cons_of_mem _ List.mem_cons_self)))))
  have G_TA : fc_m PRD 20 [.ref h2, .int (nI n)] [50, 1, 0, 0, 1, 3, 2, 0, 0, 1, 1] ws2 := hkeep _ (List.mem_cons_of_mem _ (List.mem_cons_of_mem _ (List.mem_cons_of_mem _ (List.mem_cons_of_mem _ (List.mem_cons_of_mem _ (List.mem_cons_of_mem _ List.mem_cons_self))))))
  have G_TE : fc_m PRD 20 [.ref h2, .ref rd, .int (nI n)] [60, 0, 2, 1109, 1, 1000] ws2 := hkeep _ (List.mem_cons_of_mem _ (List.mem_cons_of_mem _ (List.mem_cons_of_mem _ (List.mem_cons_of_mem _ (List.mem_cons_of_mem _ (List.mem_cons_of_mem _ (List.mem_cons_of_mem _ List.mem_cons_self)))))))
  have G_TA6 : fc_m PRD 20 [.ref h2, .int (nI k)] [50, 1, 0, 0, 1, 3, 2, 0, 0, 1, 1] ws2 := by rw [hkk]; exact G_TA
  have G_TE6 : fc_m PRD 20 [.ref h2, .ref rd, .int (nI k)] [60, 0, 2, 1109, 1, 1000] ws2 := by have z : TEQ (w_ei ws2 (w_ar ws2 (.ref h2) 1)) (w_ei ws2 (w_ar ws2 (.ref rd) 0)) (nI n).toInt := G_TE; have z2 : TEQ (w_ei ws2 (w_ar ws2 (.ref h2) 1)) (w_ei ws2 (w_ar ws2 (.ref rd) 0)) (nI k).toInt := L_tek z (show k ≤ n by omega) hn; exact z2
  have hrd : L_rd ws2 h1 rd := L_rdk hrd (hle1 _ _ a1) hkp (by decide +kernel)
  have tm17 : TN ws1 h1 17 → TN ws2 h1 17 := TN_kp (hle1 _ _ a1) hkp (by decide +kernel)
  have tm20 : TN ws1 h1 20 → TN ws2 h1 20 := TN_kp (hle1 _ _ a1) hkp (by decide +kernel)
  have F_HI := G_HI
  have F_HL := G_HL
  have F_HY6 := G_HY6
  have F_RO := G_RO
  have F_PT := G_PT
  have F_LE6 := G_LE6
  have F_TA6 := G_TA6
  have F_TE := G_TE
  have F_TE6 := G_TE6
  show W p l e room_1 s m #[Value.ref b] below meth c H2 locs2 (cells + 0 + 0) (slots + 0 + 0) (lw_Z below #[Value.ref b] s) (F0 m 804 ls [.int x2])
  have hS := hS2
  refine lv_pop (pc := 804) hx hb d_law_law_804 rfl ?_
  refine lv_goto (pc := 805) (tgt := 1294) hx hb d_law_law_805 (by decide) ?_
  have q1 : cells + 0 + 0 = cells + 0 := by omega
  have q2 : slots + 0 + 0 = slots + 0 := by omega
  rw [q1, q2]
  exact kk k ta2 ws2 H2 locs2 hP2 hD2 hS2 ⟨hth2, ⟨hle2 _ _ (hle1 _ _ a1), hle2 _ _ (hle1 _ _ a2), hle2 _ _ (hle1 _ _ a3), hk⟩, hrd, F_HI, F_HL, F_HY6, F_RO, F_PT, F_LE6, F_TA6, F_TE6⟩ (fun q => tm17 (tn17 q)) (fun q => tm20 (tn20 q))
set_option maxRecDepth 100000 in
set_option maxHeartbeats 4000000 in
/-- draw -/
theorem lc_draw_p {p : Program} {e : Env} {s : State} {m : MethodId} {below : List Frame} {meth : Method} {c : Code} {l : Launch} {b L : Nat} {xs : Nat → Int32} (C0 : lw_At p s m meth c b L xs) (hL : L ≤ 3072) {D : va_G} {kA : Nat → ClassId} (hK : va_K D classes (TY kA) s) (hN : nsr kA (fun q : Nat => s.heap.size ≤ q) s) (h_Ho_draw_at_p : ct_ok PRD l D kA GG y_Ho_draw_at_p z_Ho_draw_at_p e_Ho_draw_at_p) (h_Mo_draw : ct_ok PRD l D kA GG y_Mo_draw z_Mo_draw e_Mo_draw) {h1 h2 rd i n : Nat} (hi : i + 6 ≤ L) {ta : Nat → Option Nat} {ws : va_W} {H : Heap} {locs : List Loc} {ls : Array Slot} {cells slots : Nat} (hP : va_P D classes ws H) (hD : va_D (fun q : Nat => s.heap.size ≤ q) ws) (hS : va_S (fun q : Nat => s.heap.size ≤ q) s.heap H locs) (hI : LI kA h1 h2 rd i n ta ws) (hl : lv_has ls 4 [(3, .int (nI i)), (2, .ref h2), (1, .ref h1), (0, .ref b)]) (hc : cells + 19 ≤ 60000) (hs : slots + 1787 ≤ 8922250) (ha2 : 1 ≤ (xs (i + 2)).toInt ∧ (xs (i + 2)).toInt ≤ 2147483647) (kk : ∀ (k : Nat) (ta : Nat → Option Nat) (w2 : va_W) (H : Heap) (locs : List Loc), va_P D classes w2 H → va_D (fun q : Nat => s.heap.size ≤ q) w2 → va_S (fun q : Nat => s.heap.size ≤ q) s.heap H locs → LI kA h1 h2 rd (i + 6) k ta w2 → (TN ws h1 17 → TN w2 h1 17) → (TN ws h1 20 → TN w2 h1 20) → W p l e room_1 s m #[Value.ref b] below meth c H locs (cells + 19) (slots + 1787) (lw_Z below #[Value.ref b] s) (F0 m 1294 ls [])) : W p l e room_1 s m #[Value.ref b] below meth c H locs cells slots (lw_Z below #[Value.ref b] s) (F0 m 765 ls []) := by
  obtain ⟨hx, hb, hr, hml, hown, hts0, hX, hbl, hlocks, hgv⟩ := id C0
  have hts : ∀ w ∈ lw_g, w.before #[Value.ref b] s = true := fun w h => hts0 w (lw_gt h)
  have X : cx p s m #[Value.ref b] meth c b_law_law 4 ret "DrawingHouseLaw" meth.name := ⟨hx, hb, hml, hown, hts, hr, hlocks, rfl⟩
  obtain ⟨A, hAe⟩ : ∃ A : Nat → Prop, A = fun q : Nat => s.heap.size ≤ q := ⟨_, rfl⟩
  have hA : ∀ q : Nat, s.heap.size ≤ q → A q := fun q h => by rw [hAe]; exact h
  have hbA : ¬ A b := by rw [hAe]; exact Nat.not_le.mpr hbl
  rw [← hAe] at hD hS hN kk
  obtain ⟨hth, ⟨a1, a2, a3, hn⟩, hrd, F_HI, F_HL, F_HY, F_RO, F_PT, F_LE, F_TA, F_TE⟩ := hI
  obtain ⟨k, hk, hkk⟩ : ∃ k : Nat, k ≤ 2000 ∧ k = n := ⟨n, hn, rfl⟩
  have henv : sy_env ta L_env (L_vs h1 h2 rd i n k) := L_envs a1 a2 a3 (by omega) hn hk
  refine lv_aload_n (pc := 765) hx hb d_law_law_765 rfl (lv_at hl 2 rfl) ?_
  refine lv_aload_n (pc := 766) hx hb d_law_law_766 rfl (lv_at hl 3 rfl) ?_
  refine lv_iload_n (pc := 767) hx hb d_law_law_767 rfl (lv_at hl 0 rfl) ?_
  refine lv_iconst (pc := 768) (v := 1) hx hb d_law_law_768 (by decide) ?_
  refine k_add (pc := 769) (x := i) (y := 1) hx hb d_law_law_769 ?_
  refine sc_ld (pc := 770) (j := i + 1) hx hb hX hbl hbA hS (by omega) (by omega) d_law_law_770 ?_
  refine lv_aload_n (pc := 771) hx hb d_law_law_771 rfl (lv_at hl 3 rfl) ?_
  refine lv_iload_n (pc := 772) hx hb d_law_law_772 rfl (lv_at hl 0 rfl) ?_
  refine lv_iconst (pc := 773) (v := 2) hx hb d_law_law_773 (by decide) ?_
  refine k_add (pc := 774) (x := i) (y := 2) hx hb d_law_law_774 ?_
  refine sc_ld (pc := 775) (j := i + 2) hx hb hX hbl hbA hS (by omega) (by omega) d_law_law_775 ?_
  refine lv_aload_n (pc := 776) hx hb d_law_law_776 rfl (lv_at hl 3 rfl) ?_
  refine lv_iload_n (pc := 777) hx hb d_law_law_777 rfl (lv_at hl 0 rfl) ?_
  refine lv_iconst (pc := 778) (v := 3) hx hb d_law_law_778 (by decide) ?_
  refine k_add (pc := 779) (x := i) (y := 3) hx hb d_law_law_779 ?_
  refine sc_ld (pc := 780) (j := i + 3) hx hb hX hbl hbA hS (by omega) (by omega) d_law_law_780 ?_
  refine W.eq (g2 := F0 m 781 ls (List.reverse [.ref h1, .int (xs (i + 1)), .int (xs (i + 2)), .int (xs (i + 3))] ++ [])) rfl ?_
  refine (cl_virtual (y := y_Ho_draw_at_p) (ci := 12) rfl rfl ⟨_, _, rfl⟩ (by decide +kernel) h_Ho_draw_at_p wm_1185 wm_1 wm_1182 wm_1183 wm_1184 ⟨by decide, by decide, by decide +kernel⟩ (by decide) : cl_ok PRD l D kA GG "DrawingHouseLaw" _ _ e_Ho_draw_at_p) p e room_1 s m #[Value.ref b] below meth c H locs cells slots (lw_Z below #[Value.ref b] s) b_law_law 781 4 ret meth.name A ws ta ls [.ref h1, .int (xs (i + 1)), .int (xs (i + 2)), .int (xs (i + 3))] [] [.int (nI i)] [] X hK hN hA hP hD hS hth (ag_c (tv_rf a1) (ag_c tv_top (ag_c (Or.inl ⟨rfl, _, rfl, ha2.1, ha2.2⟩) (ag_c tv_top (ag_n))))) (gv_n) (ag_c (tv_nI (show i ≤ 3066 by omega) (by decide)) (ag_n)) (show ∀ f ∈ ([(20, [0], [62, 0]), (20, [0], [62, 1000000]), (20, [0, 4], [62, 2000000])] : List fc_T), fc_1 PRD f ws ([.ref h1, .int (xs (i + 1)), .int (xs (i + 2)), .int (xs (i + 3))] ++ [] ++ [.int (nI i)]) from (List.forall_mem_cons.mpr ⟨⟨nf_in (N := 5) rfl rfl, F_HI⟩, (List.forall_mem_cons.mpr ⟨⟨nf_in (N := 5) rfl rfl, F_HL⟩, (List.forall_mem_cons.mpr ⟨⟨nf_in (N := 5) rfl rfl, F_HY⟩, (fun _ h => by cases h)⟩)⟩)⟩)) (by first | decide | exact Nat.le_of_ble_eq_true rfl) (by first | decide | exact Nat.le_of_ble_eq_true rfl) (by first | decide | exact Nat.le_of_ble_eq_true rfl) (show cells + 19 ≤ 60000 by omega) (show slots + 1787 ≤ 8922250 by omega) hl.1 d_law_law_781 (fun ta1 ws1 H1 locs1 r hle1 hth1 hP1 hD1 hS1 hrt hpo _ hkp => ?_)
  obtain ⟨x1, rfl⟩ := rt_i rfl hrt
  have hpost : ∀ f ∈ ([(20, [0], [62, 0]), (20, [0], [62, 1000000]), (20, [0, 4], [62, 2000006])] : List fc_T), fc_1 PRD f ws1 ([.ref h1, .int (xs (i + 1)), .int (xs (i + 2)), .int (xs (i + 3))] ++ [] ++ [.int (nI i)] ++ [.int x1]) := hpo.1
  have hkeep := L_keep (M := [(20, [0], [62, 0]), (20, [0], [62, 1000000]), (20, [0, 2], [62, 2000000]), (20, [1], [60, 0, 3, 198, 2, 3, 4]), (20, [1], [60, 0, 3, 367, 110, 111, 112]), (20, [3, 4], [50, 1, 0, 1, 1, 3, 2, 0, 1, 1, 1]), (20, [1, 4], [50, 1, 0, 0, 1, 3, 2, 0, 0, 1, 1]), (20, [1, 3, 4], [60, 0, 2, 1109, 1, 1000])]) (S := [(20, [1], [60, 0, 3, 198, 2, 3, 4]), (20, [1], [60, 0, 3, 367, 110, 111, 112]), (20, [3, 4], [50, 1, 0, 1, 1, 3, 2, 0, 1, 1, 1]), (20, [1, 4], [50, 1, 0, 0, 1, 3, 2, 0, 0, 1, 1]), (20, [1, 3, 4], [60, 0, 2, 1109, 1, 1000])]) hth henv hD hle1 hth1 hD1 hkp (by decide +kernel) (List.forall_mem_cons.mpr ⟨F_HI, (List.forall_mem_cons.mpr ⟨F_HL, (List.forall_mem_cons.mpr ⟨F_HY, (List.forall_mem_cons.mpr ⟨F_RO, (List.forall_mem_cons.mpr ⟨F_PT, (List.forall_mem_cons.mpr ⟨F_LE, (List.forall_mem_cons.mpr ⟨F_TA, (List.forall_mem_cons.mpr ⟨F_TE, (fun _ h => by cases h)⟩)⟩)⟩)⟩)⟩)⟩)⟩)⟩)
  have G_RO : fc_m PRD 20 [.ref h2] [60, 0, 3, 198, 2, 3, 4] ws1 := hkeep _ List.mem_cons_self
  have G_PT : fc_m PRD 20 [.ref h2] [60, 0, 3, 367, 110, 111, 112] ws1 := hkeep _ (List.mem_cons_of_mem _ List.mem_cons_self)
  have G_LE : fc_m PRD 20 [.ref rd, .int (nI n)] [50, 1, 0, 1, 1, 3, 2, 0, 1, 1, 1] ws1 := hkeep _ (List.mem_cons_of_mem _ (List.mem_cons_of_mem _ List.mem_cons_self))
  have G_TA : fc_m PRD 20 [.ref h2, .int (nI n)] [50, 1, 0, 0, 1, 3, 2, 0, 0, 1, 1] ws1 := hkeep _ (List.mem_cons_of_mem _ (List.mem_cons_of_mem _ (List.mem_cons_of_mem _ List.mem_cons_self)))
  have G_TE : fc_m PRD 20 [.ref h2, .ref rd, .int (nI n)] [60, 0, 2, 1109, 1, 1000] ws1 := hkeep _ (List.mem_cons_of_mem _ (List.mem_cons_of_mem _ (List.mem_cons_of_mem _ (List.mem_cons_of_mem _ List.mem_cons_self))))
  have G_HI : fc_m PRD 20 [.ref h1] [62, 0] ws1 := (hpost _ List.mem_cons_self).2
  have G_HL : fc_m PRD 20 [.ref h1] [62, 1000000] ws1 := (hpost _ (List.mem_cons_of_mem _ List.mem_cons_self)).2
  have G_HY6 : fc_m PRD 20 [.ref h1, .int (nI (i + 6))] [62, 2000000] ws1 := by have z : HY ws1 (.ref h1) ((nI i).toInt + ((2000006 : Nat) - 2000000 : Int)) := (hpost _ (List.mem_cons_of_mem _ (List.mem_cons_of_mem _ List.mem_cons_self))).2; show HY ws1 (.ref h1) ((nI (i + 6)).toInt + ((2000000 : Nat) - 2000000 : Int)); rw [nI_toInt (by omega)] at z ⊢; exact hy_le z (by omega)
  have G_LE6 : fc_m PRD 20 [.ref rd, .int (nI k)] [50, 1, 0, 1, 1, 3, 2, 0, 1, 1, 1] ws1 := by rw [hkk]; exact G_LE
  have hrd : L_rd ws1 h1 rd := L_rdk hrd a1 hkp (by decide +kernel)
  have tn17 : TN ws h1 17 → TN ws1 h1 17 := TN_kp a1 hkp (by decide +kernel)
  have tn20 : TN ws h1 20 → TN ws1 h1 20 := TN_kp a1 hkp (by decide +kernel)
  have F_HI := G_HI
  have F_HL := G_HL
  have F_HY6 := G_HY6
  have F_RO := G_RO
  have F_PT := G_PT
  have F_LE6 := G_LE6
  have F_TA := G_TA
  have F_TE := G_TE
  show W p l e room_1 s m #[Value.ref b] below meth c H1 locs1 (cells + 19) (slots + 1787) (lw_Z below #[Value.ref b] s) (F0 m 784 ls [.int x1])
  have hS := hS1
  refine lv_pop (pc := 784) hx hb d_law_law_784 rfl ?_
  refine lv_aload_n (pc := 785) hx hb d_law_law_785 rfl (lv_at hl 1 rfl) ?_
  refine lv_aload_n (pc := 786) hx hb d_law_law_786 rfl (lv_at hl 3 rfl) ?_
  refine lv_iload_n (pc := 787) hx hb d_law_law_787 rfl (lv_at hl 0 rfl) ?_
  refine lv_iconst (pc := 788) (v := 1) hx hb d_law_law_788 (by decide) ?_
  refine k_add (pc := 789) (x := i) (y := 1) hx hb d_law_law_789 ?_
  refine sc_ld (pc := 790) (j := i + 1) hx hb hX hbl hbA hS (by omega) (by omega) d_law_law_790 ?_
  refine lv_aload_n (pc := 791) hx hb d_law_law_791 rfl (lv_at hl 3 rfl) ?_
  refine lv_iload_n (pc := 792) hx hb d_law_law_792 rfl (lv_at hl 0 rfl) ?_
  refine lv_iconst (pc := 793) (v := 2) hx hb d_law_law_793 (by decide) ?_
  refine k_add (pc := 794) (x := i) (y := 2) hx hb d_law_law_794 ?_
  refine sc_ld (pc := 795) (j := i + 2) hx hb hX hbl hbA hS (by omega) (by omega) d_law_law_795 ?_
  refine lv_aload_n (pc := 796) hx hb d_law_law_796 rfl (lv_at hl 3 rfl) ?_
  refine lv_iload_n (pc := 797) hx hb d_law_law_797 rfl (lv_at hl 0 rfl) ?_
  refine lv_iconst (pc := 798) (v := 3) hx hb d_law_law_798 (by decide) ?_
  refine k_add (pc := 799) (x := i) (y := 3) hx hb d_law_law_799 ?_
  refine sc_ld (pc := 800) (j := i + 3) hx hb hX hbl hbA hS (by omega) (by omega) d_law_law_800 ?_
  refine W.eq (g2 := F0 m 801 ls (List.reverse [.ref h2, .int (xs (i + 1)), .int (xs (i + 2)), .int (xs (i + 3))] ++ [])) rfl ?_
  refine (cl_virtual (y := y_Mo_draw) (ci := 13) rfl rfl ⟨_, _, rfl⟩ (by decide +kernel) h_Mo_draw wm_3367 wm_9 wm_3364 wm_3365 wm_3366 ⟨by decide, by decide, by decide +kernel⟩ (by decide) : cl_ok PRD l D kA GG "DrawingHouseLaw" _ _ e_Mo_draw) p e room_1 s m #[Value.ref b] below meth c H1 locs1 (cells + 19) (slots + 1787) (lw_Z below #[Value.ref b] s) b_law_law 801 4 ret meth.name A ws1 ta1 ls [.ref h2, .int (xs (i + 1)), .int (xs (i + 2)), .int (xs (i + 3))] [] [] [] X hK hN hA hP1 hD1 hS1 hth1 (ag_c (tv_rf (hle1 _ _ a2)) (ag_c tv_top (ag_c tv_top (ag_c tv_top (ag_n))))) (gv_n) (ag_n) (show ∀ f ∈ ([(20, [0], [60, 0, 3, 198, 2, 3, 4]), (20, [0], [60, 0, 3, 367, 110, 111, 112])] : List fc_T), fc_1 PRD f ws1 ([.ref h2, .int (xs (i + 1)), .int (xs (i + 2)), .int (xs (i + 3))] ++ [] ++ []) from (List.forall_mem_cons.mpr ⟨⟨nf_in (N := 4) rfl rfl, F_RO⟩, (List.forall_mem_cons.mpr ⟨⟨nf_in (N := 4) rfl rfl, F_PT⟩, (fun _ h => by cases h)⟩)⟩)) (by first | decide | exact Nat.le_of_ble_eq_true rfl) (by first | decide | exact Nat.le_of_ble_eq_true rfl) (by first | decide | exact Nat.le_of_ble_eq_true rfl) (show (cells + 19) + 0 ≤ 60000 by omega) (show (slots + 1787) + 0 ≤ 8922250 by omega) hl.1 d_law_law_801 (fun ta2 ws2 H2 locs2 r hle2 hth2 hP2 hD2 hS2 hrt hpo _ hkp => ?_)
  obtain ⟨x2, rfl⟩ := rt_i rfl hrt
  have hpost : ∀ f ∈ ([] : List fc_T), fc_1 PRD f ws2 ([.ref h2, .int (xs (i + 1)), .int (xs (i + 2)), .int (xs (i + 3))] ++ [] ++ [] ++ [.int x2]) := hpo.1
  have hkeep := L_keep (M := [(20, [0], [62, 0]), (20, [0], [62, 1000000]), (20, [0, 6], [62, 2000000]), (20, [1], [60, 0, 3, 198, 2, 3, 4]), (20, [1], [60, 0, 3, 367, 110, 111, 112]), (20, [3, 5], [50, 1, 0, 1, 1, 3, 2, 0, 1, 1, 1]), (20, [1, 4], [50, 1, 0, 0, 1, 3, 2, 0, 0, 1, 1]), (20, [1, 3, 4], [60, 0, 2, 1109, 1, 1000])]) (S := [(20, [0], [62, 0]), (20, [0], [62, 1000000]), (20, [0, 6], [62, 2000000]), (20, [1], [60, 0, 3, 198, 2, 3, 4]), (20, [1], [60, 0, 3, 367, 110, 111, 112]), (20, [3, 5], [50, 1, 0, 1, 1, 3, 2, 0, 1, 1, 1]), (20, [1, 4], [50, 1, 0, 0, 1, 3, 2, 0, 0, 1, 1]), (20, [1, 3, 4], [60, 0, 2, 1109, 1, 1000])]) hth1 (sy_env_up hle1 henv) hD1 hle2 hth2 hD2 hkp (by decide +kernel) (List.forall_mem_cons.mpr ⟨F_HI, (List.forall_mem_cons.mpr ⟨F_HL, (List.forall_mem_cons.mpr ⟨F_HY6, (List.forall_mem_cons.mpr ⟨F_RO, (List.forall_mem_cons.mpr ⟨F_PT, (List.forall_mem_cons.mpr ⟨F_LE6, (List.forall_mem_cons.mpr ⟨F_TA, (List.forall_mem_cons.mpr ⟨F_TE, (fun _ h => by cases h)⟩)⟩)⟩)⟩)⟩)⟩)⟩)⟩)
  have G_HI : fc_m PRD 20 [.ref h1] [62, 0] ws2 := hkeep _ List.mem_cons_self
  have G_HL : fc_m PRD 20 [.ref h1] [62, 1000000] ws2 := hkeep _ (List.mem_cons_of_mem _ List.mem_cons_self)
  have G_HY6 : fc_m PRD 20 [.ref h1, .int (nI (i + 6))] [62, 2000000] ws2 := hkeep _ (List.mem_cons_of_mem _ (List.mem_cons_of_mem _ List.mem_cons_self))
  have G_RO : fc_m PRD 20 [.ref h2] [60, 0, 3, 198, 2, 3, 4] ws2 := hkeep _ (List.mem_cons_of_mem _ (List.mem_cons_of_mem _ (List.mem_cons_of_mem _ List.mem_cons_self)))
  have G_PT : fc_m PRD 20 [.ref h2] [60, 0, 3, 367, 110, 111, 112] ws2 := hkeep _ (List.mem_cons_of_mem _ (List.mem_cons_of_mem _ (List.mem_cons_of_mem _ (List.mem_cons_of_mem _ List.mem_cons_self))))
  have G_LE6 : fc_m PRD 20 [.ref rd, .int (nI k)] [50, 1, 0, 1, 1, 3, 2, 0, 1, 1, 1] ws2 := hkeep _ (List.mem_cons_of_mem _ (List.mem_cons_of_mem _ (List.mem_cons_of_mem _ (List.mem_cons_of_mem _ (List.mem_cons_of_mem _ List.mem_cons_self)))))
  have G_TA : fc_m PRD 20 [.ref h2, .int (nI n)] [50, 1, 0, 0, 1, 3, 2, 0, 0, 1, 1] ws2 := hkeep _ (List.mem_cons_of_mem _ (List.mem_cons_of_mem _ (List.mem_cons_of_mem _ (List.mem_cons_of_mem _ (List.mem_cons_of_mem _ (List.mem_cons_of_mem _ List.mem_cons_self))))))
  have G_TE : fc_m PRD 20 [.ref h2, .ref rd, .int (nI n)] [60, 0, 2, 1109, 1, 1000] ws2 := hkeep _ (List.mem_cons_of_mem _ (List.mem_cons_of_mem _ (List.mem_cons_of_mem _ (List.mem_cons_of_mem _ (List.mem_cons_of_mem _ (List.mem_cons_of_mem _ (List.mem_cons_of_mem _ List.mem_cons_self)))))))
  have G_TA6 : fc_m PRD 20 [.ref h2, .int (nI k)] [50, 1, 0, 0, 1, 3, 2, 0, 0, 1, 1] ws2 := by rw [hkk]; exact G_TA
  have G_TE6 : fc_m PRD 20 [.ref h2, .ref rd, .int (nI k)] [60, 0, 2, 1109, 1, 1000] ws2 := by have z : TEQ (w_ei ws2 (w_ar ws2 (.ref h2) 1)) (w_ei ws2 (w_ar ws2 (.ref rd) 0)) (nI n).toInt := G_TE; have z2 : TEQ (w_ei ws2 (w_ar ws2 (.ref h2) 1)) (w_ei ws2 (w_ar ws2 (.ref rd) 0)) (nI k).toInt := L_tek z (show k ≤ n by omega) hn; exact z2
  have hrd : L_rd ws2 h1 rd := L_rdk hrd (hle1 _ _ a1) hkp (by decide +kernel)
  have tm17 : TN ws1 h1 17 → TN ws2 h1 17 := TN_kp (hle1 _ _ a1) hkp (by decide +kernel)
  have tm20 : TN ws1 h1 20 → TN ws2 h1 20 := TN_kp (hle1 _ _ a1) hkp (by decide +kernel)
  have F_HI := G_HI
  have F_HL := G_HL
  have F_HY6 := G_HY6
  have F_RO := G_RO
  have F_PT := G_PT
  have F_LE6 := G_LE6
  have F_TA6 := G_TA6
  have F_TE := G_TE
  have F_TE6 := G_TE6
  show W p l e room_1 s m #[Value.ref b] below meth c H2 locs2 (cells + 19 + 0) (slots + 1787 + 0) (lw_Z below #[Value.ref b] s) (F0 m 804 ls [.int x2])
  have hS := hS2
  refine lv_pop (pc := 804) hx hb d_law_law_804 rfl ?_
  refine lv_goto (pc := 805) (tgt := 1294) hx hb d_law_law_805 (by decide) ?_
  have q1 : cells + 19 + 0 = cells + 19 := by omega
  have q2 : slots + 1787 + 0 = slots + 1787 := by omega
  rw [q1, q2]
  exact kk k ta2 ws2 H2 locs2 hP2 hD2 hS2 ⟨hth2, ⟨hle2 _ _ (hle1 _ _ a1), hle2 _ _ (hle1 _ _ a2), hle2 _ _ (hle1 _ _ a3), hk⟩, hrd, F_HI, F_HL, F_HY6, F_RO, F_PT, F_LE6, F_TA6, F_TE6⟩ (fun q => tm17 (tn17 q)) (fun q => tm20 (tn20 q))
set_option maxRecDepth 100000 in
set_option maxHeartbeats 4000000 in
/-- draw -/
theorem lc_draw_r0 {p : Program} {e : Env} {s : State} {m : MethodId} {below : List Frame} {meth : Method} {c : Code} {l : Launch} {b L : Nat} {xs : Nat → Int32} (C0 : lw_At p s m meth c b L xs) (hL : L ≤ 3072) {D : va_G} {kA : Nat → ClassId} (hK : va_K D classes (TY kA) s) (hN : nsr kA (fun q : Nat => s.heap.size ≤ q) s) (h_Ho_draw_at_r0 : ct_ok PRD l D kA GG y_Ho_draw_at_r0 z_Ho_draw_at_r0 e_Ho_draw_at_r0) (h_Mo_draw : ct_ok PRD l D kA GG y_Mo_draw z_Mo_draw e_Mo_draw) {h1 h2 rd i n : Nat} (hi : i + 6 ≤ L) {ta : Nat → Option Nat} {ws : va_W} {H : Heap} {locs : List Loc} {ls : Array Slot} {cells slots : Nat} (hP : va_P D classes ws H) (hD : va_D (fun q : Nat => s.heap.size ≤ q) ws) (hS : va_S (fun q : Nat => s.heap.size ≤ q) s.heap H locs) (hI : LI kA h1 h2 rd i n ta ws) (hl : lv_has ls 4 [(3, .int (nI i)), (2, .ref h2), (1, .ref h1), (0, .ref b)]) (hc : cells + 0 ≤ 60000) (hs : slots + 0 ≤ 8922250) (ha1 : (-2147483648) ≤ (xs (i + 1)).toInt ∧ (xs (i + 1)).toInt ≤ (-1)) (ha2 : 0 ≤ (xs (i + 2)).toInt ∧ (xs (i + 2)).toInt ≤ 0) (kk : ∀ (k : Nat) (ta : Nat → Option Nat) (w2 : va_W) (H : Heap) (locs : List Loc), va_P D classes w2 H → va_D (fun q : Nat => s.heap.size ≤ q) w2 → va_S (fun q : Nat => s.heap.size ≤ q) s.heap H locs → LI kA h1 h2 rd (i + 6) k ta w2 → (TN ws h1 17 → TN w2 h1 17) → (TN ws h1 20 → TN w2 h1 20) → W p l e room_1 s m #[Value.ref b] below meth c H locs (cells + 0) (slots + 0) (lw_Z below #[Value.ref b] s) (F0 m 1294 ls [])) : W p l e room_1 s m #[Value.ref b] below meth c H locs cells slots (lw_Z below #[Value.ref b] s) (F0 m 765 ls []) := by
  obtain ⟨hx, hb, hr, hml, hown, hts0, hX, hbl, hlocks, hgv⟩ := id C0
  have hts : ∀ w ∈ lw_g, w.before #[Value.ref b] s = true := fun w h => hts0 w (lw_gt h)
  have X : cx p s m #[Value.ref b] meth c b_law_law 4 ret "DrawingHouseLaw" meth.name := ⟨hx, hb, hml, hown, hts, hr, hlocks, rfl⟩
  obtain ⟨A, hAe⟩ : ∃ A : Nat → Prop, A = fun q : Nat => s.heap.size ≤ q := ⟨_, rfl⟩
  have hA : ∀ q : Nat, s.heap.size ≤ q → A q := fun q h => by rw [hAe]; exact h
  have hbA : ¬ A b := by rw [hAe]; exact Nat.not_le.mpr hbl
  rw [← hAe] at hD hS hN kk
  obtain ⟨hth, ⟨a1, a2, a3, hn⟩, hrd, F_HI, F_HL, F_HY, F_RO, F_PT, F_LE, F_TA, F_TE⟩ := hI
  obtain ⟨k, hk, hkk⟩ : ∃ k : Nat, k ≤ 2000 ∧ k = n := ⟨n, hn, rfl⟩
  have henv : sy_env ta L_env (L_vs h1 h2 rd i n k) := L_envs a1 a2 a3 (by omega) hn hk
  refine lv_aload_n (pc := 765) hx hb d_law_law_765 rfl (lv_at hl 2 rfl) ?_
  refine lv_aload_n (pc := 766) hx hb d_law_law_766 rfl (lv_at hl 3 rfl) ?_
  refine lv_iload_n (pc := 767) hx hb d_law_law_767 rfl (lv_at hl 0 rfl) ?_
  refine lv_iconst (pc := 768) (v := 1) hx hb d_law_law_768 (by decide) ?_
  refine k_add (pc := 769) (x := i) (y := 1) hx hb d_law_law_769 ?_
  refine sc_ld (pc := 770) (j := i + 1) hx hb hX hbl hbA hS (by omega) (by omega) d_law_law_770 ?_
  refine lv_aload_n (pc := 771) hx hb d_law_law_771 rfl (lv_at hl 3 rfl) ?_
  refine lv_iload_n (pc := 772) hx hb d_law_law_772 rfl (lv_at hl 0 rfl) ?_
  refine lv_iconst (pc := 773) (v := 2) hx hb d_law_law_773 (by decide) ?_
  refine k_add (pc := 774) (x := i) (y := 2) hx hb d_law_law_774 ?_
  refine sc_ld (pc := 775) (j := i + 2) hx hb hX hbl hbA hS (by omega) (by omega) d_law_law_775 ?_
  refine lv_aload_n (pc := 776) hx hb d_law_law_776 rfl (lv_at hl 3 rfl) ?_
  refine lv_iload_n (pc := 777) hx hb d_law_law_777 rfl (lv_at hl 0 rfl) ?_
  refine lv_iconst (pc := 778) (v := 3) hx hb d_law_law_778 (by decide) ?_
  refine k_add (pc := 779) (x := i) (y := 3) hx hb d_law_law_779 ?_
  refine sc_ld (pc := 780) (j := i + 3) hx hb hX hbl hbA hS (by omega) (by omega) d_law_law_780 ?_
  refine W.eq (g2 := F0 m 781 ls (List.reverse [.ref h1, .int (xs (i + 1)), .int (xs (i + 2)), .int (xs (i + 3))] ++ [])) rfl ?_
  refine (cl_virtual (y := y_Ho_draw_at_r0) (ci := 12) rfl rfl ⟨_, _, rfl⟩ (by decide +kernel) h_Ho_draw_at_r0 wm_1185 wm_1 wm_1182 wm_1183 wm_1184 ⟨by decide, by decide, by decide +kernel⟩ (by decide) : cl_ok PRD l D kA GG "DrawingHouseLaw" _ _ e_Ho_draw_at_r0) p e room_1 s m #[Value.ref b] below meth c H locs cells slots (lw_Z below #[Value.ref b] s) b_law_law 781 4 ret meth.name A ws ta ls [.ref h1, .int (xs (i + 1)), .int (xs (i + 2)), .int (xs (i + 3))] [] [.int (nI i)] [] X hK hN hA hP hD hS hth (ag_c (tv_rf a1) (ag_c (Or.inl ⟨rfl, _, rfl, ha1.1, ha1.2⟩) (ag_c (Or.inl ⟨rfl, _, rfl, ha2.1, ha2.2⟩) (ag_c tv_top (ag_n))))) (gv_n) (ag_c (tv_nI (show i ≤ 3066 by omega) (by decide)) (ag_n)) (show ∀ f ∈ ([(20, [0], [62, 0]), (20, [0], [62, 1000000]), (20, [0, 4], [62, 2000000])] : List fc_T), fc_1 PRD f ws ([.ref h1, .int (xs (i + 1)), .int (xs (i + 2)), .int (xs (i + 3))] ++ [] ++ [.int (nI i)]) from (List.forall_mem_cons.mpr ⟨⟨nf_in (N := 5) rfl rfl, F_HI⟩, (List.forall_mem_cons.mpr ⟨⟨nf_in (N := 5) rfl rfl, F_HL⟩, (List.forall_mem_cons.mpr ⟨⟨nf_in (N := 5) rfl rfl, F_HY⟩, (fun _ h => by cases h)⟩)⟩)⟩)) (by first | decide | exact Nat.le_of_ble_eq_true rfl) (by first | decide | exact Nat.le_of_ble_eq_true rfl) (by first | decide | exact Nat.le_of_ble_eq_true rfl) (show cells + 0 ≤ 60000 by omega) (show slots + 0 ≤ 8922250 by omega) hl.1 d_law_law_781 (fun ta1 ws1 H1 locs1 r hle1 hth1 hP1 hD1 hS1 hrt hpo _ hkp => ?_)
  obtain ⟨x1, rfl⟩ := rt_i rfl hrt
  have hpost : ∀ f ∈ ([(20, [0], [62, 0]), (20, [0], [62, 1000000]), (20, [0, 4], [62, 2000006])] : List fc_T), fc_1 PRD f ws1 ([.ref h1, .int (xs (i + 1)), .int (xs (i + 2)), .int (xs (i + 3))] ++ [] ++ [.int (nI i)] ++ [.int x1]) := hpo.1
  have hkeep := L_keep (M := [(20, [0], [62, 0]), (20, [0], [62, 1000000]), (20, [0, 2], [62, 2000000]), (20, [1], [60, 0, 3, 198, 2, 3, 4]), (20, [1], [60, 0, 3, 367, 110, 111, 112]), (20, [3, 4], [50, 1, 0, 1, 1, 3, 2, 0, 1, 1, 1]), (20, [1, 4], [50, 1, 0, 0, 1, 3, 2, 0, 0, 1, 1]), (20, [1, 3, 4], [60, 0, 2, 1109, 1, 1000])]) (S := [(20, [1], [60, 0, 3, 198, 2, 3, 4]), (20, [1], [60, 0, 3, 367, 110, 111, 112]), (20, [3, 4], [50, 1, 0, 1, 1, 3, 2, 0, 1, 1, 1]), (20, [1, 4], [50, 1, 0, 0, 1, 3, 2, 0, 0, 1, 1]), (20, [1, 3, 4], [60, 0, 2, 1109, 1, 1000])]) hth henv hD hle1 hth1 hD1 hkp (by decide +kernel) (List.forall_mem_cons.mpr ⟨F_HI, (List.forall_mem_cons.mpr ⟨F_HL, (List.forall_mem_cons.mpr ⟨F_HY, (List.forall_mem_cons.mpr ⟨F_RO, (List.forall_mem_cons.mpr ⟨F_PT, (List.forall_mem_cons.mpr ⟨F_LE, (List.forall_mem_cons.mpr ⟨F_TA, (List.forall_mem_cons.mpr ⟨F_TE, (fun _ h => by cases h)⟩)⟩)⟩)⟩)⟩)⟩)⟩)⟩)
  have G_RO : fc_m PRD 20 [.ref h2] [60, 0, 3, 198, 2, 3, 4] ws1 := hkeep _ List.mem_cons_self
  have G_PT : fc_m PRD 20 [.ref h2] [60, 0, 3, 367, 110, 111, 112] ws1 := hkeep _ (List.mem_cons_of_mem _ List.mem_cons_self)
  have G_LE : fc_m PRD 20 [.ref rd, .int (nI n)] [50, 1, 0, 1, 1, 3, 2, 0, 1, 1, 1] ws1 := hkeep _ (List.mem_cons_of_mem _ (List.mem_cons_of_mem _ List.mem_cons_self))
  have G_TA : fc_m PRD 20 [.ref h2, .int (nI n)] [50, 1, 0, 0, 1, 3, 2, 0, 0, 1, 1] ws1 := hkeep _ (List.mem_cons_of_mem _ (List.mem_cons_of_mem _ (List.mem_cons_of_mem _ List.mem_cons_self)))
  have G_TE : fc_m PRD 20 [.ref h2, .ref rd, .int (nI n)] [60, 0, 2, 1109, 1, 1000] ws1 := hkeep _ (List.mem_cons_of_mem _ (List.mem_cons_of_mem _ (List.mem_cons_of_mem _ (List.mem_cons_of_mem _ List.mem_cons_self))))
  have G_HI : fc_m PRD 20 [.ref h1] [62, 0] ws1 := (hpost _ List.mem_cons_self).2
  have G_HL : fc_m PRD 20 [.ref h1] [62, 1000000] ws1 := (hpost _ (List.mem_cons_of_mem _ List.mem_cons_self)).2
  have G_HY6 : fc_m PRD 20 [.ref h1, .int (nI (i + 6))] [62, 2000000] ws1 := by have z : HY ws1 (.ref h1) ((nI i).toInt + ((2000006 : Nat) - 2000000 : Int)) := (hpost _ (List.mem_cons_of_mem _ (List.mem_cons_of_mem _ List.mem_cons_self))).2; show HY ws1 (.ref h1) ((nI (i + 6)).toInt + ((2000000 : Nat) - 2000000 : Int)); rw [nI_toInt (by omega)] at z ⊢; exact hy_le z (by omega)
  have G_LE6 : fc_m PRD 20 [.ref rd, .int (nI k)] [50, 1, 0, 1, 1, 3, 2, 0, 1, 1, 1] ws1 := by rw [hkk]; exact G_LE
  have hrd : L_rd ws1 h1 rd := L_rdk hrd a1 hkp (by decide +kernel)
  have tn17 : TN ws h1 17 → TN ws1 h1 17 := TN_kp a1 hkp (by decide +kernel)
  have tn20 : TN ws h1 20 → TN ws1 h1 20 := TN_kp a1 hkp (by decide +kernel)
  have F_HI := G_HI
  have F_HL := G_HL
  have F_HY6 := G_HY6
  have F_RO := G_RO
  have F_PT := G_PT
  have F_LE6 := G_LE6
  have F_TA := G_TA
  have F_TE := G_TE
  show W p l e room_1 s m #[Value.ref b] below meth c H1 locs1 (cells + 0) (slots + 0) (lw_Z below #[Value.ref b] s) (F0 m 784 ls [.int x1])
  have hS := hS1
  refine lv_pop (pc := 784) hx hb d_law_law_784 rfl ?_
  refine lv_aload_n (pc := 785) hx hb d_law_law_785 rfl (lv_at hl 1 rfl) ?_
  refine lv_aload_n (pc := 786) hx hb d_law_law_786 rfl (lv_at hl 3 rfl) ?_
  refine lv_iload_n (pc := 787) hx hb d_law_law_787 rfl (lv_at hl 0 rfl) ?_
  refine lv_iconst (pc := 788) (v := 1) hx hb d_law_law_788 (by decide) ?_
  refine k_add (pc := 789) (x := i) (y := 1) hx hb d_law_law_789 ?_
  refine sc_ld (pc := 790) (j := i + 1) hx hb hX hbl hbA hS (by omega) (by omega) d_law_law_790 ?_
  refine lv_aload_n (pc := 791) hx hb d_law_law_791 rfl (lv_at hl 3 rfl) ?_
  refine lv_iload_n (pc := 792) hx hb d_law_law_792 rfl (lv_at hl 0 rfl) ?_
  refine lv_iconst (pc := 793) (v := 2) hx hb d_law_law_793 (by decide) ?_
  refine k_add (pc := 794) (x := i) (y := 2) hx hb d_law_law_794 ?_
  refine sc_ld (pc := 795) (j := i + 2) hx hb hX hbl hbA hS (by omega) (by omega) d_law_law_795 ?_
  refine lv_aload_n (pc := 796) hx hb d_law_law_796 rfl (lv_at hl 3 rfl) ?_
  refine lv_iload_n (pc := 797) hx hb d_law_law_797 rfl (lv_at hl 0 rfl) ?_
  refine lv_iconst (pc := 798) (v := 3) hx hb d_law_law_798 (by decide) ?_
  refine k_add (pc := 799) (x := i) (y := 3) hx hb d_law_law_799 ?_
  refine sc_ld (pc := 800) (j := i + 3) hx hb hX hbl hbA hS (by omega) (by omega) d_law_law_800 ?_
  refine W.eq (g2 := F0 m 801 ls (List.reverse [.ref h2, .int (xs (i + 1)), .int (xs (i + 2)), .int (xs (i + 3))] ++ [])) rfl ?_
  refine (cl_virtual (y := y_Mo_draw) (ci := 13) rfl rfl ⟨_, _, rfl⟩ (by decide +kernel) h_Mo_draw wm_3367 wm_9 wm_3364 wm_3365 wm_3366 ⟨by decide, by decide, by decide +kernel⟩ (by decide) : cl_ok PRD l D kA GG "DrawingHouseLaw" _ _ e_Mo_draw) p e room_1 s m #[Value.ref b] below meth c H1 locs1 (cells + 0) (slots + 0) (lw_Z below #[Value.ref b] s) b_law_law 801 4 ret meth.name A ws1 ta1 ls [.ref h2, .int (xs (i + 1)), .int (xs (i + 2)), .int (xs (i + 3))] [] [] [] X hK hN hA hP1 hD1 hS1 hth1 (ag_c (tv_rf (hle1 _ _ a2)) (ag_c tv_top (ag_c tv_top (ag_c tv_top (ag_n))))) (gv_n) (ag_n) (show ∀ f ∈ ([(20, [0], [60, 0, 3, 198, 2, 3, 4]), (20, [0], [60, 0, 3, 367, 110, 111, 112])] : List fc_T), fc_1 PRD f ws1 ([.ref h2, .int (xs (i + 1)), .int (xs (i + 2)), .int (xs (i + 3))] ++ [] ++ []) from (List.forall_mem_cons.mpr ⟨⟨nf_in (N := 4) rfl rfl, F_RO⟩, (List.forall_mem_cons.mpr ⟨⟨nf_in (N := 4) rfl rfl, F_PT⟩, (fun _ h => by cases h)⟩)⟩)) (by first | decide | exact Nat.le_of_ble_eq_true rfl) (by first | decide | exact Nat.le_of_ble_eq_true rfl) (by first | decide | exact Nat.le_of_ble_eq_true rfl) (show (cells + 0) + 0 ≤ 60000 by omega) (show (slots + 0) + 0 ≤ 8922250 by omega) hl.1 d_law_law_801 (fun ta2 ws2 H2 locs2 r hle2 hth2 hP2 hD2 hS2 hrt hpo _ hkp => ?_)
  obtain ⟨x2, rfl⟩ := rt_i rfl hrt
  have hpost : ∀ f ∈ ([] : List fc_T), fc_1 PRD f ws2 ([.ref h2, .int (xs (i + 1)), .int (xs (i + 2)), .int (xs (i + 3))] ++ [] ++ [] ++ [.int x2]) := hpo.1
  have hkeep := L_keep (M := [(20, [0], [62, 0]), (20, [0], [62, 1000000]), (20, [0, 6], [62, 2000000]), (20, [1], [60, 0, 3, 198, 2, 3, 4]), (20, [1], [60, 0, 3, 367, 110, 111, 112]), (20, [3, 5], [50, 1, 0, 1, 1, 3, 2, 0, 1, 1, 1]), (20, [1, 4], [50, 1, 0, 0, 1, 3, 2, 0, 0, 1, 1]), (20, [1, 3, 4], [60, 0, 2, 1109, 1, 1000])]) (S := [(20, [0], [62, 0]), (20, [0], [62, 1000000]), (20, [0, 6], [62, 2000000]), (20, [1], [60, 0, 3, 198, 2, 3, 4]), (20, [1], [60, 0, 3, 367, 110, 111, 112]), (20, [3, 5], [50, 1, 0, 1, 1, 3, 2, 0, 1, 1, 1]), (20, [1, 4], [50, 1, 0, 0, 1, 3, 2, 0, 0, 1, 1]), (20, [1, 3, 4], [60, 0, 2, 1109, 1, 1000])]) hth1 (sy_env_up hle1 henv) hD1 hle2 hth2 hD2 hkp (by decide +kernel) (List.forall_mem_cons.mpr ⟨F_HI, (List.forall_mem_cons.mpr ⟨F_HL, (List.forall_mem_cons.mpr ⟨F_HY6, (List.forall_mem_cons.mpr ⟨F_RO, (List.forall_mem_cons.mpr ⟨F_PT, (List.forall_mem_cons.mpr ⟨F_LE6, (List.forall_mem_cons.mpr ⟨F_TA, (List.forall_mem_cons.mpr ⟨F_TE, (fun _ h => by cases h)⟩)⟩)⟩)⟩)⟩)⟩)⟩)⟩)
  have G_HI : fc_m PRD 20 [.ref h1] [62, 0] ws2 := hkeep _ List.mem_cons_self
  have G_HL : fc_m PRD 20 [.ref h1] [62, 1000000] ws2 := hkeep _ (List.mem_cons_of_mem _ List.mem_cons_self)
  have G_HY6 : fc_m PRD 20 [.ref h1, .int (nI (i + 6))] [62, 2000000] ws2 := hkeep _ (List.mem_cons_of_mem _ (List.mem_cons_of_mem _ List.mem_cons_self))
  have G_RO : fc_m PRD 20 [.ref h2] [60, 0, 3, 198, 2, 3, 4] ws2 := hkeep _ (List.mem_cons_of_mem _ (List.mem_cons_of_mem _ (List.mem_cons_of_mem _ List.mem_cons_self)))
  have G_PT : fc_m PRD 20 [.ref h2] [60, 0, 3, 367, 110, 111, 112] ws2 := hkeep _ (List.mem_cons_of_mem _ (List.mem_cons_of_mem _ (List.mem_cons_of_mem _ (List.mem_cons_of_mem _ List.mem_cons_self))))
  have G_LE6 : fc_m PRD 20 [.ref rd, .int (nI k)] [50, 1, 0, 1, 1, 3, 2, 0, 1, 1, 1] ws2 := hkeep _ (List.mem_cons_of_mem _ (List.mem_cons_of_mem _ (List.mem_cons_of_mem _ (List.mem_cons_of_mem _ (List.mem_cons_of_mem _ List.mem_cons_self)))))
  have G_TA : fc_m PRD 20 [.ref h2, .int (nI n)] [50, 1, 0, 0, 1, 3, 2, 0, 0, 1, 1] ws2 := hkeep _ (List.mem_cons_of_mem _ (List.mem_cons_of_mem _ (List.mem_cons_of_mem _ (List.mem_cons_of_mem _ (List.mem_cons_of_mem _ (List.mem_cons_of_mem _ List.mem_cons_self))))))
  have G_TE : fc_m PRD 20 [.ref h2, .ref rd, .int (nI n)] [60, 0, 2, 1109, 1, 1000] ws2 := hkeep _ (List.mem_cons_of_mem _ (List.mem_cons_of_mem _ (List.mem_cons_of_mem _ (List.mem_cons_of_mem _ (List.mem_cons_of_mem _ (List.mem_cons_of_mem _ (List.mem_cons_of_mem _ List.mem_cons_self)))))))
  have G_TA6 : fc_m PRD 20 [.ref h2, .int (nI k)] [50, 1, 0, 0, 1, 3, 2, 0, 0, 1, 1] ws2 := by rw [hkk]; exact G_TA
  have G_TE6 : fc_m PRD 20 [.ref h2, .ref rd, .int (nI k)] [60, 0, 2, 1109, 1, 1000] ws2 := by have z : TEQ (w_ei ws2 (w_ar ws2 (.ref h2) 1)) (w_ei ws2 (w_ar ws2 (.ref rd) 0)) (nI n).toInt := G_TE; have z2 : TEQ (w_ei ws2 (w_ar ws2 (.ref h2) 1)) (w_ei ws2 (w_ar ws2 (.ref rd) 0)) (nI k).toInt := L_tek z (show k ≤ n by omega) hn; exact z2
  have hrd : L_rd ws2 h1 rd := L_rdk hrd (hle1 _ _ a1) hkp (by decide +kernel)
  have tm17 : TN ws1 h1 17 → TN ws2 h1 17 := TN_kp (hle1 _ _ a1) hkp (by decide +kernel)
  have tm20 : TN ws1 h1 20 → TN ws2 h1 20 := TN_kp (hle1 _ _ a1) hkp (by decide +kernel)
  have F_HI := G_HI
  have F_HL := G_HL
  have F_HY6 := G_HY6
  have F_RO := G_RO
  have F_PT := G_PT
  have F_LE6 := G_LE6
  have F_TA6 := G_TA6
  have F_TE := G_TE
  have F_TE6 := G_TE6
  show W p l e room_1 s m #[Value.ref b] below meth c H2 locs2 (cells + 0 + 0) (slots + 0 + 0) (lw_Z below #[Value.ref b] s) (F0 m 804 ls [.int x2])
  have hS := hS2
  refine lv_pop (pc := 804) hx hb d_law_law_804 rfl ?_
  refine lv_goto (pc := 805) (tgt := 1294) hx hb d_law_law_805 (by decide) ?_
  have q1 : cells + 0 + 0 = cells + 0 := by omega
  have q2 : slots + 0 + 0 = slots + 0 := by omega
  rw [q1, q2]
  exact kk k ta2 ws2 H2 locs2 hP2 hD2 hS2 ⟨hth2, ⟨hle2 _ _ (hle1 _ _ a1), hle2 _ _ (hle1 _ _ a2), hle2 _ _ (hle1 _ _ a3), hk⟩, hrd, F_HI, F_HL, F_HY6, F_RO, F_PT, F_LE6, F_TA6, F_TE6⟩ (fun q => tm17 (tn17 q)) (fun q => tm20 (tn20 q))
set_option maxRecDepth 100000 in
set_option maxHeartbeats 4000000 in
/-- draw -/
theorem lc_draw_r1 {p : Program} {e : Env} {s : State} {m : MethodId} {below : List Frame} {meth : Method} {c : Code} {l : Launch} {b L : Nat} {xs : Nat → Int32} (C0 : lw_At p s m meth c b L xs) (hL : L ≤ 3072) {D : va_G} {kA : Nat → ClassId} (hK : va_K D classes (TY kA) s) (hN : nsr kA (fun q : Nat => s.heap.size ≤ q) s) (h_Ho_draw_at_r1 : ct_ok PRD l D kA GG y_Ho_draw_at_r1 z_Ho_draw_at_r1 e_Ho_draw_at_r1) (h_Mo_draw : ct_ok PRD l D kA GG y_Mo_draw z_Mo_draw e_Mo_draw) {h1 h2 rd i n : Nat} (hi : i + 6 ≤ L) {ta : Nat → Option Nat} {ws : va_W} {H : Heap} {locs : List Loc} {ls : Array Slot} {cells slots : Nat} (hP : va_P D classes ws H) (hD : va_D (fun q : Nat => s.heap.size ≤ q) ws) (hS : va_S (fun q : Nat => s.heap.size ≤ q) s.heap H locs) (hI : LI kA h1 h2 rd i n ta ws) (hl : lv_has ls 4 [(3, .int (nI i)), (2, .ref h2), (1, .ref h1), (0, .ref b)]) (hc : cells + 0 ≤ 60000) (hs : slots + 0 ≤ 8922250) (ha1 : 4 ≤ (xs (i + 1)).toInt ∧ (xs (i + 1)).toInt ≤ 2147483647) (ha2 : 0 ≤ (xs (i + 2)).toInt ∧ (xs (i + 2)).toInt ≤ 0) (kk : ∀ (k : Nat) (ta : Nat → Option Nat) (w2 : va_W) (H : Heap) (locs : List Loc), va_P D classes w2 H → va_D (fun q : Nat => s.heap.size ≤ q) w2 → va_S (fun q : Nat => s.heap.size ≤ q) s.heap H locs → LI kA h1 h2 rd (i + 6) k ta w2 → (TN ws h1 17 → TN w2 h1 17) → (TN ws h1 20 → TN w2 h1 20) → W p l e room_1 s m #[Value.ref b] below meth c H locs (cells + 0) (slots + 0) (lw_Z below #[Value.ref b] s) (F0 m 1294 ls [])) : W p l e room_1 s m #[Value.ref b] below meth c H locs cells slots (lw_Z below #[Value.ref b] s) (F0 m 765 ls []) := by
  obtain ⟨hx, hb, hr, hml, hown, hts0, hX, hbl, hlocks, hgv⟩ := id C0
  have hts : ∀ w ∈ lw_g, w.before #[Value.ref b] s = true := fun w h => hts0 w (lw_gt h)
  have X : cx p s m #[Value.ref b] meth c b_law_law 4 ret "DrawingHouseLaw" meth.name := ⟨hx, hb, hml, hown, hts, hr, hlocks, rfl⟩
  obtain ⟨A, hAe⟩ : ∃ A : Nat → Prop, A = fun q : Nat => s.heap.size ≤ q := ⟨_, rfl⟩
  have hA : ∀ q : Nat, s.heap.size ≤ q → A q := fun q h => by rw [hAe]; exact h
  have hbA : ¬ A b := by rw [hAe]; exact Nat.not_le.mpr hbl
  rw [← hAe] at hD hS hN kk
  obtain ⟨hth, ⟨a1, a2, a3, hn⟩, hrd, F_HI, F_HL, F_HY, F_RO, F_PT, F_LE, F_TA, F_TE⟩ := hI
  obtain ⟨k, hk, hkk⟩ : ∃ k : Nat, k ≤ 2000 ∧ k = n := ⟨n, hn, rfl⟩
  have henv : sy_env ta L_env (L_vs h1 h2 rd i n k) := L_envs a1 a2 a3 (by omega) hn hk
  refine lv_aload_n (pc := 765) hx hb d_law_law_765 rfl (lv_at hl 2 rfl) ?_
  refine lv_aload_n (pc := 766) hx hb d_law_law_766 rfl (lv_at hl 3 rfl) ?_
  refine lv_iload_n (pc := 767) hx hb d_law_law_767 rfl (lv_at hl 0 rfl) ?_
  refine lv_iconst (pc := 768) (v := 1) hx hb d_law_law_768 (by decide) ?_
  refine k_add (pc := 769) (x := i) (y := 1) hx hb d_law_law_769 ?_
  refine sc_ld (pc := 770) (j := i + 1) hx hb hX hbl hbA hS (by omega) (by omega) d_law_law_770 ?_
  refine lv_aload_n (pc := 771) hx hb d_law_law_771 rfl (lv_at hl 3 rfl) ?_
  refine lv_iload_n (pc := 772) hx hb d_law_law_772 rfl (lv_at hl 0 rfl) ?_
  refine lv_iconst (pc := 773) (v := 2) hx hb d_law_law_773 (by decide) ?_
  refine k_add (pc := 774) (x := i) (y := 2) hx hb d_law_law_774 ?_
  refine sc_ld (pc := 775) (j := i + 2) hx hb hX hbl hbA hS (by omega) (by omega) d_law_law_775 ?_
  refine lv_aload_n (pc := 776) hx hb d_law_law_776 rfl (lv_at hl 3 rfl) ?_
  refine lv_iload_n (pc := 777) hx hb d_law_law_777 rfl (lv_at hl 0 rfl) ?_
  refine lv_iconst (pc := 778) (v := 3) hx hb d_law_law_778 (by decide) ?_
  refine k_add (pc := 779) (x := i) (y := 3) hx hb d_law_law_779 ?_
  refine sc_ld (pc := 780) (j := i + 3) hx hb hX hbl hbA hS (by omega) (by omega) d_law_law_780 ?_
  refine W.eq (g2 := F0 m 781 ls (List.reverse [.ref h1, .int (xs (i + 1)), .int (xs (i + 2)), .int (xs (i + 3))] ++ [])) rfl ?_
  refine (cl_virtual (y := y_Ho_draw_at_r1) (ci := 12) rfl rfl ⟨_, _, rfl⟩ (by decide +kernel) h_Ho_draw_at_r1 wm_1185 wm_1 wm_1182 wm_1183 wm_1184 ⟨by decide, by decide, by decide +kernel⟩ (by decide) : cl_ok PRD l D kA GG "DrawingHouseLaw" _ _ e_Ho_draw_at_r1) p e room_1 s m #[Value.ref b] below meth c H locs cells slots (lw_Z below #[Value.ref b] s) b_law_law 781 4 ret meth.name A ws ta ls [.ref h1, .int (xs (i + 1)), .int (xs (i + 2)), .int (xs (i + 3))] [] [.int (nI i)] [] X hK hN hA hP hD hS hth (ag_c (tv_rf a1) (ag_c (Or.inl ⟨rfl, _, rfl, ha1.1, ha1.2⟩) (ag_c (Or.inl ⟨rfl, _, rfl, ha2.1, ha2.2⟩) (ag_c tv_top (ag_n))))) (gv_n) (ag_c (tv_nI (show i ≤ 3066 by omega) (by decide)) (ag_n)) (show ∀ f ∈ ([(20, [0], [62, 0]), (20, [0], [62, 1000000]), (20, [0, 4], [62, 2000000])] : List fc_T), fc_1 PRD f ws ([.ref h1, .int (xs (i + 1)), .int (xs (i + 2)), .int (xs (i + 3))] ++ [] ++ [.int (nI i)]) from (List.forall_mem_cons.mpr ⟨⟨nf_in (N := 5) rfl rfl, F_HI⟩, (List.forall_mem_cons.mpr ⟨⟨nf_in (N := 5) rfl rfl, F_HL⟩, (List.forall_mem_cons.mpr ⟨⟨nf_in (N := 5) rfl rfl, F_HY⟩, (fun _ h => by cases h)⟩)⟩)⟩)) (by first | decide | exact Nat.le_of_ble_eq_true rfl) (by first | decide | exact Nat.le_of_ble_eq_true rfl) (by first | decide | exact Nat.le_of_ble_eq_true rfl) (show cells + 0 ≤ 60000 by omega) (show slots + 0 ≤ 8922250 by omega) hl.1 d_law_law_781 (fun ta1 ws1 H1 locs1 r hle1 hth1 hP1 hD1 hS1 hrt hpo _ hkp => ?_)
  obtain ⟨x1, rfl⟩ := rt_i rfl hrt
  have hpost : ∀ f ∈ ([(20, [0], [62, 0]), (20, [0], [62, 1000000]), (20, [0, 4], [62, 2000006])] : List fc_T), fc_1 PRD f ws1 ([.ref h1, .int (xs (i + 1)), .int (xs (i + 2)), .int (xs (i + 3))] ++ [] ++ [.int (nI i)] ++ [.int x1]) := hpo.1
  have hkeep := L_keep (M := [(20, [0], [62, 0]), (20, [0], [62, 1000000]), (20, [0, 2], [62, 2000000]), (20, [1], [60, 0, 3, 198, 2, 3, 4]), (20, [1], [60, 0, 3, 367, 110, 111, 112]), (20, [3, 4], [50, 1, 0, 1, 1, 3, 2, 0, 1, 1, 1]), (20, [1, 4], [50, 1, 0, 0, 1, 3, 2, 0, 0, 1, 1]), (20, [1, 3, 4], [60, 0, 2, 1109, 1, 1000])]) (S := [(20, [1], [60, 0, 3, 198, 2, 3, 4]), (20, [1], [60, 0, 3, 367, 110, 111, 112]), (20, [3, 4], [50, 1, 0, 1, 1, 3, 2, 0, 1, 1, 1]), (20, [1, 4], [50, 1, 0, 0, 1, 3, 2, 0, 0, 1, 1]), (20, [1, 3, 4], [60, 0, 2, 1109, 1, 1000])]) hth henv hD hle1 hth1 hD1 hkp (by decide +kernel) (List.forall_mem_cons.mpr ⟨F_HI, (List.forall_mem_cons.mpr ⟨F_HL, (List.forall_mem_cons.mpr ⟨F_HY, (List.forall_mem_cons.mpr ⟨F_RO, (List.forall_mem_cons.mpr ⟨F_PT, (List.forall_mem_cons.mpr ⟨F_LE, (List.forall_mem_cons.mpr ⟨F_TA, (List.forall_mem_cons.mpr ⟨F_TE, (fun _ h => by cases h)⟩)⟩)⟩)⟩)⟩)⟩)⟩)⟩)
  have G_RO : fc_m PRD 20 [.ref h2] [60, 0, 3, 198, 2, 3, 4] ws1 := hkeep _ List.mem_cons_self
  have G_PT : fc_m PRD 20 [.ref h2] [60, 0, 3, 367, 110, 111, 112] ws1 := hkeep _ (List.mem_cons_of_mem _ List.mem_cons_self)
  have G_LE : fc_m PRD 20 [.ref rd, .int (nI n)] [50, 1, 0, 1, 1, 3, 2, 0, 1, 1, 1] ws1 := hkeep _ (List.mem_cons_of_mem _ (List.mem_cons_of_mem _ List.mem_cons_self))
  have G_TA : fc_m PRD 20 [.ref h2, .int (nI n)] [50, 1, 0, 0, 1, 3, 2, 0, 0, 1, 1] ws1 := hkeep _ (List.mem_cons_of_mem _ (List.mem_cons_of_mem _ (List.mem_cons_of_mem _ List.mem_cons_self)))
  have G_TE : fc_m PRD 20 [.ref h2, .ref rd, .int (nI n)] [60, 0, 2, 1109, 1, 1000] ws1 := hkeep _ (List.mem_cons_of_mem _ (List.mem_cons_of_mem _ (List.mem_cons_of_mem _ (List.mem_cons_of_mem _ List.mem_cons_self))))
  have G_HI : fc_m PRD 20 [.ref h1] [62, 0] ws1 := (hpost _ List.mem_cons_self).2
  have G_HL : fc_m PRD 20 [.ref h1] [62, 1000000] ws1 := (hpost _ (List.mem_cons_of_mem _ List.mem_cons_self)).2
  have G_HY6 : fc_m PRD 20 [.ref h1, .int (nI (i + 6))] [62, 2000000] ws1 := by have z : HY ws1 (.ref h1) ((nI i).toInt + ((2000006 : Nat) - 2000000 : Int)) := (hpost _ (List.mem_cons_of_mem _ (List.mem_cons_of_mem _ List.mem_cons_self))).2; show HY ws1 (.ref h1) ((nI (i + 6)).toInt + ((2000000 : Nat) - 2000000 : Int)); rw [nI_toInt (by omega)] at z ⊢; exact hy_le z (by omega)
  have G_LE6 : fc_m PRD 20 [.ref rd, .int (nI k)] [50, 1, 0, 1, 1, 3, 2, 0, 1, 1, 1] ws1 := by rw [hkk]; exact G_LE
  have hrd : L_rd ws1 h1 rd := L_rdk hrd a1 hkp (by decide +kernel)
  have tn17 : TN ws h1 17 → TN ws1 h1 17 := TN_kp a1 hkp (by decide +kernel)
  have tn20 : TN ws h1 20 → TN ws1 h1 20 := TN_kp a1 hkp (by decide +kernel)
  have F_HI := G_HI
  have F_HL := G_HL
  have F_HY6 := G_HY6
  have F_RO := G_RO
  have F_PT := G_PT
  have F_LE6 := G_LE6
  have F_TA := G_TA
  have F_TE := G_TE
  show W p l e room_1 s m #[Value.ref b] below meth c H1 locs1 (cells + 0) (slots + 0) (lw_Z below #[Value.ref b] s) (F0 m 784 ls [.int x1])
  have hS := hS1
  refine lv_pop (pc := 784) hx hb d_law_law_784 rfl ?_
  refine lv_aload_n (pc := 785) hx hb d_law_law_785 rfl (lv_at hl 1 rfl) ?_
  refine lv_aload_n (pc := 786) hx hb d_law_law_786 rfl (lv_at hl 3 rfl) ?_
  refine lv_iload_n (pc := 787) hx hb d_law_law_787 rfl (lv_at hl 0 rfl) ?_
  refine lv_iconst (pc := 788) (v := 1) hx hb d_law_law_788 (by decide) ?_
  refine k_add (pc := 789) (x := i) (y := 1) hx hb d_law_law_789 ?_
  refine sc_ld (pc := 790) (j := i + 1) hx hb hX hbl hbA hS (by omega) (by omega) d_law_law_790 ?_
  refine lv_aload_n (pc := 791) hx hb d_law_law_791 rfl (lv_at hl 3 rfl) ?_
  refine lv_iload_n (pc := 792) hx hb d_law_law_792 rfl (lv_at hl 0 rfl) ?_
  refine lv_iconst (pc := 793) (v := 2) hx hb d_law_law_793 (by decide) ?_
  refine k_add (pc := 794) (x := i) (y := 2) hx hb d_law_law_794 ?_
  refine sc_ld (pc := 795) (j := i + 2) hx hb hX hbl hbA hS (by omega) (by omega) d_law_law_795 ?_
  refine lv_aload_n (pc := 796) hx hb d_law_law_796 rfl (lv_at hl 3 rfl) ?_
  refine lv_iload_n (pc := 797) hx hb d_law_law_797 rfl (lv_at hl 0 rfl) ?_
  refine lv_iconst (pc := 798) (v := 3) hx hb d_law_law_798 (by decide) ?_
  refine k_add (pc := 799) (x := i) (y := 3) hx hb d_law_law_799 ?_
  refine sc_ld (pc := 800) (j := i + 3) hx hb hX hbl hbA hS (by omega) (by omega) d_law_law_800 ?_
  refine W.eq (g2 := F0 m 801 ls (List.reverse [.ref h2, .int (xs (i + 1)), .int (xs (i + 2)), .int (xs (i + 3))] ++ [])) rfl ?_
  refine (cl_virtual (y := y_Mo_draw) (ci := 13) rfl rfl ⟨_, _, rfl⟩ (by decide +kernel) h_Mo_draw wm_3367 wm_9 wm_3364 wm_3365 wm_3366 ⟨by decide, by decide, by decide +kernel⟩ (by decide) : cl_ok PRD l D kA GG "DrawingHouseLaw" _ _ e_Mo_draw) p e room_1 s m #[Value.ref b] below meth c H1 locs1 (cells + 0) (slots + 0) (lw_Z below #[Value.ref b] s) b_law_law 801 4 ret meth.name A ws1 ta1 ls [.ref h2, .int (xs (i + 1)), .int (xs (i + 2)), .int (xs (i + 3))] [] [] [] X hK hN hA hP1 hD1 hS1 hth1 (ag_c (tv_rf (hle1 _ _ a2)) (ag_c tv_top (ag_c tv_top (ag_c tv_top (ag_n))))) (gv_n) (ag_n) (show ∀ f ∈ ([(20, [0], [60, 0, 3, 198, 2, 3, 4]), (20, [0], [60, 0, 3, 367, 110, 111, 112])] : List fc_T), fc_1 PRD f ws1 ([.ref h2, .int (xs (i + 1)), .int (xs (i + 2)), .int (xs (i + 3))] ++ [] ++ []) from (List.forall_mem_cons.mpr ⟨⟨nf_in (N := 4) rfl rfl, F_RO⟩, (List.forall_mem_cons.mpr ⟨⟨nf_in (N := 4) rfl rfl, F_PT⟩, (fun _ h => by cases h)⟩)⟩)) (by first | decide | exact Nat.le_of_ble_eq_true rfl) (by first | decide | exact Nat.le_of_ble_eq_true rfl) (by first | decide | exact Nat.le_of_ble_eq_true rfl) (show (cells + 0) + 0 ≤ 60000 by omega) (show (slots + 0) + 0 ≤ 8922250 by omega) hl.1 d_law_law_801 (fun ta2 ws2 H2 locs2 r hle2 hth2 hP2 hD2 hS2 hrt hpo _ hkp => ?_)
  obtain ⟨x2, rfl⟩ := rt_i rfl hrt
  have hpost : ∀ f ∈ ([] : List fc_T), fc_1 PRD f ws2 ([.ref h2, .int (xs (i + 1)), .int (xs (i + 2)), .int (xs (i + 3))] ++ [] ++ [] ++ [.int x2]) := hpo.1
  have hkeep := L_keep (M := [(20, [0], [62, 0]), (20, [0], [62, 1000000]), (20, [0, 6], [62, 2000000]), (20, [1], [60, 0, 3, 198, 2, 3, 4]), (20, [1], [60, 0, 3, 367, 110, 111, 112]), (20, [3, 5], [50, 1, 0, 1, 1, 3, 2, 0, 1, 1, 1]), (20, [1, 4], [50, 1, 0, 0, 1, 3, 2, 0, 0, 1, 1]), (20, [1, 3, 4], [60, 0, 2, 1109, 1, 1000])]) (S := [(20, [0], [62, 0]), (20, [0], [62, 1000000]), (20, [0, 6], [62, 2000000]), (20, [1], [60, 0, 3, 198, 2, 3, 4]), (20, [1], [60, 0, 3, 367, 110, 111, 112]), (20, [3, 5], [50, 1, 0, 1, 1, 3, 2, 0, 1, 1, 1]), (20, [1, 4], [50, 1, 0, 0, 1, 3, 2, 0, 0, 1, 1]), (20, [1, 3, 4], [60, 0, 2, 1109, 1, 1000])]) hth1 (sy_env_up hle1 henv) hD1 hle2 hth2 hD2 hkp (by decide +kernel) (List.forall_mem_cons.mpr ⟨F_HI, (List.forall_mem_cons.mpr ⟨F_HL, (List.forall_mem_cons.mpr ⟨F_HY6, (List.forall_mem_cons.mpr ⟨F_RO, (List.forall_mem_cons.mpr ⟨F_PT, (List.forall_mem_cons.mpr ⟨F_LE6, (List.forall_mem_cons.mpr ⟨F_TA, (List.forall_mem_cons.mpr ⟨F_TE, (fun _ h => by cases h)⟩)⟩)⟩)⟩)⟩)⟩)⟩)⟩)
  have G_HI : fc_m PRD 20 [.ref h1] [62, 0] ws2 := hkeep _ List.mem_cons_self
  have G_HL : fc_m PRD 20 [.ref h1] [62, 1000000] ws2 := hkeep _ (List.mem_cons_of_mem _ List.mem_cons_self)
  have G_HY6 : fc_m PRD 20 [.ref h1, .int (nI (i + 6))] [62, 2000000] ws2 := hkeep _ (List.mem_cons_of_mem _ (List.mem_cons_of_mem _ List.mem_cons_self))
  have G_RO : fc_m PRD 20 [.ref h2] [60, 0, 3, 198, 2, 3, 4] ws2 := hkeep _ (List.mem_cons_of_mem _ (List.mem_cons_of_mem _ (List.mem_cons_of_mem _ List.mem_cons_self)))
  have G_PT : fc_m PRD 20 [.ref h2] [60, 0, 3, 367, 110, 111, 112] ws2 := hkeep _ (List.mem_cons_of_mem _ (List.mem_cons_of_mem _ (List.mem_cons_of_mem _ (List.mem_cons_of_mem _ List.mem_cons_self))))
  have G_LE6 : fc_m PRD 20 [.ref rd, .int (nI k)] [50, 1, 0, 1, 1, 3, 2, 0, 1, 1, 1] ws2 := hkeep _ (List.mem_cons_of_mem _ (List.mem_cons_of_mem _ (List.mem_cons_of_mem _ (List.mem_cons_of_mem _ (List.mem_cons_of_mem _ List.mem_cons_self)))))
  have G_TA : fc_m PRD 20 [.ref h2, .int (nI n)] [50, 1, 0, 0, 1, 3, 2, 0, 0, 1, 1] ws2 := hkeep _ (List.mem_cons_of_mem _ (List.mem_cons_of_mem _ (List.mem_cons_of_mem _ (List.mem_cons_of_mem _ (List.mem_cons_of_mem _ (List.mem_cons_of_mem _ List.mem_cons_self))))))
  have G_TE : fc_m PRD 20 [.ref h2, .ref rd, .int (nI n)] [60, 0, 2, 1109, 1, 1000] ws2 := hkeep _ (List.mem_cons_of_mem _ (List.mem_cons_of_mem _ (List.mem_cons_of_mem _ (List.mem_cons_of_mem _ (List.mem_cons_of_mem _ (List.mem_cons_of_mem _ (List.mem_cons_of_mem _ List.mem_cons_self)))))))
  have G_TA6 : fc_m PRD 20 [.ref h2, .int (nI k)] [50, 1, 0, 0, 1, 3, 2, 0, 0, 1, 1] ws2 := by rw [hkk]; exact G_TA
  have G_TE6 : fc_m PRD 20 [.ref h2, .ref rd, .int (nI k)] [60, 0, 2, 1109, 1, 1000] ws2 := by have z : TEQ (w_ei ws2 (w_ar ws2 (.ref h2) 1)) (w_ei ws2 (w_ar ws2 (.ref rd) 0)) (nI n).toInt := G_TE; have z2 : TEQ (w_ei ws2 (w_ar ws2 (.ref h2) 1)) (w_ei ws2 (w_ar ws2 (.ref rd) 0)) (nI k).toInt := L_tek z (show k ≤ n by omega) hn; exact z2
  have hrd : L_rd ws2 h1 rd := L_rdk hrd (hle1 _ _ a1) hkp (by decide +kernel)
  have tm17 : TN ws1 h1 17 → TN ws2 h1 17 := TN_kp (hle1 _ _ a1) hkp (by decide +kernel)
  have tm20 : TN ws1 h1 20 → TN ws2 h1 20 := TN_kp (hle1 _ _ a1) hkp (by decide +kernel)
  have F_HI := G_HI
  have F_HL := G_HL
  have F_HY6 := G_HY6
  have F_RO := G_RO
  have F_PT := G_PT
  have F_LE6 := G_LE6
  have F_TA6 := G_TA6
  have F_TE := G_TE
  have F_TE6 := G_TE6
  show W p l e room_1 s m #[Value.ref b] below meth c H2 locs2 (cells + 0 + 0) (slots + 0 + 0) (lw_Z below #[Value.ref b] s) (F0 m 804 ls [.int x2])
  have hS := hS2
  refine lv_pop (pc := 804) hx hb d_law_law_804 rfl ?_
  refine lv_goto (pc := 805) (tgt := 1294) hx hb d_law_law_805 (by decide) ?_
  have q1 : cells + 0 + 0 = cells + 0 := by omega
  have q2 : slots + 0 + 0 = slots + 0 := by omega
  rw [q1, q2]
  exact kk k ta2 ws2 H2 locs2 hP2 hD2 hS2 ⟨hth2, ⟨hle2 _ _ (hle1 _ _ a1), hle2 _ _ (hle1 _ _ a2), hle2 _ _ (hle1 _ _ a3), hk⟩, hrd, F_HI, F_HL, F_HY6, F_RO, F_PT, F_LE6, F_TA6, F_TE6⟩ (fun q => tm17 (tn17 q)) (fun q => tm20 (tn20 q))
set_option maxRecDepth 100000 in
set_option maxHeartbeats 4000000 in
/-- draw -/
theorem lc_draw_b {p : Program} {e : Env} {s : State} {m : MethodId} {below : List Frame} {meth : Method} {c : Code} {l : Launch} {b L : Nat} {xs : Nat → Int32} (C0 : lw_At p s m meth c b L xs) (hL : L ≤ 3072) {D : va_G} {kA : Nat → ClassId} (hK : va_K D classes (TY kA) s) (hN : nsr kA (fun q : Nat => s.heap.size ≤ q) s) (h_Ho_draw_at_b : ct_ok PRD l D kA GG y_Ho_draw_at_b z_Ho_draw_at_b e_Ho_draw_at_b) (h_Mo_draw : ct_ok PRD l D kA GG y_Mo_draw z_Mo_draw e_Mo_draw) {h1 h2 rd i n : Nat} (hi : i + 6 ≤ L) {ta : Nat → Option Nat} {ws : va_W} {H : Heap} {locs : List Loc} {ls : Array Slot} {cells slots : Nat} (hP : va_P D classes ws H) (hD : va_D (fun q : Nat => s.heap.size ≤ q) ws) (hS : va_S (fun q : Nat => s.heap.size ≤ q) s.heap H locs) (hI : LI kA h1 h2 rd i n ta ws) (hl : lv_has ls 4 [(3, .int (nI i)), (2, .ref h2), (1, .ref h1), (0, .ref b)]) (hc : cells + 0 ≤ 60000) (hs : slots + 0 ≤ 8922250) (ha1 : 0 ≤ (xs (i + 1)).toInt ∧ (xs (i + 1)).toInt ≤ 3) (ha2 : 0 ≤ (xs (i + 2)).toInt ∧ (xs (i + 2)).toInt ≤ 0) (hx0 : fc_m PRD 20 [.ref h1, .int (xs (i + 1))] [51, 0, 0, 1, 4000000000, 0, 6, 14, 0, 0, 4000, 1, 1, 0, 0] ws) (kk : ∀ (k : Nat) (ta : Nat → Option Nat) (w2 : va_W) (H : Heap) (locs : List Loc), va_P D classes w2 H → va_D (fun q : Nat => s.heap.size ≤ q) w2 → va_S (fun q : Nat => s.heap.size ≤ q) s.heap H locs → LI kA h1 h2 rd (i + 6) k ta w2 → (TN ws h1 17 → TN w2 h1 17) → (TN ws h1 20 → TN w2 h1 20) → W p l e room_1 s m #[Value.ref b] below meth c H locs (cells + 0) (slots + 0) (lw_Z below #[Value.ref b] s) (F0 m 1294 ls [])) : W p l e room_1 s m #[Value.ref b] below meth c H locs cells slots (lw_Z below #[Value.ref b] s) (F0 m 765 ls []) := by
  obtain ⟨hx, hb, hr, hml, hown, hts0, hX, hbl, hlocks, hgv⟩ := id C0
  have hts : ∀ w ∈ lw_g, w.before #[Value.ref b] s = true := fun w h => hts0 w (lw_gt h)
  have X : cx p s m #[Value.ref b] meth c b_law_law 4 ret "DrawingHouseLaw" meth.name := ⟨hx, hb, hml, hown, hts, hr, hlocks, rfl⟩
  obtain ⟨A, hAe⟩ : ∃ A : Nat → Prop, A = fun q : Nat => s.heap.size ≤ q := ⟨_, rfl⟩
  have hA : ∀ q : Nat, s.heap.size ≤ q → A q := fun q h => by rw [hAe]; exact h
  have hbA : ¬ A b := by rw [hAe]; exact Nat.not_le.mpr hbl
  rw [← hAe] at hD hS hN kk
  obtain ⟨hth, ⟨a1, a2, a3, hn⟩, hrd, F_HI, F_HL, F_HY, F_RO, F_PT, F_LE, F_TA, F_TE⟩ := hI
  obtain ⟨k, hk, hkk⟩ : ∃ k : Nat, k ≤ 2000 ∧ k = n := ⟨n, hn, rfl⟩
  have henv : sy_env ta L_env (L_vs h1 h2 rd i n k) := L_envs a1 a2 a3 (by omega) hn hk
  refine lv_aload_n (pc := 765) hx hb d_law_law_765 rfl (lv_at hl 2 rfl) ?_
  refine lv_aload_n (pc := 766) hx hb d_law_law_766 rfl (lv_at hl 3 rfl) ?_
  refine lv_iload_n (pc := 767) hx hb d_law_law_767 rfl (lv_at hl 0 rfl) ?_
  refine lv_iconst (pc := 768) (v := 1) hx hb d_law_law_768 (by decide) ?_
  refine k_add (pc := 769) (x := i) (y := 1) hx hb d_law_law_769 ?_
  refine sc_ld (pc := 770) (j := i + 1) hx hb hX hbl hbA hS (by omega) (by omega) d_law_law_770 ?_
  refine lv_aload_n (pc := 771) hx hb d_law_law_771 rfl (lv_at hl 3 rfl) ?_
  refine lv_iload_n (pc := 772) hx hb d_law_law_772 rfl (lv_at hl 0 rfl) ?_
  refine lv_iconst (pc := 773) (v := 2) hx hb d_law_law_773 (by decide) ?_
  refine k_add (pc := 774) (x := i) (y := 2) hx hb d_law_law_774 ?_
  refine sc_ld (pc := 775) (j := i + 2) hx hb hX hbl hbA hS (by omega) (by omega) d_law_law_775 ?_
  refine lv_aload_n (pc := 776) hx hb d_law_law_776 rfl (lv_at hl 3 rfl) ?_
  refine lv_iload_n (pc := 777) hx hb d_law_law_777 rfl (lv_at hl 0 rfl) ?_
  refine lv_iconst (pc := 778) (v := 3) hx hb d_law_law_778 (by decide) ?_
  refine k_add (pc := 779) (x := i) (y := 3) hx hb d_law_law_779 ?_
  refine sc_ld (pc := 780) (j := i + 3) hx hb hX hbl hbA hS (by omega) (by omega) d_law_law_780 ?_
  refine W.eq (g2 := F0 m 781 ls (List.reverse [.ref h1, .int (xs (i + 1)), .int (xs (i + 2)), .int (xs (i + 3))] ++ [])) rfl ?_
  refine (cl_virtual (y := y_Ho_draw_at_b) (ci := 12) rfl rfl ⟨_, _, rfl⟩ (by decide +kernel) h_Ho_draw_at_b wm_1185 wm_1 wm_1182 wm_1183 wm_1184 ⟨by decide, by decide, by decide +kernel⟩ (by decide) : cl_ok PRD l D kA GG "DrawingHouseLaw" _ _ e_Ho_draw_at_b) p e room_1 s m #[Value.ref b] below meth c H locs cells slots (lw_Z below #[Value.ref b] s) b_law_law 781 4 ret meth.name A ws ta ls [.ref h1, .int (xs (i + 1)), .int (xs (i + 2)), .int (xs (i + 3))] [] [.int (nI i)] [] X hK hN hA hP hD hS hth (ag_c (tv_rf a1) (ag_c (Or.inl ⟨rfl, _, rfl, ha1.1, ha1.2⟩) (ag_c (Or.inl ⟨rfl, _, rfl, ha2.1, ha2.2⟩) (ag_c tv_top (ag_n))))) (gv_n) (ag_c (tv_nI (show i ≤ 3066 by omega) (by decide)) (ag_n)) (show ∀ f ∈ ([(20, [0], [62, 0]), (20, [0], [62, 1000000]), (20, [0, 4], [62, 2000000]), (20, [0, 1], [51, 0, 0, 1, 4000000000, 0, 6, 14, 0, 0, 4000, 1, 1, 0, 0])] : List fc_T), fc_1 PRD f ws ([.ref h1, .int (xs (i + 1)), .int (xs (i + 2)), .int (xs (i + 3))] ++ [] ++ [.int (nI i)]) from (List.forall_mem_cons.mpr ⟨⟨nf_in (N := 5) rfl rfl, F_HI⟩, (List.forall_mem_cons.mpr ⟨⟨nf_in (N := 5) rfl rfl, F_HL⟩, (List.forall_mem_cons.mpr ⟨⟨nf_in (N := 5) rfl rfl, F_HY⟩, (List.forall_mem_cons.mpr ⟨⟨nf_in (N := 5) rfl rfl, hx0⟩, (fun _ h => by cases h)⟩)⟩)⟩)⟩)) (by first | decide | exact Nat.le_of_ble_eq_true rfl) (by first | decide | exact Nat.le_of_ble_eq_true rfl) (by first | decide | exact Nat.le_of_ble_eq_true rfl) (show cells + 0 ≤ 60000 by omega) (show slots + 0 ≤ 8922250 by omega) hl.1 d_law_law_781 (fun ta1 ws1 H1 locs1 r hle1 hth1 hP1 hD1 hS1 hrt hpo _ hkp => ?_)
  obtain ⟨x1, rfl⟩ := rt_i rfl hrt
  have hpost : ∀ f ∈ ([(20, [0], [62, 0]), (20, [0], [62, 1000000]), (20, [0, 4], [62, 2000006])] : List fc_T), fc_1 PRD f ws1 ([.ref h1, .int (xs (i + 1)), .int (xs (i + 2)), .int (xs (i + 3))] ++ [] ++ [.int (nI i)] ++ [.int x1]) := hpo.1
  have hkeep := L_keep (M := [(20, [0], [62, 0]), (20, [0], [62, 1000000]), (20, [0, 2], [62, 2000000]), (20, [1], [60, 0, 3, 198, 2, 3, 4]), (20, [1], [60, 0, 3, 367, 110, 111, 112]), (20, [3, 4], [50, 1, 0, 1, 1, 3, 2, 0, 1, 1, 1]), (20, [1, 4], [50, 1, 0, 0, 1, 3, 2, 0, 0, 1, 1]), (20, [1, 3, 4], [60, 0, 2, 1109, 1, 1000])]) (S := [(20, [1], [60, 0, 3, 198, 2, 3, 4]), (20, [1], [60, 0, 3, 367, 110, 111, 112]), (20, [3, 4], [50, 1, 0, 1, 1, 3, 2, 0, 1, 1, 1]), (20, [1, 4], [50, 1, 0, 0, 1, 3, 2, 0, 0, 1, 1]), (20, [1, 3, 4], [60, 0, 2, 1109, 1, 1000])]) hth henv hD hle1 hth1 hD1 hkp (by decide +kernel) (List.forall_mem_cons.mpr ⟨F_HI, (List.forall_mem_cons.mpr ⟨F_HL, (List.forall_mem_cons.mpr ⟨F_HY, (List.forall_mem_cons.mpr ⟨F_RO, (List.forall_mem_cons.mpr ⟨F_PT, (List.forall_mem_cons.mpr ⟨F_LE, (List.forall_mem_cons.mpr ⟨F_TA, (List.forall_mem_cons.mpr ⟨F_TE, (fun _ h => by cases h)⟩)⟩)⟩)⟩)⟩)⟩)⟩)⟩)
  have G_RO : fc_m PRD 20 [.ref h2] [60, 0, 3, 198, 2, 3, 4] ws1 := hkeep _ List.mem_cons_self
  have G_PT : fc_m PRD 20 [.ref h2] [60, 0, 3, 367, 110, 111, 112] ws1 := hkeep _ (List.mem_cons_of_mem _ List.mem_cons_self)
  have G_LE : fc_m PRD 20 [.ref rd, .int (nI n)] [50, 1, 0, 1, 1, 3, 2, 0, 1, 1, 1] ws1 := hkeep _ (List.mem_cons_of_mem _ (List.mem_cons_of_mem _ List.mem_cons_self))
  have G_TA : fc_m PRD 20 [.ref h2, .int (nI n)] [50, 1, 0, 0, 1, 3, 2, 0, 0, 1, 1] ws1 := hkeep _ (List.mem_cons_of_mem _ (List.mem_cons_of_mem _ (List.mem_cons_of_mem _ List.mem_cons_self)))
  have G_TE : fc_m PRD 20 [.ref h2, .ref rd, .int (nI n)] [60, 0, 2, 1109, 1, 1000] ws1 := hkeep _ (List.mem_cons_of_mem _ (List.mem_cons_of_mem _ (List.mem_cons_of_mem _ (List.mem_cons_of_mem _ List.mem_cons_self))))
  have G_HI : fc_m PRD 20 [.ref h1] [62, 0] ws1 := (hpost _ List.mem_cons_self).2
  have G_HL : fc_m PRD 20 [.ref h1] [62, 1000000] ws1 := (hpost _ (List.mem_cons_of_mem _ List.mem_cons_self)).2
  have G_HY6 : fc_m PRD 20 [.ref h1, .int (nI (i + 6))] [62, 2000000] ws1 := by have z : HY ws1 (.ref h1) ((nI i).toInt + ((2000006 : Nat) - 2000000 : Int)) := (hpost _ (List.mem_cons_of_mem _ (List.mem_cons_of_mem _ List.mem_cons_self))).2; show HY ws1 (.ref h1) ((nI (i + 6)).toInt + ((2000000 : Nat) - 2000000 : Int)); rw [nI_toInt (by omega)] at z ⊢; exact hy_le z (by omega)
  have G_LE6 : fc_m PRD 20 [.ref rd, .int (nI k)] [50, 1, 0, 1, 1, 3, 2, 0, 1, 1, 1] ws1 := by rw [hkk]; exact G_LE
  have hrd : L_rd ws1 h1 rd := L_rdk hrd a1 hkp (by decide +kernel)
  have tn17 : TN ws h1 17 → TN ws1 h1 17 := TN_kp a1 hkp (by decide +kernel)
  have tn20 : TN ws h1 20 → TN ws1 h1 20 := TN_kp a1 hkp (by decide +kernel)
  have F_HI := G_HI
  have F_HL := G_HL
  have F_HY6 := G_HY6
  have F_RO := G_RO
  have F_PT := G_PT
  have F_LE6 := G_LE6
  have F_TA := G_TA
  have F_TE := G_TE
  show W p l e room_1 s m #[Value.ref b] below meth c H1 locs1 (cells + 0) (slots + 0) (lw_Z below #[Value.ref b] s) (F0 m 784 ls [.int x1])
  have hS := hS1
  refine lv_pop (pc := 784) hx hb d_law_law_784 rfl ?_
  refine lv_aload_n (pc := 785) hx hb d_law_law_785 rfl (lv_at hl 1 rfl) ?_
  refine lv_aload_n (pc := 786) hx hb d_law_law_786 rfl (lv_at hl 3 rfl) ?_
  refine lv_iload_n (pc := 787) hx hb d_law_law_787 rfl (lv_at hl 0 rfl) ?_
  refine lv_iconst (pc := 788) (v := 1) hx hb d_law_law_788 (by decide) ?_
  refine k_add (pc := 789) (x := i) (y := 1) hx hb d_law_law_789 ?_
  refine sc_ld (pc := 790) (j := i + 1) hx hb hX hbl hbA hS (by omega) (by omega) d_law_law_790 ?_
  refine lv_aload_n (pc := 791) hx hb d_law_law_791 rfl (lv_at hl 3 rfl) ?_
  refine lv_iload_n (pc := 792) hx hb d_law_law_792 rfl (lv_at hl 0 rfl) ?_
  refine lv_iconst (pc := 793) (v := 2) hx hb d_law_law_793 (by decide) ?_
  refine k_add (pc := 794) (x := i) (y := 2) hx hb d_law_law_794 ?_
  refine sc_ld (pc := 795) (j := i + 2) hx hb hX hbl hbA hS (by omega) (by omega) d_law_law_795 ?_
  refine lv_aload_n (pc := 796) hx hb d_law_law_796 rfl (lv_at hl 3 rfl) ?_
  refine lv_iload_n (pc := 797) hx hb d_law_law_797 rfl (lv_at hl 0 rfl) ?_
  refine lv_iconst (pc := 798) (v := 3) hx hb d_law_law_798 (by decide) ?_
  refine k_add (pc := 799) (x := i) (y := 3) hx hb d_law_law_799 ?_
  refine sc_ld (pc := 800) (j := i + 3) hx hb hX hbl hbA hS (by omega) (by omega) d_law_law_800 ?_
  refine W.eq (g2 := F0 m 801 ls (List.reverse [.ref h2, .int (xs (i + 1)), .int (xs (i + 2)), .int (xs (i + 3))] ++ [])) rfl ?_
  refine (cl_virtual (y := y_Mo_draw) (ci := 13) rfl rfl ⟨_, _, rfl⟩ (by decide +kernel) h_Mo_draw wm_3367 wm_9 wm_3364 wm_3365 wm_3366 ⟨by decide, by decide, by decide +kernel⟩ (by decide) : cl_ok PRD l D kA GG "DrawingHouseLaw" _ _ e_Mo_draw) p e room_1 s m #[Value.ref b] below meth c H1 locs1 (cells + 0) (slots + 0) (lw_Z below #[Value.ref b] s) b_law_law 801 4 ret meth.name A ws1 ta1 ls [.ref h2, .int (xs (i + 1)), .int (xs (i + 2)), .int (xs (i + 3))] [] [] [] X hK hN hA hP1 hD1 hS1 hth1 (ag_c (tv_rf (hle1 _ _ a2)) (ag_c tv_top (ag_c tv_top (ag_c tv_top (ag_n))))) (gv_n) (ag_n) (show ∀ f ∈ ([(20, [0], [60, 0, 3, 198, 2, 3, 4]), (20, [0], [60, 0, 3, 367, 110, 111, 112])] : List fc_T), fc_1 PRD f ws1 ([.ref h2, .int (xs (i + 1)), .int (xs (i + 2)), .int (xs (i + 3))] ++ [] ++ []) from (List.forall_mem_cons.mpr ⟨⟨nf_in (N := 4) rfl rfl, F_RO⟩, (List.forall_mem_cons.mpr ⟨⟨nf_in (N := 4) rfl rfl, F_PT⟩, (fun _ h => by cases h)⟩)⟩)) (by first | decide | exact Nat.le_of_ble_eq_true rfl) (by first | decide | exact Nat.le_of_ble_eq_true rfl) (by first | decide | exact Nat.le_of_ble_eq_true rfl) (show (cells + 0) + 0 ≤ 60000 by omega) (show (slots + 0) + 0 ≤ 8922250 by omega) hl.1 d_law_law_801 (fun ta2 ws2 H2 locs2 r hle2 hth2 hP2 hD2 hS2 hrt hpo _ hkp => ?_)
  obtain ⟨x2, rfl⟩ := rt_i rfl hrt
  have hpost : ∀ f ∈ ([] : List fc_T), fc_1 PRD f ws2 ([.ref h2, .int (xs (i + 1)), .int (xs (i + 2)), .int (xs (i + 3))] ++ [] ++ [] ++ [.int x2]) := hpo.1
  have hkeep := L_keep (M := [(20, [0], [62, 0]), (20, [0], [62, 1000000]), (20, [0, 6], [62, 2000000]), (20, [1], [60, 0, 3, 198, 2, 3, 4]), (20, [1], [60, 0, 3, 367, 110, 111, 112]), (20, [3, 5], [50, 1, 0, 1, 1, 3, 2, 0, 1, 1, 1]), (20, [1, 4], [50, 1, 0, 0, 1, 3, 2, 0, 0, 1, 1]), (20, [1, 3, 4], [60, 0, 2, 1109, 1, 1000])]) (S := [(20, [0], [62, 0]), (20, [0], [62, 1000000]), (20, [0, 6], [62, 2000000]), (20, [1], [60, 0, 3, 198, 2, 3, 4]), (20, [1], [60, 0, 3, 367, 110, 111, 112]), (20, [3, 5], [50, 1, 0, 1, 1, 3, 2, 0, 1, 1, 1]), (20, [1, 4], [50, 1, 0, 0, 1, 3, 2, 0, 0, 1, 1]), (20, [1, 3, 4], [60, 0, 2, 1109, 1, 1000])]) hth1 (sy_env_up hle1 henv) hD1 hle2 hth2 hD2 hkp (by decide +kernel) (List.forall_mem_cons.mpr ⟨F_HI, (List.forall_mem_cons.mpr ⟨F_HL, (List.forall_mem_cons.mpr ⟨F_HY6, (List.forall_mem_cons.mpr ⟨F_RO, (List.forall_mem_cons.mpr ⟨F_PT, (List.forall_mem_cons.mpr ⟨F_LE6, (List.forall_mem_cons.mpr ⟨F_TA, (List.forall_mem_cons.mpr ⟨F_TE, (fun _ h => by cases h)⟩)⟩)⟩)⟩)⟩)⟩)⟩)⟩)
  have G_HI : fc_m PRD 20 [.ref h1] [62, 0] ws2 := hkeep _ List.mem_cons_self
  have G_HL : fc_m PRD 20 [.ref h1] [62, 1000000] ws2 := hkeep _ (List.mem_cons_of_mem _ List.mem_cons_self)
  have G_HY6 : fc_m PRD 20 [.ref h1, .int (nI (i + 6))] [62, 2000000] ws2 := hkeep _ (List.mem_cons_of_mem _ (List.mem_cons_of_mem _ List.mem_cons_self))
  have G_RO : fc_m PRD 20 [.ref h2] [60, 0, 3, 198, 2, 3, 4] ws2 := hkeep _ (List.mem_cons_of_mem _ (List.mem_cons_of_mem _ (List.mem_cons_of_mem _ List.mem_cons_self)))
  have G_PT : fc_m PRD 20 [.ref h2] [60, 0, 3, 367, 110, 111, 112] ws2 := hkeep _ (List.mem_cons_of_mem _ (List.mem_cons_of_mem _ (List.mem_cons_of_mem _ (List.mem_cons_of_mem _ List.mem_cons_self))))
  have G_LE6 : fc_m PRD 20 [.ref rd, .int (nI k)] [50, 1, 0, 1, 1, 3, 2, 0, 1, 1, 1] ws2 := hkeep _ (List.mem_cons_of_mem _ (List.mem_cons_of_mem _ (List.mem_cons_of_mem _ (List.mem_cons_of_mem _ (List.mem_cons_of_mem _ List.mem_cons_self)))))
  have G_TA : fc_m PRD 20 [.ref h2, .int (nI n)] [50, 1, 0, 0, 1, 3, 2, 0, 0, 1, 1] ws2 := hkeep _ (List.mem_cons_of_mem _ (List.mem_cons_of_mem _ (List.mem_cons_of_mem _ (List.mem_cons_of_mem _ (List.mem_cons_of_mem _ (List.mem_cons_of_mem _ List.mem_cons_self))))))
  have G_TE : fc_m PRD 20 [.ref h2, .ref rd, .int (nI n)] [60, 0, 2, 1109, 1, 1000] ws2 := hkeep _ (List.mem_cons_of_mem _ (List.mem_cons_of_mem _ (List.mem_cons_of_mem _ (List.mem_cons_of_mem _ (List.mem_cons_of_mem _ (List.mem_cons_of_mem _ (List.mem_cons_of_mem _ List.mem_cons_self)))))))
  have G_TA6 : fc_m PRD 20 [.ref h2, .int (nI k)] [50, 1, 0, 0, 1, 3, 2, 0, 0, 1, 1] ws2 := by rw [hkk]; exact G_TA
  have G_TE6 : fc_m PRD 20 [.ref h2, .ref rd, .int (nI k)] [60, 0, 2, 1109, 1, 1000] ws2 := by have z : TEQ (w_ei ws2 (w_ar ws2 (.ref h2) 1)) (w_ei ws2 (w_ar ws2 (.ref rd) 0)) (nI n).toInt := G_TE; have z2 : TEQ (w_ei ws2 (w_ar ws2 (.ref h2) 1)) (w_ei ws2 (w_ar ws2 (.ref rd) 0)) (nI k).toInt := L_tek z (show k ≤ n by omega) hn; exact z2
  have hrd : L_rd ws2 h1 rd := L_rdk hrd (hle1 _ _ a1) hkp (by decide +kernel)
  have tm17 : TN ws1 h1 17 → TN ws2 h1 17 := TN_kp (hle1 _ _ a1) hkp (by decide +kernel)
  have tm20 : TN ws1 h1 20 → TN ws2 h1 20 := TN_kp (hle1 _ _ a1) hkp (by decide +kernel)
  have F_HI := G_HI
  have F_HL := G_HL
  have F_HY6 := G_HY6
  have F_RO := G_RO
  have F_PT := G_PT
  have F_LE6 := G_LE6
  have F_TA6 := G_TA6
  have F_TE := G_TE
  have F_TE6 := G_TE6
  show W p l e room_1 s m #[Value.ref b] below meth c H2 locs2 (cells + 0 + 0) (slots + 0 + 0) (lw_Z below #[Value.ref b] s) (F0 m 804 ls [.int x2])
  have hS := hS2
  refine lv_pop (pc := 804) hx hb d_law_law_804 rfl ?_
  refine lv_goto (pc := 805) (tgt := 1294) hx hb d_law_law_805 (by decide) ?_
  have q1 : cells + 0 + 0 = cells + 0 := by omega
  have q2 : slots + 0 + 0 = slots + 0 := by omega
  rw [q1, q2]
  exact kk k ta2 ws2 H2 locs2 hP2 hD2 hS2 ⟨hth2, ⟨hle2 _ _ (hle1 _ _ a1), hle2 _ _ (hle1 _ _ a2), hle2 _ _ (hle1 _ _ a3), hk⟩, hrd, F_HI, F_HL, F_HY6, F_RO, F_PT, F_LE6, F_TA6, F_TE6⟩ (fun q => tm17 (tn17 q)) (fun q => tm20 (tn20 q))
set_option maxRecDepth 100000 in
set_option maxHeartbeats 4000000 in
/-- draw -/
theorem lc_draw_c {p : Program} {e : Env} {s : State} {m : MethodId} {below : List Frame} {meth : Method} {c : Code} {l : Launch} {b L : Nat} {xs : Nat → Int32} (C0 : lw_At p s m meth c b L xs) (hL : L ≤ 3072) {D : va_G} {kA : Nat → ClassId} (hK : va_K D classes (TY kA) s) (hN : nsr kA (fun q : Nat => s.heap.size ≤ q) s) (h_Ho_draw_at_c : ct_ok PRD l D kA GG y_Ho_draw_at_c z_Ho_draw_at_c e_Ho_draw_at_c) (h_Mo_draw : ct_ok PRD l D kA GG y_Mo_draw z_Mo_draw e_Mo_draw) {h1 h2 rd i n : Nat} (hi : i + 6 ≤ L) {ta : Nat → Option Nat} {ws : va_W} {H : Heap} {locs : List Loc} {ls : Array Slot} {cells slots : Nat} (hP : va_P D classes ws H) (hD : va_D (fun q : Nat => s.heap.size ≤ q) ws) (hS : va_S (fun q : Nat => s.heap.size ≤ q) s.heap H locs) (hI : LI kA h1 h2 rd i n ta ws) (hl : lv_has ls 4 [(3, .int (nI i)), (2, .ref h2), (1, .ref h1), (0, .ref b)]) (hc : cells + 0 ≤ 60000) (hs : slots + 0 ≤ 8922250) (ha1 : 0 ≤ (xs (i + 1)).toInt ∧ (xs (i + 1)).toInt ≤ 3) (ha2 : 0 ≤ (xs (i + 2)).toInt ∧ (xs (i + 2)).toInt ≤ 0) (htl : TN ws h1 17) (kk : ∀ (k : Nat) (ta : Nat → Option Nat) (w2 : va_W) (H : Heap) (locs : List Loc), va_P D classes w2 H → va_D (fun q : Nat => s.heap.size ≤ q) w2 → va_S (fun q : Nat => s.heap.size ≤ q) s.heap H locs → LI kA h1 h2 rd (i + 6) k ta w2 → (TN ws h1 17 → TN w2 h1 17) → (TN ws h1 20 → TN w2 h1 20) → W p l e room_1 s m #[Value.ref b] below meth c H locs (cells + 0) (slots + 0) (lw_Z below #[Value.ref b] s) (F0 m 1294 ls [])) : W p l e room_1 s m #[Value.ref b] below meth c H locs cells slots (lw_Z below #[Value.ref b] s) (F0 m 765 ls []) := by
  obtain ⟨hx, hb, hr, hml, hown, hts0, hX, hbl, hlocks, hgv⟩ := id C0
  have hts : ∀ w ∈ lw_g, w.before #[Value.ref b] s = true := fun w h => hts0 w (lw_gt h)
  have X : cx p s m #[Value.ref b] meth c b_law_law 4 ret "DrawingHouseLaw" meth.name := ⟨hx, hb, hml, hown, hts, hr, hlocks, rfl⟩
  obtain ⟨A, hAe⟩ : ∃ A : Nat → Prop, A = fun q : Nat => s.heap.size ≤ q := ⟨_, rfl⟩
  have hA : ∀ q : Nat, s.heap.size ≤ q → A q := fun q h => by rw [hAe]; exact h
  have hbA : ¬ A b := by rw [hAe]; exact Nat.not_le.mpr hbl
  rw [← hAe] at hD hS hN kk
  obtain ⟨hth, ⟨a1, a2, a3, hn⟩, hrd, F_HI, F_HL, F_HY, F_RO, F_PT, F_LE, F_TA, F_TE⟩ := hI
  obtain ⟨k, hk, hkk⟩ : ∃ k : Nat, k ≤ 2000 ∧ k = n := ⟨n, hn, rfl⟩
  obtain ⟨vt, hvt, hvk⟩ : ∃ v, L_fd ws h1 17 v ∧ tv_ok ta (2, 0, 0, [4]) v := by
    obtain ⟨v, q1, q2⟩ := L_fdx hth a1 (k := 17) (t := (3, 0, 0, [4])) rfl
    obtain ⟨a, q3⟩ := htl
    have e := L_fd1 hD q1 q3
    subst e
    rcases tv_nref q2 rfl with z | ⟨a2, r2, z, z2, z3⟩
    · cases z
    · exact ⟨_, q1, Or.inr (Or.inr (Or.inl ⟨rfl, a2, r2, z, z2, z3⟩))⟩
  have henv : sy_env ta L_env (L_vs h1 h2 rd i n k) := L_envs a1 a2 a3 (by omega) hn hk
  refine lv_aload_n (pc := 765) hx hb d_law_law_765 rfl (lv_at hl 2 rfl) ?_
  refine lv_aload_n (pc := 766) hx hb d_law_law_766 rfl (lv_at hl 3 rfl) ?_
  refine lv_iload_n (pc := 767) hx hb d_law_law_767 rfl (lv_at hl 0 rfl) ?_
  refine lv_iconst (pc := 768) (v := 1) hx hb d_law_law_768 (by decide) ?_
  refine k_add (pc := 769) (x := i) (y := 1) hx hb d_law_law_769 ?_
  refine sc_ld (pc := 770) (j := i + 1) hx hb hX hbl hbA hS (by omega) (by omega) d_law_law_770 ?_
  refine lv_aload_n (pc := 771) hx hb d_law_law_771 rfl (lv_at hl 3 rfl) ?_
  refine lv_iload_n (pc := 772) hx hb d_law_law_772 rfl (lv_at hl 0 rfl) ?_
  refine lv_iconst (pc := 773) (v := 2) hx hb d_law_law_773 (by decide) ?_
  refine k_add (pc := 774) (x := i) (y := 2) hx hb d_law_law_774 ?_
  refine sc_ld (pc := 775) (j := i + 2) hx hb hX hbl hbA hS (by omega) (by omega) d_law_law_775 ?_
  refine lv_aload_n (pc := 776) hx hb d_law_law_776 rfl (lv_at hl 3 rfl) ?_
  refine lv_iload_n (pc := 777) hx hb d_law_law_777 rfl (lv_at hl 0 rfl) ?_
  refine lv_iconst (pc := 778) (v := 3) hx hb d_law_law_778 (by decide) ?_
  refine k_add (pc := 779) (x := i) (y := 3) hx hb d_law_law_779 ?_
  refine sc_ld (pc := 780) (j := i + 3) hx hb hX hbl hbA hS (by omega) (by omega) d_law_law_780 ?_
  refine W.eq (g2 := F0 m 781 ls (List.reverse [.ref h1, .int (xs (i + 1)), .int (xs (i + 2)), .int (xs (i + 3))] ++ [])) rfl ?_
  refine (cl_virtual (y := y_Ho_draw_at_c) (ci := 12) rfl rfl ⟨_, _, rfl⟩ (by decide +kernel) h_Ho_draw_at_c wm_1185 wm_1 wm_1182 wm_1183 wm_1184 ⟨by decide, by decide, by decide +kernel⟩ (by decide) : cl_ok PRD l D kA GG "DrawingHouseLaw" _ _ e_Ho_draw_at_c) p e room_1 s m #[Value.ref b] below meth c H locs cells slots (lw_Z below #[Value.ref b] s) b_law_law 781 4 ret meth.name A ws ta ls [.ref h1, .int (xs (i + 1)), .int (xs (i + 2)), .int (xs (i + 3))] [vt] [.int (nI i)] [] X hK hN hA hP hD hS hth (ag_c (tv_rf a1) (ag_c (Or.inl ⟨rfl, _, rfl, ha1.1, ha1.2⟩) (ag_c (Or.inl ⟨rfl, _, rfl, ha2.1, ha2.2⟩) (ag_c tv_top (ag_n))))) (gv_fd hvt hvk) (ag_c (tv_nI (show i ≤ 3066 by omega) (by decide)) (ag_n)) (show ∀ f ∈ ([(20, [0], [62, 0]), (20, [0], [62, 1000000]), (20, [0, 5], [62, 2000000])] : List fc_T), fc_1 PRD f ws ([.ref h1, .int (xs (i + 1)), .int (xs (i + 2)), .int (xs (i + 3))] ++ [vt] ++ [.int (nI i)]) from (List.forall_mem_cons.mpr ⟨⟨nf_in (N := 6) rfl rfl, F_HI⟩, (List.forall_mem_cons.mpr ⟨⟨nf_in (N := 6) rfl rfl, F_HL⟩, (List.forall_mem_cons.mpr ⟨⟨nf_in (N := 6) rfl rfl, F_HY⟩, (fun _ h => by cases h)⟩)⟩)⟩)) (by first | decide | exact Nat.le_of_ble_eq_true rfl) (by first | decide | exact Nat.le_of_ble_eq_true rfl) (by first | decide | exact Nat.le_of_ble_eq_true rfl) (show cells + 0 ≤ 60000 by omega) (show slots + 0 ≤ 8922250 by omega) hl.1 d_law_law_781 (fun ta1 ws1 H1 locs1 r hle1 hth1 hP1 hD1 hS1 hrt hpo _ hkp => ?_)
  obtain ⟨x1, rfl⟩ := rt_i rfl hrt
  have hpost : ∀ f ∈ ([(20, [0], [62, 0]), (20, [0], [62, 1000000]), (20, [0, 5], [62, 2000006])] : List fc_T), fc_1 PRD f ws1 ([.ref h1, .int (xs (i + 1)), .int (xs (i + 2)), .int (xs (i + 3))] ++ [vt] ++ [.int (nI i)] ++ [.int x1]) := hpo.1
  have hkeep := L_keep (M := [(20, [0], [62, 0]), (20, [0], [62, 1000000]), (20, [0, 2], [62, 2000000]), (20, [1], [60, 0, 3, 198, 2, 3, 4]), (20, [1], [60, 0, 3, 367, 110, 111, 112]), (20, [3, 4], [50, 1, 0, 1, 1, 3, 2, 0, 1, 1, 1]), (20, [1, 4], [50, 1, 0, 0, 1, 3, 2, 0, 0, 1, 1]), (20, [1, 3, 4], [60, 0, 2, 1109, 1, 1000])]) (S := [(20, [1], [60, 0, 3, 198, 2, 3, 4]), (20, [1], [60, 0, 3, 367, 110, 111, 112]), (20, [3, 4], [50, 1, 0, 1, 1, 3, 2, 0, 1, 1, 1]), (20, [1, 4], [50, 1, 0, 0, 1, 3, 2, 0, 0, 1, 1]), (20, [1, 3, 4], [60, 0, 2, 1109, 1, 1000])]) hth henv hD hle1 hth1 hD1 hkp (by decide +kernel) (List.forall_mem_cons.mpr ⟨F_HI, (List.forall_mem_cons.mpr ⟨F_HL, (List.forall_mem_cons.mpr ⟨F_HY, (List.forall_mem_cons.mpr ⟨F_RO, (List.forall_mem_cons.mpr ⟨F_PT, (List.forall_mem_cons.mpr ⟨F_LE, (List.forall_mem_cons.mpr ⟨F_TA, (List.forall_mem_cons.mpr ⟨F_TE, (fun _ h => by cases h)⟩)⟩)⟩)⟩)⟩)⟩)⟩)⟩)
  have G_RO : fc_m PRD 20 [.ref h2] [60, 0, 3, 198, 2, 3, 4] ws1 := hkeep _ List.mem_cons_self
  have G_PT : fc_m PRD 20 [.ref h2] [60, 0, 3, 367, 110, 111, 112] ws1 := hkeep _ (List.mem_cons_of_mem _ List.mem_cons_self)
  have G_LE : fc_m PRD 20 [.ref rd, .int (nI n)] [50, 1, 0, 1, 1, 3, 2, 0, 1, 1, 1] ws1 := hkeep _ (List.mem_cons_of_mem _ (List.mem_cons_of_mem _ List.mem_cons_self))
  have G_TA : fc_m PRD 20 [.ref h2, .int (nI n)] [50, 1, 0, 0, 1, 3, 2, 0, 0, 1, 1] ws1 := hkeep _ (List.mem_cons_of_mem _ (List.mem_cons_of_mem _ (List.mem_cons_of_mem _ List.mem_cons_self)))
  have G_TE : fc_m PRD 20 [.ref h2, .ref rd, .int (nI n)] [60, 0, 2, 1109, 1, 1000] ws1 := hkeep _ (List.mem_cons_of_mem _ (List.mem_cons_of_mem _ (List.mem_cons_of_mem _ (List.mem_cons_of_mem _ List.mem_cons_self))))
  have G_HI : fc_m PRD 20 [.ref h1] [62, 0] ws1 := (hpost _ List.mem_cons_self).2
  have G_HL : fc_m PRD 20 [.ref h1] [62, 1000000] ws1 := (hpost _ (List.mem_cons_of_mem _ List.mem_cons_self)).2
  have G_HY6 : fc_m PRD 20 [.ref h1, .int (nI (i + 6))] [62, 2000000] ws1 := by have z : HY ws1 (.ref h1) ((nI i).toInt + ((2000006 : Nat) - 2000000 : Int)) := (hpost _ (List.mem_cons_of_mem _ (List.mem_cons_of_mem _ List.mem_cons_self))).2; show HY ws1 (.ref h1) ((nI (i + 6)).toInt + ((2000000 : Nat) - 2000000 : Int)); rw [nI_toInt (by omega)] at z ⊢; exact hy_le z (by omega)
  have G_LE6 : fc_m PRD 20 [.ref rd, .int (nI k)] [50, 1, 0, 1, 1, 3, 2, 0, 1, 1, 1] ws1 := by rw [hkk]; exact G_LE
  have hrd : L_rd ws1 h1 rd := L_rdk hrd a1 hkp (by decide +kernel)
  have tn17 : TN ws h1 17 → TN ws1 h1 17 := TN_kp a1 hkp (by decide +kernel)
  have tn20 : TN ws h1 20 → TN ws1 h1 20 := TN_kp a1 hkp (by decide +kernel)
  have F_HI := G_HI
  have F_HL := G_HL
  have F_HY6 := G_HY6
  have F_RO := G_RO
  have F_PT := G_PT
  have F_LE6 := G_LE6
  have F_TA := G_TA
  have F_TE := G_TE
  show W p l e room_1 s m #[Value.ref b] below meth c H1 locs1 (cells + 0) (slots + 0) (lw_Z below #[Value.ref b] s) (F0 m 784 ls [.int x1])
  have hS := hS1
  refine lv_pop (pc := 784) hx hb d_law_law_784 rfl ?_
  refine lv_aload_n (pc := 785) hx hb d_law_law_785 rfl (lv_at hl 1 rfl) ?_
  refine lv_aload_n (pc := 786) hx hb d_law_law_786 rfl (lv_at hl 3 rfl) ?_
  refine lv_iload_n (pc := 787) hx hb d_law_law_787 rfl (lv_at hl 0 rfl) ?_
  refine lv_iconst (pc := 788) (v := 1) hx hb d_law_law_788 (by decide) ?_
  refine k_add (pc := 789) (x := i) (y := 1) hx hb d_law_law_789 ?_
  refine sc_ld (pc := 790) (j := i + 1) hx hb hX hbl hbA hS (by omega) (by omega) d_law_law_790 ?_
  refine lv_aload_n (pc := 791) hx hb d_law_law_791 rfl (lv_at hl 3 rfl) ?_
  refine lv_iload_n (pc := 792) hx hb d_law_law_792 rfl (lv_at hl 0 rfl) ?_
  refine lv_iconst (pc := 793) (v := 2) hx hb d_law_law_793 (by decide) ?_
  refine k_add (pc := 794) (x := i) (y := 2) hx hb d_law_law_794 ?_
  refine sc_ld (pc := 795) (j := i + 2) hx hb hX hbl hbA hS (by omega) (by omega) d_law_law_795 ?_
  refine lv_aload_n (pc := 796) hx hb d_law_law_796 rfl (lv_at hl 3 rfl) ?_
  refine lv_iload_n (pc := 797) hx hb d_law_law_797 rfl (lv_at hl 0 rfl) ?_
  refine lv_iconst (pc := 798) (v := 3) hx hb d_law_law_798 (by decide) ?_
  refine k_add (pc := 799) (x := i) (y := 3) hx hb d_law_law_799 ?_
  refine sc_ld (pc := 800) (j := i + 3) hx hb hX hbl hbA hS (by omega) (by omega) d_law_law_800 ?_
  refine W.eq (g2 := F0 m 801 ls (List.reverse [.ref h2, .int (xs (i + 1)), .int (xs (i + 2)), .int (xs (i + 3))] ++ [])) rfl ?_
  refine (cl_virtual (y := y_Mo_draw) (ci := 13) rfl rfl ⟨_, _, rfl⟩ (by decide +kernel) h_Mo_draw wm_3367 wm_9 wm_3364 wm_3365 wm_3366 ⟨by decide, by decide, by decide +kernel⟩ (by decide) : cl_ok PRD l D kA GG "DrawingHouseLaw" _ _ e_Mo_draw) p e room_1 s m #[Value.ref b] below meth c H1 locs1 (cells + 0) (slots + 0) (lw_Z below #[Value.ref b] s) b_law_law 801 4 ret meth.name A ws1 ta1 ls [.ref h2, .int (xs (i + 1)), .int (xs (i + 2)), .int (xs (i + 3))] [] [] [] X hK hN hA hP1 hD1 hS1 hth1 (ag_c (tv_rf (hle1 _ _ a2)) (ag_c tv_top (ag_c tv_top (ag_c tv_top (ag_n))))) (gv_n) (ag_n) (show ∀ f ∈ ([(20, [0], [60, 0, 3, 198, 2, 3, 4]), (20, [0], [60, 0, 3, 367, 110, 111, 112])] : List fc_T), fc_1 PRD f ws1 ([.ref h2, .int (xs (i + 1)), .int (xs (i + 2)), .int (xs (i + 3))] ++ [] ++ []) from (List.forall_mem_cons.mpr ⟨⟨nf_in (N := 4) rfl rfl, F_RO⟩, (List.forall_mem_cons.mpr ⟨⟨nf_in (N := 4) rfl rfl, F_PT⟩, (fun _ h => by cases h)⟩)⟩)) (by first | decide | exact Nat.le_of_ble_eq_true rfl) (by first | decide | exact Nat.le_of_ble_eq_true rfl) (by first | decide | exact Nat.le_of_ble_eq_true rfl) (show (cells + 0) + 0 ≤ 60000 by omega) (show (slots + 0) + 0 ≤ 8922250 by omega) hl.1 d_law_law_801 (fun ta2 ws2 H2 locs2 r hle2 hth2 hP2 hD2 hS2 hrt hpo _ hkp => ?_)
  obtain ⟨x2, rfl⟩ := rt_i rfl hrt
  have hpost : ∀ f ∈ ([] : List fc_T), fc_1 PRD f ws2 ([.ref h2, .int (xs (i + 1)), .int (xs (i + 2)), .int (xs (i + 3))] ++ [] ++ [] ++ [.int x2]) := hpo.1
  have hkeep := L_keep (M := [(20, [0], [62, 0]), (20, [0], [62, 1000000]), (20, [0, 6], [62, 2000000]), (20, [1], [60, 0, 3, 198, 2, 3, 4]), (20, [1], [60, 0, 3, 367, 110, 111, 112]), (20, [3, 5], [50, 1, 0, 1, 1, 3, 2, 0, 1, 1, 1]), (20, [1, 4], [50, 1, 0, 0, 1, 3, 2, 0, 0, 1, 1]), (20, [1, 3, 4], [60, 0, 2, 1109, 1, 1000])]) (S := [(20, [0], [62, 0]), (20, [0], [62, 1000000]), (20, [0, 6], [62, 2000000]), (20, [1], [60, 0, 3, 198, 2, 3, 4]), (20, [1], [60, 0, 3, 367, 110, 111, 112]), (20, [3, 5], [50, 1, 0, 1, 1, 3, 2, 0, 1, 1, 1]), (20, [1, 4], [50, 1, 0, 0, 1, 3, 2, 0, 0, 1, 1]), (20, [1, 3, 4], [60, 0, 2, 1109, 1, 1000])]) hth1 (sy_env_up hle1 henv) hD1 hle2 hth2 hD2 hkp (by decide +kernel) (List.forall_mem_cons.mpr ⟨F_HI, (List.forall_mem_cons.mpr ⟨F_HL, (List.forall_mem_cons.mpr ⟨F_HY6, (List.forall_mem_cons.mpr ⟨F_RO, (List.forall_mem_cons.mpr ⟨F_PT, (List.forall_mem_cons.mpr ⟨F_LE6, (List.forall_mem_cons.mpr ⟨F_TA, (List.forall_mem_cons.mpr ⟨F_TE, (fun _ h => by cases h)⟩)⟩)⟩)⟩)⟩)⟩)⟩)⟩)
  have G_HI : fc_m PRD 20 [.ref h1] [62, 0] ws2 := hkeep _ List.mem_cons_self
  have G_HL : fc_m PRD 20 [.ref h1] [62, 1000000] ws2 := hkeep _ (List.mem_cons_of_mem _ List.mem_cons_self)
  have G_HY6 : fc_m PRD 20 [.ref h1, .int (nI (i + 6))] [62, 2000000] ws2 := hkeep _ (List.mem_cons_of_mem _ (List.mem_cons_of_mem _ List.mem_cons_self))
  have G_RO : fc_m PRD 20 [.ref h2] [60, 0, 3, 198, 2, 3, 4] ws2 := hkeep _ (List.mem_cons_of_mem _ (List.mem_cons_of_mem _ (List.mem_cons_of_mem _ List.mem_cons_self)))
  have G_PT : fc_m PRD 20 [.ref h2] [60, 0, 3, 367, 110, 111, 112] ws2 := hkeep _ (List.mem_cons_of_mem _ (List.mem_cons_of_mem _ (List.mem_cons_of_mem _ (List.mem_cons_of_mem _ List.mem_cons_self))))
  have G_LE6 : fc_m PRD 20 [.ref rd, .int (nI k)] [50, 1, 0, 1, 1, 3, 2, 0, 1, 1, 1] ws2 := hkeep _ (List.mem_cons_of_mem _ (List.mem_cons_of_mem _ (List.mem_cons_of_mem _ (List.mem_cons_of_mem _ (List.mem_cons_of_mem _ List.mem_cons_self)))))
  have G_TA : fc_m PRD 20 [.ref h2, .int (nI n)] [50, 1, 0, 0, 1, 3, 2, 0, 0, 1, 1] ws2 := hkeep _ (List.mem_cons_of_mem _ (List.mem_cons_of_mem _ (List.mem_cons_of_mem _ (List.mem_cons_of_mem _ (List.mem_cons_of_mem _ (List.mem_cons_of_mem _ List.mem_cons_self))))))
  have G_TE : fc_m PRD 20 [.ref h2, .ref rd, .int (nI n)] [60, 0, 2, 1109, 1, 1000] ws2 := hkeep _ (List.mem_cons_of_mem _ (List.mem_cons_of_mem _ (List.mem_cons_of_mem _ (List.mem_cons_of_mem _ (List.mem_cons_of_mem _ (List.mem_cons_of_mem _ (List.mem_cons_of_mem _ List.mem_cons_self)))))))
  have G_TA6 : fc_m PRD 20 [.ref h2, .int (nI k)] [50, 1, 0, 0, 1, 3, 2, 0, 0, 1, 1] ws2 := by rw [hkk]; exact G_TA
  have G_TE6 : fc_m PRD 20 [.ref h2, .ref rd, .int (nI k)] [60, 0, 2, 1109, 1, 1000] ws2 := by have z : TEQ (w_ei ws2 (w_ar ws2 (.ref h2) 1)) (w_ei ws2 (w_ar ws2 (.ref rd) 0)) (nI n).toInt := G_TE; have z2 : TEQ (w_ei ws2 (w_ar ws2 (.ref h2) 1)) (w_ei ws2 (w_ar ws2 (.ref rd) 0)) (nI k).toInt := L_tek z (show k ≤ n by omega) hn; exact z2
  have hrd : L_rd ws2 h1 rd := L_rdk hrd (hle1 _ _ a1) hkp (by decide +kernel)
  have tm17 : TN ws1 h1 17 → TN ws2 h1 17 := TN_kp (hle1 _ _ a1) hkp (by decide +kernel)
  have tm20 : TN ws1 h1 20 → TN ws2 h1 20 := TN_kp (hle1 _ _ a1) hkp (by decide +kernel)
  have F_HI := G_HI
  have F_HL := G_HL
  have F_HY6 := G_HY6
  have F_RO := G_RO
  have F_PT := G_PT
  have F_LE6 := G_LE6
  have F_TA6 := G_TA6
  have F_TE := G_TE
  have F_TE6 := G_TE6
  show W p l e room_1 s m #[Value.ref b] below meth c H2 locs2 (cells + 0 + 0) (slots + 0 + 0) (lw_Z below #[Value.ref b] s) (F0 m 804 ls [.int x2])
  have hS := hS2
  refine lv_pop (pc := 804) hx hb d_law_law_804 rfl ?_
  refine lv_goto (pc := 805) (tgt := 1294) hx hb d_law_law_805 (by decide) ?_
  have q1 : cells + 0 + 0 = cells + 0 := by omega
  have q2 : slots + 0 + 0 = slots + 0 := by omega
  rw [q1, q2]
  exact kk k ta2 ws2 H2 locs2 hP2 hD2 hS2 ⟨hth2, ⟨hle2 _ _ (hle1 _ _ a1), hle2 _ _ (hle1 _ _ a2), hle2 _ _ (hle1 _ _ a3), hk⟩, hrd, F_HI, F_HL, F_HY6, F_RO, F_PT, F_LE6, F_TA6, F_TE6⟩ (fun q => tm17 (tn17 q)) (fun q => tm20 (tn20 q))
set_option maxRecDepth 100000 in
set_option maxHeartbeats 4000000 in
/-- draw -/
theorem lc_draw_d {p : Program} {e : Env} {s : State} {m : MethodId} {below : List Frame} {meth : Method} {c : Code} {l : Launch} {b L : Nat} {xs : Nat → Int32} (C0 : lw_At p s m meth c b L xs) (hL : L ≤ 3072) {D : va_G} {kA : Nat → ClassId} (hK : va_K D classes (TY kA) s) (hN : nsr kA (fun q : Nat => s.heap.size ≤ q) s) (h_Ho_draw_at_d : ct_ok PRD l D kA GG y_Ho_draw_at_d z_Ho_draw_at_d e_Ho_draw_at_d) (h_Mo_draw : ct_ok PRD l D kA GG y_Mo_draw z_Mo_draw e_Mo_draw) {h1 h2 rd i n : Nat} (hi : i + 6 ≤ L) {ta : Nat → Option Nat} {ws : va_W} {H : Heap} {locs : List Loc} {ls : Array Slot} {cells slots : Nat} (hP : va_P D classes ws H) (hD : va_D (fun q : Nat => s.heap.size ≤ q) ws) (hS : va_S (fun q : Nat => s.heap.size ≤ q) s.heap H locs) (hI : LI kA h1 h2 rd i n ta ws) (hl : lv_has ls 4 [(3, .int (nI i)), (2, .ref h2), (1, .ref h1), (0, .ref b)]) (hc : cells + 32 ≤ 60000) (hs : slots + 26011 ≤ 8922250) (ha1 : 0 ≤ (xs (i + 1)).toInt ∧ (xs (i + 1)).toInt ≤ 3) (ha2 : 0 ≤ (xs (i + 2)).toInt ∧ (xs (i + 2)).toInt ≤ 0) (hx0 : fc_m PRD 20 [.ref h1, .int (xs (i + 1))] [51, 0, 0, 1, 4000000000, 0, 2, 0, 1, 14, 0, 0, 4000, 1, 1] ws) (kk : ∀ (k : Nat) (ta : Nat → Option Nat) (w2 : va_W) (H : Heap) (locs : List Loc), va_P D classes w2 H → va_D (fun q : Nat => s.heap.size ≤ q) w2 → va_S (fun q : Nat => s.heap.size ≤ q) s.heap H locs → LI kA h1 h2 rd (i + 6) k ta w2 → TN w2 h1 17 → (TN ws h1 20 → TN w2 h1 20) → W p l e room_1 s m #[Value.ref b] below meth c H locs (cells + 32) (slots + 26011) (lw_Z below #[Value.ref b] s) (F0 m 1294 ls [])) : W p l e room_1 s m #[Value.ref b] below meth c H locs cells slots (lw_Z below #[Value.ref b] s) (F0 m 765 ls []) := by
  obtain ⟨hx, hb, hr, hml, hown, hts0, hX, hbl, hlocks, hgv⟩ := id C0
  have hts : ∀ w ∈ lw_g, w.before #[Value.ref b] s = true := fun w h => hts0 w (lw_gt h)
  have X : cx p s m #[Value.ref b] meth c b_law_law 4 ret "DrawingHouseLaw" meth.name := ⟨hx, hb, hml, hown, hts, hr, hlocks, rfl⟩
  obtain ⟨A, hAe⟩ : ∃ A : Nat → Prop, A = fun q : Nat => s.heap.size ≤ q := ⟨_, rfl⟩
  have hA : ∀ q : Nat, s.heap.size ≤ q → A q := fun q h => by rw [hAe]; exact h
  have hbA : ¬ A b := by rw [hAe]; exact Nat.not_le.mpr hbl
  rw [← hAe] at hD hS hN kk
  obtain ⟨hth, ⟨a1, a2, a3, hn⟩, hrd, F_HI, F_HL, F_HY, F_RO, F_PT, F_LE, F_TA, F_TE⟩ := hI
  obtain ⟨k, hk, hkk⟩ : ∃ k : Nat, k ≤ 2000 ∧ k = n := ⟨n, hn, rfl⟩
  obtain ⟨vt, hvt, hvk⟩ := L_fdx hth a1 (k := 17) (t := (3, 0, 0, [4])) rfl
  have henv : sy_env ta L_env (L_vs h1 h2 rd i n k) := L_envs a1 a2 a3 (by omega) hn hk
  refine lv_aload_n (pc := 765) hx hb d_law_law_765 rfl (lv_at hl 2 rfl) ?_
  refine lv_aload_n (pc := 766) hx hb d_law_law_766 rfl (lv_at hl 3 rfl) ?_
  refine lv_iload_n (pc := 767) hx hb d_law_law_767 rfl (lv_at hl 0 rfl) ?_
  refine lv_iconst (pc := 768) (v := 1) hx hb d_law_law_768 (by decide) ?_
  refine k_add (pc := 769) (x := i) (y := 1) hx hb d_law_law_769 ?_
  refine sc_ld (pc := 770) (j := i + 1) hx hb hX hbl hbA hS (by omega) (by omega) d_law_law_770 ?_
  refine lv_aload_n (pc := 771) hx hb d_law_law_771 rfl (lv_at hl 3 rfl) ?_
  refine lv_iload_n (pc := 772) hx hb d_law_law_772 rfl (lv_at hl 0 rfl) ?_
  refine lv_iconst (pc := 773) (v := 2) hx hb d_law_law_773 (by decide) ?_
  refine k_add (pc := 774) (x := i) (y := 2) hx hb d_law_law_774 ?_
  refine sc_ld (pc := 775) (j := i + 2) hx hb hX hbl hbA hS (by omega) (by omega) d_law_law_775 ?_
  refine lv_aload_n (pc := 776) hx hb d_law_law_776 rfl (lv_at hl 3 rfl) ?_
  refine lv_iload_n (pc := 777) hx hb d_law_law_777 rfl (lv_at hl 0 rfl) ?_
  refine lv_iconst (pc := 778) (v := 3) hx hb d_law_law_778 (by decide) ?_
  refine k_add (pc := 779) (x := i) (y := 3) hx hb d_law_law_779 ?_
  refine sc_ld (pc := 780) (j := i + 3) hx hb hX hbl hbA hS (by omega) (by omega) d_law_law_780 ?_
  refine W.eq (g2 := F0 m 781 ls (List.reverse [.ref h1, .int (xs (i + 1)), .int (xs (i + 2)), .int (xs (i + 3))] ++ [])) rfl ?_
  refine (cl_virtual (y := y_Ho_draw_at_d) (ci := 12) rfl rfl ⟨_, _, rfl⟩ (by decide +kernel) h_Ho_draw_at_d wm_1185 wm_1 wm_1182 wm_1183 wm_1184 ⟨by decide, by decide, by decide +kernel⟩ (by decide) : cl_ok PRD l D kA GG "DrawingHouseLaw" _ _ e_Ho_draw_at_d) p e room_1 s m #[Value.ref b] below meth c H locs cells slots (lw_Z below #[Value.ref b] s) b_law_law 781 4 ret meth.name A ws ta ls [.ref h1, .int (xs (i + 1)), .int (xs (i + 2)), .int (xs (i + 3))] [vt] [.int (nI i)] [] X hK hN hA hP hD hS hth (ag_c (tv_rf a1) (ag_c (Or.inl ⟨rfl, _, rfl, ha1.1, ha1.2⟩) (ag_c (Or.inl ⟨rfl, _, rfl, ha2.1, ha2.2⟩) (ag_c tv_top (ag_n))))) (gv_fd hvt hvk) (ag_c (tv_nI (show i ≤ 3066 by omega) (by decide)) (ag_n)) (show ∀ f ∈ ([(20, [0], [62, 0]), (20, [0], [62, 1000000]), (20, [0, 5], [62, 2000000]), (20, [0, 1], [51, 0, 0, 1, 4000000000, 0, 2, 0, 1, 14, 0, 0, 4000, 1, 1])] : List fc_T), fc_1 PRD f ws ([.ref h1, .int (xs (i + 1)), .int (xs (i + 2)), .int (xs (i + 3))] ++ [vt] ++ [.int (nI i)]) from (List.forall_mem_cons.mpr ⟨⟨nf_in (N := 6) rfl rfl, F_HI⟩, (List.forall_mem_cons.mpr ⟨⟨nf_in (N := 6) rfl rfl, F_HL⟩, (List.forall_mem_cons.mpr ⟨⟨nf_in (N := 6) rfl rfl, F_HY⟩, (List.forall_mem_cons.mpr ⟨⟨nf_in (N := 6) rfl rfl, hx0⟩, (fun _ h => by cases h)⟩)⟩)⟩)⟩)) (by first | decide | exact Nat.le_of_ble_eq_true rfl) (by first | decide | exact Nat.le_of_ble_eq_true rfl) (by first | decide | exact Nat.le_of_ble_eq_true rfl) (show cells + 32 ≤ 60000 by omega) (show slots + 26011 ≤ 8922250 by omega) hl.1 d_law_law_781 (fun ta1 ws1 H1 locs1 r hle1 hth1 hP1 hD1 hS1 hrt hpo _ hkp => ?_)
  obtain ⟨x1, rfl⟩ := rt_i rfl hrt
  have hpost : ∀ f ∈ ([(20, [0], [62, 0]), (20, [0], [62, 1000000]), (20, [0, 5], [62, 2000006])] : List fc_T), fc_1 PRD f ws1 ([.ref h1, .int (xs (i + 1)), .int (xs (i + 2)), .int (xs (i + 3))] ++ [vt] ++ [.int (nI i)] ++ [.int x1]) := hpo.1
  have hkeep := L_keep (M := [(20, [0], [62, 0]), (20, [0], [62, 1000000]), (20, [0, 2], [62, 2000000]), (20, [1], [60, 0, 3, 198, 2, 3, 4]), (20, [1], [60, 0, 3, 367, 110, 111, 112]), (20, [3, 4], [50, 1, 0, 1, 1, 3, 2, 0, 1, 1, 1]), (20, [1, 4], [50, 1, 0, 0, 1, 3, 2, 0, 0, 1, 1]), (20, [1, 3, 4], [60, 0, 2, 1109, 1, 1000])]) (S := [(20, [1], [60, 0, 3, 198, 2, 3, 4]), (20, [1], [60, 0, 3, 367, 110, 111, 112]), (20, [3, 4], [50, 1, 0, 1, 1, 3, 2, 0, 1, 1, 1]), (20, [1, 4], [50, 1, 0, 0, 1, 3, 2, 0, 0, 1, 1]), (20, [1, 3, 4], [60, 0, 2, 1109, 1, 1000])]) hth henv hD hle1 hth1 hD1 hkp (by decide +kernel) (List.forall_mem_cons.mpr ⟨F_HI, (List.forall_mem_cons.mpr ⟨F_HL, (List.forall_mem_cons.mpr ⟨F_HY, (List.forall_mem_cons.mpr ⟨F_RO, (List.forall_mem_cons.mpr ⟨F_PT, (List.forall_mem_cons.mpr ⟨F_LE, (List.forall_mem_cons.mpr ⟨F_TA, (List.forall_mem_cons.mpr ⟨F_TE, (fun _ h => by cases h)⟩)⟩)⟩)⟩)⟩)⟩)⟩)⟩)
  have G_RO : fc_m PRD 20 [.ref h2] [60, 0, 3, 198, 2, 3, 4] ws1 := hkeep _ List.mem_cons_self
  have G_PT : fc_m PRD 20 [.ref h2] [60, 0, 3, 367, 110, 111, 112] ws1 := hkeep _ (List.mem_cons_of_mem _ List.mem_cons_self)
  have G_LE : fc_m PRD 20 [.ref rd, .int (nI n)] [50, 1, 0, 1, 1, 3, 2, 0, 1, 1, 1] ws1 := hkeep _ (List.mem_cons_of_mem _ (List.mem_cons_of_mem _ List.mem_cons_self))
  have G_TA : fc_m PRD 20 [.ref h2, .int (nI n)] [50, 1, 0, 0, 1, 3, 2, 0, 0, 1, 1] ws1 := hkeep _ (List.mem_cons_of_mem _ (List.mem_cons_of_mem _ (List.mem_cons_of_mem _ List.mem_cons_self)))
  have G_TE : fc_m PRD 20 [.ref h2, .ref rd, .int (nI n)] [60, 0, 2, 1109, 1, 1000] ws1 := hkeep _ (List.mem_cons_of_mem _ (List.mem_cons_of_mem _ (List.mem_cons_of_mem _ (List.mem_cons_of_mem _ List.mem_cons_self))))
  have G_HI : fc_m PRD 20 [.ref h1] [62, 0] ws1 := (hpost _ List.mem_cons_self).2
  have G_HL : fc_m PRD 20 [.ref h1] [62, 1000000] ws1 := (hpost _ (List.mem_cons_of_mem _ List.mem_cons_self)).2
  have G_HY6 : fc_m PRD 20 [.ref h1, .int (nI (i + 6))] [62, 2000000] ws1 := by have z : HY ws1 (.ref h1) ((nI i).toInt + ((2000006 : Nat) - 2000000 : Int)) := (hpost _ (List.mem_cons_of_mem _ (List.mem_cons_of_mem _ List.mem_cons_self))).2; show HY ws1 (.ref h1) ((nI (i + 6)).toInt + ((2000000 : Nat) - 2000000 : Int)); rw [nI_toInt (by omega)] at z ⊢; exact hy_le z (by omega)
  have G_LE6 : fc_m PRD 20 [.ref rd, .int (nI k)] [50, 1, 0, 1, 1, 3, 2, 0, 1, 1, 1] ws1 := by rw [hkk]; exact G_LE
  have hrd : L_rd ws1 h1 rd := L_rdk hrd a1 hkp (by decide +kernel)
  have tn17 : TN ws1 h1 17 := TN_pa hpo (by decide +kernel)
  have tn20 : TN ws h1 20 → TN ws1 h1 20 := TN_kp a1 hkp (by decide +kernel)
  have F_HI := G_HI
  have F_HL := G_HL
  have F_HY6 := G_HY6
  have F_RO := G_RO
  have F_PT := G_PT
  have F_LE6 := G_LE6
  have F_TA := G_TA
  have F_TE := G_TE
  show W p l e room_1 s m #[Value.ref b] below meth c H1 locs1 (cells + 32) (slots + 26011) (lw_Z below #[Value.ref b] s) (F0 m 784 ls [.int x1])
  have hS := hS1
  refine lv_pop (pc := 784) hx hb d_law_law_784 rfl ?_
  refine lv_aload_n (pc := 785) hx hb d_law_law_785 rfl (lv_at hl 1 rfl) ?_
  refine lv_aload_n (pc := 786) hx hb d_law_law_786 rfl (lv_at hl 3 rfl) ?_
  refine lv_iload_n (pc := 787) hx hb d_law_law_787 rfl (lv_at hl 0 rfl) ?_
  refine lv_iconst (pc := 788) (v := 1) hx hb d_law_law_788 (by decide) ?_
  refine k_add (pc := 789) (x := i) (y := 1) hx hb d_law_law_789 ?_
  refine sc_ld (pc := 790) (j := i + 1) hx hb hX hbl hbA hS (by omega) (by omega) d_law_law_790 ?_
  refine lv_aload_n (pc := 791) hx hb d_law_law_791 rfl (lv_at hl 3 rfl) ?_
  refine lv_iload_n (pc := 792) hx hb d_law_law_792 rfl (lv_at hl 0 rfl) ?_
  refine lv_iconst (pc := 793) (v := 2) hx hb d_law_law_793 (by decide) ?_
  refine k_add (pc := 794) (x := i) (y := 2) hx hb d_law_law_794 ?_
  refine sc_ld (pc := 795) (j := i + 2) hx hb hX hbl hbA hS (by omega) (by omega) d_law_law_795 ?_
  refine lv_aload_n (pc := 796) hx hb d_law_law_796 rfl (lv_at hl 3 rfl) ?_
  refine lv_iload_n (pc := 797) hx hb d_law_law_797 rfl (lv_at hl 0 rfl) ?_
  refine lv_iconst (pc := 798) (v := 3) hx hb d_law_law_798 (by decide) ?_
  refine k_add (pc := 799) (x := i) (y := 3) hx hb d_law_law_799 ?_
  refine sc_ld (pc := 800) (j := i + 3) hx hb hX hbl hbA hS (by omega) (by omega) d_law_law_800 ?_
  refine W.eq (g2 := F0 m 801 ls (List.reverse [.ref h2, .int (xs (i + 1)), .int (xs (i + 2)), .int (xs (i + 3))] ++ [])) rfl ?_
  refine (cl_virtual (y := y_Mo_draw) (ci := 13) rfl rfl ⟨_, _, rfl⟩ (by decide +kernel) h_Mo_draw wm_3367 wm_9 wm_3364 wm_3365 wm_3366 ⟨by decide, by decide, by decide +kernel⟩ (by decide) : cl_ok PRD l D kA GG "DrawingHouseLaw" _ _ e_Mo_draw) p e room_1 s m #[Value.ref b] below meth c H1 locs1 (cells + 32) (slots + 26011) (lw_Z below #[Value.ref b] s) b_law_law 801 4 ret meth.name A ws1 ta1 ls [.ref h2, .int (xs (i + 1)), .int (xs (i + 2)), .int (xs (i + 3))] [] [] [] X hK hN hA hP1 hD1 hS1 hth1 (ag_c (tv_rf (hle1 _ _ a2)) (ag_c tv_top (ag_c tv_top (ag_c tv_top (ag_n))))) (gv_n) (ag_n) (show ∀ f ∈ ([(20, [0], [60, 0, 3, 198, 2, 3, 4]), (20, [0], [60, 0, 3, 367, 110, 111, 112])] : List fc_T), fc_1 PRD f ws1 ([.ref h2, .int (xs (i + 1)), .int (xs (i + 2)), .int (xs (i + 3))] ++ [] ++ []) from (List.forall_mem_cons.mpr ⟨⟨nf_in (N := 4) rfl rfl, F_RO⟩, (List.forall_mem_cons.mpr ⟨⟨nf_in (N := 4) rfl rfl, F_PT⟩, (fun _ h => by cases h)⟩)⟩)) (by first | decide | exact Nat.le_of_ble_eq_true rfl) (by first | decide | exact Nat.le_of_ble_eq_true rfl) (by first | decide | exact Nat.le_of_ble_eq_true rfl) (show (cells + 32) + 0 ≤ 60000 by omega) (show (slots + 26011) + 0 ≤ 8922250 by omega) hl.1 d_law_law_801 (fun ta2 ws2 H2 locs2 r hle2 hth2 hP2 hD2 hS2 hrt hpo _ hkp => ?_)
  obtain ⟨x2, rfl⟩ := rt_i rfl hrt
  have hpost : ∀ f ∈ ([] : List fc_T), fc_1 PRD f ws2 ([.ref h2, .int (xs (i + 1)), .int (xs (i + 2)), .int (xs (i + 3))] ++ [] ++ [] ++ [.int x2]) := hpo.1
  have hkeep := L_keep (M := [(20, [0], [62, 0]), (20, [0], [62, 1000000]), (20, [0, 6], [62, 2000000]), (20, [1], [60, 0, 3, 198, 2, 3, 4]), (20, [1], [60, 0, 3, 367, 110, 111, 112]), (20, [3, 5], [50, 1, 0, 1, 1, 3, 2, 0, 1, 1, 1]), (20, [1, 4], [50, 1, 0, 0, 1, 3, 2, 0, 0, 1, 1]), (20, [1, 3, 4], [60, 0, 2, 1109, 1, 1000])]) (S := [(20, [0], [62, 0]), (20, [0], [62, 1000000]), (20, [0, 6], [62, 2000000]), (20, [1], [60, 0, 3, 198, 2, 3, 4]), (20, [1], [60, 0, 3, 367, 110, 111, 112]), (20, [3, 5], [50, 1, 0, 1, 1, 3, 2, 0, 1, 1, 1]), (20, [1, 4], [50, 1, 0, 0, 1, 3, 2, 0, 0, 1, 1]), (20, [1, 3, 4], [60, 0, 2, 1109, 1, 1000])]) hth1 (sy_env_up hle1 henv) hD1 hle2 hth2 hD2 hkp (by decide +kernel) (List.forall_mem_cons.mpr ⟨F_HI, (List.forall_mem_cons.mpr ⟨F_HL, (List.forall_mem_cons.mpr ⟨F_HY6, (List.forall_mem_cons.mpr ⟨F_RO, (List.forall_mem_cons.mpr ⟨F_PT, (List.forall_mem_cons.mpr ⟨F_LE6, (List.forall_mem_cons.mpr ⟨F_TA, (List.forall_mem_cons.mpr ⟨F_TE, (fun _ h => by cases h)⟩)⟩)⟩)⟩)⟩)⟩)⟩)⟩)
  have G_HI : fc_m PRD 20 [.ref h1] [62, 0] ws2 := hkeep _ List.mem_cons_self
  have G_HL : fc_m PRD 20 [.ref h1] [62, 1000000] ws2 := hkeep _ (List.mem_cons_of_mem _ List.mem_cons_self)
  have G_HY6 : fc_m PRD 20 [.ref h1, .int (nI (i + 6))] [62, 2000000] ws2 := hkeep _ (List.mem_cons_of_mem _ (List.mem_cons_of_mem _ List.mem_cons_self))
  have G_RO : fc_m PRD 20 [.ref h2] [60, 0, 3, 198, 2, 3, 4] ws2 := hkeep _ (List.mem_cons_of_mem _ (List.mem_cons_of_mem _ (List.mem_cons_of_mem _ List.mem_cons_self)))
  have G_PT : fc_m PRD 20 [.ref h2] [60, 0, 3, 367, 110, 111, 112] ws2 := hkeep _ (List.mem_cons_of_mem _ (List.mem_cons_of_mem _ (List.mem_cons_of_mem _ (List.mem_cons_of_mem _ List.mem_cons_self))))
  have G_LE6 : fc_m PRD 20 [.ref rd, .int (nI k)] [50, 1, 0, 1, 1, 3, 2, 0, 1, 1, 1] ws2 := hkeep _ (List.mem_cons_of_mem _ (List.mem_cons_of_mem _ (List.mem_cons_of_mem _ (List.mem_cons_of_mem _ (List.mem_cons_of_mem _ List.mem_cons_self)))))
  have G_TA : fc_m PRD 20 [.ref h2, .int (nI n)] [50, 1, 0, 0, 1, 3, 2, 0, 0, 1, 1] ws2 := hkeep _ (List.mem_cons_of_mem _ (List.mem_cons_of_mem _ (List.mem_cons_of_mem _ (List.mem_cons_of_mem _ (List.mem_cons_of_mem _ (List.mem_cons_of_mem _ List.mem_cons_self))))))
  have G_TE : fc_m PRD 20 [.ref h2, .ref rd, .int (nI n)] [60, 0, 2, 1109, 1, 1000] ws2 := hkeep _ (List.mem_cons_of_mem _ (List.mem_cons_of_mem _ (List.mem_cons_of_mem _ (List.mem_cons_of_mem _ (List.mem_cons_of_mem _ (List.mem_cons_of_mem _ (List.mem_cons_of_mem _ List.mem_cons_self)))))))
  have G_TA6 : fc_m PRD 20 [.ref h2, .int (nI k)] [50, 1, 0, 0, 1, 3, 2, 0, 0, 1, 1] ws2 := by rw [hkk]; exact G_TA
  have G_TE6 : fc_m PRD 20 [.ref h2, .ref rd, .int (nI k)] [60, 0, 2, 1109, 1, 1000] ws2 := by have z : TEQ (w_ei ws2 (w_ar ws2 (.ref h2) 1)) (w_ei ws2 (w_ar ws2 (.ref rd) 0)) (nI n).toInt := G_TE; have z2 : TEQ (w_ei ws2 (w_ar ws2 (.ref h2) 1)) (w_ei ws2 (w_ar ws2 (.ref rd) 0)) (nI k).toInt := L_tek z (show k ≤ n by omega) hn; exact z2
  have hrd : L_rd ws2 h1 rd := L_rdk hrd (hle1 _ _ a1) hkp (by decide +kernel)
  have tm17 : TN ws1 h1 17 → TN ws2 h1 17 := TN_kp (hle1 _ _ a1) hkp (by decide +kernel)
  have tm20 : TN ws1 h1 20 → TN ws2 h1 20 := TN_kp (hle1 _ _ a1) hkp (by decide +kernel)
  have F_HI := G_HI
  have F_HL := G_HL
  have F_HY6 := G_HY6
  have F_RO := G_RO
  have F_PT := G_PT
  have F_LE6 := G_LE6
  have F_TA6 := G_TA6
  have F_TE := G_TE
  have F_TE6 := G_TE6
  show W p l e room_1 s m #[Value.ref b] below meth c H2 locs2 (cells + 32 + 0) (slots + 26011 + 0) (lw_Z below #[Value.ref b] s) (F0 m 804 ls [.int x2])
  have hS := hS2
  refine lv_pop (pc := 804) hx hb d_law_law_804 rfl ?_
  refine lv_goto (pc := 805) (tgt := 1294) hx hb d_law_law_805 (by decide) ?_
  have q1 : cells + 32 + 0 = cells + 32 := by omega
  have q2 : slots + 26011 + 0 = slots + 26011 := by omega
  rw [q1, q2]
  exact kk k ta2 ws2 H2 locs2 hP2 hD2 hS2 ⟨hth2, ⟨hle2 _ _ (hle1 _ _ a1), hle2 _ _ (hle1 _ _ a2), hle2 _ _ (hle1 _ _ a3), hk⟩, hrd, F_HI, F_HL, F_HY6, F_RO, F_PT, F_LE6, F_TA6, F_TE6⟩ (tm17 tn17) (fun q => tm20 (tn20 q))
set_option maxRecDepth 100000 in
set_option maxHeartbeats 4000000 in
/-- at -/
theorem lc_at {p : Program} {e : Env} {s : State} {m : MethodId} {below : List Frame} {meth : Method} {c : Code} {l : Launch} {b L : Nat} {xs : Nat → Int32} (C0 : lw_At p s m meth c b L xs) (hL : L ≤ 3072) {D : va_G} {kA : Nat → ClassId} (hK : va_K D classes (TY kA) s) (hN : nsr kA (fun q : Nat => s.heap.size ≤ q) s) (h_Ho_at : ct_ok PRD l D kA GG y_Ho_at z_Ho_at e_Ho_at) (h_Mo_at2 : ct_ok PRD l D kA GG y_Mo_at2 z_Mo_at2 e_Mo_at2) {h1 h2 rd i n : Nat} (hi : i + 6 ≤ L) {ta : Nat → Option Nat} {ws : va_W} {H : Heap} {locs : List Loc} {ls : Array Slot} {cells slots : Nat} (hP : va_P D classes ws H) (hD : va_D (fun q : Nat => s.heap.size ≤ q) ws) (hS : va_S (fun q : Nat => s.heap.size ≤ q) s.heap H locs) (hI : LI kA h1 h2 rd i n ta ws) (hl : lv_has ls 4 [(3, .int (nI i)), (2, .ref h2), (1, .ref h1), (0, .ref b)]) (hc : cells + 0 ≤ 60000) (hs : slots + 0 ≤ 8922250) (kk : ∀ (k : Nat) (ta : Nat → Option Nat) (w2 : va_W) (H : Heap) (locs : List Loc), va_P D classes w2 H → va_D (fun q : Nat => s.heap.size ≤ q) w2 → va_S (fun q : Nat => s.heap.size ≤ q) s.heap H locs → LI kA h1 h2 rd (i + 6) k ta w2 → (TN ws h1 17 → TN w2 h1 17) → (TN ws h1 20 → TN w2 h1 20) → W p l e room_1 s m #[Value.ref b] below meth c H locs (cells + 0) (slots + 0) (lw_Z below #[Value.ref b] s) (F0 m 1294 ls [])) : W p l e room_1 s m #[Value.ref b] below meth c H locs cells slots (lw_Z below #[Value.ref b] s) (F0 m 808 ls []) := by
  obtain ⟨hx, hb, hr, hml, hown, hts0, hX, hbl, hlocks, hgv⟩ := id C0
  have hts : ∀ w ∈ lw_g, w.before #[Value.ref b] s = true := fun w h => hts0 w (lw_gt h)
  have X : cx p s m #[Value.ref b] meth c b_law_law 4 ret "DrawingHouseLaw" meth.name := ⟨hx, hb, hml, hown, hts, hr, hlocks, rfl⟩
  obtain ⟨A, hAe⟩ : ∃ A : Nat → Prop, A = fun q : Nat => s.heap.size ≤ q := ⟨_, rfl⟩
  have hA : ∀ q : Nat, s.heap.size ≤ q → A q := fun q h => by rw [hAe]; exact h
  have hbA : ¬ A b := by rw [hAe]; exact Nat.not_le.mpr hbl
  rw [← hAe] at hD hS hN kk
  obtain ⟨hth, ⟨a1, a2, a3, hn⟩, hrd, F_HI, F_HL, F_HY, F_RO, F_PT, F_LE, F_TA, F_TE⟩ := hI
  obtain ⟨k, hk, hkk⟩ : ∃ k : Nat, k ≤ 2000 ∧ k = n := ⟨n, hn, rfl⟩
  have henv : sy_env ta L_env (L_vs h1 h2 rd i n k) := L_envs a1 a2 a3 (by omega) hn hk
  refine lv_aload_n (pc := 808) hx hb d_law_law_808 rfl (lv_at hl 2 rfl) ?_
  refine lv_aload_n (pc := 809) hx hb d_law_law_809 rfl (lv_at hl 3 rfl) ?_
  refine lv_iload_n (pc := 810) hx hb d_law_law_810 rfl (lv_at hl 0 rfl) ?_
  refine lv_iconst (pc := 811) (v := 1) hx hb d_law_law_811 (by decide) ?_
  refine k_add (pc := 812) (x := i) (y := 1) hx hb d_law_law_812 ?_
  refine sc_ld (pc := 813) (j := i + 1) hx hb hX hbl hbA hS (by omega) (by omega) d_law_law_813 ?_
  refine lv_aload_n (pc := 814) hx hb d_law_law_814 rfl (lv_at hl 3 rfl) ?_
  refine lv_iload_n (pc := 815) hx hb d_law_law_815 rfl (lv_at hl 0 rfl) ?_
  refine lv_iconst (pc := 816) (v := 2) hx hb d_law_law_816 (by decide) ?_
  refine k_add (pc := 817) (x := i) (y := 2) hx hb d_law_law_817 ?_
  refine sc_ld (pc := 818) (j := i + 2) hx hb hX hbl hbA hS (by omega) (by omega) d_law_law_818 ?_
  refine lv_aload_n (pc := 819) hx hb d_law_law_819 rfl (lv_at hl 3 rfl) ?_
  refine lv_iload_n (pc := 820) hx hb d_law_law_820 rfl (lv_at hl 0 rfl) ?_
  refine lv_iconst (pc := 821) (v := 3) hx hb d_law_law_821 (by decide) ?_
  refine k_add (pc := 822) (x := i) (y := 3) hx hb d_law_law_822 ?_
  refine sc_ld (pc := 823) (j := i + 3) hx hb hX hbl hbA hS (by omega) (by omega) d_law_law_823 ?_
  refine lv_aload_n (pc := 824) hx hb d_law_law_824 rfl (lv_at hl 3 rfl) ?_
  refine lv_iload_n (pc := 825) hx hb d_law_law_825 rfl (lv_at hl 0 rfl) ?_
  refine lv_iconst (pc := 826) (v := 4) hx hb d_law_law_826 (by decide) ?_
  refine k_add (pc := 827) (x := i) (y := 4) hx hb d_law_law_827 ?_
  refine sc_ld (pc := 828) (j := i + 4) hx hb hX hbl hbA hS (by omega) (by omega) d_law_law_828 ?_
  refine W.eq (g2 := F0 m 829 ls (List.reverse [.ref h1, .int (xs (i + 1)), .int (xs (i + 2)), .int (xs (i + 3)), .int (xs (i + 4))] ++ [])) rfl ?_
  refine (cl_virtual (y := y_Ho_at) (ci := 12) rfl rfl ⟨_, _, rfl⟩ (by decide +kernel) h_Ho_at wm_1816 wm_1 wm_1813 wm_1814 wm_1815 ⟨by decide, by decide, by decide +kernel⟩ (by decide) : cl_ok PRD l D kA GG "DrawingHouseLaw" _ _ e_Ho_at) p e room_1 s m #[Value.ref b] below meth c H locs cells slots (lw_Z below #[Value.ref b] s) b_law_law 829 4 ret meth.name A ws ta ls [.ref h1, .int (xs (i + 1)), .int (xs (i + 2)), .int (xs (i + 3)), .int (xs (i + 4))] [] [] [] X hK hN hA hP hD hS hth (ag_c (tv_rf a1) (ag_c tv_top (ag_c tv_top (ag_c tv_top (ag_c tv_top (ag_n)))))) (gv_n) (ag_n) (fun _ h => by cases h) (by first | decide | exact Nat.le_of_ble_eq_true rfl) (by first | decide | exact Nat.le_of_ble_eq_true rfl) (by first | decide | exact Nat.le_of_ble_eq_true rfl) (show cells + 0 ≤ 60000 by omega) (show slots + 0 ≤ 8922250 by omega) hl.1 d_law_law_829 (fun ta1 ws1 H1 locs1 r hle1 hth1 hP1 hD1 hS1 hrt hpo _ hkp => ?_)
  obtain ⟨x1, rfl⟩ := rt_i rfl hrt
  have hpost : ∀ f ∈ ([] : List fc_T), fc_1 PRD f ws1 ([.ref h1, .int (xs (i + 1)), .int (xs (i + 2)), .int (xs (i + 3)), .int (xs (i + 4))] ++ [] ++ [] ++ [.int x1]) := hpo.1
  have hkeep := L_keep (M := [(20, [0], [62, 0]), (20, [0], [62, 1000000]), (20, [0, 2], [62, 2000000]), (20, [1], [60, 0, 3, 198, 2, 3, 4]), (20, [1], [60, 0, 3, 367, 110, 111, 112]), (20, [3, 4], [50, 1, 0, 1, 1, 3, 2, 0, 1, 1, 1]), (20, [1, 4], [50, 1, 0, 0, 1, 3, 2, 0, 0, 1, 1]), (20, [1, 3, 4], [60, 0, 2, 1109, 1, 1000])]) (S := [(20, [0], [62, 0]), (20, [0], [62, 1000000]), (20, [0, 2], [62, 2000000]), (20, [1], [60, 0, 3, 198, 2, 3, 4]), (20, [1], [60, 0, 3, 367, 110, 111, 112]), (20, [3, 4], [50, 1, 0, 1, 1, 3, 2, 0, 1, 1, 1]), (20, [1, 4], [50, 1, 0, 0, 1, 3, 2, 0, 0, 1, 1]), (20, [1, 3, 4], [60, 0, 2, 1109, 1, 1000])]) hth henv hD hle1 hth1 hD1 hkp (by decide +kernel) (List.forall_mem_cons.mpr ⟨F_HI, (List.forall_mem_cons.mpr ⟨F_HL, (List.forall_mem_cons.mpr ⟨F_HY, (List.forall_mem_cons.mpr ⟨F_RO, (List.forall_mem_cons.mpr ⟨F_PT, (List.forall_mem_cons.mpr ⟨F_LE, (List.forall_mem_cons.mpr ⟨F_TA, (List.forall_mem_cons.mpr ⟨F_TE, (fun _ h => by cases h)⟩)⟩)⟩)⟩)⟩)⟩)⟩)⟩)
  have G_HI : fc_m PRD 20 [.ref h1] [62, 0] ws1 := hkeep _ List.mem_cons_self
  have G_HL : fc_m PRD 20 [.ref h1] [62, 1000000] ws1 := hkeep _ (List.mem_cons_of_mem _ List.mem_cons_self)
  have G_HY : fc_m PRD 20 [.ref h1, .int (nI i)] [62, 2000000] ws1 := hkeep _ (List.mem_cons_of_mem _ (List.mem_cons_of_mem _ List.mem_cons_self))
  have G_RO : fc_m PRD 20 [.ref h2] [60, 0, 3, 198, 2, 3, 4] ws1 := hkeep _ (List.mem_cons_of_mem _ (List.mem_cons_of_mem _ (List.mem_cons_of_mem _ List.mem_cons_self)))
  have G_PT : fc_m PRD 20 [.ref h2] [60, 0, 3, 367, 110, 111, 112] ws1 := hkeep _ (List.mem_cons_of_mem _ (List.mem_cons_of_mem _ (List.mem_cons_of_mem _ (List.mem_cons_of_mem _ List.mem_cons_self))))
  have G_LE : fc_m PRD 20 [.ref rd, .int (nI n)] [50, 1, 0, 1, 1, 3, 2, 0, 1, 1, 1] ws1 := hkeep _ (List.mem_cons_of_mem _ (List.mem_cons_of_mem _ (List.mem_cons_of_mem _ (List.mem_cons_of_mem _ (List.mem_cons_of_mem _ List.mem_cons_self)))))
  have G_TA : fc_m PRD 20 [.ref h2, .int (nI n)] [50, 1, 0, 0, 1, 3, 2, 0, 0, 1, 1] ws1 := hkeep _ (List.mem_cons_of_mem _ (List.mem_cons_of_mem _ (List.mem_cons_of_mem _ (List.mem_cons_of_mem _ (List.mem_cons_of_mem _ (List.mem_cons_of_mem _ List.mem_cons_self))))))
  have G_TE : fc_m PRD 20 [.ref h2, .ref rd, .int (nI n)] [60, 0, 2, 1109, 1, 1000] ws1 := hkeep _ (List.mem_cons_of_mem _ (List.mem_cons_of_mem _ (List.mem_cons_of_mem _ (List.mem_cons_of_mem _ (List.mem_cons_of_mem _ (List.mem_cons_of_mem _ (List.mem_cons_of_mem _ List.mem_cons_self)))))))
  have G_HY6 : fc_m PRD 20 [.ref h1, .int (nI (i + 6))] [62, 2000000] ws1 := by have z : HY ws1 (.ref h1) ((nI i).toInt + ((2000000 : Nat) - 2000000 : Int)) := G_HY; show HY ws1 (.ref h1) ((nI (i + 6)).toInt + ((2000000 : Nat) - 2000000 : Int)); rw [nI_toInt (by omega)] at z ⊢; exact hy_le z (by omega)
  have G_LE6 : fc_m PRD 20 [.ref rd, .int (nI k)] [50, 1, 0, 1, 1, 3, 2, 0, 1, 1, 1] ws1 := by rw [hkk]; exact G_LE
  have hrd : L_rd ws1 h1 rd := L_rdk hrd a1 hkp (by decide +kernel)
  have tn17 : TN ws h1 17 → TN ws1 h1 17 := TN_kp a1 hkp (by decide +kernel)
  have tn20 : TN ws h1 20 → TN ws1 h1 20 := TN_kp a1 hkp (by decide +kernel)
  have F_HI := G_HI
  have F_HL := G_HL
  have F_HY6 := G_HY6
  have F_RO := G_RO
  have F_PT := G_PT
  have F_LE6 := G_LE6
  have F_TA := G_TA
  have F_TE := G_TE
  show W p l e room_1 s m #[Value.ref b] below meth c H1 locs1 (cells + 0) (slots + 0) (lw_Z below #[Value.ref b] s) (F0 m 832 ls [.int x1])
  have hS := hS1
  refine lv_pop (pc := 832) hx hb d_law_law_832 rfl ?_
  refine lv_aload_n (pc := 833) hx hb d_law_law_833 rfl (lv_at hl 1 rfl) ?_
  refine lv_aload_n (pc := 834) hx hb d_law_law_834 rfl (lv_at hl 3 rfl) ?_
  refine lv_iload_n (pc := 835) hx hb d_law_law_835 rfl (lv_at hl 0 rfl) ?_
  refine lv_iconst (pc := 836) (v := 1) hx hb d_law_law_836 (by decide) ?_
  refine k_add (pc := 837) (x := i) (y := 1) hx hb d_law_law_837 ?_
  refine sc_ld (pc := 838) (j := i + 1) hx hb hX hbl hbA hS (by omega) (by omega) d_law_law_838 ?_
  refine lv_aload_n (pc := 839) hx hb d_law_law_839 rfl (lv_at hl 3 rfl) ?_
  refine lv_iload_n (pc := 840) hx hb d_law_law_840 rfl (lv_at hl 0 rfl) ?_
  refine lv_iconst (pc := 841) (v := 2) hx hb d_law_law_841 (by decide) ?_
  refine k_add (pc := 842) (x := i) (y := 2) hx hb d_law_law_842 ?_
  refine sc_ld (pc := 843) (j := i + 2) hx hb hX hbl hbA hS (by omega) (by omega) d_law_law_843 ?_
  refine lv_aload_n (pc := 844) hx hb d_law_law_844 rfl (lv_at hl 3 rfl) ?_
  refine lv_iload_n (pc := 845) hx hb d_law_law_845 rfl (lv_at hl 0 rfl) ?_
  refine lv_iconst (pc := 846) (v := 3) hx hb d_law_law_846 (by decide) ?_
  refine k_add (pc := 847) (x := i) (y := 3) hx hb d_law_law_847 ?_
  refine sc_ld (pc := 848) (j := i + 3) hx hb hX hbl hbA hS (by omega) (by omega) d_law_law_848 ?_
  refine lv_aload_n (pc := 849) hx hb d_law_law_849 rfl (lv_at hl 3 rfl) ?_
  refine lv_iload_n (pc := 850) hx hb d_law_law_850 rfl (lv_at hl 0 rfl) ?_
  refine lv_iconst (pc := 851) (v := 4) hx hb d_law_law_851 (by decide) ?_
  refine k_add (pc := 852) (x := i) (y := 4) hx hb d_law_law_852 ?_
  refine sc_ld (pc := 853) (j := i + 4) hx hb hX hbl hbA hS (by omega) (by omega) d_law_law_853 ?_
  refine W.eq (g2 := F0 m 854 ls (List.reverse [.ref h2, .int (xs (i + 1)), .int (xs (i + 2)), .int (xs (i + 3)), .int (xs (i + 4))] ++ [])) rfl ?_
  refine (cl_virtual (y := y_Mo_at2) (ci := 13) rfl rfl ⟨_, _, rfl⟩ (by decide +kernel) h_Mo_at2 wm_3652 wm_9 wm_3649 wm_3650 wm_3651 ⟨by decide, by decide, by decide +kernel⟩ (by decide) : cl_ok PRD l D kA GG "DrawingHouseLaw" _ _ e_Mo_at2) p e room_1 s m #[Value.ref b] below meth c H1 locs1 (cells + 0) (slots + 0) (lw_Z below #[Value.ref b] s) b_law_law 854 4 ret meth.name A ws1 ta1 ls [.ref h2, .int (xs (i + 1)), .int (xs (i + 2)), .int (xs (i + 3)), .int (xs (i + 4))] [] [] [] X hK hN hA hP1 hD1 hS1 hth1 (ag_c (tv_rf (hle1 _ _ a2)) (ag_c tv_top (ag_c tv_top (ag_c tv_top (ag_c tv_top (ag_n)))))) (gv_n) (ag_n) (fun _ h => by cases h) (by first | decide | exact Nat.le_of_ble_eq_true rfl) (by first | decide | exact Nat.le_of_ble_eq_true rfl) (by first | decide | exact Nat.le_of_ble_eq_true rfl) (show (cells + 0) + 0 ≤ 60000 by omega) (show (slots + 0) + 0 ≤ 8922250 by omega) hl.1 d_law_law_854 (fun ta2 ws2 H2 locs2 r hle2 hth2 hP2 hD2 hS2 hrt hpo _ hkp => ?_)
  obtain ⟨x2, rfl⟩ := rt_i rfl hrt
  have hpost : ∀ f ∈ ([] : List fc_T), fc_1 PRD f ws2 ([.ref h2, .int (xs (i + 1)), .int (xs (i + 2)), .int (xs (i + 3)), .int (xs (i + 4))] ++ [] ++ [] ++ [.int x2]) := hpo.1
  have hkeep := L_keep (M := [(20, [0], [62, 0]), (20, [0], [62, 1000000]), (20, [0, 6], [62, 2000000]), (20, [1], [60, 0, 3, 198, 2, 3, 4]), (20, [1], [60, 0, 3, 367, 110, 111, 112]), (20, [3, 5], [50, 1, 0, 1, 1, 3, 2, 0, 1, 1, 1]), (20, [1, 4], [50, 1, 0, 0, 1, 3, 2, 0, 0, 1, 1]), (20, [1, 3, 4], [60, 0, 2, 1109, 1, 1000])]) (S := [(20, [0], [62, 0]), (20, [0], [62, 1000000]), (20, [0, 6], [62, 2000000]), (20, [1], [60, 0, 3, 198, 2, 3, 4]), (20, [1], [60, 0, 3, 367, 110, 111, 112]), (20, [3, 5], [50, 1, 0, 1, 1, 3, 2, 0, 1, 1, 1]), (20, [1, 4], [50, 1, 0, 0, 1, 3, 2, 0, 0, 1, 1]), (20, [1, 3, 4], [60, 0, 2, 1109, 1, 1000])]) hth1 (sy_env_up hle1 henv) hD1 hle2 hth2 hD2 hkp (by decide +kernel) (List.forall_mem_cons.mpr ⟨F_HI, (List.forall_mem_cons.mpr ⟨F_HL, (List.forall_mem_cons.mpr ⟨F_HY6, (List.forall_mem_cons.mpr ⟨F_RO, (List.forall_mem_cons.mpr ⟨F_PT, (List.forall_mem_cons.mpr ⟨F_LE6, (List.forall_mem_cons.mpr ⟨F_TA, (List.forall_mem_cons.mpr ⟨F_TE, (fun _ h => by cases h)⟩)⟩)⟩)⟩)⟩)⟩)⟩)⟩)
  have G_HI : fc_m PRD 20 [.ref h1] [62, 0] ws2 := hkeep _ List.mem_cons_self
  have G_HL : fc_m PRD 20 [.ref h1] [62, 1000000] ws2 := hkeep _ (List.mem_cons_of_mem _ List.mem_cons_self)
  have G_HY6 : fc_m PRD 20 [.ref h1, .int (nI (i + 6))] [62, 2000000] ws2 := hkeep _ (List.mem_cons_of_mem _ (List.mem_cons_of_mem _ List.mem_cons_self))
  have G_RO : fc_m PRD 20 [.ref h2] [60, 0, 3, 198, 2, 3, 4] ws2 := hkeep _ (List.mem_cons_of_mem _ (List.mem_cons_of_mem _ (List.mem_cons_of_mem _ List.mem_cons_self)))
  have G_PT : fc_m PRD 20 [.ref h2] [60, 0, 3, 367, 110, 111, 112] ws2 := hkeep _ (List.mem_cons_of_mem _ (List.mem_cons_of_mem _ (List.mem_cons_of_mem _ (List.mem_cons_of_mem _ List.mem_cons_self))))
  have G_LE6 : fc_m PRD 20 [.ref rd, .int (nI k)] [50, 1, 0, 1, 1, 3, 2, 0, 1, 1, 1] ws2 := hkeep _ (List.mem_cons_of_mem _ (List.mem_cons_of_mem _ (List.mem_cons_of_mem _ (List.mem_cons_of_mem _ (List.mem_cons_of_mem _ List.mem_cons_self)))))
  have G_TA : fc_m PRD 20 [.ref h2, .int (nI n)] [50, 1, 0, 0, 1, 3, 2, 0, 0, 1, 1] ws2 := hkeep _ (List.mem_cons_of_mem _ (List.mem_cons_of_mem _ (List.mem_cons_of_mem _ (List.mem_cons_of_mem _ (List.mem_cons_of_mem _ (List.mem_cons_of_mem _ List.mem_cons_self))))))
  have G_TE : fc_m PRD 20 [.ref h2, .ref rd, .int (nI n)] [60, 0, 2, 1109, 1, 1000] ws2 := hkeep _ (List.mem_cons_of_mem _ (List.mem_cons_of_mem _ (List.mem_cons_of_mem _ (List.mem_cons_of_mem _ (List.mem_cons_of_mem _ (List.mem_cons_of_mem _ (List.mem_cons_of_mem _ List.mem_cons_self)))))))
  have G_TA6 : fc_m PRD 20 [.ref h2, .int (nI k)] [50, 1, 0, 0, 1, 3, 2, 0, 0, 1, 1] ws2 := by rw [hkk]; exact G_TA
  have G_TE6 : fc_m PRD 20 [.ref h2, .ref rd, .int (nI k)] [60, 0, 2, 1109, 1, 1000] ws2 := by have z : TEQ (w_ei ws2 (w_ar ws2 (.ref h2) 1)) (w_ei ws2 (w_ar ws2 (.ref rd) 0)) (nI n).toInt := G_TE; have z2 : TEQ (w_ei ws2 (w_ar ws2 (.ref h2) 1)) (w_ei ws2 (w_ar ws2 (.ref rd) 0)) (nI k).toInt := L_tek z (show k ≤ n by omega) hn; exact z2
  have hrd : L_rd ws2 h1 rd := L_rdk hrd (hle1 _ _ a1) hkp (by decide +kernel)
  have tm17 : TN ws1 h1 17 → TN ws2 h1 17 := TN_kp (hle1 _ _ a1) hkp (by decide +kernel)
  have tm20 : TN ws1 h1 20 → TN ws2 h1 20 := TN_kp (hle1 _ _ a1) hkp (by decide +kernel)
  have F_HI := G_HI
  have F_HL := G_HL
  have F_HY6 := G_HY6
  have F_RO := G_RO
  have F_PT := G_PT
  have F_LE6 := G_LE6
  have F_TA6 := G_TA6
  have F_TE := G_TE
  have F_TE6 := G_TE6
  show W p l e room_1 s m #[Value.ref b] below meth c H2 locs2 (cells + 0 + 0) (slots + 0 + 0) (lw_Z below #[Value.ref b] s) (F0 m 857 ls [.int x2])
  have hS := hS2
  refine lv_pop (pc := 857) hx hb d_law_law_857 rfl ?_
  refine lv_goto (pc := 858) (tgt := 1294) hx hb d_law_law_858 (by decide) ?_
  have q1 : cells + 0 + 0 = cells + 0 := by omega
  have q2 : slots + 0 + 0 = slots + 0 := by omega
  rw [q1, q2]
  exact kk k ta2 ws2 H2 locs2 hP2 hD2 hS2 ⟨hth2, ⟨hle2 _ _ (hle1 _ _ a1), hle2 _ _ (hle1 _ _ a2), hle2 _ _ (hle1 _ _ a3), hk⟩, hrd, F_HI, F_HL, F_HY6, F_RO, F_PT, F_LE6, F_TA6, F_TE6⟩ (fun q => tm17 (tn17 q)) (fun q => tm20 (tn20 q))
set_option maxRecDepth 100000 in
set_option maxHeartbeats 4000000 in
/-- told -/
theorem lc_told {p : Program} {e : Env} {s : State} {m : MethodId} {below : List Frame} {meth : Method} {c : Code} {l : Launch} {b L : Nat} {xs : Nat → Int32} (C0 : lw_At p s m meth c b L xs) (hL : L ≤ 3072) {D : va_G} {kA : Nat → ClassId} (hK : va_K D classes (TY kA) s) (hN : nsr kA (fun q : Nat => s.heap.size ≤ q) s) (h_Ho_told : ct_ok PRD l D kA GG y_Ho_told z_Ho_told e_Ho_told) (h_Mo_told : ct_ok PRD l D kA GG y_Mo_told z_Mo_told e_Mo_told) {h1 h2 rd i n : Nat} (hi : i + 6 ≤ L) {ta : Nat → Option Nat} {ws : va_W} {H : Heap} {locs : List Loc} {ls : Array Slot} {cells slots : Nat} (hP : va_P D classes ws H) (hD : va_D (fun q : Nat => s.heap.size ≤ q) ws) (hS : va_S (fun q : Nat => s.heap.size ≤ q) s.heap H locs) (hI : LI kA h1 h2 rd i n ta ws) (hl : lv_has ls 4 [(3, .int (nI i)), (2, .ref h2), (1, .ref h1), (0, .ref b)]) (hc : cells + 0 ≤ 60000) (hs : slots + 0 ≤ 8922250) (kk : ∀ (k : Nat) (ta : Nat → Option Nat) (w2 : va_W) (H : Heap) (locs : List Loc), va_P D classes w2 H → va_D (fun q : Nat => s.heap.size ≤ q) w2 → va_S (fun q : Nat => s.heap.size ≤ q) s.heap H locs → LI kA h1 h2 rd (i + 6) k ta w2 → (TN ws h1 17 → TN w2 h1 17) → (TN ws h1 20 → TN w2 h1 20) → W p l e room_1 s m #[Value.ref b] below meth c H locs (cells + 0) (slots + 0) (lw_Z below #[Value.ref b] s) (F0 m 1294 ls [])) : W p l e room_1 s m #[Value.ref b] below meth c H locs cells slots (lw_Z below #[Value.ref b] s) (F0 m 861 ls []) := by
  obtain ⟨hx, hb, hr, hml, hown, hts0, hX, hbl, hlocks, hgv⟩ := id C0
  have hts : ∀ w ∈ lw_g, w.before #[Value.ref b] s = true := fun w h => hts0 w (lw_gt h)
  have X : cx p s m #[Value.ref b] meth c b_law_law 4 ret "DrawingHouseLaw" meth.name := ⟨hx, hb, hml, hown, hts, hr, hlocks, rfl⟩
  obtain ⟨A, hAe⟩ : ∃ A : Nat → Prop, A = fun q : Nat => s.heap.size ≤ q := ⟨_, rfl⟩
  have hA : ∀ q : Nat, s.heap.size ≤ q → A q := fun q h => by rw [hAe]; exact h
  have hbA : ¬ A b := by rw [hAe]; exact Nat.not_le.mpr hbl
  rw [← hAe] at hD hS hN kk
  obtain ⟨hth, ⟨a1, a2, a3, hn⟩, hrd, F_HI, F_HL, F_HY, F_RO, F_PT, F_LE, F_TA, F_TE⟩ := hI
  obtain ⟨k, hk, hkk⟩ : ∃ k : Nat, k ≤ 2000 ∧ k = n := ⟨n, hn, rfl⟩
  have henv : sy_env ta L_env (L_vs h1 h2 rd i n k) := L_envs a1 a2 a3 (by omega) hn hk
  refine lv_aload_n (pc := 861) hx hb d_law_law_861 rfl (lv_at hl 2 rfl) ?_
  refine lv_aload_n (pc := 862) hx hb d_law_law_862 rfl (lv_at hl 3 rfl) ?_
  refine lv_iload_n (pc := 863) hx hb d_law_law_863 rfl (lv_at hl 0 rfl) ?_
  refine lv_iconst (pc := 864) (v := 1) hx hb d_law_law_864 (by decide) ?_
  refine k_add (pc := 865) (x := i) (y := 1) hx hb d_law_law_865 ?_
  refine sc_ld (pc := 866) (j := i + 1) hx hb hX hbl hbA hS (by omega) (by omega) d_law_law_866 ?_
  refine lv_aload_n (pc := 867) hx hb d_law_law_867 rfl (lv_at hl 3 rfl) ?_
  refine lv_iload_n (pc := 868) hx hb d_law_law_868 rfl (lv_at hl 0 rfl) ?_
  refine lv_iconst (pc := 869) (v := 2) hx hb d_law_law_869 (by decide) ?_
  refine k_add (pc := 870) (x := i) (y := 2) hx hb d_law_law_870 ?_
  refine sc_ld (pc := 871) (j := i + 2) hx hb hX hbl hbA hS (by omega) (by omega) d_law_law_871 ?_
  refine lv_aload_n (pc := 872) hx hb d_law_law_872 rfl (lv_at hl 3 rfl) ?_
  refine lv_iload_n (pc := 873) hx hb d_law_law_873 rfl (lv_at hl 0 rfl) ?_
  refine lv_iconst (pc := 874) (v := 3) hx hb d_law_law_874 (by decide) ?_
  refine k_add (pc := 875) (x := i) (y := 3) hx hb d_law_law_875 ?_
  refine sc_ld (pc := 876) (j := i + 3) hx hb hX hbl hbA hS (by omega) (by omega) d_law_law_876 ?_
  refine W.eq (g2 := F0 m 877 ls (List.reverse [.ref h1, .int (xs (i + 1)), .int (xs (i + 2)), .int (xs (i + 3))] ++ [])) rfl ?_
  refine (cl_virtual (y := y_Ho_told) (ci := 12) rfl rfl ⟨_, _, rfl⟩ (by decide +kernel) h_Ho_told wm_1828 wm_1 wm_1825 wm_1826 wm_1827 ⟨by decide, by decide, by decide +kernel⟩ (by decide) : cl_ok PRD l D kA GG "DrawingHouseLaw" _ _ e_Ho_told) p e room_1 s m #[Value.ref b] below meth c H locs cells slots (lw_Z below #[Value.ref b] s) b_law_law 877 4 ret meth.name A ws ta ls [.ref h1, .int (xs (i + 1)), .int (xs (i + 2)), .int (xs (i + 3))] [] [] [] X hK hN hA hP hD hS hth (ag_c (tv_rf a1) (ag_c tv_top (ag_c tv_top (ag_c tv_top (ag_n))))) (gv_n) (ag_n) (fun _ h => by cases h) (by first | decide | exact Nat.le_of_ble_eq_true rfl) (by first | decide | exact Nat.le_of_ble_eq_true rfl) (by first | decide | exact Nat.le_of_ble_eq_true rfl) (show cells + 0 ≤ 60000 by omega) (show slots + 0 ≤ 8922250 by omega) hl.1 d_law_law_877 (fun ta1 ws1 H1 locs1 r hle1 hth1 hP1 hD1 hS1 hrt hpo _ hkp => ?_)
  obtain ⟨x1, rfl⟩ := rt_i rfl hrt
  have hpost : ∀ f ∈ ([] : List fc_T), fc_1 PRD f ws1 ([.ref h1, .int (xs (i + 1)), .int (xs (i + 2)), .int (xs (i + 3))] ++ [] ++ [] ++ [.int x1]) := hpo.1
  have hkeep := L_keep (M := [(20, [0], [62, 0]), (20, [0], [62, 1000000]), (20, [0, 2], [62, 2000000]), (20, [1], [60, 0, 3, 198, 2, 3, 4]), (20, [1], [60, 0, 3, 367, 110, 111, 112]), (20, [3, 4], [50, 1, 0, 1, 1, 3, 2, 0, 1, 1, 1]), (20, [1, 4], [50, 1, 0, 0, 1, 3, 2, 0, 0, 1, 1]), (20, [1, 3, 4], [60, 0, 2, 1109, 1, 1000])]) (S := [(20, [0], [62, 0]), (20, [0], [62, 1000000]), (20, [0, 2], [62, 2000000]), (20, [1], [60, 0, 3, 198, 2, 3, 4]), (20, [1], [60, 0, 3, 367, 110, 111, 112]), (20, [3, 4], [50, 1, 0, 1, 1, 3, 2, 0, 1, 1, 1]), (20, [1, 4], [50, 1, 0, 0, 1, 3, 2, 0, 0, 1, 1]), (20, [1, 3, 4], [60, 0, 2, 1109, 1, 1000])]) hth henv hD hle1 hth1 hD1 hkp (by decide +kernel) (List.forall_mem_cons.mpr ⟨F_HI, (List.forall_mem_cons.mpr ⟨F_HL, (List.forall_mem_cons.mpr ⟨F_HY, (List.forall_mem_cons.mpr ⟨F_RO, (List.forall_mem_cons.mpr ⟨F_PT, (List.forall_mem_cons.mpr ⟨F_LE, (List.forall_mem_cons.mpr ⟨F_TA, (List.forall_mem_cons.mpr ⟨F_TE, (fun _ h => by cases h)⟩)⟩)⟩)⟩)⟩)⟩)⟩)⟩)
  have G_HI : fc_m PRD 20 [.ref h1] [62, 0] ws1 := hkeep _ List.mem_cons_self
  have G_HL : fc_m PRD 20 [.ref h1] [62, 1000000] ws1 := hkeep _ (List.mem_cons_of_mem _ List.mem_cons_self)
  have G_HY : fc_m PRD 20 [.ref h1, .int (nI i)] [62, 2000000] ws1 := hkeep _ (List.mem_cons_of_mem _ (List.mem_cons_of_mem _ List.mem_cons_self))
  have G_RO : fc_m PRD 20 [.ref h2] [60, 0, 3, 198, 2, 3, 4] ws1 := hkeep _ (List.mem_cons_of_mem _ (List.mem_cons_of_mem _ (List.mem_cons_of_mem _ List.mem_cons_self)))
  have G_PT : fc_m PRD 20 [.ref h2] [60, 0, 3, 367, 110, 111, 112] ws1 := hkeep _ (List.mem_cons_of_mem _ (List.mem_cons_of_mem _ (List.mem_cons_of_mem _ (List.mem_cons_of_mem _ List.mem_cons_self))))
  have G_LE : fc_m PRD 20 [.ref rd, .int (nI n)] [50, 1, 0, 1, 1, 3, 2, 0, 1, 1, 1] ws1 := hkeep _ (List.mem_cons_of_mem _ (List.mem_cons_of_mem _ (List.mem_cons_of_mem _ (List.mem_cons_of_mem _ (List.mem_cons_of_mem _ List.mem_cons_self)))))
  have G_TA : fc_m PRD 20 [.ref h2, .int (nI n)] [50, 1, 0, 0, 1, 3, 2, 0, 0, 1, 1] ws1 := hkeep _ (List.mem_cons_of_mem _ (List.mem_cons_of_mem _ (List.mem_cons_of_mem _ (List.mem_cons_of_mem _ (List.mem_cons_of_mem _ (List.mem_cons_of_mem _ List.mem_cons_self))))))
  have G_TE : fc_m PRD 20 [.ref h2, .ref rd, .int (nI n)] [60, 0, 2, 1109, 1, 1000] ws1 := hkeep _ (List.mem_cons_of_mem _ (List.mem_cons_of_mem _ (List.mem_cons_of_mem _ (List.mem_cons_of_mem _ (List.mem_cons_of_mem _ (List.mem_cons_of_mem _ (List.mem_cons_of_mem _ List.mem_cons_self)))))))
  have G_HY6 : fc_m PRD 20 [.ref h1, .int (nI (i + 6))] [62, 2000000] ws1 := by have z : HY ws1 (.ref h1) ((nI i).toInt + ((2000000 : Nat) - 2000000 : Int)) := G_HY; show HY ws1 (.ref h1) ((nI (i + 6)).toInt + ((2000000 : Nat) - 2000000 : Int)); rw [nI_toInt (by omega)] at z ⊢; exact hy_le z (by omega)
  have G_LE6 : fc_m PRD 20 [.ref rd, .int (nI k)] [50, 1, 0, 1, 1, 3, 2, 0, 1, 1, 1] ws1 := by rw [hkk]; exact G_LE
  have hrd : L_rd ws1 h1 rd := L_rdk hrd a1 hkp (by decide +kernel)
  have tn17 : TN ws h1 17 → TN ws1 h1 17 := TN_kp a1 hkp (by decide +kernel)
  have tn20 : TN ws h1 20 → TN ws1 h1 20 := TN_kp a1 hkp (by decide +kernel)
  have F_HI := G_HI
  have F_HL := G_HL
  have F_HY6 := G_HY6
  have F_RO := G_RO
  have F_PT := G_PT
  have F_LE6 := G_LE6
  have F_TA := G_TA
  have F_TE := G_TE
  show W p l e room_1 s m #[Value.ref b] below meth c H1 locs1 (cells + 0) (slots + 0) (lw_Z below #[Value.ref b] s) (F0 m 880 ls [.int x1])
  have hS := hS1
  refine lv_pop (pc := 880) hx hb d_law_law_880 rfl ?_
  refine lv_aload_n (pc := 881) hx hb d_law_law_881 rfl (lv_at hl 1 rfl) ?_
  refine lv_aload_n (pc := 882) hx hb d_law_law_882 rfl (lv_at hl 3 rfl) ?_
  refine lv_iload_n (pc := 883) hx hb d_law_law_883 rfl (lv_at hl 0 rfl) ?_
  refine lv_iconst (pc := 884) (v := 1) hx hb d_law_law_884 (by decide) ?_
  refine k_add (pc := 885) (x := i) (y := 1) hx hb d_law_law_885 ?_
  refine sc_ld (pc := 886) (j := i + 1) hx hb hX hbl hbA hS (by omega) (by omega) d_law_law_886 ?_
  refine lv_aload_n (pc := 887) hx hb d_law_law_887 rfl (lv_at hl 3 rfl) ?_
  refine lv_iload_n (pc := 888) hx hb d_law_law_888 rfl (lv_at hl 0 rfl) ?_
  refine lv_iconst (pc := 889) (v := 2) hx hb d_law_law_889 (by decide) ?_
  refine k_add (pc := 890) (x := i) (y := 2) hx hb d_law_law_890 ?_
  refine sc_ld (pc := 891) (j := i + 2) hx hb hX hbl hbA hS (by omega) (by omega) d_law_law_891 ?_
  refine lv_aload_n (pc := 892) hx hb d_law_law_892 rfl (lv_at hl 3 rfl) ?_
  refine lv_iload_n (pc := 893) hx hb d_law_law_893 rfl (lv_at hl 0 rfl) ?_
  refine lv_iconst (pc := 894) (v := 3) hx hb d_law_law_894 (by decide) ?_
  refine k_add (pc := 895) (x := i) (y := 3) hx hb d_law_law_895 ?_
  refine sc_ld (pc := 896) (j := i + 3) hx hb hX hbl hbA hS (by omega) (by omega) d_law_law_896 ?_
  refine W.eq (g2 := F0 m 897 ls (List.reverse [.ref h2, .int (xs (i + 1)), .int (xs (i + 2)), .int (xs (i + 3))] ++ [])) rfl ?_
  refine (cl_virtual (y := y_Mo_told) (ci := 13) rfl rfl ⟨_, _, rfl⟩ (by decide +kernel) h_Mo_told wm_3657 wm_9 wm_3654 wm_3655 wm_3656 ⟨by decide, by decide, by decide +kernel⟩ (by decide) : cl_ok PRD l D kA GG "DrawingHouseLaw" _ _ e_Mo_told) p e room_1 s m #[Value.ref b] below meth c H1 locs1 (cells + 0) (slots + 0) (lw_Z below #[Value.ref b] s) b_law_law 897 4 ret meth.name A ws1 ta1 ls [.ref h2, .int (xs (i + 1)), .int (xs (i + 2)), .int (xs (i + 3))] [] [] [] X hK hN hA hP1 hD1 hS1 hth1 (ag_c (tv_rf (hle1 _ _ a2)) (ag_c tv_top (ag_c tv_top (ag_c tv_top (ag_n))))) (gv_n) (ag_n) (fun _ h => by cases h) (by first | decide | exact Nat.le_of_ble_eq_true rfl) (by first | decide | exact Nat.le_of_ble_eq_true rfl) (by first | decide | exact Nat.le_of_ble_eq_true rfl) (show (cells + 0) + 0 ≤ 60000 by omega) (show (slots + 0) + 0 ≤ 8922250 by omega) hl.1 d_law_law_897 (fun ta2 ws2 H2 locs2 r hle2 hth2 hP2 hD2 hS2 hrt hpo _ hkp => ?_)
  obtain ⟨x2, rfl⟩ := rt_i rfl hrt
  have hpost : ∀ f ∈ ([] : List fc_T), fc_1 PRD f ws2 ([.ref h2, .int (xs (i + 1)), .int (xs (i + 2)), .int (xs (i + 3))] ++ [] ++ [] ++ [.int x2]) := hpo.1
  have hkeep := L_keep (M := [(20, [0], [62, 0]), (20, [0], [62, 1000000]), (20, [0, 6], [62, 2000000]), (20, [1], [60, 0, 3, 198, 2, 3, 4]), (20, [1], [60, 0, 3, 367, 110, 111, 112]), (20, [3, 5], [50, 1, 0, 1, 1, 3, 2, 0, 1, 1, 1]), (20, [1, 4], [50, 1, 0, 0, 1, 3, 2, 0, 0, 1, 1]), (20, [1, 3, 4], [60, 0, 2, 1109, 1, 1000])]) (S := [(20, [0], [62, 0]), (20, [0], [62, 1000000]), (20, [0, 6], [62, 2000000]), (20, [1], [60, 0, 3, 198, 2, 3, 4]), (20, [1], [60, 0, 3, 367, 110, 111, 112]), (20, [3, 5], [50, 1, 0, 1, 1, 3, 2, 0, 1, 1, 1]), (20, [1, 4], [50, 1, 0, 0, 1, 3, 2, 0, 0, 1, 1]), (20, [1, 3, 4], [60, 0, 2, 1109, 1, 1000])]) hth1 (sy_env_up hle1 henv) hD1 hle2 hth2 hD2 hkp (by decide +kernel) (List.forall_mem_cons.mpr ⟨F_HI, (List.forall_mem_cons.mpr ⟨F_HL, (List.forall_mem_cons.mpr ⟨F_HY6, (List.forall_mem_cons.mpr ⟨F_RO, (List.forall_mem_cons.mpr ⟨F_PT, (List.forall_mem_cons.mpr ⟨F_LE6, (List.forall_mem_cons.mpr ⟨F_TA, (List.forall_mem_cons.mpr ⟨F_TE, (fun _ h => by cases h)⟩)⟩)⟩)⟩)⟩)⟩)⟩)⟩)
  have G_HI : fc_m PRD 20 [.ref h1] [62, 0] ws2 := hkeep _ List.mem_cons_self
  have G_HL : fc_m PRD 20 [.ref h1] [62, 1000000] ws2 := hkeep _ (List.mem_cons_of_mem _ List.mem_cons_self)
  have G_HY6 : fc_m PRD 20 [.ref h1, .int (nI (i + 6))] [62, 2000000] ws2 := hkeep _ (List.mem_cons_of_mem _ (List.mem_cons_of_mem _ List.mem_cons_self))
  have G_RO : fc_m PRD 20 [.ref h2] [60, 0, 3, 198, 2, 3, 4] ws2 := hkeep _ (List.mem_cons_of_mem _ (List.mem_cons_of_mem _ (List.mem_cons_of_mem _ List.mem_cons_self)))
  have G_PT : fc_m PRD 20 [.ref h2] [60, 0, 3, 367, 110, 111, 112] ws2 := hkeep _ (List.mem_cons_of_mem _ (List.mem_cons_of_mem _ (List.mem_cons_of_mem _ (List.mem_cons_of_mem _ List.mem_cons_self))))
  have G_LE6 : fc_m PRD 20 [.ref rd, .int (nI k)] [50, 1, 0, 1, 1, 3, 2, 0, 1, 1, 1] ws2 := hkeep _ (List.mem_cons_of_mem _ (List.mem_cons_of_mem _ (List.mem_cons_of_mem _ (List.mem_cons_of_mem _ (List.mem_cons_of_mem _ List.mem_cons_self)))))
  have G_TA : fc_m PRD 20 [.ref h2, .int (nI n)] [50, 1, 0, 0, 1, 3, 2, 0, 0, 1, 1] ws2 := hkeep _ (List.mem_cons_of_mem _ (List.mem_cons_of_mem _ (List.mem_cons_of_mem _ (List.mem_cons_of_mem _ (List.mem_cons_of_mem _ (List.mem_cons_of_mem _ List.mem_cons_self))))))
  have G_TE : fc_m PRD 20 [.ref h2, .ref rd, .int (nI n)] [60, 0, 2, 1109, 1, 1000] ws2 := hkeep _ (List.mem_cons_of_mem _ (List.mem_cons_of_mem _ (List.mem_cons_of_mem _ (List.mem_cons_of_mem _ (List.mem_cons_of_mem _ (List.mem_cons_of_mem _ (List.mem_cons_of_mem _ List.mem_cons_self)))))))
  have G_TA6 : fc_m PRD 20 [.ref h2, .int (nI k)] [50, 1, 0, 0, 1, 3, 2, 0, 0, 1, 1] ws2 := by rw [hkk]; exact G_TA
  have G_TE6 : fc_m PRD 20 [.ref h2, .ref rd, .int (nI k)] [60, 0, 2, 1109, 1, 1000] ws2 := by have z : TEQ (w_ei ws2 (w_ar ws2 (.ref h2) 1)) (w_ei ws2 (w_ar ws2 (.ref rd) 0)) (nI n).toInt := G_TE; have z2 : TEQ (w_ei ws2 (w_ar ws2 (.ref h2) 1)) (w_ei ws2 (w_ar ws2 (.ref rd) 0)) (nI k).toInt := L_tek z (show k ≤ n by omega) hn; exact z2
  have hrd : L_rd ws2 h1 rd := L_rdk hrd (hle1 _ _ a1) hkp (by decide +kernel)
  have tm17 : TN ws1 h1 17 → TN ws2 h1 17 := TN_kp (hle1 _ _ a1) hkp (by decide +kernel)
  have tm20 : TN ws1 h1 20 → TN ws2 h1 20 := TN_kp (hle1 _ _ a1) hkp (by decide +kernel)
  have F_HI := G_HI
  have F_HL := G_HL
  have F_HY6 := G_HY6
  have F_RO := G_RO
  have F_PT := G_PT
  have F_LE6 := G_LE6
  have F_TA6 := G_TA6
  have F_TE := G_TE
  have F_TE6 := G_TE6
  show W p l e room_1 s m #[Value.ref b] below meth c H2 locs2 (cells + 0 + 0) (slots + 0 + 0) (lw_Z below #[Value.ref b] s) (F0 m 900 ls [.int x2])
  have hS := hS2
  refine lv_pop (pc := 900) hx hb d_law_law_900 rfl ?_
  refine lv_goto (pc := 901) (tgt := 1294) hx hb d_law_law_901 (by decide) ?_
  have q1 : cells + 0 + 0 = cells + 0 := by omega
  have q2 : slots + 0 + 0 = slots + 0 := by omega
  rw [q1, q2]
  exact kk k ta2 ws2 H2 locs2 hP2 hD2 hS2 ⟨hth2, ⟨hle2 _ _ (hle1 _ _ a1), hle2 _ _ (hle1 _ _ a2), hle2 _ _ (hle1 _ _ a3), hk⟩, hrd, F_HI, F_HL, F_HY6, F_RO, F_PT, F_LE6, F_TA6, F_TE6⟩ (fun q => tm17 (tn17 q)) (fun q => tm20 (tn20 q))
set_option maxRecDepth 100000 in
set_option maxHeartbeats 4000000 in
/-- put -/
theorem lc_put {p : Program} {e : Env} {s : State} {m : MethodId} {below : List Frame} {meth : Method} {c : Code} {l : Launch} {b L : Nat} {xs : Nat → Int32} (C0 : lw_At p s m meth c b L xs) (hL : L ≤ 3072) {D : va_G} {kA : Nat → ClassId} (hK : va_K D classes (TY kA) s) (hN : nsr kA (fun q : Nat => s.heap.size ≤ q) s) (h_Ho_put : ct_ok PRD l D kA GG y_Ho_put z_Ho_put e_Ho_put) (h_Mo_put : ct_ok PRD l D kA GG y_Mo_put z_Mo_put e_Mo_put) {h1 h2 rd i n : Nat} (hi : i + 6 ≤ L) {ta : Nat → Option Nat} {ws : va_W} {H : Heap} {locs : List Loc} {ls : Array Slot} {cells slots : Nat} (hP : va_P D classes ws H) (hD : va_D (fun q : Nat => s.heap.size ≤ q) ws) (hS : va_S (fun q : Nat => s.heap.size ≤ q) s.heap H locs) (hI : LI kA h1 h2 rd i n ta ws) (hl : lv_has ls 4 [(3, .int (nI i)), (2, .ref h2), (1, .ref h1), (0, .ref b)]) (hc : cells + 0 ≤ 60000) (hs : slots + 0 ≤ 8922250) (kk : ∀ (k : Nat) (ta : Nat → Option Nat) (w2 : va_W) (H : Heap) (locs : List Loc), va_P D classes w2 H → va_D (fun q : Nat => s.heap.size ≤ q) w2 → va_S (fun q : Nat => s.heap.size ≤ q) s.heap H locs → LI kA h1 h2 rd (i + 6) k ta w2 → (TN ws h1 17 → TN w2 h1 17) → (TN ws h1 20 → TN w2 h1 20) → W p l e room_1 s m #[Value.ref b] below meth c H locs (cells + 0) (slots + 0) (lw_Z below #[Value.ref b] s) (F0 m 1294 ls [])) : W p l e room_1 s m #[Value.ref b] below meth c H locs cells slots (lw_Z below #[Value.ref b] s) (F0 m 904 ls []) := by
  obtain ⟨hx, hb, hr, hml, hown, hts0, hX, hbl, hlocks, hgv⟩ := id C0
  have hts : ∀ w ∈ lw_g, w.before #[Value.ref b] s = true := fun w h => hts0 w (lw_gt h)
  have X : cx p s m #[Value.ref b] meth c b_law_law 4 ret "DrawingHouseLaw" meth.name := ⟨hx, hb, hml, hown, hts, hr, hlocks, rfl⟩
  obtain ⟨A, hAe⟩ : ∃ A : Nat → Prop, A = fun q : Nat => s.heap.size ≤ q := ⟨_, rfl⟩
  have hA : ∀ q : Nat, s.heap.size ≤ q → A q := fun q h => by rw [hAe]; exact h
  have hbA : ¬ A b := by rw [hAe]; exact Nat.not_le.mpr hbl
  rw [← hAe] at hD hS hN kk
  obtain ⟨hth, ⟨a1, a2, a3, hn⟩, hrd, F_HI, F_HL, F_HY, F_RO, F_PT, F_LE, F_TA, F_TE⟩ := hI
  obtain ⟨k, hk, hkk⟩ : ∃ k : Nat, k ≤ 2000 ∧ k = n := ⟨n, hn, rfl⟩
  have henv : sy_env ta L_env (L_vs h1 h2 rd i n k) := L_envs a1 a2 a3 (by omega) hn hk
  refine lv_aload_n (pc := 904) hx hb d_law_law_904 rfl (lv_at hl 2 rfl) ?_
  refine lv_aload_n (pc := 905) hx hb d_law_law_905 rfl (lv_at hl 3 rfl) ?_
  refine lv_iload_n (pc := 906) hx hb d_law_law_906 rfl (lv_at hl 0 rfl) ?_
  refine lv_iconst (pc := 907) (v := 1) hx hb d_law_law_907 (by decide) ?_
  refine k_add (pc := 908) (x := i) (y := 1) hx hb d_law_law_908 ?_
  refine sc_ld (pc := 909) (j := i + 1) hx hb hX hbl hbA hS (by omega) (by omega) d_law_law_909 ?_
  refine lv_aload_n (pc := 910) hx hb d_law_law_910 rfl (lv_at hl 3 rfl) ?_
  refine lv_iload_n (pc := 911) hx hb d_law_law_911 rfl (lv_at hl 0 rfl) ?_
  refine lv_iconst (pc := 912) (v := 2) hx hb d_law_law_912 (by decide) ?_
  refine k_add (pc := 913) (x := i) (y := 2) hx hb d_law_law_913 ?_
  refine sc_ld (pc := 914) (j := i + 2) hx hb hX hbl hbA hS (by omega) (by omega) d_law_law_914 ?_
  refine lv_aload_n (pc := 915) hx hb d_law_law_915 rfl (lv_at hl 3 rfl) ?_
  refine lv_iload_n (pc := 916) hx hb d_law_law_916 rfl (lv_at hl 0 rfl) ?_
  refine lv_iconst (pc := 917) (v := 3) hx hb d_law_law_917 (by decide) ?_
  refine k_add (pc := 918) (x := i) (y := 3) hx hb d_law_law_918 ?_
  refine sc_ld (pc := 919) (j := i + 3) hx hb hX hbl hbA hS (by omega) (by omega) d_law_law_919 ?_
  refine lv_aload_n (pc := 920) hx hb d_law_law_920 rfl (lv_at hl 3 rfl) ?_
  refine lv_iload_n (pc := 921) hx hb d_law_law_921 rfl (lv_at hl 0 rfl) ?_
  refine lv_iconst (pc := 922) (v := 4) hx hb d_law_law_922 (by decide) ?_
  refine k_add (pc := 923) (x := i) (y := 4) hx hb d_law_law_923 ?_
  refine sc_ld (pc := 924) (j := i + 4) hx hb hX hbl hbA hS (by omega) (by omega) d_law_law_924 ?_
  refine lv_aload_n (pc := 925) hx hb d_law_law_925 rfl (lv_at hl 3 rfl) ?_
  refine lv_iload_n (pc := 926) hx hb d_law_law_926 rfl (lv_at hl 0 rfl) ?_
  refine lv_iconst (pc := 927) (v := 5) hx hb d_law_law_927 (by decide) ?_
  refine k_add (pc := 928) (x := i) (y := 5) hx hb d_law_law_928 ?_
  refine sc_ld (pc := 929) (j := i + 5) hx hb hX hbl hbA hS (by omega) (by omega) d_law_law_929 ?_
  refine W.eq (g2 := F0 m 930 ls (List.reverse [.ref h1, .int (xs (i + 1)), .int (xs (i + 2)), .int (xs (i + 3)), .int (xs (i + 4)), .int (xs (i + 5))] ++ [])) rfl ?_
  refine (cl_virtual (y := y_Ho_put) (ci := 12) rfl rfl ⟨_, _, rfl⟩ (by decide +kernel) h_Ho_put wm_1845 wm_1 wm_1842 wm_1843 wm_1844 ⟨by decide, by decide, by decide +kernel⟩ (by decide) : cl_ok PRD l D kA GG "DrawingHouseLaw" _ _ e_Ho_put) p e room_1 s m #[Value.ref b] below meth c H locs cells slots (lw_Z below #[Value.ref b] s) b_law_law 930 4 ret meth.name A ws ta ls [.ref h1, .int (xs (i + 1)), .int (xs (i + 2)), .int (xs (i + 3)), .int (xs (i + 4)), .int (xs (i + 5))] [] [.int (nI i)] [] X hK hN hA hP hD hS hth (ag_c (tv_rf a1) (ag_c tv_top (ag_c tv_top (ag_c tv_top (ag_c tv_top (ag_c tv_top (ag_n))))))) (gv_n) (ag_c (tv_nI (show i ≤ 3066 by omega) (by decide)) (ag_n)) (show ∀ f ∈ ([(20, [0, 6], [62, 2000000])] : List fc_T), fc_1 PRD f ws ([.ref h1, .int (xs (i + 1)), .int (xs (i + 2)), .int (xs (i + 3)), .int (xs (i + 4)), .int (xs (i + 5))] ++ [] ++ [.int (nI i)]) from (List.forall_mem_cons.mpr ⟨⟨nf_in (N := 7) rfl rfl, F_HY⟩, (fun _ h => by cases h)⟩)) (by first | decide | exact Nat.le_of_ble_eq_true rfl) (by first | decide | exact Nat.le_of_ble_eq_true rfl) (by first | decide | exact Nat.le_of_ble_eq_true rfl) (show cells + 0 ≤ 60000 by omega) (show slots + 0 ≤ 8922250 by omega) hl.1 d_law_law_930 (fun ta1 ws1 H1 locs1 r hle1 hth1 hP1 hD1 hS1 hrt hpo _ hkp => ?_)
  obtain ⟨x1, rfl⟩ := rt_i rfl hrt
  have hpost : ∀ f ∈ ([(20, [0, 6], [62, 2000000])] : List fc_T), fc_1 PRD f ws1 ([.ref h1, .int (xs (i + 1)), .int (xs (i + 2)), .int (xs (i + 3)), .int (xs (i + 4)), .int (xs (i + 5))] ++ [] ++ [.int (nI i)] ++ [.int x1]) := hpo.1
  have hkeep := L_keep (M := [(20, [0], [62, 0]), (20, [0], [62, 1000000]), (20, [0, 2], [62, 2000000]), (20, [1], [60, 0, 3, 198, 2, 3, 4]), (20, [1], [60, 0, 3, 367, 110, 111, 112]), (20, [3, 4], [50, 1, 0, 1, 1, 3, 2, 0, 1, 1, 1]), (20, [1, 4], [50, 1, 0, 0, 1, 3, 2, 0, 0, 1, 1]), (20, [1, 3, 4], [60, 0, 2, 1109, 1, 1000])]) (S := [(20, [0], [62, 0]), (20, [0], [62, 1000000]), (20, [1], [60, 0, 3, 198, 2, 3, 4]), (20, [1], [60, 0, 3, 367, 110, 111, 112]), (20, [3, 4], [50, 1, 0, 1, 1, 3, 2, 0, 1, 1, 1]), (20, [1, 4], [50, 1, 0, 0, 1, 3, 2, 0, 0, 1, 1]), (20, [1, 3, 4], [60, 0, 2, 1109, 1, 1000])]) hth henv hD hle1 hth1 hD1 hkp (by decide +kernel) (List.forall_mem_cons.mpr ⟨F_HI, (List.forall_mem_cons.mpr ⟨F_HL, (List.forall_mem_cons.mpr ⟨F_HY, (List.forall_mem_cons.mpr ⟨F_RO, (List.forall_mem_cons.mpr ⟨F_PT, (List.forall_mem_cons.mpr ⟨F_LE, (List.forall_mem_cons.mpr ⟨F_TA, (List.forall_mem_cons.mpr ⟨F_TE, (fun _ h => by cases h)⟩)⟩)⟩)⟩)⟩)⟩)⟩)⟩)
  have G_HI : fc_m PRD 20 [.ref h1] [62, 0] ws1 := hkeep _ List.mem_cons_self
  have G_HL : fc_m PRD 20 [.ref h1] [62, 1000000] ws1 := hkeep _ (List.mem_cons_of_mem _ List.mem_cons_self)
  have G_RO : fc_m PRD 20 [.ref h2] [60, 0, 3, 198, 2, 3, 4] ws1 := hkeep _ (List.mem_cons_of_mem _ (List.mem_cons_of_mem _ List.mem_cons_self))
  have G_PT : fc_m PRD 20 [.ref h2] [60, 0, 3, 367, 110, 111, 112] ws1 := hkeep _ (List.mem_cons_of_mem _ (List.mem_cons_of_mem _ (List.mem_cons_of_mem _ List.mem_cons_self)))
  have G_LE : fc_m PRD 20 [.ref rd, .int (nI n)] [50, 1, 0, 1, 1, 3, 2, 0, 1, 1, 1] ws1 := hkeep _ (List.mem_cons_of_mem _ (List.mem_cons_of_mem _ (List.mem_cons_of_mem _ (List.mem_cons_of_mem _ List.mem_cons_self))))
  have G_TA : fc_m PRD 20 [.ref h2, .int (nI n)] [50, 1, 0, 0, 1, 3, 2, 0, 0, 1, 1] ws1 := hkeep _ (List.mem_cons_of_mem _ (List.mem_cons_of_mem _ (List.mem_cons_of_mem _ (List.mem_cons_of_mem _ (List.mem_cons_of_mem _ List.mem_cons_self)))))
  have G_TE : fc_m PRD 20 [.ref h2, .ref rd, .int (nI n)] [60, 0, 2, 1109, 1, 1000] ws1 := hkeep _ (List.mem_cons_of_mem _ (List.mem_cons_of_mem _ (List.mem_cons_of_mem _ (List.mem_cons_of_mem _ (List.mem_cons_of_mem _ (List.mem_cons_of_mem _ List.mem_cons_self))))))
  have G_HY : fc_m PRD 20 [.ref h1, .int (nI i)] [62, 2000000] ws1 := (hpost _ List.mem_cons_self).2
  have G_HY6 : fc_m PRD 20 [.ref h1, .int (nI (i + 6))] [62, 2000000] ws1 := by have z : HY ws1 (.ref h1) ((nI i).toInt + ((2000000 : Nat) - 2000000 : Int)) := G_HY; show HY ws1 (.ref h1) ((nI (i + 6)).toInt + ((2000000 : Nat) - 2000000 : Int)); rw [nI_toInt (by omega)] at z ⊢; exact hy_le z (by omega)
  have G_LE6 : fc_m PRD 20 [.ref rd, .int (nI k)] [50, 1, 0, 1, 1, 3, 2, 0, 1, 1, 1] ws1 := by rw [hkk]; exact G_LE
  have hrd : L_rd ws1 h1 rd := L_rdk hrd a1 hkp (by decide +kernel)
  have tn17 : TN ws h1 17 → TN ws1 h1 17 := TN_kp a1 hkp (by decide +kernel)
  have tn20 : TN ws h1 20 → TN ws1 h1 20 := TN_kp a1 hkp (by decide +kernel)
  have F_HI := G_HI
  have F_HL := G_HL
  have F_HY6 := G_HY6
  have F_RO := G_RO
  have F_PT := G_PT
  have F_LE6 := G_LE6
  have F_TA := G_TA
  have F_TE := G_TE
  show W p l e room_1 s m #[Value.ref b] below meth c H1 locs1 (cells + 0) (slots + 0) (lw_Z below #[Value.ref b] s) (F0 m 933 ls [.int x1])
  have hS := hS1
  refine lv_pop (pc := 933) hx hb d_law_law_933 rfl ?_
  refine lv_aload_n (pc := 934) hx hb d_law_law_934 rfl (lv_at hl 1 rfl) ?_
  refine lv_aload_n (pc := 935) hx hb d_law_law_935 rfl (lv_at hl 3 rfl) ?_
  refine lv_iload_n (pc := 936) hx hb d_law_law_936 rfl (lv_at hl 0 rfl) ?_
  refine lv_iconst (pc := 937) (v := 1) hx hb d_law_law_937 (by decide) ?_
  refine k_add (pc := 938) (x := i) (y := 1) hx hb d_law_law_938 ?_
  refine sc_ld (pc := 939) (j := i + 1) hx hb hX hbl hbA hS (by omega) (by omega) d_law_law_939 ?_
  refine lv_aload_n (pc := 940) hx hb d_law_law_940 rfl (lv_at hl 3 rfl) ?_
  refine lv_iload_n (pc := 941) hx hb d_law_law_941 rfl (lv_at hl 0 rfl) ?_
  refine lv_iconst (pc := 942) (v := 2) hx hb d_law_law_942 (by decide) ?_
  refine k_add (pc := 943) (x := i) (y := 2) hx hb d_law_law_943 ?_
  refine sc_ld (pc := 944) (j := i + 2) hx hb hX hbl hbA hS (by omega) (by omega) d_law_law_944 ?_
  refine lv_aload_n (pc := 945) hx hb d_law_law_945 rfl (lv_at hl 3 rfl) ?_
  refine lv_iload_n (pc := 946) hx hb d_law_law_946 rfl (lv_at hl 0 rfl) ?_
  refine lv_iconst (pc := 947) (v := 3) hx hb d_law_law_947 (by decide) ?_
  refine k_add (pc := 948) (x := i) (y := 3) hx hb d_law_law_948 ?_
  refine sc_ld (pc := 949) (j := i + 3) hx hb hX hbl hbA hS (by omega) (by omega) d_law_law_949 ?_
  refine lv_aload_n (pc := 950) hx hb d_law_law_950 rfl (lv_at hl 3 rfl) ?_
  refine lv_iload_n (pc := 951) hx hb d_law_law_951 rfl (lv_at hl 0 rfl) ?_
  refine lv_iconst (pc := 952) (v := 4) hx hb d_law_law_952 (by decide) ?_
  refine k_add (pc := 953) (x := i) (y := 4) hx hb d_law_law_953 ?_
  refine sc_ld (pc := 954) (j := i + 4) hx hb hX hbl hbA hS (by omega) (by omega) d_law_law_954 ?_
  refine lv_aload_n (pc := 955) hx hb d_law_law_955 rfl (lv_at hl 3 rfl) ?_
  refine lv_iload_n (pc := 956) hx hb d_law_law_956 rfl (lv_at hl 0 rfl) ?_
  refine lv_iconst (pc := 957) (v := 5) hx hb d_law_law_957 (by decide) ?_
  refine k_add (pc := 958) (x := i) (y := 5) hx hb d_law_law_958 ?_
  refine sc_ld (pc := 959) (j := i + 5) hx hb hX hbl hbA hS (by omega) (by omega) d_law_law_959 ?_
  refine W.eq (g2 := F0 m 960 ls (List.reverse [.ref h2, .int (xs (i + 1)), .int (xs (i + 2)), .int (xs (i + 3)), .int (xs (i + 4)), .int (xs (i + 5))] ++ [])) rfl ?_
  refine (cl_virtual (y := y_Mo_put) (ci := 13) rfl rfl ⟨_, _, rfl⟩ (by decide +kernel) h_Mo_put wm_3661 wm_9 wm_3658 wm_3659 wm_3660 ⟨by decide, by decide, by decide +kernel⟩ (by decide) : cl_ok PRD l D kA GG "DrawingHouseLaw" _ _ e_Mo_put) p e room_1 s m #[Value.ref b] below meth c H1 locs1 (cells + 0) (slots + 0) (lw_Z below #[Value.ref b] s) b_law_law 960 4 ret meth.name A ws1 ta1 ls [.ref h2, .int (xs (i + 1)), .int (xs (i + 2)), .int (xs (i + 3)), .int (xs (i + 4)), .int (xs (i + 5))] [] [] [] X hK hN hA hP1 hD1 hS1 hth1 (ag_c (tv_rf (hle1 _ _ a2)) (ag_c tv_top (ag_c tv_top (ag_c tv_top (ag_c tv_top (ag_c tv_top (ag_n))))))) (gv_n) (ag_n) (fun _ h => by cases h) (by first | decide | exact Nat.le_of_ble_eq_true rfl) (by first | decide | exact Nat.le_of_ble_eq_true rfl) (by first | decide | exact Nat.le_of_ble_eq_true rfl) (show (cells + 0) + 0 ≤ 60000 by omega) (show (slots + 0) + 0 ≤ 8922250 by omega) hl.1 d_law_law_960 (fun ta2 ws2 H2 locs2 r hle2 hth2 hP2 hD2 hS2 hrt hpo _ hkp => ?_)
  obtain ⟨x2, rfl⟩ := rt_i rfl hrt
  have hpost : ∀ f ∈ ([] : List fc_T), fc_1 PRD f ws2 ([.ref h2, .int (xs (i + 1)), .int (xs (i + 2)), .int (xs (i + 3)), .int (xs (i + 4)), .int (xs (i + 5))] ++ [] ++ [] ++ [.int x2]) := hpo.1
  have hkeep := L_keep (M := [(20, [0], [62, 0]), (20, [0], [62, 1000000]), (20, [0, 6], [62, 2000000]), (20, [1], [60, 0, 3, 198, 2, 3, 4]), (20, [1], [60, 0, 3, 367, 110, 111, 112]), (20, [3, 5], [50, 1, 0, 1, 1, 3, 2, 0, 1, 1, 1]), (20, [1, 4], [50, 1, 0, 0, 1, 3, 2, 0, 0, 1, 1]), (20, [1, 3, 4], [60, 0, 2, 1109, 1, 1000])]) (S := [(20, [0], [62, 0]), (20, [0], [62, 1000000]), (20, [0, 6], [62, 2000000]), (20, [1], [60, 0, 3, 198, 2, 3, 4]), (20, [1], [60, 0, 3, 367, 110, 111, 112]), (20, [3, 5], [50, 1, 0, 1, 1, 3, 2, 0, 1, 1, 1]), (20, [1, 4], [50, 1, 0, 0, 1, 3, 2, 0, 0, 1, 1]), (20, [1, 3, 4], [60, 0, 2, 1109, 1, 1000])]) hth1 (sy_env_up hle1 henv) hD1 hle2 hth2 hD2 hkp (by decide +kernel) (List.forall_mem_cons.mpr ⟨F_HI, (List.forall_mem_cons.mpr ⟨F_HL, (List.forall_mem_cons.mpr ⟨F_HY6, (List.forall_mem_cons.mpr ⟨F_RO, (List.forall_mem_cons.mpr ⟨F_PT, (List.forall_mem_cons.mpr ⟨F_LE6, (List.forall_mem_cons.mpr ⟨F_TA, (List.forall_mem_cons.mpr ⟨F_TE, (fun _ h => by cases h)⟩)⟩)⟩)⟩)⟩)⟩)⟩)⟩)
  have G_HI : fc_m PRD 20 [.ref h1] [62, 0] ws2 := hkeep _ List.mem_cons_self
  have G_HL : fc_m PRD 20 [.ref h1] [62, 1000000] ws2 := hkeep _ (List.mem_cons_of_mem _ List.mem_cons_self)
  have G_HY6 : fc_m PRD 20 [.ref h1, .int (nI (i + 6))] [62, 2000000] ws2 := hkeep _ (List.mem_cons_of_mem _ (List.mem_cons_of_mem _ List.mem_cons_self))
  have G_RO : fc_m PRD 20 [.ref h2] [60, 0, 3, 198, 2, 3, 4] ws2 := hkeep _ (List.mem_cons_of_mem _ (List.mem_cons_of_mem _ (List.mem_cons_of_mem _ List.mem_cons_self)))
  have G_PT : fc_m PRD 20 [.ref h2] [60, 0, 3, 367, 110, 111, 112] ws2 := hkeep _ (List.mem_cons_of_mem _ (List.mem_cons_of_mem _ (List.mem_cons_of_mem _ (List.mem_cons_of_mem _ List.mem_cons_self))))
  have G_LE6 : fc_m PRD 20 [.ref rd, .int (nI k)] [50, 1, 0, 1, 1, 3, 2, 0, 1, 1, 1] ws2 := hkeep _ (List.mem_cons_of_mem _ (List.mem_cons_of_mem _ (List.mem_cons_of_mem _ (List.mem_cons_of_mem _ (List.mem_cons_of_mem _ List.mem_cons_self)))))
  have G_TA : fc_m PRD 20 [.ref h2, .int (nI n)] [50, 1, 0, 0, 1, 3, 2, 0, 0, 1, 1] ws2 := hkeep _ (List.mem_cons_of_mem _ (List.mem_cons_of_mem _ (List.mem_cons_of_mem _ (List.mem_cons_of_mem _ (List.mem_cons_of_mem _ (List.mem_cons_of_mem _ List.mem_cons_self))))))
  have G_TE : fc_m PRD 20 [.ref h2, .ref rd, .int (nI n)] [60, 0, 2, 1109, 1, 1000] ws2 := hkeep _ (List.mem_cons_of_mem _ (List.mem_cons_of_mem _ (List.mem_cons_of_mem _ (List.mem_cons_of_mem _ (List.mem_cons_of_mem _ (List.mem_cons_of_mem _ (List.mem_cons_of_mem _ List.mem_cons_self)))))))
  have G_TA6 : fc_m PRD 20 [.ref h2, .int (nI k)] [50, 1, 0, 0, 1, 3, 2, 0, 0, 1, 1] ws2 := by rw [hkk]; exact G_TA
  have G_TE6 : fc_m PRD 20 [.ref h2, .ref rd, .int (nI k)] [60, 0, 2, 1109, 1, 1000] ws2 := by have z : TEQ (w_ei ws2 (w_ar ws2 (.ref h2) 1)) (w_ei ws2 (w_ar ws2 (.ref rd) 0)) (nI n).toInt := G_TE; have z2 : TEQ (w_ei ws2 (w_ar ws2 (.ref h2) 1)) (w_ei ws2 (w_ar ws2 (.ref rd) 0)) (nI k).toInt := L_tek z (show k ≤ n by omega) hn; exact z2
  have hrd : L_rd ws2 h1 rd := L_rdk hrd (hle1 _ _ a1) hkp (by decide +kernel)
  have tm17 : TN ws1 h1 17 → TN ws2 h1 17 := TN_kp (hle1 _ _ a1) hkp (by decide +kernel)
  have tm20 : TN ws1 h1 20 → TN ws2 h1 20 := TN_kp (hle1 _ _ a1) hkp (by decide +kernel)
  have F_HI := G_HI
  have F_HL := G_HL
  have F_HY6 := G_HY6
  have F_RO := G_RO
  have F_PT := G_PT
  have F_LE6 := G_LE6
  have F_TA6 := G_TA6
  have F_TE := G_TE
  have F_TE6 := G_TE6
  show W p l e room_1 s m #[Value.ref b] below meth c H2 locs2 (cells + 0 + 0) (slots + 0 + 0) (lw_Z below #[Value.ref b] s) (F0 m 963 ls [.int x2])
  have hS := hS2
  refine lv_pop (pc := 963) hx hb d_law_law_963 rfl ?_
  refine lv_goto (pc := 964) (tgt := 1294) hx hb d_law_law_964 (by decide) ?_
  have q1 : cells + 0 + 0 = cells + 0 := by omega
  have q2 : slots + 0 + 0 = slots + 0 := by omega
  rw [q1, q2]
  exact kk k ta2 ws2 H2 locs2 hP2 hD2 hS2 ⟨hth2, ⟨hle2 _ _ (hle1 _ _ a1), hle2 _ _ (hle1 _ _ a2), hle2 _ _ (hle1 _ _ a3), hk⟩, hrd, F_HI, F_HL, F_HY6, F_RO, F_PT, F_LE6, F_TA6, F_TE6⟩ (fun q => tm17 (tn17 q)) (fun q => tm20 (tn20 q))
set_option maxRecDepth 100000 in
set_option maxHeartbeats 4000000 in
/-- route -/
theorem lc_route_b {p : Program} {e : Env} {s : State} {m : MethodId} {below : List Frame} {meth : Method} {c : Code} {l : Launch} {b L : Nat} {xs : Nat → Int32} (C0 : lw_At p s m meth c b L xs) (hL : L ≤ 3072) {D : va_G} {kA : Nat → ClassId} (hK : va_K D classes (TY kA) s) (hN : nsr kA (fun q : Nat => s.heap.size ≤ q) s) (h_Ho_route_at_b : ct_ok PRD l D kA GG y_Ho_route_at_b z_Ho_route_at_b e_Ho_route_at_b) (h_Mo_route : ct_ok PRD l D kA GG y_Mo_route z_Mo_route e_Mo_route) {h1 h2 rd i n : Nat} (hi : i + 6 ≤ L) {ta : Nat → Option Nat} {ws : va_W} {H : Heap} {locs : List Loc} {ls : Array Slot} {cells slots : Nat} (hP : va_P D classes ws H) (hD : va_D (fun q : Nat => s.heap.size ≤ q) ws) (hS : va_S (fun q : Nat => s.heap.size ≤ q) s.heap H locs) (hI : LI kA h1 h2 rd i n ta ws) (hl : lv_has ls 4 [(3, .int (nI i)), (2, .ref h2), (1, .ref h1), (0, .ref b)]) (hc : cells + 0 ≤ 60000) (hs : slots + 0 ≤ 8922250) (hx0 : fc_m PRD 20 [.int (xs (i + 1)), .ref h1, .int (xs (i + 2))] [51, 0, 0, 2, 4001001003, 4001001000, 3, 6, 0, 2, 1, 0, 0, -1, 3, 6, 0, 2, 0, 4, 1, 0, 3, 10, 1, 6, 14, 1, 3, 4001, 1, 0, 0, -1, 3, 6, 0, 2, 1, 2, 0, -1, 0, 6, 14, 1, 0, 4001, 1, 0, 1, 2] ws) (kk : ∀ (k : Nat) (ta : Nat → Option Nat) (w2 : va_W) (H : Heap) (locs : List Loc), va_P D classes w2 H → va_D (fun q : Nat => s.heap.size ≤ q) w2 → va_S (fun q : Nat => s.heap.size ≤ q) s.heap H locs → LI kA h1 h2 rd (i + 6) k ta w2 → (TN ws h1 17 → TN w2 h1 17) → (TN ws h1 20 → TN w2 h1 20) → W p l e room_1 s m #[Value.ref b] below meth c H locs (cells + 0) (slots + 0) (lw_Z below #[Value.ref b] s) (F0 m 1294 ls [])) : W p l e room_1 s m #[Value.ref b] below meth c H locs cells slots (lw_Z below #[Value.ref b] s) (F0 m 967 ls []) := by
  obtain ⟨hx, hb, hr, hml, hown, hts0, hX, hbl, hlocks, hgv⟩ := id C0
  have hts : ∀ w ∈ lw_g, w.before #[Value.ref b] s = true := fun w h => hts0 w (lw_gt h)
  have X : cx p s m #[Value.ref b] meth c b_law_law 4 ret "DrawingHouseLaw" meth.name := ⟨hx, hb, hml, hown, hts, hr, hlocks, rfl⟩
  obtain ⟨A, hAe⟩ : ∃ A : Nat → Prop, A = fun q : Nat => s.heap.size ≤ q := ⟨_, rfl⟩
  have hA : ∀ q : Nat, s.heap.size ≤ q → A q := fun q h => by rw [hAe]; exact h
  have hbA : ¬ A b := by rw [hAe]; exact Nat.not_le.mpr hbl
  rw [← hAe] at hD hS hN kk
  obtain ⟨hth, ⟨a1, a2, a3, hn⟩, hrd, F_HI, F_HL, F_HY, F_RO, F_PT, F_LE, F_TA, F_TE⟩ := hI
  obtain ⟨k, hk, hkk⟩ : ∃ k : Nat, k ≤ 2000 ∧ k = n := ⟨n, hn, rfl⟩
  have henv : sy_env ta L_env (L_vs h1 h2 rd i n k) := L_envs a1 a2 a3 (by omega) hn hk
  refine lv_aload_n (pc := 967) hx hb d_law_law_967 rfl (lv_at hl 2 rfl) ?_
  refine lv_aload_n (pc := 968) hx hb d_law_law_968 rfl (lv_at hl 3 rfl) ?_
  refine lv_iload_n (pc := 969) hx hb d_law_law_969 rfl (lv_at hl 0 rfl) ?_
  refine lv_iconst (pc := 970) (v := 1) hx hb d_law_law_970 (by decide) ?_
  refine k_add (pc := 971) (x := i) (y := 1) hx hb d_law_law_971 ?_
  refine sc_ld (pc := 972) (j := i + 1) hx hb hX hbl hbA hS (by omega) (by omega) d_law_law_972 ?_
  refine lv_aload_n (pc := 973) hx hb d_law_law_973 rfl (lv_at hl 3 rfl) ?_
  refine lv_iload_n (pc := 974) hx hb d_law_law_974 rfl (lv_at hl 0 rfl) ?_
  refine lv_iconst (pc := 975) (v := 2) hx hb d_law_law_975 (by decide) ?_
  refine k_add (pc := 976) (x := i) (y := 2) hx hb d_law_law_976 ?_
  refine sc_ld (pc := 977) (j := i + 2) hx hb hX hbl hbA hS (by omega) (by omega) d_law_law_977 ?_
  refine W.eq (g2 := F0 m 978 ls (List.reverse [.ref h1, .int (xs (i + 1)), .int (xs (i + 2))] ++ [])) rfl ?_
  refine (cl_virtual (y := y_Ho_route_at_b) (ci := 12) rfl rfl ⟨_, _, rfl⟩ (by decide +kernel) h_Ho_route_at_b wm_1855 wm_1 wm_1852 wm_1853 wm_1854 ⟨by decide, by decide, by decide +kernel⟩ (by decide) : cl_ok PRD l D kA GG "DrawingHouseLaw" _ _ e_Ho_route_at_b) p e room_1 s m #[Value.ref b] below meth c H locs cells slots (lw_Z below #[Value.ref b] s) b_law_law 978 4 ret meth.name A ws ta ls [.ref h1, .int (xs (i + 1)), .int (xs (i + 2))] [] [] [] X hK hN hA hP hD hS hth (ag_c (tv_rf a1) (ag_c tv_top (ag_c tv_top (ag_n)))) (gv_n) (ag_n) (show ∀ f ∈ ([(20, [0], [62, 0]), (20, [1, 0, 2], [51, 0, 0, 2, 4001001003, 4001001000, 3, 6, 0, 2, 1, 0, 0, -1, 3, 6, 0, 2, 0, 4, 1, 0, 3, 10, 1, 6, 14, 1, 3, 4001, 1, 0, 0, -1, 3, 6, 0, 2, 1, 2, 0, -1, 0, 6, 14, 1, 0, 4001, 1, 0, 1, 2])] : List fc_T), fc_1 PRD f ws ([.ref h1, .int (xs (i + 1)), .int (xs (i + 2))] ++ [] ++ []) from (List.forall_mem_cons.mpr ⟨⟨nf_in (N := 3) rfl rfl, F_HI⟩, (List.forall_mem_cons.mpr ⟨⟨nf_in (N := 3) rfl rfl, hx0⟩, (fun _ h => by cases h)⟩)⟩)) (by first | decide | exact Nat.le_of_ble_eq_true rfl) (by first | decide | exact Nat.le_of_ble_eq_true rfl) (by first | decide | exact Nat.le_of_ble_eq_true rfl) (show cells + 0 ≤ 60000 by omega) (show slots + 0 ≤ 8922250 by omega) hl.1 d_law_law_978 (fun ta1 ws1 H1 locs1 r hle1 hth1 hP1 hD1 hS1 hrt hpo _ hkp => ?_)
  obtain ⟨x1, rfl⟩ := rt_i rfl hrt
  have hpost : ∀ f ∈ ([(20, [0], [62, 0])] : List fc_T), fc_1 PRD f ws1 ([.ref h1, .int (xs (i + 1)), .int (xs (i + 2))] ++ [] ++ [] ++ [.int x1]) := hpo.1
  have hkeep := L_keep (M := [(20, [0], [62, 0]), (20, [0], [62, 1000000]), (20, [0, 2], [62, 2000000]), (20, [1], [60, 0, 3, 198, 2, 3, 4]), (20, [1], [60, 0, 3, 367, 110, 111, 112]), (20, [3, 4], [50, 1, 0, 1, 1, 3, 2, 0, 1, 1, 1]), (20, [1, 4], [50, 1, 0, 0, 1, 3, 2, 0, 0, 1, 1]), (20, [1, 3, 4], [60, 0, 2, 1109, 1, 1000])]) (S := [(20, [0], [62, 1000000]), (20, [0, 2], [62, 2000000]), (20, [1], [60, 0, 3, 198, 2, 3, 4]), (20, [1], [60, 0, 3, 367, 110, 111, 112]), (20, [3, 4], [50, 1, 0, 1, 1, 3, 2, 0, 1, 1, 1]), (20, [1, 4], [50, 1, 0, 0, 1, 3, 2, 0, 0, 1, 1]), (20, [1, 3, 4], [60, 0, 2, 1109, 1, 1000])]) hth henv hD hle1 hth1 hD1 hkp (by decide +kernel) (List.forall_mem_cons.mpr ⟨F_HI, (List.forall_mem_cons.mpr ⟨F_HL, (List.forall_mem_cons.mpr ⟨F_HY, (List.forall_mem_cons.mpr ⟨F_RO, (List.forall_mem_cons.mpr ⟨F_PT, (List.forall_mem_cons.mpr ⟨F_LE, (List.forall_mem_cons.mpr ⟨F_TA, (List.forall_mem_cons.mpr ⟨F_TE, (fun _ h => by cases h)⟩)⟩)⟩)⟩)⟩)⟩)⟩)⟩)
  have G_HL : fc_m PRD 20 [.ref h1] [62, 1000000] ws1 := hkeep _ List.mem_cons_self
  have G_HY : fc_m PRD 20 [.ref h1, .int (nI i)] [62, 2000000] ws1 := hkeep _ (List.mem_cons_of_mem _ List.mem_cons_self)
  have G_RO : fc_m PRD 20 [.ref h2] [60, 0, 3, 198, 2, 3, 4] ws1 := hkeep _ (List.mem_cons_of_mem _ (List.mem_cons_of_mem _ List.mem_cons_self))
  have G_PT : fc_m PRD 20 [.ref h2] [60, 0, 3, 367, 110, 111, 112] ws1 := hkeep _ (List.mem_cons_of_mem _ (List.mem_cons_of_mem _ (List.mem_cons_of_mem _ List.mem_cons_self)))
  have G_LE : fc_m PRD 20 [.ref rd, .int (nI n)] [50, 1, 0, 1, 1, 3, 2, 0, 1, 1, 1] ws1 := hkeep _ (List.mem_cons_of_mem _ (List.mem_cons_of_mem _ (List.mem_cons_of_mem _ (List.mem_cons_of_mem _ List.mem_cons_self))))
  have G_TA : fc_m PRD 20 [.ref h2, .int (nI n)] [50, 1, 0, 0, 1, 3, 2, 0, 0, 1, 1] ws1 := hkeep _ (List.mem_cons_of_mem _ (List.mem_cons_of_mem _ (List.mem_cons_of_mem _ (List.mem_cons_of_mem _ (List.mem_cons_of_mem _ List.mem_cons_self)))))
  have G_TE : fc_m PRD 20 [.ref h2, .ref rd, .int (nI n)] [60, 0, 2, 1109, 1, 1000] ws1 := hkeep _ (List.mem_cons_of_mem _ (List.mem_cons_of_mem _ (List.mem_cons_of_mem _ (List.mem_cons_of_mem _ (List.mem_cons_of_mem _ (List.mem_cons_of_mem _ List.mem_cons_self))))))
  have G_HI : fc_m PRD 20 [.ref h1] [62, 0] ws1 := (hpost _ List.mem_cons_self).2
  have G_HY6 : fc_m PRD 20 [.ref h1, .int (nI (i + 6))] [62, 2000000] ws1 := by have z : HY ws1 (.ref h1) ((nI i).toInt + ((2000000 : Nat) - 2000000 : Int)) := G_HY; show HY ws1 (.ref h1) ((nI (i + 6)).toInt + ((2000000 : Nat) - 2000000 : Int)); rw [nI_toInt (by omega)] at z ⊢; exact hy_le z (by omega)
  have G_LE6 : fc_m PRD 20 [.ref rd, .int (nI k)] [50, 1, 0, 1, 1, 3, 2, 0, 1, 1, 1] ws1 := by rw [hkk]; exact G_LE
  have hrd : L_rd ws1 h1 rd := L_rdk hrd a1 hkp (by decide +kernel)
  have tn17 : TN ws h1 17 → TN ws1 h1 17 := TN_kp a1 hkp (by decide +kernel)
  have tn20 : TN ws h1 20 → TN ws1 h1 20 := TN_kp a1 hkp (by decide +kernel)
  have F_HI := G_HI
  have F_HL := G_HL
  have F_HY6 := G_HY6
  have F_RO := G_RO
  have F_PT := G_PT
  have F_LE6 := G_LE6
  have F_TA := G_TA
  have F_TE := G_TE
  show W p l e room_1 s m #[Value.ref b] below meth c H1 locs1 (cells + 0) (slots + 0) (lw_Z below #[Value.ref b] s) (F0 m 981 ls [.int x1])
  have hS := hS1
  refine lv_pop (pc := 981) hx hb d_law_law_981 rfl ?_
  refine lv_aload_n (pc := 982) hx hb d_law_law_982 rfl (lv_at hl 1 rfl) ?_
  refine lv_aload_n (pc := 983) hx hb d_law_law_983 rfl (lv_at hl 3 rfl) ?_
  refine lv_iload_n (pc := 984) hx hb d_law_law_984 rfl (lv_at hl 0 rfl) ?_
  refine lv_iconst (pc := 985) (v := 1) hx hb d_law_law_985 (by decide) ?_
  refine k_add (pc := 986) (x := i) (y := 1) hx hb d_law_law_986 ?_
  refine sc_ld (pc := 987) (j := i + 1) hx hb hX hbl hbA hS (by omega) (by omega) d_law_law_987 ?_
  refine lv_aload_n (pc := 988) hx hb d_law_law_988 rfl (lv_at hl 3 rfl) ?_
  refine lv_iload_n (pc := 989) hx hb d_law_law_989 rfl (lv_at hl 0 rfl) ?_
  refine lv_iconst (pc := 990) (v := 2) hx hb d_law_law_990 (by decide) ?_
  refine k_add (pc := 991) (x := i) (y := 2) hx hb d_law_law_991 ?_
  refine sc_ld (pc := 992) (j := i + 2) hx hb hX hbl hbA hS (by omega) (by omega) d_law_law_992 ?_
  refine W.eq (g2 := F0 m 993 ls (List.reverse [.ref h2, .int (xs (i + 1)), .int (xs (i + 2))] ++ [])) rfl ?_
  refine (cl_virtual (y := y_Mo_route) (ci := 13) rfl rfl ⟨_, _, rfl⟩ (by decide +kernel) h_Mo_route wm_3665 wm_9 wm_3662 wm_3663 wm_3664 ⟨by decide, by decide, by decide +kernel⟩ (by decide) : cl_ok PRD l D kA GG "DrawingHouseLaw" _ _ e_Mo_route) p e room_1 s m #[Value.ref b] below meth c H1 locs1 (cells + 0) (slots + 0) (lw_Z below #[Value.ref b] s) b_law_law 993 4 ret meth.name A ws1 ta1 ls [.ref h2, .int (xs (i + 1)), .int (xs (i + 2))] [] [] [] X hK hN hA hP1 hD1 hS1 hth1 (ag_c (tv_rf (hle1 _ _ a2)) (ag_c tv_top (ag_c tv_top (ag_n)))) (gv_n) (ag_n) (show ∀ f ∈ ([(20, [0], [60, 0, 3, 198, 2, 3, 4])] : List fc_T), fc_1 PRD f ws1 ([.ref h2, .int (xs (i + 1)), .int (xs (i + 2))] ++ [] ++ []) from (List.forall_mem_cons.mpr ⟨⟨nf_in (N := 3) rfl rfl, F_RO⟩, (fun _ h => by cases h)⟩)) (by first | decide | exact Nat.le_of_ble_eq_true rfl) (by first | decide | exact Nat.le_of_ble_eq_true rfl) (by first | decide | exact Nat.le_of_ble_eq_true rfl) (show (cells + 0) + 0 ≤ 60000 by omega) (show (slots + 0) + 0 ≤ 8922250 by omega) hl.1 d_law_law_993 (fun ta2 ws2 H2 locs2 r hle2 hth2 hP2 hD2 hS2 hrt hpo _ hkp => ?_)
  obtain ⟨x2, rfl⟩ := rt_i rfl hrt
  have hpost : ∀ f ∈ ([] : List fc_T), fc_1 PRD f ws2 ([.ref h2, .int (xs (i + 1)), .int (xs (i + 2))] ++ [] ++ [] ++ [.int x2]) := hpo.1
  have hkeep := L_keep (M := [(20, [0], [62, 0]), (20, [0], [62, 1000000]), (20, [0, 6], [62, 2000000]), (20, [1], [60, 0, 3, 198, 2, 3, 4]), (20, [1], [60, 0, 3, 367, 110, 111, 112]), (20, [3, 5], [50, 1, 0, 1, 1, 3, 2, 0, 1, 1, 1]), (20, [1, 4], [50, 1, 0, 0, 1, 3, 2, 0, 0, 1, 1]), (20, [1, 3, 4], [60, 0, 2, 1109, 1, 1000])]) (S := [(20, [0], [62, 0]), (20, [0], [62, 1000000]), (20, [0, 6], [62, 2000000]), (20, [1], [60, 0, 3, 198, 2, 3, 4]), (20, [1], [60, 0, 3, 367, 110, 111, 112]), (20, [3, 5], [50, 1, 0, 1, 1, 3, 2, 0, 1, 1, 1]), (20, [1, 4], [50, 1, 0, 0, 1, 3, 2, 0, 0, 1, 1]), (20, [1, 3, 4], [60, 0, 2, 1109, 1, 1000])]) hth1 (sy_env_up hle1 henv) hD1 hle2 hth2 hD2 hkp (by decide +kernel) (List.forall_mem_cons.mpr ⟨F_HI, (List.forall_mem_cons.mpr ⟨F_HL, (List.forall_mem_cons.mpr ⟨F_HY6, (List.forall_mem_cons.mpr ⟨F_RO, (List.forall_mem_cons.mpr ⟨F_PT, (List.forall_mem_cons.mpr ⟨F_LE6, (List.forall_mem_cons.mpr ⟨F_TA, (List.forall_mem_cons.mpr ⟨F_TE, (fun _ h => by cases h)⟩)⟩)⟩)⟩)⟩)⟩)⟩)⟩)
  have G_HI : fc_m PRD 20 [.ref h1] [62, 0] ws2 := hkeep _ List.mem_cons_self
  have G_HL : fc_m PRD 20 [.ref h1] [62, 1000000] ws2 := hkeep _ (List.mem_cons_of_mem _ List.mem_cons_self)
  have G_HY6 : fc_m PRD 20 [.ref h1, .int (nI (i + 6))] [62, 2000000] ws2 := hkeep _ (List.mem_cons_of_mem _ (List.mem_cons_of_mem _ List.mem_cons_self))
  have G_RO : fc_m PRD 20 [.ref h2] [60, 0, 3, 198, 2, 3, 4] ws2 := hkeep _ (List.mem_cons_of_mem _ (List.mem_cons_of_mem _ (List.mem_cons_of_mem _ List.mem_cons_self)))
  have G_PT : fc_m PRD 20 [.ref h2] [60, 0, 3, 367, 110, 111, 112] ws2 := hkeep _ (List.mem_cons_of_mem _ (List.mem_cons_of_mem _ (List.mem_cons_of_mem _ (List.mem_cons_of_mem _ List.mem_cons_self))))
  have G_LE6 : fc_m PRD 20 [.ref rd, .int (nI k)] [50, 1, 0, 1, 1, 3, 2, 0, 1, 1, 1] ws2 := hkeep _ (List.mem_cons_of_mem _ (List.mem_cons_of_mem _ (List.mem_cons_of_mem _ (List.mem_cons_of_mem _ (List.mem_cons_of_mem _ List.mem_cons_self)))))
  have G_TA : fc_m PRD 20 [.ref h2, .int (nI n)] [50, 1, 0, 0, 1, 3, 2, 0, 0, 1, 1] ws2 := hkeep _ (List.mem_cons_of_mem _ (List.mem_cons_of_mem _ (List.mem_cons_of_mem _ (List.mem_cons_of_mem _ (List.mem_cons_of_mem _ (List.mem_cons_of_mem _ List.mem_cons_self))))))
  have G_TE : fc_m PRD 20 [.ref h2, .ref rd, .int (nI n)] [60, 0, 2, 1109, 1, 1000] ws2 := hkeep _ (List.mem_cons_of_mem _ (List.mem_cons_of_mem _ (List.mem_cons_of_mem _ (List.mem_cons_of_mem _ (List.mem_cons_of_mem _ (List.mem_cons_of_mem _ (List.mem_cons_of_mem _ List.mem_cons_self)))))))
  have G_TA6 : fc_m PRD 20 [.ref h2, .int (nI k)] [50, 1, 0, 0, 1, 3, 2, 0, 0, 1, 1] ws2 := by rw [hkk]; exact G_TA
  have G_TE6 : fc_m PRD 20 [.ref h2, .ref rd, .int (nI k)] [60, 0, 2, 1109, 1, 1000] ws2 := by have z : TEQ (w_ei ws2 (w_ar ws2 (.ref h2) 1)) (w_ei ws2 (w_ar ws2 (.ref rd) 0)) (nI n).toInt := G_TE; have z2 : TEQ (w_ei ws2 (w_ar ws2 (.ref h2) 1)) (w_ei ws2 (w_ar ws2 (.ref rd) 0)) (nI k).toInt := L_tek z (show k ≤ n by omega) hn; exact z2
  have hrd : L_rd ws2 h1 rd := L_rdk hrd (hle1 _ _ a1) hkp (by decide +kernel)
  have tm17 : TN ws1 h1 17 → TN ws2 h1 17 := TN_kp (hle1 _ _ a1) hkp (by decide +kernel)
  have tm20 : TN ws1 h1 20 → TN ws2 h1 20 := TN_kp (hle1 _ _ a1) hkp (by decide +kernel)
  have F_HI := G_HI
  have F_HL := G_HL
  have F_HY6 := G_HY6
  have F_RO := G_RO
  have F_PT := G_PT
  have F_LE6 := G_LE6
  have F_TA6 := G_TA6
  have F_TE := G_TE
  have F_TE6 := G_TE6
  show W p l e room_1 s m #[Value.ref b] below meth c H2 locs2 (cells + 0 + 0) (slots + 0 + 0) (lw_Z below #[Value.ref b] s) (F0 m 996 ls [.int x2])
  have hS := hS2
  refine lv_pop (pc := 996) hx hb d_law_law_996 rfl ?_
  refine lv_goto (pc := 997) (tgt := 1294) hx hb d_law_law_997 (by decide) ?_
  have q1 : cells + 0 + 0 = cells + 0 := by omega
  have q2 : slots + 0 + 0 = slots + 0 := by omega
  rw [q1, q2]
  exact kk k ta2 ws2 H2 locs2 hP2 hD2 hS2 ⟨hth2, ⟨hle2 _ _ (hle1 _ _ a1), hle2 _ _ (hle1 _ _ a2), hle2 _ _ (hle1 _ _ a3), hk⟩, hrd, F_HI, F_HL, F_HY6, F_RO, F_PT, F_LE6, F_TA6, F_TE6⟩ (fun q => tm17 (tn17 q)) (fun q => tm20 (tn20 q))
set_option maxRecDepth 100000 in
set_option maxHeartbeats 4000000 in
/-- route -/
theorem lc_route_c {p : Program} {e : Env} {s : State} {m : MethodId} {below : List Frame} {meth : Method} {c : Code} {l : Launch} {b L : Nat} {xs : Nat → Int32} (C0 : lw_At p s m meth c b L xs) (hL : L ≤ 3072) {D : va_G} {kA : Nat → ClassId} (hK : va_K D classes (TY kA) s) (hN : nsr kA (fun q : Nat => s.heap.size ≤ q) s) (h_Ho_route_at_c : ct_ok PRD l D kA GG y_Ho_route_at_c z_Ho_route_at_c e_Ho_route_at_c) (h_Mo_route : ct_ok PRD l D kA GG y_Mo_route z_Mo_route e_Mo_route) {h1 h2 rd i n : Nat} (hi : i + 6 ≤ L) {ta : Nat → Option Nat} {ws : va_W} {H : Heap} {locs : List Loc} {ls : Array Slot} {cells slots : Nat} (hP : va_P D classes ws H) (hD : va_D (fun q : Nat => s.heap.size ≤ q) ws) (hS : va_S (fun q : Nat => s.heap.size ≤ q) s.heap H locs) (hI : LI kA h1 h2 rd i n ta ws) (hl : lv_has ls 4 [(3, .int (nI i)), (2, .ref h2), (1, .ref h1), (0, .ref b)]) (hc : cells + 0 ≤ 60000) (hs : slots + 0 ≤ 8922250) (htl : TN ws h1 20) (kk : ∀ (k : Nat) (ta : Nat → Option Nat) (w2 : va_W) (H : Heap) (locs : List Loc), va_P D classes w2 H → va_D (fun q : Nat => s.heap.size ≤ q) w2 → va_S (fun q : Nat => s.heap.size ≤ q) s.heap H locs → LI kA h1 h2 rd (i + 6) k ta w2 → (TN ws h1 17 → TN w2 h1 17) → (TN ws h1 20 → TN w2 h1 20) → W p l e room_1 s m #[Value.ref b] below meth c H locs (cells + 0) (slots + 0) (lw_Z below #[Value.ref b] s) (F0 m 1294 ls [])) : W p l e room_1 s m #[Value.ref b] below meth c H locs cells slots (lw_Z below #[Value.ref b] s) (F0 m 967 ls []) := by
  obtain ⟨hx, hb, hr, hml, hown, hts0, hX, hbl, hlocks, hgv⟩ := id C0
  have hts : ∀ w ∈ lw_g, w.before #[Value.ref b] s = true := fun w h => hts0 w (lw_gt h)
  have X : cx p s m #[Value.ref b] meth c b_law_law 4 ret "DrawingHouseLaw" meth.name := ⟨hx, hb, hml, hown, hts, hr, hlocks, rfl⟩
  obtain ⟨A, hAe⟩ : ∃ A : Nat → Prop, A = fun q : Nat => s.heap.size ≤ q := ⟨_, rfl⟩
  have hA : ∀ q : Nat, s.heap.size ≤ q → A q := fun q h => by rw [hAe]; exact h
  have hbA : ¬ A b := by rw [hAe]; exact Nat.not_le.mpr hbl
  rw [← hAe] at hD hS hN kk
  obtain ⟨hth, ⟨a1, a2, a3, hn⟩, hrd, F_HI, F_HL, F_HY, F_RO, F_PT, F_LE, F_TA, F_TE⟩ := hI
  obtain ⟨k, hk, hkk⟩ : ∃ k : Nat, k ≤ 2000 ∧ k = n := ⟨n, hn, rfl⟩
  obtain ⟨vt, hvt, hvk⟩ : ∃ v, L_fd ws h1 20 v ∧ tv_ok ta (2, 0, 0, [9]) v := by
    obtain ⟨v, q1, q2⟩ := L_fdx hth a1 (k := 20) (t := (3, 0, 0, [9])) rfl
    obtain ⟨a, q3⟩ := htl
    have e := L_fd1 hD q1 q3
    subst e
    rcases tv_nref q2 rfl with z | ⟨a2, r2, z, z2, z3⟩
    · cases z
    · exact ⟨_, q1, Or.inr (Or.inr (Or.inl ⟨rfl, a2, r2, z, z2, z3⟩))⟩
  have henv : sy_env ta L_env (L_vs h1 h2 rd i n k) := L_envs a1 a2 a3 (by omega) hn hk
  refine lv_aload_n (pc := 967) hx hb d_law_law_967 rfl (lv_at hl 2 rfl) ?_
  refine lv_aload_n (pc := 968) hx hb d_law_law_968 rfl (lv_at hl 3 rfl) ?_
  refine lv_iload_n (pc := 969) hx hb d_law_law_969 rfl (lv_at hl 0 rfl) ?_
  refine lv_iconst (pc := 970) (v := 1) hx hb d_law_law_970 (by decide) ?_
  refine k_add (pc := 971) (x := i) (y := 1) hx hb d_law_law_971 ?_
  refine sc_ld (pc := 972) (j := i + 1) hx hb hX hbl hbA hS (by omega) (by omega) d_law_law_972 ?_
  refine lv_aload_n (pc := 973) hx hb d_law_law_973 rfl (lv_at hl 3 rfl) ?_
  refine lv_iload_n (pc := 974) hx hb d_law_law_974 rfl (lv_at hl 0 rfl) ?_
  refine lv_iconst (pc := 975) (v := 2) hx hb d_law_law_975 (by decide) ?_
  refine k_add (pc := 976) (x := i) (y := 2) hx hb d_law_law_976 ?_
  refine sc_ld (pc := 977) (j := i + 2) hx hb hX hbl hbA hS (by omega) (by omega) d_law_law_977 ?_
  refine W.eq (g2 := F0 m 978 ls (List.reverse [.ref h1, .int (xs (i + 1)), .int (xs (i + 2))] ++ [])) rfl ?_
  refine (cl_virtual (y := y_Ho_route_at_c) (ci := 12) rfl rfl ⟨_, _, rfl⟩ (by decide +kernel) h_Ho_route_at_c wm_1855 wm_1 wm_1852 wm_1853 wm_1854 ⟨by decide, by decide, by decide +kernel⟩ (by decide) : cl_ok PRD l D kA GG "DrawingHouseLaw" _ _ e_Ho_route_at_c) p e room_1 s m #[Value.ref b] below meth c H locs cells slots (lw_Z below #[Value.ref b] s) b_law_law 978 4 ret meth.name A ws ta ls [.ref h1, .int (xs (i + 1)), .int (xs (i + 2))] [vt] [] [] X hK hN hA hP hD hS hth (ag_c (tv_rf a1) (ag_c tv_top (ag_c tv_top (ag_n)))) (gv_fd hvt hvk) (ag_n) (show ∀ f ∈ ([(20, [0], [62, 0])] : List fc_T), fc_1 PRD f ws ([.ref h1, .int (xs (i + 1)), .int (xs (i + 2))] ++ [vt] ++ []) from (List.forall_mem_cons.mpr ⟨⟨nf_in (N := 4) rfl rfl, F_HI⟩, (fun _ h => by cases h)⟩)) (by first | decide | exact Nat.le_of_ble_eq_true rfl) (by first | decide | exact Nat.le_of_ble_eq_true rfl) (by first | decide | exact Nat.le_of_ble_eq_true rfl) (show cells + 0 ≤ 60000 by omega) (show slots + 0 ≤ 8922250 by omega) hl.1 d_law_law_978 (fun ta1 ws1 H1 locs1 r hle1 hth1 hP1 hD1 hS1 hrt hpo _ hkp => ?_)
  obtain ⟨x1, rfl⟩ := rt_i rfl hrt
  have hpost : ∀ f ∈ ([(20, [0], [62, 0])] : List fc_T), fc_1 PRD f ws1 ([.ref h1, .int (xs (i + 1)), .int (xs (i + 2))] ++ [vt] ++ [] ++ [.int x1]) := hpo.1
  have hkeep := L_keep (M := [(20, [0], [62, 0]), (20, [0], [62, 1000000]), (20, [0, 2], [62, 2000000]), (20, [1], [60, 0, 3, 198, 2, 3, 4]), (20, [1], [60, 0, 3, 367, 110, 111, 112]), (20, [3, 4], [50, 1, 0, 1, 1, 3, 2, 0, 1, 1, 1]), (20, [1, 4], [50, 1, 0, 0, 1, 3, 2, 0, 0, 1, 1]), (20, [1, 3, 4], [60, 0, 2, 1109, 1, 1000])]) (S := [(20, [0], [62, 1000000]), (20, [0, 2], [62, 2000000]), (20, [1], [60, 0, 3, 198, 2, 3, 4]), (20, [1], [60, 0, 3, 367, 110, 111, 112]), (20, [3, 4], [50, 1, 0, 1, 1, 3, 2, 0, 1, 1, 1]), (20, [1, 4], [50, 1, 0, 0, 1, 3, 2, 0, 0, 1, 1]), (20, [1, 3, 4], [60, 0, 2, 1109, 1, 1000])]) hth henv hD hle1 hth1 hD1 hkp (by decide +kernel) (List.forall_mem_cons.mpr ⟨F_HI, (List.forall_mem_cons.mpr ⟨F_HL, (List.forall_mem_cons.mpr ⟨F_HY, (List.forall_mem_cons.mpr ⟨F_RO, (List.forall_mem_cons.mpr ⟨F_PT, (List.forall_mem_cons.mpr ⟨F_LE, (List.forall_mem_cons.mpr ⟨F_TA, (List.forall_mem_cons.mpr ⟨F_TE, (fun _ h => by cases h)⟩)⟩)⟩)⟩)⟩)⟩)⟩)⟩)
  have G_HL : fc_m PRD 20 [.ref h1] [62, 1000000] ws1 := hkeep _ List.mem_cons_self
  have G_HY : fc_m PRD 20 [.ref h1, .int (nI i)] [62, 2000000] ws1 := hkeep _ (List.mem_cons_of_mem _ List.mem_cons_self)
  have G_RO : fc_m PRD 20 [.ref h2] [60, 0, 3, 198, 2, 3, 4] ws1 := hkeep _ (List.mem_cons_of_mem _ (List.mem_cons_of_mem _ List.mem_cons_self))
  have G_PT : fc_m PRD 20 [.ref h2] [60, 0, 3, 367, 110, 111, 112] ws1 := hkeep _ (List.mem_cons_of_mem _ (List.mem_cons_of_mem _ (List.mem_cons_of_mem _ List.mem_cons_self)))
  have G_LE : fc_m PRD 20 [.ref rd, .int (nI n)] [50, 1, 0, 1, 1, 3, 2, 0, 1, 1, 1] ws1 := hkeep _ (List.mem_cons_of_mem _ (List.mem_cons_of_mem _ (List.mem_cons_of_mem _ (List.mem_cons_of_mem _ List.mem_cons_self))))
  have G_TA : fc_m PRD 20 [.ref h2, .int (nI n)] [50, 1, 0, 0, 1, 3, 2, 0, 0, 1, 1] ws1 := hkeep _ (List.mem_cons_of_mem _ (List.mem_cons_of_mem _ (List.mem_cons_of_mem _ (List.mem_cons_of_mem _ (List.mem_cons_of_mem _ List.mem_cons_self)))))
  have G_TE : fc_m PRD 20 [.ref h2, .ref rd, .int (nI n)] [60, 0, 2, 1109, 1, 1000] ws1 := hkeep _ (List.mem_cons_of_mem _ (List.mem_cons_of_mem _ (List.mem_cons_of_mem _ (List.mem_cons_of_mem _ (List.mem_cons_of_mem _ (List.mem_cons_of_mem _ List.mem_cons_self))))))
  have G_HI : fc_m PRD 20 [.ref h1] [62, 0] ws1 := (hpost _ List.mem_cons_self).2
  have G_HY6 : fc_m PRD 20 [.ref h1, .int (nI (i + 6))] [62, 2000000] ws1 := by have z : HY ws1 (.ref h1) ((nI i).toInt + ((2000000 : Nat) - 2000000 : Int)) := G_HY; show HY ws1 (.ref h1) ((nI (i + 6)).toInt + ((2000000 : Nat) - 2000000 : Int)); rw [nI_toInt (by omega)] at z ⊢; exact hy_le z (by omega)
  have G_LE6 : fc_m PRD 20 [.ref rd, .int (nI k)] [50, 1, 0, 1, 1, 3, 2, 0, 1, 1, 1] ws1 := by rw [hkk]; exact G_LE
  have hrd : L_rd ws1 h1 rd := L_rdk hrd a1 hkp (by decide +kernel)
  have tn17 : TN ws h1 17 → TN ws1 h1 17 := TN_kp a1 hkp (by decide +kernel)
  have tn20 : TN ws h1 20 → TN ws1 h1 20 := TN_kp a1 hkp (by decide +kernel)
  have F_HI := G_HI
  have F_HL := G_HL
  have F_HY6 := G_HY6
  have F_RO := G_RO
  have F_PT := G_PT
  have F_LE6 := G_LE6
  have F_TA := G_TA
  have F_TE := G_TE
  show W p l e room_1 s m #[Value.ref b] below meth c H1 locs1 (cells + 0) (slots + 0) (lw_Z below #[Value.ref b] s) (F0 m 981 ls [.int x1])
  have hS := hS1
  refine lv_pop (pc := 981) hx hb d_law_law_981 rfl ?_
  refine lv_aload_n (pc := 982) hx hb d_law_law_982 rfl (lv_at hl 1 rfl) ?_
  refine lv_aload_n (pc := 983) hx hb d_law_law_983 rfl (lv_at hl 3 rfl) ?_
  refine lv_iload_n (pc := 984) hx hb d_law_law_984 rfl (lv_at hl 0 rfl) ?_
  refine lv_iconst (pc := 985) (v := 1) hx hb d_law_law_985 (by decide) ?_
  refine k_add (pc := 986) (x := i) (y := 1) hx hb d_law_law_986 ?_
  refine sc_ld (pc := 987) (j := i + 1) hx hb hX hbl hbA hS (by omega) (by omega) d_law_law_987 ?_
  refine lv_aload_n (pc := 988) hx hb d_law_law_988 rfl (lv_at hl 3 rfl) ?_
  refine lv_iload_n (pc := 989) hx hb d_law_law_989 rfl (lv_at hl 0 rfl) ?_
  refine lv_iconst (pc := 990) (v := 2) hx hb d_law_law_990 (by decide) ?_
  refine k_add (pc := 991) (x := i) (y := 2) hx hb d_law_law_991 ?_
  refine sc_ld (pc := 992) (j := i + 2) hx hb hX hbl hbA hS (by omega) (by omega) d_law_law_992 ?_
  refine W.eq (g2 := F0 m 993 ls (List.reverse [.ref h2, .int (xs (i + 1)), .int (xs (i + 2))] ++ [])) rfl ?_
  refine (cl_virtual (y := y_Mo_route) (ci := 13) rfl rfl ⟨_, _, rfl⟩ (by decide +kernel) h_Mo_route wm_3665 wm_9 wm_3662 wm_3663 wm_3664 ⟨by decide, by decide, by decide +kernel⟩ (by decide) : cl_ok PRD l D kA GG "DrawingHouseLaw" _ _ e_Mo_route) p e room_1 s m #[Value.ref b] below meth c H1 locs1 (cells + 0) (slots + 0) (lw_Z below #[Value.ref b] s) b_law_law 993 4 ret meth.name A ws1 ta1 ls [.ref h2, .int (xs (i + 1)), .int (xs (i + 2))] [] [] [] X hK hN hA hP1 hD1 hS1 hth1 (ag_c (tv_rf (hle1 _ _ a2)) (ag_c tv_top (ag_c tv_top (ag_n)))) (gv_n) (ag_n) (show ∀ f ∈ ([(20, [0], [60, 0, 3, 198, 2, 3, 4])] : List fc_T), fc_1 PRD f ws1 ([.ref h2, .int (xs (i + 1)), .int (xs (i + 2))] ++ [] ++ []) from (List.forall_mem_cons.mpr ⟨⟨nf_in (N := 3) rfl rfl, F_RO⟩, (fun _ h => by cases h)⟩)) (by first | decide | exact Nat.le_of_ble_eq_true rfl) (by first | decide | exact Nat.le_of_ble_eq_true rfl) (by first | decide | exact Nat.le_of_ble_eq_true rfl) (show (cells + 0) + 0 ≤ 60000 by omega) (show (slots + 0) + 0 ≤ 8922250 by omega) hl.1 d_law_law_993 (fun ta2 ws2 H2 locs2 r hle2 hth2 hP2 hD2 hS2 hrt hpo _ hkp => ?_)
  obtain ⟨x2, rfl⟩ := rt_i rfl hrt
  have hpost : ∀ f ∈ ([] : List fc_T), fc_1 PRD f ws2 ([.ref h2, .int (xs (i + 1)), .int (xs (i + 2))] ++ [] ++ [] ++ [.int x2]) := hpo.1
  have hkeep := L_keep (M := [(20, [0], [62, 0]), (20, [0], [62, 1000000]), (20, [0, 6], [62, 2000000]), (20, [1], [60, 0, 3, 198, 2, 3, 4]), (20, [1], [60, 0, 3, 367, 110, 111, 112]), (20, [3, 5], [50, 1, 0, 1, 1, 3, 2, 0, 1, 1, 1]), (20, [1, 4], [50, 1, 0, 0, 1, 3, 2, 0, 0, 1, 1]), (20, [1, 3, 4], [60, 0, 2, 1109, 1, 1000])]) (S := [(20, [0], [62, 0]), (20, [0], [62, 1000000]), (20, [0, 6], [62, 2000000]), (20, [1], [60, 0, 3, 198, 2, 3, 4]), (20, [1], [60, 0, 3, 367, 110, 111, 112]), (20, [3, 5], [50, 1, 0, 1, 1, 3, 2, 0, 1, 1, 1]), (20, [1, 4], [50, 1, 0, 0, 1, 3, 2, 0, 0, 1, 1]), (20, [1, 3, 4], [60, 0, 2, 1109, 1, 1000])]) hth1 (sy_env_up hle1 henv) hD1 hle2 hth2 hD2 hkp (by decide +kernel) (List.forall_mem_cons.mpr ⟨F_HI, (List.forall_mem_cons.mpr ⟨F_HL, (List.forall_mem_cons.mpr ⟨F_HY6, (List.forall_mem_cons.mpr ⟨F_RO, (List.forall_mem_cons.mpr ⟨F_PT, (List.forall_mem_cons.mpr ⟨F_LE6, (List.forall_mem_cons.mpr ⟨F_TA, (List.forall_mem_cons.mpr ⟨F_TE, (fun _ h => by cases h)⟩)⟩)⟩)⟩)⟩)⟩)⟩)⟩)
  have G_HI : fc_m PRD 20 [.ref h1] [62, 0] ws2 := hkeep _ List.mem_cons_self
  have G_HL : fc_m PRD 20 [.ref h1] [62, 1000000] ws2 := hkeep _ (List.mem_cons_of_mem _ List.mem_cons_self)
  have G_HY6 : fc_m PRD 20 [.ref h1, .int (nI (i + 6))] [62, 2000000] ws2 := hkeep _ (List.mem_cons_of_mem _ (List.mem_cons_of_mem _ List.mem_cons_self))
  have G_RO : fc_m PRD 20 [.ref h2] [60, 0, 3, 198, 2, 3, 4] ws2 := hkeep _ (List.mem_cons_of_mem _ (List.mem_cons_of_mem _ (List.mem_cons_of_mem _ List.mem_cons_self)))
  have G_PT : fc_m PRD 20 [.ref h2] [60, 0, 3, 367, 110, 111, 112] ws2 := hkeep _ (List.mem_cons_of_mem _ (List.mem_cons_of_mem _ (List.mem_cons_of_mem _ (List.mem_cons_of_mem _ List.mem_cons_self))))
  have G_LE6 : fc_m PRD 20 [.ref rd, .int (nI k)] [50, 1, 0, 1, 1, 3, 2, 0, 1, 1, 1] ws2 := hkeep _ (List.mem_cons_of_mem _ (List.mem_cons_of_mem _ (List.mem_cons_of_mem _ (List.mem_cons_of_mem _ (List.mem_cons_of_mem _ List.mem_cons_self)))))
  have G_TA : fc_m PRD 20 [.ref h2, .int (nI n)] [50, 1, 0, 0, 1, 3, 2, 0, 0, 1, 1] ws2 := hkeep _ (List.mem_cons_of_mem _ (List.mem_cons_of_mem _ (List.mem_cons_of_mem _ (List.mem_cons_of_mem _ (List.mem_cons_of_mem _ (List.mem_cons_of_mem _ List.mem_cons_self))))))
  have G_TE : fc_m PRD 20 [.ref h2, .ref rd, .int (nI n)] [60, 0, 2, 1109, 1, 1000] ws2 := hkeep _ (List.mem_cons_of_mem _ (List.mem_cons_of_mem _ (List.mem_cons_of_mem _ (List.mem_cons_of_mem _ (List.mem_cons_of_mem _ (List.mem_cons_of_mem _ (List.mem_cons_of_mem _ List.mem_cons_self)))))))
  have G_TA6 : fc_m PRD 20 [.ref h2, .int (nI k)] [50, 1, 0, 0, 1, 3, 2, 0, 0, 1, 1] ws2 := by rw [hkk]; exact G_TA
  have G_TE6 : fc_m PRD 20 [.ref h2, .ref rd, .int (nI k)] [60, 0, 2, 1109, 1, 1000] ws2 := by have z : TEQ (w_ei ws2 (w_ar ws2 (.ref h2) 1)) (w_ei ws2 (w_ar ws2 (.ref rd) 0)) (nI n).toInt := G_TE; have z2 : TEQ (w_ei ws2 (w_ar ws2 (.ref h2) 1)) (w_ei ws2 (w_ar ws2 (.ref rd) 0)) (nI k).toInt := L_tek z (show k ≤ n by omega) hn; exact z2
  have hrd : L_rd ws2 h1 rd := L_rdk hrd (hle1 _ _ a1) hkp (by decide +kernel)
  have tm17 : TN ws1 h1 17 → TN ws2 h1 17 := TN_kp (hle1 _ _ a1) hkp (by decide +kernel)
  have tm20 : TN ws1 h1 20 → TN ws2 h1 20 := TN_kp (hle1 _ _ a1) hkp (by decide +kernel)
  have F_HI := G_HI
  have F_HL := G_HL
  have F_HY6 := G_HY6
  have F_RO := G_RO
  have F_PT := G_PT
  have F_LE6 := G_LE6
  have F_TA6 := G_TA6
  have F_TE := G_TE
  have F_TE6 := G_TE6
  show W p l e room_1 s m #[Value.ref b] below meth c H2 locs2 (cells + 0 + 0) (slots + 0 + 0) (lw_Z below #[Value.ref b] s) (F0 m 996 ls [.int x2])
  have hS := hS2
  refine lv_pop (pc := 996) hx hb d_law_law_996 rfl ?_
  refine lv_goto (pc := 997) (tgt := 1294) hx hb d_law_law_997 (by decide) ?_
  have q1 : cells + 0 + 0 = cells + 0 := by omega
  have q2 : slots + 0 + 0 = slots + 0 := by omega
  rw [q1, q2]
  exact kk k ta2 ws2 H2 locs2 hP2 hD2 hS2 ⟨hth2, ⟨hle2 _ _ (hle1 _ _ a1), hle2 _ _ (hle1 _ _ a2), hle2 _ _ (hle1 _ _ a3), hk⟩, hrd, F_HI, F_HL, F_HY6, F_RO, F_PT, F_LE6, F_TA6, F_TE6⟩ (fun q => tm17 (tn17 q)) (fun q => tm20 (tn20 q))
set_option maxRecDepth 100000 in
set_option maxHeartbeats 4000000 in
/-- route -/
theorem lc_route_d {p : Program} {e : Env} {s : State} {m : MethodId} {below : List Frame} {meth : Method} {c : Code} {l : Launch} {b L : Nat} {xs : Nat → Int32} (C0 : lw_At p s m meth c b L xs) (hL : L ≤ 3072) {D : va_G} {kA : Nat → ClassId} (hK : va_K D classes (TY kA) s) (hN : nsr kA (fun q : Nat => s.heap.size ≤ q) s) (h_Ho_route_at_d : ct_ok PRD l D kA GG y_Ho_route_at_d z_Ho_route_at_d e_Ho_route_at_d) (h_Mo_route : ct_ok PRD l D kA GG y_Mo_route z_Mo_route e_Mo_route) {h1 h2 rd i n : Nat} (hi : i + 6 ≤ L) {ta : Nat → Option Nat} {ws : va_W} {H : Heap} {locs : List Loc} {ls : Array Slot} {cells slots : Nat} (hP : va_P D classes ws H) (hD : va_D (fun q : Nat => s.heap.size ≤ q) ws) (hS : va_S (fun q : Nat => s.heap.size ≤ q) s.heap H locs) (hI : LI kA h1 h2 rd i n ta ws) (hl : lv_has ls 4 [(3, .int (nI i)), (2, .ref h2), (1, .ref h1), (0, .ref b)]) (hc : cells + 8 ≤ 60000) (hs : slots + 126078 ≤ 8922250) (ha1 : 0 ≤ (xs (i + 1)).toInt ∧ (xs (i + 1)).toInt ≤ 3) (hx0 : fc_m PRD 20 [.ref h1, .int (xs (i + 1)), .int (xs (i + 2))] [51, 0, 0, 2, 4001000003, 4001000000, 2, 10, 7, 6, 14, 0, 3, 4001, 1, 1, 0, -1, 2, 6, 0, 2, 0, 0, 1, 2, 0, 6, 4, 2, 1, 2, 0, 1, 14, 0, 0, 4001, 1, 1] ws) (kk : ∀ (k : Nat) (ta : Nat → Option Nat) (w2 : va_W) (H : Heap) (locs : List Loc), va_P D classes w2 H → va_D (fun q : Nat => s.heap.size ≤ q) w2 → va_S (fun q : Nat => s.heap.size ≤ q) s.heap H locs → LI kA h1 h2 rd (i + 6) k ta w2 → (TN ws h1 17 → TN w2 h1 17) → TN w2 h1 20 → W p l e room_1 s m #[Value.ref b] below meth c H locs (cells + 8) (slots + 126078) (lw_Z below #[Value.ref b] s) (F0 m 1294 ls [])) : W p l e room_1 s m #[Value.ref b] below meth c H locs cells slots (lw_Z below #[Value.ref b] s) (F0 m 967 ls []) := by
  obtain ⟨hx, hb, hr, hml, hown, hts0, hX, hbl, hlocks, hgv⟩ := id C0
  have hts : ∀ w ∈ lw_g, w.before #[Value.ref b] s = true := fun w h => hts0 w (lw_gt h)
  have X : cx p s m #[Value.ref b] meth c b_law_law 4 ret "DrawingHouseLaw" meth.name := ⟨hx, hb, hml, hown, hts, hr, hlocks, rfl⟩
  obtain ⟨A, hAe⟩ : ∃ A : Nat → Prop, A = fun q : Nat => s.heap.size ≤ q := ⟨_, rfl⟩
  have hA : ∀ q : Nat, s.heap.size ≤ q → A q := fun q h => by rw [hAe]; exact h
  have hbA : ¬ A b := by rw [hAe]; exact Nat.not_le.mpr hbl
  rw [← hAe] at hD hS hN kk
  obtain ⟨hth, ⟨a1, a2, a3, hn⟩, hrd, F_HI, F_HL, F_HY, F_RO, F_PT, F_LE, F_TA, F_TE⟩ := hI
  obtain ⟨k, hk, hkk⟩ : ∃ k : Nat, k ≤ 2000 ∧ k = n := ⟨n, hn, rfl⟩
  obtain ⟨vt, hvt, hvk⟩ := L_fdx hth a1 (k := 20) (t := (3, 0, 0, [9])) rfl
  have henv : sy_env ta L_env (L_vs h1 h2 rd i n k) := L_envs a1 a2 a3 (by omega) hn hk
  refine lv_aload_n (pc := 967) hx hb d_law_law_967 rfl (lv_at hl 2 rfl) ?_
  refine lv_aload_n (pc := 968) hx hb d_law_law_968 rfl (lv_at hl 3 rfl) ?_
  refine lv_iload_n (pc := 969) hx hb d_law_law_969 rfl (lv_at hl 0 rfl) ?_
  refine lv_iconst (pc := 970) (v := 1) hx hb d_law_law_970 (by decide) ?_
  refine k_add (pc := 971) (x := i) (y := 1) hx hb d_law_law_971 ?_
  refine sc_ld (pc := 972) (j := i + 1) hx hb hX hbl hbA hS (by omega) (by omega) d_law_law_972 ?_
  refine lv_aload_n (pc := 973) hx hb d_law_law_973 rfl (lv_at hl 3 rfl) ?_
  refine lv_iload_n (pc := 974) hx hb d_law_law_974 rfl (lv_at hl 0 rfl) ?_
  refine lv_iconst (pc := 975) (v := 2) hx hb d_law_law_975 (by decide) ?_
  refine k_add (pc := 976) (x := i) (y := 2) hx hb d_law_law_976 ?_
  refine sc_ld (pc := 977) (j := i + 2) hx hb hX hbl hbA hS (by omega) (by omega) d_law_law_977 ?_
  refine W.eq (g2 := F0 m 978 ls (List.reverse [.ref h1, .int (xs (i + 1)), .int (xs (i + 2))] ++ [])) rfl ?_
  refine (cl_virtual (y := y_Ho_route_at_d) (ci := 12) rfl rfl ⟨_, _, rfl⟩ (by decide +kernel) h_Ho_route_at_d wm_1855 wm_1 wm_1852 wm_1853 wm_1854 ⟨by decide, by decide, by decide +kernel⟩ (by decide) : cl_ok PRD l D kA GG "DrawingHouseLaw" _ _ e_Ho_route_at_d) p e room_1 s m #[Value.ref b] below meth c H locs cells slots (lw_Z below #[Value.ref b] s) b_law_law 978 4 ret meth.name A ws ta ls [.ref h1, .int (xs (i + 1)), .int (xs (i + 2))] [vt] [] [] X hK hN hA hP hD hS hth (ag_c (tv_rf a1) (ag_c (Or.inl ⟨rfl, _, rfl, ha1.1, ha1.2⟩) (ag_c tv_top (ag_n)))) (gv_fd hvt hvk) (ag_n) (show ∀ f ∈ ([(20, [0], [62, 0]), (20, [0, 1, 2], [51, 0, 0, 2, 4001000003, 4001000000, 2, 10, 7, 6, 14, 0, 3, 4001, 1, 1, 0, -1, 2, 6, 0, 2, 0, 0, 1, 2, 0, 6, 4, 2, 1, 2, 0, 1, 14, 0, 0, 4001, 1, 1])] : List fc_T), fc_1 PRD f ws ([.ref h1, .int (xs (i + 1)), .int (xs (i + 2))] ++ [vt] ++ []) from (List.forall_mem_cons.mpr ⟨⟨nf_in (N := 4) rfl rfl, F_HI⟩, (List.forall_mem_cons.mpr ⟨⟨nf_in (N := 4) rfl rfl, hx0⟩, (fun _ h => by cases h)⟩)⟩)) (by first | decide | exact Nat.le_of_ble_eq_true rfl) (by first | decide | exact Nat.le_of_ble_eq_true rfl) (by first | decide | exact Nat.le_of_ble_eq_true rfl) (show cells + 8 ≤ 60000 by omega) (show slots + 126078 ≤ 8922250 by omega) hl.1 d_law_law_978 (fun ta1 ws1 H1 locs1 r hle1 hth1 hP1 hD1 hS1 hrt hpo _ hkp => ?_)
  obtain ⟨x1, rfl⟩ := rt_i rfl hrt
  have hpost : ∀ f ∈ ([(20, [0], [62, 0])] : List fc_T), fc_1 PRD f ws1 ([.ref h1, .int (xs (i + 1)), .int (xs (i + 2))] ++ [vt] ++ [] ++ [.int x1]) := hpo.1
  have hkeep := L_keep (M := [(20, [0], [62, 0]), (20, [0], [62, 1000000]), (20, [0, 2], [62, 2000000]), (20, [1], [60, 0, 3, 198, 2, 3, 4]), (20, [1], [60, 0, 3, 367, 110, 111, 112]), (20, [3, 4], [50, 1, 0, 1, 1, 3, 2, 0, 1, 1, 1]), (20, [1, 4], [50, 1, 0, 0, 1, 3, 2, 0, 0, 1, 1]), (20, [1, 3, 4], [60, 0, 2, 1109, 1, 1000])]) (S := [(20, [0], [62, 1000000]), (20, [0, 2], [62, 2000000]), (20, [1], [60, 0, 3, 198, 2, 3, 4]), (20, [1], [60, 0, 3, 367, 110, 111, 112]), (20, [3, 4], [50, 1, 0, 1, 1, 3, 2, 0, 1, 1, 1]), (20, [1, 4], [50, 1, 0, 0, 1, 3, 2, 0, 0, 1, 1]), (20, [1, 3, 4], [60, 0, 2, 1109, 1, 1000])]) hth henv hD hle1 hth1 hD1 hkp (by decide +kernel) (List.forall_mem_cons.mpr ⟨F_HI, (List.forall_mem_cons.mpr ⟨F_HL, (List.forall_mem_cons.mpr ⟨F_HY, (List.forall_mem_cons.mpr ⟨F_RO, (List.forall_mem_cons.mpr ⟨F_PT, (List.forall_mem_cons.mpr ⟨F_LE, (List.forall_mem_cons.mpr ⟨F_TA, (List.forall_mem_cons.mpr ⟨F_TE, (fun _ h => by cases h)⟩)⟩)⟩)⟩)⟩)⟩)⟩)⟩)
  have G_HL : fc_m PRD 20 [.ref h1] [62, 1000000] ws1 := hkeep _ List.mem_cons_self
  have G_HY : fc_m PRD 20 [.ref h1, .int (nI i)] [62, 2000000] ws1 := hkeep _ (List.mem_cons_of_mem _ List.mem_cons_self)
  have G_RO : fc_m PRD 20 [.ref h2] [60, 0, 3, 198, 2, 3, 4] ws1 := hkeep _ (List.mem_cons_of_mem _ (List.mem_cons_of_mem _ List.mem_cons_self))
  have G_PT : fc_m PRD 20 [.ref h2] [60, 0, 3, 367, 110, 111, 112] ws1 := hkeep _ (List.mem_cons_of_mem _ (List.mem_cons_of_mem _ (List.mem_cons_of_mem _ List.mem_cons_self)))
  have G_LE : fc_m PRD 20 [.ref rd, .int (nI n)] [50, 1, 0, 1, 1, 3, 2, 0, 1, 1, 1] ws1 := hkeep _ (List.mem_cons_of_mem _ (List.mem_cons_of_mem _ (List.mem_cons_of_mem _ (List.mem_cons_of_mem _ List.mem_cons_self))))
  have G_TA : fc_m PRD 20 [.ref h2, .int (nI n)] [50, 1, 0, 0, 1, 3, 2, 0, 0, 1, 1] ws1 := hkeep _ (List.mem_cons_of_mem _ (List.mem_cons_of_mem _ (List.mem_cons_of_mem _ (List.mem_cons_of_mem _ (List.mem_cons_of_mem _ List.mem_cons_self)))))
  have G_TE : fc_m PRD 20 [.ref h2, .ref rd, .int (nI n)] [60, 0, 2, 1109, 1, 1000] ws1 := hkeep _ (List.mem_cons_of_mem _ (List.mem_cons_of_mem _ (List.mem_cons_of_mem _ (List.mem_cons_of_mem _ (List.mem_cons_of_mem _ (List.mem_cons_of_mem _ List.mem_cons_self))))))
  have G_HI : fc_m PRD 20 [.ref h1] [62, 0] ws1 := (hpost _ List.mem_cons_self).2
  have G_HY6 : fc_m PRD 20 [.ref h1, .int (nI (i + 6))] [62, 2000000] ws1 := by have z : HY ws1 (.ref h1) ((nI i).toInt + ((2000000 : Nat) - 2000000 : Int)) := G_HY; show HY ws1 (.ref h1) ((nI (i + 6)).toInt + ((2000000 : Nat) - 2000000 : Int)); rw [nI_toInt (by omega)] at z ⊢; exact hy_le z (by omega)
  have G_LE6 : fc_m PRD 20 [.ref rd, .int (nI k)] [50, 1, 0, 1, 1, 3, 2, 0, 1, 1, 1] ws1 := by rw [hkk]; exact G_LE
  have hrd : L_rd ws1 h1 rd := L_rdk hrd a1 hkp (by decide +kernel)
  have tn17 : TN ws h1 17 → TN ws1 h1 17 := TN_kp a1 hkp (by decide +kernel)
  have tn20 : TN ws1 h1 20 := TN_pa hpo (by decide +kernel)
  have F_HI := G_HI
  have F_HL := G_HL
  have F_HY6 := G_HY6
  have F_RO := G_RO
  have F_PT := G_PT
  have F_LE6 := G_LE6
  have F_TA := G_TA
  have F_TE := G_TE
  show W p l e room_1 s m #[Value.ref b] below meth c H1 locs1 (cells + 8) (slots + 126078) (lw_Z below #[Value.ref b] s) (F0 m 981 ls [.int x1])
  have hS := hS1
  refine lv_pop (pc := 981) hx hb d_law_law_981 rfl ?_
  refine lv_aload_n (pc := 982) hx hb d_law_law_982 rfl (lv_at hl 1 rfl) ?_
  refine lv_aload_n (pc := 983) hx hb d_law_law_983 rfl (lv_at hl 3 rfl) ?_
  refine lv_iload_n (pc := 984) hx hb d_law_law_984 rfl (lv_at hl 0 rfl) ?_
  refine lv_iconst (pc := 985) (v := 1) hx hb d_law_law_985 (by decide) ?_
  refine k_add (pc := 986) (x := i) (y := 1) hx hb d_law_law_986 ?_
  refine sc_ld (pc := 987) (j := i + 1) hx hb hX hbl hbA hS (by omega) (by omega) d_law_law_987 ?_
  refine lv_aload_n (pc := 988) hx hb d_law_law_988 rfl (lv_at hl 3 rfl) ?_
  refine lv_iload_n (pc := 989) hx hb d_law_law_989 rfl (lv_at hl 0 rfl) ?_
  refine lv_iconst (pc := 990) (v := 2) hx hb d_law_law_990 (by decide) ?_
  refine k_add (pc := 991) (x := i) (y := 2) hx hb d_law_law_991 ?_
  refine sc_ld (pc := 992) (j := i + 2) hx hb hX hbl hbA hS (by omega) (by omega) d_law_law_992 ?_
  refine W.eq (g2 := F0 m 993 ls (List.reverse [.ref h2, .int (xs (i + 1)), .int (xs (i + 2))] ++ [])) rfl ?_
  refine (cl_virtual (y := y_Mo_route) (ci := 13) rfl rfl ⟨_, _, rfl⟩ (by decide +kernel) h_Mo_route wm_3665 wm_9 wm_3662 wm_3663 wm_3664 ⟨by decide, by decide, by decide +kernel⟩ (by decide) : cl_ok PRD l D kA GG "DrawingHouseLaw" _ _ e_Mo_route) p e room_1 s m #[Value.ref b] below meth c H1 locs1 (cells + 8) (slots + 126078) (lw_Z below #[Value.ref b] s) b_law_law 993 4 ret meth.name A ws1 ta1 ls [.ref h2, .int (xs (i + 1)), .int (xs (i + 2))] [] [] [] X hK hN hA hP1 hD1 hS1 hth1 (ag_c (tv_rf (hle1 _ _ a2)) (ag_c tv_top (ag_c tv_top (ag_n)))) (gv_n) (ag_n) (show ∀ f ∈ ([(20, [0], [60, 0, 3, 198, 2, 3, 4])] : List fc_T), fc_1 PRD f ws1 ([.ref h2, .int (xs (i + 1)), .int (xs (i + 2))] ++ [] ++ []) from (List.forall_mem_cons.mpr ⟨⟨nf_in (N := 3) rfl rfl, F_RO⟩, (fun _ h => by cases h)⟩)) (by first | decide | exact Nat.le_of_ble_eq_true rfl) (by first | decide | exact Nat.le_of_ble_eq_true rfl) (by first | decide | exact Nat.le_of_ble_eq_true rfl) (show (cells + 8) + 0 ≤ 60000 by omega) (show (slots + 126078) + 0 ≤ 8922250 by omega) hl.1 d_law_law_993 (fun ta2 ws2 H2 locs2 r hle2 hth2 hP2 hD2 hS2 hrt hpo _ hkp => ?_)
  obtain ⟨x2, rfl⟩ := rt_i rfl hrt
  have hpost : ∀ f ∈ ([] : List fc_T), fc_1 PRD f ws2 ([.ref h2, .int (xs (i + 1)), .int (xs (i + 2))] ++ [] ++ [] ++ [.int x2]) := hpo.1
  have hkeep := L_keep (M := [(20, [0], [62, 0]), (20, [0], [62, 1000000]), (20, [0, 6], [62, 2000000]), (20, [1], [60, 0, 3, 198, 2, 3, 4]), (20, [1], [60, 0, 3, 367, 110, 111, 112]), (20, [3, 5], [50, 1, 0, 1, 1, 3, 2, 0, 1, 1, 1]), (20, [1, 4], [50, 1, 0, 0, 1, 3, 2, 0, 0, 1, 1]), (20, [1, 3, 4], [60, 0, 2, 1109, 1, 1000])]) (S := [(20, [0], [62, 0]), (20, [0], [62, 1000000]), (20, [0, 6], [62, 2000000]), (20, [1], [60, 0, 3, 198, 2, 3, 4]), (20, [1], [60, 0, 3, 367, 110, 111, 112]), (20, [3, 5], [50, 1, 0, 1, 1, 3, 2, 0, 1, 1, 1]), (20, [1, 4], [50, 1, 0, 0, 1, 3, 2, 0, 0, 1, 1]), (20, [1, 3, 4], [60, 0, 2, 1109, 1, 1000])]) hth1 (sy_env_up hle1 henv) hD1 hle2 hth2 hD2 hkp (by decide +kernel) (List.forall_mem_cons.mpr ⟨F_HI, (List.forall_mem_cons.mpr ⟨F_HL, (List.forall_mem_cons.mpr ⟨F_HY6, (List.forall_mem_cons.mpr ⟨F_RO, (List.forall_mem_cons.mpr ⟨F_PT, (List.forall_mem_cons.mpr ⟨F_LE6, (List.forall_mem_cons.mpr ⟨F_TA, (List.forall_mem_cons.mpr ⟨F_TE, (fun _ h => by cases h)⟩)⟩)⟩)⟩)⟩)⟩)⟩)⟩)
  have G_HI : fc_m PRD 20 [.ref h1] [62, 0] ws2 := hkeep _ List.mem_cons_self
  have G_HL : fc_m PRD 20 [.ref h1] [62, 1000000] ws2 := hkeep _ (List.mem_cons_of_mem _ List.mem_cons_self)
  have G_HY6 : fc_m PRD 20 [.ref h1, .int (nI (i + 6))] [62, 2000000] ws2 := hkeep _ (List.mem_cons_of_mem _ (List.mem_cons_of_mem _ List.mem_cons_self))
  have G_RO : fc_m PRD 20 [.ref h2] [60, 0, 3, 198, 2, 3, 4] ws2 := hkeep _ (List.mem_cons_of_mem _ (List.mem_cons_of_mem _ (List.mem_cons_of_mem _ List.mem_cons_self)))
  have G_PT : fc_m PRD 20 [.ref h2] [60, 0, 3, 367, 110, 111, 112] ws2 := hkeep _ (List.mem_cons_of_mem _ (List.mem_cons_of_mem _ (List.mem_cons_of_mem _ (List.mem_cons_of_mem _ List.mem_cons_self))))
  have G_LE6 : fc_m PRD 20 [.ref rd, .int (nI k)] [50, 1, 0, 1, 1, 3, 2, 0, 1, 1, 1] ws2 := hkeep _ (List.mem_cons_of_mem _ (List.mem_cons_of_mem _ (List.mem_cons_of_mem _ (List.mem_cons_of_mem _ (List.mem_cons_of_mem _ List.mem_cons_self)))))
  have G_TA : fc_m PRD 20 [.ref h2, .int (nI n)] [50, 1, 0, 0, 1, 3, 2, 0, 0, 1, 1] ws2 := hkeep _ (List.mem_cons_of_mem _ (List.mem_cons_of_mem _ (List.mem_cons_of_mem _ (List.mem_cons_of_mem _ (List.mem_cons_of_mem _ (List.mem_cons_of_mem _ List.mem_cons_self))))))
  have G_TE : fc_m PRD 20 [.ref h2, .ref rd, .int (nI n)] [60, 0, 2, 1109, 1, 1000] ws2 := hkeep _ (List.mem_cons_of_mem _ (List.mem_cons_of_mem _ (List.mem_cons_of_mem _ (List.mem_cons_of_mem _ (List.mem_cons_of_mem _ (List.mem_cons_of_mem _ (List.mem_cons_of_mem _ List.mem_cons_self)))))))
  have G_TA6 : fc_m PRD 20 [.ref h2, .int (nI k)] [50, 1, 0, 0, 1, 3, 2, 0, 0, 1, 1] ws2 := by rw [hkk]; exact G_TA
  have G_TE6 : fc_m PRD 20 [.ref h2, .ref rd, .int (nI k)] [60, 0, 2, 1109, 1, 1000] ws2 := by have z : TEQ (w_ei ws2 (w_ar ws2 (.ref h2) 1)) (w_ei ws2 (w_ar ws2 (.ref rd) 0)) (nI n).toInt := G_TE; have z2 : TEQ (w_ei ws2 (w_ar ws2 (.ref h2) 1)) (w_ei ws2 (w_ar ws2 (.ref rd) 0)) (nI k).toInt := L_tek z (show k ≤ n by omega) hn; exact z2
  have hrd : L_rd ws2 h1 rd := L_rdk hrd (hle1 _ _ a1) hkp (by decide +kernel)
  have tm17 : TN ws1 h1 17 → TN ws2 h1 17 := TN_kp (hle1 _ _ a1) hkp (by decide +kernel)
  have tm20 : TN ws1 h1 20 → TN ws2 h1 20 := TN_kp (hle1 _ _ a1) hkp (by decide +kernel)
  have F_HI := G_HI
  have F_HL := G_HL
  have F_HY6 := G_HY6
  have F_RO := G_RO
  have F_PT := G_PT
  have F_LE6 := G_LE6
  have F_TA6 := G_TA6
  have F_TE := G_TE
  have F_TE6 := G_TE6
  show W p l e room_1 s m #[Value.ref b] below meth c H2 locs2 (cells + 8 + 0) (slots + 126078 + 0) (lw_Z below #[Value.ref b] s) (F0 m 996 ls [.int x2])
  have hS := hS2
  refine lv_pop (pc := 996) hx hb d_law_law_996 rfl ?_
  refine lv_goto (pc := 997) (tgt := 1294) hx hb d_law_law_997 (by decide) ?_
  have q1 : cells + 8 + 0 = cells + 8 := by omega
  have q2 : slots + 126078 + 0 = slots + 126078 := by omega
  rw [q1, q2]
  exact kk k ta2 ws2 H2 locs2 hP2 hD2 hS2 ⟨hth2, ⟨hle2 _ _ (hle1 _ _ a1), hle2 _ _ (hle1 _ _ a2), hle2 _ _ (hle1 _ _ a3), hk⟩, hrd, F_HI, F_HL, F_HY6, F_RO, F_PT, F_LE6, F_TA6, F_TE6⟩ (fun q => tm17 (tn17 q)) (tm20 tn20)
set_option maxRecDepth 100000 in
set_option maxHeartbeats 4000000 in
/-- label -/
theorem lc_label {p : Program} {e : Env} {s : State} {m : MethodId} {below : List Frame} {meth : Method} {c : Code} {l : Launch} {b L : Nat} {xs : Nat → Int32} (C0 : lw_At p s m meth c b L xs) (hL : L ≤ 3072) {D : va_G} {kA : Nat → ClassId} (hK : va_K D classes (TY kA) s) (hN : nsr kA (fun q : Nat => s.heap.size ≤ q) s) (h_Ho_label : ct_ok PRD l D kA GG y_Ho_label z_Ho_label e_Ho_label) (h_Mo_label : ct_ok PRD l D kA GG y_Mo_label z_Mo_label e_Mo_label) {h1 h2 rd i n : Nat} (hi : i + 6 ≤ L) {ta : Nat → Option Nat} {ws : va_W} {H : Heap} {locs : List Loc} {ls : Array Slot} {cells slots : Nat} (hP : va_P D classes ws H) (hD : va_D (fun q : Nat => s.heap.size ≤ q) ws) (hS : va_S (fun q : Nat => s.heap.size ≤ q) s.heap H locs) (hI : LI kA h1 h2 rd i n ta ws) (hl : lv_has ls 4 [(3, .int (nI i)), (2, .ref h2), (1, .ref h1), (0, .ref b)]) (hc : cells + 0 ≤ 60000) (hs : slots + 0 ≤ 8922250) (kk : ∀ (k : Nat) (ta : Nat → Option Nat) (w2 : va_W) (H : Heap) (locs : List Loc), va_P D classes w2 H → va_D (fun q : Nat => s.heap.size ≤ q) w2 → va_S (fun q : Nat => s.heap.size ≤ q) s.heap H locs → LI kA h1 h2 rd (i + 6) k ta w2 → (TN ws h1 17 → TN w2 h1 17) → (TN ws h1 20 → TN w2 h1 20) → W p l e room_1 s m #[Value.ref b] below meth c H locs (cells + 0) (slots + 0) (lw_Z below #[Value.ref b] s) (F0 m 1294 ls [])) : W p l e room_1 s m #[Value.ref b] below meth c H locs cells slots (lw_Z below #[Value.ref b] s) (F0 m 1000 ls []) := by
  obtain ⟨hx, hb, hr, hml, hown, hts0, hX, hbl, hlocks, hgv⟩ := id C0
  have hts : ∀ w ∈ lw_g, w.before #[Value.ref b] s = true := fun w h => hts0 w (lw_gt h)
  have X : cx p s m #[Value.ref b] meth c b_law_law 4 ret "DrawingHouseLaw" meth.name := ⟨hx, hb, hml, hown, hts, hr, hlocks, rfl⟩
  obtain ⟨A, hAe⟩ : ∃ A : Nat → Prop, A = fun q : Nat => s.heap.size ≤ q := ⟨_, rfl⟩
  have hA : ∀ q : Nat, s.heap.size ≤ q → A q := fun q h => by rw [hAe]; exact h
  have hbA : ¬ A b := by rw [hAe]; exact Nat.not_le.mpr hbl
  rw [← hAe] at hD hS hN kk
  obtain ⟨hth, ⟨a1, a2, a3, hn⟩, hrd, F_HI, F_HL, F_HY, F_RO, F_PT, F_LE, F_TA, F_TE⟩ := hI
  obtain ⟨k, hk, hkk⟩ : ∃ k : Nat, k ≤ 2000 ∧ k = n := ⟨n, hn, rfl⟩
  have henv : sy_env ta L_env (L_vs h1 h2 rd i n k) := L_envs a1 a2 a3 (by omega) hn hk
  refine lv_aload_n (pc := 1000) hx hb d_law_law_1000 rfl (lv_at hl 2 rfl) ?_
  refine lv_aload_n (pc := 1001) hx hb d_law_law_1001 rfl (lv_at hl 3 rfl) ?_
  refine lv_iload_n (pc := 1002) hx hb d_law_law_1002 rfl (lv_at hl 0 rfl) ?_
  refine lv_iconst (pc := 1003) (v := 1) hx hb d_law_law_1003 (by decide) ?_
  refine k_add (pc := 1004) (x := i) (y := 1) hx hb d_law_law_1004 ?_
  refine sc_ld (pc := 1005) (j := i + 1) hx hb hX hbl hbA hS (by omega) (by omega) d_law_law_1005 ?_
  refine lv_aload_n (pc := 1006) hx hb d_law_law_1006 rfl (lv_at hl 3 rfl) ?_
  refine lv_iload_n (pc := 1007) hx hb d_law_law_1007 rfl (lv_at hl 0 rfl) ?_
  refine lv_iconst (pc := 1008) (v := 2) hx hb d_law_law_1008 (by decide) ?_
  refine k_add (pc := 1009) (x := i) (y := 2) hx hb d_law_law_1009 ?_
  refine sc_ld (pc := 1010) (j := i + 2) hx hb hX hbl hbA hS (by omega) (by omega) d_law_law_1010 ?_
  refine lv_aload_n (pc := 1011) hx hb d_law_law_1011 rfl (lv_at hl 3 rfl) ?_
  refine lv_iload_n (pc := 1012) hx hb d_law_law_1012 rfl (lv_at hl 0 rfl) ?_
  refine lv_iconst (pc := 1013) (v := 3) hx hb d_law_law_1013 (by decide) ?_
  refine k_add (pc := 1014) (x := i) (y := 3) hx hb d_law_law_1014 ?_
  refine sc_ld (pc := 1015) (j := i + 3) hx hb hX hbl hbA hS (by omega) (by omega) d_law_law_1015 ?_
  refine W.eq (g2 := F0 m 1016 ls (List.reverse [.ref h1, .int (xs (i + 1)), .int (xs (i + 2)), .int (xs (i + 3))] ++ [])) rfl ?_
  refine (cl_virtual (y := y_Ho_label) (ci := 12) rfl rfl ⟨_, _, rfl⟩ (by decide +kernel) h_Ho_label wm_1974 wm_1 wm_1971 wm_1972 wm_1973 ⟨by decide, by decide, by decide +kernel⟩ (by decide) : cl_ok PRD l D kA GG "DrawingHouseLaw" _ _ e_Ho_label) p e room_1 s m #[Value.ref b] below meth c H locs cells slots (lw_Z below #[Value.ref b] s) b_law_law 1016 4 ret meth.name A ws ta ls [.ref h1, .int (xs (i + 1)), .int (xs (i + 2)), .int (xs (i + 3))] [] [] [] X hK hN hA hP hD hS hth (ag_c (tv_rf a1) (ag_c tv_top (ag_c tv_top (ag_c tv_top (ag_n))))) (gv_n) (ag_n) (fun _ h => by cases h) (by first | decide | exact Nat.le_of_ble_eq_true rfl) (by first | decide | exact Nat.le_of_ble_eq_true rfl) (by first | decide | exact Nat.le_of_ble_eq_true rfl) (show cells + 0 ≤ 60000 by omega) (show slots + 0 ≤ 8922250 by omega) hl.1 d_law_law_1016 (fun ta1 ws1 H1 locs1 r hle1 hth1 hP1 hD1 hS1 hrt hpo _ hkp => ?_)
  obtain ⟨x1, rfl⟩ := rt_i rfl hrt
  have hpost : ∀ f ∈ ([] : List fc_T), fc_1 PRD f ws1 ([.ref h1, .int (xs (i + 1)), .int (xs (i + 2)), .int (xs (i + 3))] ++ [] ++ [] ++ [.int x1]) := hpo.1
  have hkeep := L_keep (M := [(20, [0], [62, 0]), (20, [0], [62, 1000000]), (20, [0, 2], [62, 2000000]), (20, [1], [60, 0, 3, 198, 2, 3, 4]), (20, [1], [60, 0, 3, 367, 110, 111, 112]), (20, [3, 4], [50, 1, 0, 1, 1, 3, 2, 0, 1, 1, 1]), (20, [1, 4], [50, 1, 0, 0, 1, 3, 2, 0, 0, 1, 1]), (20, [1, 3, 4], [60, 0, 2, 1109, 1, 1000])]) (S := [(20, [0], [62, 0]), (20, [0], [62, 1000000]), (20, [0, 2], [62, 2000000]), (20, [1], [60, 0, 3, 198, 2, 3, 4]), (20, [1], [60, 0, 3, 367, 110, 111, 112]), (20, [3, 4], [50, 1, 0, 1, 1, 3, 2, 0, 1, 1, 1]), (20, [1, 4], [50, 1, 0, 0, 1, 3, 2, 0, 0, 1, 1]), (20, [1, 3, 4], [60, 0, 2, 1109, 1, 1000])]) hth henv hD hle1 hth1 hD1 hkp (by decide +kernel) (List.forall_mem_cons.mpr ⟨F_HI, (List.forall_mem_cons.mpr ⟨F_HL, (List.forall_mem_cons.mpr ⟨F_HY, (List.forall_mem_cons.mpr ⟨F_RO, (List.forall_mem_cons.mpr ⟨F_PT, (List.forall_mem_cons.mpr ⟨F_LE, (List.forall_mem_cons.mpr ⟨F_TA, (List.forall_mem_cons.mpr ⟨F_TE, (fun _ h => by cases h)⟩)⟩)⟩)⟩)⟩)⟩)⟩)⟩)
  have G_HI : fc_m PRD 20 [.ref h1] [62, 0] ws1 := hkeep _ List.mem_cons_self
  have G_HL : fc_m PRD 20 [.ref h1] [62, 1000000] ws1 := hkeep _ (List.mem_cons_of_mem _ List.mem_cons_self)
  have G_HY : fc_m PRD 20 [.ref h1, .int (nI i)] [62, 2000000] ws1 := hkeep _ (List.mem_cons_of_mem _ (List.mem_cons_of_mem _ List.mem_cons_self))
  have G_RO : fc_m PRD 20 [.ref h2] [60, 0, 3, 198, 2, 3, 4] ws1 := hkeep _ (List.mem_cons_of_mem _ (List.mem_cons_of_mem _ (List.mem_cons_of_mem _ List.mem_cons_self)))
  have G_PT : fc_m PRD 20 [.ref h2] [60, 0, 3, 367, 110, 111, 112] ws1 := hkeep _ (List.mem_cons_of_mem _ (List.mem_cons_of_mem _ (List.mem_cons_of_mem _ (List.mem_cons_of_mem _ List.mem_cons_self))))
  have G_LE : fc_m PRD 20 [.ref rd, .int (nI n)] [50, 1, 0, 1, 1, 3, 2, 0, 1, 1, 1] ws1 := hkeep _ (List.mem_cons_of_mem _ (List.mem_cons_of_mem _ (List.mem_cons_of_mem _ (List.mem_cons_of_mem _ (List.mem_cons_of_mem _ List.mem_cons_self)))))
  have G_TA : fc_m PRD 20 [.ref h2, .int (nI n)] [50, 1, 0, 0, 1, 3, 2, 0, 0, 1, 1] ws1 := hkeep _ (List.mem_cons_of_mem _ (List.mem_cons_of_mem _ (List.mem_cons_of_mem _ (List.mem_cons_of_mem _ (List.mem_cons_of_mem _ (List.mem_cons_of_mem _ List.mem_cons_self))))))
  have G_TE : fc_m PRD 20 [.ref h2, .ref rd, .int (nI n)] [60, 0, 2, 1109, 1, 1000] ws1 := hkeep _ (List.mem_cons_of_mem _ (List.mem_cons_of_mem _ (List.mem_cons_of_mem _ (List.mem_cons_of_mem _ (List.mem_cons_of_mem _ (List.mem_cons_of_mem _ (List.mem_cons_of_mem _ List.mem_cons_self)))))))
  have G_HY6 : fc_m PRD 20 [.ref h1, .int (nI (i + 6))] [62, 2000000] ws1 := by have z : HY ws1 (.ref h1) ((nI i).toInt + ((2000000 : Nat) - 2000000 : Int)) := G_HY; show HY ws1 (.ref h1) ((nI (i + 6)).toInt + ((2000000 : Nat) - 2000000 : Int)); rw [nI_toInt (by omega)] at z ⊢; exact hy_le z (by omega)
  have G_LE6 : fc_m PRD 20 [.ref rd, .int (nI k)] [50, 1, 0, 1, 1, 3, 2, 0, 1, 1, 1] ws1 := by rw [hkk]; exact G_LE
  have hrd : L_rd ws1 h1 rd := L_rdk hrd a1 hkp (by decide +kernel)
  have tn17 : TN ws h1 17 → TN ws1 h1 17 := TN_kp a1 hkp (by decide +kernel)
  have tn20 : TN ws h1 20 → TN ws1 h1 20 := TN_kp a1 hkp (by decide +kernel)
  have F_HI := G_HI
  have F_HL := G_HL
  have F_HY6 := G_HY6
  have F_RO := G_RO
  have F_PT := G_PT
  have F_LE6 := G_LE6
  have F_TA := G_TA
  have F_TE := G_TE
  show W p l e room_1 s m #[Value.ref b] below meth c H1 locs1 (cells + 0) (slots + 0) (lw_Z below #[Value.ref b] s) (F0 m 1019 ls [.int x1])
  have hS := hS1
  refine lv_pop (pc := 1019) hx hb d_law_law_1019 rfl ?_
  refine lv_aload_n (pc := 1020) hx hb d_law_law_1020 rfl (lv_at hl 1 rfl) ?_
  refine lv_aload_n (pc := 1021) hx hb d_law_law_1021 rfl (lv_at hl 3 rfl) ?_
  refine lv_iload_n (pc := 1022) hx hb d_law_law_1022 rfl (lv_at hl 0 rfl) ?_
  refine lv_iconst (pc := 1023) (v := 1) hx hb d_law_law_1023 (by decide) ?_
  refine k_add (pc := 1024) (x := i) (y := 1) hx hb d_law_law_1024 ?_
  refine sc_ld (pc := 1025) (j := i + 1) hx hb hX hbl hbA hS (by omega) (by omega) d_law_law_1025 ?_
  refine lv_aload_n (pc := 1026) hx hb d_law_law_1026 rfl (lv_at hl 3 rfl) ?_
  refine lv_iload_n (pc := 1027) hx hb d_law_law_1027 rfl (lv_at hl 0 rfl) ?_
  refine lv_iconst (pc := 1028) (v := 2) hx hb d_law_law_1028 (by decide) ?_
  refine k_add (pc := 1029) (x := i) (y := 2) hx hb d_law_law_1029 ?_
  refine sc_ld (pc := 1030) (j := i + 2) hx hb hX hbl hbA hS (by omega) (by omega) d_law_law_1030 ?_
  refine lv_aload_n (pc := 1031) hx hb d_law_law_1031 rfl (lv_at hl 3 rfl) ?_
  refine lv_iload_n (pc := 1032) hx hb d_law_law_1032 rfl (lv_at hl 0 rfl) ?_
  refine lv_iconst (pc := 1033) (v := 3) hx hb d_law_law_1033 (by decide) ?_
  refine k_add (pc := 1034) (x := i) (y := 3) hx hb d_law_law_1034 ?_
  refine sc_ld (pc := 1035) (j := i + 3) hx hb hX hbl hbA hS (by omega) (by omega) d_law_law_1035 ?_
  refine W.eq (g2 := F0 m 1036 ls (List.reverse [.ref h2, .int (xs (i + 1)), .int (xs (i + 2)), .int (xs (i + 3))] ++ [])) rfl ?_
  refine (cl_virtual (y := y_Mo_label) (ci := 13) rfl rfl ⟨_, _, rfl⟩ (by decide +kernel) h_Mo_label wm_3718 wm_9 wm_3715 wm_3716 wm_3717 ⟨by decide, by decide, by decide +kernel⟩ (by decide) : cl_ok PRD l D kA GG "DrawingHouseLaw" _ _ e_Mo_label) p e room_1 s m #[Value.ref b] below meth c H1 locs1 (cells + 0) (slots + 0) (lw_Z below #[Value.ref b] s) b_law_law 1036 4 ret meth.name A ws1 ta1 ls [.ref h2, .int (xs (i + 1)), .int (xs (i + 2)), .int (xs (i + 3))] [] [] [] X hK hN hA hP1 hD1 hS1 hth1 (ag_c (tv_rf (hle1 _ _ a2)) (ag_c tv_top (ag_c tv_top (ag_c tv_top (ag_n))))) (gv_n) (ag_n) (fun _ h => by cases h) (by first | decide | exact Nat.le_of_ble_eq_true rfl) (by first | decide | exact Nat.le_of_ble_eq_true rfl) (by first | decide | exact Nat.le_of_ble_eq_true rfl) (show (cells + 0) + 0 ≤ 60000 by omega) (show (slots + 0) + 0 ≤ 8922250 by omega) hl.1 d_law_law_1036 (fun ta2 ws2 H2 locs2 r hle2 hth2 hP2 hD2 hS2 hrt hpo _ hkp => ?_)
  obtain ⟨x2, rfl⟩ := rt_i rfl hrt
  have hpost : ∀ f ∈ ([] : List fc_T), fc_1 PRD f ws2 ([.ref h2, .int (xs (i + 1)), .int (xs (i + 2)), .int (xs (i + 3))] ++ [] ++ [] ++ [.int x2]) := hpo.1
  have hkeep := L_keep (M := [(20, [0], [62, 0]), (20, [0], [62, 1000000]), (20, [0, 6], [62, 2000000]), (20, [1], [60, 0, 3, 198, 2, 3, 4]), (20, [1], [60, 0, 3, 367, 110, 111, 112]), (20, [3, 5], [50, 1, 0, 1, 1, 3, 2, 0, 1, 1, 1]), (20, [1, 4], [50, 1, 0, 0, 1, 3, 2, 0, 0, 1, 1]), (20, [1, 3, 4], [60, 0, 2, 1109, 1, 1000])]) (S := [(20, [0], [62, 0]), (20, [0], [62, 1000000]), (20, [0, 6], [62, 2000000]), (20, [1], [60, 0, 3, 198, 2, 3, 4]), (20, [1], [60, 0, 3, 367, 110, 111, 112]), (20, [3, 5], [50, 1, 0, 1, 1, 3, 2, 0, 1, 1, 1]), (20, [1, 4], [50, 1, 0, 0, 1, 3, 2, 0, 0, 1, 1]), (20, [1, 3, 4], [60, 0, 2, 1109, 1, 1000])]) hth1 (sy_env_up hle1 henv) hD1 hle2 hth2 hD2 hkp (by decide +kernel) (List.forall_mem_cons.mpr ⟨F_HI, (List.forall_mem_cons.mpr ⟨F_HL, (List.forall_mem_cons.mpr ⟨F_HY6, (List.forall_mem_cons.mpr ⟨F_RO, (List.forall_mem_cons.mpr ⟨F_PT, (List.forall_mem_cons.mpr ⟨F_LE6, (List.forall_mem_cons.mpr ⟨F_TA, (List.forall_mem_cons.mpr ⟨F_TE, (fun _ h => by cases h)⟩)⟩)⟩)⟩)⟩)⟩)⟩)⟩)
  have G_HI : fc_m PRD 20 [.ref h1] [62, 0] ws2 := hkeep _ List.mem_cons_self
  have G_HL : fc_m PRD 20 [.ref h1] [62, 1000000] ws2 := hkeep _ (List.mem_cons_of_mem _ List.mem_cons_self)
  have G_HY6 : fc_m PRD 20 [.ref h1, .int (nI (i + 6))] [62, 2000000] ws2 := hkeep _ (List.mem_cons_of_mem _ (List.mem_cons_of_mem _ List.mem_cons_self))
  have G_RO : fc_m PRD 20 [.ref h2] [60, 0, 3, 198, 2, 3, 4] ws2 := hkeep _ (List.mem_cons_of_mem _ (List.mem_cons_of_mem _ (List.mem_cons_of_mem _ List.mem_cons_self)))
  have G_PT : fc_m PRD 20 [.ref h2] [60, 0, 3, 367, 110, 111, 112] ws2 := hkeep _ (List.mem_cons_of_mem _ (List.mem_cons_of_mem _ (List.mem_cons_of_mem _ (List.mem_cons_of_mem _ List.mem_cons_self))))
  have G_LE6 : fc_m PRD 20 [.ref rd, .int (nI k)] [50, 1, 0, 1, 1, 3, 2, 0, 1, 1, 1] ws2 := hkeep _ (List.mem_cons_of_mem _ (List.mem_cons_of_mem _ (List.mem_cons_of_mem _ (List.mem_cons_of_mem _ (List.mem_cons_of_mem _ List.mem_cons_self)))))
  have G_TA : fc_m PRD 20 [.ref h2, .int (nI n)] [50, 1, 0, 0, 1, 3, 2, 0, 0, 1, 1] ws2 := hkeep _ (List.mem_cons_of_mem _ (List.mem_cons_of_mem _ (List.mem_cons_of_mem _ (List.mem_cons_of_mem _ (List.mem_cons_of_mem _ (List.mem_cons_of_mem _ List.mem_cons_self))))))
  have G_TE : fc_m PRD 20 [.ref h2, .ref rd, .int (nI n)] [60, 0, 2, 1109, 1, 1000] ws2 := hkeep _ (List.mem_cons_of_mem _ (List.mem_cons_of_mem _ (List.mem_cons_of_mem _ (List.mem_cons_of_mem _ (List.mem_cons_of_mem _ (List.mem_cons_of_mem _ (List.mem_cons_of_mem _ List.mem_cons_self)))))))
  have G_TA6 : fc_m PRD 20 [.ref h2, .int (nI k)] [50, 1, 0, 0, 1, 3, 2, 0, 0, 1, 1] ws2 := by rw [hkk]; exact G_TA
  have G_TE6 : fc_m PRD 20 [.ref h2, .ref rd, .int (nI k)] [60, 0, 2, 1109, 1, 1000] ws2 := by have z : TEQ (w_ei ws2 (w_ar ws2 (.ref h2) 1)) (w_ei ws2 (w_ar ws2 (.ref rd) 0)) (nI n).toInt := G_TE; have z2 : TEQ (w_ei ws2 (w_ar ws2 (.ref h2) 1)) (w_ei ws2 (w_ar ws2 (.ref rd) 0)) (nI k).toInt := L_tek z (show k ≤ n by omega) hn; exact z2
  have hrd : L_rd ws2 h1 rd := L_rdk hrd (hle1 _ _ a1) hkp (by decide +kernel)
  have tm17 : TN ws1 h1 17 → TN ws2 h1 17 := TN_kp (hle1 _ _ a1) hkp (by decide +kernel)
  have tm20 : TN ws1 h1 20 → TN ws2 h1 20 := TN_kp (hle1 _ _ a1) hkp (by decide +kernel)
  have F_HI := G_HI
  have F_HL := G_HL
  have F_HY6 := G_HY6
  have F_RO := G_RO
  have F_PT := G_PT
  have F_LE6 := G_LE6
  have F_TA6 := G_TA6
  have F_TE := G_TE
  have F_TE6 := G_TE6
  show W p l e room_1 s m #[Value.ref b] below meth c H2 locs2 (cells + 0 + 0) (slots + 0 + 0) (lw_Z below #[Value.ref b] s) (F0 m 1039 ls [.int x2])
  have hS := hS2
  refine lv_pop (pc := 1039) hx hb d_law_law_1039 rfl ?_
  refine lv_goto (pc := 1040) (tgt := 1294) hx hb d_law_law_1040 (by decide) ?_
  have q1 : cells + 0 + 0 = cells + 0 := by omega
  have q2 : slots + 0 + 0 = slots + 0 := by omega
  rw [q1, q2]
  exact kk k ta2 ws2 H2 locs2 hP2 hD2 hS2 ⟨hth2, ⟨hle2 _ _ (hle1 _ _ a1), hle2 _ _ (hle1 _ _ a2), hle2 _ _ (hle1 _ _ a3), hk⟩, hrd, F_HI, F_HL, F_HY6, F_RO, F_PT, F_LE6, F_TA6, F_TE6⟩ (fun q => tm17 (tn17 q)) (fun q => tm20 (tn20 q))
set_option maxRecDepth 100000 in
set_option maxHeartbeats 4000000 in
/-- judge -/
theorem lc_judge {p : Program} {e : Env} {s : State} {m : MethodId} {below : List Frame} {meth : Method} {c : Code} {l : Launch} {b L : Nat} {xs : Nat → Int32} (C0 : lw_At p s m meth c b L xs) (hL : L ≤ 3072) {D : va_G} {kA : Nat → ClassId} (hK : va_K D classes (TY kA) s) (hN : nsr kA (fun q : Nat => s.heap.size ≤ q) s) (h_Ho_judge : ct_ok PRD l D kA GG y_Ho_judge z_Ho_judge e_Ho_judge) (h_Mo_judge : ct_ok PRD l D kA GG y_Mo_judge z_Mo_judge e_Mo_judge) {h1 h2 rd i n : Nat} (hi : i + 6 ≤ L) {ta : Nat → Option Nat} {ws : va_W} {H : Heap} {locs : List Loc} {ls : Array Slot} {cells slots : Nat} (hP : va_P D classes ws H) (hD : va_D (fun q : Nat => s.heap.size ≤ q) ws) (hS : va_S (fun q : Nat => s.heap.size ≤ q) s.heap H locs) (hI : LI kA h1 h2 rd i n ta ws) (hl : lv_has ls 4 [(3, .int (nI i)), (2, .ref h2), (1, .ref h1), (0, .ref b)]) (hc : cells + 0 ≤ 60000) (hs : slots + 0 ≤ 8922250) (kk : ∀ (k : Nat) (ta : Nat → Option Nat) (w2 : va_W) (H : Heap) (locs : List Loc), va_P D classes w2 H → va_D (fun q : Nat => s.heap.size ≤ q) w2 → va_S (fun q : Nat => s.heap.size ≤ q) s.heap H locs → LI kA h1 h2 rd (i + 6) k ta w2 → (TN ws h1 17 → TN w2 h1 17) → (TN ws h1 20 → TN w2 h1 20) → W p l e room_1 s m #[Value.ref b] below meth c H locs (cells + 0) (slots + 0) (lw_Z below #[Value.ref b] s) (F0 m 1294 ls [])) : W p l e room_1 s m #[Value.ref b] below meth c H locs cells slots (lw_Z below #[Value.ref b] s) (F0 m 1043 ls []) := by
  obtain ⟨hx, hb, hr, hml, hown, hts0, hX, hbl, hlocks, hgv⟩ := id C0
  have hts : ∀ w ∈ lw_g, w.before #[Value.ref b] s = true := fun w h => hts0 w (lw_gt h)
  have X : cx p s m #[Value.ref b] meth c b_law_law 4 ret "DrawingHouseLaw" meth.name := ⟨hx, hb, hml, hown, hts, hr, hlocks, rfl⟩
  obtain ⟨A, hAe⟩ : ∃ A : Nat → Prop, A = fun q : Nat => s.heap.size ≤ q := ⟨_, rfl⟩
  have hA : ∀ q : Nat, s.heap.size ≤ q → A q := fun q h => by rw [hAe]; exact h
  have hbA : ¬ A b := by rw [hAe]; exact Nat.not_le.mpr hbl
  rw [← hAe] at hD hS hN kk
  obtain ⟨hth, ⟨a1, a2, a3, hn⟩, hrd, F_HI, F_HL, F_HY, F_RO, F_PT, F_LE, F_TA, F_TE⟩ := hI
  obtain ⟨k, hk, hkk⟩ : ∃ k : Nat, k ≤ 2000 ∧ k = n := ⟨n, hn, rfl⟩
  have henv : sy_env ta L_env (L_vs h1 h2 rd i n k) := L_envs a1 a2 a3 (by omega) hn hk
  refine lv_aload_n (pc := 1043) hx hb d_law_law_1043 rfl (lv_at hl 2 rfl) ?_
  refine lv_aload_n (pc := 1044) hx hb d_law_law_1044 rfl (lv_at hl 3 rfl) ?_
  refine lv_iload_n (pc := 1045) hx hb d_law_law_1045 rfl (lv_at hl 0 rfl) ?_
  refine lv_iconst (pc := 1046) (v := 1) hx hb d_law_law_1046 (by decide) ?_
  refine k_add (pc := 1047) (x := i) (y := 1) hx hb d_law_law_1047 ?_
  refine sc_ld (pc := 1048) (j := i + 1) hx hb hX hbl hbA hS (by omega) (by omega) d_law_law_1048 ?_
  refine lv_aload_n (pc := 1049) hx hb d_law_law_1049 rfl (lv_at hl 3 rfl) ?_
  refine lv_iload_n (pc := 1050) hx hb d_law_law_1050 rfl (lv_at hl 0 rfl) ?_
  refine lv_iconst (pc := 1051) (v := 2) hx hb d_law_law_1051 (by decide) ?_
  refine k_add (pc := 1052) (x := i) (y := 2) hx hb d_law_law_1052 ?_
  refine sc_ld (pc := 1053) (j := i + 2) hx hb hX hbl hbA hS (by omega) (by omega) d_law_law_1053 ?_
  refine W.eq (g2 := F0 m 1054 ls (List.reverse [.ref h1, .int (xs (i + 1)), .int (xs (i + 2))] ++ [])) rfl ?_
  refine (cl_virtual (y := y_Ho_judge) (ci := 12) rfl rfl ⟨_, _, rfl⟩ (by decide +kernel) h_Ho_judge wm_2005 wm_1 wm_2002 wm_2003 wm_2004 ⟨by decide, by decide, by decide +kernel⟩ (by decide) : cl_ok PRD l D kA GG "DrawingHouseLaw" _ _ e_Ho_judge) p e room_1 s m #[Value.ref b] below meth c H locs cells slots (lw_Z below #[Value.ref b] s) b_law_law 1054 4 ret meth.name A ws ta ls [.ref h1, .int (xs (i + 1)), .int (xs (i + 2))] [] [] [] X hK hN hA hP hD hS hth (ag_c (tv_rf a1) (ag_c tv_top (ag_c tv_top (ag_n)))) (gv_n) (ag_n) (fun _ h => by cases h) (by first | decide | exact Nat.le_of_ble_eq_true rfl) (by first | decide | exact Nat.le_of_ble_eq_true rfl) (by first | decide | exact Nat.le_of_ble_eq_true rfl) (show cells + 0 ≤ 60000 by omega) (show slots + 0 ≤ 8922250 by omega) hl.1 d_law_law_1054 (fun ta1 ws1 H1 locs1 r hle1 hth1 hP1 hD1 hS1 hrt hpo _ hkp => ?_)
  obtain ⟨x1, rfl⟩ := rt_l rfl hrt
  have hpost : ∀ f ∈ ([] : List fc_T), fc_1 PRD f ws1 ([.ref h1, .int (xs (i + 1)), .int (xs (i + 2))] ++ [] ++ [] ++ [.long x1]) := hpo.1
  have hkeep := L_keep (M := [(20, [0], [62, 0]), (20, [0], [62, 1000000]), (20, [0, 2], [62, 2000000]), (20, [1], [60, 0, 3, 198, 2, 3, 4]), (20, [1], [60, 0, 3, 367, 110, 111, 112]), (20, [3, 4], [50, 1, 0, 1, 1, 3, 2, 0, 1, 1, 1]), (20, [1, 4], [50, 1, 0, 0, 1, 3, 2, 0, 0, 1, 1]), (20, [1, 3, 4], [60, 0, 2, 1109, 1, 1000])]) (S := [(20, [0], [62, 0]), (20, [0], [62, 1000000]), (20, [0, 2], [62, 2000000]), (20, [1], [60, 0, 3, 198, 2, 3, 4]), (20, [1], [60, 0, 3, 367, 110, 111, 112]), (20, [3, 4], [50, 1, 0, 1, 1, 3, 2, 0, 1, 1, 1]), (20, [1, 4], [50, 1, 0, 0, 1, 3, 2, 0, 0, 1, 1]), (20, [1, 3, 4], [60, 0, 2, 1109, 1, 1000])]) hth henv hD hle1 hth1 hD1 hkp (by decide +kernel) (List.forall_mem_cons.mpr ⟨F_HI, (List.forall_mem_cons.mpr ⟨F_HL, (List.forall_mem_cons.mpr ⟨F_HY, (List.forall_mem_cons.mpr ⟨F_RO, (List.forall_mem_cons.mpr ⟨F_PT, (List.forall_mem_cons.mpr ⟨F_LE, (List.forall_mem_cons.mpr ⟨F_TA, (List.forall_mem_cons.mpr ⟨F_TE, (fun _ h => by cases h)⟩)⟩)⟩)⟩)⟩)⟩)⟩)⟩)
  have G_HI : fc_m PRD 20 [.ref h1] [62, 0] ws1 := hkeep _ List.mem_cons_self
  have G_HL : fc_m PRD 20 [.ref h1] [62, 1000000] ws1 := hkeep _ (List.mem_cons_of_mem _ List.mem_cons_self)
  have G_HY : fc_m PRD 20 [.ref h1, .int (nI i)] [62, 2000000] ws1 := hkeep _ (List.mem_cons_of_mem _ (List.mem_cons_of_mem _ List.mem_cons_self))
  have G_RO : fc_m PRD 20 [.ref h2] [60, 0, 3, 198, 2, 3, 4] ws1 := hkeep _ (List.mem_cons_of_mem _ (List.mem_cons_of_mem _ (List.mem_cons_of_mem _ List.mem_cons_self)))
  have G_PT : fc_m PRD 20 [.ref h2] [60, 0, 3, 367, 110, 111, 112] ws1 := hkeep _ (List.mem_cons_of_mem _ (List.mem_cons_of_mem _ (List.mem_cons_of_mem _ (List.mem_cons_of_mem _ List.mem_cons_self))))
  have G_LE : fc_m PRD 20 [.ref rd, .int (nI n)] [50, 1, 0, 1, 1, 3, 2, 0, 1, 1, 1] ws1 := hkeep _ (List.mem_cons_of_mem _ (List.mem_cons_of_mem _ (List.mem_cons_of_mem _ (List.mem_cons_of_mem _ (List.mem_cons_of_mem _ List.mem_cons_self)))))
  have G_TA : fc_m PRD 20 [.ref h2, .int (nI n)] [50, 1, 0, 0, 1, 3, 2, 0, 0, 1, 1] ws1 := hkeep _ (List.mem_cons_of_mem _ (List.mem_cons_of_mem _ (List.mem_cons_of_mem _ (List.mem_cons_of_mem _ (List.mem_cons_of_mem _ (List.mem_cons_of_mem _ List.mem_cons_self))))))
  have G_TE : fc_m PRD 20 [.ref h2, .ref rd, .int (nI n)] [60, 0, 2, 1109, 1, 1000] ws1 := hkeep _ (List.mem_cons_of_mem _ (List.mem_cons_of_mem _ (List.mem_cons_of_mem _ (List.mem_cons_of_mem _ (List.mem_cons_of_mem _ (List.mem_cons_of_mem _ (List.mem_cons_of_mem _ List.mem_cons_self)))))))
  have G_HY6 : fc_m PRD 20 [.ref h1, .int (nI (i + 6))] [62, 2000000] ws1 := by have z : HY ws1 (.ref h1) ((nI i).toInt + ((2000000 : Nat) - 2000000 : Int)) := G_HY; show HY ws1 (.ref h1) ((nI (i + 6)).toInt + ((2000000 : Nat) - 2000000 : Int)); rw [nI_toInt (by omega)] at z ⊢; exact hy_le z (by omega)
  have G_LE6 : fc_m PRD 20 [.ref rd, .int (nI k)] [50, 1, 0, 1, 1, 3, 2, 0, 1, 1, 1] ws1 := by rw [hkk]; exact G_LE
  have hrd : L_rd ws1 h1 rd := L_rdk hrd a1 hkp (by decide +kernel)
  have tn17 : TN ws h1 17 → TN ws1 h1 17 := TN_kp a1 hkp (by decide +kernel)
  have tn20 : TN ws h1 20 → TN ws1 h1 20 := TN_kp a1 hkp (by decide +kernel)
  have F_HI := G_HI
  have F_HL := G_HL
  have F_HY6 := G_HY6
  have F_RO := G_RO
  have F_PT := G_PT
  have F_LE6 := G_LE6
  have F_TA := G_TA
  have F_TE := G_TE
  show W p l e room_1 s m #[Value.ref b] below meth c H1 locs1 (cells + 0) (slots + 0) (lw_Z below #[Value.ref b] s) (F0 m 1057 ls [.long x1])
  have hS := hS1
  refine lv_pop2_2 (pc := 1057) hx hb d_law_law_1057 rfl ?_
  refine lv_aload_n (pc := 1058) hx hb d_law_law_1058 rfl (lv_at hl 1 rfl) ?_
  refine lv_aload_n (pc := 1059) hx hb d_law_law_1059 rfl (lv_at hl 3 rfl) ?_
  refine lv_iload_n (pc := 1060) hx hb d_law_law_1060 rfl (lv_at hl 0 rfl) ?_
  refine lv_iconst (pc := 1061) (v := 1) hx hb d_law_law_1061 (by decide) ?_
  refine k_add (pc := 1062) (x := i) (y := 1) hx hb d_law_law_1062 ?_
  refine sc_ld (pc := 1063) (j := i + 1) hx hb hX hbl hbA hS (by omega) (by omega) d_law_law_1063 ?_
  refine lv_aload_n (pc := 1064) hx hb d_law_law_1064 rfl (lv_at hl 3 rfl) ?_
  refine lv_iload_n (pc := 1065) hx hb d_law_law_1065 rfl (lv_at hl 0 rfl) ?_
  refine lv_iconst (pc := 1066) (v := 2) hx hb d_law_law_1066 (by decide) ?_
  refine k_add (pc := 1067) (x := i) (y := 2) hx hb d_law_law_1067 ?_
  refine sc_ld (pc := 1068) (j := i + 2) hx hb hX hbl hbA hS (by omega) (by omega) d_law_law_1068 ?_
  refine W.eq (g2 := F0 m 1069 ls (List.reverse [.ref h2, .int (xs (i + 1)), .int (xs (i + 2))] ++ [])) rfl ?_
  refine (cl_virtual (y := y_Mo_judge) (ci := 13) rfl rfl ⟨_, _, rfl⟩ (by decide +kernel) h_Mo_judge wm_3738 wm_9 wm_3735 wm_3736 wm_3737 ⟨by decide, by decide, by decide +kernel⟩ (by decide) : cl_ok PRD l D kA GG "DrawingHouseLaw" _ _ e_Mo_judge) p e room_1 s m #[Value.ref b] below meth c H1 locs1 (cells + 0) (slots + 0) (lw_Z below #[Value.ref b] s) b_law_law 1069 4 ret meth.name A ws1 ta1 ls [.ref h2, .int (xs (i + 1)), .int (xs (i + 2))] [] [] [] X hK hN hA hP1 hD1 hS1 hth1 (ag_c (tv_rf (hle1 _ _ a2)) (ag_c tv_top (ag_c tv_top (ag_n)))) (gv_n) (ag_n) (fun _ h => by cases h) (by first | decide | exact Nat.le_of_ble_eq_true rfl) (by first | decide | exact Nat.le_of_ble_eq_true rfl) (by first | decide | exact Nat.le_of_ble_eq_true rfl) (show (cells + 0) + 0 ≤ 60000 by omega) (show (slots + 0) + 0 ≤ 8922250 by omega) hl.1 d_law_law_1069 (fun ta2 ws2 H2 locs2 r hle2 hth2 hP2 hD2 hS2 hrt hpo _ hkp => ?_)
  obtain ⟨x2, rfl⟩ := rt_l rfl hrt
  have hpost : ∀ f ∈ ([] : List fc_T), fc_1 PRD f ws2 ([.ref h2, .int (xs (i + 1)), .int (xs (i + 2))] ++ [] ++ [] ++ [.long x2]) := hpo.1
  have hkeep := L_keep (M := [(20, [0], [62, 0]), (20, [0], [62, 1000000]), (20, [0, 6], [62, 2000000]), (20, [1], [60, 0, 3, 198, 2, 3, 4]), (20, [1], [60, 0, 3, 367, 110, 111, 112]), (20, [3, 5], [50, 1, 0, 1, 1, 3, 2, 0, 1, 1, 1]), (20, [1, 4], [50, 1, 0, 0, 1, 3, 2, 0, 0, 1, 1]), (20, [1, 3, 4], [60, 0, 2, 1109, 1, 1000])]) (S := [(20, [0], [62, 0]), (20, [0], [62, 1000000]), (20, [0, 6], [62, 2000000]), (20, [1], [60, 0, 3, 198, 2, 3, 4]), (20, [1], [60, 0, 3, 367, 110, 111, 112]), (20, [3, 5], [50, 1, 0, 1, 1, 3, 2, 0, 1, 1, 1]), (20, [1, 4], [50, 1, 0, 0, 1, 3, 2, 0, 0, 1, 1]), (20, [1, 3, 4], [60, 0, 2, 1109, 1, 1000])]) hth1 (sy_env_up hle1 henv) hD1 hle2 hth2 hD2 hkp (by decide +kernel) (List.forall_mem_cons.mpr ⟨F_HI, (List.forall_mem_cons.mpr ⟨F_HL, (List.forall_mem_cons.mpr ⟨F_HY6, (List.forall_mem_cons.mpr ⟨F_RO, (List.forall_mem_cons.mpr ⟨F_PT, (List.forall_mem_cons.mpr ⟨F_LE6, (List.forall_mem_cons.mpr ⟨F_TA, (List.forall_mem_cons.mpr ⟨F_TE, (fun _ h => by cases h)⟩)⟩)⟩)⟩)⟩)⟩)⟩)⟩)
  have G_HI : fc_m PRD 20 [.ref h1] [62, 0] ws2 := hkeep _ List.mem_cons_self
  have G_HL : fc_m PRD 20 [.ref h1] [62, 1000000] ws2 := hkeep _ (List.mem_cons_of_mem _ List.mem_cons_self)
  have G_HY6 : fc_m PRD 20 [.ref h1, .int (nI (i + 6))] [62, 2000000] ws2 := hkeep _ (List.mem_cons_of_mem _ (List.mem_cons_of_mem _ List.mem_cons_self))
  have G_RO : fc_m PRD 20 [.ref h2] [60, 0, 3, 198, 2, 3, 4] ws2 := hkeep _ (List.mem_cons_of_mem _ (List.mem_cons_of_mem _ (List.mem_cons_of_mem _ List.mem_cons_self)))
  have G_PT : fc_m PRD 20 [.ref h2] [60, 0, 3, 367, 110, 111, 112] ws2 := hkeep _ (List.mem_cons_of_mem _ (List.mem_cons_of_mem _ (List.mem_cons_of_mem _ (List.mem_cons_of_mem _ List.mem_cons_self))))
  have G_LE6 : fc_m PRD 20 [.ref rd, .int (nI k)] [50, 1, 0, 1, 1, 3, 2, 0, 1, 1, 1] ws2 := hkeep _ (List.mem_cons_of_mem _ (List.mem_cons_of_mem _ (List.mem_cons_of_mem _ (List.mem_cons_of_mem _ (List.mem_cons_of_mem _ List.mem_cons_self)))))
  have G_TA : fc_m PRD 20 [.ref h2, .int (nI n)] [50, 1, 0, 0, 1, 3, 2, 0, 0, 1, 1] ws2 := hkeep _ (List.mem_cons_of_mem _ (List.mem_cons_of_mem _ (List.mem_cons_of_mem _ (List.mem_cons_of_mem _ (List.mem_cons_of_mem _ (List.mem_cons_of_mem _ List.mem_cons_self))))))
  have G_TE : fc_m PRD 20 [.ref h2, .ref rd, .int (nI n)] [60, 0, 2, 1109, 1, 1000] ws2 := hkeep _ (List.mem_cons_of_mem _ (List.mem_cons_of_mem _ (List.mem_cons_of_mem _ (List.mem_cons_of_mem _ (List.mem_cons_of_mem _ (List.mem_cons_of_mem _ (List.mem_cons_of_mem _ List.mem_cons_self)))))))
  have G_TA6 : fc_m PRD 20 [.ref h2, .int (nI k)] [50, 1, 0, 0, 1, 3, 2, 0, 0, 1, 1] ws2 := by rw [hkk]; exact G_TA
  have G_TE6 : fc_m PRD 20 [.ref h2, .ref rd, .int (nI k)] [60, 0, 2, 1109, 1, 1000] ws2 := by have z : TEQ (w_ei ws2 (w_ar ws2 (.ref h2) 1)) (w_ei ws2 (w_ar ws2 (.ref rd) 0)) (nI n).toInt := G_TE; have z2 : TEQ (w_ei ws2 (w_ar ws2 (.ref h2) 1)) (w_ei ws2 (w_ar ws2 (.ref rd) 0)) (nI k).toInt := L_tek z (show k ≤ n by omega) hn; exact z2
  have hrd : L_rd ws2 h1 rd := L_rdk hrd (hle1 _ _ a1) hkp (by decide +kernel)
  have tm17 : TN ws1 h1 17 → TN ws2 h1 17 := TN_kp (hle1 _ _ a1) hkp (by decide +kernel)
  have tm20 : TN ws1 h1 20 → TN ws2 h1 20 := TN_kp (hle1 _ _ a1) hkp (by decide +kernel)
  have F_HI := G_HI
  have F_HL := G_HL
  have F_HY6 := G_HY6
  have F_RO := G_RO
  have F_PT := G_PT
  have F_LE6 := G_LE6
  have F_TA6 := G_TA6
  have F_TE := G_TE
  have F_TE6 := G_TE6
  show W p l e room_1 s m #[Value.ref b] below meth c H2 locs2 (cells + 0 + 0) (slots + 0 + 0) (lw_Z below #[Value.ref b] s) (F0 m 1072 ls [.long x2])
  have hS := hS2
  refine lv_pop2_2 (pc := 1072) hx hb d_law_law_1072 rfl ?_
  refine lv_goto (pc := 1073) (tgt := 1294) hx hb d_law_law_1073 (by decide) ?_
  have q1 : cells + 0 + 0 = cells + 0 := by omega
  have q2 : slots + 0 + 0 = slots + 0 := by omega
  rw [q1, q2]
  exact kk k ta2 ws2 H2 locs2 hP2 hD2 hS2 ⟨hth2, ⟨hle2 _ _ (hle1 _ _ a1), hle2 _ _ (hle1 _ _ a2), hle2 _ _ (hle1 _ _ a3), hk⟩, hrd, F_HI, F_HL, F_HY6, F_RO, F_PT, F_LE6, F_TA6, F_TE6⟩ (fun q => tm17 (tn17 q)) (fun q => tm20 (tn20 q))
set_option maxRecDepth 100000 in
set_option maxHeartbeats 4000000 in
/-- style -/
theorem lc_style {p : Program} {e : Env} {s : State} {m : MethodId} {below : List Frame} {meth : Method} {c : Code} {l : Launch} {b L : Nat} {xs : Nat → Int32} (C0 : lw_At p s m meth c b L xs) (hL : L ≤ 3072) {D : va_G} {kA : Nat → ClassId} (hK : va_K D classes (TY kA) s) (hN : nsr kA (fun q : Nat => s.heap.size ≤ q) s) (h_Ho_style : ct_ok PRD l D kA GG y_Ho_style z_Ho_style e_Ho_style) (h_Mo_style : ct_ok PRD l D kA GG y_Mo_style z_Mo_style e_Mo_style) {h1 h2 rd i n : Nat} (hi : i + 6 ≤ L) {ta : Nat → Option Nat} {ws : va_W} {H : Heap} {locs : List Loc} {ls : Array Slot} {cells slots : Nat} (hP : va_P D classes ws H) (hD : va_D (fun q : Nat => s.heap.size ≤ q) ws) (hS : va_S (fun q : Nat => s.heap.size ≤ q) s.heap H locs) (hI : LI kA h1 h2 rd i n ta ws) (hl : lv_has ls 4 [(3, .int (nI i)), (2, .ref h2), (1, .ref h1), (0, .ref b)]) (hc : cells + 6 ≤ 60000) (hs : slots + 2444 ≤ 8922250) (kk : ∀ (k : Nat) (ta : Nat → Option Nat) (w2 : va_W) (H : Heap) (locs : List Loc), va_P D classes w2 H → va_D (fun q : Nat => s.heap.size ≤ q) w2 → va_S (fun q : Nat => s.heap.size ≤ q) s.heap H locs → LI kA h1 h2 rd (i + 6) k ta w2 → (TN ws h1 17 → TN w2 h1 17) → (TN ws h1 20 → TN w2 h1 20) → W p l e room_1 s m #[Value.ref b] below meth c H locs (cells + 6) (slots + 2444) (lw_Z below #[Value.ref b] s) (F0 m 1294 ls [])) : W p l e room_1 s m #[Value.ref b] below meth c H locs cells slots (lw_Z below #[Value.ref b] s) (F0 m 1076 ls []) := by
  obtain ⟨hx, hb, hr, hml, hown, hts0, hX, hbl, hlocks, hgv⟩ := id C0
  have hts : ∀ w ∈ lw_g, w.before #[Value.ref b] s = true := fun w h => hts0 w (lw_gt h)
  have X : cx p s m #[Value.ref b] meth c b_law_law 4 ret "DrawingHouseLaw" meth.name := ⟨hx, hb, hml, hown, hts, hr, hlocks, rfl⟩
  obtain ⟨A, hAe⟩ : ∃ A : Nat → Prop, A = fun q : Nat => s.heap.size ≤ q := ⟨_, rfl⟩
  have hA : ∀ q : Nat, s.heap.size ≤ q → A q := fun q h => by rw [hAe]; exact h
  have hbA : ¬ A b := by rw [hAe]; exact Nat.not_le.mpr hbl
  rw [← hAe] at hD hS hN kk
  obtain ⟨hth, ⟨a1, a2, a3, hn⟩, hrd, F_HI, F_HL, F_HY, F_RO, F_PT, F_LE, F_TA, F_TE⟩ := hI
  obtain ⟨k, hk, hkk⟩ : ∃ k : Nat, k ≤ 2000 ∧ ((0 ≤ (xs (i + 1)).toInt ∧ (xs (i + 1)).toInt ≤ 3 ∧ 0 ≤ (xs (i + 2)).toInt ∧ (xs (i + 2)).toInt ≤ (n : Int)) ∧ k = 0 ∨ ¬ (0 ≤ (xs (i + 1)).toInt ∧ (xs (i + 1)).toInt ≤ 3 ∧ 0 ≤ (xs (i + 2)).toInt ∧ (xs (i + 2)).toInt ≤ (n : Int)) ∧ k = n) := by
    by_cases q : 0 ≤ (xs (i + 1)).toInt ∧ (xs (i + 1)).toInt ≤ 3 ∧ 0 ≤ (xs (i + 2)).toInt ∧ (xs (i + 2)).toInt ≤ (n : Int)
    · exact ⟨0, by omega, Or.inl ⟨q, rfl⟩⟩
    · exact ⟨n, hn, Or.inr ⟨q, rfl⟩⟩
  have henv : sy_env ta L_env (L_vs h1 h2 rd i n k) := L_envs a1 a2 a3 (by omega) hn hk
  refine lv_aload_n (pc := 1076) hx hb d_law_law_1076 rfl (lv_at hl 2 rfl) ?_
  refine lv_aload_n (pc := 1077) hx hb d_law_law_1077 rfl (lv_at hl 3 rfl) ?_
  refine lv_iload_n (pc := 1078) hx hb d_law_law_1078 rfl (lv_at hl 0 rfl) ?_
  refine lv_iconst (pc := 1079) (v := 1) hx hb d_law_law_1079 (by decide) ?_
  refine k_add (pc := 1080) (x := i) (y := 1) hx hb d_law_law_1080 ?_
  refine sc_ld (pc := 1081) (j := i + 1) hx hb hX hbl hbA hS (by omega) (by omega) d_law_law_1081 ?_
  refine lv_aload_n (pc := 1082) hx hb d_law_law_1082 rfl (lv_at hl 3 rfl) ?_
  refine lv_iload_n (pc := 1083) hx hb d_law_law_1083 rfl (lv_at hl 0 rfl) ?_
  refine lv_iconst (pc := 1084) (v := 2) hx hb d_law_law_1084 (by decide) ?_
  refine k_add (pc := 1085) (x := i) (y := 2) hx hb d_law_law_1085 ?_
  refine sc_ld (pc := 1086) (j := i + 2) hx hb hX hbl hbA hS (by omega) (by omega) d_law_law_1086 ?_
  refine W.eq (g2 := F0 m 1087 ls (List.reverse [.ref h1, .int (xs (i + 1)), .int (xs (i + 2))] ++ [])) rfl ?_
  refine (cl_virtual (y := y_Ho_style) (ci := 12) rfl rfl ⟨_, _, rfl⟩ (by decide +kernel) h_Ho_style wm_2088 wm_1 wm_2085 wm_2086 wm_2087 ⟨by decide, by decide, by decide +kernel⟩ (by decide) : cl_ok PRD l D kA GG "DrawingHouseLaw" _ _ e_Ho_style) p e room_1 s m #[Value.ref b] below meth c H locs cells slots (lw_Z below #[Value.ref b] s) b_law_law 1087 4 ret meth.name A ws ta ls [.ref h1, .int (xs (i + 1)), .int (xs (i + 2))] [.ref rd] [.int (nI k)] [] X hK hN hA hP hD hS hth (ag_c (tv_rf a1) (ag_c tv_top (ag_c tv_top (ag_n)))) (gv_rd hrd a3) (ag_c (tv_nI hk (by decide)) (ag_n)) (show ∀ f ∈ ([(20, [0], [62, 0]), (20, [1, 2, 3, 4], [50, 1, 0, 2001, 3, 39, 2, 6, 0, 2, 0, 0, 1, 0, 2, 6, 0, 2, 1, 0, 0, 3, 2, 6, 0, 2, 0, 0, 1, 1, 2, 7, 0, 2, 1, 1, 2, 2, 1, 1, 2, 1, 3, 0, 0, 2, 35, 3, 6, 0, 2, 1, 0, 0, -1, 3, 6, 0, 2, 0, 4, 1, 0, 3, 6, 0, 2, 1, 1, 0, -1, 0, 7, 4, 3, 2, 2, 1, 0, 1, 1, 1, 1, 2, 1, 3, 2, 2, 1])] : List fc_T), fc_1 PRD f ws ([.ref h1, .int (xs (i + 1)), .int (xs (i + 2))] ++ [.ref rd] ++ [.int (nI k)]) from (List.forall_mem_cons.mpr ⟨⟨nf_in (N := 5) rfl rfl, F_HI⟩, (List.forall_mem_cons.mpr ⟨⟨nf_in (N := 5) rfl rfl, (by
      have z : w_fi ws (.ref rd) 1 = (nI n).toInt := F_LE
      rw [nI_toInt (by omega)] at z
      show (0 ≤ (xs (i + 1)).toInt ∧ (xs (i + 1)).toInt ≤ 3 ∧ 0 ≤ (xs (i + 2)).toInt ∧ (xs (i + 2)).toInt ≤ w_fi ws (.ref rd) 1 ∧ (nI k).toInt = 0) ∨ (((xs (i + 1)).toInt ≤ -1 ∨ 4 ≤ (xs (i + 1)).toInt ∨ (xs (i + 2)).toInt ≤ -1 ∨ w_fi ws (.ref rd) 1 + 1 ≤ (xs (i + 2)).toInt) ∧ (nI k).toInt = w_fi ws (.ref rd) 1)
      rw [z, nI_toInt (by omega)]
      omega)⟩, (fun _ h => by cases h)⟩)⟩)) (by first | decide | exact Nat.le_of_ble_eq_true rfl) (by first | decide | exact Nat.le_of_ble_eq_true rfl) (by first | decide | exact Nat.le_of_ble_eq_true rfl) (show cells + 6 ≤ 60000 by omega) (show slots + 2444 ≤ 8922250 by omega) hl.1 d_law_law_1087 (fun ta1 ws1 H1 locs1 r hle1 hth1 hP1 hD1 hS1 hrt hpo _ hkp => ?_)
  obtain ⟨x1, rfl⟩ := rt_i rfl hrt
  have hpost : ∀ f ∈ ([(20, [0], [62, 0]), (20, [3, 4], [50, 1, 0, 1, 1, 3, 2, 0, 1, 1, 1])] : List fc_T), fc_1 PRD f ws1 ([.ref h1, .int (xs (i + 1)), .int (xs (i + 2))] ++ [.ref rd] ++ [.int (nI k)] ++ [.int x1]) := hpo.1
  have hkeep := L_keep (M := [(20, [0], [62, 0]), (20, [0], [62, 1000000]), (20, [0, 2], [62, 2000000]), (20, [1], [60, 0, 3, 198, 2, 3, 4]), (20, [1], [60, 0, 3, 367, 110, 111, 112]), (20, [3, 4], [50, 1, 0, 1, 1, 3, 2, 0, 1, 1, 1]), (20, [1, 4], [50, 1, 0, 0, 1, 3, 2, 0, 0, 1, 1]), (20, [1, 3, 4], [60, 0, 2, 1109, 1, 1000])]) (S := [(20, [0], [62, 1000000]), (20, [0, 2], [62, 2000000]), (20, [1], [60, 0, 3, 198, 2, 3, 4]), (20, [1], [60, 0, 3, 367, 110, 111, 112]), (20, [1, 4], [50, 1, 0, 0, 1, 3, 2, 0, 0, 1, 1]), (20, [1, 3, 4], [60, 0, 2, 1109, 1, 1000])]) hth henv hD hle1 hth1 hD1 hkp (by decide +kernel) (List.forall_mem_cons.mpr ⟨F_HI, (List.forall_mem_cons.mpr ⟨F_HL, (List.forall_mem_cons.mpr ⟨F_HY, (List.forall_mem_cons.mpr ⟨F_RO, (List.forall_mem_cons.mpr ⟨F_PT, (List.forall_mem_cons.mpr ⟨F_LE, (List.forall_mem_cons.mpr ⟨F_TA, (List.forall_mem_cons.mpr ⟨F_TE, (fun _ h => by cases h)⟩)⟩)⟩)⟩)⟩)⟩)⟩)⟩)
  have G_HL : fc_m PRD 20 [.ref h1] [62, 1000000] ws1 := hkeep _ List.mem_cons_self
  have G_HY : fc_m PRD 20 [.ref h1, .int (nI i)] [62, 2000000] ws1 := hkeep _ (List.mem_cons_of_mem _ List.mem_cons_self)
  have G_RO : fc_m PRD 20 [.ref h2] [60, 0, 3, 198, 2, 3, 4] ws1 := hkeep _ (List.mem_cons_of_mem _ (List.mem_cons_of_mem _ List.mem_cons_self))
  have G_PT : fc_m PRD 20 [.ref h2] [60, 0, 3, 367, 110, 111, 112] ws1 := hkeep _ (List.mem_cons_of_mem _ (List.mem_cons_of_mem _ (List.mem_cons_of_mem _ List.mem_cons_self)))
  have G_TA : fc_m PRD 20 [.ref h2, .int (nI n)] [50, 1, 0, 0, 1, 3, 2, 0, 0, 1, 1] ws1 := hkeep _ (List.mem_cons_of_mem _ (List.mem_cons_of_mem _ (List.mem_cons_of_mem _ (List.mem_cons_of_mem _ List.mem_cons_self))))
  have G_TE : fc_m PRD 20 [.ref h2, .ref rd, .int (nI n)] [60, 0, 2, 1109, 1, 1000] ws1 := hkeep _ (List.mem_cons_of_mem _ (List.mem_cons_of_mem _ (List.mem_cons_of_mem _ (List.mem_cons_of_mem _ (List.mem_cons_of_mem _ List.mem_cons_self)))))
  have G_HI : fc_m PRD 20 [.ref h1] [62, 0] ws1 := (hpost _ List.mem_cons_self).2
  have G_LE6 : fc_m PRD 20 [.ref rd, .int (nI k)] [50, 1, 0, 1, 1, 3, 2, 0, 1, 1, 1] ws1 := (hpost _ (List.mem_cons_of_mem _ List.mem_cons_self)).2
  have G_HY6 : fc_m PRD 20 [.ref h1, .int (nI (i + 6))] [62, 2000000] ws1 := by have z : HY ws1 (.ref h1) ((nI i).toInt + ((2000000 : Nat) - 2000000 : Int)) := G_HY; show HY ws1 (.ref h1) ((nI (i + 6)).toInt + ((2000000 : Nat) - 2000000 : Int)); rw [nI_toInt (by omega)] at z ⊢; exact hy_le z (by omega)
  have hrd : L_rd ws1 h1 rd := L_rdk hrd a1 hkp (by decide +kernel)
  have tn17 : TN ws h1 17 → TN ws1 h1 17 := TN_kp a1 hkp (by decide +kernel)
  have tn20 : TN ws h1 20 → TN ws1 h1 20 := TN_kp a1 hkp (by decide +kernel)
  have F_HI := G_HI
  have F_HL := G_HL
  have F_HY6 := G_HY6
  have F_RO := G_RO
  have F_PT := G_PT
  have F_LE6 := G_LE6
  have F_TA := G_TA
  have F_TE := G_TE
  show W p l e room_1 s m #[Value.ref b] below meth c H1 locs1 (cells + 6) (slots + 2444) (lw_Z below #[Value.ref b] s) (F0 m 1090 ls [.int x1])
  have hS := hS1
  refine lv_pop (pc := 1090) hx hb d_law_law_1090 rfl ?_
  refine lv_aload_n (pc := 1091) hx hb d_law_law_1091 rfl (lv_at hl 1 rfl) ?_
  refine lv_aload_n (pc := 1092) hx hb d_law_law_1092 rfl (lv_at hl 3 rfl) ?_
  refine lv_iload_n (pc := 1093) hx hb d_law_law_1093 rfl (lv_at hl 0 rfl) ?_
  refine lv_iconst (pc := 1094) (v := 1) hx hb d_law_law_1094 (by decide) ?_
  refine k_add (pc := 1095) (x := i) (y := 1) hx hb d_law_law_1095 ?_
  refine sc_ld (pc := 1096) (j := i + 1) hx hb hX hbl hbA hS (by omega) (by omega) d_law_law_1096 ?_
  refine lv_aload_n (pc := 1097) hx hb d_law_law_1097 rfl (lv_at hl 3 rfl) ?_
  refine lv_iload_n (pc := 1098) hx hb d_law_law_1098 rfl (lv_at hl 0 rfl) ?_
  refine lv_iconst (pc := 1099) (v := 2) hx hb d_law_law_1099 (by decide) ?_
  refine k_add (pc := 1100) (x := i) (y := 2) hx hb d_law_law_1100 ?_
  refine sc_ld (pc := 1101) (j := i + 2) hx hb hX hbl hbA hS (by omega) (by omega) d_law_law_1101 ?_
  refine W.eq (g2 := F0 m 1102 ls (List.reverse [.ref h2, .int (xs (i + 1)), .int (xs (i + 2))] ++ [])) rfl ?_
  refine (cl_virtual (y := y_Mo_style) (ci := 13) rfl rfl ⟨_, _, rfl⟩ (by decide +kernel) h_Mo_style wm_3794 wm_9 wm_3791 wm_3792 wm_3793 ⟨by decide, by decide, by decide +kernel⟩ (by decide) : cl_ok PRD l D kA GG "DrawingHouseLaw" _ _ e_Mo_style) p e room_1 s m #[Value.ref b] below meth c H1 locs1 (cells + 6) (slots + 2444) (lw_Z below #[Value.ref b] s) b_law_law 1102 4 ret meth.name A ws1 ta1 ls [.ref h2, .int (xs (i + 1)), .int (xs (i + 2))] [] [.int (nI k)] [] X hK hN hA hP1 hD1 hS1 hth1 (ag_c (tv_rf (hle1 _ _ a2)) (ag_c tv_top (ag_c tv_top (ag_n)))) (gv_n) (ag_c (tv_nI hk (by decide)) (ag_n)) (show ∀ f ∈ ([(20, [0], [60, 0, 3, 198, 2, 3, 4]), (20, [1, 2, 0, 3], [50, 1, 0, 2000, 3, 39, 2, 6, 0, 2, 0, 0, 1, 0, 2, 6, 0, 2, 1, 0, 0, 3, 2, 6, 0, 2, 0, 0, 1, 1, 2, 7, 0, 2, 1, 1, 2, 2, 0, 1, 2, 1, 3, 0, 0, 2, 35, 3, 6, 0, 2, 1, 0, 0, -1, 3, 6, 0, 2, 0, 4, 1, 0, 3, 6, 0, 2, 1, 1, 0, -1, 0, 7, 4, 3, 2, 2, 0, 0, 1, 1, 1, 1, 2, 1, 3, 2, 2, 0])] : List fc_T), fc_1 PRD f ws1 ([.ref h2, .int (xs (i + 1)), .int (xs (i + 2))] ++ [] ++ [.int (nI k)]) from (List.forall_mem_cons.mpr ⟨⟨nf_in (N := 4) rfl rfl, F_RO⟩, (List.forall_mem_cons.mpr ⟨⟨nf_in (N := 4) rfl rfl, (by
      have z : w_fi ws1 (.ref h2) 0 = (nI n).toInt := F_TA
      rw [nI_toInt (by omega)] at z
      show (0 ≤ (xs (i + 1)).toInt ∧ (xs (i + 1)).toInt ≤ 3 ∧ 0 ≤ (xs (i + 2)).toInt ∧ (xs (i + 2)).toInt ≤ w_fi ws1 (.ref h2) 0 ∧ (nI k).toInt = 0) ∨ (((xs (i + 1)).toInt ≤ -1 ∨ 4 ≤ (xs (i + 1)).toInt ∨ (xs (i + 2)).toInt ≤ -1 ∨ w_fi ws1 (.ref h2) 0 + 1 ≤ (xs (i + 2)).toInt) ∧ (nI k).toInt = w_fi ws1 (.ref h2) 0)
      rw [z, nI_toInt (by omega)]
      omega)⟩, (fun _ h => by cases h)⟩)⟩)) (by first | decide | exact Nat.le_of_ble_eq_true rfl) (by first | decide | exact Nat.le_of_ble_eq_true rfl) (by first | decide | exact Nat.le_of_ble_eq_true rfl) (show (cells + 6) + 0 ≤ 60000 by omega) (show (slots + 2444) + 0 ≤ 8922250 by omega) hl.1 d_law_law_1102 (fun ta2 ws2 H2 locs2 r hle2 hth2 hP2 hD2 hS2 hrt hpo _ hkp => ?_)
  obtain ⟨x2, rfl⟩ := rt_i rfl hrt
  have hpost : ∀ f ∈ ([(20, [0, 3], [50, 1, 0, 0, 1, 3, 2, 0, 0, 1, 1])] : List fc_T), fc_1 PRD f ws2 ([.ref h2, .int (xs (i + 1)), .int (xs (i + 2))] ++ [] ++ [.int (nI k)] ++ [.int x2]) := hpo.1
  have hkeep := L_keep (M := [(20, [0], [62, 0]), (20, [0], [62, 1000000]), (20, [0, 6], [62, 2000000]), (20, [1], [60, 0, 3, 198, 2, 3, 4]), (20, [1], [60, 0, 3, 367, 110, 111, 112]), (20, [3, 5], [50, 1, 0, 1, 1, 3, 2, 0, 1, 1, 1]), (20, [1, 4], [50, 1, 0, 0, 1, 3, 2, 0, 0, 1, 1]), (20, [1, 3, 4], [60, 0, 2, 1109, 1, 1000])]) (S := [(20, [0], [62, 0]), (20, [0], [62, 1000000]), (20, [0, 6], [62, 2000000]), (20, [1], [60, 0, 3, 198, 2, 3, 4]), (20, [1], [60, 0, 3, 367, 110, 111, 112]), (20, [3, 5], [50, 1, 0, 1, 1, 3, 2, 0, 1, 1, 1]), (20, [1, 3, 4], [60, 0, 2, 1109, 1, 1000])]) hth1 (sy_env_up hle1 henv) hD1 hle2 hth2 hD2 hkp (by decide +kernel) (List.forall_mem_cons.mpr ⟨F_HI, (List.forall_mem_cons.mpr ⟨F_HL, (List.forall_mem_cons.mpr ⟨F_HY6, (List.forall_mem_cons.mpr ⟨F_RO, (List.forall_mem_cons.mpr ⟨F_PT, (List.forall_mem_cons.mpr ⟨F_LE6, (List.forall_mem_cons.mpr ⟨F_TA, (List.forall_mem_cons.mpr ⟨F_TE, (fun _ h => by cases h)⟩)⟩)⟩)⟩)⟩)⟩)⟩)⟩)
  have G_HI : fc_m PRD 20 [.ref h1] [62, 0] ws2 := hkeep _ List.mem_cons_self
  have G_HL : fc_m PRD 20 [.ref h1] [62, 1000000] ws2 := hkeep _ (List.mem_cons_of_mem _ List.mem_cons_self)
  have G_HY6 : fc_m PRD 20 [.ref h1, .int (nI (i + 6))] [62, 2000000] ws2 := hkeep _ (List.mem_cons_of_mem _ (List.mem_cons_of_mem _ List.mem_cons_self))
  have G_RO : fc_m PRD 20 [.ref h2] [60, 0, 3, 198, 2, 3, 4] ws2 := hkeep _ (List.mem_cons_of_mem _ (List.mem_cons_of_mem _ (List.mem_cons_of_mem _ List.mem_cons_self)))
  have G_PT : fc_m PRD 20 [.ref h2] [60, 0, 3, 367, 110, 111, 112] ws2 := hkeep _ (List.mem_cons_of_mem _ (List.mem_cons_of_mem _ (List.mem_cons_of_mem _ (List.mem_cons_of_mem _ List.mem_cons_self))))
  have G_LE6 : fc_m PRD 20 [.ref rd, .int (nI k)] [50, 1, 0, 1, 1, 3, 2, 0, 1, 1, 1] ws2 := hkeep _ (List.mem_cons_of_mem _ (List.mem_cons_of_mem _ (List.mem_cons_of_mem _ (List.mem_cons_of_mem _ (List.mem_cons_of_mem _ List.mem_cons_self)))))
  have G_TE : fc_m PRD 20 [.ref h2, .ref rd, .int (nI n)] [60, 0, 2, 1109, 1, 1000] ws2 := hkeep _ (List.mem_cons_of_mem _ (List.mem_cons_of_mem _ (List.mem_cons_of_mem _ (List.mem_cons_of_mem _ (List.mem_cons_of_mem _ (List.mem_cons_of_mem _ List.mem_cons_self))))))
  have G_TA6 : fc_m PRD 20 [.ref h2, .int (nI k)] [50, 1, 0, 0, 1, 3, 2, 0, 0, 1, 1] ws2 := (hpost _ List.mem_cons_self).2
  have G_TE6 : fc_m PRD 20 [.ref h2, .ref rd, .int (nI k)] [60, 0, 2, 1109, 1, 1000] ws2 := by have z : TEQ (w_ei ws2 (w_ar ws2 (.ref h2) 1)) (w_ei ws2 (w_ar ws2 (.ref rd) 0)) (nI n).toInt := G_TE; have z2 : TEQ (w_ei ws2 (w_ar ws2 (.ref h2) 1)) (w_ei ws2 (w_ar ws2 (.ref rd) 0)) (nI k).toInt := L_tek z (show k ≤ n by omega) hn; exact z2
  have hrd : L_rd ws2 h1 rd := L_rdk hrd (hle1 _ _ a1) hkp (by decide +kernel)
  have tm17 : TN ws1 h1 17 → TN ws2 h1 17 := TN_kp (hle1 _ _ a1) hkp (by decide +kernel)
  have tm20 : TN ws1 h1 20 → TN ws2 h1 20 := TN_kp (hle1 _ _ a1) hkp (by decide +kernel)
  have F_HI := G_HI
  have F_HL := G_HL
  have F_HY6 := G_HY6
  have F_RO := G_RO
  have F_PT := G_PT
  have F_LE6 := G_LE6
  have F_TA6 := G_TA6
  have F_TE := G_TE
  have F_TE6 := G_TE6
  show W p l e room_1 s m #[Value.ref b] below meth c H2 locs2 (cells + 6 + 0) (slots + 2444 + 0) (lw_Z below #[Value.ref b] s) (F0 m 1105 ls [.int x2])
  have hS := hS2
  refine lv_pop (pc := 1105) hx hb d_law_law_1105 rfl ?_
  refine lv_goto (pc := 1106) (tgt := 1294) hx hb d_law_law_1106 (by decide) ?_
  have q1 : cells + 6 + 0 = cells + 6 := by omega
  have q2 : slots + 2444 + 0 = slots + 2444 := by omega
  rw [q1, q2]
  exact kk k ta2 ws2 H2 locs2 hP2 hD2 hS2 ⟨hth2, ⟨hle2 _ _ (hle1 _ _ a1), hle2 _ _ (hle1 _ _ a2), hle2 _ _ (hle1 _ _ a3), hk⟩, hrd, F_HI, F_HL, F_HY6, F_RO, F_PT, F_LE6, F_TA6, F_TE6⟩ (fun q => tm17 (tn17 q)) (fun q => tm20 (tn20 q))
set_option maxRecDepth 100000 in
set_option maxHeartbeats 4000000 in
/-- shade -/
theorem lc_shade {p : Program} {e : Env} {s : State} {m : MethodId} {below : List Frame} {meth : Method} {c : Code} {l : Launch} {b L : Nat} {xs : Nat → Int32} (C0 : lw_At p s m meth c b L xs) (hL : L ≤ 3072) {D : va_G} {kA : Nat → ClassId} (hK : va_K D classes (TY kA) s) (hN : nsr kA (fun q : Nat => s.heap.size ≤ q) s) (h_Ho_shade : ct_ok PRD l D kA GG y_Ho_shade z_Ho_shade e_Ho_shade) (h_Mo_shade : ct_ok PRD l D kA GG y_Mo_shade z_Mo_shade e_Mo_shade) {h1 h2 rd i n : Nat} (hi : i + 6 ≤ L) {ta : Nat → Option Nat} {ws : va_W} {H : Heap} {locs : List Loc} {ls : Array Slot} {cells slots : Nat} (hP : va_P D classes ws H) (hD : va_D (fun q : Nat => s.heap.size ≤ q) ws) (hS : va_S (fun q : Nat => s.heap.size ≤ q) s.heap H locs) (hI : LI kA h1 h2 rd i n ta ws) (hl : lv_has ls 4 [(3, .int (nI i)), (2, .ref h2), (1, .ref h1), (0, .ref b)]) (hc : cells + 0 ≤ 60000) (hs : slots + 0 ≤ 8922250) (kk : ∀ (k : Nat) (ta : Nat → Option Nat) (w2 : va_W) (H : Heap) (locs : List Loc), va_P D classes w2 H → va_D (fun q : Nat => s.heap.size ≤ q) w2 → va_S (fun q : Nat => s.heap.size ≤ q) s.heap H locs → LI kA h1 h2 rd (i + 6) k ta w2 → (TN ws h1 17 → TN w2 h1 17) → (TN ws h1 20 → TN w2 h1 20) → W p l e room_1 s m #[Value.ref b] below meth c H locs (cells + 0) (slots + 0) (lw_Z below #[Value.ref b] s) (F0 m 1294 ls [])) : W p l e room_1 s m #[Value.ref b] below meth c H locs cells slots (lw_Z below #[Value.ref b] s) (F0 m 1109 ls []) := by
  obtain ⟨hx, hb, hr, hml, hown, hts0, hX, hbl, hlocks, hgv⟩ := id C0
  have hts : ∀ w ∈ lw_g, w.before #[Value.ref b] s = true := fun w h => hts0 w (lw_gt h)
  have X : cx p s m #[Value.ref b] meth c b_law_law 4 ret "DrawingHouseLaw" meth.name := ⟨hx, hb, hml, hown, hts, hr, hlocks, rfl⟩
  obtain ⟨A, hAe⟩ : ∃ A : Nat → Prop, A = fun q : Nat => s.heap.size ≤ q := ⟨_, rfl⟩
  have hA : ∀ q : Nat, s.heap.size ≤ q → A q := fun q h => by rw [hAe]; exact h
  have hbA : ¬ A b := by rw [hAe]; exact Nat.not_le.mpr hbl
  rw [← hAe] at hD hS hN kk
  obtain ⟨hth, ⟨a1, a2, a3, hn⟩, hrd, F_HI, F_HL, F_HY, F_RO, F_PT, F_LE, F_TA, F_TE⟩ := hI
  obtain ⟨k, hk, hkk⟩ : ∃ k : Nat, k ≤ 2000 ∧ k = n := ⟨n, hn, rfl⟩
  have henv : sy_env ta L_env (L_vs h1 h2 rd i n k) := L_envs a1 a2 a3 (by omega) hn hk
  refine lv_aload_n (pc := 1109) hx hb d_law_law_1109 rfl (lv_at hl 2 rfl) ?_
  refine lv_aload_n (pc := 1110) hx hb d_law_law_1110 rfl (lv_at hl 3 rfl) ?_
  refine lv_iload_n (pc := 1111) hx hb d_law_law_1111 rfl (lv_at hl 0 rfl) ?_
  refine lv_iconst (pc := 1112) (v := 1) hx hb d_law_law_1112 (by decide) ?_
  refine k_add (pc := 1113) (x := i) (y := 1) hx hb d_law_law_1113 ?_
  refine sc_ld (pc := 1114) (j := i + 1) hx hb hX hbl hbA hS (by omega) (by omega) d_law_law_1114 ?_
  refine lv_aload_n (pc := 1115) hx hb d_law_law_1115 rfl (lv_at hl 3 rfl) ?_
  refine lv_iload_n (pc := 1116) hx hb d_law_law_1116 rfl (lv_at hl 0 rfl) ?_
  refine lv_iconst (pc := 1117) (v := 2) hx hb d_law_law_1117 (by decide) ?_
  refine k_add (pc := 1118) (x := i) (y := 2) hx hb d_law_law_1118 ?_
  refine sc_ld (pc := 1119) (j := i + 2) hx hb hX hbl hbA hS (by omega) (by omega) d_law_law_1119 ?_
  refine lv_aload_n (pc := 1120) hx hb d_law_law_1120 rfl (lv_at hl 3 rfl) ?_
  refine lv_iload_n (pc := 1121) hx hb d_law_law_1121 rfl (lv_at hl 0 rfl) ?_
  refine lv_iconst (pc := 1122) (v := 3) hx hb d_law_law_1122 (by decide) ?_
  refine k_add (pc := 1123) (x := i) (y := 3) hx hb d_law_law_1123 ?_
  refine sc_ld (pc := 1124) (j := i + 3) hx hb hX hbl hbA hS (by omega) (by omega) d_law_law_1124 ?_
  refine lv_aload_n (pc := 1125) hx hb d_law_law_1125 rfl (lv_at hl 3 rfl) ?_
  refine lv_iload_n (pc := 1126) hx hb d_law_law_1126 rfl (lv_at hl 0 rfl) ?_
  refine lv_iconst (pc := 1127) (v := 4) hx hb d_law_law_1127 (by decide) ?_
  refine k_add (pc := 1128) (x := i) (y := 4) hx hb d_law_law_1128 ?_
  refine sc_ld (pc := 1129) (j := i + 4) hx hb hX hbl hbA hS (by omega) (by omega) d_law_law_1129 ?_
  refine W.eq (g2 := F0 m 1130 ls (List.reverse [.ref h1, .int (xs (i + 1)), .int (xs (i + 2)), .int (xs (i + 3)), .int (xs (i + 4))] ++ [])) rfl ?_
  refine (cl_virtual (y := y_Ho_shade) (ci := 12) rfl rfl ⟨_, _, rfl⟩ (by decide +kernel) h_Ho_shade wm_2326 wm_1 wm_2323 wm_2324 wm_2325 ⟨by decide, by decide, by decide +kernel⟩ (by decide) : cl_ok PRD l D kA GG "DrawingHouseLaw" _ _ e_Ho_shade) p e room_1 s m #[Value.ref b] below meth c H locs cells slots (lw_Z below #[Value.ref b] s) b_law_law 1130 4 ret meth.name A ws ta ls [.ref h1, .int (xs (i + 1)), .int (xs (i + 2)), .int (xs (i + 3)), .int (xs (i + 4))] [] [] [] X hK hN hA hP hD hS hth (ag_c (tv_rf a1) (ag_c tv_top (ag_c tv_top (ag_c tv_top (ag_c tv_top (ag_n)))))) (gv_n) (ag_n) (fun _ h => by cases h) (by first | decide | exact Nat.le_of_ble_eq_true rfl) (by first | decide | exact Nat.le_of_ble_eq_true rfl) (by first | decide | exact Nat.le_of_ble_eq_true rfl) (show cells + 0 ≤ 60000 by omega) (show slots + 0 ≤ 8922250 by omega) hl.1 d_law_law_1130 (fun ta1 ws1 H1 locs1 r hle1 hth1 hP1 hD1 hS1 hrt hpo _ hkp => ?_)
  obtain ⟨x1, rfl⟩ := rt_i rfl hrt
  have hpost : ∀ f ∈ ([] : List fc_T), fc_1 PRD f ws1 ([.ref h1, .int (xs (i + 1)), .int (xs (i + 2)), .int (xs (i + 3)), .int (xs (i + 4))] ++ [] ++ [] ++ [.int x1]) := hpo.1
  have hkeep := L_keep (M := [(20, [0], [62, 0]), (20, [0], [62, 1000000]), (20, [0, 2], [62, 2000000]), (20, [1], [60, 0, 3, 198, 2, 3, 4]), (20, [1], [60, 0, 3, 367, 110, 111, 112]), (20, [3, 4], [50, 1, 0, 1, 1, 3, 2, 0, 1, 1, 1]), (20, [1, 4], [50, 1, 0, 0, 1, 3, 2, 0, 0, 1, 1]), (20, [1, 3, 4], [60, 0, 2, 1109, 1, 1000])]) (S := [(20, [0], [62, 0]), (20, [0], [62, 1000000]), (20, [0, 2], [62, 2000000]), (20, [1], [60, 0, 3, 198, 2, 3, 4]), (20, [1], [60, 0, 3, 367, 110, 111, 112]), (20, [3, 4], [50, 1, 0, 1, 1, 3, 2, 0, 1, 1, 1]), (20, [1, 4], [50, 1, 0, 0, 1, 3, 2, 0, 0, 1, 1]), (20, [1, 3, 4], [60, 0, 2, 1109, 1, 1000])]) hth henv hD hle1 hth1 hD1 hkp (by decide +kernel) (List.forall_mem_cons.mpr ⟨F_HI, (List.forall_mem_cons.mpr ⟨F_HL, (List.forall_mem_cons.mpr ⟨F_HY, (List.forall_mem_cons.mpr ⟨F_RO, (List.forall_mem_cons.mpr ⟨F_PT, (List.forall_mem_cons.mpr ⟨F_LE, (List.forall_mem_cons.mpr ⟨F_TA, (List.forall_mem_cons.mpr ⟨F_TE, (fun _ h => by cases h)⟩)⟩)⟩)⟩)⟩)⟩)⟩)⟩)
  have G_HI : fc_m PRD 20 [.ref h1] [62, 0] ws1 := hkeep _ List.mem_cons_self
  have G_HL : fc_m PRD 20 [.ref h1] [62, 1000000] ws1 := hkeep _ (List.mem_cons_of_mem _ List.mem_cons_self)
  have G_HY : fc_m PRD 20 [.ref h1, .int (nI i)] [62, 2000000] ws1 := hkeep _ (List.mem_cons_of_mem _ (List.mem_cons_of_mem _ List.mem_cons_self))
  have G_RO : fc_m PRD 20 [.ref h2] [60, 0, 3, 198, 2, 3, 4] ws1 := hkeep _ (List.mem_cons_of_mem _ (List.mem_cons_of_mem _ (List.mem_cons_of_mem _ List.mem_cons_self)))
  have G_PT : fc_m PRD 20 [.ref h2] [60, 0, 3, 367, 110, 111, 112] ws1 := hkeep _ (List.mem_cons_of_mem _ (List.mem_cons_of_mem _ (List.mem_cons_of_mem _ (List.mem_cons_of_mem _ List.mem_cons_self))))
  have G_LE : fc_m PRD 20 [.ref rd, .int (nI n)] [50, 1, 0, 1, 1, 3, 2, 0, 1, 1, 1] ws1 := hkeep _ (List.mem_cons_of_mem _ (List.mem_cons_of_mem _ (List.mem_cons_of_mem _ (List.mem_cons_of_mem _ (List.mem_cons_of_mem _ List.mem_cons_self)))))
  have G_TA : fc_m PRD 20 [.ref h2, .int (nI n)] [50, 1, 0, 0, 1, 3, 2, 0, 0, 1, 1] ws1 := hkeep _ (List.mem_cons_of_mem _ (List.mem_cons_of_mem _ (List.mem_cons_of_mem _ (List.mem_cons_of_mem _ (List.mem_cons_of_mem _ (List.mem_cons_of_mem _ List.mem_cons_self))))))
  have G_TE : fc_m PRD 20 [.ref h2, .ref rd, .int (nI n)] [60, 0, 2, 1109, 1, 1000] ws1 := hkeep _ (List.mem_cons_of_mem _ (List.mem_cons_of_mem _ (List.mem_cons_of_mem _ (List.mem_cons_of_mem _ (List.mem_cons_of_mem _ (List.mem_cons_of_mem _ (List.mem_cons_of_mem _ List.mem_cons_self)))))))
  have G_HY6 : fc_m PRD 20 [.ref h1, .int (nI (i + 6))] [62, 2000000] ws1 := by have z : HY ws1 (.ref h1) ((nI i).toInt + ((2000000 : Nat) - 2000000 : Int)) := G_HY; show HY ws1 (.ref h1) ((nI (i + 6)).toInt + ((2000000 : Nat) - 2000000 : Int)); rw [nI_toInt (by omega)] at z ⊢; exact hy_le z (by omega)
  have G_LE6 : fc_m PRD 20 [.ref rd, .int (nI k)] [50, 1, 0, 1, 1, 3, 2, 0, 1, 1, 1] ws1 := by rw [hkk]; exact G_LE
  have hrd : L_rd ws1 h1 rd := L_rdk hrd a1 hkp (by decide +kernel)
  have tn17 : TN ws h1 17 → TN ws1 h1 17 := TN_kp a1 hkp (by decide +kernel)
  have tn20 : TN ws h1 20 → TN ws1 h1 20 := TN_kp a1 hkp (by decide +kernel)
  have F_HI := G_HI
  have F_HL := G_HL
  have F_HY6 := G_HY6
  have F_RO := G_RO
  have F_PT := G_PT
  have F_LE6 := G_LE6
  have F_TA := G_TA
  have F_TE := G_TE
  show W p l e room_1 s m #[Value.ref b] below meth c H1 locs1 (cells + 0) (slots + 0) (lw_Z below #[Value.ref b] s) (F0 m 1133 ls [.int x1])
  have hS := hS1
  refine lv_pop (pc := 1133) hx hb d_law_law_1133 rfl ?_
  refine lv_aload_n (pc := 1134) hx hb d_law_law_1134 rfl (lv_at hl 1 rfl) ?_
  refine lv_aload_n (pc := 1135) hx hb d_law_law_1135 rfl (lv_at hl 3 rfl) ?_
  refine lv_iload_n (pc := 1136) hx hb d_law_law_1136 rfl (lv_at hl 0 rfl) ?_
  refine lv_iconst (pc := 1137) (v := 1) hx hb d_law_law_1137 (by decide) ?_
  refine k_add (pc := 1138) (x := i) (y := 1) hx hb d_law_law_1138 ?_
  refine sc_ld (pc := 1139) (j := i + 1) hx hb hX hbl hbA hS (by omega) (by omega) d_law_law_1139 ?_
  refine lv_aload_n (pc := 1140) hx hb d_law_law_1140 rfl (lv_at hl 3 rfl) ?_
  refine lv_iload_n (pc := 1141) hx hb d_law_law_1141 rfl (lv_at hl 0 rfl) ?_
  refine lv_iconst (pc := 1142) (v := 2) hx hb d_law_law_1142 (by decide) ?_
  refine k_add (pc := 1143) (x := i) (y := 2) hx hb d_law_law_1143 ?_
  refine sc_ld (pc := 1144) (j := i + 2) hx hb hX hbl hbA hS (by omega) (by omega) d_law_law_1144 ?_
  refine lv_aload_n (pc := 1145) hx hb d_law_law_1145 rfl (lv_at hl 3 rfl) ?_
  refine lv_iload_n (pc := 1146) hx hb d_law_law_1146 rfl (lv_at hl 0 rfl) ?_
  refine lv_iconst (pc := 1147) (v := 3) hx hb d_law_law_1147 (by decide) ?_
  refine k_add (pc := 1148) (x := i) (y := 3) hx hb d_law_law_1148 ?_
  refine sc_ld (pc := 1149) (j := i + 3) hx hb hX hbl hbA hS (by omega) (by omega) d_law_law_1149 ?_
  refine lv_aload_n (pc := 1150) hx hb d_law_law_1150 rfl (lv_at hl 3 rfl) ?_
  refine lv_iload_n (pc := 1151) hx hb d_law_law_1151 rfl (lv_at hl 0 rfl) ?_
  refine lv_iconst (pc := 1152) (v := 4) hx hb d_law_law_1152 (by decide) ?_
  refine k_add (pc := 1153) (x := i) (y := 4) hx hb d_law_law_1153 ?_
  refine sc_ld (pc := 1154) (j := i + 4) hx hb hX hbl hbA hS (by omega) (by omega) d_law_law_1154 ?_
  refine W.eq (g2 := F0 m 1155 ls (List.reverse [.ref h2, .int (xs (i + 1)), .int (xs (i + 2)), .int (xs (i + 3)), .int (xs (i + 4))] ++ [])) rfl ?_
  refine (cl_virtual (y := y_Mo_shade) (ci := 13) rfl rfl ⟨_, _, rfl⟩ (by decide +kernel) h_Mo_shade wm_3897 wm_9 wm_3894 wm_3895 wm_3896 ⟨by decide, by decide, by decide +kernel⟩ (by decide) : cl_ok PRD l D kA GG "DrawingHouseLaw" _ _ e_Mo_shade) p e room_1 s m #[Value.ref b] below meth c H1 locs1 (cells + 0) (slots + 0) (lw_Z below #[Value.ref b] s) b_law_law 1155 4 ret meth.name A ws1 ta1 ls [.ref h2, .int (xs (i + 1)), .int (xs (i + 2)), .int (xs (i + 3)), .int (xs (i + 4))] [] [] [] X hK hN hA hP1 hD1 hS1 hth1 (ag_c (tv_rf (hle1 _ _ a2)) (ag_c tv_top (ag_c tv_top (ag_c tv_top (ag_c tv_top (ag_n)))))) (gv_n) (ag_n) (fun _ h => by cases h) (by first | decide | exact Nat.le_of_ble_eq_true rfl) (by first | decide | exact Nat.le_of_ble_eq_true rfl) (by first | decide | exact Nat.le_of_ble_eq_true rfl) (show (cells + 0) + 0 ≤ 60000 by omega) (show (slots + 0) + 0 ≤ 8922250 by omega) hl.1 d_law_law_1155 (fun ta2 ws2 H2 locs2 r hle2 hth2 hP2 hD2 hS2 hrt hpo _ hkp => ?_)
  obtain ⟨x2, rfl⟩ := rt_i rfl hrt
  have hpost : ∀ f ∈ ([] : List fc_T), fc_1 PRD f ws2 ([.ref h2, .int (xs (i + 1)), .int (xs (i + 2)), .int (xs (i + 3)), .int (xs (i + 4))] ++ [] ++ [] ++ [.int x2]) := hpo.1
  have hkeep := L_keep (M := [(20, [0], [62, 0]), (20, [0], [62, 1000000]), (20, [0, 6], [62, 2000000]), (20, [1], [60, 0, 3, 198, 2, 3, 4]), (20, [1], [60, 0, 3, 367, 110, 111, 112]), (20, [3, 5], [50, 1, 0, 1, 1, 3, 2, 0, 1, 1, 1]), (20, [1, 4], [50, 1, 0, 0, 1, 3, 2, 0, 0, 1, 1]), (20, [1, 3, 4], [60, 0, 2, 1109, 1, 1000])]) (S := [(20, [0], [62, 0]), (20, [0], [62, 1000000]), (20, [0, 6], [62, 2000000]), (20, [1], [60, 0, 3, 198, 2, 3, 4]), (20, [1], [60, 0, 3, 367, 110, 111, 112]), (20, [3, 5], [50, 1, 0, 1, 1, 3, 2, 0, 1, 1, 1]), (20, [1, 4], [50, 1, 0, 0, 1, 3, 2, 0, 0, 1, 1]), (20, [1, 3, 4], [60, 0, 2, 1109, 1, 1000])]) hth1 (sy_env_up hle1 henv) hD1 hle2 hth2 hD2 hkp (by decide +kernel) (List.forall_mem_cons.mpr ⟨F_HI, (List.forall_mem_cons.mpr ⟨F_HL, (List.forall_mem_cons.mpr ⟨F_HY6, (List.forall_mem_cons.mpr ⟨F_RO, (List.forall_mem_cons.mpr ⟨F_PT, (List.forall_mem_cons.mpr ⟨F_LE6, (List.forall_mem_cons.mpr ⟨F_TA, (List.forall_mem_cons.mpr ⟨F_TE, (fun _ h => by cases h)⟩)⟩)⟩)⟩)⟩)⟩)⟩)⟩)
  have G_HI : fc_m PRD 20 [.ref h1] [62, 0] ws2 := hkeep _ List.mem_cons_self
  have G_HL : fc_m PRD 20 [.ref h1] [62, 1000000] ws2 := hkeep _ (List.mem_cons_of_mem _ List.mem_cons_self)
  have G_HY6 : fc_m PRD 20 [.ref h1, .int (nI (i + 6))] [62, 2000000] ws2 := hkeep _ (List.mem_cons_of_mem _ (List.mem_cons_of_mem _ List.mem_cons_self))
  have G_RO : fc_m PRD 20 [.ref h2] [60, 0, 3, 198, 2, 3, 4] ws2 := hkeep _ (List.mem_cons_of_mem _ (List.mem_cons_of_mem _ (List.mem_cons_of_mem _ List.mem_cons_self)))
  have G_PT : fc_m PRD 20 [.ref h2] [60, 0, 3, 367, 110, 111, 112] ws2 := hkeep _ (List.mem_cons_of_mem _ (List.mem_cons_of_mem _ (List.mem_cons_of_mem _ (List.mem_cons_of_mem _ List.mem_cons_self))))
  have G_LE6 : fc_m PRD 20 [.ref rd, .int (nI k)] [50, 1, 0, 1, 1, 3, 2, 0, 1, 1, 1] ws2 := hkeep _ (List.mem_cons_of_mem _ (List.mem_cons_of_mem _ (List.mem_cons_of_mem _ (List.mem_cons_of_mem _ (List.mem_cons_of_mem _ List.mem_cons_self)))))
  have G_TA : fc_m PRD 20 [.ref h2, .int (nI n)] [50, 1, 0, 0, 1, 3, 2, 0, 0, 1, 1] ws2 := hkeep _ (List.mem_cons_of_mem _ (List.mem_cons_of_mem _ (List.mem_cons_of_mem _ (List.mem_cons_of_mem _ (List.mem_cons_of_mem _ (List.mem_cons_of_mem _ List.mem_cons_self))))))
  have G_TE : fc_m PRD 20 [.ref h2, .ref rd, .int (nI n)] [60, 0, 2, 1109, 1, 1000] ws2 := hkeep _ (List.mem_cons_of_mem _ (List.mem_cons_of_mem _ (List.mem_cons_of_mem _ (List.mem_cons_of_mem _ (List.mem_cons_of_mem _ (List.mem_cons_of_mem _ (List.mem_cons_of_mem _ List.mem_cons_self)))))))
  have G_TA6 : fc_m PRD 20 [.ref h2, .int (nI k)] [50, 1, 0, 0, 1, 3, 2, 0, 0, 1, 1] ws2 := by rw [hkk]; exact G_TA
  have G_TE6 : fc_m PRD 20 [.ref h2, .ref rd, .int (nI k)] [60, 0, 2, 1109, 1, 1000] ws2 := by have z : TEQ (w_ei ws2 (w_ar ws2 (.ref h2) 1)) (w_ei ws2 (w_ar ws2 (.ref rd) 0)) (nI n).toInt := G_TE; have z2 : TEQ (w_ei ws2 (w_ar ws2 (.ref h2) 1)) (w_ei ws2 (w_ar ws2 (.ref rd) 0)) (nI k).toInt := L_tek z (show k ≤ n by omega) hn; exact z2
  have hrd : L_rd ws2 h1 rd := L_rdk hrd (hle1 _ _ a1) hkp (by decide +kernel)
  have tm17 : TN ws1 h1 17 → TN ws2 h1 17 := TN_kp (hle1 _ _ a1) hkp (by decide +kernel)
  have tm20 : TN ws1 h1 20 → TN ws2 h1 20 := TN_kp (hle1 _ _ a1) hkp (by decide +kernel)
  have F_HI := G_HI
  have F_HL := G_HL
  have F_HY6 := G_HY6
  have F_RO := G_RO
  have F_PT := G_PT
  have F_LE6 := G_LE6
  have F_TA6 := G_TA6
  have F_TE := G_TE
  have F_TE6 := G_TE6
  show W p l e room_1 s m #[Value.ref b] below meth c H2 locs2 (cells + 0 + 0) (slots + 0 + 0) (lw_Z below #[Value.ref b] s) (F0 m 1158 ls [.int x2])
  have hS := hS2
  refine lv_pop (pc := 1158) hx hb d_law_law_1158 rfl ?_
  refine lv_goto (pc := 1159) (tgt := 1294) hx hb d_law_law_1159 (by decide) ?_
  have q1 : cells + 0 + 0 = cells + 0 := by omega
  have q2 : slots + 0 + 0 = slots + 0 := by omega
  rw [q1, q2]
  exact kk k ta2 ws2 H2 locs2 hP2 hD2 hS2 ⟨hth2, ⟨hle2 _ _ (hle1 _ _ a1), hle2 _ _ (hle1 _ _ a2), hle2 _ _ (hle1 _ _ a3), hk⟩, hrd, F_HI, F_HL, F_HY6, F_RO, F_PT, F_LE6, F_TA6, F_TE6⟩ (fun q => tm17 (tn17 q)) (fun q => tm20 (tn20 q))
set_option maxRecDepth 100000 in
set_option maxHeartbeats 4000000 in
/-- text -/
theorem lc_text {p : Program} {e : Env} {s : State} {m : MethodId} {below : List Frame} {meth : Method} {c : Code} {l : Launch} {b L : Nat} {xs : Nat → Int32} (C0 : lw_At p s m meth c b L xs) (hL : L ≤ 3072) {D : va_G} {kA : Nat → ClassId} (hK : va_K D classes (TY kA) s) (hN : nsr kA (fun q : Nat => s.heap.size ≤ q) s) (h_Ho_text : ct_ok PRD l D kA GG y_Ho_text z_Ho_text e_Ho_text) (h_Mo_text : ct_ok PRD l D kA GG y_Mo_text z_Mo_text e_Mo_text) {h1 h2 rd i n : Nat} (hi : i + 6 ≤ L) {ta : Nat → Option Nat} {ws : va_W} {H : Heap} {locs : List Loc} {ls : Array Slot} {cells slots : Nat} (hP : va_P D classes ws H) (hD : va_D (fun q : Nat => s.heap.size ≤ q) ws) (hS : va_S (fun q : Nat => s.heap.size ≤ q) s.heap H locs) (hI : LI kA h1 h2 rd i n ta ws) (hl : lv_has ls 4 [(3, .int (nI i)), (2, .ref h2), (1, .ref h1), (0, .ref b)]) (hc : cells + 0 ≤ 60000) (hs : slots + 0 ≤ 8922250) (kk : ∀ (k : Nat) (ta : Nat → Option Nat) (w2 : va_W) (H : Heap) (locs : List Loc), va_P D classes w2 H → va_D (fun q : Nat => s.heap.size ≤ q) w2 → va_S (fun q : Nat => s.heap.size ≤ q) s.heap H locs → LI kA h1 h2 rd (i + 6) k ta w2 → (TN ws h1 17 → TN w2 h1 17) → (TN ws h1 20 → TN w2 h1 20) → W p l e room_1 s m #[Value.ref b] below meth c H locs (cells + 0) (slots + 0) (lw_Z below #[Value.ref b] s) (F0 m 1294 ls [])) : W p l e room_1 s m #[Value.ref b] below meth c H locs cells slots (lw_Z below #[Value.ref b] s) (F0 m 1162 ls []) := by
  obtain ⟨hx, hb, hr, hml, hown, hts0, hX, hbl, hlocks, hgv⟩ := id C0
  have hts : ∀ w ∈ lw_g, w.before #[Value.ref b] s = true := fun w h => hts0 w (lw_gt h)
  have X : cx p s m #[Value.ref b] meth c b_law_law 4 ret "DrawingHouseLaw" meth.name := ⟨hx, hb, hml, hown, hts, hr, hlocks, rfl⟩
  obtain ⟨A, hAe⟩ : ∃ A : Nat → Prop, A = fun q : Nat => s.heap.size ≤ q := ⟨_, rfl⟩
  have hA : ∀ q : Nat, s.heap.size ≤ q → A q := fun q h => by rw [hAe]; exact h
  have hbA : ¬ A b := by rw [hAe]; exact Nat.not_le.mpr hbl
  rw [← hAe] at hD hS hN kk
  obtain ⟨hth, ⟨a1, a2, a3, hn⟩, hrd, F_HI, F_HL, F_HY, F_RO, F_PT, F_LE, F_TA, F_TE⟩ := hI
  obtain ⟨k, hk, hkk⟩ : ∃ k : Nat, k ≤ 2000 ∧ k = n := ⟨n, hn, rfl⟩
  have henv : sy_env ta L_env (L_vs h1 h2 rd i n k) := L_envs a1 a2 a3 (by omega) hn hk
  refine lv_aload_n (pc := 1162) hx hb d_law_law_1162 rfl (lv_at hl 2 rfl) ?_
  refine lv_aload_n (pc := 1163) hx hb d_law_law_1163 rfl (lv_at hl 3 rfl) ?_
  refine lv_iload_n (pc := 1164) hx hb d_law_law_1164 rfl (lv_at hl 0 rfl) ?_
  refine lv_iconst (pc := 1165) (v := 1) hx hb d_law_law_1165 (by decide) ?_
  refine k_add (pc := 1166) (x := i) (y := 1) hx hb d_law_law_1166 ?_
  refine sc_ld (pc := 1167) (j := i + 1) hx hb hX hbl hbA hS (by omega) (by omega) d_law_law_1167 ?_
  refine lv_aload_n (pc := 1168) hx hb d_law_law_1168 rfl (lv_at hl 3 rfl) ?_
  refine lv_iload_n (pc := 1169) hx hb d_law_law_1169 rfl (lv_at hl 0 rfl) ?_
  refine lv_iconst (pc := 1170) (v := 2) hx hb d_law_law_1170 (by decide) ?_
  refine k_add (pc := 1171) (x := i) (y := 2) hx hb d_law_law_1171 ?_
  refine sc_ld (pc := 1172) (j := i + 2) hx hb hX hbl hbA hS (by omega) (by omega) d_law_law_1172 ?_
  refine W.eq (g2 := F0 m 1173 ls (List.reverse [.ref h1, .int (xs (i + 1)), .int (xs (i + 2))] ++ [])) rfl ?_
  refine (cl_virtual (y := y_Ho_text) (ci := 12) rfl rfl ⟨_, _, rfl⟩ (by decide +kernel) h_Ho_text wm_2330 wm_1 wm_2327 wm_2328 wm_2329 ⟨by decide, by decide, by decide +kernel⟩ (by decide) : cl_ok PRD l D kA GG "DrawingHouseLaw" _ _ e_Ho_text) p e room_1 s m #[Value.ref b] below meth c H locs cells slots (lw_Z below #[Value.ref b] s) b_law_law 1173 4 ret meth.name A ws ta ls [.ref h1, .int (xs (i + 1)), .int (xs (i + 2))] [] [] [] X hK hN hA hP hD hS hth (ag_c (tv_rf a1) (ag_c tv_top (ag_c tv_top (ag_n)))) (gv_n) (ag_n) (fun _ h => by cases h) (by first | decide | exact Nat.le_of_ble_eq_true rfl) (by first | decide | exact Nat.le_of_ble_eq_true rfl) (by first | decide | exact Nat.le_of_ble_eq_true rfl) (show cells + 0 ≤ 60000 by omega) (show slots + 0 ≤ 8922250 by omega) hl.1 d_law_law_1173 (fun ta1 ws1 H1 locs1 r hle1 hth1 hP1 hD1 hS1 hrt hpo _ hkp => ?_)
  obtain ⟨x1, rfl⟩ := rt_i rfl hrt
  have hpost : ∀ f ∈ ([] : List fc_T), fc_1 PRD f ws1 ([.ref h1, .int (xs (i + 1)), .int (xs (i + 2))] ++ [] ++ [] ++ [.int x1]) := hpo.1
  have hkeep := L_keep (M := [(20, [0], [62, 0]), (20, [0], [62, 1000000]), (20, [0, 2], [62, 2000000]), (20, [1], [60, 0, 3, 198, 2, 3, 4]), (20, [1], [60, 0, 3, 367, 110, 111, 112]), (20, [3, 4], [50, 1, 0, 1, 1, 3, 2, 0, 1, 1, 1]), (20, [1, 4], [50, 1, 0, 0, 1, 3, 2, 0, 0, 1, 1]), (20, [1, 3, 4], [60, 0, 2, 1109, 1, 1000])]) (S := [(20, [0], [62, 0]), (20, [0], [62, 1000000]), (20, [0, 2], [62, 2000000]), (20, [1], [60, 0, 3, 198, 2, 3, 4]), (20, [1], [60, 0, 3, 367, 110, 111, 112]), (20, [3, 4], [50, 1, 0, 1, 1, 3, 2, 0, 1, 1, 1]), (20, [1, 4], [50, 1, 0, 0, 1, 3, 2, 0, 0, 1, 1]), (20, [1, 3, 4], [60, 0, 2, 1109, 1, 1000])]) hth henv hD hle1 hth1 hD1 hkp (by decide +kernel) (List.forall_mem_cons.mpr ⟨F_HI, (List.forall_mem_cons.mpr ⟨F_HL, (List.forall_mem_cons.mpr ⟨F_HY, (List.forall_mem_cons.mpr ⟨F_RO, (List.forall_mem_cons.mpr ⟨F_PT, (List.forall_mem_cons.mpr ⟨F_LE, (List.forall_mem_cons.mpr ⟨F_TA, (List.forall_mem_cons.mpr ⟨F_TE, (fun _ h => by cases h)⟩)⟩)⟩)⟩)⟩)⟩)⟩)⟩)
  have G_HI : fc_m PRD 20 [.ref h1] [62, 0] ws1 := hkeep _ List.mem_cons_self
  have G_HL : fc_m PRD 20 [.ref h1] [62, 1000000] ws1 := hkeep _ (List.mem_cons_of_mem _ List.mem_cons_self)
  have G_HY : fc_m PRD 20 [.ref h1, .int (nI i)] [62, 2000000] ws1 := hkeep _ (List.mem_cons_of_mem _ (List.mem_cons_of_mem _ List.mem_cons_self))
  have G_RO : fc_m PRD 20 [.ref h2] [60, 0, 3, 198, 2, 3, 4] ws1 := hkeep _ (List.mem_cons_of_mem _ (List.mem_cons_of_mem _ (List.mem_cons_of_mem _ List.mem_cons_self)))
  have G_PT : fc_m PRD 20 [.ref h2] [60, 0, 3, 367, 110, 111, 112] ws1 := hkeep _ (List.mem_cons_of_mem _ (List.mem_cons_of_mem _ (List.mem_cons_of_mem _ (List.mem_cons_of_mem _ List.mem_cons_self))))
  have G_LE : fc_m PRD 20 [.ref rd, .int (nI n)] [50, 1, 0, 1, 1, 3, 2, 0, 1, 1, 1] ws1 := hkeep _ (List.mem_cons_of_mem _ (List.mem_cons_of_mem _ (List.mem_cons_of_mem _ (List.mem_cons_of_mem _ (List.mem_cons_of_mem _ List.mem_cons_self)))))
  have G_TA : fc_m PRD 20 [.ref h2, .int (nI n)] [50, 1, 0, 0, 1, 3, 2, 0, 0, 1, 1] ws1 := hkeep _ (List.mem_cons_of_mem _ (List.mem_cons_of_mem _ (List.mem_cons_of_mem _ (List.mem_cons_of_mem _ (List.mem_cons_of_mem _ (List.mem_cons_of_mem _ List.mem_cons_self))))))
  have G_TE : fc_m PRD 20 [.ref h2, .ref rd, .int (nI n)] [60, 0, 2, 1109, 1, 1000] ws1 := hkeep _ (List.mem_cons_of_mem _ (List.mem_cons_of_mem _ (List.mem_cons_of_mem _ (List.mem_cons_of_mem _ (List.mem_cons_of_mem _ (List.mem_cons_of_mem _ (List.mem_cons_of_mem _ List.mem_cons_self)))))))
  have G_HY6 : fc_m PRD 20 [.ref h1, .int (nI (i + 6))] [62, 2000000] ws1 := by have z : HY ws1 (.ref h1) ((nI i).toInt + ((2000000 : Nat) - 2000000 : Int)) := G_HY; show HY ws1 (.ref h1) ((nI (i + 6)).toInt + ((2000000 : Nat) - 2000000 : Int)); rw [nI_toInt (by omega)] at z ⊢; exact hy_le z (by omega)
  have G_LE6 : fc_m PRD 20 [.ref rd, .int (nI k)] [50, 1, 0, 1, 1, 3, 2, 0, 1, 1, 1] ws1 := by rw [hkk]; exact G_LE
  have hrd : L_rd ws1 h1 rd := L_rdk hrd a1 hkp (by decide +kernel)
  have tn17 : TN ws h1 17 → TN ws1 h1 17 := TN_kp a1 hkp (by decide +kernel)
  have tn20 : TN ws h1 20 → TN ws1 h1 20 := TN_kp a1 hkp (by decide +kernel)
  have F_HI := G_HI
  have F_HL := G_HL
  have F_HY6 := G_HY6
  have F_RO := G_RO
  have F_PT := G_PT
  have F_LE6 := G_LE6
  have F_TA := G_TA
  have F_TE := G_TE
  show W p l e room_1 s m #[Value.ref b] below meth c H1 locs1 (cells + 0) (slots + 0) (lw_Z below #[Value.ref b] s) (F0 m 1176 ls [.int x1])
  have hS := hS1
  refine lv_pop (pc := 1176) hx hb d_law_law_1176 rfl ?_
  refine lv_aload_n (pc := 1177) hx hb d_law_law_1177 rfl (lv_at hl 1 rfl) ?_
  refine lv_aload_n (pc := 1178) hx hb d_law_law_1178 rfl (lv_at hl 3 rfl) ?_
  refine lv_iload_n (pc := 1179) hx hb d_law_law_1179 rfl (lv_at hl 0 rfl) ?_
  refine lv_iconst (pc := 1180) (v := 1) hx hb d_law_law_1180 (by decide) ?_
  refine k_add (pc := 1181) (x := i) (y := 1) hx hb d_law_law_1181 ?_
  refine sc_ld (pc := 1182) (j := i + 1) hx hb hX hbl hbA hS (by omega) (by omega) d_law_law_1182 ?_
  refine lv_aload_n (pc := 1183) hx hb d_law_law_1183 rfl (lv_at hl 3 rfl) ?_
  refine lv_iload_n (pc := 1184) hx hb d_law_law_1184 rfl (lv_at hl 0 rfl) ?_
  refine lv_iconst (pc := 1185) (v := 2) hx hb d_law_law_1185 (by decide) ?_
  refine k_add (pc := 1186) (x := i) (y := 2) hx hb d_law_law_1186 ?_
  refine sc_ld (pc := 1187) (j := i + 2) hx hb hX hbl hbA hS (by omega) (by omega) d_law_law_1187 ?_
  refine W.eq (g2 := F0 m 1188 ls (List.reverse [.ref h2, .int (xs (i + 1)), .int (xs (i + 2))] ++ [])) rfl ?_
  refine (cl_virtual (y := y_Mo_text) (ci := 13) rfl rfl ⟨_, _, rfl⟩ (by decide +kernel) h_Mo_text wm_3901 wm_9 wm_3898 wm_3899 wm_3900 ⟨by decide, by decide, by decide +kernel⟩ (by decide) : cl_ok PRD l D kA GG "DrawingHouseLaw" _ _ e_Mo_text) p e room_1 s m #[Value.ref b] below meth c H1 locs1 (cells + 0) (slots + 0) (lw_Z below #[Value.ref b] s) b_law_law 1188 4 ret meth.name A ws1 ta1 ls [.ref h2, .int (xs (i + 1)), .int (xs (i + 2))] [] [] [] X hK hN hA hP1 hD1 hS1 hth1 (ag_c (tv_rf (hle1 _ _ a2)) (ag_c tv_top (ag_c tv_top (ag_n)))) (gv_n) (ag_n) (fun _ h => by cases h) (by first | decide | exact Nat.le_of_ble_eq_true rfl) (by first | decide | exact Nat.le_of_ble_eq_true rfl) (by first | decide | exact Nat.le_of_ble_eq_true rfl) (show (cells + 0) + 0 ≤ 60000 by omega) (show (slots + 0) + 0 ≤ 8922250 by omega) hl.1 d_law_law_1188 (fun ta2 ws2 H2 locs2 r hle2 hth2 hP2 hD2 hS2 hrt hpo _ hkp => ?_)
  obtain ⟨x2, rfl⟩ := rt_i rfl hrt
  have hpost : ∀ f ∈ ([] : List fc_T), fc_1 PRD f ws2 ([.ref h2, .int (xs (i + 1)), .int (xs (i + 2))] ++ [] ++ [] ++ [.int x2]) := hpo.1
  have hkeep := L_keep (M := [(20, [0], [62, 0]), (20, [0], [62, 1000000]), (20, [0, 6], [62, 2000000]), (20, [1], [60, 0, 3, 198, 2, 3, 4]), (20, [1], [60, 0, 3, 367, 110, 111, 112]), (20, [3, 5], [50, 1, 0, 1, 1, 3, 2, 0, 1, 1, 1]), (20, [1, 4], [50, 1, 0, 0, 1, 3, 2, 0, 0, 1, 1]), (20, [1, 3, 4], [60, 0, 2, 1109, 1, 1000])]) (S := [(20, [0], [62, 0]), (20, [0], [62, 1000000]), (20, [0, 6], [62, 2000000]), (20, [1], [60, 0, 3, 198, 2, 3, 4]), (20, [1], [60, 0, 3, 367, 110, 111, 112]), (20, [3, 5], [50, 1, 0, 1, 1, 3, 2, 0, 1, 1, 1]), (20, [1, 4], [50, 1, 0, 0, 1, 3, 2, 0, 0, 1, 1]), (20, [1, 3, 4], [60, 0, 2, 1109, 1, 1000])]) hth1 (sy_env_up hle1 henv) hD1 hle2 hth2 hD2 hkp (by decide +kernel) (List.forall_mem_cons.mpr ⟨F_HI, (List.forall_mem_cons.mpr ⟨F_HL, (List.forall_mem_cons.mpr ⟨F_HY6, (List.forall_mem_cons.mpr ⟨F_RO, (List.forall_mem_cons.mpr ⟨F_PT, (List.forall_mem_cons.mpr ⟨F_LE6, (List.forall_mem_cons.mpr ⟨F_TA, (List.forall_mem_cons.mpr ⟨F_TE, (fun _ h => by cases h)⟩)⟩)⟩)⟩)⟩)⟩)⟩)⟩)
  have G_HI : fc_m PRD 20 [.ref h1] [62, 0] ws2 := hkeep _ List.mem_cons_self
  have G_HL : fc_m PRD 20 [.ref h1] [62, 1000000] ws2 := hkeep _ (List.mem_cons_of_mem _ List.mem_cons_self)
  have G_HY6 : fc_m PRD 20 [.ref h1, .int (nI (i + 6))] [62, 2000000] ws2 := hkeep _ (List.mem_cons_of_mem _ (List.mem_cons_of_mem _ List.mem_cons_self))
  have G_RO : fc_m PRD 20 [.ref h2] [60, 0, 3, 198, 2, 3, 4] ws2 := hkeep _ (List.mem_cons_of_mem _ (List.mem_cons_of_mem _ (List.mem_cons_of_mem _ List.mem_cons_self)))
  have G_PT : fc_m PRD 20 [.ref h2] [60, 0, 3, 367, 110, 111, 112] ws2 := hkeep _ (List.mem_cons_of_mem _ (List.mem_cons_of_mem _ (List.mem_cons_of_mem _ (List.mem_cons_of_mem _ List.mem_cons_self))))
  have G_LE6 : fc_m PRD 20 [.ref rd, .int (nI k)] [50, 1, 0, 1, 1, 3, 2, 0, 1, 1, 1] ws2 := hkeep _ (List.mem_cons_of_mem _ (List.mem_cons_of_mem _ (List.mem_cons_of_mem _ (List.mem_cons_of_mem _ (List.mem_cons_of_mem _ List.mem_cons_self)))))
  have G_TA : fc_m PRD 20 [.ref h2, .int (nI n)] [50, 1, 0, 0, 1, 3, 2, 0, 0, 1, 1] ws2 := hkeep _ (List.mem_cons_of_mem _ (List.mem_cons_of_mem _ (List.mem_cons_of_mem _ (List.mem_cons_of_mem _ (List.mem_cons_of_mem _ (List.mem_cons_of_mem _ List.mem_cons_self))))))
  have G_TE : fc_m PRD 20 [.ref h2, .ref rd, .int (nI n)] [60, 0, 2, 1109, 1, 1000] ws2 := hkeep _ (List.mem_cons_of_mem _ (List.mem_cons_of_mem _ (List.mem_cons_of_mem _ (List.mem_cons_of_mem _ (List.mem_cons_of_mem _ (List.mem_cons_of_mem _ (List.mem_cons_of_mem _ List.mem_cons_self)))))))
  have G_TA6 : fc_m PRD 20 [.ref h2, .int (nI k)] [50, 1, 0, 0, 1, 3, 2, 0, 0, 1, 1] ws2 := by rw [hkk]; exact G_TA
  have G_TE6 : fc_m PRD 20 [.ref h2, .ref rd, .int (nI k)] [60, 0, 2, 1109, 1, 1000] ws2 := by have z : TEQ (w_ei ws2 (w_ar ws2 (.ref h2) 1)) (w_ei ws2 (w_ar ws2 (.ref rd) 0)) (nI n).toInt := G_TE; have z2 : TEQ (w_ei ws2 (w_ar ws2 (.ref h2) 1)) (w_ei ws2 (w_ar ws2 (.ref rd) 0)) (nI k).toInt := L_tek z (show k ≤ n by omega) hn; exact z2
  have hrd : L_rd ws2 h1 rd := L_rdk hrd (hle1 _ _ a1) hkp (by decide +kernel)
  have tm17 : TN ws1 h1 17 → TN ws2 h1 17 := TN_kp (hle1 _ _ a1) hkp (by decide +kernel)
  have tm20 : TN ws1 h1 20 → TN ws2 h1 20 := TN_kp (hle1 _ _ a1) hkp (by decide +kernel)
  have F_HI := G_HI
  have F_HL := G_HL
  have F_HY6 := G_HY6
  have F_RO := G_RO
  have F_PT := G_PT
  have F_LE6 := G_LE6
  have F_TA6 := G_TA6
  have F_TE := G_TE
  have F_TE6 := G_TE6
  show W p l e room_1 s m #[Value.ref b] below meth c H2 locs2 (cells + 0 + 0) (slots + 0 + 0) (lw_Z below #[Value.ref b] s) (F0 m 1191 ls [.int x2])
  have hS := hS2
  refine lv_pop (pc := 1191) hx hb d_law_law_1191 rfl ?_
  refine lv_goto (pc := 1192) (tgt := 1294) hx hb d_law_law_1192 (by decide) ?_
  have q1 : cells + 0 + 0 = cells + 0 := by omega
  have q2 : slots + 0 + 0 = slots + 0 := by omega
  rw [q1, q2]
  exact kk k ta2 ws2 H2 locs2 hP2 hD2 hS2 ⟨hth2, ⟨hle2 _ _ (hle1 _ _ a1), hle2 _ _ (hle1 _ _ a2), hle2 _ _ (hle1 _ _ a3), hk⟩, hrd, F_HI, F_HL, F_HY6, F_RO, F_PT, F_LE6, F_TA6, F_TE6⟩ (fun q => tm17 (tn17 q)) (fun q => tm20 (tn20 q))
set_option maxRecDepth 100000 in
set_option maxHeartbeats 4000000 in
/-- octet -/
theorem lc_octet {p : Program} {e : Env} {s : State} {m : MethodId} {below : List Frame} {meth : Method} {c : Code} {l : Launch} {b L : Nat} {xs : Nat → Int32} (C0 : lw_At p s m meth c b L xs) (hL : L ≤ 3072) {D : va_G} {kA : Nat → ClassId} (hK : va_K D classes (TY kA) s) (hN : nsr kA (fun q : Nat => s.heap.size ≤ q) s) (h_Ho_octet : ct_ok PRD l D kA GG y_Ho_octet z_Ho_octet e_Ho_octet) (h_Mo_octet : ct_ok PRD l D kA GG y_Mo_octet z_Mo_octet e_Mo_octet) {h1 h2 rd i n : Nat} (hi : i + 6 ≤ L) {ta : Nat → Option Nat} {ws : va_W} {H : Heap} {locs : List Loc} {ls : Array Slot} {cells slots : Nat} (hP : va_P D classes ws H) (hD : va_D (fun q : Nat => s.heap.size ≤ q) ws) (hS : va_S (fun q : Nat => s.heap.size ≤ q) s.heap H locs) (hI : LI kA h1 h2 rd i n ta ws) (hl : lv_has ls 4 [(3, .int (nI i)), (2, .ref h2), (1, .ref h1), (0, .ref b)]) (hc : cells + 0 ≤ 60000) (hs : slots + 0 ≤ 8922250) (kk : ∀ (k : Nat) (ta : Nat → Option Nat) (w2 : va_W) (H : Heap) (locs : List Loc), va_P D classes w2 H → va_D (fun q : Nat => s.heap.size ≤ q) w2 → va_S (fun q : Nat => s.heap.size ≤ q) s.heap H locs → LI kA h1 h2 rd (i + 6) k ta w2 → (TN ws h1 17 → TN w2 h1 17) → (TN ws h1 20 → TN w2 h1 20) → W p l e room_1 s m #[Value.ref b] below meth c H locs (cells + 0) (slots + 0) (lw_Z below #[Value.ref b] s) (F0 m 1294 ls [])) : W p l e room_1 s m #[Value.ref b] below meth c H locs cells slots (lw_Z below #[Value.ref b] s) (F0 m 1195 ls []) := by
  obtain ⟨hx, hb, hr, hml, hown, hts0, hX, hbl, hlocks, hgv⟩ := id C0
  have hts : ∀ w ∈ lw_g, w.before #[Value.ref b] s = true := fun w h => hts0 w (lw_gt h)
  have X : cx p s m #[Value.ref b] meth c b_law_law 4 ret "DrawingHouseLaw" meth.name := ⟨hx, hb, hml, hown, hts, hr, hlocks, rfl⟩
  obtain ⟨A, hAe⟩ : ∃ A : Nat → Prop, A = fun q : Nat => s.heap.size ≤ q := ⟨_, rfl⟩
  have hA : ∀ q : Nat, s.heap.size ≤ q → A q := fun q h => by rw [hAe]; exact h
  have hbA : ¬ A b := by rw [hAe]; exact Nat.not_le.mpr hbl
  rw [← hAe] at hD hS hN kk
  obtain ⟨hth, ⟨a1, a2, a3, hn⟩, hrd, F_HI, F_HL, F_HY, F_RO, F_PT, F_LE, F_TA, F_TE⟩ := hI
  obtain ⟨k, hk, hkk⟩ : ∃ k : Nat, k ≤ 2000 ∧ k = n := ⟨n, hn, rfl⟩
  have henv : sy_env ta L_env (L_vs h1 h2 rd i n k) := L_envs a1 a2 a3 (by omega) hn hk
  refine lv_aload_n (pc := 1195) hx hb d_law_law_1195 rfl (lv_at hl 2 rfl) ?_
  refine lv_aload_n (pc := 1196) hx hb d_law_law_1196 rfl (lv_at hl 3 rfl) ?_
  refine lv_iload_n (pc := 1197) hx hb d_law_law_1197 rfl (lv_at hl 0 rfl) ?_
  refine lv_iconst (pc := 1198) (v := 1) hx hb d_law_law_1198 (by decide) ?_
  refine k_add (pc := 1199) (x := i) (y := 1) hx hb d_law_law_1199 ?_
  refine sc_ld (pc := 1200) (j := i + 1) hx hb hX hbl hbA hS (by omega) (by omega) d_law_law_1200 ?_
  refine W.eq (g2 := F0 m 1201 ls (List.reverse [.ref h1, .int (xs (i + 1))] ++ [])) rfl ?_
  refine (cl_virtual (y := y_Ho_octet) (ci := 12) rfl rfl ⟨_, _, rfl⟩ (by decide +kernel) h_Ho_octet wm_2382 wm_1 wm_2379 wm_2380 wm_2381 ⟨by decide, by decide, by decide +kernel⟩ (by decide) : cl_ok PRD l D kA GG "DrawingHouseLaw" _ _ e_Ho_octet) p e room_1 s m #[Value.ref b] below meth c H locs cells slots (lw_Z below #[Value.ref b] s) b_law_law 1201 4 ret meth.name A ws ta ls [.ref h1, .int (xs (i + 1))] [] [] [] X hK hN hA hP hD hS hth (ag_c (tv_rf a1) (ag_c tv_top (ag_n))) (gv_n) (ag_n) (fun _ h => by cases h) (by first | decide | exact Nat.le_of_ble_eq_true rfl) (by first | decide | exact Nat.le_of_ble_eq_true rfl) (by first | decide | exact Nat.le_of_ble_eq_true rfl) (show cells + 0 ≤ 60000 by omega) (show slots + 0 ≤ 8922250 by omega) hl.1 d_law_law_1201 (fun ta1 ws1 H1 locs1 r hle1 hth1 hP1 hD1 hS1 hrt hpo _ hkp => ?_)
  obtain ⟨x1, rfl⟩ := rt_i rfl hrt
  have hpost : ∀ f ∈ ([] : List fc_T), fc_1 PRD f ws1 ([.ref h1, .int (xs (i + 1))] ++ [] ++ [] ++ [.int x1]) := hpo.1
  have hkeep := L_keep (M := [(20, [0], [62, 0]), (20, [0], [62, 1000000]), (20, [0, 2], [62, 2000000]), (20, [1], [60, 0, 3, 198, 2, 3, 4]), (20, [1], [60, 0, 3, 367, 110, 111, 112]), (20, [3, 4], [50, 1, 0, 1, 1, 3, 2, 0, 1, 1, 1]), (20, [1, 4], [50, 1, 0, 0, 1, 3, 2, 0, 0, 1, 1]), (20, [1, 3, 4], [60, 0, 2, 1109, 1, 1000])]) (S := [(20, [0], [62, 0]), (20, [0], [62, 1000000]), (20, [0, 2], [62, 2000000]), (20, [1], [60, 0, 3, 198, 2, 3, 4]), (20, [1], [60, 0, 3, 367, 110, 111, 112]), (20, [3, 4], [50, 1, 0, 1, 1, 3, 2, 0, 1, 1, 1]), (20, [1, 4], [50, 1, 0, 0, 1, 3, 2, 0, 0, 1, 1]), (20, [1, 3, 4], [60, 0, 2, 1109, 1, 1000])]) hth henv hD hle1 hth1 hD1 hkp (by decide +kernel) (List.forall_mem_cons.mpr ⟨F_HI, (List.forall_mem_cons.mpr ⟨F_HL, (List.forall_mem_cons.mpr ⟨F_HY, (List.forall_mem_cons.mpr ⟨F_RO, (List.forall_mem_cons.mpr ⟨F_PT, (List.forall_mem_cons.mpr ⟨F_LE, (List.forall_mem_cons.mpr ⟨F_TA, (List.forall_mem_cons.mpr ⟨F_TE, (fun _ h => by cases h)⟩)⟩)⟩)⟩)⟩)⟩)⟩)⟩)
  have G_HI : fc_m PRD 20 [.ref h1] [62, 0] ws1 := hkeep _ List.mem_cons_self
  have G_HL : fc_m PRD 20 [.ref h1] [62, 1000000] ws1 := hkeep _ (List.mem_cons_of_mem _ List.mem_cons_self)
  have G_HY : fc_m PRD 20 [.ref h1, .int (nI i)] [62, 2000000] ws1 := hkeep _ (List.mem_cons_of_mem _ (List.mem_cons_of_mem _ List.mem_cons_self))
  have G_RO : fc_m PRD 20 [.ref h2] [60, 0, 3, 198, 2, 3, 4] ws1 := hkeep _ (List.mem_cons_of_mem _ (List.mem_cons_of_mem _ (List.mem_cons_of_mem _ List.mem_cons_self)))
  have G_PT : fc_m PRD 20 [.ref h2] [60, 0, 3, 367, 110, 111, 112] ws1 := hkeep _ (List.mem_cons_of_mem _ (List.mem_cons_of_mem _ (List.mem_cons_of_mem _ (List.mem_cons_of_mem _ List.mem_cons_self))))
  have G_LE : fc_m PRD 20 [.ref rd, .int (nI n)] [50, 1, 0, 1, 1, 3, 2, 0, 1, 1, 1] ws1 := hkeep _ (List.mem_cons_of_mem _ (List.mem_cons_of_mem _ (List.mem_cons_of_mem _ (List.mem_cons_of_mem _ (List.mem_cons_of_mem _ List.mem_cons_self)))))
  have G_TA : fc_m PRD 20 [.ref h2, .int (nI n)] [50, 1, 0, 0, 1, 3, 2, 0, 0, 1, 1] ws1 := hkeep _ (List.mem_cons_of_mem _ (List.mem_cons_of_mem _ (List.mem_cons_of_mem _ (List.mem_cons_of_mem _ (List.mem_cons_of_mem _ (List.mem_cons_of_mem _ List.mem_cons_self))))))
  have G_TE : fc_m PRD 20 [.ref h2, .ref rd, .int (nI n)] [60, 0, 2, 1109, 1, 1000] ws1 := hkeep _ (List.mem_cons_of_mem _ (List.mem_cons_of_mem _ (List.mem_cons_of_mem _ (List.mem_cons_of_mem _ (List.mem_cons_of_mem _ (List.mem_cons_of_mem _ (List.mem_cons_of_mem _ List.mem_cons_self)))))))
  have G_HY6 : fc_m PRD 20 [.ref h1, .int (nI (i + 6))] [62, 2000000] ws1 := by have z : HY ws1 (.ref h1) ((nI i).toInt + ((2000000 : Nat) - 2000000 : Int)) := G_HY; show HY ws1 (.ref h1) ((nI (i + 6)).toInt + ((2000000 : Nat) - 2000000 : Int)); rw [nI_toInt (by omega)] at z ⊢; exact hy_le z (by omega)
  have G_LE6 : fc_m PRD 20 [.ref rd, .int (nI k)] [50, 1, 0, 1, 1, 3, 2, 0, 1, 1, 1] ws1 := by rw [hkk]; exact G_LE
  have hrd : L_rd ws1 h1 rd := L_rdk hrd a1 hkp (by decide +kernel)
  have tn17 : TN ws h1 17 → TN ws1 h1 17 := TN_kp a1 hkp (by decide +kernel)
  have tn20 : TN ws h1 20 → TN ws1 h1 20 := TN_kp a1 hkp (by decide +kernel)
  have F_HI := G_HI
  have F_HL := G_HL
  have F_HY6 := G_HY6
  have F_RO := G_RO
  have F_PT := G_PT
  have F_LE6 := G_LE6
  have F_TA := G_TA
  have F_TE := G_TE
  show W p l e room_1 s m #[Value.ref b] below meth c H1 locs1 (cells + 0) (slots + 0) (lw_Z below #[Value.ref b] s) (F0 m 1204 ls [.int x1])
  have hS := hS1
  refine lv_pop (pc := 1204) hx hb d_law_law_1204 rfl ?_
  refine lv_aload_n (pc := 1205) hx hb d_law_law_1205 rfl (lv_at hl 1 rfl) ?_
  refine lv_aload_n (pc := 1206) hx hb d_law_law_1206 rfl (lv_at hl 3 rfl) ?_
  refine lv_iload_n (pc := 1207) hx hb d_law_law_1207 rfl (lv_at hl 0 rfl) ?_
  refine lv_iconst (pc := 1208) (v := 1) hx hb d_law_law_1208 (by decide) ?_
  refine k_add (pc := 1209) (x := i) (y := 1) hx hb d_law_law_1209 ?_
  refine sc_ld (pc := 1210) (j := i + 1) hx hb hX hbl hbA hS (by omega) (by omega) d_law_law_1210 ?_
  refine W.eq (g2 := F0 m 1211 ls (List.reverse [.ref h2, .int (xs (i + 1))] ++ [])) rfl ?_
  refine (cl_virtual (y := y_Mo_octet) (ci := 13) rfl rfl ⟨_, _, rfl⟩ (by decide +kernel) h_Mo_octet wm_3948 wm_9 wm_3945 wm_3946 wm_3947 ⟨by decide, by decide, by decide +kernel⟩ (by decide) : cl_ok PRD l D kA GG "DrawingHouseLaw" _ _ e_Mo_octet) p e room_1 s m #[Value.ref b] below meth c H1 locs1 (cells + 0) (slots + 0) (lw_Z below #[Value.ref b] s) b_law_law 1211 4 ret meth.name A ws1 ta1 ls [.ref h2, .int (xs (i + 1))] [] [] [] X hK hN hA hP1 hD1 hS1 hth1 (ag_c (tv_rf (hle1 _ _ a2)) (ag_c tv_top (ag_n))) (gv_n) (ag_n) (fun _ h => by cases h) (by first | decide | exact Nat.le_of_ble_eq_true rfl) (by first | decide | exact Nat.le_of_ble_eq_true rfl) (by first | decide | exact Nat.le_of_ble_eq_true rfl) (show (cells + 0) + 0 ≤ 60000 by omega) (show (slots + 0) + 0 ≤ 8922250 by omega) hl.1 d_law_law_1211 (fun ta2 ws2 H2 locs2 r hle2 hth2 hP2 hD2 hS2 hrt hpo _ hkp => ?_)
  obtain ⟨x2, rfl⟩ := rt_i rfl hrt
  have hpost : ∀ f ∈ ([] : List fc_T), fc_1 PRD f ws2 ([.ref h2, .int (xs (i + 1))] ++ [] ++ [] ++ [.int x2]) := hpo.1
  have hkeep := L_keep (M := [(20, [0], [62, 0]), (20, [0], [62, 1000000]), (20, [0, 6], [62, 2000000]), (20, [1], [60, 0, 3, 198, 2, 3, 4]), (20, [1], [60, 0, 3, 367, 110, 111, 112]), (20, [3, 5], [50, 1, 0, 1, 1, 3, 2, 0, 1, 1, 1]), (20, [1, 4], [50, 1, 0, 0, 1, 3, 2, 0, 0, 1, 1]), (20, [1, 3, 4], [60, 0, 2, 1109, 1, 1000])]) (S := [(20, [0], [62, 0]), (20, [0], [62, 1000000]), (20, [0, 6], [62, 2000000]), (20, [1], [60, 0, 3, 198, 2, 3, 4]), (20, [1], [60, 0, 3, 367, 110, 111, 112]), (20, [3, 5], [50, 1, 0, 1, 1, 3, 2, 0, 1, 1, 1]), (20, [1, 4], [50, 1, 0, 0, 1, 3, 2, 0, 0, 1, 1]), (20, [1, 3, 4], [60, 0, 2, 1109, 1, 1000])]) hth1 (sy_env_up hle1 henv) hD1 hle2 hth2 hD2 hkp (by decide +kernel) (List.forall_mem_cons.mpr ⟨F_HI, (List.forall_mem_cons.mpr ⟨F_HL, (List.forall_mem_cons.mpr ⟨F_HY6, (List.forall_mem_cons.mpr ⟨F_RO, (List.forall_mem_cons.mpr ⟨F_PT, (List.forall_mem_cons.mpr ⟨F_LE6, (List.forall_mem_cons.mpr ⟨F_TA, (List.forall_mem_cons.mpr ⟨F_TE, (fun _ h => by cases h)⟩)⟩)⟩)⟩)⟩)⟩)⟩)⟩)
  have G_HI : fc_m PRD 20 [.ref h1] [62, 0] ws2 := hkeep _ List.mem_cons_self
  have G_HL : fc_m PRD 20 [.ref h1] [62, 1000000] ws2 := hkeep _ (List.mem_cons_of_mem _ List.mem_cons_self)
  have G_HY6 : fc_m PRD 20 [.ref h1, .int (nI (i + 6))] [62, 2000000] ws2 := hkeep _ (List.mem_cons_of_mem _ (List.mem_cons_of_mem _ List.mem_cons_self))
  have G_RO : fc_m PRD 20 [.ref h2] [60, 0, 3, 198, 2, 3, 4] ws2 := hkeep _ (List.mem_cons_of_mem _ (List.mem_cons_of_mem _ (List.mem_cons_of_mem _ List.mem_cons_self)))
  have G_PT : fc_m PRD 20 [.ref h2] [60, 0, 3, 367, 110, 111, 112] ws2 := hkeep _ (List.mem_cons_of_mem _ (List.mem_cons_of_mem _ (List.mem_cons_of_mem _ (List.mem_cons_of_mem _ List.mem_cons_self))))
  have G_LE6 : fc_m PRD 20 [.ref rd, .int (nI k)] [50, 1, 0, 1, 1, 3, 2, 0, 1, 1, 1] ws2 := hkeep _ (List.mem_cons_of_mem _ (List.mem_cons_of_mem _ (List.mem_cons_of_mem _ (List.mem_cons_of_mem _ (List.mem_cons_of_mem _ List.mem_cons_self)))))
  have G_TA : fc_m PRD 20 [.ref h2, .int (nI n)] [50, 1, 0, 0, 1, 3, 2, 0, 0, 1, 1] ws2 := hkeep _ (List.mem_cons_of_mem _ (List.mem_cons_of_mem _ (List.mem_cons_of_mem _ (List.mem_cons_of_mem _ (List.mem_cons_of_mem _ (List.mem_cons_of_mem _ List.mem_cons_self))))))
  have G_TE : fc_m PRD 20 [.ref h2, .ref rd, .int (nI n)] [60, 0, 2, 1109, 1, 1000] ws2 := hkeep _ (List.mem_cons_of_mem _ (List.mem_cons_of_mem _ (List.mem_cons_of_mem _ (List.mem_cons_of_mem _ (List.mem_cons_of_mem _ (List.mem_cons_of_mem _ (List.mem_cons_of_mem _ List.mem_cons_self)))))))
  have G_TA6 : fc_m PRD 20 [.ref h2, .int (nI k)] [50, 1, 0, 0, 1, 3, 2, 0, 0, 1, 1] ws2 := by rw [hkk]; exact G_TA
  have G_TE6 : fc_m PRD 20 [.ref h2, .ref rd, .int (nI k)] [60, 0, 2, 1109, 1, 1000] ws2 := by have z : TEQ (w_ei ws2 (w_ar ws2 (.ref h2) 1)) (w_ei ws2 (w_ar ws2 (.ref rd) 0)) (nI n).toInt := G_TE; have z2 : TEQ (w_ei ws2 (w_ar ws2 (.ref h2) 1)) (w_ei ws2 (w_ar ws2 (.ref rd) 0)) (nI k).toInt := L_tek z (show k ≤ n by omega) hn; exact z2
  have hrd : L_rd ws2 h1 rd := L_rdk hrd (hle1 _ _ a1) hkp (by decide +kernel)
  have tm17 : TN ws1 h1 17 → TN ws2 h1 17 := TN_kp (hle1 _ _ a1) hkp (by decide +kernel)
  have tm20 : TN ws1 h1 20 → TN ws2 h1 20 := TN_kp (hle1 _ _ a1) hkp (by decide +kernel)
  have F_HI := G_HI
  have F_HL := G_HL
  have F_HY6 := G_HY6
  have F_RO := G_RO
  have F_PT := G_PT
  have F_LE6 := G_LE6
  have F_TA6 := G_TA6
  have F_TE := G_TE
  have F_TE6 := G_TE6
  show W p l e room_1 s m #[Value.ref b] below meth c H2 locs2 (cells + 0 + 0) (slots + 0 + 0) (lw_Z below #[Value.ref b] s) (F0 m 1214 ls [.int x2])
  have hS := hS2
  refine lv_pop (pc := 1214) hx hb d_law_law_1214 rfl ?_
  refine lv_goto (pc := 1215) (tgt := 1294) hx hb d_law_law_1215 (by decide) ?_
  have q1 : cells + 0 + 0 = cells + 0 := by omega
  have q2 : slots + 0 + 0 = slots + 0 := by omega
  rw [q1, q2]
  exact kk k ta2 ws2 H2 locs2 hP2 hD2 hS2 ⟨hth2, ⟨hle2 _ _ (hle1 _ _ a1), hle2 _ _ (hle1 _ _ a2), hle2 _ _ (hle1 _ _ a3), hk⟩, hrd, F_HI, F_HL, F_HY6, F_RO, F_PT, F_LE6, F_TA6, F_TE6⟩ (fun q => tm17 (tn17 q)) (fun q => tm20 (tn20 q))
set_option maxRecDepth 100000 in
set_option maxHeartbeats 4000000 in
/-- dots -/
theorem lc_dots {p : Program} {e : Env} {s : State} {m : MethodId} {below : List Frame} {meth : Method} {c : Code} {l : Launch} {b L : Nat} {xs : Nat → Int32} (C0 : lw_At p s m meth c b L xs) (hL : L ≤ 3072) {D : va_G} {kA : Nat → ClassId} (hK : va_K D classes (TY kA) s) (hN : nsr kA (fun q : Nat => s.heap.size ≤ q) s) (h_Ho_dots : ct_ok PRD l D kA GG y_Ho_dots z_Ho_dots e_Ho_dots) (h_Mo_dots : ct_ok PRD l D kA GG y_Mo_dots z_Mo_dots e_Mo_dots) {h1 h2 rd i n : Nat} (hi : i + 6 ≤ L) {ta : Nat → Option Nat} {ws : va_W} {H : Heap} {locs : List Loc} {ls : Array Slot} {cells slots : Nat} (hP : va_P D classes ws H) (hD : va_D (fun q : Nat => s.heap.size ≤ q) ws) (hS : va_S (fun q : Nat => s.heap.size ≤ q) s.heap H locs) (hI : LI kA h1 h2 rd i n ta ws) (hl : lv_has ls 4 [(3, .int (nI i)), (2, .ref h2), (1, .ref h1), (0, .ref b)]) (hc : cells + 0 ≤ 60000) (hs : slots + 0 ≤ 8922250) (kk : ∀ (k : Nat) (ta : Nat → Option Nat) (w2 : va_W) (H : Heap) (locs : List Loc), va_P D classes w2 H → va_D (fun q : Nat => s.heap.size ≤ q) w2 → va_S (fun q : Nat => s.heap.size ≤ q) s.heap H locs → LI kA h1 h2 rd (i + 6) k ta w2 → (TN ws h1 17 → TN w2 h1 17) → (TN ws h1 20 → TN w2 h1 20) → W p l e room_1 s m #[Value.ref b] below meth c H locs (cells + 0) (slots + 0) (lw_Z below #[Value.ref b] s) (F0 m 1294 ls [])) : W p l e room_1 s m #[Value.ref b] below meth c H locs cells slots (lw_Z below #[Value.ref b] s) (F0 m 1218 ls []) := by
  obtain ⟨hx, hb, hr, hml, hown, hts0, hX, hbl, hlocks, hgv⟩ := id C0
  have hts : ∀ w ∈ lw_g, w.before #[Value.ref b] s = true := fun w h => hts0 w (lw_gt h)
  have X : cx p s m #[Value.ref b] meth c b_law_law 4 ret "DrawingHouseLaw" meth.name := ⟨hx, hb, hml, hown, hts, hr, hlocks, rfl⟩
  obtain ⟨A, hAe⟩ : ∃ A : Nat → Prop, A = fun q : Nat => s.heap.size ≤ q := ⟨_, rfl⟩
  have hA : ∀ q : Nat, s.heap.size ≤ q → A q := fun q h => by rw [hAe]; exact h
  have hbA : ¬ A b := by rw [hAe]; exact Nat.not_le.mpr hbl
  rw [← hAe] at hD hS hN kk
  obtain ⟨hth, ⟨a1, a2, a3, hn⟩, hrd, F_HI, F_HL, F_HY, F_RO, F_PT, F_LE, F_TA, F_TE⟩ := hI
  obtain ⟨k, hk, hkk⟩ : ∃ k : Nat, k ≤ 2000 ∧ k = n := ⟨n, hn, rfl⟩
  have henv : sy_env ta L_env (L_vs h1 h2 rd i n k) := L_envs a1 a2 a3 (by omega) hn hk
  refine lv_aload_n (pc := 1218) hx hb d_law_law_1218 rfl (lv_at hl 2 rfl) ?_
  refine lv_aload_n (pc := 1219) hx hb d_law_law_1219 rfl (lv_at hl 3 rfl) ?_
  refine lv_iload_n (pc := 1220) hx hb d_law_law_1220 rfl (lv_at hl 0 rfl) ?_
  refine lv_iconst (pc := 1221) (v := 1) hx hb d_law_law_1221 (by decide) ?_
  refine k_add (pc := 1222) (x := i) (y := 1) hx hb d_law_law_1222 ?_
  refine sc_ld (pc := 1223) (j := i + 1) hx hb hX hbl hbA hS (by omega) (by omega) d_law_law_1223 ?_
  refine lv_aload_n (pc := 1224) hx hb d_law_law_1224 rfl (lv_at hl 3 rfl) ?_
  refine lv_iload_n (pc := 1225) hx hb d_law_law_1225 rfl (lv_at hl 0 rfl) ?_
  refine lv_iconst (pc := 1226) (v := 2) hx hb d_law_law_1226 (by decide) ?_
  refine k_add (pc := 1227) (x := i) (y := 2) hx hb d_law_law_1227 ?_
  refine sc_ld (pc := 1228) (j := i + 2) hx hb hX hbl hbA hS (by omega) (by omega) d_law_law_1228 ?_
  refine lv_aload_n (pc := 1229) hx hb d_law_law_1229 rfl (lv_at hl 3 rfl) ?_
  refine lv_iload_n (pc := 1230) hx hb d_law_law_1230 rfl (lv_at hl 0 rfl) ?_
  refine lv_iconst (pc := 1231) (v := 3) hx hb d_law_law_1231 (by decide) ?_
  refine k_add (pc := 1232) (x := i) (y := 3) hx hb d_law_law_1232 ?_
  refine sc_ld (pc := 1233) (j := i + 3) hx hb hX hbl hbA hS (by omega) (by omega) d_law_law_1233 ?_
  refine W.eq (g2 := F0 m 1234 ls (List.reverse [.ref h1, .int (xs (i + 1)), .int (xs (i + 2)), .int (xs (i + 3))] ++ [])) rfl ?_
  refine (cl_virtual (y := y_Ho_dots) (ci := 12) rfl rfl ⟨_, _, rfl⟩ (by decide +kernel) h_Ho_dots wm_2386 wm_1 wm_2383 wm_2384 wm_2385 ⟨by decide, by decide, by decide +kernel⟩ (by decide) : cl_ok PRD l D kA GG "DrawingHouseLaw" _ _ e_Ho_dots) p e room_1 s m #[Value.ref b] below meth c H locs cells slots (lw_Z below #[Value.ref b] s) b_law_law 1234 4 ret meth.name A ws ta ls [.ref h1, .int (xs (i + 1)), .int (xs (i + 2)), .int (xs (i + 3))] [] [.int (nI i)] [] X hK hN hA hP hD hS hth (ag_c (tv_rf a1) (ag_c tv_top (ag_c tv_top (ag_c tv_top (ag_n))))) (gv_n) (ag_c (tv_nI (show i ≤ 3066 by omega) (by decide)) (ag_n)) (show ∀ f ∈ ([(20, [0], [62, 0]), (20, [0, 4], [62, 2000000])] : List fc_T), fc_1 PRD f ws ([.ref h1, .int (xs (i + 1)), .int (xs (i + 2)), .int (xs (i + 3))] ++ [] ++ [.int (nI i)]) from (List.forall_mem_cons.mpr ⟨⟨nf_in (N := 5) rfl rfl, F_HI⟩, (List.forall_mem_cons.mpr ⟨⟨nf_in (N := 5) rfl rfl, F_HY⟩, (fun _ h => by cases h)⟩)⟩)) (by first | decide | exact Nat.le_of_ble_eq_true rfl) (by first | decide | exact Nat.le_of_ble_eq_true rfl) (by first | decide | exact Nat.le_of_ble_eq_true rfl) (show cells + 0 ≤ 60000 by omega) (show slots + 0 ≤ 8922250 by omega) hl.1 d_law_law_1234 (fun ta1 ws1 H1 locs1 r hle1 hth1 hP1 hD1 hS1 hrt hpo _ hkp => ?_)
  obtain ⟨x1, rfl⟩ := rt_i rfl hrt
  have hpost : ∀ f ∈ ([(20, [0], [62, 0]), (20, [0, 4], [62, 2000000])] : List fc_T), fc_1 PRD f ws1 ([.ref h1, .int (xs (i + 1)), .int (xs (i + 2)), .int (xs (i + 3))] ++ [] ++ [.int (nI i)] ++ [.int x1]) := hpo.1
  have hkeep := L_keep (M := [(20, [0], [62, 0]), (20, [0], [62, 1000000]), (20, [0, 2], [62, 2000000]), (20, [1], [60, 0, 3, 198, 2, 3, 4]), (20, [1], [60, 0, 3, 367, 110, 111, 112]), (20, [3, 4], [50, 1, 0, 1, 1, 3, 2, 0, 1, 1, 1]), (20, [1, 4], [50, 1, 0, 0, 1, 3, 2, 0, 0, 1, 1]), (20, [1, 3, 4], [60, 0, 2, 1109, 1, 1000])]) (S := [(20, [0], [62, 1000000]), (20, [1], [60, 0, 3, 198, 2, 3, 4]), (20, [1], [60, 0, 3, 367, 110, 111, 112]), (20, [3, 4], [50, 1, 0, 1, 1, 3, 2, 0, 1, 1, 1]), (20, [1, 4], [50, 1, 0, 0, 1, 3, 2, 0, 0, 1, 1]), (20, [1, 3, 4], [60, 0, 2, 1109, 1, 1000])]) hth henv hD hle1 hth1 hD1 hkp (by decide +kernel) (List.forall_mem_cons.mpr ⟨F_HI, (List.forall_mem_cons.mpr ⟨F_HL, (List.forall_mem_cons.mpr ⟨F_HY, (List.forall_mem_cons.mpr ⟨F_RO, (List.forall_mem_cons.mpr ⟨F_PT, (List.forall_mem_cons.mpr ⟨F_LE, (List.forall_mem_cons.mpr ⟨F_TA, (List.forall_mem_cons.mpr ⟨F_TE, (fun _ h => by cases h)⟩)⟩)⟩)⟩)⟩)⟩)⟩)⟩)
  have G_HL : fc_m PRD 20 [.ref h1] [62, 1000000] ws1 := hkeep _ List.mem_cons_self
  have G_RO : fc_m PRD 20 [.ref h2] [60, 0, 3, 198, 2, 3, 4] ws1 := hkeep _ (List.mem_cons_of_mem _ List.mem_cons_self)
  have G_PT : fc_m PRD 20 [.ref h2] [60, 0, 3, 367, 110, 111, 112] ws1 := hkeep _ (List.mem_cons_of_mem _ (List.mem_cons_of_mem _ List.mem_cons_self))
  have G_LE : fc_m PRD 20 [.ref rd, .int (nI n)] [50, 1, 0, 1, 1, 3, 2, 0, 1, 1, 1] ws1 := hkeep _ (List.mem_cons_of_mem _ (List.mem_cons_of_mem _ (List.mem_cons_of_mem _ List.mem_cons_self)))
  have G_TA : fc_m PRD 20 [.ref h2, .int (nI n)] [50, 1, 0, 0, 1, 3, 2, 0, 0, 1, 1] ws1 := hkeep _ (List.mem_cons_of_mem _ (List.mem_cons_of_mem _ (List.mem_cons_of_mem _ (List.mem_cons_of_mem _ List.mem_cons_self))))
  have G_TE : fc_m PRD 20 [.ref h2, .ref rd, .int (nI n)] [60, 0, 2, 1109, 1, 1000] ws1 := hkeep _ (List.mem_cons_of_mem _ (List.mem_cons_of_mem _ (List.mem_cons_of_mem _ (List.mem_cons_of_mem _ (List.mem_cons_of_mem _ List.mem_cons_self)))))
  have G_HI : fc_m PRD 20 [.ref h1] [62, 0] ws1 := (hpost _ List.mem_cons_self).2
  have G_HY : fc_m PRD 20 [.ref h1, .int (nI i)] [62, 2000000] ws1 := (hpost _ (List.mem_cons_of_mem _ List.mem_cons_self)).2
  have G_HY6 : fc_m PRD 20 [.ref h1, .int (nI (i + 6))] [62, 2000000] ws1 := by have z : HY ws1 (.ref h1) ((nI i).toInt + ((2000000 : Nat) - 2000000 : Int)) := G_HY; show HY ws1 (.ref h1) ((nI (i + 6)).toInt + ((2000000 : Nat) - 2000000 : Int)); rw [nI_toInt (by omega)] at z ⊢; exact hy_le z (by omega)
  have G_LE6 : fc_m PRD 20 [.ref rd, .int (nI k)] [50, 1, 0, 1, 1, 3, 2, 0, 1, 1, 1] ws1 := by rw [hkk]; exact G_LE
  have hrd : L_rd ws1 h1 rd := L_rdk hrd a1 hkp (by decide +kernel)
  have tn17 : TN ws h1 17 → TN ws1 h1 17 := TN_kp a1 hkp (by decide +kernel)
  have tn20 : TN ws h1 20 → TN ws1 h1 20 := TN_kp a1 hkp (by decide +kernel)
  have F_HI := G_HI
  have F_HL := G_HL
  have F_HY6 := G_HY6
  have F_RO := G_RO
  have F_PT := G_PT
  have F_LE6 := G_LE6
  have F_TA := G_TA
  have F_TE := G_TE
  show W p l e room_1 s m #[Value.ref b] below meth c H1 locs1 (cells + 0) (slots + 0) (lw_Z below #[Value.ref b] s) (F0 m 1237 ls [.int x1])
  have hS := hS1
  refine lv_pop (pc := 1237) hx hb d_law_law_1237 rfl ?_
  refine lv_aload_n (pc := 1238) hx hb d_law_law_1238 rfl (lv_at hl 1 rfl) ?_
  refine lv_aload_n (pc := 1239) hx hb d_law_law_1239 rfl (lv_at hl 3 rfl) ?_
  refine lv_iload_n (pc := 1240) hx hb d_law_law_1240 rfl (lv_at hl 0 rfl) ?_
  refine lv_iconst (pc := 1241) (v := 1) hx hb d_law_law_1241 (by decide) ?_
  refine k_add (pc := 1242) (x := i) (y := 1) hx hb d_law_law_1242 ?_
  refine sc_ld (pc := 1243) (j := i + 1) hx hb hX hbl hbA hS (by omega) (by omega) d_law_law_1243 ?_
  refine lv_aload_n (pc := 1244) hx hb d_law_law_1244 rfl (lv_at hl 3 rfl) ?_
  refine lv_iload_n (pc := 1245) hx hb d_law_law_1245 rfl (lv_at hl 0 rfl) ?_
  refine lv_iconst (pc := 1246) (v := 2) hx hb d_law_law_1246 (by decide) ?_
  refine k_add (pc := 1247) (x := i) (y := 2) hx hb d_law_law_1247 ?_
  refine sc_ld (pc := 1248) (j := i + 2) hx hb hX hbl hbA hS (by omega) (by omega) d_law_law_1248 ?_
  refine lv_aload_n (pc := 1249) hx hb d_law_law_1249 rfl (lv_at hl 3 rfl) ?_
  refine lv_iload_n (pc := 1250) hx hb d_law_law_1250 rfl (lv_at hl 0 rfl) ?_
  refine lv_iconst (pc := 1251) (v := 3) hx hb d_law_law_1251 (by decide) ?_
  refine k_add (pc := 1252) (x := i) (y := 3) hx hb d_law_law_1252 ?_
  refine sc_ld (pc := 1253) (j := i + 3) hx hb hX hbl hbA hS (by omega) (by omega) d_law_law_1253 ?_
  refine W.eq (g2 := F0 m 1254 ls (List.reverse [.ref h2, .int (xs (i + 1)), .int (xs (i + 2)), .int (xs (i + 3))] ++ [])) rfl ?_
  refine (cl_virtual (y := y_Mo_dots) (ci := 13) rfl rfl ⟨_, _, rfl⟩ (by decide +kernel) h_Mo_dots wm_3952 wm_9 wm_3949 wm_3950 wm_3951 ⟨by decide, by decide, by decide +kernel⟩ (by decide) : cl_ok PRD l D kA GG "DrawingHouseLaw" _ _ e_Mo_dots) p e room_1 s m #[Value.ref b] below meth c H1 locs1 (cells + 0) (slots + 0) (lw_Z below #[Value.ref b] s) b_law_law 1254 4 ret meth.name A ws1 ta1 ls [.ref h2, .int (xs (i + 1)), .int (xs (i + 2)), .int (xs (i + 3))] [] [] [] X hK hN hA hP1 hD1 hS1 hth1 (ag_c (tv_rf (hle1 _ _ a2)) (ag_c tv_top (ag_c tv_top (ag_c tv_top (ag_n))))) (gv_n) (ag_n) (fun _ h => by cases h) (by first | decide | exact Nat.le_of_ble_eq_true rfl) (by first | decide | exact Nat.le_of_ble_eq_true rfl) (by first | decide | exact Nat.le_of_ble_eq_true rfl) (show (cells + 0) + 0 ≤ 60000 by omega) (show (slots + 0) + 0 ≤ 8922250 by omega) hl.1 d_law_law_1254 (fun ta2 ws2 H2 locs2 r hle2 hth2 hP2 hD2 hS2 hrt hpo _ hkp => ?_)
  obtain ⟨x2, rfl⟩ := rt_i rfl hrt
  have hpost : ∀ f ∈ ([] : List fc_T), fc_1 PRD f ws2 ([.ref h2, .int (xs (i + 1)), .int (xs (i + 2)), .int (xs (i + 3))] ++ [] ++ [] ++ [.int x2]) := hpo.1
  have hkeep := L_keep (M := [(20, [0], [62, 0]), (20, [0], [62, 1000000]), (20, [0, 6], [62, 2000000]), (20, [1], [60, 0, 3, 198, 2, 3, 4]), (20, [1], [60, 0, 3, 367, 110, 111, 112]), (20, [3, 5], [50, 1, 0, 1, 1, 3, 2, 0, 1, 1, 1]), (20, [1, 4], [50, 1, 0, 0, 1, 3, 2, 0, 0, 1, 1]), (20, [1, 3, 4], [60, 0, 2, 1109, 1, 1000])]) (S := [(20, [0], [62, 0]), (20, [0], [62, 1000000]), (20, [0, 6], [62, 2000000]), (20, [1], [60, 0, 3, 198, 2, 3, 4]), (20, [1], [60, 0, 3, 367, 110, 111, 112]), (20, [3, 5], [50, 1, 0, 1, 1, 3, 2, 0, 1, 1, 1]), (20, [1, 4], [50, 1, 0, 0, 1, 3, 2, 0, 0, 1, 1]), (20, [1, 3, 4], [60, 0, 2, 1109, 1, 1000])]) hth1 (sy_env_up hle1 henv) hD1 hle2 hth2 hD2 hkp (by decide +kernel) (List.forall_mem_cons.mpr ⟨F_HI, (List.forall_mem_cons.mpr ⟨F_HL, (List.forall_mem_cons.mpr ⟨F_HY6, (List.forall_mem_cons.mpr ⟨F_RO, (List.forall_mem_cons.mpr ⟨F_PT, (List.forall_mem_cons.mpr ⟨F_LE6, (List.forall_mem_cons.mpr ⟨F_TA, (List.forall_mem_cons.mpr ⟨F_TE, (fun _ h => by cases h)⟩)⟩)⟩)⟩)⟩)⟩)⟩)⟩)
  have G_HI : fc_m PRD 20 [.ref h1] [62, 0] ws2 := hkeep _ List.mem_cons_self
  have G_HL : fc_m PRD 20 [.ref h1] [62, 1000000] ws2 := hkeep _ (List.mem_cons_of_mem _ List.mem_cons_self)
  have G_HY6 : fc_m PRD 20 [.ref h1, .int (nI (i + 6))] [62, 2000000] ws2 := hkeep _ (List.mem_cons_of_mem _ (List.mem_cons_of_mem _ List.mem_cons_self))
  have G_RO : fc_m PRD 20 [.ref h2] [60, 0, 3, 198, 2, 3, 4] ws2 := hkeep _ (List.mem_cons_of_mem _ (List.mem_cons_of_mem _ (List.mem_cons_of_mem _ List.mem_cons_self)))
  have G_PT : fc_m PRD 20 [.ref h2] [60, 0, 3, 367, 110, 111, 112] ws2 := hkeep _ (List.mem_cons_of_mem _ (List.mem_cons_of_mem _ (List.mem_cons_of_mem _ (List.mem_cons_of_mem _ List.mem_cons_self))))
  have G_LE6 : fc_m PRD 20 [.ref rd, .int (nI k)] [50, 1, 0, 1, 1, 3, 2, 0, 1, 1, 1] ws2 := hkeep _ (List.mem_cons_of_mem _ (List.mem_cons_of_mem _ (List.mem_cons_of_mem _ (List.mem_cons_of_mem _ (List.mem_cons_of_mem _ List.mem_cons_self)))))
  have G_TA : fc_m PRD 20 [.ref h2, .int (nI n)] [50, 1, 0, 0, 1, 3, 2, 0, 0, 1, 1] ws2 := hkeep _ (List.mem_cons_of_mem _ (List.mem_cons_of_mem _ (List.mem_cons_of_mem _ (List.mem_cons_of_mem _ (List.mem_cons_of_mem _ (List.mem_cons_of_mem _ List.mem_cons_self))))))
  have G_TE : fc_m PRD 20 [.ref h2, .ref rd, .int (nI n)] [60, 0, 2, 1109, 1, 1000] ws2 := hkeep _ (List.mem_cons_of_mem _ (List.mem_cons_of_mem _ (List.mem_cons_of_mem _ (List.mem_cons_of_mem _ (List.mem_cons_of_mem _ (List.mem_cons_of_mem _ (List.mem_cons_of_mem _ List.mem_cons_self)))))))
  have G_TA6 : fc_m PRD 20 [.ref h2, .int (nI k)] [50, 1, 0, 0, 1, 3, 2, 0, 0, 1, 1] ws2 := by rw [hkk]; exact G_TA
  have G_TE6 : fc_m PRD 20 [.ref h2, .ref rd, .int (nI k)] [60, 0, 2, 1109, 1, 1000] ws2 := by have z : TEQ (w_ei ws2 (w_ar ws2 (.ref h2) 1)) (w_ei ws2 (w_ar ws2 (.ref rd) 0)) (nI n).toInt := G_TE; have z2 : TEQ (w_ei ws2 (w_ar ws2 (.ref h2) 1)) (w_ei ws2 (w_ar ws2 (.ref rd) 0)) (nI k).toInt := L_tek z (show k ≤ n by omega) hn; exact z2
  have hrd : L_rd ws2 h1 rd := L_rdk hrd (hle1 _ _ a1) hkp (by decide +kernel)
  have tm17 : TN ws1 h1 17 → TN ws2 h1 17 := TN_kp (hle1 _ _ a1) hkp (by decide +kernel)
  have tm20 : TN ws1 h1 20 → TN ws2 h1 20 := TN_kp (hle1 _ _ a1) hkp (by decide +kernel)
  have F_HI := G_HI
  have F_HL := G_HL
  have F_HY6 := G_HY6
  have F_RO := G_RO
  have F_PT := G_PT
  have F_LE6 := G_LE6
  have F_TA6 := G_TA6
  have F_TE := G_TE
  have F_TE6 := G_TE6
  show W p l e room_1 s m #[Value.ref b] below meth c H2 locs2 (cells + 0 + 0) (slots + 0 + 0) (lw_Z below #[Value.ref b] s) (F0 m 1257 ls [.int x2])
  have hS := hS2
  refine lv_pop (pc := 1257) hx hb d_law_law_1257 rfl ?_
  refine lv_goto (pc := 1258) (tgt := 1294) hx hb d_law_law_1258 (by decide) ?_
  have q1 : cells + 0 + 0 = cells + 0 := by omega
  have q2 : slots + 0 + 0 = slots + 0 := by omega
  rw [q1, q2]
  exact kk k ta2 ws2 H2 locs2 hP2 hD2 hS2 ⟨hth2, ⟨hle2 _ _ (hle1 _ _ a1), hle2 _ _ (hle1 _ _ a2), hle2 _ _ (hle1 _ _ a3), hk⟩, hrd, F_HI, F_HL, F_HY6, F_RO, F_PT, F_LE6, F_TA6, F_TE6⟩ (fun q => tm17 (tn17 q)) (fun q => tm20 (tn20 q))
set_option maxRecDepth 100000 in
set_option maxHeartbeats 4000000 in
/-- dot -/
theorem lc_dot {p : Program} {e : Env} {s : State} {m : MethodId} {below : List Frame} {meth : Method} {c : Code} {l : Launch} {b L : Nat} {xs : Nat → Int32} (C0 : lw_At p s m meth c b L xs) (hL : L ≤ 3072) {D : va_G} {kA : Nat → ClassId} (hK : va_K D classes (TY kA) s) (hN : nsr kA (fun q : Nat => s.heap.size ≤ q) s) (h_Ho_dot : ct_ok PRD l D kA GG y_Ho_dot z_Ho_dot e_Ho_dot) (h_Mo_dot : ct_ok PRD l D kA GG y_Mo_dot z_Mo_dot e_Mo_dot) {h1 h2 rd i n : Nat} (hi : i + 6 ≤ L) {ta : Nat → Option Nat} {ws : va_W} {H : Heap} {locs : List Loc} {ls : Array Slot} {cells slots : Nat} (hP : va_P D classes ws H) (hD : va_D (fun q : Nat => s.heap.size ≤ q) ws) (hS : va_S (fun q : Nat => s.heap.size ≤ q) s.heap H locs) (hI : LI kA h1 h2 rd i n ta ws) (hl : lv_has ls 4 [(3, .int (nI i)), (2, .ref h2), (1, .ref h1), (0, .ref b)]) (hc : cells + 0 ≤ 60000) (hs : slots + 0 ≤ 8922250) (kk : ∀ (k : Nat) (ta : Nat → Option Nat) (w2 : va_W) (H : Heap) (locs : List Loc), va_P D classes w2 H → va_D (fun q : Nat => s.heap.size ≤ q) w2 → va_S (fun q : Nat => s.heap.size ≤ q) s.heap H locs → LI kA h1 h2 rd (i + 6) k ta w2 → (TN ws h1 17 → TN w2 h1 17) → (TN ws h1 20 → TN w2 h1 20) → W p l e room_1 s m #[Value.ref b] below meth c H locs (cells + 0) (slots + 0) (lw_Z below #[Value.ref b] s) (F0 m 1294 ls [])) : W p l e room_1 s m #[Value.ref b] below meth c H locs cells slots (lw_Z below #[Value.ref b] s) (F0 m 1261 ls []) := by
  obtain ⟨hx, hb, hr, hml, hown, hts0, hX, hbl, hlocks, hgv⟩ := id C0
  have hts : ∀ w ∈ lw_g, w.before #[Value.ref b] s = true := fun w h => hts0 w (lw_gt h)
  have X : cx p s m #[Value.ref b] meth c b_law_law 4 ret "DrawingHouseLaw" meth.name := ⟨hx, hb, hml, hown, hts, hr, hlocks, rfl⟩
  obtain ⟨A, hAe⟩ : ∃ A : Nat → Prop, A = fun q : Nat => s.heap.size ≤ q := ⟨_, rfl⟩
  have hA : ∀ q : Nat, s.heap.size ≤ q → A q := fun q h => by rw [hAe]; exact h
  have hbA : ¬ A b := by rw [hAe]; exact Nat.not_le.mpr hbl
  rw [← hAe] at hD hS hN kk
  obtain ⟨hth, ⟨a1, a2, a3, hn⟩, hrd, F_HI, F_HL, F_HY, F_RO, F_PT, F_LE, F_TA, F_TE⟩ := hI
  obtain ⟨k, hk, hkk⟩ : ∃ k : Nat, k ≤ 2000 ∧ k = n := ⟨n, hn, rfl⟩
  have henv : sy_env ta L_env (L_vs h1 h2 rd i n k) := L_envs a1 a2 a3 (by omega) hn hk
  refine lv_aload_n (pc := 1261) hx hb d_law_law_1261 rfl (lv_at hl 2 rfl) ?_
  refine lv_aload_n (pc := 1262) hx hb d_law_law_1262 rfl (lv_at hl 3 rfl) ?_
  refine lv_iload_n (pc := 1263) hx hb d_law_law_1263 rfl (lv_at hl 0 rfl) ?_
  refine lv_iconst (pc := 1264) (v := 1) hx hb d_law_law_1264 (by decide) ?_
  refine k_add (pc := 1265) (x := i) (y := 1) hx hb d_law_law_1265 ?_
  refine sc_ld (pc := 1266) (j := i + 1) hx hb hX hbl hbA hS (by omega) (by omega) d_law_law_1266 ?_
  refine lv_aload_n (pc := 1267) hx hb d_law_law_1267 rfl (lv_at hl 3 rfl) ?_
  refine lv_iload_n (pc := 1268) hx hb d_law_law_1268 rfl (lv_at hl 0 rfl) ?_
  refine lv_iconst (pc := 1269) (v := 2) hx hb d_law_law_1269 (by decide) ?_
  refine k_add (pc := 1270) (x := i) (y := 2) hx hb d_law_law_1270 ?_
  refine sc_ld (pc := 1271) (j := i + 2) hx hb hX hbl hbA hS (by omega) (by omega) d_law_law_1271 ?_
  refine W.eq (g2 := F0 m 1272 ls (List.reverse [.ref h1, .int (xs (i + 1)), .int (xs (i + 2))] ++ [])) rfl ?_
  refine (cl_virtual (y := y_Ho_dot) (ci := 12) rfl rfl ⟨_, _, rfl⟩ (by decide +kernel) h_Ho_dot wm_2408 wm_1 wm_2405 wm_2406 wm_2407 ⟨by decide, by decide, by decide +kernel⟩ (by decide) : cl_ok PRD l D kA GG "DrawingHouseLaw" _ _ e_Ho_dot) p e room_1 s m #[Value.ref b] below meth c H locs cells slots (lw_Z below #[Value.ref b] s) b_law_law 1272 4 ret meth.name A ws ta ls [.ref h1, .int (xs (i + 1)), .int (xs (i + 2))] [] [] [] X hK hN hA hP hD hS hth (ag_c (tv_rf a1) (ag_c tv_top (ag_c tv_top (ag_n)))) (gv_n) (ag_n) (fun _ h => by cases h) (by first | decide | exact Nat.le_of_ble_eq_true rfl) (by first | decide | exact Nat.le_of_ble_eq_true rfl) (by first | decide | exact Nat.le_of_ble_eq_true rfl) (show cells + 0 ≤ 60000 by omega) (show slots + 0 ≤ 8922250 by omega) hl.1 d_law_law_1272 (fun ta1 ws1 H1 locs1 r hle1 hth1 hP1 hD1 hS1 hrt hpo _ hkp => ?_)
  obtain ⟨x1, rfl⟩ := rt_i rfl hrt
  have hpost : ∀ f ∈ ([] : List fc_T), fc_1 PRD f ws1 ([.ref h1, .int (xs (i + 1)), .int (xs (i + 2))] ++ [] ++ [] ++ [.int x1]) := hpo.1
  have hkeep := L_keep (M := [(20, [0], [62, 0]), (20, [0], [62, 1000000]), (20, [0, 2], [62, 2000000]), (20, [1], [60, 0, 3, 198, 2, 3, 4]), (20, [1], [60, 0, 3, 367, 110, 111, 112]), (20, [3, 4], [50, 1, 0, 1, 1, 3, 2, 0, 1, 1, 1]), (20, [1, 4], [50, 1, 0, 0, 1, 3, 2, 0, 0, 1, 1]), (20, [1, 3, 4], [60, 0, 2, 1109, 1, 1000])]) (S := [(20, [0], [62, 0]), (20, [0], [62, 1000000]), (20, [0, 2], [62, 2000000]), (20, [1], [60, 0, 3, 198, 2, 3, 4]), (20, [1], [60, 0, 3, 367, 110, 111, 112]), (20, [3, 4], [50, 1, 0, 1, 1, 3, 2, 0, 1, 1, 1]), (20, [1, 4], [50, 1, 0, 0, 1, 3, 2, 0, 0, 1, 1]), (20, [1, 3, 4], [60, 0, 2, 1109, 1, 1000])]) hth henv hD hle1 hth1 hD1 hkp (by decide +kernel) (List.forall_mem_cons.mpr ⟨F_HI, (List.forall_mem_cons.mpr ⟨F_HL, (List.forall_mem_cons.mpr ⟨F_HY, (List.forall_mem_cons.mpr ⟨F_RO, (List.forall_mem_cons.mpr ⟨F_PT, (List.forall_mem_cons.mpr ⟨F_LE, (List.forall_mem_cons.mpr ⟨F_TA, (List.forall_mem_cons.mpr ⟨F_TE, (fun _ h => by cases h)⟩)⟩)⟩)⟩)⟩)⟩)⟩)⟩)
  have G_HI : fc_m PRD 20 [.ref h1] [62, 0] ws1 := hkeep _ List.mem_cons_self
  have G_HL : fc_m PRD 20 [.ref h1] [62, 1000000] ws1 := hkeep _ (List.mem_cons_of_mem _ List.mem_cons_self)
  have G_HY : fc_m PRD 20 [.ref h1, .int (nI i)] [62, 2000000] ws1 := hkeep _ (List.mem_cons_of_mem _ (List.mem_cons_of_mem _ List.mem_cons_self))
  have G_RO : fc_m PRD 20 [.ref h2] [60, 0, 3, 198, 2, 3, 4] ws1 := hkeep _ (List.mem_cons_of_mem _ (List.mem_cons_of_mem _ (List.mem_cons_of_mem _ List.mem_cons_self)))
  have G_PT : fc_m PRD 20 [.ref h2] [60, 0, 3, 367, 110, 111, 112] ws1 := hkeep _ (List.mem_cons_of_mem _ (List.mem_cons_of_mem _ (List.mem_cons_of_mem _ (List.mem_cons_of_mem _ List.mem_cons_self))))
  have G_LE : fc_m PRD 20 [.ref rd, .int (nI n)] [50, 1, 0, 1, 1, 3, 2, 0, 1, 1, 1] ws1 := hkeep _ (List.mem_cons_of_mem _ (List.mem_cons_of_mem _ (List.mem_cons_of_mem _ (List.mem_cons_of_mem _ (List.mem_cons_of_mem _ List.mem_cons_self)))))
  have G_TA : fc_m PRD 20 [.ref h2, .int (nI n)] [50, 1, 0, 0, 1, 3, 2, 0, 0, 1, 1] ws1 := hkeep _ (List.mem_cons_of_mem _ (List.mem_cons_of_mem _ (List.mem_cons_of_mem _ (List.mem_cons_of_mem _ (List.mem_cons_of_mem _ (List.mem_cons_of_mem _ List.mem_cons_self))))))
  have G_TE : fc_m PRD 20 [.ref h2, .ref rd, .int (nI n)] [60, 0, 2, 1109, 1, 1000] ws1 := hkeep _ (List.mem_cons_of_mem _ (List.mem_cons_of_mem _ (List.mem_cons_of_mem _ (List.mem_cons_of_mem _ (List.mem_cons_of_mem _ (List.mem_cons_of_mem _ (List.mem_cons_of_mem _ List.mem_cons_self)))))))
  have G_HY6 : fc_m PRD 20 [.ref h1, .int (nI (i + 6))] [62, 2000000] ws1 := by have z : HY ws1 (.ref h1) ((nI i).toInt + ((2000000 : Nat) - 2000000 : Int)) := G_HY; show HY ws1 (.ref h1) ((nI (i + 6)).toInt + ((2000000 : Nat) - 2000000 : Int)); rw [nI_toInt (by omega)] at z ⊢; exact hy_le z (by omega)
  have G_LE6 : fc_m PRD 20 [.ref rd, .int (nI k)] [50, 1, 0, 1, 1, 3, 2, 0, 1, 1, 1] ws1 := by rw [hkk]; exact G_LE
  have hrd : L_rd ws1 h1 rd := L_rdk hrd a1 hkp (by decide +kernel)
  have tn17 : TN ws h1 17 → TN ws1 h1 17 := TN_kp a1 hkp (by decide +kernel)
  have tn20 : TN ws h1 20 → TN ws1 h1 20 := TN_kp a1 hkp (by decide +kernel)
  have F_HI := G_HI
  have F_HL := G_HL
  have F_HY6 := G_HY6
  have F_RO := G_RO
  have F_PT := G_PT
  have F_LE6 := G_LE6
  have F_TA := G_TA
  have F_TE := G_TE
  show W p l e room_1 s m #[Value.ref b] below meth c H1 locs1 (cells + 0) (slots + 0) (lw_Z below #[Value.ref b] s) (F0 m 1275 ls [.int x1])
  have hS := hS1
  refine lv_pop (pc := 1275) hx hb d_law_law_1275 rfl ?_
  refine lv_aload_n (pc := 1276) hx hb d_law_law_1276 rfl (lv_at hl 1 rfl) ?_
  refine lv_aload_n (pc := 1277) hx hb d_law_law_1277 rfl (lv_at hl 3 rfl) ?_
  refine lv_iload_n (pc := 1278) hx hb d_law_law_1278 rfl (lv_at hl 0 rfl) ?_
  refine lv_iconst (pc := 1279) (v := 1) hx hb d_law_law_1279 (by decide) ?_
  refine k_add (pc := 1280) (x := i) (y := 1) hx hb d_law_law_1280 ?_
  refine sc_ld (pc := 1281) (j := i + 1) hx hb hX hbl hbA hS (by omega) (by omega) d_law_law_1281 ?_
  refine lv_aload_n (pc := 1282) hx hb d_law_law_1282 rfl (lv_at hl 3 rfl) ?_
  refine lv_iload_n (pc := 1283) hx hb d_law_law_1283 rfl (lv_at hl 0 rfl) ?_
  refine lv_iconst (pc := 1284) (v := 2) hx hb d_law_law_1284 (by decide) ?_
  refine k_add (pc := 1285) (x := i) (y := 2) hx hb d_law_law_1285 ?_
  refine sc_ld (pc := 1286) (j := i + 2) hx hb hX hbl hbA hS (by omega) (by omega) d_law_law_1286 ?_
  refine W.eq (g2 := F0 m 1287 ls (List.reverse [.ref h2, .int (xs (i + 1)), .int (xs (i + 2))] ++ [])) rfl ?_
  refine (cl_virtual (y := y_Mo_dot) (ci := 13) rfl rfl ⟨_, _, rfl⟩ (by decide +kernel) h_Mo_dot wm_3968 wm_9 wm_3965 wm_3966 wm_3967 ⟨by decide, by decide, by decide +kernel⟩ (by decide) : cl_ok PRD l D kA GG "DrawingHouseLaw" _ _ e_Mo_dot) p e room_1 s m #[Value.ref b] below meth c H1 locs1 (cells + 0) (slots + 0) (lw_Z below #[Value.ref b] s) b_law_law 1287 4 ret meth.name A ws1 ta1 ls [.ref h2, .int (xs (i + 1)), .int (xs (i + 2))] [] [] [] X hK hN hA hP1 hD1 hS1 hth1 (ag_c (tv_rf (hle1 _ _ a2)) (ag_c tv_top (ag_c tv_top (ag_n)))) (gv_n) (ag_n) (fun _ h => by cases h) (by first | decide | exact Nat.le_of_ble_eq_true rfl) (by first | decide | exact Nat.le_of_ble_eq_true rfl) (by first | decide | exact Nat.le_of_ble_eq_true rfl) (show (cells + 0) + 0 ≤ 60000 by omega) (show (slots + 0) + 0 ≤ 8922250 by omega) hl.1 d_law_law_1287 (fun ta2 ws2 H2 locs2 r hle2 hth2 hP2 hD2 hS2 hrt hpo _ hkp => ?_)
  obtain ⟨x2, rfl⟩ := rt_i rfl hrt
  have hpost : ∀ f ∈ ([] : List fc_T), fc_1 PRD f ws2 ([.ref h2, .int (xs (i + 1)), .int (xs (i + 2))] ++ [] ++ [] ++ [.int x2]) := hpo.1
  have hkeep := L_keep (M := [(20, [0], [62, 0]), (20, [0], [62, 1000000]), (20, [0, 6], [62, 2000000]), (20, [1], [60, 0, 3, 198, 2, 3, 4]), (20, [1], [60, 0, 3, 367, 110, 111, 112]), (20, [3, 5], [50, 1, 0, 1, 1, 3, 2, 0, 1, 1, 1]), (20, [1, 4], [50, 1, 0, 0, 1, 3, 2, 0, 0, 1, 1]), (20, [1, 3, 4], [60, 0, 2, 1109, 1, 1000])]) (S := [(20, [0], [62, 0]), (20, [0], [62, 1000000]), (20, [0, 6], [62, 2000000]), (20, [1], [60, 0, 3, 198, 2, 3, 4]), (20, [1], [60, 0, 3, 367, 110, 111, 112]), (20, [3, 5], [50, 1, 0, 1, 1, 3, 2, 0, 1, 1, 1]), (20, [1, 4], [50, 1, 0, 0, 1, 3, 2, 0, 0, 1, 1]), (20, [1, 3, 4], [60, 0, 2, 1109, 1, 1000])]) hth1 (sy_env_up hle1 henv) hD1 hle2 hth2 hD2 hkp (by decide +kernel) (List.forall_mem_cons.mpr ⟨F_HI, (List.forall_mem_cons.mpr ⟨F_HL, (List.forall_mem_cons.mpr ⟨F_HY6, (List.forall_mem_cons.mpr ⟨F_RO, (List.forall_mem_cons.mpr ⟨F_PT, (List.forall_mem_cons.mpr ⟨F_LE6, (List.forall_mem_cons.mpr ⟨F_TA, (List.forall_mem_cons.mpr ⟨F_TE, (fun _ h => by cases h)⟩)⟩)⟩)⟩)⟩)⟩)⟩)⟩)
  have G_HI : fc_m PRD 20 [.ref h1] [62, 0] ws2 := hkeep _ List.mem_cons_self
  have G_HL : fc_m PRD 20 [.ref h1] [62, 1000000] ws2 := hkeep _ (List.mem_cons_of_mem _ List.mem_cons_self)
  have G_HY6 : fc_m PRD 20 [.ref h1, .int (nI (i + 6))] [62, 2000000] ws2 := hkeep _ (List.mem_cons_of_mem _ (List.mem_cons_of_mem _ List.mem_cons_self))
  have G_RO : fc_m PRD 20 [.ref h2] [60, 0, 3, 198, 2, 3, 4] ws2 := hkeep _ (List.mem_cons_of_mem _ (List.mem_cons_of_mem _ (List.mem_cons_of_mem _ List.mem_cons_self)))
  have G_PT : fc_m PRD 20 [.ref h2] [60, 0, 3, 367, 110, 111, 112] ws2 := hkeep _ (List.mem_cons_of_mem _ (List.mem_cons_of_mem _ (List.mem_cons_of_mem _ (List.mem_cons_of_mem _ List.mem_cons_self))))
  have G_LE6 : fc_m PRD 20 [.ref rd, .int (nI k)] [50, 1, 0, 1, 1, 3, 2, 0, 1, 1, 1] ws2 := hkeep _ (List.mem_cons_of_mem _ (List.mem_cons_of_mem _ (List.mem_cons_of_mem _ (List.mem_cons_of_mem _ (List.mem_cons_of_mem _ List.mem_cons_self)))))
  have G_TA : fc_m PRD 20 [.ref h2, .int (nI n)] [50, 1, 0, 0, 1, 3, 2, 0, 0, 1, 1] ws2 := hkeep _ (List.mem_cons_of_mem _ (List.mem_cons_of_mem _ (List.mem_cons_of_mem _ (List.mem_cons_of_mem _ (List.mem_cons_of_mem _ (List.mem_cons_of_mem _ List.mem_cons_self))))))
  have G_TE : fc_m PRD 20 [.ref h2, .ref rd, .int (nI n)] [60, 0, 2, 1109, 1, 1000] ws2 := hkeep _ (List.mem_cons_of_mem _ (List.mem_cons_of_mem _ (List.mem_cons_of_mem _ (List.mem_cons_of_mem _ (List.mem_cons_of_mem _ (List.mem_cons_of_mem _ (List.mem_cons_of_mem _ List.mem_cons_self)))))))
  have G_TA6 : fc_m PRD 20 [.ref h2, .int (nI k)] [50, 1, 0, 0, 1, 3, 2, 0, 0, 1, 1] ws2 := by rw [hkk]; exact G_TA
  have G_TE6 : fc_m PRD 20 [.ref h2, .ref rd, .int (nI k)] [60, 0, 2, 1109, 1, 1000] ws2 := by have z : TEQ (w_ei ws2 (w_ar ws2 (.ref h2) 1)) (w_ei ws2 (w_ar ws2 (.ref rd) 0)) (nI n).toInt := G_TE; have z2 : TEQ (w_ei ws2 (w_ar ws2 (.ref h2) 1)) (w_ei ws2 (w_ar ws2 (.ref rd) 0)) (nI k).toInt := L_tek z (show k ≤ n by omega) hn; exact z2
  have hrd : L_rd ws2 h1 rd := L_rdk hrd (hle1 _ _ a1) hkp (by decide +kernel)
  have tm17 : TN ws1 h1 17 → TN ws2 h1 17 := TN_kp (hle1 _ _ a1) hkp (by decide +kernel)
  have tm20 : TN ws1 h1 20 → TN ws2 h1 20 := TN_kp (hle1 _ _ a1) hkp (by decide +kernel)
  have F_HI := G_HI
  have F_HL := G_HL
  have F_HY6 := G_HY6
  have F_RO := G_RO
  have F_PT := G_PT
  have F_LE6 := G_LE6
  have F_TA6 := G_TA6
  have F_TE := G_TE
  have F_TE6 := G_TE6
  show W p l e room_1 s m #[Value.ref b] below meth c H2 locs2 (cells + 0 + 0) (slots + 0 + 0) (lw_Z below #[Value.ref b] s) (F0 m 1290 ls [.int x2])
  have hS := hS2
  refine lv_pop (pc := 1290) hx hb d_law_law_1290 rfl ?_
  refine lv_goto (pc := 1291) (tgt := 1294) hx hb d_law_law_1291 (by decide) ?_
  have q1 : cells + 0 + 0 = cells + 0 := by omega
  have q2 : slots + 0 + 0 = slots + 0 := by omega
  rw [q1, q2]
  exact kk k ta2 ws2 H2 locs2 hP2 hD2 hS2 ⟨hth2, ⟨hle2 _ _ (hle1 _ _ a1), hle2 _ _ (hle1 _ _ a2), hle2 _ _ (hle1 _ _ a3), hk⟩, hrd, F_HI, F_HL, F_HY6, F_RO, F_PT, F_LE6, F_TA6, F_TE6⟩ (fun q => tm17 (tn17 q)) (fun q => tm20 (tn20 q))
