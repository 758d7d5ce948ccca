theorem wm_1 : (Cond.initialized "DrawingHouse" : Cond) ∈ lw_g := lw_gi (lw_c1 (List.mem_of_getElem? (i := 1) rfl)) rfl
theorem wm_25 : (Cond.classLink "DrawingHouseLaw" (7 : Nat) "DrawingHouse" : Cond) ∈ lw_g := lw_gi (lw_c1 (List.mem_of_getElem? (i := 25) rfl)) rfl
theorem wm_26 : (Cond.instantiable "DrawingHouse" (21 : Nat) : Cond) ∈ lw_g := lw_gi (lw_c1 (List.mem_of_getElem? (i := 26) rfl)) rfl
theorem wm_27 : (Cond.methodLink "DrawingHouseLaw" (9 : Nat) ({ cls := "DrawingHouse", name := "<init>", desc := "()V" } : MethodName) : Cond) ∈ lw_g := lw_gi (lw_c1 (List.mem_of_getElem? (i := 27) rfl)) rfl
theorem wm_28 : (Cond.instanceMethod ({ cls := "DrawingHouse", name := "<init>", desc := "()V" } : MethodName) : Cond) ∈ lw_g := lw_gi (lw_c1 (List.mem_of_getElem? (i := 28) rfl)) rfl
theorem wm_1187 : (Cond.instantiable "DrawingHouse$Layers" (21 : Nat) : Cond) ∈ lw_g := lw_gi (lw_c5 (List.mem_of_getElem? (i := 227) rfl)) rfl
theorem wm_1193 : (Cond.instantiable "DrawingHouse$Stretch" (9 : Nat) : Cond) ∈ lw_g := lw_gi (lw_c5 (List.mem_of_getElem? (i := 233) rfl)) rfl
theorem wm_1466 : (Cond.instantiable "DrawingHouse$PlanarWays" (9 : Nat) : Cond) ∈ lw_g := lw_gi (lw_c7 (List.mem_of_getElem? (i := 26) rfl)) rfl
theorem wm_1620 : (Cond.instantiable "DrawingHouse$PlainWays" (19 : Nat) : Cond) ∈ lw_g := lw_gi (lw_c7 (List.mem_of_getElem? (i := 180) rfl)) rfl
theorem wm_1861 : (Cond.instantiable "DrawingHouse$Router" (18 : Nat) : Cond) ∈ lw_g := lw_gi (lw_c8 (List.mem_of_getElem? (i := 181) rfl)) rfl
theorem wm_2090 : (Cond.instantiable "DrawingHouse$Styler" (17 : Nat) : Cond) ∈ lw_g := lw_gi (lw_c9 (List.mem_of_getElem? (i := 170) rfl)) rfl
theorem wm_2409 : (Cond.classLink "DrawingHouseLaw" (10 : Nat) "DrawingHouseModel" : Cond) ∈ lw_g := lw_gi (lw_c11 (List.mem_of_getElem? (i := 9) rfl)) rfl
theorem wm_2410 : (Cond.instantiable "DrawingHouseModel" (176 : Nat) : Cond) ∈ lw_g := lw_gi (lw_c11 (List.mem_of_getElem? (i := 10) rfl)) rfl
theorem wm_2411 : (Cond.methodLink "DrawingHouseLaw" (12 : Nat) ({ cls := "DrawingHouseModel", name := "<init>", desc := "()V" } : MethodName) : Cond) ∈ lw_g := lw_gi (lw_c11 (List.mem_of_getElem? (i := 11) rfl)) rfl
theorem wm_2412 : (Cond.instanceMethod ({ cls := "DrawingHouseModel", name := "<init>", desc := "()V" } : MethodName) : Cond) ∈ lw_g := lw_gi (lw_c11 (List.mem_of_getElem? (i := 12) rfl)) rfl
abbrev b_law_law : ByteArray := code
theorem d_law_law_0 : decode b_law_law 0 = .ok (.new 7, 3) := by decide +kernel
theorem d_law_law_3 : decode b_law_law 3 = .ok (.dup, 1) := by decide +kernel
theorem d_law_law_4 : decode b_law_law 4 = .ok (.invokespecial 9, 3) := by decide +kernel
theorem d_law_law_7 : decode b_law_law 7 = .ok (.astore_n 1, 1) := by decide +kernel
theorem d_law_law_8 : decode b_law_law 8 = .ok (.new 10, 3) := by decide +kernel
theorem d_law_law_11 : decode b_law_law 11 = .ok (.dup, 1) := by decide +kernel
theorem d_law_law_12 : decode b_law_law 12 = .ok (.invokespecial 12, 3) := by decide +kernel
theorem d_law_law_15 : decode b_law_law 15 = .ok (.astore_n 2, 1) := by decide +kernel
theorem d_law_law_16 : decode b_law_law 16 = .ok (.iconst 0, 1) := by decide +kernel
theorem d_law_law_17 : decode b_law_law 17 = .ok (.istore_n 3, 1) := by decide +kernel
theorem cat1 (x : va_W) : cat [x] = x := List.append_nil x
theorem nst_of {s : State} {args : Array Value} (hts : ∀ w ∈ lw_tbl, w.before args s = true) : nst s := fun w hw => by
  have h1 := List.mem_filter.mp hw
  have h2 := hts w h1.1
  have h3 := h1.2
  cases w with
  | methodLinkNest a i x n => exact va_Nw.of rfl h2
  | fieldLinkNest a i b n d x => exact va_Nw.of rfl h2
  | arrayOver t =>
    cases t with
    | object C => exact va_AO.of h2
    | _ => simp [isNest] at h3
  | stringRef a i x => exact h2
  | _ => simp [isNest] at h3
theorem ka_prim {s : State} {args : Array Value} {ty : FieldType} (h : (Cond.arrayClass ty).before args s = true) (hp : ∀ C, ty ≠ .object C) : ∃ cA, ArrOfT s cA ty ∧ va_RA s cA ty := by
  obtain ⟨cA, kA, comp, h1, h2, h3⟩ := Cond.arrayClass_spec h
  refine ⟨cA, fun n z => ⟨fun k h => (by cases h), kA, h2, comp, h3⟩, ?_⟩
  cases ty <;> first | exact h1 | exact absurd rfl (hp _)
theorem ka_obj {s : State} {args : Array Value} {C : String} (h : (Cond.arrayOver (.object C)).before args s = true) : ∃ cA, ArrOfT s cA (.object C) ∧ va_RA s cA (.object C) := by
  obtain ⟨comp, cA, kA, hcomp, hidx, hkA, hkindA, hnameA⟩ := Cond.arrayOver_spec h
  exact ⟨cA, fun n z => ⟨fun k h => (by cases h), kA, hkA, comp, hkindA⟩, kA, comp, hkA, hkindA, hcomp, hnameA⟩
set_option maxRecDepth 100000 in
set_option maxHeartbeats 4000000 in
theorem law_K {s : State} {args : Array Value} (hts : ∀ w ∈ lw_tbl, w.before args s = true) : ∃ (D : va_G) (kA : Nat → ClassId), va_K D classes (TY kA) s := by
  have htg : ∀ w ∈ lw_g, w.before args s = true := fun w h => hts w (lw_gt h)
  obtain ⟨c0, iS0, hKn0⟩ := u_known (C := R_Dr) (T := F_Dr) (N := 21) (n := 21) htg i_Dr (htg _ wm_460)
  obtain ⟨c1, iS1, hKn1⟩ := u_known (C := R_Em) (T := F_Em) (N := 20) (n := 20) htg i_Em (htg _ wm_237)
  obtain ⟨c2, iS2, hKn2⟩ := u_known (C := R_Fa) (T := F_Fa) (N := 15) (n := 15) htg i_Fa (htg _ wm_389)
  obtain ⟨c3, iS3, hKn3⟩ := u_known (C := R_Gr) (T := F_Gr) (N := 19) (n := 19) htg i_Gr (htg _ wm_48)
  obtain ⟨c4, iS4, hKn4⟩ := u_known (C := R_La) (T := F_La) (N := 21) (n := 21) htg i_La (htg _ wm_1187)
  obtain ⟨c5, iS5, hKn5⟩ := u_known (C := R_Ne) (T := F_Ne) (N := 17) (n := 17) htg i_Ne (htg _ wm_243)
  obtain ⟨c6, iS6, hKn6⟩ := u_known (C := R_Pl) (T := F_Pl) (N := 19) (n := 19) htg i_Pl (htg _ wm_1620)
  obtain ⟨c7, iS7, hKn7⟩ := u_known (C := R_Pn) (T := F_Pn) (N := 9) (n := 9) htg i_Pn (htg _ wm_1466)
  obtain ⟨c8, iS8, hKn8⟩ := u_known (C := R_Re) (T := F_Re) (N := 12) (n := 12) htg i_Re (htg _ wm_42)
  obtain ⟨c9, iS9, hKn9⟩ := u_known (C := R_Ro) (T := F_Ro) (N := 18) (n := 18) htg i_Ro (htg _ wm_1861)
  obtain ⟨c10, iS10, hKn10⟩ := u_known (C := R_St) (T := F_St) (N := 9) (n := 9) htg i_St (htg _ wm_1193)
  obtain ⟨c11, iS11, hKn11⟩ := u_known (C := R_Sy) (T := F_Sy) (N := 17) (n := 17) htg i_Sy (htg _ wm_2090)
  obtain ⟨c12, iS12, hKn12⟩ := u_known (C := R_Ho) (T := F_Ho) (N := 21) (n := 21) htg i_Ho (htg _ wm_26)
  obtain ⟨c13, iS13, hKn13⟩ := u_known (C := R_Mo) (T := F_Mo) (N := 176) (n := 176) htg i_Mo (htg _ wm_2410)
  obtain ⟨k0, hk0⟩ := ka_prim (htg _ wm_193) (fun C h => by cases h)
  obtain ⟨k1, hk1⟩ := ka_prim (htg _ wm_192) (fun C h => by cases h)
  obtain ⟨k2, hk2⟩ := ka_prim (htg _ wm_387) (fun C h => by cases h)
  obtain ⟨k3, hk3⟩ := ka_prim (htg _ wm_1683) (fun C h => by cases h)
  obtain ⟨k4, hk4⟩ := ka_obj (hts _ (List.mem_filter.mp wn_34).1)
  obtain ⟨k5, hk5⟩ := ka_obj (hts _ (List.mem_filter.mp wn_36).1)
  obtain ⟨k6, hk6⟩ := ka_obj (hts _ (List.mem_filter.mp wn_38).1)
  obtain ⟨k7, hk7⟩ := ka_obj (hts _ (List.mem_filter.mp wn_40).1)
  refine ⟨(fun k => match k with | 0 => c0 | 1 => c1 | 2 => c2 | 3 => c3 | 4 => c4 | 5 => c5 | 6 => c6 | 7 => c7 | 8 => c8 | 9 => c9 | 10 => c10 | 11 => c11 | 12 => c12 | _ => c13, fun k => match k with | 0 => iS0 | 1 => iS1 | 2 => iS2 | 3 => iS3 | 4 => iS4 | 5 => iS5 | 6 => iS6 | 7 => iS7 | 8 => iS8 | 9 => iS9 | 10 => iS10 | 11 => iS11 | 12 => iS12 | _ => iS13), fun k => match k with | 0 => k0 | 1 => k1 | 2 => k2 | 3 => k3 | 4 => k4 | 5 => k5 | 6 => k6 | _ => k7, fun k q hq => ?_, fun k q hq => ?_⟩
  · match k, hq with
    | 0, hq => cases hq; exact hKn0
    | 1, hq => cases hq; exact hKn1
    | 2, hq => cases hq; exact hKn2
    | 3, hq => cases hq; exact hKn3
    | 4, hq => cases hq; exact hKn4
    | 5, hq => cases hq; exact hKn5
    | 6, hq => cases hq; exact hKn6
    | 7, hq => cases hq; exact hKn7
    | 8, hq => cases hq; exact hKn8
    | 9, hq => cases hq; exact hKn9
    | 10, hq => cases hq; exact hKn10
    | 11, hq => cases hq; exact hKn11
    | 12, hq => cases hq; exact hKn12
    | 13, hq => cases hq; exact hKn13
    | k + 14, hq => simp [classes] at hq
  · match k, hq with
    | 0, hq => cases hq; exact hk0
    | 1, hq => cases hq; exact hk1
    | 2, hq => cases hq; exact hk2
    | 3, hq => cases hq; exact hk3
    | 4, hq => cases hq; exact hk4
    | 5, hq => cases hq; exact hk5
    | 6, hq => cases hq; exact hk6
    | 7, hq => cases hq; exact hk7
    | k + 8, hq => simp [TY] at hq
set_option maxRecDepth 100000 in
set_option maxHeartbeats 8000000 in
/-- the law from its entry to its loop, with both worlds as they are made -/
theorem law_start {p : Program} {e : Env} {s : State} {m : MethodId} {below : List Frame} {meth : Method} {c : Code} (l : Launch) {b L : Nat} {xs : Nat → Int32} (C0 : lw_At p s m meth c b L xs)
    (hloop : ∀ (D : va_G) (kA : Nat → ClassId) (h1 h2 : Nat) (u1 : Nat → Nat → Nat) (u2 : Nat → Nat) (H : Heap) (locs : List Loc) (ls : Array Slot), va_K D classes (TY kA) s → nst s → (u1 50 1 = u1 0 4 ∧ u1 50 3 = u1 0 5 ∧ u1 50 2 = u1 1 4 ∧ u1 50 4 = u1 3 1 ∧ u1 8 0 = u1 50 5 ∧ u1 12 0 = u1 50 9 ∧ u1 16 0 = u1 50 13 ∧ u1 20 0 = u1 50 17) → va_P D classes (cat [cat (sHo kA h1 u1), cat (sMo kA h2 u2)]) H → va_D (fun q : Nat => s.heap.size ≤ q) (cat [cat (sHo kA h1 u1), cat (sMo kA h2 u2)]) → va_S (fun q : Nat => s.heap.size ≤ q) s.heap H locs → lv_has ls 4 [(3, .int 0), (2, .ref h2), (1, .ref h1), (0, .ref b)] → W p l e room_1 s m #[Value.ref b] below meth c H locs 368 365796 (lw_Z below #[Value.ref b] s) (F0 m 18 ls [])) :
    W p l e room_1 s m #[Value.ref b] below meth c s.heap [] 0 0 (lw_Z below #[Value.ref b] s) (entryFrame m ([Value.ref b] : List Value).toArray 4) := by
  obtain ⟨hx, hb, hr, hml, hown, hts0, hX, hbl, hlocks, hgv⟩ := id C0
  have hN := nst_of hts0
  obtain ⟨D, kA, hK⟩ := law_K hts0
  have hts : ∀ w ∈ lw_g, w.before #[Value.ref b] s = true := fun w h => hts0 w (lw_gt h)
  have X : cx p s m #[Value.ref b] meth c b_law_law 4 ret "DrawingHouseLaw" meth.name := ⟨hx, hb, hml, hown, hts, hr, hlocks, rfl⟩
  obtain ⟨A, hAe⟩ : ∃ A : Nat → Prop, A = fun q : Nat => s.heap.size ≤ q := ⟨_, rfl⟩
  have hA : ∀ q : Nat, s.heap.size ≤ q → A q := fun q h => by rw [hAe]; exact h
  have hS : va_S A s.heap s.heap [] := va_S.rf
  have hP : va_P D classes (cat []) s.heap := fun k q h => by simp [cat] at h
  have hD : va_D A (cat []) := ⟨fun i j p q h => by simp [cat] at h, fun k q h => by simp [cat] at h⟩
  have hl := lv_entry ([.ref b]) (n := 4) (Nat.le_of_ble_eq_true rfl)
  rw [lg_entry_eq]
  generalize (lg_sl ([.ref b]) ++ List.replicate (4 - (lg_sl ([.ref b])).length) Slot.unset).toArray = ls at hl ⊢
  have hl : lv_has ls 4 [(0, .ref b)] := hl
  refine k_new (pc := 0) (fs := f0Ho) X i_Ho t_Ho t_Ho_ok wm_25 wm_26 wm_1 hK hP hD hS hA (ci := 12) rfl f0Ho_ok (Nat.le_of_ble_eq_true rfl) (Nat.le_of_ble_eq_true rfl) d_law_law_0 (fun q1 H hP hD hS => ?_)
  have hP : va_P D classes (cat [[(q1, .inr (12, [.null, .null, .null, .null, .null, .null, .null, .int 0, .int 0, .null, .null, .int 0, .int 0, .null, .int 0, .int 0, .null, .null, .null, .null, .null]))]]) H := hP
  have hD : va_D A (cat [[(q1, .inr (12, [.null, .null, .null, .null, .null, .null, .null, .int 0, .int 0, .null, .null, .int 0, .int 0, .null, .int 0, .int 0, .null, .null, .null, .null, .null]))]]) := hD
  refine W.widen (k := 1) (n := 21) (by omega) (by omega) ?_
  refine lv_dup (pc := 3) hx hb d_law_law_3 rfl ?_
  refine k_goV (gr := []) (k_rI (pc := 4) (As := []) (rest := [.ref q1]) X (c_Ho_init l D kA q1 H.size) rfl wm_29 wm_1 wm_27 wm_28 rfl 0 (by decide +kernel) ⟨Nat.le_of_ble_eq_true rfl, Nat.le_of_ble_eq_true rfl⟩ rfl rfl (k_pre hN hK hP hD [0] [] 1 rfl (by decide) rfl) rfl hl.1 rfl (Nat.le_of_ble_eq_true rfl) d_law_law_4 ⟨Nat.le_of_ble_eq_true rfl, Nat.le_of_ble_eq_true rfl⟩) hP hD hS hA [0] [] 1 rfl (by decide) rfl rfl (fun u2 H locs hu2 hP hD hS => ?_)
  have hP : va_P D classes (cat [cat (sHo kA q1 u2)]) H := by rw [cat1]; exact hP
  have hD : va_D A (cat [cat (sHo kA q1 u2)]) := by rw [cat1]; exact hD
  refine W.widen (k := 249) (n := 42687) (by omega) (by omega) ?_
  refine lv_astore_n (pc := 7) (lv' := [(1, .ref q1), (0, .ref b)]) hx hb d_law_law_7 rfl hl (by decide) rfl (fun ls hl => ?_)
  refine k_new (pc := 8) (fs := f0Mo) X i_Mo t_Mo t_Mo_ok wm_2409 wm_2410 wm_9 hK hP hD hS hA (ci := 13) rfl f0Mo_ok (Nat.le_of_ble_eq_true rfl) (Nat.le_of_ble_eq_true rfl) d_law_law_8 (fun q3 H hP hD hS => ?_)
  have hP : va_P D classes (cat [cat (sHo kA q1 u2), [(q3, .inr (13, [.int 0, .null, .null, .null, .null, .int 0, .null, .int 0, .int 0, .int 0, .int 0, .int 0, .int 0, .int 0, .int 0, .int 0, .null, .null, .null, .null, .null, .null, .null, .null, .null, .int 0, .int 0, .int 0, .int 0, .int 0, .int 0, .int 0, .int 0, .null, .null, .null, .null, .null, .null, .int 0, .null, .null, .null, .null, .null, .int 0, .null, .int 0, .null, .int 0, .null, .null, .null, .int 0, .null, .null, .null, .null, .int 0, .int 0, .null, .null, .null, .null, .null, .null, .null, .null, .null, .null, .null, .null, .null, .null, .null, .null, .null, .null, .null, .int 0, .int 0, .int 0, .null, .null, .null, .null, .null, .null, .null, .null, .null, .null, .null, .null, .int 0, .null, .null, .null, .null, .int 0, .int 0, .int 0, .null, .null, .null, .null, .null, .int 0, .null, .null, .null, .null, .null, .null, .null, .null, .null, .null, .null, .null, .null, .int 0, .null, .null, .null, .int 0, .null, .null, .null, .null, .null, .null, .int 0, .long 0, .long 0, .null, .null, .null, .null, .int 0, .null, .null, .null, .null, .int 0, .int 0, .int 0, .int 0, .null, .null, .int 0, .null, .null, .int 0, .int 0, .int 0, .int 0, .int 0, .int 0, .int 0, .null, .null, .null, .null, .int 0, .int 0, .null, .null, .null, .int 0, .int 0, .null, .null, .int 0, .int 0, .null]))]]) H := hP
  have hD : va_D A (cat [cat (sHo kA q1 u2), [(q3, .inr (13, [.int 0, .null, .null, .null, .null, .int 0, .null, .int 0, .int 0, .int 0, .int 0, .int 0, .int 0, .int 0, .int 0, .int 0, .null, .null, .null, .null, .null, .null, .null, .null, .null, .int 0, .int 0, .int 0, .int 0, .int 0, .int 0, .int 0, .int 0, .null, .null, .null, .null, .null, .null, .int 0, .null, .null, .null, .null, .null, .int 0, .null, .int 0, .null, .int 0, .null, .null, .null, .int 0, .null, .null, .null, .null, .int 0, .int 0, .null, .null, .null, .null, .null, .null, .null, .null, .null, .null, .null, .null, .null, .null, .null, .null, .null, .null, .null, .int 0, .int 0, .int 0, .null, .null, .null, .null, .null, .null, .null, .null, .null, .null, .null, .null, .int 0, .null, .null, .null, .null, .int 0, .int 0, .int 0, .null, .null, .null, .null, .null, .int 0, .null, .null, .null, .null, .null, .null, .null, .null, .null, .null, .null, .null, .null, .int 0, .null, .null, .null, .int 0, .null, .null, .null, .null, .null, .null, .int 0, .long 0, .long 0, .null, .null, .null, .null, .int 0, .null, .null, .null, .null, .int 0, .int 0, .int 0, .int 0, .null, .null, .int 0, .null, .null, .int 0, .int 0, .int 0, .int 0, .int 0, .int 0, .int 0, .null, .null, .null, .null, .int 0, .int 0, .null, .null, .null, .int 0, .int 0, .null, .null, .int 0, .int 0, .null]))]]) := hD
  refine W.widen (k := 250) (n := 42863) (by omega) (by omega) ?_
  refine lv_dup (pc := 11) hx hb d_law_law_11 rfl ?_
  refine k_goV (gr := [cat (sHo kA q1 u2)]) (k_rI (pc := 12) (As := []) (rest := [.ref q3]) X (c_Mo_init l D kA q3 H.size) rfl wm_2413 wm_9 wm_2411 wm_2412 rfl 0 (by decide +kernel) ⟨Nat.le_of_ble_eq_true rfl, Nat.le_of_ble_eq_true rfl⟩ rfl rfl (k_pre hN hK hP hD [1] [0] 2 rfl (by decide) rfl) rfl hl.1 rfl (Nat.le_of_ble_eq_true rfl) d_law_law_12 ⟨Nat.le_of_ble_eq_true rfl, Nat.le_of_ble_eq_true rfl⟩) hP hD hS hA [1] [0] 2 rfl (by decide) rfl rfl (fun u4 H locs hu4 hP hD hS => ?_)
  have hP : va_P D classes (cat [cat (sHo kA q1 u2), cat (sMo kA q3 u4)]) H := by show va_P D classes (cat (sHo kA q1 u2) ++ (cat (sMo kA q3 u4) ++ [])) H; rw [List.append_nil]; exact hP
  have hD : va_D A (cat [cat (sHo kA q1 u2), cat (sMo kA q3 u4)]) := by show va_D A (cat (sHo kA q1 u2) ++ (cat (sMo kA q3 u4) ++ [])); rw [List.append_nil]; exact hD
  refine W.widen (k := 368) (n := 365796) (by omega) (by omega) ?_
  refine lv_astore_n (pc := 15) (lv' := [(2, .ref q3), (1, .ref q1), (0, .ref b)]) hx hb d_law_law_15 rfl hl (by decide) rfl (fun ls hl => ?_)
  refine lv_iconst (pc := 16) (v := 0) hx hb d_law_law_16 (by decide) ?_
  refine lv_istore_n (pc := 17) (lv' := [(3, .int 0), (2, .ref q3), (1, .ref q1), (0, .ref b)]) hx hb d_law_law_17 rfl hl (by decide) rfl (fun ls hl => ?_)
  rw [hAe] at hD hS
  exact hloop D kA q1 q3 u2 u4 H locs ls hK hN hu2 hP hD hS hl
