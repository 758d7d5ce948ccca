/-- a contract that answers a reference whose address is known -/
abbrev Cr {S : Type} (l : Launch) (y : MethodName) (z : List Cond) (rm : Room) (D : va_G) (cl : List vw_C) (tys : List (ClassId × FieldType)) (rv : Nat) (av : List Value) (sg : List va_W) (post : S → Prop) (sf : S → List va_W) (mc ms : Nat) : Prop :=
  ∀ sz : Nat, Met l y z rm (va_Pc av (wp D cl tys sz (cat sg))) (va_Qr post (fun u a t => a = rv ∧ wq D cl tys (va_A (cat sg) sz) (cat (sf u)) t) (va_A (cat sg) sz)) mc ms (va_A (cat sg) sz)
section K6L
variable {p : Program} {l : Launch} {e : Env} {R : Room} {s : State} {m : MethodId} {args : Array Value} {below : List Frame} {meth : Method} {c : Code} {H : Heap} {locs : List Loc} {cells slots : Nat} {Q : State → Prop}
  {D : va_G} {cl : List vw_C} {tys : List (ClassId × FieldType)} {ws : va_W} {A : Nat → Prop} {cc : ByteArray} {nL : Nat} {ret : Option FieldType} {own nm : String} {pc : Nat} {ls : Array Slot} {rest : List Value} {a : Nat}
theorem k_goR {S : Type} {rv : Nat} {post : S → Prop} {sf : S → List va_W} {sg gc gr : List va_W} {st0 : List Value} {mc ms : Nat} {b : Array Value}
    (hr : va_Run p l e R s m args below meth c H locs cells slots mc ms (F0 m pc ls st0) rest (va_Qr post (fun u a t => a = rv ∧ wq D cl tys (va_A (cat gc) H.size) (cat (sf u)) t) (va_A (cat gc) H.size) b) (va_A (cat gc) H.size))
    (hP : va_P D cl (cat sg) H) (hD : va_D A (cat sg)) (hS : va_S A s.heap H locs) (hA : ∀ q, s.heap.size ≤ q → A q) (isC isR : List Nat) (ng : Nat) (hng : sg.length = ng) (hp : (isR ++ isC).isPerm (List.range ng) = true) (hC : sg_at sg isC = gc) (hR : sg_at sg isR = gr)
    (kk : ∀ (u : S) (H1 : Heap) (locs1 : List Loc), post u → va_P D cl (cat (gr ++ sf u)) H1 → va_D A (cat (gr ++ sf u)) → va_S A s.heap H1 locs1 → W p l e R s m args below meth c H1 locs1 (cells + mc) (slots + ms) Q (F0 m (pc + 3) ls (.ref rv :: rest))) : W p l e R s m args below meth c H locs cells slots Q (F0 m pc ls st0) := by
  subst hng
  have hsp := sg_split sg isC isR hp
  rw [hC, hR] at hsp
  have hP0 := vP_perm hsp hP
  have hD0 := vD_perm hsp hD
  have hCp := wp_places (cat gr) (cat gc)
  have hCq : ((List.range (cat gc).length).map (fun i => (cat gr).length + i)).map (fun i => (cat gr ++ cat gc)[i]?) = (cat gc).map some := by rw [List.map_map]; exact hCp
  have hF := va_free (wc := cat gc) hD0 hS hA _ hCq
  refine va_callr hr hS (fun q _ h => hF q h) hF (fun u ra t H1 locs1 ht _ hw hB _ hk1 hS1 => ?_)
  obtain ⟨hra, hP1, _, hD1⟩ := hB
  subst hra
  rw [ht] at hP1
  obtain ⟨hP2, hD2⟩ := va_join (wr := cat gr) (w1 := cat (sf u)) hP0 hD0 _ (List.range (cat gr).length) hCq (wp_placesL _ _) (nd_iff _ List.nodup_range) (fun i hi hj => by
    obtain ⟨k, _, e2⟩ := List.mem_map.mp hj
    have := List.mem_range.mp hi
    omega) hk1 hF hP1 hD1
  exact kk u H1 locs1 hw (by rw [cat_app]; exact hP2) (by rw [cat_app]; exact hD2) hS1
theorem k_goL {S : Type} {post : Int64 → S → Prop} {sf : S → List va_W} {sg gc gr : List va_W} {st0 : List Value} {mc ms : Nat} {b : Array Value}
    (hr : va_Run p l e R s m args below meth c H locs cells slots mc ms (F0 m pc ls st0) rest (va_Ql post (fun u t => wq D cl tys (va_A (cat gc) H.size) (cat (sf u)) t) (va_A (cat gc) H.size) b) (va_A (cat gc) H.size))
    (hP : va_P D cl (cat sg) H) (hD : va_D A (cat sg)) (hS : va_S A s.heap H locs) (hA : ∀ q, s.heap.size ≤ q → A q) (isC isR : List Nat) (ng : Nat) (hng : sg.length = ng) (hp : (isR ++ isC).isPerm (List.range ng) = true) (hC : sg_at sg isC = gc) (hR : sg_at sg isR = gr)
    (kk : ∀ (r : Int64) (u : S) (H1 : Heap) (locs1 : List Loc), post r u → va_P D cl (cat (gr ++ sf u)) H1 → va_D A (cat (gr ++ sf u)) → va_S A s.heap H1 locs1 → W p l e R s m args below meth c H1 locs1 (cells + mc) (slots + ms) Q (F0 m (pc + 3) ls (.long r :: rest))) : W p l e R s m args below meth c H locs cells slots Q (F0 m pc ls st0) := by
  subst hng
  have hsp := sg_split sg isC isR hp
  rw [hC, hR] at hsp
  have hP0 := vP_perm hsp hP
  have hD0 := vD_perm hsp hD
  have hCp := wp_places (cat gr) (cat gc)
  have hCq : ((List.range (cat gc).length).map (fun i => (cat gr).length + i)).map (fun i => (cat gr ++ cat gc)[i]?) = (cat gc).map some := by rw [List.map_map]; exact hCp
  have hF := va_free (wc := cat gc) hD0 hS hA _ hCq
  refine va_calll hr hS (fun q _ h => hF q h) hF (fun r u t H1 locs1 ht _ hw hB _ hk1 hS1 => ?_)
  obtain ⟨hP1, _, hD1⟩ := hB
  rw [ht] at hP1
  obtain ⟨hP2, hD2⟩ := va_join (wr := cat gr) (w1 := cat (sf u)) hP0 hD0 _ (List.range (cat gr).length) hCq (wp_placesL _ _) (nd_iff _ List.nodup_range) (fun i hi hj => by
    obtain ⟨k, _, e2⟩ := List.mem_map.mp hj
    have := List.mem_range.mp hi
    omega) hk1 hF hP1 hD1
  exact kk r u H1 locs1 hw (by rw [cat_app]; exact hP2) (by rw [cat_app]; exact hD2) hS1
end K6L
/-- a part of a world is a world -/
theorem k_drop {D : va_G} {cl : List vw_C} {A : Nat → Prop} {H : Heap} {sg : List va_W} (hP : va_P D cl (cat sg) H) (hD : va_D A (cat sg)) (isR isC : List Nat) (ng : Nat) (hng : sg.length = ng) (hp : (isR ++ isC).isPerm (List.range ng) = true) {gc : List va_W} (hC : sg_at sg isC = gc) : va_P D cl (cat gc) H ∧ va_D A (cat gc) := by
  subst hng
  have hsp := sg_split sg isC isR hp
  rw [hC] at hsp
  have hP0 := vP_iff.mp (vP_perm hsp hP)
  have hD0 := vD_iff.mp (vD_perm hsp hD)
  refine ⟨vP_iff.mpr (fun q hq => hP0 q (List.mem_append_right _ hq)), vD_iff.mpr ⟨?_, fun q hq => hD0.2 q (List.mem_append_right _ hq)⟩⟩
  have h2 := hD0.1
  rw [List.map_append] at h2
  exact (List.nodup_append.mp h2).2.1
theorem k_left {D : va_G} {cl : List vw_C} {A : Nat → Prop} {H : Heap} {a b : List va_W} (hP : va_P D cl (cat (a ++ b)) H) (hD : va_D A (cat (a ++ b))) : va_P D cl (cat a) H ∧ va_D A (cat a) := by
  rw [cat_app] at hP hD
  have hP0 := vP_iff.mp hP
  have hD0 := vD_iff.mp hD
  refine ⟨vP_iff.mpr (fun q hq => hP0 q (List.mem_append_left _ hq)), vD_iff.mpr ⟨?_, fun q hq => hD0.2 q (List.mem_append_left _ hq)⟩⟩
  have h2 := hD0.1
  rw [List.map_append] at h2
  exact (List.nodup_append.mp h2).1
theorem m1_lt {v : Int32} (h : ¬ v < 0) : (-1) < v := by
  have h2 : ¬ v.toInt < (0 : Int32).toInt := fun z => h (Int32.lt_iff_toInt_lt.mpr z)
  have h3 : ¬ v.toInt < 0 := h2
  refine Int32.lt_iff_toInt_lt.mpr ?_
  show (-1 : Int) < v.toInt
  omega
theorem clr_row (f : Nat → Int32) (row : Nat) : upd (upd (clr f row 539) (row + 2) 1) (row + 531) (-1) row = 0 := by
  simp only [upd, clr]
  rw [if_neg (by omega), if_neg (by omega), if_pos (by omega)]
theorem drawn0 {j : Nat} (hj : j < 4) : (upd (upd (upd (upd (fun _ => 0) 0 (-1)) 1 (-1)) 2 (-1)) 3 (-1)) j = (-1 : Int32) := by
  match j, hj with
  | 0, _ => rfl
  | 1, _ => rfl
  | 2, _ => rfl
  | 3, _ => rfl
  | j + 4, hj => omega
theorem clr_in (f : Nat → Int32) (row o : Nat) (ho : o < 539) : upd (upd (clr f row 539) (row + 2) 1) (row + 531) (-1) (row + o) = if o = 2 then 1 else if o = 531 then -1 else 0 := by
  simp only [upd, clr]
  by_cases h1 : o = 531
  · subst h1; simp
  · rw [if_neg (by omega)]
    by_cases h2 : o = 2
    · subst h2; simp
    · rw [if_neg (by omega), if_pos (by omega), if_neg h2, if_neg h1]
theorem clr_out (f : Nat → Int32) (row i : Nat) (hi : i < row ∨ row + 539 ≤ i) : upd (upd (clr f row 539) (row + 2) 1) (row + 531) (-1) i = f i := by
  simp only [upd, clr]
  rw [if_neg (by omega), if_neg (by omega), if_neg (by omega)]
theorem all0_at {j o : Nat} (hj : j < 4) (ho : o < 539) : all0 (539 * (31 * j + 0) + o) = if o = 2 then 1 else if o = 531 then -1 else 0 := by
  unfold all0
  match j, hj with
  | 3, _ => exact clr_in _ _ o ho
  | 2, _ => rw [clr_out _ _ _ (by omega)]; exact clr_in _ _ o ho
  | 1, _ => rw [clr_out _ _ _ (by omega), clr_out _ _ _ (by omega)]; exact clr_in _ _ o ho
  | 0, _ => rw [clr_out _ _ _ (by omega), clr_out _ _ _ (by omega), clr_out _ _ _ (by omega)]; exact clr_in _ _ o ho
  | j + 4, hj => omega
theorem all0_e {j i o : Nat} (hj : j < 4) (hi : i = 539 * (31 * j + 0) + o) (ho : o < 539) {v : Int32} (hv : (if o = 2 then 1 else if o = 531 then -1 else 0) = v) : all0 i = v := by
  rw [hi, all0_at hj ho]; exact hv
theorem ac_room {n R : Nat} (h : n + 18 ≤ R) : n + (nativeFrameWords "java/lang/System" "arraycopy" 5 + 11) ≤ R := by
  have e : nativeFrameWords "java/lang/System" "arraycopy" 5 = 7 := by first | rfl | decide | simp [nativeFrameWords]
  omega
