theorem lw_c1 {w : Cond} (h : w ∈ tables_1_1) : w ∈ lw_tbl := List.mem_append_right _ (List.mem_append_left _ h)
theorem lw_c2 {w : Cond} (h : w ∈ tables_1_2) : w ∈ lw_tbl := List.mem_append_right _ (List.mem_append_right _ (List.mem_append_left _ h))
theorem lw_c3 {w : Cond} (h : w ∈ tables_1_3) : w ∈ lw_tbl := List.mem_append_right _ (List.mem_append_right _ (List.mem_append_right _ (List.mem_append_left _ h)))
theorem lw_c4 {w : Cond} (h : w ∈ tables_1_4) : w ∈ lw_tbl := List.mem_append_right _ (List.mem_append_right _ (List.mem_append_right _ (List.mem_append_right _ (List.mem_append_left _ h))))
theorem lw_c5 {w : Cond} (h : w ∈ tables_1_5) : w ∈ lw_tbl := List.mem_append_right _ (List.mem_append_right _ (List.mem_append_right _ (List.mem_append_right _ (List.mem_append_right _ (List.mem_append_left _ h)))))
theorem lw_c6 {w : Cond} (h : w ∈ tables_1_6) : w ∈ lw_tbl := List.mem_append_right _ (List.mem_append_right _ (List.mem_append_right _ (List.mem_append_right _ (List.mem_append_right _ (List.mem_append_right _ (List.mem_append_left _ h))))))
theorem lw_c7 {w : Cond} (h : w ∈ tables_1_7) : w ∈ lw_tbl := List.mem_append_right _ (List.mem_append_right _ (List.mem_append_right _ (List.mem_append_right _ (List.mem_append_right _ (List.mem_append_right _ (List.mem_append_right _ (List.mem_append_left _ h)))))))
theorem lw_c8 {w : Cond} (h : w ∈ tables_1_8) : w ∈ lw_tbl := List.mem_append_right _ (List.mem_append_right _ (List.mem_append_right _ (List.mem_append_right _ (List.mem_append_right _ (List.mem_append_right _ (List.mem_append_right _ (List.mem_append_right _ (List.mem_append_left _ h))))))))
theorem lw_c9 {w : Cond} (h : w ∈ tables_1_9) : w ∈ lw_tbl := List.mem_append_right _ (List.mem_append_right _ (List.mem_append_right _ (List.mem_append_right _ (List.mem_append_right _ (List.mem_append_right _ (List.mem_append_right _ (List.mem_append_right _ (List.mem_append_right _ (List.mem_append_left _ h)))))))))
theorem lw_c10 {w : Cond} (h : w ∈ tables_1_10) : w ∈ lw_tbl := List.mem_append_right _ (List.mem_append_right _ (List.mem_append_right _ (List.mem_append_right _ (List.mem_append_right _ (List.mem_append_right _ (List.mem_append_right _ (List.mem_append_right _ (List.mem_append_right _ (List.mem_append_right _ (List.mem_append_left _ h))))))))))
theorem lw_c11 {w : Cond} (h : w ∈ tables_1_11) : w ∈ lw_tbl := List.mem_append_right _ (List.mem_append_right _ (List.mem_append_right _ (List.mem_append_right _ (List.mem_append_right _ (List.mem_append_right _ (List.mem_append_right _ (List.mem_append_right _ (List.mem_append_right _ (List.mem_append_right _ (List.mem_append_right _ (List.mem_append_left _ h)))))))))))
theorem lw_c12 {w : Cond} (h : w ∈ tables_1_12) : w ∈ lw_tbl := List.mem_append_right _ (List.mem_append_right _ (List.mem_append_right _ (List.mem_append_right _ (List.mem_append_right _ (List.mem_append_right _ (List.mem_append_right _ (List.mem_append_right _ (List.mem_append_right _ (List.mem_append_right _ (List.mem_append_right _ (List.mem_append_right _ (List.mem_append_left _ h))))))))))))
theorem lw_c13 {w : Cond} (h : w ∈ tables_1_13) : w ∈ lw_tbl := List.mem_append_right _ (List.mem_append_right _ (List.mem_append_right _ (List.mem_append_right _ (List.mem_append_right _ (List.mem_append_right _ (List.mem_append_right _ (List.mem_append_right _ (List.mem_append_right _ (List.mem_append_right _ (List.mem_append_right _ (List.mem_append_right _ (List.mem_append_right _ (List.mem_append_left _ h)))))))))))))
theorem lw_c14 {w : Cond} (h : w ∈ tables_1_14) : w ∈ lw_tbl := List.mem_append_right _ (List.mem_append_right _ (List.mem_append_right _ (List.mem_append_right _ (List.mem_append_right _ (List.mem_append_right _ (List.mem_append_right _ (List.mem_append_right _ (List.mem_append_right _ (List.mem_append_right _ (List.mem_append_right _ (List.mem_append_right _ (List.mem_append_right _ (List.mem_append_right _ (List.mem_append_left _ h))))))))))))))
theorem lw_c15 {w : Cond} (h : w ∈ tables_1_15) : w ∈ lw_tbl := List.mem_append_right _ (List.mem_append_right _ (List.mem_append_right _ (List.mem_append_right _ (List.mem_append_right _ (List.mem_append_right _ (List.mem_append_right _ (List.mem_append_right _ (List.mem_append_right _ (List.mem_append_right _ (List.mem_append_right _ (List.mem_append_right _ (List.mem_append_right _ (List.mem_append_right _ (List.mem_append_right _ (List.mem_append_left _ h)))))))))))))))
theorem lw_c16 {w : Cond} (h : w ∈ tables_1_16) : w ∈ lw_tbl := List.mem_append_right _ (List.mem_append_right _ (List.mem_append_right _ (List.mem_append_right _ (List.mem_append_right _ (List.mem_append_right _ (List.mem_append_right _ (List.mem_append_right _ (List.mem_append_right _ (List.mem_append_right _ (List.mem_append_right _ (List.mem_append_right _ (List.mem_append_right _ (List.mem_append_right _ (List.mem_append_right _ (List.mem_append_right _ (List.mem_append_left _ h))))))))))))))))
theorem lw_c17 {w : Cond} (h : w ∈ tables_1_17) : w ∈ lw_tbl := List.mem_append_right _ (List.mem_append_right _ (List.mem_append_right _ (List.mem_append_right _ (List.mem_append_right _ (List.mem_append_right _ (List.mem_append_right _ (List.mem_append_right _ (List.mem_append_right _ (List.mem_append_right _ (List.mem_append_right _ (List.mem_append_right _ (List.mem_append_right _ (List.mem_append_right _ (List.mem_append_right _ (List.mem_append_right _ (List.mem_append_right _ (h)))))))))))))))))
/-! the words: those of lw_tbl that a warmer table keeps -/
def lw_g : List Cond := lw_tbl.filter goodWord
theorem lw_gi {w : Cond} (h : w ∈ lw_tbl) (hg : goodWord w = true) : w ∈ lw_g := List.mem_filter.mpr ⟨h, hg⟩
theorem lw_gg {w : Cond} (h : w ∈ lw_g) : goodWord w = true := (List.mem_filter.mp h).2
theorem lw_gt {w : Cond} (h : w ∈ lw_g) : w ∈ lw_tbl := (List.mem_filter.mp h).1
theorem gd_c {c0 c1 : Cond} (h : c1 ∈ lw_g) : GoodIn (c0 :: lw_g) (c1 :: lw_g) := fun w hw =>
  (List.mem_cons.mp hw).elim (fun e => ⟨List.mem_cons_of_mem _ (e ▸ h), good_of_word (lw_gg (e ▸ h))⟩) (fun h2 => ⟨List.mem_cons_of_mem _ h2, good_of_word (lw_gg h2)⟩)
theorem gd_g {c1 : Cond} (h : c1 ∈ lw_g) : GoodIn lw_g (c1 :: lw_g) := fun w hw =>
  (List.mem_cons.mp hw).elim (fun e => ⟨e ▸ h, good_of_word (lw_gg (e ▸ h))⟩) (fun h2 => ⟨h2, good_of_word (lw_gg h2)⟩)
/-- links to members of nest mates: no word of a method's own, they ride in the world -/
def isNest : Cond → Bool
  | .methodLinkNest _ _ _ _ => true
  | .fieldLinkNest _ _ _ _ _ _ => true
  | .arrayOver (.object _) => true
  | .stringRef _ _ _ => true
  | _ => false
def lw_n : List Cond := lw_tbl.filter isNest
theorem lw_ni {w : Cond} (h : w ∈ lw_tbl) (hg : isNest w = true) : w ∈ lw_n := List.mem_filter.mpr ⟨h, hg⟩
def nst (U : State) : Prop := ∀ w ∈ lw_n, va_Nw w U
/-- a String constant that has been resolved has its address -/
theorem str_R {own tx : String} {k : Nat} {U : State} (h : va_Nw (.stringRef own k tx) U) : ∃ a, vk_R own k tx a U := by
  have hcur : ∃ cur, U.vm.findClass own = some cur := by
    have h1 : (Cond.stringRef own k tx).before #[] U = true := h
    simp only [Cond.before, Cond.holds, Cond.value] at h1
    cases hc : U.vm.findClass own with
    | none => simp [hc] at h1
    | some cur => exact ⟨cur, rfl⟩
  obtain ⟨cur, hcur⟩ := hcur
  obtain ⟨_, _, _, a, _, _, _, _, _, hev⟩ := Cond.stringRef_spec hcur h
  exact ⟨a, h, hev⟩
theorem nst_al {w : Cond} (h : isNest w = true) {s U : State} (hv : s.vm = U.vm) (h2 : va_Nw w s) : va_Nw w U := by
  cases w with
  | methodLinkNest a i x n => exact va_Nw.same rfl hv h2
  | fieldLinkNest a i b n d x => exact va_Nw.same rfl hv h2
  | arrayOver t =>
    cases t with
    | object C => exact va_AO.moved (u := s) (U := U) (by rw [hv]; exact Vm.Alike.refl _) h2
    | _ => simp [isNest] at h
  | stringRef a i x => obtain ⟨z, hz⟩ := str_R h2; exact (vk_R.same hv.symm hz).1
  | _ => simp [isNest] at h
theorem nst_wa {w : Cond} (h : isNest w = true) {s U : State} (hW : s.WarmedH U.vm) (h2 : va_Nw w s) : va_Nw w U := by
  cases w with
  | methodLinkNest a i x n => exact va_Nw.warmM hW h2
  | fieldLinkNest a i b n d x => exact va_Nw.warmF hW h2
  | arrayOver t =>
    cases t with
    | object C => exact va_AO.moved (u := s) (U := U) hW.alike h2
    | _ => simp [isNest] at h
  | stringRef a i x => obtain ⟨z, hz⟩ := str_R h2; exact (vk_R.warm hW hz).1
  | _ => simp [isNest] at h
theorem nst.same {u U : State} (h : u.vm = U.vm) (hn : nst u) : nst U := fun w hw => nst_al (List.mem_filter.mp hw).2 h (hn w hw)
theorem nst.warm {s U : State} (hW : s.WarmedH U.vm) (hn : nst s) : nst U := fun w hw => nst_wa (List.mem_filter.mp hw).2 hW (hn w hw)
/-- what a method's body knows all along -/
def cx (p : Program) (s : State) (m : MethodId) (args : Array Value) (meth : Method) (c : Code) (cc : ByteArray) (nL : Nat) (ret : Option FieldType) (own nm : String) : Prop :=
  p.tables.exec = Jvm.exec ∧ c.code = cc ∧ c.maxLocals = nL ∧ s.vm.findClass own = some m.cls ∧ (∀ w ∈ lw_g, w.before args s = true) ∧ meth.sig.returnType = ret ∧ meth.locks = false ∧ meth.name = nm
/-- the world ahead of a method, and behind it -/
def wp (D : va_G) (cl : List vw_C) (tys : List (ClassId × FieldType)) (sz : Nat) (ws : va_W) (U : State) : Prop := U.heap.size = sz ∧ va_P D cl ws U.heap ∧ va_K D cl tys U ∧ va_D (fun _ => True) ws ∧ nst U
def wq (D : va_G) (cl : List vw_C) (tys : List (ClassId × FieldType)) (A : Nat → Prop) (ws : va_W) (t : State) : Prop := va_P D cl ws t.heap ∧ va_K D cl tys t ∧ va_D A ws
/-- a world in segments -/
def cat : List va_W → va_W
  | [] => []
  | x :: r => x ++ cat r
theorem cat_app : ∀ (a b : List va_W), cat (a ++ b) = cat a ++ cat b
  | [], b => rfl
  | x :: a, b => by show x ++ cat (a ++ b) = (x ++ cat a) ++ cat b; rw [cat_app a b, List.append_assoc]
theorem cat_push (a : List va_W) (x : va_W) : cat (a ++ [x]) = cat a ++ x := by rw [cat_app]; show cat a ++ (x ++ []) = _; rw [List.append_nil]
theorem cat_perm {a b : List va_W} (h : a.Perm b) : (cat a).Perm (cat b) := by
  induction h with
  | nil => exact List.Perm.refl _
  | cons x _ ih => exact List.Perm.append_left x ih
  | swap x y l => show (y ++ (x ++ cat l)).Perm (x ++ (y ++ cat l)); rw [← List.append_assoc, ← List.append_assoc]; exact List.Perm.append_right _ List.perm_append_comm
  | trans _ _ h1 h2 => exact h1.trans h2
theorem vP_iff {D : va_G} {cl : List vw_C} {ws : va_W} {H : Heap} : va_P D cl ws H ↔ ∀ q ∈ ws, va_at D cl q H :=
  ⟨fun h q hq => by obtain ⟨i, hi⟩ := List.mem_iff_getElem?.mp hq; exact h i q hi, fun h k q hk => h q (List.mem_of_getElem? hk)⟩
theorem vD_iff {A : Nat → Prop} {ws : va_W} : va_D A ws ↔ (ws.map (fun q => q.1)).Nodup ∧ ∀ q ∈ ws, A q.1 := by
  constructor
  · intro h
    refine ⟨?_, fun q hq => by obtain ⟨i, hi⟩ := List.mem_iff_getElem?.mp hq; exact h.2 i q hi⟩
    refine List.pairwise_iff_getElem.mpr (fun i j hi hj hij e => ?_)
    rw [List.length_map] at hi hj
    rw [List.getElem_map, List.getElem_map] at e
    have := h.1 i j _ _ (List.getElem?_eq_getElem hi) (List.getElem?_eq_getElem hj) e
    omega
  · intro h
    refine ⟨fun i j x y hi hj e => ?_, fun k q hk => h.2 q (List.mem_of_getElem? hk)⟩
    obtain ⟨hi1, hi2⟩ := List.getElem?_eq_some_iff.mp hi
    obtain ⟨hj1, hj2⟩ := List.getElem?_eq_some_iff.mp hj
    have key := List.pairwise_iff_getElem.mp h.1
    rcases Nat.lt_trichotomy i j with q | q | q
    · exact absurd (by rw [List.getElem_map, List.getElem_map, hi2, hj2]; exact e) (key i j (by rw [List.length_map]; exact hi1) (by rw [List.length_map]; exact hj1) q)
    · exact q
    · exact absurd (by rw [List.getElem_map, List.getElem_map, hi2, hj2]; exact e.symm) (key j i (by rw [List.length_map]; exact hj1) (by rw [List.length_map]; exact hi1) q)
theorem vP_perm {D : va_G} {cl : List vw_C} {a b : va_W} {H : Heap} (h : a.Perm b) (hP : va_P D cl a H) : va_P D cl b H := vP_iff.mpr (fun q hq => vP_iff.mp hP q (h.mem_iff.mpr hq))
theorem vD_perm {A : Nat → Prop} {a b : va_W} (h : a.Perm b) (hD : va_D A a) : va_D A b := vD_iff.mpr ⟨(h.map _).nodup_iff.mp (vD_iff.mp hD).1, fun q hq => (vD_iff.mp hD).2 q (h.mem_iff.mpr hq)⟩
/-- segments by their places -/
def sg_at (sg : List va_W) (is : List Nat) : List va_W := is.map (fun i => sg.getD i [])
theorem sg_range (sg : List va_W) : sg_at sg (List.range sg.length) = sg := by
  refine List.ext_getElem? (fun i => ?_)
  unfold sg_at
  rw [List.getElem?_map]
  by_cases h : i < sg.length
  · rw [List.getElem?_range h, List.getElem?_eq_getElem h]; simp [List.getD, h]
  · rw [List.getElem?_eq_none (by rw [List.length_range]; omega), List.getElem?_eq_none (by omega)]; rfl
theorem sg_perm (sg : List va_W) (is : List Nat) (h : is.isPerm (List.range sg.length) = true) : (cat sg).Perm (cat (sg_at sg is)) := by
  have h1 : is.Perm (List.range sg.length) := List.isPerm_iff.mp h
  have h2 : (sg_at sg is).Perm (sg_at sg (List.range sg.length)) := h1.map _
  rw [sg_range] at h2
  exact cat_perm h2.symm
theorem sg_split (sg : List va_W) (isC isR : List Nat) (h : (isR ++ isC).isPerm (List.range sg.length) = true) : (cat sg).Perm (cat (sg_at sg isR) ++ cat (sg_at sg isC)) := by
  have h2 := sg_perm sg (isR ++ isC) h
  have e : sg_at sg (isR ++ isC) = sg_at sg isR ++ sg_at sg isC := by unfold sg_at; rw [List.map_append]
  rw [e, cat_app] at h2
  exact h2
theorem wp_places (a b : va_W) : (List.range b.length).map (fun i => (a ++ b)[a.length + i]?) = b.map some := by
  refine List.ext_getElem? (fun i => ?_)
  rw [List.getElem?_map, List.getElem?_map]
  by_cases h : i < b.length
  · rw [List.getElem?_range h, List.getElem?_eq_getElem h]
    show some ((a ++ b)[a.length + i]?) = some (some b[i])
    rw [List.getElem?_append_right (by omega)]
    simp [h]
  · rw [List.getElem?_eq_none (by rw [List.length_range]; omega), List.getElem?_eq_none (by omega)]; rfl
theorem wp_placesL (a b : va_W) : (List.range a.length).map (fun i => (a ++ b)[i]?) = a.map some := by
  refine List.ext_getElem? (fun i => ?_)
  rw [List.getElem?_map, List.getElem?_map]
  by_cases h : i < a.length
  · rw [List.getElem?_range h, List.getElem?_eq_getElem h]
    show some ((a ++ b)[i]?) = some (some a[i])
    rw [List.getElem?_append_left h, List.getElem?_eq_getElem h]
  · rw [List.getElem?_eq_none (by rw [List.length_range]; omega), List.getElem?_eq_none (by omega)]; rfl
theorem nd_iff : ∀ (l : List Nat), l.Nodup → va_nd l = true
  | [], _ => rfl
  | a :: l, h => by
    have h2 := List.nodup_cons.mp h
    simp only [va_nd, Bool.and_eq_true, decide_eq_true_eq]
    exact ⟨h2.1, nd_iff l h2.2⟩
theorem nd_shift (n k : Nat) : va_nd ((List.range n).map (fun i => k + i)) = true := nd_iff _ (List.pairwise_map.mpr (List.nodup_range.imp (fun h e => h (by omega))))
/-- contracts: nothing, an int, a long is answered -/
abbrev Cv {S : Type} (l : Launch) (y : MethodName) (z : List Cond) (rm : Room) (D : va_G) (cl : List vw_C) (tys : List (ClassId × FieldType)) (av : List Value) (sg : List va_W) (post : S → Prop) (sf : S → List va_W) (mc ms : Nat) : Prop :=
  ∀ sz : Nat, Met l y z rm (va_Pc av (wp D cl tys sz (cat sg))) (va_Qv post (fun u t => wq D cl tys (va_A (cat sg) sz) (cat (sf u)) t) (va_A (cat sg) sz)) mc ms (va_A (cat sg) sz)
abbrev Ci {S : Type} (l : Launch) (y : MethodName) (z : List Cond) (rm : Room) (D : va_G) (cl : List vw_C) (tys : List (ClassId × FieldType)) (av : List Value) (sg : List va_W) (post : Int32 → S → Prop) (sf : S → List va_W) (mc ms : Nat) : Prop :=
  ∀ sz : Nat, Met l y z rm (va_Pc av (wp D cl tys sz (cat sg))) (va_Qi post (fun u t => wq D cl tys (va_A (cat sg) sz) (cat (sf u)) t) (va_A (cat sg) sz)) mc ms (va_A (cat sg) sz)
theorem wp_blind {D : va_G} {cl : List vw_C} {tys : List (ClassId × FieldType)} {sz : Nat} {ws : va_W} {av : List Value} : FrameBlind (va_Pc av (wp D cl tys sz ws)) :=
  fun a U g mk q => by obtain ⟨q0, q1, qP, qK, qD, qN⟩ := q; exact ⟨q0, q1, qP, va_K.moved (u := U) (U := U.calling g mk a) (Vm.Alike.refl U.vm) qK, qD, nst.same (u := U) (U := U.calling g mk a) rfl qN⟩
section KK
variable {p : Program} {l : Launch} {e : Env} {R : Room} {s : State} {m : MethodId} {args : Array Value} {below : List Frame} {meth : Method} {c : Code} {H : Heap} {locs : List Loc} {cells slots : Nat} {Q : State → Prop}
  {D : va_G} {cl : List vw_C} {tys : List (ClassId × FieldType)} {ws : va_W} {A : Nat → Prop} {cc : ByteArray} {nL : Nat} {ret : Option FieldType} {own nm : String} {pc : Nat} {ls : Array Slot} {rest : List Value} {a : Nat}
theorem k_met {y : MethodName} {z : List Cond} {rm : Room} {maxL mc ms : Nat} {av : List Value} {Bp : State → Prop} {Qc : Array Value → State → Outcome → State → Prop} {free : Addr → Prop}
    (hy : plainName y.cls = true) (hz : z = Cond.code y cc maxL ret :: lw_g) (hn : (lg_sl av).length ≤ maxL)
    (body : ∀ (p : Program) (e : Env) (s : State) (m : MethodId) (below : List Frame) (meth : Method) (c : Code) (ls : Array Slot), cx p s m av.toArray meth c cc maxL ret y.cls y.name → lv_has ls maxL (lv_args 0 av) → Bp s → W p l e rm s m av.toArray below meth c s.heap [] 0 0 (MQ below Qc av.toArray s mc ms free) (F0 m 0 ls [])) :
    Met l y z rm (va_Pc av Bp) Qc mc ms free := by
  refine Met.ofW (cc := cc) (maxL := maxL) (ret := ret) hy hz ?_
  intro p e s m args below meth c s₁ B hml hv
  obtain ⟨rfl, hB⟩ := hv
  have hts := atoms_spec (ws := z) B.pre
  have hts2 : ∀ w ∈ lw_g, w.before av.toArray s = true := fun w hw => hts w (by rw [hz]; exact List.mem_cons_of_mem _ hw)
  have hl := lv_entry av (n := maxL) hn
  rw [lg_entry_eq]
  exact body p e s m below meth c _ ⟨B.exec, B.bytes, hml, findClass_of_methodNamed B.named, hts2, B.returns, B.notSynchronized, (name_of_methodNamed B.named B.method).1⟩ hl hB
theorem k_get (X : cx p s m args meth c cc nL ret own nm) (hK : va_K D cl tys s) (hP : va_P D cl ws H) (q0 : Nat) {ci : Nat} {fs : List Value} (he : ws[q0]? = some (a, .inr (ci, fs))) {C : String} {T : u_T} {N : Nat} (hc : cl[ci]? = some (C, T, N)) (hi : ∀ w ∈ u_ws C T N, w ∈ lw_g) (k : Nat) (hk : k < N) {index : Nat}
    (hl : Cond.fieldLink own index C (T k).2.1 (T k).2.2.1 ∈ lw_g) (ho : (T k).1 = C) {v : Value} (hv : fs[k]? = some v) (hdg : decode cc pc = .ok (.getfield index, 3)) (kk : W p l e R s m args below meth c H locs cells slots Q (F0 m (pc + 3) ls (v :: rest))) : W p l e R s m args below meth c H locs cells slots Q (F0 m pc ls (.ref a :: rest)) :=
  va_get X.1 X.2.1 X.2.2.2.2.1 hi X.2.2.2.1 hK hP q0 he hc k hk (X.2.2.2.2.1 _ hl) (fun x h => by rw [ho] at h; exact h) hv hdg kk
theorem k_put (X : cx p s m args meth c cc nL ret own nm) (hK : va_K D cl tys s) (hP : va_P D cl ws H) (hD : va_D A ws) (hS : va_S A s.heap H locs) (q0 : Nat) {ci : Nat} {fs : List Value} (he : ws[q0]? = some (a, .inr (ci, fs))) {C : String} {T : u_T} {N : Nat} (hc : cl[ci]? = some (C, T, N)) (hi : ∀ w ∈ u_ws C T N, w ∈ lw_g) (ty0 : Nat → FieldType) (hty : ∀ k, k < N → parseFieldDescriptor (T k).2.2.1 = some (ty0 k)) (hnm : ∀ a, a < N → ∀ b, b < N → a ≠ b → (T a).2.1 ≠ (T b).2.1) (k : Nat) (hk : k < N) {index : Nat}
    (hl : Cond.fieldLink own index C (T k).2.1 (T k).2.2.1 ∈ lw_g) (ho : (T k).1 = C) (hfin : (T k).2.2.2 = false ∨ (nm = "<init>" ∧ C = own)) {v : Value} (hn : narrow (ty0 k) v = v) (hfit : fits (ty0 k) v = true) (hlen : k < fs.length) (hdg : decode cc pc = .ok (.putfield index, 3))
    (kk : ∀ (H1 : Heap) (locs1 : List Loc), va_P D cl (ws.set q0 (a, .inr (ci, fs.set k v))) H1 → va_D A (ws.set q0 (a, .inr (ci, fs.set k v))) → va_S A s.heap H1 locs1 → W p l e R s m args below meth c H1 locs1 cells slots Q (F0 m (pc + 3) ls rest)) : W p l e R s m args below meth c H locs cells slots Q (F0 m pc ls (v :: .ref a :: rest)) := by
  have hs2 : ∀ x, s.fieldFound? (T k).1 (T k).2.1 (T k).2.2.1 = some x → s.fieldFound? C (T k).2.1 (T k).2.2.1 = some x := fun x h => by rw [ho] at h; exact h
  by_cases hf : (T k).2.2.2 = false
  · exact va_put X.1 X.2.1 X.2.2.2.2.1 hi ty0 hty hnm X.2.2.2.1 hK hP hD hS q0 he hc k hk (X.2.2.2.2.1 _ hl) hs2 hf (hty k hk) hn hfit hlen hdg kk
  · have h2 := hfin.resolve_left hf
    exact va_putF X.1 X.2.1 X.2.2.2.2.1 hi ty0 hty hnm X.2.2.2.1 hK hP hD hS q0 he hc k hk (X.2.2.2.2.1 _ hl) hs2 (by cases h : (T k).2.2.2 <;> simp_all) (by rw [X.2.2.2.2.2.2.2]; exact h2.1) (ho.trans h2.2) (hty k hk) hn hfit hlen hdg kk
theorem k_cls {c1 c2 : ClassId} {ty : FieldType} (hp : refKind ty = false) (h1 : va_RA s c1 ty) (h2 : va_RA s c2 ty) : c1 = c2 := by
  cases ty <;> first | (simp [refKind] at hp; done) | (have e1 : s.vm.findClass _ = some c1 := h1; have e2 : s.vm.findClass _ = some c2 := h2; rw [e1] at e2; exact Option.some.inj e2)
theorem k_newa (X : cx p s m args meth c cc nL ret own nm) {atype : ArrayType} {ty : FieldType} (hty : newarray.typeOf atype = ty) (hp : refKind ty = false) (hw : Cond.arrayClass (newarray.typeOf atype) ∈ lw_g) {sg : List va_W} (hK : va_K D cl tys s) (hP : va_P D cl (cat sg) H) (hD : va_D A (cat sg)) (hS : va_S A s.heap H locs) (hA : ∀ q, s.heap.size ≤ q → A q) (t0 : Nat) {cA : ClassId} (ht : tys[t0]? = some (cA, ty))
    {n : Int32} {N' : Nat} {a0 : vp_A} (ha : ∀ cA : ClassId, vp_cell cA a0 = arrV cA N' (fun _ => defaultValue ty)) (hn : ¬ n < 0) (hN : n.toNatClampNeg = N') (hbytes : N' * componentBytes ty ≤ 536870912) (hcells : cells + 1 ≤ R.cells) (hslots : slots + N' ≤ R.slots) (hdg : decode cc pc = .ok (.newarray atype, 2))
    (kk : ∀ (q : Nat) (H1 : Heap), va_P D cl (cat (sg ++ [[(q, .inl (cA, a0))]])) H1 → va_D A (cat (sg ++ [[(q, .inl (cA, a0))]])) → va_S A s.heap H1 locs → W p l e R s m args below meth c H1 locs (cells + 1) (slots + N') Q (F0 m (pc + 2) ls (.ref q :: rest))) : W p l e R s m args below meth c H locs cells slots Q (F0 m pc ls (.int n :: rest)) := by
  refine va_newa X.1 X.2.1 (X.2.2.2.2.1 _ hw) hty hK hP hD hS hA ha hn hN hbytes hcells hslots hdg (fun q cA' H1 hK' hP' hD' hS' => ?_)
  have e1 : cA' = cA := k_cls hp (hK'.2 tys.length (cA', ty) (by simp)).2 (hK.2 t0 (cA, ty) ht).2
  subst e1
  exact kk q H1 (by rw [cat_push]; exact hP') (by rw [cat_push]; exact hD') hS'
theorem k_RAo {c1 c2 : ClassId} {C : String} (h1 : va_RA s c1 (.object C)) (h2 : va_RA s c2 (.object C)) : c1 = c2 := by
  obtain ⟨_, _, _, _, _, e1⟩ := h1
  obtain ⟨_, _, _, _, _, e2⟩ := h2
  rw [e1] at e2
  exact Option.some.inj e2
theorem k_newq (hNs : nst s) (X : cx p s m args meth c cc nL ret own nm) {C : String} {index : Nat} (hcl : Cond.classLink own index C ∈ lw_g) (hov : Cond.arrayOver (.object C) ∈ lw_n) {sg : List va_W} (hK : va_K D cl tys s) (hP : va_P D cl (cat sg) H) (hD : va_D A (cat sg)) (hS : va_S A s.heap H locs) (hA : ∀ q, s.heap.size ≤ q → A q) (t0 : Nat) {cA : ClassId} (ht : tys[t0]? = some (cA, .object C))
    {n : Int32} {N' : Nat} (hn : ¬ n < 0) (hN : n.toNatClampNeg = N') (hbytes : N' * 4 ≤ 536870912) (hcells : cells + 1 ≤ R.cells) (hslots : slots + N' ≤ R.slots) (hdg : decode cc pc = .ok (.anewarray index, 3))
    (kk : ∀ (q : Nat) (H1 : Heap), va_P D cl (cat (sg ++ [[(q, .inl (cA, N', .inr (.inr (.inr (.inr (fun _ => none))))))]])) H1 → va_D A (cat (sg ++ [[(q, .inl (cA, N', .inr (.inr (.inr (.inr (fun _ => none))))))]])) → va_S A s.heap H1 locs → W p l e R s m args below meth c H1 locs (cells + 1) (slots + N') Q (F0 m (pc + 3) ls (.ref q :: rest))) : W p l e R s m args below meth c H locs cells slots Q (F0 m pc ls (.int n :: rest)) := by
  refine va_newq X.1 X.2.1 X.2.2.2.1 (X.2.2.2.2.1 _ hcl) (hNs _ hov) hK hP hD hS hA hn hN hbytes hcells hslots hdg (fun q cA' H1 hK' hP' hD' hS' => ?_)
  have e1 : cA' = cA := k_RAo (hK'.2 tys.length (cA', .object C) (by simp)).2 (hK.2 t0 (cA, .object C) ht).2
  subst e1
  exact kk q H1 (by rw [cat_push]; exact hP') (by rw [cat_push]; exact hD') hS'
theorem k_new (X : cx p s m args meth c cc nL ret own nm) {C : String} {T : u_T} {N ci index : Nat} (hi : ∀ w ∈ u_ws C T N, w ∈ lw_g) (ty : Nat → FieldType) (hty : ∀ k, k < N → parseFieldDescriptor (T k).2.2.1 = some (ty k)) (hcl : Cond.classLink own index C ∈ lw_g) (hinst : Cond.instantiable C N ∈ lw_g) (hini : Cond.initialized C ∈ lw_g)
    {sg : List va_W} (hK : va_K D cl tys s) (hP : va_P D cl (cat sg) H) (hD : va_D A (cat sg)) (hS : va_S A s.heap H locs) (hA : ∀ q, s.heap.size ≤ q → A q) (hc : cl[ci]? = some (C, T, N)) {fs : List Value} (hfs : ∀ j, j < N → defaultValue (ty j) = vp_V fs j) (hcells : cells + 1 ≤ R.cells) (hslots : slots + N ≤ R.slots) (hdg : decode cc pc = .ok (.new index, 3))
    (kk : ∀ (q : Nat) (H1 : Heap), va_P D cl (cat (sg ++ [[(q, .inr (ci, fs))]])) H1 → va_D A (cat (sg ++ [[(q, .inr (ci, fs))]])) → va_S A s.heap H1 locs → W p l e R s m args below meth c H1 locs (cells + 1) (slots + N) Q (F0 m (pc + 3) ls (.ref q :: rest))) : W p l e R s m args below meth c H locs cells slots Q (F0 m pc ls rest) :=
  va_new X.1 X.2.1 X.2.2.2.2.1 hi ty hty X.2.2.2.1 (X.2.2.2.2.1 _ hcl) (X.2.2.2.2.1 _ hinst) (X.2.2.2.2.1 _ hini) hK hP hD hS hA hc hfs hcells hslots hdg (fun q H1 hP' hD' hS' => kk q H1 (by rw [cat_push]; exact hP') (by rw [cat_push]; exact hD') hS')
/-- behind a call: what came back stands behind the rest, which is unchanged -/
theorem k_goV {S : Type} {post : S → Prop} {sf : S → List va_W} {sg gc gr : List va_W} {st0 : List Value} {mc ms : Nat} {b : Array Value}
    (hr : va_Run p l e R s m args below meth c H locs cells slots mc ms (F0 m pc ls st0) rest (va_Qv post (fun u t => wq D cl tys (va_A (cat gc) H.size) (cat (sf u)) t) (va_A (cat gc) H.size) b) (va_A (cat gc) H.size))
    (hP : va_P D cl (cat sg) H) (hD : va_D A (cat sg)) (hS : va_S A s.heap H locs) (hA : ∀ q, s.heap.size ≤ q → A q) (isC isR : List Nat) (ng : Nat) (hng : sg.length = ng) (hp : (isR ++ isC).isPerm (List.range ng) = true) (hC : sg_at sg isC = gc) (hR : sg_at sg isR = gr)
    (kk : ∀ (u : S) (H1 : Heap) (locs1 : List Loc), post u → va_P D cl (cat (gr ++ sf u)) H1 → va_D A (cat (gr ++ sf u)) → va_S A s.heap H1 locs1 → W p l e R s m args below meth c H1 locs1 (cells + mc) (slots + ms) Q (F0 m (pc + 3) ls rest)) : W p l e R s m args below meth c H locs cells slots Q (F0 m pc ls st0) := by
  subst hng
  have hsp := sg_split sg isC isR hp
  rw [hC, hR] at hsp
  have hP0 := vP_perm hsp hP
  have hD0 := vD_perm hsp hD
  have hCp := wp_places (cat gr) (cat gc)
  have hCq : ((List.range (cat gc).length).map (fun i => (cat gr).length + i)).map (fun i => (cat gr ++ cat gc)[i]?) = (cat gc).map some := by rw [List.map_map]; exact hCp
  have hF := va_free (wc := cat gc) hD0 hS hA _ hCq
  refine va_callv hr hS (fun q _ h => hF q h) hF (fun u t H1 locs1 ht _ hw hB _ hk1 hS1 => ?_)
  obtain ⟨hP1, _, hD1⟩ := hB
  rw [ht] at hP1
  obtain ⟨hP2, hD2⟩ := va_join (wr := cat gr) (w1 := cat (sf u)) hP0 hD0 _ (List.range (cat gr).length) hCq (wp_placesL _ _) (nd_iff _ List.nodup_range) (fun i hi hj => by
    obtain ⟨k, _, e2⟩ := List.mem_map.mp hj
    have := List.mem_range.mp hi
    omega) hk1 hF hP1 hD1
  exact kk u H1 locs1 hw (by rw [cat_app]; exact hP2) (by rw [cat_app]; exact hD2) hS1
theorem k_goI {S : Type} {post : Int32 → S → Prop} {sf : S → List va_W} {sg gc gr : List va_W} {st0 : List Value} {mc ms : Nat} {b : Array Value}
    (hr : va_Run p l e R s m args below meth c H locs cells slots mc ms (F0 m pc ls st0) rest (va_Qi post (fun u t => wq D cl tys (va_A (cat gc) H.size) (cat (sf u)) t) (va_A (cat gc) H.size) b) (va_A (cat gc) H.size))
    (hP : va_P D cl (cat sg) H) (hD : va_D A (cat sg)) (hS : va_S A s.heap H locs) (hA : ∀ q, s.heap.size ≤ q → A q) (isC isR : List Nat) (ng : Nat) (hng : sg.length = ng) (hp : (isR ++ isC).isPerm (List.range ng) = true) (hC : sg_at sg isC = gc) (hR : sg_at sg isR = gr)
    (kk : ∀ (r : Int32) (u : S) (H1 : Heap) (locs1 : List Loc), post r u → va_P D cl (cat (gr ++ sf u)) H1 → va_D A (cat (gr ++ sf u)) → va_S A s.heap H1 locs1 → W p l e R s m args below meth c H1 locs1 (cells + mc) (slots + ms) Q (F0 m (pc + 3) ls (.int r :: rest))) : W p l e R s m args below meth c H locs cells slots Q (F0 m pc ls st0) := by
  subst hng
  have hsp := sg_split sg isC isR hp
  rw [hC, hR] at hsp
  have hP0 := vP_perm hsp hP
  have hD0 := vD_perm hsp hD
  have hCp := wp_places (cat gr) (cat gc)
  have hCq : ((List.range (cat gc).length).map (fun i => (cat gr).length + i)).map (fun i => (cat gr ++ cat gc)[i]?) = (cat gc).map some := by rw [List.map_map]; exact hCp
  have hF := va_free (wc := cat gc) hD0 hS hA _ hCq
  refine va_calli hr hS (fun q _ h => hF q h) hF (fun r u t H1 locs1 ht _ hw hB _ hk1 hS1 => ?_)
  obtain ⟨hP1, _, hD1⟩ := hB
  rw [ht] at hP1
  obtain ⟨hP2, hD2⟩ := va_join (wr := cat gr) (w1 := cat (sf u)) hP0 hD0 _ (List.range (cat gr).length) hCq (wp_placesL _ _) (nd_iff _ List.nodup_range) (fun i hi hj => by
    obtain ⟨k, _, e2⟩ := List.mem_map.mp hj
    have := List.mem_range.mp hi
    omega) hk1 hF hP1 hD1
  exact kk r u H1 locs1 hw (by rw [cat_app]; exact hP2) (by rw [cat_app]; exact hD2) hS1
/-- the world ahead of a call, cut out of the caller's -/
theorem k_pre {sg gc : List va_W} {av : List Value} (hN : nst s) (hK : va_K D cl tys s) (hP : va_P D cl (cat sg) H) (hD : va_D A (cat sg)) (isC isR : List Nat) (ng : Nat) (hng : sg.length = ng) (hp : (isR ++ isC).isPerm (List.range ng) = true) (hC : sg_at sg isC = gc) : PreS s H (va_Pc av (wp D cl tys H.size (cat gc))) av := by
  subst hng
  have hsp := sg_split sg isC isR hp
  rw [hC] at hsp
  have hP0 := vP_iff.mp (vP_perm hsp hP)
  have hD0 := vD_iff.mp (vD_perm hsp hD)
  refine ⟨wp_blind, fun U hU hW => ⟨rfl, by rw [hU], ?_, va_K.moved hW.alike hK, vD_iff.mpr ⟨?_, fun _ _ => trivial⟩, nst.warm hW hN⟩⟩
  · rw [hU]; exact vP_iff.mpr (fun q hq => hP0 q (List.mem_append_right _ hq))
  · have h2 := hD0.1
    rw [List.map_append] at h2
    exact (List.nodup_append.mp h2).2.1
/-- the world behind a method, in another order of its segments -/
theorem k_ord {sg gc : List va_W} (hP : va_P D cl (cat sg) H) (hD : va_D A (cat sg)) (is : List Nat) (ng : Nat) (hng : sg.length = ng) (hp : is.isPerm (List.range ng) = true) (hC : sg_at sg is = gc) : va_P D cl (cat gc) H ∧ va_D A (cat gc) := by
  subst hng
  have h := sg_perm sg is hp
  rw [hC] at h
  exact ⟨vP_perm h hP, vD_perm h hD⟩
theorem k_rI {y : MethodName} {z : List Cond} {rm : Room} {bytes : ByteArray} {maxL mc ms index : Nat} {Pc : Array Value → State → Prop} {Qc : Array Value → State → Outcome → State → Prop} {free : Addr → Prop} {b : Addr} {As st : List Value}
    (X : cx p s m args meth c cc nL ret own nm) (hM : Met l y z rm Pc Qc mc ms free) (hz : z = Cond.code y bytes maxL none :: lw_g) (hc : Cond.code y bytes maxL none ∈ lw_g) (hini : Cond.initialized y.cls ∈ lw_g) (hl : Cond.methodLink own index y ∈ lw_g) (hin : Cond.instanceMethod y ∈ lw_g) (hy1 : y.name = "<init>") (n : Nat)
    (hd : y.cls ≠ "java/lang/invoke/MethodHandle" ∧ y.cls ≠ "java/lang/invoke/VarHandle" ∧ (parseMethodDescriptor y.desc).map (fun d => d.parameters.length) = some n) (hR : rm.frames + 1 ≤ R.frames ∧ 8 + (maxL + 11) + rm.locals ≤ R.locals) (hrc : rm.cells = mc) (hrs : rm.slots = ms)
    (hp : PreS s H Pc (.ref b :: As)) (hn : As.length = n) (hsz : ls.size = nL) (hst : st = As.reverse ++ .ref b :: rest) (hW : (rest.map fun v => v.category).sum ≤ 8) (hdg : decode cc pc = .ok (.invokespecial index, 3)) (hf : cells + mc ≤ R.cells ∧ slots + ms ≤ R.slots) :
    va_Run p l e R s m args below meth c H locs cells slots mc ms (F0 m pc ls st) rest (Qc (Value.ref b :: As).toArray) free :=
  va_runI ⟨X.1, X.2.1, X.2.2.1, X.2.2.2.1, X.2.2.2.2.1⟩ hM (cwI n X.2.2.2.2.1 (by rw [hz]; exact gd_g hc) hz hrc hrs (X.2.2.2.2.1 _ hini) (X.2.2.2.2.1 _ hl) (X.2.2.2.2.1 _ hin) hy1 hd hR) hp rfl hn hsz hst (lv_room hW) hdg hf
theorem k_rIN {y : MethodName} {z : List Cond} {rm : Room} {bytes : ByteArray} {maxL mc ms index : Nat} {host : String} {Pc : Array Value → State → Prop} {Qc : Array Value → State → Outcome → State → Prop} {free : Addr → Prop} {b : Addr} {As st : List Value}
    (hN : nst s) (X : cx p s m args meth c cc nL ret own nm) (hM : Met l y z rm Pc Qc mc ms free) (hz : z = Cond.code y bytes maxL none :: lw_g) (hc : Cond.code y bytes maxL none ∈ lw_g) (hini : Cond.initialized y.cls ∈ lw_g) (hl : Cond.methodLinkNest own index y host ∈ lw_n) (hin : Cond.instanceMethod y ∈ lw_g) (hy1 : y.name = "<init>") (n : Nat)
    (hd : y.cls ≠ "java/lang/invoke/MethodHandle" ∧ y.cls ≠ "java/lang/invoke/VarHandle" ∧ (parseMethodDescriptor y.desc).map (fun d => d.parameters.length) = some n) (hR : rm.frames + 1 ≤ R.frames ∧ 8 + (maxL + 11) + rm.locals ≤ R.locals) (hrc : rm.cells = mc) (hrs : rm.slots = ms)
    (hp : PreS s H Pc (.ref b :: As)) (hn : As.length = n) (hsz : ls.size = nL) (hst : st = As.reverse ++ .ref b :: rest) (hW : (rest.map fun v => v.category).sum ≤ 8) (hdg : decode cc pc = .ok (.invokespecial index, 3)) (hf : cells + mc ≤ R.cells ∧ slots + ms ≤ R.slots) :
    va_Run p l e R s m args below meth c H locs cells slots mc ms (F0 m pc ls st) rest (Qc (Value.ref b :: As).toArray) free :=
  va_runIN ⟨X.1, X.2.1, X.2.2.1, X.2.2.2.1, X.2.2.2.2.1⟩ hM ⟨va_cnB n X.2.2.2.2.1 (by rw [hz]; exact gd_g hc) hz hrc hrs (hN _ hl) (X.2.2.2.2.1 _ hini) hd hR, hy1, X.2.2.2.2.1 _ hin⟩ hp rfl hn hsz hst (lv_room hW) hdg hf
theorem k_rS {y : MethodName} {z : List Cond} {rm : Room} {bytes : ByteArray} {maxL mc ms index : Nat} {ret' : Option FieldType} {Pc : Array Value → State → Prop} {Qc : Array Value → State → Outcome → State → Prop} {free : Addr → Prop} {As st : List Value}
    (X : cx p s m args meth c cc nL ret own nm) (hM : Met l y z rm Pc Qc mc ms free) (hz : z = Cond.code y bytes maxL ret' :: lw_g) (hc : Cond.code y bytes maxL ret' ∈ lw_g) (hini : Cond.initialized y.cls ∈ lw_g) (hl : Cond.methodLink own index y ∈ lw_g) (hin : Cond.static y ∈ lw_g) (n : Nat)
    (hd : y.cls ≠ "java/lang/invoke/MethodHandle" ∧ y.cls ≠ "java/lang/invoke/VarHandle" ∧ (parseMethodDescriptor y.desc).map (fun d => d.parameters.length) = some n) (hR : rm.frames + 1 ≤ R.frames ∧ 8 + (maxL + 11) + rm.locals ≤ R.locals) (hrc : rm.cells = mc) (hrs : rm.slots = ms)
    (hp : PreS s H Pc As) (hn : As.length = n) (hsz : ls.size = nL) (hst : st = As.reverse ++ rest) (hW : (rest.map fun v => v.category).sum ≤ 8) (hdg : decode cc pc = .ok (.invokestatic index, 3)) (hf : cells + mc ≤ R.cells ∧ slots + ms ≤ R.slots) :
    va_Run p l e R s m args below meth c H locs cells slots mc ms (F0 m pc ls st) rest (Qc As.toArray) free :=
  va_runS ⟨X.1, X.2.1, X.2.2.1, X.2.2.2.1, X.2.2.2.2.1⟩ hM ⟨callB_of n X.2.2.2.2.1 (by rw [hz]; exact gd_g hc) hz hrc hrs (X.2.2.2.2.1 _ hini) (X.2.2.2.2.1 _ hl) hd hR, X.2.2.2.2.1 _ hin⟩ hp rfl hn hsz hst (lv_room hW) hdg hf
theorem k_rV {y : MethodName} {z : List Cond} {rm : Room} {bytes : ByteArray} {maxL mc ms index : Nat} {ret' : Option FieldType} {Pc : Array Value → State → Prop} {Qc : Array Value → State → Outcome → State → Prop} {free : Addr → Prop} {b : Addr} {As st : List Value}
    (X : cx p s m args meth c cc nL ret own nm) (hM : Met l y z rm Pc Qc mc ms free) (hz : z = Cond.code y bytes maxL ret' :: lw_g) (hc : Cond.code y bytes maxL ret' ∈ lw_g) (hini : Cond.initialized y.cls ∈ lw_g) (hl : Cond.methodLink own index y ∈ lw_g) (hin : Cond.instanceMethod y ∈ lw_g) (hsel : Cond.selects y.cls y y ∈ lw_g) (n : Nat)
    (hd : y.cls ≠ "java/lang/invoke/MethodHandle" ∧ y.cls ≠ "java/lang/invoke/VarHandle" ∧ (parseMethodDescriptor y.desc).map (fun d => d.parameters.length) = some n) (hR : rm.frames + 1 ≤ R.frames ∧ 8 + (maxL + 11) + rm.locals ≤ R.locals) (hrc : rm.cells = mc) (hrs : rm.slots = ms)
    (hrv : ∃ cellB : Cell, H[b]? = some cellB ∧ cellB.vm.isStatics = false ∧ s.vm.findClass y.cls = some cellB.cls) (hp : PreS s H Pc (.ref b :: As)) (hn : As.length = n) (hsz : ls.size = nL) (hst : st = As.reverse ++ .ref b :: rest) (hW : (rest.map fun v => v.category).sum ≤ 8) (hdg : decode cc pc = .ok (.invokevirtual index, 3)) (hf : cells + mc ≤ R.cells ∧ slots + ms ≤ R.slots) :
    va_Run p l e R s m args below meth c H locs cells slots mc ms (F0 m pc ls st) rest (Qc (Value.ref b :: As).toArray) free :=
  va_runV ⟨X.1, X.2.1, X.2.2.1, X.2.2.2.1, X.2.2.2.2.1⟩ hM ⟨callB_of n X.2.2.2.2.1 (by rw [hz]; exact gd_g hc) hz hrc hrs (X.2.2.2.2.1 _ hini) (X.2.2.2.2.1 _ hl) hd hR, X.2.2.2.2.1 _ hin, X.2.2.2.2.1 _ hsel⟩ ⟨hp.1, hrv, hp.2⟩ rfl hn hsz hst (lv_room hW) hdg hf
end KK
/-- filled up to n -/
def fl (f : Nat → Int32) (n : Nat) (v : Int32) : Nat → Int32 := fun j => if j < n then v else f j
theorem fl_0 (f : Nat → Int32) (v : Int32) : fl f 0 v = f := by funext j; simp [fl]
theorem fl_s (f : Nat → Int32) (n : Nat) (v : Int32) : upd (fl f n v) n v = fl f (n + 1) v := by
  funext j; simp only [upd, fl]
  by_cases h : j = n
  · subst h; simp
  · by_cases h2 : j < n
    · simp [h, h2, Nat.lt_succ_of_lt h2]
    · have h3 : ¬ j < n + 1 := by omega
      simp [h, h2, h3]

