section
theorem lw_c1 {w : Cond} (h : w ∈ tables_1_1) : w ∈ lw_tbl := List.mem_append_right _ (List.mem_append_left _ h)
theorem lw_c2 {w : Cond} (h : w ∈ tables_1_2) : w ∈ lw_tbl := List.mem_append_right _ (List.mem_append_right _ (List.mem_append_left _ h))
theorem lw_c3 {w : Cond} (h : w ∈ tables_1_3) : w ∈ lw_tbl := List.mem_append_right _ (List.mem_append_right _ (List.mem_append_right _ (List.mem_append_left _ h)))
theorem lw_c4 {w : Cond} (h : w ∈ tables_1_4) : w ∈ lw_tbl := List.mem_append_right _ (List.mem_append_right _ (List.mem_append_right _ (List.mem_append_right _ (List.mem_append_left _ h))))
theorem lw_c5 {w : Cond} (h : w ∈ tables_1_5) : w ∈ lw_tbl := List.mem_append_right _ (List.mem_append_right _ (List.mem_append_right _ (List.mem_append_right _ (List.mem_append_right _ (List.mem_append_left _ h)))))
theorem lw_c6 {w : Cond} (h : w ∈ tables_1_6) : w ∈ lw_tbl := List.mem_append_right _ (List.mem_append_right _ (List.mem_append_right _ (List.mem_append_right _ (List.mem_append_right _ (List.mem_append_right _ (List.mem_append_left _ h))))))
theorem lw_c7 {w : Cond} (h : w ∈ tables_1_7) : w ∈ lw_tbl := List.mem_append_right _ (List.mem_append_right _ (List.mem_append_right _ (List.mem_append_right _ (List.mem_append_right _ (List.mem_append_right _ (List.mem_append_right _ (List.mem_append_left _ h)))))))
theorem lw_c8 {w : Cond} (h : w ∈ tables_1_8) : w ∈ lw_tbl := List.mem_append_right _ (List.mem_append_right _ (List.mem_append_right _ (List.mem_append_right _ (List.mem_append_right _ (List.mem_append_right _ (List.mem_append_right _ (List.mem_append_right _ (List.mem_append_left _ h))))))))
theorem lw_c9 {w : Cond} (h : w ∈ tables_1_9) : w ∈ lw_tbl := List.mem_append_right _ (List.mem_append_right _ (List.mem_append_right _ (List.mem_append_right _ (List.mem_append_right _ (List.mem_append_right _ (List.mem_append_right _ (List.mem_append_right _ (List.mem_append_right _ (List.mem_append_left _ h)))))))))
theorem lw_c10 {w : Cond} (h : w ∈ tables_1_10) : w ∈ lw_tbl := List.mem_append_right _ (List.mem_append_right _ (List.mem_append_right _ (List.mem_append_right _ (List.mem_append_right _ (List.mem_append_right _ (List.mem_append_right _ (List.mem_append_right _ (List.mem_append_right _ (List.mem_append_right _ (List.mem_append_left _ h))))))))))
theorem lw_c11 {w : Cond} (h : w ∈ tables_1_11) : w ∈ lw_tbl := List.mem_append_right _ (List.mem_append_right _ (List.mem_append_right _ (List.mem_append_right _ (List.mem_append_right _ (List.mem_append_right _ (List.mem_append_right _ (List.mem_append_right _ (List.mem_append_right _ (List.mem_append_right _ (List.mem_append_right _ (List.mem_append_left _ h)))))))))))
theorem lw_c12 {w : Cond} (h : w ∈ tables_1_12) : w ∈ lw_tbl := List.mem_append_right _ (List.mem_append_right _ (List.mem_append_right _ (List.mem_append_right _ (List.mem_append_right _ (List.mem_append_right _ (List.mem_append_right _ (List.mem_append_right _ (List.mem_append_right _ (List.mem_append_right _ (List.mem_append_right _ (List.mem_append_right _ (List.mem_append_left _ h))))))))))))
theorem lw_c13 {w : Cond} (h : w ∈ tables_1_13) : w ∈ lw_tbl := List.mem_append_right _ (List.mem_append_right _ (List.mem_append_right _ (List.mem_append_right _ (List.mem_append_right _ (List.mem_append_right _ (List.mem_append_right _ (List.mem_append_right _ (List.mem_append_right _ (List.mem_append_right _ (List.mem_append_right _ (List.mem_append_right _ (List.mem_append_right _ (List.mem_append_left _ h)))))))))))))
theorem lw_c14 {w : Cond} (h : w ∈ tables_1_14) : w ∈ lw_tbl := List.mem_append_right _ (List.mem_append_right _ (List.mem_append_right _ (List.mem_append_right _ (List.mem_append_right _ (List.mem_append_right _ (List.mem_append_right _ (List.mem_append_right _ (List.mem_append_right _ (List.mem_append_right _ (List.mem_append_right _ (List.mem_append_right _ (List.mem_append_right _ (List.mem_append_right _ (List.mem_append_left _ h))))))))))))))
theorem lw_c15 {w : Cond} (h : w ∈ tables_1_15) : w ∈ lw_tbl := List.mem_append_right _ (List.mem_append_right _ (List.mem_append_right _ (List.mem_append_right _ (List.mem_append_right _ (List.mem_append_right _ (List.mem_append_right _ (List.mem_append_right _ (List.mem_append_right _ (List.mem_append_right _ (List.mem_append_right _ (List.mem_append_right _ (List.mem_append_right _ (List.mem_append_right _ (List.mem_append_right _ (List.mem_append_left _ h)))))))))))))))
theorem lw_c16 {w : Cond} (h : w ∈ tables_1_16) : w ∈ lw_tbl := List.mem_append_right _ (List.mem_append_right _ (List.mem_append_right _ (List.mem_append_right _ (List.mem_append_right _ (List.mem_append_right _ (List.mem_append_right _ (List.mem_append_right _ (List.mem_append_right _ (List.mem_append_right _ (List.mem_append_right _ (List.mem_append_right _ (List.mem_append_right _ (List.mem_append_right _ (List.mem_append_right _ (List.mem_append_right _ (List.mem_append_left _ h))))))))))))))))
theorem lw_c17 {w : Cond} (h : w ∈ tables_1_17) : w ∈ lw_tbl := List.mem_append_right _ (List.mem_append_right _ (List.mem_append_right _ (List.mem_append_right _ (List.mem_append_right _ (List.mem_append_right _ (List.mem_append_right _ (List.mem_append_right _ (List.mem_append_right _ (List.mem_append_right _ (List.mem_append_right _ (List.mem_append_right _ (List.mem_append_right _ (List.mem_append_right _ (List.mem_append_right _ (List.mem_append_right _ (List.mem_append_right _ (h)))))))))))))))))
/-! the words: those of lw_tbl that a warmer table keeps -/
def lw_g : List Cond := lw_tbl.filter goodWord
theorem lw_gi {w : Cond} (h : w ∈ lw_tbl) (hg : goodWord w = true) : w ∈ lw_g := List.mem_filter.mpr ⟨h, hg⟩
theorem lw_gg {w : Cond} (h : w ∈ lw_g) : goodWord w = true := (List.mem_filter.mp h).2
theorem lw_gt {w : Cond} (h : w ∈ lw_g) : w ∈ lw_tbl := (List.mem_filter.mp h).1
theorem gd_c {c0 c1 : Cond} (h : c1 ∈ lw_g) : GoodIn (c0 :: lw_g) (c1 :: lw_g) := fun w hw =>
  (List.mem_cons.mp hw).elim (fun e => ⟨List.mem_cons_of_mem _ (e ▸ h), good_of_word (lw_gg (e ▸ h))⟩) (fun h2 => ⟨List.mem_cons_of_mem _ h2, good_of_word (lw_gg h2)⟩)
theorem gd_g {c1 : Cond} (h : c1 ∈ lw_g) : GoodIn lw_g (c1 :: lw_g) := fun w hw =>
  (List.mem_cons.mp hw).elim (fun e => ⟨e ▸ h, good_of_word (lw_gg (e ▸ h))⟩) (fun h2 => ⟨h2, good_of_word (lw_gg h2)⟩)
/-- links to members of nest mates: no word of a method's own, they ride in the world -/
def isNest : Cond → Bool
  | .methodLinkNest _ _ _ _ => true
  | .fieldLinkNest _ _ _ _ _ _ => true
  | .arrayOver (.object _) => true
  | .stringRef _ _ _ => true
  | _ => false
def lw_n : List Cond := lw_tbl.filter isNest
theorem lw_ni {w : Cond} (h : w ∈ lw_tbl) (hg : isNest w = true) : w ∈ lw_n := List.mem_filter.mpr ⟨h, hg⟩
def nst (U : State) : Prop := ∀ w ∈ lw_n, va_Nw w U
/-- a String constant that has been resolved has its address -/
theorem str_R {own tx : String} {k : Nat} {U : State} (h : va_Nw (.stringRef own k tx) U) : ∃ a, vk_R own k tx a U := by
  have hcur : ∃ cur, U.vm.findClass own = some cur := by
    have h1 : (Cond.stringRef own k tx).before #[] U = true := h
    simp only [Cond.before, Cond.holds, Cond.value] at h1
    cases hc : U.vm.findClass own with
    | none => simp [hc] at h1
    | some cur => exact ⟨cur, rfl⟩
  obtain ⟨cur, hcur⟩ := hcur
  obtain ⟨_, _, _, a, _, _, _, _, _, hev⟩ := Cond.stringRef_spec hcur h
  exact ⟨a, h, hev⟩
theorem nst_al {w : Cond} (h : isNest w = true) {s U : State} (hv : s.vm = U.vm) (h2 : va_Nw w s) : va_Nw w U := by
  cases w with
  | methodLinkNest a i x n => exact va_Nw.same rfl hv h2
  | fieldLinkNest a i b n d x => exact va_Nw.same rfl hv h2
  | arrayOver t =>
    cases t with
    | object C => exact va_AO.moved (u := s) (U := U) (by rw [hv]; exact Vm.Alike.refl _) h2
    | _ => simp [isNest] at h
  | stringRef a i x => obtain ⟨z, hz⟩ := str_R h2; exact (vk_R.same hv.symm hz).1
  | _ => simp [isNest] at h
theorem nst_wa {w : Cond} (h : isNest w = true) {s U : State} (hW : s.WarmedH U.vm) (h2 : va_Nw w s) : va_Nw w U := by
  cases w with
  | methodLinkNest a i x n => exact va_Nw.warmM hW h2
  | fieldLinkNest a i b n d x => exact va_Nw.warmF hW h2
  | arrayOver t =>
    cases t with
    | object C => exact va_AO.moved (u := s) (U := U) hW.alike h2
    | _ => simp [isNest] at h
  | stringRef a i x => obtain ⟨z, hz⟩ := str_R h2; exact (vk_R.warm hW hz).1
  | _ => simp [isNest] at h
theorem nst.same {u U : State} (h : u.vm = U.vm) (hn : nst u) : nst U := fun w hw => nst_al (List.mem_filter.mp hw).2 h (hn w hw)
theorem nst.warm {s U : State} (hW : s.WarmedH U.vm) (hn : nst s) : nst U := fun w hw => nst_wa (List.mem_filter.mp hw).2 hW (hn w hw)
/-- what a method's body knows all along -/
def cx (p : Program) (s : State) (m : MethodId) (args : Array Value) (meth : Method) (c : Code) (cc : ByteArray) (nL : Nat) (ret : Option FieldType) (own nm : String) : Prop :=
  p.tables.exec = Jvm.exec ∧ c.code = cc ∧ c.maxLocals = nL ∧ s.vm.findClass own = some m.cls ∧ (∀ w ∈ lw_g, w.before args s = true) ∧ meth.sig.returnType = ret ∧ meth.locks = false ∧ meth.name = nm
/-- the world ahead of a method, and behind it -/
def wp (D : va_G) (cl : List vw_C) (tys : List (ClassId × FieldType)) (sz : Nat) (ws : va_W) (U : State) : Prop := U.heap.size = sz ∧ va_P D cl ws U.heap ∧ va_K D cl tys U ∧ va_D (fun _ => True) ws ∧ nst U
def wq (D : va_G) (cl : List vw_C) (tys : List (ClassId × FieldType)) (A : Nat → Prop) (ws : va_W) (t : State) : Prop := va_P D cl ws t.heap ∧ va_K D cl tys t ∧ va_D A ws
/-- a world in segments -/
def cat : List va_W → va_W
  | [] => []
  | x :: r => x ++ cat r
theorem cat_app : ∀ (a b : List va_W), cat (a ++ b) = cat a ++ cat b
  | [], b => rfl
  | x :: a, b => by show x ++ cat (a ++ b) = (x ++ cat a) ++ cat b; rw [cat_app a b, List.append_assoc]
theorem cat_push (a : List va_W) (x : va_W) : cat (a ++ [x]) = cat a ++ x := by rw [cat_app]; show cat a ++ (x ++ []) = _; rw [List.append_nil]
theorem cat_perm {a b : List va_W} (h : a.Perm b) : (cat a).Perm (cat b) := by
  induction h with
  | nil => exact List.Perm.refl _
  | cons x _ ih => exact List.Perm.append_left x ih
  | swap x y l => show (y ++ (x ++ cat l)).Perm (x ++ (y ++ cat l)); rw [← List.append_assoc, ← List.append_assoc]; exact List.Perm.append_right _ List.perm_append_comm
  | trans _ _ h1 h2 => exact h1.trans h2
theorem vP_iff {D : va_G} {cl : List vw_C} {ws : va_W} {H : Heap} : va_P D cl ws H ↔ ∀ q ∈ ws, va_at D cl q H :=
  ⟨fun h q hq => by obtain ⟨i, hi⟩ := List.mem_iff_getElem?.mp hq; exact h i q hi, fun h k q hk => h q (List.mem_of_getElem? hk)⟩
theorem vD_iff {A : Nat → Prop} {ws : va_W} : va_D A ws ↔ (ws.map (fun q => q.1)).Nodup ∧ ∀ q ∈ ws, A q.1 := by
  constructor
  · intro h
    refine ⟨?_, fun q hq => by obtain ⟨i, hi⟩ := List.mem_iff_getElem?.mp hq; exact h.2 i q hi⟩
    refine List.pairwise_iff_getElem.mpr (fun i j hi hj hij e => ?_)
    rw [List.length_map] at hi hj
    rw [List.getElem_map, List.getElem_map] at e
    have := h.1 i j _ _ (List.getElem?_eq_getElem hi) (List.getElem?_eq_getElem hj) e
    omega
  · intro h
    refine ⟨fun i j x y hi hj e => ?_, fun k q hk => h.2 q (List.mem_of_getElem? hk)⟩
    obtain ⟨hi1, hi2⟩ := List.getElem?_eq_some_iff.mp hi
    obtain ⟨hj1, hj2⟩ := List.getElem?_eq_some_iff.mp hj
    have key := List.pairwise_iff_getElem.mp h.1
    rcases Nat.lt_trichotomy i j with q | q | q
    · exact absurd (by rw [List.getElem_map, List.getElem_map, hi2, hj2]; exact e) (key i j (by rw [List.length_map]; exact hi1) (by rw [List.length_map]; exact hj1) q)
    · exact q
    · exact absurd (by rw [List.getElem_map, List.getElem_map, hi2, hj2]; exact e.symm) (key j i (by rw [List.length_map]; exact hj1) (by rw [List.length_map]; exact hi1) q)
theorem vP_perm {D : va_G} {cl : List vw_C} {a b : va_W} {H : Heap} (h : a.Perm b) (hP : va_P D cl a H) : va_P D cl b H := vP_iff.mpr (fun q hq => vP_iff.mp hP q (h.mem_iff.mpr hq))
theorem vD_perm {A : Nat → Prop} {a b : va_W} (h : a.Perm b) (hD : va_D A a) : va_D A b := vD_iff.mpr ⟨(h.map _).nodup_iff.mp (vD_iff.mp hD).1, fun q hq => (vD_iff.mp hD).2 q (h.mem_iff.mpr hq)⟩
/-- segments by their places -/
def sg_at (sg : List va_W) (is : List Nat) : List va_W := is.map (fun i => sg.getD i [])
theorem sg_range (sg : List va_W) : sg_at sg (List.range sg.length) = sg := by
  refine List.ext_getElem? (fun i => ?_)
  unfold sg_at
  rw [List.getElem?_map]
  by_cases h : i < sg.length
  · rw [List.getElem?_range h, List.getElem?_eq_getElem h]; simp [List.getD, h]
  · rw [List.getElem?_eq_none (by rw [List.length_range]; omega), List.getElem?_eq_none (by omega)]; rfl
theorem sg_perm (sg : List va_W) (is : List Nat) (h : is.isPerm (List.range sg.length) = true) : (cat sg).Perm (cat (sg_at sg is)) := by
  have h1 : is.Perm (List.range sg.length) := List.isPerm_iff.mp h
  have h2 : (sg_at sg is).Perm (sg_at sg (List.range sg.length)) := h1.map _
  rw [sg_range] at h2
  exact cat_perm h2.symm
theorem sg_split (sg : List va_W) (isC isR : List Nat) (h : (isR ++ isC).isPerm (List.range sg.length) = true) : (cat sg).Perm (cat (sg_at sg isR) ++ cat (sg_at sg isC)) := by
  have h2 := sg_perm sg (isR ++ isC) h
  have e : sg_at sg (isR ++ isC) = sg_at sg isR ++ sg_at sg isC := by unfold sg_at; rw [List.map_append]
  rw [e, cat_app] at h2
  exact h2
theorem wp_places (a b : va_W) : (List.range b.length).map (fun i => (a ++ b)[a.length + i]?) = b.map some := by
  refine List.ext_getElem? (fun i => ?_)
  rw [List.getElem?_map, List.getElem?_map]
  by_cases h : i < b.length
  · rw [List.getElem?_range h, List.getElem?_eq_getElem h]
    show some ((a ++ b)[a.length + i]?) = some (some b[i])
    rw [List.getElem?_append_right (by omega)]
    simp [h]
  · rw [List.getElem?_eq_none (by rw [List.length_range]; omega), List.getElem?_eq_none (by omega)]; rfl
theorem wp_placesL (a b : va_W) : (List.range a.length).map (fun i => (a ++ b)[i]?) = a.map some := by
  refine List.ext_getElem? (fun i => ?_)
  rw [List.getElem?_map, List.getElem?_map]
  by_cases h : i < a.length
  · rw [List.getElem?_range h, List.getElem?_eq_getElem h]
    show some ((a ++ b)[i]?) = some (some a[i])
    rw [List.getElem?_append_left h, List.getElem?_eq_getElem h]
  · rw [List.getElem?_eq_none (by rw [List.length_range]; omega), List.getElem?_eq_none (by omega)]; rfl
theorem nd_iff : ∀ (l : List Nat), l.Nodup → va_nd l = true
  | [], _ => rfl
  | a :: l, h => by
    have h2 := List.nodup_cons.mp h
    simp only [va_nd, Bool.and_eq_true, decide_eq_true_eq]
    exact ⟨h2.1, nd_iff l h2.2⟩
theorem nd_shift (n k : Nat) : va_nd ((List.range n).map (fun i => k + i)) = true := nd_iff _ (List.pairwise_map.mpr (List.nodup_range.imp (fun h e => h (by omega))))
/-- contracts: nothing, an int, a long is answered -/
abbrev Cv {S : Type} (l : Launch) (y : MethodName) (z : List Cond) (rm : Room) (D : va_G) (cl : List vw_C) (tys : List (ClassId × FieldType)) (av : List Value) (sg : List va_W) (post : S → Prop) (sf : S → List va_W) (mc ms : Nat) : Prop :=
  ∀ sz : Nat, Met l y z rm (va_Pc av (wp D cl tys sz (cat sg))) (va_Qv post (fun u t => wq D cl tys (va_A (cat sg) sz) (cat (sf u)) t) (va_A (cat sg) sz)) mc ms (va_A (cat sg) sz)
abbrev Ci {S : Type} (l : Launch) (y : MethodName) (z : List Cond) (rm : Room) (D : va_G) (cl : List vw_C) (tys : List (ClassId × FieldType)) (av : List Value) (sg : List va_W) (post : Int32 → S → Prop) (sf : S → List va_W) (mc ms : Nat) : Prop :=
  ∀ sz : Nat, Met l y z rm (va_Pc av (wp D cl tys sz (cat sg))) (va_Qi post (fun u t => wq D cl tys (va_A (cat sg) sz) (cat (sf u)) t) (va_A (cat sg) sz)) mc ms (va_A (cat sg) sz)
theorem wp_blind {D : va_G} {cl : List vw_C} {tys : List (ClassId × FieldType)} {sz : Nat} {ws : va_W} {av : List Value} : FrameBlind (va_Pc av (wp D cl tys sz ws)) :=
  fun a U g mk q => by obtain ⟨q0, q1, qP, qK, qD, qN⟩ := q; exact ⟨q0, q1, qP, va_K.moved (u := U) (U := U.calling g mk a) (Vm.Alike.refl U.vm) qK, qD, nst.same (u := U) (U := U.calling g mk a) rfl qN⟩
section KK
variable {p : Program} {l : Launch} {e : Env} {R : Room} {s : State} {m : MethodId} {args : Array Value} {below : List Frame} {meth : Method} {c : Code} {H : Heap} {locs : List Loc} {cells slots : Nat} {Q : State → Prop}
  {D : va_G} {cl : List vw_C} {tys : List (ClassId × FieldType)} {ws : va_W} {A : Nat → Prop} {cc : ByteArray} {nL : Nat} {ret : Option FieldType} {own nm : String} {pc : Nat} {ls : Array Slot} {rest : List Value} {a : Nat}
theorem k_met {y : MethodName} {z : List Cond} {rm : Room} {maxL mc ms : Nat} {av : List Value} {Bp : State → Prop} {Qc : Array Value → State → Outcome → State → Prop} {free : Addr → Prop}
    (hy : plainName y.cls = true) (hz : z = Cond.code y cc maxL ret :: lw_g) (hn : (lg_sl av).length ≤ maxL)
    (body : ∀ (p : Program) (e : Env) (s : State) (m : MethodId) (below : List Frame) (meth : Method) (c : Code) (ls : Array Slot), cx p s m av.toArray meth c cc maxL ret y.cls y.name → lv_has ls maxL (lv_args 0 av) → Bp s → W p l e rm s m av.toArray below meth c s.heap [] 0 0 (MQ below Qc av.toArray s mc ms free) (F0 m 0 ls [])) :
    Met l y z rm (va_Pc av Bp) Qc mc ms free := by
  refine Met.ofW (cc := cc) (maxL := maxL) (ret := ret) hy hz ?_
  intro p e s m args below meth c s₁ B hml hv
  obtain ⟨rfl, hB⟩ := hv
  have hts := atoms_spec (ws := z) B.pre
  have hts2 : ∀ w ∈ lw_g, w.before av.toArray s = true := fun w hw => hts w (by rw [hz]; exact List.mem_cons_of_mem _ hw)
  have hl := lv_entry av (n := maxL) hn
  rw [lg_entry_eq]
  exact body p e s m below meth c _ ⟨B.exec, B.bytes, hml, findClass_of_methodNamed B.named, hts2, B.returns, B.notSynchronized, (name_of_methodNamed B.named B.method).1⟩ hl hB
theorem k_get (X : cx p s m args meth c cc nL ret own nm) (hK : va_K D cl tys s) (hP : va_P D cl ws H) (q0 : Nat) {ci : Nat} {fs : List Value} (he : ws[q0]? = some (a, .inr (ci, fs))) {C : String} {T : u_T} {N : Nat} (hc : cl[ci]? = some (C, T, N)) (hi : ∀ w ∈ u_ws C T N, w ∈ lw_g) (k : Nat) (hk : k < N) {index : Nat}
    (hl : Cond.fieldLink own index C (T k).2.1 (T k).2.2.1 ∈ lw_g) (ho : (T k).1 = C) {v : Value} (hv : fs[k]? = some v) (hdg : decode cc pc = .ok (.getfield index, 3)) (kk : W p l e R s m args below meth c H locs cells slots Q (F0 m (pc + 3) ls (v :: rest))) : W p l e R s m args below meth c H locs cells slots Q (F0 m pc ls (.ref a :: rest)) :=
  va_get X.1 X.2.1 X.2.2.2.2.1 hi X.2.2.2.1 hK hP q0 he hc k hk (X.2.2.2.2.1 _ hl) (fun x h => by rw [ho] at h; exact h) hv hdg kk
theorem k_put (X : cx p s m args meth c cc nL ret own nm) (hK : va_K D cl tys s) (hP : va_P D cl ws H) (hD : va_D A ws) (hS : va_S A s.heap H locs) (q0 : Nat) {ci : Nat} {fs : List Value} (he : ws[q0]? = some (a, .inr (ci, fs))) {C : String} {T : u_T} {N : Nat} (hc : cl[ci]? = some (C, T, N)) (hi : ∀ w ∈ u_ws C T N, w ∈ lw_g) (ty0 : Nat → FieldType) (hty : ∀ k, k < N → parseFieldDescriptor (T k).2.2.1 = some (ty0 k)) (hnm : ∀ a, a < N → ∀ b, b < N → a ≠ b → (T a).2.1 ≠ (T b).2.1) (k : Nat) (hk : k < N) {index : Nat}
    (hl : Cond.fieldLink own index C (T k).2.1 (T k).2.2.1 ∈ lw_g) (ho : (T k).1 = C) (hfin : (T k).2.2.2 = false ∨ (nm = "<init>" ∧ C = own)) {v : Value} (hn : narrow (ty0 k) v = v) (hfit : fits (ty0 k) v = true) (hlen : k < fs.length) (hdg : decode cc pc = .ok (.putfield index, 3))
    (kk : ∀ (H1 : Heap) (locs1 : List Loc), va_P D cl (ws.set q0 (a, .inr (ci, fs.set k v))) H1 → va_D A (ws.set q0 (a, .inr (ci, fs.set k v))) → va_S A s.heap H1 locs1 → W p l e R s m args below meth c H1 locs1 cells slots Q (F0 m (pc + 3) ls rest)) : W p l e R s m args below meth c H locs cells slots Q (F0 m pc ls (v :: .ref a :: rest)) := by
  have hs2 : ∀ x, s.fieldFound? (T k).1 (T k).2.1 (T k).2.2.1 = some x → s.fieldFound? C (T k).2.1 (T k).2.2.1 = some x := fun x h => by rw [ho] at h; exact h
  by_cases hf : (T k).2.2.2 = false
  · exact va_put X.1 X.2.1 X.2.2.2.2.1 hi ty0 hty hnm X.2.2.2.1 hK hP hD hS q0 he hc k hk (X.2.2.2.2.1 _ hl) hs2 hf (hty k hk) hn hfit hlen hdg kk
  · have h2 := hfin.resolve_left hf
    exact va_putF X.1 X.2.1 X.2.2.2.2.1 hi ty0 hty hnm X.2.2.2.1 hK hP hD hS q0 he hc k hk (X.2.2.2.2.1 _ hl) hs2 (by cases h : (T k).2.2.2 <;> simp_all) (by rw [X.2.2.2.2.2.2.2]; exact h2.1) (ho.trans h2.2) (hty k hk) hn hfit hlen hdg kk
theorem k_cls {c1 c2 : ClassId} {ty : FieldType} (hp : refKind ty = false) (h1 : va_RA s c1 ty) (h2 : va_RA s c2 ty) : c1 = c2 := by
  cases ty <;> first | (simp [refKind] at hp; done) | (have e1 : s.vm.findClass _ = some c1 := h1; have e2 : s.vm.findClass _ = some c2 := h2; rw [e1] at e2; exact Option.some.inj e2)
theorem k_newa (X : cx p s m args meth c cc nL ret own nm) {atype : ArrayType} {ty : FieldType} (hty : newarray.typeOf atype = ty) (hp : refKind ty = false) (hw : Cond.arrayClass (newarray.typeOf atype) ∈ lw_g) {sg : List va_W} (hK : va_K D cl tys s) (hP : va_P D cl (cat sg) H) (hD : va_D A (cat sg)) (hS : va_S A s.heap H locs) (hA : ∀ q, s.heap.size ≤ q → A q) (t0 : Nat) {cA : ClassId} (ht : tys[t0]? = some (cA, ty))
    {n : Int32} {N' : Nat} {a0 : vp_A} (ha : ∀ cA : ClassId, vp_cell cA a0 = arrV cA N' (fun _ => defaultValue ty)) (hn : ¬ n < 0) (hN : n.toNatClampNeg = N') (hbytes : N' * componentBytes ty ≤ 536870912) (hcells : cells + 1 ≤ R.cells) (hslots : slots + N' ≤ R.slots) (hdg : decode cc pc = .ok (.newarray atype, 2))
    (kk : ∀ (q : Nat) (H1 : Heap), va_P D cl (cat (sg ++ [[(q, .inl (cA, a0))]])) H1 → va_D A (cat (sg ++ [[(q, .inl (cA, a0))]])) → va_S A s.heap H1 locs → W p l e R s m args below meth c H1 locs (cells + 1) (slots + N') Q (F0 m (pc + 2) ls (.ref q :: rest))) : W p l e R s m args below meth c H locs cells slots Q (F0 m pc ls (.int n :: rest)) := by
  refine va_newa X.1 X.2.1 (X.2.2.2.2.1 _ hw) hty hK hP hD hS hA ha hn hN hbytes hcells hslots hdg (fun q cA_zq H1 hK_zq hP_zq hD_zq hS_zq => ?_)
  have e1 : cA_zq = cA := k_cls hp (hK_zq.2 tys.length (cA_zq, ty) (by simp)).2 (hK.2 t0 (cA, ty) ht).2
  subst e1
  exact kk q H1 (by rw [cat_push]; exact hP_zq) (by rw [cat_push]; exact hD_zq) hS_zq
theorem k_RAo {c1 c2 : ClassId} {C : String} (h1 : va_RA s c1 (.object C)) (h2 : va_RA s c2 (.object C)) : c1 = c2 := by
  obtain ⟨_, _, _, _, _, e1⟩ := h1
  obtain ⟨_, _, _, _, _, e2⟩ := h2
  rw [e1] at e2
  exact Option.some.inj e2
theorem k_newq (hNs : nst s) (X : cx p s m args meth c cc nL ret own nm) {C : String} {index : Nat} (hcl : Cond.classLink own index C ∈ lw_g) (hov : Cond.arrayOver (.object C) ∈ lw_n) {sg : List va_W} (hK : va_K D cl tys s) (hP : va_P D cl (cat sg) H) (hD : va_D A (cat sg)) (hS : va_S A s.heap H locs) (hA : ∀ q, s.heap.size ≤ q → A q) (t0 : Nat) {cA : ClassId} (ht : tys[t0]? = some (cA, .object C))
    {n : Int32} {N' : Nat} (hn : ¬ n < 0) (hN : n.toNatClampNeg = N') (hbytes : N' * 4 ≤ 536870912) (hcells : cells + 1 ≤ R.cells) (hslots : slots + N' ≤ R.slots) (hdg : decode cc pc = .ok (.anewarray index, 3))
    (kk : ∀ (q : Nat) (H1 : Heap), va_P D cl (cat (sg ++ [[(q, .inl (cA, N', .inr (.inr (.inr (.inr (fun _ => none))))))]])) H1 → va_D A (cat (sg ++ [[(q, .inl (cA, N', .inr (.inr (.inr (.inr (fun _ => none))))))]])) → va_S A s.heap H1 locs → W p l e R s m args below meth c H1 locs (cells + 1) (slots + N') Q (F0 m (pc + 3) ls (.ref q :: rest))) : W p l e R s m args below meth c H locs cells slots Q (F0 m pc ls (.int n :: rest)) := by
  refine va_newq X.1 X.2.1 X.2.2.2.1 (X.2.2.2.2.1 _ hcl) (hNs _ hov) hK hP hD hS hA hn hN hbytes hcells hslots hdg (fun q cA_zq H1 hK_zq hP_zq hD_zq hS_zq => ?_)
  have e1 : cA_zq = cA := k_RAo (hK_zq.2 tys.length (cA_zq, .object C) (by simp)).2 (hK.2 t0 (cA, .object C) ht).2
  subst e1
  exact kk q H1 (by rw [cat_push]; exact hP_zq) (by rw [cat_push]; exact hD_zq) hS_zq
theorem k_new (X : cx p s m args meth c cc nL ret own nm) {C : String} {T : u_T} {N ci index : Nat} (hi : ∀ w ∈ u_ws C T N, w ∈ lw_g) (ty : Nat → FieldType) (hty : ∀ k, k < N → parseFieldDescriptor (T k).2.2.1 = some (ty k)) (hcl : Cond.classLink own index C ∈ lw_g) (hinst : Cond.instantiable C N ∈ lw_g) (hini : Cond.initialized C ∈ lw_g)
    {sg : List va_W} (hK : va_K D cl tys s) (hP : va_P D cl (cat sg) H) (hD : va_D A (cat sg)) (hS : va_S A s.heap H locs) (hA : ∀ q, s.heap.size ≤ q → A q) (hc : cl[ci]? = some (C, T, N)) {fs : List Value} (hfs : ∀ j, j < N → defaultValue (ty j) = vp_V fs j) (hcells : cells + 1 ≤ R.cells) (hslots : slots + N ≤ R.slots) (hdg : decode cc pc = .ok (.new index, 3))
    (kk : ∀ (q : Nat) (H1 : Heap), va_P D cl (cat (sg ++ [[(q, .inr (ci, fs))]])) H1 → va_D A (cat (sg ++ [[(q, .inr (ci, fs))]])) → va_S A s.heap H1 locs → W p l e R s m args below meth c H1 locs (cells + 1) (slots + N) Q (F0 m (pc + 3) ls (.ref q :: rest))) : W p l e R s m args below meth c H locs cells slots Q (F0 m pc ls rest) :=
  va_new X.1 X.2.1 X.2.2.2.2.1 hi ty hty X.2.2.2.1 (X.2.2.2.2.1 _ hcl) (X.2.2.2.2.1 _ hinst) (X.2.2.2.2.1 _ hini) hK hP hD hS hA hc hfs hcells hslots hdg (fun q H1 hP_zq hD_zq hS_zq => kk q H1 (by rw [cat_push]; exact hP_zq) (by rw [cat_push]; exact hD_zq) hS_zq)
/-- behind a call: what came back stands behind the rest, which is unchanged -/
theorem k_goV {S : Type} {post : S → Prop} {sf : S → List va_W} {sg gc gr : List va_W} {st0 : List Value} {mc ms : Nat} {b : Array Value}
    (hr : va_Run p l e R s m args below meth c H locs cells slots mc ms (F0 m pc ls st0) rest (va_Qv post (fun u t => wq D cl tys (va_A (cat gc) H.size) (cat (sf u)) t) (va_A (cat gc) H.size) b) (va_A (cat gc) H.size))
    (hP : va_P D cl (cat sg) H) (hD : va_D A (cat sg)) (hS : va_S A s.heap H locs) (hA : ∀ q, s.heap.size ≤ q → A q) (isC isR : List Nat) (ng : Nat) (hng : sg.length = ng) (hp : (isR ++ isC).isPerm (List.range ng) = true) (hC : sg_at sg isC = gc) (hR : sg_at sg isR = gr)
    (kk : ∀ (u : S) (H1 : Heap) (locs1 : List Loc), post u → va_P D cl (cat (gr ++ sf u)) H1 → va_D A (cat (gr ++ sf u)) → va_S A s.heap H1 locs1 → W p l e R s m args below meth c H1 locs1 (cells + mc) (slots + ms) Q (F0 m (pc + 3) ls rest)) : W p l e R s m args below meth c H locs cells slots Q (F0 m pc ls st0) := by
  subst hng
  have hsp := sg_split sg isC isR hp
  rw [hC, hR] at hsp
  have hP0 := vP_perm hsp hP
  have hD0 := vD_perm hsp hD
  have hCp := wp_places (cat gr) (cat gc)
  have hCq : ((List.range (cat gc).length).map (fun i => (cat gr).length + i)).map (fun i => (cat gr ++ cat gc)[i]?) = (cat gc).map some := by rw [List.map_map]; exact hCp
  have hF := va_free (wc := cat gc) hD0 hS hA _ hCq
  refine va_callv hr hS (fun q _ h => hF q h) hF (fun u t H1 locs1 ht _ hw hB _ hk1 hS1 => ?_)
  obtain ⟨hP1, _, hD1⟩ := hB
  rw [ht] at hP1
  obtain ⟨hP2, hD2⟩ := va_join (wr := cat gr) (w1 := cat (sf u)) hP0 hD0 _ (List.range (cat gr).length) hCq (wp_placesL _ _) (nd_iff _ List.nodup_range) (fun i hi hj => by
    obtain ⟨k, _, e2⟩ := List.mem_map.mp hj
    have := List.mem_range.mp hi
    omega) hk1 hF hP1 hD1
  exact kk u H1 locs1 hw (by rw [cat_app]; exact hP2) (by rw [cat_app]; exact hD2) hS1
theorem k_goI {S : Type} {post : Int32 → S → Prop} {sf : S → List va_W} {sg gc gr : List va_W} {st0 : List Value} {mc ms : Nat} {b : Array Value}
    (hr : va_Run p l e R s m args below meth c H locs cells slots mc ms (F0 m pc ls st0) rest (va_Qi post (fun u t => wq D cl tys (va_A (cat gc) H.size) (cat (sf u)) t) (va_A (cat gc) H.size) b) (va_A (cat gc) H.size))
    (hP : va_P D cl (cat sg) H) (hD : va_D A (cat sg)) (hS : va_S A s.heap H locs) (hA : ∀ q, s.heap.size ≤ q → A q) (isC isR : List Nat) (ng : Nat) (hng : sg.length = ng) (hp : (isR ++ isC).isPerm (List.range ng) = true) (hC : sg_at sg isC = gc) (hR : sg_at sg isR = gr)
    (kk : ∀ (r : Int32) (u : S) (H1 : Heap) (locs1 : List Loc), post r u → va_P D cl (cat (gr ++ sf u)) H1 → va_D A (cat (gr ++ sf u)) → va_S A s.heap H1 locs1 → W p l e R s m args below meth c H1 locs1 (cells + mc) (slots + ms) Q (F0 m (pc + 3) ls (.int r :: rest))) : W p l e R s m args below meth c H locs cells slots Q (F0 m pc ls st0) := by
  subst hng
  have hsp := sg_split sg isC isR hp
  rw [hC, hR] at hsp
  have hP0 := vP_perm hsp hP
  have hD0 := vD_perm hsp hD
  have hCp := wp_places (cat gr) (cat gc)
  have hCq : ((List.range (cat gc).length).map (fun i => (cat gr).length + i)).map (fun i => (cat gr ++ cat gc)[i]?) = (cat gc).map some := by rw [List.map_map]; exact hCp
  have hF := va_free (wc := cat gc) hD0 hS hA _ hCq
  refine va_calli hr hS (fun q _ h => hF q h) hF (fun r u t H1 locs1 ht _ hw hB _ hk1 hS1 => ?_)
  obtain ⟨hP1, _, hD1⟩ := hB
  rw [ht] at hP1
  obtain ⟨hP2, hD2⟩ := va_join (wr := cat gr) (w1 := cat (sf u)) hP0 hD0 _ (List.range (cat gr).length) hCq (wp_placesL _ _) (nd_iff _ List.nodup_range) (fun i hi hj => by
    obtain ⟨k, _, e2⟩ := List.mem_map.mp hj
    have := List.mem_range.mp hi
    omega) hk1 hF hP1 hD1
  exact kk r u H1 locs1 hw (by rw [cat_app]; exact hP2) (by rw [cat_app]; exact hD2) hS1
/-- the world ahead of a call, cut out of the caller's -/
theorem k_pre {sg gc : List va_W} {av : List Value} (hN : nst s) (hK : va_K D cl tys s) (hP : va_P D cl (cat sg) H) (hD : va_D A (cat sg)) (isC isR : List Nat) (ng : Nat) (hng : sg.length = ng) (hp : (isR ++ isC).isPerm (List.range ng) = true) (hC : sg_at sg isC = gc) : PreS s H (va_Pc av (wp D cl tys H.size (cat gc))) av := by
  subst hng
  have hsp := sg_split sg isC isR hp
  rw [hC] at hsp
  have hP0 := vP_iff.mp (vP_perm hsp hP)
  have hD0 := vD_iff.mp (vD_perm hsp hD)
  refine ⟨wp_blind, fun U hU hW => ⟨rfl, by rw [hU], ?_, va_K.moved hW.alike hK, vD_iff.mpr ⟨?_, fun _ _ => trivial⟩, nst.warm hW hN⟩⟩
  · rw [hU]; exact vP_iff.mpr (fun q hq => hP0 q (List.mem_append_right _ hq))
  · have h2 := hD0.1
    rw [List.map_append] at h2
    exact (List.nodup_append.mp h2).2.1
/-- the world behind a method, in another order of its segments -/
theorem k_ord {sg gc : List va_W} (hP : va_P D cl (cat sg) H) (hD : va_D A (cat sg)) (is : List Nat) (ng : Nat) (hng : sg.length = ng) (hp : is.isPerm (List.range ng) = true) (hC : sg_at sg is = gc) : va_P D cl (cat gc) H ∧ va_D A (cat gc) := by
  subst hng
  have h := sg_perm sg is hp
  rw [hC] at h
  exact ⟨vP_perm h hP, vD_perm h hD⟩
theorem k_rI {y : MethodName} {z : List Cond} {rm : Room} {bytes : ByteArray} {maxL mc ms index : Nat} {Pc : Array Value → State → Prop} {Qc : Array Value → State → Outcome → State → Prop} {free : Addr → Prop} {b : Addr} {As st : List Value}
    (X : cx p s m args meth c cc nL ret own nm) (hM : Met l y z rm Pc Qc mc ms free) (hz : z = Cond.code y bytes maxL none :: lw_g) (hc : Cond.code y bytes maxL none ∈ lw_g) (hini : Cond.initialized y.cls ∈ lw_g) (hl : Cond.methodLink own index y ∈ lw_g) (hin : Cond.instanceMethod y ∈ lw_g) (hy1 : y.name = "<init>") (n : Nat)
    (hd : y.cls ≠ "java/lang/invoke/MethodHandle" ∧ y.cls ≠ "java/lang/invoke/VarHandle" ∧ (parseMethodDescriptor y.desc).map (fun d => d.parameters.length) = some n) (hR : rm.frames + 1 ≤ R.frames ∧ 8 + (maxL + 11) + rm.locals ≤ R.locals) (hrc : rm.cells = mc) (hrs : rm.slots = ms)
    (hp : PreS s H Pc (.ref b :: As)) (hn : As.length = n) (hsz : ls.size = nL) (hst : st = As.reverse ++ .ref b :: rest) (hW : (rest.map fun v => v.category).sum ≤ 8) (hdg : decode cc pc = .ok (.invokespecial index, 3)) (hf : cells + mc ≤ R.cells ∧ slots + ms ≤ R.slots) :
    va_Run p l e R s m args below meth c H locs cells slots mc ms (F0 m pc ls st) rest (Qc (Value.ref b :: As).toArray) free :=
  va_runI ⟨X.1, X.2.1, X.2.2.1, X.2.2.2.1, X.2.2.2.2.1⟩ hM (cwI n X.2.2.2.2.1 (by rw [hz]; exact gd_g hc) hz hrc hrs (X.2.2.2.2.1 _ hini) (X.2.2.2.2.1 _ hl) (X.2.2.2.2.1 _ hin) hy1 hd hR) hp rfl hn hsz hst (lv_room hW) hdg hf
theorem k_rIN {y : MethodName} {z : List Cond} {rm : Room} {bytes : ByteArray} {maxL mc ms index : Nat} {host : String} {Pc : Array Value → State → Prop} {Qc : Array Value → State → Outcome → State → Prop} {free : Addr → Prop} {b : Addr} {As st : List Value}
    (hN : nst s) (X : cx p s m args meth c cc nL ret own nm) (hM : Met l y z rm Pc Qc mc ms free) (hz : z = Cond.code y bytes maxL none :: lw_g) (hc : Cond.code y bytes maxL none ∈ lw_g) (hini : Cond.initialized y.cls ∈ lw_g) (hl : Cond.methodLinkNest own index y host ∈ lw_n) (hin : Cond.instanceMethod y ∈ lw_g) (hy1 : y.name = "<init>") (n : Nat)
    (hd : y.cls ≠ "java/lang/invoke/MethodHandle" ∧ y.cls ≠ "java/lang/invoke/VarHandle" ∧ (parseMethodDescriptor y.desc).map (fun d => d.parameters.length) = some n) (hR : rm.frames + 1 ≤ R.frames ∧ 8 + (maxL + 11) + rm.locals ≤ R.locals) (hrc : rm.cells = mc) (hrs : rm.slots = ms)
    (hp : PreS s H Pc (.ref b :: As)) (hn : As.length = n) (hsz : ls.size = nL) (hst : st = As.reverse ++ .ref b :: rest) (hW : (rest.map fun v => v.category).sum ≤ 8) (hdg : decode cc pc = .ok (.invokespecial index, 3)) (hf : cells + mc ≤ R.cells ∧ slots + ms ≤ R.slots) :
    va_Run p l e R s m args below meth c H locs cells slots mc ms (F0 m pc ls st) rest (Qc (Value.ref b :: As).toArray) free :=
  va_runIN ⟨X.1, X.2.1, X.2.2.1, X.2.2.2.1, X.2.2.2.2.1⟩ hM ⟨va_cnB n X.2.2.2.2.1 (by rw [hz]; exact gd_g hc) hz hrc hrs (hN _ hl) (X.2.2.2.2.1 _ hini) hd hR, hy1, X.2.2.2.2.1 _ hin⟩ hp rfl hn hsz hst (lv_room hW) hdg hf
theorem k_rS {y : MethodName} {z : List Cond} {rm : Room} {bytes : ByteArray} {maxL mc ms index : Nat} {ret' : Option FieldType} {Pc : Array Value → State → Prop} {Qc : Array Value → State → Outcome → State → Prop} {free : Addr → Prop} {As st : List Value}
    (X : cx p s m args meth c cc nL ret own nm) (hM : Met l y z rm Pc Qc mc ms free) (hz : z = Cond.code y bytes maxL ret' :: lw_g) (hc : Cond.code y bytes maxL ret' ∈ lw_g) (hini : Cond.initialized y.cls ∈ lw_g) (hl : Cond.methodLink own index y ∈ lw_g) (hin : Cond.static y ∈ lw_g) (n : Nat)
    (hd : y.cls ≠ "java/lang/invoke/MethodHandle" ∧ y.cls ≠ "java/lang/invoke/VarHandle" ∧ (parseMethodDescriptor y.desc).map (fun d => d.parameters.length) = some n) (hR : rm.frames + 1 ≤ R.frames ∧ 8 + (maxL + 11) + rm.locals ≤ R.locals) (hrc : rm.cells = mc) (hrs : rm.slots = ms)
    (hp : PreS s H Pc As) (hn : As.length = n) (hsz : ls.size = nL) (hst : st = As.reverse ++ rest) (hW : (rest.map fun v => v.category).sum ≤ 8) (hdg : decode cc pc = .ok (.invokestatic index, 3)) (hf : cells + mc ≤ R.cells ∧ slots + ms ≤ R.slots) :
    va_Run p l e R s m args below meth c H locs cells slots mc ms (F0 m pc ls st) rest (Qc As.toArray) free :=
  va_runS ⟨X.1, X.2.1, X.2.2.1, X.2.2.2.1, X.2.2.2.2.1⟩ hM ⟨callB_of n X.2.2.2.2.1 (by rw [hz]; exact gd_g hc) hz hrc hrs (X.2.2.2.2.1 _ hini) (X.2.2.2.2.1 _ hl) hd hR, X.2.2.2.2.1 _ hin⟩ hp rfl hn hsz hst (lv_room hW) hdg hf
theorem k_rV {y : MethodName} {z : List Cond} {rm : Room} {bytes : ByteArray} {maxL mc ms index : Nat} {ret' : Option FieldType} {Pc : Array Value → State → Prop} {Qc : Array Value → State → Outcome → State → Prop} {free : Addr → Prop} {b : Addr} {As st : List Value}
    (X : cx p s m args meth c cc nL ret own nm) (hM : Met l y z rm Pc Qc mc ms free) (hz : z = Cond.code y bytes maxL ret' :: lw_g) (hc : Cond.code y bytes maxL ret' ∈ lw_g) (hini : Cond.initialized y.cls ∈ lw_g) (hl : Cond.methodLink own index y ∈ lw_g) (hin : Cond.instanceMethod y ∈ lw_g) (hsel : Cond.selects y.cls y y ∈ lw_g) (n : Nat)
    (hd : y.cls ≠ "java/lang/invoke/MethodHandle" ∧ y.cls ≠ "java/lang/invoke/VarHandle" ∧ (parseMethodDescriptor y.desc).map (fun d => d.parameters.length) = some n) (hR : rm.frames + 1 ≤ R.frames ∧ 8 + (maxL + 11) + rm.locals ≤ R.locals) (hrc : rm.cells = mc) (hrs : rm.slots = ms)
    (hrv : ∃ cellB : Cell, H[b]? = some cellB ∧ cellB.vm.isStatics = false ∧ s.vm.findClass y.cls = some cellB.cls) (hp : PreS s H Pc (.ref b :: As)) (hn : As.length = n) (hsz : ls.size = nL) (hst : st = As.reverse ++ .ref b :: rest) (hW : (rest.map fun v => v.category).sum ≤ 8) (hdg : decode cc pc = .ok (.invokevirtual index, 3)) (hf : cells + mc ≤ R.cells ∧ slots + ms ≤ R.slots) :
    va_Run p l e R s m args below meth c H locs cells slots mc ms (F0 m pc ls st) rest (Qc (Value.ref b :: As).toArray) free :=
  va_runV ⟨X.1, X.2.1, X.2.2.1, X.2.2.2.1, X.2.2.2.2.1⟩ hM ⟨callB_of n X.2.2.2.2.1 (by rw [hz]; exact gd_g hc) hz hrc hrs (X.2.2.2.2.1 _ hini) (X.2.2.2.2.1 _ hl) hd hR, X.2.2.2.2.1 _ hin, X.2.2.2.2.1 _ hsel⟩ ⟨hp.1, hrv, hp.2⟩ rfl hn hsz hst (lv_room hW) hdg hf
end KK
/-- filled up to n -/
def fl (f : Nat → Int32) (n : Nat) (v : Int32) : Nat → Int32 := fun j => if j < n then v else f j
theorem fl_0 (f : Nat → Int32) (v : Int32) : fl f 0 v = f := by funext j; simp [fl]
theorem fl_s (f : Nat → Int32) (n : Nat) (v : Int32) : upd (fl f n v) n v = fl f (n + 1) v := by
  funext j; simp only [upd, fl]
  by_cases h : j = n
  · subst h; simp
  · by_cases h2 : j < n
    · simp [h, h2, Nat.lt_succ_of_lt h2]
    · have h3 : ¬ j < n + 1 := by omega
      simp [h, h2, h3]
end
section
def R_Dr : String := "DrawingHouse$Drawing"
def F_Dr : u_T := fun k => match k with
  | 0 => ("DrawingHouse$Drawing", "graph", "LDrawingHouse$Graph;", true)
  | 1 => ("DrawingHouse$Drawing", "way", "I", false)
  | 2 => ("DrawingHouse$Drawing", "x", "[I", true)
  | 3 => ("DrawingHouse$Drawing", "y", "[I", true)
  | 4 => ("DrawingHouse$Drawing", "bends", "[I", true)
  | 5 => ("DrawingHouse$Drawing", "bendX", "[I", true)
  | 6 => ("DrawingHouse$Drawing", "bendY", "[I", true)
  | 7 => ("DrawingHouse$Drawing", "crossings", "I", false)
  | 8 => ("DrawingHouse$Drawing", "spans", "I", false)
  | 9 => ("DrawingHouse$Drawing", "band", "I", false)
  | 10 => ("DrawingHouse$Drawing", "layer", "[I", true)
  | 11 => ("DrawingHouse$Drawing", "turned", "[Z", true)
  | 12 => ("DrawingHouse$Drawing", "rank", "[I", true)
  | 13 => ("DrawingHouse$Drawing", "area", "[I", true)
  | 14 => ("DrawingHouse$Drawing", "shades", "[I", true)
  | 15 => ("DrawingHouse$Drawing", "labelX", "[I", true)
  | 16 => ("DrawingHouse$Drawing", "labelY", "[I", true)
  | 17 => ("DrawingHouse$Drawing", "leastX", "I", false)
  | 18 => ("DrawingHouse$Drawing", "leastY", "I", false)
  | 19 => ("DrawingHouse$Drawing", "mostX", "I", false)
  | _ => ("DrawingHouse$Drawing", "mostY", "I", false)
def t_Dr : Nat → FieldType := fun k => match k with
  | 0 => .object "DrawingHouse$Graph"
  | 1 => .int
  | 2 => .array .int
  | 3 => .array .int
  | 4 => .array .int
  | 5 => .array .int
  | 6 => .array .int
  | 7 => .int
  | 8 => .int
  | 9 => .int
  | 10 => .array .int
  | 11 => .array .boolean
  | 12 => .array .int
  | 13 => .array .int
  | 14 => .array .int
  | 15 => .array .int
  | 16 => .array .int
  | 17 => .int
  | 18 => .int
  | 19 => .int
  | _ => .int
set_option maxRecDepth 20000 in
theorem n_Dr : ∀ a, a < 21 → ∀ b, b < 21 → a ≠ b → (F_Dr a).2.1 ≠ (F_Dr b).2.1 := by decide +kernel
set_option maxRecDepth 20000 in
theorem t_Dr_ok : ∀ k, k < 21 → parseFieldDescriptor (F_Dr k).2.2.1 = some (t_Dr k) := by decide +kernel
def R_Em : String := "DrawingHouse$Embedder"
def F_Em : u_T := fun k => match k with
  | 0 => ("DrawingHouse$Embedder", "net", "LDrawingHouse$Net;", false)
  | 1 => ("DrawingHouse$Embedder", "probe", "LDrawingHouse$Net;", true)
  | 2 => ("DrawingHouse$Embedder", "block", "[I", true)
  | 3 => ("DrawingHouse$Embedder", "drawn", "[Z", true)
  | 4 => ("DrawingHouse$Embedder", "kept", "[Z", true)
  | 5 => ("DrawingHouse$Embedder", "blockNodes", "I", false)
  | 6 => ("DrawingHouse$Embedder", "drawnNodes", "I", false)
  | 7 => ("DrawingHouse$Embedder", "cycles", "I", false)
  | 8 => ("DrawingHouse$Embedder", "cycle", "[I", true)
  | 9 => ("DrawingHouse$Embedder", "cycleLength", "[I", true)
  | 10 => ("DrawingHouse$Embedder", "cycleNodes", "[I", true)
  | 11 => ("DrawingHouse$Embedder", "fresh", "[I", true)
  | 12 => ("DrawingHouse$Embedder", "after", "[I", true)
  | 13 => ("DrawingHouse$Embedder", "level", "[I", true)
  | 14 => ("DrawingHouse$Embedder", "way", "[I", true)
  | 15 => ("DrawingHouse$Embedder", "wayLength", "I", false)
  | 16 => ("DrawingHouse$Embedder", "pieceNodes", "I", false)
  | 17 => ("DrawingHouse$Embedder", "pieceEnds", "I", false)
  | 18 => ("DrawingHouse$Embedder", "pieceCycle", "I", false)
  | _ => ("DrawingHouse$Embedder", "around", "[I", true)
def t_Em : Nat → FieldType := fun k => match k with
  | 0 => .object "DrawingHouse$Net"
  | 1 => .object "DrawingHouse$Net"
  | 2 => .array .int
  | 3 => .array .boolean
  | 4 => .array .boolean
  | 5 => .int
  | 6 => .int
  | 7 => .int
  | 8 => .array .int
  | 9 => .array .int
  | 10 => .array .int
  | 11 => .array .int
  | 12 => .array .int
  | 13 => .array .int
  | 14 => .array .int
  | 15 => .int
  | 16 => .int
  | 17 => .int
  | 18 => .int
  | _ => .array .int
set_option maxRecDepth 20000 in
theorem n_Em : ∀ a, a < 20 → ∀ b, b < 20 → a ≠ b → (F_Em a).2.1 ≠ (F_Em b).2.1 := by decide +kernel
set_option maxRecDepth 20000 in
theorem t_Em_ok : ∀ k, k < 20 → parseFieldDescriptor (F_Em k).2.2.1 = some (t_Em k) := by decide +kernel
def R_Fa : String := "DrawingHouse$Facts"
def F_Fa : u_T := fun k => match k with
  | 0 => ("DrawingHouse$Facts", "known", "Z", false)
  | 1 => ("DrawingHouse$Facts", "parts", "I", false)
  | 2 => ("DrawingHouse$Facts", "blocks", "I", false)
  | 3 => ("DrawingHouse$Facts", "strongs", "I", false)
  | 4 => ("DrawingHouse$Facts", "part", "[I", true)
  | 5 => ("DrawingHouse$Facts", "block", "[I", true)
  | 6 => ("DrawingHouse$Facts", "strong", "[I", true)
  | 7 => ("DrawingHouse$Facts", "core", "[I", true)
  | 8 => ("DrawingHouse$Facts", "blocksAt", "[I", true)
  | 9 => ("DrawingHouse$Facts", "turned", "[Z", true)
  | 10 => ("DrawingHouse$Facts", "reach", "[I", true)
  | 11 => ("DrawingHouse$Facts", "loop", "[I", true)
  | 12 => ("DrawingHouse$Facts", "rank", "[I", true)
  | 13 => ("DrawingHouse$Facts", "member", "[I", true)
  | _ => ("DrawingHouse$Facts", "least", "[I", true)
def t_Fa : Nat → FieldType := fun k => match k with
  | 0 => .boolean
  | 1 => .int
  | 2 => .int
  | 3 => .int
  | 4 => .array .int
  | 5 => .array .int
  | 6 => .array .int
  | 7 => .array .int
  | 8 => .array .int
  | 9 => .array .boolean
  | 10 => .array .int
  | 11 => .array .int
  | 12 => .array .int
  | 13 => .array .int
  | _ => .array .int
set_option maxRecDepth 20000 in
theorem n_Fa : ∀ a, a < 15 → ∀ b, b < 15 → a ≠ b → (F_Fa a).2.1 ≠ (F_Fa b).2.1 := by decide +kernel
set_option maxRecDepth 20000 in
theorem t_Fa_ok : ∀ k, k < 15 → parseFieldDescriptor (F_Fa k).2.2.1 = some (t_Fa k) := by decide +kernel
def R_Gr : String := "DrawingHouse$Graph"
def F_Gr : u_T := fun k => match k with
  | 0 => ("DrawingHouse$Graph", "nodes", "I", false)
  | 1 => ("DrawingHouse$Graph", "edges", "I", false)
  | 2 => ("DrawingHouse$Graph", "groups", "I", false)
  | 3 => ("DrawingHouse$Graph", "name", "[B", true)
  | 4 => ("DrawingHouse$Graph", "nameLength", "[I", true)
  | 5 => ("DrawingHouse$Graph", "size", "[I", true)
  | 6 => ("DrawingHouse$Graph", "groupOf", "[I", true)
  | 7 => ("DrawingHouse$Graph", "tail", "[I", true)
  | 8 => ("DrawingHouse$Graph", "head", "[I", true)
  | 9 => ("DrawingHouse$Graph", "weight", "[I", true)
  | 10 => ("DrawingHouse$Graph", "oneWay", "[I", true)
  | 11 => ("DrawingHouse$Graph", "within", "[I", true)
  | 12 => ("DrawingHouse$Graph", "groupName", "[B", true)
  | 13 => ("DrawingHouse$Graph", "groupNameLength", "[I", true)
  | 14 => ("DrawingHouse$Graph", "near", "[I", true)
  | 15 => ("DrawingHouse$Graph", "link", "[I", true)
  | 16 => ("DrawingHouse$Graph", "past", "[I", false)
  | 17 => ("DrawingHouse$Graph", "done", "I", false)
  | _ => ("DrawingHouse$Graph", "undone", "I", false)
def t_Gr : Nat → FieldType := fun k => match k with
  | 0 => .int
  | 1 => .int
  | 2 => .int
  | 3 => .array .byte
  | 4 => .array .int
  | 5 => .array .int
  | 6 => .array .int
  | 7 => .array .int
  | 8 => .array .int
  | 9 => .array .int
  | 10 => .array .int
  | 11 => .array .int
  | 12 => .array .byte
  | 13 => .array .int
  | 14 => .array .int
  | 15 => .array .int
  | 16 => .array .int
  | 17 => .int
  | _ => .int
set_option maxRecDepth 20000 in
theorem n_Gr : ∀ a, a < 19 → ∀ b, b < 19 → a ≠ b → (F_Gr a).2.1 ≠ (F_Gr b).2.1 := by decide +kernel
set_option maxRecDepth 20000 in
theorem t_Gr_ok : ∀ k, k < 19 → parseFieldDescriptor (F_Gr k).2.2.1 = some (t_Gr k) := by decide +kernel
def R_La : String := "DrawingHouse$Layers"
def F_La : u_T := fun k => match k with
  | 0 => ("DrawingHouse$Layers", "stretch", "LDrawingHouse$Stretch;", true)
  | 1 => ("DrawingHouse$Layers", "graph", "LDrawingHouse$Graph;", false)
  | 2 => ("DrawingHouse$Layers", "layerCount", "I", false)
  | 3 => ("DrawingHouse$Layers", "items", "I", false)
  | 4 => ("DrawingHouse$Layers", "layerOf", "[I", true)
  | 5 => ("DrawingHouse$Layers", "firstJoint", "[I", true)
  | 6 => ("DrawingHouse$Layers", "pieceUpper", "[I", true)
  | 7 => ("DrawingHouse$Layers", "pieceLower", "[I", true)
  | 8 => ("DrawingHouse$Layers", "pieceWeight", "[I", true)
  | 9 => ("DrawingHouse$Layers", "pieceStart", "[I", true)
  | 10 => ("DrawingHouse$Layers", "layerStart", "[I", true)
  | 11 => ("DrawingHouse$Layers", "listed", "[I", true)
  | 12 => ("DrawingHouse$Layers", "slot", "[I", true)
  | 13 => ("DrawingHouse$Layers", "row", "[I", true)
  | 14 => ("DrawingHouse$Layers", "place", "[I", true)
  | 15 => ("DrawingHouse$Layers", "sum", "[I", true)
  | 16 => ("DrawingHouse$Layers", "joined", "[I", true)
  | 17 => ("DrawingHouse$Layers", "orders", "[I", true)
  | 18 => ("DrawingHouse$Layers", "least", "[I", true)
  | 19 => ("DrawingHouse$Layers", "low", "[I", true)
  | _ => ("DrawingHouse$Layers", "pair", "[I", true)
def t_La : Nat → FieldType := fun k => match k with
  | 0 => .object "DrawingHouse$Stretch"
  | 1 => .object "DrawingHouse$Graph"
  | 2 => .int
  | 3 => .int
  | 4 => .array .int
  | 5 => .array .int
  | 6 => .array .int
  | 7 => .array .int
  | 8 => .array .int
  | 9 => .array .int
  | 10 => .array .int
  | 11 => .array .int
  | 12 => .array .int
  | 13 => .array .int
  | 14 => .array .int
  | 15 => .array .int
  | 16 => .array .int
  | 17 => .array .int
  | 18 => .array .int
  | 19 => .array .int
  | _ => .array .int
set_option maxRecDepth 20000 in
theorem n_La : ∀ a, a < 21 → ∀ b, b < 21 → a ≠ b → (F_La a).2.1 ≠ (F_La b).2.1 := by decide +kernel
set_option maxRecDepth 20000 in
theorem t_La_ok : ∀ k, k < 21 → parseFieldDescriptor (F_La k).2.2.1 = some (t_La k) := by decide +kernel
def R_Ne : String := "DrawingHouse$Net"
def F_Ne : u_T := fun k => match k with
  | 0 => ("DrawingHouse$Net", "planar", "I", false)
  | 1 => ("DrawingHouse$Net", "outer", "I", false)
  | 2 => ("DrawingHouse$Net", "kind", "I", false)
  | 3 => ("DrawingHouse$Net", "barredEdges", "I", false)
  | 4 => ("DrawingHouse$Net", "barred", "[I", true)
  | 5 => ("DrawingHouse$Net", "nodes", "I", false)
  | 6 => ("DrawingHouse$Net", "edges", "I", false)
  | 7 => ("DrawingHouse$Net", "tail", "[I", true)
  | 8 => ("DrawingHouse$Net", "head", "[I", true)
  | 9 => ("DrawingHouse$Net", "near", "[I", true)
  | 10 => ("DrawingHouse$Net", "link", "[I", true)
  | 11 => ("DrawingHouse$Net", "behind", "[I", true)
  | 12 => ("DrawingHouse$Net", "first", "[I", true)
  | 13 => ("DrawingHouse$Net", "faces", "I", false)
  | 14 => ("DrawingHouse$Net", "rowStart", "[I", true)
  | 15 => ("DrawingHouse$Net", "rowNode", "[I", true)
  | _ => ("DrawingHouse$Net", "faceOf", "[I", true)
def t_Ne : Nat → FieldType := fun k => match k with
  | 0 => .int
  | 1 => .int
  | 2 => .int
  | 3 => .int
  | 4 => .array .int
  | 5 => .int
  | 6 => .int
  | 7 => .array .int
  | 8 => .array .int
  | 9 => .array .int
  | 10 => .array .int
  | 11 => .array .int
  | 12 => .array .int
  | 13 => .int
  | 14 => .array .int
  | 15 => .array .int
  | _ => .array .int
set_option maxRecDepth 20000 in
theorem n_Ne : ∀ a, a < 17 → ∀ b, b < 17 → a ≠ b → (F_Ne a).2.1 ≠ (F_Ne b).2.1 := by decide +kernel
set_option maxRecDepth 20000 in
theorem t_Ne_ok : ∀ k, k < 17 → parseFieldDescriptor (F_Ne k).2.2.1 = some (t_Ne k) := by decide +kernel
def R_Pl : String := "DrawingHouse$PlainWays"
def F_Pl : u_T := fun k => match k with
  | 0 => ("DrawingHouse$PlainWays", "graph", "LDrawingHouse$Graph;", false)
  | 1 => ("DrawingHouse$PlainWays", "drawing", "LDrawingHouse$Drawing;", false)
  | 2 => ("DrawingHouse$PlainWays", "order", "[I", true)
  | 3 => ("DrawingHouse$PlainWays", "best", "[I", true)
  | 4 => ("DrawingHouse$PlainWays", "level", "[I", true)
  | 5 => ("DrawingHouse$PlainWays", "parent", "[I", true)
  | 6 => ("DrawingHouse$PlainWays", "under", "[I", true)
  | 7 => ("DrawingHouse$PlainWays", "kids", "[I", true)
  | 8 => ("DrawingHouse$PlainWays", "fewest", "I", false)
  | 9 => ("DrawingHouse$PlainWays", "item", "[I", true)
  | 10 => ("DrawingHouse$PlainWays", "itemSize", "[I", true)
  | 11 => ("DrawingHouse$PlainWays", "items", "I", false)
  | 12 => ("DrawingHouse$PlainWays", "space", "[I", true)
  | 13 => ("DrawingHouse$PlainWays", "shapeLong", "J", false)
  | 14 => ("DrawingHouse$PlainWays", "shapeShort", "J", false)
  | 15 => ("DrawingHouse$PlainWays", "placeX", "[J", true)
  | 16 => ("DrawingHouse$PlainWays", "placeY", "[J", true)
  | 17 => ("DrawingHouse$PlainWays", "pullX", "[J", true)
  | _ => ("DrawingHouse$PlainWays", "pullY", "[J", true)
def t_Pl : Nat → FieldType := fun k => match k with
  | 0 => .object "DrawingHouse$Graph"
  | 1 => .object "DrawingHouse$Drawing"
  | 2 => .array .int
  | 3 => .array .int
  | 4 => .array .int
  | 5 => .array .int
  | 6 => .array .int
  | 7 => .array .int
  | 8 => .int
  | 9 => .array .int
  | 10 => .array .int
  | 11 => .int
  | 12 => .array .int
  | 13 => .long
  | 14 => .long
  | 15 => .array .long
  | 16 => .array .long
  | 17 => .array .long
  | _ => .array .long
set_option maxRecDepth 20000 in
theorem n_Pl : ∀ a, a < 19 → ∀ b, b < 19 → a ≠ b → (F_Pl a).2.1 ≠ (F_Pl b).2.1 := by decide +kernel
set_option maxRecDepth 20000 in
theorem t_Pl_ok : ∀ k, k < 19 → parseFieldDescriptor (F_Pl k).2.2.1 = some (t_Pl k) := by decide +kernel
def R_Pn : String := "DrawingHouse$PlanarWays"
def F_Pn : u_T := fun k => match k with
  | 0 => ("DrawingHouse$PlanarWays", "net", "LDrawingHouse$Net;", true)
  | 1 => ("DrawingHouse$PlanarWays", "order", "[I", true)
  | 2 => ("DrawingHouse$PlanarWays", "line", "[I", true)
  | 3 => ("DrawingHouse$PlanarWays", "lineLength", "I", false)
  | 4 => ("DrawingHouse$PlanarWays", "under", "[I", true)
  | 5 => ("DrawingHouse$PlanarWays", "level", "[I", true)
  | 6 => ("DrawingHouse$PlanarWays", "way", "[I", true)
  | 7 => ("DrawingHouse$PlanarWays", "faceX", "[I", true)
  | _ => ("DrawingHouse$PlanarWays", "edgeX", "[I", true)
def t_Pn : Nat → FieldType := fun k => match k with
  | 0 => .object "DrawingHouse$Net"
  | 1 => .array .int
  | 2 => .array .int
  | 3 => .int
  | 4 => .array .int
  | 5 => .array .int
  | 6 => .array .int
  | 7 => .array .int
  | _ => .array .int
set_option maxRecDepth 20000 in
theorem n_Pn : ∀ a, a < 9 → ∀ b, b < 9 → a ≠ b → (F_Pn a).2.1 ≠ (F_Pn b).2.1 := by decide +kernel
set_option maxRecDepth 20000 in
theorem t_Pn_ok : ∀ k, k < 9 → parseFieldDescriptor (F_Pn k).2.2.1 = some (t_Pn k) := by decide +kernel
def R_Re : String := "DrawingHouse$Reader"
def F_Re : u_T := fun k => match k with
  | 0 => ("DrawingHouse$Reader", "tape", "[B", true)
  | 1 => ("DrawingHouse$Reader", "length", "I", false)
  | 2 => ("DrawingHouse$Reader", "fault", "I", false)
  | 3 => ("DrawingHouse$Reader", "faultPlace", "I", false)
  | 4 => ("DrawingHouse$Reader", "graph", "LDrawingHouse$Graph;", true)
  | 5 => ("DrawingHouse$Reader", "end", "I", false)
  | 6 => ("DrawingHouse$Reader", "next", "I", false)
  | 7 => ("DrawingHouse$Reader", "kind", "I", false)
  | 8 => ("DrawingHouse$Reader", "begin", "I", false)
  | 9 => ("DrawingHouse$Reader", "number", "I", false)
  | 10 => ("DrawingHouse$Reader", "open", "[I", true)
  | _ => ("DrawingHouse$Reader", "depth", "I", false)
def t_Re : Nat → FieldType := fun k => match k with
  | 0 => .array .byte
  | 1 => .int
  | 2 => .int
  | 3 => .int
  | 4 => .object "DrawingHouse$Graph"
  | 5 => .int
  | 6 => .int
  | 7 => .int
  | 8 => .int
  | 9 => .int
  | 10 => .array .int
  | _ => .int
set_option maxRecDepth 20000 in
theorem n_Re : ∀ a, a < 12 → ∀ b, b < 12 → a ≠ b → (F_Re a).2.1 ≠ (F_Re b).2.1 := by decide +kernel
set_option maxRecDepth 20000 in
theorem t_Re_ok : ∀ k, k < 12 → parseFieldDescriptor (F_Re k).2.2.1 = some (t_Re k) := by decide +kernel
def R_Ro : String := "DrawingHouse$Router"
def F_Ro : u_T := fun k => match k with
  | 0 => ("DrawingHouse$Router", "graph", "LDrawingHouse$Graph;", false)
  | 1 => ("DrawingHouse$Router", "drawing", "LDrawingHouse$Drawing;", false)
  | 2 => ("DrawingHouse$Router", "left", "I", false)
  | 3 => ("DrawingHouse$Router", "top", "I", false)
  | 4 => ("DrawingHouse$Router", "width", "I", false)
  | 5 => ("DrawingHouse$Router", "height", "I", false)
  | 6 => ("DrawingHouse$Router", "start", "I", false)
  | 7 => ("DrawingHouse$Router", "goal", "I", false)
  | 8 => ("DrawingHouse$Router", "whole", "I", false)
  | 9 => ("DrawingHouse$Router", "barred", "[Z", true)
  | 10 => ("DrawingHouse$Router", "cost", "[I", true)
  | 11 => ("DrawingHouse$Router", "list", "[I", true)
  | 12 => ("DrawingHouse$Router", "entryState", "[I", true)
  | 13 => ("DrawingHouse$Router", "entryNext", "[I", true)
  | 14 => ("DrawingHouse$Router", "entries", "I", false)
  | 15 => ("DrawingHouse$Router", "turnX", "[I", true)
  | 16 => ("DrawingHouse$Router", "turnY", "[I", true)
  | _ => ("DrawingHouse$Router", "turns", "I", false)
def t_Ro : Nat → FieldType := fun k => match k with
  | 0 => .object "DrawingHouse$Graph"
  | 1 => .object "DrawingHouse$Drawing"
  | 2 => .int
  | 3 => .int
  | 4 => .int
  | 5 => .int
  | 6 => .int
  | 7 => .int
  | 8 => .int
  | 9 => .array .boolean
  | 10 => .array .int
  | 11 => .array .int
  | 12 => .array .int
  | 13 => .array .int
  | 14 => .int
  | 15 => .array .int
  | 16 => .array .int
  | _ => .int
set_option maxRecDepth 20000 in
theorem n_Ro : ∀ a, a < 18 → ∀ b, b < 18 → a ≠ b → (F_Ro a).2.1 ≠ (F_Ro b).2.1 := by decide +kernel
set_option maxRecDepth 20000 in
theorem t_Ro_ok : ∀ k, k < 18 → parseFieldDescriptor (F_Ro k).2.2.1 = some (t_Ro k) := by decide +kernel
def R_St : String := "DrawingHouse$Stretch"
def F_St : u_T := fun k => match k with
  | 0 => ("DrawingHouse$Stretch", "nodes", "I", false)
  | 1 => ("DrawingHouse$Stretch", "arcs", "I", false)
  | 2 => ("DrawingHouse$Stretch", "from", "[I", true)
  | 3 => ("DrawingHouse$Stretch", "to", "[I", true)
  | 4 => ("DrawingHouse$Stretch", "room", "[I", true)
  | 5 => ("DrawingHouse$Stretch", "gain", "[I", true)
  | 6 => ("DrawingHouse$Stretch", "place", "[I", true)
  | 7 => ("DrawingHouse$Stretch", "by", "[I", true)
  | _ => ("DrawingHouse$Stretch", "mark", "[I", true)
def t_St : Nat → FieldType := fun k => match k with
  | 0 => .int
  | 1 => .int
  | 2 => .array .int
  | 3 => .array .int
  | 4 => .array .int
  | 5 => .array .int
  | 6 => .array .int
  | 7 => .array .int
  | _ => .array .int
set_option maxRecDepth 20000 in
theorem n_St : ∀ a, a < 9 → ∀ b, b < 9 → a ≠ b → (F_St a).2.1 ≠ (F_St b).2.1 := by decide +kernel
set_option maxRecDepth 20000 in
theorem t_St_ok : ∀ k, k < 9 → parseFieldDescriptor (F_St k).2.2.1 = some (t_St k) := by decide +kernel
def R_Sy : String := "DrawingHouse$Styler"
def F_Sy : u_T := fun k => match k with
  | 0 => ("DrawingHouse$Styler", "rules", "I", false)
  | 1 => ("DrawingHouse$Styler", "fault", "I", false)
  | 2 => ("DrawingHouse$Styler", "faultPlace", "I", false)
  | 3 => ("DrawingHouse$Styler", "bytes", "[B", false)
  | 4 => ("DrawingHouse$Styler", "end", "I", false)
  | 5 => ("DrawingHouse$Styler", "next", "I", false)
  | 6 => ("DrawingHouse$Styler", "kind", "I", false)
  | 7 => ("DrawingHouse$Styler", "begin", "I", false)
  | 8 => ("DrawingHouse$Styler", "number", "I", false)
  | 9 => ("DrawingHouse$Styler", "words", "Ljava/lang/String;", false)
  | 10 => ("DrawingHouse$Styler", "code", "[I", true)
  | 11 => ("DrawingHouse$Styler", "codeLength", "I", false)
  | 12 => ("DrawingHouse$Styler", "ruleStart", "[I", true)
  | 13 => ("DrawingHouse$Styler", "ruleKind", "[I", true)
  | 14 => ("DrawingHouse$Styler", "stack", "[J", true)
  | 15 => ("DrawingHouse$Styler", "height", "I", false)
  | _ => ("DrawingHouse$Styler", "value", "[J", true)
def t_Sy : Nat → FieldType := fun k => match k with
  | 0 => .int
  | 1 => .int
  | 2 => .int
  | 3 => .array .byte
  | 4 => .int
  | 5 => .int
  | 6 => .int
  | 7 => .int
  | 8 => .int
  | 9 => .object "java/lang/String"
  | 10 => .array .int
  | 11 => .int
  | 12 => .array .int
  | 13 => .array .int
  | 14 => .array .long
  | 15 => .int
  | _ => .array .long
set_option maxRecDepth 20000 in
theorem n_Sy : ∀ a, a < 17 → ∀ b, b < 17 → a ≠ b → (F_Sy a).2.1 ≠ (F_Sy b).2.1 := by decide +kernel
set_option maxRecDepth 20000 in
theorem t_Sy_ok : ∀ k, k < 17 → parseFieldDescriptor (F_Sy k).2.2.1 = some (t_Sy k) := by decide +kernel
def R_Ho : String := "DrawingHouse"
def F_Ho : u_T := fun k => match k with
  | 0 => ("DrawingHouse", "graphs", "[LDrawingHouse$Graph;", true)
  | 1 => ("DrawingHouse", "facts", "[LDrawingHouse$Facts;", true)
  | 2 => ("DrawingHouse", "nets", "[LDrawingHouse$Net;", true)
  | 3 => ("DrawingHouse", "drawings", "[LDrawingHouse$Drawing;", true)
  | 4 => ("DrawingHouse", "reader", "LDrawingHouse$Reader;", true)
  | 5 => ("DrawingHouse", "embedder", "LDrawingHouse$Embedder;", true)
  | 6 => ("DrawingHouse", "became", "[I", true)
  | 7 => ("DrawingHouse", "becameNodes", "I", false)
  | 8 => ("DrawingHouse", "steps", "I", false)
  | 9 => ("DrawingHouse", "written", "[B", false)
  | 10 => ("DrawingHouse", "spare", "[B", false)
  | 11 => ("DrawingHouse", "writtenLength", "I", false)
  | 12 => ("DrawingHouse", "spareLength", "I", false)
  | 13 => ("DrawingHouse", "plane", "[I", true)
  | 14 => ("DrawingHouse", "planeWidth", "I", false)
  | 15 => ("DrawingHouse", "planeHeight", "I", false)
  | 16 => ("DrawingHouse", "styler", "LDrawingHouse$Styler;", false)
  | 17 => ("DrawingHouse", "layers", "LDrawingHouse$Layers;", false)
  | 18 => ("DrawingHouse", "planarWays", "LDrawingHouse$PlanarWays;", false)
  | 19 => ("DrawingHouse", "plainWays", "LDrawingHouse$PlainWays;", false)
  | _ => ("DrawingHouse", "router", "LDrawingHouse$Router;", false)
def t_Ho : Nat → FieldType := fun k => match k with
  | 0 => .array (.object "DrawingHouse$Graph")
  | 1 => .array (.object "DrawingHouse$Facts")
  | 2 => .array (.object "DrawingHouse$Net")
  | 3 => .array (.object "DrawingHouse$Drawing")
  | 4 => .object "DrawingHouse$Reader"
  | 5 => .object "DrawingHouse$Embedder"
  | 6 => .array .int
  | 7 => .int
  | 8 => .int
  | 9 => .array .byte
  | 10 => .array .byte
  | 11 => .int
  | 12 => .int
  | 13 => .array .int
  | 14 => .int
  | 15 => .int
  | 16 => .object "DrawingHouse$Styler"
  | 17 => .object "DrawingHouse$Layers"
  | 18 => .object "DrawingHouse$PlanarWays"
  | 19 => .object "DrawingHouse$PlainWays"
  | _ => .object "DrawingHouse$Router"
set_option maxRecDepth 20000 in
theorem n_Ho : ∀ a, a < 21 → ∀ b, b < 21 → a ≠ b → (F_Ho a).2.1 ≠ (F_Ho b).2.1 := by decide +kernel
set_option maxRecDepth 20000 in
theorem t_Ho_ok : ∀ k, k < 21 → parseFieldDescriptor (F_Ho k).2.2.1 = some (t_Ho k) := by decide +kernel
def R_Mo : String := "DrawingHouseModel"
def F_Mo : u_T := fun k => match k with
  | 0 => ("DrawingHouseModel", "taped", "I", false)
  | 1 => ("DrawingHouseModel", "tape", "[B", true)
  | 2 => ("DrawingHouseModel", "all", "[I", true)
  | 3 => ("DrawingHouseModel", "now", "[I", true)
  | 4 => ("DrawingHouseModel", "latest", "[I", true)
  | 5 => ("DrawingHouseModel", "\x72", "I", false)
  | 6 => ("DrawingHouseModel", "fresh", "[I", true)
  | 7 => ("DrawingHouseModel", "isTold", "Z", false)
  | 8 => ("DrawingHouseModel", "fault", "I", false)
  | 9 => ("DrawingHouseModel", "faultPlace", "I", false)
  | 10 => ("DrawingHouseModel", "limit", "I", false)
  | 11 => ("DrawingHouseModel", "pos", "I", false)
  | 12 => ("DrawingHouseModel", "kind", "I", false)
  | 13 => ("DrawingHouseModel", "place", "I", false)
  | 14 => ("DrawingHouseModel", "value", "I", false)
  | 15 => ("DrawingHouseModel", "from", "I", false)
  | 16 => ("DrawingHouseModel", "partOf", "[I", true)
  | 17 => ("DrawingHouseModel", "blockOf", "[I", true)
  | 18 => ("DrawingHouseModel", "strongOf", "[I", true)
  | 19 => ("DrawingHouseModel", "farOf", "[I", true)
  | 20 => ("DrawingHouseModel", "line", "[I", true)
  | 21 => ("DrawingHouseModel", "reach", "[Z", true)
  | 22 => ("DrawingHouseModel", "left", "[Z", true)
  | 23 => ("DrawingHouseModel", "map", "[I", true)
  | 24 => ("DrawingHouseModel", "mapTried", "[I", true)
  | 25 => ("DrawingHouseModel", "isMapped", "Z", false)
  | 26 => ("DrawingHouseModel", "mapNodes", "I", false)
  | 27 => ("DrawingHouseModel", "steps", "I", false)
  | 28 => ("DrawingHouseModel", "rowA", "I", false)
  | 29 => ("DrawingHouseModel", "rowB", "I", false)
  | 30 => ("DrawingHouseModel", "hasSteps", "Z", false)
  | 31 => ("DrawingHouseModel", "pn", "I", false)
  | 32 => ("DrawingHouseModel", "pm", "I", false)
  | 33 => ("DrawingHouseModel", "pt", "[I", true)
  | 34 => ("DrawingHouseModel", "ph", "[I", true)
  | 35 => ("DrawingHouseModel", "alive", "[Z", true)
  | 36 => ("DrawingHouseModel", "rotMany", "[I", true)
  | 37 => ("DrawingHouseModel", "rot", "[I", true)
  | 38 => ("DrawingHouseModel", "seen", "[Z", true)
  | 39 => ("DrawingHouseModel", "faces", "I", false)
  | 40 => ("DrawingHouseModel", "faceMany", "[I", true)
  | 41 => ("DrawingHouseModel", "face", "[I", true)
  | 42 => ("DrawingHouseModel", "drawnNode", "[Z", true)
  | 43 => ("DrawingHouseModel", "drawnEdge", "[Z", true)
  | 44 => ("DrawingHouseModel", "pieceOf", "[I", true)
  | 45 => ("DrawingHouseModel", "wayMany", "I", false)
  | 46 => ("DrawingHouseModel", "way", "[I", true)
  | 47 => ("DrawingHouseModel", "goal", "I", false)
  | 48 => ("DrawingHouseModel", "toGoal", "[I", true)
  | 49 => ("DrawingHouseModel", "onlyPiece", "I", false)
  | 50 => ("DrawingHouseModel", "ends", "[I", true)
  | 51 => ("DrawingHouseModel", "faceNodes", "[I", true)
  | 52 => ("DrawingHouseModel", "bestWay", "[I", true)
  | 53 => ("DrawingHouseModel", "rounds", "I", false)
  | 54 => ("DrawingHouseModel", "roundOf", "[I", true)
  | 55 => ("DrawingHouseModel", "dartAt", "[I", true)
  | 56 => ("DrawingHouseModel", "roundBegin", "[I", true)
  | 57 => ("DrawingHouseModel", "roundDart", "[I", true)
  | 58 => ("DrawingHouseModel", "barredMany", "I", false)
  | 59 => ("DrawingHouseModel", "barredKind", "I", false)
  | 60 => ("DrawingHouseModel", "barred", "[I", true)
  | 61 => ("DrawingHouseModel", "drawn", "[I", true)
  | 62 => ("DrawingHouseModel", "nodeX", "[I", true)
  | 63 => ("DrawingHouseModel", "nodeY", "[I", true)
  | 64 => ("DrawingHouseModel", "bendMany", "[I", true)
  | 65 => ("DrawingHouseModel", "bendX", "[I", true)
  | 66 => ("DrawingHouseModel", "bendY", "[I", true)
  | 67 => ("DrawingHouseModel", "toldCross", "[I", true)
  | 68 => ("DrawingHouseModel", "toldSum", "[I", true)
  | 69 => ("DrawingHouseModel", "toldLayer", "[I", true)
  | 70 => ("DrawingHouseModel", "toldTurned", "[I", true)
  | 71 => ("DrawingHouseModel", "toldArea", "[I", true)
  | 72 => ("DrawingHouseModel", "toldGroup", "[I", true)
  | 73 => ("DrawingHouseModel", "shades", "[I", true)
  | 74 => ("DrawingHouseModel", "nx", "[I", true)
  | 75 => ("DrawingHouseModel", "ny", "[I", true)
  | 76 => ("DrawingHouseModel", "bm", "[I", true)
  | 77 => ("DrawingHouseModel", "bx", "[I", true)
  | 78 => ("DrawingHouseModel", "by", "[I", true)
  | 79 => ("DrawingHouseModel", "pointMany", "I", false)
  | 80 => ("DrawingHouseModel", "costMany", "I", false)
  | 81 => ("DrawingHouseModel", "apartMany", "I", false)
  | 82 => ("DrawingHouseModel", "spot", "[I", true)
  | 83 => ("DrawingHouseModel", "costA", "[I", true)
  | 84 => ("DrawingHouseModel", "costB", "[I", true)
  | 85 => ("DrawingHouseModel", "costW", "[I", true)
  | 86 => ("DrawingHouseModel", "costPlain", "[Z", true)
  | 87 => ("DrawingHouseModel", "apartA", "[I", true)
  | 88 => ("DrawingHouseModel", "apartB", "[I", true)
  | 89 => ("DrawingHouseModel", "apart", "[I", true)
  | 90 => ("DrawingHouseModel", "flow", "[I", true)
  | 91 => ("DrawingHouseModel", "cameBy", "[I", true)
  | 92 => ("DrawingHouseModel", "queue", "[I", true)
  | 93 => ("DrawingHouseModel", "goes", "[I", true)
  | 94 => ("DrawingHouseModel", "pushes", "I", false)
  | 95 => ("DrawingHouseModel", "turned", "[Z", true)
  | 96 => ("DrawingHouseModel", "order", "[I", true)
  | 97 => ("DrawingHouseModel", "best", "[I", true)
  | 98 => ("DrawingHouseModel", "member", "[I", true)
  | 99 => ("DrawingHouseModel", "members", "I", false)
  | 100 => ("DrawingHouseModel", "items", "I", false)
  | 101 => ("DrawingHouseModel", "layerMany", "I", false)
  | 102 => ("DrawingHouseModel", "itemLayer", "[I", true)
  | 103 => ("DrawingHouseModel", "itemEdge", "[I", true)
  | 104 => ("DrawingHouseModel", "firstJoint", "[I", true)
  | 105 => ("DrawingHouseModel", "layerSize", "[I", true)
  | 106 => ("DrawingHouseModel", "layerItem", "[I", true)
  | 107 => ("DrawingHouseModel", "lines", "I", false)
  | 108 => ("DrawingHouseModel", "lineA", "[I", true)
  | 109 => ("DrawingHouseModel", "lineB", "[I", true)
  | 110 => ("DrawingHouseModel", "permBegin", "[I", true)
  | 111 => ("DrawingHouseModel", "permMany", "[I", true)
  | 112 => ("DrawingHouseModel", "perm", "[B", true)
  | 113 => ("DrawingHouseModel", "rest", "[I", true)
  | 114 => ("DrawingHouseModel", "worse", "[I", true)
  | 115 => ("DrawingHouseModel", "listed", "[I", true)
  | 116 => ("DrawingHouseModel", "inOrder", "[I", true)
  | 117 => ("DrawingHouseModel", "row", "[I", true)
  | 118 => ("DrawingHouseModel", "kept", "[I", true)
  | 119 => ("DrawingHouseModel", "meanA", "[J", true)
  | 120 => ("DrawingHouseModel", "meanB", "[J", true)
  | 121 => ("DrawingHouseModel", "upper", "I", false)
  | 122 => ("DrawingHouseModel", "upperNode", "[I", true)
  | 123 => ("DrawingHouseModel", "under", "[I", true)
  | 124 => ("DrawingHouseModel", "number", "[I", true)
  | 125 => ("DrawingHouseModel", "rowMany", "I", false)
  | 126 => ("DrawingHouseModel", "toldNumber", "[I", true)
  | 127 => ("DrawingHouseModel", "above", "[I", true)
  | 128 => ("DrawingHouseModel", "level", "[I", true)
  | 129 => ("DrawingHouseModel", "root", "[I", true)
  | 130 => ("DrawingHouseModel", "itemOf", "[I", true)
  | 131 => ("DrawingHouseModel", "itemSize", "[I", true)
  | 132 => ("DrawingHouseModel", "itemMany", "I", false)
  | 133 => ("DrawingHouseModel", "shapeA", "J", false)
  | 134 => ("DrawingHouseModel", "shapeB", "J", false)
  | 135 => ("DrawingHouseModel", "fx", "[J", true)
  | 136 => ("DrawingHouseModel", "fy", "[J", true)
  | 137 => ("DrawingHouseModel", "wx", "[J", true)
  | 138 => ("DrawingHouseModel", "wy", "[J", true)
  | 139 => ("DrawingHouseModel", "g0", "I", false)
  | 140 => ("DrawingHouseModel", "costOf", "[I", true)
  | 141 => ("DrawingHouseModel", "bucket", "[I", true)
  | 142 => ("DrawingHouseModel", "bucketMany", "[I", true)
  | 143 => ("DrawingHouseModel", "barredPoint", "[Z", true)
  | 144 => ("DrawingHouseModel", "left0", "I", false)
  | 145 => ("DrawingHouseModel", "top0", "I", false)
  | 146 => ("DrawingHouseModel", "wide", "I", false)
  | 147 => ("DrawingHouseModel", "tall", "I", false)
  | 148 => ("DrawingHouseModel", "turnX", "[I", true)
  | 149 => ("DrawingHouseModel", "turnY", "[I", true)
  | 150 => ("DrawingHouseModel", "labels", "I", false)
  | 151 => ("DrawingHouseModel", "labelX", "[I", true)
  | 152 => ("DrawingHouseModel", "labelY", "[I", true)
  | 153 => ("DrawingHouseModel", "leastX", "I", false)
  | 154 => ("DrawingHouseModel", "mostX", "I", false)
  | 155 => ("DrawingHouseModel", "leastY", "I", false)
  | 156 => ("DrawingHouseModel", "mostY", "I", false)
  | 157 => ("DrawingHouseModel", "tokens", "I", false)
  | 158 => ("DrawingHouseModel", "cur", "I", false)
  | 159 => ("DrawingHouseModel", "opened", "I", false)
  | 160 => ("DrawingHouseModel", "tokenKind", "[I", true)
  | 161 => ("DrawingHouseModel", "tokenValue", "[J", true)
  | 162 => ("DrawingHouseModel", "tokenPlace", "[I", true)
  | 163 => ("DrawingHouseModel", "tokenEnd", "[I", true)
  | 164 => ("DrawingHouseModel", "styleKind", "I", false)
  | 165 => ("DrawingHouseModel", "styleOne", "I", false)
  | 166 => ("DrawingHouseModel", "partOfBlocks", "[I", true)
  | 167 => ("DrawingHouseModel", "coreOf", "[I", true)
  | 168 => ("DrawingHouseModel", "turnedNow", "[Z", true)
  | 169 => ("DrawingHouseModel", "octets", "I", false)
  | 170 => ("DrawingHouseModel", "texts", "I", false)
  | 171 => ("DrawingHouseModel", "octet", "[B", true)
  | 172 => ("DrawingHouseModel", "written", "[B", true)
  | 173 => ("DrawingHouseModel", "dotWide", "I", false)
  | 174 => ("DrawingHouseModel", "dotTall", "I", false)
  | _ => ("DrawingHouseModel", "dots", "[I", true)
def t_Mo : Nat → FieldType := fun k => match k with
  | 0 => .int
  | 1 => .array .byte
  | 2 => .array .int
  | 3 => .array .int
  | 4 => .array .int
  | 5 => .int
  | 6 => .array .int
  | 7 => .boolean
  | 8 => .int
  | 9 => .int
  | 10 => .int
  | 11 => .int
  | 12 => .int
  | 13 => .int
  | 14 => .int
  | 15 => .int
  | 16 => .array .int
  | 17 => .array .int
  | 18 => .array .int
  | 19 => .array .int
  | 20 => .array .int
  | 21 => .array .boolean
  | 22 => .array .boolean
  | 23 => .array .int
  | 24 => .array .int
  | 25 => .boolean
  | 26 => .int
  | 27 => .int
  | 28 => .int
  | 29 => .int
  | 30 => .boolean
  | 31 => .int
  | 32 => .int
  | 33 => .array .int
  | 34 => .array .int
  | 35 => .array .boolean
  | 36 => .array .int
  | 37 => .array .int
  | 38 => .array .boolean
  | 39 => .int
  | 40 => .array .int
  | 41 => .array .int
  | 42 => .array .boolean
  | 43 => .array .boolean
  | 44 => .array .int
  | 45 => .int
  | 46 => .array .int
  | 47 => .int
  | 48 => .array .int
  | 49 => .int
  | 50 => .array .int
  | 51 => .array .int
  | 52 => .array .int
  | 53 => .int
  | 54 => .array .int
  | 55 => .array .int
  | 56 => .array .int
  | 57 => .array .int
  | 58 => .int
  | 59 => .int
  | 60 => .array .int
  | 61 => .array .int
  | 62 => .array .int
  | 63 => .array .int
  | 64 => .array .int
  | 65 => .array .int
  | 66 => .array .int
  | 67 => .array .int
  | 68 => .array .int
  | 69 => .array .int
  | 70 => .array .int
  | 71 => .array .int
  | 72 => .array .int
  | 73 => .array .int
  | 74 => .array .int
  | 75 => .array .int
  | 76 => .array .int
  | 77 => .array .int
  | 78 => .array .int
  | 79 => .int
  | 80 => .int
  | 81 => .int
  | 82 => .array .int
  | 83 => .array .int
  | 84 => .array .int
  | 85 => .array .int
  | 86 => .array .boolean
  | 87 => .array .int
  | 88 => .array .int
  | 89 => .array .int
  | 90 => .array .int
  | 91 => .array .int
  | 92 => .array .int
  | 93 => .array .int
  | 94 => .int
  | 95 => .array .boolean
  | 96 => .array .int
  | 97 => .array .int
  | 98 => .array .int
  | 99 => .int
  | 100 => .int
  | 101 => .int
  | 102 => .array .int
  | 103 => .array .int
  | 104 => .array .int
  | 105 => .array .int
  | 106 => .array .int
  | 107 => .int
  | 108 => .array .int
  | 109 => .array .int
  | 110 => .array .int
  | 111 => .array .int
  | 112 => .array .byte
  | 113 => .array .int
  | 114 => .array .int
  | 115 => .array .int
  | 116 => .array .int
  | 117 => .array .int
  | 118 => .array .int
  | 119 => .array .long
  | 120 => .array .long
  | 121 => .int
  | 122 => .array .int
  | 123 => .array .int
  | 124 => .array .int
  | 125 => .int
  | 126 => .array .int
  | 127 => .array .int
  | 128 => .array .int
  | 129 => .array .int
  | 130 => .array .int
  | 131 => .array .int
  | 132 => .int
  | 133 => .long
  | 134 => .long
  | 135 => .array .long
  | 136 => .array .long
  | 137 => .array .long
  | 138 => .array .long
  | 139 => .int
  | 140 => .array .int
  | 141 => .array .int
  | 142 => .array .int
  | 143 => .array .boolean
  | 144 => .int
  | 145 => .int
  | 146 => .int
  | 147 => .int
  | 148 => .array .int
  | 149 => .array .int
  | 150 => .int
  | 151 => .array .int
  | 152 => .array .int
  | 153 => .int
  | 154 => .int
  | 155 => .int
  | 156 => .int
  | 157 => .int
  | 158 => .int
  | 159 => .int
  | 160 => .array .int
  | 161 => .array .long
  | 162 => .array .int
  | 163 => .array .int
  | 164 => .int
  | 165 => .int
  | 166 => .array .int
  | 167 => .array .int
  | 168 => .array .boolean
  | 169 => .int
  | 170 => .int
  | 171 => .array .byte
  | 172 => .array .byte
  | 173 => .int
  | 174 => .int
  | _ => .array .int
set_option maxRecDepth 20000 in
theorem n_Mo : ∀ a, a < 176 → ∀ b, b < 176 → a ≠ b → (F_Mo a).2.1 ≠ (F_Mo b).2.1 := by decide +kernel
set_option maxRecDepth 20000 in
theorem t_Mo_ok : ∀ k, k < 176 → parseFieldDescriptor (F_Mo k).2.2.1 = some (t_Mo k) := by decide +kernel
abbrev classes : List vw_C := [(R_Dr, F_Dr, 21), (R_Em, F_Em, 20), (R_Fa, F_Fa, 15), (R_Gr, F_Gr, 19), (R_La, F_La, 21), (R_Ne, F_Ne, 17), (R_Pl, F_Pl, 19), (R_Pn, F_Pn, 9), (R_Re, F_Re, 12), (R_Ro, F_Ro, 18), (R_St, F_St, 9), (R_Sy, F_Sy, 17), (R_Ho, F_Ho, 21), (R_Mo, F_Mo, 176)]
def TY (kA : Nat → ClassId) : List (ClassId × FieldType) := [(kA 0, .int), (kA 1, .byte), (kA 2, .boolean), (kA 3, .long), (kA 4, .object "DrawingHouse$Graph"), (kA 5, .object "DrawingHouse$Facts"), (kA 6, .object "DrawingHouse$Net"), (kA 7, .object "DrawingHouse$Drawing")]
theorem wm_153 : (Cond.lays "DrawingHouse$Graph" "DrawingHouse$Graph" "nodes" "I" : Cond) ∈ lw_g := lw_gi (lw_c1 (List.mem_of_getElem? (i := 153) rfl)) rfl
theorem wm_155 : (Cond.lays "DrawingHouse$Graph" "DrawingHouse$Graph" "edges" "I" : Cond) ∈ lw_g := lw_gi (lw_c1 (List.mem_of_getElem? (i := 155) rfl)) rfl
theorem wm_157 : (Cond.lays "DrawingHouse$Graph" "DrawingHouse$Graph" "groups" "I" : Cond) ∈ lw_g := lw_gi (lw_c1 (List.mem_of_getElem? (i := 157) rfl)) rfl
theorem wm_159 : (Cond.laysFinal "DrawingHouse$Graph" "DrawingHouse$Graph" "name" "[B" : Cond) ∈ lw_g := lw_gi (lw_c1 (List.mem_of_getElem? (i := 159) rfl)) rfl
theorem wm_161 : (Cond.laysFinal "DrawingHouse$Graph" "DrawingHouse$Graph" "nameLength" "[I" : Cond) ∈ lw_g := lw_gi (lw_c1 (List.mem_of_getElem? (i := 161) rfl)) rfl
theorem wm_163 : (Cond.laysFinal "DrawingHouse$Graph" "DrawingHouse$Graph" "size" "[I" : Cond) ∈ lw_g := lw_gi (lw_c1 (List.mem_of_getElem? (i := 163) rfl)) rfl
theorem wm_165 : (Cond.laysFinal "DrawingHouse$Graph" "DrawingHouse$Graph" "groupOf" "[I" : Cond) ∈ lw_g := lw_gi (lw_c1 (List.mem_of_getElem? (i := 165) rfl)) rfl
theorem wm_167 : (Cond.laysFinal "DrawingHouse$Graph" "DrawingHouse$Graph" "tail" "[I" : Cond) ∈ lw_g := lw_gi (lw_c1 (List.mem_of_getElem? (i := 167) rfl)) rfl
theorem wm_169 : (Cond.laysFinal "DrawingHouse$Graph" "DrawingHouse$Graph" "head" "[I" : Cond) ∈ lw_g := lw_gi (lw_c1 (List.mem_of_getElem? (i := 169) rfl)) rfl
theorem wm_171 : (Cond.laysFinal "DrawingHouse$Graph" "DrawingHouse$Graph" "weight" "[I" : Cond) ∈ lw_g := lw_gi (lw_c1 (List.mem_of_getElem? (i := 171) rfl)) rfl
theorem wm_173 : (Cond.laysFinal "DrawingHouse$Graph" "DrawingHouse$Graph" "oneWay" "[I" : Cond) ∈ lw_g := lw_gi (lw_c1 (List.mem_of_getElem? (i := 173) rfl)) rfl
theorem wm_175 : (Cond.laysFinal "DrawingHouse$Graph" "DrawingHouse$Graph" "within" "[I" : Cond) ∈ lw_g := lw_gi (lw_c1 (List.mem_of_getElem? (i := 175) rfl)) rfl
theorem wm_177 : (Cond.laysFinal "DrawingHouse$Graph" "DrawingHouse$Graph" "groupName" "[B" : Cond) ∈ lw_g := lw_gi (lw_c1 (List.mem_of_getElem? (i := 177) rfl)) rfl
theorem wm_179 : (Cond.laysFinal "DrawingHouse$Graph" "DrawingHouse$Graph" "groupNameLength" "[I" : Cond) ∈ lw_g := lw_gi (lw_c1 (List.mem_of_getElem? (i := 179) rfl)) rfl
theorem wm_181 : (Cond.laysFinal "DrawingHouse$Graph" "DrawingHouse$Graph" "near" "[I" : Cond) ∈ lw_g := lw_gi (lw_c1 (List.mem_of_getElem? (i := 181) rfl)) rfl
theorem wm_183 : (Cond.laysFinal "DrawingHouse$Graph" "DrawingHouse$Graph" "link" "[I" : Cond) ∈ lw_g := lw_gi (lw_c1 (List.mem_of_getElem? (i := 183) rfl)) rfl
theorem wm_185 : (Cond.lays "DrawingHouse$Graph" "DrawingHouse$Graph" "past" "[I" : Cond) ∈ lw_g := lw_gi (lw_c1 (List.mem_of_getElem? (i := 185) rfl)) rfl
theorem wm_187 : (Cond.lays "DrawingHouse$Graph" "DrawingHouse$Graph" "done" "I" : Cond) ∈ lw_g := lw_gi (lw_c1 (List.mem_of_getElem? (i := 187) rfl)) rfl
theorem wm_189 : (Cond.lays "DrawingHouse$Graph" "DrawingHouse$Graph" "undone" "I" : Cond) ∈ lw_g := lw_gi (lw_c1 (List.mem_of_getElem? (i := 189) rfl)) rfl
theorem wm_211 : (Cond.laysFinal "DrawingHouse$Reader" "DrawingHouse$Reader" "tape" "[B" : Cond) ∈ lw_g := lw_gi (lw_c1 (List.mem_of_getElem? (i := 211) rfl)) rfl
theorem wm_213 : (Cond.lays "DrawingHouse$Reader" "DrawingHouse$Reader" "length" "I" : Cond) ∈ lw_g := lw_gi (lw_c1 (List.mem_of_getElem? (i := 213) rfl)) rfl
theorem wm_215 : (Cond.lays "DrawingHouse$Reader" "DrawingHouse$Reader" "fault" "I" : Cond) ∈ lw_g := lw_gi (lw_c1 (List.mem_of_getElem? (i := 215) rfl)) rfl
theorem wm_217 : (Cond.lays "DrawingHouse$Reader" "DrawingHouse$Reader" "faultPlace" "I" : Cond) ∈ lw_g := lw_gi (lw_c1 (List.mem_of_getElem? (i := 217) rfl)) rfl
theorem wm_219 : (Cond.laysFinal "DrawingHouse$Reader" "DrawingHouse$Reader" "graph" "LDrawingHouse$Graph;" : Cond) ∈ lw_g := lw_gi (lw_c1 (List.mem_of_getElem? (i := 219) rfl)) rfl
theorem wm_221 : (Cond.lays "DrawingHouse$Reader" "DrawingHouse$Reader" "end" "I" : Cond) ∈ lw_g := lw_gi (lw_c1 (List.mem_of_getElem? (i := 221) rfl)) rfl
theorem wm_223 : (Cond.lays "DrawingHouse$Reader" "DrawingHouse$Reader" "next" "I" : Cond) ∈ lw_g := lw_gi (lw_c1 (List.mem_of_getElem? (i := 223) rfl)) rfl
theorem wm_225 : (Cond.lays "DrawingHouse$Reader" "DrawingHouse$Reader" "kind" "I" : Cond) ∈ lw_g := lw_gi (lw_c1 (List.mem_of_getElem? (i := 225) rfl)) rfl
theorem wm_227 : (Cond.lays "DrawingHouse$Reader" "DrawingHouse$Reader" "begin" "I" : Cond) ∈ lw_g := lw_gi (lw_c1 (List.mem_of_getElem? (i := 227) rfl)) rfl
theorem wm_229 : (Cond.lays "DrawingHouse$Reader" "DrawingHouse$Reader" "number" "I" : Cond) ∈ lw_g := lw_gi (lw_c1 (List.mem_of_getElem? (i := 229) rfl)) rfl
theorem wm_231 : (Cond.laysFinal "DrawingHouse$Reader" "DrawingHouse$Reader" "open" "[I" : Cond) ∈ lw_g := lw_gi (lw_c1 (List.mem_of_getElem? (i := 231) rfl)) rfl
theorem wm_233 : (Cond.lays "DrawingHouse$Reader" "DrawingHouse$Reader" "depth" "I" : Cond) ∈ lw_g := lw_gi (lw_c1 (List.mem_of_getElem? (i := 233) rfl)) rfl
theorem wm_291 : (Cond.lays "DrawingHouse$Net" "DrawingHouse$Net" "planar" "I" : Cond) ∈ lw_g := lw_gi (lw_c2 (List.mem_of_getElem? (i := 51) rfl)) rfl
theorem wm_293 : (Cond.lays "DrawingHouse$Net" "DrawingHouse$Net" "outer" "I" : Cond) ∈ lw_g := lw_gi (lw_c2 (List.mem_of_getElem? (i := 53) rfl)) rfl
theorem wm_295 : (Cond.lays "DrawingHouse$Net" "DrawingHouse$Net" "kind" "I" : Cond) ∈ lw_g := lw_gi (lw_c2 (List.mem_of_getElem? (i := 55) rfl)) rfl
theorem wm_297 : (Cond.lays "DrawingHouse$Net" "DrawingHouse$Net" "barredEdges" "I" : Cond) ∈ lw_g := lw_gi (lw_c2 (List.mem_of_getElem? (i := 57) rfl)) rfl
theorem wm_299 : (Cond.laysFinal "DrawingHouse$Net" "DrawingHouse$Net" "barred" "[I" : Cond) ∈ lw_g := lw_gi (lw_c2 (List.mem_of_getElem? (i := 59) rfl)) rfl
theorem wm_301 : (Cond.lays "DrawingHouse$Net" "DrawingHouse$Net" "nodes" "I" : Cond) ∈ lw_g := lw_gi (lw_c2 (List.mem_of_getElem? (i := 61) rfl)) rfl
theorem wm_303 : (Cond.lays "DrawingHouse$Net" "DrawingHouse$Net" "edges" "I" : Cond) ∈ lw_g := lw_gi (lw_c2 (List.mem_of_getElem? (i := 63) rfl)) rfl
theorem wm_305 : (Cond.laysFinal "DrawingHouse$Net" "DrawingHouse$Net" "tail" "[I" : Cond) ∈ lw_g := lw_gi (lw_c2 (List.mem_of_getElem? (i := 65) rfl)) rfl
theorem wm_307 : (Cond.laysFinal "DrawingHouse$Net" "DrawingHouse$Net" "head" "[I" : Cond) ∈ lw_g := lw_gi (lw_c2 (List.mem_of_getElem? (i := 67) rfl)) rfl
theorem wm_309 : (Cond.laysFinal "DrawingHouse$Net" "DrawingHouse$Net" "near" "[I" : Cond) ∈ lw_g := lw_gi (lw_c2 (List.mem_of_getElem? (i := 69) rfl)) rfl
theorem wm_311 : (Cond.laysFinal "DrawingHouse$Net" "DrawingHouse$Net" "link" "[I" : Cond) ∈ lw_g := lw_gi (lw_c2 (List.mem_of_getElem? (i := 71) rfl)) rfl
theorem wm_313 : (Cond.laysFinal "DrawingHouse$Net" "DrawingHouse$Net" "behind" "[I" : Cond) ∈ lw_g := lw_gi (lw_c2 (List.mem_of_getElem? (i := 73) rfl)) rfl
theorem wm_315 : (Cond.laysFinal "DrawingHouse$Net" "DrawingHouse$Net" "first" "[I" : Cond) ∈ lw_g := lw_gi (lw_c2 (List.mem_of_getElem? (i := 75) rfl)) rfl
theorem wm_317 : (Cond.lays "DrawingHouse$Net" "DrawingHouse$Net" "faces" "I" : Cond) ∈ lw_g := lw_gi (lw_c2 (List.mem_of_getElem? (i := 77) rfl)) rfl
theorem wm_319 : (Cond.laysFinal "DrawingHouse$Net" "DrawingHouse$Net" "rowStart" "[I" : Cond) ∈ lw_g := lw_gi (lw_c2 (List.mem_of_getElem? (i := 79) rfl)) rfl
theorem wm_321 : (Cond.laysFinal "DrawingHouse$Net" "DrawingHouse$Net" "rowNode" "[I" : Cond) ∈ lw_g := lw_gi (lw_c2 (List.mem_of_getElem? (i := 81) rfl)) rfl
theorem wm_323 : (Cond.laysFinal "DrawingHouse$Net" "DrawingHouse$Net" "faceOf" "[I" : Cond) ∈ lw_g := lw_gi (lw_c2 (List.mem_of_getElem? (i := 83) rfl)) rfl
theorem wm_346 : (Cond.lays "DrawingHouse$Embedder" "DrawingHouse$Embedder" "net" "LDrawingHouse$Net;" : Cond) ∈ lw_g := lw_gi (lw_c2 (List.mem_of_getElem? (i := 106) rfl)) rfl
theorem wm_348 : (Cond.laysFinal "DrawingHouse$Embedder" "DrawingHouse$Embedder" "probe" "LDrawingHouse$Net;" : Cond) ∈ lw_g := lw_gi (lw_c2 (List.mem_of_getElem? (i := 108) rfl)) rfl
theorem wm_350 : (Cond.laysFinal "DrawingHouse$Embedder" "DrawingHouse$Embedder" "block" "[I" : Cond) ∈ lw_g := lw_gi (lw_c2 (List.mem_of_getElem? (i := 110) rfl)) rfl
theorem wm_352 : (Cond.laysFinal "DrawingHouse$Embedder" "DrawingHouse$Embedder" "drawn" "[Z" : Cond) ∈ lw_g := lw_gi (lw_c2 (List.mem_of_getElem? (i := 112) rfl)) rfl
theorem wm_354 : (Cond.laysFinal "DrawingHouse$Embedder" "DrawingHouse$Embedder" "kept" "[Z" : Cond) ∈ lw_g := lw_gi (lw_c2 (List.mem_of_getElem? (i := 114) rfl)) rfl
theorem wm_356 : (Cond.lays "DrawingHouse$Embedder" "DrawingHouse$Embedder" "blockNodes" "I" : Cond) ∈ lw_g := lw_gi (lw_c2 (List.mem_of_getElem? (i := 116) rfl)) rfl
theorem wm_358 : (Cond.lays "DrawingHouse$Embedder" "DrawingHouse$Embedder" "drawnNodes" "I" : Cond) ∈ lw_g := lw_gi (lw_c2 (List.mem_of_getElem? (i := 118) rfl)) rfl
theorem wm_360 : (Cond.lays "DrawingHouse$Embedder" "DrawingHouse$Embedder" "cycles" "I" : Cond) ∈ lw_g := lw_gi (lw_c2 (List.mem_of_getElem? (i := 120) rfl)) rfl
theorem wm_362 : (Cond.laysFinal "DrawingHouse$Embedder" "DrawingHouse$Embedder" "cycle" "[I" : Cond) ∈ lw_g := lw_gi (lw_c2 (List.mem_of_getElem? (i := 122) rfl)) rfl
theorem wm_364 : (Cond.laysFinal "DrawingHouse$Embedder" "DrawingHouse$Embedder" "cycleLength" "[I" : Cond) ∈ lw_g := lw_gi (lw_c2 (List.mem_of_getElem? (i := 124) rfl)) rfl
theorem wm_366 : (Cond.laysFinal "DrawingHouse$Embedder" "DrawingHouse$Embedder" "cycleNodes" "[I" : Cond) ∈ lw_g := lw_gi (lw_c2 (List.mem_of_getElem? (i := 126) rfl)) rfl
theorem wm_368 : (Cond.laysFinal "DrawingHouse$Embedder" "DrawingHouse$Embedder" "fresh" "[I" : Cond) ∈ lw_g := lw_gi (lw_c2 (List.mem_of_getElem? (i := 128) rfl)) rfl
theorem wm_370 : (Cond.laysFinal "DrawingHouse$Embedder" "DrawingHouse$Embedder" "after" "[I" : Cond) ∈ lw_g := lw_gi (lw_c2 (List.mem_of_getElem? (i := 130) rfl)) rfl
theorem wm_372 : (Cond.laysFinal "DrawingHouse$Embedder" "DrawingHouse$Embedder" "level" "[I" : Cond) ∈ lw_g := lw_gi (lw_c2 (List.mem_of_getElem? (i := 132) rfl)) rfl
theorem wm_374 : (Cond.laysFinal "DrawingHouse$Embedder" "DrawingHouse$Embedder" "way" "[I" : Cond) ∈ lw_g := lw_gi (lw_c2 (List.mem_of_getElem? (i := 134) rfl)) rfl
theorem wm_376 : (Cond.lays "DrawingHouse$Embedder" "DrawingHouse$Embedder" "wayLength" "I" : Cond) ∈ lw_g := lw_gi (lw_c2 (List.mem_of_getElem? (i := 136) rfl)) rfl
theorem wm_378 : (Cond.lays "DrawingHouse$Embedder" "DrawingHouse$Embedder" "pieceNodes" "I" : Cond) ∈ lw_g := lw_gi (lw_c2 (List.mem_of_getElem? (i := 138) rfl)) rfl
theorem wm_380 : (Cond.lays "DrawingHouse$Embedder" "DrawingHouse$Embedder" "pieceEnds" "I" : Cond) ∈ lw_g := lw_gi (lw_c2 (List.mem_of_getElem? (i := 140) rfl)) rfl
theorem wm_382 : (Cond.lays "DrawingHouse$Embedder" "DrawingHouse$Embedder" "pieceCycle" "I" : Cond) ∈ lw_g := lw_gi (lw_c2 (List.mem_of_getElem? (i := 142) rfl)) rfl
theorem wm_384 : (Cond.laysFinal "DrawingHouse$Embedder" "DrawingHouse$Embedder" "around" "[I" : Cond) ∈ lw_g := lw_gi (lw_c2 (List.mem_of_getElem? (i := 144) rfl)) rfl
theorem wm_428 : (Cond.lays "DrawingHouse$Facts" "DrawingHouse$Facts" "known" "Z" : Cond) ∈ lw_g := lw_gi (lw_c2 (List.mem_of_getElem? (i := 188) rfl)) rfl
theorem wm_430 : (Cond.lays "DrawingHouse$Facts" "DrawingHouse$Facts" "parts" "I" : Cond) ∈ lw_g := lw_gi (lw_c2 (List.mem_of_getElem? (i := 190) rfl)) rfl
theorem wm_432 : (Cond.lays "DrawingHouse$Facts" "DrawingHouse$Facts" "blocks" "I" : Cond) ∈ lw_g := lw_gi (lw_c2 (List.mem_of_getElem? (i := 192) rfl)) rfl
theorem wm_434 : (Cond.lays "DrawingHouse$Facts" "DrawingHouse$Facts" "strongs" "I" : Cond) ∈ lw_g := lw_gi (lw_c2 (List.mem_of_getElem? (i := 194) rfl)) rfl
theorem wm_436 : (Cond.laysFinal "DrawingHouse$Facts" "DrawingHouse$Facts" "part" "[I" : Cond) ∈ lw_g := lw_gi (lw_c2 (List.mem_of_getElem? (i := 196) rfl)) rfl
theorem wm_438 : (Cond.laysFinal "DrawingHouse$Facts" "DrawingHouse$Facts" "block" "[I" : Cond) ∈ lw_g := lw_gi (lw_c2 (List.mem_of_getElem? (i := 198) rfl)) rfl
theorem wm_440 : (Cond.laysFinal "DrawingHouse$Facts" "DrawingHouse$Facts" "strong" "[I" : Cond) ∈ lw_g := lw_gi (lw_c2 (List.mem_of_getElem? (i := 200) rfl)) rfl
theorem wm_442 : (Cond.laysFinal "DrawingHouse$Facts" "DrawingHouse$Facts" "core" "[I" : Cond) ∈ lw_g := lw_gi (lw_c2 (List.mem_of_getElem? (i := 202) rfl)) rfl
theorem wm_444 : (Cond.laysFinal "DrawingHouse$Facts" "DrawingHouse$Facts" "blocksAt" "[I" : Cond) ∈ lw_g := lw_gi (lw_c2 (List.mem_of_getElem? (i := 204) rfl)) rfl
theorem wm_446 : (Cond.laysFinal "DrawingHouse$Facts" "DrawingHouse$Facts" "turned" "[Z" : Cond) ∈ lw_g := lw_gi (lw_c2 (List.mem_of_getElem? (i := 206) rfl)) rfl
theorem wm_448 : (Cond.laysFinal "DrawingHouse$Facts" "DrawingHouse$Facts" "reach" "[I" : Cond) ∈ lw_g := lw_gi (lw_c2 (List.mem_of_getElem? (i := 208) rfl)) rfl
theorem wm_450 : (Cond.laysFinal "DrawingHouse$Facts" "DrawingHouse$Facts" "loop" "[I" : Cond) ∈ lw_g := lw_gi (lw_c2 (List.mem_of_getElem? (i := 210) rfl)) rfl
theorem wm_452 : (Cond.laysFinal "DrawingHouse$Facts" "DrawingHouse$Facts" "rank" "[I" : Cond) ∈ lw_g := lw_gi (lw_c2 (List.mem_of_getElem? (i := 212) rfl)) rfl
theorem wm_454 : (Cond.laysFinal "DrawingHouse$Facts" "DrawingHouse$Facts" "member" "[I" : Cond) ∈ lw_g := lw_gi (lw_c2 (List.mem_of_getElem? (i := 214) rfl)) rfl
theorem wm_456 : (Cond.laysFinal "DrawingHouse$Facts" "DrawingHouse$Facts" "least" "[I" : Cond) ∈ lw_g := lw_gi (lw_c2 (List.mem_of_getElem? (i := 216) rfl)) rfl
theorem wm_512 : (Cond.laysFinal "DrawingHouse$Drawing" "DrawingHouse$Drawing" "graph" "LDrawingHouse$Graph;" : Cond) ∈ lw_g := lw_gi (lw_c3 (List.mem_of_getElem? (i := 32) rfl)) rfl
theorem wm_514 : (Cond.lays "DrawingHouse$Drawing" "DrawingHouse$Drawing" "way" "I" : Cond) ∈ lw_g := lw_gi (lw_c3 (List.mem_of_getElem? (i := 34) rfl)) rfl
theorem wm_516 : (Cond.laysFinal "DrawingHouse$Drawing" "DrawingHouse$Drawing" "x" "[I" : Cond) ∈ lw_g := lw_gi (lw_c3 (List.mem_of_getElem? (i := 36) rfl)) rfl
theorem wm_518 : (Cond.laysFinal "DrawingHouse$Drawing" "DrawingHouse$Drawing" "y" "[I" : Cond) ∈ lw_g := lw_gi (lw_c3 (List.mem_of_getElem? (i := 38) rfl)) rfl
theorem wm_520 : (Cond.laysFinal "DrawingHouse$Drawing" "DrawingHouse$Drawing" "bends" "[I" : Cond) ∈ lw_g := lw_gi (lw_c3 (List.mem_of_getElem? (i := 40) rfl)) rfl
theorem wm_522 : (Cond.laysFinal "DrawingHouse$Drawing" "DrawingHouse$Drawing" "bendX" "[I" : Cond) ∈ lw_g := lw_gi (lw_c3 (List.mem_of_getElem? (i := 42) rfl)) rfl
theorem wm_524 : (Cond.laysFinal "DrawingHouse$Drawing" "DrawingHouse$Drawing" "bendY" "[I" : Cond) ∈ lw_g := lw_gi (lw_c3 (List.mem_of_getElem? (i := 44) rfl)) rfl
theorem wm_526 : (Cond.lays "DrawingHouse$Drawing" "DrawingHouse$Drawing" "crossings" "I" : Cond) ∈ lw_g := lw_gi (lw_c3 (List.mem_of_getElem? (i := 46) rfl)) rfl
theorem wm_528 : (Cond.lays "DrawingHouse$Drawing" "DrawingHouse$Drawing" "spans" "I" : Cond) ∈ lw_g := lw_gi (lw_c3 (List.mem_of_getElem? (i := 48) rfl)) rfl
theorem wm_530 : (Cond.lays "DrawingHouse$Drawing" "DrawingHouse$Drawing" "band" "I" : Cond) ∈ lw_g := lw_gi (lw_c3 (List.mem_of_getElem? (i := 50) rfl)) rfl
theorem wm_532 : (Cond.laysFinal "DrawingHouse$Drawing" "DrawingHouse$Drawing" "layer" "[I" : Cond) ∈ lw_g := lw_gi (lw_c3 (List.mem_of_getElem? (i := 52) rfl)) rfl
theorem wm_534 : (Cond.laysFinal "DrawingHouse$Drawing" "DrawingHouse$Drawing" "turned" "[Z" : Cond) ∈ lw_g := lw_gi (lw_c3 (List.mem_of_getElem? (i := 54) rfl)) rfl
theorem wm_536 : (Cond.laysFinal "DrawingHouse$Drawing" "DrawingHouse$Drawing" "rank" "[I" : Cond) ∈ lw_g := lw_gi (lw_c3 (List.mem_of_getElem? (i := 56) rfl)) rfl
theorem wm_538 : (Cond.laysFinal "DrawingHouse$Drawing" "DrawingHouse$Drawing" "area" "[I" : Cond) ∈ lw_g := lw_gi (lw_c3 (List.mem_of_getElem? (i := 58) rfl)) rfl
theorem wm_540 : (Cond.laysFinal "DrawingHouse$Drawing" "DrawingHouse$Drawing" "shades" "[I" : Cond) ∈ lw_g := lw_gi (lw_c3 (List.mem_of_getElem? (i := 60) rfl)) rfl
theorem wm_542 : (Cond.laysFinal "DrawingHouse$Drawing" "DrawingHouse$Drawing" "labelX" "[I" : Cond) ∈ lw_g := lw_gi (lw_c3 (List.mem_of_getElem? (i := 62) rfl)) rfl
theorem wm_544 : (Cond.laysFinal "DrawingHouse$Drawing" "DrawingHouse$Drawing" "labelY" "[I" : Cond) ∈ lw_g := lw_gi (lw_c3 (List.mem_of_getElem? (i := 64) rfl)) rfl
theorem wm_546 : (Cond.lays "DrawingHouse$Drawing" "DrawingHouse$Drawing" "leastX" "I" : Cond) ∈ lw_g := lw_gi (lw_c3 (List.mem_of_getElem? (i := 66) rfl)) rfl
theorem wm_548 : (Cond.lays "DrawingHouse$Drawing" "DrawingHouse$Drawing" "leastY" "I" : Cond) ∈ lw_g := lw_gi (lw_c3 (List.mem_of_getElem? (i := 68) rfl)) rfl
theorem wm_550 : (Cond.lays "DrawingHouse$Drawing" "DrawingHouse$Drawing" "mostX" "I" : Cond) ∈ lw_g := lw_gi (lw_c3 (List.mem_of_getElem? (i := 70) rfl)) rfl
theorem wm_552 : (Cond.lays "DrawingHouse$Drawing" "DrawingHouse$Drawing" "mostY" "I" : Cond) ∈ lw_g := lw_gi (lw_c3 (List.mem_of_getElem? (i := 72) rfl)) rfl
theorem wm_576 : (Cond.laysFinal "DrawingHouse" "DrawingHouse" "graphs" "[LDrawingHouse$Graph;" : Cond) ∈ lw_g := lw_gi (lw_c3 (List.mem_of_getElem? (i := 96) rfl)) rfl
theorem wm_578 : (Cond.laysFinal "DrawingHouse" "DrawingHouse" "facts" "[LDrawingHouse$Facts;" : Cond) ∈ lw_g := lw_gi (lw_c3 (List.mem_of_getElem? (i := 98) rfl)) rfl
theorem wm_580 : (Cond.laysFinal "DrawingHouse" "DrawingHouse" "nets" "[LDrawingHouse$Net;" : Cond) ∈ lw_g := lw_gi (lw_c3 (List.mem_of_getElem? (i := 100) rfl)) rfl
theorem wm_582 : (Cond.laysFinal "DrawingHouse" "DrawingHouse" "drawings" "[LDrawingHouse$Drawing;" : Cond) ∈ lw_g := lw_gi (lw_c3 (List.mem_of_getElem? (i := 102) rfl)) rfl
theorem wm_584 : (Cond.laysFinal "DrawingHouse" "DrawingHouse" "reader" "LDrawingHouse$Reader;" : Cond) ∈ lw_g := lw_gi (lw_c3 (List.mem_of_getElem? (i := 104) rfl)) rfl
theorem wm_586 : (Cond.laysFinal "DrawingHouse" "DrawingHouse" "embedder" "LDrawingHouse$Embedder;" : Cond) ∈ lw_g := lw_gi (lw_c3 (List.mem_of_getElem? (i := 106) rfl)) rfl
theorem wm_588 : (Cond.laysFinal "DrawingHouse" "DrawingHouse" "became" "[I" : Cond) ∈ lw_g := lw_gi (lw_c3 (List.mem_of_getElem? (i := 108) rfl)) rfl
theorem wm_590 : (Cond.lays "DrawingHouse" "DrawingHouse" "becameNodes" "I" : Cond) ∈ lw_g := lw_gi (lw_c3 (List.mem_of_getElem? (i := 110) rfl)) rfl
theorem wm_592 : (Cond.lays "DrawingHouse" "DrawingHouse" "steps" "I" : Cond) ∈ lw_g := lw_gi (lw_c3 (List.mem_of_getElem? (i := 112) rfl)) rfl
theorem wm_594 : (Cond.lays "DrawingHouse" "DrawingHouse" "written" "[B" : Cond) ∈ lw_g := lw_gi (lw_c3 (List.mem_of_getElem? (i := 114) rfl)) rfl
theorem wm_596 : (Cond.lays "DrawingHouse" "DrawingHouse" "spare" "[B" : Cond) ∈ lw_g := lw_gi (lw_c3 (List.mem_of_getElem? (i := 116) rfl)) rfl
theorem wm_598 : (Cond.lays "DrawingHouse" "DrawingHouse" "writtenLength" "I" : Cond) ∈ lw_g := lw_gi (lw_c3 (List.mem_of_getElem? (i := 118) rfl)) rfl
theorem wm_600 : (Cond.lays "DrawingHouse" "DrawingHouse" "spareLength" "I" : Cond) ∈ lw_g := lw_gi (lw_c3 (List.mem_of_getElem? (i := 120) rfl)) rfl
theorem wm_602 : (Cond.laysFinal "DrawingHouse" "DrawingHouse" "plane" "[I" : Cond) ∈ lw_g := lw_gi (lw_c3 (List.mem_of_getElem? (i := 122) rfl)) rfl
theorem wm_604 : (Cond.lays "DrawingHouse" "DrawingHouse" "planeWidth" "I" : Cond) ∈ lw_g := lw_gi (lw_c3 (List.mem_of_getElem? (i := 124) rfl)) rfl
theorem wm_606 : (Cond.lays "DrawingHouse" "DrawingHouse" "planeHeight" "I" : Cond) ∈ lw_g := lw_gi (lw_c3 (List.mem_of_getElem? (i := 126) rfl)) rfl
theorem wm_608 : (Cond.lays "DrawingHouse" "DrawingHouse" "styler" "LDrawingHouse$Styler;" : Cond) ∈ lw_g := lw_gi (lw_c3 (List.mem_of_getElem? (i := 128) rfl)) rfl
theorem wm_610 : (Cond.lays "DrawingHouse" "DrawingHouse" "layers" "LDrawingHouse$Layers;" : Cond) ∈ lw_g := lw_gi (lw_c3 (List.mem_of_getElem? (i := 130) rfl)) rfl
theorem wm_612 : (Cond.lays "DrawingHouse" "DrawingHouse" "planarWays" "LDrawingHouse$PlanarWays;" : Cond) ∈ lw_g := lw_gi (lw_c3 (List.mem_of_getElem? (i := 132) rfl)) rfl
theorem wm_614 : (Cond.lays "DrawingHouse" "DrawingHouse" "plainWays" "LDrawingHouse$PlainWays;" : Cond) ∈ lw_g := lw_gi (lw_c3 (List.mem_of_getElem? (i := 134) rfl)) rfl
theorem wm_616 : (Cond.lays "DrawingHouse" "DrawingHouse" "router" "LDrawingHouse$Router;" : Cond) ∈ lw_g := lw_gi (lw_c3 (List.mem_of_getElem? (i := 136) rfl)) rfl
theorem wm_1208 : (Cond.lays "DrawingHouse$Stretch" "DrawingHouse$Stretch" "nodes" "I" : Cond) ∈ lw_g := lw_gi (lw_c6 (List.mem_of_getElem? (i := 8) rfl)) rfl
theorem wm_1210 : (Cond.lays "DrawingHouse$Stretch" "DrawingHouse$Stretch" "arcs" "I" : Cond) ∈ lw_g := lw_gi (lw_c6 (List.mem_of_getElem? (i := 10) rfl)) rfl
theorem wm_1212 : (Cond.laysFinal "DrawingHouse$Stretch" "DrawingHouse$Stretch" "from" "[I" : Cond) ∈ lw_g := lw_gi (lw_c6 (List.mem_of_getElem? (i := 12) rfl)) rfl
theorem wm_1214 : (Cond.laysFinal "DrawingHouse$Stretch" "DrawingHouse$Stretch" "to" "[I" : Cond) ∈ lw_g := lw_gi (lw_c6 (List.mem_of_getElem? (i := 14) rfl)) rfl
theorem wm_1216 : (Cond.laysFinal "DrawingHouse$Stretch" "DrawingHouse$Stretch" "room" "[I" : Cond) ∈ lw_g := lw_gi (lw_c6 (List.mem_of_getElem? (i := 16) rfl)) rfl
theorem wm_1218 : (Cond.laysFinal "DrawingHouse$Stretch" "DrawingHouse$Stretch" "gain" "[I" : Cond) ∈ lw_g := lw_gi (lw_c6 (List.mem_of_getElem? (i := 18) rfl)) rfl
theorem wm_1220 : (Cond.laysFinal "DrawingHouse$Stretch" "DrawingHouse$Stretch" "place" "[I" : Cond) ∈ lw_g := lw_gi (lw_c6 (List.mem_of_getElem? (i := 20) rfl)) rfl
theorem wm_1222 : (Cond.laysFinal "DrawingHouse$Stretch" "DrawingHouse$Stretch" "by" "[I" : Cond) ∈ lw_g := lw_gi (lw_c6 (List.mem_of_getElem? (i := 22) rfl)) rfl
theorem wm_1224 : (Cond.laysFinal "DrawingHouse$Stretch" "DrawingHouse$Stretch" "mark" "[I" : Cond) ∈ lw_g := lw_gi (lw_c6 (List.mem_of_getElem? (i := 24) rfl)) rfl
theorem wm_1263 : (Cond.laysFinal "DrawingHouse$Layers" "DrawingHouse$Layers" "stretch" "LDrawingHouse$Stretch;" : Cond) ∈ lw_g := lw_gi (lw_c6 (List.mem_of_getElem? (i := 63) rfl)) rfl
theorem wm_1265 : (Cond.lays "DrawingHouse$Layers" "DrawingHouse$Layers" "graph" "LDrawingHouse$Graph;" : Cond) ∈ lw_g := lw_gi (lw_c6 (List.mem_of_getElem? (i := 65) rfl)) rfl
theorem wm_1267 : (Cond.lays "DrawingHouse$Layers" "DrawingHouse$Layers" "layerCount" "I" : Cond) ∈ lw_g := lw_gi (lw_c6 (List.mem_of_getElem? (i := 67) rfl)) rfl
theorem wm_1269 : (Cond.lays "DrawingHouse$Layers" "DrawingHouse$Layers" "items" "I" : Cond) ∈ lw_g := lw_gi (lw_c6 (List.mem_of_getElem? (i := 69) rfl)) rfl
theorem wm_1271 : (Cond.laysFinal "DrawingHouse$Layers" "DrawingHouse$Layers" "layerOf" "[I" : Cond) ∈ lw_g := lw_gi (lw_c6 (List.mem_of_getElem? (i := 71) rfl)) rfl
theorem wm_1273 : (Cond.laysFinal "DrawingHouse$Layers" "DrawingHouse$Layers" "firstJoint" "[I" : Cond) ∈ lw_g := lw_gi (lw_c6 (List.mem_of_getElem? (i := 73) rfl)) rfl
theorem wm_1275 : (Cond.laysFinal "DrawingHouse$Layers" "DrawingHouse$Layers" "pieceUpper" "[I" : Cond) ∈ lw_g := lw_gi (lw_c6 (List.mem_of_getElem? (i := 75) rfl)) rfl
theorem wm_1277 : (Cond.laysFinal "DrawingHouse$Layers" "DrawingHouse$Layers" "pieceLower" "[I" : Cond) ∈ lw_g := lw_gi (lw_c6 (List.mem_of_getElem? (i := 77) rfl)) rfl
theorem wm_1279 : (Cond.laysFinal "DrawingHouse$Layers" "DrawingHouse$Layers" "pieceWeight" "[I" : Cond) ∈ lw_g := lw_gi (lw_c6 (List.mem_of_getElem? (i := 79) rfl)) rfl
theorem wm_1281 : (Cond.laysFinal "DrawingHouse$Layers" "DrawingHouse$Layers" "pieceStart" "[I" : Cond) ∈ lw_g := lw_gi (lw_c6 (List.mem_of_getElem? (i := 81) rfl)) rfl
theorem wm_1283 : (Cond.laysFinal "DrawingHouse$Layers" "DrawingHouse$Layers" "layerStart" "[I" : Cond) ∈ lw_g := lw_gi (lw_c6 (List.mem_of_getElem? (i := 83) rfl)) rfl
theorem wm_1285 : (Cond.laysFinal "DrawingHouse$Layers" "DrawingHouse$Layers" "listed" "[I" : Cond) ∈ lw_g := lw_gi (lw_c6 (List.mem_of_getElem? (i := 85) rfl)) rfl
theorem wm_1287 : (Cond.laysFinal "DrawingHouse$Layers" "DrawingHouse$Layers" "slot" "[I" : Cond) ∈ lw_g := lw_gi (lw_c6 (List.mem_of_getElem? (i := 87) rfl)) rfl
theorem wm_1289 : (Cond.laysFinal "DrawingHouse$Layers" "DrawingHouse$Layers" "row" "[I" : Cond) ∈ lw_g := lw_gi (lw_c6 (List.mem_of_getElem? (i := 89) rfl)) rfl
theorem wm_1291 : (Cond.laysFinal "DrawingHouse$Layers" "DrawingHouse$Layers" "place" "[I" : Cond) ∈ lw_g := lw_gi (lw_c6 (List.mem_of_getElem? (i := 91) rfl)) rfl
theorem wm_1293 : (Cond.laysFinal "DrawingHouse$Layers" "DrawingHouse$Layers" "sum" "[I" : Cond) ∈ lw_g := lw_gi (lw_c6 (List.mem_of_getElem? (i := 93) rfl)) rfl
theorem wm_1295 : (Cond.laysFinal "DrawingHouse$Layers" "DrawingHouse$Layers" "joined" "[I" : Cond) ∈ lw_g := lw_gi (lw_c6 (List.mem_of_getElem? (i := 95) rfl)) rfl
theorem wm_1297 : (Cond.laysFinal "DrawingHouse$Layers" "DrawingHouse$Layers" "orders" "[I" : Cond) ∈ lw_g := lw_gi (lw_c6 (List.mem_of_getElem? (i := 97) rfl)) rfl
theorem wm_1299 : (Cond.laysFinal "DrawingHouse$Layers" "DrawingHouse$Layers" "least" "[I" : Cond) ∈ lw_g := lw_gi (lw_c6 (List.mem_of_getElem? (i := 99) rfl)) rfl
theorem wm_1301 : (Cond.laysFinal "DrawingHouse$Layers" "DrawingHouse$Layers" "low" "[I" : Cond) ∈ lw_g := lw_gi (lw_c6 (List.mem_of_getElem? (i := 101) rfl)) rfl
theorem wm_1303 : (Cond.laysFinal "DrawingHouse$Layers" "DrawingHouse$Layers" "pair" "[I" : Cond) ∈ lw_g := lw_gi (lw_c6 (List.mem_of_getElem? (i := 103) rfl)) rfl
theorem wm_1482 : (Cond.laysFinal "DrawingHouse$PlanarWays" "DrawingHouse$PlanarWays" "net" "LDrawingHouse$Net;" : Cond) ∈ lw_g := lw_gi (lw_c7 (List.mem_of_getElem? (i := 42) rfl)) rfl
theorem wm_1484 : (Cond.laysFinal "DrawingHouse$PlanarWays" "DrawingHouse$PlanarWays" "order" "[I" : Cond) ∈ lw_g := lw_gi (lw_c7 (List.mem_of_getElem? (i := 44) rfl)) rfl
theorem wm_1486 : (Cond.laysFinal "DrawingHouse$PlanarWays" "DrawingHouse$PlanarWays" "line" "[I" : Cond) ∈ lw_g := lw_gi (lw_c7 (List.mem_of_getElem? (i := 46) rfl)) rfl
theorem wm_1488 : (Cond.lays "DrawingHouse$PlanarWays" "DrawingHouse$PlanarWays" "lineLength" "I" : Cond) ∈ lw_g := lw_gi (lw_c7 (List.mem_of_getElem? (i := 48) rfl)) rfl
theorem wm_1490 : (Cond.laysFinal "DrawingHouse$PlanarWays" "DrawingHouse$PlanarWays" "under" "[I" : Cond) ∈ lw_g := lw_gi (lw_c7 (List.mem_of_getElem? (i := 50) rfl)) rfl
theorem wm_1492 : (Cond.laysFinal "DrawingHouse$PlanarWays" "DrawingHouse$PlanarWays" "level" "[I" : Cond) ∈ lw_g := lw_gi (lw_c7 (List.mem_of_getElem? (i := 52) rfl)) rfl
theorem wm_1494 : (Cond.laysFinal "DrawingHouse$PlanarWays" "DrawingHouse$PlanarWays" "way" "[I" : Cond) ∈ lw_g := lw_gi (lw_c7 (List.mem_of_getElem? (i := 54) rfl)) rfl
theorem wm_1496 : (Cond.laysFinal "DrawingHouse$PlanarWays" "DrawingHouse$PlanarWays" "faceX" "[I" : Cond) ∈ lw_g := lw_gi (lw_c7 (List.mem_of_getElem? (i := 56) rfl)) rfl
theorem wm_1498 : (Cond.laysFinal "DrawingHouse$PlanarWays" "DrawingHouse$PlanarWays" "edgeX" "[I" : Cond) ∈ lw_g := lw_gi (lw_c7 (List.mem_of_getElem? (i := 58) rfl)) rfl
theorem wm_1644 : (Cond.lays "DrawingHouse$PlainWays" "DrawingHouse$PlainWays" "graph" "LDrawingHouse$Graph;" : Cond) ∈ lw_g := lw_gi (lw_c7 (List.mem_of_getElem? (i := 204) rfl)) rfl
theorem wm_1646 : (Cond.lays "DrawingHouse$PlainWays" "DrawingHouse$PlainWays" "drawing" "LDrawingHouse$Drawing;" : Cond) ∈ lw_g := lw_gi (lw_c7 (List.mem_of_getElem? (i := 206) rfl)) rfl
theorem wm_1648 : (Cond.laysFinal "DrawingHouse$PlainWays" "DrawingHouse$PlainWays" "order" "[I" : Cond) ∈ lw_g := lw_gi (lw_c7 (List.mem_of_getElem? (i := 208) rfl)) rfl
theorem wm_1650 : (Cond.laysFinal "DrawingHouse$PlainWays" "DrawingHouse$PlainWays" "best" "[I" : Cond) ∈ lw_g := lw_gi (lw_c7 (List.mem_of_getElem? (i := 210) rfl)) rfl
theorem wm_1652 : (Cond.laysFinal "DrawingHouse$PlainWays" "DrawingHouse$PlainWays" "level" "[I" : Cond) ∈ lw_g := lw_gi (lw_c7 (List.mem_of_getElem? (i := 212) rfl)) rfl
theorem wm_1654 : (Cond.laysFinal "DrawingHouse$PlainWays" "DrawingHouse$PlainWays" "parent" "[I" : Cond) ∈ lw_g := lw_gi (lw_c7 (List.mem_of_getElem? (i := 214) rfl)) rfl
theorem wm_1656 : (Cond.laysFinal "DrawingHouse$PlainWays" "DrawingHouse$PlainWays" "under" "[I" : Cond) ∈ lw_g := lw_gi (lw_c7 (List.mem_of_getElem? (i := 216) rfl)) rfl
theorem wm_1658 : (Cond.laysFinal "DrawingHouse$PlainWays" "DrawingHouse$PlainWays" "kids" "[I" : Cond) ∈ lw_g := lw_gi (lw_c7 (List.mem_of_getElem? (i := 218) rfl)) rfl
theorem wm_1660 : (Cond.lays "DrawingHouse$PlainWays" "DrawingHouse$PlainWays" "fewest" "I" : Cond) ∈ lw_g := lw_gi (lw_c7 (List.mem_of_getElem? (i := 220) rfl)) rfl
theorem wm_1662 : (Cond.laysFinal "DrawingHouse$PlainWays" "DrawingHouse$PlainWays" "item" "[I" : Cond) ∈ lw_g := lw_gi (lw_c7 (List.mem_of_getElem? (i := 222) rfl)) rfl
theorem wm_1664 : (Cond.laysFinal "DrawingHouse$PlainWays" "DrawingHouse$PlainWays" "itemSize" "[I" : Cond) ∈ lw_g := lw_gi (lw_c7 (List.mem_of_getElem? (i := 224) rfl)) rfl
theorem wm_1666 : (Cond.lays "DrawingHouse$PlainWays" "DrawingHouse$PlainWays" "items" "I" : Cond) ∈ lw_g := lw_gi (lw_c7 (List.mem_of_getElem? (i := 226) rfl)) rfl
theorem wm_1668 : (Cond.laysFinal "DrawingHouse$PlainWays" "DrawingHouse$PlainWays" "space" "[I" : Cond) ∈ lw_g := lw_gi (lw_c7 (List.mem_of_getElem? (i := 228) rfl)) rfl
theorem wm_1670 : (Cond.lays "DrawingHouse$PlainWays" "DrawingHouse$PlainWays" "shapeLong" "J" : Cond) ∈ lw_g := lw_gi (lw_c7 (List.mem_of_getElem? (i := 230) rfl)) rfl
theorem wm_1672 : (Cond.lays "DrawingHouse$PlainWays" "DrawingHouse$PlainWays" "shapeShort" "J" : Cond) ∈ lw_g := lw_gi (lw_c7 (List.mem_of_getElem? (i := 232) rfl)) rfl
theorem wm_1674 : (Cond.laysFinal "DrawingHouse$PlainWays" "DrawingHouse$PlainWays" "placeX" "[J" : Cond) ∈ lw_g := lw_gi (lw_c7 (List.mem_of_getElem? (i := 234) rfl)) rfl
theorem wm_1676 : (Cond.laysFinal "DrawingHouse$PlainWays" "DrawingHouse$PlainWays" "placeY" "[J" : Cond) ∈ lw_g := lw_gi (lw_c7 (List.mem_of_getElem? (i := 236) rfl)) rfl
theorem wm_1678 : (Cond.laysFinal "DrawingHouse$PlainWays" "DrawingHouse$PlainWays" "pullX" "[J" : Cond) ∈ lw_g := lw_gi (lw_c7 (List.mem_of_getElem? (i := 238) rfl)) rfl
theorem wm_1680 : (Cond.laysFinal "DrawingHouse$PlainWays" "DrawingHouse$PlainWays" "pullY" "[J" : Cond) ∈ lw_g := lw_gi (lw_c8 (List.mem_of_getElem? (i := 0) rfl)) rfl
theorem wm_1885 : (Cond.lays "DrawingHouse$Router" "DrawingHouse$Router" "graph" "LDrawingHouse$Graph;" : Cond) ∈ lw_g := lw_gi (lw_c8 (List.mem_of_getElem? (i := 205) rfl)) rfl
theorem wm_1887 : (Cond.lays "DrawingHouse$Router" "DrawingHouse$Router" "drawing" "LDrawingHouse$Drawing;" : Cond) ∈ lw_g := lw_gi (lw_c8 (List.mem_of_getElem? (i := 207) rfl)) rfl
theorem wm_1889 : (Cond.lays "DrawingHouse$Router" "DrawingHouse$Router" "left" "I" : Cond) ∈ lw_g := lw_gi (lw_c8 (List.mem_of_getElem? (i := 209) rfl)) rfl
theorem wm_1891 : (Cond.lays "DrawingHouse$Router" "DrawingHouse$Router" "top" "I" : Cond) ∈ lw_g := lw_gi (lw_c8 (List.mem_of_getElem? (i := 211) rfl)) rfl
theorem wm_1893 : (Cond.lays "DrawingHouse$Router" "DrawingHouse$Router" "width" "I" : Cond) ∈ lw_g := lw_gi (lw_c8 (List.mem_of_getElem? (i := 213) rfl)) rfl
theorem wm_1895 : (Cond.lays "DrawingHouse$Router" "DrawingHouse$Router" "height" "I" : Cond) ∈ lw_g := lw_gi (lw_c8 (List.mem_of_getElem? (i := 215) rfl)) rfl
theorem wm_1897 : (Cond.lays "DrawingHouse$Router" "DrawingHouse$Router" "start" "I" : Cond) ∈ lw_g := lw_gi (lw_c8 (List.mem_of_getElem? (i := 217) rfl)) rfl
theorem wm_1899 : (Cond.lays "DrawingHouse$Router" "DrawingHouse$Router" "goal" "I" : Cond) ∈ lw_g := lw_gi (lw_c8 (List.mem_of_getElem? (i := 219) rfl)) rfl
theorem wm_1901 : (Cond.lays "DrawingHouse$Router" "DrawingHouse$Router" "whole" "I" : Cond) ∈ lw_g := lw_gi (lw_c8 (List.mem_of_getElem? (i := 221) rfl)) rfl
theorem wm_1903 : (Cond.laysFinal "DrawingHouse$Router" "DrawingHouse$Router" "barred" "[Z" : Cond) ∈ lw_g := lw_gi (lw_c8 (List.mem_of_getElem? (i := 223) rfl)) rfl
theorem wm_1905 : (Cond.laysFinal "DrawingHouse$Router" "DrawingHouse$Router" "cost" "[I" : Cond) ∈ lw_g := lw_gi (lw_c8 (List.mem_of_getElem? (i := 225) rfl)) rfl
theorem wm_1907 : (Cond.laysFinal "DrawingHouse$Router" "DrawingHouse$Router" "list" "[I" : Cond) ∈ lw_g := lw_gi (lw_c8 (List.mem_of_getElem? (i := 227) rfl)) rfl
theorem wm_1909 : (Cond.laysFinal "DrawingHouse$Router" "DrawingHouse$Router" "entryState" "[I" : Cond) ∈ lw_g := lw_gi (lw_c8 (List.mem_of_getElem? (i := 229) rfl)) rfl
theorem wm_1911 : (Cond.laysFinal "DrawingHouse$Router" "DrawingHouse$Router" "entryNext" "[I" : Cond) ∈ lw_g := lw_gi (lw_c8 (List.mem_of_getElem? (i := 231) rfl)) rfl
theorem wm_1913 : (Cond.lays "DrawingHouse$Router" "DrawingHouse$Router" "entries" "I" : Cond) ∈ lw_g := lw_gi (lw_c8 (List.mem_of_getElem? (i := 233) rfl)) rfl
theorem wm_1915 : (Cond.laysFinal "DrawingHouse$Router" "DrawingHouse$Router" "turnX" "[I" : Cond) ∈ lw_g := lw_gi (lw_c8 (List.mem_of_getElem? (i := 235) rfl)) rfl
theorem wm_1917 : (Cond.laysFinal "DrawingHouse$Router" "DrawingHouse$Router" "turnY" "[I" : Cond) ∈ lw_g := lw_gi (lw_c8 (List.mem_of_getElem? (i := 237) rfl)) rfl
theorem wm_1919 : (Cond.lays "DrawingHouse$Router" "DrawingHouse$Router" "turns" "I" : Cond) ∈ lw_g := lw_gi (lw_c8 (List.mem_of_getElem? (i := 239) rfl)) rfl
theorem wm_2116 : (Cond.lays "DrawingHouse$Styler" "DrawingHouse$Styler" "rules" "I" : Cond) ∈ lw_g := lw_gi (lw_c9 (List.mem_of_getElem? (i := 196) rfl)) rfl
theorem wm_2118 : (Cond.lays "DrawingHouse$Styler" "DrawingHouse$Styler" "fault" "I" : Cond) ∈ lw_g := lw_gi (lw_c9 (List.mem_of_getElem? (i := 198) rfl)) rfl
theorem wm_2120 : (Cond.lays "DrawingHouse$Styler" "DrawingHouse$Styler" "faultPlace" "I" : Cond) ∈ lw_g := lw_gi (lw_c9 (List.mem_of_getElem? (i := 200) rfl)) rfl
theorem wm_2122 : (Cond.lays "DrawingHouse$Styler" "DrawingHouse$Styler" "bytes" "[B" : Cond) ∈ lw_g := lw_gi (lw_c9 (List.mem_of_getElem? (i := 202) rfl)) rfl
theorem wm_2124 : (Cond.lays "DrawingHouse$Styler" "DrawingHouse$Styler" "end" "I" : Cond) ∈ lw_g := lw_gi (lw_c9 (List.mem_of_getElem? (i := 204) rfl)) rfl
theorem wm_2126 : (Cond.lays "DrawingHouse$Styler" "DrawingHouse$Styler" "next" "I" : Cond) ∈ lw_g := lw_gi (lw_c9 (List.mem_of_getElem? (i := 206) rfl)) rfl
theorem wm_2128 : (Cond.lays "DrawingHouse$Styler" "DrawingHouse$Styler" "kind" "I" : Cond) ∈ lw_g := lw_gi (lw_c9 (List.mem_of_getElem? (i := 208) rfl)) rfl
theorem wm_2130 : (Cond.lays "DrawingHouse$Styler" "DrawingHouse$Styler" "begin" "I" : Cond) ∈ lw_g := lw_gi (lw_c9 (List.mem_of_getElem? (i := 210) rfl)) rfl
theorem wm_2132 : (Cond.lays "DrawingHouse$Styler" "DrawingHouse$Styler" "number" "I" : Cond) ∈ lw_g := lw_gi (lw_c9 (List.mem_of_getElem? (i := 212) rfl)) rfl
theorem wm_2134 : (Cond.lays "DrawingHouse$Styler" "DrawingHouse$Styler" "words" "Ljava/lang/String;" : Cond) ∈ lw_g := lw_gi (lw_c9 (List.mem_of_getElem? (i := 214) rfl)) rfl
theorem wm_2136 : (Cond.laysFinal "DrawingHouse$Styler" "DrawingHouse$Styler" "code" "[I" : Cond) ∈ lw_g := lw_gi (lw_c9 (List.mem_of_getElem? (i := 216) rfl)) rfl
theorem wm_2138 : (Cond.lays "DrawingHouse$Styler" "DrawingHouse$Styler" "codeLength" "I" : Cond) ∈ lw_g := lw_gi (lw_c9 (List.mem_of_getElem? (i := 218) rfl)) rfl
theorem wm_2140 : (Cond.laysFinal "DrawingHouse$Styler" "DrawingHouse$Styler" "ruleStart" "[I" : Cond) ∈ lw_g := lw_gi (lw_c9 (List.mem_of_getElem? (i := 220) rfl)) rfl
theorem wm_2142 : (Cond.laysFinal "DrawingHouse$Styler" "DrawingHouse$Styler" "ruleKind" "[I" : Cond) ∈ lw_g := lw_gi (lw_c9 (List.mem_of_getElem? (i := 222) rfl)) rfl
theorem wm_2144 : (Cond.laysFinal "DrawingHouse$Styler" "DrawingHouse$Styler" "stack" "[J" : Cond) ∈ lw_g := lw_gi (lw_c9 (List.mem_of_getElem? (i := 224) rfl)) rfl
theorem wm_2146 : (Cond.lays "DrawingHouse$Styler" "DrawingHouse$Styler" "height" "I" : Cond) ∈ lw_g := lw_gi (lw_c9 (List.mem_of_getElem? (i := 226) rfl)) rfl
theorem wm_2148 : (Cond.laysFinal "DrawingHouse$Styler" "DrawingHouse$Styler" "value" "[J" : Cond) ∈ lw_g := lw_gi (lw_c9 (List.mem_of_getElem? (i := 228) rfl)) rfl
theorem wm_2608 : (Cond.lays "DrawingHouseModel" "DrawingHouseModel" "taped" "I" : Cond) ∈ lw_g := lw_gi (lw_c11 (List.mem_of_getElem? (i := 208) rfl)) rfl
theorem wm_2610 : (Cond.laysFinal "DrawingHouseModel" "DrawingHouseModel" "tape" "[B" : Cond) ∈ lw_g := lw_gi (lw_c11 (List.mem_of_getElem? (i := 210) rfl)) rfl
theorem wm_2612 : (Cond.laysFinal "DrawingHouseModel" "DrawingHouseModel" "all" "[I" : Cond) ∈ lw_g := lw_gi (lw_c11 (List.mem_of_getElem? (i := 212) rfl)) rfl
theorem wm_2614 : (Cond.laysFinal "DrawingHouseModel" "DrawingHouseModel" "now" "[I" : Cond) ∈ lw_g := lw_gi (lw_c11 (List.mem_of_getElem? (i := 214) rfl)) rfl
theorem wm_2616 : (Cond.laysFinal "DrawingHouseModel" "DrawingHouseModel" "latest" "[I" : Cond) ∈ lw_g := lw_gi (lw_c11 (List.mem_of_getElem? (i := 216) rfl)) rfl
theorem wm_2618 : (Cond.lays "DrawingHouseModel" "DrawingHouseModel" "\x72" "I" : Cond) ∈ lw_g := lw_gi (lw_c11 (List.mem_of_getElem? (i := 218) rfl)) rfl
theorem wm_2620 : (Cond.laysFinal "DrawingHouseModel" "DrawingHouseModel" "fresh" "[I" : Cond) ∈ lw_g := lw_gi (lw_c11 (List.mem_of_getElem? (i := 220) rfl)) rfl
theorem wm_2622 : (Cond.lays "DrawingHouseModel" "DrawingHouseModel" "isTold" "Z" : Cond) ∈ lw_g := lw_gi (lw_c11 (List.mem_of_getElem? (i := 222) rfl)) rfl
theorem wm_2624 : (Cond.lays "DrawingHouseModel" "DrawingHouseModel" "fault" "I" : Cond) ∈ lw_g := lw_gi (lw_c11 (List.mem_of_getElem? (i := 224) rfl)) rfl
theorem wm_2626 : (Cond.lays "DrawingHouseModel" "DrawingHouseModel" "faultPlace" "I" : Cond) ∈ lw_g := lw_gi (lw_c11 (List.mem_of_getElem? (i := 226) rfl)) rfl
theorem wm_2628 : (Cond.lays "DrawingHouseModel" "DrawingHouseModel" "limit" "I" : Cond) ∈ lw_g := lw_gi (lw_c11 (List.mem_of_getElem? (i := 228) rfl)) rfl
theorem wm_2630 : (Cond.lays "DrawingHouseModel" "DrawingHouseModel" "pos" "I" : Cond) ∈ lw_g := lw_gi (lw_c11 (List.mem_of_getElem? (i := 230) rfl)) rfl
theorem wm_2632 : (Cond.lays "DrawingHouseModel" "DrawingHouseModel" "kind" "I" : Cond) ∈ lw_g := lw_gi (lw_c11 (List.mem_of_getElem? (i := 232) rfl)) rfl
theorem wm_2634 : (Cond.lays "DrawingHouseModel" "DrawingHouseModel" "place" "I" : Cond) ∈ lw_g := lw_gi (lw_c11 (List.mem_of_getElem? (i := 234) rfl)) rfl
theorem wm_2636 : (Cond.lays "DrawingHouseModel" "DrawingHouseModel" "value" "I" : Cond) ∈ lw_g := lw_gi (lw_c11 (List.mem_of_getElem? (i := 236) rfl)) rfl
theorem wm_2638 : (Cond.lays "DrawingHouseModel" "DrawingHouseModel" "from" "I" : Cond) ∈ lw_g := lw_gi (lw_c11 (List.mem_of_getElem? (i := 238) rfl)) rfl
theorem wm_2640 : (Cond.laysFinal "DrawingHouseModel" "DrawingHouseModel" "partOf" "[I" : Cond) ∈ lw_g := lw_gi (lw_c12 (List.mem_of_getElem? (i := 0) rfl)) rfl
theorem wm_2642 : (Cond.laysFinal "DrawingHouseModel" "DrawingHouseModel" "blockOf" "[I" : Cond) ∈ lw_g := lw_gi (lw_c12 (List.mem_of_getElem? (i := 2) rfl)) rfl
theorem wm_2644 : (Cond.laysFinal "DrawingHouseModel" "DrawingHouseModel" "strongOf" "[I" : Cond) ∈ lw_g := lw_gi (lw_c12 (List.mem_of_getElem? (i := 4) rfl)) rfl
theorem wm_2646 : (Cond.laysFinal "DrawingHouseModel" "DrawingHouseModel" "farOf" "[I" : Cond) ∈ lw_g := lw_gi (lw_c12 (List.mem_of_getElem? (i := 6) rfl)) rfl
theorem wm_2648 : (Cond.laysFinal "DrawingHouseModel" "DrawingHouseModel" "line" "[I" : Cond) ∈ lw_g := lw_gi (lw_c12 (List.mem_of_getElem? (i := 8) rfl)) rfl
theorem wm_2650 : (Cond.laysFinal "DrawingHouseModel" "DrawingHouseModel" "reach" "[Z" : Cond) ∈ lw_g := lw_gi (lw_c12 (List.mem_of_getElem? (i := 10) rfl)) rfl
theorem wm_2652 : (Cond.laysFinal "DrawingHouseModel" "DrawingHouseModel" "left" "[Z" : Cond) ∈ lw_g := lw_gi (lw_c12 (List.mem_of_getElem? (i := 12) rfl)) rfl
theorem wm_2654 : (Cond.laysFinal "DrawingHouseModel" "DrawingHouseModel" "map" "[I" : Cond) ∈ lw_g := lw_gi (lw_c12 (List.mem_of_getElem? (i := 14) rfl)) rfl
theorem wm_2656 : (Cond.laysFinal "DrawingHouseModel" "DrawingHouseModel" "mapTried" "[I" : Cond) ∈ lw_g := lw_gi (lw_c12 (List.mem_of_getElem? (i := 16) rfl)) rfl
theorem wm_2658 : (Cond.lays "DrawingHouseModel" "DrawingHouseModel" "isMapped" "Z" : Cond) ∈ lw_g := lw_gi (lw_c12 (List.mem_of_getElem? (i := 18) rfl)) rfl
theorem wm_2660 : (Cond.lays "DrawingHouseModel" "DrawingHouseModel" "mapNodes" "I" : Cond) ∈ lw_g := lw_gi (lw_c12 (List.mem_of_getElem? (i := 20) rfl)) rfl
theorem wm_2662 : (Cond.lays "DrawingHouseModel" "DrawingHouseModel" "steps" "I" : Cond) ∈ lw_g := lw_gi (lw_c12 (List.mem_of_getElem? (i := 22) rfl)) rfl
theorem wm_2664 : (Cond.lays "DrawingHouseModel" "DrawingHouseModel" "rowA" "I" : Cond) ∈ lw_g := lw_gi (lw_c12 (List.mem_of_getElem? (i := 24) rfl)) rfl
theorem wm_2666 : (Cond.lays "DrawingHouseModel" "DrawingHouseModel" "rowB" "I" : Cond) ∈ lw_g := lw_gi (lw_c12 (List.mem_of_getElem? (i := 26) rfl)) rfl
theorem wm_2668 : (Cond.lays "DrawingHouseModel" "DrawingHouseModel" "hasSteps" "Z" : Cond) ∈ lw_g := lw_gi (lw_c12 (List.mem_of_getElem? (i := 28) rfl)) rfl
theorem wm_2670 : (Cond.lays "DrawingHouseModel" "DrawingHouseModel" "pn" "I" : Cond) ∈ lw_g := lw_gi (lw_c12 (List.mem_of_getElem? (i := 30) rfl)) rfl
theorem wm_2672 : (Cond.lays "DrawingHouseModel" "DrawingHouseModel" "pm" "I" : Cond) ∈ lw_g := lw_gi (lw_c12 (List.mem_of_getElem? (i := 32) rfl)) rfl
theorem wm_2674 : (Cond.laysFinal "DrawingHouseModel" "DrawingHouseModel" "pt" "[I" : Cond) ∈ lw_g := lw_gi (lw_c12 (List.mem_of_getElem? (i := 34) rfl)) rfl
theorem wm_2676 : (Cond.laysFinal "DrawingHouseModel" "DrawingHouseModel" "ph" "[I" : Cond) ∈ lw_g := lw_gi (lw_c12 (List.mem_of_getElem? (i := 36) rfl)) rfl
theorem wm_2678 : (Cond.laysFinal "DrawingHouseModel" "DrawingHouseModel" "alive" "[Z" : Cond) ∈ lw_g := lw_gi (lw_c12 (List.mem_of_getElem? (i := 38) rfl)) rfl
theorem wm_2680 : (Cond.laysFinal "DrawingHouseModel" "DrawingHouseModel" "rotMany" "[I" : Cond) ∈ lw_g := lw_gi (lw_c12 (List.mem_of_getElem? (i := 40) rfl)) rfl
theorem wm_2682 : (Cond.laysFinal "DrawingHouseModel" "DrawingHouseModel" "rot" "[I" : Cond) ∈ lw_g := lw_gi (lw_c12 (List.mem_of_getElem? (i := 42) rfl)) rfl
theorem wm_2684 : (Cond.laysFinal "DrawingHouseModel" "DrawingHouseModel" "seen" "[Z" : Cond) ∈ lw_g := lw_gi (lw_c12 (List.mem_of_getElem? (i := 44) rfl)) rfl
theorem wm_2686 : (Cond.lays "DrawingHouseModel" "DrawingHouseModel" "faces" "I" : Cond) ∈ lw_g := lw_gi (lw_c12 (List.mem_of_getElem? (i := 46) rfl)) rfl
theorem wm_2688 : (Cond.laysFinal "DrawingHouseModel" "DrawingHouseModel" "faceMany" "[I" : Cond) ∈ lw_g := lw_gi (lw_c12 (List.mem_of_getElem? (i := 48) rfl)) rfl
theorem wm_2690 : (Cond.laysFinal "DrawingHouseModel" "DrawingHouseModel" "face" "[I" : Cond) ∈ lw_g := lw_gi (lw_c12 (List.mem_of_getElem? (i := 50) rfl)) rfl
theorem wm_2692 : (Cond.laysFinal "DrawingHouseModel" "DrawingHouseModel" "drawnNode" "[Z" : Cond) ∈ lw_g := lw_gi (lw_c12 (List.mem_of_getElem? (i := 52) rfl)) rfl
theorem wm_2694 : (Cond.laysFinal "DrawingHouseModel" "DrawingHouseModel" "drawnEdge" "[Z" : Cond) ∈ lw_g := lw_gi (lw_c12 (List.mem_of_getElem? (i := 54) rfl)) rfl
theorem wm_2696 : (Cond.laysFinal "DrawingHouseModel" "DrawingHouseModel" "pieceOf" "[I" : Cond) ∈ lw_g := lw_gi (lw_c12 (List.mem_of_getElem? (i := 56) rfl)) rfl
theorem wm_2698 : (Cond.lays "DrawingHouseModel" "DrawingHouseModel" "wayMany" "I" : Cond) ∈ lw_g := lw_gi (lw_c12 (List.mem_of_getElem? (i := 58) rfl)) rfl
theorem wm_2700 : (Cond.laysFinal "DrawingHouseModel" "DrawingHouseModel" "way" "[I" : Cond) ∈ lw_g := lw_gi (lw_c12 (List.mem_of_getElem? (i := 60) rfl)) rfl
theorem wm_2702 : (Cond.lays "DrawingHouseModel" "DrawingHouseModel" "goal" "I" : Cond) ∈ lw_g := lw_gi (lw_c12 (List.mem_of_getElem? (i := 62) rfl)) rfl
theorem wm_2704 : (Cond.laysFinal "DrawingHouseModel" "DrawingHouseModel" "toGoal" "[I" : Cond) ∈ lw_g := lw_gi (lw_c12 (List.mem_of_getElem? (i := 64) rfl)) rfl
theorem wm_2706 : (Cond.lays "DrawingHouseModel" "DrawingHouseModel" "onlyPiece" "I" : Cond) ∈ lw_g := lw_gi (lw_c12 (List.mem_of_getElem? (i := 66) rfl)) rfl
theorem wm_2708 : (Cond.laysFinal "DrawingHouseModel" "DrawingHouseModel" "ends" "[I" : Cond) ∈ lw_g := lw_gi (lw_c12 (List.mem_of_getElem? (i := 68) rfl)) rfl
theorem wm_2710 : (Cond.laysFinal "DrawingHouseModel" "DrawingHouseModel" "faceNodes" "[I" : Cond) ∈ lw_g := lw_gi (lw_c12 (List.mem_of_getElem? (i := 70) rfl)) rfl
theorem wm_2712 : (Cond.laysFinal "DrawingHouseModel" "DrawingHouseModel" "bestWay" "[I" : Cond) ∈ lw_g := lw_gi (lw_c12 (List.mem_of_getElem? (i := 72) rfl)) rfl
theorem wm_2714 : (Cond.lays "DrawingHouseModel" "DrawingHouseModel" "rounds" "I" : Cond) ∈ lw_g := lw_gi (lw_c12 (List.mem_of_getElem? (i := 74) rfl)) rfl
theorem wm_2716 : (Cond.laysFinal "DrawingHouseModel" "DrawingHouseModel" "roundOf" "[I" : Cond) ∈ lw_g := lw_gi (lw_c12 (List.mem_of_getElem? (i := 76) rfl)) rfl
theorem wm_2718 : (Cond.laysFinal "DrawingHouseModel" "DrawingHouseModel" "dartAt" "[I" : Cond) ∈ lw_g := lw_gi (lw_c12 (List.mem_of_getElem? (i := 78) rfl)) rfl
theorem wm_2720 : (Cond.laysFinal "DrawingHouseModel" "DrawingHouseModel" "roundBegin" "[I" : Cond) ∈ lw_g := lw_gi (lw_c12 (List.mem_of_getElem? (i := 80) rfl)) rfl
theorem wm_2722 : (Cond.laysFinal "DrawingHouseModel" "DrawingHouseModel" "roundDart" "[I" : Cond) ∈ lw_g := lw_gi (lw_c12 (List.mem_of_getElem? (i := 82) rfl)) rfl
theorem wm_2724 : (Cond.lays "DrawingHouseModel" "DrawingHouseModel" "barredMany" "I" : Cond) ∈ lw_g := lw_gi (lw_c12 (List.mem_of_getElem? (i := 84) rfl)) rfl
theorem wm_2726 : (Cond.lays "DrawingHouseModel" "DrawingHouseModel" "barredKind" "I" : Cond) ∈ lw_g := lw_gi (lw_c12 (List.mem_of_getElem? (i := 86) rfl)) rfl
theorem wm_2728 : (Cond.laysFinal "DrawingHouseModel" "DrawingHouseModel" "barred" "[I" : Cond) ∈ lw_g := lw_gi (lw_c12 (List.mem_of_getElem? (i := 88) rfl)) rfl
theorem wm_2730 : (Cond.laysFinal "DrawingHouseModel" "DrawingHouseModel" "drawn" "[I" : Cond) ∈ lw_g := lw_gi (lw_c12 (List.mem_of_getElem? (i := 90) rfl)) rfl
theorem wm_2732 : (Cond.laysFinal "DrawingHouseModel" "DrawingHouseModel" "nodeX" "[I" : Cond) ∈ lw_g := lw_gi (lw_c12 (List.mem_of_getElem? (i := 92) rfl)) rfl
theorem wm_2734 : (Cond.laysFinal "DrawingHouseModel" "DrawingHouseModel" "nodeY" "[I" : Cond) ∈ lw_g := lw_gi (lw_c12 (List.mem_of_getElem? (i := 94) rfl)) rfl
theorem wm_2736 : (Cond.laysFinal "DrawingHouseModel" "DrawingHouseModel" "bendMany" "[I" : Cond) ∈ lw_g := lw_gi (lw_c12 (List.mem_of_getElem? (i := 96) rfl)) rfl
theorem wm_2738 : (Cond.laysFinal "DrawingHouseModel" "DrawingHouseModel" "bendX" "[I" : Cond) ∈ lw_g := lw_gi (lw_c12 (List.mem_of_getElem? (i := 98) rfl)) rfl
theorem wm_2740 : (Cond.laysFinal "DrawingHouseModel" "DrawingHouseModel" "bendY" "[I" : Cond) ∈ lw_g := lw_gi (lw_c12 (List.mem_of_getElem? (i := 100) rfl)) rfl
theorem wm_2742 : (Cond.laysFinal "DrawingHouseModel" "DrawingHouseModel" "toldCross" "[I" : Cond) ∈ lw_g := lw_gi (lw_c12 (List.mem_of_getElem? (i := 102) rfl)) rfl
theorem wm_2744 : (Cond.laysFinal "DrawingHouseModel" "DrawingHouseModel" "toldSum" "[I" : Cond) ∈ lw_g := lw_gi (lw_c12 (List.mem_of_getElem? (i := 104) rfl)) rfl
theorem wm_2746 : (Cond.laysFinal "DrawingHouseModel" "DrawingHouseModel" "toldLayer" "[I" : Cond) ∈ lw_g := lw_gi (lw_c12 (List.mem_of_getElem? (i := 106) rfl)) rfl
theorem wm_2748 : (Cond.laysFinal "DrawingHouseModel" "DrawingHouseModel" "toldTurned" "[I" : Cond) ∈ lw_g := lw_gi (lw_c12 (List.mem_of_getElem? (i := 108) rfl)) rfl
theorem wm_2750 : (Cond.laysFinal "DrawingHouseModel" "DrawingHouseModel" "toldArea" "[I" : Cond) ∈ lw_g := lw_gi (lw_c12 (List.mem_of_getElem? (i := 110) rfl)) rfl
theorem wm_2752 : (Cond.laysFinal "DrawingHouseModel" "DrawingHouseModel" "toldGroup" "[I" : Cond) ∈ lw_g := lw_gi (lw_c12 (List.mem_of_getElem? (i := 112) rfl)) rfl
theorem wm_2754 : (Cond.laysFinal "DrawingHouseModel" "DrawingHouseModel" "shades" "[I" : Cond) ∈ lw_g := lw_gi (lw_c12 (List.mem_of_getElem? (i := 114) rfl)) rfl
theorem wm_2756 : (Cond.laysFinal "DrawingHouseModel" "DrawingHouseModel" "nx" "[I" : Cond) ∈ lw_g := lw_gi (lw_c12 (List.mem_of_getElem? (i := 116) rfl)) rfl
theorem wm_2758 : (Cond.laysFinal "DrawingHouseModel" "DrawingHouseModel" "ny" "[I" : Cond) ∈ lw_g := lw_gi (lw_c12 (List.mem_of_getElem? (i := 118) rfl)) rfl
theorem wm_2760 : (Cond.laysFinal "DrawingHouseModel" "DrawingHouseModel" "bm" "[I" : Cond) ∈ lw_g := lw_gi (lw_c12 (List.mem_of_getElem? (i := 120) rfl)) rfl
theorem wm_2762 : (Cond.laysFinal "DrawingHouseModel" "DrawingHouseModel" "bx" "[I" : Cond) ∈ lw_g := lw_gi (lw_c12 (List.mem_of_getElem? (i := 122) rfl)) rfl
theorem wm_2764 : (Cond.laysFinal "DrawingHouseModel" "DrawingHouseModel" "by" "[I" : Cond) ∈ lw_g := lw_gi (lw_c12 (List.mem_of_getElem? (i := 124) rfl)) rfl
theorem wm_2766 : (Cond.lays "DrawingHouseModel" "DrawingHouseModel" "pointMany" "I" : Cond) ∈ lw_g := lw_gi (lw_c12 (List.mem_of_getElem? (i := 126) rfl)) rfl
theorem wm_2768 : (Cond.lays "DrawingHouseModel" "DrawingHouseModel" "costMany" "I" : Cond) ∈ lw_g := lw_gi (lw_c12 (List.mem_of_getElem? (i := 128) rfl)) rfl
theorem wm_2770 : (Cond.lays "DrawingHouseModel" "DrawingHouseModel" "apartMany" "I" : Cond) ∈ lw_g := lw_gi (lw_c12 (List.mem_of_getElem? (i := 130) rfl)) rfl
theorem wm_2772 : (Cond.laysFinal "DrawingHouseModel" "DrawingHouseModel" "spot" "[I" : Cond) ∈ lw_g := lw_gi (lw_c12 (List.mem_of_getElem? (i := 132) rfl)) rfl
theorem wm_2774 : (Cond.laysFinal "DrawingHouseModel" "DrawingHouseModel" "costA" "[I" : Cond) ∈ lw_g := lw_gi (lw_c12 (List.mem_of_getElem? (i := 134) rfl)) rfl
theorem wm_2776 : (Cond.laysFinal "DrawingHouseModel" "DrawingHouseModel" "costB" "[I" : Cond) ∈ lw_g := lw_gi (lw_c12 (List.mem_of_getElem? (i := 136) rfl)) rfl
theorem wm_2778 : (Cond.laysFinal "DrawingHouseModel" "DrawingHouseModel" "costW" "[I" : Cond) ∈ lw_g := lw_gi (lw_c12 (List.mem_of_getElem? (i := 138) rfl)) rfl
theorem wm_2780 : (Cond.laysFinal "DrawingHouseModel" "DrawingHouseModel" "costPlain" "[Z" : Cond) ∈ lw_g := lw_gi (lw_c12 (List.mem_of_getElem? (i := 140) rfl)) rfl
theorem wm_2782 : (Cond.laysFinal "DrawingHouseModel" "DrawingHouseModel" "apartA" "[I" : Cond) ∈ lw_g := lw_gi (lw_c12 (List.mem_of_getElem? (i := 142) rfl)) rfl
theorem wm_2784 : (Cond.laysFinal "DrawingHouseModel" "DrawingHouseModel" "apartB" "[I" : Cond) ∈ lw_g := lw_gi (lw_c12 (List.mem_of_getElem? (i := 144) rfl)) rfl
theorem wm_2786 : (Cond.laysFinal "DrawingHouseModel" "DrawingHouseModel" "apart" "[I" : Cond) ∈ lw_g := lw_gi (lw_c12 (List.mem_of_getElem? (i := 146) rfl)) rfl
theorem wm_2788 : (Cond.laysFinal "DrawingHouseModel" "DrawingHouseModel" "flow" "[I" : Cond) ∈ lw_g := lw_gi (lw_c12 (List.mem_of_getElem? (i := 148) rfl)) rfl
theorem wm_2790 : (Cond.laysFinal "DrawingHouseModel" "DrawingHouseModel" "cameBy" "[I" : Cond) ∈ lw_g := lw_gi (lw_c12 (List.mem_of_getElem? (i := 150) rfl)) rfl
theorem wm_2792 : (Cond.laysFinal "DrawingHouseModel" "DrawingHouseModel" "queue" "[I" : Cond) ∈ lw_g := lw_gi (lw_c12 (List.mem_of_getElem? (i := 152) rfl)) rfl
theorem wm_2794 : (Cond.laysFinal "DrawingHouseModel" "DrawingHouseModel" "goes" "[I" : Cond) ∈ lw_g := lw_gi (lw_c12 (List.mem_of_getElem? (i := 154) rfl)) rfl
theorem wm_2796 : (Cond.lays "DrawingHouseModel" "DrawingHouseModel" "pushes" "I" : Cond) ∈ lw_g := lw_gi (lw_c12 (List.mem_of_getElem? (i := 156) rfl)) rfl
theorem wm_2798 : (Cond.laysFinal "DrawingHouseModel" "DrawingHouseModel" "turned" "[Z" : Cond) ∈ lw_g := lw_gi (lw_c12 (List.mem_of_getElem? (i := 158) rfl)) rfl
theorem wm_2800 : (Cond.laysFinal "DrawingHouseModel" "DrawingHouseModel" "order" "[I" : Cond) ∈ lw_g := lw_gi (lw_c12 (List.mem_of_getElem? (i := 160) rfl)) rfl
theorem wm_2802 : (Cond.laysFinal "DrawingHouseModel" "DrawingHouseModel" "best" "[I" : Cond) ∈ lw_g := lw_gi (lw_c12 (List.mem_of_getElem? (i := 162) rfl)) rfl
theorem wm_2804 : (Cond.laysFinal "DrawingHouseModel" "DrawingHouseModel" "member" "[I" : Cond) ∈ lw_g := lw_gi (lw_c12 (List.mem_of_getElem? (i := 164) rfl)) rfl
theorem wm_2806 : (Cond.lays "DrawingHouseModel" "DrawingHouseModel" "members" "I" : Cond) ∈ lw_g := lw_gi (lw_c12 (List.mem_of_getElem? (i := 166) rfl)) rfl
theorem wm_2808 : (Cond.lays "DrawingHouseModel" "DrawingHouseModel" "items" "I" : Cond) ∈ lw_g := lw_gi (lw_c12 (List.mem_of_getElem? (i := 168) rfl)) rfl
theorem wm_2810 : (Cond.lays "DrawingHouseModel" "DrawingHouseModel" "layerMany" "I" : Cond) ∈ lw_g := lw_gi (lw_c12 (List.mem_of_getElem? (i := 170) rfl)) rfl
theorem wm_2812 : (Cond.laysFinal "DrawingHouseModel" "DrawingHouseModel" "itemLayer" "[I" : Cond) ∈ lw_g := lw_gi (lw_c12 (List.mem_of_getElem? (i := 172) rfl)) rfl
theorem wm_2814 : (Cond.laysFinal "DrawingHouseModel" "DrawingHouseModel" "itemEdge" "[I" : Cond) ∈ lw_g := lw_gi (lw_c12 (List.mem_of_getElem? (i := 174) rfl)) rfl
theorem wm_2816 : (Cond.laysFinal "DrawingHouseModel" "DrawingHouseModel" "firstJoint" "[I" : Cond) ∈ lw_g := lw_gi (lw_c12 (List.mem_of_getElem? (i := 176) rfl)) rfl
theorem wm_2818 : (Cond.laysFinal "DrawingHouseModel" "DrawingHouseModel" "layerSize" "[I" : Cond) ∈ lw_g := lw_gi (lw_c12 (List.mem_of_getElem? (i := 178) rfl)) rfl
theorem wm_2820 : (Cond.laysFinal "DrawingHouseModel" "DrawingHouseModel" "layerItem" "[I" : Cond) ∈ lw_g := lw_gi (lw_c12 (List.mem_of_getElem? (i := 180) rfl)) rfl
theorem wm_2822 : (Cond.lays "DrawingHouseModel" "DrawingHouseModel" "lines" "I" : Cond) ∈ lw_g := lw_gi (lw_c12 (List.mem_of_getElem? (i := 182) rfl)) rfl
theorem wm_2824 : (Cond.laysFinal "DrawingHouseModel" "DrawingHouseModel" "lineA" "[I" : Cond) ∈ lw_g := lw_gi (lw_c12 (List.mem_of_getElem? (i := 184) rfl)) rfl
theorem wm_2826 : (Cond.laysFinal "DrawingHouseModel" "DrawingHouseModel" "lineB" "[I" : Cond) ∈ lw_g := lw_gi (lw_c12 (List.mem_of_getElem? (i := 186) rfl)) rfl
theorem wm_2828 : (Cond.laysFinal "DrawingHouseModel" "DrawingHouseModel" "permBegin" "[I" : Cond) ∈ lw_g := lw_gi (lw_c12 (List.mem_of_getElem? (i := 188) rfl)) rfl
theorem wm_2830 : (Cond.laysFinal "DrawingHouseModel" "DrawingHouseModel" "permMany" "[I" : Cond) ∈ lw_g := lw_gi (lw_c12 (List.mem_of_getElem? (i := 190) rfl)) rfl
theorem wm_2832 : (Cond.laysFinal "DrawingHouseModel" "DrawingHouseModel" "perm" "[B" : Cond) ∈ lw_g := lw_gi (lw_c12 (List.mem_of_getElem? (i := 192) rfl)) rfl
theorem wm_2834 : (Cond.laysFinal "DrawingHouseModel" "DrawingHouseModel" "rest" "[I" : Cond) ∈ lw_g := lw_gi (lw_c12 (List.mem_of_getElem? (i := 194) rfl)) rfl
theorem wm_2836 : (Cond.laysFinal "DrawingHouseModel" "DrawingHouseModel" "worse" "[I" : Cond) ∈ lw_g := lw_gi (lw_c12 (List.mem_of_getElem? (i := 196) rfl)) rfl
theorem wm_2838 : (Cond.laysFinal "DrawingHouseModel" "DrawingHouseModel" "listed" "[I" : Cond) ∈ lw_g := lw_gi (lw_c12 (List.mem_of_getElem? (i := 198) rfl)) rfl
theorem wm_2840 : (Cond.laysFinal "DrawingHouseModel" "DrawingHouseModel" "inOrder" "[I" : Cond) ∈ lw_g := lw_gi (lw_c12 (List.mem_of_getElem? (i := 200) rfl)) rfl
theorem wm_2842 : (Cond.laysFinal "DrawingHouseModel" "DrawingHouseModel" "row" "[I" : Cond) ∈ lw_g := lw_gi (lw_c12 (List.mem_of_getElem? (i := 202) rfl)) rfl
theorem wm_2844 : (Cond.laysFinal "DrawingHouseModel" "DrawingHouseModel" "kept" "[I" : Cond) ∈ lw_g := lw_gi (lw_c12 (List.mem_of_getElem? (i := 204) rfl)) rfl
theorem wm_2846 : (Cond.laysFinal "DrawingHouseModel" "DrawingHouseModel" "meanA" "[J" : Cond) ∈ lw_g := lw_gi (lw_c12 (List.mem_of_getElem? (i := 206) rfl)) rfl
theorem wm_2848 : (Cond.laysFinal "DrawingHouseModel" "DrawingHouseModel" "meanB" "[J" : Cond) ∈ lw_g := lw_gi (lw_c12 (List.mem_of_getElem? (i := 208) rfl)) rfl
theorem wm_2850 : (Cond.lays "DrawingHouseModel" "DrawingHouseModel" "upper" "I" : Cond) ∈ lw_g := lw_gi (lw_c12 (List.mem_of_getElem? (i := 210) rfl)) rfl
theorem wm_2852 : (Cond.laysFinal "DrawingHouseModel" "DrawingHouseModel" "upperNode" "[I" : Cond) ∈ lw_g := lw_gi (lw_c12 (List.mem_of_getElem? (i := 212) rfl)) rfl
theorem wm_2854 : (Cond.laysFinal "DrawingHouseModel" "DrawingHouseModel" "under" "[I" : Cond) ∈ lw_g := lw_gi (lw_c12 (List.mem_of_getElem? (i := 214) rfl)) rfl
theorem wm_2856 : (Cond.laysFinal "DrawingHouseModel" "DrawingHouseModel" "number" "[I" : Cond) ∈ lw_g := lw_gi (lw_c12 (List.mem_of_getElem? (i := 216) rfl)) rfl
theorem wm_2858 : (Cond.lays "DrawingHouseModel" "DrawingHouseModel" "rowMany" "I" : Cond) ∈ lw_g := lw_gi (lw_c12 (List.mem_of_getElem? (i := 218) rfl)) rfl
theorem wm_2860 : (Cond.laysFinal "DrawingHouseModel" "DrawingHouseModel" "toldNumber" "[I" : Cond) ∈ lw_g := lw_gi (lw_c12 (List.mem_of_getElem? (i := 220) rfl)) rfl
theorem wm_2862 : (Cond.laysFinal "DrawingHouseModel" "DrawingHouseModel" "above" "[I" : Cond) ∈ lw_g := lw_gi (lw_c12 (List.mem_of_getElem? (i := 222) rfl)) rfl
theorem wm_2864 : (Cond.laysFinal "DrawingHouseModel" "DrawingHouseModel" "level" "[I" : Cond) ∈ lw_g := lw_gi (lw_c12 (List.mem_of_getElem? (i := 224) rfl)) rfl
theorem wm_2866 : (Cond.laysFinal "DrawingHouseModel" "DrawingHouseModel" "root" "[I" : Cond) ∈ lw_g := lw_gi (lw_c12 (List.mem_of_getElem? (i := 226) rfl)) rfl
theorem wm_2868 : (Cond.laysFinal "DrawingHouseModel" "DrawingHouseModel" "itemOf" "[I" : Cond) ∈ lw_g := lw_gi (lw_c12 (List.mem_of_getElem? (i := 228) rfl)) rfl
theorem wm_2870 : (Cond.laysFinal "DrawingHouseModel" "DrawingHouseModel" "itemSize" "[I" : Cond) ∈ lw_g := lw_gi (lw_c12 (List.mem_of_getElem? (i := 230) rfl)) rfl
theorem wm_2872 : (Cond.lays "DrawingHouseModel" "DrawingHouseModel" "itemMany" "I" : Cond) ∈ lw_g := lw_gi (lw_c12 (List.mem_of_getElem? (i := 232) rfl)) rfl
theorem wm_2874 : (Cond.lays "DrawingHouseModel" "DrawingHouseModel" "shapeA" "J" : Cond) ∈ lw_g := lw_gi (lw_c12 (List.mem_of_getElem? (i := 234) rfl)) rfl
theorem wm_2876 : (Cond.lays "DrawingHouseModel" "DrawingHouseModel" "shapeB" "J" : Cond) ∈ lw_g := lw_gi (lw_c12 (List.mem_of_getElem? (i := 236) rfl)) rfl
theorem wm_2878 : (Cond.laysFinal "DrawingHouseModel" "DrawingHouseModel" "fx" "[J" : Cond) ∈ lw_g := lw_gi (lw_c12 (List.mem_of_getElem? (i := 238) rfl)) rfl
theorem wm_2880 : (Cond.laysFinal "DrawingHouseModel" "DrawingHouseModel" "fy" "[J" : Cond) ∈ lw_g := lw_gi (lw_c13 (List.mem_of_getElem? (i := 0) rfl)) rfl
theorem wm_2882 : (Cond.laysFinal "DrawingHouseModel" "DrawingHouseModel" "wx" "[J" : Cond) ∈ lw_g := lw_gi (lw_c13 (List.mem_of_getElem? (i := 2) rfl)) rfl
theorem wm_2884 : (Cond.laysFinal "DrawingHouseModel" "DrawingHouseModel" "wy" "[J" : Cond) ∈ lw_g := lw_gi (lw_c13 (List.mem_of_getElem? (i := 4) rfl)) rfl
theorem wm_2886 : (Cond.lays "DrawingHouseModel" "DrawingHouseModel" "g0" "I" : Cond) ∈ lw_g := lw_gi (lw_c13 (List.mem_of_getElem? (i := 6) rfl)) rfl
theorem wm_2888 : (Cond.laysFinal "DrawingHouseModel" "DrawingHouseModel" "costOf" "[I" : Cond) ∈ lw_g := lw_gi (lw_c13 (List.mem_of_getElem? (i := 8) rfl)) rfl
theorem wm_2890 : (Cond.laysFinal "DrawingHouseModel" "DrawingHouseModel" "bucket" "[I" : Cond) ∈ lw_g := lw_gi (lw_c13 (List.mem_of_getElem? (i := 10) rfl)) rfl
theorem wm_2892 : (Cond.laysFinal "DrawingHouseModel" "DrawingHouseModel" "bucketMany" "[I" : Cond) ∈ lw_g := lw_gi (lw_c13 (List.mem_of_getElem? (i := 12) rfl)) rfl
theorem wm_2894 : (Cond.laysFinal "DrawingHouseModel" "DrawingHouseModel" "barredPoint" "[Z" : Cond) ∈ lw_g := lw_gi (lw_c13 (List.mem_of_getElem? (i := 14) rfl)) rfl
theorem wm_2896 : (Cond.lays "DrawingHouseModel" "DrawingHouseModel" "left0" "I" : Cond) ∈ lw_g := lw_gi (lw_c13 (List.mem_of_getElem? (i := 16) rfl)) rfl
theorem wm_2898 : (Cond.lays "DrawingHouseModel" "DrawingHouseModel" "top0" "I" : Cond) ∈ lw_g := lw_gi (lw_c13 (List.mem_of_getElem? (i := 18) rfl)) rfl
theorem wm_2900 : (Cond.lays "DrawingHouseModel" "DrawingHouseModel" "wide" "I" : Cond) ∈ lw_g := lw_gi (lw_c13 (List.mem_of_getElem? (i := 20) rfl)) rfl
theorem wm_2902 : (Cond.lays "DrawingHouseModel" "DrawingHouseModel" "tall" "I" : Cond) ∈ lw_g := lw_gi (lw_c13 (List.mem_of_getElem? (i := 22) rfl)) rfl
theorem wm_2904 : (Cond.laysFinal "DrawingHouseModel" "DrawingHouseModel" "turnX" "[I" : Cond) ∈ lw_g := lw_gi (lw_c13 (List.mem_of_getElem? (i := 24) rfl)) rfl
theorem wm_2906 : (Cond.laysFinal "DrawingHouseModel" "DrawingHouseModel" "turnY" "[I" : Cond) ∈ lw_g := lw_gi (lw_c13 (List.mem_of_getElem? (i := 26) rfl)) rfl
theorem wm_2908 : (Cond.lays "DrawingHouseModel" "DrawingHouseModel" "labels" "I" : Cond) ∈ lw_g := lw_gi (lw_c13 (List.mem_of_getElem? (i := 28) rfl)) rfl
theorem wm_2910 : (Cond.laysFinal "DrawingHouseModel" "DrawingHouseModel" "labelX" "[I" : Cond) ∈ lw_g := lw_gi (lw_c13 (List.mem_of_getElem? (i := 30) rfl)) rfl
theorem wm_2912 : (Cond.laysFinal "DrawingHouseModel" "DrawingHouseModel" "labelY" "[I" : Cond) ∈ lw_g := lw_gi (lw_c13 (List.mem_of_getElem? (i := 32) rfl)) rfl
theorem wm_2914 : (Cond.lays "DrawingHouseModel" "DrawingHouseModel" "leastX" "I" : Cond) ∈ lw_g := lw_gi (lw_c13 (List.mem_of_getElem? (i := 34) rfl)) rfl
theorem wm_2916 : (Cond.lays "DrawingHouseModel" "DrawingHouseModel" "mostX" "I" : Cond) ∈ lw_g := lw_gi (lw_c13 (List.mem_of_getElem? (i := 36) rfl)) rfl
theorem wm_2918 : (Cond.lays "DrawingHouseModel" "DrawingHouseModel" "leastY" "I" : Cond) ∈ lw_g := lw_gi (lw_c13 (List.mem_of_getElem? (i := 38) rfl)) rfl
theorem wm_2920 : (Cond.lays "DrawingHouseModel" "DrawingHouseModel" "mostY" "I" : Cond) ∈ lw_g := lw_gi (lw_c13 (List.mem_of_getElem? (i := 40) rfl)) rfl
theorem wm_2922 : (Cond.lays "DrawingHouseModel" "DrawingHouseModel" "tokens" "I" : Cond) ∈ lw_g := lw_gi (lw_c13 (List.mem_of_getElem? (i := 42) rfl)) rfl
theorem wm_2924 : (Cond.lays "DrawingHouseModel" "DrawingHouseModel" "cur" "I" : Cond) ∈ lw_g := lw_gi (lw_c13 (List.mem_of_getElem? (i := 44) rfl)) rfl
theorem wm_2926 : (Cond.lays "DrawingHouseModel" "DrawingHouseModel" "opened" "I" : Cond) ∈ lw_g := lw_gi (lw_c13 (List.mem_of_getElem? (i := 46) rfl)) rfl
theorem wm_2928 : (Cond.laysFinal "DrawingHouseModel" "DrawingHouseModel" "tokenKind" "[I" : Cond) ∈ lw_g := lw_gi (lw_c13 (List.mem_of_getElem? (i := 48) rfl)) rfl
theorem wm_2930 : (Cond.laysFinal "DrawingHouseModel" "DrawingHouseModel" "tokenValue" "[J" : Cond) ∈ lw_g := lw_gi (lw_c13 (List.mem_of_getElem? (i := 50) rfl)) rfl
theorem wm_2932 : (Cond.laysFinal "DrawingHouseModel" "DrawingHouseModel" "tokenPlace" "[I" : Cond) ∈ lw_g := lw_gi (lw_c13 (List.mem_of_getElem? (i := 52) rfl)) rfl
theorem wm_2934 : (Cond.laysFinal "DrawingHouseModel" "DrawingHouseModel" "tokenEnd" "[I" : Cond) ∈ lw_g := lw_gi (lw_c13 (List.mem_of_getElem? (i := 54) rfl)) rfl
theorem wm_2936 : (Cond.lays "DrawingHouseModel" "DrawingHouseModel" "styleKind" "I" : Cond) ∈ lw_g := lw_gi (lw_c13 (List.mem_of_getElem? (i := 56) rfl)) rfl
theorem wm_2938 : (Cond.lays "DrawingHouseModel" "DrawingHouseModel" "styleOne" "I" : Cond) ∈ lw_g := lw_gi (lw_c13 (List.mem_of_getElem? (i := 58) rfl)) rfl
theorem wm_2940 : (Cond.laysFinal "DrawingHouseModel" "DrawingHouseModel" "partOfBlocks" "[I" : Cond) ∈ lw_g := lw_gi (lw_c13 (List.mem_of_getElem? (i := 60) rfl)) rfl
theorem wm_2942 : (Cond.laysFinal "DrawingHouseModel" "DrawingHouseModel" "coreOf" "[I" : Cond) ∈ lw_g := lw_gi (lw_c13 (List.mem_of_getElem? (i := 62) rfl)) rfl
theorem wm_2944 : (Cond.laysFinal "DrawingHouseModel" "DrawingHouseModel" "turnedNow" "[Z" : Cond) ∈ lw_g := lw_gi (lw_c13 (List.mem_of_getElem? (i := 64) rfl)) rfl
theorem wm_2946 : (Cond.lays "DrawingHouseModel" "DrawingHouseModel" "octets" "I" : Cond) ∈ lw_g := lw_gi (lw_c13 (List.mem_of_getElem? (i := 66) rfl)) rfl
theorem wm_2948 : (Cond.lays "DrawingHouseModel" "DrawingHouseModel" "texts" "I" : Cond) ∈ lw_g := lw_gi (lw_c13 (List.mem_of_getElem? (i := 68) rfl)) rfl
theorem wm_2950 : (Cond.laysFinal "DrawingHouseModel" "DrawingHouseModel" "octet" "[B" : Cond) ∈ lw_g := lw_gi (lw_c13 (List.mem_of_getElem? (i := 70) rfl)) rfl
theorem wm_2952 : (Cond.laysFinal "DrawingHouseModel" "DrawingHouseModel" "written" "[B" : Cond) ∈ lw_g := lw_gi (lw_c13 (List.mem_of_getElem? (i := 72) rfl)) rfl
theorem wm_2954 : (Cond.lays "DrawingHouseModel" "DrawingHouseModel" "dotWide" "I" : Cond) ∈ lw_g := lw_gi (lw_c13 (List.mem_of_getElem? (i := 74) rfl)) rfl
theorem wm_2956 : (Cond.lays "DrawingHouseModel" "DrawingHouseModel" "dotTall" "I" : Cond) ∈ lw_g := lw_gi (lw_c13 (List.mem_of_getElem? (i := 76) rfl)) rfl
theorem wm_2958 : (Cond.laysFinal "DrawingHouseModel" "DrawingHouseModel" "dots" "[I" : Cond) ∈ lw_g := lw_gi (lw_c13 (List.mem_of_getElem? (i := 78) rfl)) rfl
set_option maxRecDepth 20000 in
theorem i_Dr : ∀ w ∈ u_ws R_Dr F_Dr 21, w ∈ lw_g := List.forall_mem_cons.mpr ⟨wm_512, List.forall_mem_cons.mpr ⟨wm_514, List.forall_mem_cons.mpr ⟨wm_516, List.forall_mem_cons.mpr ⟨wm_518, List.forall_mem_cons.mpr ⟨wm_520, List.forall_mem_cons.mpr ⟨wm_522, List.forall_mem_cons.mpr ⟨wm_524, List.forall_mem_cons.mpr ⟨wm_526, List.forall_mem_cons.mpr ⟨wm_528, List.forall_mem_cons.mpr ⟨wm_530, List.forall_mem_cons.mpr ⟨wm_532, List.forall_mem_cons.mpr ⟨wm_534, List.forall_mem_cons.mpr ⟨wm_536, List.forall_mem_cons.mpr ⟨wm_538, List.forall_mem_cons.mpr ⟨wm_540, List.forall_mem_cons.mpr ⟨wm_542, List.forall_mem_cons.mpr ⟨wm_544, List.forall_mem_cons.mpr ⟨wm_546, List.forall_mem_cons.mpr ⟨wm_548, List.forall_mem_cons.mpr ⟨wm_550, List.forall_mem_cons.mpr ⟨wm_552, List.forall_mem_nil _⟩⟩⟩⟩⟩⟩⟩⟩⟩⟩⟩⟩⟩⟩⟩⟩⟩⟩⟩⟩⟩
set_option maxRecDepth 20000 in
theorem i_Em : ∀ w ∈ u_ws R_Em F_Em 20, w ∈ lw_g := List.forall_mem_cons.mpr ⟨wm_346, List.forall_mem_cons.mpr ⟨wm_348, List.forall_mem_cons.mpr ⟨wm_350, List.forall_mem_cons.mpr ⟨wm_352, List.forall_mem_cons.mpr ⟨wm_354, List.forall_mem_cons.mpr ⟨wm_356, List.forall_mem_cons.mpr ⟨wm_358, List.forall_mem_cons.mpr ⟨wm_360, List.forall_mem_cons.mpr ⟨wm_362, List.forall_mem_cons.mpr ⟨wm_364, List.forall_mem_cons.mpr ⟨wm_366, List.forall_mem_cons.mpr ⟨wm_368, List.forall_mem_cons.mpr ⟨wm_370, List.forall_mem_cons.mpr ⟨wm_372, List.forall_mem_cons.mpr ⟨wm_374, List.forall_mem_cons.mpr ⟨wm_376, List.forall_mem_cons.mpr ⟨wm_378, List.forall_mem_cons.mpr ⟨wm_380, List.forall_mem_cons.mpr ⟨wm_382, List.forall_mem_cons.mpr ⟨wm_384, List.forall_mem_nil _⟩⟩⟩⟩⟩⟩⟩⟩⟩⟩⟩⟩⟩⟩⟩⟩⟩⟩⟩⟩
set_option maxRecDepth 20000 in
theorem i_Fa : ∀ w ∈ u_ws R_Fa F_Fa 15, w ∈ lw_g := List.forall_mem_cons.mpr ⟨wm_428, List.forall_mem_cons.mpr ⟨wm_430, List.forall_mem_cons.mpr ⟨wm_432, List.forall_mem_cons.mpr ⟨wm_434, List.forall_mem_cons.mpr ⟨wm_436, List.forall_mem_cons.mpr ⟨wm_438, List.forall_mem_cons.mpr ⟨wm_440, List.forall_mem_cons.mpr ⟨wm_442, List.forall_mem_cons.mpr ⟨wm_444, List.forall_mem_cons.mpr ⟨wm_446, List.forall_mem_cons.mpr ⟨wm_448, List.forall_mem_cons.mpr ⟨wm_450, List.forall_mem_cons.mpr ⟨wm_452, List.forall_mem_cons.mpr ⟨wm_454, List.forall_mem_cons.mpr ⟨wm_456, List.forall_mem_nil _⟩⟩⟩⟩⟩⟩⟩⟩⟩⟩⟩⟩⟩⟩⟩
set_option maxRecDepth 20000 in
theorem i_Gr : ∀ w ∈ u_ws R_Gr F_Gr 19, w ∈ lw_g := List.forall_mem_cons.mpr ⟨wm_153, List.forall_mem_cons.mpr ⟨wm_155, List.forall_mem_cons.mpr ⟨wm_157, List.forall_mem_cons.mpr ⟨wm_159, List.forall_mem_cons.mpr ⟨wm_161, List.forall_mem_cons.mpr ⟨wm_163, List.forall_mem_cons.mpr ⟨wm_165, List.forall_mem_cons.mpr ⟨wm_167, List.forall_mem_cons.mpr ⟨wm_169, List.forall_mem_cons.mpr ⟨wm_171, List.forall_mem_cons.mpr ⟨wm_173, List.forall_mem_cons.mpr ⟨wm_175, List.forall_mem_cons.mpr ⟨wm_177, List.forall_mem_cons.mpr ⟨wm_179, List.forall_mem_cons.mpr ⟨wm_181, List.forall_mem_cons.mpr ⟨wm_183, List.forall_mem_cons.mpr ⟨wm_185, List.forall_mem_cons.mpr ⟨wm_187, List.forall_mem_cons.mpr ⟨wm_189, List.forall_mem_nil _⟩⟩⟩⟩⟩⟩⟩⟩⟩⟩⟩⟩⟩⟩⟩⟩⟩⟩⟩
set_option maxRecDepth 20000 in
theorem i_La : ∀ w ∈ u_ws R_La F_La 21, w ∈ lw_g := List.forall_mem_cons.mpr ⟨wm_1263, List.forall_mem_cons.mpr ⟨wm_1265, List.forall_mem_cons.mpr ⟨wm_1267, List.forall_mem_cons.mpr ⟨wm_1269, List.forall_mem_cons.mpr ⟨wm_1271, List.forall_mem_cons.mpr ⟨wm_1273, List.forall_mem_cons.mpr ⟨wm_1275, List.forall_mem_cons.mpr ⟨wm_1277, List.forall_mem_cons.mpr ⟨wm_1279, List.forall_mem_cons.mpr ⟨wm_1281, List.forall_mem_cons.mpr ⟨wm_1283, List.forall_mem_cons.mpr ⟨wm_1285, List.forall_mem_cons.mpr ⟨wm_1287, List.forall_mem_cons.mpr ⟨wm_1289, List.forall_mem_cons.mpr ⟨wm_1291, List.forall_mem_cons.mpr ⟨wm_1293, List.forall_mem_cons.mpr ⟨wm_1295, List.forall_mem_cons.mpr ⟨wm_1297, List.forall_mem_cons.mpr ⟨wm_1299, List.forall_mem_cons.mpr ⟨wm_1301, List.forall_mem_cons.mpr ⟨wm_1303, List.forall_mem_nil _⟩⟩⟩⟩⟩⟩⟩⟩⟩⟩⟩⟩⟩⟩⟩⟩⟩⟩⟩⟩⟩
set_option maxRecDepth 20000 in
theorem i_Ne : ∀ w ∈ u_ws R_Ne F_Ne 17, w ∈ lw_g := List.forall_mem_cons.mpr ⟨wm_291, List.forall_mem_cons.mpr ⟨wm_293, List.forall_mem_cons.mpr ⟨wm_295, List.forall_mem_cons.mpr ⟨wm_297, List.forall_mem_cons.mpr ⟨wm_299, List.forall_mem_cons.mpr ⟨wm_301, List.forall_mem_cons.mpr ⟨wm_303, List.forall_mem_cons.mpr ⟨wm_305, List.forall_mem_cons.mpr ⟨wm_307, List.forall_mem_cons.mpr ⟨wm_309, List.forall_mem_cons.mpr ⟨wm_311, List.forall_mem_cons.mpr ⟨wm_313, List.forall_mem_cons.mpr ⟨wm_315, List.forall_mem_cons.mpr ⟨wm_317, List.forall_mem_cons.mpr ⟨wm_319, List.forall_mem_cons.mpr ⟨wm_321, List.forall_mem_cons.mpr ⟨wm_323, List.forall_mem_nil _⟩⟩⟩⟩⟩⟩⟩⟩⟩⟩⟩⟩⟩⟩⟩⟩⟩
set_option maxRecDepth 20000 in
theorem i_Pl : ∀ w ∈ u_ws R_Pl F_Pl 19, w ∈ lw_g := List.forall_mem_cons.mpr ⟨wm_1644, List.forall_mem_cons.mpr ⟨wm_1646, List.forall_mem_cons.mpr ⟨wm_1648, List.forall_mem_cons.mpr ⟨wm_1650, List.forall_mem_cons.mpr ⟨wm_1652, List.forall_mem_cons.mpr ⟨wm_1654, List.forall_mem_cons.mpr ⟨wm_1656, List.forall_mem_cons.mpr ⟨wm_1658, List.forall_mem_cons.mpr ⟨wm_1660, List.forall_mem_cons.mpr ⟨wm_1662, List.forall_mem_cons.mpr ⟨wm_1664, List.forall_mem_cons.mpr ⟨wm_1666, List.forall_mem_cons.mpr ⟨wm_1668, List.forall_mem_cons.mpr ⟨wm_1670, List.forall_mem_cons.mpr ⟨wm_1672, List.forall_mem_cons.mpr ⟨wm_1674, List.forall_mem_cons.mpr ⟨wm_1676, List.forall_mem_cons.mpr ⟨wm_1678, List.forall_mem_cons.mpr ⟨wm_1680, List.forall_mem_nil _⟩⟩⟩⟩⟩⟩⟩⟩⟩⟩⟩⟩⟩⟩⟩⟩⟩⟩⟩
set_option maxRecDepth 20000 in
theorem i_Pn : ∀ w ∈ u_ws R_Pn F_Pn 9, w ∈ lw_g := List.forall_mem_cons.mpr ⟨wm_1482, List.forall_mem_cons.mpr ⟨wm_1484, List.forall_mem_cons.mpr ⟨wm_1486, List.forall_mem_cons.mpr ⟨wm_1488, List.forall_mem_cons.mpr ⟨wm_1490, List.forall_mem_cons.mpr ⟨wm_1492, List.forall_mem_cons.mpr ⟨wm_1494, List.forall_mem_cons.mpr ⟨wm_1496, List.forall_mem_cons.mpr ⟨wm_1498, List.forall_mem_nil _⟩⟩⟩⟩⟩⟩⟩⟩⟩
set_option maxRecDepth 20000 in
theorem i_Re : ∀ w ∈ u_ws R_Re F_Re 12, w ∈ lw_g := List.forall_mem_cons.mpr ⟨wm_211, List.forall_mem_cons.mpr ⟨wm_213, List.forall_mem_cons.mpr ⟨wm_215, List.forall_mem_cons.mpr ⟨wm_217, List.forall_mem_cons.mpr ⟨wm_219, List.forall_mem_cons.mpr ⟨wm_221, List.forall_mem_cons.mpr ⟨wm_223, List.forall_mem_cons.mpr ⟨wm_225, List.forall_mem_cons.mpr ⟨wm_227, List.forall_mem_cons.mpr ⟨wm_229, List.forall_mem_cons.mpr ⟨wm_231, List.forall_mem_cons.mpr ⟨wm_233, List.forall_mem_nil _⟩⟩⟩⟩⟩⟩⟩⟩⟩⟩⟩⟩
set_option maxRecDepth 20000 in
theorem i_Ro : ∀ w ∈ u_ws R_Ro F_Ro 18, w ∈ lw_g := List.forall_mem_cons.mpr ⟨wm_1885, List.forall_mem_cons.mpr ⟨wm_1887, List.forall_mem_cons.mpr ⟨wm_1889, List.forall_mem_cons.mpr ⟨wm_1891, List.forall_mem_cons.mpr ⟨wm_1893, List.forall_mem_cons.mpr ⟨wm_1895, List.forall_mem_cons.mpr ⟨wm_1897, List.forall_mem_cons.mpr ⟨wm_1899, List.forall_mem_cons.mpr ⟨wm_1901, List.forall_mem_cons.mpr ⟨wm_1903, List.forall_mem_cons.mpr ⟨wm_1905, List.forall_mem_cons.mpr ⟨wm_1907, List.forall_mem_cons.mpr ⟨wm_1909, List.forall_mem_cons.mpr ⟨wm_1911, List.forall_mem_cons.mpr ⟨wm_1913, List.forall_mem_cons.mpr ⟨wm_1915, List.forall_mem_cons.mpr ⟨wm_1917, List.forall_mem_cons.mpr ⟨wm_1919, List.forall_mem_nil _⟩⟩⟩⟩⟩⟩⟩⟩⟩⟩⟩⟩⟩⟩⟩⟩⟩⟩
set_option maxRecDepth 20000 in
theorem i_St : ∀ w ∈ u_ws R_St F_St 9, w ∈ lw_g := List.forall_mem_cons.mpr ⟨wm_1208, List.forall_mem_cons.mpr ⟨wm_1210, List.forall_mem_cons.mpr ⟨wm_1212, List.forall_mem_cons.mpr ⟨wm_1214, List.forall_mem_cons.mpr ⟨wm_1216, List.forall_mem_cons.mpr ⟨wm_1218, List.forall_mem_cons.mpr ⟨wm_1220, List.forall_mem_cons.mpr ⟨wm_1222, List.forall_mem_cons.mpr ⟨wm_1224, List.forall_mem_nil _⟩⟩⟩⟩⟩⟩⟩⟩⟩
set_option maxRecDepth 20000 in
theorem i_Sy : ∀ w ∈ u_ws R_Sy F_Sy 17, w ∈ lw_g := List.forall_mem_cons.mpr ⟨wm_2116, List.forall_mem_cons.mpr ⟨wm_2118, List.forall_mem_cons.mpr ⟨wm_2120, List.forall_mem_cons.mpr ⟨wm_2122, List.forall_mem_cons.mpr ⟨wm_2124, List.forall_mem_cons.mpr ⟨wm_2126, List.forall_mem_cons.mpr ⟨wm_2128, List.forall_mem_cons.mpr ⟨wm_2130, List.forall_mem_cons.mpr ⟨wm_2132, List.forall_mem_cons.mpr ⟨wm_2134, List.forall_mem_cons.mpr ⟨wm_2136, List.forall_mem_cons.mpr ⟨wm_2138, List.forall_mem_cons.mpr ⟨wm_2140, List.forall_mem_cons.mpr ⟨wm_2142, List.forall_mem_cons.mpr ⟨wm_2144, List.forall_mem_cons.mpr ⟨wm_2146, List.forall_mem_cons.mpr ⟨wm_2148, List.forall_mem_nil _⟩⟩⟩⟩⟩⟩⟩⟩⟩⟩⟩⟩⟩⟩⟩⟩⟩
set_option maxRecDepth 20000 in
theorem i_Ho : ∀ w ∈ u_ws R_Ho F_Ho 21, w ∈ lw_g := List.forall_mem_cons.mpr ⟨wm_576, List.forall_mem_cons.mpr ⟨wm_578, List.forall_mem_cons.mpr ⟨wm_580, List.forall_mem_cons.mpr ⟨wm_582, List.forall_mem_cons.mpr ⟨wm_584, List.forall_mem_cons.mpr ⟨wm_586, List.forall_mem_cons.mpr ⟨wm_588, List.forall_mem_cons.mpr ⟨wm_590, List.forall_mem_cons.mpr ⟨wm_592, List.forall_mem_cons.mpr ⟨wm_594, List.forall_mem_cons.mpr ⟨wm_596, List.forall_mem_cons.mpr ⟨wm_598, List.forall_mem_cons.mpr ⟨wm_600, List.forall_mem_cons.mpr ⟨wm_602, List.forall_mem_cons.mpr ⟨wm_604, List.forall_mem_cons.mpr ⟨wm_606, List.forall_mem_cons.mpr ⟨wm_608, List.forall_mem_cons.mpr ⟨wm_610, List.forall_mem_cons.mpr ⟨wm_612, List.forall_mem_cons.mpr ⟨wm_614, List.forall_mem_cons.mpr ⟨wm_616, List.forall_mem_nil _⟩⟩⟩⟩⟩⟩⟩⟩⟩⟩⟩⟩⟩⟩⟩⟩⟩⟩⟩⟩⟩
set_option maxRecDepth 20000 in
theorem i_Mo : ∀ w ∈ u_ws R_Mo F_Mo 176, w ∈ lw_g := List.forall_mem_cons.mpr ⟨wm_2608, List.forall_mem_cons.mpr ⟨wm_2610, List.forall_mem_cons.mpr ⟨wm_2612, List.forall_mem_cons.mpr ⟨wm_2614, List.forall_mem_cons.mpr ⟨wm_2616, List.forall_mem_cons.mpr ⟨wm_2618, List.forall_mem_cons.mpr ⟨wm_2620, List.forall_mem_cons.mpr ⟨wm_2622, List.forall_mem_cons.mpr ⟨wm_2624, List.forall_mem_cons.mpr ⟨wm_2626, List.forall_mem_cons.mpr ⟨wm_2628, List.forall_mem_cons.mpr ⟨wm_2630, List.forall_mem_cons.mpr ⟨wm_2632, List.forall_mem_cons.mpr ⟨wm_2634, List.forall_mem_cons.mpr ⟨wm_2636, List.forall_mem_cons.mpr ⟨wm_2638, List.forall_mem_cons.mpr ⟨wm_2640, List.forall_mem_cons.mpr ⟨wm_2642, List.forall_mem_cons.mpr ⟨wm_2644, List.forall_mem_cons.mpr ⟨wm_2646, List.forall_mem_cons.mpr ⟨wm_2648, List.forall_mem_cons.mpr ⟨wm_2650, List.forall_mem_cons.mpr ⟨wm_2652, List.forall_mem_cons.mpr ⟨wm_2654, List.forall_mem_cons.mpr ⟨wm_2656, List.forall_mem_cons.mpr ⟨wm_2658, List.forall_mem_cons.mpr ⟨wm_2660, List.forall_mem_cons.mpr ⟨wm_2662, List.forall_mem_cons.mpr ⟨wm_2664, List.forall_mem_cons.mpr ⟨wm_2666, List.forall_mem_cons.mpr ⟨wm_2668, List.forall_mem_cons.mpr ⟨wm_2670, List.forall_mem_cons.mpr ⟨wm_2672, List.forall_mem_cons.mpr ⟨wm_2674, List.forall_mem_cons.mpr ⟨wm_2676, List.forall_mem_cons.mpr ⟨wm_2678, List.forall_mem_cons.mpr ⟨wm_2680, List.forall_mem_cons.mpr ⟨wm_2682, List.forall_mem_cons.mpr ⟨wm_2684, List.forall_mem_cons.mpr ⟨wm_2686, List.forall_mem_cons.mpr ⟨wm_2688, List.forall_mem_cons.mpr ⟨wm_2690, List.forall_mem_cons.mpr ⟨wm_2692, List.forall_mem_cons.mpr ⟨wm_2694, List.forall_mem_cons.mpr ⟨wm_2696, List.forall_mem_cons.mpr ⟨wm_2698, List.forall_mem_cons.mpr ⟨wm_2700, List.forall_mem_cons.mpr ⟨wm_2702, List.forall_mem_cons.mpr ⟨wm_2704, List.forall_mem_cons.mpr ⟨wm_2706, List.forall_mem_cons.mpr ⟨wm_2708, List.forall_mem_cons.mpr ⟨wm_2710, List.forall_mem_cons.mpr ⟨wm_2712, List.forall_mem_cons.mpr ⟨wm_2714, List.forall_mem_cons.mpr ⟨wm_2716, List.forall_mem_cons.mpr ⟨wm_2718, List.forall_mem_cons.mpr ⟨wm_2720, List.forall_mem_cons.mpr ⟨wm_2722, List.forall_mem_cons.mpr ⟨wm_2724, List.forall_mem_cons.mpr ⟨wm_2726, List.forall_mem_cons.mpr ⟨wm_2728, List.forall_mem_cons.mpr ⟨wm_2730, List.forall_mem_cons.mpr ⟨wm_2732, List.forall_mem_cons.mpr ⟨wm_2734, List.forall_mem_cons.mpr ⟨wm_2736, List.forall_mem_cons.mpr ⟨wm_2738, List.forall_mem_cons.mpr ⟨wm_2740, List.forall_mem_cons.mpr ⟨wm_2742, List.forall_mem_cons.mpr ⟨wm_2744, List.forall_mem_cons.mpr ⟨wm_2746, List.forall_mem_cons.mpr ⟨wm_2748, List.forall_mem_cons.mpr ⟨wm_2750, List.forall_mem_cons.mpr ⟨wm_2752, List.forall_mem_cons.mpr ⟨wm_2754, List.forall_mem_cons.mpr ⟨wm_2756, List.forall_mem_cons.mpr ⟨wm_2758, List.forall_mem_cons.mpr ⟨wm_2760, List.forall_mem_cons.mpr ⟨wm_2762, List.forall_mem_cons.mpr ⟨wm_2764, List.forall_mem_cons.mpr ⟨wm_2766, List.forall_mem_cons.mpr ⟨wm_2768, List.forall_mem_cons.mpr ⟨wm_2770, List.forall_mem_cons.mpr ⟨wm_2772, List.forall_mem_cons.mpr ⟨wm_2774, List.forall_mem_cons.mpr ⟨wm_2776, List.forall_mem_cons.mpr ⟨wm_2778, List.forall_mem_cons.mpr ⟨wm_2780, List.forall_mem_cons.mpr ⟨wm_2782, List.forall_mem_cons.mpr ⟨wm_2784, List.forall_mem_cons.mpr ⟨wm_2786, List.forall_mem_cons.mpr ⟨wm_2788, List.forall_mem_cons.mpr ⟨wm_2790, List.forall_mem_cons.mpr ⟨wm_2792, List.forall_mem_cons.mpr ⟨wm_2794, List.forall_mem_cons.mpr ⟨wm_2796, List.forall_mem_cons.mpr ⟨wm_2798, List.forall_mem_cons.mpr ⟨wm_2800, List.forall_mem_cons.mpr ⟨wm_2802, List.forall_mem_cons.mpr ⟨wm_2804, List.forall_mem_cons.mpr ⟨wm_2806, List.forall_mem_cons.mpr ⟨wm_2808, List.forall_mem_cons.mpr ⟨wm_2810, List.forall_mem_cons.mpr ⟨wm_2812, List.forall_mem_cons.mpr ⟨wm_2814, List.forall_mem_cons.mpr ⟨wm_2816, List.forall_mem_cons.mpr ⟨wm_2818, List.forall_mem_cons.mpr ⟨wm_2820, List.forall_mem_cons.mpr ⟨wm_2822, List.forall_mem_cons.mpr ⟨wm_2824, List.forall_mem_cons.mpr ⟨wm_2826, List.forall_mem_cons.mpr ⟨wm_2828, List.forall_mem_cons.mpr ⟨wm_2830, List.forall_mem_cons.mpr ⟨wm_2832, List.forall_mem_cons.mpr ⟨wm_2834, List.forall_mem_cons.mpr ⟨wm_2836, List.forall_mem_cons.mpr ⟨wm_2838, List.forall_mem_cons.mpr ⟨wm_2840, List.forall_mem_cons.mpr ⟨wm_2842, List.forall_mem_cons.mpr ⟨wm_2844, List.forall_mem_cons.mpr ⟨wm_2846, List.forall_mem_cons.mpr ⟨wm_2848, List.forall_mem_cons.mpr ⟨wm_2850, List.forall_mem_cons.mpr ⟨wm_2852, List.forall_mem_cons.mpr ⟨wm_2854, List.forall_mem_cons.mpr ⟨wm_2856, List.forall_mem_cons.mpr ⟨wm_2858, List.forall_mem_cons.mpr ⟨wm_2860, List.forall_mem_cons.mpr ⟨wm_2862, List.forall_mem_cons.mpr ⟨wm_2864, List.forall_mem_cons.mpr ⟨wm_2866, List.forall_mem_cons.mpr ⟨wm_2868, List.forall_mem_cons.mpr ⟨wm_2870, List.forall_mem_cons.mpr ⟨wm_2872, List.forall_mem_cons.mpr ⟨wm_2874, List.forall_mem_cons.mpr ⟨wm_2876, List.forall_mem_cons.mpr ⟨wm_2878, List.forall_mem_cons.mpr ⟨wm_2880, List.forall_mem_cons.mpr ⟨wm_2882, List.forall_mem_cons.mpr ⟨wm_2884, List.forall_mem_cons.mpr ⟨wm_2886, List.forall_mem_cons.mpr ⟨wm_2888, List.forall_mem_cons.mpr ⟨wm_2890, List.forall_mem_cons.mpr ⟨wm_2892, List.forall_mem_cons.mpr ⟨wm_2894, List.forall_mem_cons.mpr ⟨wm_2896, List.forall_mem_cons.mpr ⟨wm_2898, List.forall_mem_cons.mpr ⟨wm_2900, List.forall_mem_cons.mpr ⟨wm_2902, List.forall_mem_cons.mpr ⟨wm_2904, List.forall_mem_cons.mpr ⟨wm_2906, List.forall_mem_cons.mpr ⟨wm_2908, List.forall_mem_cons.mpr ⟨wm_2910, List.forall_mem_cons.mpr ⟨wm_2912, List.forall_mem_cons.mpr ⟨wm_2914, List.forall_mem_cons.mpr ⟨wm_2916, List.forall_mem_cons.mpr ⟨wm_2918, List.forall_mem_cons.mpr ⟨wm_2920, List.forall_mem_cons.mpr ⟨wm_2922, List.forall_mem_cons.mpr ⟨wm_2924, List.forall_mem_cons.mpr ⟨wm_2926, List.forall_mem_cons.mpr ⟨wm_2928, List.forall_mem_cons.mpr ⟨wm_2930, List.forall_mem_cons.mpr ⟨wm_2932, List.forall_mem_cons.mpr ⟨wm_2934, List.forall_mem_cons.mpr ⟨wm_2936, List.forall_mem_cons.mpr ⟨wm_2938, List.forall_mem_cons.mpr ⟨wm_2940, List.forall_mem_cons.mpr ⟨wm_2942, List.forall_mem_cons.mpr ⟨wm_2944, List.forall_mem_cons.mpr ⟨wm_2946, List.forall_mem_cons.mpr ⟨wm_2948, List.forall_mem_cons.mpr ⟨wm_2950, List.forall_mem_cons.mpr ⟨wm_2952, List.forall_mem_cons.mpr ⟨wm_2954, List.forall_mem_cons.mpr ⟨wm_2956, List.forall_mem_cons.mpr ⟨wm_2958, List.forall_mem_nil _⟩⟩⟩⟩⟩⟩⟩⟩⟩⟩⟩⟩⟩⟩⟩⟩⟩⟩⟩⟩⟩⟩⟩⟩⟩⟩⟩⟩⟩⟩⟩⟩⟩⟩⟩⟩⟩⟩⟩⟩⟩⟩⟩⟩⟩⟩⟩⟩⟩⟩⟩⟩⟩⟩⟩⟩⟩⟩⟩⟩⟩⟩⟩⟩⟩⟩⟩⟩⟩⟩⟩⟩⟩⟩⟩⟩⟩⟩⟩⟩⟩⟩⟩⟩⟩⟩⟩⟩⟩⟩⟩⟩⟩⟩⟩⟩⟩⟩⟩⟩⟩⟩⟩⟩⟩⟩⟩⟩⟩⟩⟩⟩⟩⟩⟩⟩⟩⟩⟩⟩⟩⟩⟩⟩⟩⟩⟩⟩⟩⟩⟩⟩⟩⟩⟩⟩⟩⟩⟩⟩⟩⟩⟩⟩⟩⟩⟩⟩⟩⟩⟩⟩⟩⟩⟩⟩⟩⟩⟩⟩⟩⟩⟩⟩⟩⟩⟩⟩⟩⟩⟩⟩⟩⟩⟩⟩
end
section
theorem lw_v1 {q : MethodName × Nat} (h : q ∈ lw_privs_1) : q ∈ lw_privs := List.mem_append_left _ h
theorem lw_v2 {q : MethodName × Nat} (h : q ∈ lw_privs_2) : q ∈ lw_privs := List.mem_append_right _ (List.mem_append_left _ h)
theorem lw_v3 {q : MethodName × Nat} (h : q ∈ lw_privs_3) : q ∈ lw_privs := List.mem_append_right _ (List.mem_append_right _ (List.mem_append_left _ h))
theorem lw_v4 {q : MethodName × Nat} (h : q ∈ lw_privs_4) : q ∈ lw_privs := List.mem_append_right _ (List.mem_append_right _ (List.mem_append_right _ (List.mem_append_left _ h)))
theorem lw_v5 {q : MethodName × Nat} (h : q ∈ lw_privs_5) : q ∈ lw_privs := List.mem_append_right _ (List.mem_append_right _ (List.mem_append_right _ (List.mem_append_right _ (List.mem_append_left _ h))))
theorem lw_v6 {q : MethodName × Nat} (h : q ∈ lw_privs_6) : q ∈ lw_privs := List.mem_append_right _ (List.mem_append_right _ (List.mem_append_right _ (List.mem_append_right _ (List.mem_append_right _ (List.mem_append_left _ h)))))
theorem lw_v7 {q : MethodName × Nat} (h : q ∈ lw_privs_7) : q ∈ lw_privs := List.mem_append_right _ (List.mem_append_right _ (List.mem_append_right _ (List.mem_append_right _ (List.mem_append_right _ (List.mem_append_right _ (List.mem_append_left _ h))))))
theorem lw_v8 {q : MethodName × Nat} (h : q ∈ lw_privs_8) : q ∈ lw_privs := List.mem_append_right _ (List.mem_append_right _ (List.mem_append_right _ (List.mem_append_right _ (List.mem_append_right _ (List.mem_append_right _ (List.mem_append_right _ (List.mem_append_left _ h)))))))
theorem lw_v9 {q : MethodName × Nat} (h : q ∈ lw_privs_9) : q ∈ lw_privs := List.mem_append_right _ (List.mem_append_right _ (List.mem_append_right _ (List.mem_append_right _ (List.mem_append_right _ (List.mem_append_right _ (List.mem_append_right _ (List.mem_append_right _ (List.mem_append_left _ h))))))))
theorem lw_v10 {q : MethodName × Nat} (h : q ∈ lw_privs_10) : q ∈ lw_privs := List.mem_append_right _ (List.mem_append_right _ (List.mem_append_right _ (List.mem_append_right _ (List.mem_append_right _ (List.mem_append_right _ (List.mem_append_right _ (List.mem_append_right _ (List.mem_append_right _ (List.mem_append_left _ h)))))))))
theorem lw_v11 {q : MethodName × Nat} (h : q ∈ lw_privs_11) : q ∈ lw_privs := List.mem_append_right _ (List.mem_append_right _ (List.mem_append_right _ (List.mem_append_right _ (List.mem_append_right _ (List.mem_append_right _ (List.mem_append_right _ (List.mem_append_right _ (List.mem_append_right _ (List.mem_append_right _ (List.mem_append_left _ h))))))))))
theorem lw_v12 {q : MethodName × Nat} (h : q ∈ lw_privs_12) : q ∈ lw_privs := List.mem_append_right _ (List.mem_append_right _ (List.mem_append_right _ (List.mem_append_right _ (List.mem_append_right _ (List.mem_append_right _ (List.mem_append_right _ (List.mem_append_right _ (List.mem_append_right _ (List.mem_append_right _ (List.mem_append_right _ (List.mem_append_left _ h)))))))))))
theorem lw_v13 {q : MethodName × Nat} (h : q ∈ lw_privs_13) : q ∈ lw_privs := List.mem_append_right _ (List.mem_append_right _ (List.mem_append_right _ (List.mem_append_right _ (List.mem_append_right _ (List.mem_append_right _ (List.mem_append_right _ (List.mem_append_right _ (List.mem_append_right _ (List.mem_append_right _ (List.mem_append_right _ (List.mem_append_right _ (List.mem_append_left _ h))))))))))))
theorem lw_v14 {q : MethodName × Nat} (h : q ∈ lw_privs_14) : q ∈ lw_privs := List.mem_append_right _ (List.mem_append_right _ (List.mem_append_right _ (List.mem_append_right _ (List.mem_append_right _ (List.mem_append_right _ (List.mem_append_right _ (List.mem_append_right _ (List.mem_append_right _ (List.mem_append_right _ (List.mem_append_right _ (List.mem_append_right _ (List.mem_append_right _ (List.mem_append_left _ h)))))))))))))
theorem lw_v15 {q : MethodName × Nat} (h : q ∈ lw_privs_15) : q ∈ lw_privs := List.mem_append_right _ (List.mem_append_right _ (List.mem_append_right _ (List.mem_append_right _ (List.mem_append_right _ (List.mem_append_right _ (List.mem_append_right _ (List.mem_append_right _ (List.mem_append_right _ (List.mem_append_right _ (List.mem_append_right _ (List.mem_append_right _ (List.mem_append_right _ (List.mem_append_right _ (List.mem_append_left _ h))))))))))))))
theorem lw_v16 {q : MethodName × Nat} (h : q ∈ lw_privs_16) : q ∈ lw_privs := List.mem_append_right _ (List.mem_append_right _ (List.mem_append_right _ (List.mem_append_right _ (List.mem_append_right _ (List.mem_append_right _ (List.mem_append_right _ (List.mem_append_right _ (List.mem_append_right _ (List.mem_append_right _ (List.mem_append_right _ (List.mem_append_right _ (List.mem_append_right _ (List.mem_append_right _ (List.mem_append_right _ (List.mem_append_left _ h)))))))))))))))
theorem lw_v17 {q : MethodName × Nat} (h : q ∈ lw_privs_17) : q ∈ lw_privs := List.mem_append_right _ (List.mem_append_right _ (List.mem_append_right _ (List.mem_append_right _ (List.mem_append_right _ (List.mem_append_right _ (List.mem_append_right _ (List.mem_append_right _ (List.mem_append_right _ (List.mem_append_right _ (List.mem_append_right _ (List.mem_append_right _ (List.mem_append_right _ (List.mem_append_right _ (List.mem_append_right _ (List.mem_append_right _ (List.mem_append_left _ h))))))))))))))))
theorem lw_v18 {q : MethodName × Nat} (h : q ∈ lw_privs_18) : q ∈ lw_privs := List.mem_append_right _ (List.mem_append_right _ (List.mem_append_right _ (List.mem_append_right _ (List.mem_append_right _ (List.mem_append_right _ (List.mem_append_right _ (List.mem_append_right _ (List.mem_append_right _ (List.mem_append_right _ (List.mem_append_right _ (List.mem_append_right _ (List.mem_append_right _ (List.mem_append_right _ (List.mem_append_right _ (List.mem_append_right _ (List.mem_append_right _ (List.mem_append_left _ h)))))))))))))))))
theorem lw_v19 {q : MethodName × Nat} (h : q ∈ lw_privs_19) : q ∈ lw_privs := List.mem_append_right _ (List.mem_append_right _ (List.mem_append_right _ (List.mem_append_right _ (List.mem_append_right _ (List.mem_append_right _ (List.mem_append_right _ (List.mem_append_right _ (List.mem_append_right _ (List.mem_append_right _ (List.mem_append_right _ (List.mem_append_right _ (List.mem_append_right _ (List.mem_append_right _ (List.mem_append_right _ (List.mem_append_right _ (List.mem_append_right _ (List.mem_append_right _ (List.mem_append_left _ h))))))))))))))))))
theorem lw_v20 {q : MethodName × Nat} (h : q ∈ lw_privs_20) : q ∈ lw_privs := List.mem_append_right _ (List.mem_append_right _ (List.mem_append_right _ (List.mem_append_right _ (List.mem_append_right _ (List.mem_append_right _ (List.mem_append_right _ (List.mem_append_right _ (List.mem_append_right _ (List.mem_append_right _ (List.mem_append_right _ (List.mem_append_right _ (List.mem_append_right _ (List.mem_append_right _ (List.mem_append_right _ (List.mem_append_right _ (List.mem_append_right _ (List.mem_append_right _ (List.mem_append_right _ (List.mem_append_left _ h)))))))))))))))))))
theorem lw_v21 {q : MethodName × Nat} (h : q ∈ lw_privs_21) : q ∈ lw_privs := List.mem_append_right _ (List.mem_append_right _ (List.mem_append_right _ (List.mem_append_right _ (List.mem_append_right _ (List.mem_append_right _ (List.mem_append_right _ (List.mem_append_right _ (List.mem_append_right _ (List.mem_append_right _ (List.mem_append_right _ (List.mem_append_right _ (List.mem_append_right _ (List.mem_append_right _ (List.mem_append_right _ (List.mem_append_right _ (List.mem_append_right _ (List.mem_append_right _ (List.mem_append_right _ (List.mem_append_right _ (List.mem_append_left _ h))))))))))))))))))))
theorem lw_v22 {q : MethodName × Nat} (h : q ∈ lw_privs_22) : q ∈ lw_privs := List.mem_append_right _ (List.mem_append_right _ (List.mem_append_right _ (List.mem_append_right _ (List.mem_append_right _ (List.mem_append_right _ (List.mem_append_right _ (List.mem_append_right _ (List.mem_append_right _ (List.mem_append_right _ (List.mem_append_right _ (List.mem_append_right _ (List.mem_append_right _ (List.mem_append_right _ (List.mem_append_right _ (List.mem_append_right _ (List.mem_append_right _ (List.mem_append_right _ (List.mem_append_right _ (List.mem_append_right _ (List.mem_append_right _ (List.mem_append_left _ h)))))))))))))))))))))
theorem lw_v23 {q : MethodName × Nat} (h : q ∈ lw_privs_23) : q ∈ lw_privs := List.mem_append_right _ (List.mem_append_right _ (List.mem_append_right _ (List.mem_append_right _ (List.mem_append_right _ (List.mem_append_right _ (List.mem_append_right _ (List.mem_append_right _ (List.mem_append_right _ (List.mem_append_right _ (List.mem_append_right _ (List.mem_append_right _ (List.mem_append_right _ (List.mem_append_right _ (List.mem_append_right _ (List.mem_append_right _ (List.mem_append_right _ (List.mem_append_right _ (List.mem_append_right _ (List.mem_append_right _ (List.mem_append_right _ (List.mem_append_right _ (List.mem_append_left _ h))))))))))))))))))))))
theorem lw_v24 {q : MethodName × Nat} (h : q ∈ lw_privs_24) : q ∈ lw_privs := List.mem_append_right _ (List.mem_append_right _ (List.mem_append_right _ (List.mem_append_right _ (List.mem_append_right _ (List.mem_append_right _ (List.mem_append_right _ (List.mem_append_right _ (List.mem_append_right _ (List.mem_append_right _ (List.mem_append_right _ (List.mem_append_right _ (List.mem_append_right _ (List.mem_append_right _ (List.mem_append_right _ (List.mem_append_right _ (List.mem_append_right _ (List.mem_append_right _ (List.mem_append_right _ (List.mem_append_right _ (List.mem_append_right _ (List.mem_append_right _ (List.mem_append_right _ (List.mem_append_left _ h)))))))))))))))))))))))
theorem lw_v25 {q : MethodName × Nat} (h : q ∈ lw_privs_25) : q ∈ lw_privs := List.mem_append_right _ (List.mem_append_right _ (List.mem_append_right _ (List.mem_append_right _ (List.mem_append_right _ (List.mem_append_right _ (List.mem_append_right _ (List.mem_append_right _ (List.mem_append_right _ (List.mem_append_right _ (List.mem_append_right _ (List.mem_append_right _ (List.mem_append_right _ (List.mem_append_right _ (List.mem_append_right _ (List.mem_append_right _ (List.mem_append_right _ (List.mem_append_right _ (List.mem_append_right _ (List.mem_append_right _ (List.mem_append_right _ (List.mem_append_right _ (List.mem_append_right _ (List.mem_append_right _ (h))))))))))))))))))))))))
section K2L
variable {p : Program} {l : Launch} {e : Env} {R : Room} {s : State} {m : MethodId} {args : Array Value} {below : List Frame} {meth : Method} {c : Code} {H : Heap} {locs : List Loc} {cells slots : Nat} {Q : State → Prop}
  {D : va_G} {cl : List vw_C} {tys : List (ClassId × FieldType)} {ws : va_W} {A : Nat → Prop} {cc : ByteArray} {pc : Nat} {ls : Array Slot} {rest : List Value} {a : Nat} {H0 : Heap}
theorem k_ild (hx : p.tables.exec = Jvm.exec) (hb : c.code = cc) (hK : va_K D cl tys s) (hP : va_P D cl ws H) (q0 t0 : Nat) {cA : ClassId} {n : Nat} {f : Nat → Int32} (ha : ws[q0]? = some (a, .inl (cA, n, .inl f))) (ht : tys[t0]? = some (cA, .int)) {i : Int32} (j : Nat) (hi : i = nI j) (hj : j < n) (hn : n < 2 ^ 31) (hdg : decode cc pc = .ok (.iaload, 1)) (kk : W p l e R s m args below meth c H locs cells slots Q (F0 m (pc + 1) ls (.int (f j) :: rest))) : W p l e R s m args below meth c H locs cells slots Q (F0 m pc ls (.int i :: .ref a :: rest)) := by
  subst hi
  refine va_iald hx hb hK hP q0 t0 ha ht (vp_in_nI hj hn) hdg ?_
  rw [nI_clamp (by omega)]; exact kk
theorem k_ist (hx : p.tables.exec = Jvm.exec) (hb : c.code = cc) (hK : va_K D cl tys s) (hP : va_P D cl ws H) (hD : va_D A ws) (hS : va_S A H0 H locs) (q0 t0 : Nat) {cA : ClassId} {n : Nat} {f : Nat → Int32} (ha : ws[q0]? = some (a, .inl (cA, n, .inl f))) (ht : tys[t0]? = some (cA, .int)) {i : Int32} {x : Int32} (j : Nat) (hi : i = nI j) (hj : j < n) (hn : n < 2 ^ 31) (hdg : decode cc pc = .ok (.iastore, 1)) (kk : ∀ (H1 : Heap) (locs1 : List Loc), va_P D cl (ws.set q0 (a, .inl (cA, n, .inl (upd f j x)))) H1 → va_D A (ws.set q0 (a, .inl (cA, n, .inl (upd f j x)))) → va_S A H0 H1 locs1 → W p l e R s m args below meth c H1 locs1 cells slots Q (F0 m (pc + 1) ls rest)) : W p l e R s m args below meth c H locs cells slots Q (F0 m pc ls (.int x :: .int i :: .ref a :: rest)) := by
  subst hi
  refine va_iast hx hb hK hP hD hS q0 t0 ha ht (vp_in_nI hj hn) hdg (fun H1 locs1 h1 h2 h3 => ?_)
  rw [nI_clamp (by omega)] at h1 h2
  exact kk H1 locs1 h1 h2 h3
theorem k_bld (hx : p.tables.exec = Jvm.exec) (hb : c.code = cc) (hK : va_K D cl tys s) (hP : va_P D cl ws H) (q0 t0 : Nat) {cA : ClassId} {n : Nat} {f : Nat → Int32} (ha : ws[q0]? = some (a, .inl (cA, n, .inl f))) (ht : tys[t0]? = some (cA, .byte)) {i : Int32} (j : Nat) (hi : i = nI j) (hj : j < n) (hn : n < 2 ^ 31) (hdg : decode cc pc = .ok (.baload, 1)) (kk : W p l e R s m args below meth c H locs cells slots Q (F0 m (pc + 1) ls (.int (f j) :: rest))) : W p l e R s m args below meth c H locs cells slots Q (F0 m pc ls (.int i :: .ref a :: rest)) := by
  subst hi
  refine va_bald hx hb hK hP q0 t0 ha ht (vp_in_nI hj hn) hdg ?_
  rw [nI_clamp (by omega)]; exact kk
theorem k_bst (hx : p.tables.exec = Jvm.exec) (hb : c.code = cc) (hK : va_K D cl tys s) (hP : va_P D cl ws H) (hD : va_D A ws) (hS : va_S A H0 H locs) (q0 t0 : Nat) {cA : ClassId} {n : Nat} {f : Nat → Int32} (ha : ws[q0]? = some (a, .inl (cA, n, .inl f))) (ht : tys[t0]? = some (cA, .byte)) {i : Int32} {x : Int32} (j : Nat) (hi : i = nI j) (hj : j < n) (hn : n < 2 ^ 31) (hdg : decode cc pc = .ok (.bastore, 1)) (kk : ∀ (H1 : Heap) (locs1 : List Loc), va_P D cl (ws.set q0 (a, .inl (cA, n, .inl (upd f j (vp_nar .byte x))))) H1 → va_D A (ws.set q0 (a, .inl (cA, n, .inl (upd f j (vp_nar .byte x))))) → va_S A H0 H1 locs1 → W p l e R s m args below meth c H1 locs1 cells slots Q (F0 m (pc + 1) ls rest)) : W p l e R s m args below meth c H locs cells slots Q (F0 m pc ls (.int x :: .int i :: .ref a :: rest)) := by
  subst hi
  refine va_bast hx hb hK hP hD hS q0 t0 ha ht (vp_in_nI hj hn) hdg (fun H1 locs1 h1 h2 h3 => ?_)
  rw [nI_clamp (by omega)] at h1 h2
  exact kk H1 locs1 h1 h2 h3
theorem k_zld (hx : p.tables.exec = Jvm.exec) (hb : c.code = cc) (hK : va_K D cl tys s) (hP : va_P D cl ws H) (q0 t0 : Nat) {cA : ClassId} {n : Nat} {f : Nat → Int32} (ha : ws[q0]? = some (a, .inl (cA, n, .inl f))) (ht : tys[t0]? = some (cA, .boolean)) {i : Int32} (j : Nat) (hi : i = nI j) (hj : j < n) (hn : n < 2 ^ 31) (hdg : decode cc pc = .ok (.baload, 1)) (kk : W p l e R s m args below meth c H locs cells slots Q (F0 m (pc + 1) ls (.int (f j) :: rest))) : W p l e R s m args below meth c H locs cells slots Q (F0 m pc ls (.int i :: .ref a :: rest)) := by
  subst hi
  refine va_zald hx hb hK hP q0 t0 ha ht (vp_in_nI hj hn) hdg ?_
  rw [nI_clamp (by omega)]; exact kk
theorem k_zst (hx : p.tables.exec = Jvm.exec) (hb : c.code = cc) (hK : va_K D cl tys s) (hP : va_P D cl ws H) (hD : va_D A ws) (hS : va_S A H0 H locs) (q0 t0 : Nat) {cA : ClassId} {n : Nat} {f : Nat → Int32} (ha : ws[q0]? = some (a, .inl (cA, n, .inl f))) (ht : tys[t0]? = some (cA, .boolean)) {i : Int32} {x : Int32} (j : Nat) (hi : i = nI j) (hj : j < n) (hn : n < 2 ^ 31) (hdg : decode cc pc = .ok (.bastore, 1)) (kk : ∀ (H1 : Heap) (locs1 : List Loc), va_P D cl (ws.set q0 (a, .inl (cA, n, .inl (upd f j (vp_nar .boolean x))))) H1 → va_D A (ws.set q0 (a, .inl (cA, n, .inl (upd f j (vp_nar .boolean x))))) → va_S A H0 H1 locs1 → W p l e R s m args below meth c H1 locs1 cells slots Q (F0 m (pc + 1) ls rest)) : W p l e R s m args below meth c H locs cells slots Q (F0 m pc ls (.int x :: .int i :: .ref a :: rest)) := by
  subst hi
  refine va_zast hx hb hK hP hD hS q0 t0 ha ht (vp_in_nI hj hn) hdg (fun H1 locs1 h1 h2 h3 => ?_)
  rw [nI_clamp (by omega)] at h1 h2
  exact kk H1 locs1 h1 h2 h3
theorem k_lld (hx : p.tables.exec = Jvm.exec) (hb : c.code = cc) (hK : va_K D cl tys s) (hP : va_P D cl ws H) (q0 t0 : Nat) {cA : ClassId} {n : Nat} {f : Nat → Int64} (ha : ws[q0]? = some (a, .inl (cA, n, .inr (.inl f)))) (ht : tys[t0]? = some (cA, .long)) {i : Int32} (j : Nat) (hi : i = nI j) (hj : j < n) (hn : n < 2 ^ 31) (hdg : decode cc pc = .ok (.laload, 1)) (kk : W p l e R s m args below meth c H locs cells slots Q (F0 m (pc + 1) ls (.long (f j) :: rest))) : W p l e R s m args below meth c H locs cells slots Q (F0 m pc ls (.int i :: .ref a :: rest)) := by
  subst hi
  refine va_lald hx hb hK hP q0 t0 ha ht (vp_in_nI hj hn) hdg ?_
  rw [nI_clamp (by omega)]; exact kk
theorem k_lst (hx : p.tables.exec = Jvm.exec) (hb : c.code = cc) (hK : va_K D cl tys s) (hP : va_P D cl ws H) (hD : va_D A ws) (hS : va_S A H0 H locs) (q0 t0 : Nat) {cA : ClassId} {n : Nat} {f : Nat → Int64} (ha : ws[q0]? = some (a, .inl (cA, n, .inr (.inl f)))) (ht : tys[t0]? = some (cA, .long)) {i : Int32} {x : Int64} (j : Nat) (hi : i = nI j) (hj : j < n) (hn : n < 2 ^ 31) (hdg : decode cc pc = .ok (.lastore, 1)) (kk : ∀ (H1 : Heap) (locs1 : List Loc), va_P D cl (ws.set q0 (a, .inl (cA, n, .inr (.inl (vp_updL f j x))))) H1 → va_D A (ws.set q0 (a, .inl (cA, n, .inr (.inl (vp_updL f j x))))) → va_S A H0 H1 locs1 → W p l e R s m args below meth c H1 locs1 cells slots Q (F0 m (pc + 1) ls rest)) : W p l e R s m args below meth c H locs cells slots Q (F0 m pc ls (.long x :: .int i :: .ref a :: rest)) := by
  subst hi
  refine va_last hx hb hK hP hD hS q0 t0 ha ht (vp_in_nI hj hn) hdg (fun H1 locs1 h1 h2 h3 => ?_)
  rw [nI_clamp (by omega)] at h1 h2
  exact kk H1 locs1 h1 h2 h3
theorem k_add (hx : p.tables.exec = Jvm.exec) (hb : c.code = cc) {x y : Nat} (hdg : decode cc pc = .ok (.iadd, 1)) (k : W p l e R s m args below meth c H locs cells slots Q (F0 m (pc + 1) ls (.int (nI (x + y)) :: rest))) : W p l e R s m args below meth c H locs cells slots Q (F0 m pc ls (.int (nI y) :: .int (nI x) :: rest)) := lv_iadd hx hb hdg (by rw [nI_add]; exact k)
theorem k_mul (hx : p.tables.exec = Jvm.exec) (hb : c.code = cc) {x y : Nat} (hdg : decode cc pc = .ok (.imul, 1)) (k : W p l e R s m args below meth c H locs cells slots Q (F0 m (pc + 1) ls (.int (nI (x * y)) :: rest))) : W p l e R s m args below meth c H locs cells slots Q (F0 m pc ls (.int (nI y) :: .int (nI x) :: rest)) := lv_imul hx hb hdg (by rw [pk_mul]; exact k)
theorem k_sub (hx : p.tables.exec = Jvm.exec) (hb : c.code = cc) {x y : Nat} (h : y ≤ x) (hdg : decode cc pc = .ok (.isub, 1)) (k : W p l e R s m args below meth c H locs cells slots Q (F0 m (pc + 1) ls (.int (nI (x - y)) :: rest))) : W p l e R s m args below meth c H locs cells slots Q (F0 m pc ls (.int (nI y) :: .int (nI x) :: rest)) := lv_isub hx hb hdg (by rw [pk_sub h]; exact k)
theorem k_clt (hx : p.tables.exec = Jvm.exec) (hb : c.code = cc) {x y : Nat} (h1 : x < 2 ^ 31) (h2 : y < 2 ^ 31) {off : Int} {tgt : Nat} (hdg : decode cc pc = .ok (.if_icmp .lt off, 3)) (ht : (pc : Int) + off = (tgt : Int)) (kt : x < y → W p l e R s m args below meth c H locs cells slots Q (F0 m tgt ls rest)) (kf : y ≤ x → W p l e R s m args below meth c H locs cells slots Q (F0 m (pc + 3) ls rest)) : W p l e R s m args below meth c H locs cells slots Q (F0 m pc ls (.int (nI y) :: .int (nI x) :: rest)) := lv_icmp_lt hx hb hdg ht (fun h => kt ((nI_ltI h1 h2).mp h)) (fun h => kf (by have := (not_congr (nI_ltI h1 h2)).mp h; omega))
theorem k_cge (hx : p.tables.exec = Jvm.exec) (hb : c.code = cc) {x y : Nat} (h1 : x < 2 ^ 31) (h2 : y < 2 ^ 31) {off : Int} {tgt : Nat} (hdg : decode cc pc = .ok (.if_icmp .ge off, 3)) (ht : (pc : Int) + off = (tgt : Int)) (kt : y ≤ x → W p l e R s m args below meth c H locs cells slots Q (F0 m tgt ls rest)) (kf : x < y → W p l e R s m args below meth c H locs cells slots Q (F0 m (pc + 3) ls rest)) : W p l e R s m args below meth c H locs cells slots Q (F0 m pc ls (.int (nI y) :: .int (nI x) :: rest)) := lv_icmp_ge hx hb hdg ht (fun h => kt ((nI_leI h2 h1).mp h)) (fun h => kf (by have := (not_congr (nI_leI h2 h1)).mp h; omega))
theorem k_cgt (hx : p.tables.exec = Jvm.exec) (hb : c.code = cc) {x y : Nat} (h1 : x < 2 ^ 31) (h2 : y < 2 ^ 31) {off : Int} {tgt : Nat} (hdg : decode cc pc = .ok (.if_icmp .gt off, 3)) (ht : (pc : Int) + off = (tgt : Int)) (kt : y < x → W p l e R s m args below meth c H locs cells slots Q (F0 m tgt ls rest)) (kf : x ≤ y → W p l e R s m args below meth c H locs cells slots Q (F0 m (pc + 3) ls rest)) : W p l e R s m args below meth c H locs cells slots Q (F0 m pc ls (.int (nI y) :: .int (nI x) :: rest)) := lv_icmp_gt hx hb hdg ht (fun h => kt ((nI_ltI h2 h1).mp h)) (fun h => kf (by have := (not_congr (nI_ltI h2 h1)).mp h; omega))
theorem k_cle (hx : p.tables.exec = Jvm.exec) (hb : c.code = cc) {x y : Nat} (h1 : x < 2 ^ 31) (h2 : y < 2 ^ 31) {off : Int} {tgt : Nat} (hdg : decode cc pc = .ok (.if_icmp .le off, 3)) (ht : (pc : Int) + off = (tgt : Int)) (kt : x ≤ y → W p l e R s m args below meth c H locs cells slots Q (F0 m tgt ls rest)) (kf : y < x → W p l e R s m args below meth c H locs cells slots Q (F0 m (pc + 3) ls rest)) : W p l e R s m args below meth c H locs cells slots Q (F0 m pc ls (.int (nI y) :: .int (nI x) :: rest)) := lv_icmp_le hx hb hdg ht (fun h => kt ((nI_leI h1 h2).mp h)) (fun h => kf (by have := (not_congr (nI_leI h1 h2)).mp h; omega))
theorem k_ceq (hx : p.tables.exec = Jvm.exec) (hb : c.code = cc) {x y : Nat} (h1 : x < 2 ^ 31) (h2 : y < 2 ^ 31) {off : Int} {tgt : Nat} (hdg : decode cc pc = .ok (.if_icmp .eq off, 3)) (ht : (pc : Int) + off = (tgt : Int)) (kt : x = y → W p l e R s m args below meth c H locs cells slots Q (F0 m tgt ls rest)) (kf : x ≠ y → W p l e R s m args below meth c H locs cells slots Q (F0 m (pc + 3) ls rest)) : W p l e R s m args below meth c H locs cells slots Q (F0 m pc ls (.int (nI y) :: .int (nI x) :: rest)) := lv_icmp_eq hx hb hdg ht (fun h => kt ((nI_eq h1 h2).mp h)) (fun h => kf ((not_congr (nI_eq h1 h2)).mp h))
theorem k_cne (hx : p.tables.exec = Jvm.exec) (hb : c.code = cc) {x y : Nat} (h1 : x < 2 ^ 31) (h2 : y < 2 ^ 31) {off : Int} {tgt : Nat} (hdg : decode cc pc = .ok (.if_icmp .ne off, 3)) (ht : (pc : Int) + off = (tgt : Int)) (kt : x ≠ y → W p l e R s m args below meth c H locs cells slots Q (F0 m tgt ls rest)) (kf : x = y → W p l e R s m args below meth c H locs cells slots Q (F0 m (pc + 3) ls rest)) : W p l e R s m args below meth c H locs cells slots Q (F0 m pc ls (.int (nI y) :: .int (nI x) :: rest)) := lv_icmp_ne hx hb hdg ht (fun h => kt ((not_congr (nI_eq h1 h2)).mp h)) (fun h => kf ((nI_eq h1 h2).mp h))
end K2L
end
section
theorem k_tsw (x : Int32) (n : Nat) (hn : n < 1000) : (x.toInt < 0 ∨ ((n : Int) - 1 < x.toInt)) ∨ ∃ j : Nat, j < n ∧ x = nI j := by
  by_cases h : x.toInt < 0
  · exact Or.inl (Or.inl h)
  · by_cases h2 : (n : Int) - 1 < x.toInt
    · exact Or.inl (Or.inr h2)
    · refine Or.inr ⟨x.toInt.toNat, by omega, ?_⟩
      refine Int32.toInt_inj.mp ?_
      rw [nI_toInt (by omega)]
      omega
theorem k_tne {x : Int32} {n : Nat} (h : x.toInt < 0 ∨ ((n : Int) - 1 < x.toInt)) (k : Nat) {v : Int32} (hk : (k : Int) ≤ (n : Int) - 1 ∧ v.toInt = k := by decide) : ¬ x = v := fun e => by
  rw [e, hk.2] at h
  omega
section K4L
variable {p : Program} {l : Launch} {e : Env} {R : Room} {s : State} {m : MethodId} {args : Array Value} {below : List Frame} {meth : Method} {c : Code} {H : Heap} {locs : List Loc} {cells slots : Nat} {Q : State → Prop} {pc : Nat} {ls : Array Slot} {rest : List Value}
theorem k_cst {x v : Int32} (h : x = v) (k : W p l e R s m args below meth c H locs cells slots Q (F0 m pc ls (.int v :: rest))) : W p l e R s m args below meth c H locs cells slots Q (F0 m pc ls (.int x :: rest)) := h ▸ k
end K4L
end
section
section K7L
variable {p : Program} {l : Launch} {e : Env} {R : Room} {s : State} {m : MethodId} {args : Array Value} {below : List Frame} {meth : Method} {c : Code} {H : Heap} {locs : List Loc} {cells slots : Nat} {Q : State → Prop}
variable {cc : ByteArray} {pc : Nat} {ls : Array Slot} {rest : List Value} {D : va_G} {cl : List vw_C} {A : Nat → Prop} {a : Nat} {tys : List (ClassId × FieldType)} {ws : va_W} {H0 : Heap}
/-- arraycopy between arrays of ints or bytes, its numbers as natural ones -/
theorem k_cpy (hexec : p.tables.exec = Jvm.exec) (hb : c.code = cc) (hml : c.maxLocals = ls.size) {own : String} {index : Nat} (hown : s.vm.findClass own = some m.cls) (hlink : (Cond.methodLink own index arraycopyName).before args s = true) (hnat : (Cond.native arraycopyName).before args s = true) (hstat : (Cond.static arraycopyName).before args s = true) (hini : (Cond.initialized "java/lang/System").before args s = true)
    (hK : va_K D cl tys s) (hP : va_P D cl ws H) (hD : va_D A ws) (hS : va_S A H0 H locs) (q0 q1 t0 t1 : Nat) {a0 : Nat} {c0 c1 : ClassId} {n0 n1 : Nat} {f g : Nat → Int32} {ty : FieldType} (ha0 : ws[q0]? = some (a0, .inl (c0, n0, .inl f))) (ha1 : ws[q1]? = some (a, .inl (c1, n1, .inl g))) (ht0 : tys[t0]? = some (c0, ty)) (ht1 : tys[t1]? = some (c1, ty)) (hprim : refKind ty = false)
    (sp_zq dp_zq n_zq : Nat) {sp dp n : Int32} (e1 : sp.toNatClampNeg = sp_zq) (e2 : dp.toNatClampNeg = dp_zq) (e3 : n.toNatClampNeg = n_zq) (h1 : ¬ sp < 0) (h2 : ¬ dp < 0) (h3 : ¬ n < 0) (h4 : sp_zq + n_zq ≤ n0) (h5 : dp_zq + n_zq ≤ n1) (hfit : ∀ i, i < n_zq → fits ty (.int (f (sp_zq + i))) = true)
    (hframes : 1 ≤ R.frames) (hlocals : (rest.map fun v => v.category).sum + (nativeFrameWords "java/lang/System" "arraycopy" 5 + 11) ≤ R.locals) (hdg : decode cc pc = .ok (.invokestatic index, 3))
    (kk : ∀ (H1 : Heap) (locs1 : List Loc), va_P D cl (ws.set q1 (a, .inl (c1, n1, .inl (va_cpy f g sp_zq dp_zq n_zq)))) H1 → va_D A (ws.set q1 (a, .inl (c1, n1, .inl (va_cpy f g sp_zq dp_zq n_zq)))) → va_S A H0 H1 locs1 → W p l e R s m args below meth c H1 locs1 cells slots Q (F0 m (pc + 3) ls rest)) : W p l e R s m args below meth c H locs cells slots Q (F0 m pc ls (.int n :: .int dp :: .ref a :: .int sp :: .ref a0 :: rest)) := by
  subst e1 e2 e3
  exact va_copyi hexec hb hml hown hlink hnat hstat hini hK hP hD hS q0 q1 t0 t1 ha0 ha1 ht0 ht1 hprim h1 h2 h3 h4 h5 hfit hframes hlocals hdg kk
end K7L
end
