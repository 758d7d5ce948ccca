/-! what holds of several regions -/
def tv_hull (t u : tv_T) : Option tv_T := if t.1 = u.1 ∧ t.1 < 4 then some (t.1, mn2 t.2.1 u.2.1, mx2 t.2.2.1 u.2.2.1, t.2.2.2 ++ u.2.2.2) else none
theorem tv_hull_l {ta : Nat → Option Nat} {t u w : tv_T} {v : Value} (h : tv_hull t u = some w) (hv : tv_ok ta t v) : tv_ok ta w v := by
  unfold tv_hull at h
  split at h
  · rename_i e0
    obtain rfl := Option.some.inj h
    rcases hv with ⟨k, x, e, a, b⟩ | ⟨k, x, e, a, b⟩ | ⟨k, a, r, e, e2, e3⟩ | ⟨k, e | ⟨a, r, e, e2, e3⟩⟩ | ⟨k, _⟩ | ⟨k, _⟩
    · exact Or.inl ⟨k, x, e, Int.le_trans (mn2_l _ _) a, Int.le_trans b (mx2_l _ _)⟩
    · exact Or.inr (Or.inl ⟨k, x, e, Int.le_trans (mn2_l _ _) a, Int.le_trans b (mx2_l _ _)⟩)
    · exact Or.inr (Or.inr (Or.inl ⟨k, a, r, e, e2, List.mem_append_left _ e3⟩))
    · exact Or.inr (Or.inr (Or.inr (Or.inl ⟨k, Or.inl e⟩)))
    · exact Or.inr (Or.inr (Or.inr (Or.inl ⟨k, Or.inr ⟨a, r, e, e2, List.mem_append_left _ e3⟩⟩)))
    · omega
    · omega
  · cases h
theorem tv_hull_r {ta : Nat → Option Nat} {t u w : tv_T} {v : Value} (h : tv_hull t u = some w) (hv : tv_ok ta u v) : tv_ok ta w v := by
  unfold tv_hull at h
  split at h
  · rename_i e0
    obtain rfl := Option.some.inj h
    rcases hv with ⟨k, x, e, a, b⟩ | ⟨k, x, e, a, b⟩ | ⟨k, a, r, e, e2, e3⟩ | ⟨k, e | ⟨a, r, e, e2, e3⟩⟩ | ⟨k, _⟩ | ⟨k, _⟩
    · exact Or.inl ⟨e0.1.trans k, x, e, Int.le_trans (mn2_r _ _) a, Int.le_trans b (mx2_r _ _)⟩
    · exact Or.inr (Or.inl ⟨e0.1.trans k, x, e, Int.le_trans (mn2_r _ _) a, Int.le_trans b (mx2_r _ _)⟩)
    · exact Or.inr (Or.inr (Or.inl ⟨e0.1.trans k, a, r, e, e2, List.mem_append_right _ e3⟩))
    · exact Or.inr (Or.inr (Or.inr (Or.inl ⟨e0.1.trans k, Or.inl e⟩)))
    · exact Or.inr (Or.inr (Or.inr (Or.inl ⟨e0.1.trans k, Or.inr ⟨a, r, e, e2, List.mem_append_right _ e3⟩⟩)))
    · omega
    · omega
  · cases h
/-- the kind of what f takes out of each of the regions -/
def rg_hull (G : List rg_T) (f : rg_T → Option tv_T) : List Nat → Option tv_T
  | [] => none
  | [r] => (G[r]?).bind f
  | r :: r2 :: rs => match (G[r]?).bind f, rg_hull G f (r2 :: rs) with
    | some t, some u => tv_hull t u
    | _, _ => none
theorem rg_hull_ok {ta : Nat → Option Nat} {G : List rg_T} {f : rg_T → Option tv_T} : ∀ {rs : List Nat} {w : tv_T}, rg_hull G f rs = some w → ∀ {r : Nat}, r ∈ rs → ∃ g t, G[r]? = some g ∧ f g = some t ∧ ∀ v, tv_ok ta t v → tv_ok ta w v
  | [], _, h, _, _ => by cases h
  | [r0], w, h, r, hr => by
    obtain rfl := List.mem_singleton.mp hr
    unfold rg_hull at h
    cases hg : G[r]? with
    | none => rw [hg] at h; cases h
    | some g => rw [hg] at h; exact ⟨g, w, rfl, h, fun v hv => hv⟩
  | r0 :: r2 :: rs, w, h, r, hr => by
    unfold rg_hull at h
    split at h
    · rename_i t u h1 h2
      rcases List.mem_cons.mp hr with rfl | hr
      · cases hg : G[r]? with
        | none => rw [hg] at h1; cases h1
        | some g => rw [hg] at h1; exact ⟨g, t, rfl, h1, fun v hv => tv_hull_l h hv⟩
      · obtain ⟨g, t2, e1, e2, e3⟩ := rg_hull_ok (ta := ta) h2 hr
        exact ⟨g, t2, e1, e2, fun v hv => tv_hull_r h (e3 v hv)⟩
    · cases h
/-- where a place lies, modulo M -/
def of_rng (y : sy_T) (b M : Nat) : Nat × Nat := match y.2.2.2.2.1.find? (fun q => q.1 == b && decide (0 ≤ q.2.2.1) && decide (q.2.2.2 < (M : Int)) && y.2.2.2.2.2.any (fun d => d.1 == q.2.1 && d.2 == M)) with
  | some q => (q.2.2.1.toNat, q.2.2.2.toNat)
  | none => if y.2.2.2.2.2.any (fun d => d.1 == b && d.2 == M) then (0, 0) else (0, M - 1)
theorem md_at {z k o : Int} {M : Nat} (h : z = (M : Int) * k + o) (h0 : 0 ≤ z) (h1 : 0 ≤ o) (h2 : o < M) : z.toNat % M = o.toNat := by
  have e : z % (M : Int) = o := by rw [h, Int.add_comm, Int.add_mul_emod_self_left, Int.emod_eq_of_lt h1 h2]
  have e2 : ((z.toNat % M : Nat) : Int) = o := by rw [Int.natCast_emod, Int.toNat_of_nonneg h0]; exact e
  omega
theorem of_rng_ok {ta : Nat → Option Nat} {ws : va_W} {vs : List Value} {ls : Array Slot} {nL : Nat} {st : List Value} {y : sy_T} (h : sy_ok ta ws vs ls nL st y) {b M : Nat} {x : Int32} (hb : vs[b]? = some (.int x)) (h0 : 0 ≤ x.toInt) (hM : 0 < M) : (of_rng y b M).1 ≤ x.toInt.toNat % M ∧ x.toInt.toNat % M ≤ (of_rng y b M).2 := by
  unfold of_rng
  split
  · rename_i q hq
    have e1 := List.find?_some hq
    simp only [Bool.and_eq_true, beq_iff_eq, decide_eq_true_eq, List.any_eq_true] at e1
    obtain ⟨⟨⟨e2, e3⟩, e4⟩, d, d1, d2, d3⟩ := e1
    obtain ⟨x2, z2, c1, c2, c3, c4⟩ := h.2.2.2.2.1 q (List.mem_of_find?_eq_some hq)
    rw [e2, hb] at c1
    obtain rfl := Value.int.inj (Option.some.inj c1)
    obtain ⟨z3, k, f1, f2⟩ := h.2.2.2.2.2 d d1
    rw [d2, c2] at f1
    obtain rfl := Value.int.inj (Option.some.inj f1)
    rw [d3] at f2
    have e := md_at (z := x.toInt) (k := k) (o := x.toInt - z2.toInt) (M := M) (by rw [← f2]; omega) h0 (by omega) (by omega)
    show q.2.2.1.toNat ≤ _ ∧ _ ≤ q.2.2.2.toNat
    omega
  · split
    · rename_i q
      obtain ⟨d, d1, d2⟩ := List.any_eq_true.mp q
      simp only [Bool.and_eq_true, beq_iff_eq] at d2
      obtain ⟨z3, k, f1, f2⟩ := h.2.2.2.2.2 d d1
      rw [d2.1, hb] at f1
      obtain rfl := Value.int.inj (Option.some.inj f1)
      rw [d2.2] at f2
      have e := md_at (z := x.toInt) (k := k) (o := 0) (M := M) (by rw [f2]; omega) h0 (by omega) (by omega)
      show 0 ≤ _ ∧ _ ≤ 0
      omega
    · have := Nat.mod_lt x.toInt.toNat hM
      show 0 ≤ _ ∧ _ ≤ M - 1
      omega
def sg_hull : List tv_T → Option tv_T
  | [] => none
  | [t] => some t
  | t :: u :: r => match sg_hull (u :: r) with
    | some w => tv_hull t w
    | none => none
theorem sg_hull_ok {ta : Nat → Option Nat} {v : Value} : ∀ {L : List tv_T} {w t : tv_T}, sg_hull L = some w → t ∈ L → tv_ok ta t v → tv_ok ta w v
  | [], _, _, h, _, _ => by cases h
  | [t0], w, t, h, ht, hv => by
    obtain rfl := List.mem_singleton.mp ht
    rw [← Option.some.inj h]; exact hv
  | t0 :: u :: r, w, t, h, ht, hv => by
    unfold sg_hull at h
    split at h
    · rename_i w0 hw
      rcases List.mem_cons.mp ht with rfl | ht
      · exact tv_hull_l h hv
      · exact tv_hull_r h (sg_hull_ok hw ht hv)
    · cases h
def sg_part (L : List tv_T) (q : Nat × Nat) : List tv_T := (L.drop q.1).take (q.2 + 1 - q.1)
theorem sg_part_mem {L : List tv_T} {q : Nat × Nat} {o : Nat} {t : tv_T} (h1 : q.1 ≤ o) (h2 : o ≤ q.2) (ht : L[o]? = some t) : t ∈ sg_part L q := by
  refine List.mem_of_getElem? (i := o - q.1) ?_
  unfold sg_part
  rw [List.getElem?_take_of_lt (by omega), List.getElem?_drop, show q.1 + (o - q.1) = o by omega]
  exact ht
def el_o (o : Option tv_T) (e : tv_T) : tv_T := match o with
  | some t => if t.1 = 0 ∨ t.1 = 5 then t else e
  | none => e
def el_t (y : sy_T) (b : Nat) (g : rg_T) : Option tv_T := if g.2.2.2.2.length = 0 then some g.2.2.2.1 else some (el_o (sg_hull (sg_part g.2.2.2.2 (of_rng y b g.2.2.2.2.length))) (0, g.2.2.2.1.2.1, g.2.2.2.1.2.2.1, []))
/-- an element of an array of ints -/
theorem el_t_ok {ta : Nat → Option Nat} {ws : va_W} {vs : List Value} {ls : Array Slot} {nL : Nat} {st : List Value} {y : sy_T} (h : sy_ok ta ws vs ls nL st y) {b n : Nat} {x : Int32} (hb : vs[b]? = some (.int x)) (h0 : 0 ≤ x.toInt) (hn : x.toInt.toNat < n) {g : rg_T} (hk0 : g.2.2.2.1.1 = 0) {t : tv_T} (he : el_t y b g = some t) {f : Nat → Int32} (h1 : ∀ j, j < n → tv_ok ta g.2.2.2.1 (.int (f j))) (h2 : ∀ (j : Nat) (t : tv_T), j < n → g.2.2.2.2[j % g.2.2.2.2.length]? = some t → tv_ok ta t (.int (f j))) : tv_ok ta t (.int (f x.toInt.toNat)) := by
  unfold el_t at he
  split at he
  · rw [← Option.some.inj he]; exact h1 _ hn
  · have hM : 0 < g.2.2.2.2.length := by omega
    have hr := of_rng_ok h hb h0 hM
    have hlt := Nat.mod_lt x.toInt.toNat hM
    have ht := List.getElem?_eq_getElem hlt
    rw [← Option.some.inj he]
    have hel : tv_ok ta (0, g.2.2.2.1.2.1, g.2.2.2.1.2.2.1, []) (.int (f x.toInt.toNat)) := by
      obtain ⟨x', e1, a1, a2⟩ := tv_int (h1 _ hn) hk0
      exact Or.inl ⟨rfl, x', e1, a1, a2⟩
    unfold el_o
    split
    · rename_i t0 hs0
      split
      · exact sg_hull_ok hs0 (sg_part_mem hr.1 hr.2 ht) (h2 _ _ hn ht)
      · exact hel
    · exact hel
def el_i (y : sy_T) (b : Nat) (hi : Int) (g : rg_T) : Option tv_T := if g.1 = 0 ∧ hi < (g.2.1 : Int) then el_t y b g else none
/-- a value of a kind gets a name; what divides it is kept -/
def sy_pushT (y : sy_T) (t : tv_T) (r : List Nat) : sy_T := if t.1 = 5 then sy_dvA (sy_push y (0, t.2.1, t.2.2.1, []) r) y.1.length (t.2.2.2.headD 1) else sy_push y t r
theorem sy_pushedT {ta : Nat → Option Nat} {ws : va_W} {vs : List Value} {ls : Array Slot} {nL : Nat} {st st' : List Value} {y : sy_T} {is : List Nat} {t : tv_T} {v : Value} (h : sy_ok ta ws vs ls nL st y) (hs : sy_st vs is st') (hv : tv_ok ta t v) : sy_ok ta ws (vs ++ [v]) ls nL (v :: st') (sy_pushT y t is) := by
  unfold sy_pushT
  split
  · rename_i h5
    obtain ⟨x, rfl, a, b, q, hq⟩ := tv_div hv h5
    refine sy_dvA_ok (sy_pushed h hs (Or.inl ⟨rfl, x, rfl, a, b⟩)) ⟨x, q, ?_, hq⟩
    show (vs ++ [Value.int x])[y.1.length]? = _
    rw [← h.1.1, List.getElem?_append_right (Nat.le_refl _), Nat.sub_self]; rfl
  · exact sy_pushed h hs hv
def el_of (lo : Nat → Bool) (hi : Int) (g : rg_T) : Option tv_T := if lo g.1 = true ∧ hi < (g.2.1 : Int) then some g.2.2.2.1 else none
def fd_of (ci k : Nat) (g : rg_T) : Option tv_T := if g.1 = ci + 10 then g.2.2.2.2[k]? else none
def sy_mfind (y : sy_T) (a k : Nat) : Option Nat := (y.2.2.2.1.find? (fun q => q.1.1 == a && q.1.2 == k)).map (fun q => q.2)
theorem sy_mfind_ok {y : sy_T} {a k n : Nat} (h : sy_mfind y a k = some n) : ((a, k), n) ∈ y.2.2.2.1 := by
  unfold sy_mfind at h
  cases hf : y.2.2.2.1.find? (fun q => q.1.1 == a && q.1.2 == k) with
  | none => rw [hf] at h; cases h
  | some q =>
    rw [hf] at h
    have e : q.2 = n := Option.some.inj h
    have h1 := List.mem_of_find?_eq_some hf
    have h2 := List.find?_some hf
    simp only [Bool.and_eq_true, beq_iff_eq] at h2
    have e2 : ((a, k), n) = q := by rw [← h2.1, ← h2.2, ← e]
    rw [e2]; exact h1
/-- a field is read -/
def tr_get (G : List rg_T) (ci k : Nat) (y : sy_T) : Option sy_T := match y.2.2.1 with
  | a :: r => match y.1[a]? with
    | some t => if t.1 = 2 then (match rg_hull G (fd_of ci k) t.2.2.2 with
      | some w => (match sy_mfind y a k with
        | some n => some (sy_at y (n :: r))
        | none => some (let z := sy_pushT y w r; (z.1, z.2.1, z.2.2.1, ((a, k), y.1.length) :: z.2.2.2.1, z.2.2.2.2)))
      | none => none) else none
    | none => none
  | [] => none
/-- an element is read -/
def tr_ald (G : List rg_T) (i : ClassFile.Instr) (len : Nat) (y : sy_T) : Option sy_T := match y.2.2.1 with
  | b :: a :: r => match y.1[a]?, y.1[b]? with
    | some t, some u => if t.1 = 2 ∧ u.1 = 0 ∧ 0 ≤ u.2.1 ∧ len = 1 then (match i with
      | .iaload => (rg_hull G (el_i y b u.2.2.1) t.2.2.2).map (fun w => sy_push y w r)
      | .baload => (rg_hull G (el_of (fun k => k == 1 || k == 2) u.2.2.1) t.2.2.2).map (fun w => sy_push y w r)
      | .laload => (rg_hull G (el_of (fun k => k == 3) u.2.2.1) t.2.2.2).map (fun w => sy_push y w r)
      | .aaload => (rg_hull G (el_of (fun k => decide (4 ≤ k) && decide (k < 8)) u.2.2.1) t.2.2.2).map (fun w => sy_push y w r)
      | _ => none) else none
    | _, _ => none
  | _ => none
/-- how long an array is -/
def ln_of (g : rg_T) : Option tv_T := if g.1 < 8 ∧ g.2.2.1 ≤ 2147483647 then some (0, (g.2.1 : Int), (g.2.2.1 : Int), []) else none
def tr_len (G : List rg_T) (i : ClassFile.Instr) (len : Nat) (y : sy_T) : Option sy_T := match y.2.2.1 with
  | a :: r => match y.1[a]? with
    | some t => match i with
      | .arraylength => if t.1 = 2 ∧ len = 1 then (rg_hull G ln_of t.2.2.2).map (fun w => sy_push y w r) else none
      | _ => none
    | none => none
  | [] => none
theorem el_of_ok {lo : Nat → Bool} {hi : Int} {g : rg_T} {t : tv_T} (h : el_of lo hi g = some t) : lo g.1 = true ∧ hi < (g.2.1 : Int) ∧ g.2.2.2.1 = t := by
  unfold el_of at h
  split at h
  · rename_i q; exact ⟨q.1, q.2, Option.some.inj h⟩
  · cases h
theorem in_nat {x : Int32} {n : Nat} (h0 : 0 ≤ x.toInt) (h1 : x.toInt < n) : vp_in x n ∧ x.toNatClampNeg = x.toInt.toNat ∧ x.toInt.toNat < n := ⟨vp_in_iff.mpr ⟨h0, h1⟩, rfl, by omega⟩
section M9
variable {p : Program} {l : Launch} {e : Env} {R : Room} {s : State} {m : MethodId} {args : Array Value} {below : List Frame} {meth : Method} {c : Code} {H : Heap} {locs : List Loc} {cells slots : Nat} {Q : State → Prop} {cc : ByteArray} {pc : Nat} {i : ClassFile.Instr} {len nL : Nat} {v0 : List Value} {ta : Nat → Option Nat} {ws : va_W} {y y' : sy_T} {D : va_G} {kA : Nat → ClassId} {G : List rg_T} {A : Nat → Prop} {ret : Option FieldType} {own nm : String}
theorem th_at (hth : th_ok kA G ta ws) {a r : Nat} (h : ta a = some r) {g : rg_T} (hg : G[r]? = some g) : ∃ (q0 : Nat) (e : va_E), ws[q0]? = some (a, e) ∧ rg_ok kA ta g e := by
  obtain ⟨e, h2, h3⟩ := th_in hth h hg
  obtain ⟨q0, hq⟩ := List.mem_iff_getElem?.mp h2
  exact ⟨q0, e, hq, h3⟩
/-- a field's rule: the link is there -/
def gf_rule (own : String) (idx ci k : Nat) : Prop := ∀ (p : Program) (l : Launch) (e : Env) (R : Room) (s : State) (m : MethodId) (args : Array Value) (below : List Frame) (meth : Method) (c : Code) (H : Heap) (locs : List Loc) (cells slots : Nat) (Q : State → Prop) (cc : ByteArray) (pc nL : Nat) (ret : Option FieldType) (nm : String) (D : va_G) (kA : Nat → ClassId) (ws : va_W) (ls : Array Slot) (rest : List Value) (q0 a : Nat) (fs : List Value) (v : Value),
  cx p s m args meth c cc nL ret own nm → va_K D classes (TY kA) s → va_P D classes ws H → ws[q0]? = some (a, .inr (ci, fs)) → fs[k]? = some v → decode cc pc = .ok (.getfield idx, 3) → W p l e R s m args below meth c H locs cells slots Q (F0 m (pc + 3) ls (v :: rest)) → W p l e R s m args below meth c H locs cells slots Q (F0 m pc ls (.ref a :: rest))
theorem gf_mk {own : String} {idx ci k : Nat} {C : String} {T : u_T} {N : Nat} (hc : classes[ci]? = some (C, T, N)) (hi : ∀ w ∈ u_ws C T N, w ∈ lw_g) (hk : k < N) (hl : Cond.fieldLink own idx C (T k).2.1 (T k).2.2.1 ∈ lw_g) (ho : (T k).1 = C) : gf_rule own idx ci k :=
  fun _ _ _ _ _ _ _ _ _ _ _ _ _ _ _ _ _ _ _ _ _ _ _ _ _ q0 _ _ _ X hK hP he hv hd kk => k_get X hK hP q0 he hc hi k hk hl ho hv hd kk
theorem tr_get_ok {idx ci k : Nat} (hr : gf_rule own idx ci k) (X : cx p s m args meth c cc nL ret own nm) (hK : va_K D classes (TY kA) s) (hP : va_P D classes ws H) (hD : va_D A ws) (hth : th_ok kA G ta ws) (hd : decode cc pc = .ok (.getfield idx, 3)) (h : tr_get G ci k y = some y') (kk : sy_go p l e R s m args below meth c H locs cells slots Q nL v0 ta ws (pc + 3) y') : sy_go p l e R s m args below meth c H locs cells slots Q nL v0 ta ws pc y := by
  intro vs ls st hp0 hy
  unfold tr_get at h
  have hs := hy.2.2.1
  split at h
  · rename_i a r hst
    rw [hst] at hs
    split at h
    · rename_i t hta
      obtain ⟨va, rest, rfl, ha, oa, hr2⟩ := sy_one hy.1 hs hta
      split at h
      · rename_i hk
        obtain ⟨ad, rg, rfl, h1, h2⟩ := tv_ref oa hk
        split at h
        · rename_i w hw
          obtain ⟨g, t2, g1, g2, g3⟩ := rg_hull_ok (ta := ta) hw h2
          obtain ⟨q0, e0, hq, hgo⟩ := th_at hth h1 g1
          unfold fd_of at g2
          split at g2
          · rename_i hg10
            rcases hgo with ⟨z, _⟩ | ⟨z, _⟩ | ⟨_, z, _⟩ | ⟨_, fs, rfl, hlen, hfs⟩
            · omega
            · omega
            · omega
            · have hci : g.1 - 10 = ci := by omega
              rw [hci] at hq
              have hlt := (List.getElem?_eq_some_iff.mp g2).1
              rw [← hlen] at hlt
              have hv := List.getElem?_eq_getElem hlt
              refine hr _ _ _ _ _ _ _ _ _ _ _ _ _ _ _ _ _ _ _ _ _ _ _ _ _ q0 ad fs (fs[k]) X hK hP hq hv hd ?_
              split at h
              · rename_i n hn
                obtain rfl := Option.some.inj h
                obtain ⟨a2, ci2, fs2, v2, m1, m2, m3, m4⟩ := hy.2.2.2.1 _ (sy_mfind_ok hn)
                have m1' : vs[a]? = some (.ref a2) := m1
                rw [ha] at m1'
                have ea : ad = a2 := by have := Option.some.inj m1'; injection this
                obtain ⟨j, hj⟩ := List.mem_iff_getElem?.mp m2
                have ej := hD.1 q0 j _ _ hq hj ea
                rw [← ej, hq] at hj
                have e9 := Option.some.inj hj
                have e8 : fs = fs2 := by injection e9 with _ e7; injection e7 with e6; injection e6
                have m3' : fs2[k]? = some v2 := m3
                rw [← e8, hv] at m3'
                rw [Option.some.inj m3']
                exact kk _ _ _ (by first | exact hp0 | exact pre_app hp0) (sy_stack hy (is := n :: r) (st' := v2 :: rest) ⟨m4, hr2⟩)
              · obtain rfl := Option.some.inj h
                have hp := sy_pushedT hy hr2 (g3 _ (hfs k t2 _ g2 hv))
                refine kk _ _ _ (pre_app hp0) ⟨hp.1, hp.2.1, hp.2.2.1, fun q hq2 => ?_, hp.2.2.2.2⟩
                rcases List.mem_cons.mp hq2 with rfl | hq2
                · refine ⟨ad, ci, fs, fs[k], sy_app ha, List.mem_of_getElem? hq, hv, ?_⟩
                  show (vs ++ [fs[k]])[y.1.length]? = _
                  rw [← hy.1.1, List.getElem?_append_right (Nat.le_refl _), Nat.sub_self]; rfl
                · exact hp.2.2.2.1 q hq2
          · cases g2
        · cases h
      · cases h
    · cases h
  · cases h
def el_E (e : ClassId × vp_A) (j : Nat) : Int := match e with
  | (_, _, .inl f) => (f j).toInt
  | (_, _, .inr (.inl f)) => (f j).toInt
  | (_, _, .inr (.inr (.inr (.inr f)))) => (match f j with | some b => ((b : Nat) : Int) | none => 0)
  | _ => 0
theorem rf_ad (o : Option Nat) : ((v_ad (va_rf o) : Nat) : Int) = (match o with | some b => ((b : Nat) : Int) | none => 0) := by cases o <;> rfl
def al_X (i : ClassFile.Instr) (ws : va_W) (y : sy_T) (vs : List Value) : Prop := ∀ a b r, y.2.2.1 = b :: a :: r → ∃ (ad : Nat) (x : Int32) (e : ClassId × vp_A), vs[a]? = some (.ref ad) ∧ vs[b]? = some (.int x) ∧ (ad, .inl e) ∈ ws ∧ 0 ≤ x.toInt ∧ y.1.length < vs.length ∧ ((i = .aaload ∧ ((n_ad vs y.1.length : Nat) : Int) = el_E e x.toInt.toNat) ∨ (i ≠ .aaload ∧ n_iv vs y.1.length = el_E e x.toInt.toNat))
theorem tr_ald_okX (X : cx p s m args meth c cc nL ret own nm) (hK : va_K D classes (TY kA) s) (hP : va_P D classes ws H) (hth : th_ok kA G ta ws) (hd : decode cc pc = .ok (i, len)) (h : tr_ald G i len y = some y') (kk : sy_goX p l e R s m args below meth c H locs cells slots Q nL v0 ta ws (al_X i ws y) (pc + len) y') : sy_go p l e R s m args below meth c H locs cells slots Q nL v0 ta ws pc y := by
  intro vs ls st hp0 hy
  unfold tr_ald at h
  have hs := hy.2.2.1
  split at h
  · rename_i b a r hst
    rw [hst] at hs
    split at h
    · rename_i t u hta hub
      obtain ⟨va, vb, rest, rfl, ha, hb2, oa, ob, hr⟩ := sy_two hy.1 hs hta hub
      split at h
      · rename_i hk
        obtain ⟨ad, rg, rfl, h1, h2⟩ := tv_ref oa hk.1
        obtain ⟨x, rfl, x1, x2⟩ := tv_int ob hk.2.1
        have x0 : 0 ≤ x.toInt := by have := hk.2.2.1; omega
        obtain rfl := hk.2.2.2
        have X0 : ∀ (v : Value) (e0 : ClassId × vp_A), (ad, .inl e0) ∈ ws → ((i = .aaload ∧ ((v_ad v : Nat) : Int) = el_E e0 x.toInt.toNat) ∨ (i ≠ .aaload ∧ v_iv v = el_E e0 x.toInt.toNat)) → al_X i ws y (vs ++ [v]) := fun v e0 hm hv a' b' r' hst' => by
          rw [hst] at hst'
          cases hst'
          refine ⟨ad, x, e0, sy_app ha, sy_app hb2, hm, x0, ?_⟩
          have hn : (vs ++ [v])[y.1.length]? = some v := by rw [← hy.1.1, List.getElem?_append_right (Nat.le_refl _), Nat.sub_self]; rfl
          refine ⟨n_lt hn, ?_⟩
          unfold n_iv n_ad
          rw [n_v_of hn]
          exact hv
        split at h
        · obtain ⟨w, hw, rfl⟩ := Option.map_eq_some_iff.mp h
          obtain ⟨g, t2, g1, g2, g3⟩ := rg_hull_ok (ta := ta) hw h2
          obtain ⟨q0, e0, hq, hgo⟩ := th_at hth h1 g1
          unfold el_i at g2
          split at g2
          · rename_i hk0
            obtain ⟨k0, k2⟩ := hk0
            rcases hgo with ⟨_, n, f, rfl, l1, l2, l3, hf, hf2⟩ | ⟨z, _⟩ | ⟨z, _⟩ | ⟨z, _⟩
            · rw [k0] at hq
              obtain ⟨i1, i2, i3⟩ := in_nat (x := x) (n := n) x0 (by omega)
              refine va_iald X.1 X.2.1 hK hP q0 0 hq rfl i1 hd (kk _ _ _ (pre_app hp0) (X0 _ _ (List.mem_of_getElem? hq) (Or.inr ⟨(fun e => by cases e), rfl⟩)) (sy_pushed hy hr (g3 _ ?_)))
              rw [i2]
              exact el_t_ok hy hb2 x0 i3 l3 g2 hf hf2
            · omega
            · omega
            · omega
          · cases g2
        · obtain ⟨w, hw, rfl⟩ := Option.map_eq_some_iff.mp h
          obtain ⟨g, t2, g1, g2, g3⟩ := rg_hull_ok (ta := ta) hw h2
          obtain ⟨q0, e0, hq, hgo⟩ := th_at hth h1 g1
          obtain ⟨k1, k2, rfl⟩ := el_of_ok g2
          have k0 : g.1 = 1 ∨ g.1 = 2 := by simpa using k1
          rcases hgo with ⟨_, n, f, rfl, l1, l2, _, hf, _⟩ | ⟨z, _⟩ | ⟨z, _⟩ | ⟨z, _⟩
          · obtain ⟨i1, i2, i3⟩ := in_nat (x := x) (n := n) x0 (by omega)
            rcases k0 with k0 | k0
            · rw [k0] at hq
              exact va_bald X.1 X.2.1 hK hP q0 1 hq rfl i1 hd (kk _ _ _ (pre_app hp0) (X0 _ _ (List.mem_of_getElem? hq) (Or.inr ⟨(fun e => by cases e), rfl⟩)) (sy_pushed hy hr (g3 _ (hf _ (by rw [i2]; exact i3)))))
            · rw [k0] at hq
              exact va_zald X.1 X.2.1 hK hP q0 2 hq rfl i1 hd (kk _ _ _ (pre_app hp0) (X0 _ _ (List.mem_of_getElem? hq) (Or.inr ⟨(fun e => by cases e), rfl⟩)) (sy_pushed hy hr (g3 _ (hf _ (by rw [i2]; exact i3)))))
          · omega
          · omega
          · omega
        · obtain ⟨w, hw, rfl⟩ := Option.map_eq_some_iff.mp h
          obtain ⟨g, t2, g1, g2, g3⟩ := rg_hull_ok (ta := ta) hw h2
          obtain ⟨q0, e0, hq, hgo⟩ := th_at hth h1 g1
          obtain ⟨k1, k2, rfl⟩ := el_of_ok g2
          have k0 : g.1 = 3 := by simpa using k1
          rcases hgo with ⟨z, _⟩ | ⟨_, n, f, rfl, l1, l2, _, hf⟩ | ⟨z, _⟩ | ⟨z, _⟩
          · omega
          · obtain ⟨i1, i2, i3⟩ := in_nat (x := x) (n := n) x0 (by omega)
            exact va_lald X.1 X.2.1 hK hP q0 3 hq rfl i1 hd (kk _ _ _ (pre_app hp0) (X0 _ _ (List.mem_of_getElem? hq) (Or.inr ⟨(fun e => by cases e), rfl⟩)) (sy_pushed hy hr (g3 _ (hf _ (by rw [i2]; exact i3)))))
          · omega
          · omega
        · obtain ⟨w, hw, rfl⟩ := Option.map_eq_some_iff.mp h
          obtain ⟨g, t2, g1, g2, g3⟩ := rg_hull_ok (ta := ta) hw h2
          obtain ⟨q0, e0, hq, hgo⟩ := th_at hth h1 g1
          obtain ⟨k1, k2, rfl⟩ := el_of_ok g2
          have k0 : 4 ≤ g.1 ∧ g.1 < 8 := by simpa using k1
          rcases hgo with ⟨z, _⟩ | ⟨z, _⟩ | ⟨_, _, n, f, rfl, l1, l2, hf⟩ | ⟨z, _⟩
          · omega
          · omega
          · obtain ⟨i1, i2, i3⟩ := in_nat (x := x) (n := n) x0 (by omega)
            have k4 : g.1 = 4 ∨ g.1 = 5 ∨ g.1 = 6 ∨ g.1 = 7 := by omega
            rcases k4 with k4 | k4 | k4 | k4
            · rw [k4] at hq; exact va_aldq X.1 X.2.1 hK hP q0 4 hq rfl i1 hd (kk _ _ _ (pre_app hp0) (X0 _ _ (List.mem_of_getElem? hq) (Or.inl ⟨rfl, rf_ad _⟩)) (sy_pushed hy hr (g3 _ (hf _ (by first | exact i3 | (rw [i2]; exact i3))))))
            · rw [k4] at hq; exact va_aldq X.1 X.2.1 hK hP q0 5 hq rfl i1 hd (kk _ _ _ (pre_app hp0) (X0 _ _ (List.mem_of_getElem? hq) (Or.inl ⟨rfl, rf_ad _⟩)) (sy_pushed hy hr (g3 _ (hf _ (by first | exact i3 | (rw [i2]; exact i3))))))
            · rw [k4] at hq; exact va_aldq X.1 X.2.1 hK hP q0 6 hq rfl i1 hd (kk _ _ _ (pre_app hp0) (X0 _ _ (List.mem_of_getElem? hq) (Or.inl ⟨rfl, rf_ad _⟩)) (sy_pushed hy hr (g3 _ (hf _ (by first | exact i3 | (rw [i2]; exact i3))))))
            · rw [k4] at hq; exact va_aldq X.1 X.2.1 hK hP q0 7 hq rfl i1 hd (kk _ _ _ (pre_app hp0) (X0 _ _ (List.mem_of_getElem? hq) (Or.inl ⟨rfl, rf_ad _⟩)) (sy_pushed hy hr (g3 _ (hf _ (by first | exact i3 | (rw [i2]; exact i3))))))
          · omega
        · cases h
      · cases h
    · cases h
  · cases h
theorem tr_ald_ok (X : cx p s m args meth c cc nL ret own nm) (hK : va_K D classes (TY kA) s) (hP : va_P D classes ws H) (hth : th_ok kA G ta ws) (hd : decode cc pc = .ok (i, len)) (h : tr_ald G i len y = some y') (kk : sy_go p l e R s m args below meth c H locs cells slots Q nL v0 ta ws (pc + len) y') : sy_go p l e R s m args below meth c H locs cells slots Q nL v0 ta ws pc y := tr_ald_okX X hK hP hth hd h kk.x
theorem ln_ty {n lo hi : Nat} (h1 : lo ≤ n) (h2 : n ≤ hi) (h3 : hi ≤ 2147483647) : tv_ok ta (0, (lo : Int), (hi : Int), []) (.int (Int32.ofNat n)) := by
  have e : (Int32.ofNat n).toInt = (n : Int) := Int32.toInt_ofNat_of_lt (by omega)
  exact Or.inl ⟨rfl, _, rfl, by show (lo : Int) ≤ _; omega, by show _ ≤ (hi : Int); omega⟩
theorem tr_len_ok (X : cx p s m args meth c cc nL ret own nm) (hK : va_K D classes (TY kA) s) (hP : va_P D classes ws H) (hth : th_ok kA G ta ws) (hd : decode cc pc = .ok (i, len)) (h : tr_len G i len y = some y') (kk : sy_go p l e R s m args below meth c H locs cells slots Q nL v0 ta ws (pc + len) y') : sy_go p l e R s m args below meth c H locs cells slots Q nL v0 ta ws pc y := by
  intro vs ls st hp0 hy
  unfold tr_len at h
  have hs := hy.2.2.1
  split at h
  · rename_i a r hst
    rw [hst] at hs
    split at h
    · rename_i t hta
      obtain ⟨va, rest, rfl, ha, oa, hr⟩ := sy_one hy.1 hs hta
      split at h
      · split at h
        · rename_i hk
          obtain ⟨ad, rg, rfl, h1, h2⟩ := tv_ref oa hk.1
          obtain rfl := hk.2
          obtain ⟨w, hw, rfl⟩ := Option.map_eq_some_iff.mp h
          obtain ⟨g, t2, g1, g2, g3⟩ := rg_hull_ok (ta := ta) hw h2
          obtain ⟨q0, e0, hq, hgo⟩ := th_at hth h1 g1
          unfold ln_of at g2
          split at g2
          · rename_i hk0
            obtain rfl := Option.some.inj g2
            obtain ⟨k0, k2⟩ := hk0
            rcases hgo with ⟨z, n, f, rfl, l1, l2, _⟩ | ⟨z, n, f, rfl, l1, l2, _⟩ | ⟨z, z2, n, f, rfl, l1, l2, _⟩ | ⟨z, _⟩
            · have k4 : g.1 = 0 ∨ g.1 = 1 ∨ g.1 = 2 := by omega
              rcases k4 with k4 | k4 | k4
              · rw [k4] at hq; exact va_alen X.1 X.2.1 hK hP q0 0 hq rfl rfl hd (kk _ _ _ (pre_app hp0) (sy_pushed hy hr (g3 _ (ln_ty l1 l2 k2))))
              · rw [k4] at hq; exact va_alen X.1 X.2.1 hK hP q0 1 hq rfl rfl hd (kk _ _ _ (pre_app hp0) (sy_pushed hy hr (g3 _ (ln_ty l1 l2 k2))))
              · rw [k4] at hq; exact va_alen X.1 X.2.1 hK hP q0 2 hq rfl rfl hd (kk _ _ _ (pre_app hp0) (sy_pushed hy hr (g3 _ (ln_ty l1 l2 k2))))
            · exact va_alen X.1 X.2.1 hK hP q0 3 hq rfl rfl hd (kk _ _ _ (pre_app hp0) (sy_pushed hy hr (g3 _ (ln_ty l1 l2 k2))))
            · have k4 : g.1 = 4 ∨ g.1 = 5 ∨ g.1 = 6 ∨ g.1 = 7 := by omega
              rcases k4 with k4 | k4 | k4 | k4
              · rw [k4] at hq; exact va_alen X.1 X.2.1 hK hP q0 4 hq rfl rfl hd (kk _ _ _ (pre_app hp0) (sy_pushed hy hr (g3 _ (ln_ty l1 l2 k2))))
              · rw [k4] at hq; exact va_alen X.1 X.2.1 hK hP q0 5 hq rfl rfl hd (kk _ _ _ (pre_app hp0) (sy_pushed hy hr (g3 _ (ln_ty l1 l2 k2))))
              · rw [k4] at hq; exact va_alen X.1 X.2.1 hK hP q0 6 hq rfl rfl hd (kk _ _ _ (pre_app hp0) (sy_pushed hy hr (g3 _ (ln_ty l1 l2 k2))))
              · rw [k4] at hq; exact va_alen X.1 X.2.1 hK hP q0 7 hq rfl rfl hd (kk _ _ _ (pre_app hp0) (sy_pushed hy hr (g3 _ (ln_ty l1 l2 k2))))
            · omega
          · cases g2
        · cases h
      · cases h
    · cases h
  · cases h
end M9
