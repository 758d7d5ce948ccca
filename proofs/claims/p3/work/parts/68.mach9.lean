section
/-! what holds of several regions -/
def tv_hull (t u : tv_T) : Option tv_T := if t.1 = u.1 ∧ t.1 < 4 then some (t.1, mn2 t.2.1 u.2.1, mx2 t.2.2.1 u.2.2.1, t.2.2.2 ++ u.2.2.2) else none
theorem tv_hull_l {ta : Nat → Option Nat} {t u w : tv_T} {v : Value} (h : tv_hull t u = some w) (hv : tv_ok ta t v) : tv_ok ta w v := by
  unfold tv_hull at h
  split at h
  · rename_i e0
    obtain rfl := Option.some.inj h
    rcases hv with ⟨k, x, e, a, b⟩ | ⟨k, x, e, a, b⟩ | ⟨k, a, r, e, e2, e3⟩ | ⟨k, e | ⟨a, r, e, e2, e3⟩⟩ | ⟨k, _⟩ | ⟨k, _⟩
    · exact Or.inl ⟨k, x, e, Int.le_trans (mn2_l _ _) a, Int.le_trans b (mx2_l _ _)⟩
    · exact Or.inr (Or.inl ⟨k, x, e, Int.le_trans (mn2_l _ _) a, Int.le_trans b (mx2_l _ _)⟩)
    · exact Or.inr (Or.inr (Or.inl ⟨k, a, r, e, e2, List.mem_append_left _ e3⟩))
    · exact Or.inr (Or.inr (Or.inr (Or.inl ⟨k, Or.inl e⟩)))
    · exact Or.inr (Or.inr (Or.inr (Or.inl ⟨k, Or.inr ⟨a, r, e, e2, List.mem_append_left _ e3⟩⟩)))
    · omega
    · omega
  · cases h
theorem tv_hull_r {ta : Nat → Option Nat} {t u w : tv_T} {v : Value} (h : tv_hull t u = some w) (hv : tv_ok ta u v) : tv_ok ta w v := by
  unfold tv_hull at h
  split at h
  · rename_i e0
    obtain rfl := Option.some.inj h
    rcases hv with ⟨k, x, e, a, b⟩ | ⟨k, x, e, a, b⟩ | ⟨k, a, r, e, e2, e3⟩ | ⟨k, e | ⟨a, r, e, e2, e3⟩⟩ | ⟨k, _⟩ | ⟨k, _⟩
    · exact Or.inl ⟨e0.1.trans k, x, e, Int.le_trans (mn2_r _ _) a, Int.le_trans b (mx2_r _ _)⟩
    · exact Or.inr (Or.inl ⟨e0.1.trans k, x, e, Int.le_trans (mn2_r _ _) a, Int.le_trans b (mx2_r _ _)⟩)
    · exact Or.inr (Or.inr (Or.inl ⟨e0.1.trans k, a, r, e, e2, List.mem_append_right _ e3⟩))
    · exact Or.inr (Or.inr (Or.inr (Or.inl ⟨e0.1.trans k, Or.inl e⟩)))
    · exact Or.inr (Or.inr (Or.inr (Or.inl ⟨e0.1.trans k, Or.inr ⟨a, r, e, e2, List.mem_append_right _ e3⟩⟩)))
    · omega
    · omega
  · cases h
/-- the kind of what f takes out of each of the regions -/
def rg_hull (G : List rg_T) (f : rg_T → Option tv_T) : List Nat → Option tv_T
  | [] => none
  | [r] => (G[r]?).bind f
  | r :: r2 :: rs => match (G[r]?).bind f, rg_hull G f (r2 :: rs) with
    | some t, some u => tv_hull t u
    | _, _ => none
theorem rg_hull_ok {ta : Nat → Option Nat} {G : List rg_T} {f : rg_T → Option tv_T} : ∀ {rs : List Nat} {w : tv_T}, rg_hull G f rs = some w → ∀ {r : Nat}, r ∈ rs → ∃ g t, G[r]? = some g ∧ f g = some t ∧ ∀ v, tv_ok ta t v → tv_ok ta w v
  | [], _, h, _, _ => by cases h
  | [r0], w, h, r, hr => by
    obtain rfl := List.mem_singleton.mp hr
    unfold rg_hull at h
    cases hg : G[r]? with
    | none => rw [hg] at h; cases h
    | some g => rw [hg] at h; exact ⟨g, w, rfl, h, fun v hv => hv⟩
  | r0 :: r2 :: rs, w, h, r, hr => by
    unfold rg_hull at h
    split at h
    · rename_i t u h1 h2
      rcases List.mem_cons.mp hr with rfl | hr
      · cases hg : G[r]? with
        | none => rw [hg] at h1; cases h1
        | some g => rw [hg] at h1; exact ⟨g, t, rfl, h1, fun v hv => tv_hull_l h hv⟩
      · obtain ⟨g, t2, e1, e2, e3⟩ := rg_hull_ok (ta := ta) h2 hr
        exact ⟨g, t2, e1, e2, fun v hv => tv_hull_r h (e3 v hv)⟩
    · cases h
/-- where a place lies, modulo M -/
def of_rng (y : sy_T) (b M : Nat) : Nat × Nat := match y.2.2.2.2.1.find? (fun q => q.1 == b && decide (0 ≤ q.2.2.1) && decide (q.2.2.2 < (M : Int)) && y.2.2.2.2.2.any (fun d => d.1 == q.2.1 && d.2 == M)) with
  | some q => (q.2.2.1.toNat, q.2.2.2.toNat)
  | none => if y.2.2.2.2.2.any (fun d => d.1 == b && d.2 == M) then (0, 0) else (0, M - 1)
theorem md_at {z k o : Int} {M : Nat} (h : z = (M : Int) * k + o) (h0 : 0 ≤ z) (h1 : 0 ≤ o) (h2 : o < M) : z.toNat % M = o.toNat := by
  have e : z % (M : Int) = o := by rw [h, Int.add_comm, Int.add_mul_emod_self_left, Int.emod_eq_of_lt h1 h2]
  have e2 : ((z.toNat % M : Nat) : Int) = o := by rw [Int.natCast_emod, Int.toNat_of_nonneg h0]; exact e
  omega
theorem of_rng_ok {ta : Nat → Option Nat} {ws : va_W} {vs : List Value} {ls : Array Slot} {nL : Nat} {st : List Value} {y : sy_T} (h : sy_ok ta ws vs ls nL st y) {b M : Nat} {x : Int32} (hb : vs[b]? = some (.int x)) (h0 : 0 ≤ x.toInt) (hM : 0 < M) : (of_rng y b M).1 ≤ x.toInt.toNat % M ∧ x.toInt.toNat % M ≤ (of_rng y b M).2 := by
  unfold of_rng
  split
  · rename_i q hq
    have e1 := List.find?_some hq
    simp only [Bool.and_eq_true, beq_iff_eq, decide_eq_true_eq, List.any_eq_true] at e1
    obtain ⟨⟨⟨e2, e3⟩, e4⟩, d, d1, d2, d3⟩ := e1
    obtain ⟨x2, z2, c1, c2, c3, c4⟩ := h.2.2.2.2.1 q (List.mem_of_find?_eq_some hq)
    rw [e2, hb] at c1
    obtain rfl := Value.int.inj (Option.some.inj c1)
    obtain ⟨z3, k, f1, f2⟩ := h.2.2.2.2.2 d d1
    rw [d2, c2] at f1
    obtain rfl := Value.int.inj (Option.some.inj f1)
    rw [d3] at f2
    have e := md_at (z := x.toInt) (k := k) (o := x.toInt - z2.toInt) (M := M) (by rw [← f2]; omega) h0 (by omega) (by omega)
    show q.2.2.1.toNat ≤ _ ∧ _ ≤ q.2.2.2.toNat
    omega
  · split
    · rename_i q
      obtain ⟨d, d1, d2⟩ := List.any_eq_true.mp q
      simp only [Bool.and_eq_true, beq_iff_eq] at d2
      obtain ⟨z3, k, f1, f2⟩ := h.2.2.2.2.2 d d1
      rw [d2.1, hb] at f1
      obtain rfl := Value.int.inj (Option.some.inj f1)
      rw [d2.2] at f2
      have e := md_at (z := x.toInt) (k := k) (o := 0) (M := M) (by rw [f2]; omega) h0 (by omega) (by omega)
      show 0 ≤ _ ∧ _ ≤ 0
      omega
    · have := Nat.mod_lt x.toInt.toNat hM
      show 0 ≤ _ ∧ _ ≤ M - 1
      omega
def sg_hull : List tv_T → Option tv_T
  | [] => none
  | [t] => some t
  | t :: u :: r => match sg_hull (u :: r) with
    | some w => tv_hull t w
    | none => none
theorem sg_hull_ok {ta : Nat → Option Nat} {v : Value} : ∀ {L : List tv_T} {w t : tv_T}, sg_hull L = some w → t ∈ L → tv_ok ta t v → tv_ok ta w v
  | [], _, _, h, _, _ => by cases h
  | [t0], w, t, h, ht, hv => by
    obtain rfl := List.mem_singleton.mp ht
    rw [← Option.some.inj h]; exact hv
  | t0 :: u :: r, w, t, h, ht, hv => by
    unfold sg_hull at h
    split at h
    · rename_i w0 hw
      rcases List.mem_cons.mp ht with rfl | ht
      · exact tv_hull_l h hv
      · exact tv_hull_r h (sg_hull_ok hw ht hv)
    · cases h
def sg_part (L : List tv_T) (q : Nat × Nat) : List tv_T := (L.drop q.1).take (q.2 + 1 - q.1)
theorem sg_part_mem {L : List tv_T} {q : Nat × Nat} {o : Nat} {t : tv_T} (h1 : q.1 ≤ o) (h2 : o ≤ q.2) (ht : L[o]? = some t) : t ∈ sg_part L q := by
  refine List.mem_of_getElem? (i := o - q.1) ?_
  unfold sg_part
  rw [List.getElem?_take_of_lt (by omega), List.getElem?_drop, show q.1 + (o - q.1) = o by omega]
  exact ht
def el_o (o : Option tv_T) (e : tv_T) : tv_T := match o with
  | some t => if t.1 = 0 ∨ t.1 = 5 then t else e
  | none => e
def el_t (y : sy_T) (b : Nat) (g : rg_T) : Option tv_T := if g.2.2.2.2.length = 0 then some g.2.2.2.1 else some (el_o (sg_hull (sg_part g.2.2.2.2 (of_rng y b g.2.2.2.2.length))) (0, g.2.2.2.1.2.1, g.2.2.2.1.2.2.1, []))
/-- an element of an array of ints -/
theorem el_t_ok {ta : Nat → Option Nat} {ws : va_W} {vs : List Value} {ls : Array Slot} {nL : Nat} {st : List Value} {y : sy_T} (h : sy_ok ta ws vs ls nL st y) {b n : Nat} {x : Int32} (hb : vs[b]? = some (.int x)) (h0 : 0 ≤ x.toInt) (hn : x.toInt.toNat < n) {g : rg_T} (hk0 : g.2.2.2.1.1 = 0) {t : tv_T} (he : el_t y b g = some t) {f : Nat → Int32} (h1 : ∀ j, j < n → tv_ok ta g.2.2.2.1 (.int (f j))) (h2 : ∀ (j : Nat) (t : tv_T), j < n → g.2.2.2.2[j % g.2.2.2.2.length]? = some t → tv_ok ta t (.int (f j))) : tv_ok ta t (.int (f x.toInt.toNat)) := by
  unfold el_t at he
  split at he
  · rw [← Option.some.inj he]; exact h1 _ hn
  · have hM : 0 < g.2.2.2.2.length := by omega
    have hr := of_rng_ok h hb h0 hM
    have hlt := Nat.mod_lt x.toInt.toNat hM
    have ht := List.getElem?_eq_getElem hlt
    rw [← Option.some.inj he]
    have hel : tv_ok ta (0, g.2.2.2.1.2.1, g.2.2.2.1.2.2.1, []) (.int (f x.toInt.toNat)) := by
      obtain ⟨x_zq, e1, a1, a2⟩ := tv_int (h1 _ hn) hk0
      exact Or.inl ⟨rfl, x_zq, e1, a1, a2⟩
    unfold el_o
    split
    · rename_i t0 hs0
      split
      · exact sg_hull_ok hs0 (sg_part_mem hr.1 hr.2 ht) (h2 _ _ hn ht)
      · exact hel
    · exact hel
def el_i (y : sy_T) (b : Nat) (hi : Int) (g : rg_T) : Option tv_T := if g.1 = 0 ∧ hi < (g.2.1 : Int) then el_t y b g else none
/-- a value of a kind gets a name; what divides it is kept -/
def sy_pushT (y : sy_T) (t : tv_T) (r : List Nat) : sy_T := if t.1 = 5 then sy_dvA (sy_push y (0, t.2.1, t.2.2.1, []) r) y.1.length (t.2.2.2.headD 1) else sy_push y t r
theorem sy_pushedT {ta : Nat → Option Nat} {ws : va_W} {vs : List Value} {ls : Array Slot} {nL : Nat} {st st_zq : List Value} {y : sy_T} {is : List Nat} {t : tv_T} {v : Value} (h : sy_ok ta ws vs ls nL st y) (hs : sy_st vs is st_zq) (hv : tv_ok ta t v) : sy_ok ta ws (vs ++ [v]) ls nL (v :: st_zq) (sy_pushT y t is) := by
  unfold sy_pushT
  split
  · rename_i h5
    obtain ⟨x, rfl, a, b, q, hq⟩ := tv_div hv h5
    refine sy_dvA_ok (sy_pushed h hs (Or.inl ⟨rfl, x, rfl, a, b⟩)) ⟨x, q, ?_, hq⟩
    show (vs ++ [Value.int x])[y.1.length]? = _
    rw [← h.1.1, List.getElem?_append_right (Nat.le_refl _), Nat.sub_self]; rfl
  · exact sy_pushed h hs hv
def el_of (lo : Nat → Bool) (hi : Int) (g : rg_T) : Option tv_T := if lo g.1 = true ∧ hi < (g.2.1 : Int) then some g.2.2.2.1 else none
def fd_of (ci k : Nat) (g : rg_T) : Option tv_T := if g.1 = ci + 10 then g.2.2.2.2[k]? else none
def sy_mfind (y : sy_T) (a k : Nat) : Option Nat := (y.2.2.2.1.find? (fun q => q.1.1 == a && q.1.2 == k)).map (fun q => q.2)
theorem sy_mfind_ok {y : sy_T} {a k n : Nat} (h : sy_mfind y a k = some n) : ((a, k), n) ∈ y.2.2.2.1 := by
  unfold sy_mfind at h
  cases hf : y.2.2.2.1.find? (fun q => q.1.1 == a && q.1.2 == k) with
  | none => rw [hf] at h; cases h
  | some q =>
    rw [hf] at h
    have e : q.2 = n := Option.some.inj h
    have h1 := List.mem_of_find?_eq_some hf
    have h2 := List.find?_some hf
    simp only [Bool.and_eq_true, beq_iff_eq] at h2
    have e2 : ((a, k), n) = q := by rw [← h2.1, ← h2.2, ← e]
    rw [e2]; exact h1
/-- a field is read -/
def tr_get (G : List rg_T) (ci k : Nat) (y : sy_T) : Option sy_T := match y.2.2.1 with
  | a :: r => match y.1[a]? with
    | some t => if t.1 = 2 then (match rg_hull G (fd_of ci k) t.2.2.2 with
      | some w => (match sy_mfind y a k with
        | some n => some (sy_at y (n :: r))
        | none => some (let z := sy_pushT y w r; (z.1, z.2.1, z.2.2.1, ((a, k), y.1.length) :: z.2.2.2.1, z.2.2.2.2)))
      | none => none) else none
    | none => none
  | [] => none
/-- an element is read -/
def tr_ald (G : List rg_T) (i : ClassFile.Instr) (len : Nat) (y : sy_T) : Option sy_T := match y.2.2.1 with
  | b :: a :: r => match y.1[a]?, y.1[b]? with
    | some t, some u => if t.1 = 2 ∧ u.1 = 0 ∧ 0 ≤ u.2.1 ∧ len = 1 then (match i with
      | .iaload => (rg_hull G (el_i y b u.2.2.1) t.2.2.2).map (fun w => sy_push y w r)
      | .baload => (rg_hull G (el_of (fun k => k == 1 || k == 2) u.2.2.1) t.2.2.2).map (fun w => sy_push y w r)
      | .laload => (rg_hull G (el_of (fun k => k == 3) u.2.2.1) t.2.2.2).map (fun w => sy_push y w r)
      | .aaload => (rg_hull G (el_of (fun k => decide (4 ≤ k) && decide (k < 8)) u.2.2.1) t.2.2.2).map (fun w => sy_push y w r)
      | _ => none) else none
    | _, _ => none
  | _ => none
/-- how long an array is -/
def ln_of (g : rg_T) : Option tv_T := if g.1 < 8 ∧ g.2.2.1 ≤ 2147483647 then some (0, (g.2.1 : Int), (g.2.2.1 : Int), []) else none
def tr_len (G : List rg_T) (i : ClassFile.Instr) (len : Nat) (y : sy_T) : Option sy_T := match y.2.2.1 with
  | a :: r => match y.1[a]? with
    | some t => match i with
      | .arraylength => if t.1 = 2 ∧ len = 1 then (rg_hull G ln_of t.2.2.2).map (fun w => sy_push y w r) else none
      | _ => none
    | none => none
  | [] => none
theorem el_of_ok {lo : Nat → Bool} {hi : Int} {g : rg_T} {t : tv_T} (h : el_of lo hi g = some t) : lo g.1 = true ∧ hi < (g.2.1 : Int) ∧ g.2.2.2.1 = t := by
  unfold el_of at h
  split at h
  · rename_i q; exact ⟨q.1, q.2, Option.some.inj h⟩
  · cases h
theorem in_nat {x : Int32} {n : Nat} (h0 : 0 ≤ x.toInt) (h1 : x.toInt < n) : vp_in x n ∧ x.toNatClampNeg = x.toInt.toNat ∧ x.toInt.toNat < n := ⟨vp_in_iff.mpr ⟨h0, h1⟩, rfl, by omega⟩
section M9
variable {p : Program} {l : Launch} {e : Env} {R : Room} {s : State} {m : MethodId} {args : Array Value} {below : List Frame} {meth : Method} {c : Code} {H : Heap} {locs : List Loc} {cells slots : Nat} {Q : State → Prop} {cc : ByteArray} {pc : Nat} {i : ClassFile.Instr} {len nL : Nat} {v0 : List Value} {ta : Nat → Option Nat} {ws : va_W} {y y_zq : sy_T} {D : va_G} {kA : Nat → ClassId} {G : List rg_T} {A : Nat → Prop} {ret : Option FieldType} {own nm : String}
theorem th_at (hth : th_ok kA G ta ws) {a r : Nat} (h : ta a = some r) {g : rg_T} (hg : G[r]? = some g) : ∃ (q0 : Nat) (e : va_E), ws[q0]? = some (a, e) ∧ rg_ok kA ta g e := by
  obtain ⟨e, h2, h3⟩ := th_in hth h hg
  obtain ⟨q0, hq⟩ := List.mem_iff_getElem?.mp h2
  exact ⟨q0, e, hq, h3⟩
/-- a field's rule: the link is there -/
def gf_rule (own : String) (idx ci k : Nat) : Prop := ∀ (p : Program) (l : Launch) (e : Env) (R : Room) (s : State) (m : MethodId) (args : Array Value) (below : List Frame) (meth : Method) (c : Code) (H : Heap) (locs : List Loc) (cells slots : Nat) (Q : State → Prop) (cc : ByteArray) (pc nL : Nat) (ret : Option FieldType) (nm : String) (D : va_G) (kA : Nat → ClassId) (ws : va_W) (ls : Array Slot) (rest : List Value) (q0 a : Nat) (fs : List Value) (v : Value),
  cx p s m args meth c cc nL ret own nm → va_K D classes (TY kA) s → va_P D classes ws H → ws[q0]? = some (a, .inr (ci, fs)) → fs[k]? = some v → decode cc pc = .ok (.getfield idx, 3) → W p l e R s m args below meth c H locs cells slots Q (F0 m (pc + 3) ls (v :: rest)) → W p l e R s m args below meth c H locs cells slots Q (F0 m pc ls (.ref a :: rest))
theorem gf_mk {own : String} {idx ci k : Nat} {C : String} {T : u_T} {N : Nat} (hc : classes[ci]? = some (C, T, N)) (hi : ∀ w ∈ u_ws C T N, w ∈ lw_g) (hk : k < N) (hl : Cond.fieldLink own idx C (T k).2.1 (T k).2.2.1 ∈ lw_g) (ho : (T k).1 = C) : gf_rule own idx ci k :=
  fun _ _ _ _ _ _ _ _ _ _ _ _ _ _ _ _ _ _ _ _ _ _ _ _ _ q0 _ _ _ X hK hP he hv hd kk => k_get X hK hP q0 he hc hi k hk hl ho hv hd kk
theorem tr_get_ok {idx ci k : Nat} (hr : gf_rule own idx ci k) (X : cx p s m args meth c cc nL ret own nm) (hK : va_K D classes (TY kA) s) (hP : va_P D classes ws H) (hD : va_D A ws) (hth : th_ok kA G ta ws) (hd : decode cc pc = .ok (.getfield idx, 3)) (h : tr_get G ci k y = some y_zq) (kk : sy_go p l e R s m args below meth c H locs cells slots Q nL v0 ta ws (pc + 3) y_zq) : sy_go p l e R s m args below meth c H locs cells slots Q nL v0 ta ws pc y := by
  intro vs ls st hp0 hy
  unfold tr_get at h
  have hs := hy.2.2.1
  split at h
  · rename_i a r hst
    rw [hst] at hs
    split at h
    · rename_i t hta
      obtain ⟨va, rest, rfl, ha, oa, hr2⟩ := sy_one hy.1 hs hta
      split at h
      · rename_i hk
        obtain ⟨ad, rg, rfl, h1, h2⟩ := tv_ref oa hk
        split at h
        · rename_i w hw
          obtain ⟨g, t2, g1, g2, g3⟩ := rg_hull_ok (ta := ta) hw h2
          obtain ⟨q0, e0, hq, hgo⟩ := th_at hth h1 g1
          unfold fd_of at g2
          split at g2
          · rename_i hg10
            rcases hgo with ⟨z, _⟩ | ⟨z, _⟩ | ⟨_, z, _⟩ | ⟨_, fs, rfl, hlen, hfs⟩
            · omega
            · omega
            · omega
            · have hci : g.1 - 10 = ci := by omega
              rw [hci] at hq
              have hlt := (List.getElem?_eq_some_iff.mp g2).1
              rw [← hlen] at hlt
              have hv := List.getElem?_eq_getElem hlt
              refine hr _ _ _ _ _ _ _ _ _ _ _ _ _ _ _ _ _ _ _ _ _ _ _ _ _ q0 ad fs (fs[k]) X hK hP hq hv hd ?_
              split at h
              · rename_i n hn
                obtain rfl := Option.some.inj h
                obtain ⟨a2, ci2, fs2, v2, m1, m2, m3, m4⟩ := hy.2.2.2.1 _ (sy_mfind_ok hn)
                have m1_zq : vs[a]? = some (.ref a2) := m1
                rw [ha] at m1_zq
                have ea : ad = a2 := by have := Option.some.inj m1_zq; injection this
                obtain ⟨j, hj⟩ := List.mem_iff_getElem?.mp m2
                have ej := hD.1 q0 j _ _ hq hj ea
                rw [← ej, hq] at hj
                have e9 := Option.some.inj hj
                have e8 : fs = fs2 := by injection e9 with _ e7; injection e7 with e6; injection e6
                have m3_zq : fs2[k]? = some v2 := m3
                rw [← e8, hv] at m3_zq
                rw [Option.some.inj m3_zq]
                exact kk _ _ _ (by first | exact hp0 | exact pre_app hp0) (sy_stack hy (is := n :: r) (st_zq := v2 :: rest) ⟨m4, hr2⟩)
              · obtain rfl := Option.some.inj h
                have hp := sy_pushedT hy hr2 (g3 _ (hfs k t2 _ g2 hv))
                refine kk _ _ _ (pre_app hp0) ⟨hp.1, hp.2.1, hp.2.2.1, fun q hq2 => ?_, hp.2.2.2.2⟩
                rcases List.mem_cons.mp hq2 with rfl | hq2
                · refine ⟨ad, ci, fs, fs[k], sy_app ha, List.mem_of_getElem? hq, hv, ?_⟩
                  show (vs ++ [fs[k]])[y.1.length]? = _
                  rw [← hy.1.1, List.getElem?_append_right (Nat.le_refl _), Nat.sub_self]; rfl
                · exact hp.2.2.2.1 q hq2
          · cases g2
        · cases h
      · cases h
    · cases h
  · cases h
def el_E (e : ClassId × vp_A) (j : Nat) : Int := match e with
  | (_, _, .inl f) => (f j).toInt
  | (_, _, .inr (.inl f)) => (f j).toInt
  | (_, _, .inr (.inr (.inr (.inr f)))) => (match f j with | some b => ((b : Nat) : Int) | none => 0)
  | _ => 0
theorem rf_ad (o : Option Nat) : ((v_ad (va_rf o) : Nat) : Int) = (match o with | some b => ((b : Nat) : Int) | none => 0) := by cases o <;> rfl
def al_X (i : ClassFile.Instr) (ws : va_W) (y : sy_T) (vs : List Value) : Prop := ∀ a b r, y.2.2.1 = b :: a :: r → ∃ (ad : Nat) (x : Int32) (e : ClassId × vp_A), vs[a]? = some (.ref ad) ∧ vs[b]? = some (.int x) ∧ (ad, .inl e) ∈ ws ∧ 0 ≤ x.toInt ∧ y.1.length < vs.length ∧ ((i = .aaload ∧ ((n_ad vs y.1.length : Nat) : Int) = el_E e x.toInt.toNat) ∨ (i ≠ .aaload ∧ n_iv vs y.1.length = el_E e x.toInt.toNat))
theorem tr_ald_okX (X : cx p s m args meth c cc nL ret own nm) (hK : va_K D classes (TY kA) s) (hP : va_P D classes ws H) (hth : th_ok kA G ta ws) (hd : decode cc pc = .ok (i, len)) (h : tr_ald G i len y = some y_zq) (kk : sy_goX p l e R s m args below meth c H locs cells slots Q nL v0 ta ws (al_X i ws y) (pc + len) y_zq) : sy_go p l e R s m args below meth c H locs cells slots Q nL v0 ta ws pc y := by
  intro vs ls st hp0 hy
  unfold tr_ald at h
  have hs := hy.2.2.1
  split at h
  · rename_i b a r hst
    rw [hst] at hs
    split at h
    · rename_i t u hta hub
      obtain ⟨va, vb, rest, rfl, ha, hb2, oa, ob, hr⟩ := sy_two hy.1 hs hta hub
      split at h
      · rename_i hk
        obtain ⟨ad, rg, rfl, h1, h2⟩ := tv_ref oa hk.1
        obtain ⟨x, rfl, x1, x2⟩ := tv_int ob hk.2.1
        have x0 : 0 ≤ x.toInt := by have := hk.2.2.1; omega
        obtain rfl := hk.2.2.2
        have X0 : ∀ (v : Value) (e0 : ClassId × vp_A), (ad, .inl e0) ∈ ws → ((i = .aaload ∧ ((v_ad v : Nat) : Int) = el_E e0 x.toInt.toNat) ∨ (i ≠ .aaload ∧ v_iv v = el_E e0 x.toInt.toNat)) → al_X i ws y (vs ++ [v]) := fun v e0 hm hv a_zq b_zq r_zq hst_zq => by
          rw [hst] at hst_zq
          cases hst_zq
          refine ⟨ad, x, e0, sy_app ha, sy_app hb2, hm, x0, ?_⟩
          have hn : (vs ++ [v])[y.1.length]? = some v := by rw [← hy.1.1, List.getElem?_append_right (Nat.le_refl _), Nat.sub_self]; rfl
          refine ⟨n_lt hn, ?_⟩
          unfold n_iv n_ad
          rw [n_v_of hn]
          exact hv
        split at h
        · obtain ⟨w, hw, rfl⟩ := Option.map_eq_some_iff.mp h
          obtain ⟨g, t2, g1, g2, g3⟩ := rg_hull_ok (ta := ta) hw h2
          obtain ⟨q0, e0, hq, hgo⟩ := th_at hth h1 g1
          unfold el_i at g2
          split at g2
          · rename_i hk0
            obtain ⟨k0, k2⟩ := hk0
            rcases hgo with ⟨_, n, f, rfl, l1, l2, l3, hf, hf2⟩ | ⟨z, _⟩ | ⟨z, _⟩ | ⟨z, _⟩
            · rw [k0] at hq
              obtain ⟨i1, i2, i3⟩ := in_nat (x := x) (n := n) x0 (by omega)
              refine va_iald X.1 X.2.1 hK hP q0 0 hq rfl i1 hd (kk _ _ _ (pre_app hp0) (X0 _ _ (List.mem_of_getElem? hq) (Or.inr ⟨(fun e => by cases e), rfl⟩)) (sy_pushed hy hr (g3 _ ?_)))
              rw [i2]
              exact el_t_ok hy hb2 x0 i3 l3 g2 hf hf2
            · omega
            · omega
            · omega
          · cases g2
        · obtain ⟨w, hw, rfl⟩ := Option.map_eq_some_iff.mp h
          obtain ⟨g, t2, g1, g2, g3⟩ := rg_hull_ok (ta := ta) hw h2
          obtain ⟨q0, e0, hq, hgo⟩ := th_at hth h1 g1
          obtain ⟨k1, k2, rfl⟩ := el_of_ok g2
          have k0 : g.1 = 1 ∨ g.1 = 2 := by simpa using k1
          rcases hgo with ⟨_, n, f, rfl, l1, l2, _, hf, _⟩ | ⟨z, _⟩ | ⟨z, _⟩ | ⟨z, _⟩
          · obtain ⟨i1, i2, i3⟩ := in_nat (x := x) (n := n) x0 (by omega)
            rcases k0 with k0 | k0
            · rw [k0] at hq
              exact va_bald X.1 X.2.1 hK hP q0 1 hq rfl i1 hd (kk _ _ _ (pre_app hp0) (X0 _ _ (List.mem_of_getElem? hq) (Or.inr ⟨(fun e => by cases e), rfl⟩)) (sy_pushed hy hr (g3 _ (hf _ (by rw [i2]; exact i3)))))
            · rw [k0] at hq
              exact va_zald X.1 X.2.1 hK hP q0 2 hq rfl i1 hd (kk _ _ _ (pre_app hp0) (X0 _ _ (List.mem_of_getElem? hq) (Or.inr ⟨(fun e => by cases e), rfl⟩)) (sy_pushed hy hr (g3 _ (hf _ (by rw [i2]; exact i3)))))
          · omega
          · omega
          · omega
        · obtain ⟨w, hw, rfl⟩ := Option.map_eq_some_iff.mp h
          obtain ⟨g, t2, g1, g2, g3⟩ := rg_hull_ok (ta := ta) hw h2
          obtain ⟨q0, e0, hq, hgo⟩ := th_at hth h1 g1
          obtain ⟨k1, k2, rfl⟩ := el_of_ok g2
          have k0 : g.1 = 3 := by simpa using k1
          rcases hgo with ⟨z, _⟩ | ⟨_, n, f, rfl, l1, l2, _, hf⟩ | ⟨z, _⟩ | ⟨z, _⟩
          · omega
          · obtain ⟨i1, i2, i3⟩ := in_nat (x := x) (n := n) x0 (by omega)
            exact va_lald X.1 X.2.1 hK hP q0 3 hq rfl i1 hd (kk _ _ _ (pre_app hp0) (X0 _ _ (List.mem_of_getElem? hq) (Or.inr ⟨(fun e => by cases e), rfl⟩)) (sy_pushed hy hr (g3 _ (hf _ (by rw [i2]; exact i3)))))
          · omega
          · omega
        · obtain ⟨w, hw, rfl⟩ := Option.map_eq_some_iff.mp h
          obtain ⟨g, t2, g1, g2, g3⟩ := rg_hull_ok (ta := ta) hw h2
          obtain ⟨q0, e0, hq, hgo⟩ := th_at hth h1 g1
          obtain ⟨k1, k2, rfl⟩ := el_of_ok g2
          have k0 : 4 ≤ g.1 ∧ g.1 < 8 := by simpa using k1
          rcases hgo with ⟨z, _⟩ | ⟨z, _⟩ | ⟨_, _, n, f, rfl, l1, l2, hf⟩ | ⟨z, _⟩
          · omega
          · omega
          · obtain ⟨i1, i2, i3⟩ := in_nat (x := x) (n := n) x0 (by omega)
            have k4 : g.1 = 4 ∨ g.1 = 5 ∨ g.1 = 6 ∨ g.1 = 7 := by omega
            rcases k4 with k4 | k4 | k4 | k4
            · rw [k4] at hq; exact va_aldq X.1 X.2.1 hK hP q0 4 hq rfl i1 hd (kk _ _ _ (pre_app hp0) (X0 _ _ (List.mem_of_getElem? hq) (Or.inl ⟨rfl, rf_ad _⟩)) (sy_pushed hy hr (g3 _ (hf _ (by first | exact i3 | (rw [i2]; exact i3))))))
            · rw [k4] at hq; exact va_aldq X.1 X.2.1 hK hP q0 5 hq rfl i1 hd (kk _ _ _ (pre_app hp0) (X0 _ _ (List.mem_of_getElem? hq) (Or.inl ⟨rfl, rf_ad _⟩)) (sy_pushed hy hr (g3 _ (hf _ (by first | exact i3 | (rw [i2]; exact i3))))))
            · rw [k4] at hq; exact va_aldq X.1 X.2.1 hK hP q0 6 hq rfl i1 hd (kk _ _ _ (pre_app hp0) (X0 _ _ (List.mem_of_getElem? hq) (Or.inl ⟨rfl, rf_ad _⟩)) (sy_pushed hy hr (g3 _ (hf _ (by first | exact i3 | (rw [i2]; exact i3))))))
            · rw [k4] at hq; exact va_aldq X.1 X.2.1 hK hP q0 7 hq rfl i1 hd (kk _ _ _ (pre_app hp0) (X0 _ _ (List.mem_of_getElem? hq) (Or.inl ⟨rfl, rf_ad _⟩)) (sy_pushed hy hr (g3 _ (hf _ (by first | exact i3 | (rw [i2]; exact i3))))))
          · omega
        · cases h
      · cases h
    · cases h
  · cases h
theorem tr_ald_ok (X : cx p s m args meth c cc nL ret own nm) (hK : va_K D classes (TY kA) s) (hP : va_P D classes ws H) (hth : th_ok kA G ta ws) (hd : decode cc pc = .ok (i, len)) (h : tr_ald G i len y = some y_zq) (kk : sy_go p l e R s m args below meth c H locs cells slots Q nL v0 ta ws (pc + len) y_zq) : sy_go p l e R s m args below meth c H locs cells slots Q nL v0 ta ws pc y := tr_ald_okX X hK hP hth hd h kk.x
theorem ln_ty {n lo hi : Nat} (h1 : lo ≤ n) (h2 : n ≤ hi) (h3 : hi ≤ 2147483647) : tv_ok ta (0, (lo : Int), (hi : Int), []) (.int (Int32.ofNat n)) := by
  have e : (Int32.ofNat n).toInt = (n : Int) := Int32.toInt_ofNat_of_lt (by omega)
  exact Or.inl ⟨rfl, _, rfl, by show (lo : Int) ≤ _; omega, by show _ ≤ (hi : Int); omega⟩
theorem tr_len_ok (X : cx p s m args meth c cc nL ret own nm) (hK : va_K D classes (TY kA) s) (hP : va_P D classes ws H) (hth : th_ok kA G ta ws) (hd : decode cc pc = .ok (i, len)) (h : tr_len G i len y = some y_zq) (kk : sy_go p l e R s m args below meth c H locs cells slots Q nL v0 ta ws (pc + len) y_zq) : sy_go p l e R s m args below meth c H locs cells slots Q nL v0 ta ws pc y := by
  intro vs ls st hp0 hy
  unfold tr_len at h
  have hs := hy.2.2.1
  split at h
  · rename_i a r hst
    rw [hst] at hs
    split at h
    · rename_i t hta
      obtain ⟨va, rest, rfl, ha, oa, hr⟩ := sy_one hy.1 hs hta
      split at h
      · split at h
        · rename_i hk
          obtain ⟨ad, rg, rfl, h1, h2⟩ := tv_ref oa hk.1
          obtain rfl := hk.2
          obtain ⟨w, hw, rfl⟩ := Option.map_eq_some_iff.mp h
          obtain ⟨g, t2, g1, g2, g3⟩ := rg_hull_ok (ta := ta) hw h2
          obtain ⟨q0, e0, hq, hgo⟩ := th_at hth h1 g1
          unfold ln_of at g2
          split at g2
          · rename_i hk0
            obtain rfl := Option.some.inj g2
            obtain ⟨k0, k2⟩ := hk0
            rcases hgo with ⟨z, n, f, rfl, l1, l2, _⟩ | ⟨z, n, f, rfl, l1, l2, _⟩ | ⟨z, z2, n, f, rfl, l1, l2, _⟩ | ⟨z, _⟩
            · have k4 : g.1 = 0 ∨ g.1 = 1 ∨ g.1 = 2 := by omega
              rcases k4 with k4 | k4 | k4
              · rw [k4] at hq; exact va_alen X.1 X.2.1 hK hP q0 0 hq rfl rfl hd (kk _ _ _ (pre_app hp0) (sy_pushed hy hr (g3 _ (ln_ty l1 l2 k2))))
              · rw [k4] at hq; exact va_alen X.1 X.2.1 hK hP q0 1 hq rfl rfl hd (kk _ _ _ (pre_app hp0) (sy_pushed hy hr (g3 _ (ln_ty l1 l2 k2))))
              · rw [k4] at hq; exact va_alen X.1 X.2.1 hK hP q0 2 hq rfl rfl hd (kk _ _ _ (pre_app hp0) (sy_pushed hy hr (g3 _ (ln_ty l1 l2 k2))))
            · exact va_alen X.1 X.2.1 hK hP q0 3 hq rfl rfl hd (kk _ _ _ (pre_app hp0) (sy_pushed hy hr (g3 _ (ln_ty l1 l2 k2))))
            · have k4 : g.1 = 4 ∨ g.1 = 5 ∨ g.1 = 6 ∨ g.1 = 7 := by omega
              rcases k4 with k4 | k4 | k4 | k4
              · rw [k4] at hq; exact va_alen X.1 X.2.1 hK hP q0 4 hq rfl rfl hd (kk _ _ _ (pre_app hp0) (sy_pushed hy hr (g3 _ (ln_ty l1 l2 k2))))
              · rw [k4] at hq; exact va_alen X.1 X.2.1 hK hP q0 5 hq rfl rfl hd (kk _ _ _ (pre_app hp0) (sy_pushed hy hr (g3 _ (ln_ty l1 l2 k2))))
              · rw [k4] at hq; exact va_alen X.1 X.2.1 hK hP q0 6 hq rfl rfl hd (kk _ _ _ (pre_app hp0) (sy_pushed hy hr (g3 _ (ln_ty l1 l2 k2))))
              · rw [k4] at hq; exact va_alen X.1 X.2.1 hK hP q0 7 hq rfl rfl hd (kk _ _ _ (pre_app hp0) (sy_pushed hy hr (g3 _ (ln_ty l1 l2 k2))))
            · omega
          · cases g2
        · cases h
      · cases h
    · cases h
  · cases h
end M9
end
section
/-! calls with up to sixteen words below them -/
section CALLS
variable {p : Program} {l : Launch} {e : Env} {R : Room} {s : State} {m : MethodId} {args : Array Value} {below : List Frame} {meth : Method} {c : Code} {H : Heap} {locs : List Loc} {cells slots : Nat}
variable {y : MethodName} {bytes cc : ByteArray} {maxL nL mc ms index : Nat} {ret ret' : Option FieldType} {z : List Cond} {rm : Room} {Pc : Array Value → State → Prop} {Qc : Array Value → State → Outcome → State → Prop} {free : Addr → Prop} {own host nm : String} {b : Addr} {As rest st : List Value} {ls : Array Slot} {pc : Nat}
theorem bk16 (X : cx p s m args meth c cc nL ret own nm) (hM : Met l y z rm Pc Qc mc ms free) (hz : z = Cond.code y bytes maxL ret' :: lw_g) (hc : Cond.code y bytes maxL ret' ∈ lw_g) (hini : Cond.initialized y.cls ∈ lw_g) (hR : rm.frames + 1 ≤ R.frames ∧ 16 + (maxL + 11) + rm.locals ≤ R.locals) (hrc : rm.cells = mc) (hrs : rm.slots = ms) (hbl : FrameBlind Pc) : Back l R p e below s args y 3 16 (PreOf R mc ms Pc) (PostOf Qc mc ms free) :=
  back_of (bytes := bytes) (maxL := maxL) (ret := ret') hM hbl hrc hrs hR.1 hR.2 (pay_in X.2.2.2.2.1 (by rw [hz]; exact gd_g hc)) (by rw [hz]; exact List.mem_cons_self) (fun a_zq U hW => word_at hW (Or.inl (by first | rfl | simp [Cond.onTables, Cond.keeps, Cond.steady])) (X.2.2.2.2.1 _ hini))
theorem rm16 (h : (rest.map fun v => v.category).sum ≤ 16) : 2 * (F0 m pc ls st).monitorRoom + (rest.map fun v => v.category).sum ≤ 16 := by
  have e := lv_room (m := m) (pc := pc) (ls := ls) (rest := st) (st := [.null, .null, .null, .null, .null, .null, .null, .null]) (by decide)
  have e2 : (([.null, .null, .null, .null, .null, .null, .null, .null] : List Value).map fun v => v.category).sum = 8 := by decide
  omega
theorem pn16 {n k : Nat} (hn : As.length = n) (hd : (parseMethodDescriptor y.desc).map (fun d => d.parameters.length) = some n) : ∀ sig, parseMethodDescriptor y.desc = some sig → As.length = sig.parameters.length := fun sig h => by
  rw [h] at hd
  exact hn.trans (Option.some.inj hd).symm
theorem k_rS16 (X : cx p s m args meth c cc nL ret own nm) (hM : Met l y z rm Pc Qc mc ms free) (hz : z = Cond.code y bytes maxL ret' :: lw_g) (hc : Cond.code y bytes maxL ret' ∈ lw_g) (hini : Cond.initialized y.cls ∈ lw_g) (hl : Cond.methodLink own index y ∈ lw_g) (hin : Cond.static y ∈ lw_g) (n : Nat)
    (hd : y.cls ≠ "java/lang/invoke/MethodHandle" ∧ y.cls ≠ "java/lang/invoke/VarHandle" ∧ (parseMethodDescriptor y.desc).map (fun d => d.parameters.length) = some n) (hR : rm.frames + 1 ≤ R.frames ∧ 16 + (maxL + 11) + rm.locals ≤ R.locals) (hrc : rm.cells = mc) (hrs : rm.slots = ms)
    (hp : PreS s H Pc As) (hn : As.length = n) (hsz : ls.size = nL) (hst : st = As.reverse ++ rest) (hW : (rest.map fun v => v.category).sum ≤ 16) (hdg : decode cc pc = .ok (.invokestatic index, 3)) (hf : cells + mc ≤ R.cells ∧ slots + ms ≤ R.slots) :
    va_Run p l e R s m args below meth c H locs cells slots mc ms (F0 m pc ls st) rest (Qc As.toArray) free := by
  have hK : Back l R p e below s args y 3 16 (PreOf R mc ms Pc) (PostOf Qc mc ms free) := bk16 X hM hz hc hini hR hrc hrs hp.1
  intro T hT Y
  obtain ⟨v, vm₁, ⟨U_zq, l2, c2, s2⟩, hW₁, X_zq, ⟨g_zq, mk, t, L, e1, e2, hq, h1, hL, h2, h3⟩, go⟩ := callS Y X.1 (bytes := bytes) (maxL := maxL) (ret := ret') X.2.2.2.1 (X.2.2.2.2.1 _ hl) (X.2.2.2.2.1 _ hin) (X.2.2.2.2.1 _ hini) (X.2.2.2.2.1 _ hc) ⟨hd.1, hd.2.1⟩ hK (g := F0 m pc ls st) rfl (hsz.trans X.2.2.1.symm) (argsL := As) (rest := rest) (pn16 (k := 0) hn hd.2.2) hst (rm16 hW) (by rw [X.2.1]; exact hdg)
    (fun vm₁ hW₁ => ⟨hf.1, hf.2, hp.2 (T.setVm vm₁) hT hW₁⟩)
  dsimp only [Pt.U, Pt.locs, Pt.cells, Pt.slots] at X_zq e1 e2 h1 h2 h3 go
  subst h1; subst h2; subst h3
  exact ⟨v, (T.setVm vm₁).calling g_zq mk As.toArray, t, U_zq, L, hT, X_zq, hL, e1, e2, hq, go⟩
theorem k_rV16 (X : cx p s m args meth c cc nL ret own nm) (hM : Met l y z rm Pc Qc mc ms free) (hz : z = Cond.code y bytes maxL ret' :: lw_g) (hc : Cond.code y bytes maxL ret' ∈ lw_g) (hini : Cond.initialized y.cls ∈ lw_g) (hl : Cond.methodLink own index y ∈ lw_g) (hin : Cond.instanceMethod y ∈ lw_g) (hsel : Cond.selects y.cls y y ∈ lw_g) (n : Nat)
    (hd : y.cls ≠ "java/lang/invoke/MethodHandle" ∧ y.cls ≠ "java/lang/invoke/VarHandle" ∧ (parseMethodDescriptor y.desc).map (fun d => d.parameters.length) = some n) (hR : rm.frames + 1 ≤ R.frames ∧ 16 + (maxL + 11) + rm.locals ≤ R.locals) (hrc : rm.cells = mc) (hrs : rm.slots = ms)
    (hrv : ∃ cellB : Cell, H[b]? = some cellB ∧ cellB.vm.isStatics = false ∧ s.vm.findClass y.cls = some cellB.cls) (hp : PreS s H Pc (.ref b :: As)) (hn : As.length = n) (hsz : ls.size = nL) (hst : st = As.reverse ++ .ref b :: rest) (hW : (rest.map fun v => v.category).sum ≤ 16) (hdg : decode cc pc = .ok (.invokevirtual index, 3)) (hf : cells + mc ≤ R.cells ∧ slots + ms ≤ R.slots) :
    va_Run p l e R s m args below meth c H locs cells slots mc ms (F0 m pc ls st) rest (Qc (Value.ref b :: As).toArray) free := by
  have hK : Back l R p e below s args y 3 16 (PreOf R mc ms Pc) (PostOf Qc mc ms free) := bk16 X hM hz hc hini hR hrc hrs hp.1
  obtain ⟨cellB, hcB, hoB, hclB⟩ := hrv
  intro T hT Y
  obtain ⟨v, vm₁, ⟨U_zq, l2, c2, s2⟩, hW₁, X_zq, ⟨g_zq, mk, t, L, e1, e2, hq, h1, hL, h2, h3⟩, go⟩ := callV Y X.1 (C := y.cls) (bytes := bytes) (maxL := maxL) (ret := ret') X.2.2.2.1 (X.2.2.2.2.1 _ hl) (X.2.2.2.2.1 _ hin) (X.2.2.2.2.1 _ hsel) (X.2.2.2.2.1 _ hc) ⟨hd.1, hd.2.1⟩ hK (by rw [hT]; exact hcB) hoB hclB (g := F0 m pc ls st) rfl (hsz.trans X.2.2.1.symm) (argsL := As) (rest := rest) (pn16 (k := 0) hn hd.2.2) hst (rm16 hW) (by rw [X.2.1]; exact hdg)
    (fun vm₁ hW₁ => ⟨hf.1, hf.2, hp.2 (T.setVm vm₁) hT hW₁⟩)
  dsimp only [Pt.U, Pt.locs, Pt.cells, Pt.slots] at X_zq e1 e2 h1 h2 h3 go
  subst h1; subst h2; subst h3
  exact ⟨v, (T.setVm vm₁).calling g_zq mk (Value.ref b :: As).toArray, t, U_zq, L, hT, X_zq, hL, e1, e2, hq, go⟩
theorem k_rSN16 (hN : nst s) (X : cx p s m args meth c cc nL ret own nm) (hM : Met l y z rm Pc Qc mc ms free) (hz : z = Cond.code y bytes maxL ret' :: lw_g) (hc : Cond.code y bytes maxL ret' ∈ lw_g) (hini : Cond.initialized y.cls ∈ lw_g) (hl : Cond.methodLinkNest own index y host ∈ lw_n) (hin : Cond.static y ∈ lw_g) (n : Nat)
    (hd : y.cls ≠ "java/lang/invoke/MethodHandle" ∧ y.cls ≠ "java/lang/invoke/VarHandle" ∧ (parseMethodDescriptor y.desc).map (fun d => d.parameters.length) = some n) (hR : rm.frames + 1 ≤ R.frames ∧ 16 + (maxL + 11) + rm.locals ≤ R.locals) (hrc : rm.cells = mc) (hrs : rm.slots = ms)
    (hp : PreS s H Pc As) (hn : As.length = n) (hsz : ls.size = nL) (hst : st = As.reverse ++ rest) (hW : (rest.map fun v => v.category).sum ≤ 16) (hdg : decode cc pc = .ok (.invokestatic index, 3)) (hf : cells + mc ≤ R.cells ∧ slots + ms ≤ R.slots) :
    va_Run p l e R s m args below meth c H locs cells slots mc ms (F0 m pc ls st) rest (Qc As.toArray) free := by
  have hK : Back l R p e below s args y 3 16 (PreOf R mc ms Pc) (PostOf Qc mc ms free) := bk16 X hM hz hc hini hR hrc hrs hp.1
  have cn := va_cnB (R := R) (args := args) n X.2.2.2.2.1 (by rw [hz]; exact gd_g hc) hz hrc hrs (hN _ hl) (X.2.2.2.2.1 _ hini) hd ⟨hR.1, by have := hR.2; omega⟩
  obtain ⟨-, hcode, hini2, hy, hlen, hl2⟩ := cn
  intro T hT Y
  obtain ⟨v, vm₁, ⟨U_zq, l2, c2, s2⟩, hW₁, X_zq, ⟨g_zq, mk, t, L, e1, e2, hq, h1, hL, h2, h3⟩, go⟩ := va_callSN Y X.1 (bytes := bytes) (maxL := maxL) (ret := ret') X.2.2.2.1 hl2 (X.2.2.2.2.1 _ hin) hini2 hcode hy hK (g := F0 m pc ls st) rfl (hsz.trans X.2.2.1.symm) (argsL := As) (rest := rest) (fun sig h => hn.trans (hlen sig h)) hst (rm16 hW) (by rw [X.2.1]; exact hdg)
    (fun vm₁ hW₁ => ⟨hf.1, hf.2, hp.2 (T.setVm vm₁) hT hW₁⟩)
  dsimp only [Pt.U, Pt.locs, Pt.cells, Pt.slots] at X_zq e1 e2 h1 h2 h3 go
  subst h1; subst h2; subst h3
  exact ⟨v, (T.setVm vm₁).calling g_zq mk As.toArray, t, U_zq, L, hT, X_zq, hL, e1, e2, hq, go⟩
end CALLS
end
section
variable {PQ : pq_T}
/-! stores -/
/-- a name fits a kind -/
def nm_le (y : sy_T) (n : Nat) (t : tv_T) : Bool := match y.1[n]? with
  | some u => tv_le u t || (decide (t.1 = 5) && decide (u.1 = 0) && decide (t.2.1 ≤ u.2.1) && decide (u.2.2.1 ≤ t.2.2.1) && y.2.2.2.2.2.any (fun d => d.1 == n && d.2 == t.2.2.2.headD 1))
  | none => false
theorem nm_le_ok {ta : Nat → Option Nat} {ws : va_W} {vs : List Value} {ls : Array Slot} {nL : Nat} {st : List Value} {y : sy_T} (h : sy_ok ta ws vs ls nL st y) {n : Nat} {v : Value} (hv : vs[n]? = some v) {t : tv_T} (hn : nm_le y n t = true) : tv_ok ta t v := by
  unfold nm_le at hn
  split at hn
  · rename_i u hu
    rcases Bool.or_eq_true_iff.mp hn with hn | hn
    · exact tv_le_ok hn (h.1.2 n u v hu hv)
    · simp only [Bool.and_eq_true, decide_eq_true_eq] at hn
      obtain ⟨⟨⟨⟨h1, h2⟩, h3⟩, h4⟩, h5⟩ := hn
      obtain ⟨d, d1, d2⟩ := List.any_eq_true.mp h5
      simp only [Bool.and_eq_true, beq_iff_eq] at d2
      obtain ⟨x, k, e1, e2⟩ := h.2.2.2.2.2 d d1
      rw [d2.1, hv] at e1
      obtain rfl := Option.some.inj e1
      obtain ⟨x_zq, e3, a, b⟩ := tv_int (h.1.2 n u _ hu hv) h2
      obtain rfl := Value.int.inj e3
      rw [d2.2] at e2
      exact Or.inr (Or.inr (Or.inr (Or.inr (Or.inl ⟨h1, x, rfl, by omega, by omega, k, e2⟩))))
  · cases hn
def ec_i (y : sy_T) (b : Nat) (u tv : tv_T) (pl : Nat → Bool) (g : rg_T) : Bool := decide (g.1 = 0) && decide (u.2.2.1 < (g.2.1 : Int)) && decide (tv.1 = 0) && tv_le tv g.2.2.2.1 && (decide (g.2.2.2.2.length = 0) || (sg_part g.2.2.2.2 (of_rng y b g.2.2.2.2.length)).all (tv_le tv) || (match g.2.2.2.1.2.2.2 with | [c] => pl c | _ => false))
def ec_l (u tv : tv_T) (g : rg_T) : Bool := decide (g.1 = 3) && decide (u.2.2.1 < (g.2.1 : Int)) && decide (tv.1 = 1) && tv_le tv g.2.2.2.1
def ec_b (u tv : tv_T) (g : rg_T) : Bool := decide (u.2.2.1 < (g.2.1 : Int)) && decide (tv.1 = 0) && decide (g.2.2.2.2.length = 0) && ((decide (g.1 = 1) && (tv_le (0, -128, 127, []) g.2.2.2.1 || (decide (-128 ≤ tv.2.1) && decide (tv.2.2.1 ≤ 127) && tv_le tv g.2.2.2.1))) || (decide (g.1 = 2) && tv_le (0, 0, 1, []) g.2.2.2.1))
def rg_all (G : List rg_T) (f : rg_T → Bool) (rs : List Nat) : Bool := rs.all (fun q => match G[q]? with | some g => f g | none => false)
theorem rg_all_ok {G : List rg_T} {f : rg_T → Bool} {rs : List Nat} (h : rg_all G f rs = true) {r : Nat} (hr : r ∈ rs) : ∃ g, G[r]? = some g ∧ f g = true := by
  have h1 := List.all_eq_true.mp h r hr
  cases hg : G[r]? with
  | none => rw [hg] at h1; cases h1
  | some g => rw [hg] at h1; exact ⟨g, rfl, h1⟩
def pl_has (fs : List fc_T) (b v : Nat) (c : Nat) : Bool := (fc_now fs).contains (18, [b, v], [(c : Int)])
/-- places of regions are those of the table -/
def pl_good (G : List rg_T) : Prop := ∀ (r : Nat) (g : rg_T) (c : Nat), G[r]? = some g → g.1 = 0 → g.2.2.2.1.2.2.2 = [c] → g.2.2.2.2 = pl_L c
def tr_ast (G : List rg_T) (i : ClassFile.Instr) (len : Nat) (y : sy_T) (fs : List fc_T) : Option sy_T := match y.2.2.1 with
  | v :: b :: a :: r => match y.1[a]?, y.1[b]?, y.1[v]? with
    | some t, some u, some tv => if t.1 = 2 ∧ u.1 = 0 ∧ 0 ≤ u.2.1 ∧ len = 1 then (match i with
      | .iastore => if rg_all G (ec_i y b u tv (pl_has fs b v)) t.2.2.2 then some (sy_at y r) else none
      | .lastore => if rg_all G (ec_l u tv) t.2.2.2 then some (sy_at y r) else none
      | .bastore => if rg_all G (ec_b u tv) t.2.2.2 then some (sy_at y r) else none
      | _ => none) else none
    | _, _, _ => none
  | _ => none
def ast_rs (y : sy_T) : List Nat := match y.2.2.1 with
  | _ :: _ :: a :: _ => (match y.1[a]? with
    | some t => t.2.2.2
    | none => [])
  | _ => []
theorem sy_three {ta : Nat → Option Nat} {vs st : List Value} {env : List tv_T} {a b d : Nat} {r : List Nat} (he : sy_env ta env vs) (h : sy_st vs (d :: b :: a :: r) st) {t u w : tv_T} (h1 : env[a]? = some t) (h2 : env[b]? = some u) (h3 : env[d]? = some w) : ∃ va vb vd rest, st = vd :: vb :: va :: rest ∧ vs[a]? = some va ∧ vs[b]? = some vb ∧ vs[d]? = some vd ∧ tv_ok ta t va ∧ tv_ok ta u vb ∧ tv_ok ta w vd ∧ sy_st vs r rest := by
  cases st with
  | nil => exact h.elim
  | cons vd st =>
    obtain ⟨va, vb, rest, rfl, a1, a2, a3, a4, a5⟩ := sy_two he h.2 h1 h2
    exact ⟨va, vb, vd, rest, rfl, a1, a2, h.1, a3, a4, he.2 d w vd h3 h.1, a5⟩
/-- an array's cell is set: what is known of objects stays -/
theorem sy_kept {ta : Nat → Option Nat} {ws : va_W} {vs : List Value} {ls : Array Slot} {nL : Nat} {st st_zq : List Value} {y : sy_T} {r : List Nat} (hy : sy_ok ta ws vs ls nL st y) (hs : sy_st vs r st_zq) {q0 a : Nat} {x0 x1 : ClassId × vp_A} (hq : ws[q0]? = some (a, .inl x0)) : sy_ok ta (ws.set q0 (a, .inl x1)) vs ls nL st_zq (sy_at y r) := by
  refine ⟨hy.1, hy.2.1, hs, fun q hq2 => ?_, hy.2.2.2.2⟩
  obtain ⟨a2, ci, fs, v, m1, m2, m3, m4⟩ := hy.2.2.2.1 q hq2
  obtain ⟨j, hj⟩ := List.mem_iff_getElem?.mp m2
  refine ⟨a2, ci, fs, v, m1, List.mem_iff_getElem?.mpr ⟨j, ?_⟩, m3, m4⟩
  rw [List.getElem?_set_ne (fun e => by subst e; rw [hq] at hj; injection hj with h1; injection h1 with h2 h3; cases h3)]
  exact hj
/-- arrays that may be written, fields; facts wanted, facts given, kinds of values that the caller names besides -/
abbrev mo_T : Type := Nat × List (Nat × Nat) × List fc_T × List fc_T × List tv_T
def kp (mo : mo_T) (ta : Nat → Option Nat) (ws w1 : va_W) : Prop := (∀ (a ci : Nat) (fs : List Value), (a, .inr (ci, fs)) ∈ ws → ∃ fs_zq : List Value, (a, .inr (ci, fs_zq)) ∈ w1 ∧ ∀ r k : Nat, ta a = some r → (r, k) ∉ mo.2.1 → fs_zq[k]? = fs[k]?) ∧ ∀ (a r : Nat) (x : ClassId × vp_A), ta a = some r → mo.1.testBit r = false → (a, .inl x) ∈ ws → (a, .inl x) ∈ w1
theorem kp_refl {mo : mo_T} {ta : Nat → Option Nat} {ws : va_W} : kp mo ta ws ws := ⟨fun _ _ fs h => ⟨fs, h, fun _ _ _ _ => rfl⟩, fun _ _ _ _ _ h => h⟩
theorem kp_trans {mo : mo_T} {ta tb : Nat → Option Nat} {a b d : va_W} (hle : ta_le ta tb) (h1 : kp mo ta a b) (h2 : kp mo tb b d) : kp mo ta a d := ⟨fun x ci fs h => by
  obtain ⟨f1, m1, e1⟩ := h1.1 x ci fs h
  obtain ⟨f2, m2, e2⟩ := h2.1 x ci f1 m1
  exact ⟨f2, m2, fun r k hr hk => (e2 r k (hle x r hr) hk).trans (e1 r k hr hk)⟩, fun x r e h hn hx => h2.2 x r e (hle x r h) hn (h1.2 x r e h hn hx)⟩
theorem kp_mono {mo mo_zq : mo_T} {ta : Nat → Option Nat} {a b : va_W} (hs : ∀ q ∈ mo.2.1, q ∈ mo_zq.2.1) (hm : ∀ r, mo_zq.1.testBit r = false → mo.1.testBit r = false) (h : kp mo ta a b) : kp mo_zq ta a b := ⟨fun x ci fs hx => by
  obtain ⟨f1, m1, e1⟩ := h.1 x ci fs hx
  exact ⟨f1, m1, fun r k hr hk => e1 r k hr (fun hq => hk (hs _ hq))⟩, fun x r e h1 hn hx => h.2 x r e h1 (hm r hn) hx⟩
theorem kp_arr {mo : mo_T} {ta : Nat → Option Nat} {ws : va_W} {q0 a r : Nat} {x0 x1 : ClassId × vp_A} (hq : ws[q0]? = some (a, .inl x0)) (hr : ta a = some r) (hm : mo.1.testBit r = true) : kp mo ta ws (ws.set q0 (a, .inl x1)) := by
  refine ⟨fun b ci fs h => ?_, fun b r_zq x hb hn hx => ?_⟩
  · obtain ⟨j, hj⟩ := List.mem_iff_getElem?.mp h
    refine ⟨fs, List.mem_iff_getElem?.mpr ⟨j, ?_⟩, fun _ _ _ _ => rfl⟩
    rw [List.getElem?_set_ne (fun e => by subst e; rw [hq] at hj; injection hj with h1; injection h1 with h2 h3; cases h3)]
    exact hj
  · obtain ⟨j, hj⟩ := List.mem_iff_getElem?.mp hx
    refine List.mem_iff_getElem?.mpr ⟨j, ?_⟩
    rw [List.getElem?_set_ne (fun e => by
      subst e
      rw [hq] at hj
      have e1 : a = b := by have := Option.some.inj hj; injection this
      rw [← e1, hr] at hb
      rw [Option.some.inj hb, hn] at hm
      cases hm)]
    exact hj
theorem kp_fld {mo : mo_T} {ta : Nat → Option Nat} {ws : va_W} {q0 a ci k : Nat} {fs : List Value} {v : Value} (hq : ws[q0]? = some (a, .inr (ci, fs))) (hm : ∀ r, ta a = some r → (r, k) ∈ mo.2.1) : kp mo ta ws (ws.set q0 (a, .inr (ci, fs.set k v))) := by
  refine ⟨fun b cj f h => ?_, fun b r_zq x hb hn hx => ?_⟩
  rotate_left
  · obtain ⟨j, hj⟩ := List.mem_iff_getElem?.mp hx
    refine List.mem_iff_getElem?.mpr ⟨j, ?_⟩
    rw [List.getElem?_set_ne (fun e => by subst e; rw [hq] at hj; injection hj with h1; injection h1 with h2 h3; cases h3)]
    exact hj
  have hlt := (List.getElem?_eq_some_iff.mp hq).1
  obtain ⟨j, hj⟩ := List.mem_iff_getElem?.mp h
  by_cases e : q0 = j
  · subst e
    rw [hq] at hj
    have e9 := Option.some.inj hj
    have e1 : a = b := by injection e9
    have e8 : ci = cj ∧ fs = f := by injection e9 with _ e7; injection e7 with e6; injection e6 with e5 e4; exact ⟨e5, e4⟩
    refine ⟨fs.set k v, List.mem_iff_getElem?.mpr ⟨q0, by rw [List.getElem?_set_self hlt, e1, e8.1]⟩, fun r i hr hi => ?_⟩
    have hne : k ≠ i := fun e => by subst e; exact hi (hm r (by rw [e1]; exact hr))
    rw [List.getElem?_set_ne hne, e8.2]
  · refine ⟨f, List.mem_iff_getElem?.mpr ⟨j, ?_⟩, fun _ _ _ _ => rfl⟩
    rw [List.getElem?_set_ne e]; exact hj
theorem nar_b (x : Int32) : vp_nar .byte x = x.toInt8.toInt32 := vp_nar_byte x
theorem nar_z (x : Int32) : vp_nar .boolean x = x &&& 1 := rfl
section M10
variable {p : Program} {l : Launch} {e : Env} {R : Room} {s : State} {m : MethodId} {args : Array Value} {below : List Frame} {meth : Method} {c : Code} {H : Heap} {locs : List Loc} {cells slots : Nat} {Q : State → Prop} {cc : ByteArray} {pc : Nat} {i : ClassFile.Instr} {len nL : Nat} {v0 : List Value} {ta : Nat → Option Nat} {ws : va_W} {y y_zq : sy_T} {D : va_G} {kA : Nat → ClassId} {G : List rg_T} {A : Nat → Prop} {ret : Option FieldType} {own nm : String}
/-- a value is stored among bytes -/
def ast_b (G : List rg_T) (y : sy_T) : Bool := match y.2.2.1 with
  | _ :: _ :: a :: _ => (match y.1[a]? with
    | some t => rg_all G (fun g => decide (g.1 = 1)) t.2.2.2
    | none => false)
  | _ => false
theorem ast_b_ok {G : List rg_T} {y : sy_T} {d b a : Nat} {r : List Nat} {t : tv_T} {rg : Nat} (q : ast_b G y = true) (hst : y.2.2.1 = d :: b :: a :: r) (hta : y.1[a]? = some t) (h2 : rg ∈ t.2.2.2) : ∃ g, G[rg]? = some g ∧ g.1 = 1 := by
  unfold ast_b at q
  rw [hst] at q
  simp only at q
  rw [hta] at q
  simp only at q
  obtain ⟨g, g1, g2⟩ := rg_all_ok q h2
  exact ⟨g, g1, of_decide_eq_true g2⟩
theorem b_128 {z : Int32} (h1 : -128 ≤ v_iv (.int z)) (h2 : v_iv (.int z) ≤ 127) : z.toInt8.toInt32 = z := by
  have h1_zq : (-128 : Int) ≤ z.toInt := h1
  have h2_zq : z.toInt ≤ (127 : Int) := h2
  refine Int32.toInt_inj.mp ?_
  rw [Int8.toInt_toInt32, Int32.toInt_toInt8]
  exact Int.bmod_eq_of_le_mul_two (by show -(256 : Int) ≤ _; omega) (by show _ < (256 : Int); omega)
def st_X (wd : Bool) (i : ClassFile.Instr) (ws w1 : va_W) (y : sy_T) (vs : List Value) : Prop := ∀ d b a r, y.2.2.1 = d :: b :: a :: r → ∃ (ad : Nat) (x : Int32) (vd : Value) (q0 : Nat) (e0 e1 : ClassId × vp_A), vs[a]? = some (.ref ad) ∧ vs[b]? = some (.int x) ∧ vs[d]? = some vd ∧ 0 ≤ x.toInt ∧ ws[q0]? = some (ad, .inl e0) ∧ w1 = ws.set q0 (ad, .inl e1) ∧ (∀ j, j ≠ x.toInt.toNat → el_E e1 j = el_E e0 j) ∧ (el_E e1 x.toInt.toNat = v_iv vd ∨ i = .bastore ∧ (0 ≤ v_iv vd → v_iv vd ≤ 1 → el_E e1 x.toInt.toNat = v_iv vd) ∧ (wd = true → -128 ≤ v_iv vd → v_iv vd ≤ 127 → el_E e1 x.toInt.toNat = v_iv vd))
theorem i_01 {z : Int32} (h1 : 0 ≤ z.toInt) (h2 : z.toInt ≤ 1) : z = 0 ∨ z = 1 := by
  have h3 : z.toInt = 0 ∨ z.toInt = 1 := by omega
  rcases h3 with h3 | h3
  · exact Or.inl (Int32.toInt_inj.mp (h3.trans (by decide)))
  · exact Or.inr (Int32.toInt_inj.mp (h3.trans (by decide)))
theorem b_01 {z : Int32} (h1 : 0 ≤ v_iv (.int z)) (h2 : v_iv (.int z) ≤ 1) : z.toInt8.toInt32 = z := by
  rcases i_01 h1 h2 with rfl | rfl <;> decide
theorem z_01 {z : Int32} (h1 : 0 ≤ v_iv (.int z)) (h2 : v_iv (.int z) ≤ 1) : z &&& 1 = z := by
  rcases i_01 h1 h2 with rfl | rfl <;> decide
theorem tr_ast_ok (X : cx p s m args meth c cc nL ret own nm) (hK : va_K D classes (TY kA) s) (hP : va_P D classes ws H) (hD : va_D A ws) (hS : va_S A s.heap H locs) (hth : th_ok kA G ta ws) (hpl : pl_good G) (hd : decode cc pc = .ok (i, len)) {fs : List fc_T} (h : tr_ast G i len y fs = some y_zq) {vs : List Value} {ls : Array Slot} {st : List Value} (hf0 : fc_ok PQ fs ta ws vs)
    (kk : ∀ (H1 : Heap) (locs1 : List Loc) (w1 : va_W), va_P D classes w1 H1 → va_D A w1 → va_S A s.heap H1 locs1 → th_ok kA G ta w1 → (∀ mo : mo_T, (∀ rr ∈ ast_rs y, mo.1.testBit rr = true) → kp mo ta ws w1) → sy_goX p l e R s m args below meth c H1 locs1 cells slots Q nL v0 ta w1 (st_X (ast_b G y) i ws w1 y) (pc + len) y_zq) (hp0 : v0 <+: vs) (hy : sy_ok ta ws vs ls nL st y) : W p l e R s m args below meth c H locs cells slots Q (F0 m pc ls st) := by
  unfold tr_ast at h
  have hs := hy.2.2.1
  split at h
  · rename_i d b a r hst
    rw [hst] at hs
    split at h
    · rename_i t u tv hta hub htd
      obtain ⟨va, vb, vd, rest, rfl, ha, hb2, hd2, oa, ob, od, hr⟩ := sy_three hy.1 hs hta hub htd
      split at h
      · rename_i hk
        obtain ⟨ad, rg, rfl, h1, h2⟩ := tv_ref oa hk.1
        obtain ⟨x, rfl, x1, x2⟩ := tv_int ob hk.2.1
        have x0 : 0 ≤ x.toInt := by have := hk.2.2.1; omega
        obtain rfl := hk.2.2.2
        have X0 : ∀ (w1 : va_W) (q0 : Nat) (e0 e1 : ClassId × vp_A), ws[q0]? = some (ad, .inl e0) → w1 = ws.set q0 (ad, .inl e1) → (∀ j, j ≠ x.toInt.toNat → el_E e1 j = el_E e0 j) → (el_E e1 x.toInt.toNat = v_iv vd ∨ i = .bastore ∧ (0 ≤ v_iv vd → v_iv vd ≤ 1 → el_E e1 x.toInt.toNat = v_iv vd) ∧ (ast_b G y = true → -128 ≤ v_iv vd → v_iv vd ≤ 127 → el_E e1 x.toInt.toNat = v_iv vd)) → st_X (ast_b G y) i ws w1 y vs := fun w1 q0 e0 e1 g1 g2 g3 g4 d_zq b_zq a_zq r_zq hst_zq => by
          rw [hst] at hst_zq
          cases hst_zq
          exact ⟨ad, x, vd, q0, e0, e1, ha, hb2, hd2, x0, g1, g2, g3, g4⟩
        have hrs : rg ∈ ast_rs y := by
          unfold ast_rs
          rw [hst]
          simp only
          rw [hta]
          exact h2
        split at h
        · split at h
          · rename_i hall
            obtain rfl := Option.some.inj h
            obtain ⟨g, g1, g2⟩ := rg_all_ok hall h2
            obtain ⟨q0, e0, hq, hgo⟩ := th_at hth h1 g1
            simp only [ec_i, Bool.and_eq_true, decide_eq_true_eq] at g2
            obtain ⟨⟨⟨⟨k0, k1⟩, k2⟩, k3⟩, k4⟩ := g2
            obtain ⟨z, rfl, _, _⟩ := tv_int od k2
            rcases hgo with ⟨_, n, f, rfl, l1, l2, l3, hf, hf2⟩ | ⟨q, _⟩ | ⟨q, _⟩ | ⟨q, _⟩
            · rw [k0] at hq
              obtain ⟨i1, i2, i3⟩ := in_nat (x := x) (n := n) x0 (by omega)
              refine va_iast X.1 X.2.1 hK hP hD hS q0 0 hq rfl i1 hd (fun H1 locs1 p1 p2 p3 => kk H1 locs1 _ p1 p2 p3 ?_ (fun _ hm => kp_arr hq h1 (hm rg hrs)) _ _ _ hp0 (X0 _ q0 _ _ hq rfl (fun j hj => by show (upd f _ _ j).toInt = _; unfold upd; rw [if_neg (by rw [i2]; exact hj)]; rfl) (Or.inl (by show (upd f _ _ _).toInt = _; unfold upd; rw [if_pos i2.symm]; rfl))) (sy_kept hy hr hq))
              refine th_set hD hth hq h1 g1 (Or.inl ⟨by omega, n, _, by rw [k0], l1, l2, l3, fun j hj => ?_, fun j t_zq hj ht_zq => ?_⟩)
              · unfold upd
                split
                · exact tv_le_ok k3 od
                · exact hf j hj
              · unfold upd
                split
                · rename_i ej
                  rcases Bool.or_eq_true_iff.mp k4 with k4 | k4
                  · rcases Bool.or_eq_true_iff.mp k4 with k4 | k4
                    · have : g.2.2.2.2.length = 0 := by simpa using k4
                      have hlt := (List.getElem?_eq_some_iff.mp ht_zq).1
                      omega
                    · have hlt := (List.getElem?_eq_some_iff.mp ht_zq).1
                      have hr2 := of_rng_ok hy hb2 x0 (show 0 < g.2.2.2.2.length by omega)
                      rw [ej, i2] at ht_zq
                      exact tv_le_ok (List.all_eq_true.mp k4 _ (sg_part_mem hr2.1 hr2.2 ht_zq)) od
                  · split at k4
                    · rename_i cq0 hcq
                      have hL := hpl rg g cq0 g1 k0 hcq
                      have hF := (fc_now_ok hf0 _ (List.contains_iff_mem.mp k4)).2.2
                      have hF2 : pl_ok ((cq0 : Int)).toNat (v_iv (n_v vs b)).toNat (v_iv (n_v vs d)) := hF
                      rw [n_v_of hb2, n_v_of hd2, Int.toNat_natCast] at hF2
                      rw [ej, i2, hL] at ht_zq
                      exact pl_tv (hF2 t_zq ht_zq)
                    · cases k4
                · exact hf2 j t_zq hj ht_zq
            · omega
            · omega
            · omega
          · cases h
        · split at h
          · rename_i hall
            obtain rfl := Option.some.inj h
            obtain ⟨g, g1, g2⟩ := rg_all_ok hall h2
            obtain ⟨q0, e0, hq, hgo⟩ := th_at hth h1 g1
            simp only [ec_l, Bool.and_eq_true, decide_eq_true_eq] at g2
            obtain ⟨⟨⟨k0, k1⟩, k2⟩, k3⟩ := g2
            obtain ⟨z, rfl, _, _⟩ := tv_long od k2
            rcases hgo with ⟨q, _⟩ | ⟨_, n, f, rfl, l1, l2, l3, hf⟩ | ⟨q, _⟩ | ⟨q, _⟩
            · omega
            · obtain ⟨i1, i2, i3⟩ := in_nat (x := x) (n := n) x0 (by omega)
              refine va_last X.1 X.2.1 hK hP hD hS q0 3 hq rfl i1 hd (fun H1 locs1 p1 p2 p3 => kk H1 locs1 _ p1 p2 p3 ?_ (fun _ hm => kp_arr hq h1 (hm rg hrs)) _ _ _ hp0 (X0 _ q0 _ _ hq rfl (fun j hj => by show (vp_updL f _ _ j).toInt = _; unfold vp_updL; rw [if_neg (by rw [i2]; exact hj)]; rfl) (Or.inl (by show (vp_updL f _ _ _).toInt = _; unfold vp_updL; rw [if_pos i2.symm]; rfl))) (sy_kept hy hr hq))
              refine th_set hD hth hq h1 g1 (Or.inr (Or.inl ⟨k0, n, _, rfl, l1, l2, l3, fun j hj => ?_⟩))
              unfold vp_updL
              split
              · exact tv_le_ok k3 od
              · exact hf j hj
            · omega
            · omega
          · cases h
        · split at h
          · rename_i hall
            obtain rfl := Option.some.inj h
            obtain ⟨g, g1, g2⟩ := rg_all_ok hall h2
            obtain ⟨q0, e0, hq, hgo⟩ := th_at hth h1 g1
            simp only [ec_b, Bool.and_eq_true, Bool.or_eq_true, decide_eq_true_eq] at g2
            obtain ⟨⟨⟨k1, k2⟩, k9⟩, k3⟩ := g2
            have no9 : ∀ (j : Nat) (t_zq : tv_T), g.2.2.2.2[j % g.2.2.2.2.length]? = some t_zq → False := fun j t_zq ht_zq => by have := (List.getElem?_eq_some_iff.mp ht_zq).1; omega
            obtain ⟨z, rfl, z1, z2⟩ := tv_int od k2
            rcases hgo with ⟨_, n, f, rfl, l1, l2, l3, hf, hf2⟩ | ⟨q, _⟩ | ⟨q, _⟩ | ⟨q, _⟩
            · obtain ⟨i1, i2, i3⟩ := in_nat (x := x) (n := n) x0 (by omega)
              rcases k3 with ⟨k0, k4⟩ | ⟨k0, k4⟩
              · rw [k0] at hq
                refine va_bast X.1 X.2.1 hK hP hD hS q0 1 hq rfl i1 hd (fun H1 locs1 p1 p2 p3 => kk H1 locs1 _ p1 p2 p3 ?_ (fun _ hm => kp_arr hq h1 (hm rg hrs)) _ _ _ hp0 (X0 _ q0 _ _ hq rfl (fun j hj => by show (upd f _ _ j).toInt = _; unfold upd; rw [if_neg (by rw [i2]; exact hj)]; rfl) (Or.inr ⟨rfl, fun w1 w2 => by show (upd f _ _ _).toInt = _; unfold upd; rw [if_pos i2.symm, nar_b, b_01 w1 w2]; rfl, fun _ w1 w2 => by show (upd f _ _ _).toInt = _; unfold upd; rw [if_pos i2.symm, nar_b, b_128 w1 w2]; rfl⟩)) (sy_kept hy hr hq))
                refine th_set hD hth hq h1 g1 (Or.inl ⟨by omega, n, _, by rw [k0], l1, l2, l3, fun j hj => ?_, fun j t_zq _ ht_zq => (no9 j t_zq ht_zq).elim⟩)
                unfold upd
                split
                · rw [nar_b]
                  have hb := i2b_ty (ta := ta) z1 z2
                  rcases k4 with k4 | ⟨⟨k5, k6⟩, k7⟩
                  · refine tv_le_ok k4 ?_
                    split at hb
                    · rename_i q
                      simp only [Bool.and_eq_true, decide_eq_true_eq] at q
                      refine tv_le_ok ?_ hb
                      simp [tv_le, q.1, q.2]
                    · exact hb
                  · rw [if_pos (by simp [k5, k6])] at hb
                    refine tv_le_ok (t := (0, tv.2.1, tv.2.2.1, [])) ?_ hb
                    unfold tv_le at k7 ⊢
                    rw [if_pos k2] at k7
                    rw [if_pos rfl]
                    exact k7
                · exact hf j hj
              · rw [k0] at hq
                refine va_zast X.1 X.2.1 hK hP hD hS q0 2 hq rfl i1 hd (fun H1 locs1 p1 p2 p3 => kk H1 locs1 _ p1 p2 p3 ?_ (fun _ hm => kp_arr hq h1 (hm rg hrs)) _ _ _ hp0 (X0 _ q0 _ _ hq rfl (fun j hj => by show (upd f _ _ j).toInt = _; unfold upd; rw [if_neg (by rw [i2]; exact hj)]; rfl) (Or.inr ⟨rfl, fun w1 w2 => by show (upd f _ _ _).toInt = _; unfold upd; rw [if_pos i2.symm, nar_z, z_01 w1 w2]; rfl, fun q _ _ => by obtain ⟨g_zq, g3, g4⟩ := ast_b_ok q hst hta h2; rw [g1] at g3; cases g3; omega⟩)) (sy_kept hy hr hq))
                refine th_set hD hth hq h1 g1 (Or.inl ⟨by omega, n, _, by rw [k0], l1, l2, l3, fun j hj => ?_, fun j t_zq _ ht_zq => (no9 j t_zq ht_zq).elim⟩)
                unfold upd
                split
                · rw [nar_z]
                  refine tv_le_ok k4 ?_
                  have hb := and_r (x := z) (y := 1) (by decide)
                  have h1_zq : (1 : Int32).toInt = 1 := by decide
                  exact Or.inl ⟨rfl, _, rfl, hb.1, Int.le_trans hb.2 (Int.le_of_eq h1_zq)⟩
                · exact hf j hj
            · omega
            · omega
            · omega
          · cases h
        · cases h
      · cases h
    · cases h
  · cases h
/-- a field's rule for writing -/
def pf_rule (own nm : String) (idx ci k : Nat) (ft : FieldType) : Prop := ∀ (p : Program) (l : Launch) (e : Env) (R : Room) (s : State) (m : MethodId) (args : Array Value) (below : List Frame) (meth : Method) (c : Code) (H : Heap) (locs : List Loc) (cells slots : Nat) (Q : State → Prop) (cc : ByteArray) (pc nL : Nat) (ret : Option FieldType) (D : va_G) (kA : Nat → ClassId) (A : Nat → Prop) (ws : va_W) (ls : Array Slot) (rest : List Value) (q0 a : Nat) (fs : List Value) (v : Value),
  cx p s m args meth c cc nL ret own nm → va_K D classes (TY kA) s → va_P D classes ws H → va_D A ws → va_S A s.heap H locs → ws[q0]? = some (a, .inr (ci, fs)) → k < fs.length → narrow ft v = v → fits ft v = true → decode cc pc = .ok (.putfield idx, 3) →
  (∀ (H1 : Heap) (locs1 : List Loc), va_P D classes (ws.set q0 (a, .inr (ci, fs.set k v))) H1 → va_D A (ws.set q0 (a, .inr (ci, fs.set k v))) → va_S A s.heap H1 locs1 → W p l e R s m args below meth c H1 locs1 cells slots Q (F0 m (pc + 3) ls rest)) → W p l e R s m args below meth c H locs cells slots Q (F0 m pc ls (v :: .ref a :: rest))
theorem pf_mk {own nm : String} {idx ci k : Nat} {C : String} {T : u_T} {N : Nat} (hc : classes[ci]? = some (C, T, N)) (hi : ∀ w ∈ u_ws C T N, w ∈ lw_g) (ty0 : Nat → FieldType) (hty : ∀ k, k < N → parseFieldDescriptor (T k).2.2.1 = some (ty0 k)) (hnm : ∀ a, a < N → ∀ b, b < N → a ≠ b → (T a).2.1 ≠ (T b).2.1) (hk : k < N) (hl : Cond.fieldLink own idx C (T k).2.1 (T k).2.2.1 ∈ lw_g) (ho : (T k).1 = C) (hf : (T k).2.2.2 = false ∨ (nm = "<init>" ∧ C = own)) : pf_rule own nm idx ci k (ty0 k) :=
  fun _ _ _ _ _ _ _ _ _ _ _ _ _ _ _ _ _ _ _ _ _ _ _ _ _ q0 _ _ _ X hK hP hD hS he hlen hn hfit hd kk => k_put X hK hP hD hS q0 he hc hi ty0 hty hnm k hk hl ho hf hn hfit hlen hd kk
/-- what fits a field: of ints, booleans, longs, references -/
def ft_ok (ft : FieldType) (tv : tv_T) : Bool := match ft with
  | .int => decide (tv.1 = 0)
  | .boolean => decide (tv.1 = 0) && decide (0 ≤ tv.2.1) && decide (tv.2.2.1 ≤ 1)
  | .long => decide (tv.1 = 1)
  | .object _ => decide (2 ≤ tv.1) && decide (tv.1 < 4)
  | .array _ => decide (2 ≤ tv.1) && decide (tv.1 < 4)
  | _ => false
theorem ft_ok_fit {ft : FieldType} {tv : tv_T} {v : Value} (h : ft_ok ft tv = true) (hv : tv_ok ta tv v) : narrow ft v = v ∧ fits ft v = true := by
  unfold ft_ok at h
  have href : 2 ≤ tv.1 ∧ tv.1 < 4 → v = .null ∨ ∃ a, v = .ref a := fun h2 => by
    rcases hv with ⟨k, _⟩ | ⟨k, _⟩ | ⟨k, a, r, e, _⟩ | ⟨k, e | ⟨a, r, e, _⟩⟩ | ⟨k, _⟩ | ⟨k, _⟩
    · omega
    · omega
    · exact Or.inr ⟨a, e⟩
    · exact Or.inl e
    · exact Or.inr ⟨a, e⟩
    · omega
    · omega
  split at h
  · obtain ⟨x, rfl, _⟩ := tv_int hv (by simpa using h); exact ⟨rfl, rfl⟩
  · simp only [Bool.and_eq_true, decide_eq_true_eq] at h
    obtain ⟨x, rfl, h1, h2⟩ := tv_int hv h.1.1
    have h3 : x.toInt = 0 ∨ x.toInt = 1 := by omega
    rcases h3 with h3 | h3
    · have : x = 0 := Int32.toInt_inj.mp (h3.trans (by decide)); subst this; exact ⟨rfl, rfl⟩
    · have : x = 1 := Int32.toInt_inj.mp (h3.trans (by decide)); subst this; exact ⟨rfl, rfl⟩
  · obtain ⟨x, rfl, _⟩ := tv_long hv (by simpa using h); exact ⟨rfl, rfl⟩
  · rcases href (by simpa using h) with rfl | ⟨a, rfl⟩ <;> exact ⟨rfl, rfl⟩
  · rcases href (by simpa using h) with rfl | ⟨a, rfl⟩ <;> exact ⟨rfl, rfl⟩
  · cases h
def fc_of (ci k : Nat) (y : sy_T) (d : Nat) (g : rg_T) : Bool := decide (g.1 = ci + 10) && (match g.2.2.2.2[k]? with | some w => nm_le y d w | none => false)
def tr_put (G : List rg_T) (ci k : Nat) (ft : FieldType) (y : sy_T) : Option sy_T := match y.2.2.1 with
  | d :: a :: r => match y.1[a]?, y.1[d]? with
    | some t, some tv => if t.1 = 2 ∧ ft_ok ft tv = true ∧ rg_all G (fc_of ci k y d) t.2.2.2 = true then some (y.1, y.2.1, r, ((a, k), d) :: y.2.2.2.1.filter (fun q => !(q.1.2 == k)), y.2.2.2.2) else none
    | _, _ => none
  | _ => none
/-- the regions of the object whose field is set -/
def put_rs (y : sy_T) : List Nat := match y.2.2.1 with
  | _ :: a :: _ => (match y.1[a]? with | some t => t.2.2.2 | none => [])
  | _ => []
def pt_X (k : Nat) (ws w1 : va_W) (y : sy_T) (vs : List Value) : Prop := ∀ d a r, y.2.2.1 = d :: a :: r → ∃ (ad : Nat) (vd : Value) (q0 ci : Nat) (fs : List Value), vs[a]? = some (.ref ad) ∧ vs[d]? = some vd ∧ ws[q0]? = some (ad, .inr (ci, fs)) ∧ k < fs.length ∧ w1 = ws.set q0 (ad, .inr (ci, fs.set k vd))
theorem tr_put_ok {idx ci k : Nat} {ft : FieldType} (hr0 : pf_rule own nm idx ci k ft) (X : cx p s m args meth c cc nL ret own nm) (hK : va_K D classes (TY kA) s) (hP : va_P D classes ws H) (hD : va_D A ws) (hS : va_S A s.heap H locs) (hth : th_ok kA G ta ws) (hd : decode cc pc = .ok (.putfield idx, 3)) (h : tr_put G ci k ft y = some y_zq)
    (kk : ∀ (H1 : Heap) (locs1 : List Loc) (w1 : va_W), va_P D classes w1 H1 → va_D A w1 → va_S A s.heap H1 locs1 → th_ok kA G ta w1 → (∀ mo : mo_T, (∀ rr ∈ put_rs y, (rr, k) ∈ mo.2.1) → kp mo ta ws w1) → sy_goX p l e R s m args below meth c H1 locs1 cells slots Q nL v0 ta w1 (pt_X k ws w1 y) (pc + 3) y_zq) : sy_go p l e R s m args below meth c H locs cells slots Q nL v0 ta ws pc y := by
  intro vs ls st hp0 hy
  unfold tr_put at h
  have hs := hy.2.2.1
  split at h
  · rename_i d a r hst
    rw [hst] at hs
    split at h
    · rename_i t tv hta htd
      obtain ⟨va, vd, rest, rfl, ha, hd2, oa, od, hr⟩ := sy_two hy.1 hs hta htd
      split at h
      · rename_i hk
        obtain rfl := Option.some.inj h
        obtain ⟨ad, rg, rfl, h1, h2⟩ := tv_ref oa hk.1
        obtain ⟨g, g1, g2⟩ := rg_all_ok hk.2.2 h2
        obtain ⟨q0, e0, hq, hgo⟩ := th_at hth h1 g1
        simp only [fc_of, Bool.and_eq_true, decide_eq_true_eq] at g2
        obtain ⟨k0, k1⟩ := g2
        obtain ⟨f1, f2⟩ := ft_ok_fit (ta := ta) hk.2.1 od
        split at k1
        · rename_i w hw
          rcases hgo with ⟨z, _⟩ | ⟨z, _⟩ | ⟨_, z, _⟩ | ⟨z10, fs, rfl, hlen, hfs⟩
          · omega
          · omega
          · omega
          · have hci : g.1 - 10 = ci := by omega
            rw [hci] at hq
            have hkl : k < fs.length := by rw [hlen]; exact (List.getElem?_eq_some_iff.mp hw).1
            have hq0 := (List.getElem?_eq_some_iff.mp hq).1
            refine hr0 _ _ _ _ _ _ _ _ _ _ _ _ _ _ _ _ _ _ _ _ _ _ _ _ _ q0 ad fs vd X hK hP hD hS hq hkl f1 f2 hd (fun H1 locs1 p1 p2 p3 => kk H1 locs1 _ p1 p2 p3 ?_ (fun _ hm => kp_fld hq (fun r hr => hm r (by unfold put_rs; rw [hst]; simp only [hta]; rw [h1] at hr; rw [← Option.some.inj hr]; exact h2))) vs ls rest hp0 ?_ ⟨hy.1, hy.2.1, hr, fun q hq2 => ?_, hy.2.2.2.2⟩)
            · refine th_set hD hth hq h1 g1 (Or.inr (Or.inr (Or.inr ⟨z10, fs.set k vd, by rw [hci], by rw [List.length_set]; exact hlen, fun j t_zq v_zq j1 j2 => ?_⟩)))
              by_cases ej : k = j
              · subst ej
                rw [hw] at j1
                rw [List.getElem?_set_self hkl] at j2
                rw [← Option.some.inj j1, ← Option.some.inj j2]
                exact nm_le_ok hy hd2 k1
              · rw [List.getElem?_set_ne ej] at j2
                exact hfs j t_zq v_zq j1 j2
            · intro d_zq a_zq r_zq hst_zq
              rw [hst] at hst_zq
              cases hst_zq
              exact ⟨ad, vd, q0, ci, fs, ha, hd2, hq, hkl, rfl⟩
            · rcases List.mem_cons.mp hq2 with rfl | hq2
              · refine ⟨ad, ci, fs.set k vd, vd, ha, List.mem_iff_getElem?.mpr ⟨q0, by rw [List.getElem?_set_self hq0]⟩, ?_, hd2⟩
                show (fs.set k vd)[k]? = some vd
                rw [List.getElem?_set_self hkl]
              · obtain ⟨q3, q4⟩ := List.mem_filter.mp hq2
                have q5 : ¬ k = q.1.2 := fun e => by simp [e] at q4
                obtain ⟨a2, ci2, fs2, v2, m1, m2, m3, m4⟩ := hy.2.2.2.1 q q3
                obtain ⟨j, hj⟩ := List.mem_iff_getElem?.mp m2
                by_cases ej : q0 = j
                · subst ej
                  rw [hq] at hj
                  have e9 := Option.some.inj hj
                  have e1 : ad = a2 := by injection e9
                  have e8 : ci = ci2 ∧ fs = fs2 := by injection e9 with _ e7; injection e7 with e6; injection e6 with e5 e4; exact ⟨e5, e4⟩
                  refine ⟨ad, ci, fs.set k vd, v2, by rw [e1]; exact m1, List.mem_iff_getElem?.mpr ⟨q0, by rw [List.getElem?_set_self hq0]⟩, ?_, m4⟩
                  rw [List.getElem?_set_ne q5, e8.2]; exact m3
                · refine ⟨a2, ci2, fs2, v2, m1, List.mem_iff_getElem?.mpr ⟨j, ?_⟩, m3, m4⟩
                  rw [List.getElem?_set_ne ej]; exact hj
        · cases k1
      · cases h
    · cases h
  · cases h
end M10
end
section
variable {PQ : pq_T}
/-! contracts by kinds: (arguments, answer, does it leave the world as it is, rank, cells, slots, how it may end: pictures of what is known at the start and of the answer; none: nothing is said; fields of the arguments that are known at the start; fields that it may write) -/
abbrev ga_L : Type := List ((Nat × Nat) × tv_T)
abbrev en_T : Type := List tv_T × Option tv_T × Bool × Nat × Nat × Nat × List sy_T × ga_L × mo_T
def gv_ok (ta : Nat → Option Nat) (ws : va_W) (av : List Value) : ga_L → List Value → Prop
  | [], [] => True
  | q :: r, g :: gs => (∃ (a ci : Nat) (fs : List Value), av[q.1.1]? = some (.ref a) ∧ (a, .inr (ci, fs)) ∈ ws ∧ fs[q.1.2]? = some g) ∧ tv_ok ta q.2 g ∧ gv_ok ta ws av r gs
  | _, _ => False
/-- one of the ends -/
def po_ok (PQ : pq_T) (ta : Nat → Option Nat) (w1 : va_W) (bv : List Value) (PA : List sy_T) (PO : List fc_T) (r : Option Value) : Prop := (∀ f ∈ PO, fc_1 PQ f w1 (bv ++ r.toList)) ∧ (PA = [] ∨ ∃ P ∈ PA, ∃ vs, bv <+: vs ∧ sy_env ta P.1 vs ∧ (∀ q ∈ P.2.2.2.2.1, sy_ofs vs q) ∧ (∀ q ∈ P.2.2.2.2.2, sy_dv vs q) ∧ (∀ q ∈ P.2.2.2.1, sy_mem vs w1 q) ∧ sy_st vs P.2.2.1 r.toList)
def rm_of (d mc ms : Nat) : Room := { frames := d, cells := mc, slots := ms, locals := 64 * d }
def ag_ok (ta : Nat → Option Nat) : List tv_T → List Value → Prop
  | [], [] => True
  | t :: ts, v :: vs => tv_ok ta t v ∧ ag_ok ta ts vs
  | _, _ => False
def rt_ok (ta : Nat → Option Nat) (rt : Option tv_T) (r : Option Value) : Prop := match rt, r with
  | none, none => True
  | some t, some v => tv_ok ta t v
  | _, _ => False
abbrev uS_T : Type := (Nat → Option Nat) × va_W
def up_ok (kA : Nat → ClassId) (G : List rg_T) (ta : Nat → Option Nat) (ws : va_W) (pu : Bool) (mo : mo_T) (u : uS_T) : Prop := ta_le ta u.1 ∧ th_ok kA G u.1 u.2 ∧ (pu = true → u = (ta, ws)) ∧ kp mo ta ws u.2
def qc_of (PQ : pq_T) (D : va_G) (kA : Nat → ClassId) (G : List rg_T) (en : en_T) (ta : Nat → Option Nat) (ws : va_W) (sz : Nat) (bv : List Value) : Array Value → State → Outcome → State → Prop := match en.2.1 with
  | none => va_Qv (fun u => up_ok kA G ta ws en.2.2.1 en.2.2.2.2.2.2.2.2 u ∧ po_ok PQ u.1 u.2 bv en.2.2.2.2.2.2.1 en.2.2.2.2.2.2.2.2.2.2.2.1 none) (fun u t => wq D classes (TY kA) (va_A ws sz) u.2 t) (va_A ws sz)
  | some rt => if rt.1 = 0 ∨ rt.1 = 5 then va_Qi (fun r u => up_ok kA G ta ws en.2.2.1 en.2.2.2.2.2.2.2.2 u ∧ tv_ok u.1 rt (.int r) ∧ po_ok PQ u.1 u.2 bv en.2.2.2.2.2.2.1 en.2.2.2.2.2.2.2.2.2.2.2.1 (some (.int r))) (fun u t => wq D classes (TY kA) (va_A ws sz) u.2 t) (va_A ws sz)
    else if rt.1 = 1 then va_Ql (fun r u => up_ok kA G ta ws en.2.2.1 en.2.2.2.2.2.2.2.2 u ∧ tv_ok u.1 rt (.long r) ∧ po_ok PQ u.1 u.2 bv en.2.2.2.2.2.2.1 en.2.2.2.2.2.2.2.2.2.2.2.1 (some (.long r))) (fun u t => wq D classes (TY kA) (va_A ws sz) u.2 t) (va_A ws sz)
    else va_Qr (up_ok kA G ta ws en.2.2.1 en.2.2.2.2.2.2.2.2) (fun u a t => (tv_ok u.1 rt (.ref a) ∧ po_ok PQ u.1 u.2 bv en.2.2.2.2.2.2.1 en.2.2.2.2.2.2.2.2.2.2.2.1 (some (.ref a))) ∧ wq D classes (TY kA) (va_A ws sz) u.2 t) (va_A ws sz)
def pr_ok (PQ : pq_T) (en : en_T) (ws : va_W) (bv : List Value) : Prop := ∀ f ∈ en.2.2.2.2.2.2.2.2.2.2.1, fc_1 PQ f ws bv
def ct_ok (PQ : pq_T) (l : Launch) (D : va_G) (kA : Nat → ClassId) (G : List rg_T) (y : MethodName) (z : List Cond) (en : en_T) : Prop := ∀ (sz : Nat) (ta : Nat → Option Nat) (ws : va_W) (av gv hv : List Value), th_ok kA G ta ws → ag_ok ta en.1 av → gv_ok ta ws av en.2.2.2.2.2.2.2.1 gv → ag_ok ta en.2.2.2.2.2.2.2.2.2.2.2.2 hv → pr_ok PQ en ws (av ++ gv ++ hv) →
  Met l y z (rm_of en.2.2.2.1 en.2.2.2.2.1 en.2.2.2.2.2.1) (va_Pc av (wpr kA D sz ws)) (qc_of PQ D kA G en ta ws sz (av ++ gv ++ hv)) en.2.2.2.2.1 en.2.2.2.2.2.1 (va_A ws sz)
def push_r (r : Option Value) (rest : List Value) : List Value := match r with
  | none => rest
  | some v => v :: rest
/-- a call that goes well -/
def cq_ok (PQ : pq_T) (l : Launch) (D : va_G) (kA : Nat → ClassId) (G : List rg_T) (own : String) (Dc : ByteArray → Nat → List Value → Prop) (len : Nat) (en : en_T) : Prop := ∀ (p : Program) (e : Env) (R : Room) (s : State) (m : MethodId) (args : Array Value) (below : List Frame) (meth : Method) (c : Code) (H : Heap) (locs : List Loc) (cells slots : Nat) (Q : State → Prop) (cc : ByteArray) (pc nL : Nat) (ret : Option FieldType) (nm : String) (A : Nat → Prop) (ws : va_W) (ta : Nat → Option Nat) (ls : Array Slot) (av gv hv rest : List Value),
  cx p s m args meth c cc nL ret own nm → va_K D classes (TY kA) s → nsr kA A s → (∀ q, s.heap.size ≤ q → A q) → va_P D classes ws H → va_D A ws → va_S A s.heap H locs → th_ok kA G ta ws → ag_ok ta en.1 av → gv_ok ta ws av en.2.2.2.2.2.2.2.1 gv → ag_ok ta en.2.2.2.2.2.2.2.2.2.2.2.2 hv → pr_ok PQ en ws (av ++ gv ++ hv) → (rest.map fun v => v.category).sum ≤ 16 → en.2.2.2.1 + 1 ≤ R.frames → 64 * (en.2.2.2.1 + 1) ≤ R.locals → cells + en.2.2.2.2.1 ≤ R.cells → slots + en.2.2.2.2.2.1 ≤ R.slots → ls.size = nL → Dc cc pc rest →
  (∀ (tb : Nat → Option Nat) (w1 : va_W) (H1 : Heap) (locs1 : List Loc) (r : Option Value), ta_le ta tb → th_ok kA G tb w1 → va_P D classes w1 H1 → va_D A w1 → va_S A s.heap H1 locs1 → rt_ok tb en.2.1 r → po_ok PQ tb w1 (av ++ gv ++ hv) en.2.2.2.2.2.2.1 en.2.2.2.2.2.2.2.2.2.2.2.1 r → (en.2.2.1 = true → (tb, w1) = (ta, ws)) → kp en.2.2.2.2.2.2.2.2 ta ws w1 → W p l e R s m args below meth c H1 locs1 (cells + en.2.2.2.2.1) (slots + en.2.2.2.2.2.1) Q (F0 m (pc + len) ls (push_r r rest))) →
  W p l e R s m args below meth c H locs cells slots Q (F0 m pc ls (av.reverse ++ rest))
/-- one instruction -/
def cl_ok (PQ : pq_T) (l : Launch) (D : va_G) (kA : Nat → ClassId) (G : List rg_T) (own : String) (op : ClassFile.Instr) (len : Nat) (en : en_T) : Prop := cq_ok PQ l D kA G own (fun cc pc _ => decode cc pc = .ok (op, len)) len en
section M11
variable {p : Program} {l : Launch} {e : Env} {R : Room} {s : State} {m : MethodId} {args : Array Value} {below : List Frame} {meth : Method} {c : Code} {H : Heap} {locs : List Loc} {cells slots : Nat} {Q : State → Prop} {cc : ByteArray} {pc nL : Nat} {ta : Nat → Option Nat} {ws : va_W} {D : va_G} {kA : Nat → ClassId} {G : List rg_T} {A : Nat → Prop} {ret : Option FieldType} {own nm : String} {ls : Array Slot} {av gv hv rest : List Value} {en : en_T}
theorem m_pre (hN : nsr kA A s) (hA : ∀ q, s.heap.size ≤ q → A q) (hS : va_S A s.heap H locs) (hK : va_K D classes (TY kA) s) (hP : va_P D classes ws H) (hD : va_D A ws) : PreS s H (va_Pc av (wpr kA D H.size ws)) av :=
  ⟨wpr_blind, fun U hU hW => ⟨rfl, ⟨by rw [hU], by rw [hU]; exact hP, va_K.moved hW.alike hK, hD.weaken (fun _ _ _ _ => trivial), nst.warm hW hN.1⟩, ro_go hN.2 hW (by rw [hU]; exact hS) (fun q hq => by
    rcases hq with ⟨k, e, hk⟩ | hq
    · exact hD.2 k (q, e) hk
    · exact hA q (Nat.le_trans hS.1 hq))⟩⟩
theorem m_go {st0 : List Value} {b : Array Value} (hr : va_Run p l e R s m args below meth c H locs cells slots en.2.2.2.2.1 en.2.2.2.2.2.1 (F0 m pc ls st0) rest (qc_of PQ D kA G en ta ws H.size (av ++ gv ++ hv) b) (va_A ws H.size))
    (hP : va_P D classes ws H) (hD : va_D A ws) (hS : va_S A s.heap H locs) (hA : ∀ q, s.heap.size ≤ q → A q)
    (kk : ∀ (tb : Nat → Option Nat) (w1 : va_W) (H1 : Heap) (locs1 : List Loc) (r : Option Value), ta_le ta tb → th_ok kA G tb w1 → va_P D classes w1 H1 → va_D A w1 → va_S A s.heap H1 locs1 → rt_ok tb en.2.1 r → po_ok PQ tb w1 (av ++ gv ++ hv) en.2.2.2.2.2.2.1 en.2.2.2.2.2.2.2.2.2.2.2.1 r → (en.2.2.1 = true → (tb, w1) = (ta, ws)) → kp en.2.2.2.2.2.2.2.2 ta ws w1 → W p l e R s m args below meth c H1 locs1 (cells + en.2.2.2.2.1) (slots + en.2.2.2.2.2.1) Q (F0 m (pc + 3) ls (push_r r rest))) : W p l e R s m args below meth c H locs cells slots Q (F0 m pc ls st0) := by
  have hCq : (List.range ws.length).map (fun i => ws[i]?) = ws.map some := by
    have := wp_placesL ws []
    rw [List.append_nil] at this
    exact this
  have hF := va_free (wc := ws) hD hS hA _ hCq
  have dn : ∀ (u : uS_T) (t : State) (H1 : Heap), t.heap = H1 → wq D classes (TY kA) (va_A ws H.size) u.2 t → va_P D classes u.2 H1 ∧ va_D A u.2 := fun u t H1 ht hB => by
    obtain ⟨hP1, _, hD1⟩ := hB
    rw [ht] at hP1
    exact ⟨hP1, hD1.weaken (fun _ q _ hq => hF q.1 hq)⟩
  unfold qc_of at hr
  cases hrt : en.2.1 with
  | none =>
    rw [hrt] at hr kk
    refine va_callv hr hS (fun q _ h => hF q h) hF (fun u t H1 locs1 ht _ hw hB _ hk1 hS1 => ?_)
    obtain ⟨a1, a2⟩ := dn u t H1 ht hB
    exact kk u.1 u.2 H1 locs1 none hw.1.1 hw.1.2.1 a1 a2 hS1 trivial hw.2 hw.1.2.2.1 hw.1.2.2.2
  | some rt =>
    rw [hrt] at hr kk
    simp only at hr
    split at hr
    · refine va_calli hr hS (fun q _ h => hF q h) hF (fun r u t H1 locs1 ht _ hw hB _ hk1 hS1 => ?_)
      obtain ⟨a1, a2⟩ := dn u t H1 ht hB
      exact kk u.1 u.2 H1 locs1 (some (.int r)) hw.1.1 hw.1.2.1 a1 a2 hS1 hw.2.1 hw.2.2 hw.1.2.2.1 hw.1.2.2.2
    · split at hr
      · refine va_calll hr hS (fun q _ h => hF q h) hF (fun r u t H1 locs1 ht _ hw hB _ hk1 hS1 => ?_)
        obtain ⟨a1, a2⟩ := dn u t H1 ht hB
        exact kk u.1 u.2 H1 locs1 (some (.long r)) hw.1.1 hw.1.2.1 a1 a2 hS1 hw.2.1 hw.2.2 hw.1.2.2.1 hw.1.2.2.2
      · refine va_callr hr hS (fun q _ h => hF q h) hF (fun u ra t H1 locs1 ht _ hw hB _ hk1 hS1 => ?_)
        obtain ⟨a1, a2⟩ := dn u t H1 ht hB.2
        exact kk u.1 u.2 H1 locs1 (some (.ref ra)) hw.1 hw.2.1 a1 a2 hS1 hB.1.1 hB.1.2 hw.2.2.1 hw.2.2.2
end M11
theorem ag_len {ta : Nat → Option Nat} : ∀ {ts : List tv_T} {vs : List Value}, ag_ok ta ts vs → vs.length = ts.length
  | [], [], _ => rfl
  | _ :: ts, _ :: vs, h => by rw [List.length_cons, List.length_cons, ag_len h.2]
  | [], _ :: _, h => h.elim
  | _ :: _, [], h => h.elim
/-- a static method with a contract -/
theorem cl_static {l : Launch} {D : va_G} {kA : Nat → ClassId} {G : List rg_T} {own : String} {y : MethodName} {bytes : ByteArray} {maxL index : Nat} {ret' : Option FieldType} {en : en_T} (hM : ct_ok PQ l D kA G y (Cond.code y bytes maxL ret' :: lw_g) en)
    (hc : Cond.code y bytes maxL ret' ∈ lw_g) (hini : Cond.initialized y.cls ∈ lw_g) (hl : Cond.methodLink own index y ∈ lw_g) (hin : Cond.static y ∈ lw_g)
    (hd : y.cls ≠ "java/lang/invoke/MethodHandle" ∧ y.cls ≠ "java/lang/invoke/VarHandle" ∧ (parseMethodDescriptor y.desc).map (fun d => d.parameters.length) = some en.1.length) (hm : maxL ≤ 37) : cl_ok PQ l D kA G own (.invokestatic index) 3 en := by
  intro p e R s m args below meth c H locs cells slots Q cc pc nL ret nm A ws ta ls av gv hv rest X hK hN hA hP hD hS hth hag hgv hhv hpr hrest hfr hlo hce hsl hls hdec kk
  exact m_go (k_rS16 X (hM H.size ta ws av gv hv hth hag hgv hhv hpr) rfl hc hini hl hin en.1.length hd ⟨hfr, by show 16 + (maxL + 11) + 64 * en.2.2.2.1 ≤ R.locals; omega⟩ rfl rfl (m_pre hN hA hS hK hP hD) (ag_len hag) hls rfl hrest hdec ⟨hce, hsl⟩) hP hD hS hA kk
/-- a method of an object of the own region -/
theorem cl_virtual {l : Launch} {D : va_G} {kA : Nat → ClassId} {G : List rg_T} {own : String} {y : MethodName} {bytes : ByteArray} {maxL index : Nat} {ret' : Option FieldType} {en : en_T} {t0 : tv_T} {ts : List tv_T} (hen : en.1 = t0 :: ts) (ht0 : t0.1 = 2) {ci : Nat} (hci : ∃ T N, classes[ci]? = some (y.cls, T, N)) (hall : rg_all G (fun g => decide (g.1 = ci + 10)) t0.2.2.2 = true) (hM : ct_ok PQ l D kA G y (Cond.code y bytes maxL ret' :: lw_g) en)
    (hc : Cond.code y bytes maxL ret' ∈ lw_g) (hini : Cond.initialized y.cls ∈ lw_g) (hl : Cond.methodLink own index y ∈ lw_g) (hin : Cond.instanceMethod y ∈ lw_g) (hsel : Cond.selects y.cls y y ∈ lw_g)
    (hd : y.cls ≠ "java/lang/invoke/MethodHandle" ∧ y.cls ≠ "java/lang/invoke/VarHandle" ∧ (parseMethodDescriptor y.desc).map (fun d => d.parameters.length) = some ts.length) (hm : maxL ≤ 37) : cl_ok PQ l D kA G own (.invokevirtual index) 3 en := by
  intro p e R s m args below meth c H locs cells slots Q cc pc nL ret nm A ws ta ls av gv hv rest X hK hN hA hP hD hS hth hag hgv hhv hpr hrest hfr hlo hce hsl hls hdec kk
  have hM2 := hM H.size ta ws av gv hv hth hag hgv hhv hpr
  rw [hen] at hag
  cases av with
  | nil => exact hag.elim
  | cons v0 As =>
    obtain ⟨b, r, rfl, hb1, hb2⟩ := tv_ref hag.1 ht0
    obtain ⟨g, g1, g2⟩ := rg_all_ok hall hb2
    obtain ⟨q0, e0, hq, hgo⟩ := th_at hth hb1 g1
    have g3 : g.1 = ci + 10 := by simpa using g2
    obtain ⟨T, N, hci⟩ := hci
    have hrv : ∃ cellB : Cell, H[b]? = some cellB ∧ cellB.vm.isStatics = false ∧ s.vm.findClass y.cls = some cellB.cls := by
      rcases hgo with ⟨z, _⟩ | ⟨z, _⟩ | ⟨_, z, _⟩ | ⟨_, fs, rfl, _⟩
      · omega
      · omega
      · omega
      · exact va_recv hK hP (show classes[g.1 - 10]? = some (y.cls, T, N) by rw [show g.1 - 10 = ci by omega]; exact hci) hq
    have hst : (Value.ref b :: As).reverse ++ rest = As.reverse ++ .ref b :: rest := by rw [List.reverse_cons, List.append_assoc]; rfl
    exact m_go (k_rV16 X hM2 rfl hc hini hl hin hsel ts.length hd ⟨hfr, by show 16 + (maxL + 11) + 64 * en.2.2.2.1 ≤ R.locals; omega⟩ rfl rfl hrv (m_pre hN hA hS hK hP hD) (ag_len hag.2) hls hst hrest hdec ⟨hce, hsl⟩) hP hD hS hA kk
end
section
variable {PQ : pq_T}
/-! calls, answers, switches, constants of the pool -/
def ag_chk (y : sy_T) : List tv_T → List Nat → Bool
  | [], [] => true
  | t :: ts, n :: ns => nm_le y n t && ag_chk y ts ns
  | _, _ => false
theorem ag_chk_ok {ta : Nat → Option Nat} {ws : va_W} {vs : List Value} {ls : Array Slot} {nL : Nat} {st : List Value} {y : sy_T} (hy : sy_ok ta ws vs ls nL st y) : ∀ {ts : List tv_T} {ns : List Nat} {av : List Value}, ag_chk y ts ns = true → sy_st vs ns av → ag_ok ta ts av
  | [], [], [], _, _ => trivial
  | t :: ts, n :: ns, v :: av, h, hs => by
    unfold ag_chk at h
    simp only [Bool.and_eq_true] at h
    exact ⟨nm_le_ok hy hs.1 h.1, ag_chk_ok hy h.2 hs.2⟩
  | [], [], _ :: _, _, hs => hs.elim
  | _ :: _, _ :: _, [], _, hs => hs.elim
  | [], _ :: _, _, h, _ => by cases h
  | _ :: _, [], _, h, _ => by cases h
theorem sy_st_split {vs : List Value} : ∀ {a r : List Nat} {st : List Value}, sy_st vs (a ++ r) st → ∃ sa rest, st = sa ++ rest ∧ sy_st vs a sa ∧ sy_st vs r rest
  | [], r, st, h => ⟨[], st, rfl, trivial, h⟩
  | n :: a, r, [], h => h.elim
  | n :: a, r, v :: st, h => by
    obtain ⟨sa, rest, e, h1, h2⟩ := sy_st_split h.2
    exact ⟨v :: sa, rest, by rw [e]; rfl, ⟨h.1, h1⟩, h2⟩
theorem sy_st_join {vs : List Value} : ∀ {a r : List Nat} {sa rest : List Value}, sy_st vs a sa → sy_st vs r rest → sy_st vs (a ++ r) (sa ++ rest)
  | [], _, [], _, _, h => h
  | _ :: _, _, _ :: _, _, h1, h => ⟨h1.1, sy_st_join h1.2 h⟩
  | [], _, _ :: _, _, h, _ => h.elim
  | _ :: _, _, [], _, h, _ => h.elim
theorem sy_st_rev {vs : List Value} : ∀ {a : List Nat} {sa : List Value}, sy_st vs a sa → sy_st vs a.reverse sa.reverse
  | [], [], _ => trivial
  | n :: a, v :: sa, h => by
    rw [List.reverse_cons, List.reverse_cons]
    exact sy_st_join (sy_st_rev h.2) ⟨h.1, trivial⟩
  | [], _ :: _, h => h.elim
  | _ :: _, [], h => h.elim
def kd_w (env : List tv_T) (n : Nat) : Nat := if sy_kd env n = 1 then 2 else 1
theorem sy_w {ta : Nat → Option Nat} {env : List tv_T} {vs : List Value} (he : sy_env ta env vs) : ∀ {r : List Nat} {st : List Value}, sy_st vs r st → (st.map fun v => v.category).sum = (r.map (kd_w env)).sum
  | [], [], _ => rfl
  | n :: r, v :: st, h => by
    rw [List.map_cons, List.map_cons, List.sum_cons, List.sum_cons, sy_w he h.2]
    obtain ⟨t, h1, h2⟩ := sy_name he h.1
    have e : v.category = kd_w env n := by
      unfold kd_w sy_kd
      rw [h1]
      simp only
      split
      · rename_i q; exact (tv_cat h2).1 q
      · rename_i q; exact (tv_cat h2).2 q
    rw [e]
  | [], _ :: _, h => h.elim
  | _ :: _, [], h => h.elim
/-- a field's value that a call keeps -/
def kp_in (G : List rg_T) (mo : mo_T) (y : sy_T) (q : (Nat × Nat) × Nat) : Bool := match y.1[q.1.1]? with
  | some t => decide (t.1 = 2) && rg_all G (fun g => decide (10 ≤ g.1)) t.2.2.2 && t.2.2.2.all (fun r => !(mo.2.1.contains (r, q.1.2)))
  | none => false
/-- behind a call: the stack without what it took -/
def sy_back (G : List rg_T) (mo : mo_T) (y : sy_T) (pu : Bool) (r : List Nat) : sy_T := (y.1, y.2.1, r, if pu then y.2.2.2.1 else y.2.2.2.1.filter (kp_in G mo y), y.2.2.2.2)
theorem sy_env_mono {ta tb : Nat → Option Nat} {env : List tv_T} {vs : List Value} (h : ta_le ta tb) (he : sy_env ta env vs) : sy_env tb env vs := ⟨he.1, fun i t v h1 h2 => tv_mono h (he.2 i t v h1 h2)⟩
theorem sy_back_ok {kA : Nat → ClassId} {G : List rg_T} {A : Nat → Prop} {mo : mo_T} {ta tb : Nat → Option Nat} {ws w1 : va_W} {vs : List Value} {ls : Array Slot} {nL : Nat} {st rest : List Value} {y : sy_T} {r : List Nat} {pu : Bool} (hth : th_ok kA G ta ws) (hD : va_D A ws) (hy : sy_ok ta ws vs ls nL st y) (hr : sy_st vs r rest) (hle : ta_le ta tb) (hpu : pu = true → (tb, w1) = (ta, ws)) (hkp : kp mo ta ws w1) : sy_ok tb w1 vs ls nL rest (sy_back G mo y pu r) := by
  refine ⟨sy_env_mono hle hy.1, hy.2.1, hr, fun q hq => ?_, hy.2.2.2.2⟩
  cases pu with
  | true =>
    have e := hpu rfl
    have e2 : w1 = ws := (Prod.mk.inj e).2
    rw [e2]; exact hy.2.2.2.1 q hq
  | false =>
    have hq_zq : q ∈ y.2.2.2.1.filter (kp_in G mo y) := hq
    obtain ⟨q1, q2⟩ := List.mem_filter.mp hq_zq
    obtain ⟨a, ci, fs, v, m1, m2, m3, m4⟩ := hy.2.2.2.1 q q1
    unfold kp_in at q2
    split at q2
    · rename_i t ht
      rw [Bool.and_eq_true, Bool.and_eq_true] at q2
      have h2 : t.1 = 2 := by simpa using q2.1.1
      obtain ⟨b, rg, eb, h3, h4⟩ := tv_ref (hy.1.2 _ t _ ht m1) h2
      have eab : a = b := by injection eb
      subst eab
      obtain ⟨g, g1, g2⟩ := rg_all_ok q2.1.2 h4
      have g2 : 10 ≤ g.1 := by simpa using g2
      have g3 := List.all_eq_true.mp q2.2 rg h4
      obtain ⟨q0, e0, hq0, hgo⟩ := th_at hth h3 g1
      rcases hgo with ⟨z, _⟩ | ⟨z, _⟩ | ⟨_, z, _⟩ | ⟨_, f2, rfl, _⟩
      · omega
      · omega
      · omega
      · obtain ⟨j, hj⟩ := List.mem_iff_getElem?.mp m2
        have ej := hD.1 q0 j _ _ hq0 hj rfl
        rw [← ej, hq0] at hj
        have e9 := Option.some.inj hj
        have e8 : g.1 - 10 = ci := by injection e9 with _ e7; injection e7 with e6; injection e6
        obtain ⟨f3, k1, k2⟩ := hkp.1 a ci fs m2
        refine ⟨a, ci, f3, v, m1, k1, ?_, m4⟩
        rw [k2 rg q.1.2 h3 (fun hm => by
          have := List.contains_iff_mem.mpr hm
          rw [this] at g3
          cases g3)]
        exact m3
    · cases q2
/-- what an end tells of the arguments -/
def mg_cut : sy_T → List Nat → List tv_T → sy_T
  | z, a :: as, t :: ts => mg_cut (if t.1 = 0 then sy_cut z a t.2.1 t.2.2.1 else z) as ts
  | z, _, _ => z
theorem mg_cut_ok {ta : Nat → Option Nat} {ws : va_W} {vs : List Value} {ls : Array Slot} {nL : Nat} {st : List Value} : ∀ {as : List Nat} {ts : List tv_T} {av : List Value} {z : sy_T}, sy_ok ta ws vs ls nL st z → sy_st vs as av → (∀ (i : Nat) (t : tv_T) (v : Value), ts[i]? = some t → av[i]? = some v → tv_ok ta t v) → sy_ok ta ws vs ls nL st (mg_cut z as ts)
  | [], ts, _, z, h, _, _ => by cases ts <;> exact h
  | _ :: _, [], _, z, h, _, _ => h
  | _ :: _, _ :: _, [], _, _, hs, _ => hs.elim
  | a :: as, t :: ts, v :: av, z, h, hs, ht => by
    unfold mg_cut
    refine mg_cut_ok (av := av) ?_ hs.2 (fun i t_zq v_zq h1 h2 => ht (i + 1) t_zq v_zq h1 h2)
    split
    · rename_i h0
      obtain ⟨x, rfl, x1, x2⟩ := tv_int (ht 0 t v rfl rfl) h0
      exact sy_cut_ok h hs.1 x1 x2
    · exact h
/-- a distance cuts both names -/
def of_pr1 (env : List tv_T) (n m : Nat) (lo hi : Int) : List tv_T := match env[m]? with
  | some u => if u.1 = 0 then en_cut env n (u.2.1 + lo) (u.2.2.1 + hi) else env
  | none => env
def of_prop (env : List tv_T) (q : of_T) : List tv_T := of_pr1 (of_pr1 env q.1 q.2.1 q.2.2.1 q.2.2.2) q.2.1 q.1 (-q.2.2.2) (-q.2.2.1)
theorem of_pr1_ok {ta : Nat → Option Nat} {env : List tv_T} {vs : List Value} (h : sy_env ta env vs) {n m : Nat} {lo hi : Int} {x z : Int32} (hn : vs[n]? = some (.int x)) (hm : vs[m]? = some (.int z)) (h1 : z.toInt + lo ≤ x.toInt) (h2 : x.toInt ≤ z.toInt + hi) : sy_env ta (of_pr1 env n m lo hi) vs := by
  unfold of_pr1
  split
  · rename_i u hu
    split
    · rename_i hk
      obtain ⟨z_zq, e, z1, z2⟩ := tv_int (h.2 m u _ hu hm) hk
      obtain rfl := Value.int.inj e
      exact en_cut_ok h hn (by omega) (by omega)
    · exact h
  · exact h
theorem of_prop_ok {ta : Nat → Option Nat} {env : List tv_T} {vs : List Value} (h : sy_env ta env vs) {q : of_T} (hq : sy_ofs vs q) : sy_env ta (of_prop env q) vs := by
  obtain ⟨x, z, a, b, d1, d2⟩ := hq
  exact of_pr1_ok (of_pr1_ok h a b d1 d2) b a (by omega) (by omega)
theorem of_props_ok {ta : Nat → Option Nat} {vs : List Value} : ∀ (os : List of_T) (env : List tv_T), sy_env ta env vs → (∀ q ∈ os, sy_ofs vs q) → sy_env ta (os.foldl of_prop env) vs
  | [], _, h, _ => h
  | q :: os, env, h, ho => of_props_ok os _ (of_prop_ok h (ho q List.mem_cons_self)) (fun q hq => ho q (List.mem_cons_of_mem _ hq))
def nrm (t : tv_T) : tv_T := if t.1 = 5 then (0, t.2.1, t.2.2.1, []) else t
theorem nrm_ok {ta : Nat → Option Nat} {t : tv_T} {v : Value} (h : tv_ok ta t v) : tv_ok ta (nrm t) v := by
  unfold nrm
  split
  · rename_i h5
    obtain ⟨x, rfl, a, b, _⟩ := tv_div h h5
    exact Or.inl ⟨rfl, x, rfl, a, b⟩
  · exact h
/-! fields that a note names are read ahead of it -/
def fd_any (k : Nat) (g : rg_T) : Option tv_T := if 10 ≤ g.1 then g.2.2.2.2[k]? else none
def gh_one (G : List rg_T) (y : sy_T) (o k : Nat) : sy_T := match sy_mfind y o k with
  | some _ => y
  | none => (match y.1[o]? with
    | some t => if t.1 = 2 then (match rg_hull G (fd_any k) t.2.2.2 with
      | some w => (y.1 ++ [nrm w], y.2.1, y.2.2.1, ((o, k), y.1.length) :: y.2.2.2.1, y.2.2.2.2.1, if w.1 = 5 then (y.1.length, w.2.2.2.headD 1) :: y.2.2.2.2.2 else y.2.2.2.2.2)
      | none => y) else y
    | none => y)
theorem gh_one_ok {kA : Nat → ClassId} {G : List rg_T} {ta : Nat → Option Nat} {ws : va_W} {vs : List Value} {ls : Array Slot} {nL : Nat} {st : List Value} {y : sy_T} (hth : th_ok kA G ta ws) (hy : sy_ok ta ws vs ls nL st y) (o k : Nat) : ∃ vs_zq, vs <+: vs_zq ∧ sy_ok ta ws vs_zq ls nL st (gh_one G y o k) := by
  unfold gh_one
  split
  · exact ⟨vs, List.prefix_refl _, hy⟩
  · split
    · rename_i t ht
      split
      · rename_i h2
        split
        · rename_i w hw
          have hlt := (List.getElem?_eq_some_iff.mp ht).1
          rw [← hy.1.1] at hlt
          have ho := List.getElem?_eq_getElem hlt
          obtain ⟨a, r, ea, h3, h4⟩ := tv_ref (hy.1.2 o t _ ht ho) h2
          obtain ⟨g, t2, g1, g2, g3⟩ := rg_hull_ok (ta := ta) hw h4
          obtain ⟨q0, e0, hq, hgo⟩ := th_at hth h3 g1
          unfold fd_any at g2
          split at g2
          · rename_i h10
            rcases hgo with ⟨z, _⟩ | ⟨z, _⟩ | ⟨_, z, _⟩ | ⟨_, fs, rfl, hlen, hfs⟩
            · omega
            · omega
            · omega
            · have hk := (List.getElem?_eq_some_iff.mp g2).1
              rw [← hlen] at hk
              have hv := List.getElem?_eq_getElem hk
              have hw2 : tv_ok ta w fs[k] := g3 _ (hfs k t2 _ g2 hv)
              have hnew : (vs ++ [fs[k]])[y.1.length]? = some fs[k] := by rw [← hy.1.1, List.getElem?_append_right (Nat.le_refl _), Nat.sub_self]; rfl
              refine ⟨vs ++ [fs[k]], List.prefix_append _ _, sy_env_app hy.1 (nrm_ok hw2), ⟨hy.2.1.1, hy.2.1.2.1, fun q hq2 => ?_⟩, sy_st_app hy.2.2.1, fun q hq2 => ?_, fun q hq2 => ?_, fun q hq2 => ?_⟩
              · obtain ⟨v, a1, a2⟩ := hy.2.1.2.2 q hq2; exact ⟨v, sy_app a1, a2⟩
              · rcases List.mem_cons.mp hq2 with rfl | hq2
                · exact ⟨a, g.1 - 10, fs, fs[k], by show (vs ++ _)[o]? = _; rw [← ea]; exact sy_app ho, List.mem_of_getElem? hq, hv, hnew⟩
                · obtain ⟨b1, ci, f2, v, a1, a2, a3, a4⟩ := hy.2.2.2.1 q hq2; exact ⟨b1, ci, f2, v, sy_app a1, a2, a3, sy_app a4⟩
              · obtain ⟨x, z, a1, a2, a3⟩ := hy.2.2.2.2.1 q hq2; exact ⟨x, z, sy_app a1, sy_app a2, a3⟩
              · have old : ∀ q ∈ y.2.2.2.2.2, sy_dv (vs ++ [fs[k]]) q := fun q hq2 => by obtain ⟨x, z, a1, a2⟩ := hy.2.2.2.2.2 q hq2; exact ⟨x, z, sy_app a1, a2⟩
                have hq3 : q ∈ (if w.1 = 5 then (y.1.length, w.2.2.2.headD 1) :: y.2.2.2.2.2 else y.2.2.2.2.2) := hq2
                split at hq3
                · rename_i h5
                  rcases List.mem_cons.mp hq3 with rfl | hq3
                  · obtain ⟨x, ex, _, _, q, hq⟩ := tv_div hw2 h5
                    exact ⟨x, q, by rw [← ex]; exact hnew, hq⟩
                  · exact old q hq3
                · exact old q hq3
          · cases g2
        · exact ⟨vs, List.prefix_refl _, hy⟩
      · exact ⟨vs, List.prefix_refl _, hy⟩
    · exact ⟨vs, List.prefix_refl _, hy⟩
/-- fields of the arguments, read ahead of a call -/
def gl_all (G : List rg_T) (as : List Nat) : sy_T → ga_L → Option (sy_T × List Nat)
  | y, [] => some (y, [])
  | y, q :: r => match as[q.1.1]? with
    | some o => (match sy_mfind (gh_one G y o q.1.2) o q.1.2 with
      | some n => if nm_le (gh_one G y o q.1.2) n q.2 then (gl_all G as (gh_one G y o q.1.2) r).map (fun p => (p.1, n :: p.2)) else none
      | none => none)
    | none => none
theorem sy_st_pre {v0 vs : List Value} (hp : v0 <+: vs) : ∀ {r : List Nat} {st : List Value}, sy_st v0 r st → sy_st vs r st
  | [], [], _ => trivial
  | _ :: _, _ :: _, h => ⟨by
      obtain ⟨t, rfl⟩ := hp
      rw [List.getElem?_append_left (List.getElem?_eq_some_iff.mp h.1).1]; exact h.1, sy_st_pre hp h.2⟩
  | [], _ :: _, h => h.elim
  | _ :: _, [], h => h.elim
theorem sy_st_get {vs : List Value} : ∀ {as : List Nat} {av : List Value}, sy_st vs as av → ∀ (i n : Nat), as[i]? = some n → ∃ v, av[i]? = some v ∧ vs[n]? = some v
  | [], [], _, i, n, h => by cases h
  | a :: as, v :: av, hs, i, n, h => by
    cases i with
    | zero => exact ⟨v, rfl, by rw [← Option.some.inj h]; exact hs.1⟩
    | succ i => exact sy_st_get hs.2 i n h
  | [], _ :: _, h, _, _, _ => h.elim
  | _ :: _, [], h, _, _, _ => h.elim
theorem gl_all_ok {kA : Nat → ClassId} {G : List rg_T} {ta : Nat → Option Nat} {ws : va_W} {ls : Array Slot} {nL : Nat} {st : List Value} {as : List Nat} {av : List Value} (hth : th_ok kA G ta ws) : ∀ {L : ga_L} {vs : List Value} {y : sy_T} {p : sy_T × List Nat}, sy_ok ta ws vs ls nL st y → sy_st vs as av → gl_all G as y L = some p → ∃ vs_zq gv, vs <+: vs_zq ∧ sy_ok ta ws vs_zq ls nL st p.1 ∧ sy_st vs_zq p.2 gv ∧ gv_ok ta ws av L gv ∧ p.1.2.2.1 = y.2.2.1
  | [], vs, y, p, h, _, hp => by
    obtain rfl := Option.some.inj hp
    exact ⟨vs, [], List.prefix_refl _, h, trivial, trivial, rfl⟩
  | q :: r, vs, y, p, h, hs, hp => by
    unfold gl_all at hp
    split at hp
    · rename_i o ho
      split at hp
      · rename_i n hn
        split at hp
        · rename_i hle
          obtain ⟨p2, hp2, rfl⟩ := Option.map_eq_some_iff.mp hp
          obtain ⟨v1, pr1, h1⟩ := gh_one_ok hth h o q.1.2
          have hs1 := sy_st_pre pr1 hs
          obtain ⟨v2, gv, pr2, h2, s2, g2, e2⟩ := gl_all_ok hth h1 hs1 hp2
          obtain ⟨a, ci, fs, v, m1, m2, m3, m4⟩ := h1.2.2.2.1 _ (sy_mfind_ok hn)
          obtain ⟨w, w1, w2⟩ := sy_st_get hs1 _ _ ho
          have m1_zq : v1[o]? = some (.ref a) := m1
          rw [w2] at m1_zq
          have m4_zq : v1[n]? = some v := m4
          have tvn := nm_le_ok h1 m4_zq hle
          have e3 : (gh_one G y o q.1.2).2.2.1 = y.2.2.1 := by
            unfold gh_one
            split
            · rfl
            · split
              · split
                · split <;> rfl
                · rfl
              · rfl
          refine ⟨v2, v :: gv, pr1.trans pr2, h2, ⟨?_, s2⟩, ⟨⟨a, ci, fs, ?_, m2, m3⟩, tvn, g2⟩, e2.trans e3⟩
          · obtain ⟨t, rfl⟩ := pr2
            rw [List.getElem?_append_left (List.getElem?_eq_some_iff.mp m4_zq).1]; exact m4_zq
          · rw [w1, Option.some.inj m1_zq]
        · cases hp
      · cases hp
    · cases hp
/-- names of an end in the caller's picture: the first k are bs, the others new -/
def mg_tr (bs : List Nat) (b i : Nat) : Nat := if i < bs.length then bs.getD i 0 else b + (i - bs.length)
def mg (z : sy_T) (bs r : List Nat) (P : sy_T) : sy_T :=
  let z1 := mg_cut z bs P.1
  let b := z1.1.length
  let os := P.2.2.2.2.1.map (fun q => (mg_tr bs b q.1, mg_tr bs b q.2.1, q.2.2.1, q.2.2.2))
  (os.foldl of_prop (z1.1 ++ P.1.drop bs.length), z1.2.1, P.2.2.1.map (mg_tr bs b) ++ r, P.2.2.2.1.map (fun q => ((mg_tr bs b q.1.1, q.1.2), mg_tr bs b q.2)) ++ z1.2.2.2.1, os ++ z1.2.2.2.2.1, P.2.2.2.2.2.map (fun q => (mg_tr bs b q.1, q.2)) ++ z1.2.2.2.2.2)
theorem mg_val {vs ve : List Value} {bs : List Nat} {bv : List Value} (hs : sy_st vs bs bv) (hp : bv <+: ve) {i : Nat} {w : Value} (h : ve[i]? = some w) : (vs ++ ve.drop bs.length)[mg_tr bs vs.length i]? = some w := by
  have hl : bs.length = bv.length := by
    have gen : ∀ {r : List Nat} {st : List Value}, sy_st vs r st → r.length = st.length := by
      intro r
      induction r with
      | nil => intro st h; cases st with | nil => rfl | cons _ _ => exact h.elim
      | cons a r ih => intro st h; cases st with | nil => exact h.elim | cons _ st => rw [List.length_cons, List.length_cons, ih h.2]
    exact gen hs
  unfold mg_tr
  split
  · rename_i hi
    have hb : bs[i]? = some bs[i] := List.getElem?_eq_getElem hi
    obtain ⟨v, v1, v2⟩ := sy_st_get hs i _ hb
    have e1 : bs.getD i 0 = bs[i] := by rw [List.getD_eq_getElem?_getD, hb]; rfl
    rw [e1, List.getElem?_append_left (List.getElem?_eq_some_iff.mp v2).1, v2]
    obtain ⟨t, rfl⟩ := hp
    rw [List.getElem?_append_left (by omega), v1] at h
    exact h
  · rename_i hi
    rw [List.getElem?_append_right (by omega), List.getElem?_drop, show bs.length + (vs.length + (i - bs.length) - vs.length) = i by omega]
    exact h
theorem sy_st_map {vs vs_zq : List Value} (f : Nat → Nat) : ∀ {r : List Nat} {st : List Value}, (∀ i v, vs[i]? = some v → vs_zq[f i]? = some v) → sy_st vs r st → sy_st vs_zq (r.map f) st
  | [], [], _, _ => trivial
  | _ :: _, _ :: _, hf, h => ⟨hf _ _ h.1, sy_st_map f hf h.2⟩
  | [], _ :: _, _, h => h.elim
  | _ :: _, [], _, h => h.elim
theorem sy_env_drop {ta : Nat → Option Nat} {e1 e2 : List tv_T} {v1 v2 : List Value} (h1 : sy_env ta e1 v1) (h2 : v2.length = e2.length ∧ ∀ (i : Nat) (t : tv_T) (v : Value), e2[i]? = some t → v2[i]? = some v → tv_ok ta t v) : sy_env ta (e1 ++ e2) (v1 ++ v2) := by
  refine ⟨by rw [List.length_append, List.length_append, h1.1, h2.1], fun i t v a b => ?_⟩
  by_cases hi : i < e1.length
  · rw [List.getElem?_append_left hi] at a
    rw [List.getElem?_append_left (by rw [h1.1]; exact hi)] at b
    exact h1.2 i t v a b
  · rw [List.getElem?_append_right (by omega)] at a
    rw [List.getElem?_append_right (by rw [h1.1]; omega), h1.1] at b
    exact h2.2 _ t v a b
theorem mg_ok {ta : Nat → Option Nat} {ws : va_W} {vs ve : List Value} {ls : Array Slot} {nL : Nat} {rest bv sv : List Value} {z P : sy_T} {bs r : List Nat} (h : sy_ok ta ws vs ls nL rest z) (hr : sy_st vs r rest) (hs : sy_st vs bs bv) (hve : bv <+: ve) (he : sy_env ta P.1 ve) (ho : ∀ q ∈ P.2.2.2.2.1, sy_ofs ve q) (hd : ∀ q ∈ P.2.2.2.2.2, sy_dv ve q) (hm : ∀ q ∈ P.2.2.2.1, sy_mem ve ws q) (hst : sy_st ve P.2.2.1 sv) : sy_ok ta ws (vs ++ ve.drop bs.length) ls nL (sv ++ rest) (mg z bs r P) := by
  have h1 : sy_ok ta ws vs ls nL rest (mg_cut z bs P.1) := mg_cut_ok h hs (fun i t_zq v_zq a1 a2 => he.2 i t_zq v_zq a1 (by
    obtain ⟨t, rfl⟩ := hve
    rw [List.getElem?_append_left (List.getElem?_eq_some_iff.mp a2).1]; exact a2))
  have hb : (mg_cut z bs P.1).1.length = vs.length := h1.1.1.symm
  have ge : ∀ (i : Nat) (w : Value), ve[i]? = some w → (vs ++ ve.drop bs.length)[mg_tr bs (mg_cut z bs P.1).1.length i]? = some w := fun i w hw => by rw [hb]; exact mg_val hs hve hw
  have up : ∀ (i : Nat) (w : Value), vs[i]? = some w → (vs ++ ve.drop bs.length)[i]? = some w := fun i w hw => by rw [List.getElem?_append_left (List.getElem?_eq_some_iff.mp hw).1]; exact hw
  have hos : ∀ q ∈ P.2.2.2.2.1.map (fun q => (mg_tr bs (mg_cut z bs P.1).1.length q.1, mg_tr bs (mg_cut z bs P.1).1.length q.2.1, q.2.2.1, q.2.2.2)), sy_ofs (vs ++ ve.drop bs.length) q := fun q hq => by
    obtain ⟨q0, q1, rfl⟩ := List.mem_map.mp hq
    obtain ⟨a, b, c1, c2, c3, c4⟩ := ho q0 q1
    exact ⟨a, b, ge _ _ c1, ge _ _ c2, c3, c4⟩
  have henv : sy_env ta ((mg_cut z bs P.1).1 ++ P.1.drop bs.length) (vs ++ ve.drop bs.length) := sy_env_drop h1.1 ⟨by rw [List.length_drop, List.length_drop, he.1], fun i t v a b => by
    rw [List.getElem?_drop] at a b
    exact he.2 _ t v a b⟩
  refine ⟨of_props_ok _ _ henv hos, ⟨h1.2.1.1, h1.2.1.2.1, fun q hq => ?_⟩, ?_, fun q hq => ?_, fun q hq => ?_, fun q hq => ?_⟩
  · obtain ⟨v, a1, a2⟩ := h1.2.1.2.2 q hq; exact ⟨v, up _ _ a1, a2⟩
  · exact sy_st_join (sy_st_map _ ge hst) (by
      have := sy_st_map (vs_zq := vs ++ ve.drop bs.length) (fun i => i) up hr
      rw [List.map_id'] at this
      exact this)
  · rcases List.mem_append.mp hq with hq | hq
    · obtain ⟨q0, q1, rfl⟩ := List.mem_map.mp hq
      obtain ⟨a, ci, fs, v, m1, m2, m3, m4⟩ := hm q0 q1
      exact ⟨a, ci, fs, v, ge _ _ m1, m2, m3, ge _ _ m4⟩
    · obtain ⟨a, ci, fs, v, m1, m2, m3, m4⟩ := h1.2.2.2.1 q hq
      exact ⟨a, ci, fs, v, up _ _ m1, m2, m3, up _ _ m4⟩
  · rcases List.mem_append.mp hq with hq | hq
    · exact hos q hq
    · obtain ⟨a, b, c1, c2, c3, c4⟩ := h1.2.2.2.2.1 q hq; exact ⟨a, b, up _ _ c1, up _ _ c2, c3, c4⟩
  · rcases List.mem_append.mp hq with hq | hq
    · obtain ⟨q0, q1, rfl⟩ := List.mem_map.mp hq
      obtain ⟨a, b, c1, c2⟩ := hd q0 q1
      exact ⟨a, b, ge _ _ c1, c2⟩
    · obtain ⟨a, b, c1, c2⟩ := h1.2.2.2.2.2 q hq; exact ⟨a, b, up _ _ c1, c2⟩
/-- what a call does to the world, as a fact -/
def fc_call (N : Nat) (mo : mo_T) : fc_T := (102, if N = 0 then [] else [N - 1], ((mo.1 : Nat) : Int) :: mo.2.1.map (fun q => ((1000 * q.1 + q.2 : Nat) : Int)))
/-- the names of the arguments and of the answer -/
def cl_nm (bs : List Nat) (z : sy_T) (i : Nat) : Nat := if i < bs.length then bs.getD i 0 else z.2.2.1.headD 0
def fc_back (N : Nat) (en : en_T) (bs : List Nat) (fs : List fc_T) (z : sy_T) : List fc_T := if fs.isEmpty then [] else (en.2.2.2.2.2.2.2.2.2.2.2.1.filter (fun f => decide (f.1 < 100))).map (fc_map (cl_nm bs z)) ++ (if en.2.2.1 then fs else fc_call N en.2.2.2.2.2.2.2.2 :: fs)
/-- the pictures behind a call -/
def tr_call (G : List rg_T) (en : en_T) (y : sy_T) (fs : List fc_T) : Option (List (sy_T × List fc_T)) :=
  let n := en.1.length
  let r := y.2.2.1.drop n
  let as := (y.2.2.1.take n).reverse
  let gn := (List.range en.2.2.2.2.2.2.2.2.2.2.2.2.length).map (fun j => y.1.length - en.2.2.2.2.2.2.2.2.2.2.2.2.length + j)
  if ag_chk y en.1 as && ag_chk y en.2.2.2.2.2.2.2.2.2.2.2.2 gn && decide ((r.map (kd_w y.1)).sum ≤ 16) then (match gl_all G as y en.2.2.2.2.2.2.2.1 with
    | some p => if en.2.2.2.2.2.2.2.2.2.2.1.all (fun f => f.2.1.all (fun i => decide (i < (as ++ p.2 ++ gn).length)) && (fc_now fs).contains (fc_map (fun i => (as ++ p.2 ++ gn).getD i 0) f)) then (if en.2.2.2.2.2.2.1.isEmpty then (match en.2.1 with
        | none => some [(sy_back G en.2.2.2.2.2.2.2.2 p.1 en.2.2.1 r, fc_back y.1.length en (as ++ p.2 ++ gn) fs (sy_back G en.2.2.2.2.2.2.2.2 p.1 en.2.2.1 r))]
        | some t => some [(sy_pushT (sy_back G en.2.2.2.2.2.2.2.2 p.1 en.2.2.1 r) t r, fc_back y.1.length en (as ++ p.2 ++ gn) fs (sy_pushT (sy_back G en.2.2.2.2.2.2.2.2 p.1 en.2.2.1 r) t r))])
      else some (((en.2.2.2.2.2.2.1.map (mg (sy_back G en.2.2.2.2.2.2.2.2 p.1 en.2.2.1 r) (as ++ p.2 ++ gn) r)).filter (fun z => !(as.any (sy_bot z)))).map (fun z => (z, fc_back y.1.length en (as ++ p.2 ++ gn) fs z)))) else none
    | none => none) else none
/-- constants of the pool -/
def kt_rule (own : String) (op : ClassFile.Instr) (len : Nat) (v : Value) : Prop := ∀ (p : Program) (l : Launch) (e : Env) (R : Room) (s : State) (m : MethodId) (args : Array Value) (below : List Frame) (meth : Method) (c : Code) (H : Heap) (locs : List Loc) (cells slots : Nat) (Q : State → Prop) (cc : ByteArray) (pc nL : Nat) (ret : Option FieldType) (nm : String) (ls : Array Slot) (rest : List Value),
  cx p s m args meth c cc nL ret own nm → decode cc pc = .ok (op, len) → W p l e R s m args below meth c H locs cells slots Q (F0 m (pc + len) ls (v :: rest)) → W p l e R s m args below meth c H locs cells slots Q (F0 m pc ls rest)
/-- the ways on from a switch -/
def sw_list (pc : Nat) (y : sy_T) (a : Nat) : Int → List Int → Option (List (Nat × sy_T))
  | _, [] => some []
  | k, off :: r => if 0 ≤ (pc : Int) + off then (sw_list pc y a (k + 1) r).map (fun l => (((pc : Int) + off).toNat, sy_cut y a k k) :: l) else none
/-- the way past all cases: a name that is not below the first is above the last -/
def sw_def (y : sy_T) (a : Nat) (lo hi : Int) : sy_T := match y.1[a]? with
  | some t => if t.1 = 0 ∧ lo ≤ t.2.1 then sy_cut y a (hi + 1) 2147483647 else y
  | none => y
theorem sw_def_ok {ta : Nat → Option Nat} {ws : va_W} {vs : List Value} {ls : Array Slot} {nL : Nat} {st : List Value} {y : sy_T} (h : sy_ok ta ws vs ls nL st y) {a : Nat} {x : Int32} (hv : vs[a]? = some (.int x)) {lo hi : Int} (hin : x.toInt < lo ∨ hi < x.toInt) : sy_ok ta ws vs ls nL st (sw_def y a lo hi) := by
  unfold sw_def
  split
  · rename_i t ht
    split
    · rename_i hc
      obtain ⟨x_zq, e, h2, h3⟩ := tv_int (h.1.2 _ _ _ ht hv) hc.1
      cases e
      exact sy_cut_ok h hv (by have := hc.2; omega) (by have := Int32.toInt_lt x; omega)
    · exact h
  · exact h
def tr_sw (pc : Nat) (i : ClassFile.Instr) (y : sy_T) : Option (List (Nat × sy_T)) := match i with
  | .tableswitch d lo hi offs => match y.2.2.1 with
    | a :: r => if sy_kd y.1 a = 0 ∧ 0 ≤ (pc : Int) + d ∧ hi = lo + (offs.size : Int) - 1 then (sw_list pc (sy_at y r) a lo offs.toList).map (fun l => (((pc : Int) + d).toNat, sw_def (sy_at y r) a lo hi) :: l) else none
    | [] => none
  | _ => none
theorem sw_list_ok {pc : Nat} {y : sy_T} {a : Nat} : ∀ {offs : List Int} {k : Int} {L : List (Nat × sy_T)}, sw_list pc y a k offs = some L → ∀ (j : Nat) (off : Int), offs[j]? = some off → 0 ≤ (pc : Int) + off ∧ (((pc : Int) + off).toNat, sy_cut y a (k + j) (k + j)) ∈ L
  | [], _, _, _, j, _, hj => by cases hj
  | o :: offs, k, L, h, j, off, hj => by
    unfold sw_list at h
    split at h
    · rename_i h0
      obtain ⟨L_zq, h1, rfl⟩ := Option.map_eq_some_iff.mp h
      cases j with
      | zero =>
        have e : o = off := Option.some.inj hj
        subst e
        refine ⟨h0, ?_⟩
        have e2 : k + ((0 : Nat) : Int) = k := by omega
        rw [e2]; exact List.mem_cons_self
      | succ j =>
        have := sw_list_ok h1 j off hj
        refine ⟨this.1, List.mem_cons_of_mem _ ?_⟩
        have e2 : k + 1 + (j : Int) = k + ((j + 1 : Nat) : Int) := by omega
        rw [e2] at this; exact this.2
    · cases h
section M12
variable {p : Program} {l : Launch} {e : Env} {R : Room} {s : State} {m : MethodId} {args : Array Value} {below : List Frame} {meth : Method} {c : Code} {H : Heap} {locs : List Loc} {cells slots : Nat} {Q : State → Prop} {cc : ByteArray} {pc : Nat} {i : ClassFile.Instr} {len nL : Nat} {v0 : List Value} {ta : Nat → Option Nat} {ws : va_W} {y y_zq : sy_T} {D : va_G} {kA : Nat → ClassId} {G : List rg_T} {A : Nat → Prop} {ret : Option FieldType} {own nm : String}
theorem tr_sw_ok (hx : p.tables.exec = Jvm.exec) (hb : c.code = cc) (hd : decode cc pc = .ok (i, len)) {L : List (Nat × sy_T)} (h : tr_sw pc i y = some L) (k : ∀ q ∈ L, sy_go p l e R s m args below meth c H locs cells slots Q nL v0 ta ws q.1 q.2) : sy_go p l e R s m args below meth c H locs cells slots Q nL v0 ta ws pc y := by
  intro vs ls st hp0 hy
  unfold tr_sw at h
  have hs := hy.2.2.1
  split at h
  · rename_i d lo hi offs
    split at h
    · rename_i a r hst
      rw [hst] at hs
      split at h
      · rename_i hk
        obtain ⟨L_zq, h1, rfl⟩ := Option.map_eq_some_iff.mp h
        cases st with
        | nil => exact hs.elim
        | cons v rest =>
          obtain ⟨t, _, k1, k2⟩ := sy_kd_ok hy.1 hs.1 hk.1
          obtain ⟨x, rfl, _, _⟩ := tv_int k2 k1
          have hy0 : sy_ok ta ws vs ls nL rest (sy_at y r) := sy_stack hy hs.2
          by_cases hin : x.toInt < lo ∨ hi < x.toInt
          · exact lv_tableOut hx hb hd hin (by have := hk.2.1; omega) (k _ List.mem_cons_self _ _ _ hp0 (sw_def_ok hy0 hs.1 hin))
          · have j1 : ¬ x.toInt < lo := fun q => hin (Or.inl q)
            have j2 : ¬ hi < x.toInt := fun q => hin (Or.inr q)
            have j3 : (x.toInt - lo).toNat < offs.toList.length := by
              have := hk.2.2
              rw [Array.length_toList]
              omega
            have ho := List.getElem?_eq_getElem j3
            obtain ⟨m1, m2⟩ := sw_list_ok h1 _ _ ho
            have e2 : lo + ((x.toInt - lo).toNat : Int) = x.toInt := by omega
            rw [e2] at m2
            refine lv_tableIn hx hb hd j1 j2 (by rw [← Array.getElem?_toList]; exact ho) (show (pc : Int) + _ = _ by omega) (k _ (List.mem_cons_of_mem _ m2) _ _ _ hp0 (sy_cut_ok hy0 hs.1 (Int.le_refl _) (Int.le_refl _)))
      · cases h
    · cases h
  · cases h
/-- whatever has this picture and these facts goes on well -/
def sF_go (PQ : pq_T) (p : Program) (l : Launch) (e : Env) (R : Room) (s : State) (m : MethodId) (args : Array Value) (below : List Frame) (meth : Method) (c : Code) (H : Heap) (locs : List Loc) (cells slots : Nat) (Q : State → Prop) (nL : Nat) (v0 : List Value) (ta : Nat → Option Nat) (ws : va_W) (pc : Nat) (y : sy_T) (fs : List fc_T) : Prop :=
  ∀ (vs : List Value) (ls : Array Slot) (st : List Value), v0 <+: vs → sy_ok ta ws vs ls nL st y → fc_ok PQ fs ta ws vs → W p l e R s m args below meth c H locs cells slots Q (F0 m pc ls st)
theorem pre_le {vs vs_zq : List Value} (h : vs <+: vs_zq) : vs.length ≤ vs_zq.length := by
  obtain ⟨t, rfl⟩ := h
  rw [List.length_append]; omega
theorem w_mem {ws : va_W} {a : Nat} {e : va_E} (h : w_at ws a = some e) : (a, e) ∈ ws := by
  unfold w_at at h
  obtain ⟨q, h1, h2⟩ := Option.map_eq_some_iff.mp h
  have h3 := List.mem_of_find?_eq_some h1
  have h4 : q.1 = a := by simpa using List.find?_some h1
  rw [← h4, ← h2]; exact h3
/-- a name's reference is one that the picture knows -/
theorem sy_old {env : List tv_T} {ta : Nat → Option Nat} {vs vs_zq : List Value} (h : sy_env ta env vs) (hp : vs <+: vs_zq) : ∀ n, n < env.length → ∀ a, n_v vs_zq n = .ref a → (ta a).isSome = true := by
  intro n hn a ha
  have hl : n < vs.length := by rw [h.1]; exact hn
  rw [n_v_pre hp hl] at ha
  have hv : vs[n]? = some (.ref a) := by
    unfold n_v at ha
    rw [List.getElem?_eq_getElem hl] at ha ⊢
    rw [← ha]; rfl
  have ht := h.2 n _ _ (List.getElem?_eq_getElem hn) hv
  rcases ht with ⟨_, x, e, _⟩ | ⟨_, x, e, _⟩ | ⟨_, a_zq, r, e, h1, _⟩ | ⟨_, e | ⟨a_zq, r, e, h1, _⟩⟩ | ⟨_, x, e, _⟩ | ⟨_, x, e, _⟩
  · cases e
  · cases e
  · cases e; rw [h1]; rfl
  · cases e
  · cases e; rw [h1]; rfl
  · cases e
  · cases e
theorem w_at_no {ws : va_W} {a : Nat} (h : ∀ e, (a, e) ∉ ws) : w_at ws a = none := by
  cases hw : w_at ws a with
  | none => rfl
  | some e => exact absurd (w_mem hw) (h e)
theorem fc_call_ok {N : Nat} {mo : mo_T} {w1 : va_W} {vs : List Value} {A1 A2 : Nat → Prop} {tb : Nat → Option Nat} (hN : N ≤ vs.length) (hold : ∀ n, n < N → ∀ a, n_v vs n = .ref a → (ta a).isSome = true) (hth : th_ok kA G ta ws) (hle : ta_le ta tb) (hth1 : th_ok kA G tb w1) (hD : va_D A1 ws) (hD1 : va_D A2 w1) (h : kp mo ta ws w1) : fc_s (fc_call N mo) ta ws w1 vs := by
  have fdE : ∀ b r k, ta b = some r → ((1000 * r + k : Nat) : Int) ∉ mo.2.1.map (fun q => ((1000 * q.1 + q.2 : Nat) : Int)) → w_fd w1 b k = w_fd ws b k := fun b r k hb hk => by
    have hk2 : (r, k) ∉ mo.2.1 := fun hq => hk (List.mem_map.mpr ⟨(r, k), hq, rfl⟩)
    rcases hth.1 b r hb with ⟨g, e0, hg0, h2, hr0⟩ | ⟨z1, _, _, z4⟩
    rotate_left
    · rcases hth1.1 b r (hle b r hb) with ⟨g, e0, q1, _⟩ | ⟨_, _, _, z5⟩
      · rw [z1] at q1; cases q1
      · unfold w_fd
        rw [w_at_no z4, w_at_no z5]
    cases e0 with
    | inl x =>
      obtain ⟨e1, q2, hr1⟩ := th_in hth1 (hle b r hb) hg0
      have k1 : g.1 < 10 := by
        rcases hr0 with ⟨z, _⟩ | ⟨z, _⟩ | ⟨_, z, _⟩ | ⟨_, fs_zq, e, _⟩
        · omega
        · omega
        · exact z
        · cases e
      unfold w_fd
      rw [w_at_mem hD h2, w_at_mem hD1 q2]
      rcases hr1 with ⟨_, n, f, rfl, _⟩ | ⟨_, n, f, rfl, _⟩ | ⟨_, _, n, f, rfl, _⟩ | ⟨z, _⟩
      · rfl
      · rfl
      · rfl
      · omega
    | inr x =>
      obtain ⟨ci, fs⟩ := x
      obtain ⟨fs_zq, m1, m2⟩ := h.1 b ci fs h2
      unfold w_fd
      rw [w_at_mem hD h2, w_at_mem hD1 m1]
      simp only
      rw [List.getD_eq_getElem?_getD, List.getD_eq_getElem?_getD, m2 r k hb hk2]
  have nsE : ∀ n0 ∈ (if N = 0 then [] else [N - 1] : List Nat), n0 < N := fun n0 h0 => by
    split at h0
    · cases h0
    · rw [List.mem_singleton.mp h0]; omega
  refine ⟨fun n hn => Nat.lt_of_lt_of_le (nsE n hn) hN, ?_⟩
  show (∀ b r, ta b = some r → (((mo.1 : Nat) : Int)).toNat.testBit r = false → ∀ j, w_el w1 b j = w_el ws b j) ∧ _
  refine ⟨fun b r hb hm j => ?_, fdE, fun n0 h0 n hn a ha => hold n (Nat.lt_of_le_of_lt hn (nsE n0 h0)) a ha, fdE, fun b k cc_zq hb hw => ?_, fun b r j cc_zq hb hm hw => ?_⟩
  rotate_left 2
  · rw [Int.toNat_natCast] at hm
    obtain ⟨cl, n, f, hw, hj, hc⟩ := hw
    rcases hth.1 b r hb with ⟨g, e0, _, h2, h3⟩ | ⟨z1, _, _, z4⟩
    · cases e0 with
      | inl x =>
        have h5 := w_at_mem hD1 (h.2 b r x hb hm h2)
        rw [h5] at hw
        have ex : x = (cl, n, .inr (.inr (.inr (.inr f)))) := by injection hw with e; injection e
        subst ex
        rcases h3 with ⟨_, n_zq, f_zq, e, _⟩ | ⟨_, n_zq, f_zq, e, _⟩ | ⟨_, _, n_zq, f_zq, e, _, _, hf⟩ | ⟨_, fs, e, _⟩
        · injection e with e; injection e with _ e; injection e with _ e; injection e
        · injection e with e; injection e with _ e; injection e with _ e; injection e with e; injection e
        · have e1 : n = n_zq := by injection e with e; injection e with _ e; injection e
          have e2 : f = f_zq := by injection e with e; injection e with _ e; injection e with _ e; injection e with e; injection e with e; injection e with e; injection e
          subst e1; subst e2
          have ht := hf j hj
          rw [hc] at ht
          rcases ht with ⟨_, x, e, _⟩ | ⟨_, x, e, _⟩ | ⟨_, a_zq, r_zq, e, q1, _⟩ | ⟨_, e | ⟨a_zq, r_zq, e, q1, _⟩⟩ | ⟨_, x, e, _⟩ | ⟨_, x, e, _⟩
          · cases e
          · cases e
          · cases e; rw [q1]; rfl
          · cases e
          · cases e; rw [q1]; rfl
          · cases e
          · cases e
        · cases e
      | inr x =>
        obtain ⟨ci, fs⟩ := x
        obtain ⟨fs_zq, m1, _⟩ := h.1 b ci fs h2
        rw [w_at_mem hD1 m1] at hw
        cases hw
    · rcases hth1.1 b r (hle b r hb) with ⟨g, e0, q1, _⟩ | ⟨_, _, _, z5⟩
      · rw [z1] at q1; cases q1
      · rw [w_at_no z5] at hw; cases hw
  · rw [Int.toNat_natCast] at hm
    rcases hth.1 b r hb with ⟨g, e0, _, h2, _⟩ | ⟨z1, _, _, z4⟩
    · cases e0 with
      | inl x =>
        have h3 := h.2 b r x hb hm h2
        unfold w_el
        rw [w_at_mem hD h2, w_at_mem hD1 h3]
      | inr x =>
        obtain ⟨ci, fs⟩ := x
        obtain ⟨fs_zq, m1, _⟩ := h.1 b ci fs h2
        unfold w_el
        rw [w_at_mem hD h2, w_at_mem hD1 m1]
    · rcases hth1.1 b r (hle b r hb) with ⟨g, e0, q1, _⟩ | ⟨_, _, _, z5⟩
      · rw [z1] at q1; cases q1
      · unfold w_el
        rw [w_at_no z4, w_at_no z5]
  · obtain ⟨r, hr⟩ := Option.isSome_iff_exists.mp hb
    rcases hth.1 b r hr with ⟨g, e0, _, h2, h3⟩ | ⟨_, _, _, z4⟩
    rotate_left
    · unfold w_fd at hw; rw [w_at_no z4] at hw; cases hw
    unfold w_fd at hw
    rw [w_at_mem hD h2] at hw
    rcases h3 with ⟨_, n, f, rfl, _⟩ | ⟨_, n, f, rfl, _⟩ | ⟨_, _, n, f, rfl, _⟩ | ⟨_, fs, rfl, l1, hf⟩
    · cases hw
    · cases hw
    · cases hw
    · simp only at hw
      rw [List.getD_eq_getElem?_getD] at hw
      cases hv : fs[k]? with
      | none => rw [hv] at hw; cases hw
      | some v =>
        rw [hv] at hw
        have hw_zq : v = .ref cc_zq := hw
        subst hw_zq
        have hlt := (List.getElem?_eq_some_iff.mp hv).1
        rw [l1] at hlt
        have ht := hf k _ _ (List.getElem?_eq_getElem hlt) hv
        rcases ht with ⟨_, x, e, _⟩ | ⟨_, x, e, _⟩ | ⟨_, a_zq, r_zq, e, q1, _⟩ | ⟨_, e | ⟨a_zq, r_zq, e, q1, _⟩⟩ | ⟨_, x, e, _⟩ | ⟨_, x, e, _⟩
        · cases e
        · cases e
        · cases e; rw [q1]; rfl
        · cases e
        · cases e; rw [q1]; rfl
        · cases e
        · cases e
theorem n_v_st {vs : List Value} : ∀ {bs : List Nat} {bv : List Value}, sy_st vs bs bv → bs.length = bv.length ∧ ∀ i, i < bv.length → ∃ n, bs[i]? = some n ∧ vs[n]? = bv[i]?
  | [], [], _ => ⟨rfl, fun i hi => by cases hi⟩
  | b :: bs, v :: bv, h => by
    obtain ⟨e, ih⟩ := n_v_st h.2
    refine ⟨by rw [List.length_cons, List.length_cons, e], fun i hi => ?_⟩
    cases i with
    | zero => exact ⟨b, rfl, h.1⟩
    | succ i => exact ih i (by rw [List.length_cons] at hi; omega)
  | [], _ :: _, h => h.elim
  | _ :: _, [], h => h.elim
theorem fc_back_ok {N : Nat} {en : en_T} {bs : List Nat} {fs : List fc_T} {z : sy_T} {tb : Nat → Option Nat} {w1 : va_W} {vs bv : List Value} {r : Option Value} {st2 : List Value} {A1 A2 : Nat → Prop} (hN : N ≤ vs.length) (hold : ∀ n, n < N → ∀ a, n_v vs n = .ref a → (ta a).isSome = true) (hf : fc_ok PQ fs ta ws vs) (hth : th_ok kA G ta ws) (hth1 : th_ok kA G tb w1) (hD : va_D A1 ws) (hD1 : va_D A2 w1) (hle : ta_le ta tb) (hpu : en.2.2.1 = true → (tb, w1) = (ta, ws)) (hkp : kp en.2.2.2.2.2.2.2.2 ta ws w1) (hs : sy_st vs bs bv) (hz : sy_st vs z.2.2.1 (push_r r st2)) (hpo : ∀ f ∈ en.2.2.2.2.2.2.2.2.2.2.2.1, fc_1 PQ f w1 (bv ++ r.toList)) : fc_ok PQ (fc_back N en bs fs z) tb w1 vs := by
  unfold fc_back
  by_cases hem : fs.isEmpty = true
  · rw [if_pos hem]; trivial
  · rw [if_neg hem]
    have base : fc_ok PQ (if en.2.2.1 then fs else fc_call N en.2.2.2.2.2.2.2.2 :: fs) tb w1 vs := by
      split
      · rename_i h
        have := hpu h
        have e1 : tb = ta := by injection this
        have e2 : w1 = ws := by injection this
        rw [e1, e2]; exact hf
      · exact fc_step (by simp [fc_call]) hle (fc_call_ok hN hold hth hle hth1 hD hD1 hkp) hf
    have gen : ∀ (L : List fc_T), (∀ f ∈ L, f.1 < 100 ∧ fc_1 PQ f w1 (bv ++ r.toList)) → fc_ok PQ (L.map (fc_map (cl_nm bs z)) ++ (if en.2.2.1 then fs else fc_call N en.2.2.2.2.2.2.2.2 :: fs)) tb w1 vs := by
      intro L
      induction L with
      | nil => intro _; exact base
      | cons f L ih =>
        intro hL
        obtain ⟨h1, h2⟩ := hL f List.mem_cons_self
        refine fc_cons (f := fc_map (cl_nm bs z) f) h1 (fc_1_map (fun n _ hn => ?_) h2) (ih (fun g hg => hL g (List.mem_cons_of_mem _ hg)))
        obtain ⟨e1, e2⟩ := n_v_st hs
        unfold cl_nm
        by_cases hb : n < bs.length
        · rw [if_pos hb]
          obtain ⟨q, q1, q2⟩ := e2 n (by omega)
          have e3 : bs.getD n 0 = q := by rw [List.getD_eq_getElem?_getD, q1]; rfl
          have hbv := List.getElem?_eq_getElem (l := bv) (i := n) (by omega)
          rw [hbv] at q2
          rw [e3]
          refine ⟨(List.getElem?_eq_some_iff.mp q2).1, ?_⟩
          unfold n_v
          rw [q2, List.getElem?_append_left (by omega), hbv]
        · rw [if_neg hb]
          cases r with
          | none =>
            have hn_zq : n < (bv ++ []).length := hn
            rw [List.append_nil] at hn_zq
            omega
          | some v =>
            have hn_zq : n < (bv ++ [v]).length := hn
            rw [List.length_append] at hn_zq
            have hn2 : n < bv.length + 1 := hn_zq
            have en_zq : n = bv.length := by omega
            cases hzz : z.2.2.1 with
            | nil => rw [hzz] at hz; exact hz.elim
            | cons q rr =>
              rw [hzz] at hz
              have hq : vs[q]? = some v := hz.1
              refine ⟨(List.getElem?_eq_some_iff.mp hq).1, ?_⟩
              show n_v vs q = n_v (bv ++ [v]) n
              unfold n_v
              rw [hq, en_zq, List.getElem?_append_right (Nat.le_refl _), Nat.sub_self]; rfl
    exact gen _ (fun f hf2 => by
      obtain ⟨a, b⟩ := List.mem_filter.mp hf2
      exact ⟨by simpa using b, hpo f a⟩)
theorem fc_pr_ok {en : en_T} {bs : List Nat} {fs : List fc_T} {vs bv : List Value} (hf : fc_ok PQ fs ta ws vs) (hs : sy_st vs bs bv) (h : en.2.2.2.2.2.2.2.2.2.2.1.all (fun f => f.2.1.all (fun i => decide (i < bs.length)) && (fc_now fs).contains (fc_map (fun i => bs.getD i 0) f)) = true) : pr_ok PQ en ws bv := by
  intro f hf2
  have h1 := List.all_eq_true.mp h f hf2
  rw [Bool.and_eq_true] at h1
  obtain ⟨_, h3⟩ := fc_now_ok hf _ (List.contains_iff_mem.mp h1.2)
  obtain ⟨e1, e2⟩ := n_v_st hs
  refine fc_1_unmap (fun n hn0 hn => ?_) h3
  have hb : n < bs.length := by simpa using List.all_eq_true.mp h1.1 n hn0
  obtain ⟨q, q1, q2⟩ := e2 n (by omega)
  have e3 : bs.getD n 0 = q := by rw [List.getD_eq_getElem?_getD, q1]; rfl
  have hbv := List.getElem?_eq_getElem (l := bv) (i := n) (by omega)
  rw [hbv] at q2
  refine ⟨by omega, ?_⟩
  show n_v vs (bs.getD n 0) = _
  rw [e3]
  unfold n_v
  rw [q2, hbv]
theorem ag_chk_ex {ta : Nat → Option Nat} {ws : va_W} {vs : List Value} {ls : Array Slot} {nL : Nat} {st : List Value} {y : sy_T} (hy : sy_ok ta ws vs ls nL st y) : ∀ {ts : List tv_T} {ns : List Nat}, ag_chk y ts ns = true → ∃ av, sy_st vs ns av
  | [], [], _ => ⟨[], trivial⟩
  | t :: ts, n :: ns, h => by
    unfold ag_chk at h
    rw [Bool.and_eq_true] at h
    obtain ⟨av, h1⟩ := ag_chk_ex hy h.2
    have h2 := h.1
    unfold nm_le at h2
    split at h2
    · rename_i u hu
      have hlt := (List.getElem?_eq_some_iff.mp hu).1
      rw [← hy.1.1] at hlt
      exact ⟨vs[n] :: av, List.getElem?_eq_getElem hlt, h1⟩
    · cases h2
  | [], _ :: _, h => by cases h
  | _ :: _, [], h => by cases h
theorem sy_st_ln {vs : List Value} : ∀ {is : List Nat} {st : List Value}, sy_st vs is st → st.length = is.length
  | [], [], _ => rfl
  | _ :: _, _ :: _, h => by rw [List.length_cons, List.length_cons, sy_st_ln h.2]
  | [], _ :: _, h => h.elim
  | _ :: _, [], h => h.elim
theorem tr_call_ok {en : en_T} {Dc : ByteArray → Nat → List Value → Prop} {len : Nat} {L : List (sy_T × List fc_T)} {fs : List fc_T} (hcl : cq_ok PQ l D kA G own Dc len en) (X : cx p s m args meth c cc nL ret own nm) (hK : va_K D classes (TY kA) s) (hN : nsr kA A s) (hA : ∀ q, s.heap.size ≤ q → A q) (hP : va_P D classes ws H) (hD : va_D A ws) (hS : va_S A s.heap H locs) (hth : th_ok kA G ta ws) (hfr : en.2.2.2.1 + 1 ≤ R.frames) (hlo : 64 * (en.2.2.2.1 + 1) ≤ R.locals) (hce : cells + en.2.2.2.2.1 ≤ R.cells) (hsl : slots + en.2.2.2.2.2.1 ≤ R.slots) (hd : ∀ rest : List Value, rest.length ≤ y.2.2.1.length → Dc cc pc rest) (h : tr_call G en y fs = some L)
    (kk : ∀ z ∈ L, ∀ (tb : Nat → Option Nat) (w1 : va_W) (H1 : Heap) (locs1 : List Loc), ta_le ta tb → th_ok kA G tb w1 → va_P D classes w1 H1 → va_D A w1 → va_S A s.heap H1 locs1 → (en.2.2.1 = true → (tb, w1) = (ta, ws)) → kp en.2.2.2.2.2.2.2.2 ta ws w1 → sF_go PQ p l e R s m args below meth c H1 locs1 (cells + en.2.2.2.2.1) (slots + en.2.2.2.2.2.1) Q nL v0 tb w1 (pc + len) z.1 z.2) : sF_go PQ p l e R s m args below meth c H locs cells slots Q nL v0 ta ws pc y fs := by
  intro vs ls st hp0 hy hf
  unfold tr_call at h
  simp only at h
  split at h
  · rename_i hk
    simp only [Bool.and_eq_true, decide_eq_true_eq] at hk
    split at h
    rotate_left
    · cases h
    · rename_i pq hpq
      split at h
      case isFalse => cases h
      rename_i hpre
      have hs := hy.2.2.1
      rw [← List.take_append_drop en.1.length y.2.2.1] at hs
      obtain ⟨sa, rest, rfl, s1, s2⟩ := sy_st_split hs
      have s3 := sy_st_rev s1
      have hag := ag_chk_ok hy hk.1.1 s3
      obtain ⟨hv, sh⟩ := ag_chk_ex hy hk.1.2
      have hhv := ag_chk_ok hy hk.1.2 sh
      obtain ⟨v1, gv, pr, hy1, sg, hgv, est⟩ := gl_all_ok hth hy s3 hpq
      have hp1 := hp0.trans pr
      have s21 := sy_st_pre pr s2
      have s31 := sy_st_pre pr s3
      have sh1 := sy_st_pre pr sh
      have hst : sa ++ rest = sa.reverse.reverse ++ rest := by rw [List.reverse_reverse]
      rw [hst]
      refine hcl p e R s m args below meth c H locs cells slots Q cc pc nL ret nm A ws ta ls sa.reverse gv hv rest X hK hN hA hP hD hS hth hag hgv hhv (fc_pr_ok (fc_pre pr hf) (sy_st_join (sy_st_join s31 sg) sh1) hpre) (by rw [sy_w hy.1 s2]; exact hk.2) hfr hlo hce hsl hy.2.1.1 (hd rest (by rw [sy_st_ln s2, List.length_drop]; omega)) (fun tb w1 H1 locs1 r b1 b2 b3 b4 b5 b6 b8 b7 b9 => ?_)
      have hz := sy_back_ok hth hD hy1 s21 b1 b7 b9
      have hps : push_r r rest = r.toList ++ rest := by cases r <;> rfl
      split at h
      · cases hrt : en.2.1 with
        | none =>
          rw [hrt] at h b6
          obtain rfl := Option.some.inj h
          cases r with
          | some v => exact b6.elim
          | none => exact kk _ List.mem_cons_self tb w1 H1 locs1 b1 b2 b3 b4 b5 b7 b9 v1 ls _ hp1 hz (fc_back_ok (r := none) (by rw [← hy.1.1]; exact pre_le pr) (sy_old hy.1 pr) (fc_pre pr hf) hth b2 hD b4 b1 b7 b9 (sy_st_join (sy_st_join s31 sg) sh1) hz.2.2.1 b8.1)
        | some t =>
          rw [hrt] at h b6
          cases r with
          | none => exact b6.elim
          | some v =>
            obtain rfl := Option.some.inj h
            exact kk _ List.mem_cons_self tb w1 H1 locs1 b1 b2 b3 b4 b5 b7 b9 (v1 ++ [v]) ls _ (pre_app hp1) (sy_pushedT hz s21 b6) (fc_back_ok (r := some v) (by rw [← hy.1.1]; exact pre_le (pr.trans (List.prefix_append _ _))) (sy_old hy.1 (pr.trans (List.prefix_append _ _))) (fc_pre (List.prefix_append _ _) (fc_pre pr hf)) hth b2 hD b4 b1 b7 b9 (sy_st_app (sy_st_join (sy_st_join s31 sg) sh1)) (sy_pushedT hz s21 b6).2.2.1 b8.1)
      · rename_i hne
        obtain rfl := Option.some.inj h
        rcases b8.2 with b82 | ⟨P, hP1, ve, c1, c2, c3, c4, c6, c5⟩
        · exact absurd (by rw [b82]; rfl) hne
        · have hok := mg_ok hz s21 (sy_st_join (sy_st_join s31 sg) sh1) c1 c2 c3 c4 c6 c5
          rw [← hps] at hok
          refine kk _ (List.mem_map.mpr ⟨_, List.mem_filter.mpr ⟨List.mem_map.mpr ⟨P, hP1, rfl⟩, ?_⟩, rfl⟩) tb w1 H1 locs1 b1 b2 b3 b4 b5 b7 b9 _ ls _ (hp1.trans (List.prefix_append _ _)) hok (fc_back_ok (r := r) (by rw [← hy.1.1]; exact pre_le (pr.trans (List.prefix_append _ _))) (sy_old hy.1 (pr.trans (List.prefix_append _ _))) (fc_pre (List.prefix_append _ _) (fc_pre pr hf)) hth b2 hD b4 b1 b7 b9 (sy_st_pre (List.prefix_append _ _) (sy_st_join (sy_st_join s31 sg) sh1)) hok.2.2.1 b8.1)
          rw [Bool.not_eq_true']
          refine Bool.eq_false_iff.mpr (fun hb => ?_)
          obtain ⟨a, _, ha⟩ := List.any_eq_true.mp hb
          exact sy_bot_ok hok ha
  · cases h
end M12
end
section
/-! a new array of a constant length -/
abbrev nt_L : Type := List (Nat × Nat × ClassFile.ArrayType)
def kd_at (t : ClassFile.ArrayType) : Nat := match t with
  | .int => 0
  | .byte => 1
  | .boolean => 2
  | .long => 3
  | _ => 9
def z_fit (t : tv_T) : Bool := (decide (t.1 = 0) && decide (t.2.1 ≤ 0) && decide (0 ≤ t.2.2.1)) || (decide (t.1 = 8) && decide (t.2.2.2.length = 4))
theorem z_fit_ok {t : tv_T} (h : z_fit t = true) : pl_k t 0 := by
  unfold z_fit at h
  simp only [Bool.or_eq_true, Bool.and_eq_true, decide_eq_true_eq] at h
  unfold pl_k
  rcases h with ⟨⟨a, b⟩, d⟩ | ⟨a, b⟩
  · rw [if_pos a]; exact ⟨b, d⟩
  · rw [if_neg (by omega), if_pos a]
    match hm : t.2.2.2, b with
    | [a, b, c, d], _ => exact ⟨by decide, by show (0 : Int) % 256 ≤ (a : Int); omega, by show (0 : Int) / 256 % 256 ≤ (b : Int); omega, by show (0 : Int) / 65536 % 256 ≤ (c : Int); omega, by show (0 : Int) / 16777216 ≤ (d : Int); omega⟩
def ek_of (k : Nat) : Nat := if k = 3 then 1 else 0
def tr_new (G : List rg_T) (NT : nt_L) (pc : Nat) (i : ClassFile.Instr) (len : Nat) (y : sy_T) : Option (sy_T × Nat) := match i with
  | .newarray t => (match NT.find? (fun q => q.1 == pc), y.2.2.1 with
    | some q, a :: r => (match y.1[a]?, G[q.2.1]? with
      | some u, some g => if len = 2 ∧ u.1 = 0 ∧ u.2.1 = u.2.2.1 ∧ 0 ≤ u.2.1 ∧ u.2.1 ≤ 100000 ∧ t = q.2.2 ∧ kd_at t = g.1 ∧ g.1 < 4 ∧ (g.2.1 : Int) ≤ u.2.1 ∧ u.2.1 ≤ (g.2.2.1 : Int) ∧ g.2.2.2.2.all z_fit = true ∧ g.2.2.2.1.1 = ek_of g.1 ∧ g.2.2.2.1.2.1 ≤ 0 ∧ 0 ≤ g.2.2.2.1.2.2.1 then some (sy_push y (2, 0, 0, [q.2.1]) r, u.2.1.toNat) else none
      | _, _ => none)
    | _, _ => none)
  | _ => none
section M12b
variable {p : Program} {l : Launch} {e : Env} {R : Room} {s : State} {m : MethodId} {args : Array Value} {below : List Frame} {meth : Method} {c : Code} {H : Heap} {locs : List Loc} {cells slots : Nat} {Q : State → Prop} {cc : ByteArray} {pc : Nat} {i : ClassFile.Instr} {len nL : Nat} {v0 : List Value} {ta : Nat → Option Nat} {ws : va_W} {y y_zq : sy_T} {D : va_G} {kA : Nat → ClassId} {G : List rg_T} {A : Nat → Prop} {ret : Option FieldType} {own nm : String}
theorem sy_grow {tb : Nat → Option Nat} {w1 : va_W} {vs : List Value} {ls : Array Slot} {st : List Value} (h : ta_le ta tb) (hw : ∀ x ∈ ws, x ∈ w1) (hy : sy_ok ta ws vs ls nL st y) : sy_ok tb w1 vs ls nL st y :=
  ⟨sy_env_mono h hy.1, hy.2.1, hy.2.2.1, fun q hq => by
    obtain ⟨a, ci, fs, v, m1, m2, m3, m4⟩ := hy.2.2.2.1 q hq
    exact ⟨a, ci, fs, v, m1, hw _ m2, m3, m4⟩, hy.2.2.2.2⟩
theorem th_fresh (hro : ∀ r, ro_id r = true → ¬ A (kA r)) (hth : th_ok kA G ta ws) {q : Nat} {e1 : va_E} (hD : va_D A (ws ++ [(q, e1)])) : ta q = none := by
  cases h : ta q with
  | none => rfl
  | some r =>
    rcases hth.1 q r h with ⟨g, e0, _, h2, _⟩ | ⟨_, z2, z3, _⟩
    rotate_left
    · exact absurd (z3 ▸ hD.2 ws.length (q, e1) (by rw [List.getElem?_append_right (Nat.le_refl _), Nat.sub_self]; rfl)) (hro r z2)
    obtain ⟨j, hj⟩ := List.mem_iff_getElem?.mp h2
    have hlt := (List.getElem?_eq_some_iff.mp hj).1
    have e1 := hD.1 j ws.length (q, e0) (q, e1) (by rw [List.getElem?_append_left hlt]; exact hj) (by rw [List.getElem?_append_right (Nat.le_refl _), Nat.sub_self]; rfl) rfl
    omega
theorem tr_new_ok {NT : nt_L} {N : Nat} (hnt : ∀ q ∈ NT, Cond.arrayClass (newarray.typeOf q.2.2) ∈ lw_g) (X : cx p s m args meth c cc nL ret own nm) (hK : va_K D classes (TY kA) s) (hro : ∀ r, ro_id r = true → ¬ A (kA r)) (hA : ∀ q, s.heap.size ≤ q → A q) (hP : va_P D classes ws H) (hD : va_D A ws) (hS : va_S A s.heap H locs) (hth : th_ok kA G ta ws) (hd : decode cc pc = .ok (i, len)) (h : tr_new G NT pc i len y = some (y_zq, N)) (hce : cells + 1 ≤ R.cells) (hsl : slots + N ≤ R.slots)
    (kk : ∀ (H1 : Heap) (w1 : va_W) (tb : Nat → Option Nat), ta_le ta tb → va_P D classes w1 H1 → va_D A w1 → va_S A s.heap H1 locs → th_ok kA G tb w1 → (∀ mo : mo_T, kp mo ta ws w1) → sy_goX p l e R s m args below meth c H1 locs (cells + 1) (slots + N) Q nL v0 tb w1 (fun vs => ∀ j, w_el w1 (n_ad vs y.1.length) j = 0) (pc + len) y_zq) : sy_go p l e R s m args below meth c H locs cells slots Q nL v0 ta ws pc y := by
  intro vs ls st hp0 hy
  unfold tr_new at h
  split at h
  · rename_i t
    have hs := hy.2.2.1
    split at h
    · rename_i q a r hq hst
      rw [hst] at hs
      split at h
      · rename_i u g hu hg
        split at h
        · rename_i hk
          obtain ⟨rfl, k1, k2, k3, k4, k5, k6, k7, k8, k9, k10, k11, k12, k13⟩ := hk
          have h_zq := Option.some.inj h
          have ey : sy_push y (2, 0, 0, [q.2.1]) r = y_zq := by injection h_zq
          have eN : u.2.1.toNat = N := by injection h_zq
          subst ey
          obtain ⟨va, rest, rfl, ha, oa, hr⟩ := sy_one hy.1 hs hu
          obtain ⟨x, rfl, x1, x2⟩ := tv_int oa k1
          have ex : x.toInt = u.2.1 := by omega
          have hn : ¬ x < 0 := fun q => by have h7 := i32_lt.mp q; rw [show (0 : Int32).toInt = 0 from rfl] at h7; omega
          have hN : x.toNatClampNeg = N := by rw [← eN, ← ex]; rfl
          have hmem := hnt q (List.mem_of_find?_eq_some hq)
          rw [← k5] at hmem
          have main : ∀ (ty : FieldType) (kd : Nat) (a0 : vp_A), newarray.typeOf t = ty → kd = g.1 → refKind ty = false → (TY kA)[kd]? = some (kA kd, ty) → (∀ cA : ClassId, vp_cell cA a0 = arrV cA N (fun _ => defaultValue ty)) → N * componentBytes ty ≤ 536870912 → (∀ tb, rg_ok kA tb g (.inl (kA kd, a0))) → (∀ (w : va_W) (x : Nat), w_at w x = some (.inl (kA kd, a0)) → ∀ j, w_el w x j = 0) → W p l e R s m args below meth c H locs cells slots Q (F0 m pc ls (.int x :: rest)) := fun ty kd a0 hty hkd hp hTY hcell hby hrg hz => by
            refine va_newa X.1 X.2.1 (X.2.2.2.2.1 _ hmem) hty hK hP hD hS hA hcell hn hN hby hce hsl hd (fun qa cA_zq H1 hK_zq hP_zq hD_zq hS_zq => ?_)
            have e1 : cA_zq = kA kd := k_cls hp (hK_zq.2 (TY kA).length (cA_zq, ty) (by simp)).2 (hK.2 kd (kA kd, ty) hTY).2
            subst e1
            have hfr := th_fresh hro hth hD_zq
            have hnew := th_new (kA := kA) (G := G) hth (a := qa) (e1 := .inl (kA kd, a0)) hfr hg (hrg _)
            refine kk H1 _ _ hnew.1 hP_zq hD_zq hS_zq hnew.2 (fun mo => ⟨fun b ci fs hb => ⟨fs, List.mem_append_left _ hb, fun _ _ _ _ => rfl⟩, fun b r_zq z _ _ hb => List.mem_append_left _ hb⟩) _ _ _ (pre_app hp0) ?_ (sy_pushed (sy_grow hnew.1 (fun z hz => List.mem_append_left _ hz) hy) hr ?_)
            · intro j
              have en : n_ad (vs ++ [Value.ref qa]) y.1.length = qa := by
                unfold n_ad n_v
                rw [← hy.1.1, List.getElem?_append_right (Nat.le_refl _), Nat.sub_self]; rfl
              rw [en]
              exact hz _ _ (w_at_mem hD_zq (List.mem_append_right _ (List.mem_singleton.mpr rfl))) j
            exact Or.inr (Or.inr (Or.inl ⟨rfl, qa, q.2.1, rfl, if_pos rfl, List.mem_singleton.mpr rfl⟩))
          have hN5 : N ≤ 100000 := by omega
          have k6_zq : kd_at t = 0 ∨ kd_at t = 1 ∨ kd_at t = 2 ∨ kd_at t = 3 := by omega
          have ri : ∀ kd, kd = g.1 → kd < 3 → ∀ tb, rg_ok kA tb g (.inl (kA kd, (N, .inl (fun _ => 0)))) := fun kd hkd h3 tb => by
            have k11_zq : g.2.2.2.1.1 = 0 := by rw [k11]; unfold ek_of; rw [if_neg (by omega)]
            exact Or.inl ⟨by omega, N, (fun _ => 0), by rw [hkd], by omega, by omega, k11_zq, fun j hj => Or.inl ⟨k11_zq, 0, rfl, k12, k13⟩, fun j t_zq hj ht_zq => pl_tv (z_fit_ok (List.all_eq_true.mp k10 t_zq (List.mem_of_getElem? ht_zq)))⟩
          have zi : ∀ kd (w : va_W) (x : Nat), w_at w x = some (.inl (kA kd, (N, .inl (fun _ => 0)))) → ∀ j, w_el w x j = 0 := fun kd w x hw j => by
            unfold w_el
            rw [hw]; rfl
          cases t with
          | int => exact main .int 0 (N, .inl (fun _ => 0)) rfl k6 rfl rfl (fun _ => rfl) (by show N * 4 ≤ 536870912; omega) (ri 0 k6 (by decide)) (zi 0)
          | byte => exact main .byte 1 (N, .inl (fun _ => 0)) rfl k6 rfl rfl (fun _ => rfl) (by show N * 1 ≤ 536870912; omega) (ri 1 k6 (by decide)) (zi 1)
          | boolean => exact main .boolean 2 (N, .inl (fun _ => 0)) rfl k6 rfl rfl (fun _ => rfl) (by show N * 1 ≤ 536870912; omega) (ri 2 k6 (by decide)) (zi 2)
          | char => exact absurd k6_zq (by decide)
          | float => exact absurd k6_zq (by decide)
          | double => exact absurd k6_zq (by decide)
          | short => exact absurd k6_zq (by decide)
          | long =>
            have k6 : 3 = g.1 := k6
            have k11_zq : g.2.2.2.1.1 = 1 := by rw [k11]; unfold ek_of; rw [if_pos k6.symm]
            refine main .long 3 (N, .inr (.inl (fun _ => 0))) rfl k6 rfl rfl (fun _ => rfl) (by show N * 8 ≤ 536870912; omega) (fun tb => Or.inr (Or.inl ⟨k6.symm, N, (fun _ => 0), rfl, by omega, by omega, k11_zq, fun j hj => Or.inr (Or.inl ⟨k11_zq, 0, rfl, k12, k13⟩)⟩)) (fun w x hw j => ?_)
            unfold w_el
            rw [hw]; rfl
        · cases h
      · cases h
    · cases h
  · cases h
/-- the new name and the length's -/
theorem tr_new_len {NT : nt_L} {vs vs_zq : List Value} {ls ls_zq : Array Slot} {st st_zq : List Value} {tb : Nat → Option Nat} {w1 : va_W} {qn : sy_T × Nat} (h : tr_new G NT pc i len y = some qn) (hy : sy_ok ta ws vs ls nL st y) (hp : vs <+: vs_zq) (hy_zq : sy_ok tb w1 vs_zq ls_zq nL st_zq qn.1) : ∀ n ∈ [y.1.length, y.2.2.1.headD 0], n < vs_zq.length := by
  unfold tr_new at h
  split at h
  · split at h
    · rename_i q a r hq hst
      split at h
      · rename_i u g hu hg
        split at h
        · have h_zq := Option.some.inj h
          have e1 : qn.1 = sy_push y (2, 0, 0, [q.2.1]) r := by rw [← h_zq]
          have l1 := hy_zq.1.1
          rw [e1] at l1
          have l2 : vs_zq.length = y.1.length + 1 := by rw [l1]; unfold sy_push; simp
          have l3 := (List.getElem?_eq_some_iff.mp hu).1
          intro n hn
          rw [hst] at hn
          rcases List.mem_cons.mp hn with rfl | hn
          · omega
          · have := List.mem_singleton.mp hn
            have e2 : n = a := this
            omega
        · cases h
      · cases h
    · cases h
  · cases h
end M12b
end
section
variable {PQ : pq_T}
/-! two longs compared, and the jump behind it: one step -/
def LBIG : Int := 1000000000000000000000000
def cl_lo (q : ClassFile.Cond) (t u : tv_T) : Int := match q with
  | .eq => u.2.1
  | .ne => if t.2.1 = u.2.1 ∧ u.2.1 = u.2.2.1 then t.2.1 + 1 else -LBIG
  | .ge => u.2.1
  | .gt => u.2.1 + 1
  | _ => -LBIG
def cl_hi (q : ClassFile.Cond) (t u : tv_T) : Int := match q with
  | .eq => u.2.2.1
  | .ne => if t.2.2.1 = u.2.1 ∧ u.2.1 = u.2.2.1 then t.2.2.1 - 1 else LBIG
  | .lt => u.2.2.1 - 1
  | .le => u.2.2.1
  | _ => LBIG
theorem cl_ok2 {q : ClassFile.Cond} {t u : tv_T} {x y : Int64} (h : cn_ok q x.toInt y.toInt) (h1 : t.2.1 ≤ x.toInt) (h2 : x.toInt ≤ t.2.2.1) (h3 : u.2.1 ≤ y.toInt) (h4 : y.toInt ≤ u.2.2.1) : cl_lo q t u ≤ x.toInt ∧ x.toInt ≤ cl_hi q t u := by
  have a := x.le_toInt
  have b := x.toInt_lt
  cases q <;> simp only [cn_ok, cl_lo, cl_hi, LBIG] at h ⊢
  · omega
  · constructor <;> split <;> omega
  · omega
  · omega
  · omega
  · omega
def sy_cutL (y : sy_T) (i : Nat) (lo hi : Int) : sy_T := match y.1[i]? with
  | some t => if t.1 = 1 then (y.1.set i (1, mx2 t.2.1 lo, mn2 t.2.2.1 hi, []), y.2) else y
  | none => y
theorem sy_cutL_ok {ta : Nat → Option Nat} {ws : va_W} {vs : List Value} {ls : Array Slot} {nL : Nat} {st : List Value} {y : sy_T} (h : sy_ok ta ws vs ls nL st y) {i : Nat} {x : Int64} (hv : vs[i]? = some (.long x)) {lo hi : Int} (h1 : lo ≤ x.toInt) (h2 : x.toInt ≤ hi) : sy_ok ta ws vs ls nL st (sy_cutL y i lo hi) := by
  unfold sy_cutL
  split
  · rename_i t ht
    split
    · rename_i hk
      obtain ⟨z, e, z1, z2⟩ := tv_long (h.1.2 i t _ ht hv) hk
      obtain rfl := Value.long.inj e
      exact ⟨en_set_ok h.1 hv (Or.inr (Or.inl ⟨rfl, x, rfl, mx2_le z1 h1, mn2_ge z2 h2⟩)), h.2⟩
    · exact h
  · exact h
def sy_botL (y : sy_T) (i : Nat) : Bool := match y.1[i]? with
  | some t => decide (t.1 = 1) && decide (t.2.2.1 < t.2.1)
  | none => false
theorem sy_botL_ok {ta : Nat → Option Nat} {ws : va_W} {vs : List Value} {ls : Array Slot} {nL : Nat} {st : List Value} {y : sy_T} (h : sy_ok ta ws vs ls nL st y) {i : Nat} (hb : sy_botL y i = true) : False := by
  unfold sy_botL at hb
  split at hb
  · rename_i t ht
    simp only [Bool.and_eq_true, decide_eq_true_eq] at hb
    have hlt := (List.getElem?_eq_some_iff.mp ht).1
    rw [← h.1.1] at hlt
    obtain ⟨x, _, a, b⟩ := tv_long (h.1.2 i t _ ht (List.getElem?_eq_getElem hlt)) hb.1
    omega
  · cases hb
def sy_cmpL (q : ClassFile.Cond) (y : sy_T) (a b : Nat) (t u : tv_T) : sy_T := sy_cutL (sy_cutL y a (cl_lo q t u) (cl_hi q t u)) b (cl_lo (cn_flip q) u t) (cl_hi (cn_flip q) u t)
def lc_next (pc : Nat) (q : ClassFile.Cond) (off : Int) (y : sy_T) : Option (List (Nat × sy_T × List fc_T)) := match y.2.2.1 with
  | b :: a :: r => (match y.1[a]?, y.1[b]? with
    | some t, some u => if t.1 = 1 ∧ u.1 = 1 ∧ 0 ≤ ((pc + 1 : Nat) : Int) + off then
        (let y1 := sy_cmpL q (sy_at y r) a b t u
         let y2 := sy_cmpL (cn_neg q) (sy_at y r) a b t u
         some ((if sy_botL y1 a || sy_botL y1 b then [] else [((((pc + 1 : Nat) : Int) + off).toNat, y1, [(7, [a, b], [cn_c q])])]) ++ (if sy_botL y2 a || sy_botL y2 b then [] else [(pc + 1 + 3, y2, [(7, [a, b], [cn_c (cn_neg q)])])]))) else none
    | _, _ => none)
  | _ => none
theorem lg_cases (x y : Int64) : (x.toInt < y.toInt ∧ (lg_cmp x y).toInt = -1) ∨ (x.toInt = y.toInt ∧ (lg_cmp x y).toInt = 0) ∨ (y.toInt < x.toInt ∧ (lg_cmp x y).toInt = 1) := by
  have e1 : x < y ↔ x.toInt < y.toInt := Int64.lt_iff_toInt_lt
  have e2 : y < x ↔ y.toInt < x.toInt := Int64.lt_iff_toInt_lt
  have e3 : x = y ↔ x.toInt = y.toInt := Int64.toInt_inj.symm
  unfold lg_cmp
  rcases Int.lt_trichotomy x.toInt y.toInt with h | h | h
  · refine Or.inl ⟨h, ?_⟩
    have a1 := e1.mpr h
    have a2 : ¬ x = y := fun q => by have := e3.mp q; omega
    have a3 : ¬ y < x := fun q => by have := e2.mp q; omega
    simp [a1, a2, a3]
  · refine Or.inr (Or.inl ⟨h, ?_⟩)
    have a1 : x = y := e3.mpr h
    have a2 : ¬ x < y := fun q => by have := e1.mp q; omega
    have a3 : ¬ y < x := fun q => by have := e2.mp q; omega
    simp [a1, a2, a3]
  · refine Or.inr (Or.inr ⟨h, ?_⟩)
    have a1 := e2.mpr h
    have a2 : ¬ x = y := fun q => by have := e3.mp q; omega
    have a3 : ¬ x < y := fun q => by have := e1.mp q; omega
    simp [a1, a2, a3]
theorem lg_ok {q : ClassFile.Cond} {x y : Int64} (h : cn_ok q (lg_cmp x y).toInt 0) : cn_ok q x.toInt y.toInt := by
  have := lg_cases x y
  cases q <;> simp only [cn_ok] at h ⊢ <;> omega
theorem n_iv_ofL {vs : List Value} {n : Nat} {x : Int64} (h : vs[n]? = some (.long x)) : n_iv vs n = x.toInt := by unfold n_iv; rw [n_v_of h]; rfl
theorem br_7L {vs : List Value} {a b : Nat} {x z : Int64} {q : ClassFile.Cond} (ha : vs[a]? = some (.long x)) (hb : vs[b]? = some (.long z)) (h : cn_ok q x.toInt z.toInt) : br_X PQ [(7, [a, b], [cn_c q])] vs := fun f hf => by
  obtain rfl := List.mem_singleton.mp hf
  refine ⟨by simp, fun ws => ⟨fun n hn => ?_, ?_⟩⟩
  · rcases List.mem_cons.mp hn with rfl | hn
    · exact n_lt ha
    · obtain rfl := List.mem_singleton.mp hn; exact n_lt hb
  · show cq (cn_c q) (n_iv vs a) (n_iv vs b)
    rw [n_iv_ofL ha, n_iv_ofL hb]; exact cq_of h
section M12c
variable {p : Program} {l : Launch} {e : Env} {R : Room} {s : State} {m : MethodId} {args : Array Value} {below : List Frame} {meth : Method} {c : Code} {H : Heap} {locs : List Loc} {cells slots : Nat} {Q : State → Prop} {cc : ByteArray} {pc : Nat} {nL : Nat} {v0 : List Value} {ta : Nat → Option Nat} {ws : va_W} {y : sy_T}
theorem lc_next_ok (hx : p.tables.exec = Jvm.exec) (hb : c.code = cc) {q : ClassFile.Cond} {off : Int} (hd : decode cc pc = .ok (.lcmp, 1)) (hd2 : decode cc (pc + 1) = .ok (.ifCond q off, 3)) {L : List (Nat × sy_T × List fc_T)} (h : lc_next pc q off y = some L) (k : ∀ z ∈ L, sy_goX p l e R s m args below meth c H locs cells slots Q nL v0 ta ws (br_X PQ z.2.2) z.1 z.2.1) : sy_go p l e R s m args below meth c H locs cells slots Q nL v0 ta ws pc y := by
  intro vs ls st hp0 hy
  unfold lc_next at h
  have hs := hy.2.2.1
  split at h
  · rename_i b a r hst
    rw [hst] at hs
    split at h
    · rename_i t u hta hub
      obtain ⟨va, vb, rest, rfl, ha, hb2, oa, ob, hr⟩ := sy_two hy.1 hs hta hub
      split at h
      · rename_i hk
        obtain rfl := Option.some.inj h
        obtain ⟨x, rfl, x1, x2⟩ := tv_long oa hk.1
        obtain ⟨z, rfl, z1, z2⟩ := tv_long ob hk.2.1
        have hy0 : sy_ok ta ws vs ls nL rest (sy_at y r) := sy_stack hy hr
        have cut : ∀ {q_zq : ClassFile.Cond}, cn_ok q_zq x.toInt z.toInt → sy_ok ta ws vs ls nL rest (sy_cmpL q_zq (sy_at y r) a b t u) := fun hc => by
          have e1 := cl_ok2 hc x1 x2 z1 z2
          have e2 := cl_ok2 (cn_flip_ok hc) z1 z2 x1 x2
          exact sy_cutL_ok (sy_cutL_ok hy0 ha e1.1 e1.2) hb2 e2.1 e2.2
        refine W.lcmp hx hb hd (br1_go hx hb hd2 hk.2.2 (fun hc => ?_) (fun hc => ?_))
        · have hc_zq := lg_ok hc
          have h1 := cut hc_zq
          refine k (_, _, _) (List.mem_append_left _ ?_) _ _ _ hp0 (br_7L ha hb2 hc_zq) h1
          split
          · rename_i hbt
            rcases Bool.or_eq_true_iff.mp hbt with hbt | hbt
            · exact (sy_botL_ok h1 hbt).elim
            · exact (sy_botL_ok h1 hbt).elim
          · exact List.mem_cons_self
        · have hc_zq := lg_ok hc
          have h1 := cut hc_zq
          refine k (_, _, _) (List.mem_append_right _ ?_) _ _ _ hp0 (br_7L ha hb2 hc_zq) h1
          split
          · rename_i hbt
            rcases Bool.or_eq_true_iff.mp hbt with hbt | hbt
            · exact (sy_botL_ok h1 hbt).elim
            · exact (sy_botL_ok h1 hbt).elim
          · exact List.mem_cons_self
      · cases h
    · cases h
  · cases h
end M12c
end
