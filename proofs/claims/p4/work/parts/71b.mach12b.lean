/-! a new array of a constant length -/
abbrev nt_L : Type := List (Nat × Nat × ClassFile.ArrayType)
def kd_at (t : ClassFile.ArrayType) : Nat := match t with
  | .int => 0
  | .byte => 1
  | .boolean => 2
  | _ => 9
def z_fit (t : tv_T) : Bool := (decide (t.1 = 0) && decide (t.2.1 ≤ 0) && decide (0 ≤ t.2.2.1)) || (decide (t.1 = 8) && decide (t.2.2.2.length = 4))
theorem z_fit_ok {t : tv_T} (h : z_fit t = true) : pl_k t 0 := by
  unfold z_fit at h
  simp only [Bool.or_eq_true, Bool.and_eq_true, decide_eq_true_eq] at h
  unfold pl_k
  rcases h with ⟨⟨a, b⟩, d⟩ | ⟨a, b⟩
  · rw [if_pos a]; exact ⟨b, d⟩
  · rw [if_neg (by omega), if_pos a]
    match hm : t.2.2.2, b with
    | [a, b, c, d], _ => exact ⟨by decide, by show (0 : Int) % 256 ≤ (a : Int); omega, by show (0 : Int) / 256 % 256 ≤ (b : Int); omega, by show (0 : Int) / 65536 % 256 ≤ (c : Int); omega, by show (0 : Int) / 16777216 ≤ (d : Int); omega⟩
def tr_new (G : List rg_T) (NT : nt_L) (pc : Nat) (i : ClassFile.Instr) (len : Nat) (y : sy_T) : Option (sy_T × Nat) := match i with
  | .newarray t => (match NT.find? (fun q => q.1 == pc), y.2.2.1 with
    | some q, a :: r => (match y.1[a]?, G[q.2.1]? with
      | some u, some g => if len = 2 ∧ u.1 = 0 ∧ u.2.1 = u.2.2.1 ∧ 0 ≤ u.2.1 ∧ u.2.1 ≤ 100000 ∧ t = q.2.2 ∧ kd_at t = g.1 ∧ g.1 < 3 ∧ (g.2.1 : Int) ≤ u.2.1 ∧ u.2.1 ≤ (g.2.2.1 : Int) ∧ g.2.2.2.2.all z_fit = true ∧ g.2.2.2.1.1 = 0 ∧ g.2.2.2.1.2.1 ≤ 0 ∧ 0 ≤ g.2.2.2.1.2.2.1 then some (sy_push y (2, 0, 0, [q.2.1]) r, u.2.1.toNat) else none
      | _, _ => none)
    | _, _ => none)
  | _ => none
section M12b
variable {p : Program} {l : Launch} {e : Env} {R : Room} {s : State} {m : MethodId} {args : Array Value} {below : List Frame} {meth : Method} {c : Code} {H : Heap} {locs : List Loc} {cells slots : Nat} {Q : State → Prop} {cc : ByteArray} {pc : Nat} {i : ClassFile.Instr} {len nL : Nat} {v0 : List Value} {ta : Nat → Option Nat} {ws : va_W} {y y' : sy_T} {D : va_G} {kA : Nat → ClassId} {G : List rg_T} {A : Nat → Prop} {ret : Option FieldType} {own nm : String}
theorem sy_grow {tb : Nat → Option Nat} {w1 : va_W} {vs : List Value} {ls : Array Slot} {st : List Value} (h : ta_le ta tb) (hw : ∀ x ∈ ws, x ∈ w1) (hy : sy_ok ta ws vs ls nL st y) : sy_ok tb w1 vs ls nL st y :=
  ⟨sy_env_mono h hy.1, hy.2.1, hy.2.2.1, fun q hq => by
    obtain ⟨a, ci, fs, v, m1, m2, m3, m4⟩ := hy.2.2.2.1 q hq
    exact ⟨a, ci, fs, v, m1, hw _ m2, m3, m4⟩, hy.2.2.2.2⟩
theorem th_fresh (hro : ∀ r, ro_id r = true → ¬ A (kA r)) (hth : th_ok kA G ta ws) {q : Nat} {e1 : va_E} (hD : va_D A (ws ++ [(q, e1)])) : ta q = none := by
  cases h : ta q with
  | none => rfl
  | some r =>
    rcases hth.1 q r h with ⟨g, e0, _, h2, _⟩ | ⟨_, z2, z3, _⟩
    rotate_left
    · exact absurd (z3 ▸ hD.2 ws.length (q, e1) (by rw [List.getElem?_append_right (Nat.le_refl _), Nat.sub_self]; rfl)) (hro r z2)
    obtain ⟨j, hj⟩ := List.mem_iff_getElem?.mp h2
    have hlt := (List.getElem?_eq_some_iff.mp hj).1
    have e1 := hD.1 j ws.length (q, e0) (q, e1) (by rw [List.getElem?_append_left hlt]; exact hj) (by rw [List.getElem?_append_right (Nat.le_refl _), Nat.sub_self]; rfl) rfl
    omega
theorem tr_new_ok {NT : nt_L} {N : Nat} (hnt : ∀ q ∈ NT, Cond.arrayClass (newarray.typeOf q.2.2) ∈ lw_g) (X : cx p s m args meth c cc nL ret own nm) (hK : va_K D classes (TY kA) s) (hro : ∀ r, ro_id r = true → ¬ A (kA r)) (hA : ∀ q, s.heap.size ≤ q → A q) (hP : va_P D classes ws H) (hD : va_D A ws) (hS : va_S A s.heap H locs) (hth : th_ok kA G ta ws) (hd : decode cc pc = .ok (i, len)) (h : tr_new G NT pc i len y = some (y', N)) (hce : cells + 1 ≤ R.cells) (hsl : slots + N ≤ R.slots)
    (kk : ∀ (H1 : Heap) (w1 : va_W) (tb : Nat → Option Nat), ta_le ta tb → va_P D classes w1 H1 → va_D A w1 → va_S A s.heap H1 locs → th_ok kA G tb w1 → (∀ mo : mo_T, kp mo ta ws w1) → sy_go p l e R s m args below meth c H1 locs (cells + 1) (slots + N) Q nL v0 tb w1 (pc + len) y') : sy_go p l e R s m args below meth c H locs cells slots Q nL v0 ta ws pc y := by
  intro vs ls st hp0 hy
  unfold tr_new at h
  split at h
  · rename_i t
    have hs := hy.2.2.1
    split at h
    · rename_i q a r hq hst
      rw [hst] at hs
      split at h
      · rename_i u g hu hg
        split at h
        · rename_i hk
          obtain ⟨rfl, k1, k2, k3, k4, k5, k6, k7, k8, k9, k10, k11, k12, k13⟩ := hk
          have h' := Option.some.inj h
          have ey : sy_push y (2, 0, 0, [q.2.1]) r = y' := by injection h'
          have eN : u.2.1.toNat = N := by injection h'
          subst ey
          obtain ⟨va, rest, rfl, ha, oa, hr⟩ := sy_one hy.1 hs hu
          obtain ⟨x, rfl, x1, x2⟩ := tv_int oa k1
          have ex : x.toInt = u.2.1 := by omega
          have hn : ¬ x < 0 := fun q => by have h7 := i32_lt.mp q; rw [show (0 : Int32).toInt = 0 from rfl] at h7; omega
          have hN : x.toNatClampNeg = N := by rw [← eN, ← ex]; rfl
          have hmem := hnt q (List.mem_of_find?_eq_some hq)
          rw [← k5] at hmem
          have main : ∀ (ty : FieldType) (kd : Nat), newarray.typeOf t = ty → kd = g.1 → refKind ty = false → (TY kA)[kd]? = some (kA kd, ty) → (∀ cA : ClassId, vp_cell cA (N, .inl (fun _ => 0)) = arrV cA N (fun _ => defaultValue ty)) → N * componentBytes ty ≤ 536870912 → W p l e R s m args below meth c H locs cells slots Q (F0 m pc ls (.int x :: rest)) := fun ty kd hty hkd hp hTY hcell hby => by
            refine va_newa X.1 X.2.1 (X.2.2.2.2.1 _ hmem) hty hK hP hD hS hA hcell hn hN hby hce hsl hd (fun qa cA' H1 hK' hP' hD' hS' => ?_)
            have e1 : cA' = kA kd := k_cls hp (hK'.2 (TY kA).length (cA', ty) (by simp)).2 (hK.2 kd (kA kd, ty) hTY).2
            subst e1
            have hfr := th_fresh hro hth hD'
            have hnew := th_new (kA := kA) (G := G) hth (a := qa) (e1 := .inl (kA kd, N, .inl (fun _ => 0))) hfr hg (Or.inl ⟨k7, N, (fun _ => 0), by rw [hkd], by omega, by omega, k11, fun j hj => Or.inl ⟨k11, 0, rfl, k12, k13⟩, fun j t' hj ht' => pl_tv (z_fit_ok (List.all_eq_true.mp k10 t' (List.mem_of_getElem? ht')))⟩)
            refine kk H1 _ _ hnew.1 hP' hD' hS' hnew.2 (fun mo => ⟨fun b ci fs hb => ⟨fs, List.mem_append_left _ hb, fun _ _ => rfl⟩, fun b r' z _ _ hb => List.mem_append_left _ hb⟩) _ _ _ (pre_app hp0) (sy_pushed (sy_grow hnew.1 (fun z hz => List.mem_append_left _ hz) hy) hr ?_)
            exact Or.inr (Or.inr (Or.inl ⟨rfl, qa, q.2.1, rfl, if_pos rfl, List.mem_singleton.mpr rfl⟩))
          have hN5 : N ≤ 100000 := by omega
          have k6' : kd_at t = 0 ∨ kd_at t = 1 ∨ kd_at t = 2 := by omega
          cases t with
          | int => exact main .int 0 rfl k6 rfl rfl (fun _ => rfl) (by show N * 4 ≤ 536870912; omega)
          | byte => exact main .byte 1 rfl k6 rfl rfl (fun _ => rfl) (by show N * 1 ≤ 536870912; omega)
          | boolean => exact main .boolean 2 rfl k6 rfl rfl (fun _ => rfl) (by show N * 1 ≤ 536870912; omega)
          | char => exact absurd k6' (by decide)
          | float => exact absurd k6' (by decide)
          | double => exact absurd k6' (by decide)
          | short => exact absurd k6' (by decide)
          | long => exact absurd k6' (by decide)
        · cases h
      · cases h
    · cases h
  · cases h
end M12b
