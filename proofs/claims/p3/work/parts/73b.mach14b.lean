section
variable {PQ : pq_T}
/-! facts that a change of the world leaves as they are -/
section M14b
variable {kA : Nat → ClassId} {G : List rg_T} {A : Nat → Prop} {ta : Nat → Option Nat} {ws : va_W}
/-- a field of an object, as its region says -/
theorem fd_at (hD : va_D A ws) (hth : th_ok kA G ta ws) {a r : Nat} (ha : ta a = some r) {g : rg_T} (hg : G[r]? = some g) {k : Nat} {t : tv_T} (hk : g.2.2.2.2[k]? = some t) (h10 : 10 ≤ g.1) : tv_ok ta t (w_fd ws a k) ∧ ∃ fs, w_at ws a = some (.inr (g.1 - 10, fs)) := by
  obtain ⟨e, h2, h3⟩ := th_in hth ha hg
  rcases h3 with ⟨z, _⟩ | ⟨z, _⟩ | ⟨_, z, _⟩ | ⟨_, fs, rfl, l1, hf⟩
  · omega
  · omega
  · omega
  · have hlt := (List.getElem?_eq_some_iff.mp hk).1
    rw [← l1] at hlt
    have hv := List.getElem?_eq_getElem hlt
    refine ⟨?_, fs, w_at_mem hD h2⟩
    unfold w_fd
    rw [w_at_mem hD h2]
    simp only
    rw [List.getD_eq_getElem?_getD, hv]
    exact hf k t _ hk hv
/-- what field k of a region's objects is -/
def tk_g (G : List rg_T) (k r : Nat) : Option (Nat × tv_T) := match G[r]? with
  | some g => if 10 ≤ g.1 then (g.2.2.2.2[k]?).map (fun t => (g.1 - 10, t)) else none
  | none => none
/-- every object that a name may be -/
def tk_all (G : List rg_T) (y : sy_T) (q : Nat × Nat) (f : Nat × tv_T → Bool) : Bool := match y.1[q.1]? with
  | some t => decide (t.1 = 2) && t.2.2.2.all (fun r => match tk_g G q.2 r with | some w => f w | none => false)
  | none => false
theorem tk_all_ok {y : sy_T} {vs : List Value} {q : Nat × Nat} {f : Nat × tv_T → Bool} (hD : va_D A ws) (hth : th_ok kA G ta ws) (hy : sy_env ta y.1 vs) (h : tk_all G y q f = true) : ∃ a ci t fs, n_v vs q.1 = .ref a ∧ f (ci, t) = true ∧ w_at ws a = some (.inr (ci, fs)) ∧ tv_ok ta t (w_fd ws a q.2) := by
  unfold tk_all at h
  split at h
  · rename_i t ht
    rw [Bool.and_eq_true, decide_eq_true_eq] at h
    have hlt : q.1 < vs.length := by rw [hy.1]; exact (List.getElem?_eq_some_iff.mp ht).1
    have hv := List.getElem?_eq_getElem hlt
    obtain ⟨a, r, e, h1, h2⟩ := tv_ref (hy.2 _ _ _ ht hv) h.1
    have h3 := List.all_eq_true.mp h.2 r h2
    have hn : n_v vs q.1 = .ref a := by unfold n_v; rw [hv, e]; rfl
    cases hw : tk_g G q.2 r with
    | none => rw [hw] at h3; cases h3
    | some w =>
      rw [hw] at h3
      unfold tk_g at hw
      split at hw
      · rename_i g hg
        split at hw
        · rename_i h10
          obtain ⟨t_zq, e1, e2⟩ := Option.map_eq_some_iff.mp hw
          obtain ⟨p1, fs, p2⟩ := fd_at hD hth h1 hg e1 h10
          refine ⟨a, w.1, w.2, fs, hn, h3, ?_, ?_⟩
          · rw [← e2]; exact p2
          · rw [← e2]; exact p1
        · cases hw
      · cases hw
  · cases h
/-- of all regions that a name may be of -/
def tk_alr (y : sy_T) (n : Nat) (f : Nat → Bool) : Bool := match y.1[n]? with
  | some t => decide (t.1 = 2) && t.2.2.2.all f
  | none => false
theorem tk_alr_ok {y : sy_T} {vs : List Value} {n : Nat} {f : Nat → Bool} (hy : sy_env ta y.1 vs) (h : tk_alr y n f = true) : ∃ a r, n_v vs n = .ref a ∧ ta a = some r ∧ f r = true := by
  unfold tk_alr at h
  split at h
  · rename_i t ht
    rw [Bool.and_eq_true, decide_eq_true_eq] at h
    have hlt : n < vs.length := by rw [hy.1]; exact (List.getElem?_eq_some_iff.mp ht).1
    have hv := List.getElem?_eq_getElem hlt
    obtain ⟨a, r, e, h1, h2⟩ := tv_ref (hy.2 _ _ _ ht hv) h.1
    exact ⟨a, r, by unfold n_v; rw [hv, e]; rfl, h1, List.all_eq_true.mp h.2 r h2⟩
  · cases h
theorem ta_old {ta0 : Nat → Option Nat} {a r : Nat} (hle : ta_le ta0 ta) (h : ta a = some r) (h0 : (ta0 a).isSome = true) : ta0 a = some r := by
  obtain ⟨r0, hr0⟩ := Option.isSome_iff_exists.mp h0
  have := hle a r0 hr0
  rw [h] at this
  rw [hr0, Option.some.inj this]
theorem nm_ne {t : tv_T} {vs : List Value} {y : sy_T} {a d rk : Nat} (hy : sy_env ta y.1 vs) (ht : y.1[a]? = some t) (h : (decide (t.1 = 2) && !(t.2.2.2.contains rk)) = true) (hd : ta d = some rk) : d ≠ n_ad vs a := by
  rw [Bool.and_eq_true, decide_eq_true_eq, Bool.not_eq_true'] at h
  have hlt : a < vs.length := by rw [hy.1]; exact (List.getElem?_eq_some_iff.mp ht).1
  have hv := List.getElem?_eq_getElem hlt
  obtain ⟨b, r, e, h3, h4⟩ := tv_ref (hy.2 _ _ _ ht hv) h.1
  have hn : n_ad vs a = b := by unfold n_ad n_v; rw [hv, e]; rfl
  rw [hn]
  intro he
  rw [he, h3] at hd
  have h7 := h.2
  rw [← Option.some.inj hd, List.contains_iff_mem.mpr h4] at h7
  cases h7
/-- a field stays -/
def tk_fk (G : List rg_T) (y : sy_T) (s : fc_T) (q : Nat × Nat) : Bool := match s with
  | (100, [_, _, _], _) => true
  | (103, [_], _) => true
  | (101, [o, _], [k]) => decide (k.toNat ≠ q.2) || (match y.1[o]?, y.1[q.1]? with | some t, some u => decide (t.1 = 2) && decide (u.1 = 2) && u.2.2.2.all (fun r => !(t.2.2.2.contains r)) | _, _ => false)
  | (102, [n0], _ :: ks) => decide (q.1 ≤ n0) && tk_alr y q.1 (fun r => !(ks.contains ((1000 * r + q.2 : Nat) : Int)))
  | _ => false
/-- the elements of the array in a field stay -/
def tk_ak (G : List rg_T) (y : sy_T) (s : fc_T) (q : Nat × Nat) : Bool := tk_fk G y s q && (match s with
  | (100, [a, _, _], _) => (match y.1[a]? with
    | some t => decide (t.1 = 2) && tk_all G y q (fun w => decide (w.2.1 = 2) && w.2.2.2.2.all (fun r => !(t.2.2.2.contains r)))
    | none => false)
  | (103, [a], _) => (match y.1[a]? with
    | some t => decide (t.1 = 2) && tk_all G y q (fun w => decide (w.2.1 = 2) && w.2.2.2.2.all (fun r => !(t.2.2.2.contains r)))
    | none => false)
  | (101, _, _) => true
  | (102, _, m :: _) => tk_all G y q (fun w => decide (w.2.1 = 2) && w.2.2.2.2.all (fun r => !(m.toNat.testBit r)))
  | _ => false)
theorem tk_fk_ok {y : sy_T} {vs : List Value} {s : fc_T} {q : Nat × Nat} {ta0 : Nat → Option Nat} {w0 : va_W} (hD : va_D A ws) (hth : th_ok kA G ta ws) (hy : sy_env ta y.1 vs) (hle : ta_le ta0 ta) (hs : fc_s s ta0 w0 ws vs) (h : tk_fk G y s q = true) : w_fd ws (n_ad vs q.1) q.2 = w_fd w0 (n_ad vs q.1) q.2 := by
  obtain ⟨_, hs⟩ := hs
  unfold tk_fk at h
  split at h
  · exact hs.2 _ _
  · exact hs.2 _ _
  · rename_i o v k
    rw [Bool.or_eq_true] at h
    rw [hs.2]
    rcases h with h | h
    · rw [decide_eq_true_eq] at h
      rw [if_neg (fun e => h e.2.symm)]
    · split at h
      · rename_i t u ht hu
        rw [Bool.and_eq_true, Bool.and_eq_true] at h
        have hlt : q.1 < vs.length := by rw [hy.1]; exact (List.getElem?_eq_some_iff.mp hu).1
        have hv := List.getElem?_eq_getElem hlt
        obtain ⟨a, r, e, h1, h2⟩ := tv_ref (hy.2 _ _ _ hu hv) (by simpa using h.1.2)
        have hn : n_ad vs q.1 = a := by unfold n_ad n_v; rw [hv, e]; rfl
        have h3 := List.all_eq_true.mp h.2 r h2
        have hne := nm_ne hy ht (by rw [Bool.and_eq_true]; exact ⟨h.1.1, h3⟩) h1
        rw [hn, if_neg (fun e => hne e.1)]
      · cases h
  · rename_i n0 m ks _
    rw [Bool.and_eq_true, decide_eq_true_eq] at h
    obtain ⟨a, r, h1, h3, h2⟩ := tk_alr_ok hy h.2
    have e : n_ad vs q.1 = a := by unfold n_ad; rw [h1]; rfl
    rw [e]
    refine hs.2.2.2.1 a r q.2 (ta_old hle h3 (hs.2.2.1 n0 List.mem_cons_self q.1 h.1 a h1)) (fun hc => ?_)
    have h2_zq : (!(ks.contains ((1000 * r + q.2 : Nat) : Int))) = true := h2
    rw [Bool.not_eq_true'] at h2_zq
    have := List.contains_iff_mem.mpr hc
    rw [h2_zq] at this
    cases this
  · cases h
theorem ar_ne {t w : tv_T} {vs : List Value} {y : sy_T} {a : Nat} {v : Value} (hy : sy_env ta y.1 vs) (ht : y.1[a]? = some t) (h2 : t.1 = 2) (hw : tv_ok ta w v) (hw2 : w.1 = 2) (hd : w.2.2.2.all (fun r => !(t.2.2.2.contains r)) = true) : v_ad v ≠ n_ad vs a := by
  have hlt : a < vs.length := by rw [hy.1]; exact (List.getElem?_eq_some_iff.mp ht).1
  have hv := List.getElem?_eq_getElem hlt
  obtain ⟨b, r, e, h3, h4⟩ := tv_ref (hy.2 _ _ _ ht hv) h2
  obtain ⟨b_zq, r_zq, rfl, h5, h6⟩ := tv_ref hw hw2
  have hn : n_ad vs a = b := by unfold n_ad n_v; rw [hv, e]; rfl
  rw [hn]
  intro he
  have he_zq : b_zq = b := he
  rw [he_zq, h3] at h5
  have h7 := List.all_eq_true.mp hd r_zq h6
  rw [← Option.some.inj h5, Bool.not_eq_true'] at h7
  rw [List.contains_iff_mem.mpr h4] at h7
  cases h7
theorem tk_ak_ok {y : sy_T} {vs : List Value} {s : fc_T} {q : Nat × Nat} {ta0 : Nat → Option Nat} {w0 : va_W} (hD : va_D A ws) (hth : th_ok kA G ta ws) (hy : sy_env ta y.1 vs) (hle : ta_le ta0 ta) (hs : fc_s s ta0 w0 ws vs) (h : tk_ak G y s q = true) : w_ar ws (n_v vs q.1) q.2 = w_ar w0 (n_v vs q.1) q.2 ∧ ∀ j, w_el ws (w_ar w0 (n_v vs q.1) q.2) j = w_el w0 (w_ar w0 (n_v vs q.1) q.2) j := by
  unfold tk_ak at h
  rw [Bool.and_eq_true] at h
  have e0 := tk_fk_ok hD hth hy hle hs h.1
  have e1 : w_ar ws (n_v vs q.1) q.2 = w_ar w0 (n_v vs q.1) q.2 := by
    show v_ad (w_fd ws (n_ad vs q.1) q.2) = v_ad (w_fd w0 (n_ad vs q.1) q.2)
    rw [e0]
  refine ⟨e1, ?_⟩
  rw [← e1]
  have hf := h.1
  have hk := h.2
  obtain ⟨_, hs⟩ := hs
  split at hk
  · rename_i a i v x
    split at hk
    · rename_i t ht
      rw [Bool.and_eq_true, decide_eq_true_eq] at hk
      obtain ⟨b, ci, w, fs, h1, h2, h3, h4⟩ := tk_all_ok hD hth hy hk.2
      have h2_zq : (decide (w.1 = 2) && w.2.2.2.all (fun r => !(t.2.2.2.contains r))) = true := h2
      rw [Bool.and_eq_true, decide_eq_true_eq] at h2_zq
      have hne := ar_ne hy ht hk.1 h4 h2_zq.1 h2_zq.2
      intro j
      rw [hs.1, if_neg (fun e => hne ?_)]
      rw [← e.1]
      show _ = v_ad (w_fd ws (v_ad (n_v vs q.1)) q.2)
      rw [h1]; rfl
    · cases hk
  · rename_i a x
    split at hk
    · rename_i t ht
      rw [Bool.and_eq_true, decide_eq_true_eq] at hk
      obtain ⟨b, ci, w, fs, h1, h2, h3, h4⟩ := tk_all_ok hD hth hy hk.2
      have h2_zq : (decide (w.1 = 2) && w.2.2.2.all (fun r => !(t.2.2.2.contains r))) = true := h2
      rw [Bool.and_eq_true, decide_eq_true_eq] at h2_zq
      have hne := ar_ne hy ht hk.1 h4 h2_zq.1 h2_zq.2
      intro j
      refine hs.1 _ j (fun e => hne ?_)
      rw [← e]
      show _ = v_ad (w_fd ws (v_ad (n_v vs q.1)) q.2)
      rw [h1]; rfl
    · cases hk
  · rename_i o k
    intro j
    unfold tk_fk at hf
    split at hf
    · rename_i hc; cases hc
    · rename_i hc; cases hc
    · rename_i hc; cases hc; exact hs.1 _ _
    · rename_i hc; cases hc
    · cases hf
  · rename_i ns m ks _
    obtain ⟨b, ci, w, fs, h1, h2, h3, h4⟩ := tk_all_ok hD hth hy hk
    have h2_zq : (decide (w.1 = 2) && w.2.2.2.all (fun r => !(m.toNat.testBit r))) = true := h2
    rw [Bool.and_eq_true, decide_eq_true_eq] at h2_zq
    obtain ⟨c, r, ec, hc, hr⟩ := tv_ref h4 h2_zq.1
    unfold tk_fk at hf
    split at hf
    · rename_i hc; cases hc
    · rename_i hc; cases hc
    · rename_i hc; cases hc
    · rename_i n0 m_zq ks_zq hc_zq
      cases hc_zq
      rw [Bool.and_eq_true, decide_eq_true_eq] at hf
      have eb : n_ad vs q.1 = b := by unfold n_ad; rw [h1]; rfl
      have o1 := hs.2.2.1 n0 List.mem_cons_self q.1 hf.1 b h1
      rw [eb] at e0
      have o2 := hs.2.2.2.2.1 b q.2 c o1 (by rw [← e0]; exact ec)
      obtain ⟨r_zq, hr_zq⟩ := Option.isSome_iff_exists.mp o2
      have hr2 := hle _ _ hr_zq
      rw [hc] at hr2
      have hbit := List.all_eq_true.mp h2_zq.2 r hr
      rw [Bool.not_eq_true', Option.some.inj hr2] at hbit
      intro j
      have ea : w_ar ws (n_v vs q.1) q.2 = c := by
        show v_ad (w_fd ws (v_ad (n_v vs q.1)) q.2) = c
        rw [h1]
        show v_ad (w_fd ws b q.2) = c
        rw [ec]; rfl
      rw [ea]
      exact hs.1 c r_zq hr_zq hbit j
    · cases hf
  · cases hk
/-- fields and arrays that a fact looks at -/
def lt_use : List Int → List Nat → List (Nat × Nat) × List (Nat × Nat)
  | _ :: t :: k :: r, x :: xs => if t = 0 then lt_use r xs else if t = 1 then (match lt_use r xs with | (a, b) => ((x, k.toNat) :: a, b)) else if t = 3 then (match lt_use r xs with | (a, b) => ((x, k.toNat / 1000 % 1000) :: a, (x, k.toNat / 1000000) :: b)) else if t = 5 then lt_use r xs else if t = 6 then (match lt_use r xs with | (a, b) => ((x, k.toNat) :: a, b)) else (match xs with
    | _ :: xs => if t = 4 then (match lt_use r xs with | (a, b) => ((x, k.toNat / 1000000 % 1000) :: a, (x, k.toNat / 1000000000) :: b)) else (match lt_use r xs with | (a, b) => (a, (x, k.toNat) :: b))
    | [] => ([], []))
  | _, _ => ([], [])
def vw_u (fs : List Int) (ns : List Nat) : List (Nat × Nat) := fs.filterMap (fun q => (ns[q.toNat / 1000]?).map (fun n => (n, q.toNat % 1000)))
def vw_r (fs : List Int) (ns : List Nat) : List (Nat × Nat) := fs.filterMap (fun q => (ns[q.toNat % 1000000 / 1000]?).map (fun n => (n, q.toNat % 1000)))
/-- fields of objects in arrays of references that a fact looks at -/
def vw_s (fs : List Int) (ns : List Nat) : List (Nat × Nat × Nat) := fs.filterMap (fun q => (ns[q.toNat % 1000000 / 1000]?).map (fun n => (n, q.toNat % 1000, q.toNat / 1000000)))
def tk_rs (f : fc_T) : List (Nat × Nat × Nat) := match f with
  | (20, ns, t :: nf :: na :: nr :: is) => if t = 51 then vw_s (((is.drop nf.toNat).drop na.toNat).take nr.toNat) ns else []
  | _ => []
def tk_use (f : fc_T) : Option (List (Nat × Nat) × List (Nat × Nat)) := match f with
  | (20, ns, t :: is) => (match t.toNat, is, ns with
    | 1, [k, _, _, _], [_, o, _] => some ([], [(o, k.toNat)])
    | 2, [k, _, _, _], [_, o, _] => some ([], [(o, k.toNat)])
    | 5, [k, _], [o, _] => some ([], [(o, k.toNat)])
    | 6, [k, _, _], [o, _] => some ([], [(o, k.toNat)])
    | 7, [k, k2, _, _], [o] => some ([(o, k2.toNat)], [(o, k.toNat)])
    | 30, _ :: is, ns => some (lt_use is ns)
    | 31, n :: _ :: is, ns => some ((lt_use (is.take (3 * n.toNat)) (ns.take (lt_n (is.take (3 * n.toNat))))).1 ++ (lt_use ((is.drop (3 * n.toNat)).drop 1) (ns.drop (lt_n (is.take (3 * n.toNat))))).1, (lt_use (is.take (3 * n.toNat)) (ns.take (lt_n (is.take (3 * n.toNat))))).2 ++ (lt_use ((is.drop (3 * n.toNat)).drop 1) (ns.drop (lt_n (is.take (3 * n.toNat))))).2)
    | 51, nf :: na :: nr :: is, ns => some (vw_u (is.take nf.toNat) ns, vw_u ((is.drop nf.toNat).take na.toNat) ns ++ vw_r (((is.drop nf.toNat).drop na.toNat).take nr.toNat) ns)
    | 60, nf :: na :: _ :: is, ns => some (vw_u (is.take nf.toNat) ns, vw_u ((is.drop nf.toNat).take na.toNat) ns)
    | 50, nf :: na :: is, ns => some (vw_u (is.take nf.toNat) ns, vw_u ((is.drop nf.toNat).take na.toNat) ns)
    | _, _, _ => none)
  | (21, _, _) => some ([], [])
  | (22, _, _) => some ([], [])
  | (23, _, _) => some ([], [])
  | (24, _, _) => some ([], [])
  | _ => none
theorem lt_frame {w0 w1 : va_W} {vs : List Value} : ∀ {is : List Int} {ns : List Nat}, (∀ q ∈ (lt_use is ns).1, w_fd w1 (n_ad vs q.1) q.2 = w_fd w0 (n_ad vs q.1) q.2) → (∀ q ∈ (lt_use is ns).2, w_ar w1 (n_v vs q.1) q.2 = w_ar w0 (n_v vs q.1) q.2 ∧ ∀ j, w_el w1 (w_ar w0 (n_v vs q.1) q.2) j = w_el w0 (w_ar w0 (n_v vs q.1) q.2) j) → lt_v is (ns.map (n_v vs)) w1 = lt_v is (ns.map (n_v vs)) w0
  | [], ns, _, _ => by cases ns <;> rfl
  | [_], ns, _, _ => by cases ns <;> rfl
  | [_, _], ns, _, _ => by cases ns <;> rfl
  | q :: t :: k :: r, [], _, _ => rfl
  | q :: t :: k :: r, x :: xs, h1, h2 => by
    unfold lt_use at h1 h2
    rw [List.map_cons]
    unfold lt_v
    by_cases t0 : t = 0
    · rw [if_pos t0] at h1 h2
      rw [if_pos t0, if_pos t0, lt_frame (is := r) (ns := xs) h1 h2]
    · rw [if_neg t0] at h1 h2
      rw [if_neg t0, if_neg t0]
      by_cases t1 : t = 1
      · rw [if_pos t1] at h1 h2
        rw [if_pos t1, if_pos t1, lt_frame (is := r) (ns := xs) (fun q hq => h1 q (List.mem_cons_of_mem _ hq)) h2]
        have := h1 (x, k.toNat) List.mem_cons_self
        have e : w_fi w1 (n_v vs x) k.toNat = w_fi w0 (n_v vs x) k.toNat := by
          show v_iv (w_fd w1 (n_ad vs x) k.toNat) = v_iv (w_fd w0 (n_ad vs x) k.toNat)
          rw [this]
        rw [e]
      · rw [if_neg t1] at h1 h2
        rw [if_neg t1, if_neg t1]
        by_cases t3 : t = 3
        · rw [if_pos t3] at h1 h2
          rw [if_pos t3, if_pos t3, lt_frame (is := r) (ns := xs) (fun q hq => h1 q (List.mem_cons_of_mem _ hq)) (fun q hq => h2 q (List.mem_cons_of_mem _ hq))]
          have g1 := h1 (x, k.toNat / 1000 % 1000) List.mem_cons_self
          have g2 := h2 (x, k.toNat / 1000000) List.mem_cons_self
          have e : w_fi w1 (n_v vs x) (k.toNat / 1000 % 1000) = w_fi w0 (n_v vs x) (k.toNat / 1000 % 1000) := by
            show v_iv (w_fd w1 (n_ad vs x) _) = v_iv (w_fd w0 (n_ad vs x) _)
            rw [g1]
          rw [e, g2.1, g2.2]
        rw [if_neg t3] at h1 h2
        rw [if_neg t3, if_neg t3]
        by_cases t5 : t = 5
        · rw [if_pos t5] at h1 h2
          rw [if_pos t5, if_pos t5, lt_frame (is := r) (ns := xs) h1 h2]
        rw [if_neg t5] at h1 h2
        rw [if_neg t5, if_neg t5]
        by_cases t6 : t = 6
        · rw [if_pos t6] at h1 h2
          rw [if_pos t6, if_pos t6, lt_frame (is := r) (ns := xs) (fun q hq => h1 q (List.mem_cons_of_mem _ hq)) h2]
          have := h1 (x, k.toNat) List.mem_cons_self
          have e : w_fi w1 (n_v vs x) k.toNat = w_fi w0 (n_v vs x) k.toNat := by
            show v_iv (w_fd w1 (n_ad vs x) k.toNat) = v_iv (w_fd w0 (n_ad vs x) k.toNat)
            rw [this]
          rw [e]
        rw [if_neg t6] at h1 h2
        rw [if_neg t6, if_neg t6]
        cases xs with
        | nil => rfl
        | cons i xs =>
          simp only [List.map_cons] at h1 h2 ⊢
          by_cases t4 : t = 4
          · rw [if_pos t4] at h1 h2
            rw [if_pos t4, if_pos t4, lt_frame (is := r) (ns := xs) (fun q hq => h1 q (List.mem_cons_of_mem _ hq)) (fun q hq => h2 q (List.mem_cons_of_mem _ hq))]
            have g1 := h1 (x, k.toNat / 1000000 % 1000) List.mem_cons_self
            have g2 := h2 (x, k.toNat / 1000000000) List.mem_cons_self
            have e : w_fi w1 (n_v vs x) (k.toNat / 1000000 % 1000) = w_fi w0 (n_v vs x) (k.toNat / 1000000 % 1000) := by
              show v_iv (w_fd w1 (n_ad vs x) _) = v_iv (w_fd w0 (n_ad vs x) _)
              rw [g1]
            rw [e, g2.1, g2.2]
          · rw [if_neg t4] at h1 h2
            rw [if_neg t4, if_neg t4]
            have := h2 (x, k.toNat) List.mem_cons_self
            rw [lt_frame (is := r) (ns := xs) h1 (fun q hq => h2 q (List.mem_cons_of_mem _ hq)), this.1, this.2]
theorem su_eq {w0 w1 : va_W} {a : Nat} (h : ∀ j, w_el w1 a j = w_el w0 a j) : ∀ n : Nat, w_sum w1 a n = w_sum w0 a n
  | 0 => rfl
  | n + 1 => by unfold w_sum; rw [su_eq h n, h n]
theorem fc_pure {c : Nat} (hc : c = 21 ∨ c = 22 ∨ c = 23 ∨ c = 24) {xs : List Value} {is : List Int} {w0 w1 : va_W} (h : fc_m PQ c xs is w0) : fc_m PQ c xs is w1 := by
  unfold fc_m at h ⊢
  rcases hc with rfl | rfl | rfl | rfl
  all_goals (split at h <;> first | exact h | (rename_i q _ _; omega) | simp_all)
theorem vw_mem {fs : List Int} {ns : List Nat} {i k n : Nat} (h : ns[i]? = some n) (hc : (fs.contains ((1000 * i + k : Nat) : Int) && decide (k < 1000)) = true) : (n, k) ∈ vw_u fs ns := by
  rw [Bool.and_eq_true, decide_eq_true_eq] at hc
  refine List.mem_filterMap.mpr ⟨((1000 * i + k : Nat) : Int), by simpa using hc.1, ?_⟩
  rw [Int.toNat_natCast, show (1000 * i + k) / 1000 = i from by omega, show (1000 * i + k) % 1000 = k from by omega, h]; rfl
theorem vw_F_frame {fs : List Int} {ns : List Nat} {vs : List Value} {w0 w1 : va_W} (h1 : ∀ q ∈ vw_u fs ns, w_fd w1 (n_ad vs q.1) q.2 = w_fd w0 (n_ad vs q.1) q.2) : vw_F fs (ns.map (n_v vs)) w1 = vw_F fs (ns.map (n_v vs)) w0 := by
  funext i k
  unfold vw_F
  rw [List.getElem?_map]
  cases h : ns[i]? with
  | none => rfl
  | some n =>
    show (bif _ then _ else _) = (bif _ then _ else _)
    cases hc : (fs.contains ((1000 * i + k : Nat) : Int) && decide (k < 1000)) with
    | false => rfl
    | true =>
      show w_fi w1 (n_v vs n) k = w_fi w0 (n_v vs n) k
      have := h1 _ (vw_mem h hc)
      show v_iv (w_fd w1 (n_ad vs n) k) = v_iv (w_fd w0 (n_ad vs n) k)
      rw [this]
theorem vw_E_frame {fs : List Int} {ns : List Nat} {vs : List Value} {w0 w1 : va_W} (h2 : ∀ q ∈ vw_u fs ns, w_ar w1 (n_v vs q.1) q.2 = w_ar w0 (n_v vs q.1) q.2 ∧ ∀ j, w_el w1 (w_ar w0 (n_v vs q.1) q.2) j = w_el w0 (w_ar w0 (n_v vs q.1) q.2) j) : vw_E fs (ns.map (n_v vs)) w1 = vw_E fs (ns.map (n_v vs)) w0 := by
  funext i k z
  unfold vw_E
  rw [List.getElem?_map]
  cases h : ns[i]? with
  | none => rfl
  | some n =>
    show (bif _ then _ else _) = (bif _ then _ else _)
    cases hc : (fs.contains ((1000 * i + k : Nat) : Int) && decide (k < 1000)) with
    | false => rfl
    | true =>
      show w_ei w1 (w_ar w1 (n_v vs n) k) z = w_ei w0 (w_ar w0 (n_v vs n) k) z
      have g := h2 _ (vw_mem h hc)
      unfold w_ei
      rw [g.1]; exact g.2 _
theorem vw_R_frame {rs : List Int} {ns : List Nat} {vs : List Value} {w0 w1 : va_W} (h2 : ∀ q ∈ vw_r rs ns, w_ar w1 (n_v vs q.1) q.2 = w_ar w0 (n_v vs q.1) q.2 ∧ ∀ j, w_el w1 (w_ar w0 (n_v vs q.1) q.2) j = w_el w0 (w_ar w0 (n_v vs q.1) q.2) j) (h3 : ∀ q ∈ vw_s rs ns, ∀ z : Int, 0 ≤ z → z < ((q.2.2 / 1000 : Nat) : Int) → w_fd w1 (w_ei w0 (w_ar w0 (n_v vs q.1) q.2.1) z).toNat (q.2.2 % 1000) = w_fd w0 (w_ei w0 (w_ar w0 (n_v vs q.1) q.2.1) z).toNat (q.2.2 % 1000)) : vw_R rs (ns.map (n_v vs)) w1 = vw_R rs (ns.map (n_v vs)) w0 := by
  funext i k M z
  unfold vw_R
  rw [List.getElem?_map]
  cases h : ns[i]? with
  | none => rfl
  | some n =>
    show (bif _ then _ else _) = (bif _ then _ else _)
    cases hc : (rs.contains ((1000000 * M + 1000 * i + k : Nat) : Int) && (decide (i < 1000) && decide (k < 1000))) with
    | false => rfl
    | true =>
      simp only [Bool.and_eq_true, decide_eq_true_eq] at hc
      obtain ⟨c1, c2, c3⟩ := hc
      show w_rfi w1 (w_ar w1 (n_v vs n) k) z (M / 1000) (M % 1000) = w_rfi w0 (w_ar w0 (n_v vs n) k) z (M / 1000) (M % 1000)
      unfold w_rfi
      cases hz : (decide (0 ≤ z) && decide (z < ((M / 1000 : Nat) : Int))) with
      | false => rfl
      | true =>
      rw [Bool.and_eq_true, decide_eq_true_eq, decide_eq_true_eq] at hz
      obtain ⟨c4, c5⟩ := hz
      have cm : ((1000000 * M + 1000 * i + k : Nat) : Int) ∈ rs := by simpa using c1
      have e1 : (1000000 * M + 1000 * i + k) % 1000000 / 1000 = i := by omega
      have e2 : (1000000 * M + 1000 * i + k) % 1000 = k := by omega
      have e3 : (1000000 * M + 1000 * i + k) / 1000000 = M := by omega
      have g := h2 (n, k) (List.mem_filterMap.mpr ⟨_, cm, by rw [Int.toNat_natCast, e1, e2, h]; rfl⟩)
      have g2 := h3 (n, k, M) (List.mem_filterMap.mpr ⟨_, cm, by rw [Int.toNat_natCast, e1, e2, e3, h]; rfl⟩) z c4 c5
      show w_fi w1 (.ref (w_ei w1 (w_ar w1 (n_v vs n) k) z).toNat) (M % 1000) = w_fi w0 (.ref (w_ei w0 (w_ar w0 (n_v vs n) k) z).toNat) (M % 1000)
      have e4 : w_ei w1 (w_ar w1 (n_v vs n) k) z = w_ei w0 (w_ar w0 (n_v vs n) k) z := by unfold w_ei; rw [g.1]; exact g.2 _
      rw [e4]
      exact congrArg v_iv g2
theorem vw_E2_frame {as rs : List Int} {ns : List Nat} {vs : List Value} {w0 w1 : va_W} (h2 : ∀ q ∈ vw_u as ns ++ vw_r rs ns, w_ar w1 (n_v vs q.1) q.2 = w_ar w0 (n_v vs q.1) q.2 ∧ ∀ j, w_el w1 (w_ar w0 (n_v vs q.1) q.2) j = w_el w0 (w_ar w0 (n_v vs q.1) q.2) j) (h3 : ∀ q ∈ vw_s rs ns, ∀ z : Int, 0 ≤ z → z < ((q.2.2 / 1000 : Nat) : Int) → w_fd w1 (w_ei w0 (w_ar w0 (n_v vs q.1) q.2.1) z).toNat (q.2.2 % 1000) = w_fd w0 (w_ei w0 (w_ar w0 (n_v vs q.1) q.2.1) z).toNat (q.2.2 % 1000)) : vw_E2 as rs (ns.map (n_v vs)) w1 = vw_E2 as rs (ns.map (n_v vs)) w0 := by
  funext i k z
  unfold vw_E2
  rw [vw_E_frame (fun q hq => h2 q (List.mem_append_left _ hq)), vw_R_frame (fun q hq => h2 q (List.mem_append_right _ hq)) h3]
theorem tk_frame {w0 w1 : va_W} {vs : List Value} {f : fc_T} {u : List (Nat × Nat) × List (Nat × Nat)} (hu : tk_use f = some u) (h1 : ∀ q ∈ u.1, w_fd w1 (n_ad vs q.1) q.2 = w_fd w0 (n_ad vs q.1) q.2) (h2 : ∀ q ∈ u.2, w_ar w1 (n_v vs q.1) q.2 = w_ar w0 (n_v vs q.1) q.2 ∧ ∀ j, w_el w1 (w_ar w0 (n_v vs q.1) q.2) j = w_el w0 (w_ar w0 (n_v vs q.1) q.2) j) (h3 : ∀ q ∈ tk_rs f, ∀ z : Int, 0 ≤ z → z < ((q.2.2 / 1000 : Nat) : Int) → w_fd w1 (w_ei w0 (w_ar w0 (n_v vs q.1) q.2.1) z).toNat (q.2.2 % 1000) = w_fd w0 (w_ei w0 (w_ar w0 (n_v vs q.1) q.2.1) z).toNat (q.2.2 % 1000)) (hf : fc_1 PQ f w0 vs) : f.1 < 100 ∧ fc_1 PQ f w1 vs := by
  obtain ⟨h0, hf⟩ := hf
  unfold tk_use at hu
  split at hu
  · rename_i ns t is
    refine ⟨by show (20 : Nat) < 100; decide, h0, ?_⟩
    have hf_zq : tk_ok PQ t.toNat is (ns.map (n_v vs)) w0 := hf
    show tk_ok PQ t.toNat is (ns.map (n_v vs)) w1
    split at hu
    · rename_i e; cases hu
      have g := h2 _ List.mem_cons_self
      rw [e] at hf_zq ⊢
      simp only [List.map_cons, List.map_nil] at hf_zq ⊢
      unfold tk_ok at hf_zq ⊢
      simp only at hf_zq ⊢ g
      rw [g.1, su_eq g.2]; exact hf_zq
    · rename_i e; cases hu
      have g := h2 _ List.mem_cons_self
      rw [e] at hf_zq ⊢
      simp only [List.map_cons, List.map_nil] at hf_zq ⊢
      unfold tk_ok at hf_zq ⊢
      simp only at hf_zq ⊢ g
      rw [g.1, su_eq g.2]; exact hf_zq
    · rename_i e; cases hu
      have g := h2 _ List.mem_cons_self
      rw [e] at hf_zq ⊢
      simp only [List.map_cons, List.map_nil] at hf_zq ⊢
      unfold tk_ok at hf_zq ⊢
      simp only at hf_zq ⊢ g
      rw [g.1, g.2]; exact hf_zq
    · rename_i e; cases hu
      have g := h2 _ List.mem_cons_self
      rw [e] at hf_zq ⊢
      simp only [List.map_cons, List.map_nil] at hf_zq ⊢
      unfold tk_ok at hf_zq ⊢
      simp only at hf_zq ⊢ g
      intro j hj
      rw [g.1, g.2]; exact hf_zq j hj
    · rename_i k k2 _ _ o e; cases hu
      have g := h2 _ List.mem_cons_self
      have g1 := h1 _ List.mem_cons_self
      rw [e] at hf_zq ⊢
      simp only [List.map_cons, List.map_nil] at hf_zq ⊢
      unfold tk_ok at hf_zq ⊢
      simp only at hf_zq ⊢ g g1
      have e2 : w_fi w1 (n_v vs o) k2.toNat = w_fi w0 (n_v vs o) k2.toNat := by
        show v_iv (w_fd w1 (n_ad vs o) k2.toNat) = v_iv (w_fd w0 (n_ad vs o) k2.toNat)
        rw [g1]
      intro j hj
      rw [g.1, g.2]; rw [e2] at hj; exact hf_zq j hj
    · rename_i e; cases hu
      rw [e] at hf_zq ⊢
      unfold tk_ok at hf_zq ⊢
      simp only at hf_zq ⊢
      rw [lt_frame h1 h2]; exact hf_zq
    · rename_i _ _ ns n _ is e; cases hu
      rw [e] at hf_zq ⊢
      unfold tk_ok at hf_zq ⊢
      simp only at hf_zq ⊢
      rw [← List.map_take, ← List.map_drop] at hf_zq ⊢
      rw [lt_frame (fun q hq => h1 q (List.mem_append_left _ hq)) (fun q hq => h2 q (List.mem_append_left _ hq))]
      rcases hf_zq with hf_zq | hf_zq
      · exact Or.inl hf_zq
      · refine Or.inr ?_
        generalize hL : is.drop (3 * n.toNat) = L at hf_zq h1 h2 ⊢
        cases L with
        | nil => exact hf_zq
        | cons d r =>
          show lt_v r _ w1 ≤ d
          rw [lt_frame (is := r) (fun q hq => h1 q (List.mem_append_right _ hq)) (fun q hq => h2 q (List.mem_append_right _ hq))]
          exact hf_zq
    · rename_i _ _ _ nf na nr is e; cases hu
      have h51 : t = 51 := by omega
      rw [e] at hf_zq ⊢
      unfold tk_ok at hf_zq ⊢
      simp only at hf_zq ⊢
      rw [vw_F_frame h1, vw_E2_frame h2 (fun q hq => h3 q (by show q ∈ (if t = 51 then _ else _); rw [if_pos h51]; exact hq))]; exact hf_zq
    · rename_i _ _ ns nf na k is e; cases hu
      rw [e] at hf_zq ⊢
      unfold tk_ok at hf_zq ⊢
      simp only at hf_zq ⊢
      rw [vw_F_frame h1, vw_E_frame h2]; exact hf_zq
    · rename_i _ _ ns nf na is e; cases hu
      rw [e] at hf_zq ⊢
      unfold tk_ok at hf_zq ⊢
      simp only at hf_zq ⊢
      rw [vw_F_frame h1, vw_E_frame h2]; exact hf_zq
    · cases hu
  · exact ⟨by show (21 : Nat) < 100; decide, h0, fc_pure (Or.inl rfl) hf⟩
  · exact ⟨by show (22 : Nat) < 100; decide, h0, fc_pure (Or.inr (Or.inl rfl)) hf⟩
  · exact ⟨by show (23 : Nat) < 100; decide, h0, fc_pure (Or.inr (Or.inr (Or.inl rfl))) hf⟩
  · exact ⟨by show (24 : Nat) < 100; decide, h0, fc_pure (Or.inr (Or.inr (Or.inr rfl))) hf⟩
  · cases hu
/-- a fact about an array that has a name -/
def tk_nm (f : fc_T) : Option Nat := match f with
  | (20, [a, _], [t, _, _, _]) => if t = 8 then some a else none
  | _ => none
def tk_dj (y : sy_T) (a b : Nat) : Bool := match y.1[a]?, y.1[b]? with
  | some t, some u => decide (t.1 = 2) && decide (u.1 = 2) && t.2.2.2.all (fun r => !(u.2.2.2.contains r))
  | _, _ => false
def tk_nk (y : sy_T) (s : fc_T) (a : Nat) : Bool := match s with
  | (100, [b, _, _], _) => tk_dj y a b
  | (103, [b], _) => tk_dj y a b
  | (101, [_, _], [_]) => true
  | (102, [n0], m :: _) => decide (a ≤ n0) && (match y.1[a]? with | some t => decide (t.1 = 2) && t.2.2.2.all (fun r => !(m.toNat.testBit r)) | none => false)
  | _ => false
theorem tk_dj_ok {y : sy_T} {vs : List Value} {a b : Nat} (hy : sy_env ta y.1 vs) (h : tk_dj y a b = true) : n_ad vs a ≠ n_ad vs b := by
  unfold tk_dj at h
  split at h
  · rename_i t u ht hu
    rw [Bool.and_eq_true, Bool.and_eq_true, decide_eq_true_eq, decide_eq_true_eq] at h
    have hlt : a < vs.length := by rw [hy.1]; exact (List.getElem?_eq_some_iff.mp ht).1
    have hv := List.getElem?_eq_getElem hlt
    have hn : n_v vs a = vs[a] := by unfold n_v; rw [hv]; rfl
    have := ar_ne hy hu h.1.2 (hy.2 _ _ _ ht hv) h.1.1 h.2
    show v_ad (n_v vs a) ≠ _
    rw [hn]; exact this
  · cases h
theorem tk_nk_ok {y : sy_T} {vs : List Value} {s : fc_T} {a : Nat} {ta0 : Nat → Option Nat} {w0 : va_W} (hy : sy_env ta y.1 vs) (hle : ta_le ta0 ta) (hs : fc_s s ta0 w0 ws vs) (h : tk_nk y s a = true) : ∀ j, w_el ws (n_ad vs a) j = w_el w0 (n_ad vs a) j := by
  obtain ⟨_, hs⟩ := hs
  unfold tk_nk at h
  split at h
  · intro j
    have hne := tk_dj_ok hy h
    rw [hs.1, if_neg (fun e => hne e.1)]
  · intro j
    exact hs.1 _ j (tk_dj_ok hy h)
  · exact fun j => hs.1 _ j
  · rename_i n0 m _ _
    rw [Bool.and_eq_true, decide_eq_true_eq] at h
    have h2 := h.2
    split at h2
    · rename_i t ht
      rw [Bool.and_eq_true, decide_eq_true_eq] at h2
      have hlt : a < vs.length := by rw [hy.1]; exact (List.getElem?_eq_some_iff.mp ht).1
      have hv := List.getElem?_eq_getElem hlt
      obtain ⟨c, r, e, h3, h4⟩ := tv_ref (hy.2 _ _ _ ht hv) h2.1
      have hn : n_v vs a = .ref c := by unfold n_v; rw [hv, e]; rfl
      have o1 := hs.2.2.1 n0 List.mem_cons_self a h.1 c hn
      obtain ⟨r_zq, hr_zq⟩ := Option.isSome_iff_exists.mp o1
      have hr2 := hle _ _ hr_zq
      rw [h3] at hr2
      have hbit := List.all_eq_true.mp h2.2 r h4
      rw [Bool.not_eq_true', Option.some.inj hr2] at hbit
      intro j
      have ea : n_ad vs a = c := by unfold n_ad; rw [hn]; rfl
      rw [ea]
      exact hs.1 c r_zq hr_zq hbit j
    · cases h2
  · cases h
theorem tk_nm_frame {w0 w1 : va_W} {vs : List Value} {f : fc_T} {a : Nat} (hu : tk_nm f = some a) (h2 : ∀ j, w_el w1 (n_ad vs a) j = w_el w0 (n_ad vs a) j) (hf : fc_1 PQ f w0 vs) : f.1 < 100 ∧ fc_1 PQ f w1 vs := by
  obtain ⟨h0, hf⟩ := hf
  unfold tk_nm at hu
  split at hu
  · rename_i b n t lo hi d
    split at hu
    · rename_i ht
      cases hu
      subst ht
      refine ⟨by show (20 : Nat) < 100; decide, h0, ?_⟩
      have hf_zq : ∀ j : Nat, (j : Int) < v_iv (n_v vs n) + d → lo ≤ w_el w0 (v_ad (n_v vs a)) j ∧ w_el w0 (v_ad (n_v vs a)) j ≤ hi := hf
      show ∀ j : Nat, (j : Int) < v_iv (n_v vs n) + d → lo ≤ w_el w1 (v_ad (n_v vs a)) j ∧ w_el w1 (v_ad (n_v vs a)) j ≤ hi
      intro j hj
      have e : w_el w1 (v_ad (n_v vs a)) j = w_el w0 (v_ad (n_v vs a)) j := h2 j
      rw [e]; exact hf_zq j hj
    · cases hu
  · cases hu
/-- a fact about arrays that have names -/
def tk_na (f : fc_T) : Option (List Nat) := match f with
  | (20, ns, t :: na :: _ :: _) => if t = 61 then some (ns.take na.toNat) else none
  | _ => none
theorem tk_na_frame {w0 w1 : va_W} {vs : List Value} {f : fc_T} {l : List Nat} (hu : tk_na f = some l) (h2 : ∀ a ∈ l, ∀ j, w_el w1 (n_ad vs a) j = w_el w0 (n_ad vs a) j) (hf : fc_1 PQ f w0 vs) : f.1 < 100 ∧ fc_1 PQ f w1 vs := by
  obtain ⟨h0, hf⟩ := hf
  unfold tk_na at hu
  split at hu
  · rename_i ns t na k r
    split at hu
    · rename_i ht
      cases hu
      subst ht
      refine ⟨by show (20 : Nat) < 100; decide, h0, ?_⟩
      have e : (fun (i : Nat) (_ : Nat) (z : Int) => match (ns.map (n_v vs))[i]? with | some x => if i < na.toNat then w_ei w1 (v_ad x) z else 0 | none => 0) = (fun (i : Nat) (_ : Nat) (z : Int) => match (ns.map (n_v vs))[i]? with | some x => if i < na.toNat then w_ei w0 (v_ad x) z else 0 | none => 0) := by
        funext i _ z
        rw [List.getElem?_map]
        cases hi : ns[i]? with
        | none => rfl
        | some a =>
          show (if i < na.toNat then w_ei w1 (v_ad (n_v vs a)) z else 0) = (if i < na.toNat then w_ei w0 (v_ad (n_v vs a)) z else 0)
          by_cases hna : i < na.toNat
          · rw [if_pos hna, if_pos hna]
            exact h2 a (List.mem_iff_getElem?.mpr ⟨i, by rw [List.getElem?_take, if_pos hna]; exact hi⟩) z.toNat
          · rw [if_neg hna, if_neg hna]
      have hf_zq : PQ.1 k.toNat (fun _ _ => 0) (fun (i : Nat) (_ : Nat) (z : Int) => match (ns.map (n_v vs))[i]? with | some x => if i < na.toNat then w_ei w0 (v_ad x) z else 0 | none => 0) ((ns.map (n_v vs)).map v_iv) := hf
      show PQ.1 k.toNat (fun _ _ => 0) (fun (i : Nat) (_ : Nat) (z : Int) => match (ns.map (n_v vs))[i]? with | some x => if i < na.toNat then w_ei w1 (v_ad x) z else 0 | none => 0) ((ns.map (n_v vs)).map v_iv)
      rw [e]; exact hf_zq
    · cases hu
  · cases hu
/-- the facts before the newest change of the world -/
def fc_top : List fc_T → Option (fc_T × List fc_T)
  | [] => none
  | f :: r => if f.1 < 100 then fc_top r else some (f, fc_now r)
/-- a field of the objects in an array of references stays -/
def tk_rk (G : List rg_T) (y : sy_T) (s : fc_T) (q : Nat × Nat × Nat) : Bool := match s with
  | (100, [_, _, _], _) => true
  | (103, [_], _) => true
  | (101, [_, _], [k]) => decide (k.toNat ≠ q.2.2 % 1000)
  | (102, [n0], m :: ks) => decide (q.1 ≤ n0) && tk_all G y (q.1, q.2.1) (fun w => decide (w.2.1 = 2) && w.2.2.2.2.all (fun ra => !(m.toNat.testBit ra) && (match G[ra]? with
    | some g => decide (4 ≤ g.1) && decide (g.1 < 8) && decide (q.2.2 / 1000 ≤ g.2.1) && decide (g.2.2.2.1.1 = 2) && g.2.2.2.1.2.2.2.all (fun r2 => match G[r2]? with
      | some g2 => decide (10 ≤ g2.1) && !(ks.contains ((1000 * r2 + q.2.2 % 1000 : Nat) : Int))
      | none => false)
    | none => false)))
  | _ => false
theorem tk_rk_ok {y : sy_T} {vs : List Value} {s : fc_T} {q : Nat × Nat × Nat} {ta0 : Nat → Option Nat} {w0 : va_W} (hD : va_D A ws) (hth : th_ok kA G ta ws) (hy : sy_env ta y.1 vs) (hle : ta_le ta0 ta) (hs : fc_s s ta0 w0 ws vs) (hak : w_ar ws (n_v vs q.1) q.2.1 = w_ar w0 (n_v vs q.1) q.2.1 ∧ ∀ j, w_el ws (w_ar w0 (n_v vs q.1) q.2.1) j = w_el w0 (w_ar w0 (n_v vs q.1) q.2.1) j) (hfk : w_fd ws (n_ad vs q.1) q.2.1 = w_fd w0 (n_ad vs q.1) q.2.1) (h : tk_rk G y s q = true) : ∀ z : Int, 0 ≤ z → z < ((q.2.2 / 1000 : Nat) : Int) → w_fd ws (w_ei w0 (w_ar w0 (n_v vs q.1) q.2.1) z).toNat (q.2.2 % 1000) = w_fd w0 (w_ei w0 (w_ar w0 (n_v vs q.1) q.2.1) z).toNat (q.2.2 % 1000) := by
  intro z hz0 hz1
  obtain ⟨_, hs⟩ := hs
  unfold tk_rk at h
  split at h
  · exact hs.2 _ _
  · exact hs.2 _ _
  · rename_i k
    rw [decide_eq_true_eq] at h
    rw [hs.2, if_neg (fun e => h e.2.symm)]
  · rename_i n0 m ks _
    rw [Bool.and_eq_true, decide_eq_true_eq] at h
    obtain ⟨a, ci, t, fs, h1, h2, h3, h4⟩ := tk_all_ok hD hth hy h.2
    have ea : n_ad vs q.1 = a := by unfold n_ad; rw [h1]; rfl
    rw [Bool.and_eq_true, decide_eq_true_eq] at h2
    obtain ⟨b, rb, eb, hb1, hb2⟩ := tv_ref h4 h2.1
    have h5 := List.all_eq_true.mp h2.2 rb hb2
    rw [Bool.and_eq_true, Bool.not_eq_true'] at h5
    obtain ⟨hm, h6⟩ := h5
    cases hg : G[rb]? with
    | none => rw [hg] at h6; cases h6
    | some g =>
      rw [hg] at h6
      simp only [Bool.and_eq_true, decide_eq_true_eq] at h6
      obtain ⟨⟨⟨⟨k1, k2⟩, k3⟩, k4⟩, k5⟩ := h6
      have eb0 : w_fd w0 a q.2.1 = .ref b := by rw [← ea, ← hfk, ea]; exact eb
      have ta0a : (ta0 a).isSome = true := hs.2.2.1 n0 List.mem_cons_self q.1 h.1 a h1
      have ta0b : (ta0 b).isSome = true := hs.2.2.2.2.1 a q.2.1 b ta0a eb0
      obtain ⟨rb0, hrb0⟩ := Option.isSome_iff_exists.mp ta0b
      have er : rb0 = rb := by have := hle b rb0 hrb0; rw [hb1] at this; exact (Option.some.inj this).symm
      subst er
      have ear : w_ar w0 (n_v vs q.1) q.2.1 = b := by rw [← hak.1]; show v_ad (w_fd ws (n_ad vs q.1) q.2.1) = b; rw [ea, eb]; rfl
      obtain ⟨e, q2, hr⟩ := th_in hth hb1 hg
      rcases hr with ⟨z_zq, _⟩ | ⟨z_zq, _⟩ | ⟨_, _, n, f, rfl, l1, l2, hf⟩ | ⟨z_zq, _⟩
      · omega
      · omega
      · have hj : z.toNat < n := by omega
        obtain ⟨c_zq, r2, ec, hc1, hc2⟩ := tv_ref (hf z.toNat hj) k4
        have hfc : f z.toNat = some c_zq := by
          cases hv : f z.toNat with
          | none => rw [hv] at ec; cases ec
          | some d => rw [hv] at ec; have : Value.ref d = Value.ref c_zq := ec; cases this; rfl
        have hwb := w_at_mem hD q2
        have eel : w_ei w0 (w_ar w0 (n_v vs q.1) q.2.1) z = ((c_zq : Nat) : Int) := by
          unfold w_ei
          rw [← hak.2, ear]
          unfold w_el
          rw [hwb]
          simp only [hfc]
        rw [eel, Int.toNat_natCast]
        have k6 := List.all_eq_true.mp k5 r2 hc2
        cases hg2 : G[r2]? with
        | none => rw [hg2] at k6; cases k6
        | some g2 =>
          rw [hg2] at k6
          simp only [Bool.and_eq_true, decide_eq_true_eq, Bool.not_eq_true'] at k6
          obtain ⟨e2, p2, hr2⟩ := th_in hth hc1 hg2
          rcases hr2 with ⟨z_zq, _⟩ | ⟨z_zq, _⟩ | ⟨_, z_zq, _⟩ | ⟨_, fs2, rfl, _, _⟩
          · omega
          · omega
          · omega
          · refine hs.2.2.2.1 c_zq r2 (q.2.2 % 1000) (ta_old hle hc1 (hs.2.2.2.2.2 b rb0 z.toNat c_zq hrb0 hm ⟨_, n, f, hwb, hj, hfc⟩)) (fun hc => ?_)
            have := List.contains_iff_mem.mpr hc
            rw [k6.2] at this
            cases this
      · omega
  · cases h
/-! a predicate of the whole world stays where a step leaves what it sees -/
def tk_w (f : fc_T) : Option Nat := match f with
  | (20, n :: _, t :: _ :: _) => if t = 62 then some n else none
  | _ => none
/-- what the objects at the places of an array of references are -/
def tk_path (G : List rg_T) (y : sy_T) (n f len : Nat) (P : Nat → rg_T → Bool) : Bool := tk_all G y (n, f) (fun w => decide (w.2.1 = 2) && w.2.2.2.2.all (fun ra => match G[ra]? with
  | some g => decide (4 ≤ g.1) && decide (g.1 < 8) && decide (len ≤ g.2.1) && decide (g.2.2.2.1.1 = 2) && g.2.2.2.1.2.2.2.all (fun r2 => match G[r2]? with | some g2 => decide (10 ≤ g2.1) && P r2 g2 | none => false)
  | none => false))
theorem tk_path_ok {y : sy_T} {vs : List Value} {n f len : Nat} {P : Nat → rg_T → Bool} (hD : va_D A ws) (hth : th_ok kA G ta ws) (hy : sy_env ta y.1 vs) (h : tk_path G y n f len P = true) : ∃ a b rb, n_v vs n = .ref a ∧ w_fd ws a f = .ref b ∧ ta b = some rb ∧ ∀ j, j < len → ∃ (c r2 : Nat) (g2 : rg_T), w_el ws b j = ((c : Nat) : Int) ∧ ta c = some r2 ∧ G[r2]? = some g2 ∧ 10 ≤ g2.1 ∧ P r2 g2 = true ∧ ∃ cl n_zq fn, w_at ws b = some (.inl (cl, n_zq, .inr (.inr (.inr (.inr fn))))) ∧ j < n_zq ∧ fn j = some c := by
  obtain ⟨a, ci, t, fs, h1, h2, h3, h4⟩ := tk_all_ok hD hth hy h
  rw [Bool.and_eq_true, decide_eq_true_eq] at h2
  obtain ⟨b, rb, eb, hb1, hb2⟩ := tv_ref h4 h2.1
  have h6 := List.all_eq_true.mp h2.2 rb hb2
  cases hg : G[rb]? with
  | none => rw [hg] at h6; cases h6
  | some g =>
    rw [hg] at h6
    simp only [Bool.and_eq_true, decide_eq_true_eq] at h6
    obtain ⟨⟨⟨⟨k1, k2⟩, k3⟩, k4⟩, k5⟩ := h6
    refine ⟨a, b, rb, h1, eb, hb1, fun j hj => ?_⟩
    obtain ⟨e, q2, hr⟩ := th_in hth hb1 hg
    rcases hr with ⟨z_zq, _⟩ | ⟨z_zq, _⟩ | ⟨_, _, n_zq, fn, rfl, l1, l2, hf⟩ | ⟨z_zq, _⟩
    · omega
    · omega
    · have hj_zq : j < n_zq := by omega
      obtain ⟨c_zq, r2, ec, hc1, hc2⟩ := tv_ref (hf j hj_zq) k4
      have hfc : fn j = some c_zq := by
        cases hv : fn j with
        | none => rw [hv] at ec; cases ec
        | some d => rw [hv] at ec; have : Value.ref d = Value.ref c_zq := ec; cases this; rfl
      have hwb := w_at_mem hD q2
      have k6 := List.all_eq_true.mp k5 r2 hc2
      cases hg2 : G[r2]? with
      | none => rw [hg2] at k6; cases k6
      | some g2 =>
        rw [hg2] at k6
        simp only [Bool.and_eq_true, decide_eq_true_eq] at k6
        refine ⟨c_zq, r2, g2, ?_, hc1, hg2, k6.1, k6.2, _, n_zq, fn, hwb, hj_zq, hfc⟩
        unfold w_el
        rw [hwb]
        simp only [hfc]
    · omega
/-- a field of the objects of a region stays -/
def st_f (y : sy_T) (s : fc_T) (n k r2 : Nat) (g2 : rg_T) : Bool := match s with
  | (100, [_, _, _], _) => true
  | (103, [_], _) => true
  | (101, [o, _], [k_zq]) => decide (k_zq.toNat ≠ k) || (match y.1[o]? with | some t => decide (t.1 = 2) && !(t.2.2.2.contains r2) | none => false)
  | (102, [n0], _ :: ks) => decide (n ≤ n0) && !(ks.contains ((1000 * r2 + k : Nat) : Int))
  | _ => false
/-- the arrays in a field of the objects of a region stay -/
def st_a (y : sy_T) (s : fc_T) (k : Nat) (g2 : rg_T) : Bool := match g2.2.2.2.2[k]? with
  | some t2 => (decide (t2.1 = 2) || decide (t2.1 = 3)) && t2.2.2.2.all (fun rk => match s with
    | (100, [a, _, _], _) => (match y.1[a]? with | some t => decide (t.1 = 2) && !(t.2.2.2.contains rk) | none => false)
    | (103, [a], _) => (match y.1[a]? with | some t => decide (t.1 = 2) && !(t.2.2.2.contains rk) | none => false)
    | (101, [_, _], [_]) => true
    | (102, [_], m :: _) => !(m.toNat.testBit rk)
    | _ => false)
  | none => false
def tk_wk (F : fp_T) (G : List rg_T) (y : sy_T) (s : fc_T) (n : Nat) : Bool := F.all (fun q => tk_ak G y s (n, q.1) && tk_path G y n q.1 q.2.1 (fun r2 g2 => q.2.2.1.all (fun k => st_f y s n k r2 g2) && q.2.2.2.all (fun k => st_f y s n k r2 g2 && st_a y s k g2)))
theorem st_f_ok {y : sy_T} {vs : List Value} {s : fc_T} {ta0 : Nat → Option Nat} {w0 : va_W} {n k r2 c : Nat} {g2 : rg_T} (hD : va_D A ws) (hth : th_ok kA G ta ws) (hy : sy_env ta y.1 vs) (hle : ta_le ta0 ta) (hs : fc_s s ta0 w0 ws vs) (h : st_f y s n k r2 g2 = true) (hc : ta c = some r2) (hg : G[r2]? = some g2) (h10 : 10 ≤ g2.1) (hc0 : ∀ m ks n0, s = (102, [n0], m :: ks) → (ta0 c).isSome = true) : w_fd ws c k = w_fd w0 c k := by
  obtain ⟨_, hs⟩ := hs
  unfold st_f at h
  split at h
  · exact hs.2 _ _
  · exact hs.2 _ _
  · rename_i o v k_zq
    rw [hs.2]
    split
    · rename_i e
      rw [Bool.or_eq_true, decide_eq_true_eq] at h
      rcases h with h | h
      · exact absurd e.2.symm h
      · split at h
        · rename_i t ht
          exact absurd e.1 (nm_ne hy ht h hc)
        · cases h
    · rfl
  · rename_i n0 m ks
    rw [Bool.and_eq_true, Bool.not_eq_true'] at h
    obtain ⟨e2, p2, hr2⟩ := th_in hth hc hg
    rcases hr2 with ⟨z_zq, _⟩ | ⟨z_zq, _⟩ | ⟨_, z_zq, _⟩ | ⟨_, fs2, rfl, _, _⟩
    · omega
    · omega
    · omega
    · refine hs.2.2.2.1 c r2 k (ta_old hle hc (hc0 _ _ _ rfl)) (fun hq => ?_)
      have := List.contains_iff_mem.mpr hq
      rw [h.2] at this
      cases this
  · cases h
theorem st_a_ok {y : sy_T} {vs : List Value} {s : fc_T} {ta0 : Nat → Option Nat} {w0 : va_W} {k r2 c d : Nat} {g2 : rg_T} (hD : va_D A ws) (hth : th_ok kA G ta ws) (hy : sy_env ta y.1 vs) (hle : ta_le ta0 ta) (hs : fc_s s ta0 w0 ws vs) (h : st_a y s k g2 = true) (hc : ta c = some r2) (hg : G[r2]? = some g2) (h10 : 10 ≤ g2.1) (hc0 : ∀ m ks n0, s = (102, [n0], m :: ks) → (ta0 c).isSome = true) (hd : w_fd ws c k = .ref d) (hd0 : w_fd w0 c k = .ref d) : ∀ i, w_el ws d i = w_el w0 d i := by
  unfold st_a at h
  split at h
  · rename_i t2 ht2
    rw [Bool.and_eq_true] at h
    have htv := (fd_at hD hth hc hg ht2 h10).1
    rw [hd] at htv
    have hreg : ∃ rk, ta d = some rk ∧ rk ∈ t2.2.2.2 := by
      rcases htv with ⟨_, x, e, _⟩ | ⟨_, x, e, _⟩ | ⟨_, a_zq, r, e, q1, q2⟩ | ⟨_, e | ⟨a_zq, r, e, q1, q2⟩⟩ | ⟨_, x, e, _⟩ | ⟨_, x, e, _⟩
      · cases e
      · cases e
      · cases e; exact ⟨r, q1, q2⟩
      · cases e
      · cases e; exact ⟨r, q1, q2⟩
      · cases e
      · cases e
    obtain ⟨rk, hrk, hmem⟩ := hreg
    have h2 := List.all_eq_true.mp h.2 rk hmem
    obtain ⟨_, hs⟩ := hs
    split at h2
    · rename_i a i v x
      split at h2
      · rename_i t ht
        have hne := nm_ne hy ht h2 hrk
        intro j
        rw [hs.1, if_neg (fun e => hne e.1)]
      · cases h2
    · rename_i a x
      split at h2
      · rename_i t ht
        have hne := nm_ne hy ht h2 hrk
        intro j
        exact hs.1 _ j hne
      · cases h2
    · intro j; exact hs.1 _ _
    · rename_i n0 m ks
      rw [Bool.not_eq_true'] at h2
      have o1 := hc0 _ _ _ rfl
      have o2 := hs.2.2.2.2.1 c k d o1 hd0
      obtain ⟨rk0, hrk0⟩ := Option.isSome_iff_exists.mp o2
      have er : rk0 = rk := by have := hle d rk0 hrk0; rw [hrk] at this; exact (Option.some.inj this).symm
      subst er
      exact hs.1 d rk0 hrk0 h2
    · cases h2
  · cases h
theorem tk_wk_ok {F : fp_T} {y : sy_T} {vs : List Value} {s : fc_T} {n : Nat} {ta0 : Nat → Option Nat} {w0 : va_W} (hD : va_D A ws) (hth : th_ok kA G ta ws) (hy : sy_env ta y.1 vs) (hle : ta_le ta0 ta) (hs : fc_s s ta0 w0 ws vs) (h : tk_wk F G y s n = true) : fp_eq F (n_v vs n) w0 ws := by
  intro q hq
  have h1 := List.all_eq_true.mp h q hq
  rw [Bool.and_eq_true] at h1
  have hk := tk_ak_ok (q := (n, q.1)) hD hth hy hle hs h1.1
  have hf : w_fd ws (n_ad vs n) q.1 = w_fd w0 (n_ad vs n) q.1 := by
    have h5 := h1.1
    unfold tk_ak at h5
    rw [Bool.and_eq_true] at h5
    exact tk_fk_ok (q := (n, q.1)) hD hth hy hle hs h5.1
  refine ⟨hf, fun j _ => hk.2 j, fun j hj => ?_⟩
  obtain ⟨a, b, rb, e1, e2, e3, e4⟩ := tk_path_ok hD hth hy h1.2
  obtain ⟨c, r2, g2, p1, p2, p3, p4, p5, cl, n_zq, fn, p6, p7, p8⟩ := e4 j hj
  have ea : n_ad vs n = a := by unfold n_ad; rw [e1]; rfl
  have ear : w_ar w0 (n_v vs n) q.1 = b := by rw [← hk.1]; show v_ad (w_fd ws (n_ad vs n) q.1) = b; rw [ea, e2]; rfl
  have eel : w_el w0 (w_ar w0 (n_v vs n) q.1) j = ((c : Nat) : Int) := by rw [← hk.2 j, ear]; exact p1
  rw [eel, Int.toNat_natCast]
  rw [Bool.and_eq_true] at p5
  have hc0 : ∀ m ks n0, s = (102, [n0], m :: ks) → (ta0 c).isSome = true := fun m ks n0 es => by
    subst es
    have h5 := h1.1
    unfold tk_ak at h5
    rw [Bool.and_eq_true] at h5
    have h6 := h5.1
    unfold tk_fk at h6
    simp only [Bool.and_eq_true, decide_eq_true_eq] at h6
    have h7 := h5.2
    simp only at h7
    obtain ⟨_, hs⟩ := hs
    obtain ⟨b_zq, ci, w, fs, z1, z2, z3, z4⟩ := tk_all_ok hD hth hy h7
    rw [Bool.and_eq_true, decide_eq_true_eq] at z2
    have ta0a : (ta0 a).isSome = true := hs.2.2.1 n0 List.mem_cons_self n h6.1 a e1
    have ta0b : (ta0 b).isSome = true := hs.2.2.2.2.1 a q.1 b ta0a (by rw [← ea, ← hf, ea]; exact e2)
    obtain ⟨rb0, hrb0⟩ := Option.isSome_iff_exists.mp ta0b
    have er : rb0 = rb := by have := hle b rb0 hrb0; rw [e3] at this; exact (Option.some.inj this).symm
    subst er
    have hm : m.toNat.testBit rb0 = false := by
      have eb_zq : b_zq = a := by rw [e1] at z1; cases z1; rfl
      subst eb_zq
      obtain ⟨c1, r1, y1, y2, y3⟩ := tv_ref z4 z2.1
      have : c1 = b := by rw [show w_fd ws b_zq (n, q.1).2 = w_fd ws b_zq q.1 from rfl, e2] at y1; cases y1; rfl
      subst this
      have er1 : r1 = rb0 := by rw [e3] at y2; exact (Option.some.inj y2).symm
      subst er1
      have := List.all_eq_true.mp z2.2 r1 y3
      rw [Bool.not_eq_true'] at this
      exact this
    exact hs.2.2.2.2.2 b rb0 j c hrb0 hm ⟨cl, n_zq, fn, p6, p7, p8⟩
  refine ⟨fun k hk2 => ?_, fun k hk2 d hd i => ?_⟩
  · exact st_f_ok hD hth hy hle hs (List.all_eq_true.mp p5.1 k hk2) p2 p3 p4 hc0
  · have h8 := List.all_eq_true.mp p5.2 k hk2
    rw [Bool.and_eq_true] at h8
    have e9 := st_f_ok hD hth hy hle hs h8.1 p2 p3 p4 hc0
    exact st_a_ok hD hth hy hle hs h8.2 p2 p3 p4 hc0 (by rw [e9]; exact hd) hd i
/-- the house's layers stay -/
def tk_wl (G : List rg_T) (y : sy_T) (s : fc_T) (n : Nat) : Bool := tk_fk G y s (n, 17) && tk_all G y (n, 17) (fun w => (decide (w.2.1 = 2) || decide (w.2.1 = 3)) && w.2.2.2.2.all (fun r2 => match G[r2]? with | some g2 => decide (10 ≤ g2.1) && st_f y s n 17 r2 g2 && st_a y s 17 g2 | none => false))
theorem tk_wl_ok {y : sy_T} {vs : List Value} {s : fc_T} {n : Nat} {ta0 : Nat → Option Nat} {w0 : va_W} (hD : va_D A ws) (hth : th_ok kA G ta ws) (hy : sy_env ta y.1 vs) (hle : ta_le ta0 ta) (hs : fc_s s ta0 w0 ws vs) (h : tk_wl G y s n = true) : fl_eq (n_v vs n) w0 ws := by
  unfold tk_wl at h
  rw [Bool.and_eq_true] at h
  have hf := tk_fk_ok (q := (n, 17)) hD hth hy hle hs h.1
  obtain ⟨a, ci, t, fs, h1, h2, h3, h4⟩ := tk_all_ok hD hth hy h.2
  have ea : n_ad vs n = a := by unfold n_ad; rw [h1]; rfl
  refine ⟨hf, fun o ho => ?_⟩
  have ho0 : w_fd w0 a 17 = .ref o := by rw [← ea]; exact ho
  have ho1 : w_fd ws a 17 = .ref o := by rw [← ea]; exact hf.trans ho
  have h2 : ((decide (t.1 = 2) || decide (t.1 = 3)) && t.2.2.2.all (fun r2 => match G[r2]? with | some g2 => decide (10 ≤ g2.1) && st_f y s n 17 r2 g2 && st_a y s 17 g2 | none => false)) = true := h2
  rw [Bool.and_eq_true, Bool.or_eq_true, decide_eq_true_eq, decide_eq_true_eq] at h2
  have h4 : tv_ok ta t (w_fd ws a 17) := h4
  rw [ho1] at h4
  have hto : ∃ r2, ta o = some r2 ∧ r2 ∈ t.2.2.2 := by
    rcases h4 with ⟨z, _⟩ | ⟨z, _⟩ | ⟨_, b, r, e, z1, z2⟩ | ⟨_, e | ⟨b, r, e, z1, z2⟩⟩ | ⟨z, _⟩ | ⟨z, _⟩
    · omega
    · omega
    · cases e; exact ⟨r, z1, z2⟩
    · cases e
    · cases e; exact ⟨r, z1, z2⟩
    · omega
    · omega
  obtain ⟨r2, q1, q2⟩ := hto
  have q3 := List.all_eq_true.mp h2.2 r2 q2
  cases hg : G[r2]? with
  | none => rw [hg] at q3; cases q3
  | some g2 =>
    rw [hg] at q3
    simp only [Bool.and_eq_true, decide_eq_true_eq] at q3
    have hc0 : ∀ m ks n0, s = (102, [n0], m :: ks) → (ta0 o).isSome = true := fun m ks n0 es => by
      subst es
      have h6 := h.1
      unfold tk_fk at h6
      simp only [Bool.and_eq_true, decide_eq_true_eq] at h6
      obtain ⟨_, hs⟩ := hs
      exact hs.2.2.2.2.1 a 17 o (hs.2.2.1 n0 List.mem_cons_self n h6.1 a h1) ho0
    have e9 := st_f_ok hD hth hy hle hs q3.1.2 q1 hg q3.1.1 hc0
    exact ⟨e9, fun d hd i => st_a_ok hD hth hy hle hs q3.2 q1 hg q3.1.1 hc0 (by rw [e9]; exact hd) hd i⟩
def tk_wc (f : fc_T) : Nat := match f with
  | (20, _ :: _, _ :: k :: _) => k.toNat
  | _ => 0
theorem tk_w_frame {w0 w1 : va_W} {vs : List Value} {f : fc_T} {n : Nat} (hu : tk_w f = some n) (h : fq_eq (tk_wc f) (n_v vs n) w0 w1) (hf : fc_1 PQ f w0 vs) : f.1 < 100 ∧ fc_1 PQ f w1 vs := by
  obtain ⟨h0, hf⟩ := hf
  unfold tk_w at hu
  split at hu
  · rename_i m ns t k r
    split at hu
    · rename_i ht
      cases hu
      subst ht
      refine ⟨by show (20 : Nat) < 100; decide, h0, ?_⟩
      have hf_zq : PQ.2.1 k.toNat (n_v vs n :: ns.map (n_v vs)) w0 := hf
      show PQ.2.1 k.toNat (n_v vs n :: ns.map (n_v vs)) w1
      exact PQ.2.2 _ _ _ _ _ h hf_zq
    · cases hu
  · cases hu
def fc_carry (G : List rg_T) (y : sy_T) (fs : List fc_T) : List fc_T := match fc_top fs with
  | some (s, L) => L.filter (fun f => (match tk_use f with | some u => u.1.all (tk_fk G y s) && u.2.all (tk_ak G y s) && (tk_rs f).all (fun q => tk_ak G y s (q.1, q.2.1) && tk_rk G y s q) | none => (match tk_nm f with | some a => tk_nk y s a | none => (match tk_na f with | some l => l.all (tk_nk y s) | none => (match tk_w f with | some n => (match Nat.blt (tk_wc f) 1000000 with | true => tk_wk fpH G y s n | false => (match Nat.blt (tk_wc f) 2000000 with | true => tk_wl G y s n | false => tk_wk fpD G y s n)) | none => false)))) && !((fc_now fs).contains f))
  | none => []
theorem fc_top_ok : ∀ {fs : List fc_T} {ta : Nat → Option Nat} {ws : va_W} {vs : List Value} {s : fc_T} {L : List fc_T}, fc_ok PQ fs ta ws vs → fc_top fs = some (s, L) → ∃ ta0 w0, ta_le ta0 ta ∧ fc_s s ta0 w0 ws vs ∧ ∀ f ∈ L, fc_1 PQ f w0 vs
  | [], _, _, _, _, _, _, h => by cases h
  | g :: r, ta, ws, vs, s, L, hf, h => by
    unfold fc_ok at hf
    unfold fc_top at h
    split at hf
    · rename_i hq
      rw [if_pos hq] at h
      exact fc_top_ok hf.2 h
    · rename_i hq
      rw [if_neg hq] at h
      obtain ⟨ta0, w0, a, b, d⟩ := hf
      have e := Option.some.inj h
      have e1 : g = s := by injection e
      have e2 : fc_now r = L := by injection e
      subst e1; subst e2
      exact ⟨ta0, w0, a, b, fun f hf2 => (fc_now_ok d f hf2).2⟩
theorem fc_carry_ok {y : sy_T} {vs : List Value} {fs : List fc_T} (hD : va_D A ws) (hth : th_ok kA G ta ws) (hy : sy_env ta y.1 vs) (hf : fc_ok PQ fs ta ws vs) : fc_ok PQ (fc_carry G y fs ++ fs) ta ws vs := by
  refine fc_app hf (fun f hf2 => ?_)
  unfold fc_carry at hf2
  split at hf2
  · rename_i s L hs
    obtain ⟨h1, h2⟩ := List.mem_filter.mp hf2
    obtain ⟨ta0, w0, a, b, d⟩ := fc_top_ok hf hs
    rw [Bool.and_eq_true] at h2
    have h3 := h2.1
    split at h3
    · rename_i u hu
      rw [Bool.and_eq_true, Bool.and_eq_true] at h3
      exact tk_frame hu (fun q hq => tk_fk_ok hD hth hy a b (List.all_eq_true.mp h3.1.1 q hq)) (fun q hq => tk_ak_ok hD hth hy a b (List.all_eq_true.mp h3.1.2 q hq)) (fun q hq => by
        have h4 := List.all_eq_true.mp h3.2 q hq
        rw [Bool.and_eq_true] at h4
        have h5 := h4.1
        unfold tk_ak at h5
        rw [Bool.and_eq_true] at h5
        exact tk_rk_ok hD hth hy a b (tk_ak_ok (q := (q.1, q.2.1)) hD hth hy a b h4.1) (tk_fk_ok (q := (q.1, q.2.1)) hD hth hy a b h5.1) h4.2) (d f h1)
    · split at h3
      · rename_i x hx
        exact tk_nm_frame hx (tk_nk_ok hy a b h3) (d f h1)
      · split at h3
        · rename_i l hl
          exact tk_na_frame hl (fun q hq => tk_nk_ok hy a b (List.all_eq_true.mp h3 q hq)) (d f h1)
        · split at h3
          · rename_i n hn
            refine tk_w_frame hn ?_ (d f h1)
            unfold fq_eq
            cases hb : Nat.blt (tk_wc f) 1000000 with
            | true => rw [hb] at h3; exact tk_wk_ok hD hth hy a b h3
            | false =>
              rw [hb] at h3
              show (match Nat.blt (tk_wc f) 2000000 with
                | true => fl_eq (n_v vs n) w0 ws
                | false => fp_eq fpD (n_v vs n) w0 ws)
              cases hb2 : Nat.blt (tk_wc f) 2000000 with
              | true => rw [hb2] at h3; exact tk_wl_ok hD hth hy a b h3
              | false => rw [hb2] at h3; exact tk_wk_ok hD hth hy a b h3
          · cases h3
  · cases hf2
end M14b
end
section
variable {PQ : pq_T}
/-! the check of a method -/
def rf_ok (ft : FieldType) (t : tv_T) : Bool := match ft with
  | .int => true
  | .boolean => decide (0 ≤ t.2.1) && decide (t.2.2.1 ≤ 1)
  | .byte => decide (-128 ≤ t.2.1) && decide (t.2.2.1 ≤ 127)
  | .char => decide (0 ≤ t.2.1) && decide (t.2.2.1 ≤ 65535)
  | _ => false
def isRefT (ft : FieldType) : Bool := match ft with
  | .object _ => true
  | .array _ => true
  | _ => false
def ck_one (rt : Option FieldType) (w : Option tv_T) (y : sy_T) (f : FieldType → tv_T → tv_T → Bool) : Bool := match rt, w, y.2.2.1 with
  | some ft, some w, [n] => (match y.1[n]? with | some t => f ft t w && nm_le y n w | none => false)
  | _, _, _ => false
/-- the picture at an end: of the first k names, of the answer and of the fields that the contract knows -/
def sl_ix (k : Nat) (sel : List Nat) (i : Nat) : Option Nat := if i < k then some i else (sel.findIdx? (fun j => j == i)).map (fun a => k + a)
def sl_of (k : Nat) (sel : List Nat) (q : of_T) : Option of_T := match sl_ix k sel q.1, sl_ix k sel q.2.1 with
  | some a, some b => some (a, b, q.2.2.1, q.2.2.2)
  | _, _ => none
def sl_dv (k : Nat) (sel : List Nat) (q : Nat × Nat) : Option (Nat × Nat) := (sl_ix k sel q.1).map (fun a => (a, q.2))
def sl_mm (k : Nat) (sel : List Nat) (y : sy_T) (q : (Nat × Nat) × tv_T) : Option ((Nat × Nat) × Nat) := if q.1.1 < k then (sy_mfind y q.1.1 q.1.2).bind (fun n => (sl_ix k sel n).map (fun a => (q.1, a))) else none
def sl_add (k : Nat) (sel : List Nat) (n : Option Nat) : List Nat := match n with
  | some n => if n < k || sel.contains n then sel else sel ++ [n]
  | none => sel
def sl_sel (k : Nat) (y : sy_T) (GA : ga_L) : List Nat := GA.foldl (fun sel q => sl_add k sel (sy_mfind y q.1.1 q.1.2)) (sl_add k [] y.2.2.1.head?)
def sl_st (k : Nat) (sel : List Nat) : List Nat → Option (List Nat)
  | [] => some []
  | n :: r => match sl_ix k sel n, sl_st k sel r with
    | some a, some l => some (a :: l)
    | _, _ => none
def sl_y (k : Nat) (GA : ga_L) (y : sy_T) : Option sy_T :=
  let sel := sl_sel k y GA
  if sel.all (fun i => decide (i < y.1.length)) then (sl_st k sel y.2.2.1).map (fun st => (y.1.take k ++ sel.map (fun i => y.1.getD i iv_top), [], st, GA.filterMap (sl_mm k sel y), y.2.2.2.2.1.filterMap (sl_of k sel), y.2.2.2.2.2.filterMap (sl_dv k sel))) else none
def en_nb (en : en_T) : Nat := en.1.length + en.2.2.2.2.2.2.2.1.length + en.2.2.2.2.2.2.2.2.2.2.2.2.length
def pa_in (en : en_T) (y : sy_T) : Bool := en.2.2.2.2.2.2.1.isEmpty || (match sl_y (en_nb en) en.2.2.2.2.2.2.2.1 y with | some P => en.2.2.2.2.2.2.1.contains P | none => false)
theorem sl_st_ok {k : Nat} {sel : List Nat} {vs vl : List Value} (hf : ∀ i a w, sl_ix k sel i = some a → vs[i]? = some w → vl[a]? = some w) : ∀ {r l : List Nat} {st : List Value}, sl_st k sel r = some l → sy_st vs r st → sy_st vl l st
  | [], l, [], h, _ => by rw [← Option.some.inj h]; trivial
  | n :: r, l, v :: st, h, hs => by
    unfold sl_st at h
    split at h
    · rename_i a l0 ha hl
      rw [← Option.some.inj h]
      exact ⟨hf _ _ _ ha hs.1, sl_st_ok hf hl hs.2⟩
    · cases h
  | [], _, _ :: _, _, hs => hs.elim
  | _ :: _, _, [], _, hs => hs.elim
theorem pa_in_ok {ta : Nat → Option Nat} {ws : va_W} {vs bv st : List Value} {ls : Array Slot} {nL : Nat} {r : Option Value} {y : sy_T} {en : en_T} (hy : sy_ok ta ws vs ls nL st y) (hst : st = r.toList) (hp : bv <+: vs) (hl : bv.length = en_nb en) (h : pa_in en y = true) (hPO : ∀ f ∈ en.2.2.2.2.2.2.2.2.2.2.2.1, fc_1 PQ f ws (bv ++ r.toList)) : po_ok PQ ta ws bv en.2.2.2.2.2.2.1 en.2.2.2.2.2.2.2.2.2.2.2.1 r := by
  refine ⟨hPO, ?_⟩
  clear hPO
  unfold pa_in at h
  rcases Bool.or_eq_true_iff.mp h with h | h
  · exact Or.inl (List.isEmpty_iff.mp h)
  · split at h
    · rename_i P hP
      refine Or.inr ⟨P, List.contains_iff_mem.mp h, ?_⟩
      generalize en_nb en = k at hl hP
      unfold sl_y at hP
      simp only at hP
      split at hP
      · rename_i hall
        obtain ⟨st_zq, hst_zq, rfl⟩ := Option.map_eq_some_iff.mp hP
        generalize sl_sel k y en.2.2.2.2.2.2.2.1 = sel at hall hst_zq ⊢
        obtain ⟨tl, rfl⟩ := hp
        have he := hy.1
        have hlen : (bv ++ tl).length = y.1.length := he.1
        have hk : k ≤ y.1.length := by rw [List.length_append] at hlen; omega
        have hsel : ∀ i ∈ sel, i < y.1.length := fun i hi => by simpa using List.all_eq_true.mp hall i hi
        have hf : ∀ i a w, sl_ix k sel i = some a → (bv ++ tl)[i]? = some w → (bv ++ sel.map (fun i => ((bv ++ tl)[i]?).getD .null))[a]? = some w := fun i a w h1 h2 => by
          unfold sl_ix at h1
          split at h1
          · rename_i hi
            rw [← Option.some.inj h1, List.getElem?_append_left (by omega)]
            rw [List.getElem?_append_left (by omega)] at h2
            exact h2
          · obtain ⟨x, hx, rfl⟩ := Option.map_eq_some_iff.mp h1
            obtain ⟨hx1, hx2, _⟩ := List.findIdx?_eq_some_iff_getElem.mp hx
            have hx3 : sel[x] = i := by simpa using hx2
            rw [List.getElem?_append_right (by omega), show k + x - bv.length = x by omega, List.getElem?_map, List.getElem?_eq_getElem hx1, hx3, Option.map_some, h2]; rfl
        refine ⟨bv ++ sel.map (fun i => ((bv ++ tl)[i]?).getD .null), List.prefix_append _ _, ?_, fun q hq => ?_, fun q hq => ?_, fun q hq => ?_, ?_⟩
        · have h1 : sy_env ta (y.1.take k) bv := by
            refine ⟨by rw [List.length_take]; omega, fun i t v a b => ?_⟩
            have hi := (List.getElem?_eq_some_iff.mp b).1
            rw [List.getElem?_take_of_lt (by omega)] at a
            exact he.2 i t v a (by rw [List.getElem?_append_left hi]; exact b)
          refine sy_env_drop h1 ⟨by rw [List.length_map, List.length_map], fun i t v a b => ?_⟩
          rw [List.getElem?_map] at a b
          obtain ⟨j, hj, e1⟩ := Option.map_eq_some_iff.mp a
          obtain ⟨j_zq, hj_zq, e2⟩ := Option.map_eq_some_iff.mp b
          rw [hj] at hj_zq
          obtain rfl := Option.some.inj hj_zq
          have hlt := hsel j (List.mem_of_getElem? hj)
          have hlt2 : j < (bv ++ tl).length := by omega
          rw [List.getD_eq_getElem?_getD, List.getElem?_eq_getElem hlt] at e1
          rw [List.getElem?_eq_getElem hlt2] at e2
          have e1_zq : y.1[j] = t := e1
          have e2_zq : (bv ++ tl)[j] = v := e2
          rw [← e1_zq, ← e2_zq]
          exact he.2 j _ _ (List.getElem?_eq_getElem hlt) (List.getElem?_eq_getElem hlt2)
        · obtain ⟨q0, q1, q2⟩ := List.mem_filterMap.mp hq
          unfold sl_of at q2
          split at q2
          · rename_i a b ha hb
            obtain rfl := Option.some.inj q2
            obtain ⟨x, z, c1, c2, c3, c4⟩ := hy.2.2.2.2.1 q0 q1
            exact ⟨x, z, hf _ _ _ ha c1, hf _ _ _ hb c2, c3, c4⟩
          · cases q2
        · obtain ⟨q0, q1, q2⟩ := List.mem_filterMap.mp hq
          obtain ⟨a, ha, rfl⟩ := Option.map_eq_some_iff.mp q2
          obtain ⟨x, z, c1, c2⟩ := hy.2.2.2.2.2 q0 q1
          exact ⟨x, z, hf _ _ _ ha c1, c2⟩
        · obtain ⟨q0, q1, q2⟩ := List.mem_filterMap.mp hq
          unfold sl_mm at q2
          split at q2
          · rename_i hlt
            obtain ⟨n, hn, q3⟩ := Option.bind_eq_some_iff.mp q2
            obtain ⟨a, ha, rfl⟩ := Option.map_eq_some_iff.mp q3
            obtain ⟨ad, ci, fs, v, m1, m2, m3, m4⟩ := hy.2.2.2.1 _ (sy_mfind_ok hn)
            refine ⟨ad, ci, fs, v, ?_, m2, m3, hf _ _ _ ha m4⟩
            exact hf q0.1.1 q0.1.1 _ (by unfold sl_ix; rw [if_pos hlt]) m1
          · cases q2
        · rw [← hst]
          exact sl_st_ok hf hst_zq hy.2.2.1
      · cases hP
    · cases h
/-- the facts that are given at the end -/
def rt_nm (nb : Nat) (y : sy_T) (k : Nat) : Nat := if k < nb then k else y.2.2.1.headD 0
def po_in (en : en_T) (y : sy_T) (fs : List fc_T) : Bool := en.2.2.2.2.2.2.2.2.2.2.2.1.all (fun f => f.2.1.all (fun k => decide (k < en_nb en + y.2.2.1.length)) && (fc_now fs).contains (fc_map (rt_nm (en_nb en) y) f))
theorem po_in_ok {ta : Nat → Option Nat} {ws : va_W} {vs bv st : List Value} {ls : Array Slot} {nL : Nat} {r : Option Value} {y : sy_T} {en : en_T} {fs : List fc_T} (hy : sy_ok ta ws vs ls nL st y) (hf : fc_ok PQ fs ta ws vs) (hst : st = r.toList) (hp : bv <+: vs) (hl : bv.length = en_nb en) (h : po_in en y fs = true) : ∀ f ∈ en.2.2.2.2.2.2.2.2.2.2.2.1, fc_1 PQ f ws (bv ++ r.toList) := by
  intro f hf2
  have h1 := List.all_eq_true.mp h f hf2
  rw [Bool.and_eq_true] at h1
  obtain ⟨_, h3⟩ := fc_now_ok hf _ (List.contains_iff_mem.mp h1.2)
  have hs := hy.2.2.1
  have hls : y.2.2.1.length = st.length := (n_v_st hs).1
  refine fc_1_unmap (fun n hn0 _ => ?_) h3
  have hb : n < en_nb en + y.2.2.1.length := by simpa using List.all_eq_true.mp h1.1 n hn0
  refine ⟨by rw [List.length_append, ← hst]; omega, ?_⟩
  unfold rt_nm
  by_cases hn : n < en_nb en
  · rw [if_pos hn]
    have hv := List.getElem?_eq_getElem (l := bv) (i := n) (by omega)
    unfold n_v
    rw [pre_at hp hv, List.getElem?_append_left (by omega), hv]
  · rw [if_neg hn]
    cases hyy : y.2.2.1 with
    | nil => rw [hyy] at hb; exact absurd hb (by rw [List.length_nil]; omega)
    | cons q rr =>
      cases r with
      | none => rw [hyy] at hs; rw [hst] at hs; exact hs.elim
      | some v =>
        rw [hyy, hst] at hs
        have hq : vs[q]? = some v := hs.1
        have h1l : y.2.2.1.length = 1 := by rw [hls, hst]; rfl
        have en1 : n = bv.length := by omega
        show n_v vs q = n_v (bv ++ [v]) n
        unfold n_v
        rw [hq, en1, List.getElem?_append_right (Nat.le_refl _), Nat.sub_self]; rfl
def ck_ret (rt : Option FieldType) (en : en_T) (i : ClassFile.Instr) (len : Nat) (y : sy_T) (ce sl : Nat) (fs : List fc_T) : Bool := decide (len = 1) && decide (ce ≤ en.2.2.2.2.1) && decide (sl ≤ en.2.2.2.2.2.1) && pa_in en y && po_in en y fs && (match i with
  | .return_ => (match rt, en.2.1, y.2.2.1 with | none, none, [] => true | _, _, _ => false)
  | .ireturn => ck_one rt en.2.1 y (fun ft t w => decide (t.1 = 0) && (decide (w.1 = 0) || decide (w.1 = 5)) && rf_ok ft t)
  | .lreturn => ck_one rt en.2.1 y (fun ft t w => decide (t.1 = 1) && decide (w.1 = 1) && decide (ft = .long))
  | .areturn => ck_one rt en.2.1 y (fun ft t w => decide (t.1 = 2) && decide (w.1 = 2) && isRefT ft)
  | _ => false)
theorem ck_one_ok {ta : Nat → Option Nat} {ws : va_W} {vs : List Value} {ls : Array Slot} {nL : Nat} {st : List Value} {y : sy_T} (hy : sy_ok ta ws vs ls nL st y) {rt : Option FieldType} {w : Option tv_T} {f : FieldType → tv_T → tv_T → Bool} (h : ck_one rt w y f = true) : ∃ ft w0 t v, rt = some ft ∧ w = some w0 ∧ st = [v] ∧ f ft t w0 = true ∧ tv_ok ta t v ∧ tv_ok ta w0 v := by
  unfold ck_one at h
  have hs := hy.2.2.1
  split at h
  · rename_i ft w0 n e
    rw [e] at hs
    split at h
    · rename_i t ht
      rw [Bool.and_eq_true] at h
      obtain ⟨v, rest, rfl, h1, h2, h3⟩ := sy_one hy.1 hs ht
      cases rest with
      | nil => exact ⟨ft, w0, t, v, rfl, rfl, rfl, h.1, h2, nm_le_ok hy h1 h.2⟩
      | cons _ _ => exact h3.elim
    · cases h
  · cases h
theorem rf_nar {ta : Nat → Option Nat} {ft : FieldType} {t : tv_T} {x : Int32} (h : rf_ok ft t = true) (h1 : t.2.1 ≤ x.toInt) (h2 : x.toInt ≤ t.2.2.1) : narrow ft (.int x) = .int x := by
  unfold rf_ok at h
  split at h
  · rfl
  · simp only [Bool.and_eq_true, decide_eq_true_eq] at h
    have h3 : x.toInt = 0 ∨ x.toInt = 1 := by omega
    rcases h3 with h3 | h3
    · have : x = 0 := Int32.toInt_inj.mp (h3.trans (by decide)); subst this; rfl
    · have : x = 1 := Int32.toInt_inj.mp (h3.trans (by decide)); subst this; rfl
  · simp only [Bool.and_eq_true, decide_eq_true_eq] at h
    have e : x.toInt8.toInt32.toInt = x.toInt := by
      rw [Int8.toInt_toInt32, Int32.toInt_toInt8]
      exact Int.bmod_eq_of_le_mul_two (by show -(256 : Int) ≤ _; omega) (by show _ < (256 : Int); omega)
    show Value.int x.toInt8.toInt32 = .int x
    rw [Int32.toInt_inj.mp e]
  · simp only [Bool.and_eq_true, decide_eq_true_eq] at h
    obtain ⟨e1, _⟩ := nn_nat (x := x) (by omega)
    have e2 : x.toBitVec.toNat < 65536 := by omega
    show Value.int x.toUInt32.toUInt16.toUInt32.toInt32 = .int x
    congr 1
    apply Int32.toBitVec_inj.mp
    apply BitVec.eq_of_toNat_eq
    show (x.toBitVec.setWidth 16 |>.setWidth 32).toNat = x.toBitVec.toNat
    rw [BitVec.toNat_setWidth, BitVec.toNat_setWidth]
    omega
  · cases h
section M15
variable {p : Program} {l : Launch} {e : Env} {s : State} {m : MethodId} {args : Array Value} {below : List Frame} {meth : Method} {c : Code} {cc : ByteArray} {pc : Nat} {i : ClassFile.Instr} {len nL : Nat} {v0 : List Value} {ta0 : Nat → Option Nat} {ws0 : va_W} {y : sy_T} {D : va_G} {kA : Nat → ClassId} {G : List rg_T} {ret : Option FieldType} {own nm : String} {en : en_T} {ce sl sz : Nat}
theorem ck_ret_ok {av : List Value} {fs : List fc_T} (hav : (en.2.2.2.2.2.2.1 = [] ∧ en.2.2.2.2.2.2.2.2.2.2.2.1 = []) ∨ (av <+: v0 ∧ av.length = en_nb en)) (X : cx p s m args meth c cc nL ret own nm) (hK : va_K D classes (TY kA) s) (hd : decode cc pc = .ok (i, len)) (h : ck_ret ret en i len y ce sl fs = true) : sy_J PQ p l e s m args below meth c (MQ below (qc_of PQ D kA G en ta0 ws0 sz av) args s en.2.2.2.2.1 en.2.2.2.2.2.1 (va_A ws0 sz)) D kA G (va_A ws0 sz) en ta0 ws0 nL v0 (pc, y, ce, sl, fs) := by
  intro H locs ws ta hle hpu hkp hP hD hS hth vs ls st hp0 hy hf
  unfold ck_ret at h
  simp only [Bool.and_eq_true, decide_eq_true_eq] at h
  obtain ⟨⟨⟨⟨⟨rfl, hce⟩, hsl⟩, hpa⟩, hpi⟩, h⟩ := h
  have hpo : ∀ r : Option Value, st = r.toList → po_ok PQ ta ws av en.2.2.2.2.2.2.1 en.2.2.2.2.2.2.2.2.2.2.2.1 r := fun r hv => by
    rcases hav with hav | hav
    · exact ⟨fun f hf2 => (by rw [hav.2] at hf2; cases hf2), Or.inl hav.1⟩
    · exact pa_in_ok hy hv (hav.1.trans hp0) hav.2 hpa (po_in_ok hy hf hv (hav.1.trans hp0) hav.2 hpi)
  have hup : up_ok kA G ta0 ws0 en.2.2.1 en.2.2.2.2.2.2.2.2 (ta, ws) := ⟨hle, hth, hpu, hkp⟩
  have hwq : ∀ t : State, t.heap = H → s.WarmedH t.vm → wq D classes (TY kA) (va_A ws0 sz) ws t := fun t ht hW => ⟨by rw [ht]; exact hP, va_K.moved hW.alike hK, hD⟩
  have hlk := X.2.2.2.2.2.2.1
  have hrt := X.2.2.2.2.2.1
  refine W.widen hce hsl ?_
  split at h
  · split at h
    · rename_i e1 e2 e3
      have hs := hy.2.2.1
      rw [e3] at hs
      cases st with
      | cons _ _ => exact hs.elim
      | nil =>
        refine W.vret X.1 X.2.1 hrt (fun t ht hW => ?_) (fun q hq => hS.2.2 q hq) hd hlk
        unfold qc_of
        rw [e2]
        exact ⟨⟨(ta, ws), rfl, ⟨hup, hpo none rfl⟩, hwq t ht hW⟩, hS.F ht⟩
    · cases h
  · obtain ⟨ft, w0, t, v, e1, e2, rfl, h1, h2, h3⟩ := ck_one_ok hy h
    simp only [Bool.and_eq_true, Bool.or_eq_true, decide_eq_true_eq] at h1
    obtain ⟨x, rfl, x1, x2⟩ := tv_int h2 h1.1.1
    refine W.zret X.1 X.2.1 (hrt.trans e1) (rf_nar (ta := ta) h1.2 x1 x2) (fun t_zq ht hW => ?_) (fun q hq => hS.2.2 q hq) hd hlk
    unfold qc_of
    rw [e2]
    simp only
    rw [if_pos h1.1.2]
    exact ⟨⟨x, (ta, ws), rfl, ⟨hup, h3, hpo (some _) rfl⟩, hwq t_zq ht hW⟩, hS.F ht⟩
  · obtain ⟨ft, w0, t, v, e1, e2, rfl, h1, h2, h3⟩ := ck_one_ok hy h
    simp only [Bool.and_eq_true, decide_eq_true_eq] at h1
    obtain ⟨x, rfl, x1, x2⟩ := tv_long h2 h1.1.1
    refine W.lret X.1 X.2.1 (hrt.trans (by rw [e1, h1.2])) (fun t_zq ht hW => ?_) (fun q hq => hS.2.2 q hq) hd hlk
    unfold qc_of
    rw [e2]
    simp only
    rw [if_neg (by omega), if_pos h1.1.2]
    exact ⟨⟨x, (ta, ws), rfl, ⟨hup, h3, hpo (some _) rfl⟩, hwq t_zq ht hW⟩, hS.F ht⟩
  · obtain ⟨ft, w0, t, v, e1, e2, rfl, h1, h2, h3⟩ := ck_one_ok hy h
    simp only [Bool.and_eq_true, decide_eq_true_eq] at h1
    obtain ⟨a, r, rfl, _, _⟩ := tv_ref h2 h1.1.1
    have hft : (∃ n, ft = .object n) ∨ ∃ t, ft = .array t := by
      have h4 := h1.2
      unfold isRefT at h4
      split at h4
      · exact Or.inl ⟨_, rfl⟩
      · exact Or.inr ⟨_, rfl⟩
      · cases h4
    refine W.aret X.1 X.2.1 (hrt.trans e1) hft (Or.inr ⟨a, rfl⟩) (fun t_zq ht hW => ?_) (fun q hq => hS.2.2 q hq) hd hlk
    unfold qc_of
    rw [e2]
    simp only
    rw [if_neg (by omega), if_neg (by omega)]
    exact ⟨⟨(ta, ws), a, rfl, hup, ⟨h3, hpo (some _) rfl⟩, hwq t_zq ht hW⟩, hS.F ht⟩
  · cases h
end M15
def gh_all (G : List rg_T) (an : an_T) : sy_T → List ((Nat × Nat) × tv_T) → sy_T
  | y, [] => y
  | y, q :: r => gh_all G an (match (an.2.1[q.1.1]?).bind (fun z => sy_find y.2.1 z.1) with | some o => gh_one G y o q.1.2 | none => y) r
theorem gh_all_ok {kA : Nat → ClassId} {G : List rg_T} {ta : Nat → Option Nat} {ws : va_W} {ls : Array Slot} {nL : Nat} {st : List Value} {an : an_T} (hth : th_ok kA G ta ws) : ∀ {L : List ((Nat × Nat) × tv_T)} {vs : List Value} {y : sy_T}, sy_ok ta ws vs ls nL st y → ∃ vs_zq, vs <+: vs_zq ∧ sy_ok ta ws vs_zq ls nL st (gh_all G an y L)
  | [], vs, y, h => ⟨vs, List.prefix_refl _, h⟩
  | q :: r, vs, y, h => by
    unfold gh_all
    split
    · rename_i o _
      obtain ⟨v1, p1, h1⟩ := gh_one_ok hth h o q.1.2
      obtain ⟨v2, p2, h2⟩ := gh_all_ok (an := an) hth (L := r) h1
      exact ⟨v2, p1.trans p2, h2⟩
    · exact gh_all_ok hth h
/-! oracles: (place, how many names, kinds wanted, facts wanted, kinds given, kinds of new names, facts given, distances given, distances wanted) -/
abbrev or_T : Type := Nat × Nat × List (Nat × tv_T) × List fc_T × List (Nat × tv_T) × List tv_T × List fc_T × List of_T × List of_T
def or_ok (PQ : pq_T) (kA : Nat → ClassId) (G : List rg_T) (o : or_T) : Prop := ∀ (A : Nat → Prop) (ta : Nat → Option Nat) (ws : va_W) (vs : List Value), va_D A ws → th_ok kA G ta ws → vs.length = o.2.1 → (∀ q ∈ o.2.2.1, tv_ok ta q.2 (n_v vs q.1)) → (∀ q ∈ o.2.2.2.2.2.2.2.2, n_iv vs q.2.1 + q.2.2.1 ≤ n_iv vs q.1 ∧ n_iv vs q.1 ≤ n_iv vs q.2.1 + q.2.2.2) → fc_ok PQ o.2.2.2.1 ta ws vs →
  (∀ q ∈ o.2.2.2.2.1, tv_ok ta q.2 (n_v vs q.1)) ∧ ∃ xs : List Value, ag_ok ta o.2.2.2.2.2.1 xs ∧ (∀ f ∈ o.2.2.2.2.2.2.1, f.1 < 100 ∧ fc_1 PQ f ws (vs ++ xs)) ∧ ∀ q ∈ o.2.2.2.2.2.2.2.1, sy_ofs (vs ++ xs) q
def or_ds (y : sy_T) (q : of_T) : Bool := match y.1[q.1]?, y.1[q.2.1]? with
  | some t, some u => decide (t.1 = 0) && decide (u.1 = 0) && decide (-4294967296 ≤ q.2.2.1) && decide (q.2.2.2 ≤ 4294967296) && rl_ok y q.1 q.2.1 q.2.2.1 q.2.2.2
  | _, _ => false
theorem or_ds_ok {ta : Nat → Option Nat} {ws : va_W} {vs : List Value} {ls : Array Slot} {nL : Nat} {st : List Value} {y : sy_T} (hy : sy_ok ta ws vs ls nL st y) {q : of_T} (h : or_ds y q = true) : n_iv vs q.2.1 + q.2.2.1 ≤ n_iv vs q.1 ∧ n_iv vs q.1 ≤ n_iv vs q.2.1 + q.2.2.2 := by
  unfold or_ds at h
  split at h
  · rename_i t u ht hu
    simp only [Bool.and_eq_true, decide_eq_true_eq] at h
    obtain ⟨⟨⟨⟨h1, h2⟩, h3⟩, h4⟩, h5⟩ := h
    have ln := (List.getElem?_eq_some_iff.mp ht).1
    have lm := (List.getElem?_eq_some_iff.mp hu).1
    rw [← hy.1.1] at ln lm
    obtain ⟨x, ex, _, _⟩ := tv_int (hy.1.2 _ t _ ht (List.getElem?_eq_getElem ln)) h1
    obtain ⟨z, ez, _, _⟩ := tv_int (hy.1.2 _ u _ hu (List.getElem?_eq_getElem lm)) h2
    have vn : vs[q.1]? = some (.int x) := by rw [List.getElem?_eq_getElem ln, ex]
    have vm : vs[q.2.1]? = some (.int z) := by rw [List.getElem?_eq_getElem lm, ez]
    have key := rl_ok_ok hy vn vm h5
    rw [n_iv_of vn, n_iv_of vm]
    have x1 := x.le_toInt
    have x2 := x.toInt_lt
    have z1 := z.le_toInt
    have z2 := z.toInt_lt
    show z.toInt + q.2.2.1 ≤ x.toInt ∧ x.toInt ≤ z.toInt + q.2.2.2
    omega
  · cases h
/-- what the picture remembers of fields, as facts -/
def mm_fs (y : sy_T) : List fc_T := y.2.2.2.1.map (fun q => (9, [q.2, q.1.1], [((q.1.2 : Nat) : Int)]))
theorem mm_fs_ok {A : Nat → Prop} {ta : Nat → Option Nat} {ws : va_W} {vs : List Value} {ls : Array Slot} {nL : Nat} {st : List Value} {y : sy_T} (hD : va_D A ws) (hy : sy_ok ta ws vs ls nL st y) : ∀ f ∈ mm_fs y, f.1 < 100 ∧ fc_1 PQ f ws vs := by
  intro f hf
  obtain ⟨q, hq, rfl⟩ := List.mem_map.mp hf
  obtain ⟨ad, ci, fs, v, m1, m2, m3, m4⟩ := hy.2.2.2.1 q hq
  refine ⟨by simp, n2 (n_lt m4) (n_lt m1), ?_⟩
  show n_v vs q.2 = w_fd ws (n_ad vs q.1.1) (((q.1.2 : Nat) : Int)).toNat
  rw [n_v_of m4, n_ad_of m1, Int.toNat_natCast]
  unfold w_fd
  rw [w_at_mem hD m2]
  simp only
  rw [List.getD_eq_getElem?_getD, m3]; rfl
def or_ap (o : or_T) (y : sy_T) (fs : List fc_T) : Option (sy_T × List fc_T) := if decide (y.1.length = o.2.1) && o.2.2.1.all (fun q => nm_le y q.1 q.2) && fc_sub o.2.2.2.1 (mm_fs y ++ fs) && o.2.2.2.2.2.2.2.2.all (or_ds y) then some ((o.2.2.2.2.1.foldl (fun e q => e.set q.1 q.2) y.1 ++ o.2.2.2.2.2.1, y.2.1, y.2.2.1, y.2.2.2.1, o.2.2.2.2.2.2.2.1 ++ y.2.2.2.2.1, y.2.2.2.2.2), o.2.2.2.2.2.2.1 ++ fs) else none
theorem en_sets_ok {ta : Nat → Option Nat} {vs : List Value} : ∀ {L : List (Nat × tv_T)} {env : List tv_T}, (∀ q ∈ L, tv_ok ta q.2 (n_v vs q.1)) → sy_env ta env vs → sy_env ta (L.foldl (fun e q => e.set q.1 q.2) env) vs
  | [], _, _, h => h
  | q :: L, env, hL, h => by
    refine en_sets_ok (L := L) (fun q_zq hq_zq => hL q_zq (List.mem_cons_of_mem _ hq_zq)) ⟨by rw [List.length_set]; exact h.1, fun i t v h1 h2 => ?_⟩
    have h1_zq : (env.set q.1 q.2)[i]? = some t := h1
    clear h1
    have h1 := h1_zq
    by_cases e : q.1 = i
    · have hi : i < env.length := by rw [← h.1]; exact (List.getElem?_eq_some_iff.mp h2).1
      rw [e, List.getElem?_set_self hi] at h1
      have := hL q List.mem_cons_self
      rw [e, n_v_of h2] at this
      rw [← Option.some.inj h1]; exact this
    · rw [List.getElem?_set_ne e] at h1
      exact h.2 i t v h1 h2
theorem sy_ext {ta : Nat → Option Nat} {ws : va_W} {ls : Array Slot} {nL : Nat} {st : List Value} : ∀ {ks : List tv_T} {xs vs : List Value} {y : sy_T}, sy_ok ta ws vs ls nL st y → ag_ok ta ks xs → sy_ok ta ws (vs ++ xs) ls nL st (y.1 ++ ks, y.2)
  | [], [], vs, y, h, _ => by rw [List.append_nil, List.append_nil]; exact h
  | k :: ks, x :: xs, vs, y, h, hx => by
    have h1 : sy_ok ta ws (vs ++ [x]) ls nL st (y.1 ++ [k], y.2) := by
      have := sy_pushed h h.2.2.1 hx.1
      exact ⟨this.1, this.2.1, sy_st_app h.2.2.1, this.2.2.2⟩
    have h2 := sy_ext (ks := ks) (xs := xs) h1 hx.2
    rw [List.append_assoc, List.append_assoc] at h2
    exact h2
  | [], _ :: _, _, _, _, hx => hx.elim
  | _ :: _, [], _, _, _, hx => hx.elim
theorem or_ap_ok {kA : Nat → ClassId} {G : List rg_T} {o : or_T} {A : Nat → Prop} {ta : Nat → Option Nat} {ws : va_W} {vs : List Value} {ls : Array Slot} {nL : Nat} {st : List Value} {y z : sy_T} {fs gs : List fc_T} (ho : or_ok PQ kA G o) (hD : va_D A ws) (hth : th_ok kA G ta ws) (hy : sy_ok ta ws vs ls nL st y) (hf : fc_ok PQ fs ta ws vs) (h : or_ap o y fs = some (z, gs)) : ∃ vs_zq, vs <+: vs_zq ∧ sy_ok ta ws vs_zq ls nL st z ∧ fc_ok PQ gs ta ws vs_zq := by
  unfold or_ap at h
  split at h
  · rename_i hk
    simp only [Bool.and_eq_true, decide_eq_true_eq] at hk
    obtain ⟨⟨⟨k1, k2⟩, k3⟩, k4⟩ := hk
    cases h
    obtain ⟨h1, xs, h2, h3, h9⟩ := ho A ta ws vs hD hth (by rw [hy.1.1]; exact k1) (fun q hq => by
      have hq2 := List.all_eq_true.mp k2 q hq
      obtain ⟨v, hv⟩ := sy_has hy.1 hq2
      rw [n_v_of hv]
      exact nm_le_ok hy hv hq2) (fun q hq => or_ds_ok hy (List.all_eq_true.mp k4 q hq)) (fc_sub_ok k3 (fc_app hf (mm_fs_ok hD hy)))
    have h8 := sy_ext (y := (o.2.2.2.2.1.foldl (fun e q => e.set q.1 q.2) y.1, y.2)) ⟨en_sets_ok h1 hy.1, hy.2⟩ h2
    refine ⟨vs ++ xs, List.prefix_append _ _, ⟨h8.1, h8.2.1, h8.2.2.1, h8.2.2.2.1, fun q hq => ?_, h8.2.2.2.2.2⟩, fc_app (fc_pre (List.prefix_append _ _) hf) h3⟩
    rcases List.mem_append.mp hq with hq | hq
    · exact h9 q hq
    · exact h8.2.2.2.2.1 q hq
  · cases h
def or_go (pc : Nat) : List or_T → sy_T → List fc_T → sy_T × List fc_T
  | [], y, fs => (y, fs)
  | o :: r, y, fs => if o.1 = pc then (match or_ap o y fs with
    | some z => or_go pc r z.1 z.2
    | none => or_go pc r y fs) else or_go pc r y fs
theorem or_go_ok {kA : Nat → ClassId} {G : List rg_T} {pc : Nat} {A : Nat → Prop} {ta : Nat → Option Nat} {ws : va_W} {ls : Array Slot} {nL : Nat} {st : List Value} (hD : va_D A ws) (hth : th_ok kA G ta ws) : ∀ {OT : List or_T} {vs : List Value} {y : sy_T} {fs : List fc_T}, (∀ o ∈ OT, or_ok PQ kA G o) → sy_ok ta ws vs ls nL st y → fc_ok PQ fs ta ws vs → ∃ vs_zq, vs <+: vs_zq ∧ sy_ok ta ws vs_zq ls nL st (or_go pc OT y fs).1 ∧ fc_ok PQ (or_go pc OT y fs).2 ta ws vs_zq
  | [], vs, y, fs, _, hy, hf => ⟨vs, List.prefix_refl _, hy, hf⟩
  | o :: r, vs, y, fs, ho, hy, hf => by
    unfold or_go
    split
    · split
      · rename_i z hz
        obtain ⟨v1, p1, h1, h2⟩ := or_ap_ok (ho o List.mem_cons_self) hD hth hy hf (z := z.1) (gs := z.2) hz
        obtain ⟨v2, p2, h3, h4⟩ := or_go_ok hD hth (OT := r) (fun q hq => ho q (List.mem_cons_of_mem _ hq)) h1 h2
        exact ⟨v2, p1.trans p2, h3, h4⟩
      · exact or_go_ok hD hth (fun q hq => ho q (List.mem_cons_of_mem _ hq)) hy hf
    · exact or_go_ok hD hth (fun q hq => ho q (List.mem_cons_of_mem _ hq)) hy hf
def or_n (G : List rg_T) (OT : List or_T) (n : nx_T) : nx_T := match or_go n.1 OT n.2.1 (fc_carry G n.2.1 n.2.2.2.2 ++ n.2.2.2.2) with
  | (y, fs) => (n.1, y, n.2.2.1, n.2.2.2.1, fs)
/-- the facts of a note -/
def an_fc (y : sy_T) (an : an_T) (fs : List fc_T) : Bool := an.2.2.2.2.2.2.2.2.2.2.all (fun f => f.2.1.all (fun k => (nm_of y an k).isSome) && (fc_now fs).contains (fc_map (fun k => (nm_of y an k).getD 0) f))
theorem an_fc_ok {ta : Nat → Option Nat} {ws : va_W} {vs : List Value} {ls : Array Slot} {nL : Nat} {st : List Value} {y : sy_T} {an : an_T} {fs : List fc_T} (hy : sy_ok ta ws vs ls nL st y) (h1 : an_ty y an 0 (an_ts an) = true) (hf : fc_ok PQ fs ta ws vs) (h : an_fc y an fs = true) : ∀ f ∈ an.2.2.2.2.2.2.2.2.2.2, fc_1 PQ f ws (an_vs y an vs) := by
  intro f hf2
  have h2 := List.all_eq_true.mp h f hf2
  rw [Bool.and_eq_true] at h2
  obtain ⟨_, h3⟩ := fc_now_ok hf _ (List.contains_iff_mem.mp h2.2)
  refine fc_1_unmap (fun n hn0 _ => ?_) h3
  have h4 := List.all_eq_true.mp h2.1 n hn0
  cases hn : nm_of y an n with
  | none => rw [hn] at h4; cases h4
  | some q =>
    have hk := nm_of_lt hn
    refine ⟨by unfold an_vs; rw [List.length_map, List.length_range]; exact hk, ?_⟩
    obtain ⟨n2, b1, b2, _⟩ := an_at hy h1 (List.getElem?_eq_getElem hk)
    rw [hn] at b1
    obtain rfl := Option.some.inj b1
    show n_v vs ((some q).getD 0) = _
    rw [n_v_of (an_vs_at hk), Option.getD_some, n_v_of b2]
def an_fs (OT : List or_T) (L : List fc_T) : List fc_T := match OT with
  | [] => []
  | _ :: _ => L ++ [(99, [], [])]
theorem an_fs_ok {OT : List or_T} {L : List fc_T} {ta : Nat → Option Nat} {ws : va_W} {vs : List Value} (h : ∀ f ∈ L, f.1 < 100 ∧ fc_1 PQ f ws vs) : fc_ok PQ (an_fs OT L) ta ws vs := by
  unfold an_fs
  split
  · trivial
  · exact fc_app (fc_cons (f := (99, [], [])) (by simp) ⟨fun n hn => (by cases hn), trivial⟩ (show fc_ok PQ [] ta ws vs from trivial)) h
/-- a comparison of longs with a jump behind it -/
def nl_c (cc : ByteArray) (pc : Nat) (i : ClassFile.Instr) (len : Nat) : Option (ClassFile.Cond × Int) := match i, len with
  | .lcmp, 1 => (match decode cc (pc + 1) with
    | .ok (.ifCond q off, 3) => some (q, off)
    | _ => none)
  | _, _ => none
theorem nl_c_ok {cc : ByteArray} {pc : Nat} {i : ClassFile.Instr} {len : Nat} {q : ClassFile.Cond × Int} (h : nl_c cc pc i len = some q) : i = .lcmp ∧ len = 1 ∧ decode cc (pc + 1) = .ok (.ifCond q.1 q.2, 3) := by
  unfold nl_c at h
  split at h
  · split at h
    · rename_i q0 off hd
      rw [← Option.some.inj h]
      exact ⟨rfl, rfl, hd⟩
    · cases h
  · cases h
/-- the place as a number: else the kernel decodes the same instruction anew for each sum that the place was reached by -/
def pcz {α : Type} (n : Nat) (g : Nat → α) : α := match n with
  | 0 => g 0
  | k + 1 => g (k + 1)
theorem pcz_eq {α : Type} (n : Nat) (g : Nat → α) : pcz n g = g n := by
  cases n with
  | zero => rfl
  | succ k => rfl
def ck_step (cc : ByteArray) (nL : Nat) (rt : Option FieldType) (en : en_T) (G : List rg_T) (FT : ft_L) (PT : pt_L) (CT : ct_L) (KT : kt_L) (NT : nt_L) (pc : Nat) (y : sy_T) (ce sl : Nat) (fs : List fc_T) (go : nx_T → Bool) : Bool := pcz pc fun pc => match decode cc pc with
  | .ok (i, len) => (match nl_c cc pc i len with
    | some q => (match lc_next pc q.1 q.2 y with
      | some L => L.all (fun z => go (z.1, z.2.1, ce, sl, recs fs z.2.2))
      | none => false)
    | none => (match nx nL en G FT PT CT KT NT pc i len y ce sl fs with
      | some L => L.all go
      | none => ck_ret rt en i len y ce sl fs))
  | .error _ => false
def gb_of (src : Nat) (an : an_T) (y : sy_T) : Nat := if src = an.1 then an_R an + an_n0 an else y.1.length - an.2.2.2.2.2.2.2.2.2.1.length
def ck_at (cc : ByteArray) (nL : Nat) (rt : Option FieldType) (en : en_T) (G : List rg_T) (FT : ft_L) (PT : pt_L) (CT : ct_L) (KT : kt_L) (NT : nt_L) (AN : List an_T) (src : Nat) (old : List me_T) (b : Bool) (n : nx_T) (go : nx_T → Bool) : Bool := match (if b then AN.find? (fun a => a.1 == n.1) else none) with
  | some an => an_sub old (an_gb an (gb_of src an n.2.1)) (gh_all G an n.2.1 an.2.2.2.2.2.2.1) n.2.2.1 n.2.2.2.1 && an_fc (gh_all G an n.2.1 an.2.2.2.2.2.2.1) (an_gb an (gb_of src an n.2.1)) n.2.2.2.2
  | none => (match n.2.2.2.2 with
    | [] => ck_step cc nL rt en G FT PT CT KT NT n.1 n.2.1 n.2.2.1 n.2.2.2.1 [] go
    | f :: r => ck_step cc nL rt en G FT PT CT KT NT n.1 n.2.1 n.2.2.1 n.2.2.2.1 (f :: r) go)
def chk (cc : ByteArray) (nL : Nat) (rt : Option FieldType) (en : en_T) (G : List rg_T) (FT : ft_L) (PT : pt_L) (CT : ct_L) (KT : kt_L) (NT : nt_L) (AN : List an_T) (OT : List or_T) (src : Nat) (old : List me_T) : Nat → Bool → nx_T → Bool
  | 0, _, _ => false
  | f + 1, b, n => match OT with
    | [] => ck_at cc nL rt en G FT PT CT KT NT AN src old b n (chk cc nL rt en G FT PT CT KT NT AN OT src old f true)
    | _ :: _ => ck_at cc nL rt en G FT PT CT KT NT AN src old b (or_n G OT n) (chk cc nL rt en G FT PT CT KT NT AN OT src old f true)
section M16
variable {p : Program} {l : Launch} {e : Env} {s : State} {m : MethodId} {args : Array Value} {below : List Frame} {meth : Method} {c : Code} {cc : ByteArray} {nL : Nat} {v0 : List Value} {ta0 : Nat → Option Nat} {ws0 : va_W} {D : va_G} {kA : Nat → ClassId} {G : List rg_T} {ret : Option FieldType} {own nm : String} {en : en_T} {FT : ft_L} {PT : pt_L} {CT : ct_L} {KT : kt_L} {NT : nt_L} {sz : Nat} {AN : List an_T} {OT : List or_T} {src : Nat} {old : List me_T} {av : List Value}
theorem ck_at_ok (hav : (en.2.2.2.2.2.2.1 = [] ∧ en.2.2.2.2.2.2.2.2.2.2.2.1 = []) ∨ (av <+: v0 ∧ av.length = en_nb en)) (hR : (en.2.2.2.2.2.2.1 = [] ∧ en.2.2.2.2.2.2.2.2.2.2.2.1 = []) ∨ ∀ an ∈ AN, an_R an = en_nb en) (htb : tb_ok PQ l D kA G own nm cc FT PT CT KT NT) (X : cx p s m args meth c cc nL ret own nm) (hK : va_K D classes (TY kA) s) (hN : nsr kA (va_A ws0 sz) s) (hA : ∀ q, s.heap.size ≤ q → va_A ws0 sz q) (hold : ∀ o ∈ old, o.1 = 0 ∨ o.2.1 < v0.length)
    (hAN : ∀ an ∈ AN, ∀ (H : Heap) (locs : List Loc) (ws : va_W) (ta : Nat → Option Nat), ta_le ta0 ta → (en.2.2.1 = true → (ta, ws) = (ta0, ws0)) → kp en.2.2.2.2.2.2.2.2 ta0 ws0 ws → va_P D classes ws H → va_D (va_A ws0 sz) ws → va_S (va_A ws0 sz) s.heap H locs → th_ok kA G ta ws → ∀ (vs : List Value) (ls : Array Slot) (st : List Value), sy_ok ta ws vs ls nL st (an_y an) → (∀ f ∈ an.2.2.2.2.2.2.2.2.2.2, fc_1 PQ f ws vs) → ((en.2.2.2.2.2.2.1 = [] ∧ en.2.2.2.2.2.2.2.2.2.2.2.1 = []) ∨ av <+: vs) → lx_lt (an.2.2.2.2.1.map (me_val vs)) (old.map (me_val v0)) → W p l e (rm_of en.2.2.2.1 en.2.2.2.2.1 en.2.2.2.2.2.1) s m args below meth c H locs an.2.2.2.1.1 an.2.2.2.1.2 (MQ below (qc_of PQ D kA G en ta0 ws0 sz av) args s en.2.2.2.2.1 en.2.2.2.2.2.1 (va_A ws0 sz)) (F0 m an.1 ls st))
    {b : Bool} {n : nx_T} {go : nx_T → Bool} (hgo : ∀ n_zq, go n_zq = true → sy_J PQ p l e s m args below meth c (MQ below (qc_of PQ D kA G en ta0 ws0 sz av) args s en.2.2.2.2.1 en.2.2.2.2.2.1 (va_A ws0 sz)) D kA G (va_A ws0 sz) en ta0 ws0 nL v0 n_zq) (h : ck_at cc nL ret en G FT PT CT KT NT AN src old b n go = true) : sy_J PQ p l e s m args below meth c (MQ below (qc_of PQ D kA G en ta0 ws0 sz av) args s en.2.2.2.2.1 en.2.2.2.2.2.1 (va_A ws0 sz)) D kA G (va_A ws0 sz) en ta0 ws0 nL v0 n := by
  unfold ck_at at h
  split at h
  · rename_i an han
    have hmem : an ∈ AN ∧ an.1 = n.1 := by
      cases b with
      | false => cases han
      | true => exact ⟨List.mem_of_find?_eq_some han, by simpa using List.find?_some han⟩
    rw [Bool.and_eq_true] at h
    obtain ⟨h, hfc⟩ := h
    unfold an_sub at h
    simp only [Bool.and_eq_true, decide_eq_true_eq] at h
    obtain ⟨⟨⟨⟨⟨h0, h1⟩, h2⟩, h3⟩, h4⟩, h5⟩ := h
    intro H locs ws ta hle hpu hkp hP hD hS hth vs ls st hp1 hy1 hf1
    obtain ⟨vs2, hpp, hy⟩ := gh_all_ok (an := an) (L := an.2.2.2.2.2.2.1) hth hy1
    have hp0 := hp1.trans hpp
    have hf := fc_pre hpp hf1
    have hrid : (en.2.2.2.2.2.2.1 = [] ∧ en.2.2.2.2.2.2.2.2.2.2.2.1 = []) ∨ av <+: an_vs (gh_all G an n.2.1 an.2.2.2.2.2.2.1) (an_gb an (gb_of src an n.2.1)) vs2 := by
      rcases hav with q | q
      · exact Or.inl q
      · rcases hR with q2 | q2
        · exact Or.inl q2
        · exact Or.inr (an_pre hy h1 (q.1.trans hp0) (q.2.trans (q2 an hmem.1).symm))
    have := hAN an hmem.1 H locs ws ta hle hpu hkp hP hD hS hth _ ls st (show sy_ok ta ws _ ls nL st (an_y (an_gb an (gb_of src an n.2.1))) from an_in (an := an_gb an (gb_of src an n.2.1)) hy h0 h1 h2) (an_fc_ok (an := an_gb an (gb_of src an n.2.1)) hy h1 hf hfc) hrid (me_chk_ok hy h1 hp0 hold h5)
    rw [hmem.2] at this
    exact W.widen h3 h4 this
  · have key : ∀ fs, n.2.2.2.2 = fs → ck_step cc nL ret en G FT PT CT KT NT n.1 n.2.1 n.2.2.1 n.2.2.2.1 fs go = true → sy_J PQ p l e s m args below meth c (MQ below (qc_of PQ D kA G en ta0 ws0 sz av) args s en.2.2.2.2.1 en.2.2.2.2.2.1 (va_A ws0 sz)) D kA G (va_A ws0 sz) en ta0 ws0 nL v0 n := fun fs efs h => by
      unfold ck_step at h
      rw [pcz_eq] at h
      have en_zq : n = (n.1, n.2.1, n.2.2.1, n.2.2.2.1, fs) := by rw [← efs]
      rw [en_zq]
      split at h
      · rename_i i len hd
        split at h
        · rename_i q hq
          obtain ⟨rfl, rfl, hd2⟩ := nl_c_ok hq
          split at h
          · rename_i L hL
            intro H locs ws ta h1 h2 hk0 h3 h4 h5 h6 vs ls st hp hy hf
            exact lc_next_ok (v0 := vs) X.1 X.2.1 hd hd2 hL (fun z hz vs_zq ls_zq st_zq hp_zq hX hy_zq => hgo (z.1, z.2.1, n.2.2.1, n.2.2.2.1, recs fs z.2.2) (List.all_eq_true.mp h z hz) H locs ws ta h1 h2 hk0 h3 h4 h5 h6 vs_zq ls_zq st_zq (hp.trans hp_zq) hy_zq (recs_ok (fc_pre hp_zq hf) (fun f hf2 => ⟨(hX f hf2).1, (hX f hf2).2 ws⟩))) vs ls st (List.prefix_refl _) hy
          · cases h
        · split at h
          · rename_i L hL
            exact nx_ok htb X hK hN hA hd hL (fun n_zq hn_zq => hgo n_zq (List.all_eq_true.mp h n_zq hn_zq))
          · exact ck_ret_ok hav X hK hd h
      · cases h
    split at h
    · rename_i e1; exact key [] e1 h
    · rename_i f r e1; exact key (f :: r) e1 h
theorem chk_ok (hOT : ∀ o ∈ OT, or_ok PQ kA G o) (hav : (en.2.2.2.2.2.2.1 = [] ∧ en.2.2.2.2.2.2.2.2.2.2.2.1 = []) ∨ (av <+: v0 ∧ av.length = en_nb en)) (hR : (en.2.2.2.2.2.2.1 = [] ∧ en.2.2.2.2.2.2.2.2.2.2.2.1 = []) ∨ ∀ an ∈ AN, an_R an = en_nb en) (htb : tb_ok PQ l D kA G own nm cc FT PT CT KT NT) (X : cx p s m args meth c cc nL ret own nm) (hK : va_K D classes (TY kA) s) (hN : nsr kA (va_A ws0 sz) s) (hA : ∀ q, s.heap.size ≤ q → va_A ws0 sz q) (hold : ∀ o ∈ old, o.1 = 0 ∨ o.2.1 < v0.length)
    (hAN : ∀ an ∈ AN, ∀ (H : Heap) (locs : List Loc) (ws : va_W) (ta : Nat → Option Nat), ta_le ta0 ta → (en.2.2.1 = true → (ta, ws) = (ta0, ws0)) → kp en.2.2.2.2.2.2.2.2 ta0 ws0 ws → va_P D classes ws H → va_D (va_A ws0 sz) ws → va_S (va_A ws0 sz) s.heap H locs → th_ok kA G ta ws → ∀ (vs : List Value) (ls : Array Slot) (st : List Value), sy_ok ta ws vs ls nL st (an_y an) → (∀ f ∈ an.2.2.2.2.2.2.2.2.2.2, fc_1 PQ f ws vs) → ((en.2.2.2.2.2.2.1 = [] ∧ en.2.2.2.2.2.2.2.2.2.2.2.1 = []) ∨ av <+: vs) → lx_lt (an.2.2.2.2.1.map (me_val vs)) (old.map (me_val v0)) → W p l e (rm_of en.2.2.2.1 en.2.2.2.2.1 en.2.2.2.2.2.1) s m args below meth c H locs an.2.2.2.1.1 an.2.2.2.1.2 (MQ below (qc_of PQ D kA G en ta0 ws0 sz av) args s en.2.2.2.2.1 en.2.2.2.2.2.1 (va_A ws0 sz)) (F0 m an.1 ls st)) :
    ∀ (f : Nat) (b : Bool) (n : nx_T), chk cc nL ret en G FT PT CT KT NT AN OT src old f b n = true → sy_J PQ p l e s m args below meth c (MQ below (qc_of PQ D kA G en ta0 ws0 sz av) args s en.2.2.2.2.1 en.2.2.2.2.2.1 (va_A ws0 sz)) D kA G (va_A ws0 sz) en ta0 ws0 nL v0 n := by
  intro f
  induction f with
  | zero => intro b n h; cases h
  | succ f ih =>
    intro b n h
    unfold chk at h
    split at h
    · exact ck_at_ok hav hR htb X hK hN hA hold hAN (fun n_zq hn_zq => ih true n_zq hn_zq) h
    · rename_i OT0 o r
      have h1 := ck_at_ok hav hR htb X hK hN hA hold hAN (fun n_zq hn_zq => ih true n_zq hn_zq) h
      intro H locs ws ta hle hpu hkp hP hD hS hth vs ls st hp1 hy1 hf1
      obtain ⟨v1, p1, g1, g2⟩ := or_go_ok (pc := n.1) (OT := o :: r) hD hth hOT hy1 (fc_carry_ok hD hth hy1.1 hf1)
      exact h1 H locs ws ta hle hpu hkp hP hD hS hth v1 ls st (hp1.trans p1) g1 g2
end M16
def en_loc : List tv_T → Nat → Nat → List (Nat × Nat)
  | [], _, _ => []
  | t :: ts, j, k => (j, k) :: en_loc ts (if t.1 = 1 then j + 2 else j + 1) (k + 1)
def en_ts (en : en_T) : List tv_T := en.1 ++ en.2.2.2.2.2.2.2.1.map (fun q => q.2) ++ en.2.2.2.2.2.2.2.2.2.2.2.2
def en_y (en : en_T) : sy_T := ((en_ts en).map nrm, en_loc en.1 0 0, [], an_mem 0 en.1.length en.2.2.2.2.2.2.2.1, [], an_dv (en_ts en) 0)
def me_0 : me_T := (0, 0, 1000000)
def chk_all (cc : ByteArray) (nL : Nat) (rt : Option FieldType) (en : en_T) (G : List rg_T) (FT : ft_L) (PT : pt_L) (CT : ct_L) (KT : kt_L) (NT : nt_L) (AN : List an_T) (OT : List or_T) (K F : Nat) : Bool :=
  decide ((en.1.map (fun t => if t.1 = 1 then 2 else 1)).sum ≤ nL) &&
  ((en.2.2.2.2.2.2.1.isEmpty && en.2.2.2.2.2.2.2.2.2.2.2.1.isEmpty) || AN.all (fun an => decide (an_R an = en_nb en))) && AN.all (fun an => decide (an.2.2.2.2.1.length = K) && an.2.2.2.2.1.all (fun o => decide (o.1 = 0) || decide (o.2.1 < (an_ts an).length)) && an.2.2.2.2.2.2.2.2.2.2.all (fun f => decide (f.1 < 100)) && chk cc nL rt en G FT PT CT KT NT AN OT an.1 an.2.2.2.2.1 F false (an.1, an_y an, an.2.2.2.1.1, an.2.2.2.1.2, an_fs OT an.2.2.2.2.2.2.2.2.2.2)) &&
  en.2.2.2.2.2.2.2.2.2.2.1.all (fun f => decide (f.1 < 100)) && chk cc nL rt en G FT PT CT KT NT AN OT 100000 (List.replicate K me_0) F true (0, en_y en, 0, 0, an_fs OT en.2.2.2.2.2.2.2.2.2.2.1)
theorem en_loc_ok {ta : Nat → Option Nat} {ls : Array Slot} {L : List Value} : ∀ {ts : List tv_T} {av pre : List Value} {j : Nat}, ag_ok ta ts av → L = pre ++ av → (∀ q ∈ lv_args j av, ls[q.1]? = some (.val q.2)) → ∀ q ∈ en_loc ts j pre.length, sy_loc L ls q
  | [], _, _, _, _, _, _, q, hq => by cases hq
  | t :: ts, [], _, _, h, _, _, q, hq => h.elim
  | t :: ts, v :: av, pre, j, h, e, hl, q, hq => by
    unfold en_loc at hq
    unfold lv_args at hl
    rcases List.mem_cons.mp hq with rfl | hq
    · exact ⟨v, by rw [e, List.getElem?_append_right (Nat.le_refl _), Nat.sub_self]; rfl, hl (j, v) List.mem_cons_self⟩
    · have e2 : L = (pre ++ [v]) ++ av := by rw [e, List.append_assoc]; rfl
      have ew : (if v.category = 2 then j + 2 else j + 1) = (if t.1 = 1 then j + 2 else j + 1) := by
        by_cases ht : t.1 = 1
        · rw [if_pos ht, if_pos ((tv_cat h.1).1 ht)]
        · rw [if_neg ht, if_neg (by rw [(tv_cat h.1).2 ht]; decide)]
      rw [ew] at hl
      refine en_loc_ok (pre := pre ++ [v]) h.2 e2 (fun q hq => hl q (List.mem_cons_of_mem _ hq)) q ?_
      rw [List.length_append]; exact hq
theorem en_len {ta : Nat → Option Nat} : ∀ {ts : List tv_T} {av : List Value}, ag_ok ta ts av → (lg_sl av).length = (ts.map (fun t => if t.1 = 1 then 2 else 1)).sum
  | [], [], _ => rfl
  | t :: ts, v :: av, h => by
    have ih := en_len h.2
    unfold lg_sl at ih ⊢
    rw [List.flatMap_cons, List.length_append, ih, List.map_cons, List.sum_cons]
    by_cases ht : t.1 = 1
    · rw [if_pos ht, if_pos ((tv_cat h.1).1 ht)]; rfl
    · rw [if_neg ht, if_neg (by rw [(tv_cat h.1).2 ht]; decide)]; rfl
  | [], _ :: _, h => h.elim
  | _ :: _, [], h => h.elim
theorem gv_len {ta : Nat → Option Nat} {ws : va_W} {av : List Value} : ∀ {L : ga_L} {gv : List Value}, gv_ok ta ws av L gv → gv.length = L.length
  | [], [], _ => rfl
  | _ :: L, _ :: gv, h => by rw [List.length_cons, List.length_cons, gv_len h.2.2]
  | [], _ :: _, h => h.elim
  | _ :: _, [], h => h.elim
theorem gv_at {ta : Nat → Option Nat} {ws : va_W} {av : List Value} : ∀ {L : ga_L} {gv : List Value}, gv_ok ta ws av L gv → ∀ (i : Nat) (q : (Nat × Nat) × tv_T) (g : Value), L[i]? = some q → gv[i]? = some g → (∃ (a ci : Nat) (fs : List Value), av[q.1.1]? = some (.ref a) ∧ (a, .inr (ci, fs)) ∈ ws ∧ fs[q.1.2]? = some g) ∧ tv_ok ta q.2 g
  | [], [], _, i, q, g, h, _ => by cases h
  | q0 :: L, g0 :: gv, h, i, q, g, h1, h2 => by
    cases i with
    | zero =>
      have e1 : q0 = q := Option.some.inj h1
      have e2 : g0 = g := Option.some.inj h2
      rw [← e1, ← e2]; exact ⟨h.1, h.2.1⟩
    | succ i => exact gv_at h.2.2 i q g h1 h2
  | [], _ :: _, h, _, _, _, _, _ => h.elim
  | _ :: _, [], h, _, _, _, _, _ => h.elim
theorem k_metF {l : Launch} {cc : ByteArray} {ret : Option FieldType} {y : MethodName} {z : List Cond} {rm : Room} {maxL mc ms : Nat} {av : List Value} {Bp : State → Prop} {Qc : Array Value → State → Outcome → State → Prop} {free : Addr → Prop}
    (hy : plainFor y = true) (hz : z = Cond.code y cc maxL ret :: lw_g) (hn : (lg_sl av).length ≤ maxL)
    (body : ∀ (p : Program) (e : Env) (s : State) (m : MethodId) (below : List Frame) (meth : Method) (c : Code) (ls : Array Slot), cx p s m av.toArray meth c cc maxL ret y.cls y.name → lv_has ls maxL (lv_args 0 av) → Bp s → W p l e rm s m av.toArray below meth c s.heap [] 0 0 (MQ below Qc av.toArray s mc ms free) (F0 m 0 ls [])) :
    Met l y z rm (va_Pc av Bp) Qc mc ms free := by
  refine va_MetF (cc := cc) (maxL := maxL) (ret := ret) hy hz ?_
  intro p e s m args below meth c s₁ B hml hv
  obtain ⟨rfl, hB⟩ := hv
  have hts := atoms_spec (ws := z) B.pre
  have hts2 : ∀ w ∈ lw_g, w.before av.toArray s = true := fun w hw => hts w (by rw [hz]; exact List.mem_cons_of_mem _ hw)
  have hl := lv_entry av (n := maxL) hn
  rw [lg_entry_eq]
  exact body p e s m below meth c _ ⟨B.exec, B.bytes, hml, findClass_of_methodNamed B.named, hts2, B.returns, B.notSynchronized, (name_of_methodNamed B.named B.method).1⟩ hl hB
/-- a method that the check passes keeps its contract -/
theorem chk_all_ok {l : Launch} {D : va_G} {kA : Nat → ClassId} {G : List rg_T} {y : MethodName} {cc : ByteArray} {nL : Nat} {rt : Option FieldType} {en : en_T} {FT : ft_L} {PT : pt_L} {CT : ct_L} {KT : kt_L} {NT : nt_L} {AN : List an_T} {OT : List or_T} (K F : Nat) (hOT : ∀ o ∈ OT, or_ok PQ kA G o) (hy : plainFor y = true) (htb : tb_ok PQ l D kA G y.cls y.name cc FT PT CT KT NT) (h : chk_all cc nL rt en G FT PT CT KT NT AN OT K F = true) : ct_ok PQ l D kA G y (Cond.code y cc nL rt :: lw_g) en := by
  intro sz ta0 ws0 av gv hv hth hag hgv hhv hpr
  unfold chk_all at h
  simp only [Bool.and_eq_true, decide_eq_true_eq] at h
  obtain ⟨⟨⟨⟨h0, hpe⟩, hall⟩, hpf⟩, hent⟩ := h
  have hR : (en.2.2.2.2.2.2.1 = [] ∧ en.2.2.2.2.2.2.2.2.2.2.2.1 = []) ∨ ∀ an ∈ AN, an_R an = en_nb en := by
    rcases Bool.or_eq_true_iff.mp hpe with q | q
    · rw [Bool.and_eq_true] at q
      exact Or.inl ⟨List.isEmpty_iff.mp q.1, List.isEmpty_iff.mp q.2⟩
    · exact Or.inr (fun an han => by simpa using List.all_eq_true.mp q an han)
  refine k_metF hy rfl (by rw [en_len hag]; exact h0) (fun p e s m below meth c ls X hl hB => ?_)
  obtain ⟨⟨hsz, hP, hK, hD, hN0⟩, hro⟩ := hB
  have hN : nsr kA (va_A ws0 sz) s := ⟨hN0, hro⟩
  have hA : ∀ q, s.heap.size ≤ q → va_A ws0 sz q := fun q hq => Or.inr (by omega)
  have hall2 := List.all_eq_true.mp hall
  -- every note, by what falls
  have main : ∀ v : List Nat, v.length = K → ∀ an ∈ AN, ∀ (H : Heap) (locs : List Loc) (ws : va_W) (ta : Nat → Option Nat), ta_le ta0 ta → (en.2.2.1 = true → (ta, ws) = (ta0, ws0)) → kp en.2.2.2.2.2.2.2.2 ta0 ws0 ws → va_P D classes ws H → va_D (va_A ws0 sz) ws → va_S (va_A ws0 sz) s.heap H locs → th_ok kA G ta ws → ∀ (vs : List Value) (ls : Array Slot) (st : List Value), sy_ok ta ws vs ls nL st (an_y an) → (∀ f ∈ an.2.2.2.2.2.2.2.2.2.2, fc_1 PQ f ws vs) → ((en.2.2.2.2.2.2.1 = [] ∧ en.2.2.2.2.2.2.2.2.2.2.2.1 = []) ∨ av ++ gv ++ hv <+: vs) → an.2.2.2.2.1.map (me_val vs) = v → W p l e (rm_of en.2.2.2.1 en.2.2.2.2.1 en.2.2.2.2.2.1) s m av.toArray below meth c H locs an.2.2.2.1.1 an.2.2.2.1.2 (MQ below (qc_of PQ D kA G en ta0 ws0 sz (av ++ gv ++ hv)) av.toArray s en.2.2.2.2.1 en.2.2.2.2.2.1 (va_A ws0 sz)) (F0 m an.1 ls st) := by
    refine lx_ind K _ (fun v hvK ih => ?_)
    intro an han H locs ws ta a1 a2 a2_zq a3 a4 a5 a6 vs ls st hs hfs hrd hm
    have hc := hall2 an han
    simp only [Bool.and_eq_true, decide_eq_true_eq] at hc
    obtain ⟨⟨⟨c1, c2⟩, c4⟩, c3⟩ := hc
    have hvl : vs.length = (an_ts an).length := by
      have := hs.1.1
      rw [this]
      show ((an_ts an).map nrm).length = _
      rw [List.length_map]
    have hav2 : (en.2.2.2.2.2.2.1 = [] ∧ en.2.2.2.2.2.2.2.2.2.2.2.1 = []) ∨ (av ++ gv ++ hv <+: vs ∧ (av ++ gv ++ hv).length = en_nb en) := by
      rcases hrd with q | q
      · exact Or.inl q
      · exact Or.inr ⟨q, by unfold en_nb; rw [List.length_append, List.length_append, ag_len hag, gv_len hgv, ag_len hhv]⟩
    refine chk_ok (v0 := vs) (old := an.2.2.2.2.1) (av := av ++ gv ++ hv) hOT hav2 hR htb X hK hN hA (fun o ho => ?_) (fun an_zq han_zq H_zq locs_zq ws_zq ta_zq b1 b2 b2_zq b3 b4 b5 b6 vs_zq ls_zq st_zq hs_zq hfs_zq hrd_zq hlt => ?_) F false (an.1, an_y an, an.2.2.2.1.1, an.2.2.2.1.2, an_fs OT an.2.2.2.2.2.2.2.2.2.2) c3 H locs ws ta a1 a2 a2_zq a3 a4 a5 a6 vs ls st (List.prefix_refl _) hs (an_fs_ok (fun f hf => ⟨by simpa using List.all_eq_true.mp c4 f hf, hfs f hf⟩))
    · have := List.all_eq_true.mp c2 o ho
      simp only [Bool.or_eq_true, decide_eq_true_eq] at this
      rw [hvl]; exact this
    · have hc_zq := hall2 an_zq han_zq
      simp only [Bool.and_eq_true, decide_eq_true_eq] at hc_zq
      rw [hm] at hlt
      exact ih _ (by rw [List.length_map]; exact hc_zq.1.1.1) hlt an_zq han_zq H_zq locs_zq ws_zq ta_zq b1 b2 b2_zq b3 b4 b5 b6 vs_zq ls_zq st_zq hs_zq hfs_zq hrd_zq rfl
  have hgl : gv.length = en.2.2.2.2.2.2.2.1.length := gv_len hgv
  have hbl : (av ++ gv ++ hv).length = en_nb en := by unfold en_nb; rw [List.length_append, List.length_append, ag_len hag, hgl, ag_len hhv]
  have hens : sy_env ta0 (en_ts en) (av ++ gv ++ hv) := by
    unfold en_ts
    refine sy_env_drop (sy_env_drop ⟨ag_len hag, fun i t v a b => ag_at hag i t v a b⟩ ⟨by rw [List.length_map]; exact hgl, fun i t v a b => ?_⟩) ⟨ag_len hhv, fun i t v a b => ag_at hhv i t v a b⟩
    rw [List.getElem?_map] at a
    obtain ⟨q, q1, q2⟩ := Option.map_eq_some_iff.mp a
    rw [← q2]
    exact (gv_at hgv _ q v q1 b).2
  have htv : ∀ (i : Nat) (t : tv_T) (v : Value), (en_ts en)[i]? = some t → (av ++ gv ++ hv)[i]? = some v → tv_ok ta0 t v := hens.2
  have htl : (en_ts en).length = (av ++ gv ++ hv).length := hens.1.symm
  have hse : sy_ok ta0 ws0 (av ++ gv ++ hv) ls nL [] (en_y en) := by
    refine ⟨⟨by show _ = ((en_ts en).map nrm).length; rw [List.length_map, htl], fun i t v e1 e2 => ?_⟩, ⟨hl.1, hl.2.1, ?_⟩, trivial, fun q hq => ?_, fun q hq => absurd hq List.not_mem_nil, fun q hq => ?_⟩
    · have e1_zq : ((en_ts en).map nrm)[i]? = some t := e1
      rw [List.getElem?_map] at e1_zq
      obtain ⟨t0, e3, e4⟩ := Option.map_eq_some_iff.mp e1_zq
      rw [← e4]
      exact nrm_ok (htv i t0 v e3 e2)
    · intro q hq
      obtain ⟨v, a1, a2⟩ := en_loc_ok (L := av) (pre := []) hag rfl hl.2.2 q hq
      exact ⟨v, by rw [List.append_assoc, List.getElem?_append_left (List.getElem?_eq_some_iff.mp a1).1]; exact a1, a2⟩
    · obtain ⟨i, lo, t, e1, e0, e2⟩ := an_mem_mem hq
      have hi := (List.getElem?_eq_some_iff.mp e1).1
      have hg := List.getElem?_eq_getElem (l := gv) (i := i) (by omega)
      obtain ⟨⟨a, ci, fs, g1, g2, g3⟩, _⟩ := gv_at hgv i _ _ e1 hg
      refine ⟨a, ci, fs, gv[i]'(by omega), ?_, g2, g3, ?_⟩
      · rw [e0, Nat.zero_add, List.append_assoc, List.getElem?_append_left (List.getElem?_eq_some_iff.mp g1).1]; exact g1
      · rw [e2, List.append_assoc, List.getElem?_append_right (by rw [ag_len hag]; omega), ag_len hag, show en.1.length + i - en.1.length = i by omega, List.getElem?_append_left (by omega)]; exact hg
    · obtain ⟨i, t, e1, e2, e3⟩ := an_dv_mem hq
      have hi := (List.getElem?_eq_some_iff.mp e1).1
      have hi2 : i < (av ++ gv ++ hv).length := by rw [← htl]; exact hi
      obtain ⟨x, ex, _, _, k, hk⟩ := tv_div (htv i t _ e1 (List.getElem?_eq_getElem hi2)) e2
      refine ⟨x, k, ?_, by rw [e3]; exact hk⟩
      rw [e3]
      show (av ++ gv ++ hv)[0 + i]? = _
      rw [Nat.zero_add, List.getElem?_eq_getElem hi2, ex]
  refine chk_ok (v0 := av ++ gv ++ hv) (old := List.replicate K me_0) (av := av ++ gv ++ hv) hOT (Or.inr ⟨List.prefix_refl _, hbl⟩) hR htb X hK hN hA (fun o ho => Or.inl (by rw [(List.mem_replicate.mp ho).2]; rfl)) (fun an_zq han_zq H_zq locs_zq ws_zq ta_zq b1 b2 b2_zq b3 b4 b5 b6 vs_zq ls_zq st_zq hs_zq hfs_zq hrd_zq _ => ?_) F true (0, en_y en, 0, 0, an_fs OT en.2.2.2.2.2.2.2.2.2.2.1) hent s.heap [] ws0 ta0 (fun _ _ q => q) (fun _ => rfl) kp_refl hP hD.self va_S.rf hth (av ++ gv ++ hv) ls [] (List.prefix_refl _) hse (an_fs_ok (fun f hf => ⟨by simpa using List.all_eq_true.mp hpf f hf, hpr f hf⟩))
  have hc_zq := hall2 an_zq han_zq
  simp only [Bool.and_eq_true, decide_eq_true_eq] at hc_zq
  exact main _ (by rw [List.length_map]; exact hc_zq.1.1.1) an_zq han_zq H_zq locs_zq ws_zq ta_zq b1 b2 b2_zq b3 b4 b5 b6 vs_zq ls_zq st_zq hs_zq hfs_zq hrd_zq rfl
/-- the check of a long method, note by note -/
def chk_an (cc : ByteArray) (nL : Nat) (rt : Option FieldType) (en : en_T) (G : List rg_T) (FT : ft_L) (PT : pt_L) (CT : ct_L) (KT : kt_L) (NT : nt_L) (AN : List an_T) (OT : List or_T) (K F : Nat) (an : an_T) : Bool := decide (an.2.2.2.2.1.length = K) && an.2.2.2.2.1.all (fun o => decide (o.1 = 0) || decide (o.2.1 < (an_ts an).length)) && an.2.2.2.2.2.2.2.2.2.2.all (fun f => decide (f.1 < 100)) && chk cc nL rt en G FT PT CT KT NT AN OT an.1 an.2.2.2.2.1 F false (an.1, an_y an, an.2.2.2.1.1, an.2.2.2.1.2, an_fs OT an.2.2.2.2.2.2.2.2.2.2)
def chk_0 (nL : Nat) (en : en_T) (AN : List an_T) : Bool := decide ((en.1.map (fun t => if t.1 = 1 then 2 else 1)).sum ≤ nL) && ((en.2.2.2.2.2.2.1.isEmpty && en.2.2.2.2.2.2.2.2.2.2.2.1.isEmpty) || AN.all (fun an => decide (an_R an = en_nb en))) && en.2.2.2.2.2.2.2.2.2.2.1.all (fun f => decide (f.1 < 100))
theorem chk_mk {cc : ByteArray} {nL : Nat} {rt : Option FieldType} {en : en_T} {G : List rg_T} {FT : ft_L} {PT : pt_L} {CT : ct_L} {KT : kt_L} {NT : nt_L} {AN : List an_T} {OT : List or_T} {K F : Nat} (h0 : chk_0 nL en AN = true) (h1 : ∀ an ∈ AN, chk_an cc nL rt en G FT PT CT KT NT AN OT K F an = true) (h2 : chk cc nL rt en G FT PT CT KT NT AN OT 100000 (List.replicate K me_0) F true (0, en_y en, 0, 0, an_fs OT en.2.2.2.2.2.2.2.2.2.2.1) = true) : chk_all cc nL rt en G FT PT CT KT NT AN OT K F = true := by
  unfold chk_0 at h0
  unfold chk_all
  rw [Bool.and_eq_true, Bool.and_eq_true] at h0
  rw [Bool.and_eq_true, Bool.and_eq_true, Bool.and_eq_true, Bool.and_eq_true]
  exact ⟨⟨⟨⟨h0.1.1, h0.1.2⟩, List.all_eq_true.mpr h1⟩, h0.2⟩, h2⟩
end
section
variable {PQ : pq_T}
/-! frames: a call on a part of the world leaves the rest as it was -/
theorem met_imp {l : Launch} {y : MethodName} {z : List Cond} {rm : Room} {Pc Pc_zq : Array Value → State → Prop} {Qc Qc_zq : Array Value → State → Outcome → State → Prop} {mc ms : Nat} {free free_zq : Addr → Prop} (h : Met l y z rm Pc Qc mc ms free) (hp : ∀ a s, Pc_zq a s → Pc a s) (hq : ∀ a s o t, Pc_zq a s → Qc a s o t → Qc_zq a s o t) (hf : ∀ q, free q → free_zq q) : Met l y z rm Pc_zq Qc_zq mc ms free_zq := by
  intro p e h1 h2 h3 s m args below h4 h5 h6 h7
  obtain ⟨n, o, a1, a2, a3, a4, L, a5, a6⟩ := h p e h1 h2 h3 s m args below h4 h5 (hp _ _ h6) h7
  exact ⟨n, o, a1, a2, a3, hq _ _ _ _ h6 a4, L, a5, fun q hq => hf _ (a6 q hq)⟩
/-- what an end of a contract says, whatever the answer's kind -/
theorem qc_out {D : va_G} {kA : Nat → ClassId} {G : List rg_T} {en : en_T} {ta : Nat → Option Nat} {ws : va_W} {sz : Nat} {bv : List Value} {a : Array Value} {st t : State} {o : Outcome} (h : qc_of PQ D kA G en ta ws sz bv a st o t) : ∃ (u : uS_T) (r : Option Value), o = .returned r ∧ up_ok kA G ta ws en.2.2.1 en.2.2.2.2.2.2.2.2 u ∧ rt_ok u.1 en.2.1 r ∧ po_ok PQ u.1 u.2 bv en.2.2.2.2.2.2.1 en.2.2.2.2.2.2.2.2.2.2.2.1 r ∧ wq D classes (TY kA) (va_A ws sz) u.2 t ∧ va_F (va_A ws sz) st t ∧ (∀ q, en.2.1 = some q → ¬ (q.1 = 0 ∨ q.1 = 5) → q.1 ≠ 1 → ∃ b, r = some (.ref b)) := by
  unfold qc_of at h
  cases hrt : en.2.1 with
  | none =>
    rw [hrt] at h
    obtain ⟨⟨u, e, p1, p2⟩, f⟩ := h
    exact ⟨u, none, e, p1.1, trivial, p1.2, p2, f, fun q hq => by cases hq⟩
  | some rt =>
    rw [hrt] at h
    simp only at h
    split at h
    · rename_i hk
      obtain ⟨⟨r, u, e, p1, p2⟩, f⟩ := h
      exact ⟨u, some (.int r), e, p1.1, p1.2.1, p1.2.2, p2, f, fun q hq h1 => by cases hq; exact absurd hk h1⟩
    · split at h
      · rename_i hk hk2
        obtain ⟨⟨r, u, e, p1, p2⟩, f⟩ := h
        exact ⟨u, some (.long r), e, p1.1, p1.2.1, p1.2.2, p2, f, fun q hq _ h1 => by cases hq; exact absurd hk2 h1⟩
      · obtain ⟨⟨u, b, e, p1, p2⟩, f⟩ := h
        exact ⟨u, some (.ref b), e, p1, p2.1.1, p2.1.2, p2.2, f, fun q _ _ _ => ⟨b, rfl⟩⟩
theorem qc_in {D : va_G} {kA : Nat → ClassId} {G : List rg_T} {en : en_T} {ta : Nat → Option Nat} {ws : va_W} {sz : Nat} {bv : List Value} {a : Array Value} {st t : State} {o : Outcome} {u : uS_T} {r : Option Value} (e : o = .returned r) (p1 : up_ok kA G ta ws en.2.2.1 en.2.2.2.2.2.2.2.2 u) (p2 : rt_ok u.1 en.2.1 r) (p3 : po_ok PQ u.1 u.2 bv en.2.2.2.2.2.2.1 en.2.2.2.2.2.2.2.2.2.2.2.1 r) (p4 : wq D classes (TY kA) (va_A ws sz) u.2 t) (f : va_F (va_A ws sz) st t) (hr : ∀ q, en.2.1 = some q → ¬ (q.1 = 0 ∨ q.1 = 5) → q.1 ≠ 1 → ∃ b, r = some (.ref b)) : qc_of PQ D kA G en ta ws sz bv a st o t := by
  unfold qc_of
  cases hrt : en.2.1 with
  | none =>
    rw [hrt] at p2
    cases r with
    | none => exact ⟨⟨u, e, ⟨p1, p3⟩, p4⟩, f⟩
    | some v => exact p2.elim
  | some rt =>
    rw [hrt] at p2
    cases r with
    | none => exact p2.elim
    | some v =>
      have p2_zq : tv_ok u.1 rt v := p2
      simp only
      split
      · rename_i hk
        have : ∃ x, v = .int x := by
          rcases p2_zq with ⟨_, x, e, _⟩ | ⟨k, _⟩ | ⟨k, _⟩ | ⟨k, _⟩ | ⟨_, x, e, _⟩ | ⟨_, x, e, _⟩
          · exact ⟨x, e⟩
          · omega
          · omega
          · omega
          · exact ⟨x, e⟩
          · exact ⟨x, e⟩
        obtain ⟨x, rfl⟩ := this
        exact ⟨⟨x, u, e, ⟨p1, p2_zq, p3⟩, p4⟩, f⟩
      · rename_i hk
        split
        · rename_i hk2
          have : ∃ x, v = .long x := by
            rcases p2_zq with ⟨k, _⟩ | ⟨_, x, e, _⟩ | ⟨k, _⟩ | ⟨k, _⟩ | ⟨k, _⟩ | ⟨k, _⟩
            · omega
            · exact ⟨x, e⟩
            · omega
            · omega
            · omega
            · omega
          obtain ⟨x, rfl⟩ := this
          exact ⟨⟨x, u, e, ⟨p1, p2_zq, p3⟩, p4⟩, f⟩
        · rename_i hk2
          obtain ⟨b, hb⟩ := hr rt hrt hk hk2
          cases hb
          exact ⟨⟨u, b, e, p1, ⟨p2_zq, p3⟩, p4⟩, f⟩
/-! a part of the world -/
def w_in (P : Nat → Bool) (ws : va_W) : va_W := ws.filter (fun q => P q.1)
def w_out (P : Nat → Bool) (ws : va_W) : va_W := ws.filter (fun q => !P q.1)
def t_in (P : Nat → Bool) (ta : Nat → Option Nat) : Nat → Option Nat := fun a => bif P a then ta a else none
theorem w_in_mem {P : Nat → Bool} {ws : va_W} {q : Nat × va_E} : q ∈ w_in P ws ↔ q ∈ ws ∧ P q.1 = true := List.mem_filter
theorem w_out_mem {P : Nat → Bool} {ws : va_W} {q : Nat × va_E} : q ∈ w_out P ws ↔ q ∈ ws ∧ P q.1 = false := by
  unfold w_out
  rw [List.mem_filter, Bool.not_eq_true']
theorem t_in_some {P : Nat → Bool} {ta : Nat → Option Nat} {a r : Nat} (h : t_in P ta a = some r) : P a = true ∧ ta a = some r := by
  unfold t_in at h
  cases hp : P a with
  | true => rw [hp] at h; exact ⟨rfl, h⟩
  | false => rw [hp] at h; cases h
theorem t_in_of {P : Nat → Bool} {ta : Nat → Option Nat} {a r : Nat} (hp : P a = true) (h : ta a = some r) : t_in P ta a = some r := by
  unfold t_in; rw [hp]; exact h
theorem vd_nd {A : Nat → Prop} {ws : va_W} (h : va_D A ws) : ws.Pairwise (fun p q => p.1 ≠ q.1) := by
  rw [List.pairwise_iff_getElem]
  intro i j hi hj hij e
  have := h.1 i j ws[i] ws[j] (List.getElem?_eq_getElem hi) (List.getElem?_eq_getElem hj) e
  omega
theorem vd_of {A : Nat → Prop} {ws : va_W} (h : ws.Pairwise (fun p q => p.1 ≠ q.1)) (hA : ∀ q ∈ ws, A q.1) : va_D A ws := by
  rw [List.pairwise_iff_getElem] at h
  refine ⟨fun i j p q hi hj e => ?_, fun k q hk => hA q (List.mem_of_getElem? hk)⟩
  obtain ⟨li, ei⟩ := List.getElem?_eq_some_iff.mp hi
  obtain ⟨lj, ej⟩ := List.getElem?_eq_some_iff.mp hj
  rcases Nat.lt_trichotomy i j with c | c | c
  · exact absurd (by rw [ei, ej]; exact e) (h i j li lj c)
  · exact c
  · exact absurd (by rw [ei, ej]; exact e.symm) (h j i lj li c)
theorem vd_filter {A B : Nat → Prop} {ws : va_W} {f : Nat × va_E → Bool} (h : va_D A ws) (hB : ∀ q ∈ ws, f q = true → B q.1) : va_D B (ws.filter f) :=
  vd_of ((vd_nd h).filter f) (fun q hq => hB q (List.mem_filter.mp hq).1 (List.mem_filter.mp hq).2)
theorem vp_mem {D : va_G} {cl : List vw_C} {ws : va_W} {H : Heap} : va_P D cl ws H ↔ ∀ q ∈ ws, va_at D cl q H :=
  ⟨fun h q hq => by obtain ⟨k, hk⟩ := List.mem_iff_getElem?.mp hq; exact h k q hk, fun h k q hk => h q (List.mem_of_getElem? hk)⟩
theorem va_A_mem {ws : va_W} {sz q : Nat} : va_A ws sz q ↔ (∃ e, (q, e) ∈ ws) ∨ sz ≤ q := by
  refine ⟨fun h => h.elim (fun ⟨k, e, hk⟩ => Or.inl ⟨e, List.mem_of_getElem? hk⟩) Or.inr, fun h => h.elim (fun ⟨e, he⟩ => ?_) Or.inr⟩
  obtain ⟨k, hk⟩ := List.mem_iff_getElem?.mp he
  exact Or.inl ⟨k, e, hk⟩
theorem va_A_in {P : Nat → Bool} {ws : va_W} {sz : Nat} : ∀ q, va_A (w_in P ws) sz q → va_A ws sz q := fun q h => by
  rw [va_A_mem] at h ⊢
  exact h.elim (fun ⟨e, he⟩ => Or.inl ⟨e, (w_in_mem.mp he).1⟩) Or.inr
theorem wpr_in {P : Nat → Bool} {kA : Nat → ClassId} {D : va_G} {sz : Nat} {ws : va_W} {U : State} (h : wpr kA D sz ws U) : wpr kA D sz (w_in P ws) U := by
  obtain ⟨⟨h1, h2, h3, h4, h5⟩, h6⟩ := h
  refine ⟨⟨h1, vp_mem.mpr (fun q hq => vp_mem.mp h2 q (w_in_mem.mp hq).1), h3, vd_filter h4 (fun _ _ _ => trivial), h5⟩, ro_go h6 (State.WarmedH.refl U) va_S.rf (fun q hq => va_A_in q hq)⟩
/-- the part that a call works on is as the regions say -/
theorem th_part {P : Nat → Bool} {kA : Nat → ClassId} {G : List rg_T} {ta : Nat → Option Nat} {ws : va_W} (hth : th_ok kA G ta ws) (hro : ∀ r, ro_id r = true → P (kA r) = true) (hcl : ∀ a r g e, ta a = some r → G[r]? = some g → (a, e) ∈ ws → P a = true → rg_ok kA ta g e → rg_ok kA (t_in P ta) g e) : th_ok kA G (t_in P ta) (w_in P ws) := by
  refine ⟨fun a r h => ?_, fun r hr => ?_⟩
  · obtain ⟨hp, ha⟩ := t_in_some h
    rcases hth.1 a r ha with ⟨g, e, h1, h2, h3⟩ | ⟨h1, h2, h3, h4⟩
    · exact Or.inl ⟨g, e, h1, w_in_mem.mpr ⟨h2, hp⟩, hcl a r g e ha h1 h2 hp h3⟩
    · exact Or.inr ⟨h1, h2, h3, fun e he => h4 e (w_in_mem.mp he).1⟩
  · obtain ⟨r_zq, h1, h2, h3⟩ := hth.2 r hr
    exact ⟨r_zq, h1, t_in_of (hro r hr) h2, h3⟩
/-- behind the call: the rest and the part's new world together -/
theorem fr_join {P : Nat → Bool} {D : va_G} {kA : Nat → ClassId} {G : List rg_T} {ta : Nat → Option Nat} {ws : va_W} {sz : Nat} {mo : mo_T} {pu : Bool} {u : uS_T} {st t : State} (hth : th_ok kA G ta ws) (hro : ∀ r, ro_id r = true → P (kA r) = true) (hW : wpr kA D sz ws st) (hu : up_ok kA G (t_in P ta) (w_in P ws) pu mo u) (hq : wq D classes (TY kA) (va_A (w_in P ws) sz) u.2 t) (hF : va_F (va_A (w_in P ws) sz) st t) :
    ∃ tb, ta_le ta tb ∧ ta_le u.1 tb ∧ th_ok kA G tb (w_out P ws ++ u.2) ∧ kp mo ta ws (w_out P ws ++ u.2) ∧ wq D classes (TY kA) (va_A ws sz) (w_out P ws ++ u.2) t ∧ va_F (va_A ws sz) st t := by
  obtain ⟨⟨w1, w2, w3, w4, w5⟩, w6⟩ := hW
  obtain ⟨u1, u2, _, u4⟩ := hu
  obtain ⟨q1, q2, q3⟩ := hq
  obtain ⟨f1, f2⟩ := hF
  -- the rest's addresses
  have hlt : ∀ q ∈ ws, q.1 < sz := fun q hq => by rw [← w1]; exact (vp_mem.mp w2 q hq).lt
  have rest_no : ∀ q ∈ w_out P ws, ¬ va_A (w_in P ws) sz q.1 := fun q hq c => by
    obtain ⟨h1, h2⟩ := w_out_mem.mp hq
    rcases va_A_mem.mp c with ⟨e, he⟩ | c
    · have := (w_in_mem.mp he).2
      rw [h2] at this; cases this
    · have := hlt q h1; omega
  have apart : ∀ p ∈ w_out P ws, ∀ q ∈ u.2, p.1 ≠ q.1 := fun p hp q hq e => by
    obtain ⟨k, hk⟩ := List.mem_iff_getElem?.mp hq
    have := q3.2 k q hk
    rw [← e] at this
    exact rest_no p hp this
  have hR : ∃ R : Nat → Bool, ∀ a, R a = true ↔ ∃ e, (a, e) ∈ w_out P ws := ⟨fun a => @decide (∃ e, (a, e) ∈ w_out P ws) (Classical.propDecidable _), fun a => @decide_eq_true_iff _ (Classical.propDecidable _)⟩
  obtain ⟨R, hR⟩ := hR
  obtain ⟨tb, htb⟩ : ∃ tb : Nat → Option Nat, ∀ a, tb a = if R a = true then ta a else u.1 a := ⟨fun a => if R a = true then ta a else u.1 a, fun _ => rfl⟩
  have le1 : ta_le ta tb := fun a r h => by
    rw [htb]
    by_cases c : R a = true
    · rw [if_pos c]; exact h
    · rw [if_neg c]
      refine u1 a r (t_in_of ?_ h)
      cases hp : P a with
      | true => rfl
      | false =>
        exfalso
        rcases hth.1 a r h with ⟨g, e, _, h2, _⟩ | ⟨_, h2, h3, _⟩
        · exact c ((hR a).mpr ⟨e, w_out_mem.mpr ⟨h2, hp⟩⟩)
        · have := hro r h2
          rw [← h3, hp] at this; cases this
  have le2 : ta_le u.1 tb := fun a r h => by
    rw [htb]
    by_cases c : R a = true
    · exfalso
      obtain ⟨e, he⟩ := (hR a).mp c
      rcases u2.1 a r h with ⟨g, e2, _, h2, _⟩ | ⟨_, h2, h3, _⟩
      · exact apart _ he _ h2 rfl
      · have := hro r h2
        rw [← h3, (w_out_mem.mp he).2] at this; cases this
    · rw [if_neg c]; exact h
  refine ⟨tb, le1, le2, ⟨fun a r h => ?_, fun r hr => ?_⟩, ⟨fun a ci fs h => ?_, fun a r x h1 h2 h3 => ?_⟩, ⟨vp_mem.mpr (fun q hq => ?_), q2, vd_of ?_ (fun q hq => ?_)⟩, f1, fun q h1 h2 => f2 q h1 (fun c => h2 (va_A_in q c))⟩
  · -- kinds
    rw [htb] at h
    by_cases c : R a = true
    · rw [if_pos c] at h
      obtain ⟨e0, he0⟩ := (hR a).mp c
      rcases hth.1 a r h with ⟨g, e, h1, h2, h3⟩ | ⟨h1, h2, h3, h4⟩
      · refine Or.inl ⟨g, e, h1, List.mem_append_left _ (w_out_mem.mpr ⟨h2, (w_out_mem.mp he0).2⟩), rg_mono le1 h3⟩
      · exact absurd (w_out_mem.mp he0).1 (h4 e0)
    · rw [if_neg c] at h
      rcases u2.1 a r h with ⟨g, e, h1, h2, h3⟩ | ⟨h1, h2, h3, h4⟩
      · exact Or.inl ⟨g, e, h1, List.mem_append_right _ h2, rg_mono le2 h3⟩
      · refine Or.inr ⟨h1, h2, h3, fun e he => ?_⟩
        rcases List.mem_append.mp he with he | he
        · exact c ((hR a).mpr ⟨e, he⟩)
        · exact h4 e he
  · obtain ⟨r_zq, h1, h2, h3⟩ := u2.2 r hr
    exact ⟨r_zq, h1, le2 _ _ h2, h3⟩
  · -- what is kept: objects
    cases hp : P a with
    | false => exact ⟨fs, List.mem_append_left _ (w_out_mem.mpr ⟨h, hp⟩), fun _ _ _ _ => rfl⟩
    | true =>
      obtain ⟨fs_zq, m1, m2⟩ := u4.1 a ci fs (w_in_mem.mpr ⟨h, hp⟩)
      exact ⟨fs_zq, List.mem_append_right _ m1, fun r k hr hk => m2 r k (t_in_of hp hr) hk⟩
  · cases hp : P a with
    | false => exact List.mem_append_left _ (w_out_mem.mpr ⟨h3, hp⟩)
    | true => exact List.mem_append_right _ (u4.2 a r x (t_in_of hp h1) h2 (w_in_mem.mpr ⟨h3, hp⟩))
  · rcases List.mem_append.mp hq with hq | hq
    · have h1 := (w_out_mem.mp hq).1
      exact (vp_mem.mp w2 q h1).kept (f2 q.1 (by rw [w1]; exact hlt q h1) (rest_no q hq))
    · exact vp_mem.mp q1 q hq
  · rw [List.pairwise_append]
    exact ⟨(vd_nd w4).filter _, vd_nd q3, fun p hp q hq => apart p hp q hq⟩
  · rcases List.mem_append.mp hq with hq | hq
    · exact va_A_mem.mpr (Or.inl ⟨q.2, (w_out_mem.mp hq).1⟩)
    · obtain ⟨k, hk⟩ := List.mem_iff_getElem?.mp hq
      exact va_A_in _ (q3.2 k q hk)
/-- a contract on a part of the world: its own facts (on the part) give other facts (on the whole), where the rest is as it was -/
theorem ct_frame {l : Launch} {D : va_G} {kA : Nat → ClassId} {G : List rg_T} {y : MethodName} {z : List Cond} {en en2 : en_T} (h : ct_ok PQ l D kA G y z en) (e1 : en2.1 = en.1) (e2 : en2.2.1 = en.2.1) (e3 : en2.2.2.1 = false) (e4 : en2.2.2.2.1 = en.2.2.2.1) (e5 : en2.2.2.2.2.1 = en.2.2.2.2.1) (e6 : en2.2.2.2.2.2.1 = en.2.2.2.2.2.1) (e7 : en2.2.2.2.2.2.2.1 = [])
    (e8 : en2.2.2.2.2.2.2.2.2.1 = en.2.2.2.2.2.2.2.2.1) (e9 : en2.2.2.2.2.2.2.2.2.2.1 = en.2.2.2.2.2.2.2.2.2.1)
    (hpart : ∀ (ta : Nat → Option Nat) (ws : va_W) (av gv hv : List Value), va_D (fun _ => True) ws → th_ok kA G ta ws → ag_ok ta en2.1 av → gv_ok ta ws av en2.2.2.2.2.2.2.2.1 gv → ag_ok ta en2.2.2.2.2.2.2.2.2.2.2.2.2 hv → pr_ok PQ en2 ws (av ++ gv ++ hv) →
      ∃ (P : Nat → Bool) (gv1 hv1 : List Value), (∀ r, ro_id r = true → P (kA r) = true) ∧ (∀ a r g e, ta a = some r → G[r]? = some g → (a, e) ∈ ws → P a = true → rg_ok kA ta g e → rg_ok kA (t_in P ta) g e) ∧ ag_ok (t_in P ta) en.1 av ∧ gv_ok (t_in P ta) (w_in P ws) av en.2.2.2.2.2.2.2.1 gv1 ∧ ag_ok (t_in P ta) en.2.2.2.2.2.2.2.2.2.2.2.2 hv1 ∧ pr_ok PQ en (w_in P ws) (av ++ gv1 ++ hv1) ∧
        ∀ (u : uS_T) (tb : Nat → Option Nat) (r : Option Value), th_ok kA G u.1 u.2 → th_ok kA G tb (w_out P ws ++ u.2) → ta_le ta tb → ta_le u.1 tb → kp en.2.2.2.2.2.2.2.2 (t_in P ta) (w_in P ws) u.2 → va_D (fun _ => True) (w_out P ws ++ u.2) → (∀ f ∈ en.2.2.2.2.2.2.2.2.2.2.2.1, fc_1 PQ f u.2 ((av ++ gv1 ++ hv1) ++ r.toList)) → ∀ f ∈ en2.2.2.2.2.2.2.2.2.2.2.2.1, fc_1 PQ f (w_out P ws ++ u.2) ((av ++ gv ++ hv) ++ r.toList)) : ct_ok PQ l D kA G y z en2 := by
  intro sz ta ws av gv hv hth hag hgv hhv hpr
  by_cases hD0 : va_D (fun _ => True) ws
  · obtain ⟨P, gv1, hv1, hro, hcl, k1, k2, k3, k4, hend⟩ := hpart ta ws av gv hv hD0 hth hag hgv hhv hpr
    have hM := h sz (t_in P ta) (w_in P ws) av gv1 hv1 (th_part hth hro hcl) k1 k2 k3 k4
    rw [e4, e5, e6]
    refine met_imp hM (fun a s ⟨c1, c2⟩ => ⟨c1, wpr_in c2⟩) (fun a s o t ⟨c1, c2⟩ hQ => ?_) (fun q hq => va_A_in q hq)
    obtain ⟨u, r, eo, p1, p2, p3, p4, p5, p6⟩ := qc_out hQ
    obtain ⟨tb, j1, j2, j3, j4, j5, j6⟩ := fr_join hth hro c2 p1 p4 p5
    refine qc_in (u := (tb, w_out P ws ++ u.2)) eo ⟨j1, j3, fun c => ?_, ?_⟩ ?_ ⟨?_, Or.inl e7⟩ j5 j6 (fun q hq => p6 q (by rw [← e2]; exact hq))
    · rw [e3] at c; cases c
    · exact kp_mono (mo := en.2.2.2.2.2.2.2.2) (fun q hq => by rw [e9]; exact hq) (fun r hr => by rw [e8] at hr; exact hr) j4
    · rw [e2]
      revert p2
      cases en.2.1 with
      | none => cases r with | none => exact id | some v => exact id
      | some t => cases r with | none => exact id | some v => exact fun p => tv_mono j2 p
    · exact hend u tb r p1.2.1 j3 j1 j2 p1.2.2.2 (j5.2.2.weaken (fun _ _ _ _ => trivial)) p3.1
  · -- no such world
    intro p e h1 h2 h3 s m args below h4 h5 h6 h7
    exact absurd h6.2.1.2.2.2.1 hD0
end
section
variable {PQ : pq_T}
/-! what proofs of oracles use -/
theorem fc_un {f : fc_T} {r : List fc_T} {ta : Nat → Option Nat} {ws : va_W} {vs : List Value} (hl : f.1 < 100) (h : fc_ok PQ (f :: r) ta ws vs) : fc_m PQ f.1 (f.2.1.map (n_v vs)) f.2.2 ws ∧ fc_ok PQ r ta ws vs := by
  unfold fc_ok at h
  rw [if_pos hl] at h
  exact ⟨h.1.2, h.2⟩
theorem fc_us {f : fc_T} {r : List fc_T} {ta : Nat → Option Nat} {ws : va_W} {vs : List Value} (hl : ¬ f.1 < 100) (h : fc_ok PQ (f :: r) ta ws vs) : ∃ ta0 w0, ta_le ta0 ta ∧ fc_s f ta0 w0 ws vs ∧ fc_ok PQ r ta0 w0 vs := by
  unfold fc_ok at h
  rw [if_neg hl] at h
  exact h
theorem tv_rng {ta : Nat → Option Nat} {lo hi : Int} {rs : List Nat} {v : Value} (h : tv_ok ta (0, lo, hi, rs) v) : lo ≤ v_iv v ∧ v_iv v ≤ hi := by
  obtain ⟨x, rfl, a, b⟩ := tv_int h rfl
  exact ⟨a, b⟩
theorem tv_rg {ta : Nat → Option Nat} {lo hi : Int} {r : Nat} {v : Value} (h : tv_ok ta (2, lo, hi, [r]) v) : ta (v_ad v) = some r := by
  obtain ⟨a, r_zq, rfl, h1, h2⟩ := tv_ref h rfl
  rw [List.mem_singleton.mp h2] at h1
  exact h1
theorem tv_in {ta : Nat → Option Nat} {lo hi lo_zq hi_zq : Int} {rs rs_zq : List Nat} {v : Value} (h : tv_ok ta (0, lo, hi, rs) v) (h1 : lo_zq ≤ v_iv v) (h2 : v_iv v ≤ hi_zq) : tv_ok ta (0, lo_zq, hi_zq, rs_zq) v := by
  obtain ⟨x, rfl, _, _⟩ := tv_int h rfl
  exact Or.inl ⟨rfl, x, rfl, h1, h2⟩
/-- an int that is wanted -/
theorem iv_ex {ta : Nat → Option Nat} {lo hi z : Int} (h1 : lo ≤ z) (h2 : z ≤ hi) (h3 : -2147483648 ≤ lo) (h4 : hi ≤ 2147483647) : ∃ x : Int32, x.toInt = z ∧ tv_ok ta (0, lo, hi, []) (.int x) := by
  refine ⟨Int32.ofInt z, ?_, ?_⟩
  · exact Int32.toInt_ofInt_of_le (by omega) (by omega)
  · have e : (Int32.ofInt z).toInt = z := Int32.toInt_ofInt_of_le (by omega) (by omega)
    exact Or.inl ⟨rfl, _, rfl, by show lo ≤ (Int32.ofInt z).toInt; rw [e]; exact h1, by show (Int32.ofInt z).toInt ≤ hi; rw [e]; exact h2⟩
/-- elements of the world are of the kinds of their regions -/
theorem th_el {kA : Nat → ClassId} {G : List rg_T} {A : Nat → Prop} {ta : Nat → Option Nat} {ws : va_W} (hD : va_D A ws) (hth : th_ok kA G ta ws) {a r : Nat} (ha : ta a = some r) {kd n m : Nat} {lo hi : Int} {rs : List Nat} {L : List tv_T} (hg : G[r]? = some (kd, n, m, (0, lo, hi, rs), L)) (hk : kd < 3) {j : Nat} (hj : j < n) : lo ≤ w_el ws a j ∧ w_el ws a j ≤ hi := by
  obtain ⟨e, h2, h3⟩ := th_in hth ha hg
  rcases h3 with ⟨_, n_zq, f, rfl, l1, l2, _, hf, _⟩ | ⟨z, _⟩ | ⟨z, _⟩ | ⟨z, _⟩
  · have := tv_rng (hf j (Nat.lt_of_lt_of_le hj l1))
    unfold w_el
    rw [w_at_mem hD h2]
    exact this
  · exact absurd z (by show ¬ kd = 3; omega)
  · exact absurd z (by show ¬ 4 ≤ kd; omega)
  · exact absurd z (by show ¬ 10 ≤ kd; omega)
theorem sum_bd {ws : va_W} {a : Nat} {lo hi : Int} : ∀ {n : Nat}, (∀ j, j < n → lo ≤ w_el ws a j ∧ w_el ws a j ≤ hi) → n * lo ≤ w_sum ws a n ∧ w_sum ws a n ≤ n * hi
  | 0, _ => by unfold w_sum; omega
  | n + 1, h => by
    have ih := sum_bd (n := n) (fun j hj => h j (by omega))
    have := h n (by omega)
    unfold w_sum
    rw [Int.natCast_add, Int.add_mul, Int.add_mul]
    omega
theorem sum_eq {w0 w1 : va_W} {a : Nat} : ∀ {n : Nat}, (∀ j, j < n → w_el w1 a j = w_el w0 a j) → w_sum w1 a n = w_sum w0 a n
  | 0, _ => rfl
  | n + 1, h => by
    unfold w_sum
    rw [sum_eq (n := n) (fun j hj => h j (by omega)), h n (by omega)]
theorem sum_set {w0 w1 : va_W} {a i : Nat} {v : Int} (h : ∀ b j, w_el w1 b j = if b = a ∧ j = i then v else w_el w0 b j) : ∀ {n : Nat}, i < n → w_sum w1 a n = w_sum w0 a n - w_el w0 a i + v
  | 0, hi => by omega
  | n + 1, hi => by
    unfold w_sum
    by_cases e : i = n
    · subst e
      have e1 : w_sum w1 a i = w_sum w0 a i := sum_eq (fun j hj => by rw [h a j, if_neg (by omega)])
      have e2 : w_el w1 a i = v := by rw [h a i, if_pos ⟨rfl, rfl⟩]
      omega
    · have e1 := sum_set h (n := n) (by omega)
      have e2 : w_el w1 a n = w_el w0 a n := by rw [h a n, if_neg (by omega)]
      omega
theorem el_ne {w0 w1 : va_W} {a i b j : Nat} {v : Int} (h : ∀ b j, w_el w1 b j = if b = a ∧ j = i then v else w_el w0 b j) (hn : b ≠ a ∨ j ≠ i) : w_el w1 b j = w_el w0 b j := by
  rw [h b j, if_neg (by omega)]
theorem ag_one {ta : Nat → Option Nat} {t : tv_T} {v : Value} (h : tv_ok ta t v) : ag_ok ta [t] [v] := ⟨h, trivial⟩
theorem n_v_new {vs : List Value} {v : Value} {n : Nat} (h : vs.length = n) : n_v (vs ++ [v]) n = v := by
  unfold n_v
  rw [List.getElem?_append_right (by omega), h, Nat.sub_self]; rfl
theorem n_v_old {vs xs : List Value} {m : Nat} (h : m < vs.length) : n_v (vs ++ xs) m = n_v vs m := by
  unfold n_v
  rw [List.getElem?_append_left h]
theorem th_fd {kA : Nat → ClassId} {G : List rg_T} {A : Nat → Prop} {ta : Nat → Option Nat} {ws : va_W} (hD : va_D A ws) (hth : th_ok kA G ta ws) {a r : Nat} (ha : ta a = some r) {g : rg_T} (hg : G[r]? = some g) {k : Nat} {t : tv_T} (hk : g.2.2.2.2[k]? = some t) (h10 : decide (10 ≤ g.1) = true) : tv_ok ta t (w_fd ws a k) := by
  obtain ⟨e, h2, h3⟩ := th_in hth ha hg
  have h10_zq : 10 ≤ g.1 := by simpa using h10
  rcases h3 with ⟨z, _⟩ | ⟨z, _⟩ | ⟨_, z, _⟩ | ⟨_, fs, rfl, l1, hf⟩
  · omega
  · omega
  · omega
  · have hlt := (List.getElem?_eq_some_iff.mp hk).1
    rw [← l1] at hlt
    have hv := List.getElem?_eq_getElem hlt
    unfold w_fd
    rw [w_at_mem hD h2]
    simp only
    rw [List.getD_eq_getElem?_getD, hv]
    exact hf k t _ hk hv
theorem n_v_some {vs : List Value} {n : Nat} {v : Value} (hn : n < vs.length) (h : n_v vs n = v) : vs[n]? = some v := by
  unfold n_v at h
  rw [List.getElem?_eq_getElem hn] at h ⊢
  rw [← h]; rfl
/-- System.arraycopy of ints and bytes, where both ends lie in the rows -/
theorem cl_copy {l : Launch} {D : va_G} {kA : Nat → ClassId} {G : List rg_T} {own : String} {index r1 r2 kd n1 m1 n2 m2 rk : Nat} {lo1 hi1 lo2 hi2 p1 p2 p3 : Int} {rs1 rs2 : List Nat} (hg1 : G[r1]? = some (kd, n1, m1, (0, lo1, hi1, rs1), [])) (hg2 : G[r2]? = some (kd, n2, m2, (0, lo2, hi2, rs2), [])) (hkd : (decide (kd = 0) || (decide (kd = 1) && decide (-128 ≤ lo1) && decide (hi1 ≤ 127))) = true) (hle : (decide (lo2 ≤ lo1) && decide (hi1 ≤ hi2)) = true) (hrk : 1 ≤ rk)
    (hl : Cond.methodLink own index arraycopyName ∈ lw_g) (hnat : Cond.native arraycopyName ∈ lw_g) (hst : Cond.static arraycopyName ∈ lw_g) (hini : Cond.initialized "java/lang/System" ∈ lw_g) :
    cl_ok PQ l D kA G own (.invokestatic index) 3 ([(2, 0, 0, [r1]), (0, 0, p1, []), (2, 0, 0, [r2]), (0, 0, p2, []), (0, 0, p3, [])], none, false, rk, 0, 0, [], [], (2 ^ r2, [], [(21, [1, 4], [(n1 : Int)]), (21, [3, 4], [(n2 : Int)])], [], [])) := by
  intro p e R s m args below meth c H locs cells slots Q cc pc nL ret nm A ws ta ls av gv hv rest X hK hN hA hP hD hS hth hag hgv hhv hpr hrest hfr hlo hce hsl hls hdec kk
  have hag_zq : ag_ok ta [(2, 0, 0, [r1]), (0, 0, p1, []), (2, 0, 0, [r2]), (0, 0, p2, []), (0, 0, p3, [])] av := hag
  cases hv with
  | cons _ _ => exact hhv.elim
  | nil =>
  cases gv with
  | cons _ _ => exact hgv.elim
  | nil =>
  match av, hag_zq with
  | [v0, v1, v2, v3, v4], ⟨h0, h1, h2, h3, h4, _⟩ =>
    obtain ⟨a0, q0r, rfl, ha0, hr0⟩ := tv_ref h0 rfl
    obtain ⟨sp, rfl, sp1, sp2⟩ := tv_int h1 rfl
    obtain ⟨a1, q1r, rfl, ha1, hr1⟩ := tv_ref h2 rfl
    obtain ⟨dp, rfl, dp1, dp2⟩ := tv_int h3 rfl
    obtain ⟨n, rfl, nn1, nn2⟩ := tv_int h4 rfl
    rw [List.mem_singleton.mp hr0] at ha0
    rw [List.mem_singleton.mp hr1] at ha1
    have e1 : v_iv (.int sp) + v_iv (.int n) ≤ n1 := (hpr (21, [1, 4], [(n1 : Int)]) List.mem_cons_self).2
    have e2 : v_iv (.int dp) + v_iv (.int n) ≤ n2 := (hpr (21, [3, 4], [(n2 : Int)]) (List.mem_cons_of_mem _ List.mem_cons_self)).2
    have e1_zq : sp.toInt + n.toInt ≤ n1 := e1
    have e2_zq : dp.toInt + n.toInt ≤ n2 := e2
    have sp0 : 0 ≤ sp.toInt := sp1
    have dp0 : 0 ≤ dp.toInt := dp1
    have n0 : 0 ≤ n.toInt := nn1
    simp only [Bool.or_eq_true, Bool.and_eq_true, decide_eq_true_eq] at hkd hle
    obtain ⟨i0, c0, hq0, hgo0⟩ := th_at hth ha0 hg1
    obtain ⟨i1, c1, hq1, hgo1⟩ := th_at hth ha1 hg2
    have hk3 : kd < 3 := by omega
    have hkk : kd = 0 ∨ kd = 1 := by omega
    rcases hgo0 with ⟨_, l0, f, rfl, la1, la2, _, hf, _⟩ | ⟨z, _⟩ | ⟨z, _⟩ | ⟨z, _⟩
    rotate_left
    · exact absurd z (by show ¬ kd = 3; omega)
    · exact absurd z (by show ¬ 4 ≤ kd; omega)
    · exact absurd z (by show ¬ 10 ≤ kd; omega)
    rcases hgo1 with ⟨z1, l1, g, rfl, lb1, lb2, lb3, hg, hg_zq⟩ | ⟨z, _⟩ | ⟨z, _⟩ | ⟨z, _⟩
    rotate_left
    · exact absurd z (by show ¬ kd = 3; omega)
    · exact absurd z (by show ¬ 4 ≤ kd; omega)
    · exact absurd z (by show ¬ 10 ≤ kd; omega)
    have la1_zq : n1 ≤ l0 := la1
    have lb1_zq : n2 ≤ l1 := lb1
    have lt0 : ∀ x : Int32, 0 ≤ x.toInt → ¬ x < 0 := fun x hx q => by have h7 := i32_lt.mp q; rw [show (0 : Int32).toInt = 0 from rfl] at h7; omega
    have tn : ∀ x : Int32, x.toNatClampNeg = x.toInt.toNat := fun _ => rfl
    have hml : c.maxLocals = ls.size := X.2.2.1.trans hls.symm
    have room : (rest.map fun v => v.category).sum + (nativeFrameWords "java/lang/System" "arraycopy" 5 + 11) ≤ R.locals := by
      have : nativeFrameWords "java/lang/System" "arraycopy" 5 ≤ 30 := by decide +kernel
      have h64 : 64 * (rk + 1) ≤ R.locals := hlo
      omega
    have hfr1 : 1 ≤ R.frames := by have : rk + 1 ≤ R.frames := hfr; omega
    have fin : ∀ (H1 : Heap) (locs1 : List Loc), va_P D classes (ws.set i1 (a1, .inl (kA kd, l1, .inl (va_cpy f g sp.toNatClampNeg dp.toNatClampNeg n.toNatClampNeg)))) H1 → va_D A (ws.set i1 (a1, .inl (kA kd, l1, .inl (va_cpy f g sp.toNatClampNeg dp.toNatClampNeg n.toNatClampNeg)))) → va_S A s.heap H1 locs1 → W p l e R s m args below meth c H1 locs1 cells slots Q (F0 m (pc + 3) ls rest) := fun H1 locs1 g1 g2 g3 => by
      refine kk ta _ H1 locs1 none (fun _ _ q => q) (th_set hD hth hq1 ha1 hg2 (Or.inl ⟨hk3, l1, _, rfl, lb1, lb2, lb3, fun j hj => ?_, fun j t_zq hj ht_zq => by cases ht_zq⟩)) g1 g2 g3 trivial ⟨fun f hf => (by cases hf), Or.inl rfl⟩ (fun q => by cases q) (kp_arr hq1 ha1 (by show (2 ^ r2).testBit r2 = true; rw [Nat.testBit_two_pow_self]))
      unfold va_cpy
      split
      · rename_i hc
        have := tv_rng (hf (sp.toNatClampNeg + (j - dp.toNatClampNeg)) (by rw [tn, tn] at *; omega))
        exact Or.inl ⟨rfl, _, rfl, by show lo2 ≤ _; have q : lo1 ≤ (f (sp.toNatClampNeg + (j - dp.toNatClampNeg))).toInt := this.1; omega, by show _ ≤ hi2; have q : (f (sp.toNatClampNeg + (j - dp.toNatClampNeg))).toInt ≤ hi1 := this.2; omega⟩
      · exact hg j hj
    rcases hkk with rfl | rfl
    · exact va_copyi X.1 X.2.1 hml X.2.2.2.1 (X.2.2.2.2.1 _ hl) (X.2.2.2.2.1 _ hnat) (X.2.2.2.2.1 _ hst) (X.2.2.2.2.1 _ hini) hK hP hD hS i0 i1 0 0 hq0 hq1 rfl rfl rfl (lt0 _ sp0) (lt0 _ dp0) (lt0 _ n0) (by rw [tn, tn]; omega) (by rw [tn, tn]; omega) (fun i hi => rfl) hfr1 room hdec fin
    · refine va_copyi X.1 X.2.1 hml X.2.2.2.1 (X.2.2.2.2.1 _ hl) (X.2.2.2.2.1 _ hnat) (X.2.2.2.2.1 _ hst) (X.2.2.2.2.1 _ hini) hK hP hD hS i0 i1 1 1 hq0 hq1 rfl rfl rfl (lt0 _ sp0) (lt0 _ dp0) (lt0 _ n0) (by rw [tn, tn]; omega) (by rw [tn, tn]; omega) (fun i hi => ?_) hfr1 room hdec fin
      have := tv_rng (hf (sp.toNatClampNeg + i) (by rw [tn, tn] at *; omega))
      have q1 : lo1 ≤ (f (sp.toNatClampNeg + i)).toInt := this.1
      have q2 : (f (sp.toNatClampNeg + i)).toInt ≤ hi1 := this.2
      generalize f (sp.toNatClampNeg + i) = x at q1 q2 ⊢
      have e9 : x.toInt8.toInt32.toInt = x.toInt := by
        rw [Int8.toInt_toInt32, Int32.toInt_toInt8]
        exact Int.bmod_eq_of_le_mul_two (by show -(256 : Int) ≤ _; omega) (by show _ < (256 : Int); omega)
      rw [← Int32.toInt_inj.mp e9]
      exact pk_fb _
/-- a contract without its ends -/
theorem cl_nopa {l : Launch} {D : va_G} {kA : Nat → ClassId} {G : List rg_T} {own : String} {op : ClassFile.Instr} {len : Nat} {a : List tv_T} {rt : Option tv_T} {pu : Bool} {rk mc ms : Nat} {PA : List sy_T} {ga : ga_L} {mo : mo_T} (h : cl_ok PQ l D kA G own op len (a, rt, pu, rk, mc, ms, PA, ga, mo)) : cl_ok PQ l D kA G own op len (a, rt, pu, rk, mc, ms, [], ga, mo) := by
  intro p e R s m args below meth c H locs cells slots Q cc pc nL ret nm A ws ta ls av gv hv rest X hK hN hA hP hD hS hth hag hgv hhv hpr hrest hfr hlo hce hsl hls hdec kk
  exact h p e R s m args below meth c H locs cells slots Q cc pc nL ret nm A ws ta ls av gv hv rest X hK hN hA hP hD hS hth hag hgv hhv hpr hrest hfr hlo hce hsl hls hdec (fun tb w1 H1 locs1 r b1 b2 b3 b4 b5 b6 b8 b7 b9 => kk tb w1 H1 locs1 r b1 b2 b3 b4 b5 b6 ⟨b8.1, Or.inl rfl⟩ b7 b9)
/-! what looks at things that never change -/
theorem ro_ref {kA : Nat → ClassId} {G : List rg_T} {ta : Nat → Option Nat} {ws : va_W} (hth : th_ok kA G ta ws) {r : Nat} (hr : ro_id r = true) (h5 : r < 5500) : tv_ok ta (2, 0, 0, [r]) (.ref (kA r)) := by
  obtain ⟨r_zq, _, h2, h3⟩ := hth.2 r hr
  rw [h3 h5] at h2
  exact Or.inr (Or.inr (Or.inl ⟨rfl, _, r, rfl, h2, List.mem_singleton.mpr rfl⟩))
theorem ro_is {kA : Nat → ClassId} {G : List rg_T} {ta : Nat → Option Nat} {ws : va_W} (hth : th_ok kA G ta ws) {r : Nat} (hg : G[r]? = none) {v : Value} (h : tv_ok ta (2, 0, 0, [r]) v) : v = .ref (kA r) := by
  obtain ⟨a, r_zq, rfl, h1, h2⟩ := tv_ref h rfl
  rw [List.mem_singleton.mp h2] at h1
  rcases hth.1 a r h1 with ⟨g, e, z, _⟩ | ⟨_, _, z, _⟩
  · rw [hg] at z; cases z
  · rw [z]
abbrev en_ro (as : List tv_T) (t : tv_T) : en_T := (as, some t, true, 0, 0, 0, [], [], (0, [], [], [], []))
/-- a step that only looks -/
theorem cl_look {l : Launch} {D : va_G} {kA : Nat → ClassId} {G : List rg_T} {own : String} {op : ClassFile.Instr} {len : Nat} {as : List tv_T} {t : tv_T}
    (h : ∀ (p : Program) (e : Env) (R : Room) (s : State) (m : MethodId) (args : Array Value) (below : List Frame) (meth : Method) (c : Code) (H : Heap) (locs : List Loc) (cells slots : Nat) (Q : State → Prop) (cc : ByteArray) (pc nL : Nat) (ret : Option FieldType) (nm : String) (A : Nat → Prop) (ws : va_W) (ta : Nat → Option Nat) (ls : Array Slot) (av rest : List Value),
      cx p s m args meth c cc nL ret own nm → nsr kA A s → va_S A s.heap H locs → th_ok kA G ta ws → ag_ok ta as av → decode cc pc = .ok (op, len) → (∀ v, tv_ok ta t v → W p l e R s m args below meth c H locs cells slots Q (F0 m (pc + len) ls (v :: rest))) → W p l e R s m args below meth c H locs cells slots Q (F0 m pc ls (av.reverse ++ rest))) : cl_ok PQ l D kA G own op len (en_ro as t) := by
  intro p e R s m args below meth c H locs cells slots Q cc pc nL ret nm A ws ta ls av gv hv rest X hK hN hA hP hD hS hth hag hgv hhv hpr hrest hfr hlo hce hsl hls hdec kk
  refine h p e R s m args below meth c H locs cells slots Q cc pc nL ret nm A ws ta ls av rest X hN hS hth hag hdec (fun v hv2 => ?_)
  exact kk ta ws H locs (some v) (fun _ _ q => q) hth hP hD hS hv2 ⟨fun f hf => absurd hf List.not_mem_nil, Or.inl rfl⟩ (fun _ => rfl) kp_refl
theorem cl_ldc {l : Launch} {D : va_G} {kA : Nat → ClassId} {G : List rg_T} {own tx : String} {idx i : Nat} (h : (own, idx, tx, i) ∈ ro_tab) (hi : ro_id (5000 + i) = true) (h5 : 5000 + i < 5500) : cl_ok PQ l D kA G own (.ldc idx) 2 (en_ro [] (2, 0, 0, [5000 + i])) := by
  refine cl_look (fun p e R s m args below meth c H locs cells slots Q cc pc nL ret nm A ws ta ls av rest X hN hS hth hag hdec kk => ?_)
  cases av with
  | cons _ _ => exact hag.elim
  | nil => exact va_ldcS X.1 X.2.1 X.2.2.2.1 (hN.2.2.2.1 _ h) hdec (kk _ (ro_ref hth hi h5))
theorem cl_ldcw {l : Launch} {D : va_G} {kA : Nat → ClassId} {G : List rg_T} {own tx : String} {idx i : Nat} (h : (own, idx, tx, i) ∈ ro_tab) (hi : ro_id (5000 + i) = true) (h5 : 5000 + i < 5500) : cl_ok PQ l D kA G own (.ldc_w idx) 3 (en_ro [] (2, 0, 0, [5000 + i])) := by
  refine cl_look (fun p e R s m args below meth c H locs cells slots Q cc pc nL ret nm A ws ta ls av rest X hN hS hth hag hdec kk => ?_)
  cases av with
  | cons _ _ => exact hag.elim
  | nil => exact va_ldcwS X.1 X.2.1 X.2.2.2.1 (hN.2.2.2.1 _ h) hdec (kk _ (ro_ref hth hi h5))
theorem cl_compact {l : Launch} {D : va_G} {kA : Nat → ClassId} {G : List rg_T} {own : String} {idx : Nat} (h : Cond.fieldLink own idx "java/lang/String" "COMPACT_STRINGS" "Z" ∈ lw_g) : cl_ok PQ l D kA G own (.getstatic idx) 3 (en_ro [] (0, 1, 1, [])) := by
  refine cl_look (fun p e R s m args below meth c H locs cells slots Q cc pc nL ret nm A ws ta ls av rest X hN hS hth hag hdec kk => ?_)
  cases av with
  | cons _ _ => exact hag.elim
  | nil => exact va_gets X.1 X.2.1 hN.2.2.2.2.1 hS X.2.2.2.1 (X.2.2.2.2.1 _ h) (fun _ q => q) hdec (kk _ (Or.inl ⟨rfl, 1, rfl, by decide, by decide⟩))
def ro_strs : List Nat := (List.range ro_N).map (fun i => 5000 + i)
def ro_ids : List Nat := (List.range ro_N).map (fun i => 5000 + i) ++ (List.range ro_N).map (fun i => 5200 + i) ++ [5400, 5401, 5500, 5999]
theorem ro_ids_mem {r : Nat} (h : ro_id r = true) : r ∈ ro_ids := by
  unfold ro_id at h
  unfold ro_ids
  simp only [Bool.or_eq_true, Bool.and_eq_true, decide_eq_true_eq] at h
  simp only [List.mem_append, List.mem_map, List.mem_range, List.mem_cons, List.not_mem_nil, or_false]
  unfold ro_N
  rcases h with ((((⟨a, b⟩ | ⟨a, b⟩) | a) | a) | a) | a
  · exact Or.inl (Or.inl ⟨r - 5000, by omega, by omega⟩)
  · exact Or.inl (Or.inr ⟨r - 5200, by omega, by omega⟩)
  · exact Or.inr (Or.inl a)
  · exact Or.inr (Or.inr (Or.inl a))
  · exact Or.inr (Or.inr (Or.inr (Or.inl a)))
  · exact Or.inr (Or.inr (Or.inr (Or.inr a)))
theorem cl_counts {l : Launch} {D : va_G} {kA : Nat → ClassId} {G : List rg_T} {own : String} {idx : Nat} {host : String} (h : Cond.fieldLinkNest own idx "DrawingHouse" "ORDER_COUNTS" "[I" host ∈ lw_n) : cl_ok PQ l D kA G own (.getstatic idx) 3 (en_ro [] (2, 0, 0, [5400])) := by
  refine cl_look (fun p e R s m args below meth c H locs cells slots Q cc pc nL ret nm A ws ta ls av rest X hN hS hth hag hdec kk => ?_)
  cases av with
  | cons _ _ => exact hag.elim
  | nil => exact va_getsN X.1 X.2.1 hN.2.2.2.2.2.1.1 hS X.2.2.2.1 (hN.1 _ h) (fun _ q => q) hdec (kk _ (ro_ref hth (by decide) (by decide)))
theorem cl_starts {l : Launch} {D : va_G} {kA : Nat → ClassId} {G : List rg_T} {own : String} {idx : Nat} {host : String} (h : Cond.fieldLinkNest own idx "DrawingHouse" "ORDER_STARTS" "[I" host ∈ lw_n) : cl_ok PQ l D kA G own (.getstatic idx) 3 (en_ro [] (2, 0, 0, [5401])) := by
  refine cl_look (fun p e R s m args below meth c H locs cells slots Q cc pc nL ret nm A ws ta ls av rest X hN hS hth hag hdec kk => ?_)
  cases av with
  | cons _ _ => exact hag.elim
  | nil => exact va_getsN X.1 X.2.1 hN.2.2.2.2.2.2.1 hS X.2.2.2.1 (hN.1 _ h) (fun _ q => q) hdec (kk _ (ro_ref hth (by decide) (by decide)))
theorem cl_value {l : Launch} {D : va_G} {kA : Nat → ClassId} {G : List rg_T} {own : String} {idx i : Nat} (h : Cond.fieldLink own idx "java/lang/String" "value" "[B" ∈ lw_g) (hg : G[5000 + i]? = none) (hi : i < ro_N) (hr : ro_id (5200 + i) = true) (h5 : 5200 + i < 5500) : cl_ok PQ l D kA G own (.getfield idx) 3 (en_ro [(2, 0, 0, [5000 + i])] (2, 0, 0, [5200 + i])) := by
  refine cl_look (fun p e R s m args below meth c H locs cells slots Q cc pc nL ret nm A ws ta ls av rest X hN hS hth hag hdec kk => ?_)
  match av, hag with
  | [v0], ⟨h0, _⟩ =>
    rw [ro_is hth hg h0]
    exact vk_getf X.1 X.2.1 (hN.2.2.1 i hi).2.2.1 hS X.2.2.2.1 (X.2.2.2.2.1 _ h) (fun _ q => q) hdec (kk _ (ro_ref hth hr h5))
theorem cl_coder {l : Launch} {D : va_G} {kA : Nat → ClassId} {G : List rg_T} {own : String} {idx i : Nat} (h : Cond.fieldLink own idx "java/lang/String" "coder" "B" ∈ lw_g) (hg : G[5000 + i]? = none) (hi : i < ro_N) : cl_ok PQ l D kA G own (.getfield idx) 3 (en_ro [(2, 0, 0, [5000 + i])] (0, 0, 0, [])) := by
  refine cl_look (fun p e R s m args below meth c H locs cells slots Q cc pc nL ret nm A ws ta ls av rest X hN hS hth hag hdec kk => ?_)
  match av, hag with
  | [v0], ⟨h0, _⟩ =>
    rw [ro_is hth hg h0]
    exact vk_getf X.1 X.2.1 (hN.2.2.1 i hi).2.1 hS X.2.2.2.1 (X.2.2.2.2.1 _ h) (fun _ q => q) hdec (kk _ (Or.inl ⟨rfl, 0, rfl, by decide, by decide⟩))
theorem cl_tlen {l : Launch} {D : va_G} {kA : Nat → ClassId} {G : List rg_T} {own : String} {i n : Nat} (hg : G[5200 + i]? = none) (hi : i < ro_N) (hn : (ro_txt.getD i []).length = n) (hb : n < 1000) : cl_ok PQ l D kA G own .arraylength 1 (en_ro [(2, 0, 0, [5200 + i])] (0, (n : Int), (n : Int), [])) := by
  refine cl_look (fun p e R s m args below meth c H locs cells slots Q cc pc nL ret nm A ws ta ls av rest X hN hS hth hag hdec kk => ?_)
  match av, hag with
  | [v0], ⟨h0, _⟩ =>
    rw [ro_is hth hg h0]
    refine va_tlen X.1 X.2.1 (hN.2.2.1 i hi).2.2.2 hS rfl hdec (kk _ ?_)
    rw [hn]
    exact ln_ty (Nat.le_refl n) (Nat.le_refl n) (by omega)
def ro_in (i : Nat) (lo hi : Int) : Bool := (ro_txt.getD i []).all (fun b => decide (lo ≤ b.toInt) && decide (b.toInt ≤ hi))
theorem cl_tbyte {l : Launch} {D : va_G} {kA : Nat → ClassId} {G : List rg_T} {own : String} {i n : Nat} {lo hi plo phi : Int} (hg : G[5200 + i]? = none) (hi_zq : i < ro_N) (hn : (ro_txt.getD i []).length = n) (hp : 0 ≤ plo ∧ phi < n) (hb : ro_in i lo hi = true) : cl_ok PQ l D kA G own .baload 1 (en_ro [(2, 0, 0, [5200 + i]), (0, plo, phi, [])] (0, lo, hi, [])) := by
  refine cl_look (fun p e R s m args below meth c H locs cells slots Q cc pc nL ret nm A ws ta ls av rest X hN hS hth hag hdec kk => ?_)
  match av, hag with
  | [v0, v1], ⟨h0, h1, _⟩ =>
    rw [ro_is hth hg h0]
    obtain ⟨x, rfl, x1, x2⟩ := tv_int h1 rfl
    have y1 : plo ≤ x.toInt := x1
    have y2 : x.toInt ≤ phi := x2
    have hx : 0 ≤ x.toInt := by omega
    obtain ⟨z1, z2, z3⟩ := in_nat (x := x) (n := n) hx (by omega)
    have hT := (hN.2.2.1 i hi_zq).2.2.2
    rw [hn] at hT
    refine va_tb X.1 X.2.1 hT hS z1 rfl hdec (kk _ (Or.inl ⟨rfl, _, rfl, ?_⟩))
    rw [z2]
    have hlt : x.toInt.toNat < (ro_txt.getD i []).length := by omega
    have hm : ((ro_txt.getD i []).getD x.toInt.toNat 0) ∈ ro_txt.getD i [] := by
      generalize ro_txt.getD i [] = L at hlt ⊢
      rw [List.getD_eq_getElem?_getD, List.getElem?_eq_getElem hlt]; exact List.getElem_mem hlt
    have := List.all_eq_true.mp hb _ hm
    simp only [Bool.and_eq_true, decide_eq_true_eq] at this
    exact this
theorem cl_tint {l : Launch} {D : va_G} {kA : Nat → ClassId} {G : List rg_T} {own : String} {r : Nat} {L : List Int32} {lo hi plo phi : Int} (hr : r = 5400 ∧ L = ro_cnt ∨ r = 5401 ∧ L = ro_sta) (hg : G[r]? = none) (hp : 0 ≤ plo ∧ phi < 7) (hb : ((List.range 7).filter (fun j : Nat => decide (plo ≤ (j : Int)) && decide ((j : Int) ≤ phi))).all (fun j : Nat => decide (lo ≤ (L.getD j 0).toInt) && decide ((L.getD j 0).toInt ≤ hi)) = true) : cl_ok PQ l D kA G own .iaload 1 (en_ro [(2, 0, 0, [r]), (0, plo, phi, [])] (0, lo, hi, [])) := by
  refine cl_look (fun p e R s m args below meth c H locs cells slots Q cc pc nL ret nm A ws ta ls av rest X hN hS hth hag hdec kk => ?_)
  match av, hag with
  | [v0, v1], ⟨h0, h1, _⟩ =>
    rw [ro_is hth hg h0]
    obtain ⟨x, rfl, x1, x2⟩ := tv_int h1 rfl
    have y1 : plo ≤ x.toInt := x1
    have y2 : x.toInt ≤ phi := x2
    have hx : 0 ≤ x.toInt := by omega
    obtain ⟨z1, z2, z3⟩ := in_nat (x := x) (n := 7) hx (by omega)
    have hm := List.all_eq_true.mp hb x.toInt.toNat (List.mem_filter.mpr ⟨List.mem_range.mpr (by omega), by simp only [Bool.and_eq_true, decide_eq_true_eq]; omega⟩)
    simp only [Bool.and_eq_true, decide_eq_true_eq] at hm
    rcases hr with ⟨rfl, rfl⟩ | ⟨rfl, rfl⟩
    · refine va_ti X.1 X.2.1 hN.2.2.2.2.2.1.2 hS z1 rfl hdec (kk _ (Or.inl ⟨rfl, _, rfl, ?_⟩))
      rw [z2]; exact hm
    · refine va_ti X.1 X.2.1 hN.2.2.2.2.2.2.2.1 hS z1 rfl hdec (kk _ (Or.inl ⟨rfl, _, rfl, ?_⟩))
      rw [z2]; exact hm
/-- a method of a String constant -/
theorem cl_string {l : Launch} {D : va_G} {kA : Nat → ClassId} {G : List rg_T} {own : String} {y : MethodName} {bytes : ByteArray} {maxL index i : Nat} {ret' : Option FieldType} {en : en_T} {ts : List tv_T} (hen : en.1 = (2, 0, 0, [5000 + i]) :: ts) (hg : G[5000 + i]? = none) (hi : i < ro_N) (hcl : y.cls = "java/lang/String") (hM : ct_ok PQ l D kA G y (Cond.code y bytes maxL ret' :: lw_g) en)
    (hc : Cond.code y bytes maxL ret' ∈ lw_g) (hini : Cond.initialized y.cls ∈ lw_g) (hl : Cond.methodLink own index y ∈ lw_g) (hin : Cond.instanceMethod y ∈ lw_g) (hsel : Cond.selects y.cls y y ∈ lw_g)
    (hd : y.cls ≠ "java/lang/invoke/MethodHandle" ∧ y.cls ≠ "java/lang/invoke/VarHandle" ∧ (parseMethodDescriptor y.desc).map (fun d => d.parameters.length) = some ts.length) (hm : maxL ≤ 37) : cl_ok PQ l D kA G own (.invokevirtual index) 3 en := by
  intro p e R s m args below meth c H locs cells slots Q cc pc nL ret nm A ws ta ls av gv hv rest X hK hN hA hP hD hS hth hag hgv hhv hpr hrest hfr hlo hce hsl hls hdec kk
  have hM2 := hM H.size ta ws av gv hv hth hag hgv hhv hpr
  rw [hen] at hag
  cases av with
  | nil => exact hag.elim
  | cons v0 As =>
    obtain rfl := ro_is hth hg hag.1
    have hrv : ∃ cellB : Cell, H[kA (5000 + i)]? = some cellB ∧ cellB.vm.isStatics = false ∧ s.vm.findClass y.cls = some cellB.cls := by
      obtain ⟨cell, h1, h2, h3, -⟩ := (hN.2.2.1 i hi).1.kept hS.2.1
      exact ⟨cell, h1, h2, by rw [hcl]; exact h3⟩
    have hst : (Value.ref (kA (5000 + i)) :: As).reverse ++ rest = As.reverse ++ .ref (kA (5000 + i)) :: rest := by rw [List.reverse_cons, List.append_assoc]; rfl
    exact m_go (k_rV16 X hM2 rfl hc hini hl hin hsel ts.length hd ⟨hfr, by show 16 + (maxL + 11) + 64 * en.2.2.2.1 ≤ R.locals; omega⟩ rfl rfl hrv (m_pre hN hA hS hK hP hD) (ag_len hag.2) hls hst hrest hdec ⟨hce, hsl⟩) hP hD hS hA kk
end
