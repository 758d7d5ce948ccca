/-! facts that a change of the world leaves as they are -/
section M14b
variable {kA : Nat → ClassId} {G : List rg_T} {A : Nat → Prop} {ta : Nat → Option Nat} {ws : va_W}
/-- a field of an object, as its region says -/
theorem fd_at (hD : va_D A ws) (hth : th_ok kA G ta ws) {a r : Nat} (ha : ta a = some r) {g : rg_T} (hg : G[r]? = some g) {k : Nat} {t : tv_T} (hk : g.2.2.2.2[k]? = some t) (h10 : 10 ≤ g.1) : tv_ok ta t (w_fd ws a k) ∧ ∃ fs, w_at ws a = some (.inr (g.1 - 10, fs)) := by
  obtain ⟨e, h2, h3⟩ := th_in hth ha hg
  rcases h3 with ⟨z, _⟩ | ⟨z, _⟩ | ⟨_, z, _⟩ | ⟨_, fs, rfl, l1, hf⟩
  · omega
  · omega
  · omega
  · have hlt := (List.getElem?_eq_some_iff.mp hk).1
    rw [← l1] at hlt
    have hv := List.getElem?_eq_getElem hlt
    refine ⟨?_, fs, w_at_mem hD h2⟩
    unfold w_fd
    rw [w_at_mem hD h2]
    simp only
    rw [List.getD_eq_getElem?_getD, hv]
    exact hf k t _ hk hv
/-- what field k of a region's objects is -/
def tk_g (G : List rg_T) (k r : Nat) : Option (Nat × tv_T) := match G[r]? with
  | some g => if 10 ≤ g.1 then (g.2.2.2.2[k]?).map (fun t => (g.1 - 10, t)) else none
  | none => none
/-- every object that a name may be -/
def tk_all (G : List rg_T) (y : sy_T) (q : Nat × Nat) (f : Nat × tv_T → Bool) : Bool := match y.1[q.1]? with
  | some t => decide (t.1 = 2) && t.2.2.2.all (fun r => match tk_g G q.2 r with | some w => f w | none => false)
  | none => false
theorem tk_all_ok {y : sy_T} {vs : List Value} {q : Nat × Nat} {f : Nat × tv_T → Bool} (hD : va_D A ws) (hth : th_ok kA G ta ws) (hy : sy_env ta y.1 vs) (h : tk_all G y q f = true) : ∃ a ci t fs, n_v vs q.1 = .ref a ∧ f (ci, t) = true ∧ w_at ws a = some (.inr (ci, fs)) ∧ tv_ok ta t (w_fd ws a q.2) := by
  unfold tk_all at h
  split at h
  · rename_i t ht
    rw [Bool.and_eq_true, decide_eq_true_eq] at h
    have hlt : q.1 < vs.length := by rw [hy.1]; exact (List.getElem?_eq_some_iff.mp ht).1
    have hv := List.getElem?_eq_getElem hlt
    obtain ⟨a, r, e, h1, h2⟩ := tv_ref (hy.2 _ _ _ ht hv) h.1
    have h3 := List.all_eq_true.mp h.2 r h2
    have hn : n_v vs q.1 = .ref a := by unfold n_v; rw [hv, e]; rfl
    cases hw : tk_g G q.2 r with
    | none => rw [hw] at h3; cases h3
    | some w =>
      rw [hw] at h3
      unfold tk_g at hw
      split at hw
      · rename_i g hg
        split at hw
        · rename_i h10
          obtain ⟨t', e1, e2⟩ := Option.map_eq_some_iff.mp hw
          obtain ⟨p1, fs, p2⟩ := fd_at hD hth h1 hg e1 h10
          refine ⟨a, w.1, w.2, fs, hn, h3, ?_, ?_⟩
          · rw [← e2]; exact p2
          · rw [← e2]; exact p1
        · cases hw
      · cases hw
  · cases h
/-- a field stays -/
def tk_fk (G : List rg_T) (y : sy_T) (s : fc_T) (q : Nat × Nat) : Bool := match s with
  | (100, [_, _, _], _) => true
  | (103, [_], _) => true
  | (101, [_, _], [k]) => decide (k.toNat ≠ q.2)
  | (102, [n0], _ :: ks) => decide (q.1 ≤ n0) && tk_all G y q (fun w => !(ks.contains ((1000 * w.1 + q.2 : Nat) : Int)))
  | _ => false
/-- the elements of the array in a field stay -/
def tk_ak (G : List rg_T) (y : sy_T) (s : fc_T) (q : Nat × Nat) : Bool := tk_fk G y s q && (match s with
  | (100, [a, _, _], _) => (match y.1[a]? with
    | some t => decide (t.1 = 2) && tk_all G y q (fun w => decide (w.2.1 = 2) && w.2.2.2.2.all (fun r => !(t.2.2.2.contains r)))
    | none => false)
  | (103, [a], _) => (match y.1[a]? with
    | some t => decide (t.1 = 2) && tk_all G y q (fun w => decide (w.2.1 = 2) && w.2.2.2.2.all (fun r => !(t.2.2.2.contains r)))
    | none => false)
  | (101, _, _) => true
  | (102, _, m :: _) => tk_all G y q (fun w => decide (w.2.1 = 2) && w.2.2.2.2.all (fun r => !(m.toNat.testBit r)))
  | _ => false)
theorem tk_fk_ok {y : sy_T} {vs : List Value} {s : fc_T} {q : Nat × Nat} {ta0 : Nat → Option Nat} {w0 : va_W} (hD : va_D A ws) (hth : th_ok kA G ta ws) (hy : sy_env ta y.1 vs) (hs : fc_s s ta0 w0 ws vs) (h : tk_fk G y s q = true) : w_fd ws (n_ad vs q.1) q.2 = w_fd w0 (n_ad vs q.1) q.2 := by
  obtain ⟨_, hs⟩ := hs
  unfold tk_fk at h
  split at h
  · exact hs.2 _ _
  · exact hs.2 _ _
  · rename_i k
    rw [decide_eq_true_eq] at h
    rw [hs.2, if_neg (fun e => h e.2.symm)]
  · rename_i n0 m ks _
    rw [Bool.and_eq_true, decide_eq_true_eq] at h
    obtain ⟨a, ci, t, fs, h1, h2, h3, _⟩ := tk_all_ok hD hth hy h.2
    have e : n_ad vs q.1 = a := by unfold n_ad; rw [h1]; rfl
    rw [e]
    refine hs.2.2.2.1 a ci fs q.2 (hs.2.2.1 n0 List.mem_cons_self q.1 h.1 a h1) h3 (fun hc => ?_)
    have h2' : (!(ks.contains ((1000 * ci + q.2 : Nat) : Int))) = true := h2
    rw [Bool.not_eq_true'] at h2'
    have := List.contains_iff_mem.mpr hc
    rw [h2'] at this
    cases this
  · cases h
theorem ar_ne {t w : tv_T} {vs : List Value} {y : sy_T} {a : Nat} {v : Value} (hy : sy_env ta y.1 vs) (ht : y.1[a]? = some t) (h2 : t.1 = 2) (hw : tv_ok ta w v) (hw2 : w.1 = 2) (hd : w.2.2.2.all (fun r => !(t.2.2.2.contains r)) = true) : v_ad v ≠ n_ad vs a := by
  have hlt : a < vs.length := by rw [hy.1]; exact (List.getElem?_eq_some_iff.mp ht).1
  have hv := List.getElem?_eq_getElem hlt
  obtain ⟨b, r, e, h3, h4⟩ := tv_ref (hy.2 _ _ _ ht hv) h2
  obtain ⟨b', r', rfl, h5, h6⟩ := tv_ref hw hw2
  have hn : n_ad vs a = b := by unfold n_ad n_v; rw [hv, e]; rfl
  rw [hn]
  intro he
  have he' : b' = b := he
  rw [he', h3] at h5
  have h7 := List.all_eq_true.mp hd r' h6
  rw [← Option.some.inj h5, Bool.not_eq_true'] at h7
  rw [List.contains_iff_mem.mpr h4] at h7
  cases h7
theorem tk_ak_ok {y : sy_T} {vs : List Value} {s : fc_T} {q : Nat × Nat} {ta0 : Nat → Option Nat} {w0 : va_W} (hD : va_D A ws) (hth : th_ok kA G ta ws) (hy : sy_env ta y.1 vs) (hle : ta_le ta0 ta) (hs : fc_s s ta0 w0 ws vs) (h : tk_ak G y s q = true) : w_ar ws (n_v vs q.1) q.2 = w_ar w0 (n_v vs q.1) q.2 ∧ ∀ j, w_el ws (w_ar w0 (n_v vs q.1) q.2) j = w_el w0 (w_ar w0 (n_v vs q.1) q.2) j := by
  unfold tk_ak at h
  rw [Bool.and_eq_true] at h
  have e0 := tk_fk_ok hD hth hy hs h.1
  have e1 : w_ar ws (n_v vs q.1) q.2 = w_ar w0 (n_v vs q.1) q.2 := by
    show v_ad (w_fd ws (n_ad vs q.1) q.2) = v_ad (w_fd w0 (n_ad vs q.1) q.2)
    rw [e0]
  refine ⟨e1, ?_⟩
  rw [← e1]
  have hf := h.1
  have hk := h.2
  obtain ⟨_, hs⟩ := hs
  split at hk
  · rename_i a i v x
    split at hk
    · rename_i t ht
      rw [Bool.and_eq_true, decide_eq_true_eq] at hk
      obtain ⟨b, ci, w, fs, h1, h2, h3, h4⟩ := tk_all_ok hD hth hy hk.2
      have h2' : (decide (w.1 = 2) && w.2.2.2.all (fun r => !(t.2.2.2.contains r))) = true := h2
      rw [Bool.and_eq_true, decide_eq_true_eq] at h2'
      have hne := ar_ne hy ht hk.1 h4 h2'.1 h2'.2
      intro j
      rw [hs.1, if_neg (fun e => hne ?_)]
      rw [← e.1]
      show _ = v_ad (w_fd ws (v_ad (n_v vs q.1)) q.2)
      rw [h1]; rfl
    · cases hk
  · rename_i a x
    split at hk
    · rename_i t ht
      rw [Bool.and_eq_true, decide_eq_true_eq] at hk
      obtain ⟨b, ci, w, fs, h1, h2, h3, h4⟩ := tk_all_ok hD hth hy hk.2
      have h2' : (decide (w.1 = 2) && w.2.2.2.all (fun r => !(t.2.2.2.contains r))) = true := h2
      rw [Bool.and_eq_true, decide_eq_true_eq] at h2'
      have hne := ar_ne hy ht hk.1 h4 h2'.1 h2'.2
      intro j
      refine hs.1 _ j (fun e => hne ?_)
      rw [← e]
      show _ = v_ad (w_fd ws (v_ad (n_v vs q.1)) q.2)
      rw [h1]; rfl
    · cases hk
  · rename_i o k
    intro j
    unfold tk_fk at hf
    split at hf
    · rename_i hc; cases hc
    · rename_i hc; cases hc
    · rename_i hc; cases hc; exact hs.1 _ _
    · rename_i hc; cases hc
    · cases hf
  · rename_i ns m ks _
    obtain ⟨b, ci, w, fs, h1, h2, h3, h4⟩ := tk_all_ok hD hth hy hk
    have h2' : (decide (w.1 = 2) && w.2.2.2.all (fun r => !(m.toNat.testBit r))) = true := h2
    rw [Bool.and_eq_true, decide_eq_true_eq] at h2'
    obtain ⟨c, r, ec, hc, hr⟩ := tv_ref h4 h2'.1
    unfold tk_fk at hf
    split at hf
    · rename_i hc; cases hc
    · rename_i hc; cases hc
    · rename_i hc; cases hc
    · rename_i n0 m' ks' hc'
      cases hc'
      rw [Bool.and_eq_true, decide_eq_true_eq] at hf
      have eb : n_ad vs q.1 = b := by unfold n_ad; rw [h1]; rfl
      have o1 := hs.2.2.1 n0 List.mem_cons_self q.1 hf.1 b h1
      rw [eb] at e0
      have o2 := hs.2.2.2.2.1 b q.2 c o1 (by rw [← e0]; exact ec)
      obtain ⟨r', hr'⟩ := Option.isSome_iff_exists.mp o2
      have hr2 := hle _ _ hr'
      rw [hc] at hr2
      have hbit := List.all_eq_true.mp h2'.2 r hr
      rw [Bool.not_eq_true', Option.some.inj hr2] at hbit
      intro j
      have ea : w_ar ws (n_v vs q.1) q.2 = c := by
        show v_ad (w_fd ws (v_ad (n_v vs q.1)) q.2) = c
        rw [h1]
        show v_ad (w_fd ws b q.2) = c
        rw [ec]; rfl
      rw [ea]
      exact hs.1 c r' hr' hbit j
    · cases hf
  · cases hk
/-- fields and arrays that a fact looks at -/
def lt_use : List Int → List Nat → List (Nat × Nat) × List (Nat × Nat)
  | _ :: t :: k :: r, x :: xs => if t = 0 then lt_use r xs else if t = 1 then (match lt_use r xs with | (a, b) => ((x, k.toNat) :: a, b)) else if t = 3 then (match lt_use r xs with | (a, b) => ((x, k.toNat / 1000 % 1000) :: a, (x, k.toNat / 1000000) :: b)) else if t = 5 then lt_use r xs else if t = 6 then (match lt_use r xs with | (a, b) => ((x, k.toNat) :: a, b)) else (match xs with
    | _ :: xs => if t = 4 then (match lt_use r xs with | (a, b) => ((x, k.toNat / 1000000 % 1000) :: a, (x, k.toNat / 1000000000) :: b)) else (match lt_use r xs with | (a, b) => (a, (x, k.toNat) :: b))
    | [] => ([], []))
  | _, _ => ([], [])
def vw_u (fs : List Int) (ns : List Nat) : List (Nat × Nat) := fs.filterMap (fun q => (ns[q.toNat / 1000]?).map (fun n => (n, q.toNat % 1000)))
def vw_r (fs : List Int) (ns : List Nat) : List (Nat × Nat) := fs.filterMap (fun q => (ns[q.toNat % 1000000 / 1000]?).map (fun n => (n, q.toNat % 1000)))
/-- fields of objects in arrays of references that a fact looks at -/
def vw_s (fs : List Int) (ns : List Nat) : List (Nat × Nat × Nat) := fs.filterMap (fun q => (ns[q.toNat % 1000000 / 1000]?).map (fun n => (n, q.toNat % 1000, q.toNat / 1000000)))
def tk_rs (f : fc_T) : List (Nat × Nat × Nat) := match f with
  | (20, ns, t :: nf :: na :: nr :: is) => if t = 51 then vw_s (((is.drop nf.toNat).drop na.toNat).take nr.toNat) ns else []
  | _ => []
def tk_use (f : fc_T) : Option (List (Nat × Nat) × List (Nat × Nat)) := match f with
  | (20, ns, t :: is) => (match t.toNat, is, ns with
    | 1, [k, _, _, _], [_, o, _] => some ([], [(o, k.toNat)])
    | 2, [k, _, _, _], [_, o, _] => some ([], [(o, k.toNat)])
    | 5, [k, _], [o, _] => some ([], [(o, k.toNat)])
    | 6, [k, _, _], [o, _] => some ([], [(o, k.toNat)])
    | 7, [k, k2, _, _], [o] => some ([(o, k2.toNat)], [(o, k.toNat)])
    | 30, _ :: is, ns => some (lt_use is ns)
    | 31, n :: _ :: is, ns => some ((lt_use (is.take (3 * n.toNat)) (ns.take (lt_n (is.take (3 * n.toNat))))).1 ++ (lt_use ((is.drop (3 * n.toNat)).drop 1) (ns.drop (lt_n (is.take (3 * n.toNat))))).1, (lt_use (is.take (3 * n.toNat)) (ns.take (lt_n (is.take (3 * n.toNat))))).2 ++ (lt_use ((is.drop (3 * n.toNat)).drop 1) (ns.drop (lt_n (is.take (3 * n.toNat))))).2)
    | 51, nf :: na :: nr :: is, ns => some (vw_u (is.take nf.toNat) ns, vw_u ((is.drop nf.toNat).take na.toNat) ns ++ vw_r (((is.drop nf.toNat).drop na.toNat).take nr.toNat) ns)
    | 50, nf :: na :: is, ns => some (vw_u (is.take nf.toNat) ns, vw_u ((is.drop nf.toNat).take na.toNat) ns)
    | _, _, _ => none)
  | (21, _, _) => some ([], [])
  | (22, _, _) => some ([], [])
  | (23, _, _) => some ([], [])
  | (24, _, _) => some ([], [])
  | _ => none
theorem lt_frame {w0 w1 : va_W} {vs : List Value} : ∀ {is : List Int} {ns : List Nat}, (∀ q ∈ (lt_use is ns).1, w_fd w1 (n_ad vs q.1) q.2 = w_fd w0 (n_ad vs q.1) q.2) → (∀ q ∈ (lt_use is ns).2, w_ar w1 (n_v vs q.1) q.2 = w_ar w0 (n_v vs q.1) q.2 ∧ ∀ j, w_el w1 (w_ar w0 (n_v vs q.1) q.2) j = w_el w0 (w_ar w0 (n_v vs q.1) q.2) j) → lt_v is (ns.map (n_v vs)) w1 = lt_v is (ns.map (n_v vs)) w0
  | [], ns, _, _ => by cases ns <;> rfl
  | [_], ns, _, _ => by cases ns <;> rfl
  | [_, _], ns, _, _ => by cases ns <;> rfl
  | q :: t :: k :: r, [], _, _ => rfl
  | q :: t :: k :: r, x :: xs, h1, h2 => by
    unfold lt_use at h1 h2
    rw [List.map_cons]
    unfold lt_v
    by_cases t0 : t = 0
    · rw [if_pos t0] at h1 h2
      rw [if_pos t0, if_pos t0, lt_frame (is := r) (ns := xs) h1 h2]
    · rw [if_neg t0] at h1 h2
      rw [if_neg t0, if_neg t0]
      by_cases t1 : t = 1
      · rw [if_pos t1] at h1 h2
        rw [if_pos t1, if_pos t1, lt_frame (is := r) (ns := xs) (fun q hq => h1 q (List.mem_cons_of_mem _ hq)) h2]
        have := h1 (x, k.toNat) List.mem_cons_self
        have e : w_fi w1 (n_v vs x) k.toNat = w_fi w0 (n_v vs x) k.toNat := by
          show v_iv (w_fd w1 (n_ad vs x) k.toNat) = v_iv (w_fd w0 (n_ad vs x) k.toNat)
          rw [this]
        rw [e]
      · rw [if_neg t1] at h1 h2
        rw [if_neg t1, if_neg t1]
        by_cases t3 : t = 3
        · rw [if_pos t3] at h1 h2
          rw [if_pos t3, if_pos t3, lt_frame (is := r) (ns := xs) (fun q hq => h1 q (List.mem_cons_of_mem _ hq)) (fun q hq => h2 q (List.mem_cons_of_mem _ hq))]
          have g1 := h1 (x, k.toNat / 1000 % 1000) List.mem_cons_self
          have g2 := h2 (x, k.toNat / 1000000) List.mem_cons_self
          have e : w_fi w1 (n_v vs x) (k.toNat / 1000 % 1000) = w_fi w0 (n_v vs x) (k.toNat / 1000 % 1000) := by
            show v_iv (w_fd w1 (n_ad vs x) _) = v_iv (w_fd w0 (n_ad vs x) _)
            rw [g1]
          rw [e, g2.1, g2.2]
        rw [if_neg t3] at h1 h2
        rw [if_neg t3, if_neg t3]
        by_cases t5 : t = 5
        · rw [if_pos t5] at h1 h2
          rw [if_pos t5, if_pos t5, lt_frame (is := r) (ns := xs) h1 h2]
        rw [if_neg t5] at h1 h2
        rw [if_neg t5, if_neg t5]
        by_cases t6 : t = 6
        · rw [if_pos t6] at h1 h2
          rw [if_pos t6, if_pos t6, lt_frame (is := r) (ns := xs) (fun q hq => h1 q (List.mem_cons_of_mem _ hq)) h2]
          have := h1 (x, k.toNat) List.mem_cons_self
          have e : w_fi w1 (n_v vs x) k.toNat = w_fi w0 (n_v vs x) k.toNat := by
            show v_iv (w_fd w1 (n_ad vs x) k.toNat) = v_iv (w_fd w0 (n_ad vs x) k.toNat)
            rw [this]
          rw [e]
        rw [if_neg t6] at h1 h2
        rw [if_neg t6, if_neg t6]
        cases xs with
        | nil => rfl
        | cons i xs =>
          simp only [List.map_cons] at h1 h2 ⊢
          by_cases t4 : t = 4
          · rw [if_pos t4] at h1 h2
            rw [if_pos t4, if_pos t4, lt_frame (is := r) (ns := xs) (fun q hq => h1 q (List.mem_cons_of_mem _ hq)) (fun q hq => h2 q (List.mem_cons_of_mem _ hq))]
            have g1 := h1 (x, k.toNat / 1000000 % 1000) List.mem_cons_self
            have g2 := h2 (x, k.toNat / 1000000000) List.mem_cons_self
            have e : w_fi w1 (n_v vs x) (k.toNat / 1000000 % 1000) = w_fi w0 (n_v vs x) (k.toNat / 1000000 % 1000) := by
              show v_iv (w_fd w1 (n_ad vs x) _) = v_iv (w_fd w0 (n_ad vs x) _)
              rw [g1]
            rw [e, g2.1, g2.2]
          · rw [if_neg t4] at h1 h2
            rw [if_neg t4, if_neg t4]
            have := h2 (x, k.toNat) List.mem_cons_self
            rw [lt_frame (is := r) (ns := xs) h1 (fun q hq => h2 q (List.mem_cons_of_mem _ hq)), this.1, this.2]
theorem su_eq {w0 w1 : va_W} {a : Nat} (h : ∀ j, w_el w1 a j = w_el w0 a j) : ∀ n : Nat, w_sum w1 a n = w_sum w0 a n
  | 0 => rfl
  | n + 1 => by unfold w_sum; rw [su_eq h n, h n]
theorem fc_pure {c : Nat} (hc : c = 21 ∨ c = 22 ∨ c = 23 ∨ c = 24) {xs : List Value} {is : List Int} {w0 w1 : va_W} (h : fc_m c xs is w0) : fc_m c xs is w1 := by
  unfold fc_m at h ⊢
  rcases hc with rfl | rfl | rfl | rfl
  all_goals (split at h <;> first | exact h | (rename_i q _ _; omega) | simp_all)
theorem vw_mem {fs : List Int} {ns : List Nat} {i k n : Nat} (h : ns[i]? = some n) (hc : (fs.contains ((1000 * i + k : Nat) : Int) && decide (k < 1000)) = true) : (n, k) ∈ vw_u fs ns := by
  rw [Bool.and_eq_true, decide_eq_true_eq] at hc
  refine List.mem_filterMap.mpr ⟨((1000 * i + k : Nat) : Int), by simpa using hc.1, ?_⟩
  rw [Int.toNat_natCast, show (1000 * i + k) / 1000 = i from by omega, show (1000 * i + k) % 1000 = k from by omega, h]; rfl
theorem vw_F_frame {fs : List Int} {ns : List Nat} {vs : List Value} {w0 w1 : va_W} (h1 : ∀ q ∈ vw_u fs ns, w_fd w1 (n_ad vs q.1) q.2 = w_fd w0 (n_ad vs q.1) q.2) : vw_F fs (ns.map (n_v vs)) w1 = vw_F fs (ns.map (n_v vs)) w0 := by
  funext i k
  unfold vw_F
  rw [List.getElem?_map]
  cases h : ns[i]? with
  | none => rfl
  | some n =>
    show (bif _ then _ else _) = (bif _ then _ else _)
    cases hc : (fs.contains ((1000 * i + k : Nat) : Int) && decide (k < 1000)) with
    | false => rfl
    | true =>
      show w_fi w1 (n_v vs n) k = w_fi w0 (n_v vs n) k
      have := h1 _ (vw_mem h hc)
      show v_iv (w_fd w1 (n_ad vs n) k) = v_iv (w_fd w0 (n_ad vs n) k)
      rw [this]
theorem vw_E_frame {fs : List Int} {ns : List Nat} {vs : List Value} {w0 w1 : va_W} (h2 : ∀ q ∈ vw_u fs ns, w_ar w1 (n_v vs q.1) q.2 = w_ar w0 (n_v vs q.1) q.2 ∧ ∀ j, w_el w1 (w_ar w0 (n_v vs q.1) q.2) j = w_el w0 (w_ar w0 (n_v vs q.1) q.2) j) : vw_E fs (ns.map (n_v vs)) w1 = vw_E fs (ns.map (n_v vs)) w0 := by
  funext i k z
  unfold vw_E
  rw [List.getElem?_map]
  cases h : ns[i]? with
  | none => rfl
  | some n =>
    show (bif _ then _ else _) = (bif _ then _ else _)
    cases hc : (fs.contains ((1000 * i + k : Nat) : Int) && decide (k < 1000)) with
    | false => rfl
    | true =>
      show w_ei w1 (w_ar w1 (n_v vs n) k) z = w_ei w0 (w_ar w0 (n_v vs n) k) z
      have g := h2 _ (vw_mem h hc)
      unfold w_ei
      rw [g.1]; exact g.2 _
theorem vw_R_frame {rs : List Int} {ns : List Nat} {vs : List Value} {w0 w1 : va_W} (h2 : ∀ q ∈ vw_r rs ns, w_ar w1 (n_v vs q.1) q.2 = w_ar w0 (n_v vs q.1) q.2 ∧ ∀ j, w_el w1 (w_ar w0 (n_v vs q.1) q.2) j = w_el w0 (w_ar w0 (n_v vs q.1) q.2) j) (h3 : ∀ q ∈ vw_s rs ns, ∀ z : Int, 0 ≤ z → z < ((q.2.2 / 1000 : Nat) : Int) → w_fd w1 (w_ei w0 (w_ar w0 (n_v vs q.1) q.2.1) z).toNat (q.2.2 % 1000) = w_fd w0 (w_ei w0 (w_ar w0 (n_v vs q.1) q.2.1) z).toNat (q.2.2 % 1000)) : vw_R rs (ns.map (n_v vs)) w1 = vw_R rs (ns.map (n_v vs)) w0 := by
  funext i k M z
  unfold vw_R
  rw [List.getElem?_map]
  cases h : ns[i]? with
  | none => rfl
  | some n =>
    show (bif _ then _ else _) = (bif _ then _ else _)
    cases hc : (rs.contains ((1000000 * M + 1000 * i + k : Nat) : Int) && (decide (i < 1000) && decide (k < 1000))) with
    | false => rfl
    | true =>
      simp only [Bool.and_eq_true, decide_eq_true_eq] at hc
      obtain ⟨c1, c2, c3⟩ := hc
      show w_rfi w1 (w_ar w1 (n_v vs n) k) z (M / 1000) (M % 1000) = w_rfi w0 (w_ar w0 (n_v vs n) k) z (M / 1000) (M % 1000)
      unfold w_rfi
      cases hz : (decide (0 ≤ z) && decide (z < ((M / 1000 : Nat) : Int))) with
      | false => rfl
      | true =>
      rw [Bool.and_eq_true, decide_eq_true_eq, decide_eq_true_eq] at hz
      obtain ⟨c4, c5⟩ := hz
      have cm : ((1000000 * M + 1000 * i + k : Nat) : Int) ∈ rs := by simpa using c1
      have e1 : (1000000 * M + 1000 * i + k) % 1000000 / 1000 = i := by omega
      have e2 : (1000000 * M + 1000 * i + k) % 1000 = k := by omega
      have e3 : (1000000 * M + 1000 * i + k) / 1000000 = M := by omega
      have g := h2 (n, k) (List.mem_filterMap.mpr ⟨_, cm, by rw [Int.toNat_natCast, e1, e2, h]; rfl⟩)
      have g2 := h3 (n, k, M) (List.mem_filterMap.mpr ⟨_, cm, by rw [Int.toNat_natCast, e1, e2, e3, h]; rfl⟩) z c4 c5
      show w_fi w1 (.ref (w_ei w1 (w_ar w1 (n_v vs n) k) z).toNat) (M % 1000) = w_fi w0 (.ref (w_ei w0 (w_ar w0 (n_v vs n) k) z).toNat) (M % 1000)
      have e4 : w_ei w1 (w_ar w1 (n_v vs n) k) z = w_ei w0 (w_ar w0 (n_v vs n) k) z := by unfold w_ei; rw [g.1]; exact g.2 _
      rw [e4]
      exact congrArg v_iv g2
theorem vw_E2_frame {as rs : List Int} {ns : List Nat} {vs : List Value} {w0 w1 : va_W} (h2 : ∀ q ∈ vw_u as ns ++ vw_r rs ns, w_ar w1 (n_v vs q.1) q.2 = w_ar w0 (n_v vs q.1) q.2 ∧ ∀ j, w_el w1 (w_ar w0 (n_v vs q.1) q.2) j = w_el w0 (w_ar w0 (n_v vs q.1) q.2) j) (h3 : ∀ q ∈ vw_s rs ns, ∀ z : Int, 0 ≤ z → z < ((q.2.2 / 1000 : Nat) : Int) → w_fd w1 (w_ei w0 (w_ar w0 (n_v vs q.1) q.2.1) z).toNat (q.2.2 % 1000) = w_fd w0 (w_ei w0 (w_ar w0 (n_v vs q.1) q.2.1) z).toNat (q.2.2 % 1000)) : vw_E2 as rs (ns.map (n_v vs)) w1 = vw_E2 as rs (ns.map (n_v vs)) w0 := by
  funext i k z
  unfold vw_E2
  rw [vw_E_frame (fun q hq => h2 q (List.mem_append_left _ hq)), vw_R_frame (fun q hq => h2 q (List.mem_append_right _ hq)) h3]
theorem tk_frame {w0 w1 : va_W} {vs : List Value} {f : fc_T} {u : List (Nat × Nat) × List (Nat × Nat)} (hu : tk_use f = some u) (h1 : ∀ q ∈ u.1, w_fd w1 (n_ad vs q.1) q.2 = w_fd w0 (n_ad vs q.1) q.2) (h2 : ∀ q ∈ u.2, w_ar w1 (n_v vs q.1) q.2 = w_ar w0 (n_v vs q.1) q.2 ∧ ∀ j, w_el w1 (w_ar w0 (n_v vs q.1) q.2) j = w_el w0 (w_ar w0 (n_v vs q.1) q.2) j) (h3 : ∀ q ∈ tk_rs f, ∀ z : Int, 0 ≤ z → z < ((q.2.2 / 1000 : Nat) : Int) → w_fd w1 (w_ei w0 (w_ar w0 (n_v vs q.1) q.2.1) z).toNat (q.2.2 % 1000) = w_fd w0 (w_ei w0 (w_ar w0 (n_v vs q.1) q.2.1) z).toNat (q.2.2 % 1000)) (hf : fc_1 f w0 vs) : f.1 < 100 ∧ fc_1 f w1 vs := by
  obtain ⟨h0, hf⟩ := hf
  unfold tk_use at hu
  split at hu
  · rename_i ns t is
    refine ⟨by show (20 : Nat) < 100; decide, h0, ?_⟩
    have hf' : tk_ok t.toNat is (ns.map (n_v vs)) w0 := hf
    show tk_ok t.toNat is (ns.map (n_v vs)) w1
    split at hu
    · rename_i e; cases hu
      have g := h2 _ List.mem_cons_self
      rw [e] at hf' ⊢
      simp only [List.map_cons, List.map_nil] at hf' ⊢
      unfold tk_ok at hf' ⊢
      simp only at hf' ⊢ g
      rw [g.1, su_eq g.2]; exact hf'
    · rename_i e; cases hu
      have g := h2 _ List.mem_cons_self
      rw [e] at hf' ⊢
      simp only [List.map_cons, List.map_nil] at hf' ⊢
      unfold tk_ok at hf' ⊢
      simp only at hf' ⊢ g
      rw [g.1, su_eq g.2]; exact hf'
    · rename_i e; cases hu
      have g := h2 _ List.mem_cons_self
      rw [e] at hf' ⊢
      simp only [List.map_cons, List.map_nil] at hf' ⊢
      unfold tk_ok at hf' ⊢
      simp only at hf' ⊢ g
      rw [g.1, g.2]; exact hf'
    · rename_i e; cases hu
      have g := h2 _ List.mem_cons_self
      rw [e] at hf' ⊢
      simp only [List.map_cons, List.map_nil] at hf' ⊢
      unfold tk_ok at hf' ⊢
      simp only at hf' ⊢ g
      intro j hj
      rw [g.1, g.2]; exact hf' j hj
    · rename_i k k2 _ _ o e; cases hu
      have g := h2 _ List.mem_cons_self
      have g1 := h1 _ List.mem_cons_self
      rw [e] at hf' ⊢
      simp only [List.map_cons, List.map_nil] at hf' ⊢
      unfold tk_ok at hf' ⊢
      simp only at hf' ⊢ g g1
      have e2 : w_fi w1 (n_v vs o) k2.toNat = w_fi w0 (n_v vs o) k2.toNat := by
        show v_iv (w_fd w1 (n_ad vs o) k2.toNat) = v_iv (w_fd w0 (n_ad vs o) k2.toNat)
        rw [g1]
      intro j hj
      rw [g.1, g.2]; rw [e2] at hj; exact hf' j hj
    · rename_i e; cases hu
      rw [e] at hf' ⊢
      unfold tk_ok at hf' ⊢
      simp only at hf' ⊢
      rw [lt_frame h1 h2]; exact hf'
    · rename_i _ _ ns n _ is e; cases hu
      rw [e] at hf' ⊢
      unfold tk_ok at hf' ⊢
      simp only at hf' ⊢
      rw [← List.map_take, ← List.map_drop] at hf' ⊢
      rw [lt_frame (fun q hq => h1 q (List.mem_append_left _ hq)) (fun q hq => h2 q (List.mem_append_left _ hq))]
      rcases hf' with hf' | hf'
      · exact Or.inl hf'
      · refine Or.inr ?_
        generalize hL : is.drop (3 * n.toNat) = L at hf' h1 h2 ⊢
        cases L with
        | nil => exact hf'
        | cons d r =>
          show lt_v r _ w1 ≤ d
          rw [lt_frame (is := r) (fun q hq => h1 q (List.mem_append_right _ hq)) (fun q hq => h2 q (List.mem_append_right _ hq))]
          exact hf'
    · rename_i _ _ _ nf na nr is e; cases hu
      have h51 : t = 51 := by omega
      rw [e] at hf' ⊢
      unfold tk_ok at hf' ⊢
      simp only at hf' ⊢
      rw [vw_F_frame h1, vw_E2_frame h2 (fun q hq => h3 q (by show q ∈ (if t = 51 then _ else _); rw [if_pos h51]; exact hq))]; exact hf'
    · rename_i _ _ ns nf na is e; cases hu
      rw [e] at hf' ⊢
      unfold tk_ok at hf' ⊢
      simp only at hf' ⊢
      rw [vw_F_frame h1, vw_E_frame h2]; exact hf'
    · cases hu
  · exact ⟨by show (21 : Nat) < 100; decide, h0, fc_pure (Or.inl rfl) hf⟩
  · exact ⟨by show (22 : Nat) < 100; decide, h0, fc_pure (Or.inr (Or.inl rfl)) hf⟩
  · exact ⟨by show (23 : Nat) < 100; decide, h0, fc_pure (Or.inr (Or.inr (Or.inl rfl))) hf⟩
  · exact ⟨by show (24 : Nat) < 100; decide, h0, fc_pure (Or.inr (Or.inr (Or.inr rfl))) hf⟩
  · cases hu
/-- a fact about an array that has a name -/
def tk_nm (f : fc_T) : Option Nat := match f with
  | (20, [a, _], [t, _, _, _]) => if t = 8 then some a else none
  | _ => none
def tk_dj (y : sy_T) (a b : Nat) : Bool := match y.1[a]?, y.1[b]? with
  | some t, some u => decide (t.1 = 2) && decide (u.1 = 2) && t.2.2.2.all (fun r => !(u.2.2.2.contains r))
  | _, _ => false
def tk_nk (y : sy_T) (s : fc_T) (a : Nat) : Bool := match s with
  | (100, [b, _, _], _) => tk_dj y a b
  | (103, [b], _) => tk_dj y a b
  | (101, [_, _], [_]) => true
  | (102, [n0], m :: _) => decide (a ≤ n0) && (match y.1[a]? with | some t => decide (t.1 = 2) && t.2.2.2.all (fun r => !(m.toNat.testBit r)) | none => false)
  | _ => false
theorem tk_dj_ok {y : sy_T} {vs : List Value} {a b : Nat} (hy : sy_env ta y.1 vs) (h : tk_dj y a b = true) : n_ad vs a ≠ n_ad vs b := by
  unfold tk_dj at h
  split at h
  · rename_i t u ht hu
    rw [Bool.and_eq_true, Bool.and_eq_true, decide_eq_true_eq, decide_eq_true_eq] at h
    have hlt : a < vs.length := by rw [hy.1]; exact (List.getElem?_eq_some_iff.mp ht).1
    have hv := List.getElem?_eq_getElem hlt
    have hn : n_v vs a = vs[a] := by unfold n_v; rw [hv]; rfl
    have := ar_ne hy hu h.1.2 (hy.2 _ _ _ ht hv) h.1.1 h.2
    show v_ad (n_v vs a) ≠ _
    rw [hn]; exact this
  · cases h
theorem tk_nk_ok {y : sy_T} {vs : List Value} {s : fc_T} {a : Nat} {ta0 : Nat → Option Nat} {w0 : va_W} (hy : sy_env ta y.1 vs) (hle : ta_le ta0 ta) (hs : fc_s s ta0 w0 ws vs) (h : tk_nk y s a = true) : ∀ j, w_el ws (n_ad vs a) j = w_el w0 (n_ad vs a) j := by
  obtain ⟨_, hs⟩ := hs
  unfold tk_nk at h
  split at h
  · intro j
    have hne := tk_dj_ok hy h
    rw [hs.1, if_neg (fun e => hne e.1)]
  · intro j
    exact hs.1 _ j (tk_dj_ok hy h)
  · exact fun j => hs.1 _ j
  · rename_i n0 m _ _
    rw [Bool.and_eq_true, decide_eq_true_eq] at h
    have h2 := h.2
    split at h2
    · rename_i t ht
      rw [Bool.and_eq_true, decide_eq_true_eq] at h2
      have hlt : a < vs.length := by rw [hy.1]; exact (List.getElem?_eq_some_iff.mp ht).1
      have hv := List.getElem?_eq_getElem hlt
      obtain ⟨c, r, e, h3, h4⟩ := tv_ref (hy.2 _ _ _ ht hv) h2.1
      have hn : n_v vs a = .ref c := by unfold n_v; rw [hv, e]; rfl
      have o1 := hs.2.2.1 n0 List.mem_cons_self a h.1 c hn
      obtain ⟨r', hr'⟩ := Option.isSome_iff_exists.mp o1
      have hr2 := hle _ _ hr'
      rw [h3] at hr2
      have hbit := List.all_eq_true.mp h2.2 r h4
      rw [Bool.not_eq_true', Option.some.inj hr2] at hbit
      intro j
      have ea : n_ad vs a = c := by unfold n_ad; rw [hn]; rfl
      rw [ea]
      exact hs.1 c r' hr' hbit j
    · cases h2
  · cases h
theorem tk_nm_frame {w0 w1 : va_W} {vs : List Value} {f : fc_T} {a : Nat} (hu : tk_nm f = some a) (h2 : ∀ j, w_el w1 (n_ad vs a) j = w_el w0 (n_ad vs a) j) (hf : fc_1 f w0 vs) : f.1 < 100 ∧ fc_1 f w1 vs := by
  obtain ⟨h0, hf⟩ := hf
  unfold tk_nm at hu
  split at hu
  · rename_i b n t lo hi d
    split at hu
    · rename_i ht
      cases hu
      subst ht
      refine ⟨by show (20 : Nat) < 100; decide, h0, ?_⟩
      have hf' : ∀ j : Nat, (j : Int) < v_iv (n_v vs n) + d → lo ≤ w_el w0 (v_ad (n_v vs a)) j ∧ w_el w0 (v_ad (n_v vs a)) j ≤ hi := hf
      show ∀ j : Nat, (j : Int) < v_iv (n_v vs n) + d → lo ≤ w_el w1 (v_ad (n_v vs a)) j ∧ w_el w1 (v_ad (n_v vs a)) j ≤ hi
      intro j hj
      have e : w_el w1 (v_ad (n_v vs a)) j = w_el w0 (v_ad (n_v vs a)) j := h2 j
      rw [e]; exact hf' j hj
    · cases hu
  · cases hu
/-- the facts before the newest change of the world -/
def fc_top : List fc_T → Option (fc_T × List fc_T)
  | [] => none
  | f :: r => if f.1 < 100 then fc_top r else some (f, fc_now r)
/-- a field of the objects in an array of references stays -/
def tk_rk (G : List rg_T) (y : sy_T) (s : fc_T) (q : Nat × Nat × Nat) : Bool := match s with
  | (100, [_, _, _], _) => true
  | (103, [_], _) => true
  | (101, [_, _], [k]) => decide (k.toNat ≠ q.2.2 % 1000)
  | (102, [n0], m :: ks) => decide (q.1 ≤ n0) && tk_all G y (q.1, q.2.1) (fun w => decide (w.2.1 = 2) && w.2.2.2.2.all (fun ra => !(m.toNat.testBit ra) && (match G[ra]? with
    | some g => decide (4 ≤ g.1) && decide (g.1 < 8) && decide (q.2.2 / 1000 ≤ g.2.1) && decide (g.2.2.2.1.1 = 2) && g.2.2.2.1.2.2.2.all (fun r2 => match G[r2]? with
      | some g2 => decide (10 ≤ g2.1) && !(ks.contains ((1000 * (g2.1 - 10) + q.2.2 % 1000 : Nat) : Int))
      | none => false)
    | none => false)))
  | _ => false
theorem tk_rk_ok {y : sy_T} {vs : List Value} {s : fc_T} {q : Nat × Nat × Nat} {ta0 : Nat → Option Nat} {w0 : va_W} (hD : va_D A ws) (hth : th_ok kA G ta ws) (hy : sy_env ta y.1 vs) (hle : ta_le ta0 ta) (hs : fc_s s ta0 w0 ws vs) (hak : w_ar ws (n_v vs q.1) q.2.1 = w_ar w0 (n_v vs q.1) q.2.1 ∧ ∀ j, w_el ws (w_ar w0 (n_v vs q.1) q.2.1) j = w_el w0 (w_ar w0 (n_v vs q.1) q.2.1) j) (hfk : w_fd ws (n_ad vs q.1) q.2.1 = w_fd w0 (n_ad vs q.1) q.2.1) (h : tk_rk G y s q = true) : ∀ z : Int, 0 ≤ z → z < ((q.2.2 / 1000 : Nat) : Int) → w_fd ws (w_ei w0 (w_ar w0 (n_v vs q.1) q.2.1) z).toNat (q.2.2 % 1000) = w_fd w0 (w_ei w0 (w_ar w0 (n_v vs q.1) q.2.1) z).toNat (q.2.2 % 1000) := by
  intro z hz0 hz1
  obtain ⟨_, hs⟩ := hs
  unfold tk_rk at h
  split at h
  · exact hs.2 _ _
  · exact hs.2 _ _
  · rename_i k
    rw [decide_eq_true_eq] at h
    rw [hs.2, if_neg (fun e => h e.2.symm)]
  · rename_i n0 m ks _
    rw [Bool.and_eq_true, decide_eq_true_eq] at h
    obtain ⟨a, ci, t, fs, h1, h2, h3, h4⟩ := tk_all_ok hD hth hy h.2
    have ea : n_ad vs q.1 = a := by unfold n_ad; rw [h1]; rfl
    rw [Bool.and_eq_true, decide_eq_true_eq] at h2
    obtain ⟨b, rb, eb, hb1, hb2⟩ := tv_ref h4 h2.1
    have h5 := List.all_eq_true.mp h2.2 rb hb2
    rw [Bool.and_eq_true, Bool.not_eq_true'] at h5
    obtain ⟨hm, h6⟩ := h5
    cases hg : G[rb]? with
    | none => rw [hg] at h6; cases h6
    | some g =>
      rw [hg] at h6
      simp only [Bool.and_eq_true, decide_eq_true_eq] at h6
      obtain ⟨⟨⟨⟨k1, k2⟩, k3⟩, k4⟩, k5⟩ := h6
      have eb0 : w_fd w0 a q.2.1 = .ref b := by rw [← ea, ← hfk, ea]; exact eb
      have ta0a : (ta0 a).isSome = true := hs.2.2.1 n0 List.mem_cons_self q.1 h.1 a h1
      have ta0b : (ta0 b).isSome = true := hs.2.2.2.2.1 a q.2.1 b ta0a eb0
      obtain ⟨rb0, hrb0⟩ := Option.isSome_iff_exists.mp ta0b
      have er : rb0 = rb := by have := hle b rb0 hrb0; rw [hb1] at this; exact (Option.some.inj this).symm
      subst er
      have ear : w_ar w0 (n_v vs q.1) q.2.1 = b := by rw [← hak.1]; show v_ad (w_fd ws (n_ad vs q.1) q.2.1) = b; rw [ea, eb]; rfl
      obtain ⟨e, q2, hr⟩ := th_in hth hb1 hg
      rcases hr with ⟨z', _⟩ | ⟨z', _⟩ | ⟨_, _, n, f, rfl, l1, l2, hf⟩ | ⟨z', _⟩
      · omega
      · omega
      · have hj : z.toNat < n := by omega
        obtain ⟨c', r2, ec, hc1, hc2⟩ := tv_ref (hf z.toNat hj) k4
        have hfc : f z.toNat = some c' := by
          cases hv : f z.toNat with
          | none => rw [hv] at ec; cases ec
          | some d => rw [hv] at ec; have : Value.ref d = Value.ref c' := ec; cases this; rfl
        have hwb := w_at_mem hD q2
        have eel : w_ei w0 (w_ar w0 (n_v vs q.1) q.2.1) z = ((c' : Nat) : Int) := by
          unfold w_ei
          rw [← hak.2, ear]
          unfold w_el
          rw [hwb]
          simp only [hfc]
        rw [eel, Int.toNat_natCast]
        have k6 := List.all_eq_true.mp k5 r2 hc2
        cases hg2 : G[r2]? with
        | none => rw [hg2] at k6; cases k6
        | some g2 =>
          rw [hg2] at k6
          simp only [Bool.and_eq_true, decide_eq_true_eq, Bool.not_eq_true'] at k6
          obtain ⟨e2, p2, hr2⟩ := th_in hth hc1 hg2
          rcases hr2 with ⟨z', _⟩ | ⟨z', _⟩ | ⟨_, z', _⟩ | ⟨_, fs2, rfl, _, _⟩
          · omega
          · omega
          · omega
          · refine hs.2.2.2.1 c' (g2.1 - 10) fs2 (q.2.2 % 1000) (hs.2.2.2.2.2 b rb0 z.toNat c' hrb0 hm ⟨_, n, f, hwb, hj, hfc⟩) (w_at_mem hD p2) (fun hc => ?_)
            have := List.contains_iff_mem.mpr hc
            rw [k6.2] at this
            cases this
      · omega
  · cases h
def fc_carry (G : List rg_T) (y : sy_T) (fs : List fc_T) : List fc_T := match fc_top fs with
  | some (s, L) => L.filter (fun f => (match tk_use f with | some u => u.1.all (tk_fk G y s) && u.2.all (tk_ak G y s) && (tk_rs f).all (fun q => tk_ak G y s (q.1, q.2.1) && tk_rk G y s q) | none => (match tk_nm f with | some a => tk_nk y s a | none => false)) && !((fc_now fs).contains f))
  | none => []
theorem fc_top_ok : ∀ {fs : List fc_T} {ta : Nat → Option Nat} {ws : va_W} {vs : List Value} {s : fc_T} {L : List fc_T}, fc_ok fs ta ws vs → fc_top fs = some (s, L) → ∃ ta0 w0, ta_le ta0 ta ∧ fc_s s ta0 w0 ws vs ∧ ∀ f ∈ L, fc_1 f w0 vs
  | [], _, _, _, _, _, _, h => by cases h
  | g :: r, ta, ws, vs, s, L, hf, h => by
    unfold fc_ok at hf
    unfold fc_top at h
    split at hf
    · rename_i hq
      rw [if_pos hq] at h
      exact fc_top_ok hf.2 h
    · rename_i hq
      rw [if_neg hq] at h
      obtain ⟨ta0, w0, a, b, d⟩ := hf
      have e := Option.some.inj h
      have e1 : g = s := by injection e
      have e2 : fc_now r = L := by injection e
      subst e1; subst e2
      exact ⟨ta0, w0, a, b, fun f hf2 => (fc_now_ok d f hf2).2⟩
theorem fc_carry_ok {y : sy_T} {vs : List Value} {fs : List fc_T} (hD : va_D A ws) (hth : th_ok kA G ta ws) (hy : sy_env ta y.1 vs) (hf : fc_ok fs ta ws vs) : fc_ok (fc_carry G y fs ++ fs) ta ws vs := by
  refine fc_app hf (fun f hf2 => ?_)
  unfold fc_carry at hf2
  split at hf2
  · rename_i s L hs
    obtain ⟨h1, h2⟩ := List.mem_filter.mp hf2
    obtain ⟨ta0, w0, a, b, d⟩ := fc_top_ok hf hs
    rw [Bool.and_eq_true] at h2
    have h3 := h2.1
    split at h3
    · rename_i u hu
      rw [Bool.and_eq_true, Bool.and_eq_true] at h3
      exact tk_frame hu (fun q hq => tk_fk_ok hD hth hy b (List.all_eq_true.mp h3.1.1 q hq)) (fun q hq => tk_ak_ok hD hth hy a b (List.all_eq_true.mp h3.1.2 q hq)) (fun q hq => by
        have h4 := List.all_eq_true.mp h3.2 q hq
        rw [Bool.and_eq_true] at h4
        have h5 := h4.1
        unfold tk_ak at h5
        rw [Bool.and_eq_true] at h5
        exact tk_rk_ok hD hth hy a b (tk_ak_ok (q := (q.1, q.2.1)) hD hth hy a b h4.1) (tk_fk_ok (q := (q.1, q.2.1)) hD hth hy b h5.1) h4.2) (d f h1)
    · split at h3
      · rename_i x hx
        exact tk_nm_frame hx (tk_nk_ok hy a b h3) (d f h1)
      · cases h3
  · cases hf2
end M14b
