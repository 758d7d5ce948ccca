/-! an object is made: new, dup, its constructor. While it is made it is of a region of its own, that no kind names -/
def rw_i (tr tf : tv_T) : Bool := decide (tr.1 = tf.1) && (decide (tr.1 = 0) || decide (tr.1 = 1)) && decide (tf.2.1 ≤ tr.2.1) && decide (tr.2.2.1 ≤ tf.2.2.1)
def rw_k (PA : List sy_T) (k : Nat) (tr tf : tv_T) : Bool := decide (tr = tf) || rw_i tr tf || (decide (tr.1 = 3) && decide (tf.1 = 2) && decide (tr.2 = tf.2) && pa_chk k PA)
def rw_ks (PA : List sy_T) : Nat → List tv_T → List tv_T → Bool
  | k, a :: r, b :: s => rw_k PA k a b && rw_ks PA (k + 1) r s
  | _, [], [] => true
  | _, _, _ => false
def rw_v (t : tv_T) : Value → Bool
  | .int x => decide (t.1 = 0) && decide (x = 0) && decide (t.2.1 ≤ 0) && decide (0 ≤ t.2.2.1)
  | .long x => decide (t.1 = 1) && decide (x = 0) && decide (t.2.1 ≤ 0) && decide (0 ≤ t.2.2.1)
  | .null => decide (t.1 = 3)
  | _ => false
def rw_0 : List tv_T → List Value → Bool
  | t :: ts, v :: vs => rw_v t v && rw_0 ts vs
  | [], [] => true
  | _, _ => false
def ga_0 (GA : ga_L) (fs0 : List Value) : Bool := GA.all (fun q => decide (q.1.1 = 0) && decide (q.2.1 = 3) && (match fs0[q.1.2]? with | some .null => true | _ => false))
def nr_chk (G : List rg_T) (rr : Nat) : Bool := G.all (fun g => (rg_ks g).all (fun t => !((tv_refs t).contains rr)))
section M19
variable {kA : Nat → ClassId} {G : List rg_T} {ta : Nat → Option Nat} {ws : va_W} {A : Nat → Prop} {PQ : pq_T}
theorem rw_ks_ok {PA : List sy_T} : ∀ {k : Nat} {a b : List tv_T}, rw_ks PA k a b = true → a.length = b.length ∧ ∀ (j : Nat) (t u : tv_T), a[j]? = some t → b[j]? = some u → rw_k PA (k + j) t u = true
  | k, x :: r, y :: s, h => by
    have h : (rw_k PA k x y && rw_ks PA (k + 1) r s) = true := h
    rw [Bool.and_eq_true] at h
    obtain ⟨h1, h2⟩ := h
    obtain ⟨i1, i2⟩ := rw_ks_ok h2
    refine ⟨by rw [List.length_cons, List.length_cons, i1], fun j t u ht hu => ?_⟩
    cases j with
    | zero =>
      obtain rfl := Option.some.inj ht
      obtain rfl := Option.some.inj hu
      exact h1
    | succ j =>
      have z := i2 j t u ht hu
      rw [show k + (j + 1) = k + 1 + j by omega]; exact z
  | _, [], [], _ => ⟨rfl, fun j t u ht _ => by cases ht⟩
  | _, [], _ :: _, h => by cases h
  | _, _ :: _, [], h => by cases h
theorem rw_v_ok {t : tv_T} {v : Value} (h : rw_v t v = true) : tv_ok ta t v := by
  cases v with
  | int x =>
    have h : (decide (t.1 = 0) && decide (x = 0) && decide (t.2.1 ≤ 0) && decide (0 ≤ t.2.2.1)) = true := h
    simp only [Bool.and_eq_true, decide_eq_true_eq] at h
    obtain ⟨⟨⟨a, rfl⟩, b⟩, d⟩ := h
    exact Or.inl ⟨a, 0, rfl, b, d⟩
  | long x =>
    have h : (decide (t.1 = 1) && decide (x = 0) && decide (t.2.1 ≤ 0) && decide (0 ≤ t.2.2.1)) = true := h
    simp only [Bool.and_eq_true, decide_eq_true_eq] at h
    obtain ⟨⟨⟨a, rfl⟩, b⟩, d⟩ := h
    exact Or.inr (Or.inl ⟨a, 0, rfl, b, d⟩)
  | null =>
    have h : decide (t.1 = 3) = true := h
    rw [decide_eq_true_eq] at h
    exact Or.inr (Or.inr (Or.inr (Or.inl ⟨h, Or.inl rfl⟩)))
  | _ => cases h
theorem rw_0_ok : ∀ {ts : List tv_T} {vs : List Value}, rw_0 ts vs = true → vs.length = ts.length ∧ ∀ (j : Nat) (t : tv_T) (v : Value), ts[j]? = some t → vs[j]? = some v → tv_ok ta t v
  | t :: ts, v :: vs, h => by
    have h : (rw_v t v && rw_0 ts vs) = true := h
    rw [Bool.and_eq_true] at h
    obtain ⟨i1, i2⟩ := rw_0_ok h.2
    refine ⟨by rw [List.length_cons, List.length_cons, i1], fun j t' v' ht hv => ?_⟩
    cases j with
    | zero =>
      obtain rfl := Option.some.inj ht
      obtain rfl := Option.some.inj hv
      exact rw_v_ok h.1
    | succ j => exact i2 j t' v' ht hv
  | [], [], _ => ⟨rfl, fun j t v ht _ => by cases ht⟩
  | [], _ :: _, h => by cases h
  | _ :: _, [], h => by cases h
theorem nr_no {rr r : Nat} {g : rg_T} {t : tv_T} {q : Nat} (h : nr_chk G rr = true) (hg : G[q]? = some g) (ht : t ∈ rg_ks g) (hr : r ∈ tv_refs t) : r ≠ rr := by
  rintro rfl
  have z := List.all_eq_true.mp (List.all_eq_true.mp h g (List.mem_of_getElem? hg)) t ht
  rw [List.contains_iff_mem.mpr hr] at z
  cases z
/-- the object is done: it is of its region -/
theorem th_re (hD : va_D A ws) (hth : th_ok kA G ta ws) (hG : ∀ r, ro_id r = true → G[r]? = none) {o rr r : Nat} {gr gf : rg_T} (ho : ta o = some rr) (hgr : G[rr]? = some gr) (hgf : G[r]? = some gf) (h10 : 10 ≤ gf.1) (e1 : gr.1 = gf.1) (hno : nr_chk G rr = true) (hl : gr.2.2.2.2.length = gf.2.2.2.2.length)
    (hk : ∀ (k : Nat) (tr tf : tv_T), gr.2.2.2.2[k]? = some tr → gf.2.2.2.2[k]? = some tf → tr = tf ∨ rw_i tr tf = true ∨ (tr.1 = 3 ∧ tf.1 = 2 ∧ tr.2 = tf.2 ∧ ∃ d, w_fd ws o k = .ref d)) : th_ok kA G (fun a => if a = o then some r else ta a) ws := by
  have ne : ∀ {q : Nat} {g : rg_T} {t : tv_T} {b r1 : Nat}, G[q]? = some g → t ∈ rg_ks g → ta b = some r1 → r1 ∈ tv_refs t → (if b = o then some r else ta b) = some r1 := fun hg ht hb hr => by
    have z := nr_no hno hg ht hr
    rw [if_neg (fun e => by subst e; rw [ho] at hb; exact z (Option.some.inj hb).symm)]; exact hb
  refine ⟨fun a r0 ha => ?_, fun r1 hr1 => ?_⟩
  · by_cases ea : a = o
    · subst ea
      have ha : (if a = a then some r else ta a) = some r0 := ha
      rw [if_pos rfl] at ha
      obtain rfl := Option.some.inj ha
      obtain ⟨e, he, hr⟩ := th_in hth ho hgr
      refine Or.inl ⟨gf, e, hgf, he, ?_⟩
      rcases hr with ⟨z, _⟩ | ⟨z, _⟩ | ⟨_, z, _⟩ | ⟨_, fs, rfl, hfl, hft⟩
      · omega
      · omega
      · omega
      · refine Or.inr (Or.inr (Or.inr ⟨h10, fs, by rw [e1], by rw [hfl, hl], fun j t v ht hv => ?_⟩))
        have hks : t ∈ rg_ks gf := by
          unfold rg_ks
          rw [if_neg (by omega), if_neg (by omega)]; exact List.mem_of_getElem? ht
        have hlt : j < gr.2.2.2.2.length := by rw [hl]; exact (List.getElem?_eq_some_iff.mp ht).1
        have htr : gr.2.2.2.2[j]? = some gr.2.2.2.2[j] := List.getElem?_eq_getElem hlt
        have hv1 := hft j _ v htr hv
        rcases hk j _ t htr ht with q | q | ⟨q1, q2, q3, d, hd⟩
        · rw [q] at hv1
          exact tv_to hv1 (fun b r1 _ hb hr => ⟨r1, ne hgf hks hb hr, hr⟩)
        · unfold rw_i at q
          simp only [Bool.or_eq_true, Bool.and_eq_true, decide_eq_true_eq] at q
          obtain ⟨⟨⟨q1, q2⟩, q3⟩, q4⟩ := q
          rcases hv1 with ⟨z, x, rfl, x1, x2⟩ | ⟨z, x, rfl, x1, x2⟩ | ⟨z, _⟩ | ⟨z, _⟩ | ⟨z, _⟩ | ⟨z, _⟩
          · exact Or.inl ⟨by omega, x, rfl, by omega, by omega⟩
          · exact Or.inr (Or.inl ⟨by omega, x, rfl, by omega, by omega⟩)
          · omega
          · omega
          · omega
          · omega
        · have hv2 : v = .ref d := by
            have z : w_fd ws a j = v := by
              unfold w_fd
              rw [w_at_mem hD he]
              show fs.getD j .null = v
              rw [List.getD_eq_getElem?_getD, hv]; rfl
            rw [← z]; exact hd
          subst hv2
          rcases hv1 with ⟨z, _⟩ | ⟨z, _⟩ | ⟨z, _⟩ | ⟨_, z | ⟨b, r1, z1, z2, z3⟩⟩ | ⟨z, _⟩ | ⟨z, _⟩
          · omega
          · omega
          · omega
          · cases z
          · have hr1 : r1 ∈ t.2.2.2 := by rw [← q3]; exact z3
            exact Or.inr (Or.inr (Or.inl ⟨q2, b, r1, z1, ne hgf hks z2 (by unfold tv_refs; rw [if_pos (Or.inl q2)]; exact hr1), hr1⟩))
          · omega
          · omega
    · have ha : (if a = o then some r else ta a) = some r0 := ha
      rw [if_neg ea] at ha
      rcases hth.1 a r0 ha with ⟨g, e, h1, h2, h3⟩ | h
      · exact Or.inl ⟨g, e, h1, h2, rg_to (fun _ _ => rfl) h3 (fun t ht b r1 hb hr => ⟨r1, ne h1 ht hb hr, hr⟩)⟩
      · exact Or.inr h
  · obtain ⟨r2, z1, z2, z3⟩ := hth.2 r1 hr1
    refine ⟨r2, z1, ?_, z3⟩
    show (if kA r1 = o then some r else ta (kA r1)) = some r2
    rw [if_neg (fun e => by
      rw [e, ho] at z2
      have e2 := Option.some.inj z2
      have e3 := hG _ z1
      rw [← e2, hgr] at e3
      cases e3)]
    exact z2
theorem ga_0_ok {q : Nat} {e1 : Nat} {fs0 : List Value} {w : va_W} (hm : (q, .inr (e1, fs0)) ∈ w) : ∀ {GA : ga_L}, ga_0 GA fs0 = true → gv_ok ta w [Value.ref q] GA (GA.map (fun _ => Value.null))
  | [], _ => trivial
  | x :: r, h => by
    have h : ((decide (x.1.1 = 0) && decide (x.2.1 = 3) && (match fs0[x.1.2]? with | some .null => true | _ => false)) && ga_0 r fs0) = true := h
    rw [Bool.and_eq_true, Bool.and_eq_true, Bool.and_eq_true, decide_eq_true_eq, decide_eq_true_eq] at h
    obtain ⟨⟨⟨a1, a2⟩, a3⟩, a4⟩ := h
    refine ⟨⟨q, e1, fs0, by rw [a1]; rfl, hm, ?_⟩, Or.inr (Or.inr (Or.inr (Or.inl ⟨a2, Or.inl rfl⟩))), ga_0_ok hm a4⟩
    split at a3
    · rename_i e; exact e
    · cases a3
theorem cat_sum : ∀ (l : List Value), (l.map fun v => v.category).sum ≤ 2 * l.length
  | [] => Nat.zero_le _
  | v :: r => by
    have h := cat_sum r
    have hv : v.category ≤ 2 := by cases v <;> exact Nat.le_of_ble_eq_true rfl
    rw [List.map_cons, List.sum_cons, List.length_cons]; omega
set_option maxHeartbeats 1000000 in
/-- new, dup, constructor -/
theorem cq_new {l : Launch} {D : va_G} {own : String} {y : MethodName} {bytes cc : ByteArray} {maxL index idx pc : Nat} {C : String} {T : u_T} {N ci : Nat} {fs0 : List Value} {enr en : en_T} {rr r : Nat} {gr gf : rg_T} (hM : ct_ok PQ l D kA G y (Cond.code y bytes maxL none :: lw_g) enr)
    (h1 : enr.1 = [(2, 0, 0, [rr])]) (h2 : enr.2.1 = none) (h3 : ga_0 enr.2.2.2.2.2.2.2.1 fs0 = true) (h6 : enr.2.2.2.2.2.2.2.2.2.2.2.1.all (fun f => f.2.1.all (fun n => decide (n < 1))) = true) (h4 : enr.2.2.2.2.2.2.2.2.2.2.2.2 = []) (h5 : enr.2.2.2.2.2.2.2.2.2.2.1 = [])
    (he : en = ([], some (2, 0, 0, [r]), false, enr.2.2.2.1, enr.2.2.2.2.1 + 1, enr.2.2.2.2.2.1 + N, [], [], enr.2.2.2.2.2.2.2.2.1, enr.2.2.2.2.2.2.2.2.2.1, [], enr.2.2.2.2.2.2.2.2.2.2.2.1, []))
    (hG : ∀ r, ro_id r = true → G[r]? = none) (hgr : G[rr]? = some gr) (hgf : G[r]? = some gf) (k1 : gr.1 = ci + 10) (k2 : gf.1 = ci + 10) (k3 : rw_ks enr.2.2.2.2.2.2.1 0 gr.2.2.2.2 gf.2.2.2.2 = true) (k4 : rw_0 gr.2.2.2.2 fs0 = true) (k5 : nr_chk G rr = true)
    (hi : ∀ w ∈ u_ws C T N, w ∈ lw_g) (ty : Nat → FieldType) (hty : ∀ k, k < N → parseFieldDescriptor (T k).2.2.1 = some (ty k)) (hcl : Cond.classLink own idx C ∈ lw_g) (hinst : Cond.instantiable C N ∈ lw_g) (hini : Cond.initialized C ∈ lw_g) (hc : classes[ci]? = some (C, T, N)) (hfs : ∀ j, j < N → defaultValue (ty j) = vp_V fs0 j)
    (hcode : Cond.code y bytes maxL none ∈ lw_g) (hini2 : Cond.initialized y.cls ∈ lw_g) (hl : Cond.methodLink own index y ∈ lw_g ∨ ∃ host, Cond.methodLinkNest own index y host ∈ lw_n) (hin : Cond.instanceMethod y ∈ lw_g) (hy1 : y.name = "<init>") (hd : y.cls ≠ "java/lang/invoke/MethodHandle" ∧ y.cls ≠ "java/lang/invoke/VarHandle" ∧ (parseMethodDescriptor y.desc).map (fun d => d.parameters.length) = some 0) (hm : maxL ≤ 37)
    (d1 : decode cc pc = .ok (.new idx, 3)) (d2 : decode cc (pc + 3) = .ok (.dup, 1)) (d3 : decode cc (pc + 4) = .ok (.invokespecial index, 3)) : cq_ok PQ l D kA G own (fun c p st => c = cc ∧ p = pc ∧ st.length ≤ 3) 7 en := by
  subst he
  intro p e R s m args below meth c H locs cells slots Q cc' pc' nL ret nm A ws ta ls av gv hv rest X hK hN hA hP hD hS hth hag hgv hhv hpr hrest hfr hlo hce hsl hls hdec kk
  obtain ⟨rfl, rfl, hr3⟩ := hdec
  have hfr : enr.2.2.2.1 + 1 ≤ R.frames := hfr
  have hlo : 64 * (enr.2.2.2.1 + 1) ≤ R.locals := hlo
  have hce : cells + (enr.2.2.2.2.1 + 1) ≤ R.cells := hce
  have hsl : slots + (enr.2.2.2.2.2.1 + N) ≤ R.slots := hsl
  cases av with
  | cons _ _ => exact hag.elim
  | nil =>
  cases gv with
  | cons _ _ => exact hgv.elim
  | nil =>
  cases hv with
  | cons _ _ => exact hhv.elim
  | nil =>
  show W p l e R s m args below meth c H locs cells slots Q (F0 m pc' ls rest)
  obtain ⟨z1, z2⟩ := rw_0_ok (ta := ta) k4
  refine va_new X.1 X.2.1 X.2.2.2.2.1 hi ty hty X.2.2.2.1 (X.2.2.2.2.1 _ hcl) (X.2.2.2.2.1 _ hinst) (X.2.2.2.2.1 _ hini) hK hP hD hS hA hc hfs (by omega) (by omega) d1 (fun q H1 hP1 hD1 hS1 => ?_)
  have hfresh := th_fresh hN.2.1 hth hD1
  obtain ⟨le1, hth1⟩ := th_new (kA := kA) (G := G) hth (a := q) (e1 := .inr (ci, fs0)) hfresh hgr (Or.inr (Or.inr (Or.inr ⟨by omega, fs0, by rw [k1, Nat.add_sub_cancel], z1, fun j t v ht hv => (rw_0_ok k4).2 j t v ht hv⟩)))
  refine lv_dup X.1 X.2.1 d2 rfl ?_
  have hq1 : (fun a => if a = q then some rr else ta a) q = some rr := if_pos rfl
  have hag1 : ag_ok (fun a => if a = q then some rr else ta a) enr.1 [Value.ref q] := by
    rw [h1]; exact ⟨Or.inr (Or.inr (Or.inl ⟨rfl, q, rr, rfl, hq1, List.mem_singleton.mpr rfl⟩)), trivial⟩
  obtain ⟨gw, hgw⟩ : ∃ gw, gw = enr.2.2.2.2.2.2.2.1.map (fun _ => Value.null) := ⟨_, rfl⟩
  have hM2 := hM H1.size _ _ [Value.ref q] gw [] hth1 hag1 (by rw [hgw]; exact ga_0_ok (List.mem_append_right _ (List.mem_singleton.mpr rfl)) h3) (by rw [h4]; exact trivial) (fun f hf => by rw [h5] at hf; cases hf)
  have hw : ((Value.ref q :: rest).map fun v => v.category).sum ≤ 8 := by
    have := cat_sum rest
    rw [List.map_cons, List.sum_cons, show (Value.ref q).category = 1 from rfl]; omega
  have hR : (rm_of enr.2.2.2.1 enr.2.2.2.2.1 enr.2.2.2.2.2.1).frames + 1 ≤ R.frames ∧ 8 + (maxL + 11) + (rm_of enr.2.2.2.1 enr.2.2.2.2.1 enr.2.2.2.2.2.1).locals ≤ R.locals := ⟨hfr, by show 8 + (maxL + 11) + 64 * enr.2.2.2.1 ≤ R.locals; omega⟩
  have hrun : va_Run p l e R s m args below meth c H1 locs (cells + 1) (slots + N) enr.2.2.2.2.1 enr.2.2.2.2.2.1 (F0 m (pc' + 3 + 1) ls (Value.ref q :: Value.ref q :: rest)) (Value.ref q :: rest) (qc_of PQ D kA G enr (fun a => if a = q then some rr else ta a) (ws ++ [(q, .inr (ci, fs0))]) H1.size ([Value.ref q] ++ gw ++ []) (Value.ref q :: []).toArray) (va_A (ws ++ [(q, .inr (ci, fs0))]) H1.size) := by
    rcases hl with hl | ⟨host, hl⟩
    · exact k_rI X hM2 rfl hcode hini2 hl hin hy1 0 hd hR rfl rfl (m_pre hN hA hS1 hK hP1 hD1) rfl hls rfl hw d3 ⟨by omega, by omega⟩
    · exact k_rIN hN.1 X hM2 rfl hcode hini2 hl hin hy1 0 hd hR rfl rfl (m_pre hN hA hS1 hK hP1 hD1) rfl hls rfl hw d3 ⟨by omega, by omega⟩
  refine m_go (PQ := PQ) (en := enr) (av := [Value.ref q]) (gv := gw) (hv := []) hrun hP1 hD1 hS1 hA (fun tb w1 H2 locs2 r0 b1 b2 b3 b4 b5 b6 b7 b8 b9 => ?_)
  have er : r0 = none := by
    rw [h2] at b6
    cases r0 with
    | none => rfl
    | some v => exact b6.elim
  subst er
  have hq : tb q = some rr := b1 q rr hq1
  obtain ⟨y1, y2⟩ := rw_ks_ok k3
  have hth2 := th_re (r := r) b4 b2 hG hq hgr hgf (by omega) (by omega) k5 y1 (fun k tr tf htr htf => by
    have z := y2 k tr tf htr htf
    rw [Nat.zero_add] at z
    unfold rw_k at z
    simp only [Bool.or_eq_true, Bool.and_eq_true, decide_eq_true_eq] at z
    rcases z with (z | z) | ⟨⟨⟨a1, a2⟩, a3⟩, a4⟩
    · exact Or.inl z
    · exact Or.inr (Or.inl z)
    · exact Or.inr (Or.inr ⟨a1, a2, a3, pa_ref (b4.weaken (fun _ _ _ _ => trivial)) b7 a4 rfl⟩))
  have e1 : cells + 1 + enr.2.2.2.2.1 = cells + (enr.2.2.2.2.1 + 1) := by omega
  have e2 : slots + N + enr.2.2.2.2.2.1 = slots + (enr.2.2.2.2.2.1 + N) := by omega
  rw [e1, e2]
  refine kk _ w1 H2 locs2 (some (Value.ref q)) (fun a r1 ha => ?_) hth2 b3 b4 b5 (Or.inr (Or.inr (Or.inl ⟨rfl, q, r, rfl, if_pos rfl, List.mem_singleton.mpr rfl⟩))) ⟨fun f hf => ?_, Or.inl rfl⟩ (fun h => by cases h) ?_
  · show (if a = q then some r else tb a) = some r1
    rw [if_neg (fun e => by subst e; rw [hfresh] at ha; cases ha)]
    exact b1 a r1 (le1 a r1 ha)
  · have z := b7.1 f hf
    have hn := List.all_eq_true.mp (List.all_eq_true.mp h6 f hf)
    refine fc_cut (xs := [Value.ref q]) (ys := gw ++ [] ++ []) (fun n hn' => ?_) (by rw [List.append_assoc, List.append_assoc] at z; rw [List.append_assoc]; exact z)
    have := hn n hn'
    rw [decide_eq_true_eq] at this
    exact this
  · exact ⟨fun a ci fs ha => by
      obtain ⟨fs', m1, m2⟩ := b9.1 a ci fs (List.mem_append_left _ ha)
      exact ⟨fs', m1, fun r1 k hr hk => m2 r1 k (le1 a r1 hr) hk⟩, fun a r1 x ha hb hx => b9.2 a r1 x (le1 a r1 ha) hb (List.mem_append_left _ hx)⟩
/-- the constructor of Object -/
theorem cl_obj {l : Launch} {D : va_G} {own : String} {idx : Nat} {t0 : tv_T} (ht : t0.1 = 2) (hl : Cond.methodLink own idx Lib.objectInit ∈ lw_g) (hi : Cond.instanceMethod Lib.objectInit ∈ lw_g) (hc : Cond.code Lib.objectInit ⟨#[0xb1]⟩ 1 none ∈ lw_g) : cl_ok PQ l D kA G own (.invokespecial idx) 3 ([t0], none, true, 1, 0, 0, [], [], (0, [], [], [], [])) := by
  intro p e R s m args below meth c H locs cells slots Q cc pc nL ret nm A ws ta ls av gv hv rest X hK hN hA hP hD hS hth hag hgv hhv hpr hrest hfr hlo hce hsl hls hdec kk
  match av, hag with
  | [v0], hag =>
    obtain ⟨b, r, rfl, _, _⟩ := tv_ref hag.1 ht
    have hfr : 1 + 1 ≤ R.frames := hfr
    have hlo : 64 * (1 + 1) ≤ R.locals := hlo
    have hrm := rm16 (m := m) (pc := pc) (ls := ls) (st := Value.ref b :: rest) hrest
    refine W.objInit X.1 X.2.1 X.2.2.2.1 (X.2.2.2.2.1 _ hl) (X.2.2.2.2.1 _ hi) (X.2.2.2.2.1 _ hc) (g := F0 m pc ls (Value.ref b :: rest)) rfl (hls.trans X.2.2.1.symm) rfl hdec (by omega) (by omega) ?_
    match gv, hgv, hv, hhv with
    | [], _, [], _ => exact kk ta ws H locs none (fun _ _ h => h) hth hP hD hS trivial ⟨fun f hf => (by cases hf), Or.inl rfl⟩ (fun _ => rfl) kp_refl
end M19
