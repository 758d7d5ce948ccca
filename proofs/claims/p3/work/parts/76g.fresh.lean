/-! the start's world, by regions -/
def st_all (kA : Nat → ClassId) (ta : Nat → Option Nat) : va_W → List Nat → Prop
  | [], [] => True
  | (_, e) :: ws, r :: rs => (∃ g, GG[r]? = some g ∧ rg_ok kA ta g e) ∧ st_all kA ta ws rs
  | _, _ => False
theorem st_app {kA : Nat → ClassId} {ta : Nat → Option Nat} : ∀ {ws : va_W} {rs : List Nat} {ws2 : va_W} {rs2 : List Nat}, st_all kA ta ws rs → st_all kA ta ws2 rs2 → st_all kA ta (ws ++ ws2) (rs ++ rs2)
  | [], [], _, _, _, h => h
  | (_, _) :: _, _ :: _, _, _, h, h2 => ⟨h.1, st_app h.2 h2⟩
  | [], _ :: _, _, _, h, _ => h.elim
  | (_, _) :: _, [], _, _, h, _ => h.elim
theorem st_len {kA : Nat → ClassId} {ta : Nat → Option Nat} : ∀ {ws : va_W} {rs : List Nat}, st_all kA ta ws rs → ws.length = rs.length
  | [], [], _ => rfl
  | (_, _) :: ws, _ :: rs, h => by rw [List.length_cons, List.length_cons, st_len h.2]
  | [], _ :: _, h => h.elim
  | (_, _) :: _, [], h => h.elim
theorem st_get {kA : Nat → ClassId} {ta : Nat → Option Nat} : ∀ {ws : va_W} {rs : List Nat}, st_all kA ta ws rs → ∀ (i : Nat) (a : Nat) (e : va_E) (r : Nat), ws[i]? = some (a, e) → rs[i]? = some r → ∃ g, GG[r]? = some g ∧ rg_ok kA ta g e
  | [], [], _, i, a, e, r, h1, _ => by simp at h1
  | (b, f) :: ws, q :: rs, h, i, a, e, r, h1, h2 => by
    cases i with
    | zero =>
      rw [List.getElem?_cons_zero] at h1 h2
      cases h1; cases h2; exact h.1
    | succ i =>
      rw [List.getElem?_cons_succ] at h1 h2
      exact st_get h.2 i a e r h1 h2
  | [], _ :: _, h, _, _, _, _, _, _ => h.elim
  | (_, _) :: _, [], h, _, _, _, _, _, _ => h.elim
def st_ix : va_W → List Nat → Nat → Option Nat
  | (a, _) :: ws, r :: rs, q => if q = a then some r else st_ix ws rs q
  | _, _, _ => none
theorem st_ix_at : ∀ (ws : va_W) (rs : List Nat), (∀ (i j : Nat) (p q : Nat × va_E), ws[i]? = some p → ws[j]? = some q → p.1 = q.1 → i = j) → ∀ (i a r : Nat) (e : va_E), ws[i]? = some (a, e) → rs[i]? = some r → st_ix ws rs a = some r
  | [], _, _, i, a, r, e, h1, _ => by simp at h1
  | (_, _) :: _, [], _, i, a, r, e, _, h2 => by simp at h2
  | (b, f) :: ws, q :: rs, hd, i, a, r, e, h1, h2 => by
    unfold st_ix
    cases i with
    | zero =>
      rw [List.getElem?_cons_zero] at h1 h2
      cases h1; cases h2; rw [if_pos rfl]
    | succ i =>
      have hne : a ≠ b := fun z => by
        have := hd (i + 1) 0 (a, e) (b, f) h1 rfl z
        omega
      rw [if_neg hne]
      rw [List.getElem?_cons_succ] at h1 h2
      exact st_ix_at ws rs (fun i j p q g1 g2 g3 => by
        have := hd (i + 1) (j + 1) p q (by rw [List.getElem?_cons_succ]; exact g1) (by rw [List.getElem?_cons_succ]; exact g2) g3
        omega) i a r e h1 h2
theorem st_ix_in : ∀ (ws : va_W) (rs : List Nat) (a r : Nat), st_ix ws rs a = some r → ∃ (i : Nat) (e : va_E), ws[i]? = some (a, e) ∧ rs[i]? = some r
  | [], _, a, r, h => by simp [st_ix] at h
  | (_, _) :: _, [], a, r, h => by simp [st_ix] at h
  | (b, f) :: ws, q :: rs, a, r, h => by
    unfold st_ix at h
    by_cases c : a = b
    · rw [if_pos c] at h
      exact ⟨0, f, by rw [List.getElem?_cons_zero, c], by rw [List.getElem?_cons_zero]; exact h⟩
    · rw [if_neg c] at h
      obtain ⟨i, e, g1, g2⟩ := st_ix_in ws rs a r h
      exact ⟨i + 1, e, by rw [List.getElem?_cons_succ]; exact g1, by rw [List.getElem?_cons_succ]; exact g2⟩
theorem st_ix_no : ∀ (ws : va_W) (rs : List Nat), ws.length = rs.length → ∀ (a : Nat), st_ix ws rs a = none → ∀ e, (a, e) ∉ ws
  | [], _, _, a, _, e, h => by simp at h
  | (_, _) :: _, [], hl, a, _, e, _ => by simp at hl
  | (b, f) :: ws, q :: rs, hl, a, h, e, hm => by
    unfold st_ix at h
    by_cases c : a = b
    · rw [if_pos c] at h; cases h
    · rw [if_neg c] at h
      rcases List.mem_cons.mp hm with z | z
      · exact c (Prod.mk.inj z).1
      · exact st_ix_no ws rs (by simpa using hl) a h e z
def ro_lo : List Nat := (List.range ro_N).map (fun i => 5000 + i) ++ (List.range ro_N).map (fun i => 5200 + i) ++ [5400, 5401]
theorem ro_lo_id : ∀ r ∈ ro_lo, ro_id r = true ∧ r < 5500 := by decide +kernel
theorem ro_lo_mem {r : Nat} (h : ro_id r = true) (h5 : r < 5500) : r ∈ ro_lo := by
  have := ro_ids_mem h
  unfold ro_ids at this
  unfold ro_lo
  simp only [List.mem_append, List.mem_cons, List.not_mem_nil, or_false] at this ⊢
  rcases this with q | q | q | q | q
  · exact Or.inl q
  · exact Or.inr (Or.inl q)
  · exact Or.inr (Or.inr q)
  · omega
  · omega
def RI (kB : Nat → ClassId) : Prop := ∀ r r_zq, ro_id r = true → ro_id r_zq = true → r < 5500 → r_zq < 5500 → kB r = kB r_zq → r = r_zq
def st_ta (kB : Nat → ClassId) (ws : va_W) (rs : List Nat) : Nat → Option Nat := fun a => match st_ix ws rs a with
  | some r => some r
  | none => ro_lo.find? (fun r => decide (kB r = a))
theorem st_ta_at {kB : Nat → ClassId} {A : Nat → Prop} {ws : va_W} {rs : List Nat} (hD : va_D A ws) {a r : Nat} {e : va_E} (i : Nat) (h1 : ws[i]? = some (a, e)) (h2 : rs[i]? = some r) : st_ta kB ws rs a = some r := by
  unfold st_ta
  rw [st_ix_at ws rs hD.1 i a r e h1 h2]
theorem ro_hi {r : Nat} (h : ro_id r = true) (h5 : ¬ r < 5500) : r = 5500 ∨ r = 5999 := by
  unfold ro_id at h
  simp only [Bool.or_eq_true, Bool.and_eq_true, decide_eq_true_eq] at h
  omega
theorem st_th {kB : Nat → ClassId} {A : Nat → Prop} {ws : va_W} {rs : List Nat} (hD : va_D A ws) (hA : ∀ r, ro_id r = true → ¬ A (kB r)) (hinj : RI kB) (h55 : kB 5500 = kB 5000) (h59 : kB 5999 = kB 5000) (hG : ∀ r, ro_id r = true → GG[r]? = none) (hall : st_all kB (st_ta kB ws rs) ws rs) : th_ok kB GG (st_ta kB ws rs) ws := by
  refine ⟨fun a r h => ?_, fun r hr => ?_⟩
  · unfold st_ta at h
    cases hx : st_ix ws rs a with
    | some r2 =>
      rw [hx] at h
      cases h
      obtain ⟨i, e, g1, g2⟩ := st_ix_in ws rs a r hx
      obtain ⟨g, g3, g4⟩ := st_get hall i a e r g1 g2
      exact Or.inl ⟨g, e, g3, List.mem_iff_getElem?.mpr ⟨i, g1⟩, g4⟩
    | none =>
      rw [hx] at h
      have h : ro_lo.find? (fun r => decide (kB r = a)) = some r := h
      have hm := List.mem_of_find?_eq_some h
      have hp := List.find?_some h
      have hp : kB r = a := of_decide_eq_true hp
      exact Or.inr ⟨hG r (ro_lo_id r hm).1, (ro_lo_id r hm).1, hp.symm, st_ix_no ws rs (st_len hall) a hx⟩
  · have hx : st_ix ws rs (kB r) = none := by
      cases hx : st_ix ws rs (kB r) with
      | none => rfl
      | some r2 =>
        obtain ⟨i, e, g1, _⟩ := st_ix_in ws rs _ r2 hx
        exact absurd (hD.2 i _ g1) (hA r hr)
    obtain ⟨y, hy, hk⟩ : ∃ y, y ∈ ro_lo ∧ kB y = kB r ∧ (r < 5500 → y = r) := by
      by_cases c : r < 5500
      · exact ⟨r, ro_lo_mem hr c, rfl, fun _ => rfl⟩
      · refine ⟨5000, by decide, ?_, fun z => absurd z c⟩
        rcases ro_hi hr c with e | e
        · rw [e, h55]
        · rw [e, h59]
    cases hf : ro_lo.find? (fun x => decide (kB x = kB r)) with
    | none =>
      have := List.find?_eq_none.mp hf y hy
      exact absurd (decide_eq_true hk.1) this
    | some r2 =>
      have hm := List.mem_of_find?_eq_some hf
      have hp := List.find?_some hf
      have hp : kB r2 = kB r := of_decide_eq_true hp
      refine ⟨r2, (ro_lo_id r2 hm).1, ?_, fun c => hinj r2 r (ro_lo_id r2 hm).1 hr (ro_lo_id r2 hm).2 c hp⟩
      unfold st_ta
      rw [hx]
      exact hf
/-! cells -/
def st_fs (ta : Nat → Option Nat) : List tv_T → List Value → Prop
  | [], [] => True
  | t :: ts, v :: vs => tv_ok ta t v ∧ st_fs ta ts vs
  | _, _ => False
theorem st_fs_len {ta : Nat → Option Nat} : ∀ {ts : List tv_T} {vs : List Value}, st_fs ta ts vs → vs.length = ts.length
  | [], [], _ => rfl
  | _ :: ts, _ :: vs, h => by rw [List.length_cons, List.length_cons, st_fs_len h.2]
  | [], _ :: _, h => h.elim
  | _ :: _, [], h => h.elim
theorem st_fs_at {ta : Nat → Option Nat} : ∀ {ts : List tv_T} {vs : List Value}, st_fs ta ts vs → ∀ (j : Nat) (t : tv_T) (v : Value), ts[j]? = some t → vs[j]? = some v → tv_ok ta t v
  | [], [], _, j, t, v, h1, _ => by simp at h1
  | t0 :: ts, v0 :: vs, h, j, t, v, h1, h2 => by
    cases j with
    | zero =>
      rw [List.getElem?_cons_zero] at h1 h2
      cases h1; cases h2; exact h.1
    | succ j =>
      rw [List.getElem?_cons_succ] at h1 h2
      exact st_fs_at h.2 j t v h1 h2
  | [], _ :: _, h, _, _, _, _, _ => h.elim
  | _ :: _, [], h, _, _, _, _, _ => h.elim
theorem rg_o {kA : Nat → ClassId} {ta : Nat → Option Nat} {g : rg_T} {c : Nat} {fs : List Value} (h10 : 10 ≤ g.1) (hc : c = g.1 - 10) (h : st_fs ta g.2.2.2.2 fs) : rg_ok kA ta g (.inr (c, fs)) :=
  Or.inr (Or.inr (Or.inr ⟨h10, fs, by rw [hc], st_fs_len h, st_fs_at h⟩))
def rgc (g : rg_T) (k n : Nat) (c : Int) : Bool := decide (g.1 = k) && decide (g.2.1 ≤ n) && decide (n ≤ g.2.2.1) && decide (g.2.2.2.1.2.1 ≤ c) && decide (c ≤ g.2.2.2.1.2.2.1)
theorem rgc_of {g : rg_T} {k n : Nat} {c : Int} (h : rgc g k n c = true) : g.1 = k ∧ g.2.1 ≤ n ∧ n ≤ g.2.2.1 ∧ g.2.2.2.1.2.1 ≤ c ∧ c ≤ g.2.2.2.1.2.2.1 := by
  unfold rgc at h
  simp only [Bool.and_eq_true, decide_eq_true_eq] at h
  exact ⟨h.1.1.1.1, h.1.1.1.2, h.1.1.2, h.1.2, h.2⟩
theorem rg_i {kA : Nat → ClassId} {ta : Nat → Option Nat} {g : rg_T} {k n : Nat} {f : Nat → Int32} (hk : k < 3) (h0 : rgc g k n 0 = true) (h1 : g.2.2.2.1.1 = 0) (h2 : g.2.2.2.2 = []) (hf : ∀ j, j < n → g.2.2.2.1.2.1 ≤ (f j).toInt ∧ (f j).toInt ≤ g.2.2.2.1.2.2.1) : rg_ok kA ta g (.inl (kA k, n, .inl f)) := by
  obtain ⟨a, b, c, _, _⟩ := rgc_of h0
  refine Or.inl ⟨by omega, n, f, by rw [a], b, c, h1, fun j hj => Or.inl ⟨h1, f j, rfl, (hf j hj).1, (hf j hj).2⟩, fun j t hj ht => ?_⟩
  rw [h2] at ht
  simp at ht
theorem rg_z {kA : Nat → ClassId} {ta : Nat → Option Nat} {g : rg_T} {k n : Nat} {f : Nat → Int32} (hk : k < 3) (h0 : rgc g k n 0 = true) (h1 : g.2.2.2.1.1 = 0) (h2 : g.2.2.2.2 = []) (hf : ∀ j, f j = 0) : rg_ok kA ta g (.inl (kA k, n, .inl f)) :=
  rg_i hk h0 h1 h2 (fun j _ => by rw [hf j]; exact ⟨(rgc_of h0).2.2.2.1, (rgc_of h0).2.2.2.2⟩)
theorem rg_l {kA : Nat → ClassId} {ta : Nat → Option Nat} {g : rg_T} {n : Nat} {f : Nat → Int64} (h0 : rgc g 3 n 0 = true) (h1 : g.2.2.2.1.1 = 1) (hf : ∀ j, f j = 0) : rg_ok kA ta g (.inl (kA 3, n, .inr (.inl f))) := by
  obtain ⟨a, b, c, d, e⟩ := rgc_of h0
  exact Or.inr (Or.inl ⟨a, n, f, rfl, b, c, h1, fun j _ => Or.inr (Or.inl ⟨h1, f j, rfl, by rw [hf j]; exact d, by rw [hf j]; exact e⟩)⟩)
theorem rg_r {kA : Nat → ClassId} {ta : Nat → Option Nat} {g : rg_T} {k n : Nat} {f : Nat → Option Nat} (hk : 4 ≤ k ∧ k < 10) (h0 : (decide (g.1 = k) && decide (g.2.1 ≤ n) && decide (n ≤ g.2.2.1)) = true) (hf : ∀ j, j < n → tv_ok ta g.2.2.2.1 (va_rf (f j))) : rg_ok kA ta g (.inl (kA k, n, .inr (.inr (.inr (.inr f))))) := by
  simp only [Bool.and_eq_true, decide_eq_true_eq] at h0
  exact Or.inr (Or.inr (Or.inl ⟨by omega, by omega, n, f, by rw [h0.1.1], h0.1.2, h0.2, hf⟩))
theorem tv0 {ta : Nat → Option Nat} {lo hi : Int} {l : List Nat} {x : Int32} (h : (decide (lo ≤ x.toInt) && decide (x.toInt ≤ hi)) = true) : tv_ok ta (0, lo, hi, l) (.int x) := by
  rw [Bool.and_eq_true, decide_eq_true_eq, decide_eq_true_eq] at h
  exact Or.inl ⟨rfl, x, rfl, h.1, h.2⟩
theorem tv1 {ta : Nat → Option Nat} {lo hi : Int} {l : List Nat} {x : Int64} (h : (decide (lo ≤ x.toInt) && decide (x.toInt ≤ hi)) = true) : tv_ok ta (1, lo, hi, l) (.long x) := by
  rw [Bool.and_eq_true, decide_eq_true_eq, decide_eq_true_eq] at h
  exact Or.inr (Or.inl ⟨rfl, x, rfl, h.1, h.2⟩)
theorem tv2 {ta : Nat → Option Nat} {a r : Nat} {l : List Nat} {lo hi : Int} (h : ta a = some r) (hm : r ∈ l) : tv_ok ta (2, lo, hi, l) (.ref a) := Or.inr (Or.inr (Or.inl ⟨rfl, a, r, rfl, h, hm⟩))
theorem tv3n {ta : Nat → Option Nat} {l : List Nat} {lo hi : Int} : tv_ok ta (3, lo, hi, l) .null := Or.inr (Or.inr (Or.inr (Or.inl ⟨rfl, Or.inl rfl⟩)))
theorem tv5 {ta : Nat → Option Nat} {lo hi : Int} {l : List Nat} {x : Int32} (h : (decide (lo ≤ x.toInt) && decide (x.toInt ≤ hi) && decide (x.toInt = 0)) = true) : tv_ok ta (5, lo, hi, l) (.int x) := by
  rw [Bool.and_eq_true, Bool.and_eq_true, decide_eq_true_eq, decide_eq_true_eq, decide_eq_true_eq] at h
  exact Or.inr (Or.inr (Or.inr (Or.inr (Or.inl ⟨rfl, x, rfl, h.1.1, h.1.2, 0, by rw [h.2]; show (0 : Int) = _ * 0; rw [Int.mul_zero]⟩))))
/-! reading it -/
theorem wf_at {A : Nat → Prop} {ws : va_W} (hD : va_D A ws) {a c k : Nat} {fs : List Value} {v : Value} (i : Nat) (h : ws[i]? = some (a, .inr (c, fs))) (hv : fs[k]? = some v) : w_fd ws a k = v := by
  unfold w_fd
  rw [w_at_mem hD (List.mem_iff_getElem?.mpr ⟨i, h⟩)]
  show fs.getD k .null = v
  rw [List.getD_eq_getElem?_getD, hv]; rfl
theorem we_at {A : Nat → Prop} {ws : va_W} (hD : va_D A ws) {a n : Nat} {cl : ClassId} {f : Nat → Int32} (i : Nat) (h : ws[i]? = some (a, .inl (cl, n, .inl f))) (j : Nat) : w_el ws a j = (f j).toInt := by
  unfold w_el
  rw [w_at_mem hD (List.mem_iff_getElem?.mpr ⟨i, h⟩)]
theorem wr_at {A : Nat → Prop} {ws : va_W} (hD : va_D A ws) {a n j b : Nat} {cl : ClassId} {f : Nat → Option Nat} (i : Nat) (h : ws[i]? = some (a, .inl (cl, n, .inr (.inr (.inr (.inr f)))))) (hf : f j = some b) : w_el ws a j = (b : Int) := by
  unfold w_el
  rw [w_at_mem hD (List.mem_iff_getElem?.mpr ⟨i, h⟩)]
  show (match f j with | some b => ((b : Nat) : Int) | none => 0) = _
  rw [hf]
theorem wz_at {A : Nat → Prop} {ws : va_W} (hD : va_D A ws) {a n : Nat} {cl : ClassId} {f : Nat → Int32} (i : Nat) (h : ws[i]? = some (a, .inl (cl, n, .inl f))) : w_ei ws a = fun z => (f z.toNat).toInt := funext (fun z => we_at hD i h z.toNat)
theorem ad_ne {A : Nat → Prop} {ws : va_W} (hD : va_D A ws) {i j a b : Nat} {e f : va_E} (h1 : ws[i]? = some (a, e)) (h2 : ws[j]? = some (b, f)) (h : i ≠ j) : a ≠ b := fun z => h (hD.1 i j _ _ h1 h2 z)

/-! the tables of orders -/
theorem updq_at {f : Nat → Int32} {n : Nat} {v : Int32} : upd f n v n = v := by unfold upd; exact if_pos rfl
theorem updq_ne {f : Nat → Int32} {n j : Nat} {v : Int32} (h : j ≠ n) : upd f n v j = f j := by unfold upd; exact if_neg h
def OKf (n : Nat) (f : Nat → Int32) : Prop := (∀ i, i < n → 0 ≤ (f i).toInt ∧ (f i).toInt < (n : Int)) ∧ ∀ i j, i < n → j < n → f i = f j → i = j
theorem okf_id (f : Nat → Int32) {n : Nat} (hn : n ≤ 6) : OKf n (idf f n) := by
  have e : ∀ i, i < n → (idf f n i).toInt = (i : Int) := fun i hi => by unfold idf; rw [if_pos hi]; exact nI_toInt (by omega)
  refine ⟨fun i hi => by rw [e i hi]; omega, fun i j hi hj h => ?_⟩
  have := congrArg Int32.toInt h
  rw [e i hi, e j hj] at this
  omega
theorem okf_swap {n a b : Nat} {f : Nat → Int32} (h : OKf n f) (ha : a < n) (hb : b < n) : OKf n (upd (upd f a (f b)) b (f a)) := by
  have e : ∀ i, upd (upd f a (f b)) b (f a) i = f (if i = b then a else if i = a then b else i) := fun i => by
    simp only [upd]
    by_cases c : i = b
    · rw [if_pos c, if_pos c]
    · rw [if_neg c, if_neg c]
      by_cases d : i = a
      · rw [if_pos d, if_pos d]
      · rw [if_neg d, if_neg d]
  have m : ∀ i, i < n → (if i = b then a else if i = a then b else i) < n := fun i hi => by
    by_cases c : i = b
    · rw [if_pos c]; exact ha
    · rw [if_neg c]
      by_cases d : i = a
      · rw [if_pos d]; exact hb
      · rw [if_neg d]; exact hi
  refine ⟨fun i hi => by rw [e i]; exact h.1 _ (m i hi), fun i j hi hj q => ?_⟩
  rw [e i, e j] at q
  have z := h.2 _ _ (m i hi) (m j hj) q
  revert z
  repeat' split
  all_goals omega
theorem okf_rvf : ∀ (k n : Nat) (f : Nat → Int32) (a b : Nat), OKf n f → a < n → b < n → OKf n (rvf k f a b)
  | 0, n, f, a, b, h, _, _ => h
  | k + 1, n, f, a, b, h, ha, hb => by
    simp only [rvf]
    by_cases c : a < b
    · rw [if_pos c]
      exact okf_rvf k n _ (a + 1) (b - 1) (okf_swap h ha hb) (by omega) (by omega)
    · rw [if_neg c]; exact h
theorem dj_le (f : Nat → Int32) (v : Int32) : ∀ k, dj f v k ≤ k
  | 0 => Nat.le_refl 0
  | k + 1 => by
    simp only [dj]
    by_cases h : v ≤ f (k + 1)
    · rw [if_pos h]; exact Nat.le_refl _
    · rw [if_neg h]; exact Nat.le_succ_of_le (dj_le f v k)
theorem okf_nof {n : Nat} {f : Nat → Int32} (h : OKf n f) : OKf n (nof f n) := by
  unfold nof
  by_cases c : ds f (n - 1) = 0
  · rw [if_pos c]; exact h
  · rw [if_neg c]
    have h1 := ds_le f (n - 1)
    have h2 := dj_le f (f (ds f (n - 1) - 1)) (n - 1)
    exact okf_rvf n n _ _ _ (okf_swap h (by omega) (by omega)) (by omega) (by omega)
theorem nar_id {x : Int32} (h0 : 0 ≤ x.toInt) (h1 : x.toInt < 6) : vp_nar .byte (x.toInt8.toInt32) = x := by
  have hc : x = 0 ∨ x = 1 ∨ x = 2 ∨ x = 3 ∨ x = 4 ∨ x = 5 := by
    have : x.toInt = 0 ∨ x.toInt = 1 ∨ x.toInt = 2 ∨ x.toInt = 3 ∨ x.toInt = 4 ∨ x.toInt = 5 := by omega
    rcases this with q | q | q | q | q | q
    · exact Or.inl (Int32.toInt_inj.mp (by rw [q]; rfl))
    · exact Or.inr (Or.inl (Int32.toInt_inj.mp (by rw [q]; rfl)))
    · exact Or.inr (Or.inr (Or.inl (Int32.toInt_inj.mp (by rw [q]; rfl))))
    · exact Or.inr (Or.inr (Or.inr (Or.inl (Int32.toInt_inj.mp (by rw [q]; rfl)))))
    · exact Or.inr (Or.inr (Or.inr (Or.inr (Or.inl (Int32.toInt_inj.mp (by rw [q]; rfl))))))
    · exact Or.inr (Or.inr (Or.inr (Or.inr (Or.inr (Int32.toInt_inj.mp (by rw [q]; rfl))))))
  rcases hc with q | q | q | q | q | q <;> (rw [q]; decide)
def ROWP (n : Nat) (p : Nat → Int32) (c : Nat) : Prop := (∀ i, i < n → 0 ≤ (p (c + i)).toInt ∧ (p (c + i)).toInt < (n : Int)) ∧ ∀ i j, i < n → j < n → p (c + i) = p (c + j) → i = j
theorem rowp_cg {n c : Nat} {p q : Nat → Int32} (h : ROWP n p c) (e : ∀ i, i < n → q (c + i) = p (c + i)) : ROWP n q c :=
  ⟨fun i hi => by rw [e i hi]; exact h.1 i hi, fun i j hi hj z => h.2 i j hi hj (by rw [e i hi, e j hj] at z; exact z)⟩
theorem cpB_in {pm : Nat → Int32} {b n : Nat} {f : Nat → Int32} (hn : n ≤ 6) (h : OKf n f) {i : Nat} (hi : i < n) : cpB pm b f n (b + i) = f i := by
  unfold cpB
  rw [if_pos (by omega), Nat.add_sub_cancel_left]
  exact nar_id (h.1 i hi).1 (by have := (h.1 i hi).2; omega)
theorem cpB_out {pm : Nat → Int32} {b n : Nat} {f : Nat → Int32} {j : Nat} (hj : j < b ∨ b + n ≤ j) : cpB pm b f n j = pm j := by
  unfold cpB
  rw [if_neg (by omega)]
theorem rowp_cpB {pm : Nat → Int32} {b n : Nat} {f : Nat → Int32} (hn : n ≤ 6) (h : OKf n f) : ROWP n (cpB pm b f n) b :=
  ⟨fun i hi => by rw [cpB_in hn h hi]; exact h.1 i hi, fun i j hi hj z => h.2 i j hi hj (by rw [cpB_in hn h hi, cpB_in hn h hj] at z; exact z)⟩
theorem i32_s {x : Int32} (h0 : 0 ≤ x.toInt) (h1 : x.toInt < 1000) : (x + 1).toInt = x.toInt + 1 := by
  rw [Int32.toInt_add, show (1 : Int32).toInt = 1 from rfl]
  simp only [Int.bmod]
  split <;> omega
def ALP (p : Nat → Int32) : Prop := ∀ j, 0 ≤ (p j).toInt ∧ (p j).toInt ≤ 5
theorem alp_cpB {pm : Nat → Int32} {b n : Nat} {f : Nat → Int32} (hn : n ≤ 6) (h : OKf n f) (hp : ALP pm) : ALP (cpB pm b f n) := fun j => by
  by_cases c : b ≤ j ∧ j < b + n
  · have e := cpB_in (pm := pm) (b := b) hn h (i := j - b) (by omega)
    rw [show b + (j - b) = j by omega] at e
    rw [e]
    have := h.1 (j - b) (by omega)
    omega
  · rw [cpB_out (by omega)]; exact hp j
theorem alp_upd {f : Nat → Int32} {a : Nat} {v : Int32} (hf : ALP f) (hv : 0 ≤ v.toInt ∧ v.toInt ≤ 5) : ALP (upd f a v) := fun j => by
  simp only [upd]
  split
  · exact hv
  · exact hf j
theorem alp_rvf : ∀ (k : Nat) (f : Nat → Int32) (a b : Nat), ALP f → ALP (rvf k f a b)
  | 0, f, a, b, h => h
  | k + 1, f, a, b, h => by
    simp only [rvf]
    by_cases c : a < b
    · rw [if_pos c]
      exact alp_rvf k _ (a + 1) (b - 1) (alp_upd (alp_upd h (h b)) (h a))
    · rw [if_neg c]; exact h
theorem alp_nof {n : Nat} {f : Nat → Int32} (h : ALP f) : ALP (nof f n) := by
  unfold nof
  by_cases c : ds f (n - 1) = 0
  · rw [if_pos c]; exact h
  · rw [if_neg c]
    exact alp_rvf n _ _ _ (alp_upd (alp_upd h (h _)) (h _))
theorem alp_idf {n : Nat} {f : Nat → Int32} (hn : n ≤ 6) (h : ALP f) : ALP (idf f n) := fun j => by
  unfold idf
  by_cases c : j < n
  · rw [if_pos c, nI_toInt (by omega)]; omega
  · rw [if_neg c]; exact h j
theorem whl_good : ∀ (k n : Nat) (f pm : Nat → Int32) (b : Nat) (my : Nat → Int32), n ≤ 6 → OKf n f → finf k n f = true → 0 ≤ (my n).toInt → (my n).toInt + k ≤ 900 → ∃ r, 1 ≤ r ∧ r ≤ k ∧ (whl k n f pm b my).2.2.1 = b + n * r ∧ (∀ m, m ≠ n → (whl k n f pm b my).2.2.2 m = my m) ∧ ((whl k n f pm b my).2.2.2 n).toInt = (my n).toInt + r ∧ (∀ j, j < b ∨ b + n * r ≤ j → (whl k n f pm b my).2.1 j = pm j) ∧ ∀ q, q < r → ROWP n (whl k n f pm b my).2.1 (b + n * q)
  | 0, n, f, pm, b, my, _, _, h, _, _ => by simp [finf] at h
  | k + 1, n, f, pm, b, my, hn, hf, h, m0, m1 => by
    simp only [finf] at h
    simp only [whl]
    by_cases c : ds f (n - 1) = 0
    · rw [if_pos c]
      refine ⟨1, Nat.le_refl _, by omega, by rw [Nat.mul_one], fun m hm => updq_ne hm, ?_, fun j hj => cpB_out (by rw [Nat.mul_one] at hj; exact hj), fun q hq => ?_⟩
      · show ((upd my n (my n + 1)) n).toInt = _
        rw [updq_at, i32_s m0 (by omega)]; rfl
      · rw [show q = 0 by omega, Nat.mul_zero, Nat.add_zero]
        exact rowp_cpB hn hf
    · rw [if_neg c] at h ⊢
      have e1 : (upd my n (my n + 1)) n = my n + 1 := updq_at
      have e2 : (my n + 1).toInt = (my n).toInt + 1 := i32_s m0 (by omega)
      obtain ⟨r, r1, r2, r3, r4, r5, r6, r7⟩ := whl_good k n (nof f n) (cpB pm b f n) (b + n) (upd my n (my n + 1)) hn (okf_nof hf) h (by rw [e1, e2]; omega) (by rw [e1, e2]; omega)
      have em : n * (r + 1) = n * r + n := Nat.mul_succ n r
      refine ⟨r + 1, by omega, by omega, by rw [r3, em]; omega, fun m hm => by rw [r4 m hm]; exact updq_ne hm, by rw [r5, e1, e2]; omega, fun j hj => ?_, fun q hq => ?_⟩
      · rw [em] at hj
        rw [r6 j (by omega)]
        exact cpB_out (by omega)
      · cases q with
        | zero =>
          rw [Nat.mul_zero, Nat.add_zero]
          exact rowp_cg (rowp_cpB (pm := pm) (b := b) hn hf) (fun i hi => r6 _ (by omega))
        | succ q =>
          have := r7 q (by omega)
          rw [show b + n * (q + 1) = b + n + n * q by rw [Nat.mul_succ]; omega]
          exact this
theorem whl_alp : ∀ (k n : Nat) (f pm : Nat → Int32) (b : Nat) (my : Nat → Int32), n ≤ 6 → OKf n f → ALP f → ALP pm → ALP (whl k n f pm b my).1 ∧ ALP (whl k n f pm b my).2.1
  | 0, n, f, pm, b, my, _, _, h1, h2 => ⟨h1, h2⟩
  | k + 1, n, f, pm, b, my, hn, hf, h1, h2 => by
    simp only [whl]
    by_cases c : ds f (n - 1) = 0
    · rw [if_pos c]; exact ⟨h1, alp_cpB hn hf h2⟩
    · rw [if_neg c]; exact whl_alp k n _ _ _ _ hn (okf_nof hf) (alp_nof h1) (alp_cpB hn hf h2)
theorem fct_le : ∀ n, n ≤ 6 → fct n ≤ 720 := by decide
def PG (n : Nat) (f my pm pb : Nat → Int32) : Prop := ∀ s, s < n → ∃ r c : Nat, 1 ≤ r ∧ r ≤ 720 ∧ ((prm f my pm pb n).2.2.2.1 s).toInt = r ∧ (prm f my pm pb n).2.2.2.2 s = nI c ∧ c + s * r ≤ (prm f my pm pb n).2.2.1 ∧ ∀ q, q < r → ROWP s (prm f my pm pb n).2.1 (c + s * q)
theorem bnd_le : ∀ n, n ≤ 7 → bnd n ≤ 5500 := by decide
theorem pg_all (f my pm pb : Nat → Int32) : ∀ n, n ≤ 7 → PG n f my pm pb
  | 0, _ => fun s hs => by omega
  | n + 1, hn => by
    have ih := pg_all f my pm pb n (by omega)
    have hz : (upd (prm f my pm pb n).2.2.2.1 n 0) n = 0 := updq_at
    have hfc := fct_le n (by omega)
    obtain ⟨r, r1, r2, r3, r4, r5, r6, r7⟩ := whl_good (fct n) n (idf (prm f my pm pb n).1 n) (prm f my pm pb n).2.1 (prm f my pm pb n).2.2.1 (upd (prm f my pm pb n).2.2.2.1 n 0) (by omega) (okf_id _ (by omega)) (finf_id _ n (by omega)) (by rw [hz]; decide) (by rw [hz]; show (0 : Int) + _ ≤ 900; omega)
    intro s hs
    show ∃ r c : Nat, 1 ≤ r ∧ r ≤ 720 ∧ ((whl (fct n) n (idf (prm f my pm pb n).1 n) (prm f my pm pb n).2.1 (prm f my pm pb n).2.2.1 (upd (prm f my pm pb n).2.2.2.1 n 0)).2.2.2 s).toInt = r ∧ (upd (prm f my pm pb n).2.2.2.2 n (nI (prm f my pm pb n).2.2.1)) s = nI c ∧ c + s * r ≤ (whl (fct n) n (idf (prm f my pm pb n).1 n) (prm f my pm pb n).2.1 (prm f my pm pb n).2.2.1 (upd (prm f my pm pb n).2.2.2.1 n 0)).2.2.1 ∧ ∀ q, q < r → ROWP s (whl (fct n) n (idf (prm f my pm pb n).1 n) (prm f my pm pb n).2.1 (prm f my pm pb n).2.2.1 (upd (prm f my pm pb n).2.2.2.1 n 0)).2.1 (c + s * q)
    by_cases c : s = n
    · subst c
      refine ⟨r, (prm f my pm pb s).2.2.1, r1, by omega, ?_, updq_at, by rw [r3]; exact Nat.le_refl _, r7⟩
      rw [r5, hz]; show (0 : Int) + _ = _; omega
    · obtain ⟨r_zq, c_zq, g1, g2, g3, g4, g5, g6⟩ := ih s (by omega)
      refine ⟨r_zq, c_zq, g1, g2, ?_, by rw [updq_ne c]; exact g4, by rw [r3]; exact Nat.le_trans g5 (Nat.le_add_right _ _), fun q hq => rowp_cg (g6 q hq) (fun i hi => r6 _ (Or.inl ?_))⟩
      · rw [r4 s c, updq_ne c]; exact g3
      · have e : s * (q + 1) ≤ s * r_zq := Nat.mul_le_mul_left s (by omega)
        rw [Nat.mul_succ] at e
        omega
theorem prm_alp (my pb : Nat → Int32) : ∀ n, n ≤ 7 → ALP (prm (fun _ => 0) my (fun _ => 0) pb n).1 ∧ ALP (prm (fun _ => 0) my (fun _ => 0) pb n).2.1
  | 0, _ => ⟨fun _ => (show 0 ≤ (0 : Int32).toInt ∧ (0 : Int32).toInt ≤ 5 by decide), fun _ => (show 0 ≤ (0 : Int32).toInt ∧ (0 : Int32).toInt ≤ 5 by decide)⟩
  | n + 1, hn => by
    have ih := prm_alp my pb n (by omega)
    exact whl_alp (fct n) n _ _ _ _ (by omega) (okf_id _ (by omega)) (alp_idf (by omega) ih.1) ih.2
theorem prm_pb {f my pm pb : Nat → Int32} (hp : ∀ j, 0 ≤ (pb j).toInt ∧ (pb j).toInt ≤ 5500) : ∀ n, n ≤ 7 → ∀ j, 0 ≤ ((prm f my pm pb n).2.2.2.2 j).toInt ∧ ((prm f my pm pb n).2.2.2.2 j).toInt ≤ 5500
  | 0, _, j => hp j
  | n + 1, hn, j => by
    have ih := prm_pb (f := f) (my := my) (pm := pm) hp n (by omega) j
    show 0 ≤ ((upd (prm f my pm pb n).2.2.2.2 n (nI (prm f my pm pb n).2.2.1)) j).toInt ∧ ((upd (prm f my pm pb n).2.2.2.2 n (nI (prm f my pm pb n).2.2.1)) j).toInt ≤ 5500
    by_cases c : j = n
    · rw [c, updq_at]
      have h1 := prm_at f my pm pb n
      have h2 := bnd_le n (by omega)
      rw [nI_toInt (by omega)]; omega
    · rw [updq_ne c]; exact ih
theorem prm_my {f my pm pb : Nat → Int32} (hp : ∀ j, 0 ≤ (my j).toInt ∧ (my j).toInt ≤ 720) : ∀ n, n ≤ 7 → ∀ j, 0 ≤ ((prm f my pm pb n).2.2.2.1 j).toInt ∧ ((prm f my pm pb n).2.2.2.1 j).toInt ≤ 720
  | 0, _, j => hp j
  | n + 1, hn, j => by
    have ih := prm_my (f := f) (pm := pm) (pb := pb) hp n (by omega) j
    have hz : (upd (prm f my pm pb n).2.2.2.1 n 0) n = 0 := updq_at
    have hfc := fct_le n (by omega)
    obtain ⟨r, r1, r2, r3, r4, r5, r6, r7⟩ := whl_good (fct n) n (idf (prm f my pm pb n).1 n) (prm f my pm pb n).2.1 (prm f my pm pb n).2.2.1 (upd (prm f my pm pb n).2.2.2.1 n 0) (by omega) (okf_id _ (by omega)) (finf_id _ n (by omega)) (by rw [hz]; decide) (by rw [hz]; show (0 : Int) + _ ≤ 900; omega)
    show 0 ≤ ((whl (fct n) n (idf (prm f my pm pb n).1 n) (prm f my pm pb n).2.1 (prm f my pm pb n).2.2.1 (upd (prm f my pm pb n).2.2.2.1 n 0)).2.2.2 j).toInt ∧ ((whl (fct n) n (idf (prm f my pm pb n).1 n) (prm f my pm pb n).2.1 (prm f my pm pb n).2.2.1 (upd (prm f my pm pb n).2.2.2.1 n 0)).2.2.2 j).toInt ≤ 720
    by_cases c : j = n
    · rw [c, r5, hz]
      have : (0 : Int32).toInt = 0 := rfl
      omega
    · rw [r4 j c, updq_ne c]; exact ih
theorem ptb_prm {f my pm pb : Nat → Int32} : PTB (fun z => ((prm f my pm pb 7).2.2.2.2 z.toNat).toInt) (fun z => ((prm f my pm pb 7).2.2.2.1 z.toNat).toInt) (fun z => ((prm f my pm pb 7).2.1 z.toNat).toInt) := by
  intro s s0 s6
  obtain ⟨n, rfl⟩ := Int.eq_ofNat_of_zero_le s0
  obtain ⟨r, c, r1, r2, r3, r4, r5, r6⟩ := pg_all f my pm pb 7 (by omega) n (by omega)
  have hb := prm_at f my pm pb 7
  have hb2 := bnd_le 7 (by omega)
  have hc : c ≤ 5500 := by have := Nat.le_add_right c (n * r); omega
  have e1 : ((prm f my pm pb 7).2.2.2.2 ((n : Int)).toNat).toInt = (c : Int) := by rw [Int.toNat_natCast, r4]; exact nI_toInt (by omega)
  have e2 : ((prm f my pm pb 7).2.2.2.1 ((n : Int)).toNat).toInt = (r : Int) := by rw [Int.toNat_natCast]; exact r3
  have e3 : (n : Int) * (r : Int) = ((n * r : Nat) : Int) := (Int.natCast_mul n r).symm
  have row : ∀ q i : Nat, q < r → i < n → 0 ≤ ((prm f my pm pb 7).2.1 (c + n * q + i)).toInt ∧ ((prm f my pm pb 7).2.1 (c + n * q + i)).toInt < (n : Int) := fun q i hq hi => (r6 q hq).1 i hi
  dsimp only
  rw [e1, e2, e3]
  refine ⟨⟨by omega, by omega, by omega, by omega, fun i i0 i1 => ?_⟩, fun k i j k0 k1 i0 ij js => ?_⟩
  · obtain ⟨a, rfl⟩ := Int.eq_ofNat_of_zero_le i0
    have ha : a < n * r := by omega
    have hn : 0 < n := by
      cases n with
      | zero => rw [Nat.zero_mul] at ha; omega
      | succ n => omega
    have hq : a / n < r := Nat.div_lt_of_lt_mul ha
    have hm : a % n < n := Nat.mod_lt a hn
    have h := row (a / n) (a % n) hq hm
    rw [show c + n * (a / n) + a % n = ((c : Int) + (a : Int)).toNat by have := Nat.div_add_mod a n; omega] at h
    exact h
  · obtain ⟨k_zq, rfl⟩ := Int.eq_ofNat_of_zero_le k0
    obtain ⟨i_zq, rfl⟩ := Int.eq_ofNat_of_zero_le i0
    obtain ⟨j_zq, rfl⟩ := Int.eq_ofNat_of_zero_le (show (0 : Int) ≤ j by omega)
    intro h
    have e4 : (n : Int) * (k_zq : Int) = ((n * k_zq : Nat) : Int) := (Int.natCast_mul n k_zq).symm
    rw [e4, show ((c : Int) + ((n * k_zq : Nat) : Int) + (i_zq : Int)).toNat = c + n * k_zq + i_zq by omega, show ((c : Int) + ((n * k_zq : Nat) : Int) + (j_zq : Int)).toNat = c + n * k_zq + j_zq by omega] at h
    have := (r6 k_zq (by omega)).2 i_zq j_zq (by omega) (by omega) (Int32.toInt_inj.mp h)
    omega

theorem rg_m {kA : Nat → ClassId} {ta : Nat → Option Nat} {g : rg_T} {k n : Nat} {f : Nat → Int32} {lo hi : Int} (hk : k < 3) (h0 : (rgc g k n lo && rgc g k n hi) = true) (h1 : g.2.2.2.1.1 = 0) (h2 : g.2.2.2.2 = []) (hf : ∀ j, lo ≤ (f j).toInt ∧ (f j).toInt ≤ hi) : rg_ok kA ta g (.inl (kA k, n, .inl f)) := by
  rw [Bool.and_eq_true] at h0
  obtain ⟨a, b, c, d, _⟩ := rgc_of h0.1
  obtain ⟨_, _, _, _, e⟩ := rgc_of h0.2
  refine Or.inl ⟨by omega, n, f, by rw [a], b, c, h1, fun j hj => Or.inl ⟨h1, f j, rfl, Int.le_trans d (hf j).1, Int.le_trans (hf j).2 e⟩, fun j t hj ht => ?_⟩
  rw [h2] at ht
  simp at ht
theorem z11 : ∀ j, -1 ≤ ((upd (fun _ => (0 : Int32)) 0 (-1)) j).toInt ∧ ((upd (fun _ => (0 : Int32)) 0 (-1)) j).toInt ≤ 0 := fun j => by
  simp only [upd]
  by_cases c : j = 0
  · rw [if_pos c]; decide
  · rw [if_neg c]; decide
theorem z15 : ∀ j, -1 ≤ ((fl (fun _ => (0 : Int32)) 576 (-1)) j).toInt ∧ ((fl (fun _ => (0 : Int32)) 576 (-1)) j).toInt ≤ 0 := fun j => by
  simp only [fl]
  by_cases c : j < 576
  · rw [if_pos c]; decide
  · rw [if_neg c]; decide
theorem zup {f : Nat → Int32} {i : Nat} (h : ∀ j, -1 ≤ (f j).toInt ∧ (f j).toInt ≤ 0) : ∀ j, -1 ≤ ((upd f i (-1)) j).toInt ∧ ((upd f i (-1)) j).toInt ≤ 0 := fun j => by
  simp only [upd]
  by_cases c : j = i
  · rw [if_pos c]; decide
  · rw [if_neg c]; exact h j
theorem z61 : ∀ j, -1 ≤ ((upd (upd (upd (upd (fun _ => (0 : Int32)) 0 (-1)) 1 (-1)) 2 (-1)) 3 (-1)) j).toInt ∧ ((upd (upd (upd (upd (fun _ => (0 : Int32)) 0 (-1)) 1 (-1)) 2 (-1)) 3 (-1)) j).toInt ≤ 0 := zup (zup (zup (zup (fun _ => by decide))))
set_option maxRecDepth 20000 in
theorem fb_Ho_12 {kA : Nat → ClassId} {ta : Nat → Option Nat} {h : Nat} {q : Nat → Nat} {g : Nat → Nat → Nat} (t_h : ta h = some 12) (t_0 : ta (q 0) = some 131) (t_1 : ta (q 1) = some 132) (t_2 : ta (q 2) = some 133) (t_3 : ta (q 3) = some 134) (t_4 : ta (q 4) = some 8) (t_5 : ta (q 5) = some 1) (t_6 : ta (q 6) = some 135) (t_9 : ta (q 9) = some 136) (t_10 : ta (q 10) = some 137) (t_13 : ta (q 13) = some 138) (e_0 : ∀ j, j < 4 → ta (g 0 j) = some 3) (e_1 : ∀ j, j < 4 → ta (g 1 j) = some 2) (e_2 : ∀ j, j < 4 → ta (g 2 j) = some 5) (e_3 : ∀ j, j < 4 → ta (g 3 j) = some 0) : st_all kA ta (wHo kA h q x0Ho a0Ho g none none none none none) [12, 131, 132, 133, 134, 135, 136, 137, 138] := by
  unfold wHo
  exact ⟨⟨_, rfl, rg_o (by decide) rfl (show st_fs ta GG_12.2.2.2.2 _ from ⟨tv2 t_0 (by decide), ⟨tv2 t_1 (by decide), ⟨tv2 t_2 (by decide), ⟨tv2 t_3 (by decide), ⟨tv2 t_4 (by decide), ⟨tv2 t_5 (by decide), ⟨tv2 t_6 (by decide), ⟨tv0 (by decide), ⟨tv0 (by decide), ⟨tv2 t_9 (by decide), ⟨tv2 t_10 (by decide), ⟨tv0 (by decide), ⟨tv0 (by decide), ⟨tv2 t_13 (by decide), ⟨tv0 (by decide), ⟨tv0 (by decide), ⟨tv3n, ⟨tv3n, ⟨tv3n, ⟨tv3n, ⟨tv3n, trivial⟩⟩⟩⟩⟩⟩⟩⟩⟩⟩⟩⟩⟩⟩⟩⟩⟩⟩⟩⟩⟩)⟩, ⟨⟨_, rfl, rg_r (g := GG_131) (by decide) (by decide) (fun j hj => by
    match j, hj with
    | 0, _ => exact tv2 (e_0 0 (by decide)) (by decide)
    | 1, _ => exact tv2 (e_0 1 (by decide)) (by decide)
    | 2, _ => exact tv2 (e_0 2 (by decide)) (by decide)
    | 3, _ => exact tv2 (e_0 3 (by decide)) (by decide)
    | j + 4, hj => omega)⟩, ⟨⟨_, rfl, rg_r (g := GG_132) (by decide) (by decide) (fun j hj => by
    match j, hj with
    | 0, _ => exact tv2 (e_1 0 (by decide)) (by decide)
    | 1, _ => exact tv2 (e_1 1 (by decide)) (by decide)
    | 2, _ => exact tv2 (e_1 2 (by decide)) (by decide)
    | 3, _ => exact tv2 (e_1 3 (by decide)) (by decide)
    | j + 4, hj => omega)⟩, ⟨⟨_, rfl, rg_r (g := GG_133) (by decide) (by decide) (fun j hj => by
    match j, hj with
    | 0, _ => exact tv2 (e_2 0 (by decide)) (by decide)
    | 1, _ => exact tv2 (e_2 1 (by decide)) (by decide)
    | 2, _ => exact tv2 (e_2 2 (by decide)) (by decide)
    | 3, _ => exact tv2 (e_2 3 (by decide)) (by decide)
    | j + 4, hj => omega)⟩, ⟨⟨_, rfl, rg_r (g := GG_134) (by decide) (by decide) (fun j hj => by
    match j, hj with
    | 0, _ => exact tv2 (e_3 0 (by decide)) (by decide)
    | 1, _ => exact tv2 (e_3 1 (by decide)) (by decide)
    | 2, _ => exact tv2 (e_3 2 (by decide)) (by decide)
    | 3, _ => exact tv2 (e_3 3 (by decide)) (by decide)
    | j + 4, hj => omega)⟩, ⟨⟨_, rfl, rg_z (g := GG_135) (by decide) (by decide) rfl rfl (fun _ => rfl)⟩, ⟨⟨_, rfl, rg_z (g := GG_136) (by decide) (by decide) rfl rfl (fun _ => rfl)⟩, ⟨⟨_, rfl, rg_z (g := GG_137) (by decide) (by decide) rfl rfl (fun _ => rfl)⟩, ⟨⟨_, rfl, rg_z (g := GG_138) (by decide) (by decide) rfl rfl (fun _ => rfl)⟩, trivial⟩⟩⟩⟩⟩⟩⟩⟩⟩
set_option maxRecDepth 20000 in
theorem fb_Re_8 {kA : Nat → ClassId} {ta : Nat → Option Nat} {h : Nat} {q : Nat → Nat} (t_h : ta h = some 8) (t_0 : ta (q 0) = some 109) (t_4 : ta (q 4) = some 164) (t_10 : ta (q 10) = some 110) : st_all kA ta (wRe kA h q x0Re a0Re) [8, 109, 110] := by
  unfold wRe
  exact ⟨⟨_, rfl, rg_o (by decide) rfl (show st_fs ta GG_8.2.2.2.2 _ from ⟨tv2 t_0 (by decide), ⟨tv0 (by decide), ⟨tv0 (by decide), ⟨tv0 (by decide), ⟨tv2 t_4 (by decide), ⟨tv0 (by decide), ⟨tv0 (by decide), ⟨tv0 (by decide), ⟨tv0 (by decide), ⟨tv0 (by decide), ⟨tv2 t_10 (by decide), ⟨tv0 (by decide), trivial⟩⟩⟩⟩⟩⟩⟩⟩⟩⟩⟩⟩)⟩, ⟨⟨_, rfl, rg_z (g := GG_109) (by decide) (by decide) rfl rfl (fun _ => rfl)⟩, ⟨⟨_, rfl, rg_z (g := GG_110) (by decide) (by decide) rfl rfl (fun _ => rfl)⟩, trivial⟩⟩⟩
set_option maxRecDepth 20000 in
theorem fb_Gr_164 {kA : Nat → ClassId} {ta : Nat → Option Nat} {h : Nat} {q : Nat → Nat} (t_h : ta h = some 164) (t_3 : ta (q 3) = some 150) (t_4 : ta (q 4) = some 151) (t_5 : ta (q 5) = some 152) (t_6 : ta (q 6) = some 153) (t_7 : ta (q 7) = some 154) (t_8 : ta (q 8) = some 155) (t_9 : ta (q 9) = some 156) (t_10 : ta (q 10) = some 157) (t_11 : ta (q 11) = some 158) (t_12 : ta (q 12) = some 159) (t_13 : ta (q 13) = some 160) (t_14 : ta (q 14) = some 161) (t_15 : ta (q 15) = some 162) : st_all kA ta (wGr kA h q x0Gr a0Gr none) [164, 150, 151, 152, 153, 154, 155, 156, 157, 158, 159, 160, 161, 162] := by
  unfold wGr
  exact ⟨⟨_, rfl, rg_o (by decide) rfl (show st_fs ta GG_164.2.2.2.2 _ from ⟨tv0 (by decide), ⟨tv0 (by decide), ⟨tv0 (by decide), ⟨tv2 t_3 (by decide), ⟨tv2 t_4 (by decide), ⟨tv2 t_5 (by decide), ⟨tv2 t_6 (by decide), ⟨tv2 t_7 (by decide), ⟨tv2 t_8 (by decide), ⟨tv2 t_9 (by decide), ⟨tv2 t_10 (by decide), ⟨tv2 t_11 (by decide), ⟨tv2 t_12 (by decide), ⟨tv2 t_13 (by decide), ⟨tv2 t_14 (by decide), ⟨tv2 t_15 (by decide), ⟨tv3n, ⟨tv0 (by decide), ⟨tv0 (by decide), trivial⟩⟩⟩⟩⟩⟩⟩⟩⟩⟩⟩⟩⟩⟩⟩⟩⟩⟩⟩)⟩, ⟨⟨_, rfl, rg_z (g := GG_150) (by decide) (by decide) rfl rfl (fun _ => rfl)⟩, ⟨⟨_, rfl, rg_z (g := GG_151) (by decide) (by decide) rfl rfl (fun _ => rfl)⟩, ⟨⟨_, rfl, rg_z (g := GG_152) (by decide) (by decide) rfl rfl (fun _ => rfl)⟩, ⟨⟨_, rfl, rg_z (g := GG_153) (by decide) (by decide) rfl rfl (fun _ => rfl)⟩, ⟨⟨_, rfl, rg_z (g := GG_154) (by decide) (by decide) rfl rfl (fun _ => rfl)⟩, ⟨⟨_, rfl, rg_z (g := GG_155) (by decide) (by decide) rfl rfl (fun _ => rfl)⟩, ⟨⟨_, rfl, rg_z (g := GG_156) (by decide) (by decide) rfl rfl (fun _ => rfl)⟩, ⟨⟨_, rfl, rg_z (g := GG_157) (by decide) (by decide) rfl rfl (fun _ => rfl)⟩, ⟨⟨_, rfl, rg_m (g := GG_158) (lo := -1) (hi := 0) (by decide) (by decide) rfl rfl z11⟩, ⟨⟨_, rfl, rg_z (g := GG_159) (by decide) (by decide) rfl rfl (fun _ => rfl)⟩, ⟨⟨_, rfl, rg_z (g := GG_160) (by decide) (by decide) rfl rfl (fun _ => rfl)⟩, ⟨⟨_, rfl, rg_z (g := GG_161) (by decide) (by decide) rfl rfl (fun _ => rfl)⟩, ⟨⟨_, rfl, rg_m (g := GG_162) (lo := -1) (hi := 0) (by decide) (by decide) rfl rfl z15⟩, trivial⟩⟩⟩⟩⟩⟩⟩⟩⟩⟩⟩⟩⟩⟩
set_option maxRecDepth 20000 in
theorem fb_Em_1 {kA : Nat → ClassId} {ta : Nat → Option Nat} {h : Nat} {q : Nat → Nat} (t_h : ta h = some 1) (t_1 : ta (q 1) = some 149) (t_2 : ta (q 2) = some 26) (t_3 : ta (q 3) = some 27) (t_4 : ta (q 4) = some 28) (t_8 : ta (q 8) = some 29) (t_9 : ta (q 9) = some 30) (t_10 : ta (q 10) = some 31) (t_11 : ta (q 11) = some 32) (t_12 : ta (q 12) = some 33) (t_13 : ta (q 13) = some 34) (t_14 : ta (q 14) = some 35) (t_19 : ta (q 19) = some 36) : st_all kA ta (wEm kA h q x0Em a0Em none) [1, 26, 27, 28, 29, 30, 31, 32, 33, 34, 35, 36] := by
  unfold wEm
  exact ⟨⟨_, rfl, rg_o (by decide) rfl (show st_fs ta GG_1.2.2.2.2 _ from ⟨tv3n, ⟨tv2 t_1 (by decide), ⟨tv2 t_2 (by decide), ⟨tv2 t_3 (by decide), ⟨tv2 t_4 (by decide), ⟨tv0 (by decide), ⟨tv0 (by decide), ⟨tv0 (by decide), ⟨tv2 t_8 (by decide), ⟨tv2 t_9 (by decide), ⟨tv2 t_10 (by decide), ⟨tv2 t_11 (by decide), ⟨tv2 t_12 (by decide), ⟨tv2 t_13 (by decide), ⟨tv2 t_14 (by decide), ⟨tv0 (by decide), ⟨tv0 (by decide), ⟨tv0 (by decide), ⟨tv0 (by decide), ⟨tv2 t_19 (by decide), trivial⟩⟩⟩⟩⟩⟩⟩⟩⟩⟩⟩⟩⟩⟩⟩⟩⟩⟩⟩⟩)⟩, ⟨⟨_, rfl, rg_z (g := GG_26) (by decide) (by decide) rfl rfl (fun _ => rfl)⟩, ⟨⟨_, rfl, rg_z (g := GG_27) (by decide) (by decide) rfl rfl (fun _ => rfl)⟩, ⟨⟨_, rfl, rg_z (g := GG_28) (by decide) (by decide) rfl rfl (fun _ => rfl)⟩, ⟨⟨_, rfl, rg_z (g := GG_29) (by decide) (by decide) rfl rfl (fun _ => rfl)⟩, ⟨⟨_, rfl, rg_z (g := GG_30) (by decide) (by decide) rfl rfl (fun _ => rfl)⟩, ⟨⟨_, rfl, rg_z (g := GG_31) (by decide) (by decide) rfl rfl (fun _ => rfl)⟩, ⟨⟨_, rfl, rg_z (g := GG_32) (by decide) (by decide) rfl rfl (fun _ => rfl)⟩, ⟨⟨_, rfl, rg_z (g := GG_33) (by decide) (by decide) rfl rfl (fun _ => rfl)⟩, ⟨⟨_, rfl, rg_z (g := GG_34) (by decide) (by decide) rfl rfl (fun _ => rfl)⟩, ⟨⟨_, rfl, rg_z (g := GG_35) (by decide) (by decide) rfl rfl (fun _ => rfl)⟩, ⟨⟨_, rfl, rg_z (g := GG_36) (by decide) (by decide) rfl rfl (fun _ => rfl)⟩, trivial⟩⟩⟩⟩⟩⟩⟩⟩⟩⟩⟩⟩
set_option maxRecDepth 20000 in
theorem fb_Ne_149 {kA : Nat → ClassId} {ta : Nat → Option Nat} {h : Nat} {q : Nat → Nat} (t_h : ta h = some 149) (t_4 : ta (q 4) = some 139) (t_7 : ta (q 7) = some 140) (t_8 : ta (q 8) = some 141) (t_9 : ta (q 9) = some 142) (t_10 : ta (q 10) = some 143) (t_11 : ta (q 11) = some 144) (t_12 : ta (q 12) = some 145) (t_14 : ta (q 14) = some 146) (t_15 : ta (q 15) = some 147) (t_16 : ta (q 16) = some 148) : st_all kA ta (wNe kA h q x0Ne a0Ne) [149, 139, 140, 141, 142, 143, 144, 145, 146, 147, 148] := by
  unfold wNe
  exact ⟨⟨_, rfl, rg_o (by decide) rfl (show st_fs ta GG_149.2.2.2.2 _ from ⟨tv0 (by decide), ⟨tv0 (by decide), ⟨tv0 (by decide), ⟨tv0 (by decide), ⟨tv2 t_4 (by decide), ⟨tv0 (by decide), ⟨tv0 (by decide), ⟨tv2 t_7 (by decide), ⟨tv2 t_8 (by decide), ⟨tv2 t_9 (by decide), ⟨tv2 t_10 (by decide), ⟨tv2 t_11 (by decide), ⟨tv2 t_12 (by decide), ⟨tv0 (by decide), ⟨tv2 t_14 (by decide), ⟨tv2 t_15 (by decide), ⟨tv2 t_16 (by decide), trivial⟩⟩⟩⟩⟩⟩⟩⟩⟩⟩⟩⟩⟩⟩⟩⟩⟩)⟩, ⟨⟨_, rfl, rg_z (g := GG_139) (by decide) (by decide) rfl rfl (fun _ => rfl)⟩, ⟨⟨_, rfl, rg_z (g := GG_140) (by decide) (by decide) rfl rfl (fun _ => rfl)⟩, ⟨⟨_, rfl, rg_z (g := GG_141) (by decide) (by decide) rfl rfl (fun _ => rfl)⟩, ⟨⟨_, rfl, rg_z (g := GG_142) (by decide) (by decide) rfl rfl (fun _ => rfl)⟩, ⟨⟨_, rfl, rg_z (g := GG_143) (by decide) (by decide) rfl rfl (fun _ => rfl)⟩, ⟨⟨_, rfl, rg_z (g := GG_144) (by decide) (by decide) rfl rfl (fun _ => rfl)⟩, ⟨⟨_, rfl, rg_z (g := GG_145) (by decide) (by decide) rfl rfl (fun _ => rfl)⟩, ⟨⟨_, rfl, rg_z (g := GG_146) (by decide) (by decide) rfl rfl (fun _ => rfl)⟩, ⟨⟨_, rfl, rg_z (g := GG_147) (by decide) (by decide) rfl rfl (fun _ => rfl)⟩, ⟨⟨_, rfl, rg_z (g := GG_148) (by decide) (by decide) rfl rfl (fun _ => rfl)⟩, trivial⟩⟩⟩⟩⟩⟩⟩⟩⟩⟩⟩
set_option maxRecDepth 20000 in
theorem fb_Gr_3 {kA : Nat → ClassId} {ta : Nat → Option Nat} {h : Nat} {q : Nat → Nat} (t_h : ta h = some 3) (t_3 : ta (q 3) = some 48) (t_4 : ta (q 4) = some 49) (t_5 : ta (q 5) = some 50) (t_6 : ta (q 6) = some 51) (t_7 : ta (q 7) = some 52) (t_8 : ta (q 8) = some 53) (t_9 : ta (q 9) = some 54) (t_10 : ta (q 10) = some 55) (t_11 : ta (q 11) = some 56) (t_12 : ta (q 12) = some 57) (t_13 : ta (q 13) = some 58) (t_14 : ta (q 14) = some 59) (t_15 : ta (q 15) = some 60) : st_all kA ta (wGr kA h q x0Gr a0Gr none) [3, 48, 49, 50, 51, 52, 53, 54, 55, 56, 57, 58, 59, 60] := by
  unfold wGr
  exact ⟨⟨_, rfl, rg_o (by decide) rfl (show st_fs ta GG_3.2.2.2.2 _ from ⟨tv0 (by decide), ⟨tv0 (by decide), ⟨tv0 (by decide), ⟨tv2 t_3 (by decide), ⟨tv2 t_4 (by decide), ⟨tv2 t_5 (by decide), ⟨tv2 t_6 (by decide), ⟨tv2 t_7 (by decide), ⟨tv2 t_8 (by decide), ⟨tv2 t_9 (by decide), ⟨tv2 t_10 (by decide), ⟨tv2 t_11 (by decide), ⟨tv2 t_12 (by decide), ⟨tv2 t_13 (by decide), ⟨tv2 t_14 (by decide), ⟨tv2 t_15 (by decide), ⟨tv3n, ⟨tv0 (by decide), ⟨tv0 (by decide), trivial⟩⟩⟩⟩⟩⟩⟩⟩⟩⟩⟩⟩⟩⟩⟩⟩⟩⟩⟩)⟩, ⟨⟨_, rfl, rg_z (g := GG_48) (by decide) (by decide) rfl rfl (fun _ => rfl)⟩, ⟨⟨_, rfl, rg_z (g := GG_49) (by decide) (by decide) rfl rfl (fun _ => rfl)⟩, ⟨⟨_, rfl, rg_z (g := GG_50) (by decide) (by decide) rfl rfl (fun _ => rfl)⟩, ⟨⟨_, rfl, rg_z (g := GG_51) (by decide) (by decide) rfl rfl (fun _ => rfl)⟩, ⟨⟨_, rfl, rg_z (g := GG_52) (by decide) (by decide) rfl rfl (fun _ => rfl)⟩, ⟨⟨_, rfl, rg_z (g := GG_53) (by decide) (by decide) rfl rfl (fun _ => rfl)⟩, ⟨⟨_, rfl, rg_z (g := GG_54) (by decide) (by decide) rfl rfl (fun _ => rfl)⟩, ⟨⟨_, rfl, rg_z (g := GG_55) (by decide) (by decide) rfl rfl (fun _ => rfl)⟩, ⟨⟨_, rfl, rg_m (g := GG_56) (lo := -1) (hi := 0) (by decide) (by decide) rfl rfl z11⟩, ⟨⟨_, rfl, rg_z (g := GG_57) (by decide) (by decide) rfl rfl (fun _ => rfl)⟩, ⟨⟨_, rfl, rg_z (g := GG_58) (by decide) (by decide) rfl rfl (fun _ => rfl)⟩, ⟨⟨_, rfl, rg_z (g := GG_59) (by decide) (by decide) rfl rfl (fun _ => rfl)⟩, ⟨⟨_, rfl, rg_m (g := GG_60) (lo := -1) (hi := 0) (by decide) (by decide) rfl rfl z15⟩, trivial⟩⟩⟩⟩⟩⟩⟩⟩⟩⟩⟩⟩⟩⟩
set_option maxRecDepth 20000 in
theorem fb_Fa_2 {kA : Nat → ClassId} {ta : Nat → Option Nat} {h : Nat} {q : Nat → Nat} (t_h : ta h = some 2) (t_4 : ta (q 4) = some 37) (t_5 : ta (q 5) = some 38) (t_6 : ta (q 6) = some 39) (t_7 : ta (q 7) = some 40) (t_8 : ta (q 8) = some 41) (t_9 : ta (q 9) = some 42) (t_10 : ta (q 10) = some 43) (t_11 : ta (q 11) = some 44) (t_12 : ta (q 12) = some 45) (t_13 : ta (q 13) = some 46) (t_14 : ta (q 14) = some 47) : st_all kA ta (wFa kA h q x0Fa a0Fa) [2, 37, 38, 39, 40, 41, 42, 43, 44, 45, 46, 47] := by
  unfold wFa
  exact ⟨⟨_, rfl, rg_o (by decide) rfl (show st_fs ta GG_2.2.2.2.2 _ from ⟨tv0 (by decide), ⟨tv0 (by decide), ⟨tv0 (by decide), ⟨tv0 (by decide), ⟨tv2 t_4 (by decide), ⟨tv2 t_5 (by decide), ⟨tv2 t_6 (by decide), ⟨tv2 t_7 (by decide), ⟨tv2 t_8 (by decide), ⟨tv2 t_9 (by decide), ⟨tv2 t_10 (by decide), ⟨tv2 t_11 (by decide), ⟨tv2 t_12 (by decide), ⟨tv2 t_13 (by decide), ⟨tv2 t_14 (by decide), trivial⟩⟩⟩⟩⟩⟩⟩⟩⟩⟩⟩⟩⟩⟩⟩)⟩, ⟨⟨_, rfl, rg_z (g := GG_37) (by decide) (by decide) rfl rfl (fun _ => rfl)⟩, ⟨⟨_, rfl, rg_z (g := GG_38) (by decide) (by decide) rfl rfl (fun _ => rfl)⟩, ⟨⟨_, rfl, rg_z (g := GG_39) (by decide) (by decide) rfl rfl (fun _ => rfl)⟩, ⟨⟨_, rfl, rg_z (g := GG_40) (by decide) (by decide) rfl rfl (fun _ => rfl)⟩, ⟨⟨_, rfl, rg_z (g := GG_41) (by decide) (by decide) rfl rfl (fun _ => rfl)⟩, ⟨⟨_, rfl, rg_z (g := GG_42) (by decide) (by decide) rfl rfl (fun _ => rfl)⟩, ⟨⟨_, rfl, rg_z (g := GG_43) (by decide) (by decide) rfl rfl (fun _ => rfl)⟩, ⟨⟨_, rfl, rg_z (g := GG_44) (by decide) (by decide) rfl rfl (fun _ => rfl)⟩, ⟨⟨_, rfl, rg_z (g := GG_45) (by decide) (by decide) rfl rfl (fun _ => rfl)⟩, ⟨⟨_, rfl, rg_z (g := GG_46) (by decide) (by decide) rfl rfl (fun _ => rfl)⟩, ⟨⟨_, rfl, rg_z (g := GG_47) (by decide) (by decide) rfl rfl (fun _ => rfl)⟩, trivial⟩⟩⟩⟩⟩⟩⟩⟩⟩⟩⟩⟩
set_option maxRecDepth 20000 in
theorem fb_Ne_5 {kA : Nat → ClassId} {ta : Nat → Option Nat} {h : Nat} {q : Nat → Nat} (t_h : ta h = some 5) (t_4 : ta (q 4) = some 79) (t_7 : ta (q 7) = some 80) (t_8 : ta (q 8) = some 81) (t_9 : ta (q 9) = some 82) (t_10 : ta (q 10) = some 83) (t_11 : ta (q 11) = some 84) (t_12 : ta (q 12) = some 85) (t_14 : ta (q 14) = some 86) (t_15 : ta (q 15) = some 87) (t_16 : ta (q 16) = some 88) : st_all kA ta (wNe kA h q x0Ne a0Ne) [5, 79, 80, 81, 82, 83, 84, 85, 86, 87, 88] := by
  unfold wNe
  exact ⟨⟨_, rfl, rg_o (by decide) rfl (show st_fs ta GG_5.2.2.2.2 _ from ⟨tv0 (by decide), ⟨tv0 (by decide), ⟨tv0 (by decide), ⟨tv0 (by decide), ⟨tv2 t_4 (by decide), ⟨tv0 (by decide), ⟨tv0 (by decide), ⟨tv2 t_7 (by decide), ⟨tv2 t_8 (by decide), ⟨tv2 t_9 (by decide), ⟨tv2 t_10 (by decide), ⟨tv2 t_11 (by decide), ⟨tv2 t_12 (by decide), ⟨tv0 (by decide), ⟨tv2 t_14 (by decide), ⟨tv2 t_15 (by decide), ⟨tv2 t_16 (by decide), trivial⟩⟩⟩⟩⟩⟩⟩⟩⟩⟩⟩⟩⟩⟩⟩⟩⟩)⟩, ⟨⟨_, rfl, rg_z (g := GG_79) (by decide) (by decide) rfl rfl (fun _ => rfl)⟩, ⟨⟨_, rfl, rg_z (g := GG_80) (by decide) (by decide) rfl rfl (fun _ => rfl)⟩, ⟨⟨_, rfl, rg_z (g := GG_81) (by decide) (by decide) rfl rfl (fun _ => rfl)⟩, ⟨⟨_, rfl, rg_z (g := GG_82) (by decide) (by decide) rfl rfl (fun _ => rfl)⟩, ⟨⟨_, rfl, rg_z (g := GG_83) (by decide) (by decide) rfl rfl (fun _ => rfl)⟩, ⟨⟨_, rfl, rg_z (g := GG_84) (by decide) (by decide) rfl rfl (fun _ => rfl)⟩, ⟨⟨_, rfl, rg_z (g := GG_85) (by decide) (by decide) rfl rfl (fun _ => rfl)⟩, ⟨⟨_, rfl, rg_z (g := GG_86) (by decide) (by decide) rfl rfl (fun _ => rfl)⟩, ⟨⟨_, rfl, rg_z (g := GG_87) (by decide) (by decide) rfl rfl (fun _ => rfl)⟩, ⟨⟨_, rfl, rg_z (g := GG_88) (by decide) (by decide) rfl rfl (fun _ => rfl)⟩, trivial⟩⟩⟩⟩⟩⟩⟩⟩⟩⟩⟩
set_option maxRecDepth 20000 in
theorem fb_Dr_0 {kA : Nat → ClassId} {ta : Nat → Option Nat} {h : Nat} {q : Nat → Nat} (t_h : ta h = some 0) (t_0 : ta (q 0) = some 3) (t_2 : ta (q 2) = some 14) (t_3 : ta (q 3) = some 15) (t_4 : ta (q 4) = some 16) (t_5 : ta (q 5) = some 17) (t_6 : ta (q 6) = some 18) (t_10 : ta (q 10) = some 19) (t_11 : ta (q 11) = some 20) (t_12 : ta (q 12) = some 21) (t_13 : ta (q 13) = some 22) (t_14 : ta (q 14) = some 23) (t_15 : ta (q 15) = some 24) (t_16 : ta (q 16) = some 25) : st_all kA ta (wDr kA h q x0Dr a0Dr) [0, 14, 15, 16, 17, 18, 19, 20, 21, 22, 23, 24, 25] := by
  unfold wDr
  exact ⟨⟨_, rfl, rg_o (by decide) rfl (show st_fs ta GG_0.2.2.2.2 _ from ⟨tv2 t_0 (by decide), ⟨tv0 (by decide), ⟨tv2 t_2 (by decide), ⟨tv2 t_3 (by decide), ⟨tv2 t_4 (by decide), ⟨tv2 t_5 (by decide), ⟨tv2 t_6 (by decide), ⟨tv0 (by decide), ⟨tv0 (by decide), ⟨tv0 (by decide), ⟨tv2 t_10 (by decide), ⟨tv2 t_11 (by decide), ⟨tv2 t_12 (by decide), ⟨tv2 t_13 (by decide), ⟨tv2 t_14 (by decide), ⟨tv2 t_15 (by decide), ⟨tv2 t_16 (by decide), ⟨tv0 (by decide), ⟨tv0 (by decide), ⟨tv0 (by decide), ⟨tv0 (by decide), trivial⟩⟩⟩⟩⟩⟩⟩⟩⟩⟩⟩⟩⟩⟩⟩⟩⟩⟩⟩⟩⟩)⟩, ⟨⟨_, rfl, rg_z (g := GG_14) (by decide) (by decide) rfl rfl (fun _ => rfl)⟩, ⟨⟨_, rfl, rg_z (g := GG_15) (by decide) (by decide) rfl rfl (fun _ => rfl)⟩, ⟨⟨_, rfl, rg_z (g := GG_16) (by decide) (by decide) rfl rfl (fun _ => rfl)⟩, ⟨⟨_, rfl, rg_z (g := GG_17) (by decide) (by decide) rfl rfl (fun _ => rfl)⟩, ⟨⟨_, rfl, rg_z (g := GG_18) (by decide) (by decide) rfl rfl (fun _ => rfl)⟩, ⟨⟨_, rfl, rg_z (g := GG_19) (by decide) (by decide) rfl rfl (fun _ => rfl)⟩, ⟨⟨_, rfl, rg_z (g := GG_20) (by decide) (by decide) rfl rfl (fun _ => rfl)⟩, ⟨⟨_, rfl, rg_z (g := GG_21) (by decide) (by decide) rfl rfl (fun _ => rfl)⟩, ⟨⟨_, rfl, rg_z (g := GG_22) (by decide) (by decide) rfl rfl (fun _ => rfl)⟩, ⟨⟨_, rfl, rg_z (g := GG_23) (by decide) (by decide) rfl rfl (fun _ => rfl)⟩, ⟨⟨_, rfl, rg_z (g := GG_24) (by decide) (by decide) rfl rfl (fun _ => rfl)⟩, ⟨⟨_, rfl, rg_z (g := GG_25) (by decide) (by decide) rfl rfl (fun _ => rfl)⟩, trivial⟩⟩⟩⟩⟩⟩⟩⟩⟩⟩⟩⟩⟩
set_option maxRecDepth 20000 in
theorem fb_Mo {kA : Nat → ClassId} {ta : Nat → Option Nat} {h : Nat} {q : Nat → Nat} (t_h : ta h = some 165) (t_1 : ta (q 1) = some 166) (t_2 : ta (q 2) = some 167) (t_3 : ta (q 3) = some 168) (t_4 : ta (q 4) = some 169) (t_6 : ta (q 6) = some 170) (t_16 : ta (q 16) = some 171) (t_17 : ta (q 17) = some 172) (t_18 : ta (q 18) = some 173) (t_19 : ta (q 19) = some 174) (t_20 : ta (q 20) = some 175) (t_21 : ta (q 21) = some 176) (t_22 : ta (q 22) = some 177) (t_23 : ta (q 23) = some 178) (t_24 : ta (q 24) = some 179) (t_33 : ta (q 33) = some 180) (t_34 : ta (q 34) = some 181) (t_35 : ta (q 35) = some 182) (t_36 : ta (q 36) = some 183) (t_37 : ta (q 37) = some 184) (t_38 : ta (q 38) = some 185) (t_40 : ta (q 40) = some 186) (t_41 : ta (q 41) = some 187) (t_42 : ta (q 42) = some 188) (t_43 : ta (q 43) = some 189) (t_44 : ta (q 44) = some 190) (t_46 : ta (q 46) = some 191) (t_48 : ta (q 48) = some 192) (t_50 : ta (q 50) = some 193) (t_51 : ta (q 51) = some 194) (t_52 : ta (q 52) = some 195) (t_54 : ta (q 54) = some 196) (t_55 : ta (q 55) = some 197) (t_56 : ta (q 56) = some 198) (t_57 : ta (q 57) = some 199) (t_60 : ta (q 60) = some 200) (t_61 : ta (q 61) = some 201) (t_62 : ta (q 62) = some 202) (t_63 : ta (q 63) = some 203) (t_64 : ta (q 64) = some 204) (t_65 : ta (q 65) = some 205) (t_66 : ta (q 66) = some 206) (t_67 : ta (q 67) = some 207) (t_68 : ta (q 68) = some 208) (t_69 : ta (q 69) = some 209) (t_70 : ta (q 70) = some 210) (t_71 : ta (q 71) = some 211) (t_72 : ta (q 72) = some 212) (t_73 : ta (q 73) = some 213) (t_74 : ta (q 74) = some 214) (t_75 : ta (q 75) = some 215) (t_76 : ta (q 76) = some 216) (t_77 : ta (q 77) = some 217) (t_78 : ta (q 78) = some 218) (t_82 : ta (q 82) = some 219) (t_83 : ta (q 83) = some 220) (t_84 : ta (q 84) = some 221) (t_85 : ta (q 85) = some 222) (t_86 : ta (q 86) = some 223) (t_87 : ta (q 87) = some 224) (t_88 : ta (q 88) = some 225) (t_89 : ta (q 89) = some 226) (t_90 : ta (q 90) = some 227) (t_91 : ta (q 91) = some 228) (t_92 : ta (q 92) = some 229) (t_93 : ta (q 93) = some 230) (t_95 : ta (q 95) = some 231) (t_96 : ta (q 96) = some 232) (t_97 : ta (q 97) = some 233) (t_98 : ta (q 98) = some 234) (t_102 : ta (q 102) = some 235) (t_103 : ta (q 103) = some 236) (t_104 : ta (q 104) = some 237) (t_105 : ta (q 105) = some 238) (t_106 : ta (q 106) = some 239) (t_108 : ta (q 108) = some 240) (t_109 : ta (q 109) = some 241) (t_110 : ta (q 110) = some 242) (t_111 : ta (q 111) = some 243) (t_112 : ta (q 112) = some 244) (t_113 : ta (q 113) = some 245) (t_114 : ta (q 114) = some 246) (t_115 : ta (q 115) = some 247) (t_116 : ta (q 116) = some 248) (t_117 : ta (q 117) = some 249) (t_118 : ta (q 118) = some 250) (t_119 : ta (q 119) = some 251) (t_120 : ta (q 120) = some 252) (t_122 : ta (q 122) = some 253) (t_123 : ta (q 123) = some 254) (t_124 : ta (q 124) = some 255) (t_126 : ta (q 126) = some 256) (t_127 : ta (q 127) = some 257) (t_128 : ta (q 128) = some 258) (t_129 : ta (q 129) = some 259) (t_130 : ta (q 130) = some 260) (t_131 : ta (q 131) = some 261) (t_135 : ta (q 135) = some 262) (t_136 : ta (q 136) = some 263) (t_137 : ta (q 137) = some 264) (t_138 : ta (q 138) = some 265) (t_140 : ta (q 140) = some 266) (t_141 : ta (q 141) = some 267) (t_142 : ta (q 142) = some 268) (t_143 : ta (q 143) = some 269) (t_148 : ta (q 148) = some 270) (t_149 : ta (q 149) = some 271) (t_151 : ta (q 151) = some 272) (t_152 : ta (q 152) = some 273) (t_160 : ta (q 160) = some 274) (t_161 : ta (q 161) = some 275) (t_162 : ta (q 162) = some 276) (t_163 : ta (q 163) = some 277) (t_166 : ta (q 166) = some 278) (t_167 : ta (q 167) = some 279) (t_168 : ta (q 168) = some 280) (t_171 : ta (q 171) = some 281) (t_172 : ta (q 172) = some 282) (t_175 : ta (q 175) = some 283) : st_all kA ta [(h, .inr (13, mF q x0Mo y0Mo))] [165] := by
  unfold mF
  exact ⟨⟨_, rfl, rg_o (by decide) rfl (show st_fs ta GG_165.2.2.2.2 _ from ⟨tv0 (by decide), ⟨tv2 t_1 (by decide), ⟨tv2 t_2 (by decide), ⟨tv2 t_3 (by decide), ⟨tv2 t_4 (by decide), ⟨tv5 (by decide), ⟨tv2 t_6 (by decide), ⟨tv0 (by decide), ⟨tv0 (by decide), ⟨tv0 (by decide), ⟨tv0 (by decide), ⟨tv0 (by decide), ⟨tv0 (by decide), ⟨tv0 (by decide), ⟨tv0 (by decide), ⟨tv0 (by decide), ⟨tv2 t_16 (by decide), ⟨tv2 t_17 (by decide), ⟨tv2 t_18 (by decide), ⟨tv2 t_19 (by decide), ⟨tv2 t_20 (by decide), ⟨tv2 t_21 (by decide), ⟨tv2 t_22 (by decide), ⟨tv2 t_23 (by decide), ⟨tv2 t_24 (by decide), ⟨tv0 (by decide), ⟨tv0 (by decide), ⟨tv0 (by decide), ⟨tv5 (by decide), ⟨tv5 (by decide), ⟨tv0 (by decide), ⟨tv0 (by decide), ⟨tv0 (by decide), ⟨tv2 t_33 (by decide), ⟨tv2 t_34 (by decide), ⟨tv2 t_35 (by decide), ⟨tv2 t_36 (by decide), ⟨tv2 t_37 (by decide), ⟨tv2 t_38 (by decide), ⟨tv0 (by decide), ⟨tv2 t_40 (by decide), ⟨tv2 t_41 (by decide), ⟨tv2 t_42 (by decide), ⟨tv2 t_43 (by decide), ⟨tv2 t_44 (by decide), ⟨tv0 (by decide), ⟨tv2 t_46 (by decide), ⟨tv0 (by decide), ⟨tv2 t_48 (by decide), ⟨tv0 (by decide), ⟨tv2 t_50 (by decide), ⟨tv2 t_51 (by decide), ⟨tv2 t_52 (by decide), ⟨tv0 (by decide), ⟨tv2 t_54 (by decide), ⟨tv2 t_55 (by decide), ⟨tv2 t_56 (by decide), ⟨tv2 t_57 (by decide), ⟨tv0 (by decide), ⟨tv0 (by decide), ⟨tv2 t_60 (by decide), ⟨tv2 t_61 (by decide), ⟨tv2 t_62 (by decide), ⟨tv2 t_63 (by decide), ⟨tv2 t_64 (by decide), ⟨tv2 t_65 (by decide), ⟨tv2 t_66 (by decide), ⟨tv2 t_67 (by decide), ⟨tv2 t_68 (by decide), ⟨tv2 t_69 (by decide), ⟨tv2 t_70 (by decide), ⟨tv2 t_71 (by decide), ⟨tv2 t_72 (by decide), ⟨tv2 t_73 (by decide), ⟨tv2 t_74 (by decide), ⟨tv2 t_75 (by decide), ⟨tv2 t_76 (by decide), ⟨tv2 t_77 (by decide), ⟨tv2 t_78 (by decide), ⟨tv0 (by decide), ⟨tv0 (by decide), ⟨tv0 (by decide), ⟨tv2 t_82 (by decide), ⟨tv2 t_83 (by decide), ⟨tv2 t_84 (by decide), ⟨tv2 t_85 (by decide), ⟨tv2 t_86 (by decide), ⟨tv2 t_87 (by decide), ⟨tv2 t_88 (by decide), ⟨tv2 t_89 (by decide), ⟨tv2 t_90 (by decide), ⟨tv2 t_91 (by decide), ⟨tv2 t_92 (by decide), ⟨tv2 t_93 (by decide), ⟨tv0 (by decide), ⟨tv2 t_95 (by decide), ⟨tv2 t_96 (by decide), ⟨tv2 t_97 (by decide), ⟨tv2 t_98 (by decide), ⟨tv0 (by decide), ⟨tv0 (by decide), ⟨tv0 (by decide), ⟨tv2 t_102 (by decide), ⟨tv2 t_103 (by decide), ⟨tv2 t_104 (by decide), ⟨tv2 t_105 (by decide), ⟨tv2 t_106 (by decide), ⟨tv0 (by decide), ⟨tv2 t_108 (by decide), ⟨tv2 t_109 (by decide), ⟨tv2 t_110 (by decide), ⟨tv2 t_111 (by decide), ⟨tv2 t_112 (by decide), ⟨tv2 t_113 (by decide), ⟨tv2 t_114 (by decide), ⟨tv2 t_115 (by decide), ⟨tv2 t_116 (by decide), ⟨tv2 t_117 (by decide), ⟨tv2 t_118 (by decide), ⟨tv2 t_119 (by decide), ⟨tv2 t_120 (by decide), ⟨tv0 (by decide), ⟨tv2 t_122 (by decide), ⟨tv2 t_123 (by decide), ⟨tv2 t_124 (by decide), ⟨tv0 (by decide), ⟨tv2 t_126 (by decide), ⟨tv2 t_127 (by decide), ⟨tv2 t_128 (by decide), ⟨tv2 t_129 (by decide), ⟨tv2 t_130 (by decide), ⟨tv2 t_131 (by decide), ⟨tv0 (by decide), ⟨tv1 (by decide), ⟨tv1 (by decide), ⟨tv2 t_135 (by decide), ⟨tv2 t_136 (by decide), ⟨tv2 t_137 (by decide), ⟨tv2 t_138 (by decide), ⟨tv0 (by decide), ⟨tv2 t_140 (by decide), ⟨tv2 t_141 (by decide), ⟨tv2 t_142 (by decide), ⟨tv2 t_143 (by decide), ⟨tv0 (by decide), ⟨tv0 (by decide), ⟨tv0 (by decide), ⟨tv0 (by decide), ⟨tv2 t_148 (by decide), ⟨tv2 t_149 (by decide), ⟨tv0 (by decide), ⟨tv2 t_151 (by decide), ⟨tv2 t_152 (by decide), ⟨tv0 (by decide), ⟨tv0 (by decide), ⟨tv0 (by decide), ⟨tv0 (by decide), ⟨tv0 (by decide), ⟨tv0 (by decide), ⟨tv0 (by decide), ⟨tv2 t_160 (by decide), ⟨tv2 t_161 (by decide), ⟨tv2 t_162 (by decide), ⟨tv2 t_163 (by decide), ⟨tv0 (by decide), ⟨tv0 (by decide), ⟨tv2 t_166 (by decide), ⟨tv2 t_167 (by decide), ⟨tv2 t_168 (by decide), ⟨tv0 (by decide), ⟨tv0 (by decide), ⟨tv2 t_171 (by decide), ⟨tv2 t_172 (by decide), ⟨tv0 (by decide), ⟨tv0 (by decide), ⟨tv2 t_175 (by decide), trivial⟩⟩⟩⟩⟩⟩⟩⟩⟩⟩⟩⟩⟩⟩⟩⟩⟩⟩⟩⟩⟩⟩⟩⟩⟩⟩⟩⟩⟩⟩⟩⟩⟩⟩⟩⟩⟩⟩⟩⟩⟩⟩⟩⟩⟩⟩⟩⟩⟩⟩⟩⟩⟩⟩⟩⟩⟩⟩⟩⟩⟩⟩⟩⟩⟩⟩⟩⟩⟩⟩⟩⟩⟩⟩⟩⟩⟩⟩⟩⟩⟩⟩⟩⟩⟩⟩⟩⟩⟩⟩⟩⟩⟩⟩⟩⟩⟩⟩⟩⟩⟩⟩⟩⟩⟩⟩⟩⟩⟩⟩⟩⟩⟩⟩⟩⟩⟩⟩⟩⟩⟩⟩⟩⟩⟩⟩⟩⟩⟩⟩⟩⟩⟩⟩⟩⟩⟩⟩⟩⟩⟩⟩⟩⟩⟩⟩⟩⟩⟩⟩⟩⟩⟩⟩⟩⟩⟩⟩⟩⟩⟩⟩⟩⟩⟩⟩⟩⟩⟩⟩⟩⟩⟩⟩⟩⟩)⟩, trivial⟩
theorem pl_z0 : ((pl_L 1).all (fun t => decide (t.1 = 0) && decide (t.2.1 ≤ 0) && decide (0 ≤ t.2.2.1))) = true := by decide +kernel
theorem pl_at2 : (pl_L 1)[2]? = some (0, 0, 8, []) := by decide +kernel
theorem pl_at531 : (pl_L 1)[531]? = some (0, -1, 0, []) := by decide +kernel
theorem pl_zero {ta : Nat → Option Nat} {j : Nat} {t : tv_T} (h : (pl_L 1)[j]? = some t) : tv_ok ta t (.int 0) := by
  have h1 := List.all_eq_true.mp pl_z0 t (List.mem_iff_getElem?.mpr ⟨j, h⟩)
  simp only [Bool.and_eq_true, decide_eq_true_eq] at h1
  exact Or.inl ⟨h1.1.1, 0, rfl, h1.1.2, h1.2⟩
theorem all0_in (j : Nat) : all0 j = 0 ∨ (j % 539 = 2 ∧ all0 j = 1) ∨ (j % 539 = 531 ∧ all0 j = -1) := by
  unfold all0
  simp only [upd, clr]
  by_cases c1 : j = 50127 + 531
  · exact Or.inr (Or.inr ⟨by omega, by rw [if_pos c1]⟩)
  rw [if_neg c1]
  by_cases c2 : j = 50127 + 2
  · exact Or.inr (Or.inl ⟨by omega, by rw [if_pos c2]⟩)
  rw [if_neg c2]
  by_cases c3 : 50127 ≤ j ∧ j < 50127 + 539
  · exact Or.inl (by rw [if_pos c3])
  rw [if_neg c3]
  by_cases c4 : j = 33418 + 531
  · exact Or.inr (Or.inr ⟨by omega, by rw [if_pos c4]⟩)
  rw [if_neg c4]
  by_cases c5 : j = 33418 + 2
  · exact Or.inr (Or.inl ⟨by omega, by rw [if_pos c5]⟩)
  rw [if_neg c5]
  by_cases c6 : 33418 ≤ j ∧ j < 33418 + 539
  · exact Or.inl (by rw [if_pos c6])
  rw [if_neg c6]
  by_cases c7 : j = 16709 + 531
  · exact Or.inr (Or.inr ⟨by omega, by rw [if_pos c7]⟩)
  rw [if_neg c7]
  by_cases c8 : j = 16709 + 2
  · exact Or.inr (Or.inl ⟨by omega, by rw [if_pos c8]⟩)
  rw [if_neg c8]
  by_cases c9 : 16709 ≤ j ∧ j < 16709 + 539
  · exact Or.inl (by rw [if_pos c9])
  rw [if_neg c9]
  by_cases d1 : j = 0 + 531
  · exact Or.inr (Or.inr ⟨by omega, by rw [if_pos d1]⟩)
  rw [if_neg d1]
  by_cases d2 : j = 0 + 2
  · exact Or.inr (Or.inl ⟨by omega, by rw [if_pos d2]⟩)
  rw [if_neg d2]
  exact Or.inl (by split <;> rfl)
theorem rg_pl {kA : Nat → ClassId} {ta : Nat → Option Nat} {g : rg_T} {n : Nat} {f : Nat → Int32} (h3 : g.2.2.2.2 = pl_L 1) (h0 : (rgc g 0 n (-1) && rgc g 0 n 1) = true) (h1 : g.2.2.2.1.1 = 0) (hf : ∀ j, f j = 0 ∨ (j % 539 = 2 ∧ f j = 1) ∨ (j % 539 = 531 ∧ f j = -1)) : rg_ok kA ta g (.inl (kA 0, n, .inl f)) := by
  rw [Bool.and_eq_true] at h0
  obtain ⟨a, b, c, d, _⟩ := rgc_of h0.1
  obtain ⟨_, _, _, _, e⟩ := rgc_of h0.2
  have z0 : (0 : Int32).toInt = 0 := rfl
  have z1 : (1 : Int32).toInt = 1 := rfl
  have z2 : (-1 : Int32).toInt = -1 := rfl
  have bd : ∀ j, -1 ≤ (f j).toInt ∧ (f j).toInt ≤ 1 := fun j => by
    rcases hf j with q | ⟨_, q⟩ | ⟨_, q⟩ <;> rw [q] <;> omega
  refine Or.inl ⟨by omega, n, f, by rw [a], b, c, h1, fun j hj => Or.inl ⟨h1, f j, rfl, Int.le_trans d (bd j).1, Int.le_trans (bd j).2 e⟩, fun j t hj ht => ?_⟩
  rw [h3, pl_M1] at ht
  rcases hf j with q | ⟨m, q⟩ | ⟨m, q⟩
  · rw [q]; exact pl_zero ht
  · rw [m, pl_at2] at ht
    cases ht
    rw [q]; exact Or.inl ⟨rfl, 1, rfl, by decide, by decide⟩
  · rw [m, pl_at531] at ht
    cases ht
    rw [q]; exact Or.inl ⟨rfl, -1, rfl, by decide, by decide⟩
theorem rg_plz {kA : Nat → ClassId} {ta : Nat → Option Nat} {g : rg_T} {n : Nat} {f : Nat → Int32} (h3 : g.2.2.2.2 = pl_L 1) (h0 : (rgc g 0 n (-1) && rgc g 0 n 1) = true) (h1 : g.2.2.2.1.1 = 0) (_h : 0 = 0) (hf : ∀ j, f j = 0) : rg_ok kA ta g (.inl (kA 0, n, .inl f)) := rg_pl h3 h0 h1 (fun j => Or.inl (hf j))
set_option maxRecDepth 20000 in
theorem fb_Mr {kA : Nat → ClassId} {ta : Nat → Option Nat} {q : Nat → Nat} : st_all kA ta (wMr kA q a0Mo (fun _ _ => 0)) [166, 168, 169, 170, 171, 172, 173, 174, 175, 176, 177, 178, 179, 180, 181, 182, 183, 184, 185, 186, 187, 188, 189, 190, 191, 192, 193, 194, 195, 196, 197, 198, 199, 200, 201, 202, 203, 204, 205, 206, 207, 208, 209, 210, 211, 212, 213, 214, 215, 216, 217, 218, 219, 220, 221, 222, 223, 224, 225, 226, 227, 228, 229, 230, 231, 233, 234, 235, 236, 237, 238, 239, 240, 241, 245, 246, 247, 248, 249, 250, 251, 252, 253, 254, 255, 256, 257, 258, 259, 260, 261, 262, 263, 264, 265, 266, 267, 268, 269, 270, 271, 272, 273, 274, 275, 276, 277, 278, 279, 280, 281, 282, 283] := by
  unfold wMr
  exact ⟨⟨_, rfl, rg_z (g := GG_166) (by decide) (by decide) rfl rfl (fun _ => rfl)⟩, ⟨⟨_, rfl, rg_z (g := GG_168) (by decide) (by decide) rfl rfl (fun _ => rfl)⟩, ⟨⟨_, rfl, rg_z (g := GG_169) (by decide) (by decide) rfl rfl (fun _ => rfl)⟩, ⟨⟨_, rfl, rg_plz (g := GG_170) rfl (by decide) rfl rfl (fun _ => rfl)⟩, ⟨⟨_, rfl, rg_z (g := GG_171) (by decide) (by decide) rfl rfl (fun _ => rfl)⟩, ⟨⟨_, rfl, rg_z (g := GG_172) (by decide) (by decide) rfl rfl (fun _ => rfl)⟩, ⟨⟨_, rfl, rg_z (g := GG_173) (by decide) (by decide) rfl rfl (fun _ => rfl)⟩, ⟨⟨_, rfl, rg_z (g := GG_174) (by decide) (by decide) rfl rfl (fun _ => rfl)⟩, ⟨⟨_, rfl, rg_z (g := GG_175) (by decide) (by decide) rfl rfl (fun _ => rfl)⟩, ⟨⟨_, rfl, rg_z (g := GG_176) (by decide) (by decide) rfl rfl (fun _ => rfl)⟩, ⟨⟨_, rfl, rg_z (g := GG_177) (by decide) (by decide) rfl rfl (fun _ => rfl)⟩, ⟨⟨_, rfl, rg_z (g := GG_178) (by decide) (by decide) rfl rfl (fun _ => rfl)⟩, ⟨⟨_, rfl, rg_z (g := GG_179) (by decide) (by decide) rfl rfl (fun _ => rfl)⟩, ⟨⟨_, rfl, rg_z (g := GG_180) (by decide) (by decide) rfl rfl (fun _ => rfl)⟩, ⟨⟨_, rfl, rg_z (g := GG_181) (by decide) (by decide) rfl rfl (fun _ => rfl)⟩, ⟨⟨_, rfl, rg_z (g := GG_182) (by decide) (by decide) rfl rfl (fun _ => rfl)⟩, ⟨⟨_, rfl, rg_z (g := GG_183) (by decide) (by decide) rfl rfl (fun _ => rfl)⟩, ⟨⟨_, rfl, rg_z (g := GG_184) (by decide) (by decide) rfl rfl (fun _ => rfl)⟩, ⟨⟨_, rfl, rg_z (g := GG_185) (by decide) (by decide) rfl rfl (fun _ => rfl)⟩, ⟨⟨_, rfl, rg_z (g := GG_186) (by decide) (by decide) rfl rfl (fun _ => rfl)⟩, ⟨⟨_, rfl, rg_z (g := GG_187) (by decide) (by decide) rfl rfl (fun _ => rfl)⟩, ⟨⟨_, rfl, rg_z (g := GG_188) (by decide) (by decide) rfl rfl (fun _ => rfl)⟩, ⟨⟨_, rfl, rg_z (g := GG_189) (by decide) (by decide) rfl rfl (fun _ => rfl)⟩, ⟨⟨_, rfl, rg_z (g := GG_190) (by decide) (by decide) rfl rfl (fun _ => rfl)⟩, ⟨⟨_, rfl, rg_z (g := GG_191) (by decide) (by decide) rfl rfl (fun _ => rfl)⟩, ⟨⟨_, rfl, rg_z (g := GG_192) (by decide) (by decide) rfl rfl (fun _ => rfl)⟩, ⟨⟨_, rfl, rg_z (g := GG_193) (by decide) (by decide) rfl rfl (fun _ => rfl)⟩, ⟨⟨_, rfl, rg_z (g := GG_194) (by decide) (by decide) rfl rfl (fun _ => rfl)⟩, ⟨⟨_, rfl, rg_z (g := GG_195) (by decide) (by decide) rfl rfl (fun _ => rfl)⟩, ⟨⟨_, rfl, rg_z (g := GG_196) (by decide) (by decide) rfl rfl (fun _ => rfl)⟩, ⟨⟨_, rfl, rg_z (g := GG_197) (by decide) (by decide) rfl rfl (fun _ => rfl)⟩, ⟨⟨_, rfl, rg_z (g := GG_198) (by decide) (by decide) rfl rfl (fun _ => rfl)⟩, ⟨⟨_, rfl, rg_z (g := GG_199) (by decide) (by decide) rfl rfl (fun _ => rfl)⟩, ⟨⟨_, rfl, rg_z (g := GG_200) (by decide) (by decide) rfl rfl (fun _ => rfl)⟩, ⟨⟨_, rfl, rg_m (g := GG_201) (lo := -1) (hi := 0) (by decide) (by decide) rfl rfl z61⟩, ⟨⟨_, rfl, rg_z (g := GG_202) (by decide) (by decide) rfl rfl (fun _ => rfl)⟩, ⟨⟨_, rfl, rg_z (g := GG_203) (by decide) (by decide) rfl rfl (fun _ => rfl)⟩, ⟨⟨_, rfl, rg_z (g := GG_204) (by decide) (by decide) rfl rfl (fun _ => rfl)⟩, ⟨⟨_, rfl, rg_z (g := GG_205) (by decide) (by decide) rfl rfl (fun _ => rfl)⟩, ⟨⟨_, rfl, rg_z (g := GG_206) (by decide) (by decide) rfl rfl (fun _ => rfl)⟩, ⟨⟨_, rfl, rg_z (g := GG_207) (by decide) (by decide) rfl rfl (fun _ => rfl)⟩, ⟨⟨_, rfl, rg_z (g := GG_208) (by decide) (by decide) rfl rfl (fun _ => rfl)⟩, ⟨⟨_, rfl, rg_z (g := GG_209) (by decide) (by decide) rfl rfl (fun _ => rfl)⟩, ⟨⟨_, rfl, rg_z (g := GG_210) (by decide) (by decide) rfl rfl (fun _ => rfl)⟩, ⟨⟨_, rfl, rg_z (g := GG_211) (by decide) (by decide) rfl rfl (fun _ => rfl)⟩, ⟨⟨_, rfl, rg_z (g := GG_212) (by decide) (by decide) rfl rfl (fun _ => rfl)⟩, ⟨⟨_, rfl, rg_z (g := GG_213) (by decide) (by decide) rfl rfl (fun _ => rfl)⟩, ⟨⟨_, rfl, rg_z (g := GG_214) (by decide) (by decide) rfl rfl (fun _ => rfl)⟩, ⟨⟨_, rfl, rg_z (g := GG_215) (by decide) (by decide) rfl rfl (fun _ => rfl)⟩, ⟨⟨_, rfl, rg_z (g := GG_216) (by decide) (by decide) rfl rfl (fun _ => rfl)⟩, ⟨⟨_, rfl, rg_z (g := GG_217) (by decide) (by decide) rfl rfl (fun _ => rfl)⟩, ⟨⟨_, rfl, rg_z (g := GG_218) (by decide) (by decide) rfl rfl (fun _ => rfl)⟩, ⟨⟨_, rfl, rg_z (g := GG_219) (by decide) (by decide) rfl rfl (fun _ => rfl)⟩, ⟨⟨_, rfl, rg_z (g := GG_220) (by decide) (by decide) rfl rfl (fun _ => rfl)⟩, ⟨⟨_, rfl, rg_z (g := GG_221) (by decide) (by decide) rfl rfl (fun _ => rfl)⟩, ⟨⟨_, rfl, rg_z (g := GG_222) (by decide) (by decide) rfl rfl (fun _ => rfl)⟩, ⟨⟨_, rfl, rg_z (g := GG_223) (by decide) (by decide) rfl rfl (fun _ => rfl)⟩, ⟨⟨_, rfl, rg_z (g := GG_224) (by decide) (by decide) rfl rfl (fun _ => rfl)⟩, ⟨⟨_, rfl, rg_z (g := GG_225) (by decide) (by decide) rfl rfl (fun _ => rfl)⟩, ⟨⟨_, rfl, rg_z (g := GG_226) (by decide) (by decide) rfl rfl (fun _ => rfl)⟩, ⟨⟨_, rfl, rg_z (g := GG_227) (by decide) (by decide) rfl rfl (fun _ => rfl)⟩, ⟨⟨_, rfl, rg_z (g := GG_228) (by decide) (by decide) rfl rfl (fun _ => rfl)⟩, ⟨⟨_, rfl, rg_z (g := GG_229) (by decide) (by decide) rfl rfl (fun _ => rfl)⟩, ⟨⟨_, rfl, rg_z (g := GG_230) (by decide) (by decide) rfl rfl (fun _ => rfl)⟩, ⟨⟨_, rfl, rg_z (g := GG_231) (by decide) (by decide) rfl rfl (fun _ => rfl)⟩, ⟨⟨_, rfl, rg_z (g := GG_233) (by decide) (by decide) rfl rfl (fun _ => rfl)⟩, ⟨⟨_, rfl, rg_z (g := GG_234) (by decide) (by decide) rfl rfl (fun _ => rfl)⟩, ⟨⟨_, rfl, rg_z (g := GG_235) (by decide) (by decide) rfl rfl (fun _ => rfl)⟩, ⟨⟨_, rfl, rg_z (g := GG_236) (by decide) (by decide) rfl rfl (fun _ => rfl)⟩, ⟨⟨_, rfl, rg_z (g := GG_237) (by decide) (by decide) rfl rfl (fun _ => rfl)⟩, ⟨⟨_, rfl, rg_z (g := GG_238) (by decide) (by decide) rfl rfl (fun _ => rfl)⟩, ⟨⟨_, rfl, rg_z (g := GG_239) (by decide) (by decide) rfl rfl (fun _ => rfl)⟩, ⟨⟨_, rfl, rg_z (g := GG_240) (by decide) (by decide) rfl rfl (fun _ => rfl)⟩, ⟨⟨_, rfl, rg_z (g := GG_241) (by decide) (by decide) rfl rfl (fun _ => rfl)⟩, ⟨⟨_, rfl, rg_z (g := GG_245) (by decide) (by decide) rfl rfl (fun _ => rfl)⟩, ⟨⟨_, rfl, rg_z (g := GG_246) (by decide) (by decide) rfl rfl (fun _ => rfl)⟩, ⟨⟨_, rfl, rg_z (g := GG_247) (by decide) (by decide) rfl rfl (fun _ => rfl)⟩, ⟨⟨_, rfl, rg_z (g := GG_248) (by decide) (by decide) rfl rfl (fun _ => rfl)⟩, ⟨⟨_, rfl, rg_z (g := GG_249) (by decide) (by decide) rfl rfl (fun _ => rfl)⟩, ⟨⟨_, rfl, rg_z (g := GG_250) (by decide) (by decide) rfl rfl (fun _ => rfl)⟩, ⟨⟨_, rfl, rg_l (g := GG_251) (by decide) rfl (fun _ => rfl)⟩, ⟨⟨_, rfl, rg_l (g := GG_252) (by decide) rfl (fun _ => rfl)⟩, ⟨⟨_, rfl, rg_z (g := GG_253) (by decide) (by decide) rfl rfl (fun _ => rfl)⟩, ⟨⟨_, rfl, rg_z (g := GG_254) (by decide) (by decide) rfl rfl (fun _ => rfl)⟩, ⟨⟨_, rfl, rg_z (g := GG_255) (by decide) (by decide) rfl rfl (fun _ => rfl)⟩, ⟨⟨_, rfl, rg_z (g := GG_256) (by decide) (by decide) rfl rfl (fun _ => rfl)⟩, ⟨⟨_, rfl, rg_z (g := GG_257) (by decide) (by decide) rfl rfl (fun _ => rfl)⟩, ⟨⟨_, rfl, rg_z (g := GG_258) (by decide) (by decide) rfl rfl (fun _ => rfl)⟩, ⟨⟨_, rfl, rg_z (g := GG_259) (by decide) (by decide) rfl rfl (fun _ => rfl)⟩, ⟨⟨_, rfl, rg_z (g := GG_260) (by decide) (by decide) rfl rfl (fun _ => rfl)⟩, ⟨⟨_, rfl, rg_z (g := GG_261) (by decide) (by decide) rfl rfl (fun _ => rfl)⟩, ⟨⟨_, rfl, rg_l (g := GG_262) (by decide) rfl (fun _ => rfl)⟩, ⟨⟨_, rfl, rg_l (g := GG_263) (by decide) rfl (fun _ => rfl)⟩, ⟨⟨_, rfl, rg_l (g := GG_264) (by decide) rfl (fun _ => rfl)⟩, ⟨⟨_, rfl, rg_l (g := GG_265) (by decide) rfl (fun _ => rfl)⟩, ⟨⟨_, rfl, rg_z (g := GG_266) (by decide) (by decide) rfl rfl (fun _ => rfl)⟩, ⟨⟨_, rfl, rg_z (g := GG_267) (by decide) (by decide) rfl rfl (fun _ => rfl)⟩, ⟨⟨_, rfl, rg_z (g := GG_268) (by decide) (by decide) rfl rfl (fun _ => rfl)⟩, ⟨⟨_, rfl, rg_z (g := GG_269) (by decide) (by decide) rfl rfl (fun _ => rfl)⟩, ⟨⟨_, rfl, rg_z (g := GG_270) (by decide) (by decide) rfl rfl (fun _ => rfl)⟩, ⟨⟨_, rfl, rg_z (g := GG_271) (by decide) (by decide) rfl rfl (fun _ => rfl)⟩, ⟨⟨_, rfl, rg_z (g := GG_272) (by decide) (by decide) rfl rfl (fun _ => rfl)⟩, ⟨⟨_, rfl, rg_z (g := GG_273) (by decide) (by decide) rfl rfl (fun _ => rfl)⟩, ⟨⟨_, rfl, rg_z (g := GG_274) (by decide) (by decide) rfl rfl (fun _ => rfl)⟩, ⟨⟨_, rfl, rg_l (g := GG_275) (by decide) rfl (fun _ => rfl)⟩, ⟨⟨_, rfl, rg_z (g := GG_276) (by decide) (by decide) rfl rfl (fun _ => rfl)⟩, ⟨⟨_, rfl, rg_z (g := GG_277) (by decide) (by decide) rfl rfl (fun _ => rfl)⟩, ⟨⟨_, rfl, rg_z (g := GG_278) (by decide) (by decide) rfl rfl (fun _ => rfl)⟩, ⟨⟨_, rfl, rg_z (g := GG_279) (by decide) (by decide) rfl rfl (fun _ => rfl)⟩, ⟨⟨_, rfl, rg_z (g := GG_280) (by decide) (by decide) rfl rfl (fun _ => rfl)⟩, ⟨⟨_, rfl, rg_z (g := GG_281) (by decide) (by decide) rfl rfl (fun _ => rfl)⟩, ⟨⟨_, rfl, rg_z (g := GG_282) (by decide) (by decide) rfl rfl (fun _ => rfl)⟩, ⟨⟨_, rfl, rg_z (g := GG_283) (by decide) (by decide) rfl rfl (fun _ => rfl)⟩, trivial⟩⟩⟩⟩⟩⟩⟩⟩⟩⟩⟩⟩⟩⟩⟩⟩⟩⟩⟩⟩⟩⟩⟩⟩⟩⟩⟩⟩⟩⟩⟩⟩⟩⟩⟩⟩⟩⟩⟩⟩⟩⟩⟩⟩⟩⟩⟩⟩⟩⟩⟩⟩⟩⟩⟩⟩⟩⟩⟩⟩⟩⟩⟩⟩⟩⟩⟩⟩⟩⟩⟩⟩⟩⟩⟩⟩⟩⟩⟩⟩⟩⟩⟩⟩⟩⟩⟩⟩⟩⟩⟩⟩⟩⟩⟩⟩⟩⟩⟩⟩⟩⟩⟩⟩⟩⟩⟩⟩⟩⟩⟩⟩⟩
theorem fb_M2 {kA : Nat → ClassId} {ta : Nat → Option Nat} {a : Nat} : st_all kA ta [(a, .inl (kA 0, 66836, .inl all0))] [167] := ⟨⟨_, rfl, rg_pl (g := GG_167) rfl (by decide) rfl all0_in⟩, trivial⟩
theorem fb_M96 {kA : Nat → ClassId} {ta : Nat → Option Nat} {a : Nat} : st_all kA ta [(a, .inl (kA 0, 26, .inl ((prm (fun _ => 0) (fun _ => 0) (fun _ => 0) (fun _ => 0) 7).1)))] [232] := ⟨⟨_, rfl, rg_m (g := GG_232) (lo := 0) (hi := 5) (by decide) (by decide) rfl rfl (fun j => (prm_alp _ _ 7 (by decide)).1 j)⟩, trivial⟩
theorem fb_M110 {kA : Nat → ClassId} {ta : Nat → Option Nat} {a : Nat} : st_all kA ta [(a, .inl (kA 0, 8, .inl ((prm (fun _ => 0) (fun _ => 0) (fun _ => 0) (fun _ => 0) 7).2.2.2.2)))] [242] := ⟨⟨_, rfl, rg_m (g := GG_242) (lo := 0) (hi := 5500) (by decide) (by decide) rfl rfl (fun j => prm_pb (fun _ => by decide) 7 (by decide) j)⟩, trivial⟩
theorem fb_M111 {kA : Nat → ClassId} {ta : Nat → Option Nat} {a : Nat} : st_all kA ta [(a, .inl (kA 0, 8, .inl ((prm (fun _ => 0) (fun _ => 0) (fun _ => 0) (fun _ => 0) 7).2.2.2.1)))] [243] := ⟨⟨_, rfl, rg_m (g := GG_243) (lo := 0) (hi := 720) (by decide) (by decide) rfl rfl (fun j => prm_my (fun _ => by decide) 7 (by decide) j)⟩, trivial⟩
theorem fb_M112 {kA : Nat → ClassId} {ta : Nat → Option Nat} {a : Nat} : st_all kA ta [(a, .inl (kA 1, 6000, .inl ((prm (fun _ => 0) (fun _ => 0) (fun _ => 0) (fun _ => 0) 7).2.1)))] [244] := ⟨⟨_, rfl, rg_m (g := GG_244) (lo := 0) (hi := 5) (by decide) (by decide) rfl rfl (fun j => (prm_alp _ _ 7 (by decide)).2 j)⟩, trivial⟩
def rs_h : List Nat := [12, 131, 132, 133, 134, 135, 136, 137, 138] ++ ([8, 109, 110] ++ ([164, 150, 151, 152, 153, 154, 155, 156, 157, 158, 159, 160, 161, 162] ++ ([1, 26, 27, 28, 29, 30, 31, 32, 33, 34, 35, 36] ++ ([149, 139, 140, 141, 142, 143, 144, 145, 146, 147, 148] ++ ([3, 48, 49, 50, 51, 52, 53, 54, 55, 56, 57, 58, 59, 60] ++ ([2, 37, 38, 39, 40, 41, 42, 43, 44, 45, 46, 47] ++ ([5, 79, 80, 81, 82, 83, 84, 85, 86, 87, 88] ++ ([0, 14, 15, 16, 17, 18, 19, 20, 21, 22, 23, 24, 25] ++ ([3, 48, 49, 50, 51, 52, 53, 54, 55, 56, 57, 58, 59, 60] ++ ([2, 37, 38, 39, 40, 41, 42, 43, 44, 45, 46, 47] ++ ([5, 79, 80, 81, 82, 83, 84, 85, 86, 87, 88] ++ ([0, 14, 15, 16, 17, 18, 19, 20, 21, 22, 23, 24, 25] ++ ([3, 48, 49, 50, 51, 52, 53, 54, 55, 56, 57, 58, 59, 60] ++ ([2, 37, 38, 39, 40, 41, 42, 43, 44, 45, 46, 47] ++ ([5, 79, 80, 81, 82, 83, 84, 85, 86, 87, 88] ++ ([0, 14, 15, 16, 17, 18, 19, 20, 21, 22, 23, 24, 25] ++ ([3, 48, 49, 50, 51, 52, 53, 54, 55, 56, 57, 58, 59, 60] ++ ([2, 37, 38, 39, 40, 41, 42, 43, 44, 45, 46, 47] ++ ([5, 79, 80, 81, 82, 83, 84, 85, 86, 87, 88] ++ ([0, 14, 15, 16, 17, 18, 19, 20, 21, 22, 23, 24, 25] ++ []))))))))))))))))))))
def rs_m : List Nat := [165] ++ ([167] ++ ([232] ++ ([242] ++ ([243] ++ ([244] ++ ([166, 168, 169, 170, 171, 172, 173, 174, 175, 176, 177, 178, 179, 180, 181, 182, 183, 184, 185, 186, 187, 188, 189, 190, 191, 192, 193, 194, 195, 196, 197, 198, 199, 200, 201, 202, 203, 204, 205, 206, 207, 208, 209, 210, 211, 212, 213, 214, 215, 216, 217, 218, 219, 220, 221, 222, 223, 224, 225, 226, 227, 228, 229, 230, 231, 233, 234, 235, 236, 237, 238, 239, 240, 241, 245, 246, 247, 248, 249, 250, 251, 252, 253, 254, 255, 256, 257, 258, 259, 260, 261, 262, 263, 264, 265, 266, 267, 268, 269, 270, 271, 272, 273, 274, 275, 276, 277, 278, 279, 280, 281, 282, 283] ++ []))))))
def rs_0_s : List Nat := rs_h ++ (rs_m ++ [])
def W0 (kA : Nat → ClassId) (h1 h2 : Nat) (u1 : Nat → Nat → Nat) (u2 : Nat → Nat) : va_W := cat [cat (sHo kA h1 u1), cat (sMo kA h2 u2)]
set_option maxRecDepth 20000 in
theorem wb_0 {A : Nat → Prop} {kA : Nat → ClassId} {h1 h2 : Nat} {u1 : Nat → Nat → Nat} {u2 : Nat → Nat} (hD : va_D A (W0 kA h1 h2 u1 u2)) (hp : u1 50 1 = u1 0 4 ∧ u1 50 3 = u1 0 5 ∧ u1 50 2 = u1 1 4 ∧ u1 50 4 = u1 3 1 ∧ u1 8 0 = u1 50 5 ∧ u1 12 0 = u1 50 9 ∧ u1 16 0 = u1 50 13 ∧ u1 20 0 = u1 50 17) : st_all kA (st_ta kA (W0 kA h1 h2 u1 u2) rs_0_s) (wHo kA (h1) (u1 0) x0Ho a0Ho (fun k i => u1 50 (5 + 4 * i + k)) none none none none none) [12, 131, 132, 133, 134, 135, 136, 137, 138] := fb_Ho_12 (st_ta_at hD 0 rfl rfl) (st_ta_at hD 1 rfl rfl) (st_ta_at hD 2 rfl rfl) (st_ta_at hD 3 rfl rfl) (st_ta_at hD 4 rfl rfl) (by rw [← hp.1]; exact st_ta_at hD 9 rfl rfl) (by rw [← hp.2.1]; exact st_ta_at hD 26 rfl rfl) (st_ta_at hD 5 rfl rfl) (st_ta_at hD 6 rfl rfl) (st_ta_at hD 7 rfl rfl) (st_ta_at hD 8 rfl rfl) (fun j hj => by
    match j, hj with
    | 0, _ => exact st_ta_at hD 49 rfl rfl
    | 1, _ => exact st_ta_at hD 99 rfl rfl
    | 2, _ => exact st_ta_at hD 149 rfl rfl
    | 3, _ => exact st_ta_at hD 199 rfl rfl
    | j + 4, hj => omega) (fun j hj => by
    match j, hj with
    | 0, _ => exact st_ta_at hD 63 rfl rfl
    | 1, _ => exact st_ta_at hD 113 rfl rfl
    | 2, _ => exact st_ta_at hD 163 rfl rfl
    | 3, _ => exact st_ta_at hD 213 rfl rfl
    | j + 4, hj => omega) (fun j hj => by
    match j, hj with
    | 0, _ => exact st_ta_at hD 75 rfl rfl
    | 1, _ => exact st_ta_at hD 125 rfl rfl
    | 2, _ => exact st_ta_at hD 175 rfl rfl
    | 3, _ => exact st_ta_at hD 225 rfl rfl
    | j + 4, hj => omega) (fun j hj => by
    match j, hj with
    | 0, _ => exact st_ta_at hD 86 rfl rfl
    | 1, _ => exact st_ta_at hD 136 rfl rfl
    | 2, _ => exact st_ta_at hD 186 rfl rfl
    | 3, _ => exact st_ta_at hD 236 rfl rfl
    | j + 4, hj => omega)
set_option maxRecDepth 20000 in
theorem wb_1 {A : Nat → Prop} {kA : Nat → ClassId} {h1 h2 : Nat} {u1 : Nat → Nat → Nat} {u2 : Nat → Nat} (hD : va_D A (W0 kA h1 h2 u1 u2)) (hp : u1 50 1 = u1 0 4 ∧ u1 50 3 = u1 0 5 ∧ u1 50 2 = u1 1 4 ∧ u1 50 4 = u1 3 1 ∧ u1 8 0 = u1 50 5 ∧ u1 12 0 = u1 50 9 ∧ u1 16 0 = u1 50 13 ∧ u1 20 0 = u1 50 17) : st_all kA (st_ta kA (W0 kA h1 h2 u1 u2) rs_0_s) (wRe kA (u1 50 1) (u1 1) x0Re a0Re) [8, 109, 110] := fb_Re_8 (st_ta_at hD 9 rfl rfl) (st_ta_at hD 10 rfl rfl) (by rw [← hp.2.2.1]; exact st_ta_at hD 12 rfl rfl) (st_ta_at hD 11 rfl rfl)
set_option maxRecDepth 20000 in
theorem wb_2 {A : Nat → Prop} {kA : Nat → ClassId} {h1 h2 : Nat} {u1 : Nat → Nat → Nat} {u2 : Nat → Nat} (hD : va_D A (W0 kA h1 h2 u1 u2)) (hp : u1 50 1 = u1 0 4 ∧ u1 50 3 = u1 0 5 ∧ u1 50 2 = u1 1 4 ∧ u1 50 4 = u1 3 1 ∧ u1 8 0 = u1 50 5 ∧ u1 12 0 = u1 50 9 ∧ u1 16 0 = u1 50 13 ∧ u1 20 0 = u1 50 17) : st_all kA (st_ta kA (W0 kA h1 h2 u1 u2) rs_0_s) (wGr kA (u1 50 2) (u1 2) x0Gr a0Gr none) [164, 150, 151, 152, 153, 154, 155, 156, 157, 158, 159, 160, 161, 162] := fb_Gr_164 (st_ta_at hD 12 rfl rfl) (st_ta_at hD 13 rfl rfl) (st_ta_at hD 14 rfl rfl) (st_ta_at hD 15 rfl rfl) (st_ta_at hD 16 rfl rfl) (st_ta_at hD 17 rfl rfl) (st_ta_at hD 18 rfl rfl) (st_ta_at hD 19 rfl rfl) (st_ta_at hD 20 rfl rfl) (st_ta_at hD 21 rfl rfl) (st_ta_at hD 22 rfl rfl) (st_ta_at hD 23 rfl rfl) (st_ta_at hD 24 rfl rfl) (st_ta_at hD 25 rfl rfl)
set_option maxRecDepth 20000 in
theorem wb_3 {A : Nat → Prop} {kA : Nat → ClassId} {h1 h2 : Nat} {u1 : Nat → Nat → Nat} {u2 : Nat → Nat} (hD : va_D A (W0 kA h1 h2 u1 u2)) (hp : u1 50 1 = u1 0 4 ∧ u1 50 3 = u1 0 5 ∧ u1 50 2 = u1 1 4 ∧ u1 50 4 = u1 3 1 ∧ u1 8 0 = u1 50 5 ∧ u1 12 0 = u1 50 9 ∧ u1 16 0 = u1 50 13 ∧ u1 20 0 = u1 50 17) : st_all kA (st_ta kA (W0 kA h1 h2 u1 u2) rs_0_s) (wEm kA (u1 50 3) (u1 3) x0Em a0Em none) [1, 26, 27, 28, 29, 30, 31, 32, 33, 34, 35, 36] := fb_Em_1 (st_ta_at hD 26 rfl rfl) (by rw [← hp.2.2.2.1]; exact st_ta_at hD 38 rfl rfl) (st_ta_at hD 27 rfl rfl) (st_ta_at hD 28 rfl rfl) (st_ta_at hD 29 rfl rfl) (st_ta_at hD 30 rfl rfl) (st_ta_at hD 31 rfl rfl) (st_ta_at hD 32 rfl rfl) (st_ta_at hD 33 rfl rfl) (st_ta_at hD 34 rfl rfl) (st_ta_at hD 35 rfl rfl) (st_ta_at hD 36 rfl rfl) (st_ta_at hD 37 rfl rfl)
set_option maxRecDepth 20000 in
theorem wb_4 {A : Nat → Prop} {kA : Nat → ClassId} {h1 h2 : Nat} {u1 : Nat → Nat → Nat} {u2 : Nat → Nat} (hD : va_D A (W0 kA h1 h2 u1 u2)) (hp : u1 50 1 = u1 0 4 ∧ u1 50 3 = u1 0 5 ∧ u1 50 2 = u1 1 4 ∧ u1 50 4 = u1 3 1 ∧ u1 8 0 = u1 50 5 ∧ u1 12 0 = u1 50 9 ∧ u1 16 0 = u1 50 13 ∧ u1 20 0 = u1 50 17) : st_all kA (st_ta kA (W0 kA h1 h2 u1 u2) rs_0_s) (wNe kA (u1 50 4) (u1 4) x0Ne a0Ne) [149, 139, 140, 141, 142, 143, 144, 145, 146, 147, 148] := fb_Ne_149 (st_ta_at hD 38 rfl rfl) (st_ta_at hD 39 rfl rfl) (st_ta_at hD 40 rfl rfl) (st_ta_at hD 41 rfl rfl) (st_ta_at hD 42 rfl rfl) (st_ta_at hD 43 rfl rfl) (st_ta_at hD 44 rfl rfl) (st_ta_at hD 45 rfl rfl) (st_ta_at hD 46 rfl rfl) (st_ta_at hD 47 rfl rfl) (st_ta_at hD 48 rfl rfl)
set_option maxRecDepth 20000 in
theorem wb_5 {A : Nat → Prop} {kA : Nat → ClassId} {h1 h2 : Nat} {u1 : Nat → Nat → Nat} {u2 : Nat → Nat} (hD : va_D A (W0 kA h1 h2 u1 u2)) (hp : u1 50 1 = u1 0 4 ∧ u1 50 3 = u1 0 5 ∧ u1 50 2 = u1 1 4 ∧ u1 50 4 = u1 3 1 ∧ u1 8 0 = u1 50 5 ∧ u1 12 0 = u1 50 9 ∧ u1 16 0 = u1 50 13 ∧ u1 20 0 = u1 50 17) : st_all kA (st_ta kA (W0 kA h1 h2 u1 u2) rs_0_s) (wGr kA (u1 50 5) (u1 5) x0Gr a0Gr none) [3, 48, 49, 50, 51, 52, 53, 54, 55, 56, 57, 58, 59, 60] := fb_Gr_3 (st_ta_at hD 49 rfl rfl) (st_ta_at hD 50 rfl rfl) (st_ta_at hD 51 rfl rfl) (st_ta_at hD 52 rfl rfl) (st_ta_at hD 53 rfl rfl) (st_ta_at hD 54 rfl rfl) (st_ta_at hD 55 rfl rfl) (st_ta_at hD 56 rfl rfl) (st_ta_at hD 57 rfl rfl) (st_ta_at hD 58 rfl rfl) (st_ta_at hD 59 rfl rfl) (st_ta_at hD 60 rfl rfl) (st_ta_at hD 61 rfl rfl) (st_ta_at hD 62 rfl rfl)
set_option maxRecDepth 20000 in
theorem wb_6 {A : Nat → Prop} {kA : Nat → ClassId} {h1 h2 : Nat} {u1 : Nat → Nat → Nat} {u2 : Nat → Nat} (hD : va_D A (W0 kA h1 h2 u1 u2)) (hp : u1 50 1 = u1 0 4 ∧ u1 50 3 = u1 0 5 ∧ u1 50 2 = u1 1 4 ∧ u1 50 4 = u1 3 1 ∧ u1 8 0 = u1 50 5 ∧ u1 12 0 = u1 50 9 ∧ u1 16 0 = u1 50 13 ∧ u1 20 0 = u1 50 17) : st_all kA (st_ta kA (W0 kA h1 h2 u1 u2) rs_0_s) (wFa kA (u1 50 6) (u1 6) x0Fa a0Fa) [2, 37, 38, 39, 40, 41, 42, 43, 44, 45, 46, 47] := fb_Fa_2 (st_ta_at hD 63 rfl rfl) (st_ta_at hD 64 rfl rfl) (st_ta_at hD 65 rfl rfl) (st_ta_at hD 66 rfl rfl) (st_ta_at hD 67 rfl rfl) (st_ta_at hD 68 rfl rfl) (st_ta_at hD 69 rfl rfl) (st_ta_at hD 70 rfl rfl) (st_ta_at hD 71 rfl rfl) (st_ta_at hD 72 rfl rfl) (st_ta_at hD 73 rfl rfl) (st_ta_at hD 74 rfl rfl)
set_option maxRecDepth 20000 in
theorem wb_7 {A : Nat → Prop} {kA : Nat → ClassId} {h1 h2 : Nat} {u1 : Nat → Nat → Nat} {u2 : Nat → Nat} (hD : va_D A (W0 kA h1 h2 u1 u2)) (hp : u1 50 1 = u1 0 4 ∧ u1 50 3 = u1 0 5 ∧ u1 50 2 = u1 1 4 ∧ u1 50 4 = u1 3 1 ∧ u1 8 0 = u1 50 5 ∧ u1 12 0 = u1 50 9 ∧ u1 16 0 = u1 50 13 ∧ u1 20 0 = u1 50 17) : st_all kA (st_ta kA (W0 kA h1 h2 u1 u2) rs_0_s) (wNe kA (u1 50 7) (u1 7) x0Ne a0Ne) [5, 79, 80, 81, 82, 83, 84, 85, 86, 87, 88] := fb_Ne_5 (st_ta_at hD 75 rfl rfl) (st_ta_at hD 76 rfl rfl) (st_ta_at hD 77 rfl rfl) (st_ta_at hD 78 rfl rfl) (st_ta_at hD 79 rfl rfl) (st_ta_at hD 80 rfl rfl) (st_ta_at hD 81 rfl rfl) (st_ta_at hD 82 rfl rfl) (st_ta_at hD 83 rfl rfl) (st_ta_at hD 84 rfl rfl) (st_ta_at hD 85 rfl rfl)
set_option maxRecDepth 20000 in
theorem wb_8 {A : Nat → Prop} {kA : Nat → ClassId} {h1 h2 : Nat} {u1 : Nat → Nat → Nat} {u2 : Nat → Nat} (hD : va_D A (W0 kA h1 h2 u1 u2)) (hp : u1 50 1 = u1 0 4 ∧ u1 50 3 = u1 0 5 ∧ u1 50 2 = u1 1 4 ∧ u1 50 4 = u1 3 1 ∧ u1 8 0 = u1 50 5 ∧ u1 12 0 = u1 50 9 ∧ u1 16 0 = u1 50 13 ∧ u1 20 0 = u1 50 17) : st_all kA (st_ta kA (W0 kA h1 h2 u1 u2) rs_0_s) (wDr kA (u1 50 8) (u1 8) x0Dr a0Dr) [0, 14, 15, 16, 17, 18, 19, 20, 21, 22, 23, 24, 25] := fb_Dr_0 (st_ta_at hD 86 rfl rfl) (by rw [hp.2.2.2.2.1]; exact st_ta_at hD 49 rfl rfl) (st_ta_at hD 87 rfl rfl) (st_ta_at hD 88 rfl rfl) (st_ta_at hD 89 rfl rfl) (st_ta_at hD 90 rfl rfl) (st_ta_at hD 91 rfl rfl) (st_ta_at hD 92 rfl rfl) (st_ta_at hD 93 rfl rfl) (st_ta_at hD 94 rfl rfl) (st_ta_at hD 95 rfl rfl) (st_ta_at hD 96 rfl rfl) (st_ta_at hD 97 rfl rfl) (st_ta_at hD 98 rfl rfl)
set_option maxRecDepth 20000 in
theorem wb_9 {A : Nat → Prop} {kA : Nat → ClassId} {h1 h2 : Nat} {u1 : Nat → Nat → Nat} {u2 : Nat → Nat} (hD : va_D A (W0 kA h1 h2 u1 u2)) (hp : u1 50 1 = u1 0 4 ∧ u1 50 3 = u1 0 5 ∧ u1 50 2 = u1 1 4 ∧ u1 50 4 = u1 3 1 ∧ u1 8 0 = u1 50 5 ∧ u1 12 0 = u1 50 9 ∧ u1 16 0 = u1 50 13 ∧ u1 20 0 = u1 50 17) : st_all kA (st_ta kA (W0 kA h1 h2 u1 u2) rs_0_s) (wGr kA (u1 50 9) (u1 9) x0Gr a0Gr none) [3, 48, 49, 50, 51, 52, 53, 54, 55, 56, 57, 58, 59, 60] := fb_Gr_3 (st_ta_at hD 99 rfl rfl) (st_ta_at hD 100 rfl rfl) (st_ta_at hD 101 rfl rfl) (st_ta_at hD 102 rfl rfl) (st_ta_at hD 103 rfl rfl) (st_ta_at hD 104 rfl rfl) (st_ta_at hD 105 rfl rfl) (st_ta_at hD 106 rfl rfl) (st_ta_at hD 107 rfl rfl) (st_ta_at hD 108 rfl rfl) (st_ta_at hD 109 rfl rfl) (st_ta_at hD 110 rfl rfl) (st_ta_at hD 111 rfl rfl) (st_ta_at hD 112 rfl rfl)
set_option maxRecDepth 20000 in
theorem wb_10 {A : Nat → Prop} {kA : Nat → ClassId} {h1 h2 : Nat} {u1 : Nat → Nat → Nat} {u2 : Nat → Nat} (hD : va_D A (W0 kA h1 h2 u1 u2)) (hp : u1 50 1 = u1 0 4 ∧ u1 50 3 = u1 0 5 ∧ u1 50 2 = u1 1 4 ∧ u1 50 4 = u1 3 1 ∧ u1 8 0 = u1 50 5 ∧ u1 12 0 = u1 50 9 ∧ u1 16 0 = u1 50 13 ∧ u1 20 0 = u1 50 17) : st_all kA (st_ta kA (W0 kA h1 h2 u1 u2) rs_0_s) (wFa kA (u1 50 10) (u1 10) x0Fa a0Fa) [2, 37, 38, 39, 40, 41, 42, 43, 44, 45, 46, 47] := fb_Fa_2 (st_ta_at hD 113 rfl rfl) (st_ta_at hD 114 rfl rfl) (st_ta_at hD 115 rfl rfl) (st_ta_at hD 116 rfl rfl) (st_ta_at hD 117 rfl rfl) (st_ta_at hD 118 rfl rfl) (st_ta_at hD 119 rfl rfl) (st_ta_at hD 120 rfl rfl) (st_ta_at hD 121 rfl rfl) (st_ta_at hD 122 rfl rfl) (st_ta_at hD 123 rfl rfl) (st_ta_at hD 124 rfl rfl)
set_option maxRecDepth 20000 in
theorem wb_11 {A : Nat → Prop} {kA : Nat → ClassId} {h1 h2 : Nat} {u1 : Nat → Nat → Nat} {u2 : Nat → Nat} (hD : va_D A (W0 kA h1 h2 u1 u2)) (hp : u1 50 1 = u1 0 4 ∧ u1 50 3 = u1 0 5 ∧ u1 50 2 = u1 1 4 ∧ u1 50 4 = u1 3 1 ∧ u1 8 0 = u1 50 5 ∧ u1 12 0 = u1 50 9 ∧ u1 16 0 = u1 50 13 ∧ u1 20 0 = u1 50 17) : st_all kA (st_ta kA (W0 kA h1 h2 u1 u2) rs_0_s) (wNe kA (u1 50 11) (u1 11) x0Ne a0Ne) [5, 79, 80, 81, 82, 83, 84, 85, 86, 87, 88] := fb_Ne_5 (st_ta_at hD 125 rfl rfl) (st_ta_at hD 126 rfl rfl) (st_ta_at hD 127 rfl rfl) (st_ta_at hD 128 rfl rfl) (st_ta_at hD 129 rfl rfl) (st_ta_at hD 130 rfl rfl) (st_ta_at hD 131 rfl rfl) (st_ta_at hD 132 rfl rfl) (st_ta_at hD 133 rfl rfl) (st_ta_at hD 134 rfl rfl) (st_ta_at hD 135 rfl rfl)
set_option maxRecDepth 20000 in
theorem wb_12 {A : Nat → Prop} {kA : Nat → ClassId} {h1 h2 : Nat} {u1 : Nat → Nat → Nat} {u2 : Nat → Nat} (hD : va_D A (W0 kA h1 h2 u1 u2)) (hp : u1 50 1 = u1 0 4 ∧ u1 50 3 = u1 0 5 ∧ u1 50 2 = u1 1 4 ∧ u1 50 4 = u1 3 1 ∧ u1 8 0 = u1 50 5 ∧ u1 12 0 = u1 50 9 ∧ u1 16 0 = u1 50 13 ∧ u1 20 0 = u1 50 17) : st_all kA (st_ta kA (W0 kA h1 h2 u1 u2) rs_0_s) (wDr kA (u1 50 12) (u1 12) x0Dr a0Dr) [0, 14, 15, 16, 17, 18, 19, 20, 21, 22, 23, 24, 25] := fb_Dr_0 (st_ta_at hD 136 rfl rfl) (by rw [hp.2.2.2.2.2.1]; exact st_ta_at hD 99 rfl rfl) (st_ta_at hD 137 rfl rfl) (st_ta_at hD 138 rfl rfl) (st_ta_at hD 139 rfl rfl) (st_ta_at hD 140 rfl rfl) (st_ta_at hD 141 rfl rfl) (st_ta_at hD 142 rfl rfl) (st_ta_at hD 143 rfl rfl) (st_ta_at hD 144 rfl rfl) (st_ta_at hD 145 rfl rfl) (st_ta_at hD 146 rfl rfl) (st_ta_at hD 147 rfl rfl) (st_ta_at hD 148 rfl rfl)
set_option maxRecDepth 20000 in
theorem wb_13 {A : Nat → Prop} {kA : Nat → ClassId} {h1 h2 : Nat} {u1 : Nat → Nat → Nat} {u2 : Nat → Nat} (hD : va_D A (W0 kA h1 h2 u1 u2)) (hp : u1 50 1 = u1 0 4 ∧ u1 50 3 = u1 0 5 ∧ u1 50 2 = u1 1 4 ∧ u1 50 4 = u1 3 1 ∧ u1 8 0 = u1 50 5 ∧ u1 12 0 = u1 50 9 ∧ u1 16 0 = u1 50 13 ∧ u1 20 0 = u1 50 17) : st_all kA (st_ta kA (W0 kA h1 h2 u1 u2) rs_0_s) (wGr kA (u1 50 13) (u1 13) x0Gr a0Gr none) [3, 48, 49, 50, 51, 52, 53, 54, 55, 56, 57, 58, 59, 60] := fb_Gr_3 (st_ta_at hD 149 rfl rfl) (st_ta_at hD 150 rfl rfl) (st_ta_at hD 151 rfl rfl) (st_ta_at hD 152 rfl rfl) (st_ta_at hD 153 rfl rfl) (st_ta_at hD 154 rfl rfl) (st_ta_at hD 155 rfl rfl) (st_ta_at hD 156 rfl rfl) (st_ta_at hD 157 rfl rfl) (st_ta_at hD 158 rfl rfl) (st_ta_at hD 159 rfl rfl) (st_ta_at hD 160 rfl rfl) (st_ta_at hD 161 rfl rfl) (st_ta_at hD 162 rfl rfl)
set_option maxRecDepth 20000 in
theorem wb_14 {A : Nat → Prop} {kA : Nat → ClassId} {h1 h2 : Nat} {u1 : Nat → Nat → Nat} {u2 : Nat → Nat} (hD : va_D A (W0 kA h1 h2 u1 u2)) (hp : u1 50 1 = u1 0 4 ∧ u1 50 3 = u1 0 5 ∧ u1 50 2 = u1 1 4 ∧ u1 50 4 = u1 3 1 ∧ u1 8 0 = u1 50 5 ∧ u1 12 0 = u1 50 9 ∧ u1 16 0 = u1 50 13 ∧ u1 20 0 = u1 50 17) : st_all kA (st_ta kA (W0 kA h1 h2 u1 u2) rs_0_s) (wFa kA (u1 50 14) (u1 14) x0Fa a0Fa) [2, 37, 38, 39, 40, 41, 42, 43, 44, 45, 46, 47] := fb_Fa_2 (st_ta_at hD 163 rfl rfl) (st_ta_at hD 164 rfl rfl) (st_ta_at hD 165 rfl rfl) (st_ta_at hD 166 rfl rfl) (st_ta_at hD 167 rfl rfl) (st_ta_at hD 168 rfl rfl) (st_ta_at hD 169 rfl rfl) (st_ta_at hD 170 rfl rfl) (st_ta_at hD 171 rfl rfl) (st_ta_at hD 172 rfl rfl) (st_ta_at hD 173 rfl rfl) (st_ta_at hD 174 rfl rfl)
set_option maxRecDepth 20000 in
theorem wb_15 {A : Nat → Prop} {kA : Nat → ClassId} {h1 h2 : Nat} {u1 : Nat → Nat → Nat} {u2 : Nat → Nat} (hD : va_D A (W0 kA h1 h2 u1 u2)) (hp : u1 50 1 = u1 0 4 ∧ u1 50 3 = u1 0 5 ∧ u1 50 2 = u1 1 4 ∧ u1 50 4 = u1 3 1 ∧ u1 8 0 = u1 50 5 ∧ u1 12 0 = u1 50 9 ∧ u1 16 0 = u1 50 13 ∧ u1 20 0 = u1 50 17) : st_all kA (st_ta kA (W0 kA h1 h2 u1 u2) rs_0_s) (wNe kA (u1 50 15) (u1 15) x0Ne a0Ne) [5, 79, 80, 81, 82, 83, 84, 85, 86, 87, 88] := fb_Ne_5 (st_ta_at hD 175 rfl rfl) (st_ta_at hD 176 rfl rfl) (st_ta_at hD 177 rfl rfl) (st_ta_at hD 178 rfl rfl) (st_ta_at hD 179 rfl rfl) (st_ta_at hD 180 rfl rfl) (st_ta_at hD 181 rfl rfl) (st_ta_at hD 182 rfl rfl) (st_ta_at hD 183 rfl rfl) (st_ta_at hD 184 rfl rfl) (st_ta_at hD 185 rfl rfl)
set_option maxRecDepth 20000 in
theorem wb_16 {A : Nat → Prop} {kA : Nat → ClassId} {h1 h2 : Nat} {u1 : Nat → Nat → Nat} {u2 : Nat → Nat} (hD : va_D A (W0 kA h1 h2 u1 u2)) (hp : u1 50 1 = u1 0 4 ∧ u1 50 3 = u1 0 5 ∧ u1 50 2 = u1 1 4 ∧ u1 50 4 = u1 3 1 ∧ u1 8 0 = u1 50 5 ∧ u1 12 0 = u1 50 9 ∧ u1 16 0 = u1 50 13 ∧ u1 20 0 = u1 50 17) : st_all kA (st_ta kA (W0 kA h1 h2 u1 u2) rs_0_s) (wDr kA (u1 50 16) (u1 16) x0Dr a0Dr) [0, 14, 15, 16, 17, 18, 19, 20, 21, 22, 23, 24, 25] := fb_Dr_0 (st_ta_at hD 186 rfl rfl) (by rw [hp.2.2.2.2.2.2.1]; exact st_ta_at hD 149 rfl rfl) (st_ta_at hD 187 rfl rfl) (st_ta_at hD 188 rfl rfl) (st_ta_at hD 189 rfl rfl) (st_ta_at hD 190 rfl rfl) (st_ta_at hD 191 rfl rfl) (st_ta_at hD 192 rfl rfl) (st_ta_at hD 193 rfl rfl) (st_ta_at hD 194 rfl rfl) (st_ta_at hD 195 rfl rfl) (st_ta_at hD 196 rfl rfl) (st_ta_at hD 197 rfl rfl) (st_ta_at hD 198 rfl rfl)
set_option maxRecDepth 20000 in
theorem wb_17 {A : Nat → Prop} {kA : Nat → ClassId} {h1 h2 : Nat} {u1 : Nat → Nat → Nat} {u2 : Nat → Nat} (hD : va_D A (W0 kA h1 h2 u1 u2)) (hp : u1 50 1 = u1 0 4 ∧ u1 50 3 = u1 0 5 ∧ u1 50 2 = u1 1 4 ∧ u1 50 4 = u1 3 1 ∧ u1 8 0 = u1 50 5 ∧ u1 12 0 = u1 50 9 ∧ u1 16 0 = u1 50 13 ∧ u1 20 0 = u1 50 17) : st_all kA (st_ta kA (W0 kA h1 h2 u1 u2) rs_0_s) (wGr kA (u1 50 17) (u1 17) x0Gr a0Gr none) [3, 48, 49, 50, 51, 52, 53, 54, 55, 56, 57, 58, 59, 60] := fb_Gr_3 (st_ta_at hD 199 rfl rfl) (st_ta_at hD 200 rfl rfl) (st_ta_at hD 201 rfl rfl) (st_ta_at hD 202 rfl rfl) (st_ta_at hD 203 rfl rfl) (st_ta_at hD 204 rfl rfl) (st_ta_at hD 205 rfl rfl) (st_ta_at hD 206 rfl rfl) (st_ta_at hD 207 rfl rfl) (st_ta_at hD 208 rfl rfl) (st_ta_at hD 209 rfl rfl) (st_ta_at hD 210 rfl rfl) (st_ta_at hD 211 rfl rfl) (st_ta_at hD 212 rfl rfl)
set_option maxRecDepth 20000 in
theorem wb_18 {A : Nat → Prop} {kA : Nat → ClassId} {h1 h2 : Nat} {u1 : Nat → Nat → Nat} {u2 : Nat → Nat} (hD : va_D A (W0 kA h1 h2 u1 u2)) (hp : u1 50 1 = u1 0 4 ∧ u1 50 3 = u1 0 5 ∧ u1 50 2 = u1 1 4 ∧ u1 50 4 = u1 3 1 ∧ u1 8 0 = u1 50 5 ∧ u1 12 0 = u1 50 9 ∧ u1 16 0 = u1 50 13 ∧ u1 20 0 = u1 50 17) : st_all kA (st_ta kA (W0 kA h1 h2 u1 u2) rs_0_s) (wFa kA (u1 50 18) (u1 18) x0Fa a0Fa) [2, 37, 38, 39, 40, 41, 42, 43, 44, 45, 46, 47] := fb_Fa_2 (st_ta_at hD 213 rfl rfl) (st_ta_at hD 214 rfl rfl) (st_ta_at hD 215 rfl rfl) (st_ta_at hD 216 rfl rfl) (st_ta_at hD 217 rfl rfl) (st_ta_at hD 218 rfl rfl) (st_ta_at hD 219 rfl rfl) (st_ta_at hD 220 rfl rfl) (st_ta_at hD 221 rfl rfl) (st_ta_at hD 222 rfl rfl) (st_ta_at hD 223 rfl rfl) (st_ta_at hD 224 rfl rfl)
set_option maxRecDepth 20000 in
theorem wb_19 {A : Nat → Prop} {kA : Nat → ClassId} {h1 h2 : Nat} {u1 : Nat → Nat → Nat} {u2 : Nat → Nat} (hD : va_D A (W0 kA h1 h2 u1 u2)) (hp : u1 50 1 = u1 0 4 ∧ u1 50 3 = u1 0 5 ∧ u1 50 2 = u1 1 4 ∧ u1 50 4 = u1 3 1 ∧ u1 8 0 = u1 50 5 ∧ u1 12 0 = u1 50 9 ∧ u1 16 0 = u1 50 13 ∧ u1 20 0 = u1 50 17) : st_all kA (st_ta kA (W0 kA h1 h2 u1 u2) rs_0_s) (wNe kA (u1 50 19) (u1 19) x0Ne a0Ne) [5, 79, 80, 81, 82, 83, 84, 85, 86, 87, 88] := fb_Ne_5 (st_ta_at hD 225 rfl rfl) (st_ta_at hD 226 rfl rfl) (st_ta_at hD 227 rfl rfl) (st_ta_at hD 228 rfl rfl) (st_ta_at hD 229 rfl rfl) (st_ta_at hD 230 rfl rfl) (st_ta_at hD 231 rfl rfl) (st_ta_at hD 232 rfl rfl) (st_ta_at hD 233 rfl rfl) (st_ta_at hD 234 rfl rfl) (st_ta_at hD 235 rfl rfl)
set_option maxRecDepth 20000 in
theorem wb_20 {A : Nat → Prop} {kA : Nat → ClassId} {h1 h2 : Nat} {u1 : Nat → Nat → Nat} {u2 : Nat → Nat} (hD : va_D A (W0 kA h1 h2 u1 u2)) (hp : u1 50 1 = u1 0 4 ∧ u1 50 3 = u1 0 5 ∧ u1 50 2 = u1 1 4 ∧ u1 50 4 = u1 3 1 ∧ u1 8 0 = u1 50 5 ∧ u1 12 0 = u1 50 9 ∧ u1 16 0 = u1 50 13 ∧ u1 20 0 = u1 50 17) : st_all kA (st_ta kA (W0 kA h1 h2 u1 u2) rs_0_s) (wDr kA (u1 50 20) (u1 20) x0Dr a0Dr) [0, 14, 15, 16, 17, 18, 19, 20, 21, 22, 23, 24, 25] := fb_Dr_0 (st_ta_at hD 236 rfl rfl) (by rw [hp.2.2.2.2.2.2.2]; exact st_ta_at hD 199 rfl rfl) (st_ta_at hD 237 rfl rfl) (st_ta_at hD 238 rfl rfl) (st_ta_at hD 239 rfl rfl) (st_ta_at hD 240 rfl rfl) (st_ta_at hD 241 rfl rfl) (st_ta_at hD 242 rfl rfl) (st_ta_at hD 243 rfl rfl) (st_ta_at hD 244 rfl rfl) (st_ta_at hD 245 rfl rfl) (st_ta_at hD 246 rfl rfl) (st_ta_at hD 247 rfl rfl) (st_ta_at hD 248 rfl rfl)
set_option maxRecDepth 20000 in
theorem wb_Mo {A : Nat → Prop} {kA : Nat → ClassId} {h1 h2 : Nat} {u1 : Nat → Nat → Nat} {u2 : Nat → Nat} (hD : va_D A (W0 kA h1 h2 u1 u2)) : st_all kA (st_ta kA (W0 kA h1 h2 u1 u2) rs_0_s) [(h2, .inr (13, mF u2 x0Mo y0Mo))] [165] := fb_Mo (st_ta_at hD 249 rfl rfl) (st_ta_at hD 255 rfl rfl) (st_ta_at hD 250 rfl rfl) (st_ta_at hD 256 rfl rfl) (st_ta_at hD 257 rfl rfl) (st_ta_at hD 258 rfl rfl) (st_ta_at hD 259 rfl rfl) (st_ta_at hD 260 rfl rfl) (st_ta_at hD 261 rfl rfl) (st_ta_at hD 262 rfl rfl) (st_ta_at hD 263 rfl rfl) (st_ta_at hD 264 rfl rfl) (st_ta_at hD 265 rfl rfl) (st_ta_at hD 266 rfl rfl) (st_ta_at hD 267 rfl rfl) (st_ta_at hD 268 rfl rfl) (st_ta_at hD 269 rfl rfl) (st_ta_at hD 270 rfl rfl) (st_ta_at hD 271 rfl rfl) (st_ta_at hD 272 rfl rfl) (st_ta_at hD 273 rfl rfl) (st_ta_at hD 274 rfl rfl) (st_ta_at hD 275 rfl rfl) (st_ta_at hD 276 rfl rfl) (st_ta_at hD 277 rfl rfl) (st_ta_at hD 278 rfl rfl) (st_ta_at hD 279 rfl rfl) (st_ta_at hD 280 rfl rfl) (st_ta_at hD 281 rfl rfl) (st_ta_at hD 282 rfl rfl) (st_ta_at hD 283 rfl rfl) (st_ta_at hD 284 rfl rfl) (st_ta_at hD 285 rfl rfl) (st_ta_at hD 286 rfl rfl) (st_ta_at hD 287 rfl rfl) (st_ta_at hD 288 rfl rfl) (st_ta_at hD 289 rfl rfl) (st_ta_at hD 290 rfl rfl) (st_ta_at hD 291 rfl rfl) (st_ta_at hD 292 rfl rfl) (st_ta_at hD 293 rfl rfl) (st_ta_at hD 294 rfl rfl) (st_ta_at hD 295 rfl rfl) (st_ta_at hD 296 rfl rfl) (st_ta_at hD 297 rfl rfl) (st_ta_at hD 298 rfl rfl) (st_ta_at hD 299 rfl rfl) (st_ta_at hD 300 rfl rfl) (st_ta_at hD 301 rfl rfl) (st_ta_at hD 302 rfl rfl) (st_ta_at hD 303 rfl rfl) (st_ta_at hD 304 rfl rfl) (st_ta_at hD 305 rfl rfl) (st_ta_at hD 306 rfl rfl) (st_ta_at hD 307 rfl rfl) (st_ta_at hD 308 rfl rfl) (st_ta_at hD 309 rfl rfl) (st_ta_at hD 310 rfl rfl) (st_ta_at hD 311 rfl rfl) (st_ta_at hD 312 rfl rfl) (st_ta_at hD 313 rfl rfl) (st_ta_at hD 314 rfl rfl) (st_ta_at hD 315 rfl rfl) (st_ta_at hD 316 rfl rfl) (st_ta_at hD 317 rfl rfl) (st_ta_at hD 318 rfl rfl) (st_ta_at hD 319 rfl rfl) (st_ta_at hD 251 rfl rfl) (st_ta_at hD 320 rfl rfl) (st_ta_at hD 321 rfl rfl) (st_ta_at hD 322 rfl rfl) (st_ta_at hD 323 rfl rfl) (st_ta_at hD 324 rfl rfl) (st_ta_at hD 325 rfl rfl) (st_ta_at hD 326 rfl rfl) (st_ta_at hD 327 rfl rfl) (st_ta_at hD 328 rfl rfl) (st_ta_at hD 252 rfl rfl) (st_ta_at hD 253 rfl rfl) (st_ta_at hD 254 rfl rfl) (st_ta_at hD 329 rfl rfl) (st_ta_at hD 330 rfl rfl) (st_ta_at hD 331 rfl rfl) (st_ta_at hD 332 rfl rfl) (st_ta_at hD 333 rfl rfl) (st_ta_at hD 334 rfl rfl) (st_ta_at hD 335 rfl rfl) (st_ta_at hD 336 rfl rfl) (st_ta_at hD 337 rfl rfl) (st_ta_at hD 338 rfl rfl) (st_ta_at hD 339 rfl rfl) (st_ta_at hD 340 rfl rfl) (st_ta_at hD 341 rfl rfl) (st_ta_at hD 342 rfl rfl) (st_ta_at hD 343 rfl rfl) (st_ta_at hD 344 rfl rfl) (st_ta_at hD 345 rfl rfl) (st_ta_at hD 346 rfl rfl) (st_ta_at hD 347 rfl rfl) (st_ta_at hD 348 rfl rfl) (st_ta_at hD 349 rfl rfl) (st_ta_at hD 350 rfl rfl) (st_ta_at hD 351 rfl rfl) (st_ta_at hD 352 rfl rfl) (st_ta_at hD 353 rfl rfl) (st_ta_at hD 354 rfl rfl) (st_ta_at hD 355 rfl rfl) (st_ta_at hD 356 rfl rfl) (st_ta_at hD 357 rfl rfl) (st_ta_at hD 358 rfl rfl) (st_ta_at hD 359 rfl rfl) (st_ta_at hD 360 rfl rfl) (st_ta_at hD 361 rfl rfl) (st_ta_at hD 362 rfl rfl) (st_ta_at hD 363 rfl rfl) (st_ta_at hD 364 rfl rfl) (st_ta_at hD 365 rfl rfl) (st_ta_at hD 366 rfl rfl) (st_ta_at hD 367 rfl rfl)
set_option maxRecDepth 20000 in
theorem w0_all {A : Nat → Prop} {kA : Nat → ClassId} {h1 h2 : Nat} {u1 : Nat → Nat → Nat} {u2 : Nat → Nat} (hD : va_D A (W0 kA h1 h2 u1 u2)) (hp : u1 50 1 = u1 0 4 ∧ u1 50 3 = u1 0 5 ∧ u1 50 2 = u1 1 4 ∧ u1 50 4 = u1 3 1 ∧ u1 8 0 = u1 50 5 ∧ u1 12 0 = u1 50 9 ∧ u1 16 0 = u1 50 13 ∧ u1 20 0 = u1 50 17) : st_all kA (st_ta kA (W0 kA h1 h2 u1 u2) rs_0_s) (W0 kA h1 h2 u1 u2) rs_0_s := st_app (st_app (wb_0 hD hp) (st_app (wb_1 hD hp) (st_app (wb_2 hD hp) (st_app (wb_3 hD hp) (st_app (wb_4 hD hp) (st_app (wb_5 hD hp) (st_app (wb_6 hD hp) (st_app (wb_7 hD hp) (st_app (wb_8 hD hp) (st_app (wb_9 hD hp) (st_app (wb_10 hD hp) (st_app (wb_11 hD hp) (st_app (wb_12 hD hp) (st_app (wb_13 hD hp) (st_app (wb_14 hD hp) (st_app (wb_15 hD hp) (st_app (wb_16 hD hp) (st_app (wb_17 hD hp) (st_app (wb_18 hD hp) (st_app (wb_19 hD hp) (st_app (wb_20 hD hp) trivial))))))))))))))))))))) (st_app (st_app (wb_Mo hD) (st_app (fb_M2) (st_app (fb_M96) (st_app (fb_M110) (st_app (fb_M111) (st_app (fb_M112) (st_app (fb_Mr) trivial))))))) trivial)
theorem po_0 {A : Nat → Prop} {kA : Nat → ClassId} {h1 h2 : Nat} {u1 : Nat → Nat → Nat} {u2 : Nat → Nat} (hD : va_D A (W0 kA h1 h2 u1 u2)) : ∀ j, j < 4 → pO (W0 kA h1 h2 u1 u2) (.ref h1) 0 j = u1 50 (5 + 4 * j + 0) := fun j hj => by
  have e : w_ar (W0 kA h1 h2 u1 u2) (.ref h1) 0 = u1 0 0 := congrArg v_ad (wf_at (v := .ref (u1 0 0)) hD 0 rfl rfl)
  unfold pO
  rw [e]
  match j, hj with
  | 0, _ => rw [wr_at hD (b := u1 50 (5 + 4 * 0 + 0)) 1 rfl rfl]; exact Int.toNat_natCast _
  | 1, _ => rw [wr_at hD (b := u1 50 (5 + 4 * 1 + 0)) 1 rfl rfl]; exact Int.toNat_natCast _
  | 2, _ => rw [wr_at hD (b := u1 50 (5 + 4 * 2 + 0)) 1 rfl rfl]; exact Int.toNat_natCast _
  | 3, _ => rw [wr_at hD (b := u1 50 (5 + 4 * 3 + 0)) 1 rfl rfl]; exact Int.toNat_natCast _
  | j + 4, hj => exact absurd hj (by omega)
theorem po_1 {A : Nat → Prop} {kA : Nat → ClassId} {h1 h2 : Nat} {u1 : Nat → Nat → Nat} {u2 : Nat → Nat} (hD : va_D A (W0 kA h1 h2 u1 u2)) : ∀ j, j < 4 → pO (W0 kA h1 h2 u1 u2) (.ref h1) 1 j = u1 50 (5 + 4 * j + 1) := fun j hj => by
  have e : w_ar (W0 kA h1 h2 u1 u2) (.ref h1) 1 = u1 0 1 := congrArg v_ad (wf_at (v := .ref (u1 0 1)) hD 0 rfl rfl)
  unfold pO
  rw [e]
  match j, hj with
  | 0, _ => rw [wr_at hD (b := u1 50 (5 + 4 * 0 + 1)) 2 rfl rfl]; exact Int.toNat_natCast _
  | 1, _ => rw [wr_at hD (b := u1 50 (5 + 4 * 1 + 1)) 2 rfl rfl]; exact Int.toNat_natCast _
  | 2, _ => rw [wr_at hD (b := u1 50 (5 + 4 * 2 + 1)) 2 rfl rfl]; exact Int.toNat_natCast _
  | 3, _ => rw [wr_at hD (b := u1 50 (5 + 4 * 3 + 1)) 2 rfl rfl]; exact Int.toNat_natCast _
  | j + 4, hj => exact absurd hj (by omega)
theorem po_2 {A : Nat → Prop} {kA : Nat → ClassId} {h1 h2 : Nat} {u1 : Nat → Nat → Nat} {u2 : Nat → Nat} (hD : va_D A (W0 kA h1 h2 u1 u2)) : ∀ j, j < 4 → pO (W0 kA h1 h2 u1 u2) (.ref h1) 2 j = u1 50 (5 + 4 * j + 2) := fun j hj => by
  have e : w_ar (W0 kA h1 h2 u1 u2) (.ref h1) 2 = u1 0 2 := congrArg v_ad (wf_at (v := .ref (u1 0 2)) hD 0 rfl rfl)
  unfold pO
  rw [e]
  match j, hj with
  | 0, _ => rw [wr_at hD (b := u1 50 (5 + 4 * 0 + 2)) 3 rfl rfl]; exact Int.toNat_natCast _
  | 1, _ => rw [wr_at hD (b := u1 50 (5 + 4 * 1 + 2)) 3 rfl rfl]; exact Int.toNat_natCast _
  | 2, _ => rw [wr_at hD (b := u1 50 (5 + 4 * 2 + 2)) 3 rfl rfl]; exact Int.toNat_natCast _
  | 3, _ => rw [wr_at hD (b := u1 50 (5 + 4 * 3 + 2)) 3 rfl rfl]; exact Int.toNat_natCast _
  | j + 4, hj => exact absurd hj (by omega)
theorem po_3 {A : Nat → Prop} {kA : Nat → ClassId} {h1 h2 : Nat} {u1 : Nat → Nat → Nat} {u2 : Nat → Nat} (hD : va_D A (W0 kA h1 h2 u1 u2)) : ∀ j, j < 4 → pO (W0 kA h1 h2 u1 u2) (.ref h1) 3 j = u1 50 (5 + 4 * j + 3) := fun j hj => by
  have e : w_ar (W0 kA h1 h2 u1 u2) (.ref h1) 3 = u1 0 3 := congrArg v_ad (wf_at (v := .ref (u1 0 3)) hD 0 rfl rfl)
  unfold pO
  rw [e]
  match j, hj with
  | 0, _ => rw [wr_at hD (b := u1 50 (5 + 4 * 0 + 3)) 4 rfl rfl]; exact Int.toNat_natCast _
  | 1, _ => rw [wr_at hD (b := u1 50 (5 + 4 * 1 + 3)) 4 rfl rfl]; exact Int.toNat_natCast _
  | 2, _ => rw [wr_at hD (b := u1 50 (5 + 4 * 2 + 3)) 4 rfl rfl]; exact Int.toNat_natCast _
  | 3, _ => rw [wr_at hD (b := u1 50 (5 + 4 * 3 + 3)) 4 rfl rfl]; exact Int.toNat_natCast _
  | j + 4, hj => exact absurd hj (by omega)
theorem fg0 {A : Nat → Prop} {kA : Nat → ClassId} {h1 h2 : Nat} {u1 : Nat → Nat → Nat} {u2 : Nat → Nat} (hD : va_D A (W0 kA h1 h2 u1 u2)) : ∀ j, j < 4 → w_fd (W0 kA h1 h2 u1 u2) (u1 50 (5 + 4 * j + 0)) 0 = .int 0 := fun j hj => by
  match j, hj with
  | 0, _ => exact wf_at hD 49 rfl rfl
  | 1, _ => exact wf_at hD 99 rfl rfl
  | 2, _ => exact wf_at hD 149 rfl rfl
  | 3, _ => exact wf_at hD 199 rfl rfl
  | j + 4, hj => exact absurd hj (by omega)
theorem fg1 {A : Nat → Prop} {kA : Nat → ClassId} {h1 h2 : Nat} {u1 : Nat → Nat → Nat} {u2 : Nat → Nat} (hD : va_D A (W0 kA h1 h2 u1 u2)) : ∀ j, j < 4 → w_fd (W0 kA h1 h2 u1 u2) (u1 50 (5 + 4 * j + 0)) 1 = .int 0 := fun j hj => by
  match j, hj with
  | 0, _ => exact wf_at hD 49 rfl rfl
  | 1, _ => exact wf_at hD 99 rfl rfl
  | 2, _ => exact wf_at hD 149 rfl rfl
  | 3, _ => exact wf_at hD 199 rfl rfl
  | j + 4, hj => exact absurd hj (by omega)
theorem fg17 {A : Nat → Prop} {kA : Nat → ClassId} {h1 h2 : Nat} {u1 : Nat → Nat → Nat} {u2 : Nat → Nat} (hD : va_D A (W0 kA h1 h2 u1 u2)) : ∀ j, j < 4 → w_fd (W0 kA h1 h2 u1 u2) (u1 50 (5 + 4 * j + 0)) 17 = .int 0 := fun j hj => by
  match j, hj with
  | 0, _ => exact wf_at hD 49 rfl rfl
  | 1, _ => exact wf_at hD 99 rfl rfl
  | 2, _ => exact wf_at hD 149 rfl rfl
  | 3, _ => exact wf_at hD 199 rfl rfl
  | j + 4, hj => exact absurd hj (by omega)
theorem fg18 {A : Nat → Prop} {kA : Nat → ClassId} {h1 h2 : Nat} {u1 : Nat → Nat → Nat} {u2 : Nat → Nat} (hD : va_D A (W0 kA h1 h2 u1 u2)) : ∀ j, j < 4 → w_fd (W0 kA h1 h2 u1 u2) (u1 50 (5 + 4 * j + 0)) 18 = .int 0 := fun j hj => by
  match j, hj with
  | 0, _ => exact wf_at hD 49 rfl rfl
  | 1, _ => exact wf_at hD 99 rfl rfl
  | 2, _ => exact wf_at hD 149 rfl rfl
  | 3, _ => exact wf_at hD 199 rfl rfl
  | j + 4, hj => exact absurd hj (by omega)
theorem fg16 {A : Nat → Prop} {kA : Nat → ClassId} {h1 h2 : Nat} {u1 : Nat → Nat → Nat} {u2 : Nat → Nat} (hD : va_D A (W0 kA h1 h2 u1 u2)) : ∀ j, j < 4 → w_fd (W0 kA h1 h2 u1 u2) (u1 50 (5 + 4 * j + 0)) 16 = .null := fun j hj => by
  match j, hj with
  | 0, _ => exact wf_at hD 49 rfl rfl
  | 1, _ => exact wf_at hD 99 rfl rfl
  | 2, _ => exact wf_at hD 149 rfl rfl
  | 3, _ => exact wf_at hD 199 rfl rfl
  | j + 4, hj => exact absurd hj (by omega)
theorem fg7 {A : Nat → Prop} {kA : Nat → ClassId} {h1 h2 : Nat} {u1 : Nat → Nat → Nat} {u2 : Nat → Nat} (hD : va_D A (W0 kA h1 h2 u1 u2)) : ∀ j, j < 4 → w_fd (W0 kA h1 h2 u1 u2) (u1 50 (5 + 4 * j + 0)) 7 = .ref (u1 (5 + 4 * j + 0) 7) := fun j hj => by
  match j, hj with
  | 0, _ => exact wf_at hD 49 rfl rfl
  | 1, _ => exact wf_at hD 99 rfl rfl
  | 2, _ => exact wf_at hD 149 rfl rfl
  | 3, _ => exact wf_at hD 199 rfl rfl
  | j + 4, hj => exact absurd hj (by omega)
theorem fg8 {A : Nat → Prop} {kA : Nat → ClassId} {h1 h2 : Nat} {u1 : Nat → Nat → Nat} {u2 : Nat → Nat} (hD : va_D A (W0 kA h1 h2 u1 u2)) : ∀ j, j < 4 → w_fd (W0 kA h1 h2 u1 u2) (u1 50 (5 + 4 * j + 0)) 8 = .ref (u1 (5 + 4 * j + 0) 8) := fun j hj => by
  match j, hj with
  | 0, _ => exact wf_at hD 49 rfl rfl
  | 1, _ => exact wf_at hD 99 rfl rfl
  | 2, _ => exact wf_at hD 149 rfl rfl
  | 3, _ => exact wf_at hD 199 rfl rfl
  | j + 4, hj => exact absurd hj (by omega)
theorem fg14 {A : Nat → Prop} {kA : Nat → ClassId} {h1 h2 : Nat} {u1 : Nat → Nat → Nat} {u2 : Nat → Nat} (hD : va_D A (W0 kA h1 h2 u1 u2)) : ∀ j, j < 4 → w_fd (W0 kA h1 h2 u1 u2) (u1 50 (5 + 4 * j + 0)) 14 = .ref (u1 (5 + 4 * j + 0) 14) := fun j hj => by
  match j, hj with
  | 0, _ => exact wf_at hD 49 rfl rfl
  | 1, _ => exact wf_at hD 99 rfl rfl
  | 2, _ => exact wf_at hD 149 rfl rfl
  | 3, _ => exact wf_at hD 199 rfl rfl
  | j + 4, hj => exact absurd hj (by omega)
theorem ff0 {A : Nat → Prop} {kA : Nat → ClassId} {h1 h2 : Nat} {u1 : Nat → Nat → Nat} {u2 : Nat → Nat} (hD : va_D A (W0 kA h1 h2 u1 u2)) : ∀ j, j < 4 → w_fd (W0 kA h1 h2 u1 u2) (u1 50 (5 + 4 * j + 1)) 0 = .int 0 := fun j hj => by
  match j, hj with
  | 0, _ => exact wf_at hD 63 rfl rfl
  | 1, _ => exact wf_at hD 113 rfl rfl
  | 2, _ => exact wf_at hD 163 rfl rfl
  | 3, _ => exact wf_at hD 213 rfl rfl
  | j + 4, hj => exact absurd hj (by omega)
theorem ff4 {A : Nat → Prop} {kA : Nat → ClassId} {h1 h2 : Nat} {u1 : Nat → Nat → Nat} {u2 : Nat → Nat} (hD : va_D A (W0 kA h1 h2 u1 u2)) : ∀ j, j < 4 → w_fd (W0 kA h1 h2 u1 u2) (u1 50 (5 + 4 * j + 1)) 4 = .ref (u1 (5 + 4 * j + 1) 4) := fun j hj => by
  match j, hj with
  | 0, _ => exact wf_at hD 63 rfl rfl
  | 1, _ => exact wf_at hD 113 rfl rfl
  | 2, _ => exact wf_at hD 163 rfl rfl
  | 3, _ => exact wf_at hD 213 rfl rfl
  | j + 4, hj => exact absurd hj (by omega)
theorem ff9 {A : Nat → Prop} {kA : Nat → ClassId} {h1 h2 : Nat} {u1 : Nat → Nat → Nat} {u2 : Nat → Nat} (hD : va_D A (W0 kA h1 h2 u1 u2)) : ∀ j, j < 4 → w_fd (W0 kA h1 h2 u1 u2) (u1 50 (5 + 4 * j + 1)) 9 = .ref (u1 (5 + 4 * j + 1) 9) := fun j hj => by
  match j, hj with
  | 0, _ => exact wf_at hD 63 rfl rfl
  | 1, _ => exact wf_at hD 113 rfl rfl
  | 2, _ => exact wf_at hD 163 rfl rfl
  | 3, _ => exact wf_at hD 213 rfl rfl
  | j + 4, hj => exact absurd hj (by omega)
theorem fn0 {A : Nat → Prop} {kA : Nat → ClassId} {h1 h2 : Nat} {u1 : Nat → Nat → Nat} {u2 : Nat → Nat} (hD : va_D A (W0 kA h1 h2 u1 u2)) : ∀ j, j < 4 → w_fd (W0 kA h1 h2 u1 u2) (u1 50 (5 + 4 * j + 2)) 0 = .int (-1) := fun j hj => by
  match j, hj with
  | 0, _ => exact wf_at hD 75 rfl rfl
  | 1, _ => exact wf_at hD 125 rfl rfl
  | 2, _ => exact wf_at hD 175 rfl rfl
  | 3, _ => exact wf_at hD 225 rfl rfl
  | j + 4, hj => exact absurd hj (by omega)
theorem fn3 {A : Nat → Prop} {kA : Nat → ClassId} {h1 h2 : Nat} {u1 : Nat → Nat → Nat} {u2 : Nat → Nat} (hD : va_D A (W0 kA h1 h2 u1 u2)) : ∀ j, j < 4 → w_fd (W0 kA h1 h2 u1 u2) (u1 50 (5 + 4 * j + 2)) 3 = .int 0 := fun j hj => by
  match j, hj with
  | 0, _ => exact wf_at hD 75 rfl rfl
  | 1, _ => exact wf_at hD 125 rfl rfl
  | 2, _ => exact wf_at hD 175 rfl rfl
  | 3, _ => exact wf_at hD 225 rfl rfl
  | j + 4, hj => exact absurd hj (by omega)
theorem fn7 {A : Nat → Prop} {kA : Nat → ClassId} {h1 h2 : Nat} {u1 : Nat → Nat → Nat} {u2 : Nat → Nat} (hD : va_D A (W0 kA h1 h2 u1 u2)) : ∀ j, j < 4 → w_fd (W0 kA h1 h2 u1 u2) (u1 50 (5 + 4 * j + 2)) 7 = .ref (u1 (5 + 4 * j + 2) 7) := fun j hj => by
  match j, hj with
  | 0, _ => exact wf_at hD 75 rfl rfl
  | 1, _ => exact wf_at hD 125 rfl rfl
  | 2, _ => exact wf_at hD 175 rfl rfl
  | 3, _ => exact wf_at hD 225 rfl rfl
  | j + 4, hj => exact absurd hj (by omega)
theorem fn8 {A : Nat → Prop} {kA : Nat → ClassId} {h1 h2 : Nat} {u1 : Nat → Nat → Nat} {u2 : Nat → Nat} (hD : va_D A (W0 kA h1 h2 u1 u2)) : ∀ j, j < 4 → w_fd (W0 kA h1 h2 u1 u2) (u1 50 (5 + 4 * j + 2)) 8 = .ref (u1 (5 + 4 * j + 2) 8) := fun j hj => by
  match j, hj with
  | 0, _ => exact wf_at hD 75 rfl rfl
  | 1, _ => exact wf_at hD 125 rfl rfl
  | 2, _ => exact wf_at hD 175 rfl rfl
  | 3, _ => exact wf_at hD 225 rfl rfl
  | j + 4, hj => exact absurd hj (by omega)
theorem fn9 {A : Nat → Prop} {kA : Nat → ClassId} {h1 h2 : Nat} {u1 : Nat → Nat → Nat} {u2 : Nat → Nat} (hD : va_D A (W0 kA h1 h2 u1 u2)) : ∀ j, j < 4 → w_fd (W0 kA h1 h2 u1 u2) (u1 50 (5 + 4 * j + 2)) 9 = .ref (u1 (5 + 4 * j + 2) 9) := fun j hj => by
  match j, hj with
  | 0, _ => exact wf_at hD 75 rfl rfl
  | 1, _ => exact wf_at hD 125 rfl rfl
  | 2, _ => exact wf_at hD 175 rfl rfl
  | 3, _ => exact wf_at hD 225 rfl rfl
  | j + 4, hj => exact absurd hj (by omega)
theorem fn12 {A : Nat → Prop} {kA : Nat → ClassId} {h1 h2 : Nat} {u1 : Nat → Nat → Nat} {u2 : Nat → Nat} (hD : va_D A (W0 kA h1 h2 u1 u2)) : ∀ j, j < 4 → w_fd (W0 kA h1 h2 u1 u2) (u1 50 (5 + 4 * j + 2)) 12 = .ref (u1 (5 + 4 * j + 2) 12) := fun j hj => by
  match j, hj with
  | 0, _ => exact wf_at hD 75 rfl rfl
  | 1, _ => exact wf_at hD 125 rfl rfl
  | 2, _ => exact wf_at hD 175 rfl rfl
  | 3, _ => exact wf_at hD 225 rfl rfl
  | j + 4, hj => exact absurd hj (by omega)
theorem fn16 {A : Nat → Prop} {kA : Nat → ClassId} {h1 h2 : Nat} {u1 : Nat → Nat → Nat} {u2 : Nat → Nat} (hD : va_D A (W0 kA h1 h2 u1 u2)) : ∀ j, j < 4 → w_fd (W0 kA h1 h2 u1 u2) (u1 50 (5 + 4 * j + 2)) 16 = .ref (u1 (5 + 4 * j + 2) 16) := fun j hj => by
  match j, hj with
  | 0, _ => exact wf_at hD 75 rfl rfl
  | 1, _ => exact wf_at hD 125 rfl rfl
  | 2, _ => exact wf_at hD 175 rfl rfl
  | 3, _ => exact wf_at hD 225 rfl rfl
  | j + 4, hj => exact absurd hj (by omega)
theorem fd0 {A : Nat → Prop} {kA : Nat → ClassId} {h1 h2 : Nat} {u1 : Nat → Nat → Nat} {u2 : Nat → Nat} (hD : va_D A (W0 kA h1 h2 u1 u2)) (hp : u1 50 1 = u1 0 4 ∧ u1 50 3 = u1 0 5 ∧ u1 50 2 = u1 1 4 ∧ u1 50 4 = u1 3 1 ∧ u1 8 0 = u1 50 5 ∧ u1 12 0 = u1 50 9 ∧ u1 16 0 = u1 50 13 ∧ u1 20 0 = u1 50 17) : ∀ j, j < 4 → w_fd (W0 kA h1 h2 u1 u2) (u1 50 (5 + 4 * j + 3)) 0 = .ref (u1 50 (5 + 4 * j + 0)) := fun j hj => by
  match j, hj with
  | 0, _ => rw [wf_at (v := .ref (u1 8 0)) hD 86 rfl rfl, hp.2.2.2.2.1]
  | 1, _ => rw [wf_at (v := .ref (u1 12 0)) hD 136 rfl rfl, hp.2.2.2.2.2.1]
  | 2, _ => rw [wf_at (v := .ref (u1 16 0)) hD 186 rfl rfl, hp.2.2.2.2.2.2.1]
  | 3, _ => rw [wf_at (v := .ref (u1 20 0)) hD 236 rfl rfl, hp.2.2.2.2.2.2.2]
  | j + 4, hj => exact absurd hj (by omega)
theorem fd3 {A : Nat → Prop} {kA : Nat → ClassId} {h1 h2 : Nat} {u1 : Nat → Nat → Nat} {u2 : Nat → Nat} (hD : va_D A (W0 kA h1 h2 u1 u2)) : ∀ j, j < 4 → w_fd (W0 kA h1 h2 u1 u2) (u1 50 (5 + 4 * j + 3)) 3 = .ref (u1 (5 + 4 * j + 3) 3) := fun j hj => by
  match j, hj with
  | 0, _ => exact wf_at hD 86 rfl rfl
  | 1, _ => exact wf_at hD 136 rfl rfl
  | 2, _ => exact wf_at hD 186 rfl rfl
  | 3, _ => exact wf_at hD 236 rfl rfl
  | j + 4, hj => exact absurd hj (by omega)
theorem fd3z {A : Nat → Prop} {kA : Nat → ClassId} {h1 h2 : Nat} {u1 : Nat → Nat → Nat} {u2 : Nat → Nat} (hD : va_D A (W0 kA h1 h2 u1 u2)) : ∀ j, j < 4 → ∀ z, w_ei (W0 kA h1 h2 u1 u2) (u1 (5 + 4 * j + 3) 3) z = 0 := fun j hj z => by
  match j, hj with
  | 0, _ => rw [wz_at (f := fun _ => 0) hD 88 rfl]; rfl
  | 1, _ => rw [wz_at (f := fun _ => 0) hD 138 rfl]; rfl
  | 2, _ => rw [wz_at (f := fun _ => 0) hD 188 rfl]; rfl
  | 3, _ => rw [wz_at (f := fun _ => 0) hD 238 rfl]; rfl
  | j + 4, hj => exact absurd hj (by omega)
theorem fg14z {A : Nat → Prop} {kA : Nat → ClassId} {h1 h2 : Nat} {u1 : Nat → Nat → Nat} {u2 : Nat → Nat} (hD : va_D A (W0 kA h1 h2 u1 u2)) : ∀ j, j < 4 → ∀ z, w_ei (W0 kA h1 h2 u1 u2) (u1 (5 + 4 * j + 0) 14) z = 0 := fun j hj z => by
  match j, hj with
  | 0, _ => rw [wz_at (f := fun _ => 0) hD 61 rfl]; rfl
  | 1, _ => rw [wz_at (f := fun _ => 0) hD 111 rfl]; rfl
  | 2, _ => rw [wz_at (f := fun _ => 0) hD 161 rfl]; rfl
  | 3, _ => rw [wz_at (f := fun _ => 0) hD 211 rfl]; rfl
  | j + 4, hj => exact absurd hj (by omega)
theorem ix_0 {A : Nat → Prop} {kA : Nat → ClassId} {h1 h2 : Nat} {u1 : Nat → Nat → Nat} {u2 : Nat → Nat} (hD : va_D A (W0 kA h1 h2 u1 u2)) : ∀ j, j < 4 → ∃ e, (W0 kA h1 h2 u1 u2)[49 + 50 * j]? = some (u1 50 (5 + 4 * j + 0), e) := fun j hj => by
  match j, hj with
  | 0, _ => exact ⟨_, rfl⟩
  | 1, _ => exact ⟨_, rfl⟩
  | 2, _ => exact ⟨_, rfl⟩
  | 3, _ => exact ⟨_, rfl⟩
  | j + 4, hj => exact absurd hj (by omega)
theorem ix_0_7 {A : Nat → Prop} {kA : Nat → ClassId} {h1 h2 : Nat} {u1 : Nat → Nat → Nat} {u2 : Nat → Nat} (hD : va_D A (W0 kA h1 h2 u1 u2)) : ∀ j, j < 4 → ∃ e, (W0 kA h1 h2 u1 u2)[54 + 50 * j]? = some (u1 (5 + 4 * j + 0) 7, e) := fun j hj => by
  match j, hj with
  | 0, _ => exact ⟨_, rfl⟩
  | 1, _ => exact ⟨_, rfl⟩
  | 2, _ => exact ⟨_, rfl⟩
  | 3, _ => exact ⟨_, rfl⟩
  | j + 4, hj => exact absurd hj (by omega)
theorem ix_0_8 {A : Nat → Prop} {kA : Nat → ClassId} {h1 h2 : Nat} {u1 : Nat → Nat → Nat} {u2 : Nat → Nat} (hD : va_D A (W0 kA h1 h2 u1 u2)) : ∀ j, j < 4 → ∃ e, (W0 kA h1 h2 u1 u2)[55 + 50 * j]? = some (u1 (5 + 4 * j + 0) 8, e) := fun j hj => by
  match j, hj with
  | 0, _ => exact ⟨_, rfl⟩
  | 1, _ => exact ⟨_, rfl⟩
  | 2, _ => exact ⟨_, rfl⟩
  | 3, _ => exact ⟨_, rfl⟩
  | j + 4, hj => exact absurd hj (by omega)
theorem ix_0_14 {A : Nat → Prop} {kA : Nat → ClassId} {h1 h2 : Nat} {u1 : Nat → Nat → Nat} {u2 : Nat → Nat} (hD : va_D A (W0 kA h1 h2 u1 u2)) : ∀ j, j < 4 → ∃ e, (W0 kA h1 h2 u1 u2)[61 + 50 * j]? = some (u1 (5 + 4 * j + 0) 14, e) := fun j hj => by
  match j, hj with
  | 0, _ => exact ⟨_, rfl⟩
  | 1, _ => exact ⟨_, rfl⟩
  | 2, _ => exact ⟨_, rfl⟩
  | 3, _ => exact ⟨_, rfl⟩
  | j + 4, hj => exact absurd hj (by omega)
theorem ix_1 {A : Nat → Prop} {kA : Nat → ClassId} {h1 h2 : Nat} {u1 : Nat → Nat → Nat} {u2 : Nat → Nat} (hD : va_D A (W0 kA h1 h2 u1 u2)) : ∀ j, j < 4 → ∃ e, (W0 kA h1 h2 u1 u2)[63 + 50 * j]? = some (u1 50 (5 + 4 * j + 1), e) := fun j hj => by
  match j, hj with
  | 0, _ => exact ⟨_, rfl⟩
  | 1, _ => exact ⟨_, rfl⟩
  | 2, _ => exact ⟨_, rfl⟩
  | 3, _ => exact ⟨_, rfl⟩
  | j + 4, hj => exact absurd hj (by omega)
theorem ix_1_4 {A : Nat → Prop} {kA : Nat → ClassId} {h1 h2 : Nat} {u1 : Nat → Nat → Nat} {u2 : Nat → Nat} (hD : va_D A (W0 kA h1 h2 u1 u2)) : ∀ j, j < 4 → ∃ e, (W0 kA h1 h2 u1 u2)[64 + 50 * j]? = some (u1 (5 + 4 * j + 1) 4, e) := fun j hj => by
  match j, hj with
  | 0, _ => exact ⟨_, rfl⟩
  | 1, _ => exact ⟨_, rfl⟩
  | 2, _ => exact ⟨_, rfl⟩
  | 3, _ => exact ⟨_, rfl⟩
  | j + 4, hj => exact absurd hj (by omega)
theorem ix_1_9 {A : Nat → Prop} {kA : Nat → ClassId} {h1 h2 : Nat} {u1 : Nat → Nat → Nat} {u2 : Nat → Nat} (hD : va_D A (W0 kA h1 h2 u1 u2)) : ∀ j, j < 4 → ∃ e, (W0 kA h1 h2 u1 u2)[69 + 50 * j]? = some (u1 (5 + 4 * j + 1) 9, e) := fun j hj => by
  match j, hj with
  | 0, _ => exact ⟨_, rfl⟩
  | 1, _ => exact ⟨_, rfl⟩
  | 2, _ => exact ⟨_, rfl⟩
  | 3, _ => exact ⟨_, rfl⟩
  | j + 4, hj => exact absurd hj (by omega)
theorem ix_2 {A : Nat → Prop} {kA : Nat → ClassId} {h1 h2 : Nat} {u1 : Nat → Nat → Nat} {u2 : Nat → Nat} (hD : va_D A (W0 kA h1 h2 u1 u2)) : ∀ j, j < 4 → ∃ e, (W0 kA h1 h2 u1 u2)[75 + 50 * j]? = some (u1 50 (5 + 4 * j + 2), e) := fun j hj => by
  match j, hj with
  | 0, _ => exact ⟨_, rfl⟩
  | 1, _ => exact ⟨_, rfl⟩
  | 2, _ => exact ⟨_, rfl⟩
  | 3, _ => exact ⟨_, rfl⟩
  | j + 4, hj => exact absurd hj (by omega)
theorem ix_2_7 {A : Nat → Prop} {kA : Nat → ClassId} {h1 h2 : Nat} {u1 : Nat → Nat → Nat} {u2 : Nat → Nat} (hD : va_D A (W0 kA h1 h2 u1 u2)) : ∀ j, j < 4 → ∃ e, (W0 kA h1 h2 u1 u2)[77 + 50 * j]? = some (u1 (5 + 4 * j + 2) 7, e) := fun j hj => by
  match j, hj with
  | 0, _ => exact ⟨_, rfl⟩
  | 1, _ => exact ⟨_, rfl⟩
  | 2, _ => exact ⟨_, rfl⟩
  | 3, _ => exact ⟨_, rfl⟩
  | j + 4, hj => exact absurd hj (by omega)
theorem ix_2_8 {A : Nat → Prop} {kA : Nat → ClassId} {h1 h2 : Nat} {u1 : Nat → Nat → Nat} {u2 : Nat → Nat} (hD : va_D A (W0 kA h1 h2 u1 u2)) : ∀ j, j < 4 → ∃ e, (W0 kA h1 h2 u1 u2)[78 + 50 * j]? = some (u1 (5 + 4 * j + 2) 8, e) := fun j hj => by
  match j, hj with
  | 0, _ => exact ⟨_, rfl⟩
  | 1, _ => exact ⟨_, rfl⟩
  | 2, _ => exact ⟨_, rfl⟩
  | 3, _ => exact ⟨_, rfl⟩
  | j + 4, hj => exact absurd hj (by omega)
theorem ix_2_9 {A : Nat → Prop} {kA : Nat → ClassId} {h1 h2 : Nat} {u1 : Nat → Nat → Nat} {u2 : Nat → Nat} (hD : va_D A (W0 kA h1 h2 u1 u2)) : ∀ j, j < 4 → ∃ e, (W0 kA h1 h2 u1 u2)[79 + 50 * j]? = some (u1 (5 + 4 * j + 2) 9, e) := fun j hj => by
  match j, hj with
  | 0, _ => exact ⟨_, rfl⟩
  | 1, _ => exact ⟨_, rfl⟩
  | 2, _ => exact ⟨_, rfl⟩
  | 3, _ => exact ⟨_, rfl⟩
  | j + 4, hj => exact absurd hj (by omega)
theorem ix_2_12 {A : Nat → Prop} {kA : Nat → ClassId} {h1 h2 : Nat} {u1 : Nat → Nat → Nat} {u2 : Nat → Nat} (hD : va_D A (W0 kA h1 h2 u1 u2)) : ∀ j, j < 4 → ∃ e, (W0 kA h1 h2 u1 u2)[82 + 50 * j]? = some (u1 (5 + 4 * j + 2) 12, e) := fun j hj => by
  match j, hj with
  | 0, _ => exact ⟨_, rfl⟩
  | 1, _ => exact ⟨_, rfl⟩
  | 2, _ => exact ⟨_, rfl⟩
  | 3, _ => exact ⟨_, rfl⟩
  | j + 4, hj => exact absurd hj (by omega)
theorem ix_2_16 {A : Nat → Prop} {kA : Nat → ClassId} {h1 h2 : Nat} {u1 : Nat → Nat → Nat} {u2 : Nat → Nat} (hD : va_D A (W0 kA h1 h2 u1 u2)) : ∀ j, j < 4 → ∃ e, (W0 kA h1 h2 u1 u2)[85 + 50 * j]? = some (u1 (5 + 4 * j + 2) 16, e) := fun j hj => by
  match j, hj with
  | 0, _ => exact ⟨_, rfl⟩
  | 1, _ => exact ⟨_, rfl⟩
  | 2, _ => exact ⟨_, rfl⟩
  | 3, _ => exact ⟨_, rfl⟩
  | j + 4, hj => exact absurd hj (by omega)
theorem w0_HA {A : Nat → Prop} {kA : Nat → ClassId} {h1 h2 : Nat} {u1 : Nat → Nat → Nat} {u2 : Nat → Nat} (hD : va_D A (W0 kA h1 h2 u1 u2)) : HA (W0 kA h1 h2 u1 u2) (.ref h1) := by
  intro f hf i j hi hj hij
  have hf2 : f = 0 ∨ f = 1 ∨ f = 2 := by omega
  rcases hf2 with z0 | z0 | z0
  · rw [z0]
    have ei := po_0 hD i hi
    have ej := po_0 hD j hj
    rw [ei, ej]
    obtain ⟨e1, q1⟩ := ix_0 hD i hi
    obtain ⟨e2, q2⟩ := ix_0 hD j hj
    refine ⟨ad_ne hD q1 q2 (by omega), fun k hk d d2 g1 g2 => ?_⟩
    have hk2 : k = 7 ∨ k = 8 ∨ k = 14 ∨ k = 16 := by revert hk; show k ∈ [7, 8, 14, 16] → _; simp only [List.mem_cons, List.not_mem_nil, or_false]; exact id
    rcases hk2 with z | z | z | z
    · rw [z, fg7 hD i hi] at g1
      rw [z, fg7 hD j hj] at g2
      cases g1; cases g2
      obtain ⟨e3, q3⟩ := ix_0_7 hD i hi
      obtain ⟨e4, q4⟩ := ix_0_7 hD j hj
      exact ad_ne hD q3 q4 (by omega)
    · rw [z, fg8 hD i hi] at g1
      rw [z, fg8 hD j hj] at g2
      cases g1; cases g2
      obtain ⟨e3, q3⟩ := ix_0_8 hD i hi
      obtain ⟨e4, q4⟩ := ix_0_8 hD j hj
      exact ad_ne hD q3 q4 (by omega)
    · rw [z, fg14 hD i hi] at g1
      rw [z, fg14 hD j hj] at g2
      cases g1; cases g2
      obtain ⟨e3, q3⟩ := ix_0_14 hD i hi
      obtain ⟨e4, q4⟩ := ix_0_14 hD j hj
      exact ad_ne hD q3 q4 (by omega)
    · rw [z, fg16 hD i hi] at g1; cases g1
  · rw [z0]
    have ei := po_1 hD i hi
    have ej := po_1 hD j hj
    rw [ei, ej]
    obtain ⟨e1, q1⟩ := ix_1 hD i hi
    obtain ⟨e2, q2⟩ := ix_1 hD j hj
    refine ⟨ad_ne hD q1 q2 (by omega), fun k hk d d2 g1 g2 => ?_⟩
    have hk2 : k = 4 ∨ k = 9 := by revert hk; show k ∈ [4, 9] → _; simp only [List.mem_cons, List.not_mem_nil, or_false]; exact id
    rcases hk2 with z | z
    · rw [z, ff4 hD i hi] at g1
      rw [z, ff4 hD j hj] at g2
      cases g1; cases g2
      obtain ⟨e3, q3⟩ := ix_1_4 hD i hi
      obtain ⟨e4, q4⟩ := ix_1_4 hD j hj
      exact ad_ne hD q3 q4 (by omega)
    · rw [z, ff9 hD i hi] at g1
      rw [z, ff9 hD j hj] at g2
      cases g1; cases g2
      obtain ⟨e3, q3⟩ := ix_1_9 hD i hi
      obtain ⟨e4, q4⟩ := ix_1_9 hD j hj
      exact ad_ne hD q3 q4 (by omega)
  · rw [z0]
    have ei := po_2 hD i hi
    have ej := po_2 hD j hj
    rw [ei, ej]
    obtain ⟨e1, q1⟩ := ix_2 hD i hi
    obtain ⟨e2, q2⟩ := ix_2 hD j hj
    refine ⟨ad_ne hD q1 q2 (by omega), fun k hk d d2 g1 g2 => ?_⟩
    have hk2 : k = 7 ∨ k = 8 ∨ k = 9 ∨ k = 12 ∨ k = 16 := by revert hk; show k ∈ [7, 8, 9, 12, 16] → _; simp only [List.mem_cons, List.not_mem_nil, or_false]; exact id
    rcases hk2 with z | z | z | z | z
    · rw [z, fn7 hD i hi] at g1
      rw [z, fn7 hD j hj] at g2
      cases g1; cases g2
      obtain ⟨e3, q3⟩ := ix_2_7 hD i hi
      obtain ⟨e4, q4⟩ := ix_2_7 hD j hj
      exact ad_ne hD q3 q4 (by omega)
    · rw [z, fn8 hD i hi] at g1
      rw [z, fn8 hD j hj] at g2
      cases g1; cases g2
      obtain ⟨e3, q3⟩ := ix_2_8 hD i hi
      obtain ⟨e4, q4⟩ := ix_2_8 hD j hj
      exact ad_ne hD q3 q4 (by omega)
    · rw [z, fn9 hD i hi] at g1
      rw [z, fn9 hD j hj] at g2
      cases g1; cases g2
      obtain ⟨e3, q3⟩ := ix_2_9 hD i hi
      obtain ⟨e4, q4⟩ := ix_2_9 hD j hj
      exact ad_ne hD q3 q4 (by omega)
    · rw [z, fn12 hD i hi] at g1
      rw [z, fn12 hD j hj] at g2
      cases g1; cases g2
      obtain ⟨e3, q3⟩ := ix_2_12 hD i hi
      obtain ⟨e4, q4⟩ := ix_2_12 hD j hj
      exact ad_ne hD q3 q4 (by omega)
    · rw [z, fn16 hD i hi] at g1
      rw [z, fn16 hD j hj] at g2
      cases g1; cases g2
      obtain ⟨e3, q3⟩ := ix_2_16 hD i hi
      obtain ⟨e4, q4⟩ := ix_2_16 hD j hj
      exact ad_ne hD q3 q4 (by omega)
theorem w0_HP {A : Nat → Prop} {kA : Nat → ClassId} {h1 h2 : Nat} {u1 : Nat → Nat → Nat} {u2 : Nat → Nat} (hD : va_D A (W0 kA h1 h2 u1 u2)) : ∀ j, j < 4 → HP (W0 kA h1 h2 u1 u2) (.ref h1) j := fun j hj => by
  have e0 := po_0 hD j hj
  have e1 := po_1 hD j hj
  have e2 := po_2 hD j hj
  have i0 : fI (W0 kA h1 h2 u1 u2) (u1 50 (5 + 4 * j + 0)) 0 = 0 := by show v_iv _ = 0; rw [fg0 hD j hj]; rfl
  have i1 : fI (W0 kA h1 h2 u1 u2) (u1 50 (5 + 4 * j + 0)) 1 = 0 := by show v_iv _ = 0; rw [fg1 hD j hj]; rfl
  have i17 : fI (W0 kA h1 h2 u1 u2) (u1 50 (5 + 4 * j + 0)) 17 = 0 := by show v_iv _ = 0; rw [fg17 hD j hj]; rfl
  have i18 : fI (W0 kA h1 h2 u1 u2) (u1 50 (5 + 4 * j + 0)) 18 = 0 := by show v_iv _ = 0; rw [fg18 hD j hj]; rfl
  unfold HP
  rw [e0, e1, e2]
  refine ⟨⟨⟨_, _, _, fg7 hD j hj, fg8 hD j hj, fg14 hD j hj, ?_, ?_⟩, ?_, fun d hd => ?_, fun _ => ?_⟩, Or.inl ?_, fun _ => ?_, fun h => ?_⟩
  · rw [i0, i1]; exact fun e a b => absurd b (by omega)
  · rw [i0, i1]; exact ⟨fun u w a b => absurd b (by omega), fun e a b => absurd b (by omega), fun u w a b => absurd b (by omega)⟩
  · rw [i17, i18]; decide
  · rw [fg16 hD j hj] at hd; cases hd
  · rw [i17, i18]; rfl
  · show v_iv _ = 0; rw [ff0 hD j hj]; rfl
  · show v_iv _ = 0; rw [fn3 hD j hj]; rfl
  · have h : v_iv _ = 1 := h
    rw [fn0 hD j hj] at h
    exact absurd h (by decide)
theorem w0_HI {A : Nat → Prop} {kA : Nat → ClassId} {h1 h2 : Nat} {u1 : Nat → Nat → Nat} {u2 : Nat → Nat} (hD : va_D A (W0 kA h1 h2 u1 u2)) : HI (W0 kA h1 h2 u1 u2) (.ref h1) := ⟨w0_HA hD, fun j hj _ => w0_HP hD j hj⟩
theorem w0_HL {A : Nat → Prop} {kA : Nat → ClassId} {h1 h2 : Nat} {u1 : Nat → Nat → Nat} {u2 : Nat → Nat} (hD : va_D A (W0 kA h1 h2 u1 u2)) : HL (W0 kA h1 h2 u1 u2) (.ref h1) := fun o ho => by
  have e : w_fd (W0 kA h1 h2 u1 u2) h1 17 = .null := wf_at hD 0 rfl rfl
  have ho : w_fd (W0 kA h1 h2 u1 u2) h1 17 = .ref o := ho
  rw [e] at ho; cases ho
theorem w0_HY {A : Nat → Prop} {kA : Nat → ClassId} {h1 h2 : Nat} {u1 : Nat → Nat → Nat} {u2 : Nat → Nat} (hD : va_D A (W0 kA h1 h2 u1 u2)) (hp : u1 50 1 = u1 0 4 ∧ u1 50 3 = u1 0 5 ∧ u1 50 2 = u1 1 4 ∧ u1 50 4 = u1 3 1 ∧ u1 8 0 = u1 50 5 ∧ u1 12 0 = u1 50 9 ∧ u1 16 0 = u1 50 13 ∧ u1 20 0 = u1 50 17) {n : Int} (hn : 0 ≤ n) : HY (W0 kA h1 h2 u1 u2) (.ref h1) n := ⟨fun g hg => by
  rw [po_3 hD g hg, po_0 hD g hg]
  exact fd0 hD hp g hg, fun g hg d hd v v0 v1 => by
  rw [po_3 hD g hg, fd3 hD g hg] at hd
  cases hd
  rw [fd3z hD g hg]
  omega⟩
theorem all0_r (j : Nat) (hj : j < 4) : all0 (16709 * j) = 0 ∧ all0 (16709 * j + 1) = 0 := by
  match j, hj with
  | 0, _ => decide
  | 1, _ => decide
  | 2, _ => decide
  | 3, _ => decide
  | j + 4, hj => omega
theorem w0_RO {A : Nat → Prop} {kA : Nat → ClassId} {h1 h2 : Nat} {u1 : Nat → Nat → Nat} {u2 : Nat → Nat} (hD : va_D A (W0 kA h1 h2 u1 u2)) : ROWS (w_ei (W0 kA h1 h2 u1 u2) (u2 2)) (w_ei (W0 kA h1 h2 u1 u2) (u2 3)) (w_ei (W0 kA h1 h2 u1 u2) (u2 4)) := by
  rw [wz_at hD 250 rfl, wz_at (f := fun _ => 0) hD 256 rfl, wz_at (f := fun _ => 0) hD 257 rfl]
  intro g g0 g1
  obtain ⟨n, rfl⟩ := Int.eq_ofNat_of_zero_le g0
  obtain ⟨a0, a1⟩ := all0_r n (by omega)
  refine ⟨(show (0 : Int) ≤ (0 : Int32).toInt ∧ (0 : Int32).toInt ≤ (0 : Int32).toInt ∧ (0 : Int32).toInt ≤ 30 by decide), fun k k0 k1 => ?_⟩
  have k1 : k ≤ (0 : Int) := k1
  have hk : k = 0 := by omega
  rw [hk]
  have e0 : (all0 ((16709 * (n : Int) + 539 * 0)).toNat).toInt = 0 := by rw [show (16709 * (n : Int) + 539 * 0).toNat = 16709 * n by omega, a0]; rfl
  have e1 : (all0 ((16709 * (n : Int) + 539 * 0 + 1)).toNat).toInt = 0 := by rw [show (16709 * (n : Int) + 539 * 0 + 1).toNat = 16709 * n + 1 by omega, a1]; rfl
  unfold SG
  dsimp only
  rw [e0, e1]
  refine ⟨⟨by decide, by decide, by decide, by decide, fun i i0 i1 => ?_⟩, fun e e0 e1 => absurd e1 (by omega), fun e f e0 ef fm => absurd fm (by omega)⟩
  have i1 : i < (all0 ((16709 * (n : Int) + 539 * 0)).toNat).toInt := i1
  rw [e0] at i1
  exact absurd i1 (by omega)
theorem w0_PT {A : Nat → Prop} {kA : Nat → ClassId} {h1 h2 : Nat} {u1 : Nat → Nat → Nat} {u2 : Nat → Nat} (hD : va_D A (W0 kA h1 h2 u1 u2)) : PTB (w_ei (W0 kA h1 h2 u1 u2) (u2 110)) (w_ei (W0 kA h1 h2 u1 u2) (u2 111)) (w_ei (W0 kA h1 h2 u1 u2) (u2 112)) := by
  rw [wz_at hD 252 rfl, wz_at hD 253 rfl, wz_at hD 254 rfl]
  exact ptb_prm
set_option maxRecDepth 20000 in
theorem w0_LI {A : Nat → Prop} {kA : Nat → ClassId} {h1 h2 : Nat} {u1 : Nat → Nat → Nat} {u2 : Nat → Nat} (hD : va_D A (W0 kA h1 h2 u1 u2)) (hp : u1 50 1 = u1 0 4 ∧ u1 50 3 = u1 0 5 ∧ u1 50 2 = u1 1 4 ∧ u1 50 4 = u1 3 1 ∧ u1 8 0 = u1 50 5 ∧ u1 12 0 = u1 50 9 ∧ u1 16 0 = u1 50 13 ∧ u1 20 0 = u1 50 17) (hth : th_ok kA GG (st_ta kA (W0 kA h1 h2 u1 u2) rs_0_s) (W0 kA h1 h2 u1 u2)) : LI kA h1 h2 (u1 50 1) 0 0 (st_ta kA (W0 kA h1 h2 u1 u2) rs_0_s) (W0 kA h1 h2 u1 u2) := by
  refine ⟨hth, ⟨st_ta_at hD 0 rfl rfl, st_ta_at hD 249 rfl rfl, st_ta_at hD 9 rfl rfl, by decide⟩, ⟨12, _, List.mem_iff_getElem?.mpr ⟨0, rfl⟩, by rw [hp.1]; rfl⟩, w0_HI hD, w0_HL hD, ?_, ?_, ?_, ?_, ?_, ?_⟩
  · show HY (W0 kA h1 h2 u1 u2) (.ref h1) ((nI 0).toInt + ((2000000 : Nat) - 2000000 : Int))
    exact w0_HY hD hp (by decide)
  · show ROWS (w_ei (W0 kA h1 h2 u1 u2) (w_ar (W0 kA h1 h2 u1 u2) (.ref h2) 2)) (w_ei (W0 kA h1 h2 u1 u2) (w_ar (W0 kA h1 h2 u1 u2) (.ref h2) 3)) (w_ei (W0 kA h1 h2 u1 u2) (w_ar (W0 kA h1 h2 u1 u2) (.ref h2) 4))
    rw [show w_ar (W0 kA h1 h2 u1 u2) (.ref h2) 2 = u2 2 from congrArg v_ad (wf_at (v := .ref (u2 2)) hD 249 rfl rfl), show w_ar (W0 kA h1 h2 u1 u2) (.ref h2) 3 = u2 3 from congrArg v_ad (wf_at (v := .ref (u2 3)) hD 249 rfl rfl), show w_ar (W0 kA h1 h2 u1 u2) (.ref h2) 4 = u2 4 from congrArg v_ad (wf_at (v := .ref (u2 4)) hD 249 rfl rfl)]
    exact w0_RO hD
  · show PTB (w_ei (W0 kA h1 h2 u1 u2) (w_ar (W0 kA h1 h2 u1 u2) (.ref h2) 110)) (w_ei (W0 kA h1 h2 u1 u2) (w_ar (W0 kA h1 h2 u1 u2) (.ref h2) 111)) (w_ei (W0 kA h1 h2 u1 u2) (w_ar (W0 kA h1 h2 u1 u2) (.ref h2) 112))
    rw [show w_ar (W0 kA h1 h2 u1 u2) (.ref h2) 110 = u2 110 from congrArg v_ad (wf_at (v := .ref (u2 110)) hD 249 rfl rfl), show w_ar (W0 kA h1 h2 u1 u2) (.ref h2) 111 = u2 111 from congrArg v_ad (wf_at (v := .ref (u2 111)) hD 249 rfl rfl), show w_ar (W0 kA h1 h2 u1 u2) (.ref h2) 112 = u2 112 from congrArg v_ad (wf_at (v := .ref (u2 112)) hD 249 rfl rfl)]
    exact w0_PT hD
  · show w_fi (W0 kA h1 h2 u1 u2) (.ref (u1 50 1)) 1 = (nI 0).toInt
    exact congrArg v_iv (wf_at (v := .int 0) hD 9 rfl rfl)
  · show w_fi (W0 kA h1 h2 u1 u2) (.ref h2) 0 = (nI 0).toInt
    exact congrArg v_iv (wf_at (v := .int 0) hD 249 rfl rfl)
  · show TPR _ _ (nI 0).toInt
    refine ⟨by decide, fun j a b => ?_⟩
    have e : (nI 0).toInt = 0 := by decide
    omega
theorem sHo_kk {kA kB : Nat → ClassId} (h : ∀ k, k < 8 → kB k = kA k) (h1 : Nat) (u : Nat → Nat → Nat) : sHo kA h1 u = sHo kB h1 u := by
  unfold sHo wHo wRe wGr wEm wNe wFa wDr
  rw [h 0 (by decide), h 1 (by decide), h 2 (by decide), h 4 (by decide), h 5 (by decide), h 6 (by decide), h 7 (by decide)]
theorem sMo_kk {kA kB : Nat → ClassId} (h : ∀ k, k < 8 → kB k = kA k) (h2 : Nat) (u : Nat → Nat) : sMo kA h2 u = sMo kB h2 u := by
  unfold sMo wMr
  simp only [h 0 (by decide), h 1 (by decide), h 2 (by decide), h 3 (by decide)]

