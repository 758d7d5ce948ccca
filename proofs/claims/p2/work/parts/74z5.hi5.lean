/-- at every end a field holds a reference -/
def pa_chk (k : Nat) (PA : List sy_T) : Bool := !PA.isEmpty && PA.all (fun p => p.2.2.2.1.any (fun q => decide (q.1 = (0, k)) && (match p.1[q.2]? with | some t => decide (t.1 = 2) | none => false)))
theorem pa_ref {PQ : pq_T} {ta : Nat → Option Nat} {w : va_W} {bv : List Value} {PA : List sy_T} {PO : List fc_T} {r : Option Value} {k o : Nat} (hD : va_D (fun _ => True) w) (h : po_ok PQ ta w bv PA PO r) (hc : pa_chk k PA = true) (ho : bv[0]? = some (.ref o)) : ∃ d, w_fd w o k = .ref d := by
  unfold pa_chk at hc
  rw [Bool.and_eq_true, Bool.not_eq_true'] at hc
  rcases h.2 with h2 | ⟨p, hp, vs, h1, h2, _, _, h5, _⟩
  · rw [h2] at hc; exact absurd hc.1 (by decide)
  · obtain ⟨q, hq, hk⟩ := List.any_eq_true.mp (List.all_eq_true.mp hc.2 p hp)
    rw [Bool.and_eq_true, decide_eq_true_eq] at hk
    obtain ⟨a, ci, fs, v, m1, m2, m3, m4⟩ := h5 q hq
    rw [hk.1] at m1 m3
    have e0 : vs[0]? = some (.ref o) := by
      obtain ⟨t, rfl⟩ := h1
      rw [List.getElem?_append_left (List.getElem?_eq_some_iff.mp ho).1]; exact ho
    have m1' : vs[0]? = some (.ref a) := m1
    rw [e0] at m1'
    have ea : o = a := by injection m1' with z; injection z
    subst ea
    split at hk
    · rename_i t ht
      obtain ⟨d, _, e, _⟩ := tv_ref (h2.2 q.2 t v ht m4) (by simpa using hk.2)
      refine ⟨d, ?_⟩
      unfold w_fd
      rw [w_at_mem hD m2]
      simp only
      rw [List.getD_eq_getElem?_getD, m3, e]; rfl
    · exact absurd hk.2 (by decide)
/-- a part's answers: the names ahead of the ghosts -/
theorem al_cons {α : Type} {p : α → Prop} {a : α} {l : List α} (h1 : p a) (h2 : ∀ x ∈ l, p x) : ∀ x ∈ a :: l, p x := List.forall_mem_cons.mpr ⟨h1, h2⟩
theorem al_nil {α : Type} {p : α → Prop} : ∀ x ∈ ([] : List α), p x := fun _ h => by cases h
theorem ro_big {r : Nat} (h : ro_id r = true) : 5000 ≤ r := by
  unfold ro_id at h
  simp only [Bool.or_eq_true, Bool.and_eq_true, decide_eq_true_eq] at h
  omega
theorem ro_none {G : List rg_T} (hl : G.length ≤ 5000) : ∀ r, ro_id r = true → G[r]? = none := fun r hr => List.getElem?_eq_none (by have := ro_big hr; omega)
def S0 : Nat → Bool := fun _ => false
theorem ag_lenP {ta : Nat → Option Nat} : ∀ {ts : List tv_T} {av : List Value}, ag_ok ta ts av → av.length = ts.length
  | [], [], _ => rfl
  | _ :: _, _ :: _, h => by rw [List.length_cons, List.length_cons, ag_lenP h.2]
  | [], _ :: _, h => h.elim
  | _ :: _, [], h => h.elim
theorem gv_lenP {ta : Nat → Option Nat} {ws : va_W} {av : List Value} : ∀ {ga : ga_L} {gv : List Value}, gv_ok ta ws av ga gv → gv.length = ga.length
  | [], [], _ => rfl
  | _ :: _, _ :: _, h => by rw [List.length_cons, List.length_cons, gv_lenP h.2.2]
  | [], _ :: _, h => h.elim
  | _ :: _, [], h => h.elim
theorem ln_0 {α : Type} {l : List α} (h : l.length = 0) : l = [] := List.length_eq_zero_iff.mp h
theorem ln_s {α : Type} {l : List α} {n : Nat} (h : l.length = n + 1) : ∃ a r, l = a :: r ∧ r.length = n := by
  cases l with
  | nil => cases h
  | cons a r => exact ⟨a, r, rfl, Nat.succ.inj h⟩
theorem ln_1 {α : Type} {l : List α} (h : l.length = 1) : ∃ a, l = [a] := by
  obtain ⟨a, r, e, h2⟩ := ln_s h
  exact ⟨a, by rw [e, ln_0 h2]⟩
theorem ln_2 {α : Type} {l : List α} (h : l.length = 2) : ∃ a b, l = [a, b] := by
  obtain ⟨a, r, e1, h2⟩ := ln_s h
  obtain ⟨b, e2⟩ := ln_1 h2
  exact ⟨a, b, by rw [e1, e2]⟩
theorem ln_3 {α : Type} {l : List α} (h : l.length = 3) : ∃ a b c, l = [a, b, c] := by
  obtain ⟨a, r, e1, h2⟩ := ln_s h
  obtain ⟨b, c, e2⟩ := ln_2 h2
  exact ⟨a, b, c, by rw [e1, e2]⟩
theorem ln_4 {α : Type} {l : List α} (h : l.length = 4) : ∃ a b c d, l = [a, b, c, d] := by
  obtain ⟨a, r, e1, h2⟩ := ln_s h
  obtain ⟨b, c, d, e2⟩ := ln_3 h2
  exact ⟨a, b, c, d, by rw [e1, e2]⟩
theorem ln_5 {α : Type} {l : List α} (h : l.length = 5) : ∃ a b c d e, l = [a, b, c, d, e] := by
  obtain ⟨a, r, e1, h2⟩ := ln_s h
  obtain ⟨b, c, d, e, e2⟩ := ln_4 h2
  exact ⟨a, b, c, d, e, by rw [e1, e2]⟩
theorem ln_6 {α : Type} {l : List α} (h : l.length = 6) : ∃ a b c d e f, l = [a, b, c, d, e, f] := by
  obtain ⟨a, r, e1, h2⟩ := ln_s h
  obtain ⟨b, c, d, e, f, e2⟩ := ln_5 h2
  exact ⟨a, b, c, d, e, f, by rw [e1, e2]⟩
theorem no_ref {ta : Nat → Option Nat} {t : tv_T} {v : Value} {b : Nat} (h : tv_ok ta t v) (h0 : t.1 = 0) : v ≠ .ref b := by
  obtain ⟨x, e, _⟩ := tv_int h h0
  rw [e]; intro z; cases z
