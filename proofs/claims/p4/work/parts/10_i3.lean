/-! stOrder: its loops -/
theorem sa_0 {n m only best a : Int} {pt ph dE po dn bw : Int → Int} (ho : only = -1) (hb : best = 0) (ha : a = 0) : SA1 n m only pt ph dE po dn bw best a := Or.inl ⟨hb, ho, fun a' x y => by omega⟩
theorem sa_skip {n m only best a a' : Int} {pt ph dE po dn bw : Int → Int} (h : SA1 n m only pt ph dE po dn bw best a) (ha : a' = a + 1) (hd : dn a = 0) : SA1 n m only pt ph dE po dn bw best a' := by
  rcases h with ⟨b, ho, c⟩ | b
  · refine Or.inl ⟨b, ho, fun x x0 x1 hx => ?_⟩
    have : x ≠ a := fun e => hx (by rw [e]; exact hd)
    exact c x x0 (by omega) hx
  · exact Or.inr b
theorem sb_0 {n m only best a b : Int} {pt ph dE po dn bw : Int → Int} (h : SA1 n m only pt ph dE po dn bw best a) (hb : b = 0) : SB1 n m only pt ph dE po dn bw best a b := by
  rcases h with ⟨x, y⟩ | x
  · exact Or.inl ⟨x, y, fun b' p q => by omega⟩
  · exact Or.inr x
theorem sb_skip {n m only best a b b' : Int} {pt ph dE po dn bw : Int → Int} (h : SB1 n m only pt ph dE po dn bw best a b) (hb : b' = b + 1) (hs : b = a ∨ dn b = 0) : SB1 n m only pt ph dE po dn bw best a b' := by
  rcases h with ⟨x, y, z⟩ | x
  · refine Or.inl ⟨x, y, fun q q0 q1 q2 q3 => ?_⟩
    have : q ≠ b := fun e => by
      rcases hs with w | w
      · exact q2 (by omega)
      · exact q3 (by rw [e]; exact w)
    exact z q q0 (by omega) q2 q3
  · exact Or.inr x
theorem sb_now {n m only wm best a b b' nw : Int} {pt ph al dE po dn way bw : Int → Int} (h : SB1 n m only pt ph dE po dn bw best a b) (hb : b' = b + 1) (hS : SHP n m only wm pt ph al dE po dn way a b nw) (hw : wm = 0) (hn : nw = 1) : SB1 n m only pt ph dE po dn bw best a b' := by
  rcases h with ⟨x, y, z⟩ | x
  · refine Or.inl ⟨x, y, fun q q0 q1 q2 q3 => ?_⟩
    by_cases e : q = b
    · rw [e, ← hn]
      rcases hS with ⟨_, w⟩ | w
      · exact w
      · have := w.1; omega
    · exact z q q0 (by omega) q2 q3
  · exact Or.inr x
theorem sb_way {n m only best a b : Int} {pt ph dE po dn bw : Int → Int} (h : SB1 n m only pt ph dE po dn bw best a b) (hb : best ≠ 0) : WYG n dn bw best := by
  rcases h with ⟨x, _⟩ | x
  · exact absurd x hb
  · exact x
theorem sb_any {n m only best a b b' : Int} {pt ph dE po dn bw : Int → Int} (h : SB1 n m only pt ph dE po dn bw best a b) (hb : best ≠ 0) : SB1 n m only pt ph dE po dn bw best a b' := Or.inr (sb_way h hb)
theorem bc_way {n wm L k : Int} {dn way bw : Int → Int} (h : BC1 n wm dn way bw L k) (hk : L ≤ k) : WYG n dn bw L := by
  obtain ⟨⟨a, ⟨b1, b2⟩, c, d, e⟩, hL, f⟩ := h
  subst hL
  refine ⟨a, ⟨by rw [f 0 (by omega) (by omega)]; exact b1, by rw [f (L - 1) (by omega) (by omega)]; exact b2⟩, fun t t0 t1 => by rw [f t t0 (by omega)]; exact c t t0 t1, fun s t s0 st t1 => by rw [f s s0 (by omega), f t (by omega) (by omega)]; exact d s t s0 st t1, fun t t0 t1 => by rw [f t (by omega) (by omega)]; exact e t t0 t1⟩
theorem bc_step {n wm L k k' p v r : Int} {dn way bw bw' : Int → Int} (h : BC1 n wm dn way bw L k) (hk : k' = k + 1) (hs : st1 bw bw' p v) (hp : p = k) (hv : v = way r) (hr : r = k) : BC1 n wm dn way bw' L k' := by
  refine ⟨h.1, h.2.1, fun t t0 t1 => ?_⟩
  by_cases q : t = k
  · rw [q, (hs k (by omega)).1 hp.symm, hv, hr]
  · rw [(hs t t0).2 (by omega)]; exact h.2.2 t t0 (by omega)
theorem bc_len {n wm L k : Int} {dn way bw : Int → Int} (h : BC1 n wm dn way bw L k) : 3 ≤ L ∧ L ≤ n ∧ L = wm := by
  have := h.1.1
  have := h.2.1
  omega
theorem sa_next {n m only best a a' b : Int} {pt ph dE po dn bw : Int → Int} (h : SB1 n m only pt ph dE po dn bw best a b) (ha : a' = a + 1) (hb : n ≤ b) : SA1 n m only pt ph dE po dn bw best a' := by
  rcases h with ⟨x, ⟨ho, y⟩, z⟩ | x
  · refine Or.inl ⟨x, ho, fun q q0 q1 q2 => ?_⟩
    by_cases e : q = a
    · intro t t0 t1 t2 t3; rw [e] at t2 ⊢; exact z t t0 (by omega) t2 t3
    · exact y q q0 (by omega) q2
  · exact Or.inr x
theorem inp_of {n m R only best a : Int} {pt ph al dn dE po row bw : Int → Int} (hS : STB n m pt ph al) (hR : STR n R pt ph row) (hd : DRR n R dn row) (hD : DEM m pt ph dn dE) (hl : R < n) (h : SA1 n m only pt ph dE po dn bw best a) (ha : n ≤ a ∨ best ≠ 0) : INP n R pt ph dn row bw best := by
  rcases h with ⟨x, y⟩ | x
  · rcases ha with w | w
    · exact (ear_is hS hR hd hD hl y w).elim
    · exact absurd x w
  · exact ⟨hR, hd, x⟩
theorem dek_step {i i' p v : Int} {pt ph dn dE dE' : Int → Int} (h : DEK pt ph dn dE i) (hi : i' = i + 1) (hs : st1 dE dE' p v) (hp : p = i) (hv : (v = 0 ∧ ¬ (dn (pt i) ≠ 0 ∧ dn (ph i) ≠ 0)) ∨ (v ≠ 0 ∧ dn (pt i) ≠ 0 ∧ dn (ph i) ≠ 0)) : DEK pt ph dn dE' i' := by
  intro e a b
  by_cases q : e = i
  · rw [q] at a ⊢
    rw [(hs i a).1 hp.symm]
    rcases hv with ⟨x, y⟩ | ⟨x, y, z⟩
    · exact ⟨fun _ => y, fun _ => x⟩
    · exact ⟨fun w => absurd w x, fun w => absurd ⟨y, z⟩ w⟩
  · rw [(hs e a).2 (by omega)]; exact h e a (by omega)
