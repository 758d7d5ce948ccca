/-! stOrder, insert -/
def STB (n m : Int) (pt ph al : Int → Int) : Prop := (GOK n m pt ph ∧ ALV m al ∧ 1 ≤ m ∧ m ≤ 48 ∧ 3 ≤ n ∧ n ≤ 24) ∧ (∃ bl, isBl (JJ m pt ph al) bl ∧ ∀ e f, 0 ≤ e → e < m → 0 ≤ f → f < m → bl e = bl f) ∧ ∀ i, 0 ≤ i → i < n → ∃ e x, JJ m pt ph al e i x
def STR (n R : Int) (pt ph row : Int → Int) : Prop := (2 ≤ R ∧ R ≤ n ∧ n ≤ 24) ∧ (∀ k, 0 ≤ k → k < R → 0 ≤ row k ∧ row k < n) ∧ (∀ k l, 0 ≤ k → k < l → l < R → row k ≠ row l) ∧ (∃ k, 0 ≤ k ∧ k < R ∧ row k = pt 0) ∧ ∃ k, 0 ≤ k ∧ k < R ∧ row k = ph 0
theorem str_start {n m R p v q w : Int} {pt ph al row row1 row2 : Int → Int} (h : STB n m pt ph al) (hR : R = 2) (hs : st1 row row1 p v) (hp : p = 0) (hv : v = pt 0) (ht : st1 row1 row2 q w) (hq : q = 1) (hw : w = ph 0) : STR n R pt ph row2 := by
  have g := h.1.1.1 0 (by omega) (by have := h.1.2.2.1; omega)
  have b := h.1.2.2
  have e0 : row2 0 = pt 0 := by rw [(ht 0 (by omega)).2 (by omega), (hs 0 (by omega)).1 hp.symm, hv]
  have e1 : row2 1 = ph 0 := by rw [(ht 1 (by omega)).1 hq.symm, hw]
  refine ⟨by omega, fun k a c => ?_, fun k l a c d => ?_, ⟨0, by omega, by omega, e0⟩, 1, by omega, by omega, e1⟩
  · rcases (by omega : k = 0 ∨ k = 1) with z | z <;> subst z
    · rw [e0]; omega
    · rw [e1]; omega
  · have : k = 0 := by omega
    have : l = 1 := by omega
    subst k; subst l
    rw [e0, e1]; exact g.2.2.2.2
def ZN (dn : Int → Int) (i : Int) : Prop := ∀ j, 0 ≤ j → j < i → dn j = 0
def DNK (n : Int) (dn row : Int → Int) (k : Int) : Prop := ∀ z, 0 ≤ z → z < n → (dn z ≠ 0 ↔ ∃ t, 0 ≤ t ∧ t < k ∧ row t = z)
theorem dnk_start {n i k : Int} {dn row : Int → Int} (h : ZN dn i) (hi : n ≤ i) (hk : k = 0) : DNK n dn row k := fun z a b => ⟨fun w => absurd (h z a (by omega)) w, fun ⟨t, t0, t1, _⟩ => by omega⟩
theorem dnk_step {n k k' p v : Int} {dn dn' row : Int → Int} (h : DNK n dn row k) (hk : k' = k + 1) (k0 : 0 ≤ k) (hs : st1 dn dn' p v) (hp : p = row k) (hv : v = 1) : DNK n dn' row k' := by
  intro z a b
  by_cases q : z = p
  · rw [(hs z a).1 q, hv]
    exact ⟨fun _ => ⟨k, k0, by omega, by omega⟩, fun _ => by omega⟩
  · rw [(hs z a).2 q, h z a b]
    constructor
    · rintro ⟨t, t0, t1, t2⟩; exact ⟨t, t0, by omega, t2⟩
    · rintro ⟨t, t0, t1, t2⟩
      refine ⟨t, t0, ?_, t2⟩
      have : t ≠ k := fun e => q (by rw [← t2, e]; exact hp.symm)
      omega
def DEK (pt ph dn dE : Int → Int) (i : Int) : Prop := ∀ e, 0 ≤ e → e < i → (dE e = 0 ↔ ¬ (dn (pt e) ≠ 0 ∧ dn (ph e) ≠ 0))
def DRR (n R : Int) (dn row : Int → Int) : Prop := DNK n dn row R
def DEM (m : Int) (pt ph dn dE : Int → Int) : Prop := DEK pt ph dn dE m
theorem dem_ua {n m : Int} {pt ph al dn dE : Int → Int} (h : STB n m pt ph al) : UA m al dE := fun e a b _ => h.1.2.1 e a b
/-- a way over new nodes between two that are drawn -/
def WYG (n : Int) (dn W : Int → Int) (L : Int) : Prop := (3 ≤ L ∧ L ≤ n) ∧ (dn (W 0) ≠ 0 ∧ dn (W (L - 1)) ≠ 0) ∧ (∀ k, 0 ≤ k → k < L → 0 ≤ W k ∧ W k < n) ∧ (∀ k l, 0 ≤ k → k < l → l < L → W k ≠ W l) ∧ ∀ k, 0 < k → k + 1 < L → dn (W k) = 0
def WYM (n wm : Int) (dn way : Int → Int) : Prop := WYG n dn way wm
theorem wyg_of {n m only wm a b nw : Int} {pt ph al dE po dn way : Int → Int} (hD : DEM m pt ph dn dE) (h : SHP n m only wm pt ph al dE po dn way a b nw) (hw : wm ≠ 0) (hab : a ≠ b) (ha : dn a ≠ 0) (hb : dn b ≠ 0) (hn : nw ≠ 0) : WYM n wm dn way := by
  rcases h with ⟨z, _⟩ | h
  · exact absurd z hw
  obtain ⟨w1, w2, w3, w4, w5, w6, w7, w8⟩ := h
  have n1 : wm ≠ 1 := fun z => by rw [z, show (1 : Int) - 1 = 0 by omega, w3] at w4; exact hab w4
  have n2 : wm ≠ 2 := fun z => by
    rw [z, show (2 : Int) - 1 = 1 by omega] at w4
    obtain ⟨e, j, g⟩ := w7 0 (by omega) (by omega)
    rw [w3, show (0 : Int) + 1 = 1 by omega, w4] at j
    have := (hD e j.1 j.2.1).1 g.1
    rcases j.2.2.2 with ⟨q1, q2⟩ | ⟨q1, q2⟩
    · rw [q1, q2] at this; exact this ⟨ha, hb⟩
    · rw [q1, q2] at this; exact this ⟨hb, ha⟩
  refine ⟨⟨by omega, w2⟩, ⟨by rw [w3]; exact ha, by rw [w4]; exact hb⟩, w5, w6, fun k k0 k1 => ?_⟩
  rcases w8 k k0 k1 with q | q
  · exact absurd q hn
  · exact q
/-- no way yet -/
def NOA (n m only : Int) (pt ph dE po dn : Int → Int) (a : Int) : Prop := only = -1 ∧ ∀ a', 0 ≤ a' → a' < a → dn a' ≠ 0 → ∀ b, 0 ≤ b → b < n → b ≠ a' → dn b ≠ 0 → NOW n m only pt ph dE po dn a' b 1
def NOB (n m only : Int) (pt ph dE po dn : Int → Int) (a b : Int) : Prop := ∀ b', 0 ≤ b' → b' < b → b' ≠ a → dn b' ≠ 0 → NOW n m only pt ph dE po dn a b' 1
def SA1 (n m only : Int) (pt ph dE po dn bw : Int → Int) (best a : Int) : Prop := (best = 0 ∧ NOA n m only pt ph dE po dn a) ∨ WYG n dn bw best
def SB1 (n m only : Int) (pt ph dE po dn bw : Int → Int) (best a b : Int) : Prop := (best = 0 ∧ NOA n m only pt ph dE po dn a ∧ NOB n m only pt ph dE po dn a b) ∨ WYG n dn bw best
def BC1 (n wm : Int) (dn way bw : Int → Int) (L k : Int) : Prop := WYG n dn way wm ∧ L = wm ∧ ∀ t, 0 ≤ t → t < k → bw t = way t
theorem ear_is {n m R only a : Int} {pt ph al dn dE po row : Int → Int} (hS : STB n m pt ph al) (hR : STR n R pt ph row) (hd : DRR n R dn row) (hD : DEM m pt ph dn dE) (hl : R < n) (hN : NOA n m only pt ph dE po dn a) (ha : n ≤ a) : False := by
  obtain ⟨⟨hg, hal, m1, m48, n3, n24⟩, ⟨bl, hB, h1⟩, hE⟩ := hS
  obtain ⟨ho, hN⟩ := hN
  subst ho
  -- a node that is not drawn
  have ex : ∃ z, 0 ≤ z ∧ z < n ∧ dn z = 0 := Classical.byContradiction (fun w => by
    have := rw_len (L := n) (M := R) (R := fun z => Classical.choose (p := fun t => (0 ≤ z ∧ z < n → 0 ≤ t ∧ t < R ∧ row t = z)) (by
      by_cases q : 0 ≤ z ∧ z < n
      · have nz : dn z ≠ 0 := fun e => w ⟨z, q.1, q.2, e⟩
        obtain ⟨t, t0, t1, t2⟩ := (hd z q.1 q.2).1 nz
        exact ⟨t, fun _ => ⟨t0, t1, t2⟩⟩
      · exact ⟨0, fun v => absurd v q⟩)) (by have := hR.1; omega) (fun z a b => by
        have c := Classical.choose_spec (p := fun t => (0 ≤ z ∧ z < n → 0 ≤ t ∧ t < R ∧ row t = z)) (by
          by_cases q : 0 ≤ z ∧ z < n
          · have nz : dn z ≠ 0 := fun e => w ⟨z, q.1, q.2, e⟩
            obtain ⟨t, t0, t1, t2⟩ := (hd z q.1 q.2).1 nz
            exact ⟨t, fun _ => ⟨t0, t1, t2⟩⟩
          · exact ⟨0, fun v => absurd v q⟩) ⟨a, b⟩
        exact ⟨c.1, c.2.1⟩) (fun y z a b c e => by
        have c1 := Classical.choose_spec (p := fun t => (0 ≤ y ∧ y < n → 0 ≤ t ∧ t < R ∧ row t = y)) (by
          by_cases q : 0 ≤ y ∧ y < n
          · have nz : dn y ≠ 0 := fun e => w ⟨y, q.1, q.2, e⟩
            obtain ⟨t, t0, t1, t2⟩ := (hd y q.1 q.2).1 nz
            exact ⟨t, fun _ => ⟨t0, t1, t2⟩⟩
          · exact ⟨0, fun v => absurd v q⟩) ⟨a, by omega⟩
        have c2 := Classical.choose_spec (p := fun t => (0 ≤ z ∧ z < n → 0 ≤ t ∧ t < R ∧ row t = z)) (by
          by_cases q : 0 ≤ z ∧ z < n
          · have nz : dn z ≠ 0 := fun e => w ⟨z, q.1, q.2, e⟩
            obtain ⟨t, t0, t1, t2⟩ := (hd z q.1 q.2).1 nz
            exact ⟨t, fun _ => ⟨t0, t1, t2⟩⟩
          · exact ⟨0, fun v => absurd v q⟩) ⟨by omega, c⟩
        have := c1.2.2
        have := c2.2.2
        rw [e] at c1
        omega)
    omega)
  obtain ⟨z, z0, z1, z2⟩ := ex
  obtain ⟨e1, z', j1⟩ := hE z z0 z1
  have j0 : JJ m pt ph al 0 (pt 0) (ph 0) := ⟨by omega, by omega, hal 0 (by omega) (by omega), Or.inl ⟨rfl, rfl⟩⟩
  have g0 := hg.1 0 (by omega) (by omega)
  obtain ⟨_, _, _, ⟨k1, a1, a2, a3⟩, k2, b1, b2, b3⟩ := hR
  have d1 : dn (pt 0) ≠ 0 := (hd _ g0.1 g0.2.1).2 ⟨k1, a1, a2, a3⟩
  have d2 : dn (ph 0) ≠ 0 := (hd _ g0.2.2.1 g0.2.2.2.1).2 ⟨k2, b1, b2, b3⟩
  obtain ⟨p, q, npq, hp, hq, hL⟩ := ear_lem (D := fun w => 0 ≤ w ∧ w < n → dn w ≠ 0) JJ_sym JJ_uni (JJ_irr (al := al) hg) hB (fun e f u v u' v' k l => h1 e f k.1 k.2.1 l.1 l.2.1) j0 (fun _ => d1) (fun _ => d2) j1 (fun w => w ⟨z0, z1⟩ z2)
  -- p and q lie among the nodes, else their sets hold nothing
  by_cases pin : 0 ≤ p ∧ p < n
  · by_cases qin : 0 ≤ q ∧ q < n
    · obtain ⟨L, lb, la, cl⟩ := hN p pin.1 (by omega) (hp pin) q qin.1 qin.2 (fun e => npq e.symm) (hq qin)
      refine la (hL L (fun i j k hk nd hi hj Lj => ?_) lb)
      have r := JJ_rng hg hk
      refine cl i j r.1 r.2.1 r.2.2.1 r.2.2.2 ⟨k, hk.1, hk.2.1, ⟨(hD k hk.1 hk.2.1).2 (fun w => nd ?_), Or.inl (by omega)⟩, hk.2.2.2⟩ ⟨?_, ?_⟩ Lj
      · rcases hk.2.2.2 with ⟨q1, q2⟩ | ⟨q1, q2⟩
        · rw [q1, q2] at w; exact ⟨fun _ => w.1, fun _ => w.2⟩
        · rw [q1, q2] at w; exact ⟨fun _ => w.2, fun _ => w.1⟩
      · rcases hj with e | e
        · exact Or.inr (Or.inl e)
        · exact Or.inr (Or.inr (Classical.byContradiction (fun w => e (fun _ => w))))
      · rcases hi with e | e
        · exact Or.inr (Or.inl e)
        · exact Or.inr (Or.inr (Classical.byContradiction (fun w => e (fun _ => w))))
    · have := hL (fun w => w = q) (fun i j k hk _ _ _ e => by have r := JJ_rng hg hk; rw [e] at r; exact absurd ⟨r.2.2.1, r.2.2.2⟩ qin) rfl
      exact npq this
  · have := hL (fun w => w ≠ p) (fun i j k hk _ _ _ _ e => by have r := JJ_rng hg hk; rw [e] at r; exact absurd ⟨r.1, r.2.1⟩ pin) (fun e => npq e.symm)
    exact this rfl
