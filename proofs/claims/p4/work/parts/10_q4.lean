/-! the flow that earns the gaps of layers: a ring that earns something lets the sum of flows grow, and the sum is bounded -/
def LWB (fr to' rm gn : Int → Int) (e : Int) : Prop := fr (4 * e + 1) = to' (4 * e) ∧ to' (4 * e + 1) = fr (4 * e) ∧ fr (4 * e + 2) = fr (4 * e) ∧ to' (4 * e + 2) = to' (4 * e) ∧ fr (4 * e + 3) = to' (4 * e) ∧ to' (4 * e + 3) = fr (4 * e) ∧ gn (4 * e) = 0 ∧ gn (4 * e + 1) = 0 ∧ gn (4 * e + 2) = 1 ∧ gn (4 * e + 3) = -1 ∧ 0 ≤ rm (4 * e) ∧ 0 ≤ rm (4 * e + 1) ∧ rm (4 * e) + rm (4 * e + 1) ≤ 18 ∧ 0 ≤ rm (4 * e + 2) ∧ 0 ≤ rm (4 * e + 3) ∧ rm (4 * e + 2) + rm (4 * e + 3) = 1000000000
def lwW (fr to' rm h : Int → Int) (e : Int) : Int := (rm (4 * e) - rm (4 * e + 1) - 2 * rm (4 * e + 3)) * (h (to' (4 * e)) - h (fr (4 * e)))
def lwF (rm : Int → Int) (e : Int) : Int := rm (4 * e + 3)
def LWH (n m : Int) (fr to' h : Int → Int) : Prop := (∀ v, 0 ≤ v → v < n → 0 ≤ h v ∧ h v ≤ 23) ∧ ∀ e, 0 ≤ e → e < m → 1 ≤ h (to' (4 * e)) - h (fr (4 * e))
def FLV (n a : Int) (fr to' rm gn : Int → Int) (K : Int) : Prop := NWL n a fr to' gn ∧ a % 4 = 0 ∧ (∀ e, 0 ≤ e → e < a / 4 → LWB fr to' rm gn e) ∧ ∃ h : Int → Int, LWH n (a / 4) fr to' h ∧ sm (lwW fr to' rm h) (a / 4) = 0 ∧ K ≤ sm (lwF rm) (a / 4)
theorem lw_term {P F D : Int} (p1 : P ≤ 18) (f0 : 0 ≤ F) (d0 : 1 ≤ D) (d1 : D ≤ 23) : (P - 2 * F) * D ≤ 414 - 2 * F := by
  have : D = 1 ∨ D = 2 ∨ D = 3 ∨ D = 4 ∨ D = 5 ∨ D = 6 ∨ D = 7 ∨ D = 8 ∨ D = 9 ∨ D = 10 ∨ D = 11 ∨ D = 12 ∨ D = 13 ∨ D = 14 ∨ D = 15 ∨ D = 16 ∨ D = 17 ∨ D = 18 ∨ D = 19 ∨ D = 20 ∨ D = 21 ∨ D = 22 ∨ D = 23 := by omega
  rcases this with e | e | e | e | e | e | e | e | e | e | e | e | e | e | e | e | e | e | e | e | e | e | e <;> subst e <;> omega
theorem flv_few {n a : Int} {fr to' rm gn : Int → Int} {K : Int} (h : FLV n a fr to' rm gn K) : K ≤ 9936 := by
  obtain ⟨h1, h2, h3, h, h4, h5, h6⟩ := h
  have hm : 0 ≤ a / 4 := by have := h1.2.2.1; omega
  have hm2 : a / 4 ≤ 48 := by have := h1.2.2.2.1; omega
  have t : sm (lwW fr to' rm h) (a / 4) ≤ sm (fun e => 414 - 2 * lwF rm e) (a / 4) := sm_mono (fun e e0 e1 => by
    have b := h3 e e0 e1
    obtain ⟨b1, b2, b3, b4, b5, b6, b7, b8, b9, b10, b11, b12, b13, b14, b15, b16⟩ := b
    have d := h4.2 e e0 e1
    have f := h1.2.2.2.2 (4 * e) (by omega) (by omega)
    have d2 := h4.1 _ f.1 f.2.1
    have d3 := h4.1 _ f.2.2.1 f.2.2.2.1
    exact lw_term (P := rm (4 * e) - rm (4 * e + 1)) (F := rm (4 * e + 3)) (by omega) b15 d (by omega))
  have u : sm (fun e => 414 - 2 * lwF rm e) (a / 4) = 414 * (a / 4) + (-2) * sm (lwF rm) (a / 4) := by
    rw [sm_add2 (f := fun _ => 414) (g := fun e => (-2) * lwF rm e) (fun j _ _ => by omega), sm_mul (f := lwF rm) (c := -2) (fun j _ _ => rfl)]
    have := smrg (f := fun _ => (414 : Int)) (lo := 414) (hi := 414) hm (fun j _ _ => ⟨Int.le_refl _, Int.le_refl _⟩)
    omega
  omega
/-- a ring: its nodes and arcs -/
def RGL (n a : Int) (fr to' gn by' : Int → Int) (st : Int) : Prop := 0 ≤ st ∧ st < n ∧ RNG fr by' st ∧ SRPOS n fr gn by' ∧ ∀ w, 0 ≤ w → w < n → by' w ≠ -1 → 0 ≤ by' w ∧ by' w < a ∧ to' (by' w) = w
def NBK (fr by' : Int → Int) (st : Int) (k : Nat) : Prop := ∀ j : Nat, 0 < j → j ≤ k → srp fr by' st j ≠ st
theorem ring_inj {fr by' : Int → Int} {st : Int} (h : RNG fr by' st) {i j : Nat} (ij : i < j) (hj : NBK fr by' st j) : srp fr by' st i ≠ srp fr by' st j := by
  obtain ⟨L, hL, e, h2, h3⟩ := h
  intro e2
  have jL : j < L := by
    refine Classical.byContradiction fun c => ?_
    exact hj L hL (by omega) e
  have e3 := srp_add fr by' st i (L - j)
  have e4 := srp_add fr by' st j (L - j)
  rw [show j + (L - j) = L by omega, e] at e4
  rw [e2, e4] at e3
  exact h3 (i + (L - j)) (by omega) (by omega) e3.symm
theorem rgl_rng {n a : Int} {fr to' gn by' : Int → Int} {st : Int} (hw : NWL n a fr to' gn) (h : RGL n a fr to' gn by' st) : ∀ i : Nat, 0 ≤ srp fr by' st i ∧ srp fr by' st i < n ∧ 0 ≤ by' (srp fr by' st i) ∧ by' (srp fr by' st i) < a ∧ to' (by' (srp fr by' st i)) = srp fr by' st i := by
  have hb := rng_all h.2.2.1
  intro i
  induction i with
  | zero =>
    have := hb 0
    have := h.2.2.2.2 st h.1 h.2.1 (by have e : srp fr by' st 0 = st := rfl; rw [e] at this; omega)
    exact ⟨h.1, h.2.1, this⟩
  | succ i ih =>
    obtain ⟨_, _, i3, i4, _⟩ := ih
    have f := hw.2.2.2.2 _ i3 i4
    have b := hb (i + 1)
    have := h.2.2.2.2 (srp fr by' st (i + 1)) f.1 f.2.1 (by omega)
    exact ⟨f.1, f.2.1, this⟩
theorem nbk_few {n a : Int} {fr to' gn by' : Int → Int} {st : Int} (hw : NWL n a fr to' gn) (h : RGL n a fr to' gn by' st) {k : Nat} (hk : NBK fr by' st k) : (k : Int) < n := by
  have := inj_le (n := n) (f := srp fr by' st) (N := k + 1) hw.1 (fun i _ => ⟨(rgl_rng hw h i).1, (rgl_rng hw h i).2.1⟩) (fun i j ij hj => ring_inj h.2.2.1 ij (fun q q0 q1 => hk q q0 (by omega)))
  omega
/-- the first loop: the least room so far -/
def SL1 (n a : Int) (fr to' rm gn by' : Int → Int) (st v k x : Int) : Prop := RGL n a fr to' gn by' st ∧ 0 ≤ k ∧ v = srp fr by' st k.toNat ∧ NBK fr by' st k.toNat ∧ 1 ≤ x ∧ x ≤ 1000000000 ∧ (∀ w, 0 ≤ w → w < n → by' w ≠ -1 → 0 < rm (by' w)) ∧ ∀ j : Nat, j < k.toNat → x ≤ rm (by' (srp fr by' st j))
def SLX (n a : Int) (fr to' rm gn by' : Int → Int) (st x : Int) : Prop := RGL n a fr to' gn by' st ∧ 1 ≤ x ∧ x ≤ 1000000000 ∧ ∀ j : Nat, NBK fr by' st j → x ≤ rm (by' (srp fr by' st j))
theorem sl1_start {n a : Int} {fr to' rm gn by' : Int → Int} {st v k x : Int} (h : RSW n a fr to' rm gn by') (hr : RNG fr by' st) (s0 : 0 ≤ st) (s1 : st < n) (hv : v = st) (hk : k = 0) (hx : x = 1000000000) : SL1 n a fr to' rm gn by' st v k x := by
  subst hk hv
  exact ⟨⟨s0, s1, hr, h.2.1, fun w a b c => ⟨(h.2.2 w a b c).1, (h.2.2 w a b c).2.1, (h.2.2 w a b c).2.2.1⟩⟩, by omega, rfl, fun j j0 j1 => by omega, by omega, by omega, fun w a b c => (h.2.2 w a b c).2.2.2, fun j hj => by omega⟩
theorem sl1_by {n a : Int} {fr to' rm gn by' : Int → Int} {st v k x : Int} (hw : NWL n a fr to' gn) (h : SL1 n a fr to' rm gn by' st v k x) : 0 ≤ by' v ∧ by' v < a ∧ 0 ≤ v ∧ v < n ∧ 1 ≤ rm (by' v) := by
  obtain ⟨h1, h2, h3, h4, h5, h6, h7, h8⟩ := h
  have := rgl_rng hw h1 k.toNat
  rw [← h3] at this
  have := h7 v this.1 this.2.1 (by omega)
  omega
theorem sl1_step {n a : Int} {fr to' rm gn by' : Int → Int} {st v k x v' k' x' : Int} (h : SL1 n a fr to' rm gn by' st v k x) (hw : NWL n a fr to' gn) (hv : v' = fr (by' v)) (hk : k' = k + 1) (hx : x' ≤ x) (hx1 : x' ≤ rm (by' v)) (hx2 : 1 ≤ x') (hs : v' ≠ st) : SL1 n a fr to' rm gn by' st v' k' x' := by
  have hb := sl1_by hw h
  obtain ⟨h1, h2, h3, h4, h5, h6, h7, h8⟩ := h
  have eK : k'.toNat = k.toNat + 1 := by omega
  have ev : v' = srp fr by' st (k.toNat + 1) := by rw [hv, h3]; rfl
  refine ⟨h1, by omega, by rw [eK]; exact ev, fun j j0 j1 => ?_, by omega, by omega, h7, fun j hj => ?_⟩
  · by_cases e : j = k.toNat + 1
    · rw [e, ← ev]; exact hs
    · exact h4 j j0 (by omega)
  · by_cases e : j = k.toNat
    · rw [e, ← h3]; exact hx1
    · have := h8 j (by omega); omega
theorem sl1_few {n a : Int} {fr to' rm gn by' : Int → Int} {st v k x : Int} (hw : NWL n a fr to' gn) (h : SL1 n a fr to' rm gn by' st v k x) : k < n := by
  have := nbk_few hw h.1 h.2.2.2.1
  have := h.2.1
  omega
theorem slx_of {n a : Int} {fr to' rm gn by' : Int → Int} {st v k x v' x' : Int} (h : SL1 n a fr to' rm gn by' st v k x) (hw : NWL n a fr to' gn) (hv : v' = fr (by' v)) (hx : x' ≤ x) (hx1 : x' ≤ rm (by' v)) (hx2 : 1 ≤ x') (hs : v' = st) : SLX n a fr to' rm gn by' st x' := by
  have hb := sl1_by hw h
  obtain ⟨h1, h2, h3, h4, h5, h6, h7, h8⟩ := h
  refine ⟨h1, by omega, by omega, fun j hj => ?_⟩
  have ev : st = srp fr by' st (k.toNat + 1) := by
    have : srp fr by' st (k.toNat + 1) = fr (by' (srp fr by' st k.toNat)) := rfl
    rw [this, ← h3, ← hv]; exact hs.symm
  have jk : j ≤ k.toNat := Classical.byContradiction fun c => hj (k.toNat + 1) (by omega) (by omega) ev.symm
  by_cases e : j = k.toNat
  · rw [e, ← h3]; exact hx1
  · have := h8 j (by omega); omega
/-- the second loop: so far sent -/
def FLP (n a : Int) (fr to' rm gn by' : Int → Int) (st v i x K : Int) : Prop := RGL n a fr to' gn by' st ∧ NWL n a fr to' gn ∧ 0 ≤ i ∧ 1 ≤ x ∧ x ≤ 1000000000 ∧ v = srp fr by' st i.toNat ∧ NBK fr by' st i.toNat ∧ (∀ j : Nat, i.toNat ≤ j → NBK fr by' st j → x ≤ rm (by' (srp fr by' st j))) ∧ a % 4 = 0 ∧ (∀ e, 0 ≤ e → e < a / 4 → LWB fr to' rm gn e) ∧ ∃ h : Int → Int, LWH n (a / 4) fr to' h ∧ sm (lwW fr to' rm h) (a / 4) = -(2 * x * (h st - h v)) ∧ K + x * srg fr gn by' st i.toNat ≤ sm (lwF rm) (a / 4)
theorem flp_start {n a : Int} {fr to' rm gn by' : Int → Int} {st v i x K : Int} (g : SLX n a fr to' rm gn by' st x) (hf : FLV n a fr to' rm gn K) (hv : v = st) (hi : i = 0) : FLP n a fr to' rm gn by' st v i x K := by
  obtain ⟨h1, h2, h3, h, h4, h5, h6⟩ := hf
  obtain ⟨g1, g2, g3, g4⟩ := g
  subst hi hv
  refine ⟨g1, h1, by omega, g2, g3, rfl, fun j j0 j1 => by omega, fun j _ hj => g4 j hj, h2, h3, h, h4, ?_, ?_⟩
  · rw [h5, Int.sub_self, Int.mul_zero]; rfl
  · show K + x * 0 ≤ _
    rw [Int.mul_zero]; omega
theorem flp_few {n a : Int} {fr to' rm gn by' : Int → Int} {st v i x K : Int} (h : FLP n a fr to' rm gn by' st v i x K) : i < n := by
  have := nbk_few h.2.1 h.1 h.2.2.2.2.2.2.1
  have := h.2.2.1
  omega
theorem flp_by {n a : Int} {fr to' rm gn by' : Int → Int} {st v i x K : Int} (h : FLP n a fr to' rm gn by' st v i x K) : 0 ≤ v ∧ v < n ∧ 0 ≤ by' v ∧ by' v < a ∧ to' (by' v) = v ∧ x ≤ rm (by' v) ∧ 1 ≤ x ∧ x ≤ 1000000000 := by
  obtain ⟨h1, h2, h3, h4, h5, h6, h7, h8, _⟩ := h
  have q := rgl_rng h2 h1 i.toNat
  have := h8 i.toNat (Nat.le_refl _) h7
  rw [← h6] at q this
  exact ⟨q.1, q.2.1, q.2.2.1, q.2.2.2.1, q.2.2.2.2, this, h4, h5⟩
/-- rooms stay low -/
theorem flp_room {n a : Int} {fr to' rm gn by' : Int → Int} {st v i x K b : Int} (h : FLP n a fr to' rm gn by' st v i x K) (b0 : 0 ≤ b) (b1 : b < a) : 0 ≤ rm b ∧ rm b ≤ 1000000000 := by
  obtain ⟨h1, h2, h3, h4, h5, h6, h7, h8, h9, h10, _⟩ := h
  obtain ⟨c1, c2, c3, c4, c5, c6, c7, c8, c9, c10, c11, c12, c13, c14, c15, c16⟩ := h10 (b / 4) (by omega) (by omega)
  have : b = 4 * (b / 4) ∨ b = 4 * (b / 4) + 1 ∨ b = 4 * (b / 4) + 2 ∨ b = 4 * (b / 4) + 3 := by omega
  rcases this with e | e | e | e <;> rw [e] <;> omega
theorem mul_two3 (x p q r : Int) : -(2 * x * (p - q)) - 2 * x * (q - r) = -(2 * x * (p - r)) := by
  rw [Int.mul_sub, Int.mul_sub, Int.mul_sub]; omega
theorem flp_step {n a : Int} {fr to' rm rm1 rm2 gn by' : Int → Int} {st v i x K b c y z v' i' : Int} (h : FLP n a fr to' rm gn by' st v i x K) (eb : b = by' v) (s1 : st1 rm rm1 b y) (ey : y = rm b - x) (ec : c = if b % 2 = 0 then b + 1 else b - 1) (s2 : st1 rm1 rm2 c z) (ez : z = rm1 c + x) (hv : v' = fr (by' v)) (hi : i' = i + 1) :
    (v' ≠ st → FLP n a fr to' rm2 gn by' st v' i' x K) ∧ (v' = st → FLV n a fr to' rm2 gn (K + 1)) := by
  obtain ⟨b0, b1, b2, b3, b4, b5, b6, b7⟩ := flp_by h
  obtain ⟨h1, h2, h3, h4, h5, h6, h7, h8, h9, h10, hh, h11, h12, h13⟩ := h
  rw [← eb] at b2 b3 b4 b5
  have c0 : 0 ≤ c := by rw [ec]; split <;> omega
  have cb : c ≠ b := by rw [ec]; split <;> omega
  have rb : rm2 b = rm b - x := by rw [(s2 b b2).2 (fun e => cb e.symm), (s1 b b2).1 rfl, ey]
  have rc : rm2 c = rm c + x := by rw [(s2 c c0).1 rfl, ez, (s1 c c0).2 cb]
  have ro : ∀ k, 0 ≤ k → k ≠ b → k ≠ c → rm2 k = rm k := fun k k0 k1 k2 => by rw [(s2 k k0).2 k2, (s1 k k0).2 k1]
  obtain ⟨e, he⟩ : ∃ e, e = b / 4 := ⟨_, rfl⟩
  have e0 : 0 ≤ e := by omega
  have e1 : e < a / 4 := by omega
  have other : ∀ q, 0 ≤ q → q ≠ e → rm2 (4 * q) = rm (4 * q) ∧ rm2 (4 * q + 1) = rm (4 * q + 1) ∧ rm2 (4 * q + 2) = rm (4 * q + 2) ∧ rm2 (4 * q + 3) = rm (4 * q + 3) := fun q q0 q1 => by
    have hc : c / 4 = e := by rw [ec]; split <;> omega
    refine ⟨ro _ (by omega) (by omega) (by omega), ro _ (by omega) (by omega) (by omega), ro _ (by omega) (by omega) (by omega), ro _ (by omega) (by omega) (by omega)⟩
  obtain ⟨d1, d2, d3, d4, d5, d6, d7, d8, d9, d10, d11, d12, d13, d14, d15, d16⟩ := h10 e e0 e1
  have cases4 : b = 4 * e ∨ b = 4 * e + 1 ∨ b = 4 * e + 2 ∨ b = 4 * e + 3 := by omega
  have fv : v' = fr b := by rw [hv, eb]
  -- the block itself, its part of the two sums
  have blk : LWB fr to' rm2 gn e ∧ lwW fr to' rm2 hh e - lwW fr to' rm hh e = -(2 * x * (hh v - hh v')) ∧ lwF rm2 e - lwF rm e = x * gn b := by
    unfold LWB lwW lwF
    rcases cases4 with q | q | q | q
    · have ec' : c = 4 * e + 1 := by rw [ec, if_pos (by omega)]; omega
      have r0 : rm2 (4 * e) = rm (4 * e) - x := by rw [← q]; exact rb
      have r1 : rm2 (4 * e + 1) = rm (4 * e + 1) + x := by rw [← ec']; exact rc
      have r2 := ro (4 * e + 2) (by omega) (by omega) (by omega)
      have r3 := ro (4 * e + 3) (by omega) (by omega) (by omega)
      rw [q] at b4 fv b5
      rw [r0, r1, r2, r3, fv, ← b4, q, d7]
      refine ⟨⟨d1, d2, d3, d4, d5, d6, rfl, d8, d9, d10, by omega, by omega, by omega, d14, d15, d16⟩, ?_, by omega⟩
      rw [← Int.sub_mul, show rm (4 * e) - x - (rm (4 * e + 1) + x) - 2 * rm (4 * e + 3) - (rm (4 * e) - rm (4 * e + 1) - 2 * rm (4 * e + 3)) = -(2 * x) by omega, Int.neg_mul]
    · have ec' : c = 4 * e := by rw [ec, if_neg (by omega)]; omega
      have r0 : rm2 (4 * e + 1) = rm (4 * e + 1) - x := by rw [← q]; exact rb
      have r1 : rm2 (4 * e) = rm (4 * e) + x := by rw [← ec']; exact rc
      have r2 := ro (4 * e + 2) (by omega) (by omega) (by omega)
      have r3 := ro (4 * e + 3) (by omega) (by omega) (by omega)
      rw [q] at b4 fv b5
      rw [d2] at b4
      rw [d1] at fv
      rw [r0, r1, r2, r3, fv, ← b4, q, d8]
      refine ⟨⟨d1, d2, d3, d4, d5, d6, d7, rfl, d9, d10, by omega, by omega, by omega, d14, d15, d16⟩, ?_, by omega⟩
      rw [← Int.sub_mul, show rm (4 * e) + x - (rm (4 * e + 1) - x) - 2 * rm (4 * e + 3) - (rm (4 * e) - rm (4 * e + 1) - 2 * rm (4 * e + 3)) = 2 * x by omega, Int.mul_sub, Int.mul_sub]; omega
    · have ec' : c = 4 * e + 3 := by rw [ec, if_pos (by omega)]; omega
      have r0 : rm2 (4 * e + 2) = rm (4 * e + 2) - x := by rw [← q]; exact rb
      have r1 : rm2 (4 * e + 3) = rm (4 * e + 3) + x := by rw [← ec']; exact rc
      have r2 := ro (4 * e) (by omega) (by omega) (by omega)
      have r3 := ro (4 * e + 1) (by omega) (by omega) (by omega)
      rw [q] at b4 fv b5
      rw [d4] at b4
      rw [d3] at fv
      rw [r0, r1, r2, r3, fv, ← b4, q, d9]
      refine ⟨⟨d1, d2, d3, d4, d5, d6, d7, d8, rfl, d10, by omega, by omega, by omega, by omega, by omega, by omega⟩, ?_, by omega⟩
      rw [← Int.sub_mul, show rm (4 * e) - rm (4 * e + 1) - 2 * (rm (4 * e + 3) + x) - (rm (4 * e) - rm (4 * e + 1) - 2 * rm (4 * e + 3)) = -(2 * x) by omega, Int.neg_mul]
    · have ec' : c = 4 * e + 2 := by rw [ec, if_neg (by omega)]; omega
      have r0 : rm2 (4 * e + 3) = rm (4 * e + 3) - x := by rw [← q]; exact rb
      have r1 : rm2 (4 * e + 2) = rm (4 * e + 2) + x := by rw [← ec']; exact rc
      have r2 := ro (4 * e) (by omega) (by omega) (by omega)
      have r3 := ro (4 * e + 1) (by omega) (by omega) (by omega)
      rw [q] at b4 fv b5
      rw [d6] at b4
      rw [d5] at fv
      rw [r0, r1, r2, r3, fv, ← b4, q, d10]
      refine ⟨⟨d1, d2, d3, d4, d5, d6, d7, d8, d9, rfl, by omega, by omega, by omega, by omega, by omega, by omega⟩, ?_, by omega⟩
      rw [← Int.sub_mul, show rm (4 * e) - rm (4 * e + 1) - 2 * (rm (4 * e + 3) - x) - (rm (4 * e) - rm (4 * e + 1) - 2 * rm (4 * e + 3)) = 2 * x by omega, Int.mul_sub, Int.mul_sub]; omega
  obtain ⟨k1, k2, k3⟩ := blk
  have B2 : ∀ q, 0 ≤ q → q < a / 4 → LWB fr to' rm2 gn q := fun q q0 q1 => by
    by_cases eq : q = e
    · rw [eq]; exact k1
    · obtain ⟨o1, o2, o3, o4⟩ := other q q0 eq
      have := h10 q q0 q1
      unfold LWB at this ⊢
      rw [o1, o2, o3, o4]; exact this
  have W2 : sm (lwW fr to' rm2 hh) (a / 4) = -(2 * x * (hh st - hh v')) := by
    rw [sm_pt (f := lwW fr to' rm hh) e0 e1 (fun j j0 _ j2 => by
      obtain ⟨o1, o2, o3, o4⟩ := other j j0 j2
      unfold lwW; rw [o1, o2, o4]), h12, k2]
    have := mul_two3 x (hh st) (hh v) (hh v')
    omega
  have F2 : sm (lwF rm2) (a / 4) = sm (lwF rm) (a / 4) + x * gn b := by
    rw [sm_pt (f := lwF rm) (g := lwF rm2) e0 e1 (fun j j0 _ j2 => (other j j0 j2).2.2.2), k3]
  have eI : i'.toNat = i.toNat + 1 := by omega
  have ev : v' = srp fr by' st (i.toNat + 1) := by rw [hv, h6]; rfl
  have G2 : srg fr gn by' st (i.toNat + 1) = srg fr gn by' st i.toNat + gn b := by
    show _ + gn (by' (srp fr by' st i.toNat)) = _
    rw [← h6, ← eb]
  have K2 : K + x * srg fr gn by' st (i.toNat + 1) ≤ sm (lwF rm2) (a / 4) := by
    rw [F2, G2, Int.mul_add]; omega
  refine ⟨fun hs => ⟨h1, h2, by omega, h4, h5, by rw [eI]; exact ev, fun j j0 j1 => ?_, fun j j0 j1 => ?_, h9, B2, hh, h11, W2, by rw [eI]; exact K2⟩, fun hs => ⟨h2, h9, B2, hh, h11, ?_, ?_⟩⟩
  · by_cases e : j = i.toNat + 1
    · rw [e, ← ev]; exact hs
    · exact h7 j j0 (by omega)
  · -- arcs that are still to come
    have hj := h8 j (by omega) j1
    have nb : by' (srp fr by' st j) ≠ b := fun e2 => by
      have r1 := rgl_rng h2 h1 j
      have r2 := rgl_rng h2 h1 i.toNat
      rw [e2] at r1
      rw [← h6, ← eb] at r2
      have : srp fr by' st i.toNat = srp fr by' st j := by rw [← h6, ← r2.2.2.2.2]; exact r1.2.2.2.2
      exact ring_inj h1.2.2.1 (by omega) j1 this
    have r1 := rgl_rng h2 h1 j
    by_cases e2 : by' (srp fr by' st j) = c
    · rw [e2] at hj ⊢; rw [rc]; omega
    · rw [ro _ r1.2.2.1 nb e2]; exact hj
  · rw [W2, hs, Int.sub_self, Int.mul_zero]; rfl
  · have pos := h1.2.2.2.1 st (i.toNat + 1) (by omega) h1.1 h1.2.1 (by rw [← ev]; exact hs) (fun j _ => rng_all h1.2.2.1 j)
    have : x * 1 ≤ x * srg fr gn by' st (i.toNat + 1) := Int.mul_le_mul_of_nonneg_left pos (by omega)
    omega
/-! solve -/
def EXQ (n a : Int) (fr to' rm gn : Int → Int) : Prop := ∃ q : Int → Int, FEA a fr to' rm gn q ∧ ∀ v, 0 ≤ v → v < n → 0 ≤ q v
def GPR (n a : Int) (fr to' rm gn : Int → Int) : Prop := NWL n a fr to' gn ∧ a % 4 = 0 ∧ ∀ e, 0 ≤ e → e < a / 4 → LWB fr to' rm gn e ∧ 0 < rm (4 * e + 2)
def FLO0 (n a : Int) (fr to' rm gn : Int → Int) : Prop := FLV n a fr to' rm gn 0
def FLV1 (n a : Int) (fr to' rm gn : Int → Int) (K : Int) : Prop := FLV n a fr to' rm gn (K + 1)
def LYQ (n a : Int) (fr to' pl : Int → Int) : Prop := (∀ v, 0 ≤ v → v < n → 0 ≤ pl v ∧ pl v ≤ 23) ∧ ∀ e, 0 ≤ e → e < a / 4 → pl (fr (4 * e)) + 1 ≤ pl (to' (4 * e))
theorem gpr_of {n a : Int} {fr to' rm gn : Int → Int} {K : Int} (h : FLV n a fr to' rm gn K) : GPR n a fr to' rm gn := by
  obtain ⟨h1, h2, h3, hh, h4, h5, h6⟩ := h
  have := flv_few (K := sm (lwF rm) (a / 4)) ⟨h1, h2, h3, hh, h4, h5, Int.le_refl _⟩
  refine ⟨h1, h2, fun e e0 e1 => ⟨h3 e e0 e1, ?_⟩⟩
  have h7 : lwF rm e ≤ sm (lwF rm) (a / 4) := sm_one e0 e1 (fun j j0 j1 => (h3 j j0 j1).2.2.2.2.2.2.2.2.2.2.2.2.2.2.1)
  have h8 := (h3 e e0 e1).2.2.2.2.2.2.2.2.2.2.2.2.2.2.2
  have h9 : lwF rm e = rm (4 * e + 3) := rfl
  omega
theorem exq_of {n a : Int} {fr to' rm gn pl : Int → Int} {by' : Int → Int} {K an : Int} (h : FRP n a fr to' rm gn pl by' an) (e : an = -1) (hb : PBL n pl K) : EXQ n a fr to' rm gn := ⟨pl, h.1 e, fun v a b => (hb v a b).1⟩
theorem lyq_of {n a : Int} {fr to' rm gn pl : Int → Int} (h : LEA n a fr to' rm gn pl) (hg : GPR n a fr to' rm gn) : LYQ n a fr to' pl := by
  refine ⟨fun v v0 v1 => ?_, fun e e0 e1 => ?_⟩
  · have := lea_full hg.1 h v0 v1
    have := h.2.1 v v0 v1
    have := hg.1.2.1
    omega
  · obtain ⟨⟨d1, d2, d3, d4, d5, d6, d7, d8, d9, d10, _⟩, g2⟩ := hg.2.2 e e0 e1
    have := h.1 (4 * e + 2) (by omega) (by have := hg.2.1; omega) g2
    rw [d3, d4, d9] at this; exact this
theorem lyq_end {n a : Int} {fr to' rm gn pl : Int → Int} {t an : Int} (h : FNQ n a fr to' rm gn pl t an) (e : an = 0) (hg : GPR n a fr to' rm gn) : LYQ n a fr to' pl := lyq_of (h.1 e) hg
theorem fnl_zero {n a : Int} {fr to' rm gn pl : Int → Int} {t : Int} (h : EXQ n a fr to' rm gn) (hg : GPR n a fr to' rm gn) (hz : ∀ v, 0 ≤ v → v < n → pl v = 0) (ht : t = 0) : FNL n a fr to' rm gn pl t := by
  obtain ⟨q, q1, q2⟩ := h
  exact fnl_start hg.1 q1 q2 hz ht
/-! the other use: places stay low -/
def PBX (pl : Int → Int) (t : Int) : Prop := ∀ v, 0 ≤ v → v < 72 → 0 ≤ pl v ∧ pl v ≤ 7680 * t
def PBX1 (pl : Int → Int) (t : Int) : Prop := PBX pl (t + 1)
def PBY (pl : Int → Int) (t i : Int) : Prop := ∀ v, 0 ≤ v → v < 72 → 0 ≤ pl v ∧ pl v ≤ 7680 * t + 20 * i
theorem pby_set {pl pl' : Int → Int} {t i i' p x u : Int} (h : PBY pl t i) (hp : st1 pl pl' p x) (i0 : 0 ≤ i) (p0 : 0 ≤ p) (p1 : p < 72) (u0 : 0 ≤ u) (u1 : u < 72) (ex : x ≤ pl u + 20) (hx : pl p < x) (hi : i' = i + 1) : PBY pl' t i' := fun v a b => by
  have h1 := h u u0 u1
  have h2 := h p p0 p1
  by_cases e : v = p
  · rw [(hp v a).1 e]; omega
  · rw [(hp v a).2 e]; have := h v a b; omega
def RNGX (fr by' : Int → Int) (v : Int) : Prop := v ≠ -1 → RNG fr by' v
def PBZ (pl : Int → Int) : Prop := ∀ v, 0 ≤ v → v < 72 → 0 ≤ pl v ∧ pl v ≤ 568320
theorem flv_room {n a : Int} {fr to' rm gn : Int → Int} {K b : Int} (h : FLV n a fr to' rm gn K) (b0 : 0 ≤ b) (b1 : b < a) : 0 ≤ rm b ∧ rm b ≤ 1000000000 := by
  obtain ⟨h2, h9, h10, _⟩ := h
  obtain ⟨c1, c2, c3, c4, c5, c6, c7, c8, c9, c10, c11, c12, c13, c14, c15, c16⟩ := h10 (b / 4) (by omega) (by omega)
  have : b = 4 * (b / 4) ∨ b = 4 * (b / 4) + 1 ∨ b = 4 * (b / 4) + 2 ∨ b = 4 * (b / 4) + 3 := by omega
  rcases this with e | e | e | e <;> rw [e] <;> omega
theorem flp_other {n a : Int} {fr to' rm rm1 gn by' : Int → Int} {st v i x K b c y : Int} (h : FLP n a fr to' rm gn by' st v i x K) (eb : b = by' v) (ec : c = if b % 2 = 0 then b + 1 else b - 1) (s1 : st1 rm rm1 b y) : 0 ≤ rm1 c ∧ rm1 c ≤ 1000000000 ∧ 0 ≤ c ∧ c ≤ 191 := by
  obtain ⟨b0, b1, b2, b3, b4, b5, b6, b7⟩ := flp_by h
  rw [← eb] at b2 b3
  have a4 := h.2.2.2.2.2.2.2.2.1
  have a1 := h.2.1.2.2.2.1
  have c0 : 0 ≤ c := by rw [ec]; split <;> omega
  have c1 : c < a := by rw [ec]; split <;> omega
  have cb : c ≠ b := by rw [ec]; split <;> omega
  rw [(s1 c c0).2 cb]
  have := flp_room h c0 c1
  omega
