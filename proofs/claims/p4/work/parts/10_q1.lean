/-! the class's Stretch: ways back, rings -/
def srp (fr by' : Int → Int) (v : Int) : Nat → Int
  | 0 => v
  | i + 1 => fr (by' (srp fr by' v i))
def srg (fr gn by' : Int → Int) (v : Int) : Nat → Int
  | 0 => 0
  | i + 1 => srg fr gn by' v i + gn (by' (srp fr by' v i))
theorem srp_add (fr by' : Int → Int) (v : Int) (i : Nat) : ∀ j : Nat, srp fr by' (srp fr by' v i) j = srp fr by' v (i + j)
  | 0 => rfl
  | j + 1 => by
    show fr (by' (srp fr by' (srp fr by' v i) j)) = fr (by' (srp fr by' v (i + j)))
    rw [srp_add fr by' v i j]
def RNG (fr by' : Int → Int) (v : Int) : Prop := ∃ L : Nat, 0 < L ∧ srp fr by' v L = v ∧ (∀ j, j < L → 0 ≤ by' (srp fr by' v j)) ∧ ∀ j, 0 < j → j < L → srp fr by' v j ≠ v
def ENDS (fr by' : Int → Int) (v : Int) : Prop := ∃ i : Nat, by' (srp fr by' v i) = -1
theorem ring_all {fr by' : Int → Int} {v : Int} {L : Nat} (hL : 0 < L) (e : srp fr by' v L = v) (h : ∀ j, j < L → 0 ≤ by' (srp fr by' v j)) : ∀ i, 0 ≤ by' (srp fr by' v i) := by
  intro i
  induction i using Nat.strongRecOn with
  | _ i ih =>
    by_cases hi : i < L
    · exact h i hi
    · have := ih (i - L) (by omega)
      have h2 := srp_add fr by' v L (i - L)
      rw [e, show L + (i - L) = i from by omega] at h2
      rw [← h2]; exact this
theorem rng_all {fr by' : Int → Int} {v : Int} (h : RNG fr by' v) : ∀ i, 0 ≤ by' (srp fr by' v i) := by
  obtain ⟨L, hL, e, h2, _⟩ := h
  exact ring_all hL e h2
/-! ringInBy -/
def HFR (n : Int) (fr by' : Int → Int) : Prop := ∀ w, 0 ≤ w → w < n → 0 ≤ by' w → 0 ≤ fr (by' w) ∧ fr (by' w) < n
def SNO (n : Int) (fr by' mk : Int → Int) (st : Int) : Prop := (∀ w, 0 ≤ w → w < 72 → mk w < st) ∧ (HFR n fr by' → ∀ w, 0 ≤ w → w < n → (mk w ≠ -1 → ENDS fr by' w) ∧ (w < st → mk w ≠ -1))
def SNI (n : Int) (fr by' mk : Int → Int) (st v k : Int) : Prop := 0 ≤ k ∧
  (∀ j : Nat, j < k.toNat → 0 ≤ srp fr by' st j ∧ srp fr by' st j < 72 ∧ mk (srp fr by' st j) = st) ∧
  (∀ j : Nat, j + 1 < k.toNat → 0 ≤ by' (srp fr by' st j)) ∧
  (∀ i j : Nat, i < j → j < k.toNat → srp fr by' st i ≠ srp fr by' st j) ∧
  ((k = 0 ∧ v = st) ∨ (0 < k ∧ by' (srp fr by' st (k.toNat - 1)) = -1 ∧ v = -1) ∨ (0 < k ∧ 0 ≤ by' (srp fr by' st (k.toNat - 1)) ∧ v = srp fr by' st k.toNat)) ∧
  (∀ w, 0 ≤ w → w < 72 → mk w = st → ∃ j : Nat, j < k.toNat ∧ srp fr by' st j = w) ∧
  (∀ w, 0 ≤ w → w < 72 → mk w ≤ st) ∧ (HFR n fr by' → ∀ w, 0 ≤ w → w < n → (mk w ≠ -1 → mk w ≠ st → ENDS fr by' w) ∧ (w < st → mk w ≠ -1))
def SNB (n : Int) (fr by' : Int → Int) (an : Int) : Prop := (an ≠ -1 → RNG fr by' an) ∧ (an = -1 → HFR n fr by' → ∀ v, 0 ≤ v → v < n → ENDS fr by' v) ∧ (an ≠ -1 → 0 ≤ an ∧ (HFR n fr by' → an < n))
theorem sno_start {n : Int} {fr by' mk : Int → Int} {st : Int} (h : ∀ w, 0 ≤ w → w < 72 → mk w = -1) (hn : n ≤ 72) (hs : st = 0) : SNO n fr by' mk st :=
  ⟨fun w a b => by rw [h w a b]; omega, fun _ w a b => ⟨fun e => absurd (h w a (by omega)) e, fun e => by omega⟩⟩
theorem sni_start {n : Int} {fr by' mk : Int → Int} {st v k : Int} (h : SNO n fr by' mk st) (hv : v = st) (hk : k = 0) : SNI n fr by' mk st v k := by
  subst hk
  refine ⟨by omega, fun j hj => by omega, fun j hj => by omega, fun i j _ hj => by omega, Or.inl ⟨rfl, hv⟩, fun w a b e => ?_, fun w a b => ?_, fun hf w a b => ⟨fun h1 _ => (h.2 hf w a b).1 h1, (h.2 hf w a b).2⟩⟩
  · have := h.1 w a b; omega
  · have := h.1 w a b; omega
theorem sni_step {n : Int} {fr by' mk mk' : Int → Int} {st v k v' k' q s : Int} (h : SNI n fr by' mk st v k) (hs : st1 mk mk' q s) (hq : q = v) (hss : s = st) (hm : mk v = -1) (hv0 : 0 ≤ v) (hv1 : v < 72) (s0 : 0 ≤ st) (hv' : (by' v = -1 ∧ v' = -1) ∨ (0 ≤ by' v ∧ v' = fr (by' v))) (hk : k' = k + 1) : SNI n fr by' mk' st v' k' := by
  obtain ⟨k0, h1, h2, h3, h4, h5, h6, h7⟩ := h
  subst hk hq hss
  have ev : q = srp fr by' s k.toNat := by
    rcases h4 with ⟨a, b⟩ | ⟨_, _, b⟩ | ⟨_, _, b⟩
    · rw [a, b]; rfl
    · omega
    · exact b
  have eK : (k + 1).toNat = k.toNat + 1 := by omega
  have mk_ne : ∀ w, 0 ≤ w → w ≠ q → mk' w = mk w := fun w a b => (hs w a).2 b
  have mk_q : mk' q = s := (hs q hv0).1 rfl
  rw [SNI, eK]
  refine ⟨by omega, fun j hj => ?_, fun j hj => ?_, fun i j hij hj => ?_, ?_, fun w a b e => ?_, fun w a b => ?_, fun hf w a b => ?_⟩
  · by_cases e : j = k.toNat
    · subst e; rw [← ev]; exact ⟨hv0, hv1, mk_q⟩
    · obtain ⟨a, b, c⟩ := h1 j (by omega)
      refine ⟨a, b, ?_⟩
      rw [mk_ne _ a (fun e2 => by rw [e2, hm] at c; omega)]; exact c
  · by_cases e : j + 1 = k.toNat
    · rcases h4 with ⟨a, b⟩ | ⟨_, _, b⟩ | ⟨_, b, _⟩
      · omega
      · omega
      · rw [show k.toNat - 1 = j by omega] at b; exact b
    · exact h2 j (by omega)
  · by_cases e : j = k.toNat
    · subst e
      intro e2
      obtain ⟨a, b, c⟩ := h1 i (by omega)
      rw [e2, ← ev, hm] at c; omega
    · exact h3 i j hij (by omega)
  · right
    rw [show k.toNat + 1 - 1 = k.toNat by omega, ← ev]
    rcases hv' with ⟨a, b⟩ | ⟨a, b⟩
    · exact Or.inl ⟨by omega, a, b⟩
    · refine Or.inr ⟨by omega, a, ?_⟩
      rw [b]
      show fr (by' q) = fr (by' (srp fr by' s k.toNat))
      rw [← ev]
  · by_cases e2 : w = q
    · exact ⟨k.toNat, by omega, by rw [e2, ← ev]⟩
    · rw [mk_ne w a e2] at e
      obtain ⟨j, hj, e3⟩ := h5 w a b e
      exact ⟨j, by omega, e3⟩
  · by_cases e2 : w = q
    · rw [e2, mk_q]; omega
    · rw [mk_ne w a e2]; exact h6 w a b
  · by_cases e2 : w = q
    · subst e2; rw [mk_q]; exact ⟨fun _ e => absurd rfl e, fun _ => by omega⟩
    · rw [mk_ne w a e2]; exact h7 hf w a b
theorem sni_ring {n : Int} {fr by' mk : Int → Int} {st v k : Int} (h : SNI n fr by' mk st v k) (hv0 : 0 ≤ v) (hv1 : v < 72) (hm : mk v = st) : RNG fr by' v := by
  obtain ⟨k0, h1, h2, h3, h4, h5, h6, h7⟩ := h
  obtain ⟨i, hi, e⟩ := h5 v hv0 hv1 hm
  have h4' : 0 ≤ by' (srp fr by' st (k.toNat - 1)) ∧ v = srp fr by' st k.toNat := by
    rcases h4 with ⟨a, b⟩ | ⟨_, _, b⟩ | ⟨_, b, c⟩
    · omega
    · omega
    · exact ⟨b, c⟩
  refine ⟨k.toNat - i, by omega, ?_, fun j hj => ?_, fun j j0 hj => ?_⟩
  · have := srp_add fr by' st i (k.toNat - i)
    rw [e, show i + (k.toNat - i) = k.toNat by omega, ← h4'.2] at this
    exact this
  · have := srp_add fr by' st i j
    rw [e] at this; rw [this]
    by_cases e2 : i + j + 1 < k.toNat
    · exact h2 _ e2
    · rw [show i + j = k.toNat - 1 by omega]; exact h4'.1
  · have := srp_add fr by' st i j
    rw [e] at this; rw [this]
    intro e2
    exact h3 i (i + j) (by omega) (by omega) (by rw [e, e2])
theorem inj_le {n : Int} {f : Nat → Int} {N : Nat} (n0 : 0 ≤ n) (h1 : ∀ i, i < N → 0 ≤ f i ∧ f i < n) (h2 : ∀ i j, i < j → j < N → f i ≠ f j) : (N : Int) ≤ n := by
  have := php N n.toNat (fun i => (f i).toNat) (fun i hi => by have := h1 i hi; omega) (fun i j hi hj e => by
    have a := h1 i hi
    have b := h1 j hj
    have e2 : f i = f j := by
      have : (f i).toNat = (f j).toNat := e
      omega
    rcases Nat.lt_trichotomy i j with q | q | q
    · exact absurd e2 (h2 i j q hj)
    · exact q
    · exact absurd e2.symm (h2 j i q hi))
  omega
theorem sni_next {n : Int} {fr by' mk : Int → Int} {st st' v k : Int} (h : SNI n fr by' mk st v k) (hn : n ≤ 72) (s0 : 0 ≤ st) (s1 : st < n) (hv1 : v < 72) (hx : n < k ∨ v = -1 ∨ mk v ≠ -1) (hm : v = -1 ∨ mk v ≠ st) (hv0 : -1 ≤ v) (hs : st' = st + 1) : SNO n fr by' mk st' := by
  obtain ⟨k0, h1, h2, h3, h4, h5, h6, h7⟩ := h
  subst hs
  refine ⟨fun w a b => by have := h6 w a b; omega, fun hf w a b => ?_⟩
  -- all nodes of the way lie below n
  have rg : ∀ j : Nat, j < k.toNat → 0 ≤ srp fr by' st j ∧ srp fr by' st j < n := fun j => by
    induction j with
    | zero => exact fun _ => ⟨s0, s1⟩
    | succ j ih =>
      intro hj
      obtain ⟨a1, a2⟩ := ih (by omega)
      exact hf _ a1 a2 (h2 j (by omega))
  have hk : k ≤ n := by
    have := inj_le (by omega) rg h3
    omega
  have hE : ∃ i : Nat, by' (srp fr by' st (k.toNat - 1 + i)) = -1 ∨ k = 0 := by
    rcases h4 with ⟨a, b⟩ | ⟨a, b, c⟩ | ⟨a, b, c⟩
    · exact ⟨0, Or.inr a⟩
    · exact ⟨0, Or.inl b⟩
    · have v1 : 0 ≤ v := by
        rcases hx with q | q | q
        · omega
        · exfalso
          have h8 := hf _ (rg (k.toNat - 1) (by omega)).1 (rg (k.toNat - 1) (by omega)).2 b
          have : v = fr (by' (srp fr by' st (k.toNat - 1))) := by
            rw [c, show k.toNat = (k.toNat - 1) + 1 by omega]; rfl
          omega
        · by_cases e : v = -1
          · exfalso
            have h8 := hf _ (rg (k.toNat - 1) (by omega)).1 (rg (k.toNat - 1) (by omega)).2 b
            have : v = fr (by' (srp fr by' st (k.toNat - 1))) := by
              rw [c, show k.toNat = (k.toNat - 1) + 1 by omega]; rfl
            omega
          · omega
      have v2 : v < n := by
        have h8 := hf _ (rg (k.toNat - 1) (by omega)).1 (rg (k.toNat - 1) (by omega)).2 b
        have : v = fr (by' (srp fr by' st (k.toNat - 1))) := by
          rw [c, show k.toNat = (k.toNat - 1) + 1 by omega]; rfl
        omega
      have m1 : mk v ≠ -1 := by
        rcases hx with q | q | q
        · omega
        · omega
        · exact q
      have m2 : mk v ≠ st := by
        rcases hm with q | q
        · omega
        · exact q
      obtain ⟨i, hi⟩ := (h7 hf v v1 v2).1 m1 m2
      refine ⟨i + 1, Or.inl ?_⟩
      have h9 := srp_add fr by' st k.toNat i
      rw [← c] at h9
      rw [show k.toNat - 1 + (i + 1) = k.toNat + i by omega, ← h9]; exact hi
  refine ⟨fun hw => ?_, fun hw => ?_⟩
  · by_cases e : mk w = st
    · obtain ⟨j, hj, e2⟩ := h5 w a (by omega) e
      obtain ⟨i, hi⟩ := hE
      have hi' : by' (srp fr by' st (k.toNat - 1 + i)) = -1 := hi.elim id (fun q => by omega)
      refine ⟨k.toNat - 1 + i - j, ?_⟩
      have h9 := srp_add fr by' st j (k.toNat - 1 + i - j)
      rw [e2, show j + (k.toNat - 1 + i - j) = k.toNat - 1 + i by omega] at h9
      rw [h9]; exact hi'
    · exact (h7 hf w a b).1 hw e
  · by_cases e : w = st
    · subst e
      by_cases k1 : 0 < k
      · have := (h1 0 (by omega)).2.2
        have e3 : srp fr by' w 0 = w := rfl
        rw [e3] at this; omega
      · rcases h4 with ⟨a', b'⟩ | ⟨a', _, _⟩ | ⟨a', _, _⟩
        · rcases hx with q | q | q
          · omega
          · omega
          · rw [b'] at q; exact q
        · omega
        · omega
    · exact (h7 hf w a b).2 (by omega)
theorem sni_lt {n : Int} {fr by' mk : Int → Int} {st v k : Int} (h : SNI n fr by' mk st v k) (s0 : 0 ≤ st) (s1 : st < n) (hv : v ≠ -1) (hf : HFR n fr by') : v < n := by
  obtain ⟨k0, h1, h2, h3, h4, h5, h6, h7⟩ := h
  have rg : ∀ j : Nat, j < k.toNat → 0 ≤ srp fr by' st j ∧ srp fr by' st j < n := fun j => by
    induction j with
    | zero => exact fun _ => ⟨s0, s1⟩
    | succ j ih =>
      intro hj
      obtain ⟨a1, a2⟩ := ih (by omega)
      exact hf _ a1 a2 (h2 j (by omega))
  rcases h4 with ⟨a, b⟩ | ⟨_, _, b⟩ | ⟨a, b, c⟩
  · omega
  · omega
  · have h8 := hf _ (rg (k.toNat - 1) (by omega)).1 (rg (k.toNat - 1) (by omega)).2 b
    have : v = fr (by' (srp fr by' st (k.toNat - 1))) := by
      rw [c, show k.toNat = (k.toNat - 1) + 1 by omega]; rfl
    omega
theorem snb_ring {n : Int} {fr by' mk : Int → Int} {an v st k : Int} (h : SNI n fr by' mk st v k) (e : an = v) (h0 : 0 ≤ v) (hv1 : v < 72) (hm : mk v = st) (s0 : 0 ≤ st) (s1 : st < n) : SNB n fr by' an := by
  subst e
  exact ⟨fun _ => sni_ring h h0 hv1 hm, fun q => by omega, fun q => ⟨h0, fun hf => sni_lt h s0 s1 q hf⟩⟩
theorem snb_none {n : Int} {fr by' mk : Int → Int} {an st : Int} (h : SNO n fr by' mk st) (hs : n ≤ st) (e : an = -1) : SNB n fr by' an := ⟨fun q => absurd e q, fun _ hf v a b => (h.2 hf v a b).1 ((h.2 hf v a b).2 (by omega)), fun q => absurd e q⟩
/-! sendRound without sums: what is read lies on the ring -/
def SR1 (fr by' : Int → Int) (st v k : Int) : Prop := 0 ≤ k ∧ v = srp fr by' st k.toNat
theorem sr1_start {fr by' : Int → Int} {st v k : Int} (hv : v = st) (hk : k = 0) : SR1 fr by' st v k := ⟨by omega, by rw [hk, hv]; rfl⟩
theorem sr1_by {fr by' : Int → Int} {st v k : Int} (h : SR1 fr by' st v k) (hr : RNG fr by' st) : 0 ≤ by' v := by rw [h.2]; exact rng_all hr _
theorem sr1_step {fr by' : Int → Int} {st v k v' k' : Int} (h : SR1 fr by' st v k) (hv : v' = fr (by' v)) (hk : k' = k + 1) : SR1 fr by' st v' k' := by
  refine ⟨by have := h.1; omega, ?_⟩
  rw [hv, hk, h.2, show (k + 1).toNat = k.toNat + 1 by have := h.1; omega]; rfl
/-- from somewhere on the ring -/
def SR2 (fr by' : Int → Int) (st v : Int) : Prop := ∃ i : Nat, v = srp fr by' st i
theorem sr2_of {fr by' : Int → Int} {st v k : Int} (h : SR1 fr by' st v k) : SR2 fr by' st v := ⟨_, h.2⟩
theorem sr2_by {fr by' : Int → Int} {st v : Int} (h : SR2 fr by' st v) (hr : RNG fr by' st) : 0 ≤ by' v := by
  obtain ⟨i, e⟩ := h
  rw [e]; exact rng_all hr _
theorem sr2_start {fr by' : Int → Int} {st v : Int} (hv : v = st) : SR2 fr by' st v := ⟨0, hv⟩
theorem sr2_step {fr by' : Int → Int} {st v v' : Int} (h : SR2 fr by' st v) (hv : v' = fr (by' v)) : SR2 fr by' st v' := by
  obtain ⟨i, e⟩ := h
  exact ⟨i + 1, by rw [hv, e]; rfl⟩
theorem xor_one {x a b : Int} (h : bvp x = bvp a ^^^ bvp b) (hb : b = 1) (a0 : 0 ≤ a) (a1 : a ≤ 383) (x0 : -2147483648 ≤ x) (x1 : x ≤ 2147483647) : x = if a % 2 = 0 then a + 1 else a - 1 := by
  have hx : (bvp x).toInt = x := by unfold bvp; rw [BitVec.toInt_ofInt]; unfold Int.bmod; simp only; split <;> omega
  have : ∀ n : Fin 384, (BitVec.ofInt 32 ((n.1 : Nat) : Int) ^^^ BitVec.ofInt 32 1).toInt = if ((n.1 : Nat) : Int) % 2 = 0 then ((n.1 : Nat) : Int) + 1 else ((n.1 : Nat) : Int) - 1 := by decide +kernel
  have h2 := this ⟨a.toNat, by omega⟩
  simp only at h2
  rw [show ((a.toNat : Nat) : Int) = a by omega] at h2
  rw [← hx, h, hb]; exact h2
