/-! rows of faces -/
def nr (L k : Int) : Int := if k + 1 = L then 0 else k + 1
theorem nr_lt {L k : Int} (h : k + 1 < L) : nr L k = k + 1 := by unfold nr; rw [if_neg (by omega)]
theorem nr_eq {L k : Int} (h : k + 1 = L) : nr L k = 0 := by unfold nr; rw [if_pos h]
theorem nr_rng {L k : Int} (h : 0 ≤ k) (h2 : k < L) : 0 ≤ nr L k ∧ nr L k < L := by unfold nr; split <;> omega
def RW (A : pa_T) (nx : Int → Int → Int) (L : Int) (r : Int → Int) : Prop := 3 ≤ L ∧ (∀ k, 0 ≤ k → k < L → A (r k) (r (nr L k)) ∧ nx (r k) (r (nr L k)) = r (nr L (nr L k))) ∧ ∀ k l, 0 ≤ k → k < l → l < L → r k ≠ r l
def COV (A : pa_T) (F : Int) (L : Int → Int) (R : Int → Int → Int) : Prop := ∀ u v, A u v → ∃ f k, 0 ≤ f ∧ f < F ∧ 0 ≤ k ∧ k < L f ∧ R f k = u ∧ R f (nr (L f) k) = v
def UNQ (F : Int) (L : Int → Int) (R : Int → Int → Int) : Prop := ∀ f k g l, 0 ≤ f → f < F → 0 ≤ k → k < L f → 0 ≤ g → g < F → 0 ≤ l → l < L g → R f k = R g l → R f (nr (L f) k) = R g (nr (L g) l) → f = g
def FIX (A : pa_T) (nx : Int → Int → Int) (ρ : Int → Int → Int → Bool) (F : Int) (L : Int → Int) (R : Int → Int → Int) : Prop := mp A nx ∧ pls A nx ρ ∧ (∀ f, 0 ≤ f → f < F → RW A nx (L f) (R f)) ∧ COV A F L R ∧ UNQ F L R
/-- the way put in, by whole numbers -/
def piA (A : pa_T) (w : Int → Int) (K : Int) (u v : Int) : Prop := A u v ∨ ∃ i, 0 ≤ i ∧ i ≤ K ∧ ((u = w i ∧ v = w (i + 1)) ∨ (u = w (i + 1) ∧ v = w i))
theorem path_I {A : pa_T} {nx : Int → Int → Int} {ρ : Int → Int → Int → Bool} {p p' : Int} {w r : Int → Int} {B K : Int} (m : mp A nx) (hl : pls A nx ρ) (K0 : 0 ≤ K) (B0 : 1 ≤ B) (hp : A p (r 0)) (x1 : nx p (r 0) = r 1) (hA : ∀ i, 0 ≤ i → i < B → A (r i) (r (i + 1))) (hN : ∀ i, 0 ≤ i → i + 2 ≤ B → nx (r i) (r (i + 1)) = r (i + 2)) (hd : ∀ i j, 0 ≤ i → i < j → j ≤ B → r i ≠ r j)
    (w0 : w 0 = r 0) (wB : w (K + 1) = r B) (hp' : p' = r (B - 1)) (hw : ∀ i, 1 ≤ i → i ≤ K → ∀ u, ¬ A u (w i)) (wd : ∀ i j, 0 ≤ i → i < j → j ≤ K + 1 → w i ≠ w j) (h0 : K = 0 → ¬ A (w 0) (w 1)) :
    ∃ nx' ρ', mp (piA A w K) nx' ∧ pls (piA A w K) nx' ρ' ∧ (∀ u v, A u v → ¬ (u = p ∧ v = w 0) → ¬ (u = p' ∧ v = w (K + 1)) → nx' u v = nx u v) ∧
  nx' p (w 0) = w 1 ∧ nx' p' (w (K + 1)) = w K ∧ nx' (w 1) (w 0) = nx p (w 0) ∧ nx' (w K) (w (K + 1)) = nx p' (w (K + 1)) ∧
  ∀ i, 0 ≤ i → i < K → nx' (w i) (w (i + 1)) = w (i + 2) ∧ nx' (w (i + 2)) (w (i + 1)) = w i := by
  obtain ⟨k, rfl⟩ := Int.eq_ofNat_of_zero_le K0
  obtain ⟨b, rfl⟩ := Int.eq_ofNat_of_zero_le (a := B) (by omega)
  have F1 : fwk A nx p (fun i : Nat => r i) b := by
    refine ⟨by omega, by show r 1 = nx p (r 0); exact x1.symm, fun i hi => ?_, fun i hi => ?_, fun i j hij hj => hd i j (by omega) (by omega) (by omega)⟩
    · have := hA i (by omega) (by omega)
      show A (r i) (r ((i + 1 : Nat) : Int)); rw [show ((i + 1 : Nat) : Int) = (i : Int) + 1 by omega]; exact this
    · have := hN i (by omega) (by omega)
      show nx (r i) (r ((i + 1 : Nat) : Int)) = r ((i + 2 : Nat) : Int)
      rw [show ((i + 1 : Nat) : Int) = (i : Int) + 1 by omega, show ((i + 2 : Nat) : Int) = (i : Int) + 2 by omega]; exact this
  have key := path_ins k (A := A) (nx := nx) (ρ := ρ) (p := p) (w := fun i : Nat => w i) (x := fun i : Nat => r i) (n := b) m hl (by show A p (w 0); rw [w0]; exact hp) F1 (by show r 0 = w 0; exact w0.symm) (by show r b = w ((k + 1 : Nat) : Int); rw [show ((k + 1 : Nat) : Int) = (k : Int) + 1 by omega]; exact wB.symm)
    (fun i i1 i2 => hw i (by omega) (by omega)) (fun i j hij hj => wd i j (by omega) (by omega) (by omega)) (fun z => h0 (by omega))
  obtain ⟨nx', ρ', a1, a2, a3, a4, a5, a6, a7, a8⟩ := key
  have e : ptA A (fun i : Nat => w i) k = piA A w k := by
    funext u v
    apply propext
    constructor
    · rintro (h | ⟨i, hi, h⟩)
      · exact Or.inl h
      · exact Or.inr ⟨i, by omega, by omega, by simpa using h⟩
    · rintro (h | ⟨i, i0, hi, h⟩)
      · exact Or.inl h
      · obtain ⟨j, rfl⟩ := Int.eq_ofNat_of_zero_le i0
        exact Or.inr ⟨j, by omega, by simpa using h⟩
  have eb : r ((b - 1 : Nat) : Int) = p' := by rw [hp', show ((b - 1 : Nat) : Int) = (b : Int) - 1 by omega]
  have ek : ((k + 1 : Nat) : Int) = (k : Int) + 1 := by omega
  simp only [eb, ek] at a3 a5 a7
  refine ⟨nx', ρ', e ▸ a1, e ▸ a2, a3, a4, a5, a6, a7, fun i i0 i1 => ?_⟩
  obtain ⟨j, rfl⟩ := Int.eq_ofNat_of_zero_le i0
  have := a8 j (by omega)
  simp only [show ((j + 1 : Nat) : Int) = (j : Int) + 1 by omega, show ((j + 2 : Nat) : Int) = (j : Int) + 2 by omega] at this
  exact this
theorem spl {A : pa_T} {nx : Int → Int → Int} {ρ : Int → Int → Int → Bool} {F : Int} {L L' : Int → Int} {R R' : Int → Int → Int} (h : FIX A nx ρ F L R) {f n B K : Int} {r w : Int → Int} (f0 : 0 ≤ f) (f1 : f < F) (hL : L f = n) (hr : ∀ j, 0 ≤ j → j < n → R f j = r j) (B0 : 0 < B) (B1 : B < n) (K0 : 0 ≤ K) (w0 : w 0 = r 0) (wB : w (K + 1) = r B)
    (iso : ∀ i, 1 ≤ i → i ≤ K → ∀ u, ¬ A u (w i)) (wd : ∀ i j, 0 ≤ i → i < j → j ≤ K + 1 → w i ≠ w j) (h0 : K = 0 → ¬ A (w 0) (w 1))
    (hL1 : L' f = B + 1 + K) (hR1 : ∀ j, 0 ≤ j → j ≤ B → R' f j = r j) (hR1b : ∀ j, B < j → j < B + 1 + K → R' f j = w (B + K + 1 - j))
    (hL2 : L' F = n - B + 1 + K) (hR2 : ∀ j, 0 ≤ j → j < n - B → R' F j = r (B + j)) (hR2a : R' F (n - B) = r 0) (hR2b : ∀ j, n - B < j → j < n - B + 1 + K → R' F j = w (j - (n - B)))
    (ho : ∀ g, 0 ≤ g → g < F → g ≠ f → L' g = L g ∧ ∀ j, 0 ≤ j → j < L g → R' g j = R g j) : ∃ nx' ρ', FIX (piA A w K) nx' ρ' (F + 1) L' R' := by
  obtain ⟨m, hl, hRW, hC, hU⟩ := h
  obtain ⟨n3, ra, rd⟩ := hRW f f0 f1
  rw [hL] at n3 ra rd
  have ra' : ∀ j, 0 ≤ j → j < n → A (r j) (r (nr n j)) ∧ nx (r j) (r (nr n j)) = r (nr n (nr n j)) := by
    intro j j0 j1
    have q1 := nr_rng j0 j1
    have q2 := nr_rng q1.1 q1.2
    have := ra j j0 j1
    rw [hr j j0 j1, hr _ q1.1 q1.2, hr _ q2.1 q2.2] at this
    exact this
  have rd' : ∀ k l, 0 ≤ k → k < l → l < n → r k ≠ r l := by
    intro k l k0 k1 k2
    have := rd k l k0 k1 k2
    rw [hr k k0 (by omega), hr l (by omega) k2] at this
    exact this
  have rA : ∀ i, 0 ≤ i → i + 1 < n → A (r i) (r (i + 1)) := fun i i0 i1 => by
    have := (ra' i i0 (by omega)).1; rw [nr_lt i1] at this; exact this
  have rN : ∀ i, 0 ≤ i → i + 2 < n → nx (r i) (r (i + 1)) = r (i + 2) := fun i i0 i1 => by
    have := (ra' i i0 (by omega)).2; rw [nr_lt (by omega : i + 1 < n), nr_lt (by omega : i + 1 + 1 < n)] at this; rw [this, show i + 1 + 1 = i + 2 by omega]
  have rZ : A (r (n - 1)) (r 0) ∧ nx (r (n - 1)) (r 0) = r 1 := by
    have := ra' (n - 1) (by omega) (by omega)
    rw [nr_eq (by omega : n - 1 + 1 = n), nr_lt (by omega : (0 : Int) + 1 < n)] at this; exact this
  have rY : nx (r (n - 2)) (r (n - 1)) = r 0 := by
    have := (ra' (n - 2) (by omega) (by omega)).2
    rw [nr_lt (by omega : n - 2 + 1 < n), nr_eq (by omega : n - 2 + 1 + 1 = n), show n - 2 + 1 = n - 1 by omega] at this; exact this
  obtain ⟨nx', ρ', a1, a2, a3, a4, a5, a6, a7, a8⟩ := path_I (A := A) (nx := nx) (ρ := ρ) (p := r (n - 1)) (p' := r (B - 1)) (w := w) (r := r) (B := B) (K := K) m hl K0 (by omega) rZ.1 rZ.2 (fun i i0 i1 => rA i i0 (by omega)) (fun i i0 i1 => rN i i0 (by omega)) (fun i j i0 i1 i2 => rd' i j i0 i1 (by omega)) w0 wB rfl iso wd h0
  -- rows' places
  have q1 : ∀ j, 0 ≤ j → j < B + 1 + K → (j < B ∧ R' f j = r j ∧ R' f (nr (B + 1 + K) j) = r (j + 1)) ∨ ∃ i, 0 ≤ i ∧ i ≤ K ∧ j = B + K - i ∧ R' f j = w (i + 1) ∧ R' f (nr (B + 1 + K) j) = w i := by
    intro j j0 j1
    by_cases c : j < B
    · exact Or.inl ⟨c, hR1 j j0 (by omega), by rw [nr_lt (by omega)]; exact hR1 _ (by omega) (by omega)⟩
    · refine Or.inr ⟨B + K - j, by omega, by omega, by omega, ?_, ?_⟩
      · by_cases d : j = B
        · rw [d, hR1 B (by omega) (by omega), show B + K - B + 1 = K + 1 by omega, wB]
        · rw [hR1b j (by omega) (by omega)]; congr 1; omega
      · by_cases d : j + 1 = B + 1 + K
        · rw [nr_eq d, hR1 0 (by omega) (by omega), show B + K - j = 0 by omega, w0]
        · rw [nr_lt (by omega), hR1b (j + 1) (by omega) (by omega)]; congr 1; omega
  have q2 : ∀ j, 0 ≤ j → j < n - B + 1 + K → (j < n - B ∧ R' F j = r (B + j) ∧ R' F (nr (n - B + 1 + K) j) = r (nr n (B + j))) ∨ ∃ i, 0 ≤ i ∧ i ≤ K ∧ j = n - B + i ∧ R' F j = w i ∧ R' F (nr (n - B + 1 + K) j) = w (i + 1) := by
    intro j j0 j1
    by_cases c : j < n - B
    · refine Or.inl ⟨c, hR2 j j0 c, ?_⟩
      rw [nr_lt (by omega)]
      by_cases d : j + 1 = n - B
      · rw [d, hR2a, nr_eq (by omega)]
      · rw [hR2 (j + 1) (by omega) (by omega), nr_lt (by omega), show B + (j + 1) = B + j + 1 by omega]
    · refine Or.inr ⟨j - (n - B), by omega, by omega, by omega, ?_, ?_⟩
      · by_cases d : j = n - B
        · rw [d, hR2a, show n - B - (n - B) = 0 by omega, w0]
        · rw [hR2b j (by omega) (by omega)]
      · by_cases d : j + 1 = n - B + 1 + K
        · rw [nr_eq d, hR2 0 (by omega) (by omega), show j - (n - B) + 1 = K + 1 by omega, wB, show B + 0 = B by omega]
        · rw [nr_lt (by omega), hR2b (j + 1) (by omega) (by omega)]; congr 1; omega
  -- who is on the way is not in the map
  have nw : ∀ i, 0 ≤ i → i ≤ K → ¬ A (w i) (w (i + 1)) := by
    intro i i0 i1 z
    by_cases c : K = 0
    · have : i = 0 := by omega
      subst this; exact h0 c z
    · by_cases d : i = 0
      · subst d; exact iso 1 (by omega) (by omega) _ z
      · exact iso i (by omega) i1 _ (m.1.1 _ _ z)
  have nw' : ∀ i, 0 ≤ i → i ≤ K → ¬ A (w (i + 1)) (w i) := fun i i0 i1 z => nw i i0 i1 (m.1.1 _ _ z)
  have rw_ : ∀ i j, 1 ≤ i → i ≤ K → 0 ≤ j → j < n → r j ≠ w i := fun i j i0 i1 j0 j1 z => iso i i0 i1 _ (z ▸ m.1.1 _ _ (ra' j j0 j1).1)
  -- other rows keep
  have og : ∀ g, 0 ≤ g → g < F → g ≠ f → ∀ k, 0 ≤ k → k < L g → R' g k = R g k ∧ R' g (nr (L g) k) = R g (nr (L g) k) ∧ R' g (nr (L g) (nr (L g) k)) = R g (nr (L g) (nr (L g) k)) := by
    intro g g0 g1 gf k k0 k1
    have z1 := nr_rng k0 k1
    have z2 := nr_rng z1.1 z1.2
    exact ⟨(ho g g0 g1 gf).2 k k0 k1, (ho g g0 g1 gf).2 _ z1.1 z1.2, (ho g g0 g1 gf).2 _ z2.1 z2.2⟩
  have inA : ∀ u v, A u v → piA A w K u v := fun u v z => Or.inl z
  have hin1 : ∀ j, 0 ≤ j → j < B + 1 + K → piA A w K (R' f j) (R' f (nr (B + 1 + K) j)) := by
    intro j j0 j1
    rcases q1 j j0 j1 with ⟨c, e1, e2⟩ | ⟨i, i0, i1, c, e1, e2⟩
    · rw [e1, e2]; exact Or.inl (rA j j0 (by omega))
    · rw [e1, e2]; exact Or.inr ⟨i, i0, i1, Or.inr ⟨rfl, rfl⟩⟩
  have hin2 : ∀ j, 0 ≤ j → j < n - B + 1 + K → piA A w K (R' F j) (R' F (nr (n - B + 1 + K) j)) := by
    intro j j0 j1
    rcases q2 j j0 j1 with ⟨c, e1, e2⟩ | ⟨i, i0, i1, c, e1, e2⟩
    · rw [e1, e2]; exact Or.inl (ra' (B + j) (by omega) (by omega)).1
    · rw [e1, e2]; exact Or.inr ⟨i, i0, i1, Or.inl ⟨rfl, rfl⟩⟩
  have iw : ∀ {i i' : Int}, i = i' → w i = w i' := fun e => by rw [e]
  have ir : ∀ {i i' : Int}, i = i' → r i = r i' := fun e => by rw [e]
  have B3 : ¬ (B = 1 ∧ K = 0) := fun z => by
    refine h0 z.2 ?_
    rw [w0, show (1 : Int) = K + 1 by omega, wB, z.1]
    exact rA 0 (by omega) (by omega)
  have B4 : ¬ (B = n - 1 ∧ K = 0) := fun z => by
    refine h0 z.2 (m.1.1 _ _ ?_)
    rw [w0, show (1 : Int) = K + 1 by omega, wB, z.1]
    exact rZ.1
  have row1 : RW (piA A w K) nx' (L' f) (R' f) := by
    rw [hL1]
    refine ⟨by omega, fun j j0 j1 => ⟨hin1 j j0 j1, ?_⟩, fun k l k0 k1 k2 => ?_⟩
    · have z := nr_rng j0 j1
      rcases q1 j j0 j1 with ⟨c, e1, e2⟩ | ⟨i, i0, i1, c, e1, e2⟩
      · have en : nr (B + 1 + K) j = j + 1 := nr_lt (by omega)
        rcases q1 _ z.1 z.2 with ⟨d, e3, e4⟩ | ⟨i', i0', i1', d, e3, e4⟩
        · rw [e4, e1, e2, en]
          rw [en] at d
          rw [a3 _ _ (rA j j0 (by omega)) (fun y => rd' j (n - 1) j0 (by omega) (by omega) y.1) (fun y => rd' (j + 1) B (by omega) d B1 (y.2.trans wB)), rN j j0 (by omega)]
          exact ir (by omega)
        · rw [e4, e1, e2]
          rw [en] at d
          have : i' = K := by omega
          have e5 : j = B - 1 := by omega
          rw [this, ir e5, show j + 1 = B by omega, ← wB]; exact a5
      · rcases q1 _ z.1 z.2 with ⟨d, e3, e4⟩ | ⟨i', i0', i1', d, e3, e4⟩
        · by_cases y : j + 1 = B + 1 + K
          · have en := nr_eq y
            rw [e4, e1, e2, en]
            have : i = 0 := by omega
            rw [this]
            show nx' (w (0 + 1)) (w 0) = r (0 + 1)
            rw [show (0 : Int) + 1 = 1 by omega, a6, w0]; exact rZ.2
          · rw [nr_lt (by omega)] at d; omega
        · by_cases y : j + 1 = B + 1 + K
          · rw [nr_eq y] at d; omega
          · rw [nr_lt (by omega)] at d
            rw [e4, e1, e2]
            have e5 : i = i' + 1 := by omega
            have := (a8 i' i0' (by omega)).2
            rw [e5, show i' + 1 + 1 = i' + 2 by omega]; exact this
    · by_cases c : l ≤ B
      · rw [hR1 k k0 (by omega), hR1 l (by omega) c]; exact rd' k l k0 k1 (by omega)
      · rw [hR1b l (by omega) k2]
        by_cases d : k ≤ B
        · rw [hR1 k k0 d]; exact rw_ _ _ (by omega) (by omega) k0 (by omega)
        · rw [hR1b k (by omega) (by omega)]; exact (wd _ _ (by omega) (by omega) (by omega)).symm
  have row2 : RW (piA A w K) nx' (L' F) (R' F) := by
    rw [hL2]
    refine ⟨by omega, fun j j0 j1 => ⟨hin2 j j0 j1, ?_⟩, fun k l k0 k1 k2 => ?_⟩
    · have z := nr_rng j0 j1
      rcases q2 j j0 j1 with ⟨c, e1, e2⟩ | ⟨i, i0, i1, c, e1, e2⟩
      · have en : nr (n - B + 1 + K) j = j + 1 := nr_lt (by omega)
        rcases q2 _ z.1 z.2 with ⟨d, e3, e4⟩ | ⟨i', i0', i1', d, e3, e4⟩
        · rw [e4, e1, e2, en]
          rw [en] at d
          have e5 : nr n (B + j) = B + j + 1 := nr_lt (by omega)
          have e6 := ra' (B + j) (by omega) (by omega)
          rw [e5] at e6
          rw [e5, a3 _ _ e6.1 (fun y => rd' 0 (B + j + 1) (by omega) (by omega) (by omega) (w0.symm.trans y.2.symm)) (fun y => rd' B (B + j + 1) (by omega) (by omega) (by omega) (wB.symm.trans y.2.symm)), e6.2]
          rw [show B + (j + 1) = B + j + 1 by omega]
        · rw [e4, e1, e2]
          rw [en] at d
          have : i' = 0 := by omega
          rw [this, nr_eq (by omega : B + j + 1 = n), ir (show B + j = n - 1 by omega), ← w0]; exact a4
      · rcases q2 _ z.1 z.2 with ⟨d, e3, e4⟩ | ⟨i', i0', i1', d, e3, e4⟩
        · by_cases y : j + 1 = n - B + 1 + K
          · have en := nr_eq y
            rw [e4, e1, e2, en]
            have : i = K := by omega
            rw [this, a7, wB, show B + 0 = B by omega]
            have e6 := (ra' (B - 1) (by omega) (by omega)).2
            rw [nr_lt (by omega : B - 1 + 1 < n), show B - 1 + 1 = B by omega] at e6
            exact e6
          · rw [nr_lt (by omega)] at d; omega
        · by_cases y : j + 1 = n - B + 1 + K
          · rw [nr_eq y] at d; omega
          · rw [nr_lt (by omega)] at d
            rw [e4, e1, e2]
            have e5 : i' = i + 1 := by omega
            have := (a8 i i0 (by omega)).1
            rw [e5, show i + 1 + 1 = i + 2 by omega]; exact this
    · have v : ∀ k, 0 ≤ k → k < n - B + 1 + K → (k < n - B ∧ R' F k = r (B + k)) ∨ (k = n - B ∧ R' F k = r 0) ∨ (n - B < k ∧ R' F k = w (k - (n - B))) := by
        intro k k0 k1
        by_cases c : k < n - B
        · exact Or.inl ⟨c, hR2 k k0 c⟩
        · by_cases d : k = n - B
          · exact Or.inr (Or.inl ⟨d, by rw [d]; exact hR2a⟩)
          · exact Or.inr (Or.inr ⟨by omega, hR2b k (by omega) k1⟩)
      rcases v k k0 (by omega) with ⟨c, e⟩ | ⟨c, e⟩ | ⟨c, e⟩ <;> rcases v l (by omega) k2 with ⟨c', e'⟩ | ⟨c', e'⟩ | ⟨c', e'⟩ <;> rw [e, e']
      · exact rd' _ _ (by omega) (by omega) (by omega)
      · exact (rd' _ _ (by omega) (by omega) (by omega)).symm
      · exact rw_ _ _ (by omega) (by omega) (by omega) (by omega)
      · omega
      · omega
      · exact rw_ _ _ (by omega) (by omega) (by omega) (by omega)
      · omega
      · omega
      · exact wd _ _ (by omega) (by omega) (by omega)
  have row3 : ∀ g, 0 ≤ g → g < F → g ≠ f → RW (piA A w K) nx' (L' g) (R' g) := by
    intro g g0 g1 gf
    obtain ⟨b1, b2, b3⟩ := hRW g g0 g1
    rw [(ho g g0 g1 gf).1]
    refine ⟨b1, fun k k0 k1 => ?_, fun k l k0 k1 k2 => ?_⟩
    · have z := nr_rng k0 k1
      obtain ⟨e1, e2, e3⟩ := og g g0 g1 gf k k0 k1
      rw [e1, e2, e3]
      refine ⟨Or.inl (b2 k k0 k1).1, ?_⟩
      rw [a3 _ _ (b2 k k0 k1).1 (fun y => gf ?_) (fun y => gf ?_)]
      · exact (b2 k k0 k1).2
      · refine hU g k f (n - 1) g0 g1 k0 k1 f0 f1 (by omega) (by omega) (by rw [hr _ (by omega) (by omega)]; exact y.1) ?_
        rw [hL, nr_eq (by omega : n - 1 + 1 = n), hr 0 (by omega) (by omega), ← w0]; exact y.2
      · refine hU g k f (B - 1) g0 g1 k0 k1 f0 f1 (by omega) (by omega) (by rw [hr _ (by omega) (by omega)]; exact y.1) ?_
        rw [hL, nr_lt (by omega : B - 1 + 1 < n), show B - 1 + 1 = B by omega, hr B (by omega) (by omega), ← wB]; exact y.2
    · rw [(ho g g0 g1 gf).2 k k0 (by omega), (ho g g0 g1 gf).2 l (by omega) k2]; exact b3 k l k0 k1 k2
  refine ⟨nx', ρ', a1, a2, fun g g0 g1 => ?_, fun u v hA => ?_, ?_⟩
  · by_cases c : g = f
    · rw [c]; exact row1
    · by_cases d : g = F
      · rw [d]; exact row2
      · exact row3 g g0 (by omega) c
  · rcases hA with hA | ⟨i, i0, i1, ⟨hu, hv⟩ | ⟨hu, hv⟩⟩
    · obtain ⟨g, k, g0, g1, k0, k1, e1, e2⟩ := hC u v hA
      by_cases c : g = f
      · subst c
        rw [hL] at k1 e2
        have z := nr_rng k0 k1
        rw [hr k k0 k1] at e1
        rw [hr _ z.1 z.2] at e2
        by_cases d : k < B
        · refine ⟨g, k, g0, by omega, k0, by rw [hL1]; omega, ?_, ?_⟩
          · rw [hR1 k k0 (by omega)]; exact e1
          · rw [hL1, nr_lt (by omega), hR1 _ (by omega) (by omega), ← e2, nr_lt (by omega)]
        · have q := q2 (k - B) (by omega) (by omega)
          rcases q with ⟨_, x1, x2⟩ | ⟨i, i0, i1, x0, _⟩
          · rw [show B + (k - B) = k by omega] at x1 x2
            exact ⟨F, k - B, by omega, by omega, by omega, by rw [hL2]; omega, by rw [x1]; exact e1, by rw [hL2, x2]; exact e2⟩
          · omega
      · obtain ⟨x1, x2, _⟩ := og g g0 g1 c k k0 k1
        exact ⟨g, k, g0, by omega, k0, by rw [(ho g g0 g1 c).1]; exact k1, by rw [x1]; exact e1, by rw [(ho g g0 g1 c).1, x2]; exact e2⟩
    · rcases q2 (n - B + i) (by omega) (by omega) with ⟨z, _⟩ | ⟨i', i0', i1', x0, x1, x2⟩
      · omega
      · have : i' = i := by omega
        rw [this] at x1 x2
        exact ⟨F, n - B + i, by omega, by omega, by omega, by rw [hL2]; omega, by rw [x1]; exact hu.symm, by rw [hL2, x2]; exact hv.symm⟩
    · rcases q1 (B + K - i) (by omega) (by omega) with ⟨z, _⟩ | ⟨i', i0', i1', x0, x1, x2⟩
      · omega
      · have : i' = i := by omega
        rw [this] at x1 x2
        exact ⟨f, B + K - i, f0, by omega, by omega, by rw [hL1]; omega, by rw [x1]; exact hu.symm, by rw [hL1, x2]; exact hv.symm⟩
  · have u1 : ∀ k l, 0 ≤ k → k < L' f → 0 ≤ l → l < L' F → R' f k = R' F l → R' f (nr (L' f) k) = R' F (nr (L' F) l) → False := by
      intro k l k0 k1 l0 l1 e1 e2
      rw [hL1] at k1 e2
      rw [hL2] at l1 e2
      rcases q1 k k0 k1 with ⟨c, x1, x2⟩ | ⟨i, i0, i1, c, x1, x2⟩ <;> rcases q2 l l0 l1 with ⟨d, y1, y2⟩ | ⟨i', i0', i1', d, y1, y2⟩ <;> rw [x1, y1] at e1 <;> rw [x2, y2] at e2
      · exact rd' k (B + l) k0 (by omega) (by omega) e1
      · have := rA k k0 (by omega); rw [e1, e2] at this; exact nw i' i0' i1' this
      · have := (ra' (B + l) (by omega) (by omega)).1; rw [← e1, ← e2] at this; exact nw' i i0 i1 this
      · have z1 : i + 1 = i' := Classical.byContradiction (fun z => by
          rcases Int.lt_or_gt_of_ne z with y | y
          · exact wd _ _ (by omega) y (by omega) e1
          · exact wd _ _ (by omega) y (by omega) e1.symm)
        exact wd i (i' + 1) i0 (by omega) (by omega) e2
    have u2 : ∀ g k l, 0 ≤ g → g < F → g ≠ f → 0 ≤ k → k < L' f → 0 ≤ l → l < L' g → R' f k = R' g l → R' f (nr (L' f) k) = R' g (nr (L' g) l) → False := by
      intro g k l g0 g1 gf k0 k1 l0 l1 e1 e2
      rw [(ho g g0 g1 gf).1] at l1 e2
      obtain ⟨y1, y2, _⟩ := og g g0 g1 gf l l0 l1
      rw [hL1] at k1 e2
      rw [y1] at e1
      rw [y2] at e2
      rcases q1 k k0 k1 with ⟨c, x1, x2⟩ | ⟨i, i0, i1, c, x1, x2⟩ <;> rw [x1] at e1 <;> rw [x2] at e2
      · refine gf (hU g l f k g0 g1 l0 l1 f0 f1 k0 (by omega) (by rw [hr k k0 (by omega)]; exact e1.symm) ?_)
        rw [hL, nr_lt (by omega : k + 1 < n), hr _ (by omega) (by omega)]; exact e2.symm
      · have := ((hRW g g0 g1).2.1 l l0 l1).1; rw [← e1, ← e2] at this; exact nw' i i0 i1 this
    have u3 : ∀ g k l, 0 ≤ g → g < F → g ≠ f → 0 ≤ k → k < L' F → 0 ≤ l → l < L' g → R' F k = R' g l → R' F (nr (L' F) k) = R' g (nr (L' g) l) → False := by
      intro g k l g0 g1 gf k0 k1 l0 l1 e1 e2
      rw [(ho g g0 g1 gf).1] at l1 e2
      obtain ⟨y1, y2, _⟩ := og g g0 g1 gf l l0 l1
      rw [hL2] at k1 e2
      rw [y1] at e1
      rw [y2] at e2
      rcases q2 k k0 k1 with ⟨c, x1, x2⟩ | ⟨i, i0, i1, c, x1, x2⟩ <;> rw [x1] at e1 <;> rw [x2] at e2
      · have z := nr_rng (L := n) (k := B + k) (by omega) (by omega)
        refine gf (hU g l f (B + k) g0 g1 l0 l1 f0 f1 (by omega) (by omega) (by rw [hr _ (by omega) (by omega)]; exact e1.symm) ?_)
        rw [hL, hr _ z.1 z.2]; exact e2.symm
      · have := ((hRW g g0 g1).2.1 l l0 l1).1; rw [← e1, ← e2] at this; exact nw i i0 i1 this
    intro g k g' l g0 g1 k0 k1 g0' g1' l0 l1 e1 e2
    by_cases c : g = g'
    · exact c
    · exfalso
      by_cases c1 : g = f
      · subst c1
        by_cases c2 : g' = F
        · subst c2; exact u1 k l k0 k1 l0 l1 e1 e2
        · exact u2 g' k l g0' (by omega) (fun z => c z.symm) k0 k1 l0 l1 e1 e2
      · by_cases c1' : g' = f
        · subst c1'
          by_cases c2 : g = F
          · subst c2; exact u1 l k l0 l1 k0 k1 e1.symm e2.symm
          · exact u2 g l k g0 (by omega) c1 l0 l1 k0 k1 e1.symm e2.symm
        · by_cases c2 : g = F
          · subst c2; exact u3 g' k l g0' (by omega) c1' k0 k1 l0 l1 e1 e2
          · by_cases c3 : g' = F
            · subst c3; exact u3 g l k g0 (by omega) c1 l0 l1 k0 k1 e1.symm e2.symm
            · obtain ⟨x1, x2, _⟩ := og g g0 (by omega) c1 k k0 (by rw [← (ho g g0 (by omega) c1).1]; exact k1)
              obtain ⟨y1, y2, _⟩ := og g' g0' (by omega) c1' l l0 (by rw [← (ho g' g0' (by omega) c1').1]; exact l1)
              rw [(ho g g0 (by omega) c1).1] at e2 k1
              rw [(ho g' g0' (by omega) c1').1] at e2 l1
              rw [x1, y1] at e1
              rw [x2, y2] at e2
              exact c (hU g k g' l g0 (by omega) k0 k1 g0' (by omega) l0 l1 e1 e2)
