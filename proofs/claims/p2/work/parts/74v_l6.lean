/-! greedyOrder's end, placeIn, turnEdges -/
def ISX (n : Int) (mb : Int → Int) (v z : Int) : Prop := z ≠ 0 → ∃ t, 0 ≤ t ∧ t < n ∧ mb t = v
def LMX (n : Int) (lf mb : Int → Int) (k : Int) : Prop := ∀ v, 0 ≤ v → v < k → lf v ≠ 0 → ∃ t, 0 ≤ t ∧ t < n ∧ mb t = v
theorem lmx_step {n k k' q v z : Int} {lf lf' mb : Int → Int} (h : LMX n lf mb k) (hk : k' = k + 1) (hs : st1 lf lf' q v) (hq : q = k) (hi : ISX n mb k z) (hv : v = z) : LMX n lf' mb k' := by
  intro x a b c
  by_cases e : x = k
  · rw [(hs x a).1 (by omega), hv] at c; rw [e]; exact hi c
  · rw [(hs x a).2 (by omega)] at c; exact h x a (by omega) c
theorem cnl_cover {mb : Int → Int} (N : Nat) (n : Nat) : ∀ f : Int → Int, (∀ v : Int, 0 ≤ v → v < N → f v ≠ 0 → ∃ t, 0 ≤ t ∧ t < (n : Int) ∧ mb t = v) → cnl f N ≤ n := by
  induction n with
  | zero =>
    intro f h
    by_cases z : 1 ≤ cnl f N
    · obtain ⟨v, a, b, c⟩ := cnl_ex N z
      obtain ⟨t, t0, t1, _⟩ := h v a b c
      push_cast at t1; omega
    · push_cast; omega
  | succ n ih =>
    intro f h
    have i1 := ih (fun v => if v = mb n then 0 else f v) (fun v a b c => by
      by_cases e : v = mb n
      · rw [if_pos e] at c; exact absurd rfl c
      · rw [if_neg e] at c
        obtain ⟨t, t0, t1, t2⟩ := h v a b c
        refine ⟨t, t0, ?_, t2⟩
        by_cases q : t = n
        · rw [q] at t2; exact absurd t2.symm e
        · push_cast at t1; omega)
    by_cases z : 0 ≤ mb n ∧ mb n < N ∧ f (mb n) ≠ 0
    · have := cnl_zero (f := f) (g := fun v => if v = mb n then 0 else f v) N z.1 z.2.1 z.2.2 (if_pos rfl) (fun j _ b => if_neg b)
      push_cast; omega
    · have := cnl_same (f := f) (g := fun v => if v = mb n then 0 else f v) N (fun j a b => by
        by_cases e : j = mb n
        · rw [if_pos e]
          by_cases q : f j = 0
          · exact q.symm
          · exact absurd ⟨by omega, by omega, by rw [← e]; exact q⟩ z
        · rw [if_neg e])
      push_cast; omega
theorem gle_start {n r k a b : Int} {A lf mb : Int → Int} (n0 : 0 ≤ n) (h : LMX n lf mb k) (hk : A r ≤ k) (ha : a = 0) (hb : b = n - 1) : GLE r A lf a b := by
  have := cnl_cover (mb := mb) (A r).toNat n.toNat lf (fun v x y z => by
    obtain ⟨t, t0, t1, t2⟩ := h v x (by omega) z
    exact ⟨t, t0, by omega, t2⟩)
  unfold GLE; omega
theorem gle_step {r a b a' b' x q v : Int} {A lf lf' : Int → Int} (h : GLE r A lf a b) (hx : 0 ≤ x ∧ lf x ≠ 0 ∧ x < A r) (hs : st1 lf lf' q v) (hq : q = x) (hv : v = 0) (hab : b' - a' = b - a - 1) : GLE r A lf' a' b' := by
  have := cnl_zero (f := lf) (g := lf') (A r).toNat hx.1 (by omega) hx.2.1 (by rw [(hs x hx.1).1 hq.symm, hv]) (fun j a b => (hs j a).2 (by omega))
  unfold GLE at h ⊢; omega
theorem gle_end {n r a b : Int} {A lf be mb : Int → Int} (h : GLE r A lf a b) (hb : GBE n lf be mb a b) (hM : MBN n r mb A) (hab : b < a) : BST n be mb := fun k k0 k1 => by
  have m := hM.2 k k0 k1
  have := cnl_none (f := lf) (A r).toNat (by unfold GLE at h; omega) (mb k) m.1 (by omega)
  obtain ⟨j, j0, j1, j2, j3⟩ := hb.2 k k0 k1 this
  exact ⟨j, j0, j1, j3⟩
/-- the first place -/
def PIN (n : Int) (be : Int → Int) (v k : Int) : Prop := (0 ≤ k ∧ k ≤ n) ∧ (∀ j, 0 ≤ j → j < k → be j ≠ v) ∧ (k < n → be k = v)
def PIL (be : Int → Int) (v k : Int) : Prop := ∀ j, 0 ≤ j → j < k → be j ≠ v
theorem pil_next {be : Int → Int} {v k k' x : Int} (h : PIL be v k) (hk : k' = k + 1) (hx : x = be k) (ne : x ≠ v) : PIL be v k' := by
  intro j a b
  by_cases e : j = k
  · rw [e, ← hx]; exact ne
  · exact h j a (by omega)
theorem pin_ex {n : Int} (be : Int → Int) (v : Int) (n0 : 0 ≤ n) : ∃ k, PIN n be v k := by
  have := sm_ind (P := fun n => ∃ k, PIN n be v k) ⟨0, by omega, fun j a b => by omega, fun z => by omega⟩ (fun n n0 h => by
    obtain ⟨k, h1, h2, h3⟩ := h
    by_cases z : k < n
    · exact ⟨k, by omega, h2, fun _ => h3 z⟩
    · by_cases e : be n = v
      · exact ⟨n, by omega, fun j a b => h2 j a (by omega), fun _ => e⟩
      · refine ⟨n + 1, by omega, fun j a b => ?_, fun z => by omega⟩
        by_cases q : j = n
        · rw [q]; exact e
        · exact h2 j a (by omega)) n n0
  exact this
theorem pin_un {n v k k' : Int} {be : Int → Int} (h : PIN n be v k) (h' : PIN n be v k') : k = k' := by
  by_cases a : k < k'
  · exact absurd (h.2.2 (by have := h'.1; omega)) (h'.2.1 k h.1.1 a)
  · by_cases b : k' < k
    · exact absurd (h'.2.2 (by have := h.1; omega)) (h.2.1 k' h'.1.1 b)
    · omega
def TZ (tu : Int → Int) (i : Int) : Prop := ∀ e, 0 ≤ e → e < i → tu e = 0
theorem tz_step {F F' : Int → Int} {i i' p v : Int} (h : TZ F i) (hi : i' = i + 1) (hs : st1 F F' p v) (hp : p = i) (hv : v = 0) : TZ F' i' := by
  intro x a b
  by_cases e : x = p
  · rw [(hs x a).1 e, hv]
  · rw [(hs x a).2 e]; exact h x a (by omega)
def TEI (r : Int) (A so tu : Int → Int) (p : Int) : Prop := (∀ e, 0 ≤ e → e < A (r + 1) → so (A (r + 267 + e)) ≠ so (A (r + 315 + e)) → tu e = 0) ∧ ∃ pl : Int → Int, (∀ i, 0 ≤ pl i ∧ pl i ≤ 30) ∧ ∀ e, 0 ≤ e → e < A (r + 1) → so (A (r + 267 + e)) = so (A (r + 315 + e)) → so (A (r + 267 + e)) < p → (tu e ≠ 0 → pl (A (r + 315 + e)) < pl (A (r + 267 + e))) ∧ (tu e = 0 → pl (A (r + 267 + e)) < pl (A (r + 315 + e)))
theorem tei_start {r : Int} {A so tu : Int → Int} {p i many : Int} (hS : STG r A so many) (h : TZ tu i) (hi : A (r + 1) ≤ i) (hp : p = 0) : TEI r A so tu p := by
  obtain ⟨hg, c, h1, h2⟩ := hS
  refine ⟨fun e a b _ => h e a (by omega), fun _ => 0, fun _ => by constructor <;> (try simp only []) <;> omega, fun e a b _ lt => ?_⟩
  have := h1 _ (sg_ends hg a b).1 (sg_ends hg a b).2.1
  omega
def MBC (n : Int) (mb so : Int → Int) (p i : Int) : Prop := ∀ a, 0 ≤ a → a < i → so a = p → ∃ k, 0 ≤ k ∧ k < n ∧ mb k = a
theorem mbc_take {n n' i i' p q v : Int} {mb mb' so : Int → Int} (h : MBC n mb so p i) (n0 : 0 ≤ n) (hs : st1 mb mb' q v) (hq : q = n) (hv : v = i) (hn : n' = n + 1) (hi : i' = i + 1) : MBC n' mb' so p i' := by
  intro a a0 a1 sa
  by_cases e : a = i
  · exact ⟨n, n0, by omega, by rw [(hs n n0).1 hq.symm, hv, e]⟩
  · obtain ⟨k, k0, k1, k2⟩ := h a a0 (by omega) sa
    exact ⟨k, k0, by omega, by rw [(hs k k0).2 (by omega)]; exact k2⟩
theorem mbc_skip {n i i' p s : Int} {mb so : Int → Int} (h : MBC n mb so p i) (hi : i' = i + 1) (hs : s = so i) (ne : s ≠ p) : MBC n mb so p i' := by
  intro a a0 a1 sa
  by_cases e : a = i
  · rw [e, ← hs] at sa; exact absurd sa ne
  · exact h a a0 (by omega) sa
def MBF (r n : Int) (A mb so : Int → Int) (p : Int) : Prop := MBC n mb so p (A r)
theorem tei_none {r n : Int} {A so tu mb : Int → Int} {p p' many : Int} (hS : STG r A so many) (h : TEI r A so tu p) (hM : MBF r n A mb so p) (n1 : n < 2) (hp : p' = p + 1) : TEI r A so tu p' := by
  obtain ⟨h1, pl, h2, h3⟩ := h
  refine ⟨h1, pl, h2, fun e a b c d => h3 e a b c ?_⟩
  by_cases z : so (A (r + 267 + e)) = p
  · exfalso
    have s := sg_ends hS.1 a b
    obtain ⟨k, k0, k1, k2⟩ := hM _ s.1 s.2.1 z
    obtain ⟨l, l0, l1, l2⟩ := hM _ s.2.2.1 s.2.2.2.1 (c ▸ z)
    rw [show k = 0 by omega] at k2
    rw [show l = 0 by omega] at l2
    exact s.2.2.2.2 (by rw [← k2, ← l2])
  · omega
def TEJ (r n : Int) (A so tu be : Int → Int) (p e : Int) : Prop := 0 ≤ e ∧ ∃ t0, TEI r A so t0 p ∧ ∀ f, 0 ≤ f → f < A (r + 1) → ((e ≤ f ∨ so (A (r + 267 + f)) ≠ p ∨ so (A (r + 315 + f)) ≠ p) → tu f = t0 f) ∧ ((f < e ∧ so (A (r + 267 + f)) = p ∧ so (A (r + 315 + f)) = p) → ∀ a b, PIN n be (A (r + 267 + f)) a → PIN n be (A (r + 315 + f)) b → (tu f ≠ 0 ↔ b < a))
theorem tej_start {r n : Int} {A so tu be : Int → Int} {p e : Int} (h : TEI r A so tu p) (he : e = 0) : TEJ r n A so tu be p e := ⟨by omega, tu, h, fun f _ _ => ⟨fun _ => rfl, fun z => by omega⟩⟩
theorem tej_skip {r n : Int} {A so tu be : Int → Int} {p e e' : Int} (h : TEJ r n A so tu be p e) (he : e' = e + 1) (hn : so (A (r + 267 + e)) ≠ p ∨ so (A (r + 315 + e)) ≠ p) : TEJ r n A so tu be p e' := by
  obtain ⟨e0, t0, h1, h2⟩ := h
  refine ⟨by omega, t0, h1, fun f a b => ⟨fun z => (h2 f a b).1 (by omega), fun z => (h2 f a b).2 ⟨?_, z.2⟩⟩⟩
  by_cases q : f = e
  · subst q; rcases hn with w | w
    · exact absurd z.2.1 w
    · exact absurd z.2.2 w
  · omega
theorem tej_step {r n : Int} {A so tu tu' be : Int → Int} {p e e' q v x y t d : Int} (h : TEJ r n A so tu be p e) (e1 : e < A (r + 1)) (he : e' = e + 1) (ht : t = A (r + 267 + e)) (hd : d = A (r + 315 + e)) (h1 : so t = p) (h2 : so d = p) (hx : PIN n be t x) (hy : PIN n be d y) (hs : st1 tu tu' q v) (hq : q = e) (hv : (y < x ∧ v = 1) ∨ (x ≤ y ∧ v = 0)) : TEJ r n A so tu' be p e' := by
  obtain ⟨e0, t0, g1, g2⟩ := h
  refine ⟨by omega, t0, g1, fun f a b => ?_⟩
  by_cases z : f = e
  · subst z
    rw [← ht, ← hd]
    refine ⟨fun w => by rcases w with w | w | w; omega; exact absurd h1 w; exact absurd h2 w, fun _ a' b' ha hb => ?_⟩
    rw [(hs f a).1 (by omega), pin_un ha hx, pin_un hb hy]
    omega
  · rw [(hs f a).2 (by omega)]
    exact ⟨fun w => (g2 f a b).1 (by omega), fun w => (g2 f a b).2 ⟨by omega, w.2⟩⟩
theorem tej_end {r n : Int} {A so tu be mb : Int → Int} {p p' e many : Int} (hS : STG r A so many) (h : TEJ r n A so tu be p e) (he : A (r + 1) ≤ e) (hM : MBF r n A mb so p) (hB : BST n be mb) (n0 : 0 ≤ n) (n26 : n ≤ 26) (hp : p' = p + 1) : TEI r A so tu p' := by
  obtain ⟨e0, t0, ⟨g1, pl, g2, g3⟩, h2⟩ := h
  have ex : ∀ i, ∃ k, PIN n be i k := fun i => pin_ex be i n0
  have cp : ∀ i, PIN n be i (Classical.choose (ex i)) := fun i => Classical.choose_spec (ex i)
  refine ⟨fun f a b ne => ?_, fun i => @ite Int (so i = p) (Classical.propDecidable _) (Classical.choose (ex i)) (pl i), fun i => ?_, fun f a b eq lt => ?_⟩
  · rw [(h2 f a b).1 (by
      by_cases z : so (A (r + 267 + f)) = p
      · exact Or.inr (Or.inr (fun w => ne (by rw [z, w])))
      · exact Or.inr (Or.inl z))]
    exact g1 f a b ne
  · (try simp only [])
    split
    · have := (cp i).1; omega
    · exact g2 i
  · have s := sg_ends hS.1 a b
    (try simp only [])
    by_cases z : so (A (r + 267 + f)) = p
    · have z' : so (A (r + 315 + f)) = p := by rw [← eq]; exact z
      rw [if_pos z, if_pos z']
      have q := (h2 f a b).2 ⟨by omega, z, z'⟩ _ _ (cp _) (cp _)
      have inb : ∀ i, 0 ≤ i → i < A r → so i = p → Classical.choose (ex i) < n := fun i i0 i1 si => by
        obtain ⟨k, k0, k1, k2⟩ := hM i i0 i1 si
        obtain ⟨j, j0, j1, j2⟩ := hB k k0 k1
        by_cases w : Classical.choose (ex i) < n
        · exact w
        · exact absurd (by rw [j2, k2]) ((cp i).2.1 j j0 (by omega))
      have b1 := (cp (A (r + 267 + f))).2.2 (inb _ s.1 s.2.1 z)
      have b2 := (cp (A (r + 315 + f))).2.2 (inb _ s.2.2.1 s.2.2.2.1 z')
      have ne : Classical.choose (ex (A (r + 267 + f))) ≠ Classical.choose (ex (A (r + 315 + f))) := fun w => s.2.2.2.2 (by rw [← b1, ← b2, w])
      exact ⟨fun w => q.1 w, fun w => by
        have : ¬ (Classical.choose (ex (A (r + 315 + f))) < Classical.choose (ex (A (r + 267 + f)))) := fun y => (q.2 y) w
        omega⟩
    · have z' : ¬ so (A (r + 315 + f)) = p := fun w => z (by rw [eq]; exact w)
      rw [if_neg z, if_neg z', (h2 f a b).1 (Or.inr (Or.inl z))]
      exact g3 f a b eq (by omega)
/-- from and to as they are turned -/
def frT (r : Int) (A tu : Int → Int) (e : Int) : Int := if tu e ≠ 0 then A (r + 315 + e) else A (r + 267 + e)
def toT (r : Int) (A tu : Int → Int) (e : Int) : Int := if tu e ≠ 0 then A (r + 267 + e) else A (r + 315 + e)
def TRK (r : Int) (A tu : Int → Int) : Prop := SG A r ∧ ∃ φ : Int → Int, ∀ e, 0 ≤ e → e < A (r + 1) → φ (frT r A tu e) < φ (toT r A tu e)
theorem trk_of {r : Int} {A so tu : Int → Int} {p many : Int} (hS : STG r A so many) (h : TEI r A so tu p) (hp : many ≤ p) : TRK r A tu := by
  obtain ⟨hg, c, h1, h2, h3⟩ := hS
  obtain ⟨g1, pl, g2, g3⟩ := h
  refine ⟨hg, fun i => 100 * c i + pl i, fun e a b => ?_⟩
  have s := sg_ends hg a b
  unfold frT toT
  have p1 := g2 (A (r + 267 + e))
  have p2 := g2 (A (r + 315 + e))
  by_cases z : so (A (r + 267 + e)) = so (A (r + 315 + e))
  · have q := g3 e a b z (by have := h1 _ s.1 s.2.1; omega)
    have ce := h2 _ _ s.1 s.2.1 s.2.2.1 s.2.2.2.1 z
    by_cases w : tu e ≠ 0
    · rw [if_pos w, if_pos w]; have := q.1 w; (try simp only []); omega
    · rw [if_neg w, if_neg w]; have := q.2 (by omega); (try simp only []); omega
  · have t0 := g1 e a b z
    have := h3 e a b z
    rw [if_neg (fun w => w t0), if_neg (fun w => w t0)]
    (try simp only [])
    omega
/-- any potential can be pressed into 0 .. 23 -/
theorem trk_rk {r : Int} {A tu : Int → Int} (h : TRK r A tu) : ∃ rk : Int → Int, (∀ i, 0 ≤ i → i < A r → 0 ≤ rk i ∧ rk i ≤ 23) ∧ ∀ e, 0 ≤ e → e < A (r + 1) → rk (frT r A tu e) + 1 ≤ rk (toT r A tu e) := by
  obtain ⟨hg, φ, hφ⟩ := h
  have n24 := hg.1
  have fb : ∀ e, 0 ≤ e → e < A (r + 1) → (0 ≤ frT r A tu e ∧ frT r A tu e < A r) ∧ 0 ≤ toT r A tu e ∧ toT r A tu e < A r := fun e a b => by
    have s := sg_ends hg a b
    unfold frT toT
    split <;> omega
  refine ⟨fun i => sm (fun j => if φ j < φ i then 1 else 0) (A r), fun i a b => ?_, fun e a b => ?_⟩
  · have h1 := sm_nn (f := fun j => if φ j < φ i then (1 : Int) else 0) (n := A r) (fun j _ _ => by (try simp only []); split <;> omega)
    have h2 := smlt (f := fun j => if φ j < φ i then (1 : Int) else 0) (g := fun _ => (1 : Int)) (n := A r) (i := i) a b (fun j _ _ => by (try simp only []); split <;> omega) (by (try simp only []); rw [if_neg (by omega)]; omega)
    have h3 := (smrg (f := fun _ => (1 : Int)) (lo := 1) (hi := 1) (n := A r) (by omega) (fun j _ _ => by omega)).2
    (try simp only [])
    omega
  · have q := hφ e a b
    have b1 := fb e a b
    exact smlt (f := fun j => if φ j < φ (frT r A tu e) then (1 : Int) else 0) (g := fun j => if φ j < φ (toT r A tu e) then (1 : Int) else 0) (n := A r) (i := frT r A tu e) b1.1.1 b1.1.2 (fun j _ _ => by
      (try simp only [])
      by_cases z : φ j < φ (frT r A tu e)
      · rw [if_pos z, if_pos (by omega)]; omega
      · rw [if_neg z]; split <;> omega) (by (try simp only []); rw [if_neg (by omega), if_pos q]; omega)
def WM0 (r : Int) (A R : Int → Int) (k i : Int) : Prop := WM r A R k i 0
