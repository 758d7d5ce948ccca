/-! orders of a layer: digits, slots, pairs -/
def OPD (p n : Int) : Prop := 0 ≤ p ∧ ∀ i, 0 ≤ i → i < n → p / 8 ^ i.toNat % 8 < n
theorem ord_opd {od ls : Int → Int} {l k n f x p a b : Int} (h : ORD od) (hk : KLT ls l k) (hn : n = ls (l + 1) - ls l) (n1 : n ≤ 6) (hf : TBS n f) (hx : x = f + k) (hp : p = od x) (p0 : 0 ≤ p) (_ : a = b) : OPD p n := ⟨p0, fun i i0 i1 => by
  have := h n k i (by omega) n1 hk.1 (by rw [hn]; exact hk.2) i0 i1
  rw [hp, hx, hf]; exact this⟩
theorem opd_dig {p n s q d i sv : Int} (h : OPD p n) (n6 : n ≤ 6) (p1 : p ≤ 2147483647) (hs : bvp q = bvp p >>> s.toNat) (h3 : s = i * 3) (hd : bvp d = bvp q &&& bvp sv) (hv : sv = 7) (i0 : 0 ≤ i) (i1 : i < n) (d0 : 0 ≤ d) (d1 : d ≤ 7) : 0 ≤ d ∧ d < n := by
  have e := dig_shr (three := 3) (m := 0) hs h3 rfl hd hv h.1 p1 i0 (by omega) d0 d1 rfl
  have := h.2 i i0 i1
  omega
theorem klt_tbc {ls : Int → Int} {l k n v : Int} (hn : n = ls (l + 1) - ls l) (hv : TBC n v) (k0 : 0 ≤ k) (k1 : k < v) : KLT ls l k := by
  unfold KLT; rw [← hn, ← hv]; exact ⟨k0, k1⟩
theorem klt_zero {ls : Int → Int} {l k : Int} (hk : k = 0) : KLT ls l k := ⟨by omega, by have := (cof_rng (ls (l + 1) - ls l)).1; omega⟩
theorem klt_le {ls : Int → Int} {l k n f : Int} (h : KLT ls l k) (hn : n = ls (l + 1) - ls l) (hf : TBS n f) : 0 ≤ f + k ∧ f + k ≤ 872 := by
  have q := cof_rng n
  have h1 := h.1
  have h2 := h.2
  rw [← hn] at h2
  unfold TBS at hf
  omega
theorem tbc_le {n v : Int} (h : TBC n v) : 1 ≤ v ∧ v ≤ 720 ∧ (n ≤ 5 → v ≤ 120) := by
  have q := cof_rng n
  unfold TBC at h; omega
/-- slots of items -/
def SLT (it : Int) (sl : Int → Int) : Prop := ∀ i, 0 ≤ i → i < it → 0 ≤ sl i ∧ sl i ≤ 5
def SLA (it : Int) (lo sl : Int → Int) (wd l : Int) : Prop := ∀ i, 0 ≤ i → i < it → 0 ≤ lo i → lo i < l → 0 ≤ sl i ∧ sl i < wd
def SLB (it : Int) (lo sl ls : Int → Int) (wd l i ct : Int) : Prop := SLA it lo sl wd l ∧ 0 ≤ i ∧ ∀ j, 0 ≤ j → j < i → j < it → lo j = l → 0 ≤ sl j ∧ sl j < ct - ls l
def SLW (it lc : Int) (lo sl : Int → Int) (wd : Int) : Prop := (∀ i, 0 ≤ i → i < it → 0 ≤ lo i ∧ lo i < lc) → ∀ i, 0 ≤ i → i < it → 0 ≤ sl i ∧ sl i < wd
theorem sla_start {it wd l : Int} {lo sl : Int → Int} (hl : l = 0) : SLA it lo sl wd l := fun i a b c d => by omega
theorem slb_start {it wd l i ct : Int} {lo sl ls : Int → Int} (h : SLA it lo sl wd l) (hi : i = 0) : SLB it lo sl ls wd l i ct := ⟨h, by omega, fun j a b => by omega⟩
theorem slb_skip {it wd l i i' ct : Int} {lo sl ls : Int → Int} (h : SLB it lo sl ls wd l i ct) (hn : lo i ≠ l) (hi : i' = i + 1) : SLB it lo sl ls wd l i' ct := ⟨h.1, by have := h.2.1; omega, fun j a b c d => by
  by_cases e : j = i
  · rw [e] at d; exact absurd d hn
  · exact h.2.2 j a (by omega) c d⟩
theorem slb_take {it wd l i i' ct ct' p x : Int} {lo sl sl' ls : Int → Int} (h : SLB it lo sl ls wd l i ct) (he : lo i = l) (hs : st1 sl sl' p x) (hp : p = i) (hx : x = ct - ls l) (x0 : 0 ≤ x) (hi : i' = i + 1) (hc : ct' = ct + 1) : SLB it lo sl' ls wd l i' ct' := by
  obtain ⟨h1, h2, h3⟩ := h
  refine ⟨fun j a b c d => ?_, by omega, fun j a b c d => ?_⟩
  · rw [(hs j a).2 (fun e => by rw [e, hp, he] at d; omega)]; exact h1 j a b c d
  · by_cases e : j = i
    · rw [(hs j a).1 (by omega)]; omega
    · rw [(hs j a).2 (by omega)]; have := h3 j a (by omega) c d; omega
theorem sla_next {it wd wd' l l' i ct : Int} {lo sl ls : Int → Int} (h : SLB it lo sl ls wd l i ct) (hi : it ≤ i) (hl : l' = l + 1) (h1 : wd ≤ wd') (h2 : ct - ls l ≤ wd') : SLA it lo sl wd' l' := fun j a b c d => by
  by_cases e : lo j = l
  · have := h.2.2 j a (by omega) b e; omega
  · have := h.1 j a b c (by omega); omega
theorem slw_of {it lc wd l : Int} {lo sl : Int → Int} (h : SLA it lo sl wd l) (hl : lc ≤ l) : SLW it lc lo sl wd := fun q i a b => h i a b (q i a b).1 (by have := (q i a b).2; omega)
theorem slt_of {it lc wd n m : Int} {lo sl fj tl hd tu : Int → Int} (h : SLW it lc lo sl wd) (hm : MIT it lc n m lo fj tl hd tu) (hw : wd ≤ 6) : SLT it sl := fun i a b => by
  have := h hm.2.2.2.2.1 i a b; omega
theorem slt_pcl {it lc l i x y : Int} {sl pl ps : Int → Int} (h : SLT it sl) (hp : PCL it lc pl ps) (l0 : 0 ≤ l) (l1 : l + 2 ≤ lc) {e q : Int} (he : q = l + 1) (hq : e = ps q) (i0 : 0 ≤ i) (hi : i < e) (hx : x = pl i) (hy : y = sl x) : 0 ≤ y ∧ y ≤ 5 := by
  have r := (hp q (by omega) (by omega)).2 i i0 (by omega)
  rw [← hx] at r
  have := h x r.1 r.2
  rw [← hy] at this; exact this
/-! how many bits -/
theorem cnN_is {x : Int} (x0 : 0 ≤ x) (k : Nat) (hk : k ≤ 32) : cnb (bit x) k = (cnN x.toNat k : Int) := by
  induction k with
  | zero => rfl
  | succ k ih =>
    have i1 := ih (by omega)
    have e : bit x (k : Int) ↔ x.toNat.testBit k = true := by
      have := bit_nat (w := (k : Int)) x0 (by omega) (by omega)
      rw [Int.toNat_natCast] at this; exact this
    show _ = ((cnN x.toNat k + (if x.toNat.testBit k then 1 else 0) : Nat) : Int)
    by_cases q : bit x (k : Int)
    · rw [cnb_pos q, i1, if_pos (e.mp q)]; push_cast; omega
    · rw [cnb_neg q, i1, if_neg (fun z => q (e.mpr z))]; push_cast; omega
noncomputable def pc6 (x : Int) : Int := cnb (bit x) 6
def BC6 (x an : Int) : Prop := 0 ≤ x → x ≤ 63 → an = pc6 x
def BLe (k x : Int) : Prop := 0 ≤ x ∧ x ≤ 63 ∧ pc6 x ≤ k
def BL1 (x : Int) : Prop := BLe 1 x
def BL2 (x : Int) : Prop := BLe 2 x
def BL3 (x : Int) : Prop := BLe 3 x
def BL4 (x : Int) : Prop := BLe 4 x
def BL5 (x : Int) : Prop := BLe 5 x
def BL6 (x : Int) : Prop := BLe 6 x
theorem bl6_all {x : Int} (x0 : 0 ≤ x) (x1 : x ≤ 63) : BLe 6 x := ⟨x0, x1, by have := (cnb_le (bit x) 6).2; unfold pc6; omega⟩
/-- one taken out -/
theorem ble_del {k k' x q r y m1 a : Int} (h : BLe k x) (a0 : 0 ≤ a) (a1 : a < 6) (hb : bit x a) (hq : bvp q = bvp 1 <<< a.toNat) (hr : bvp r = bvp q ^^^ bvp m1) (hm : m1 = -1) (hy : bvp y = bvp x &&& bvp r) (y0 : 0 ≤ y) (y1 : y ≤ 63) (hk : k' = k - 1) : BLe k' y := by
  have by' : ∀ w, 0 ≤ w → w < 32 → (bit y w ↔ bit x w ∧ w ≠ a) := fun w a' b' => by rw [bit_and hy, bit_xor hr hm a' b', bit_shl hq rfl a0 a' b']
  have c := cnb_more (P := bit y) (Q := bit x) 6 (fun j j0 j1 z => ((by' j j0 (by omega)).mp z).1) a0 (by omega) (fun z => ((by' a a0 (by omega)).mp z).2 rfl) hb
  refine ⟨y0, y1, ?_⟩
  have := h.2.2
  unfold pc6 at *; omega
/-- places of orders while bits are gone through -/
def SKe (C x a nx fs : Int) : Prop := 0 ≤ a ∧ a ≤ 6 ∧ fs ≤ nx ∧ nx ≤ fs + C * cnb (bit x) a.toNat
theorem ske_start {C x a nx fs : Int} (ha : a = 0) (hn : nx = fs) : SKe C x a nx fs := by
  subst ha
  exact ⟨by omega, by omega, by omega, by rw [show (0 : Int).toNat = 0 from rfl]; show nx ≤ fs + C * 0; omega⟩
theorem cnb_up {P : Int → Prop} {a b : Nat} (h : a ≤ b) : cnb P a ≤ cnb P b := by
  induction b with
  | zero => rw [show a = 0 by omega]; exact Int.le_refl _
  | succ b ih =>
    by_cases e : a = b + 1
    · rw [e]; exact Int.le_refl _
    · have := ih (by omega)
      by_cases q : P (b : Int)
      · rw [cnb_pos q]; omega
      · rw [cnb_neg q]; omega
theorem ske_skip {C x a a' nx fs : Int} (h : SKe C x a nx fs) (a5 : a < 6) (c0 : 0 ≤ C) (ha : a' = a + 1) : SKe C x a' nx fs := by
  obtain ⟨h1, h2, h3, h4⟩ := h
  refine ⟨by omega, by omega, h3, ?_⟩
  have := cnb_up (P := bit x) (a := a.toNat) (b := a'.toNat) (by omega)
  have := Int.mul_le_mul_of_nonneg_left this c0
  omega
theorem ske_step {C x a a' nx nx' fs v : Int} (h : SKe C x a nx fs) (a5 : a < 6) (hb : bit x a) (hv : v ≤ C) (v0 : 0 ≤ v) (hn : nx' = nx + v) (ha : a' = a + 1) : SKe C x a' nx' fs := by
  obtain ⟨h1, h2, h3, h4⟩ := h
  refine ⟨by omega, by omega, by omega, ?_⟩
  have e : cnb (bit x) a'.toNat = cnb (bit x) a.toNat + 1 := by
    rw [show a'.toNat = a.toNat + 1 by omega]
    exact cnb_pos (by rw [show ((a.toNat : Nat) : Int) = a by omega]; exact hb)
  rw [e, Int.mul_add, Int.mul_one]; omega
theorem ske_room {C x a nx fs k : Int} (h : SKe C x a nx fs) (hl : BLe k x) (a5 : a < 6) (hb : bit x a) (c0 : 0 ≤ C) : fs ≤ nx ∧ nx ≤ fs + C * (k - 1) := by
  obtain ⟨h1, h2, h3, h4⟩ := h
  have e : cnb (bit x) (a.toNat + 1) = cnb (bit x) a.toNat + 1 := cnb_pos (by rw [show ((a.toNat : Nat) : Int) = a by omega]; exact hb)
  have u := cnb_up (P := bit x) (a := a.toNat + 1) (b := 6) (by omega)
  have q := hl.2.2
  unfold pc6 at q
  have := Int.mul_le_mul_of_nonneg_left (show cnb (bit x) a.toNat ≤ k - 1 by omega) c0
  exact ⟨h3, by omega⟩
theorem cof_mono {a b : Int} (h : a ≤ b) : cof a ≤ cof b := by unfold cof; repeat' split <;> omega
theorem bc6_of {x an : Int} (h : BCT x an) (x0 : 0 ≤ x) (x1 : x ≤ 63) : an = pc6 x := by
  rw [h.2 x0 x1]; unfold pc6; rw [cnN_is x0 6 (by omega)]
def SK2 (x a nx fs : Int) : Prop := SKe 1 x a nx fs
def SK3 (x a nx fs : Int) : Prop := SKe 2 x a nx fs
def SK4 (x a nx fs : Int) : Prop := SKe 6 x a nx fs
def SK5 (x a nx fs : Int) : Prop := SKe 24 x a nx fs
def SK6 (x a nx fs : Int) : Prop := SKe 120 x a nx fs
def SK1 (x a nx fs : Int) : Prop := SKe 1 x a nx fs
def PQ6 (x an : Int) : Prop := an = pc6 x
def BBT (x a : Int) : Prop := bit x a
def CTQ (ls : Int → Int) (l c : Int) : Prop := c = cof (ls (l + 1) - ls l)
def KL0 (ls : Int → Int) (k : Int) : Prop := KLT ls 0 k
def CT0 (ls : Int → Int) (k : Int) : Prop := -1 ≤ k ∧ k < cof (ls 1 - ls 0)
