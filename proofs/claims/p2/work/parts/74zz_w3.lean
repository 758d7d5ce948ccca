-- bars: a way is always found where one block is one part, so the line gets every node
/-- levels of free nodes over the ends -/
def LV3 (nr lv : Int → Int) (n st en fr op tp k : Int) : Prop := (1 ≤ k ∧ lv 0 = en) ∧ (∀ w, 0 ≤ w → w < 32 → bit fr w → bit op w ∨ ∃ j, 1 ≤ j ∧ j < k ∧ bit (lv j) w) ∧ (∀ j u w, 0 ≤ j → j + 1 < k → 0 ≤ u → u < n → bit (lv j) u → 0 ≤ w → w < 32 → bit (nr u) w → bit fr w → ∃ i, 1 ≤ i ∧ i < k ∧ bit (lv i) w) ∧ (tp = 0 → ∀ j w, 1 ≤ j → j < k → 0 ≤ w → w < 32 → bit (lv j) w → ¬ bit (nr st) w) ∧ cnb (bit op) n.toNat + (k - 1) ≤ cnb (bit fr) n.toNat
theorem lv3_start {nr lv lv' : Int → Int} {n st en fr op tp k p x : Int} (hs : st1 lv lv' p x) (hp : p = 0) (hx : x = en) (ho : op = fr) (hk : k = 1) : LV3 nr lv' n st en fr op tp k := by
  refine ⟨⟨by omega, by rw [(hs 0 (by omega)).1 (by omega)]; exact hx⟩, fun w _ _ z => Or.inl (ho ▸ z), fun j u w a b => by omega, fun _ j w a b => by omega, ?_⟩
  rw [ho, hk]; omega
theorem lv3_new {nr lv lv' : Int → Int} {n st en fr op tp tp' k k' p x q y r op' : Int} (h : LV3 nr lv n st en fr op tp k) (hb : ∀ w, 0 ≤ w → w < 32 → bit op w → bit fr w) (hf : FRN n fr) (hq : y = lv (k - 1)) (hN : NEF nr n y q) (hx : bvp x = bvp q &&& bvp op) (hs : st1 lv lv' p x) (hp : p = k) (hm1 : bvp r = bvp x ^^^ bvp (-1)) (ho : bvp op' = bvp op &&& bvp r) (ht : tp = 0) (hx0 : ∃ w, 0 ≤ w ∧ w < 32 ∧ bit x w) (ha : tp' ≠ 0 ∨ ∀ w, 0 ≤ w → w < 32 → bit (nr st) w → ¬ bit x w) (hk : k' = k + 1) : LV3 nr lv' n st en fr op' tp' k' := by
  obtain ⟨⟨h1, h2⟩, h3, h4, h5, h6⟩ := h
  subst hp
  subst hk
  have lk : lv' p = x := (hs p (by omega)).1 rfl
  have lo : ∀ j, 0 ≤ j → j ≠ p → lv' j = lv j := fun j a b => (hs j a).2 b
  have opb : ∀ w, 0 ≤ w → w < 32 → (bit op' w ↔ bit op w ∧ ¬ bit x w) := fun w a b => by rw [bit_and ho, bit_xor hm1 rfl a b]
  have up : ∀ w, (∃ j, 1 ≤ j ∧ j < p ∧ bit (lv j) w) → ∃ j, 1 ≤ j ∧ j < p + 1 ∧ bit (lv' j) w := fun w ⟨j, a, b, c⟩ => ⟨j, a, by omega, by rw [lo j (by omega) (by omega)]; exact c⟩
  refine ⟨⟨by omega, by rw [lo 0 (by omega) (by omega)]; exact h2⟩, fun w w0 w1 z => ?_, fun j u w j0 j1 u0 u1 bu w0 w1 z f => ?_, fun t0 j w j0 j1 w0 w1 z => ?_, ?_⟩
  · rcases h3 w w0 w1 z with c | c
    · by_cases d : bit x w
      · exact Or.inr ⟨p, h1, by omega, by rw [lk]; exact d⟩
      · exact Or.inl ((opb w w0 w1).mpr ⟨c, d⟩)
    · exact Or.inr (up w c)
  · rw [lo j j0 (by omega)] at bu
    by_cases e : j + 1 < p
    · exact up w (h4 j u w j0 e u0 u1 bu w0 w1 z f)
    · rcases h3 w w0 w1 f with c | c
      · refine ⟨p, h1, by omega, ?_⟩
        rw [lk, bit_and hx]
        exact ⟨(hN w w0 w1).mpr ⟨u, u0, u1, by rw [hq, show p - 1 = j by omega]; exact bu, z⟩, c⟩
      · exact up w c
  · by_cases e : j = p
    · rw [e, lk] at z
      rcases ha with c | c
      · exact absurd t0 c
      · exact fun q => c w w0 w1 q z
    · rw [lo j (by omega) e] at z
      exact h5 ht j w j0 (by omega) w0 w1 z
  · obtain ⟨w, w0, w1, wx⟩ := hx0
    have wo := ((bit_and hx w).mp wx).2
    have wn := hf w w0 w1 (hb w w0 w1 wo)
    have := cnb_more (P := bit op') (Q := bit op) n.toNat (fun j j0 j1 z => by
      by_cases c : j < 32
      · exact ((opb j j0 c).mp z).1
      · exfalso
        unfold bit at z
        rw [BitVec.getLsbD_of_ge _ _ (by omega)] at z
        exact absurd z (by decide)) w0 (by omega) (fun z => ((opb w w0 w1).mp z).2 wx) wo
    omega
/-- no way -/
def SHZ (nr : Int → Int) (n st en fr an : Int) : Prop := an = 0 → 0 ≤ st → st < n → ¬ bit fr st → ∃ R : Int → Prop, (∀ w, R w → (0 ≤ w ∧ w < 32) ∧ bit fr w) ∧ (∀ u w, 0 ≤ u → u < n → bit en u → 0 ≤ w → w < 32 → bit fr w → bit (nr u) w → R w) ∧ (∀ u w, 0 ≤ u → u < n → R u → 0 ≤ w → w < 32 → bit fr w → bit (nr u) w → R w) ∧ ∀ w, R w → ¬ bit (nr st) w
theorem shz_no {nr : Int → Int} {n st en fr an : Int} (h : an ≠ 0) : SHZ nr n st en fr an := fun q => absurd q h
theorem shz_a {nr lv : Int → Int} {n st en fr op tp k x q y an : Int} (h : LV3 nr lv n st en fr op tp k) (h1 : LV1 nr lv n st en fr op tp k) (ht : tp = 0) (hq : y = lv (k - 1)) (hN : NEF nr n y q) (hx : bvp x = bvp q &&& bvp op) (x0 : x = 0) : SHZ nr n st en fr an := by
  obtain ⟨⟨k1, h2⟩, h3, h4, h5, _⟩ := h
  intro _ s0 s1 sf
  have last : ∀ u w, 0 ≤ u → u < n → bit (lv (k - 1)) u → 0 ≤ w → w < 32 → bit fr w → bit (nr u) w → ∃ i, 1 ≤ i ∧ i < k ∧ bit (lv i) w := fun u w u0 u1 bu w0 w1 f z => by
    rcases h3 w w0 w1 f with c | c
    · exfalso
      have : bit x w := (bit_and hx w).mpr ⟨(hN w w0 w1).mpr ⟨u, u0, u1, by rw [hq]; exact bu, z⟩, c⟩
      rw [x0] at this; exact bit_zero w this
    · exact c
  have all : ∀ j u w, 0 ≤ j → j < k → 0 ≤ u → u < n → bit (lv j) u → 0 ≤ w → w < 32 → bit fr w → bit (nr u) w → ∃ i, 1 ≤ i ∧ i < k ∧ bit (lv i) w := fun j u w j0 j1 u0 u1 bu w0 w1 f z => by
    by_cases e : j + 1 < k
    · exact h4 j u w j0 e u0 u1 bu w0 w1 z f
    · exact last u w u0 u1 (by rw [show k - 1 = j by omega]; exact bu) w0 w1 f z
  refine ⟨fun w => (0 ≤ w ∧ w < 32) ∧ ∃ i, 1 ≤ i ∧ i < k ∧ bit (lv i) w, fun w ⟨a, i, i0, i1, i2⟩ => ⟨a, ((h1.2.2.1 i i0 i1).1 w a.1 a.2 i2).1⟩, fun u w u0 u1 bu w0 w1 f z => ⟨⟨w0, w1⟩, all 0 u w (by omega) (by omega) u0 u1 (by rw [h2]; exact bu) w0 w1 f z⟩, fun u w u0 u1 ru w0 w1 f z => ?_, fun w ⟨a, i, i0, i1, i2⟩ => h5 ht i w i0 i1 a.1 a.2 i2⟩
  obtain ⟨_, i, i0, i1, i2⟩ := ru
  exact ⟨⟨w0, w1⟩, all i u w (by omega) i1 u0 u1 i2 w0 w1 f z⟩
theorem shz_b {nr lv : Int → Int} {n st en fr op tp k an : Int} (h : LV3 nr lv n st en fr op tp k) (h1 : LV1 nr lv n st en fr op tp k) (hf : FRN n fr) (ht : tp = 0) (hk : n ≤ k) : SHZ nr n st en fr an := by
  obtain ⟨⟨k1, h2⟩, h3, h4, h5, h6⟩ := h
  intro _ s0 s1 sf
  have c1 := cnb_more (P := bit fr) (Q := fun _ => True) n.toNat (fun _ _ _ _ => trivial) s0 (by omega) sf trivial
  have c2 := (cnb_le (fun _ => True) n.toNat).2
  have none : ∀ w, 0 ≤ w → w < 32 → ¬ bit op w := fun w w0 w1 z => by
    have wn := hf w w0 w1 (h1.2.2.2.1 w w0 w1 z)
    have c3 := cnb_more (P := fun _ => False) (Q := bit op) n.toNat (fun _ _ _ q => q.elim) w0 (by omega) (fun q => q) z
    have c4 := (cnb_le (fun _ => False) n.toNat).1
    omega
  have all : ∀ w, 0 ≤ w → w < 32 → bit fr w → ∃ i, 1 ≤ i ∧ i < k ∧ bit (lv i) w := fun w w0 w1 f => (h3 w w0 w1 f).elim (fun c => absurd c (none w w0 w1)) id
  exact ⟨fun w => (0 ≤ w ∧ w < 32) ∧ ∃ i, 1 ≤ i ∧ i < k ∧ bit (lv i) w, fun w ⟨a, i, i0, i1, i2⟩ => ⟨a, ((h1.2.2.1 i i0 i1).1 w a.1 a.2 i2).1⟩, fun u w _ _ _ w0 w1 f _ => ⟨⟨w0, w1⟩, all w w0 w1 f⟩, fun u w _ _ _ w0 w1 f _ => ⟨⟨w0, w1⟩, all w w0 w1 f⟩, fun w ⟨a, i, i0, i1, i2⟩ => h5 ht i w i0 i1 a.1 a.2 i2⟩
/-- from a node inside there is no way -/
def nwp (n : Int) (nr : Int → Int) (inn a : Int) : Prop := ∃ R : Int → Prop, (∀ w, R w → (0 ≤ w ∧ w < n) ∧ ¬ bit inn w) ∧ (∀ u w, 0 ≤ u → u < n → bit inn u → u ≠ a → 0 ≤ w → w < n → ¬ bit inn w → bit (nr u) w → R w) ∧ (∀ u w, R u → 0 ≤ w → w < n → ¬ bit inn w → bit (nr u) w → R w) ∧ ∀ w, R w → ¬ bit (nr a) w
def NWA (n : Int) (nr : Int → Int) (inn a ln : Int) : Prop := ln = 0 → ∀ b, 0 ≤ b → b < a → b < n → bit inn b → nwp n nr inn b
/-- all nodes -/
def ALC (n al : Int) : Prop := ∀ w, 0 ≤ w → w < 32 → (bit al w ↔ w < n)
theorem alc_of {n p al one two : Int} (hp : bvp p = bvp one <<< n.toNat) (h1 : one = 1) (hm : al = p - two) (h2 : two = 1) (n0 : 0 ≤ n) (n1 : n ≤ 24) (p0 : -2147483648 ≤ p) (p1 : p ≤ 2147483647) : ALC n al := by
  have hx : (bvp p).toInt = p := by unfold bvp; rw [BitVec.toInt_ofInt]; unfold Int.bmod; simp only; split <;> omega
  have ep : p = (2 : Int) ^ n.toNat := by
    have : ∀ k : Nat, k < 25 → (bvp 1 <<< k).toInt = (2 : Int) ^ k := by decide +kernel
    rw [← hx, hp, h1]; exact this n.toNat (by omega)
  intro w w0 w1
  have e : al = (2 : Int) ^ n.toNat - 1 := by omega
  have : ∀ k : Nat, k < 25 → ∀ j : Nat, j < 32 → ((bvp ((2 : Int) ^ k - 1)).getLsbD j = true ↔ j < k) := by decide +kernel
  have q := this n.toNat (by omega) w.toNat (by omega)
  unfold bit
  rw [e, q]; omega
theorem nwa_start {n inn a ln : Int} {nr : Int → Int} (ha : a = 0) : NWA n nr inn a ln := fun _ b b0 b1 => by omega
theorem nwa_skip {n inn a a' ln : Int} {nr : Int → Int} (h : NWA n nr inn a ln) (hb : ¬ bit inn a) (ha : a' = a + 1) : NWA n nr inn a' ln := fun l b b0 b1 b2 b3 => by
  by_cases e : b = a
  · rw [e] at b3; exact absurd b3 hb
  · exact h l b b0 (by omega) b2 b3
theorem nwa_step {n inn a a' ln ln' en fr al q r r2 : Int} {nr : Int → Int} (h : NWA n nr inn a ln) (hl : ln = 0) (hz : SHZ nr n a en fr ln') (hal : ALC n al) (n24 : n ≤ 24) (a0 : 0 ≤ a) (a1 : a < n) (hi : bit inn a) (hq : bvp q = bvp 1 <<< a.toNat) (hr : bvp r = bvp q ^^^ bvp (-1)) (he : bvp en = bvp inn &&& bvp r) (hr2 : bvp r2 = bvp inn ^^^ bvp (-1)) (hf : bvp fr = bvp al &&& bvp r2) (ha : a' = a + 1) : NWA n nr inn a' ln' := by
  intro l b b0 b1 b2 b3
  by_cases e : b = a
  · subst e
    have be : ∀ w, 0 ≤ w → w < 32 → (bit en w ↔ bit inn w ∧ w ≠ b) := fun w w0 w1 => by rw [bit_and he, bit_xor hr rfl w0 w1, bit_shl hq rfl b0 w0 w1]
    have bf : ∀ w, 0 ≤ w → w < 32 → (bit fr w ↔ w < n ∧ ¬ bit inn w) := fun w w0 w1 => by rw [bit_and hf, bit_xor hr2 rfl w0 w1, hal w w0 w1]
    obtain ⟨R, r1, r2, r3, r4⟩ := hz l b0 b2 (fun z => ((bf b b0 (by omega)).mp z).2 b3)
    refine ⟨R, fun w hw => ?_, fun u w u0 u1 iu ne w0 w1 iw z => r2 u w u0 u1 ((be u u0 (by omega)).mpr ⟨iu, ne⟩) w0 (by omega) ((bf w w0 (by omega)).mpr ⟨w1, iw⟩) z, fun u w ru w0 w1 iw z => ?_, r4⟩
    · have := r1 w hw
      have q := (bf w this.1.1 this.1.2).mp this.2
      exact ⟨⟨this.1.1, q.1⟩, q.2⟩
    · have := r1 u ru
      exact r3 u w this.1.1 ((bf u this.1.1 this.1.2).mp this.2).1 ru w0 (by omega) ((bf w w0 (by omega)).mpr ⟨w1, iw⟩) z
  · exact h hl b b0 (by omega) b2 b3
/-- what hangs together with a free node over free nodes -/
def cmpf (n : Int) (nr : Int → Int) (inn f w : Int) : Prop := (0 ≤ w ∧ w < n ∧ ¬ bit inn w) ∧ ∀ U : Int → Prop, U f → (∀ u x, 0 ≤ u → u < n → ¬ bit inn u → 0 ≤ x → x < n → ¬ bit inn x → U u → bit (nr u) x → U x) → U w
/-- there is a way as long as a node is free -/
def EAR (n : Int) (nr tl hd : Int → Int) : Prop := ((0 ≤ tl 0 ∧ tl 0 < n) ∧ (0 ≤ hd 0 ∧ hd 0 < n) ∧ tl 0 ≠ hd 0) ∧ ∀ inn a : Int, n ≤ a → bit inn (tl 0) → bit inn (hd 0) → (∃ w, 0 ≤ w ∧ w < n ∧ ¬ bit inn w) → NWA n nr inn a 0 → False
theorem ear_of {n m bk ps : Int} {nr tl hd pt : Int → Int} (hB : BKS n m bk nr tl hd) (b1 : bk = 1) (hP : PNC n nr pt) (hF : FPA n ps pt) (s1 : ps = 1) (hG : GNB n m nr tl hd) (hK : GKE n m tl hd) (n24 : n ≤ 24) : EAR n nr tl hd := by
  have m1 : 1 ≤ m := by have := hB.1; omega
  have k0 := hK 0 (by omega) (by omega)
  refine ⟨⟨⟨k0.1, k0.2.1⟩, ⟨k0.2.2.1, k0.2.2.2.1⟩, k0.2.2.2.2⟩, fun inn a ha i0 i1 ⟨f, f0, f1, f2⟩ hn => ?_⟩
  have hn := hn rfl
  have sy : ∀ u w, 0 ≤ u → u < n → 0 ≤ w → w < n → bit (nr u) w → bit (nr w) u := fun u w u0 u1 w0 w1 z => (hG.1 u w u0 u1 w0 (by omega) z).2
  have c0 : cmpf n nr inn f f := ⟨⟨f0, f1, f2⟩, fun U h _ => h⟩
  have cc : ∀ u w, cmpf n nr inn f u → 0 ≤ w → w < n → ¬ bit inn w → bit (nr u) w → cmpf n nr inn f w := fun u w hu w0 w1 w2 z => ⟨⟨w0, w1, w2⟩, fun U h1 h2 => h2 u w hu.1.1 hu.1.2.1 hu.1.2.2 w0 w1 w2 (hu.2 U h1 h2) z⟩
  have two : ∀ a1 a2 c1 c2, 0 ≤ a1 → a1 < n → bit inn a1 → 0 ≤ a2 → a2 < n → bit inn a2 → cmpf n nr inn f c1 → cmpf n nr inn f c2 → bit (nr a1) c1 → bit (nr a2) c2 → a1 = a2 := by
    intro a1 a2 c1 c2 p1 p2 p3 q1 q2 q3 h1 h2 z1 z2
    refine Classical.byContradiction (fun ne => ?_)
    obtain ⟨R, r1, r2, r3, r4⟩ := hn a1 p1 (by omega) p2 p3
    have rc2 : R c2 := r2 a2 c2 q1 q2 q3 (fun e => ne e.symm) h2.1.1 h2.1.2.1 h2.1.2.2 z2
    by_cases rf : R f
    · exact r4 c1 (h1.2 R rf (fun u x u0 u1 u2 x0 x1 x2 ru z => r3 u x ru x0 x1 x2 z)) z1
    · exact h2.2 (fun w => ¬ R w) rf (fun u x u0 u1 u2 x0 x1 x2 ru z rx => ru (r3 x u rx u0 u1 u2 (sy u x u0 u1 x0 x1 z))) rc2
  by_cases at' : ∃ a0 c, (0 ≤ a0 ∧ a0 < n ∧ bit inn a0) ∧ cmpf n nr inn f c ∧ bit (nr a0) c
  · obtain ⟨a0, c, ⟨p1, p2, p3⟩, hc, z⟩ := at'
    obtain ⟨e, e0, e1, e2⟩ := hG.2.2 a0 c p1 p2 hc.1.1 hc.1.2.1 z
    refine hB.2 b1 a0 (cmpf n nr inn f) ⟨fun h => h.1.2.2 p3, fun u w u0 u1 w0 w1 hu zz => ?_⟩ e 0 e0 e1 (by omega) (by omega) ?_ ⟨fun h => h.1.2.2 i0, fun h => h.1.2.2 i1⟩
    · by_cases iw : bit inn w
      · exact Or.inr (two w a0 u c w0 w1 iw p1 p2 p3 hu hc (sy u w u0 u1 w0 w1 zz) z)
      · exact Or.inl (cc u w hu w0 w1 iw zz)
    · rcases e2 with ⟨x, y⟩ | ⟨x, y⟩
      · exact Or.inr (by rw [y]; exact hc)
      · exact Or.inl (by rw [x]; exact hc)
  · have := hP.2 (cmpf n nr inn f) (fun u w u0 u1 w0 w1 hu z => by
      by_cases iw : bit inn w
      · exact absurd ⟨w, u, ⟨w0, w1, iw⟩, hu, sy u w u0 u1 w0 w1 z⟩ at'
      · exact cc u w hu w0 w1 iw z) f (tl 0) f0 f1 k0.1 k0.2.1 (by have := hF.2 f f0 f1; have := hF.2 (tl 0) k0.1 k0.2.1; omega) c0
    exact this.1.2.2 i0
