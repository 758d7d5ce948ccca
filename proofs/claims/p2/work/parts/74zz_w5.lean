-- bars: heights and faces are bounded
def RY4 (n : Int) (y : Int → Int) : Prop := ∀ v, 0 ≤ v → v < n → 0 ≤ y v ∧ y v ≤ 600
theorem ry4_of {n k : Int} {line y : Int → Int} (h : RY1 line y k) (hc : LCV n line) (hk : n ≤ k) (k24 : k ≤ 24) : RY4 n y := fun v v0 v1 => by
  obtain ⟨i, i0, i1, i2⟩ := hc v v0 v1
  have := h i i0 (by omega)
  rw [i2] at this; omega
def BY5 (n : Int) (y : Int → Int) (v : Int) : Prop := 0 ≤ v ∧ ∀ j, v ≤ j → j < n → 0 ≤ y j ∧ y j ≤ 600
theorem by5_start {n v : Int} {y : Int → Int} (h : RY4 n y) (hv : v = 0) : BY5 n y v := ⟨by omega, fun j a b => h j (by omega) b⟩
theorem by5_step {n v v' s w : Int} {y y' : Int → Int} (h : BY5 n y v) (hs : st1 y y' s w) (ss : s = v) (hv : v' = v + 1) : BY5 n y' v' := ⟨by have := h.1; omega, fun j a b => by
  rw [(hs j (by have := h.1; omega)).2 (by omega)]; exact h.2 j (by omega) b⟩
/-- faces move by one at a time -/
def FXR (fx : Int → Int) (r e : Int) : Prop := ∀ f, 0 ≤ f → f < 144 → fx f ≤ 48 * r + e
def FXQ (fx : Int → Int) (r : Int) : Prop := ∀ f, 0 ≤ f → f < 144 → fx f ≤ 48 * r
theorem fxr_start {fx : Int → Int} {r e : Int} (h : FXQ fx r) (he : e = 1) : FXR fx r e := fun f a b => by have := h f a b; omega
theorem fxr_step {fx fx' : Int → Int} {r e e' l a s w : Int} (h : FXR fx r e) (l0 : 0 ≤ l) (l1 : l < 144) (ha : a = fx l) (hw : w = a + 1) (hs : st1 fx fx' s w) (he : e' = e + 1) : FXR fx' r e' := fun f f0 f1 => by
  have q := h l l0 l1
  by_cases c : f = s
  · rw [(hs f f0).1 c]; omega
  · rw [(hs f f0).2 c]; have := h f f0 f1; omega
theorem fxr_next {fx : Int → Int} {r e e' : Int} (h : FXR fx r e) (he : e' = e + 1) : FXR fx r e' := fun f a b => by have := h f a b; omega
theorem fxq_next {fx : Int → Int} {r r' e : Int} (h : FXR fx r e) (he : e ≤ 48) (hr : r' = r + 1) : FXQ fx r' := fun f a b => by have := h f a b; omega
theorem fxq_start {fx fx' : Int → Int} {r s w : Int} (h : ∀ f, 0 ≤ f → f < 144 → fx f ≤ 0) (hs : st1 fx fx' s w) (hw : w = 0) (hr : r = 0) : FXQ fx' r := fun f a b => by
  by_cases c : f = s
  · rw [(hs f a).1 c]; omega
  · rw [(hs f a).2 c]; have := h f a b; omega
/-- the ends and the free nodes of a way -/
def NWXe (en inn a : Int) : Prop := ∀ w, 0 ≤ w → w < 32 → (bit en w ↔ bit inn w ∧ w ≠ a)
def NWF (fr al inn : Int) : Prop := ∀ w, 0 ≤ w → w < 32 → (bit fr w ↔ bit al w ∧ ¬ bit inn w)
def NWI (inn a : Int) : Prop := bit inn a
theorem nwe_of {en inn a q r one m1 : Int} (h1 : one = 1) (hm : m1 = -1) (a0 : 0 ≤ a) (hq : bvp q = bvp one <<< a.toNat) (hr : bvp r = bvp q ^^^ bvp m1) (he : bvp en = bvp inn &&& bvp r) : NWXe en inn a := fun w w0 w1 => by rw [bit_and he, bit_xor hr hm w0 w1, bit_shl hq h1 a0 w0 w1]
theorem nwf_of {fr al inn r m1 : Int} (hm : m1 = -1) (hr : bvp r = bvp inn ^^^ bvp m1) (hf : bvp fr = bvp al &&& bvp r) : NWF fr al inn := fun w w0 w1 => by rw [bit_and hf, bit_xor hr hm w0 w1]
theorem nwa_step2 {n n' inn a a' ln ln' en fr al : Int} {nr : Int → Int} (h : NWA n nr inn a ln) (hl : ln = 0) (hz : SHZ nr n' a en fr ln') (hn : n' = n) (hal : ALC n al) (n24 : n ≤ 24) (a0 : 0 ≤ a) (a1 : a < n) (hi : NWI inn a) (he : NWXe en inn a) (hf : NWF fr al inn) (ha : a' = a + 1) : NWA n nr inn a' ln' := by
  subst hn
  intro l b b0 b1 b2 b3
  by_cases e : b = a
  · subst e
    have bf : ∀ w, 0 ≤ w → w < 32 → (bit fr w ↔ w < n' ∧ ¬ bit inn w) := fun w w0 w1 => by rw [hf w w0 w1, hal w w0 w1]
    obtain ⟨R, r1, r2, r3, r4⟩ := hz l b0 b2 (fun z => ((bf b b0 (by omega)).mp z).2 b3)
    refine ⟨R, fun w hw => ?_, fun u w u0 u1 iu ne w0 w1 iw z => r2 u w u0 u1 ((he u u0 (by omega)).mpr ⟨iu, ne⟩) w0 (by omega) ((bf w w0 (by omega)).mpr ⟨w1, iw⟩) z, fun u w ru w0 w1 iw z => ?_, r4⟩
    · have := r1 w hw
      have q := (bf w this.1.1 this.1.2).mp this.2
      exact ⟨⟨this.1.1, q.1⟩, q.2⟩
    · have := r1 u ru
      exact r3 u w this.1.1 ((bf u this.1.1 this.1.2).mp this.2).1 ru w0 (by omega) ((bf w w0 (by omega)).mpr ⟨w1, iw⟩) z
  · exact h hl b b0 (by omega) b2 b3
theorem ewy_of2 {wy : Int → Int} {n st en fr an al inn : Int} (h : SHW wy st en fr an) (hal : ALC n al) (n24 : n ≤ 24) (hf : NWF fr al inn) : EWY wy al inn an := by
  rcases h with h | ⟨a, _, _, _, _, b, c⟩
  · exact Or.inl h
  · refine Or.inr ⟨a, fun j j0 j1 => ?_, fun i j i0 i1 j0 j1 e => ?_⟩
    · obtain ⟨p, q, r⟩ := b j j0 j1
      have r := (hf _ p q).mp r
      exact ⟨⟨p, by have := (hal _ p q).mp r.1; omega⟩, r.1, r.2⟩
    · by_cases x : i < j
      · exact absurd e (c i j i0 x j1)
      · by_cases y : j < i
        · exact absurd e.symm (c j i j0 y i1)
        · omega
theorem ear_use {n inn a ln len al : Int} {nr tl hd ln' wy : Int → Int} (h : EAR n nr tl hd) (ht : OFT tl hd inn) (hn : OFN n inn) (hw : NWA n nr inn a ln) (he : EWY wy al inn ln) (hx : n ≤ a ∨ ln ≠ 0) (_ : len = len) (_ : ln' = ln') : 3 ≤ ln := by
  rcases he with q | q
  · rcases hx with c | c
    · exact absurd (h.2 inn a c ht.1 ht.2 hn (by rw [q] at hw; exact hw)) (fun z => z)
    · exact absurd q c
  · exact q.1
