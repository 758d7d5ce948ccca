/-! insert -/
def RPL (R : Int) (row : Int → Int) (x : Int) : Prop := ∃ k, 0 ≤ k ∧ k < R ∧ row k = x
def RP1 (row : Int → Int) (x k : Int) : Prop := ∀ j, 0 ≤ j → j < k → row j ≠ x
def RPQ (R : Int) (row : Int → Int) (x z : Int) : Prop := 0 ≤ z ∧ z < R ∧ row z = x
theorem rp_lt {R x k : Int} {row : Int → Int} (h : RPL R row x) (h1 : RP1 row x k) : k < R := by
  obtain ⟨j, j0, j1, j2⟩ := h
  exact Classical.byContradiction (fun z => h1 j j0 (by omega) j2)
theorem rp1_next {x k k' : Int} {row : Int → Int} (h : RP1 row x k) (hk : k' = k + 1) (hn : row k ≠ x) : RP1 row x k' := by
  intro j a b
  by_cases q : j = k
  · rw [q]; exact hn
  · exact h j a (by omega)
def INP (n R : Int) (pt ph dn row W : Int → Int) (L : Int) : Prop := STR n R pt ph row ∧ DRR n R dn row ∧ WYG n dn W L
def INQ (n R : Int) (pt ph dn row W : Int → Int) (L a b : Int) : Prop := INP n R pt ph dn row W L ∧ (0 ≤ a ∧ a < R ∧ row a = W 0) ∧ 0 ≤ b ∧ b < R ∧ row b = W (L - 1)
theorem inp_len {n R L : Int} {pt ph dn row W : Int → Int} (h : INP n R pt ph dn row W L) : 2 ≤ R ∧ 3 ≤ L ∧ R + (L - 2) ≤ n ∧ n ≤ 24 ∧ L ≤ n := by
  obtain ⟨hS, hd, ⟨l1, l2⟩, _, w2, w3, w4⟩ := h
  obtain ⟨⟨r1, r2, r3⟩, s1, s2, _⟩ := hS
  have := rw_len (L := R + (L - 2)) (M := n) (R := fun t => if t < R then row t else W (t - R + 1)) (by omega) (fun t a b => by
    show 0 ≤ (if t < R then row t else W (t - R + 1)) ∧ (if t < R then row t else W (t - R + 1)) < n
    split
    · next q => exact s1 t a q
    · exact w2 _ (by omega) (by omega)) (fun s t a b c => by
    show (if s < R then row s else W (s - R + 1)) ≠ (if t < R then row t else W (t - R + 1))
    by_cases qs : s < R <;> by_cases qt : t < R
    · rw [if_pos qs, if_pos qt]; exact s2 s t a b qt
    · rw [if_pos qs, if_neg qt]
      intro e
      have r := s1 s a qs
      have := (hd (row s) r.1 r.2).2 ⟨s, a, qs, rfl⟩
      rw [e] at this
      exact this (w4 _ (by omega) (by omega))
    · omega
    · rw [if_neg qs, if_neg qt]; exact w3 _ _ (by omega) (by omega) (by omega))
  omega
theorem inp_end {n R L : Int} {pt ph dn row W : Int → Int} (h : INP n R pt ph dn row W L) (i : Int) (hi : i = 0 ∨ i = L - 1) : RPL R row (W i) := by
  obtain ⟨hS, hd, ⟨l1, l2⟩, ⟨e1, e2⟩, w2, _⟩ := h
  rcases hi with z | z
  · subst z
    have r := w2 0 (by omega) (by omega)
    obtain ⟨t, t0, t1, t2⟩ := (hd _ r.1 r.2).1 e1
    exact ⟨t, t0, t1, t2⟩
  · subst z
    have r := w2 (L - 1) (by omega) (by omega)
    obtain ⟨t, t0, t1, t2⟩ := (hd _ r.1 r.2).1 e2
    exact ⟨t, t0, t1, t2⟩
def frm (a b : Int) : Int := if a < b then a + 1 else a
def IN1 (n R : Int) (pt ph dn row W : Int → Int) (L a b fr k : Int) : Prop := ∃ row0, INQ n R pt ph dn row0 W L a b ∧ fr = frm a b ∧ fr - 1 ≤ k ∧ k ≤ R - 1 ∧ (∀ t, 0 ≤ t → t ≤ k → row t = row0 t) ∧ ∀ t, k < t → t < R → row (t + (L - 2)) = row0 t
def IN2 (n R : Int) (pt ph dn row W : Int → Int) (L a b fr k : Int) : Prop := ∃ row0, INQ n R pt ph dn row0 W L a b ∧ fr = frm a b ∧ 0 ≤ k ∧ k ≤ L - 2 ∧ (∀ t, 0 ≤ t → t < fr → row t = row0 t) ∧ (∀ t, fr ≤ t → t < R → row (t + (L - 2)) = row0 t) ∧ ∀ j, 0 ≤ j → j < k → row (fr + j) = W (if a < b then 1 + j else L - 2 - j)
theorem frm_rng {R a b : Int} (a0 : 0 ≤ a) (a1 : a < R) (b1 : b < R) : 0 ≤ frm a b ∧ frm a b ≤ R - 1 := by unfold frm; split <;> omega
theorem in1_len {n R L a b fr k : Int} {pt ph dn row W : Int → Int} (h : IN1 n R pt ph dn row W L a b fr k) : (2 ≤ R ∧ 3 ≤ L ∧ R + (L - 2) ≤ n ∧ n ≤ 24) ∧ 0 ≤ fr ∧ fr ≤ R - 1 ∧ fr - 1 ≤ k ∧ k ≤ R - 1 := by
  obtain ⟨row0, h1, h2, h3, h4, _⟩ := h
  have a1 := inp_len h1.1
  have f := frm_rng (R := R) (a := a) (b := b) h1.2.1.1 h1.2.1.2.1 h1.2.2.2.1
  omega
theorem in1_step {n R L a b fr k k' s v r : Int} {pt ph dn row row' W : Int → Int} (h : IN1 n R pt ph dn row W L a b fr k) (hk : k' = k - 1) (k1 : fr ≤ k) (hs : st1 row row' s v) (hss : s = k + (L - 2)) (hv : v = row r) (hr : r = k) : IN1 n R pt ph dn row' W L a b fr k' := by
  have hl := in1_len h
  obtain ⟨row0, h1, h2, h3, h4, h5, h6⟩ := h
  refine ⟨row0, h1, h2, by omega, by omega, fun t t0 t1 => by rw [(hs t t0).2 (by omega)]; exact h5 t t0 (by omega), fun t t0 t1 => ?_⟩
  by_cases z : t = k
  · rw [z, (hs _ (by omega)).1 (by omega), hv, hr]; exact h5 k (by omega) (by omega)
  · rw [(hs _ (by omega)).2 (by omega)]; exact h6 t (by omega) t1
theorem in2_start {n R L a b fr k i : Int} {pt ph dn row W : Int → Int} (h : IN1 n R pt ph dn row W L a b fr k) (hk : k < fr) (hi : i = 0) : IN2 n R pt ph dn row W L a b fr i := by
  have hl := in1_len h
  obtain ⟨row0, h1, h2, h3, h4, h5, h6⟩ := h
  exact ⟨row0, h1, h2, by omega, by omega, fun t t0 t1 => h5 t t0 (by omega), fun t t0 t1 => h6 t (by omega) t1, fun j j0 j1 => by omega⟩
theorem in2_len {n R L a b fr k : Int} {pt ph dn row W : Int → Int} (h : IN2 n R pt ph dn row W L a b fr k) : (2 ≤ R ∧ 3 ≤ L ∧ R + (L - 2) ≤ n ∧ n ≤ 24) ∧ 0 ≤ fr ∧ fr ≤ R - 1 ∧ 0 ≤ k ∧ k ≤ L - 2 := by
  obtain ⟨row0, h1, h2, h3, h4, _⟩ := h
  have a1 := inp_len h1.1
  have f := frm_rng (R := R) (a := a) (b := b) h1.2.1.1 h1.2.1.2.1 h1.2.2.2.1
  omega
theorem in2_W {n R L a b fr k t : Int} {pt ph dn row W : Int → Int} (h : IN2 n R pt ph dn row W L a b fr k) (t0 : 0 ≤ t) (t1 : t < L) : 0 ≤ W t ∧ W t < n := by
  obtain ⟨row0, h1, _⟩ := h
  exact h1.1.2.2.2.2.1 t t0 t1
theorem in2_step {n R L a b fr k k' s v r : Int} {pt ph dn row row' W : Int → Int} (h : IN2 n R pt ph dn row W L a b fr k) (hk : k' = k + 1) (k1 : k < L - 2) (hs : st1 row row' s v) (hss : s = fr + k) (hv : v = W r) (hr : (a < b ∧ r = 1 + k) ∨ (b ≤ a ∧ r = L - 2 - k)) : IN2 n R pt ph dn row' W L a b fr k' := by
  have hl := in2_len h
  obtain ⟨row0, h1, h2, h3, h4, h5, h6, h7⟩ := h
  refine ⟨row0, h1, h2, by omega, by omega, fun t t0 t1 => by rw [(hs t t0).2 (by omega)]; exact h5 t t0 t1, fun t t0 t1 => by rw [(hs _ (by omega)).2 (by omega)]; exact h6 t t0 t1, fun j j0 j1 => ?_⟩
  by_cases z : j = k
  · rw [z, (hs _ (by omega)).1 (by omega), hv]
    rcases hr with ⟨q, e⟩ | ⟨q, e⟩
    · rw [if_pos q, e]
    · rw [if_neg (by omega), e]
  · rw [(hs _ (by omega)).2 (by omega)]; exact h7 j j0 (by omega)
theorem in2_end {n R R' L a b fr k : Int} {pt ph dn row W : Int → Int} (h : IN2 n R pt ph dn row W L a b fr k) (hk : L - 2 ≤ k) (hR : R' = R + (L - 2)) : STR n R' pt ph row := by
  have hl := in2_len h
  obtain ⟨row0, ⟨⟨hS, hd, ⟨l1, l2⟩, _, w2, w3, w4⟩, _, _⟩, h2, h3, h4, h5, h6, h7⟩ := h
  obtain ⟨⟨r1, r2, r3⟩, s1, s2, ⟨k1, c0, c1, c2⟩, k2, e0, e1, e2⟩ := hS
  -- every place: an old one, or one of the way
  have cls : ∀ t, 0 ≤ t → t < R' → (∃ o, 0 ≤ o ∧ o < R ∧ row t = row0 o ∧ ((t < fr ∧ o = t) ∨ (fr + (L - 2) ≤ t ∧ o = t - (L - 2)))) ∨ (∃ i, 0 < i ∧ i + 1 < L ∧ row t = W i ∧ fr ≤ t ∧ t < fr + (L - 2) ∧ (i = 1 + (t - fr) ∧ a < b ∨ i = L - 2 - (t - fr) ∧ ¬ a < b)) := fun t t0 t1 => by
    by_cases q : t < fr
    · exact Or.inl ⟨t, t0, by omega, h5 t t0 q, Or.inl ⟨q, rfl⟩⟩
    · by_cases q2 : t < fr + (L - 2)
      · right
        have := h7 (t - fr) (by omega) (by omega)
        rw [show fr + (t - fr) = t by omega] at this
        by_cases w : a < b
        · rw [if_pos w] at this; exact ⟨1 + (t - fr), by omega, by omega, this, by omega, q2, Or.inl ⟨rfl, w⟩⟩
        · rw [if_neg w] at this; exact ⟨L - 2 - (t - fr), by omega, by omega, this, by omega, q2, Or.inr ⟨rfl, w⟩⟩
      · left
        have := h6 (t - (L - 2)) (by omega) (by omega)
        rw [show t - (L - 2) + (L - 2) = t by omega] at this
        exact ⟨t - (L - 2), by omega, by omega, this, Or.inr ⟨by omega, rfl⟩⟩
  have pl : ∀ o, 0 ≤ o → o < R → ∃ t, 0 ≤ t ∧ t < R' ∧ row t = row0 o := fun o o0 o1 => by
    by_cases q : o < fr
    · exact ⟨o, o0, by omega, h5 o o0 q⟩
    · exact ⟨o + (L - 2), by omega, by omega, h6 o (by omega) o1⟩
  have mix : ∀ o i, 0 ≤ o → o < R → 0 < i → i + 1 < L → row0 o ≠ W i := fun o i o0 o1 i0 i1 e => by
    have r := s1 o o0 o1
    have := (hd _ r.1 r.2).2 ⟨o, o0, o1, rfl⟩
    rw [e] at this
    exact this (w4 i i0 i1)
  refine ⟨⟨by omega, by omega, r3⟩, fun t t0 t1 => ?_, fun s t s0 st t1 e => ?_, ?_, ?_⟩
  · rcases cls t t0 t1 with ⟨o, o0, o1, e, _⟩ | ⟨i, i0, i1, e, _⟩
    · rw [e]; exact s1 o o0 o1
    · rw [e]; exact w2 i (by omega) (by omega)
  · rcases cls s s0 (by omega) with ⟨o, o0, o1, x, xo⟩ | ⟨i, i0, i1, x, x1, x2, xo⟩ <;> rcases cls t (by omega) t1 with ⟨p, p0, p1, y, yo⟩ | ⟨j, j0, j1, y, y1, y2, yo⟩
    · rw [x, y] at e; exact s2 o p o0 (by omega) p1 e
    · rw [x, y] at e; exact mix o j o0 o1 j0 j1 e
    · rw [x, y] at e; exact mix p i p0 p1 i0 i1 e.symm
    · rw [x, y] at e
      rcases Int.lt_trichotomy i j with q | q | q
      · exact w3 i j (by omega) q (by omega) e
      · omega
      · exact w3 j i (by omega) q (by omega) e.symm
  · obtain ⟨t, t0, t1, t2⟩ := pl k1 c0 c1
    exact ⟨t, t0, t1, by rw [t2]; exact c2⟩
  · obtain ⟨t, t0, t1, t2⟩ := pl k2 e0 e1
    exact ⟨t, t0, t1, by rw [t2]; exact e2⟩
/-! bars -/
theorem stb_con {n m : Int} {pt ph al : Int → Int} (h : STB n m pt ph al) : CON n m pt ph al := by
  obtain ⟨⟨hg, hal, m1, m48, n3, n24⟩, ⟨bl, hB, h1⟩, hE⟩ := h
  have sy : ∀ u v, jA m pt ph al u v → jA m pt ph al v u := fun u v ⟨e, j⟩ => ⟨e, JJ_sym _ _ _ j⟩
  have key : ∀ e f, (∃ u v, JJ m pt ph al e u v) → (∃ u v, JJ m pt ph al f u v) → (∃ u v, JJ m pt ph al e u v ∧ rc (jA m pt ph al) 0 u) → ∃ u v, JJ m pt ph al f u v ∧ rc (jA m pt ph al) 0 u := fun e f he hf => by
    obtain ⟨u, v, j⟩ := he
    obtain ⟨u', v', j'⟩ := hf
    exact hB.2 (fun e => ∃ u v, JJ m pt ph al e u v ∧ rc (jA m pt ph al) 0 u) (fun e f ⟨w, x, y, a, b, c⟩ ⟨p, q, jp, rp⟩ => by
      have rw' : rc (jA m pt ph al) 0 w := by
        rcases JJ_uni _ _ _ _ _ a jp with ⟨z1, z2⟩ | ⟨z1, z2⟩
        · rw [← z1]; exact rp
        · rw [z1] at rp; exact rc_trans rp (rc_step ⟨e, JJ_sym _ _ _ a⟩)
      exact ⟨w, y, b, rw'⟩) e f ⟨u, v, j⟩ ⟨u', v', j'⟩ (h1 e f j.1 j.2.1 j'.1 j'.2.1)
  intro y y0 y1
  obtain ⟨e0, x0, j0⟩ := hE 0 (by omega) (by omega)
  obtain ⟨e, x, j⟩ := hE y y0 y1
  obtain ⟨u, v, jv, rv⟩ := key e0 e ⟨0, x0, j0⟩ ⟨y, x, j⟩ ⟨0, x0, j0, rc_refl _ _⟩
  rcases JJ_uni _ _ _ _ _ j jv with ⟨z1, z2⟩ | ⟨z1, z2⟩
  · rw [← z1]; exact rv
  · rw [z1] at rv; exact rc_trans rv (rc_step ⟨e, JJ_sym _ _ _ j⟩)
def RMN (rm : Int → Int) (i : Int) : Prop := ∀ j, 0 ≤ j → j < i → rm j ≠ 0
theorem stb_of {r n m z many i : Int} {A pt ph al bl bl' rm rot : Int → Int} (h : PLN r n m A pt ph al) (hE : EMQ n m pt ph al bl' rm rot z) (hz : z ≠ 0) (hB : BK m pt ph al bl many) (hm : many = 1) (hr : RMN rm i) (hi : n ≤ i) (hn : 3 ≤ n) : STB n m pt ph al ∧ GRI n m pt ph al rm rot := by
  obtain ⟨mm, b, h1, h2, h3⟩ := hE hz
  have hg' := pln_gok h
  obtain ⟨p1, p2, p3, p4⟩ := h
  have q := p1.1
  have hR := eml_rot.1 (eml_of h1 h2 h3)
  have hx : ∀ i, 0 ≤ i → i < n → ∃ e x, JJ m pt ph al e i x := fun j a c => by
    obtain ⟨r1, r2, _⟩ := hR.1 j a c
    have := hr j a (by omega)
    obtain ⟨x, k⟩ := r2 0 (by omega) (by omega)
    exact ⟨_, x, k⟩
  obtain ⟨e0, x0, j0⟩ := hx 0 (by omega) (by omega)
  have j1 := j0.1
  have j2 := j0.2.1
  exact ⟨⟨⟨hg', fun e a b => (p4 e a b).2.2, by omega, by omega, hn, by omega⟩, ⟨bl, hB.1, fun e f a b c d => by
    have x := (hB.2.2.1 e a b).1 (p4 e a b).2.2
    have y := (hB.2.2.1 f c d).1 (p4 f c d).2.2
    omega⟩, hx⟩, ⟨hg', by omega⟩, fun e a b => (p4 e a b).2.2, hR⟩
def BRB (n m R : Int) (pt ph al rm rot ro rb rd : Int → Int) : Prop := STB n m pt ph al ∧ GRI n m pt ph al rm rot ∧ GRD m R pt ph al rm rot ro rb rd
theorem brb_R {n m R : Int} {pt ph al rm rot ro rb rd : Int → Int} (h : BRB n m R pt ph al rm rot ro rb rd) : 0 ≤ R ∧ R ≤ 32 ∧ 1 ≤ m ∧ m ≤ 48 ∧ 3 ≤ n ∧ n ≤ 24 := by
  have := rnd_many h.2.1 (stb_con h.1) h.1.1.2.2.2.2.1 h.2.2
  have := h.1.1.2.2
  have := h.2.2.1.1
  omega
theorem brb_ro {n m R d : Int} {pt ph al rm rot ro rb rd : Int → Int} (h : BRB n m R pt ph al rm rot ro rb rd) (d0 : 0 ≤ d) (d1 : d < 2 * m) : 0 ≤ ro d ∧ ro d < R := by
  have := h.2.2.2.2 d ⟨d0, d1, h.1.1.2.1 _ (by omega) (by omega)⟩
  exact ⟨this.1, this.2.1⟩
theorem xor_1 {z d : Int} (h : bvp z = bvp d ^^^ bvp 1) (d0 : 0 ≤ d) (d1 : d ≤ 159) (z0 : 0 ≤ z) (z1 : z ≤ 1000) : z / 2 = d / 2 := by
  have e := congrArg BitVec.toNat h
  rw [BitVec.toNat_xor] at e
  have t : ∀ x : Int, 0 ≤ x → x ≤ 1000 → (bvp x).toNat = x.toNat := fun x a b => by
    unfold bvp
    rw [BitVec.toNat_ofInt]
    have : ((x % (2 ^ 32 : Nat)) : Int) = x := Int.emod_eq_of_lt a (by omega)
    rw [this]
  rw [t z z0 z1, t d d0 (by omega), t 1 (by omega) (by omega)] at e
  have f := congrArg (· / 2) e
  have f' : z.toNat / 2 = (d.toNat ^^^ (1 : Int).toNat) / 2 := f
  rw [Nat.xor_div_two] at f'
  have g : (1 : Int).toNat / 2 = 0 := rfl
  rw [g, Nat.xor_zero] at f'
  omega
def LNB (R : Int) (line : Int → Int) (c : Int) : Prop := ∀ f, 0 ≤ f → f < R → -1000000 ≤ line f ∧ line f ≤ c
def BRP (r n m : Int) (A pt ph al rm rot bl : Int → Int) : Prop := (PLN r n m A pt ph al ∧ 3 ≤ n) ∧ GRI n m pt ph al rm rot ∧ BK m pt ph al bl 1
theorem brp_of {r n m many : Int} {A pt ph al bl rm rot : Int → Int} (h : PLN r n m A pt ph al) (hE : EML n m pt ph al rm rot) (hB : BK m pt ph al bl many) (hm : many = 1) (hn : 3 ≤ n) : BRP r n m A pt ph al rm rot bl := by
  have q := h.1.1
  have p3 := h.2.2.1
  subst hm
  exact ⟨⟨h, hn⟩, ⟨⟨pln_gok h, by omega⟩, fun e a b => (h.2.2.2 e a b).2.2, eml_rot.1 hE⟩, hB⟩
def LN0 (line : Int → Int) (i : Int) : Prop := ∀ f, 0 ≤ f → f < i → -1000000 ≤ line f ∧ line f ≤ 0
theorem ln0_step {i i' p v : Int} {line line' : Int → Int} (h : LN0 line i) (hi : i' = i + 1) (hs : st1 line line' p v) (hp : p = i) (h0 : -1000000 ≤ v) (h1 : v ≤ 0) : LN0 line' i' := by
  intro f a b
  by_cases q : f = i
  · rw [(hs f a).1 (by omega)]; omega
  · rw [(hs f a).2 (by omega)]; exact h f a (by omega)
theorem brp_stb {r n m i : Int} {A pt ph al bl rm rot : Int → Int} (h : BRP r n m A pt ph al rm rot bl) (hr : RMN rm i) (hi : n ≤ i) : STB n m pt ph al := by
  obtain ⟨⟨hP, hn⟩, hG, hB⟩ := h
  have hg' := pln_gok hP
  obtain ⟨p1, p2, p3, p4⟩ := hP
  have q := p1.1
  have hx : ∀ i, 0 ≤ i → i < n → ∃ e x, JJ m pt ph al e i x := fun j a c => by
    obtain ⟨r1, r2, _⟩ := hG.2.2.1 j a c
    have := hr j a (by omega)
    obtain ⟨x, k⟩ := r2 0 (by omega) (by omega)
    exact ⟨_, x, k⟩
  obtain ⟨e0, x0, j0⟩ := hx 0 (by omega) (by omega)
  have j1 := j0.1
  have j2 := j0.2.1
  exact ⟨⟨hg', hG.2.1, by omega, by omega, hn, by omega⟩, ⟨bl, hB.1, fun e f a b c d => by
    have x := (hB.2.2.1 e a b).1 (p4 e a b).2.2
    have y := (hB.2.2.1 f c d).1 (p4 f c d).2.2
    omega⟩, hx⟩
def LNR (R : Int) (line : Int → Int) (i : Int) : Prop := LNB R line (100 * i)
def LNE (R : Int) (line : Int → Int) (i e : Int) : Prop := LNB R line (100 * i + e)
theorem lnb_step {R c c' p v : Int} {line line' : Int → Int} (h : LNB R line c) (hc : c ≤ c') (hs : st1 line line' p v) (h0 : -1000000 ≤ v) (h1 : v ≤ c') : LNB R line' c' := by
  intro f a b
  by_cases q : f = p
  · rw [(hs f a).1 q]; omega
  · rw [(hs f a).2 q]; have := h f a b; omega
theorem lnb_le {R c c' : Int} {line : Int → Int} (h : LNB R line c) (hc : c ≤ c') : LNB R line c' := fun f a b => by have := h f a b; omega
