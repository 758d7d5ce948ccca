/-! shift: the lines come back -/
def SHL (n m upper : Int) (pt ph al U order : Int → Int) (k : Int) : Prop := (3 ≤ n ∧ n ≤ 24) ∧ 3 ≤ k ∧ ∃ H len, (∀ t, 0 ≤ t → t < upper → U t = H (k - 1) t) ∧ upper = len (k - 1) ∧ HIS n m pt ph al order H len (k - 1) ∧ (3 ≤ upper ∧ upper ≤ 24) ∧ ∀ t, 0 ≤ t → t < upper → 0 ≤ U t ∧ U t < n
theorem cnh_rng {n m j : Int} {pt ph al order : Int → Int} (h : CNH n m pt ph al order) (j0 : 0 ≤ j) (j1 : j < n) : (0 ≤ order j ∧ order j < n) ∧ 3 ≤ n ∧ n ≤ 24 := by
  obtain ⟨hn, H, len, ⟨e1, e2, e3, e4⟩, hr, hh⟩ := h
  refine ⟨?_, hn⟩
  by_cases q : j ≤ 2
  · rcases (by omega : j = 0 ∨ j = 1 ∨ j = 2) with z | z | z <;> subst z
    · rw [← e2]; exact hr 0 (by omega) (by omega)
    · rw [← e4]; exact hr 2 (by omega) (by omega)
    · rw [← e3]; exact hr 1 (by omega) (by omega)
  · obtain ⟨⟨p, M, ⟨a1, a2, a3, a4⟩, b, _⟩, _, c⟩ := hh j (by omega) j1
    rw [← b]; exact c p (by omega) (by omega)
theorem shl_start {n m upper k : Int} {pt ph al U order : Int → Int} (h : CNH n m pt ph al order) (hu : upper = 3) (hk : k = 3) (u0 : U 0 = order 0) (u1 : U 1 = order 2) (u2 : U 2 = order 1) : SHL n m upper pt ph al U order k := by
  obtain ⟨hn, H, len, ⟨e1, e2, e3, e4⟩, hr, hh⟩ := h
  subst hu; subst hk
  have e : ∀ t, 0 ≤ t → t < 3 → U t = H (3 - 1) t := fun t a b => by
    rw [show (3 : Int) - 1 = 2 by omega]
    rcases (by omega : t = 0 ∨ t = 1 ∨ t = 2) with z | z | z <;> subst z
    · rw [u0, e2]
    · rw [u1, e3]
    · rw [u2, e4]
  refine ⟨hn, by omega, H, len, e, by rw [show (3 : Int) - 1 = 2 by omega, e1], by rw [show (3 : Int) - 1 = 2 by omega]; exact hh, by omega, fun t a b => by rw [e t a b, show (3 : Int) - 1 = 2 by omega]; exact hr t a b⟩
/-- where x is joined with the line -/
theorem shl_stj {n m upper k : Int} {pt ph al U order : Int → Int} (h : SHL n m upper pt ph al U order k) (hk : k < n) : ∃ p M, (1 ≤ p ∧ 0 ≤ M ∧ p + M ≤ upper - 1 ∧ upper + 1 - M ≤ 24) ∧ (∀ t, 0 ≤ t → t < upper → (jA m pt ph al (order k) (U t) ↔ p - 1 ≤ t ∧ t ≤ p + M)) ∧ ∀ U' : Int → Int, (∀ t, 0 ≤ t → t < p → U' t = U t) → U' p = order k → (∀ t, p < t → t < upper + 1 - M → U' t = U (t - 1 + M)) → SHL n m (upper + 1 - M) pt ph al U' order (k + 1) := by
  obtain ⟨hn, k3, H, len, h1, h2, h3, h4, h5⟩ := h
  obtain ⟨⟨p, M, ⟨a1, a2, a3, a4⟩, b1, b2, b3, b4⟩, c1, c2⟩ := h3 k (by omega) hk
  rw [← h2] at a4 b4
  refine ⟨p, M, ⟨a1, a3, by omega, by omega⟩, fun t t0 t1 => by rw [h1 t t0 t1]; exact b4 t t0 t1, fun U' w1 w2 w3 => ?_⟩
  have eH : ∀ t, 0 ≤ t → t < len k → U' t = H k t := fun t t0 t1 => by
    by_cases c : t < p
    · rw [w1 t t0 c, h1 t t0 (by omega)]; exact b2 t t0 c
    · by_cases d : t = p
      · rw [d, w2]; exact b1.symm
      · rw [w3 t (by omega) (by omega), h1 _ (by omega) (by omega)]
        have := b3 t (by omega) t1
        exact this
  have el : upper + 1 - M = len k := by omega
  rw [el]
  refine ⟨hn, by omega, H, len, fun t t0 t1 => by rw [show k + 1 - 1 = k by omega]; exact eH t t0 t1, by rw [show k + 1 - 1 = k by omega], fun j j0 j1 => h3 j (by omega) j1, c1, fun t t0 t1 => by rw [eH t t0 t1]; exact c2 t t0 t1⟩
def SHA (n m upper : Int) (pt ph al U order : Int → Int) (k x a : Int) : Prop := SHL n m upper pt ph al U order k ∧ (k < n ∧ x = order k) ∧ 0 ≤ a ∧ ∀ t, 0 ≤ t → t < a → ¬ jA m pt ph al x (U t)
def SHB (n m upper : Int) (pt ph al U order : Int → Int) (k x a b : Int) : Prop := SHA n m upper pt ph al U order k x a ∧ a < upper ∧ jA m pt ph al x (U a) ∧ b < upper ∧ ∀ t, b < t → t < upper → ¬ jA m pt ph al x (U t)
def SHC (n m upper : Int) (pt ph al U order : Int → Int) (k x a b : Int) : Prop := SHB n m upper pt ph al U order k x a b ∧ 0 ≤ b ∧ jA m pt ph al x (U b)
theorem sha_bd {n m upper k x a : Int} {pt ph al U order : Int → Int} (h : SHA n m upper pt ph al U order k x a) : 0 ≤ a ∧ a + 2 ≤ upper ∧ upper ≤ 24 ∧ 3 ≤ k ∧ k < n ∧ n ≤ 24 := by
  obtain ⟨h1, ⟨h2, h3⟩, h4, h5⟩ := h
  obtain ⟨p, M, ⟨p1, p2, p3, p4⟩, q, _⟩ := shl_stj h1 h2
  have u := h1.2.2
  obtain ⟨H, len, _, _, _, u4, _⟩ := u
  refine ⟨h4, Classical.byContradiction (fun z => h5 (p - 1) (by omega) (by omega) ?_), u4.2, h1.2.1, h2, h1.1.2⟩
  rw [h3]; exact (q (p - 1) (by omega) (by omega)).2 (by omega)
theorem sha_U {n m upper k x a t : Int} {pt ph al U order : Int → Int} (h : SHA n m upper pt ph al U order k x a) (t0 : 0 ≤ t) (t1 : t < upper) : 0 ≤ U t ∧ U t < n := by
  obtain ⟨H, len, _, _, _, _, u5⟩ := h.1.2.2
  exact u5 t t0 t1
theorem shb_bd {n m upper k x a b : Int} {pt ph al U order : Int → Int} (h : SHB n m upper pt ph al U order k x a b) : a + 1 ≤ b := by
  have hb := sha_bd h.1
  obtain ⟨⟨h1, ⟨h2, h3⟩, h4, h5⟩, h6, h7, h8, h9⟩ := h
  obtain ⟨p, M, ⟨p1, p2, p3, p4⟩, q, _⟩ := shl_stj h1 h2
  have ha : a = p - 1 := by
    rw [h3] at h7
    have := (q a h4 h6).1 h7
    have : ¬ p - 1 < a := fun z => h5 (p - 1) (by omega) z (by rw [h3]; exact (q (p - 1) (by omega) (by omega)).2 (by omega))
    omega
  refine Classical.byContradiction (fun z => h9 (p + M) (by omega) (by omega) ?_)
  rw [h3]; exact (q (p + M) (by omega) (by omega)).2 (by omega)
theorem shc_end {n m upper k x a b : Int} {pt ph al U order : Int → Int} (h : SHC n m upper pt ph al U order k x a b) : (a + 1 ≤ b ∧ b < upper ∧ upper + 1 - (b - a - 1) ≤ 24) ∧ ∀ U' : Int → Int, (∀ t, 0 ≤ t → t ≤ a → U' t = U t) → U' (a + 1) = x → (∀ t, a + 1 < t → t < upper + 1 - (b - a - 1) → U' t = U (t - 1 + (b - a - 1))) → SHL n m (upper + 1 - (b - a - 1)) pt ph al U' order (k + 1) := by
  obtain ⟨hB, b0, hb⟩ := h
  have hb1 := shb_bd hB
  obtain ⟨⟨h1, ⟨h2, h3⟩, h4, h5⟩, h6, h7, h8, h9⟩ := hB
  obtain ⟨p, M, ⟨p1, p2, p3, p4⟩, q, w⟩ := shl_stj h1 h2
  have ha : a = p - 1 := by
    rw [h3] at h7
    have := (q a h4 h6).1 h7
    have : ¬ p - 1 < a := fun z => h5 (p - 1) (by omega) z (by rw [h3]; exact (q (p - 1) (by omega) (by omega)).2 (by omega))
    omega
  have hbb : b = p + M := by
    rw [h3] at hb
    have := (q b b0 h8).1 hb
    have : ¬ b < p + M := fun z => h9 (p + M) z (by omega) (by rw [h3]; exact (q (p + M) (by omega) (by omega)).2 (by omega))
    omega
  have eM : b - a - 1 = M := by omega
  rw [eM]
  refine ⟨⟨hb1, h8, p4⟩, fun U' w1 w2 w3 => w U' (fun t t0 t1 => w1 t t0 (by omega)) ?_ (fun t t0 t1 => w3 t (by omega) t1)⟩
  rw [show p = a + 1 by omega, w2]; exact h3
def SD1 (n m upper : Int) (pt ph al U order : Int → Int) (k x a b q : Int) : Prop := ∃ U0, SHC n m upper pt ph al U0 order k x a b ∧ b = a + 1 ∧ b ≤ q ∧ q ≤ upper ∧ (∀ t, 0 ≤ t → t < q → U t = U0 t) ∧ ∀ t, q < t → t ≤ upper → U t = U0 (t - 1)
def SD2 (n m upper : Int) (pt ph al U order : Int → Int) (k x a b q : Int) : Prop := ∃ U0, SHC n m upper pt ph al U0 order k x a b ∧ a + 2 ≤ b ∧ b ≤ q ∧ q ≤ upper ∧ (∀ t, 0 ≤ t → t ≤ a → U t = U0 t) ∧ (∀ t, b ≤ t → t < q → U (t - (b - a - 1) + 1) = U0 t) ∧ ∀ t, q ≤ t → t < upper → U t = U0 t
theorem sd1_len {n m upper k x a b q : Int} {pt ph al U order : Int → Int} (h : SD1 n m upper pt ph al U order k x a b q) : 0 ≤ a ∧ b = a + 1 ∧ b ≤ q ∧ q ≤ upper ∧ b < upper ∧ upper ≤ 23 := by
  obtain ⟨U0, h1, h2, h3, h4, _⟩ := h
  have a0 := h1.1.1.2.2.1
  have := (shc_end h1).1
  omega
theorem sd1_step {n m upper k x a b q q' s v r : Int} {pt ph al U U' order : Int → Int} (h : SD1 n m upper pt ph al U order k x a b q) (hq : q' = q - 1) (q1 : b < q) (hs : st1 U U' s v) (hss : s = q) (hv : v = U r) (hr : r = q - 1) : SD1 n m upper pt ph al U' order k x a b q' := by
  have hl := sd1_len h
  obtain ⟨U0, h1, h2, h3, h4, h5, h6⟩ := h
  refine ⟨U0, h1, h2, by omega, by omega, fun t t0 t1 => by rw [(hs t t0).2 (by omega)]; exact h5 t t0 (by omega), fun t t0 t1 => ?_⟩
  by_cases z : t = q
  · rw [z, (hs q (by omega)).1 hss.symm, hv, hr]; exact h5 _ (by omega) (by omega)
  · rw [(hs t (by omega)).2 (by omega)]; exact h6 t (by omega) t1
theorem sd2_len {n m upper k x a b q : Int} {pt ph al U order : Int → Int} (h : SD2 n m upper pt ph al U order k x a b q) : 0 ≤ a ∧ a + 2 ≤ b ∧ b ≤ q ∧ q ≤ upper ∧ b < upper ∧ upper ≤ 24 := by
  obtain ⟨U0, h1, h2, h3, h4, _⟩ := h
  have a0 := h1.1.1.2.2.1
  have := (shc_end h1).1
  have := sha_bd h1.1.1
  omega
theorem sd2_step {n m upper k x a b q q' s v r : Int} {pt ph al U U' order : Int → Int} (h : SD2 n m upper pt ph al U order k x a b q) (hq : q' = q + 1) (q1 : q < upper) (hs : st1 U U' s v) (hss : s = q - (b - a - 1) + 1) (hv : v = U r) (hr : r = q) : SD2 n m upper pt ph al U' order k x a b q' := by
  have hl := sd2_len h
  obtain ⟨U0, h1, h2, h3, h4, h5, h6, h7⟩ := h
  refine ⟨U0, h1, h2, by omega, by omega, fun t t0 t1 => by rw [(hs t t0).2 (by omega)]; exact h5 t t0 t1, fun t t0 t1 => ?_, fun t t0 t1 => by rw [(hs t (by omega)).2 (by omega)]; exact h7 t (by omega) t1⟩
  by_cases z : t = q
  · rw [z, (hs _ (by omega)).1 hss.symm, hv, hr]; exact h7 q (by omega) q1
  · rw [(hs _ (by omega)).2 (by omega)]; exact h6 t t0 (by omega)
theorem sd1_end {n m upper upper' k k' x a b q s v : Int} {pt ph al U U' order : Int → Int} (h : SD1 n m upper pt ph al U order k x a b q) (hq : q ≤ b) (hs : st1 U U' s v) (hss : s = a + 1) (hv : v = x) (hu : upper' = upper + 1 - (b - a - 1)) (hk : k' = k + 1) : SHL n m upper' pt ph al U' order k' := by
  have hl := sd1_len h
  obtain ⟨U0, h1, h2, h3, h4, h5, h6⟩ := h
  subst hu; subst hk
  refine (shc_end h1).2 U' (fun t t0 t1 => by rw [(hs t t0).2 (by omega)]; exact h5 t t0 (by omega)) ((hs _ (by omega)).1 hss.symm |>.trans hv) (fun t t0 t1 => ?_)
  rw [(hs t (by omega)).2 (by omega), h6 t (by omega) (by omega)]
  congr 1; omega
theorem sd2_end {n m upper upper' k k' x a b q s v : Int} {pt ph al U U' order : Int → Int} (h : SD2 n m upper pt ph al U order k x a b q) (hq : upper ≤ q) (hs : st1 U U' s v) (hss : s = a + 1) (hv : v = x) (hu : upper' = upper + 1 - (b - a - 1)) (hk : k' = k + 1) : SHL n m upper' pt ph al U' order k' := by
  have hl := sd2_len h
  obtain ⟨U0, h1, h2, h3, h4, h5, h6, h7⟩ := h
  subst hu; subst hk
  refine (shc_end h1).2 U' (fun t t0 t1 => by rw [(hs t t0).2 (by omega)]; exact h5 t t0 t1) ((hs _ (by omega)).1 hss.symm |>.trans hv) (fun t t0 t1 => ?_)
  rw [(hs t (by omega)).2 (by omega)]
  have := h6 (t - 1 + (b - a - 1)) (by omega) (by omega)
  rw [show t - 1 + (b - a - 1) - (b - a - 1) + 1 = t by omega] at this; exact this
theorem eof_no {m x y r : Int} {pt ph al : Int → Int} (h : EOF m pt ph al x y r) (hr : r < 0) : ¬ jA m pt ph al x y := by
  rcases h with ⟨_, w⟩ | w
  · exact fun ⟨e, j⟩ => w e j
  · have := w.1; omega
theorem eof_yes {m x y r : Int} {pt ph al : Int → Int} (h : EOF m pt ph al x y r) (hr : 0 ≤ r) : jA m pt ph al x y := by
  rcases h with ⟨w, _⟩ | w
  · omega
  · exact ⟨_, w⟩
/-! grid: the first face -/
theorem cnp_of {n m R u v w d0 d1 d2 : Int} {pt ph al rm rot ro rb rd : Int → Int} (h : GRI n m pt ph al rm rot) (hc : CON n m pt ph al) (hn : 3 ≤ n) (hn2 : n ≤ 24) (hf : FTR m pt ph al rm rot) (hR : GRD m R pt ph al rm rot ro rb rd) (e0 : d0 = rd 0) (e1 : d1 = rd 1) (e2 : d2 = rd 2) (hu : DFR pt ph d0 u) (hv : DFR pt ph d1 v) (hw : DFR pt ph d2 w) : CNP n m pt ph al rm rot u v w := by
  have hg := h.1.1
  -- some edge lives
  have r1 : 0 < R := by
    have := hc 1 (by omega) (by omega)
    have ex : ∃ e, 0 ≤ e ∧ e < m := Classical.byContradiction (fun z => by
      have w := this (fun q => q = 0) (fun a b ⟨e, j⟩ _ => absurd ⟨e, j.1, j.2.1⟩ z) rfl
      exact absurd w (by decide))
    obtain ⟨e, a, b⟩ := ex
    have l : liv m al (2 * e) := ⟨by omega, by omega, by rw [show 2 * e / 2 = e by omega]; exact h.2.1 e a b⟩
    have := hR.2.2 _ l
    have := this.1
    have := (hR.2.2 _ l).2.1
    omega
  obtain ⟨b1, b2, b3, st⟩ := rnd_3 h hc hn hR (r := 0) (by omega) r1
  have z0 := hR.1.2.2.2.1 r1
  have l0 := hR.2.1.2.1 0 (by omega) (by omega)
  have l1 := hR.2.1.2.1 1 (by omega) (by omega)
  have l2 := hR.2.1.2.1 2 (by omega) (by omega)
  have s0 := st 0 (by omega) (by omega)
  have s1 := st 1 (by omega) (by omega)
  rw [if_neg (by omega), show (0 : Int) + 1 = 1 by omega] at s0
  rw [if_neg (by omega), show (1 : Int) + 1 = 2 by omega] at s1
  have s2 := hf _ _ _ l0 s0 s1
  rw [← e0, ← e1] at s0
  rw [← e1, ← e2] at s1
  rw [← e2, ← e0] at s2
  rw [← e0] at l0
  rw [← e1] at l1
  rw [← e2] at l2
  exact ⟨⟨h, hc, hf, hn, hn2⟩, d0, d1, d2, ⟨l0, l1, l2⟩, ⟨s0, s1, s2⟩, hu, hv, hw⟩
def GR2 (n m : Int) (pt ph al rm rot : Int → Int) (z : Int) : Prop := GRI n m pt ph al rm rot ∧ CON n m pt ph al ∧ (3 ≤ n ∧ n ≤ 24) ∧ (z = 0 → FTR m pt ph al rm rot)
def LF1 (left : Int → Int) (i : Int) : Prop := ∀ j, 0 ≤ j → j < i → left j ≠ 0
