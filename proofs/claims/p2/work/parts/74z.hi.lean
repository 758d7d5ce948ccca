/-! the house's places: what holds of them between calls -/
def pO (w : va_W) (H : Value) (f j : Nat) : Nat := (w_el w (w_ar w H f) j).toNat
def pF (f : Nat) : List Nat := (fpH.getD f (0, 0, [], [])).2.2.1
def pA (f : Nat) : List Nat := (fpH.getD f (0, 0, [], [])).2.2.2
def ob_eq (fs as : List Nat) (o : Nat) (w0 w1 : va_W) : Prop := (∀ k ∈ fs, w_fd w1 o k = w_fd w0 o k) ∧ ∀ k ∈ as, ∀ d, w_fd w0 o k = .ref d → ∀ i, w_el w1 d i = w_el w0 d i
abbrev fI (w : va_W) (o k : Nat) : Int := v_iv (w_fd w o k)
/-- a graph -/
def HG (w : va_W) (o : Nat) : Prop := (∃ t h n, w_fd w o 7 = .ref t ∧ w_fd w o 8 = .ref h ∧ w_fd w o 14 = .ref n ∧ GKE (fI w o 0) (fI w o 1) (w_ei w t) (w_ei w h) ∧ GNB (fI w o 0) (fI w o 1) (w_ei w n) (w_ei w t) (w_ei w h)) ∧ fI w o 17 + fI w o 18 ≤ 30 ∧ (∀ d, w_fd w o 16 = .ref d → PDQ (fI w o 17) (fI w o 18) (w_ei w d)) ∧ (w_fd w o 16 = .null → fI w o 17 + fI w o 18 = 0)
/-- what is known of a graph -/
def HF (w : va_W) (o f : Nat) : Prop := fI w f 0 = 0 ∨ ∃ n p t h u, w_fd w o 14 = .ref n ∧ w_fd w f 4 = .ref p ∧ w_fd w o 7 = .ref t ∧ w_fd w o 8 = .ref h ∧ w_fd w f 9 = .ref u ∧ PNC (fI w o 0) (w_ei w n) (w_ei w p) ∧ FPA (fI w o 0) (fI w f 1) (w_ei w p) ∧ TPO (fI w o 1) (w_ei w t) (w_ei w h) (w_ei w u) ∧ BKS (fI w o 0) (fI w o 1) (fI w f 2) (w_ei w n) (w_ei w t) (w_ei w h)
/-- its net -/
def HN (w : va_W) (o m : Nat) : Prop := (fI w m 0 = -1 → fI w m 3 = 0) ∧ (fI w m 0 = 1 → ∃ r s q, w_fd w m 9 = .ref r ∧ w_fd w m 12 = .ref s ∧ w_fd w m 16 = .ref q ∧ fI w m 5 = fI w o 0 ∧ fI w m 6 = fI w o 1 ∧ FIN (fI w m 5) (w_ei w r) (w_ei w s) ∧ FAD (fI w m 6) (w_ei w q))
/-- the places lie apart -/
def HA (w : va_W) (H : Value) : Prop := ∀ f, f < 3 → ∀ i j, i < 4 → j < 4 → i ≠ j → pO w H f i ≠ pO w H f j ∧ ∀ k ∈ pA f, ∀ d d', w_fd w (pO w H f i) k = .ref d → w_fd w (pO w H f j) k = .ref d' → d ≠ d'
def HP (w : va_W) (H : Value) (j : Nat) : Prop := HG w (pO w H 0 j) ∧ HF w (pO w H 0 j) (pO w H 1 j) ∧ HN w (pO w H 0 j) (pO w H 2 j)
/-- all places but one; all -/
def HX (w : va_W) (H : Value) (g : Nat) : Prop := HA w H ∧ ∀ j, j < 4 → j ≠ g → HP w H j
def HI (w : va_W) (H : Value) : Prop := HX w H 4
def hd_eq (H : Value) (w0 w1 : va_W) : Prop := ∀ f, f < 3 → w_fd w1 (v_ad H) f = w_fd w0 (v_ad H) f ∧ ∀ j, j < 4 → w_el w1 (w_ar w0 H f) j = w_el w0 (w_ar w0 H f) j
def ot_eq (H : Value) (g : Nat) (w0 w1 : va_W) : Prop := hd_eq H w0 w1 ∧ ∀ f, f < 3 → ∀ j, j < 4 → j ≠ g → ob_eq (pF f) (pA f) (pO w0 H f j) w0 w1
theorem pO_eq {H : Value} {w0 w1 : va_W} (h : hd_eq H w0 w1) {f j : Nat} (hf : f < 3) (hj : j < 4) : pO w1 H f j = pO w0 H f j := by
  obtain ⟨h1, h2⟩ := h f hf
  have e : w_ar w1 H f = w_ar w0 H f := by show v_ad (w_fd w1 (v_ad H) f) = v_ad (w_fd w0 (v_ad H) f); rw [h1]
  show (w_el w1 (w_ar w1 H f) j).toNat = (w_el w0 (w_ar w0 H f) j).toNat
  rw [e, h2 j hj]
theorem ei_eq {fs as : List Nat} {o k d : Nat} {w0 w1 : va_W} (h : ob_eq fs as o w0 w1) (hk : k ∈ as) (hd : w_fd w0 o k = .ref d) : w_ei w1 d = w_ei w0 d := funext (fun z => h.2 k hk d hd z.toNat)
theorem fI_eq {fs as : List Nat} {o k : Nat} {w0 w1 : va_W} (h : ob_eq fs as o w0 w1) (hk : k ∈ fs) : fI w1 o k = fI w0 o k := by show v_iv (w_fd w1 o k) = v_iv (w_fd w0 o k); rw [h.1 k hk]
theorem HG_eq {o : Nat} {w0 w1 : va_W} (h : ob_eq (pF 0) (pA 0) o w0 w1) (hg : HG w0 o) : HG w1 o := by
  obtain ⟨⟨t, hh, n, a1, a2, a3, a4, a5⟩, b, c, d⟩ := hg
  refine ⟨⟨t, hh, n, ?_, ?_, ?_, ?_, ?_⟩, ?_, fun x hx => ?_, fun hx => ?_⟩
  · rw [h.1 7 (by decide)]; exact a1
  · rw [h.1 8 (by decide)]; exact a2
  · rw [h.1 14 (by decide)]; exact a3
  · rw [fI_eq h (k := 0) (by decide), fI_eq h (k := 1) (by decide), ei_eq h (k := 7) (by decide) a1, ei_eq h (k := 8) (by decide) a2]; exact a4
  · rw [fI_eq h (k := 0) (by decide), fI_eq h (k := 1) (by decide), ei_eq h (k := 14) (by decide) a3, ei_eq h (k := 7) (by decide) a1, ei_eq h (k := 8) (by decide) a2]; exact a5
  · rw [fI_eq h (k := 17) (by decide), fI_eq h (k := 18) (by decide)]; exact b
  · rw [h.1 16 (by decide)] at hx
    rw [fI_eq h (k := 17) (by decide), fI_eq h (k := 18) (by decide), ei_eq h (k := 16) (by decide) hx]; exact c x hx
  · rw [h.1 16 (by decide)] at hx
    rw [fI_eq h (k := 17) (by decide), fI_eq h (k := 18) (by decide)]; exact d hx
theorem HF_eq {o f : Nat} {w0 w1 : va_W} (h : ob_eq (pF 0) (pA 0) o w0 w1) (h2 : ob_eq (pF 1) (pA 1) f w0 w1) (hf : HF w0 o f) : HF w1 o f := by
  rcases hf with q | ⟨n, p, t, hh, u, a1, a2, a3, a4, a5, b1, b2, b3, b4⟩
  · exact Or.inl (by rw [fI_eq h2 (k := 0) (by decide)]; exact q)
  · refine Or.inr ⟨n, p, t, hh, u, ?_, ?_, ?_, ?_, ?_, ?_, ?_, ?_, ?_⟩
    · rw [h.1 14 (by decide)]; exact a1
    · rw [h2.1 4 (by decide)]; exact a2
    · rw [h.1 7 (by decide)]; exact a3
    · rw [h.1 8 (by decide)]; exact a4
    · rw [h2.1 9 (by decide)]; exact a5
    · rw [fI_eq h (k := 0) (by decide), ei_eq h (k := 14) (by decide) a1, ei_eq h2 (k := 4) (by decide) a2]; exact b1
    · rw [fI_eq h (k := 0) (by decide), fI_eq h2 (k := 1) (by decide), ei_eq h2 (k := 4) (by decide) a2]; exact b2
    · rw [fI_eq h (k := 1) (by decide), ei_eq h (k := 7) (by decide) a3, ei_eq h (k := 8) (by decide) a4, ei_eq h2 (k := 9) (by decide) a5]; exact b3
    · rw [fI_eq h (k := 0) (by decide), fI_eq h (k := 1) (by decide), fI_eq h2 (k := 2) (by decide), ei_eq h (k := 14) (by decide) a1, ei_eq h (k := 7) (by decide) a3, ei_eq h (k := 8) (by decide) a4]; exact b4
theorem HN_eq {o m : Nat} {w0 w1 : va_W} (h : ob_eq (pF 0) (pA 0) o w0 w1) (h2 : ob_eq (pF 2) (pA 2) m w0 w1) (hn : HN w0 o m) : HN w1 o m := by
  refine ⟨fun q => ?_, fun q => ?_⟩
  · rw [fI_eq h2 (k := 0) (by decide)] at q
    rw [fI_eq h2 (k := 3) (by decide)]; exact hn.1 q
  · rw [fI_eq h2 (k := 0) (by decide)] at q
    obtain ⟨r, s, x, a1, a2, a3, b1, b2, b3, b4⟩ := hn.2 q
    refine ⟨r, s, x, ?_, ?_, ?_, ?_, ?_, ?_, ?_⟩
    · rw [h2.1 9 (by decide)]; exact a1
    · rw [h2.1 12 (by decide)]; exact a2
    · rw [h2.1 16 (by decide)]; exact a3
    · rw [fI_eq h2 (k := 5) (by decide), fI_eq h (k := 0) (by decide)]; exact b1
    · rw [fI_eq h2 (k := 6) (by decide), fI_eq h (k := 1) (by decide)]; exact b2
    · rw [fI_eq h2 (k := 5) (by decide), ei_eq h2 (k := 9) (by decide) a1, ei_eq h2 (k := 12) (by decide) a2]; exact b3
    · rw [fI_eq h2 (k := 6) (by decide), ei_eq h2 (k := 16) (by decide) a3]; exact b4
theorem HP_eq {H : Value} {g j : Nat} {w0 w1 : va_W} (h : ot_eq H g w0 w1) (hj : j < 4) (hg : j ≠ g) (hp : HP w0 H j) : HP w1 H j := by
  have e0 := pO_eq h.1 (f := 0) (by omega) hj
  have e1 := pO_eq h.1 (f := 1) (by omega) hj
  have e2 := pO_eq h.1 (f := 2) (by omega) hj
  have o0 := h.2 0 (by omega) j hj hg
  have o1 := h.2 1 (by omega) j hj hg
  have o2 := h.2 2 (by omega) j hj hg
  unfold HP
  rw [e0, e1, e2]
  exact ⟨HG_eq o0 hp.1, HF_eq o0 o1 hp.2.1, HN_eq o0 o2 hp.2.2⟩
theorem ar_in {f k : Nat} (hf : f < 3) (hk : k ∈ pA f) : k ∈ pF f := by
  match f, hf with
  | 0, _ => revert k; decide
  | 1, _ => revert k; decide
  | 2, _ => revert k; decide
theorem HA_eq {H : Value} {w0 w1 : va_W} (h : ot_eq H 4 w0 w1) (ha : HA w0 H) : HA w1 H := by
  intro f hf i j hi hj hne
  rw [pO_eq h.1 hf hi, pO_eq h.1 hf hj]
  obtain ⟨q1, q2⟩ := ha f hf i j hi hj hne
  refine ⟨q1, fun k hk d d' a b => ?_⟩
  rw [(h.2 f hf i hi (by omega)).1 k (ar_in hf hk)] at a
  rw [(h.2 f hf j hj (by omega)).1 k (ar_in hf hk)] at b
  exact q2 k hk d d' a b
theorem HX_eq {H : Value} {g : Nat} {w0 w1 : va_W} (h : ot_eq H 4 w0 w1) (hx : HX w0 H g) : HX w1 H g := ⟨HA_eq h hx.1, fun j hj hg => HP_eq h hj (by omega) (hx.2 j hj hg)⟩
theorem fp_ot {H : Value} {w0 w1 : va_W} (h : fp_eq fpH H w0 w1) : ot_eq H 4 w0 w1 := by
  have h0 := h (0, 4, [0, 1, 7, 8, 14, 16, 17, 18], [7, 8, 14, 16]) (by unfold fpH; simp)
  have h1 := h (1, 4, [0, 1, 2, 4, 9], [4, 9]) (by unfold fpH; simp)
  have h2 := h (2, 4, [0, 3, 5, 6, 7, 8, 9, 12, 16], [7, 8, 9, 12, 16]) (by unfold fpH; simp)
  refine ⟨fun f hf => ?_, fun f hf j hj _ => ?_⟩
  · match f, hf with
    | 0, _ => exact ⟨h0.1, fun j hj => h0.2.1 j hj⟩
    | 1, _ => exact ⟨h1.1, fun j hj => h1.2.1 j hj⟩
    | 2, _ => exact ⟨h2.1, fun j hj => h2.2.1 j hj⟩
  · match f, hf with
    | 0, _ => exact h0.2.2 j hj
    | 1, _ => exact h1.2.2 j hj
    | 2, _ => exact h2.2.2 j hj
/-- which things of a place some values are: digits by four, 1 its graph, 2 its facts, 3 its net -/
def WL (w : va_W) (H : Value) (g : Nat) : Nat → List Value → Prop
  | c, v :: r => (c % 4 = 0 ∨ v_ad v = pO w H (c % 4 - 1) g) ∧ WL w H g (c / 4) r
  | _, [] => True
/-- a net that was loaded from its graph, and nothing barred in it -/
def HZ (w : va_W) (o m : Nat) : Prop := fI w m 5 = fI w o 0 ∧ fI w m 6 = fI w o 1 ∧ fI w m 3 = 0
theorem HZ_eq {o m : Nat} {w0 w1 : va_W} (h : ob_eq (pF 0) (pA 0) o w0 w1) (h2 : ob_eq (pF 2) (pA 2) m w0 w1) (hn : HZ w0 o m) : HZ w1 o m := by
  obtain ⟨a, b, c⟩ := hn
  exact ⟨by rw [fI_eq h2 (k := 5) (by decide), fI_eq h (k := 0) (by decide)]; exact a, by rw [fI_eq h2 (k := 6) (by decide), fI_eq h (k := 1) (by decide)]; exact b, by rw [fI_eq h2 (k := 3) (by decide)]; exact c⟩
/-- predicates of the whole world: [H] all places; H :: g :: ls all but g, and of g by bits 1 its graph is good, 2 so are its facts, 4 its net, 8 nothing is known of it, 16 where the next value is 0 all places; 48 its net was loaded from its graph; 64 and on: what the further values are -/
def WQF (k : Nat) (xs : List Value) (w : va_W) : Prop := match xs with
  | [] => True
  | [H] => HI w H
  | H :: g :: ls => 0 ≤ v_iv g ∧ v_iv g < 4 ∧ HX w H (v_iv g).toNat ∧ (k % 2 = 1 → HG w (pO w H 0 (v_iv g).toNat)) ∧ (k / 2 % 2 = 1 → HF w (pO w H 0 (v_iv g).toNat) (pO w H 1 (v_iv g).toNat)) ∧ (k / 4 % 2 = 1 → HN w (pO w H 0 (v_iv g).toNat) (pO w H 2 (v_iv g).toNat)) ∧ (k / 8 % 2 = 1 → fI w (pO w H 1 (v_iv g).toNat) 0 = 0) ∧ (k / 16 % 2 = 1 → (k / 32 % 2 = 0 → v_iv (ls.headD .null) = 0 → HI w H) ∧ (k / 32 % 2 = 1 → HZ w (pO w H 0 (v_iv g).toNat) (pO w H 2 (v_iv g).toNat))) ∧ WL w H (v_iv g).toNat (k / 64) ls
theorem WL_eq {w0 w1 : va_W} {H : Value} {g : Nat} (h : hd_eq H w0 w1) (hg : g < 4) : ∀ {c : Nat} {ls : List Value}, WL w0 H g c ls → WL w1 H g c ls
  | c, v :: r, hl => by
    refine ⟨?_, WL_eq h hg hl.2⟩
    rcases hl.1 with q | q
    · exact Or.inl q
    · have hc : c % 4 - 1 < 3 := by omega
      exact Or.inr (by rw [pO_eq h hc hg]; exact q)
  | _, [], _ => trivial
theorem WQF_eq (k : Nat) (v : Value) (xs : List Value) (w0 w1 : va_W) (h : fp_eq fpH v w0 w1) (hf : WQF k (v :: xs) w0) : WQF k (v :: xs) w1 := by
  have h4 := fp_ot h
  match xs, hf with
  | [], hf => exact HX_eq h4 hf
  | g :: ls, hf =>
    obtain ⟨a, b, c, d, e, f, x, y, z⟩ := hf
    have hg : (v_iv g).toNat < 4 := by omega
    have e0 := pO_eq h4.1 (f := 0) (by omega) hg
    have e1 := pO_eq h4.1 (f := 1) (by omega) hg
    have e2 := pO_eq h4.1 (f := 2) (by omega) hg
    have o0 := h4.2 0 (by omega) _ hg (by omega)
    have o1 := h4.2 1 (by omega) _ hg (by omega)
    have o2 := h4.2 2 (by omega) _ hg (by omega)
    refine ⟨a, b, HX_eq h4 c, ?_, ?_, ?_, ?_, fun q => ⟨fun q2 r => HX_eq h4 ((y q).1 q2 r), fun q2 => by rw [e0, e2]; exact HZ_eq o0 o2 ((y q).2 q2)⟩, WL_eq h4.1 hg z⟩
    · rw [e0]; exact fun q => HG_eq o0 (d q)
    · rw [e0, e1]; exact fun q => HF_eq o0 o1 (e q)
    · rw [e0, e2]; exact fun q => HN_eq o0 o2 (f q)
    · rw [e1]; exact fun q => by rw [fI_eq o1 (k := 0) (by decide)]; exact x q
/-- the house's layers know all orders -/
def HL (w : va_W) (H : Value) : Prop := ∀ o, w_fd w (v_ad H) 17 = .ref o → ∀ d, w_fd w o 17 = .ref d → ORD (w_ei w d)
theorem HL_eq {H : Value} {w0 w1 : va_W} (h : fl_eq H w0 w1) (hl : HL w0 H) : HL w1 H := fun o ho d hd => by
  rw [h.1] at ho
  obtain ⟨h1, h2⟩ := h.2 o ho
  rw [h1] at hd
  have e : w_ei w1 d = w_ei w0 d := funext (fun z => h2 d hd z.toNat)
  rw [e]; exact hl o ho d hd
/-- each drawing is of the graph of its place -/
def HDG (w : va_W) (H : Value) : Prop := ∀ g, g < 4 → w_fd w (pO w H 3 g) 0 = .ref (pO w H 0 g)
/-- the heights of all drawings: they may grow by a million a call -/
def HY (w : va_W) (H : Value) (n : Int) : Prop := HDG w H ∧ ∀ g, g < 4 → ∀ d, w_fd w (pO w H 3 g) 3 = .ref d → ∀ v : Int, 0 ≤ v → v < 24 → -1000000 ≤ w_ei w d v ∧ w_ei w d v ≤ 70000000 + 200000 * n
def HYD (w : va_W) (H d : Value) : Prop := ∃ g, g < 4 ∧ v_ad d = pO w H 3 g
theorem fd_pO {H : Value} {w0 w1 : va_W} (h : fp_eq fpD H w0 w1) {g : Nat} (hg : g < 4) : pO w1 H 3 g = pO w0 H 3 g := by
  have h1 := h (3, 4, [3, 0], [3]) (by unfold fpD; simp)
  have e : w_ar w1 H 3 = w_ar w0 H 3 := by unfold w_ar; rw [h1.1]
  unfold pO
  rw [e, h1.2.1 g hg]
theorem fd_pO0 {H : Value} {w0 w1 : va_W} (h : fp_eq fpD H w0 w1) {g : Nat} (hg : g < 4) : pO w1 H 0 g = pO w0 H 0 g := by
  have h1 := h (0, 4, [], []) (by unfold fpD; simp)
  have e : w_ar w1 H 0 = w_ar w0 H 0 := by unfold w_ar; rw [h1.1]
  unfold pO
  rw [e, h1.2.1 g hg]
theorem HDG_eq {H : Value} {w0 w1 : va_W} (h : fp_eq fpD H w0 w1) (hy : HDG w0 H) : HDG w1 H := fun g hg => by
  have h1 := h (3, 4, [3, 0], [3]) (by unfold fpD; simp)
  have e3 : w_fd w1 (pO w0 H 3 g) 0 = w_fd w0 (pO w0 H 3 g) 0 := (h1.2.2 g hg).1 0 (by simp)
  rw [fd_pO h hg, fd_pO0 h hg, e3]; exact hy g hg
theorem HY_eq {H : Value} {n : Int} {w0 w1 : va_W} (h : fp_eq fpD H w0 w1) (hy : HY w0 H n) : HY w1 H n := ⟨HDG_eq h hy.1, fun g hg d hd v v0 v1 => by
  have h1 := h (3, 4, [3, 0], [3]) (by unfold fpD; simp)
  rw [fd_pO h hg] at hd
  have h2 := h1.2.2 g hg
  have e3 : w_fd w1 (pO w0 H 3 g) 3 = w_fd w0 (pO w0 H 3 g) 3 := h2.1 3 (by simp)
  rw [e3] at hd
  have e4 : w_ei w1 d v = w_ei w0 d v := h2.2 3 (by simp) d hd v.toNat
  rw [e4]; exact hy.2 g hg d hd v v0 v1⟩
theorem HYD_eq {H d : Value} {w0 w1 : va_W} (h : fp_eq fpD H w0 w1) (hy : HYD w0 H d) : HYD w1 H d := by
  obtain ⟨g, hg, e⟩ := hy
  exact ⟨g, hg, by rw [fd_pO h hg]; exact e⟩
/-- a drawing is that of a place -/
def HYP (w : va_W) (H d g : Value) : Prop := (0 ≤ v_iv g ∧ v_iv g < 4) ∧ v_ad d = pO w H 3 (v_iv g).toNat
theorem HYP_eq {H d g : Value} {w0 w1 : va_W} (h : fp_eq fpD H w0 w1) (hy : HYP w0 H d g) : HYP w1 H d g := by
  obtain ⟨hg, e⟩ := hy
  exact ⟨hg, by rw [fd_pO h (by omega)]; exact e⟩
def WQY (k : Nat) (xs : List Value) (w : va_W) : Prop := match xs with
  | [H, n] => HY w H (v_iv n + ((k : Int) - 2000000))
  | [H, n, d] => HY w H (v_iv n + ((k : Int) - 2000000)) ∧ HYD w H d
  | H :: n :: d :: g :: _ => HY w H (v_iv n + ((k : Int) - 2000000)) ∧ HYP w H d g
  | _ => True
theorem WQY_eq (k : Nat) (v : Value) (xs : List Value) (w0 w1 : va_W) (h : fp_eq fpD v w0 w1) (hf : WQY k (v :: xs) w0) : WQY k (v :: xs) w1 := by
  match xs, hf with
  | [], _ => trivial
  | [n], hf => exact HY_eq h hf
  | [n, d], hf => exact ⟨HY_eq h hf.1, HYD_eq h hf.2⟩
  | n :: d :: g :: _, hf => exact ⟨HY_eq h hf.1, HYP_eq h hf.2⟩
def WQG (k : Nat) (xs : List Value) (w : va_W) : Prop := match Nat.blt k 1000000 with
  | true => WQF k xs w
  | false => (match Nat.blt k 2000000 with
    | true => (match xs with | H :: _ => HL w H | [] => True)
    | false => WQY k xs w)
theorem WQG_eq (k : Nat) (v : Value) (xs : List Value) (w0 w1 : va_W) (h : fq_eq k v w0 w1) (hf : WQG k (v :: xs) w0) : WQG k (v :: xs) w1 := by
  unfold fq_eq at h
  unfold WQG at hf ⊢
  cases hb : Nat.blt k 1000000 with
  | true => rw [hb] at h hf; exact WQF_eq k v xs w0 w1 h hf
  | false =>
    rw [hb] at h hf
    cases hb2 : Nat.blt k 2000000 with
    | true => simp only [hb2] at h hf ⊢; exact HL_eq h hf
    | false => simp only [hb2] at h hf ⊢; exact WQY_eq k v xs w0 w1 h hf
def WQD : {f : Nat → List Value → va_W → Prop // ∀ k v xs w0 w1, fq_eq k v w0 w1 → f k (v :: xs) w0 → f k (v :: xs) w1} := ⟨WQG, WQG_eq⟩
