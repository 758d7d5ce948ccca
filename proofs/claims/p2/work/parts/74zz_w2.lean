-- blocks: labels do not mix what lies on two sides of a cut
/-- a set of nodes that hangs together with the rest at one node alone, by neighbours and by edges -/
def CUT2 (n m : Int) (tl hd nr : Int → Int) (w0 : Int) (S : Int → Prop) : Prop := ¬ S w0 ∧ (∀ u w, 0 ≤ u → u < n → 0 ≤ w → w < 32 → u ≠ w0 → w ≠ w0 → bit (nr u) w → (S u ↔ S w)) ∧ ∀ e, 0 ≤ e → e < m → tl e ≠ w0 → hd e ≠ w0 → (S (tl e) ↔ S (hd e))
def sdr (n m : Int) (tl hd nr : Int → Int) (e f : Int) : Prop := ∀ (w0 : Int) (S : Int → Prop), CUT2 n m tl hd nr w0 S → ((S (tl e) ∨ S (hd e)) ↔ (S (tl f) ∨ S (hd f)))
theorem sdr_rfl {n m e : Int} {tl hd nr : Int → Int} : sdr n m tl hd nr e e := fun _ _ _ => Iff.rfl
theorem sdr_symm {n m e f : Int} {tl hd nr : Int → Int} (h : sdr n m tl hd nr e f) : sdr n m tl hd nr f e := fun w S c => (h w S c).symm
theorem sdr_trans {n m e f g : Int} {tl hd nr : Int → Int} (h : sdr n m tl hd nr e f) (h2 : sdr n m tl hd nr f g) : sdr n m tl hd nr e g := fun w S c => (h w S c).trans (h2 w S c)
def BCU (bl tl hd nr : Int → Int) (n m : Int) : Prop := ∀ e f, 0 ≤ e → e < m → 0 ≤ f → f < m → bl e = bl f → sdr n m tl hd nr e f
theorem bcu_start {bl tl hd nr : Int → Int} {n m e : Int} (h : BL0 bl e) (he : m ≤ e) : BCU bl tl hd nr n m := fun i j i0 i1 j0 j1 q => by
  rw [h i i0 (by omega), h j j0 (by omega)] at q
  rw [q]; exact sdr_rfl
/-- the edges at a node with their other ends in a set -/
def ats (tl hd : Int → Int) (v sd e : Int) : Prop := (tl e = v ∧ (0 ≤ hd e ∧ hd e < 32) ∧ bit sd (hd e)) ∨ (hd e = v ∧ (0 ≤ tl e ∧ tl e < 32) ∧ bit sd (tl e))
def USD (tl hd nr : Int → Int) (n m v sd : Int) : Prop := ∀ e f, 0 ≤ e → e < m → 0 ≤ f → f < m → ats tl hd v sd e → ats tl hd v sd f → sdr n m tl hd nr e f
theorem usd_of {tl hd nr : Int → Int} {n m v sd q al w : Int} (hS : SPZ nr n q al sd) (hq : bvp q = bvp 1 <<< w.toNat) (w0 : 0 ≤ w) (w1 : w < 32) (ha : ∀ x, 0 ≤ x → x < 32 → bit al x → x ≠ v) : USD tl hd nr n m v sd := by
  intro e f e0 e1 f0 f1 ae af c S hc
  obtain ⟨c1, c2, c3⟩ := hc
  have sv : ∀ x, 0 ≤ x → x < 32 → bit sd x → x ≠ v := fun x a b z => ha x a b (hS.1 x a b z)
  by_cases vc : v = c
  · have same : ∀ x y, 0 ≤ x → x < 32 → bit sd x → 0 ≤ y → y < 32 → bit sd y → (S x ↔ S y) := by
      by_cases sw : S w
      · have := hS.2.2.1 S ⟨fun x a b z _ => by rw [bit_shl hq rfl w0 a b] at z; rw [z]; exact sw, fun u x u0 u1 su x0 x1 z y => (c2 u x u0 u1 x0 x1 (fun h => c1 (h ▸ su)) (by rw [← vc]; exact ha x x0 x1 y) z).mp su⟩
        intro x y x0 x1 zx y0 y1 zy
        exact ⟨fun _ => this y y0 y1 zy, fun _ => this x x0 x1 zx⟩
      · have := hS.2.2.1 (fun x => ¬ S x ∧ x ≠ c) ⟨fun x a b z y => ⟨by rw [bit_shl hq rfl w0 a b] at z; rw [z]; exact sw, by rw [← vc]; exact ha x a b y⟩, fun u x u0 u1 su x0 x1 z y => ⟨fun sx => su.1 ((c2 u x u0 u1 x0 x1 su.2 (by rw [← vc]; exact ha x x0 x1 y) z).mpr sx), by rw [← vc]; exact ha x x0 x1 y⟩⟩
        intro x y x0 x1 zx y0 y1 zy
        exact ⟨fun h => absurd h (this x x0 x1 zx).1, fun h => absurd h (this y y0 y1 zy).1⟩
    have one : ∀ e, ats tl hd v sd e → ∃ x, (0 ≤ x ∧ x < 32) ∧ bit sd x ∧ ((S (tl e) ∨ S (hd e)) ↔ S x) := fun e h => by
      rcases h with ⟨a, b, z⟩ | ⟨a, b, z⟩
      · exact ⟨hd e, b, z, ⟨fun h => h.elim (fun h => absurd (by rw [a, vc] at h; exact h) c1) id, Or.inr⟩⟩
      · exact ⟨tl e, b, z, ⟨fun h => h.elim id (fun h => absurd (by rw [a, vc] at h; exact h) c1), Or.inl⟩⟩
    obtain ⟨x, hx, zx, ex⟩ := one e ae
    obtain ⟨y, hy, zy, ey⟩ := one f af
    rw [ex, ey]; exact same x y hx.1 hx.2 zx hy.1 hy.2 zy
  · have one : ∀ e, 0 ≤ e → e < m → ats tl hd v sd e → ((S (tl e) ∨ S (hd e)) ↔ S v) := fun e e0 e1 h => by
      rcases h with ⟨a, b, z⟩ | ⟨a, b, z⟩
      · by_cases k : hd e = c
        · rw [a, k]; exact ⟨fun h => h.elim id (fun h => absurd h c1), Or.inl⟩
        · have := c3 e e0 e1 (by rw [a]; exact vc) k
          rw [← this, a]; exact ⟨fun h => h.elim id id, Or.inl⟩
      · by_cases k : tl e = c
        · rw [a, k]; exact ⟨fun h => h.elim (fun h => absurd h c1) id, Or.inr⟩
        · have := c3 e e0 e1 k (by rw [a]; exact vc)
          rw [this, a]; exact ⟨fun h => h.elim id id, Or.inl⟩
    rw [one e e0 e1 ae, one f f0 f1 af]
/-- a label is kept -/
def UN2 (bl tl hd nr : Int → Int) (n m v sd k : Int) : Prop := (BCU bl tl hd nr n m ∧ USD tl hd nr n m v sd) ∧ (k = -1 ∨ ∃ f, 0 ≤ f ∧ f < m ∧ bl f = k ∧ ∀ e, 0 ≤ e → e < m → ats tl hd v sd e → sdr n m tl hd nr e f)
def QKP (bl tl hd nr : Int → Int) (n m v sd g k : Int) : Prop := (BCU bl tl hd nr n m ∧ USD tl hd nr n m v sd) ∧ g ≠ k ∧ ∃ e f, (0 ≤ e ∧ e < m) ∧ (0 ≤ f ∧ f < m) ∧ bl e = g ∧ bl f = k ∧ sdr n m tl hd nr e f ∧ ∀ e, 0 ≤ e → e < m → ats tl hd v sd e → sdr n m tl hd nr e f
def QKI (bl tl hd nr : Int → Int) (n m v sd g k e : Int) : Prop := ∃ b0 : Int → Int, QKP b0 tl hd nr n m v sd g k ∧ 0 ≤ e ∧ (∀ j, 0 ≤ j → j < e → j < m → bl j = if b0 j = g then k else b0 j) ∧ ∀ j, e ≤ j → j < m → bl j = b0 j
def QKO (bl tl hd nr : Int → Int) (n m v sd k : Int) : Prop := (BCU bl tl hd nr n m ∧ USD tl hd nr n m v sd) ∧ ∃ f, 0 ≤ f ∧ f < m ∧ bl f = k ∧ ∀ e, 0 ≤ e → e < m → ats tl hd v sd e → sdr n m tl hd nr e f
theorem qki_start {bl tl hd nr : Int → Int} {n m v sd g k e : Int} (h : QKP bl tl hd nr n m v sd g k) (he : e = 0) : QKI bl tl hd nr n m v sd g k e := ⟨bl, h, by omega, fun j a b => by omega, fun j _ _ => rfl⟩
theorem qki_skip {bl tl hd nr : Int → Int} {n m v sd g k e e' x : Int} (h : QKI bl tl hd nr n m v sd g k e) (hx : x = bl e) (hn : x ≠ g) (he : e' = e + 1) : QKI bl tl hd nr n m v sd g k e' := by
  obtain ⟨b0, h1, h2, h3, h4⟩ := h
  refine ⟨b0, h1, by omega, fun j a b c => ?_, fun j a b => h4 j (by omega) b⟩
  by_cases q : j = e
  · rw [q, h4 e (Int.le_refl _) (by omega), if_neg (by rw [← h4 e (Int.le_refl _) (by omega), ← hx]; exact hn)]
  · exact h3 j a (by omega) c
theorem qki_step {bl bl' tl hd nr : Int → Int} {n m v sd g k e e' x p y : Int} (h : QKI bl tl hd nr n m v sd g k e) (hx : x = bl e) (hg : x = g) (hs : st1 bl bl' p y) (hp : p = e) (hy : y = k) (he : e' = e + 1) : QKI bl' tl hd nr n m v sd g k e' := by
  obtain ⟨b0, h1, h2, h3, h4⟩ := h
  refine ⟨b0, h1, by omega, fun j a b c => ?_, fun j a b => ?_⟩
  · by_cases q : j = e
    · rw [(hs j a).1 (by omega), if_pos (by rw [q, ← h4 e (Int.le_refl _) (by omega), ← hx]; exact hg)]; exact hy
    · rw [(hs j a).2 (by omega)]; exact h3 j a (by omega) c
  · rw [(hs j (by omega)).2 (by omega)]; exact h4 j (by omega) b
theorem qko_of {bl tl hd nr : Int → Int} {n m v sd g k e : Int} (h : QKI bl tl hd nr n m v sd g k e) (he : m ≤ e) : QKO bl tl hd nr n m v sd k := by
  obtain ⟨b0, ⟨⟨z1, z2⟩, ne, a, f, ha, hf, ba, bf, r1, r2⟩, h2, h3, _⟩ := h
  have hb : ∀ j, 0 ≤ j → j < m → bl j = if b0 j = g then k else b0 j := fun j a b => h3 j a (by omega) b
  have bk : ∀ j, 0 ≤ j → j < m → bl j = k → sdr n m tl hd nr j f := fun j j0 j1 q => by
    rw [hb j j0 j1] at q
    by_cases c : b0 j = g
    · exact sdr_trans (z1 j a j0 j1 ha.1 ha.2 (by rw [c, ba])) r1
    · rw [if_neg c] at q
      exact z1 j f j0 j1 hf.1 hf.2 (by rw [q, bf])
  refine ⟨⟨fun i j i0 i1 j0 j1 q => ?_, z2⟩, f, hf.1, hf.2, by rw [hb f hf.1 hf.2, if_neg (by rw [bf]; exact fun q => ne q.symm), bf], r2⟩
  by_cases c : bl i = k
  · exact sdr_trans (bk i i0 i1 c) (sdr_symm (bk j j0 j1 (by rw [← q]; exact c)))
  · have ci : b0 i ≠ g := fun w => c (by rw [hb i i0 i1, if_pos w])
    have cj : b0 j ≠ g := fun w => c (by rw [q, hb j j0 j1, if_pos w])
    rw [hb i i0 i1, hb j j0 j1, if_neg ci, if_neg cj] at q
    exact z1 i j i0 i1 j0 j1 q
theorem un2_start {bl tl hd nr : Int → Int} {n m v sd k : Int} (h : BCU bl tl hd nr n m) (h2 : USD tl hd nr n m v sd) (hk : k = -1) : UN2 bl tl hd nr n m v sd k := ⟨⟨h, h2⟩, Or.inl hk⟩
theorem un2_first {bl tl hd nr : Int → Int} {n m v sd k k' e x : Int} (h : UN2 bl tl hd nr n m v sd k) (hx : x = bl e) (hk : k' = x) (e0 : 0 ≤ e) (e1 : e < m) (ha : ats tl hd v sd e) : UN2 bl tl hd nr n m v sd k' := ⟨h.1, Or.inr ⟨e, e0, e1, by omega, fun f f0 f1 af => h.1.2 f e f0 f1 e0 e1 af ha⟩⟩
theorem un2_qkp {bl tl hd nr : Int → Int} {n m v sd k e x g k' : Int} (h : UN2 bl tl hd nr n m v sd k) (hk : k ≠ -1) (hx : x = bl e) (hn : x ≠ k) (e0 : 0 ≤ e) (e1 : e < m) (ha : ats tl hd v sd e) (g1 : k ≤ g) (g2 : x ≤ g) (k1 : k' ≤ k) (k2 : k' ≤ x) (hg : g = k ∨ g = x) (hk' : k' = k ∨ k' = x) : QKP bl tl hd nr n m v sd g k' := by
  obtain ⟨h1, h2⟩ := h
  rcases h2 with q | ⟨f, f0, f1, f2, f3⟩
  · exact absurd q hk
  · refine ⟨h1, by omega, ?_⟩
    rcases hk' with w | w
    · exact ⟨e, f, ⟨e0, e1⟩, ⟨f0, f1⟩, by omega, by omega, f3 e e0 e1 ha, f3⟩
    · exact ⟨f, e, ⟨f0, f1⟩, ⟨e0, e1⟩, by omega, by omega, sdr_symm (f3 e e0 e1 ha), fun j j0 j1 aj => h1.2 j e j0 j1 e0 e1 aj ha⟩
theorem un2_back {bl tl hd nr : Int → Int} {n m v sd k : Int} (h : QKO bl tl hd nr n m v sd k) : UN2 bl tl hd nr n m v sd k := ⟨h.1, Or.inr h.2⟩
/-- labels get numbers -/
def LKJ (bl tl hd nr : Int → Int) (n m e c : Int) : Prop := ∃ b0 : Int → Int, (BLZ b0 tl hd m ∧ BCU b0 tl hd nr n m) ∧ 0 ≤ e ∧ (∀ j, e ≤ j → j < m → bl j = b0 j) ∧ (∀ j, 0 ≤ j → j < e → bl j < c) ∧ ∀ i j, 0 ≤ i → i < e → 0 ≤ j → j < e → (bl i = bl j ↔ b0 i = b0 j)
theorem lkj_start {bl tl hd nr : Int → Int} {n m e c : Int} (h : BLZ bl tl hd m) (h2 : BCU bl tl hd nr n m) (he : e = 0) : LKJ bl tl hd nr n m e c := ⟨bl, ⟨h, h2⟩, by omega, fun _ _ _ => rfl, fun j a b => by omega, fun i j a b => by omega⟩
theorem lkj_new {bl bl' tl hd nr : Int → Int} {n m e e' c c' p x y : Int} (h : LKJ bl tl hd nr n m e c) (e1 : e < m) (hy : y = bl e) (hr : y = e) (hs : st1 bl bl' p x) (hp : p = e) (hx : x = c) (he : e' = e + 1) (hc : c' = c + 1) : LKJ bl' tl hd nr n m e' c' := by
  obtain ⟨b0, h1, h2, h3, h4, h5⟩ := h
  have be : b0 e = e := by rw [← h3 e (Int.le_refl _) e1]; omega
  have ne : bl' e = c := by rw [(hs e h2).1 (by omega)]; exact hx
  have no : ∀ j, 0 ≤ j → j < e → bl' j = bl j := fun j a b => (hs j a).2 (by omega)
  have old : ∀ j, 0 ≤ j → j < e → b0 j < e := fun j a b => by have := (h1.1.1 j a (by omega)).2.1; omega
  refine ⟨b0, h1, by omega, fun j a b => by rw [(hs j (by omega)).2 (by omega)]; exact h3 j (by omega) b, fun j a b => ?_, fun i j i0 i1 j0 j1 => ?_⟩
  · by_cases q : j = e
    · rw [q, ne]; omega
    · rw [no j a (by omega)]; have := h4 j a (by omega); omega
  · by_cases q : i = e
    · by_cases w : j = e
      · rw [q, w]; exact ⟨fun _ => rfl, fun _ => rfl⟩
      · rw [q, ne, no j j0 (by omega), be]
        have := h4 j j0 (by omega); have := old j j0 (by omega)
        constructor <;> (intro; omega)
    · by_cases w : j = e
      · rw [w, ne, no i i0 (by omega), be]
        have := h4 i i0 (by omega); have := old i i0 (by omega)
        constructor <;> (intro; omega)
      · rw [no i i0 (by omega), no j j0 (by omega)]; exact h5 i j i0 (by omega) j0 (by omega)
theorem lkj_old {bl bl' tl hd nr : Int → Int} {n m e e' c p x r y : Int} (h : LKJ bl tl hd nr n m e c) (e1 : e < m) (hy : y = bl e) (hne : y ≠ e) (hr : r = bl e) (hx : x = bl r) (hs : st1 bl bl' p x) (hp : p = e) (he : e' = e + 1) : LKJ bl' tl hd nr n m e' c := by
  obtain ⟨b0, h1, h2, h3, h4, h5⟩ := h
  have re : r = b0 e := by rw [← h3 e (Int.le_refl _) e1]; exact hr
  have q1 := h1.1.1 e h2 e1
  have r0 : 0 ≤ r := by omega
  have r1 : r < e := by omega
  have ne : bl' e = bl r := by rw [(hs e h2).1 (by omega)]; exact hx
  have no : ∀ j, 0 ≤ j → j < e → bl' j = bl j := fun j a b => (hs j a).2 (by omega)
  have rr : b0 r = b0 e := by rw [re]; exact q1.2.2
  refine ⟨b0, h1, by omega, fun j a b => by rw [(hs j (by omega)).2 (by omega)]; exact h3 j (by omega) b, fun j a b => ?_, fun i j i0 i1 j0 j1 => ?_⟩
  · by_cases q : j = e
    · rw [q, ne]; exact h4 r r0 r1
    · rw [no j a (by omega)]; exact h4 j a (by omega)
  · by_cases q : i = e
    · by_cases w : j = e
      · rw [q, w]; exact ⟨fun _ => rfl, fun _ => rfl⟩
      · rw [q, ne, no j j0 (by omega), ← rr]; exact h5 r j r0 r1 j0 (by omega)
    · by_cases w : j = e
      · rw [w, ne, no i i0 (by omega), ← rr]; exact h5 i r i0 (by omega) r0 r1
      · rw [no i i0 (by omega), no j j0 (by omega)]; exact h5 i j i0 (by omega) j0 (by omega)
/-- with one label no cut has edges on both sides -/
def BKL (tl hd nr : Int → Int) (n m c : Int) : Prop := c ≤ m ∧ (c = 1 → ∀ e f, 0 ≤ e → e < m → 0 ≤ f → f < m → sdr n m tl hd nr e f)
theorem bkl_of {bl tl hd nr : Int → Int} {n m e c : Int} (h : LKJ bl tl hd nr n m e c) (hl : LBI bl m e c) (he : m ≤ e) (he2 : e ≤ m) : BKL tl hd nr n m c := by
  obtain ⟨b0, h1, h2, h3, h4, h5⟩ := h
  refine ⟨by have := hl.2.2.1; omega, fun c1 i j i0 i1 j0 j1 => ?_⟩
  have hi := hl.2.2.2.1 i i0 (by omega)
  have hj := hl.2.2.2.1 j j0 (by omega)
  exact h1.2 i j i0 i1 j0 j1 ((h5 i j i0 (by omega) j0 (by omega)).mp (by omega))
theorem bks_of {tl hd nr : Int → Int} {n m bk : Int} (h : BKL tl hd nr n m bk) (hg : GNB n m nr tl hd) (hk : GKE n m tl hd) (n24 : n ≤ 24) : BKS n m bk nr tl hd := by
  refine ⟨h.1, fun b1 w0 S hc e f e0 e1 f0 f1 se sf => ?_⟩
  have c2 : CUT2 n m tl hd nr w0 S := by
    have key : ∀ u w, 0 ≤ u → u < n → 0 ≤ w → w < 32 → u ≠ w0 → w ≠ w0 → bit (nr u) w → (S u ↔ S w) := fun u w u0 u1 w0' w1 hu hw z => by
      have g := hg.1 u w u0 u1 w0' w1 z
      exact ⟨fun su => (hc.2 u w u0 u1 w0' g.1 su z).elim id (fun q => absurd q hw), fun sw => (hc.2 w u w0' g.1 u0 u1 sw g.2).elim id (fun q => absurd q hu)⟩
    refine ⟨hc.1, key, fun e e0 e1 ht hh => ?_⟩
    have q := hk e e0 e1
    exact key (tl e) (hd e) q.1 q.2.1 q.2.2.1 (by omega) ht hh (hg.2.1 e e0 e1).1
  exact ((h.2 b1 e f e0 e1 f0 f1 w0 S c2).mp se).elim sf.1 sf.2
