/-! the shortest way -/
def smN (f : Int → Int) : Nat → Int
  | 0 => 0
  | n + 1 => smN f n + f ((n : Nat) : Int)
theorem sm_le {f g : Int → Int} : ∀ n : Nat, (∀ j : Int, 0 ≤ j → j < n → f j ≤ g j) → smN f n ≤ smN g n
  | 0, _ => Int.le_refl _
  | n + 1, h => by
    show smN f n + f ((n : Nat) : Int) ≤ smN g n + g ((n : Nat) : Int)
    have h1 := sm_le n (fun j a b => h j a (by omega))
    have := h n (by omega) (by omega)
    omega
theorem sm_lt {f g : Int → Int} {i : Int} : ∀ n : Nat, 0 ≤ i → i < n → (∀ j : Int, 0 ≤ j → j < n → f j ≤ g j) → f i + 1 ≤ g i → smN f n + 1 ≤ smN g n
  | 0, h0, h1, _, _ => by omega
  | n + 1, h0, h1, h, hi => by
    show smN f n + f ((n : Nat) : Int) + 1 ≤ smN g n + g ((n : Nat) : Int)
    by_cases q : i = n
    · subst q
      have h2 := sm_le n (fun j a b => h j a (by omega))
      omega
    · have h2 := sm_lt n h0 (by omega) (fun j a b => h j a (by omega)) hi
      have := h n (by omega) (by omega)
      omega
theorem sm_rng {f : Int → Int} {lo hi : Int} : ∀ n : Nat, (∀ j : Int, 0 ≤ j → j < n → lo ≤ f j ∧ f j ≤ hi) → lo * n ≤ smN f n ∧ smN f n ≤ hi * n
  | 0, _ => by
    show lo * ((0 : Nat) : Int) ≤ 0 ∧ 0 ≤ hi * ((0 : Nat) : Int)
    simp
  | n + 1, h => by
    have h1 := sm_rng n (fun j a b => h j a (by omega))
    have h2 := h n (by omega) (by omega)
    show lo * ((n + 1 : Nat) : Int) ≤ smN f n + f ((n : Nat) : Int) ∧ smN f n + f ((n : Nat) : Int) ≤ hi * ((n + 1 : Nat) : Int)
    rw [show ((n + 1 : Nat) : Int) = (n : Int) + 1 by omega, Int.mul_add, Int.mul_add, Int.mul_one, Int.mul_one]
    omega
noncomputable def sm (f : Int → Int) (n : Int) : Int := Classical.choose (⟨smN f n.toNat, rfl⟩ : ∃ c : Int, c = smN f n.toNat)
theorem sm_is (f : Int → Int) (n : Int) : sm f n = smN f n.toNat := Classical.choose_spec (⟨smN f n.toNat, rfl⟩ : ∃ c : Int, c = smN f n.toNat)
theorem smlt {f g : Int → Int} {n i : Int} (h0 : 0 ≤ i) (h1 : i < n) (h : ∀ j : Int, 0 ≤ j → j < n → f j ≤ g j) (hi : f i + 1 ≤ g i) : sm f n + 1 ≤ sm g n := by
  rw [sm_is, sm_is]; exact sm_lt n.toNat h0 (by omega) (fun j a b => h j a (by omega)) hi
theorem smrg {f : Int → Int} {n lo hi : Int} (hn : 0 ≤ n) (h : ∀ j : Int, 0 ≤ j → j < n → lo ≤ f j ∧ f j ≤ hi) : lo * n ≤ sm f n ∧ sm f n ≤ hi * n := by
  have := sm_rng (f := f) (lo := lo) (hi := hi) n.toNat (fun j a b => h j a (by omega))
  rw [sm_is]
  rw [show ((n.toNat : Nat) : Int) = n by omega] at this; exact this
def mgE (only : Int) (dE po : Int → Int) (e : Int) : Prop := dE e = 0 ∧ (only < 0 ∨ po e = only)
def MGP (only : Int) (dE po : Int → Int) (e r : Int) : Prop := r ≠ 0 ↔ mgE only dE po e
def cnd (dn : Int → Int) (a b nw i j : Int) : Prop := (nw = 0 ∨ j = b ∨ dn j = 0) ∧ (nw = 0 ∨ i = a ∨ dn i = 0)
def eJ (pt ph : Int → Int) (e i j : Int) : Prop := (pt e = i ∧ ph e = j) ∨ (pt e = j ∧ ph e = i)
def ARC (m only : Int) (pt ph dE po : Int → Int) (i j : Int) : Prop := ∃ e, 0 ≤ e ∧ e < m ∧ mgE only dE po e ∧ eJ pt ph e i j
def UA (m : Int) (al dE : Int → Int) : Prop := ∀ e, 0 ≤ e → e < m → dE e = 0 → al e = 1
def TG0 (tg : Int → Int) (b i : Int) : Prop := ∀ j, 0 ≤ j → j < i → tg j = if j = b then 0 else 1000000
def TGI (n m only : Int) (pt ph dE po dn tg : Int → Int) (a b nw : Int) : Prop := (∀ i, 0 ≤ i → i < n → 0 ≤ tg i ∧ tg i ≤ 1000000) ∧ tg b = 0 ∧ (∀ i, 0 ≤ i → i < n → i ≠ b → 1 ≤ tg i) ∧ ∀ i, 0 ≤ i → i < n → i ≠ b → tg i < 1000000 → ∃ j, 0 ≤ j ∧ j < n ∧ ARC m only pt ph dE po i j ∧ cnd dn a b nw i j ∧ tg j + 1 ≤ tg i
def satd (dn tg : Int → Int) (a b nw i j : Int) : Prop := cnd dn a b nw i j → tg i ≤ tg j + 1
def TG3 (only : Int) (pt ph dE po dn tg : Int → Int) (a b nw E mo i0 j0 : Int) : Prop := mo = 0 → (∀ e, 0 ≤ e → e < E → mgE only dE po e → satd dn tg a b nw (pt e) (ph e) ∧ satd dn tg a b nw (ph e) (pt e)) ∧ satd dn tg a b nw i0 j0
def TG4 (m only : Int) (pt ph dE po dn tg : Int → Int) (a b nw mo : Int) : Prop := TG3 only pt ph dE po dn tg a b nw m mo b b
def SMM (n : Int) (tg : Int → Int) (mo g : Int) : Prop := sm tg n + mo ≤ g
def SMN (n : Int) (tg : Int → Int) (mo g : Int) : Prop := sm tg n + mo + 1 ≤ g
def CLO (n only : Int) (pt ph dE po dn tg : Int → Int) (i j a b nw E mo i0 j0 s r : Int) : Prop := (r = 0 → TG3 only pt ph dE po dn tg a b nw E mo i0 j0 ∧ satd dn tg a b nw i j ∧ sm tg n + mo + 1 ≤ s) ∧ (r ≠ 0 → sm tg n + 2 ≤ s)
theorem tg_start {n m only : Int} {pt ph dE po dn tg : Int → Int} {a b nw i : Int} (h : TG0 tg b i) (hi : n ≤ i) (hb0 : 0 ≤ b) (hb1 : b < n) : TGI n m only pt ph dE po dn tg a b nw := by
  have v : ∀ j, 0 ≤ j → j < n → tg j = if j = b then 0 else 1000000 := fun j x y => h j x (by omega)
  refine ⟨fun j x y => by rw [v j x y]; split <;> omega, by rw [v b hb0 hb1, if_pos rfl], fun j x y z => by rw [v j x y, if_neg z]; omega, fun j x y z w => by rw [v j x y, if_neg z] at w; omega⟩
theorem tg_lower {n m only : Int} {pt ph dE po dn tg tg' : Int → Int} {a b nw i j : Int} (h : TGI n m only pt ph dE po dn tg a b nw) (hi0 : 0 ≤ i) (hi1 : i < n) (hj0 : 0 ≤ j) (hj1 : j < n) (ha : ARC m only pt ph dE po i j) (hc : cnd dn a b nw i j) (hlt : tg j + 1 < tg i) (hs : ∀ y, 0 ≤ y → y ≠ i → tg' y = tg y) (hv : tg' i = tg j + 1) (hb : 0 ≤ b) : TGI n m only pt ph dE po dn tg' a b nw := by
  obtain ⟨h1, h2, h3, h4⟩ := h
  have hij : j ≠ i := fun e => by rw [e] at hlt; omega
  have hb' : i ≠ b := fun e => by have := h1 j hj0 hj1; rw [e, h2] at hlt; omega
  have le : ∀ y, 0 ≤ y → tg' y ≤ tg y := fun y hy => by
    by_cases q : y = i
    · rw [q, hv]; omega
    · rw [hs y hy q]; exact Int.le_refl _
  refine ⟨fun y y0 y1 => ?_, by rw [hs b hb (fun e => hb' e.symm)]; exact h2, fun y y0 y1 hy => ?_, fun y y0 y1 hy hf => ?_⟩
  · by_cases q : y = i
    · rw [q, hv]; have := h1 j hj0 hj1; have := h1 i hi0 hi1; omega
    · rw [hs y y0 q]; exact h1 y y0 y1
  · by_cases q : y = i
    · rw [q, hv]; have := h1 j hj0 hj1; omega
    · rw [hs y y0 q]; exact h3 y y0 y1 hy
  · by_cases q : y = i
    · subst q
      exact ⟨j, hj0, hj1, ha, hc, by rw [hv, hs j hj0 hij]; omega⟩
    · rw [hs y y0 q] at hf
      obtain ⟨k, k0, k1, k2, k3, k4⟩ := h4 y y0 y1 hy hf
      exact ⟨k, k0, k1, k2, k3, by rw [hs y y0 q]; have := le k k0; omega⟩
/-- at rest: each step of a way goes down by one -/
theorem tg_next {n m only : Int} {pt ph dE po dn tg : Int → Int} {a b nw i : Int} (h : TGI n m only pt ph dE po dn tg a b nw) (hf : TG4 m only pt ph dE po dn tg a b nw 0) (h0 : 0 ≤ i) (h1 : i < n) (hb : i ≠ b) (hl : tg i < 1000000) : ∃ j, 0 ≤ j ∧ j < n ∧ ARC m only pt ph dE po i j ∧ cnd dn a b nw i j ∧ tg j = tg i - 1 := by
  obtain ⟨j, j0, j1, j2, j3, j4⟩ := h.2.2.2 i h0 h1 hb hl
  refine ⟨j, j0, j1, j2, j3, ?_⟩
  obtain ⟨e, e0, e1, e2, e3⟩ := j2
  have s := (hf rfl).1 e e0 e1 e2
  unfold satd at s
  rcases e3 with ⟨p, q⟩ | ⟨p, q⟩
  · rw [p, q] at s; have := s.1 j3; omega
  · rw [p, q] at s; have := s.2 j3; omega
theorem tg_lev {n m only : Int} {pt ph dE po dn tg : Int → Int} {a b nw i : Int} (h : TGI n m only pt ph dE po dn tg a b nw) (hf : TG4 m only pt ph dE po dn tg a b nw 0) : ∀ d : Nat, ∀ i, 0 ≤ i → i < n → tg i < 1000000 → d ≤ tg i → ∃ j, 0 ≤ j ∧ j < n ∧ tg j = tg i - d
  | 0, i, h0, h1, _, _ => ⟨i, h0, h1, by omega⟩
  | d + 1, i, h0, h1, h2, h3 => by
    obtain ⟨j, j0, j1, j2⟩ := tg_lev (i := i) h hf d i h0 h1 h2 (by omega)
    have hb : j ≠ b := fun e => by rw [e, h.2.1] at j2; omega
    obtain ⟨k, k0, k1, _, _, k2⟩ := tg_next h hf j0 j1 hb (by omega)
    exact ⟨k, k0, k1, by omega⟩
theorem tg_bd {n m only : Int} {pt ph dE po dn tg : Int → Int} {a b nw i : Int} (h : TGI n m only pt ph dE po dn tg a b nw) (hf : TG4 m only pt ph dE po dn tg a b nw 0) (h0 : 0 ≤ i) (h1 : i < n) (hl : tg i < 1000000) : tg i + 1 ≤ n := by
  have hx : ∀ t : Nat, ∃ j : Int, t ≤ (tg i).toNat → 0 ≤ j ∧ j < n ∧ tg j = t := by
    intro t
    by_cases q : t ≤ (tg i).toNat
    · have := (h.1 i h0 h1).1
      obtain ⟨j, j0, j1, j2⟩ := tg_lev (i := i) h hf ((tg i).toNat - t) i h0 h1 hl (by omega)
      exact ⟨j, fun _ => ⟨j0, j1, by omega⟩⟩
    · exact ⟨0, fun z => absurd z q⟩
  have hX : ∃ F : Nat → Int, ∀ t, t ≤ (tg i).toNat → 0 ≤ F t ∧ F t < n ∧ tg (F t) = t := ⟨fun t => Classical.choose (hx t), fun t => Classical.choose_spec (hx t)⟩
  obtain ⟨F, hF⟩ := hX
  have := php ((tg i).toNat + 1) n.toNat (fun t => (F t).toNat) (fun t ht => by have := hF t (by omega); show (F t).toNat < n.toNat; omega) (fun s t hs ht e => by
    have e' : (F s).toNat = (F t).toNat := e
    have a1 := hF s (by omega)
    have a2 := hF t (by omega)
    have : F s = F t := by omega
    rw [this] at a1; omega)
  have := (h.1 i h0 h1).1
  omega
/-- what is answered: no way, or one -/
def NOW (n m only : Int) (pt ph dE po dn : Int → Int) (a b nw : Int) : Prop := ∃ L : Int → Prop, L b ∧ ¬ L a ∧ ∀ i j, 0 ≤ i → i < n → 0 ≤ j → j < n → ARC m only pt ph dE po i j → cnd dn a b nw i j → L j → L i
def WAY (n m only : Int) (pt ph al dE po dn way : Int → Int) (a b nw wm : Int) : Prop := 1 ≤ wm ∧ wm ≤ n ∧ way 0 = a ∧ way (wm - 1) = b ∧ (∀ k, 0 ≤ k → k < wm → 0 ≤ way k ∧ way k < n) ∧ (∀ k l, 0 ≤ k → k < l → l < wm → way k ≠ way l) ∧ (∀ k, 0 ≤ k → k + 1 < wm → ∃ e, JJ m pt ph al e (way k) (way (k + 1)) ∧ mgE only dE po e) ∧ ∀ k, 0 < k → k + 1 < wm → nw = 0 ∨ dn (way k) = 0
def SHP (n m only wm : Int) (pt ph al dE po dn way : Int → Int) (a b nw : Int) : Prop := (wm = 0 ∧ NOW n m only pt ph dE po dn a b nw) ∨ WAY n m only pt ph al dE po dn way a b nw wm
theorem sh_no {n m only : Int} {pt ph al dE po dn way tg : Int → Int} {a b nw : Int} (h : TGI n m only pt ph dE po dn tg a b nw) (hf : TG4 m only pt ph dE po dn tg a b nw 0) (ha : 1000000 ≤ tg a) (hn : n ≤ 1000) : SHP n m only 0 pt ph al dE po dn way a b nw := by
  refine Or.inl ⟨rfl, fun i => tg i < 1000000, by show tg b < 1000000; rw [h.2.1]; omega, by show ¬ tg a < 1000000; omega, fun i j i0 i1 j0 j1 ⟨e, e0, e1, e2, e3⟩ hc hj => ?_⟩
  have s := (hf rfl).1 e e0 e1 e2
  unfold satd at s
  have hj' : tg j < 1000000 := hj
  by_cases q : i = b
  · rw [q]; show tg b < 1000000; rw [h.2.1]; omega
  · have hle : tg i ≤ tg j + 1 := by
      rcases e3 with ⟨x, y⟩ | ⟨x, y⟩
      · rw [x, y] at s; exact s.1 hc
      · rw [x, y] at s; exact s.2 hc
    by_cases qj : j = b
    · show tg i < 1000000; rw [qj, h.2.1] at hle; omega
    · have := tg_bd h hf j0 j1 hj'
      show tg i < 1000000; omega
/-- on the way: w nodes so far, the last one i -/
def WLK (n m only wm : Int) (pt ph al dE po dn tg way : Int → Int) (a b nw i : Int) : Prop := 1 ≤ wm ∧ way 0 = a ∧ way (wm - 1) = i ∧ (∀ k, 0 ≤ k → k < wm → 0 ≤ way k ∧ way k < n ∧ tg (way k) = tg a - k) ∧ (∀ k, 0 ≤ k → k + 1 < wm → ∃ e, JJ m pt ph al e (way k) (way (k + 1)) ∧ mgE only dE po e) ∧ (∀ k, 0 < k → k < wm → nw = 0 ∨ way k = b ∨ dn (way k) = 0) ∧ tg a < 1000000
def NXG (n m only : Int) (pt ph al dE po dn tg : Int → Int) (b nw i j : Int) : Prop := 0 ≤ j ∧ j < n ∧ (∃ e, JJ m pt ph al e i j ∧ mgE only dE po e) ∧ tg j = tg i - 1 ∧ (j = b ∨ nw = 0 ∨ dn j = 0)
def NXT (n m only : Int) (pt ph al dE po dn tg : Int → Int) (b nw i nx j : Int) : Prop := (nx = -1 ∨ NXG n m only pt ph al dE po dn tg b nw i nx) ∧ ∀ k, j < k → NXG n m only pt ph al dE po dn tg b nw i k → nx ≠ -1
theorem wlk_bd {n m only wm : Int} {pt ph al dE po dn tg way : Int → Int} {a b nw i : Int} (h : TGI n m only pt ph dE po dn tg a b nw) (hf : TG4 m only pt ph dE po dn tg a b nw 0) (w : WLK n m only wm pt ph al dE po dn tg way a b nw i) : wm ≤ n ∧ 0 ≤ i ∧ i < n ∧ 1 ≤ wm ∧ tg i = tg a - (wm - 1) := by
  obtain ⟨w1, w2, w3, w4, w5, w6, w7⟩ := w
  have ha := w4 0 (by omega) (by omega)
  rw [w2] at ha
  have hl := w4 (wm - 1) (by omega) (by omega)
  rw [w3] at hl
  have := tg_bd h hf ha.1 ha.2.1 w7
  have h3 := h.1 i hl.1 hl.2.1
  exact ⟨by omega, hl.1, hl.2.1, w1, hl.2.2⟩
theorem wlk_start {n m only : Int} {pt ph al dE po dn tg way : Int → Int} {a b nw : Int} (ha0 : 0 ≤ a) (ha1 : a < n) (hl : tg a < 1000000) (hw : way 0 = a) : WLK n m only 1 pt ph al dE po dn tg way a b nw a :=
  ⟨by omega, hw, by rw [show (1 : Int) - 1 = 0 by omega]; exact hw, fun k k0 k1 => by rw [show k = 0 by omega, hw]; exact ⟨ha0, ha1, by omega⟩, fun k k0 k1 => by omega, fun k k0 k1 => by omega, hl⟩
theorem wlk_step {n m only wm : Int} {pt ph al dE po dn tg way way' : Int → Int} {a b nw i nx : Int} (w : WLK n m only wm pt ph al dE po dn tg way a b nw i) (hs : ∀ k, 0 ≤ k → k ≠ wm → way' k = way k) (hv : way' wm = nx) (hx : NXG n m only pt ph al dE po dn tg b nw i nx) : WLK n m only (wm + 1) pt ph al dE po dn tg way' a b nw nx := by
  obtain ⟨w1, w2, w3, w4, w5, w6, w7⟩ := w
  obtain ⟨x1, x2, x3, x4, x5⟩ := hx
  have hl := w4 (wm - 1) (by omega) (by omega)
  rw [w3] at hl
  refine ⟨by omega, by rw [hs 0 (by omega) (by omega)]; exact w2, by rw [show wm + 1 - 1 = wm by omega]; exact hv, fun k k0 k1 => ?_, fun k k0 k1 => ?_, fun k k0 k1 => ?_, w7⟩
  · by_cases q : k = wm
    · rw [q, hv]; exact ⟨x1, x2, by omega⟩
    · rw [hs k k0 q]; exact w4 k k0 (by omega)
  · by_cases q : k + 1 = wm
    · rw [q, hv, hs k k0 (by omega), show k = wm - 1 by omega, w3]; exact x3
    · rw [hs k k0 (by omega), hs (k + 1) (by omega) q]; exact w5 k k0 (by omega)
  · by_cases q : k = wm
    · rw [q, hv]; rcases x5 with z | z | z
      · exact Or.inr (Or.inl z)
      · exact Or.inl z
      · exact Or.inr (Or.inr z)
    · rw [hs k (by omega) q]; exact w6 k k0 (by omega)
theorem wlk_end {n m only wm : Int} {pt ph al dE po dn tg way : Int → Int} {a b nw : Int} (h : TGI n m only pt ph dE po dn tg a b nw) (hf : TG4 m only pt ph dE po dn tg a b nw 0) (w : WLK n m only wm pt ph al dE po dn tg way a b nw b) : SHP n m only wm pt ph al dE po dn way a b nw := by
  have hb := wlk_bd h hf w
  obtain ⟨w1, w2, w3, w4, w5, w6, w7⟩ := w
  have hl := (w4 (wm - 1) (by omega) (by omega)).2.2
  rw [w3, h.2.1] at hl
  refine Or.inr ⟨w1, hb.1, w2, w3, fun k k0 k1 => ⟨(w4 k k0 k1).1, (w4 k k0 k1).2.1⟩, fun k l k0 k1 k2 e => ?_, w5, fun k k0 k1 => ?_⟩
  · have e1 := (w4 k k0 (by omega)).2.2
    have e2 := (w4 l (by omega) k2).2.2
    rw [e] at e1; omega
  · rcases w6 k k0 (by omega) with z | z | z
    · exact Or.inl z
    · exfalso
      have e1 := (w4 k (by omega) (by omega)).2.2
      rw [z, h.2.1] at e1; omega
    · exact Or.inr z
theorem nxt_some {n m only wm : Int} {pt ph al dE po dn tg way : Int → Int} {a b nw i nx j : Int} (hua : UA m al dE) (h : TGI n m only pt ph dE po dn tg a b nw) (hf : TG4 m only pt ph dE po dn tg a b nw 0) (w : WLK n m only wm pt ph al dE po dn tg way a b nw i) (hb : i ≠ b) (hx : NXT n m only pt ph al dE po dn tg b nw i nx j) (hj : j < 0) : NXG n m only pt ph al dE po dn tg b nw i nx := by
  have hw := wlk_bd h hf w
  have hl : tg i < 1000000 := by have := w.2.2.2.2.2.2; omega
  obtain ⟨k, k0, k1, k2, k3, k4⟩ := tg_next h hf hw.2.1 hw.2.2.1 hb hl
  obtain ⟨e, e0, e1, e2, e3⟩ := k2
  have hg : NXG n m only pt ph al dE po dn tg b nw i k := ⟨k0, k1, ⟨e, ⟨e0, e1, hua e e0 e1 e2.1, e3⟩, e2⟩, k4, by rcases k3.1 with z | z | z; exact Or.inr (Or.inl z); exact Or.inl z; exact Or.inr (Or.inr z)⟩
  exact hx.1.elim (fun z => absurd z (hx.2 k (by omega) hg)) id
theorem tgi_rng {n m only : Int} {pt ph dE po dn tg : Int → Int} {a b nw i : Int} (h : TGI n m only pt ph dE po dn tg a b nw) (h0 : 0 ≤ i) (h1 : i < n) : 0 ≤ tg i ∧ tg i ≤ 1000000 := h.1 i h0 h1
def TG5 (m only : Int) (pt ph dE po dn tg : Int → Int) (a b nw : Int) : Prop := TG4 m only pt ph dE po dn tg a b nw 0
theorem smn_pos {n m only : Int} {pt ph dE po dn tg : Int → Int} {a b nw mo g : Int} (h : SMN n tg mo g) (h0 : 0 ≤ mo) (hT : TGI n m only pt ph dE po dn tg a b nw) (hn : 0 ≤ n) : 1 ≤ g := by
  have := smrg (f := tg) (n := n) (lo := 0) (hi := 1000000) hn (fun j a b => hT.1 j a b)
  unfold SMN at h; omega
theorem nxt_skip {n m only : Int} {pt ph al dE po dn tg : Int → Int} {b nw i nx j : Int} (h : NXT n m only pt ph al dE po dn tg b nw i nx j) (hn : ¬ NXG n m only pt ph al dE po dn tg b nw i j) : NXT n m only pt ph al dE po dn tg b nw i nx (j + -1) := by
  refine ⟨h.1, fun k hk g => ?_⟩
  by_cases q : k = j
  · rw [q] at g; exact absurd g hn
  · exact h.2 k (by omega) g
theorem nxt_take {n m only : Int} {pt ph al dE po dn tg : Int → Int} {b nw i j : Int} (hn : NXG n m only pt ph al dE po dn tg b nw i j) : NXT n m only pt ph al dE po dn tg b nw i j (j + -1) :=
  ⟨Or.inr hn, fun _ _ _ => by have := hn.1; omega⟩
