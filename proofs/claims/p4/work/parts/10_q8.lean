/-! labels of blocks: each is the least edge of its class; then they are numbered -/
def BL0 (bl : Int → Int) (e : Int) : Prop := ∀ j, 0 ≤ j → j < e → bl j = j
def BLQ (bl : Int → Int) (m : Int) : Prop := ∀ j, 0 ≤ j → j < m → 0 ≤ bl j ∧ bl j ≤ j
def LBI (bl : Int → Int) (m e c : Int) : Prop := 0 ≤ e ∧ 0 ≤ c ∧ c ≤ e ∧ (∀ j, 0 ≤ j → j < e → 0 ≤ bl j ∧ bl j < c) ∧ (∀ j, e ≤ j → j < m → 0 ≤ bl j ∧ bl j ≤ j) ∧ ∀ b, 0 ≤ b → b < c → ∃ j, 0 ≤ j ∧ j < e ∧ bl j = b
def LBL (bl : Int → Int) (m c : Int) : Prop := (∀ j, 0 ≤ j → j < m → 0 ≤ bl j ∧ bl j < c) ∧ ∀ b, 0 ≤ b → b < c → ∃ j, 0 ≤ j ∧ j < m ∧ bl j = b
theorem bl0_start {bl : Int → Int} {e : Int} (h : e = 0) : BL0 bl e := fun j a b => by omega
theorem bl0_step {bl bl' : Int → Int} {e e' p x : Int} (h : BL0 bl e) (hs : st1 bl bl' p x) (hp : p = e) (hx : x = e) (he : e' = e + 1) : BL0 bl' e' := fun j a b => by
  by_cases c : j = e
  · rw [(hs j a).1 (by omega)]; omega
  · rw [(hs j a).2 (by omega)]; exact h j a (by omega)
theorem blq_start {bl : Int → Int} {e m : Int} (h : BL0 bl e) (he : m ≤ e) : BLQ bl m := fun j a b => by rw [h j a (by omega)]; omega
theorem blq_set {bl bl' : Int → Int} {m e g k p x : Int} (h : BLQ bl m) (hs : st1 bl bl' p x) (hp : p = e) (hx : x = k) (e0 : 0 ≤ e) (e1 : e < m) (hg : bl e = g) (k0 : 0 ≤ k) (k1 : k ≤ g) : BLQ bl' m := fun j a b => by
  by_cases c : j = e
  · have := h e e0 e1
    rw [(hs j a).1 (by omega)]; omega
  · rw [(hs j a).2 (by omega)]; exact h j a b
theorem lbi_start {bl : Int → Int} {m e c : Int} (h : BLQ bl m) (he : e = 0) (hc : c = 0) : LBI bl m e c := ⟨by omega, by omega, by omega, fun j a b => by omega, fun j a b => h j (by omega) b, fun b a c => by omega⟩
theorem lbi_new {bl bl' : Int → Int} {m e e' c c' p x : Int} (h : LBI bl m e c) (hs : st1 bl bl' p x) (hp : p = e) (hx : x = c) (he : e' = e + 1) (hc : c' = c + 1) : LBI bl' m e' c' := by
  obtain ⟨h1, h2, h3, h4, h5, h6⟩ := h
  refine ⟨by omega, by omega, by omega, fun j a b => ?_, fun j a b => ?_, fun b a q => ?_⟩
  · by_cases z : j = e
    · rw [(hs j a).1 (by omega)]; omega
    · rw [(hs j a).2 (by omega)]; have := h4 j a (by omega); omega
  · rw [(hs j (by omega)).2 (by omega)]; exact h5 j (by omega) b
  · by_cases z : b = c
    · exact ⟨e, h1, by omega, by rw [(hs e h1).1 (by omega)]; omega⟩
    · obtain ⟨j, j0, j1, j2⟩ := h6 b a (by omega)
      exact ⟨j, j0, by omega, by rw [(hs j j0).2 (by omega)]; exact j2⟩
theorem lbi_old {bl bl' : Int → Int} {m e e' c p x r : Int} (h : LBI bl m e c) (e1 : e < m) (hs : st1 bl bl' p x) (hp : p = e) (hr : r = bl e) (hx : x = bl r) (hne : r ≠ e) (he : e' = e + 1) : LBI bl' m e' c := by
  obtain ⟨h1, h2, h3, h4, h5, h6⟩ := h
  have hr2 := h5 e (Int.le_refl _) e1
  have hx2 := h4 r (by omega) (by omega)
  refine ⟨by omega, by omega, by omega, fun j a b => ?_, fun j a b => ?_, fun b a q => ?_⟩
  · by_cases z : j = e
    · rw [(hs j a).1 (by omega)]; omega
    · rw [(hs j a).2 (by omega)]; exact h4 j a (by omega)
  · rw [(hs j (by omega)).2 (by omega)]; exact h5 j (by omega) b
  · obtain ⟨j, j0, j1, j2⟩ := h6 b a q
    exact ⟨j, j0, by omega, by rw [(hs j j0).2 (by omega)]; exact j2⟩
theorem lbl_of {bl : Int → Int} {m e c an : Int} (h : LBI bl m e c) (he : m ≤ e) (m0 : 0 ≤ m) (hem : e ≤ m) (ha : an = c) : LBL bl m an := by
  have : e = m := by omega
  subst this ha
  exact ⟨h.2.2.2.1, h.2.2.2.2.2⟩
