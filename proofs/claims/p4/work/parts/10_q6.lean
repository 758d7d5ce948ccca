/-! traceFaces of the class: what is marked is counted -/
def fmk (fo : Int → Int) (i : Int) : Int := if fo i = -1 then 0 else 1
def TFC (fo : Int → Int) (len : Int) : Prop := sm (fmk fo) 144 = len
def TFO (edges faces : Int) (fo : Int → Int) (st len : Int) : Prop := 0 ≤ st ∧ 0 ≤ faces ∧ faces ≤ len ∧ TFC fo len ∧ ∀ d, 0 ≤ d → d < st → fo d ≠ -1
def TFI (edges faces : Int) (fo : Int → Int) (st len en k : Int) : Prop := 0 ≤ st ∧ st < 2 * edges ∧ 0 ≤ faces ∧ TFC fo len ∧ (∀ d, 0 ≤ d → d < st → fo d ≠ -1) ∧ ((k = 0 ∧ en = st ∧ fo st = -1 ∧ faces ≤ len) ∨ (0 < k ∧ faces + 1 ≤ len ∧ fo st ≠ -1))
def FAD (edges : Int) (fo : Int → Int) : Prop := ∀ d, 0 ≤ d → d < 2 * edges → fo d ≠ -1
theorem fmk_bd (fo : Int → Int) (i : Int) : 0 ≤ fmk fo i ∧ fmk fo i ≤ 1 := by unfold fmk; split <;> omega
theorem tfc_bd {fo : Int → Int} {len : Int} (h : TFC fo len) : 0 ≤ len ∧ len ≤ 144 := by
  have := smrg (f := fmk fo) (n := 144) (lo := 0) (hi := 1) (by omega) (fun j _ _ => fmk_bd fo j)
  unfold TFC at h; omega
theorem tfc_lt {fo : Int → Int} {len e : Int} (h : TFC fo len) (e0 : 0 ≤ e) (e1 : e < 144) (he : fo e = -1) : len ≤ 143 := by
  have := smlt (f := fmk fo) (g := fun _ => 1) (n := 144) (i := e) e0 e1 (fun j _ _ => (fmk_bd fo j).2) (by unfold fmk; rw [if_pos he]; omega)
  have h2 := smrg (f := fun _ => (1 : Int)) (n := 144) (lo := 1) (hi := 1) (by omega) (fun j _ _ => ⟨Int.le_refl _, Int.le_refl _⟩)
  unfold TFC at h; omega
theorem tfc_set {fo fo' : Int → Int} {len len' e v p : Int} (h : TFC fo len) (hs : st1 fo fo' p v) (hp : p = e) (e0 : 0 ≤ e) (e1 : e < 144) (he : fo e = -1) (hv : v ≠ -1) (hl : len' = len + 1) : TFC fo' len' := by
  subst hp
  unfold TFC at h ⊢
  rw [sm_pt (f := fmk fo) (g := fmk fo') e0 e1 (fun j j0 _ j2 => by unfold fmk; rw [(hs j j0).2 j2]), h]
  unfold fmk
  rw [(hs p e0).1 rfl, if_neg hv, if_pos he]; omega
theorem tfo_start {edges faces : Int} {fo : Int → Int} {st len : Int} (h : ∀ d, 0 ≤ d → d < 144 → fo d = -1) (hs : st = 0) (hl : len = 0) (hf : faces = 0) : TFO edges faces fo st len := by
  refine ⟨by omega, by omega, by omega, ?_, fun d a b => by omega⟩
  unfold TFC
  rw [sm_nil (fun j a b => by unfold fmk; rw [if_pos (h j a b)])]; omega
theorem tfo_skip {edges faces : Int} {fo : Int → Int} {st st' len : Int} (h : TFO edges faces fo st len) (he : fo st ≠ -1) (hs : st' = st + 1) : TFO edges faces fo st' len := by
  obtain ⟨a, b, c, d, e⟩ := h
  refine ⟨by omega, b, c, d, fun q q0 q1 => ?_⟩
  by_cases eq : q = st
  · rw [eq]; exact he
  · exact e q q0 (by omega)
theorem tfi_start {edges faces : Int} {fo : Int → Int} {st len en k : Int} (h : TFO edges faces fo st len) (he : fo st = -1) (s1 : st < 2 * edges) (hk : k = 0) (hen : en = st) : TFI edges faces fo st len en k := ⟨h.1, s1, h.2.1, h.2.2.2.1, h.2.2.2.2, Or.inl ⟨hk, hen, he, h.2.2.1⟩⟩
theorem tfi_step {edges faces : Int} {fo fo' : Int → Int} {st len en k len' en' k' p v : Int} (h : TFI edges faces fo st len en k) (hs : st1 fo fo' p v) (hp : p = en) (hv : v = faces) (e0 : 0 ≤ en) (e1 : en < 144) (he : fo en = -1) (hl : len' = len + 1) (hk : k' = k + 1) : TFI edges faces fo' st len' en' k' := by
  obtain ⟨a, b, c, d, e, f⟩ := h
  have dd := tfc_set d hs hp e0 e1 he (by omega) hl
  subst hp
  refine ⟨a, b, c, dd, fun q q0 q1 => ?_, Or.inr ⟨?_, ?_, ?_⟩⟩
  · by_cases eq : q = p
    · rw [eq, (hs p e0).1 rfl]; omega
    · rw [(hs q q0).2 eq]; exact e q q0 q1
  · rcases f with f | f <;> omega
  · rcases f with f | f <;> omega
  · by_cases eq : st = p
    · rw [eq, (hs p e0).1 rfl]; omega
    · rw [(hs st a).2 eq]
      rcases f with f | f
      · omega
      · exact f.2.2
theorem tfi_low {edges faces : Int} {fo : Int → Int} {st len en k : Int} (h : TFI edges faces fo st len en k) (e0 : 0 ≤ en) (e1 : en < 144) (he : fo en = -1) : 0 ≤ len ∧ len ≤ 143 ∧ 0 ≤ faces ∧ faces ≤ 143 := by
  obtain ⟨a, b, c, d, e, f⟩ := h
  have := tfc_lt d e0 e1 he
  have := tfc_bd d
  rcases f with f | f <;> omega
theorem tfo_next {edges faces faces' : Int} {fo : Int → Int} {st st' len en k : Int} (h : TFI edges faces fo st len en k) (hx : 2 * edges ≤ k ∨ fo en ≠ -1) (hf : faces' = faces + 1) (hs : st' = st + 1) : TFO edges faces' fo st' len ∧ faces + 1 ≤ 144 := by
  obtain ⟨a, b, c, d, e, f⟩ := h
  have hd := tfc_bd d
  have g : 0 < k ∧ faces + 1 ≤ len ∧ fo st ≠ -1 := by
    rcases f with ⟨f1, f2, f3, f4⟩ | f
    · rcases hx with q | q
      · omega
      · rw [f2] at q; exact absurd f3 q
    · exact f
  refine ⟨⟨by omega, by omega, by omega, d, fun q q0 q1 => ?_⟩, by omega⟩
  by_cases eq : q = st
  · rw [eq]; exact g.2.2
  · exact e q q0 (by omega)
theorem tfo_low {edges faces : Int} {fo : Int → Int} {st len : Int} (h : TFO edges faces fo st len) : 0 ≤ len ∧ len ≤ 144 ∧ 0 ≤ faces ∧ faces ≤ len := ⟨(tfc_bd h.2.2.2.1).1, (tfc_bd h.2.2.2.1).2, h.2.1, h.2.2.1⟩
theorem fad_of {edges faces : Int} {fo : Int → Int} {st len : Int} (h : TFO edges faces fo st len) (hs : 2 * edges ≤ st) : FAD edges fo := fun d a b => h.2.2.2.2 d a (by omega)
