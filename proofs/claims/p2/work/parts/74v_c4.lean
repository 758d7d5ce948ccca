/-! pieces: what is not drawn, by new nodes -/
def shn (pt ph dn : Int → Int) (e f : Int) : Prop := (dn (pt e) = 0 ∧ (pt f = pt e ∨ ph f = pt e)) ∨ (dn (ph e) = 0 ∧ (pt f = ph e ∨ ph f = ph e))
def SHN (pt ph dn : Int → Int) (e f r : Int) : Prop := r ≠ 0 ↔ shn pt ph dn e f
theorem shn_sym {pt ph dn : Int → Int} {e f : Int} (h : shn pt ph dn e f) : shn pt ph dn f e := by
  rcases h with ⟨a, b | b⟩ | ⟨a, b | b⟩
  · exact Or.inl ⟨by rw [b]; exact a, Or.inl b.symm⟩
  · exact Or.inr ⟨by rw [b]; exact a, Or.inl b.symm⟩
  · exact Or.inl ⟨by rw [b]; exact a, Or.inr b.symm⟩
  · exact Or.inr ⟨by rw [b]; exact a, Or.inr b.symm⟩
def pgen (m : Int) (pt ph dE dn po : Int → Int) : Prop := ∀ c : Int → Prop, (∀ e f, 0 ≤ e → e < m → 0 ≤ f → f < m → dE e = 0 → dE f = 0 → shn pt ph dn e f → c e → c f) → ∀ e f, 0 ≤ e → e < m → 0 ≤ f → f < m → dE e = 0 → dE f = 0 → po e = po f → c e → c f
def prng (m : Int) (dE po : Int → Int) : Prop := ∀ e, 0 ≤ e → e < m → (dE e ≠ 0 → po e = -1) ∧ (dE e = 0 → 0 ≤ po e ∧ po e ≤ e)
def PC0 (dE po : Int → Int) (i : Int) : Prop := ∀ e, 0 ≤ e → e < i → (dE e ≠ 0 → po e = -1) ∧ (dE e = 0 → po e = e)
def PCI (m : Int) (pt ph dE dn po : Int → Int) : Prop := prng m dE po ∧ pgen m pt ph dE dn po
def PC2 (pt ph dE dn po : Int → Int) (e f mo : Int) : Prop := mo = 0 → ∀ e' f', 0 ≤ f' → f' < e' → (e' < e ∨ (e' = e ∧ f' < f)) → dE e' = 0 → dE f' = 0 → shn pt ph dn e' f' → po e' = po f'
def PC3 (m : Int) (pt ph dE dn po : Int → Int) (mo : Int) : Prop := PC2 pt ph dE dn po m 0 mo
def PC4 (pt ph dE dn po : Int → Int) (e mo : Int) : Prop := PC2 pt ph dE dn po e 0 mo
def PCM (m : Int) (po : Int → Int) (mo g : Int) : Prop := sm po m + mo ≤ g
def PCN (m : Int) (po : Int → Int) (mo g : Int) : Prop := sm po m + mo + 1 ≤ g
def PCS (m : Int) (pt ph dE dn po : Int → Int) : Prop := PCI m pt ph dE dn po ∧ ∀ e f, 0 ≤ e → e < m → 0 ≤ f → f < m → dE e = 0 → dE f = 0 → shn pt ph dn e f → po e = po f
theorem pc_start {m : Int} {pt ph dE dn po : Int → Int} {i : Int} (h : PC0 dE po i) (hi : m ≤ i) : PCI m pt ph dE dn po := by
  refine ⟨fun e a b => ⟨(h e a (by omega)).1, fun z => by have := (h e a (by omega)).2 z; omega⟩, fun c hc e f e0 e1 f0 f1 de df hb ce => ?_⟩
  rw [(h e e0 (by omega)).2 de, (h f f0 (by omega)).2 df] at hb
  rw [← hb]; exact ce
theorem pc_end {m : Int} {pt ph dE dn po : Int → Int} (h : PCI m pt ph dE dn po) (h3 : PC3 m pt ph dE dn po 0) : PCS m pt ph dE dn po := by
  refine ⟨h, fun e f e0 e1 f0 f1 de df hs => ?_⟩
  rcases Int.lt_trichotomy e f with q | q | q
  · exact (h3 rfl f e e0 q (by omega) df de (shn_sym hs)).symm
  · rw [q]
  · exact h3 rfl e f f0 q (by omega) de df hs
theorem pc_step {m : Int} {pt ph dE dn po po' : Int → Int} {e f p : Int} (h : PCI m pt ph dE dn po) (e0 : 0 ≤ e) (e1 : e < m) (f0 : 0 ≤ f) (hfe : f < e) (de : dE e = 0) (df : dE f = 0) (hne : po e ≠ po f) (hs : shn pt ph dn e f) (hp : (p = po e ∧ po e ≤ po f) ∨ (p = po f ∧ po f ≤ po e)) (ho : ∀ j, 0 ≤ j → j ≠ e → j ≠ f → po' j = po j) (he : po' e = p) (hf : po' f = p) : PCI m pt ph dE dn po' := by
  obtain ⟨r, g⟩ := h
  have re := (r e e0 e1).2 de
  have rf := (r f f0 (by omega)).2 df
  refine ⟨fun j j0 j1 => ?_, fun c hc a b a0 a1 b0 b1 da db hb ca => ?_⟩
  · by_cases q : j = e
    · subst q; exact ⟨fun z => absurd de z, fun _ => by rw [he]; omega⟩
    · by_cases q2 : j = f
      · subst q2; exact ⟨fun z => absurd df z, fun _ => by rw [hf]; omega⟩
      · rw [ho j j0 q q2]; exact r j j0 j1
  · have cef : c e → c f := hc e f e0 e1 f0 (by omega) de df hs
    have cfe : c f → c e := hc f e f0 (by omega) e0 e1 df de (shn_sym hs)
    have g' := g c hc
    -- who has the label p is as e and f
    have lp : ∀ j, 0 ≤ j → j < m → dE j = 0 → po j = p → (c j → c e) ∧ (c e → c j) := by
      intro j j0 j1 dj hj
      rcases hp with ⟨z, _⟩ | ⟨z, _⟩
      · exact ⟨g' j e j0 j1 e0 e1 dj de (hj.trans z), g' e j e0 e1 j0 j1 de dj (z.symm.trans hj.symm)⟩
      · exact ⟨fun w => cfe (g' j f j0 j1 f0 (by omega) dj df (hj.trans z) w), fun w => g' f j f0 (by omega) j0 j1 df dj (z.symm.trans hj.symm) (cef w)⟩
    have lq : ∀ j, 0 ≤ j → j < m → dE j = 0 → po' j = p → (c j → c e) ∧ (c e → c j) := by
      intro j j0 j1 dj hj
      by_cases q : j = e
      · subst q; exact ⟨id, id⟩
      · by_cases q2 : j = f
        · subst q2; exact ⟨cfe, cef⟩
        · rw [ho j j0 q q2] at hj; exact lp j j0 j1 dj hj
    by_cases z : po' a = p
    · exact (lq b b0 b1 db (hb.symm.trans z)).2 ((lq a a0 a1 da z).1 ca)
    · have za : po' a = po a := ho a a0 (fun q => z (by rw [q]; exact he)) (fun q => z (by rw [q]; exact hf))
      have zb' : po' b ≠ p := fun w => z (hb.trans w)
      have zb : po' b = po b := ho b b0 (fun q => zb' (by rw [q]; exact he)) (fun q => zb' (by rw [q]; exact hf))
      exact g' a b a0 a1 b0 b1 da db (by rw [← za, ← zb]; exact hb) ca
theorem pc_sum {m : Int} {dE po po' : Int → Int} {e f p : Int} (e0 : 0 ≤ e) (e1 : e < m) (f0 : 0 ≤ f) (hfe : f < e) (hne : po e ≠ po f) (hp : (p = po e ∧ po e ≤ po f) ∨ (p = po f ∧ po f ≤ po e)) (ho : ∀ j, 0 ≤ j → j ≠ e → j ≠ f → po' j = po j) (he : po' e = p) (hf : po' f = p) : sm po' m + 1 ≤ sm po m := by
  have le : ∀ j, 0 ≤ j → j < m → po' j ≤ po j := by
    intro j j0 j1
    by_cases q : j = e
    · rw [q, he]; omega
    · by_cases q2 : j = f
      · rw [q2, hf]; omega
      · rw [ho j j0 q q2]; exact Int.le_refl _
  rcases hp with ⟨z, w⟩ | ⟨z, w⟩
  · exact smlt f0 (by omega) le (by rw [hf]; omega)
  · exact smlt e0 e1 le (by rw [he]; omega)
theorem pcn_pos {m : Int} {pt ph dE dn po : Int → Int} {mo g : Int} (h : PCN m po mo g) (h0 : 0 ≤ mo) (hI : PCI m pt ph dE dn po) (hm : 0 ≤ m) (hm1 : m ≤ 80) : -90 ≤ g := by
  have := smrg (f := po) (n := m) (lo := -1) (hi := 80) hm (fun j a b => by
    have := hI.1 j a b
    by_cases q : dE j = 0
    · have := this.2 q; omega
    · have := this.1 q; omega)
  unfold PCN at h; omega
theorem pc_sm0 {m : Int} {dE po : Int → Int} {i : Int} (h : PC0 dE po i) (hi : m ≤ i) (hm : 0 ≤ m) (hm1 : m ≤ 80) : sm po m ≤ 6400 := by
  have := smrg (f := po) (n := m) (lo := -1) (hi := 80) hm (fun j a b => by
    have := h j a (by omega)
    by_cases q : dE j = 0
    · have := this.2 q; omega
    · have := this.1 q; omega)
  omega
theorem pc2_next {pt ph dE dn po : Int → Int} {e f mo : Int} (h : PC2 pt ph dE dn po e f mo) (hn : mo = 0 → dE e = 0 → dE f = 0 → shn pt ph dn e f → po e = po f) : PC2 pt ph dE dn po e (f + 1) mo := by
  intro h0 e' f' f0 hfe hlt de df hs
  by_cases q : e' = e ∧ f' = f
  · obtain ⟨rfl, rfl⟩ := q; exact hn h0 de df hs
  · exact h h0 e' f' f0 hfe (by omega) de df hs
theorem pc2_up {pt ph dE dn po : Int → Int} {e f mo : Int} (h : PC2 pt ph dE dn po e f mo) (hf : e ≤ f) : PC2 pt ph dE dn po (e + 1) 0 mo := by
  intro h0 e' f' f0 hfe hlt de df hs
  exact h h0 e' f' f0 hfe (by omega) de df hs
