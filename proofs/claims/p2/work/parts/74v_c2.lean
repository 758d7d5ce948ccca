/-! small looks at an edge -/
def ATP (pt ph al : Int → Int) (e i r : Int) : Prop := r ≠ 0 ↔ al e = 1 ∧ (pt e = i ∨ ph e = i)
def acr (pt ph : Int → Int) (e i : Int) : Int := if pt e = i then ph e else pt e
def ACR (pt ph : Int → Int) (e i r : Int) : Prop := r = acr pt ph e i
theorem acr_J {m : Int} {pt ph al : Int → Int} {e i : Int} (h0 : 0 ≤ e) (h1 : e < m) (ha : al e = 1 ∧ (pt e = i ∨ ph e = i)) : JJ m pt ph al e i (acr pt ph e i) := by
  refine ⟨h0, h1, ha.1, ?_⟩
  unfold acr
  by_cases q : pt e = i
  · rw [if_pos q]; exact Or.inl ⟨q, rfl⟩
  · rw [if_neg q]; exact Or.inr ⟨rfl, ha.2.elim (fun z => absurd z q) id⟩
theorem J_acr {n m : Int} {pt ph al : Int → Int} (hg : GOK n m pt ph) {e i x : Int} (h : JJ m pt ph al e i x) : x = acr pt ph e i := by
  unfold acr
  have := hg.1 e h.1 h.2.1
  rcases h.2.2.2 with ⟨a, b⟩ | ⟨a, b⟩
  · rw [if_pos a, b]
  · rw [if_neg (by omega), a]
def EOF (m : Int) (pt ph al : Int → Int) (a b r : Int) : Prop := (r = -1 ∧ ∀ e, ¬ JJ m pt ph al e a b) ∨ JJ m pt ph al r a b
def EOL (pt ph al : Int → Int) (a b i : Int) : Prop := ∀ e, 0 ≤ e → e < i → ¬ (al e = 1 ∧ ((pt e = a ∧ ph e = b) ∨ (pt e = b ∧ ph e = a)))
/-! blocks -/
def bgen (J : pj_T) (m : Int) (bl : Int → Int) : Prop := ∀ c : Int → Prop, (∀ e f, dir J e f → c e → c f) → ∀ e f, 0 ≤ e → e < m → 0 ≤ f → f < m → bl e = bl f → c e → c f
def brng (m : Int) (bl : Int → Int) : Prop := ∀ e, 0 ≤ e → e < m → 0 ≤ bl e ∧ bl e < m
def bdon (J : pj_T) (bl : Int → Int) (v e f : Int) : Prop := ∀ v' e' f' x y, J e' v' x → J f' v' y → e' < f' → cnA J v' x y → (v' < v ∨ (v' = v ∧ (e' < e ∨ (e' = e ∧ f' < f)))) → bl e' = bl f'
def BB (m : Int) (pt ph al bl : Int → Int) (v e f : Int) : Prop := brng m bl ∧ bgen (JJ m pt ph al) m bl ∧ bdon (JJ m pt ph al) bl v e f
def BB0 (bl : Int → Int) (i : Int) : Prop := ∀ j, 0 ≤ j → j < i → bl j = j
def BBv (m : Int) (pt ph al bl : Int → Int) (v : Int) : Prop := BB m pt ph al bl v 0 0
def BBe (m : Int) (pt ph al bl : Int → Int) (v e : Int) : Prop := BB m pt ph al bl v e 0
def FLE (n m : Int) (pt ph al seen : Int → Int) (e v : Int) : Prop := FLD n m pt ph al seen (acr pt ph e v) v ∧ al e = 1 ∧ (pt e = v ∨ ph e = v)
def JNP (m : Int) (pt ph al bl : Int → Int) (v e f a b : Int) : Prop := 0 ≤ e ∧ e < f ∧ ∃ x y, JJ m pt ph al e v x ∧ JJ m pt ph al f v y ∧ cnA (JJ m pt ph al) v x y ∧ bl e = a ∧ bl f = b
def JNL (m : Int) (pt ph al bl : Int → Int) (v e f a b i : Int) : Prop := ∃ b0, BB m pt ph al b0 v e f ∧ JNP m pt ph al b0 v e f a b ∧ (∀ j, 0 ≤ j → j < i → bl j = if b0 j = a ∨ b0 j = b then (if a < b then a else b) else b0 j) ∧ ∀ j, i ≤ j → bl j = b0 j
theorem cnA_sym {J : pj_T} (hs : jsym J) {v x y : Int} (h : cnA J v x y) : cnA J v y x := rc_symm (sv_sym hs v) h
theorem dir_sym {J : pj_T} (hs : jsym J) {e f : Int} (h : dir J e f) : dir J f e := by
  obtain ⟨v, x, y, a, b, c⟩ := h
  exact ⟨v, y, x, b, a, cnA_sym hs c⟩
theorem bb_0 {m : Int} {pt ph al bl : Int → Int} (h : BB0 bl m) : BBv m pt ph al bl 0 ∨ True := Or.inr trivial
theorem bb_start {n m : Int} {pt ph al bl : Int → Int} (hg : GOK n m pt ph) (h : BB0 bl m) : BBv m pt ph al bl 0 := by
  refine ⟨fun e a b => by rw [h e a b]; exact ⟨a, b⟩, fun c hc e f e0 e1 f0 f1 hb ce => ?_, fun v' e' f' x y j1 j2 h1 h2 h3 => ?_⟩
  · rw [h e e0 e1, h f f0 f1] at hb; rw [← hb]; exact ce
  · have := JJ_rng hg j1; have a1 := j1.1; have a2 := j2.1; omega
theorem bb_next_v {n m : Int} {pt ph al bl : Int → Int} {v e : Int} (h : BBe m pt ph al bl v e) (he : m ≤ e) : BBv m pt ph al bl (v + 1) := by
  refine ⟨h.1, h.2.1, fun v' e' f' x y j1 j2 h1 h2 h3 => h.2.2 v' e' f' x y j1 j2 h1 h2 ?_⟩
  have := j1.2.1
  have a1 := j1.1
  have a2 := j2.1
  omega
theorem bb_next_e {m : Int} {pt ph al bl : Int → Int} {v e f : Int} (h : BB m pt ph al bl v e f) (hf : m ≤ f) : BBe m pt ph al bl v (e + 1) := by
  refine ⟨h.1, h.2.1, fun v' e' f' x y j1 j2 h1 h2 h3 => h.2.2 v' e' f' x y j1 j2 h1 h2 ?_⟩
  have := j2.2.1
  have a1 := j1.1
  have a2 := j2.1
  omega
theorem bb_skip_e {m : Int} {pt ph al bl : Int → Int} {v e : Int} (h : BBe m pt ph al bl v e) (hn : ¬ (al e = 1 ∧ (pt e = v ∨ ph e = v))) : BBe m pt ph al bl v (e + 1) := by
  refine ⟨h.1, h.2.1, fun v' e' f' x y j1 j2 h1 h2 h3 => h.2.2 v' e' f' x y j1 j2 h1 h2 ?_⟩
  by_cases q : v' = v ∧ e' = e
  · exfalso
    rw [q.1, q.2] at j1
    exact hn ⟨j1.2.2.1, j1.2.2.2.elim (fun z => Or.inl z.1) (fun z => Or.inr z.2)⟩
  · have a1 := j1.1; have a2 := j2.1; omega
theorem bb_skip_f {n m : Int} {pt ph al bl seen : Int → Int} {v e f : Int} (hg : GOK n m pt ph) (h : BB m pt ph al bl v e f) (hq : FLE n m pt ph al seen e v) (he0 : 0 ≤ e) (he1 : e < m) (hn : ¬ (al f = 1 ∧ (pt f = v ∨ ph f = v) ∧ seen (acr pt ph f v) ≠ 0)) : BB m pt ph al bl v e (f + 1) := by
  refine ⟨h.1, h.2.1, fun v' e' f' x y j1 j2 h1 h2 h3 => ?_⟩
  by_cases q : v' = v ∧ e' = e ∧ f' = f
  · exfalso
    obtain ⟨q1, q2, q3⟩ := q
    rw [q1, q2] at j1
    rw [q1, q3] at j2
    rw [q1, J_acr hg j1, J_acr hg j2] at h2
    have hr := JJ_rng hg j2
    rw [J_acr hg j2] at hr
    exact hn ⟨j2.2.2.1, j2.2.2.2.elim (fun z => Or.inl z.1) (fun z => Or.inr z.2), (hq.1 _ hr.2.2.1 hr.2.2.2).mpr h2⟩
  · exact h.2.2 v' e' f' x y j1 j2 h1 h2 (by omega)
theorem jn_start {m : Int} {pt ph al bl : Int → Int} {v e f a b : Int} (h : BB m pt ph al bl v e f) (hj : JNP m pt ph al bl v e f a b) : JNL m pt ph al bl v e f a b 0 := ⟨bl, h, hj, fun j a b => by omega, fun _ _ => rfl⟩
theorem jn_step {m : Int} {pt ph al bl bl' : Int → Int} {v e f a b i : Int} (h : JNL m pt ph al bl v e f a b i) (hi : 0 ≤ i) (hs : ∀ j, 0 ≤ j → j ≠ i → bl' j = bl j) (h1 : (bl i = a ∨ bl i = b) → bl' i = if a < b then a else b) (h2 : ¬ (bl i = a ∨ bl i = b) → bl' i = bl i) : JNL m pt ph al bl' v e f a b (i + 1) := by
  obtain ⟨b0, q1, q2, q3, q4⟩ := h
  refine ⟨b0, q1, q2, fun j j0 j1 => ?_, fun j hj => by rw [hs j (by omega) (by omega)]; exact q4 j (by omega)⟩
  by_cases q : j = i
  · subst q
    have e0 := q4 j (Int.le_refl _)
    by_cases z : bl j = a ∨ bl j = b
    · rw [h1 z, if_pos (by rw [← e0]; exact z : b0 j = a ∨ b0 j = b)]
    · rw [h2 z, if_neg (by rw [← e0]; exact z : ¬ (b0 j = a ∨ b0 j = b)), e0]
  · rw [hs j j0 q]; exact q3 j j0 (by omega)
theorem jn_same {m : Int} {pt ph al bl : Int → Int} {v e f a : Int} (h : BB m pt ph al bl v e f) (hj : JNP m pt ph al bl v e f a a) : BB m pt ph al bl v e (f + 1) := by
  refine ⟨h.1, h.2.1, fun v' e' f' x y j1 j2 h1 h2 h3 => ?_⟩
  by_cases q : v' = v ∧ e' = e ∧ f' = f
  · obtain ⟨_, _, x', y', _, _, _, q4, q5⟩ := hj
    rw [q.2.1, q.2.2, q4, q5]
  · exact h.2.2 v' e' f' x y j1 j2 h1 h2 (by omega)
theorem jn_end {m : Int} {pt ph al bl : Int → Int} {v e f a b i : Int} (h : JNL m pt ph al bl v e f a b i) (hi : m ≤ i) : BB m pt ph al bl v e (f + 1) := by
  obtain ⟨b0, ⟨r0, g0, d0⟩, ⟨e0, ef, x, y, j1, j2, jc, ea, fb⟩, q3, q4⟩ := h
  have val : ∀ j, 0 ≤ j → j < m → bl j = if b0 j = a ∨ b0 j = b then (if a < b then a else b) else b0 j := fun j p q => q3 j p (by omega)
  have mn : (if a < b then a else b) = a ∨ (if a < b then a else b) = b := by split; exact Or.inl rfl; exact Or.inr rfl
  have ra := r0 e j1.1 j1.2.1
  have rb := r0 f j2.1 j2.2.1
  have keep : ∀ p q, 0 ≤ p → p < m → 0 ≤ q → q < m → b0 p = b0 q → bl p = bl q := fun p q p0 p1 q0 q1 hb => by rw [val p p0 p1, val q q0 q1, hb]
  refine ⟨fun p p0 p1 => ?_, fun c hc p q p0 p1 q0 q1 hb cp => ?_, fun v' e' f' x' y' k1 k2 h1 h2 h3 => ?_⟩
  · rw [val p p0 p1]
    split
    · rcases mn with z | z <;> rw [z] <;> omega
    · exact r0 p p0 p1
  · have cef : c e → c f := hc e f ⟨v, x, y, j1, j2, jc⟩
    have cfe : c f → c e := hc f e (dir_sym JJ_sym ⟨v, x, y, j1, j2, jc⟩)
    have g := g0 c hc
    rw [val p p0 p1, val q q0 q1] at hb
    -- who has label a or b is as e and f
    have ab : ∀ p, 0 ≤ p → p < m → (b0 p = a ∨ b0 p = b) → ((c p → c e) ∧ (c e → c p)) := by
      intro p p0 p1 h
      rcases h with h | h
      · exact ⟨g p e p0 p1 j1.1 j1.2.1 (h.trans ea.symm), g e p j1.1 j1.2.1 p0 p1 (ea.trans h.symm)⟩
      · exact ⟨fun z => cfe (g p f p0 p1 j2.1 j2.2.1 (h.trans fb.symm) z), fun z => g f p j2.1 j2.2.1 p0 p1 (fb.trans h.symm) (cef z)⟩
    by_cases z1 : b0 p = a ∨ b0 p = b
    · by_cases z2 : b0 q = a ∨ b0 q = b
      · exact (ab q q0 q1 z2).2 ((ab p p0 p1 z1).1 cp)
      · rw [if_pos z1, if_neg z2] at hb
        exact absurd (mn.elim (fun z => Or.inl (hb.symm.trans z)) (fun z => Or.inr (hb.symm.trans z))) z2
    · by_cases z2 : b0 q = a ∨ b0 q = b
      · rw [if_neg z1, if_pos z2] at hb
        exact absurd (mn.elim (fun z => Or.inl (hb.trans z)) (fun z => Or.inr (hb.trans z))) z1
      · rw [if_neg z1, if_neg z2] at hb
        exact g p q p0 p1 q0 q1 hb cp
  · by_cases q : v' = v ∧ e' = e ∧ f' = f
    · obtain ⟨_, q2, q5⟩ := q
      rw [q2, q5, val e j1.1 j1.2.1, val f j2.1 j2.2.1, if_pos (Or.inl ea), if_pos (Or.inr fb)]
    · exact keep e' f' k1.1 k1.2.1 k2.1 k2.2.1 (d0 v' e' f' x' y' k1 k2 h1 h2 (by omega))
/-! the blocks numbered -/
def blk (J : pj_T) (m : Int) (b0 : Int → Int) : Prop := brng m b0 ∧ bgen J m b0 ∧ ∀ e f, dir J e f → b0 e = b0 f
def RN0 (m : Int) (pt ph al bl line : Int → Int) (i : Int) : Prop := blk (JJ m pt ph al) m bl ∧ ∀ j, 0 ≤ j → j < i → line j = -1
def RNE (m : Int) (pt ph al bl line : Int → Int) (e many : Int) : Prop := ∃ b0, blk (JJ m pt ph al) m b0 ∧ 0 ≤ many ∧ (many ≤ e ∧ e ≤ m) ∧ (∀ j, e ≤ j → bl j = b0 j) ∧ (∀ j, 0 ≤ j → j < e → (al j = 1 → bl j = line (b0 j) ∧ 0 ≤ bl j) ∧ (al j ≠ 1 → bl j = -1)) ∧ (∀ a, 0 ≤ a → a < m → (line a = -1 ∨ (0 ≤ line a ∧ line a < many))) ∧ (∀ a b, 0 ≤ a → a < m → 0 ≤ b → b < m → 0 ≤ line a → line a = line b → a = b) ∧ (∀ k, 0 ≤ k → k < many → ∃ j, 0 ≤ j ∧ j < e ∧ al j = 1 ∧ line (b0 j) = k)
def BK (m : Int) (pt ph al bl : Int → Int) (many : Int) : Prop := isBl (JJ m pt ph al) bl ∧ 0 ≤ many ∧ (∀ e, 0 ≤ e → e < m → (al e = 1 → 0 ≤ bl e ∧ bl e < many) ∧ (al e ≠ 1 → bl e = -1)) ∧ ∀ k, 0 ≤ k → k < many → ∃ e, 0 ≤ e ∧ e < m ∧ al e = 1 ∧ bl e = k
theorem blk_of {n m : Int} {pt ph al bl : Int → Int} {v : Int} (hg : GOK n m pt ph) (h : BBv m pt ph al bl v) (hv : n ≤ v) : blk (JJ m pt ph al) m bl := by
  refine ⟨h.1, h.2.1, fun e f hd => ?_⟩
  have key : ∀ e f, dir (JJ m pt ph al) e f → e < f → bl e = bl f := by
    rintro e f ⟨v', x, y, a, b, c⟩ hlt
    exact h.2.2 v' e f x y a b hlt c (by have := JJ_rng hg a; omega)
  rcases Int.lt_trichotomy e f with q | q | q
  · exact key e f hd q
  · rw [q]
  · exact (key f e (dir_sym JJ_sym hd) q).symm
theorem rn_start {m : Int} {pt ph al bl line : Int → Int} {i : Int} (h : RN0 m pt ph al bl line i) (hi : m ≤ i) (hm : 0 ≤ m) : RNE m pt ph al bl line 0 0 :=
  ⟨bl, h.1, Int.le_refl _, ⟨Int.le_refl _, hm⟩, fun _ _ => rfl, fun j a b => by omega, fun a a0 a1 => Or.inl (h.2 a a0 (by omega)), fun a b a0 a1 b0 b1 h1 _ => by have := h.2 a a0 (by omega); omega, fun k a b => by omega⟩
theorem rn_dead {m : Int} {pt ph al bl bl' line : Int → Int} {e many : Int} (h : RNE m pt ph al bl line e many) (he : 0 ≤ e) (hm : e < m) (ha : al e ≠ 1) (hs : ∀ j, 0 ≤ j → j ≠ e → bl' j = bl j) (h1 : bl' e = -1) : RNE m pt ph al bl' line (e + 1) many := by
  obtain ⟨b0, q1, q2, q2', q3, q4, q5, q6, q7⟩ := h
  refine ⟨b0, q1, q2, by omega, fun j hj => by rw [hs j (by omega) (by omega)]; exact q3 j (by omega), fun j a b => ?_, q5, q6, fun k a b => ?_⟩
  · by_cases q : j = e
    · subst q; exact ⟨fun z => absurd z ha, fun _ => h1⟩
    · rw [hs j a q]; exact q4 j a (by omega)
  · obtain ⟨j, z1, z2, z3⟩ := q7 k a b; exact ⟨j, z1, by omega, z3⟩
theorem rn_old {m : Int} {pt ph al bl bl' line : Int → Int} {e many : Int} (h : RNE m pt ph al bl line e many) (he : 0 ≤ e) (hm : e < m) (ha : al e = 1) (hl : 0 ≤ line (bl e)) (hs : ∀ j, 0 ≤ j → j ≠ e → bl' j = bl j) (h1 : bl' e = line (bl e)) : RNE m pt ph al bl' line (e + 1) many := by
  obtain ⟨b0, q1, q2, q2', q3, q4, q5, q6, q7⟩ := h
  refine ⟨b0, q1, q2, by omega, fun j hj => by rw [hs j (by omega) (by omega)]; exact q3 j (by omega), fun j a b => ?_, q5, q6, fun k a b => ?_⟩
  · by_cases q : j = e
    · subst q; exact ⟨fun _ => by rw [h1, q3 j (Int.le_refl _)]; rw [q3 j (Int.le_refl _)] at hl; exact ⟨rfl, hl⟩, fun z => absurd ha z⟩
    · rw [hs j a q]; exact q4 j a (by omega)
  · obtain ⟨j, z1, z2, z3⟩ := q7 k a b; exact ⟨j, z1, by omega, z3⟩
theorem rn_new {m : Int} {pt ph al bl bl' line line' : Int → Int} {e many : Int} (h : RNE m pt ph al bl line e many) (he : 0 ≤ e) (hm : e < m) (ha : al e = 1) (hl : line (bl e) < 0) (hs : ∀ j, 0 ≤ j → j ≠ e → bl' j = bl j) (hls : ∀ j, 0 ≤ j → j ≠ bl e → line' j = line j) (hl1 : line' (bl e) = many) (h1 : bl' e = many) : RNE m pt ph al bl' line' (e + 1) (many + 1) := by
  obtain ⟨b0, q1, q2, q2', q3, q4, q5, q6, q7⟩ := h
  have eb := q3 e (Int.le_refl _)
  rw [eb] at hl hls hl1
  have rb := q1.1 e he hm
  have ne : ∀ j, 0 ≤ j → j < e → al j = 1 → b0 j ≠ b0 e := fun j a b c z => by have := (q4 j a b).1 c; rw [z] at this; omega
  have lj : ∀ j, 0 ≤ j → j < e → al j = 1 → line' (b0 j) = line (b0 j) := fun j a b c => hls _ (q1.1 j a (by omega)).1 (ne j a b c)
  refine ⟨b0, q1, by omega, by omega, fun j hj => by rw [hs j (by omega) (by omega)]; exact q3 j (by omega), fun j a b => ?_, fun a a0 a1 => ?_, fun a b a0 a1 c0 c1 h2 h3 => ?_, fun k a b => ?_⟩
  · by_cases q : j = e
    · subst q; exact ⟨fun _ => by rw [h1, hl1]; exact ⟨rfl, q2⟩, fun z => absurd ha z⟩
    · rw [hs j a q]
      have z := q4 j a (by omega)
      exact ⟨fun c => by rw [lj j a (by omega) c]; exact z.1 c, z.2⟩
  · by_cases q : a = b0 e
    · rw [q, hl1]; omega
    · rw [hls a a0 q]; have := q5 a a0 a1; omega
  · by_cases z1 : a = b0 e
    · by_cases z2 : b = b0 e
      · rw [z1, z2]
      · rw [z1, hl1, hls b c0 z2] at h3
        have := q5 b c0 c1; omega
    · by_cases z2 : b = b0 e
      · rw [z2, hl1, hls a a0 z1] at h3
        have := q5 a a0 a1; omega
      · rw [hls a a0 z1] at h2 h3; rw [hls b c0 z2] at h3; exact q6 a b a0 a1 c0 c1 h2 h3
  · by_cases z : k = many
    · exact ⟨e, he, by omega, ha, by rw [hl1, z]⟩
    · obtain ⟨j, z1, z2, z3, z4⟩ := q7 k a (by omega)
      exact ⟨j, z1, by omega, z3, by rw [lj j z1 z2 z3]; exact z4⟩
theorem rn_end {m : Int} {pt ph al bl line : Int → Int} {e many : Int} (h : RNE m pt ph al bl line e many) (he : m ≤ e) : BK m pt ph al bl many := by
  obtain ⟨b0, q1, q2, q2', q3, q4, q5, q6, q7⟩ := h
  have v1 : ∀ j u v, JJ m pt ph al j u v → bl j = line (b0 j) ∧ 0 ≤ bl j := fun j u v z => (q4 j z.1 (by have := z.2.1; omega)).1 z.2.2.1
  refine ⟨⟨fun a b hd => ?_, fun c hc a b ⟨u, v, ja⟩ ⟨u', v', jb⟩ hb ca => ?_⟩, q2, fun a a0 a1 => ?_, fun k k0 k1 => ?_⟩
  · have hd' := hd
    obtain ⟨v, x, y, j1, j2, _⟩ := hd
    rw [(v1 a _ _ j1).1, (v1 b _ _ j2).1, q1.2.2 a b hd']
  · have za := v1 a _ _ ja
    have zb := v1 b _ _ jb
    refine q1.2.1 c hc a b ja.1 ja.2.1 jb.1 jb.2.1 (q6 _ _ (q1.1 a ja.1 ja.2.1).1 (q1.1 a ja.1 ja.2.1).2 (q1.1 b jb.1 jb.2.1).1 (q1.1 b jb.1 jb.2.1).2 (by omega) (by omega)) ca
  · have z := q4 a a0 (by omega)
    refine ⟨fun w => ?_, z.2⟩
    have z2 := z.1 w
    have z3 := q5 (b0 a) (q1.1 a a0 a1).1 (q1.1 a a0 a1).2
    omega
  · obtain ⟨j, z1, z2, z3, z4⟩ := q7 k k0 k1
    by_cases z : j < m
    · exact ⟨j, z1, z, z3, by rw [((q4 j z1 z2).1 z3).1]; exact z4⟩
    · omega
def BBn (m : Int) (pt ph al bl : Int → Int) (v e f : Int) : Prop := BB m pt ph al bl v e (f + 1)
theorem rne_b {m : Int} {pt ph al bl line : Int → Int} {e many : Int} (h : RNE m pt ph al bl line e many) (h0 : 0 ≤ e) (h1 : e < m) : 0 ≤ bl e ∧ bl e < m := by
  obtain ⟨b0, q1, q2, q2', q3, q4, q5, q6, q7⟩ := h
  rw [q3 e (Int.le_refl _)]; exact q1.1 e h0 h1
theorem rne_l {m : Int} {pt ph al bl line : Int → Int} {e many a : Int} (h : RNE m pt ph al bl line e many) (h0 : 0 ≤ a) (h1 : a < m) : line a = -1 ∨ (0 ≤ line a ∧ line a < many ∧ many ≤ e ∧ e ≤ m) := by
  obtain ⟨b0, q1, q2, q2', q3, q4, q5, q6, q7⟩ := h
  rcases q5 a h0 h1 with z | z
  · exact Or.inl z
  · exact Or.inr ⟨z.1, z.2, q2'.1, q2'.2⟩
theorem rne_m {m : Int} {pt ph al bl line : Int → Int} {e many : Int} (h : RNE m pt ph al bl line e many) : 0 ≤ many ∧ many ≤ e ∧ e ≤ m := by
  obtain ⟨b0, q1, q2, q2', q3, q4, q5, q6, q7⟩ := h
  exact ⟨q2, q2'.1, q2'.2⟩
theorem bb_first {m : Int} {pt ph al bl : Int → Int} {v e : Int} (h : BBe m pt ph al bl v e) : BB m pt ph al bl v e (e + 1) :=
  ⟨h.1, h.2.1, fun v' e' f' x y j1 j2 h1 h2 h3 => h.2.2 v' e' f' x y j1 j2 h1 h2 (by have := j2.1; omega)⟩
theorem acr_rng {n m : Int} {pt ph : Int → Int} (hg : GOK n m pt ph) {e i : Int} (h0 : 0 ≤ e) (h1 : e < m) : 0 ≤ acr pt ph e i ∧ acr pt ph e i < n := by
  have := hg.1 e h0 h1
  unfold acr; split <;> omega
