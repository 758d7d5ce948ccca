/-! what holds of the model's rows of edges -/
def JJ (m : Int) (pt ph al : Int → Int) : pj_T := fun e u v => 0 ≤ e ∧ e < m ∧ al e = 1 ∧ ((pt e = u ∧ ph e = v) ∨ (pt e = v ∧ ph e = u))
def GOK (n m : Int) (pt ph : Int → Int) : Prop := (∀ e, 0 ≤ e → e < m → 0 ≤ pt e ∧ pt e < n ∧ 0 ≤ ph e ∧ ph e < n ∧ pt e ≠ ph e) ∧ ∀ e f, 0 ≤ e → e < f → f < m → ¬ ((pt e = pt f ∧ ph e = ph f) ∨ (pt e = ph f ∧ ph e = pt f))
theorem JJ_sym {m : Int} {pt ph al : Int → Int} : jsym (JJ m pt ph al) := fun _ _ _ h => ⟨h.1, h.2.1, h.2.2.1, h.2.2.2.symm⟩
theorem JJ_uni {m : Int} {pt ph al : Int → Int} : juni (JJ m pt ph al) := by
  intro e u v u' v' h h'
  rcases h.2.2.2 with ⟨a, b⟩ | ⟨a, b⟩ <;> rcases h'.2.2.2 with ⟨c, d⟩ | ⟨c, d⟩
  · exact Or.inl ⟨c ▸ a, d ▸ b⟩
  · exact Or.inr ⟨d ▸ b, c ▸ a⟩
  · exact Or.inr ⟨c ▸ a, d ▸ b⟩
  · exact Or.inl ⟨d ▸ b, c ▸ a⟩
theorem JJ_irr {n m : Int} {pt ph al : Int → Int} (h : GOK n m pt ph) : jirr (JJ m pt ph al) := by
  intro e u v j
  have := h.1 e j.1 j.2.1
  rcases j.2.2.2 with ⟨a, b⟩ | ⟨a, b⟩ <;> omega
theorem JJ_rng {n m : Int} {pt ph al : Int → Int} (h : GOK n m pt ph) {e u v : Int} (j : JJ m pt ph al e u v) : 0 ≤ u ∧ u < n ∧ 0 ≤ v ∧ v < n := by
  have := h.1 e j.1 j.2.1
  rcases j.2.2.2 with ⟨a, b⟩ | ⟨a, b⟩ <;> omega
theorem JJ_one {n m : Int} {pt ph al : Int → Int} (h : GOK n m pt ph) {e f u v : Int} (j : JJ m pt ph al e u v) (k : JJ m pt ph al f u v) : e = f := by
  rcases Int.lt_trichotomy e f with q | q | q
  · refine absurd ?_ (h.2 e f j.1 q k.2.1)
    rcases j.2.2.2 with ⟨a, b⟩ | ⟨a, b⟩ <;> rcases k.2.2.2 with ⟨c, d⟩ | ⟨c, d⟩ <;> omega
  · exact q
  · refine absurd ?_ (h.2 f e k.1 q j.2.1)
    rcases j.2.2.2 with ⟨a, b⟩ | ⟨a, b⟩ <;> rcases k.2.2.2 with ⟨c, d⟩ | ⟨c, d⟩ <;> omega
/-! flood -/
def FL0 (seen : Int → Int) (a i : Int) : Prop := ∀ j, 0 ≤ j → j < i → (seen j ≠ 0 ↔ j = a)
def FL1 (n m : Int) (pt ph al seen : Int → Int) (a w : Int) : Prop := (∀ y, 0 ≤ y → y < n → seen y ≠ 0 → cnA (JJ m pt ph al) w a y) ∧ seen a ≠ 0
def FL2 (pt ph al seen : Int → Int) (w e mo : Int) : Prop := mo = 0 → ∀ f, 0 ≤ f → f < e → al f = 1 → pt f ≠ w → ph f ≠ w → seen (pt f) = seen (ph f)
def FLD (n m : Int) (pt ph al seen : Int → Int) (a w : Int) : Prop := ∀ y, 0 ≤ y → y < n → (seen y ≠ 0 ↔ cnA (JJ m pt ph al) w a y)
theorem fl_end {n m : Int} {pt ph al seen : Int → Int} {a w : Int} (hg : GOK n m pt ph) (h1 : FL1 n m pt ph al seen a w) (h2 : FL2 pt ph al seen w m 0) : FLD n m pt ph al seen a w := by
  intro y hy0 hy1
  refine ⟨h1.1 y hy0 hy1, fun hc => ?_⟩
  refine hc (fun z => seen z ≠ 0) (fun u v ⟨⟨e, je⟩, hu, hv⟩ hz => ?_) h1.2
  have h3 := h2 rfl e je.1 je.2.1 je.2.2.1
  rcases je.2.2.2 with ⟨c, d⟩ | ⟨c, d⟩
  · rw [c, d] at h3; rw [← h3 hu hv]; exact hz
  · rw [c, d] at h3; rw [h3 hv hu]; exact hz
theorem fl_step {n m : Int} {pt ph al seen seen' : Int → Int} {a w e : Int} (hg : GOK n m pt ph) (h1 : FL1 n m pt ph al seen a w) (he0 : 0 ≤ e) (he1 : e < m) (hal : al e = 1) (hp : pt e ≠ w) (hh : ph e ≠ w) (hne : seen (pt e) ≠ seen (ph e)) (ha : 0 ≤ a)
    (hs : ∀ y, 0 ≤ y → y ≠ pt e → y ≠ ph e → seen' y = seen y) (hs1 : seen' (pt e) ≠ 0) (hs2 : seen' (ph e) ≠ 0) : FL1 n m pt ph al seen' a w := by
  have hb := hg.1 e he0 he1
  have hor : cnA (JJ m pt ph al) w a (pt e) ∨ cnA (JJ m pt ph al) w a (ph e) := by
    by_cases q : seen (pt e) = 0
    · exact Or.inr (h1.1 _ (by omega) (by omega) (by omega))
    · exact Or.inl (h1.1 _ (by omega) (by omega) q)
  have st : sv (JJ m pt ph al) w (pt e) (ph e) := ⟨⟨e, he0, he1, hal, Or.inl ⟨rfl, rfl⟩⟩, hp, hh⟩
  have st2 : sv (JJ m pt ph al) w (ph e) (pt e) := ⟨⟨e, he0, he1, hal, Or.inr ⟨rfl, rfl⟩⟩, hh, hp⟩
  have hb1 : cnA (JJ m pt ph al) w a (pt e) := hor.elim id (fun h => rc_trans h (rc_step st2))
  have hb2 : cnA (JJ m pt ph al) w a (ph e) := hor.elim (fun h => rc_trans h (rc_step st)) id
  refine ⟨fun y h0 hy hz => ?_, ?_⟩
  · by_cases q : y = pt e
    · rw [q]; exact hb1
    · by_cases q2 : y = ph e
      · rw [q2]; exact hb2
      · rw [hs y h0 q q2] at hz; exact h1.1 y h0 hy hz
  · by_cases q : a = pt e
    · rw [q]; exact hs1
    · by_cases q2 : a = ph e
      · rw [q2]; exact hs2
      · rw [hs a ha q q2]; exact h1.2
def FL3 (m : Int) (pt ph al seen : Int → Int) (w mo : Int) : Prop := FL2 pt ph al seen w m mo
/-- how many of the first are zero -/
def czN (f : Int → Int) : Nat → Int
  | 0 => 0
  | n + 1 => czN f n + (if f ((n : Nat) : Int) = 0 then 1 else 0)
theorem cz_bd (f : Int → Int) : ∀ n : Nat, 0 ≤ czN f n ∧ czN f n ≤ n
  | 0 => ⟨by show (0 : Int) ≤ 0; omega, by show (0 : Int) ≤ 0; omega⟩
  | n + 1 => by
    have := cz_bd f n
    show 0 ≤ czN f n + _ ∧ czN f n + _ ≤ _
    split <;> omega
theorem cz_eq {f g : Int → Int} : ∀ n : Nat, (∀ j : Int, 0 ≤ j → j < n → (f j = 0 ↔ g j = 0)) → czN f n = czN g n
  | 0, _ => rfl
  | n + 1, h => by
    show czN f n + (if f ((n : Nat) : Int) = 0 then 1 else 0) = czN g n + (if g ((n : Nat) : Int) = 0 then 1 else 0)
    rw [cz_eq n (fun j a b => h j a (by omega))]
    have := h n (by omega) (by omega)
    by_cases q : f ((n : Nat) : Int) = 0
    · rw [if_pos q, if_pos (this.mp q)]
    · rw [if_neg q, if_neg (fun z => q (this.mpr z))]
theorem cz_le {f g : Int → Int} : ∀ n : Nat, (∀ j : Int, 0 ≤ j → j < n → f j = 0 → g j = 0) → czN f n ≤ czN g n
  | 0, _ => Int.le_refl _
  | n + 1, h => by
    show czN f n + (if f ((n : Nat) : Int) = 0 then 1 else 0) ≤ czN g n + (if g ((n : Nat) : Int) = 0 then 1 else 0)
    have h1 := cz_le n (fun j a b => h j a (by omega))
    have := h n (by omega) (by omega)
    by_cases q : f ((n : Nat) : Int) = 0
    · rw [if_pos q, if_pos (this q)]; omega
    · rw [if_neg q]; split <;> omega
theorem cz_lt {f g : Int → Int} {i : Int} : ∀ n : Nat, 0 ≤ i → i < n → (∀ j : Int, 0 ≤ j → j < n → f j = 0 → g j = 0) → g i = 0 → f i ≠ 0 → czN f n + 1 ≤ czN g n
  | 0, h0, h1, _, _, _ => by omega
  | n + 1, h0, h1, h, hg, hf => by
    show czN f n + (if f ((n : Nat) : Int) = 0 then 1 else 0) + 1 ≤ czN g n + (if g ((n : Nat) : Int) = 0 then 1 else 0)
    have hh := h n (by omega) (by omega)
    by_cases q : i = n
    · subst q
      have h2 := cz_le n (fun j a b => h j a (by omega))
      rw [if_neg hf, if_pos hg]; omega
    · have h2 := cz_lt n h0 (by omega) (fun j a b => h j a (by omega)) hg hf
      by_cases q : f ((n : Nat) : Int) = 0
      · rw [if_pos q, if_pos (hh q)]; omega
      · rw [if_neg q]; split <;> omega
noncomputable def cz (f : Int → Int) (n : Int) : Int := Classical.choose (⟨czN f n.toNat, rfl⟩ : ∃ c : Int, c = czN f n.toNat)
theorem cz_is (f : Int → Int) (n : Int) : cz f n = czN f n.toNat := Classical.choose_spec (⟨czN f n.toNat, rfl⟩ : ∃ c : Int, c = czN f n.toNat)
theorem czb (f : Int → Int) {n : Int} (h : 0 ≤ n) : 0 ≤ cz f n ∧ cz f n ≤ n := by rw [cz_is]; have := cz_bd f n.toNat; omega
theorem czlt {f g : Int → Int} {n i : Int} (h0 : 0 ≤ i) (h1 : i < n) (h : ∀ j : Int, 0 ≤ j → j < n → f j = 0 → g j = 0) (hg : g i = 0) (hf : f i ≠ 0) : cz f n + 1 ≤ cz g n := by
  rw [cz_is, cz_is]; exact cz_lt n.toNat h0 (by omega) (fun j a b => h j a (by omega)) hg hf
theorem czle {f g : Int → Int} {n : Int} (h : ∀ j : Int, 0 ≤ j → j < n → f j = 0 → g j = 0) : cz f n ≤ cz g n := by
  rw [cz_is, cz_is]; exact cz_le n.toNat (fun j a b => h j a (by omega))
def FLM (seen : Int → Int) (mo g : Int) : Prop := cz seen 26 + mo ≤ g
def FLN (seen : Int → Int) (mo g : Int) : Prop := cz seen 26 + mo + 1 ≤ g
theorem fln_pos {s : Int → Int} {mo g : Int} (h : FLN s mo g) (h0 : 0 ≤ mo) : 1 ≤ g := by
  have := czb s (n := 26) (by omega)
  unfold FLN at h; omega
