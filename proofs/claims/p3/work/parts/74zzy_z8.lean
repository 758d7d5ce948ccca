section
-- the reference: the other steps
def zU9s (lim fault r : Int) (T A : Int → Int) (x g d p : Int) : Prop := 0 ≤ x ∧ zTS9s lim fault r T A x g d p
def zU10s (lim fault r : Int) (T A : Int → Int) (x g d p : Int) : Prop := 0 ≤ x ∧ zTS10s lim fault r T A x g d p
def zU11s (lim fault r : Int) (T A : Int → Int) (x g d p : Int) : Prop := 0 ≤ x ∧ zTS11s lim fault r T A x g d p
def zU12s (lim fault r : Int) (T A : Int → Int) (x z g d p : Int) : Prop := 0 ≤ x ∧ 0 < z ∧ zTS12s lim fault r T A x z g d p
def zU12w (lim fault r : Int) (T A : Int → Int) (y z g d p : Int) : Prop := 0 < z ∧ zTS12w lim fault r T A y z g d p
def zT0p (lim fault r : Int) (T A : Int → Int) (g d p : Int) : Prop := zTS0 lim fault r T A g (d + 1) p
theorem it_node {lim pos kind place value frm fault r g d p ans : Int} {T A : Int → Int} (h : zRSI lim pos kind place value frm fault r T A g d) (w : WQn kind pos lim frm T ans) (e : ans ≠ 0) (hp : p = pos) : zTS1 lim fault r T A g d p := by
  have hn := wd_t w (rsq_lim h.1).1 (rsq_0 h.1).2 e
  rw [hp]
  exact rsq_go h.1 (by decide) (fun p v ρ q _ => ⟨ρ, gD_c0.trans ((cI_f (fun a => by have := hn.1; omega)).trans ((cI_f (fun a => by have := hn.1; omega)).trans (cI_t hn))), q⟩)
theorem it_edge {lim pos kind place value frm fault r g d a b : Int} {T A : Int → Int} (h : zRSI lim pos kind place value frm fault r T A g d) (w1 : WQn kind pos lim frm T a) (w2 : WQg kind pos lim frm T b) (e1 : a = 0) (e2 : b = 0) : zRSE lim pos kind place value frm fault r T A g d := by
  exact ⟨h, wd_f w1 (rsq_lim h.1).1 (rsq_0 h.1).2 e1, wd_f w2 (rsq_lim h.1).1 (rsq_0 h.1).2 e2⟩
theorem it_group {lim pos kind place value frm fault r g d b : Int} {T A : Int → Int} (h : zRSI lim pos kind place value frm fault r T A g d) (w2 : WQg kind pos lim frm T b) (e2 : b ≠ 0) : zRSG lim pos kind place value frm fault r T A g d := by
  exact ⟨h.1, wd_t w2 (rsq_lim h.1).1 (rsq_0 h.1).2 e2⟩
theorem wg_wn {t : Int → Int} {k b e : Int} (h : isWg t k b e) : ¬ isWn t k b e := fun q => by
  have := h.2.1
  have := q.2.1
  omega
theorem gr_full {lim pos kind place value frm fault r g d : Int} {T A : Int → Int} (h : zRSG lim pos kind place value frm fault r T A g d) (hf : A (r + 2) = 8 ∨ d = 4) : FSX lim T 3 place := by
  refine rsq_flt h.1 (by decide) (by decide) (fun p v ρ q _ => gD_c0.trans ((cI_f (fun a => by have := h.2.1; omega)).trans ((cI_f (fun a => by have := h.2.1; omega)).trans ((cI_f (wg_wn h.2)).trans ((cI_t h.2).trans (cI_t ?_))))))
  have := q 2 (by omega) (by omega)
  omega
theorem gr_go {lim pos kind place value frm fault r g d p : Int} {T A : Int → Int} (h : zRSG lim pos kind place value frm fault r T A g d) (h8 : A (r + 2) ≠ 8) (h4 : d < 4) (hp : p = pos) : zTS5 lim fault r T A g d p := by
  rw [hp]
  refine rsq_goR h.1 (by decide) (fun p v ρ q hr _ => ⟨ρ, gD_c0.trans ((cI_f (fun a => by have := h.2.1; omega)).trans ((cI_f (fun a => by have := h.2.1; omega)).trans ((cI_f (wg_wn h.2)).trans ((cI_t h.2).trans (cI_f ?_))))), q⟩)
  have := q 2 (by omega) (by omega)
  have := hr.2.2.2.2.2
  omega
theorem gr_no {lim pos kind place value frm fault r g d ans : Int} {T A : Int → Int} (h : zRS5 lim pos kind place value frm fault r T A g d) (n : NMQ kind pos lim frm T ans) (e : ans = 0) : FSX lim T 1 place := by
  exact rsq_flt h (by decide) (by decide) (fun p v ρ q w => gD_c5.trans (cI_f (nmq_f n (rsq_lim h).1 (rsq_0 h).2 e)))
theorem mg_start {a1 v1 a2 v2 a3 v3 : Int} {lim pos kind place value frm fault r g d i k ans : Int} {T A A1 A2 A3 : Int → Int} (h : zRS5 lim pos kind place value frm fault r T A g d) (hr0 : 0 ≤ r) (n : NMQ kind pos lim frm T ans) (e : ans ≠ 0) (s1 : st1 A A1 a1 v1) (s2 : st1 A1 A2 a2 v2) (s3 : st1 A2 A3 a3 v3) (e1 : a1 = r + 2) (w1 : v1 = A a1 + 1) (hi : i = A (r + 2)) (e2 : a2 = r + 531 + i) (w2 : v2 = g) (e3 : a3 = r + 523 + i) (w3 : v3 = pos - frm) (k0 : k = 0) : zMG lim pos kind place value frm fault r T A3 i k g d := by
  have l := rsq_lim h
  have hn := nmq_t n l.1 (rsq_0 h).2 e
  refine ⟨?_, hn⟩
  obtain ⟨f0, f1, m, ρ, p, v, g1, q, g3, g4⟩ := h
  have hr : ROK ρ ∧ ρ 2 < 8 := by
    rcases gr_good g1 with z | ⟨z1, z⟩
    · exact absurd z (show ¬ ((5 : Int) = 100) by decide)
    · exact ⟨z, z1.2.2.2 rfl⟩
  exact ⟨f0, f1, m, ρ, p, v, g1, gwq_start q hr0 ⟨hr.1.2.2.2.2.1, hr.2⟩ s1 s2 s3 e1 w1 hi e2 w2 e3 w3 l.2.1 k0, g3, g4⟩
theorem mg_step {q c k_zq : Int} {lim pos kind place value frm fault r g d i k : Int} {T A A1 : Int → Int} (h : zMG lim pos kind place value frm fault r T A i k g d) (hr0 : 0 ≤ r) (s : st1 A A1 q c) (e1 : q = r + (459 + 8 * i + k)) (hc : c = T (frm + k)) (hk : k < pos - frm) (ek : k_zq = k + 1) : zMG lim pos kind place value frm fault r T A1 i k_zq g d := by
  obtain ⟨⟨f0, f1, m, ρ, p, v, g1, q, g3, g4⟩, hn⟩ := h
  have hr : ROK ρ := by
    rcases gr_good g1 with z | ⟨_, z⟩
    · exact absurd z (show ¬ ((5 : Int) = 100) by decide)
    · exact z
  exact ⟨⟨f0, f1, m, ρ, p, v, g1, gwq_step q hr0 hr.2.2.2.2.1 s e1 hc hk ek, g3, g4⟩, hn⟩
theorem mg_tk {lim pos kind place value frm fault r g d i k : Int} {T A : Int → Int} (h : zMG lim pos kind place value frm fault r T A i k g d) : (pos ≤ lim ∧ frm ≤ pos) ∧ ∀ j, frm ≤ j → j < pos → tkN (T j) := by
  have l := rsq_lim h.1
  exact ⟨⟨l.1, l.2.1⟩, (l.2.2.2 h.2.1).2⟩
theorem mn_tk0 {lim pos kind place value frm fault r g d i k : Int} {T A : Int → Int} (h : zMN0 lim pos kind place value frm fault r T A i k g d) : (pos ≤ lim ∧ frm ≤ pos) ∧ ∀ j, frm ≤ j → j < pos → tkN (T j) := by
  have l := rsq_lim h.1
  exact ⟨⟨l.1, l.2.1⟩, (l.2.2.2 h.2.1).2⟩
theorem mn_tk1 {lim pos kind place value frm fault r g d i k : Int} {T A : Int → Int} (h : zMN1 lim pos kind place value frm fault r T A i k g d) : (pos ≤ lim ∧ frm ≤ pos) ∧ ∀ j, frm ≤ j → j < pos → tkN (T j) := by
  have l := rsq_lim h.1
  exact ⟨⟨l.1, l.2.1⟩, (l.2.2.2 h.2.1).2⟩
theorem mn_tk4 {lim pos kind place value frm fault r x y z g d i k : Int} {T A : Int → Int} (h : zMN4 lim pos kind place value frm fault r T A i k x y z g d) : (pos ≤ lim ∧ frm ≤ pos) ∧ ∀ j, frm ≤ j → j < pos → tkN (T j) := by
  have l := rsq_lim h.1
  exact ⟨⟨l.1, l.2.1⟩, (l.2.2.2 h.2.1).2⟩
theorem mg_end {lim pos kind place value frm fault r g d i k p : Int} {T A : Int → Int} (h : zMG lim pos kind place value frm fault r T A i k g d) (hk : pos - frm ≤ k) (hp : p = pos) : zTS7p lim fault r T A i d p := by
  rw [hp]
  obtain ⟨h, hn⟩ := h
  have f1 := (rsq_0 h).2
  refine rsq_go h (by decide) (fun p v ρ q w => ⟨_, ?_, gwq_end q hk⟩)
  rw [gD_c5.trans (cI_t hn), q.2.1, f1]
theorem mg_hst {lim pos kind place value frm fault r g d i k : Int} {T A : Int → Int} (h : zMG lim pos kind place value frm fault r T A i k g d) : HST lim T i g := by
  obtain ⟨h, hn⟩ := h
  have f1 := (rsq_0 h).2
  have l := rsq_lim h
  obtain ⟨f0, _, m, ρ, p, v, g1, q, g3, g4⟩ := h
  have hr : ROK ρ ∧ ρ 2 < 8 := by
    rcases gr_good g1 with z | ⟨z1, z⟩
    · exact absurd z (show ¬ ((5 : Int) = 100) by decide)
    · exact ⟨z, z1.2.2.2 rfl⟩
  have w := ngR_ok (t := T) (b := place) (e := pos) (q := g) hr.1 hr.2 ⟨by omega, by have := (l.2.2.2 hn.1).1; omega⟩
  have hi := q.2.1
  have h2 := hr.1.2.2.2.2.1
  refine ⟨by omega, m + 1, _, ⟨_, g1, (show (5 : Int) < 100 by decide), kind, place, pos, v, g3, rfl⟩, ?_⟩
  rw [show gD T (5, 0, 0, 0, g, d, p, ρ) kind place pos v = (7, 0, 0, 0, ρ 2, d + 1, pos, ngR T ρ place pos g) from gD_c5.trans (cI_t hn)]
  refine ⟨(show (7 : Int) < 100 by decide), ?_, ?_⟩
  · show i < ngR T ρ place pos g 2
    rw [w.2.2.1]; omega
  · show ngR T ρ place pos g (531 + i) = g
    rw [hi]; exact w.2.2.2
theorem gr_item {lim pos kind place value frm fault fp r x g d ans c : Int} {T A : Int → Int} (h : zOP0 lim pos kind place value frm fault fp r T A g d) (h0 : fault = 0) (s : SGQ fault kind value c ans) (hc : c = 125) (ha : ans = 0) (hd : 0 ≤ d) (e : x = d + 1) : zRSI lim pos kind place value frm fault r T A g x := by
  rcases h with h | h
  · have := h.1; omega
  · rw [e]
    refine ⟨h, fun q => by omega, fun q => ?_⟩
    rcases s with s | s
    · omega
    · exact s.2 ⟨h0, q.1, by omega⟩
theorem gr_close {lim pos kind place value frm fault fp r g d i : Int} {T A : Int → Int} (h : zOP0 lim pos kind place value frm fault fp r T A i d) (t : HST lim T i g) (hi : i < A (r + 2)) (hd : 0 ≤ d) (s : fault ≠ 0 ∨ (fault = 0 ∧ kind = 3 ∧ value = 125)) : zNc lim pos kind place value frm fault fp r T A g d := by
  rcases h with h | h
  · exact Or.inl h
  · rcases s with s | ⟨_, s1, s2⟩
    · exact absurd h.1 s
    · refine Or.inr ⟨s1, s2, ?_⟩
      obtain ⟨f0, f1, m, ρ, p, v, g1, q, g3, g4⟩ := h
      have e2 := q 2 (by omega) (by omega)
      have eg := hst_eq t g1 (show ¬ ((0 : Int) = 100) by decide) (by show i < ρ 2; omega)
      have eg_zq : ρ (531 + i) = g := eg
      refine ⟨f0, f1, m, _, ρ, v, g1, (show (0 : Int) < 100 by decide), q, g3, g4, ?_⟩
      have hv := g4 (Or.inr s1)
      rw [gD_c0.trans ((cI_f (fun a => by omega)).trans (cI_t ⟨s1, by omega, by omega⟩)), eg_zq, cI_t ⟨s1, by omega⟩, show d + 1 - 1 = d by omega]
theorem of_no_s {lim pos kind place value frm fault fp r x g d ans a c : Int} {T A : Int → Int} (h : zOBs lim pos kind place value frm fault fp r T A x g d) (s : SGQ fault kind value c ans) (hc : c = 91) (ha : ans = 0) (e : a = 0) : zOFs lim pos kind place value frm fault fp r T A x a g d := by
  rcases h with h | ⟨_, h⟩
  · exact Or.inl ⟨e, h⟩
  · refine Or.inr (Or.inl ⟨e, h, fun q => ?_⟩)
    rcases s with s | s
    · omega
    · exact s.2 ⟨h.1, q.1, by omega⟩
theorem of_go_s {lim pos kind place value frm fault fp r x g d p ans c : Int} {T A : Int → Int} (h : zOBs lim pos kind place value frm fault fp r T A x g d) (s : SGQ fault kind value c ans) (hc : c = 91) (ha : ans ≠ 0) (hp : p = pos) : zU9s lim fault r T A x g d p := by
  rw [hp]
  rcases s with s | s
  · rcases h with h | ⟨h0, h⟩
    · have := h.1; omega
    · exact ⟨h0, rsq_go h (by decide) (fun p v ρ q w => ⟨ρ, gD_c2.trans (cI_t ⟨s.2.2.1, by have := w (Or.inr s.2.2.1); omega⟩), q⟩)⟩
  · omega
theorem of_k_s {lim pos kind place value frm fault r x z g d : Int} {T A : Int → Int} (h : zOIs lim pos kind place value frm fault r T A x z g d) (hk : kind ≠ 1) : FSX lim T 1 place := by
  obtain ⟨h0x, h⟩ := h
  rcases h with ⟨_, h⟩ | ⟨_, h, hn⟩
  · exact rsq_flt h (by decide) (by decide) (fun p v ρ q w => gD_c9.trans (cI_f hk))
  · exact rsq_flt h (by decide) (by decide) (fun p v ρ q w => gD_c12.trans ((cI_f (fun a => hn ⟨a.1, by have := w (Or.inr a.1); omega⟩)).trans (cI_f hk)))
theorem of_w_s {lim pos kind place value frm fault r x z g d ans : Int} {T A : Int → Int} (h : zOIs lim pos kind place value frm fault r T A x z g d) (hk : kind = 1) (hw0 : (WQs kind pos lim frm T ans ∧ ans = 0) ∨ 0 < z) : FSX lim T 4 place := by
  obtain ⟨h0x, h⟩ := h
  rcases h with ⟨hz, h⟩ | ⟨_, h, hn⟩
  · rcases hw0 with ⟨hw1, hw2⟩ | hw0
    · have hw := wd_f hw1 (rsq_lim h).1 (rsq_0 h).2 hw2
      exact rsq_flt h (by decide) (by decide) (fun p v ρ q w => gD_c9.trans ((cI_t hk).trans (cI_f (fun a => by rcases a with a | a; exact hw a.2; omega))))
    · omega
  · exact rsq_flt h (by decide) (by decide) (fun p v ρ q w => gD_c12.trans ((cI_f (fun a => hn ⟨a.1, by have := w (Or.inr a.1); omega⟩)).trans (cI_t hk)))
theorem of_eq_s {lim pos kind place value frm fault r x z g d p ans : Int} {T A : Int → Int} (h : zOIs lim pos kind place value frm fault r T A x z g d) (hk : kind = 1) (hw0 : WQs kind pos lim frm T ans) (ha : ans ≠ 0) (hz : z ≤ 0) (hp : p = pos) : zU10s lim fault r T A x g d p := by
  rw [hp]
  obtain ⟨h0x, h⟩ := h
  rcases h with ⟨_, h⟩ | ⟨_, h, hn⟩
  · have hw := wd_t hw0 (rsq_lim h).1 (rsq_0 h).2 ha
    exact ⟨h0x, rsq_go h (by decide) (fun p v ρ q w => ⟨ρ, gD_c9.trans ((cI_t hk).trans (cI_t (Or.inl ⟨h0x, hw⟩))), q⟩)⟩
  · omega
theorem of_nk_s {lim pos kind place value frm fault fp r x g d : Int} {T A : Int → Int} (h : zO11s lim pos kind place value frm fault fp r T A x g d) (h0 : fault = 0) (hk : kind ≠ 2) : FSX lim T 1 place := by
  rcases h with h | ⟨h0x, h⟩
  · have := h.1; omega
  · exact rsq_flt h (by decide) (by decide) (fun p v ρ q w => gD_c11.trans (cI_f hk))
theorem of_nv_s {lim pos kind place value frm fault fp r x g d : Int} {T A : Int → Int} (h : zO11s lim pos kind place value frm fault fp r T A x g d) (h0 : fault = 0) (hk : kind = 2) (hv : ¬ (1 ≤ value ∧ value ≤ 99)) : FSX lim T 5 place := by
  rcases h with h | ⟨h0x, h⟩
  · have := h.1; omega
  · exact rsq_flt h (by decide) (by decide) (fun p v ρ q w => gD_c11.trans ((cI_t hk).trans (cI_f (fun a => by rw [if_pos h0x] at a; have := w (Or.inl hk); exact hv ⟨by omega, by omega⟩))))
theorem of_val_s {lim pos kind place value frm fault fp r x z g d p : Int} {T A : Int → Int} (h : zO11s lim pos kind place value frm fault fp r T A x g d) (h0 : fault = 0) (hk : kind = 2) (hv : 1 ≤ value ∧ value ≤ 99) (hz : z = value) (hp : p = pos) : zU12s lim fault r T A x z g d p := by
  rw [hp]
  rcases h with h | ⟨h0x, h⟩
  · have := h.1; omega
  · exact ⟨h0x, by omega, rsq_go h (by decide) (fun p v ρ q w => ⟨ρ, by rw [gD_c11.trans ((cI_t hk).trans (cI_t (by rw [if_pos h0x]; have := w (Or.inl hk); omega)))]; rw [w (Or.inl hk), hz], q⟩)⟩
theorem of_12_s {lim pos kind place value frm fault r x z g d p : Int} {T A : Int → Int} (h : zU12s lim fault r T A x z g d p) (k : TKR lim pos kind place value frm T p) : zO12s lim pos kind place value frm fault r T A x z g d := by
  exact ⟨h.1, h.2.1, rsq_of h.2.2 k⟩
theorem of_back_s {lim pos kind place value frm fault r x z g d ans c : Int} {T A : Int → Int} (h : zO12s lim pos kind place value frm fault r T A x z g d) (s : SGQ fault kind value c ans) (hc : c = 93) (ha : ans = 0) : zOIs lim pos kind place value frm fault r T A x z g d := by
  refine ⟨h.1, Or.inr ⟨h.2.1, h.2.2, fun q => ?_⟩⟩
  rcases s with s | s
  · omega
  · exact s.2 ⟨h.2.2.1, q.1, by omega⟩
theorem of_end_s {lim pos kind place value frm fault r x z g d : Int} {T A : Int → Int} (h : zO12s lim pos kind place value frm fault r T A x z g d) (s : fault ≠ 0 ∨ (fault = 0 ∧ kind = 3 ∧ value = 93)) : zNbs lim pos kind place value frm fault r T A x z g d := by
  have f0 := h.2.2.1
  rcases s with s | s
  · exact absurd f0 s
  · exact ⟨h, s.2.1, s.2.2⟩
theorem nb_s {lim pos kind place value frm fault r x z g d p : Int} {T A : Int → Int} (h : zNbs lim pos kind place value frm fault r T A x z g d) (hp : p = pos) : zTP13s lim fault r T A x z g d p := by
  rw [hp]
  refine rsq_go h.1.2.2 (by decide) (fun p v ρ q w => ⟨ruR ρ (219 + x) z, ?_, ρ, q, rfl⟩)
  rw [gD_c12.trans (cI_t ⟨h.2.1, by have := w (Or.inr h.2.1); have := h.2.2; omega⟩)]
  rw [if_pos h.1.1]
theorem of_no_w {lim pos kind place value frm fault fp r y g d ans a c : Int} {T A : Int → Int} (h : zOBw lim pos kind place value frm fault fp r T A y g d) (s : SGQ fault kind value c ans) (hc : c = 91) (ha : ans = 0) (e : a = 0) : zOFw lim pos kind place value frm fault fp r T A y a g d := by
  rcases h with h | ⟨⟨x, h⟩, hn⟩
  · exact Or.inl ⟨e, h⟩
  · refine Or.inr (Or.inl ⟨e, ⟨x, h⟩, fun q => ?_⟩)
    rcases s with s | s
    · omega
    · rcases q with ⟨q1, q2 | q2 | q2⟩
      · exact s.2 ⟨h.1, q1, by omega⟩
      · exact hn ⟨q1, Or.inl q2⟩
      · exact hn ⟨q1, Or.inr q2⟩
theorem of_go_w {lim pos kind place value frm fault fp r y g d p ans c : Int} {T A : Int → Int} (h : zOBw lim pos kind place value frm fault fp r T A y g d) (s : SGQ fault kind value c ans) (hc : c = 91) (ha : ans ≠ 0) (hp : p = pos) : zTS9w lim fault r T A y g d p := by
  rw [hp]
  rcases s with s | s
  · rcases h with h | ⟨⟨x, h⟩, hn⟩
    · have := h.1; omega
    · exact rsq_go h (by decide) (fun p v ρ q w => ⟨ρ, gD_c8.trans ((cI_f (fun a => by omega)).trans (cI_t ⟨s.2.2.1, by have := w (Or.inr s.2.2.1); omega⟩)), q⟩)
  · omega
theorem of_k_w {lim pos kind place value frm fault r y z g d : Int} {T A : Int → Int} (h : zOIw lim pos kind place value frm fault r T A y z g d) (hk : kind ≠ 1) : FSX lim T 1 place := by
  rcases h with ⟨_, h⟩ | ⟨_, h, hn⟩
  · exact rsq_flt h (by decide) (by decide) (fun p v ρ q w => gD_c9.trans (cI_f hk))
  · exact rsq_flt h (by decide) (by decide) (fun p v ρ q w => gD_c12.trans ((cI_f (fun a => hn ⟨a.1, by have := w (Or.inr a.1); omega⟩)).trans (cI_f hk)))
theorem of_w_w {lim pos kind place value frm fault r y z g d ans : Int} {T A : Int → Int} (h : zOIw lim pos kind place value frm fault r T A y z g d) (hk : kind = 1) (hw0 : (WQw kind pos lim frm T ans ∧ ans = 0) ∨ 0 < z) : FSX lim T 4 place := by
  rcases h with ⟨hz, h⟩ | ⟨_, h, hn⟩
  · rcases hw0 with ⟨hw1, hw2⟩ | hw0
    · have hw := wd_f hw1 (rsq_lim h).1 (rsq_0 h).2 hw2
      exact rsq_flt h (by decide) (by decide) (fun p v ρ q w => gD_c9.trans ((cI_t hk).trans (cI_f (fun a => by rcases a with a | a; omega; exact hw a.2))))
    · omega
  · exact rsq_flt h (by decide) (by decide) (fun p v ρ q w => gD_c12.trans ((cI_f (fun a => hn ⟨a.1, by have := w (Or.inr a.1); omega⟩)).trans (cI_t hk)))
theorem of_eq_w {lim pos kind place value frm fault r y z g d p ans : Int} {T A : Int → Int} (h : zOIw lim pos kind place value frm fault r T A y z g d) (hk : kind = 1) (hw0 : WQw kind pos lim frm T ans) (ha : ans ≠ 0) (hz : z ≤ 0) (hp : p = pos) : zTS10w lim fault r T A y g d p := by
  rw [hp]
  rcases h with ⟨_, h⟩ | ⟨_, h, hn⟩
  · have hw := wd_t hw0 (rsq_lim h).1 (rsq_0 h).2 ha
    exact rsq_go h (by decide) (fun p v ρ q w => ⟨ρ, gD_c9.trans ((cI_t hk).trans (cI_t (Or.inr ⟨by omega, hw⟩))), q⟩)
  · omega
theorem of_nk_w {lim pos kind place value frm fault fp r y g d : Int} {T A : Int → Int} (h : zO11w lim pos kind place value frm fault fp r T A y g d) (h0 : fault = 0) (hk : kind ≠ 2) : FSX lim T 1 place := by
  rcases h with h | h
  · have := h.1; omega
  · exact rsq_flt h (by decide) (by decide) (fun p v ρ q w => gD_c11.trans (cI_f hk))
theorem of_nv_w {lim pos kind place value frm fault fp r y g d : Int} {T A : Int → Int} (h : zO11w lim pos kind place value frm fault fp r T A y g d) (h0 : fault = 0) (hk : kind = 2) (hv : ¬ (1 ≤ value ∧ value ≤ 9)) : FSX lim T 5 place := by
  rcases h with h | h
  · have := h.1; omega
  · exact rsq_flt h (by decide) (by decide) (fun p v ρ q w => gD_c11.trans ((cI_t hk).trans (cI_f (fun a => by rw [if_neg (show ¬ (0 : Int) ≤ -1 by decide)] at a; have := w (Or.inl hk); exact hv ⟨by omega, by omega⟩))))
theorem of_val_w {lim pos kind place value frm fault fp r y z g d p : Int} {T A : Int → Int} (h : zO11w lim pos kind place value frm fault fp r T A y g d) (h0 : fault = 0) (hk : kind = 2) (hv : 1 ≤ value ∧ value ≤ 9) (hz : z = value) (hp : p = pos) : zU12w lim fault r T A y z g d p := by
  rw [hp]
  rcases h with h | h
  · have := h.1; omega
  · exact ⟨by omega, rsq_go h (by decide) (fun p v ρ q w => ⟨ρ, by rw [gD_c11.trans ((cI_t hk).trans (cI_t (by rw [if_neg (show ¬ (0 : Int) ≤ -1 by decide)]; have := w (Or.inl hk); omega)))]; rw [w (Or.inl hk), hz], q⟩)⟩
theorem of_12_w {lim pos kind place value frm fault r y z g d p : Int} {T A : Int → Int} (h : zU12w lim fault r T A y z g d p) (k : TKR lim pos kind place value frm T p) : zO12w lim pos kind place value frm fault r T A y z g d := by
  exact ⟨h.1, rsq_of h.2 k⟩
theorem of_back_w {lim pos kind place value frm fault r y z g d ans c : Int} {T A : Int → Int} (h : zO12w lim pos kind place value frm fault r T A y z g d) (s : SGQ fault kind value c ans) (hc : c = 93) (ha : ans = 0) : zOIw lim pos kind place value frm fault r T A y z g d := by
  refine Or.inr ⟨h.1, h.2, fun q => ?_⟩
  rcases s with s | s
  · omega
  · exact s.2 ⟨h.2.1, q.1, by omega⟩
theorem of_end_w {lim pos kind place value frm fault r y z g d : Int} {T A : Int → Int} (h : zO12w lim pos kind place value frm fault r T A y z g d) (s : fault ≠ 0 ∨ (fault = 0 ∧ kind = 3 ∧ value = 93)) : zNbw lim pos kind place value frm fault r T A y z g d := by
  have f0 := h.2.1
  rcases s with s | s
  · exact absurd f0 s
  · exact ⟨h, s.2.1, s.2.2⟩
theorem nb_w {lim pos kind place value frm fault r y z g d p : Int} {T A : Int → Int} (h : zNbw lim pos kind place value frm fault r T A y z g d) (hp : p = pos) : zTP13w lim fault r T A y z g d p := by
  rw [hp]
  refine rsq_go h.1.2 (by decide) (fun p v ρ q w => ⟨swR ρ y z, ?_, ρ, q, rfl⟩)
  rw [gD_c12.trans (cI_t ⟨h.2.1, by have := w (Or.inr h.2.1); have := h.2.2; omega⟩)]
  rw [if_neg (show ¬ (0 : Int) ≤ -1 by decide)]
theorem it_size {lim pos kind place value frm fault fp r x g d ans a b : Int} {T A A1 : Int → Int} (h : zOFs lim pos kind place value frm fault fp r T A x ans g d) (h0 : fault = 0) (ha : 0 < ans) (hr0 : 0 ≤ r) (hx : 0 ≤ x) (s : st1 A A1 a b) (e1 : a = r + 219 + x) (e2 : b = ans) : zONs lim pos kind place value frm fault fp r T A1 g d := by
  rcases h with h | h | h
  · omega
  · omega
  · refine Or.inr (ns_13 (rsq_imp h.2 (fun ρ q => ?_)))
    obtain ⟨ρ', q1, q2⟩ := q
    rw [q2, ← e2]
    exact rpr_put q1 hr0 s (by omega) (by omega)
theorem it_nosize {lim pos kind place value frm fault fp r x g d ans : Int} {T A : Int → Int} (h : zOFs lim pos kind place value frm fault fp r T A x ans g d) (h0 : fault ≠ 0 ∨ ans ≤ 0) : zONs lim pos kind place value frm fault fp r T A g d := by
  rcases h with h | h | h
  · exact Or.inl h.2
  · exact Or.inr (ns_2 h.2.1 h.2.2)
  · have := h.2.1; omega
theorem ed_no {lim pos kind place value frm fault fp r x g d : Int} {T A : Int → Int} (h : zOS3 lim pos kind place value frm fault fp r T A x g d) (h0 : fault = 0) (hn : ¬ (kind = 3 ∧ (value = 45 ∨ value = 62))) : FSX lim T 1 place := by
  rcases h with h | h
  · have := h.1; omega
  · exact rsq_flt h (by decide) (by decide) (fun p v ρ q w => gD_c3.trans (cI_f (fun a => hn ⟨a.1, by have := w (Or.inr a.1); omega⟩)))
theorem ed_head {lim pos kind place value frm fault fp r x y g d : Int} {T A : Int → Int} (h : zOS3 lim pos kind place value frm fault fp r T A x g d) (hy : y = A (r + 1)) (h0 : fault ≠ 0 ∨ (kind = 3 ∧ (value = 45 ∨ value = 62))) : zOSL lim pos kind place value frm fault fp r T A x y g d := by
  rcases h with h | h
  · exact Or.inl h
  · rcases h0 with q | q
    · exact absurd h.1 q
    · rw [hy]; exact Or.inr (Or.inr ⟨h, q⟩)
theorem ed_next {lim pos kind place value frm fault fp r x y z g d p : Int} {T A : Int → Int} (h : zOSL lim pos kind place value frm fault fp r T A x y g d) (h0 : fault = 0) (hk : kind = 3) (hv : value = 45 ∨ value = 62) (hz1 : value = 62 → z = 1) (hz0 : value ≠ 62 → z = 0) (hp : p = pos) : zTS4 lim fault r T A x y z g d p := by
  rw [hp]
  have key : ∀ v : Int, v = value → (if v = 62 then (1 : Int) else 0) = z := fun v e => by
    rw [e]
    by_cases q : value = 62
    · rw [if_pos q, hz1 q]
    · rw [if_neg q, hz0 q]
  rcases h with h | h | ⟨h, _⟩
  · have := h.1; omega
  · exact rsq_go h (by decide) (fun p v ρ q w => ⟨ρ, by rw [gD_c8.trans (cI_t ⟨hk, by have := w (Or.inr hk); omega⟩), key v (w (Or.inr hk))], q⟩)
  · exact rsq_go h (by decide) (fun p v ρ q w => ⟨ρ, by rw [gD_c3.trans (cI_t ⟨hk, by have := w (Or.inr hk); omega⟩), key v (w (Or.inr hk))], q⟩)
theorem ed_ob {lim pos kind place value frm fault fp r x y g d : Int} {T A : Int → Int} (h : zOSL lim pos kind place value frm fault fp r T A x y g d) (h0 : fault = 0 → ¬ (kind = 3 ∧ (value = 45 ∨ value = 62))) : zOBw lim pos kind place value frm fault fp r T A y g d := by
  rcases h with h | h | ⟨h, q⟩
  · exact Or.inl h
  · exact Or.inr ⟨⟨x, h⟩, h0 h.1⟩
  · exact absurd q (h0 h.1)
theorem ed_w0 {lim pos kind place value frm fault fp r y z g d ans e : Int} {T A : Int → Int} (h : zOFw lim pos kind place value frm fault fp r T A y ans g d) (e1 : z = ans) (e2 : e = y) : zOWQ lim pos kind place value frm fault fp r T A y z e g d := by
  rw [e1, e2]
  rcases h with h | h | h
  · exact Or.inl ⟨h.2.1, h.2⟩
  · obtain ⟨h1, ⟨x, h2⟩, h3⟩ := h
    exact Or.inr (Or.inl ⟨h2.1, h1, ⟨x, h2⟩, h3⟩)
  · refine Or.inr (Or.inr ⟨h.2.1, h.1, rsq_imp h.2 (fun ρ q => ?_)⟩)
    obtain ⟨ρ', q1, q2⟩ := q
    refine ⟨ρ', q2, (q1 1 (by omega) (by omega)).symm, Or.inl rfl, fun j j0 j1 => ?_⟩
    rw [if_neg (by omega)]
    exact q1 j j0 j1
theorem ed_w1 {lim pos kind place value frm fault fp r y z g d a b c e : Int} {T A A1 : Int → Int} (h : zOWQ lim pos kind place value frm fault fp r T A y z e g d) (h0 : fault = 0) (hz : 0 < z) (hr0 : 0 ≤ r) (hy : 0 ≤ y ∧ y ≤ e) (he : e < A (r + 1)) (h48 : A (r + 1) ≤ 48) (s : st1 A A1 a b) (e1 : a = r + 363 + e) (e2 : b = z) (e3 : c = e + 1) : zOWQ lim pos kind place value frm fault fp r T A1 y z c g d := by
  rcases h with h | h | h
  · omega
  · omega
  · refine Or.inr (Or.inr ⟨h0, hz, rsq_imp h.2.2 (fun ρ q => ?_)⟩)
    obtain ⟨ρ', q1, q2, q4, q3⟩ := q
    have q5 : A1 (r + 1) = A (r + 1) := (s (r + 1) (by omega)).2 (by omega)
    refine ⟨ρ', q1, by rw [q2]; exact ((s (r + 1) (by omega)).2 (by omega)).symm, Or.inr (by omega), fun j j0 j1 => ?_⟩
    by_cases w : j = 363 + e
    · rw [if_pos (by omega), (s (r + j) (by omega)).1 (by omega), e2]
    · rw [(s (r + j) (by omega)).2 (by omega), q3 j j0 j1]
      by_cases w2 : 363 + y ≤ j ∧ j < 363 + e
      · rw [if_pos w2, if_pos (by omega)]
      · rw [if_neg w2, if_neg (by omega)]
theorem ed_w2 {lim pos kind place value frm fault fp r y z g d e : Int} {T A : Int → Int} (h : zOWQ lim pos kind place value frm fault fp r T A y z e g d) (h0 : fault ≠ 0 ∨ z ≤ 0 ∨ A (r + 1) ≤ e) : zONs lim pos kind place value frm fault fp r T A g d := by
  rcases h with h | ⟨a0, a1, ⟨x, a2⟩, a3⟩ | h
  · exact Or.inl h.2
  · exact Or.inr (ns_8 a2 a3)
  · refine Or.inr (ns_13 (rsq_imp h.2.2 (fun ρ q => ?_)))
    obtain ⟨ρ', q1, q2, q4, q3⟩ := q
    have hz := h.2.1
    have hf := h.1
    refine fun j j0 j1 => ?_
    rw [q3 j j0 j1, q1]
    by_cases w2 : 363 + y ≤ j ∧ j < 363 + e
    · rw [if_pos w2]; exact (if_pos (by omega)).symm
    · rw [if_neg w2]; exact (if_neg (by omega)).symm
theorem ne_8 {p1 v1 p2 v2 p3 v3 p4 v4 p5 v5 : Int} {lim pos kind place value frm fault r x y z g d w : Int} {T A A1 A2 A3 A4 A5 : Int → Int} (h : zRP8 lim pos kind place value frm fault r T A x y w z g d) (hr : 0 ≤ r) (s1 : st1 A A1 p1 v1) (s2 : st1 A1 A2 p2 v2) (s3 : st1 A2 A3 p3 v3) (s4 : st1 A3 A4 p4 v4) (s5 : st1 A4 A5 p5 v5) (e1 : p1 = r + 1) (w1 : v1 = A p1 + 1) (e2 : p2 = r + 267 + A (r + 1)) (w2 : v2 = w) (e3 : p3 = r + 315 + A (r + 1)) (w3 : v3 = x) (e4 : p4 = r + 363 + A (r + 1)) (w4 : v4 = 1) (e5 : p5 = r + 411 + A (r + 1)) (w5 : v5 = z) (h1 : 0 ≤ A (r + 1)) : zRS8 lim pos kind place value frm fault r T A5 x y g d := by
  refine rsq_imp h (fun ρ q => ?_)
  obtain ⟨ρ', q1, q2⟩ := q
  rw [q2]
  exact rpr_ne q1 hr (by rw [← q1 1 (by omega) (by omega)]; exact h1) s1 s2 s3 s4 s5 e1 w1 e2 w2 e3 w3 e4 w4 e5 w5
def CLZ (A : Int → Int) (r : Int) : Prop := ∀ j, 0 ≤ j → j < 539 → A (r + j) = r0R j
def ZEN (lim r : Int) (T A : Int → Int) : Prop := ∃ (m : Nat) (ρ : Int → Int), GR T lim m (101, 0, 0, 0, 0, 0, 0, ρ) ∧ RPR A r ρ
/-- what reading n bytes gives -/
def zRDA (T : Int → Int) (n f p a : Int) : Prop := (0 < f ∧ a = -1 ∧ ∃ m : Nat, GR T n m (gF f p)) ∨ (f = 0 ∧ ∃ (m : Nat) (ρ : Int → Int), GR T n m (101, 0, 0, 0, 0, 0, 0, ρ) ∧ a = ρ 0)
def RDM (f p : Int) (T : Int → Int) (g n L a : Int) : Prop := (¬ (0 ≤ g ∧ g ≤ 3 ∧ 0 ≤ n ∧ n ≤ L) ∧ a = -2) ∨ ((0 ≤ g ∧ g ≤ 3 ∧ 0 ≤ n ∧ n ≤ L) ∧ zRDA T n f p a)
theorem tz_start {lim fault r p : Int} {T A : Int → Int} (h : CLZ A r) (h0 : fault = 0) (hp : p = 0) : zTSZ lim fault r T A p := by
  exact ⟨h0, 0, r0R, by rw [hp]; rfl, h⟩
theorem z_item {lim pos kind place value frm fault fp r g d : Int} {T A : Int → Int} (h : zOSZ lim pos kind place value frm fault fp r T A) (h0 : fault = 0) (hk : kind ≠ 0) (hg : g = 0) (hd : d = 0) : zRSI lim pos kind place value frm fault r T A g d := by
  rw [hg, hd]
  rcases h with h | h
  · have := h.1; omega
  · exact ⟨h, fun q => hk q.1, fun q => by omega⟩
theorem z_back {lim pos kind place value frm fault fp r g d : Int} {T A : Int → Int} (h : zOS0 lim pos kind place value frm fault fp r T A g d) (hg : g = 0) (hd : d = 0) : zOSZ lim pos kind place value frm fault fp r T A := by
  rw [hg, hd] at h; exact h
theorem z_end {lim pos kind place value frm fault fp r : Int} {T A : Int → Int} (h : zOSZ lim pos kind place value frm fault fp r T A) (h0 : fault = 0) (hk : kind = 0) : ZEN lim r T A := by
  rcases h with h | h
  · have := h.1; omega
  · obtain ⟨f0, f1, m, ρ, p, v, g1, q, g3, g4⟩ := h
    exact ⟨m + 1, ρ, ⟨_, g1, (show (0 : Int) < 100 by decide), kind, place, pos, v, g3, (gD_c0.trans (cI_t ⟨hk, rfl⟩)).symm⟩, q⟩
theorem z_flt {lim pos kind place value frm fault fp r : Int} {T A : Int → Int} (h : zOSZ lim pos kind place value frm fault fp r T A) (h0 : fault ≠ 0) : FS lim fault fp T := by
  rcases h with h | h
  · exact h
  · exact absurd h.1 h0
theorem z_rdf {lim fault fp g a b c : Int} {T : Int → Int} (h : FS lim fault fp T) (hn : lim = b) (hq : 0 ≤ g ∧ g ≤ 3 ∧ 0 ≤ b ∧ b ≤ c) (ha : a = -1) : RDM fault fp T g b c a := by
  rw [hn] at h
  exact Or.inr ⟨hq, Or.inl ⟨h.1, ha, h.2⟩⟩
theorem z_rde {lim fault fp r g a b c : Int} {T A : Int → Int} (h : ZEN lim r T A) (h0 : fault = 0) (hn : lim = b) (hq : 0 ≤ g ∧ g ≤ 3 ∧ 0 ≤ b ∧ b ≤ c) (ha : a = A (r + 0)) : RDM fault fp T g b c a := by
  rw [hn] at h
  obtain ⟨m, ρ, h1, h2⟩ := h
  exact Or.inr ⟨hq, Or.inr ⟨h0, m, ρ, h1, by rw [ha]; exact h2 0 (by omega) (by omega)⟩⟩
end
section
-- texts that are the same give the same
theorem w4_ext {t t_zq : Int → Int} {b e a0 a1 a2 a3 : Int} (h : ∀ j, b ≤ j → j < e → t j = t_zq j) (q : tkW4 t b e a0 a1 a2 a3) : tkW4 t_zq b e a0 a1 a2 a3 := by
  obtain ⟨q, q0, q1, q2, q3⟩ := q
  exact ⟨q, by rw [← h b (by omega) (by omega)]; exact q0, by rw [← h (b + 1) (by omega) (by omega)]; exact q1, by rw [← h (b + 2) (by omega) (by omega)]; exact q2, by rw [← h (b + 3) (by omega) (by omega)]; exact q3⟩
theorem wg_ext {t t_zq : Int → Int} {k b e : Int} (h : ∀ j, b ≤ j → j < e → t j = t_zq j) (q : isWg t k b e) : isWg t_zq k b e := by
  obtain ⟨k1, q, q0, q1, q2, q3, q4⟩ := q
  exact ⟨k1, q, by rw [← h b (by omega) (by omega)]; exact q0, by rw [← h (b + 1) (by omega) (by omega)]; exact q1, by rw [← h (b + 2) (by omega) (by omega)]; exact q2, by rw [← h (b + 3) (by omega) (by omega)]; exact q3, by rw [← h (b + 4) (by omega) (by omega)]; exact q4⟩
theorem ww_ext {t t_zq : Int → Int} {k b e : Int} (h : ∀ j, b ≤ j → j < e → t j = t_zq j) (q : isWw t k b e) : isWw t_zq k b e := by
  obtain ⟨k1, q, q0, q1, q2, q3, q4, q5⟩ := q
  exact ⟨k1, q, by rw [← h b (by omega) (by omega)]; exact q0, by rw [← h (b + 1) (by omega) (by omega)]; exact q1, by rw [← h (b + 2) (by omega) (by omega)]; exact q2, by rw [← h (b + 3) (by omega) (by omega)]; exact q3, by rw [← h (b + 4) (by omega) (by omega)]; exact q4, by rw [← h (b + 5) (by omega) (by omega)]; exact q5⟩
theorem nm_ext {t t_zq ρ : Int → Int} {i b e : Int} (h : ∀ j, b ≤ j → j < e → t j = t_zq j) (q : nmR t ρ i b e) : nmR t_zq ρ i b e := ⟨q.1, fun k a c => by rw [← h (b + k) (by omega) (by omega)]; exact q.2 k a c⟩
theorem knR_ext {t t_zq ρ : Int → Int} {b e : Int} (h : ∀ j, b ≤ j → j < e → t j = t_zq j) : knR t ρ b e = knR t_zq ρ b e := by
  have hs : ∀ j, b ≤ j → j < e → t_zq j = t j := fun j a c => (h j a c).symm
  have z : KN t ρ b e = KN t_zq ρ b e := funext fun i => propext (by
    constructor
    · rintro (⟨a, q⟩ | ⟨a0, a1, a2, q⟩)
      · exact Or.inl ⟨a, fun j x y w => q j x y (nm_ext hs w)⟩
      · exact Or.inr ⟨a0, a1, nm_ext h a2, fun j x y w => q j x y (nm_ext hs w)⟩
    · rintro (⟨a, q⟩ | ⟨a0, a1, a2, q⟩)
      · exact Or.inl ⟨a, fun j x y w => q j x y (nm_ext h w)⟩
      · exact Or.inr ⟨a0, a1, nm_ext hs a2, fun j x y w => q j x y (nm_ext h w)⟩)
  unfold knR
  rw [z]
theorem rnR_ext {t t_zq ρ : Int → Int} {j b n : Int} (h : ∀ i, b ≤ i → i < b + n → t i = t_zq i) : rnR ρ t j b n = rnR ρ t_zq j b n := funext fun i => by
  by_cases q : j ≤ i ∧ i < j + n
  · rw [rnR_t q, rnR_t q]; exact h _ (by omega) (by omega)
  · rw [rnR_e q, rnR_e q]
theorem gD_ext {t t_zq : Int → Int} {S : zS} {k b e v : Int} (h : ∀ j, b ≤ j → j < e → t j = t_zq j) : gD t S k b e v = gD t_zq S k b e v := by
  have hs : ∀ j, b ≤ j → j < e → t_zq j = t j := fun j a c => (h j a c).symm
  have e1 : isWn t k b e = isWn t_zq k b e := propext ⟨fun q => ⟨q.1, w4_ext h q.2⟩, fun q => ⟨q.1, w4_ext hs q.2⟩⟩
  have e2 : isWg t k b e = isWg t_zq k b e := propext ⟨wg_ext h, wg_ext hs⟩
  have e3 : isWs t k b e = isWs t_zq k b e := propext ⟨fun q => ⟨q.1, w4_ext h q.2⟩, fun q => ⟨q.1, w4_ext hs q.2⟩⟩
  have e4 : isWw t k b e = isWw t_zq k b e := propext ⟨ww_ext h, ww_ext hs⟩
  have e5 : isNm t k b e = isNm t_zq k b e := by unfold isNm; rw [e1, e2]
  have e6 : ∀ ρ, knR t ρ b e = knR t_zq ρ b e := fun ρ => knR_ext h
  have e7 : ∀ ρ g, nnR t ρ b e g = nnR t_zq ρ b e g := fun ρ g => by unfold nnR; rw [rnR_ext (fun i a c => h i a (by omega))]
  have e8 : ∀ ρ g, ngR t ρ b e g = ngR t_zq ρ b e g := fun ρ g => by unfold ngR; rw [rnR_ext (fun i a c => h i a (by omega))]
  obtain ⟨c, x, y, z, g, d, p, ρ⟩ := S
  unfold gD gM
  simp only [e1, e2, e3, e4, e5, e6, e7, e8]
theorem tke_ext {P : Int → Prop} {t t_zq : Int → Int} {n b e : Int} (h : ∀ j, b ≤ j → j < n → t j = t_zq j) (q : tkE P t n b e) : tkE P t_zq n b e := by
  obtain ⟨a1, a2, a3, a4⟩ := q
  refine ⟨a1, a2, fun j x y => by rw [← h j x (by omega)]; exact a3 j x y, ?_⟩
  by_cases w : e = n
  · exact Or.inl w
  · refine Or.inr ?_
    rcases a4 with z | z
    · exact absurd z w
    · rw [← h e (by omega) (by omega)]; exact z
theorem tk_ext {t t_zq : Int → Int} {n p k b e v : Int} (h : ∀ j, p ≤ j → j < n → t j = t_zq j) (q : TK t n p k b e v) : TK t_zq n p k b e v := by
  obtain ⟨a1, a2, a3, a4⟩ := q
  refine ⟨a1, a2, fun j x y => by rw [← h j x (by omega)]; exact a3 j x y, ?_⟩
  rcases a4 with z | ⟨z1, z2, z3⟩
  · exact Or.inl z
  · have hb := h b a1 z1
    have hE : ∀ {P : Int → Prop}, tkE P t n b e → tkE P t_zq n b e := fun w => tke_ext (fun j x y => h j (by omega) y) w
    refine Or.inr ⟨z1, by rw [← hb]; exact z2, ?_⟩
    rcases z3 with ⟨w1, w2, w3⟩ | ⟨w1, w2, w3⟩ | ⟨w1, w2, w3, w4⟩
    · exact Or.inl ⟨by rw [← hb]; exact w1, hE w2, w3⟩
    · refine Or.inr (Or.inl ⟨by rw [← hb]; exact w1, hE w2, ?_⟩)
      rcases w3 with ⟨y1, y2, y3⟩ | y
      · refine Or.inl ⟨y1, y2, ?_⟩
        have l1 := w2.1
        have l2 := w2.2.1
        rw [y3]
        unfold tkV
        by_cases q1 : e = b + 1
        · rw [if_pos q1, if_pos q1, hb]
        · rw [if_neg q1, if_neg q1]
          have h1 := h (b + 1) (by omega) (by omega)
          by_cases q2 : e = b + 2
          · rw [if_pos q2, if_pos q2, hb, h1]
          · rw [if_neg q2, if_neg q2, hb, h1, h (b + 2) (by omega) (by omega)]
      · exact Or.inr y
    · exact Or.inr (Or.inr ⟨by rw [← hb]; exact w1, by rw [← hb]; exact w2, w3, by rw [← hb]; exact w4⟩)
theorem gM_pos {M : zS → Prop} {t ρ : Int → Int} {g b e : Int} {K : Int → (Int → Int) → zS} (h1 : ∀ i ρ', M (K i ρ')) (h2 : M (gF 3 b)) : M (gM t ρ g b e K) := by
  unfold gM
  exact cI_e (fun _ => h1 _ _) (fun _ => cI_e (fun _ => h2) (fun _ => h1 _ _))
def PZ (S : zS) : Prop := S.1 = 100 ∨ S.1 = 101 ∨ 0 ≤ S.2.2.2.2.2.2.1
theorem gD_pos {t : Int → Int} {S : zS} {k b e v : Int} (he : 0 ≤ e) (hp : 0 ≤ S.2.2.2.2.2.2.1) : PZ (gD t S k b e v) := by
  obtain ⟨c, x, y, z, g, d, p, ρ⟩ := S
  have s0 : ∀ {c_zq x_zq y_zq z_zq g_zq d_zq : Int} {ρ' : Int → Int}, PZ (c_zq, x_zq, y_zq, z_zq, g_zq, d_zq, e, ρ') := Or.inr (Or.inr he)
  have f0 : ∀ {f : Int}, PZ (gF f b) := Or.inl rfl
  unfold gD
  refine cI_e (M := PZ) (fun _ => (cI_e (M := PZ) (fun _ => Or.inr (Or.inl rfl)) (fun _ => (cI_e (M := PZ) (fun _ => s0) (fun _ => (cI_e (M := PZ) (fun _ => s0) (fun _ => (cI_e (M := PZ) (fun _ => (cI_e (M := PZ) (fun _ => f0) (fun _ => s0))) (fun _ => (cI_e (M := PZ) (fun _ => gM_pos (M := PZ) (fun _ _ => s0) f0) (fun _ => f0))))))))))) (fun _ => ?_)
  refine cI_e (M := PZ) (fun _ => (cI_e (M := PZ) (fun _ => gM_pos (M := PZ) (fun _ _ => s0) f0) (fun _ => f0))) (fun _ => ?_)
  refine cI_e (M := PZ) (fun _ => (cI_e (M := PZ) (fun _ => s0) (fun _ => (cI_e (M := PZ) (fun _ => s0) (fun _ => f0))))) (fun _ => ?_)
  refine cI_e (M := PZ) (fun _ => (cI_e (M := PZ) (fun _ => s0) (fun _ => f0))) (fun _ => ?_)
  refine cI_e (M := PZ) (fun _ => (cI_e (M := PZ) (fun _ => (cI_e (M := PZ) (fun _ => f0) (fun _ => (cI_e (M := PZ) (fun _ => f0) (fun _ => gM_pos (M := PZ) (fun _ _ => s0) f0))))) (fun _ => f0))) (fun _ => ?_)
  refine cI_e (M := PZ) (fun _ => (cI_e (M := PZ) (fun _ => s0) (fun _ => f0))) (fun _ => ?_)
  refine cI_e (M := PZ) (fun _ => (cI_e (M := PZ) (fun _ => s0) (fun _ => f0))) (fun _ => ?_)
  refine cI_e (M := PZ) (fun _ => (cI_e (M := PZ) (fun _ => s0) (fun _ => (cI_e (M := PZ) (fun _ => s0) (fun _ => (cI_e (M := PZ) (fun _ => s0) (fun _ => f0))))))) (fun _ => ?_)
  refine cI_e (M := PZ) (fun _ => (cI_e (M := PZ) (fun _ => (cI_e (M := PZ) (fun _ => s0) (fun _ => f0))) (fun _ => f0))) (fun _ => ?_)
  refine cI_e (M := PZ) (fun _ => (cI_e (M := PZ) (fun _ => s0) (fun _ => f0))) (fun _ => ?_)
  refine cI_e (M := PZ) (fun _ => (cI_e (M := PZ) (fun _ => (cI_e (M := PZ) (fun _ => s0) (fun _ => f0))) (fun _ => f0))) (fun _ => ?_)
  refine cI_e (M := PZ) (fun _ => (cI_e (M := PZ) (fun _ => s0) (fun _ => (cI_e (M := PZ) (fun _ => f0) (fun _ => f0))))) (fun _ => ?_)
  refine cI_e (M := PZ) (fun _ => (cI_e (M := PZ) (fun _ => s0) (fun _ => f0))) (fun _ => ?_)
  exact Or.inr (Or.inr hp)
theorem gr_ext {T T_zq : Int → Int} {n : Int} (h : ∀ j, 0 ≤ j → j < n → T j = T_zq j) : ∀ {m : Nat} {S : zS}, GR T n m S → S.1 = 100 ∨ S.1 = 101 ∨ 0 ≤ S.2.2.2.2.2.2.1
  | 0, _, q => by rw [show _ = _ from q]; exact Or.inr (Or.inr (by decide))
  | m + 1, _, ⟨S1, h1, hc, k, b, e, v, hk, hs⟩ => by
    have i1 := gr_ext h h1
    have hp : 0 ≤ S1.2.2.2.2.2.2.1 := by
      rcases i1 with z | z | z
      · omega
      · omega
      · exact z
    have hl := tk_lim hk
    have he : 0 ≤ e := by have := hk.1; omega
    rw [hs]
    exact gD_pos he hp
theorem gr_cg {T T_zq : Int → Int} {n : Int} (h : ∀ j, 0 ≤ j → j < n → T j = T_zq j) : ∀ {m : Nat} {S : zS}, GR T n m S → GR T_zq n m S
  | 0, _, q => q
  | m + 1, _, ⟨S1, h1, hc, k, b, e, v, hk, hs⟩ => by
    have hp : 0 ≤ S1.2.2.2.2.2.2.1 := by
      rcases gr_ext h h1 with z | z | z
      · omega
      · omega
      · exact z
    have hl := tk_lim hk
    have hb := hk.1
    refine ⟨S1, gr_cg h h1, hc, k, b, e, v, tk_ext (fun j x y => h j (by omega) y) hk, ?_⟩
    rw [hs]
    exact gD_ext (fun j x y => h j (by omega) (by omega))
theorem rda_eq {T T_zq : Int → Int} {n f p a f_zq p_zq a_zq : Int} (h : ∀ j, 0 ≤ j → j < n → T j = T_zq j) (q : zRDA T n f p a) (q_zq : zRDA T_zq n f_zq p_zq a_zq) : a = a_zq ∧ f = f_zq ∧ (f ≠ 0 → p = p_zq) := by
  have hs : ∀ j, 0 ≤ j → j < n → T_zq j = T j := fun j x y => (h j x y).symm
  rcases q with ⟨f0, a0, m, g⟩ | ⟨f0, m, ρ, g, a0⟩
  · rcases q_zq with ⟨f0_zq, a0_zq, m_zq, g_zq⟩ | ⟨f0_zq, m_zq, ρ', g_zq, a0_zq⟩
    · have z := gr_end g (gr_cg hs g_zq) (show (100 : Int) ≤ 100 by decide) (show (100 : Int) ≤ 100 by decide)
      have z1 : f = f_zq := congrArg (fun S : zS => S.2.1) z
      have z2 : p = p_zq := congrArg (fun S : zS => S.2.2.1) z
      exact ⟨by omega, z1, fun _ => z2⟩
    · have z := gr_end g (gr_cg hs g_zq) (show (100 : Int) ≤ 100 by decide) (show (100 : Int) ≤ 101 by decide)
      have z1 : (100 : Int) = 101 := congrArg (fun S : zS => S.1) z
      exact absurd z1 (by decide)
  · rcases q_zq with ⟨f0_zq, a0_zq, m_zq, g_zq⟩ | ⟨f0_zq, m_zq, ρ', g_zq, a0_zq⟩
    · have z := gr_end g (gr_cg hs g_zq) (show (100 : Int) ≤ 101 by decide) (show (100 : Int) ≤ 100 by decide)
      have z1 : (101 : Int) = 100 := congrArg (fun S : zS => S.1) z
      exact absurd z1 (by decide)
    · have z := gr_end g (gr_cg hs g_zq) (show (100 : Int) ≤ 101 by decide) (show (100 : Int) ≤ 101 by decide)
      have z1 : ρ = ρ' := congrArg (fun S : zS => S.2.2.2.2.2.2.2) z
      exact ⟨by rw [a0, a0_zq, z1], by omega, fun w => absurd f0 w⟩
end
section
-- small change for the reader's goals
def ZH0 (n : Int) : Prop := n ≤ 0 ∧ 0 ≤ n ∧ True
theorem fsx_cg {lim f p f_zq p_zq : Int} {T : Int → Int} (h : FSX lim T f p) (e1 : f_zq = f) (e2 : p_zq = p) : FSX lim T f_zq p_zq := by rw [e1, e2]; exact h
theorem fs_n {lim fault fp : Int} {T : Int → Int} (h : fault ≤ 0) : ¬ FS lim fault fp T := fun q => by have := q.1; omega
theorem fs_w {lim fault fp f p n : Int} {T : Int → Int} (h : FSX lim T f p) (z : ZH0 n) (w : (1 ≤ n ∧ fault = n) ∨ (n = 0 ∧ (fault = f ∧ fp = p))) : FS lim fault fp T := by
  obtain ⟨z1, z2, _⟩ := z
  have hf := h.1
  exact fs_of h (by omega) (by omega)
theorem sgq_f {fault kind value c ans C : Int} (h : SGQ fault kind value c ans) (a : ans = 0) (f : fault = 0) (e : c = C) : ¬ (kind = 3 ∧ value = C) := by
  rcases h with h | h
  · omega
  · exact fun q => h.2 ⟨f, q.1, by omega⟩
theorem sgq_t {fault kind value c ans C : Int} (h : SGQ fault kind value c ans) (a : ans ≠ 0) (e : c = C) : fault = 0 ∧ kind = 3 ∧ value = C := by
  rcases h with h | h
  · omega
  · omega
theorem sgq_i {fault kind value c ans C : Int} (h : SGQ fault kind value c ans) (e : c = C) : (ans = 0 ∧ (fault = 0 → ¬ (kind = 3 ∧ value = C))) ∨ (ans ≠ 0 ∧ fault = 0 ∧ kind = 3 ∧ value = C) := by
  rcases h with h | h
  · exact Or.inr ⟨by omega, h.2.1, h.2.2.1, by omega⟩
  · exact Or.inl ⟨h.1, fun f q => h.2 ⟨f, q.1, by omega⟩⟩
theorem or_l {P Q : Prop} (h : P ∨ Q) (n : ¬ Q) : P := h.resolve_right n
theorem or_r {P Q : Prop} (h : P ∨ Q) (n : ¬ P) : Q := h.resolve_left n
theorem ndq_lim {Q : (Int → Int) → Prop} {lim pos kind place value frm fault C c x y z g d : Int} {T : Int → Int} (h : NDQ Q lim pos kind place value frm fault T C c x y z g d) : pos ≤ lim := by
  obtain ⟨h0, _, m, S, ρ, v, h1, h2, h3, h4, h5, h6⟩ := h
  exact (tk_lim h4).1
def ZFF (n : Int) : Prop := False
def ZLM (lim pos : Int) : Prop := pos ≤ lim
theorem zlm_r {Q : (Int → Int) → Prop} {lim pos kind place value frm fault c x y z g d : Int} {T : Int → Int} (h : RSQ Q lim pos kind place value frm fault T c x y z g d) : ZLM lim pos := (rsq_lim h).1
theorem oi_start_s {lim pos kind place value frm fault r x z g d p : Int} {T A : Int → Int} (h : zU9s lim fault r T A x g d p) (k : TKR lim pos kind place value frm T p) (e : z = 0) : zOIs lim pos kind place value frm fault r T A x z g d := ⟨h.1, Or.inl ⟨e, rsq_of h.2 k⟩⟩
theorem oi_start_w {lim pos kind place value frm fault r y z g d p : Int} {T A : Int → Int} (h : zTS9w lim fault r T A y g d p) (k : TKR lim pos kind place value frm T p) (e : z = 0) : zOIw lim pos kind place value frm fault r T A y z g d := Or.inl ⟨e, rsq_of h k⟩
theorem oi_0_s {lim pos kind place value frm fault r x z g d : Int} {T A : Int → Int} (h : zOIs lim pos kind place value frm fault r T A x z g d) : fault = 0 ∧ ZLM lim pos := by
  rcases h with ⟨_, ⟨_, h⟩ | ⟨_, h, _⟩⟩
  · exact ⟨h.1, zlm_r h⟩
  · exact ⟨h.1, zlm_r h⟩
theorem oi_0_w {lim pos kind place value frm fault r y z g d : Int} {T A : Int → Int} (h : zOIw lim pos kind place value frm fault r T A y z g d) : fault = 0 ∧ ZLM lim pos := by
  rcases h with ⟨_, h⟩ | ⟨_, h, _⟩
  · exact ⟨h.1, zlm_r h⟩
  · exact ⟨h.1, zlm_r h⟩
theorem ob_0_s {lim pos kind place value frm fault fp r x g d : Int} {T A : Int → Int} (h : zOBs lim pos kind place value frm fault fp r T A x g d) (h0 : fault = 0) : ZLM lim pos := zlm_r (or_r h (fs_n (by omega))).2
theorem ob_0_w {lim pos kind place value frm fault fp r y g d : Int} {T A : Int → Int} (h : zOBw lim pos kind place value frm fault fp r T A y g d) (h0 : fault = 0) : ZLM lim pos := by
  obtain ⟨⟨x, q⟩, _⟩ := or_r h (fs_n (by omega))
  exact zlm_r q
theorem o11_0_s {lim pos kind place value frm fault fp r x g d : Int} {T A : Int → Int} (h : zO11s lim pos kind place value frm fault fp r T A x g d) (h0 : fault = 0) : ZLM lim pos := zlm_r (or_r h (fs_n (by omega))).2
theorem o11_0_w {lim pos kind place value frm fault fp r y g d : Int} {T A : Int → Int} (h : zO11w lim pos kind place value frm fault fp r T A y g d) (h0 : fault = 0) : ZLM lim pos := zlm_r (or_r h (fs_n (by omega)))
/-- a byte of a name, read through byteAt -/
theorem rsq_byte {Q : (Int → Int) → Prop} {lim pos kind place value frm fault c x y z g d b q k : Int} {T : Int → Int} (h : RSQ Q lim pos kind place value frm fault T c x y z g d) (k1 : kind = 1) (hb : q + 1 ≤ lim → b = T q % 256) (e : q = frm + k) (k0 : 0 ≤ k) (hk : k < pos - frm) : b = T (frm + k) := by
  have l := rsq_lim h
  have hn := (l.2.2.2 k1).2 (frm + k) (by omega) (by omega)
  have e2 := hb (by omega)
  rw [e2, e]
  unfold tkN tkL tkD at hn
  omega
theorem tk_byte {lim pos frm b q k : Int} {T : Int → Int} (h : (pos ≤ lim ∧ frm ≤ pos) ∧ ∀ j, frm ≤ j → j < pos → tkN (T j)) (hb : q + 1 ≤ lim → b = T q % 256) (e : q = frm + k) (k0 : 0 ≤ k) (hk : k < pos - frm) : b = T (frm + k) := by
  have hn := h.2 (frm + k) (by omega) (by omega)
  have e2 := hb (by omega)
  rw [e2, e]
  unfold tkN tkL tkD at hn
  omega
theorem op0_of {lim pos kind place value frm fault fp r g d x : Int} {T A : Int → Int} (h : zOS0 lim pos kind place value frm fault fp r T A g x) (e : x = d + 1) : zOP0 lim pos kind place value frm fault fp r T A g d := by subst e; exact h
theorem ed_lim {lim pos kind place value frm fault fp r x y g d : Int} {T A : Int → Int} (h : zOSL lim pos kind place value frm fault fp r T A x y g d) (h0 : fault = 0) : ZLM lim pos := by
  rcases h with h | h | h
  · have := h.1; omega
  · exact (rsq_lim h).1
  · exact (rsq_lim h.1).1
theorem ed_back {lim pos kind place value frm fault fp r x y w z g d : Int} {T A : Int → Int} (h : zOP8 lim pos kind place value frm fault fp r T A x y w z g d) (h0 : fault ≠ 0) : zOS0 lim pos kind place value frm fault fp r T A g d := by
  rcases h with h | h
  · exact Or.inl h
  · exact absurd (rsq_0 h).1 h0
def CLI (A : Int → Int) (r i : Int) : Prop := 0 ≤ i ∧ ∀ j, 0 ≤ j → j < i → A (r + j) = 0
theorem cli_0 {A : Int → Int} {r i : Int} (e : i = 0) : CLI A r i := ⟨by omega, fun j a b => by omega⟩
theorem cli_s {A A1 : Int → Int} {r i i_zq p v : Int} (h : CLI A r i) (hr : 0 ≤ r) (s : st1 A A1 p v) (e1 : p = r + i) (e2 : v = 0) (e3 : i_zq = i + 1) : CLI A1 r i_zq := by
  have h0 := h.1
  refine ⟨by omega, fun j a b => ?_⟩
  by_cases w : j = i
  · rw [(s (r + j) (by omega)).1 (by omega), e2]
  · rw [(s (r + j) (by omega)).2 (by omega)]
    exact h.2 j a (by omega)
theorem cli_e {A A1 A2 : Int → Int} {r i p1 v1 p2 v2 : Int} (h : CLI A r i) (hr : 0 ≤ r) (hi : 539 ≤ i) (s1 : st1 A A1 p1 v1) (s2 : st1 A1 A2 p2 v2) (e1 : p1 = r + 2) (w1 : v1 = 1) (e2 : p2 = r + 531) (w2 : v2 = -1) : CLZ A2 r := by
  refine fun j j0 j1 => ?_
  unfold r0R
  by_cases c1 : j = 2
  · rw [if_pos c1, (s2 (r + j) (by omega)).2 (by omega), (s1 (r + j) (by omega)).1 (by omega), w1]
  · rw [if_neg c1]
    by_cases c2 : j = 531
    · rw [if_pos c2, (s2 (r + j) (by omega)).1 (by omega), w2]
    · rw [if_neg c2, (s2 (r + j) (by omega)).2 (by omega), (s1 (r + j) (by omega)).2 (by omega)]
      exact h.2 j j0 (by omega)
end
section
-- the class's reader: states by places; its graph; predicates
def VE (e k : Int) (S : zS) : Prop := S.1 = 100 ∨ S.1 = 101 ∨ (0 ≤ S.1 ∧ S.1 ≤ 13 ∧ S.1 ≠ 6 ∧ S.2.2.2.2.2.2.1 = e ∧ k ≠ 0)
theorem gD_ve {t : Int → Int} {S : zS} {k b e v : Int} (hc : 0 ≤ S.1 ∧ S.1 ≤ 13 ∧ S.1 ≠ 6) : VE e k (gD t S k b e v) := by
  obtain ⟨c, x, y, z, g, d, p, ρ⟩ := S
  have s0 : ∀ {c_zq x_zq y_zq z_zq g_zq d_zq : Int} {ρ' : Int → Int}, (0 ≤ c_zq ∧ c_zq ≤ 13 ∧ c_zq ≠ 6) → k ≠ 0 → VE e k (c_zq, x_zq, y_zq, z_zq, g_zq, d_zq, e, ρ') := fun h hk => Or.inr (Or.inr ⟨h.1, h.2.1, h.2.2, rfl, hk⟩)
  have f0 : ∀ {f : Int}, VE e k (gF f b) := Or.inl rfl
  unfold gD
  refine cI_e (M := VE e k) (fun _ => (cI_e (M := VE e k) (fun _ => Or.inr (Or.inl rfl)) (fun _ => (cI_e (M := VE e k) (fun a => s0 (by decide) (by omega)) (fun _ => (cI_e (M := VE e k) (fun a => s0 (by decide) (by have := a.1; omega)) (fun _ => (cI_e (M := VE e k) (fun a => (cI_e (M := VE e k) (fun _ => f0) (fun _ => s0 (by decide) (by have := a.1; omega)))) (fun _ => (cI_e (M := VE e k) (fun a => gM_pos (M := VE e k) (fun _ _ => s0 (by decide) (by omega)) f0) (fun _ => f0))))))))))) (fun c0 => ?_)
  refine cI_e (M := VE e k) (fun _ => (cI_e (M := VE e k) (fun a => gM_pos (M := VE e k) (fun _ _ => s0 (by decide) (by have := a.1; omega)) f0) (fun _ => f0))) (fun c1 => ?_)
  refine cI_e (M := VE e k) (fun _ => (cI_e (M := VE e k) (fun a => s0 (by decide) (by omega)) (fun _ => (cI_e (M := VE e k) (fun a => s0 (by decide) (by omega)) (fun _ => f0))))) (fun c2 => ?_)
  refine cI_e (M := VE e k) (fun _ => (cI_e (M := VE e k) (fun a => s0 (by decide) (by omega)) (fun _ => f0))) (fun c3 => ?_)
  refine cI_e (M := VE e k) (fun _ => (cI_e (M := VE e k) (fun a => (cI_e (M := VE e k) (fun _ => f0) (fun _ => (cI_e (M := VE e k) (fun _ => f0) (fun _ => gM_pos (M := VE e k) (fun _ _ => s0 (by decide) (by have := a.1; omega)) f0))))) (fun _ => f0))) (fun c4 => ?_)
  refine cI_e (M := VE e k) (fun _ => (cI_e (M := VE e k) (fun a => s0 (by decide) (by have := a.1; omega)) (fun _ => f0))) (fun c5 => ?_)
  refine cI_e (M := VE e k) (fun _ => (cI_e (M := VE e k) (fun a => s0 (by decide) (by omega)) (fun _ => f0))) (fun c7 => ?_)
  refine cI_e (M := VE e k) (fun _ => (cI_e (M := VE e k) (fun a => s0 (by decide) (by omega)) (fun _ => (cI_e (M := VE e k) (fun a => s0 (by decide) (by omega)) (fun _ => (cI_e (M := VE e k) (fun a => s0 (by decide) (by omega)) (fun _ => f0))))))) (fun c8 => ?_)
  refine cI_e (M := VE e k) (fun _ => (cI_e (M := VE e k) (fun a => (cI_e (M := VE e k) (fun _ => s0 (by decide) (by omega)) (fun _ => f0))) (fun _ => f0))) (fun c9 => ?_)
  refine cI_e (M := VE e k) (fun _ => (cI_e (M := VE e k) (fun a => s0 (by decide) (by omega)) (fun _ => f0))) (fun c10 => ?_)
  refine cI_e (M := VE e k) (fun _ => (cI_e (M := VE e k) (fun a => (cI_e (M := VE e k) (fun _ => s0 (by decide) (by omega)) (fun _ => f0))) (fun _ => f0))) (fun c11 => ?_)
  refine cI_e (M := VE e k) (fun _ => (cI_e (M := VE e k) (fun a => s0 (by decide) (by omega)) (fun _ => (cI_e (M := VE e k) (fun _ => f0) (fun _ => f0))))) (fun c12 => ?_)
  refine cI_e (M := VE e k) (fun _ => (cI_e (M := VE e k) (fun a => s0 (by decide) (by omega)) (fun _ => f0))) (fun c13 => ?_)
  exact absurd hc (by show ¬ (0 ≤ c ∧ c ≤ 13 ∧ c ≠ 6); omega)
theorem gr_ve {T : Int → Int} {n : Int} : ∀ {m : Nat} {S : zS}, GR T n m S → S.1 = 100 ∨ S.1 = 101 ∨ (0 ≤ S.1 ∧ S.1 ≤ 13 ∧ S.1 ≠ 6)
  | 0, _, q => by rw [show _ = _ from q]; exact Or.inr (Or.inr (by decide))
  | m + 1, _, ⟨S1, h1, hc, k, b, e, v, hk, hs⟩ => by
    have i1 := gr_ve h1
    rw [hs]
    rcases gD_ve (t := T) (S := S1) (k := k) (b := b) (e := e) (v := v) (by omega) with z | z | z
    · exact Or.inl z
    · exact Or.inr (Or.inl z)
    · exact Or.inr (Or.inr ⟨z.1, z.2.1, z.2.2.1⟩)
/-- the place of a state lies in the text -/
theorem gr_le {T : Int → Int} {n : Int} (hn : 0 ≤ n) : ∀ {m : Nat} {S : zS}, GR T n m S → S.1 < 100 → 0 ≤ S.2.2.2.2.2.2.1 ∧ S.2.2.2.2.2.2.1 ≤ n
  | 0, _, q, _ => by rw [show _ = _ from q]; exact ⟨by show (0 : Int) ≤ 0; omega, hn⟩
  | m + 1, S, ⟨S1, h1, hc, k, b, e, v, hk, hs⟩, hS => by
    have i1 := gr_le hn h1 hc
    have i2 := gr_ve h1
    have hl := tk_lim hk
    have hb := hk.1
    rcases gD_ve (t := T) (S := S1) (k := k) (b := b) (e := e) (v := v) (by omega) with z | z | z
    · rw [← hs] at z; omega
    · rw [← hs] at z; omega
    · rw [← hs] at z; have := z.2.2.2.1; omega
/-- behind a state whose next token ends at e: no place ahead of e -/
theorem gr_ge {T : Int → Int} {n : Int} {m : Nat} {S : zS} {k b e v : Int} (h : GR T n m S) (hk : TK T n S.2.2.2.2.2.2.1 k b e v) : ∀ {a : Nat} {S_zq : zS}, GR T n (m + (a + 1)) S_zq → S_zq.1 < 100 → e ≤ S_zq.2.2.2.2.2.2.1
  | 0, S_zq, ⟨S1, h1, hc, k_zq, b_zq, e_zq, v_zq, hk_zq, hs⟩, hS => by
    have q := gr_det h h1
    subst q
    obtain ⟨-, -, q, -⟩ := tk_det hk hk_zq
    have i2 := gr_ve h1
    rcases gD_ve (t := T) (S := S) (k := k_zq) (b := b_zq) (e := e_zq) (v := v_zq) (by omega) with z | z | z
    · rw [← hs] at z; omega
    · rw [← hs] at z; omega
    · rw [← hs] at z; have := z.2.2.2.1; omega
  | a + 1, S_zq, ⟨S1, h1, hc, k_zq, b_zq, e_zq, v_zq, hk_zq, hs⟩, hS => by
    have i1 := gr_ge h hk (a := a) h1 hc
    have i2 := gr_ve h1
    have hl := tk_lim hk_zq
    have hb := hk_zq.1
    rcases gD_ve (t := T) (S := S1) (k := k_zq) (b := b_zq) (e := e_zq) (v := v_zq) (by omega) with z | z | z
    · rw [← hs] at z; omega
    · rw [← hs] at z; omega
    · rw [← hs] at z; have := z.2.2.2.1; omega
/-- the state ahead of a token is one -/
theorem gr_tok {T : Int → Int} {n : Int} {a m : Nat} {S S_zq : zS} {k b e v k_zq e_zq v_zq : Int} (h : GR T n a S) (h_zq : GR T n m S_zq) (c : S.1 < 100) (c_zq : S_zq.1 < 100) (hk : TK T n S.2.2.2.2.2.2.1 k b e v) (hk_zq : TK T n S_zq.2.2.2.2.2.2.1 k_zq b e_zq v_zq) (h0 : k ≠ 0) (h0_zq : k_zq ≠ 0) : S = S_zq ∧ a = m := by
  have l1 := tk_lim hk
  have l2 := tk_lim hk_zq
  have b1 := hk.1
  have b2 := hk_zq.1
  rcases Nat.lt_trichotomy a m with q | q | q
  · obtain ⟨z, rfl⟩ : ∃ z, m = a + (z + 1) := ⟨m - a - 1, by omega⟩
    have := gr_ge h hk h_zq c_zq
    omega
  · subst q; exact ⟨gr_det h h_zq, rfl⟩
  · obtain ⟨z, rfl⟩ : ∃ z, a = m + (z + 1) := ⟨a - m - 1, by omega⟩
    have := gr_ge h_zq hk_zq h c
    omega
-- the class's tokens
def kc (kind num k v : Int) : Prop := (kind = 0 ∧ k = 0) ∨ (kind = 1 ∧ k = 4) ∨ (kind = 2 ∧ k = 1) ∨ (kind = 3 ∧ k = 2 ∧ num = v) ∨ (4 < kind ∧ k = 3 ∧ v = kind)
def TKC (lim nx kind bg num : Int) (T : Int → Int) (p0 : Int) : Prop := ∃ k v, TKR lim nx k bg v bg T p0 ∧ kc kind num k v
def CLM (lim nx : Int) : Prop := 0 ≤ nx ∧ nx ≤ lim ∧ lim ≤ 2000
def CX0 (lim nx : Int) (T : Int → Int) (p0 : Int) : Prop := ZX0 lim nx T p0
def CX1 (lim nx bg : Int) (T : Int → Int) (p0 : Int) : Prop := ZX1 lim nx T p0 ∧ bg = nx
def CXL (lim nx bg : Int) (T : Int → Int) (p0 : Int) : Prop := ZXL lim nx bg bg T p0
def CXN (lim nx bg : Int) (T : Int → Int) (p0 : Int) : Prop := ZXN lim nx bg bg T p0
def CXM (lim nx bg : Int) (T : Int → Int) (p0 : Int) : Prop := ZXM lim nx bg bg T p0
def CXD (lim nx bg num : Int) (T : Int → Int) (p0 : Int) : Prop := ZXD lim nx bg num bg T p0
def CXE (lim nx bg num : Int) (T : Int → Int) (p0 : Int) : Prop := ZXE lim nx bg num bg T p0
theorem cx_0 {lim nx p0 : Int} {T : Int → Int} (h : CLM lim nx) (e : p0 = nx) : CX0 lim nx T p0 := zx0_start h.2.1 e ⟨h.1, h.2.2⟩
theorem cx_s {lim nx nx_zq p0 : Int} {T : Int → Int} (hT : BTB T) (h : CX0 lim nx T p0) (q : nx < lim) (hc : T nx = 32 ∨ T nx = 10) (e : nx_zq = nx + 1) : CX0 lim nx_zq T p0 := zx0_step hT h q (by omega) e
theorem cx_1 {lim nx bg p0 : Int} {T : Int → Int} (hT : BTB T) (h : CX0 lim nx T p0) (hc : nx < lim → T nx ≠ 32 ∧ T nx ≠ 10) (e : bg = nx) : CX1 lim nx bg T p0 := by
  obtain ⟨a0, a1, a2, a3, a4⟩ := h
  have hb : nx < lim → (-128) ≤ T nx ∧ T nx ≤ 127 := fun q => hT nx (by omega) (by omega)
  exact ⟨zx1_mk ⟨a0, a1, a2, a3, a4⟩ (fun q => by have := hc q; have := hb q; omega) (fun q => by have := hc q; have := hb q; omega), e⟩
theorem cx_end {lim nx kind bg num p0 : Int} {T : Int → Int} (h : CX1 lim nx bg T p0) (q : lim ≤ nx) (e : kind = 0) : TKC lim nx kind bg num T p0 := ⟨0, 0, tkr_end h.1 q h.2 h.2 rfl, Or.inl ⟨e, rfl⟩⟩
def cIL (c : Int) : Prop := (97 ≤ c ∧ c ≤ 122) ∨ (65 ≤ c ∧ c ≤ 90)
def cIG (c : Int) : Prop := 48 ≤ c ∧ c ≤ 57
theorem cxl_0 {lim nx bg p0 : Int} {T : Int → Int} (hT : BTB T) (h : CX1 lim nx bg T p0) (q : nx < lim) (hc : cIL (T nx)) : CXL lim nx bg T p0 := by
  refine zxl_start hT h.1 q ?_ h.2 h.2
  unfold cIL at hc; omega
theorem cxl_s {lim nx nx_zq bg p0 : Int} {T : Int → Int} (hT : BTB T) (h : CXL lim nx bg T p0) (q : nx < lim) (hc : cIL (T nx) ∨ cIG (T nx) ∨ T nx = 95) (e : nx_zq = nx + 1) : CXL lim nx_zq bg T p0 := by
  refine zxl_step (zxn_mk hT h q ?_) e
  unfold cIL cIG at hc; omega
theorem cxl_e {lim nx kind bg num p0 : Int} {T : Int → Int} (hT : BTB T) (h : CXL lim nx bg T p0) (hc : nx < lim → ¬ (cIL (T nx) ∨ cIG (T nx) ∨ T nx = 95)) (k : (nx - bg ≤ 8 ∧ kind = 2) ∨ (8 < nx - bg ∧ kind = 1)) : TKC lim nx kind bg num T p0 := by
  have w := zxg_lim h.1
  have hm : ZXM lim nx bg bg T p0 := zxm_mk h (fun q => by
    have hb := hT nx (by omega) (by omega)
    have := hc q
    unfold cIL cIG at this; omega)
  rcases k with ⟨k1, k2⟩ | ⟨k1, k2⟩
  · exact ⟨1, 0, tkr_name hm (Or.inl ⟨by omega, rfl⟩), Or.inr (Or.inr (Or.inl ⟨k2, rfl⟩))⟩
  · exact ⟨4, 0, tkr_name hm (Or.inr ⟨by omega, rfl⟩), Or.inr (Or.inl ⟨k2, rfl⟩)⟩
theorem cxd_0 {lim nx bg num p0 : Int} {T : Int → Int} (hT : BTB T) (h : CX1 lim nx bg T p0) (q : nx < lim) (hc : cIG (T nx)) (e : num = 0) : CXD lim nx bg num T p0 := by
  refine zxd_start hT h.1 q ?_ h.2 h.2 e
  unfold cIG at hc; omega
theorem cxd_s {lim nx nx_zq bg num num_zq p0 : Int} {T : Int → Int} (hT : BTB T) (h : CXD lim nx bg num T p0) (q : nx < lim) (hc : cIG (T nx)) (e : nx_zq = nx + 1) (v : (num_zq = 10 * num + T nx - 48 ∧ 10 * num + T nx - 48 ≤ 1000000) ∨ (num_zq = 1000000 ∧ 1000000 < 10 * num + T nx - 48)) : CXD lim nx_zq bg num_zq T p0 := by
  have hb := hT nx (by have := zxg_lim h.1; omega) (by have := zxg_lim h.1; omega)
  unfold cIG at hc
  have hm : T nx % 256 = T nx := by omega
  by_cases w : num ≤ 99999
  · exact zxd_step hT h q rfl (by rw [hm]; exact hc) e (fun _ => by rw [hm]; omega) (fun _ => by omega)
  · obtain ⟨⟨a1, a2, a3, a4, a5, a6⟩, a7, a8, a9, a10⟩ := h
    refine ⟨⟨a1, a2, a3, by omega, by omega, fun j b1 b2 => ?_⟩, a7, ?_, fun w => by omega, fun w1 w2 => ?_⟩
    · by_cases w : j = nx
      · subst w; unfold tkD; omega
      · exact a6 j b1 (by omega)
    · omega
    · exfalso
      by_cases y1 : nx = bg
      · have := a9 y1; omega
      · have := a10 (by omega) (by omega); omega
theorem cxd_e {lim nx kind bg num p0 : Int} {T : Int → Int} (hT : BTB T) (h : CXD lim nx bg num T p0) (hc : nx < lim → ¬ cIG (T nx)) (k : (nx - bg ≤ 3 ∧ kind = 3) ∨ (3 < nx - bg ∧ kind = 1)) : TKC lim nx kind bg num T p0 := by
  have w := zxg_lim h.1
  have hm : ZXE lim nx bg num bg T p0 := zxe_mk h (fun q => by
    have hb := hT nx (by omega) (by omega)
    have := hc q
    unfold cIG at this; omega)
  rcases k with ⟨k1, k2⟩ | ⟨k1, k2⟩
  · exact ⟨2, num, tkr_num hm (Or.inl ⟨by omega, rfl⟩), Or.inr (Or.inr (Or.inr (Or.inl ⟨k2, rfl, rfl⟩)))⟩
  · exact ⟨4, num, tkr_num hm (Or.inr ⟨by omega, rfl⟩), Or.inr (Or.inl ⟨k2, rfl⟩)⟩
theorem cxs_e {lim nx nx_zq kind bg num p0 c : Int} {T : Int → Int} (hT : BTB T) (h : CX1 lim nx bg T p0) (q : nx < lim) (h1 : c = T nx) (hl : ¬ cIL c) (hd : ¬ cIG c) (e : nx_zq = nx + 1) (k : (ZSG c ∧ kind = c) ∨ (¬ ZSG c ∧ kind = 1)) : TKC lim nx_zq kind bg num T p0 := by
  have hb : (-128) ≤ T nx ∧ T nx ≤ 127 := by obtain ⟨⟨⟨b0, b1, b2, bl, b3⟩, b4⟩, b5⟩ := h; exact hT nx (by omega) (by omega)
  have e5 := h.2
  have hs : ZXS lim nx bg bg T p0 (T nx % 256) := by
    refine zxs_mk h.1 q rfl ?_ ?_ e5 e5
    · unfold cIL at hl; omega
    · unfold cIG at hd; omega
  rcases k with ⟨k1, k2⟩ | ⟨k1, k2⟩
  · have hm : T nx % 256 = c := by unfold ZSG at k1; omega
    rw [hm] at hs
    exact ⟨3, c, tkr_sign hT hs e rfl (Or.inl ⟨rfl, k1⟩), Or.inr (Or.inr (Or.inr (Or.inr ⟨by unfold ZSG at k1; omega, rfl, k2.symm⟩)))⟩
  · exact ⟨4, T nx % 256, tkr_sign hT hs e rfl (Or.inr ⟨rfl, fun a => k1 (by unfold ZSG at a ⊢; omega)⟩), Or.inr (Or.inl ⟨k2, rfl⟩)⟩
-- what the static methods say of a byte
def CLT (c a : Int) : Prop := (a = 1 ∧ cIL c) ∨ (a = 0 ∧ ¬ cIL c)
def CDG (c a : Int) : Prop := (a = 1 ∧ cIG c) ∨ (a = 0 ∧ ¬ cIG c)
def CNBy (c a : Int) : Prop := (a = 1 ∧ (cIL c ∨ cIG c ∨ c = 95)) ∨ (a = 0 ∧ ¬ (cIL c ∨ cIG c ∨ c = 95))
def CSG (c a : Int) : Prop := (a = 1 ∧ ZSG c) ∨ (a = 0 ∧ ¬ ZSG c)
theorem clt_t {c c_zq a : Int} (h : CLT c a) (ha : a ≠ 0) (e : c = c_zq) : cIL c_zq := by rcases h with h | h; exact e ▸ h.2; omega
theorem clt_f {c c_zq a : Int} (h : CLT c a) (ha : a = 0) (e : c = c_zq) : ¬ cIL c_zq := by rcases h with h | h; omega; exact e ▸ h.2
theorem cdg_t {c c_zq a : Int} (h : CDG c a) (ha : a ≠ 0) (e : c = c_zq) : cIG c_zq := by rcases h with h | h; exact e ▸ h.2; omega
theorem cdg_f {c c_zq a : Int} (h : CDG c a) (ha : a = 0) (e : c = c_zq) : ¬ cIG c_zq := by rcases h with h | h; omega; exact e ▸ h.2
theorem cnb_t {c c_zq a : Int} (h : CNBy c a) (ha : a ≠ 0) (e : c = c_zq) : cIL c_zq ∨ cIG c_zq ∨ c_zq = 95 := by rcases h with h | h; exact e ▸ h.2; omega
theorem cnb_f {c c_zq a : Int} (h : CNBy c a) (ha : a = 0) (e : c = c_zq) : ¬ (cIL c_zq ∨ cIG c_zq ∨ c_zq = 95) := by rcases h with h | h; omega; exact e ▸ h.2
theorem csg_t {c c_zq a : Int} (h : CSG c a) (ha : a ≠ 0) (e : c = c_zq) : ZSG c_zq := by rcases h with h | h; exact e ▸ h.2; omega
theorem csg_f {c c_zq a : Int} (h : CSG c a) (ha : a = 0) (e : c = c_zq) : ¬ ZSG c_zq := by rcases h with h | h; omega; exact e ▸ h.2
end
section
-- the class's graph and the row of a state
def cGPR (n m g : Int) (nl nm tl hd ρ : Int → Int) : Prop := n = ρ 0 ∧ m = ρ 1 ∧ g = ρ 2 ∧ (∀ i, 0 ≤ i → i < ρ 0 → ρ (195 + i) ≤ 8 ∧ nl i = ρ (195 + i) ∧ ∀ k, 0 ≤ k → k < ρ (195 + i) → nm (8 * i + k) = ρ (3 + 8 * i + k)) ∧
  (∀ e, 0 ≤ e → e < ρ 1 → tl e = ρ (267 + e) ∧ hd e = ρ (315 + e) ∧ 0 ≤ ρ (267 + e) ∧ ρ (267 + e) < ρ 0 ∧ 0 ≤ ρ (315 + e) ∧ ρ (315 + e) < ρ 0)
/-- edges end at nodes that there are -/
def EOK (ρ : Int → Int) : Prop := ∀ e, 0 ≤ e → e < ρ 1 → 0 ≤ ρ (267 + e) ∧ ρ (267 + e) < ρ 0 ∧ 0 ≤ ρ (315 + e) ∧ ρ (315 + e) < ρ 0
/-- the groups that are open -/
def OPN (O : Int → Int) (dp : Int) (ρ : Int → Int) : Prop := 0 ≤ dp ∧ dp ≤ 4 ∧ O 0 = 0 ∧ ∀ j, 1 ≤ j → j ≤ dp → 0 ≤ O j ∧ O j < ρ 2 ∧ O (j - 1) = ρ (531 + O j)
def GRR (dp n m g : Int) (O nl nm tl hd ρ : Int → Int) : Prop := OPN O dp ρ ∧ cGPR n m g nl nm tl hd ρ
theorem gpr_eok {n m g : Int} {nl nm tl hd ρ : Int → Int} (h : cGPR n m g nl nm tl hd ρ) : EOK ρ := fun e a b => by
  obtain ⟨_, _, _, _, h⟩ := h
  exact (h e a b).2.2
theorem gpr_ext {n m g : Int} {nl nm tl hd ρ ρ' : Int → Int} (h : cGPR n m g nl nm tl hd ρ) (hr : ROK ρ) (e : ∀ j, (0 ≤ j ∧ j < 219) ∨ (267 ≤ j ∧ j < 363) → ρ' j = ρ j) : cGPR n m g nl nm tl hd ρ' := by
  obtain ⟨h0, h1, h2, h3, h4⟩ := h
  obtain ⟨r0, r1, r2, r3, r4, r5⟩ := hr
  have e0 := e 0 (by omega)
  have e1 := e 1 (by omega)
  have e2 := e 2 (by omega)
  refine ⟨by omega, by omega, by omega, fun i i0 i1 => ?_, fun j j0 j1 => ?_⟩
  · rw [e0] at i1
    obtain ⟨a, b, c⟩ := h3 i i0 i1
    have e3 := e (195 + i) (by omega)
    refine ⟨by omega, by omega, fun k k0 k1 => ?_⟩
    rw [e3] at k1
    rw [e (3 + 8 * i + k) (by omega)]
    exact c k k0 k1
  · rw [e1] at j1
    rw [e (267 + j) (by omega), e (315 + j) (by omega), e0]
    exact h4 j j0 j1
theorem opn_ext {O : Int → Int} {dp : Int} {ρ ρ' : Int → Int} (h : OPN O dp ρ) (k : RGK ρ ρ') : OPN O dp ρ' := by
  obtain ⟨h0, h1, h2, h3⟩ := h
  refine ⟨h0, h1, h2, fun j a b => ?_⟩
  obtain ⟨q1, q2, q3⟩ := h3 j a b
  have := k.1
  exact ⟨q1, by omega, by rw [q3]; exact (k.2 _ q1 q2).symm⟩
/-- a new node -/
theorem gpr_nn {n m g b e q n_zq : Int} {nl nm tl hd ρ T nl_zq nm_zq : Int → Int} (h : cGPR n m g nl nm tl hd ρ) (hr : ROK ρ) (h0 : ρ 0 ≠ 24) (he : b ≤ e ∧ e ≤ b + 8) (en : n_zq = n + 1) (l1 : nl_zq n = e - b) (l2 : ∀ i, 0 ≤ i → i < n → nl_zq i = nl i) (m1 : ∀ k, 0 ≤ k → k < e - b → nm_zq (8 * n + k) = T (b + k)) (m2 : ∀ j, 0 ≤ j → j < 8 * n → nm_zq j = nm j) : cGPR n_zq m g nl_zq nm_zq tl hd (nnR T ρ b e q) := by
  obtain ⟨o1, o2, o3, o4⟩ := nnR_ok (t := T) (g := q) hr h0 he
  obtain ⟨a0, a1, a2, a3, a4⟩ := h
  obtain ⟨r0, r1, r2, r3, r4, r5⟩ := hr
  have key : ∀ j, (3 ≤ j ∧ j < 3 + 8 * ρ 0) ∨ (195 ≤ j ∧ j < 195 + ρ 0) ∨ (267 ≤ j ∧ j < 363) ∨ j = 2 → nnR T ρ b e q j = ρ j := fun j hj => by
    unfold nnR
    rw [ruR_e (by omega), ruR_e (by omega), rnR_e (by omega), ruR_e (by omega), ruR_e (by omega)]
  have kl : nnR T ρ b e q (195 + ρ 0) = e - b := by
    unfold nnR
    rw [ruR_e (by omega), ruR_e (by omega), rnR_e (by omega), ruR_t rfl]
  have kn : ∀ k, 0 ≤ k → k < e - b → nnR T ρ b e q (3 + 8 * ρ 0 + k) = T (b + k) := fun k k0 k1 => by
    unfold nnR
    rw [ruR_e (by omega), ruR_e (by omega), rnR_t (by omega)]
    exact congrArg T (by omega)
  refine ⟨by omega, by omega, by rw [key 2 (by omega)]; exact a2, fun i i0 i1 => ?_, fun j j0 j1 => ?_⟩
  · by_cases w : i = ρ 0
    · subst w
      rw [kl]
      refine ⟨by omega, by rw [← a0]; exact l1, fun k k0 k1 => ?_⟩
      rw [kn k k0 k1, ← a0]
      exact m1 k k0 k1
    · have i2 : i < ρ 0 := by omega
      obtain ⟨z1, z2, z3⟩ := a3 i i0 i2
      rw [key (195 + i) (by omega)]
      refine ⟨z1, by rw [l2 i i0 (by omega)]; exact z2, fun k k0 k1 => ?_⟩
      rw [key (3 + 8 * i + k) (by omega), m2 _ (by omega) (by omega)]
      exact z3 k k0 k1
  · rw [o3] at j1
    obtain ⟨z1, z2, z3, z4, z5, z6⟩ := a4 j j0 j1
    rw [key (267 + j) (by omega), key (315 + j) (by omega), o4]
    exact ⟨z1, z2, z3, by omega, z5, by omega⟩
/-- a new edge -/
theorem gpr_ne {n m g a b w m_zq : Int} {nl nm tl hd ρ tl_zq hd_zq : Int → Int} (h : cGPR n m g nl nm tl hd ρ) (hr : ROK ρ) (h1 : ρ 1 ≠ 48) (ha : 0 ≤ a ∧ a < n) (hb : 0 ≤ b ∧ b < n) (em : m_zq = m + 1) (t1 : tl_zq m = a) (t2 : ∀ i, 0 ≤ i → i < m → tl_zq i = tl i) (d1 : hd_zq m = b) (d2 : ∀ i, 0 ≤ i → i < m → hd_zq i = hd i) : cGPR n m_zq g nl nm tl_zq hd_zq (neR ρ a b w) := by
  obtain ⟨a0, a1, a2, a3, a4⟩ := h
  obtain ⟨r0, r1, r2, r3, r4, r5⟩ := hr
  have key : ∀ j, j = 0 ∨ (2 ≤ j ∧ j < 219) ∨ (267 ≤ j ∧ j < 267 + ρ 1) ∨ (315 ≤ j ∧ j < 315 + ρ 1) → neR ρ a b w j = ρ j := fun j hj => by
    unfold neR
    rw [ruR_e (by omega), ruR_e (by omega), ruR_e (by omega), ruR_e (by omega), ruR_e (by omega)]
  have k1 : neR ρ a b w 1 = ρ 1 + 1 := by
    unfold neR
    rw [ruR_e (by omega), ruR_e (by omega), ruR_e (by omega), ruR_e (by omega), ruR_t rfl]
  have kt : neR ρ a b w (267 + ρ 1) = a := by
    unfold neR
    rw [ruR_e (by omega), ruR_e (by omega), ruR_e (by omega), ruR_t rfl]
  have kh : neR ρ a b w (315 + ρ 1) = b := by
    unfold neR
    rw [ruR_e (by omega), ruR_e (by omega), ruR_t rfl]
  have k0 := key 0 (by omega)
  refine ⟨by omega, by omega, by rw [key 2 (by omega)]; exact a2, fun i i0 i1 => ?_, fun j j0 j1 => ?_⟩
  · rw [k0] at i1
    obtain ⟨z1, z2, z3⟩ := a3 i i0 i1
    rw [key (195 + i) (by omega)]
    refine ⟨z1, z2, fun k k0 k1 => ?_⟩
    rw [key (3 + 8 * i + k) (by omega)]
    exact z3 k k0 k1
  · rw [k1] at j1
    rw [k0]
    by_cases w2 : j = ρ 1
    · subst w2
      rw [kt, kh, ← a1]
      exact ⟨t1, d1, ha.1, by omega, hb.1, by omega⟩
    · obtain ⟨z1, z2, z3⟩ := a4 j j0 (by omega)
      rw [key (267 + j) (by omega), key (315 + j) (by omega), t2 j j0 (by omega), d2 j j0 (by omega)]
      exact ⟨z1, z2, z3⟩
/-- a new group -/
theorem gpr_ng {n m g b e q g_zq : Int} {nl nm tl hd ρ T : Int → Int} (h : cGPR n m g nl nm tl hd ρ) (hr : ROK ρ) (h2 : ρ 2 < 8) (he : b ≤ e ∧ e ≤ b + 8) (eg : g_zq = g + 1) : cGPR n m g_zq nl nm tl hd (ngR T ρ b e q) := by
  obtain ⟨a0, a1, a2, a3, a4⟩ := h
  obtain ⟨r0, r1, r2, r3, r4, r5⟩ := hr
  obtain ⟨o1, o2, o3, o4⟩ := ngR_ok (t := T) (q := q) ⟨r0, r1, r2, r3, r4, r5⟩ h2 he
  have key : ∀ j, (0 ≤ j ∧ j < 2) ∨ (3 ≤ j ∧ j < 459) → ngR T ρ b e q j = ρ j := fun j hj => by
    unfold ngR
    rw [rnR_e (by omega), ruR_e (by omega), ruR_e (by omega), ruR_e (by omega)]
  refine ⟨by rw [key 0 (by omega)]; exact a0, by rw [key 1 (by omega)]; exact a1, by omega, fun i i0 i1 => ?_, fun j j0 j1 => ?_⟩
  · rw [key 0 (by omega)] at i1
    obtain ⟨z1, z2, z3⟩ := a3 i i0 i1
    rw [key (195 + i) (by omega)]
    refine ⟨z1, z2, fun k k0 k1 => ?_⟩
    rw [key (3 + 8 * i + k) (by omega)]
    exact z3 k k0 k1
  · rw [key 1 (by omega)] at j1
    rw [key (267 + j) (by omega), key (315 + j) (by omega), key 0 (by omega)]
    exact a4 j j0 j1
theorem gpr_sz {n m g x v : Int} {nl nm tl hd ρ : Int → Int} (h : cGPR n m g nl nm tl hd ρ) (hr : ROK ρ) (hx : 0 ≤ x ∧ x < 24) : cGPR n m g nl nm tl hd (ruR ρ (219 + x) v) := gpr_ext h hr (fun j _ => ruR_e (by omega))
theorem gpr_sw {n m g y v : Int} {nl nm tl hd ρ : Int → Int} (h : cGPR n m g nl nm tl hd ρ) (hr : ROK ρ) (hy : 0 ≤ y) : cGPR n m g nl nm tl hd (swR ρ y v) := gpr_ext h hr (fun j _ => swR_e (by omega))
/-- a group opens -/
theorem opn_ng {O O_zq : Int → Int} {dp dp_zq b e : Int} {ρ T : Int → Int} (h : OPN O dp ρ) (hr : ROK ρ) (h2 : ρ 2 < 8) (hd : dp < 4) (he : b ≤ e ∧ e ≤ b + 8) (ed : dp_zq = dp + 1) (o1 : O_zq dp_zq = ρ 2) (o2 : ∀ j, 0 ≤ j → j ≤ dp → O_zq j = O j) : OPN O_zq dp_zq (ngR T ρ b e (O dp)) := by
  obtain ⟨q1, q2, q3, q4⟩ := ngR_ok (t := T) (q := O dp) hr h2 he
  obtain ⟨h0, h1, h3, h4⟩ := h
  have r4 := hr.2.2.2.2.1
  refine ⟨by omega, by omega, by rw [o2 0 (by omega) h0]; exact h3, fun j a c => ?_⟩
  by_cases w : j = dp_zq
  · rw [w, o1, q4, show dp_zq - 1 = dp by omega]
    exact ⟨by omega, by omega, o2 dp h0 (by omega)⟩
  · obtain ⟨z1, z2, z3⟩ := h4 j a (by omega)
    rw [o2 j (by omega) (by omega), o2 (j - 1) (by omega) (by omega), z3, q2.2 _ z1 z2]
    exact ⟨z1, by omega, rfl⟩
/-- a group closes -/
theorem opn_cl {O : Int → Int} {dp dp_zq : Int} {ρ : Int → Int} (h : OPN O dp ρ) (hd : 0 < dp) (ed : dp_zq = dp - 1) : OPN O dp_zq ρ ∧ O dp_zq = ρ (531 + O dp) := by
  obtain ⟨h0, h1, h3, h4⟩ := h
  exact ⟨⟨by omega, by omega, h3, fun j a c => h4 j a (by omega)⟩, by rw [ed]; exact (h4 dp (by omega) (by omega)).2.2⟩
-- names found
def cMT (nl nm T : Int → Int) (st len j : Int) : Prop := nl j = len ∧ ∀ k, 0 ≤ k → k < len → nm (8 * j + k) = T (st + k)
def cFNQ (n : Int) (nl nm T : Int → Int) (st len ans : Int) : Prop := (ans = -1 ∧ ∀ j, 0 ≤ j → j < n → ¬ cMT nl nm T st len j) ∨ (0 ≤ ans ∧ ans < n ∧ cMT nl nm T st len ans ∧ ∀ j, 0 ≤ j → j < ans → ¬ cMT nl nm T st len j)
def cFNI (nl nm T : Int → Int) (st len i : Int) : Prop := 0 ≤ i ∧ ∀ j, 0 ≤ j → j < i → ¬ cMT nl nm T st len j
def HLI (nl nm T : Int → Int) (i st k : Int) : Prop := 0 ≤ k ∧ ∀ j, 0 ≤ j → j < k → nm (8 * i + j) = T (st + j)
def HLQ (nl nm T : Int → Int) (i st ans : Int) : Prop := (ans = 1 ∧ ∀ j, 0 ≤ j → j < nl i → nm (8 * i + j) = T (st + j)) ∨ (ans = 0 ∧ ¬ ∀ j, 0 ≤ j → j < nl i → nm (8 * i + j) = T (st + j))
theorem hli_0 {nl nm T : Int → Int} {i st k : Int} (e : k = 0) : HLI nl nm T i st k := ⟨by omega, fun j a b => by omega⟩
theorem hli_s {nl nm T : Int → Int} {i st k k_zq a b : Int} (h : HLI nl nm T i st k) (e : k_zq = k + 1) (ea : a = 8 * i + k) (eb : b = st + k) (q : nm a = T b) : HLI nl nm T i st k_zq := by
  refine ⟨by have := h.1; omega, fun j j0 j1 => ?_⟩
  by_cases w : j = k
  · rw [w, ← ea, ← eb]; exact q
  · exact h.2 j j0 (by omega)
theorem hlq_t {nl nm T : Int → Int} {i st k ans : Int} (h : HLI nl nm T i st k) (q : nl i ≤ k) (e : ans = 1) : HLQ nl nm T i st ans := Or.inl ⟨e, fun j a b => h.2 j a (by omega)⟩
theorem hlq_f {nl nm T : Int → Int} {i st k ans a b : Int} (h : HLI nl nm T i st k) (q : k < nl i) (ea : a = 8 * i + k) (eb : b = st + k) (d : nm a ≠ T b) (e : ans = 0) : HLQ nl nm T i st ans := Or.inr ⟨e, fun z => d (by rw [ea, eb]; exact z k h.1 q)⟩
theorem fni_0 {nl nm T : Int → Int} {st len i : Int} (e : i = 0) : cFNI nl nm T st len i := ⟨by omega, fun j a b => by omega⟩
theorem fni_s {nl nm T : Int → Int} {st len i i_zq ans : Int} (h : cFNI nl nm T st len i) (e : i_zq = i + 1) (q : nl i ≠ len ∨ (HLQ nl nm T i st ans ∧ ans = 0)) : cFNI nl nm T st len i_zq := by
  refine ⟨by have := h.1; omega, fun j j0 j1 z => ?_⟩
  by_cases w : j = i
  · subst w
    rcases q with q | ⟨q | q, q2⟩
    · exact q z.1
    · omega
    · exact q.2 (fun k a b => z.2 k a (by rw [← z.1]; exact b))
  · exact h.2 j j0 (by omega) z
theorem fnq_t {n : Int} {nl nm T : Int → Int} {st len i ans x : Int} (h : cFNI nl nm T st len i) (hn : i < n) (q : nl i = len) (z : HLQ nl nm T i st x) (hx : x ≠ 0) (e : ans = i) : cFNQ n nl nm T st len ans := by
  rw [e]
  rcases z with z | z
  · exact Or.inr ⟨h.1, hn, ⟨q, fun k a b => z.2 k a (by rw [q]; exact b)⟩, h.2⟩
  · omega
theorem fnq_f {n : Int} {nl nm T : Int → Int} {st len i ans : Int} (h : cFNI nl nm T st len i) (hn : n ≤ i) (e : ans = -1) : cFNQ n nl nm T st len ans := Or.inl ⟨e, fun j a b => h.2 j a (by omega)⟩
theorem nmr_mt {n m g b e j : Int} {nl nm tl hd ρ T : Int → Int} (h : cGPR n m g nl nm tl hd ρ) (j0 : 0 ≤ j) (j1 : j < ρ 0) : nmR T ρ j b e ↔ cMT nl nm T b (e - b) j := by
  obtain ⟨a0, a1, a2, a3, a4⟩ := h
  obtain ⟨z1, z2, z3⟩ := a3 j j0 j1
  constructor
  · intro q
    exact ⟨by rw [z2]; exact q.1, fun k k0 k1 => by rw [z3 k k0 (by rw [q.1]; exact k1)]; exact q.2 k k0 k1⟩
  · intro q
    have q1 : ρ (195 + j) = e - b := by rw [← z2]; exact q.1
    exact ⟨q1, fun k k0 k1 => by rw [← z3 k k0 (by rw [q1]; exact k1)]; exact q.2 k k0 k1⟩
theorem fnq_kn {n m g b e ans : Int} {nl nm tl hd ρ T : Int → Int} (h : cGPR n m g nl nm tl hd ρ) (q : cFNQ n nl nm T b (e - b) ans) : knR T ρ b e = ans ∧ (ans = -1 ∨ 0 ≤ ans) := by
  have a0 := h.1
  rcases q with ⟨q1, q2⟩ | ⟨q1, q2, q3, q4⟩
  · exact ⟨kn_eq (Or.inl ⟨q1, fun j a c d => q2 j a (by omega) ((nmr_mt h a c).mp d)⟩), Or.inl q1⟩
  · exact ⟨kn_eq (Or.inr ⟨q1, by omega, (nmr_mt h q1 (by omega)).mpr q3, fun j a c d => q4 j a c ((nmr_mt h a (by omega)).mp d)⟩), Or.inr q1⟩
-- edges found
def LKQ (tl hd lk : Int → Int) (k : Int) : Prop := ∀ a b, 0 ≤ a → a < 24 → 0 ≤ b → b < 24 → (lk (24 * a + b) ≠ -1 ↔ ∃ e, 0 ≤ e ∧ e < k ∧ ((tl e = a ∧ hd e = b) ∨ (tl e = b ∧ hd e = a)))
def LKG (m : Int) (tl hd lk : Int → Int) : Prop := LKQ tl hd lk m
def LK1 (tl hd lk : Int → Int) (k : Int) : Prop := LKQ tl hd lk (k + 1)
theorem lkq_0 {tl hd lk : Int → Int} {k : Int} (h : ∀ j, 0 ≤ j → j < 576 → lk j = -1) (e : k = 0) : LKQ tl hd lk k := fun a b a0 a1 b0 b1 => by
  constructor
  · intro q; exact absurd (h _ (by omega) (by omega)) q
  · rintro ⟨e_zq, q0, q1, -⟩; omega
theorem lkq_tie {tl hd lk lk1 lk2 : Int → Int} {k p1 p2 : Int} (h : LKQ tl hd lk k) (k0 : 0 ≤ k) (h1 : 0 ≤ tl k ∧ tl k < 24) (h2 : 0 ≤ hd k ∧ hd k < 24) (s1 : st1 lk lk1 p1 k) (s2 : st1 lk1 lk2 p2 k) (e1 : p1 = tl k * 24 + hd k) (e2 : p2 = hd k * 24 + tl k) : LKQ tl hd lk2 (k + 1) := fun a b a0 a1 b0 b1 => by
  have w2 := s2 (24 * a + b) (by omega)
  have w1 := s1 (24 * a + b) (by omega)
  by_cases c2 : 24 * a + b = p2
  · rw [w2.1 c2]
    exact ⟨fun _ => ⟨k, k0, by omega, Or.inr ⟨by omega, by omega⟩⟩, fun _ => by omega⟩
  · rw [w2.2 c2]
    by_cases c1 : 24 * a + b = p1
    · rw [w1.1 c1]
      exact ⟨fun _ => ⟨k, k0, by omega, Or.inl ⟨by omega, by omega⟩⟩, fun _ => by omega⟩
    · rw [w1.2 c1]
      refine (h a b a0 a1 b0 b1).trans ⟨?_, ?_⟩
      · rintro ⟨e, q0, q1, q⟩; exact ⟨e, q0, by omega, q⟩
      · rintro ⟨e, q0, q1, q⟩
        refine ⟨e, q0, ?_, q⟩
        by_cases w : e = k
        · subst w
          rcases q with q | q
          · exfalso; apply c1; rw [e1, q.1, q.2]; omega
          · exfalso; apply c2; rw [e2, q.1, q.2]; omega
        · omega
theorem lkg_of {m k : Int} {tl hd lk : Int → Int} (h : LK1 tl hd lk k) (e : m = k + 1) : LKG m tl hd lk := by
  unfold LKG
  rw [e]; exact h
theorem lkq_ext {m k e1 e2 a b : Int} {tl hd lk tl_zq hd_zq : Int → Int} (h : LKG m tl hd lk) (s1 : st1 tl tl_zq e1 a) (s2 : st1 hd hd_zq e2 b) (q1 : e1 = k) (q2 : e2 = k) (e : m = k) : LKQ tl_zq hd_zq lk k := fun x y x0 x1 y0 y1 => by
  subst e
  refine (h x y x0 x1 y0 y1).trans ⟨?_, ?_⟩
  · rintro ⟨j, j0, j1, j2⟩
    refine ⟨j, j0, j1, ?_⟩
    rw [(s1 j j0).2 (by omega), (s2 j j0).2 (by omega)]; exact j2
  · rintro ⟨j, j0, j1, j2⟩
    refine ⟨j, j0, j1, ?_⟩
    rw [(s1 j j0).2 (by omega), (s2 j j0).2 (by omega)] at j2; exact j2
end
section
-- the class's reader: predicates, and what each step gives
def cG0 (lim dp n m g : Int) (T O nl nm tl hd : Int → Int) (p : Int) : Prop := TSQ (GRR dp n m g O nl nm tl hd) lim 0 T 0 0 0 0 (O dp) dp p
def cG1 (lim dp n m g : Int) (T O nl nm tl hd : Int → Int) (p : Int) : Prop := TSQ (GRR dp n m g O nl nm tl hd) lim 0 T 1 0 0 0 (O dp) dp p
def cG7 (lim dp n m g : Int) (T O nl nm tl hd : Int → Int) (p : Int) : Prop := TSQ (GRR dp n m g O nl nm tl hd) lim 0 T 7 0 0 0 (O dp) dp p
def cG13 (lim dp n m g : Int) (T O nl nm tl hd : Int → Int) (p : Int) : Prop := TSQ (GRR dp n m g O nl nm tl hd) lim 0 T 13 0 0 0 (O dp) dp p
def cG5 (lim dp n m g : Int) (T O nl nm tl hd : Int → Int) (p : Int) : Prop := dp < 4 ∧ TSQ (GRR dp n m g O nl nm tl hd) lim 0 T 5 0 0 0 (O dp) dp p
def cG2 (lim dp n m g : Int) (T O nl nm tl hd : Int → Int) (p : Int) : Prop := ∃ x, 0 ≤ x ∧ TSQ (GRR dp n m g O nl nm tl hd) lim 0 T 2 x 0 0 (O dp) dp p
def cG3 (lim dp n m g : Int) (T O nl nm tl hd : Int → Int) (a p : Int) : Prop := ∃ y, TSQ (fun ρ => GRR dp n m g O nl nm tl hd ρ ∧ 0 ≤ a ∧ a < ρ 0) lim 0 T 3 a y 0 (O dp) dp p
def cG8 (lim dp n m g : Int) (T O nl nm tl hd : Int → Int) (a p : Int) : Prop := ∃ y, TSQ (fun ρ => GRR dp n m g O nl nm tl hd ρ ∧ 0 ≤ a ∧ a < ρ 0) lim 0 T 8 a y 0 (O dp) dp p
def cG4 (lim dp n m g : Int) (T O nl nm tl hd : Int → Int) (a p : Int) : Prop := ∃ y z, TSQ (fun ρ => GRR dp n m g O nl nm tl hd ρ ∧ 0 ≤ a ∧ a < ρ 0) lim 0 T 4 a y z (O dp) dp p
def cG9s (lim dp n m g : Int) (T O nl nm tl hd : Int → Int) (p : Int) : Prop := ∃ x y, 0 ≤ x ∧ TSQ (GRR dp n m g O nl nm tl hd) lim 0 T 9 x y 0 (O dp) dp p
def cG9w (lim dp n m g : Int) (T O nl nm tl hd : Int → Int) (p : Int) : Prop := ∃ y, TSQ (GRR dp n m g O nl nm tl hd) lim 0 T 9 (-1) y 0 (O dp) dp p
def cG10s (lim dp n m g : Int) (T O nl nm tl hd : Int → Int) (p : Int) : Prop := ∃ x y, 0 ≤ x ∧ TSQ (GRR dp n m g O nl nm tl hd) lim 0 T 10 x y 0 (O dp) dp p
def cG10w (lim dp n m g : Int) (T O nl nm tl hd : Int → Int) (p : Int) : Prop := ∃ y, TSQ (GRR dp n m g O nl nm tl hd) lim 0 T 10 (-1) y 0 (O dp) dp p
def cG11s (lim dp n m g : Int) (T O nl nm tl hd : Int → Int) (p : Int) : Prop := ∃ x y, 0 ≤ x ∧ TSQ (GRR dp n m g O nl nm tl hd) lim 0 T 11 x y 0 (O dp) dp p
def cG11w (lim dp n m g : Int) (T O nl nm tl hd : Int → Int) (p : Int) : Prop := ∃ y, TSQ (GRR dp n m g O nl nm tl hd) lim 0 T 11 (-1) y 0 (O dp) dp p
def cG12s (lim dp n m g : Int) (T O nl nm tl hd : Int → Int) (p : Int) : Prop := ∃ x y z, 0 ≤ x ∧ TSQ (GRR dp n m g O nl nm tl hd) lim 0 T 12 x y z (O dp) dp p
def cG12w (lim dp n m g : Int) (T O nl nm tl hd : Int → Int) (p : Int) : Prop := ∃ y z, TSQ (GRR dp n m g O nl nm tl hd) lim 0 T 12 (-1) y z (O dp) dp p
def cU0 (lim dp : Int) (T O : Int → Int) (p : Int) : Prop := TSQ (OPN O dp) lim 0 T 0 0 0 0 (O dp) dp p
def cU1 (lim dp : Int) (T O : Int → Int) (p : Int) : Prop := TSQ (OPN O dp) lim 0 T 1 0 0 0 (O dp) dp p
def cU4 (lim dp : Int) (T O : Int → Int) (a p : Int) : Prop := ∃ y z, TSQ (fun ρ => OPN O dp ρ ∧ 0 ≤ a ∧ a < ρ 0) lim 0 T 4 a y z (O dp) dp p
def cUE (lim nx kind bg num dp : Int) (T O : Int → Int) : Prop := (∃ p, cU0 lim dp T O p ∧ TKC lim nx kind bg num T p) ∧ kind = 2 ∧ isNm T 1 bg nx
def cRI (lim nx kind bg num dp n m g : Int) (T O nl nm tl hd : Int → Int) : Prop := (∃ p, cG0 lim dp n m g T O nl nm tl hd p ∧ TKC lim nx kind bg num T p) ∧ ¬ (kind = 0 ∧ dp = 0)
def cRGp (lim nx kind bg num dp n m g : Int) (T O nl nm tl hd : Int → Int) : Prop := (∃ p, cG0 lim dp n m g T O nl nm tl hd p ∧ TKC lim nx kind bg num T p) ∧ kind = 2 ∧ isWg T 1 bg nx
def cRE (lim nx kind bg num dp n m g : Int) (T O nl nm tl hd : Int → Int) : Prop := (∃ p, cG0 lim dp n m g T O nl nm tl hd p ∧ TKC lim nx kind bg num T p) ∧ kind = 2 ∧ isNm T 1 bg nx
def cLE (lim nx kind bg num dp n m g : Int) (T O nl nm tl hd : Int → Int) (a : Int) : Prop := (∃ p, cG3 lim dp n m g T O nl nm tl hd a p ∧ TKC lim nx kind bg num T p ∧ (kind = 45 ∨ kind = 62)) ∨ (∃ p, cG8 lim dp n m g T O nl nm tl hd a p ∧ TKC lim nx kind bg num T p)
def cNs (lim nx kind bg num dp n m g : Int) (T O nl nm tl hd : Int → Int) : Prop := ∃ k v, NDQ (GRR dp n m g O nl nm tl hd) lim nx k bg v bg 0 T 59 0 0 0 0 (O dp) dp ∧ kc kind num k v
def cO0 (lim nx dp fault fp n m g : Int) (T O nl nm tl hd : Int → Int) (ans : Int) : Prop := (ans = 0 ∧ FS lim fault fp T) ∨ (ans = 1 ∧ fault = 0 ∧ cG0 lim dp n m g T O nl nm tl hd nx)
def cO13 (lim nx dp fault fp n m g : Int) (T O nl nm tl hd : Int → Int) (ans : Int) : Prop := (ans = 0 ∧ FS lim fault fp T) ∨ (ans = 1 ∧ fault = 0 ∧ cG13 lim dp n m g T O nl nm tl hd nx)
def cG0n (lim nx dp n m g : Int) (T O nl nm tl hd : Int → Int) : Prop := cG0 lim dp n m g T O nl nm tl hd nx
def cG13n (lim nx dp n m g : Int) (T O nl nm tl hd : Int → Int) : Prop := cG13 lim dp n m g T O nl nm tl hd nx
def cFNp (nl nm T : Int → Int) (n st len ans : Int) : Prop := cFNQ n nl nm T st len ans
def FSY (lim bg : Int) (T : Int → Int) (f : Int) : Prop := FSX lim T f bg
def CNM (kind nx bg : Int) (T : Int → Int) (ans : Int) : Prop := (ans = 1 ∧ kind = 2 ∧ isNm T 1 bg nx) ∨ (ans = 0 ∧ ¬ (kind = 2 ∧ isNm T 1 bg nx))
def CWn (kind nx bg : Int) (T : Int → Int) (ans : Int) : Prop := (ans = 1 ∧ kind = 2 ∧ isWn T 1 bg nx) ∨ (ans = 0 ∧ ¬ (kind = 2 ∧ isWn T 1 bg nx))
def CWg (kind nx bg : Int) (T : Int → Int) (ans : Int) : Prop := (ans = 1 ∧ kind = 2 ∧ isWg T 1 bg nx) ∨ (ans = 0 ∧ ¬ (kind = 2 ∧ isWg T 1 bg nx))
def CWs (kind nx bg : Int) (T : Int → Int) (ans : Int) : Prop := (ans = 1 ∧ kind = 2 ∧ isWs T 1 bg nx) ∨ (ans = 0 ∧ ¬ (kind = 2 ∧ isWs T 1 bg nx))
def CWw (kind nx bg : Int) (T : Int → Int) (ans : Int) : Prop := (ans = 1 ∧ kind = 2 ∧ isWw T 1 bg nx) ∨ (ans = 0 ∧ ¬ (kind = 2 ∧ isWw T 1 bg nx))
theorem cnm_k {kind nx bg ans : Int} {T : Int → Int} (h : kind ≠ 2) (e : ans = 0) : CNM kind nx bg T ans := Or.inr ⟨e, fun q => h q.1⟩
theorem cnm_n {kind nx bg x ans : Int} {T : Int → Int} (h : CWn kind nx bg T x) (hx : x ≠ 0) (e : ans = 0) : CNM kind nx bg T ans := by
  rcases h with h | h
  · exact Or.inr ⟨e, fun q => q.2.2.1 h.2.2⟩
  · omega
theorem cnm_g {kind nx bg x ans : Int} {T : Int → Int} (h : CWg kind nx bg T x) (hx : x ≠ 0) (e : ans = 0) : CNM kind nx bg T ans := by
  rcases h with h | h
  · exact Or.inr ⟨e, fun q => q.2.2.2 h.2.2⟩
  · omega
theorem cnm_1 {kind nx bg x y ans : Int} {T : Int → Int} (h : CWn kind nx bg T x) (h2 : CWg kind nx bg T y) (hk : kind = 2) (hx : x = 0) (hy : y = 0) (e : ans = 1) : CNM kind nx bg T ans := by
  rcases h with h | h
  · omega
  · rcases h2 with h2 | h2
    · omega
    · exact Or.inl ⟨e, hk, rfl, fun q => h.2 ⟨hk, q⟩, fun q => h2.2 ⟨hk, q⟩⟩
theorem cnm_t {kind nx bg ans : Int} {T : Int → Int} (h : CNM kind nx bg T ans) (ha : ans ≠ 0) : kind = 2 ∧ isNm T 1 bg nx := by rcases h with h | h; exact h.2; omega
theorem cnm_f {kind nx bg ans : Int} {T : Int → Int} (h : CNM kind nx bg T ans) (ha : ans = 0) : ¬ (kind = 2 ∧ isNm T 1 bg nx) := by rcases h with h | h; omega; exact h.2
theorem cwn_t {kind nx bg ans : Int} {T : Int → Int} (h : CWn kind nx bg T ans) (ha : ans ≠ 0) : kind = 2 ∧ isWn T 1 bg nx := by rcases h with h | h; exact h.2; omega
theorem cwn_f {kind nx bg ans : Int} {T : Int → Int} (h : CWn kind nx bg T ans) (ha : ans = 0) : ¬ (kind = 2 ∧ isWn T 1 bg nx) := by rcases h with h | h; omega; exact h.2
theorem cwg_t {kind nx bg ans : Int} {T : Int → Int} (h : CWg kind nx bg T ans) (ha : ans ≠ 0) : kind = 2 ∧ isWg T 1 bg nx := by rcases h with h | h; exact h.2; omega
theorem cwg_f {kind nx bg ans : Int} {T : Int → Int} (h : CWg kind nx bg T ans) (ha : ans = 0) : ¬ (kind = 2 ∧ isWg T 1 bg nx) := by rcases h with h | h; omega; exact h.2
theorem cws_t {kind nx bg ans : Int} {T : Int → Int} (h : CWs kind nx bg T ans) (ha : ans ≠ 0) : kind = 2 ∧ isWs T 1 bg nx := by rcases h with h | h; exact h.2; omega
theorem cws_f {kind nx bg ans : Int} {T : Int → Int} (h : CWs kind nx bg T ans) (ha : ans = 0) : ¬ (kind = 2 ∧ isWs T 1 bg nx) := by rcases h with h | h; omega; exact h.2
theorem cww_t {kind nx bg ans : Int} {T : Int → Int} (h : CWw kind nx bg T ans) (ha : ans ≠ 0) : kind = 2 ∧ isWw T 1 bg nx := by rcases h with h | h; exact h.2; omega
theorem cww_f {kind nx bg ans : Int} {T : Int → Int} (h : CWw kind nx bg T ans) (ha : ans = 0) : ¬ (kind = 2 ∧ isWw T 1 bg nx) := by rcases h with h | h; omega; exact h.2
def MGQ (n m g : Int) (nl nm tl hd T ρ : Int → Int) (b e q ans : Int) : Prop := (ans = -1 ∧ knR T ρ b e < 0 ∧ ρ 0 = 24 ∧ cGPR n m g nl nm tl hd ρ) ∨ (0 ≤ ans ∧ knR T ρ b e = ans ∧ cGPR n m g nl nm tl hd ρ) ∨ (knR T ρ b e < 0 ∧ ρ 0 ≠ 24 ∧ ans = ρ 0 ∧ EOK ρ ∧ cGPR n m g nl nm tl hd (nnR T ρ b e q))
def CGT (lim nx bg n m g : Int) (T nl nm tl hd : Int → Int) : Prop := ∃ (mm : Nat) (c x y z q d p v : Int) (ρ : Int → Int), GR T lim mm (c, x, y, z, q, d, p, ρ) ∧ c < 100 ∧ TK T lim p 1 bg nx v ∧ cGPR n m g nl nm tl hd ρ
def CGM (lim nx bg n m g : Int) (T nl nm tl hd : Int → Int) (ans : Int) : Prop := ∃ (mm : Nat) (c x y z q d p v : Int) (ρ : Int → Int), GR T lim mm (c, x, y, z, q, d, p, ρ) ∧ c < 100 ∧ TK T lim p 1 bg nx v ∧ MGQ n m g nl nm tl hd T ρ bg nx q ans
def CANp (nl nm tl hd T : Int → Int) (st len lim n m g : Int) : Prop := ∃ (mm : Nat) (c x y z q d p v : Int) (ρ : Int → Int), GR T lim mm (c, x, y, z, q, d, p, ρ) ∧ c < 100 ∧ TK T lim p 1 st (st + len) v ∧ knR T ρ st (st + len) < 0 ∧ ρ 0 ≠ 24 ∧ cGPR n m g nl nm tl hd ρ
def CGMp (nl nm tl hd T : Int → Int) (st len lim ans n m g : Int) : Prop := ∃ (mm : Nat) (c x y z q d p v : Int) (ρ : Int → Int), GR T lim mm (c, x, y, z, q, d, p, ρ) ∧ c < 100 ∧ TK T lim p 1 st (st + len) v ∧ MGQ (n + 1) m g nl nm tl hd T ρ st (st + len) q ans
def cNMR (nm ρ : Int → Int) : Prop := ∀ i, 0 ≤ i → i < ρ 0 → ∀ k, 0 ≤ k → k < ρ (195 + i) → nm (8 * i + k) = ρ (3 + 8 * i + k)
def CANq (nl tl hd T : Int → Int) (st len lim n m g : Int) : Prop := ∃ nm0 : Int → Int, CANp nl nm0 tl hd T st len lim n m g
def CN1 (nm s T : Int → Int) (sp dp len lim n : Int) : Prop := (∀ j, s j = T j) ∧ dp = 8 * n ∧ ∃ (mm : Nat) (c x y z q d p v : Int) (ρ : Int → Int), GR T lim mm (c, x, y, z, q, d, p, ρ) ∧ c < 100 ∧ TK T lim p 1 sp (sp + len) v ∧ n = ρ 0 ∧ (∀ i, 0 ≤ i → i < ρ 0 → ρ (195 + i) ≤ 8) ∧ cNMR nm ρ
def CN2 (nm s T : Int → Int) (sp dp len lim n : Int) : Prop := dp = 8 * n ∧ ∃ (mm : Nat) (c x y z q d p v : Int) (ρ : Int → Int), GR T lim mm (c, x, y, z, q, d, p, ρ) ∧ c < 100 ∧ TK T lim p 1 sp (sp + len) v ∧ n = ρ 0 ∧ (∀ i, 0 ≤ i → i < ρ 0 → ρ (195 + i) ≤ 8) ∧ ∃ nm0 : Int → Int, cNMR nm0 ρ ∧ ∀ j, 0 ≤ j → nm j = if dp ≤ j ∧ j < dp + len then T (sp + (j - dp)) else nm0 j
def CEA (lim nx bg n m g : Int) (T nl nm tl hd : Int → Int) (a b : Int) : Prop := (∃ (mm : Nat) (c x y z q d p v : Int) (ρ ρ' : Int → Int), GR T lim mm (c, x, y, z, q, d, p, ρ) ∧ c < 100 ∧ TK T lim p 1 bg nx v ∧ ((knR T ρ bg nx = b ∧ ρ' = ρ ∧ b ≠ a ∧ ¬ BTR ρ b a) ∨ (knR T ρ bg nx < 0 ∧ ρ 0 ≠ 24 ∧ b = ρ 0 ∧ ρ' = nnR T ρ bg nx q)) ∧ ROK ρ' ∧ RGK ρ ρ' ∧ ρ' 1 = ρ 1 ∧ ρ 1 ≠ 48 ∧ 0 ≤ a ∧ a < ρ' 0 ∧ 0 ≤ b ∧ b < ρ' 0 ∧ cGPR n m g nl nm tl hd ρ')
def CEB (lim nx bg n m g : Int) (T nl nm tl hd : Int → Int) (a b : Int) : Prop := (∃ (mm : Nat) (c x y z q d p v : Int) (ρ ρ' : Int → Int), GR T lim mm (c, x, y, z, q, d, p, ρ) ∧ c < 100 ∧ TK T lim p 1 bg nx v ∧ ((knR T ρ bg nx = b ∧ ρ' = ρ ∧ b ≠ a ∧ ¬ BTR ρ b a) ∨ (knR T ρ bg nx < 0 ∧ ρ 0 ≠ 24 ∧ b = ρ 0 ∧ ρ' = nnR T ρ bg nx q)) ∧ ROK ρ' ∧ RGK ρ ρ' ∧ ρ' 1 = ρ 1 ∧ ρ 1 ≠ 48 ∧ 0 ≤ a ∧ a < ρ' 0 ∧ 0 ≤ b ∧ b < ρ' 0 ∧ ∀ w, cGPR n m g nl nm tl hd (neR ρ' a b w))
theorem kc_nm {kind num k v b e : Int} {T : Int → Int} (h : kc kind num k v) : (kind = 2 ∧ isNm T 1 b e) ↔ isNm T k b e := by
  unfold kc at h
  constructor
  · rintro ⟨q, q2⟩
    have e1 : k = 1 := by omega
    rw [e1]; exact q2
  · intro q
    have e1 : k = 1 := q.1
    rw [e1] at q
    exact ⟨by omega, q⟩
theorem kc_wn {kind num k v b e : Int} {T : Int → Int} (h : kc kind num k v) : (kind = 2 ∧ isWn T 1 b e) ↔ isWn T k b e := by
  unfold kc at h
  constructor
  · rintro ⟨q, q2⟩
    have e1 : k = 1 := by omega
    rw [e1]; exact q2
  · intro q
    have e1 : k = 1 := q.1
    rw [e1] at q
    exact ⟨by omega, q⟩
theorem kc_wg {kind num k v b e : Int} {T : Int → Int} (h : kc kind num k v) : (kind = 2 ∧ isWg T 1 b e) ↔ isWg T k b e := by
  unfold kc at h
  constructor
  · rintro ⟨q, q2⟩
    have e1 : k = 1 := by omega
    rw [e1]; exact q2
  · intro q
    have e1 : k = 1 := q.1
    rw [e1] at q
    exact ⟨by omega, q⟩
theorem kc_ws {kind num k v b e : Int} {T : Int → Int} (h : kc kind num k v) : (kind = 2 ∧ isWs T 1 b e) ↔ isWs T k b e := by
  unfold kc at h
  constructor
  · rintro ⟨q, q2⟩
    have e1 : k = 1 := by omega
    rw [e1]; exact q2
  · intro q
    have e1 : k = 1 := q.1
    rw [e1] at q
    exact ⟨by omega, q⟩
theorem kc_ww {kind num k v b e : Int} {T : Int → Int} (h : kc kind num k v) : (kind = 2 ∧ isWw T 1 b e) ↔ isWw T k b e := by
  unfold kc at h
  constructor
  · rintro ⟨q, q2⟩
    have e1 : k = 1 := by omega
    rw [e1]; exact q2
  · intro q
    have e1 : k = 1 := q.1
    rw [e1] at q
    exact ⟨by omega, q⟩
theorem c_rs {Q : (Int → Int) → Prop} {lim nx kind bg num c x y z g d p : Int} {T : Int → Int} (h : TSQ Q lim 0 T c x y z g d p) (k : TKC lim nx kind bg num T p) : ∃ k v, RSQ Q lim nx k bg v bg 0 T c x y z g d ∧ kc kind num k v := by
  obtain ⟨k1, v, hk, hc⟩ := k
  exact ⟨k1, v, rsq_of h hk, hc⟩
theorem tsq_le {Q : (Int → Int) → Prop} {lim f c x y z g d p : Int} {T : Int → Int} (h : TSQ Q lim f T c x y z g d p) (hl : 0 ≤ lim ∧ lim ≤ 2000) (hc : c < 100) : CLM lim p := by
  obtain ⟨_, m, ρ, h1, _⟩ := h
  have := gr_le hl.1 h1 hc
  exact ⟨this.1, this.2, hl.2⟩
theorem n1_f {lim nx kind bg num dp n m g : Int} {T O nl nm tl hd : Int → Int} {p : Int} (kk : TKC lim nx kind bg num T p) (h : cG1 lim dp n m g T O nl nm tl hd p) (hn : ¬ (kind = 2 ∧ isNm T 1 bg nx)) : FSX lim T 1 bg := by
  obtain ⟨k, v, r, hc⟩ := c_rs h kk
  exact rsq_flt r (by decide) (by decide) (fun p v1 ρ q w => gD_c1.trans (cI_f (fun a => hn ((kc_nm hc).mpr a))))
theorem n5_f {lim nx kind bg num dp n m g : Int} {T O nl nm tl hd : Int → Int} {p : Int} (kk : TKC lim nx kind bg num T p) (h : cG5 lim dp n m g T O nl nm tl hd p) (hn : ¬ (kind = 2 ∧ isNm T 1 bg nx)) : FSX lim T 1 bg := by
  obtain ⟨k, v, r, hc⟩ := c_rs h.2 kk
  exact rsq_flt r (by decide) (by decide) (fun p v1 ρ q w => gD_c5.trans (cI_f (fun a => hn ((kc_nm hc).mpr a))))
theorem n4_f {lim nx kind bg num dp n m g : Int} {T O nl nm tl hd : Int → Int} {p a : Int} (kk : TKC lim nx kind bg num T p) (h : cG4 lim dp n m g T O nl nm tl hd a p) (hn : ¬ (kind = 2 ∧ isNm T 1 bg nx)) : FSX lim T 1 bg := by
  obtain ⟨y, z, h⟩ := h
  obtain ⟨k, v, r, hc⟩ := c_rs h kk
  exact rsq_flt r (by decide) (by decide) (fun p v1 ρ q w => gD_c4.trans (cI_f (fun a => hn ((kc_nm hc).mpr a))))
theorem e3_f {lim nx kind bg num dp n m g : Int} {T O nl nm tl hd : Int → Int} {p a : Int} (kk : TKC lim nx kind bg num T p) (h : cG3 lim dp n m g T O nl nm tl hd a p) (hn : ¬ (kind = 45 ∨ kind = 62)) : FSX lim T 1 bg := by
  obtain ⟨y, h⟩ := h
  obtain ⟨k, v, r, hc⟩ := c_rs h kk
  unfold kc at hc
  exact rsq_flt r (by decide) (by decide) (fun p v1 ρ q w => gD_c3.trans (cI_f (fun a => hn (by have := w (Or.inr a.1); have := a.1; have := a.2; omega))))
theorem g7_f {lim nx kind bg num dp n m g : Int} {T O nl nm tl hd : Int → Int} {p : Int} (kk : TKC lim nx kind bg num T p) (h : cG7 lim dp n m g T O nl nm tl hd p) (hn : kind ≠ 123) : FSX lim T 1 bg := by
  obtain ⟨k, v, r, hc⟩ := c_rs h kk
  unfold kc at hc
  exact rsq_flt r (by decide) (by decide) (fun p v1 ρ q w => gD_c7.trans (cI_f (fun a => hn (by have := w (Or.inr a.1); have := a.1; have := a.2; omega))))
theorem g7_go {lim nx kind bg num dp n m g : Int} {T O nl nm tl hd : Int → Int} {p : Int} (kk : TKC lim nx kind bg num T p) (h : cG7 lim dp n m g T O nl nm tl hd p) (hn : kind = 123) {p2 : Int} (hp : p2 = nx) : cG0 lim dp n m g T O nl nm tl hd p2 := by
  rw [hp]
  obtain ⟨k, v, r, hc⟩ := c_rs h kk
  unfold kc at hc
  exact (rsq_go r (by decide) (fun p v1 ρ q w => ⟨ρ, gD_c7.trans (cI_t ⟨by omega, (by have := w (Or.inr (by omega)); omega)⟩), q⟩))
theorem v9s_1 {lim nx kind bg num dp n m g : Int} {T O nl nm tl hd : Int → Int} {p : Int} (kk : TKC lim nx kind bg num T p) (h : cG9s lim dp n m g T O nl nm tl hd p) (hn : kind ≠ 2) : FSX lim T 1 bg := by
  obtain ⟨x, y, hx, h⟩ := h
  obtain ⟨k, v, r, hc⟩ := c_rs h kk
  unfold kc at hc
  exact rsq_flt r (by decide) (by decide) (fun p v1 ρ q w => gD_c9.trans (cI_f (fun a => hn (by omega))))
theorem v9s_4 {lim nx kind bg num dp n m g : Int} {T O nl nm tl hd : Int → Int} {p : Int} (kk : TKC lim nx kind bg num T p) (h : cG9s lim dp n m g T O nl nm tl hd p) (hk : kind = 2) (hn : ¬ (kind = 2 ∧ isWs T 1 bg nx)) : FSX lim T 4 bg := by
  obtain ⟨x, y, hx, h⟩ := h
  obtain ⟨k, v, r, hc⟩ := c_rs h kk
  have hw := fun a => hn ((kc_ws hc).mpr a)
  unfold kc at hc
  exact rsq_flt r (by decide) (by decide) (fun p v1 ρ q w => gD_c9.trans ((cI_t (by omega)).trans (cI_f (fun a => by
    rcases a with a | a
    · exact hw a.2
    · omega))))
theorem v9s_g {lim nx kind bg num dp n m g : Int} {T O nl nm tl hd : Int → Int} {p : Int} (kk : TKC lim nx kind bg num T p) (h : cG9s lim dp n m g T O nl nm tl hd p) (hw : kind = 2 ∧ isWs T 1 bg nx) {p2 : Int} (hp : p2 = nx) : cG10s lim dp n m g T O nl nm tl hd p2 := by
  rw [hp]
  obtain ⟨x, y, hx, h⟩ := h
  obtain ⟨k, v, r, hc⟩ := c_rs h kk
  have hw1 := (kc_ws hc).mp hw
  unfold kc at hc
  exact ⟨x, y, hx, (rsq_go r (by decide) (fun p v1 ρ q w => ⟨ρ, gD_c9.trans ((cI_t (by omega)).trans (cI_t (Or.inl ⟨hx, hw1⟩))), q⟩))⟩
theorem v10s_1 {lim nx kind bg num dp n m g : Int} {T O nl nm tl hd : Int → Int} {p : Int} (kk : TKC lim nx kind bg num T p) (h : cG10s lim dp n m g T O nl nm tl hd p) (hn : kind ≠ 61) : FSX lim T 1 bg := by
  obtain ⟨x, y, hx, h⟩ := h
  obtain ⟨k, v, r, hc⟩ := c_rs h kk
  unfold kc at hc
  exact rsq_flt r (by decide) (by decide) (fun p v1 ρ q w => gD_c10.trans (cI_f (fun a => hn (by have := w (Or.inr a.1); have := a.1; have := a.2; omega))))
theorem v10s_g {lim nx kind bg num dp n m g : Int} {T O nl nm tl hd : Int → Int} {p : Int} (kk : TKC lim nx kind bg num T p) (h : cG10s lim dp n m g T O nl nm tl hd p) (hn : kind = 61) {p2 : Int} (hp : p2 = nx) : cG11s lim dp n m g T O nl nm tl hd p2 := by
  rw [hp]
  obtain ⟨x, y, hx, h⟩ := h
  obtain ⟨k, v, r, hc⟩ := c_rs h kk
  unfold kc at hc
  exact ⟨x, y, hx, (rsq_go r (by decide) (fun p v1 ρ q w => ⟨ρ, gD_c10.trans (cI_t ⟨by omega, (by have := w (Or.inr (by omega)); omega)⟩), q⟩))⟩
theorem v11s_1 {lim nx kind bg num dp n m g : Int} {T O nl nm tl hd : Int → Int} {p : Int} (kk : TKC lim nx kind bg num T p) (h : cG11s lim dp n m g T O nl nm tl hd p) (hn : kind ≠ 3) : FSX lim T 1 bg := by
  obtain ⟨x, y, hx, h⟩ := h
  obtain ⟨k, v, r, hc⟩ := c_rs h kk
  unfold kc at hc
  exact rsq_flt r (by decide) (by decide) (fun p v1 ρ q w => gD_c11.trans (cI_f (fun a => hn (by omega))))
theorem v11s_5 {lim nx kind bg num dp n m g : Int} {T O nl nm tl hd : Int → Int} {p : Int} (kk : TKC lim nx kind bg num T p) (h : cG11s lim dp n m g T O nl nm tl hd p) (hk : kind = 3) (hn : ¬ (1 ≤ num ∧ num ≤ 99)) : FSX lim T 5 bg := by
  obtain ⟨x, y, hx, h⟩ := h
  obtain ⟨k, v, r, hc⟩ := c_rs h kk
  unfold kc at hc
  exact rsq_flt r (by decide) (by decide) (fun p v1 ρ q w => gD_c11.trans ((cI_t (by omega)).trans (cI_f (fun a => by rw [if_pos hx] at a; have := w (Or.inl (by omega)); exact hn ⟨by omega, by omega⟩))))
theorem v11s_g {lim nx kind bg num dp n m g : Int} {T O nl nm tl hd : Int → Int} {p : Int} (kk : TKC lim nx kind bg num T p) (h : cG11s lim dp n m g T O nl nm tl hd p) (hk : kind = 3) (hn : 1 ≤ num ∧ num ≤ 99) {p2 : Int} (hp : p2 = nx) : cG12s lim dp n m g T O nl nm tl hd p2 := by
  rw [hp]
  obtain ⟨x, y, hx, h⟩ := h
  obtain ⟨k, v, r, hc⟩ := c_rs h kk
  unfold kc at hc
  exact ⟨x, y, v, hx, (rsq_go r (by decide) (fun p v1 ρ q w => ⟨ρ, by
    have e := w (Or.inl (by omega))
    rw [e]
    exact gD_c11.trans ((cI_t (by omega)).trans (cI_t (by rw [if_pos hx]; omega))), q⟩))⟩
theorem v12s_4 {lim nx kind bg num dp n m g : Int} {T O nl nm tl hd : Int → Int} {p : Int} (kk : TKC lim nx kind bg num T p) (h : cG12s lim dp n m g T O nl nm tl hd p) (hn : kind = 2) : FSX lim T 4 bg := by
  obtain ⟨x, y, z, hx, h⟩ := h
  obtain ⟨k, v, r, hc⟩ := c_rs h kk
  unfold kc at hc
  exact rsq_flt r (by decide) (by decide) (fun p v1 ρ q w => gD_c12.trans ((cI_f (fun a => by have := a.1; omega)).trans (cI_t (by omega))))
theorem v12s_1 {lim nx kind bg num dp n m g : Int} {T O nl nm tl hd : Int → Int} {p : Int} (kk : TKC lim nx kind bg num T p) (h : cG12s lim dp n m g T O nl nm tl hd p) (hn : kind ≠ 93) (h2 : kind ≠ 2) : FSX lim T 1 bg := by
  obtain ⟨x, y, z, hx, h⟩ := h
  obtain ⟨k, v, r, hc⟩ := c_rs h kk
  unfold kc at hc
  exact rsq_flt r (by decide) (by decide) (fun p v1 ρ q w => gD_c12.trans ((cI_f (fun a => hn (by have := w (Or.inr a.1); have := a.1; have := a.2; omega))).trans (cI_f (by omega))))
theorem v12s_g {lim nx kind bg num dp n m g : Int} {T O nl nm tl hd : Int → Int} {p : Int} (kk : TKC lim nx kind bg num T p) (h : cG12s lim dp n m g T O nl nm tl hd p) (hn : kind = 93) {p2 : Int} (hp : p2 = nx) : cG13 lim dp n m g T O nl nm tl hd p2 := by
  rw [hp]
  obtain ⟨x, y, z, hx, h⟩ := h
  obtain ⟨k, v, r, hc⟩ := c_rs h kk
  unfold kc at hc
  obtain ⟨f0, f1, mm, ρ, p1, v1, g1, q, g3, g4⟩ := r
  have hg := (gr_good g1).resolve_left (by show (12 : Int) ≠ 100; decide)
  obtain ⟨⟨hx1, hx2, hy1, -⟩, hr⟩ := hg
  have e := g4 (Or.inr (by omega))
  refine ⟨rfl, mm + 1, _, ⟨_, g1, (show (12 : Int) < 100 by decide), k, bg, nx, v1, g3, (gD_c12.trans (cI_t ⟨by omega, by omega⟩)).symm⟩, ?_⟩
  rw [if_pos hx]
  exact ⟨opn_ext q.1 (rsz_ok hr ⟨hx, hx2⟩).2, gpr_sz q.2 hr ⟨hx, hx2⟩⟩
theorem v9w_1 {lim nx kind bg num dp n m g : Int} {T O nl nm tl hd : Int → Int} {p : Int} (kk : TKC lim nx kind bg num T p) (h : cG9w lim dp n m g T O nl nm tl hd p) (hn : kind ≠ 2) : FSX lim T 1 bg := by
  obtain ⟨y, h⟩ := h
  obtain ⟨k, v, r, hc⟩ := c_rs h kk
  unfold kc at hc
  exact rsq_flt r (by decide) (by decide) (fun p v1 ρ q w => gD_c9.trans (cI_f (fun a => hn (by omega))))
theorem v9w_4 {lim nx kind bg num dp n m g : Int} {T O nl nm tl hd : Int → Int} {p : Int} (kk : TKC lim nx kind bg num T p) (h : cG9w lim dp n m g T O nl nm tl hd p) (hk : kind = 2) (hn : ¬ (kind = 2 ∧ isWw T 1 bg nx)) : FSX lim T 4 bg := by
  obtain ⟨y, h⟩ := h
  obtain ⟨k, v, r, hc⟩ := c_rs h kk
  have hw := fun a => hn ((kc_ww hc).mpr a)
  unfold kc at hc
  exact rsq_flt r (by decide) (by decide) (fun p v1 ρ q w => gD_c9.trans ((cI_t (by omega)).trans (cI_f (fun a => by
    rcases a with a | a
    · omega
    · exact hw a.2))))
theorem v9w_g {lim nx kind bg num dp n m g : Int} {T O nl nm tl hd : Int → Int} {p : Int} (kk : TKC lim nx kind bg num T p) (h : cG9w lim dp n m g T O nl nm tl hd p) (hw : kind = 2 ∧ isWw T 1 bg nx) {p2 : Int} (hp : p2 = nx) : cG10w lim dp n m g T O nl nm tl hd p2 := by
  rw [hp]
  obtain ⟨y, h⟩ := h
  obtain ⟨k, v, r, hc⟩ := c_rs h kk
  have hw1 := (kc_ww hc).mp hw
  unfold kc at hc
  exact ⟨y, (rsq_go r (by decide) (fun p v1 ρ q w => ⟨ρ, gD_c9.trans ((cI_t (by omega)).trans (cI_t (Or.inr ⟨by omega, hw1⟩))), q⟩))⟩
theorem v10w_1 {lim nx kind bg num dp n m g : Int} {T O nl nm tl hd : Int → Int} {p : Int} (kk : TKC lim nx kind bg num T p) (h : cG10w lim dp n m g T O nl nm tl hd p) (hn : kind ≠ 61) : FSX lim T 1 bg := by
  obtain ⟨y, h⟩ := h
  obtain ⟨k, v, r, hc⟩ := c_rs h kk
  unfold kc at hc
  exact rsq_flt r (by decide) (by decide) (fun p v1 ρ q w => gD_c10.trans (cI_f (fun a => hn (by have := w (Or.inr a.1); have := a.1; have := a.2; omega))))
theorem v10w_g {lim nx kind bg num dp n m g : Int} {T O nl nm tl hd : Int → Int} {p : Int} (kk : TKC lim nx kind bg num T p) (h : cG10w lim dp n m g T O nl nm tl hd p) (hn : kind = 61) {p2 : Int} (hp : p2 = nx) : cG11w lim dp n m g T O nl nm tl hd p2 := by
  rw [hp]
  obtain ⟨y, h⟩ := h
  obtain ⟨k, v, r, hc⟩ := c_rs h kk
  unfold kc at hc
  exact ⟨y, (rsq_go r (by decide) (fun p v1 ρ q w => ⟨ρ, gD_c10.trans (cI_t ⟨by omega, (by have := w (Or.inr (by omega)); omega)⟩), q⟩))⟩
theorem v11w_1 {lim nx kind bg num dp n m g : Int} {T O nl nm tl hd : Int → Int} {p : Int} (kk : TKC lim nx kind bg num T p) (h : cG11w lim dp n m g T O nl nm tl hd p) (hn : kind ≠ 3) : FSX lim T 1 bg := by
  obtain ⟨y, h⟩ := h
  obtain ⟨k, v, r, hc⟩ := c_rs h kk
  unfold kc at hc
  exact rsq_flt r (by decide) (by decide) (fun p v1 ρ q w => gD_c11.trans (cI_f (fun a => hn (by omega))))
theorem v11w_5 {lim nx kind bg num dp n m g : Int} {T O nl nm tl hd : Int → Int} {p : Int} (kk : TKC lim nx kind bg num T p) (h : cG11w lim dp n m g T O nl nm tl hd p) (hk : kind = 3) (hn : ¬ (1 ≤ num ∧ num ≤ 9)) : FSX lim T 5 bg := by
  obtain ⟨y, h⟩ := h
  obtain ⟨k, v, r, hc⟩ := c_rs h kk
  unfold kc at hc
  exact rsq_flt r (by decide) (by decide) (fun p v1 ρ q w => gD_c11.trans ((cI_t (by omega)).trans (cI_f (fun a => by rw [if_neg (show ¬ (0 : Int) ≤ -1 by decide)] at a; have := w (Or.inl (by omega)); exact hn ⟨by omega, by omega⟩))))
theorem v11w_g {lim nx kind bg num dp n m g : Int} {T O nl nm tl hd : Int → Int} {p : Int} (kk : TKC lim nx kind bg num T p) (h : cG11w lim dp n m g T O nl nm tl hd p) (hk : kind = 3) (hn : 1 ≤ num ∧ num ≤ 9) {p2 : Int} (hp : p2 = nx) : cG12w lim dp n m g T O nl nm tl hd p2 := by
  rw [hp]
  obtain ⟨y, h⟩ := h
  obtain ⟨k, v, r, hc⟩ := c_rs h kk
  unfold kc at hc
  exact ⟨y, v, (rsq_go r (by decide) (fun p v1 ρ q w => ⟨ρ, by
    have e := w (Or.inl (by omega))
    rw [e]
    exact gD_c11.trans ((cI_t (by omega)).trans (cI_t (by rw [if_neg (show ¬ (0 : Int) ≤ -1 by decide)]; omega))), q⟩))⟩
theorem v12w_4 {lim nx kind bg num dp n m g : Int} {T O nl nm tl hd : Int → Int} {p : Int} (kk : TKC lim nx kind bg num T p) (h : cG12w lim dp n m g T O nl nm tl hd p) (hn : kind = 2) : FSX lim T 4 bg := by
  obtain ⟨y, z, h⟩ := h
  obtain ⟨k, v, r, hc⟩ := c_rs h kk
  unfold kc at hc
  exact rsq_flt r (by decide) (by decide) (fun p v1 ρ q w => gD_c12.trans ((cI_f (fun a => by have := a.1; omega)).trans (cI_t (by omega))))
theorem v12w_1 {lim nx kind bg num dp n m g : Int} {T O nl nm tl hd : Int → Int} {p : Int} (kk : TKC lim nx kind bg num T p) (h : cG12w lim dp n m g T O nl nm tl hd p) (hn : kind ≠ 93) (h2 : kind ≠ 2) : FSX lim T 1 bg := by
  obtain ⟨y, z, h⟩ := h
  obtain ⟨k, v, r, hc⟩ := c_rs h kk
  unfold kc at hc
  exact rsq_flt r (by decide) (by decide) (fun p v1 ρ q w => gD_c12.trans ((cI_f (fun a => hn (by have := w (Or.inr a.1); have := a.1; have := a.2; omega))).trans (cI_f (by omega))))
theorem v12w_g {lim nx kind bg num dp n m g : Int} {T O nl nm tl hd : Int → Int} {p : Int} (kk : TKC lim nx kind bg num T p) (h : cG12w lim dp n m g T O nl nm tl hd p) (hn : kind = 93) {p2 : Int} (hp : p2 = nx) : cG13 lim dp n m g T O nl nm tl hd p2 := by
  rw [hp]
  obtain ⟨y, z, h⟩ := h
  obtain ⟨k, v, r, hc⟩ := c_rs h kk
  unfold kc at hc
  obtain ⟨f0, f1, mm, ρ, p1, v1, g1, q, g3, g4⟩ := r
  have hg := (gr_good g1).resolve_left (by show (12 : Int) ≠ 100; decide)
  obtain ⟨⟨hx1, hx2, hy1, -⟩, hr⟩ := hg
  have e := g4 (Or.inr (by omega))
  refine ⟨rfl, mm + 1, _, ⟨_, g1, (show (12 : Int) < 100 by decide), k, bg, nx, v1, g3, (gD_c12.trans (cI_t ⟨by omega, by omega⟩)).symm⟩, ?_⟩
  rw [if_neg (show ¬ (0 : Int) ≤ -1 by decide)]
  exact ⟨opn_ext q.1 (swR_ok hr hy1).2, gpr_sw q.2 hr hy1⟩
theorem n2_9 {lim nx kind bg num dp n m g : Int} {T O nl nm tl hd : Int → Int} {p : Int} (kk : TKC lim nx kind bg num T p) (h : cG2 lim dp n m g T O nl nm tl hd p) (hn : kind = 91) {p2 : Int} (hp : p2 = nx) : cG9s lim dp n m g T O nl nm tl hd p2 := by
  rw [hp]
  obtain ⟨x, hx, h⟩ := h
  obtain ⟨k, v, r, hc⟩ := c_rs h kk
  unfold kc at hc
  exact ⟨x, 0, hx, rsq_go r (by decide) (fun p v1 ρ q w => ⟨ρ, gD_c2.trans (cI_t ⟨by omega, (by have := w (Or.inr (by omega)); omega)⟩), q⟩)⟩
theorem n2_s {lim nx kind bg num dp n m g : Int} {T O nl nm tl hd : Int → Int} {p : Int} (kk : TKC lim nx kind bg num T p) (h : cG2 lim dp n m g T O nl nm tl hd p) (hn : kind ≠ 91) : cNs lim nx kind bg num dp n m g T O nl nm tl hd := by
  obtain ⟨x, hx, h⟩ := h
  obtain ⟨k, v, r, hc⟩ := c_rs h kk
  refine ⟨k, v, ndq_of r (by decide) (fun p v1 ρ q w => ⟨ρ, q, ?_⟩), hc⟩
  unfold kc at hc
  exact gD_c2.trans (cI_f (fun a => hn (by have := w (Or.inr a.1); have := a.1; have := a.2; omega)))
theorem n13_s {lim nx kind bg num dp n m g : Int} {T O nl nm tl hd : Int → Int} {p : Int} (kk : TKC lim nx kind bg num T p) (h : cG13 lim dp n m g T O nl nm tl hd p) : cNs lim nx kind bg num dp n m g T O nl nm tl hd := by
  obtain ⟨k, v, r, hc⟩ := c_rs h kk
  exact ⟨k, v, ndq_of r (by decide) (fun p v1 ρ q w => ⟨ρ, q, gD_c13⟩), hc⟩
theorem s_go {lim nx kind bg num dp n m g : Int} {T O nl nm tl hd : Int → Int} (h : cNs lim nx kind bg num dp n m g T O nl nm tl hd) (hn : kind = 59) {p2 : Int} (hp : p2 = nx) : cG0 lim dp n m g T O nl nm tl hd p2 := by
  rw [hp]
  obtain ⟨k, v, h, hc⟩ := h
  unfold kc at hc
  exact ndq_go h (by omega) (by omega)
theorem s_f {lim nx kind bg num dp n m g : Int} {T O nl nm tl hd : Int → Int} (h : cNs lim nx kind bg num dp n m g T O nl nm tl hd) (hn : kind ≠ 59) : FSX lim T 1 bg := by
  obtain ⟨k, v, h, hc⟩ := h
  unfold kc at hc
  exact ndq_flt h (fun a => hn (by have := a.1; have := a.2; omega))
theorem le_3 {lim nx kind bg num dp n m g : Int} {T O nl nm tl hd : Int → Int} {p a : Int} (kk : TKC lim nx kind bg num T p) (h : cG3 lim dp n m g T O nl nm tl hd a p) (hn : kind = 45 ∨ kind = 62) : cLE lim nx kind bg num dp n m g T O nl nm tl hd a := by
  exact Or.inl ⟨p, h, kk, hn⟩
theorem le_8 {lim nx kind bg num dp n m g : Int} {T O nl nm tl hd : Int → Int} {p a : Int} (kk : TKC lim nx kind bg num T p) (h : cG8 lim dp n m g T O nl nm tl hd a p) : cLE lim nx kind bg num dp n m g T O nl nm tl hd a := by
  exact Or.inr ⟨p, h, kk⟩
theorem le_4 {lim nx kind bg num dp n m g : Int} {T O nl nm tl hd : Int → Int} {a : Int} (h : cLE lim nx kind bg num dp n m g T O nl nm tl hd a) (hn : kind = 45 ∨ kind = 62) {p2 : Int} (hp : p2 = nx) : cG4 lim dp n m g T O nl nm tl hd a p2 := by
  rw [hp]
  rcases h with ⟨p, ⟨y, h⟩, kk, -⟩ | ⟨p, ⟨y, h⟩, kk⟩
  · obtain ⟨k, v, r, hc⟩ := c_rs h kk
    unfold kc at hc
    exact ⟨y, (if v = 62 then 1 else 0), rsq_go r (by decide) (fun p v1 ρ q w => ⟨ρ, by rw [w (Or.inr (by omega))]; exact gD_c3.trans (cI_t ⟨by omega, by omega⟩), q⟩)⟩
  · obtain ⟨k, v, r, hc⟩ := c_rs h kk
    unfold kc at hc
    exact ⟨y, (if v = 62 then 1 else 0), rsq_go r (by decide) (fun p v1 ρ q w => ⟨ρ, by rw [w (Or.inr (by omega))]; exact gD_c8.trans (cI_t ⟨by omega, by omega⟩), q⟩)⟩
theorem le_9 {lim nx kind bg num dp n m g : Int} {T O nl nm tl hd : Int → Int} {a : Int} (h : cLE lim nx kind bg num dp n m g T O nl nm tl hd a) (hn : kind = 91) {p2 : Int} (hp : p2 = nx) : cG9w lim dp n m g T O nl nm tl hd p2 := by
  rw [hp]
  rcases h with ⟨p, -, -, q⟩ | ⟨p, ⟨y, h⟩, kk⟩
  · omega
  · obtain ⟨k, v, r, hc⟩ := c_rs h kk
    unfold kc at hc
    exact ⟨y, rsq_go r (by decide) (fun p v1 ρ q w => ⟨ρ, gD_c8.trans ((cI_f (fun b => by have := b.2; have := w (Or.inr (by omega)); omega)).trans (cI_t ⟨by omega, (by have := w (Or.inr (by omega)); omega)⟩)), q.1⟩)⟩
theorem le_s {lim nx kind bg num dp n m g : Int} {T O nl nm tl hd : Int → Int} {a : Int} (h : cLE lim nx kind bg num dp n m g T O nl nm tl hd a) (hn : kind ≠ 91 ∧ kind ≠ 45 ∧ kind ≠ 62) : cNs lim nx kind bg num dp n m g T O nl nm tl hd := by
  rcases h with ⟨p, -, -, q⟩ | ⟨p, ⟨y, h⟩, kk⟩
  · omega
  · obtain ⟨k, v, r, hc⟩ := c_rs h kk
    refine ⟨k, v, ndq_of r (by decide) (fun p v1 ρ q w => ⟨ρ, q.1, ?_⟩), hc⟩
    unfold kc at hc
    exact gD_c8.trans ((cI_f (fun b => by have := w (Or.inr b.1); have := b.1; have := b.2; omega)).trans (cI_f (fun b => by have := w (Or.inr b.1); have := b.1; have := b.2; omega)))
theorem cgt_0 {lim nx kind bg num dp n m g : Int} {T O nl nm tl hd : Int → Int} {p : Int} (kk : TKC lim nx kind bg num T p) (h : cG0 lim dp n m g T O nl nm tl hd p) (hk : kind = 2) : CGT lim nx bg n m g T nl nm tl hd := by
  obtain ⟨k, v, r, hc⟩ := c_rs h kk
  unfold kc at hc
  obtain ⟨f0, f1, mm, ρ, p1, v1, g1, q, g3, g4⟩ := r
  have e : k = 1 := by omega
  rw [e] at g3
  exact ⟨mm, _, _, _, _, _, _, p1, v1, ρ, g1, by decide, g3, q.2⟩
theorem cgt_1 {lim nx kind bg num dp n m g : Int} {T O nl nm tl hd : Int → Int} {p : Int} (kk : TKC lim nx kind bg num T p) (h : cG1 lim dp n m g T O nl nm tl hd p) (hk : kind = 2) : CGT lim nx bg n m g T nl nm tl hd := by
  obtain ⟨k, v, r, hc⟩ := c_rs h kk
  unfold kc at hc
  obtain ⟨f0, f1, mm, ρ, p1, v1, g1, q, g3, g4⟩ := r
  have e : k = 1 := by omega
  rw [e] at g3
  exact ⟨mm, _, _, _, _, _, _, p1, v1, ρ, g1, by decide, g3, q.2⟩
theorem cgt_4 {lim nx kind bg num dp n m g : Int} {T O nl nm tl hd : Int → Int} {p a : Int} (kk : TKC lim nx kind bg num T p) (h : cG4 lim dp n m g T O nl nm tl hd a p) (hk : kind = 2) : CGT lim nx bg n m g T nl nm tl hd := by
  obtain ⟨y, z, h⟩ := h
  obtain ⟨k, v, r, hc⟩ := c_rs h kk
  unfold kc at hc
  obtain ⟨f0, f1, mm, ρ, p1, v1, g1, q, g3, g4⟩ := r
  have e : k = 1 := by omega
  rw [e] at g3
  exact ⟨mm, _, _, _, _, _, _, p1, v1, ρ, g1, by decide, g3, q.1.2⟩
theorem cgt_e {lim nx kind bg num dp n m g : Int} {T O nl nm tl hd : Int → Int} (h : cRE lim nx kind bg num dp n m g T O nl nm tl hd) : CGT lim nx bg n m g T nl nm tl hd := by
  obtain ⟨⟨p, h, kk⟩, hk, -⟩ := h
  exact cgt_0 kk h hk
theorem cue_e {lim nx kind bg num dp n m g : Int} {T O nl nm tl hd : Int → Int} (h : cRE lim nx kind bg num dp n m g T O nl nm tl hd) : cUE lim nx kind bg num dp T O := by
  obtain ⟨⟨p, h, kk⟩, hk⟩ := h
  exact ⟨⟨p, tsq_imp h (fun ρ q => q.1), kk⟩, hk⟩
theorem cu_1 {lim dp n m g : Int} {T O nl nm tl hd : Int → Int} {p : Int} (h : cG1 lim dp n m g T O nl nm tl hd p) : cU1 lim dp T O p := by
  exact tsq_imp h (fun ρ q => q.1)
theorem cu_4 {lim dp n m g : Int} {T O nl nm tl hd : Int → Int} {a p : Int} (h : cG4 lim dp n m g T O nl nm tl hd a p) : cU4 lim dp T O a p := by
  obtain ⟨y, z, h⟩ := h
  exact ⟨y, z, tsq_imp h (fun ρ q => ⟨q.1.1, q.2⟩)⟩
theorem c_join {Q : (Int → Int) → Prop} {lim nx kind bg num n m g : Int} {T nl nm tl hd : Int → Int} {c x y z gg d p ans : Int} (h : TSQ Q lim 0 T c x y z gg d p) (hc : c < 100) (kk : TKC lim nx kind bg num T p) (hk2 : kind = 2) (q : CGM lim nx bg n m g T nl nm tl hd ans) : ∃ (mm : Nat) (ρ : Int → Int) (v : Int), GR T lim mm (c, x, y, z, gg, d, p, ρ) ∧ Q ρ ∧ TK T lim p 1 bg nx v ∧ ROK ρ ∧ (bg ≤ nx ∧ nx ≤ bg + 8) ∧ MGQ n m g nl nm tl hd T ρ bg nx gg ans := by
  obtain ⟨_, m1, ρ1, h1, h2⟩ := h
  obtain ⟨k, v, ⟨_, v2, hk, _⟩, hkc⟩ := kk
  obtain ⟨mm, c_zq, x_zq, y_zq, z_zq, q_zq, d_zq, p_zq, v_zq, ρ, g1, g2, g4, g6⟩ := q
  unfold kc at hkc
  have ek : k = 1 := by omega
  rw [ek] at hk
  obtain ⟨e, -⟩ := gr_tok h1 g1 hc g2 hk g4 (by decide) (by decide)
  simp only [Prod.mk.injEq] at e
  obtain ⟨rfl, rfl, rfl, rfl, rfl, rfl, rfl, rfl⟩ := e
  have hg := (gr_good g1).resolve_left (by show c ≠ 100; omega)
  have hl := tk_lim g4
  exact ⟨mm, ρ1, v_zq, g1, h2, g4, hg.2, ⟨hl.2.1, (hl.2.2.2 rfl).1⟩, g6⟩
theorem mg_no {n m g b e q ans : Int} {nl nm tl hd T ρ : Int → Int} {K : Int → (Int → Int) → zS} (h : MGQ n m g nl nm tl hd T ρ b e q ans) (hr : ROK ρ) (ha : ans = -1) : gM T ρ q b e K = gF 3 b ∧ ¬ 0 ≤ knR T ρ b e := by
  have r0 := hr.1
  rcases h with ⟨_, h1, h2, _⟩ | ⟨h1, _⟩ | ⟨_, _, h1, _⟩
  · unfold gM
    rw [cI_f (by omega), cI_t h2]
    exact ⟨rfl, by omega⟩
  · omega
  · omega
theorem mg_go {n m g b e q ans : Int} {nl nm tl hd T ρ : Int → Int} (h : MGQ n m g nl nm tl hd T ρ b e q ans) (hr : ROK ρ) (he : b ≤ e ∧ e ≤ b + 8) (ha : ans ≠ -1) : ∃ ρ', (∀ K : Int → (Int → Int) → zS, gM T ρ q b e K = K ans ρ') ∧ cGPR n m g nl nm tl hd ρ' ∧ ROK ρ' ∧ RGK ρ ρ' ∧ 0 ≤ ans ∧ ans < ρ' 0 ∧ ρ' 1 = ρ 1 ∧ ρ 0 ≤ ρ' 0 ∧ ((0 ≤ knR T ρ b e ∧ knR T ρ b e = ans ∧ ρ' = ρ) ∨ (knR T ρ b e < 0 ∧ ρ 0 ≠ 24 ∧ ans = ρ 0 ∧ EOK ρ ∧ ρ' = nnR T ρ b e q)) := by
  rcases h with ⟨h1, _⟩ | ⟨h1, h2, h3⟩ | ⟨h1, h2, h3, h4, h5⟩
  · omega
  · have h0 : 0 ≤ knR T ρ b e := by omega
    have hl := knR_lt h0
    refine ⟨ρ, fun K => ?_, h3, hr, rgk_r ρ, h1, by omega, rfl, by omega, Or.inl ⟨h0, h2, rfl⟩⟩
    unfold gM
    rw [cI_t h0, h2]
  · obtain ⟨o1, o2, o3, o4⟩ := nnR_ok (t := T) (g := q) hr h2 he
    have r0 := hr.1
    refine ⟨_, fun K => ?_, h5, o1, o2, by omega, by omega, o3, by omega, Or.inr ⟨h1, h2, h3, h4, rfl⟩⟩
    unfold gM
    rw [cI_f (by omega), cI_f h2, h3]
theorem m1_f {lim nx kind bg num dp n m g : Int} {T O nl nm tl hd : Int → Int} {p ans : Int} (kk : TKC lim nx kind bg num T p) (h : cU1 lim dp T O p) (hn : kind = 2 ∧ isNm T 1 bg nx) (q : CGM lim nx bg n m g T nl nm tl hd ans) (ha : ans = -1) : FSX lim T 3 bg := by
  obtain ⟨mm, ρ, v, g1, g2, g4, hr, he, hq⟩ := c_join h (by decide) kk (by omega) q
  have g3 := g2
  exact ⟨by decide, mm + 1, _, g1, (show (1 : Int) < 100 by decide), 1, bg, nx, v, g4, (gD_c1.trans ((cI_t hn.2).trans (mg_no hq hr ha).1)).symm⟩
theorem m1_g {lim nx kind bg num dp n m g : Int} {T O nl nm tl hd : Int → Int} {p ans : Int} (kk : TKC lim nx kind bg num T p) (h : cU1 lim dp T O p) (hn : kind = 2 ∧ isNm T 1 bg nx) (q : CGM lim nx bg n m g T nl nm tl hd ans) (ha : ans ≠ -1) {p2 : Int} (hp : p2 = nx) : cG2 lim dp n m g T O nl nm tl hd p2 := by
  rw [hp]
  obtain ⟨mm, ρ, v, g1, g2, g4, hr, he, hq⟩ := c_join h (by decide) kk (by omega) q
  have g3 := g2
  obtain ⟨ρ', m1, m2, m3, m4, m5, -⟩ := mg_go hq hr he ha
  exact ⟨ans, m5, rfl, mm + 1, ρ', ⟨_, g1, (show (1 : Int) < 100 by decide), 1, bg, nx, v, g4, (gD_c1.trans ((cI_t hn.2).trans (m1 _))).symm⟩, opn_ext g3 m4, m2⟩
theorem m0_f {lim nx kind bg num dp n m g : Int} {T O nl nm tl hd : Int → Int} {ans : Int} (h : cUE lim nx kind bg num dp T O) (q : CGM lim nx bg n m g T nl nm tl hd ans) (ha : ans = -1) : FSX lim T 3 bg := by
  obtain ⟨⟨p, h, kk⟩, hk, hn⟩ := h
  obtain ⟨mm, ρ, v, g1, g2, g4, hr, he, hq⟩ := c_join h (by decide) kk (by omega) q
  have g3 := g2
  exact ⟨by decide, mm + 1, _, g1, (show (0 : Int) < 100 by decide), 1, bg, nx, v, g4, (gD_c0.trans ((cI_f (fun a => absurd a.1 (by decide))).trans ((cI_f (fun a => absurd a.1 (by decide))).trans ((cI_f hn.2.1).trans ((cI_f hn.2.2).trans ((cI_t rfl).trans ((mg_no hq hr ha).1))))))).symm⟩
theorem m0_g {lim nx kind bg num dp n m g : Int} {T O nl nm tl hd : Int → Int} {ans : Int} (h : cUE lim nx kind bg num dp T O) (q : CGM lim nx bg n m g T nl nm tl hd ans) (ha : ans ≠ -1) {p2 : Int} (hp : p2 = nx) : cG3 lim dp n m g T O nl nm tl hd ans p2 := by
  rw [hp]
  obtain ⟨⟨p, h, kk⟩, hk, hn⟩ := h
  obtain ⟨mm, ρ, v, g1, g2, g4, hr, he, hq⟩ := c_join h (by decide) kk (by omega) q
  have g3 := g2
  obtain ⟨ρ', m1, m2, m3, m4, m5, m6, -⟩ := mg_go hq hr he ha
  exact ⟨ρ 1, rfl, mm + 1, ρ', ⟨_, g1, (show (0 : Int) < 100 by decide), 1, bg, nx, v, g4, (gD_c0.trans ((cI_f (fun a => absurd a.1 (by decide))).trans ((cI_f (fun a => absurd a.1 (by decide))).trans ((cI_f hn.2.1).trans ((cI_f hn.2.2).trans ((cI_t rfl).trans (m1 _))))))).symm⟩, ⟨opn_ext g3 m4, m2⟩, m5, m6⟩
theorem lk_btr {n m g a b : Int} {nl nm tl hd lk ρ : Int → Int} (h : cGPR n m g nl nm tl hd ρ) (hr : ROK ρ) (l : LKG m tl hd lk) (ha : 0 ≤ a ∧ a < ρ 0) (hb : 0 ≤ b ∧ b < ρ 0) : lk (a * 24 + b) ≠ -1 ↔ BTR ρ b a := by
  have a1 := h.2.1
  have hx := h.2.2.2.2
  have r0 := hr.2.1
  rw [show a * 24 + b = 24 * a + b by omega]
  refine (l a b ha.1 (by omega) hb.1 (by omega)).trans ⟨?_, ?_⟩
  · rintro ⟨e, q0, q1, q⟩
    have z := hx e q0 (by omega)
    exact ⟨e, q0, by omega, by omega⟩
  · rintro ⟨e, q0, q1, q⟩
    have z := hx e q0 (by omega)
    exact ⟨e, q0, by omega, by omega⟩
theorem nn_lk {n m g a b e q : Int} {nl nm tl hd lk T ρ : Int → Int} (h : cGPR n m g nl nm tl hd (nnR T ρ b e q)) (hr : ROK ρ) (h0 : ρ 0 ≠ 24) (he : b ≤ e ∧ e ≤ b + 8) (ek : EOK ρ) (l : LKG m tl hd lk) (ha : 0 ≤ a ∧ a < ρ 0) : lk (a * 24 + ρ 0) = -1 := by
  obtain ⟨o1, o2, o3, o4⟩ := nnR_ok (t := T) (g := q) hr h0 he
  refine Classical.byContradiction (fun z => ?_)
  have r0 := hr.1
  obtain ⟨e_zq, q0, q1, q2⟩ := (lk_btr h o1 l (b := ρ 0) ⟨ha.1, by omega⟩ ⟨r0, by omega⟩).mp z
  rw [o3] at q1
  have w := ek e_zq q0 q1
  obtain ⟨x0, x1, x2, x3, x4, x5⟩ := hr
  have e1 : nnR T ρ b e q (267 + e_zq) = ρ (267 + e_zq) := by
    unfold nnR
    rw [ruR_e (by omega), ruR_e (by omega), rnR_e (by omega), ruR_e (by omega), ruR_e (by omega)]
  have e2 : nnR T ρ b e q (315 + e_zq) = ρ (315 + e_zq) := by
    unfold nnR
    rw [ruR_e (by omega), ruR_e (by omega), rnR_e (by omega), ruR_e (by omega), ruR_e (by omega)]
  rw [e1, e2] at q2
  omega
theorem m4_2 {lim nx kind bg num dp n m g : Int} {T O nl nm tl hd : Int → Int} {a p b : Int} (kk : TKC lim nx kind bg num T p) (h : cU4 lim dp T O a p) (hn : kind = 2 ∧ isNm T 1 bg nx) (q : CGM lim nx bg n m g T nl nm tl hd b) (hb : b ≠ -1) {lk : Int → Int} (l : LKG m tl hd lk) (hj : a = b ∨ lk (a * 24 + b) ≠ -1) : FSX lim T 2 bg := by
  obtain ⟨y, z, h⟩ := h
  obtain ⟨mm, ρ, v, g1, g2, g4, hr, he, hq⟩ := c_join h (by decide) kk (by omega) q
  have g3 := g2.1
  obtain ⟨ρ', m1, m2, m3, m4, m5, m6, m7, m8, m9⟩ := mg_go hq hr he hb
  refine ⟨by decide, mm + 1, _, g1, (show (4 : Int) < 100 by decide), 1, bg, nx, v, g4, (gD_c4.trans ((cI_t hn.2).trans (cI_t ?_))).symm⟩
  rcases m9 with ⟨k1, k2, k3⟩ | ⟨k1, k2, k3, k4, k5⟩
  · subst k3
    refine ⟨k1, ?_⟩
    rw [k2]
    rcases hj with hj | hj
    · exact Or.inl hj.symm
    · exact Or.inr ((lk_btr m2 hr l g2.2 ⟨m5, m6⟩).mp hj)
  · exfalso
    rcases hj with hj | hj
    · have := g2.2.2; omega
    · rw [k5] at m2; rw [k3] at hj; exact hj (nn_lk m2 hr k2 he k4 l g2.2)
theorem m4_3 {lim nx kind bg num dp n m g : Int} {T O nl nm tl hd : Int → Int} {a p b : Int} (kk : TKC lim nx kind bg num T p) (h : cU4 lim dp T O a p) (hn : kind = 2 ∧ isNm T 1 bg nx) (q : CGM lim nx bg n m g T nl nm tl hd b) {lk : Int → Int} (hj : b = -1 ∨ (LKG m tl hd lk ∧ 48 ≤ m ∧ a ≠ b ∧ lk (a * 24 + b) = -1)) : FSX lim T 3 bg := by
  obtain ⟨y, z, h⟩ := h
  obtain ⟨mm, ρ, v, g1, g2, g4, hr, he, hq⟩ := c_join h (by decide) kk (by omega) q
  have g3 := g2.1
  by_cases hb : b = -1
  · obtain ⟨m1, m2⟩ := mg_no (K := fun i ρ' => (8, i, y, 0, O dp, dp, nx, neR ρ' a i z)) hq hr hb
    refine ⟨by decide, mm + 1, _, g1, (show (4 : Int) < 100 by decide), 1, bg, nx, v, g4, (gD_c4.trans ((cI_t hn.2).trans ((cI_f (fun w => m2 w.1)).trans ?_))).symm⟩
    by_cases w : ρ 1 = 48
    · exact cI_t w
    · exact (cI_f w).trans m1
  · obtain ⟨l, hm, hab, hl⟩ := hj.resolve_left hb
    obtain ⟨ρ', m1, m2, m3, m4, m5, m6, m7, m8, m9⟩ := mg_go hq hr he hb
    have w : ρ 1 = 48 := by
      have r1 := hr.2.2.2.1
      have := m2.2.1
      omega
    refine ⟨by decide, mm + 1, _, g1, (show (4 : Int) < 100 by decide), 1, bg, nx, v, g4, (gD_c4.trans ((cI_t hn.2).trans ((cI_f (fun u => ?_)).trans (cI_t w)))).symm⟩
    rcases m9 with ⟨k1, k2, k3⟩ | ⟨k1, k2, k3, k4, k5⟩
    · subst k3
      rw [k2] at u
      rcases u.2 with u | u
      · exact hab u.symm
      · exact (lk_btr m2 hr l g2.2 ⟨m5, m6⟩).mpr u hl
    · omega
theorem m4_a {lim nx kind bg num dp n m g : Int} {T O nl nm tl hd : Int → Int} {a p b : Int} (kk : TKC lim nx kind bg num T p) (h : cU4 lim dp T O a p) (hn : kind = 2 ∧ isNm T 1 bg nx) (q : CGM lim nx bg n m g T nl nm tl hd b) (hb : b ≠ -1) {lk : Int → Int} (l : LKG m tl hd lk) (hm : m < 48) (hab : a ≠ b) (hl : lk (a * 24 + b) = -1) : CEA lim nx bg n m g T nl nm tl hd a b := by
  obtain ⟨y, z, h⟩ := h
  obtain ⟨mm, ρ, v, g1, g2, g4, hr, he, hq⟩ := c_join h (by decide) kk (by omega) q
  have g3 := g2.1
  obtain ⟨ρ', m1, m2, m3, m4, m5, m6, m7, m8, m9⟩ := mg_go hq hr he hb
  have a1 := m2.2.1
  refine ⟨mm, _, _, _, _, _, _, p, v, ρ, ρ', g1, by decide, g4, ?_, m3, m4, m7, by omega, g2.2.1, by have := g2.2.2; omega, m5, m6, m2⟩
  rcases m9 with ⟨k1, k2, k3⟩ | ⟨k1, k2, k3, k4, k5⟩
  · subst k3
    exact Or.inl ⟨k2, rfl, fun w => hab w.symm, fun w => (lk_btr m2 hr l g2.2 ⟨m5, m6⟩).mpr w hl⟩
  · exact Or.inr ⟨k1, k2, k3, k5⟩
theorem ce_add {lim nx bg n m g : Int} {T nl nm tl hd : Int → Int} {a b m_zq e1 e2 : Int} {tl_zq hd_zq : Int → Int} (h : CEA lim nx bg n m g T nl nm tl hd a b) (em : m_zq = m + 1) (s1 : st1 tl tl_zq e1 a) (s2 : st1 hd hd_zq e2 b) (q1 : e1 = m) (q2 : e2 = m) : CEB lim nx bg n m_zq g T nl nm tl_zq hd_zq a b := by
  obtain ⟨mm, c, x, y, z, q, d, p, v, ρ, ρ', h1, h2, h4, h6, h7, h8, h9, h10, h11, h12, h13, h14, h15⟩ := h
  have hm : 0 ≤ m := by have := h7.2.2.1; have := h15.2.1; omega
  have hn := h15.1
  refine ⟨mm, c, x, y, z, q, d, p, v, ρ, ρ', h1, h2, h4, h6, h7, h8, h9, h10, h11, h12, h13, h14, fun w => ?_⟩
  refine gpr_ne h15 h7 (by omega) ⟨h11, by omega⟩ ⟨h13, by omega⟩ em ?_ (fun i a0 a1 => ?_) ?_ (fun i a0 a1 => ?_)
  · exact (s1 m hm).1 (by omega)
  · exact (s1 i a0).2 (by omega)
  · exact (s2 m hm).1 (by omega)
  · exact (s2 i a0).2 (by omega)
theorem m4_g {lim nx kind bg num dp n m g : Int} {T O nl nm tl hd : Int → Int} {a p b : Int} (kk : TKC lim nx kind bg num T p) (h : cU4 lim dp T O a p) (hn : kind = 2 ∧ isNm T 1 bg nx) (q : CEB lim nx bg n m g T nl nm tl hd a b) {p2 : Int} (hp : p2 = nx) : cG8 lim dp n m g T O nl nm tl hd b p2 := by
  rw [hp]
  obtain ⟨y, z, h⟩ := h
  obtain ⟨_, m1, ρ1, h1, h2⟩ := h
  obtain ⟨k, v, ⟨_, v2, hk, _⟩, hkc⟩ := kk
  obtain ⟨mm, c_zq, x_zq, y_zq, z_zq, q_zq, d_zq, p_zq, v_zq, ρ, ρ', g1, g2, g4, g6, g7, g8, g9, g10, g11, g12, g13, g14, g15⟩ := q
  unfold kc at hkc
  have hn1 := hn.1
  have ek : k = 1 := by omega
  rw [ek] at hk
  obtain ⟨e, -⟩ := gr_tok h1 g1 (show (4 : Int) < 100 by decide) g2 hk g4 (by decide) (by decide)
  simp only [Prod.mk.injEq] at e
  obtain ⟨rfl, rfl, rfl, rfl, rfl, rfl, rfl, rfl⟩ := e
  have hk2 := hn.1
  refine ⟨y, rfl, mm + 1, neR ρ' a b z, ⟨_, g1, (show (4 : Int) < 100 by decide), 1, bg, nx, v_zq, g4, ?_⟩, ⟨opn_ext h2.1 (rgk_t g8 (neR_ok g7 (by omega)).2), g15 z⟩, g13, ?_⟩
  · rcases g6 with ⟨k1, k2, k3, k4⟩ | ⟨k1, k2, k3, k4⟩
    · subst k2
      refine (gD_c4.trans ((cI_t hn.2).trans ((cI_f (fun u => ?_)).trans ((cI_f g10).trans ?_)))).symm
      · rw [k1] at u
        rcases u.2 with u | u
        · exact k3 u
        · exact k4 u
      · unfold gM
        rw [cI_t (by omega), k1]
    · refine (gD_c4.trans ((cI_t hn.2).trans ((cI_f (fun u => by omega)).trans ((cI_f g10).trans ?_)))).symm
      unfold gM
      rw [cI_f (by omega), cI_f k2, k3, k4]
  · have : neR ρ' a b z 0 = ρ' 0 := by
      have r1 := g7.2.2.1
      unfold neR
      rw [ruR_e (by omega), ruR_e (by omega), ruR_e (by omega), ruR_e (by omega), ruR_e (by omega)]
    omega
theorem mt_old {lim nx bg n m g : Int} {T nl nm tl hd : Int → Int} {ans n1 s1 l1 : Int} (h : CGT lim nx bg n m g T nl nm tl hd) (q : cFNp nl nm T n1 s1 l1 ans) (q1 : n1 = n) (q2 : s1 = bg) (q3 : l1 = nx - bg) (ha : ans ≠ -1 ∨ 24 ≤ n) : CGM lim nx bg n m g T nl nm tl hd ans := by
  rw [q1, q2, q3] at q
  obtain ⟨mm, c, x, y, z, q1, d, p, v, ρ, g1, g2, g4, g6⟩ := h
  obtain ⟨k1, k2⟩ := fnq_kn g6 q
  have hg := (gr_good g1).resolve_left (by show c ≠ 100; omega)
  have hrr : ROK ρ := hg.2
  have r0 := hrr.2.1
  have a0 := g6.1
  refine ⟨mm, c, x, y, z, q1, d, p, v, ρ, g1, g2, g4, ?_⟩
  rcases k2 with k2 | k2
  · exact Or.inl ⟨k2, by omega, by omega, g6⟩
  · exact Or.inr (Or.inl ⟨k2, k1, g6⟩)
theorem mt_can {lim nx bg n m g : Int} {T nl nm tl hd : Int → Int} {ans st len n1 s1 l1 lim2 n2 m2 g2 : Int} (h : CGT lim nx bg n m g T nl nm tl hd) (q : cFNp nl nm T n1 s1 l1 ans) (q1 : n1 = n) (q2 : s1 = bg) (q3 : l1 = nx - bg) (ha : ans = -1) (hn : n < 24) (e1 : st = bg) (e2 : len = nx - bg) (e3 : lim2 = lim) (e4 : n2 = n) (e5 : m2 = m) (e6 : g2 = g) : CANp nl nm tl hd T st len lim2 n2 m2 g2 := by
  rw [q1, q2, q3] at q
  rw [e3, e4, e5, e6]
  obtain ⟨mm, c, x, y, z, q1, d, p, v, ρ, g1, g2, g4, g6⟩ := h
  obtain ⟨k1, k2⟩ := fnq_kn g6 q
  have a0 := g6.1
  have e3 : st + len = nx := by omega
  subst e1
  refine ⟨mm, c, x, y, z, q1, d, p, v, ρ, g1, g2, by rw [e3]; exact g4, by rw [e3]; omega, by omega, g6⟩
theorem mt_q {nl nm tl hd T : Int → Int} {st len lim n m g : Int} (h : CANp nl nm tl hd T st len lim n m g) : CANq nl tl hd T st len lim n m g := ⟨nm, h⟩
theorem mt_cn1 {nl nm tl hd T : Int → Int} {st dp len lim n m g n1 lim1 : Int} (h : CANp nl nm tl hd T st len lim n m g) (e0 : lim1 = lim) (e1 : n1 = n) (e2 : dp = 8 * n) : CN1 nm T T st dp len lim1 n1 := by
  rw [e0]
  obtain ⟨mm, c, x, y, z, q, d, p, v, ρ, g1, g2, g4, g6, g7, g8⟩ := h
  obtain ⟨a0, a1, a2, a3, a4⟩ := g8
  exact ⟨fun _ => rfl, by omega, mm, c, x, y, z, q, d, p, v, ρ, g1, g2, g4, by omega, fun i i0 i1 => (a3 i i0 i1).1, fun i i0 i1 => (a3 i i0 i1).2.2⟩
theorem mt_new {nm s0 T nl tl hd nl_zq : Int → Int} {sp dp len lim n m g ans p1 v1 n1 lim1 : Int} (h : CN2 nm s0 T sp dp len lim1 n1) (e0 : lim1 = lim) (hq : CANq nl tl hd T sp len lim n m g) (s : st1 nl nl_zq p1 v1) (e1 : p1 = n) (e2 : v1 = len) (ea : ans = n) : CGMp nl_zq nm tl hd T sp len lim ans n m g := by
  rw [e0] at h
  obtain ⟨nm1, mm, c, x, y, z, q, d, p, v, ρ, g1, g2, g4, g6, g7, g8⟩ := hq
  obtain ⟨ed, mm_zq, c_zq, x_zq, y_zq, z_zq, q_zq, d_zq, p_zq, v_zq, ρ', k1, k2, k4, k5, k6, nm0, k7, hc⟩ := h
  obtain ⟨e, -⟩ := gr_tok g1 k1 g2 k2 g4 k4 (by decide) (by decide)
  simp only [Prod.mk.injEq] at e
  obtain ⟨rfl, rfl, rfl, rfl, rfl, rfl, rfl, rfl⟩ := e
  have hg := (gr_good g1).resolve_left (by show c ≠ 100; omega)
  have hl := tk_lim g4
  have he : sp ≤ sp + len ∧ sp + len ≤ sp + 8 := ⟨hl.2.1, (hl.2.2.2 rfl).1⟩
  obtain ⟨a0, a1, a2, a3, a4⟩ := g8
  have hrr : ROK ρ := hg.2
  have r0 := hrr.1
  have g9 : cGPR n m g nl nm0 tl hd ρ := ⟨a0, a1, a2, fun i i0 i1 => ⟨(a3 i i0 i1).1, (a3 i i0 i1).2.1, k7 i i0 i1⟩, a4⟩
  refine ⟨mm, c, x, y, z, q, d, p, v, ρ, g1, g2, g4, Or.inr (Or.inr ⟨g6, g7, by omega, gpr_eok g9, gpr_nn g9 hrr g7 he rfl ?_ (fun i i0 i1 => ?_) (fun k k0 k1 => ?_) (fun j j0 j1 => ?_)⟩)⟩
  · rw [(s n (by omega)).1 (by omega)]; omega
  · exact (s i i0).2 (by omega)
  · rw [hc _ (by omega), if_pos (by omega)]
    exact congrArg T (by omega)
  · rw [hc _ j0, if_neg (by omega)]
theorem mt_pm {lim nx bg n m g : Int} {T nl nm tl hd : Int → Int} {st len n1 m1 g1 ans lim1 : Int} (h : CGMp nl nm tl hd T st len lim1 ans n1 m1 g1) (e0 : lim1 = lim) (e1 : st = bg) (e2 : len = nx - bg) (e3 : n1 + 1 = n) (e4 : m1 = m) (e5 : g1 = g) : CGM lim nx bg n m g T nl nm tl hd ans := by
  rw [e0] at h
  subst e4; subst e5
  unfold CGMp at h
  rw [show st + len = nx by omega, e1, e3] at h
  exact h
theorem cn1_cn2 {U U_zq : Nat → Int → Int} {xs : List Int} {sp dp n : Int} (_ : 0 ≤ sp) (_ : 0 ≤ dp) (_ : 0 ≤ n) (h1 : ∀ j, 0 ≤ j → U_zq 0 j = if dp ≤ j ∧ j < dp + n then U 1 (sp + (j - dp)) else U 0 j) (_ : (∀ j, U_zq 1 j = U 1 j) ∨ ((∀ j, U_zq 1 j = U_zq 0 j) ∧ ∀ j, U 1 j = U 0 j)) (h3 : ∀ i, 2 ≤ i → ∀ j, U_zq i j = U i j) (e1 : xs.getD 3 0 = sp) (e2 : xs.getD (3 + 1) 0 = dp) (e3 : xs.getD (3 + 2) 0 = n) (h : CN1 (U 0) (U 1) (U 2) (xs.getD 3 0) (xs.getD 4 0) (xs.getD 5 0) (xs.getD 6 0) (xs.getD 7 0)) : CN2 (U_zq 0) (U_zq 1) (U_zq 2) (xs.getD 3 0) (xs.getD 4 0) (xs.getD 5 0) (xs.getD 6 0) (xs.getD 7 0) := by
  obtain ⟨q1, q0, mm, c, x, y, z, q, d, p, v, ρ, k1, k2, k4, k5, k6, k7⟩ := h
  rw [show U_zq 2 = U 2 from funext (h3 2 (by omega))]
  have e2_zq : xs.getD 4 0 = dp := e2
  have e3_zq : xs.getD 5 0 = n := e3
  exact ⟨q0, mm, c, x, y, z, q, d, p, v, ρ, k1, k2, k4, k5, k6, U 0, k7, fun j j0 => by rw [e1, e2_zq, e3_zq, h1 j j0, q1]⟩
theorem g0_f {lim nx kind bg num dp n m g : Int} {T O nl nm tl hd : Int → Int} (h : cRGp lim nx kind bg num dp n m g T O nl nm tl hd) (hn : 8 ≤ g ∨ 4 ≤ dp) : FSX lim T 3 bg := by
  obtain ⟨⟨p, h, kk⟩, hk, hw⟩ := h
  obtain ⟨k, v, r, hc⟩ := c_rs h kk
  have hw1 := (kc_wg hc).mp ⟨hk, hw⟩
  have hnn : ¬ isWn T k bg nx := fun a => by have := a.2.1; have := hw1.2.1; omega
  unfold kc at hc
  exact rsq_flt r (by decide) (by decide) (fun p v1 ρ q w => gD_c0.trans ((cI_f (fun a => by have := a.1; omega)).trans ((cI_f (fun a => by have := a.1; omega)).trans ((cI_f hnn).trans ((cI_t hw1).trans (cI_t (by have := q.2.2.2.1; omega)))))))
theorem g0_5 {lim nx kind bg num dp n m g : Int} {T O nl nm tl hd : Int → Int} (h : cRGp lim nx kind bg num dp n m g T O nl nm tl hd) (hn : g < 8 ∧ dp < 4) {p2 : Int} (hp : p2 = nx) : cG5 lim dp n m g T O nl nm tl hd p2 := by
  rw [hp]
  obtain ⟨⟨p, h, kk⟩, hk, hw⟩ := h
  obtain ⟨k, v, r, hc⟩ := c_rs h kk
  have hw1 := (kc_wg hc).mp ⟨hk, hw⟩
  have hnn : ¬ isWn T k bg nx := fun a => by have := a.2.1; have := hw1.2.1; omega
  unfold kc at hc
  exact ⟨hn.2, rsq_go r (by decide) (fun p v1 ρ q w => ⟨ρ, gD_c0.trans ((cI_f (fun a => by have := a.1; omega)).trans ((cI_f (fun a => by have := a.1; omega)).trans ((cI_f hnn).trans ((cI_t hw1).trans (cI_f (by have := q.2.2.2.1; omega)))))), q⟩)⟩
theorem g5_7 {lim nx kind bg num dp n m g : Int} {T O nl nm tl hd : Int → Int} {p dp_zq g_zq : Int} {O_zq : Int → Int} (kk : TKC lim nx kind bg num T p) (h : cG5 lim dp n m g T O nl nm tl hd p) (hn : kind = 2 ∧ isNm T 1 bg nx) (eg : g_zq = g + 1) (ed : dp_zq = dp + 1) (o1 : O_zq dp_zq = g) (o2 : ∀ j, 0 ≤ j → j ≤ dp → O_zq j = O j) {p2 : Int} (hp : p2 = nx) : cG7 lim dp_zq n m g_zq T O_zq nl nm tl hd p2 := by
  rw [hp]
  obtain ⟨hd4, h⟩ := h
  obtain ⟨k, v, r, hc⟩ := c_rs h kk
  have hnk := (kc_nm hc).mp hn
  obtain ⟨f0, f1, mm, ρ, p1, v1, g1, q, g3, g4⟩ := r
  have hg := (gr_good g1).resolve_left (by show (5 : Int) ≠ 100; decide)
  have h8 := hg.1.2.2.2 rfl
  have h8 : ρ 2 < 8 := h8
  have hl := tk_lim g3
  have he : bg ≤ nx ∧ nx ≤ bg + 8 := ⟨hl.2.1, (hl.2.2.2 hnk.1).1⟩
  have a2 := q.2.2.2.1
  have e1 : O_zq dp_zq = ρ 2 := by omega
  refine ⟨rfl, mm + 1, ngR T ρ bg nx (O dp), ⟨_, g1, (show (5 : Int) < 100 by decide), k, bg, nx, v1, g3, ?_⟩, opn_ng q.1 hg.2 h8 hd4 he ed e1 o2, gpr_ng q.2 hg.2 h8 he eg⟩
  rw [e1, ed]
  exact (gD_c5.trans (cI_t hnk)).symm
theorem i_cl {lim nx kind bg num dp n m g : Int} {T O nl nm tl hd : Int → Int} {dp_zq : Int} (h : cRI lim nx kind bg num dp n m g T O nl nm tl hd) (hk : kind = 125) (h0 : 0 < dp) (ed : dp_zq = dp - 1) : cG0 lim dp_zq n m g T O nl nm tl hd nx := by
  obtain ⟨⟨p, h, kk⟩, hz⟩ := h
  obtain ⟨k, v, r, hc⟩ := c_rs h kk
  unfold kc at hc
  obtain ⟨f0, f1, mm, ρ, p1, v1, g1, q, g3, g4⟩ := r
  obtain ⟨c1, c2⟩ := opn_cl q.1 h0 ed
  have e := g4 (Or.inr (by omega))
  refine ⟨rfl, mm + 1, ρ, ⟨_, g1, (show (0 : Int) < 100 by decide), k, bg, nx, v1, g3, ?_⟩, c1, q.2⟩
  rw [c2, ed]
  exact (gD_c0.trans ((cI_f (fun a => by have := a.1; omega)).trans (cI_t ⟨by omega, by omega, h0⟩))).symm
theorem i_n {lim nx kind bg num dp n m g : Int} {T O nl nm tl hd : Int → Int} (h : cRI lim nx kind bg num dp n m g T O nl nm tl hd) (hw : kind = 2 ∧ isWn T 1 bg nx) {p2 : Int} (hp : p2 = nx) : cG1 lim dp n m g T O nl nm tl hd p2 := by
  rw [hp]
  obtain ⟨⟨p, h, kk⟩, hz⟩ := h
  obtain ⟨k, v, r, hc⟩ := c_rs h kk
  have hw1 := (kc_wn hc).mp hw
  unfold kc at hc
  exact rsq_go r (by decide) (fun p v1 ρ q w => ⟨ρ, gD_c0.trans ((cI_f (fun a => by have := a.1; omega)).trans ((cI_f (fun a => by have := a.1; omega)).trans (cI_t hw1))), q⟩)
theorem i_g {lim nx kind bg num dp n m g : Int} {T O nl nm tl hd : Int → Int} (h : cRI lim nx kind bg num dp n m g T O nl nm tl hd) (hw : kind = 2 ∧ isWg T 1 bg nx) : cRGp lim nx kind bg num dp n m g T O nl nm tl hd := by
  exact ⟨h.1, hw⟩
theorem i_e {lim nx kind bg num dp n m g : Int} {T O nl nm tl hd : Int → Int} (h : cRI lim nx kind bg num dp n m g T O nl nm tl hd) (hw : kind = 2 ∧ isNm T 1 bg nx) : cRE lim nx kind bg num dp n m g T O nl nm tl hd := by
  exact ⟨h.1, hw⟩
theorem i_f {lim nx kind bg num dp n m g : Int} {T O nl nm tl hd : Int → Int} (h : cRI lim nx kind bg num dp n m g T O nl nm tl hd) (hk : ¬ (kind = 125 ∧ 0 < dp)) (h1 : ¬ (kind = 2 ∧ isWn T 1 bg nx)) (h2 : ¬ (kind = 2 ∧ isWg T 1 bg nx)) (h3 : ¬ (kind = 2 ∧ isNm T 1 bg nx)) : FSX lim T 1 bg := by
  obtain ⟨⟨p, h, kk⟩, hz⟩ := h
  obtain ⟨k, v, r, hc⟩ := c_rs h kk
  have w1 := fun a => h1 ((kc_wn hc).mpr a)
  have w2 := fun a => h2 ((kc_wg hc).mpr a)
  have w3 : k ≠ 1 := fun a => h3 ((kc_nm hc).mpr ⟨a, w1, w2⟩)
  unfold kc at hc
  exact rsq_flt r (by decide) (by decide) (fun p v1 ρ q w => gD_c0.trans ((cI_f (fun a => hz (by have := a.1; have := a.2; omega))).trans ((cI_f (fun a => hk (by have := w (Or.inr a.1); have := a.1; have := a.2.1; have := a.2.2; omega))).trans ((cI_f w1).trans ((cI_f w2).trans (cI_f w3))))))
def CEN (lim n : Int) (T : Int → Int) : Prop := ∃ (mm : Nat) (ρ : Int → Int), GR T lim mm (101, 0, 0, 0, 0, 0, 0, ρ) ∧ n = ρ 0
def CRG (lim fault fp n : Int) (T : Int → Int) (nn ans : Int) : Prop := lim = nn ∧ ((ans = 0 ∧ FS lim fault fp T) ∨ (ans = 1 ∧ fault = 0 ∧ CEN lim n T))
theorem r_0 {lim dp n m g : Int} {T O nl nm tl hd : Int → Int} {p : Int} (e1 : n = 0) (e2 : m = 0) (e3 : g = 1) (e4 : dp = 0) (e5 : O 0 = 0) (e6 : p = 0) : cG0 lim dp n m g T O nl nm tl hd p := by
  subst e1; subst e2; subst e3; subst e4; subst e6
  refine ⟨rfl, 0, r0R, by rw [e5]; rfl, ⟨by omega, by omega, e5, fun j a b => by omega⟩, rfl, rfl, rfl, fun i a b => ?_, fun i a b => ?_⟩
  · have : r0R 0 = 0 := rfl
    omega
  · have : r0R 1 = 0 := rfl
    omega
theorem r_i {lim nx kind bg num dp n m g : Int} {T O nl nm tl hd : Int → Int} {p : Int} (kk : TKC lim nx kind bg num T p) (h : cG0 lim dp n m g T O nl nm tl hd p) (hn : ¬ (kind = 0 ∧ dp = 0)) : cRI lim nx kind bg num dp n m g T O nl nm tl hd := by
  exact ⟨⟨p, h, kk⟩, hn⟩
theorem r_e {lim nx kind bg num dp n m g : Int} {T O nl nm tl hd : Int → Int} {p : Int} (kk : TKC lim nx kind bg num T p) (h : cG0 lim dp n m g T O nl nm tl hd p) (hk : kind = 0) (h0 : dp = 0) : CEN lim n T := by
  obtain ⟨k, v, r, hc⟩ := c_rs h kk
  unfold kc at hc
  obtain ⟨f0, f1, mm, ρ, p1, v1, g1, q, g3, g4⟩ := r
  exact ⟨mm + 1, ρ, ⟨_, g1, (show (0 : Int) < 100 by decide), k, bg, nx, v1, g3, (gD_c0.trans (cI_t ⟨by omega, h0⟩)).symm⟩, q.2.1⟩
theorem fsc_of {lim fault fp bg f : Int} {T : Int → Int} (h : FSX lim T f bg) (e1 : fault = f) (e2 : fp = bg) : FS lim fault fp T := fs_of h e1 e2
theorem tkc_le {lim nx kind bg num : Int} {T : Int → Int} {p : Int} (kk : TKC lim nx kind bg num T p) : p ≤ bg ∧ bg ≤ nx ∧ nx ≤ lim ∧ (kind ≠ 0 → bg < nx) := by
  obtain ⟨k, v, ⟨_, v2, hk, _⟩, hc⟩ := kk
  have hl := tk_lim hk
  have hb := hk.1
  unfold kc at hc
  exact ⟨hb, hl.2.1, hl.1, fun a => hl.2.2.1 (by omega)⟩
theorem fsy_of {lim bg f f2 : Int} {T : Int → Int} (h : FSX lim T f bg) (e : f2 = f) : FSY lim bg T f2 := by rw [e]; exact h
theorem cO0_f {lim nx dp fault fp n m g bg f ans : Int} {T O nl nm tl hd : Int → Int} (h : FSY lim bg T f) (ha : ans = 0) (e1 : fault = f) (e2 : fp = bg) : cO0 lim nx dp fault fp n m g T O nl nm tl hd ans := Or.inl ⟨ha, fs_of h e1 e2⟩
theorem cO0_t {lim nx dp fault fp n m g ans : Int} {T O nl nm tl hd : Int → Int} (h : cG0 lim dp n m g T O nl nm tl hd nx) (e : fault = 0) (ha : ans = 1) : cO0 lim nx dp fault fp n m g T O nl nm tl hd ans := Or.inr ⟨ha, e, h⟩
theorem cO0_1 {lim nx dp fault fp n m g ans : Int} {T O nl nm tl hd : Int → Int} (h : cO0 lim nx dp fault fp n m g T O nl nm tl hd ans) (ha : ans ≠ 0) {p2 : Int} (hp : p2 = nx) : fault = 0 ∧ cG0 lim dp n m g T O nl nm tl hd p2 := by
  rcases h with h | h
  · omega
  · rw [hp]; exact h.2
theorem cO0_0 {lim nx dp fault fp n m g ans : Int} {T O nl nm tl hd : Int → Int} (h : cO0 lim nx dp fault fp n m g T O nl nm tl hd ans) (ha : ans = 0) : FS lim fault fp T := by
  rcases h with h | h
  · exact h.2
  · omega
theorem cO13_f {lim nx dp fault fp n m g bg f ans : Int} {T O nl nm tl hd : Int → Int} (h : FSY lim bg T f) (ha : ans = 0) (e1 : fault = f) (e2 : fp = bg) : cO13 lim nx dp fault fp n m g T O nl nm tl hd ans := Or.inl ⟨ha, fs_of h e1 e2⟩
theorem cO13_t {lim nx dp fault fp n m g ans : Int} {T O nl nm tl hd : Int → Int} (h : cG13 lim dp n m g T O nl nm tl hd nx) (e : fault = 0) (ha : ans = 1) : cO13 lim nx dp fault fp n m g T O nl nm tl hd ans := Or.inr ⟨ha, e, h⟩
theorem cO13_1 {lim nx dp fault fp n m g ans : Int} {T O nl nm tl hd : Int → Int} (h : cO13 lim nx dp fault fp n m g T O nl nm tl hd ans) (ha : ans ≠ 0) {p2 : Int} (hp : p2 = nx) : fault = 0 ∧ cG13 lim dp n m g T O nl nm tl hd p2 := by
  rcases h with h | h
  · omega
  · rw [hp]; exact h.2
theorem cO13_0 {lim nx dp fault fp n m g ans : Int} {T O nl nm tl hd : Int → Int} (h : cO13 lim nx dp fault fp n m g T O nl nm tl hd ans) (ha : ans = 0) : FS lim fault fp T := by
  rcases h with h | h
  · exact h.2
  · omega
theorem cO_13 {lim nx dp fault fp n m g ans : Int} {T O nl nm tl hd : Int → Int} {a2 : Int} (h : cO13 lim nx dp fault fp n m g T O nl nm tl hd ans) (ha : ans = 0) (hb : a2 = 0) : cO0 lim nx dp fault fp n m g T O nl nm tl hd a2 := Or.inl ⟨hb, cO13_0 h ha⟩
theorem clm_0 {lim dp n m g : Int} {T O nl nm tl hd : Int → Int} {p : Int} (h : cG0 lim dp n m g T O nl nm tl hd p) {p2 : Int} (e : p2 = p) (hl : 0 ≤ lim ∧ lim ≤ 2000) : CLM lim p2 := by rw [e]; exact tsq_le h hl (by decide)
theorem clm_1 {lim dp n m g : Int} {T O nl nm tl hd : Int → Int} {p : Int} (h : cG1 lim dp n m g T O nl nm tl hd p) {p2 : Int} (e : p2 = p) (hl : 0 ≤ lim ∧ lim ≤ 2000) : CLM lim p2 := by rw [e]; exact tsq_le h hl (by decide)
theorem clm_13 {lim dp n m g : Int} {T O nl nm tl hd : Int → Int} {p : Int} (h : cG13 lim dp n m g T O nl nm tl hd p) {p2 : Int} (e : p2 = p) (hl : 0 ≤ lim ∧ lim ≤ 2000) : CLM lim p2 := by rw [e]; exact tsq_le h hl (by decide)
theorem clm_9s {lim dp n m g : Int} {T O nl nm tl hd : Int → Int} {p : Int} (h : cG9s lim dp n m g T O nl nm tl hd p) {p2 : Int} (e : p2 = p) (hl : 0 ≤ lim ∧ lim ≤ 2000) : CLM lim p2 := by
  obtain ⟨x, y, hx, h⟩ := h
  rw [e]; exact tsq_le h hl (by decide)
theorem clm_9w {lim dp n m g : Int} {T O nl nm tl hd : Int → Int} {p : Int} (h : cG9w lim dp n m g T O nl nm tl hd p) {p2 : Int} (e : p2 = p) (hl : 0 ≤ lim ∧ lim ≤ 2000) : CLM lim p2 := by
  obtain ⟨y, h⟩ := h
  rw [e]; exact tsq_le h hl (by decide)
theorem clm_t {lim nx kind bg num p : Int} {T : Int → Int} (kk : TKC lim nx kind bg num T p) (h : 0 ≤ nx ∧ lim ≤ 2000) : CLM lim nx := ⟨h.1, (tkc_le kk).2.2.1, h.2⟩
theorem cg_0 {lim dp n m g : Int} {T O nl nm tl hd : Int → Int} {p p2 : Int} (h : cG0 lim dp n m g T O nl nm tl hd p) (e : p2 = p) : cG0 lim dp n m g T O nl nm tl hd p2 := by rw [e]; exact h
theorem cg_1 {lim dp n m g : Int} {T O nl nm tl hd : Int → Int} {p p2 : Int} (h : cG1 lim dp n m g T O nl nm tl hd p) (e : p2 = p) : cG1 lim dp n m g T O nl nm tl hd p2 := by rw [e]; exact h
theorem cg_5 {lim dp n m g : Int} {T O nl nm tl hd : Int → Int} {p p2 : Int} (h : cG5 lim dp n m g T O nl nm tl hd p) (e : p2 = p) : cG5 lim dp n m g T O nl nm tl hd p2 := by rw [e]; exact h
theorem cg_7 {lim dp n m g : Int} {T O nl nm tl hd : Int → Int} {p p2 : Int} (h : cG7 lim dp n m g T O nl nm tl hd p) (e : p2 = p) : cG7 lim dp n m g T O nl nm tl hd p2 := by rw [e]; exact h
theorem cg_13 {lim dp n m g : Int} {T O nl nm tl hd : Int → Int} {p p2 : Int} (h : cG13 lim dp n m g T O nl nm tl hd p) (e : p2 = p) : cG13 lim dp n m g T O nl nm tl hd p2 := by rw [e]; exact h
theorem cg_2 {lim dp n m g : Int} {T O nl nm tl hd : Int → Int} {p p2 : Int} (h : cG2 lim dp n m g T O nl nm tl hd p) (e : p2 = p) : cG2 lim dp n m g T O nl nm tl hd p2 := by rw [e]; exact h
theorem cg_9s {lim dp n m g : Int} {T O nl nm tl hd : Int → Int} {p p2 : Int} (h : cG9s lim dp n m g T O nl nm tl hd p) (e : p2 = p) : cG9s lim dp n m g T O nl nm tl hd p2 := by rw [e]; exact h
theorem cg_9w {lim dp n m g : Int} {T O nl nm tl hd : Int → Int} {p p2 : Int} (h : cG9w lim dp n m g T O nl nm tl hd p) (e : p2 = p) : cG9w lim dp n m g T O nl nm tl hd p2 := by rw [e]; exact h
theorem cg_10s {lim dp n m g : Int} {T O nl nm tl hd : Int → Int} {p p2 : Int} (h : cG10s lim dp n m g T O nl nm tl hd p) (e : p2 = p) : cG10s lim dp n m g T O nl nm tl hd p2 := by rw [e]; exact h
theorem cg_10w {lim dp n m g : Int} {T O nl nm tl hd : Int → Int} {p p2 : Int} (h : cG10w lim dp n m g T O nl nm tl hd p) (e : p2 = p) : cG10w lim dp n m g T O nl nm tl hd p2 := by rw [e]; exact h
theorem cg_11s {lim dp n m g : Int} {T O nl nm tl hd : Int → Int} {p p2 : Int} (h : cG11s lim dp n m g T O nl nm tl hd p) (e : p2 = p) : cG11s lim dp n m g T O nl nm tl hd p2 := by rw [e]; exact h
theorem cg_11w {lim dp n m g : Int} {T O nl nm tl hd : Int → Int} {p p2 : Int} (h : cG11w lim dp n m g T O nl nm tl hd p) (e : p2 = p) : cG11w lim dp n m g T O nl nm tl hd p2 := by rw [e]; exact h
theorem cg_12s {lim dp n m g : Int} {T O nl nm tl hd : Int → Int} {p p2 : Int} (h : cG12s lim dp n m g T O nl nm tl hd p) (e : p2 = p) : cG12s lim dp n m g T O nl nm tl hd p2 := by rw [e]; exact h
theorem cg_12w {lim dp n m g : Int} {T O nl nm tl hd : Int → Int} {p p2 : Int} (h : cG12w lim dp n m g T O nl nm tl hd p) (e : p2 = p) : cG12w lim dp n m g T O nl nm tl hd p2 := by rw [e]; exact h
theorem cg_3 {lim dp n m g : Int} {T O nl nm tl hd : Int → Int} {a p p2 : Int} (h : cG3 lim dp n m g T O nl nm tl hd a p) (e : p2 = p) : cG3 lim dp n m g T O nl nm tl hd a p2 := by rw [e]; exact h
theorem cg_4 {lim dp n m g : Int} {T O nl nm tl hd : Int → Int} {a p p2 : Int} (h : cG4 lim dp n m g T O nl nm tl hd a p) (e : p2 = p) : cG4 lim dp n m g T O nl nm tl hd a p2 := by rw [e]; exact h
theorem cg_8 {lim dp n m g : Int} {T O nl nm tl hd : Int → Int} {a p p2 : Int} (h : cG8 lim dp n m g T O nl nm tl hd a p) (e : p2 = p) : cG8 lim dp n m g T O nl nm tl hd a p2 := by rw [e]; exact h
theorem clm_gp {lim nx kind bg num dp n m g : Int} {T O nl nm tl hd : Int → Int} (h : cRGp lim nx kind bg num dp n m g T O nl nm tl hd) (hl : 0 ≤ nx ∧ lim ≤ 2000) : CLM lim nx := by
  obtain ⟨⟨p, -, kk⟩, -⟩ := h
  exact clm_t kk hl
theorem clm_le {lim nx kind bg num dp n m g : Int} {T O nl nm tl hd : Int → Int} {a : Int} (h : cLE lim nx kind bg num dp n m g T O nl nm tl hd a) (hl : 0 ≤ nx ∧ lim ≤ 2000) : CLM lim nx := by
  rcases h with ⟨p, -, kk, -⟩ | ⟨p, -, kk⟩
  · exact clm_t kk hl
  · exact clm_t kk hl
theorem clm_ue {lim nx kind bg num dp : Int} {T O : Int → Int} (h : cUE lim nx kind bg num dp T O) (hl : 0 ≤ nx ∧ lim ≤ 2000) : CLM lim nx := by
  obtain ⟨⟨p, -, kk⟩, -⟩ := h
  exact clm_t kk hl
theorem ri_lt {lim nx kind bg num dp n m g : Int} {T O nl nm tl hd : Int → Int} (h : cRI lim nx kind bg num dp n m g T O nl nm tl hd) (hk : kind ≠ 0) : bg < nx := by
  obtain ⟨⟨p, -, kk⟩, -⟩ := h
  exact (tkc_le kk).2.2.2 hk
theorem g5_7s {lim nx kind bg num dp n m g : Int} {T O nl nm tl hd : Int → Int} {p dp_zq g_zq q1 q2 : Int} {O_zq : Int → Int} (kk : TKC lim nx kind bg num T p) (h : cG5 lim dp n m g T O nl nm tl hd p) (hn : kind = 2 ∧ isNm T 1 bg nx) (s : st1 O O_zq q1 q2) (e1 : q1 = dp_zq) (e2 : q2 = g) (h0 : 0 ≤ dp) (eg : g_zq = g + 1) (ed : dp_zq = dp + 1) {p2 : Int} (hp : p2 = nx) : cG7 lim dp_zq n m g_zq T O_zq nl nm tl hd p2 := g5_7 kk h hn eg ed (((s dp_zq (by omega)).1 e1.symm).trans e2) (fun j a b => (s j a).2 (by omega)) hp
end
