/-! newLine, putAt, putAhead, putBehind -/
def ALV (m : Int) (al : Int → Int) : Prop := ∀ e, 0 ≤ e → e < m → al e = 1
def GRI (n m : Int) (pt ph al rm rot : Int → Int) : Prop := (GOK n m pt ph ∧ 0 ≤ m) ∧ ALV m al ∧ ROT n m pt ph al rm rot
def NAD (n m : Int) (pt ph : Int → Int) (a c : Int) : Prop := 0 ≤ a ∧ a < n ∧ 0 ≤ c ∧ c < n ∧ a ≠ c ∧ ∀ e, 0 ≤ e → e < m → ¬ eJ pt ph e a c
def CRN (m : Int) (pt ph al rm rot : Int → Int) (a c d x : Int) : Prop := liv m al d ∧ NDT m pt ph rm rot d x ∧ dfr pt ph d = a ∧ dto pt ph x = c
def PNX (md n m : Int) (pt ph al rm rot : Int → Int) (a c d x : Int) : Prop := GRI n m pt ph al rm rot ∧ NAD n m pt ph a c ∧ (md = 1 → ¬ rc (jA m pt ph al) a c) ∧ (md = 3 → CRN m pt ph al rm rot a c d x)
def PU0 (n m : Int) (pt ph al rm rot : Int → Int) (a c e : Int) : Prop := (e + 1 = m ∧ 0 ≤ e ∧ m ≤ 80) ∧ GOK n m pt ph ∧ ALV m al ∧ (pt e = a ∧ ph e = c) ∧ ROT n e pt ph al rm rot
def PUX (md n m : Int) (pt ph al rm rot : Int → Int) (a c d x e : Int) : Prop := (md = 1 → PU0 n m pt ph al rm rot a c e ∧ ¬ rc (jA e pt ph al) a c) ∧ (md = 2 → ∃ rm0 rot0, (PU0 n m pt ph al rm0 rot0 a c e ∧ ¬ rc (jA e pt ph al) a c) ∧ INS rm0 rot0 rm rot a e (rm0 a)) ∧ (md = 3 → PU0 n m pt ph al rm rot a c e ∧ CRN e pt ph al rm rot a c d x) ∧ (md = 4 → ∃ rm0 rot0 ka, (PU0 n m pt ph al rm0 rot0 a c e ∧ CRN e pt ph al rm0 rot0 a c d x) ∧ (0 ≤ ka ∧ ka < rm0 a ∧ rt rot0 a ka = d / 2) ∧ INS rm0 rot0 rm rot a e ka) ∧ (md = 9 → GRI n m pt ph al rm rot)
theorem gok_sub {n m m' : Int} {pt ph : Int → Int} (h : GOK n m pt ph) (hm : m' ≤ m) : GOK n m' pt ph := ⟨fun e e0 e1 => h.1 e e0 (by omega), fun e f e0 ef f1 => h.2 e f e0 ef (by omega)⟩
theorem gok_new {n m a c p v q w : Int} {pt ph pt' ph' : Int → Int} (hg : GOK n m pt ph) (m0 : 0 ≤ m) (hn : NAD n m pt ph a c) (hs : st1 pt pt' p v) (hp : p = m) (hv : v = a) (ht : st1 ph ph' q w) (hq : q = m) (hw : w = c) : GOK n (m + 1) pt' ph' ∧ (pt' m = a ∧ ph' m = c) ∧ ∀ e, 0 ≤ e → e < m → pt' e = pt e ∧ ph' e = ph e := by
  obtain ⟨n1, n2, n3, n4, n5, n6⟩ := hn
  have e1 : ∀ e, 0 ≤ e → e < m → pt' e = pt e ∧ ph' e = ph e := fun e a b => ⟨(hs e a).2 (by omega), (ht e a).2 (by omega)⟩
  have e2 : pt' m = a ∧ ph' m = c := ⟨((hs m m0).1 hp.symm).trans hv, ((ht m m0).1 hq.symm).trans hw⟩
  refine ⟨⟨fun e e0 e1' => ?_, fun e f e0 ef f1 => ?_⟩, e2, e1⟩
  · by_cases z : e = m
    · rw [z, e2.1, e2.2]; exact ⟨n1, n2, n3, n4, n5⟩
    · rw [(e1 e e0 (by omega)).1, (e1 e e0 (by omega)).2]; exact hg.1 e e0 (by omega)
  · rw [(e1 e e0 (by omega)).1, (e1 e e0 (by omega)).2]
    by_cases z : f = m
    · rw [z, e2.1, e2.2]; exact n6 e e0 (by omega)
    · rw [(e1 f (by omega) (by omega)).1, (e1 f (by omega) (by omega)).2]; exact hg.2 e f e0 ef (by omega)
theorem dd_congr {m : Int} {pt ph pt' ph' : Int → Int} (h : ∀ e, 0 ≤ e → e < m → pt' e = pt e ∧ ph' e = ph e) {d : Int} (d0 : 0 ≤ d) (d1 : d < 2 * m) : dfr pt' ph' d = dfr pt ph d ∧ dto pt' ph' d = dto pt ph d := by
  unfold dfr dto
  rw [(h (d / 2) (by omega) (by omega)).1, (h (d / 2) (by omega) (by omega)).2]
  exact ⟨rfl, rfl⟩
theorem crn_congr {m a c d x : Int} {pt ph al pt' ph' al' rm rot : Int → Int} (h : ∀ e, 0 ≤ e → e < m → pt' e = pt e ∧ ph' e = ph e ∧ al' e = al e) (k : CRN m pt ph al rm rot a c d x) : CRN m pt' ph' al' rm rot a c d x := by
  have h' : ∀ e, 0 ≤ e → e < m → pt' e = pt e ∧ ph' e = ph e := fun e a b => ⟨(h e a b).1, (h e a b).2.1⟩
  obtain ⟨k1, ⟨k2, k3, k4, k5⟩, k6, k7⟩ := k
  have ed := dd_congr h' k1.1 k1.2.1
  have ex := dd_congr h' k2 k3
  refine ⟨⟨k1.1, k1.2.1, by rw [(h (d / 2) (by have := k1.1; omega) (by have := k1.2.1; omega)).2.2]; exact k1.2.2⟩, ⟨k2, k3, by rw [ex.1, ed.2]; exact k4, by rw [ed.2]; exact k5⟩, by rw [ed.1]; exact k6, by rw [ex.2]; exact k7⟩
theorem pux_new {md n m m' a c d x z p v q w s t : Int} {pt ph al pt' ph' al' rm rot : Int → Int} (h : PNX md n m pt ph al rm rot a c d x) (hm : m ≤ 79) (hs : st1 pt pt' p v) (hp : p = m) (hv : v = a) (ht : st1 ph ph' q w) (hq : q = m) (hw : w = c) (hu : st1 al al' s t) (hs' : s = m) (ht' : t = 1) (hm' : m' = m + 1) (hz : z = m) (hmd : md = 1 ∨ md = 3) : PUX md n m' pt' ph' al' rm rot a c d x z := by
  obtain ⟨⟨⟨g1, m0⟩, g2, g3⟩, h2, h3, h4⟩ := h
  obtain ⟨k1, k2, k3⟩ := gok_new g1 m0 h2 hs hp hv ht hq hw
  have ea : al' m = 1 := ((hu m m0).1 hs'.symm).trans ht'
  have e3 : ∀ e, 0 ≤ e → e < m → pt' e = pt e ∧ ph' e = ph e ∧ al' e = al e := fun e a b => ⟨(k3 e a b).1, (k3 e a b).2, (hu e a).2 (by omega)⟩
  subst hm'; subst hz
  have p0 : PU0 n (z + 1) pt' ph' al' rm rot a c z := ⟨⟨rfl, m0, by omega⟩, k1, fun e a b => by
    by_cases w : e = z
    · rw [w]; exact ea
    · rw [(e3 e a (by omega)).2.2]; exact g2 e a (by omega), k2, rot_congr e3 g3⟩
  have hj : jA z pt' ph' al' = jA z pt ph al := by unfold jA; rw [JJ_congr e3]
  refine ⟨fun w => ⟨p0, by rw [hj]; exact h3 w⟩, fun w => by omega, fun w => ⟨p0, crn_congr e3 (h4 w)⟩, fun w => by omega, fun w => by omega⟩
def psc (md : Int) (rm rot : Int → Int) (i k a c d x : Int) : Prop := (md = 1 → i = a ∧ k = rm i) ∧ (md = 2 → i = c ∧ k = rm i) ∧ (md = 3 → i = a ∧ 0 ≤ k ∧ k < rm i ∧ rt rot i k = d / 2) ∧ (md = 4 → i = c ∧ 1 ≤ k ∧ k ≤ rm i ∧ rt rot i (k - 1) = x / 2)
def PAX (md n m : Int) (pt ph al rm rot : Int → Int) (i e k a c d x : Int) : Prop := (md = 1 ∨ md = 2 ∨ md = 3 ∨ md = 4) ∧ PUX md n m pt ph al rm rot a c d x e ∧ psc md rm rot i k a c d x
theorem rt_len {n m i : Int} {pt ph al rm rot : Int → Int} (h : ROT n m pt ph al rm rot) (m0 : 0 ≤ m) (i0 : 0 ≤ i) (i1 : i < n) : 0 ≤ rm i ∧ rm i ≤ m := by
  obtain ⟨r1, r2, r3, r4⟩ := h.1 i i0 i1
  refine ⟨r1.1, rw_len m0 (fun k k0 k1 => ?_) r3⟩
  obtain ⟨x, j⟩ := r2 k k0 k1
  exact ⟨j.1, j.2.1⟩
theorem pu0_ac {n m a c e : Int} {pt ph al rm rot : Int → Int} (h : PU0 n m pt ph al rm rot a c e) : 0 ≤ a ∧ a < n ∧ 0 ≤ c ∧ c < n ∧ a ≠ c := by
  obtain ⟨⟨h1, h2, h3⟩, g, _, ⟨ha, hc⟩, _⟩ := h
  have := g.1 e h2 (by omega)
  rw [ha, hc] at this; exact this
theorem pax_len {md n m i e k a c d x : Int} {pt ph al rm rot : Int → Int} (h : PAX md n m pt ph al rm rot i e k a c d x) : (0 ≤ i ∧ i < n) ∧ (0 ≤ e ∧ e ≤ 79) ∧ 0 ≤ k ∧ k ≤ rm i ∧ rm i ≤ 79 := by
  obtain ⟨hm, ⟨h1, h2, h3, h4, _⟩, s1, s2, s3, s4⟩ := h
  rcases hm with w | w | w | w
  · obtain ⟨p, _⟩ := h1 w
    have ac := pu0_ac p
    have := s1 w
    have r := rt_len p.2.2.2.2 p.1.2.1 (i := i) (by omega) (by omega)
    have := p.1
    omega
  · obtain ⟨rm0, rot0, ⟨p, _⟩, q⟩ := h2 w
    have ac := pu0_ac p
    have := s2 w
    have r := rt_len p.2.2.2.2 p.1.2.1 (i := i) (by omega) (by omega)
    have o := (q.2.2 i (by omega) (by omega)).1
    have := p.1
    omega
  · obtain ⟨p, _⟩ := h3 w
    have ac := pu0_ac p
    have := s3 w
    have r := rt_len p.2.2.2.2 p.1.2.1 (i := i) (by omega) (by omega)
    have := p.1
    omega
  · obtain ⟨rm0, rot0, ka, ⟨p, _⟩, _, q⟩ := h4 w
    have ac := pu0_ac p
    have := s4 w
    have r := rt_len p.2.2.2.2 p.1.2.1 (i := i) (by omega) (by omega)
    have o := (q.2.2 i (by omega) (by omega)).1
    have := p.1
    omega
def nxm (md : Int) : Int := if md = 1 then 2 else if md = 3 then 4 else 9
theorem pax_ins {md n m i e k a c d x : Int} {pt ph al rm rot rm' rot' : Int → Int} (h : PAX md n m pt ph al rm rot i e k a c d x) (hi : INS rm rot rm' rot' i e k) : PUX (nxm md) n m pt ph al rm' rot' a c d x e := by
  have hl := pax_len h
  obtain ⟨hm, ⟨h1, h2, h3, h4, _⟩, s1, s2, s3, s4⟩ := h
  unfold nxm
  rcases hm with w | w | w | w
  · rw [if_pos w]
    obtain ⟨p, p'⟩ := h1 w
    obtain ⟨ia, ik⟩ := s1 w
    subst ia; subst ik
    exact ⟨fun z => by omega, fun _ => ⟨rm, rot, ⟨p, p'⟩, hi⟩, fun z => by omega, fun z => by omega, fun z => by omega⟩
  · rw [if_neg (by omega), if_neg (by omega)]
    obtain ⟨rm0, rot0, ⟨p, p'⟩, q⟩ := h2 w
    obtain ⟨ic, ik⟩ := s2 w
    subst ic
    have ac := pu0_ac p
    obtain ⟨⟨e1, e2, e3⟩, g, al', ⟨ha, hc⟩, hr⟩ := p
    have o := (q.2.2 i ac.2.2.1 (fun z => ac.2.2.2.2 z.symm)).1
    have ra := rt_len hr e2 ac.1 ac.2.1
    have rc' := rt_len hr e2 ac.2.2.1 ac.2.2.2.1
    have t := ins_two q hi ac.1 ac.2.2.1 ac.2.2.2.2 (by have := q.1; omega) (by omega)
    subst e1
    rw [ik, o] at t
    exact ⟨fun z => by omega, fun z => by omega, fun z => by omega, fun z => by omega, fun _ => ⟨⟨g, by omega⟩, al', rot_glue g e2 e3 (al' e e2 (by omega)) ha hc hr p' t⟩⟩
  · rw [if_neg (by omega), if_pos w]
    obtain ⟨p, p'⟩ := h3 w
    obtain ⟨ia, k0, k1, k2⟩ := s3 w
    subst ia
    exact ⟨fun z => by omega, fun z => by omega, fun z => by omega, fun _ => ⟨rm, rot, k, ⟨p, p'⟩, ⟨k0, k1, k2⟩, hi⟩, fun z => by omega⟩
  · rw [if_neg (by omega), if_neg (by omega)]
    obtain ⟨rm0, rot0, ka, ⟨p, p'⟩, ⟨ka0, ka1, ka2⟩, q⟩ := h4 w
    obtain ⟨ic, k0, k1, k2⟩ := s4 w
    subst ic
    have ac := pu0_ac p
    obtain ⟨⟨e1, e2, e3⟩, g, al', ⟨ha, hc⟩, hr⟩ := p
    have o := q.2.2 i ac.2.2.1 (fun z => ac.2.2.2.2 z.symm)
    have ra := rt_len hr e2 ac.1 ac.2.1
    have rc' := rt_len hr e2 ac.2.2.1 ac.2.2.2.1
    have t := ins_two q hi ac.1 ac.2.2.1 ac.2.2.2.2 (by have := q.1; omega) (by omega)
    subst e1
    rw [o.2 (k - 1) (by omega) (by omega)] at k2
    exact ⟨fun z => by omega, fun z => by omega, fun z => by omega, fun z => by omega, fun _ => ⟨⟨g, by omega⟩, al', rot_chord g e2 e3 (al' e e2 (by omega)) ha hc hr p'.1 p'.2.1 p'.2.2.1 p'.2.2.2 t ka1 ka2 k0 k2⟩⟩
/-- shifted down to j -/
def PAL (md n m : Int) (pt ph al rm rot : Int → Int) (i e k j a c d x : Int) : Prop := ∃ rot0, PAX md n m pt ph al rm rot0 i e k a c d x ∧ k ≤ j ∧ j ≤ rm i ∧ (∀ l, 0 ≤ l → l ≤ j → rt rot i l = rt rot0 i l) ∧ (∀ l, j < l → l ≤ rm i → rt rot i l = rt rot0 i (l - 1)) ∧ ∀ i', 0 ≤ i' → i' ≠ i → ∀ l, 0 ≤ l → l < 80 → rt rot i' l = rt rot0 i' l
theorem pal_start {md n m i e k j a c d x : Int} {pt ph al rm rot : Int → Int} (h : PAX md n m pt ph al rm rot i e k a c d x) (hj : j = rm i) : PAL md n m pt ph al rm rot i e k j a c d x :=
  ⟨rot, h, by have := pax_len h; omega, by omega, fun _ _ _ => rfl, fun l a b => by omega, fun _ _ _ _ _ _ => rfl⟩
theorem pal_len {md n m i e k j a c d x : Int} {pt ph al rm rot : Int → Int} (h : PAL md n m pt ph al rm rot i e k j a c d x) : (0 ≤ i ∧ i < n) ∧ (0 ≤ e ∧ e ≤ 79) ∧ 0 ≤ k ∧ k ≤ j ∧ j ≤ rm i ∧ rm i ≤ 79 := by
  obtain ⟨rot0, h1, h2, h3, _⟩ := h
  have := pax_len h1
  omega
theorem pal_step {md n m i e k j j' a c d x p v q : Int} {pt ph al rm rot rot' : Int → Int} (h : PAL md n m pt ph al rm rot i e k j a c d x) (hj : j' = j - 1) (hk : k < j) (hs : st1 rot rot' p v) (hp : p = 80 * i + j) (hv : v = rot q) (hq : q = 80 * i + j - 1) : PAL md n m pt ph al rm rot' i e k j' a c d x := by
  have hl := pal_len h
  obtain ⟨rot0, h1, h2, h3, h4, h5, h6⟩ := h
  have kp : ∀ l, 0 ≤ l → l ≠ j → rt rot' i l = rt rot i l := fun l a b => (hs _ (by omega)).2 (by omega)
  have nw : rt rot' i j = rt rot i (j - 1) := by
    unfold rt
    rw [(hs _ (by omega)).1 (by omega), hv, hq, show 80 * i + j - 1 = 80 * i + (j - 1) by omega]
  refine ⟨rot0, h1, by omega, by omega, fun l a b => by rw [kp l a (by omega)]; exact h4 l a (by omega), fun l a b => ?_, fun i' a b l c d => ?_⟩
  · by_cases z : l = j
    · rw [z, nw]; exact h4 _ (by omega) (by omega)
    · rw [kp l (by omega) z]; exact h5 l (by omega) b
  · have : rt rot' i' l = rt rot i' l := (hs _ (by omega)).2 (by omega)
    rw [this]; exact h6 i' a b l c d
theorem pal_end {md n m i e k j a c d x p v q w : Int} {pt ph al rm rm' rot rot' : Int → Int} (h : PAL md n m pt ph al rm rot i e k j a c d x) (hj : j ≤ k) (hs : st1 rot rot' p v) (hp : p = 80 * i + k) (hv : v = e) (ht : st1 rm rm' q w) (hq : q = i) (hw : w = rm q + 1) : PUX (nxm md) n m pt ph al rm' rot' a c d x e := by
  have hl := pal_len h
  obtain ⟨rot0, h1, h2, h3, h4, h5, h6⟩ := h
  have kp : ∀ l, 0 ≤ l → l ≠ k → rt rot' i l = rt rot i l := fun l a b => (hs _ (by omega)).2 (by omega)
  refine pax_ins h1 ⟨?_, ⟨by omega, by omega, fun l a b => ?_, ?_, fun l a b => ?_⟩, fun i' a b => ⟨(ht i' a).2 (by omega), fun l c d => ?_⟩⟩
  · rw [(ht i (by omega)).1 hq.symm, hw, hq]
  · rw [kp l a (by omega)]; exact h4 l a (by omega)
  · exact ((hs _ (by omega)).1 (by omega)).trans hv
  · rw [kp (l + 1) (by omega) (by omega)]
    have := h5 (l + 1) (by omega) (by omega)
    rw [show l + 1 - 1 = l by omega] at this; exact this
  · have : rt rot' i' l = rt rot i' l := (hs _ (by omega)).2 (by omega)
    rw [this]; exact h6 i' a b l c d
/-- where the edge is sought -/
def SEK (rot : Int → Int) (i e k : Int) : Prop := ∀ j, 0 ≤ j → j < k → rt rot i j ≠ e
theorem sek_next {rot : Int → Int} {i e k k' : Int} (h : SEK rot i e k) (hk : k' = k + 1) (hn : rt rot i k ≠ e) : SEK rot i e k' := by
  intro j a b
  by_cases q : j = k
  · rw [q]; exact hn
  · exact h j a (by omega)
theorem sek_a {n m a c d x e k f : Int} {pt ph al rm rot : Int → Int} (h : PUX 3 n m pt ph al rm rot a c d x e) (hf : f = d / 2) (hs : SEK rot a f k) : (0 ≤ a ∧ a < n) ∧ k < rm a ∧ rm a ≤ 79 ∧ 0 ≤ e ∧ e ≤ 79 := by
  obtain ⟨p, l, _, da, _⟩ := h.2.2.1 rfl
  have ac := pu0_ac p
  obtain ⟨⟨e1, e2, e3⟩, g, al', _, hr⟩ := p
  have j := dart_J (pt := pt) (ph := ph) l
  rw [da] at j
  obtain ⟨t, t0, t1, t2⟩ := (hr.1 a ac.1 ac.2.1).2.2.2 _ _ j
  have r := rt_len hr e2 ac.1 ac.2.1
  refine ⟨⟨ac.1, ac.2.1⟩, Classical.byContradiction (fun z => hs t t0 (by omega) (by rw [hf]; exact t2)), by omega, by omega, by omega⟩
theorem sek_c {n m a c d x e k f : Int} {pt ph al rm rot : Int → Int} (h : PUX 4 n m pt ph al rm rot a c d x e) (hf : f = x / 2) (hs : SEK rot c f k) : (0 ≤ c ∧ c < n) ∧ k < rm c ∧ rm c ≤ 79 ∧ 0 ≤ e ∧ e ≤ 79 := by
  obtain ⟨rm0, rot0, ka, ⟨p, l, hn, da, xc⟩, _, q⟩ := h.2.2.2.1 rfl
  have ac := pu0_ac p
  obtain ⟨⟨e1, e2, e3⟩, g, al', _, hr⟩ := p
  have hgm := gok_sub (m' := e) g (by omega)
  have lx := ndt_liv hgm (eml_rot.2 hr) l hn
  have j := JJ_sym _ _ _ (dart_J (pt := pt) (ph := ph) lx)
  rw [xc] at j
  obtain ⟨t, t0, t1, t2⟩ := (hr.1 c ac.2.2.1 ac.2.2.2.1).2.2.2 _ _ j
  have r := rt_len hr e2 ac.2.2.1 ac.2.2.2.1
  have o := q.2.2 c ac.2.2.1 (fun z => ac.2.2.2.2 z.symm)
  rw [o.1]
  refine ⟨⟨ac.2.2.1, ac.2.2.2.1⟩, Classical.byContradiction (fun z => hs t t0 (by omega) ?_), by omega, by omega, by omega⟩
  rw [o.2 t t0 (by omega), hf]; exact t2
