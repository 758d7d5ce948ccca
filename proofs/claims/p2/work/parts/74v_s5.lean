/-! parts: neighbours are in one part, every part has a node -/
def NCL (n : Int) (nr : Int → Int) (S : Int → Prop) : Prop := ∀ u w, 0 ≤ u → u < n → 0 ≤ w → w < n → S u → bit (nr u) w → S w
def PNC (n : Int) (nr pt : Int → Int) : Prop := (∀ u w, 0 ≤ u → u < n → 0 ≤ w → w < n → bit (nr u) w → pt w = pt u) ∧ ∀ S : Int → Prop, NCL n nr S → ∀ u w, 0 ≤ u → u < n → 0 ≤ w → w < n → pt u = pt w → S u → S w
def FPA (n ps : Int) (pt : Int → Int) : Prop := (∀ p, 0 ≤ p → p < ps → ∃ v, 0 ≤ v ∧ v < n ∧ pt v = p) ∧ ∀ v, 0 ≤ v → v < n → 0 ≤ pt v ∧ pt v < ps
/-- a graph's neighbours: both ways, and nodes of it -/
def GNO (n : Int) (nr : Int → Int) : Prop := ∀ u w, 0 ≤ u → u < n → 0 ≤ w → w < 32 → bit (nr u) w → w < n ∧ bit (nr w) u
/-- neighbours are those that an edge joins -/
def GEN (n m : Int) (nr tl hd : Int → Int) : Prop := (∀ e, 0 ≤ e → e < m → bit (nr (tl e)) (hd e) ∧ bit (nr (hd e)) (tl e)) ∧ ∀ u w, 0 ≤ u → u < n → 0 ≤ w → w < n → bit (nr u) w → ∃ e, 0 ≤ e ∧ e < m ∧ ((tl e = u ∧ hd e = w) ∨ (tl e = w ∧ hd e = u))
def GNB (n m : Int) (nr tl hd : Int → Int) : Prop := GNO n nr ∧ GEN n m nr tl hd
/-- a set of nodes that hangs together with the rest at one node alone; with one block there are not edges on both sides -/
def CUTN (n : Int) (nr : Int → Int) (w0 : Int) (S : Int → Prop) : Prop := ¬ S w0 ∧ ∀ u w, 0 ≤ u → u < n → 0 ≤ w → w < n → S u → bit (nr u) w → S w ∨ w = w0
def BKS (n m bk : Int) (nr tl hd : Int → Int) : Prop := bk ≤ m ∧ (bk = 1 → ∀ (w0 : Int) (S : Int → Prop), CUTN n nr w0 S → ∀ e f, 0 ≤ e → e < m → 0 ≤ f → f < m → (S (tl e) ∨ S (hd e)) → (¬ S (tl f) ∧ ¬ S (hd f)) → False)
theorem gnb_syg {n : Int} {nr : Int → Int} (h : GNO n nr) (hn : n ≤ 24) : SYMN nr n := fun u v u0 u1 v0 v1 z => (h u v u0 u1 v0 (by omega) z).2
/-- parts up to a node -/
def LPI (sn ps n : Int) (nr pt : Int → Int) (i : Int) : Prop := 0 ≤ i ∧ 0 ≤ ps ∧ (∀ w, 0 ≤ w → w < 32 → bit sn w → w < n) ∧ (∀ u w, 0 ≤ u → u < n → bit sn u → 0 ≤ w → w < 32 → bit (nr u) w → bit sn w ∧ pt w = pt u) ∧ (∀ v, 0 ≤ v → v < n → bit sn v → 0 ≤ pt v ∧ pt v < ps) ∧ (∀ p, 0 ≤ p → p < ps → ∃ v, 0 ≤ v ∧ v < n ∧ bit sn v ∧ pt v = p) ∧ (∀ v, 0 ≤ v → v < i → bit sn v) ∧ ∀ S : Int → Prop, NCL n nr S → ∀ u w, 0 ≤ u → u < n → 0 ≤ w → w < n → bit sn u → bit sn w → pt u = pt w → S u → S w
/-- a set of nodes gets its part's number: what was there before -/
def SAP (pt nr : Int → Int) (n st vl sn i : Int) : Prop := LPI sn vl n nr pt i ∧ GNO n nr ∧ n ≤ 24 ∧ 0 ≤ i ∧ i < n ∧ bit st i ∧ (∀ w, 0 ≤ w → w < 32 → bit st w → w < n ∧ ¬ bit sn w) ∧ (∀ u w, 0 ≤ u → u < n → bit st u → 0 ≤ w → w < 32 → bit (nr u) w → bit st w) ∧ ∀ S : Int → Prop, NCL n nr S → ∀ u w, 0 ≤ u → u < n → 0 ≤ w → w < n → bit st u → bit st w → S u → S w
/-- the same, told by what has been seen with it -/
def SAQ (pt nr : Int → Int) (n st vl s2 i : Int) : Prop := ∃ sn, SAP pt nr n st vl sn i ∧ ∀ w, 0 ≤ w → w < 32 → (bit s2 w ↔ bit sn w ∨ bit st w)
def SAI (pt nr : Int → Int) (n st vl sn i v : Int) : Prop := ∃ p0 : Int → Int, SAQ p0 nr n st vl sn i ∧ 0 ≤ v ∧ (∀ j, 0 ≤ j → j < n → bit st j → j < v → pt j = vl) ∧ ∀ j, 0 ≤ j → j < n → ¬ bit st j → pt j = p0 j
def SAO (pt nr : Int → Int) (n st vl sn i : Int) : Prop := SAI pt nr n st vl sn i n
theorem sai_start {pt nr : Int → Int} {n st vl sn i v : Int} (h : SAQ pt nr n st vl sn i) (hv : v = 0) : SAI pt nr n st vl sn i v := ⟨pt, h, by omega, fun j a b c d => by omega, fun j _ _ _ => rfl⟩
theorem sai_skip {pt nr : Int → Int} {n st vl sn i v v' : Int} (h : SAI pt nr n st vl sn i v) (hb : ¬ bit st v) (hv : v' = v + 1) : SAI pt nr n st vl sn i v' := by
  obtain ⟨p0, h1, h2, h3, h4⟩ := h
  exact ⟨p0, h1, by omega, fun j a b c d => h3 j a b c (by by_cases e : j = v; rw [e] at c; exact absurd c hb; omega), h4⟩
theorem sai_step {pt pt' nr : Int → Int} {n st vl sn i v v' p x : Int} (h : SAI pt nr n st vl sn i v) (hb : bit st v) (hs : st1 pt pt' p x) (hp : p = v) (hx : x = vl) (hv : v' = v + 1) : SAI pt' nr n st vl sn i v' := by
  obtain ⟨p0, h1, h2, h3, h4⟩ := h
  refine ⟨p0, h1, by omega, fun j a b c d => ?_, fun j a b c => ?_⟩
  · by_cases e : j = v
    · rw [(hs j a).1 (by omega)]; exact hx
    · rw [(hs j a).2 (by omega)]; exact h3 j a b c (by omega)
  · rw [(hs j a).2 (fun e => by rw [e, hp] at c; exact c hb)]; exact h4 j a b c
theorem sao_of {pt nr : Int → Int} {n st vl sn i v : Int} (h : SAI pt nr n st vl sn i v) (hv : n ≤ v) : SAO pt nr n st vl sn i := by
  obtain ⟨p0, h1, h2, h3, h4⟩ := h
  have q : 0 ≤ n := by obtain ⟨_, q, _⟩ := h1; have := q.2.2.2.1; have := q.2.2.2.2.1; omega
  exact ⟨p0, h1, q, fun j a b c d => h3 j a b c (by omega), h4⟩
theorem lpi_start {sn ps n i : Int} {nr pt : Int → Int} (hs : sn = 0) (hp : ps = 0) (hi : i = 0) : LPI sn ps n nr pt i := by
  have z : ∀ w, ¬ bit sn w := fun w q => absurd (hs ▸ q) (bit_zero w)
  exact ⟨by omega, by omega, fun w _ _ q => absurd q (z w), fun u w _ _ q => absurd q (z u), fun v _ _ q => absurd q (z v), fun p a b => by omega, fun v a b => by omega, fun S _ u w _ _ _ _ q => absurd q (z u)⟩
theorem lpi_skip {sn ps n i i' : Int} {nr pt : Int → Int} (h : LPI sn ps n nr pt i) (hb : bit sn i) (hi : i' = i + 1) : LPI sn ps n nr pt i' := by
  obtain ⟨h1, h2, h3, h4, h5, h6, h7, h8⟩ := h
  exact ⟨by omega, h2, h3, h4, h5, h6, fun v a b => by by_cases e : v = i; rw [e]; exact hb; exact h7 v a (by omega), h8⟩
/-- a new part: what hangs together with a node that was not seen -/
theorem sap_of {sn ps n i st q al : Int} {nr pt : Int → Int} (h : LPI sn ps n nr pt i) (hg : GNO n nr) (n24 : n ≤ 24) (i1 : i < n) (hb : ¬ bit sn i) (hq : bvp q = bvp 1 <<< i.toNat) (ha : al = -1) (hS : SPZ nr n q al st) : SAP pt nr n st ps sn i := by
  have i0 := h.1
  have bq : ∀ w, 0 ≤ w → w < 32 → (bit q w ↔ w = i) := fun w a b => bit_shl hq rfl i0 a b
  have bal : ∀ w, 0 ≤ w → w < 32 → bit al w := fun w a b => by rw [ha]; exact bit_m1 a b
  have nrb : NRB nr n := fun u w u0 u1 w0 w1 z => (hg u w u0 u1 w0 w1 z).1
  have frn : FRN n q := fun w a b z => by rw [bq w a b] at z; omega
  obtain ⟨c1, c2⟩ := hS.2.2.2 nrb frn
  have hmin := hS.2.2.1 (fun w => w < n ∧ ¬ bit sn w) ⟨fun w a b z _ => by rw [bq w a b] at z; rw [z]; exact ⟨i1, hb⟩, fun u w u0 u1 hu w0 w1 z _ => ⟨(hg u w u0 u1 w0 w1 z).1, fun sw => hu.2 (by
    have := hg u w u0 u1 w0 w1 z
    exact (h.2.2.2.1 w u w0 this.1 sw u0 (by omega) this.2).1)⟩⟩
  exact ⟨h, hg, n24, i0, i1, hS.2.1 i i0 (by omega) ((bq i i0 (by omega)).mpr rfl) (bal i i0 (by omega)), fun w a b z => hmin w a b z, fun u w u0 u1 z w0 w1 y => c2 u w u0 u1 z w0 w1 y (bal w w0 w1), fun S hS2 u w u0 u1 w0 w1 zu zw su => by
    have key : ∀ P : Int → Prop, NCL n nr P → P i → ∀ x, 0 ≤ x → x < n → bit st x → P x := fun P hP pi x x0 x1 bx => by
      have := hS.2.2.1 (fun x => x < n ∧ P x) ⟨fun w a b z _ => by rw [bq w a b] at z; rw [z]; exact ⟨i1, pi⟩, fun u w u0 u1 hu w0 w1 z _ => ⟨(hg u w u0 u1 w0 w1 z).1, hP u w u0 u1 w0 ((hg u w u0 u1 w0 w1 z).1) hu.2 z⟩⟩ x x0 (by omega) bx
      exact this.2
    by_cases si : S i
    · exact key S hS2 si w w0 w1 zw
    · exact absurd su (key (fun x => ¬ S x) (fun a b a0 a1 b0 b1 na z sb => na (hS2 b a b0 b1 a0 a1 sb (hg a b a0 a1 b0 (by omega) z).2)) si u u0 u1 zu)⟩
theorem lpi_step {sn sn' ps ps' n i i' st : Int} {nr pt : Int → Int} (h : SAO pt nr n st ps sn' i) (hp : ps' = ps + 1) (hi : i' = i + 1) (_ : sn = sn) : LPI sn' ps' n nr pt i' := by
  obtain ⟨p0, ⟨sn, ⟨a1, a2, a3, a4, a5, a6, a7, a8, a9⟩, hs⟩, b1, b2, b3⟩ := h
  obtain ⟨h1, h2, h3, h4, h5, h6, h7, h8⟩ := a1
  have bo : ∀ w, 0 ≤ w → w < 32 → (bit sn' w ↔ bit sn w ∨ bit st w) := hs
  have pst : ∀ w, 0 ≤ w → w < n → bit st w → pt w = ps := fun w a b c => b2 w a b c b
  have psn : ∀ w, 0 ≤ w → w < n → bit sn w → pt w = p0 w := fun w a b c => b3 w a b (fun z => (a7 w a (by omega) z).2 c)
  refine ⟨by omega, by omega, fun w a b z => ?_, fun u w u0 u1 z w0 w1 y => ?_, fun v a b z => ?_, fun p p0' p1 => ?_, fun v a b => ?_, fun S hS u w u0 u1 w0 w1 zu zw e su => ?_⟩
  · rcases (bo w a b).mp z with q | q
    · exact h3 w a b q
    · exact (a7 w a b q).1
  · have wn := (a2 u w u0 u1 w0 w1 y).1
    rcases (bo u u0 (by omega)).mp z with q | q
    · have r := h4 u w u0 u1 q w0 w1 y
      exact ⟨(bo w w0 w1).mpr (Or.inl r.1), by rw [psn w w0 wn r.1, psn u u0 u1 q]; exact r.2⟩
    · have r := a8 u w u0 u1 q w0 w1 y
      exact ⟨(bo w w0 w1).mpr (Or.inr r), by rw [pst w w0 wn r, pst u u0 u1 q]⟩
  · rcases (bo v a (by omega)).mp z with q | q
    · rw [psn v a b q]; have := h5 v a b q; omega
    · rw [pst v a b q]; omega
  · by_cases e : p = ps
    · exact ⟨i, a4, a5, (bo i a4 (by omega)).mpr (Or.inr a6), by rw [pst i a4 a5 a6]; exact e.symm⟩
    · obtain ⟨v, v0, v1, v2, v3⟩ := h6 p p0' (by omega)
      exact ⟨v, v0, v1, (bo v v0 (by omega)).mpr (Or.inl v2), by rw [psn v v0 v1 v2]; exact v3⟩
  · by_cases e : v = i
    · rw [e]; exact (bo i a4 (by omega)).mpr (Or.inr a6)
    · exact (bo v a (by omega)).mpr (Or.inl (h7 v a (by omega)))
  · rcases (bo u u0 (by omega)).mp zu with q | q
    · rcases (bo w w0 (by omega)).mp zw with r | r
      · exact h8 S hS u w u0 u1 w0 w1 q r (by rw [← psn u u0 u1 q, ← psn w w0 w1 r]; exact e) su
      · have := h5 u u0 u1 q
        rw [psn u u0 u1 q, pst w w0 w1 r] at e; omega
    · rcases (bo w w0 (by omega)).mp zw with r | r
      · have := h5 w w0 w1 r
        rw [pst u u0 u1 q, psn w w0 w1 r] at e; omega
      · exact a9 S hS u w u0 u1 w0 w1 q r su
theorem saq_of {sn s2 n i st ps : Int} {nr pt : Int → Int} (h : SAP pt nr n st ps sn i) (hs : bvp s2 = bvp sn ||| bvp st) : SAQ pt nr n st ps s2 i := ⟨sn, h, fun w _ _ => bit_or hs w⟩
def LPJ (ps n : Int) (pt nr : Int → Int) (sn i : Int) : Prop := LPI sn ps n nr pt i
theorem pnc_of {sn ps n i : Int} {nr pt : Int → Int} (h : LPI sn ps n nr pt i) (hi : n ≤ i) (n24 : n ≤ 24) : PNC n nr pt := ⟨fun u w u0 u1 w0 w1 z => (h.2.2.2.1 u w u0 u1 (h.2.2.2.2.2.2.1 u u0 (by omega)) w0 (by omega) z).2, fun S hS u w u0 u1 w0 w1 e su => h.2.2.2.2.2.2.2 S hS u w u0 u1 w0 w1 (h.2.2.2.2.2.2.1 u u0 (by omega)) (h.2.2.2.2.2.2.1 w w0 (by omega)) e su⟩
theorem fpa_of {sn ps n i : Int} {nr pt : Int → Int} (h : LPI sn ps n nr pt i) (hi : n ≤ i) : FPA n ps pt := ⟨fun p a b => by
  obtain ⟨v, v0, v1, _, v3⟩ := h.2.2.2.2.2.1 p a b
  exact ⟨v, v0, v1, v3⟩, fun v a b => h.2.2.2.2.1 v a b (h.2.2.2.2.2.2.1 v a (by omega))⟩
/-! trees: the order has no node twice -/
def WTB (or' pt : Int → Int) (s p : Int) : Prop := 0 ≤ s ∧ (∀ i j, 0 ≤ i → i < j → j < s → or' i ≠ or' j) ∧ ∀ i, 0 ≤ i → i < s → 0 ≤ or' i ∧ or' i < 24 ∧ pt (or' i) < p
def WTA (or' pt : Int → Int) (s p : Int) : Prop := WTB or' pt s (p + 1)
def RTP (pt : Int → Int) (r p : Int) : Prop := pt r = p
def FPE (n : Int) (pt : Int → Int) (p : Int) : Prop := ∃ v, 0 ≤ v ∧ v < n ∧ pt v = p
def FPF (n : Int) (pt : Int → Int) (p v : Int) : Prop := ∃ u, v ≤ u ∧ 0 ≤ u ∧ u < n ∧ pt u = p
theorem fpf_start {n p v : Int} {pt : Int → Int} (h : FPE n pt p) (hv : v = 0) : FPF n pt p v := by
  obtain ⟨u, a, b, c⟩ := h; exact ⟨u, by omega, a, b, c⟩
theorem fpf_skip {n p v v' x : Int} {pt : Int → Int} (h : FPF n pt p v) (hx : x = pt v) (hn : x ≠ p) (hv : v' = v + 1) : FPF n pt p v' := by
  obtain ⟨u, u0, a, b, c⟩ := h
  by_cases e : u = v
  · rw [e, ← hx] at c; exact absurd c hn
  · exact ⟨u, by omega, a, b, c⟩
theorem wtb_room {s p r : Int} {or' pt : Int → Int} (h : WTB or' pt s p) (r0 : 0 ≤ r) (r1 : r < 24) (hr : pt r = p) : 0 ≤ s ∧ s ≤ 23 := by
  obtain ⟨h1, h2, h3⟩ := h
  refine ⟨h1, ?_⟩
  have := php (s + 1).toNat 24 (fun i => ((fun j : Int => if j < s then or' j else r) (i : Int)).toNat) (fun i hi => by
    show (if (i : Int) < s then or' i else r).toNat < 24
    split
    · have := h3 i (by omega) (by assumption); omega
    · omega) (fun i j hi hj e => by
    have e : (if (i : Int) < s then or' i else r).toNat = (if (j : Int) < s then or' j else r).toNat := e
    by_cases a : (i : Int) < s
    · have ha := h3 i (by omega) a
      rw [if_pos a] at e
      by_cases b : (j : Int) < s
      · have hb := h3 j (by omega) b
        rw [if_pos b] at e
        by_cases c : i < j
        · exact absurd (by omega) (h2 i j (by omega) (by omega) b)
        · by_cases d : j < i
          · exact absurd (by omega) (h2 j i (by omega) (by omega) a)
          · omega
      · rw [if_neg b] at e
        have : or' i = r := by omega
        rw [this, hr] at ha; omega
    · rw [if_neg a] at e
      by_cases b : (j : Int) < s
      · have hb := h3 j (by omega) b
        rw [if_pos b] at e
        have : or' j = r := by omega
        rw [this, hr] at hb; omega
      · omega)
  omega
/-- a tree is walked -/
def WTI (n : Int) (or' pt : Int → Int) (sn s en p k : Int) : Prop := 0 ≤ s ∧ s < en ∧ s ≤ k ∧ en ≤ 24 ∧ (∀ i j, 0 ≤ i → i < j → j < en → or' i ≠ or' j) ∧ (∀ i, 0 ≤ i → i < s → 0 ≤ or' i ∧ or' i < 24 ∧ pt (or' i) < p) ∧ ∀ i, s ≤ i → i < en → 0 ≤ or' i ∧ or' i < n ∧ pt (or' i) = p ∧ bit sn (or' i)
theorem wti_start {or' or2 pt : Int → Int} {n sn s en p k r q x : Int} (h : WTB or' pt s p) (s23 : s ≤ 23) (r0 : 0 ≤ r) (r1 : r < n) (n24 : n ≤ 24) (hr : RTP pt r p) (hs : st1 or' or2 q x) (hq : q = s) (hx : x = r) (hsn : bvp sn = bvp 1 <<< r.toNat) (he : en = s + 1) (hk : k = s) : WTI n or2 pt sn s en p k := by
  obtain ⟨h1, h2, h3⟩ := h
  have os : or2 s = r := by rw [(hs s h1).1 (by omega)]; exact hx
  have oo : ∀ i, 0 ≤ i → i < s → or2 i = or' i := fun i a b => (hs i a).2 (by omega)
  refine ⟨h1, by omega, by omega, by omega, fun i j i0 ij j1 => ?_, fun i a b => by rw [oo i a b]; exact h3 i a b, fun i a b => ?_⟩
  · by_cases e : j = s
    · rw [e, os, oo i i0 (by omega)]
      intro z
      have := h3 i i0 (by omega)
      rw [z, hr] at this; omega
    · rw [oo i i0 (by omega), oo j (by omega) (by omega)]; exact h2 i j i0 ij (by omega)
  · rw [show i = s by omega, os]; exact ⟨r0, r1, hr, by rw [bit_shl hsn rfl r0 r0 (by omega)]⟩
theorem wti_step {or' or2 pt nr : Int → Int} {n sn sn' s en en' p k v w q x o : Int} (h : WTI n or' pt sn s en p k) (hk : k < en) (e24 : en < 24) (hc : PNC n nr pt) (hv : v = or' k) (w0 : 0 ≤ w) (w1 : w < n) (n24 : n ≤ 24) (hb : bit (nr v) w) (hn : ¬ bit sn w) (hs : st1 or' or2 q x) (hq : q = en) (hx : x = w) (ho : bvp o = bvp 1 <<< w.toNat) (hsn : bvp sn' = bvp sn ||| bvp o) (he : en' = en + 1) : WTI n or2 pt sn' s en' p k := by
  obtain ⟨h1, h2, h3, h4, h5, h6, h7⟩ := h
  have oe : or2 en = w := by rw [(hs en (by omega)).1 (by omega)]; exact hx
  have oo : ∀ i, 0 ≤ i → i < en → or2 i = or' i := fun i a b => (hs i a).2 (by omega)
  have vk := h7 k h3 hk
  rw [← hv] at vk
  have v1 : v < n := vk.2.1
  have pw : pt w = p := by rw [hc.1 v w vk.1 v1 w0 w1 hb]; exact vk.2.2.1
  refine ⟨h1, by omega, h3, by omega, fun i j i0 ij j1 => ?_, fun i a b => by rw [oo i a (by omega)]; exact h6 i a b, fun i a b => ?_⟩
  · by_cases e : j = en
    · rw [e, oe, oo i i0 (by omega)]
      intro z
      by_cases c : i < s
      · have := h6 i i0 c
        rw [z, pw] at this; omega
      · have := h7 i (by omega) (by omega)
        rw [z] at this; exact hn this.2.2.2
    · rw [oo i i0 (by omega), oo j (by omega) (by omega)]; exact h5 i j i0 ij (by omega)
  · by_cases e : i = en
    · rw [e, oe]; exact ⟨w0, w1, pw, (bit_or hsn w).mpr (Or.inr (by rw [bit_shl ho rfl w0 w0 (by omega)]))⟩
    · rw [oo i (by omega) (by omega)]
      have := h7 i a (by omega)
      exact ⟨this.1, this.2.1, this.2.2.1, (bit_or hsn _).mpr (Or.inl this.2.2.2)⟩
theorem wti_next {or' pt : Int → Int} {n sn s en p k k' : Int} (h : WTI n or' pt sn s en p k) (hk : k' = k + 1) : WTI n or' pt sn s en p k' := ⟨h.1, h.2.1, by have := h.2.2.1; omega, h.2.2.2⟩
theorem wta_of {or' pt : Int → Int} {n sn s en p k an : Int} (h : WTI n or' pt sn s en p k) (n24 : n ≤ 24) (ha : an = en) : WTA or' pt an p := by
  obtain ⟨h1, h2, h3, h4, h5, h6, h7⟩ := h
  subst ha
  refine ⟨by omega, h5, fun i a b => ?_⟩
  by_cases c : i < s
  · have := h6 i a c; omega
  · have := h7 i (by omega) b; omega
theorem wtb_start {or' pt : Int → Int} {s p : Int} (hs : s = 0) : WTB or' pt s p := ⟨by omega, fun i j a b c => by omega, fun i a b => by omega⟩
