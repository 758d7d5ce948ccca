/-! the class's matrix: nodes in rows, each once -/
def FWJ (s f l v : Int) : Prop := ((∀ u, 0 ≤ u → u < v → ¬ bit s u) ∧ l = 1000000000) ∨ (bit s f ∧ 0 ≤ f ∧ f < v)
def FWN (n s an : Int) : Prop := (∃ u, 0 ≤ u ∧ u < n ∧ bit s u) → bit s an ∧ 0 ≤ an ∧ an < n
theorem fwj_start {s f l v : Int} (hl : l = 1000000000) (hv : v = 0) : FWJ s f l v := Or.inl ⟨fun u a b => by omega, hl⟩
theorem fwj_skip {s f l v v' : Int} (h : FWJ s f l v) (hb : ¬ bit s v ∨ l ≤ 63) (hv : v' = v + 1) : FWJ s f l v' := by
  rcases h with ⟨h1, h2⟩ | ⟨h1, h2, h3⟩
  · rcases hb with hb | hb
    · refine Or.inl ⟨fun u a b => ?_, h2⟩
      by_cases e : u = v
      · rw [e]; exact hb
      · exact h1 u a (by omega)
    · omega
  · exact Or.inr ⟨h1, h2, by omega⟩
theorem fwj_take {s f l v v' f' l' : Int} (hb : bit s v) (v0 : 0 ≤ v) (hf : f' = v) (hv : v' = v + 1) : FWJ s f' l' v' := Or.inr ⟨hf ▸ hb, by omega, by omega⟩
theorem fwn_of {n s f l v an : Int} (h : FWJ s f l v) (hv : n ≤ v) (hvn : v ≤ n) (e : an = f) : FWN n s an := fun ⟨u, u0, u1, u2⟩ => by
  rcases h with ⟨h1, _⟩ | ⟨h1, h2, h3⟩
  · exact absurd u2 (h1 u u0 (by omega))
  · rw [e]; exact ⟨h1, h2, by omega⟩
def MX2 (od : Int → Int) (n ms nx en : Int) : Prop := 0 ≤ en ∧ 0 ≤ n ∧ n ≤ 24 ∧ (∀ i, 0 ≤ i → i < en → 0 ≤ od i ∧ od i < n ∧ ¬ bit ms (od i) ∧ ¬ bit nx (od i)) ∧ (∀ i j, 0 ≤ i → i < j → j < en → od i ≠ od j) ∧ (∀ v, 0 ≤ v → v < n → bit ms v ∨ bit nx v ∨ ∃ i, 0 ≤ i ∧ i < en ∧ od i = v) ∧ (∀ w, 0 ≤ w → w < 32 → (bit ms w → w < n ∧ ¬ bit nx w) ∧ (bit nx w → w < n))
def MX1 (od : Int → Int) (n ms en : Int) : Prop := MX2 od n ms 0 en
theorem mx_few {od : Int → Int} {n ms nx en : Int} (h : MX2 od n ms nx en) : en ≤ n := by
  obtain ⟨h1, h2, h3, h4, h5, _⟩ := h
  have := inj_le (n := n) (f := fun i => od i) (N := en.toNat) h2 (fun i hi => ⟨(h4 i (by omega) (by omega)).1, (h4 i (by omega) (by omega)).2.1⟩) (fun i j ij hj => h5 i j (by omega) (by omega) (by omega))
  omega
theorem mx1_start {od : Int → Int} {n ms en p one two : Int} (hp : bvp p = bvp one <<< n.toNat) (h1 : one = 1) (hm : ms = p - two) (h2 : two = 1) (n0 : 0 ≤ n) (n1 : n ≤ 24) (p0 : -2147483648 ≤ p) (p1 : p ≤ 2147483647) (he : en = 0) : MX1 od n ms en := by
  have hx : (bvp p).toInt = p := by unfold bvp; rw [BitVec.toInt_ofInt]; unfold Int.bmod; simp only; split <;> omega
  have ep : p = (2 : Int) ^ n.toNat := by
    have : ∀ k : Nat, k < 25 → (bvp 1 <<< k).toInt = (2 : Int) ^ k := by decide +kernel
    rw [← hx, hp, h1]; exact this n.toNat (by omega)
  have bm : ∀ w, 0 ≤ w → w < 32 → (bit ms w ↔ w < n) := fun w w0 w1 => by
    have e : ms = (2 : Int) ^ n.toNat - 1 := by omega
    have : ∀ k : Nat, k < 25 → ∀ j : Nat, j < 32 → ((bvp ((2 : Int) ^ k - 1)).getLsbD j = true ↔ j < k) := by decide +kernel
    have q := this n.toNat (by omega) w.toNat (by omega)
    unfold bit
    rw [e, q]; omega
  refine ⟨by omega, n0, n1, fun i a b => by omega, fun i j a b c => by omega, fun v a b => Or.inl ((bm v a (by omega)).mpr b), fun w a b => ⟨fun z => ⟨(bm w a b).mp z, bit_zero w⟩, fun z => absurd z (bit_zero w)⟩⟩
/-- one node taken off a set -/
theorem mx_take {od od' : Int → Int} {n ms nx nx' en en' x p y q r : Int} (h : MX2 od n ms nx en) (hx : bit nx x) (x0 : 0 ≤ x) (x1 : x < n) (hs : st1 od od' p y) (hp : p = en) (hy : y = x) (hq : ∀ w, 0 ≤ w → w < 32 → (bit q w ↔ w = x)) (hr : ∀ w, 0 ≤ w → w < 32 → (bit r w ↔ ¬ bit q w)) (hn : bvp nx' = bvp nx &&& bvp r) (he : en' = en + 1) : MX2 od' n ms nx' en' := by
  obtain ⟨h1, h2, h3, h4, h5, h6, h7⟩ := h
  subst hp hy
  have nb : ∀ w, 0 ≤ w → w < 32 → (bit nx' w ↔ bit nx w ∧ w ≠ y) := fun w a b => by rw [bit_and hn, hr w a b, hq w a b]
  have oT : od' p = y := (hs p h1).1 rfl
  have oN : ∀ i, 0 ≤ i → i ≠ p → od' i = od i := fun i a b => (hs i a).2 b
  refine ⟨by omega, h2, h3, fun i a b => ?_, fun i j a b c => ?_, fun v a b => ?_, fun w a b => ?_⟩
  · by_cases e : i = p
    · rw [e, oT]
      exact ⟨x0, x1, fun z => ((h7 y x0 (by omega)).1 z).2 hx, fun z => ((nb y x0 (by omega)).mp z).2 rfl⟩
    · rw [oN i a e]
      obtain ⟨c1, c2, c3, c4⟩ := h4 i a (by omega)
      exact ⟨c1, c2, c3, fun z => c4 ((nb _ c1 (by omega)).mp z).1⟩
  · by_cases e : j = p
    · rw [e, oT, oN i a (by omega)]
      intro z
      exact (h4 i a (by omega)).2.2.2 (z ▸ hx)
    · rw [oN i a (by omega), oN j (by omega) e]; exact h5 i j a b (by omega)
  · rcases h6 v a b with c | c | ⟨i, c1, c2, c3⟩
    · exact Or.inl c
    · by_cases e : v = y
      · exact Or.inr (Or.inr ⟨p, h1, by omega, by rw [oT, e]⟩)
      · exact Or.inr (Or.inl ((nb v a (by omega)).mpr ⟨c, e⟩))
    · exact Or.inr (Or.inr ⟨i, c1, by omega, by rw [oN i c1 (by omega)]; exact c3⟩)
  · exact ⟨fun z => ⟨((h7 w a b).1 z).1, fun c => ((h7 w a b).1 z).2 ((nb w a b).mp c).1⟩, fun z => (h7 w a b).2 ((nb w a b).mp z).1⟩
theorem mx_swap {od : Int → Int} {n ms en : Int} (h : MX1 od n ms en) : MX2 od n 0 ms en := by
  obtain ⟨h1, h2, h3, h4, h5, h6, h7⟩ := h
  refine ⟨h1, h2, h3, fun i a b => ?_, h5, fun v a b => ?_, fun w a b => ⟨fun z => absurd z (bit_zero w), fun z => ((h7 w a b).1 z).1⟩⟩
  · obtain ⟨c1, c2, c3, c4⟩ := h4 i a b; exact ⟨c1, c2, bit_zero _, c3⟩
  · rcases h6 v a b with c | c | c
    · exact Or.inr (Or.inl c)
    · exact absurd c (bit_zero v)
    · exact Or.inr (Or.inr c)
theorem mx_swap2 {od : Int → Int} {n ms en : Int} (h : MX2 od n 0 ms en) : MX1 od n ms en := by
  obtain ⟨h1, h2, h3, h4, h5, h6, h7⟩ := h
  refine ⟨h1, h2, h3, fun i a b => ?_, h5, fun v a b => ?_, fun w a b => ⟨fun z => ⟨(h7 w a b).2 z, bit_zero w⟩, fun z => absurd z (bit_zero w)⟩⟩
  · obtain ⟨c1, c2, c3, c4⟩ := h4 i a b; exact ⟨c1, c2, c4, bit_zero _⟩
  · rcases h6 v a b with c | c | c
    · exact absurd c (bit_zero v)
    · exact Or.inl c
    · exact Or.inr (Or.inr c)
theorem mx1_some {od : Int → Int} {n ms en : Int} (h : MX1 od n ms en) (he : en < n) : ∃ u, 0 ≤ u ∧ u < n ∧ bit ms u := by
  refine Classical.byContradiction fun c => ?_
  obtain ⟨h1, h2, h3, h4, h5, h6, h7⟩ := h
  have hc : ∀ v : Nat, ∃ i : Int, (v : Int) < n → 0 ≤ i ∧ i < en ∧ od i = v := fun v => by
    by_cases hv : (v : Int) < n
    · rcases h6 v (by omega) hv with q | q | ⟨i, q⟩
      · exact absurd ⟨v, by omega, hv, q⟩ c
      · exact absurd q (bit_zero _)
      · exact ⟨i, fun _ => q⟩
    · exact ⟨0, fun z => absurd z hv⟩
  have := inj_le (n := en) (f := fun v => Classical.choose (hc v)) (N := n.toNat) h1 (fun v hv => by
    have := Classical.choose_spec (hc v) (by omega)
    exact ⟨this.1, this.2.1⟩) (fun u v uv hv e => by
    have a := Classical.choose_spec (hc u) (by omega)
    have b := Classical.choose_spec (hc v) (by omega)
    have e' : Classical.choose (hc u) = Classical.choose (hc v) := e
    rw [e', b.2.2] at a
    omega)
  omega
/-- a set parted in two -/
theorem mx_part {od : Int → Int} {n ms nr nx ms' r en : Int} (h : MX1 od n ms en) (hn : bvp nx = bvp nr &&& bvp ms) (hr : bvp r = bvp nx ^^^ bvp (-1)) (hm : bvp ms' = bvp ms &&& bvp r) : MX2 od n ms' nx en := by
  obtain ⟨h1, h2, h3, h4, h5, h6, h7⟩ := h
  have nb : ∀ w, bit nx w ↔ bit nr w ∧ bit ms w := fun w => bit_and hn w
  have mb : ∀ w, 0 ≤ w → w < 32 → (bit ms' w ↔ bit ms w ∧ ¬ bit nx w) := fun w a b => by rw [bit_and hm, bit_xor hr rfl a b]
  refine ⟨h1, h2, h3, fun i a b => ?_, h5, fun v a b => ?_, fun w a b => ⟨fun z => ?_, fun z => ((h7 w a b).1 ((nb w).mp z).2).1⟩⟩
  · obtain ⟨c1, c2, c3, c4⟩ := h4 i a b
    exact ⟨c1, c2, fun z => c3 ((mb _ c1 (by omega)).mp z).1, fun z => c3 ((nb _).mp z).2⟩
  · rcases h6 v a b with c | c | c
    · by_cases q : bit nx v
      · exact Or.inr (Or.inl q)
      · exact Or.inl ((mb v a (by omega)).mpr ⟨c, q⟩)
    · exact absurd c (bit_zero v)
    · exact Or.inr (Or.inr c)
  · exact ⟨((h7 w a b).1 ((mb w a b).mp z).1).1, ((mb w a b).mp z).2⟩
theorem mx_done {od : Int → Int} {n ms nx en : Int} (h : MX2 od n ms nx en) (hn : nx = 0) : MX1 od n ms en := by subst hn; exact h
theorem mx_some2 {od : Int → Int} {n ms nx en : Int} (h : MX2 od n ms nx en) (x0 : 0 ≤ nx) (x1 : nx < 4294967296) (hx : nx ≠ 0) : ∃ u, 0 ≤ u ∧ u < n ∧ bit nx u := by
  obtain ⟨w, w0, w1, w2⟩ := bit_ex (x := nx) (by omega) x1
  exact ⟨w, w0, (h.2.2.2.2.2.2 w w0 w1).2 w2, w2⟩
theorem mx_lt {od : Int → Int} {n ms nx en : Int} (h : MX2 od n ms nx en) (hx : ∃ u, 0 ≤ u ∧ u < n ∧ bit nx u) : en < n := by
  obtain ⟨h1, h2, h3, h4, h5, _⟩ := h
  obtain ⟨u, u0, u1, u2⟩ := hx
  obtain ⟨f, fT, fN⟩ : ∃ f : Nat → Int, f en.toNat = u ∧ ∀ i, i ≠ en.toNat → f i = od i := ⟨fun i => if i = en.toNat then u else od i, if_pos rfl, fun i e => if_neg e⟩
  have := inj_le (n := n) (f := f) (N := en.toNat + 1) h2 (fun i hi => by
    by_cases e : i = en.toNat
    · rw [e, fT]; exact ⟨u0, u1⟩
    · rw [fN i e]; exact ⟨(h4 i (by omega) (by omega)).1, (h4 i (by omega) (by omega)).2.1⟩) (fun i j ij hj => by
    have ei : i ≠ en.toNat := by omega
    rw [fN i ei]
    by_cases e : j = en.toNat
    · rw [e, fT]
      intro z
      exact (h4 i (by omega) (by omega)).2.2.2 (z ▸ u2)
    · rw [fN j e]; exact h5 i j (by omega) (by omega) (by omega))
  omega
theorem mx_take2 {od od' : Int → Int} {n nn ms nx nx' en en' x p y q r one b m1 : Int} (h : MX2 od n ms nx en) (hx : ∃ u, 0 ≤ u ∧ u < n ∧ bit nx u) (hF : FWN nn nx x) (enn : nn = n) (hs : st1 od od' p y) (hp : p = en) (hy : y = x) (hb : bvp q = bvp one <<< b.toNat) (h1 : one = 1) (eb : b = od' en) (hr : bvp r = bvp q ^^^ bvp m1) (hm : m1 = -1) (hn : bvp nx' = bvp nx &&& bvp r) (he : en' = en + 1) : MX2 od' n ms nx' en' := by
  subst enn
  obtain ⟨f1, f2, f3⟩ := hF hx
  have e0 := h.1
  have ebx : b = x := by rw [eb, (hs en e0).1 hp.symm, hy]
  exact mx_take h f1 f2 f3 hs hp hy (fun w a c => by rw [bit_shl hb h1 (by omega) a c, ebx]) (fun w a c => bit_xor hr hm a c) hn he
theorem mx1_take {od od' : Int → Int} {n nn ms ms' en en' x p y q r one b m1 : Int} (h : MX1 od n ms en) (he : en < n) (hF : FWN nn ms x) (enn : nn = n) (hs : st1 od od' p y) (hp : p = en) (hy : y = x) (hb : bvp q = bvp one <<< b.toNat) (h1 : one = 1) (eb : b = od' en) (hr : bvp r = bvp q ^^^ bvp m1) (hm : m1 = -1) (hn : bvp ms' = bvp ms &&& bvp r) (hen : en' = en + 1) : MX1 od' n ms' en' :=
  mx_swap2 (mx_take2 (mx_swap h) (mx1_some h he) hF enn hs hp hy hb h1 eb hr hm hn hen)
theorem mx_part2 {od : Int → Int} {n ms nr nx ms' r en m1 : Int} (h : MX1 od n ms en) (hn : bvp nx = bvp nr &&& bvp ms) (hr : bvp r = bvp nx ^^^ bvp m1) (h1 : m1 = -1) (hm : bvp ms' = bvp ms &&& bvp r) : MX2 od n ms' nx en := by subst h1; exact mx_part h hn hr hm
