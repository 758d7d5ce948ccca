-- the reference's grid: the order has every node; placed nodes lie near
def ORQ4 (n : Int) (left order : Int → Int) (k : Int) : Prop := (∀ z, 0 ≤ z → z < n → left z = 0 → ∃ j, k < j ∧ j < n ∧ order j = z) ∧ n - 1 - k ≤ cz left n ∧ ((0 ≤ order 0 ∧ order 0 < n) ∧ 0 ≤ order 1 ∧ order 1 < n) ∧ left (order 0) ≠ 0 ∧ left (order 1) ≠ 0 ∧ order 0 ≠ order 1
def ORR4 (n : Int) (left order : Int → Int) (k : Int) : Prop := ORQ4 n left order (k - 1)
def ORS (n : Int) (order : Int → Int) : Prop := ∀ z, 0 ≤ z → z < n → ∃ j, 0 ≤ j ∧ j < n ∧ order j = z
theorem orq4_start {n m upper k i : Int} {pt ph al rm rot left U order : Int → Int} (h : CNS n m upper pt ph al rm rot left U order k) (hl : LF1 left i) (hi : n ≤ i) : ORQ4 n left order k := by
  obtain ⟨hb, hk, ⟨nx, ρ, ω, _, _, _, h0, _⟩, hc, _⟩ := h
  have a := (h0.2.2.2.1 0 (by omega) (by have := h0.1; omega))
  have b := (h0.2.2.2.1 (upper - 1) (by have := h0.1; omega) (by omega))
  have d := h0.2.2.2.2.1 0 (upper - 1) (by omega) (by have := h0.1; omega) (by omega)
  rw [h0.2.1] at a d
  rw [h0.2.2.1] at b d
  refine ⟨fun z z0 z1 e => ?_, by omega, ⟨a.1, b.1⟩, a.2, b.2, d⟩
  exact absurd e (hl z z0 (by omega))
theorem orr4_of {n m upper k place p x s v q w : Int} {pt ph al rm rot left left' U order order' : Int → Int} (h : CPK n m upper pt ph al rm rot left U order k place p) (hp : upper ≤ p + 1) (hx : x = U place) (hq : ORQ4 n left order k) (hs : st1 order order' s v) (hss : s = k) (hv : v = x) (ht : st1 left left' q w) (hqq : q = x) (hw : w = 0) : ORR4 n left' order' k := by
  have pe := (cpk_end h hp).1
  obtain ⟨⟨hb, hk, ⟨nx, ρ, ω, _, _, _, h0, _⟩, hc, _⟩, _⟩ := h
  have hU := h0.2.2.2.1 place (by omega) (by omega)
  have d0 := h0.2.2.2.2.1 0 place (by omega) (by omega) (by omega)
  have d1 := h0.2.2.2.2.1 place (upper - 1) (by omega) (by omega) (by omega)
  rw [h0.2.1, ← hx] at d0
  rw [h0.2.2.1, ← hx] at d1
  rw [← hx] at hU
  have hx1 := hU.1
  obtain ⟨q1, q2, ⟨q3, q4⟩, q5, q6, q7⟩ := hq
  have o0 : order' 0 = order 0 := (hs 0 (by omega)).2 (by omega)
  have o1 : order' 1 = order 1 := (hs 1 (by omega)).2 (by omega)
  refine ⟨fun z z0 z1 e => ?_, ?_, ⟨by rw [o0]; exact q3, by rw [o1]; exact q4⟩, ?_, ?_, by rw [o0, o1]; exact q7⟩
  · by_cases c : z = x
    · exact ⟨k, by omega, by omega, by rw [(hs k (by omega)).1 (by omega), hv, c]⟩
    · rw [(ht z z0).2 (by omega)] at e
      obtain ⟨j, j0, j1, j2⟩ := q1 z z0 z1 e
      exact ⟨j, by omega, j1, by rw [(hs j (by omega)).2 (by omega)]; exact j2⟩
  · have := cz_lt (f := left) (g := left') (i := x) n.toNat hU.1.1 (by omega) (fun j j0 j1 e => by
      by_cases c : j = x
      · rw [(ht j j0).1 (by omega)]; exact hw
      · rw [(ht j j0).2 (by omega)]; exact e) (by rw [(ht x hU.1.1).1 (by omega)]; exact hw) hU.2
    rw [← cz_is, ← cz_is] at this
    omega
  · rw [o0, (ht _ q3.1).2 (by omega)]; exact q5
  · rw [o1, (ht _ q4.1).2 (by omega)]; exact q6
theorem ors_of {n k : Int} {left order : Int → Int} (h : ORQ4 n left order k) (hk : k ≤ 1) (k0 : -1 ≤ k) : ORS n order := by
  obtain ⟨q1, q2, ⟨q3, q4⟩, q5, q6, q7⟩ := h
  intro z z0 z1
  by_cases e : left z = 0
  · obtain ⟨j, j0, j1, j2⟩ := q1 z z0 z1 e
    exact ⟨j, by omega, j1, j2⟩
  · by_cases a : z = order 0
    · exact ⟨0, by omega, by omega, a.symm⟩
    · by_cases b : z = order 1
      · refine ⟨1, by omega, ?_, b.symm⟩
        by_cases n2 : 1 < n
        · exact n2
        · exfalso
          have : order 0 = order 1 := by omega
          exact q7 this
      · exfalso
        have := cz_inj (f := left) (U := fun t => if t = 0 then order 0 else if t = 1 then order 1 else z) (n := n) (L := 3) (by omega) (by omega) (fun t t0 t1 => by
          have : t = 0 ∨ t = 1 ∨ t = 2 := by omega
          rcases this with rfl | rfl | rfl
          · exact ⟨q3, q5⟩
          · exact ⟨q4, q6⟩
          · exact ⟨⟨z0, z1⟩, e⟩) (fun s t s0 st t1 => by
          have : (s = 0 ∧ t = 1) ∨ (s = 0 ∧ t = 2) ∨ (s = 1 ∧ t = 2) := by omega
          rcases this with ⟨rfl, rfl⟩ | ⟨rfl, rfl⟩ | ⟨rfl, rfl⟩
          · exact q7
          · exact fun c => a c.symm
          · exact fun c => b c.symm)
        omega
-- shift
def sml (nx ny : Int → Int) (z s : Int) : Prop := (-s ≤ nx z + ny z ∧ nx z + ny z ≤ s) ∧ -s ≤ nx z - ny z ∧ nx z - ny z ≤ s
def SPK (nx ny order : Int → Int) (k s : Int) : Prop := ∀ j, 0 ≤ j → j < k → sml nx ny (order j) s
def UND (n : Int) (under order : Int → Int) (k : Int) : Prop := ∀ i z, 0 ≤ i → i < n → 0 ≤ z → z < n → bit (under i) z → z = i ∨ ∃ j, 0 ≤ j ∧ j < k ∧ order j = z
def ULX (U order : Int → Int) (k m : Int) : Prop := ∀ t, 0 ≤ t → t < m → ∃ j, 0 ≤ j ∧ j < k ∧ U t = order j
theorem sml_le {nx ny : Int → Int} {z s t : Int} (h : sml nx ny z s) (st : s ≤ t) : sml nx ny z t := by
  unfold sml at *; omega
theorem und_le {n k k' : Int} {under order : Int → Int} (h : UND n under order k) (hk : k ≤ k') : UND n under order k' := fun i z a b c d e => by
  rcases h i z a b c d e with q | ⟨j, j0, j1, j2⟩
  · exact Or.inl q
  · exact Or.inr ⟨j, j0, by omega, j2⟩
theorem ulx_le {k k' m m' : Int} {U order : Int → Int} (h : ULX U order k m) (hk : k ≤ k') (hm : m' ≤ m) : ULX U order k' m' := fun t a b => by
  obtain ⟨j, j0, j1, j2⟩ := h t a (by omega)
  exact ⟨j, j0, by omega, j2⟩
theorem ulx_st {k k' m m' s v : Int} {U U' order : Int → Int} (h : ULX U order k m) (hk : k ≤ k') (hs : st1 U U' s v) (hm : m' ≤ m ∨ (m' = m + 1 ∧ s = m)) (hv : ∃ j, 0 ≤ j ∧ j < k' ∧ v = order j) : ULX U' order k' m' := fun t a b => by
  by_cases e : t = s
  · rw [(hs t a).1 e]; exact hv
  · rw [(hs t a).2 e]
    obtain ⟨j, j0, j1, j2⟩ := h t a (by omega)
    exact ⟨j, j0, by omega, j2⟩
def UN0 (n : Int) (under : Int → Int) (i : Int) : Prop := ∀ j z, 0 ≤ j → j < i → 0 ≤ z → z < 32 → bit (under j) z → z = j
theorem un0_step {n i i' s v one : Int} {under under' : Int → Int} (h : UN0 n under i) (hi : i' = i + 1) (i0 : 0 ≤ i) (hs : st1 under under' s v) (hss : s = i) (hv : bvp v = bvp one <<< i.toNat) (h1 : one = 1) : UN0 n under' i' := by
  intro j z a b c d e
  by_cases q : j = i
  · rw [(hs j a).1 (by omega)] at e
    rw [q]
    exact (bit_shl hv h1 i0 c d).1 e
  · rw [(hs j a).2 (by omega)] at e
    exact h j z a (by omega) c d e
theorem und_0 {n i k : Int} {under order : Int → Int} (h : UN0 n under i) (hi : n ≤ i) (hn : n ≤ 24) : UND n under order k := fun a z a0 a1 z0 z1 e => Or.inl (h a z a0 (by omega) z0 (by omega) e)
theorem und_or {n k x s v b c : Int} {under under' order : Int → Int} (h : UND n under order k) (hs : st1 under under' s v) (hx : s = x) (x0 : ∃ j, 0 ≤ j ∧ j < k ∧ order j = x) (xr : 0 ≤ x ∧ x < n) (hb : b = under x) (y : Int) (hc : c = under y) (y0 : 0 ≤ y ∧ y < n) (hy : ∃ j, 0 ≤ j ∧ j < k ∧ order j = y) (hv : bvp v = bvp b ||| bvp c) : UND n under' order k := by
  intro i z i0 i1 z0 z1 e
  by_cases q : i = s
  · rw [(hs i i0).1 q] at e
    rcases (bit_or hv z).1 e with w | w
    · rw [hb] at w
      rcases h x z xr.1 xr.2 z0 z1 w with u | u
      · left; omega
      · exact Or.inr u
    · rw [hc] at w
      rcases h y z y0.1 y0.2 z0 z1 w with u | u
      · right; rw [u]; exact hy
      · exact Or.inr u
  · rw [(hs i i0).2 q] at e
    exact h i z i0 i1 z0 z1 e
-- move
def MVA (n : Int) (nx ny order : Int → Int) (bits k q : Int) : Prop := SPK nx ny order k (64 * k + 2 * q) ∧ ∀ z, 0 ≤ z → z < n → bit bits z → ∃ j, 0 ≤ j ∧ j < k ∧ order j = z
def MVB (n : Int) (nx ny order : Int → Int) (k q : Int) : Prop := SPK nx ny order k (64 * k + 2 * q + 2)
def MVI (n : Int) (nx ny order : Int → Int) (bits k q i : Int) : Prop := (∀ j, 0 ≤ j → j < k → (order j < i → sml nx ny (order j) (64 * k + 2 * q + 2)) ∧ (i ≤ order j → sml nx ny (order j) (64 * k + 2 * q))) ∧ ∀ z, 0 ≤ z → z < n → bit bits z → ∃ j, 0 ≤ j ∧ j < k ∧ order j = z
theorem mvi_start {n bits k q i : Int} {nx ny order : Int → Int} (h : MVA n nx ny order bits k q) (hi : i = 0) : MVI n nx ny order bits k q i := ⟨fun j a b => ⟨fun _ => sml_le (h.1 j a b) (by omega), fun _ => h.1 j a b⟩, h.2⟩
theorem mvi_end {n bits k q i : Int} {nx ny order : Int → Int} (h : MVI n nx ny order bits k q i) (hi : n ≤ i) : MVB n nx ny order k q := by
  intro j a b
  by_cases c : order j < i
  · exact (h.1 j a b).1 c
  · exact sml_le ((h.1 j a b).2 (by omega)) (by omega)
theorem mvi_val {n bits k q i b u v d : Int} {nx ny order : Int → Int} (h : MVI n nx ny order bits k q i) (i0 : 0 ≤ i) (i1 : i < n) (b0 : 0 ≤ b) (b1 : b ≤ 1) (hb : b = 1 → bit bits i) (hv : v = b * d) (hu : u = nx i) : v = 0 ∨ (v = d ∧ sml nx ny i (64 * k + 2 * q)) := by
  by_cases c : b = 1
  · right
    obtain ⟨j, j0, j1, j2⟩ := h.2 i i0 i1 (hb c)
    refine ⟨by rw [hv, c]; omega, ?_⟩
    rw [← j2]
    exact (h.1 j j0 j1).2 (by omega)
  · left
    rw [hv, show b = 0 by omega]; omega
theorem mvi_step {n bits k q i i' b u v w d s : Int} {nx nx' ny order : Int → Int} (h : MVI n nx ny order bits k q i) (hi : i' = i + 1) (i0 : 0 ≤ i) (i1 : i < n) (b0 : 0 ≤ b) (b1 : b ≤ 1) (hb : b = 1 → bit bits i) (hv : v = b * d) (d0 : 0 ≤ d) (d2 : d ≤ 2) (hu : u = nx i) (hw : w = u + v) (hs : st1 nx nx' s w) (hss : s = i) (ho : ∀ j, 0 ≤ j → j < k → 0 ≤ order j) : MVI n nx' ny order bits k q i' := by
  have val := mvi_val h i0 i1 b0 b1 hb hv hu
  refine ⟨fun j a c => ?_, h.2⟩
  have oj := ho j a c
  by_cases e : order j = i
  · refine ⟨fun _ => ?_, fun f => by exfalso; omega⟩
    have g := (h.1 j a c).2 (by omega)
    unfold sml at *
    rw [(hs _ oj).1 (by omega), e]
    rw [e] at g
    omega
  · refine ⟨fun f => ?_, fun f => ?_⟩
    · have g := (h.1 j a c).1 (by omega)
      unfold sml at *
      rw [(hs _ oj).2 (by omega)]
      exact g
    · have g := (h.1 j a c).2 (by omega)
      unfold sml at *
      rw [(hs _ oj).2 (by omega)]
      exact g
def ORN4 (n : Int) (order : Int → Int) : Prop := ∀ j, 0 ≤ j → j < n → 0 ≤ order j ∧ order j < n
theorem td2 {e v : Int} (h : v = Int.tdiv e 2) : (2 * v ≤ e ∧ e ≤ 2 * v + 1) ∨ (e ≤ 2 * v ∧ 2 * v ≤ e + 1) := by
  rcases Int.le_total 0 e with q | q
  · left; rw [Int.tdiv_eq_ediv_of_nonneg q] at h; omega
  · right
    have z : Int.tdiv e 2 = -(Int.tdiv (-e) 2) := by rw [Int.neg_tdiv, Int.neg_neg]
    rw [z, Int.tdiv_eq_ediv_of_nonneg (show 0 ≤ -e by omega)] at h
    omega
theorem spk_put {k S x l r a b c d e f s1 v1 s2 v2 : Int} {nx ny nx' ny' order : Int → Int} (h : SPK nx ny order k S) (hl : ∃ j, 0 ≤ j ∧ j < k ∧ l = order j) (hr : ∃ j, 0 ≤ j ∧ j < k ∧ r = order j) (xl : x ≠ l) (xr : x ≠ r) (l0 : 0 ≤ l) (r0 : 0 ≤ r) (ho : ∀ j, 0 ≤ j → j < k + 1 → 0 ≤ order j) (hx : x = order k) (ha : a = nx l) (hb : b = nx r) (hc : c = ny r) (hd : d = ny l) (e1 : e = a + b + c - d) (f1 : f = b - a + c + d) (hs1 : st1 nx nx' s1 v1) (ss1 : s1 = x) (hv1 : v1 = Int.tdiv e 2) (hs2 : st1 ny ny' s2 v2) (ss2 : s2 = x) (hv2 : v2 = Int.tdiv f 2) {k' S' : Int} (hk : k' = k + 1) (hS : S + 1 ≤ S') : SPK nx' ny' order k' S' := by
  obtain ⟨jl, jl0, jl1, el⟩ := hl
  obtain ⟨jr, jr0, jr1, er⟩ := hr
  have gl := h jl jl0 jl1
  have gr := h jr jr0 jr1
  rw [← el] at gl
  rw [← er] at gr
  unfold sml at gl gr
  rw [← ha, ← hd] at gl
  rw [← hb, ← hc] at gr
  have t1 := td2 hv1
  have t2 := td2 hv2
  intro j a0 b0
  have oj := ho j a0 (by omega)
  by_cases q : order j = x
  · unfold sml
    rw [(hs1 _ oj).1 (by omega), (hs2 _ oj).1 (by omega)]
    omega
  · have jk : j < k := by
      by_cases w : j = k
      · rw [w] at q; exact absurd hx.symm q
      · omega
    have g := h j a0 jk
    unfold sml at *
    rw [(hs1 _ oj).2 (by omega), (hs2 _ oj).2 (by omega)]
    omega

def SPKs (nx ny order : Int → Int) (k : Int) : Prop := SPK nx ny order k (64 * k)
def SPKm (nx ny order : Int → Int) (k q : Int) : Prop := SPK nx ny order k (64 * k + 2 * q)
def SPKn (nx ny order : Int → Int) (k : Int) : Prop := SPK nx ny order (k + 1) (64 * (k + 1))
def UNDn (n : Int) (under order : Int → Int) (k : Int) : Prop := UND n under order (k + 1)
def ULU (upper : Int) (U order : Int → Int) (k : Int) : Prop := ULX U order k upper
def ULV (upper : Int) (U order : Int → Int) (k q : Int) : Prop := ULX U order k upper ∧ (q < upper → ∃ j, 0 ≤ j ∧ j < k ∧ U upper = order j)
def SP3 (nx ny order : Int → Int) : Prop := SPK nx ny order 3 192
def NYF (n : Int) (ny : Int → Int) : Prop := NBD ny n (-2000) 2000
def NYG (n : Int) (ny : Int → Int) (i : Int) : Prop := NBD ny n (-2000) 4000 ∧ ∀ j, i ≤ j → 0 ≤ j → j < n → ny j ≤ 2000
theorem nyg_step {n i i' s v : Int} {ny ny' : Int → Int} (h : NYG n ny i) (hi : i' = i + 1) (hs : st1 ny ny' s v) (hss : s = i) (v0 : -2000 ≤ v) (v1 : v ≤ 4000) : NYG n ny' i' := by
  refine ⟨nbd_st h.1 hs (by omega) (by omega) (by omega) v0 v1, ?_⟩
  intro j a b c
  rw [(hs j b).2 (by omega)]
  exact h.2 j (by omega) b c
theorem nyf_of {n k : Int} {nx ny order : Int → Int} (h : SPKs nx ny order k) (hk : n ≤ k) (k1 : k ≤ 30) (ho : ORS n order) : NYF n ny := by
  intro i a b
  obtain ⟨j, j0, j1, j2⟩ := ho i a b
  have g := h j j0 (by omega)
  unfold sml at g
  rw [j2] at g
  omega
theorem sp3_of {u v w s1 s2 s3 t1 t2 t3 v1 v2 v3 w1 w2 w3 : Int} {x0 x1 x2 x3 y0 y1 y2 y3 order : Int → Int} (hu : u = order 0) (hv : v = order 1) (hw : w = order 2) (p : 0 ≤ u ∧ 0 ≤ v ∧ 0 ≤ w) (a1 : st1 x0 x1 s1 v1) (a2 : st1 x1 x2 s2 v2) (a3 : st1 x2 x3 s3 v3) (b1 : st1 y0 y1 t1 w1) (b2 : st1 y1 y2 t2 w2) (b3 : st1 y2 y3 t3 w3) (e1 : s1 = u) (e2 : s2 = v) (e3 : s3 = w) (f1 : t1 = u) (f2 : t2 = v) (f3 : t3 = w) (g : 0 ≤ v1 ∧ v1 ≤ 2 ∧ 0 ≤ v2 ∧ v2 ≤ 2 ∧ 0 ≤ v3 ∧ v3 ≤ 2) (g2 : 0 ≤ w1 ∧ w1 ≤ 2 ∧ 0 ≤ w2 ∧ w2 ≤ 2 ∧ 0 ≤ w3 ∧ w3 ≤ 2) : SP3 x3 y3 order := by
  have X : ∀ z, 0 ≤ z → (z = u ∨ z = v ∨ z = w) → 0 ≤ x3 z ∧ x3 z ≤ 2 := by
    intro z z0 c
    by_cases q3 : z = w
    · rw [(a3 z z0).1 (by omega)]; omega
    · rw [(a3 z z0).2 (by omega)]
      by_cases q2 : z = v
      · rw [(a2 z z0).1 (by omega)]; omega
      · rw [(a2 z z0).2 (by omega), (a1 z z0).1 (by omega)]; omega
  have Y : ∀ z, 0 ≤ z → (z = u ∨ z = v ∨ z = w) → 0 ≤ y3 z ∧ y3 z ≤ 2 := by
    intro z z0 c
    by_cases q3 : z = w
    · rw [(b3 z z0).1 (by omega)]; omega
    · rw [(b3 z z0).2 (by omega)]
      by_cases q2 : z = v
      · rw [(b2 z z0).1 (by omega)]; omega
      · rw [(b2 z z0).2 (by omega), (b1 z z0).1 (by omega)]; omega
  intro j j0 j1
  have : j = 0 ∨ j = 1 ∨ j = 2 := by omega
  unfold sml
  rcases this with rfl | rfl | rfl
  · have := X (order 0) (by omega) (by omega); have := Y (order 0) (by omega) (by omega); omega
  · have := X (order 1) (by omega) (by omega); have := Y (order 1) (by omega) (by omega); omega
  · have := X (order 2) (by omega) (by omega); have := Y (order 2) (by omega) (by omega); omega
theorem orn_of {n m : Int} {pt ph al order : Int → Int} (h : CNH n m pt ph al order) : ORN4 n order := fun j a b => (cnh_rng h a b).1

theorem spks_next {k k' : Int} {nx ny order : Int → Int} (h : SPKn nx ny order k) (hk : k' = k + 1) : SPKs nx ny order k' := by subst hk; exact h
theorem und_next {n k k' : Int} {under order : Int → Int} (h : UNDn n under order k) (hk : k' = k + 1) : UND n under order k' := by subst hk; exact h
theorem spks_3 {k : Int} {nx ny order : Int → Int} (h : SP3 nx ny order) (hk : k = 3) : SPKs nx ny order k := by subst hk; exact h
theorem spkm_of {k q : Int} {nx ny order : Int → Int} (h : SPKs nx ny order k) (hq : 0 ≤ q) : SPKm nx ny order k q := fun j a b => sml_le (h j a b) (by omega)
theorem spkm_next {n k q k2 q2 q' : Int} {nx ny order : Int → Int} (h : MVB n nx ny order k2 q2) (hk : k2 = k) (hq : q2 = q) (hq' : q' = q + 1) : SPKm nx ny order k q' := by
  subst hk; subst hq; exact fun j a b => sml_le (h j a b) (by omega)
theorem ulu_3 {upper k s1 s2 s3 u v w : Int} {U0 U1 U2 U3 order : Int → Int} (hu : upper ≤ 3) (hk : k = 3) (a1 : st1 U0 U1 s1 u) (a2 : st1 U1 U2 s2 w) (a3 : st1 U2 U3 s3 v) (e1 : s1 = 0) (e2 : s2 = 1) (e3 : s3 = 2) (ou : u = order 0) (ov : v = order 1) (ow : w = order 2) : ULU upper U3 order k := by
  intro t a b
  have : t = 0 ∨ t = 1 ∨ t = 2 := by omega
  rcases this with rfl | rfl | rfl
  · exact ⟨0, by omega, by omega, by rw [(a3 0 (by omega)).2 (by omega), (a2 0 (by omega)).2 (by omega), (a1 0 (by omega)).1 (by omega)]; exact ou⟩
  · exact ⟨2, by omega, by omega, by rw [(a3 1 (by omega)).2 (by omega), (a2 1 (by omega)).1 (by omega)]; exact ow⟩
  · exact ⟨1, by omega, by omega, by rw [(a3 2 (by omega)).1 (by omega)]; exact ov⟩
theorem ulu_end1 {upper upper' k k' q s v : Int} {U U' order : Int → Int} (h : ULV upper U order k q) (hq : q < upper) (hs : st1 U U' s v) (hx : v = order k) (k0 : 0 ≤ k) (hu : upper' ≤ upper + 1) (hk : k' = k + 1) : ULU upper' U' order k' := by
  refine ulx_st (m := upper + 1) (k := k) ?_ (by omega) hs (Or.inl hu) ⟨k, k0, by omega, hx⟩
  intro t a b
  by_cases e : t = upper
  · rw [e]; exact h.2 hq
  · exact h.1 t a (by omega)
theorem ulu_end2 {upper upper' k k' s v : Int} {U U' order : Int → Int} (h : ULU upper U order k) (hs : st1 U U' s v) (hx : v = order k) (k0 : 0 ≤ k) (hu : upper' ≤ upper) (hk : k' = k + 1) : ULU upper' U' order k' := ulx_st h (by omega) hs (Or.inl hu) ⟨k, k0, by omega, hx⟩
theorem ulv_start {upper k q : Int} {U order : Int → Int} (h : ULU upper U order k) (hq : upper ≤ q) : ULV upper U order k q := ⟨h, fun e => by exfalso; omega⟩
theorem ulv_step {upper k q q' s v r : Int} {U U' order : Int → Int} (h : ULV upper U order k q) (hq : q' = q - 1) (q1 : q ≤ upper) (q0 : 1 ≤ q) (hs : st1 U U' s v) (hss : s = q) (hr : r = q - 1) (hv : v = U r) : ULV upper U' order k q' := by
  have pl : ∃ j, 0 ≤ j ∧ j < k ∧ v = order j := by rw [hv, hr]; exact h.1 (q - 1) (by omega) (by omega)
  refine ⟨ulx_st h.1 (by omega) hs (Or.inl (by omega)) pl, fun _ => ?_⟩
  by_cases e : upper = q
  · rw [(hs upper (by omega)).1 (by omega)]; exact pl
  · rw [(hs upper (by omega)).2 (by omega)]; exact h.2 (by omega)
theorem ulu_mv {upper k s v r : Int} {U U' order : Int → Int} (h : ULU upper U order k) (hs : st1 U U' s v) (r0 : 0 ≤ r) (r1 : r < upper) (hv : v = U r) : ULU upper U' order k := ulx_st h (by omega) hs (Or.inl (by omega)) (by rw [hv]; exact h r r0 r1)
theorem mva_of {n upper k q k2 q2 y bits : Int} {nx ny order under U : Int → Int} (h1 : SPKm nx ny order k q) (h2 : UND n under order k) (h3 : ULU upper U order k) (q0 : 0 ≤ q) (q1 : q < upper) (hy : y = U q) (ho : ORN4 n order) (kn : k ≤ n) (hb : bits = under y) (hk : k2 = k) (hq : q2 = q) : MVA n nx ny order bits k2 q2 := by
  subst hk; subst hq
  have yr : 0 ≤ y ∧ y < n := by
    obtain ⟨j, j0, j1, j2⟩ := h3 q2 q0 q1
    rw [hy, j2]; exact ho j j0 (by omega)
  have y0 := yr.1
  have y1 := yr.2
  refine ⟨h1, fun z z0 z1 e => ?_⟩
  rw [hb] at e
  rcases h2 y z y0 y1 z0 z1 e with w | w
  · obtain ⟨j, j0, j1, j2⟩ := h3 q2 q0 q1
    exact ⟨j, j0, j1, by rw [← j2, ← hy]; exact w.symm⟩
  · exact w
theorem put_bd {S l r a b c d e v k : Int} {nx ny order : Int → Int} (h : SPK nx ny order k S) (hl : ∃ j, 0 ≤ j ∧ j < k ∧ l = order j) (hr : ∃ j, 0 ≤ j ∧ j < k ∧ r = order j) (hS : S ≤ 1990) (ha : a = nx l) (hb : b = nx r) (hc : c = ny r) (hd : d = ny l) (e1 : e = a + b + c - d ∨ e = b - a + c + d) (hv : v = Int.tdiv e 2) : -2000 ≤ v ∧ v ≤ 2000 := by
  obtain ⟨jl, jl0, jl1, el⟩ := hl
  obtain ⟨jr, jr0, jr1, er⟩ := hr
  have gl := h jl jl0 jl1
  have gr := h jr jr0 jr1
  rw [← el] at gl
  rw [← er] at gr
  unfold sml at gl gr
  rw [← ha, ← hd] at gl
  rw [← hb, ← hc] at gr
  have t1 := td2 hv
  omega
theorem jA_ne4 {n m x y : Int} {pt ph al : Int → Int} (g : GOK n m pt ph) (h : jA m pt ph al x y) : x ≠ y := by
  obtain ⟨e, h⟩ := h
  unfold JJ at h
  have := g.1 e h.1 h.2.1
  omega
theorem shc_ne {n m upper k x a b : Int} {pt ph al U order : Int → Int} (h : SHC n m upper pt ph al U order k x a b) (g : GOK n m pt ph) : x ≠ U a ∧ x ≠ U b := ⟨fun e => jA_ne4 g (h.1.2.2.1) e, fun e => jA_ne4 g h.2.2 e⟩

theorem grid_b4 {w h : Int} (hw : 1 ≤ w) (hh : 1 ≤ h) (hp : w * h ≤ 6000) : w ≤ 6000 ∧ h ≤ 6000 := by
  have h1 := Int.mul_le_mul_of_nonneg_left hh (show 0 ≤ w from by omega)
  have h2 := Int.mul_le_mul_of_nonneg_right hw (show 0 ≤ h from by omega)
  rw [Int.mul_one] at h1
  rw [Int.one_mul] at h2
  omega
theorem sg_end4 {A : Int → Int} {r e a b p q : Int} (h : SGR r A) (e0 : 0 ≤ e) (e1 : e < A (r + 1)) (hp : p = r + 267 + e) (hq : q = r + 315 + e) (ha : a = A p) (hb : b = A q) : (0 ≤ a ∧ a < A r) ∧ 0 ≤ b ∧ b < A r := by
  subst hp; subst hq; subst ha; subst hb
  have := h.2.1 e e0 e1
  simp only [] at this
  omega
theorem rtw_cell2 {r l t g w h e v x y d p s c : Int} {A X Y : Int → Int} (hR : RTW r l t g w h A X Y) (v0 : 0 ≤ v) (v1 : v < A r) (hx : x = X (24 * g + v)) (hy : y = Y (24 * g + v)) (hd : d = y - t) (he : e = w) (hp : p = d * e) (hs : s = p + x) (hc : c = s - l) : 0 ≤ c ∧ c + 1 ≤ w * h := by
  have h1 := hR.2 v v0 v1
  rw [← hx, ← hy] at h1
  have := grid_cell (l := l) (t := t) (w := w) (h := h) (a := l + w - 1) (b := t + h - 1) (x := x) (y := y) (c := (y - t) * w + x - l) (by omega) (by omega) h1.1.1 h1.1.2 h1.2.1 h1.2.2 rfl
  rw [hd, he] at hp
  omega
