/-! a net: ends are nodes of it, neighbours are so both ways -/
def NOK (n m : Int) (tl hd nr : Int → Int) : Prop := (∀ e, 0 ≤ e → e < m → 0 ≤ tl e ∧ tl e < n ∧ 0 ≤ hd e ∧ hd e < n ∧ tl e ≠ hd e) ∧ (∀ u w, 0 ≤ u → u < n → 0 ≤ w → w < 32 → bit (nr u) w → w < n ∧ bit (nr w) u) ∧ (∀ u, n ≤ u → u < 25 → nr u = 0) ∧ (∀ e, 0 ≤ e → e < m → bit (nr (tl e)) (hd e)) ∧ ∀ u w, 0 ≤ u → u < n → 0 ≤ w → w < 32 → bit (nr u) w → ∃ e, 0 ≤ e ∧ e < m ∧ (tl e = u ∨ hd e = u)
/-- a graph's edges -/
def GKE (n m : Int) (tl hd : Int → Int) : Prop := ∀ e, 0 ≤ e → e < m → 0 ≤ tl e ∧ tl e < n ∧ 0 ≤ hd e ∧ hd e < n ∧ tl e ≠ hd e
theorem nok_begin {n m : Int} {tl hd nr : Int → Int} (hm : m = 0) (n0 : 0 ≤ n) (h : ∀ j, 0 ≤ j → j < 25 → 0 ≤ nr j ∧ nr j ≤ 0) (hn : n ≤ 25) : NOK n m tl hd nr := by
  have z : ∀ j, 0 ≤ j → j < 25 → nr j = 0 := fun j a b => by have := h j a b; omega
  refine ⟨fun e a b => by omega, fun u w a b _ _ q => ?_, fun u a b => z u (by omega) b, fun e a b => by omega, fun u w a b _ _ q => ?_⟩
  · rw [z u a (by omega)] at q; exact absurd q (bit_zero w)
  · rw [z u a (by omega)] at q; exact absurd q (bit_zero w)
theorem nok_join {n m m' a b p1 p2 a1 b1 x1 q1 y1 x2 q2 y2 pa pb : Int} {tl tl' hd hd' nr nr1 nr2 : Int → Int} (h : NOK n m tl hd nr) (m0 : 0 ≤ m) (n32 : n ≤ 25) (a0 : 0 ≤ a) (an : a < n) (b0 : 0 ≤ b) (bn : b < n) (ne : a ≠ b) (ht : st1 tl tl' p1 a1) (hp1 : p1 = m) (ha1 : a1 = a) (hh : st1 hd hd' p2 b1) (hp2 : p2 = m) (hb1 : b1 = b) (hx1 : x1 = nr a) (hq1 : bvp q1 = bvp 1 <<< b.toNat) (hy1 : bvp y1 = bvp x1 ||| bvp q1) (hs1 : st1 nr nr1 pa y1) (hpa : pa = a) (hx2 : x2 = nr1 b) (hq2 : bvp q2 = bvp 1 <<< a.toNat) (hy2 : bvp y2 = bvp x2 ||| bvp q2) (hs2 : st1 nr1 nr2 pb y2) (hpb : pb = b) (hm' : m' = m + 1) : NOK n m' tl' hd' nr2 := by
  obtain ⟨h1, h2, h3, h4, h5⟩ := h
  subst hpa hpb
  have r1 : ∀ u, 0 ≤ u → u ≠ pa → u ≠ pb → nr2 u = nr u := fun u u0 c d => by rw [(hs2 u u0).2 d, (hs1 u u0).2 c]
  have ra : nr2 pa = y1 := by rw [(hs2 pa a0).2 ne, (hs1 pa a0).1 rfl]
  have rb : nr2 pb = y2 := (hs2 pb b0).1 rfl
  have rb1 : nr1 pb = nr pb := (hs1 pb b0).2 (fun e => ne e.symm)
  have ba : ∀ w, 0 ≤ w → w < 32 → (bit (nr2 pa) w ↔ bit (nr pa) w ∨ w = pb) := fun w w0 w1 => by rw [ra, bit_or hy1, hx1, bit_shl hq1 rfl b0 w0 w1]
  have bb : ∀ w, 0 ≤ w → w < 32 → (bit (nr2 pb) w ↔ bit (nr pb) w ∨ w = pa) := fun w w0 w1 => by rw [rb, bit_or hy2, hx2, rb1, bit_shl hq2 rfl a0 w0 w1]
  have up : ∀ u w, 0 ≤ u → 0 ≤ w → w < 32 → bit (nr u) w → bit (nr2 u) w := fun u w u0 w0 w1 z => by
    by_cases c : u = pa
    · subst c; exact (ba w w0 w1).mpr (Or.inl z)
    · by_cases d : u = pb
      · subst d; exact (bb w w0 w1).mpr (Or.inl z)
      · rw [r1 u u0 c d]; exact z
  refine ⟨fun e e0 e1 => ?_, fun u w u0 u1 w0 w1 z => ?_, fun u u0 u1 => ?_, fun e e0 e1 => ?_, fun u w u0 u1 w0 w1 z => ?_⟩
  · by_cases c : e = m
    · rw [(ht e e0).1 (by omega), (hh e e0).1 (by omega)]; omega
    · rw [(ht e e0).2 (by omega), (hh e e0).2 (by omega)]; exact h1 e e0 (by omega)
  · by_cases c : u = pa
    · subst c
      rcases (ba w w0 w1).mp z with z | z
      · have := h2 u w u0 u1 w0 w1 z
        exact ⟨this.1, up w u w0 u0 (by omega) this.2⟩
      · subst z; exact ⟨bn, (bb u u0 (by omega)).mpr (Or.inr rfl)⟩
    · by_cases d : u = pb
      · subst d
        rcases (bb w w0 w1).mp z with z | z
        · have := h2 u w u0 u1 w0 w1 z
          exact ⟨this.1, up w u w0 u0 (by omega) this.2⟩
        · subst z; exact ⟨an, (ba u u0 (by omega)).mpr (Or.inr rfl)⟩
      · rw [r1 u u0 c d] at z
        have := h2 u w u0 u1 w0 w1 z
        exact ⟨this.1, up w u w0 u0 (by omega) this.2⟩
  · rw [r1 u (by omega) (by omega) (by omega)]; exact h3 u u0 u1
  · by_cases c : e = m
    · rw [(ht e e0).1 (by omega), (hh e e0).1 (by omega), ha1, hb1]; exact (ba pb b0 (by omega)).mpr (Or.inr rfl)
    · rw [(ht e e0).2 (by omega), (hh e e0).2 (by omega)]
      have q := h1 e e0 (by omega)
      exact up _ _ q.1 q.2.2.1 (by omega) (h4 e e0 (by omega))
  · have keep : (∃ e, 0 ≤ e ∧ e < m ∧ (tl e = u ∨ hd e = u)) → ∃ e, 0 ≤ e ∧ e < m' ∧ (tl' e = u ∨ hd' e = u) := fun ⟨e, e0, e1, e2⟩ => ⟨e, e0, by omega, by rw [(ht e e0).2 (by omega), (hh e e0).2 (by omega)]; exact e2⟩
    have fa : tl' m = pa := by rw [(ht m m0).1 (by omega), ha1]
    have fb : hd' m = pb := by rw [(hh m m0).1 (by omega), hb1]
    by_cases c : u = pa
    · exact ⟨m, m0, by omega, Or.inl (by rw [fa, c])⟩
    · by_cases d : u = pb
      · exact ⟨m, m0, by omega, Or.inr (by rw [fb, d])⟩
      · rw [r1 u u0 c d] at z
        exact keep (h5 u w u0 u1 w0 w1 z)
theorem nok_more {n n' m : Int} {tl hd nr : Int → Int} (h : NOK n m tl hd nr) (n0 : 0 ≤ n) (hn : n' = n + 1) (h25 : n < 25) : NOK n' m tl hd nr := by
  obtain ⟨h1, h2, h3, h4, h5⟩ := h
  refine ⟨fun e a b => by have := h1 e a b; omega, fun u w u0 u1 w0 w1 z => ?_, fun u a b => h3 u (by omega) b, h4, fun u w u0 u1 w0 w1 z => ?_⟩
  · by_cases c : u = n
    · rw [h3 u (by omega) (by omega)] at z; exact absurd z (bit_zero w)
    · have := h2 u w u0 (by omega) w0 w1 z; exact ⟨by omega, this.2⟩
  · by_cases c : u = n
    · rw [h3 u (by omega) (by omega)] at z; exact absurd z (bit_zero w)
    · exact h5 u w u0 (by omega) w0 w1 z
theorem nok_sye {n m : Int} {tl hd nr : Int → Int} (h : NOK n m tl hd nr) (hn : n ≤ 25) : SYE n nr := fun u v u0 u1 v0 v1 z => (h.2.1 u v u0 u1 v0 (by omega) z).2
theorem nok_symn {n m : Int} {tl hd nr : Int → Int} (h : NOK n m tl hd nr) (hn : n ≤ 25) : SYMN nr n := fun u v u0 u1 v0 v1 z => (h.2.1 u v u0 u1 v0 (by omega) z).2
theorem nok_nrb {n m : Int} {tl hd nr : Int → Int} (h : NOK n m tl hd nr) : NRB nr n := fun u w u0 u1 w0 w1 z => (h.2.1 u w u0 u1 w0 w1 z).1
/-! labels hang together -/
def lab (tl hd : Int → Int) (v e : Int) : Prop := tl e = v ∨ hd e = v
def CNL (bl tl hd : Int → Int) (m : Int) : Prop := ∀ (b : Int) (X : Int → Prop), (∀ e, 0 ≤ e → e < m → bl e = b → (X (tl e) ↔ X (hd e))) → ∀ e f, 0 ≤ e → e < m → 0 ≤ f → f < m → bl e = b → bl f = b → X (tl e) → X (tl f)
def BLZ (bl tl hd : Int → Int) (m : Int) : Prop := (∀ j, 0 ≤ j → j < m → 0 ≤ bl j ∧ bl j ≤ j ∧ bl (bl j) = bl j) ∧ CNL bl tl hd m
def RLP (bl tl hd : Int → Int) (m g k v : Int) : Prop := BLZ bl tl hd m ∧ g ≠ k ∧ k < g ∧ (∃ e, 0 ≤ e ∧ e < m ∧ bl e = g ∧ lab tl hd v e) ∧ ∃ f, 0 ≤ f ∧ f < m ∧ bl f = k ∧ lab tl hd v f
def RLI (bl tl hd : Int → Int) (m g k v e : Int) : Prop := ∃ b0 : Int → Int, RLP b0 tl hd m g k v ∧ 0 ≤ e ∧ (∀ j, 0 ≤ j → j < e → j < m → bl j = if b0 j = g then k else b0 j) ∧ ∀ j, e ≤ j → j < m → bl j = b0 j
def RLO (bl tl hd : Int → Int) (m k v : Int) : Prop := BLZ bl tl hd m ∧ ∃ f, 0 ≤ f ∧ f < m ∧ bl f = k ∧ lab tl hd v f
theorem rli_start {bl tl hd : Int → Int} {m g k v e : Int} (h : RLP bl tl hd m g k v) (he : e = 0) : RLI bl tl hd m g k v e := ⟨bl, h, by omega, fun j a b => by omega, fun j _ _ => rfl⟩
theorem rli_skip {bl tl hd : Int → Int} {m g k v e e' x : Int} (h : RLI bl tl hd m g k v e) (hx : x = bl e) (hn : x ≠ g) (he : e' = e + 1) : RLI bl tl hd m g k v e' := by
  obtain ⟨b0, h1, h2, h3, h4⟩ := h
  refine ⟨b0, h1, by omega, fun j a b c => ?_, fun j a b => h4 j (by omega) b⟩
  by_cases q : j = e
  · rw [q, h4 e (Int.le_refl _) (by omega), if_neg (by rw [← h4 e (Int.le_refl _) (by omega), ← hx]; exact hn)]
  · exact h3 j a (by omega) c
theorem rli_step {bl bl' tl hd : Int → Int} {m g k v e e' x p y : Int} (h : RLI bl tl hd m g k v e) (hx : x = bl e) (hg : x = g) (hs : st1 bl bl' p y) (hp : p = e) (hy : y = k) (he : e' = e + 1) : RLI bl' tl hd m g k v e' := by
  obtain ⟨b0, h1, h2, h3, h4⟩ := h
  refine ⟨b0, h1, by omega, fun j a b c => ?_, fun j a b => ?_⟩
  · by_cases q : j = e
    · rw [(hs j a).1 (by omega), if_pos (by rw [q, ← h4 e (Int.le_refl _) (by omega), ← hx]; exact hg)]; exact hy
    · rw [(hs j a).2 (by omega)]; exact h3 j a (by omega) c
  · rw [(hs j (by omega)).2 (by omega)]; exact h4 j (by omega) b
theorem rlo_of {bl tl hd : Int → Int} {m g k v e : Int} (h : RLI bl tl hd m g k v e) (he : m ≤ e) : RLO bl tl hd m k v := by
  obtain ⟨b0, ⟨⟨z1, z2⟩, ne, kg, ⟨p, p0, p1, p2, p3⟩, ⟨f, f0, f1, f2, f3⟩⟩, h2, h3, _⟩ := h
  have hb : ∀ j, 0 ≤ j → j < m → bl j = if b0 j = g then k else b0 j := fun j a b => h3 j a (by omega) b
  have kk : b0 k = k := by have := (z1 f f0 f1).2.2; rw [f2] at this; exact this
  have k0 : 0 ≤ k := by have := (z1 f f0 f1).1; omega
  have km : k < m := by have := (z1 f f0 f1).2.1; omega
  have bf : bl f = k := by rw [hb f f0 f1, if_neg (by rw [f2]; exact fun q => ne q.symm), f2]
  refine ⟨⟨fun j a b => ?_, ?_⟩, f, f0, f1, bf, f3⟩
  · have q := z1 j a b
    rw [hb j a b]
    split
    · rename_i c
      refine ⟨k0, by omega, ?_⟩
      rw [hb k k0 km, if_neg (by rw [kk]; exact fun q => ne q.symm), kk]
    · rename_i c
      refine ⟨q.1, q.2.1, ?_⟩
      rw [hb (b0 j) q.1 (by omega), q.2.2, if_neg c]
  · intro b X hX e e' e0 e1 e2 e3 be be' xe
    -- what hangs together in each of the two hangs together
    have part : ∀ c, (b = k ∧ (c = g ∨ c = k)) ∨ (b ≠ k ∧ c = b) → ∀ i j, 0 ≤ i → i < m → 0 ≤ j → j < m → b0 i = c → b0 j = c → X (tl i) → X (tl j) := fun c hc i j i0 i1 j0 j1 bi bj xi => z2 c X (fun q q0 q1 q2 => hX q q0 q1 (by
      rw [hb q q0 q1, q2]
      rcases hc with ⟨c1, c2⟩ | ⟨c1, c2⟩
      · rcases c2 with c2 | c2
        · rw [if_pos c2, c1]
        · rw [if_neg (by rw [c2]; exact fun w => ne w.symm), c1, c2]
      · by_cases w : c = g
        · exfalso
          rw [hb e e0 e1] at be
          split at be
          · exact c1 be.symm
          · rename_i y; exact y (by omega)
        · rw [if_neg w]; exact c2)) i j i0 i1 j0 j1 bi bj xi
    by_cases hbk : b = k
    · have xv : ∀ q, 0 ≤ q → q < m → bl q = b → lab tl hd v q → (X (tl q) ↔ X v) := fun q q0 q1 q2 q3 => by
        rcases q3 with w | w
        · rw [w]
        · rw [hX q q0 q1 q2, w]
      have bp : bl p = b := by rw [hb p p0 p1, if_pos p2, hbk]
      have bf' : bl f = b := by rw [bf, hbk]
      have kind : ∀ i, 0 ≤ i → i < m → bl i = b → b0 i = g ∨ b0 i = k := fun i i0 i1 bi => by
        rw [hb i i0 i1] at bi
        split at bi
        · rename_i w; exact Or.inl w
        · exact Or.inr (by omega)
      have toV : ∀ i, 0 ≤ i → i < m → bl i = b → (X (tl i) ↔ X v) := fun i i0 i1 bi => by
        rcases kind i i0 i1 bi with w | w
        · rw [← xv p p0 p1 bp p3]
          exact ⟨part g (Or.inl ⟨hbk, Or.inl rfl⟩) i p i0 i1 p0 p1 w p2, part g (Or.inl ⟨hbk, Or.inl rfl⟩) p i p0 p1 i0 i1 p2 w⟩
        · rw [← xv f f0 f1 bf' f3]
          exact ⟨part k (Or.inl ⟨hbk, Or.inr rfl⟩) i f i0 i1 f0 f1 w f2, part k (Or.inl ⟨hbk, Or.inr rfl⟩) f i f0 f1 i0 i1 f2 w⟩
      exact (toV e' e2 e3 be').mpr ((toV e e0 e1 be).mp xe)
    · have kind : ∀ i, 0 ≤ i → i < m → bl i = b → b0 i = b := fun i i0 i1 bi => by
        rw [hb i i0 i1] at bi
        split at bi
        · exact absurd bi.symm hbk
        · exact bi
      exact part b (Or.inr ⟨hbk, rfl⟩) e e' e0 e1 e2 e3 (kind e e0 e1 be) (kind e' e2 e3 be') xe
def UNI (bl tl hd : Int → Int) (m v k : Int) : Prop := BLZ bl tl hd m ∧ (k = -1 ∨ (0 ≤ k ∧ ∃ f, 0 ≤ f ∧ f < m ∧ bl f = k ∧ lab tl hd v f))
theorem uni_start {bl tl hd : Int → Int} {m v k : Int} (h : BLZ bl tl hd m) (hk : k = -1) : UNI bl tl hd m v k := ⟨h, Or.inl hk⟩
theorem uni_first {bl tl hd : Int → Int} {m v k k' e x : Int} (h : UNI bl tl hd m v k) (hx : x = bl e) (hk : k' = x) (e0 : 0 ≤ e) (e1 : e < m) (hv : lab tl hd v e) : UNI bl tl hd m v k' := ⟨h.1, Or.inr ⟨by have := (h.1.1 e e0 e1).1; omega, e, e0, e1, by omega, hv⟩⟩
theorem uni_rlp {bl tl hd : Int → Int} {m v k e x g k' : Int} (h : UNI bl tl hd m v k) (hk : k ≠ -1) (hx : x = bl e) (hn : x ≠ k) (e0 : 0 ≤ e) (e1 : e < m) (hv : lab tl hd v e) (g1 : k ≤ g) (g2 : x ≤ g) (k1 : k' ≤ k) (k2 : k' ≤ x) (hg : g = k ∨ g = x) (hk' : k' = k ∨ k' = x) : RLP bl tl hd m g k' v := by
  obtain ⟨h1, h2⟩ := h
  rcases h2 with q | ⟨q0, f, f0, f1, f2, f3⟩
  · exact absurd q hk
  · refine ⟨h1, by omega, by omega, ?_, ?_⟩
    · rcases hg with w | w
      · exact ⟨f, f0, f1, by omega, f3⟩
      · exact ⟨e, e0, e1, by omega, hv⟩
    · rcases hk' with w | w
      · exact ⟨f, f0, f1, by omega, f3⟩
      · exact ⟨e, e0, e1, by omega, hv⟩
theorem uni_back {bl tl hd : Int → Int} {m v k : Int} (h : RLO bl tl hd m k v) (k0 : 0 ≤ k) : UNI bl tl hd m v k := ⟨h.1, Or.inr ⟨k0, h.2⟩⟩
theorem blz_start {bl tl hd : Int → Int} {m e : Int} (h : BL0 bl e) (he : m ≤ e) : BLZ bl tl hd m := by
  refine ⟨fun j a b => ?_, fun b X _ e f e0 e1 f0 f1 be bf xe => ?_⟩
  · rw [h j a (by omega)]; exact ⟨a, Int.le_refl _, h j a (by omega)⟩
  · have := h e e0 (by omega); have := h f f0 (by omega)
    rw [show f = e by omega]; exact xe
/-- labels get numbers -/
def LBJ (bl tl hd : Int → Int) (m e c : Int) : Prop := ∃ b0 : Int → Int, BLZ b0 tl hd m ∧ 0 ≤ e ∧ (∀ j, e ≤ j → j < m → bl j = b0 j) ∧ (∀ j, 0 ≤ j → j < e → bl j < c) ∧ ∀ i j, 0 ≤ i → i < e → 0 ≤ j → j < e → (bl i = bl j ↔ b0 i = b0 j)
theorem lbj_start {bl tl hd : Int → Int} {m e c : Int} (h : BLZ bl tl hd m) (he : e = 0) : LBJ bl tl hd m e c := ⟨bl, h, by omega, fun _ _ _ => rfl, fun j a b => by omega, fun i j a b => by omega⟩
theorem lbj_new {bl bl' tl hd : Int → Int} {m e e' c c' p x y : Int} (h : LBJ bl tl hd m e c) (e1 : e < m) (hy : y = bl e) (hr : y = e) (hs : st1 bl bl' p x) (hp : p = e) (hx : x = c) (he : e' = e + 1) (hc : c' = c + 1) : LBJ bl' tl hd m e' c' := by
  obtain ⟨b0, h1, h2, h3, h4, h5⟩ := h
  have be : b0 e = e := by rw [← h3 e (Int.le_refl _) e1]; omega
  have ne : bl' e = c := by rw [(hs e h2).1 (by omega)]; exact hx
  have no : ∀ j, 0 ≤ j → j < e → bl' j = bl j := fun j a b => (hs j a).2 (by omega)
  have old : ∀ j, 0 ≤ j → j < e → b0 j < e := fun j a b => by have := (h1.1 j a (by omega)).2.1; omega
  refine ⟨b0, h1, by omega, fun j a b => by rw [(hs j (by omega)).2 (by omega)]; exact h3 j (by omega) b, fun j a b => ?_, fun i j i0 i1 j0 j1 => ?_⟩
  · by_cases q : j = e
    · rw [q, ne]; omega
    · rw [no j a (by omega)]; have := h4 j a (by omega); omega
  · by_cases q : i = e
    · by_cases w : j = e
      · rw [q, w]; exact ⟨fun _ => rfl, fun _ => rfl⟩
      · rw [q, ne, no j j0 (by omega), be]
        have := h4 j j0 (by omega); have := old j j0 (by omega)
        constructor <;> (intro; omega)
    · by_cases w : j = e
      · rw [w, ne, no i i0 (by omega), be]
        have := h4 i i0 (by omega); have := old i i0 (by omega)
        constructor <;> (intro; omega)
      · rw [no i i0 (by omega), no j j0 (by omega)]; exact h5 i j i0 (by omega) j0 (by omega)
theorem lbj_old {bl bl' tl hd : Int → Int} {m e e' c p x r y : Int} (h : LBJ bl tl hd m e c) (e1 : e < m) (hy : y = bl e) (hne : y ≠ e) (hr : r = bl e) (hx : x = bl r) (hs : st1 bl bl' p x) (hp : p = e) (he : e' = e + 1) : LBJ bl' tl hd m e' c := by
  obtain ⟨b0, h1, h2, h3, h4, h5⟩ := h
  have re : r = b0 e := by rw [← h3 e (Int.le_refl _) e1]; exact hr
  have q1 := h1.1 e h2 e1
  have r0 : 0 ≤ r := by omega
  have r1 : r < e := by omega
  have ne : bl' e = bl r := by rw [(hs e h2).1 (by omega)]; exact hx
  have no : ∀ j, 0 ≤ j → j < e → bl' j = bl j := fun j a b => (hs j a).2 (by omega)
  have rr : b0 r = b0 e := by rw [re]; exact q1.2.2
  refine ⟨b0, h1, by omega, fun j a b => by rw [(hs j (by omega)).2 (by omega)]; exact h3 j (by omega) b, fun j a b => ?_, fun i j i0 i1 j0 j1 => ?_⟩
  · by_cases q : j = e
    · rw [q, ne]; exact h4 r r0 r1
    · rw [no j a (by omega)]; exact h4 j a (by omega)
  · by_cases q : i = e
    · by_cases w : j = e
      · rw [q, w]; exact ⟨fun _ => rfl, fun _ => rfl⟩
      · rw [q, ne, no j j0 (by omega), ← rr]; exact h5 r j r0 r1 j0 (by omega)
    · by_cases w : j = e
      · rw [w, ne, no i i0 (by omega), ← rr]; exact h5 i r i0 (by omega) r0 r1
      · rw [no i i0 (by omega), no j j0 (by omega)]; exact h5 i j i0 (by omega) j0 (by omega)
theorem cnl_of {bl tl hd : Int → Int} {m e c : Int} (h : LBJ bl tl hd m e c) (he : m ≤ e) : CNL bl tl hd m := by
  obtain ⟨b0, h1, h2, h3, h4, h5⟩ := h
  intro b X hX e' f e0 e1 f0 f1 be bf xe
  have eq : b0 f = b0 e' := (h5 f e' f0 (by omega) e0 (by omega)).mp (by rw [be, bf])
  exact h1.2 (b0 e') X (fun q q0 q1 q2 => hX q q0 q1 (by rw [← be]; exact (h5 q e' q0 (by omega) e0 (by omega)).mpr q2)) e' f e0 e1 f0 f1 rfl eq xe
/-! a block's nodes -/
def HSB (m : Int) (bl : Int → Int) (b : Int) : Prop := ∃ j, 0 ≤ j ∧ j < m ∧ bl j = b
def LBE (m : Int) (bl tl hd : Int → Int) (k : Int) : Prop := LBL bl m k ∧ CNL bl tl hd m
def CNE (m : Int) (bl tl hd : Int → Int) : Prop := CNL bl tl hd m
theorem lbe_hsb {m k b : Int} {bl tl hd : Int → Int} (h : LBE m bl tl hd k) (b0 : 0 ≤ b) (b1 : b < k) : HSB m bl b := h.1.2 b b0 b1
def BLN (bn n m : Int) (bl tl hd : Int → Int) (b : Int) : Prop := (∀ j, 0 ≤ j → j < m → bl j = b → bit bn (tl j) ∧ bit bn (hd j)) ∧ (∀ w, 0 ≤ w → w < 32 → bit bn w → w < n) ∧ ∀ w, 0 ≤ w → w < 32 → bit bn w → ∃ j, 0 ≤ j ∧ j < m ∧ bl j = b ∧ lab tl hd w j
def BBI (bn n m : Int) (bl tl hd : Int → Int) (b le e : Int) : Prop := -1 ≤ e ∧ e < m ∧ -1 ≤ le ∧ le < m ∧ (0 ≤ le → bl le = b) ∧ (0 ≤ le ∨ ∃ j, 0 ≤ j ∧ j ≤ e ∧ bl j = b) ∧ (∀ j, e < j → j < m → bl j = b → bit bn (tl j) ∧ bit bn (hd j)) ∧ (∀ w, 0 ≤ w → w < 32 → bit bn w → w < n) ∧ ∀ w, 0 ≤ w → w < 32 → bit bn w → ∃ j, 0 ≤ j ∧ j < m ∧ bl j = b ∧ lab tl hd w j
theorem bbi_start {bn n m b le e : Int} {bl tl hd : Int → Int} (hb : bn = 0) (hl : HSB m bl b) (m0 : 0 ≤ m) (hle : le = -1) (he : e = m - 1) : BBI bn n m bl tl hd b le e := by
  obtain ⟨j, j0, j1, j2⟩ := hl
  exact ⟨by omega, by omega, by omega, by omega, fun q => by omega, Or.inr ⟨j, j0, by omega, j2⟩, fun j a c => by omega, fun w _ _ z => absurd (hb ▸ z) (bit_zero w), fun w _ _ z => absurd (hb ▸ z) (bit_zero w)⟩
theorem bbi_skip {bn n m b le e e' x : Int} {bl tl hd : Int → Int} (h : BBI bn n m bl tl hd b le e) (e0 : 0 ≤ e) (hx : x = bl e) (hne : x ≠ b) (he : e' = e - 1) : BBI bn n m bl tl hd b le e' := by
  obtain ⟨h1, h2, h3, h4, h4b, h5, h6, h7⟩ := h
  refine ⟨by omega, by omega, h3, h4, h4b, ?_, fun j a c d => ?_, h7⟩
  · rcases h5 with q | ⟨j, j0, j1, j2⟩
    · exact Or.inl q
    · by_cases c : j = e
      · rw [c, ← hx] at j2; exact absurd j2 hne
      · exact Or.inr ⟨j, j0, by omega, j2⟩
  · by_cases c : j = e
    · rw [c, ← hx] at d; exact absurd d hne
    · exact h6 j (by omega) (by omega) d
theorem bbi_step {bn bn' n m b le le' e e' z0 x y q1 q2 q3 : Int} {bl tl hd nr : Int → Int} (h : BBI bn n m bl tl hd b le e) (e0 : 0 ≤ e) (hz0 : z0 = bl e) (hzb : z0 = b) (hN : NOK n m tl hd nr) (n25 : n ≤ 25) (hx : x = tl e) (hy : y = hd e) (h1 : bvp q1 = bvp 1 <<< x.toNat) (h2 : bvp q2 = bvp 1 <<< y.toNat) (h3 : bvp q3 = bvp q1 ||| bvp q2) (h4 : bvp bn' = bvp bn ||| bvp q3) (hle : le' = e) (he : e' = e - 1) : BBI bn' n m bl tl hd b le' e' := by
  obtain ⟨a1, a2, a3, a4, a4b, a5, a6, a7, a8⟩ := h
  have ee := hN.1 e e0 a2
  have bb : ∀ w, 0 ≤ w → w < 32 → (bit bn' w ↔ bit bn w ∨ w = tl e ∨ w = hd e) := fun w w0 w1 => by rw [bit_or h4, bit_or h3, bit_shl h1 rfl (by omega) w0 w1, bit_shl h2 rfl (by omega) w0 w1, hx, hy]
  refine ⟨by omega, by omega, by omega, by omega, fun _ => by rw [hle]; omega, Or.inl (by omega), fun j c d z => ?_, fun w w0 w1 z => ?_, fun w w0 w1 z => ?_⟩
  · have jj := hN.1 j (by omega) d
    by_cases c : j = e
    · rw [c]; exact ⟨(bb _ (by omega) (by omega)).mpr (Or.inr (Or.inl rfl)), (bb _ (by omega) (by omega)).mpr (Or.inr (Or.inr rfl))⟩
    · have := a6 j (by omega) d z
      exact ⟨(bb _ (by omega) (by omega)).mpr (Or.inl this.1), (bb _ (by omega) (by omega)).mpr (Or.inl this.2)⟩
  · rcases (bb w w0 w1).mp z with z | z | z
    · exact a7 w w0 w1 z
    · omega
    · omega
  · rcases (bb w w0 w1).mp z with z | z | z
    · exact a8 w w0 w1 z
    · exact ⟨e, e0, a2, by omega, Or.inl z.symm⟩
    · exact ⟨e, e0, a2, by omega, Or.inr z.symm⟩
theorem bln_of {bn n m b le e : Int} {bl tl hd : Int → Int} (h : BBI bn n m bl tl hd b le e) (he : e < 0) : BLN bn n m bl tl hd b := ⟨fun j a c d => h.2.2.2.2.2.2.1 j (by omega) c d, h.2.2.2.2.2.2.2.1, h.2.2.2.2.2.2.2.2⟩
theorem bbi_has {bn n m b le e : Int} {bl tl hd : Int → Int} (h : BBI bn n m bl tl hd b le e) (he : e < 0) : 0 ≤ le ∧ le < m ∧ bl le = b := by
  obtain ⟨a1, a2, a3, a4, a4b, a5, _⟩ := h
  rcases a5 with q | ⟨j, j0, j1, _⟩
  · exact ⟨q, a4, a4b q⟩
  · omega
/-- a drawn node of the block -/
def DBN (D bn : Int) : Prop := ∃ u, 0 ≤ u ∧ u < 32 ∧ bit D u ∧ bit bn u
/-- the ring's free nodes: the block's without the first edge's ends -/
theorem bln_free {bn n m b t h q1 q2 r1 r2 f1 f2 m1 m2 : Int} {bl tl hd : Int → Int} (hb : BLN bn n m bl tl hd b) (t0 : 0 ≤ t) (h0 : 0 ≤ h) (e1 : bvp q1 = bvp 1 <<< t.toNat) (x1 : bvp r1 = bvp q1 ^^^ bvp m1) (hm1 : m1 = -1) (a1 : bvp f1 = bvp bn &&& bvp r1) (e2 : bvp q2 = bvp 1 <<< h.toNat) (x2 : bvp r2 = bvp q2 ^^^ bvp m2) (hm2 : m2 = -1) (a2 : bvp f2 = bvp f1 &&& bvp r2) : FRN n f2 ∧ ∀ w, 0 ≤ w → w < 32 → bit f2 w → w ≠ t ∧ w ≠ h := by
  have key : ∀ w, 0 ≤ w → w < 32 → bit f2 w → bit bn w ∧ w ≠ t ∧ w ≠ h := fun w w0 w1 z => by
    rw [bit_and a2, bit_and a1, bit_xor x1 hm1 w0 w1, bit_xor x2 hm2 w0 w1, bit_shl e1 rfl t0 w0 w1, bit_shl e2 rfl h0 w0 w1] at z
    exact ⟨z.1.1, z.1.2, z.2⟩
  exact ⟨fun w w0 w1 z => hb.2.1 w w0 w1 (key w w0 w1 z).1, fun w w0 w1 z => (key w w0 w1 z).2⟩
theorem rnp_of {n t h en f an wl : Int} {wy : Int → Int} (hw : SHW wy h en f an) (he : bvp en = bvp 1 <<< t.toNat) (t0 : 0 ≤ t) (t1 : t < n) (h0 : 0 ≤ h) (h1 : h < n) (ne : t ≠ h) (n25 : n ≤ 25) (hf : FRN n f) (hf2 : ∀ w, 0 ≤ w → w < 32 → bit f w → w ≠ t ∧ w ≠ h) (ha : wl = an) : RNP wl wy t := by
  subst ha
  rcases hw with z | ⟨a1, a2, a3, a4, a5, a6, a7⟩
  · exact Or.inl z
  · refine Or.inr ⟨a1, fun i i0 i1 => ?_, fun i j i0 ij j1 => ?_⟩
    · by_cases c : i = 0
      · rw [c, a2]; exact ⟨h0, by omega, fun q => ne q.symm⟩
      · have := a6 i (by omega) i1
        have q := hf _ this.1 this.2.1 this.2.2
        exact ⟨this.1, by omega, (hf2 _ this.1 this.2.1 this.2.2).1⟩
    · have jj := a6 j (by omega) j1
      by_cases c : i = 0
      · rw [c, a2]; exact fun q => (hf2 _ jj.1 jj.2.1 jj.2.2).2 q.symm
      · exact a7 i j (by omega) ij j1
/-! the piece that is picked -/
def PKD (pn D n : Int) : Prop := FRN n pn ∧ ∀ w, 0 ≤ w → w < 32 → bit pn w → ¬ bit D w
def PKI (pn pe D n f : Int) : Prop := f = 1000000 ∨ (f < 1000000 ∧ PEN pn pe ∧ PKD pn D n)
def PKA (pn pe D n an : Int) : Prop := an = 0 ∨ (PEN pn pe ∧ PKD pn D n)
theorem pki_new {pn pe D n f bn b m e x y q1 q2 q3 r m1 fr r2 m2 al an ed : Int} {bl tl hd nr : Int → Int} (hB : BLN bn n m bl tl hd b) (hN : NOK n m tl hd nr) (hC : CNE m bl tl hd) (hD : DBN D bn) (n0 : 0 ≤ n) (n25 : n ≤ 25) (e0 : 0 ≤ e) (e1 : e < m) {z0 : Int} (hz : z0 = bl e) (he : z0 = b) (hx : x = tl e) (hy : y = hd e) (h1 : bvp q1 = bvp 1 <<< x.toNat) (h2 : bvp q2 = bvp 1 <<< y.toNat) (h3 : bvp q3 = bvp q1 ||| bvp q2) (h4 : bvp r = bvp D ^^^ bvp m1) (hm : m1 = -1) (h5 : bvp fr = bvp q3 &&& bvp r) (h6 : bvp al = bvp bn &&& bvp r2) (h7 : bvp r2 = bvp D ^^^ bvp m2) (hm2 : m2 = -1) (hS : SPZ nr n fr al an) (hp : pn = an) (hpe : pe = ed) (hed : (fr = 0 ∧ ed = q3) ∨ (fr ≠ 0 ∧ ∃ nn s, NEF nr n an nn ∧ bvp s = bvp nn &&& bvp bn ∧ bvp ed = bvp s &&& bvp D)) (hf : f < 1000000) (fr0 : -2147483648 ≤ fr) (fr1 : fr ≤ 2147483647) (pn0 : -2147483648 ≤ pn) (pn1 : pn ≤ 2147483647) : PKI pn pe D n f := by
  have he : bl e = b := by omega
  have ee := hN.1 e e0 e1
  have b3 : ∀ w, 0 ≤ w → w < 32 → (bit q3 w ↔ w = tl e ∨ w = hd e) := fun w w0 w1 => by rw [bit_or h3, bit_shl h1 rfl (by omega) w0 w1, bit_shl h2 rfl (by omega) w0 w1, hx, hy]
  subst hp
  have bal : ∀ w, 0 ≤ w → w < 32 → (bit al w ↔ bit bn w ∧ ¬ bit D w) := fun w w0 w1 => by rw [bit_and h6, bit_xor h7 hm2 w0 w1]
  have av : ∀ w, 0 ≤ w → w < 32 → bit pn w → w < n ∧ ¬ bit D w := fun w w0 w1 z => by
    have q := (bal w w0 w1).mp (hS.1 w w0 w1 z)
    exact ⟨hB.2.1 w w0 w1 q.1, q.2⟩
  have frB : ∀ w, 0 ≤ w → w < 32 → bit fr w → (w = tl e ∨ w = hd e) ∧ bit pn w := fun w w0 w1 z => by
    have z2 := z
    rw [bit_and h5, bit_xor h4 hm w0 w1] at z2
    have c := (b3 w w0 w1).mp z2.1
    have bw : bit bn w := by
      rcases c with c | c
      · rw [c]; exact (hB.1 e e0 e1 he).1
      · rw [c]; exact (hB.1 e e0 e1 he).2
    exact ⟨c, hS.2.1 w w0 w1 z ((bal w w0 w1).mpr ⟨bw, z2.2⟩)⟩
  have frN : FRN n fr := fun w w0 w1 z => by rcases (frB w w0 w1 z).1 with c | c <;> omega
  have both : fr = 0 → ∃ u v, 0 ≤ u ∧ u < 32 ∧ 0 ≤ v ∧ v < 32 ∧ u ≠ v ∧ bit pe u ∧ bit pe v := fun fz => by
    rcases hed with ⟨_, q⟩ | ⟨q, _⟩
    · refine ⟨tl e, hd e, by omega, by omega, by omega, by omega, ee.2.2.2.2, ?_, ?_⟩
      · rw [hpe, q]; exact (b3 _ (by omega) (by omega)).mpr (Or.inl rfl)
      · rw [hpe, q]; exact (b3 _ (by omega) (by omega)).mpr (Or.inr rfl)
    · exact absurd fz q
  have fz : pn = 0 → fr = 0 := fun pz => bit_none (fun w w0 w1 z => absurd (pz ▸ (frB w w0 w1 z).2) (bit_zero w)) fr0 fr1
  refine Or.inr ⟨hf, ⟨?_, fun pz => both (fz pz)⟩, fun w w0 w1 z => (av w w0 w1 z).1, fun w w0 w1 z => (av w w0 w1 z).2⟩
  rcases hed with ⟨q, _⟩ | ⟨q, nn, s, hq1, hq2, hq3⟩
  · obtain ⟨u, v, u0, u1, _, _, _, bu, _⟩ := both q
    exact ⟨u, u0, u1, bu⟩
  · -- a piece without ends is all of the block
    have pb : ∀ w, 0 ≤ w → w < 32 → (bit pe w ↔ (∃ u, 0 ≤ u ∧ u < n ∧ bit pn u ∧ bit (nr u) w) ∧ bit bn w ∧ bit D w) := fun w w0 w1 => by
      rw [hpe, bit_and hq3, bit_and hq2, hq1 w w0 w1]
      exact ⟨fun z => ⟨z.1.1, z.1.2, z.2⟩, fun z => ⟨⟨z.1, z.2.1⟩, z.2.2⟩⟩
    apply Classical.byContradiction
    intro hno
    have cl := (hS.2.2.2 (nok_nrb hN) frN).2
    have go : ∀ j, 0 ≤ j → j < m → bl j = b → ∀ u w, 0 ≤ u → u < n → 0 ≤ w → w < n → bit bn w → bit (nr u) w → bit pn u → bit pn w := fun j j0 j1 jb u w u0 u1 w0 w1 bw nw pu => by
      by_cases dw : bit D w
      · exact absurd ⟨w, w0, by omega, (pb w w0 (by omega)).mpr ⟨⟨u, u0, u1, pu, nw⟩, bw, dw⟩⟩ hno
      · exact cl u w u0 u1 pu w0 (by omega) nw ((bal w w0 (by omega)).mpr ⟨bw, dw⟩)
    have hX : ∀ j, 0 ≤ j → j < m → bl j = b → (bit pn (tl j) ↔ bit pn (hd j)) := fun j j0 j1 jb => by
      have q := hN.1 j j0 j1
      have nb := hN.2.2.2.1 j j0 j1
      have bn2 := hB.1 j j0 j1 jb
      exact ⟨go j j0 j1 jb _ _ q.1 q.2.1 q.2.2.1 q.2.2.2.1 bn2.2 nb, go j j0 j1 jb _ _ q.2.2.1 q.2.2.2.1 q.1 q.2.1 bn2.1 (hN.2.1 _ _ q.1 q.2.1 q.2.2.1 (by omega) nb).2⟩
    have start : bit pn (tl e) := by
      have : ∃ w, 0 ≤ w ∧ w < 32 ∧ bit fr w := by
        apply Classical.byContradiction
        intro hn
        exact q (bit_none (fun i i0 i1 hb => hn ⟨i, i0, i1, hb⟩) fr0 fr1)
      obtain ⟨w, w0, w1, w2⟩ := this
      obtain ⟨c, pw⟩ := frB w w0 w1 w2
      rcases c with c | c
      · rw [← c]; exact pw
      · rw [hX e e0 e1 he, ← c]; exact pw
    obtain ⟨u, u0, u1, uD, uB⟩ := hD
    obtain ⟨j, j0, j1, jb, ju⟩ := hB.2.2 u u0 u1 uB
    have tj := hC b (fun w => bit pn w) hX e j e0 e1 j0 j1 he jb start
    have pu : bit pn u := by
      rcases ju with c | c
      · rw [← c]; exact tj
      · rw [← c]; exact (hX j j0 j1 jb).mp tj
    exact (av u u0 u1 pu).2 uD
theorem wyn_two {D wl : Int} {wy : Int → Int} (h : wl ≤ 2) : WYN D wl wy := ⟨fun i a b => by omega, fun i j a b c => by omega⟩
theorem wyn_of {D n pn st en wl an : Int} {wy : Int → Int} (h : SHW wy st en pn an) (hk : PKD pn D n) (n25 : n ≤ 25) (ha : wl = an) : WYN D wl wy := by
  subst ha
  rcases h with z | ⟨a1, a2, a3, a4, a5, a6, a7⟩
  · exact wyn_two (by omega)
  · exact ⟨fun i i0 i1 => ⟨(a6 i i0 i1).1, by have := hk.1 _ (a6 i i0 i1).1 (a6 i i0 i1).2.1 (a6 i i0 i1).2.2; omega, hk.2 _ (a6 i i0 i1).1 (a6 i i0 i1).2.1 (a6 i i0 i1).2.2⟩, a7⟩
def DBA (D bn an : Int) : Prop := an ≤ 0 ∨ DBN D bn
theorem dba_of {D bn n m b le e t an : Int} {bl tl hd nr : Int → Int} (h : BLN bn n m bl tl hd b) (hb : bl le = b) (l0 : 0 ≤ le) (l1 : le < m) (hN : NOK n m tl hd nr) (n25 : n ≤ 25) (ht : t = tl le) (hD : BTD D t) (_ : e = e) : DBA D bn an := Or.inr ⟨t, by have := hN.1 le l0 l1; omega, by have := hN.1 le l0 l1; omega, hD, by rw [ht]; exact (h.1 le l0 l1 hb).1⟩
theorem dbn_of {D bn an : Int} (h : DBA D bn an) (ha : 0 < an) : DBN D bn := by
  rcases h with q | q
  · omega
  · exact q
theorem dbn_or {D D' bn q : Int} (h : DBN D bn) (hD : bvp D' = bvp D ||| bvp q) : DBN D' bn := by
  obtain ⟨u, u0, u1, u2, u3⟩ := h
  exact ⟨u, u0, u1, (bit_or hD u).mpr (Or.inl u2), u3⟩
def BTN (bn t : Int) : Prop := bit bn t
def RFR (t h f en n : Int) : Prop := FRN n f ∧ (∀ w, 0 ≤ w → w < 32 → bit f w → w ≠ t ∧ w ≠ h) ∧ 0 ≤ t ∧ t < n ∧ 0 ≤ h ∧ h < n ∧ t ≠ h ∧ bvp en = bvp 1 <<< t.toNat ∧ n ≤ 25
theorem rnp_rfr {t h f en n an wl : Int} {wy : Int → Int} (hr : RFR t h f en n) (hw : SHW wy h en f an) (ha : wl = an) : RNP wl wy t := by
  obtain ⟨a1, a2, a3, a4, a5, a6, a7, a8, a9⟩ := hr
  exact rnp_of hw a8 a3 a4 a5 a6 a7 a9 a1 a2 ha
