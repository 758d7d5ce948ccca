/-- the first edge around a node that has one -/
def LEI (m : Int) (bl tl hd : Int → Int) (v b e : Int) : Prop := ∀ j, 0 ≤ j → j < e → bl j = b → tl j ≠ v ∧ hd j ≠ v
def LEX (m : Int) (bl tl hd : Int → Int) (v b a : Int) : Prop := a = -1 → ∀ j, 0 ≤ j → j < m → bl j = b → tl j ≠ v ∧ hd j ≠ v
theorem lei_step {m v b e e' : Int} {bl tl hd : Int → Int} (h : LEI m bl tl hd v b e) (hn : bl e ≠ b ∨ (tl e ≠ v ∧ hd e ≠ v)) (he : e' = e + 1) : LEI m bl tl hd v b e' := fun j a c d => by
  by_cases q : j = e
  · subst q; rcases hn with z | z
    · exact absurd d z
    · exact z
  · exact h j a (by omega) d
theorem lex_end {m v b e x : Int} {bl tl hd : Int → Int} (h : LEI m bl tl hd v b e) (he : m ≤ e) : LEX m bl tl hd v b x := fun _ j a c d => h j a (by omega) d
theorem lex_some {m v b x : Int} {bl tl hd : Int → Int} (hx : 0 ≤ x) : LEX m bl tl hd v b x := fun q => by omega
def JB5 (m : Int) (bl tl hd : Int → Int) (v b c : Int) : Prop := 0 ≤ c ∧ (c = 0 → ∀ j, 0 ≤ j → j < m → 0 ≤ bl j → bl j < b → tl j ≠ v ∧ hd j ≠ v)
def JB7 (m : Int) (bl tl hd : Int → Int) (v b c e k : Int) : Prop := 1 ≤ c ∨ (k = 0 ∧ JB5 m bl tl hd v b c ∧ LEX m bl tl hd v b e)
theorem jb5_start {m v b c : Int} {bl tl hd : Int → Int} (hb : b = 0) (hc : c = 0) : JB5 m bl tl hd v b c := ⟨by omega, fun _ j _ _ z1 z2 => by omega⟩
theorem jb7_start {m v b c e k : Int} {bl tl hd : Int → Int} (h : JB5 m bl tl hd v b c) (hl : LEX m bl tl hd v b e) (hk : k = 0) : JB7 m bl tl hd v b c e k := Or.inr ⟨hk, h, hl⟩
theorem jb7_more {m v b c e k : Int} {bl tl hd : Int → Int} (hc : 1 ≤ c) : JB7 m bl tl hd v b c e k := Or.inl hc
theorem jb7_c0 {m v b c e k : Int} {bl tl hd : Int → Int} (h : JB7 m bl tl hd v b c e k) : 0 ≤ c := by rcases h with q | ⟨_, q, _⟩; omega; exact q.1
theorem jb5_next {m v b b' c e k : Int} {bl tl hd : Int → Int} (h : JB7 m bl tl hd v b c e k) (hx : e = -1 ∨ 1 ≤ k ∨ 1 ≤ c) (hb : b' = b + 1) : JB5 m bl tl hd v b' c := by
  rcases h with q | ⟨k0, q, l⟩
  · exact ⟨by omega, fun z => by omega⟩
  · by_cases c1 : 1 ≤ c
    · exact ⟨by omega, fun z => by omega⟩
    · refine ⟨q.1, fun z j a d e1 e2 => ?_⟩
      have he : e = -1 := by omega
      by_cases w : bl j = b
      · exact l he j a d w
      · exact q.2 z j a d e1 (by omega)
theorem jb5_some {m v b' c : Int} {bl tl hd : Int → Int} (hc : 1 ≤ c) : JB5 m bl tl hd v b' c := ⟨by omega, fun z => by omega⟩
def FIL (n : Int) (nr fi : Int → Int) (v : Int) : Prop := ∀ u, 0 ≤ u → u < v → nr u ≠ 0 → 0 ≤ fi u
def FIL1 (n : Int) (nr fi : Int → Int) (v : Int) : Prop := FIL n nr fi (v + 1)
def FIN (n : Int) (nr fi : Int → Int) : Prop := ∀ u, 0 ≤ u → u < n → nr u ≠ 0 → 0 ≤ fi u
theorem fil_start {n v : Int} {nr fi : Int → Int} (hv : v ≤ 0) : FIL n nr fi v := fun u a b => by omega
theorem fil_none {n m v c b b2 p x : Int} {bl tl hd nr fi fi' : Int → Int} (h : FIL n nr fi v) (hj : JB5 m bl tl hd v b c) (hc : c = 0) (hN : NOK n m tl hd nr) (hL : LBE m bl tl hd b2) (hb2 : b2 ≤ b) (v0 : 0 ≤ v) (vn : v < n) (hr : 0 ≤ nr v ∧ nr v ≤ 33554431) (hs : st1 fi fi' p x) (hp : p = v) {v' : Int} (hv : v' = v + 1) : FIL n nr fi' v' := fun u a d z => by
  by_cases q : u = v
  · subst q
    exfalso
    obtain ⟨w, w0, w1, hb⟩ := bit_ex (x := nr u) (by omega) (by omega)
    obtain ⟨e, e0, e1, e2⟩ := hN.2.2.2.2 u w v0 vn w0 w1 hb
    have l := hL.1.1 e e0 e1
    have r := hj.2 hc e e0 e1 l.1 (by omega)
    rcases e2 with e2 | e2
    · exact r.1 e2
    · exact r.2 e2
  · rw [(hs u a).2 (by omega)]; exact h u a (by omega) z
theorem fil_some {n v p x : Int} {nr fi fi' : Int → Int} (h : FIL n nr fi v) (hx : 0 ≤ x) (hs : st1 fi fi' p x) (hp : p = v) {v' : Int} (hv : v' = v + 1) : FIL n nr fi' v' := fun u a d z => by
  by_cases q : u = v
  · rw [(hs u a).1 (by omega)]; exact hx
  · rw [(hs u a).2 (by omega)]; exact h u a (by omega) z
def EFA (n m : Int) (nr fi fo : Int → Int) (a : Int) : Prop := a ≠ 0 → FIN n nr fi ∧ FAD m fo
theorem efa_of {n m v a : Int} {nr fi fo : Int → Int} (h : FIL n nr fi v) (hv : n ≤ v) (hf : FAD m fo) : EFA n m nr fi fo a := fun _ => ⟨fun u a b z => h u a (by omega) z, hf⟩
theorem efa_not {n m a : Int} {nr fi fo : Int → Int} (ha : a = 0) : EFA n m nr fi fo a := fun z => absurd ha z
theorem fin_at {n v x : Int} {nr fi : Int → Int} (h : FIN n nr fi) (v0 : 0 ≤ v) (vn : v < n) (hz : nr v ≠ 0) (hx : x = fi v) : 0 ≤ x := by rw [hx]; exact h v v0 vn hz
theorem fil_next {n v v' : Int} {nr fi : Int → Int} (h : FIL1 n nr fi v) (hv : v' = v + 1) : FIL n nr fi v' := by subst hv; exact h
/-- no more labels than edges -/
theorem pig : ∀ (m c : Nat) (bl : Int → Int), (∀ b : Nat, b < c → ∃ j : Nat, j < m ∧ bl j = b) → c ≤ m
  | 0, c, bl, h => by
    by_cases z : c = 0
    · omega
    · obtain ⟨j, hj, _⟩ := h 0 (by omega); omega
  | m + 1, 0, _, _ => by omega
  | m + 1, c + 1, bl, h => by
    have ih := pig m c (fun j => if bl j = (c : Int) then bl (m : Nat) else bl j) (fun b hb => by
      obtain ⟨j, hj, e⟩ := h b (by omega)
      by_cases q : j < m
      · exact ⟨j, q, by show (if bl j = (c : Int) then bl (m : Nat) else bl j) = _; rw [if_neg (by omega)]; exact e⟩
      · have ej : j = m := by omega
        subst ej
        obtain ⟨j1, hj1, e1⟩ := h c (by omega)
        have n1 : j1 ≠ j := fun z => by subst z; omega
        exact ⟨j1, by omega, by show (if bl j1 = (c : Int) then bl (j : Nat) else bl j1) = _; rw [if_pos e1]; exact e⟩)
    omega
theorem lbl_le {bl : Int → Int} {m c : Int} (h : LBL bl m c) (m0 : 0 ≤ m) : c ≤ m := by
  have q := pig m.toNat c.toNat bl (fun b hb => by
    obtain ⟨j, j0, j1, e⟩ := h.2 b (by omega) (by omega)
    exact ⟨j.toNat, by omega, by rw [Int.toNat_of_nonneg j0]; exact e⟩)
  omega
