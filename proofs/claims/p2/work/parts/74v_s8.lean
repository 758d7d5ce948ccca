/-! what leads to what (bits), strong parts, a potential of the edges -/
def TRn (r : Int → Int) (n a : Int) : Prop := ∀ i j, 0 ≤ i → i < n → 0 ≤ j → j < 32 → bit (r i) a → bit (r a) j → bit (r i) j
def WKn (r : Int → Int) (n k : Int) : Prop := ∀ a, 0 ≤ a → a < k → a < n → TRn r n a
def WIn (r : Int → Int) (n k i : Int) : Prop := ∃ r0 : Int → Int, WKn r0 n k ∧ 0 ≤ k ∧ k < n ∧ 0 ≤ i ∧ (∀ i', 0 ≤ i' → i' < n → i' < i → ∀ j, 0 ≤ j → j < 32 → (bit (r i') j ↔ bit (r0 i') j ∨ (bit (r0 i') k ∧ bit (r0 k) j))) ∧ ∀ i', i ≤ i' → i' < n → r i' = r0 i'
theorem win_row {r : Int → Int} {n k i : Int} (h : WIn r n k i) (n32 : n ≤ 32) : ∃ r0 : Int → Int, (∀ j, 0 ≤ j → j < 32 → (bit (r k) j ↔ bit (r0 k) j)) ∧ WKn r0 n k ∧ 0 ≤ k ∧ k < n ∧ 0 ≤ i ∧ (∀ i', 0 ≤ i' → i' < n → i' < i → ∀ j, 0 ≤ j → j < 32 → (bit (r i') j ↔ bit (r0 i') j ∨ (bit (r0 i') k ∧ bit (r0 k) j))) ∧ ∀ i', i ≤ i' → i' < n → r i' = r0 i' := by
  obtain ⟨r0, h1, h2, h3, h4, h5, h6⟩ := h
  refine ⟨r0, fun j j0 j1 => ?_, h1, h2, h3, h4, h5, h6⟩
  by_cases c : k < i
  · rw [h5 k h2 h3 c j j0 j1]
    exact ⟨fun q => q.elim (fun z => z) (fun z => z.2), fun q => Or.inl q⟩
  · rw [h6 k (by omega) h3]
theorem win_start {r : Int → Int} {n k i : Int} (h : WKn r n k) (k0 : 0 ≤ k) (k1 : k < n) (hi : i = 0) : WIn r n k i := ⟨r, h, k0, k1, by omega, fun i' _ _ c => by omega, fun _ _ _ => rfl⟩
theorem win_skip {r : Int → Int} {n k i i' : Int} (h : WIn r n k i) (i1 : i < n) (n32 : n ≤ 32) (hb : ¬ bit (r i) k) (hi : i' = i + 1) : WIn r n k i' := by
  obtain ⟨r0, h1, h2, h3, h4, h5, h6⟩ := h
  refine ⟨r0, h1, h2, h3, by omega, fun v a b c j j0 j1 => ?_, fun v a b => h6 v (by omega) b⟩
  by_cases e : v = i
  · have := h6 i (Int.le_refl _) i1
    rw [e, this]
    rw [this] at hb
    exact ⟨Or.inl, fun q => q.elim (fun z => z) (fun z => absurd z.1 hb)⟩
  · exact h5 v a b (by omega) j j0 j1
theorem win_step {r r' : Int → Int} {n k i i' p x y : Int} (h : WIn r n k i) (i1 : i < n) (n32 : n ≤ 32) (hb : bit (r i) k) (hx : bvp x = bvp (r i) ||| bvp y) (hy : y = r k) (hs : st1 r r' p x) (hp : p = i) (hi : i' = i + 1) : WIn r' n k i' := by
  obtain ⟨r0, hk, h1, h2, h3, h4, h5, h6⟩ := win_row h n32
  refine ⟨r0, h1, h2, h3, by omega, fun v a b c j j0 j1 => ?_, fun v a b => ?_⟩
  · by_cases e : v = i
    · have q := h6 i (Int.le_refl _) i1
      rw [(hs v a).1 (by omega), bit_or hx, hy, hk j j0 j1, e, ← q]
      exact ⟨fun z => z.elim Or.inl (fun w => Or.inr ⟨hb, w⟩), fun z => z.elim Or.inl (fun w => Or.inr w.2)⟩
    · rw [(hs v a).2 (by omega)]; exact h5 v a b (by omega) j j0 j1
  · rw [(hs v (by omega)).2 (by omega)]; exact h6 v (by omega) b
theorem wkn_next {r : Int → Int} {n k k' i : Int} (h : WIn r n k i) (hi : n ≤ i) (n32 : n ≤ 32) (hk : k' = k + 1) : WKn r n k' := by
  obtain ⟨r0, h1, h2, h3, h4, h5, h6⟩ := h
  have R : ∀ i', 0 ≤ i' → i' < n → ∀ j, 0 ≤ j → j < 32 → (bit (r i') j ↔ bit (r0 i') j ∨ (bit (r0 i') k ∧ bit (r0 k) j)) := fun i' a b j j0 j1 => h5 i' a b (by omega) j j0 j1
  intro a a0 a1 a2 u j u0 u1 j0 j1 p q
  rw [R u u0 u1 a a0 (by omega)] at p
  rw [R a a0 a2 j j0 j1] at q
  rw [R u u0 u1 j j0 j1]
  by_cases e : a = k
  · subst e
    have p' : bit (r0 u) a := p.elim (fun z => z) (fun z => z.1)
    have q' : bit (r0 a) j := q.elim (fun z => z) (fun z => z.2)
    exact Or.inr ⟨p', q'⟩
  · have T := h1 a a0 (by omega) a2
    rcases p with p | ⟨p, p'⟩
    · rcases q with q | ⟨q, q'⟩
      · exact Or.inl (T u j u0 u1 j0 j1 p q)
      · exact Or.inr ⟨T u k u0 u1 h2 (by omega) p q, q'⟩
    · rcases q with q | ⟨q, q'⟩
      · exact Or.inr ⟨p, T k j h2 h3 j0 j1 p' q⟩
      · exact Or.inr ⟨p, q'⟩
theorem wkn_start {r : Int → Int} {n k : Int} (hk : k = 0) : WKn r n k := fun a a0 a1 => by omega
/-- edges lead from tail to head -/
def ERC (m : Int) (r tl hd : Int → Int) : Prop := ∀ e, 0 ≤ e → e < m → bit (r (tl e)) (hd e)
theorem erc_or {m p x y z : Int} {r r' tl hd : Int → Int} (h : ERC m r tl hd) (hx : bvp x = bvp z ||| bvp y) (hz : z = r p) (hs : st1 r r' p x) (ht : ∀ e, 0 ≤ e → e < m → 0 ≤ tl e) : ERC m r' tl hd := fun e e0 e1 => by
  by_cases c : tl e = p
  · rw [(hs _ (ht e e0 e1)).1 c, bit_or hx, hz, ← c]; exact Or.inl (h e e0 e1)
  · rw [(hs _ (ht e e0 e1)).2 c]; exact h e e0 e1
/-! labels of strong parts -/
def mut2 (r : Int → Int) (u v : Int) : Prop := bit (r u) v ∧ bit (r v) u
def NBI (n : Int) (r nb : Int → Int) (i ct : Int) : Prop := 0 ≤ i ∧ 0 ≤ ct ∧ (∀ v, 0 ≤ v → v < n → nb v = -1 ∨ (0 ≤ nb v ∧ nb v < ct)) ∧ (∀ v, 0 ≤ v → v < i → v < n → nb v ≠ -1) ∧ (∀ u v, 0 ≤ u → u < n → 0 ≤ v → v < n → nb u ≠ -1 → nb v ≠ -1 → (nb u = nb v ↔ u = v ∨ mut2 r u v)) ∧ ∀ u v, 0 ≤ u → u < n → 0 ≤ v → v < n → nb u ≠ -1 → mut2 r u v → nb v ≠ -1
def NBJ (n : Int) (r nb : Int → Int) (i j ct : Int) : Prop := ∃ b0 : Int → Int, NBI n r b0 i ct ∧ 0 ≤ i ∧ i < n ∧ i < j ∧ b0 i = -1 ∧ nb i = ct ∧ ∀ v, 0 ≤ v → v < n → v ≠ i → (mut2 r i v → v < j → nb v = ct) ∧ (¬ (mut2 r i v ∧ v < j) → nb v = b0 v)
def NBP (n : Int) (r nb : Int → Int) : Prop := ∀ u v, 0 ≤ u → u < n → 0 ≤ v → v < n → (nb u = nb v ↔ u = v ∨ mut2 r u v)
theorem nbi_start {n i ct : Int} {r nb : Int → Int} (hi : i = 0) (hc : ct = 0) (h : ∀ v, 0 ≤ v → v < n → nb v = -1) : NBI n r nb i ct := ⟨by omega, by omega, fun v a b => Or.inl (h v a b), fun v a b => by omega, fun u v a b _ _ q => absurd (h u a b) q, fun u v a b _ _ q => absurd (h u a b) q⟩
theorem nbi_skip {n i i' ct : Int} {r nb : Int → Int} (h : NBI n r nb i ct) (hn : nb i ≠ -1) (hi : i' = i + 1) : NBI n r nb i' ct := by
  obtain ⟨h1, h2, h3, h4, h5, h6⟩ := h
  exact ⟨by omega, h2, h3, fun v a b c => by by_cases e : v = i; rw [e]; exact hn; exact h4 v a (by omega) c, h5, h6⟩
theorem nbj_start {n i j ct p x : Int} {r nb nb' : Int → Int} (h : NBI n r nb i ct) (i1 : i < n) (hn : nb i = -1) (hs : st1 nb nb' p x) (hp : p = i) (hx : x = ct) (hj : j = i + 1) : NBJ n r nb' i j ct := by
  refine ⟨nb, h, h.1, i1, by omega, hn, by rw [(hs i h.1).1 (by omega)]; exact hx, fun v a b c => ⟨fun m l => ?_, fun _ => (hs v a).2 (by omega)⟩⟩
  exact absurd hn (h.2.2.2.2.2 v i a b h.1 i1 (h.2.2.2.1 v a (by omega) b) ⟨m.2, m.1⟩)
theorem nbj_skip {n i j j' ct : Int} {r nb : Int → Int} (h : NBJ n r nb i j ct) (hb : ¬ mut2 r i j) (hj : j' = j + 1) : NBJ n r nb i j' ct := by
  obtain ⟨b0, h1, h2, h3, h4, h5, h6, h7⟩ := h
  refine ⟨b0, h1, h2, h3, by omega, h5, h6, fun v a b c => ⟨fun m l => ?_, fun q => (h7 v a b c).2 (fun z => q ⟨z.1, by omega⟩)⟩⟩
  by_cases e : v = j
  · rw [e] at m; exact absurd m hb
  · exact (h7 v a b c).1 m (by omega)
theorem nbj_step {n i j j' ct p x : Int} {r nb nb' : Int → Int} (h : NBJ n r nb i j ct) (hb : mut2 r i j) (hs : st1 nb nb' p x) (hp : p = j) (hx : x = ct) (hj : j' = j + 1) : NBJ n r nb' i j' ct := by
  obtain ⟨b0, h1, h2, h3, h4, h5, h6, h7⟩ := h
  refine ⟨b0, h1, h2, h3, by omega, h5, by rw [(hs i h2).2 (by omega)]; exact h6, fun v a b c => ⟨fun m l => ?_, fun q => ?_⟩⟩
  · by_cases e : v = j
    · rw [(hs v a).1 (by omega)]; exact hx
    · rw [(hs v a).2 (by omega)]; exact (h7 v a b c).1 m (by omega)
  · have e : v ≠ j := fun e => q ⟨by rw [e]; exact hb, by omega⟩
    rw [(hs v a).2 (by omega)]; exact (h7 v a b c).2 (fun z => q ⟨z.1, by omega⟩)
theorem nbi_next {n i i' j ct ct' : Int} {r nb : Int → Int} (h : NBJ n r nb i j ct) (hj : n ≤ j) (n32 : n ≤ 32) (hw : WKn r n n) (hi : i' = i + 1) (hc : ct' = ct + 1) : NBI n r nb i' ct' := by
  obtain ⟨b0, ⟨a1, a2, a3, a4, a5, a6⟩, h2, h3, h4, h5, h6, h7⟩ := h
  have tr : ∀ u v w, 0 ≤ u → u < n → 0 ≤ v → v < n → 0 ≤ w → w < n → mut2 r u v → mut2 r v w → mut2 r u w := fun u v w u0 u1 v0 v1 w0 w1 p q => ⟨hw v v0 v1 v1 u w u0 u1 w0 (by omega) p.1 q.1, hw v v0 v1 v1 w u w0 w1 u0 (by omega) q.2 p.2⟩
  have sy : ∀ u v, mut2 r u v → mut2 r v u := fun u v q => ⟨q.2, q.1⟩
  -- the class of i, and the rest
  have inn : ∀ v, 0 ≤ v → v < n → (v = i ∨ mut2 r i v) → nb v = ct := fun v a b c => by
    by_cases e : v = i
    · rw [e]; exact h6
    · rcases c with c | c
      · exact absurd c e
      · exact (h7 v a b e).1 c (by omega)
  have out : ∀ v, 0 ≤ v → v < n → ¬ (v = i ∨ mut2 r i v) → nb v = b0 v := fun v a b c => (h7 v a b (fun e => c (Or.inl e))).2 (fun z => c (Or.inr z.1))
  have b0n : ∀ v, 0 ≤ v → v < n → b0 v ≠ ct := fun v a b => by rcases a3 v a b with q | q <;> omega
  have cl : ∀ v, 0 ≤ v → v < n → (v = i ∨ mut2 r i v) → b0 v = -1 := fun v a b c => by
    rcases c with c | c
    · rw [c]; exact h5
    · apply Classical.byContradiction
      intro q
      exact a6 v i a b h2 h3 q (sy _ _ c) h5
  refine ⟨by omega, by omega, fun v a b => ?_, fun v a b c => ?_, fun u v u0 u1 v0 v1 pu pv => ?_, fun u v u0 u1 v0 v1 pu m => ?_⟩
  · by_cases c : v = i ∨ mut2 r i v
    · rw [inn v a b c]; omega
    · rw [out v a b c]; rcases a3 v a b with q | q
      · exact Or.inl q
      · exact Or.inr ⟨q.1, by omega⟩
  · by_cases d : v = i ∨ mut2 r i v
    · rw [inn v a c d]; omega
    · rw [out v a c d]; exact a4 v a (by omega) c
  · by_cases c : u = i ∨ mut2 r i u
    · by_cases d : v = i ∨ mut2 r i v
      · rw [inn u u0 u1 c, inn v v0 v1 d]
        refine ⟨fun _ => ?_, fun _ => rfl⟩
        rcases c with c | c
        · rcases d with d | d
          · exact Or.inl (by omega)
          · exact Or.inr (by rw [c]; exact d)
        · rcases d with d | d
          · exact Or.inr (by rw [d]; exact sy _ _ c)
          · exact Or.inr (tr u i v u0 u1 h2 h3 v0 v1 (sy _ _ c) d)
      · rw [inn u u0 u1 c, out v v0 v1 d]
        refine ⟨fun e => absurd e.symm (b0n v v0 v1), fun e => absurd ?_ d⟩
        rcases e with e | e
        · rw [← e]; exact c
        · rcases c with c | c
          · rw [← c]; exact Or.inr e
          · exact Or.inr (tr i u v h2 h3 u0 u1 v0 v1 c e)
    · by_cases d : v = i ∨ mut2 r i v
      · rw [out u u0 u1 c, inn v v0 v1 d]
        refine ⟨fun e => absurd e (b0n u u0 u1), fun e => absurd ?_ c⟩
        rcases e with e | e
        · rw [e]; exact d
        · rcases d with d | d
          · rw [← d]; exact Or.inr (sy _ _ e)
          · exact Or.inr (tr i v u h2 h3 v0 v1 u0 u1 d (sy _ _ e))
      · rw [out u u0 u1 c, out v v0 v1 d]
        rw [out u u0 u1 c] at pu
        rw [out v v0 v1 d] at pv
        exact a5 u v u0 u1 v0 v1 pu pv
  · by_cases d : v = i ∨ mut2 r i v
    · rw [inn v v0 v1 d]; omega
    · rw [out v v0 v1 d]
      by_cases c : u = i ∨ mut2 r i u
      · refine absurd ?_ d
        rcases c with c | c
        · rw [← c]; exact Or.inr m
        · exact Or.inr (tr i u v h2 h3 u0 u1 v0 v1 c m)
      · rw [out u u0 u1 c] at pu
        exact a6 u v u0 u1 v0 v1 pu m
theorem nbp_of {n i ct : Int} {r nb : Int → Int} (h : NBI n r nb i ct) (hi : n ≤ i) : NBP n r nb := fun u v u0 u1 v0 v1 => h.2.2.2.2.1 u v u0 u1 v0 v1 (h.2.2.2.1 u u0 (by omega) u1) (h.2.2.2.1 v v0 (by omega) v1)
/-! ranks within strong parts, and the potential -/
def RKP (n : Int) (lp rk : Int → Int) : Prop := ∀ u v, 0 ≤ u → u < n → 0 ≤ v → v < n → u ≠ v → lp u = lp v → rk u ≠ rk v
def TUD (m : Int) (tl hd lp rk tu : Int → Int) : Prop := ∀ e, 0 ≤ e → e < m → (tu e ≠ 0 ↔ lp (tl e) = lp (hd e) ∧ rk (hd e) < rk (tl e))
theorem tpo_rank {n m : Int} {r lp rk tl hd tu : Int → Int} (hg : GKE n m tl hd) (n24 : n ≤ 24) (hw : WKn r n n) (he : ERC m r tl hd) (hn : NBP n r lp) (hr : RKP n lp rk) (hk : ∀ v, 0 ≤ v → v < 24 → 0 ≤ rk v ∧ rk v ≤ 23) (ht : TUD m tl hd lp rk tu) : TPO m tl hd tu := by
  refine ⟨fun v => rk v - 32 * cnb (fun w => bit (r v) w ∨ w = v) n.toNat, fun e e0 e1 => ?_⟩
  obtain ⟨a0, a1, b0, b1, ne⟩ := hg e e0 e1
  have lead := he e e0 e1
  have ka := hk _ a0 (by omega)
  have kb := hk _ b0 (by omega)
  by_cases same : lp (tl e) = lp (hd e)
  · have mu : mut2 r (tl e) (hd e) := ((hn _ _ a0 a1 b0 b1).mp same).elim (fun q => absurd q ne) (fun q => q)
    have ceq : cnb (fun w => bit (r (tl e)) w ∨ w = tl e) n.toNat = cnb (fun w => bit (r (hd e)) w ∨ w = hd e) n.toNat := by
      have l1 := cnb_mono (P := fun w => bit (r (tl e)) w ∨ w = tl e) (Q := fun w => bit (r (hd e)) w ∨ w = hd e) n.toNat (fun w w0 w1 q => q.elim (fun z => Or.inl (hw _ a0 a1 a1 _ w b0 b1 w0 (by omega) mu.2 z)) (fun z => Or.inl (by rw [z]; exact mu.2)))
      have l2 := cnb_mono (P := fun w => bit (r (hd e)) w ∨ w = hd e) (Q := fun w => bit (r (tl e)) w ∨ w = tl e) n.toNat (fun w w0 w1 q => q.elim (fun z => Or.inl (hw _ b0 b1 b1 _ w a0 a1 w0 (by omega) mu.1 z)) (fun z => Or.inl (by rw [z]; exact mu.1)))
      omega
    have rne := hr _ _ a0 a1 b0 b1 ne same
    show rk (upE tl hd tu e) - 32 * cnb (fun w => bit (r (upE tl hd tu e)) w ∨ w = upE tl hd tu e) n.toNat < rk (loE tl hd tu e) - 32 * cnb (fun w => bit (r (loE tl hd tu e)) w ∨ w = loE tl hd tu e) n.toNat
    by_cases t : tu e = 0
    · have : ¬ rk (hd e) < rk (tl e) := fun q => (ht e e0 e1).mpr ⟨same, q⟩ t
      unfold upE loE; rw [if_pos t, if_pos t, ceq]; omega
    · have := ((ht e e0 e1).mp t).2
      unfold upE loE; rw [if_neg t, if_neg t, ceq]; omega
  · have nm : ¬ bit (r (hd e)) (tl e) := fun q => same ((hn _ _ a0 a1 b0 b1).mpr (Or.inr ⟨lead, q⟩))
    have t : tu e = 0 := by
      apply Classical.byContradiction
      intro q; exact same ((ht e e0 e1).mp q).1
    have c := cnb_more (P := fun w => bit (r (hd e)) w ∨ w = hd e) (Q := fun w => bit (r (tl e)) w ∨ w = tl e) n.toNat (fun w w0 w1 q => q.elim (fun z => Or.inl (hw _ b0 b1 b1 _ w a0 a1 w0 (by omega) lead z)) (fun z => Or.inl (by rw [z]; exact lead))) a0 (by omega) (fun q => q.elim nm (fun z => ne z)) (Or.inr rfl)
    show rk (upE tl hd tu e) - 32 * cnb (fun w => bit (r (upE tl hd tu e)) w ∨ w = upE tl hd tu e) n.toNat < rk (loE tl hd tu e) - 32 * cnb (fun w => bit (r (loE tl hd tu e)) w ∨ w = loE tl hd tu e) n.toNat
    unfold upE loE; rw [if_pos t, if_pos t]; omega
