section
/-! what leads to what (bits), strong parts, a potential of the edges -/
def TRn (r : Int → Int) (n a : Int) : Prop := ∀ i j, 0 ≤ i → i < n → 0 ≤ j → j < 32 → bit (r i) a → bit (r a) j → bit (r i) j
def WKn (r : Int → Int) (n k : Int) : Prop := ∀ a, 0 ≤ a → a < k → a < n → TRn r n a
def WIn (r : Int → Int) (n k i : Int) : Prop := ∃ r0 : Int → Int, WKn r0 n k ∧ 0 ≤ k ∧ k < n ∧ 0 ≤ i ∧ (∀ i_zq, 0 ≤ i_zq → i_zq < n → i_zq < i → ∀ j, 0 ≤ j → j < 32 → (bit (r i_zq) j ↔ bit (r0 i_zq) j ∨ (bit (r0 i_zq) k ∧ bit (r0 k) j))) ∧ ∀ i_zq, i ≤ i_zq → i_zq < n → r i_zq = r0 i_zq
theorem win_row {r : Int → Int} {n k i : Int} (h : WIn r n k i) (n32 : n ≤ 32) : ∃ r0 : Int → Int, (∀ j, 0 ≤ j → j < 32 → (bit (r k) j ↔ bit (r0 k) j)) ∧ WKn r0 n k ∧ 0 ≤ k ∧ k < n ∧ 0 ≤ i ∧ (∀ i_zq, 0 ≤ i_zq → i_zq < n → i_zq < i → ∀ j, 0 ≤ j → j < 32 → (bit (r i_zq) j ↔ bit (r0 i_zq) j ∨ (bit (r0 i_zq) k ∧ bit (r0 k) j))) ∧ ∀ i_zq, i ≤ i_zq → i_zq < n → r i_zq = r0 i_zq := by
  obtain ⟨r0, h1, h2, h3, h4, h5, h6⟩ := h
  refine ⟨r0, fun j j0 j1 => ?_, h1, h2, h3, h4, h5, h6⟩
  by_cases c : k < i
  · rw [h5 k h2 h3 c j j0 j1]
    exact ⟨fun q => q.elim (fun z => z) (fun z => z.2), fun q => Or.inl q⟩
  · rw [h6 k (by omega) h3]
theorem win_start {r : Int → Int} {n k i : Int} (h : WKn r n k) (k0 : 0 ≤ k) (k1 : k < n) (hi : i = 0) : WIn r n k i := ⟨r, h, k0, k1, by omega, fun i_zq _ _ c => by omega, fun _ _ _ => rfl⟩
theorem win_skip {r : Int → Int} {n k i i_zq : Int} (h : WIn r n k i) (i1 : i < n) (n32 : n ≤ 32) (hb : ¬ bit (r i) k) (hi : i_zq = i + 1) : WIn r n k i_zq := by
  obtain ⟨r0, h1, h2, h3, h4, h5, h6⟩ := h
  refine ⟨r0, h1, h2, h3, by omega, fun v a b c j j0 j1 => ?_, fun v a b => h6 v (by omega) b⟩
  by_cases e : v = i
  · have := h6 i (Int.le_refl _) i1
    rw [e, this]
    rw [this] at hb
    exact ⟨Or.inl, fun q => q.elim (fun z => z) (fun z => absurd z.1 hb)⟩
  · exact h5 v a b (by omega) j j0 j1
theorem win_step {r r_zq : Int → Int} {n k i i_zq p x y : Int} (h : WIn r n k i) (i1 : i < n) (n32 : n ≤ 32) (hb : bit (r i) k) (hx : bvp x = bvp (r i) ||| bvp y) (hy : y = r k) (hs : st1 r r_zq p x) (hp : p = i) (hi : i_zq = i + 1) : WIn r_zq n k i_zq := by
  obtain ⟨r0, hk, h1, h2, h3, h4, h5, h6⟩ := win_row h n32
  refine ⟨r0, h1, h2, h3, by omega, fun v a b c j j0 j1 => ?_, fun v a b => ?_⟩
  · by_cases e : v = i
    · have q := h6 i (Int.le_refl _) i1
      rw [(hs v a).1 (by omega), bit_or hx, hy, hk j j0 j1, e, ← q]
      exact ⟨fun z => z.elim Or.inl (fun w => Or.inr ⟨hb, w⟩), fun z => z.elim Or.inl (fun w => Or.inr w.2)⟩
    · rw [(hs v a).2 (by omega)]; exact h5 v a b (by omega) j j0 j1
  · rw [(hs v (by omega)).2 (by omega)]; exact h6 v (by omega) b
theorem wkn_next {r : Int → Int} {n k k_zq i : Int} (h : WIn r n k i) (hi : n ≤ i) (n32 : n ≤ 32) (hk : k_zq = k + 1) : WKn r n k_zq := by
  obtain ⟨r0, h1, h2, h3, h4, h5, h6⟩ := h
  have R : ∀ i_zq, 0 ≤ i_zq → i_zq < n → ∀ j, 0 ≤ j → j < 32 → (bit (r i_zq) j ↔ bit (r0 i_zq) j ∨ (bit (r0 i_zq) k ∧ bit (r0 k) j)) := fun i_zq a b j j0 j1 => h5 i_zq a b (by omega) j j0 j1
  intro a a0 a1 a2 u j u0 u1 j0 j1 p q
  rw [R u u0 u1 a a0 (by omega)] at p
  rw [R a a0 a2 j j0 j1] at q
  rw [R u u0 u1 j j0 j1]
  by_cases e : a = k
  · subst e
    have p_zq : bit (r0 u) a := p.elim (fun z => z) (fun z => z.1)
    have q_zq : bit (r0 a) j := q.elim (fun z => z) (fun z => z.2)
    exact Or.inr ⟨p_zq, q_zq⟩
  · have T := h1 a a0 (by omega) a2
    rcases p with p | ⟨p, p_zq⟩
    · rcases q with q | ⟨q, q_zq⟩
      · exact Or.inl (T u j u0 u1 j0 j1 p q)
      · exact Or.inr ⟨T u k u0 u1 h2 (by omega) p q, q_zq⟩
    · rcases q with q | ⟨q, q_zq⟩
      · exact Or.inr ⟨p, T k j h2 h3 j0 j1 p_zq q⟩
      · exact Or.inr ⟨p, q_zq⟩
theorem wkn_start {r : Int → Int} {n k : Int} (hk : k = 0) : WKn r n k := fun a a0 a1 => by omega
/-- edges lead from tail to head -/
def ERC (m : Int) (r tl hd : Int → Int) : Prop := ∀ e, 0 ≤ e → e < m → bit (r (tl e)) (hd e)
theorem erc_or {m p x y z : Int} {r r_zq tl hd : Int → Int} (h : ERC m r tl hd) (hx : bvp x = bvp z ||| bvp y) (hz : z = r p) (hs : st1 r r_zq p x) (ht : ∀ e, 0 ≤ e → e < m → 0 ≤ tl e) : ERC m r_zq tl hd := fun e e0 e1 => by
  by_cases c : tl e = p
  · rw [(hs _ (ht e e0 e1)).1 c, bit_or hx, hz, ← c]; exact Or.inl (h e e0 e1)
  · rw [(hs _ (ht e e0 e1)).2 c]; exact h e e0 e1
/-! labels of strong parts -/
def mut2 (r : Int → Int) (u v : Int) : Prop := bit (r u) v ∧ bit (r v) u
def NBI (n : Int) (r nb : Int → Int) (i ct : Int) : Prop := 0 ≤ i ∧ 0 ≤ ct ∧ (∀ v, 0 ≤ v → v < n → nb v = -1 ∨ (0 ≤ nb v ∧ nb v < ct)) ∧ (∀ v, 0 ≤ v → v < i → v < n → nb v ≠ -1) ∧ (∀ u v, 0 ≤ u → u < n → 0 ≤ v → v < n → nb u ≠ -1 → nb v ≠ -1 → (nb u = nb v ↔ u = v ∨ mut2 r u v)) ∧ ∀ u v, 0 ≤ u → u < n → 0 ≤ v → v < n → nb u ≠ -1 → mut2 r u v → nb v ≠ -1
def NBJ (n : Int) (r nb : Int → Int) (i j ct : Int) : Prop := ∃ b0 : Int → Int, NBI n r b0 i ct ∧ 0 ≤ i ∧ i < n ∧ i < j ∧ b0 i = -1 ∧ nb i = ct ∧ ∀ v, 0 ≤ v → v < n → v ≠ i → (mut2 r i v → v < j → nb v = ct) ∧ (¬ (mut2 r i v ∧ v < j) → nb v = b0 v)
def NBP (n : Int) (r nb : Int → Int) : Prop := ∀ u v, 0 ≤ u → u < n → 0 ≤ v → v < n → (nb u = nb v ↔ u = v ∨ mut2 r u v)
theorem nbi_start {n i ct : Int} {r nb : Int → Int} (hi : i = 0) (hc : ct = 0) (h : ∀ v, 0 ≤ v → v < n → nb v = -1) : NBI n r nb i ct := ⟨by omega, by omega, fun v a b => Or.inl (h v a b), fun v a b => by omega, fun u v a b _ _ q => absurd (h u a b) q, fun u v a b _ _ q => absurd (h u a b) q⟩
theorem nbi_skip {n i i_zq ct : Int} {r nb : Int → Int} (h : NBI n r nb i ct) (hn : nb i ≠ -1) (hi : i_zq = i + 1) : NBI n r nb i_zq ct := by
  obtain ⟨h1, h2, h3, h4, h5, h6⟩ := h
  exact ⟨by omega, h2, h3, fun v a b c => by by_cases e : v = i; rw [e]; exact hn; exact h4 v a (by omega) c, h5, h6⟩
theorem nbj_start {n i j ct p x : Int} {r nb nb_zq : Int → Int} (h : NBI n r nb i ct) (i1 : i < n) (hn : nb i = -1) (hs : st1 nb nb_zq p x) (hp : p = i) (hx : x = ct) (hj : j = i + 1) : NBJ n r nb_zq i j ct := by
  refine ⟨nb, h, h.1, i1, by omega, hn, by rw [(hs i h.1).1 (by omega)]; exact hx, fun v a b c => ⟨fun m l => ?_, fun _ => (hs v a).2 (by omega)⟩⟩
  exact absurd hn (h.2.2.2.2.2 v i a b h.1 i1 (h.2.2.2.1 v a (by omega) b) ⟨m.2, m.1⟩)
theorem nbj_skip {n i j j_zq ct : Int} {r nb : Int → Int} (h : NBJ n r nb i j ct) (hb : ¬ mut2 r i j) (hj : j_zq = j + 1) : NBJ n r nb i j_zq ct := by
  obtain ⟨b0, h1, h2, h3, h4, h5, h6, h7⟩ := h
  refine ⟨b0, h1, h2, h3, by omega, h5, h6, fun v a b c => ⟨fun m l => ?_, fun q => (h7 v a b c).2 (fun z => q ⟨z.1, by omega⟩)⟩⟩
  by_cases e : v = j
  · rw [e] at m; exact absurd m hb
  · exact (h7 v a b c).1 m (by omega)
theorem nbj_step {n i j j_zq ct p x : Int} {r nb nb_zq : Int → Int} (h : NBJ n r nb i j ct) (hb : mut2 r i j) (hs : st1 nb nb_zq p x) (hp : p = j) (hx : x = ct) (hj : j_zq = j + 1) : NBJ n r nb_zq i j_zq ct := by
  obtain ⟨b0, h1, h2, h3, h4, h5, h6, h7⟩ := h
  refine ⟨b0, h1, h2, h3, by omega, h5, by rw [(hs i h2).2 (by omega)]; exact h6, fun v a b c => ⟨fun m l => ?_, fun q => ?_⟩⟩
  · by_cases e : v = j
    · rw [(hs v a).1 (by omega)]; exact hx
    · rw [(hs v a).2 (by omega)]; exact (h7 v a b c).1 m (by omega)
  · have e : v ≠ j := fun e => q ⟨by rw [e]; exact hb, by omega⟩
    rw [(hs v a).2 (by omega)]; exact (h7 v a b c).2 (fun z => q ⟨z.1, by omega⟩)
theorem nbi_next {n i i_zq j ct ct_zq : Int} {r nb : Int → Int} (h : NBJ n r nb i j ct) (hj : n ≤ j) (n32 : n ≤ 32) (hw : WKn r n n) (hi : i_zq = i + 1) (hc : ct_zq = ct + 1) : NBI n r nb i_zq ct_zq := by
  obtain ⟨b0, ⟨a1, a2, a3, a4, a5, a6⟩, h2, h3, h4, h5, h6, h7⟩ := h
  have tr : ∀ u v w, 0 ≤ u → u < n → 0 ≤ v → v < n → 0 ≤ w → w < n → mut2 r u v → mut2 r v w → mut2 r u w := fun u v w u0 u1 v0 v1 w0 w1 p q => ⟨hw v v0 v1 v1 u w u0 u1 w0 (by omega) p.1 q.1, hw v v0 v1 v1 w u w0 w1 u0 (by omega) q.2 p.2⟩
  have sy : ∀ u v, mut2 r u v → mut2 r v u := fun u v q => ⟨q.2, q.1⟩
  -- the class of i, and the rest
  have inn : ∀ v, 0 ≤ v → v < n → (v = i ∨ mut2 r i v) → nb v = ct := fun v a b c => by
    by_cases e : v = i
    · rw [e]; exact h6
    · rcases c with c | c
      · exact absurd c e
      · exact (h7 v a b e).1 c (by omega)
  have out : ∀ v, 0 ≤ v → v < n → ¬ (v = i ∨ mut2 r i v) → nb v = b0 v := fun v a b c => (h7 v a b (fun e => c (Or.inl e))).2 (fun z => c (Or.inr z.1))
  have b0n : ∀ v, 0 ≤ v → v < n → b0 v ≠ ct := fun v a b => by rcases a3 v a b with q | q <;> omega
  have cl : ∀ v, 0 ≤ v → v < n → (v = i ∨ mut2 r i v) → b0 v = -1 := fun v a b c => by
    rcases c with c | c
    · rw [c]; exact h5
    · apply Classical.byContradiction
      intro q
      exact a6 v i a b h2 h3 q (sy _ _ c) h5
  refine ⟨by omega, by omega, fun v a b => ?_, fun v a b c => ?_, fun u v u0 u1 v0 v1 pu pv => ?_, fun u v u0 u1 v0 v1 pu m => ?_⟩
  · by_cases c : v = i ∨ mut2 r i v
    · rw [inn v a b c]; omega
    · rw [out v a b c]; rcases a3 v a b with q | q
      · exact Or.inl q
      · exact Or.inr ⟨q.1, by omega⟩
  · by_cases d : v = i ∨ mut2 r i v
    · rw [inn v a c d]; omega
    · rw [out v a c d]; exact a4 v a (by omega) c
  · by_cases c : u = i ∨ mut2 r i u
    · by_cases d : v = i ∨ mut2 r i v
      · rw [inn u u0 u1 c, inn v v0 v1 d]
        refine ⟨fun _ => ?_, fun _ => rfl⟩
        rcases c with c | c
        · rcases d with d | d
          · exact Or.inl (by omega)
          · exact Or.inr (by rw [c]; exact d)
        · rcases d with d | d
          · exact Or.inr (by rw [d]; exact sy _ _ c)
          · exact Or.inr (tr u i v u0 u1 h2 h3 v0 v1 (sy _ _ c) d)
      · rw [inn u u0 u1 c, out v v0 v1 d]
        refine ⟨fun e => absurd e.symm (b0n v v0 v1), fun e => absurd ?_ d⟩
        rcases e with e | e
        · rw [← e]; exact c
        · rcases c with c | c
          · rw [← c]; exact Or.inr e
          · exact Or.inr (tr i u v h2 h3 u0 u1 v0 v1 c e)
    · by_cases d : v = i ∨ mut2 r i v
      · rw [out u u0 u1 c, inn v v0 v1 d]
        refine ⟨fun e => absurd e (b0n u u0 u1), fun e => absurd ?_ c⟩
        rcases e with e | e
        · rw [e]; exact d
        · rcases d with d | d
          · rw [← d]; exact Or.inr (sy _ _ e)
          · exact Or.inr (tr i v u h2 h3 v0 v1 u0 u1 d (sy _ _ e))
      · rw [out u u0 u1 c, out v v0 v1 d]
        rw [out u u0 u1 c] at pu
        rw [out v v0 v1 d] at pv
        exact a5 u v u0 u1 v0 v1 pu pv
  · by_cases d : v = i ∨ mut2 r i v
    · rw [inn v v0 v1 d]; omega
    · rw [out v v0 v1 d]
      by_cases c : u = i ∨ mut2 r i u
      · refine absurd ?_ d
        rcases c with c | c
        · rw [← c]; exact Or.inr m
        · exact Or.inr (tr i u v h2 h3 u0 u1 v0 v1 c m)
      · rw [out u u0 u1 c] at pu
        exact a6 u v u0 u1 v0 v1 pu m
theorem nbp_of {n i ct : Int} {r nb : Int → Int} (h : NBI n r nb i ct) (hi : n ≤ i) : NBP n r nb := fun u v u0 u1 v0 v1 => h.2.2.2.2.1 u v u0 u1 v0 v1 (h.2.2.2.1 u u0 (by omega) u1) (h.2.2.2.1 v v0 (by omega) v1)
/-! ranks within strong parts, and the potential -/
def RKP (n : Int) (lp rk : Int → Int) : Prop := ∀ u v, 0 ≤ u → u < n → 0 ≤ v → v < n → u ≠ v → lp u = lp v → rk u ≠ rk v
def TUD (m : Int) (tl hd lp rk tu : Int → Int) : Prop := ∀ e, 0 ≤ e → e < m → (tu e ≠ 0 ↔ lp (tl e) = lp (hd e) ∧ rk (hd e) < rk (tl e))
theorem tpo_rank {n m : Int} {r lp rk tl hd tu : Int → Int} (hg : GKE n m tl hd) (n24 : n ≤ 24) (hw : WKn r n n) (he : ERC m r tl hd) (hn : NBP n r lp) (hr : RKP n lp rk) (hk : ∀ v, 0 ≤ v → v < 24 → 0 ≤ rk v ∧ rk v ≤ 23) (ht : TUD m tl hd lp rk tu) : TPO m tl hd tu := by
  refine ⟨fun v => rk v - 32 * cnb (fun w => bit (r v) w ∨ w = v) n.toNat, fun e e0 e1 => ?_⟩
  obtain ⟨a0, a1, b0, b1, ne⟩ := hg e e0 e1
  have lead := he e e0 e1
  have ka := hk _ a0 (by omega)
  have kb := hk _ b0 (by omega)
  by_cases same : lp (tl e) = lp (hd e)
  · have mu : mut2 r (tl e) (hd e) := ((hn _ _ a0 a1 b0 b1).mp same).elim (fun q => absurd q ne) (fun q => q)
    have ceq : cnb (fun w => bit (r (tl e)) w ∨ w = tl e) n.toNat = cnb (fun w => bit (r (hd e)) w ∨ w = hd e) n.toNat := by
      have l1 := cnb_mono (P := fun w => bit (r (tl e)) w ∨ w = tl e) (Q := fun w => bit (r (hd e)) w ∨ w = hd e) n.toNat (fun w w0 w1 q => q.elim (fun z => Or.inl (hw _ a0 a1 a1 _ w b0 b1 w0 (by omega) mu.2 z)) (fun z => Or.inl (by rw [z]; exact mu.2)))
      have l2 := cnb_mono (P := fun w => bit (r (hd e)) w ∨ w = hd e) (Q := fun w => bit (r (tl e)) w ∨ w = tl e) n.toNat (fun w w0 w1 q => q.elim (fun z => Or.inl (hw _ b0 b1 b1 _ w a0 a1 w0 (by omega) mu.1 z)) (fun z => Or.inl (by rw [z]; exact mu.1)))
      omega
    have rne := hr _ _ a0 a1 b0 b1 ne same
    show rk (upE tl hd tu e) - 32 * cnb (fun w => bit (r (upE tl hd tu e)) w ∨ w = upE tl hd tu e) n.toNat < rk (loE tl hd tu e) - 32 * cnb (fun w => bit (r (loE tl hd tu e)) w ∨ w = loE tl hd tu e) n.toNat
    by_cases t : tu e = 0
    · have : ¬ rk (hd e) < rk (tl e) := fun q => (ht e e0 e1).mpr ⟨same, q⟩ t
      unfold upE loE; rw [if_pos t, if_pos t, ceq]; omega
    · have := ((ht e e0 e1).mp t).2
      unfold upE loE; rw [if_neg t, if_neg t, ceq]; omega
  · have nm : ¬ bit (r (hd e)) (tl e) := fun q => same ((hn _ _ a0 a1 b0 b1).mpr (Or.inr ⟨lead, q⟩))
    have t : tu e = 0 := by
      apply Classical.byContradiction
      intro q; exact same ((ht e e0 e1).mp q).1
    have c := cnb_more (P := fun w => bit (r (hd e)) w ∨ w = hd e) (Q := fun w => bit (r (tl e)) w ∨ w = tl e) n.toNat (fun w w0 w1 q => q.elim (fun z => Or.inl (hw _ b0 b1 b1 _ w a0 a1 w0 (by omega) lead z)) (fun z => Or.inl (by rw [z]; exact lead))) a0 (by omega) (fun q => q.elim nm (fun z => ne z)) (Or.inr rfl)
    show rk (upE tl hd tu e) - 32 * cnb (fun w => bit (r (upE tl hd tu e)) w ∨ w = upE tl hd tu e) n.toNat < rk (loE tl hd tu e) - 32 * cnb (fun w => bit (r (loE tl hd tu e)) w ∨ w = loE tl hd tu e) n.toNat
    unfold upE loE; rw [if_pos t, if_pos t]; omega
end
section
/-! orders of small strong parts: least sums, one of them is met at every place -/
def wO (lk tl wt : Int → Int) (a b : Int) : Int := if lk (a * 24 + b) ≠ -1 ∧ tl (lk (a * 24 + b)) = a then wt (lk (a * 24 + b)) else 0
def WOX (tl wt lk : Int → Int) (a b an : Int) : Prop := an = wO lk tl wt a b
noncomputable def caT (mb lk tl wt : Int → Int) (s k j : Int) : Int := @ite Int (j ≠ k ∧ bit s j) (Classical.propDecidable _) (wO lk tl wt (mb j) (mb k)) 0
noncomputable def CAv (ls mb lk tl wt : Int → Int) (s k cn : Int) : Int := ls (s - 2 ^ k.toNat) + sm (caT mb lk tl wt s k) cn
theorem caT_in {mb lk tl wt : Int → Int} {s k j : Int} (h : j ≠ k) (hb : bit s j) : caT mb lk tl wt s k j = wO lk tl wt (mb j) (mb k) := by unfold caT; rw [if_pos ⟨h, hb⟩]
theorem caT_out {mb lk tl wt : Int → Int} {s k j : Int} (h : ¬ (j ≠ k ∧ bit s j)) : caT mb lk tl wt s k j = 0 := by unfold caT; rw [if_neg h]
/-- a bit taken out -/
theorem del_bit {s k x q r m1 : Int} (s0 : 0 ≤ s) (s1 : s ≤ 127) (k0 : 0 ≤ k) (k1 : k < 7) (hb : bit s k) (hq : bvp q = bvp 1 <<< k.toNat) (hr : bvp r = bvp q ^^^ bvp m1) (hm : m1 = -1) (hx : bvp x = bvp s &&& bvp r) (x0 : 0 ≤ x) (x1 : x ≤ 127) : x = s - 2 ^ k.toNat ∧ 0 ≤ s - 2 ^ k.toNat ∧ s - 2 ^ k.toNat < s := by
  have key : ∀ a : Nat, a < 128 → ∀ b : Nat, b < 7 → (BitVec.ofInt 32 (a : Int)).getLsbD b = true → (BitVec.ofInt 32 (a : Int)) &&& ((BitVec.ofInt 32 1 <<< b) ^^^ BitVec.ofInt 32 (-1)) = BitVec.ofInt 32 ((a : Int) - 2 ^ b) ∧ (0 : Int) ≤ (a : Int) - 2 ^ b ∧ (a : Int) - 2 ^ b < a := by decide +kernel
  have q1 := key s.toNat (by omega) k.toNat (by omega) (by rw [show ((s.toNat : Nat) : Int) = s by omega]; exact hb)
  rw [show ((s.toNat : Nat) : Int) = s by omega] at q1
  have e : BitVec.ofInt 32 x = BitVec.ofInt 32 (s - 2 ^ k.toNat) := by
    have h : BitVec.ofInt 32 x = BitVec.ofInt 32 s &&& ((BitVec.ofInt 32 1 <<< k.toNat) ^^^ BitVec.ofInt 32 (-1)) := by
      have h1 : bvp x = bvp s &&& ((bvp 1 <<< k.toNat) ^^^ bvp (-1)) := by rw [hx, hr, hq, hm]
      exact h1
    rw [h]; exact q1.1
  have t : ∀ z : Int, 0 ≤ z → z ≤ 127 → (BitVec.ofInt 32 z).toInt = z := fun z z0 z1 => by
    rw [BitVec.toInt_ofInt]; unfold Int.bmod; simp only; split <;> omega
  have a := t x x0 x1
  have b := t (s - 2 ^ k.toNat) q1.2.1 (by have := q1.2.2; omega)
  rw [e, b] at a
  exact ⟨a.symm, q1.2.1, q1.2.2⟩
theorem wO_rng {lk tl wt : Int → Int} {a b : Int} (hw : ∀ j, 0 ≤ j → j < 48 → 0 ≤ wt j ∧ wt j ≤ 9) (hl : ∀ j, 0 ≤ j → j < 576 → -1 ≤ lk j ∧ lk j ≤ 47) (a0 : 0 ≤ a) (a1 : a < 24) (b0 : 0 ≤ b) (b1 : b < 24) : 0 ≤ wO lk tl wt a b ∧ wO lk tl wt a b ≤ 9 := by
  unfold wO
  split
  · rename_i c
    have := hl (a * 24 + b) (by omega) (by omega)
    exact hw _ (by have := c.1; omega) (by omega)
  · omega
/-- the sum while it is made -/
def CAI (ls mb tl wt lk : Int → Int) (s k j c : Int) : Prop := 0 ≤ j ∧ c = ls (s - 2 ^ k.toNat) + sm (caT mb lk tl wt s k) j
def CAP (ls mb tl wt lk : Int → Int) (s k cn an : Int) : Prop := an = CAv ls mb lk tl wt s k cn
theorem cai_start {ls mb tl wt lk : Int → Int} {s k j c x : Int} (hx : x = s - 2 ^ k.toNat) (hc : c = ls x) (hj : j = 0) : CAI ls mb tl wt lk s k j c := by
  subst hj
  exact ⟨by omega, by rw [sm_zero (Int.le_refl 0), hc, hx]; omega⟩
theorem cai_skip {ls mb tl wt lk : Int → Int} {s k j j_zq c : Int} (h : CAI ls mb tl wt lk s k j c) (hn : ¬ (j ≠ k ∧ bit s j)) (hj : j_zq = j + 1) : CAI ls mb tl wt lk s k j_zq c := ⟨by have := h.1; omega, by rw [sm_succ h.1 hj, caT_out hn]; have := h.2; omega⟩
theorem cai_step {ls mb tl wt lk : Int → Int} {s k j j_zq c c_zq a b w : Int} (h : CAI ls mb tl wt lk s k j c) (hn : j ≠ k) (hb : bit s j) (ha : a = mb j) (hb_zq : b = mb k) (hw : WOX tl wt lk a b w) (hc : c_zq = c + w) (hj : j_zq = j + 1) : CAI ls mb tl wt lk s k j_zq c_zq := ⟨by have := h.1; omega, by rw [sm_succ h.1 hj, caT_in hn hb, ← ha, ← hb_zq, ← hw]; have := h.2; omega⟩
theorem cap_of {ls mb tl wt lk : Int → Int} {s k j c cn an : Int} (h : CAI ls mb tl wt lk s k j c) (hj : cn ≤ j) (hj2 : j ≤ cn) (ha : an = c) : CAP ls mb tl wt lk s k cn an := by
  unfold CAP CAv; rw [show cn = j by omega, ha]; exact h.2
/-- kinds of what is summed -/
def wkd (mb tl wt lk : Int → Int) (cn : Int) : Prop := (∀ j, 0 ≤ j → j < 48 → 0 ≤ wt j ∧ wt j ≤ 9) ∧ (∀ j, 0 ≤ j → j < 576 → -1 ≤ lk j ∧ lk j ≤ 47) ∧ 0 ≤ cn ∧ cn ≤ 7 ∧ ∀ j, 0 ≤ j → j < cn → 0 ≤ mb j ∧ mb j < 24
theorem caT_sum {mb tl wt lk : Int → Int} {s k cn : Int} (h : wkd mb tl wt lk cn) (k0 : 0 ≤ k) (k1 : k < cn) : 0 ≤ sm (caT mb lk tl wt s k) cn ∧ sm (caT mb lk tl wt s k) cn ≤ 63 := by
  have := smrg (f := caT mb lk tl wt s k) (lo := 0) (hi := 9) h.2.2.1 (fun j a b => by
    by_cases c : j ≠ k ∧ bit s j
    · rw [caT_in c.1 c.2]
      have p := h.2.2.2.2 j a b; have q := h.2.2.2.2 k k0 k1
      exact wO_rng h.1 h.2.1 p.1 p.2 q.1 q.2
    · rw [caT_out c]; omega)
  have := h.2.2.2.1
  omega
/-- least sums are met -/
def LSO (ls mb tl wt lk : Int → Int) (S cn : Int) : Prop := wkd mb tl wt lk cn ∧ ∀ s, 0 ≤ s → s < S → 0 ≤ ls s ∧ ls s ≤ 63 * cnb (bit s) 7 ∧ (1 ≤ s → ∃ k, 0 ≤ k ∧ k < cn ∧ bit s k ∧ ls s = CAv ls mb lk tl wt s k cn)
def LSJ (ls mb tl wt lk : Int → Int) (S cn k : Int) : Prop := LSO ls mb tl wt lk S cn ∧ 1 ≤ S ∧ S < 2 ^ cn.toNat ∧ 0 ≤ k ∧ ((ls S = 1000000 ∧ ∀ j, 0 ≤ j → j < k → ¬ bit S j) ∨ ∃ j, 0 ≤ j ∧ j < k ∧ j < cn ∧ bit S j ∧ ls S = CAv ls mb lk tl wt S j cn ∧ 0 ≤ ls S ∧ ls S ≤ 63 * cnb (bit S) 7)
theorem pow7 {cn : Int} (h0 : 0 ≤ cn) (h1 : cn ≤ 7) : (1 : Int) ≤ 2 ^ cn.toNat ∧ (2 : Int) ^ cn.toNat ≤ 128 := by
  have : cn = 0 ∨ cn = 1 ∨ cn = 2 ∨ cn = 3 ∨ cn = 4 ∨ cn = 5 ∨ cn = 6 ∨ cn = 7 := by omega
  rcases this with e | e | e | e | e | e | e | e <;> subst e <;> decide
theorem lso_start {ls ls_zq mb tl wt lk : Int → Int} {S cn p x : Int} (hw : wkd mb tl wt lk cn) (hs : st1 ls ls_zq p x) (hp : p = 0) (hx : x = 0) (hS : S = 1) : LSO ls_zq mb tl wt lk S cn := ⟨hw, fun s a b => by
  have e : s = 0 := by omega
  rw [(hs s a).1 (by omega)]
  have := (cnb_le (bit s) 7).1
  exact ⟨by omega, by omega, fun q => by omega⟩⟩
/-- a store beyond what a sum looks at leaves it -/
theorem cav_keep {ls ls_zq mb tl wt lk : Int → Int} {s k cn p x S : Int} (hs : st1 ls ls_zq p x) (hp : p = S) (h0 : 0 ≤ s - 2 ^ k.toNat) (h1 : s - 2 ^ k.toNat < S) : CAv ls_zq mb lk tl wt s k cn = CAv ls mb lk tl wt s k cn := by
  unfold CAv; rw [(hs _ h0).2 (by omega)]
theorem sub_bit {s k : Int} (s0 : 0 ≤ s) (s1 : s ≤ 127) (k0 : 0 ≤ k) (k1 : k < 7) (hb : bit s k) : 0 ≤ s - 2 ^ k.toNat ∧ s - 2 ^ k.toNat < s ∧ cnb (bit (s - 2 ^ k.toNat)) 7 + 1 ≤ cnb (bit s) 7 := by
  have key : ∀ a : Nat, a < 128 → ∀ b : Nat, b < 7 → a.testBit b = true → (2 ^ b ≤ a ∧ cnN (a - 2 ^ b) 7 + 1 ≤ cnN a 7) := by decide +kernel
  have hb_zq : s.toNat.testBit k.toNat = true := (bit_nat s0 k0 (by omega)).mp hb
  have q := key s.toNat (by omega) k.toNat (by omega) hb_zq
  have p : ((2 ^ k.toNat : Nat) : Int) = 2 ^ k.toNat := by push_cast; rfl
  have pp : (1 : Int) ≤ 2 ^ k.toNat := by rw [← p]; have := Nat.one_le_two_pow (n := k.toNat); omega
  have le : (2 : Int) ^ k.toNat ≤ s := by rw [← p]; omega
  refine ⟨by omega, by omega, ?_⟩
  rw [cnN_is (by omega) 7 (by omega), cnN_is s0 7 (by omega)]
  have e : (s - 2 ^ k.toNat).toNat = s.toNat - 2 ^ k.toNat := by rw [← p]; omega
  rw [e]; omega
theorem lso_keep {ls ls_zq mb tl wt lk : Int → Int} {S cn p x : Int} (h : LSO ls mb tl wt lk S cn) (S1 : S ≤ 128) (hs : st1 ls ls_zq p x) (hp : p = S) : LSO ls_zq mb tl wt lk S cn := ⟨h.1, fun s a b => by
  obtain ⟨q1, q2, q3⟩ := h.2 s a b
  rw [(hs s a).2 (by omega)]
  refine ⟨q1, q2, fun z => ?_⟩
  obtain ⟨k, k0, k1, k2, k3⟩ := q3 z
  have u := sub_bit a (by omega) k0 (by have := h.1.2.2.2.1; omega) k2
  exact ⟨k, k0, k1, k2, by rw [cav_keep hs hp u.1 (by omega)]; exact k3⟩⟩
theorem lsj_start {ls ls_zq mb tl wt lk : Int → Int} {S cn k p x e : Int} (h : LSO ls mb tl wt lk S cn) (S1 : 1 ≤ S) (hS : S < e) (he : e = 2 ^ cn.toNat) (hs : st1 ls ls_zq p x) (hp : p = S) (hx : x = 1000000) (hk : k = 0) : LSJ ls_zq mb tl wt lk S cn k := by
  have := pow7 h.1.2.2.1 h.1.2.2.2.1
  exact ⟨lso_keep h (by omega) hs hp, S1, by omega, by omega, Or.inl ⟨by rw [(hs S (by omega)).1 (by omega)]; exact hx, fun j a b => by omega⟩⟩
theorem lsj_skip {ls mb tl wt lk : Int → Int} {S cn k k_zq : Int} (h : LSJ ls mb tl wt lk S cn k) (hb : ¬ bit S k) (hk : k_zq = k + 1) : LSJ ls mb tl wt lk S cn k_zq := by
  obtain ⟨h1, h2, h3, h4, h5⟩ := h
  refine ⟨h1, h2, h3, by omega, ?_⟩
  rcases h5 with ⟨a, b⟩ | ⟨j, j0, j1, j2⟩
  · exact Or.inl ⟨a, fun j j0 j1 => by by_cases e : j = k; rw [e]; exact hb; exact b j j0 (by omega)⟩
  · exact Or.inr ⟨j, j0, by omega, j2⟩
theorem lsj_step {ls ls_zq mb tl wt lk : Int → Int} {S cn k k_zq p x y z : Int} (h : LSJ ls mb tl wt lk S cn k) (hk : k < cn) (hb : bit S k) (hy : y = ls S) (hz : CAP ls mb tl wt lk S k cn z) (h1 : x ≤ y) (h2 : x ≤ z) (h3 : x = y ∨ x = z) (hs : st1 ls ls_zq p x) (hp : p = S) (hk_zq : k_zq = k + 1) : LSJ ls_zq mb tl wt lk S cn k_zq := by
  obtain ⟨a1, a2, a3, a4, a5⟩ := h
  have pw := pow7 a1.1.2.2.1 a1.1.2.2.2.1
  have c7 := a1.1.2.2.2.1
  have u := sub_bit (s := S) (by omega) (by omega) a4 (by omega) hb
  have v := a1.2 (S - 2 ^ k.toNat) u.1 (by omega)
  have sm_zq := caT_sum (s := S) a1.1 a4 hk
  have zb : 0 ≤ z ∧ z ≤ 63 * cnb (bit S) 7 := by unfold CAP CAv at hz; omega
  have c8 := (cnb_le (bit S) 7).2
  have kp : ∀ j, 0 ≤ j → j < cn → bit S j → CAv ls_zq mb lk tl wt S j cn = CAv ls mb lk tl wt S j cn := fun j j0 j1 j2 => by
    have w := sub_bit (s := S) (by omega) (by omega) j0 (by omega) j2
    exact cav_keep hs hp w.1 (by omega)
  have lS : ls_zq S = x := (hs S (by omega)).1 (by omega)
  refine ⟨lso_keep a1 (by omega) hs hp, a2, a3, by omega, Or.inr ?_⟩
  have viaZ : x = z → ∃ j, 0 ≤ j ∧ j < k_zq ∧ j < cn ∧ bit S j ∧ ls_zq S = CAv ls_zq mb lk tl wt S j cn ∧ 0 ≤ ls_zq S ∧ ls_zq S ≤ 63 * cnb (bit S) 7 := fun e => ⟨k, a4, by omega, hk, hb, by rw [lS, kp k a4 hk hb, e]; exact hz, by rw [lS]; omega, by rw [lS]; omega⟩
  rcases a5 with ⟨b1, b2⟩ | ⟨j, j0, j1, j1_zq, j2, j3, j4, j5⟩
  · exact viaZ (by clear viaZ v kp b2; omega)
  · rcases h3 with e | e
    · clear viaZ v
      exact ⟨j, j0, by omega, j1_zq, j2, by rw [lS, kp j j0 j1_zq j2]; omega, by rw [lS]; omega, by rw [lS]; omega⟩
    · exact viaZ e
theorem bit_below {s cn : Int} (s0 : 1 ≤ s) (s1 : s < 2 ^ cn.toNat) (c0 : 0 ≤ cn) (c7 : cn ≤ 7) : ∃ k, 0 ≤ k ∧ k < cn ∧ bit s k := by
  obtain ⟨w, w0, w1, w2⟩ := bit_ex (x := s) (by omega) (by have := pow7 c0 c7; omega)
  have := bit_lt (k := cn.toNat) (by omega) s1 w0 w1 w2
  exact ⟨w, w0, by omega, w2⟩
theorem lso_next {ls mb tl wt lk : Int → Int} {S S_zq cn k : Int} (h : LSJ ls mb tl wt lk S cn k) (hk : cn ≤ k) (hS : S_zq = S + 1) : LSO ls mb tl wt lk S_zq cn := by
  obtain ⟨a1, a2, a3, a4, a5⟩ := h
  refine ⟨a1.1, fun s s0 s1 => ?_⟩
  by_cases e : s = S
  · subst e
    rcases a5 with ⟨b1, b2⟩ | ⟨j, j0, j1, j1_zq, j2, j3, j4, j5⟩
    · obtain ⟨w, w0, w1, w2⟩ := bit_below a2 a3 a1.1.2.2.1 a1.1.2.2.2.1
      exact absurd w2 (b2 w w0 (by omega))
    · exact ⟨j4, j5, fun _ => ⟨j, j0, j1_zq, j2, j3⟩⟩
  · exact a1.2 s s0 (by omega)
/-! places are given one by one -/
theorem cnb_drop {P Q : Int → Prop} (k : Nat) {x : Int} (h : ∀ j : Int, 0 ≤ j → j < k → P j → j = x ∨ Q j) : cnb P k ≤ cnb Q k + 1 := by
  induction k with
  | zero => show (0 : Int) ≤ 0 + 1; omega
  | succ k ih =>
    by_cases e : (k : Int) = x
    · have m := cnb_mono (P := P) (Q := Q) k (fun j a b q => (h j a (by push_cast; omega) q).elim (fun z => by omega) (fun z => z))
      by_cases p : P (k : Int)
      · rw [cnb_pos p]
        by_cases q : Q (k : Int)
        · rw [cnb_pos q]; omega
        · rw [cnb_neg q]; omega
      · rw [cnb_neg p]
        by_cases q : Q (k : Int)
        · rw [cnb_pos q]; omega
        · rw [cnb_neg q]; omega
    · have i1 := ih (fun j a b => h j a (by push_cast; omega))
      by_cases p : P (k : Int)
      · have q : Q (k : Int) := (h k (by omega) (by push_cast; omega) p).elim (fun z => absurd z e) (fun z => z)
        rw [cnb_pos p, cnb_pos q]; omega
      · rw [cnb_neg p]
        by_cases q : Q (k : Int)
        · rw [cnb_pos q]; omega
        · rw [cnb_neg q]; omega
def OSI (rk mb : Int → Int) (lf pl cn : Int) : Prop := MGD mb cn ∧ cn ≤ 7 ∧ 0 ≤ lf ∧ lf < 2 ^ cn.toNat ∧ 0 ≤ pl ∧ cnb (bit lf) cn.toNat = cn - pl ∧ (∀ k, 0 ≤ k → k < cn → ¬ bit lf k → 0 ≤ rk (mb k) ∧ rk (mb k) < pl) ∧ ∀ k j, 0 ≤ k → k < j → j < cn → ¬ bit lf k → ¬ bit lf j → rk (mb k) ≠ rk (mb j)
theorem osi_start {rk mb : Int → Int} {lf pl cn e : Int} (h : MGD mb cn) (c7 : cn ≤ 7) (he : e = 2 ^ cn.toNat) (hl : lf = e - 1) (hp : pl = 0) : OSI rk mb lf pl cn := by
  have c0 := h.1
  have p7 := pow7 c0 c7
  have all : ∀ c : Nat, c ≤ 7 → cnN (2 ^ c - 1) c = c ∧ ∀ b : Nat, b < c → (2 ^ c - 1).testBit b = true := by decide +kernel
  have e2 : ((2 ^ cn.toNat : Nat) : Int) = 2 ^ cn.toNat := by push_cast; rfl
  have lt : lf.toNat = 2 ^ cn.toNat - 1 := by omega
  have q := all cn.toNat (by omega)
  have bt : ∀ k, 0 ≤ k → k < cn → bit lf k := fun k k0 k1 => by
    rw [bit_nat (by omega) k0 (by omega), lt]; exact q.2 k.toNat (by omega)
  refine ⟨h, c7, by omega, by omega, by omega, ?_, fun k a b c => absurd (bt k a b) c, fun k j a b c d => absurd (bt k a (by omega)) d⟩
  rw [cnN_is (by omega) cn.toNat (by omega), lt, q.1]; omega
theorem osi_take {rk rk_zq mb : Int → Int} {lf lf_zq pl pl_zq cn k p x y q r m1 : Int} (h : OSI rk mb lf pl cn) (k0 : 0 ≤ k) (k1 : k < cn) (hb : bit lf k) (hs : st1 rk rk_zq p x) (hp : p = y) (hy : y = mb k) (hx : x = pl) (hq : bvp q = bvp 1 <<< k.toNat) (hr : bvp r = bvp q ^^^ bvp m1) (hm : m1 = -1) (hl : bvp lf_zq = bvp lf &&& bvp r) (l0 : 0 ≤ lf_zq) (l1 : lf_zq ≤ 127) (hpl : pl_zq = pl + 1) : OSI rk_zq mb lf_zq pl_zq cn := by
  obtain ⟨a1, a2, a3, a4, a5, a6, a7, a8⟩ := h
  have p7 := pow7 a1.1 a2
  have bl : ∀ w, 0 ≤ w → w < 32 → (bit lf_zq w ↔ bit lf w ∧ w ≠ k) := fun w w0 w1 => by rw [bit_and hl, bit_xor hr hm w0 w1, bit_shl hq rfl k0 w0 w1]
  have d := del_bit a3 (by omega) k0 (by omega) hb hq hr hm hl l0 l1
  have up := cnb_more (P := bit lf_zq) (Q := bit lf) cn.toNat (fun j j0 j1 z => ((bl j j0 (by omega)).mp z).1) k0 (by omega) (fun z => ((bl k k0 (by omega)).mp z).2 rfl) hb
  have dn := cnb_drop (P := bit lf) (Q := bit lf_zq) (x := k) cn.toNat (fun j j0 j1 z => by by_cases e : j = k; exact Or.inl e; exact Or.inr ((bl j j0 (by omega)).mpr ⟨z, e⟩))
  have mne : ∀ j, 0 ≤ j → j < cn → j ≠ k → mb j ≠ mb k := fun j j0 j1 ne => by
    by_cases c : j < k
    · exact a1.2.2 j k j0 c k1
    · exact fun e => a1.2.2 k j k0 (by omega) j1 e.symm
  have rk_k : rk_zq (mb k) = pl := by rw [(hs _ (a1.2.1 k k0 k1).1).1 (by omega)]; exact hx
  have rk_o : ∀ j, 0 ≤ j → j < cn → j ≠ k → rk_zq (mb j) = rk (mb j) := fun j j0 j1 ne => (hs _ (a1.2.1 j j0 j1).1).2 (by have := mne j j0 j1 ne; omega)
  have nb : ∀ j, 0 ≤ j → j < cn → j ≠ k → ¬ bit lf_zq j → ¬ bit lf j := fun j j0 j1 ne z w => z ((bl j j0 (by omega)).mpr ⟨w, ne⟩)
  refine ⟨a1, a2, l0, by omega, by omega, by omega, fun j j0 j1 z => ?_, fun i j i0 ij j1 z w => ?_⟩
  · by_cases e : j = k
    · rw [e, rk_k]; omega
    · rw [rk_o j j0 j1 e]; have := a7 j j0 j1 (nb j j0 j1 e z); omega
  · by_cases e : i = k
    · have f : j ≠ k := by omega
      rw [e, rk_k, rk_o j (by omega) j1 f]; have := a7 j (by omega) j1 (nb j (by omega) j1 f w); omega
    · by_cases f : j = k
      · rw [f, rk_k, rk_o i i0 (by omega) e]; have := a7 i i0 (by omega) (nb i i0 (by omega) e z); omega
      · rw [rk_o i i0 (by omega) e, rk_o j (by omega) j1 f]
        exact a8 i j i0 ij j1 (nb i i0 (by omega) e z) (nb j (by omega) j1 f w)
def OSK (ls rk mb tl wt lk : Int → Int) (lf pl cn k fd : Int) : Prop := LSO ls mb tl wt lk (2 ^ cn.toNat) cn ∧ 0 ≤ k ∧ ((fd = 0 ∧ OSI rk mb lf pl cn ∧ pl < cn ∧ ∀ j, 0 ≤ j → j < k → bit lf j → CAv ls mb lk tl wt lf j cn ≠ ls lf) ∨ (fd = 1 ∧ OSI rk mb lf (pl + 1) cn))
def OSL (ls rk mb tl wt lk : Int → Int) (lf pl cn : Int) : Prop := LSO ls mb tl wt lk (2 ^ cn.toNat) cn ∧ OSI rk mb lf pl cn
theorem osk_start {ls rk mb tl wt lk : Int → Int} {lf pl cn k fd : Int} (h : OSL ls rk mb tl wt lk lf pl cn) (hp : pl < cn) (hk : k = 0) (hf : fd = 0) : OSK ls rk mb tl wt lk lf pl cn k fd := ⟨h.1, by omega, Or.inl ⟨hf, h.2, hp, fun j a b => by omega⟩⟩
theorem osk_skip {ls rk mb tl wt lk : Int → Int} {lf pl cn k k_zq fd : Int} (h : OSK ls rk mb tl wt lk lf pl cn k fd) (hf : fd = 0) (hn : bit lf k → CAv ls mb lk tl wt lf k cn ≠ ls lf) (hk : k_zq = k + 1) : OSK ls rk mb tl wt lk lf pl cn k_zq fd := by
  obtain ⟨h1, h2, h3⟩ := h
  refine ⟨h1, by omega, ?_⟩
  rcases h3 with ⟨a, b, c, d⟩ | ⟨a, b⟩
  · exact Or.inl ⟨a, b, c, fun j j0 j1 z => by by_cases e : j = k; rw [e] at z ⊢; exact hn z; exact d j j0 (by omega) z⟩
  · omega
theorem osl_next {ls rk mb tl wt lk : Int → Int} {lf pl pl_zq cn k fd : Int} (h : OSK ls rk mb tl wt lk lf pl cn k fd) (he : fd ≠ 0 ∨ cn ≤ k) (hp : pl_zq = pl + 1) : OSL ls rk mb tl wt lk lf pl_zq cn := by
  obtain ⟨h1, h2, h3⟩ := h
  rcases h3 with ⟨a, b, c, d⟩ | ⟨a, b⟩
  · exfalso
    have c1 : 1 ≤ lf := by
      apply Classical.byContradiction
      intro q
      have z : lf = 0 := by have := b.2.2.1; omega
      have n0 : cnb (bit lf) cn.toNat ≤ cnb (fun _ => False) cn.toNat := cnb_mono cn.toNat (fun j _ _ w => by rw [z] at w; exact absurd w (bit_zero j))
      have n1 : cnb (fun _ => False) cn.toNat = 0 := by
        have : ∀ k : Nat, cnb (fun _ => False) k = 0 := fun k => by
          induction k with
          | zero => rfl
          | succ k ih => rw [cnb_neg (fun z => z)]; exact ih
        exact this _
      have := b.2.2.2.2.2.1
      omega
    obtain ⟨k, k0, k1, k2, k3⟩ := (h1.2 lf b.2.2.1 b.2.2.2.1).2.2 c1
    exact d k k0 (by rcases he with q | q; exact absurd a q; omega) k2 k3.symm
  · exact ⟨h1, by rw [hp]; exact b⟩
theorem ore_osl {ls rk mb tl wt lk : Int → Int} {lf pl cn : Int} (h : OSL ls rk mb tl wt lk lf pl cn) (hp : cn ≤ pl) : ORE rk mb cn := by
  obtain ⟨_, a1, a2, a3, a4, a5, a6, a7, a8⟩ := h
  have none : ∀ k, 0 ≤ k → k < cn → ¬ bit lf k := fun k k0 k1 z => by
    have c := cnb_more (P := fun _ => False) (Q := bit lf) cn.toNat (fun _ _ _ w => w.elim) k0 (by omega) (fun w => w) z
    have := (cnb_le (fun _ => False) cn.toNat).1
    omega
  exact fun s t s0 st t1 => a8 s t s0 st t1 (none s s0 (by omega)) (none t (by omega) t1)
end
section
/-! what the rows of strong parts and their orders want in the class -/
theorem wox_none {tl wt lk : Int → Int} {a b e an : Int} (he : e = lk (a * 24 + b)) (h : e = -1) (ha : an = 0) : WOX tl wt lk a b an := by unfold WOX wO; rw [if_neg (fun q => q.1 (by omega))]; exact ha
theorem wox_other {tl wt lk : Int → Int} {a b e t an : Int} (he : e = lk (a * 24 + b)) (ht : t = tl e) (h : t ≠ a) (ha : an = 0) : WOX tl wt lk a b an := by unfold WOX wO; rw [if_neg (fun q => by rw [← he] at q; have := q.2; omega)]; exact ha
theorem wox_in {tl wt lk : Int → Int} {a b e t an : Int} (he : e = lk (a * 24 + b)) (h : e ≠ -1) (ht : t = tl e) (h2 : t = a) (ha : an = wt e) : WOX tl wt lk a b an := by unfold WOX wO; rw [if_pos ⟨by omega, by rw [← he]; omega⟩, ← he]; exact ha
theorem shl_pow {e cn : Int} (h : bvp e = bvp 1 <<< cn.toNat) (c0 : 0 ≤ cn) (c7 : cn ≤ 7) (e0 : 0 ≤ e) (e1 : e ≤ 128) : e = 2 ^ cn.toNat := by
  have key : ∀ c : Nat, c ≤ 7 → (BitVec.ofInt 32 1 <<< c) = BitVec.ofInt 32 (2 ^ c) ∧ ((2 : Int) ^ c ≤ 128 ∧ (0 : Int) ≤ 2 ^ c) := by decide +kernel
  have q := key cn.toNat (by omega)
  have t : ∀ z : Int, 0 ≤ z → z ≤ 128 → (BitVec.ofInt 32 z).toInt = z := fun z z0 z1 => by
    rw [BitVec.toInt_ofInt]; unfold Int.bmod; simp only; split <;> omega
  have a := t e e0 e1
  have b := t (2 ^ cn.toNat) q.2.2 q.2.1
  have h_zq : BitVec.ofInt 32 e = BitVec.ofInt 32 1 <<< cn.toNat := h
  rw [h_zq, q.1, b] at a
  exact a.symm
/-- ranks of the parts before this one -/
def RKL (n : Int) (lp rk : Int → Int) (k : Int) : Prop := ∀ u v, 0 ≤ u → u < n → 0 ≤ v → v < n → u ≠ v → lp u = lp v → lp u < k → rk u ≠ rk v
def RKM (rk lp mb : Int → Int) (n k cn : Int) : Prop := RKL n lp rk k ∧ ∀ s, 0 ≤ s → s < cn → 0 ≤ mb s ∧ lp (mb s) = k
theorem rkm_set {rk rk_zq lp mb : Int → Int} {n k cn p x y s : Int} (h : RKM rk lp mb n k cn) (hs : st1 rk rk_zq p x) (hp : p = y) (hy : y = mb s) (s0 : 0 ≤ s) (s1 : s < cn) : RKM rk_zq lp mb n k cn := by
  refine ⟨fun u v u0 u1 v0 v1 ne e l => ?_, h.2⟩
  have m := (h.2 s s0 s1).2
  have nu : u ≠ p := fun z => by rw [z, hp, hy, m] at l; omega
  have nv : v ≠ p := fun z => by rw [e, z, hp, hy, m] at l; omega
  rw [(hs u u0).2 nu, (hs v v0).2 nv]; exact h.1 u v u0 u1 v0 v1 ne e l
theorem rkm_of {n k cn v : Int} {lp rk mb : Int → Int} (h : RKL n lp rk k) (hm : MGI lp mb k v cn) : RKM rk lp mb n k cn := ⟨h, fun s a b => ⟨(hm.2.2.1 s a b).1, (hm.2.2.1 s a b).2.2⟩⟩
theorem rkl_next {n k k_zq cn : Int} {lp rk mb : Int → Int} (h : RKM rk lp mb n k cn) (hm : MGI lp mb k n cn) (ho : ORE rk mb cn) (hk : k_zq = k + 1) : RKL n lp rk k_zq := fun u v u0 u1 v0 v1 ne e l => by
  by_cases c : lp u = k
  · obtain ⟨s, s0, s1, s2⟩ := hm.2.2.2.2 u u0 u1 c
    obtain ⟨t, t0, t1, t2⟩ := hm.2.2.2.2 v v0 v1 (by omega)
    rw [← s2, ← t2]
    by_cases d : s < t
    · exact ho s t s0 d t1
    · have : s ≠ t := fun z => ne (by rw [← s2, ← t2, z])
      exact fun q => ho t s t0 (by omega) s1 q.symm
  · exact h.1 u v u0 u1 v0 v1 ne e (by omega)
theorem rkl_one {n k k_zq cn : Int} {lp rk mb : Int → Int} (h : RKL n lp rk k) (hm : MGI lp mb k n cn) (hc : cn ≤ 1) (hk : k_zq = k + 1) : RKL n lp rk k_zq := fun u v u0 u1 v0 v1 ne e l => by
  by_cases c : lp u = k
  · obtain ⟨s, s0, s1, s2⟩ := hm.2.2.2.2 u u0 u1 c
    obtain ⟨t, t0, t1, t2⟩ := hm.2.2.2.2 v v0 v1 (by omega)
    exact absurd (by rw [← s2, ← t2, show s = t by omega]) ne
  · exact h u v u0 u1 v0 v1 ne e (by omega)
theorem rkl_start {n k : Int} {lp rk : Int → Int} (hk : k = 0) (h : ∀ v, 0 ≤ v → v < n → 0 ≤ lp v) : RKL n lp rk k := fun u v u0 u1 _ _ _ _ l => by have := h u u0 u1; omega
/-- labels are below their number -/
def NBR (nb : Int → Int) (n ct : Int) : Prop := ∀ v, 0 ≤ v → v < n → 0 ≤ nb v ∧ nb v < ct
theorem nbr_of {n i ct an : Int} {r nb : Int → Int} (h : NBI n r nb i ct) (hi : n ≤ i) (ha : an = ct) : NBR nb n an := fun v a b => by
  rcases h.2.2.1 v a b with q | q
  · exact absurd q (h.2.2.2.1 v a (by omega) b)
  · omega
theorem rkp_of {n k ct : Int} {lp rk : Int → Int} (h : RKL n lp rk k) (hn : NBR lp n ct) (hk : ct ≤ k) : RKP n lp rk := fun u v u0 u1 v0 v1 ne e => h u v u0 u1 v0 v1 ne e (by have := hn u u0 u1; omega)
def TUI (tl hd lp rk tu : Int → Int) (e : Int) : Prop := 0 ≤ e ∧ ∀ j, 0 ≤ j → j < e → (tu j ≠ 0 ↔ lp (tl j) = lp (hd j) ∧ rk (hd j) < rk (tl j))
theorem tui_step {tl hd lp rk tu tu_zq : Int → Int} {e e_zq a b x p : Int} (h : TUI tl hd lp rk tu e) (ha : a = tl e) (hb : b = hd e) (hs : st1 tu tu_zq p x) (hp : p = e) (hx : (x = 1 ∧ lp a = lp b ∧ rk b < rk a) ∨ (x = 0 ∧ ¬ (lp a = lp b ∧ rk b < rk a))) (he : e_zq = e + 1) : TUI tl hd lp rk tu_zq e_zq := by
  obtain ⟨h1, h2⟩ := h
  refine ⟨by omega, fun j j0 j1 => ?_⟩
  by_cases c : j = e
  · rw [(hs j j0).1 (by omega), c, ← ha, ← hb]
    rcases hx with ⟨q, r⟩ | ⟨q, r⟩
    · exact ⟨fun _ => r, fun _ => by omega⟩
    · exact ⟨fun z => absurd q z, fun z => absurd z r⟩
  · rw [(hs j j0).2 (by omega)]; exact h2 j j0 (by omega)
/-- names in the order that the class's predicates take -/
def NBA (r nb : Int → Int) (n i ct : Int) : Prop := NBI n r nb i ct
def NBB (r nb : Int → Int) (n i j ct : Int) : Prop := NBJ n r nb i j ct
def NBQ (r nb : Int → Int) (n : Int) : Prop := NBP n r nb
def NBL (n : Int) (r lp : Int → Int) : Prop := NBP n r lp
def ERI (r tl hd : Int → Int) (e : Int) : Prop := 0 ≤ e ∧ ∀ j, 0 ≤ j → j < e → bit (r (tl j)) (hd j)
theorem eri_step {r r_zq tl hd : Int → Int} {e e_zq a b x q p z : Int} (h : ERI r tl hd e) (ha : a = tl e) (hb : b = hd e) (b0 : 0 ≤ b) (b1 : b < 32) (a0 : 0 ≤ a) (hz : z = r a) (hq : bvp q = bvp 1 <<< b.toNat) (hx : bvp x = bvp z ||| bvp q) (hs : st1 r r_zq p x) (hp : p = a) (he : e_zq = e + 1) (ht : ∀ j, 0 ≤ j → j < 48 → 0 ≤ tl j ∧ tl j ≤ 23) (e48 : e < 48) : ERI r_zq tl hd e_zq := by
  obtain ⟨h1, h2⟩ := h
  refine ⟨by omega, fun j j0 j1 => ?_⟩
  have tj := ht j j0 (by omega)
  by_cases d : tl j = p
  · rw [(hs _ tj.1).1 d, bit_or hx]
    by_cases c : j = e
    · rw [c, ← hb, bit_shl hq rfl b0 b0 b1]; exact Or.inr rfl
    · rw [hz, ← hp, ← d]; exact Or.inl (h2 j j0 (by omega))
  · rw [(hs _ tj.1).2 d]
    by_cases c : j = e
    · rw [c, ← ha] at d; exact absurd hp.symm d
    · exact h2 j j0 (by omega)
theorem erc_eri {m e : Int} {r tl hd : Int → Int} (h : ERI r tl hd e) (he : m ≤ e) : ERC m r tl hd := fun j a b => h.2 j a (by omega)
theorem tpo_all {n m e : Int} {r lp rk tl hd tu : Int → Int} (hg : GKE n m tl hd) (n24 : n ≤ 24) (hw : WKn r n n) (he : ERC m r tl hd) (hn : NBL n r lp) (hr : RKP n lp rk) (hk : ∀ v, 0 ≤ v → v < 24 → 0 ≤ rk v ∧ rk v ≤ 23) (ht : TUI tl hd lp rk tu e) (hm : m ≤ e) : TPO m tl hd tu := tpo_rank hg n24 hw he hn hr hk (fun j a b => ht.2 j a (by omega))
def WKG (n : Int) (r : Int → Int) : Prop := WKn r n n
def NBT (n : Int) (lp : Int → Int) (ct : Int) : Prop := NBR lp n ct
def TUJ (lp rk tu tl hd : Int → Int) (e : Int) : Prop := TUI tl hd lp rk tu e
end
section
-- orders of a small layer, at the class's own places
theorem ord_opd2 {od : Int → Int} {n c f k x p : Int} (h : ORD od) (hc : TBC n c) (hf : TBS n f) (hx : x = f + k) (k0 : 0 ≤ k) (k1 : k < c) (n6 : n ≤ 6) (hp : p = od x) (p0 : 0 ≤ p) : OPD p n := ⟨p0, fun i i0 i1 => by
  unfold TBC at hc; unfold TBS at hf
  have q := h n k i (by omega) n6 k0 (by omega) i0 i1
  rw [hp, hx, hf]; exact q⟩
theorem tbc_cap {n v C k : Int} (t : TBC n v) (hn : n ≤ k) (e : cof k = C) : v ≤ C := by
  unfold TBC at t; have := cof_mono hn; omega
theorem pq6_cap {k x s n one : Int} (h : BLe k x) (p : PQ6 x s) (hn : n = s - one) (h1 : one = 1) : n ≤ k - 1 := by
  unfold PQ6 at p; have := h.2.2; omega
theorem ble_del1 {k k_zq x q r y m1 a one : Int} (h : BLe k x) (a0 : 0 ≤ a) (a1 : a < 6) (hb : bit x a) (hq : bvp q = bvp one <<< a.toNat) (h1 : one = 1) (hr : bvp r = bvp q ^^^ bvp m1) (hm : m1 = -1) (hy : bvp y = bvp x &&& bvp r) (y0 : 0 ≤ y) (y1 : y ≤ 63) (hk : k_zq = k - 1) : BLe k_zq y := by
  subst h1; exact ble_del h a0 a1 hb hq hr hm hy y0 y1 hk
theorem ct0_of {ls : Int → Int} {l n c k : Int} (q : TBC n c) (e : n = ls (l + 1) - ls l) (hl : l = 0) (hk : k = c - 1) : CT0 ls k := by
  subst hl; unfold TBC at q; have r := cof_rng n; unfold CT0
  have e_zq : n = ls 1 - ls 0 := e
  rw [← e_zq, ← q]; exact ⟨by omega, by omega⟩
theorem kl0_of {ls : Int → Int} {k : Int} (h : CT0 ls k) (k0 : 0 ≤ k) : KL0 ls k := ⟨k0, by
  have e : (0 : Int) + 1 = 1 := by omega
  rw [e]; exact h.2⟩
-- turned edges
theorem cai_rng {ls mb tl wt lk : Int → Int} {s k j c : Int} (h : CAI ls mb tl wt lk s k j c) (hl : ∀ i, 0 ≤ i → i < 128 → 0 ≤ ls i ∧ ls i ≤ 1000000) (hw : ∀ i, 0 ≤ i → i < 48 → 0 ≤ wt i ∧ wt i ≤ 9) (hk : ∀ i, 0 ≤ i → i < 576 → -1 ≤ lk i ∧ lk i ≤ 47) (hm : ∀ i, 0 ≤ i → i < 24 → 0 ≤ mb i ∧ mb i ≤ 23) (j7 : j ≤ 7) (s0 : 0 ≤ s) (s1 : s ≤ 127) (k0 : 0 ≤ k) (k1 : k < 7) (hb : bit s k) : 0 ≤ c ∧ c ≤ 1000063 := by
  have q := sub_bit s0 s1 k0 k1 hb
  have w := hl (s - 2 ^ k.toNat) q.1 (by omega)
  have r := smrg (f := caT mb lk tl wt s k) (n := j) (lo := 0) (hi := 9) h.1 (fun i a b => by
    by_cases d : i ≠ k ∧ bit s i
    · rw [caT_in d.1 d.2]
      have p := hm i a (by omega); have q := hm k k0 (by omega)
      exact wO_rng hw hk p.1 (by omega) q.1 (by omega)
    · rw [caT_out d]; omega)
  have := h.2
  omega
theorem del_bit1 {s k x q r m1 one : Int} (s0 : 0 ≤ s) (s1 : s ≤ 127) (k0 : 0 ≤ k) (k1 : k < 7) (hb : bit s k) (hq : bvp q = bvp one <<< k.toNat) (h1 : one = 1) (hr : bvp r = bvp q ^^^ bvp m1) (hm : m1 = -1) (hx : bvp x = bvp s &&& bvp r) (x0 : 0 ≤ x) (x1 : x ≤ 127) : x = s - 2 ^ k.toNat := by
  subst h1; exact (del_bit s0 s1 k0 k1 hb hq hr hm hx x0 x1).1
theorem bit_one2 {s sr t c v one : Int} (hs : s = sr) (ht : bvp t = bvp s >>> v.toNat) (hc : bvp c = bvp t &&& bvp one) (h1 : one = 1) (v0 : 0 ≤ v) (c0 : 0 ≤ c) (c1 : c ≤ 1) : bit sr v ↔ c = 1 := by
  subst hs; exact bit_one ht hc h1 v0 c0 c1
theorem win_step2 {r r_zq : Int → Int} {n k i i_zq p x y z : Int} (h : WIn r n k i) (i1 : i < n) (n32 : n ≤ 32) (hb : bit (r i) k) (hx : bvp x = bvp z ||| bvp y) (hz : z = r i) (hy : y = r k) (hs : st1 r r_zq p x) (hp : p = i) (hi : i_zq = i + 1) : WIn r_zq n k i_zq := by
  subst hz; exact win_step h i1 n32 hb hx hy hs hp hi
theorem wkn_cut {r : Int → Int} {n k : Int} (h : WKn r n k) (hk : n ≤ k) : WKn r n n := fun a a0 a1 a2 => h a a0 (by omega) a2
theorem shl_pow1 {e cn one : Int} (h : bvp e = bvp one <<< cn.toNat) (h1 : one = 1) (c0 : 0 ≤ cn) (c7 : cn ≤ 7) (e0 : 0 ≤ e) (e1 : e ≤ 128) : e = 2 ^ cn.toNat := by
  subst h1; exact shl_pow h c0 c7 e0 e1
theorem osl_start {ls rk mb tl wt lk : Int → Int} {S e e2 lf pl cn one one2 : Int} (h : LSO ls mb tl wt lk S cn) (hm : MGD mb cn) (c0 : 0 ≤ cn) (c7 : cn ≤ 7) (hq : bvp e = bvp one <<< cn.toNat) (h1 : one = 1) (e0 : 0 ≤ e) (e1 : e ≤ 128) (hS : e ≤ S) (hq2 : bvp e2 = bvp one2 <<< cn.toNat) (h12 : one2 = 1) (e20 : 0 ≤ e2) (e21 : e2 ≤ 128) (hl : lf = e2 - 1) (hp : pl = 0) : OSL ls rk mb tl wt lk lf pl cn := by
  have p1 := shl_pow1 hq h1 c0 c7 e0 e1
  have p2 := shl_pow1 hq2 h12 c0 c7 e20 e21
  exact ⟨⟨h.1, fun s a b => h.2 s a (by omega)⟩, osi_start hm c7 p2 hl hp⟩
theorem osk_take {ls rk rk_zq mb tl wt lk : Int → Int} {lf lf_zq pl cn k k_zq fd fd_zq p x y q r m1 one : Int} (h : OSK ls rk mb tl wt lk lf pl cn k fd) (hf : fd = 0) (k1 : k < cn) (hb : bit lf k) (hs : st1 rk rk_zq p x) (hp : p = y) (hy : y = mb k) (hx : x = pl) (hq : bvp q = bvp one <<< k.toNat) (h1 : one = 1) (hr : bvp r = bvp q ^^^ bvp m1) (hm : m1 = -1) (hl : bvp lf_zq = bvp lf &&& bvp r) (l0 : 0 ≤ lf_zq) (l1 : lf_zq ≤ 127) (hk : k_zq = k + 1) (hf_zq : fd_zq = 1) : OSK ls rk_zq mb tl wt lk lf_zq pl cn k_zq fd_zq := by
  subst h1
  obtain ⟨a, k0, b⟩ := h
  refine ⟨a, by omega, Or.inr ⟨hf_zq, ?_⟩⟩
  rcases b with b | b
  · exact osi_take b.2.1 k0 k1 hb hs hp hy hx hq hr hm hl l0 l1 rfl
  · omega
theorem rkm_orl {rk rk_zq lp mb : Int → Int} {n k cn lf bg en i v x : Int} (h : RKM rk lp mb n k cn) (ho : ORL rk mb cn lf bg en i) (v0 : 0 ≤ v) (v1 : v < 24) (hb : bit lf v) (hs : st1 rk rk_zq v x) : RKM rk_zq lp mb n k cn := by
  obtain ⟨s, s0, s1, e⟩ := ho.2.2.2.2.1 v v0 (by omega) hb
  exact rkm_set (s := s) (y := v) h hs rfl e.symm s0 s1
theorem eri_step1 {r r_zq tl hd : Int → Int} {e e_zq a b x q p z one : Int} (h : ERI r tl hd e) (ha : a = tl e) (hb : b = hd e) (b0 : 0 ≤ b) (b1 : b < 32) (a0 : 0 ≤ a) (hz : z = r a) (hq : bvp q = bvp one <<< b.toNat) (h1 : one = 1) (hx : bvp x = bvp z ||| bvp q) (hs : st1 r r_zq p x) (hp : p = a) (he : e_zq = e + 1) (ht : ∀ j, 0 ≤ j → j < 48 → 0 ≤ tl j ∧ tl j ≤ 23) (e48 : e < 48) : ERI r_zq tl hd e_zq := by
  subst h1; exact eri_step h ha hb b0 b1 a0 hz hq hx hs hp he ht e48
theorem rkl_one1 {n n_zq k k_zq cn : Int} {lp rk mb : Int → Int} (h : RKL n lp rk k) (hm : MGI lp mb k n_zq cn) (e : n_zq = n) (hc : cn ≤ 1) (hk : k_zq = k + 1) : RKL n lp rk k_zq := by
  subst e; exact rkl_one h hm hc hk
theorem rkm_of1 {n n_zq k k_zq cn v : Int} {lp rk mb : Int → Int} (h : RKL n lp rk k) (hm : MGI lp mb k v cn) (e : n_zq = n) (ek : k_zq = k) : RKM rk lp mb n_zq k_zq cn := by
  subst e; subst ek; exact rkm_of h hm
theorem rkl_next1 {n n1 n2 k k1 k_zq cn : Int} {lp rk mb : Int → Int} (h : RKM rk lp mb n1 k1 cn) (hm : MGI lp mb k n2 cn) (ho : ORE rk mb cn) (e1 : n1 = n) (e2 : n2 = n) (e3 : k1 = k) (hk : k_zq = k + 1) : RKL n lp rk k_zq := by
  subst e1; subst e2; subst e3; exact rkl_next h hm ho hk
theorem wkg_of {n m : Int} {r : Int → Int} (h : WKn r m m) (e : m = n) : WKG n r := by subst e; exact h
theorem nbl_of {n m : Int} {r lp : Int → Int} (h : NBQ r lp m) (e : m = n) : NBL n r lp := by subst e; exact h
theorem nbt_of {n m c : Int} {lp : Int → Int} (h : NBR lp m c) (e : m = n) : NBT n lp c := by subst e; exact h
end
section
/-! rows of the past: what a packed state holds, and what it gives back -/
theorem bvp_tn {z : Int} (z0 : 0 ≤ z) (z1 : z ≤ 2147483647) : (bvp z).toNat = z.toNat := by
  unfold bvp; rw [BitVec.toNat_ofInt]
  show (z % 4294967296).toNat = z.toNat
  rw [Int.emod_eq_of_lt z0 (by omega)]
theorem or_sh {a b t x : Int} {k : Nat} (ht : bvp t = bvp b <<< k) (hx : bvp x = bvp a ||| bvp t) (a0 : 0 ≤ a) (a1 : a < 2 ^ k) (b0 : 0 ≤ b) (b1 : b * 2 ^ k ≤ 2147483647) (x0 : 0 ≤ x) (x1 : x ≤ 2147483647) (a2 : a ≤ 2147483647) : x = a + b * 2 ^ k := by
  have kp : (1 : Int) ≤ 2 ^ k := by
    have := Nat.one_le_two_pow (n := k); exact_mod_cast this
  have b2 : b ≤ 2147483647 := by
    have := Int.mul_le_mul_of_nonneg_left kp b0
    omega
  have e := congrArg BitVec.toNat hx
  rw [BitVec.toNat_or, ht, BitVec.toNat_shiftLeft, bvp_tn x0 x1, bvp_tn a0 a2, bvp_tn b0 b2, Nat.shiftLeft_eq] at e
  have c : ((b.toNat * 2 ^ k : Nat) : Int) = b * 2 ^ k := by push_cast; rw [show ((b.toNat : Nat) : Int) = b by omega]
  have a3 : ((2 ^ k : Nat) : Int) = 2 ^ k := by push_cast; rfl
  rw [Nat.mod_eq_of_lt (by omega), ← Nat.shiftLeft_eq, Nat.or_comm, ← Nat.shiftLeft_add_eq_or_of_lt (by omega), Nat.shiftLeft_eq] at e
  omega
theorem shr_div {p q : Int} {k : Nat} (hs : bvp q = bvp p >>> k) (p0 : 0 ≤ p) (p1 : p ≤ 2147483647) (q0 : 0 ≤ q) (q1 : q ≤ 2147483647) : q = p / 2 ^ k := by
  have e := congrArg BitVec.toNat hs
  rw [BitVec.toNat_ushiftRight, bvp_tn p0 p1, bvp_tn q0 q1, Nat.shiftRight_eq_div_pow] at e
  have : q = ((p.toNat / 2 ^ k : Nat) : Int) := by omega
  rw [this]; push_cast
  rw [show ((p.toNat : Nat) : Int) = p by omega]
/-- a node's word, an edge's word -/
def PNW (w : Int) : Prop := 0 ≤ w ∧ w % 256 ≤ 8 ∧ w / 256 % 256 ≤ 99 ∧ w / 65536 ≤ 7
def PEW (n w : Int) : Prop := 0 ≤ w ∧ w % 256 < n ∧ w / 256 % 256 < n ∧ w % 256 ≠ w / 256 % 256 ∧ w / 65536 % 256 ≤ 9 ∧ w / 16777216 ≤ 1
def PRW (pa : Int → Int) (r : Int) : Prop := 0 ≤ pa (122 * r) ∧ pa (122 * r) ≤ 24 ∧ 0 ≤ pa (122 * r + 1) ∧ pa (122 * r + 1) ≤ 48 ∧ (∀ i, 0 ≤ i → i < pa (122 * r) → PNW (pa (122 * r + 4 + 3 * i))) ∧ ∀ e, 0 ≤ e → e < pa (122 * r + 1) → PEW (pa (122 * r)) (pa (122 * r + 74 + e))
def PAS (pa : Int → Int) : Prop := ∀ r, 0 ≤ r → r < 31 → PRW pa r
theorem pas_zero {pa : Int → Int} (h : ∀ j, 0 ≤ j → j < 3782 → pa j = 0) : PAS pa := fun r r0 r1 => by
  have a := h (122 * r) (by omega) (by omega); have b := h (122 * r + 1) (by omega) (by omega)
  exact ⟨by omega, by omega, by omega, by omega, fun i i0 i1 => by omega, fun e e0 e1 => by omega⟩
theorem prw_same {pa pb : Int → Int} {r : Int} (h : PRW pa r) (he : ∀ j, 122 * r ≤ j → j < 122 * r + 122 → pb j = pa j) : PRW pb r := by
  obtain ⟨h0, h1, h2, h3, h4, h5⟩ := h
  have a := he (122 * r) (by omega) (by omega); have b := he (122 * r + 1) (by omega) (by omega)
  refine ⟨by omega, by omega, by omega, by omega, fun i i0 i1 => ?_, fun e e0 e1 => ?_⟩
  · rw [he _ (by omega) (by omega)]; exact h4 i i0 (by omega)
  · rw [a, he (122 * r + 74 + e) (by omega) (by omega)]; exact h5 e e0 (by omega)
theorem pnw_of {a b c t u x y s1 s2 : Int} (ht : bvp t = bvp b <<< s1.toNat) (h1 : s1 = 8) (hx : bvp x = bvp a ||| bvp t) (hu : bvp u = bvp c <<< s2.toNat) (h2 : s2 = 16) (hy : bvp y = bvp x ||| bvp u) (a0 : 0 ≤ a) (a1 : a ≤ 8) (b0 : 0 ≤ b) (b1 : b ≤ 99) (c0 : 0 ≤ c) (c1 : c ≤ 7) (x0 : 0 ≤ x) (x1 : x ≤ 2147483647) (y0 : 0 ≤ y) (y1 : y ≤ 2147483647) : PNW y := by
  subst h1; subst h2
  have e1 : x = a + b * 2 ^ 8 := or_sh (k := 8) ht hx a0 (by omega) b0 (by omega) x0 x1 (by omega)
  have e2 : y = x + c * 2 ^ 16 := or_sh (k := 16) hu hy x0 (by omega) c0 (by omega) y0 y1 (by omega)
  unfold PNW; omega
theorem pew_of {n a b c d t u v x y z s1 s2 s3 : Int} (ht : bvp t = bvp b <<< s1.toNat) (h1 : s1 = 8) (hx : bvp x = bvp a ||| bvp t) (hu : bvp u = bvp c <<< s2.toNat) (h2 : s2 = 16) (hy : bvp y = bvp x ||| bvp u) (hv : bvp v = bvp d <<< s3.toNat) (h3 : s3 = 24) (hz : bvp z = bvp y ||| bvp v) (a0 : 0 ≤ a) (a1 : a < n) (b0 : 0 ≤ b) (b1 : b < n) (ne : a ≠ b) (n24 : n ≤ 24) (c0 : 0 ≤ c) (c1 : c ≤ 9) (d0 : 0 ≤ d) (d1 : d ≤ 1) (x0 : 0 ≤ x) (x1 : x ≤ 2147483647) (y0 : 0 ≤ y) (y1 : y ≤ 2147483647) (z0 : 0 ≤ z) (z1 : z ≤ 2147483647) : PEW n z := by
  subst h1; subst h2; subst h3
  have e1 : x = a + b * 2 ^ 8 := or_sh (k := 8) ht hx a0 (by omega) b0 (by omega) x0 x1 (by omega)
  have e2 : y = x + c * 2 ^ 16 := or_sh (k := 16) hu hy x0 (by omega) c0 (by omega) y0 y1 (by omega)
  have e3 : z = y + d * 2 ^ 24 := or_sh (k := 24) hv hz y0 (by omega) d0 (by omega) z0 z1 (by omega)
  have e4 : z = a + 256 * (b + 256 * (c + 256 * d)) := by omega
  have q1 : z / 256 = b + 256 * (c + 256 * d) := by omega
  have q2 : z % 256 = a := by omega
  have q3 : z / 65536 = c + 256 * d := by omega
  have q4 : z / 16777216 = d := by omega
  exact ⟨by omega, by omega, by rw [q1]; omega, by rw [q1, q2]; omega, by rw [q3]; omega, by omega⟩
def PRO (pa : Int → Int) (r : Int) : Prop := ∀ r_zq, 0 ≤ r_zq → r_zq < r → PRW pa r_zq
def PRI (pa : Int → Int) (r : Int) : Prop := ∀ r_zq, 0 ≤ r_zq → r_zq ≤ r → PRW pa r_zq
def PDQ (dn un : Int) (pa : Int → Int) : Prop := 0 < dn + un → ∀ r_zq, 0 ≤ r_zq → r_zq ≤ dn + un → PRW pa r_zq
def PDN (pa : Int → Int) (dn un : Int) : Prop := PDQ dn un pa
theorem pdq_row {dn un r : Int} {pa : Int → Int} (h : PDQ dn un pa) (h0 : 1 ≤ dn + un) (r0 : 0 ≤ r) (r1 : r ≤ dn + un) : PRW pa r := h (by omega) r r0 r1
theorem pdn_same {dn un dn_zq un_zq : Int} {pa : Int → Int} (h : PDN pa dn un) (e1 : dn_zq = dn) (e2 : un_zq = un) : PDQ dn_zq un_zq pa := by subst e1; subst e2; exact h
theorem pdn_of {dn un dn_zq un_zq : Int} {pa : Int → Int} (h : PDQ dn un pa) (e1 : dn_zq = dn) (e2 : un_zq = un) : PDN pa dn_zq un_zq := by subst e1; subst e2; exact h
/-- packing: the rows before stand, this one grows -/
def PK0 (n m : Int) (pa : Int → Int) (r : Int) : Prop := 0 ≤ r ∧ r < 31 ∧ 0 ≤ n ∧ n ≤ 24 ∧ 0 ≤ m ∧ m ≤ 48 ∧ (∀ r_zq, 0 ≤ r_zq → r_zq < r → PRW pa r_zq) ∧ pa (122 * r) = n ∧ pa (122 * r + 1) = m
def PK1 (n m : Int) (pa : Int → Int) (r k i : Int) : Prop := PK0 n m pa r ∧ 0 ≤ i ∧ k = 122 * r + 2 + 3 * i ∧ ∀ j, 0 ≤ j → j < i → PNW (pa (122 * r + 4 + 3 * j))
def PK2 (n m : Int) (pa : Int → Int) (r k e : Int) : Prop := PK0 n m pa r ∧ 0 ≤ e ∧ k = 122 * r + 74 ∧ (∀ j, 0 ≤ j → j < n → PNW (pa (122 * r + 4 + 3 * j))) ∧ ∀ j, 0 ≤ j → j < e → PEW n (pa (122 * r + 74 + j))
theorem pk0_keep {n m r p x : Int} {pa pb : Int → Int} (h : PK0 n m pa r) (hs : st1 pa pb p x) (p0 : 122 * r + 2 ≤ p) (p1 : p < 122 * r + 122) : PK0 n m pb r := by
  obtain ⟨r0, r1, n0, n1, m0, m1, ho, e0, e1⟩ := h
  refine ⟨r0, r1, n0, n1, m0, m1, fun r_zq a b => prw_same (ho r_zq a b) (fun j j0 j1 => (hs j (by omega)).2 (by omega)), ?_, ?_⟩
  · rw [(hs (122 * r) (by omega)).2 (by omega)]; exact e0
  · rw [(hs (122 * r + 1) (by omega)).2 (by omega)]; exact e1
theorem pk1_start {n m r k k_zq p1 p2 x1 x2 i : Int} {pa pb pc : Int → Int} (h : PRO pa r) (r0 : 0 ≤ r) (r1 : r < 31) (n0 : 0 ≤ n) (n1 : n ≤ 24) (m0 : 0 ≤ m) (m1 : m ≤ 48) (hk : k = r * 122) (hs1 : st1 pa pb p1 x1) (hp1 : p1 = k) (hx1 : x1 = n) (hs2 : st1 pb pc p2 x2) (hp2 : p2 = k + 1) (hx2 : x2 = m) (hk_zq : k_zq = k + 2) (hi : i = 0) : PK1 n m pc r k_zq i := by
  refine ⟨⟨r0, r1, n0, n1, m0, m1, fun r_zq a b => prw_same (h r_zq a b) (fun j j0 j1 => ?_), ?_, ?_⟩, by omega, by omega, fun j a b => by omega⟩
  · rw [(hs2 j (by omega)).2 (by omega), (hs1 j (by omega)).2 (by omega)]
  · rw [(hs2 _ (by omega)).2 (by omega), (hs1 _ (by omega)).1 (by omega)]; exact hx1
  · rw [(hs2 _ (by omega)).1 (by omega)]; exact hx2
theorem pk1_step {n m r k k_zq i i_zq p1 p2 p3 x1 x2 x3 : Int} {pa pb pc pd : Int → Int} (h : PK1 n m pa r k i) (hi : i < n) (hs1 : st1 pa pb p1 x1) (hp1 : p1 = k) (hs2 : st1 pb pc p2 x2) (hp2 : p2 = k + 1) (hs3 : st1 pc pd p3 x3) (hp3 : p3 = k + 2) (hw : PNW x3) (hk_zq : k_zq = k + 3) (hi_zq : i_zq = i + 1) : PK1 n m pd r k_zq i_zq := by
  obtain ⟨h0, i0, ek, hn⟩ := h
  have n1 := h0.2.2.2.1
  refine ⟨pk0_keep (pk0_keep (pk0_keep h0 hs1 (by omega) (by omega)) hs2 (by omega) (by omega)) hs3 (by omega) (by omega), by omega, by omega, fun j a b => ?_⟩
  have r0 := h0.1
  by_cases e : j = i
  · rw [(hs3 _ (by omega)).1 (by omega)]; exact hw
  · rw [(hs3 _ (by omega)).2 (by omega), (hs2 _ (by omega)).2 (by omega), (hs1 _ (by omega)).2 (by omega)]; exact hn j a (by omega)
theorem pk2_start {n m r k k_zq i e : Int} {pa : Int → Int} (h : PK1 n m pa r k i) (hi : n ≤ i) (hk_zq : k_zq = r * 122 + 2 + 72) (he : e = 0) : PK2 n m pa r k_zq e := ⟨h.1, by omega, by omega, fun j a b => h.2.2.2 j a (by omega), fun j a b => by omega⟩
theorem pk2_step {n m r k e e_zq p x : Int} {pa pb : Int → Int} (h : PK2 n m pa r k e) (he : e < m) (hs : st1 pa pb p x) (hp : p = k + e) (hw : PEW n x) (he_zq : e_zq = e + 1) : PK2 n m pb r k e_zq := by
  obtain ⟨h0, e0, ek, hn, hm⟩ := h
  have m1 := h0.2.2.2.2.2.1; have n1 := h0.2.2.2.1; have r0 := h0.1
  refine ⟨pk0_keep h0 hs (by omega) (by omega), by omega, ek, fun j a b => ?_, fun j a b => ?_⟩
  · rw [(hs _ (by omega)).2 (by omega)]; exact hn j a b
  · by_cases q : j = e
    · rw [(hs _ (by omega)).1 (by omega)]; exact hw
    · rw [(hs _ (by omega)).2 (by omega)]; exact hm j a (by omega)
theorem pri_of {n m r k e : Int} {pa : Int → Int} (h : PK2 n m pa r k e) (he : m ≤ e) : PRI pa r := fun q q0 q1 => by
  obtain ⟨⟨r0, r1, n0, n1, m0, m1, ho, e0, e1⟩, f0, ek, hn, hm⟩ := h
  by_cases c : q = r
  · subst c
    exact ⟨by omega, by omega, by omega, by omega, fun i a b => hn i a (by omega), fun i a b => by rw [e0]; exact hm i a (by omega)⟩
  · exact ho q q0 (by omega)
/-- rows moved down by one -/
theorem pas_move {pa pb : Int → Int} (h : PAS pa) (hm : ∀ j, 0 ≤ j → j < 3660 → pb j = pa (j + 122)) (hs : ∀ j, 3660 ≤ j → j < 3782 → pb j = pa j) : PAS pb := fun r r0 r1 => by
  by_cases c : r = 30
  · subst c; exact prw_same (h 30 (by omega) (by omega)) (fun j a b => hs j (by omega) (by omega))
  · have q := h (r + 1) (by omega) (by omega)
    obtain ⟨h0, h1, h2, h3, h4, h5⟩ := q
    have a := hm (122 * r) (by omega) (by omega); have b := hm (122 * r + 1) (by omega) (by omega)
    rw [show 122 * r + 122 = 122 * (r + 1) by omega] at a
    rw [show 122 * r + 1 + 122 = 122 * (r + 1) + 1 by omega] at b
    refine ⟨by omega, by omega, by omega, by omega, fun i i0 i1 => ?_, fun e e0 e1 => ?_⟩
    · rw [hm _ (by omega) (by omega), show 122 * r + 4 + 3 * i + 122 = 122 * (r + 1) + 4 + 3 * i by omega]; exact h4 i i0 (by omega)
    · rw [a, hm (122 * r + 74 + e) (by omega) (by omega), show 122 * r + 74 + e + 122 = 122 * (r + 1) + 74 + e by omega]; exact h5 e e0 (by omega)
/-- unpacking -/
def UP1 (n m : Int) (pa : Int → Int) (r k i : Int) : Prop := PRW pa r ∧ 0 ≤ r ∧ r < 31 ∧ n = pa (122 * r) ∧ m = pa (122 * r + 1) ∧ 0 ≤ i ∧ k = 122 * r + 2 + 3 * i
def UP2 (n m : Int) (pa tl hd : Int → Int) (r k e : Int) : Prop := PRW pa r ∧ 0 ≤ r ∧ r < 31 ∧ n = pa (122 * r) ∧ m = pa (122 * r + 1) ∧ 0 ≤ e ∧ k = 122 * r + 74 ∧ ∀ j, 0 ≤ j → j < e → 0 ≤ tl j ∧ tl j < n ∧ 0 ≤ hd j ∧ hd j < n ∧ tl j ≠ hd j
theorem pas_cnt {pa : Int → Int} {r k x : Int} (h : PRW pa r) (r0 : 0 ≤ r) (r1 : r < 31) (hk : k = r * 122) (hx : x = pa k) : 0 ≤ x ∧ x ≤ 24 := by
  have q := h; rw [show k = 122 * r by omega] at hx; exact ⟨by have := q.1; omega, by have := q.2.1; omega⟩
theorem pas_cne {pa : Int → Int} {r k x : Int} (h : PRW pa r) (r0 : 0 ≤ r) (r1 : r < 31) (hk : k = r * 122 + 1) (hx : x = pa k) : 0 ≤ x ∧ x ≤ 48 := by
  have q := h; rw [show k = 122 * r + 1 by omega] at hx; exact ⟨by have := q.2.2.1; omega, by have := q.2.2.2.1; omega⟩
theorem up1_node {n m r k i p x : Int} {pa : Int → Int} (h : UP1 n m pa r k i) (hi : i < n) (hp : p = k + 2) (hx : x = pa p) : PNW x := by
  obtain ⟨ha, r0, r1, en, em, i0, ek⟩ := h
  rw [hx, show p = 122 * r + 4 + 3 * i by omega]; exact ha.2.2.2.2.1 i i0 (by omega)
theorem up1_idx {n m r k i : Int} {pa : Int → Int} (h : UP1 n m pa r k i) (hi : i < n) : 2 ≤ k ∧ k + 2 ≤ 3781 := by
  obtain ⟨ha, r0, r1, en, em, i0, ek⟩ := h
  have q := ha.2.1
  omega
theorem up2_idx {n m r k e : Int} {pa tl hd : Int → Int} (h : UP2 n m pa tl hd r k e) (he : e < m) : 74 ≤ k + e ∧ k + e ≤ 3781 := by
  obtain ⟨ha, r0, r1, en, em, i0, ek, _⟩ := h
  have q := ha.2.2.2.1
  omega
theorem pk1_idx {n m r k i : Int} {pa : Int → Int} (h : PK1 n m pa r k i) (hi : i < n) : 2 ≤ k ∧ k + 2 ≤ 3781 := by
  have a := h.1.1; have b := h.1.2.1; have c := h.1.2.2.2.1; have d := h.2.2.1; have e := h.2.1
  omega
theorem pk2_idx {n m r k e : Int} {pa : Int → Int} (h : PK2 n m pa r k e) (he : e < m) : 74 ≤ k + e ∧ k + e ≤ 3781 := by
  have a := h.1.1; have b := h.1.2.1; have c := h.1.2.2.2.2.2.1; have d := h.2.2.1; have f := h.2.1
  omega
theorem up2_edge {n m r k e p x : Int} {pa tl hd : Int → Int} (h : UP2 n m pa tl hd r k e) (he : e < m) (hp : p = k + e) (hx : x = pa p) : PEW n x := by
  obtain ⟨ha, r0, r1, en, em, i0, ek, _⟩ := h
  rw [hx, show p = 122 * r + 74 + e by omega, en]; exact ha.2.2.2.2.2 e i0 (by omega)
theorem up1_start {n m r k k_zq i : Int} {pa : Int → Int} (h : PRW pa r) (r0 : 0 ≤ r) (r1 : r < 31) (hk : k = r * 122) (hn : n = pa k) {p : Int} (hp : p = k + 1) (hm : m = pa p) (hk_zq : k_zq = k + 2) (hi : i = 0) : UP1 n m pa r k_zq i := by
  refine ⟨h, r0, r1, ?_, ?_, by omega, by omega⟩
  · rw [hn, show k = 122 * r by omega]
  · rw [hm, show p = 122 * r + 1 by omega]
theorem up2_start {n m r k k_zq i e : Int} {pa tl hd : Int → Int} (h : UP1 n m pa r k i) (hk_zq : k_zq = r * 122 + 2 + 72) (he : e = 0) : UP2 n m pa tl hd r k_zq e := ⟨h.1, h.2.1, h.2.2.1, h.2.2.2.1, h.2.2.2.2.1, by omega, by omega, fun j a b => by omega⟩
theorem up2_step {n m r k e e_zq p1 p2 a b x : Int} {pa tl tl_zq hd hd_zq : Int → Int} (h : UP2 n m pa tl hd r k e) (hw : PEW n x) (ha : a = x % 256) (hb : b = x / 256 % 256) (hs1 : st1 tl tl_zq p1 a) (hp1 : p1 = e) (hs2 : st1 hd hd_zq p2 b) (hp2 : p2 = e) (he_zq : e_zq = e + 1) : UP2 n m pa tl_zq hd_zq r k e_zq := by
  obtain ⟨ha_zq, r0, r1, en, em, i0, ek, hj⟩ := h
  refine ⟨ha_zq, r0, r1, en, em, by omega, ek, fun j j0 j1 => ?_⟩
  obtain ⟨w0, w1, w2, w3, _⟩ := hw
  by_cases c : j = e
  · rw [(hs1 j j0).1 (by omega), (hs2 j j0).1 (by omega)]; omega
  · rw [(hs1 j j0).2 (by omega), (hs2 j j0).2 (by omega)]; exact hj j j0 (by omega)
theorem gke_up {n m r k e : Int} {pa tl hd : Int → Int} (h : UP2 n m pa tl hd r k e) (he : m ≤ e) : GKE n m tl hd := fun j a b => h.2.2.2.2.2.2.2 j a (by omega)
def UPN (pa : Int → Int) (n m r k i : Int) : Prop := UP1 n m pa r k i
theorem up1_step {n n_zq m m_zq r k k_zq i i_zq : Int} {pa : Int → Int} (h : UP1 n m pa r k i) (en : n_zq = n) (em : m_zq = m) (hk : k_zq = k + 3) (hi : i_zq = i + 1) : UP1 n_zq m_zq pa r k_zq i_zq := by
  subst en; subst em
  exact ⟨h.1, h.2.1, h.2.2.1, h.2.2.2.1, h.2.2.2.2.1, by have := h.2.2.2.2.2.1; omega, by have := h.2.2.2.2.2.2; omega⟩
theorem and255p {a x q : Int} (h : bvp a = bvp x &&& bvp q) (hq : q = 255) (x0 : 0 ≤ x) (x1 : x ≤ 2147483647) (a0 : 0 ≤ a) (a1 : a ≤ 255) : a = x % 256 := by
  have e := congrArg BitVec.toNat h
  rw [BitVec.toNat_and, bvp_tn a0 (by omega), bvp_tn x0 x1, hq, show (bvp 255).toNat = 2 ^ 8 - 1 from rfl, Nat.and_two_pow_sub_one_eq_mod] at e
  omega
theorem up2_start1 {n n_zq m m_zq r k k_zq i e : Int} {pa tl hd : Int → Int} (h : UPN pa n m r k i) (en : n_zq = n) (em : m_zq = m) (hk_zq : k_zq = r * 122 + 2 + 72) (he : e = 0) : UP2 n_zq m_zq pa tl hd r k_zq e := by
  subst en; subst em; exact up2_start h hk_zq he
theorem pew_same {x y p q : Int} {pa : Int → Int} (hx : x = pa p) (hy : y = pa q) (e : q = p) : y = x := by rw [hx, hy, e]
theorem pdq_move {dn un dn_zq un_zq : Int} {pa : Int → Int} (h : PDQ dn un pa) (e : dn_zq + un_zq = dn + un) : PDQ dn_zq un_zq pa := fun h0 r r0 r1 => h (by omega) r r0 (by omega)
theorem tie_bits {a b x y q1 q2 z1 z2 p1 p2 u w : Int} {nr nr1 nr2 : Int → Int} (a0 : 0 ≤ a) (a1 : a < 32) (b0 : 0 ≤ b) (b1 : b < 32) (ne : a ≠ b) (hq1 : bvp q1 = bvp 1 <<< b.toNat) (hz1 : z1 = nr a) (hx : bvp x = bvp z1 ||| bvp q1) (hs1 : st1 nr nr1 p1 x) (hp1 : p1 = a) (hq2 : bvp q2 = bvp 1 <<< a.toNat) (hz2 : z2 = nr1 b) (hy : bvp y = bvp z2 ||| bvp q2) (hs2 : st1 nr1 nr2 p2 y) (hp2 : p2 = b) (u0 : 0 ≤ u) (w0 : 0 ≤ w) (w1 : w < 32) : bit (nr2 u) w ↔ bit (nr u) w ∨ (u = a ∧ w = b) ∨ (u = b ∧ w = a) := by
  subst hp1; subst hp2
  by_cases c : u = p2
  · subst c
    rw [(hs2 u u0).1 rfl, bit_or hy, bit_shl hq2 rfl a0 w0 w1, hz2, (hs1 u u0).2 (by omega)]
    constructor
    · rintro (h | h)
      · exact Or.inl h
      · exact Or.inr (Or.inr ⟨rfl, h⟩)
    · rintro (h | ⟨h, _⟩ | ⟨_, h⟩)
      · exact Or.inl h
      · omega
      · exact Or.inr h
  · rw [(hs2 u u0).2 c]
    by_cases d : u = p1
    · subst d
      rw [(hs1 u u0).1 rfl, bit_or hx, bit_shl hq1 rfl b0 w0 w1, hz1]
      constructor
      · rintro (h | h)
        · exact Or.inl h
        · exact Or.inr (Or.inl ⟨rfl, h⟩)
      · rintro (h | ⟨_, h⟩ | ⟨h, _⟩)
        · exact Or.inl h
        · exact Or.inr h
        · omega
    · rw [(hs1 u u0).2 d]
      constructor
      · exact Or.inl
      · rintro (h | ⟨h, _⟩ | ⟨h, _⟩)
        · exact h
        · omega
        · omega
theorem gnb_tie {n a b x y q1 q2 z1 z2 p1 p2 : Int} {nr nr1 nr2 : Int → Int} (h : GNO n nr) (n24 : n ≤ 24) (a0 : 0 ≤ a) (an : a < n) (b0 : 0 ≤ b) (bn : b < n) (ne : a ≠ b) (hq1 : bvp q1 = bvp 1 <<< b.toNat) (hz1 : z1 = nr a) (hx : bvp x = bvp z1 ||| bvp q1) (hs1 : st1 nr nr1 p1 x) (hp1 : p1 = a) (hq2 : bvp q2 = bvp 1 <<< a.toNat) (hz2 : z2 = nr1 b) (hy : bvp y = bvp z2 ||| bvp q2) (hs2 : st1 nr1 nr2 p2 y) (hp2 : p2 = b) : GNO n nr2 := fun u w u0 u1 w0 w1 hb => by
  have T := fun {u w : Int} (u0 : 0 ≤ u) (w0 : 0 ≤ w) (w1 : w < 32) => tie_bits a0 (by omega) b0 (by omega) ne hq1 hz1 hx hs1 hp1 hq2 hz2 hy hs2 hp2 u0 w0 w1
  rcases (T u0 w0 w1).1 hb with c | ⟨c, d⟩ | ⟨c, d⟩
  · have q := h u w u0 u1 w0 w1 c
    exact ⟨q.1, (T w0 u0 (by omega)).2 (Or.inl q.2)⟩
  · exact ⟨by omega, (T w0 u0 (by omega)).2 (Or.inr (Or.inr ⟨d, c⟩))⟩
  · exact ⟨by omega, (T w0 u0 (by omega)).2 (Or.inr (Or.inl ⟨d, c⟩))⟩
theorem gnb_zero {n : Int} {nr : Int → Int} (n24 : n ≤ 24) (h : ∀ j, 0 ≤ j → j < 24 → nr j = 0) : GNO n nr := fun u w u0 u1 w0 w1 hb => by
  rw [h u u0 (by omega)] at hb
  exact absurd hb (by unfold bit bvp; simp)
theorem gnb_tie1 {n a b x y q1 q2 z1 z2 o1 o2 s1 s2 : Int} {nr nr1 nr2 : Int → Int} (h : GNO n nr) (n24 : n ≤ 24) (a0 : 0 ≤ a) (an : a < n) (b0 : 0 ≤ b) (bn : b < n) (ne : a ≠ b) (hq1 : bvp q1 = bvp o1 <<< s1.toNat) (h1 : o1 = 1) (e1 : s1 = b) (hz1 : z1 = nr a) (hx : bvp x = bvp z1 ||| bvp q1) (hs1 : st1 nr nr1 a x) (hq2 : bvp q2 = bvp o2 <<< s2.toNat) (h2 : o2 = 1) (e2 : s2 = a) (hz2 : z2 = nr1 b) (hy : bvp y = bvp z2 ||| bvp q2) (hs2 : st1 nr1 nr2 b y) : GNO n nr2 := by
  subst h1; subst h2; subst e1; subst e2
  exact gnb_tie h n24 a0 an b0 bn ne hq1 hz1 hx hs1 rfl hq2 hz2 hy hs2 rfl
end
section
/-- neighbours and the first edges -/
def GNK (n : Int) (nr tl hd : Int → Int) (k : Int) : Prop := GNO n nr ∧ GEN n k nr tl hd
def GNL (n : Int) (nr tl hd : Int → Int) (k : Int) : Prop := GNK n nr tl hd (k + 1)
theorem gnk_zero {n k : Int} {nr tl hd : Int → Int} (n24 : n ≤ 24) (h : ∀ j, 0 ≤ j → j < 24 → nr j = 0) (hk : k = 0) : GNK n nr tl hd k := ⟨gnb_zero n24 h, fun e a b => by omega, fun u w u0 u1 _ _ z => by
  rw [h u u0 (by omega)] at z
  exact absurd z (by unfold bit bvp; simp)⟩
theorem gnk_tie {n k a b x y q1 q2 z1 z2 o1 o2 s1 s2 : Int} {nr nr1 nr2 tl hd : Int → Int} (h : GNK n nr tl hd k) (hc : ∀ e, 0 ≤ e → e < k → (0 ≤ tl e ∧ tl e < n) ∧ 0 ≤ hd e ∧ hd e < n) (k0 : 0 ≤ k) (ha : tl k = a) (hb : hd k = b) (n24 : n ≤ 24) (a0 : 0 ≤ a) (an : a < n) (b0 : 0 ≤ b) (bn : b < n) (ne : a ≠ b) (hq1 : bvp q1 = bvp o1 <<< s1.toNat) (h1 : o1 = 1) (e1 : s1 = b) (hz1 : z1 = nr a) (hx : bvp x = bvp z1 ||| bvp q1) (hs1 : st1 nr nr1 a x) (hq2 : bvp q2 = bvp o2 <<< s2.toNat) (h2 : o2 = 1) (e2 : s2 = a) (hz2 : z2 = nr1 b) (hy : bvp y = bvp z2 ||| bvp q2) (hs2 : st1 nr1 nr2 b y) : GNL n nr2 tl hd k := by
  subst h1; subst h2; subst e1; subst e2
  have T := fun {u w : Int} (u0 : 0 ≤ u) (w0 : 0 ≤ w) (w1 : w < 32) => tie_bits a0 (by omega) b0 (by omega) ne hq1 hz1 hx hs1 rfl hq2 hz2 hy hs2 rfl u0 w0 w1
  refine ⟨gnb_tie h.1 n24 a0 an b0 bn ne hq1 hz1 hx hs1 rfl hq2 hz2 hy hs2 rfl, fun e e0 e1 => ?_, fun u w u0 u1 w0 w1 z => ?_⟩
  · by_cases c : e = k
    · rw [c, ha, hb]
      exact ⟨(T a0 b0 (by omega)).2 (Or.inr (Or.inl ⟨rfl, rfl⟩)), (T b0 a0 (by omega)).2 (Or.inr (Or.inr ⟨rfl, rfl⟩))⟩
    · have q := h.2.1 e e0 (by omega)
      have r := hc e e0 (by omega)
      exact ⟨(T r.1.1 r.2.1 (by omega)).2 (Or.inl q.1), (T r.2.1 r.1.1 (by omega)).2 (Or.inl q.2)⟩
  · rcases (T u0 w0 (by omega)).1 z with c | ⟨c, d⟩ | ⟨c, d⟩
    · obtain ⟨e, e0, e1, e2⟩ := h.2.2 u w u0 u1 w0 w1 c
      exact ⟨e, e0, by omega, e2⟩
    · exact ⟨k, k0, by omega, Or.inl ⟨by omega, by omega⟩⟩
    · exact ⟨k, k0, by omega, Or.inr ⟨by omega, by omega⟩⟩
theorem gnk_edge {n m k p1 p2 a b : Int} {nr tl tl_zq hd hd_zq : Int → Int} (h : GNB n m nr tl hd) (m0 : 0 ≤ m) (hs1 : st1 tl tl_zq p1 a) (hp1 : p1 = m) (hs2 : st1 hd hd_zq p2 b) (hp2 : p2 = m) (hk : k = m) : GNK n nr tl_zq hd_zq k := by
  refine ⟨h.1, fun e e0 e1 => ?_, fun u w u0 u1 w0 w1 z => ?_⟩
  · rw [(hs1 e e0).2 (by omega), (hs2 e e0).2 (by omega)]; exact h.2.1 e e0 (by omega)
  · obtain ⟨e, e0, e1, e2⟩ := h.2.2 u w u0 u1 w0 w1 z
    exact ⟨e, e0, by omega, by rw [(hs1 e e0).2 (by omega), (hs2 e e0).2 (by omega)]; exact e2⟩
theorem gnb_ofk {n m k : Int} {nr tl hd : Int → Int} (h : GNK n nr tl hd k) (hk : k = m) : GNB n m nr tl hd := by rw [← hk]; exact h
theorem gnb_ofl {n m k : Int} {nr tl hd : Int → Int} (h : GNL n nr tl hd k) (hk : m = k + 1) : GNB n m nr tl hd := by rw [hk]; exact h
theorem gnk_ofl {n m k : Int} {nr tl hd : Int → Int} (h : GNL n nr tl hd k) (hk : m = k + 1) : GNK n nr tl hd m := by rw [hk]; exact h
/-- graphs: nodes and edges come and go -/
theorem gnb_node {n x p n_zq : Int} {nr nr_zq : Int → Int} (h : GNO n nr) (n0 : 0 ≤ n) (n23 : n ≤ 23) (hs : st1 nr nr_zq p x) (hp : p = n) (hx : x = 0) (hn : n_zq = n + 1) : GNO n_zq nr_zq := fun u w u0 u1 w0 w1 hb => by
  subst hn
  by_cases c : u = n
  · rw [(hs u u0).1 (by omega), hx] at hb
    exact absurd hb (by unfold bit bvp; simp)
  · rw [(hs u u0).2 (by omega)] at hb
    have q := h u w u0 (by omega) w0 w1 hb
    refine ⟨by omega, ?_⟩
    rw [(hs w w0).2 (by omega)]; exact q.2
theorem gnb_node2 {n m x p n_zq : Int} {nr nr_zq tl hd : Int → Int} (h : GNB n m nr tl hd) (hc : GKE n m tl hd) (n0 : 0 ≤ n) (n23 : n ≤ 23) (hs : st1 nr nr_zq p x) (hp : p = n) (hx : x = 0) (hn : n_zq = n + 1) : GNB n_zq m nr_zq tl hd := by
  refine ⟨gnb_node h.1 n0 n23 hs hp hx hn, fun e e0 e1 => ?_, fun u w u0 u1 w0 w1 z => ?_⟩
  · have q := hc e e0 e1
    rw [(hs _ (by omega)).2 (by omega), (hs _ (by omega)).2 (by omega)]; exact h.2.1 e e0 e1
  · by_cases c : u = n
    · rw [(hs u u0).1 (by omega), hx] at z
      exact absurd z (by unfold bit bvp; simp)
    · rw [(hs u u0).2 (by omega)] at z
      have q := h.1 u w u0 (by omega) w0 (by omega) z
      exact h.2.2 u w u0 (by omega) w0 q.1 z
theorem gnb_none2 {n m : Int} {nr tl hd : Int → Int} (hn : n ≤ 0) (hm : m ≤ 0) : GNB n m nr tl hd := ⟨fun u w u0 u1 => by omega, fun e a b => by omega, fun u w u0 u1 => by omega⟩
theorem gke_node {n n_zq m : Int} {tl hd : Int → Int} (h : GKE n m tl hd) (hn : n_zq = n + 1) : GKE n_zq m tl hd := fun e a b => by
  have q := h e a b; omega
theorem gke_none {n m : Int} {tl hd : Int → Int} (hm : m ≤ 0) : GKE n m tl hd := fun e a b => by omega
theorem gnb_none {n : Int} {nr : Int → Int} (hn : n ≤ 0) : GNO n nr := fun u w u0 u1 => by omega
theorem gke_edge {n m m_zq p1 p2 a b : Int} {tl tl_zq hd hd_zq : Int → Int} (h : GKE n m tl hd) (a0 : 0 ≤ a) (a1 : a < n) (b0 : 0 ≤ b) (b1 : b < n) (ne : a ≠ b) (hs1 : st1 tl tl_zq p1 a) (hp1 : p1 = m) (hs2 : st1 hd hd_zq p2 b) (hp2 : p2 = m) (hm : m_zq = m + 1) : GKE n m_zq tl_zq hd_zq := fun e e0 e1 => by
  by_cases c : e = m
  · rw [(hs1 e e0).1 (by omega), (hs2 e e0).1 (by omega)]; omega
  · rw [(hs1 e e0).2 (by omega), (hs2 e e0).2 (by omega)]; exact h e e0 (by omega)
/-- an edge is taken out: the ends of those behind it move up by one -/
def NOE (tl hd : Int → Int) (a b i : Int) : Prop := ∀ j, a ≤ j → j < b → tl j ≠ i ∧ hd j ≠ i
def RT1n (d s h : Int → Int) (sp dp n N M i : Int) : Prop := GKE N M d h ∧ NOE d h (dp + 1) M i ∧ sp = dp + 1 ∧ n = M - dp - 1 ∧ 0 ≤ dp ∧ dp < M ∧ ∀ j, s j = d j
def RT2n (d s h : Int → Int) (sp dp n N M i : Int) : Prop := ∃ t, RT1n t t h sp dp n N M i ∧ ∀ j, 0 ≤ j → d j = if dp ≤ j ∧ j < dp + n then t (sp + (j - dp)) else t j
def RH1n (d s t : Int → Int) (sp dp n N M i : Int) : Prop := RT2n t t d sp dp n N M i ∧ ∀ j, s j = d j
def RH2n (d s t : Int → Int) (sp dp n N M i : Int) : Prop := GKE N (M - 1) t d ∧ NOE t d dp (M - 1) i
def RT1 (d s h : Int → Int) (sp dp n N M : Int) : Prop := RT1n d s h sp dp n N M (-1)
def RT2 (d s h : Int → Int) (sp dp n N M : Int) : Prop := RT2n d s h sp dp n N M (-1)
def RH1 (d s h : Int → Int) (sp dp n N M : Int) : Prop := RH1n d s h sp dp n N M (-1)
def RH2 (d s h : Int → Int) (sp dp n N M : Int) : Prop := RH2n d s h sp dp n N M (-1)
def NOQ (m : Int) (tl hd : Int → Int) (e i : Int) : Prop := NOE tl hd (e + 1) m i
def NOS (m : Int) (tl hd : Int → Int) (e i : Int) : Prop := NOE tl hd e m i
theorem rt1n_of {N M i sp dp n N' M_zq i_zq : Int} {tl hd : Int → Int} (h : GKE N M tl hd) (ho : NOQ M tl hd dp i) (e1 : sp = dp + 1) (e2 : n = M - dp - 1) (d0 : 0 ≤ dp) (d1 : dp < M) (eN : N' = N) (eM : M_zq = M) (ei : i_zq = i) : RT1n tl tl hd sp dp n N' M_zq i_zq := by
  subst eN; subst eM; subst ei; exact ⟨h, ho, e1, e2, d0, d1, fun _ => rfl⟩
theorem rt1_of {N M sp dp n N' M_zq : Int} {tl hd : Int → Int} (h : GKE N M tl hd) (e1 : sp = dp + 1) (e2 : n = M - dp - 1) (d0 : 0 ≤ dp) (d1 : dp < M) (eN : N' = N) (eM : M_zq = M) : RT1 tl tl hd sp dp n N' M_zq :=
  rt1n_of h (fun j a b => by have q := h j (by omega) b; omega) e1 e2 d0 d1 eN eM rfl
theorem rt_copy {D S H D_zq : Int → Int} {sp dp n N M i : Int} (h1 : ∀ j, 0 ≤ j → D_zq j = if dp ≤ j ∧ j < dp + n then S (sp + (j - dp)) else D j) (h : RT1n D S H sp dp n N M i) {S_zq H_zq : Int → Int} (hh : ∀ j, H_zq j = H j) : RT2n D_zq S_zq H_zq sp dp n N M i := by
  have e : H_zq = H := funext hh
  subst e
  refine ⟨D, ⟨h.1, h.2.1, h.2.2.1, h.2.2.2.1, h.2.2.2.2.1, h.2.2.2.2.2.1, fun _ => rfl⟩, fun j a => ?_⟩
  rw [h1 j a, h.2.2.2.2.2.2]
theorem rh_copy {D S T D_zq : Int → Int} {sp dp n N M i : Int} (h1 : ∀ j, 0 ≤ j → D_zq j = if dp ≤ j ∧ j < dp + n then S (sp + (j - dp)) else D j) (h : RH1n D S T sp dp n N M i) {S_zq T_zq : Int → Int} (hh : ∀ j, T_zq j = T j) : RH2n D_zq S_zq T_zq sp dp n N M i := by
  have e : T_zq = T := funext hh
  subst e
  obtain ⟨⟨t, ⟨hg, hn, e1, e2, d0, d1, _⟩, ht⟩, hs⟩ := h
  refine ⟨fun j a b => ?_, fun j a b => ?_⟩
  · rw [ht j a, h1 j a]
    by_cases c : dp ≤ j ∧ j < dp + n
    · rw [if_pos c, if_pos c, hs]; exact hg _ (by omega) (by omega)
    · rw [if_neg c, if_neg c]; exact hg j a (by omega)
  · have c : dp ≤ j ∧ j < dp + n := ⟨a, by omega⟩
    rw [ht j (by omega), h1 j (by omega), if_pos c, if_pos c, hs]; exact hn _ (by omega) (by omega)
theorem rt1n_rt2n {U U_zq : Nat → Int → Int} {xs : List Int} {sp dp n : Int} (_ : 0 ≤ sp) (_ : 0 ≤ dp) (_ : 0 ≤ n) (h1 : ∀ j, 0 ≤ j → U_zq 0 j = if dp ≤ j ∧ j < dp + n then U 1 (sp + (j - dp)) else U 0 j) (_ : (∀ j, U_zq 1 j = U 1 j) ∨ ((∀ j, U_zq 1 j = U_zq 0 j) ∧ ∀ j, U 1 j = U 0 j)) (h3 : ∀ i, 2 ≤ i → ∀ j, U_zq i j = U i j) (e1 : xs.getD 3 0 = sp) (e2 : xs.getD (3 + 1) 0 = dp) (e3 : xs.getD (3 + 2) 0 = n) (h : RT1n (U 0) (U 1) (U 2) (xs.getD 3 0) (xs.getD 4 0) (xs.getD 5 0) (xs.getD 6 0) (xs.getD 7 0) (xs.getD 8 0)) : RT2n (U_zq 0) (U_zq 1) (U_zq 2) (xs.getD 3 0) (xs.getD 4 0) (xs.getD 5 0) (xs.getD 6 0) (xs.getD 7 0) (xs.getD 8 0) := by
  subst e1; subst e2; subst e3
  exact rt_copy h1 h (h3 2 (by omega))
theorem rt1_rt2 {U U_zq : Nat → Int → Int} {xs : List Int} {sp dp n : Int} (_ : 0 ≤ sp) (_ : 0 ≤ dp) (_ : 0 ≤ n) (h1 : ∀ j, 0 ≤ j → U_zq 0 j = if dp ≤ j ∧ j < dp + n then U 1 (sp + (j - dp)) else U 0 j) (_ : (∀ j, U_zq 1 j = U 1 j) ∨ ((∀ j, U_zq 1 j = U_zq 0 j) ∧ ∀ j, U 1 j = U 0 j)) (h3 : ∀ i, 2 ≤ i → ∀ j, U_zq i j = U i j) (e1 : xs.getD 3 0 = sp) (e2 : xs.getD (3 + 1) 0 = dp) (e3 : xs.getD (3 + 2) 0 = n) (h : RT1 (U 0) (U 1) (U 2) (xs.getD 3 0) (xs.getD 4 0) (xs.getD 5 0) (xs.getD 6 0) (xs.getD 7 0)) : RT2 (U_zq 0) (U_zq 1) (U_zq 2) (xs.getD 3 0) (xs.getD 4 0) (xs.getD 5 0) (xs.getD 6 0) (xs.getD 7 0) := by
  subst e1; subst e2; subst e3
  exact rt_copy h1 h (h3 2 (by omega))
theorem rh1n_rh2n {U U_zq : Nat → Int → Int} {xs : List Int} {sp dp n : Int} (_ : 0 ≤ sp) (_ : 0 ≤ dp) (_ : 0 ≤ n) (h1 : ∀ j, 0 ≤ j → U_zq 0 j = if dp ≤ j ∧ j < dp + n then U 1 (sp + (j - dp)) else U 0 j) (_ : (∀ j, U_zq 1 j = U 1 j) ∨ ((∀ j, U_zq 1 j = U_zq 0 j) ∧ ∀ j, U 1 j = U 0 j)) (h3 : ∀ i, 2 ≤ i → ∀ j, U_zq i j = U i j) (e1 : xs.getD 3 0 = sp) (e2 : xs.getD (3 + 1) 0 = dp) (e3 : xs.getD (3 + 2) 0 = n) (h : RH1n (U 0) (U 1) (U 2) (xs.getD 3 0) (xs.getD 4 0) (xs.getD 5 0) (xs.getD 6 0) (xs.getD 7 0) (xs.getD 8 0)) : RH2n (U_zq 0) (U_zq 1) (U_zq 2) (xs.getD 3 0) (xs.getD 4 0) (xs.getD 5 0) (xs.getD 6 0) (xs.getD 7 0) (xs.getD 8 0) := by
  subst e1; subst e2; subst e3
  exact rh_copy h1 h (h3 2 (by omega))
theorem rh1_rh2 {U U_zq : Nat → Int → Int} {xs : List Int} {sp dp n : Int} (_ : 0 ≤ sp) (_ : 0 ≤ dp) (_ : 0 ≤ n) (h1 : ∀ j, 0 ≤ j → U_zq 0 j = if dp ≤ j ∧ j < dp + n then U 1 (sp + (j - dp)) else U 0 j) (_ : (∀ j, U_zq 1 j = U 1 j) ∨ ((∀ j, U_zq 1 j = U_zq 0 j) ∧ ∀ j, U 1 j = U 0 j)) (h3 : ∀ i, 2 ≤ i → ∀ j, U_zq i j = U i j) (e1 : xs.getD 3 0 = sp) (e2 : xs.getD (3 + 1) 0 = dp) (e3 : xs.getD (3 + 2) 0 = n) (h : RH1 (U 0) (U 1) (U 2) (xs.getD 3 0) (xs.getD 4 0) (xs.getD 5 0) (xs.getD 6 0) (xs.getD 7 0)) : RH2 (U_zq 0) (U_zq 1) (U_zq 2) (xs.getD 3 0) (xs.getD 4 0) (xs.getD 5 0) (xs.getD 6 0) (xs.getD 7 0) := by
  subst e1; subst e2; subst e3
  exact rh_copy h1 h (h3 2 (by omega))
theorem rh1n_of {d s t : Int → Int} {sp dp n N M i sp_zq dp_zq n_zq N' M_zq i_zq : Int} (h : RT2n t s d sp dp n N M i) (a : sp_zq = sp) (b : dp_zq = dp) (c : n_zq = n) (e : N' = N) (f : M_zq = M) (g : i_zq = i) : RH1n d d t sp_zq dp_zq n_zq N' M_zq i_zq := by
  subst a; subst b; subst c; subst e; subst f; subst g; exact ⟨h, fun _ => rfl⟩
theorem rh1_of {d s t : Int → Int} {sp dp n N M sp_zq dp_zq n_zq N' M_zq : Int} (h : RT2 t s d sp dp n N M) (a : sp_zq = sp) (b : dp_zq = dp) (c : n_zq = n) (e : N' = N) (f : M_zq = M) : RH1 d d t sp_zq dp_zq n_zq N' M_zq := rh1n_of h a b c e f rfl
theorem gke_rh {d s t : Int → Int} {sp dp n N M i N' M_zq : Int} (h : RH2n d s t sp dp n N M i) (e : N' = N) (f : M_zq = M - 1) : GKE N' M_zq t d := by
  subst e; subst f; exact h.1
theorem nos_rh {d s t : Int → Int} {sp dp n N M i M_zq x i_zq : Int} (h : RH2n d s t sp dp n N M i) (f : M_zq = M - 1) (hx : x = dp) (g : i_zq = i) : NOS M_zq t d x i_zq := by
  subst g; subst f; subst hx; exact h.2
/-- a node is taken out -/
def RN1 (m : Int) (tl hd : Int → Int) (i e : Int) : Prop := -1 ≤ e ∧ e < m ∧ NOE tl hd (e + 1) m i
def RN2 (n m : Int) (tl hd : Int → Int) (i e : Int) : Prop := 0 ≤ e ∧ (∀ j, 0 ≤ j → j < e → 0 ≤ tl j ∧ tl j < n - 1 ∧ 0 ≤ hd j ∧ hd j < n - 1 ∧ tl j ≠ hd j) ∧ ∀ j, e ≤ j → j < m → 0 ≤ tl j ∧ tl j < n ∧ 0 ≤ hd j ∧ hd j < n ∧ tl j ≠ hd j ∧ tl j ≠ i ∧ hd j ≠ i
theorem rn1_noq {m i e x y : Int} {tl hd : Int → Int} (h : RN1 m tl hd i e) (hx : x = e) (hy : y = i) : NOQ m tl hd x y := by subst hx; subst hy; exact h.2.2
theorem rn1_keep {m i e e_zq : Int} {tl hd : Int → Int} (h : RN1 m tl hd i e) (e0 : 0 ≤ e) (h1 : tl e ≠ i) (h2 : hd e ≠ i) (he : e_zq = e - 1) : RN1 m tl hd i e_zq := by
  refine ⟨by omega, by have := h.2.1; omega, fun j a b => ?_⟩
  by_cases c : j = e
  · subst c; exact ⟨h1, h2⟩
  · exact h.2.2 j (by omega) b
theorem rn1_drop {m i i_zq e x e_zq : Int} {tl hd : Int → Int} (h : NOS m tl hd x i) (hm : e ≤ m) (hx : x = e) (e0 : 0 ≤ e) (he : e_zq = e - 1) (hi : i_zq = i) : RN1 m tl hd i_zq e_zq := by
  subst hi; exact ⟨by omega, by omega, fun j a b => h j (by omega) b⟩
theorem rn2_start {n m i e e_zq : Int} {tl hd : Int → Int} (h : RN1 m tl hd i e) (hg : GKE n m tl hd) (he : e < 0) (hz : e_zq = 0) : RN2 n m tl hd i e_zq := by
  refine ⟨by omega, fun j a b => by omega, fun j a b => ?_⟩
  have q := hg j (by omega) b
  have r := h.2.2 j (by omega) b
  omega
theorem rn2_step {n m i e e_zq x y p1 p2 : Int} {tl hd tl_zq hd_zq : Int → Int} (h : RN2 n m tl hd i e) (i0 : 0 ≤ i) (i1 : i < n) (he : e < m) (hx : (tl e ≤ i ∧ x = tl e) ∨ (i < tl e ∧ x = tl e - 1)) (hy : (hd e ≤ i ∧ y = hd e) ∨ (i < hd e ∧ y = hd e - 1)) (hs1 : st1 tl tl_zq p1 x) (hp1 : p1 = e) (hs2 : st1 hd hd_zq p2 y) (hp2 : p2 = e) (he_zq : e_zq = e + 1) : RN2 n m tl_zq hd_zq i e_zq := by
  obtain ⟨e0, ha, hb⟩ := h
  refine ⟨by omega, fun j a b => ?_, fun j a b => ?_⟩
  · by_cases c : j = e
    · have q := hb e (by omega) he
      rw [(hs1 j a).1 (by omega), (hs2 j a).1 (by omega)]
      omega
    · rw [(hs1 j a).2 (by omega), (hs2 j a).2 (by omega)]; exact ha j a (by omega)
  · rw [(hs1 j (by omega)).2 (by omega), (hs2 j (by omega)).2 (by omega)]; exact hb j (by omega) b
theorem rn2_end {n m i e n_zq : Int} {tl hd : Int → Int} (h : RN2 n m tl hd i e) (he : m ≤ e) (hn : n_zq = n - 1) : GKE n_zq m tl hd := fun j a b => by
  have q := h.2.1 j a (by omega); omega
theorem rn2_lo {n m i e : Int} {tl hd : Int → Int} (h : RN2 n m tl hd i e) (he : e < m) : 0 ≤ tl e ∧ tl e < n ∧ 0 ≤ hd e ∧ hd e < n ∧ tl e ≠ i ∧ hd e ≠ i := by
  have q := h.2.2 e (by omega) he; omega
/-- a graph is copied -/
def CA1 (d s h : Int → Int) (sp dp n N M : Int) : Prop := sp = 0 ∧ dp = 0 ∧ n = 48 ∧ M ≤ 48 ∧ GKE N M s h
def CA2 (d s h : Int → Int) (sp dp n N M : Int) : Prop := GKE N M d h
def CB1 (d s t : Int → Int) (sp dp n N M : Int) : Prop := sp = 0 ∧ dp = 0 ∧ n = 48 ∧ M ≤ 48 ∧ GKE N M t s
def CB2 (d s t : Int → Int) (sp dp n N M : Int) : Prop := GKE N M t d
theorem ca1_ca2 {U U_zq : Nat → Int → Int} {xs : List Int} {sp dp n : Int} (_ : 0 ≤ sp) (_ : 0 ≤ dp) (_ : 0 ≤ n) (h1 : ∀ j, 0 ≤ j → U_zq 0 j = if dp ≤ j ∧ j < dp + n then U 1 (sp + (j - dp)) else U 0 j) (_ : (∀ j, U_zq 1 j = U 1 j) ∨ ((∀ j, U_zq 1 j = U_zq 0 j) ∧ ∀ j, U 1 j = U 0 j)) (h3 : ∀ i, 2 ≤ i → ∀ j, U_zq i j = U i j) (e1 : xs.getD 3 0 = sp) (e2 : xs.getD (3 + 1) 0 = dp) (e3 : xs.getD (3 + 2) 0 = n) (h : CA1 (U 0) (U 1) (U 2) (xs.getD 3 0) (xs.getD 4 0) (xs.getD 5 0) (xs.getD 6 0) (xs.getD 7 0)) : CA2 (U_zq 0) (U_zq 1) (U_zq 2) (xs.getD 3 0) (xs.getD 4 0) (xs.getD 5 0) (xs.getD 6 0) (xs.getD 7 0) := fun j a b => by
  obtain ⟨q1, q2, q3, q4, hg⟩ := h
  have r1 : sp = 0 := by rw [← e1]; exact q1
  have r2 : dp = 0 := by rw [← e2]; exact q2
  have r3 : n = 48 := by rw [← e3]; exact q3
  rw [h1 j a, if_pos (by omega), h3 2 (by omega), show sp + (j - dp) = j by omega]
  exact hg j a b
theorem cb1_cb2 {U U_zq : Nat → Int → Int} {xs : List Int} {sp dp n : Int} (_ : 0 ≤ sp) (_ : 0 ≤ dp) (_ : 0 ≤ n) (h1 : ∀ j, 0 ≤ j → U_zq 0 j = if dp ≤ j ∧ j < dp + n then U 1 (sp + (j - dp)) else U 0 j) (_ : (∀ j, U_zq 1 j = U 1 j) ∨ ((∀ j, U_zq 1 j = U_zq 0 j) ∧ ∀ j, U 1 j = U 0 j)) (h3 : ∀ i, 2 ≤ i → ∀ j, U_zq i j = U i j) (e1 : xs.getD 3 0 = sp) (e2 : xs.getD (3 + 1) 0 = dp) (e3 : xs.getD (3 + 2) 0 = n) (h : CB1 (U 0) (U 1) (U 2) (xs.getD 3 0) (xs.getD 4 0) (xs.getD 5 0) (xs.getD 6 0) (xs.getD 7 0)) : CB2 (U_zq 0) (U_zq 1) (U_zq 2) (xs.getD 3 0) (xs.getD 4 0) (xs.getD 5 0) (xs.getD 6 0) (xs.getD 7 0) := fun j a b => by
  obtain ⟨q1, q2, q3, q4, hg⟩ := h
  have r1 : sp = 0 := by rw [← e1]; exact q1
  have r2 : dp = 0 := by rw [← e2]; exact q2
  have r3 : n = 48 := by rw [← e3]; exact q3
  rw [h1 j a, if_pos (by omega), h3 2 (by omega), show sp + (j - dp) = j by omega]
  exact hg j a b
theorem cb1_of {d s t t_zq : Int → Int} {a b c sp dp n N M N' M_zq : Int} (h : CA2 t t_zq s a b c N M) (h1 : sp = 0) (h2 : dp = 0) (h3 : n = 48) (h4 : M ≤ 48) (e1 : N' = N) (e2 : M_zq = M) : CB1 d s t sp dp n N' M_zq := by
  subst e1; subst e2; exact ⟨h1, h2, h3, h4, h⟩
theorem gke_cb {d s t : Int → Int} {sp dp n N M N' M_zq : Int} (h : CB2 d s t sp dp n N M) (e1 : N' = N) (e2 : M_zq = M) : GKE N' M_zq t d := by subst e1; subst e2; exact h
def GKN (tl hd : Int → Int) (n m : Int) : Prop := GKE n m tl hd
theorem gkn_of {n m n_zq m_zq : Int} {tl hd : Int → Int} (h : GKE n m tl hd) (e1 : n_zq = n) (e2 : m_zq = m) : GKN tl hd n_zq m_zq := by subst e1; subst e2; exact h
/-- rows of the past -/
theorem gkn_keep {tl hd : Int → Int} {n m n_zq m_zq : Int} (h : GKN tl hd n m) (e1 : n_zq = n) (e2 : m_zq = m) : GKE n_zq m_zq tl hd := by subst e1; subst e2; exact h
def PNI (pa : Int → Int) (r : Int) : Prop := PRI pa r
def PNO (pa : Int → Int) (r : Int) : Prop := PRO pa r
theorem pro_zero {pa : Int → Int} {r : Int} (r1 : r ≤ 30) (h : ∀ j, 0 ≤ j → j < 3782 → pa j = 0) : PRO pa r := fun q a b => by
  have z0 := h (122 * q) (by omega) (by omega)
  have z1 := h (122 * q + 1) (by omega) (by omega)
  exact ⟨by omega, by omega, by omega, by omega, fun i i0 i1 => by omega, fun i i0 i1 => by omega⟩
theorem pro_pdq {dn un r : Int} {pa : Int → Int} (h : PDQ dn un pa) (u0 : 0 ≤ un) (hr : r = dn) : PRO pa r := fun q a b => h (by omega) q a (by omega)
theorem pri_pro {pa : Int → Int} {r r_zq : Int} (h : PRI pa r) (hr : r_zq ≤ r + 1) : PRO pa r_zq := fun q a b => h q a (by omega)
theorem pri_pdq {dn un r : Int} {pa : Int → Int} (h : PRI pa r) (hr : r = dn) (hu : un = 0) : PDQ dn un pa := fun _ q a b => h q a (by omega)
def MV1 (d s : Int → Int) (sp dp n : Int) : Prop := sp = 122 ∧ dp = 0 ∧ n = 3660 ∧ PRI s 30
def MV2 (d s : Int → Int) (sp dp n : Int) : Prop := PRO d 30
theorem mv1_mv2 {Dd S D_zq S_zq : Int → Int} {sp dp n : Int} (_ : 0 ≤ sp) (_ : 0 ≤ dp) (_ : 0 ≤ n) (h1 : ∀ j, 0 ≤ j → D_zq j = if dp ≤ j ∧ j < dp + n then S (sp + (j - dp)) else Dd j) (_ : (∀ j, S_zq j = S j) ∨ ((∀ j, S_zq j = D_zq j) ∧ ∀ j, S j = Dd j)) (h : MV1 Dd S sp dp n) : MV2 D_zq S_zq sp dp n := fun r r0 r1 => by
  obtain ⟨e1, e2, e3, h⟩ := h
  subst e1; subst e2; subst e3
  have hm : ∀ j, 0 ≤ j → j < 3660 → D_zq j = S (j + 122) := fun j a b => by
    rw [h1 j a, if_pos (by omega), show (122 + (j - 0)) = j + 122 by omega]
  have q := h (r + 1) (by omega) (by omega)
  obtain ⟨h0, h1, h2, h3, h4, h5⟩ := q
  have a := hm (122 * r) (by omega) (by omega); have b := hm (122 * r + 1) (by omega) (by omega)
  rw [show 122 * r + 122 = 122 * (r + 1) by omega] at a
  rw [show 122 * r + 1 + 122 = 122 * (r + 1) + 1 by omega] at b
  refine ⟨by omega, by omega, by omega, by omega, fun i i0 i1 => ?_, fun e e0 e1 => ?_⟩
  · rw [hm _ (by omega) (by omega), show 122 * r + 4 + 3 * i + 122 = 122 * (r + 1) + 4 + 3 * i by omega]; exact h4 i i0 (by omega)
  · rw [a, hm (122 * r + 74 + e) (by omega) (by omega), show 122 * r + 74 + e + 122 = 122 * (r + 1) + 74 + e by omega]; exact h5 e e0 (by omega)
end
section
/-- the first edge around a node that has one -/
def LEI (m : Int) (bl tl hd : Int → Int) (v b e : Int) : Prop := ∀ j, 0 ≤ j → j < e → bl j = b → tl j ≠ v ∧ hd j ≠ v
def LEX (m : Int) (bl tl hd : Int → Int) (v b a : Int) : Prop := a = -1 → ∀ j, 0 ≤ j → j < m → bl j = b → tl j ≠ v ∧ hd j ≠ v
theorem lei_step {m v b e e_zq : Int} {bl tl hd : Int → Int} (h : LEI m bl tl hd v b e) (hn : bl e ≠ b ∨ (tl e ≠ v ∧ hd e ≠ v)) (he : e_zq = e + 1) : LEI m bl tl hd v b e_zq := fun j a c d => by
  by_cases q : j = e
  · subst q; rcases hn with z | z
    · exact absurd d z
    · exact z
  · exact h j a (by omega) d
theorem lex_end {m v b e x : Int} {bl tl hd : Int → Int} (h : LEI m bl tl hd v b e) (he : m ≤ e) : LEX m bl tl hd v b x := fun _ j a c d => h j a (by omega) d
theorem lex_some {m v b x : Int} {bl tl hd : Int → Int} (hx : 0 ≤ x) : LEX m bl tl hd v b x := fun q => by omega
def JB5 (m : Int) (bl tl hd : Int → Int) (v b c : Int) : Prop := 0 ≤ c ∧ (c = 0 → ∀ j, 0 ≤ j → j < m → 0 ≤ bl j → bl j < b → tl j ≠ v ∧ hd j ≠ v)
def JB7 (m : Int) (bl tl hd : Int → Int) (v b c e k : Int) : Prop := 1 ≤ c ∨ (k = 0 ∧ JB5 m bl tl hd v b c ∧ LEX m bl tl hd v b e)
theorem jb5_start {m v b c : Int} {bl tl hd : Int → Int} (hb : b = 0) (hc : c = 0) : JB5 m bl tl hd v b c := ⟨by omega, fun _ j _ _ z1 z2 => by omega⟩
theorem jb7_start {m v b c e k : Int} {bl tl hd : Int → Int} (h : JB5 m bl tl hd v b c) (hl : LEX m bl tl hd v b e) (hk : k = 0) : JB7 m bl tl hd v b c e k := Or.inr ⟨hk, h, hl⟩
theorem jb7_more {m v b c e k : Int} {bl tl hd : Int → Int} (hc : 1 ≤ c) : JB7 m bl tl hd v b c e k := Or.inl hc
theorem jb7_c0 {m v b c e k : Int} {bl tl hd : Int → Int} (h : JB7 m bl tl hd v b c e k) : 0 ≤ c := by rcases h with q | ⟨_, q, _⟩; omega; exact q.1
theorem jb5_next {m v b b_zq c e k : Int} {bl tl hd : Int → Int} (h : JB7 m bl tl hd v b c e k) (hx : e = -1 ∨ 1 ≤ k ∨ 1 ≤ c) (hb : b_zq = b + 1) : JB5 m bl tl hd v b_zq c := by
  rcases h with q | ⟨k0, q, l⟩
  · exact ⟨by omega, fun z => by omega⟩
  · by_cases c1 : 1 ≤ c
    · exact ⟨by omega, fun z => by omega⟩
    · refine ⟨q.1, fun z j a d e1 e2 => ?_⟩
      have he : e = -1 := by omega
      by_cases w : bl j = b
      · exact l he j a d w
      · exact q.2 z j a d e1 (by omega)
theorem jb5_some {m v b_zq c : Int} {bl tl hd : Int → Int} (hc : 1 ≤ c) : JB5 m bl tl hd v b_zq c := ⟨by omega, fun z => by omega⟩
def FIL (n : Int) (nr fi : Int → Int) (v : Int) : Prop := ∀ u, 0 ≤ u → u < v → nr u ≠ 0 → 0 ≤ fi u
def FIL1 (n : Int) (nr fi : Int → Int) (v : Int) : Prop := FIL n nr fi (v + 1)
def FIN (n : Int) (nr fi : Int → Int) : Prop := ∀ u, 0 ≤ u → u < n → nr u ≠ 0 → 0 ≤ fi u
theorem fil_start {n v : Int} {nr fi : Int → Int} (hv : v ≤ 0) : FIL n nr fi v := fun u a b => by omega
theorem fil_none {n m v c b b2 p x : Int} {bl tl hd nr fi fi_zq : Int → Int} (h : FIL n nr fi v) (hj : JB5 m bl tl hd v b c) (hc : c = 0) (hN : NOK n m tl hd nr) (hL : LBE m bl tl hd b2) (hb2 : b2 ≤ b) (v0 : 0 ≤ v) (vn : v < n) (hr : 0 ≤ nr v ∧ nr v ≤ 33554431) (hs : st1 fi fi_zq p x) (hp : p = v) {v_zq : Int} (hv : v_zq = v + 1) : FIL n nr fi_zq v_zq := fun u a d z => by
  by_cases q : u = v
  · subst q
    exfalso
    obtain ⟨w, w0, w1, hb⟩ := bit_ex (x := nr u) (by omega) (by omega)
    obtain ⟨e, e0, e1, e2⟩ := hN.2.2.2.2 u w v0 vn w0 w1 hb
    have l := hL.1.1 e e0 e1
    have r := hj.2 hc e e0 e1 l.1 (by omega)
    rcases e2 with e2 | e2
    · exact r.1 e2
    · exact r.2 e2
  · rw [(hs u a).2 (by omega)]; exact h u a (by omega) z
theorem fil_some {n v p x : Int} {nr fi fi_zq : Int → Int} (h : FIL n nr fi v) (hx : 0 ≤ x) (hs : st1 fi fi_zq p x) (hp : p = v) {v_zq : Int} (hv : v_zq = v + 1) : FIL n nr fi_zq v_zq := fun u a d z => by
  by_cases q : u = v
  · rw [(hs u a).1 (by omega)]; exact hx
  · rw [(hs u a).2 (by omega)]; exact h u a (by omega) z
def EFA (n m : Int) (nr fi fo : Int → Int) (a : Int) : Prop := a ≠ 0 → FIN n nr fi ∧ FAD m fo
theorem efa_of {n m v a : Int} {nr fi fo : Int → Int} (h : FIL n nr fi v) (hv : n ≤ v) (hf : FAD m fo) : EFA n m nr fi fo a := fun _ => ⟨fun u a b z => h u a (by omega) z, hf⟩
theorem efa_not {n m a : Int} {nr fi fo : Int → Int} (ha : a = 0) : EFA n m nr fi fo a := fun z => absurd ha z
theorem fin_at {n v x : Int} {nr fi : Int → Int} (h : FIN n nr fi) (v0 : 0 ≤ v) (vn : v < n) (hz : nr v ≠ 0) (hx : x = fi v) : 0 ≤ x := by rw [hx]; exact h v v0 vn hz
theorem fil_next {n v v_zq : Int} {nr fi : Int → Int} (h : FIL1 n nr fi v) (hv : v_zq = v + 1) : FIL n nr fi v_zq := by subst hv; exact h
/-- no more labels than edges -/
theorem pig : ∀ (m c : Nat) (bl : Int → Int), (∀ b : Nat, b < c → ∃ j : Nat, j < m ∧ bl j = b) → c ≤ m
  | 0, c, bl, h => by
    by_cases z : c = 0
    · omega
    · obtain ⟨j, hj, _⟩ := h 0 (by omega); omega
  | m + 1, 0, _, _ => by omega
  | m + 1, c + 1, bl, h => by
    have ih := pig m c (fun j => if bl j = (c : Int) then bl (m : Nat) else bl j) (fun b hb => by
      obtain ⟨j, hj, e⟩ := h b (by omega)
      by_cases q : j < m
      · exact ⟨j, q, by show (if bl j = (c : Int) then bl (m : Nat) else bl j) = _; rw [if_neg (by omega)]; exact e⟩
      · have ej : j = m := by omega
        subst ej
        obtain ⟨j1, hj1, e1⟩ := h c (by omega)
        have n1 : j1 ≠ j := fun z => by subst z; omega
        exact ⟨j1, by omega, by show (if bl j1 = (c : Int) then bl (j : Nat) else bl j1) = _; rw [if_pos e1]; exact e⟩)
    omega
theorem lbl_le {bl : Int → Int} {m c : Int} (h : LBL bl m c) (m0 : 0 ≤ m) : c ≤ m := by
  have q := pig m.toNat c.toNat bl (fun b hb => by
    obtain ⟨j, j0, j1, e⟩ := h.2 b (by omega) (by omega)
    exact ⟨j.toNat, by omega, by rw [Int.toNat_of_nonneg j0]; exact e⟩)
  omega
end
section
/-- what is known of a graph and its net -/
def HFN (n m kn ps bk pl be nn ne : Int) (nr tl hd pt tu nnr fi fo : Int → Int) : Prop := (kn = 0 ∨ (PNC n nr pt ∧ FPA n ps pt ∧ TPO m tl hd tu ∧ BKS n m bk nr tl hd)) ∧ (pl = -1 → be = 0) ∧ (pl = 1 → nn = n ∧ ne = m ∧ FIN nn nnr fi ∧ FAD ne fo)
def HFA (n m kn ps bk pl be nn ne : Int) (nr tl hd pt tu nnr fi fo : Int → Int) (a : Int) : Prop := a = 0 → HFN n m kn ps bk pl be nn ne nr tl hd pt tu nnr fi fo
end
section
/-! the orders of layers as their constructor lists them -/
def sog (m : Int) : Int := if 7 ≤ m then 873 else sof m
def LOG (od : Int → Int) (m : Int) : Prop := ∀ n k i, 1 ≤ n → n ≤ 6 → n < m → 0 ≤ k → k < cof n → 0 ≤ i → i < n → od (sof n + k) / 8 ^ i.toNat % 8 < n
def LOA (od : Int → Int) (m s : Int) : Prop := 1 ≤ m ∧ m ≤ 7 ∧ s = sog m ∧ LOG od m ∧ ∀ j, s ≤ j → j < 873 → od j = 0
def LOP (od : Int → Int) (m s : Int) : Prop := LOA od (m + 1) s
def LOC (od : Int → Int) (m s i : Int) : Prop := (1 ≤ m ∧ m ≤ 6) ∧ (s = sof m ∧ s ≤ i) ∧ LOG od m ∧ (∀ j q, s ≤ j → j < i → 0 ≤ q → q < m → od j / 8 ^ q.toNat % 8 < m) ∧ ∀ j, i ≤ j → j < 873 → od j = 0
def LOE (od : Int → Int) (m s i k : Int) : Prop := (1 ≤ m ∧ m ≤ 6) ∧ (s = sof m ∧ s ≤ i) ∧ LOG od m ∧ (∀ j q, s ≤ j → j < i → 0 ≤ q → q < m → od j / 8 ^ q.toNat % 8 < m) ∧ (∀ j, i < j → j < 873 → od j = 0) ∧ (0 ≤ od i ∧ od i < 8 ^ k.toNat) ∧ ∀ q, 0 ≤ q → q < k → od i / 8 ^ q.toNat % 8 < m
def DGS (d : Int → Int) (n : Int) : Prop := ∀ j, 0 ≤ j → j < n → 0 ≤ d j ∧ d j < n
def DGT (d : Int → Int) (n k : Int) : Prop := ∀ j, 0 ≤ j → j < k → 0 ≤ d j ∧ d j < n
theorem sog_step {m c : Int} (h0 : 1 ≤ m) (h1 : m ≤ 6) (hc : c = cof m) : sog (m + 1) = sof m + c := by
  subst hc
  have hm : m = 1 ∨ m = 2 ∨ m = 3 ∨ m = 4 ∨ m = 5 ∨ m = 6 := by omega
  rcases hm with rfl | rfl | rfl | rfl | rfl | rfl <;> decide
theorem sof_mono {a b : Int} (h0 : 1 ≤ a) (h : a < b) (h1 : b ≤ 6) : sof a + cof a ≤ sof b := by
  have ha : a = 1 ∨ a = 2 ∨ a = 3 ∨ a = 4 ∨ a = 5 := by omega
  have hb : b = 2 ∨ b = 3 ∨ b = 4 ∨ b = 5 ∨ b = 6 := by omega
  rcases ha with rfl | rfl | rfl | rfl | rfl <;> rcases hb with rfl | rfl | rfl | rfl | rfl <;> first | omega | decide
theorem loa_zero {od : Int → Int} {m s : Int} (h : ∀ j, 0 ≤ j → j < 873 → od j = 0) (hm : m = 1) (hs : s = 0) : LOA od m s := by
  subst hm; subst hs
  exact ⟨by decide, by decide, by decide, fun n k i a _ b => by omega, h⟩
theorem loa_ord {od : Int → Int} {m s : Int} (h : LOA od m s) (hm : 7 ≤ m) : ORD od := fun n k i n0 n6 k0 k1 i0 i1 => h.2.2.2.1 n k i n0 n6 (by omega) k0 k1 i0 i1
theorem lop_loa {od : Int → Int} {m m_zq s : Int} (h : LOP od m s) (hm : m_zq = m + 1) : LOA od m_zq s := by subst hm; exact h
theorem loa_loc {od : Int → Int} {m s i : Int} (h : LOA od m s) (hm : m ≤ 6) (hi : i = s) : LOC od m s i := by
  subst hi
  obtain ⟨a, b, c, d, e⟩ := h
  refine ⟨⟨a, hm⟩, ⟨?_, Int.le_refl _⟩, d, fun j q j0 j1 => by omega, e⟩
  rw [c]; unfold sog; rw [if_neg (by omega)]
theorem loc_loe {od : Int → Int} {m s i k c0 : Int} (h : LOC od m s i) (hc : TBC m c0) (hi : i < s + c0) (hk : k = 0) : LOE od m s i k := by
  subst hk
  obtain ⟨a, b, c, d, e⟩ := h
  have hr := cof_rng m
  have hc : c0 = cof m := hc
  have z := e i (Int.le_refl _) (by have := b.1; omega)
  exact ⟨a, b, c, d, fun j hj hj2 => e j (by omega) hj2, ⟨by omega, by rw [z]; decide⟩, fun q q0 q1 => by omega⟩
theorem loe_loc {od : Int → Int} {m s i k i_zq : Int} (h : LOE od m s i k) (hk : m ≤ k) (hi : i_zq = i + 1) : LOC od m s i_zq := by
  subst hi
  obtain ⟨a, b, c, d, e, f, g⟩ := h
  refine ⟨a, ⟨b.1, by omega⟩, c, fun j q j0 j1 q0 q1 => ?_, fun j hj hj2 => e j (by omega) hj2⟩
  by_cases hj : j = i
  · subst hj; exact g q q0 (by omega)
  · exact d j q j0 (by omega) q0 q1
theorem loc_lop {od : Int → Int} {m s i c e : Int} (h : LOC od m s i) (hc : TBC m c) (h1 : e = s + c) (h2 : e ≤ i) (h3 : i ≤ e) : LOP od m e := by
  obtain ⟨⟨a0, a1⟩, ⟨b, _⟩, d, f, g⟩ := h
  have hi : i = e := by omega
  subst hi
  have hc : c = cof m := hc
  refine ⟨by omega, by omega, by rw [sog_step a0 a1 hc]; omega, fun n k q n0 n6 n1 k0 k1 q0 q1 => ?_, g⟩
  by_cases hn : n < m
  · exact d n k q n0 n6 hn k0 k1 q0 q1
  · have hn : n = m := by omega
    subst hn
    exact f (sof n + k) q (by omega) (by omega) q0 q1
theorem loc_rng {od : Int → Int} {m s i c e : Int} (h : LOC od m s i) (hc : TBC m c) (h1 : e = s + c) : 0 ≤ s ∧ s ≤ i ∧ 0 ≤ e ∧ e ≤ 873 := by
  obtain ⟨_, ⟨b, b2⟩, _⟩ := h
  have := cof_rng m
  have hc : c = cof m := hc
  omega
theorem loe_rng {od : Int → Int} {m s i k c e : Int} (h : LOE od m s i k) (hc : TBC m c) (h1 : e = s + c) : 0 ≤ s ∧ s ≤ i ∧ 0 ≤ e ∧ e ≤ 873 := by
  obtain ⟨_, ⟨b, b2⟩, _⟩ := h
  have := cof_rng m
  have hc : c = cof m := hc
  omega
theorem or_dig {v x t d k s three : Int} (hv : bvp v = bvp x ||| bvp t) (ht : bvp t = bvp d <<< s.toNat) (hs : s = three * k) (h3 : three = 3) (k0 : 0 ≤ k) (k5 : k ≤ 5) (d0 : 0 ≤ d) (d7 : d ≤ 7) (x0 : 0 ≤ x) (x1 : x < 8 ^ k.toNat) (v0 : 0 ≤ v) (v1 : v ≤ 2147483647) : v = x + d * 8 ^ k.toNat := by
  subst h3
  have tn : ∀ z : Int, 0 ≤ z → z ≤ 2147483647 → (bvp z).toNat = z.toNat := fun z z0 z1 => by
    unfold bvp; rw [BitVec.toNat_ofInt]
    show (z % 4294967296).toNat = z.toNat
    rw [Int.emod_eq_of_lt z0 (by omega)]
  have e0 : s.toNat = 3 * k.toNat := by omega
  have hk : k.toNat = 0 ∨ k.toNat = 1 ∨ k.toNat = 2 ∨ k.toNat = 3 ∨ k.toNat = 4 ∨ k.toNat = 5 := by omega
  have e1 : (bvp v).toNat = (bvp x).toNat ||| ((bvp d).toNat <<< s.toNat) % 2 ^ 32 := by
    rw [hv, BitVec.toNat_or, ht, BitVec.toNat_shiftLeft]
  have hx : x ≤ 2147483647 := by rcases hk with h | h | h | h | h | h <;> rw [h] at x1 <;> omega
  rw [tn v v0 v1, tn x x0 hx, tn d d0 (by omega), e0] at e1
  have h2 : d.toNat <<< (3 * k.toNat) % 2 ^ 32 = d.toNat <<< (3 * k.toNat) := by
    rw [Nat.shiftLeft_eq]
    rcases hk with h | h | h | h | h | h <;> rw [h] <;> omega
  rw [h2, Nat.or_comm, ← Nat.shiftLeft_add_eq_or_of_lt (by rw [Nat.pow_mul]; show x.toNat < 8 ^ k.toNat; rcases hk with h | h | h | h | h | h <;> rw [h] at x1 ⊢ <;> omega), Nat.shiftLeft_eq, Nat.pow_mul] at e1
  have e1 : v.toNat = d.toNat * 8 ^ k.toNat + x.toNat := e1
  rcases hk with h | h | h | h | h | h <;> rw [h] at e1 ⊢ <;> omega
theorem dig_add {x d : Int} {k q : Nat} (hk : k ≤ 5) (x0 : 0 ≤ x) (x1 : x < 8 ^ k) (d0 : 0 ≤ d) (d7 : d ≤ 7) : (q < k → (x + d * 8 ^ k) / 8 ^ q % 8 = x / 8 ^ q % 8) ∧ (q = k → (x + d * 8 ^ k) / 8 ^ q % 8 = d) ∧ x + d * 8 ^ k < 8 ^ (k + 1) := by
  have hk : k = 0 ∨ k = 1 ∨ k = 2 ∨ k = 3 ∨ k = 4 ∨ k = 5 := by omega
  refine ⟨fun hq => ?_, fun hq => ?_, ?_⟩
  · rcases hk with rfl | rfl | rfl | rfl | rfl | rfl
    · omega
    · have hq : q = 0 := by omega
      subst hq; omega
    · have hq : q = 0 ∨ q = 1 := by omega
      rcases hq with rfl | rfl <;> omega
    · have hq : q = 0 ∨ q = 1 ∨ q = 2 := by omega
      rcases hq with rfl | rfl | rfl <;> omega
    · have hq : q = 0 ∨ q = 1 ∨ q = 2 ∨ q = 3 := by omega
      rcases hq with rfl | rfl | rfl | rfl <;> omega
    · have hq : q = 0 ∨ q = 1 ∨ q = 2 ∨ q = 3 ∨ q = 4 := by omega
      rcases hq with rfl | rfl | rfl | rfl | rfl <;> omega
  · subst hq
    rcases hk with rfl | rfl | rfl | rfl | rfl | rfl <;> omega
  · rcases hk with rfl | rfl | rfl | rfl | rfl | rfl <;> omega
theorem loe_step {od od_zq dg : Int → Int} {m s i k d x t v sh three k_zq : Int} (h : LOE od m s i k) (hd : DGS dg m) (k0 : 0 ≤ k) (k1 : k < m) (hk : k_zq = k + 1) (ed : d = dg k) (ex : x = od i) (ht : bvp t = bvp d <<< sh.toNat) (hs : sh = three * k) (h3 : three = 3) (hv : bvp v = bvp x ||| bvp t) (v0 : 0 ≤ v) (v1 : v ≤ 2147483647) (e : ∀ j, 0 ≤ j → (j = i → od_zq j = v) ∧ (j ≠ i → od_zq j = od j)) : LOE od_zq m s i k_zq := by
  subst hk
  obtain ⟨⟨a0, a1⟩, ⟨b0, b1⟩, c, f, g, ⟨y0, y1⟩, z⟩ := h
  have hr := cof_rng m
  have e1 : od_zq i = v := (e i (by omega)).1 rfl
  have e2 : ∀ j, 0 ≤ j → j ≠ i → od_zq j = od j := fun j hj hn => (e j hj).2 hn
  obtain ⟨d0, d1⟩ := hd k k0 k1
  rw [← ed] at d0 d1
  rw [← ex] at y0 y1 z
  have ev := or_dig hv ht hs h3 k0 (by omega) d0 (by omega) y0 y1 v0 v1
  have hkn : (k + 1).toNat = k.toNat + 1 := by omega
  refine ⟨⟨a0, a1⟩, ⟨b0, b1⟩, fun n k2 q n0 n6 n1 k20 k21 q0 q1 => ?_, fun j q j0 j1 q0 q1 => ?_, fun j hj hj2 => ?_, ⟨by rw [e1]; exact v0, ?_⟩, fun q q0 q1 => ?_⟩
  · have := sof_mono n0 n1 a1
    have hs := cof_rng n
    rw [e2 _ (by omega) (by omega)]; exact c n k2 q n0 n6 n1 k20 k21 q0 q1
  · rw [e2 _ (by omega) (by omega)]; exact f j q j0 j1 q0 q1
  · rw [e2 _ (by omega) (by omega)]; exact g j hj hj2
  · rw [e1, ev, hkn]
    exact (dig_add (q := 0) (by omega) y0 y1 d0 (by omega)).2.2
  · rw [e1, ev]
    have hh := dig_add (x := x) (d := d) (k := k.toNat) (q := q.toNat) (by omega) y0 y1 d0 (by omega)
    by_cases hq : q < k
    · rw [hh.1 (by omega)]; exact z q q0 hq
    · rw [hh.2.1 (by omega)]; exact d1
theorem dgs_swap {d d1 d2 : Int → Int} {n i j a b : Int} (h : DGS d n) (i0 : 0 ≤ i) (i1 : i < n) (j0 : 0 ≤ j) (j1 : j < n) (ha : a = d i) (hb : b = d j) (e : ∀ k, 0 ≤ k → (k = i → d1 k = b) ∧ (k ≠ i → d1 k = d k)) (e_zq : ∀ k, 0 ≤ k → (k = j → d2 k = a) ∧ (k ≠ j → d2 k = d1 k)) : DGS d2 n := by
  intro k k0 k1
  have q1 := h i i0 i1
  have q2 := h j j0 j1
  have q3 := h k k0 k1
  by_cases kj : k = j
  · rw [(e_zq k k0).1 kj, ha]; exact q1
  · rw [(e_zq k k0).2 kj]
    by_cases ki : k = i
    · rw [(e k k0).1 ki, hb]; exact q2
    · rw [(e k k0).2 ki]; exact q3
theorem dgt_zero {d : Int → Int} {n k : Int} (hk : k = 0) : DGT d n k := fun j j0 j1 => by omega
theorem dgt_step {d d_zq : Int → Int} {n k k_zq : Int} (h : DGT d n k) (k0 : 0 ≤ k) (k1 : k < n) (hk : k_zq = k + 1) (e : ∀ j, 0 ≤ j → (j = k → d_zq j = k) ∧ (j ≠ k → d_zq j = d j)) : DGT d_zq n k_zq := fun j j0 j1 => by
  by_cases hj : j = k
  · rw [(e j j0).1 hj]; omega
  · rw [(e j j0).2 hj]; exact h j j0 (by omega)
theorem dgt_dgs {d : Int → Int} {n k : Int} (h : DGT d n k) (hk : n ≤ k) : DGS d n := fun j j0 j1 => h j j0 (by omega)
theorem dgs_eq {d : Int → Int} {n m : Int} (h : DGS d n) (e : m = n) : DGS d m := by subst e; exact h
end
section
/-! Integer.bitCount, exactly, at what is all ones below a place -/
def BCf (b : BitVec 32) : BitVec 32 :=
  let c := b - ((b >>> 1) &&& 1431655765#32)
  let d := (c &&& 858993459#32) + ((c >>> 2) &&& 858993459#32)
  let e := (d + (d >>> 4)) &&& 252645135#32
  let f := e + (e >>> 8)
  let g := f + (f >>> 16)
  g &&& 63#32
theorem bv_add (a b : Int) : bv (a + b) = bv a + bv b := by unfold bv; rw [BitVec.ofInt_add]
theorem bv_sub (a b : Int) : bv (a - b) = bv a - bv b := by
  rw [show a - b = a + -b by omega, bv_add, BitVec.sub_eq_add_neg]
  unfold bv; rw [BitVec.ofInt_neg]
theorem bct_of {x an a1 a2 a3 a4 a5 a6 a7 a8 a9 a10 a11 a12 a13 a14 k1 k2 k4 k8 k16 k63 c1 c2 c3 c4 : Int} (h15 : bv an = bv a14 &&& bv k63) (h14 : a14 = a12 + a13) (h13 : bv a13 = bv a12 >>> k16.toNat) (h12 : a12 = a10 + a11) (h11 : bv a11 = bv a10 >>> k8.toNat) (h10 : bv a10 = bv a9 &&& bv c4) (h9 : a9 = a7 + a8) (h8 : bv a8 = bv a7 >>> k4.toNat) (h7 : a7 = a4 + a6) (h4 : bv a4 = bv a3 &&& bv c2) (h6 : bv a6 = bv a5 &&& bv c3) (h5 : bv a5 = bv a3 >>> k2.toNat) (h3 : a3 = x - a2) (h2 : bv a2 = bv a1 &&& bv c1) (h1 : bv a1 = bv x >>> k1.toNat)
    (e1 : k1 = 1) (e2 : k2 = 2) (e4 : k4 = 4) (e8 : k8 = 8) (e16 : k16 = 16) (e63 : k63 = 63) (f1 : c1 = 1431655765) (f2 : c2 = 858993459) (f3 : c3 = 858993459) (f4 : c4 = 252645135) (an0 : 0 ≤ an) (an1 : an ≤ 63) : BCT x an := by
  subst e1 e2 e4 e8 e16 e63 f1 f2 f3 f4
  have hB : bv an = BCf (bv x) := by
    have b3 : bv a3 = bv x - ((bv x >>> 1) &&& 1431655765#32) := by rw [h3, bv_sub, h2, h1]; rfl
    have b7 : bv a7 = (bv a3 &&& 858993459#32) + ((bv a3 >>> 2) &&& 858993459#32) := by rw [h7, bv_add, h4, h6, h5]; rfl
    have b10 : bv a10 = (bv a7 + (bv a7 >>> 4)) &&& 252645135#32 := by rw [h10, h9, bv_add, h8]; rfl
    have b12 : bv a12 = bv a10 + (bv a10 >>> 8) := by rw [h12, bv_add, h11]; rfl
    have b14 : bv a14 = bv a12 + (bv a12 >>> 16) := by rw [h14, bv_add, h13]; rfl
    rw [h15, b14, b12, b10, b7, b3]; rfl
  have t : ∀ z : Int, 0 ≤ z → z ≤ 63 → (bv z).toInt = z := fun z z0 z1 => by
    unfold bv; rw [BitVec.toInt_ofInt]; unfold Int.bmod; simp only; split <;> omega
  refine ⟨fun k hk e => ?_, fun x0 x1 => ?_⟩
  · have : ∀ k : Nat, k < 26 → BCf (bv ((2 : Int) ^ k - 1)) = bv (k : Int) := by decide +kernel
    rw [e, this k (by omega)] at hB
    have := t an an0 an1
    have := t k (by omega) (by omega)
    rw [← hB] at this
    omega
  · have q : ∀ k : Nat, k < 64 → BCf (bv (k : Int)) = bv ((cnN k 6 : Nat) : Int) ∧ cnN k 6 ≤ 63 := by decide +kernel
    have q1 := q x.toNat (by omega)
    rw [show ((x.toNat : Nat) : Int) = x by omega] at q1
    rw [q1.1] at hB
    have := t an an0 an1
    have := t ((cnN x.toNat 6 : Nat) : Int) (by omega) (by omega)
    rw [← hB] at this
    omega
/-! arraycopy, and what it copies: predicates of the two arrays before and behind it -/
theorem cpy_el {f g : Nat → Int32} {sp dp n : Nat} (j : Nat) : (va_cpy f g sp dp n j).toInt = if dp ≤ j ∧ j < dp + n then (f (sp + (j - dp))).toInt else (g j).toInt := by
  unfold va_cpy
  split <;> rfl
def pa2 (A B : Int → Int) : Nat → Nat → Int → Int := fun i _ z => match i with
  | 0 => A z
  | 1 => B z
  | _ => 0
theorem pa2_of {ws : va_W} {v0 v1 : Value} {xs : List Value} : (fun (i : Nat) (_ : Nat) (z : Int) => match (v0 :: v1 :: xs)[i]? with | some x => if i < (2 : Int).toNat then w_ei ws (v_ad x) z else 0 | none => 0) = pa2 (w_ei ws (v_ad v0)) (w_ei ws (v_ad v1)) := by
  funext i k z
  match i with
  | 0 => rfl
  | 1 => rfl
  | i + 2 =>
    show (match xs[i]? with | some x => if i + 2 < (2 : Int).toNat then w_ei ws (v_ad x) z else 0 | none => 0) = 0
    cases xs[i]? with
    | none => rfl
    | some x => show (if i + 2 < (2 : Int).toNat then _ else 0) = _; rw [if_neg (by show ¬ i + 2 < 2; omega)]
def gi5 (m : Nat) : List Nat := (List.range m).map (fun i => i + 5)
theorem gi5_map {a b d e f : Value} {hv : List Value} : (gi5 hv.length).map (n_v ([a, b, d, e, f] ++ [] ++ hv)) = hv := by
  apply List.ext_getElem
  · unfold gi5; rw [List.length_map, List.length_map, List.length_range]
  · intro i h1 h2
    have e : ((gi5 hv.length).map (n_v ([a, b, d, e, f] ++ [] ++ hv)))[i] = n_v ([a, b, d, e, f] ++ [] ++ hv) (i + 5) := by simp [gi5]
    rw [e]
    show (hv[i]?).getD .null = hv[i]
    rw [List.getElem?_eq_getElem h2]; rfl
theorem w_el_i {A : Nat → Prop} {ws : va_W} (hD : va_D A ws) {a k n : Nat} {cl : ClassId} {f : Nat → Int32} (h : ws[k]? = some (a, .inl (cl, n, .inl f))) (j : Nat) : w_el ws a j = (f j).toInt := by
  unfold w_el
  rw [w_at_mem hD (List.mem_of_getElem? h)]
section
variable {PQ : pq_T}
theorem cl_copyT {l : Launch} {D : va_G} {kA : Nat → ClassId} {G : List rg_T} {own : String} {index r1 r2 n1 m1 n2 m2 rk k1 k2 : Nat} {lo1 hi1 lo2 hi2 p1 p2 p3 : Int} {rs1 rs2 : List Nat} {gk : List tv_T} (hg1 : G[r1]? = some (0, n1, m1, (0, lo1, hi1, rs1), [])) (hg2 : G[r2]? = some (0, n2, m2, (0, lo2, hi2, rs2), [])) (hle : (lo2 ≤ lo1 ∧ hi1 ≤ hi2) ∨ ∀ (Dd S : Int → Int) (sp dp n : Int) (gs : List Int), 0 ≤ sp → 0 ≤ dp → 0 ≤ n → PQ.1 k1 (fun _ _ => 0) (pa2 Dd S) (0 :: 0 :: sp :: dp :: n :: gs) → ∀ j, 0 ≤ j → j < n → lo2 ≤ S (sp + j) ∧ S (sp + j) ≤ hi2)
    (hT : ∀ (Dd S D_zq S_zq : Int → Int) (sp dp n : Int) (gs : List Int), 0 ≤ sp → 0 ≤ dp → 0 ≤ n → (∀ j, 0 ≤ j → D_zq j = if dp ≤ j ∧ j < dp + n then S (sp + (j - dp)) else Dd j) → ((∀ j, S_zq j = S j) ∨ ((∀ j, S_zq j = D_zq j) ∧ ∀ j, S j = Dd j)) → PQ.1 k1 (fun _ _ => 0) (pa2 Dd S) (0 :: 0 :: sp :: dp :: n :: gs) → PQ.1 k2 (fun _ _ => 0) (pa2 D_zq S_zq) (0 :: 0 :: sp :: dp :: n :: gs))
    (hl : Cond.methodLink own index arraycopyName ∈ lw_g) (hnat : Cond.native arraycopyName ∈ lw_g) (hst : Cond.static arraycopyName ∈ lw_g) (hini : Cond.initialized "java/lang/System" ∈ lw_g) :
    cl_ok PQ l D kA G own (.invokestatic index) 3 ([(2, 0, 0, [r1]), (0, 0, p1, []), (2, 0, 0, [r2]), (0, 0, p2, []), (0, 0, p3, [])], none, false, rk, 0, 0, [], [], (2 ^ r2, [], [(21, [1, 4], [(n1 : Int)]), (21, [3, 4], [(n2 : Int)]), (20, 2 :: 0 :: 1 :: 3 :: 4 :: gi5 gk.length, [61, 2, (k1 : Int)])], [(20, 2 :: 0 :: 1 :: 3 :: 4 :: gi5 gk.length, [61, 2, (k2 : Int)])], gk)) := by
  intro p e R s m args below meth c H locs cells slots Q cc pc nL ret nm A ws ta ls av gv hv rest X hK hN hA hP hD hS hth hag hgv hhv hpr hrest hfr hlo hce hsl hls hdec kk
  have hag_zq : ag_ok ta [(2, 0, 0, [r1]), (0, 0, p1, []), (2, 0, 0, [r2]), (0, 0, p2, []), (0, 0, p3, [])] av := hag
  have hgl : hv.length = gk.length := ag_len hhv
  cases gv with
  | cons _ _ => exact hgv.elim
  | nil =>
  match av, hag_zq with
  | [v0, v1, v2, v3, v4], ⟨h0, h1, h2, h3, h4, _⟩ =>
    obtain ⟨a0, q0r, rfl, ha0, hr0⟩ := tv_ref h0 rfl
    obtain ⟨sp, rfl, sp1, sp2⟩ := tv_int h1 rfl
    obtain ⟨a1, q1r, rfl, ha1, hr1⟩ := tv_ref h2 rfl
    obtain ⟨dp, rfl, dp1, dp2⟩ := tv_int h3 rfl
    obtain ⟨n, rfl, nn1, nn2⟩ := tv_int h4 rfl
    rw [List.mem_singleton.mp hr0] at ha0
    rw [List.mem_singleton.mp hr1] at ha1
    have e1 : v_iv (.int sp) + v_iv (.int n) ≤ n1 := (hpr (21, [1, 4], [(n1 : Int)]) List.mem_cons_self).2
    have e2 : v_iv (.int dp) + v_iv (.int n) ≤ n2 := (hpr (21, [3, 4], [(n2 : Int)]) (List.mem_cons_of_mem _ List.mem_cons_self)).2
    have e3 := (hpr (20, 2 :: 0 :: 1 :: 3 :: 4 :: gi5 gk.length, [61, 2, (k1 : Int)]) (List.mem_cons_of_mem _ (List.mem_cons_of_mem _ List.mem_cons_self))).2
    have e1_zq : sp.toInt + n.toInt ≤ n1 := e1
    have e2_zq : dp.toInt + n.toInt ≤ n2 := e2
    have sp0 : 0 ≤ sp.toInt := sp1
    have dp0 : 0 ≤ dp.toInt := dp1
    have n0 : 0 ≤ n.toInt := nn1
    -- what is known before
    have pre : PQ.1 k1 (fun _ _ => 0) (pa2 (w_ei ws a1) (w_ei ws a0)) (0 :: 0 :: sp.toInt :: dp.toInt :: n.toInt :: hv.map v_iv) := by
      have e4 : PQ.1 ((k1 : Int)).toNat (fun _ _ => 0) (fun (i : Nat) (_ : Nat) (z : Int) => match ((2 :: 0 :: 1 :: 3 :: 4 :: gi5 gk.length).map (n_v ([.ref a0, .int sp, .ref a1, .int dp, .int n] ++ [] ++ hv)))[i]? with | some x => if i < (2 : Int).toNat then w_ei ws (v_ad x) z else 0 | none => 0) (((2 :: 0 :: 1 :: 3 :: 4 :: gi5 gk.length).map (n_v ([.ref a0, .int sp, .ref a1, .int dp, .int n] ++ [] ++ hv))).map v_iv) := e3
      have e5 : (2 :: 0 :: 1 :: 3 :: 4 :: gi5 gk.length).map (n_v ([.ref a0, .int sp, .ref a1, .int dp, .int n] ++ [] ++ hv)) = .ref a1 :: .ref a0 :: .int sp :: .int dp :: .int n :: hv := by
        rw [List.map_cons, List.map_cons, List.map_cons, List.map_cons, List.map_cons, ← hgl, gi5_map]; rfl
      rw [e5, pa2_of, Int.toNat_natCast] at e4
      exact e4
    obtain ⟨i0, c0, hq0, hgo0⟩ := th_at hth ha0 hg1
    obtain ⟨i1, c1, hq1, hgo1⟩ := th_at hth ha1 hg2
    rcases hgo0 with ⟨_, l0, f, rfl, la1, la2, _, hf, _⟩ | ⟨z, _⟩ | ⟨z, _⟩ | ⟨z, _⟩
    rotate_left
    · exact absurd z (by show ¬ (0 : Nat) = 3; omega)
    · exact absurd z (by show ¬ 4 ≤ (0 : Nat); omega)
    · exact absurd z (by show ¬ 10 ≤ (0 : Nat); omega)
    rcases hgo1 with ⟨z1, l1, g, rfl, lb1, lb2, lb3, hg, hg_zq⟩ | ⟨z, _⟩ | ⟨z, _⟩ | ⟨z, _⟩
    rotate_left
    · exact absurd z (by show ¬ (0 : Nat) = 3; omega)
    · exact absurd z (by show ¬ 4 ≤ (0 : Nat); omega)
    · exact absurd z (by show ¬ 10 ≤ (0 : Nat); omega)
    have la1_zq : n1 ≤ l0 := la1
    have lb1_zq : n2 ≤ l1 := lb1
    have lt0 : ∀ x : Int32, 0 ≤ x.toInt → ¬ x < 0 := fun x hx q => by have h7 := i32_lt.mp q; rw [show (0 : Int32).toInt = 0 from rfl] at h7; omega
    have tn : ∀ x : Int32, x.toNatClampNeg = x.toInt.toNat := fun _ => rfl
    have hml : c.maxLocals = ls.size := X.2.2.1.trans hls.symm
    have room : (rest.map fun v => v.category).sum + (nativeFrameWords "java/lang/System" "arraycopy" 5 + 11) ≤ R.locals := by
      have : nativeFrameWords "java/lang/System" "arraycopy" 5 ≤ 30 := by decide +kernel
      have h64 : 64 * (rk + 1) ≤ R.locals := hlo
      omega
    have hfr1 : 1 ≤ R.frames := by have : rk + 1 ≤ R.frames := hfr; omega
    have lt1 : i1 < ws.length := (List.getElem?_eq_some_iff.mp hq1).1
    have fin : ∀ (H1 : Heap) (locs1 : List Loc), va_P D classes (ws.set i1 (a1, .inl (kA 0, l1, .inl (va_cpy f g sp.toNatClampNeg dp.toNatClampNeg n.toNatClampNeg)))) H1 → va_D A (ws.set i1 (a1, .inl (kA 0, l1, .inl (va_cpy f g sp.toNatClampNeg dp.toNatClampNeg n.toNatClampNeg)))) → va_S A s.heap H1 locs1 → W p l e R s m args below meth c H1 locs1 cells slots Q (F0 m (pc + 3) ls rest) := fun H1 locs1 g1 g2 g3 => by
      have hnew : (ws.set i1 (a1, .inl (kA 0, l1, .inl (va_cpy f g sp.toNatClampNeg dp.toNatClampNeg n.toNatClampNeg))))[i1]? = some (a1, .inl (kA 0, l1, .inl (va_cpy f g sp.toNatClampNeg dp.toNatClampNeg n.toNatClampNeg))) := by rw [List.getElem?_set_self lt1]
      obtain ⟨w1, hw1⟩ : ∃ w1, w1 = ws.set i1 (a1, .inl (kA 0, l1, .inl (va_cpy f g sp.toNatClampNeg dp.toNatClampNeg n.toNatClampNeg))) := ⟨_, rfl⟩
      have post : PQ.1 k2 (fun _ _ => 0) (pa2 (w_ei w1 a1) (w_ei w1 a0)) (0 :: 0 :: sp.toInt :: dp.toInt :: n.toInt :: hv.map v_iv) := by
        refine hT (w_ei ws a1) (w_ei ws a0) (w_ei w1 a1) (w_ei w1 a0) sp.toInt dp.toInt n.toInt (hv.map v_iv) sp0 dp0 n0 (fun j j0 => ?_) ?_ pre
        · show w_el w1 a1 j.toNat = if dp.toInt ≤ j ∧ j < dp.toInt + n.toInt then w_el ws a0 (sp.toInt + (j - dp.toInt)).toNat else w_el ws a1 j.toNat
          rw [hw1, w_el_i g2 hnew, w_el_i hD hq0, w_el_i hD hq1, cpy_el, tn, tn, tn]
          by_cases hc : dp.toInt ≤ j ∧ j < dp.toInt + n.toInt
          · rw [if_pos hc, if_pos (by omega), show sp.toInt.toNat + (j.toNat - dp.toInt.toNat) = (sp.toInt + (j - dp.toInt)).toNat by omega]
          · rw [if_neg hc, if_neg (by omega)]
        · by_cases hi : i0 = i1
          · right
            subst hi
            rw [hq0] at hq1
            have ea : a0 = a1 := by have := Option.some.inj hq1; injection this
            subst ea
            exact ⟨fun _ => rfl, fun _ => rfl⟩
          · left
            intro j
            show w_el w1 a0 j.toNat = w_el ws a0 j.toNat
            have hold : (ws.set i1 (a1, .inl (kA 0, l1, .inl (va_cpy f g sp.toNatClampNeg dp.toNatClampNeg n.toNatClampNeg))))[i0]? = some (a0, .inl (kA 0, l0, .inl f)) := by rw [List.getElem?_set_ne (fun q => hi q.symm)]; exact hq0
            rw [hw1, w_el_i g2 hold, w_el_i hD hq0]
      refine kk ta _ H1 locs1 none (fun _ _ q => q) (th_set hD hth hq1 ha1 hg2 (Or.inl ⟨(by show (0 : Nat) < 3; omega), l1, _, rfl, lb1, lb2, lb3, fun j hj => ?_, fun j t_zq hj ht_zq => by cases ht_zq⟩)) g1 g2 g3 trivial ⟨fun f hf => ?_, Or.inl rfl⟩ (fun q => by cases q) (kp_arr hq1 ha1 (by show (2 ^ r2).testBit r2 = true; rw [Nat.testBit_two_pow_self]))
      · unfold va_cpy
        split
        · rename_i hc
          have hin : j < l1 := hj
          have hcn : sp.toNatClampNeg + (j - dp.toNatClampNeg) < l0 := by rw [tn, tn] at *; omega
          have hb : lo2 ≤ (f (sp.toNatClampNeg + (j - dp.toNatClampNeg))).toInt ∧ (f (sp.toNatClampNeg + (j - dp.toNatClampNeg))).toInt ≤ hi2 := by
            rcases hle with hle | hle
            · have := tv_rng (hf _ hcn)
              have q : lo1 ≤ (f (sp.toNatClampNeg + (j - dp.toNatClampNeg))).toInt := this.1
              have q2 : (f (sp.toNatClampNeg + (j - dp.toNatClampNeg))).toInt ≤ hi1 := this.2
              omega
            · have q := hle _ _ _ _ _ _ sp0 dp0 n0 pre ((j : Int) - dp.toInt) (by rw [tn, tn] at *; omega) (by rw [tn, tn] at *; omega)
              have e : w_ei ws a0 (sp.toInt + ((j : Int) - dp.toInt)) = (f (sp.toNatClampNeg + (j - dp.toNatClampNeg))).toInt := by
                show w_el ws a0 (sp.toInt + ((j : Int) - dp.toInt)).toNat = _
                rw [w_el_i hD hq0, tn, tn, show (sp.toInt + ((j : Int) - dp.toInt)).toNat = sp.toInt.toNat + (j - dp.toInt.toNat) by rw [tn, tn] at *; omega]
              rw [e] at q; exact q
          exact Or.inl ⟨rfl, _, rfl, hb.1, hb.2⟩
        · exact hg j hj
      · obtain rfl := List.mem_singleton.mp hf
        rw [← hw1]
        have e5 : (2 :: 0 :: 1 :: 3 :: 4 :: gi5 gk.length).map (n_v ([.ref a0, .int sp, .ref a1, .int dp, .int n] ++ [] ++ hv ++ (none : Option Value).toList)) = .ref a1 :: .ref a0 :: .int sp :: .int dp :: .int n :: hv := by
          rw [show (none : Option Value).toList = [] from rfl, List.append_nil, List.map_cons, List.map_cons, List.map_cons, List.map_cons, List.map_cons, ← hgl, gi5_map]; rfl
        refine ⟨fun q hq => ?_, ?_⟩
        · show q < ([Value.ref a0, .int sp, .ref a1, .int dp, .int n] ++ [] ++ hv ++ (none : Option Value).toList).length
          have hl : ([Value.ref a0, .int sp, .ref a1, .int dp, .int n] ++ [] ++ hv ++ (none : Option Value).toList).length = 5 + gk.length := by
            rw [← hgl]; simp; omega
          rw [hl]
          have hq_zq : q ∈ 2 :: 0 :: 1 :: 3 :: 4 :: gi5 gk.length := hq
          simp only [List.mem_cons] at hq_zq
          rcases hq_zq with h | h | h | h | h | h
          · omega
          · omega
          · omega
          · omega
          · omega
          · unfold gi5 at h
            obtain ⟨i, hi, e⟩ := List.mem_map.mp h
            have := List.mem_range.mp hi
            omega
        · show PQ.1 ((k2 : Int)).toNat (fun _ _ => 0) (fun (i : Nat) (_ : Nat) (z : Int) => match ((2 :: 0 :: 1 :: 3 :: 4 :: gi5 gk.length).map (n_v ([.ref a0, .int sp, .ref a1, .int dp, .int n] ++ [] ++ hv ++ (none : Option Value).toList)))[i]? with | some x => if i < (2 : Int).toNat then w_ei w1 (v_ad x) z else 0 | none => 0) (((2 :: 0 :: 1 :: 3 :: 4 :: gi5 gk.length).map (n_v ([.ref a0, .int sp, .ref a1, .int dp, .int n] ++ [] ++ hv ++ (none : Option Value).toList))).map v_iv)
          rw [e5, pa2_of, Int.toNat_natCast]
          exact post
    exact va_copyi X.1 X.2.1 hml X.2.2.2.1 (X.2.2.2.2.1 _ hl) (X.2.2.2.2.1 _ hnat) (X.2.2.2.2.1 _ hst) (X.2.2.2.2.1 _ hini) hK hP hD hS i0 i1 0 0 hq0 hq1 rfl rfl rfl (lt0 _ sp0) (lt0 _ dp0) (lt0 _ n0) (by rw [tn, tn]; omega) (by rw [tn, tn]; omega) (fun i hi => rfl) hfr1 room hdec fin
end
end
section
/-! arraycopy, what it copies, and what lies beside it: predicates over further arrays of other regions -/
def cpu_ok (nl : List Nat) (na r2 : Nat) (gk : List tv_T) : Bool := decide (nl[0]? = some 2) && decide (nl[1]? = some 0) && decide (nl[na]? = some 1) && decide (nl[na + 1]? = some 3) && decide (nl[na + 2]? = some 4) && decide (2 ≤ na) && nl.all (fun q => decide (q < 5 + gk.length)) && (List.range na).all (fun i => decide (i < 2) || (match nl[i]? with | some q => decide (5 ≤ q) && (match gk[q - 5]? with | some t => decide (t.1 = 2) && t.2.2.2.all (fun r => decide (r ≠ r2)) | none => false) | none => false))
def vwU (ws : va_W) (na : Nat) (X : List Value) (i : Nat) (z : Int) : Int := match X[i]? with
  | some x => if i < na then w_ei ws (v_ad x) z else 0
  | none => 0
theorem ag_get {ta : Nat → Option Nat} : ∀ {ts : List tv_T} {vs : List Value}, ag_ok ta ts vs → ∀ {i : Nat} {t : tv_T}, ts[i]? = some t → ∃ v, vs[i]? = some v ∧ tv_ok ta t v
  | [], [], _, i, t, h => by cases h
  | t :: ts, v :: vs, hh, 0, t_zq, h => ⟨v, rfl, by have e : t = t_zq := Option.some.inj h; rw [← e]; exact hh.1⟩
  | t :: ts, v :: vs, hh, i + 1, t_zq, h => ag_get (ts := ts) (vs := vs) hh.2 (i := i) h
  | [], _ :: _, hh, _, _, _ => hh.elim
  | _ :: _, [], hh, _, _, _ => hh.elim
theorem w_el_ne {A2 : Nat → Prop} {ws : va_W} {q0 ad : Nat} {e0 e1 : va_E} (hD1 : va_D A2 (ws.set q0 (ad, e1))) (h : ws[q0]? = some (ad, e0)) {b : Nat} (hb : b ≠ ad) (j : Nat) : w_el (ws.set q0 (ad, e1)) b j = w_el ws b j := by
  unfold w_el
  rw [w_at_set (A1 := A2) hD1 h b, if_neg hb]
section
variable {PQ : pq_T}
theorem cl_copyU {l : Launch} {D : va_G} {kA : Nat → ClassId} {G : List rg_T} {own : String} {index r1 r2 n1 m1 n2 m2 rk k1 k2 na : Nat} {lo1 hi1 lo2 hi2 p1 p2 p3 : Int} {rs1 rs2 : List Nat} {gk : List tv_T} {nl : List Nat} (hg1 : G[r1]? = some (0, n1, m1, (0, lo1, hi1, rs1), [])) (hg2 : G[r2]? = some (0, n2, m2, (0, lo2, hi2, rs2), [])) (hok : cpu_ok nl na r2 gk = true) (hle : (lo2 ≤ lo1 ∧ hi1 ≤ hi2) ∨ ∀ (U : Nat → Int → Int) (xs : List Int) (sp dp n : Int), 0 ≤ sp → 0 ≤ dp → 0 ≤ n → xs.getD na 0 = sp → xs.getD (na + 1) 0 = dp → xs.getD (na + 2) 0 = n → PQ.1 k1 (fun _ _ => 0) (fun i _ => U i) xs → ∀ j, 0 ≤ j → j < n → lo2 ≤ U 1 (sp + j) ∧ U 1 (sp + j) ≤ hi2)
    (hT : ∀ (U U_zq : Nat → Int → Int) (xs : List Int) (sp dp n : Int), 0 ≤ sp → 0 ≤ dp → 0 ≤ n → (∀ j, 0 ≤ j → U_zq 0 j = if dp ≤ j ∧ j < dp + n then U 1 (sp + (j - dp)) else U 0 j) → ((∀ j, U_zq 1 j = U 1 j) ∨ ((∀ j, U_zq 1 j = U_zq 0 j) ∧ ∀ j, U 1 j = U 0 j)) → (∀ i, 2 ≤ i → ∀ j, U_zq i j = U i j) → xs.getD na 0 = sp → xs.getD (na + 1) 0 = dp → xs.getD (na + 2) 0 = n → PQ.1 k1 (fun _ _ => 0) (fun i _ => U i) xs → PQ.1 k2 (fun _ _ => 0) (fun i _ => U_zq i) xs)
    (hl : Cond.methodLink own index arraycopyName ∈ lw_g) (hnat : Cond.native arraycopyName ∈ lw_g) (hst : Cond.static arraycopyName ∈ lw_g) (hini : Cond.initialized "java/lang/System" ∈ lw_g) :
    cl_ok PQ l D kA G own (.invokestatic index) 3 ([(2, 0, 0, [r1]), (0, 0, p1, []), (2, 0, 0, [r2]), (0, 0, p2, []), (0, 0, p3, [])], none, false, rk, 0, 0, [], [], (2 ^ r2, [], [(21, [1, 4], [(n1 : Int)]), (21, [3, 4], [(n2 : Int)]), (20, nl, [61, (na : Int), (k1 : Int)])], [(20, nl, [61, (na : Int), (k2 : Int)])], gk)) := by
  intro p e R s m args below meth c H locs cells slots Q cc pc nL ret nm A ws ta ls av gv hv rest X hK hN hA hP hD hS hth hag hgv hhv hpr hrest hfr hlo hce hsl hls hdec kk
  have hag_zq : ag_ok ta [(2, 0, 0, [r1]), (0, 0, p1, []), (2, 0, 0, [r2]), (0, 0, p2, []), (0, 0, p3, [])] av := hag
  have hgl : hv.length = gk.length := ag_len hhv
  cases gv with
  | cons _ _ => exact hgv.elim
  | nil =>
  match av, hag_zq with
  | [v0, v1, v2, v3, v4], ⟨h0, h1, h2, h3, h4, _⟩ =>
    obtain ⟨a0, q0r, rfl, ha0, hr0⟩ := tv_ref h0 rfl
    obtain ⟨sp, rfl, sp1, sp2⟩ := tv_int h1 rfl
    obtain ⟨a1, q1r, rfl, ha1, hr1⟩ := tv_ref h2 rfl
    obtain ⟨dp, rfl, dp1, dp2⟩ := tv_int h3 rfl
    obtain ⟨n, rfl, nn1, nn2⟩ := tv_int h4 rfl
    rw [List.mem_singleton.mp hr0] at ha0
    rw [List.mem_singleton.mp hr1] at ha1
    have e1 : v_iv (.int sp) + v_iv (.int n) ≤ n1 := (hpr (21, [1, 4], [(n1 : Int)]) List.mem_cons_self).2
    have e2 : v_iv (.int dp) + v_iv (.int n) ≤ n2 := (hpr (21, [3, 4], [(n2 : Int)]) (List.mem_cons_of_mem _ List.mem_cons_self)).2
    have e3 := (hpr (20, nl, [61, (na : Int), (k1 : Int)]) (List.mem_cons_of_mem _ (List.mem_cons_of_mem _ List.mem_cons_self))).2
    have e1_zq : sp.toInt + n.toInt ≤ n1 := e1
    have e2_zq : dp.toInt + n.toInt ≤ n2 := e2
    have sp0 : 0 ≤ sp.toInt := sp1
    have dp0 : 0 ≤ dp.toInt := dp1
    have n0 : 0 ≤ n.toInt := nn1
    -- what is known before
    unfold cpu_ok at hok
    simp only [Bool.and_eq_true, decide_eq_true_eq] at hok
    obtain ⟨⟨⟨⟨⟨⟨⟨o0, o1⟩, o2⟩, o3⟩, o4⟩, o5⟩, o6⟩, o7⟩ := hok
    obtain ⟨XV, hXV⟩ : ∃ XV, XV = nl.map (n_v ([.ref a0, .int sp, .ref a1, .int dp, .int n] ++ [] ++ hv)) := ⟨_, rfl⟩
    have xg : ∀ {i q : Nat}, nl[i]? = some q → XV[i]? = some (n_v ([.ref a0, .int sp, .ref a1, .int dp, .int n] ++ [] ++ hv) q) := fun {i q} h => by rw [hXV, List.getElem?_map, h]; rfl
    have x0 : XV[0]? = some (.ref a1) := xg o0
    have x1 : XV[1]? = some (.ref a0) := xg o1
    have x2 : (XV.map v_iv).getD na 0 = sp.toInt := by rw [List.getD_eq_getElem?_getD, List.getElem?_map, xg o2]; rfl
    have x3 : (XV.map v_iv).getD (na + 1) 0 = dp.toInt := by rw [List.getD_eq_getElem?_getD, List.getElem?_map, xg o3]; rfl
    have x4 : (XV.map v_iv).getD (na + 2) 0 = n.toInt := by rw [List.getD_eq_getElem?_getD, List.getElem?_map, xg o4]; rfl
    have u0 : ∀ (w : va_W) (z : Int), vwU w na XV 0 z = w_ei w a1 z := fun w z => by unfold vwU; rw [x0]; exact if_pos (by omega)
    have u1 : ∀ (w : va_W) (z : Int), vwU w na XV 1 z = w_ei w a0 z := fun w z => by unfold vwU; rw [x1]; exact if_pos (by omega)
    have pre : PQ.1 k1 (fun _ _ => 0) (fun i _ => vwU ws na XV i) (XV.map v_iv) := by
      rw [hXV]; exact e3
    obtain ⟨i0, c0, hq0, hgo0⟩ := th_at hth ha0 hg1
    obtain ⟨i1, c1, hq1, hgo1⟩ := th_at hth ha1 hg2
    rcases hgo0 with ⟨_, l0, f, rfl, la1, la2, _, hf, _⟩ | ⟨z, _⟩ | ⟨z, _⟩ | ⟨z, _⟩
    rotate_left
    · exact absurd z (by show ¬ (0 : Nat) = 3; omega)
    · exact absurd z (by show ¬ 4 ≤ (0 : Nat); omega)
    · exact absurd z (by show ¬ 10 ≤ (0 : Nat); omega)
    rcases hgo1 with ⟨z1, l1, g, rfl, lb1, lb2, lb3, hg, hg_zq⟩ | ⟨z, _⟩ | ⟨z, _⟩ | ⟨z, _⟩
    rotate_left
    · exact absurd z (by show ¬ (0 : Nat) = 3; omega)
    · exact absurd z (by show ¬ 4 ≤ (0 : Nat); omega)
    · exact absurd z (by show ¬ 10 ≤ (0 : Nat); omega)
    have la1_zq : n1 ≤ l0 := la1
    have lb1_zq : n2 ≤ l1 := lb1
    have lt0 : ∀ x : Int32, 0 ≤ x.toInt → ¬ x < 0 := fun x hx q => by have h7 := i32_lt.mp q; rw [show (0 : Int32).toInt = 0 from rfl] at h7; omega
    have tn : ∀ x : Int32, x.toNatClampNeg = x.toInt.toNat := fun _ => rfl
    have hml : c.maxLocals = ls.size := X.2.2.1.trans hls.symm
    have room : (rest.map fun v => v.category).sum + (nativeFrameWords "java/lang/System" "arraycopy" 5 + 11) ≤ R.locals := by
      have : nativeFrameWords "java/lang/System" "arraycopy" 5 ≤ 30 := by decide +kernel
      have h64 : 64 * (rk + 1) ≤ R.locals := hlo
      omega
    have hfr1 : 1 ≤ R.frames := by have : rk + 1 ≤ R.frames := hfr; omega
    have lt1 : i1 < ws.length := (List.getElem?_eq_some_iff.mp hq1).1
    have fin : ∀ (H1 : Heap) (locs1 : List Loc), va_P D classes (ws.set i1 (a1, .inl (kA 0, l1, .inl (va_cpy f g sp.toNatClampNeg dp.toNatClampNeg n.toNatClampNeg)))) H1 → va_D A (ws.set i1 (a1, .inl (kA 0, l1, .inl (va_cpy f g sp.toNatClampNeg dp.toNatClampNeg n.toNatClampNeg)))) → va_S A s.heap H1 locs1 → W p l e R s m args below meth c H1 locs1 cells slots Q (F0 m (pc + 3) ls rest) := fun H1 locs1 g1 g2 g3 => by
      have hnew : (ws.set i1 (a1, .inl (kA 0, l1, .inl (va_cpy f g sp.toNatClampNeg dp.toNatClampNeg n.toNatClampNeg))))[i1]? = some (a1, .inl (kA 0, l1, .inl (va_cpy f g sp.toNatClampNeg dp.toNatClampNeg n.toNatClampNeg))) := by rw [List.getElem?_set_self lt1]
      obtain ⟨w1, hw1⟩ : ∃ w1, w1 = ws.set i1 (a1, .inl (kA 0, l1, .inl (va_cpy f g sp.toNatClampNeg dp.toNatClampNeg n.toNatClampNeg))) := ⟨_, rfl⟩
      have post : PQ.1 k2 (fun _ _ => 0) (fun i _ => vwU w1 na XV i) (XV.map v_iv) := by
        refine hT (fun i => vwU ws na XV i) (fun i => vwU w1 na XV i) (XV.map v_iv) sp.toInt dp.toInt n.toInt sp0 dp0 n0 (fun j j0 => ?_) ?_ ?_ x2 x3 x4 pre
        · show vwU w1 na XV 0 j = if dp.toInt ≤ j ∧ j < dp.toInt + n.toInt then vwU ws na XV 1 (sp.toInt + (j - dp.toInt)) else vwU ws na XV 0 j
          rw [u0, u0, u1]
          show w_el w1 a1 j.toNat = if dp.toInt ≤ j ∧ j < dp.toInt + n.toInt then w_el ws a0 (sp.toInt + (j - dp.toInt)).toNat else w_el ws a1 j.toNat
          rw [hw1, w_el_i g2 hnew, w_el_i hD hq0, w_el_i hD hq1, cpy_el, tn, tn, tn]
          by_cases hc : dp.toInt ≤ j ∧ j < dp.toInt + n.toInt
          · rw [if_pos hc, if_pos (by omega), show sp.toInt.toNat + (j.toNat - dp.toInt.toNat) = (sp.toInt + (j - dp.toInt)).toNat by omega]
          · rw [if_neg hc, if_neg (by omega)]
        · show (∀ j, vwU w1 na XV 1 j = vwU ws na XV 1 j) ∨ ((∀ j, vwU w1 na XV 1 j = vwU w1 na XV 0 j) ∧ ∀ j, vwU ws na XV 1 j = vwU ws na XV 0 j)
          by_cases hi : i0 = i1
          · right
            subst hi
            rw [hq0] at hq1
            have ea : a0 = a1 := by have := Option.some.inj hq1; injection this
            exact ⟨fun j => by rw [u0, u1, ea], fun j => by rw [u0, u1, ea]⟩
          · left
            intro j
            rw [u1, u1]
            show w_el w1 a0 j.toNat = w_el ws a0 j.toNat
            have hold : (ws.set i1 (a1, .inl (kA 0, l1, .inl (va_cpy f g sp.toNatClampNeg dp.toNatClampNeg n.toNatClampNeg))))[i0]? = some (a0, .inl (kA 0, l0, .inl f)) := by rw [List.getElem?_set_ne (fun q => hi q.symm)]; exact hq0
            rw [hw1, w_el_i g2 hold, w_el_i hD hq0]
        · intro i hi j
          show vwU w1 na XV i j = vwU ws na XV i j
          unfold vwU
          by_cases hin : i < na
          · have h8 := List.all_eq_true.mp o7 i (List.mem_range.mpr hin)
            rw [show decide (i < 2) = false by simp; omega, Bool.false_or] at h8
            cases hq : nl[i]? with
            | none => rw [hq] at h8; cases h8
            | some q =>
              rw [hq] at h8
              simp only [Bool.and_eq_true, decide_eq_true_eq] at h8
              cases hk : gk[q - 5]? with
              | none => rw [hk] at h8; exact absurd h8.2 (by simp)
              | some t =>
                rw [hk] at h8
                simp only [Bool.and_eq_true, decide_eq_true_eq] at h8
                obtain ⟨v, hv1, hv2⟩ := ag_get hhv hk
                obtain ⟨a, r, rfl, ha, hr⟩ := tv_ref hv2 h8.2.1
                have hne : a ≠ a1 := fun e => by
                  have h9 := List.all_eq_true.mp h8.2.2 r hr
                  simp only [decide_eq_true_eq] at h9
                  rw [e, ha1] at ha
                  exact h9 (Option.some.inj ha).symm
                have hxi : XV[i]? = some (.ref a) := by
                  rw [xg hq]
                  have : n_v ([.ref a0, .int sp, .ref a1, .int dp, .int n] ++ [] ++ hv) q = .ref a := by
                    unfold n_v
                    rw [List.append_nil, List.getElem?_append_right (by show 5 ≤ q; omega)]
                    show (hv[q - 5]?).getD .null = _
                    rw [hv1]; rfl
                  rw [this]
                rw [hxi]
                show (if i < na then w_el w1 a j.toNat else 0) = (if i < na then w_el ws a j.toNat else 0)
                rw [hw1, w_el_ne g2 hq1 hne]
          · cases XV[i]? with
            | none => rfl
            | some x => show (if i < na then _ else _) = (if i < na then _ else _); rw [if_neg hin, if_neg hin]
      refine kk ta _ H1 locs1 none (fun _ _ q => q) (th_set hD hth hq1 ha1 hg2 (Or.inl ⟨(by show (0 : Nat) < 3; omega), l1, _, rfl, lb1, lb2, lb3, fun j hj => ?_, fun j t_zq hj ht_zq => by cases ht_zq⟩)) g1 g2 g3 trivial ⟨fun f hf => ?_, Or.inl rfl⟩ (fun q => by cases q) (kp_arr hq1 ha1 (by show (2 ^ r2).testBit r2 = true; rw [Nat.testBit_two_pow_self]))
      · unfold va_cpy
        split
        · rename_i hc
          have hin : j < l1 := hj
          have hcn : sp.toNatClampNeg + (j - dp.toNatClampNeg) < l0 := by rw [tn, tn] at *; omega
          have hb : lo2 ≤ (f (sp.toNatClampNeg + (j - dp.toNatClampNeg))).toInt ∧ (f (sp.toNatClampNeg + (j - dp.toNatClampNeg))).toInt ≤ hi2 := by
            rcases hle with hle | hle
            · have := tv_rng (hf _ hcn)
              have q : lo1 ≤ (f (sp.toNatClampNeg + (j - dp.toNatClampNeg))).toInt := this.1
              have q2 : (f (sp.toNatClampNeg + (j - dp.toNatClampNeg))).toInt ≤ hi1 := this.2
              omega
            · have q := hle _ _ _ _ _ sp0 dp0 n0 x2 x3 x4 pre ((j : Int) - dp.toInt) (by rw [tn, tn] at *; omega) (by rw [tn, tn] at *; omega)
              have e : w_ei ws a0 (sp.toInt + ((j : Int) - dp.toInt)) = (f (sp.toNatClampNeg + (j - dp.toNatClampNeg))).toInt := by
                show w_el ws a0 (sp.toInt + ((j : Int) - dp.toInt)).toNat = _
                rw [w_el_i hD hq0, tn, tn, show (sp.toInt + ((j : Int) - dp.toInt)).toNat = sp.toInt.toNat + (j - dp.toInt.toNat) by rw [tn, tn] at *; omega]
              have q2 : lo2 ≤ vwU ws na XV 1 (sp.toInt + ((j : Int) - dp.toInt)) ∧ vwU ws na XV 1 (sp.toInt + ((j : Int) - dp.toInt)) ≤ hi2 := q
              rw [u1, e] at q2; exact q2
          exact Or.inl ⟨rfl, _, rfl, hb.1, hb.2⟩
        · exact hg j hj
      · obtain rfl := List.mem_singleton.mp hf
        rw [← hw1]
        refine ⟨fun q hq => ?_, ?_⟩
        · show q < ([Value.ref a0, .int sp, .ref a1, .int dp, .int n] ++ [] ++ hv ++ (none : Option Value).toList).length
          have hl : ([Value.ref a0, .int sp, .ref a1, .int dp, .int n] ++ [] ++ hv ++ (none : Option Value).toList).length = 5 + gk.length := by
            rw [← hgl]; simp; omega
          rw [hl]
          exact of_decide_eq_true (List.all_eq_true.mp o6 q hq)
        · rw [show (none : Option Value).toList = [] from rfl, List.append_nil]
          have p2 := post
          rw [hXV] at p2
          exact p2
    exact va_copyi X.1 X.2.1 hml X.2.2.2.1 (X.2.2.2.2.1 _ hl) (X.2.2.2.2.1 _ hnat) (X.2.2.2.2.1 _ hst) (X.2.2.2.2.1 _ hini) hK hP hD hS i0 i1 0 0 hq0 hq1 rfl rfl rfl (lt0 _ sp0) (lt0 _ dp0) (lt0 _ n0) (by rw [tn, tn]; omega) (by rw [tn, tn]; omega) (fun i hi => rfl) hfr1 room hdec fin
end
end
section
/-! a table that never changes, and what stands in it, exactly -/
section
variable {PQ : pq_T}
theorem cl_tintX {l : Launch} {D : va_G} {kA : Nat → ClassId} {G : List rg_T} {own : String} {r k : Nat} {L : List Int32} {lo hi plo phi : Int} (hr : r = 5400 ∧ L = ro_cnt ∨ r = 5401 ∧ L = ro_sta) (hg : G[r]? = none) (hp : 0 ≤ plo ∧ phi < 7) (hb : ((List.range 7).filter (fun j : Nat => decide (plo ≤ (j : Int)) && decide ((j : Int) ≤ phi))).all (fun j : Nat => decide (lo ≤ (L.getD j 0).toInt) && decide ((L.getD j 0).toInt ≤ hi)) = true) (hT : ∀ j : Nat, j < 7 → PQ.1 k (fun _ _ => 0) (fun _ _ _ => 0) [(j : Int), (L.getD j 0).toInt]) : cl_ok PQ l D kA G own .iaload 1 ([(2, 0, 0, [r]), (0, plo, phi, [])], some (0, lo, hi, []), true, 0, 0, 0, [], [], (0, [], [], [(20, [1, 2], [61, 0, (k : Int)])], [])) := by
  intro p e R s m args below meth c H locs cells slots Q cc pc nL ret nm A ws ta ls av gv hv rest X hK hN hA hP hD hS hth hag hgv hhv hpr hrest hfr hlo hce hsl hls hdec kk
  have hag_zq : ag_ok ta [(2, 0, 0, [r]), (0, plo, phi, [])] av := hag
  cases gv with
  | cons _ _ => exact hgv.elim
  | nil =>
  cases hv with
  | cons _ _ => exact hhv.elim
  | nil =>
  match av, hag_zq with
  | [v0, v1], ⟨h0, h1, _⟩ =>
    obtain ⟨x, rfl, x1, x2⟩ := tv_int h1 rfl
    have y1 : plo ≤ x.toInt := x1
    have y2 : x.toInt ≤ phi := x2
    have hx : 0 ≤ x.toInt := by omega
    obtain ⟨z1, z2, z3⟩ := in_nat (x := x) (n := 7) hx (by omega)
    have hm := List.all_eq_true.mp hb x.toInt.toNat (List.mem_filter.mpr ⟨List.mem_range.mpr (by omega), by simp only [Bool.and_eq_true, decide_eq_true_eq]; omega⟩)
    simp only [Bool.and_eq_true, decide_eq_true_eq] at hm
    have hq := hT x.toInt.toNat (by omega)
    have fin : ∀ v : Int32, v.toInt = (L.getD x.toInt.toNat 0).toInt → W p l e R s m args below meth c H locs cells slots Q (F0 m (pc + 1) ls (.int v :: rest)) := fun v ev => by
      refine kk ta ws H locs (some (.int v)) (fun _ _ q => q) hth hP hD hS (Or.inl ⟨rfl, _, rfl, by rw [ev]; exact hm⟩) ⟨fun f hf => ?_, Or.inl rfl⟩ (fun _ => rfl) kp_refl
      obtain rfl := List.mem_singleton.mp hf
      refine ⟨fun n hn => ?_, ?_⟩
      · have hn_zq : n ∈ [1, 2] := hn
        simp only [List.mem_cons, List.not_mem_nil, or_false] at hn_zq
        show n < 3
        omega
      · show PQ.1 ((k : Int)).toNat (fun _ _ => 0) (fun (i : Nat) (_ : Nat) (z : Int) => match ([1, 2].map (n_v ([v0, .int x] ++ [] ++ [] ++ (some (Value.int v)).toList)))[i]? with | some q => if i < (0 : Int).toNat then w_ei ws (v_ad q) z else 0 | none => 0) (([1, 2].map (n_v ([v0, .int x] ++ [] ++ [] ++ (some (Value.int v)).toList))).map v_iv)
        have ev2 : (fun (i : Nat) (_ : Nat) (z : Int) => match ([1, 2].map (n_v ([v0, .int x] ++ [] ++ [] ++ (some (Value.int v)).toList)))[i]? with | some q => if i < (0 : Int).toNat then w_ei ws (v_ad q) z else 0 | none => 0) = (fun _ _ _ => 0) := by
          funext i _ z
          cases ([1, 2].map (n_v ([v0, .int x] ++ [] ++ [] ++ (some (Value.int v)).toList)))[i]? with
          | none => rfl
          | some q => show (if i < 0 then _ else 0) = 0; rw [if_neg (by omega)]
        rw [ev2, Int.toNat_natCast]
        have el : (([1, 2].map (n_v ([v0, .int x] ++ [] ++ [] ++ (some (Value.int v)).toList))).map v_iv) = [((x.toInt.toNat : Nat) : Int), (L.getD x.toInt.toNat 0).toInt] := by
          show [x.toInt, v.toInt] = _
          rw [ev, show ((x.toInt.toNat : Nat) : Int) = x.toInt by omega]
        rw [el]; exact hq
    rw [ro_is hth hg h0]
    rcases hr with ⟨rfl, rfl⟩ | ⟨rfl, rfl⟩
    · exact va_ti X.1 X.2.1 hN.2.2.2.2.2.1.2 hS z1 rfl hdec (fin _ (by rw [z2]))
    · exact va_ti X.1 X.2.1 hN.2.2.2.2.2.2.2.1 hS z1 rfl hdec (fin _ (by rw [z2]))
end
theorem tbc_all : ∀ j : Nat, j < 7 → TBC (j : Int) ((ro_cnt.getD j 0).toInt) := by
  have : ∀ j : Nat, j < 7 → (ro_cnt.getD j 0).toInt = cof (j : Int) := by decide +kernel
  exact this
theorem tbs_all : ∀ j : Nat, j < 7 → TBS (j : Int) ((ro_sta.getD j 0).toInt) := by
  have : ∀ j : Nat, j < 7 → (ro_sta.getD j 0).toInt = sof (j : Int) := by decide +kernel
  exact this
end
section
variable {PQ : pq_T}
/-- a contract on a part of the world: its own facts (on the part) give other facts (on the whole), where the rest is as it was -/
theorem ct_frame2 {l : Launch} {D : va_G} {kA : Nat → ClassId} {G : List rg_T} {y : MethodName} {z : List Cond} {en en2 : en_T} (h : ct_ok PQ l D kA G y z en) (e1 : en2.1 = en.1) (e2 : en2.2.1 = en.2.1) (e3 : en2.2.2.1 = false) (e4 : en2.2.2.2.1 = en.2.2.2.1) (e5 : en2.2.2.2.2.1 = en.2.2.2.2.1) (e6 : en2.2.2.2.2.2.1 = en.2.2.2.2.2.1) (e7 : en2.2.2.2.2.2.2.1 = [])
    (e8 : en2.2.2.2.2.2.2.2.2.1 = en.2.2.2.2.2.2.2.2.1) (e9 : en2.2.2.2.2.2.2.2.2.2.1 = en.2.2.2.2.2.2.2.2.2.1)
    (hpart : ∀ (ta : Nat → Option Nat) (ws : va_W) (av gv hv : List Value), va_D (fun _ => True) ws → th_ok kA G ta ws → ag_ok ta en2.1 av → gv_ok ta ws av en2.2.2.2.2.2.2.2.1 gv → ag_ok ta en2.2.2.2.2.2.2.2.2.2.2.2.2 hv → pr_ok PQ en2 ws (av ++ gv ++ hv) →
      ∃ (P : Nat → Bool) (gv1 hv1 : List Value), (∀ r, ro_id r = true → P (kA r) = true) ∧ (∀ a r g e, ta a = some r → G[r]? = some g → (a, e) ∈ ws → P a = true → rg_ok kA ta g e → rg_ok kA (t_in P ta) g e) ∧ ag_ok (t_in P ta) en.1 av ∧ gv_ok (t_in P ta) (w_in P ws) av en.2.2.2.2.2.2.2.1 gv1 ∧ ag_ok (t_in P ta) en.2.2.2.2.2.2.2.2.2.2.2.2 hv1 ∧ pr_ok PQ en (w_in P ws) (av ++ gv1 ++ hv1) ∧
        ∀ (u : uS_T) (tb : Nat → Option Nat) (r : Option Value), ta_le (t_in P ta) u.1 → th_ok kA G u.1 u.2 → th_ok kA G tb (w_out P ws ++ u.2) → ta_le ta tb → ta_le u.1 tb → kp en.2.2.2.2.2.2.2.2 (t_in P ta) (w_in P ws) u.2 → va_D (fun _ => True) (w_out P ws ++ u.2) → po_ok PQ u.1 u.2 (av ++ gv1 ++ hv1) en.2.2.2.2.2.2.1 en.2.2.2.2.2.2.2.2.2.2.2.1 r → ∀ f ∈ en2.2.2.2.2.2.2.2.2.2.2.2.1, fc_1 PQ f (w_out P ws ++ u.2) ((av ++ gv ++ hv) ++ r.toList)) : ct_ok PQ l D kA G y z en2 := by
  intro sz ta ws av gv hv hth hag hgv hhv hpr
  by_cases hD0 : va_D (fun _ => True) ws
  · obtain ⟨P, gv1, hv1, hro, hcl, k1, k2, k3, k4, hend⟩ := hpart ta ws av gv hv hD0 hth hag hgv hhv hpr
    have hM := h sz (t_in P ta) (w_in P ws) av gv1 hv1 (th_part hth hro hcl) k1 k2 k3 k4
    rw [e4, e5, e6]
    refine met_imp hM (fun a s ⟨c1, c2⟩ => ⟨c1, wpr_in c2⟩) (fun a s o t ⟨c1, c2⟩ hQ => ?_) (fun q hq => va_A_in q hq)
    obtain ⟨u, r, eo, p1, p2, p3, p4, p5, p6⟩ := qc_out hQ
    obtain ⟨tb, j1, j2, j3, j4, j5, j6⟩ := fr_join hth hro c2 p1 p4 p5
    refine qc_in (u := (tb, w_out P ws ++ u.2)) eo ⟨j1, j3, fun c => ?_, ?_⟩ ?_ ⟨?_, Or.inl e7⟩ j5 j6 (fun q hq => p6 q (by rw [← e2]; exact hq))
    · rw [e3] at c; cases c
    · exact kp_mono (mo := en.2.2.2.2.2.2.2.2) (fun q hq => by rw [e9]; exact hq) (fun r hr => by rw [e8] at hr; exact hr) j4
    · rw [e2]
      revert p2
      cases en.2.1 with
      | none => cases r with | none => exact id | some v => exact id
      | some t => cases r with | none => exact id | some v => exact fun p => tv_mono j2 p
    · exact hend u tb r p1.1 p1.2.1 j3 j1 j2 p1.2.2.2 (j5.2.2.weaken (fun _ _ _ _ => trivial)) p3
  · -- no such world
    intro p e h1 h2 h3 s m args below h4 h5 h6 h7
    exact absurd h6.2.1.2.2.2.1 hD0
/-! frames: the part of the world that a call works on -/
theorem w_at_in {P : Nat → Bool} {a : Nat} (h : P a = true) : ∀ {ws : va_W}, w_at (w_in P ws) a = w_at ws a
  | [] => rfl
  | x :: r => by
    have ih := w_at_in (P := P) (a := a) h (ws := r)
    unfold w_at w_in at ih ⊢
    by_cases e : x.1 = a
    · have hp : P x.1 = true := by rw [e]; exact h
      rw [List.filter_cons_of_pos (p := fun q : Nat × va_E => P q.1) hp, List.find?_cons_of_pos (by simp [e]), List.find?_cons_of_pos (by simp [e])]
    · rw [List.find?_cons_of_neg (l := r) (by simp [e])]
      by_cases hp : P x.1 = true
      · rw [List.filter_cons_of_pos (p := fun q : Nat × va_E => P q.1) hp, List.find?_cons_of_neg (by simp [e])]; exact ih
      · rw [List.filter_cons_of_neg (p := fun q : Nat × va_E => P q.1) hp]; exact ih
theorem w_fd_in {P : Nat → Bool} {a k : Nat} {ws : va_W} (h : P a = true) : w_fd (w_in P ws) a k = w_fd ws a k := by
  unfold w_fd; rw [w_at_in h]
theorem w_el_in {P : Nat → Bool} {a k : Nat} {ws : va_W} (h : P a = true) : w_el (w_in P ws) a k = w_el ws a k := by
  unfold w_el; rw [w_at_in h]
/-- behind the call: the rest is as it was, the part as the call left it -/
theorem w_at_rest {P : Nat → Bool} {ws u : va_W} {a : Nat} {e : va_E} (hD0 : va_D (fun _ => True) ws) (hD : va_D (fun _ => True) (w_out P ws ++ u)) (h : P a = false) (he : (a, e) ∈ ws) : w_at (w_out P ws ++ u) a = w_at ws a := by
  rw [w_at_mem hD (List.mem_append_left _ (w_out_mem.mpr ⟨he, h⟩)), w_at_mem hD0 he]
theorem w_at_part {P : Nat → Bool} {ws u : va_W} {a : Nat} {e : va_E} (hDu : va_D (fun _ => True) u) (hD : va_D (fun _ => True) (w_out P ws ++ u)) (he : (a, e) ∈ u) : w_at (w_out P ws ++ u) a = w_at u a := by
  rw [w_at_mem hD (List.mem_append_right _ he), w_at_mem hDu he]
theorem vd_right {A : Nat → Prop} {ws u : va_W} (hD : va_D A (ws ++ u)) : va_D A u := by
  refine vd_of ?_ (fun q hq => ?_)
  · exact (List.pairwise_append.mp (vd_nd hD)).2.1
  · obtain ⟨k, hk⟩ := List.mem_iff_getElem?.mp (List.mem_append_right ws hq)
    exact hD.2 k q hk
def tv_refs (t : tv_T) : List Nat := if t.1 = 2 ∨ t.1 = 3 then t.2.2.2 else []
def rg_refs (g : rg_T) : List Nat := if g.1 < 4 then [] else if g.1 < 10 then tv_refs g.2.2.2.1 else (g.2.2.2.2.map tv_refs).flatten
/-- regions that lead to none but themselves -/
def cl_S (G : List rg_T) (S : Nat → Bool) : Bool := (List.range G.length).all (fun r => !(S r) || (match G[r]? with | some g => (rg_refs g).all (fun r_zq => S r_zq || ro_id r_zq) | none => true))
/-- objects whose references are arrays of numbers, or lead to such regions -/
def ob_S (G : List rg_T) (S : Nat → Bool) (r : Nat) : Bool := match G[r]? with
  | some g => decide (10 ≤ g.1) && (rg_refs g).all (fun r_zq => S r_zq || ro_id r_zq || (match G[r_zq]? with | some g_zq => decide (g_zq.1 < 4) | none => false))
  | none => false
noncomputable def fr_P (kA : Nat → ClassId) (S : Nat → Bool) (ta : Nat → Option Nat) (ws : va_W) (os : List Nat) (a : Nat) : Bool := @decide ((∃ r, ta a = some r ∧ S r = true) ∨ a ∈ os ∨ (∃ o ∈ os, ∃ k, w_fd ws o k = .ref a) ∨ ∃ r, ro_id r = true ∧ a = kA r) (Classical.propDecidable _)
section M17
variable {kA : Nat → ClassId} {G : List rg_T} {ta : Nat → Option Nat} {ws : va_W} {S : Nat → Bool} {os : List Nat}
theorem fr_P_iff {a : Nat} : fr_P kA S ta ws os a = true ↔ ((∃ r, ta a = some r ∧ S r = true) ∨ a ∈ os ∨ (∃ o ∈ os, ∃ k, w_fd ws o k = .ref a) ∨ ∃ r, ro_id r = true ∧ a = kA r) := by
  unfold fr_P; exact @decide_eq_true_iff _ (Classical.propDecidable _)
theorem tv_inP {P : Nat → Bool} {t : tv_T} {v : Value} (h : tv_ok ta t v) (hp : ∀ b r, v = .ref b → ta b = some r → r ∈ tv_refs t → P b = true) : tv_ok (t_in P ta) t v := by
  rcases h with h | h | ⟨k, a, r, e, h1, h2⟩ | ⟨k, e | ⟨a, r, e, h1, h2⟩⟩ | h | h
  · exact Or.inl h
  · exact Or.inr (Or.inl h)
  · exact Or.inr (Or.inr (Or.inl ⟨k, a, r, e, t_in_of (hp a r e h1 (by unfold tv_refs; rw [if_pos (Or.inl k)]; exact h2)) h1, h2⟩))
  · exact Or.inr (Or.inr (Or.inr (Or.inl ⟨k, Or.inl e⟩)))
  · exact Or.inr (Or.inr (Or.inr (Or.inl ⟨k, Or.inr ⟨a, r, e, t_in_of (hp a r e h1 (by unfold tv_refs; rw [if_pos (Or.inr k)]; exact h2)) h1, h2⟩⟩)))
  · exact Or.inr (Or.inr (Or.inr (Or.inr (Or.inl h))))
  · exact Or.inr (Or.inr (Or.inr (Or.inr (Or.inr h))))
/-- an entry stays as its region says where all that it leads to is in the part -/
theorem rg_in {P : Nat → Bool} {g : rg_T} {e : va_E} (h : rg_ok kA ta g e) (hp : ∀ b r, r ∈ rg_refs g → ta b = some r → (∀ fs : List Value, e = .inr (g.1 - 10, fs) → ∃ j : Nat, fs[j]? = some (.ref b)) → P b = true) : rg_ok kA (t_in P ta) g e := by
  rcases h with ⟨k, n, f, e1, a, b, q, c, d⟩ | ⟨k, n, f, e1, a, b, q, c⟩ | ⟨k, k2, n, f, e1, a, b, c⟩ | ⟨k, fs, e1, a, c⟩
  · exact Or.inl ⟨k, n, f, e1, a, b, q, fun j hj => tv_inP (c j hj) (fun _ _ z => by cases z), fun j t hj ht => tv_inP (d j t hj ht) (fun _ _ z => by cases z)⟩
  · exact Or.inr (Or.inl ⟨k, n, f, e1, a, b, q, fun j hj => tv_inP (c j hj) (fun _ _ z => by cases z)⟩)
  · refine Or.inr (Or.inr (Or.inl ⟨k, k2, n, f, e1, a, b, fun j hj => tv_inP (c j hj) (fun b_zq r_zq z h1 h2 => hp b_zq r_zq ?_ h1 (fun fs e2 => ?_))⟩))
    · unfold rg_refs; rw [if_neg (by omega), if_pos k2]; exact h2
    · rw [e1] at e2; cases e2
  · refine Or.inr (Or.inr (Or.inr ⟨k, fs, e1, a, fun j t v h1 h2 => tv_inP (c j t v h1 h2) (fun b_zq r_zq z h3 h4 => hp b_zq r_zq ?_ h3 (fun fs2 e2 => ?_))⟩))
    · unfold rg_refs; rw [if_neg (by omega), if_neg (by omega)]
      exact List.mem_flatten.mpr ⟨_, List.mem_map.mpr ⟨t, List.mem_of_getElem? h1, rfl⟩, h4⟩
    · rw [e1] at e2
      injection e2 with e3; injection e3 with e4 e5
      subst e5
      exact ⟨j, by rw [h2, z]⟩
theorem fr_ro : ∀ r, ro_id r = true → fr_P kA S ta ws os (kA r) = true := fun r hr => fr_P_iff.mpr (Or.inr (Or.inr (Or.inr ⟨r, hr, rfl⟩)))
theorem fr_cl (hth : th_ok kA G ta ws) (hD : va_D (fun _ => True) ws) (hG : ∀ r, ro_id r = true → G[r]? = none) (hS : cl_S G S = true) (hos : ∀ o ∈ os, ∃ r, ta o = some r ∧ ob_S G S r = true) : ∀ a r g e, ta a = some r → G[r]? = some g → (a, e) ∈ ws → fr_P kA S ta ws os a = true → rg_ok kA ta g e → rg_ok kA (t_in (fr_P kA S ta ws os) ta) g e := by
  intro a r g e ha hg he hp hr
  have roP : ∀ b r_zq, ta b = some r_zq → ro_id r_zq = true → fr_P kA S ta ws os b = true := fun b r_zq h1 h2 => by
    rcases hth.1 b r_zq h1 with ⟨g_zq, e_zq, q1, _⟩ | ⟨_, _, q3, _⟩
    · rw [hG r_zq h2] at q1; cases q1
    · exact fr_P_iff.mpr (Or.inr (Or.inr (Or.inr ⟨r_zq, h2, q3⟩)))
  have inS : S r = true → rg_ok kA (t_in (fr_P kA S ta ws os) ta) g e := fun hs => by
    refine rg_in hr (fun b r_zq h1 h2 _ => ?_)
    have hlt := (List.getElem?_eq_some_iff.mp hg).1
    have h3 := List.all_eq_true.mp hS r (List.mem_range.mpr hlt)
    rw [hs, hg] at h3
    have h4 : (rg_refs g).all (fun r_zq => S r_zq || ro_id r_zq) = true := h3
    have h5 := List.all_eq_true.mp h4 r_zq h1
    rw [Bool.or_eq_true] at h5
    rcases h5 with h5 | h5
    · exact fr_P_iff.mpr (Or.inl ⟨r_zq, h2, h5⟩)
    · exact roP b r_zq h2 h5
  rcases fr_P_iff.mp hp with ⟨r0, h1, h2⟩ | h1 | ⟨o, ho, k, hk⟩ | ⟨r0, h1, h2⟩
  · rw [ha] at h1
    exact inS (by rw [Option.some.inj h1]; exact h2)
  · refine rg_in hr (fun b r_zq h2 h3 h4 => ?_)
    obtain ⟨ro, q1, q2⟩ := hos a h1
    rw [ha] at q1
    obtain rfl := Option.some.inj q1
    unfold ob_S at q2
    rw [hg] at q2
    simp only [Bool.and_eq_true, decide_eq_true_eq] at q2
    rcases hr with ⟨z, _⟩ | ⟨z, _⟩ | ⟨_, z, _⟩ | ⟨_, fs, e1, _, _⟩
    · omega
    · omega
    · omega
    · obtain ⟨j, hj⟩ := h4 fs e1
      refine fr_P_iff.mpr (Or.inr (Or.inr (Or.inl ⟨a, h1, j, ?_⟩)))
      unfold w_fd
      rw [w_at_mem hD he, e1]
      simp only
      rw [List.getD_eq_getElem?_getD, hj]; rfl
  · obtain ⟨ro, q1, q2⟩ := hos o ho
    unfold ob_S at q2
    split at q2
    · rename_i g0 hg0
      rw [Bool.and_eq_true, decide_eq_true_eq] at q2
      obtain ⟨e0, m0, r0⟩ := th_in hth q1 hg0
      have hmem : r ∈ rg_refs g0 := by
        rcases r0 with ⟨z, _⟩ | ⟨z, _⟩ | ⟨_, z, _⟩ | ⟨_, fs, rfl, l1, hf⟩
        · omega
        · omega
        · omega
        · unfold w_fd at hk
          rw [w_at_mem hD m0] at hk
          simp only at hk
          rw [List.getD_eq_getElem?_getD] at hk
          cases hv : fs[k]? with
          | none => rw [hv] at hk; cases hk
          | some v =>
            rw [hv] at hk
            have hv2 : v = .ref a := hk
            subst hv2
            have hlt := (List.getElem?_eq_some_iff.mp hv).1
            rw [l1] at hlt
            have ht := List.getElem?_eq_getElem hlt
            have htv := hf k _ _ ht hv
            have hr2 : r ∈ tv_refs (g0.2.2.2.2[k]) := by
              rcases htv with ⟨_, x, z, _⟩ | ⟨_, x, z, _⟩ | ⟨kk, a_zq, r_zq, z, z1, z2⟩ | ⟨kk, z | ⟨a_zq, r_zq, z, z1, z2⟩⟩ | ⟨_, x, z, _⟩ | ⟨_, x, z, _⟩
              · cases z
              · cases z
              · cases z; rw [ha] at z1; obtain rfl := Option.some.inj z1; unfold tv_refs; rw [if_pos (Or.inl kk)]; exact z2
              · cases z
              · cases z; rw [ha] at z1; obtain rfl := Option.some.inj z1; unfold tv_refs; rw [if_pos (Or.inr kk)]; exact z2
              · cases z
              · cases z
            unfold rg_refs; rw [if_neg (by omega), if_neg (by omega)]
            exact List.mem_flatten.mpr ⟨_, List.mem_map.mpr ⟨_, List.getElem_mem hlt, rfl⟩, hr2⟩
      have h5 := List.all_eq_true.mp q2.2 r hmem
      rw [Bool.or_eq_true, Bool.or_eq_true] at h5
      rcases h5 with (h5 | h5) | h5
      · exact inS h5
      · rw [hG r h5] at hg; cases hg
      · rw [hg] at h5
        have h6 : g.1 < 4 := by simpa using h5
        refine rg_in hr (fun b r_zq h2 _ _ => ?_)
        unfold rg_refs at h2; rw [if_pos h6] at h2; cases h2
    · cases q2
  · obtain ⟨r1, z1, z2, _⟩ := hth.2 r0 h1
    rw [← h2, ha] at z2
    rw [Option.some.inj z2, hG r1 z1] at hg; cases hg
end M17
end
