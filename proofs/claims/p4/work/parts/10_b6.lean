/-! around a node -/
theorem around {A : pa_T} {nx : Int → Int → Int} (m : mp A nx) {χ : Int → Int → Bool} (hc : finv A nx χ) {v : Int} (h : ∀ u, A u v → fbd χ u v = false) : ∀ u u', A u v → A u' v → χ u v = χ u' v := by
  intro u u' hu hu'
  refine (m.2.2.2 v (fun w => A w v ∧ χ w v = χ u v) (fun w hw hL => ?_) u u' hu hu' ⟨hu, rfl⟩).2.symm
  have h1 := m.1.1 _ _ (m.2.1 w v hw)
  refine ⟨h1, ?_⟩
  have h2 := h _ h1
  have h3 := hc w v hw
  rw [← hL.2, ← h3]
  unfold fbd at h2
  revert h2
  generalize χ (nx w v) v = r1; generalize χ v (nx w v) = r2
  revert r1 r2; decide
theorem around2 {A : pa_T} {nx : Int → Int → Int} (m : mp A nx) {χ : Int → Int → Bool} (hc : finv A nx χ) {v p : Int} (hp : A p v) (hq : fbd χ (nx p v) v = true) (h : ∀ u, A u v → u ≠ p → u ≠ nx p v → fbd χ u v = false) : ∀ u, A u v → u ≠ p → χ u v = !χ p v := by
  intro u hu hne
  have h0 := ring_to m.2.1 m.1 m.2.2.2 hp u hu
  have hst : ∀ w, A w v → χ (nx w v) v = (χ w v ^^ fbd χ (nx w v) v) := by
    intro w hw
    have h3 := hc w v hw
    unfold fbd
    rw [h3]
    generalize χ (nx w v) v = r1; generalize χ w v = r2
    revert r1 r2; decide
  refine rc_ind (L := fun u => A u v ∧ (u ≠ p → χ u v = !χ p v)) h0 ⟨m.1.1 _ _ (m.2.1 p v hp), fun _ => ?_⟩ (fun a b _ r ih => ?_) |>.2 hne
  · rw [hst p hp, hq]
    generalize χ p v = r1; revert r1; decide
  · obtain ⟨r1, r2, r3⟩ := r
    rw [r3]
    have hA := m.1.1 _ _ (m.2.1 a v r1)
    refine ⟨hA, fun hp2 => ?_⟩
    rw [hst a r1, h _ hA hp2 (fun e => r2 (m.2.2.1 a p v r1 hp e)), ih.2 r2]
    generalize χ p v = r1; revert r1; decide
/-- a triangle of edges bounds -/
theorem tri_bd {A : pa_T} {nx : Int → Int → Int} {ρ : Int → Int → Int → Bool} (hl : pls A nx ρ) {a b c : Int} (h1 : A a b) (h2 : A b c) (h3 : A c a) : ∃ χ, finv A nx χ ∧ ∀ x y, A x y → fbd χ x y = ((eI a b x y ^^ eI b c x y) ^^ eI c a x y) := by
  obtain ⟨χ1, i1, j1⟩ := hl a b h1
  obtain ⟨χ2, i2, j2⟩ := hl b c h2
  obtain ⟨χ3, i3, j3⟩ := hl c a h3
  refine ⟨_, finv_xor (finv_xor i1 i2) i3, fun x y h => ?_⟩
  rw [fbd_xor, fbd_xor, j1 x y h, j2 x y h, j3 x y h]
  generalize ρ a x y = r1; generalize ρ b x y = r2; generalize ρ c x y = r3; generalize eI a b x y = r4; generalize eI b c x y = r5; generalize eI c a x y = r6
  revert r1 r2 r3 r4 r5 r6; decide
theorem eI_f {a b x y : Int} (h1 : ¬ (x = a ∧ y = b)) (h2 : ¬ (x = b ∧ y = a)) : eI a b x y = false := by
  unfold eI; exact decide_eq_false (fun z => z.elim h1 h2)
theorem deg1 {A : pa_T} {nx : Int → Int → Int} (m : mp A nx) {a b : Int} (h : A a b) (e : nx a b = a) : ∀ u, A u b → u = a := fun u hu => m.2.2.2 b (fun w => w = a) (fun w _ hL => by rw [hL]; exact e) a u h hu rfl
/-- a face of more than three has a place to be cut -/
theorem cut3 {A : pa_T} {nx : Int → Int → Int} {ρ : Int → Int → Int → Bool} (m : mp A nx) (hl : pls A nx ρ) {a b c d : Int} (hab : A a b) (ec : nx a b = c) (ed : nx b c = d) (c1 : a = c ∨ A a c) (c2 : b = d ∨ A b d) (c3 : c = nx c d ∨ A c (nx c d)) : (c = a ∧ d = b) ∨ (d = a ∧ nx c d = b) := by
  have hs := m.1.1
  have hi := m.1.2
  have hbc : A b c := ec ▸ m.2.1 a b hab
  have hcd : A c d := ed ▸ m.2.1 b c hbc
  rcases c1 with c1 | c1
  · -- b has one neighbour
    left
    refine ⟨c1.symm, ?_⟩
    rcases c2 with c2 | c2
    · exact c2.symm
    · have h1 := deg1 m hab (by rw [ec]; exact c1.symm) d (hs _ _ c2)
      exact absurd (h1.trans c1).symm (hi _ _ hcd)
  · right
    have hca := hs _ _ c1
    have hne_ab := hi _ _ hab
    have hne_bc := hi _ _ hbc
    have hne_ac := hi _ _ c1
    have hdb : b ≠ d := fun e => by
      have h1 := deg1 m hbc (by rw [ed]; exact e.symm) a c1
      exact hne_ab h1
    obtain ⟨χ, hf, hb⟩ := tri_bd hl hab hbc hca
    have k0 : χ b c = χ a b := by rw [← ec]; exact hf a b hab
    have k1 : χ c d = χ a b := by rw [← k0, ← ed]; exact hf b c hbc
    have flip : ∀ x y, A x y → eI a b x y = false → eI b c x y = false → eI c a x y = false → χ x y = χ y x := by
      intro x y h e1 e2 e3
      have h2 := hb x y h
      rw [e1, e2, e3] at h2
      unfold fbd at h2
      revert h2
      generalize χ x y = r1; generalize χ y x = r2
      revert r1 r2; decide
    by_cases hda : d = a
    · refine ⟨hda, ?_⟩
      apply Classical.byContradiction
      intro hw
      have hcw : A c (nx c d) := by
        rcases c3 with c3 | c3
        · have h1 := deg1 m hcd c3.symm b (by rw [hda]; exact hs _ _ hab)
          exact absurd h1 hne_bc
        · exact c3
      have haw : A a (nx c d) := hda ▸ m.2.1 c d hcd
      generalize hW : nx c d = w at *
      have hwc := hi _ _ hcw
      have hwa := hi _ _ haw
      -- at c
      have h5 := around2 m hf (v := c) (p := b) hbc (by
        rw [ed, hda]
        rw [hb a c c1, eI_f (fun z => hne_bc z.2.symm) (fun z => hne_ab z.1), eI_f (fun z => hne_ab z.1) (fun z => hne_ac z.1), eI_self2]; rfl) (fun u hu h1 h2 => by
        rw [ed, hda] at h2
        rw [hb u c hu, eI_f (fun z => h2 z.1) (fun z => h1 z.1), eI_f (fun z => h1 z.1) (fun z => hne_bc z.2.symm), eI_f (fun z => hne_ac z.2.symm) (fun z => h2 z.1)]; rfl) w (hs _ _ hcw) hw
      have h6 := around m hf (v := w) (fun u hu => by
        rw [hb u w hu, eI_f (fun z => hw z.2) (fun z => hwa z.2.symm), eI_f (fun z => hwc z.2.symm) (fun z => hw z.2), eI_f (fun z => hwa z.2.symm) (fun z => hwc z.2.symm)]; rfl) c a hcw haw
      have h7 : χ w c = χ c w := flip w c (hs _ _ hcw) (eI_f (fun z => hwa z.1.symm) (fun z => hw z.1)) (eI_f (fun z => hw z.1) (fun z => hwc z.1.symm)) (eI_f (fun z => hwc z.1.symm) (fun z => hwa z.1.symm))
      have h8 : χ a w = χ c d := by have := hf c d hcd; rw [hW, hda] at this; rw [this, hda]
      rw [k0] at h5
      rw [h8, k1, ← h7, h5] at h6
      revert h6
      generalize χ a b = r; revert r; decide
    · exfalso
      have hbd : A b d := c2.elim (fun e => absurd e hdb) id
      have hdc := hi _ _ hcd
      have h5 := around2 m hf (v := b) (p := a) hab (by
        rw [ec, hb c b (hs _ _ hbc), eI_f (fun z => hne_ac z.1.symm) (fun z => hne_bc z.1.symm), eI_self2, eI_f (fun z => hne_ab z.2.symm) (fun z => hne_ac z.1.symm)]; rfl) (fun u hu h1 h2 => by
        rw [ec] at h2
        rw [hb u b hu, eI_f (fun z => h1 z.1) (fun z => hne_ab z.2.symm), eI_f (fun z => hne_bc z.2) (fun z => h2 z.1), eI_f (fun z => h2 z.1) (fun z => h1 z.1)]; rfl) d (hs _ _ hbd) hda
      have h6 := around m hf (v := d) (fun u hu => by
        rw [hb u d hu, eI_f (fun z => hdb z.2.symm) (fun z => hda z.2), eI_f (fun z => hdc z.2.symm) (fun z => hdb z.2.symm), eI_f (fun z => hda z.2) (fun z => hdc z.2.symm)]; rfl) b c hbd hcd
      have h7 : χ d b = χ b d := flip d b (hs _ _ hbd) (eI_f (fun z => hda z.1) (fun z => hdb z.1.symm)) (eI_f (fun z => hdb z.1.symm) (fun z => hdc z.1.symm)) (eI_f (fun z => hdc z.1.symm) (fun z => hda z.1))
      rw [k1, ← h7, h5] at h6
      revert h6
      generalize χ a b = r; revert r; decide
/-! counting -/
theorem php : ∀ (N M : Nat) (f : Nat → Nat), (∀ i, i < N → f i < M) → (∀ i j, i < N → j < N → f i = f j → i = j) → N ≤ M
  | 0, _, _, _, _ => Nat.zero_le _
  | N + 1, M, f, h1, h2 => by
    have hM := h1 N (by omega)
    have := php N (M - 1) (fun i => if f N < f i then f i - 1 else f i) (fun i hi => ?_) (fun i j hi hj e => ?_)
    · omega
    · show (if f N < f i then f i - 1 else f i) < M - 1
      have a1 := h1 i (by omega)
      have a2 : f i ≠ f N := fun e => by have := h2 i N (by omega) (by omega) e; omega
      split <;> omega
    · have e' : (if f N < f i then f i - 1 else f i) = (if f N < f j then f j - 1 else f j) := e
      have a2 : f i ≠ f N := fun e => by have := h2 i N (by omega) (by omega) e; omega
      have a3 : f j ≠ f N := fun e => by have := h2 j N (by omega) (by omega) e; omega
      refine h2 i j (by omega) (by omega) ?_
      split at e' <;> split at e' <;> omega
def bitsN (f : Nat → Bool) : Nat → Nat
  | 0 => 0
  | n + 1 => bitsN f n + (if f n then 2 ^ n else 0)
theorem bitsN_lt (f : Nat → Bool) : ∀ n, bitsN f n < 2 ^ n
  | 0 => by show 0 < 1; omega
  | n + 1 => by
    have := bitsN_lt f n
    show bitsN f n + (if f n then 2 ^ n else 0) < 2 ^ (n + 1)
    rw [Nat.pow_succ]
    split <;> omega
theorem bitsN_inj {f g : Nat → Bool} : ∀ n, bitsN f n = bitsN g n → ∀ i, i < n → f i = g i
  | 0, _, i, h => by omega
  | n + 1, e, i, h => by
    have h1 := bitsN_lt f n
    have h2 := bitsN_lt g n
    have e' : bitsN f n + (if f n then 2 ^ n else 0) = bitsN g n + (if g n then 2 ^ n else 0) := e
    have hn : f n = g n := by
      cases hf : f n <;> cases hg : g n <;> rw [hf, hg] at e' <;> simp at e' <;> first | rfl | omega
    rw [hn] at e'
    by_cases q : i = n
    · rw [q, hn]
    · exact bitsN_inj n (by omega) i (by omega)
/-- a map of bits that does not forget needs as many -/
theorem php2 {K M : Nat} (F : (Nat → Bool) → Nat → Bool) (h : ∀ B B', (∀ i, i < M → F B i = F B' i) → ∀ i, i < K → B i = B' i) : K ≤ M := by
  have := php (2 ^ K) (2 ^ M) (fun i => bitsN (F (fun j => Nat.testBit i j)) M) (fun i _ => bitsN_lt _ M) (fun i j hi hj e => ?_)
  · exact (Nat.pow_le_pow_iff_right (by omega)).mp this
  · have h1 := h _ _ (bitsN_inj M e)
    apply Nat.eq_of_testBit_eq
    intro k
    by_cases q : k < K
    · exact h1 k q
    · rw [Nat.testBit_lt_two_pow (Nat.lt_of_lt_of_le hi (Nat.pow_le_pow_right (by omega) (by omega))), Nat.testBit_lt_two_pow (Nat.lt_of_lt_of_le hj (Nat.pow_le_pow_right (by omega) (by omega)))]
