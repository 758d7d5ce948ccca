/-! what the rows of strong parts and their orders want in the class -/
theorem wox_none {tl wt lk : Int → Int} {a b e an : Int} (he : e = lk (a * 24 + b)) (h : e = -1) (ha : an = 0) : WOX tl wt lk a b an := by unfold WOX wO; rw [if_neg (fun q => q.1 (by omega))]; exact ha
theorem wox_other {tl wt lk : Int → Int} {a b e t an : Int} (he : e = lk (a * 24 + b)) (ht : t = tl e) (h : t ≠ a) (ha : an = 0) : WOX tl wt lk a b an := by unfold WOX wO; rw [if_neg (fun q => by rw [← he] at q; have := q.2; omega)]; exact ha
theorem wox_in {tl wt lk : Int → Int} {a b e t an : Int} (he : e = lk (a * 24 + b)) (h : e ≠ -1) (ht : t = tl e) (h2 : t = a) (ha : an = wt e) : WOX tl wt lk a b an := by unfold WOX wO; rw [if_pos ⟨by omega, by rw [← he]; omega⟩, ← he]; exact ha
theorem shl_pow {e cn : Int} (h : bvp e = bvp 1 <<< cn.toNat) (c0 : 0 ≤ cn) (c7 : cn ≤ 7) (e0 : 0 ≤ e) (e1 : e ≤ 128) : e = 2 ^ cn.toNat := by
  have key : ∀ c : Nat, c ≤ 7 → (BitVec.ofInt 32 1 <<< c) = BitVec.ofInt 32 (2 ^ c) ∧ ((2 : Int) ^ c ≤ 128 ∧ (0 : Int) ≤ 2 ^ c) := by decide +kernel
  have q := key cn.toNat (by omega)
  have t : ∀ z : Int, 0 ≤ z → z ≤ 128 → (BitVec.ofInt 32 z).toInt = z := fun z z0 z1 => by
    rw [BitVec.toInt_ofInt]; unfold Int.bmod; simp only; split <;> omega
  have a := t e e0 e1
  have b := t (2 ^ cn.toNat) q.2.2 q.2.1
  have h' : BitVec.ofInt 32 e = BitVec.ofInt 32 1 <<< cn.toNat := h
  rw [h', q.1, b] at a
  exact a.symm
/-- ranks of the parts before this one -/
def RKL (n : Int) (lp rk : Int → Int) (k : Int) : Prop := ∀ u v, 0 ≤ u → u < n → 0 ≤ v → v < n → u ≠ v → lp u = lp v → lp u < k → rk u ≠ rk v
def RKM (rk lp mb : Int → Int) (n k cn : Int) : Prop := RKL n lp rk k ∧ ∀ s, 0 ≤ s → s < cn → 0 ≤ mb s ∧ lp (mb s) = k
theorem rkm_set {rk rk' lp mb : Int → Int} {n k cn p x y s : Int} (h : RKM rk lp mb n k cn) (hs : st1 rk rk' p x) (hp : p = y) (hy : y = mb s) (s0 : 0 ≤ s) (s1 : s < cn) : RKM rk' lp mb n k cn := by
  refine ⟨fun u v u0 u1 v0 v1 ne e l => ?_, h.2⟩
  have m := (h.2 s s0 s1).2
  have nu : u ≠ p := fun z => by rw [z, hp, hy, m] at l; omega
  have nv : v ≠ p := fun z => by rw [e, z, hp, hy, m] at l; omega
  rw [(hs u u0).2 nu, (hs v v0).2 nv]; exact h.1 u v u0 u1 v0 v1 ne e l
theorem rkm_of {n k cn v : Int} {lp rk mb : Int → Int} (h : RKL n lp rk k) (hm : MGI lp mb k v cn) : RKM rk lp mb n k cn := ⟨h, fun s a b => ⟨(hm.2.2.1 s a b).1, (hm.2.2.1 s a b).2.2⟩⟩
theorem rkl_next {n k k' cn : Int} {lp rk mb : Int → Int} (h : RKM rk lp mb n k cn) (hm : MGI lp mb k n cn) (ho : ORE rk mb cn) (hk : k' = k + 1) : RKL n lp rk k' := fun u v u0 u1 v0 v1 ne e l => by
  by_cases c : lp u = k
  · obtain ⟨s, s0, s1, s2⟩ := hm.2.2.2.2 u u0 u1 c
    obtain ⟨t, t0, t1, t2⟩ := hm.2.2.2.2 v v0 v1 (by omega)
    rw [← s2, ← t2]
    by_cases d : s < t
    · exact ho s t s0 d t1
    · have : s ≠ t := fun z => ne (by rw [← s2, ← t2, z])
      exact fun q => ho t s t0 (by omega) s1 q.symm
  · exact h.1 u v u0 u1 v0 v1 ne e (by omega)
theorem rkl_one {n k k' cn : Int} {lp rk mb : Int → Int} (h : RKL n lp rk k) (hm : MGI lp mb k n cn) (hc : cn ≤ 1) (hk : k' = k + 1) : RKL n lp rk k' := fun u v u0 u1 v0 v1 ne e l => by
  by_cases c : lp u = k
  · obtain ⟨s, s0, s1, s2⟩ := hm.2.2.2.2 u u0 u1 c
    obtain ⟨t, t0, t1, t2⟩ := hm.2.2.2.2 v v0 v1 (by omega)
    exact absurd (by rw [← s2, ← t2, show s = t by omega]) ne
  · exact h u v u0 u1 v0 v1 ne e (by omega)
theorem rkl_start {n k : Int} {lp rk : Int → Int} (hk : k = 0) (h : ∀ v, 0 ≤ v → v < n → 0 ≤ lp v) : RKL n lp rk k := fun u v u0 u1 _ _ _ _ l => by have := h u u0 u1; omega
/-- labels are below their number -/
def NBR (nb : Int → Int) (n ct : Int) : Prop := ∀ v, 0 ≤ v → v < n → 0 ≤ nb v ∧ nb v < ct
theorem nbr_of {n i ct an : Int} {r nb : Int → Int} (h : NBI n r nb i ct) (hi : n ≤ i) (ha : an = ct) : NBR nb n an := fun v a b => by
  rcases h.2.2.1 v a b with q | q
  · exact absurd q (h.2.2.2.1 v a (by omega) b)
  · omega
theorem rkp_of {n k ct : Int} {lp rk : Int → Int} (h : RKL n lp rk k) (hn : NBR lp n ct) (hk : ct ≤ k) : RKP n lp rk := fun u v u0 u1 v0 v1 ne e => h u v u0 u1 v0 v1 ne e (by have := hn u u0 u1; omega)
def TUI (tl hd lp rk tu : Int → Int) (e : Int) : Prop := 0 ≤ e ∧ ∀ j, 0 ≤ j → j < e → (tu j ≠ 0 ↔ lp (tl j) = lp (hd j) ∧ rk (hd j) < rk (tl j))
theorem tui_step {tl hd lp rk tu tu' : Int → Int} {e e' a b x p : Int} (h : TUI tl hd lp rk tu e) (ha : a = tl e) (hb : b = hd e) (hs : st1 tu tu' p x) (hp : p = e) (hx : (x = 1 ∧ lp a = lp b ∧ rk b < rk a) ∨ (x = 0 ∧ ¬ (lp a = lp b ∧ rk b < rk a))) (he : e' = e + 1) : TUI tl hd lp rk tu' e' := by
  obtain ⟨h1, h2⟩ := h
  refine ⟨by omega, fun j j0 j1 => ?_⟩
  by_cases c : j = e
  · rw [(hs j j0).1 (by omega), c, ← ha, ← hb]
    rcases hx with ⟨q, r⟩ | ⟨q, r⟩
    · exact ⟨fun _ => r, fun _ => by omega⟩
    · exact ⟨fun z => absurd q z, fun z => absurd z r⟩
  · rw [(hs j j0).2 (by omega)]; exact h2 j j0 (by omega)
/-- names in the order that the class's predicates take -/
def NBA (r nb : Int → Int) (n i ct : Int) : Prop := NBI n r nb i ct
def NBB (r nb : Int → Int) (n i j ct : Int) : Prop := NBJ n r nb i j ct
def NBQ (r nb : Int → Int) (n : Int) : Prop := NBP n r nb
def NBL (n : Int) (r lp : Int → Int) : Prop := NBP n r lp
def ERI (r tl hd : Int → Int) (e : Int) : Prop := 0 ≤ e ∧ ∀ j, 0 ≤ j → j < e → bit (r (tl j)) (hd j)
theorem eri_step {r r' tl hd : Int → Int} {e e' a b x q p z : Int} (h : ERI r tl hd e) (ha : a = tl e) (hb : b = hd e) (b0 : 0 ≤ b) (b1 : b < 32) (a0 : 0 ≤ a) (hz : z = r a) (hq : bvp q = bvp 1 <<< b.toNat) (hx : bvp x = bvp z ||| bvp q) (hs : st1 r r' p x) (hp : p = a) (he : e' = e + 1) (ht : ∀ j, 0 ≤ j → j < 48 → 0 ≤ tl j ∧ tl j ≤ 23) (e48 : e < 48) : ERI r' tl hd e' := by
  obtain ⟨h1, h2⟩ := h
  refine ⟨by omega, fun j j0 j1 => ?_⟩
  have tj := ht j j0 (by omega)
  by_cases d : tl j = p
  · rw [(hs _ tj.1).1 d, bit_or hx]
    by_cases c : j = e
    · rw [c, ← hb, bit_shl hq rfl b0 b0 b1]; exact Or.inr rfl
    · rw [hz, ← hp, ← d]; exact Or.inl (h2 j j0 (by omega))
  · rw [(hs _ tj.1).2 d]
    by_cases c : j = e
    · rw [c, ← ha] at d; exact absurd hp.symm d
    · exact h2 j j0 (by omega)
theorem erc_eri {m e : Int} {r tl hd : Int → Int} (h : ERI r tl hd e) (he : m ≤ e) : ERC m r tl hd := fun j a b => h.2 j a (by omega)
theorem tpo_all {n m e : Int} {r lp rk tl hd tu : Int → Int} (hg : GKE n m tl hd) (n24 : n ≤ 24) (hw : WKn r n n) (he : ERC m r tl hd) (hn : NBL n r lp) (hr : RKP n lp rk) (hk : ∀ v, 0 ≤ v → v < 24 → 0 ≤ rk v ∧ rk v ≤ 23) (ht : TUI tl hd lp rk tu e) (hm : m ≤ e) : TPO m tl hd tu := tpo_rank hg n24 hw he hn hr hk (fun j a b => ht.2 j a (by omega))
def WKG (n : Int) (r : Int → Int) : Prop := WKn r n n
def NBT (n : Int) (lp : Int → Int) (ct : Int) : Prop := NBR lp n ct
def TUJ (lp rk tu tl hd : Int → Int) (e : Int) : Prop := TUI tl hd lp rk tu e
